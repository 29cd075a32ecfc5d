/-! ===== READ 40: read ===== -/
section RDF
variable {N n : Nat} {SC SM : rx_S}
theorem good_end {z : tks} {sd p : Nat} {S1 SC1 SM1 : rx_S} (hN : 5000 ≤ N) (hF : tkF z) (hI : Inv N n SC SM) (hs : sd < 2) (hR : RD z sd p SC1 SM1) (h0 : SC1.1 13 8 = 0) (h1 : f_X4_readTape N (SC.1 0 1) SC = some (0, S1)) (h13 : S1.1 13 7 = -1) (hr : ∀ r, r ≠ 13 → S1.1 r = SC1.1 r) (hL : S1.2 = SC1.2) (hqC : qC SC SC1) (h2 : f_X11_read N SM = rdE N (rx_ui SM1 94 17 (-1))) (hqM : qM sd SM SM1) (h94 : SM1.1 94 2 = 0) (h19 : SM1.1 94 19 = nI sd) : ∃ r SC' SM', f_X10_read N SC = some (r, SC') ∧ f_X11_read N SM = some (r, SM') ∧ Inv N (n + 1) SC' SM' := by
  obtain ⟨-, -, k1, k2, -, -, -, -, ⟨nx, ds, u1, -, u3, -⟩, -⟩ := hI
  obtain ⟨nS, nC, nT, nc, c, b, cm, m, ⟨c1, c2, c3, c4, c5, c6, c7, c8, c9⟩, ⟨m1, m2, m3, m4, m5, m6, m7⟩, hnm, hcl, hct⟩ := hR
  have hm0 : m.1 = 0 := by
    have := c1.2.2.2.2.1
    have e := this.1
    rw [h0] at e
    by_cases q : m.1 = 0
    · exact q
    · exact absurd e.symm (nI_ne0 (by omega) (by have := this.2.1; omega))
  obtain ⟨-, -, e3, e4, e5, e6⟩ := hct hm0
  obtain ⟨L, hLaw⟩ := law_ch hcl
  have hb : b ≤ 260 := by
    have h4 := m2.2.2.2.2.2
    have h5 := m1.2.2.1
    have h6 := hF.2.1
    omega
  -- the class
  have hc' : ∃ S', f_X10_read N SC = some (0, S') ∧ (∀ j, j < 420 → S'.1 4 j = SC1.1 21 j) ∧ (∀ j, j < 7 → S'.1 5 j = SC1.1 22 j) ∧ (∀ j, j < 6 → S'.1 8 j = SC1.1 25 j ∧ S'.1 9 j = SC1.1 26 j ∧ S'.1 10 j = SC1.1 27 j) ∧ (∀ j, j < 4 → S'.1 11 j = SC1.1 28 j ∧ S'.1 12 j = SC1.1 29 j) ∧ (∀ j, 6 ≤ j → j ≤ 10 → S'.1 2 j = SC1.1 19 j) ∧ S'.1 0 1 = 0 ∧ S'.1 0 2 = -1 ∧ S'.1 33 3 = SC.1 33 3 ∧ S'.1 33 4 = 0 ∧ (∀ s, s < 3 → S'.1 79 s = 0) ∧ S'.1 91 4 = 0 ∧ S'.2 15 = SC.2 15 ∧ (∃ M D : Nat → Int32, (∀ a, a < 6 → M a = SC1.1 25 a) ∧ (∀ i, i < 4 → D i = SC1.1 29 i) ∧ ∀ j, j < 48 → S'.1 32 j = bgR nS nC nT M D j) := by
    unfold f_X10_read
    simp only [rx_let]
    rw [h1, bd_some, if_pos rfl, ui_row (show 13 ≠ 0 by decide), h13]
    generalize hA : rx_ui (rx_ui S1 0 1 0) 0 2 (-1) = A
    have Ar : ∀ r, r ≠ 0 → r ≠ 13 → A.1 r = SC1.1 r := fun r q1 q2 => by rw [← hA, ui_row q1, ui_row q1, hr r q2]
    have A1 : A.1 0 1 = 0 := by rw [← hA, ui_get, if_pos rfl, if_neg (by decide), ui_get, if_pos rfl, if_pos rfl]
    have A2 : A.1 0 2 = -1 := by rw [← hA, ui_get, if_pos rfl, if_pos rfl]
    have AL : A.2 = SC1.2 := by rw [← hA]; exact hL
    obtain ⟨B, eB, b4, b5, b8, b11, b2, br, bL⟩ := copyC (S := A)
    rw [eB, bd_some]
    obtain ⟨u, C, eC, fC', rC⟩ := beginC (N := N) (S := B) (nS := nS) (nC := nC) (nT := nT) hN (by rw [b2 6 (by omega) (by omega), Ar 19 (by decide) (by decide)]; exact c4) (by rw [b2 7 (by omega) (by omega), Ar 19 (by decide) (by decide)]; exact c6) (by rw [b2 8 (by omega) (by omega), Ar 19 (by decide) (by decide)]; exact c8) c5 c7 c9
    rw [eC, bd_some]
    unfold f_X3_forgetDone f_X1_clear
    simp only [rx_let]
    rw [bd_some]
    obtain ⟨u', E, eE, fE, -, zE⟩ := emptyC (N := N) 3 N 0 (rx_ui C 33 4 0) rfl (by omega)
    have eE' : f_X3_emptySlots N (rx_ui C 33 4 0) = some (u', E) := eE
    rw [eE', bd_some, bd_some]
    have Er : ∀ r, r ≠ 33 → r ≠ 79 → r ≠ 91 → (rx_ui E 91 4 0).1 r = C.1 r := fun r q1 q2 q3 => by rw [ui_row q3, fE.1 r q2, ui_row q1]
    have CB : ∀ r, r ≠ 32 → C.1 r = B.1 r := fC'.1
    refine ⟨rx_ui E 91 4 0, rfl, fun j hj => ?_, fun j hj => ?_, fun j hj => ⟨?_, ?_, ?_⟩, fun j hj => ⟨?_, ?_⟩, fun j q1 q2 => ?_, ?_, ?_, ?_, ?_, fun s hs => ?_, ?_, ?_, ⟨B.1 8, B.1 12, fun a ha => ?_, fun i hi => ?_, fun j hj => ?_⟩⟩
    · rw [Er 4 (by decide) (by decide) (by decide), CB 4 (by decide), b4 j hj, Ar 21 (by decide) (by decide)]
    · rw [Er 5 (by decide) (by decide) (by decide), CB 5 (by decide), b5 j hj, Ar 22 (by decide) (by decide)]
    · rw [Er 8 (by decide) (by decide) (by decide), CB 8 (by decide), (b8 j hj).1, Ar 25 (by decide) (by decide)]
    · rw [Er 9 (by decide) (by decide) (by decide), CB 9 (by decide), (b8 j hj).2.1, Ar 26 (by decide) (by decide)]
    · rw [Er 10 (by decide) (by decide) (by decide), CB 10 (by decide), (b8 j hj).2.2, Ar 27 (by decide) (by decide)]
    · rw [Er 11 (by decide) (by decide) (by decide), CB 11 (by decide), (b11 j hj).1, Ar 28 (by decide) (by decide)]
    · rw [Er 12 (by decide) (by decide) (by decide), CB 12 (by decide), (b11 j hj).2, Ar 29 (by decide) (by decide)]
    · rw [Er 2 (by decide) (by decide) (by decide), CB 2 (by decide), b2 j q1 q2, Ar 19 (by decide) (by decide)]
    · rw [Er 0 (by decide) (by decide) (by decide), CB 0 (by decide), br 0 (by decide) (by decide) (by decide) (by decide) (by omega)]; exact A1
    · rw [Er 0 (by decide) (by decide) (by decide), CB 0 (by decide), br 0 (by decide) (by decide) (by decide) (by decide) (by omega)]; exact A2
    · rw [ui_row (by decide), fE.1 33 (by decide), ui_get, if_pos rfl, if_neg (by decide), CB 33 (by decide), br 33 (by decide) (by decide) (by decide) (by decide) (by omega), Ar 33 (by decide) (by decide), hqC.1 33 (by unfold kpC; omega) (by decide)]
    · rw [ui_row (by decide), fE.1 33 (by decide), ui_get, if_pos rfl, if_pos rfl]
    · rw [ui_row (by decide)]; exact zE s (by omega) hs
    · rw [ui_get, if_pos rfl, if_pos rfl]
    · show E.2 15 = _
      rw [fE.2]
      show C.2 15 = _
      rw [fC'.2, bL, AL, hqC.2]
    · rw [(b8 a ha).1, Ar 25 (by decide) (by decide)]
    · rw [(b11 i hi).2, Ar 29 (by decide) (by decide)]
    · rw [Er 32 (by decide) (by decide) (by decide)]; exact rC j hj
  obtain ⟨SC', eC, x4, x5, x8, x11, x2, x01, x02, x33, x334, x79, x91, xL, M, D, xM, xD, x32⟩ := hc'
  -- the reference
  have hm' : ∃ S', f_X11_read N SM = some (0, S') ∧ S'.1 94 18 = nI sd ∧ S'.1 94 17 = -1 ∧ S'.1 94 2 = 0 ∧ S'.1 94 52 = 0 ∧ S'.1 94 62 = 0 ∧ (∀ r, 104 ≤ r → r ≤ 122 → S'.1 r = SM1.1 r) ∧ (∀ s, s < 3 → S'.1 137 s = 0) ∧ S'.2 101 = SM.2 101 ∧ (∀ j, j < 48 → S'.1 126 j = bgM nS nT (fun a => SM1.1 105 (6 * sd + a)) (fun i => SM1.1 111 (4 * sd + i)) j) := by
    rw [h2]
    unfold rdE
    simp only [rx_let]
    have a19 : (rx_ui SM1 94 17 (-1)).1 94 19 = nI sd := by rw [ui_get, if_pos rfl, if_neg (by decide)]; exact h19
    rw [a19]
    generalize hA : rx_ui (rx_ui SM1 94 17 (-1)) 94 18 (nI sd) = A
    have Ar : ∀ r, r ≠ 94 → A.1 r = SM1.1 r := fun r q1 => by rw [← hA, ui_row q1, ui_row q1]
    have A18 : A.1 94 18 = nI sd := by rw [← hA, ui_get, if_pos rfl, if_pos rfl]
    have A17 : A.1 94 17 = -1 := by rw [← hA, ui_get, if_pos rfl, if_neg (by decide), ui_get, if_pos rfl, if_pos rfl]
    have A2 : A.1 94 2 = 0 := by rw [← hA, ui_get, if_pos rfl, if_neg (by decide), ui_get, if_pos rfl, if_neg (by decide)]; exact h94
    have AL : A.2 = SM1.2 := by rw [← hA]; rfl
    obtain ⟨u, B, eB, br, bj, bL, b127⟩ := beginsM (N := N) (S := A) (nS := nS) (nT := nT) (lv := sd) hN hs A18 (by rw [Ar 104 (by decide)]; exact m3) (by rw [Ar 109 (by decide)]; exact m5) c5 c9
    rw [eB, bd_some]
    obtain ⟨u', C, eC', fC', -, c126⟩ := keepsM_L (N := N) 48 N 0 B rfl (by omega)
    have eC'' : f_X11_keepsRow N B = some (u', C) := eC'
    rw [eC'', bd_some]
    obtain ⟨u'', E, eE, e0, fE, -, zE⟩ := unheld_L (N := N) 3 N 0 (rx_ui (rx_ui C 94 52 0) 94 62 0) rfl (by omega)
    have eE' : f_X11_read_L219 N N 0 (rx_ui (rx_ui C 94 52 0) 94 62 0) = some (u'', E) := eE
    rw [eE']
    have Ej : ∀ j, j ≠ 52 → j ≠ 62 → E.1 94 j = C.1 94 j := fun j q1 q2 => by rw [fE.1 94 (by decide), ui_get, if_pos rfl, if_neg q2, ui_get, if_pos rfl, if_neg q1]
    have Er : ∀ r, r ≠ 94 → r ≠ 137 → E.1 r = C.1 r := fun r q1 q2 => by rw [fE.1 r q2, ui_row q1, ui_row q1]
    refine ⟨E, by rw [e0], ?_, ?_, ?_, ?_, ?_, fun r q1 q2 => ?_, fun s hs' => zE s (by omega) hs', ?_, fun j hj => ?_⟩
    · rw [Ej 18 (by decide) (by decide), fC'.1 94 (by decide), bj 18 (by decide)]; exact A18
    · rw [Ej 17 (by decide) (by decide), fC'.1 94 (by decide), bj 17 (by decide)]; exact A17
    · rw [Ej 2 (by decide) (by decide), fC'.1 94 (by decide), bj 2 (by decide)]; exact A2
    · rw [fE.1 94 (by decide), ui_get, if_pos rfl, if_neg (by decide), ui_get, if_pos rfl, if_pos rfl]
    · rw [fE.1 94 (by decide), ui_get, if_pos rfl, if_pos rfl]
    · rw [Er r (by omega) (by omega), fC'.1 r (by omega), br r (by omega) (by omega), Ar r (by omega)]
    · rw [fE.2]
      show C.2 101 = _
      rw [fC'.2, bL, AL, hqM.2]
    · rw [Er 126 (by decide) (by decide), c126 j (by omega) hj, b127 j hj, Ar 105 (by decide), Ar 111 (by decide)]
  obtain ⟨SM', eM, y18, y17, y2, y52, y62, yr, y137, yL, y126⟩ := hm'
  refine ⟨0, SC', SM', eC, eM, ?_⟩
  generalize hT : mkT nS nC nT (fun i => (SC1.1 27 i).toNatClampNeg) (SC1.1 25) (SC1.1 26) (SC1.1 28) (SC1.1 29) (SC1.1 19 9) (SC1.1 19 10) L = T
  have tS' : tS T = nS := by rw [← hT]; rfl
  have tC' : tC T = nC := by rw [← hT]; rfl
  have tT' : tT T = nT := by rw [← hT]; rfl
  have tM' : ∀ a, tM T a = SC1.1 25 a := fun a => by rw [← hT]; rfl
  have tO' : ∀ a, tO T a = SC1.1 26 a := fun a => by rw [← hT]; rfl
  have tR' : ∀ a, tR T a = SC1.1 28 a := fun a => by rw [← hT]; rfl
  have tD' : ∀ a, tD T a = SC1.1 29 a := fun a => by rw [← hT]; rfl
  have tF' : tF T = SC1.1 19 9 := by rw [← hT]; rfl
  have tE' : tE T = SC1.1 19 10 := by rw [← hT]; rfl
  have tP' : ∀ c w, tP T c w = (SC1.1 27 (2 * c + w)).toNatClampNeg := fun c w => by
    rw [← hT]
    show (if 3 + 2 * c + w = 0 then nS else if 3 + 2 * c + w = 1 then nC else if 3 + 2 * c + w = 2 then nT else (SC1.1 27 (3 + 2 * c + w - 3)).toNatClampNeg) = _
    rw [if_neg (by omega), if_neg (by omega), if_neg (by omega), show 3 + 2 * c + w - 3 = 2 * c + w by omega]
  have tl' : T.2.2 = fun k a0 a1 a2 a3 a4 a5 a6 a7 a8 => evL (vv a0 a1 a2 a3 a4 a5 a6 a7 a8) (L k).2.1 (L k).2.2 := by rw [← hT]; rfl
  have pr : ∀ c w, c < nC → w < 2 → ∃ s, s < nS ∧ SC1.1 27 (2 * c + w) = nI s ∧ SM1.1 108 (2 * (3 * sd + c) + w) = nI s ∧ tP T c w = s := by
    intro c w hc hw
    obtain ⟨s, t, a1, a2, a3, a4, a5, a6, a7⟩ := e5 c hc
    have : w = 0 ∨ w = 1 := by omega
    rcases this with rfl | rfl
    · exact ⟨s, a1, a4, a6, by rw [tP', Nat.add_zero, a4, nI_clamp (by omega)]⟩
    · exact ⟨t, a2, a5, a7, by rw [tP', a5, nI_clamp (by omega)]⟩
  have hWF : WF T := by
    refine ⟨by rw [tS']; exact c5, by rw [tC']; exact c7, by rw [tT']; exact c9, fun c w hc hw => ?_, fun c hc => ?_, fun a ha => ?_, fun i hi => ?_⟩
    · rw [tC'] at hc
      obtain ⟨s, q1, q2, q3, q4⟩ := pr c w hc hw
      rw [q4, tS']
      exact q1
    · rw [tC'] at hc
      obtain ⟨s, t, a1, a2, a3, a4, a5, a6, a7⟩ := e5 c hc
      rw [tP', tP', Nat.add_zero, a4, a5, nI_clamp (by omega), nI_clamp (by omega)]
      exact a3
    · rw [tS'] at ha
      rw [tM']
      exact (e3 a ha).2.1
    · rw [tT'] at hi
      rw [tR', tD']
      exact ⟨(e4 i hi).2.1, (e4 i hi).2.2.2⟩
  obtain ⟨hstR, hWS⟩ := bg_st (T := T) (R := SC'.1 32) (st := SM'.1 126) c5 c7 c9 e3 e4 xM xD tS' tC' tT' x32 y126
  refine ⟨⟨0, by omega, x01, y2, fun j hj => absurd hj (by omega)⟩, x02.trans y17.symm, xL.trans k1, yL.trans k2, ⟨0, by omega, x91, y62, fun j hj => absurd hj (by omega)⟩, T, ⟨hWF, ⟨⟨?_, ?_, ?_, ?_, ?_, fun a ha => ?_, fun i hi => ?_, fun c w hc hw => ?_⟩, law_C hN hLaw tl' x4 x5⟩, ⟨⟨sd, hs, ⟨y18, ?_, ?_, ?_, ?_, ?_, fun a ha => ?_, fun i hi => ?_, fun c w hc hw => ?_⟩⟩, law_M hN hs hb hLaw tl' y18 yr⟩⟩, ⟨hstR, 0, by omega, hWS⟩, ⟨nx, 0, u1, by omega, by rw [x33]; exact u3, x334, y52, fun u hu => absurd hu (by omega)⟩, fun s hs' => Or.inl ⟨x79 s hs', y137 s hs'⟩⟩
  · rw [x2 6 (by omega) (by omega), tS']; exact c4
  · rw [x2 7 (by omega) (by omega), tC']; exact c6
  · rw [x2 8 (by omega) (by omega), tT']; exact c8
  · rw [x2 9 (by omega) (by omega), tF']
  · rw [x2 10 (by omega) (by omega), tE']
  · rw [tS'] at ha
    rw [(x8 a (by omega)).1, (x8 a (by omega)).2.1, tM', tO']
    exact ⟨rfl, rfl⟩
  · rw [tT'] at hi
    rw [(x11 i (by omega)).1, (x11 i (by omega)).2, tR', tD']
    exact ⟨rfl, rfl⟩
  · rw [tC'] at hc
    obtain ⟨s, q1, q2, q3, q4⟩ := pr c w hc hw
    rw [(x8 (2 * c + w) (by omega)).2.2, q2, q4]
  · rw [yr 104 (by decide) (by decide), tS']; exact m3
  · rw [yr 107 (by decide) (by decide), tC']; exact m4
  · rw [yr 109 (by decide) (by decide), tT']; exact m5
  · rw [yr 112 (by decide) (by decide), tF']; exact e6.1.symm
  · rw [yr 113 (by decide) (by decide), tE']; exact e6.2.symm
  · rw [tS'] at ha
    rw [yr 105 (by decide) (by decide), yr 106 (by decide) (by decide), tM', tO']
    exact ⟨(e3 a ha).1.symm, (e3 a ha).2.2.1.symm⟩
  · rw [tT'] at hi
    rw [yr 110 (by decide) (by decide), yr 111 (by decide) (by decide), tR', tD']
    exact ⟨(e4 i hi).1.symm, (e4 i hi).2.2.1.symm⟩
  · rw [tC'] at hc
    obtain ⟨s, q1, q2, q3, q4⟩ := pr c w hc hw
    rw [yr 108 (by decide) (by decide), q3, q4]
theorem st_read (hN : 5000 ≤ N) : ST_read N (Inv N) := by
  intro n SC SM _ hI
  obtain ⟨z, lv, sd, SC1, SM1, ⟨hlv, h18, hsd, hF⟩, eC, eM, ⟨qc, q0, qm, q2, q19, qt⟩, hend⟩ := both hN hI
  have hs : sd < 2 := by omega
  rcases hend with ⟨p, hR, hk⟩ | ⟨f, q, hf, hg⟩
  · have hR' := hR
    obtain ⟨nS, nC, nT, nc, c, b, cm, m, ⟨c1, -⟩, ⟨m1, -⟩, -⟩ := hR'
    obtain ⟨S1, r1, r2, r3, r4⟩ := rtK_m c1.2.1 c1.2.2.2.2.1
    by_cases h0 : m.1 = 0
    · rw [h0, if_pos rfl] at r2
      rw [h0] at r1
      exact good_end hN hF hI hs hR (by rw [c1.2.2.2.2.1.1, h0]; rfl) (by rw [eC]; exact r1) r2 r3 r4 qc (by rw [eM]; exact rdK_0 m1.2.1 (by rw [m1.2.2.2.2.1.1, h0]; rfl)) qm q2 q19
    · rw [if_neg h0] at r2
      exact fault_end hI (by rw [eC]; exact r1) (nI_ne0 (by omega) (by have := c1.2.2.2.2.1.2.1; omega)) (by rw [eM]; exact rdK_m m1.2.1 m1.2.2.2.2.1 h0) r2 r3 r4 qc q0 qm q2 hlv h18 hsd
  · obtain ⟨S1, r1, r2, r3, r4⟩ := rtK_f hF qt hf
    exact fault_end hI (by rw [eC]; exact r1) (by rcases hf.1 with rfl | rfl <;> decide) (by rw [eM]; exact rdK_f hg) r2 r3 r4 qc q0 qm q2 hlv h18 hsd
end RDF
theorem pure_owed : ∃ (N : Nat) (Inv : Nat → rx_S → rx_S → Prop), Inv 0 zC zM ∧ LawStep N Inv ∧ (∀ n SC SM, n < 512 → Inv n SC SM → Inv (n + 1) SC SM) := pure_of (N := 5000) (Nat.le_refl _) (st_read (Nat.le_refl _))
