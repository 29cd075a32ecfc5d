/-! ===== READ 27: laws, by both ===== -/
theorem lM.rd {sd k b c : Nat} {S S' : rx_S} (h : lM sd k b c S S') (hk : k < 7) (hb : 130 * sd ≤ b) (hc : 420 * sd ≤ c) : rdM sd S S' := by
  refine ⟨fun r q1 q2 q3 => h.1 r q1 (by omega), fun j a1 a2 a3 a4 a5 a6 a7 a8 a9 a10 => h.2.1 j a1 a2 a3 a4 a8 a9 a10, fun r j q1 q2 q3 => ?_, fun r _ => by rw [h.2.2.2.2.2]⟩
  by_cases e1 : r < 114
  · rw [h.1 r (by omega) (by omega)]
  by_cases e2 : r = 114
  · subst e2
    rw [show hsz 114 = 7 from rfl] at q3
    exact (h.2.2.1 j (by omega)).1
  by_cases e3 : r = 115
  · subst e3
    rw [show hsz 115 = 7 from rfl] at q3
    exact (h.2.2.1 j (by omega)).2
  by_cases e4 : r ≤ 120
  · have e : hsz r = 130 := by
      have : r = 116 ∨ r = 117 ∨ r = 118 ∨ r = 119 ∨ r = 120 := by omega
      rcases this with rfl | rfl | rfl | rfl | rfl <;> rfl
    rw [e] at q3
    exact h.2.2.2.1 r j (by omega) e4 (by omega)
  by_cases e5 : r = 121
  · subst e5
    rw [show hsz 121 = 420 from rfl] at q3
    exact (h.2.2.2.2.1 j (by omega)).1
  · have e6 : r = 122 := by omega
    subst e6
    rw [show hsz 122 = 420 from rfl] at q3
    exact (h.2.2.2.2.1 j (by omega)).2
theorem xeC.k {c : Nat} {S S' : rx_S} (h : xeC c S S') : kCf S S' := ⟨fun k a => h.1 k (by omega) (by omega) (by omega), fun k _ => by rw [h.2.2.2.2]⟩
section STD
variable {N : Nat} {z : tks} {p sd : Nat} {m : Nat × Nat} {S SC SM : rx_S}
theorem tlw_f {f q b k c : Nat} {x : Int32} (hN : 5000 ≤ N) (h : flt z f q S) (hb : S.1 94 35 = nI b) (hb2 : b < 130 * sd + 130) (hs : sd < 2) : pk (f_X11_tellLaw N x S) (fun _ S' => flt z f q S' ∧ lM sd k b c S S') := by
  obtain ⟨n, e⟩ : ∃ n, N = n + 1 := ⟨N - 1, by omega⟩
  rw [tellLaw_eq, must_f h, bd_some]
  have := tlL_f (N := N) (n := n) (x := x) (y := S.1 94 35) (w := 0) (k := k) (c := c) h hb hb2 hs
  rw [← e] at this
  exact this
theorem begin_ok {k c : Nat} (h : S.1 20 4 = nI c) (hk : k < 7) : f_X2_begin 20 (nI (131 + k) - 131) S = some ((), rx_ui S 22 k (nI c)) := by
  have e : nI (131 + k) - 131 = nI k := by
    have := nI_sub (a := 131 + k) (b := 131) (by omega)
    rw [show 131 + k - 131 = k by omega] at this
    exact this
  unfold f_X2_begin
  rw [e, if_neg (nI_pos (by omega)), if_neg (show ¬ (7 : Int32) ≤ nI k from nI_ge (b := 7) hk (by decide)), rx_gd_in (vp_in_nI hk (by decide)), nI_clamp (by omega), h]
  rfl
theorem st_lw (hN : 5000 ≤ N) (hF : tkF z) (hR : RD z sd p SC SM) (hl : 131 ≤ kK z p ∧ kK z p < 138) : ∃ r SC' SM', f_X4_readLaw N (nI (kK z p)) SC = some (r, SC') ∧ f_X11_tellOne N SM = some ((), SM') ∧ stO z sd p SC SM r SC' SM' := by
  obtain ⟨nS, nC, nT, nc, c, b, cm, m, ⟨c1, c2, c3, c4, c5, c6, c7, c8, c9⟩, ⟨m1, m2, m3, m4, m5, m6, m7⟩, hnm, hcl, hct⟩ := hR
  obtain ⟨k, hk7, ek⟩ : ∃ k, k < 7 ∧ kK z p = 131 + k := ⟨kK z p - 131, by omega, by omega⟩
  have hm := hF.2.1
  have hs := m2.2.2.2.1
  have h19 := m2.2.2.1
  have h35 := m2.2.1
  have hb1 := m2.2.2.2.2.1
  have hb2 := m2.2.2.2.2.2
  have hpz := c1.2.2.1
  have hcm := m2.1.2.2.2.2.2.2.1
  have CS0 : CS z p c SC := ⟨c1.1, c2, c1.2.1, hpz, c1.2.2.2.1⟩
  have ek2 : kK z p - 131 = k := by omega
  rw [readLaw_eq, t1_law hF m1 hl, ek2]
  -- a fault of the reference, told
  have bad : ∀ (f q : Nat) (S1 : rx_S) (SC' : rx_S), flt z f q S1 → S1.1 94 35 = nI b → rdM sd SM S1 → fC z f q SC' → kCf SC SC' → ∃ SM', rx_bd (f_X11_tellLaw N (nI k) S1) (fun x13 S12 => some ((), S12)) = some ((), SM') ∧ stO z sd p SC SM 0 SC' SM' := by
    intro f q S1 SC' h1 h2 h3 h4 h5
    obtain ⟨u, S2, e, g1, g2⟩ := tlw_f (k := k) (c := cm) (x := nI k) hN h1 h2 (by omega) hs
    exact ⟨S2, by rw [e]; rfl, h5, h3.tr (g2.rd hk7 hb1 hcm), Or.inr ⟨rfl, f, q, h4, g1⟩⟩
  by_cases p4 : p < 400
  · obtain ⟨t1, CS1, F1⟩ := take_t hF CS0 (kK z p) (by omega) (by omega) rfl ⟨rfl, p4⟩
    have M1 := m1.go CS1.2.2.2.1
    rw [t1, bd_some, if_neg (by decide), goesOn_n m1.1 p4, bd_some]
    rcases tk_cases z (p + 1) 61 with k1 | ⟨f, k1⟩
    · obtain ⟨t2, CS2, F2⟩ := take_t hF CS1 61 (by decide) (by decide) (x := 61) rfl k1
      rw [t2, bd_some, if_neg (by decide), ek, begin_ok CS2.2.1 hk7, bd_some]
      generalize hA : rx_ui (rx_ui (rx_ui SC 13 5 (nI (p + 1))) 13 5 (nI (p + 1 + 1))) 22 k (nI c) = A
      have A22 : A.1 22 = upd (SC.1 22) k (nI c) := by rw [← hA, ui_same, ui_row (by decide), ui_row (by decide)]
      have Ar : ∀ r, r ≠ 13 → r ≠ 22 → A.1 r = SC.1 r := fun r q1 q2 => by rw [← hA, ui_row q2, ui_row q1, ui_row q1]
      have A13 : ∀ j, j ≠ 5 → A.1 13 j = SC.1 13 j := fun j hj => by rw [← hA, ui_row (by decide), ui_get, if_pos rfl, if_neg hj, ui_get, if_pos rfl, if_neg hj]
      have AL : A.2 = SC.2 := by rw [← hA]; rfl
      have Ak : kCf SC A := ⟨fun r h => Ar r (by omega) (by omega), fun r _ => by rw [AL]⟩
      have CSA : CS z (p + 2) c A := ⟨by rw [← hA, ui_row (by decide)]; exact CS2.1, by rw [Ar 20 (by decide) (by decide)]; exact c2, (A13 6 (by decide)).trans c1.2.1, CS2.2.2.2.1, Ak.tk c1.2.2.2.1⟩
      obtain ⟨r, SC', eC, hC⟩ := lwC_L (sd := sd) hN hF hs 4 0 (p + 2) c N A (by decide) CSA (by omega) (by omega)
      have eC' : f_X4_readLaw_L36 N ldR (ldE N) N 0 A = some (r, SC') := eC
      obtain ⟨t3, M2⟩ := mst hF M1 61 rfl (by decide) (x := 5) rfl k1
      rw [tellLaw_eq, t3, bd_some]
      generalize hB : rx_ui (rx_ui SM 94 11 (nI (p + 1))) 94 11 (nI (p + 1 + 1)) = B at M2 ⊢
      have Br : ∀ r, r ≠ 94 → B.1 r = SM.1 r := fun r q1 => by rw [← hB, ui_row q1, ui_row q1]
      have Bj : ∀ j, j ≠ 11 → B.1 94 j = SM.1 94 j := fun j hj => by rw [← hB, ui_get, if_pos rfl, if_neg hj, ui_get, if_pos rfl, if_neg hj]
      have BL : B.2 = SM.2 := by rw [← hB]; rfl
      have Brd : rdM sd SM B := by rw [← hB]; exact (rdM.u94 (by omega)).tr (rdM.u94 (by omega))
      have B35 : B.1 94 35 = nI b := (Bj 35 (by decide)).trans h35
      have LB : LwS z sd 2 (p + 2) b cm B := by
        obtain ⟨⟨a1, a2, a3, a4, a5, a6, a7, a8, a9⟩, d1, d2, d3, d4, d5⟩ := m2
        exact ⟨⟨M2.1, (Bj 12 (by decide)).trans a2, M2.2.1, (Bj 41 (by decide)).trans a4, M2.2.2.1, by omega, a7, a8, M2.2.2.2.1⟩, (Bj 35 (by decide)).trans d1, (Bj 19 (by decide)).trans d2, d3, d4, by omega⟩
      rw [eC', B35]
      rcases hC with ⟨rfl, q, bs, t, c', hX, CS', hc', hcq, ⟨hly, hlE⟩, hx⟩ | ⟨rfl, f, q, hX, hf, hx⟩
      · obtain ⟨u, SM', eM, hM⟩ := hX.2 N N k b b cm B hN LB hk7 (by omega) (by omega) (by omega)
        have eM' : f_X11_tellLaw_L12 N (tlK N) N (nI k) (nI b) 0 B = some (u, SM') := eM
        obtain ⟨⟨cM', hcM, L', hbd⟩, hyM, y114, y115, hlM⟩ := hM
        rw [eM', bd_some]
        refine ⟨1, SC', SM', rfl, rfl, Ak.tr hx.k, Brd.tr (hlM.rd hk7 hb1 hcm), Or.inl ⟨rfl, q, by have := hX.1; omega, ?_⟩⟩
        have hq := hX.1.1
        have xr : ∀ r, r ≠ 13 → r ≠ 20 → r ≠ 21 → r ≠ 22 → SC'.1 r = SC.1 r := fun r q1 q2 q3 q4 => (hx.1 r q1 q2 q3).trans (Ar r q1 q4)
        have x13 : ∀ j, j ≠ 5 → j ≠ 6 → SC'.1 13 j = SC.1 13 j := fun j q1 q2 => (hx.2.1 j q1 q2).trans (A13 j q1)
        have xL : SC'.2 = SC.2 := hx.2.2.2.2.trans AL
        have yr : ∀ r, r ≠ 94 → r < 114 → SM'.1 r = SM.1 r := fun r q1 q2 => (hlM.1 r q1 (Or.inl q2)).trans (Br r q1)
        have yj : ∀ j, j ≠ 11 → j ≠ 12 → j ≠ 13 → j ≠ 14 → j ≠ 35 → j ≠ 41 → j ≠ 45 → SM'.1 94 j = SM.1 94 j := fun j q1 q2 q3 q4 q5 q6 q7 => (hlM.2.1 j q1 q2 q3 q4 q5 q6 q7).trans (Bj j q1)
        have yL : SM'.2 = SM.2 := hlM.2.2.2.2.2.trans BL
        refine ⟨nS, nC, nT, nc, c', b + bs.length + 1, cM', m, ⟨⟨CS'.1, CS'.2.2.1, CS'.2.2.2.1, CS'.2.2.2.2, c1.2.2.2.2.1.eq (x13 8 (by decide) (by decide)) (x13 9 (by decide) (by decide)), (x13 4 (by decide) (by decide)).trans c1.2.2.2.2.2.1, c1.2.2.2.2.2.2⟩, CS'.2.1, hcq, ?_, c5, ?_, c7, ?_, c9⟩, ⟨⟨L'.1.1, L'.1.2.2.1, L'.1.2.2.2.2.1, L'.1.2.2.2.2.2.2.2.2, m1.2.2.2.2.1.eq (yj 15 (by decide) (by decide) (by decide) (by decide) (by decide) (by decide) (by decide)) (yj 16 (by decide) (by decide) (by decide) (by decide) (by decide) (by decide) (by decide)), fun h => by have := m1.2.2.2.2.2 h; omega⟩, L', ?_, ?_, ?_, ?_, ?_⟩, hnm.keep (by rw [xL]) (by rw [yL]), fun k' hk' => ?_, fun h0 => ?_⟩
        · rw [xr 19 (by decide) (by decide) (by decide) (by decide)]; exact c4
        · rw [xr 19 (by decide) (by decide) (by decide) (by decide)]; exact c6
        · rw [xr 19 (by decide) (by decide) (by decide) (by decide)]; exact c8
        · rw [yr 104 (by decide) (by decide)]; exact m3
        · rw [yr 107 (by decide) (by decide)]; exact m4
        · rw [yr 109 (by decide) (by decide)]; exact m5
        · rw [yj 20 (by decide) (by decide) (by decide) (by decide) (by decide) (by decide) (by decide)]; exact m6
        · exact m7.eq (yr 103 (by decide) (by decide))
        · have x22 : SC'.1 22 = upd (SC.1 22) k (nI c) := (hx.1 22 (by decide) (by decide) (by decide)).trans A22
          by_cases e : k' = k
          · subst e
            exact ⟨c, bs, t, by rw [x22, upd_at], hly, hlE, Or.inl ⟨b, y114, y115, hyM, Nat.le_refl _, hbd⟩⟩
          · obtain ⟨a, bs', t', h1, h2, h3, h4⟩ := hcl k' hk'
            have e114 := hlM.2.2.1 (7 * sd + k') (by omega)
            rw [Br 114 (by decide), Br 115 (by decide)] at e114
            refine ⟨a, bs', t', by rw [x22, upd_ne e]; exact h1, lyC.eqB bs' t' a h2 (fun j hj => ?_), by omega, ?_⟩
            · rw [hx.2.2.2.1 j (by omega), Ar 21 (by decide) (by decide)]
            · rw [e114.1, e114.2]
              rcases h4 with ⟨b0, g1, g2, g3, g4, g5⟩ | g
              · have r16 : ∀ r, 116 ≤ r → r ≤ 120 → ∀ j, b0 ≤ j → j ≤ b0 + bs'.length → SM'.1 r j = SM.1 r j := fun r q1 q2 j q3 q4 => (hlM.2.2.2.1 r j q1 q2 (by omega)).trans (by rw [Br r (by omega)])
                refine Or.inl ⟨b0, g1, g2, lyM.eqB hs bs' t' b0 g3 r16 g5 (fun j hj => ?_), by omega, fun j q1 q2 => ?_⟩
                · have := hlM.2.2.2.2.1 j (Or.inl hj)
                  rw [Br 121 (by decide), Br 122 (by decide)] at this
                  exact this
                · rw [r16 120 (by decide) (by decide) j q1 q2]
                  have := g5 j q1 q2
                  omega
              · exact Or.inr g
        · obtain ⟨e1, e2, e3, e4, e5, e6⟩ := hct h0
          refine ⟨e1, e2.up (by omega) (Nat.le_refl _) (by rw [xL]) (by rw [xL]) (by rw [yL]) (by rw [yL]) (xr 31 (by decide) (by decide) (by decide) (by decide)) (yr 103 (by decide) (by decide)), fun a ha => ?_, fun i hi => ?_, fun c hc => ?_, ?_⟩
          · rw [xr 25 (by decide) (by decide) (by decide) (by decide), xr 26 (by decide) (by decide) (by decide) (by decide), yr 105 (by decide) (by decide), yr 106 (by decide) (by decide)]
            exact e3 a ha
          · rw [xr 28 (by decide) (by decide) (by decide) (by decide), xr 29 (by decide) (by decide) (by decide) (by decide), yr 110 (by decide) (by decide), yr 111 (by decide) (by decide)]
            exact e4 i hi
          · rw [xr 27 (by decide) (by decide) (by decide) (by decide), yr 108 (by decide) (by decide)]
            exact e5 c hc
          · unfold CTf
            rw [xr 19 (by decide) (by decide) (by decide) (by decide), yr 112 (by decide) (by decide), yr 113 (by decide) (by decide)]
            exact e6
      · obtain ⟨u, SM', eM, g1, g2⟩ := hX N N k b b cm B hN LB hk7 (by omega) (by omega) (by omega)
        have eM' : f_X11_tellLaw_L12 N (tlK N) N (nI k) (nI b) 0 B = some (u, SM') := eM
        rw [eM', bd_some]
        exact ⟨0, SC', SM', rfl, rfl, Ak.tr hx.k, Brd.tr (g2.rd hk7 hb1 hcm), Or.inr ⟨rfl, f, q, hf, g1⟩⟩
    · obtain ⟨S1, t2, f1, F2⟩ := take_n hF CS1 61 (by decide) (x := 61) rfl k1
      rw [t2, bd_some, if_pos rfl]
      obtain ⟨t3, f2⟩ := msn hF M1 61 rfl (x := 5) rfl k1
      have hL : f_X11_tellLaw N (nI k) (rx_ui SM 94 11 (nI (p + 1))) = f_X11_tellLaw N (nI k) (flS (rx_ui SM 94 11 (nI (p + 1))) (nI f) (nI (kP z (p + 1)))) := by
        rw [tellLaw_eq, tellLaw_eq, t3, must_f f2]
      rw [hL]
      obtain ⟨SM', eM, hO⟩ := bad f (p + 1) _ S1 f2 (by unfold flS; rw [ui_get, if_pos rfl, if_neg (by decide), ui_get, if_pos rfl, if_neg (by decide), ui_get, if_pos rfl, if_neg (by decide)]; exact h35) ((rdM.u94 (by omega)).tr g1F.fl.rd) f1 (F1.k.tr F2.k)
      exact ⟨0, S1, SM', rfl, eM, hO⟩
  · have k0 : tkFl z p (kK z p) 2 := Or.inl ⟨rfl, rfl, p4⟩
    obtain ⟨S1, t1, f1, F1⟩ := take_n hF CS0 (kK z p) (by omega) rfl k0
    rw [t1, bd_some, if_pos rfl, goesOn_2 m1.2.1 m1.1 hF m1.2.2.2.1 hpz p4, bd_some]
    obtain ⟨SM', eM, hO⟩ := bad 2 p _ S1 (flS_flt (Or.inr rfl) rfl hpz) (by unfold flS; rw [ui_get, if_pos rfl, if_neg (by decide), ui_get, if_pos rfl, if_neg (by decide)]; exact h35) g1F.fl.rd f1 F1.k
    exact ⟨0, S1, SM', rfl, eM, hO⟩
end STD
