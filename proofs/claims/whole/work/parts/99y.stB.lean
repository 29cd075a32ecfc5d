/-! ===== READ 25: couples, fines, laws, by both ===== -/
theorem ff_no {q : Nat → Bool} : ∀ (n w : Nat), (∀ k, w ≤ k → k < w + n → q k = false) → ff q n w = none := by
  intro n
  induction n with
  | zero => intro w _; rfl
  | succ n ih =>
    intro w h
    rw [ff, if_neg (by rw [h w (by omega) (by omega)]; decide)]
    exact ih (w + 1) (fun k h1 h2 => h k (by omega) (by omega))
theorem ff_yes {q : Nat → Bool} : ∀ (n w k : Nat), w ≤ k → k < w + n → q k = true → (∀ j, w ≤ j → j < k → q j = false) → ff q n w = some k := by
  intro n
  induction n with
  | zero => intro w k h1 h2; omega
  | succ n ih =>
    intro w k h1 h2 h3 h4
    rw [ff]
    by_cases e : w = k
    · rw [e, if_pos h3]
    · rw [if_neg (by rw [h4 w (by omega) (by omega)]; decide)]
      exact ih (w + 1) k (by omega) (by omega) h3 (fun j a b => h4 j (by omega) b)
theorem lyE_ge : ∀ (bs : List Br) (t : List It) (a : Nat), a ≤ lyE a bs t := by
  intro bs
  induction bs with
  | nil => intro t a; rw [lyE]; omega
  | cons x bs ih =>
    intro t a
    obtain ⟨l, r, u⟩ := x
    rw [lyE]
    have := ih t (a + l.length + r.length + 1 + u.length + 1)
    omega
theorem lyC.eqB {C D : Nat → Int32} : ∀ (bs : List Br) (t : List It) (a : Nat), lyC C a bs t → (∀ j, j < lyE a bs t → D j = C j) → lyC D a bs t := by
  intro bs
  induction bs with
  | nil =>
    intro t a h e
    rw [lyE] at e
    obtain ⟨h1, h2, h3, h4⟩ := h
    exact ⟨h1, sgC_eq _ _ h2 (fun j _ _ => e j (by omega)), by rw [e _ (by omega)]; exact h3, h4⟩
  | cons b bs ih =>
    intro t a h e
    obtain ⟨l, r, u⟩ := b
    rw [lyE] at e
    have hg := lyE_ge bs t (a + l.length + r.length + 1 + u.length + 1)
    obtain ⟨h1, ⟨h2, h3, h4, h5, h6, h7⟩, h8⟩ := h
    exact ⟨h1, ⟨sgC_eq _ _ h2 (fun j _ _ => e j (by omega)), sgC_eq _ _ h3 (fun j _ _ => e j (by omega)), by rw [e _ (by omega)]; exact h4, sgC_eq _ _ h5 (fun j _ _ => e j (by omega)), by rw [e _ (by omega)]; exact h6, h7⟩, ih t _ h8 e⟩
theorem lyM.eqB {S S' : rx_S} {sd cm : Nat} (hs : sd < 2) : ∀ (bs : List Br) (t : List It) (b : Nat), lyM S sd b bs t → (∀ r, 116 ≤ r → r ≤ 120 → ∀ j, b ≤ j → j ≤ b + bs.length → S'.1 r j = S.1 r j) → (∀ j, b ≤ j → j ≤ b + bs.length → (S.1 120 j).toNatClampNeg ≤ cm) → (∀ j, j < cm → S'.1 121 j = S.1 121 j ∧ S'.1 122 j = S.1 122 j) → lyM S' sd b bs t := by
  intro bs
  induction bs with
  | nil =>
    intro t b h e1 e2 e3
    obtain ⟨⟨h1, h2, h3⟩, f, h4, h5, h6, h7, h8, h9⟩ := h
    have hb := e2 b (Nat.le_refl _) (Nat.le_add_right _ _)
    rw [h7, nI_clamp (by omega)] at hb
    have e1' := fun r q1 q2 => e1 r q1 q2 b (Nat.le_refl _) (Nat.le_add_right _ _)
    exact ⟨⟨h1, h2, (e1' 116 (by decide) (by decide)).trans h3⟩, f, h4, h5, (e1' 119 (by decide) (by decide)).trans h6, (e1' 120 (by decide) (by decide)).trans h7, sgM_eq _ _ h8 (fun j _ q => e3 j (by omega)), h9⟩
  | cons x bs ih =>
    intro t b h e1 e2 e3
    obtain ⟨l, r, u⟩ := x
    obtain ⟨⟨h1, h2, h3⟩, ⟨f, h4, h5, a1, a2, a3, a4, a5, a6, a7, a8⟩, h9⟩ := h
    have hb := e2 b (Nat.le_refl _) (Nat.le_add_right _ _)
    rw [a4, nI_clamp (by omega)] at hb
    have e1' := fun r q1 q2 => e1 r q1 q2 b (Nat.le_refl _) (Nat.le_add_right _ _)
    rw [List.length_cons] at e1 e2
    exact ⟨⟨h1, h2, (e1' 116 (by decide) (by decide)).trans h3⟩, ⟨f, h4, h5, (e1' 117 (by decide) (by decide)).trans a1, (e1' 118 (by decide) (by decide)).trans a2, (e1' 119 (by decide) (by decide)).trans a3, (e1' 120 (by decide) (by decide)).trans a4, sgM_eq _ _ a5 (fun j _ q => e3 j (by omega)), sgM_eq _ _ a6 (fun j _ q => e3 j (by omega)), sgM_eq _ _ a7 (fun j _ q => e3 j (by omega)), a8⟩, ih t (b + 1) h9 (fun r q1 q2 j q3 q4 => e1 r q1 q2 j (by omega) (by omega)) (fun j q3 q4 => e2 j (by omega) (by omega)) e3⟩
section STB
variable {N : Nat} {z : tks} {p sd nS nC nT nc : Nat} {m : Nat × Nat} {S SC SM : rx_S}
theorem oEq {x : Nat} (hF : tkF z) (hx : x < kN z) (kx : kK z x = 2) (hp : p ≤ kN z) (hS : nS ≤ 6) (hR : nmR z SC SM) (h : CTn z p nc nS SC SM) : spI (nsv SC (SC.2 18 x) nc) nS = oM SM (SM.2 100 x) nc := by
  have same : ∀ k, k < nc → nmE SC (SC.2 18 x) k = decide (SM.2 102 k = SM.2 100 x) := fun k hk => by
    obtain ⟨g, hg, kg, e1, e2⟩ := h.1 k hk
    have := hR g x (by omega) hx kg kx
    unfold nmE
    rw [e1, e2]
    by_cases q : SC.2 18 g = SC.2 18 x
    · rw [decide_eq_true q, decide_eq_true (this.mp q)]
    · rw [decide_eq_false q, decide_eq_false (fun e => q (this.mpr e))]
  have sn : spI (-1) nS = none := by
    unfold spI
    rw [if_neg (fun q => absurd q.1 (by decide))]
  cases hff : ff (nmE SC (SC.2 18 x)) nc 0 with
  | none =>
    have e1 : nsv SC (SC.2 18 x) nc = -1 := by unfold nsv; rw [hff]
    have e2 : ff (kqM SM (SM.2 100 x)) nc 0 = none := by
      refine ff_no nc 0 (fun k h1 h2 => ?_)
      have := ff_none nc 0 hff k h1 h2
      rw [same k (by omega)] at this
      unfold kqM
      rw [this, Bool.false_and]
    rw [e1, sn]
    unfold oM
    rw [e2]
    rfl
  | some k =>
    obtain ⟨_, hk, ht, hb⟩ := ff_some nc 0 k hff
    have hk : k < nc := by omega
    have e1 : nsv SC (SC.2 18 x) nc = SC.1 31 k := by unfold nsv; rw [hff]
    have ot : ∀ l, l < nc → l ≠ k → kqM SM (SM.2 100 x) l = false := fun l hl hne => by
      have : nmE SC (SC.2 18 x) l = false := by
        cases hq : nmE SC (SC.2 18 x) l with
        | false => rfl
        | true =>
          have a1 : SC.2 30 l = SC.2 18 x := of_decide_eq_true hq
          have a2 : SC.2 30 k = SC.2 18 x := of_decide_eq_true ht
          exact absurd (h.2.2 l k hl hk (a1.trans a2.symm)) hne
      rw [same l hl] at this
      unfold kqM
      rw [this, Bool.false_and]
    have tk := ht
    rw [same k hk] at tk
    obtain ⟨e3, e4⟩ := h.2.1 k hk
    rw [e1, e3]
    rcases e4 with e4 | ⟨s, hs, e4⟩
    · have e2 : ff (kqM SM (SM.2 100 x)) nc 0 = none := by
        refine ff_no nc 0 (fun l h1 h2 => ?_)
        by_cases e : l = k
        · rw [e]
          unfold kqM
          rw [e4, decide_eq_false (fun q : ¬ (-1 : Int32) < 0 => q (by decide)), Bool.and_false]
        · exact ot l (by omega) e
      rw [e4, sn]
      unfold oM
      rw [e2]
      rfl
    · have e2 : ff (kqM SM (SM.2 100 x)) nc 0 = some k := by
        refine ff_yes nc 0 k (by omega) (by omega) ?_ (fun j _ hj => ot j (by omega) (by omega))
        unfold kqM
        rw [tk, e4, decide_eq_true (show ¬ nI s < 0 from nI_pos (by omega))]
        rfl
      unfold oM spI
      rw [e2, e4, if_pos (in01 (by omega) hs rfl)]
      show some (nI s).toNatClampNeg = some (SM.1 103 k).toNatClampNeg
      rw [e4]
theorem cfEq {o : Option Nat} (h : CTs nS nC sd SC SM) (hC : nC ≤ 3) (ho : ∀ s, o = some s → s < nS) : cfC SC o = cfM SM sd o := by
  cases o with
  | none => rfl
  | some s =>
    obtain ⟨_, _, h3, h4⟩ := h s (ho s rfl)
    show decide (¬ SC.1 26 s = -2) = decide (¬ SM.1 106 (6 * sd + s) < 0)
    rw [← h3]
    rcases h4 with e | ⟨c, hc, e⟩
    · rw [e]
      decide
    · rw [e, decide_eq_true (show ¬ nI c = -2 from (nI_neg (by omega) (by decide)).1), decide_eq_true (show ¬ nI c < 0 from nI_pos (by omega))]
theorem cpM_ne {oa ob : Option Nat} {ca cb : Bool} (h : m.1 ≠ 0) : cpM m p oa ob ca cb = m := by
  unfold cpM
  rw [mA_ne h, mA_ne h, mA_ne h]
theorem nmK_ne (o : Option Nat) : nmK o ≠ 0 := by
  cases o with
  | none => exact (by decide : (4 : Nat) ≠ 0)
  | some _ => exact (by decide : (3 : Nat) ≠ 0)
theorem st_cp (hN : 5000 ≤ N) (hF : tkF z) (hR : RD z sd p SC SM) (hk : kK z p = 129) : ∃ r SC' SM', f_X4_readCouple N SC = some (r, SC') ∧ f_X11_tellOne N SM = some ((), SM') ∧ stO z sd p SC SM r SC' SM' := by
  obtain ⟨nS, nC, nT, nc, c, b, cm, m, ⟨c1, c2, c3, c4, c5, c6, c7, c8, c9⟩, ⟨m1, m2, m3, m4, m5, m6, m7⟩, hnm, hl, hct⟩ := hR
  have h19 := m2.2.2.1
  have hs := m2.2.2.2.1
  obtain ⟨r, SC', eC, hC⟩ := rdCp (n := nS) (q := nC) hN hF c1 c4 c5 c6 c7
  have zr : ∀ r, r ≠ 94 → (rx_ui SM 94 11 (nI (p + 1))).1 r = SM.1 r := fun r hr => ui_row hr
  have zj : ∀ j, j ≠ 11 → (rx_ui SM 94 11 (nI (p + 1))).1 94 j = SM.1 94 j := fun j hj => by rw [ui_get, if_pos rfl, if_neg hj]
  have G1 : g1F SM (rx_ui SM 94 11 (nI (p + 1))) := g1F.ui (by omega)
  have hM : pk (f_X11_tellOne N SM) (fun _ S' => rdM sd SM S' ∧ ((∃ f q, ((nC = 3 ∧ f = 2 ∧ q = p) ∨ (nC < 3 ∧ sqF z p [129, 2, 2, 59] f q)) ∧ flt z f q S') ∨ (nC < 3 ∧ sqT z p [129, 2, 2, 59] ∧ cpMm z p nC sd (cpM m p (oM SM (SM.2 100 (p + 1)) (nS + nT)) (oM SM (SM.2 100 (p + 2)) (nS + nT)) (cfM SM sd (oM SM (SM.2 100 (p + 1)) (nS + nT))) (cfM SM sd (oM SM (SM.2 100 (p + 2)) (nS + nT)))) (oM SM (SM.2 100 (p + 1)) (nS + nT)) (oM SM (SM.2 100 (p + 2)) (nS + nT)) SM S'))) := by
    rw [t1_cp hF m1 hk, h19, pk_gdn hs (by decide), nI_clamp (by omega), m4]
    refine roomed (T := f_X11_tellCouple N) hF m1 hk (by decide) c7 (by decide) rfl (fun n6 hp1 M1 => ?_)
    refine pk_mono (tCp hN hF M1 ((zj 19 (by decide)).trans h19) hs (by rw [zr 107 (by decide)]; exact m4) n6 ((zj 20 (by decide)).trans m6) (by omega) (m7.eq (zr 103 (by decide)))) (fun _ S' g => ⟨g.1, g.2.imp id (fun h => ⟨h.1, ?_⟩)⟩)
    have h2 := h.2.g G1
    rw [oM_eq G1, oM_eq G1, cfM_eq G1, cfM_eq G1] at h2
    exact h2
  obtain ⟨u, SM', eM, hrd, hM⟩ := hM
  refine ⟨r, SC', SM', eC, eM, outc (QC := _) (QM := _) (n := nC) (h := 3) (kw := 129) (hC.imp id (fun h => ⟨h.1, h.2.1, h.2.2.1, h.2.2.2.1, h.2.2.2.2⟩)) hM hrd (fun n6 hT kC qc qm => ⟨p + 4, by omega, ?_⟩)⟩
  obtain ⟨C', x19, x27, xr, xl⟩ := qc
  obtain ⟨M', y107, y108, yr, yj, yl⟩ := qm
  have k1 := hT.2.1.1
  have k2 := hT.2.2.1.1
  have hp4 := C'.2.2.1
  have hpz := c1.2.2.1
  have eqm : cpM m p (oM SM (SM.2 100 (p + 1)) (nS + nT)) (oM SM (SM.2 100 (p + 2)) (nS + nT)) (cfM SM sd (oM SM (SM.2 100 (p + 1)) (nS + nT))) (cfM SM sd (oM SM (SM.2 100 (p + 2)) (nS + nT))) = cpM m p (spI (nsv SC (SC.2 18 (p + 1)) nc) nS) (spI (nsv SC (SC.2 18 (p + 2)) nc) nS) (cfC SC (spI (nsv SC (SC.2 18 (p + 1)) nc) nS)) (cfC SC (spI (nsv SC (SC.2 18 (p + 2)) nc) nS)) := by
    by_cases h0 : m.1 = 0
    · obtain ⟨e1, e2, e3, -⟩ := hct h0
      have o1 := oEq (x := p + 1) hF (by omega) k1 (by omega) c5 hnm e2
      have o2 := oEq (x := p + 2) hF (by omega) k2 (by omega) c5 hnm e2
      rw [e1] at o1 o2
      rw [← o1, ← o2, ← e1]
      rw [e1] 
      rw [cfEq e3 c7 (fun s h => (spI_some (by omega) h).1), cfEq e3 c7 (fun s h => (spI_some (by omega) h).1)]
    · rw [cpM_ne h0, cpM_ne h0]
  rw [eqm] at M'
  refine ⟨nS, nC + 1, nT, nc, c, b, cm, _, ⟨C', ?_, by omega, ?_, c5, ?_, by omega, ?_, c9⟩, ⟨M', m2.keep M' (by omega) (fun j hj => yj j (by omega) (by omega) (by omega) (by omega) (by omega)), ?_, ?_, ?_, ?_, ?_⟩, hnm.keep (by rw [xl]) (by rw [yl]), hl.keep (xr 21 (by decide) (by decide) (by decide) (by decide)) (xr 22 (by decide) (by decide) (by decide) (by decide)) (fun r q1 q2 => yr r (by omega) (by omega) (by omega) (by omega)), fun h0 => ?_⟩
  · rw [xr 20 (by decide) (by decide) (by decide) (by decide)]; exact c2
  · rw [x19, upd_ne (by decide)]; exact c4
  · rw [x19, upd_at]
  · rw [x19, upd_ne (by decide)]; exact c8
  · rw [yr 104 (by decide) (by decide) (by decide) (by decide)]; exact m3
  · rw [y107, upd_at]
  · rw [yr 109 (by decide) (by decide) (by decide) (by decide)]; exact m5
  · rw [yj 20 (by decide) (by decide) (by decide) (by decide) (by decide)]; exact m6
  · exact m7.eq (yr 103 (by decide) (by decide) (by decide) (by decide))
  · obtain ⟨h0', hsame⟩ := mA_0 (by decide) h0
    obtain ⟨h0', hcb⟩ := mA_0 (nmK_ne _) h0'
    obtain ⟨h0'', hca⟩ := mA_0 (nmK_ne _) h0'
    obtain ⟨e1, e2, e3, e4, e5, e6⟩ := hct h0''
    have o1 := oEq (x := p + 1) hF (by omega) k1 (by omega) c5 hnm e2
    have o2 := oEq (x := p + 2) hF (by omega) k2 (by omega) c5 hnm e2
    rw [e1] at o1 o2 x27 hsame hcb hca
    rw [← o1, ← o2] at y108
    cases ha : spI (nsv SC (SC.2 18 (p + 1)) (nS + nT)) nS with
    | none => rw [ha] at hca; cases hca
    | some s =>
      cases hb : spI (nsv SC (SC.2 18 (p + 2)) (nS + nT)) nS with
      | none => rw [hb] at hcb; cases hcb
      | some t =>
        have s1 := (spI_some (by omega) ha).1
        have t1 := (spI_some (by omega) hb).1
        rw [ha, hb] at hsame
        have hst : s ≠ t := of_decide_eq_false hsame
        obtain ⟨v27, v26⟩ := x27 s t ha hb
        obtain ⟨v108, v106⟩ := y108 s t ha hb
        refine ⟨e1, e2.up (by omega) (Nat.le_refl _) (by rw [xl]) (by rw [xl]) (by rw [yl]) (by rw [yl]) (xr 31 (by decide) (by decide) (by decide) (by decide)) (yr 103 (by decide) (by decide) (by decide) (by decide)), fun a ha => ?_, fun i hi => ?_, fun c hc => ?_, ?_⟩
        · rw [xr 25 (by decide) (by decide) (by decide) (by decide), yr 105 (by decide) (by decide) (by decide) (by decide), v26, v106]
          obtain ⟨f1, f2, f3, f4⟩ := e3 a ha
          refine ⟨f1, f2, ?_⟩
          by_cases qt : a = t
          · rw [qt, upd_at, upd_at]
            exact ⟨rfl, Or.inr ⟨nC, by omega, rfl⟩⟩
          · rw [upd_ne qt, upd_ne (show 6 * sd + a ≠ 6 * sd + t by omega)]
            by_cases qs : a = s
            · rw [qs, upd_at, upd_at]
              exact ⟨rfl, Or.inr ⟨nC, by omega, rfl⟩⟩
            · rw [upd_ne qs, upd_ne (show 6 * sd + a ≠ 6 * sd + s by omega)]
              exact ⟨f3, f4.imp id (fun ⟨c, hc, e⟩ => ⟨c, by omega, e⟩)⟩
        · rw [xr 28 (by decide) (by decide) (by decide) (by decide), xr 29 (by decide) (by decide) (by decide) (by decide), yr 110 (by decide) (by decide) (by decide) (by decide), yr 111 (by decide) (by decide) (by decide) (by decide)]
          exact e4 i hi
        · rw [v27, v108]
          by_cases qc : c = nC
          · rw [qc]
            exact ⟨s, t, s1, t1, hst, by rw [upd_ne (by omega), upd_at], upd_at, by rw [upd_ne (by omega), upd_at], upd_at⟩
          · obtain ⟨s', t', a1, a2, a3, a4, a5, a6, a7⟩ := e5 c (by omega)
            exact ⟨s', t', a1, a2, a3, by rw [upd_ne (by omega), upd_ne (by omega)]; exact a4, by rw [upd_ne (by omega), upd_ne (by omega)]; exact a5, by rw [upd_ne (by omega), upd_ne (by omega)]; exact a6, by rw [upd_ne (by omega), upd_ne (by omega)]; exact a7⟩
        · unfold CTf
          rw [x19, upd_ne (by decide), upd_ne (by decide), yr 112 (by decide) (by decide) (by decide) (by decide), yr 113 (by decide) (by decide) (by decide) (by decide)]
          exact e6
end STB
