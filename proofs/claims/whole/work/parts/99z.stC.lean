/-! ===== READ 26: fines, seeds, laws, by both ===== -/
section STC
variable {N : Nat} {z : tks} {p sd : Nat} {m : Nat × Nat} {S SC SM : rx_S}
theorem refNm {kw h r : Nat} {y : Int32} (hF : tkF z) (hS : MF z p m S) (hk : kK z p = kw) (h2 : 2 ≤ kw) (h19 : S.1 94 19 = nI sd) (hs : sd < 2) (hr : r = 112 ∨ r = 113) (hh : h < 10000) (hy : y = nI h) : pk (rx_bd (f_X11_goesOn S) (fun x59 S58 => rx_bd (f_X11_bounded 0 y S58) (fun x62 S61 => rx_gd (S58.1 94 19) 2 (rx_let (rx_ui S61 r (Int32.toNatClampNeg (S58.1 94 19)) x62) (fun S65 => rx_bd (f_X11_must 4 S65) (fun x67 S66 => some ((), S66))))))) (fun _ S' => rdM sd S S' ∧ ((∃ f q, (((0 : Nat) = 1 ∧ f = 2 ∧ q = p) ∨ (0 < 1 ∧ sqF z p [kw, 3, 59] f q)) ∧ flt z f q S') ∨ (0 < 1 ∧ sqT z p [kw, 3, 59] ∧ nmMf z p h r sd m (rx_ui S 94 11 (nI (p + 1))) S'))) := by
  have Fr : hsz r = 1 := by rcases hr with rfl | rfl <;> rfl
  by_cases hp : p < 400
  · have hp1 : p + 1 < kN z := hF.2.2.2.1 p hS.2.2.1 (by omega) (by omega) hp
    have M1 := hS.go hp1
    rw [goesOn_n hS.1 hp, bd_some]
    refine pk_mono (tNm (h := h) (r := r) hF M1 (by rw [ui_get, if_pos rfl, if_neg (by decide)]; exact h19) hs hr hh hy) (fun _ S' g => ⟨(rdM.u94 (by omega)).tr g.1, ?_⟩)
    rcases g.2 with ⟨f, q, g1, g2⟩ | g1
    · exact Or.inl ⟨f, q, Or.inr ⟨by decide, Or.inr ⟨⟨hk, hp⟩, g1⟩⟩, g2⟩
    · exact Or.inr ⟨by decide, ⟨⟨hk, hp⟩, g1.1⟩, g1⟩
  · have t := flS_flt (S := S) (f := 2) (x := 2) (Or.inr rfl) rfl hS.2.2.1
    have a19 : (flS S 2 (nI (kP z p))).1 94 19 = nI sd := by unfold flS; rw [ui_get, if_pos rfl, if_neg (by decide), ui_get, if_pos rfl, if_neg (by decide)]; exact h19
    have t2 : flt z 2 p (rx_ui (flS S 2 (nI (kP z p))) r sd 0) := t.uh (by omega)
    rw [goesOn_2 hS.2.1 hS.1 hF hS.2.2.2.1 hS.2.2.1 hp, bd_some, bnd_f t, bd_some, a19, pk_gdn hs (by decide), pk_let, nI_clamp (by omega), must_f t2, bd_some, pk_some]
    exact ⟨g1F.fl.rd.tr (rdM.uh (by omega) (by rw [Fr]; omega)), Or.inl ⟨2, p, Or.inr ⟨by decide, Or.inl ⟨Or.inl ⟨rfl, hk, hp⟩, rfl⟩⟩, t2⟩⟩
theorem st_nm {kw h j r : Nat} {oC : Option (Int32 × rx_S)} {oM' : Option (Unit × rx_S)} (hF : tkF z) (hR : RD z sd p SC SM) (hk : kK z p = kw) (h2 : 2 ≤ kw) (hj : (j = 9 ∧ r = 112) ∨ (j = 10 ∧ r = 113)) (hC : ∀ m nc, CF z p m nc SC → pk oC (fun r S' => (r = 0 ∧ ∃ f q, sqF z p [kw, 3, 59] f q ∧ fC z f q S' ∧ kCf SC S') ∨ (r = 1 ∧ nmC z p kw h j nc m SC S'))) (hM : ∀ m, MF z p m SM → SM.1 94 19 = nI sd → sd < 2 → pk oM' (fun _ S' => rdM sd SM S' ∧ ((∃ f q, (((0 : Nat) = 1 ∧ f = 2 ∧ q = p) ∨ (0 < 1 ∧ sqF z p [kw, 3, 59] f q)) ∧ flt z f q S') ∨ (0 < 1 ∧ sqT z p [kw, 3, 59] ∧ nmMf z p h r sd m (rx_ui SM 94 11 (nI (p + 1))) S')))) : ∃ x SC' SM', oC = some (x, SC') ∧ oM' = some ((), SM') ∧ stO z sd p SC SM x SC' SM' := by
  obtain ⟨nS, nC, nT, nc, c, b, cm, m, ⟨c1, c2, c3, c4, c5, c6, c7, c8, c9⟩, ⟨m1, m2, m3, m4, m5, m6, m7⟩, hnm, hl, hct⟩ := hR
  obtain ⟨x, SC', eC, hC⟩ := hC m nc c1
  obtain ⟨u, SM', eM, hrd, hM⟩ := hM m m1 m2.2.2.1 m2.2.2.2.1
  have zr : ∀ r, r ≠ 94 → (rx_ui SM 94 11 (nI (p + 1))).1 r = SM.1 r := fun r hr => ui_row hr
  have zj : ∀ j, j ≠ 11 → (rx_ui SM 94 11 (nI (p + 1))).1 94 j = SM.1 94 j := fun j hj => by rw [ui_get, if_pos rfl, if_neg hj]
  refine ⟨x, SC', SM', eC, eM, outc (QC := _) (QM := _) (n := 0) (h := 1) (kw := kw) (hC.imp (fun h => ⟨h.1, h.2.imp fun f h => h.imp fun q h => ⟨Or.inr ⟨by decide, h.1⟩, h.2⟩⟩) (fun h => ⟨h.1, by decide, h.2.1, h.2.2.1, h.2.2.2⟩)) hM hrd (fun _ hT kC qc qm => ⟨p + 3, by omega, ?_⟩)⟩
  obtain ⟨C', x19, xr, xl⟩ := qc
  obtain ⟨-, M', y1, yr, yj, yl⟩ := qm
  rw [zr r (by omega)] at y1
  have yr' : ∀ k, k ≠ 94 → k ≠ r → SM'.1 k = SM.1 k := fun k q1 q2 => (yr k q1 q2).trans (zr k q1)
  have yj' : ∀ i, i ≠ 11 → i ≠ 13 → i ≠ 14 → i ≠ 15 → i ≠ 16 → SM'.1 94 i = SM.1 94 i := fun i q1 q2 q3 q4 q5 => (yj i q1 q2 q3 q4 q5).trans (zj i q1)
  have yl' : SM'.2 = SM.2 := yl.trans rfl
  refine ⟨nS, nC, nT, nc, c, b, cm, _, ⟨C', ?_, by omega, ?_, c5, ?_, c7, ?_, c9⟩, ⟨M', m2.keep M' (by omega) (fun j hj => yj' j (by omega) (by omega) (by omega) (by omega) (by omega)), ?_, ?_, ?_, ?_, ?_⟩, hnm.keep (by rw [xl]) (by rw [yl']), hl.keep (xr 21 (by decide) (by decide)) (xr 22 (by decide) (by decide)) (fun k q1 q2 => yr' k (by omega) (by omega)), fun h0 => ?_⟩
  · rw [xr 20 (by decide) (by decide)]; exact c2
  · rw [x19, upd_ne (by omega)]; exact c4
  · rw [x19, upd_ne (by omega)]; exact c6
  · rw [x19, upd_ne (by omega)]; exact c8
  · rw [yr' 104 (by decide) (by omega)]; exact m3
  · rw [yr' 107 (by decide) (by omega)]; exact m4
  · rw [yr' 109 (by decide) (by omega)]; exact m5
  · rw [yj' 20 (by decide) (by decide) (by decide) (by decide) (by decide)]; exact m6
  · exact m7.eq (yr' 103 (by decide) (by omega))
  · obtain ⟨h0', hv⟩ := mA_0 (by decide) h0
    obtain ⟨e1, e2, e3, e4, e5, e6⟩ := hct h0'
    refine ⟨e1, e2.up (by omega) (Nat.le_refl _) (by rw [xl]) (by rw [xl]) (by rw [yl']) (by rw [yl']) (xr 31 (by decide) (by decide)) (yr' 103 (by decide) (by omega)), fun a ha => ?_, fun i hi => ?_, fun c hc => ?_, ?_⟩
    · rw [xr 25 (by decide) (by decide), xr 26 (by decide) (by decide), yr' 105 (by decide) (by omega), yr' 106 (by decide) (by omega)]
      exact e3 a ha
    · rw [xr 28 (by decide) (by decide), xr 29 (by decide) (by decide), yr' 110 (by decide) (by omega), yr' 111 (by decide) (by omega)]
      exact e4 i hi
    · rw [xr 27 (by decide) (by decide), yr' 108 (by decide) (by omega)]
      exact e5 c hc
    · unfold CTf
      rw [x19]
      rcases hj with ⟨rfl, rfl⟩ | ⟨rfl, rfl⟩
      · rw [upd_at, upd_ne (by decide), y1, upd_at, yr' 113 (by decide) (by decide)]
        exact ⟨rfl, e6.2⟩
      · rw [upd_at, upd_ne (by decide), y1, upd_at, yr' 112 (by decide) (by decide)]
        exact ⟨e6.1, rfl⟩
theorem t1_fi (hF : tkF z) (hS : MF z p m S) (hk : kK z p = 138) : f_X11_tellOne N S = rx_bd (f_X11_goesOn S) (fun x59 S58 => rx_bd (f_X11_bounded 0 99 S58) (fun x62 S61 => rx_gd (S58.1 94 19) 2 (rx_let (rx_ui S61 112 (Int32.toNatClampNeg (S58.1 94 19)) x62) (fun S65 => rx_bd (f_X11_must 4 S65) (fun x67 S66 => some ((), S66)))))) := by
  have hm := hF.2.1
  have hp := hS.2.2.1
  unfold f_X11_tellOne
  rw [hS.1, rx_gd_in (vp_in_nI (show p < 403 by omega) (by decide)), nI_clamp (by omega), t1_kind hF hS hk]
  simp only [rx_let]
  rw [if_neg (show ¬ nI (kM 138) = 20 from by decide), if_neg (show ¬ nI (kM 138) = 21 from by decide), if_neg (show ¬ nI (kM 138) = 22 from by decide), if_neg (show ¬ nI (kM 138) = 23 from by decide), if_neg (show ¬ nI (kM 138) = 24 from by decide), if_neg (show ¬ nI (kM 138) = 25 from by decide), if_neg (show ¬ nI (kM 138) = 26 from by decide), if_neg (show ¬ nI (kM 138) = 27 from by decide), if_neg (show ¬ nI (kM 138) = 28 from by decide), if_neg (show ¬ nI (kM 138) = 29 from by decide), if_pos (show nI (kM 138) = 30 from by decide)]
theorem t1_se (hF : tkF z) (hS : MF z p m S) (hk : kK z p = 139) : f_X11_tellOne N S = rx_bd (f_X11_goesOn S) (fun x59 S58 => rx_bd (f_X11_bounded 0 9999 S58) (fun x62 S61 => rx_gd (S58.1 94 19) 2 (rx_let (rx_ui S61 113 (Int32.toNatClampNeg (S58.1 94 19)) x62) (fun S65 => rx_bd (f_X11_must 4 S65) (fun x67 S66 => some ((), S66)))))) := by
  have hm := hF.2.1
  have hp := hS.2.2.1
  unfold f_X11_tellOne
  rw [hS.1, rx_gd_in (vp_in_nI (show p < 403 by omega) (by decide)), nI_clamp (by omega), t1_kind hF hS hk]
  simp only [rx_let]
  rw [if_neg (show ¬ nI (kM 139) = 20 from by decide), if_neg (show ¬ nI (kM 139) = 21 from by decide), if_neg (show ¬ nI (kM 139) = 22 from by decide), if_neg (show ¬ nI (kM 139) = 23 from by decide), if_neg (show ¬ nI (kM 139) = 24 from by decide), if_neg (show ¬ nI (kM 139) = 25 from by decide), if_neg (show ¬ nI (kM 139) = 26 from by decide), if_neg (show ¬ nI (kM 139) = 27 from by decide), if_neg (show ¬ nI (kM 139) = 28 from by decide), if_neg (show ¬ nI (kM 139) = 29 from by decide), if_neg (show ¬ nI (kM 139) = 30 from by decide), if_pos (show nI (kM 139) = 31 from by decide)]
theorem st_fi (hF : tkF z) (hR : RD z sd p SC SM) (hk : kK z p = 138) : ∃ r SC' SM', f_X4_readFine SC = some (r, SC') ∧ f_X11_tellOne N SM = some ((), SM') ∧ stO z sd p SC SM r SC' SM' := st_nm (kw := 138) (h := 99) (j := 9) (r := 112) hF hR hk (by decide) (Or.inl ⟨rfl, rfl⟩) (fun m nc hS => rdNm (kw := 138) (h := 99) (j := 9) (x := 138) (y := 99) hF hS (by decide) (by decide) (by decide) rfl rfl) (fun m hS h19 hs => by
  rw [t1_fi hF hS hk]
  exact refNm (h := 99) (r := 112) hF hS hk (by decide) h19 hs (Or.inl rfl) (by decide) rfl)
theorem st_se (hF : tkF z) (hR : RD z sd p SC SM) (hk : kK z p = 139) : ∃ r SC' SM', f_X4_readSeed SC = some (r, SC') ∧ f_X11_tellOne N SM = some ((), SM') ∧ stO z sd p SC SM r SC' SM' := st_nm (kw := 139) (h := 9999) (j := 10) (r := 113) hF hR hk (by decide) (Or.inr ⟨rfl, rfl⟩) (fun m nc hS => rdNm (kw := 139) (h := 9999) (j := 10) (x := 139) (y := 9999) hF hS (by decide) (by decide) (by decide) rfl rfl) (fun m hS h19 hs => by
  rw [t1_se hF hS hk]
  exact refNm (h := 9999) (r := 113) hF hS hk (by decide) h19 hs (Or.inr rfl) (by decide) rfl)
/-- a law, and what is none -/
def t1D (N : Nat) (S3 : rx_S) : Option (Unit × rx_S) := rx_gd (S3.1 94 11) 403 (rx_let ((S3.1 97 (Int32.toNatClampNeg (S3.1 94 11))) - 23) (fun x5 => rx_let (fun (x6 : Int32) (S7 : rx_S) => if (S7.1 94 13) ≤ 0 then (rx_bd (f_X11_goesOn S7) (fun x10 S9 => rx_bd (f_X11_tellLaw N x6 S9) (fun x13 S12 => some ((), S12)))) else (some ((), S7))) (fun J250_2 => rx_let (fun (x15 : Int32) (S16 : rx_S) => rx_bd (f_X11_fail 1 S16) (fun x18 S17 => J250_2 x15 S17)) (fun J245_3 => if x5 < 0 then (J245_3 x5 S3) else (rx_gd (S3.1 94 11) 403 (if (S3.1 97 (Int32.toNatClampNeg (S3.1 94 11))) ≤ 29 then (J250_2 x5 S3) else (J245_3 x5 S3)))))))
theorem kM_is {k c : Nat} {x : Int32} (hk : okK k = true) (hc : okK c = true) (hx : x = nI (kM c)) (h : nI (kM k) = x) : k = c := by
  have h1 := kM_lt k hk
  have h2 := kM_lt c hc
  rw [hx, nI_eq (by omega) (by omega)] at h
  exact kM_inj hk hc h
def ndF (k : Nat) : Bool := k == 128 || k == 129 || k == 130 || k == 138 || k == 139
def lwK (k : Nat) : Bool := decide (131 ≤ k) && decide (k < 138)
theorem bad_key : ∀ k, k < 152 → okK k = true → ndF k = false → lwK k = false → nI (kM k) - 23 < 0 ∨ ¬ nI (kM k) ≤ 29 := by decide +kernel
theorem t1_d (hF : tkF z) (hS : MF z p m S) (hk : ¬ kK z p = 128 ∧ ¬ kK z p = 129 ∧ ¬ kK z p = 130 ∧ ¬ kK z p = 138 ∧ ¬ kK z p = 139) : f_X11_tellOne N S = t1D N S := by
  have hm := hF.2.1
  have hp := hS.2.2.1
  have ho := hF.2.2.1 p hp
  have a1 : ¬ nI (kM (kK z p)) = 20 := fun e => hk.1 (kM_is ho (c := 128) rfl rfl e)
  have a2 : ¬ nI (kM (kK z p)) = 21 := fun e => hk.2.1 (kM_is ho (c := 129) rfl rfl e)
  have a3 : ¬ nI (kM (kK z p)) = 22 := fun e => hk.2.2.1 (kM_is ho (c := 130) rfl rfl e)
  have a4 : ¬ nI (kM (kK z p)) = 30 := fun e => hk.2.2.2.1 (kM_is ho (c := 138) rfl rfl e)
  have a5 : ¬ nI (kM (kK z p)) = 31 := fun e => hk.2.2.2.2 (kM_is ho (c := 139) rfl rfl e)
  unfold f_X11_tellOne t1D
  rw [hS.1, rx_gd_in (vp_in_nI (show p < 403 by omega) (by decide)), nI_clamp (by omega), t1_kind hF hS rfl]
  simp only [rx_let]
  rw [if_neg a1, if_neg a2, if_neg a3, if_neg a4, if_neg a5, hS.1, nI_clamp (by omega), t1_kind hF hS rfl]
  simp only [ite_self]
theorem t1_bad (hF : tkF z) (hS : MF z p m S) (hk : ¬ kK z p = 128 ∧ ¬ kK z p = 129 ∧ ¬ kK z p = 130 ∧ ¬ kK z p = 138 ∧ ¬ kK z p = 139) (hl : ¬ (131 ≤ kK z p ∧ kK z p < 138)) : f_X11_tellOne N S = some ((), flS S 1 (nI (kP z p))) ∧ flt z 1 p (flS S 1 (nI (kP z p))) := by
  have hm := hF.2.1
  have hp := hS.2.2.1
  have ho := hF.2.2.1 p hp
  have t := flS_flt (S := S) (f := 1) (x := 1) (Or.inl rfl) rfl hp
  refine ⟨?_, t⟩
  have n1 : ndF (kK z p) = false := by
    unfold ndF
    simp only [Bool.or_eq_false_iff, beq_eq_false_iff_ne, ne_eq]
    omega
  have n2 : lwK (kK z p) = false := by
    unfold lwK
    by_cases q : 131 ≤ kK z p
    · rw [decide_eq_false (show ¬ kK z p < 138 by omega), Bool.and_false]
    · rw [decide_eq_false q, Bool.false_and]
  have gd : ∀ {β : Type} (A : Option β), rx_gd (nI p) 403 A = A := fun A => rx_gd_in (vp_in_nI (by omega) (by decide))
  have fin : ∀ x6 : Int32, rx_bd (f_X11_fail 1 S) (fun x18 S17 => if (S17.1 94 13) ≤ 0 then (rx_bd (f_X11_goesOn S17) (fun x10 S9 => rx_bd (f_X11_tellLaw N x6 S9) (fun x13 S12 => some ((), S12)))) else (some ((), S17))) = some ((), flS S 1 (nI (kP z p))) := fun x6 => by
    rw [fail_ok hS.2.1 hS.1 hF hS.2.2.2.1 hp, bd_some, if_neg t.pos.1]
  rw [t1_d hF hS hk]
  unfold t1D
  simp only [rx_let]
  rw [hS.1, gd, nI_clamp (by omega), t1_kind hF hS rfl, gd]
  rcases bad_key (kK z p) (okK_lt ho) ho n1 n2 with e | e
  · rw [if_pos e]
    exact fin _
  · rw [if_neg e]
    split
    · exact fin _
    · exact fin _
theorem t1_law (hF : tkF z) (hS : MF z p m S) (hl : 131 ≤ kK z p ∧ kK z p < 138) : f_X11_tellOne N S = rx_bd (f_X11_goesOn S) (fun x10 S9 => rx_bd (f_X11_tellLaw N (nI (kK z p - 131)) S9) (fun x13 S12 => some ((), S12))) := by
  have hm := hF.2.1
  have hp := hS.2.2.1
  have ho := hF.2.2.1 p hp
  have key : ∀ k, k < 152 → 131 ≤ k ∧ k < 138 → ¬ nI (kM k) - 23 < 0 ∧ nI (kM k) ≤ 29 ∧ nI (kM k) - 23 = nI (k - 131) := by decide +kernel
  obtain ⟨a1, a2, a3⟩ := key (kK z p) (okK_lt ho) hl
  have gd : ∀ {β : Type} (A : Option β), rx_gd (nI p) 403 A = A := fun A => rx_gd_in (vp_in_nI (by omega) (by decide))
  rw [t1_d hF hS (by omega)]
  unfold t1D
  simp only [rx_let]
  rw [hS.1, gd, nI_clamp (by omega), t1_kind hF hS rfl, gd, if_neg a1, if_pos a2, if_pos (by rw [hS.2.1]; decide), a3]
end STC
