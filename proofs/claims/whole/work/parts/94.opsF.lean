/-! ===== hire, swear, undo, hold, restore ===== -/
section OPF
variable {N : Nat} {T : tx} {n : Nat} {SC SM SC' SM' : rx_S}
theorem hC_inj {x y : Int32} (hF : WF T) (hx : x = -2 ∨ ∃ i, i < tT T ∧ x = nI i) (hy : y = -2 ∨ ∃ i, i < tT T ∧ y = nI i) : hC x = hC y ↔ x = y := by
  constructor
  · intro e
    have n1 : ∀ i, i < tT T → ¬ nI i = -2 := fun i hi z => by
      have := wf_t hF hi
      exact nI_m2 (by omega) z
    have n2 : ∀ i, i < tT T → ¬ nI i = -1 := fun i hi z => by
      have h4 := wf_t hF hi
      have h5 : ∀ k : Nat, k < 4 → ¬ nI k = -1 := by decide
      exact h5 i h4 z
    unfold hC at e
    rcases hx with rfl | ⟨i, hi, rfl⟩
    · rcases hy with rfl | ⟨j, hj, rfl⟩
      · rfl
      · rw [if_pos rfl, if_neg (n1 j hj)] at e
        exact absurd e.symm (n2 j hj)
    · rcases hy with rfl | ⟨j, hj, rfl⟩
      · rw [if_pos rfl, if_neg (n1 i hi)] at e
        exact absurd e (n2 i hi)
      · rw [if_neg (n1 i hi), if_neg (n1 j hj)] at e
        exact e
  · intro e
    rw [e]
theorem WS.hires {w : Nat} {st : Nat → Int32} {c : Nat} {v : Int32} (h : WS T w st) (hc : c < 3) (hv : v = -2 ∨ ∃ i, i < tT T ∧ v = nI i) : WS T w (upd st (12 + c) v) := h.up (wsj_hire hc hv)
theorem st_hire (hN : 5000 ≤ N) : ST_hire N (Inv N) := by
  intro n SC SM hn h x1 x2
  obtain ⟨-, -, -, -, -, T, ⟨hF, hC', hM⟩, ⟨hR, w, hw, hW⟩, ⟨nx, ds, u1, u2, u3, u4, u5, u6⟩, hh⟩ := id h
  have no : ∃ r SC' SM', (some ((0 : Int32), SC) : Option (Int32 × rx_S)) = some (r, SC') ∧ (some ((0 : Int32), SM) : Option (Int32 × rx_S)) = some (r, SM') ∧ Inv N (n + 1) SC' SM' := st_q (R := 0) h (by rw [pk_some]; exact ⟨rfl, iC.rf⟩) (by rw [pk_some]; exact ⟨rfl, iM.rf⟩)
  have n1 : ¬ (1 : Int32) = 0 := by decide
  unfold f_X10_hire f_X11_hire
  rcases couple_cases hF hC' hM x1 with ⟨c, hc, rfl, e1, e2⟩ | ⟨e1, e2⟩
  · rw [e1, bd_some, if_neg n1, e2, bd_some, if_neg n1]
    simp only [rx_let]
    have hc3 := wf_c hF hc
    have core : ∀ to : Int32, (to = -2 ∨ ∃ i, i < tT T ∧ to = nI i) → ∃ r SC' SM', (rx_gd ((19 : Int32) + nI c) 48 (if (SC.1 32 (Int32.toNatClampNeg ((19 : Int32) + nI c))) = 0 then (rx_gd ((16 : Int32) + nI c) 48 (if (SC.1 32 (Int32.toNatClampNeg ((16 : Int32) + nI c))) = hC to then (some ((0 : Int32), SC)) else (rx_bd (f_X3_remember SC) (fun x16 S15 => rx_gd ((16 : Int32) + nI c) 48 (some (1, rx_ui S15 32 (Int32.toNatClampNeg ((16 : Int32) + nI c)) (hC to))))))) else (some (0, SC)))) = some (r, SC') ∧ (rx_gd ((15 : Int32) + nI c) 48 (if (SM.1 126 (Int32.toNatClampNeg ((15 : Int32) + nI c))) = 1 then (some ((0 : Int32), SM)) else (rx_gd ((12 : Int32) + nI c) 48 (if (SM.1 126 (Int32.toNatClampNeg ((12 : Int32) + nI c))) = to then (some (0, SM)) else (rx_bd (f_X11_copies N SM) (fun x19 S18 => rx_gd ((12 : Int32) + nI c) 48 (rx_bd (f_X11_keeps N (rx_ui S18 127 (Int32.toNatClampNeg ((12 : Int32) + nI c)) to)) (fun x24 S23 => some (1, S23))))))))) = some (r, SM') ∧ Inv N (n + 1) SC' SM' := by
      intro to hto
      have c19 : (19 : Int32) + nI c = nI (19 + c) := nI_add 19 c
      have c16 : (16 : Int32) + nI c = nI (16 + c) := nI_add 16 c
      have c15 : (15 : Int32) + nI c = nI (15 + c) := nI_add 15 c
      have c12 : (12 : Int32) + nI c = nI (12 + c) := nI_add 12 c
      rw [c19, c16, c15, c12, rx_gd_in (vp_in_nI (show 19 + c < 48 by omega) (by decide)), rx_gd_in (vp_in_nI (show 15 + c < 48 by omega) (by decide)), rx_gd_in (vp_in_nI (show 16 + c < 48 by omega) (by decide)), rx_gd_in (vp_in_nI (show 12 + c < 48 by omega) (by decide)), nI_clamp (show 19 + c < 2 ^ 31 by omega), nI_clamp (show 16 + c < 2 ^ 31 by omega), nI_clamp (show 15 + c < 2 ^ 31 by omega), nI_clamp (show 12 + c < 2 ^ 31 by omega), hR.at (k := 19 + c) (j := 15 + c) (by omega) (by omega) (by omega), hR.2.1 c hc hc3]
      rcases hW.part hc3 with z | z
      · rw [z, if_pos rfl, if_neg (show ¬ (0 : Int32) = 1 by decide)]
        have hi := hC_inj hF (hW.hire hc3 hc) hto
        by_cases q : SM.1 126 (12 + c) = to
        · rw [if_pos (hi.mpr q), if_pos q]
          exact no
        · rw [if_neg (fun z => q (hi.mp z)), if_neg q]
          obtain ⟨_, SC1, f1, hr⟩ := rem_ok u1 u2 u3 u4
          obtain ⟨_, S1, f2, hcp⟩ := copies_ok hN hM
          have hcp : cM T SM S1 := hcp
          have hm2 : iM SM (rx_ui S1 127 (12 + c) to) := hcp.i.tr (wM.i wM.u7)
          obtain ⟨_, S3, f5, hk⟩ := keeps_ok hN u2 (S := rx_ui S1 127 (12 + c) to) (by rw [hm2.fld (by omega)]; exact u5)
          rw [f1, bd_some, f2, bd_some, rx_gd_in (vp_in_nI (show 16 + c < 48 by omega) (by decide)), rx_gd_in (vp_in_nI (show 12 + c < 48 by omega) (by decide)), f5, bd_some]
          refine ⟨1, _, S3, rfl, rfl, h.did ⟨hF, hC', hM⟩ ⟨hR, w, hw, hW⟩ hh u1 u2 u6 hr (SC2 := rx_ui SC1 32 (16 + c) (hC to)) (fun k h1 h2 => ui_row h2) rfl hm2 hk (w := w) (by omega) ?_ ?_⟩
          · rw [ui_same, ui_same, hr.now]
            exact (hcp.st hR).uh hc3
          · rw [ui_same]
            exact (hcp.ws hW).hires hc3 hto
      · rw [z, if_neg n1, if_pos rfl]
        exact no
    by_cases q1 : x2 = -1
    · subst q1
      rw [if_pos rfl, if_pos rfl, if_pos rfl]
      have := core (-2) (Or.inl rfl)
      rw [show hC (-2) = -1 by decide] at this
      exact this
    · rw [if_neg q1, if_neg q1]
      rcases third_cases hF hC' hM x2 with ⟨i, hi, rfl, g1, g2⟩ | ⟨g1, g2⟩
      · rw [g1, bd_some, if_neg n1, g2, bd_some, if_neg n1, if_neg q1]
        have := core (nI i) (Or.inr ⟨i, hi, rfl⟩)
        have hi4 := wf_t hF hi
        rw [show hC (nI i) = nI i from if_neg (nI_m2 (by omega))] at this
        exact this
      · rw [g1, bd_some, if_pos rfl, g2, bd_some, if_pos rfl]
        exact no
  · rw [e1, bd_some, if_pos rfl, e2, bd_some, if_pos rfl]
    exact no
theorem st_swear (hN : 5000 ≤ N) : ST_swear N (Inv N) := by
  intro n SC SM hn h x1 x2 hx2
  obtain ⟨-, -, -, -, -, T, ⟨hF, hC', hM⟩, ⟨hR, w, hw, hW⟩, ⟨nx, ds, u1, u2, u3, u4, u5, u6⟩, hh⟩ := id h
  have no : ∃ r SC' SM', (some ((0 : Int32), SC) : Option (Int32 × rx_S)) = some (r, SC') ∧ (some ((0 : Int32), SM) : Option (Int32 × rx_S)) = some (r, SM') ∧ Inv N (n + 1) SC' SM' := st_q (R := 0) h (by rw [pk_some]; exact ⟨rfl, iC.rf⟩) (by rw [pk_some]; exact ⟨rfl, iM.rf⟩)
  have n1 : ¬ (1 : Int32) = 0 := by decide
  unfold f_X10_swear f_X11_swear
  simp only [rx_let]
  have eC : ∀ A B : Option (Int32 × rx_S), (if x2 = 0 then A else B) = if x2 = 0 then A else B := fun _ _ => rfl
  rcases third_cases hF hC' hM x1 with ⟨i, hi, rfl, e1, e2⟩ | ⟨e1, e2⟩
  · have hi4 := wf_t hF hi
    have c36 : (36 : Int32) + nI i = nI (36 + i) := nI_add 36 i
    have c32 : (32 : Int32) + nI i = nI (32 + i) := nI_add 32 i
    rw [e1, bd_some, bd_some, if_neg n1, e2, bd_some, if_neg n1, c36, c32, rx_gd_in (vp_in_nI (show 36 + i < 48 by omega) (by decide)), rx_gd_in (vp_in_nI (show 36 + i < 48 by omega) (by decide)), rx_gd_in (vp_in_nI (show 32 + i < 48 by omega) (by decide)), nI_clamp (show 36 + i < 2 ^ 31 by omega), nI_clamp (show 32 + i < 2 ^ 31 by omega), hR.at (k := 36 + i) (j := 32 + i) (by omega) (by omega) (by omega)]
    have core : ∀ v : Int32, v = 0 ∨ v = 1 → ∃ r SC' SM', (rx_bd (f_X3_remember SC) (fun x14 S13 => rx_gd (nI (36 + i)) 48 (some ((1 : Int32), rx_ui S13 32 (36 + i) v)))) = some (r, SC') ∧ (rx_bd (f_X11_copies N SM) (fun x15 S14 => rx_gd (nI (32 + i)) 48 (rx_bd (f_X11_keeps N (rx_ui S14 127 (32 + i) v)) (fun x23 S22 => some ((1 : Int32), S22))))) = some (r, SM') ∧ Inv N (n + 1) SC' SM' := by
      intro v hv
      obtain ⟨_, SC1, f1, hr⟩ := rem_ok u1 u2 u3 u4
      obtain ⟨_, S1, f2, hcp⟩ := copies_ok hN hM
      have hcp : cM T SM S1 := hcp
      have hm2 : iM SM (rx_ui S1 127 (32 + i) v) := hcp.i.tr (wM.i wM.u7)
      obtain ⟨_, S3, f5, hk⟩ := keeps_ok hN u2 (S := rx_ui S1 127 (32 + i) v) (by rw [hm2.fld (by omega)]; exact u5)
      rw [f1, bd_some, f2, bd_some, rx_gd_in (vp_in_nI (show 36 + i < 48 by omega) (by decide)), rx_gd_in (vp_in_nI (show 32 + i < 48 by omega) (by decide)), f5, bd_some]
      refine ⟨1, _, S3, rfl, rfl, h.did ⟨hF, hC', hM⟩ ⟨hR, w, hw, hW⟩ hh u1 u2 u6 hr (SC2 := rx_ui SC1 32 (36 + i) v) (fun k h1 h2 => ui_row h2) rfl hm2 hk (w := w) (by omega) ?_ ?_⟩
      · rw [ui_same, ui_same, hr.now]
        exact (hcp.st hR).u (by omega) (by omega) (by omega)
      · rw [ui_same]
        exact (hcp.ws hW).up (wsj_sw hi4 hi hv)
    rcases hx2 with rfl | rfl
    · rcases hW.sw hi4 with z | z
      · rw [z]
        simp only [if_true, if_neg (show ¬ (0 : Int32) = 1 by decide)]
        exact no
      · rw [z]
        simp only [if_true, if_neg n1]
        exact core 0 (Or.inl rfl)
    · rcases hW.sw hi4 with z | z
      · rw [z]
        simp only [if_neg n1, if_neg (show ¬ (0 : Int32) = 1 by decide)]
        exact core 1 (Or.inr rfl)
      · rw [z]
        simp only [if_true, if_neg n1]
        exact no
  · rw [e1, bd_some, if_pos rfl, bd_some, if_pos rfl, e2, bd_some, if_pos rfl]
    have : (if x2 = 0 then (some ((0 : Int32), SC) : Option (Int32 × rx_S)) else some (0, SC)) = some (0, SC) := by split <;> rfl
    rw [this]
    exact no
theorem und_L {d : Nat} (hd : d < 40) {S0 : rx_S} (e : S0.1 94 52 = nI d) : ∀ (m c i : Nat) (S : rx_S), i + m = 48 → m < c → fK 126 S0 S → (∀ j, j < i → S.1 126 j = S0.1 128 (48 * d + j)) → pk (f_X11_undo_L21 N c (nI i) S) (fun r S' => r = 1 ∧ fK 126 S0 S' ∧ ∀ j, j < 48 → S'.1 126 j = S0.1 128 (48 * d + j)) := by
  intro m
  induction m with
  | zero =>
    intro c i S hi hc f h
    obtain ⟨c, rfl⟩ : ∃ q, c = q + 1 := ⟨c - 1, by omega⟩
    rw [f_X11_undo_L21, if_pos (show (48 : Int32) ≤ nI i from nI_le (a := 48) (by omega) (by omega)), pk_some]
    exact ⟨rfl, f, fun j hj => h j (by omega)⟩
  | succ m ih =>
    intro c i S hi hc f h
    obtain ⟨c, rfl⟩ : ∃ q, c = q + 1 := ⟨c - 1, by omega⟩
    have ei : (48 : Int32) * nI d + nI i = nI (48 * d + i) := by
      have : (48 : Int32) * nI d = nI (48 * d) := nI_mul 48 d
      rw [this, nI_add]
    rw [f_X11_undo_L21, if_neg (show ¬ (48 : Int32) ≤ nI i from nI_ge (b := 48) (by omega) (by decide)), f.1 94 (by decide), e, ei, pk_gdn (by omega) (by decide), pk_gdn (by omega) (by decide), pk_let, pk_let, nI_1, nI_clamp (by omega), nI_clamp (by omega)]
    refine ih c (i + 1) _ (by omega) (by omega) (f.tr fK.ui) (fun j hj => ?_)
    rw [ui_same]
    by_cases e : j = i
    · subst e
      rw [upd_at, f.1 128 (by decide)]
    · rw [upd_ne e]
      exact h j (by omega)
theorem st_undo (hN : 5000 ≤ N) : ST_undo N (Inv N) := by
  intro n SC SM hn h
  obtain ⟨hT, hp, k1, k2, ho, T, hx, hs, ⟨nx, ds, u1, u2, u3, u4, u5, u6⟩, hh⟩ := id h
  have no : ∃ r SC' SM', (some ((0 : Int32), SC) : Option (Int32 × rx_S)) = some (r, SC') ∧ (some ((0 : Int32), SM) : Option (Int32 × rx_S)) = some (r, SM') ∧ Inv N (n + 1) SC' SM' := st_q (R := 0) h (by rw [pk_some]; exact ⟨rfl, iC.rf⟩) (by rw [pk_some]; exact ⟨rfl, iM.rf⟩)
  unfold f_X10_undo f_X11_undo f_X3_takeBack
  simp only [rx_let]
  rw [u3, u4, u5]
  by_cases q : ds = 0
  · subst q
    rw [if_pos (show nI 0 = 0 from rfl), if_pos (show nI 0 = 0 from rfl), if_pos (show nI 0 = 0 from rfl)]
    have : (if nI nx ≤ 0 then (some ((0 : Int32), SC) : Option (Int32 × rx_S)) else some (0, SC)) = some (0, SC) := by split <;> rfl
    rw [this, bd_some, rx_bl_in (Or.inl rfl)]
    exact no
  · rw [if_neg (nI_ne0 (by omega) (by omega)), if_neg (nI_ne0 (by omega) (by omega)), if_neg (nI_ne0 (by omega) (by omega))]
    have ed : nI ds - 1 = nI (ds - 1) := nI_sub (b := 1) (by omega)
    rw [ed]
    obtain ⟨r, S2, e2, er, f2, h2⟩ := und_L (N := N) (d := ds - 1) (by omega) (S0 := rx_ui SM 94 52 (nI (ds - 1))) (by rw [ui_same, upd_at]) 48 N 0 _ rfl (by omega) fK.rf (fun j hj => absurd hj (by omega))
    rw [er] at e2
    have e2 : f_X11_undo_L21 N N 0 (rx_ui SM 94 52 (nI (ds - 1))) = some (1, S2) := e2
    have core : ∀ l : Nat, l < 40 → l = (nx + 39) % 40 → ∃ r SC' SM', rx_bd (if nI l < 40 then (rx_gd (nI l) 40 (some ((1 : Int32), rx_ui (rx_ui (rx_ur SC 32 (va_cpy (SC.1 (35 + Int32.toNatClampNeg (nI l))) (SC.1 32) 0 0 48)) 33 3 (nI l)) 33 4 (((rx_ui (rx_ur SC 32 (va_cpy (SC.1 (35 + Int32.toNatClampNeg (nI l))) (SC.1 32) 0 0 48)) 33 3 (nI l)).1 33 4) - 1)))) else (some (0, SC))) (fun x3 S2 => rx_bl x3 (some (x3, S2))) = some (r, SC') ∧ f_X11_undo_L21 N N 0 (rx_ui SM 94 52 (nI (ds - 1))) = some (r, SM') ∧ Inv N (n + 1) SC' SM' := by
      intro l hl el
      rw [if_pos (show nI l < 40 from nI_lt (b := 40) hl (by decide)), rx_gd_in (vp_in_nI hl (by decide)), bd_some, rx_bl_in (Or.inr rfl), nI_clamp (by omega), ui_same, upd_ne (by decide), ur_get, if_neg (by decide), u4, ed, e2]
      have ei : (nx + (40 - ds) + (ds - 1)) % 40 = l := by omega
      have hsv := u6 (ds - 1) (by omega)
      rw [ei] at hsv
      have fc : ∀ k, k ≠ 32 → k ≠ 33 → (rx_ui (rx_ui (rx_ur SC 32 (va_cpy (SC.1 (35 + l)) (SC.1 32) 0 0 48)) 33 3 (nI l)) 33 4 (nI (ds - 1))).1 k = SC.1 k := fun k q1 q2 => by rw [ui_row q2, ui_row q2, ur_get, if_neg q1]
      have fm : ∀ k, k ≠ 126 → k ≠ 94 → S2.1 k = SM.1 k := fun k q1 q2 => by rw [f2.1 k q1, ui_row q2]
      have fd : ∀ j, j ≠ 52 → S2.1 94 j = SM.1 94 j := fun j hj => by rw [f2.1 94 (by decide), ui_same, upd_ne hj]
      refine ⟨1, _, S2, rfl, rfl, hT.eq ?_ ?_ (fd 2 (by decide)) (fm 95 (by decide) (by decide)), ?_, k1, ?_, ho.eq ?_ ?_ ?_ (fd 62 (by decide)) (fm 134 (by decide) (by decide)) (fm 135 (by decide) (by decide)), T, ⟨hx.1, hx.2.1.ag (fun k hk => fc k (by omega) (by omega)), hx.2.2.ag ⟨fun k h1 h2 => fm k (by omega) (by omega), fd 18 (by decide)⟩⟩, (hsv.up).eq (fun j hj => ?_) (fun j hj => ?_), ⟨l, ds - 1, hl, by omega, ?_, ?_, ?_, fun u hu => ?_⟩, hh.eq (fc 79 (by decide) (by decide)) (fun s hs => fc _ (by omega) (by omega)) (fm 137 (by decide) (by decide)) (fm 138 (by decide) (by decide))⟩
      · rw [fc 0 (by decide) (by decide)]
      · exact fc 1 (by decide) (by decide)
      · rw [fc 0 (by decide) (by decide), fd 17 (by decide)]; exact hp
      · rw [f2.2]; exact k2
      · rw [fc 91 (by decide) (by decide)]
      · exact fc 92 (by decide) (by decide)
      · exact fc 93 (by decide) (by decide)
      · rw [ui_row (by decide), ui_row (by decide), ur_same, cpy_get hj]
      · rw [h2 j hj, ui_row (by decide)]
      · rw [ui_same, upd_ne (by decide), ui_same, upd_at]
      · rw [ui_same, upd_at]
      · rw [f2.1 94 (by decide), ui_same, upd_at]
      · have ei2 : (l + (40 - (ds - 1)) + u) % 40 = (nx + (40 - ds) + u) % 40 := by omega
        rw [ei2, fc _ (by omega) (by omega), fm 128 (by decide) (by decide)]
        exact (u6 u (by omega)).up
    by_cases q0 : nx = 0
    · subst q0
      rw [if_pos (show nI 0 ≤ 0 by decide)]
      exact core 39 (by decide) (by decide)
    · rw [if_neg (nI_nle (by omega) (by omega)), show nI nx - 1 = nI (nx - 1) from nI_sub (b := 1) (by omega)]
      exact core (nx - 1) (by omega) (by omega)
theorem hld_L {s : Nat} (hs : s < 3) {S0 : rx_S} : ∀ (m c i : Nat) (S : rx_S), i + m = 48 → m < c → fK 138 S0 S → (∀ j, j < i → S.1 138 (48 * s + j) = S0.1 126 j) → (∀ j, (j < 48 * s ∨ 48 * s + 48 ≤ j) → S.1 138 j = S0.1 138 j) → pk (f_X11_hold_L20 N c (nI s) (nI i) S) (fun r S' => r = 1 ∧ fK 138 S0 S' ∧ (∀ j, j < 48 → S'.1 138 (48 * s + j) = S0.1 126 j) ∧ (∀ j, (j < 48 * s ∨ 48 * s + 48 ≤ j) → S'.1 138 j = S0.1 138 j)) := by
  intro m
  induction m with
  | zero =>
    intro c i S hi hc f h h2
    obtain ⟨c, rfl⟩ : ∃ q, c = q + 1 := ⟨c - 1, by omega⟩
    rw [f_X11_hold_L20, if_pos (show (48 : Int32) ≤ nI i from nI_le (a := 48) (by omega) (by omega)), pk_some]
    exact ⟨rfl, f, fun j hj => h j (by omega), h2⟩
  | succ m ih =>
    intro c i S hi hc f h h2
    obtain ⟨c, rfl⟩ : ∃ q, c = q + 1 := ⟨c - 1, by omega⟩
    have ei : (48 : Int32) * nI s + nI i = nI (48 * s + i) := by
      have : (48 : Int32) * nI s = nI (48 * s) := nI_mul 48 s
      rw [this, nI_add]
    rw [f_X11_hold_L20, if_neg (show ¬ (48 : Int32) ≤ nI i from nI_ge (b := 48) (by omega) (by decide)), ei, pk_gdn (by omega) (by decide), pk_gdn (by omega) (by decide), pk_let, pk_let, nI_1, nI_clamp (by omega), nI_clamp (by omega)]
    refine ih c (i + 1) _ (by omega) (by omega) (f.tr fK.ui) (fun j hj => ?_) (fun j hj => ?_)
    · rw [ui_same]
      by_cases e : j = i
      · subst e
        rw [upd_at, f.1 126 (by decide)]
      · rw [upd_ne (by omega)]
        exact h j (by omega)
    · rw [ui_same, upd_ne (by omega)]
      exact h2 j hj
theorem slot_cases (x : Int32) : (∃ s, s < 3 ∧ x = nI s ∧ f_X3_isSlot x SC = some (1, SC) ∧ f_X11_in x 0 2 SM = some (1, SM)) ∨ (f_X3_isSlot x SC = some (0, SC) ∧ f_X11_in x 0 2 SM = some (0, SM)) := by
  have e : f_X3_isSlot x SC = some (if 0 ≤ x ∧ x ≤ 2 then 1 else 0, SC) := by
    unfold f_X3_isSlot
    have c7 : (2 : Int32).toInt = 2 := rfl
    have c8 : (3 : Int32).toInt = 3 := rfl
    by_cases h1 : x < 0
    · rw [if_pos h1, if_neg (fun q => i_nlt.mpr q.1 h1)]
    · rw [if_neg h1]
      by_cases h2 : 3 ≤ x
      · rw [if_pos h2, if_neg (fun q => by have := q.2; rw [i_le] at h2 this; omega)]
      · rw [if_neg h2, if_pos ⟨i_nlt.mp h1, by rw [i_le] at h2 ⊢; omega⟩]
  rcases rng_cases (x := x) (y := 2) (m := 2) (by decide) rfl with ⟨w, hw, hx, h⟩ | h
  · rw [if_pos h] at e
    exact Or.inl ⟨w, by omega, hx, e, by rw [in_eq, if_pos h]⟩
  · rw [if_neg h] at e
    exact Or.inr ⟨e, by rw [in_eq, if_neg h]⟩
theorem nar1 : vp_nar .boolean 1 = 1 := by decide
theorem nar0 : vp_nar .boolean 0 = 0 := by decide
theorem st_hold (hN : 5000 ≤ N) : ST_hold N (Inv N) := by
  intro n SC SM hn h x1
  obtain ⟨hT, hp, k1, k2, ho, T, hx, hs, hu, hh⟩ := id h
  have n1 : ¬ (1 : Int32) = 0 := by decide
  unfold f_X10_hold f_X11_hold f_X3_keep
  simp only [rx_let]
  rcases slot_cases (SC := SC) (SM := SM) x1 with ⟨s, hs3, rfl, e1, e2⟩ | ⟨e1, e2⟩
  · rw [e1, bd_some, if_neg n1, e2, bd_some, if_neg n1, nar1, rx_gd_in (vp_in_nI hs3 (by decide)), rx_gd_in (vp_in_nI hs3 (by decide)), rx_gd_in (vp_in_nI hs3 (by decide)), bd_some, rx_bl_in (Or.inr rfl), nI_clamp (by omega)]
    obtain ⟨r, S2, f2, er, g, h1, h2⟩ := hld_L (N := N) hs3 (S0 := rx_ui SM 137 s 1) 48 N 0 _ rfl (by omega) fK.rf (fun j hj => absurd hj (by omega)) (fun _ _ => rfl)
    rw [er] at f2
    have fc : ∀ k, k ≠ 76 + s → k ≠ 79 → (rx_ui (rx_ur SC (76 + s) (va_cpy (SC.1 32) (SC.1 (76 + s)) 0 0 48)) 79 s 1).1 k = SC.1 k := fun k q1 q2 => by rw [ui_row q2, ur_get, if_neg q1]
    have fm : ∀ k, k ≠ 137 → k ≠ 138 → S2.1 k = SM.1 k := fun k q1 q2 => by rw [g.1 k q2, ui_row q1]
    refine ⟨1, _, S2, rfl, f2, hT.eq ?_ ?_ ?_ (fm 95 (by decide) (by decide)), ?_, k1, ?_, ho.eq ?_ ?_ ?_ ?_ (fm 134 (by decide) (by decide)) (fm 135 (by decide) (by decide)), T, ⟨hx.1, hx.2.1.ag (fun k hk => fc k (by omega) (by omega)), hx.2.2.ag ⟨fun k h1 h2 => fm k (by omega) (by omega), ?_⟩⟩, ?_, hu.eq ?_ ?_ (fun k q1 q2 => fc k (by omega) (by omega)) ?_ (fm 128 (by decide) (by decide)), fun t ht => ?_⟩
    · rw [fc 0 (by omega) (by omega)]
    · exact fc 1 (by omega) (by omega)
    · rw [fm 94 (by decide) (by decide)]
    · rw [fc 0 (by omega) (by omega), fm 94 (by decide) (by decide)]; exact hp
    · rw [g.2]; exact k2
    · rw [fc 91 (by omega) (by omega)]
    · exact fc 92 (by omega) (by omega)
    · exact fc 93 (by omega) (by omega)
    · rw [fm 94 (by decide) (by decide)]
    · rw [fm 94 (by decide) (by decide)]
    · rw [fc 32 (by omega) (by omega), fm 126 (by decide) (by decide)]; exact hs.up
    · rw [fc 33 (by omega) (by omega)]
    · rw [fc 33 (by omega) (by omega)]
    · rw [fm 94 (by decide) (by decide)]
    · rw [ui_same, ur_get, if_neg (by omega), g.1 137 (by decide), ui_same]
      by_cases e : t = s
      · subst e
        refine Or.inr ⟨upd_at, upd_at, (hs.up).eq (fun j hj => ?_) (fun j hj => ?_)⟩
        · rw [ui_row (by omega), ur_same, cpy_get hj]
        · rw [h1 j hj, ui_row (by decide)]
      · rw [upd_ne e, upd_ne e]
        rcases hh t ht with z | ⟨z1, z2, z3⟩
        · exact Or.inl z
        · refine Or.inr ⟨z1, z2, (z3.up).eq (fun j hj => ?_) (fun j hj => ?_)⟩
          · rw [fc _ (by omega) (by omega)]
          · rw [h2 _ (by omega), ui_row (by decide)]
  · rw [e1, bd_some, if_pos rfl, bd_some, rx_bl_in (Or.inl rfl), e2, bd_some, if_pos rfl]
    exact st_q (R := 0) h (by rw [pk_some]; exact ⟨rfl, iC.rf⟩) (by rw [pk_some]; exact ⟨rfl, iM.rf⟩)
theorem rst_L {s : Nat} (hs : s < 3) {P : Int32 → rx_S → Prop} {K : rx_S → Option (Int32 × rx_S)} {S0 : rx_S} (k : ∀ S', fK 126 S0 S' → (∀ j, j < 48 → S'.1 126 j = S0.1 138 (48 * s + j)) → pk (K S') P) : ∀ (m c i : Nat) (S : rx_S), i + m = 48 → m < c → fK 126 S0 S → (∀ j, j < i → S.1 126 j = S0.1 138 (48 * s + j)) → pk (f_X11_restore_L22 N K c (nI s) (nI i) S) P := by
  intro m
  induction m with
  | zero =>
    intro c i S hi hc f h
    obtain ⟨c, rfl⟩ : ∃ q, c = q + 1 := ⟨c - 1, by omega⟩
    rw [f_X11_restore_L22, if_pos (show (48 : Int32) ≤ nI i from nI_le (a := 48) (by omega) (by omega))]
    exact k S f (fun j hj => h j (by omega))
  | succ m ih =>
    intro c i S hi hc f h
    obtain ⟨c, rfl⟩ : ∃ q, c = q + 1 := ⟨c - 1, by omega⟩
    have ei : (48 : Int32) * nI s + nI i = nI (48 * s + i) := by
      have : (48 : Int32) * nI s = nI (48 * s) := nI_mul 48 s
      rw [this, nI_add]
    rw [f_X11_restore_L22, if_neg (show ¬ (48 : Int32) ≤ nI i from nI_ge (b := 48) (by omega) (by decide)), ei, pk_gdn (by omega) (by decide), pk_gdn (by omega) (by decide), pk_let, pk_let, nI_1, nI_clamp (by omega), nI_clamp (by omega)]
    refine ih c (i + 1) _ (by omega) (by omega) (f.tr fK.ui) (fun j hj => ?_)
    rw [ui_same]
    by_cases e : j = i
    · subst e
      rw [upd_at, f.1 138 (by decide)]
    · rw [upd_ne e]
      exact h j (by omega)
theorem st_restore (hN : 5000 ≤ N) : ST_restore N (Inv N) := by
  intro n SC SM hn h x1
  obtain ⟨hT, hp, k1, k2, ho, T, hx, hs, ⟨nx, ds, u1, u2, u3, u4, u5, u6⟩, hh⟩ := id h
  have n1 : ¬ (1 : Int32) = 0 := by decide
  have no : ∃ r SC' SM', (some ((0 : Int32), SC) : Option (Int32 × rx_S)) = some (r, SC') ∧ (some ((0 : Int32), SM) : Option (Int32 × rx_S)) = some (r, SM') ∧ Inv N (n + 1) SC' SM' := st_q (R := 0) h (by rw [pk_some]; exact ⟨rfl, iC.rf⟩) (by rw [pk_some]; exact ⟨rfl, iM.rf⟩)
  unfold f_X10_restore f_X11_restore f_X3_bringBack f_X3_forgetDone
  simp only [rx_let]
  rcases slot_cases (SC := SC) (SM := SM) x1 with ⟨s, hs3, rfl, e1, e2⟩ | ⟨e1, e2⟩
  · rw [e1, bd_some, if_neg n1, e2, bd_some, if_neg n1, rx_gd_in (vp_in_nI hs3 (by decide)), rx_gd_in (vp_in_nI hs3 (by decide)), rx_gd_in (vp_in_nI hs3 (by decide)), nI_clamp (by omega)]
    rcases hh s hs3 with ⟨z1, z2⟩ | ⟨z1, z2, z3⟩
    · rw [z1, if_pos rfl, bd_some, if_pos rfl, z2, if_pos rfl]
      exact no
    · rw [z1, if_neg n1, bd_some, if_neg n1, bd_some, z2, if_neg n1]
      have hm : pk (f_X11_restore_L22 N (fun S9 => some ((1 : Int32), rx_ui S9 94 52 0)) N (nI s) 0 SM) (fun r S' => r = 1 ∧ (∀ k, k ≠ 126 → k ≠ 94 → S'.1 k = SM.1 k) ∧ (∀ j, j ≠ 52 → S'.1 94 j = SM.1 94 j) ∧ S'.1 94 52 = 0 ∧ (∀ j, j < 48 → S'.1 126 j = SM.1 138 (48 * s + j)) ∧ S'.2 = SM.2) := by
        refine rst_L hs3 (S0 := SM) (fun S1 f g => ?_) 48 N 0 SM rfl (by omega) fK.rf (fun j hj => absurd hj (by omega))
        rw [pk_some]
        refine ⟨rfl, fun k q1 q2 => ?_, fun j hj => ?_, ?_, fun j hj => ?_, f.2⟩
        · rw [ui_row q2, f.1 k q1]
        · rw [ui_same, upd_ne hj, f.1 94 (by decide)]
        · rw [ui_same, upd_at]
        · rw [ui_row (by decide)]; exact g j hj
      obtain ⟨r, S2, f2, er, fm, fd, f52, f126, fL⟩ := hm
      rw [er] at f2
      have fc : ∀ k, k ≠ 32 → k ≠ 33 → (rx_ui (rx_ur SC 32 (va_cpy (SC.1 (76 + s)) (SC.1 32) 0 0 48)) 33 4 0).1 k = SC.1 k := fun k q1 q2 => by rw [ui_row q2, ur_get, if_neg q1]
      refine ⟨1, _, S2, rfl, f2, hT.eq ?_ ?_ (fd 2 (by decide)) (fm 95 (by decide) (by decide)), ?_, k1, ?_, ho.eq ?_ ?_ ?_ (fd 62 (by decide)) (fm 134 (by decide) (by decide)) (fm 135 (by decide) (by decide)), T, ⟨hx.1, hx.2.1.ag (fun k hk => fc k (by omega) (by omega)), hx.2.2.ag ⟨fun k h1 h2 => fm k (by omega) (by omega), fd 18 (by decide)⟩⟩, (z3.up).eq (fun j hj => ?_) (fun j hj => ?_), ⟨nx, 0, u1, by omega, ?_, ?_, f52, fun u hu => absurd hu (by omega)⟩, hh.eq (fc 79 (by decide) (by decide)) (fun s hs => fc _ (by omega) (by omega)) (fm 137 (by decide) (by decide)) (fm 138 (by decide) (by decide))⟩
      · rw [fc 0 (by decide) (by decide)]
      · exact fc 1 (by decide) (by decide)
      · rw [fc 0 (by decide) (by decide), fd 17 (by decide)]; exact hp
      · rw [fL]; exact k2
      · rw [fc 91 (by decide) (by decide)]
      · exact fc 92 (by decide) (by decide)
      · exact fc 93 (by decide) (by decide)
      · rw [ui_row (by decide), ur_same, cpy_get hj]
      · exact f126 j hj
      · rw [ui_same, upd_ne (by decide), ur_get, if_neg (by decide)]; exact u3
      · rw [ui_same, upd_at]; rfl
  · rw [e1, bd_some, if_pos rfl, bd_some, if_pos rfl, e2, bd_some, if_pos rfl]
    exact no
end OPF
