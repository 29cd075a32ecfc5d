/-! ===== THE REFERENCE'S WEEK ===== -/
theorem ui_same {S : rx_S} {k i : Nat} {v : Int32} : (rx_ui S k i v).1 k = upd (S.1 k) i v := by
  unfold rx_ui rx_ur
  simp
def wM (S S' : rx_S) : Prop := (∀ k j, k ≠ 124 → k ≠ 125 → k ≠ 127 → ¬ (k = 94 ∧ j = 48) → S'.1 k j = S.1 k j) ∧ S'.2 = S.2
theorem wM.rf {S : rx_S} : wM S S := ⟨fun _ _ _ _ _ _ => rfl, rfl⟩
theorem wM.tr {S S' S'' : rx_S} (h : wM S S') (g : wM S' S'') : wM S S'' := ⟨fun k j h1 h2 h3 h4 => (g.1 k j h1 h2 h3 h4).trans (h.1 k j h1 h2 h3 h4), g.2.trans h.2⟩
theorem sM.w {S S' : rx_S} (h : sM S S') : wM S S' := ⟨fun k j h1 h2 _ h4 => h.1 k j h1 h2 h4, h.2⟩
theorem wM.u7 {S : rx_S} {i : Nat} {v : Int32} : wM S (rx_ui S 127 i v) := ⟨fun k j _ _ h _ => by rw [ui_row h], rfl⟩
theorem wM.f7 {S S' : rx_S} (h : fK 127 S S') : wM S S' := ⟨fun k j _ _ h1 _ => by rw [h.1 k h1], h.2⟩
theorem wM.row {S S' : rx_S} (h : wM S S') {k : Nat} (h1 : k ≠ 124) (h2 : k ≠ 125) (h3 : k ≠ 94) (h4 : k ≠ 127) : S'.1 k = S.1 k := funext fun j => h.1 k j h1 h2 h4 (fun q => h3 q.1)
theorem wM.fld {S S' : rx_S} (h : wM S S') {j : Nat} (h1 : j ≠ 48) : S'.1 94 j = S.1 94 j := h.1 94 j (by decide) (by decide) (by decide) (fun q => h1 q.2)
theorem wM.ag {S S' : rx_S} (h : wM S S') : agM S S' := ⟨fun k h1 h2 => h.row (by omega) (by omega) (by omega) (by omega), h.fld (by decide)⟩
section WKM
variable {N : Nat} {T : tx} {S : rx_S}
theorem isDaring_ok (hN : 5000 ≤ N) (hT : TM N T S) {i : Nat} (hi : i < 4) : pk (f_X11_isDaring N (nI i) S) (fun r S' => r = (if dar T (S.1 127) i = true then 1 else 0) ∧ sM S S') := by
  unfold f_X11_isDaring
  refine pk_bdm (lat_ok hN hi) (fun _ S1 h => ?_)
  have e1 : (40 : Int32) + nI i = nI (40 + i) := nI_add 40 i
  rw [e1, pk_gdn (by omega) (by decide), pk_let, nI_clamp (by omega), h.1.st]
  refine pk_bdm (asks_ok (k := 6) hT (h.1.tr sM.u4).ag (by decide) (vM_8 h.2) rfl) (fun r S2 h2 => ?_)
  have hs := (h.1.tr sM.u4).tr h2.2.1
  rw [pk_ite, pk_some, pk_some]
  unfold dar
  rw [← h2.1]
  split
  · rename_i q
    rw [if_neg (by rw [decide_eq_true_eq]; exact i_nlt.mpr q)]
    exact ⟨rfl, hs⟩
  · rename_i q
    rw [if_pos (by rw [decide_eq_true_eq]; exact i_nle.mp q)]
    exact ⟨rfl, hs⟩
theorem TM.lv (hT : TM N T S) : ∃ lv, lv < 2 ∧ TMt T lv S := hT.1
theorem putAs_ok (hN : 5000 ≤ N) (hF : WF T) (hT : TM N T S) {i w p : Nat} (hi : i < tT T) : pk (f_X11_putAs N (nI i) (nI w) (nI p) S) (fun r S' => r = nI (pt T (S.1 127) i w p) ∧ sM S S') := by
  have hi4 := wf_t hF hi
  obtain ⟨lv, hlv, t⟩ := hT.1
  have J : bnd T (S.1 127) i = false → ∀ S1, sM S S1 → pk (rx_bd (f_X11_looksAtThird N (nI i) S1) (fun x11 S10 => rx_let (rx_ui S10 124 0 (nI w)) (fun S13 => rx_let (rx_ui S13 124 1 (nI p)) (fun S14 => rx_gd (((4 : Int32) * (S14.1 94 18)) + (nI i)) 8 (rx_let (rx_ui S14 124 7 (S14.1 110 (Int32.toNatClampNeg (((4 : Int32) * (S14.1 94 18)) + (nI i))))) (fun S16 => rx_bd (f_X11_asks N 2 (nI w) S16) (fun x18 S17 => if (0 : Int32) ≤ x18 then (some ((rx_rem x18 9), S17)) else (some (0, S17))))))))) (fun r S' => r = nI (pt T (S.1 127) i w p) ∧ sM S S') := by
    intro hb S1 hs
    refine pk_bdm (lat_ok hN hi4) (fun _ S2 h => ?_)
    have hs2 := ((hs.tr h.1).tr (sM.u4 (i := 0) (v := nI w))).tr (sM.u4 (i := 1) (v := nI p))
    rw [pk_let, pk_let, hs2.fld (by decide), t.1]
    have e1 : (4 : Int32) * nI lv + nI i = nI (4 * lv + i) := by
      have : (4 : Int32) * nI lv = nI (4 * lv) := nI_mul 4 lv
      rw [this, nI_add]
    have e2 : (rx_ui (rx_ui S2 124 0 (nI w)) 124 1 (nI p)).1 110 (4 * lv + i) = tR T i := by
      rw [hs2.row (by decide) (by decide) (by decide)]
      exact (t.2.2.2.2.2.2.2.1 i hi).1
    rw [e1, pk_gdn (by omega) (by decide), pk_let, nI_clamp (by omega), e2]
    refine pk_bdm (asks_ok (k := 2) hT (hs2.tr sM.u4).ag (by decide) (vM_7 (vM_1 (vM_0 h.2))) rfl) (fun r S3 h3 => ?_)
    have e0 := rst_nI (x := r) (m := 9) (by decide)
    have hr : r = tL T 2 (nI w) (nI p) 0 (S.1 127 (24 + i)) (S.1 127 (28 + i)) (nI i) (S.1 127 44) (tR T i) 0 := by
      rw [h3.1, hs.st]
    have e3 : (if (0 : Int32) ≤ r then rx_rem r 9 else 0) = nI (pt T (S.1 127) i w p) := by
      have e9 : pt T (S.1 127) i w p = rst r 9 := by
        unfold pt bent
        rw [hb, ← hr]
        rfl
      rw [e9]
      exact e0
    rw [pk_ite, pk_some, pk_some]
    have hss := (hs2.tr sM.u4).tr h3.2.1
    split
    · rename_i q
      rw [if_pos q] at e3
      exact ⟨e3, hss⟩
    · rename_i q
      rw [if_neg q] at e3
      exact ⟨e3, hss⟩
  unfold f_X11_putAs
  have e1 : (32 : Int32) + nI i = nI (32 + i) := nI_add 32 i
  rw [e1, pk_gdn (by omega) (by decide), pk_let, nI_clamp (by omega), pk_ite]
  split
  · rename_i q
    refine pk_bdm (isDaring_ok hN hT hi4) (fun r S1 h => ?_)
    rw [pk_ite]
    by_cases hd : dar T (S.1 127) i = true
    · rw [if_pos hd] at h
      rw [h.1, if_neg (by decide)]
      exact J (by unfold bnd; rw [hd]; simp) S1 h.2
    · rw [if_neg hd] at h
      rw [h.1, if_pos rfl, pk_some]
      refine ⟨?_, h.2⟩
      unfold pt bnd
      rw [if_pos (by simp [q, hd])]
  · rename_i q
    exact J (by unfold bnd; simp [q]) S sM.rf
theorem dropsOf_ok (hN : 5000 ≤ N) (hT : TM N T S) {i : Nat} (hi : i < 4) : pk (f_X11_dropsOf N (nI i) S) (fun r S' => r = drp T (S.1 127) i ∧ sM S S') := by
  unfold f_X11_dropsOf
  refine pk_bdm (lat_ok hN hi) (fun _ S1 h => ?_)
  refine pk_bdm (asks_ok (k := 3) hT h.1.ag (by decide) h.2 rfl) (fun r S2 h2 => ?_)
  rw [held_eq, bd_some, pk_some]
  unfold drp
  rw [← h2.1]
  exact ⟨rfl, h.1.tr h2.2.1⟩
theorem putBy_L (hN : 5000 ≤ N) (hF : WF T) (hT : TM N T S) {i v M : Nat} {cx : Int32} {dr : Nat → Bool} (hi : i < tT T) (hv : v < 2 ^ 31) (hM : M ≤ 5) (hdr : (cx < 0 ∧ ∀ j, dr j = false) ∨ (¬ cx < 0 ∧ ∃ c, cx = nI c ∧ dr = drb T (S.1 127) i c (S.1 94 51))) : ∀ (m n j : Nat) (S1 : rx_S), j + m = M → m < n → sM S S1 → pk (f_X11_putBy_L12 N n (nI i) (nI v) cx (nI M) (nI (cr T (S.1 127) i v M dr j)) (nI j) S1) (fun r S' => r = nI (cr T (S.1 127) i v M dr M) ∧ sM S S') := by
  intro m
  induction m with
  | zero =>
    intro n j S1 hj hn hs
    obtain ⟨n, rfl⟩ : ∃ q, n = q + 1 := ⟨n - 1, by omega⟩
    rw [f_X11_putBy_L12, if_pos (nI_le (by omega) (by omega)), pk_some]
    have : j = M := by omega
    rw [this]
    exact ⟨rfl, hs⟩
  | succ m ih =>
    intro n j S1 hj hn hs
    obtain ⟨n, rfl⟩ : ∃ q, n = q + 1 := ⟨n - 1, by omega⟩
    rw [f_X11_putBy_L12, if_neg (nI_ge (by omega) (by omega)), wordIn_eq hN hv hM (by omega), bd_some]
    refine pk_bdm (putAs_ok hN hF (hT.ag hs.ag) hi) (fun r S2 h2 => ?_)
    obtain ⟨hr, hs2⟩ := h2
    rw [hs.st] at hr
    have hss := hs.tr hs2
    have h9 := pt_lt T (S.1 127) i (wd v M j) j (wd_lt v M j)
    have c8 : r = 8 ↔ pt T (S.1 127) i (wd v M j) j = 8 := by
      rw [hr]
      exact nI_eq (b := 8) (by omega) (by decide)
    have e1 : (8 : Int32) * nI (cr T (S.1 127) i v M dr j) + r = nI (8 * cr T (S.1 127) i v M dr j + pt T (S.1 127) i (wd v M j) j) := by
      have : (8 : Int32) * nI (cr T (S.1 127) i v M dr j) = nI (8 * cr T (S.1 127) i v M dr j) := nI_mul 8 _
      rw [this, hr, nI_add]
    rw [pk_ite]
    split
    · rename_i q
      rw [pk_let, nI_1]
      have e : cr T (S.1 127) i v M dr (j + 1) = cr T (S.1 127) i v M dr j := by
        rw [cr, if_pos (Or.inl (c8.mp q))]
      rw [← e]
      exact ih n (j + 1) S2 (by omega) (by omega) hss
    · rename_i q
      have q8 : ¬ pt T (S.1 127) i (wd v M j) j = 8 := fun z => q (c8.mpr z)
      rw [pk_let]
      dsimp only
      rw [pk_ite]
      have kept : dr j = false → ∀ S3, sM S S3 → pk (rx_let (8 * nI (cr T (S.1 127) i v M dr j) + r) fun x31 => rx_let (nI j + 1) fun x32 => f_X11_putBy_L12 N n (nI i) (nI v) cx (nI M) x31 x32 S3) (fun r S' => r = nI (cr T (S.1 127) i v M dr M) ∧ sM S S') := by
        intro hd S3 hs3
        rw [pk_let, pk_let, nI_1, e1]
        have e : cr T (S.1 127) i v M dr (j + 1) = 8 * cr T (S.1 127) i v M dr j + pt T (S.1 127) i (wd v M j) j := by
          rw [cr, if_neg (by rw [hd]; simp [q8])]
        rw [← e]
        exact ih n (j + 1) S3 (by omega) (by omega) hs3
      rcases hdr with ⟨hc, hd⟩ | ⟨hc, c, hcx, hd⟩
      · rw [if_pos hc]
        exact kept (hd j) S2 hss
      · rw [if_neg hc, lotOf_eq, bd_some]
        refine pk_bdm (dropsOf_ok hN (hT.ag hss.ag) (wf_t hF hi)) (fun r3 S3 h3 => ?_)
        obtain ⟨hr3, hs3⟩ := h3
        rw [hss.st] at hr3
        rw [hss.fld (by decide), hss.st, hcx, pk_ite]
        have hb : dr j = decide (lot (S.1 94 51) ((((256 : Int32) * ((S.1 127) 44)) + ((64 : Int32) * nI i)) + ((8 : Int32) * nI c) + nI j) < drp T (S.1 127) i) := by rw [hd]; rfl
        rw [← hcx]
        split
        · rename_i q2
          refine kept ?_ S3 (hss.tr hs3)
          rw [hb, ← hr3, decide_eq_false_iff_not]
          rw [← hcx]
          exact i_nlt.mpr q2
        · rename_i q2
          rw [pk_let, nI_1]
          have hd2 : dr j = true := by
            rw [hb, ← hr3, decide_eq_true_eq]
            rw [← hcx]
            exact i_nle.mp q2
          have e : cr T (S.1 127) i v M dr (j + 1) = cr T (S.1 127) i v M dr j := by
            rw [cr, if_pos (Or.inr hd2)]
          rw [← e]
          exact ih n (j + 1) S3 (by omega) (by omega) (hss.tr hs3)
theorem putBy_ok (hN : 5000 ≤ N) (hF : WF T) (hT : TM N T S) {i v : Nat} {cx : Int32} {dr : Nat → Bool} (hi : i < tT T) (hv : okr v) (hdr : (cx < 0 ∧ ∀ j, dr j = false) ∨ (¬ cx < 0 ∧ ∃ c, cx = nI c ∧ dr = drb T (S.1 127) i c (S.1 94 51))) : pk (f_X11_putBy N (nI i) (nI v) cx S) (fun r S' => r = nI (cr T (S.1 127) i v (rl v) dr (rl v)) ∧ sM S S') := by
  unfold f_X11_putBy
  rw [wordsIn_eq hN, bd_some, rsz_okr hv]
  have := okr_lt hv
  have h5 := rl_le v
  exact putBy_L hN hF hT hi (by omega) (rl_le v) hdr (rl v) N 0 S (by omega) (by omega) sM.rf
theorem putN_ok (hN : 5000 ≤ N) (hF : WF T) (hT : TM N T S) {i v : Nat} (hi : i < tT T) (hv : okr v) : pk (f_X11_putBy N (nI i) (nI v) (-1) S) (fun r S' => r = nI (put T (S.1 127) i v) ∧ sM S S') := putBy_ok hN hF hT hi hv (dr := fun _ => false) (Or.inl ⟨by decide, fun _ => rfl⟩)
theorem moodB_L (hN : 5000 ≤ N) (hT : TM N T S) {a v M : Nat} (hv : v < 2 ^ 31) (hM : M ≤ 5) : ∀ (m n j : Nat) (S1 : rx_S), j + m = M → m < n → sM S S1 → pk (f_X11_moodBehind_L16 N n (nI a) (nI v) (nI M) (md T (S.1 127) a v M j) (nI j) S1) (fun r S' => r = md T (S.1 127) a v M M ∧ sM S S') := by
  intro m
  induction m with
  | zero =>
    intro n j S1 hj hn hs
    obtain ⟨n, rfl⟩ : ∃ q, n = q + 1 := ⟨n - 1, by omega⟩
    rw [f_X11_moodBehind_L16, if_pos (nI_le (by omega) (by omega)), pk_some]
    have : j = M := by omega
    rw [this]
    exact ⟨rfl, hs⟩
  | succ m ih =>
    intro n j S1 hj hn hs
    obtain ⟨n, rfl⟩ : ∃ q, n = q + 1 := ⟨n - 1, by omega⟩
    rw [f_X11_moodBehind_L16, if_neg (nI_ge (by omega) (by omega))]
    refine pk_bdm (looks_ok hN) (fun _ S2 h => ?_)
    rw [wordIn_eq hN hv hM (by omega), bd_some, pk_let, pk_let, pk_let, pk_let]
    have hs2 := ((((hs.tr h.1).tr (sM.u4 (i := 0) (v := nI (wd v M j)))).tr (sM.u4 (i := 1) (v := nI j))).tr (sM.u4 (i := 2) (v := md T (S.1 127) a v M j))).tr (sM.u4 (i := 5) (v := nI a))
    refine pk_bdm (asks_ok (k := 4) hT hs2.ag (by decide) (vM_5 (vM_2 (vM_1 (vM_0 h.2)))) rfl) (fun r S3 h3 => ?_)
    rw [held_eq, bd_some, held_eq, bd_some, pk_let, nI_1]
    have e : md T (S.1 127) a v M (j + 1) = hld (md T (S.1 127) a v M j + hld r (-9) 9) 0 99 := by
      rw [h3.1, hs.st]
      rfl
    rw [← e]
    exact ih n (j + 1) S3 (by omega) (by omega) (hs2.tr h3.2.1)
theorem moodB_ok (hN : 5000 ≤ N) (hT : TM N T S) {a v : Nat} (ha : a < 48) (hv : okr v) : pk (f_X11_moodBehind N (nI a) (nI v) S) (fun r S' => r = mood T (S.1 127) a v ∧ sM S S') := by
  unfold f_X11_moodBehind
  rw [wordsIn_eq hN, bd_some, rsz_okr hv, pk_gdn ha (by decide), pk_let, nI_clamp (by omega)]
  have := okr_lt hv
  have h5 := rl_le v
  exact moodB_L hN hT (by omega) (rl_le v) (rl v) N 0 S (by omega) (by omega) sM.rf
theorem partnerIn_eq (hF : WF T) (hT : TM N T S) {c x : Nat} (hc : c < tC T) (hx : x < 2) : f_X11_partnerIn (nI c) (nI x) S = some (nI (tP T c x), S) := by
  obtain ⟨lv, hlv, t⟩ := hT.1
  have hc3 := wf_c hF hc
  unfold f_X11_partnerIn
  have e1 : (2 : Int32) * ((3 : Int32) * (S.1 94 18) + nI c) + nI x = nI (2 * (3 * lv + c) + x) := by
    rw [t.1]
    have h1 : (3 : Int32) * nI lv = nI (3 * lv) := nI_mul 3 lv
    have h2 : (2 : Int32) * nI (3 * lv + c) = nI (2 * (3 * lv + c)) := nI_mul 2 _
    rw [h1, nI_add, h2, nI_add]
  rw [e1, rx_gd_in (vp_in_nI (by omega) (by decide)), nI_clamp (by omega), t.2.2.2.2.2.2.2.2 c x hc hx]
theorem par_rem {w : Nat} (hw : w < 2 ^ 31) (h : S.1 127 44 = nI w) : rx_rem (S.1 127 44) 2 = nI (par (S.1 127)) := by
  unfold par
  rw [h, nI_clamp hw]
  exact nI_rem (b := 2) hw (by decide)
theorem speakerOf_eq (hF : WF T) (hT : TM N T S) {w c : Nat} (hw : w < 2 ^ 31) (h : S.1 127 44 = nI w) (hc : c < tC T) : f_X11_speakerOf (nI c) S = some (nI (tP T c (par (S.1 127))), S) := by
  unfold f_X11_speakerOf
  rw [par_rem hw h, partnerIn_eq hF hT hc par_lt, bd_some]
theorem ui7_94 {i : Nat} {v : Int32} : (rx_ui S 127 i v).1 94 = S.1 94 := ui_row (by decide)
theorem ui7_110 {i : Nat} {v : Int32} : (rx_ui S 127 i v).1 110 = S.1 110 := ui_row (by decide)
theorem ui7_112 {i : Nat} {v : Int32} : (rx_ui S 127 i v).1 112 = S.1 112 := ui_row (by decide)
theorem talks_ok (hN : 5000 ≤ N) (hF : WF T) (hT : TM N T S) {w c i : Nat} (hw : w < 2 ^ 31) (h44 : S.1 127 44 = nI w) (hc : c < tC T) (hi : i < tT T) (h12 : S.1 127 (12 + c) = nI i) : pk (f_X11_talks N (nI c) S) (fun _ S' => S'.1 127 = tk T (S.1 94 51) (S.1 127) c i ∧ wM S S') := by
  have hc3 := wf_c hF hc
  have hi4 := wf_t hF hi
  have hpr : par (S.1 127) < 2 := par_lt
  have hpa := wf_p hF hc (x := par (S.1 127)) hpr
  have hpb := wf_p hF hc (x := 1 - par (S.1 127)) (by omega)
  obtain ⟨lv, hlv, t⟩ := hT.1
  unfold f_X11_talks
  have e12 : (12 : Int32) + nI c = nI (12 + c) := nI_add 12 c
  have ep : (1 : Int32) - rx_rem (S.1 127 44) 2 = nI (1 - par (S.1 127)) := by
    rw [par_rem hw h44]
    exact nI_sub (a := 1) (by omega)
  rw [e12, pk_gdn (by omega) (by decide), pk_let, nI_clamp (by omega), h12, speakerOf_eq hF hT hw h44 hc, bd_some, ep, partnerIn_eq hF hT hc (by omega), bd_some]
  refine pk_bdm (saidBy_ok hN hT (by omega)) (fun r1 S1 h1 => ?_)
  obtain ⟨rfl, h1⟩ := h1
  rw [wordsIn_eq hN, bd_some, rsz_okr (sd_ok _ _ _)]
  have hc0 : ¬ nI c < 0 := nI_pos (by omega)
  refine pk_bdm (putBy_ok (cx := nI c) (dr := drb T (S1.1 127) i c (S1.1 94 51)) hN hF (hT.ag h1.ag) hi (sd_ok _ _ _) (Or.inr ⟨hc0, c, rfl, rfl⟩)) (fun r2 S2 h2 => ?_)
  obtain ⟨hr2, h2⟩ := h2
  rw [h1.st, h1.fld (by decide)] at hr2
  have hr2 : r2 = nI (tkP T (S.1 94 51) (S.1 127) c i) := hr2
  subst hr2
  have h2 := h1.tr h2
  refine pk_bdm (looks_ok hN) (fun _ S3 h3 => ?_)
  have h3s := h2.tr h3.1
  have e24 : (24 : Int32) + nI i = nI (24 + i) := nI_add 24 i
  have e28 : (28 : Int32) + nI i = nI (28 + i) := nI_add 28 i
  have e6 : (6 : Int32) + nI (tP T c (1 - par (S.1 127))) = nI (6 + tP T c (1 - par (S.1 127))) := nI_add 6 _
  have e18 : (18 : Int32) + nI c = nI (18 + c) := nI_add 18 c
  have e36 : (36 : Int32) + nI i = nI (36 + i) := nI_add 36 i
  have e32 : (32 : Int32) + nI i = nI (32 + i) := nI_add 32 i
  have e40 : (40 : Int32) + nI i = nI (40 + i) := nI_add 40 i
  have e4 : (4 : Int32) * nI lv + nI i = nI (4 * lv + i) := by
    have : (4 : Int32) * nI lv = nI (4 * lv) := nI_mul 4 lv
    rw [this, nI_add]
  rw [e24, e28, e6, e18, e36, e32, e40, pk_gdn (by omega) (by decide), pk_let, pk_gdn (by omega) (by decide), pk_let, pk_gdn (by omega) (by decide), pk_let, pk_let, nI_clamp (by omega), nI_clamp (by omega), nI_clamp (by omega), ui_row (by decide), ui_row (by decide), ui_row (by decide)]
  have hv5 := vM_5 (v := nI c) (vM_4 (v := S3.1 127 (28 + i)) (vM_3 (v := S3.1 127 (24 + i)) (vM_2 (v := S3.1 127 (tP T c (par (S.1 127)))) h3.2)))
  have h4s := (((h3s.tr (sM.u4 (i := 2) (v := S3.1 127 (tP T c (par (S.1 127)))))).tr (sM.u4 (i := 3) (v := S3.1 127 (24 + i)))).tr (sM.u4 (i := 4) (v := S3.1 127 (28 + i)))).tr (sM.u4 (i := 5) (v := nI c))
  refine pk_bdm (asks_ok (k := 5) hT h4s.ag (by decide) hv5 rfl) (fun r4 S4 h4 => ?_)
  obtain ⟨hr4, h4b, -⟩ := h4
  have h4 := h4s.tr h4b
  rw [h3s.st, h2.st] at hr4
  rw [held_eq, bd_some]
  have hl : hld r4 0 9 = tkL T (S.1 127) c i := by rw [hr4]; rfl
  rw [hl]
  refine pk_bdm (moodB_ok hN (hT.ag h4.ag) (by omega) (cr_okr _ _ _ _ _ _ (rl_le _))) (fun r5 S5 h5 => ?_)
  obtain ⟨hr5, h5⟩ := h5
  rw [h4.st] at hr5
  subst hr5
  have h5 := h4.tr h5
  have hX : S5.1 127 = S.1 127 := h5.st
  have hlv' : S5.1 94 18 = nI lv := (h5.fld (by decide)).trans t.1
  have hR : S5.1 110 (4 * lv + i) = tR T i := by
    rw [h5.row (by decide) (by decide) (by decide)]
    exact (t.2.2.2.2.2.2.2.1 i hi).1
  have hFi : S5.1 112 lv = tF T := by
    rw [h5.row (by decide) (by decide) (by decide)]
    exact t.2.2.2.2.1
  have hz : rsz (nI (tkP T (S.1 94 51) (S.1 127) c i)) = nI (rl (tkP T (S.1 94 51) (S.1 127) c i)) := rsz_okr (cr_okr _ _ _ _ _ _ (rl_le _))
  have hVe : sd T (S.1 127) (tP T c (par (S.1 127))) = tkV T (S.1 127) c := rfl
  have hpv : (nI (tkP T (S.1 94 51) (S.1 127) c i) = nI (tkV T (S.1 127) c)) ↔ tkP T (S.1 94 51) (S.1 127) c i = tkV T (S.1 127) c := by
    have a1 : okr (tkP T (S.1 94 51) (S.1 127) c i) := cr_okr _ _ _ _ _ _ (rl_le _)
    have a2 : okr (tkV T (S.1 127) c) := sd_ok _ _ _
    have := okr_lt a1
    have := okr_lt a2
    exact nI_eq (by omega) (by omega)
  have hmo : mood T (S.1 127) (tP T c (1 - par (S.1 127))) (cr T (S.1 127) i (tkV T (S.1 127) c) (rl (tkV T (S.1 127) c)) (drb T (S.1 127) i c (S.1 94 51)) (rl (tkV T (S.1 127) c))) = mood T (S.1 127) (tP T c (1 - par (S.1 127))) (tkP T (S.1 94 51) (S.1 127) c i) := rfl
  unfold tk tkU
  rw [hVe]
  generalize mood T (S.1 127) (tP T c (1 - par (S.1 127))) (tkP T (S.1 94 51) (S.1 127) c i) = mo
  generalize tkL T (S.1 127) c i = lo
  generalize tP T c (1 - par (S.1 127)) = b at *
  simp (disch := omega) only [pk_gdn, pk_let, nI_clamp, wordsIn_eq hN, bd_some, hz, ui_same, ui7_94, ui7_110, ui7_112, held_eq, pk_ite, pk_some, hlv', e4, hR, hX, hFi, hpv, decide_eq_true_eq]
  split
  · rename_i q
    exact ⟨(if_pos (Or.inl q)).symm, ((((((((h5.w.tr wM.u7).tr wM.u7).tr wM.u7).tr wM.u7).tr wM.u7).tr wM.u7).tr wM.u7).tr wM.u7)⟩
  · split
    · rename_i q q2
      exact ⟨(if_pos (Or.inr q2)).symm, ((((((((h5.w.tr wM.u7).tr wM.u7).tr wM.u7).tr wM.u7).tr wM.u7).tr wM.u7).tr wM.u7).tr wM.u7)⟩
    · rename_i q q2
      exact ⟨(if_neg (fun z => z.elim q q2)).symm, ((((((((((h5.w.tr wM.u7).tr wM.u7).tr wM.u7).tr wM.u7).tr wM.u7).tr wM.u7).tr wM.u7).tr wM.u7).tr wM.u7).tr wM.u7)⟩
theorem silent_ok (hN : 5000 ≤ N) (hF : WF T) (hT : TM N T S) {c : Nat} (hc : c < tC T) : pk (f_X11_staysSilent N (nI c) S) (fun _ S' => S'.1 127 = slt T (S.1 127) c ∧ wM S S') := by
  have hc3 := wf_c hF hc
  have hp0 := wf_p hF hc (x := 0) (by decide)
  have hp1 := wf_p hF hc (x := 1) (by decide)
  have step : ∀ (n x : Nat) (S1 : rx_S) (P : Unit → rx_S → Prop), x < 2 → wM S S1 → (∀ S2, S2.1 127 = dec1 (S1.1 127) (tP T c x) → wM S S2 → pk (f_X11_staysSilent_L15 N n (nI c) (nI (x + 1)) S2) P) → pk (f_X11_staysSilent_L15 N (n + 1) (nI c) (nI x) S1) P := by
    intro n x S1 P hx hs k
    have hp := wf_p hF hc hx
    rw [f_X11_staysSilent_L15, if_neg (show ¬ (2 : Int32) ≤ nI x from nI_ge (b := 2) hx (by decide)), partnerIn_eq hF (hT.ag hs.ag) hc hx, bd_some, pk_gdn (by omega) (by decide), nI_clamp (by omega), pk_ite]
    split
    · rename_i q
      rw [pk_let, nI_1]
      refine k S1 ?_ hs
      unfold dec1
      rw [if_pos q]
    · rename_i q
      rw [partnerIn_eq hF (hT.ag hs.ag) hc hx, bd_some, pk_gdn (by omega) (by decide), pk_gdn (by omega) (by decide), pk_let, pk_let, nI_1, nI_clamp (by omega)]
      refine k _ ?_ (hs.tr wM.u7)
      unfold dec1
      rw [if_neg q, ui_same]
  unfold f_X11_staysSilent
  have e21 : (21 : Int32) + nI c = nI (21 + c) := nI_add 21 c
  obtain ⟨n, rfl⟩ : ∃ n, N = n + 1 + 1 + 1 := ⟨N - 3, by omega⟩
  rw [e21, pk_gdn (by omega) (by decide), pk_gdn (by omega) (by decide), pk_let, nI_clamp (by omega)]
  refine step (n + 1 + 1) 0 _ _ (by decide) wM.u7 (fun S2 h2 w2 => ?_)
  refine step (n + 1) 1 _ _ (by decide) w2 (fun S3 h3 w3 => ?_)
  rw [f_X11_staysSilent_L15, if_pos (by decide), pk_some]
  refine ⟨?_, w3⟩
  rw [h3, h2, ui_same]
  rfl
theorem hiredBy_L (hT : TM N T S) {lv i : Nat} (hlv : lv < 2) (t : TMt T lv S) (hF : WF T) : ∀ (m n c : Nat), c + m = tC T → m < n → f_X11_hiredBy_L4 N n (nI i) (hbs (S.1 127) i c) (nI c) S = some (hbs (S.1 127) i (tC T), S) := by
  intro m
  have hC := hF.2.1
  induction m with
  | zero =>
    intro n c hc hn
    obtain ⟨n, rfl⟩ : ∃ q, n = q + 1 := ⟨n - 1, by omega⟩
    rw [f_X11_hiredBy_L4, t.1, rx_gd_in (vp_in_nI hlv (by decide)), nI_clamp (by omega), t.2.2.1, if_pos (nI_le (by omega) (by omega))]
    have : c = tC T := by omega
    rw [this]
  | succ m ih =>
    intro n c hc hn
    obtain ⟨n, rfl⟩ : ∃ q, n = q + 1 := ⟨n - 1, by omega⟩
    have e12 : (12 : Int32) + nI c = nI (12 + c) := nI_add 12 c
    rw [f_X11_hiredBy_L4, t.1, rx_gd_in (vp_in_nI hlv (by decide)), nI_clamp (by omega), t.2.2.1, if_neg (nI_ge (by omega) (by omega)), e12, rx_gd_in (vp_in_nI (by omega) (by decide)), nI_clamp (by omega)]
    simp only [rx_let, nI_1]
    have e : ∀ z, z = hbs (S.1 127) i (c + 1) → f_X11_hiredBy_L4 N n (nI i) z (nI (c + 1)) S = some (hbs (S.1 127) i (tC T), S) := fun z hz => by rw [hz]; exact ih n (c + 1) (by omega) (by omega)
    split
    · rename_i q
      exact e _ (by rw [hbs, if_pos q])
    · rename_i q
      exact e _ (by rw [hbs, if_neg q])
theorem hiredBy_eq (hN : 5000 ≤ N) (hF : WF T) (hT : TM N T S) {i : Nat} : f_X11_hiredBy N (nI i) S = some (hbs (S.1 127) i (tC T), S) := by
  obtain ⟨lv, hlv, t⟩ := hT.1
  have hC := hF.2.1
  exact hiredBy_L hT hlv t hF (tC T) N 0 (by omega) (by omega)
theorem cps_L (hN : 5000 ≤ N) (hF : WF T) (hT : TM N T S) {w : Nat} (hw : w < 2 ^ 31) (hS : WS T w (S.1 127)) {P : Unit → rx_S → Prop} {K : rx_S → Option (Unit × rx_S)} (k : ∀ S', S'.1 127 = cps T (S.1 94 51) (S.1 127) (tC T) → wM S S' → pk (K S') P) : ∀ (m n c : Nat) (S1 : rx_S), c + m = tC T → m < n → wM S S1 → S1.1 127 = cps T (S.1 94 51) (S.1 127) c → pk (f_X11_weekGoes_L2 N K n (nI c) S1) P := by
  intro m
  have hC := hF.2.1
  induction m with
  | zero =>
    intro n c S1 hc hn hs h1
    obtain ⟨n, rfl⟩ : ∃ q, n = q + 1 := ⟨n - 1, by omega⟩
    obtain ⟨lv, hlv, t⟩ := (hT.ag hs.ag).1
    rw [f_X11_weekGoes_L2, t.1, pk_gdn hlv (by decide), nI_clamp (by omega), t.2.2.1, if_pos (nI_le (by omega) (by omega))]
    have : c = tC T := by omega
    rw [this] at h1
    exact k S1 h1 hs
  | succ m ih =>
    intro n c S1 hc hn hs h1
    obtain ⟨n, rfl⟩ : ∃ q, n = q + 1 := ⟨n - 1, by omega⟩
    have hT1 := hT.ag hs.ag
    have hc2 : c < tC T := by omega
    have hw1 : WS T w (S1.1 127) := by rw [h1]; exact ws_cps hF hS c (by omega)
    have hseed : S1.1 94 51 = S.1 94 51 := hs.fld (by decide)
    have hp0 := wf_p hF hc2 (x := 0) (by decide)
    have hp1 := wf_p hF hc2 (x := 1) (by decide)
    have e15 : (15 : Int32) + nI c = nI (15 + c) := nI_add 15 c
    have e12 : (12 : Int32) + nI c = nI (12 + c) := nI_add 12 c
    have go : ∀ S2, wM S S2 → S2.1 127 = cpl T (S.1 94 51) (S1.1 127) c → pk (f_X11_weekGoes_L2 N K n (nI (c + 1)) S2) P := fun S2 w2 h2 => ih n (c + 1) S2 (by omega) (by omega) w2 (by rw [h2, h1]; rfl)
    obtain ⟨lv, hlv, t⟩ := hT1.1
    rw [f_X11_weekGoes_L2, t.1, pk_gdn hlv (by decide), nI_clamp (by omega), t.2.2.1, if_neg (nI_ge (by omega) (by omega)), e15, pk_gdn (by omega) (by decide), nI_clamp (by omega), pk_ite]
    split
    · rename_i q
      rw [pk_let, nI_1]
      exact go S1 hs (by unfold cpl; rw [if_pos q])
    · rename_i q
      rw [e12, pk_gdn (by omega) (by decide), nI_clamp (by omega), pk_let]
      have J : ∀ S2, wM S S2 → S2.1 127 = (if S1.1 127 (12 + c) < 0 then slt T (S1.1 127) c else tk T (S.1 94 51) (S1.1 127) c (S1.1 127 (12 + c)).toNatClampNeg) → pk ((fun (x30 : Int32) (S31 : rx_S) => rx_bd (f_X11_partnerIn x30 0 S31) (fun x33 S32 => rx_gd x33 48 (rx_let (fun (x36 : Int32) (S37 : rx_S) => rx_gd ((15 : Int32) + x36) 48 (rx_let (rx_ui S37 127 (Int32.toNatClampNeg ((15 : Int32) + x36)) 1) (fun S39 => rx_gd ((12 : Int32) + x36) 48 (rx_let (rx_ui S39 127 (Int32.toNatClampNeg ((12 : Int32) + x36)) (-2)) (fun S41 => rx_let (x36 + 1) (fun x42 => f_X11_weekGoes_L2 N K n x42 S41)))))) (fun J87_4 => if (S32.1 127 (Int32.toNatClampNeg x33)) ≤ 0 then (J87_4 x30 S32) else (rx_bd (f_X11_partnerIn x30 1 S32) (fun x45 S44 => rx_gd x45 48 (if (S44.1 127 (Int32.toNatClampNeg x45)) ≤ 0 then (J87_4 x30 S44) else (rx_let (x30 + 1) (fun x49 => f_X11_weekGoes_L2 N K n x49 S44))))))))) (nI c) S2) P := by
        intro S2 w2 h2
        have e0 := partnerIn_eq hF (hT.ag w2.ag) hc2 (x := 0) (by decide)
        have e1 := partnerIn_eq hF (hT.ag w2.ag) hc2 (x := 1) (by decide)
        have e0 : f_X11_partnerIn (nI c) 0 S2 = some (nI (tP T c 0), S2) := e0
        have e1 : f_X11_partnerIn (nI c) 1 S2 = some (nI (tP T c 1), S2) := e1
        have gp : (S2.1 127 (tP T c 0) ≤ 0 ∨ S2.1 127 (tP T c 1) ≤ 0) → pk (f_X11_weekGoes_L2 N K n (nI (c + 1)) (rx_ui (rx_ui S2 127 (15 + c) 1) 127 (12 + c) (-2))) P := fun q2 => by
          refine go _ ((w2.tr wM.u7).tr wM.u7) ?_
          unfold cpl prt
          rw [if_neg q, ← h2, if_pos q2, ui_same, ui_same]
        dsimp only
        rw [e0, bd_some, pk_gdn (by omega) (by decide), pk_let, nI_clamp (by omega), pk_ite]
        split
        · rename_i q2
          dsimp only
          rw [e15, pk_gdn (by omega) (by decide), pk_let, e12, pk_gdn (by omega) (by decide), pk_let, pk_let, nI_1, nI_clamp (by omega), nI_clamp (by omega)]
          exact gp (Or.inl q2)
        · rename_i q2
          rw [e1, bd_some, pk_gdn (by omega) (by decide), nI_clamp (by omega), pk_ite]
          split
          · rename_i q3
            dsimp only
            rw [e15, pk_gdn (by omega) (by decide), pk_let, e12, pk_gdn (by omega) (by decide), pk_let, pk_let, nI_1, nI_clamp (by omega), nI_clamp (by omega)]
            exact gp (Or.inr q3)
          · rename_i q3
            rw [pk_let, nI_1]
            refine go S2 w2 ?_
            unfold cpl prt
            rw [if_neg q, ← h2, if_neg (fun z => z.elim q2 q3)]
      rw [pk_ite]
      split
      · rename_i q2
        refine pk_bdm (silent_ok hN hF hT1 hc2) (fun _ S2 h2 => ?_)
        exact J S2 (hs.tr h2.2) (by rw [if_pos q2]; exact h2.1)
      · rename_i q2
        obtain ⟨i, hi, h3, h4⟩ := ws_hired hF hw1 hc2 q2
        refine pk_bdm (talks_ok hN hF hT1 hw hw1.wk hc2 hi h3) (fun _ S2 h2 => ?_)
        exact J S2 (hs.tr h2.2) (by rw [if_neg q2, h4, ← hseed]; exact h2.1)
theorem rss_L (hN : 5000 ≤ N) (hF : WF T) (hT : TM N T S) {st : Nat → Int32} {P : Unit → rx_S → Prop} {K : rx_S → Option (Unit × rx_S)} (k : ∀ S', S'.1 127 = rss T st (tT T) → wM S S' → pk (K S') P) : ∀ (m n i : Nat) (S1 : rx_S), i + m = tT T → m < n → wM S S1 → S1.1 127 = rss T st i → pk (f_X11_weekGoes_L116 N K n (nI i) S1) P := by
  intro m
  have hC := hF.2.2.1
  induction m with
  | zero =>
    intro n c S1 hc hn hs h1
    obtain ⟨n, rfl⟩ : ∃ q, n = q + 1 := ⟨n - 1, by omega⟩
    obtain ⟨lv, hlv, t⟩ := (hT.ag hs.ag).1
    rw [f_X11_weekGoes_L116, t.1, pk_gdn hlv (by decide), nI_clamp (by omega), t.2.2.2.1, if_pos (nI_le (by omega) (by omega))]
    have : c = tT T := by omega
    rw [this] at h1
    exact k S1 h1 hs
  | succ m ih =>
    intro n c S1 hc hn hs h1
    obtain ⟨n, rfl⟩ : ∃ q, n = q + 1 := ⟨n - 1, by omega⟩
    have hT1 := hT.ag hs.ag
    have e24 : (24 : Int32) + nI c = nI (24 + c) := nI_add 24 c
    have go : ∀ S2, wM S S2 → S2.1 127 = rs1 T (S1.1 127) c → pk (f_X11_weekGoes_L116 N K n (nI (c + 1)) S2) P := fun S2 w2 h2 => ih n (c + 1) S2 (by omega) (by omega) w2 (by rw [h2, h1]; rfl)
    obtain ⟨lv, hlv, t⟩ := hT1.1
    rw [f_X11_weekGoes_L116, t.1, pk_gdn hlv (by decide), nI_clamp (by omega), t.2.2.2.1, if_neg (nI_ge (by omega) (by omega)), hiredBy_eq hN hF hT1, bd_some, pk_ite]
    split
    · rename_i q
      rw [e24, pk_gdn (by omega) (by decide), held_eq, bd_some, pk_gdn (by omega) (by decide), pk_let, pk_let, nI_1, nI_clamp (by omega)]
      refine go _ (hs.tr wM.u7) ?_
      unfold rs1
      rw [if_pos q, ui_same]
    · rename_i q
      rw [pk_let, nI_1]
      refine go S1 hs ?_
      unfold rs1
      rw [if_neg q]
theorem weekGoes_ok (hN : 5000 ≤ N) (hF : WF T) (hT : TM N T S) {w : Nat} (hw : w < 2 ^ 31) (hS : WS T w (S.1 127)) : pk (f_X11_weekGoes N S) (fun _ S' => S'.1 127 = wk T (S.1 94 51) (S.1 127) ∧ wM S S') := by
  have hC := hF.2.1
  have hCt := hF.2.2.1
  unfold f_X11_weekGoes
  rw [pk_let]
  refine cps_L hN hF hT hw hS (fun S1 h1 w1 => ?_) (tC T) N 0 S (by omega) (by omega) wM.rf rfl
  rw [pk_let]
  refine rss_L hN hF hT (st := S1.1 127) (fun S2 h2 w2 => ?_) (tT T) N 0 S1 (by omega) (by omega) w1 rfl
  rw [pk_let, pk_some]
  refine ⟨?_, w2.tr wM.u7⟩
  rw [ui_same, h2, h1]
  rfl
theorem goes_L (hN : 5000 ≤ N) (hF : WF T) (hT : TM N T S) {w M : Nat} (hM : M ≤ 4000) (hw : w + M < 2 ^ 31) (hS : WS T w (S.1 127)) : ∀ (m n j : Nat) (S1 : rx_S), j + m = M → m < n → wM S S1 → S1.1 127 = wks T (S.1 94 51) (S.1 127) j → pk (f_X11_goes_L2 N n (nI M) (nI j) S1) (fun _ S' => S'.1 127 = wks T (S.1 94 51) (S.1 127) M ∧ wM S S') := by
  intro m
  induction m with
  | zero =>
    intro n j S1 hj hn hs h1
    obtain ⟨n, rfl⟩ : ∃ q, n = q + 1 := ⟨n - 1, by omega⟩
    rw [f_X11_goes_L2, if_pos (nI_le (by omega) (by omega)), pk_some]
    have : j = M := by omega
    rw [this] at h1
    exact ⟨h1, hs⟩
  | succ m ih =>
    intro n j S1 hj hn hs h1
    obtain ⟨n, rfl⟩ : ∃ q, n = q + 1 := ⟨n - 1, by omega⟩
    rw [f_X11_goes_L2, if_neg (nI_ge (by omega) (by omega))]
    refine pk_bdm (weekGoes_ok hN hF (hT.ag hs.ag) (w := w + j) (by omega) (by rw [h1]; exact ws_wks hF hS j)) (fun _ S2 h2 => ?_)
    rw [pk_let, nI_1]
    refine ih n (j + 1) S2 (by omega) (by omega) (hs.tr h2.2) ?_
    rw [h2.1, h1, hs.fld (by decide)]
    rfl
theorem goes_ok (hN : 5000 ≤ N) (hF : WF T) (hT : TM N T S) {w M : Nat} (hM : M ≤ 4000) (hw : w + M < 2 ^ 31) (hS : WS T w (S.1 127)) : pk (f_X11_goes N (nI M) S) (fun _ S' => S'.1 127 = wks T (S.1 94 51) (S.1 127) M ∧ wM S S') := goes_L hN hF hT hM hw hS M N 0 S (by omega) (by omega) wM.rf rfl
theorem copies_L {P : Unit → rx_S → Prop} {K : rx_S → Option (Unit × rx_S)} : ∀ (m n i : Nat) (S : rx_S), i + m = 48 → m < n → (∀ S', fK 127 S S' → (∀ j, i ≤ j → j < 48 → S'.1 127 j = S.1 126 j) → (∀ j, j < i → S'.1 127 j = S.1 127 j) → pk (K S') P) → pk (f_X11_copies_L2 N K n (nI i) S) P := by
  intro m
  induction m with
  | zero =>
    intro n i S hi hn k
    obtain ⟨n, rfl⟩ : ∃ q, n = q + 1 := ⟨n - 1, by omega⟩
    rw [f_X11_copies_L2, if_pos (show (48 : Int32) ≤ nI i from nI_le (a := 48) (by omega) (by omega))]
    exact k S fK.rf (fun j _ _ => by omega) (fun _ _ => rfl)
  | succ m ih =>
    intro n i S hi hn k
    obtain ⟨n, rfl⟩ : ∃ q, n = q + 1 := ⟨n - 1, by omega⟩
    rw [f_X11_copies_L2, if_neg (show ¬ (48 : Int32) ≤ nI i from nI_ge (b := 48) (by omega) (by decide)), pk_gdn (by omega) (by decide), pk_gdn (by omega) (by decide), pk_let, pk_let, nI_1, nI_clamp (by omega)]
    refine ih n (i + 1) _ (by omega) (by omega) (fun S' h1 h2 h3 => k S' (fK.ui.tr h1) (fun j hj1 hj2 => ?_) (fun j hj => ?_))
    · by_cases h : j = i
      · subst h
        rw [h3 j (by omega), ui_same, upd_at]
      · rw [h2 j (by omega) hj2, ui_row (by decide)]
    · rw [h3 j (by omega), ui_same, upd_ne (by omega)]
/-- after copies(): the row is the state that goes on, as far as it reaches -/
theorem copies_ok (hN : 5000 ≤ N) (hT : TM N T S) : pk (f_X11_copies N S) (fun _ S' => (∀ j, j < 48 → S'.1 127 j = S.1 126 j) ∧ S'.1 94 51 = tE T ∧ (∀ k, k ≠ 127 → k ≠ 94 → S'.1 k = S.1 k) ∧ (∀ j, j ≠ 51 → S'.1 94 j = S.1 94 j) ∧ S'.2 = S.2) := by
  obtain ⟨lv, hlv, t⟩ := hT.1
  unfold f_X11_copies
  rw [pk_let]
  refine copies_L 48 N 0 S rfl (by omega) (fun S' h1 h2 h3 => ?_)
  have e1 : S'.1 94 18 = nI lv := by rw [h1.1 94 (by decide)]; exact t.1
  have e2 : S'.1 113 lv = tE T := by rw [h1.1 113 (by decide)]; exact t.2.2.2.2.2.1
  rw [e1, pk_gdn hlv (by decide), pk_let, pk_some, nI_clamp (by omega), e2]
  refine ⟨fun j hj => ?_, ?_, fun k hk hk2 => ?_, fun j hj => ?_, h1.2⟩
  · rw [ui_row (by decide)]; exact h2 j (by omega) hj
  · rw [ui_same, upd_at]
  · rw [ui_row hk2]; exact h1.1 k hk
  · rw [ui_same, upd_ne hj, h1.1 94 (by decide)]
end WKM
