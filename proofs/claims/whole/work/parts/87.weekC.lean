/-! ===== THE CLASS'S WEEK ===== -/
def wC (kk : Nat) (S S' : rx_S) : Prop := (∀ k, k ≠ 6 → k ≠ 7 → k ≠ kk → S'.1 k = S.1 k) ∧ S'.2 = S.2
theorem wC.rf {kk : Nat} {S : rx_S} : wC kk S S := ⟨fun _ _ _ _ => rfl, rfl⟩
theorem wC.tr {kk : Nat} {S S' S'' : rx_S} (h : wC kk S S') (g : wC kk S' S'') : wC kk S S'' := ⟨fun k h1 h2 h3 => (g.1 k h1 h2 h3).trans (h.1 k h1 h2 h3), g.2.trans h.2⟩
theorem sC.w {kk : Nat} {S S' : rx_S} (h : sC S S') : wC kk S S' := ⟨fun k h1 h2 _ => h.1 k h1 h2, h.2⟩
theorem wC.uk {kk : Nat} {S : rx_S} {i : Nat} {v : Int32} : wC kk S (rx_ui S kk i v) := ⟨fun k _ _ h => ui_row h, rfl⟩
theorem wC.ag {kk : Nat} {S S' : rx_S} (h : wC kk S S') (hk : 13 ≤ kk) : agC S S' := fun k hq => h.1 k (by omega) (by omega) (by omega)
theorem hld_min {x : Int32} (h : 0 ≤ x) : (if x < 99 then x else 99) = hld x 0 99 := by
  unfold hld
  rw [if_pos h]
  by_cases q : x ≤ 99
  · rw [if_pos q]
    by_cases q2 : x < 99
    · rw [if_pos q2]
    · rw [if_neg q2]
      rw [i_lt] at q2
      rw [i_le] at q
      exact i_inj.mpr (by omega)
  · rw [if_neg q, if_neg (fun z => q (by rw [i_lt] at z; rw [i_le]; omega))]
theorem upd_comm {f : Nat → Int32} {i j : Nat} {x y : Int32} (h : i ≠ j) : upd (upd f i x) j y = upd (upd f j y) i x := by
  funext k
  by_cases a : k = j
  · subst a
    rw [upd_at, upd_ne (fun e => h e.symm), upd_at]
  · rw [upd_ne a]
    by_cases b : k = i
    · subst b
      rw [upd_at, upd_at]
    · rw [upd_ne b, upd_ne b, upd_ne a]
theorem tk_comm {st : Nat → Int32} {b c i n m : Nat} {mo lv pr : Int32} (hb : b < 6) (hc : c < 3) (hi : i < 4) :
    let s1 := upd st b mo
    let s2 := upd s1 (6 + b) (s1 (6 + b) + nI m)
    let s3 := upd s2 (18 + c) (s2 (18 + c) + nI n * pr)
    let s4 := upd s3 (36 + i) (s3 (36 + i) + nI n * pr)
    let s5 := upd s4 (24 + i) (hld (s4 (24 + i) + nI n) 0 99)
    let s6 := upd s5 (28 + i) (hld (s5 (28 + i) + lv) 0 99)
    let s7 := upd s6 45 (s6 45 + nI n)
    let s8 := upd s7 46 (s7 46 + nI m)
    let c3 := upd s2 46 (s2 46 + nI m)
    let c4 := upd c3 45 (c3 45 + nI n)
    let c5 := upd c4 (18 + c) (c4 (18 + c) + nI n * pr)
    let c6 := upd c5 (36 + i) (c5 (36 + i) + nI n * pr)
    let c7 := upd c6 (24 + i) (hld (c6 (24 + i) + nI n) 0 99)
    let c8 := upd c7 (28 + i) (hld (c7 (28 + i) + lv) 0 99)
    c8 = s8 := by
  dsimp only
  funext j
  simp (disch := omega) only [upd_ne]
  generalize st (6 + b) + nI m = v6
  generalize st (18 + c) + nI n * pr = v18
  generalize st (36 + i) + nI n * pr = v36
  generalize hld (st (24 + i) + nI n) 0 99 = v24
  generalize hld (st (28 + i) + lv) 0 99 = v28
  generalize st 45 + nI n = v45
  generalize st 46 + nI m = v46
  by_cases h1 : j = b
  · simp (disch := omega) only [upd_ne]
  by_cases h2 : j = 6 + b
  · simp (disch := omega) only [upd_ne]
  by_cases h3 : j = 18 + c
  · subst h3
    simp (disch := omega) only [upd_ne, upd_at]
  by_cases h4 : j = 36 + i
  · subst h4
    simp (disch := omega) only [upd_ne, upd_at]
  by_cases h5 : j = 24 + i
  · subst h5
    simp (disch := omega) only [upd_ne, upd_at]
  by_cases h6 : j = 28 + i
  · subst h6
    simp (disch := omega) only [upd_ne, upd_at]
  by_cases h7 : j = 45
  · subst h7
    simp (disch := omega) only [upd_ne, upd_at]
  by_cases h8 : j = 46
  · subst h8
    simp (disch := omega) only [upd_ne, upd_at]
  simp (disch := omega) only [upd_ne]
section WKC
variable {N : Nat} {T : tx} {S : rx_S} {kk : Nat} {st : Nat → Int32}
theorem par_and {w : Nat} (hw : w < 2 ^ 31) (h : st 44 = nI w) (hR : S.1 kk 0 = st 44) : S.1 kk 0 &&& 1 = nI (par st) := by
  unfold par
  rw [hR, h, nI_clamp hw]
  exact pk_andN (by omega) 1 (by decide)
theorem spkC_eq (hF : WF T) (hT : TC N T S) (h : stR T (S.1 kk) st) {w c : Nat} (hw : w < 2 ^ 31) (h44 : st 44 = nI w) (hc : c < tC T) : f_X7_speakerOf kk (nI c) S = some (nI (tP T c (par st)), S) := by
  have hc3 := wf_c hF hc
  have hp : par st < 2 := par_lt
  unfold f_X7_speakerOf
  have e1 : (2 : Int32) * nI c + (S.1 kk 0 &&& 1) = nI (2 * c + par st) := by
    have : (2 : Int32) * nI c = nI (2 * c) := nI_mul 2 c
    rw [par_and hw h44 h.2.2.1, this, nI_add]
  rw [e1, rx_gd_in (vp_in_nI (by omega) (by decide)), nI_clamp (by omega), hT.1.2.2.2.2.2.2.2 c _ hc hp]
theorem heaC_eq (hF : WF T) (hT : TC N T S) (h : stR T (S.1 kk) st) {w c : Nat} (hw : w < 2 ^ 31) (h44 : st 44 = nI w) (hc : c < tC T) : f_X7_hearerOf kk (nI c) S = some (nI (tP T c (1 - par st)), S) := by
  have hc3 := wf_c hF hc
  have hp : par st < 2 := par_lt
  unfold f_X7_hearerOf
  have e1 : (2 : Int32) * nI c + 1 - (S.1 kk 0 &&& 1) = nI (2 * c + (1 - par st)) := by
    have : (2 : Int32) * nI c = nI (2 * c) := nI_mul 2 c
    rw [par_and hw h44 h.2.2.1, this, nI_1, nI_sub (by omega)]
    congr 1
    omega
  rw [e1, rx_gd_in (vp_in_nI (by omega) (by decide)), nI_clamp (by omega), hT.1.2.2.2.2.2.2.2 c _ hc (by omega)]
theorem drb_eq {i c : Nat} {seed : Int32} (j : Nat) : drb T st i c seed j = (decide (0 < drp T st i) && decide (lot seed ((((256 : Int32) * (st 44)) + ((64 : Int32) * nI i)) + ((8 : Int32) * nI c) + nI j) < drp T st i)) := by
  unfold drb
  generalize ((256 : Int32) * (st 44)) + ((64 : Int32) * nI i) + ((8 : Int32) * nI c) + nI j = x
  obtain ⟨q, hq, e⟩ := lot_nn seed x
  by_cases h : lot seed x < drp T st i
  · rw [decide_eq_true h]
    have h2 : 0 < drp T st i := by
      rw [e] at h
      rw [i_lt] at h ⊢
      rw [nI_toInt (by omega)] at h
      have : (0 : Int32).toInt = 0 := rfl
      omega
    rw [decide_eq_true h2]
    rfl
  · rw [decide_eq_false h, Bool.and_false]
theorem speak_ok (hN : 5000 ≤ N) (hF : WF T) (hT : TC N T S) (hk : 13 ≤ kk) (h : stR T (S.1 kk) st) {w : Nat} (hw : w < 2 ^ 31) (hW : WS T w st) {c i : Nat} {seed : Int32} (hc : c < tC T) (hi : i < tT T) : pk (f_X7_speak kk N (nI c) (nI i) seed S) (fun _ S' => stR T (S'.1 kk) (tk T seed st c i) ∧ wC kk S S') := by
  have hc3 := wf_c hF hc
  have hi4 := wf_t hF hi
  have hpr : par st < 2 := par_lt
  have hpa := wf_p hF hc (x := par st) hpr
  have hpb := wf_p hF hc (x := 1 - par st) (by omega)
  have h44 := hW.wk
  unfold f_X7_speak
  rw [spkC_eq hF hT h hw h44 hc, bd_some, heaC_eq hF hT h hw h44 hc, bd_some]
  refine pk_bdm (rowOf_ok hN hT hk h hpa.1) (fun r1 S1 h1 => ?_)
  obtain ⟨rfl, h1⟩ := h1
  rw [pk_let]
  refine pk_bdm (dropsC_ok hN (hT.ag h1.ag) hk (h.s hk h1) hi4) (fun r2 S2 h2 => ?_)
  obtain ⟨rfl, h2⟩ := h2
  have h2 := h1.tr h2
  rw [(h.s hk h1).2.2.1]
  refine pk_bdm (carried_ok (dr := drb T st i c seed) hN hF (hT.ag h2.ag) hk (h.s hk h2) hW hi (sd_ok _ _ _) (fun j => drb_eq j)) (fun r3 S3 h3 => ?_)
  obtain ⟨hr3, h3⟩ := h3
  have hr3 : r3 = nI (tkP T seed st c i) := hr3
  subst hr3
  have h3 := h2.tr h3
  refine pk_bdm (newLove_ok hN (hT.ag h3.ag) hk (h.s hk h3) hi4 hpa.1) (fun r4 S4 h4 => ?_)
  obtain ⟨hr4, h4⟩ := h4
  have hr4 : r4 = tkL T st c i := hr4
  subst hr4
  have h4 := h3.tr h4
  have hz : rsz (nI (tkP T seed st c i)) = nI (rl (tkP T seed st c i)) := rsz_okr (cr_okr _ _ _ _ _ _ (rl_le _))
  have hVe : sd T st (tP T c (par st)) = tkV T st c := rfl
  have hvz : rsz (nI (tkV T st c)) = nI (rl (tkV T st c)) := rsz_okr (sd_ok _ _ _)
  rw [hVe, size_eq hN, bd_some, hvz, size_eq hN, bd_some, hz]
  refine pk_bdm (moodC_ok hN (hT.ag h4.ag) hk (h.s hk h4) hpb.1 (cr_okr _ _ _ _ _ _ (rl_le _))) (fun r5 S5 h5 => ?_)
  obtain ⟨hr5, h5⟩ := h5
  have hr5 : r5 = mood T st (tP T c (1 - par st)) (tkP T seed st c i) := hr5
  subst hr5
  have h5 := h4.tr h5
  have hpv : (nI (tkP T seed st c i) = nI (tkV T st c)) ↔ tkP T seed st c i = tkV T st c := by
    have a1 : okr (tkP T seed st c i) := cr_okr _ _ _ _ _ _ (rl_le _)
    have a2 : okr (tkV T st c) := sd_ok _ _ _
    have := okr_lt a1
    have := okr_lt a2
    exact nI_eq (by omega) (by omega)
  have hX := h.s hk h5
  have hR : S5.1 11 i = tR T i := by
    rw [h5.1 11 (by decide) (by decide)]
    exact (hT.1.2.2.2.2.2.2.1 i hi).1
  have hFi : S5.1 2 9 = tF T := by
    rw [h5.1 2 (by decide) (by decide)]
    exact hT.1.2.2.2.1
  have hnl : rl (tkV T st c) ≤ 5 := rl_le _
  have hlo : sm 9 (tkL T st c i) := hld_sm (b := 9) (by decide)
  have e4 : (4 : Int32) + nI (tP T c (1 - par st)) = nI (4 + tP T c (1 - par st)) := nI_add 4 _
  have e10 : (10 : Int32) + nI (tP T c (1 - par st)) = nI (10 + tP T c (1 - par st)) := nI_add 10 _
  have e22 : (22 : Int32) + nI c = nI (22 + c) := nI_add 22 c
  have e40 : (40 : Int32) + nI i = nI (40 + i) := nI_add 40 i
  have e28 : (28 : Int32) + nI i = nI (28 + i) := nI_add 28 i
  have e32 : (32 : Int32) + nI i = nI (32 + i) := nI_add 32 i
  have e36 : (36 : Int32) + nI i = nI (36 + i) := nI_add 36 i
  have e44 : (44 : Int32) + nI i = nI (44 + i) := nI_add 44 i
  have hti := hW.tir hi4
  have hlv := hW.lov hi4
  unfold tk
  generalize mood T st (tP T c (1 - par st)) (tkP T seed st c i) = mo
  generalize tkL T st c i = lo at hlo
  generalize rl (tkV T st c) = n at *
  generalize rl (tkP T seed st c i) = m at *
  generalize tP T c (1 - par st) = b at *
  rw [e4, e10, e22, e40, e28, e32, e36, e44]
  have hsw : st (32 + i) = st (32 + i) := rfl
  have w5 : wC kk S S5 := h5.w
  rw [pk_gdn (by omega) (by decide), pk_let, nI_clamp (by omega)]
  obtain ⟨s1, hs1⟩ : ∃ z, z = upd st b mo := ⟨_, rfl⟩
  have X1 : stR T ((rx_ui S5 kk (4 + b) mo).1 kk) s1 := by rw [ui_same, hs1]; exact hX.u (by omega) (by omega) (by omega)
  have w1 : wC kk S (rx_ui S5 kk (4 + b) mo) := w5.tr wC.uk
  generalize rx_ui S5 kk (4 + b) mo = A1 at X1 w1 ⊢
  rw [pk_gdn (by omega) (by decide), pk_gdn (by omega) (by decide), pk_let, nI_clamp (by omega), X1.at (k := 10 + b) (j := 6 + b) (by omega) (by omega) (by omega)]
  obtain ⟨s2, hs2⟩ : ∃ z, z = upd s1 (6 + b) (s1 (6 + b) + nI m) := ⟨_, rfl⟩
  have X2 : stR T ((rx_ui A1 kk (10 + b) (s1 (6 + b) + nI m)).1 kk) s2 := by rw [ui_same, hs2]; exact X1.u (by omega) (by omega) (by omega)
  have w2 : wC kk S (rx_ui A1 kk (10 + b) (s1 (6 + b) + nI m)) := w1.tr wC.uk
  generalize rx_ui A1 kk (10 + b) (s1 (6 + b) + nI m) = A2 at X2 w2 ⊢
  rw [pk_let, X2.2.2.2.2.1]
  obtain ⟨s3, hs3⟩ : ∃ z, z = upd s2 46 (s2 46 + nI m) := ⟨_, rfl⟩
  have X3 : stR T ((rx_ui A2 kk 2 (s2 46 + nI m)).1 kk) s3 := by rw [ui_same, hs3]; exact X2.u2
  have w3 : wC kk S (rx_ui A2 kk 2 (s2 46 + nI m)) := w2.tr wC.uk
  generalize rx_ui A2 kk 2 (s2 46 + nI m) = A3 at X3 w3 ⊢
  rw [pk_let, X3.2.2.2.1]
  obtain ⟨s4, hs4⟩ : ∃ z, z = upd s3 45 (s3 45 + nI n) := ⟨_, rfl⟩
  have X4 : stR T ((rx_ui A3 kk 1 (s3 45 + nI n)).1 kk) s4 := by rw [ui_same, hs4]; exact X3.u1
  have w4 : wC kk S (rx_ui A3 kk 1 (s3 45 + nI n)) := w3.tr wC.uk
  generalize rx_ui A3 kk 1 (s3 45 + nI n) = A4 at X4 w4 ⊢
  have r11 : ∀ {A : rx_S}, wC kk S A → A.1 11 i = tR T i := fun {A} hA => by
    rw [hA.1 11 (by decide) (by decide) (by omega)]
    exact (hT.1.2.2.2.2.2.2.1 i hi).1
  rw [pk_gdn (by omega) (by decide), pk_gdn (by omega) (by decide), pk_gdn (by omega) (by decide), pk_let, nI_clamp (by omega), nI_clamp (by omega), X4.at (k := 22 + c) (j := 18 + c) (by omega) (by omega) (by omega), r11 w4]
  obtain ⟨s5, hs5⟩ : ∃ z, z = upd s4 (18 + c) (s4 (18 + c) + nI n * tR T i) := ⟨_, rfl⟩
  have X5 : stR T ((rx_ui A4 kk (22 + c) (s4 (18 + c) + nI n * tR T i)).1 kk) s5 := by rw [ui_same, hs5]; exact X4.u (by omega) (by omega) (by omega)
  have w5 : wC kk S (rx_ui A4 kk (22 + c) (s4 (18 + c) + nI n * tR T i)) := w4.tr wC.uk
  generalize rx_ui A4 kk (22 + c) (s4 (18 + c) + nI n * tR T i) = A5 at X5 w5 ⊢
  rw [pk_gdn (by omega) (by decide), pk_gdn (by omega) (by decide), pk_gdn (by omega) (by decide), pk_let, nI_clamp (by omega), X5.at (k := 40 + i) (j := 36 + i) (by omega) (by omega) (by omega), r11 w5]
  obtain ⟨s6, hs6⟩ : ∃ z, z = upd s5 (36 + i) (s5 (36 + i) + nI n * tR T i) := ⟨_, rfl⟩
  have X6 : stR T ((rx_ui A5 kk (40 + i) (s5 (36 + i) + nI n * tR T i)).1 kk) s6 := by rw [ui_same, hs6]; exact X5.u (by omega) (by omega) (by omega)
  have w6 : wC kk S (rx_ui A5 kk (40 + i) (s5 (36 + i) + nI n * tR T i)) := w5.tr wC.uk
  generalize rx_ui A5 kk (40 + i) (s5 (36 + i) + nI n * tR T i) = A6 at X6 w6 ⊢
  have t6 : s6 (24 + i) = st (24 + i) := by
    rw [hs6, upd_ne (by omega), hs5, upd_ne (by omega), hs4, upd_ne (by omega), hs3, upd_ne (by omega), hs2, upd_ne (by omega), hs1, upd_ne (by omega)]
  have l6 : s6 (28 + i) = st (28 + i) := by
    rw [hs6, upd_ne (by omega), hs5, upd_ne (by omega), hs4, upd_ne (by omega), hs3, upd_ne (by omega), hs2, upd_ne (by omega), hs1, upd_ne (by omega)]
  have z6 : (if s6 (24 + i) + nI n < 99 then s6 (24 + i) + nI n else 99) = hld (s6 (24 + i) + nI n) 0 99 := hld_min (by
    obtain ⟨q, hq, e⟩ := hti
    rw [t6, e, nI_add]
    exact nI_pos' (by omega))
  rw [pk_gdn (by omega) (by decide), pk_gdn (by omega) (by decide), pk_let, nI_clamp (by omega), X6.at (k := 28 + i) (j := 24 + i) (by omega) (by omega) (by omega), z6]
  obtain ⟨s7, hs7⟩ : ∃ z, z = upd s6 (24 + i) (hld (s6 (24 + i) + nI n) 0 99) := ⟨_, rfl⟩
  have X7 : stR T ((rx_ui A6 kk (28 + i) (hld (s6 (24 + i) + nI n) 0 99)).1 kk) s7 := by rw [ui_same, hs7]; exact X6.u (by omega) (by omega) (by omega)
  have w7 : wC kk S (rx_ui A6 kk (28 + i) (hld (s6 (24 + i) + nI n) 0 99)) := w6.tr wC.uk
  generalize rx_ui A6 kk (28 + i) (hld (s6 (24 + i) + nI n) 0 99) = A7 at X7 w7 ⊢
  have l7 : s7 (28 + i) = st (28 + i) := by rw [hs7, upd_ne (by omega), l6]
  have z7 : (if s7 (28 + i) + lo < 99 then s7 (28 + i) + lo else 99) = hld (s7 (28 + i) + lo) 0 99 := hld_min (by
    obtain ⟨q, hq, e⟩ := hlv
    obtain ⟨q2, hq2, e2⟩ := hlo
    rw [l7, e, e2, nI_add]
    exact nI_pos' (by omega))
  rw [pk_gdn (by omega) (by decide), pk_gdn (by omega) (by decide), pk_let, nI_clamp (by omega), X7.at (k := 32 + i) (j := 28 + i) (by omega) (by omega) (by omega), z7]
  obtain ⟨s8, hs8⟩ : ∃ z, z = upd s7 (28 + i) (hld (s7 (28 + i) + lo) 0 99) := ⟨_, rfl⟩
  have X8 : stR T ((rx_ui A7 kk (32 + i) (hld (s7 (28 + i) + lo) 0 99)).1 kk) s8 := by rw [ui_same, hs8]; exact X7.u (by omega) (by omega) (by omega)
  have w8 : wC kk S (rx_ui A7 kk (32 + i) (hld (s7 (28 + i) + lo) 0 99)) := w7.tr wC.uk
  generalize rx_ui A7 kk (32 + i) (hld (s7 (28 + i) + lo) 0 99) = A8 at X8 w8 ⊢
  have key : ∀ q, tkU st b c i n m mo lo (tR T i) (tF T) q = if s8 (32 + i) = 0 ∨ q = true then s8 else upd (upd s8 (40 + i) (s8 (40 + i) + 1)) (36 + i) (upd s8 (40 + i) (s8 (40 + i) + 1) (36 + i) - tF T) := by
    intro q
    have hcm := tk_comm (st := st) (b := b) (c := c) (i := i) (n := n) (m := m) (mo := mo) (lv := lo) (pr := tR T i) (by omega) (by omega) (by omega)
    dsimp only at hcm
    rw [← hs1, ← hs2, ← hs3, ← hs4, ← hs5, ← hs6, ← hs7, ← hs8] at hcm
    unfold tkU
    dsimp only
    rw [← hs1, ← hs2, ← hcm]
  rw [key]
  rw [pk_gdn (by omega) (by decide), nI_clamp (by omega), X8.at (k := 36 + i) (j := 32 + i) (by omega) (by omega) (by omega), pk_ite]
  split
  · rename_i q
    rw [pk_some, if_pos (Or.inl q)]
    exact ⟨X8, w8⟩
  · rename_i q
    rw [pk_ite]
    split
    · rename_i q2
      rw [pk_some, if_pos (Or.inr (decide_eq_true (hpv.mp q2)))]
      exact ⟨X8, w8⟩
    · rename_i q2
      rw [if_neg (fun z => z.elim q (fun y => q2 (hpv.mpr (of_decide_eq_true y))))]
      have r29 : A8.1 2 9 = tF T := by
        rw [w8.1 2 (by decide) (by decide) (by omega)]
        exact hT.1.2.2.2.1
      rw [pk_gdn (by omega) (by decide), pk_gdn (by omega) (by decide), pk_let, nI_clamp (by omega), X8.at (k := 40 + i) (j := 36 + i) (by omega) (by omega) (by omega), r29]
      have X9 : stR T ((rx_ui A8 kk (40 + i) (s8 (36 + i) - tF T)).1 kk) (upd s8 (36 + i) (s8 (36 + i) - tF T)) := by rw [ui_same]; exact X8.u (by omega) (by omega) (by omega)
      have w9 : wC kk S (rx_ui A8 kk (40 + i) (s8 (36 + i) - tF T)) := w8.tr wC.uk
      generalize rx_ui A8 kk (40 + i) (s8 (36 + i) - tF T) = A9 at X9 w9 ⊢
      rw [pk_gdn (by omega) (by decide), pk_gdn (by omega) (by decide), pk_let, pk_let, pk_some]
      refine ⟨?_, (w9.tr wC.uk).tr wC.uk⟩
      have X10 := X9.uf hi4
      rw [ui_same, ui_same, upd_ne (show 3 ≠ 44 + i by omega)]
      refine X10.eq (fun j hj => ?_)
      rw [upd_ne (show 36 + i ≠ 40 + i by omega), upd_ne (show 40 + i ≠ 36 + i by omega)]
      by_cases a1 : j = 36 + i
      · subst a1
        simp (disch := omega) only [upd_ne, upd_at]
      by_cases a2 : j = 40 + i
      · subst a2
        simp (disch := omega) only [upd_ne, upd_at]
      simp (disch := omega) only [upd_ne]
theorem pred_eq {k : Nat} (hk : k ≤ 99) : (if (0 : Int32) < nI k - 1 then nI k - 1 else 0) = nI (k - 1) := by
  cases k with
  | zero => decide
  | succ k =>
    rw [nI_pred, Nat.add_sub_cancel]
    by_cases h : k = 0
    · subst h; decide
    · rw [if_pos (show (0 : Int32) < nI k from nI_lt (a := 0) (by omega) (by omega))]
theorem dec1_eq {s : Nat → Int32} {a k : Nat} (hk : k ≤ 99) (h : s a = nI k) : dec1 s a = upd s a (nI (k - 1)) := by
  unfold dec1
  cases k with
  | zero =>
    rw [if_pos (by rw [h]; decide)]
    funext j
    by_cases e : j = a
    · subst e; rw [upd_at, h]
    · rw [upd_ne e]
  | succ k =>
    rw [if_neg (by rw [h]; exact nI_nle (by omega) (by omega)), h, nI_pred, Nat.add_sub_cancel]
theorem silentC_ok (hF : WF T) (hT : TC N T S) (hk : 13 ≤ kk) (h : stR T (S.1 kk) st) {w : Nat} (hw : w < 2 ^ 31) (hW : WS T w st) {c : Nat} (hc : c < tC T) : pk (f_X7_keepSilent kk (nI c) S) (fun _ S' => stR T (S'.1 kk) (slt T st c) ∧ wC kk S S') := by
  have hc3 := wf_c hF hc
  have hpr : par st < 2 := par_lt
  have hpa := wf_p hF hc (x := par st) hpr
  have hpb := wf_p hF hc (x := 1 - par st) (by omega)
  have h44 := hW.wk
  have hne : tP T c (par st) ≠ tP T c (1 - par st) := by
    have h0 := hF.2.2.2.2.1 c hc
    rcases (show par st = 0 ∨ par st = 1 by omega) with e | e
    · rw [e]; exact h0
    · rw [e]; exact fun q => h0 q.symm
  obtain ⟨ka, hka, ea⟩ := hW.mood hpa.1
  obtain ⟨kb, hkb, eb⟩ := hW.mood hpb.1
  unfold f_X7_keepSilent
  have e4a : (4 : Int32) + nI (tP T c (par st)) = nI (4 + tP T c (par st)) := nI_add 4 _
  have e4b : (4 : Int32) + nI (tP T c (1 - par st)) = nI (4 + tP T c (1 - par st)) := nI_add 4 _
  have e25 : (25 : Int32) + nI c = nI (25 + c) := nI_add 25 c
  rw [spkC_eq hF hT h hw h44 hc, bd_some, heaC_eq hF hT h hw h44 hc, bd_some, e4a, e4b, e25]
  have hsl : slt T st c = upd (upd (upd st (tP T c (par st)) (nI (ka - 1))) (tP T c (1 - par st)) (nI (kb - 1))) (21 + c) (st (21 + c) + 1) := by
    unfold slt
    have p0 := wf_p hF hc (x := 0) (by decide)
    have p1 := wf_p hF hc (x := 1) (by decide)
    have h01 := hF.2.2.2.2.1 c hc
    have fin : ∀ k0 k1, k0 ≤ 99 → k1 ≤ 99 → st (tP T c 0) = nI k0 → st (tP T c 1) = nI k1 → dec1 (dec1 (upd st (21 + c) (st (21 + c) + 1)) (tP T c 0)) (tP T c 1) = upd (upd (upd st (21 + c) (st (21 + c) + 1)) (tP T c 0) (nI (k0 - 1))) (tP T c 1) (nI (k1 - 1)) := by
      intro k0 k1 hk0 hk1 e0 e1
      rw [dec1_eq (s := upd st (21 + c) (st (21 + c) + 1)) (a := tP T c 0) hk0 (by rw [upd_ne (by omega)]; exact e0), dec1_eq (a := tP T c 1) hk1 (by rw [upd_ne (fun q => h01 q.symm), upd_ne (by omega)]; exact e1)]
    rcases (show par st = 0 ∨ par st = 1 by omega) with e | e
    · rw [e] at ea eb ⊢
      rw [fin ka kb hka hkb ea eb, upd_comm (i := 21 + c) (by omega), upd_comm (i := 21 + c) (by omega)]
    · rw [e] at ea eb ⊢
      rw [fin kb ka hkb hka eb ea, upd_comm (i := 21 + c) (by omega), upd_comm (i := 21 + c) (by omega), upd_comm (i := tP T c 0) h01]
  rw [hsl]
  rw [pk_gdn (by omega) (by decide), pk_gdn (by omega) (by decide), pk_let, nI_clamp (by omega), h.at (k := 4 + tP T c (par st)) (j := tP T c (par st)) (by omega) (by omega) (by omega), ea, pred_eq hka]
  have X1 : stR T ((rx_ui S kk (4 + tP T c (par st)) (nI (ka - 1))).1 kk) (upd st (tP T c (par st)) (nI (ka - 1))) := by rw [ui_same]; exact h.u (by omega) (by omega) (by omega)
  have w1 : wC kk S (rx_ui S kk (4 + tP T c (par st)) (nI (ka - 1))) := wC.uk
  generalize rx_ui S kk (4 + tP T c (par st)) (nI (ka - 1)) = A1 at X1 w1 ⊢
  rw [pk_gdn (by omega) (by decide), pk_gdn (by omega) (by decide), pk_let, nI_clamp (by omega), X1.at (k := 4 + tP T c (1 - par st)) (j := tP T c (1 - par st)) (by omega) (by omega) (by omega), upd_ne (fun q => hne q.symm), eb, pred_eq hkb]
  have X2 : stR T ((rx_ui A1 kk (4 + tP T c (1 - par st)) (nI (kb - 1))).1 kk) (upd (upd st (tP T c (par st)) (nI (ka - 1))) (tP T c (1 - par st)) (nI (kb - 1))) := by rw [ui_same]; exact X1.u (by omega) (by omega) (by omega)
  have w2 : wC kk S (rx_ui A1 kk (4 + tP T c (1 - par st)) (nI (kb - 1))) := w1.tr wC.uk
  generalize rx_ui A1 kk (4 + tP T c (1 - par st)) (nI (kb - 1)) = A2 at X2 w2 ⊢
  rw [pk_gdn (by omega) (by decide), pk_gdn (by omega) (by decide), pk_let, nI_clamp (by omega), pk_some, X2.at (k := 25 + c) (j := 21 + c) (by omega) (by omega) (by omega), upd_ne (by omega), upd_ne (by omega), ui_same]
  exact ⟨X2.u (by omega) (by omega) (by omega), w2.tr wC.uk⟩
theorem le0_iff {k : Nat} (hk : k ≤ 99) : nI k = 0 ↔ nI k ≤ 0 := by
  constructor
  · intro e; rw [e]; decide
  · intro e
    rcases Nat.eq_zero_or_pos k with z | z
    · subst z; rfl
    · exact absurd e (nI_nle z (by omega))
theorem partC_ok (hF : WF T) (hT : TC N T S) (hk : 13 ≤ kk) (h : stR T (S.1 kk) st) {w : Nat} (hw : w < 2 ^ 31) (hW : WS T w st) {c : Nat} (hc : c < tC T) : pk (f_X7_partIfSad kk (nI c) S) (fun _ S' => stR T (S'.1 kk) (prt T st c) ∧ wC kk S S') := by
  have hc3 := wf_c hF hc
  have hpr : par st < 2 := par_lt
  have hpa := wf_p hF hc (x := par st) hpr
  have hpb := wf_p hF hc (x := 1 - par st) (by omega)
  have h44 := hW.wk
  obtain ⟨ka, hka, ea⟩ := hW.mood hpa.1
  obtain ⟨kb, hkb, eb⟩ := hW.mood hpb.1
  have hor : (st (tP T c 0) ≤ 0 ∨ st (tP T c 1) ≤ 0) ↔ (nI ka = 0 ∨ nI kb = 0) := by
    rw [le0_iff hka, le0_iff hkb, ← ea, ← eb]
    rcases (show par st = 0 ∨ par st = 1 by omega) with e | e
    · rw [e]
    · rw [e]; exact ⟨Or.symm, Or.symm⟩
  have e4a : (4 : Int32) + nI (tP T c (par st)) = nI (4 + tP T c (par st)) := nI_add 4 _
  have e4b : (4 : Int32) + nI (tP T c (1 - par st)) = nI (4 + tP T c (1 - par st)) := nI_add 4 _
  have e19 : (19 : Int32) + nI c = nI (19 + c) := nI_add 19 c
  have e16 : (16 : Int32) + nI c = nI (16 + c) := nI_add 16 c
  have yes : (st (tP T c 0) ≤ 0 ∨ st (tP T c 1) ≤ 0) → pk (rx_gd ((19 : Int32) + nI c) 48 (rx_let (rx_ui S kk (Int32.toNatClampNeg ((19 : Int32) + nI c)) 1) (fun S22 => rx_gd ((16 : Int32) + nI c) 48 (rx_let (rx_ui S22 kk (Int32.toNatClampNeg ((16 : Int32) + nI c)) (-1)) (fun S24 => some ((), S24)))))) (fun _ S' => stR T (S'.1 kk) (prt T st c) ∧ wC kk S S') := by
    intro q
    rw [e19, e16, pk_gdn (by omega) (by decide), pk_let, pk_gdn (by omega) (by decide), pk_let, pk_some, nI_clamp (by omega), nI_clamp (by omega), ui_same, ui_same]
    unfold prt
    rw [if_pos q]
    exact ⟨(h.u (j := 15 + c) (by omega) (by omega) (by omega)).uh (v := -2) hc3, wC.uk.tr wC.uk⟩
  have no : ¬ (st (tP T c 0) ≤ 0 ∨ st (tP T c 1) ≤ 0) → stR T (S.1 kk) (prt T st c) ∧ wC kk S S := by
    intro q
    unfold prt
    rw [if_neg q]
    exact ⟨h, wC.rf⟩
  unfold f_X7_partIfSad
  rw [spkC_eq hF hT h hw h44 hc, bd_some, e4a, pk_gdn (by omega) (by decide), pk_let, nI_clamp (by omega), h.at (k := 4 + tP T c (par st)) (j := tP T c (par st)) (by omega) (by omega) (by omega), ea, pk_ite]
  split
  · rename_i q
    dsimp only
    rw [heaC_eq hF hT h hw h44 hc, bd_some, e4b, pk_gdn (by omega) (by decide), pk_let, nI_clamp (by omega), h.at (k := 4 + tP T c (1 - par st)) (j := tP T c (1 - par st)) (by omega) (by omega) (by omega), eb, pk_ite]
    split
    · rw [pk_let, if_neg (by decide)]
      exact yes (hor.mpr (Or.inl q))
    · rw [pk_let, if_neg (by decide)]
      exact yes (hor.mpr (Or.inl q))
  · rename_i q
    dsimp only
    rw [heaC_eq hF hT h hw h44 hc, bd_some, e4b, pk_gdn (by omega) (by decide), pk_let, nI_clamp (by omega), h.at (k := 4 + tP T c (1 - par st)) (j := tP T c (1 - par st)) (by omega) (by omega) (by omega), eb, pk_ite]
    split
    · rename_i q2
      rw [pk_let, if_pos rfl, if_neg (by decide)]
      exact yes (hor.mpr (Or.inr q2))
    · rename_i q2
      rw [pk_let, if_pos rfl, if_pos rfl, pk_some]
      exact no (fun z => (hor.mp z).elim q q2)
/-- is the third i hired -/
def fl (st : Nat → Int32) (i : Nat) : Nat → Bool
  | 0 => false
  | c + 1 => fl st i c || decide (st (12 + c) = nI i)
theorem fl_hbs {i : Nat} : ∀ c, c ≤ 3 → (hbs st i c = 0 ↔ fl st i c = false) := by
  intro c hc
  match c, hc with
  | 0, _ => exact ⟨fun _ => rfl, fun _ => rfl⟩
  | 1, _ =>
    unfold hbs fl hbs fl
    by_cases a0 : st (12 + 0) = nI i
    · rw [if_pos a0, decide_eq_true a0]; decide
    · rw [if_neg a0, decide_eq_false a0]; decide
  | 2, _ =>
    unfold hbs fl hbs fl hbs fl
    by_cases a0 : st (12 + 0) = nI i <;> by_cases a1 : st (12 + 1) = nI i <;> simp only [a0, a1, if_true, if_false, decide_true, decide_false] <;> decide
  | 3, _ =>
    unfold hbs fl hbs fl hbs fl hbs fl
    by_cases a0 : st (12 + 0) = nI i <;> by_cases a1 : st (12 + 1) = nI i <;> by_cases a2 : st (12 + 2) = nI i <;> simp only [a0, a1, a2, if_true, if_false, decide_true, decide_false] <;> decide
theorem hC_eq {i : Nat} {x : Int32} (hx : x = -2 ∨ ∃ i, i < tT T ∧ x = nI i) (hi : i < 4) : hC x = nI i ↔ x = nI i := by
  unfold hC
  have hn : ∀ k, k < 4 → nI k ≠ -1 ∧ nI k ≠ -2 := by decide
  by_cases e : x = -2
  · rw [if_pos e, e]
    exact ⟨fun q => absurd q.symm (hn i hi).1, fun q => absurd q.symm (hn i hi).2⟩
  · rw [if_neg e]
theorem flC_L (hF : WF T) (hT : TC N T S) (h : stR T (S.1 kk) st) {w : Nat} (hW : WS T w st) {i : Nat} (hi : i < 4) {P : Unit → rx_S → Prop} {K : Int32 → Int32 → rx_S → Option (Unit × rx_S)} (k : pk (K (nI i) (if fl st i (tC T) = true then 1 else 0) S) P) : ∀ (m n c : Nat), c + m = tC T → m < n → pk (f_X7_restThirds_L18 kk N K n (nI i) (if fl st i c = true then 1 else 0) (nI c) S) P := by
  intro m
  have hC3 := hF.2.1
  induction m with
  | zero =>
    intro n c hc hn
    obtain ⟨n, rfl⟩ : ∃ q, n = q + 1 := ⟨n - 1, by omega⟩
    rw [f_X7_restThirds_L18, hT.1.2.1, if_pos (nI_le (by omega) (by omega))]
    have : c = tC T := by omega
    rw [this]
    exact k
  | succ m ih =>
    intro n c hc hn
    obtain ⟨n, rfl⟩ : ∃ q, n = q + 1 := ⟨n - 1, by omega⟩
    have e16 : (16 : Int32) + nI c = nI (16 + c) := nI_add 16 c
    have hh := hW.hire (c := c) (by omega) (by omega)
    rw [f_X7_restThirds_L18, hT.1.2.1, if_neg (nI_ge (by omega) (by omega)), e16, pk_gdn (by omega) (by decide), nI_clamp (by omega), h.2.1 c (by omega) (by omega), pk_ite]
    have e : ∀ z : Int32, z = (if fl st i (c + 1) = true then 1 else 0) → pk (f_X7_restThirds_L18 kk N K n (nI i) z (nI (c + 1)) S) P := fun z hz => by rw [hz]; exact ih n (c + 1) (by omega) (by omega)
    split
    · rename_i q
      rw [pk_let, pk_let, nI_1]
      refine e _ ?_
      rw [fl, decide_eq_true ((hC_eq hh hi).mp q), Bool.or_true, if_pos rfl]
      cases fl st i c <;> decide
    · rename_i q
      rw [pk_let, pk_let, nI_1]
      refine e _ ?_
      rw [fl, decide_eq_false (fun z => q ((hC_eq hh hi).mpr z)), Bool.or_false]
      cases fl st i c <;> decide
theorem rest_eq {k : Nat} (hk : k ≤ 99) : (if (0 : Int32) < nI k - 5 then nI k - 5 else 0) = hld (nI k - 5) 0 99 := by
  have hd : ∀ k : Nat, k ≤ 99 → (if (0 : Int32) < nI k - 5 then nI k - 5 else 0) = hld (nI k - 5) 0 99 := by
    unfold hld
    decide +kernel
  exact hd k hk
theorem restC_L (hN : 5000 ≤ N) (hF : WF T) (hT : TC N T S) (hk : 13 ≤ kk) {w : Nat} (hW : WS T w st) : ∀ (m n i : Nat) (S1 : rx_S), i + m = tT T → m < n → wC kk S S1 → stR T (S1.1 kk) (rss T st i) → pk (f_X7_restThirds_L2 kk N n (nI i) S1) (fun _ S' => stR T (S'.1 kk) (rss T st (tT T)) ∧ wC kk S S') := by
  intro m
  have hT4 := hF.2.2.1
  have hC3 := hF.2.1
  induction m with
  | zero =>
    intro n i S1 hi hn hs h1
    obtain ⟨n, rfl⟩ : ∃ q, n = q + 1 := ⟨n - 1, by omega⟩
    rw [f_X7_restThirds_L2, (hT.ag (hs.ag hk)).1.2.2.1, if_pos (nI_le (by omega) (by omega)), pk_some]
    have : i = tT T := by omega
    rw [this] at h1
    exact ⟨h1, hs⟩
  | succ m ih =>
    intro n i S1 hi hn hs h1
    obtain ⟨n, rfl⟩ : ∃ q, n = q + 1 := ⟨n - 1, by omega⟩
    have hT1 := hT.ag (hs.ag hk)
    have hw1 := ws_rss hF hW i (by omega)
    obtain ⟨q0, hq0, et⟩ := hw1.tir (i := i) (by omega)
    have e28 : (28 : Int32) + nI i = nI (28 + i) := nI_add 28 i
    rw [f_X7_restThirds_L2, hT1.1.2.2.1, if_neg (nI_ge (by omega) (by omega)), pk_let]
    refine flC_L hF hT1 h1 hw1 (i := i) (by omega) ?_ (tC T) N 0 (by omega) (by omega)
    rw [pk_ite]
    have hfl := fl_hbs (st := rss T st i) (i := i) (tC T) (by omega)
    cases hb : fl (rss T st i) i (tC T) with
    | false =>
      rw [if_pos (by decide), e28, pk_gdn (by omega) (by decide), pk_gdn (by omega) (by decide), pk_let, pk_let, nI_1, nI_clamp (by omega), h1.at (k := 28 + i) (j := 24 + i) (by omega) (by omega) (by omega), et, rest_eq hq0, ← et]
      refine ih n (i + 1) _ (by omega) (by omega) (hs.tr wC.uk) ?_
      rw [ui_same]
      have e : rss T st (i + 1) = upd (rss T st i) (24 + i) (hld (rss T st i (24 + i) - 5) 0 99) := by
        rw [rss, rs1, if_pos (hfl.mpr hb)]
      rw [e]
      exact h1.u (by omega) (by omega) (by omega)
    | true =>
      rw [if_neg (by decide), pk_let, nI_1]
      refine ih n (i + 1) S1 (by omega) (by omega) hs ?_
      have e : rss T st (i + 1) = rss T st i := by
        rw [rss, rs1, if_neg (fun z => by rw [hfl.mp z] at hb; exact absurd hb (by decide))]
      rw [e]
      exact h1
theorem hasThird_eq {x : Int32} {k : Nat} : f_X8_hasThird k x S = some (if 0 ≤ x ∧ x < S.1 k 8 then 1 else 0, S) := by
  unfold f_X8_hasThird
  by_cases h1 : x < 0
  · rw [if_pos h1, if_neg (fun q => i_nlt.mpr q.1 h1)]
  · rw [if_neg h1]
    by_cases h2 : S.1 k 8 ≤ x
    · rw [if_pos h2, if_neg (fun q => i_nle.mpr q.2 h2)]
    · rw [if_neg h2, if_pos ⟨i_nlt.mp h1, i_nle.mp h2⟩]
theorem cplC_L (hN : 5000 ≤ N) (hF : WF T) (hT : TC N T S) (hk : 13 ≤ kk) {w : Nat} (hw : w < 2 ^ 31) (hW : WS T w st) {seed : Int32} {P : Unit → rx_S → Prop} {K : rx_S → Option (Unit × rx_S)} (k : ∀ S', stR T (S'.1 kk) (cps T seed st (tC T)) → wC kk S S' → pk (K S') P) : ∀ (m n c : Nat) (S1 : rx_S), c + m = tC T → m < n → wC kk S S1 → stR T (S1.1 kk) (cps T seed st c) → pk (f_X7_goThroughWeek_L2 kk N K n seed (nI c) S1) P := by
  intro m
  have hCC := hF.2.1
  induction m with
  | zero =>
    intro n c S1 hc hn hs h1
    obtain ⟨n, rfl⟩ : ∃ q, n = q + 1 := ⟨n - 1, by omega⟩
    rw [f_X7_goThroughWeek_L2, (hT.ag (hs.ag hk)).1.2.1, if_pos (nI_le (by omega) (by omega))]
    have : c = tC T := by omega
    rw [this] at h1
    exact k S1 h1 hs
  | succ m ih =>
    intro n c S1 hc hn hs h1
    obtain ⟨n, rfl⟩ : ∃ q, n = q + 1 := ⟨n - 1, by omega⟩
    have hT1 := hT.ag (hs.ag hk)
    have hc2 : c < tC T := by omega
    have hw1 := ws_cps hF hW (seed := seed) c (by omega)
    have e19 : (19 : Int32) + nI c = nI (19 + c) := nI_add 19 c
    have e16 : (16 : Int32) + nI c = nI (16 + c) := nI_add 16 c
    have go : ∀ S2, wC kk S S2 → stR T (S2.1 kk) (cpl T seed (cps T seed st c) c) → pk (f_X7_goThroughWeek_L2 kk N K n seed (nI (c + 1)) S2) P := fun S2 w2 h2 => ih n (c + 1) S2 (by omega) (by omega) w2 h2
    rw [f_X7_goThroughWeek_L2, hT1.1.2.1, if_neg (nI_ge (by omega) (by omega)), if_neg (show ¬ (3 : Int32) ≤ nI c from nI_ge (b := 3) (by omega) (by decide)), e19, pk_gdn (by omega) (by decide), nI_clamp (by omega), h1.at (k := 19 + c) (j := 15 + c) (by omega) (by omega) (by omega), pk_ite]
    generalize cps T seed st c = s at *
    rcases hw1.part (c := c) (by omega) with e15 | e15
    · rw [if_pos e15, e16, pk_gdn (by omega) (by decide), nI_clamp (by omega), pk_let, h1.2.1 c hc2 (by omega), hasThird_eq, bd_some, hT1.1.2.2.1, pk_let]
      have hcp : cpl T seed s c = prt T (if s (12 + c) < 0 then slt T s c else tk T seed s c (s (12 + c)).toNatClampNeg) c := by
        unfold cpl
        rw [if_neg (by rw [e15]; decide)]
      rcases hw1.hire (by omega) hc2 with e | ⟨i, hi, e⟩
      · have hh : hC (s (12 + c)) = -1 := by rw [e]; rfl
        rw [hh, if_neg (fun z : (0 : Int32) ≤ -1 ∧ _ => absurd z.1 (by decide)), if_pos rfl]
        rw [if_pos (by rw [e]; decide)] at hcp
        refine pk_bdm (silentC_ok hF hT1 hk h1 hw hw1 hc2) (fun _ S2 h2 => ?_)
        have hs2 := hs.tr h2.2
        refine pk_bdm (partC_ok hF (hT.ag (hs2.ag hk)) hk h2.1 hw (ws_slt hF hw1 hc2) hc2) (fun _ S3 h3 => ?_)
        rw [pk_let, nI_1]
        exact go S3 (hs2.tr h3.2) (by rw [hcp]; exact h3.1)
      · have hi4 := wf_t hF hi
        have hh : hC (s (12 + c)) = nI i := (hC_eq (T := T) (Or.inr ⟨i, hi, e⟩) hi4).mpr e
        have hlt : (0 : Int32) ≤ nI i ∧ nI i < nI (tT T) := ⟨nI_pos' (by omega), nI_lt hi (by have := hF.2.2.1; omega)⟩
        rw [hh, if_pos hlt, if_neg (by decide)]
        rw [if_neg (by rw [e]; exact nI_pos (by omega)), e, nI_clamp (by omega)] at hcp
        refine pk_bdm (speak_ok hN hF hT1 hk h1 hw hw1 hc2 hi) (fun _ S2 h2 => ?_)
        have hs2 := hs.tr h2.2
        refine pk_bdm (partC_ok hF (hT.ag (hs2.ag hk)) hk h2.1 hw (ws_tk hF hw1 hc2 hi) hc2) (fun _ S3 h3 => ?_)
        rw [pk_let, nI_1]
        exact go S3 (hs2.tr h3.2) (by rw [hcp]; exact h3.1)
    · rw [if_neg (by rw [e15]; decide), pk_let, nI_1]
      refine go S1 hs ?_
      unfold cpl
      rw [if_pos e15]
      exact h1
theorem weekC_ok (hN : 5000 ≤ N) (hF : WF T) (hT : TC N T S) (hk : 13 ≤ kk) (h : stR T (S.1 kk) st) {w : Nat} (hw : w < 2 ^ 31) (hW : WS T w st) {seed : Int32} : pk (f_X7_goThroughWeek kk N seed S) (fun _ S' => stR T (S'.1 kk) (wk T seed st) ∧ wC kk S S') := by
  have hC := hF.2.1
  have hCt := hF.2.2.1
  unfold f_X7_goThroughWeek
  rw [pk_let]
  refine cplC_L hN hF hT hk hw hW (fun S1 h1 w1 => ?_) (tC T) N 0 S (by omega) (by omega) wC.rf h
  unfold f_X7_restThirds
  refine pk_bdm (restC_L hN hF hT hk (ws_cps hF hW (tC T) (Nat.le_refl _)) (tT T) N 0 S1 (by omega) (by omega) w1 h1) (fun _ S2 h2 => ?_)
  rw [pk_let, pk_some, h2.1.2.2.1, ui_same]
  exact ⟨h2.1.u0, h2.2.tr wC.uk⟩
end WKC
