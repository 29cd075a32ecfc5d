/-! ===== READ 9: the reference's expressions, put together ===== -/
section EXQ
variable {z : tks} {p B d : Nat}
theorem tcond.n6 {lv : Nat} {t : List Nat} (h : tcond lv t) : ∀ x, x ∈ t → x ≠ 6 := fun x hx => by
  rcases h.2 x hx with e | e | ⟨_, e | e⟩ <;> omega
theorem sc_open {s : List Nat} (h : scond 0 d s) : scond 2 (d + 1) (6 :: s) := ⟨by have := h.1; rw [List.length_cons]; omega, Or.inr (Or.inr ⟨6, s, rfl, Or.inl rfl⟩)⟩
theorem RX_paren {q : Nat} {w : List It} (hF : tkF z) (hk : kK z p = 40) (hp : p < 400) (hd : d < 6) (hr : RX z B 2 (d + 1) (p + 1) q w) (hc : kK z q = 41) (hq : q < 400) : RX z B 0 d p (q + 1) w := by
  have hq1 : q + 1 < kN z := hF.2.2.2.1 q hr.1.2 (by omega) (by omega) hq
  refine ⟨⟨by have := hr.1.1; omega, hq1⟩, fun N n mm c s S Q hN hS hd6 hs hn hmm hB k => ?_⟩
  obtain ⟨mm, rfl⟩ : ∃ q, mm = q + 1 := ⟨mm - 1, by omega⟩
  have hp1 : p + 1 < kN z := by have := hr.1; omega
  obtain ⟨S1, e1, X1, g1⟩ := OM_o (N := N) (n := n) (mm := mm) hF hS hk hd hp hp1 (by have := hs.1; omega)
  rw [e1]
  refine hr.2 N n mm c (6 :: s) S1 Q hN X1 (by omega) (sc_open hs) (by omega) (by omega) hB (fun n' m' S2 t w' ew ht hn' hm' X2 sg2 g2 => ?_)
  obtain ⟨m', rfl⟩ : ∃ q, m' = q + 1 := ⟨m' - 1, by omega⟩
  refine AM_close hN hF X2 hd ht.n6 hc hq hq1 (fun S3 X3 sg3 g3 => ?_)
  have hlen : w.length = w'.length + t.length := by rw [ew, List.length_append, flL_len]
  refine k n' m' S3 [] w (by show w = w ++ []; rw [List.append_nil]) ⟨Nat.zero_le _, (fun x hx => by cases hx)⟩ (by omega) (by omega) (by rw [hlen, ← Nat.add_assoc]; exact X3) ?_ ((g1.tr g2 (Nat.le_refl c)).tr g3 (by omega))
  rw [ew, sgM_app]
  exact ⟨sgM_eM sg2 g3 (Nat.le_refl _), sg3⟩
theorem RF_paren {f q : Nat} (hF : tkF z) (hk : kK z p = 40) (hp : p < 400) (hp1 : p + 1 < kN z) (hd : d < 6) (hr : RF z B 2 (d + 1) (p + 1) f q) : RF z B 0 d p f q := by
  intro N n mm c s S hN hS hd6 hs hn hmm hB
  obtain ⟨mm, rfl⟩ : ∃ q, mm = q + 1 := ⟨mm - 1, by omega⟩
  obtain ⟨S1, e1, X1, g1⟩ := OM_o (N := N) (n := n) (mm := mm) hF hS hk hd hp hp1 (by have := hs.1; omega)
  rw [e1]
  exact pk_mono (hr N n mm c (6 :: s) S1 hN X1 (by omega) (sc_open hs) (by omega) (by omega) hB) (fun _ S' g => ⟨g.1, g1.tr g.2 (Nat.le_refl c)⟩)
theorem RF_close {q : Nat} {w : List It} (hF : tkF z) (hk : kK z p = 40) (hp : p < 400) (hd : d < 6) (hr : RX z B 2 (d + 1) (p + 1) q w) (ho : ¬ isop (kK z q)) {f : Nat} (hf : (f = 1 ∧ ¬ kK z q = 41) ∨ (f = 2 ∧ kK z q = 41 ∧ ¬ q < 400)) : RF z B 0 d p f q := by
  intro N n mm c s S hN hS hd6 hs hn hmm hB
  obtain ⟨mm, rfl⟩ : ∃ q, mm = q + 1 := ⟨mm - 1, by omega⟩
  have hp1 : p + 1 < kN z := by have := hr.1; omega
  obtain ⟨S1, e1, X1, g1⟩ := OM_o (N := N) (n := n) (mm := mm) hF hS hk hd hp hp1 (by have := hs.1; omega)
  rw [e1]
  refine hr.2 N n mm c (6 :: s) S1 _ hN X1 (by omega) (sc_open hs) (by omega) (by omega) hB (fun n' m' S2 t w' ew ht hn' hm' X2 sg2 g2 => ?_)
  obtain ⟨m', rfl⟩ : ∃ q, m' = q + 1 + 1 := ⟨m' - 2, by omega⟩
  rcases hf with ⟨rfl, h41⟩ | ⟨rfl, h41, hq⟩
  · exact pk_mono (AM_close1 hN hF X2 hd h41 ho) (fun _ S' g => ⟨g.1, (g1.tr g2 (Nat.le_refl c)).tr g.2 (by omega)⟩)
  · exact pk_mono (AM_close2 hN hF X2 hd ht.n6 h41 hq) (fun _ S' g => ⟨g.1, (g1.tr g2 (Nat.le_refl c)).tr g.2 (by omega)⟩)
/-- operators: of which level, what waits -/
def opL (lv k : Nat) : Prop := (lv = 1 ∧ (k = 42 ∨ k = 47)) ∨ (lv = 2 ∧ (k = 43 ∨ k = 45))
theorem opL.is {lv k : Nat} (h : opL lv k) : isop k := by
  unfold isop
  rcases h with ⟨_, h⟩ | ⟨_, h⟩ <;> omega
theorem op_stop {lv k : Nat} {s t : List Nat} (h : opL lv k) (hs : scond lv d s) (ht : tcond lv t) : stopA (if k = 42 ∨ k = 47 then 1 else 0) s ∧ ((if k = 42 ∨ k = 47 then (1 : Int32) else 0) = 0 ∨ ∀ x, x ∈ t → x ≠ 8 ∧ x ≠ 9) := by
  rcases h with ⟨rfl, h⟩ | ⟨rfl, h⟩
  · rw [if_pos h]
    refine ⟨?_, Or.inr (fun x hx => ?_)⟩
    · rcases hs.2 with e | e | ⟨x, r, e, g⟩
      · omega
      · exact Or.inl e
      · rcases g with g | ⟨_, g⟩
        · exact Or.inr (Or.inl ⟨r, by rw [e, g]⟩)
        · exact Or.inr (Or.inr ⟨by decide, x, r, e, g⟩)
    · rcases ht.2 x hx with e | e | ⟨e, _⟩ <;> omega
  · rw [if_neg (by omega)]
    refine ⟨?_, Or.inl rfl⟩
    rcases hs.2 with e | e | ⟨x, r, e, g⟩
    · omega
    · exact Or.inl e
    · rcases g with g | ⟨g, _⟩
      · exact Or.inr (Or.inl ⟨r, by rw [e, g]⟩)
      · omega
theorem AM_op {N n m c1 q lv : Nat} {s t : List Nat} {S : rx_S} {Q : Unit → rx_S → Prop} (hN : 5000 ≤ N) (hF : tkF z) (hS : XS z B d q c1 (t ++ s) S) (hs : scond lv d s) (ht : tcond lv t) (hk : opL lv (kK z q)) (hl : s.length < 60) (k : ∀ S1, (XS z B d q (c1 + t.length) s S1 ∧ sgM S1 c1 (flL t) ∧ eM B c1 S S1) → pk (rx_bd (f_X11_goesOn (rx_ui (rx_ui S1 123 s.length (nI (kM (kK z q)))) 94 45 (nI (s.length + 1)))) (fun x51 S50 => f_X11_expression_L12 N (exE N) n (nI 0) 1 S50)) Q) : pk (AM N n (m + 1) S) Q := by
  obtain ⟨h1, h2, h3, h4, h5, h6, hw⟩ := hS
  have hl2 : (t ++ s).length = t.length + s.length := List.length_append
  have h60 := hw.2.2.2.2.2
  have hi := hk.is
  have hm := hF.2.1
  obtain ⟨st1, st2⟩ := op_stop hk hs ht
  have hex : pk (exJ N n (nI 0) S) Q := by
    rw [exJ_o hF h3 h1 h6 h4 hi]
    unfold exO
    rw [pk_bd]
    refine pk_mono (co_L st1 t N c1 S ht.n6 st2 hw (by omega)) (fun _ S1 g => ?_)
    obtain ⟨⟨w1, w2, w3, w4, w5, w6⟩, g2, g3⟩ := g
    have e11 : S1.1 94 11 = nI q := (g3.2.1 11 (by decide) (by decide)).trans h1
    have t1 : tkM z S1 := h6.eq (g3.1 97 (by decide) (by decide) (by decide)) (g3.1 98 (by decide) (by decide) (by decide)) (g3.1 99 (by decide) (by decide) (by decide))
    rw [e11, w1, pk_gdn (by omega) (by decide), pk_gdn (by omega) (by decide), pk_let, pk_let, nI_clamp (by omega), nI_clamp (by omega), (t1 q h4).1, ui_row (by decide), w1, nI_1]
    exact k S1 ⟨⟨e11, (g3.2.1 12 (by decide) (by decide)).trans h2, (g3.2.1 13 (by decide) (by decide)).trans h3, h4, by omega, t1, ⟨w1, w2, w3, w4, w5, w6⟩⟩, g2, g3.e⟩
  unfold AM
  rw [f_X11_expression_L96, is_ok h3 h1 hF h6 h4 41 rfl (x := 7) rfl, bd_some, if_neg (show ¬ kK z q = 41 by unfold isop at hi; omega), if_pos rfl]
  exact hex
theorem push_XS {q c1 k : Nat} {s : List Nat} {S : rx_S} (hX : XS z B d q c1 s S) (hk : k < 100) (hl : s.length < 60) (hq : q < 400) (hq1 : q + 1 < kN z) : XS z B d (q + 1) c1 (k :: s) (rx_ui (rx_ui (rx_ui S 123 s.length (nI k)) 94 45 (nI (s.length + 1))) 94 11 (nI (q + 1))) ∧ eM B c1 S (rx_ui (rx_ui (rx_ui S 123 s.length (nI k)) 94 45 (nI (s.length + 1))) 94 11 (nI (q + 1))) := by
  obtain ⟨h1, h2, h3, h4, h5, h6, ⟨w1, w2, w3, w4, w5, w6⟩⟩ := hX
  have e : ∀ j, j ≠ 11 → j ≠ 45 → (rx_ui (rx_ui (rx_ui S 123 s.length (nI k)) 94 45 (nI (s.length + 1))) 94 11 (nI (q + 1))).1 94 j = S.1 94 j := fun j q1 q2 => by rw [ui_get, if_pos rfl, if_neg q1, ui_get, if_pos rfl, if_neg q2, ui_row (by decide)]
  have er : ∀ j, j ≠ 94 → j ≠ 123 → (rx_ui (rx_ui (rx_ui S 123 s.length (nI k)) 94 45 (nI (s.length + 1))) 94 11 (nI (q + 1))).1 j = S.1 j := fun j q1 q2 => by rw [ui_row q1, ui_row q1, ui_row q2]
  have e3 : (rx_ui (rx_ui (rx_ui S 123 s.length (nI k)) 94 45 (nI (s.length + 1))) 94 11 (nI (q + 1))).1 123 = upd (S.1 123) s.length (nI k) := by rw [ui_row (by decide), ui_row (by decide), ui_same]
  refine ⟨⟨by rw [ui_get, if_pos rfl, if_pos rfl], (e 12 (by decide) (by decide)).trans h2, (e 13 (by decide) (by decide)).trans h3, hq1, by rw [List.length_cons]; omega, h6.eq (er 97 (by decide) (by decide)) (er 98 (by decide) (by decide)) (er 99 (by decide) (by decide)), ⟨?_, ⟨⟨by rw [e3]; exact upd_at, hk⟩, wst_eq _ w2 (fun j hj => by rw [e3, upd_ne (by omega)])⟩, (e 41 (by decide) (by decide)).trans w3, by rw [List.length_cons]; omega, w5, by rw [List.length_cons]; omega⟩⟩, ((eM.u3).tr (eM.ui (by omega)) (Nat.le_refl c1)).tr (eM.ui (by omega)) (Nat.le_refl c1)⟩
  rw [ui_get, if_pos rfl, if_neg (by decide), ui_get, if_pos rfl, if_pos rfl, List.length_cons]
theorem sc_push {lv k : Nat} {s : List Nat} (hs : scond lv d s) (hk : opL lv k) : scond (lv - 1) d (kM k :: s) := by
  rcases hk with ⟨rfl, h⟩ | ⟨rfl, h⟩
  · exact ⟨by have := hs.1; rw [List.length_cons]; omega, Or.inl rfl⟩
  · refine ⟨by have := hs.1; rw [List.length_cons]; omega, Or.inr (Or.inr ⟨kM k, s, rfl, Or.inr ⟨rfl, ?_⟩⟩)⟩
    rcases h with rfl | rfl
    · exact Or.inl rfl
    · exact Or.inr rfl
theorem tc_push {lv k : Nat} {t : List Nat} (ht : tcond (lv - 1) t) (hk : opL lv k) : tcond lv (t ++ [kM k]) := by
  rcases hk with ⟨rfl, h⟩ | ⟨rfl, h⟩
  · have e : t = [] := List.eq_nil_of_length_eq_zero (by have := ht.1; omega)
    subst e
    refine ⟨Nat.le_refl _, fun x hx => ?_⟩
    have hx : x = kM k := by simpa using hx
    rcases h with rfl | rfl
    · exact Or.inl hx
    · exact Or.inr (Or.inl hx)
  · refine ⟨by have := ht.1; rw [List.length_append]; show t.length + 1 ≤ 2; omega, fun x hx => ?_⟩
    rcases List.mem_append.mp hx with hx | hx
    · rcases ht.2 x hx with e | e | ⟨e, _⟩
      · exact Or.inl e
      · exact Or.inr (Or.inl e)
      · omega
    · have hx : x = kM k := by simpa using hx
      rcases h with rfl | rfl
      · exact Or.inr (Or.inr ⟨rfl, Or.inl hx⟩)
      · exact Or.inr (Or.inr ⟨rfl, Or.inr hx⟩)
/-- the code of an operator -/
def opc (k : Nat) : Nat := if k = 43 then 2 else if k = 45 then 3 else if k = 42 then 4 else 5
theorem opc_fop {lv k : Nat} (h : opL lv k) : fop (kM k) = opc k ∧ 2 ≤ opc k ∧ opc k ≤ 5 ∧ kM k < 100 := by
  rcases h with ⟨_, rfl | rfl⟩ | ⟨_, rfl | rfl⟩ <;> decide
theorem RX_op {lv q r : Nat} {w u : List It} (hF : tkF z) (h1 : RX z B lv d p q w) (hk : opL lv (kK z q)) (hq : q < 400) (h2 : RX z B (lv - 1) d (q + 1) r u) : RX z B lv d p r (w ++ u ++ [(opc (kK z q), 0)]) := by
  have hi := hk.is
  have hq1 : q + 1 < kN z := by have := h2.1; omega
  refine ⟨⟨by have := h1.1; have := h2.1; omega, h2.1.2⟩, fun N n mm c s S Q hN hS hd6 hs hn hmm hB k => ?_⟩
  have hl : s.length < 60 := by have := hs.1; omega
  refine h1.2 N n mm c s S Q hN hS hd6 hs hn hmm hB (fun n' m' S2 t w' ew ht hn' hm' X2 sg2 g2 => ?_)
  obtain ⟨m', rfl⟩ : ∃ q, m' = q + 1 := ⟨m' - 1, by omega⟩
  have hlen : w.length = w'.length + t.length := by rw [ew, List.length_append, flL_len]
  refine AM_op hN hF X2 hs ht hk hl (fun S3 hh => ?_)
  obtain ⟨X3, sg3, g3⟩ := hh
  obtain ⟨X4, g4⟩ := push_XS X3 (opc_fop hk).2.2.2 hl hq hq1
  have e11 : (rx_ui (rx_ui S3 123 s.length (nI (kM (kK z q)))) 94 45 (nI (s.length + 1))).1 94 11 = nI q := by rw [ui_get, if_pos rfl, if_neg (by decide), ui_row (by decide)]; exact X3.1
  obtain ⟨n', rfl⟩ : ∃ q, n' = q + 1 := ⟨n' - 1, by have := hF.2.1; omega⟩
  rw [goesOn_n e11 hq, bd_some, L12_n X4.2.2.1]
  have hc3 : c + w'.length + t.length = c + w.length := by omega
  rw [hc3] at X4
  refine h2.2 N n' N (c + w.length) (kM (kK z q) :: s) _ Q hN X4 hd6 (sc_push hs hk) (by omega) (by omega) (by omega) (fun n5 m5 S5 t5 w5 ew5 ht5 hn5 hm5 X5 sg5 g5 => ?_)
  have hlen5 : u.length = w5.length + t5.length := by rw [ew5, List.length_append, flL_len]
  have sgw : sgM S3 c w := by
    rw [ew, sgM_app]
    exact ⟨sgM_eM sg2 g3 (Nat.le_refl _), sg3⟩
  refine k n5 m5 S5 (t5 ++ [kM (kK z q)]) (w ++ w5) ?_ (tc_push ht5 hk) (by omega) (by omega) ?_ ?_ (((g2.tr g3 (by omega)).tr g4 (by omega)).tr g5 (by omega))
  · rw [ew5]
    unfold flL
    rw [List.map_append, List.map_cons, List.map_nil, (opc_fop hk).1, List.append_assoc, List.append_assoc, List.append_assoc]
  · rw [List.length_append, ← Nat.add_assoc, List.append_assoc]
    exact X5
  · rw [sgM_app]
    exact ⟨sgM_eM (sgM_eM sgw g4 (by omega)) g5 (Nat.le_refl _), sg5⟩
theorem RF_op {lv q f r : Nat} {w : List It} (hF : tkF z) (h1 : RX z B lv d p q w) (hk : opL lv (kK z q)) (hq : q < 400) (hq1 : q + 1 < kN z) (h2 : RF z B (lv - 1) d (q + 1) f r) : RF z B lv d p f r := by
  intro N n mm c s S hN hS hd6 hs hn hmm hB
  have hl : s.length < 60 := by have := hs.1; omega
  refine h1.2 N n mm c s S _ hN hS hd6 hs hn hmm hB (fun n' m' S2 t w' ew ht hn' hm' X2 sg2 g2 => ?_)
  obtain ⟨m', rfl⟩ : ∃ q, m' = q + 1 := ⟨m' - 1, by omega⟩
  refine AM_op hN hF X2 hs ht hk hl (fun S3 hh => ?_)
  obtain ⟨X3, sg3, g3⟩ := hh
  obtain ⟨X4, g4⟩ := push_XS X3 (opc_fop hk).2.2.2 hl hq hq1
  have e11 : (rx_ui (rx_ui S3 123 s.length (nI (kM (kK z q)))) 94 45 (nI (s.length + 1))).1 94 11 = nI q := by rw [ui_get, if_pos rfl, if_neg (by decide), ui_row (by decide)]; exact X3.1
  obtain ⟨n', rfl⟩ : ∃ q, n' = q + 1 := ⟨n' - 1, by have := hF.2.1; omega⟩
  rw [goesOn_n e11 hq, bd_some, L12_n X4.2.2.1]
  exact pk_mono (h2 N n' N _ (kM (kK z q) :: s) _ hN X4 hd6 (sc_push hs hk) (by omega) (by omega) (by omega)) (fun _ S' g => ⟨g.1, ((g2.tr g3 (by omega)).tr g4 (by omega)).tr g.2 (by omega)⟩)
theorem RF_op4 {lv q : Nat} {w : List It} (hF : tkF z) (h1 : RX z B lv d p q w) (hk : opL lv (kK z q)) (hq : ¬ q < 400) : RF z B lv d p 2 q := by
  intro N n mm c s S hN hS hd6 hs hn hmm hB
  have hl : s.length < 60 := by have := hs.1; omega
  refine h1.2 N n mm c s S _ hN hS hd6 hs hn hmm hB (fun n' m' S2 t w' ew ht hn' hm' X2 sg2 g2 => ?_)
  obtain ⟨m', rfl⟩ : ∃ q, m' = q + 1 := ⟨m' - 1, by omega⟩
  refine AM_op hN hF X2 hs ht hk hl (fun S3 hh => ?_)
  obtain ⟨X3, sg3, g3⟩ := hh
  obtain ⟨n', rfl⟩ : ∃ q, n' = q + 1 := ⟨n' - 1, by have := hF.2.1; have := h1.1.2; omega⟩
  obtain ⟨x1, x2, x3, x4, x5, x6, x7⟩ := X3
  have er : ∀ j, j ≠ 94 → j ≠ 123 → (rx_ui (rx_ui S3 123 s.length (nI (kM (kK z q)))) 94 45 (nI (s.length + 1))).1 j = S3.1 j := fun j q1 q2 => by rw [ui_row q1, ui_row q2]
  have e : ∀ j, j ≠ 45 → (rx_ui (rx_ui S3 123 s.length (nI (kM (kK z q)))) 94 45 (nI (s.length + 1))).1 94 j = S3.1 94 j := fun j q2 => by rw [ui_get, if_pos rfl, if_neg q2, ui_row (by decide)]
  have f2 := flS_flt (S := rx_ui (rx_ui S3 123 s.length (nI (kM (kK z q)))) 94 45 (nI (s.length + 1))) (f := 2) (x := 2) (Or.inr rfl) rfl x4
  rw [goesOn_2 ((e 13 (by decide)).trans x3) ((e 11 (by decide)).trans x1) hF (x6.eq (er 97 (by decide) (by decide)) (er 98 (by decide) (by decide)) (er 99 (by decide) (by decide))) x4 hq, bd_some, L12_f f2.pos.2.1, pk_some]
  exact ⟨f2, (((g2.tr g3 (by omega)).tr eM.u3 (Nat.le_refl c)).tr (eM.ui (by omega)) (Nat.le_refl c)).tr eM.fl (Nat.le_refl c)⟩
/-- an expression of the reference -/
def XB (z : tks) (B p c : Nat) (S : rx_S) : Prop := S.1 94 11 = nI p ∧ S.1 94 12 = nI 0 ∧ S.1 94 13 = 0 ∧ S.1 94 41 = nI c ∧ p < kN z ∧ c ≤ B + p ∧ B ≤ c ∧ B ≤ 420 ∧ tkM z S
theorem XB.st {c : Nat} {S : rx_S} (hF : tkF z) (h : XB z B p c S) : XS z B 0 p c [] (rx_ui S 94 45 0) ∧ eM B c S (rx_ui S 94 45 0) := by
  obtain ⟨h1, h2, h3, h4, h5, h6, h7, h8, h9⟩ := h
  have hm := hF.2.1
  have e : ∀ j, j ≠ 45 → (rx_ui S 94 45 0).1 94 j = S.1 94 j := fun j q2 => by rw [ui_get, if_pos rfl, if_neg q2]
  refine ⟨⟨(e 11 (by decide)).trans h1, (e 12 (by decide)).trans h2, (e 13 (by decide)).trans h3, h5, h6, h9.eq (ui_row (by decide)) (ui_row (by decide)) (ui_row (by decide)), ⟨?_, trivial, (e 41 (by decide)).trans h4, ?_, h8, by decide⟩⟩, eM.ui (by omega)⟩
  · rw [ui_get, if_pos rfl, if_pos rfl]
    rfl
  · show c + 0 ≤ B + 400
    omega
theorem ex_start {N c : Nat} {S : rx_S} (hN : 5000 ≤ N) (h : XB z B p c S) : f_X11_expression N S = OM N (N - 1) N (rx_ui S 94 45 0) := by
  obtain ⟨h1, h2, h3, h4, h5, h6, h7, h8, h9⟩ := h
  have e : ∀ j, j ≠ 45 → (rx_ui S 94 45 0).1 94 j = S.1 94 j := fun j q2 => by rw [ui_get, if_pos rfl, if_neg q2]
  obtain ⟨n, rfl⟩ : ∃ q, N = q + 1 := ⟨N - 1, by omega⟩
  rw [ex_eq, e 12 (by decide), h2, L12_n ((e 13 (by decide)).trans h3)]
  rfl
theorem ex_fail {N c f q : Nat} {S : rx_S} (hN : 5000 ≤ N) (hF : tkF z) (h : XB z B p c S) (hr : RF z B 2 0 p f q) : pk (f_X11_expression N S) (fun _ S' => flt z f q S' ∧ eM B c S S') := by
  obtain ⟨X, g⟩ := h.st hF
  rw [ex_start hN h]
  exact pk_mono (hr N (N - 1) N c [] _ hN X (by decide) ⟨by decide, Or.inr (Or.inl rfl)⟩ (by omega) (by omega) h.2.2.2.2.2.2.1) (fun _ S' k => ⟨k.1, g.tr k.2 (Nat.le_refl c)⟩)
theorem ex_ok {N c q : Nat} {w : List It} {S : rx_S} (hN : 5000 ≤ N) (hF : tkF z) (h : XB z B p c S) (hr : RX z B 2 0 p q w) (ho : ¬ isop (kK z q)) : pk (f_X11_expression N S) (fun _ S' => XB z B q (c + w.length) S' ∧ sgM S' c w ∧ eM B c S S') := by
  obtain ⟨X, g⟩ := h.st hF
  obtain ⟨h1, h2, h3, h4, h5, h6, h7, h8, h9⟩ := h
  rw [ex_start hN ⟨h1, h2, h3, h4, h5, h6, h7, h8, h9⟩]
  refine hr.2 N (N - 1) N c [] _ _ hN X (by decide) ⟨by decide, Or.inr (Or.inl rfl)⟩ (by omega) (by omega) h7 (fun n' m' S2 t w' ew ht hn' hm' X2 sg2 g2 => ?_)
  obtain ⟨m', rfl⟩ : ∃ q, m' = q + 1 := ⟨m' - 1, by omega⟩
  have hlen : w.length = w'.length + t.length := by rw [ew, List.length_append, flL_len]
  obtain ⟨x1, x2, x3, x4, x5, x6, x7⟩ := X2
  rw [List.append_nil] at x5 x7
  have hex : pk (exJ N n' (nI 0) S2) (fun _ S' => XB z B q (c + w.length) S' ∧ sgM S' c w ∧ eM B c S S') := by
    rw [exJ_e hF x3 x1 x6 x4 ho]
    refine pk_mono (exE_n hN x2 ht.n6 x7) (fun _ S3 k => ?_)
    obtain ⟨k1, k2, k3⟩ := k
    refine ⟨⟨(k3.2.1 11 (by decide) (by decide)).trans x1, (k3.2.1 12 (by decide) (by decide)).trans x2, (k3.2.1 13 (by decide) (by decide)).trans x3, by rw [hlen, ← Nat.add_assoc]; exact k1.2.2.1, x4, by omega, by omega, h8, x6.eq (k3.1 97 (by decide) (by decide) (by decide)) (k3.1 98 (by decide) (by decide) (by decide)) (k3.1 99 (by decide) (by decide) (by decide))⟩, ?_, (g.tr g2 (Nat.le_refl c)).tr k3.e (by omega)⟩
    rw [ew, sgM_app]
    exact ⟨sgM_eM sg2 k3.e (Nat.le_refl _), k2⟩
  unfold AM
  rw [f_X11_expression_L96, is_ok x3 x1 hF x6 x4 41 rfl (x := 7) rfl, bd_some]
  by_cases hk : kK z q = 41
  · rw [if_pos hk, if_neg (by decide), x2, if_pos (by decide)]
    exact hex
  · rw [if_neg hk, if_pos rfl]
    exact hex
end EXQ
