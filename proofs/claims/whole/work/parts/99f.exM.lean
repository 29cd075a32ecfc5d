/-! ===== READ 6: the reference's expressions ===== -/
def okK (k : Nat) : Bool := decide (k ≤ 3) || k == 59 || k == 61 || k == 40 || k == 41 || k == 43 || k == 45 || k == 42 || k == 60 || k == 47 || decide (128 ≤ k ∧ k < 152)
def kM (k : Nat) : Nat := if k = 0 then 0 else if k = 1 then 3 else if k = 2 then 1 else if k = 3 then 2 else if k = 59 then 4 else if k = 61 then 5 else if k = 40 then 6 else if k = 41 then 7 else if k = 43 then 8 else if k = 45 then 9 else if k = 42 then 10 else if k = 60 then 13 else if k = 47 then 15 else if 128 ≤ k then k - 108 else 3
theorem okK_lt {k : Nat} (h : okK k = true) : k < 152 := by
  unfold okK at h
  simp only [Bool.or_eq_true, decide_eq_true_eq, beq_iff_eq] at h
  omega
theorem kM_inj' : ∀ k, k < 152 → okK k = true → ∀ c, c < 152 → okK c = true → kM k = kM c → k = c := by decide +kernel
theorem kM_inj {k c : Nat} (hk : okK k = true) (hc : okK c = true) (h : kM k = kM c) : k = c := kM_inj' k (okK_lt hk) hk c (okK_lt hc) hc h
theorem kM_lt (k : Nat) (hk : okK k = true) : kM k < 100 := by
  have : ∀ k, k < 152 → kM k < 100 := by decide +kernel
  exact this k (okK_lt hk)
/-- the tokens: kinds, places, numbers, how many -/
abbrev tks : Type := (Nat → Nat) × (Nat → Nat) × (Nat → Nat) × Nat
def kK (z : tks) : Nat → Nat := z.1
def kP (z : tks) : Nat → Nat := z.2.1
def kV (z : tks) : Nat → Nat := z.2.2.1
def kN (z : tks) : Nat := z.2.2.2
def tkF (z : tks) : Prop := 1 ≤ kN z ∧ kN z ≤ 401 ∧ (∀ j, j < kN z → okK (kK z j) = true) ∧ (∀ j, j < kN z → kK z j ≠ 0 → kK z j ≠ 1 → j < 400 → j + 1 < kN z) ∧ (∀ j, j < kN z → kK z j = 3 → kV z j < 10000) ∧ (∀ i j, i < j → j < kN z → kP z i < kP z j) ∧ (∀ j, j < kN z → kP z j ≤ 2000)
def tkM (z : tks) (S : rx_S) : Prop := ∀ j, j < kN z → S.1 97 j = nI (kM (kK z j)) ∧ S.1 98 j = nI (kP z j) ∧ (kK z j = 3 → S.1 99 j = nI (kV z j))
theorem tkM.eq {z : tks} {S S' : rx_S} (h : tkM z S) (e1 : S'.1 97 = S.1 97) (e2 : S'.1 98 = S.1 98) (e3 : S'.1 99 = S.1 99) : tkM z S' := by
  unfold tkM at h ⊢
  rw [e1, e2, e3]
  exact h
/-- a fault -/
def flS (S : rx_S) (x y : Int32) : rx_S := rx_ui (rx_ui S 94 13 x) 94 14 y
def flt (z : tks) (f q : Nat) (S : rx_S) : Prop := (f = 1 ∨ f = 2) ∧ q < kN z ∧ S.1 94 13 = nI f ∧ S.1 94 14 = nI (kP z q)
section EXM
variable {N : Nat} {S : rx_S} {z : tks} {p : Nat}
theorem is_ok (h13 : S.1 94 13 = 0) (h11 : S.1 94 11 = nI p) (hF : tkF z) (ht : tkM z S) (hp : p < kN z) {x : Int32} (c : Nat) (hc : okK c = true) (hx : x = nI (kM c)) : f_X11_is x S = some (if kK z p = c then 1 else 0, S) := by
  have hm := hF.2.1
  unfold f_X11_is
  rw [if_pos h13, h11, rx_gd_in (vp_in_nI (show p < 403 by omega) (by decide)), nI_clamp (by omega), (ht p hp).1, hx]
  have ho := hF.2.2.1 p hp
  by_cases q : kK z p = c
  · rw [if_pos q, q, if_pos rfl]
  · rw [if_neg q, if_neg (fun e => ?_)]
    have h1 := kM_lt _ ho
    have h2 := kM_lt _ hc
    rw [nI_eq (by omega) (by omega)] at e
    exact q (kM_inj ho hc e)
theorem is_f {x : Int32} (h : ¬ S.1 94 13 = 0) : f_X11_is x S = some (0, S) := by
  unfold f_X11_is
  rw [if_neg h]
theorem fail_ok {x : Int32} (h13 : S.1 94 13 = 0) (h11 : S.1 94 11 = nI p) (hF : tkF z) (ht : tkM z S) (hp : p < kN z) : f_X11_fail x S = some ((), flS S x (nI (kP z p))) := by
  have hm := hF.2.1
  unfold f_X11_fail
  rw [if_pos (by rw [h13]; decide)]
  simp only [rx_let]
  rw [show (rx_ui S 94 13 x).1 94 11 = nI p by rw [ui_get]; simp [h11], rx_gd_in (vp_in_nI (show p < 403 by omega) (by decide)), nI_clamp (by omega), ui_row (by decide), (ht p hp).2.1]
  rfl
theorem flt.pos {f q : Nat} (h : flt z f q S) : ¬ S.1 94 13 ≤ 0 ∧ ¬ S.1 94 13 = 0 ∧ (0 : Int32) < S.1 94 13 := by
  obtain ⟨h1, -, h2, -⟩ := h
  rw [h2]
  rcases h1 with rfl | rfl <;> decide
theorem fail_f {x : Int32} {f q : Nat} (h : flt z f q S) : f_X11_fail x S = some ((), S) := by
  unfold f_X11_fail
  rw [if_neg h.pos.1]
theorem goesOn_n (h11 : S.1 94 11 = nI p) (hp : p < 400) : f_X11_goesOn S = some ((), rx_ui S 94 11 (nI (p + 1))) := by
  unfold f_X11_goesOn
  rw [h11, if_neg (fun e => by rw [show (400 : Int32) = nI 400 from rfl, nI_eq (by omega) (by decide)] at e; omega), nI_1]
  rfl
theorem goesOn_2 (h13 : S.1 94 13 = 0) (h11 : S.1 94 11 = nI p) (hF : tkF z) (ht : tkM z S) (hp : p < kN z) (h400 : ¬ p < 400) : f_X11_goesOn S = some ((), flS S 2 (nI (kP z p))) := by
  have hm := hF.2.1
  unfold f_X11_goesOn
  rw [fail_ok h13 h11 hF ht hp, h11, if_pos (by rw [show p = 400 by omega]; rfl)]
  rfl
theorem goesOn_f {f q : Nat} (h : flt z f q S) : ∃ x, f_X11_goesOn S = some ((), rx_ui S 94 11 x) := by
  unfold f_X11_goesOn
  by_cases e : S.1 94 11 = 400
  · rw [if_pos e, fail_f h]
    refine ⟨S.1 94 11, ?_⟩
    rw [bd_some]
    have : rx_ui S 94 11 (S.1 94 11) = S := by
      unfold rx_ui rx_ur upd
      refine Prod.ext (funext fun k => funext fun j => ?_) rfl
      by_cases q : k = 94
      · subst q
        by_cases w : j = 11
        · subst w; simp
        · simp [w]
      · simp [q]
    rw [this]
  · rw [if_neg e]
    exact ⟨_, rfl⟩
theorem flS_flt {f q : Nat} {x : Int32} (hf : f = 1 ∨ f = 2) (hx : x = nI f) (hq : q < kN z) : flt z f q (flS S x (nI (kP z q))) := ⟨hf, hq, by unfold flS; rw [ui_get, ui_get]; simp [hx], by unfold flS; rw [ui_get]; simp⟩
theorem flt.ui {f q j : Nat} {x : Int32} (h : flt z f q S) (h1 : j ≠ 13) (h2 : j ≠ 14) : flt z f q (rx_ui S 94 j x) := ⟨h.1, h.2.1, by rw [ui_get, if_pos rfl, if_neg (fun e => h1 e.symm)]; exact h.2.2.1, by rw [ui_get, if_pos rfl, if_neg (fun e => h2 e.symm)]; exact h.2.2.2⟩
theorem flt.eq {f q : Nat} {S' : rx_S} (h : flt z f q S) (e1 : S'.1 94 13 = S.1 94 13) (e2 : S'.1 94 14 = S.1 94 14) : flt z f q S' := ⟨h.1, h.2.1, e1.trans h.2.2.1, e2.trans h.2.2.2⟩
/-- the waiting operators -/
def wst (S : rx_S) : List Nat → Prop
  | [] => True
  | x :: s => (S.1 123 s.length = nI x ∧ x < 100) ∧ wst S s
theorem wst_eq {S S' : rx_S} : ∀ s : List Nat, wst S s → (∀ j, j < s.length → S'.1 123 j = S.1 123 j) → wst S' s := by
  intro s
  induction s with
  | nil => intro _ _; trivial
  | cons x s ih =>
    intro h e
    rw [List.length_cons] at e
    exact ⟨⟨(e _ (by omega)).trans h.1.1, h.1.2⟩, ih h.2 (fun j hj => e j (by omega))⟩
theorem wst_app {S : rx_S} : ∀ t s : List Nat, wst S (t ++ s) → wst S s := by
  intro t
  induction t with
  | nil => intro s h; exact h
  | cons x t ih => intro s h; exact ih s h.2
def fop (x : Nat) : Nat := if x = 8 then 2 else if x = 9 then 3 else if x = 10 then 4 else 5
def flL (t : List Nat) : List It := t.map (fun x => (fop x, 0))
theorem flL_len (t : List Nat) : (flL t).length = t.length := List.length_map _
def XW (B c : Nat) (s : List Nat) (S : rx_S) : Prop := S.1 94 45 = nI s.length ∧ wst S s ∧ S.1 94 41 = nI c ∧ c + s.length ≤ B + 400 ∧ B ≤ 420 ∧ s.length ≤ 60
def coF (B c : Nat) (S S' : rx_S) : Prop := (∀ k, k ≠ 94 → k ≠ 121 → k ≠ 122 → S'.1 k = S.1 k) ∧ (∀ j, j ≠ 41 → j ≠ 45 → S'.1 94 j = S.1 94 j) ∧ (∀ j, (j < c ∨ B + 401 ≤ j) → S'.1 121 j = S.1 121 j ∧ S'.1 122 j = S.1 122 j) ∧ S'.2 = S.2
theorem coF.rf {B c : Nat} {S : rx_S} : coF B c S S := ⟨fun _ _ _ _ => rfl, fun _ _ _ => rfl, fun _ _ => ⟨rfl, rfl⟩, rfl⟩
theorem coF.tr {B c c' : Nat} {S S' S'' : rx_S} (h : coF B c S S') (g : coF B c' S' S'') (hc : c ≤ c') : coF B c S S'' := ⟨fun k a b d => (g.1 k a b d).trans (h.1 k a b d), fun j a b => (g.2.1 j a b).trans (h.2.1 j a b), fun j a => ⟨(g.2.2.1 j (by omega)).1.trans (h.2.2.1 j a).1, (g.2.2.1 j (by omega)).2.trans (h.2.2.1 j a).2⟩, g.2.2.2.trans h.2.2.2⟩
def eM (B c : Nat) (S S' : rx_S) : Prop := (∀ k, k ≠ 94 → k ≠ 121 → k ≠ 122 → k ≠ 123 → S'.1 k = S.1 k) ∧ (∀ j, j ≠ 11 → j ≠ 12 → j ≠ 13 → j ≠ 14 → j ≠ 41 → j ≠ 45 → S'.1 94 j = S.1 94 j) ∧ (∀ j, (j < c ∨ B + 401 ≤ j) → S'.1 121 j = S.1 121 j ∧ S'.1 122 j = S.1 122 j) ∧ S'.2 = S.2
theorem eM.rf {B c : Nat} {S : rx_S} : eM B c S S := ⟨fun _ _ _ _ _ => rfl, fun _ _ _ _ _ _ _ => rfl, fun _ _ => ⟨rfl, rfl⟩, rfl⟩
theorem eM.tr {B c c' : Nat} {S S' S'' : rx_S} (h : eM B c S S') (g : eM B c' S' S'') (hc : c ≤ c') : eM B c S S'' := ⟨fun k a b d e => (g.1 k a b d e).trans (h.1 k a b d e), fun j a b d e f g' => (g.2.1 j a b d e f g').trans (h.2.1 j a b d e f g'), fun j a => ⟨(g.2.2.1 j (by omega)).1.trans (h.2.2.1 j a).1, (g.2.2.1 j (by omega)).2.trans (h.2.2.1 j a).2⟩, g.2.2.2.trans h.2.2.2⟩
theorem coF.e {B c : Nat} {S S' : rx_S} (h : coF B c S S') : eM B c S S' := ⟨fun k a b d _ => h.1 k a b d, fun j _ _ _ _ a b => h.2.1 j a b, h.2.2.1, h.2.2.2⟩
theorem eM.ui {B c j : Nat} {S : rx_S} {x : Int32} (hj : j = 11 ∨ j = 12 ∨ j = 13 ∨ j = 14 ∨ j = 41 ∨ j = 45) : eM B c S (rx_ui S 94 j x) := ⟨fun k a _ _ _ => ui_row a, fun i _ _ _ _ _ _ => by rw [ui_get, if_pos rfl, if_neg (by omega)], fun i _ => ⟨by rw [ui_row (by decide)], by rw [ui_row (by decide)]⟩, rfl⟩
theorem eM.u3 {B c j : Nat} {S : rx_S} {x : Int32} : eM B c S (rx_ui S 123 j x) := ⟨fun k _ _ _ a => ui_row a, fun i _ _ _ _ _ _ => by rw [ui_row (by decide)], fun i _ => ⟨by rw [ui_row (by decide)], by rw [ui_row (by decide)]⟩, rfl⟩
theorem eM.fl {B c : Nat} {S : rx_S} {x y : Int32} : eM B c S (flS S x y) := (eM.ui (by omega)).tr (eM.ui (by omega)) (Nat.le_refl c)
theorem eM.tk {B c : Nat} {S S' : rx_S} (h : eM B c S S') (ht : tkM z S) : tkM z S' := ht.eq (h.1 97 (by decide) (by decide) (by decide) (by decide)) (h.1 98 (by decide) (by decide) (by decide) (by decide)) (h.1 99 (by decide) (by decide) (by decide) (by decide))
def emS (S : rx_S) (c : Nat) (x y : Int32) : rx_S := rx_ui (rx_ui (rx_ui S 121 c x) 122 c y) 94 41 (nI (c + 1))
theorem emit_ok {c : Nat} {x y : Int32} (h41 : S.1 94 41 = nI c) (hc : c < 840) : f_X11_emit x y S = some ((), emS S c x y) := by
  unfold f_X11_emit emS
  have e1 : (rx_ui S 121 c x).1 94 41 = nI c := by rw [ui_row (by decide)]; exact h41
  have e2 : (rx_ui (rx_ui S 121 c x) 122 c y).1 94 41 = nI c := by rw [ui_row (by decide)]; exact e1
  simp only [rx_let]
  rw [h41, rx_gd_in (vp_in_nI hc (by decide)), nI_clamp (by omega), e1, rx_gd_in (vp_in_nI hc (by decide)), nI_clamp (by omega), e2, nI_1]
theorem emS_F {B c : Nat} {x y : Int32} (hc : c < B + 401) : coF B c S (emS S c x y) := by
  unfold emS
  refine ⟨fun k a b d => by rw [ui_row a, ui_row d, ui_row b], fun j a _ => by rw [ui_get, if_pos rfl, if_neg a, ui_row (by decide), ui_row (by decide)], fun j a => ⟨?_, ?_⟩, rfl⟩
  · rw [ui_row (by decide), ui_row (by decide), ui_same, upd_ne (by omega)]
  · rw [ui_row (by decide), ui_same, upd_ne (by omega), ui_row (by decide)]
theorem emS_at {c : Nat} {x y : Int32} : (emS S c x y).1 121 c = x ∧ (emS S c x y).1 122 c = y ∧ (emS S c x y).1 94 41 = nI (c + 1) ∧ (emS S c x y).1 123 = S.1 123 := by
  unfold emS
  refine ⟨?_, ?_, ?_, ?_⟩
  · rw [ui_row (by decide), ui_row (by decide), ui_same]; exact upd_at
  · rw [ui_row (by decide), ui_same]; exact upd_at
  · rw [ui_same]; exact upd_at
  · rw [ui_row (by decide), ui_row (by decide), ui_row (by decide)]
def stopA (x3 : Int32) (s : List Nat) : Prop := s = [] ∨ (∃ r, s = 6 :: r) ∨ (¬ x3 = 0 ∧ ∃ x r, s = x :: r ∧ (x = 8 ∨ x = 9))
theorem co_L {x3 : Int32} {B : Nat} {s : List Nat} (hst : stopA x3 s) : ∀ (t : List Nat) (n c : Nat) (S : rx_S), (∀ x, x ∈ t → x ≠ 6) → (x3 = 0 ∨ ∀ x, x ∈ t → x ≠ 8 ∧ x ≠ 9) → XW B c (t ++ s) S → t.length < n → pk (f_X11_comesOut_L0 N n x3 S) (fun _ S' => XW B (c + t.length) s S' ∧ sgM S' c (flL t) ∧ coF B c S S') := by
  intro t
  induction t with
  | nil =>
    intro n c S _ _ h hn
    obtain ⟨n, rfl⟩ : ∃ q, n = q + 1 := ⟨n - 1, by omega⟩
    have h : XW B c s S := h
    obtain ⟨h1, h2, h3, h4, h5, h6⟩ := h
    have fin : XW B (c + ([] : List Nat).length) s S ∧ sgM S c (flL []) ∧ coF B c S S := ⟨⟨h1, h2, h3, h4, h5, h6⟩, trivial, coF.rf⟩
    rw [f_X11_comesOut_L0]
    rcases hst with rfl | ⟨r, rfl⟩ | ⟨g0, x, r, rfl, g1⟩
    · rw [h1, if_pos (show nI ([] : List Nat).length ≤ 0 from by decide), pk_some]
      exact fin
    · rw [List.length_cons] at h1 h4 h6
      rw [h1, if_neg (nI_nle (by omega) (by omega)), nI_pred, pk_gdn (by omega) (by decide), pk_let, nI_clamp (by omega), h2.1.1, if_pos (by decide), pk_some]
      exact fin
    · rw [List.length_cons] at h1 h4 h6
      rw [h1, if_neg (nI_nle (by omega) (by omega)), nI_pred, pk_gdn (by omega) (by decide), pk_let, nI_clamp (by omega), h2.1.1]
      rcases g1 with rfl | rfl
      · rw [if_neg (by decide), pk_let, if_neg g0, if_pos (by decide), pk_some]
        exact fin
      · rw [if_neg (by decide), pk_let, if_neg g0, if_neg (by decide), if_pos (by decide), pk_some]
        exact fin
  | cons x t ih =>
    intro n c S hx6 hx8 h hn
    obtain ⟨n, rfl⟩ : ∃ q, n = q + 1 := ⟨n - 1, by omega⟩
    rw [List.length_cons] at hn
    obtain ⟨h1, h2, h3, h4, h5, h6⟩ := h
    have hl : ((x :: t) ++ s).length = (t ++ s).length + 1 := rfl
    have hl2 : (t ++ s).length = t.length + s.length := List.length_append
    rw [hl] at h1 h4 h6
    have hx : S.1 123 (t ++ s).length = nI x := h2.1.1
    have hx100 : x < 100 := h2.1.2
    have x6 : ¬ nI x = 6 := fun e => hx6 x (List.mem_cons_self) ((nI_eq (b := 6) (by omega) (by decide)).mp e)
    rw [f_X11_comesOut_L0, h1, if_neg (nI_nle (by omega) (by omega)), nI_pred, pk_gdn (by omega) (by decide), pk_let, nI_clamp (by omega), hx, if_neg x6, pk_let]
    have s1 : (rx_ui S 94 45 (nI (t ++ s).length)).1 94 41 = nI c := by rw [ui_get, if_pos rfl, if_neg (by decide)]; exact h3
    have body : ∀ y : Nat, y = fop x → pk (rx_bd (f_X11_emit (nI y) 0 (rx_ui S 94 45 (nI (t ++ s).length))) (fun x17 S16 => f_X11_comesOut_L0 N n x3 S16)) (fun _ S' => XW B (c + (x :: t).length) s S' ∧ sgM S' c (flL (x :: t)) ∧ coF B c S S') := by
      intro y hy
      rw [emit_ok s1 (by omega), bd_some]
      have F1 : coF B c S (rx_ui S 94 45 (nI (t ++ s).length)) := ⟨fun k a _ _ => ui_row a, fun j _ b => by rw [ui_get, if_pos rfl, if_neg b], fun j _ => ⟨by rw [ui_row (by decide)], by rw [ui_row (by decide)]⟩, rfl⟩
      have F2 := F1.tr (emS_F (S := rx_ui S 94 45 (nI (t ++ s).length)) (B := B) (c := c) (x := nI y) (y := 0) (by omega)) (Nat.le_refl c)
      obtain ⟨a1, a2, a3, a4⟩ := emS_at (S := rx_ui S 94 45 (nI (t ++ s).length)) (c := c) (x := nI y) (y := 0)
      have a5 : (emS (rx_ui S 94 45 (nI (t ++ s).length)) c (nI y) 0).1 94 45 = nI (t ++ s).length := by
        unfold emS
        rw [ui_get, if_pos rfl, if_neg (by decide), ui_row (by decide), ui_row (by decide), ui_get, if_pos rfl, if_pos rfl]
      refine pk_mono (ih n (c + 1) _ (fun w hw => hx6 w (List.mem_cons_of_mem _ hw)) (hx8.imp id (fun g w hw => g w (List.mem_cons_of_mem _ hw))) ⟨a5, wst_eq _ h2.2 (fun j _ => by rw [a4, ui_row (by decide)]), a3, by omega, h5, by omega⟩ (by omega)) (fun _ S' g => ?_)
      obtain ⟨g1, g2, g3⟩ := g
      refine ⟨?_, ⟨(g3.2.2.1 c (by omega)).1.trans (a1.trans (by rw [hy])), (g3.2.2.1 c (by omega)).2.trans a2, g2⟩, F2.tr g3 (by omega)⟩
      rw [List.length_cons, show c + (t.length + 1) = c + 1 + t.length by omega]
      exact g1
    have J : pk (rx_let (rx_ui S 94 45 (S.1 94 45 - 1)) (fun S12 => rx_let (fun (x13 : Int32) (x14 : Int32) (S15 : rx_S) => rx_bd (f_X11_emit x14 0 S15) (fun x17 S16 => f_X11_comesOut_L0 N n x13 S16)) (fun J84_2 => if nI x = 8 then (J84_2 x3 2 S12) else (if nI x = 9 then (J84_2 x3 3 S12) else (if nI x = 10 then (J84_2 x3 4 S12) else (J84_2 x3 5 S12)))))) (fun _ S' => XW B (c + (x :: t).length) s S' ∧ sgM S' c (flL (x :: t)) ∧ coF B c S S') := by
      rw [pk_let, pk_let, h1, nI_pred]
      have n8 : nI x = 8 ↔ x = 8 := nI_eq (b := 8) (by omega) (by omega)
      have n9 : nI x = 9 ↔ x = 9 := nI_eq (b := 9) (by omega) (by omega)
      have n10 : nI x = 10 ↔ x = 10 := nI_eq (b := 10) (by omega) (by omega)
      by_cases q8 : x = 8
      · rw [if_pos (n8.mpr q8)]
        exact body 2 (by unfold fop; rw [if_pos q8])
      rw [if_neg (fun e => q8 (n8.mp e))]
      by_cases q9 : x = 9
      · rw [if_pos (n9.mpr q9)]
        exact body 3 (by unfold fop; rw [if_neg q8, if_pos q9])
      rw [if_neg (fun e => q9 (n9.mp e))]
      by_cases q10 : x = 10
      · rw [if_pos (n10.mpr q10)]
        exact body 4 (by unfold fop; rw [if_neg q8, if_neg q9, if_pos q10])
      rw [if_neg (fun e => q10 (n10.mp e))]
      exact body 5 (by unfold fop; rw [if_neg q8, if_neg q9, if_neg q10])
    by_cases q0 : x3 = 0
    · rw [if_pos q0]
      exact J
    · rw [if_neg q0]
      rcases hx8 with g | g
      · exact absurd g q0
      · obtain ⟨g8, g9⟩ := g x List.mem_cons_self
        have n8 : nI x = 8 ↔ x = 8 := nI_eq (b := 8) (by omega) (by omega)
        have n9 : nI x = 9 ↔ x = 9 := nI_eq (b := 9) (by omega) (by omega)
        rw [if_neg (fun e => g8 (n8.mp e)), if_neg (fun e => g9 (n9.mp e))]
        exact J
theorem spl6 : ∀ s : List Nat, ∃ t r, s = t ++ r ∧ (∀ x, x ∈ t → x ≠ 6) ∧ stopA 0 r := by
  intro s
  induction s with
  | nil => exact ⟨[], [], rfl, (fun x h => by cases h), Or.inl rfl⟩
  | cons x s ih =>
    by_cases q : x = 6
    · exact ⟨[], x :: s, rfl, (fun x h => by cases h), Or.inr (Or.inl ⟨s, by rw [q]⟩)⟩
    · obtain ⟨t, r, e, h1, h2⟩ := ih
      refine ⟨x :: t, r, by rw [e]; rfl, fun y hy => ?_, h2⟩
      rcases List.mem_cons.mp hy with rfl | hy
      · exact q
      · exact h1 y hy
/-- what comes out when all does -/
theorem cmo_any {B c : Nat} {s : List Nat} (hN : 5000 ≤ N) (h : XW B c s S) : pk (f_X11_comesOut N 0 S) (fun _ S' => coF B c S S') := by
  obtain ⟨t, r, rfl, h1, h2⟩ := spl6 s
  have hl : (t ++ r).length = t.length + r.length := List.length_append
  have h60 := h.2.2.2.2.2
  exact pk_mono (co_L h2 t N c S h1 (Or.inl rfl) h (by omega)) (fun _ _ g => g.2.2)
end EXM
