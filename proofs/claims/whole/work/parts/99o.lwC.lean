/-! ===== READ 15: a law as the class reads it ===== -/
section LWC
variable {N : Nat} {S : rx_S} {z : tks} {p sd c : Nat}
theorem take_t (hF : tkF z) (hS : CS z p c S) {x : Int32} (k : Nat) (hk : k < 1000) (h2 : 2 ≤ k) (hx : x = nI k) (h : kK z p = k ∧ p < 400) : f_X4_take x S = some (1, rx_ui S 13 5 (nI (p + 1))) ∧ CS z (p + 1) c (rx_ui S 13 5 (nI (p + 1))) ∧ xeC c S (rx_ui S 13 5 (nI (p + 1))) := by
  have hp1 : p + 1 < kN z := hF.2.2.2.1 p hS.2.2.2.1 (by omega) (by omega) h.2
  refine ⟨?_, hS.go hp1, xeC.ui (Or.inl rfl)⟩
  rw [take_ok hF hS.2.2.2.2 hS.1 hS.2.2.2.1 k hk hx, if_pos h.1, if_pos h.2]
theorem take_n (hF : tkF z) (hS : CS z p c S) {x : Int32} (k : Nat) (hk : k < 1000) (hx : x = nI k) {f : Nat} (h : tkFl z p k f) : ∃ S', f_X4_take x S = some (0, S') ∧ fC z f p S' ∧ xeC c S S' := by
  refine ⟨rx_ui S 13 6 (nI f), ?_, hS.fl h.f rfl, xeC.ui (Or.inr rfl)⟩
  rw [take_ok hF hS.2.2.2.2 hS.1 hS.2.2.2.1 k hk hx]
  rcases h with ⟨rfl, h1, h2⟩ | ⟨rfl, h1⟩
  · rw [if_pos h1, if_neg h2]
    rfl
  · rw [if_neg h1]
    rfl
def ldE (N : Nat) : rx_S → Option (Int32 × rx_S) := fun S14 => rx_bd (f_X4_readSum 8 N 0 S14) (fun x16 S15 => if x16 = 0 then (some (0, S15)) else (rx_bd (f_X2_add 20 (-14) S15) (fun x20 S19 => rx_bd (f_X4_take 59 S19) (fun x23 S22 => rx_bl x23 (some (x23, S22))))))
def ldR : rx_S → Option (Int32 × rx_S) := fun S26 => rx_bd (f_X4_refuse 2 S26) (fun x28 S27 => rx_bl x28 (some (x28, S27)))
theorem readLaw_eq {x : Int32} : f_X4_readLaw N x S = rx_bd (f_X4_take x S) (fun x4 S3 => if x4 = 0 then (some (0, S3)) else (rx_bd (f_X4_take 61 S3) (fun x8 S7 => if x8 = 0 then (some (0, S7)) else (rx_bd (f_X2_begin 20 (x - 131) S7) (fun x12 S11 => f_X4_readLaw_L36 N ldR (ldE N) N 0 S11))))) := rfl
def lyE : Nat → List Br → List It → Nat
  | a, [], t => a + t.length + 1
  | a, (l, r, u) :: bs, t => lyE (a + l.length + r.length + 1 + u.length + 1) bs t
def PL (z : tks) (sd i p c : Nat) (S : rx_S) (r : Int32) (S' : rx_S) : Prop := (r = 1 ∧ ∃ q bs t c', LwX z sd i p q bs t ∧ CS z q c' S' ∧ c ≤ c' ∧ c' ≤ 14 + q ∧ (lyC (S'.1 21) c bs t ∧ lyE c bs t ≤ c') ∧ xeC c S S') ∨ (r = 0 ∧ ∃ f q, LwF z sd i p f q ∧ fC z f q S' ∧ xeC c S S')
theorem endC {i : Nat} (hN : 5000 ≤ N) (hF : tkF z) (hS : CS z p c S) (hc : c + 2 ≤ 14 + p) (hk : ¬ kK z p = 140) : pk (ldE N S) (PL z sd i p c S) := by
  unfold ldE
  refine pk_bdm (exprC (B := 420 * sd) hN hF hS (by omega)) (fun r S2 h => ?_)
  have hm := hF.2.1
  rcases h with ⟨rfl, q, w, hR, hn, hE, hl, hS2, hg, he⟩ | ⟨rfl, f, q, hR, hf, he⟩
  · have hq := hS2.2.2.2.1
    rw [if_neg (by decide), add_ok hS2.2.1 (by omega), bd_some]
    have hA := hS2.ad (x := -14)
    have gA := adS_e (S := S2) (c := c + w.length) (x := -14)
    rcases tk_cases z q 59 with hk2 | ⟨f, hk2⟩
    · obtain ⟨t1, t2, t3⟩ := take_t hF hA 59 (by decide) (by decide) (x := 59) rfl hk2
      rw [t1, bd_some, pk_bl (Or.inr rfl), pk_some]
      refine Or.inl ⟨rfl, q + 1, [], w, c + w.length + 1, LX_end hF hk hR (nop_is hn) hE hk2, t2, by omega, by omega, ⟨⟨hE, ?_, ?_, by omega⟩, Nat.le_refl _⟩, (he.tr gA (by omega)).tr t3 (by omega)⟩
      · rw [ui_row (by decide)]
        exact sgC_eq _ _ hg (fun j a b => gA.2.2.2.1 j b)
      · rw [ui_row (by decide)]
        exact adS_at.1
    · obtain ⟨S3, t1, t2, t3⟩ := take_n hF hA 59 (by decide) (x := 59) rfl hk2
      rw [t1, bd_some, pk_bl (Or.inl rfl), pk_some]
      exact Or.inr ⟨rfl, f, q, LF_end hF hk (Or.inr ⟨w, hR, nop_is hn, hk2⟩), t2, (he.tr gA (by omega)).tr t3 (by omega)⟩
  · rw [if_pos rfl, pk_some]
    exact Or.inr ⟨rfl, f, q, LF_end hF hk (Or.inl hR), hf, he⟩
def jmS (S : rx_S) (j : Nat) (x : Int32) : rx_S := rx_ui S 21 j x
theorem jm_e {j : Nat} {x : Int32} : xeC j S (jmS S j x) := by
  unfold jmS
  exact ⟨fun k _ _ a => ui_row a, fun j _ _ => by rw [ui_row (by decide)], fun j _ => by rw [ui_row (by decide)], fun j a => by rw [ui_same, upd_ne (by omega)], rfl⟩
theorem jm_at {j : Nat} {x : Int32} : (jmS S j x).1 21 j = x ∧ ∀ i, i ≠ j → (jmS S j x).1 21 i = S.1 21 i := by
  unfold jmS
  exact ⟨by rw [ui_same]; exact upd_at, fun i hi => by rw [ui_same, upd_ne hi]⟩
theorem jm_CS {j : Nat} {x : Int32} (h : CS z p c S) : CS z p c (jmS S j x) := by
  obtain ⟨a1, a2, a3, a4, a5⟩ := h
  have e := jm_e (S := S) (j := j) (x := x)
  refine ⟨?_, ?_, ?_, a4, e.tk a5⟩
  · unfold jmS; rw [ui_row (by decide)]; exact a1
  · unfold jmS; rw [ui_row (by decide)]; exact a2
  · unfold jmS; rw [ui_row (by decide)]; exact a3
theorem jump_ok {j : Nat} (h : S.1 20 4 = nI c) (hj : j < 420) : f_X2_jumpHere 20 (nI j) S = some ((), jmS S j (-100 - nI c)) := by
  unfold f_X2_jumpHere jmS
  rw [if_neg (nI_pos (by omega)), if_neg (show ¬ (420 : Int32) ≤ nI j from nI_ge (b := 420) hj (by decide)), rx_gd_in (vp_in_nI hj (by decide)), nI_clamp (by omega), h]
  rfl
theorem lyC_cons {C : Nat → Int32} {a : Nat} {l r u t : List It} {bs : List Br} (x : Ex 15 l ∧ Ex 15 r ∧ Ex 15 u) (h1 : sgC C a l) (h2 : sgC C (a + l.length) r) (h3 : C (a + l.length + r.length) = -100 - nI (a + l.length + r.length + 1 + u.length + 1)) (h4 : sgC C (a + l.length + r.length + 1) u) (h5 : C (a + l.length + r.length + 1 + u.length) = -14) (h6 : a + l.length + r.length + 1 + u.length + 1 < 420) (h7 : lyC C (a + l.length + r.length + 1 + u.length + 1) bs t) : lyC C a ((l, r, u) :: bs) t := ⟨x, ⟨h1, h2, h3, h4, h5, h6⟩, h7⟩
theorem lwC_L (hN : 5000 ≤ N) (hF : tkF z) (hs : sd < 2) : ∀ (j i p c n : Nat) (S : rx_S), i + j = 4 → CS z p c S → c + 2 ≤ 14 + p → 10 ≤ n + i → pk (f_X4_readLaw_L36 N ldR (ldE N) n (nI i) S) (PL z sd i p c S) := by
  intro j
  have hm := hF.2.1
  induction j with
  | zero =>
    intro i p c n S hi hS hc hn
    have e : i = 4 := by omega
    subst e
    obtain ⟨n, rfl⟩ : ∃ m, n = m + 1 := ⟨n - 1, by omega⟩
    have hp := hS.2.2.2.1
    rw [f_X4_readLaw_L36, if_neg (by decide), hS.1, kindAt_ok hF hS.2.2.2.2 hp, bd_some]
    by_cases hk : kK z p = 140
    · rw [if_pos (show nI (kK z p) = 140 from (kk_ne hF hp (k := 140) (by decide)).mpr hk), if_pos (show nI 4 = 4 from rfl)]
      unfold ldR f_X4_refuse
      simp only [rx_let]
      rw [bd_some, pk_bl (Or.inl rfl), pk_some]
      exact Or.inr ⟨rfl, 2, p, LF_ifs hF hk, hS.fl (Or.inr rfl) rfl, xeC.ui (Or.inr rfl)⟩
    · rw [if_neg (show ¬ nI (kK z p) = 140 from fun e => hk ((kk_ne hF hp (k := 140) (by decide)).mp e))]
      exact endC hN hF hS hc hk
  | succ j ih =>
    intro i p c n S hi hS hc hn
    obtain ⟨n, rfl⟩ : ∃ m, n = m + 1 := ⟨n - 1, by omega⟩
    have hp := hS.2.2.2.1
    rw [f_X4_readLaw_L36, if_neg (show ¬ (4 : Int32) < nI i from nI_nlt (a := 4) (by omega) (by decide)), hS.1, kindAt_ok hF hS.2.2.2.2 hp, bd_some]
    by_cases hk : kK z p = 140
    · rw [if_pos (show nI (kK z p) = 140 from (kk_ne hF hp (k := 140) (by decide)).mpr hk), if_neg (show ¬ nI i = 4 from fun e => by rw [show (4 : Int32) = nI 4 from rfl, nI_eq (by omega) (by decide)] at e; omega)]
      rcases tk_cases z p 140 with k0 | ⟨f, k0⟩
      rotate_left
      · obtain ⟨S1, t1, t2, t3⟩ := take_n hF hS 140 (by decide) (x := 140) rfl k0
        rw [t1, bd_some, if_pos rfl, pk_some]
        rcases k0 with ⟨rfl, _, h4⟩ | ⟨_, h⟩
        · exact Or.inr ⟨rfl, 2, p, LF_if4 hF hk h4 (by omega), t2, t3⟩
        · exact absurd hk h
      obtain ⟨t1, hS1, e1⟩ := take_t hF hS 140 (by decide) (by decide) (x := 140) rfl k0
      rw [t1, bd_some, if_neg (by decide)]
      have bad : ∀ (f q : Nat) (S' : rx_S), ifBad z sd i p f q → fC z f q S' → xeC c S S' → PL z sd i p c S 0 S' := fun f q S' h1 h2 h3 => Or.inr ⟨rfl, f, q, LwF_if hF hs k0 (by omega) h1, h2, h3⟩
      refine pk_bdm (exprC (B := 420 * sd) hN hF hS1 (by omega)) (fun x S2 h => ?_)
      rcases h with ⟨rfl, q1, l, r1, n1, x1, l1, hS2, g2, e2⟩ | ⟨rfl, f, q, hR, hf, he⟩
      rotate_left
      · rw [if_pos rfl, pk_some]
        exact bad f q S2 (Or.inl hR) hf (e1.tr he (Nat.le_refl c))
      have e12 := e1.tr e2 (Nat.le_refl c)
      have hq1 := hS2.2.2.2.1
      rw [if_neg (by decide)]
      rcases tk_cases z q1 60 with k1 | ⟨f, k1⟩
      rotate_left
      · obtain ⟨S3, u1, u2, u3⟩ := take_n hF hS2 60 (by decide) (x := 60) rfl k1
        rw [u1, bd_some, if_pos rfl, pk_some]
        exact bad f q1 S3 (Or.inr ⟨q1, l, ⟨r1, nop_is n1⟩, Or.inl ⟨k1, rfl⟩⟩) u2 (e12.tr u3 (by omega))
      obtain ⟨u1, hS3, e3⟩ := take_t hF hS2 60 (by decide) (by decide) (x := 60) rfl k1
      rw [u1, bd_some, if_neg (by decide)]
      refine pk_bdm (exprC (B := 420 * sd) hN hF hS3 (by omega)) (fun x S4 h => ?_)
      rcases h with ⟨rfl, q2, r, r2, n2, x2, l2, hS4, g4, e4⟩ | ⟨rfl, f, q, hR, hf, he⟩
      rotate_left
      · rw [if_pos rfl, pk_some]
        exact bad f q S4 (Or.inr ⟨q1, l, ⟨r1, nop_is n1⟩, Or.inr ⟨k1, Or.inl hR⟩⟩) hf ((e12.tr e3 (by omega)).tr he (by omega))
      have e34 := e3.tr e4 (by omega)
      have hq2 := hS4.2.2.2.1
      rw [if_neg (by decide)]
      rcases tk_cases z q2 141 with k2 | ⟨f, k2⟩
      rotate_left
      · obtain ⟨S5, u1, u2, u3⟩ := take_n hF hS4 141 (by decide) (x := 141) rfl k2
        rw [u1, bd_some, if_pos rfl, pk_some]
        exact bad f q2 S5 (Or.inr ⟨q1, l, ⟨r1, nop_is n1⟩, Or.inr ⟨k1, Or.inr ⟨q2, r, ⟨r2, nop_is n2⟩, Or.inl ⟨k2, rfl⟩⟩⟩⟩) u2 ((e12.tr e34 (by omega)).tr u3 (by omega))
      obtain ⟨u1, hS5, e5⟩ := take_t hF hS4 141 (by decide) (by decide) (x := 141) rfl k2
      rw [u1, bd_some, if_neg (by decide), add_ok hS5.2.1 (by omega), bd_some]
      have hS6 := hS5.ad (x := -100)
      have e6 := adS_e (S := rx_ui S4 13 5 (nI (q2 + 1))) (c := c + l.length + r.length) (x := -100)
      have e46 := e5.tr e6 (Nat.le_refl _)
      refine pk_bdm (exprC (B := 420 * sd) hN hF hS6 (by omega)) (fun x S7 h => ?_)
      rcases h with ⟨rfl, q3, u, r3, n3, x3, l3, hS7, g7, e7⟩ | ⟨rfl, f, q, hR, hf, he⟩
      rotate_left
      · rw [if_pos rfl, pk_some]
        exact bad f q S7 (Or.inr ⟨q1, l, ⟨r1, nop_is n1⟩, Or.inr ⟨k1, Or.inr ⟨q2, r, ⟨r2, nop_is n2⟩, Or.inr ⟨k2, Or.inl hR⟩⟩⟩⟩) hf (((e12.tr e34 (by omega)).tr e46 (by omega)).tr he (by omega))
      have hq3 := hS7.2.2.2.1
      rw [if_neg (by decide)]
      rcases tk_cases z q3 142 with k3 | ⟨f, k3⟩
      rotate_left
      · obtain ⟨S8, u1, u2, u3⟩ := take_n hF hS7 142 (by decide) (x := 142) rfl k3
        rw [u1, bd_some, if_pos rfl, pk_some]
        exact bad f q3 S8 (Or.inr ⟨q1, l, ⟨r1, nop_is n1⟩, Or.inr ⟨k1, Or.inr ⟨q2, r, ⟨r2, nop_is n2⟩, Or.inr ⟨k2, Or.inr ⟨q3, u, ⟨r3, nop_is n3⟩, Or.inl ⟨k3, rfl⟩⟩⟩⟩⟩⟩) u2 ((((e12.tr e34 (by omega)).tr e46 (by omega)).tr e7 (by omega)).tr u3 (by omega))
      obtain ⟨u1, hS8, e8⟩ := take_t hF hS7 142 (by decide) (by decide) (x := 142) rfl k3
      rw [u1, bd_some, if_neg (by decide), add_ok hS8.2.1 (by omega), bd_some]
      have hS9 := hS8.ad (x := -14)
      have e9 := adS_e (S := rx_ui S7 13 5 (nI (q3 + 1))) (c := c + l.length + r.length + 1 + u.length) (x := -14)
      rw [jump_ok hS9.2.1 (by omega), bd_some, pk_let, nI_1]
      have e10 := jm_e (S := adS (rx_ui S7 13 5 (nI (q3 + 1))) (c + l.length + r.length + 1 + u.length) (-14)) (j := c + l.length + r.length) (x := -100 - nI (c + l.length + r.length + 1 + u.length + 1))
      have at10 := jm_at (S := adS (rx_ui S7 13 5 (nI (q3 + 1))) (c + l.length + r.length + 1 + u.length) (-14)) (j := c + l.length + r.length) (x := -100 - nI (c + l.length + r.length + 1 + u.length + 1))
      have hS10 := jm_CS (j := c + l.length + r.length) (x := -100 - nI (c + l.length + r.length + 1 + u.length + 1)) hS9
      have f49 := ((e46.tr e7 (by omega)).tr e8 (by omega)).tr e9 (by omega)
      have f410 := f49.tr e10 (Nat.le_refl _)
      have f10 := (e12.tr e34 (by omega)).tr f410 (by omega)
      refine pk_mono (ih (i + 1) (q3 + 1) (c + l.length + r.length + 1 + u.length + 1) n _ (by omega) hS10 (by omega) (by omega)) (fun x S' h => ?_)
      rcases h with ⟨rfl, q, bs, t, c', hX, hS', hc', hc2, hly, he'⟩ | ⟨rfl, f, q, hX, hf, he'⟩
      · refine Or.inl ⟨rfl, q, (l, r, u) :: bs, t, c', LwX_if hF hs k0 (by omega) x1 x2 x3 r1 (nop_is n1) k1 r2 (nop_is n2) k2 r3 (nop_is n3) k3 hX, hS', by omega, hc2, ⟨lyC_cons ⟨x1, x2, x3⟩ ?_ ?_ ?_ ?_ ?_ (by omega) hly.1, hly.2⟩, f10.tr he' (by omega)⟩
        · exact sgC_eq _ _ g2 (fun j a1 a2 => ((e34.tr f410 (by omega)).tr he' (by omega)).2.2.2.1 j a2)
        · exact sgC_eq _ _ g4 (fun j a1 a2 => (f410.tr he' (by omega)).2.2.2.1 j a2)
        · rw [he'.2.2.2.1 _ (by omega)]
          exact at10.1
        · refine sgC_eq _ _ g7 (fun j a1 a2 => ?_)
          rw [he'.2.2.2.1 j (by omega), at10.2 j (by omega), e9.2.2.2.1 j (by omega), ui_row (by decide)]
        · rw [he'.2.2.2.1 _ (by omega), at10.2 _ (by omega)]
          exact adS_at.1
      · exact bad f q S' (Or.inr ⟨q1, l, ⟨r1, nop_is n1⟩, Or.inr ⟨k1, Or.inr ⟨q2, r, ⟨r2, nop_is n2⟩, Or.inr ⟨k2, Or.inr ⟨q3, u, ⟨r3, nop_is n3⟩, Or.inr ⟨k3, hX⟩⟩⟩⟩⟩⟩) hf (f10.tr he' (by omega))
    · rw [if_neg (show ¬ nI (kK z p) = 140 from fun e => hk ((kk_ne hF hp (k := 140) (by decide)).mp e))]
      exact endC hN hF hS hc hk
end LWC
