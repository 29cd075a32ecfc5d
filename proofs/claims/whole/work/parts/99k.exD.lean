/-! ===== READ 11: the class's sums ===== -/
section EXD
variable {N : Nat} {S : rx_S} {z : tks} {p c : Nat}
theorem cw_op {k : Nat} (h : k = 43 ∨ k = 45 ∨ k = 42 ∨ k = 47) : cw (opc k, 0) = (if k = 43 then -10 else if k = 45 then -11 else if k = 42 then -12 else -13) := by
  rcases h with rfl | rfl | rfl | rfl <;> decide
theorem PC.step {B lv d q r : Nat} {w u : List It} {S0 S1 S2 : rx_S} (hF : tkF z) (h1 : RX z B lv d p q w) (hk : opL lv (kK z q)) (hl : lv = 1 ∨ lv = 2) (hq : q < 400) (h2 : RX z B (lv - 1) d (q + 1) r u) (e1 : Ex (13 - 2 * d + lv) w) (e2 : Ex (13 - 2 * d + (lv - 1)) u) (l1 : w.length + p ≤ q) (l2 : u.length + (q + 1) ≤ r) (s1 : sgC (S1.1 21) c w) (g1 : xeC c S0 S1) (hS2 : CS z r (c + w.length + u.length) S2) (s2 : sgC (S2.1 21) (c + w.length) u) (g2 : xeC (c + w.length) S1 S2) : RX z B lv d p r (w ++ u ++ [(opc (kK z q), 0)]) ∧ Ex (13 - 2 * d + lv) (w ++ u ++ [(opc (kK z q), 0)]) ∧ (w ++ u ++ [(opc (kK z q), 0)]).length + p ≤ r ∧ CS z r (c + (w ++ u ++ [(opc (kK z q), 0)]).length) (adS S2 (c + w.length + u.length) (cw (opc (kK z q), 0))) ∧ sgC ((adS S2 (c + w.length + u.length) (cw (opc (kK z q), 0))).1 21) c (w ++ u ++ [(opc (kK z q), 0)]) ∧ xeC c S0 (adS S2 (c + w.length + u.length) (cw (opc (kK z q), 0))) := by
  have hlen : (w ++ u ++ [(opc (kK z q), 0)]).length = w.length + u.length + 1 := by simp only [List.length_append, List.length_cons, List.length_nil]
  obtain ⟨o1, o2, o3, o4⟩ := opc_fop hk
  have ga := adS_e (S := S2) (c := c + w.length + u.length) (x := cw (opc (kK z q), 0))
  refine ⟨RX_op hF h1 hk hq h2, ?_, by omega, ?_, ?_, (g1.tr g2 (by omega)).tr ga (by omega)⟩
  · rw [show 13 - 2 * d + lv = 13 - 2 * d + (lv - 1) + 1 by omega] at e1 ⊢
    exact Ex.node o2 o3 e1 e2
  · rw [hlen, show c + (w.length + u.length + 1) = c + w.length + u.length + 1 by omega]
    exact hS2.ad
  · rw [sgC_app, sgC_app]
    refine ⟨⟨sgC_eq _ _ s1 (fun j a b => ?_), sgC_eq _ _ s2 (fun j a b => ?_)⟩, ?_, trivial⟩
    · rw [ga.2.2.2.1 j (by omega), g2.2.2.2.1 j (by omega)]
    · rw [ga.2.2.2.1 j (by omega)]
    · rw [List.length_append, ← Nat.add_assoc]
      exact adS_at.1
theorem prodC_L {B d : Nat} {rec : Int32 → rx_S → Option (Int32 × rx_S)} (hF : tkF z) (hu : ∀ (p c : Nat) (S : rx_S), CS z p c S → c ≤ 14 + p → pk (f_X4_readUnit rec N (nI d) S) (PC z B 0 d p c S)) {S0 : rx_S} (hc : c ≤ 14 + p) : ∀ (μ n i q : Nat) (w : List It) (S : rx_S), 401 - q ≤ μ → i ≤ q → 402 ≤ n + q → RX z B 1 d p q w → Ex (13 - 2 * d + 1) w → w.length + p ≤ q → CS z q (c + w.length) S → sgC (S.1 21) c w → xeC c S0 S → pk (f_X4_readProduct_L12 rec N n (nI d) (nI i) S) (PC z B 1 d p c S0) := by
  intro μ
  induction μ with
  | zero =>
    intro n i q w S hμ hi hn hR hE hl hS hg he
    have := hS.2.2.2.1
    have := hF.2.1
    omega
  | succ μ ih =>
    intro n i q w S hμ hi hn hR hE hl hS hg he
    have hq := hS.2.2.2.1
    have hm := hF.2.1
    have ho2 := okK_lt (hF.2.2.1 q hq)
    obtain ⟨n, rfl⟩ : ∃ m, n = m + 1 := ⟨n - 1, by omega⟩
    rw [f_X4_readProduct_L12, if_neg (show ¬ (400 : Int32) < nI i from nI_nlt (a := 400) (by omega) (by decide)), hS.1, kindAt_ok hF hS.2.2.2.2 hq, bd_some, pk_let]
    have body : ∀ (ok : opL 1 (kK z q)), pk (rx_bd (f_X4_take (nI (kK z q)) S) (fun x19 S18 => if x19 = 0 then (some (0, S18)) else (rx_bd (f_X4_readUnit rec N (nI d) S18) (fun x23 S22 => if x23 = 0 then (some (0, S22)) else (rx_let (fun (x26 : Int32) (x27 : Int32) (x28 : Int32) (S29 : rx_S) => rx_bd (f_X2_add 20 x28 S29) (fun x31 S30 => rx_let (x27 + 1) (fun x33 => f_X4_readProduct_L12 rec N n x26 x33 S30))) (fun J83_2 => if nI (kK z q) = 42 then (J83_2 (nI d) (nI i) (-12) S22) else (J83_2 (nI d) (nI i) (-13) S22))))))) (PC z B 1 d p c S0) := by
      intro ok
      rw [take_ok hF hS.2.2.2.2 hS.1 hq (kK z q) (by omega) rfl, if_pos rfl]
      by_cases q4 : q < 400
      · have hq1 : q + 1 < kN z := hF.2.2.2.1 q hq (by rcases ok with ⟨_, h⟩ | ⟨_, h⟩ <;> omega) (by rcases ok with ⟨_, h⟩ | ⟨_, h⟩ <;> omega) q4
        have hG := hS.go hq1
        rw [if_pos q4, bd_some, if_neg (by decide)]
        refine pk_bdm (hu (q + 1) (c + w.length) _ hG (by omega)) (fun r S2 h => ?_)
        rcases h with ⟨rfl, r, u, hR2, _, hE2, hl2, hS2, hg2, he2⟩ | ⟨rfl, f, r, hR2, hf, he2⟩
        · have sg1 : sgC ((rx_ui S 13 5 (nI (q + 1))).1 21) c w := by rw [ui_row (by decide)]; exact hg
          obtain ⟨a1, a2, a3, a4, a5, a6⟩ := PC.step hF hR ok (Or.inl rfl) q4 hR2 hE hE2 hl hl2 sg1 (he.tr (xeC.ui (Or.inl rfl)) (Nat.le_refl c)) hS2 hg2 he2
          have hr := hS2.2.2.2.1
          have go : ∀ x : Int32, x = cw (opc (kK z q), 0) → pk (rx_bd (f_X2_add 20 x S2) (fun x31 S30 => rx_let (nI i + 1) (fun x33 => f_X4_readProduct_L12 rec N n (nI d) x33 S30))) (PC z B 1 d p c S0) := by
            intro x hx
            rw [add_ok hS2.2.1 (by omega), bd_some, pk_let, nI_1, hx]
            exact ih n (i + 1) r _ _ (by omega) (by omega) (by omega) a1 a2 a3 a4 a5 a6
          rw [if_neg (by decide), pk_let]
          by_cases k42 : kK z q = 42
          · rw [if_pos (show nI (kK z q) = 42 from (kk_ne hF hq (k := 42) (by decide)).mpr k42)]
            exact go (-12) (by rw [k42]; decide)
          · rw [if_neg (show ¬ nI (kK z q) = 42 from fun e => k42 ((kk_ne hF hq (k := 42) (by decide)).mp e))]
            exact go (-13) (by
              have : kK z q = 47 := by rcases ok with ⟨_, h⟩ | ⟨h, _⟩ <;> omega
              rw [this]; decide)
        · rw [if_pos rfl, pk_some]
          exact Or.inr ⟨rfl, f, r, RF_op hF hR ok q4 hq1 hR2, hf, (he.tr (xeC.ui (Or.inl rfl)) (Nat.le_refl c)).tr he2 (by omega)⟩
      · rw [if_neg q4, bd_some, if_pos rfl, pk_some]
        exact Or.inr ⟨rfl, 2, q, RF_op4 hF hR ok q4, hS.fl (Or.inr rfl) rfl, he.tr (xeC.ui (Or.inr rfl)) (Nat.le_refl c)⟩
    by_cases k42 : kK z q = 42
    · rw [if_pos (show nI (kK z q) = 42 from (kk_ne hF hq (k := 42) (by decide)).mpr k42)]
      exact body (Or.inl ⟨rfl, Or.inl k42⟩)
    · rw [if_neg (show ¬ nI (kK z q) = 42 from fun e => k42 ((kk_ne hF hq (k := 42) (by decide)).mp e))]
      by_cases k47 : kK z q = 47
      · rw [if_pos (show nI (kK z q) = 47 from (kk_ne hF hq (k := 47) (by decide)).mpr k47)]
        exact body (Or.inl ⟨rfl, Or.inr k47⟩)
      · rw [if_neg (show ¬ nI (kK z q) = 47 from fun e => k47 ((kk_ne hF hq (k := 47) (by decide)).mp e)), pk_some]
        refine Or.inl ⟨rfl, q, w, hR, fun l hl h => ?_, hE, by omega, hS, hg, he⟩
        rcases h with ⟨_, h⟩ | ⟨h, _⟩ <;> omega
theorem prodC {B d : Nat} {rec : Int32 → rx_S → Option (Int32 × rx_S)} (hN : 5000 ≤ N) (hF : tkF z) (hu : ∀ (p c : Nat) (S : rx_S), CS z p c S → c ≤ 14 + p → pk (f_X4_readUnit rec N (nI d) S) (PC z B 0 d p c S)) (hS : CS z p c S) (hc : c ≤ 14 + p) : pk (f_X4_readProduct rec N (nI d) S) (PC z B 1 d p c S) := by
  unfold f_X4_readProduct
  refine pk_bdm (hu p c S hS hc) (fun r S2 h => ?_)
  rcases h with ⟨rfl, q, w, hR, _, hE, hl, hS2, hg, he⟩ | ⟨rfl, f, q, hR, hf, he⟩
  · rw [if_neg (by decide)]
    exact prodC_L hF hu hc 401 N 0 q w S2 (by omega) (by omega) (by omega) (hR.up (by decide)) (hE.le (by omega)) hl hS2 hg he
  · rw [if_pos rfl, pk_some]
    exact Or.inr ⟨rfl, f, q, hR.up, hf, he⟩
theorem sumC_L {B d : Nat} {rec : Int32 → rx_S → Option (Int32 × rx_S)} (hF : tkF z) (hu : ∀ (p c : Nat) (S : rx_S), CS z p c S → c ≤ 14 + p → pk (f_X4_readProduct rec N (nI d) S) (PC z B 1 d p c S)) {S0 : rx_S} (hc : c ≤ 14 + p) : ∀ (μ n i q : Nat) (w : List It) (S : rx_S), 401 - q ≤ μ → i ≤ q → 402 ≤ n + q → RX z B 2 d p q w → Ex (13 - 2 * d + 2) w → w.length + p ≤ q → nop 1 (kK z q) → CS z q (c + w.length) S → sgC (S.1 21) c w → xeC c S0 S → pk (f_X4_readSum1_L12 rec N n (nI d) (nI i) S) (PC z B 2 d p c S0) := by
  intro μ
  induction μ with
  | zero =>
    intro n i q w S hμ hi hn hR hE hl hnp hS hg he
    have := hS.2.2.2.1
    have := hF.2.1
    omega
  | succ μ ih =>
    intro n i q w S hμ hi hn hR hE hl hnp hS hg he
    have hq := hS.2.2.2.1
    have hm := hF.2.1
    have ho2 := okK_lt (hF.2.2.1 q hq)
    obtain ⟨n, rfl⟩ : ∃ m, n = m + 1 := ⟨n - 1, by omega⟩
    rw [f_X4_readSum1_L12, if_neg (show ¬ (400 : Int32) < nI i from nI_nlt (a := 400) (by omega) (by decide)), hS.1, kindAt_ok hF hS.2.2.2.2 hq, bd_some, pk_let]
    have body : ∀ (ok : opL 2 (kK z q)), pk (rx_bd (f_X4_take (nI (kK z q)) S) (fun x19 S18 => if x19 = 0 then (some (0, S18)) else (rx_bd (f_X4_readProduct rec N (nI d) S18) (fun x23 S22 => if x23 = 0 then (some (0, S22)) else (rx_let (fun (x26 : Int32) (x27 : Int32) (x28 : Int32) (S29 : rx_S) => rx_bd (f_X2_add 20 x28 S29) (fun x31 S30 => rx_let (x27 + 1) (fun x33 => f_X4_readSum1_L12 rec N n x26 x33 S30))) (fun J83_2 => if nI (kK z q) = 43 then (J83_2 (nI d) (nI i) (-10) S22) else (J83_2 (nI d) (nI i) (-11) S22))))))) (PC z B 2 d p c S0) := by
      intro ok
      rw [take_ok hF hS.2.2.2.2 hS.1 hq (kK z q) (by omega) rfl, if_pos rfl]
      by_cases q4 : q < 400
      · have hq1 : q + 1 < kN z := hF.2.2.2.1 q hq (by rcases ok with ⟨_, h⟩ | ⟨_, h⟩ <;> omega) (by rcases ok with ⟨_, h⟩ | ⟨_, h⟩ <;> omega) q4
        have hG := hS.go hq1
        rw [if_pos q4, bd_some, if_neg (by decide)]
        refine pk_bdm (hu (q + 1) (c + w.length) _ hG (by omega)) (fun r S2 h => ?_)
        rcases h with ⟨rfl, r, u, hR2, hn2, hE2, hl2, hS2, hg2, he2⟩ | ⟨rfl, f, r, hR2, hf, he2⟩
        · have sg1 : sgC ((rx_ui S 13 5 (nI (q + 1))).1 21) c w := by rw [ui_row (by decide)]; exact hg
          obtain ⟨a1, a2, a3, a4, a5, a6⟩ := PC.step hF hR ok (Or.inr rfl) q4 hR2 hE hE2 hl hl2 sg1 (he.tr (xeC.ui (Or.inl rfl)) (Nat.le_refl c)) hS2 hg2 he2
          have hr := hS2.2.2.2.1
          have go : ∀ x : Int32, x = cw (opc (kK z q), 0) → pk (rx_bd (f_X2_add 20 x S2) (fun x31 S30 => rx_let (nI i + 1) (fun x33 => f_X4_readSum1_L12 rec N n (nI d) x33 S30))) (PC z B 2 d p c S0) := by
            intro x hx
            rw [add_ok hS2.2.1 (by omega), bd_some, pk_let, nI_1, hx]
            exact ih n (i + 1) r _ _ (by omega) (by omega) (by omega) a1 a2 a3 hn2 a4 a5 a6
          rw [if_neg (by decide), pk_let]
          by_cases k43 : kK z q = 43
          · rw [if_pos (show nI (kK z q) = 43 from (kk_ne hF hq (k := 43) (by decide)).mpr k43)]
            exact go (-10) (by rw [k43]; decide)
          · rw [if_neg (show ¬ nI (kK z q) = 43 from fun e => k43 ((kk_ne hF hq (k := 43) (by decide)).mp e))]
            exact go (-11) (by
              have : kK z q = 45 := by rcases ok with ⟨h, _⟩ | ⟨_, h⟩ <;> omega
              rw [this]; decide)
        · rw [if_pos rfl, pk_some]
          exact Or.inr ⟨rfl, f, r, RF_op hF hR ok q4 hq1 hR2, hf, (he.tr (xeC.ui (Or.inl rfl)) (Nat.le_refl c)).tr he2 (by omega)⟩
      · rw [if_neg q4, bd_some, if_pos rfl, pk_some]
        exact Or.inr ⟨rfl, 2, q, RF_op4 hF hR ok q4, hS.fl (Or.inr rfl) rfl, he.tr (xeC.ui (Or.inr rfl)) (Nat.le_refl c)⟩
    by_cases k43 : kK z q = 43
    · rw [if_pos (show nI (kK z q) = 43 from (kk_ne hF hq (k := 43) (by decide)).mpr k43)]
      exact body (Or.inr ⟨rfl, Or.inl k43⟩)
    · rw [if_neg (show ¬ nI (kK z q) = 43 from fun e => k43 ((kk_ne hF hq (k := 43) (by decide)).mp e))]
      by_cases k45 : kK z q = 45
      · rw [if_pos (show nI (kK z q) = 45 from (kk_ne hF hq (k := 45) (by decide)).mpr k45)]
        exact body (Or.inr ⟨rfl, Or.inr k45⟩)
      · rw [if_neg (show ¬ nI (kK z q) = 45 from fun e => k45 ((kk_ne hF hq (k := 45) (by decide)).mp e)), pk_some]
        refine Or.inl ⟨rfl, q, w, hR, fun l hl h => ?_, hE, by omega, hS, hg, he⟩
        by_cases e1 : l ≤ 1
        · exact hnp l e1 h
        · rcases h with ⟨h, _⟩ | ⟨_, h⟩ <;> omega
theorem sum1C {B d : Nat} {rec : Int32 → rx_S → Option (Int32 × rx_S)} (hN : 5000 ≤ N) (hF : tkF z) (hu : ∀ (p c : Nat) (S : rx_S), CS z p c S → c ≤ 14 + p → pk (f_X4_readProduct rec N (nI d) S) (PC z B 1 d p c S)) (hS : CS z p c S) (hc : c ≤ 14 + p) : pk (f_X4_readSum1 rec N (nI d) S) (PC z B 2 d p c S) := by
  unfold f_X4_readSum1
  refine pk_bdm (hu p c S hS hc) (fun r S2 h => ?_)
  rcases h with ⟨rfl, q, w, hR, hn, hE, hl, hS2, hg, he⟩ | ⟨rfl, f, q, hR, hf, he⟩
  · rw [if_neg (by decide)]
    exact sumC_L hF hu hc 401 N 0 q w S2 (by omega) (by omega) (by omega) (hR.up (by decide)) (hE.le (by omega)) hl hn hS2 hg he
  · rw [if_pos rfl, pk_some]
    exact Or.inr ⟨rfl, f, q, hR.up, hf, he⟩
theorem sumC {B : Nat} (hN : 5000 ≤ N) (hF : tkF z) : ∀ (D d p c : Nat) (S : rx_S), d ≤ 6 → 7 ≤ d + D → CS z p c S → c ≤ 14 + p → pk (f_X4_readSum D N (nI d) S) (PC z B 2 d p c S) := by
  intro D
  induction D with
  | zero => intro d p c S h1 h2; omega
  | succ D ih =>
    intro d p c S h1 h2 hS hc
    rw [f_X4_readSum]
    exact sum1C hN hF (fun p c S hS hc => prodC hN hF (fun p c S hS hc => unitC hF h1 (fun hd p c S hS hc => ih (d + 1) p c S (by omega) (by omega) hS hc) hS hc) hS hc) hS hc
theorem exprC {B : Nat} (hN : 5000 ≤ N) (hF : tkF z) (hS : CS z p c S) (hc : c ≤ 14 + p) : pk (f_X4_readSum 8 N 0 S) (PC z B 2 0 p c S) := sumC hN hF 8 0 p c S (by decide) (by decide) hS hc
theorem nop_is {k : Nat} (h : nop 2 k) : ¬ isop k := fun g => by
  rcases g with e | e | e | e
  · exact h 2 (by omega) (Or.inr ⟨rfl, Or.inl e⟩)
  · exact h 2 (by omega) (Or.inr ⟨rfl, Or.inr e⟩)
  · exact h 1 (by omega) (Or.inl ⟨rfl, Or.inl e⟩)
  · exact h 1 (by omega) (Or.inl ⟨rfl, Or.inr e⟩)
end EXD
