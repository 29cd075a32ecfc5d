/-! ===== READ 32: the reference's cut, whole ===== -/
section TOKG
variable {N len : Nat} {b : Nat → Nat}
def cutQ (b : Nat → Nat) (len : Nat) (S S' : rx_S) : Prop := ctM S S' ∧ ∀ k, k ≤ 400 → (∀ l, l < k → tkd b len (tpl b len l) ≠ 0) → tkwM b len k S'
def ctK : rx_S → Option (Unit × rx_S) := fun S3 => rx_bd (f_X11_token 0 (S3.1 94 4) 0 (0 : Int64) S3) (fun x5 S4 => some ((), S4))
theorem kM_kw : ∀ k, k < 24 → kM (128 + k) = 20 + k := by decide
theorem bl_in {i j : Nat} (h1 : tps b len j ≤ i) (h2 : i < tpl b len j) : qBl (b i) = true := spn_in (q := fun j => qBl (b j)) _ _ i h1 h2
theorem bl_out {j : Nat} (h : tpl b len j < len) : qBl (b (tpl b len j)) = false := by
  have := tps_le (b := b) (len := len) j
  exact spn_out (q := fun j => qBl (b j)) (len - tps b len j) (tps b len j) (by unfold tpl bls at h; omega)
theorem cutM_L (hN : 5000 ≤ N) : ∀ (μ i j n : Nat) (S : rx_S), len + 1 - i ≤ μ → i ≤ len → inM len b S → S.2 101 = zM.2 101 → S.1 94 10 = nI j → j ≤ 401 → tps b len j ≤ i → i ≤ tpl b len j → (∀ k, k < j → tkwM b len k S) → (∀ k, k < j → tkd b len (tpl b len k) ≠ 0) → μ < n → pk (f_X11_cut_L7 N ctK n (nI i) S) (fun _ S' => cutQ b len S S') := by
  intro μ
  induction μ with
  | zero => intro i j n S h1 h2; omega
  | succ μ ih =>
    intro i j n S hμ hi hM h101 h10 hj hp1 hp2 hw hk0 hn
    obtain ⟨n, rfl⟩ : ∃ q, n = q + 1 := ⟨n - 1, by omega⟩
    have hl := hM.1
    rw [f_X11_cut_L7, h10]
    by_cases j4 : 400 < j
    · rw [if_pos (show (400 : Int32) < nI j from nI_lt (a := 400) j4 (by omega)), pk_some]
      exact ⟨ctM.rf, fun k hk _ => hw k (by omega)⟩
    rw [if_neg (show ¬ (400 : Int32) < nI j from nI_nlt (a := 400) (by omega) (by decide)), byM hM (by omega), bd_some, hM.2.1]
    by_cases hil : i < len
    · have h1 := (hM.2.2 i hil).1
      have bd := bx_dec (b i) h1
      rw [if_pos (nI_lt hil (by omega)), if_pos hil]
      by_cases hb : i < tpl b len j
      · have q := bl_in hp1 hb
        have nx := ih (i + 1) j n S (by omega) (by omega) hM h101 h10 hj (by omega) (by omega) hw hk0 (by omega)
        have q' := bd.2.2.2.2.1.mp q
        by_cases e1 : nI (b i) = 9
        · rw [if_pos e1, pk_let, nI_1]; exact nx
        rw [if_neg e1]
        by_cases e2 : nI (b i) = 10
        · rw [if_pos e2, pk_let, nI_1]; exact nx
        rw [if_neg e2]
        by_cases e3 : nI (b i) = 13
        · rw [if_pos e3, pk_let, nI_1]; exact nx
        rw [if_neg e3]
        by_cases e4 : nI (b i) = 32
        · rw [if_pos e4, pk_let, nI_1]; exact nx
        rcases q' with e | e | e | e
        · exact absurd e e1
        · exact absurd e e2
        · exact absurd e e3
        · exact absurd e e4
      · have ei : i = tpl b len j := by omega
        have nb : ¬ qBl (b i) = true := by
          rw [ei, bl_out (by omega)]
          decide
        have nb' := fun q => nb (bd.2.2.2.2.1.mpr q)
        rw [if_neg (fun e => nb' (Or.inl e)), if_neg (fun e => nb' (Or.inr (Or.inl e))), if_neg (fun e => nb' (Or.inr (Or.inr (Or.inl e)))), if_neg (fun e => nb' (Or.inr (Or.inr (Or.inr e)))), leM h1, bd_some]
        obtain ⟨l1, l2, l3⟩ := tln_le (b := b) hil
        have etps : tps b len (j + 1) = tkE b len i := by rw [tps, ei]; rfl
        have hpl1 := (bls_le (b := b) (tps_le (b := b) (len := len) (j + 1))).1
        have hkd : tkd b len i = (if qLe (b i) = true then (if 8 < tln b len i then 1 else kwO (ff (kwp (wdg b i) (tln b len i)) 24 0)) else if qDi (b i) = true then (if 4 < tln b len i then 1 else 3) else if sgn (b i) = true then b i else 1) := if_pos hil
        -- a token is put, and it goes on
        have go : ∀ (x w : Int32) (v : Int64) (y : Nat), x = nI (kM (tkd b len i)) → tkd b len i ≠ 0 → (tkd b len i = 3 → w = nI (nuD b i (tln b len i))) → (tkd b len i = 2 → v = Int64.ofNat (en 27 (wdg b i) (tln b len i))) → y = tkE b len i → pk (f_X11_cut_L7 N ctK n (nI y) (tkS S j x (nI i) w v)) (fun _ S' => cutQ b len S S') := by
          intro x w v y hx h0 h3 h2 hy
          have F := tkS_F (S := S) (j := j) (x := x) (y := nI i) (w := w) (v := v)
          have W := tkS_w (S := S) (b := b) (len := len) (j := j) (x := x) (w := w) (v := v) hw (by rw [← ei]; exact hx) (by rw [← ei]; exact h3) (by rw [← ei]; exact h2)
          rw [← ei] at W
          refine pk_mono (ih y (j + 1) n _ (by omega) (by omega) (hM.eq F) ((F.2.2 101 (by decide)).trans h101) tkS_r.2.2.2.2 (by omega) (by omega) (by rw [hy, ← etps]; exact hpl1) W (fun k hk => ?_) (by omega)) (fun _ S' g => ⟨F.tr g.1, g.2⟩)
          by_cases e : k = j
          · rw [e, ← ei]; exact h0
          · exact hk0 k (by omega)
        by_cases qL : qLe (b i) = true
        · rw [if_pos qL, if_neg (by decide), pk_let]
          rw [if_pos qL] at hkd
          have L85 := fun K => ck85_L (N := N) (S := S) hM (i := i) (n := tln b len i) (by omega) (fun k a1 a2 => (tk_le hil qL).1 k a1 (by omega)) (fun q => by rw [l2] at q ⊢; exact (tk_le hil qL).2 q) (K := K) (tln b len i) N 0 (by omega) (by omega)
          have L85' := fun K => (show f_X11_cut_L85 N K N (nI i) 0 (0 : Int64) S = _ from L85 K)
          rw [L85']
          rw [pk_let]
          by_cases q8 : 8 < tln b len i
          · rw [if_pos q8] at hkd
            rw [if_neg (show ¬ nI (tln b len i) ≤ 8 from nI_ge (a := 8) q8 (by omega)), pk_let, if_pos (show (8 : Int32) < nI (tln b len i) from nI_lt (a := 8) q8 (by omega))]
            dsimp only
            rw [token_ok h10 (by omega), bd_some, pk_let, nI_add]
            exact go 3 0 _ _ (by rw [hkd]; rfl) (by rw [hkd]; decide) (fun e => by rw [hkd] at e; cases e) (fun e => by rw [hkd] at e; cases e) l2
          · rw [if_neg q8] at hkd
            have hw' := wdg_ok (b := b) (i := i) (n := tln b len i) (fun k a1 a2 => ⟨(hM.2.2 k (by omega)).1, (tk_le hil qL).1 k a1 (by omega)⟩)
            have m8 : min (tln b len i) 8 = tln b len i := by omega
            rw [if_pos (show nI (tln b len i) ≤ 8 from nI_le (b := 8) (by omega) (by decide)), pk_let, if_neg (show ¬ (8 : Int32) < nI (tln b len i) from nI_nlt (a := 8) (by omega) (by decide)), m8]
            have L146 := fun K => ck146_L (N := N) (S := S) h101 (w := wdg b i) (n := tln b len i) (x := nI i) (y := nI (tln b len i)) (by omega) hw' (K := K) 24 N 0 1 (by omega) (by omega)
            have L146' := fun K => (show f_X11_cut_L146 N K N (nI i) (nI (tln b len i)) (Int64.ofNat (en 27 (wdg b i) (tln b len i))) 1 0 S = _ from L146 K)
            rw [L146', token_ok h10 (by omega), bd_some, pk_let, nI_add]
            refine go _ 0 _ _ ?_ ?_ (fun e => ?_) (fun e => rfl) l2
            · rw [hkd]
              cases hff : ff (kwp (wdg b i) (tln b len i)) 24 0 with
              | none => rfl
              | some k =>
                have := (ff_lt hff).1
                show nI (20 + k) = nI (kM (128 + k))
                rw [kM_kw k this]
            · rw [hkd]
              cases ff (kwp (wdg b i) (tln b len i)) 24 0 with
              | none => exact (by decide : (2 : Nat) ≠ 0)
              | some k => show 128 + k ≠ 0; omega
            · rw [hkd] at e
              cases hff : ff (kwp (wdg b i) (tln b len i)) 24 0 with
              | none => rw [hff] at e; cases e
              | some k =>
                rw [hff] at e
                have e : 128 + k = 3 := e
                omega
        · rw [if_neg qL, if_pos rfl, diM h1, bd_some]
          rw [if_neg qL] at hkd
          by_cases qD : qDi (b i) = true
          · rw [if_pos qD, if_neg (by decide), pk_let]
            rw [if_pos qD] at hkd
            have L208 := fun K => ck208_L (N := N) (S := S) hM (i := i) (n := tln b len i) (by omega) (fun k a1 a2 => (tk_di hil qL qD).1 k a1 (by omega)) (fun q => by rw [l2] at q ⊢; exact (tk_di hil qL qD).2 q) (K := K) (tln b len i) N 0 (by omega) (by omega)
            have L208' := fun K => (show f_X11_cut_L208 N K N (nI i) 0 0 S = _ from L208 K)
            rw [L208']
            rw [pk_let]
            by_cases q4 : 4 < tln b len i
            · rw [if_pos q4] at hkd
              rw [if_neg (show ¬ nI (tln b len i) ≤ 4 from nI_ge (a := 4) q4 (by omega))]
              dsimp only
              rw [token_ok h10 (by omega), bd_some, pk_let, nI_add]
              exact go 3 _ 0 _ (by rw [hkd]; rfl) (by rw [hkd]; decide) (fun e => by rw [hkd] at e; cases e) (fun e => by rw [hkd] at e; cases e) l2
            · rw [if_neg q4] at hkd
              have m4 : min (tln b len i) 4 = tln b len i := by omega
              rw [if_pos (show nI (tln b len i) ≤ 4 from nI_le (b := 4) (by omega) (by decide))]
              dsimp only
              rw [token_ok h10 (by omega), bd_some, pk_let, nI_add, m4]
              exact go 2 _ 0 _ (by rw [hkd]; rfl) (by rw [hkd]; decide) (fun _ => rfl) (fun e => by rw [hkd] at e; cases e) l2
          · rw [if_neg qD, if_pos rfl, nI_1, byM hM (by omega), bd_some, sign_ok h1 h10 (by omega), bd_some, pk_let, nI_1]
            rw [if_neg qD] at hkd
            have hne : tkd b len i ≠ 0 ∧ tkd b len i ≠ 2 ∧ tkd b len i ≠ 3 := by
              rw [hkd]
              by_cases qs : sgn (b i) = true
              · rw [if_pos qs]
                refine ⟨?_, ?_, ?_⟩ <;> (intro e; rw [e] at qs; exact absurd qs (by decide))
              · rw [if_neg qs]
                decide
            exact go _ 0 0 _ (by rw [hkd]) hne.1 (fun e => absurd e hne.2.2) (fun e => absurd e hne.2.1) (tk_sg hil qL qD).symm
    · have ei : i = len := by omega
      have epl : tpl b len j = len := by have := tpl_le (b := b) (len := len) j; omega
      rw [if_neg (show ¬ nI i < nI len from nI_nlt (by omega) (by omega))]
      unfold ctK
      rw [hM.2.1, token_ok h10 (by omega), bd_some, pk_some]
      have hk : tkd b len (tpl b len j) = 0 := by
        unfold tkd
        rw [if_neg (by omega)]
      have W := tkS_w (S := S) (b := b) (len := len) (j := j) (x := 0) (w := 0) (v := 0) hw (by rw [hk]; rfl) (fun e => by omega) (fun e => by omega)
      rw [epl] at W
      refine ⟨tkS_F, fun k _ hall => ?_⟩
      by_cases e : k < j + 1
      · exact W k e
      · exact absurd hk (hall j (by omega))
theorem cutM (hN : 5000 ≤ N) {S : rx_S} (hM : inM len b S) (h101 : S.2 101 = zM.2 101) : pk (f_X11_cut N S) (fun _ S' => cutQ b len S S') := by
  have hl := hM.1
  have F : ctM S (rx_ui S 94 10 0) := ⟨fun r q1 _ _ _ => ui_row q1, fun k hk => by rw [ui_get, if_pos rfl, if_neg hk], fun _ _ => rfl⟩
  have e : f_X11_cut N S = f_X11_cut_L7 N ctK N (nI 0) (rx_ui S 94 10 0) := rfl
  rw [e]
  exact pk_mono (cutM_L hN (len + 1) 0 0 N _ (by omega) (by omega) (hM.eq F) h101 (by rw [ui_get, if_pos rfl, if_pos rfl]; rfl) (by omega) (Nat.le_refl _) (Nat.zero_le _) (fun k hk => by omega) (fun k hk => by omega) (by omega)) (fun _ S' g => ⟨F.tr g.1, g.2⟩)
end TOKG
