/-! ===== READ 28: statement by statement ===== -/
section LOP
variable {N : Nat} {z : tks} {p sd : Nat} {SC SM : rx_S}
theorem stO.r {r : Int32} {SC' SM' : rx_S} (h : stO z sd p SC SM r SC' SM') : r = 0 ∨ r = 1 := by
  rcases h.2.2 with ⟨e, _⟩ | ⟨e, _⟩
  · exact Or.inr e
  · exact Or.inl e
theorem st_fact (hN : 5000 ≤ N) (hF : tkF z) (hR : RD z sd p SC SM) (hl : ¬ (131 ≤ kK z p ∧ kK z p < 138)) : ∃ r SC' SM', f_X4_readFact N (nI (kK z p)) SC = some (r, SC') ∧ f_X11_tellOne N SM = some ((), SM') ∧ stO z sd p SC SM r SC' SM' := by
  have hR' := hR
  obtain ⟨nS, nC, nT, nc, c, b, cm, m, ⟨c1, -⟩, ⟨m1, -⟩, -⟩ := hR'
  have hp := c1.2.2.1
  have ne : ∀ k : Nat, k < 1000 → (nI (kK z p) = nI k ↔ kK z p = k) := fun k hk => kk_ne hF hp hk
  have wrap : ∀ {oC : Option (Int32 × rx_S)}, (∃ r SC' SM', oC = some (r, SC') ∧ f_X11_tellOne N SM = some ((), SM') ∧ stO z sd p SC SM r SC' SM') → ∃ r SC' SM', rx_bd oC (fun x10 S9 => rx_bl x10 (some (x10, S9))) = some (r, SC') ∧ f_X11_tellOne N SM = some ((), SM') ∧ stO z sd p SC SM r SC' SM' := by
    intro oC h
    obtain ⟨r, SC', SM', e1, e2, e3⟩ := h
    refine ⟨r, SC', SM', ?_, e2, e3⟩
    rw [e1, bd_some, rx_bl_in e3.r]
  unfold f_X4_readFact
  simp only [rx_let]
  by_cases k128 : kK z p = 128
  · rw [if_pos (show nI (kK z p) = 128 from (ne 128 (by decide)).mpr k128)]
    exact wrap (st_sp hN hF hR k128)
  rw [if_neg (show ¬ nI (kK z p) = 128 from fun e => k128 ((ne 128 (by decide)).mp e))]
  by_cases k129 : kK z p = 129
  · rw [if_pos (show nI (kK z p) = 129 from (ne 129 (by decide)).mpr k129)]
    exact wrap (st_cp hN hF hR k129)
  rw [if_neg (show ¬ nI (kK z p) = 129 from fun e => k129 ((ne 129 (by decide)).mp e))]
  by_cases k130 : kK z p = 130
  · rw [if_pos (show nI (kK z p) = 130 from (ne 130 (by decide)).mpr k130)]
    exact wrap (st_th hN hF hR k130)
  rw [if_neg (show ¬ nI (kK z p) = 130 from fun e => k130 ((ne 130 (by decide)).mp e)), if_neg (show ¬ nI (kK z p) = 131 from fun e => hl (by have := (ne 131 (by decide)).mp e; omega)), if_neg (show ¬ nI (kK z p) = 132 from fun e => hl (by have := (ne 132 (by decide)).mp e; omega)), if_neg (show ¬ nI (kK z p) = 133 from fun e => hl (by have := (ne 133 (by decide)).mp e; omega)), if_neg (show ¬ nI (kK z p) = 134 from fun e => hl (by have := (ne 134 (by decide)).mp e; omega)), if_neg (show ¬ nI (kK z p) = 135 from fun e => hl (by have := (ne 135 (by decide)).mp e; omega)), if_neg (show ¬ nI (kK z p) = 136 from fun e => hl (by have := (ne 136 (by decide)).mp e; omega)), if_neg (show ¬ nI (kK z p) = 137 from fun e => hl (by have := (ne 137 (by decide)).mp e; omega))]
  by_cases k138 : kK z p = 138
  · rw [if_pos (show nI (kK z p) = 138 from (ne 138 (by decide)).mpr k138)]
    exact wrap (st_fi hF hR k138)
  rw [if_neg (show ¬ nI (kK z p) = 138 from fun e => k138 ((ne 138 (by decide)).mp e))]
  by_cases k139 : kK z p = 139
  · rw [if_pos (show nI (kK z p) = 139 from (ne 139 (by decide)).mpr k139)]
    exact wrap (st_se hF hR k139)
  rw [if_neg (show ¬ nI (kK z p) = 139 from fun e => k139 ((ne 139 (by decide)).mp e))]
  obtain ⟨e1, e2⟩ := t1_bad (N := N) hF m1 ⟨k128, k129, k130, k138, k139⟩ hl
  refine ⟨0, rx_ui SC 13 6 1, flS SM 1 (nI (kP z p)), ?_, e1, kCf.ui (by omega), g1F.fl.rd, Or.inr ⟨rfl, 1, p, ⟨Or.inl rfl, hp, by rw [ui_get, if_pos rfl, if_pos rfl]; rfl, by rw [ui_get, if_pos rfl, if_neg (by decide)]; exact c1.1⟩, e2⟩⟩
  unfold f_X4_refuse
  simp only [rx_let]
  rw [bd_some, rx_bl_in (Or.inl rfl)]
/-- where both readings end -/
def endO (z : tks) (sd : Nat) (SC SM SC' SM' : rx_S) : Prop := kCf SC SC' ∧ rdM sd SM SM' ∧ ((∃ p, RD z sd p SC' SM' ∧ kK z p = 0) ∨ (∃ f q, fC z f q SC' ∧ flt z f q SM'))
theorem rd_L {K123 : rx_S → Option (Int32 × rx_S)} {K134 : rx_S → Option (Int32 × rx_S)} (hN : 5000 ≤ N) (hF : tkF z) : ∀ (μ p n l i : Nat) (SC SM : rx_S), 401 - p ≤ μ → RD z sd p SC SM → i ≤ p → 403 ≤ n + p → 403 ≤ l + p → ∃ SC' SM', f_X4_readTape_L46 N K123 n 1 (nI i) SC = K123 SC' ∧ f_X11_read_L112 N K134 l SM = K134 SM' ∧ endO z sd SC SM SC' SM' := by
  intro μ
  have hm := hF.2.1
  induction μ with
  | zero =>
    intro p n l i SC SM hμ hR
    obtain ⟨nS, nC, nT, nc, c, b, cm, m, ⟨c1, -⟩, -⟩ := hR
    have := c1.2.2.1
    omega
  | succ μ ih =>
    intro p n l i SC SM hμ hR hi hn hl
    have hR' := hR
    obtain ⟨nS, nC, nT, nc, c, b, cm, m, ⟨c1, -⟩, ⟨m1, -⟩, -⟩ := hR'
    have hp := c1.2.2.1
    obtain ⟨n, rfl⟩ : ∃ q, n = q + 1 + 1 := ⟨n - 2, by omega⟩
    obtain ⟨l, rfl⟩ : ∃ q, l = q + 1 + 1 := ⟨l - 2, by omega⟩
    have ho2 := okK_lt (hF.2.2.1 p hp)
    have stop : ∀ (x : Int32) (S : rx_S) (n : Nat), f_X4_readTape_L46 N K123 (n + 1) 0 x S = K123 S := fun x S n => by rw [f_X4_readTape_L46, if_pos rfl]
    rw [f_X4_readTape_L46, if_neg (by decide), if_neg (show ¬ (400 : Int32) < nI i from nI_nlt (a := 400) (by omega) (by decide)), c1.1, kindAt_ok hF c1.2.2.2.1 hp, bd_some, f_X11_read_L112, if_pos m1.2.1, is_ok m1.2.1 m1.1 hF m1.2.2.2.1 hp 0 rfl (x := 0) rfl, bd_some]
    simp only [rx_let, nI_1]
    by_cases k0 : kK z p = 0
    · rw [if_pos k0, if_neg (show ¬ (1 : Int32) = 0 from by decide), if_pos (show nI (kK z p) < 131 from nI_lt (b := 131) (by omega) (by decide)), if_pos (show nI (kK z p) = 0 from (kk_ne hF hp (k := 0) (by decide)).mpr k0), stop]
      exact ⟨SC, SM, rfl, rfl, kCf.rf, rdM.rf, Or.inl ⟨p, hR, k0⟩⟩
    · rw [if_neg k0, if_pos rfl]
      have go : ∀ {oC : Option (Int32 × rx_S)} {G : Int32 → rx_S → Option (Int32 × rx_S)}, (∃ r SC' SM', oC = some (r, SC') ∧ f_X11_tellOne N SM = some ((), SM') ∧ stO z sd p SC SM r SC' SM') → (∀ S, G 0 S = f_X4_readTape_L46 N K123 (n + 1) 0 (nI (i + 1)) S) → (∀ S, G 1 S = f_X4_readTape_L46 N K123 (n + 1) 1 (nI (i + 1)) S) → ∃ SC' SM', rx_bd oC G = K123 SC' ∧ rx_bd (f_X11_tellOne N SM) (fun x50 S49 => f_X11_read_L112 N K134 (l + 1) S49) = K134 SM' ∧ endO z sd SC SM SC' SM' := by
        intro oC G h g0 g1
        obtain ⟨r, SC1, SM1, e1, e2, e3⟩ := h
        rw [e1, bd_some, e2, bd_some]
        obtain ⟨h1, h2, h3⟩ := e3
        rcases h3 with ⟨rfl, q, hq, hR2⟩ | ⟨rfl, f, q, hf, hg⟩
        · rw [g1]
          obtain ⟨SC2, SM2, a1, a2, a3, a4, a5⟩ := ih q (n + 1) (l + 1) (i + 1) SC1 SM1 (by omega) hR2 (by omega) (by omega) (by omega)
          exact ⟨SC2, SM2, a1, a2, h1.tr a3, h2.tr a4, a5⟩
        · rw [g0, stop]
          refine ⟨SC1, SM1, rfl, ?_, h1, h2, Or.inr ⟨f, q, hf, hg⟩⟩
          rw [f_X11_read_L112, if_neg hg.pos.2.1]
      by_cases hlw : 131 ≤ kK z p ∧ kK z p < 138
      · rw [if_neg (show ¬ nI (kK z p) < 131 from nI_nlt (b := 131) hlw.1 (by omega)), if_neg (show ¬ (138 : Int32) ≤ nI (kK z p) from nI_ge (b := 138) hlw.2 (by decide))]
        exact go (st_lw hN hF hR hlw) (fun S => rfl) (fun S => rfl)
      · have hx : ¬ nI (kK z p) = 0 := fun e => k0 ((kk_ne hF hp (k := 0) (by decide)).mp e)
        have fin := go (G := fun x42 S41 => if x42 = 0 then (f_X4_readTape_L46 N K123 (n + 1) 0 (nI (i + 1)) S41) else (f_X4_readTape_L46 N K123 (n + 1) 1 (nI (i + 1)) S41)) (st_fact hN hF hR hlw) (fun S => if_pos rfl) (fun S => if_neg (by decide))
        by_cases k1 : kK z p < 131
        · rw [if_pos (show nI (kK z p) < 131 from nI_lt (b := 131) k1 (by decide)), if_neg hx]
          exact fin
        · rw [if_neg (show ¬ nI (kK z p) < 131 from nI_nlt (b := 131) (by omega) (by omega)), if_pos (show (138 : Int32) ≤ nI (kK z p) from nI_le (a := 138) (by omega) (by omega)), if_neg hx]
          exact fin
end LOP
