
set_option maxHeartbeats 1000000 in
set_option maxRecDepth 100000 in
theorem lw_pre {p : Program} {e : Env} {s : State} {m : MethodId} {below : List Frame} {meth : Method} {c : Code} {l : Launch} {b L : Nat} {xs : Nat → Int32} (C0 : lw_At p s m meth c b L xs) : ∃ (dC : Nat → ClassId) (dI : Nat → Nat → Nat) (cy : Nat → ClassId) (ad0 : Nat → Nat), va_K (dC, dI) rx_cl (rx_tys cy) s ∧ rx_NW s ∧ rx_AOA s ∧ ad0 5000 = b ∧ rx_STR (lw_A s) ad0 s s.heap := by
  obtain ⟨hx, hb, hr, hml, hown, hts, hX, hbl, hlocks, hgv⟩ := id C0
  have hT : ∀ w ∈ rx_T, w.before #[Value.ref b] s = true := fun w hw => hts w (List.mem_filter.mp hw).1
  have hT9 : ∀ w ∈ tables_1, w.before #[Value.ref b] s = true := fun w hw => hts w (List.mem_append_right _ hw)
  obtain ⟨c0, iS0, hKn0⟩ := u_known (C := RX0) (T := TX0) (N := 4) (n := 4) hT iX0 (hT _ (rx_c2 73 rfl rfl))
  obtain ⟨c1, iS1, hKn1⟩ := u_known (C := RX1) (T := TX1) (N := 5) (n := 5) hT iX1 (hT _ (rx_c2 92 rfl rfl))
  obtain ⟨c2, iS2, hKn2⟩ := u_known (C := RX2) (T := TX2) (N := 5) (n := 5) hT iX2 (hT _ (rx_c1 35 rfl rfl))
  obtain ⟨c3, iS3, hKn3⟩ := u_known (C := RX3) (T := TX3) (N := 5) (n := 5) hT iX3 (hT _ (rx_c1 235 rfl rfl))
  obtain ⟨c4, iS4, hKn4⟩ := u_known (C := RX4) (T := TX4) (N := 10) (n := 10) hT iX4 (hT _ (rx_c1 118 rfl rfl))
  obtain ⟨c5, iS5, hKn5⟩ := u_known (C := RX5) (T := TX5) (N := 1) (n := 1) hT iX5 (hT _ (rx_c2 40 rfl rfl))
  obtain ⟨c6, iS6, hKn6⟩ := u_known (C := RX6) (T := TX6) (N := 7) (n := 7) hT iX6 (hT _ (rx_c2 34 rfl rfl))
  obtain ⟨c7, iS7, hKn7⟩ := u_known (C := RX7) (T := TX7) (N := 2) (n := 2) hT iX7 (hT _ (rx_c2 21 rfl rfl))
  obtain ⟨c8, iS8, hKn8⟩ := u_known (C := RX8) (T := TX8) (N := 11) (n := 11) hT iX8 (hT _ (rx_c1 29 rfl rfl))
  obtain ⟨c9, iS9, hKn9⟩ := u_known (C := RX9) (T := TX9) (N := 5) (n := 5) hT iX9 (hT _ (rx_c1 124 rfl rfl))
  obtain ⟨c10, iS10, hKn10⟩ := u_known (C := RX10) (T := TX10) (N := 11) (n := 11) hT iX10 (hT _ (rx_c1 21 rfl rfl))
  obtain ⟨c11, iS11, hKn11⟩ := u_known (C := RX11) (T := TX11) (N := 68) (n := 68) hT iX11 (hT _ (rx_c5 118 rfl rfl))
  obtain ⟨cB, hB1, hB2⟩ := rx_arr (hT _ (rx_c1 56 rfl rfl))
  obtain ⟨cI, hI1, hI2⟩ := rx_arr (hT _ (rx_c1 57 rfl rfl))
  obtain ⟨cJ, hJ1, hJ2⟩ := rx_arr (hT _ (rx_c1 198 rfl rfl))
  obtain ⟨cZ, hZ1, hZ2⟩ := rx_arr (hT _ (rx_c2 19 rfl rfl))
  have hO : rx_AOA s := by
    have h9 := hT9 _ (rx_d2 1 rfl)
    exact h9
  obtain ⟨cG, kG, compG, hG1, hG2, hG3⟩ := rx_AOA_spec hO
  have hGA : ArrOfT s cG (.array .int) := fun n z => ⟨fun k h => (by cases h), kG, hG2, compG, hG3⟩
  obtain ⟨dC, dI, hKc⟩ : ∃ (dC : Nat → ClassId) (dI : Nat → Nat → Nat), ∀ (k : Nat) (q : vw_C), rx_cl[k]? = some q → u_Kn s q.1 q.2.1 q.2.2 (dC k) (dI k) := by
    refine ⟨fun k => if k = 0 then c0 else if k = 1 then c1 else if k = 2 then c2 else if k = 3 then c3 else if k = 4 then c4 else if k = 5 then c5 else if k = 6 then c6 else if k = 7 then c7 else if k = 8 then c8 else if k = 9 then c9 else if k = 10 then c10 else c11, fun k => if k = 0 then iS0 else if k = 1 then iS1 else if k = 2 then iS2 else if k = 3 then iS3 else if k = 4 then iS4 else if k = 5 then iS5 else if k = 6 then iS6 else if k = 7 then iS7 else if k = 8 then iS8 else if k = 9 then iS9 else if k = 10 then iS10 else iS11, ?_⟩
    intro k q hq
    match k, hq with
    | 0, hq => cases hq; exact hKn0
    | 1, hq => cases hq; exact hKn1
    | 2, hq => cases hq; exact hKn2
    | 3, hq => cases hq; exact hKn3
    | 4, hq => cases hq; exact hKn4
    | 5, hq => cases hq; exact hKn5
    | 6, hq => cases hq; exact hKn6
    | 7, hq => cases hq; exact hKn7
    | 8, hq => cases hq; exact hKn8
    | 9, hq => cases hq; exact hKn9
    | 10, hq => cases hq; exact hKn10
    | 11, hq => cases hq; exact hKn11
    | k + 12, hq => simp [rx_cl] at hq
  obtain ⟨cy, y0, y1, y2, y3, y4⟩ : ∃ cy : Nat → ClassId, cy 0 = cB ∧ cy 1 = cI ∧ cy 2 = cJ ∧ cy 3 = cZ ∧ cy 4 = cG := ⟨fun k => if k = 0 then cB else if k = 1 then cI else if k = 2 then cJ else if k = 3 then cZ else cG, rfl, rfl, rfl, rfl, rfl⟩
  have hK : va_K (dC, dI) rx_cl (rx_tys cy) s := by
    refine ⟨hKc, fun k q hq => ?_⟩
    unfold rx_tys at hq
    rw [y0, y1, y2, y3, y4] at hq
    match k, hq with
    | 0, hq => cases hq; exact ⟨hB1, hB2⟩
    | 1, hq => cases hq; exact ⟨hI1, hI2⟩
    | 2, hq => cases hq; exact ⟨hJ1, hJ2⟩
    | 3, hq => cases hq; exact ⟨hZ1, hZ2⟩
    | 4, hq => cases hq; exact ⟨hGA, hG1⟩
    | k + 5, hq => simp at hq
  have hN : rx_NW s := ⟨fun a i b n d h hm => va_Nw.of rfl (hT9 _ hm), fun a i x h hm => va_Nw.of rfl (hT9 _ hm)⟩
  have hg9 : ∀ w ∈ rx_gn, w.before #[Value.ref b] s = true := flat_of_before _ hgv
  have hAn : ∀ a : Nat, a < s.heap.size → ¬ lw_A s a := fun a ha h => by unfold lw_A at h; omega
  obtain ⟨adK, adV, hVS, hVR⟩ := vk_Sof (args := #[Value.ref b]) (s := s) (N := 2) (tm := rx_tm) (len := rx_len) (byt := rx_byt) (A := lw_A s) (by decide) (fun i hi => hg9 _ (rx_g1 i hi)) (fun i hi => hg9 _ (rx_g2 i hi)) (fun i hi => hg9 _ (rx_g3 i hi)) (fun i hi => hg9 _ (rx_g4 i hi)) (fun i hi j hj => hg9 _ (rx_g5 i hi j hj)) (fun i j hi hj hij => (rx_g6 i hi j hj hij).imp (hg9 _) (hg9 _)) hAn
  have hR0 : vk_R RX9 25 (rx_txt.getD 0 "") (adK 0) s := vk_R.of (A := #[Value.ref b]) (hT9 _ (rx_d1 129 rfl)) (hVR 0 (by decide))
  have hR1 : vk_R RX9 79 (rx_txt.getD 1 "") (adK 1) s := vk_R.of (A := #[Value.ref b]) (hT9 _ (rx_d2 225 rfl)) (hVR 1 (by decide))
  have hZc : va_Z "java/lang/String" "COMPACT_STRINGS" "Z" (.int 1) (lw_A s) s s.heap := va_Zof (args := #[Value.ref b]) (hT9 _ (rx_d1 139 rfl)) (hT _ (rx_c1 6 rfl rfl)) (va_eqi (hg9 _ rx_g7.1)) hAn
  have hZf := va_Zqof (args := #[Value.ref b]) (A := lw_A s) (hT9 _ (rx_d1 155 rfl)) (hT _ (rx_c1 8 rfl rfl)) (hg9 _ rx_g7.2) hAn
  obtain ⟨ad0, z1, z2, z3, z4, hSt0⟩ : ∃ ad0 : Nat → Nat, (∀ i, i < 2 → ad0 (1000 + i) = adK i) ∧ (∀ i, i < 2 → ad0 (2000 + i) = adV i) ∧ ad0 5000 = b ∧ True ∧ rx_STR (lw_A s) ad0 s s.heap := by
    have mk : ∀ (fm : Nat) (v : Value), (v = .null ∨ v = .ref 3000) → (∀ ad : Nat → Nat, ad 3000 = fm → va_Z "jdk/internal/util/Preconditions" "SIOOBE_FORMATTER" "Ljava/util/function/BiFunction;" (rx_cv ad v) (lw_A s) s s.heap) → ∃ ad0 : Nat → Nat, (∀ i, i < 2 → ad0 (1000 + i) = adK i) ∧ (∀ i, i < 2 → ad0 (2000 + i) = adV i) ∧ ad0 5000 = b ∧ True ∧ rx_STR (lw_A s) ad0 s s.heap := by
      intro fm v hv hZ
      refine ⟨fun k => if k = 5000 then b else if k = 3000 then fm else if k < 2000 then adK (k - 1000) else adV (k - 2000), ?_, ?_, rfl, trivial, ?_, ?_, ?_, hZc, v, hv, hZ _ rfl⟩
      · intro i hi
        show (if 1000 + i = 5000 then b else if 1000 + i = 3000 then fm else if 1000 + i < 2000 then adK (1000 + i - 1000) else adV (1000 + i - 2000)) = _
        rw [if_neg (by omega), if_neg (by omega), if_pos (by omega), show 1000 + i - 1000 = i by omega]
      · intro i hi
        show (if 2000 + i = 5000 then b else if 2000 + i = 3000 then fm else if 2000 + i < 2000 then adK (2000 + i - 1000) else adV (2000 + i - 2000)) = _
        rw [if_neg (by omega), if_neg (by omega), if_neg (by omega), show 2000 + i - 2000 = i by omega]
      · refine ⟨fun i hi => ?_, fun i j hi hj hij => ?_⟩
        · have e1 : (if 1000 + i = 5000 then b else if 1000 + i = 3000 then fm else if 1000 + i < 2000 then adK (1000 + i - 1000) else adV (1000 + i - 2000)) = adK i := by rw [if_neg (by omega), if_neg (by omega), if_pos (by omega), show 1000 + i - 1000 = i by omega]
          have e2 : (if 2000 + i = 5000 then b else if 2000 + i = 3000 then fm else if 2000 + i < 2000 then adK (2000 + i - 1000) else adV (2000 + i - 2000)) = adV i := by rw [if_neg (by omega), if_neg (by omega), if_neg (by omega), show 2000 + i - 2000 = i by omega]
          have h9 := hVS.1 i hi
          dsimp only
          rw [e1, e2]
          exact h9
        · have f : ∀ i, i < 2 → (if 1000 + i = 5000 then b else if 1000 + i = 3000 then fm else if 1000 + i < 2000 then adK (1000 + i - 1000) else adV (1000 + i - 2000)) = adK i := fun i hi => by rw [if_neg (by omega), if_neg (by omega), if_pos (by omega), show 1000 + i - 1000 = i by omega]
          dsimp only at hij
          rw [f i hi, f j hj] at hij
          exact hVS.2 i j hi hj hij
      · exact hR0
      · exact hR1
    rcases hZf with h | ⟨t, h⟩
    · exact mk 0 .null (Or.inl rfl) (fun ad _ => h)
    · exact mk t (.ref 3000) (Or.inr rfl) (fun ad e9 => by simp only [rx_cv]; rw [e9]; exact h)
  exact ⟨dC, dI, cy, ad0, hK, hN, hO, z3, hSt0⟩

