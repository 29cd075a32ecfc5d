
set_option maxRecDepth 100000 in
theorem lw_st3 {p : Program} {e : Env} {s : State} {m : MethodId} {below : List Frame} {meth : Method} {c : Code} {l : Launch} {b L : Nat} {xs : Nat → Int32} {D : va_G} {cy : Nat → ClassId} (hL3 : L ≤ 3072) (C0 : lw_At p s m meth c b L xs) {N : Nat} {Inv : Nat → rx_S → rx_S → Prop} {zC0 zM0 : rx_S} (h0 : Inv 0 zC0 zM0) (hst : LawStep N Inv) (hskip : ∀ n SC SM, n < 512 → Inv n SC SM → Inv (n + 1) SC SM) (hK : va_K D rx_cl (rx_tys cy) s) (hN : rx_NW s) {ad2 : Nat → Nat} {q0 q1 n0 n1 : Nat} {H : Heap} {locs : List Loc} {ls : Array Slot} (e5 : ad2 5000 = b) (e0' : ad2 0 = q0) (e94'' : ad2 94 = q1) (hSt2 : rx_STR (lw_A s) ad2 s s.heap) (hP : va_P D rx_cl (rx_w gC cy ad2 zC0 ++ rx_w gM cy ad2 zM0) H) (hD : va_D (lw_A s) (rx_w gC cy ad2 zC0 ++ rx_w gM cy ad2 zM0)) (hS : va_S (lw_A s) s.heap H locs) (hl : lv_has ls 4 [(1, .ref q0), (0, .ref b)]) (hn0 : n0 ≤ 600000) (hn1 : n1 ≤ 7302250) : W p l e room_1 s m #[Value.ref b] below meth c H locs n0 n1 (lw_Z below #[Value.ref b] s) (F0 m 15 ls [.ref q1]) := by
  obtain ⟨hx, hb, hr, hml, hown, hts, hX, hbl, hlocks, hgv⟩ := id C0
  have key : ∀ k, k < 139 → ∃ j e9, (rx_w gC cy ad2 zC0 ++ rx_w gM cy ad2 zM0)[j]? = some (ad2 k, e9) ∧ j = k := by
    intro k hk
    have lC : (rx_w gC cy ad2 zC0).length = 94 := by simp [rx_w, gC]
    by_cases h : k < 94
    · have hg9 := rx_w_get (G := gC) (cy := cy) (ad := ad2) (S := zC0) (k := k) (x := rx_desc k) ⟨⟨Nat.zero_le _, by show k < 0 + 94; omega⟩, rfl⟩
      exact ⟨k, _, by rw [List.getElem?_append_left (by omega)]; exact hg9, rfl⟩
    · have hg9 := rx_w_get (G := gM) (cy := cy) (ad := ad2) (S := zM0) (k := k) (x := rx_desc k) ⟨⟨by show 94 ≤ k; omega, by show k < 94 + 45; omega⟩, rfl⟩
      exact ⟨k, _, by rw [List.getElem?_append_right (by omega), lC]; exact hg9, rfl⟩
  have hLD : lw_D ad2 s := by
    refine ⟨fun k hk => ?_, fun j k hj hk hjk => ?_⟩
    · obtain ⟨i, e9, h9, -⟩ := key k hk
      exact hD.2 i _ h9
    · obtain ⟨i1, f1, h1, r1⟩ := key j hj
      obtain ⟨i2, f2, h2, r2⟩ := key k hk
      have := hD.1 i1 i2 _ _ h1 h2 hjk
      omega
  have hC : lw_C p s m meth c b L xs D cy ad2 := ⟨C0, hK, hN, hSt2, hLD, e5⟩
  refine lv_astore_n (lv' := [(2, .ref q1), (1, .ref q0), (0, .ref b)]) hx hb dL_law_15 rfl hl (by decide) rfl (fun ls hl => ?_)
  refine lv_iconst (v := 0) hx hb dL_law_16 (by decide) ?_
  refine lv_istore_n (lv' := [(3, .int 0), (2, .ref q1), (1, .ref q0), (0, .ref b)]) hx hb dL_law_17 rfl hl (by decide) rfl (fun ls hl => ?_)
  refine W.widen (k := 600000) (n := 7302250) hn0 hn1 ?_
  have hJ : lw_J gC gM D cy ad2 s H locs zC0 zM0 := ⟨fun k z hz => hP k z (by rw [List.getElem?_append_left ((List.getElem?_eq_some_iff.mp hz).1)]; exact hz), fun k z hz => hP ((rx_w gC cy ad2 zC0).length + k) z (by rw [List.getElem?_append_right (by omega)]; rw [show (rx_w gC cy ad2 zC0).length + k - (rx_w gC cy ad2 zC0).length = k by omega]; exact hz), hS⟩
  have hlh : rx_lh ad2 ls 4 [some (.ref 5000), some (.ref 0), some (.ref 94), some (.int (nI 0))] := by
    refine ⟨hl.1, hl.2.1, fun i v hv => ?_⟩
    match i, hv with
    | 0, hv => cases hv; simp only [rx_cv]; rw [e5]; exact lv_at hl 3 rfl
    | 1, hv => cases hv; simp only [rx_cv]; rw [e0']; exact lv_at hl 2 rfl
    | 2, hv => cases hv; simp only [rx_cv]; rw [e94'']; exact lv_at hl 1 rfl
    | 3, hv => cases hv; exact lv_at hl 0 rfl
    | i + 4, hv => simp at hv
  exact lw_loop hC hL3 hst hskip (L + 6) 0 0 zC0 zM0 rfl (by omega) (by omega) h0 H locs ls hJ hlh
set_option maxRecDepth 100000 in
theorem lw_st2 {p : Program} {e : Env} {s : State} {m : MethodId} {below : List Frame} {meth : Method} {c : Code} {l : Launch} {b L : Nat} {xs : Nat → Int32} {dC : Nat → ClassId} {dI : Nat → Nat → Nat} {cy : Nat → ClassId} (C0 : lw_At p s m meth c b L xs) {zC0 zM0 : rx_S} {Q : State → Prop} (hK : va_K (dC, dI) rx_cl (rx_tys cy) s) (hN : rx_NW s) (hO : rx_AOA s) (h11 : CT 94 [(11, 0, dfM)] 100 mX11_init [.ref 94] rx_S0 44 11558 (fun E2 S2 => E2 = e45 ∧ S2 = zM0)) {ad1 : Nat → Nat} {n0 n1 : Nat} {H : Heap} {locs : List Loc} {ls : Array Slot} (hSt1 : rx_STR (lw_A s) ad1 s s.heap) (hP : va_P (dC, dI) rx_cl (rx_w gC cy ad1 zC0) H) (hD : va_D (lw_A s) (rx_w gC cy ad1 zC0)) (hS : va_S (lw_A s) s.heap H locs) (hls : ls.size = 4) (hn0 : n0 + 1 + 44 ≤ 600000) (hn1 : n1 + 68 + 11558 ≤ 7302250)
    (kk : ∀ (q1 : Nat) (ad2 : Nat → Nat) (H2 : Heap) (locs2 : List Loc), rx_ag 94 ad1 ad2 → ad2 94 = q1 → va_P (dC, dI) rx_cl (rx_w gC cy ad2 zC0 ++ rx_w gM cy ad2 zM0) H2 → va_D (lw_A s) (rx_w gC cy ad2 zC0 ++ rx_w gM cy ad2 zM0) → va_S (lw_A s) s.heap H2 locs2 → W p l e room_1 s m #[Value.ref b] below meth c H2 locs2 (n0 + 1 + 44) (n1 + 68 + 11558) Q (F0 m 15 ls [.ref q1])) : W p l e room_1 s m #[Value.ref b] below meth c H locs n0 n1 Q (F0 m 8 ls []) := by
  obtain ⟨hx, hb, hr, hml, hown, hts, hX, hbl, hlocks, hgv⟩ := id C0
  have hT : ∀ w ∈ rx_T, w.before #[Value.ref b] s = true := fun w hw => hts w (List.mem_filter.mp hw).1
  have hA : ∀ q : Nat, s.heap.size ≤ q → lw_A s q := fun _ h => h
  refine va_new (ci := 11) (fs := fsM) (C := RX11) (T := TX11) (N := 68) hx hb hT iX11 tyX11 tyX11_ok hown (hT _ (rx_c5 117 rfl rfl)) (hT _ (rx_c5 118 rfl rfl)) (hT _ (rx_c1 16 rfl rfl)) hK hP hD hS hA rfl lw_f11 (Nat.le_trans (Nat.le_add_right _ _) hn0) (Nat.le_trans (Nat.le_add_right _ _) hn1) dL_law_8 (fun q1 H hP hD hS => ?_)
  have g2 : rx_ag 94 ad1 (va_up ad1 94 q1) := fun k hk => by
    have : k ≠ 94 := by omega
    simp [va_up, this]
  rw [lw_w1 (cy := cy) (b := 94) lw_mM lw_dM (by decide) q1 ad1] at hP hD
  have hw6 : rx_w gC cy ad1 zC0 = rx_w gC cy (va_up ad1 94 q1) zC0 := by
    have h9 := rx_ag_w (b := 0) (E := e94) (cy := cy) (S := zC0) (S' := zC0) g2 (by decide) (by decide +kernel) (fun _ _ _ => ⟨rfl, rfl⟩)
    rw [rx_wn_w (b := 0) (N := 94) e94_ok, rx_wn_w (b := 0) (N := 94) e94_ok] at h9
    exact h9.symm
  refine lv_dup hx hb dL_law_11 rfl ?_
  have e94' : va_up ad1 94 q1 94 = q1 := by simp [va_up]
  refine W.eq (g2 := F0 m 12 ls [.ref (va_up ad1 94 q1 94), .ref q1]) (by rw [e94']) ?_
  refine lw_ctor (ad := va_up ad1 94 q1) (th := 94) (wr := rx_w gC cy ad1 zC0) (rest := [.ref q1]) C0 hK hN (rx_ag_x g2 hSt1) hO dL_law_12 h11 mm_X11_init (rx_c5 120 rfl rfl) (rx_c5 119 rfl rfl) rfl rfl (by decide) (Nat.le_of_ble_eq_true rfl) ⟨hn0, hn1⟩ hP hD hS hls (fun ad2 H locs hg2 hP hD hS => ?_)
  have hw4 : rx_wn 94 e45 cy ad2 zM0 = rx_w gM cy ad2 zM0 := rx_wn_w (b := 94) (N := 45) e45_ok
  have g3 : rx_ag 94 ad1 ad2 := fun k hk => (hg2 k (by rcases hk with h | h; exact Or.inl (by show k < 94 + 1; omega); exact Or.inr h)).trans (g2 k hk)
  have hw5 : rx_w gC cy ad1 zC0 = rx_w gC cy ad2 zC0 := by
    have h9 := rx_ag_w (b := 0) (E := e94) (cy := cy) (S := zC0) (S' := zC0) g3 (by decide) (by decide +kernel) (fun _ _ _ => ⟨rfl, rfl⟩)
    rw [rx_wn_w (b := 0) (N := 94) e94_ok, rx_wn_w (b := 0) (N := 94) e94_ok] at h9
    exact h9.symm
  rw [hw4, hw5] at hP hD
  exact kk q1 ad2 H locs g3 ((hg2 94 (Or.inl (by show 94 < 94 + 1; omega))).trans e94') hP hD hS
set_option maxRecDepth 100000 in
theorem lw_st1 {p : Program} {e : Env} {s : State} {m : MethodId} {below : List Frame} {meth : Method} {c : Code} {l : Launch} {b L : Nat} {xs : Nat → Int32} {dC : Nat → ClassId} {dI : Nat → Nat → Nat} {cy : Nat → ClassId} (C0 : lw_At p s m meth c b L xs) {zC0 : rx_S} {Q : State → Prop} (hK : va_K (dC, dI) rx_cl (rx_tys cy) s) (hN : rx_NW s) (hO : rx_AOA s) (h10 : CT 0 [(10, 0, dfC)] 100 mX10_init [.ref 0] rx_S0 93 6675 (fun E2 S2 => E2 = e94 ∧ S2 = zC0)) {ad0 : Nat → Nat} {ls : Array Slot} (hSt0 : rx_STR (lw_A s) ad0 s s.heap) (hl : lv_has ls 4 [(0, .ref b)])
    (kk : ∀ (q0 : Nat) (ad1 : Nat → Nat) (H2 : Heap) (locs2 : List Loc) (ls : Array Slot), rx_ag 0 ad0 ad1 → ad1 0 = q0 → va_P (dC, dI) rx_cl (rx_w gC cy ad1 zC0) H2 → va_D (lw_A s) (rx_w gC cy ad1 zC0) → va_S (lw_A s) s.heap H2 locs2 → lv_has ls 4 [(1, .ref q0), (0, .ref b)] → W p l e room_1 s m #[Value.ref b] below meth c H2 locs2 (0 + 1 + 93) (0 + 11 + 6675) Q (F0 m 8 ls [])) : W p l e room_1 s m #[Value.ref b] below meth c s.heap [] 0 0 Q (F0 m 0 ls []) := by
  obtain ⟨hx, hb, hr, hml, hown, hts, hX, hbl, hlocks, hgv⟩ := id C0
  have hT : ∀ w ∈ rx_T, w.before #[Value.ref b] s = true := fun w hw => hts w (List.mem_filter.mp hw).1
  have hS : va_S (lw_A s) s.heap s.heap [] := va_S.rf
  have hA : ∀ q : Nat, s.heap.size ≤ q → lw_A s q := fun _ h => h
  have hP : va_P (dC, dI) rx_cl [] s.heap := fun k q h => by simp at h
  have hD : va_D (lw_A s) [] := ⟨fun i j p q h => by simp at h, fun k q h => by simp at h⟩
  refine va_new (ci := 10) (fs := fsC) (C := RX10) (T := TX10) (N := 11) hx hb hT iX10 tyX10 tyX10_ok hown (hT _ (rx_c1 20 rfl rfl)) (hT _ (rx_c1 21 rfl rfl)) (hT _ (rx_c1 1 rfl rfl)) hK hP hD hS hA rfl lw_f10 (by decide) (by decide) dL_law_0 (fun q0 H hP hD hS => ?_)
  have g1 : rx_ag 0 ad0 (va_up ad0 0 q0) := fun k hk => by
    have : k ≠ 0 := by omega
    simp [va_up, this]
  rw [lw_w1 (cy := cy) (b := 0) lw_mC lw_dC (by decide) q0 ad0] at hP hD
  refine lv_dup hx hb dL_law_3 rfl ?_
  have e00 : va_up ad0 0 q0 0 = q0 := by simp [va_up]
  refine W.eq (g2 := F0 m 4 ls [.ref (va_up ad0 0 q0 0), .ref q0]) (by rw [e00]) ?_
  refine lw_ctor (ad := va_up ad0 0 q0) (th := 0) (wr := []) (rest := [.ref q0]) C0 hK hN (rx_ag_x g1 hSt0) hO dL_law_4 h10 mm_X10_init (rx_c1 23 rfl rfl) (rx_c1 22 rfl rfl) rfl rfl (by decide) (Nat.le_of_ble_eq_true rfl) (by decide) hP hD hS hl.1 (fun ad1 H locs hg hP hD hS => ?_)
  have hw2 : rx_wn 0 e94 cy ad1 zC0 = rx_w gC cy ad1 zC0 := rx_wn_w (b := 0) (N := 94) e94_ok
  rw [List.nil_append, hw2] at hP hD
  have e0 : ad1 0 = q0 := (hg 0 (Or.inl (by show 0 < 0 + 1; omega))).trans (by simp [va_up])
  refine lv_astore_n (lv' := [(1, .ref q0), (0, .ref b)]) hx hb dL_law_7 rfl hl (by decide) rfl (fun ls hl => ?_)
  exact kk q0 ad1 H locs ls (fun k hk => (hg k (by rcases hk with h | h; exact Or.inl (by omega); exact Or.inr h)).trans (g1 k hk)) e0 hP hD hS hl
/-- THE LAW, from its entry, over what the pure part owes -/
theorem whole_start_gen {p : Program} {e : Env} {s : State} {m : MethodId} {below : List Frame} {meth : Method} {c : Code} {l : Launch} {b L : Nat} {xs : Nat → Int32} (hL3 : L ≤ 3072) (C0 : lw_At p s m meth c b L xs) {N : Nat} {Inv : Nat → rx_S → rx_S → Prop} {zC0 zM0 : rx_S} (h10 : CT 0 [(10, 0, dfC)] 100 mX10_init [.ref 0] rx_S0 93 6675 (fun E2 S2 => E2 = e94 ∧ S2 = zC0)) (h11 : CT 94 [(11, 0, dfM)] 100 mX11_init [.ref 94] rx_S0 44 11558 (fun E2 S2 => E2 = e45 ∧ S2 = zM0)) (h0 : Inv 0 zC0 zM0) (hst : LawStep N Inv) (hskip : ∀ n SC SM, n < 512 → Inv n SC SM → Inv (n + 1) SC SM) : W p l e room_1 s m #[Value.ref b] below meth c s.heap [] 0 0 (lw_Z below #[Value.ref b] s) (entryFrame m ([Value.ref b] : List Value).toArray 4) := by
  obtain ⟨dC, dI, cy, ad0, hK, hN, hO, z3, hSt0⟩ := lw_pre (e := e) (l := l) (below := below) C0
  have hl := lv_entry ([.ref b]) (n := 4) (Nat.le_of_ble_eq_true rfl)
  rw [lg_entry_eq]
  generalize (lg_sl ([.ref b]) ++ List.replicate (4 - (lg_sl ([.ref b])).length) Slot.unset).toArray = ls at hl ⊢
  have hl : lv_has ls 4 [(0, .ref b)] := hl
  refine lw_st1 C0 hK hN hO h10 hSt0 hl (fun q0 ad1 H locs ls g1 e0 hP hD hS hl => ?_)
  have hSt1 : rx_STR (lw_A s) ad1 s s.heap := rx_ag_x g1 hSt0
  refine lw_st2 C0 hK hN hO h11 hSt1 hP hD hS hl.1 (by decide) (by decide) (fun q1 ad2 H locs g3 e94'' hP hD hS => ?_)
  exact lw_st3 hL3 C0 h0 hst hskip hK hN ((g3 5000 (Or.inr (by decide))).trans ((g1 5000 (Or.inr (by decide))).trans z3)) ((g3 0 (Or.inl (by decide))).trans e0) e94'' (rx_ag_x g3 hSt1) hP hD hS hl (by decide) (by decide)
theorem whole_start_of {p : Program} {e : Env} {s : State} {m : MethodId} {below : List Frame} {meth : Method} {c : Code} {l : Launch} {b L : Nat} {xs : Nat → Int32} (hL3 : L ≤ 3072) (C0 : lw_At p s m meth c b L xs) {N : Nat} {Inv : Nat → rx_S → rx_S → Prop} (h0 : Inv 0 zC zM) (hst : LawStep N Inv) (hskip : ∀ n SC SM, n < 512 → Inv n SC SM → Inv (n + 1) SC SM) : W p l e room_1 s m #[Value.ref b] below meth c s.heap [] 0 0 (lw_Z below #[Value.ref b] s) (entryFrame m ([Value.ref b] : List Value).toArray 4) := whole_start_gen hL3 C0 (ct_X10_init_0 (d := 94)) (ct_X11_init_94 (d := 98)) h0 hst hskip

