
/-! ===== the law's own frame: LW: from pc, with the class's cells holding SC, the reference's SM, the law comes to its end with true ===== -/
def lw_A (s : State) : Nat → Prop := fun q => s.heap.size ≤ q
def lw_D (ad : Nat → Nat) (s : State) : Prop := (∀ k, k < 139 → s.heap.size ≤ ad k) ∧ ∀ j k, j < 139 → k < 139 → ad j = ad k → j = k
def lw_J (G G2 : Nat × Nat) (D : va_G) (cy : Nat → ClassId) (ad : Nat → Nat) (s : State) (H : Heap) (locs : List Loc) (S S2 : rx_S) : Prop := va_P D rx_cl (rx_w G cy ad S) H ∧ va_P D rx_cl (rx_w G2 cy ad S2) H ∧ va_S (lw_A s) s.heap H locs
def lw_C (p : Program) (s : State) (m : MethodId) (meth : Method) (c : Code) (b L : Nat) (xs : Nat → Int32) (D : va_G) (cy : Nat → ClassId) (ad : Nat → Nat) : Prop := lw_At p s m meth c b L xs ∧ va_K D rx_cl (rx_tys cy) s ∧ rx_NW s ∧ rx_STR (lw_A s) ad s s.heap ∧ lw_D ad s ∧ ad 5000 = b
def LW (p : Program) (l : Launch) (e : Env) (s : State) (m : MethodId) (below : List Frame) (meth : Method) (c : Code) (b : Nat) (D : va_G) (cy : Nat → ClassId) (ad : Nat → Nat) (pc : Nat) (ls : List (Option Value)) (st : List Value) (SC SM : rx_S) : Prop := ∀ (H : Heap) (locs : List Loc) (arr : Array Slot), lw_J gC gM D cy ad s H locs SC SM → rx_lh ad arr 4 ls → W p l e room_1 s m #[Value.ref b] below meth c H locs 600000 7302250 (lw_Z below #[Value.ref b] s) (F0 m pc arr (st.map (rx_cv ad)))
theorem lw_Dw {ad : Nat → Nat} {s : State} (h : lw_D ad s) (G : Nat × Nat) (hG : G.1 + G.2 ≤ 139) {B : Nat → Prop} (hB : ∀ k, k < 139 → B (ad k)) {cy : Nat → ClassId} {S : rx_S} : va_D B (rx_w G cy ad S) :=
  ⟨fun i j x y hi hj hxy => by
    obtain ⟨h1, h2⟩ := rx_w_of hi
    obtain ⟨h3, h4⟩ := rx_w_of hj
    rw [h2, h4] at hxy
    have := h.2 _ _ (by omega) (by omega) hxy
    omega, fun k q hk => by
    obtain ⟨h1, h2⟩ := rx_w_of hk
    rw [h2]
    exact hB _ (by omega)⟩
section LWR
variable {p : Program} {l : Launch} {e : Env} {s : State} {m : MethodId} {below : List Frame} {meth : Method} {c : Code} {b L : Nat} {xs : Nat → Int32} {D : va_G} {cy : Nat → ClassId} {ad : Nat → Nat}
variable {pc : Nat} {ls : List (Option Value)} {st : List Value} {SC SM : rx_S}
theorem lw_hT (hC : lw_C p s m meth c b L xs D cy ad) : ∀ w ∈ rx_T, w.before #[Value.ref b] s = true := fun w hw => hC.1.2.2.2.2.2.1 w (List.mem_filter.mp hw).1
/-- a call, on the cells G; those of G2 stay -/
theorem lw_call {M' : rx_M} {G G2 : Nat × Nat} {S S2 S1 : rx_S} {th ci n0 n idx : Nat} {rs : List (Option Nat)} {vs : List Value} {x : Int32} {H : Heap} {locs : List Loc} {arr : Array Slot} (hC : lw_C p s m meth c b L xs D cy ad) (hG : G.1 + G.2 ≤ 139) (hG2 : G2.1 + G2.2 ≤ 139) (hGG : G.1 + G.2 ≤ G2.1 ∨ G2.1 + G2.2 ≤ G.1) (hd : decode cL_law pc = .ok (.invokevirtual idx, 3)) (hM : EM G 100 M' (.ref th :: vs) S (rx_pi x S1)) (hm : rx_m M' n) (hv : Cond.instanceMethod M'.2.2.2 ∈ rx_T ∧ Cond.selects M'.2.2.2.cls M'.2.2.2 M'.2.2.2 ∈ rx_T) (hl : Cond.methodLink R_law idx M'.2.2.2 ∈ rx_T) (hk : rx_at G th (ci, n0, rs)) (hci : ci < 12) (hc : (rx_cl[ci]?).map (fun x => x.1) = some M'.2.2.2.cls)
    (hn : vs.length = n) (hfit : (rx_al (.ref th :: vs)).length ≤ M'.2.1) (hst : (st.map fun v => v.category).sum ≤ 8) (hJ : lw_J G G2 D cy ad s H locs S S2) (hL : rx_lh ad arr 4 ls)
    (kk : ∀ (H1 : Heap) (locs1 : List Loc), lw_J G G2 D cy ad s H1 locs1 S1 S2 → W p l e room_1 s m #[Value.ref b] below meth c H1 locs1 600000 7302250 (lw_Z below #[Value.ref b] s) (F0 m (pc + 3) arr ((.int x :: st).map (rx_cv ad)))) :
    W p l e room_1 s m #[Value.ref b] below meth c H locs 600000 7302250 (lw_Z below #[Value.ref b] s) (F0 m pc arr ((vs.reverse ++ .ref th :: st).map (rx_cv ad))) := by
  obtain ⟨hP, hP2, hS⟩ := hJ
  have hT := lw_hT hC
  obtain ⟨⟨hx, hb, hr, hml, hown, hts, hX, hbl, hlocks, hgv⟩, hK, hN, hSt, hLD, hb5⟩ := hC
  obtain ⟨hm1, hm2, hm3, hm4, hm5⟩ := hm
  have he := rx_w_get (cy := cy) (ad := ad) (S := S) hk
  rw [rx_ent_o hci] at he
  obtain ⟨qc, hqc, hqe⟩ := Option.map_eq_some_iff.mp hc
  have hrec := va_recv hK hP hqc he
  rw [hqe] at hrec
  have hAA : ∀ q, rx_A G ad H.size q → lw_A s q := fun q h => by
    rcases h with ⟨k, hk, e9⟩ | h
    · rw [e9]
      exact hLD.1 k (by have := hk.2; omega)
    · exact Nat.le_trans hS.1 h
  have hpre : FrameBlind (va_Pc ((.ref th :: vs).map (rx_cv ad)) (rx_Pc G D cy ad S H.size)) ∧ ∀ U : State, U.heap = H → s.WarmedH U.vm → va_Pc ((.ref th :: vs).map (rx_cv ad)) (rx_Pc G D cy ad S H.size) ((.ref th :: vs).map (rx_cv ad)).toArray U := by
    refine ⟨fun a U g mk h => ?_, fun U hU hW => ?_⟩
    · obtain ⟨h1, h2, h3, h4, h5, h6, h7⟩ := h
      exact ⟨h1, h2, h3, va_K.moved (u := U) (U := U.calling g mk a) (Vm.Alike.refl U.vm) h4, h5, h6.same rfl, h7.same rfl⟩
    · refine ⟨rfl, by rw [hU], by rw [hU]; exact hP, va_K.moved hW.alike hK, lw_Dw hLD G hG (fun _ _ => trivial), hN.warm hW, ?_⟩
      rw [hU]
      exact ((hSt.kept hS.2.1).warm hW).narrow hAA
  have hMet := rx_met hM hfit hm1 l D cy ad H.size
  have hstk : (vs.reverse ++ .ref th :: st).map (rx_cv ad) = (vs.map (rx_cv ad)).reverse ++ .ref (ad th) :: st.map (rx_cv ad) := by simp [rx_cv]
  have hroom : (100 + 1 ≤ room_1.frames) ∧ (8 + (M'.2.1 + 11) + 64 * 100 ≤ room_1.locals) := ⟨by decide, by show _ ≤ 84000; omega⟩
  have hsum : 2 * (F0 m pc arr ((vs.reverse ++ .ref th :: st).map (rx_cv ad))).monitorRoom + ((st.map (rx_cv ad)).map fun v => v.category).sum ≤ 8 := lv_room (by rw [rx_cat]; exact hst)
  have hrun := va_runV (e := e) (below := below) (meth := meth) (cells := 600000) (slots := 7302250) (locs := locs) (As := vs.map (rx_cv ad)) (rest := st.map (rx_cv ad)) (C := M'.2.2.2.cls) (b := ad th) (index := idx) (n := n) (cc := cL_law) (nL := 4) (g := F0 m pc arr ((vs.reverse ++ .ref th :: st).map (rx_cv ad))) ⟨hx, hb, hml, hown, hT⟩ hMet ⟨callB_of n hT (rx_good (M := M') hm2) rfl rfl rfl (hT _ hm3) (hT _ hl) hm4 hroom, hT _ hv.1, hT _ hv.2⟩ ⟨hpre.1, hrec, hpre.2⟩ rfl (by rw [List.length_map]; exact hn) hL.1 hstk hsum hd ⟨Nat.le_refl _, Nat.le_refl _⟩
  intro T hT9 X
  obtain ⟨v, st₀, t, T', Lc, h0, X', hLc, e1, e2, ⟨r, S3, a1, ⟨a2, a3⟩, a4, a5⟩, go⟩ := hrun T hT9 X
  cases a1
  subst a2
  subst a3
  obtain ⟨z1, z2⟩ := a5
  rw [h0] at z1 z2
  have hP3 : va_P D rx_cl (rx_w G2 cy ad S2) t.heap := fun k9 z hz => (hP2 k9 z hz).kept (z2 z.1 ((hP2 k9 z hz).lt) (fun h => by
    obtain ⟨f1, f2⟩ := rx_w_of hz
    rcases h with ⟨k, hk9, e9⟩ | h
    · rw [f2] at e9
      have e8 := hLD.2 _ _ (by omega) (by have := hk9.2; omega) e9
      have := hk9.1
      have := hk9.2
      omega
    · have := (hP2 k9 z hz).lt
      omega))
  obtain ⟨t2, c1, c2⟩ := kk T'.heap (locs ++ Lc) ⟨by rw [e1]; exact a4, by rw [e1]; exact hP3, ⟨Nat.le_trans hS.1 (by rw [e1]; exact z1), fun z g1 g2 => by rw [e1, z2 z (Nat.lt_of_lt_of_le g1 hS.1) (fun w => g2 (hAA z w))]; exact hS.2.1 z g1 g2, fun z hz => by
    rcases List.mem_append.mp hz with h | h
    · exact hS.2.2 z h
    · exact hAA _ (hLc z h)⟩⟩ T' rfl X'
  exact ⟨t2, go t2 c1, c2⟩
theorem lw_callC {M' : rx_M} {n idx : Nat} {vs : List Value} {x : Int32} {S1 : rx_S} (hC : lw_C p s m meth c b L xs D cy ad) (q : Nat) (hd : decode cL_law pc = .ok (.invokevirtual idx, 3)) (hM : EM gC 100 M' (.ref 0 :: vs) SC (rx_pi x S1)) (hm : rx_m M' n) (hv : Cond.instanceMethod M'.2.2.2 ∈ rx_T ∧ Cond.selects M'.2.2.2.cls M'.2.2.2 M'.2.2.2 ∈ rx_T) (hl : Cond.methodLink R_law idx M'.2.2.2 ∈ rx_T) (hc : some RX10 = some M'.2.2.2.cls) (hn : vs.length = n) (hfit : (rx_al (.ref 0 :: vs)).length ≤ M'.2.1) (hst : (st.map fun v => v.category).sum ≤ 8) (hq : pc + 3 = q) (k : LW p l e s m below meth c b D cy ad q ls (.int x :: st) S1 SM) : LW p l e s m below meth c b D cy ad pc ls (vs.reverse ++ .ref 0 :: st) SC SM := by
  subst hq
  intro H locs arr hJ hL
  exact lw_call hC (by decide) (by decide) (Or.inl (by decide)) hd hM hm hv hl dk_0 (by decide) hc hn hfit hst hJ hL (fun H1 locs1 hJ1 => k H1 locs1 arr hJ1 hL)
theorem lw_callM {M' : rx_M} {n idx : Nat} {vs : List Value} {x : Int32} {S1 : rx_S} (hC : lw_C p s m meth c b L xs D cy ad) (q : Nat) (hd : decode cL_law pc = .ok (.invokevirtual idx, 3)) (hM : EM gM 100 M' (.ref 94 :: vs) SM (rx_pi x S1)) (hm : rx_m M' n) (hv : Cond.instanceMethod M'.2.2.2 ∈ rx_T ∧ Cond.selects M'.2.2.2.cls M'.2.2.2 M'.2.2.2 ∈ rx_T) (hl : Cond.methodLink R_law idx M'.2.2.2 ∈ rx_T) (hc : some RX11 = some M'.2.2.2.cls) (hn : vs.length = n) (hfit : (rx_al (.ref 94 :: vs)).length ≤ M'.2.1) (hst : (st.map fun v => v.category).sum ≤ 8) (hq : pc + 3 = q) (k : LW p l e s m below meth c b D cy ad q ls (.int x :: st) SC S1) : LW p l e s m below meth c b D cy ad pc ls (vs.reverse ++ .ref 94 :: st) SC SM := by
  subst hq
  intro H locs arr hJ hL
  exact lw_call hC (by decide) (by decide) (Or.inr (by decide)) hd hM hm hv hl dk_94 (by decide) hc hn hfit hst ⟨hJ.2.1, hJ.1, hJ.2.2⟩ hL (fun H1 locs1 hJ1 => k H1 locs1 arr ⟨hJ1.2.1, hJ1.1, hJ1.2.2⟩ hL)

theorem lx_iconst {n : Int} {v : Int32} (hC : lw_C p s m meth c b L xs D cy ad) (q : Nat) (hd : decode cL_law pc = .ok (.iconst n, 1)) (hv : Int32.ofInt n = v) (hq : pc + 1 = q) (k : LW p l e s m below meth c b D cy ad q ls (.int v :: st) SC SM) : LW p l e s m below meth c b D cy ad pc ls (st) SC SM := by
  subst hq
  intro H locs arr hJ hL
  exact lv_iconst hC.1.1 hC.1.2.1 hd hv (k H locs arr hJ hL)

theorem lx_bipush {n : Int} {v : Int32} (hC : lw_C p s m meth c b L xs D cy ad) (q : Nat) (hd : decode cL_law pc = .ok (.bipush n, 2)) (hv : (Int8.ofInt n).toInt32 = v) (hq : pc + 2 = q) (k : LW p l e s m below meth c b D cy ad q ls (.int v :: st) SC SM) : LW p l e s m below meth c b D cy ad pc ls (st) SC SM := by
  subst hq
  intro H locs arr hJ hL
  exact lv_bipush hC.1.1 hC.1.2.1 hd hv (k H locs arr hJ hL)

theorem lx_iload_n {j : Fin 4} {i : Nat} {x : Int32} (hC : lw_C p s m meth c b L xs D cy ad) (q : Nat) (hd : decode cL_law pc = .ok (.iload_n j, 1)) (hj : (j : Nat) = i) (hl : ls[i]? = some (some (.int x))) (hq : pc + 1 = q) (k : LW p l e s m below meth c b D cy ad q ls (.int x :: st) SC SM) : LW p l e s m below meth c b D cy ad pc ls (st) SC SM := by
  subst hq
  intro H locs arr hJ hL
  exact lv_iload_n hC.1.1 hC.1.2.1 hd hj (hL.2.2 _ _ hl) (k H locs arr hJ hL)

theorem lx_aload_n {j : Fin 4} {i : Nat} {x : Nat} (hC : lw_C p s m meth c b L xs D cy ad) (q : Nat) (hd : decode cL_law pc = .ok (.aload_n j, 1)) (hj : (j : Nat) = i) (hl : ls[i]? = some (some (.ref x))) (hq : pc + 1 = q) (k : LW p l e s m below meth c b D cy ad q ls (.ref x :: st) SC SM) : LW p l e s m below meth c b D cy ad pc ls (st) SC SM := by
  subst hq
  intro H locs arr hJ hL
  exact lv_aload_n hC.1.1 hC.1.2.1 hd hj (hL.2.2 _ _ hl) (k H locs arr hJ hL)

theorem lx_iadd {x y : Int32} (hC : lw_C p s m meth c b L xs D cy ad) (q : Nat) (hd : decode cL_law pc = .ok (.iadd, 1)) (hq : pc + 1 = q) (k : LW p l e s m below meth c b D cy ad q ls (.int (x + y) :: st) SC SM) : LW p l e s m below meth c b D cy ad pc ls (.int y :: .int x :: st) SC SM := by
  subst hq
  intro H locs arr hJ hL
  exact lv_iadd hC.1.1 hC.1.2.1 hd (k H locs arr hJ hL)

theorem lx_isub {x y : Int32} (hC : lw_C p s m meth c b L xs D cy ad) (q : Nat) (hd : decode cL_law pc = .ok (.isub, 1)) (hq : pc + 1 = q) (k : LW p l e s m below meth c b D cy ad q ls (.int (x - y) :: st) SC SM) : LW p l e s m below meth c b D cy ad pc ls (.int y :: .int x :: st) SC SM := by
  subst hq
  intro H locs arr hJ hL
  exact lv_isub hC.1.1 hC.1.2.1 hd (k H locs arr hJ hL)

theorem lx_iand {x y : Int32} (hC : lw_C p s m meth c b L xs D cy ad) (q : Nat) (hd : decode cL_law pc = .ok (.iand, 1)) (hq : pc + 1 = q) (k : LW p l e s m below meth c b D cy ad q ls (.int (x &&& y) :: st) SC SM) : LW p l e s m below meth c b D cy ad pc ls (.int y :: .int x :: st) SC SM := by
  subst hq
  intro H locs arr hJ hL
  exact lv_iand hC.1.1 hC.1.2.1 hd (k H locs arr hJ hL)

theorem lx_slen (hC : lw_C p s m meth c b L xs D cy ad) (q : Nat) (hd : decode cL_law pc = .ok (.arraylength, 1)) (hq : pc + 1 = q) (k : LW p l e s m below meth c b D cy ad q ls (.int (Int32.ofNat L) :: st) SC SM) : LW p l e s m below meth c b D cy ad pc ls (.ref 5000 :: st) SC SM := by
  subst hq
  intro H locs arr hJ hL
  have h5 : (Value.ref 5000 :: st).map (rx_cv ad) = .ref b :: st.map (rx_cv ad) := by rw [List.map_cons]; simp only [rx_cv, hC.2.2.2.2.2]
  rw [h5]
  exact va_slen hC.1.1 hC.1.2.1 hC.1.2.2.2.2.2.2.1 hC.1.2.2.2.2.2.2.2.1 (Nat.not_le.mpr hC.1.2.2.2.2.2.2.2.1) hJ.2.2 hd (k H locs arr hJ hL)
theorem lx_sld {i : Int32} (hC : lw_C p s m meth c b L xs D cy ad) (j q : Nat) (hd : decode cL_law pc = .ok (.iaload, 1)) (hi : i = nI j) (hj : j < L) (hL3 : L ≤ 3072) (hq : pc + 1 = q) (k : LW p l e s m below meth c b D cy ad q ls (.int (xs j) :: st) SC SM) : LW p l e s m below meth c b D cy ad pc ls (.int i :: .ref 5000 :: st) SC SM := by
  subst hq
  subst hi
  intro H locs arr hJ hL
  have h5 : (Value.int (nI j) :: Value.ref 5000 :: st).map (rx_cv ad) = .int (nI j) :: .ref b :: st.map (rx_cv ad) := by rw [List.map_cons, List.map_cons]; simp only [rx_cv, hC.2.2.2.2.2]
  rw [h5]
  refine va_sld hC.1.1 hC.1.2.1 hC.1.2.2.2.2.2.2.1 hC.1.2.2.2.2.2.2.2.1 (Nat.not_le.mpr hC.1.2.2.2.2.2.2.2.1) hJ.2.2 (vp_in_nI hj (by omega)) hd ?_
  rw [nI_clamp (by omega)]
  exact (k H locs arr hJ hL)
theorem lx_iinc {x v : Int32} {ls' : List (Option Value)} (hC : lw_C p s m meth c b L xs D cy ad) (q : Nat) (hd : decode cL_law pc = .ok (.iinc 3 6, 3)) (hl : ls[3]? = some (some (.int x))) (hv : x + Int32.ofInt 6 = v) (hs : rx_s1 ls 3 (.int v) = ls') (hq : pc + 3 = q) (k : LW p l e s m below meth c b D cy ad q ls' st SC SM) : LW p l e s m below meth c b D cy ad pc ls st SC SM := by
  subst hq
  subst hs
  intro H locs arr hJ hL
  obtain ⟨kk, hkk⟩ := List.getElem?_of_mem (rx_lv_mem (ad := ad).mpr (show ∃ v, ls[((3, Value.int x) : Nat × Value).1]? = some (some v) ∧ ((3, Value.int x) : Nat × Value).2 = rx_cv ad v from ⟨.int x, hl, rfl⟩))
  exact lv_iinc hC.1.1 hC.1.2.1 hd hL.has hkk hv (by decide) rfl (fun arr' hL' => k H locs arr' hJ (rx_lh.st1 (v := .int v) hL'))
theorem lx_goto {off : Int} (hC : lw_C p s m meth c b L xs D cy ad) (t : Nat) (hd : decode cL_law pc = .ok (.goto off, 3)) (ht : (pc : Int) + off = (t : Int)) (k : LW p l e s m below meth c b D cy ad t ls st SC SM) : LW p l e s m below meth c b D cy ad pc ls st SC SM := by
  intro H locs arr hJ hL
  exact lv_goto hC.1.1 hC.1.2.1 hd ht (k H locs arr hJ hL)
theorem lx_icmp_gt {x y : Int32} {off : Int} (hC : lw_C p s m meth c b L xs D cy ad) (t q : Nat) (hd : decode cL_law pc = .ok (.if_icmp .gt off, 3)) (ht : (pc : Int) + off = (t : Int)) (hq : pc + 3 = q) (kt : y < x → LW p l e s m below meth c b D cy ad t ls st SC SM) (kf : ¬ y < x → LW p l e s m below meth c b D cy ad q ls st SC SM) : LW p l e s m below meth c b D cy ad pc ls (.int y :: .int x :: st) SC SM := by
  subst hq
  intro H locs arr hJ hL
  exact lv_icmp_gt hC.1.1 hC.1.2.1 hd ht (fun hc => kt hc H locs arr hJ hL) (fun hc => kf hc H locs arr hJ hL)
theorem lx_icmp_eq {x : Int32} {off : Int} (hC : lw_C p s m meth c b L xs D cy ad) (t : Nat) (hd : decode cL_law pc = .ok (.if_icmp .eq off, 3)) (ht : (pc : Int) + off = (t : Int)) (kt : LW p l e s m below meth c b D cy ad t ls st SC SM) : LW p l e s m below meth c b D cy ad pc ls (.int x :: .int x :: st) SC SM := by
  intro H locs arr hJ hL
  exact lv_icmp_eq hC.1.1 hC.1.2.1 hd ht (fun _ => kt H locs arr hJ hL) (fun hc => absurd rfl hc)
theorem lx_if_eq {x : Int32} {off : Int} (hC : lw_C p s m meth c b L xs D cy ad) (t q : Nat) (hd : decode cL_law pc = .ok (.ifCond .eq off, 3)) (ht : (pc : Int) + off = (t : Int)) (hq : pc + 3 = q) (kt : x = 0 → LW p l e s m below meth c b D cy ad t ls st SC SM) (kf : ¬ x = 0 → LW p l e s m below meth c b D cy ad q ls st SC SM) : LW p l e s m below meth c b D cy ad pc ls (.int x :: st) SC SM := by
  subst hq
  intro H locs arr hJ hL
  exact lv_if_eq hC.1.1 hC.1.2.1 hd ht (fun hc => kt hc H locs arr hJ hL) (fun hc => kf hc H locs arr hJ hL)
theorem lx_tableOut {dflt lo hi : Int} {offs : Array Int} {len : Nat} {x : Int32} (hC : lw_C p s m meth c b L xs D cy ad) (t : Nat) (hd : decode cL_law pc = .ok (.tableswitch dflt lo hi offs, len)) (h : x.toInt < lo ∨ hi < x.toInt) (ht : (pc : Int) + dflt = (t : Int)) (k : LW p l e s m below meth c b D cy ad t ls st SC SM) : LW p l e s m below meth c b D cy ad pc ls (.int x :: st) SC SM := by
  intro H locs arr hJ hL
  exact lv_tableOut hC.1.1 hC.1.2.1 hd h ht (k H locs arr hJ hL)
theorem lx_tableIn {dflt lo hi : Int} {offs : Array Int} {len : Nat} {x : Int32} {off : Int} (hC : lw_C p s m meth c b L xs D cy ad) (t : Nat) (hd : decode cL_law pc = .ok (.tableswitch dflt lo hi offs, len)) (h1 : ¬ x.toInt < lo) (h2 : ¬ hi < x.toInt) (ho : offs[(x.toInt - lo).toNat]? = some off) (ht : (pc : Int) + off = (t : Int)) (k : LW p l e s m below meth c b D cy ad t ls st SC SM) : LW p l e s m below meth c b D cy ad pc ls (.int x :: st) SC SM := by
  intro H locs arr hJ hL
  exact lv_tableIn hC.1.1 hC.1.2.1 hd h1 h2 ho ht (k H locs arr hJ hL)
theorem lx_ret (hC : lw_C p s m meth c b L xs D cy ad) (hd : decode cL_law pc = .ok (.ireturn, 1)) : LW p l e s m below meth c b D cy ad pc ls [.int 1] SC SM := by
  intro H locs arr hJ hL
  refine va_forget (fun q hq => hJ.2.2.2.2 q hq) ?_
  exact lw_ret hC.1.1 hC.1.2.1 hC.1.2.2.1 hC.1.2.2.2.2.2.2.2.2.1 hd
end LWR

