
theorem rx_AOA_spec {s : State} (h : rx_AOA s) : ∃ c k comp, s.vm.findClass ("[" ++ (FieldType.array .int).toString) = some c ∧ s.vm.classes[c]? = some k ∧ k.kind = .array comp (.array .int) := by
  have h2 : (Cond.arrayOver (.array .int)).holds #[] s none s [] = true := h
  simp only [Cond.holds, Cond.value, beq_iff_eq] at h2
  cases hc : s.vm.findClass (FieldType.array .int).toString with
  | none => simp [hc] at h2
  | some comp =>
    simp only [hc, Option.bind_some, Option.bind_eq_some_iff, Option.map_eq_some_iff] at h2
    obtain ⟨c, hi, k, hk, hb⟩ := h2
    cases hkind : k.kind with
    | array component ty =>
      rw [hkind] at hb
      simp at hb
      exact ⟨c, k, component, hb.2, hk, by rw [hkind, hb.1]⟩
    | _ => rw [hkind] at hb; simp at hb
theorem rx_arr {s : State} {args : Array Value} {ty : FieldType} (h : (Cond.arrayClass ty).before args s = true) : ∃ cA, ArrOfT s cA ty ∧ s.vm.findClass ("[" ++ ty.toString) = some cA := by
  obtain ⟨c, k, comp, h1, h2, h3⟩ := Cond.arrayClass_spec (args := args) (first := s) (o := none) (idx := []) h
  exact ⟨c, fun n z => ⟨fun k h => (by cases h), k, h2, comp, h3⟩, h1⟩
/-- the String constants' terms -/
def rx_tm (i : Nat) : Term := .string RX9 (if i = 0 then 25 else 79)
def rx_gn : List Cond := flatC (Jvm.Cond.and given_1 narrow_1)
set_option maxRecDepth 100000 in
theorem rx_g1 : ∀ i, i < 2 → Cond.exactly (rx_tm i) "java/lang/String" ∈ rx_gn := by decide +kernel
set_option maxRecDepth 100000 in
theorem rx_g2 : ∀ i, i < 2 → Cond.eq (.field (rx_tm i) "java/lang/String" "coder" "B") (.int 0) ∈ rx_gn := by decide +kernel
set_option maxRecDepth 100000 in
theorem rx_g3 : ∀ i, i < 2 → Cond.arrayOf (.field (rx_tm i) "java/lang/String" "value" "[B") .byte ∈ rx_gn := by decide +kernel
set_option maxRecDepth 100000 in
theorem rx_g4 : ∀ i, i < 2 → Cond.eq (.length (.field (rx_tm i) "java/lang/String" "value" "[B")) (.int (Int32.ofNat (rx_len.getD i 0))) ∈ rx_gn := by decide +kernel
set_option maxRecDepth 100000 in
theorem rx_g5 : ∀ i, i < 2 → ∀ j, j < rx_len.getD i 0 → Cond.eq (.elem (.field (rx_tm i) "java/lang/String" "value" "[B") (.int (Int32.ofNat j))) (.int ((rx_byt.getD i []).getD j 0)) ∈ rx_gn := by decide +kernel
set_option maxRecDepth 100000 in
theorem rx_g6 : ∀ i, i < 2 → ∀ j, j < 2 → i ≠ j → Cond.not (Cond.eq (rx_tm i) (rx_tm j)) ∈ rx_gn ∨ Cond.not (Cond.eq (rx_tm j) (rx_tm i)) ∈ rx_gn := by decide +kernel
set_option maxRecDepth 100000 in
theorem rx_g7 : Cond.eq (.static "java/lang/String" "COMPACT_STRINGS" "Z") (.int 1) ∈ rx_gn ∧ Cond.isRef (.static "jdk/internal/util/Preconditions" "SIOOBE_FORMATTER" "Ljava/util/function/BiFunction;") ∈ rx_gn := by decide +kernel
section LWS
variable {p : Program} {l : Launch} {e : Env} {s : State} {m : MethodId} {below : List Frame} {meth : Method} {c : Code} {b L : Nat} {xs : Nat → Int32} {D : va_G} {cy : Nat → ClassId} {ad : Nat → Nat} {Q : State → Prop}
/-- a constructor called from the law; what stands ahead of it stays -/
theorem lw_ctor {M' : rx_M} {idx b' th mc' ms' n0 n1 pc : Nat} {Ec Ec' : List rx_E} {S S' : rx_S} {wr : va_W} {H : Heap} {locs : List Loc} {arr : Array Slot} {rest : List Value} (C0 : lw_At p s m meth c b L xs) (hK : va_K D rx_cl (rx_tys cy) s) (hN : rx_NW s) (hSt : rx_STR (lw_A s) ad s s.heap) (hO : rx_AOA s) (hd : decode cL_law pc = .ok (.invokespecial idx, 3)) (hM : CT b' Ec 100 M' [.ref th] S mc' ms' (fun E2 S2 => E2 = Ec' ∧ S2 = S')) (hm : rx_m M' 0) (hi : Cond.instanceMethod M'.2.2.2 ∈ rx_T) (hl : Cond.methodLink R_law idx M'.2.2.2 ∈ rx_T) (hnm : M'.2.2.2.name = "<init>") (hret : M'.2.2.1 = none) (hfit : 1 ≤ M'.2.1) (hst : (rest.map fun v => v.category).sum ≤ 8) (hmm : n0 + mc' ≤ 600000 ∧ n1 + ms' ≤ 7302250) (hP : va_P D rx_cl (wr ++ rx_wn b' Ec cy ad S) H) (hD : va_D (lw_A s) (wr ++ rx_wn b' Ec cy ad S)) (hS : va_S (lw_A s) s.heap H locs) (hL : arr.size = 4)
    (kk : ∀ (ad2 : Nat → Nat) (H1 : Heap) (locs1 : List Loc), rx_ag (b' + Ec.length) ad ad2 → va_P D rx_cl (wr ++ rx_wn b' Ec' cy ad2 S') H1 → va_D (lw_A s) (wr ++ rx_wn b' Ec' cy ad2 S') → va_S (lw_A s) s.heap H1 locs1 → W p l e room_1 s m #[Value.ref b] below meth c H1 locs1 (n0 + mc') (n1 + ms') Q (F0 m (pc + 3) arr rest)) : W p l e room_1 s m #[Value.ref b] below meth c H locs n0 n1 Q (F0 m pc arr (.ref (ad th) :: rest)) := by
  obtain ⟨hx, hb, hr, hml, hown, hts, hX, hbl, hlocks, hgv⟩ := C0
  have hT : ∀ w ∈ rx_T, w.before #[Value.ref b] s = true := fun w hw => hts w (List.mem_filter.mp hw).1
  obtain ⟨hm1, hm2, hm3, hm4, hm5⟩ := hm
  have hAA : ∀ z, va_A (rx_wn b' Ec cy ad S) H.size z → lw_A s z := by
    intro z hz
    rcases hz with ⟨j, e9, hj⟩ | hz
    · exact hD.2 (wr.length + j) (z, e9) (by rw [List.getElem?_append_right (by omega)]; rw [show wr.length + j - wr.length = j by omega]; exact hj)
    · exact Nat.le_trans hS.1 hz
  have hPc : va_P D rx_cl (rx_wn b' Ec cy ad S) H := fun j z hj => hP (wr.length + j) z (by rw [List.getElem?_append_right (by omega)]; rw [show wr.length + j - wr.length = j by omega]; exact hj)
  have hDc : va_D (fun _ => True) (rx_wn b' Ec cy ad S) := ⟨fun i j x y hi hj hxy => by
    have h9 := hD.1 (wr.length + i) (wr.length + j) x y (by rw [List.getElem?_append_right (by omega)]; rw [show wr.length + i - wr.length = i by omega]; exact hi) (by rw [List.getElem?_append_right (by omega)]; rw [show wr.length + j - wr.length = j by omega]; exact hj) hxy
    omega, fun _ _ _ => trivial⟩
  have hpre : FrameBlind (va_Pc (([.ref th] : List Value).map (rx_cv ad)) (rx_PcN b' Ec D cy ad S H.size)) ∧ ∀ U : State, U.heap = H → s.WarmedH U.vm → va_Pc (([.ref th] : List Value).map (rx_cv ad)) (rx_PcN b' Ec D cy ad S H.size) (([.ref th] : List Value).map (rx_cv ad)).toArray U := by
    refine ⟨fun a U g mk h => ?_, fun U hU hW => ?_⟩
    · obtain ⟨h1, h2, h3, h4, h5, h6, h7, h8⟩ := h
      exact ⟨h1, h2, h3, va_K.moved (u := U) (U := U.calling g mk a) (Vm.Alike.refl U.vm) h4, h5, h6.same rfl, h7.same rfl, h8.moved (Vm.Alike.refl U.vm)⟩
    · refine ⟨rfl, by rw [hU], by rw [hU]; exact hPc, va_K.moved hW.alike hK, hDc, hN.warm hW, ?_, hO.moved hW.alike⟩
      rw [hU]
      exact ((hSt.kept hS.2.1).warm hW).narrow hAA
  have hMet := rx_metN hM hfit hm1 hnm l D cy ad H.size
  have hroom : (100 + 1 ≤ room_1.frames) ∧ (8 + (M'.2.1 + 11) + 64 * 100 ≤ room_1.locals) := ⟨by decide, by show _ ≤ 84000; omega⟩
  have hws : rx_ws M' = Cond.code M'.2.2.2 M'.1 M'.2.1 none :: rx_T := by show _ :: _ = _; rw [hret]
  have hrun := va_runI (e := e) (below := below) (meth := meth) (cells := n0) (slots := n1) (locs := locs) (R := room_1) (As := []) (rest := rest) (b := ad th) (index := idx) (n := 0) (maxL := M'.2.1) (bytes := M'.1) (cc := cL_law) (nL := 4) (g := F0 m pc arr (.ref (ad th) :: rest)) ⟨hx, hb, hml, hown, hT⟩ hMet ⟨callB_of 0 hT (rx_good (M := M') hm2) hws rfl rfl (hT _ hm3) (hT _ hl) hm4 hroom, hnm, hT _ hi⟩ hpre rfl rfl hL rfl (lv_room hst) hd hmm
  intro T hT9 X
  obtain ⟨v, st₀, t, T', Lc, h0, X', hLc, e1, e2, ⟨E2, S2, ad2, a1, a2, ⟨a3, a4⟩, a5, a6, a7⟩, go⟩ := hrun T hT9 X
  cases a2
  subst a3
  subst a4
  obtain ⟨z1, z2⟩ := a7
  rw [h0] at z1 z2
  obtain ⟨hP2, hD2⟩ := rx_joinA hP hD (fun z g1 g2 => z2 z g1 g2) hAA a5 a6
  rw [← e1] at hP2
  obtain ⟨t2, c1, c2⟩ := kk ad2 T'.heap (locs ++ Lc) a1 hP2 hD2 ⟨Nat.le_trans hS.1 (by rw [e1]; exact z1), fun z g1 g2 => by rw [e1, z2 z (Nat.lt_of_lt_of_le g1 hS.1) (fun w => g2 (hAA z w))]; exact hS.2.1 z g1 g2, fun z hz => by
    rcases List.mem_append.mp hz with h | h
    · exact hS.2.2 z h
    · exact hAA _ (hLc z h)⟩ T' rfl X'
  exact ⟨t2, go t2 c1, c2⟩
end LWS

def e94 : List rx_E := [(10, 0, [some (some 1), none, none, some (some 2), some (some 13), some (some 32), some (some 33), some (some 80), some (some 81), some (some 88), some (some 91)]), (12, 2000, []), (8, 0, [some (some 3), some (some 8), some (some 9), some (some 10), some (some 11), some (some 12), none, none, none, none, none]), (2, 0, [some (some 4), some (some 5), some (some 6), some (some 7), none]), (13, 420, []), (13, 7, []), (13, 20, []), (13, 9, []), (13, 6, []), (13, 6, []), (13, 6, []), (13, 4, []), (13, 4, []), (4, 0, [some (some 14), some (some 19), some (some 30), some (some 31), none, none, none, none, none, none]), (9, 0, [some (some 15), some (some 16), some (some 17), some (some 18), none]), (14, 24, []), (13, 401, []), (13, 401, []), (14, 401, []), (8, 0, [some (some 20), some (some 25), some (some 26), some (some 27), some (some 28), some (some 29), none, none, none, none, none]), (2, 0, [some (some 21), some (some 22), some (some 23), some (some 24), none]), (13, 420, []), (13, 7, []), (13, 20, []), (13, 9, []), (13, 6, []), (13, 6, []), (13, 6, []), (13, 4, []), (13, 4, []), (14, 10, []), (13, 10, []), (13, 48, []), (3, 0, [some (some 34), some (some 75), some (some 79), none, none]), (16, 40, [some (some 35), some (some 36), some (some 37), some (some 38), some (some 39), some (some 40), some (some 41), some (some 42), some (some 43), some (some 44), some (some 45), some (some 46), some (some 47), some (some 48), some (some 49), some (some 50), some (some 51), some (some 52), some (some 53), some (some 54), some (some 55), some (some 56), some (some 57), some (some 58), some (some 59), some (some 60), some (some 61), some (some 62), some (some 63), some (some 64), some (some 65), some (some 66), some (some 67), some (some 68), some (some 69), some (some 70), some (some 71), some (some 72), some (some 73), some (some 74)]), (13, 48, []), (13, 48, []), (13, 48, []), (13, 48, []), (13, 48, []), (13, 48, []), (13, 48, []), (13, 48, []), (13, 48, []), (13, 48, []), (13, 48, []), (13, 48, []), (13, 48, []), (13, 48, []), (13, 48, []), (13, 48, []), (13, 48, []), (13, 48, []), (13, 48, []), (13, 48, []), (13, 48, []), (13, 48, []), (13, 48, []), (13, 48, []), (13, 48, []), (13, 48, []), (13, 48, []), (13, 48, []), (13, 48, []), (13, 48, []), (13, 48, []), (13, 48, []), (13, 48, []), (13, 48, []), (13, 48, []), (13, 48, []), (13, 48, []), (13, 48, []), (13, 48, []), (13, 48, []), (16, 3, [some (some 76), some (some 77), some (some 78)]), (13, 48, []), (13, 48, []), (13, 48, []), (15, 3, []), (7, 0, [some (some 2), some (some 3)]), (6, 0, [some (some 2), some (some 80), some (some 82), some (some 84), some (some 85), some (some 86), some (some 87)]), (5, 0, [some (some 83)]), (13, 6, []), (13, 32, []), (15, 30, []), (13, 12, []), (13, 3, []), (0, 0, [some (some 2), some (some 80), some (some 89), some (some 90)]), (13, 48, []), (13, 64, []), (1, 0, [some (some 2), some (some 80), some (some 92), some (some 93), none]), (13, 20, []), (13, 20, [])]
def e45 : List rx_E := [(11, 0, [none, some (some 95), none, some (some 96), none, some (some 97), some (some 98), some (some 99), some (some 100), some (some 101), none, none, none, none, none, none, none, none, none, none, none, some (some 102), some (some 103), some (some 104), some (some 105), some (some 106), some (some 107), some (some 108), some (some 109), some (some 110), some (some 111), some (some 112), some (some 113), some (some 114), some (some 115), none, some (some 116), some (some 117), some (some 118), some (some 119), some (some 120), none, some (some 121), some (some 122), some (some 123), none, some (some 124), some (some 125), none, some (some 126), some (some 127), none, none, some (some 128), some (some 129), some (some 130), none, none, some (some 131), none, some (some 132), some (some 133), none, some (some 134), some (some 135), some (some 136), some (some 137), some (some 138)]), (12, 2000, []), (12, 2000, []), (13, 403, []), (13, 403, []), (13, 403, []), (14, 403, []), (14, 24, []), (14, 10, []), (13, 10, []), (13, 2, []), (13, 12, []), (13, 12, []), (13, 2, []), (13, 12, []), (13, 2, []), (13, 8, []), (13, 8, []), (13, 2, []), (13, 2, []), (13, 14, []), (13, 14, []), (15, 260, []), (13, 260, []), (13, 260, []), (13, 260, []), (13, 260, []), (13, 840, []), (13, 840, []), (13, 64, []), (13, 9, []), (13, 400, []), (13, 48, []), (13, 48, []), (13, 1920, []), (13, 32, []), (13, 36, []), (13, 3, []), (13, 12, []), (13, 64, []), (13, 20, []), (13, 20, []), (13, 9, []), (15, 3, []), (13, 144, [])]
theorem e94_ok : e94 = (List.range 94).map (fun j => rx_toE (rx_desc (0 + j))) := by decide +kernel
theorem e45_ok : e45 = (List.range 45).map (fun j => rx_toE (rx_desc (94 + j))) := by decide +kernel
theorem lw_f10 : ∀ j, j < 11 → defaultValue (tyX10 j) = vp_V [.null, .int 0, .int 0, .null, .null, .null, .null, .null, .null, .null, .null] j := by decide +kernel
theorem lw_f11 : ∀ j, j < 68 → defaultValue (tyX11 j) = vp_V [.int 0, .null, .int 0, .null, .int 0, .null, .null, .null, .null, .null, .int 0, .int 0, .int 0, .int 0, .int 0, .int 0, .int 0, .int 0, .int 0, .int 0, .int 0, .null, .null, .null, .null, .null, .null, .null, .null, .null, .null, .null, .null, .null, .null, .int 0, .null, .null, .null, .null, .null, .int 0, .null, .null, .null, .int 0, .null, .null, .int 0, .null, .null, .int 0, .int 0, .null, .null, .null, .int 0, .int 0, .null, .int 0, .null, .null, .int 0, .null, .null, .null, .null, .null] j := by decide +kernel
theorem lw_m10 (ad : Nat → Nat) : ([some none, none, none, some none, some none, some none, some none, some none, some none, some none, some none] : List (Option (Option Nat))).mapIdx (rx_nv ad (fun _ => 0)) = [.null, .int 0, .int 0, .null, .null, .null, .null, .null, .null, .null, .null] := rfl
set_option maxRecDepth 100000 in
theorem lw_m11 (ad : Nat → Nat) : ([none, some none, none, some none, none, some none, some none, some none, some none, some none, none, none, none, none, none, none, none, none, none, none, none, some none, some none, some none, some none, some none, some none, some none, some none, some none, some none, some none, some none, some none, some none, none, some none, some none, some none, some none, some none, none, some none, some none, some none, none, some none, some none, none, some none, some none, none, none, some none, some none, some none, none, none, some none, none, some none, some none, none, some none, some none, some none, some none, some none] : List (Option (Option Nat))).mapIdx (rx_nv ad (fun _ => 0)) = [.int 0, .null, .int 0, .null, .int 0, .null, .null, .null, .null, .null, .int 0, .int 0, .int 0, .int 0, .int 0, .int 0, .int 0, .int 0, .int 0, .int 0, .int 0, .null, .null, .null, .null, .null, .null, .null, .null, .null, .null, .null, .null, .null, .null, .int 0, .null, .null, .null, .null, .null, .int 0, .null, .null, .null, .int 0, .null, .null, .int 0, .null, .null, .int 0, .int 0, .null, .null, .null, .int 0, .int 0, .null, .int 0, .null, .null, .int 0, .null, .null, .null, .null, .null] := rfl
theorem lw_w10 {cy : Nat → ClassId} (q : Nat) (ad : Nat → Nat) : [(q, (.inr (10, [.null, .int 0, .int 0, .null, .null, .null, .null, .null, .null, .null, .null]) : va_E))] = rx_wn 0 [(10, 0, [some none, none, none, some none, some none, some none, some none, some none, some none, some none, some none])] cy (va_up ad 0 q) rx_S0 := by
  show _ = [(va_up ad 0 q (0 + 0), rx_en cy (va_up ad 0 q) rx_S0 (0 + 0) ((10, 0, [some none, none, none, some none, some none, some none, some none, some none, some none, some none, some none])))]
  rw [← lw_m10 (va_up ad 0 q)]
  rfl
theorem lw_w11 {cy : Nat → ClassId} (q : Nat) (ad : Nat → Nat) : [(q, (.inr (11, [.int 0, .null, .int 0, .null, .int 0, .null, .null, .null, .null, .null, .int 0, .int 0, .int 0, .int 0, .int 0, .int 0, .int 0, .int 0, .int 0, .int 0, .int 0, .null, .null, .null, .null, .null, .null, .null, .null, .null, .null, .null, .null, .null, .null, .int 0, .null, .null, .null, .null, .null, .int 0, .null, .null, .null, .int 0, .null, .null, .int 0, .null, .null, .int 0, .int 0, .null, .null, .null, .int 0, .int 0, .null, .int 0, .null, .null, .int 0, .null, .null, .null, .null, .null]) : va_E))] = rx_wn 94 [(11, 0, [none, some none, none, some none, none, some none, some none, some none, some none, some none, none, none, none, none, none, none, none, none, none, none, none, some none, some none, some none, some none, some none, some none, some none, some none, some none, some none, some none, some none, some none, some none, none, some none, some none, some none, some none, some none, none, some none, some none, some none, none, some none, some none, none, some none, some none, none, none, some none, some none, some none, none, none, some none, none, some none, some none, none, some none, some none, some none, some none, some none])] cy (va_up ad 94 q) rx_S0 := by
  show _ = [(va_up ad 94 q (94 + 0), rx_en cy (va_up ad 94 q) rx_S0 (94 + 0) ((11, 0, [none, some none, none, some none, none, some none, some none, some none, some none, some none, none, none, none, none, none, none, none, none, none, none, none, some none, some none, some none, some none, some none, some none, some none, some none, some none, some none, some none, some none, some none, some none, none, some none, some none, some none, some none, some none, none, some none, some none, some none, none, some none, some none, none, some none, some none, none, none, some none, some none, some none, none, none, some none, none, some none, some none, none, some none, some none, some none, some none, some none])))]
  rw [← lw_m11 (va_up ad 94 q)]
  rfl

set_option maxHeartbeats 4000000 in
set_option maxRecDepth 100000 in
/-- THE LAW, from its entry, over what the pure part owes -/
theorem whole_start_gen {p : Program} {e : Env} {s : State} {m : MethodId} {below : List Frame} {meth : Method} {c : Code} (l : Launch) {b L : Nat} {xs : Nat → Int32} (hL3 : L ≤ 3072) (C0 : lw_At p s m meth c b L xs) {N : Nat} {Inv : Nat → rx_S → rx_S → Prop} {zC0 zM0 : rx_S} (h10 : CT 0 [(10, 0, [some none, none, none, some none, some none, some none, some none, some none, some none, some none, some none])] 100 mX10_init [.ref 0] rx_S0 93 6675 (fun E2 S2 => E2 = e94 ∧ S2 = zC0)) (h11 : CT 94 [(11, 0, [none, some none, none, some none, none, some none, some none, some none, some none, some none, none, none, none, none, none, none, none, none, none, none, none, some none, some none, some none, some none, some none, some none, some none, some none, some none, some none, some none, some none, some none, some none, none, some none, some none, some none, some none, some none, none, some none, some none, some none, none, some none, some none, none, some none, some none, none, none, some none, some none, some none, none, none, some none, none, some none, some none, none, some none, some none, some none, some none, some none])] 100 mX11_init [.ref 94] rx_S0 44 11558 (fun E2 S2 => E2 = e45 ∧ S2 = zM0)) (h0 : Inv 0 zC0 zM0) (hst : LawStep N Inv) (hskip : ∀ n SC SM, n < 512 → Inv n SC SM → Inv (n + 1) SC SM) : W p l e room_1 s m #[Value.ref b] below meth c s.heap [] 0 0 (lw_Z below #[Value.ref b] s) (entryFrame m ([Value.ref b] : List Value).toArray 4) := by
  obtain ⟨hx, hb, hr, hml, hown, hts, hX, hbl, hlocks, hgv⟩ := id C0
  have hT : ∀ w ∈ rx_T, w.before #[Value.ref b] s = true := fun w hw => hts w (List.mem_filter.mp hw).1
  have hT9 : ∀ w ∈ tables_1, w.before #[Value.ref b] s = true := fun w hw => hts w (List.mem_append_right _ hw)
  obtain ⟨c0, iS0, hKn0⟩ := u_known (C := RX0) (T := TX0) (N := 4) (n := 4) hT iX0 (hT _ (rx_c2 73 rfl rfl))
  obtain ⟨c1, iS1, hKn1⟩ := u_known (C := RX1) (T := TX1) (N := 5) (n := 5) hT iX1 (hT _ (rx_c2 92 rfl rfl))
  obtain ⟨c2, iS2, hKn2⟩ := u_known (C := RX2) (T := TX2) (N := 5) (n := 5) hT iX2 (hT _ (rx_c1 35 rfl rfl))
  obtain ⟨c3, iS3, hKn3⟩ := u_known (C := RX3) (T := TX3) (N := 5) (n := 5) hT iX3 (hT _ (rx_c1 235 rfl rfl))
  obtain ⟨c4, iS4, hKn4⟩ := u_known (C := RX4) (T := TX4) (N := 10) (n := 10) hT iX4 (hT _ (rx_c1 118 rfl rfl))
  obtain ⟨c5, iS5, hKn5⟩ := u_known (C := RX5) (T := TX5) (N := 1) (n := 1) hT iX5 (hT _ (rx_c2 40 rfl rfl))
  obtain ⟨c6, iS6, hKn6⟩ := u_known (C := RX6) (T := TX6) (N := 7) (n := 7) hT iX6 (hT _ (rx_c2 34 rfl rfl))
  obtain ⟨c7, iS7, hKn7⟩ := u_known (C := RX7) (T := TX7) (N := 2) (n := 2) hT iX7 (hT _ (rx_c2 21 rfl rfl))
  obtain ⟨c8, iS8, hKn8⟩ := u_known (C := RX8) (T := TX8) (N := 11) (n := 11) hT iX8 (hT _ (rx_c1 29 rfl rfl))
  obtain ⟨c9, iS9, hKn9⟩ := u_known (C := RX9) (T := TX9) (N := 5) (n := 5) hT iX9 (hT _ (rx_c1 124 rfl rfl))
  obtain ⟨c10, iS10, hKn10⟩ := u_known (C := RX10) (T := TX10) (N := 11) (n := 11) hT iX10 (hT _ (rx_c1 21 rfl rfl))
  obtain ⟨c11, iS11, hKn11⟩ := u_known (C := RX11) (T := TX11) (N := 68) (n := 68) hT iX11 (hT _ (rx_c5 118 rfl rfl))
  obtain ⟨cB, hB1, hB2⟩ := rx_arr (hT _ (rx_c1 56 rfl rfl))
  obtain ⟨cI, hI1, hI2⟩ := rx_arr (hT _ (rx_c1 57 rfl rfl))
  obtain ⟨cJ, hJ1, hJ2⟩ := rx_arr (hT _ (rx_c1 198 rfl rfl))
  obtain ⟨cZ, hZ1, hZ2⟩ := rx_arr (hT _ (rx_c2 19 rfl rfl))
  have hO : rx_AOA s := by
    have h9 := hT9 _ (rx_d2 1 rfl)
    exact h9
  obtain ⟨cG, kG, compG, hG1, hG2, hG3⟩ := rx_AOA_spec hO
  have hGA : ArrOfT s cG (.array .int) := fun n z => ⟨fun k h => (by cases h), kG, hG2, compG, hG3⟩
  obtain ⟨dC, dI, hKc⟩ : ∃ (dC : Nat → ClassId) (dI : Nat → Nat → Nat), ∀ (k : Nat) (q : vw_C), rx_cl[k]? = some q → u_Kn s q.1 q.2.1 q.2.2 (dC k) (dI k) := by
    refine ⟨fun k => if k = 0 then c0 else if k = 1 then c1 else if k = 2 then c2 else if k = 3 then c3 else if k = 4 then c4 else if k = 5 then c5 else if k = 6 then c6 else if k = 7 then c7 else if k = 8 then c8 else if k = 9 then c9 else if k = 10 then c10 else c11, fun k => if k = 0 then iS0 else if k = 1 then iS1 else if k = 2 then iS2 else if k = 3 then iS3 else if k = 4 then iS4 else if k = 5 then iS5 else if k = 6 then iS6 else if k = 7 then iS7 else if k = 8 then iS8 else if k = 9 then iS9 else if k = 10 then iS10 else iS11, ?_⟩
    intro k q hq
    match k, hq with
    | 0, hq => cases hq; exact hKn0
    | 1, hq => cases hq; exact hKn1
    | 2, hq => cases hq; exact hKn2
    | 3, hq => cases hq; exact hKn3
    | 4, hq => cases hq; exact hKn4
    | 5, hq => cases hq; exact hKn5
    | 6, hq => cases hq; exact hKn6
    | 7, hq => cases hq; exact hKn7
    | 8, hq => cases hq; exact hKn8
    | 9, hq => cases hq; exact hKn9
    | 10, hq => cases hq; exact hKn10
    | 11, hq => cases hq; exact hKn11
    | k + 12, hq => simp [rx_cl] at hq
  obtain ⟨cy, y0, y1, y2, y3, y4⟩ : ∃ cy : Nat → ClassId, cy 0 = cB ∧ cy 1 = cI ∧ cy 2 = cJ ∧ cy 3 = cZ ∧ cy 4 = cG := ⟨fun k => if k = 0 then cB else if k = 1 then cI else if k = 2 then cJ else if k = 3 then cZ else cG, rfl, rfl, rfl, rfl, rfl⟩
  have hK : va_K (dC, dI) rx_cl (rx_tys cy) s := by
    refine ⟨hKc, fun k q hq => ?_⟩
    unfold rx_tys at hq
    rw [y0, y1, y2, y3, y4] at hq
    match k, hq with
    | 0, hq => cases hq; exact ⟨hB1, hB2⟩
    | 1, hq => cases hq; exact ⟨hI1, hI2⟩
    | 2, hq => cases hq; exact ⟨hJ1, hJ2⟩
    | 3, hq => cases hq; exact ⟨hZ1, hZ2⟩
    | 4, hq => cases hq; exact ⟨hGA, hG1⟩
    | k + 5, hq => simp at hq
  have hN : rx_NW s := ⟨fun a i b n d h hm => va_Nw.of rfl (hT9 _ hm), fun a i x h hm => va_Nw.of rfl (hT9 _ hm)⟩
  have hg9 : ∀ w ∈ rx_gn, w.before #[Value.ref b] s = true := flat_of_before _ hgv
  have hAn : ∀ a : Nat, a < s.heap.size → ¬ lw_A s a := fun a ha h => by unfold lw_A at h; omega
  obtain ⟨adK, adV, hVS, hVR⟩ := vk_Sof (args := #[Value.ref b]) (s := s) (N := 2) (tm := rx_tm) (len := rx_len) (byt := rx_byt) (A := lw_A s) (by decide) (fun i hi => hg9 _ (rx_g1 i hi)) (fun i hi => hg9 _ (rx_g2 i hi)) (fun i hi => hg9 _ (rx_g3 i hi)) (fun i hi => hg9 _ (rx_g4 i hi)) (fun i hi j hj => hg9 _ (rx_g5 i hi j hj)) (fun i j hi hj hij => (rx_g6 i hi j hj hij).imp (hg9 _) (hg9 _)) hAn
  have hR0 : vk_R RX9 25 (rx_txt.getD 0 "") (adK 0) s := vk_R.of (A := #[Value.ref b]) (hT9 _ (rx_d1 129 rfl)) (hVR 0 (by decide))
  have hR1 : vk_R RX9 79 (rx_txt.getD 1 "") (adK 1) s := vk_R.of (A := #[Value.ref b]) (hT9 _ (rx_d2 225 rfl)) (hVR 1 (by decide))
  have hZc : va_Z "java/lang/String" "COMPACT_STRINGS" "Z" (.int 1) (lw_A s) s s.heap := va_Zof (args := #[Value.ref b]) (hT9 _ (rx_d1 139 rfl)) (hT _ (rx_c1 6 rfl rfl)) (va_eqi (hg9 _ rx_g7.1)) hAn
  have hZf := va_Zqof (args := #[Value.ref b]) (A := lw_A s) (hT9 _ (rx_d1 155 rfl)) (hT _ (rx_c1 8 rfl rfl)) (hg9 _ rx_g7.2) hAn
  obtain ⟨ad0, z1, z2, z3, z4, hSt0⟩ : ∃ ad0 : Nat → Nat, (∀ i, i < 2 → ad0 (1000 + i) = adK i) ∧ (∀ i, i < 2 → ad0 (2000 + i) = adV i) ∧ ad0 5000 = b ∧ True ∧ rx_STR (lw_A s) ad0 s s.heap := by
    have mk : ∀ (fm : Nat) (v : Value), (v = .null ∨ v = .ref 3000) → (∀ ad : Nat → Nat, ad 3000 = fm → va_Z "jdk/internal/util/Preconditions" "SIOOBE_FORMATTER" "Ljava/util/function/BiFunction;" (rx_cv ad v) (lw_A s) s s.heap) → ∃ ad0 : Nat → Nat, (∀ i, i < 2 → ad0 (1000 + i) = adK i) ∧ (∀ i, i < 2 → ad0 (2000 + i) = adV i) ∧ ad0 5000 = b ∧ True ∧ rx_STR (lw_A s) ad0 s s.heap := by
      intro fm v hv hZ
      refine ⟨fun k => if k = 5000 then b else if k = 3000 then fm else if k < 2000 then adK (k - 1000) else adV (k - 2000), ?_, ?_, rfl, trivial, ?_, ?_, ?_, hZc, v, hv, hZ _ rfl⟩
      · intro i hi
        show (if 1000 + i = 5000 then b else if 1000 + i = 3000 then fm else if 1000 + i < 2000 then adK (1000 + i - 1000) else adV (1000 + i - 2000)) = _
        rw [if_neg (by omega), if_neg (by omega), if_pos (by omega), show 1000 + i - 1000 = i by omega]
      · intro i hi
        show (if 2000 + i = 5000 then b else if 2000 + i = 3000 then fm else if 2000 + i < 2000 then adK (2000 + i - 1000) else adV (2000 + i - 2000)) = _
        rw [if_neg (by omega), if_neg (by omega), if_neg (by omega), show 2000 + i - 2000 = i by omega]
      · refine ⟨fun i hi => ?_, fun i j hi hj hij => ?_⟩
        · have e1 : (if 1000 + i = 5000 then b else if 1000 + i = 3000 then fm else if 1000 + i < 2000 then adK (1000 + i - 1000) else adV (1000 + i - 2000)) = adK i := by rw [if_neg (by omega), if_neg (by omega), if_pos (by omega), show 1000 + i - 1000 = i by omega]
          have e2 : (if 2000 + i = 5000 then b else if 2000 + i = 3000 then fm else if 2000 + i < 2000 then adK (2000 + i - 1000) else adV (2000 + i - 2000)) = adV i := by rw [if_neg (by omega), if_neg (by omega), if_neg (by omega), show 2000 + i - 2000 = i by omega]
          have h9 := hVS.1 i hi
          dsimp only
          rw [e1, e2]
          exact h9
        · have f : ∀ i, i < 2 → (if 1000 + i = 5000 then b else if 1000 + i = 3000 then fm else if 1000 + i < 2000 then adK (1000 + i - 1000) else adV (1000 + i - 2000)) = adK i := fun i hi => by rw [if_neg (by omega), if_neg (by omega), if_pos (by omega), show 1000 + i - 1000 = i by omega]
          dsimp only at hij
          rw [f i hi, f j hj] at hij
          exact hVS.2 i j hi hj hij
      · exact hR0
      · exact hR1
    rcases hZf with h | ⟨t, h⟩
    · exact mk 0 .null (Or.inl rfl) (fun ad _ => h)
    · exact mk t (.ref 3000) (Or.inr rfl) (fun ad e9 => by simp only [rx_cv]; rw [e9]; exact h)
  have hS : va_S (lw_A s) s.heap s.heap [] := va_S.rf
  have hA : ∀ q : Nat, s.heap.size ≤ q → lw_A s q := fun _ h => h
  have hP : va_P (dC, dI) rx_cl [] s.heap := fun k q h => by simp at h
  have hD : va_D (lw_A s) [] := ⟨fun i j p q h => by simp at h, fun k q h => by simp at h⟩
  have hl := lv_entry ([.ref b]) (n := 4) (Nat.le_of_ble_eq_true rfl)
  rw [lg_entry_eq]
  generalize (lg_sl ([.ref b]) ++ List.replicate (4 - (lg_sl ([.ref b])).length) Slot.unset).toArray = ls at hl ⊢
  have hl : lv_has ls 4 [(0, .ref b)] := hl
  refine va_new (ci := 10) (fs := [.null, .int 0, .int 0, .null, .null, .null, .null, .null, .null, .null, .null]) (C := RX10) (T := TX10) (N := 11) hx hb hT iX10 tyX10 tyX10_ok hown (hT _ (rx_c1 20 rfl rfl)) (hT _ (rx_c1 21 rfl rfl)) (hT _ (rx_c1 1 rfl rfl)) hK hP hD hS hA rfl lw_f10 (by decide) (by decide) dL_law_0 (fun q0 H hP hD hS => ?_)
  have g1 : rx_ag 0 ad0 (va_up ad0 0 q0) := fun k hk => by
    have : k ≠ 0 := by omega
    simp [va_up, this]
  have hw1 : ([] : va_W) ++ [(q0, .inr (10, [.null, .int 0, .int 0, .null, .null, .null, .null, .null, .null, .null, .null]))] = [] ++ rx_wn 0 [(10, 0, [some none, none, none, some none, some none, some none, some none, some none, some none, some none, some none])] cy (va_up ad0 0 q0) rx_S0 := congrArg (fun z => ([] : va_W) ++ z) (lw_w10 q0 ad0)
  rw [hw1] at hP hD
  refine lv_dup hx hb dL_law_3 rfl ?_
  refine lw_ctor (ad := va_up ad0 0 q0) (th := 0) (wr := []) (rest := [.ref q0]) C0 hK hN (rx_ag_x g1 hSt0) hO dL_law_4 h10 mm_X10_init (rx_c1 23 rfl rfl) (rx_c1 22 rfl rfl) rfl rfl (by decide) (Nat.le_of_ble_eq_true rfl) (by decide) hP hD hS hl.1 (fun ad1 H locs hg hP hD hS => ?_)
  have hw2 : [] ++ rx_wn 0 e94 cy ad1 zC0 = rx_w gC cy ad1 zC0 := rx_wn_w (b := 0) (N := 94) e94_ok
  rw [hw2] at hP hD
  have e0 : ad1 0 = q0 := (hg 0 (Or.inl (by decide))).trans (by simp [va_up])
  refine lv_astore_n (lv' := [(1, .ref q0), (0, .ref b)]) hx hb dL_law_7 rfl hl (by decide) rfl (fun ls hl => ?_)
  refine va_new (ci := 11) (fs := [.int 0, .null, .int 0, .null, .int 0, .null, .null, .null, .null, .null, .int 0, .int 0, .int 0, .int 0, .int 0, .int 0, .int 0, .int 0, .int 0, .int 0, .int 0, .null, .null, .null, .null, .null, .null, .null, .null, .null, .null, .null, .null, .null, .null, .int 0, .null, .null, .null, .null, .null, .int 0, .null, .null, .null, .int 0, .null, .null, .int 0, .null, .null, .int 0, .int 0, .null, .null, .null, .int 0, .int 0, .null, .int 0, .null, .null, .int 0, .null, .null, .null, .null, .null]) (C := RX11) (T := TX11) (N := 68) hx hb hT iX11 tyX11 tyX11_ok hown (hT _ (rx_c5 117 rfl rfl)) (hT _ (rx_c5 118 rfl rfl)) (hT _ (rx_c1 16 rfl rfl)) hK hP hD hS hA rfl lw_f11 (by decide) (by decide) dL_law_8 (fun q1 H hP hD hS => ?_)
  have g2 : rx_ag 94 ad1 (va_up ad1 94 q1) := fun k hk => by
    have : k ≠ 94 := by omega
    simp [va_up, this]
  have hw3 : rx_w gC cy ad1 zC0 ++ [(q1, .inr (11, [.int 0, .null, .int 0, .null, .int 0, .null, .null, .null, .null, .null, .int 0, .int 0, .int 0, .int 0, .int 0, .int 0, .int 0, .int 0, .int 0, .int 0, .int 0, .null, .null, .null, .null, .null, .null, .null, .null, .null, .null, .null, .null, .null, .null, .int 0, .null, .null, .null, .null, .null, .int 0, .null, .null, .null, .int 0, .null, .null, .int 0, .null, .null, .int 0, .int 0, .null, .null, .null, .int 0, .int 0, .null, .int 0, .null, .null, .int 0, .null, .null, .null, .null, .null]))] = rx_w gC cy ad1 zC0 ++ rx_wn 94 [(11, 0, [none, some none, none, some none, none, some none, some none, some none, some none, some none, none, none, none, none, none, none, none, none, none, none, none, some none, some none, some none, some none, some none, some none, some none, some none, some none, some none, some none, some none, some none, some none, none, some none, some none, some none, some none, some none, none, some none, some none, some none, none, some none, some none, none, some none, some none, none, none, some none, some none, some none, none, none, some none, none, some none, some none, none, some none, some none, some none, some none, some none])] cy (va_up ad1 94 q1) rx_S0 := congrArg (fun z => rx_w gC cy ad1 zC0 ++ z) (lw_w11 q1 ad1)
  rw [hw3] at hP hD
  refine lv_dup hx hb dL_law_11 rfl ?_
  have hSt1 : rx_STR (lw_A s) ad1 s s.heap := rx_ag_x hg (rx_ag_x g1 hSt0)
  have e94' : va_up ad1 94 q1 94 = q1 := by simp [va_up]
  refine W.eq (g2 := F0 m 12 ls [.ref (va_up ad1 94 q1 94), .ref q1]) (by rw [e94']) ?_
  refine lw_ctor (ad := va_up ad1 94 q1) (th := 94) (wr := rx_w gC cy ad1 zC0) (rest := [.ref q1]) C0 hK hN (rx_ag_x g2 hSt1) hO dL_law_12 h11 mm_X11_init (rx_c5 120 rfl rfl) (rx_c5 119 rfl rfl) rfl rfl (by decide) (Nat.le_of_ble_eq_true rfl) (by decide) hP hD hS hl.1 (fun ad2 H locs hg2 hP hD hS => ?_)
  have hw4 : rx_wn 94 e45 cy ad2 zM0 = rx_w gM cy ad2 zM0 := rx_wn_w (b := 94) (N := 45) e45_ok
  have g3 : rx_ag 94 ad1 ad2 := fun k hk => (hg2 k (by rcases hk with h | h; exact Or.inl (by show k < 94 + 1; omega); exact Or.inr h)).trans (g2 k hk)
  have hw5 : rx_w gC cy ad1 zC0 = rx_w gC cy ad2 zC0 := by
    have h9 := rx_ag_w (b := 0) (E := e94) (cy := cy) (S := zC0) (S' := zC0) g3 (by decide) (by decide +kernel) (fun _ _ _ => ⟨rfl, rfl⟩)
    rw [rx_wn_w (b := 0) (N := 94) e94_ok, rx_wn_w (b := 0) (N := 94) e94_ok] at h9
    exact h9.symm
  rw [hw4, hw5] at hP hD
  have e0' : ad2 0 = q0 := (g3 0 (Or.inl (by decide))).trans e0
  have e94'' : ad2 94 = q1 := (hg2 94 (Or.inl (by decide))).trans e94'
  have e5 : ad2 5000 = b := (g3 5000 (Or.inr (by decide))).trans ((hg 5000 (Or.inr (by decide))).trans ((g1 5000 (Or.inr (by decide))).trans z3))
  have hSt2 : rx_STR (lw_A s) ad2 s s.heap := rx_ag_x g3 hSt1
  have key : ∀ k, k < 139 → ∃ j e9, (rx_w gC cy ad2 zC0 ++ rx_w gM cy ad2 zM0)[j]? = some (ad2 k, e9) ∧ j = k := by
    intro k hk
    have lC : (rx_w gC cy ad2 zC0).length = 94 := by simp [rx_w, gC]
    by_cases h : k < 94
    · have hg9 := rx_w_get (G := gC) (cy := cy) (ad := ad2) (S := zC0) (k := k) (x := rx_desc k) ⟨⟨Nat.zero_le _, by show k < 0 + 94; omega⟩, rfl⟩
      exact ⟨k, _, by rw [List.getElem?_append_left (by omega)]; exact hg9, rfl⟩
    · have hg9 := rx_w_get (G := gM) (cy := cy) (ad := ad2) (S := zM0) (k := k) (x := rx_desc k) ⟨⟨by show 94 ≤ k; omega, by show k < 94 + 45; omega⟩, rfl⟩
      exact ⟨k, _, by rw [List.getElem?_append_right (by omega), lC]; exact hg9, rfl⟩
  have hLD : lw_D ad2 s := by
    refine ⟨fun k hk => ?_, fun j k hj hk hjk => ?_⟩
    · obtain ⟨i, e9, h9, -⟩ := key k hk
      exact hD.2 i _ h9
    · obtain ⟨i1, f1, h1, r1⟩ := key j hj
      obtain ⟨i2, f2, h2, r2⟩ := key k hk
      have := hD.1 i1 i2 _ _ h1 h2 hjk
      omega
  have hC : lw_C p s m meth c b L xs (dC, dI) cy ad2 := ⟨C0, hK, hN, hSt2, hLD, e5⟩
  refine lv_astore_n (lv' := [(2, .ref q1), (1, .ref q0), (0, .ref b)]) hx hb dL_law_15 rfl hl (by decide) rfl (fun ls hl => ?_)
  refine lv_iconst (v := 0) hx hb dL_law_16 (by decide) ?_
  refine lv_istore_n (lv' := [(3, .int 0), (2, .ref q1), (1, .ref q0), (0, .ref b)]) hx hb dL_law_17 rfl hl (by decide) rfl (fun ls hl => ?_)
  refine W.widen (k := 600000) (n := 7302250) (by decide) (by decide) ?_
  have hJ : lw_J gC gM (dC, dI) cy ad2 s H locs zC0 zM0 := ⟨fun k z hz => hP k z (by rw [List.getElem?_append_left ((List.getElem?_eq_some_iff.mp hz).1)]; exact hz), fun k z hz => hP ((rx_w gC cy ad2 zC0).length + k) z (by rw [List.getElem?_append_right (by omega)]; rw [show (rx_w gC cy ad2 zC0).length + k - (rx_w gC cy ad2 zC0).length = k by omega]; exact hz), hS⟩
  have hlh : rx_lh ad2 ls 4 [some (.ref 5000), some (.ref 0), some (.ref 94), some (.int (nI 0))] := by
    refine ⟨hl.1, hl.2.1, fun i v hv => ?_⟩
    match i, hv with
    | 0, hv => cases hv; simp only [rx_cv]; rw [e5]; exact lv_at hl 3 rfl
    | 1, hv => cases hv; simp only [rx_cv]; rw [e0']; exact lv_at hl 2 rfl
    | 2, hv => cases hv; simp only [rx_cv]; rw [e94'']; exact lv_at hl 1 rfl
    | 3, hv => cases hv; exact lv_at hl 0 rfl
    | i + 4, hv => simp at hv
  exact lw_loop hC hL3 hst hskip (L + 6) 0 0 zC0 zM0 rfl (by omega) (by omega) h0 H locs ls hJ hlh

theorem whole_start_of {p : Program} {e : Env} {s : State} {m : MethodId} {below : List Frame} {meth : Method} {c : Code} (l : Launch) {b L : Nat} {xs : Nat → Int32} (hL3 : L ≤ 3072) (C0 : lw_At p s m meth c b L xs) {N : Nat} {Inv : Nat → rx_S → rx_S → Prop} (h0 : Inv 0 zC zM) (hst : LawStep N Inv) (hskip : ∀ n SC SM, n < 512 → Inv n SC SM → Inv (n + 1) SC SM) : W p l e room_1 s m #[Value.ref b] below meth c s.heap [] 0 0 (lw_Z below #[Value.ref b] s) (entryFrame m ([Value.ref b] : List Value).toArray 4) := whole_start_gen l hL3 C0 (ct_X10_init_0 (d := 94)) (ct_X11_init_94 (d := 98)) h0 hst hskip
