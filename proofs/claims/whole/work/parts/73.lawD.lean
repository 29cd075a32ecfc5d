
theorem rx_AOA_spec {s : State} (h : rx_AOA s) : ∃ c k comp, s.vm.findClass ("[" ++ (FieldType.array .int).toString) = some c ∧ s.vm.classes[c]? = some k ∧ k.kind = .array comp (.array .int) := by
  have h2 : (Cond.arrayOver (.array .int)).holds #[] s none s [] = true := h
  simp only [Cond.holds, Cond.value, beq_iff_eq] at h2
  cases hc : s.vm.findClass (FieldType.array .int).toString with
  | none => simp [hc] at h2
  | some comp =>
    simp only [hc, Option.bind_some, Option.bind_eq_some_iff, Option.map_eq_some_iff] at h2
    obtain ⟨c, hi, k, hk, hb⟩ := h2
    cases hkind : k.kind with
    | array component ty =>
      rw [hkind] at hb
      simp at hb
      exact ⟨c, k, component, hb.2, hk, by rw [hkind, hb.1]⟩
    | _ => rw [hkind] at hb; simp at hb
theorem rx_arr {s : State} {args : Array Value} {ty : FieldType} (h : (Cond.arrayClass ty).before args s = true) : ∃ cA, ArrOfT s cA ty ∧ s.vm.findClass ("[" ++ ty.toString) = some cA := by
  obtain ⟨c, k, comp, h1, h2, h3⟩ := Cond.arrayClass_spec (args := args) (first := s) (o := none) (idx := []) h
  exact ⟨c, fun n z => ⟨fun k h => (by cases h), k, h2, comp, h3⟩, h1⟩
/-- the String constants' terms -/
def rx_tm (i : Nat) : Term := .string RX9 (if i = 0 then 25 else 79)
def rx_gn : List Cond := flatC (Jvm.Cond.and given_1 narrow_1)
set_option maxRecDepth 100000 in
theorem rx_g1 : ∀ i, i < 2 → Cond.exactly (rx_tm i) "java/lang/String" ∈ rx_gn := by decide +kernel
set_option maxRecDepth 100000 in
theorem rx_g2 : ∀ i, i < 2 → Cond.eq (.field (rx_tm i) "java/lang/String" "coder" "B") (.int 0) ∈ rx_gn := by decide +kernel
set_option maxRecDepth 100000 in
theorem rx_g3 : ∀ i, i < 2 → Cond.arrayOf (.field (rx_tm i) "java/lang/String" "value" "[B") .byte ∈ rx_gn := by decide +kernel
set_option maxRecDepth 100000 in
theorem rx_g4 : ∀ i, i < 2 → Cond.eq (.length (.field (rx_tm i) "java/lang/String" "value" "[B")) (.int (Int32.ofNat (rx_len.getD i 0))) ∈ rx_gn := by decide +kernel
set_option maxRecDepth 100000 in
theorem rx_g5 : ∀ i, i < 2 → ∀ j, j < rx_len.getD i 0 → Cond.eq (.elem (.field (rx_tm i) "java/lang/String" "value" "[B") (.int (Int32.ofNat j))) (.int ((rx_byt.getD i []).getD j 0)) ∈ rx_gn := by decide +kernel
set_option maxRecDepth 100000 in
theorem rx_g6 : ∀ i, i < 2 → ∀ j, j < 2 → i ≠ j → Cond.not (Cond.eq (rx_tm i) (rx_tm j)) ∈ rx_gn ∨ Cond.not (Cond.eq (rx_tm j) (rx_tm i)) ∈ rx_gn := by decide +kernel
set_option maxRecDepth 100000 in
theorem rx_g7 : Cond.eq (.static "java/lang/String" "COMPACT_STRINGS" "Z") (.int 1) ∈ rx_gn ∧ Cond.isRef (.static "jdk/internal/util/Preconditions" "SIOOBE_FORMATTER" "Ljava/util/function/BiFunction;") ∈ rx_gn := by decide +kernel
section LWS
variable {p : Program} {l : Launch} {e : Env} {s : State} {m : MethodId} {below : List Frame} {meth : Method} {c : Code} {b L : Nat} {xs : Nat → Int32} {D : va_G} {cy : Nat → ClassId} {ad : Nat → Nat} {Q : State → Prop}
/-- a constructor called from the law; what stands ahead of it stays -/
theorem lw_ctor {M' : rx_M} {idx b' th mc' ms' n0 n1 pc : Nat} {Ec Ec' : List rx_E} {S S' : rx_S} {wr : va_W} {H : Heap} {locs : List Loc} {arr : Array Slot} {rest : List Value} (C0 : lw_At p s m meth c b L xs) (hK : va_K D rx_cl (rx_tys cy) s) (hN : rx_NW s) (hSt : rx_STR (lw_A s) ad s s.heap) (hO : rx_AOA s) (hd : decode cL_law pc = .ok (.invokespecial idx, 3)) (hM : CT b' Ec 100 M' [.ref th] S mc' ms' (fun E2 S2 => E2 = Ec' ∧ S2 = S')) (hm : rx_m M' 0) (hi : Cond.instanceMethod M'.2.2.2 ∈ rx_T) (hl : Cond.methodLink R_law idx M'.2.2.2 ∈ rx_T) (hnm : M'.2.2.2.name = "<init>") (hret : M'.2.2.1 = none) (hfit : 1 ≤ M'.2.1) (hst : (rest.map fun v => v.category).sum ≤ 8) (hmm : n0 + mc' ≤ 600000 ∧ n1 + ms' ≤ 7302250) (hP : va_P D rx_cl (wr ++ rx_wn b' Ec cy ad S) H) (hD : va_D (lw_A s) (wr ++ rx_wn b' Ec cy ad S)) (hS : va_S (lw_A s) s.heap H locs) (hL : arr.size = 4)
    (kk : ∀ (ad2 : Nat → Nat) (H1 : Heap) (locs1 : List Loc), rx_ag (b' + Ec.length) ad ad2 → va_P D rx_cl (wr ++ rx_wn b' Ec' cy ad2 S') H1 → va_D (lw_A s) (wr ++ rx_wn b' Ec' cy ad2 S') → va_S (lw_A s) s.heap H1 locs1 → W p l e room_1 s m #[Value.ref b] below meth c H1 locs1 (n0 + mc') (n1 + ms') Q (F0 m (pc + 3) arr rest)) : W p l e room_1 s m #[Value.ref b] below meth c H locs n0 n1 Q (F0 m pc arr (.ref (ad th) :: rest)) := by
  obtain ⟨hx, hb, hr, hml, hown, hts, hX, hbl, hlocks, hgv⟩ := C0
  have hT : ∀ w ∈ rx_T, w.before #[Value.ref b] s = true := fun w hw => hts w (List.mem_filter.mp hw).1
  obtain ⟨hm1, hm2, hm3, hm4, hm5⟩ := hm
  have hAA : ∀ z, va_A (rx_wn b' Ec cy ad S) H.size z → lw_A s z := by
    intro z hz
    rcases hz with ⟨j, e9, hj⟩ | hz
    · exact hD.2 (wr.length + j) (z, e9) (by rw [List.getElem?_append_right (by omega)]; rw [show wr.length + j - wr.length = j by omega]; exact hj)
    · exact Nat.le_trans hS.1 hz
  have hPc : va_P D rx_cl (rx_wn b' Ec cy ad S) H := fun j z hj => hP (wr.length + j) z (by rw [List.getElem?_append_right (by omega)]; rw [show wr.length + j - wr.length = j by omega]; exact hj)
  have hDc : va_D (fun _ => True) (rx_wn b' Ec cy ad S) := ⟨fun i j x y hi hj hxy => by
    have h9 := hD.1 (wr.length + i) (wr.length + j) x y (by rw [List.getElem?_append_right (by omega)]; rw [show wr.length + i - wr.length = i by omega]; exact hi) (by rw [List.getElem?_append_right (by omega)]; rw [show wr.length + j - wr.length = j by omega]; exact hj) hxy
    omega, fun _ _ _ => trivial⟩
  have hpre : FrameBlind (va_Pc (([.ref th] : List Value).map (rx_cv ad)) (rx_PcN b' Ec D cy ad S H.size)) ∧ ∀ U : State, U.heap = H → s.WarmedH U.vm → va_Pc (([.ref th] : List Value).map (rx_cv ad)) (rx_PcN b' Ec D cy ad S H.size) (([.ref th] : List Value).map (rx_cv ad)).toArray U := by
    refine ⟨fun a U g mk h => ?_, fun U hU hW => ?_⟩
    · obtain ⟨h1, h2, h3, h4, h5, h6, h7, h8⟩ := h
      exact ⟨h1, h2, h3, va_K.moved (u := U) (U := U.calling g mk a) (Vm.Alike.refl U.vm) h4, h5, h6.same rfl, h7.same rfl, h8.moved (Vm.Alike.refl U.vm)⟩
    · refine ⟨rfl, by rw [hU], by rw [hU]; exact hPc, va_K.moved hW.alike hK, hDc, hN.warm hW, ?_, hO.moved hW.alike⟩
      rw [hU]
      exact ((hSt.kept hS.2.1).warm hW).narrow hAA
  have hMet := rx_metN hM hfit hm1 hnm l D cy ad H.size
  have hroom : (100 + 1 ≤ room_1.frames) ∧ (8 + (M'.2.1 + 11) + 64 * 100 ≤ room_1.locals) := ⟨by decide, by show _ ≤ 84000; omega⟩
  have hws : rx_ws M' = Cond.code M'.2.2.2 M'.1 M'.2.1 none :: rx_T := by show _ :: _ = _; rw [hret]
  have hrun := va_runI (e := e) (below := below) (meth := meth) (cells := n0) (slots := n1) (locs := locs) (R := room_1) (As := []) (rest := rest) (b := ad th) (index := idx) (n := 0) (maxL := M'.2.1) (bytes := M'.1) (cc := cL_law) (nL := 4) (g := F0 m pc arr (.ref (ad th) :: rest)) ⟨hx, hb, hml, hown, hT⟩ hMet ⟨callB_of 0 hT (rx_good (M := M') hm2) hws rfl rfl (hT _ hm3) (hT _ hl) hm4 hroom, hnm, hT _ hi⟩ hpre rfl rfl hL rfl (lv_room hst) hd hmm
  intro T hT9 X
  obtain ⟨v, st₀, t, T', Lc, h0, X', hLc, e1, e2, ⟨E2, S2, ad2, a1, a2, ⟨a3, a4⟩, a5, a6, a7⟩, go⟩ := hrun T hT9 X
  cases a2
  subst a3
  subst a4
  obtain ⟨z1, z2⟩ := a7
  rw [h0] at z1 z2
  obtain ⟨hP2, hD2⟩ := rx_joinA hP hD (fun z g1 g2 => z2 z g1 g2) hAA a5 a6
  rw [← e1] at hP2
  obtain ⟨t2, c1, c2⟩ := kk ad2 T'.heap (locs ++ Lc) a1 hP2 hD2 ⟨Nat.le_trans hS.1 (by rw [e1]; exact z1), fun z g1 g2 => by rw [e1, z2 z (Nat.lt_of_lt_of_le g1 hS.1) (fun w => g2 (hAA z w))]; exact hS.2.1 z g1 g2, fun z hz => by
    rcases List.mem_append.mp hz with h | h
    · exact hS.2.2 z h
    · exact hAA _ (hLc z h)⟩ T' rfl X'
  exact ⟨t2, go t2 c1, c2⟩
end LWS

def e94 : List rx_E := [(10, 0, [some (some 1), none, none, some (some 2), some (some 13), some (some 32), some (some 33), some (some 80), some (some 81), some (some 88), some (some 91)]), (12, 2000, []), (8, 0, [some (some 3), some (some 8), some (some 9), some (some 10), some (some 11), some (some 12), none, none, none, none, none]), (2, 0, [some (some 4), some (some 5), some (some 6), some (some 7), none]), (13, 420, []), (13, 7, []), (13, 20, []), (13, 9, []), (13, 6, []), (13, 6, []), (13, 6, []), (13, 4, []), (13, 4, []), (4, 0, [some (some 14), some (some 19), some (some 30), some (some 31), none, none, none, none, none, none]), (9, 0, [some (some 15), some (some 16), some (some 17), some (some 18), none]), (14, 24, []), (13, 401, []), (13, 401, []), (14, 401, []), (8, 0, [some (some 20), some (some 25), some (some 26), some (some 27), some (some 28), some (some 29), none, none, none, none, none]), (2, 0, [some (some 21), some (some 22), some (some 23), some (some 24), none]), (13, 420, []), (13, 7, []), (13, 20, []), (13, 9, []), (13, 6, []), (13, 6, []), (13, 6, []), (13, 4, []), (13, 4, []), (14, 10, []), (13, 10, []), (13, 48, []), (3, 0, [some (some 34), some (some 75), some (some 79), none, none]), (16, 40, [some (some 35), some (some 36), some (some 37), some (some 38), some (some 39), some (some 40), some (some 41), some (some 42), some (some 43), some (some 44), some (some 45), some (some 46), some (some 47), some (some 48), some (some 49), some (some 50), some (some 51), some (some 52), some (some 53), some (some 54), some (some 55), some (some 56), some (some 57), some (some 58), some (some 59), some (some 60), some (some 61), some (some 62), some (some 63), some (some 64), some (some 65), some (some 66), some (some 67), some (some 68), some (some 69), some (some 70), some (some 71), some (some 72), some (some 73), some (some 74)]), (13, 48, []), (13, 48, []), (13, 48, []), (13, 48, []), (13, 48, []), (13, 48, []), (13, 48, []), (13, 48, []), (13, 48, []), (13, 48, []), (13, 48, []), (13, 48, []), (13, 48, []), (13, 48, []), (13, 48, []), (13, 48, []), (13, 48, []), (13, 48, []), (13, 48, []), (13, 48, []), (13, 48, []), (13, 48, []), (13, 48, []), (13, 48, []), (13, 48, []), (13, 48, []), (13, 48, []), (13, 48, []), (13, 48, []), (13, 48, []), (13, 48, []), (13, 48, []), (13, 48, []), (13, 48, []), (13, 48, []), (13, 48, []), (13, 48, []), (13, 48, []), (13, 48, []), (13, 48, []), (16, 3, [some (some 76), some (some 77), some (some 78)]), (13, 48, []), (13, 48, []), (13, 48, []), (15, 3, []), (7, 0, [some (some 2), some (some 3)]), (6, 0, [some (some 2), some (some 80), some (some 82), some (some 84), some (some 85), some (some 86), some (some 87)]), (5, 0, [some (some 83)]), (13, 6, []), (13, 32, []), (15, 30, []), (13, 12, []), (13, 3, []), (0, 0, [some (some 2), some (some 80), some (some 89), some (some 90)]), (13, 48, []), (13, 64, []), (1, 0, [some (some 2), some (some 80), some (some 92), some (some 93), none]), (13, 20, []), (13, 20, [])]
def e45 : List rx_E := [(11, 0, [none, some (some 95), none, some (some 96), none, some (some 97), some (some 98), some (some 99), some (some 100), some (some 101), none, none, none, none, none, none, none, none, none, none, none, some (some 102), some (some 103), some (some 104), some (some 105), some (some 106), some (some 107), some (some 108), some (some 109), some (some 110), some (some 111), some (some 112), some (some 113), some (some 114), some (some 115), none, some (some 116), some (some 117), some (some 118), some (some 119), some (some 120), none, some (some 121), some (some 122), some (some 123), none, some (some 124), some (some 125), none, some (some 126), some (some 127), none, none, some (some 128), some (some 129), some (some 130), none, none, some (some 131), none, some (some 132), some (some 133), none, some (some 134), some (some 135), some (some 136), some (some 137), some (some 138)]), (12, 2000, []), (12, 2000, []), (13, 403, []), (13, 403, []), (13, 403, []), (14, 403, []), (14, 24, []), (14, 10, []), (13, 10, []), (13, 2, []), (13, 12, []), (13, 12, []), (13, 2, []), (13, 12, []), (13, 2, []), (13, 8, []), (13, 8, []), (13, 2, []), (13, 2, []), (13, 14, []), (13, 14, []), (15, 260, []), (13, 260, []), (13, 260, []), (13, 260, []), (13, 260, []), (13, 840, []), (13, 840, []), (13, 64, []), (13, 9, []), (13, 400, []), (13, 48, []), (13, 48, []), (13, 1920, []), (13, 32, []), (13, 36, []), (13, 3, []), (13, 12, []), (13, 64, []), (13, 20, []), (13, 20, []), (13, 9, []), (15, 3, []), (13, 144, [])]
theorem e94_ok : e94 = (List.range 94).map (fun j => rx_toE (rx_desc (0 + j))) := by decide +kernel
theorem e45_ok : e45 = (List.range 45).map (fun j => rx_toE (rx_desc (94 + j))) := by decide +kernel
def dfC : List (Option (Option Nat)) := [some none, none, none, some none, some none, some none, some none, some none, some none, some none, some none]
def dfM : List (Option (Option Nat)) := [none, some none, none, some none, none, some none, some none, some none, some none, some none, none, none, none, none, none, none, none, none, none, none, none, some none, some none, some none, some none, some none, some none, some none, some none, some none, some none, some none, some none, some none, some none, none, some none, some none, some none, some none, some none, none, some none, some none, some none, none, some none, some none, none, some none, some none, none, none, some none, some none, some none, none, none, some none, none, some none, some none, none, some none, some none, some none, some none, some none]
def fsC : List Value := [.null, .int 0, .int 0, .null, .null, .null, .null, .null, .null, .null, .null]
def fsM : List Value := [.int 0, .null, .int 0, .null, .int 0, .null, .null, .null, .null, .null, .int 0, .int 0, .int 0, .int 0, .int 0, .int 0, .int 0, .int 0, .int 0, .int 0, .int 0, .null, .null, .null, .null, .null, .null, .null, .null, .null, .null, .null, .null, .null, .null, .int 0, .null, .null, .null, .null, .null, .int 0, .null, .null, .null, .int 0, .null, .null, .int 0, .null, .null, .int 0, .int 0, .null, .null, .null, .int 0, .int 0, .null, .int 0, .null, .null, .int 0, .null, .null, .null, .null, .null]
theorem lw_f10 : ∀ j, j < 11 → defaultValue (tyX10 j) = vp_V fsC j := by decide +kernel
theorem lw_f11 : ∀ j, j < 68 → defaultValue (tyX11 j) = vp_V fsM j := by decide +kernel
def rx_nvd (r : Option (Option Nat)) : Value := match r with
  | none => .int 0
  | some _ => .null
theorem lw_mi (ad : Nat → Nat) : ∀ (l : List (Option (Option Nat))) (f : Nat → Int32), (∀ j, f j = 0) → (∀ o ∈ l, o = none ∨ o = some none) → l.mapIdx (rx_nv ad f) = l.map rx_nvd := by
  intro l
  induction l with
  | nil => intro f _ _; rfl
  | cons x l ih =>
    intro f hf h
    rw [List.mapIdx_cons, List.map_cons]
    have h1 := ih (fun j => f (j + 1)) (fun j => hf _) (fun o ho => h o (List.mem_cons_of_mem _ ho))
    have h2 : (fun i => rx_nv ad f (i + 1)) = rx_nv ad (fun j => f (j + 1)) := by
      funext i r
      cases r with
      | none => rfl
      | some q => cases q <;> rfl
    rw [h2, h1]
    congr 1
    rcases h x List.mem_cons_self with e | e
    · subst e; simp only [rx_nv, rx_nvd, hf]
    · subst e; rfl
theorem lw_mC : dfC.map rx_nvd = fsC := by decide +kernel
theorem lw_mM : dfM.map rx_nvd = fsM := by decide +kernel
theorem lw_dC : ∀ o ∈ dfC, o = none ∨ o = some none := by decide +kernel
theorem lw_dM : ∀ o ∈ dfM, o = none ∨ o = some none := by decide +kernel
theorem lw_w1 {cy : Nat → ClassId} {b ci : Nat} {df : List (Option (Option Nat))} {fs : List Value} (h1 : df.map rx_nvd = fs) (h2 : ∀ o ∈ df, o = none ∨ o = some none) (hci : ci < 12) (q : Nat) (ad : Nat → Nat) : [(q, (.inr (ci, fs) : va_E))] = rx_wn b [(ci, 0, df)] cy (va_up ad b q) rx_S0 := by
  have h3 := lw_mi (va_up ad b q) df (rx_S0.1 (b + 0)) (fun _ => rfl) h2
  have h4 : va_up ad b q (b + 0) = q := by simp [va_up]
  show _ = [(va_up ad b q (b + 0), rx_en cy (va_up ad b q) rx_S0 (b + 0) (ci, 0, df))]
  rw [h4]
  unfold rx_en
  rw [if_pos hci]
  show _ = [(q, Sum.inr (ci, df.mapIdx (rx_nv (va_up ad b q) (rx_S0.1 (b + 0)))))]
  rw [h3, h1]
