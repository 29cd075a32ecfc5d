theorem rx_vin {i : Int32} {n : Nat} (h : decide (i < 0 ∨ n ≤ i.toNatClampNeg) = false) : vp_in i n := of_decide_eq_false h
theorem rx_ret_i {v zr : Int32} {S zS : rx_S} (h : some (v, S) = some (zr, zS)) : rx_pi zr zS (some (.int v)) S := by cases h; exact ⟨rfl, rfl⟩
theorem rx_ret_l {v zr : Int64} {S zS : rx_S} (h : some (v, S) = some (zr, zS)) : rx_pl zr zS (some (.long v)) S := by cases h; exact ⟨rfl, rfl⟩
theorem rx_ret_v {v zr : Unit} {S zS : rx_S} (h : some (v, S) = some (zr, zS)) : rx_pv zS none S := by cases h; exact ⟨rfl, rfl⟩
theorem rx_ret_r {k : Nat} {v zr : Unit} {S zS : rx_S} (h : some (v, S) = some (zr, zS)) : rx_pr k zS (some (.ref k)) S := by cases h; exact ⟨rfl, rfl⟩

theorem dkq_34 : ∀ j : Nat, j < 40 → ([some 35, some 36, some 37, some 38, some 39, some 40, some 41, some 42, some 43, some 44, some 45, some 46, some 47, some 48, some 49, some 50, some 51, some 52, some 53, some 54, some 55, some 56, some 57, some 58, some 59, some 60, some 61, some 62, some 63, some 64, some 65, some 66, some 67, some 68, some 69, some 70, some 71, some 72, some 73, some 74] : List (Option Nat)).getD j none = some (35 + j) := by decide
theorem dkp_34 : ∀ j : Nat, j < 40 → rx_desc (35 + j) = (13, 48, []) := by decide
theorem dkr_34 {i : Int32} (h : vp_in i 40) : ([some 35, some 36, some 37, some 38, some 39, some 40, some 41, some 42, some 43, some 44, some 45, some 46, some 47, some 48, some 49, some 50, some 51, some 52, some 53, some 54, some 55, some 56, some 57, some 58, some 59, some 60, some 61, some 62, some 63, some 64, some 65, some 66, some 67, some 68, some 69, some 70, some 71, some 72, some 73, some 74] : List (Option Nat)).getD i.toNatClampNeg none = some (35 + i.toNatClampNeg) := dkq_34 _ (Nat.not_le.mp fun q => h (Or.inr q))
theorem dkv_34 {i : Int32} (h : vp_in i 40) : rx_at gC (35 + i.toNatClampNeg) (13, 48, []) := by
  have hl : i.toNatClampNeg < 40 := Nat.not_le.mp fun q => h (Or.inr q)
  refine ⟨⟨Nat.zero_le _, ?_⟩, dkp_34 _ hl⟩
  show 35 + i.toNatClampNeg < 0 + 94
  omega
theorem dkq_75 : ∀ j : Nat, j < 3 → ([some 76, some 77, some 78] : List (Option Nat)).getD j none = some (76 + j) := by decide
theorem dkp_75 : ∀ j : Nat, j < 3 → rx_desc (76 + j) = (13, 48, []) := by decide
theorem dkr_75 {i : Int32} (h : vp_in i 3) : ([some 76, some 77, some 78] : List (Option Nat)).getD i.toNatClampNeg none = some (76 + i.toNatClampNeg) := dkq_75 _ (Nat.not_le.mp fun q => h (Or.inr q))
theorem dkv_75 {i : Int32} (h : vp_in i 3) : rx_at gC (76 + i.toNatClampNeg) (13, 48, []) := by
  have hl : i.toNatClampNeg < 3 := Nat.not_le.mp fun q => h (Or.inr q)
  refine ⟨⟨Nat.zero_le _, ?_⟩, dkp_75 _ hl⟩
  show 76 + i.toNatClampNeg < 0 + 94
  omega
theorem ev_cVl1 {G : Nat × Nat} {d : Nat} {M : rx_M} {pc : Nat} {ls : List (Option Value)} {st : List Value} {S : rx_S} {Post : Option Value → rx_S → Prop} {M' : rx_M} {k ci n0 idx : Nat} {rs : List (Option Nat)} {a1 : Value} {x : Int64} {S1 : rx_S} (q : Nat) (hd : decode M.1 pc = .ok (.invokevirtual idx, 3)) (hM : EM G d M' (.ref k :: [a1]) S (rx_pl x S1)) (hm : rx_m M' 1) (hv : Cond.instanceMethod M'.2.2.2 ∈ rx_T ∧ Cond.selects M'.2.2.2.cls M'.2.2.2 M'.2.2.2 ∈ rx_T) (hlk : rx_lk M.2.2.2.cls idx M'.2.2.2) (hk : rx_at G k (ci, n0, rs)) (hci : ci < 12) (hc : (rx_cl[ci]?).map (fun x => x.1) = some M'.2.2.2.cls) (hfit : (rx_al (.ref k :: [a1])).length ≤ M'.2.1) (hst : (st.map fun v => v.category).sum ≤ 8) (hq : pc + 3 = q) (kk : EV G (d + 1) M q ls (.long x :: st) S1 Post) : EV G (d + 1) M pc ls (a1 :: .ref k :: st) S Post :=
  ev_callV (vs := [a1]) q hd hM hm hv hlk hk hci hc rfl hfit hst hq (fun r T h => by obtain ⟨rfl, rfl⟩ := h; exact kk)
