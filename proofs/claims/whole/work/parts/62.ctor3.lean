
/-! new int[n][k] -/
theorem rx_outer (c : ClassId) (N h0 : Nat) : ∀ i : Nat, Jvm.Free.Multi.outerC c N h0 i = arrV c N (fun j => va_rf (if j < i then some (h0 + 1 + j) else none))
  | 0 => by
    show ({ cls := c, slots := Array.replicate N .null, vm := .none } : Cell) = _
    rw [arrV_new]
    exact congrArg (arrV c N) (funext fun j => by simp [va_rf])
  | i + 1 => by
    show (Jvm.Free.Multi.outerC c N h0 i).setSlot i (.ref (h0 + 1 + i)) = _
    rw [rx_outer c N h0 i, arrV_store]
    congr 1
    funext j
    by_cases e : j = i
    · subst e
      simp [updV, va_rf]
    · have hh : (j < i + 1) = (j < i) := propext ⟨fun h => by omega, fun h => by omega⟩
      simp only [updV, e, if_false, hh]
/-- the cells' places, with m new ones from n on, laid from h on -/
def rx_ub (ad : Nat → Nat) (n m h : Nat) : Nat → Nat := fun k => if n ≤ k ∧ k < n + m then h + (k - n) else ad k
theorem rx_ub_in {ad : Nat → Nat} {n m h i : Nat} (hi : i < m) : rx_ub ad n m h (n + i) = h + i := by
  unfold rx_ub
  rw [if_pos ⟨by omega, by omega⟩]
  omega
theorem rx_ub_ag {ad : Nat → Nat} {n m h : Nat} (h1000 : n + m ≤ 1000) : rx_ag n ad (rx_ub ad n m h) := fun k hk => by
  unfold rx_ub
  rw [if_neg (by omega)]
theorem rx_D_grow {A : Nat → Prop} {b : Nat} {E xs : List rx_E} {D : va_G} {cy : Nat → ClassId} {ad : Nat → Nat} {S S' : rx_S} {H : Heap} (hD : va_D A (rx_wn b E cy ad S)) (hP : va_P D rx_cl (rx_wn b E cy ad S) H) (hA : ∀ q, H.size ≤ q → A q) (h1000 : b + E.length + xs.length ≤ 1000) : va_D A (rx_wn b (E ++ xs) cy (rx_ub ad (b + E.length) xs.length H.size) S') := by
  have key : ∀ (i : Nat) (q : Nat × va_E), (rx_wn b (E ++ xs) cy (rx_ub ad (b + E.length) xs.length H.size) S')[i]? = some q → (i < E.length ∧ q.1 = ad (b + i) ∧ q.1 < H.size ∧ A q.1) ∨ (E.length ≤ i ∧ q.1 = H.size + (i - E.length) ∧ A q.1) := by
    intro i q hq
    obtain ⟨h1, h2⟩ := rx_wn_of hq
    rw [List.length_append] at h1
    by_cases hi : i < E.length
    · have e : rx_ub ad (b + E.length) xs.length H.size (b + i) = ad (b + i) := rx_ub_ag h1000 _ (Or.inl (by omega))
      rw [e] at h2
      have hg := rx_wn_get (b := b) (cy := cy) (ad := ad) (S := S) (List.getElem?_eq_getElem hi)
      refine Or.inl ⟨hi, h2, ?_, ?_⟩
      · rw [h2]; exact (hP i _ hg).lt
      · rw [h2]; exact hD.2 i _ hg
    · have e : rx_ub ad (b + E.length) xs.length H.size (b + i) = H.size + (i - E.length) := by
        rw [show b + i = b + E.length + (i - E.length) by omega]
        exact rx_ub_in (by omega)
      rw [e] at h2
      exact Or.inr ⟨by omega, h2, by rw [h2]; exact hA _ (by omega)⟩
  refine ⟨fun i j x y hi hj hxy => ?_, fun k q hk => ?_⟩
  · rcases key i x hi with ⟨a1, a2, a3, -⟩ | ⟨a1, a2, -⟩ <;> rcases key j y hj with ⟨c1, c2, c3, -⟩ | ⟨c1, c2, -⟩
    · have g1 := rx_wn_get (b := b) (cy := cy) (ad := ad) (S := S) (List.getElem?_eq_getElem a1)
      have g2 := rx_wn_get (b := b) (cy := cy) (ad := ad) (S := S) (List.getElem?_eq_getElem c1)
      exact hD.1 i j _ _ g1 g2 (a2.symm.trans (hxy.trans c2))
    · omega
    · omega
    · omega
  · rcases key k q hk with ⟨-, -, -, h⟩ | ⟨-, -, h⟩ <;> exact h
theorem en_mna {b : Nat} {E E' : List rx_E} {d : Nat} {M : rx_M} {pc : Nat} {ls : List (Option Value)} {st : List Value} {S : rx_S} {n0 n1 mc ms : Nat} {Post : List rx_E → rx_S → Prop} {idx N K n : Nat} {vn vk : Int32} (q : Nat) (hd : decode M.1 pc = .ok (.multianewarray idx 2, 4)) (hcl : Cond.classLink M.2.2.2.cls idx ("[" ++ (FieldType.array .int).toString) ∈ rx_T) (hw : Cond.arrayClass .int ∈ rx_T) (hvn : ¬ vn < 0) (hvk : ¬ vk < 0) (hN : vn.toNatClampNeg = N) (hK : vk.toNatClampNeg = K) (hb1 : N * 4 ≤ 536870912) (hb2 : K * componentBytes .int ≤ 536870912) (hb3 : K ≤ 536870912) (hn : b + E.length = n) (hz : ∀ j, j < N → S.1 (n + 1 + j) = (fun _ => 0)) (h1000 : n + (N + 1) ≤ 1000) (hsb : rx_sb n E ls st = true)
    (hE' : E ++ ((16, N, (List.range N).map (fun i => some (some (n + 1 + i)))) :: List.replicate N (13, K, [])) = E') (hm : n0 + 1 + N ≤ mc ∧ n1 + N + N * K ≤ ms) (hq : pc + 4 = q) (k1 : EVN b E' d M q ls (.ref n :: st) S (n0 + 1 + N) (n1 + N + N * K) mc ms Post) : EVN b E d M pc ls (.int vk :: .int vn :: st) S n0 n1 mc ms Post := by
  subst hq
  subst hE'
  subst hn
  subst hN
  subst hK
  intro l D cy ad A p e R s m args below meth c H locs arr hok hRR hP hD hS hAs hL
  have hb := Bool.and_eq_true_iff.mp hsb
  have hb2' := Bool.and_eq_true_iff.mp hb.2
  generalize hxs : ((16, vn.toNatClampNeg, (List.range vn.toNatClampNeg).map (fun i => some (some (b + E.length + 1 + i)))) :: List.replicate vn.toNatClampNeg (13, vk.toNatClampNeg, []) : List rx_E) = xs at k1
  have hxl : xs.length = vn.toNatClampNeg + 1 := by rw [← hxs]; simp
  intro T hT X
  obtain ⟨vm₁, cA, comp, -, fA, fC, -, -, X', step⟩ := X.multianewarray2F hok.x hok.own (hok.ts _ hcl) hok.AOA.use (hok.ts _ hw) (g := F0 m pc arr (.int vk :: .int vn :: st.map (rx_cv ad))) rfl (by rw [hok.b]; exact hd) rfl hvn hvk hb1 hb2 hb3 rfl rfl (by omega) (by omega)
  have hcA : cA = cy 4 := Option.some.inj (fA.symm.trans (hok.K.2 4 (cy 4, .array .int) rfl).2)
  have hcm : comp = cy 1 := Option.some.inj (fC.symm.trans (hok.K.2 1 (cy 1, .int) rfl).2)
  subst hcA
  subst hcm
  generalize hF : Jvm.Free.Multi.fill (T.setVm vm₁) (cy 4) (cy 1) vn.toNatClampNeg vk.toNatClampNeg (defaultValue .int) vn.toNatClampNeg = F at X' step
  have hTh : (T.setVm vm₁).heap = H := hT
  obtain ⟨f1, f2, -, -⟩ := Jvm.Free.Multi.fill_facts (T.setVm vm₁) (cy 4) (cy 1) vn.toNatClampNeg vk.toNatClampNeg (defaultValue .int) vn.toNatClampNeg
  rw [hF, hTh] at f1 f2
  have hold : ∀ x : Nat, x < H.size → F.heap[x]? = H[x]? := fun x hx => by
    have := Jvm.Free.Multi.fill_old (T.setVm vm₁) (cy 4) (cy 1) vn.toNatClampNeg vk.toNatClampNeg (defaultValue .int) (a := x) (by rw [hTh]; exact hx) vn.toNatClampNeg
    rw [hF, hTh] at this
    exact this
  have hrow : ∀ j : Nat, j < vn.toNatClampNeg → F.heap[H.size + 1 + j]? = some (arrV (cy 1) vk.toNatClampNeg (fun _ => .int 0)) := fun j hj => by
    have := Jvm.Free.Multi.fill_inner (T.setVm vm₁) (cy 4) (cy 1) vn.toNatClampNeg vk.toNatClampNeg (defaultValue .int) vn.toNatClampNeg j hj
    rw [hF, hTh] at this
    rw [this, ← arrV_new]
    rfl
  rw [rx_outer] at f2
  have g : rx_ag (b + E.length) ad (rx_ub ad (b + E.length) xs.length H.size) := rx_ub_ag (by omega)
  have hw1 : rx_wn b (E ++ xs) cy (rx_ub ad (b + E.length) xs.length H.size) S = rx_wn b E cy ad S ++ rx_wn (b + E.length) xs cy (rx_ub ad (b + E.length) xs.length H.size) S := by
    rw [rx_wn_app, rx_ag_w g (Nat.le_refl _) hb.1 (fun _ _ _ => ⟨rfl, rfl⟩)]
  have hPn : va_P D rx_cl (rx_wn (b + E.length) xs cy (rx_ub ad (b + E.length) xs.length H.size) S) F.heap := by
    intro i z hi
    obtain ⟨hil, hi2⟩ := rx_wn_of hi
    have hgi := rx_wn_get (b := b + E.length) (cy := cy) (ad := rx_ub ad (b + E.length) xs.length H.size) (S := S) (List.getElem?_eq_getElem hil)
    rw [hi] at hgi
    have hz9 := Option.some.inj hgi
    rw [rx_ub_in hil] at hz9
    cases i with
    | zero =>
      have e0 : xs[0] = (16, vn.toNatClampNeg, (List.range vn.toNatClampNeg).map (fun i => some (some (b + E.length + 1 + i)))) := by simp [← hxs]
      have e16 : rx_en cy (rx_ub ad (b + E.length) xs.length H.size) S (b + E.length + 0) (16, vn.toNatClampNeg, (List.range vn.toNatClampNeg).map (fun i => some (some (b + E.length + 1 + i)))) = .inl (cy 4, vn.toNatClampNeg, .inr (.inr (.inr (.inr (fun i => ((((List.range vn.toNatClampNeg).map (fun i => some (some (b + E.length + 1 + i)))).getD i none).getD none).map (rx_ub ad (b + E.length) xs.length H.size)))))) := by simp [rx_en]
      have efun : (fun i : Nat => ((((List.range vn.toNatClampNeg).map (fun i => some (some (b + E.length + 1 + i)))).getD i none).getD none).map (rx_ub ad (b + E.length) xs.length H.size)) = (fun j => if j < vn.toNatClampNeg then some (H.size + 1 + j) else none) := by
        funext j
        rw [List.getD_eq_getElem?_getD, List.getElem?_map]
        by_cases hj : j < vn.toNatClampNeg
        · rw [List.getElem?_range hj, if_pos hj]
          simp only [Option.map_some, Option.getD_some]
          rw [show b + E.length + 1 + j = b + E.length + (1 + j) by omega, rx_ub_in (by omega)]
          rw [show H.size + (1 + j) = H.size + 1 + j by omega]
        · rw [List.getElem?_eq_none (by simp; omega), if_neg hj]
          rfl
      rw [efun] at e16
      rw [e0, e16] at hz9
      rw [hz9]
      show F.heap[H.size + 0]? = some _
      rw [Nat.add_zero, f2]
      rfl
    | succ j =>
      have hj : j < vn.toNatClampNeg := by omega
      have e1 : xs[j + 1] = (13, vk.toNatClampNeg, []) := by simp [← hxs]
      rw [e1] at hz9
      rw [hz9]
      have e13 : rx_en cy (rx_ub ad (b + E.length) xs.length H.size) S (b + E.length + (j + 1)) (13, vk.toNatClampNeg, []) = .inl (cy 1, vk.toNatClampNeg, .inl (fun _ => 0)) := by
        simp only [rx_en]
        rw [show b + E.length + (j + 1) = b + E.length + 1 + j by omega, hz j hj]
        rfl
      rw [e13]
      show F.heap[H.size + (j + 1)]? = some _
      rw [show H.size + (j + 1) = H.size + 1 + j by omega, hrow j hj]
      rfl
  have hPo : va_P D rx_cl (rx_wn b E cy ad S) F.heap := hP.kept (fun k9 x hx => hold x.1 ((hP k9 x hx).lt))
  have hP1 : va_P D rx_cl (rx_wn b (E ++ xs) cy (rx_ub ad (b + E.length) xs.length H.size) S) F.heap := by
    rw [hw1]
    exact hPo.app hPn
  have hD1 : va_D A (rx_wn b (E ++ xs) cy (rx_ub ad (b + E.length) xs.length H.size) S) := rx_D_grow hD hP (fun z hz9 => hok.fr z (Nat.le_trans hS.1 hz9)) (by omega)
  have hS1 : va_S A s.heap F.heap locs := ⟨by rw [f1]; have := hS.1; omega, fun z g1 g2 => (hold z (Nat.lt_of_lt_of_le g1 hS.1)).trans (hS.2.1 z g1 g2), hS.2.2⟩
  have hAs1 : rx_As b (E ++ xs) (rx_ub ad (b + E.length) xs.length H.size) A s.heap.size := fun z hz9 => by
    rcases hAs z hz9 with ⟨k, hk, e9⟩ | h
    · exact Or.inl ⟨k, ⟨hk.1, by rw [List.length_append]; omega⟩, by rw [g k (Or.inl hk.2)]; exact e9⟩
    · exact Or.inr h
  have kk := k1 l D cy (rx_ub ad (b + E.length) xs.length H.size) A p e R s m args below meth c F.heap locs arr (hok.ag g) hRR hP1 hD1 hS1 hAs1 (rx_ag_l g hb2'.1 hL)
  have hst : (Value.ref (b + E.length) :: st).map (rx_cv (rx_ub ad (b + E.length) xs.length H.size)) = .ref H.size :: st.map (rx_cv ad) := by
    rw [List.map_cons, rx_ag_s g hb2'.2]
    have e9 := rx_ub_in (ad := ad) (n := b + E.length) (m := xs.length) (h := H.size) (i := 0) (by omega)
    simp only [Nat.add_zero] at e9
    simp only [rx_cv, e9]
  rw [hst] at kk
  obtain ⟨t, c1, c2⟩ := (rx_Wm kk (Q2 := rx_QN b E D cy ad A Post) (fun oc t hq => by
    obtain ⟨E3, S3, ad3, g1, g2⟩ := hq
    exact ⟨E3, S3, ad3, fun j hj => (g1 j (by rw [List.length_append]; omega)).trans (g j hj), g2⟩)) F rfl X'
  refine ⟨t, step t ?_, c2⟩
  have e : T.heap.size = H.size := by rw [hT]
  rw [e]
  exact c1
