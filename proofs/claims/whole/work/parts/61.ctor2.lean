
theorem rx_nd_range (n : Nat) : va_nd (List.range n) = true := by
  have key : ∀ l : List Nat, l.Nodup → va_nd l = true := by
    intro l
    induction l with
    | nil => intro _; rfl
    | cons a l ih =>
      intro h
      obtain ⟨h1, h2⟩ := List.nodup_cons.mp h
      simp [va_nd, h1, ih h2]
  exact key _ List.nodup_range
theorem rx_rg_l {α : Type} (u v : List α) : (List.range u.length).map (fun i => (u ++ v)[i]?) = u.map some := by
  apply List.ext_getElem?
  intro i
  rw [List.getElem?_map, List.getElem?_map]
  by_cases hi : i < u.length
  · rw [List.getElem?_range hi, List.getElem?_eq_getElem hi]
    simp [List.getElem?_append_left hi]
  · rw [List.getElem?_eq_none (by simp; omega), List.getElem?_eq_none (by omega)]
    rfl
theorem rx_rg_r {α : Type} (u v : List α) : ((List.range v.length).map (fun i => i + u.length)).map (fun i => (u ++ v)[i]?) = v.map some := by
  apply List.ext_getElem?
  intro i
  rw [List.getElem?_map, List.getElem?_map, List.getElem?_map]
  by_cases hi : i < v.length
  · rw [List.getElem?_range hi, List.getElem?_eq_getElem hi]
    simp [List.getElem?_append_right]
  · rw [List.getElem?_eq_none (by simp; omega), List.getElem?_eq_none (by omega)]
    rfl
theorem rx_joinA {A0 : Nat → Prop} {D : va_G} {cl : List vw_C} {wr wc w1 : va_W} {H H1 : Heap} (hP : va_P D cl (wr ++ wc) H) (hD : va_D A0 (wr ++ wc)) (hk : ∀ q : Nat, q < H.size → ¬ va_A wc H.size q → H1[q]? = H[q]?) (hF : ∀ q, va_A wc H.size q → A0 q) (hP1 : va_P D cl w1 H1) (hD1 : va_D (va_A wc H.size) w1) : va_P D cl (wr ++ w1) H1 ∧ va_D A0 (wr ++ w1) :=
  va_join (wc := wc) (wr := wr) hP hD ((List.range wc.length).map (fun i => i + wr.length)) (List.range wr.length) (rx_rg_r wr wc) (rx_rg_l wr wc) (rx_nd_range _) (fun i hi h => by
    obtain ⟨j, -, e⟩ := List.mem_map.mp h
    have := List.mem_range.mp hi
    omega) hk hF hP1 hD1
/-- a constructor's contract -/
def CT (b : Nat) (E : List rx_E) (d : Nat) (M : rx_M) (vs : List Value) (S : rx_S) (mc ms : Nat) (Post : List rx_E → rx_S → Prop) : Prop := EVN b E d M 0 (rx_ar M.2.1 vs) [] S 0 0 mc ms Post
def rx_PcN (b : Nat) (E : List rx_E) (D : va_G) (cy : Nat → ClassId) (ad : Nat → Nat) (S : rx_S) (sz : Nat) (U : State) : Prop := U.heap.size = sz ∧ va_P D rx_cl (rx_wn b E cy ad S) U.heap ∧ va_K D rx_cl (rx_tys cy) U ∧ va_D (fun _ => True) (rx_wn b E cy ad S) ∧ rx_NW U ∧ rx_STR (va_A (rx_wn b E cy ad S) sz) ad U U.heap ∧ rx_AOA U
theorem rx_metN {b : Nat} {E : List rx_E} {d : Nat} {M : rx_M} {vs : List Value} {S : rx_S} {mc ms : Nat} {Post : List rx_E → rx_S → Prop} (h : CT b E d M vs S mc ms Post) (hf : (rx_al vs).length ≤ M.2.1) (hp : plainName M.2.2.2.cls = true) (hnm : M.2.2.2.name = "<init>") (l : Launch) (D : va_G) (cy : Nat → ClassId) (ad : Nat → Nat) (sz : Nat) :
    Met l M.2.2.2 (rx_ws M) { frames := d, cells := mc, slots := ms, locals := 64 * d } (va_Pc (vs.map (rx_cv ad)) (rx_PcN b E D cy ad S sz)) (rx_QN b E D cy ad (va_A (rx_wn b E cy ad S) sz) Post) mc ms (va_A (rx_wn b E cy ad S) sz) := by
  refine Met.ofW (cc := M.1) (maxL := M.2.1) (ret := M.2.2.1) hp rfl ?_
  intro p e s m args below meth c s₁ B hml hv
  obtain ⟨rfl, hsz, hP, hK, hD, hN, hX, hO⟩ := hv
  subst hsz
  have hts := atoms_spec (ws := rx_ws M) B.pre
  have hts : ∀ w ∈ rx_T, w.before (vs.map (rx_cv ad)).toArray s = true := fun w hw => hts w (List.mem_cons_of_mem _ hw)
  rw [lg_entry_eq]
  exact h l D cy ad (va_A (rx_wn b E cy ad S) s.heap.size) p e _ s m _ below meth c s.heap [] _ ⟨B.exec, B.bytes, hml, B.returns, findClass_of_methodNamed B.named, hts, B.notSynchronized, hK, ⟨Nat.le_refl _, Nat.le_refl _⟩, hN, hX, hO, fun q hq => Or.inr hq, ((name_of_methodNamed B.named B.method).1).trans hnm⟩ ⟨Nat.le_refl _, Nat.le_refl _⟩ hP hD.self va_S.rf (fun q hq => by
    rcases hq with ⟨k, e, hk⟩ | hq
    · obtain ⟨h1, h2⟩ := rx_wn_of hk
      exact Or.inl ⟨b + k, ⟨by omega, by omega⟩, h2⟩
    · exact Or.inr hq) (rx_entry ad vs hf)
section EVNC
variable {b : Nat} {E E' : List rx_E} {d : Nat} {M : rx_M} {pc : Nat} {ls : List (Option Value)} {st : List Value} {S : rx_S} {n0 n1 mc ms : Nat} {Post : List rx_E → rx_S → Prop}
/-- a constructor called: its world is the last of the caller's cells -/
theorem en_call {M' : rx_M} {idx b' n k mc' ms' : Nat} {E1 Ec Ec' : List rx_E} {vs : List Value} {S' : rx_S} (q : Nat) (hd : decode M.1 pc = .ok (.invokespecial idx, 3)) (hE : E = E1 ++ Ec) (hb' : b + E1.length = b') (hM : CT b' Ec d M' (.ref k :: vs) S mc' ms' (fun E2 S2 => E2 = Ec' ∧ S2 = S')) (hm : rx_m M' n) (hi : Cond.instanceMethod M'.2.2.2 ∈ rx_T) (hlk : rx_lk M.2.2.2.cls idx M'.2.2.2) (hnm : M'.2.2.2.name = "<init>") (hret : M'.2.2.1 = none)
    (hn : vs.length = n) (hfit : (rx_al (.ref k :: vs)).length ≤ M'.2.1) (hst : (st.map fun v => v.category).sum ≤ 8) (hSS : ∀ j, j < b' → S'.1 j = S.1 j ∧ S'.2 j = S.2 j) (hsb : rx_sb (b + E.length) E1 ls st = true) (hE' : E1 ++ Ec' = E') (hlE : E.length ≤ E'.length) (hmm : n0 + mc' ≤ mc ∧ n1 + ms' ≤ ms) (hq : pc + 3 = q)
    (k1 : EVN b E' (d + 1) M q ls st S' (n0 + mc') (n1 + ms') mc ms Post) : EVN b E (d + 1) M pc ls (vs.reverse ++ .ref k :: st) S n0 n1 mc ms Post := by
  subst hq
  subst hE'
  subst hb'
  intro l D cy ad A p e R s m args below meth c H locs arr hok hRR hP hD hS hAs hL
  obtain ⟨hm1, hm2, hm3, hm4, hm5⟩ := hm
  have hr := hok.room
  have hw : rx_wn b E cy ad S = rx_wn b E1 cy ad S ++ rx_wn (b + E1.length) Ec cy ad S := by rw [hE, rx_wn_app]
  have hlen : b + E.length = b + E1.length + Ec.length := by rw [hE, List.length_append]; omega
  rw [hw] at hP hD
  have hAA : ∀ z, va_A (rx_wn (b + E1.length) Ec cy ad S) H.size z → A z := by
    intro z hz
    rcases hz with ⟨j, e9, hj⟩ | hz
    · exact hD.2 ((rx_wn b E1 cy ad S).length + j) (z, e9) (by rw [List.getElem?_append_right (by omega)]; rw [show (rx_wn b E1 cy ad S).length + j - (rx_wn b E1 cy ad S).length = j by omega]; exact hj)
    · exact hok.fr z (Nat.le_trans hS.1 hz)
  have hPc : va_P D rx_cl (rx_wn (b + E1.length) Ec cy ad S) H := fun j z hj => hP ((rx_wn b E1 cy ad S).length + j) z (by rw [List.getElem?_append_right (by omega)]; rw [show (rx_wn b E1 cy ad S).length + j - (rx_wn b E1 cy ad S).length = j by omega]; exact hj)
  have hDc : va_D (fun _ => True) (rx_wn (b + E1.length) Ec cy ad S) := ⟨fun i j x y hi hj hxy => by
    have h9 := hD.1 ((rx_wn b E1 cy ad S).length + i) ((rx_wn b E1 cy ad S).length + j) x y (by rw [List.getElem?_append_right (by omega)]; rw [show (rx_wn b E1 cy ad S).length + i - (rx_wn b E1 cy ad S).length = i by omega]; exact hi) (by rw [List.getElem?_append_right (by omega)]; rw [show (rx_wn b E1 cy ad S).length + j - (rx_wn b E1 cy ad S).length = j by omega]; exact hj) hxy
    omega, fun _ _ _ => trivial⟩
  have hpre : FrameBlind (va_Pc ((.ref k :: vs).map (rx_cv ad)) (rx_PcN (b + E1.length) Ec D cy ad S H.size)) ∧ ∀ U : State, U.heap = H → s.WarmedH U.vm → va_Pc ((.ref k :: vs).map (rx_cv ad)) (rx_PcN (b + E1.length) Ec D cy ad S H.size) ((.ref k :: vs).map (rx_cv ad)).toArray U := by
    refine ⟨fun a U g mk h => ?_, fun U hU hW => ?_⟩
    · obtain ⟨h1, h2, h3, h4, h5, h6, h7, h8⟩ := h
      exact ⟨h1, h2, h3, va_K.moved (u := U) (U := U.calling g mk a) (Vm.Alike.refl U.vm) h4, h5, h6.same rfl, h7.same rfl, h8.moved (Vm.Alike.refl U.vm)⟩
    · refine ⟨rfl, by rw [hU], by rw [hU]; exact hPc, va_K.moved hW.alike hok.K, hDc, hok.NW.warm hW, ?_, hok.AOA.moved hW.alike⟩
      rw [hU]
      exact ((hok.STR.kept hS.2.1).warm hW).narrow hAA
  have hMet := rx_metN hM hfit hm1 hnm l D cy ad H.size
  have hstk : (vs.reverse ++ .ref k :: st).map (rx_cv ad) = (vs.map (rx_cv ad)).reverse ++ .ref (ad k) :: st.map (rx_cv ad) := by simp [rx_cv]
  have hroom : (d + 1 ≤ R.frames) ∧ (8 + (M'.2.1 + 11) + 64 * d ≤ R.locals) := ⟨hr.1, by omega⟩
  have hsum : 2 * (F0 m pc arr ((vs.reverse ++ .ref k :: st).map (rx_cv ad))).monitorRoom + ((st.map (rx_cv ad)).map fun v => v.category).sum ≤ 8 := lv_room (by rw [rx_cat]; exact hst)
  have hws : rx_ws M' = Cond.code M'.2.2.2 M'.1 M'.2.1 none :: rx_T := by show _ :: _ = _; rw [hret]
  have hrun : va_Run p l e R s m args below meth c H locs n0 n1 mc' ms' (F0 m pc arr ((vs.reverse ++ .ref k :: st).map (rx_cv ad))) (st.map (rx_cv ad)) (rx_QN (b + E1.length) Ec D cy ad (va_A (rx_wn (b + E1.length) Ec cy ad S) H.size) (fun E2 S2 => E2 = Ec' ∧ S2 = S') (Value.ref (ad k) :: vs.map (rx_cv ad)).toArray) (va_A (rx_wn (b + E1.length) Ec cy ad S) H.size) := by
    rcases hlk with hl | ⟨host, hl⟩
    · exact va_runI (As := vs.map (rx_cv ad)) (rest := st.map (rx_cv ad)) (b := ad k) (index := idx) (n := n) (maxL := M'.2.1) (bytes := M'.1) ⟨hok.x, hok.b, hok.ml, hok.own, hok.ts⟩ hMet ⟨callB_of n hok.ts (rx_good (M := M) hm2) hws rfl rfl (hok.ts _ hm3) (hok.ts _ hl) hm4 hroom, hnm, hok.ts _ hi⟩ hpre rfl (by rw [List.length_map]; exact hn) hL.1 hstk hsum hd ⟨by omega, by omega⟩
    · exact va_runIN (As := vs.map (rx_cv ad)) (rest := st.map (rx_cv ad)) (b := ad k) (index := idx) (n := n) (maxL := M'.2.1) (bytes := M'.1) ⟨hok.x, hok.b, hok.ml, hok.own, hok.ts⟩ hMet ⟨va_cnB n hok.ts (rx_good (M := M) hm2) hws rfl rfl (hok.NW.2 _ _ _ _ hl) (hok.ts _ hm3) hm4 hroom, hnm, hok.ts _ hi⟩ hpre rfl (by rw [List.length_map]; exact hn) hL.1 hstk hsum hd ⟨by omega, by omega⟩
  have hbb := Bool.and_eq_true_iff.mp hsb
  have hb2 := Bool.and_eq_true_iff.mp hbb.2
  intro T hT X
  obtain ⟨v, st₀, t, T', Lc, h0, X', hLc, e1, e2, ⟨E2, S2, ad2, a1, a2, ⟨a3, a4⟩, a5, a6, a7⟩, go⟩ := hrun T hT X
  cases a2
  subst a3
  subst a4
  have g : rx_ag (b + E.length) ad ad2 := by rw [hlen]; exact a1
  obtain ⟨z1, z2⟩ := a7
  rw [h0] at z1 z2
  obtain ⟨hP2, hD2⟩ := rx_joinA hP hD (fun z g1 g2 => z2 z g1 g2) hAA a5 a6
  have hw2 : rx_wn b (E1 ++ E2) cy ad2 S2 = rx_wn b E1 cy ad S ++ rx_wn (b + E1.length) E2 cy ad2 S2 := by
    rw [rx_wn_app, rx_ag_w g (by omega) hbb.1 (fun j _ hj => hSS j hj)]
  rw [← hw2] at hP2 hD2
  rw [← e1] at hP2
  have hS2 : va_S A s.heap T'.heap (locs ++ Lc) := ⟨Nat.le_trans hS.1 (by rw [e1]; exact z1), fun z g1 g2 => by rw [e1, z2 z (Nat.lt_of_lt_of_le g1 hS.1) (fun w => g2 (hAA z w))]; exact hS.2.1 z g1 g2, fun z hz => by
    rcases List.mem_append.mp hz with h | h
    · exact hS.2.2 z h
    · exact hAA _ (hLc z h)⟩
  have hAs2 : rx_As b (E1 ++ E2) ad2 A s.heap.size := fun z hz => by
    rcases hAs z hz with ⟨j, hj, e9⟩ | h
    · exact Or.inl ⟨j, ⟨hj.1, by omega⟩, by rw [g j (Or.inl hj.2)]; exact e9⟩
    · exact Or.inr h
  have kk := k1 l D cy ad2 A p e R s m args below meth c T'.heap (locs ++ Lc) arr (hok.ag g) hRR hP2 hD2 hS2 hAs2 (rx_ag_l g hb2.1 hL)
  rw [rx_ag_s g hb2.2] at kk
  obtain ⟨t2, c1, c2⟩ := (rx_Wm kk (Q2 := rx_QN b E D cy ad A Post) (fun oc t hq => by
    obtain ⟨E3, S3, ad3, f1, f2⟩ := hq
    exact ⟨E3, S3, ad3, fun j hj => (f1 j (by omega)).trans (g j hj), f2⟩)) T' rfl X'
  exact ⟨t2, go t2 c1, c2⟩
def rx_toE (x : rx_D) : rx_E := (x.1, x.2.1, x.2.2.map (fun r => r.map some))
theorem rx_en_to {cy : Nat → ClassId} {ad : Nat → Nat} {S : rx_S} {k : Nat} (x : rx_D) : rx_en cy ad S k (rx_toE x) = rx_ent cy ad S k x := by
  unfold rx_en rx_ent rx_toE
  dsimp only
  split
  · congr 2
    unfold rx_fs
    apply List.ext_getElem?
    intro i
    rw [List.getElem?_mapIdx, List.getElem?_mapIdx, List.getElem?_map]
    cases x.2.2[i]? with
    | none => rfl
    | some r => cases r <;> rfl
  · split
    · rfl
    · split
      · have e : (fun i : Nat => (((x.2.2.map (fun r => r.map some)).getD i none).getD none).map ad) = (fun i : Nat => (x.2.2.getD i none).map ad) := by
          funext i
          rw [List.getD_eq_getElem?_getD, List.getD_eq_getElem?_getD, List.getElem?_map]
          cases x.2.2[i]? with
          | none => rfl
          | some r => cases r <;> rfl
        rw [e]
      · rfl
theorem rx_wn_w {cy : Nat → ClassId} {ad : Nat → Nat} {N : Nat} (hE : E = (List.range N).map (fun j => rx_toE (rx_desc (b + j)))) : rx_wn b E cy ad S = rx_w (b, N) cy ad S := by
  subst hE
  unfold rx_wn rx_w
  apply List.ext_getElem?
  intro i
  rw [List.getElem?_mapIdx, List.getElem?_map, List.getElem?_map]
  by_cases hi : i < N
  · rw [List.getElem?_range hi]
    simp only [Option.map_some]
    rw [rx_en_to]
  · rw [List.getElem?_eq_none (by simp; omega)]
    rfl
/-- the rest of a constructor that makes nothing more -/
theorem en_EV {N : Nat} (hE : E = (List.range N).map (fun j => rx_toE (rx_desc (b + j)))) (hmm : n0 = mc ∧ n1 = ms) (k1 : EV (b, N) d M pc ls st S (fun r T => r = none ∧ Post E T)) : EVN b E d M pc ls st S n0 n1 mc ms Post := by
  have hN : E.length = N := by rw [hE]; simp
  obtain ⟨rfl, rfl⟩ := hmm
  intro l D cy ad A p e R s m args below meth c H locs arr hok hRR hP hD hS hAs hL
  have hw := fun S' => rx_wn_w (cy := cy) (ad := ad) (S := S') hE
  rw [hw] at hP hD
  have h1 : ∀ z, A z → rx_A (b, N) ad s.heap.size z := fun z hz => by
    rcases hAs z hz with ⟨k, hk, e9⟩ | h
    · exact Or.inl ⟨k, ⟨hk.1, by show k < b + N; rw [← hN]; exact hk.2⟩, e9⟩
    · exact Or.inr h
  have h2 : ∀ z, rx_A (b, N) ad s.heap.size z → A z := fun z hz => by
    rcases hz with ⟨k, hk, e9⟩ | h
    · have hg := rx_w_get (G := (b, N)) (cy := cy) (ad := ad) (S := S) (k := k) (x := rx_desc k) ⟨hk, rfl⟩
      rw [e9]
      exact hD.2 _ _ hg
    · exact hok.fr z h
  have hA : A = rx_A (b, N) ad s.heap.size := funext fun z => propext ⟨h1 z, h2 z⟩
  subst hA
  refine rx_Wm (k1 l D cy ad p e R s m args below meth c H locs arr n0 n1 hRR ⟨hok.1, hok.2.1, hok.2.2.1, hok.2.2.2.1, hok.2.2.2.2.1, hok.2.2.2.2.2.1, hok.2.2.2.2.2.2.1, hok.K, hok.room, hok.NW, hok.STR⟩ hP hD hS hL) (fun oc t hq => ?_)
  obtain ⟨r, S', a1, ⟨a2, a3⟩, a4, a5⟩ := hq
  subst a2
  exact ⟨E, S', ad, fun _ _ => rfl, a1, a3, by rw [hw]; exact a4, by rw [hw]; exact rx_D_S S' hD, a5⟩
end EVNC

