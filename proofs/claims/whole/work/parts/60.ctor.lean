
/-! ===== CONSTRUCTORS: EVN b E d M pc ls st S n0 n1 mc ms Post: as EV, over a world that grows: cells b, b + 1, .. as E tells (a field: none an int, some none null, some (some k) the cell k) ===== -/
abbrev rx_E : Type := Nat × Nat × List (Option (Option Nat))
def rx_nv (ad : Nat → Nat) (f : Nat → Int32) (j : Nat) (r : Option (Option Nat)) : Value := match r with
  | none => .int (f j)
  | some none => .null
  | some (some k) => .ref (ad k)
def rx_en (cy : Nat → ClassId) (ad : Nat → Nat) (S : rx_S) (k : Nat) (x : rx_E) : va_E :=
  if x.1 < 12 then .inr (x.1, x.2.2.mapIdx (rx_nv ad (S.1 k)))
  else if x.1 = 14 then .inl (cy 2, x.2.1, .inr (.inl (S.2 k)))
  else if x.1 = 16 then .inl (cy 4, x.2.1, .inr (.inr (.inr (.inr (fun i => ((x.2.2.getD i none).getD none).map ad)))))
  else .inl (cy (x.1 - 12), x.2.1, .inl (S.1 k))
def rx_wn (b : Nat) (E : List rx_E) (cy : Nat → ClassId) (ad : Nat → Nat) (S : rx_S) : va_W := E.mapIdx (fun j x => (ad (b + j), rx_en cy ad S (b + j) x))
theorem rx_wn_len {b : Nat} {E : List rx_E} {cy : Nat → ClassId} {ad : Nat → Nat} {S : rx_S} : (rx_wn b E cy ad S).length = E.length := by simp [rx_wn]
theorem rx_wn_get {b : Nat} {E : List rx_E} {cy : Nat → ClassId} {ad : Nat → Nat} {S : rx_S} {j : Nat} {x : rx_E} (h : E[j]? = some x) : (rx_wn b E cy ad S)[j]? = some (ad (b + j), rx_en cy ad S (b + j) x) := by
  unfold rx_wn
  rw [List.getElem?_mapIdx, h]
  rfl
theorem rx_wn_of {b : Nat} {E : List rx_E} {cy : Nat → ClassId} {ad : Nat → Nat} {S : rx_S} {i : Nat} {q : Nat × va_E} (h : (rx_wn b E cy ad S)[i]? = some q) : i < E.length ∧ q.1 = ad (b + i) := by
  have hl : i < E.length := by have := (List.getElem?_eq_some_iff.mp h).1; rwa [rx_wn_len] at this
  have hg := rx_wn_get (b := b) (cy := cy) (ad := ad) (S := S) (List.getElem?_eq_getElem hl)
  rw [h] at hg
  exact ⟨hl, congrArg Prod.fst (Option.some.inj hg)⟩
/-- a reference that stands: below n, or one of the constants -/
def rx_rb (n k : Nat) : Bool := decide (k < n ∨ 1000 ≤ k)
def rx_vb (n : Nat) (v : Value) : Bool := match v with
  | .ref k => rx_rb n k
  | _ => true
def rx_fb1 (n : Nat) (r : Option (Option Nat)) : Bool := match r with
  | some (some k) => rx_rb n k
  | _ => true
def rx_eb (n : Nat) (E : List rx_E) : Bool := E.all (fun x => x.2.2.all (rx_fb1 n))
def rx_lb (n : Nat) (ls : List (Option Value)) : Bool := ls.all (fun o => match o with
  | some v => rx_vb n v
  | none => true)
def rx_sb (n : Nat) (E : List rx_E) (ls : List (Option Value)) (st : List Value) : Bool := rx_eb n E && (rx_lb n ls && st.all (rx_vb n))
/-- two ways of laying the cells that agree on what stands below n -/
def rx_ag (n : Nat) (ad ad' : Nat → Nat) : Prop := ∀ k, (k < n ∨ 1000 ≤ k) → ad' k = ad k
theorem rx_ag_v {n : Nat} {ad ad' : Nat → Nat} (h : rx_ag n ad ad') {v : Value} (hv : rx_vb n v = true) : rx_cv ad' v = rx_cv ad v := by
  cases v <;> first | rfl | (simp only [rx_cv]; rw [h _ (of_decide_eq_true hv)])
theorem rx_ag_f {n : Nat} {ad ad' : Nat → Nat} (h : rx_ag n ad ad') {f : Nat → Int32} {j : Nat} {r : Option (Option Nat)} (hr : rx_fb1 n r = true) : rx_nv ad' f j r = rx_nv ad f j r := by
  match r, hr with
  | none, _ => rfl
  | some none, _ => rfl
  | some (some k), hr => simp only [rx_nv]; rw [h _ (of_decide_eq_true hr)]
theorem rx_ag_e {n : Nat} {ad ad' : Nat → Nat} (h : rx_ag n ad ad') {cy : Nat → ClassId} {S : rx_S} {k : Nat} {x : rx_E} (hx : x.2.2.all (rx_fb1 n) = true) : rx_en cy ad' S k x = rx_en cy ad S k x := by
  have hall := List.all_eq_true.mp hx
  unfold rx_en
  split
  · congr 2
    apply List.ext_getElem?
    intro i
    rw [List.getElem?_mapIdx, List.getElem?_mapIdx]
    cases hi : x.2.2[i]? with
    | none => rfl
    | some r => simp only [Option.map_some]; rw [rx_ag_f h (hall r (List.mem_of_getElem? hi))]
  · split
    · rfl
    · split
      · have e : (fun i : Nat => ((x.2.2.getD i none).getD none).map ad') = (fun i : Nat => ((x.2.2.getD i none).getD none).map ad) := by
          funext i
          rw [List.getD_eq_getElem?_getD]
          cases hi : x.2.2[i]? with
          | none => rfl
          | some r =>
            match r, hall r (List.mem_of_getElem? hi) with
            | none, _ => rfl
            | some none, _ => rfl
            | some (some k), hr => simp only [Option.getD_some, Option.map_some]; rw [h _ (of_decide_eq_true hr)]
        rw [e]
      · rfl
theorem rx_ag_w {n : Nat} {ad ad' : Nat → Nat} (h : rx_ag n ad ad') {b : Nat} {E : List rx_E} {cy : Nat → ClassId} {S S' : rx_S} (hb : b + E.length ≤ n) (hx : rx_eb n E = true) (hS : ∀ k, b ≤ k → k < b + E.length → S'.1 k = S.1 k ∧ S'.2 k = S.2 k) : rx_wn b E cy ad' S' = rx_wn b E cy ad S := by
  unfold rx_wn
  apply List.ext_getElem?
  intro i
  rw [List.getElem?_mapIdx, List.getElem?_mapIdx]
  cases hi : E[i]? with
  | none => rfl
  | some x =>
    have hl : i < E.length := (List.getElem?_eq_some_iff.mp hi).1
    obtain ⟨s1, s2⟩ := hS (b + i) (by omega) (by omega)
    simp only [Option.map_some]
    rw [h (b + i) (Or.inl (by omega)), rx_ag_e h (List.all_eq_true.mp hx x (List.mem_of_getElem? hi))]
    congr 2
    unfold rx_en
    rw [s1, s2]
theorem rx_ag_l {n : Nat} {ad ad' : Nat → Nat} (h : rx_ag n ad ad') {arr : Array Slot} {nL : Nat} {ls : List (Option Value)} (hl : rx_lb n ls = true) (hL : rx_lh ad arr nL ls) : rx_lh ad' arr nL ls :=
  ⟨hL.1, hL.2.1, fun i v hv => by
    have h1 := List.all_eq_true.mp hl _ (List.mem_of_getElem? hv)
    rw [rx_ag_v h h1]
    exact hL.2.2 i v hv⟩
theorem rx_ag_s {n : Nat} {ad ad' : Nat → Nat} (h : rx_ag n ad ad') {st : List Value} (hs : st.all (rx_vb n) = true) : st.map (rx_cv ad') = st.map (rx_cv ad) := by
  apply List.map_congr_left
  intro v hv
  exact rx_ag_v h (List.all_eq_true.mp hs v hv)
theorem rx_ag_x {n : Nat} {ad ad' : Nat → Nat} (h : rx_ag n ad ad') {A : Nat → Prop} {U : State} {H : Heap} (hX : rx_STR A ad U H) : rx_STR A ad' U H := by
  obtain ⟨h1, h2, h3, h4, v, h5, h6⟩ := hX
  have e1 : (fun i => ad' (1000 + i)) = (fun i => ad (1000 + i)) := funext fun i => h _ (Or.inr (by omega))
  have e2 : (fun i => ad' (2000 + i)) = (fun i => ad (2000 + i)) := funext fun i => h _ (Or.inr (by omega))
  refine ⟨?_, ?_, ?_, h4, v, h5, ?_⟩
  · rw [e1, e2]; exact h1
  · rw [h 1000 (Or.inr (by omega))]; exact h2
  · rw [h 1001 (Or.inr (by omega))]; exact h3
  · rcases h5 with rfl | rfl
    · exact h6
    · rw [show rx_cv ad' (.ref 3000) = rx_cv ad (.ref 3000) by simp only [rx_cv]; rw [h 3000 (Or.inr (by omega))]]
      exact h6
def rx_AOA (U : State) : Prop := (Cond.arrayOver (.array .int)).before #[] U = true
theorem rx_AOA.moved {u U : State} (h : u.vm.Alike U.vm) (hA : rx_AOA u) : rx_AOA U := by
  have e := Cond.arrayOver_setVmC (args := #[]) (s := u) h (.array .int)
  show (Cond.arrayOver (.array .int)).before #[] U = true
  have e2 : (Cond.arrayOver (.array .int)).before #[] (u.setVm U.vm) = true := by rw [e]; exact hA
  exact e2
theorem rx_AOA.use {U : State} {args : Array Value} (hA : rx_AOA U) : (Cond.arrayOver (.array .int)).before args U = true := hA
def rx_okN (d : Nat) (M : rx_M) (D : va_G) (cy : Nat → ClassId) (ad : Nat → Nat) (A : Nat → Prop) (p : Program) (R : Room) (s : State) (m : MethodId) (args : Array Value) (meth : Method) (c : Code) : Prop :=
  p.tables.exec = Jvm.exec ∧ c.code = M.1 ∧ c.maxLocals = M.2.1 ∧ meth.sig.returnType = M.2.2.1 ∧ s.vm.findClass M.2.2.2.cls = some m.cls ∧ (∀ w ∈ rx_T, w.before args s = true) ∧ meth.locks = false ∧ va_K D rx_cl (rx_tys cy) s ∧ (d ≤ R.frames ∧ 64 * d ≤ R.locals) ∧ rx_NW s ∧ rx_STR A ad s s.heap ∧ rx_AOA s ∧ (∀ q, s.heap.size ≤ q → A q) ∧ meth.name = "<init>"
section EVNO
variable {d : Nat} {M : rx_M} {D : va_G} {cy : Nat → ClassId} {ad ad' : Nat → Nat} {A : Nat → Prop} {p : Program} {R : Room} {s : State} {m : MethodId} {args : Array Value} {meth : Method} {c : Code}
theorem rx_okN.x (h : rx_okN d M D cy ad A p R s m args meth c) : p.tables.exec = Jvm.exec := h.1
theorem rx_okN.b (h : rx_okN d M D cy ad A p R s m args meth c) : c.code = M.1 := h.2.1
theorem rx_okN.ml (h : rx_okN d M D cy ad A p R s m args meth c) : c.maxLocals = M.2.1 := h.2.2.1
theorem rx_okN.own (h : rx_okN d M D cy ad A p R s m args meth c) : s.vm.findClass M.2.2.2.cls = some m.cls := h.2.2.2.2.1
theorem rx_okN.ts (h : rx_okN d M D cy ad A p R s m args meth c) : ∀ w ∈ rx_T, w.before args s = true := h.2.2.2.2.2.1
theorem rx_okN.K (h : rx_okN d M D cy ad A p R s m args meth c) : va_K D rx_cl (rx_tys cy) s := h.2.2.2.2.2.2.2.1
theorem rx_okN.room (h : rx_okN d M D cy ad A p R s m args meth c) : d ≤ R.frames ∧ 64 * d ≤ R.locals := h.2.2.2.2.2.2.2.2.1
theorem rx_okN.NW (h : rx_okN d M D cy ad A p R s m args meth c) : rx_NW s := h.2.2.2.2.2.2.2.2.2.1
theorem rx_okN.STR (h : rx_okN d M D cy ad A p R s m args meth c) : rx_STR A ad s s.heap := h.2.2.2.2.2.2.2.2.2.2.1
theorem rx_okN.AOA (h : rx_okN d M D cy ad A p R s m args meth c) : rx_AOA s := h.2.2.2.2.2.2.2.2.2.2.2.1
theorem rx_okN.fr (h : rx_okN d M D cy ad A p R s m args meth c) : ∀ q, s.heap.size ≤ q → A q := h.2.2.2.2.2.2.2.2.2.2.2.2.1
theorem rx_okN.nm (h : rx_okN d M D cy ad A p R s m args meth c) : meth.name = "<init>" := h.2.2.2.2.2.2.2.2.2.2.2.2.2
theorem rx_okN.ag {n : Nat} (h : rx_okN d M D cy ad A p R s m args meth c) (g : rx_ag n ad ad') : rx_okN d M D cy ad' A p R s m args meth c := ⟨h.1, h.2.1, h.2.2.1, h.2.2.2.1, h.2.2.2.2.1, h.2.2.2.2.2.1, h.2.2.2.2.2.2.1, h.K, h.room, h.NW, rx_ag_x g h.STR, h.AOA, h.fr, h.nm⟩
end EVNO
def rx_QN (b : Nat) (E : List rx_E) (D : va_G) (cy : Nat → ClassId) (ad : Nat → Nat) (A : Nat → Prop) (Post : List rx_E → rx_S → Prop) : Array Value → State → Outcome → State → Prop := fun _ st oc t => ∃ (E' : List rx_E) (S' : rx_S) (ad' : Nat → Nat), rx_ag (b + E.length) ad ad' ∧ oc = .returned none ∧ Post E' S' ∧ va_P D rx_cl (rx_wn b E' cy ad' S') t.heap ∧ va_D A (rx_wn b E' cy ad' S') ∧ va_F A st t
/-- what may be written is the world, or new -/
def rx_As (b : Nat) (E : List rx_E) (ad : Nat → Nat) (A : Nat → Prop) (sz : Nat) : Prop := ∀ q, A q → (∃ k, (b ≤ k ∧ k < b + E.length) ∧ q = ad k) ∨ sz ≤ q
def EVN (b : Nat) (E : List rx_E) (d : Nat) (M : rx_M) (pc : Nat) (ls : List (Option Value)) (st : List Value) (S : rx_S) (n0 n1 mc ms : Nat) (Post : List rx_E → rx_S → Prop) : Prop :=
  ∀ (l : Launch) (D : va_G) (cy : Nat → ClassId) (ad : Nat → Nat) (A : Nat → Prop) (p : Program) (e : Env) (R : Room) (s : State) (m : MethodId) (args : Array Value) (below : List Frame) (meth : Method) (c : Code) (H : Heap) (locs : List Loc) (arr : Array Slot),
    rx_okN d M D cy ad A p R s m args meth c → (mc ≤ R.cells ∧ ms ≤ R.slots) → va_P D rx_cl (rx_wn b E cy ad S) H → va_D A (rx_wn b E cy ad S) → va_S A s.heap H locs → rx_As b E ad A s.heap.size → rx_lh ad arr M.2.1 ls →
    W p l e R s m args below meth c H locs n0 n1 (MQ below (rx_QN b E D cy ad A Post) args s mc ms A) (F0 m pc arr (st.map (rx_cv ad)))
theorem rx_Wm {p : Program} {l : Launch} {e : Env} {R : Room} {s : State} {m : MethodId} {args : Array Value} {below : List Frame} {meth : Method} {c : Code} {H : Heap} {locs : List Loc} {n0 n1 mc ms : Nat} {A : Nat → Prop} {Q1 Q2 : Array Value → State → Outcome → State → Prop} {g : JFrame} (h : W p l e R s m args below meth c H locs n0 n1 (MQ below Q1 args s mc ms A) g) (hm : ∀ o t, Q1 args s o t → Q2 args s o t) : W p l e R s m args below meth c H locs n0 n1 (MQ below Q2 args s mc ms A) g := by
  intro T hT X
  obtain ⟨t, h1, o, h2, h3, h4, h5⟩ := h T hT X
  exact ⟨t, h1, o, h2, h3, hm o t h4, h5⟩
theorem rx_wn_app {b : Nat} {E E2 : List rx_E} {cy : Nat → ClassId} {ad : Nat → Nat} {S : rx_S} : rx_wn b (E ++ E2) cy ad S = rx_wn b E cy ad S ++ rx_wn (b + E.length) E2 cy ad S := by
  unfold rx_wn
  rw [List.mapIdx_append]
  congr 1
  apply List.ext_getElem?
  intro i
  rw [List.getElem?_mapIdx, List.getElem?_mapIdx, show b + (i + E.length) = b + E.length + i by omega]
section EVNR
variable {b : Nat} {E E' : List rx_E} {d : Nat} {M : rx_M} {pc : Nat} {ls : List (Option Value)} {st : List Value} {S : rx_S} {n0 n1 mc ms : Nat} {Post : List rx_E → rx_S → Prop}
/-- behind one new cell -/
theorem rx_push {x : rx_E} {l : Launch} {D : va_G} {cy : Nat → ClassId} {ad : Nat → Nat} {A : Nat → Prop} {p : Program} {e : Env} {R : Room} {s : State} {m : MethodId} {args : Array Value} {below : List Frame} {meth : Method} {c : Code} {H1 : Heap} {locs : List Loc} {arr : Array Slot} {n q q' m0 m1 : Nat} (hn : b + E.length = n) (h1000 : n < 1000) (hsb : rx_sb n E ls st = true) (hE' : E ++ [x] = E')
    (hok : rx_okN d M D cy ad A p R s m args meth c) (hRR : mc ≤ R.cells ∧ ms ≤ R.slots) (hAs : rx_As b E ad A s.heap.size) (hL : rx_lh ad arr M.2.1 ls) (hS1 : va_S A s.heap H1 locs)
    (hP1 : va_P D rx_cl (rx_wn b E cy ad S ++ [(q, rx_en cy (va_up ad n q) S n x)]) H1) (hD1 : va_D A (rx_wn b E cy ad S ++ [(q, rx_en cy (va_up ad n q) S n x)]))
    (k1 : EVN b E' d M q' ls (.ref n :: st) S m0 m1 mc ms Post) : W p l e R s m args below meth c H1 locs m0 m1 (MQ below (rx_QN b E D cy ad A Post) args s mc ms A) (F0 m q' arr (.ref q :: st.map (rx_cv ad))) := by
  subst hE'
  subst hn
  have hb := Bool.and_eq_true_iff.mp hsb
  have hb2 := Bool.and_eq_true_iff.mp hb.2
  have g : rx_ag (b + E.length) ad (va_up ad (b + E.length) q) := fun k hk => by
    have : k ≠ b + E.length := by omega
    simp [va_up, this]
  have hnew : va_up ad (b + E.length) q (b + E.length) = q := by simp [va_up]
  have hw : rx_wn b (E ++ [x]) cy (va_up ad (b + E.length) q) S = rx_wn b E cy ad S ++ [(q, rx_en cy (va_up ad (b + E.length) q) S (b + E.length) x)] := by
    rw [rx_wn_app, rx_ag_w g (Nat.le_refl _) hb.1 (fun _ _ _ => ⟨rfl, rfl⟩)]
    congr 1
    show [(va_up ad (b + E.length) q (b + E.length + 0), rx_en cy (va_up ad (b + E.length) q) S (b + E.length + 0) x)] = _
    rw [Nat.add_zero, hnew]
  rw [← hw] at hP1 hD1
  have hAs1 : rx_As b (E ++ [x]) (va_up ad (b + E.length) q) A s.heap.size := fun z hz => by
    rcases hAs z hz with ⟨k, hk, e⟩ | h
    · exact Or.inl ⟨k, ⟨hk.1, by rw [List.length_append]; omega⟩, by rw [g k (Or.inl hk.2)]; exact e⟩
    · exact Or.inr h
  have hst : (Value.ref (b + E.length) :: st).map (rx_cv (va_up ad (b + E.length) q)) = .ref q :: st.map (rx_cv ad) := by
    rw [List.map_cons, rx_ag_s g hb2.2]
    simp only [rx_cv, hnew]
  have kk := k1 l D cy (va_up ad (b + E.length) q) A p e R s m args below meth c H1 locs arr (hok.ag g) hRR hP1 hD1 hS1 hAs1 (rx_ag_l g hb2.1 hL)
  rw [hst] at kk
  refine rx_Wm kk (fun oc t hq => ?_)
  obtain ⟨E2, S2, ad2, a1, a2⟩ := hq
  exact ⟨E2, S2, ad2, fun k hk => (a1 k (by rw [List.length_append]; omega)).trans (g k hk), a2⟩

theorem en_iconst {n : Int} {v : Int32} (q : Nat) (hd : decode M.1 pc = .ok (.iconst n, 1)) (hv : Int32.ofInt n = v) (hq : pc + 1 = q) (k1 : EVN b E d M q ls (.int v :: st) S n0 n1 mc ms Post) : EVN b E d M pc ls (st) S n0 n1 mc ms Post := by
  subst hq
  intro l D cy ad A p e R s m args below meth c H locs arr hok hRR hP hD hS hAs hL
  exact lv_iconst hok.1 hok.2.1 hd hv (k1 l D cy ad A p e R s m args below meth c H locs arr hok hRR hP hD hS hAs hL)

theorem en_bipush {n : Int} {v : Int32} (q : Nat) (hd : decode M.1 pc = .ok (.bipush n, 2)) (hv : (Int8.ofInt n).toInt32 = v) (hq : pc + 2 = q) (k1 : EVN b E d M q ls (.int v :: st) S n0 n1 mc ms Post) : EVN b E d M pc ls (st) S n0 n1 mc ms Post := by
  subst hq
  intro l D cy ad A p e R s m args below meth c H locs arr hok hRR hP hD hS hAs hL
  exact lv_bipush hok.1 hok.2.1 hd hv (k1 l D cy ad A p e R s m args below meth c H locs arr hok hRR hP hD hS hAs hL)

theorem en_sipush {n : Int} {v : Int32} (q : Nat) (hd : decode M.1 pc = .ok (.sipush n, 3)) (hv : (Int16.ofInt n).toInt32 = v) (hq : pc + 3 = q) (k1 : EVN b E d M q ls (.int v :: st) S n0 n1 mc ms Post) : EVN b E d M pc ls (st) S n0 n1 mc ms Post := by
  subst hq
  intro l D cy ad A p e R s m args below meth c H locs arr hok hRR hP hD hS hAs hL
  exact lv_sipush hok.1 hok.2.1 hd hv (k1 l D cy ad A p e R s m args below meth c H locs arr hok hRR hP hD hS hAs hL)

theorem en_aload_n {j : Fin 4} {i : Nat} {x : Nat} (q : Nat) (hd : decode M.1 pc = .ok (.aload_n j, 1)) (hj : (j : Nat) = i) (hl : ls[i]? = some (some (.ref x))) (hq : pc + 1 = q) (k1 : EVN b E d M q ls (.ref x :: st) S n0 n1 mc ms Post) : EVN b E d M pc ls (st) S n0 n1 mc ms Post := by
  subst hq
  intro l D cy ad A p e R s m args below meth c H locs arr hok hRR hP hD hS hAs hL
  exact lv_aload_n hok.1 hok.2.1 hd hj (hL.2.2 _ _ hl) (k1 l D cy ad A p e R s m args below meth c H locs arr hok hRR hP hD hS hAs hL)

theorem en_dup {v : Value} (q : Nat) (hd : decode M.1 pc = .ok (.dup, 1)) (hc : v.category = 1) (hq : pc + 1 = q) (k1 : EVN b E d M q ls (v :: v :: st) S n0 n1 mc ms Post) : EVN b E d M pc ls (v :: st) S n0 n1 mc ms Post := by
  subst hq
  intro l D cy ad A p e R s m args below meth c H locs arr hok hRR hP hD hS hAs hL
  exact lv_dup hok.1 hok.2.1 hd ((rx_cv_cat ad v).trans hc) (k1 l D cy ad A p e R s m args below meth c H locs arr hok hRR hP hD hS hAs hL)
theorem en_obj {k idx : Nat} (q : Nat) (hd : decode M.1 pc = .ok (.invokespecial idx, 3)) (hlk : Cond.methodLink M.2.2.2.cls idx Lib.objectInit ∈ rx_T) (hw : Cond.instanceMethod Lib.objectInit ∈ rx_T ∧ Cond.code Lib.objectInit ⟨#[0xb1]⟩ 1 none ∈ rx_T) (hst : (st.map fun v => v.category).sum ≤ 8) (hq : pc + 3 = q) (k1 : EVN b E (d + 1) M q ls st S n0 n1 mc ms Post) : EVN b E (d + 1) M pc ls (.ref k :: st) S n0 n1 mc ms Post := by
  subst hq
  intro l D cy ad A p e R s m args below meth c H locs arr hok hRR hP hD hS hAs hL
  have hr := hok.room
  have hc := rx_cat ad st
  exact W.objInit hok.x hok.b hok.own (hok.ts _ hlk) (hok.ts _ hw.1) (hok.ts _ hw.2) rfl (by rw [hok.ml]; exact hL.1) (a := ad k) (rest := st.map (rx_cv ad)) rfl hd (by omega) (by show 2 * 0 + _ + 12 ≤ _; omega) (k1 l D cy ad A p e R s m args below meth c H locs arr hok hRR hP hD hS hAs hL)
theorem en_ret (hd : decode M.1 pc = .ok (.return_, 1)) (hr : M.2.2.1 = none) (h : Post E S) : EVN b E d M pc ls [] S mc ms mc ms Post := by
  intro l D cy ad A p e R s m args below meth c H locs arr hok hRR hP hD hS hAs hL
  exact W.vret hok.1 hok.2.1 (hok.2.2.2.1.trans hr) (fun t ht hW => ⟨E, S, ad, fun _ _ => rfl, rfl, h, by rw [ht]; exact hP, hD, hS.F ht⟩) hS.2.2 hd hok.2.2.2.2.2.2.1
/-- new -/
theorem en_new {idx ci N : Nat} {C : String} {T : u_T} {ty0 : Nat → FieldType} {df : List (Option (Option Nat))} {fs : List Value} (n q : Nat) (hd : decode M.1 pc = .ok (.new idx, 3)) (hc : rx_cl[ci]? = some (C, T, N)) (hci : ci < 12) (hin : ∀ w ∈ u_ws C T N, w ∈ rx_T) (hty : ∀ k, k < N → parseFieldDescriptor (T k).2.2.1 = some (ty0 k)) (hcl : Cond.classLink M.2.2.2.cls idx C ∈ rx_T) (hins : Cond.instantiable C N ∈ rx_T) (hini : Cond.initialized C ∈ rx_T) (hfs : ∀ j, j < N → defaultValue (ty0 j) = vp_V fs j) (hdf : ∀ ad, df.mapIdx (rx_nv ad (fun _ => 0)) = fs) (hn : b + E.length = n) (hz : S.1 n = fun _ => 0) (h1000 : n < 1000) (hsb : rx_sb n E ls st = true) (hE' : E ++ [(ci, 0, df)] = E') (hm : n0 + 1 ≤ mc ∧ n1 + N ≤ ms) (hq : pc + 3 = q) (k1 : EVN b E' d M q ls (.ref n :: st) S (n0 + 1) (n1 + N) mc ms Post) : EVN b E d M pc ls st S n0 n1 mc ms Post := by
  subst hq
  intro l D cy ad A p e R s m args below meth c H locs arr hok hRR hP hD hS hAs hL
  refine va_new (ci := ci) (fs := fs) hok.x hok.b hok.ts hin ty0 hty hok.own (hok.ts _ hcl) (hok.ts _ hins) (hok.ts _ hini) hok.K hP hD hS hok.fr hc hfs (by omega) (by omega) hd (fun qa H1 hP1 hD1 hS1 => ?_)
  have he : (Sum.inr (ci, fs) : va_E) = rx_en cy (va_up ad n qa) S n (ci, 0, df) := by
    simp only [rx_en, hci, if_true, hz, hdf]
  rw [he] at hP1 hD1
  exact rx_push hn h1000 hsb hE' hok hRR hAs hL hS1 hP1 hD1 k1

theorem en_newbyte {v : Int32} {N : Nat} (n q : Nat) (hd : decode M.1 pc = .ok (.newarray .byte, 2)) (hw : Cond.arrayClass .byte ∈ rx_T) (hv : ¬ v < 0) (hN : v.toNatClampNeg = N) (hby : N * componentBytes .byte ≤ 536870912) (hn : b + E.length = n) (hz : S.1 n = (fun _ => 0) ∧ S.2 n = (fun _ => 0)) (h1000 : n < 1000) (hsb : rx_sb n E ls st = true) (hE' : E ++ [(12, N, [])] = E') (hm : n0 + 1 ≤ mc ∧ n1 + N ≤ ms) (hq : pc + 2 = q) (k1 : EVN b E' d M q ls (.ref n :: st) S (n0 + 1) (n1 + N) mc ms Post) : EVN b E d M pc ls (.int v :: st) S n0 n1 mc ms Post := by
  subst hq
  intro l D cy ad A p e R s m args below meth c H locs arr hok hRR hP hD hS hAs hL
  refine va_newa (atype := .byte) (ty := .byte) (a0 := (N, .inl (fun _ => 0))) hok.x hok.b (hok.ts _ hw) rfl hok.K hP hD hS hok.fr (fun _ => rfl) hv hN hby (by omega) (by omega) hd (fun qa cA H1 hK1 hP1 hD1 hS1 => ?_)
  have hcy : cA = cy 0 := Option.some.inj ((hK1.2 5 (cA, .byte) rfl).2.symm.trans (hok.K.2 0 (cy 0, .byte) rfl).2)
  subst hcy
  have he : (Sum.inl (cy 0, N, .inl (fun _ => 0)) : va_E) = rx_en cy (va_up ad n qa) S n (12, N, []) := by
    simp [rx_en, hz.1, hz.2]
  rw [he] at hP1 hD1
  exact rx_push hn h1000 hsb hE' hok hRR hAs hL hS1 hP1 hD1 k1

theorem en_newint {v : Int32} {N : Nat} (n q : Nat) (hd : decode M.1 pc = .ok (.newarray .int, 2)) (hw : Cond.arrayClass .int ∈ rx_T) (hv : ¬ v < 0) (hN : v.toNatClampNeg = N) (hby : N * componentBytes .int ≤ 536870912) (hn : b + E.length = n) (hz : S.1 n = (fun _ => 0) ∧ S.2 n = (fun _ => 0)) (h1000 : n < 1000) (hsb : rx_sb n E ls st = true) (hE' : E ++ [(13, N, [])] = E') (hm : n0 + 1 ≤ mc ∧ n1 + N ≤ ms) (hq : pc + 2 = q) (k1 : EVN b E' d M q ls (.ref n :: st) S (n0 + 1) (n1 + N) mc ms Post) : EVN b E d M pc ls (.int v :: st) S n0 n1 mc ms Post := by
  subst hq
  intro l D cy ad A p e R s m args below meth c H locs arr hok hRR hP hD hS hAs hL
  refine va_newa (atype := .int) (ty := .int) (a0 := (N, .inl (fun _ => 0))) hok.x hok.b (hok.ts _ hw) rfl hok.K hP hD hS hok.fr (fun _ => rfl) hv hN hby (by omega) (by omega) hd (fun qa cA H1 hK1 hP1 hD1 hS1 => ?_)
  have hcy : cA = cy 1 := Option.some.inj ((hK1.2 5 (cA, .int) rfl).2.symm.trans (hok.K.2 1 (cy 1, .int) rfl).2)
  subst hcy
  have he : (Sum.inl (cy 1, N, .inl (fun _ => 0)) : va_E) = rx_en cy (va_up ad n qa) S n (13, N, []) := by
    simp [rx_en, hz.1, hz.2]
  rw [he] at hP1 hD1
  exact rx_push hn h1000 hsb hE' hok hRR hAs hL hS1 hP1 hD1 k1

theorem en_newlong {v : Int32} {N : Nat} (n q : Nat) (hd : decode M.1 pc = .ok (.newarray .long, 2)) (hw : Cond.arrayClass .long ∈ rx_T) (hv : ¬ v < 0) (hN : v.toNatClampNeg = N) (hby : N * componentBytes .long ≤ 536870912) (hn : b + E.length = n) (hz : S.1 n = (fun _ => 0) ∧ S.2 n = (fun _ => 0)) (h1000 : n < 1000) (hsb : rx_sb n E ls st = true) (hE' : E ++ [(14, N, [])] = E') (hm : n0 + 1 ≤ mc ∧ n1 + N ≤ ms) (hq : pc + 2 = q) (k1 : EVN b E' d M q ls (.ref n :: st) S (n0 + 1) (n1 + N) mc ms Post) : EVN b E d M pc ls (.int v :: st) S n0 n1 mc ms Post := by
  subst hq
  intro l D cy ad A p e R s m args below meth c H locs arr hok hRR hP hD hS hAs hL
  refine va_newa (atype := .long) (ty := .long) (a0 := (N, .inr (.inl (fun _ => 0)))) hok.x hok.b (hok.ts _ hw) rfl hok.K hP hD hS hok.fr (fun _ => rfl) hv hN hby (by omega) (by omega) hd (fun qa cA H1 hK1 hP1 hD1 hS1 => ?_)
  have hcy : cA = cy 2 := Option.some.inj ((hK1.2 5 (cA, .long) rfl).2.symm.trans (hok.K.2 2 (cy 2, .long) rfl).2)
  subst hcy
  have he : (Sum.inl (cy 2, N, .inr (.inl (fun _ => 0))) : va_E) = rx_en cy (va_up ad n qa) S n (14, N, []) := by
    simp [rx_en, hz.1, hz.2]
  rw [he] at hP1 hD1
  exact rx_push hn h1000 hsb hE' hok hRR hAs hL hS1 hP1 hD1 k1

theorem en_newboolean {v : Int32} {N : Nat} (n q : Nat) (hd : decode M.1 pc = .ok (.newarray .boolean, 2)) (hw : Cond.arrayClass .boolean ∈ rx_T) (hv : ¬ v < 0) (hN : v.toNatClampNeg = N) (hby : N * componentBytes .boolean ≤ 536870912) (hn : b + E.length = n) (hz : S.1 n = (fun _ => 0) ∧ S.2 n = (fun _ => 0)) (h1000 : n < 1000) (hsb : rx_sb n E ls st = true) (hE' : E ++ [(15, N, [])] = E') (hm : n0 + 1 ≤ mc ∧ n1 + N ≤ ms) (hq : pc + 2 = q) (k1 : EVN b E' d M q ls (.ref n :: st) S (n0 + 1) (n1 + N) mc ms Post) : EVN b E d M pc ls (.int v :: st) S n0 n1 mc ms Post := by
  subst hq
  intro l D cy ad A p e R s m args below meth c H locs arr hok hRR hP hD hS hAs hL
  refine va_newa (atype := .boolean) (ty := .boolean) (a0 := (N, .inl (fun _ => 0))) hok.x hok.b (hok.ts _ hw) rfl hok.K hP hD hS hok.fr (fun _ => rfl) hv hN hby (by omega) (by omega) hd (fun qa cA H1 hK1 hP1 hD1 hS1 => ?_)
  have hcy : cA = cy 3 := Option.some.inj ((hK1.2 5 (cA, .boolean) rfl).2.symm.trans (hok.K.2 3 (cy 3, .boolean) rfl).2)
  subst hcy
  have he : (Sum.inl (cy 3, N, .inl (fun _ => 0)) : va_E) = rx_en cy (va_up ad n qa) S n (15, N, []) := by
    simp [rx_en, hz.1, hz.2]
  rw [he] at hP1 hD1
  exact rx_push hn h1000 hsb hE' hok hRR hAs hL hS1 hP1 hD1 k1

theorem rx_wn_set {cy : Nat → ClassId} {ad : Nat → Nat} {S' : rx_S} {j : Nat} {x x' : rx_E} {y : va_E} (hx : E[j]? = some x) (hE' : E.set j x' = E') (hy : y = rx_en cy ad S' (b + j) x') (ho : ∀ k, k ≠ b + j → S'.1 k = S.1 k ∧ S'.2 k = S.2 k) : (rx_wn b E cy ad S).set j (ad (b + j), y) = rx_wn b E' cy ad S' := by
  subst hE'
  subst hy
  unfold rx_wn
  apply List.ext_getElem?
  intro i
  have hl : j < E.length := (List.getElem?_eq_some_iff.mp hx).1
  by_cases hi : i = j
  · subst hi
    rw [List.getElem?_set_self (by simp; exact hl), List.getElem?_mapIdx, List.getElem?_set_self hl]
    rfl
  · rw [List.getElem?_set_ne (Ne.symm hi), List.getElem?_mapIdx, List.getElem?_mapIdx, List.getElem?_set_ne (Ne.symm hi)]
    cases hz : E[i]? with
    | none => rfl
    | some z =>
      obtain ⟨s1, s2⟩ := ho (b + i) (by omega)
      simp only [Option.map_some]
      unfold rx_en
      rw [s1, s2]
/-- a final reference -/
theorem en_putR {v j ci n0' slot idx k : Nat} {fsd : List (Option (Option Nat))} {C : String} {T : u_T} {N : Nat} {ty0 : Nat → FieldType} (q : Nat) (hd : decode M.1 pc = .ok (.putfield idx, 3)) (hk : b + j = k) (hx : E[j]? = some (ci, n0', fsd)) (hci : ci < 12) (hc : rx_cl[ci]? = some (C, T, N)) (hs : slot < N) (hin : ∀ w ∈ u_ws C T N, w ∈ rx_T) (hty : ∀ k, k < N → parseFieldDescriptor (T k).2.2.1 = some (ty0 k)) (hnm : ∀ a, a < N → ∀ b, b < N → a ≠ b → (T a).2.1 ≠ (T b).2.1) (hl : Cond.fieldLink M.2.2.2.cls idx C (T slot).2.1 (T slot).2.2.1 ∈ rx_T) (hT : (T slot).1 = C) (hown : C = M.2.2.2.cls) (hfin : (T slot).2.2.2 = true) (hnr : ∀ a, narrow (ty0 slot) (.ref a) = .ref a ∧ fits (ty0 slot) (.ref a) = true) (hlen : slot < fsd.length) (hE' : E.set j (ci, n0', fsd.set slot (some (some v))) = E') (hq : pc + 3 = q) (hlE : E'.length = E.length) (k1 : EVN b E' d M q ls st S n0 n1 mc ms Post) : EVN b E d M pc ls (.ref v :: .ref k :: st) S n0 n1 mc ms Post := by
  subst hq
  subst hk
  intro l D cy ad A p e R s m args below meth c H locs arr hok hRR hP hD hS hAs hL
  have he := rx_wn_get (b := b) (cy := cy) (ad := ad) (S := S) hx
  have hee : rx_en cy ad S (b + j) (ci, n0', fsd) = .inr (ci, fsd.mapIdx (rx_nv ad (S.1 (b + j)))) := by simp only [rx_en, hci, if_true]
  rw [hee] at he
  refine va_putF (ref := C) (ty := ty0 slot) (v := .ref (ad v)) hok.x hok.b hok.ts hin ty0 hty hnm hok.own hok.K hP hD hS j he hc slot hs (hok.ts _ hl) (fun x h => by rw [hT] at h; exact h) hfin hok.nm (by rw [hT]; exact hown) (hty slot hs) (hnr _).1 (hnr _).2 (by simp; exact hlen) hd ?_
  have hset : (rx_wn b E cy ad S).set j (ad (b + j), .inr (ci, (fsd.mapIdx (rx_nv ad (S.1 (b + j)))).set slot (.ref (ad v)))) = rx_wn b E' cy ad S := rx_wn_set hx hE' (by
    simp only [rx_en, hci, if_true]
    rw [List.mapIdx_set]
    rfl) (fun _ _ => ⟨rfl, rfl⟩)
  rw [hset]
  intro H1 locs1 hP1 hD1 hS1
  have kk := k1 l D cy ad A p e R s m args below meth c H1 locs1 arr hok hRR hP1 hD1 hS1 (by intro z hz; rw [hlE]; exact hAs z hz) hL
  refine rx_Wm kk (fun oc t hq => ?_)
  obtain ⟨E2, S2, ad2, a1, a2⟩ := hq
  exact ⟨E2, S2, ad2, by rw [hlE] at a1; exact a1, a2⟩
/-- an int field -/
theorem en_putI {x : Int32} {j ci n0' slot idx k : Nat} {fsd : List (Option (Option Nat))} {C : String} {T : u_T} {N : Nat} {ty0 : Nat → FieldType} {S' : rx_S} (q : Nat) (hd : decode M.1 pc = .ok (.putfield idx, 3)) (hk : b + j = k) (hx : E[j]? = some (ci, n0', fsd)) (hci : ci < 12) (hc : rx_cl[ci]? = some (C, T, N)) (hs : slot < N) (hin : ∀ w ∈ u_ws C T N, w ∈ rx_T) (hty : ∀ k, k < N → parseFieldDescriptor (T k).2.2.1 = some (ty0 k)) (hnm : ∀ a, a < N → ∀ b, b < N → a ≠ b → (T a).2.1 ≠ (T b).2.1) (hl : Cond.fieldLink M.2.2.2.cls idx C (T slot).2.1 (T slot).2.2.1 ∈ rx_T) (hT : (T slot).1 = C) (hfin : (T slot).2.2.2 = false) (hnr : narrow (ty0 slot) (.int x) = .int x ∧ fits (ty0 slot) (.int x) = true) (hsl : fsd[slot]? = some none) (hS' : rx_ui S k slot x = S') (hq : pc + 3 = q) (k1 : EVN b E d M q ls st S' n0 n1 mc ms Post) : EVN b E d M pc ls (.int x :: .ref k :: st) S n0 n1 mc ms Post := by
  subst hq
  subst hk
  subst hS'
  intro l D cy ad A p e R s m args below meth c H locs arr hok hRR hP hD hS hAs hL
  have he := rx_wn_get (b := b) (cy := cy) (ad := ad) (S := S) hx
  have hee : rx_en cy ad S (b + j) (ci, n0', fsd) = .inr (ci, fsd.mapIdx (rx_nv ad (S.1 (b + j)))) := by simp only [rx_en, hci, if_true]
  rw [hee] at he
  refine va_put (ref := C) (ty := ty0 slot) (v := .int x) hok.x hok.b hok.ts hin ty0 hty hnm hok.own hok.K hP hD hS j he hc slot hs (hok.ts _ hl) (fun x h => by rw [hT] at h; exact h) hfin (hty slot hs) hnr.1 hnr.2 (by simp; exact (List.getElem?_eq_some_iff.mp hsl).1) hd ?_
  have hset : (rx_wn b E cy ad S).set j (ad (b + j), .inr (ci, (fsd.mapIdx (rx_nv ad (S.1 (b + j)))).set slot (.int x))) = rx_wn b E cy ad (rx_ui S (b + j) slot x) := by
    refine rx_wn_set (x' := (ci, n0', fsd)) hx (by
      apply List.ext_getElem?
      intro i
      by_cases hi : i = j
      · subst hi
        rw [List.getElem?_set_self (List.getElem?_eq_some_iff.mp hx).1, hx]
      · rw [List.getElem?_set_ne (Ne.symm hi)]) ?_ rx_ur_o
    simp only [rx_en, hci, if_true]
    congr 2
    apply List.ext_getElem?
    intro i
    have hlt := (List.getElem?_eq_some_iff.mp hsl).1
    rw [rx_ui, rx_ur_s]
    by_cases hi : i = slot
    · subst hi
      rw [List.getElem?_set_self (by simp; exact hlt), List.getElem?_mapIdx, hsl]
      simp [rx_nv, upd]
    · rw [List.getElem?_set_ne (Ne.symm hi), List.getElem?_mapIdx, List.getElem?_mapIdx]
      cases fsd[i]? with
      | none => rfl
      | some r =>
        match r with
        | none => simp [rx_nv, upd, hi]
        | some none => rfl
        | some (some _) => rfl
  rw [hset]
  intro H1 locs1 hP1 hD1 hS1
  exact k1 l D cy ad A p e R s m args below meth c H1 locs1 arr hok hRR hP1 hD1 hS1 hAs hL
/-- a reference read -/
theorem en_get {v j ci n0' slot idx k : Nat} {fsd : List (Option (Option Nat))} (q : Nat) (hd : decode M.1 pc = .ok (.getfield idx, 3)) (hk : b + j = k) (hx : E[j]? = some (ci, n0', fsd)) (hci : ci < 12) (hF : rx_F M.2.2.2.cls idx ci slot) (hv : fsd[slot]? = some (some (some v))) (hq : pc + 3 = q) (k1 : EVN b E d M q ls (.ref v :: st) S n0 n1 mc ms Post) : EVN b E d M pc ls (.ref k :: st) S n0 n1 mc ms Post := by
  subst hq
  subst hk
  intro l D cy ad A p e R s m args below meth c H locs arr hok hRR hP hD hS hAs hL
  obtain ⟨C, T, N, hc, hs, hin, hT, hl⟩ := hF
  have he := rx_wn_get (b := b) (cy := cy) (ad := ad) (S := S) hx
  have hee : rx_en cy ad S (b + j) (ci, n0', fsd) = .inr (ci, fsd.mapIdx (rx_nv ad (S.1 (b + j)))) := by simp only [rx_en, hci, if_true]
  rw [hee] at he
  have hg : (fsd.mapIdx (rx_nv ad (S.1 (b + j))))[slot]? = some (.ref (ad v)) := by
    rw [List.getElem?_mapIdx, hv]
    rfl
  rcases hl with hl | ⟨host, hl⟩
  · exact va_get (ref := C) hok.x hok.b hok.ts hin hok.own hok.K hP j he hc slot hs (hok.ts _ hl) (fun x h => by rw [hT] at h; exact h) hg hd (k1 l D cy ad A p e R s m args below meth c H locs arr hok hRR hP hD hS hAs hL)
  · exact va_getN (ref := C) hok.x hok.b hok.ts hin hok.own hok.K hP j he hc slot hs ((hok.NW.1 _ _ _ _ _ _ hl).use rfl) (fun x h => by rw [hT] at h; exact h) hg hd (k1 l D cy ad A p e R s m args below meth c H locs arr hok hRR hP hD hS hAs hL)

end EVNR
