
/-! ===== THE LOGIC: EV G d M pc ls st S Post: from the place pc of the method M, with locals ls, operand stack st, the cells of G holding S,
 the machine comes to M's return, with an answer and a state that Post allows; at most d frames are opened beneath. References are numbers of cells. ===== -/
abbrev rx_S : Type := (Nat → Nat → Int32) × (Nat → Nat → Int64)
def rx_ur (S : rx_S) (k : Nat) (f : Nat → Int32) : rx_S := (fun k' => if k' = k then f else S.1 k', S.2)
def rx_ul (S : rx_S) (k : Nat) (f : Nat → Int64) : rx_S := (S.1, fun k' => if k' = k then f else S.2 k')
def rx_ui (S : rx_S) (k i : Nat) (v : Int32) : rx_S := rx_ur S k (upd (S.1 k) i v)
def rx_uj (S : rx_S) (k i : Nat) (v : Int64) : rx_S := rx_ul S k (vp_updL (S.2 k) i v)
def rx_cv (ad : Nat → Nat) (v : Value) : Value := match v with
  | .ref k => .ref (ad k)
  | w => w
def rx_fv (ad : Nat → Nat) (f : Nat → Int32) (j : Nat) (r : Option Nat) : Value := match r with
  | some k => .ref (ad k)
  | none => .int (f j)
def rx_fs (ad : Nat → Nat) (f : Nat → Int32) (rs : List (Option Nat)) : List Value := rs.mapIdx (rx_fv ad f)
def rx_ent (cy : Nat → ClassId) (ad : Nat → Nat) (S : rx_S) (k : Nat) (x : rx_D) : va_E :=
  if x.1 < 12 then .inr (x.1, rx_fs ad (S.1 k) x.2.2)
  else if x.1 = 14 then .inl (cy 2, x.2.1, .inr (.inl (S.2 k)))
  else if x.1 = 16 then .inl (cy 4, x.2.1, .inr (.inr (.inr (.inr (fun i => (x.2.2.getD i none).map ad)))))
  else .inl (cy (x.1 - 12), x.2.1, .inl (S.1 k))
def rx_w (G : Nat × Nat) (cy : Nat → ClassId) (ad : Nat → Nat) (S : rx_S) : va_W := (List.range G.2).map (fun j => (ad (G.1 + j), rx_ent cy ad S (G.1 + j) (rx_desc (G.1 + j))))
def rx_tys (cy : Nat → ClassId) : List (ClassId × FieldType) := [(cy 0, .byte), (cy 1, .int), (cy 2, .long), (cy 3, .boolean), (cy 4, .array .int)]
def rx_in (G : Nat × Nat) (k : Nat) : Prop := G.1 ≤ k ∧ k < G.1 + G.2
def rx_at (G : Nat × Nat) (k : Nat) (x : rx_D) : Prop := rx_in G k ∧ rx_desc k = x
def rx_A (G : Nat × Nat) (ad : Nat → Nat) (sz : Nat) : Nat → Prop := fun q => (∃ k, rx_in G k ∧ q = ad k) ∨ sz ≤ q
theorem rx_w_get {G : Nat × Nat} {cy : Nat → ClassId} {ad : Nat → Nat} {S : rx_S} {k : Nat} {x : rx_D} (h : rx_at G k x) : (rx_w G cy ad S)[k - G.1]? = some (ad k, rx_ent cy ad S k x) := by
  obtain ⟨⟨h1, h2⟩, h3⟩ := h
  subst h3
  have e : G.1 + (k - G.1) = k := by omega
  unfold rx_w
  rw [List.getElem?_map, List.getElem?_range (by omega)]
  simp only [Option.map_some, e]
theorem rx_w_of {G : Nat × Nat} {cy : Nat → ClassId} {ad : Nat → Nat} {S : rx_S} {i : Nat} {q : Nat × va_E} (h : (rx_w G cy ad S)[i]? = some q) : i < G.2 ∧ q = (ad (G.1 + i), rx_ent cy ad S (G.1 + i) (rx_desc (G.1 + i))) := by
  have hl : i < G.2 := by
    have := (List.getElem?_eq_some_iff.mp h).1
    simpa [rx_w] using this
  have h2 := rx_w_get (G := G) (cy := cy) (ad := ad) (S := S) (k := G.1 + i) (x := rx_desc (G.1 + i)) ⟨⟨by omega, by omega⟩, rfl⟩
  rw [show G.1 + i - G.1 = i by omega, h] at h2
  exact ⟨hl, Option.some.inj h2⟩
theorem rx_ent_eq {cy : Nat → ClassId} {ad : Nat → Nat} {S S' : rx_S} {j : Nat} (x : rx_D) (h1 : S'.1 j = S.1 j) (h2 : S'.2 j = S.2 j) : rx_ent cy ad S' j x = rx_ent cy ad S j x := by
  unfold rx_ent
  rw [h1, h2]
theorem rx_w_set {G : Nat × Nat} {cy : Nat → ClassId} {ad : Nat → Nat} {S S' : rx_S} {k : Nat} {x : rx_D} {y : va_E} (h : rx_at G k x) (hy : y = rx_ent cy ad S' k x) (ho : ∀ j, j ≠ k → S'.1 j = S.1 j ∧ S'.2 j = S.2 j) : (rx_w G cy ad S).set (k - G.1) (ad k, y) = rx_w G cy ad S' := by
  subst hy
  obtain ⟨⟨h1, h2⟩, h3⟩ := h
  apply List.ext_getElem?
  intro i
  have hlen : (rx_w G cy ad S).length = G.2 := by simp [rx_w]
  have hlen' : (rx_w G cy ad S').length = G.2 := by simp [rx_w]
  by_cases hi : i < G.2
  · have g' := rx_w_get (G := G) (cy := cy) (ad := ad) (S := S') (k := G.1 + i) (x := rx_desc (G.1 + i)) ⟨⟨by omega, by omega⟩, rfl⟩
    rw [show G.1 + i - G.1 = i by omega] at g'
    rw [g']
    by_cases hk : i = k - G.1
    · subst hk
      rw [List.getElem?_set_self (by omega)]
      have e : G.1 + (k - G.1) = k := by omega
      rw [e, h3]
    · rw [List.getElem?_set_ne (Ne.symm hk)]
      have g := rx_w_get (G := G) (cy := cy) (ad := ad) (S := S) (k := G.1 + i) (x := rx_desc (G.1 + i)) ⟨⟨by omega, by omega⟩, rfl⟩
      rw [show G.1 + i - G.1 = i by omega] at g
      rw [g, rx_ent_eq _ (ho (G.1 + i) (by omega)).1 (ho (G.1 + i) (by omega)).2]
  · rw [List.getElem?_eq_none (by rw [List.length_set]; omega), List.getElem?_eq_none (by omega)]
theorem rx_ur_o {S : rx_S} {k : Nat} {f : Nat → Int32} : ∀ j, j ≠ k → (rx_ur S k f).1 j = S.1 j ∧ (rx_ur S k f).2 j = S.2 j := fun j h => ⟨by simp [rx_ur, h], rfl⟩
theorem rx_ul_o {S : rx_S} {k : Nat} {f : Nat → Int64} : ∀ j, j ≠ k → (rx_ul S k f).1 j = S.1 j ∧ (rx_ul S k f).2 j = S.2 j := fun j h => ⟨rfl, by simp [rx_ul, h]⟩
theorem rx_ur_s {S : rx_S} {k : Nat} {f : Nat → Int32} : (rx_ur S k f).1 k = f := by simp [rx_ur]
theorem rx_ul_s {S : rx_S} {k : Nat} {f : Nat → Int64} : (rx_ul S k f).2 k = f := by simp [rx_ul]
theorem rx_D_A {G : Nat × Nat} {cy : Nat → ClassId} {ad : Nat → Nat} {S : rx_S} {B : Nat → Prop} (sz : Nat) (h : va_D B (rx_w G cy ad S)) : va_D (rx_A G ad sz) (rx_w G cy ad S) :=
  ⟨h.1, fun k q hk => by obtain ⟨h1, h2⟩ := rx_w_of hk; exact Or.inl ⟨G.1 + k, ⟨by omega, by omega⟩, by rw [h2]⟩⟩
theorem rx_fs_get {ad : Nat → Nat} {f : Nat → Int32} {rs : List (Option Nat)} {j : Nat} {r : Option Nat} (h : rs[j]? = some r) : (rx_fs ad f rs)[j]? = some (rx_fv ad f j r) := by
  unfold rx_fs
  rw [List.getElem?_mapIdx, h]
  rfl
theorem rx_fs_set {ad : Nat → Nat} {f : Nat → Int32} {rs : List (Option Nat)} {j : Nat} (v : Int32) (h : rs[j]? = some none) : (rx_fs ad f rs).set j (.int v) = rx_fs ad (upd f j v) rs := by
  apply List.ext_getElem?
  intro i
  have hl : j < rs.length := (List.getElem?_eq_some_iff.mp h).1
  have hl2 : j < (rx_fs ad f rs).length := by simp [rx_fs]; exact hl
  by_cases hi : i = j
  · subst hi
    rw [List.getElem?_set_self hl2, rx_fs_get h]
    simp [rx_fv, upd]
  · rw [List.getElem?_set_ne (Ne.symm hi)]
    unfold rx_fs
    rw [List.getElem?_mapIdx, List.getElem?_mapIdx]
    congr 1
    funext r
    cases r <;> simp [rx_fv, upd, hi]
/-! the words of nest mates; the String constants -/
def rx_NW (U : State) : Prop := (∀ a i b n d h, Cond.fieldLinkNest a i b n d h ∈ tables_1 → va_Nw (.fieldLinkNest a i b n d h) U) ∧ ∀ a i x h, Cond.methodLinkNest a i x h ∈ tables_1 → va_Nw (.methodLinkNest a i x h) U
theorem rx_NW.warm {s U : State} (hW : s.WarmedH U.vm) (h : rx_NW s) : rx_NW U := ⟨fun a i b n d g hm => (h.1 a i b n d g hm).warmF hW, fun a i x g hm => (h.2 a i x g hm).warmM hW⟩
theorem rx_NW.same {s U : State} (hv : s.vm = U.vm) (h : rx_NW s) : rx_NW U := ⟨fun a i b n d g hm => (h.1 a i b n d g hm).same rfl hv, fun a i x g hm => (h.2 a i x g hm).same rfl hv⟩
def rx_txt : List String := ["spouse couple third length says bends drops takes loves dares fine seed if then else word place mood tired love which week price fines ", ";=+-*/<()"]
def rx_len : List Nat := [135, 9]
def rx_byt : List (List Int32) := [[115, 112, 111, 117, 115, 101, 32, 99, 111, 117, 112, 108, 101, 32, 116, 104, 105, 114, 100, 32, 108, 101, 110, 103, 116, 104, 32, 115, 97, 121, 115, 32, 98, 101, 110, 100, 115, 32, 100, 114, 111, 112, 115, 32, 116, 97, 107, 101, 115, 32, 108, 111, 118, 101, 115, 32, 100, 97, 114, 101, 115, 32, 102, 105, 110, 101, 32, 115, 101, 101, 100, 32, 105, 102, 32, 116, 104, 101, 110, 32, 101, 108, 115, 101, 32, 119, 111, 114, 100, 32, 112, 108, 97, 99, 101, 32, 109, 111, 111, 100, 32, 116, 105, 114, 101, 100, 32, 108, 111, 118, 101, 32, 119, 104, 105, 99, 104, 32, 119, 101, 101, 107, 32, 112, 114, 105, 99, 101, 32, 102, 105, 110, 101, 115, 32], [59, 61, 43, 45, 42, 47, 60, 40, 41]]
def rx_STR (A : Nat → Prop) (ad : Nat → Nat) (U : State) (H : Heap) : Prop := vk_S 2 rx_len rx_byt (fun i => ad (1000 + i)) (fun i => ad (2000 + i)) A U H ∧ vk_R RX9 25 (rx_txt.getD 0 "") (ad 1000) U ∧ vk_R RX9 79 (rx_txt.getD 1 "") (ad 1001) U ∧ va_Z "java/lang/String" "COMPACT_STRINGS" "Z" (.int 1) A U H ∧ ∃ v : Value, (v = .null ∨ v = .ref 3000) ∧ va_Z "jdk/internal/util/Preconditions" "SIOOBE_FORMATTER" "Ljava/util/function/BiFunction;" (rx_cv ad v) A U H


theorem rx_STR.warm {A : Nat → Prop} {ad : Nat → Nat} {s U : State} {H : Heap} (hW : s.WarmedH U.vm) (h : rx_STR A ad s H) : rx_STR A ad U H := ⟨h.1.moved hW.alike, h.2.1.warm hW, h.2.2.1.warm hW, h.2.2.2.1.moved hW.alike, h.2.2.2.2.imp fun _ z => ⟨z.1, z.2.moved hW.alike⟩⟩
theorem rx_STR.same {A : Nat → Prop} {ad : Nat → Nat} {s U : State} {H : Heap} (hv : U.vm = s.vm) (h : rx_STR A ad s H) : rx_STR A ad U H := ⟨h.1.moved (by rw [hv]; exact Vm.Alike.refl _), h.2.1.same hv, h.2.2.1.same hv, h.2.2.2.1.moved (by rw [hv]; exact Vm.Alike.refl _), h.2.2.2.2.imp fun _ z => ⟨z.1, z.2.moved (by rw [hv]; exact Vm.Alike.refl _)⟩⟩
theorem rx_STR.kept {A : Nat → Prop} {ad : Nat → Nat} {U : State} {H H1 : Heap} (h : rx_STR A ad U H) (hq : ∀ a : Nat, a < H.size → ¬ A a → H1[a]? = H[a]?) : rx_STR A ad U H1 := ⟨h.1.kept hq, h.2.1, h.2.2.1, h.2.2.2.1.kept hq, h.2.2.2.2.imp fun _ z => ⟨z.1, z.2.kept hq⟩⟩
theorem rx_STR.narrow {A B : Nat → Prop} {ad : Nat → Nat} {U : State} {H : Heap} (h : rx_STR A ad U H) (hAB : ∀ q, B q → A q) : rx_STR B ad U H := ⟨h.1.narrow hAB, h.2.1, h.2.2.1, h.2.2.2.1.narrow hAB, h.2.2.2.2.imp fun _ z => ⟨z.1, z.2.narrow hAB⟩⟩
/-! the judgement -/
def rx_lh (ad : Nat → Nat) (arr : Array Slot) (nL : Nat) (ls : List (Option Value)) : Prop := arr.size = nL ∧ lv_wf arr ∧ ∀ (i : Nat) (v : Value), ls[i]? = some (some v) → arr[i]? = some (Slot.val (rx_cv ad v))
def rx_ok (G : Nat × Nat) (d : Nat) (M : rx_M) (D : va_G) (cy : Nat → ClassId) (ad : Nat → Nat) (p : Program) (R : Room) (s : State) (m : MethodId) (args : Array Value) (meth : Method) (c : Code) : Prop :=
  p.tables.exec = Jvm.exec ∧ c.code = M.1 ∧ c.maxLocals = M.2.1 ∧ meth.sig.returnType = M.2.2.1 ∧ s.vm.findClass M.2.2.2.cls = some m.cls ∧ (∀ w ∈ rx_T, w.before args s = true) ∧ meth.locks = false ∧ va_K D rx_cl (rx_tys cy) s ∧ (d ≤ R.frames ∧ 64 * d ≤ R.locals) ∧ rx_NW s ∧ rx_STR (rx_A G ad s.heap.size) ad s s.heap
def rx_Q (G : Nat × Nat) (D : va_G) (cy : Nat → ClassId) (ad : Nat → Nat) (Post : Option Value → rx_S → Prop) : Array Value → State → Outcome → State → Prop := fun _ st oc t => ∃ (r : Option Value) (S' : rx_S), oc = .returned (r.map (rx_cv ad)) ∧ Post r S' ∧ va_P D rx_cl (rx_w G cy ad S') t.heap ∧ va_F (rx_A G ad st.heap.size) st t
def EV (G : Nat × Nat) (d : Nat) (M : rx_M) (pc : Nat) (ls : List (Option Value)) (st : List Value) (S : rx_S) (Post : Option Value → rx_S → Prop) : Prop :=
  ∀ (l : Launch) (D : va_G) (cy : Nat → ClassId) (ad : Nat → Nat) (p : Program) (e : Env) (R : Room) (s : State) (m : MethodId) (args : Array Value) (below : List Frame) (meth : Method) (c : Code) (H : Heap) (locs : List Loc) (arr : Array Slot) (n0 n1 : Nat), (n0 ≤ R.cells ∧ n1 ≤ R.slots) →
    rx_ok G d M D cy ad p R s m args meth c → va_P D rx_cl (rx_w G cy ad S) H → va_D (rx_A G ad s.heap.size) (rx_w G cy ad S) → va_S (rx_A G ad s.heap.size) s.heap H locs → rx_lh ad arr M.2.1 ls →
    W p l e R s m args below meth c H locs n0 n1 (MQ below (rx_Q G D cy ad Post) args s n0 n1 (rx_A G ad s.heap.size)) (F0 m pc arr (st.map (rx_cv ad)))
/-! locals -/
def rx_kl (ls : List (Option Value)) (i : Nat) : List (Option Value) := match i with
  | 0 => ls
  | j + 1 => match ls[j]? with
    | some (some w) => if w.category = 2 then ls.set j none else ls
    | _ => ls
def rx_s1 (ls : List (Option Value)) (i : Nat) (v : Value) : List (Option Value) := (rx_kl ls i).set i (some v)
def rx_s2 (ls : List (Option Value)) (i : Nat) (v : Value) : List (Option Value) := ((rx_kl ls i).set i (some v)).set (i + 1) none
def rx_lv (ad : Nat → Nat) (ls : List (Option Value)) : List (Nat × Value) := (List.range ls.length).filterMap (fun i => match ls[i]? with
  | some (some v) => some (i, rx_cv ad v)
  | _ => none)
theorem rx_lv_mem {ad : Nat → Nat} {ls : List (Option Value)} {q : Nat × Value} : q ∈ rx_lv ad ls ↔ ∃ v, ls[q.1]? = some (some v) ∧ q.2 = rx_cv ad v := by
  unfold rx_lv
  rw [List.mem_filterMap]
  constructor
  · rintro ⟨i, hi, h⟩
    split at h
    · rename_i v hv
      cases h
      exact ⟨v, hv, rfl⟩
    · cases h
  · rintro ⟨v, hv, h⟩
    refine ⟨q.1, List.mem_range.mpr (List.getElem?_eq_some_iff.mp hv).1, ?_⟩
    rw [hv]
    show some (q.1, rx_cv ad v) = some q
    rw [← h]
theorem rx_lh.has {ad : Nat → Nat} {arr : Array Slot} {nL : Nat} {ls : List (Option Value)} (h : rx_lh ad arr nL ls) : lv_has arr nL (rx_lv ad ls) := ⟨h.1, h.2.1, fun q hq => by
  obtain ⟨v, h1, h2⟩ := rx_lv_mem.mp hq
  rw [h2]
  exact h.2.2 _ _ h1⟩
theorem rx_cv_cat (ad : Nat → Nat) (v : Value) : (rx_cv ad v).category = v.category := by cases v <;> rfl
theorem rx_kl_of {ls : List (Option Value)} {i j : Nat} {v : Value} (h : (rx_kl ls i)[j]? = some (some v)) : ls[j]? = some (some v) ∧ ¬ (j + 1 = i ∧ v.category = 2) := by
  unfold rx_kl at h
  split at h
  · exact ⟨h, by omega⟩
  · rename_i i'
    split at h
    · rename_i w hw
      split at h
      · rename_i hc
        by_cases e : j = i'
        · subst e
          rw [List.getElem?_set_self (List.getElem?_eq_some_iff.mp hw).1] at h
          cases h
        · rw [List.getElem?_set_ne (Ne.symm e)] at h
          exact ⟨h, fun q => e (by omega)⟩
      · rename_i hc
        refine ⟨h, fun q => ?_⟩
        have e : j = i' := by omega
        subst e
        rw [hw] at h
        cases h
        exact hc q.2
    · rename_i hn
      refine ⟨h, fun q => ?_⟩
      have e : j = i' := by omega
      subst e
      exact hn _ h
theorem rx_lh.st1 {ad : Nat → Nat} {ls' : Array Slot} {nL i : Nat} {ls : List (Option Value)} {v : Value} (h : lv_has ls' nL ((i, rx_cv ad v) :: (rx_lv ad ls).filter (fun q => !(q.1 == i) && !(q.1 + 1 == i && q.2.category == 2)))) : rx_lh ad ls' nL (rx_s1 ls i v) := by
  refine ⟨h.1, h.2.1, fun j w hj => ?_⟩
  by_cases e : j = i
  · subst e
    unfold rx_s1 at hj
    by_cases hl : j < (rx_kl ls j).length
    · rw [List.getElem?_set_self hl] at hj
      cases hj
      exact h.2.2 (j, rx_cv ad v) List.mem_cons_self
    · rw [List.getElem?_eq_none (by rw [List.length_set]; omega)] at hj
      cases hj
  · unfold rx_s1 at hj
    rw [List.getElem?_set_ne (Ne.symm e)] at hj
    obtain ⟨h1, h2⟩ := rx_kl_of hj
    refine h.2.2 (j, rx_cv ad w) (List.mem_cons_of_mem _ (List.mem_filter.mpr ⟨rx_lv_mem.mpr ⟨w, h1, rfl⟩, ?_⟩))
    show (!(j == i) && !(j + 1 == i && (rx_cv ad w).category == 2)) = true
    rw [rx_cv_cat]
    by_cases g : j + 1 = i
    · have : ¬ w.category = 2 := fun q => h2 ⟨g, q⟩
      simp [e, this]
    · simp [e, g]
theorem rx_lh.st2 {ad : Nat → Nat} {ls' : Array Slot} {nL i : Nat} {ls : List (Option Value)} {v : Value} (h : lv_has ls' nL ((i, rx_cv ad v) :: (rx_lv ad ls).filter (fun q => !(q.1 == i) && (!(q.1 == i + 1) && !(q.1 + 1 == i && q.2.category == 2))))) : rx_lh ad ls' nL (rx_s2 ls i v) := by
  refine ⟨h.1, h.2.1, fun j w hj => ?_⟩
  unfold rx_s2 at hj
  have e1 : ¬ j = i + 1 := by
    intro e
    subst e
    by_cases hl : i + 1 < ((rx_kl ls i).set i (some v)).length
    · rw [List.getElem?_set_self hl] at hj
      cases hj
    · rw [List.getElem?_eq_none (by rw [List.length_set]; omega)] at hj
      cases hj
  rw [List.getElem?_set_ne (Ne.symm e1)] at hj
  by_cases e : j = i
  · subst e
    by_cases hl : j < (rx_kl ls j).length
    · rw [List.getElem?_set_self hl] at hj
      cases hj
      exact h.2.2 (j, rx_cv ad v) List.mem_cons_self
    · rw [List.getElem?_eq_none (by rw [List.length_set]; omega)] at hj
      cases hj
  · rw [List.getElem?_set_ne (Ne.symm e)] at hj
    obtain ⟨h1, h2⟩ := rx_kl_of hj
    refine h.2.2 (j, rx_cv ad w) (List.mem_cons_of_mem _ (List.mem_filter.mpr ⟨rx_lv_mem.mpr ⟨w, h1, rfl⟩, ?_⟩))
    show (!(j == i) && (!(j == i + 1) && !(j + 1 == i && (rx_cv ad w).category == 2))) = true
    rw [rx_cv_cat]
    by_cases g : j + 1 = i
    · have : ¬ w.category = 2 := fun q => h2 ⟨g, q⟩
      simp [e, e1, this]
    · simp [e, e1, g]
section EVR
variable {G : Nat × Nat} {d : Nat} {M : rx_M} {pc : Nat} {ls : List (Option Value)} {st : List Value} {S : rx_S} {Post : Option Value → rx_S → Prop}

theorem ev_iconst {n : Int} {v : Int32} (q : Nat) (hd : decode M.1 pc = .ok (.iconst n, 1)) (hv : Int32.ofInt n = v) (hq : pc + 1 = q) (k : EV G d M q ls (.int v :: st) S Post) : EV G d M pc ls (st) S Post := by
  subst hq
  intro l D cy ad p e R s m args below meth c H locs arr n0 n1 hRR hok hP hD hS hL
  exact lv_iconst hok.1 hok.2.1 hd hv (k l D cy ad p e R s m args below meth c H locs arr n0 n1 hRR hok hP hD hS hL)

theorem ev_bipush {n : Int} {v : Int32} (q : Nat) (hd : decode M.1 pc = .ok (.bipush n, 2)) (hv : (Int8.ofInt n).toInt32 = v) (hq : pc + 2 = q) (k : EV G d M q ls (.int v :: st) S Post) : EV G d M pc ls (st) S Post := by
  subst hq
  intro l D cy ad p e R s m args below meth c H locs arr n0 n1 hRR hok hP hD hS hL
  exact lv_bipush hok.1 hok.2.1 hd hv (k l D cy ad p e R s m args below meth c H locs arr n0 n1 hRR hok hP hD hS hL)

theorem ev_sipush {n : Int} {v : Int32} (q : Nat) (hd : decode M.1 pc = .ok (.sipush n, 3)) (hv : (Int16.ofInt n).toInt32 = v) (hq : pc + 3 = q) (k : EV G d M q ls (.int v :: st) S Post) : EV G d M pc ls (st) S Post := by
  subst hq
  intro l D cy ad p e R s m args below meth c H locs arr n0 n1 hRR hok hP hD hS hL
  exact lv_sipush hok.1 hok.2.1 hd hv (k l D cy ad p e R s m args below meth c H locs arr n0 n1 hRR hok hP hD hS hL)

theorem ev_lconst {n : Fin 2} {v : Int64} (q : Nat) (hd : decode M.1 pc = .ok (.lconst n, 1)) (hv : Int64.ofNat (n : Nat) = v) (hq : pc + 1 = q) (k : EV G d M q ls (.long v :: st) S Post) : EV G d M pc ls (st) S Post := by
  subst hq
  intro l D cy ad p e R s m args below meth c H locs arr n0 n1 hRR hok hP hD hS hL
  exact lv_lconst hok.1 hok.2.1 hd hv (k l D cy ad p e R s m args below meth c H locs arr n0 n1 hRR hok hP hD hS hL)

theorem ev_iload_n {j : Fin 4} {i : Nat} {x : Int32} (q : Nat) (hd : decode M.1 pc = .ok (.iload_n j, 1)) (hj : (j : Nat) = i) (hl : ls[i]? = some (some (.int x))) (hq : pc + 1 = q) (k : EV G d M q ls (.int x :: st) S Post) : EV G d M pc ls (st) S Post := by
  subst hq
  intro l D cy ad p e R s m args below meth c H locs arr n0 n1 hRR hok hP hD hS hL
  exact lv_iload_n hok.1 hok.2.1 hd hj (hL.2.2 _ _ hl) (k l D cy ad p e R s m args below meth c H locs arr n0 n1 hRR hok hP hD hS hL)

theorem ev_iload {i : Nat} {x : Int32} (q : Nat) (hd : decode M.1 pc = .ok (.iload i, 2)) (hl : ls[i]? = some (some (.int x))) (hq : pc + 2 = q) (k : EV G d M q ls (.int x :: st) S Post) : EV G d M pc ls (st) S Post := by
  subst hq
  intro l D cy ad p e R s m args below meth c H locs arr n0 n1 hRR hok hP hD hS hL
  exact lv_iload hok.1 hok.2.1 hd (hL.2.2 _ _ hl) (k l D cy ad p e R s m args below meth c H locs arr n0 n1 hRR hok hP hD hS hL)

theorem ev_lload_n {j : Fin 4} {i : Nat} {x : Int64} (q : Nat) (hd : decode M.1 pc = .ok (.lload_n j, 1)) (hj : (j : Nat) = i) (hl : ls[i]? = some (some (.long x))) (hq : pc + 1 = q) (k : EV G d M q ls (.long x :: st) S Post) : EV G d M pc ls (st) S Post := by
  subst hq
  intro l D cy ad p e R s m args below meth c H locs arr n0 n1 hRR hok hP hD hS hL
  exact lv_lload_n hok.1 hok.2.1 hd hj (hL.2.2 _ _ hl) (k l D cy ad p e R s m args below meth c H locs arr n0 n1 hRR hok hP hD hS hL)

theorem ev_lload {i : Nat} {x : Int64} (q : Nat) (hd : decode M.1 pc = .ok (.lload i, 2)) (hl : ls[i]? = some (some (.long x))) (hq : pc + 2 = q) (k : EV G d M q ls (.long x :: st) S Post) : EV G d M pc ls (st) S Post := by
  subst hq
  intro l D cy ad p e R s m args below meth c H locs arr n0 n1 hRR hok hP hD hS hL
  exact lv_lload hok.1 hok.2.1 hd (hL.2.2 _ _ hl) (k l D cy ad p e R s m args below meth c H locs arr n0 n1 hRR hok hP hD hS hL)

theorem ev_aload_n {j : Fin 4} {i : Nat} {x : Nat} (q : Nat) (hd : decode M.1 pc = .ok (.aload_n j, 1)) (hj : (j : Nat) = i) (hl : ls[i]? = some (some (.ref x))) (hq : pc + 1 = q) (k : EV G d M q ls (.ref x :: st) S Post) : EV G d M pc ls (st) S Post := by
  subst hq
  intro l D cy ad p e R s m args below meth c H locs arr n0 n1 hRR hok hP hD hS hL
  exact lv_aload_n hok.1 hok.2.1 hd hj (hL.2.2 _ _ hl) (k l D cy ad p e R s m args below meth c H locs arr n0 n1 hRR hok hP hD hS hL)

theorem ev_aload {i : Nat} {x : Nat} (q : Nat) (hd : decode M.1 pc = .ok (.aload i, 2)) (hl : ls[i]? = some (some (.ref x))) (hq : pc + 2 = q) (k : EV G d M q ls (.ref x :: st) S Post) : EV G d M pc ls (st) S Post := by
  subst hq
  intro l D cy ad p e R s m args below meth c H locs arr n0 n1 hRR hok hP hD hS hL
  exact lv_aload hok.1 hok.2.1 hd (hL.2.2 _ _ hl) (k l D cy ad p e R s m args below meth c H locs arr n0 n1 hRR hok hP hD hS hL)

theorem ev_iadd {x y : Int32} (q : Nat) (hd : decode M.1 pc = .ok (.iadd, 1)) (hq : pc + 1 = q) (k : EV G d M q ls (.int (x + y) :: st) S Post) : EV G d M pc ls (.int y :: .int x :: st) S Post := by
  subst hq
  intro l D cy ad p e R s m args below meth c H locs arr n0 n1 hRR hok hP hD hS hL
  exact lv_iadd hok.1 hok.2.1 hd (k l D cy ad p e R s m args below meth c H locs arr n0 n1 hRR hok hP hD hS hL)

theorem ev_isub {x y : Int32} (q : Nat) (hd : decode M.1 pc = .ok (.isub, 1)) (hq : pc + 1 = q) (k : EV G d M q ls (.int (x - y) :: st) S Post) : EV G d M pc ls (.int y :: .int x :: st) S Post := by
  subst hq
  intro l D cy ad p e R s m args below meth c H locs arr n0 n1 hRR hok hP hD hS hL
  exact lv_isub hok.1 hok.2.1 hd (k l D cy ad p e R s m args below meth c H locs arr n0 n1 hRR hok hP hD hS hL)

theorem ev_imul {x y : Int32} (q : Nat) (hd : decode M.1 pc = .ok (.imul, 1)) (hq : pc + 1 = q) (k : EV G d M q ls (.int (x * y) :: st) S Post) : EV G d M pc ls (.int y :: .int x :: st) S Post := by
  subst hq
  intro l D cy ad p e R s m args below meth c H locs arr n0 n1 hRR hok hP hD hS hL
  exact lv_imul hok.1 hok.2.1 hd (k l D cy ad p e R s m args below meth c H locs arr n0 n1 hRR hok hP hD hS hL)

theorem ev_iand {x y : Int32} (q : Nat) (hd : decode M.1 pc = .ok (.iand, 1)) (hq : pc + 1 = q) (k : EV G d M q ls (.int (x &&& y) :: st) S Post) : EV G d M pc ls (.int y :: .int x :: st) S Post := by
  subst hq
  intro l D cy ad p e R s m args below meth c H locs arr n0 n1 hRR hok hP hD hS hL
  exact lv_iand hok.1 hok.2.1 hd (k l D cy ad p e R s m args below meth c H locs arr n0 n1 hRR hok hP hD hS hL)

theorem ev_ior {x y : Int32} (q : Nat) (hd : decode M.1 pc = .ok (.ior, 1)) (hq : pc + 1 = q) (k : EV G d M q ls (.int (x ||| y) :: st) S Post) : EV G d M pc ls (.int y :: .int x :: st) S Post := by
  subst hq
  intro l D cy ad p e R s m args below meth c H locs arr n0 n1 hRR hok hP hD hS hL
  exact lv_ior hok.1 hok.2.1 hd (k l D cy ad p e R s m args below meth c H locs arr n0 n1 hRR hok hP hD hS hL)

theorem ev_ixor {x y : Int32} (q : Nat) (hd : decode M.1 pc = .ok (.ixor, 1)) (hq : pc + 1 = q) (k : EV G d M q ls (.int (x ^^^ y) :: st) S Post) : EV G d M pc ls (.int y :: .int x :: st) S Post := by
  subst hq
  intro l D cy ad p e R s m args below meth c H locs arr n0 n1 hRR hok hP hD hS hL
  exact lv_ixor hok.1 hok.2.1 hd (k l D cy ad p e R s m args below meth c H locs arr n0 n1 hRR hok hP hD hS hL)

theorem ev_ishl {x y : Int32} (q : Nat) (hd : decode M.1 pc = .ok (.ishl, 1)) (hq : pc + 1 = q) (k : EV G d M q ls (.int (x <<< (y &&& 31)) :: st) S Post) : EV G d M pc ls (.int y :: .int x :: st) S Post := by
  subst hq
  intro l D cy ad p e R s m args below meth c H locs arr n0 n1 hRR hok hP hD hS hL
  exact lv_ishl hok.1 hok.2.1 hd (k l D cy ad p e R s m args below meth c H locs arr n0 n1 hRR hok hP hD hS hL)

theorem ev_ishr {x y : Int32} (q : Nat) (hd : decode M.1 pc = .ok (.ishr, 1)) (hq : pc + 1 = q) (k : EV G d M q ls (.int (x >>> (y &&& 31)) :: st) S Post) : EV G d M pc ls (.int y :: .int x :: st) S Post := by
  subst hq
  intro l D cy ad p e R s m args below meth c H locs arr n0 n1 hRR hok hP hD hS hL
  exact lv_ishr hok.1 hok.2.1 hd (k l D cy ad p e R s m args below meth c H locs arr n0 n1 hRR hok hP hD hS hL)

theorem ev_idiv {x y : Int32} (q : Nat) (hd : decode M.1 pc = .ok (.idiv, 1)) (hne : ¬ y = 0) (hq : pc + 1 = q) (k : EV G d M q ls (.int (x / y) :: st) S Post) : EV G d M pc ls (.int y :: .int x :: st) S Post := by
  subst hq
  intro l D cy ad p e R s m args below meth c H locs arr n0 n1 hRR hok hP hD hS hL
  exact lv_idiv hok.1 hok.2.1 hd hne (k l D cy ad p e R s m args below meth c H locs arr n0 n1 hRR hok hP hD hS hL)

theorem ev_irem {x y : Int32} (q : Nat) (hd : decode M.1 pc = .ok (.irem, 1)) (hne : ¬ y = 0) (hq : pc + 1 = q) (k : EV G d M q ls (.int (x - x / y * y) :: st) S Post) : EV G d M pc ls (.int y :: .int x :: st) S Post := by
  subst hq
  intro l D cy ad p e R s m args below meth c H locs arr n0 n1 hRR hok hP hD hS hL
  exact lv_irem hok.1 hok.2.1 hd hne (k l D cy ad p e R s m args below meth c H locs arr n0 n1 hRR hok hP hD hS hL)

theorem ev_iushr {x y : Int32} (q : Nat) (hd : decode M.1 pc = .ok (.iushr, 1)) (hq : pc + 1 = q) (k : EV G d M q ls (.int ((x.toUInt32 >>> (y.toUInt32 &&& Int32.toUInt32 31)).toInt32) :: st) S Post) : EV G d M pc ls (.int y :: .int x :: st) S Post := by
  subst hq
  intro l D cy ad p e R s m args below meth c H locs arr n0 n1 hRR hok hP hD hS hL
  exact lv_iushr hok.1 hok.2.1 hd rfl (k l D cy ad p e R s m args below meth c H locs arr n0 n1 hRR hok hP hD hS hL)

theorem ev_ladd {x y : Int64} (q : Nat) (hd : decode M.1 pc = .ok (.ladd, 1)) (hq : pc + 1 = q) (k : EV G d M q ls (.long (x + y) :: st) S Post) : EV G d M pc ls (.long y :: .long x :: st) S Post := by
  subst hq
  intro l D cy ad p e R s m args below meth c H locs arr n0 n1 hRR hok hP hD hS hL
  exact lv_ladd hok.1 hok.2.1 hd (k l D cy ad p e R s m args below meth c H locs arr n0 n1 hRR hok hP hD hS hL)

theorem ev_lmul {x y : Int64} (q : Nat) (hd : decode M.1 pc = .ok (.lmul, 1)) (hq : pc + 1 = q) (k : EV G d M q ls (.long (x * y) :: st) S Post) : EV G d M pc ls (.long y :: .long x :: st) S Post := by
  subst hq
  intro l D cy ad p e R s m args below meth c H locs arr n0 n1 hRR hok hP hD hS hL
  exact lv_lmul hok.1 hok.2.1 hd (k l D cy ad p e R s m args below meth c H locs arr n0 n1 hRR hok hP hD hS hL)

theorem ev_i2l {x : Int32} (q : Nat) (hd : decode M.1 pc = .ok (.i2l, 1)) (hq : pc + 1 = q) (k : EV G d M q ls (.long x.toInt64 :: st) S Post) : EV G d M pc ls (.int x :: st) S Post := by
  subst hq
  intro l D cy ad p e R s m args below meth c H locs arr n0 n1 hRR hok hP hD hS hL
  exact lv_i2l hok.1 hok.2.1 hd rfl (k l D cy ad p e R s m args below meth c H locs arr n0 n1 hRR hok hP hD hS hL)

theorem ev_l2i {x : Int64} (q : Nat) (hd : decode M.1 pc = .ok (.l2i, 1)) (hq : pc + 1 = q) (k : EV G d M q ls (.int x.toInt32 :: st) S Post) : EV G d M pc ls (.long x :: st) S Post := by
  subst hq
  intro l D cy ad p e R s m args below meth c H locs arr n0 n1 hRR hok hP hD hS hL
  exact lv_l2i hok.1 hok.2.1 hd rfl (k l D cy ad p e R s m args below meth c H locs arr n0 n1 hRR hok hP hD hS hL)

theorem ev_i2b {x : Int32} (q : Nat) (hd : decode M.1 pc = .ok (.i2b, 1)) (hq : pc + 1 = q) (k : EV G d M q ls (.int x.toInt8.toInt32 :: st) S Post) : EV G d M pc ls (.int x :: st) S Post := by
  subst hq
  intro l D cy ad p e R s m args below meth c H locs arr n0 n1 hRR hok hP hD hS hL
  exact lv_i2b hok.1 hok.2.1 hd rfl (k l D cy ad p e R s m args below meth c H locs arr n0 n1 hRR hok hP hD hS hL)

theorem ev_i2c {x : Int32} (q : Nat) (hd : decode M.1 pc = .ok (.i2c, 1)) (hq : pc + 1 = q) (k : EV G d M q ls (.int (x.toUInt32 % 65536).toInt32 :: st) S Post) : EV G d M pc ls (.int x :: st) S Post := by
  subst hq
  intro l D cy ad p e R s m args below meth c H locs arr n0 n1 hRR hok hP hD hS hL
  exact lv_i2c hok.1 hok.2.1 hd rfl (k l D cy ad p e R s m args below meth c H locs arr n0 n1 hRR hok hP hD hS hL)

theorem ev_lcmp {x y : Int64} (q : Nat) (hd : decode M.1 pc = .ok (.lcmp, 1)) (hq : pc + 1 = q) (k : EV G d M q ls (.int (lg_cmp x y) :: st) S Post) : EV G d M pc ls (.long y :: .long x :: st) S Post := by
  subst hq
  intro l D cy ad p e R s m args below meth c H locs arr n0 n1 hRR hok hP hD hS hL
  exact W.lcmp hok.1 hok.2.1 hd (k l D cy ad p e R s m args below meth c H locs arr n0 n1 hRR hok hP hD hS hL)

theorem ev_dup {v : Value} (q : Nat) (hd : decode M.1 pc = .ok (.dup, 1)) (hc : v.category = 1) (hq : pc + 1 = q) (k : EV G d M q ls (v :: v :: st) S Post) : EV G d M pc ls (v :: st) S Post := by
  subst hq
  intro l D cy ad p e R s m args below meth c H locs arr n0 n1 hRR hok hP hD hS hL
  exact lv_dup hok.1 hok.2.1 hd ((rx_cv_cat ad v).trans hc) (k l D cy ad p e R s m args below meth c H locs arr n0 n1 hRR hok hP hD hS hL)
theorem ev_pop {v : Value} (q : Nat) (hd : decode M.1 pc = .ok (.pop, 1)) (hc : v.category = 1) (hq : pc + 1 = q) (k : EV G d M q ls st S Post) : EV G d M pc ls (v :: st) S Post := by
  subst hq
  intro l D cy ad p e R s m args below meth c H locs arr n0 n1 hRR hok hP hD hS hL
  exact lv_pop hok.1 hok.2.1 hd ((rx_cv_cat ad v).trans hc) (k l D cy ad p e R s m args below meth c H locs arr n0 n1 hRR hok hP hD hS hL)
theorem ev_dup2 {v w : Value} (q : Nat) (hd : decode M.1 pc = .ok (.dup2, 1)) (hc : v.category = 1) (hc2 : w.category = 1) (hq : pc + 1 = q) (k : EV G d M q ls (v :: w :: v :: w :: st) S Post) : EV G d M pc ls (v :: w :: st) S Post := by
  subst hq
  intro l D cy ad p e R s m args below meth c H locs arr n0 n1 hRR hok hP hD hS hL
  exact lv_dup2_11 hok.1 hok.2.1 hd ((rx_cv_cat ad v).trans hc) ((rx_cv_cat ad w).trans hc2) (k l D cy ad p e R s m args below meth c H locs arr n0 n1 hRR hok hP hD hS hL)

theorem ev_ldc {own : String} {index : Nat} {v : Int32} (q : Nat) (hd : decode M.1 pc = .ok (.ldc index, 2)) (ho : M.2.2.2.cls = own) (hw : Cond.constant own index v ∈ rx_T) (hq : pc + 2 = q) (k : EV G d M q ls (.int v :: st) S Post) : EV G d M pc ls st S Post := by
  subst hq
  subst ho
  intro l D cy ad p e R s m args below meth c H locs arr n0 n1 hRR hok hP hD hS hL
  exact lv_ldc hok.1 hok.2.1 hok.2.2.2.2.1 (hok.2.2.2.2.2.1 _ hw) hd (k l D cy ad p e R s m args below meth c H locs arr n0 n1 hRR hok hP hD hS hL)
theorem ev_ldcw {own : String} {index : Nat} {v : Int32} (q : Nat) (hd : decode M.1 pc = .ok (.ldc_w index, 3)) (ho : M.2.2.2.cls = own) (hw : Cond.constant own index v ∈ rx_T) (hq : pc + 3 = q) (k : EV G d M q ls (.int v :: st) S Post) : EV G d M pc ls st S Post := by
  subst hq
  subst ho
  intro l D cy ad p e R s m args below meth c H locs arr n0 n1 hRR hok hP hD hS hL
  exact lv_ldcw hok.1 hok.2.1 hok.2.2.2.2.1 (hok.2.2.2.2.2.1 _ hw) hd (k l D cy ad p e R s m args below meth c H locs arr n0 n1 hRR hok hP hD hS hL)
theorem ev_ldc2 {own : String} {index : Nat} {v : Int64} (q : Nat) (hd : decode M.1 pc = .ok (.ldc2_w index, 3)) (ho : M.2.2.2.cls = own) (hw : Cond.constantLong own index v ∈ rx_T) (hq : pc + 3 = q) (k : EV G d M q ls (.long v :: st) S Post) : EV G d M pc ls st S Post := by
  subst hq
  subst ho
  intro l D cy ad p e R s m args below meth c H locs arr n0 n1 hRR hok hP hD hS hL
  exact lv_ldc2 hok.1 hok.2.1 hok.2.2.2.2.1 (hok.2.2.2.2.2.1 _ hw) hd (k l D cy ad p e R s m args below meth c H locs arr n0 n1 hRR hok hP hD hS hL)

theorem ev_istore_n {j : Fin 4} {i : Nat} {x : Int32} {ls' : List (Option Value)} (q : Nat) (hd : decode M.1 pc = .ok (.istore_n j, 1)) (hj : (j : Nat) = i) (hn : i < M.2.1) (hs : rx_s1 ls i (.int x) = ls') (hq : pc + 1 = q) (k : EV G d M q ls' st S Post) : EV G d M pc ls (.int x :: st) S Post := by
  subst hq
  subst hs
  intro l D cy ad p e R s m args below meth c H locs arr n0 n1 hRR hok hP hD hS hL
  exact lv_istore_n hok.1 hok.2.1 hd hj hL.has hn rfl (fun arr' hL' => k l D cy ad p e R s m args below meth c H locs arr' n0 n1 hRR hok hP hD hS (rx_lh.st1 (v := .int x) hL'))

theorem ev_istore {i : Nat} {x : Int32} {ls' : List (Option Value)} (q : Nat) (hd : decode M.1 pc = .ok (.istore i, 2)) (hn : i < M.2.1) (hs : rx_s1 ls i (.int x) = ls') (hq : pc + 2 = q) (k : EV G d M q ls' st S Post) : EV G d M pc ls (.int x :: st) S Post := by
  subst hq
  subst hs
  intro l D cy ad p e R s m args below meth c H locs arr n0 n1 hRR hok hP hD hS hL
  exact lv_istore hok.1 hok.2.1 hd hL.has hn rfl (fun arr' hL' => k l D cy ad p e R s m args below meth c H locs arr' n0 n1 hRR hok hP hD hS (rx_lh.st1 (v := .int x) hL'))

theorem ev_lstore_n {j : Fin 4} {i : Nat} {x : Int64} {ls' : List (Option Value)} (q : Nat) (hd : decode M.1 pc = .ok (.lstore_n j, 1)) (hj : (j : Nat) = i) (hn : i + 1 < M.2.1) (hs : rx_s2 ls i (.long x) = ls') (hq : pc + 1 = q) (k : EV G d M q ls' st S Post) : EV G d M pc ls (.long x :: st) S Post := by
  subst hq
  subst hs
  intro l D cy ad p e R s m args below meth c H locs arr n0 n1 hRR hok hP hD hS hL
  exact lv_lstore_n hok.1 hok.2.1 hd hj hL.has hn rfl (fun arr' hL' => k l D cy ad p e R s m args below meth c H locs arr' n0 n1 hRR hok hP hD hS (rx_lh.st2 (v := .long x) hL'))

theorem ev_lstore {i : Nat} {x : Int64} {ls' : List (Option Value)} (q : Nat) (hd : decode M.1 pc = .ok (.lstore i, 2)) (hn : i + 1 < M.2.1) (hs : rx_s2 ls i (.long x) = ls') (hq : pc + 2 = q) (k : EV G d M q ls' st S Post) : EV G d M pc ls (.long x :: st) S Post := by
  subst hq
  subst hs
  intro l D cy ad p e R s m args below meth c H locs arr n0 n1 hRR hok hP hD hS hL
  exact lv_lstore hok.1 hok.2.1 hd hL.has hn rfl (fun arr' hL' => k l D cy ad p e R s m args below meth c H locs arr' n0 n1 hRR hok hP hD hS (rx_lh.st2 (v := .long x) hL'))

theorem ev_astore_n {j : Fin 4} {i x : Nat} {ls' : List (Option Value)} (q : Nat) (hd : decode M.1 pc = .ok (.astore_n j, 1)) (hj : (j : Nat) = i) (hn : i < M.2.1) (hs : rx_s1 ls i (.ref x) = ls') (hq : pc + 1 = q) (k : EV G d M q ls' st S Post) : EV G d M pc ls (.ref x :: st) S Post := by
  subst hq
  subst hs
  intro l D cy ad p e R s m args below meth c H locs arr n0 n1 hRR hok hP hD hS hL
  exact lv_astore_n hok.1 hok.2.1 hd hj hL.has hn rfl (fun arr' hL' => k l D cy ad p e R s m args below meth c H locs arr' n0 n1 hRR hok hP hD hS (rx_lh.st1 (v := .ref x) hL'))
theorem ev_iinc {i : Nat} {n : Int} {x v : Int32} {ls' : List (Option Value)} (q : Nat) (hd : decode M.1 pc = .ok (.iinc i n, 3)) (hl : ls[i]? = some (some (.int x))) (hv : x + Int32.ofInt n = v) (hn : i < M.2.1) (hs : rx_s1 ls i (.int v) = ls') (hq : pc + 3 = q) (k : EV G d M q ls' st S Post) : EV G d M pc ls st S Post := by
  subst hq
  subst hs
  intro l D cy ad p e R s m args below meth c H locs arr n0 n1 hRR hok hP hD hS hL
  obtain ⟨kk, hkk⟩ := List.getElem?_of_mem (rx_lv_mem (ad := ad).mpr (show ∃ v, ls[((i, Value.int x) : Nat × Value).1]? = some (some v) ∧ ((i, Value.int x) : Nat × Value).2 = rx_cv ad v from ⟨.int x, hl, rfl⟩))
  exact lv_iinc hok.1 hok.2.1 hd hL.has hkk hv hn rfl (fun arr' hL' => k l D cy ad p e R s m args below meth c H locs arr' n0 n1 hRR hok hP hD hS (rx_lh.st1 (v := .int v) hL'))

theorem ev_if_eq {x : Int32} {off : Int} (t q : Nat) (hd : decode M.1 pc = .ok (.ifCond .eq off, 3)) (ht : (pc : Int) + off = (t : Int)) (hq : pc + 3 = q) (kt : x = 0 → EV G d M t ls st S Post) (kf : ¬ x = 0 → EV G d M q ls st S Post) : EV G d M pc ls (.int x :: st) S Post := by
  subst hq
  intro l D cy ad p e R s m args below meth c H locs arr n0 n1 hRR hok hP hD hS hL
  exact lv_if_eq hok.1 hok.2.1 hd ht (fun hc => kt hc l D cy ad p e R s m args below meth c H locs arr n0 n1 hRR hok hP hD hS hL) (fun hc => kf hc l D cy ad p e R s m args below meth c H locs arr n0 n1 hRR hok hP hD hS hL)

theorem ev_icmp_eq {x y : Int32} {off : Int} (t q : Nat) (hd : decode M.1 pc = .ok (.if_icmp .eq off, 3)) (ht : (pc : Int) + off = (t : Int)) (hq : pc + 3 = q) (kt : x = y → EV G d M t ls st S Post) (kf : ¬ x = y → EV G d M q ls st S Post) : EV G d M pc ls (.int y :: .int x :: st) S Post := by
  subst hq
  intro l D cy ad p e R s m args below meth c H locs arr n0 n1 hRR hok hP hD hS hL
  exact lv_icmp_eq hok.1 hok.2.1 hd ht (fun hc => kt hc l D cy ad p e R s m args below meth c H locs arr n0 n1 hRR hok hP hD hS hL) (fun hc => kf hc l D cy ad p e R s m args below meth c H locs arr n0 n1 hRR hok hP hD hS hL)

theorem ev_if_ne {x : Int32} {off : Int} (t q : Nat) (hd : decode M.1 pc = .ok (.ifCond .ne off, 3)) (ht : (pc : Int) + off = (t : Int)) (hq : pc + 3 = q) (kt : ¬ x = 0 → EV G d M t ls st S Post) (kf : x = 0 → EV G d M q ls st S Post) : EV G d M pc ls (.int x :: st) S Post := by
  subst hq
  intro l D cy ad p e R s m args below meth c H locs arr n0 n1 hRR hok hP hD hS hL
  exact lv_if_ne hok.1 hok.2.1 hd ht (fun hc => kt hc l D cy ad p e R s m args below meth c H locs arr n0 n1 hRR hok hP hD hS hL) (fun hc => kf hc l D cy ad p e R s m args below meth c H locs arr n0 n1 hRR hok hP hD hS hL)

theorem ev_icmp_ne {x y : Int32} {off : Int} (t q : Nat) (hd : decode M.1 pc = .ok (.if_icmp .ne off, 3)) (ht : (pc : Int) + off = (t : Int)) (hq : pc + 3 = q) (kt : ¬ x = y → EV G d M t ls st S Post) (kf : x = y → EV G d M q ls st S Post) : EV G d M pc ls (.int y :: .int x :: st) S Post := by
  subst hq
  intro l D cy ad p e R s m args below meth c H locs arr n0 n1 hRR hok hP hD hS hL
  exact lv_icmp_ne hok.1 hok.2.1 hd ht (fun hc => kt hc l D cy ad p e R s m args below meth c H locs arr n0 n1 hRR hok hP hD hS hL) (fun hc => kf hc l D cy ad p e R s m args below meth c H locs arr n0 n1 hRR hok hP hD hS hL)

theorem ev_if_lt {x : Int32} {off : Int} (t q : Nat) (hd : decode M.1 pc = .ok (.ifCond .lt off, 3)) (ht : (pc : Int) + off = (t : Int)) (hq : pc + 3 = q) (kt : x < 0 → EV G d M t ls st S Post) (kf : ¬ x < 0 → EV G d M q ls st S Post) : EV G d M pc ls (.int x :: st) S Post := by
  subst hq
  intro l D cy ad p e R s m args below meth c H locs arr n0 n1 hRR hok hP hD hS hL
  exact lv_if_lt hok.1 hok.2.1 hd ht (fun hc => kt hc l D cy ad p e R s m args below meth c H locs arr n0 n1 hRR hok hP hD hS hL) (fun hc => kf hc l D cy ad p e R s m args below meth c H locs arr n0 n1 hRR hok hP hD hS hL)

theorem ev_icmp_lt {x y : Int32} {off : Int} (t q : Nat) (hd : decode M.1 pc = .ok (.if_icmp .lt off, 3)) (ht : (pc : Int) + off = (t : Int)) (hq : pc + 3 = q) (kt : x < y → EV G d M t ls st S Post) (kf : ¬ x < y → EV G d M q ls st S Post) : EV G d M pc ls (.int y :: .int x :: st) S Post := by
  subst hq
  intro l D cy ad p e R s m args below meth c H locs arr n0 n1 hRR hok hP hD hS hL
  exact lv_icmp_lt hok.1 hok.2.1 hd ht (fun hc => kt hc l D cy ad p e R s m args below meth c H locs arr n0 n1 hRR hok hP hD hS hL) (fun hc => kf hc l D cy ad p e R s m args below meth c H locs arr n0 n1 hRR hok hP hD hS hL)

theorem ev_if_ge {x : Int32} {off : Int} (t q : Nat) (hd : decode M.1 pc = .ok (.ifCond .ge off, 3)) (ht : (pc : Int) + off = (t : Int)) (hq : pc + 3 = q) (kt : 0 ≤ x → EV G d M t ls st S Post) (kf : ¬ 0 ≤ x → EV G d M q ls st S Post) : EV G d M pc ls (.int x :: st) S Post := by
  subst hq
  intro l D cy ad p e R s m args below meth c H locs arr n0 n1 hRR hok hP hD hS hL
  exact lv_if_ge hok.1 hok.2.1 hd ht (fun hc => kt hc l D cy ad p e R s m args below meth c H locs arr n0 n1 hRR hok hP hD hS hL) (fun hc => kf hc l D cy ad p e R s m args below meth c H locs arr n0 n1 hRR hok hP hD hS hL)

theorem ev_icmp_ge {x y : Int32} {off : Int} (t q : Nat) (hd : decode M.1 pc = .ok (.if_icmp .ge off, 3)) (ht : (pc : Int) + off = (t : Int)) (hq : pc + 3 = q) (kt : y ≤ x → EV G d M t ls st S Post) (kf : ¬ y ≤ x → EV G d M q ls st S Post) : EV G d M pc ls (.int y :: .int x :: st) S Post := by
  subst hq
  intro l D cy ad p e R s m args below meth c H locs arr n0 n1 hRR hok hP hD hS hL
  exact lv_icmp_ge hok.1 hok.2.1 hd ht (fun hc => kt hc l D cy ad p e R s m args below meth c H locs arr n0 n1 hRR hok hP hD hS hL) (fun hc => kf hc l D cy ad p e R s m args below meth c H locs arr n0 n1 hRR hok hP hD hS hL)

theorem ev_if_gt {x : Int32} {off : Int} (t q : Nat) (hd : decode M.1 pc = .ok (.ifCond .gt off, 3)) (ht : (pc : Int) + off = (t : Int)) (hq : pc + 3 = q) (kt : 0 < x → EV G d M t ls st S Post) (kf : ¬ 0 < x → EV G d M q ls st S Post) : EV G d M pc ls (.int x :: st) S Post := by
  subst hq
  intro l D cy ad p e R s m args below meth c H locs arr n0 n1 hRR hok hP hD hS hL
  exact lv_if_gt hok.1 hok.2.1 hd ht (fun hc => kt hc l D cy ad p e R s m args below meth c H locs arr n0 n1 hRR hok hP hD hS hL) (fun hc => kf hc l D cy ad p e R s m args below meth c H locs arr n0 n1 hRR hok hP hD hS hL)

theorem ev_icmp_gt {x y : Int32} {off : Int} (t q : Nat) (hd : decode M.1 pc = .ok (.if_icmp .gt off, 3)) (ht : (pc : Int) + off = (t : Int)) (hq : pc + 3 = q) (kt : y < x → EV G d M t ls st S Post) (kf : ¬ y < x → EV G d M q ls st S Post) : EV G d M pc ls (.int y :: .int x :: st) S Post := by
  subst hq
  intro l D cy ad p e R s m args below meth c H locs arr n0 n1 hRR hok hP hD hS hL
  exact lv_icmp_gt hok.1 hok.2.1 hd ht (fun hc => kt hc l D cy ad p e R s m args below meth c H locs arr n0 n1 hRR hok hP hD hS hL) (fun hc => kf hc l D cy ad p e R s m args below meth c H locs arr n0 n1 hRR hok hP hD hS hL)

theorem ev_if_le {x : Int32} {off : Int} (t q : Nat) (hd : decode M.1 pc = .ok (.ifCond .le off, 3)) (ht : (pc : Int) + off = (t : Int)) (hq : pc + 3 = q) (kt : x ≤ 0 → EV G d M t ls st S Post) (kf : ¬ x ≤ 0 → EV G d M q ls st S Post) : EV G d M pc ls (.int x :: st) S Post := by
  subst hq
  intro l D cy ad p e R s m args below meth c H locs arr n0 n1 hRR hok hP hD hS hL
  exact lv_if_le hok.1 hok.2.1 hd ht (fun hc => kt hc l D cy ad p e R s m args below meth c H locs arr n0 n1 hRR hok hP hD hS hL) (fun hc => kf hc l D cy ad p e R s m args below meth c H locs arr n0 n1 hRR hok hP hD hS hL)

theorem ev_icmp_le {x y : Int32} {off : Int} (t q : Nat) (hd : decode M.1 pc = .ok (.if_icmp .le off, 3)) (ht : (pc : Int) + off = (t : Int)) (hq : pc + 3 = q) (kt : x ≤ y → EV G d M t ls st S Post) (kf : ¬ x ≤ y → EV G d M q ls st S Post) : EV G d M pc ls (.int y :: .int x :: st) S Post := by
  subst hq
  intro l D cy ad p e R s m args below meth c H locs arr n0 n1 hRR hok hP hD hS hL
  exact lv_icmp_le hok.1 hok.2.1 hd ht (fun hc => kt hc l D cy ad p e R s m args below meth c H locs arr n0 n1 hRR hok hP hD hS hL) (fun hc => kf hc l D cy ad p e R s m args below meth c H locs arr n0 n1 hRR hok hP hD hS hL)

theorem ev_goto {off : Int} (t : Nat) (hd : decode M.1 pc = .ok (.goto off, 3)) (ht : (pc : Int) + off = (t : Int)) (k : EV G d M t ls st S Post) : EV G d M pc ls st S Post := by
  intro l D cy ad p e R s m args below meth c H locs arr n0 n1 hRR hok hP hD hS hL
  exact lv_goto hok.1 hok.2.1 hd ht (k l D cy ad p e R s m args below meth c H locs arr n0 n1 hRR hok hP hD hS hL)
theorem ev_tableOut {dflt lo hi : Int} {offs : Array Int} {len : Nat} {x : Int32} (t : Nat) (hd : decode M.1 pc = .ok (.tableswitch dflt lo hi offs, len)) (h : x.toInt < lo ∨ hi < x.toInt) (ht : (pc : Int) + dflt = (t : Int)) (k : EV G d M t ls st S Post) : EV G d M pc ls (.int x :: st) S Post := by
  intro l D cy ad p e R s m args below meth c H locs arr n0 n1 hRR hok hP hD hS hL
  exact lv_tableOut hok.1 hok.2.1 hd h ht (k l D cy ad p e R s m args below meth c H locs arr n0 n1 hRR hok hP hD hS hL)
theorem ev_tableIn {dflt lo hi : Int} {offs : Array Int} {len : Nat} {x : Int32} {off : Int} (t : Nat) (hd : decode M.1 pc = .ok (.tableswitch dflt lo hi offs, len)) (h1 : ¬ x.toInt < lo) (h2 : ¬ hi < x.toInt) (ho : offs[(x.toInt - lo).toNat]? = some off) (ht : (pc : Int) + off = (t : Int)) (k : EV G d M t ls st S Post) : EV G d M pc ls (.int x :: st) S Post := by
  intro l D cy ad p e R s m args below meth c H locs arr n0 n1 hRR hok hP hD hS hL
  exact lv_tableIn hok.1 hok.2.1 hd h1 h2 ho ht (k l D cy ad p e R s m args below meth c H locs arr n0 n1 hRR hok hP hD hS hL)

theorem rx_ret {G : Nat × Nat} {D : va_G} {cy : Nat → ClassId} {ad : Nat → Nat} {S : rx_S} {Post : Option Value → rx_S → Prop} {s : State} {H : Heap} {locs : List Loc} {args : Array Value} {r : Option Value} (h : Post r S) (hP : va_P D rx_cl (rx_w G cy ad S) H) (hS : va_S (rx_A G ad s.heap.size) s.heap H locs) : ∀ t : State, t.heap = H → s.WarmedH t.vm → rx_Q G D cy ad Post args s (.returned (r.map (rx_cv ad))) t := fun t ht _ => ⟨r, S, rfl, h, by rw [ht]; exact hP, hS.F ht⟩
theorem ev_ireturn {x : Int32} (hd : decode M.1 pc = .ok (.ireturn, 1)) (hr : M.2.2.1 = some .int) (h : Post (some (.int x)) S) : EV G d M pc ls [.int x] S Post := by
  intro l D cy ad p e R s m args below meth c H locs arr n0 n1 hRR hok hP hD hS hL
  exact W.iret hok.1 hok.2.1 (hok.2.2.2.1.trans hr) (rx_ret (r := some (.int x)) h hP hS) hS.2.2 hd hok.2.2.2.2.2.2.1
theorem ev_zreturn {x : Int32} {ty : FieldType} (hd : decode M.1 pc = .ok (.ireturn, 1)) (hr : M.2.2.1 = some ty) (hn : narrow ty (.int x) = .int x) (h : Post (some (.int x)) S) : EV G d M pc ls [.int x] S Post := by
  intro l D cy ad p e R s m args below meth c H locs arr n0 n1 hRR hok hP hD hS hL
  exact W.zret hok.1 hok.2.1 (hok.2.2.2.1.trans hr) hn (rx_ret (r := some (.int x)) h hP hS) hS.2.2 hd hok.2.2.2.2.2.2.1
theorem ev_lreturn {x : Int64} (hd : decode M.1 pc = .ok (.lreturn, 1)) (hr : M.2.2.1 = some .long) (h : Post (some (.long x)) S) : EV G d M pc ls [.long x] S Post := by
  intro l D cy ad p e R s m args below meth c H locs arr n0 n1 hRR hok hP hD hS hL
  exact W.lret hok.1 hok.2.1 (hok.2.2.2.1.trans hr) (rx_ret (r := some (.long x)) h hP hS) hS.2.2 hd hok.2.2.2.2.2.2.1
theorem ev_return (hd : decode M.1 pc = .ok (.return_, 1)) (hr : M.2.2.1 = none) (h : Post none S) : EV G d M pc ls [] S Post := by
  intro l D cy ad p e R s m args below meth c H locs arr n0 n1 hRR hok hP hD hS hL
  exact W.vret hok.1 hok.2.1 (hok.2.2.2.1.trans hr) (rx_ret (r := none) h hP hS) hS.2.2 hd hok.2.2.2.2.2.2.1
theorem ev_areturn {x : Nat} {rt : FieldType} (hd : decode M.1 pc = .ok (.areturn, 1)) (hr : M.2.2.1 = some rt) (hrt : (∃ n, rt = .object n) ∨ ∃ t, rt = .array t) (h : Post (some (.ref x)) S) : EV G d M pc ls [.ref x] S Post := by
  intro l D cy ad p e R s m args below meth c H locs arr n0 n1 hRR hok hP hD hS hL
  exact W.aret hok.1 hok.2.1 (hok.2.2.2.1.trans hr) hrt (Or.inr ⟨_, rfl⟩) (rx_ret (r := some (.ref x)) h hP hS) hS.2.2 hd hok.2.2.2.2.2.2.1

end EVR
