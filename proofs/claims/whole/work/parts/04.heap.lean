
section EVH
variable {G : Nat × Nat} {d : Nat} {M : rx_M} {D : va_G} {cy : Nat → ClassId} {ad : Nat → Nat} {p : Program} {R : Room} {s : State} {m : MethodId} {args : Array Value} {meth : Method} {c : Code}
theorem rx_ok.x (h : rx_ok G d M D cy ad p R s m args meth c) : p.tables.exec = Jvm.exec := h.1
theorem rx_ok.b (h : rx_ok G d M D cy ad p R s m args meth c) : c.code = M.1 := h.2.1
theorem rx_ok.ml (h : rx_ok G d M D cy ad p R s m args meth c) : c.maxLocals = M.2.1 := h.2.2.1
theorem rx_ok.own (h : rx_ok G d M D cy ad p R s m args meth c) : s.vm.findClass M.2.2.2.cls = some m.cls := h.2.2.2.2.1
theorem rx_ok.ts (h : rx_ok G d M D cy ad p R s m args meth c) : ∀ w ∈ rx_T, w.before args s = true := h.2.2.2.2.2.1
theorem rx_ok.K (h : rx_ok G d M D cy ad p R s m args meth c) : va_K D rx_cl (rx_tys cy) s := h.2.2.2.2.2.2.2.1
theorem rx_ok.room (h : rx_ok G d M D cy ad p R s m args meth c) : d ≤ R.frames ∧ 64 * d ≤ R.locals := h.2.2.2.2.2.2.2.2.1
theorem rx_ok.NW (h : rx_ok G d M D cy ad p R s m args meth c) : rx_NW s := h.2.2.2.2.2.2.2.2.2.1
theorem rx_ok.STR (h : rx_ok G d M D cy ad p R s m args meth c) : rx_STR (rx_A G ad s.heap.size) ad s s.heap := h.2.2.2.2.2.2.2.2.2.2
end EVH
/-- a link to a field: the slot of the class -/
def rx_F (own : String) (idx ci slot : Nat) : Prop := ∃ (C : String) (T : u_T) (N : Nat), rx_cl[ci]? = some (C, T, N) ∧ slot < N ∧ (∀ w ∈ u_ws C T N, w ∈ rx_T) ∧ (T slot).1 = C ∧ (Cond.fieldLink own idx C (T slot).2.1 (T slot).2.2.1 ∈ rx_T ∨ ∃ host, Cond.fieldLinkNest own idx C (T slot).2.1 (T slot).2.2.1 host ∈ tables_1)
/-- a field that may be written: its type -/
def rx_P (ci slot : Nat) (ty : FieldType) : Prop := ∃ (C : String) (T : u_T) (N : Nat) (ty0 : Nat → FieldType), rx_cl[ci]? = some (C, T, N) ∧ (∀ k, k < N → parseFieldDescriptor (T k).2.2.1 = some (ty0 k)) ∧ (∀ a, a < N → ∀ b, b < N → a ≠ b → (T a).2.1 ≠ (T b).2.1) ∧ (T slot).2.2.2 = false ∧ ty0 slot = ty
section EVF
variable {G : Nat × Nat} {d : Nat} {M : rx_M} {pc : Nat} {ls : List (Option Value)} {st : List Value} {S : rx_S} {Post : Option Value → rx_S → Prop}
theorem rx_ent_o {cy : Nat → ClassId} {ad : Nat → Nat} {S : rx_S} {k ci n : Nat} {rs : List (Option Nat)} (h : ci < 12) : rx_ent cy ad S k (ci, n, rs) = .inr (ci, rx_fs ad (S.1 k) rs) := by simp [rx_ent, h]
theorem rx_ent_i {cy : Nat → ClassId} {ad : Nat → Nat} {S : rx_S} {k ci n : Nat} {rs : List (Option Nat)} (h : ci = 12 ∨ ci = 13 ∨ ci = 15) : rx_ent cy ad S k (ci, n, rs) = .inl (cy (ci - 12), n, .inl (S.1 k)) := by rcases h with rfl | rfl | rfl <;> simp [rx_ent]
theorem rx_ent_l {cy : Nat → ClassId} {ad : Nat → Nat} {S : rx_S} {k n : Nat} {rs : List (Option Nat)} : rx_ent cy ad S k (14, n, rs) = .inl (cy 2, n, .inr (.inl (S.2 k))) := by simp [rx_ent]
theorem rx_ent_a {cy : Nat → ClassId} {ad : Nat → Nat} {S : rx_S} {k n : Nat} {rs : List (Option Nat)} : rx_ent cy ad S k (16, n, rs) = .inl (cy 4, n, .inr (.inr (.inr (.inr (fun i => (rs.getD i none).map ad))))) := by simp [rx_ent]
def rx_gv (S : rx_S) (k slot : Nat) (r : Option Nat) : Value := match r with
  | some k' => .ref k'
  | none => .int (S.1 k slot)
/-- getfield, by what stands there -/
theorem ev_get {k ci n slot idx : Nat} {rs : List (Option Nat)} {r : Option Nat} {v : Value} (q : Nat) (hd : decode M.1 pc = .ok (.getfield idx, 3)) (hk : rx_at G k (ci, n, rs)) (hF : rx_F M.2.2.2.cls idx ci slot) (hci : ci < 12) (hr : rs[slot]? = some r) (hv : rx_gv S k slot r = v) (hq : pc + 3 = q) (k1 : EV G d M q ls (v :: st) S Post) : EV G d M pc ls (.ref k :: st) S Post := by
  subst hq
  subst hv
  intro l D cy ad p e R s m args below meth c H locs arr n0 n1 hRR hok hP hD hS hL
  obtain ⟨C, T, N, hc, hs, hin, hT, hl⟩ := hF
  have he := rx_w_get (cy := cy) (ad := ad) (S := S) hk
  rw [rx_ent_o hci] at he
  have hv : rx_fv ad (S.1 k) slot r = rx_cv ad (rx_gv S k slot r) := by cases r <;> rfl
  have hg := rx_fs_get (ad := ad) (f := S.1 k) hr
  rw [hv] at hg
  rcases hl with hl | ⟨host, hl⟩
  · exact va_get (ref := C) hok.x hok.b hok.ts hin hok.own hok.K hP (k - G.1) he hc slot hs (hok.ts _ hl) (fun x h => by rw [hT] at h; exact h) hg hd (k1 l D cy ad p e R s m args below meth c H locs arr n0 n1 hRR hok hP hD hS hL)
  · exact va_getN (ref := C) hok.x hok.b hok.ts hin hok.own hok.K hP (k - G.1) he hc slot hs ((hok.NW.1 _ _ _ _ _ _ hl).use rfl) (fun x h => by rw [hT] at h; exact h) hg hd (k1 l D cy ad p e R s m args below meth c H locs arr n0 n1 hRR hok hP hD hS hL)
/-- putfield of an int, or a boolean -/
theorem ev_put {k ci n slot idx : Nat} {rs : List (Option Nat)} {x : Int32} {ty : FieldType} (q : Nat) (hd : decode M.1 pc = .ok (.putfield idx, 3)) (hk : rx_at G k (ci, n, rs)) (hF : rx_F M.2.2.2.cls idx ci slot) (hF2 : rx_P ci slot ty) (hci : ci < 12) (hr : rs[slot]? = some none) (hn : narrow ty (.int x) = .int x) (hfit : fits ty (.int x) = true) (hq : pc + 3 = q) (k1 : EV G d M q ls st (rx_ui S k slot x) Post) : EV G d M pc ls (.int x :: .ref k :: st) S Post := by
  subst hq
  intro l D cy ad p e R s m args below meth c H locs arr n0 n1 hRR hok hP hD hS hL
  obtain ⟨C, T, N, hc, hs, hin, hT, hl⟩ := hF
  obtain ⟨C', T', N', ty0, hc', hty, hnm, hfin, ht0⟩ := hF2
  rw [hc] at hc'
  cases hc'
  have he := rx_w_get (cy := cy) (ad := ad) (S := S) hk
  rw [rx_ent_o hci] at he
  have hl2 : slot < (rx_fs ad (S.1 k) rs).length := by simp [rx_fs]; exact (List.getElem?_eq_some_iff.mp hr).1
  have hset : (rx_w G cy ad S).set (k - G.1) (ad k, .inr (ci, (rx_fs ad (S.1 k) rs).set slot (.int x))) = rx_w G cy ad (rx_ui S k slot x) := rx_w_set hk (by rw [rx_ent_o hci, rx_ui, rx_ur_s, rx_fs_set x hr]) rx_ur_o
  have kk : ∀ (H1 : Heap) (locs1 : List Loc), va_P D rx_cl ((rx_w G cy ad S).set (k - G.1) (ad k, .inr (ci, (rx_fs ad (S.1 k) rs).set slot (.int x)))) H1 → va_D (rx_A G ad s.heap.size) ((rx_w G cy ad S).set (k - G.1) (ad k, .inr (ci, (rx_fs ad (S.1 k) rs).set slot (.int x)))) → va_S (rx_A G ad s.heap.size) s.heap H1 locs1 → W p l e R s m args below meth c H1 locs1 n0 n1 (MQ below (rx_Q G D cy ad Post) args s n0 n1 (rx_A G ad s.heap.size)) (F0 m (pc + 3) arr (st.map (rx_cv ad))) := by
    rw [hset]
    intro H1 locs1 hP1 hD1 hS1
    exact k1 l D cy ad p e R s m args below meth c H1 locs1 arr n0 n1 hRR hok hP1 hD1 hS1 hL
  rcases hl with hl | ⟨host, hl⟩
  · exact va_put (ref := C) (ty := ty) (v := .int x) hok.x hok.b hok.ts hin ty0 hty hnm hok.own hok.K hP hD hS (k - G.1) he hc slot hs (hok.ts _ hl) (fun x h => by rw [hT] at h; exact h) hfin (by rw [hty slot hs, ht0]) hn hfit hl2 hd kk
  · exact va_putN (ref := C) (ty := ty) (v := .int x) hok.x hok.b hok.ts hin ty0 hty hnm hok.own hok.K hP hD hS (k - G.1) he hc slot hs ((hok.NW.1 _ _ _ _ _ _ hl).use rfl) (fun x h => by rw [hT] at h; exact h) hfin (by rw [hty slot hs, ht0]) hn hfit hl2 hd kk

theorem ev_iald {k n : Nat} {rs : List (Option Nat)} {i : Int32} (q : Nat) (hd : decode M.1 pc = .ok (.iaload, 1)) (hk : rx_at G k (13, n, rs)) (hin : vp_in i n) (hq : pc + 1 = q) (k1 : EV G d M q ls (.int (S.1 k i.toNatClampNeg) :: st) S Post) : EV G d M pc ls (.int i :: .ref k :: st) S Post := by
  subst hq
  intro l D cy ad p e R s m args below meth c H locs arr n0 n1 hRR hok hP hD hS hL
  have he := rx_w_get (cy := cy) (ad := ad) (S := S) hk
  rw [rx_ent_i (by simp)] at he
  exact va_iald hok.x hok.b hok.K hP (k - G.1) 1 he rfl hin hd (k1 l D cy ad p e R s m args below meth c H locs arr n0 n1 hRR hok hP hD hS hL)

theorem ev_bald {k n : Nat} {rs : List (Option Nat)} {i : Int32} (q : Nat) (hd : decode M.1 pc = .ok (.baload, 1)) (hk : rx_at G k (12, n, rs)) (hin : vp_in i n) (hq : pc + 1 = q) (k1 : EV G d M q ls (.int (S.1 k i.toNatClampNeg) :: st) S Post) : EV G d M pc ls (.int i :: .ref k :: st) S Post := by
  subst hq
  intro l D cy ad p e R s m args below meth c H locs arr n0 n1 hRR hok hP hD hS hL
  have he := rx_w_get (cy := cy) (ad := ad) (S := S) hk
  rw [rx_ent_i (by simp)] at he
  exact va_bald hok.x hok.b hok.K hP (k - G.1) 0 he rfl hin hd (k1 l D cy ad p e R s m args below meth c H locs arr n0 n1 hRR hok hP hD hS hL)

theorem ev_zald {k n : Nat} {rs : List (Option Nat)} {i : Int32} (q : Nat) (hd : decode M.1 pc = .ok (.baload, 1)) (hk : rx_at G k (15, n, rs)) (hin : vp_in i n) (hq : pc + 1 = q) (k1 : EV G d M q ls (.int (S.1 k i.toNatClampNeg) :: st) S Post) : EV G d M pc ls (.int i :: .ref k :: st) S Post := by
  subst hq
  intro l D cy ad p e R s m args below meth c H locs arr n0 n1 hRR hok hP hD hS hL
  have he := rx_w_get (cy := cy) (ad := ad) (S := S) hk
  rw [rx_ent_i (by simp)] at he
  exact va_zald hok.x hok.b hok.K hP (k - G.1) 3 he rfl hin hd (k1 l D cy ad p e R s m args below meth c H locs arr n0 n1 hRR hok hP hD hS hL)

theorem ev_lald {k n : Nat} {rs : List (Option Nat)} {i : Int32} (q : Nat) (hd : decode M.1 pc = .ok (.laload, 1)) (hk : rx_at G k (14, n, rs)) (hin : vp_in i n) (hq : pc + 1 = q) (k1 : EV G d M q ls (.long (S.2 k i.toNatClampNeg) :: st) S Post) : EV G d M pc ls (.int i :: .ref k :: st) S Post := by
  subst hq
  intro l D cy ad p e R s m args below meth c H locs arr n0 n1 hRR hok hP hD hS hL
  have he := rx_w_get (cy := cy) (ad := ad) (S := S) hk
  rw [rx_ent_l] at he
  exact va_lald hok.x hok.b hok.K hP (k - G.1) 2 he rfl hin hd (k1 l D cy ad p e R s m args below meth c H locs arr n0 n1 hRR hok hP hD hS hL)
theorem ev_aald {k n k' : Nat} {rs : List (Option Nat)} {i : Int32} (q : Nat) (hd : decode M.1 pc = .ok (.aaload, 1)) (hk : rx_at G k (16, n, rs)) (hin : vp_in i n) (hr : rs.getD i.toNatClampNeg none = some k') (hq : pc + 1 = q) (k1 : EV G d M q ls (.ref k' :: st) S Post) : EV G d M pc ls (.int i :: .ref k :: st) S Post := by
  subst hq
  intro l D cy ad p e R s m args below meth c H locs arr n0 n1 hRR hok hP hD hS hL
  have he := rx_w_get (cy := cy) (ad := ad) (S := S) hk
  rw [rx_ent_a] at he
  have hlt : i.toNatClampNeg < n := Nat.not_le.mp fun q => hin (Or.inr q)
  have hv : va_rf ((rs.getD i.toNatClampNeg none).map ad) = rx_cv ad (.ref k') := by rw [hr]; rfl
  refine W.aald (v := rx_cv ad (.ref k')) (ty := .array .int) hok.x hok.b (hP (k - G.1) _ he) ((hok.K.2 4 _ rfl).1 n (fun j => va_rf ((rs.getD j none).map ad))) rfl (fun q => by cases q) (by show ¬ (i < 0 ∨ (arrV _ _ _).slots.size ≤ _); rw [arrV_size]; exact hin) (by show (arrV _ _ _).slots[_]? = _; rw [arrV_read _ _ hlt, hv]) rfl rfl hd (k1 l D cy ad p e R s m args below meth c H locs arr n0 n1 hRR hok hP hD hS hL)
theorem ev_alen {k ci n : Nat} {rs : List (Option Nat)} {v : Int32} (q : Nat) (hd : decode M.1 pc = .ok (.arraylength, 1)) (hk : rx_at G k (ci, n, rs)) (hci : ci = 12 ∨ ci = 13 ∨ ci = 15) (hv : Int32.ofNat n = v) (hq : pc + 1 = q) (k1 : EV G d M q ls (.int v :: st) S Post) : EV G d M pc ls (.ref k :: st) S Post := by
  subst hq
  intro l D cy ad p e R s m args below meth c H locs arr n0 n1 hRR hok hP hD hS hL
  have he := rx_w_get (cy := cy) (ad := ad) (S := S) hk
  rw [rx_ent_i hci] at he
  have kk := k1 l D cy ad p e R s m args below meth c H locs arr n0 n1 hRR hok hP hD hS hL
  rcases hci with rfl | rfl | rfl
  · exact va_alen hok.x hok.b hok.K hP (k - G.1) 0 he rfl hv hd kk
  · exact va_alen hok.x hok.b hok.K hP (k - G.1) 1 he rfl hv hd kk
  · exact va_alen hok.x hok.b hok.K hP (k - G.1) 3 he rfl hv hd kk
theorem ev_alenL {k n : Nat} {rs : List (Option Nat)} {v : Int32} (q : Nat) (hd : decode M.1 pc = .ok (.arraylength, 1)) (hk : rx_at G k (14, n, rs)) (hv : Int32.ofNat n = v) (hq : pc + 1 = q) (k1 : EV G d M q ls (.int v :: st) S Post) : EV G d M pc ls (.ref k :: st) S Post := by
  subst hq
  intro l D cy ad p e R s m args below meth c H locs arr n0 n1 hRR hok hP hD hS hL
  have he := rx_w_get (cy := cy) (ad := ad) (S := S) hk
  rw [rx_ent_l] at he
  exact va_alen hok.x hok.b hok.K hP (k - G.1) 2 he rfl hv hd (k1 l D cy ad p e R s m args below meth c H locs arr n0 n1 hRR hok hP hD hS hL)

theorem ev_iast {k n : Nat} {rs : List (Option Nat)} {i x : Int32} (q : Nat) (hd : decode M.1 pc = .ok (.iastore, 1)) (hk : rx_at G k (13, n, rs)) (hin : vp_in i n) (hq : pc + 1 = q) (k1 : EV G d M q ls st (rx_ui S k i.toNatClampNeg x) Post) : EV G d M pc ls (.int x :: .int i :: .ref k :: st) S Post := by
  subst hq
  intro l D cy ad p e R s m args below meth c H locs arr n0 n1 hRR hok hP hD hS hL
  have he := rx_w_get (cy := cy) (ad := ad) (S := S) hk
  rw [rx_ent_i (by simp)] at he
  refine va_iast hok.x hok.b hok.K hP hD hS (k - G.1) 1 he rfl hin hd ?_
  rw [rx_w_set (S' := rx_ui S k i.toNatClampNeg x) hk (by rw [rx_ent_i (by simp), rx_ui, rx_ur_s]) rx_ur_o]
  intro H1 locs1 hP1 hD1 hS1
  exact k1 l D cy ad p e R s m args below meth c H1 locs1 arr n0 n1 hRR hok hP1 hD1 hS1 hL

theorem ev_bast {k n : Nat} {rs : List (Option Nat)} {i x : Int32} (q : Nat) (hd : decode M.1 pc = .ok (.bastore, 1)) (hk : rx_at G k (12, n, rs)) (hin : vp_in i n) (hq : pc + 1 = q) (k1 : EV G d M q ls st (rx_ui S k i.toNatClampNeg (vp_nar .byte x)) Post) : EV G d M pc ls (.int x :: .int i :: .ref k :: st) S Post := by
  subst hq
  intro l D cy ad p e R s m args below meth c H locs arr n0 n1 hRR hok hP hD hS hL
  have he := rx_w_get (cy := cy) (ad := ad) (S := S) hk
  rw [rx_ent_i (by simp)] at he
  refine va_bast hok.x hok.b hok.K hP hD hS (k - G.1) 0 he rfl hin hd ?_
  rw [rx_w_set (S' := rx_ui S k i.toNatClampNeg (vp_nar .byte x)) hk (by rw [rx_ent_i (by simp), rx_ui, rx_ur_s]) rx_ur_o]
  intro H1 locs1 hP1 hD1 hS1
  exact k1 l D cy ad p e R s m args below meth c H1 locs1 arr n0 n1 hRR hok hP1 hD1 hS1 hL

theorem ev_zast {k n : Nat} {rs : List (Option Nat)} {i x : Int32} (q : Nat) (hd : decode M.1 pc = .ok (.bastore, 1)) (hk : rx_at G k (15, n, rs)) (hin : vp_in i n) (hq : pc + 1 = q) (k1 : EV G d M q ls st (rx_ui S k i.toNatClampNeg (vp_nar .boolean x)) Post) : EV G d M pc ls (.int x :: .int i :: .ref k :: st) S Post := by
  subst hq
  intro l D cy ad p e R s m args below meth c H locs arr n0 n1 hRR hok hP hD hS hL
  have he := rx_w_get (cy := cy) (ad := ad) (S := S) hk
  rw [rx_ent_i (by simp)] at he
  refine va_zast hok.x hok.b hok.K hP hD hS (k - G.1) 3 he rfl hin hd ?_
  rw [rx_w_set (S' := rx_ui S k i.toNatClampNeg (vp_nar .boolean x)) hk (by rw [rx_ent_i (by simp), rx_ui, rx_ur_s]) rx_ur_o]
  intro H1 locs1 hP1 hD1 hS1
  exact k1 l D cy ad p e R s m args below meth c H1 locs1 arr n0 n1 hRR hok hP1 hD1 hS1 hL

theorem ev_last {k n : Nat} {rs : List (Option Nat)} {i : Int32} {x : Int64} (q : Nat) (hd : decode M.1 pc = .ok (.lastore, 1)) (hk : rx_at G k (14, n, rs)) (hin : vp_in i n) (hq : pc + 1 = q) (k1 : EV G d M q ls st (rx_uj S k i.toNatClampNeg x) Post) : EV G d M pc ls (.long x :: .int i :: .ref k :: st) S Post := by
  subst hq
  intro l D cy ad p e R s m args below meth c H locs arr n0 n1 hRR hok hP hD hS hL
  have he := rx_w_get (cy := cy) (ad := ad) (S := S) hk
  rw [rx_ent_l] at he
  refine va_last hok.x hok.b hok.K hP hD hS (k - G.1) 2 he rfl hin hd ?_
  rw [rx_w_set (S' := rx_uj S k i.toNatClampNeg x) hk (by rw [rx_ent_l, rx_uj, rx_ul_s]) rx_ul_o]
  intro H1 locs1 hP1 hD1 hS1
  exact k1 l D cy ad p e R s m args below meth c H1 locs1 arr n0 n1 hRR hok hP1 hD1 hS1 hL

theorem rx_cat (ad : Nat → Nat) (st : List Value) : ((st.map (rx_cv ad)).map fun v => v.category).sum = (st.map fun v => v.category).sum := by
  rw [List.map_map]
  congr 1
  apply List.map_congr_left
  intro v _
  exact rx_cv_cat ad v
/-- System.arraycopy over rows of ints -/
theorem ev_copy {k0 k1 n0 n1 idx : Nat} {rs0 rs1 : List (Option Nat)} {sp dp n : Int32} (q : Nat) (hd : decode M.1 pc = .ok (.invokestatic idx, 3)) (hlk : Cond.methodLink M.2.2.2.cls idx arraycopyName ∈ rx_T) (hw : Cond.native arraycopyName ∈ rx_T ∧ Cond.static arraycopyName ∈ rx_T ∧ Cond.initialized "java/lang/System" ∈ rx_T) (hk0 : rx_at G k0 (13, n0, rs0)) (hk1 : rx_at G k1 (13, n1, rs1))
    (h1 : ¬ sp < 0) (h2 : ¬ dp < 0) (h3 : ¬ n < 0) (h4 : sp.toNatClampNeg + n.toNatClampNeg ≤ n0) (h5 : dp.toNatClampNeg + n.toNatClampNeg ≤ n1) (hst : (st.map fun v => v.category).sum ≤ 8) (hq : pc + 3 = q)
    (kk : EV G (d + 1) M q ls st (rx_ur S k1 (va_cpy (S.1 k0) (S.1 k1) sp.toNatClampNeg dp.toNatClampNeg n.toNatClampNeg)) Post) : EV G (d + 1) M pc ls (.int n :: .int dp :: .ref k1 :: .int sp :: .ref k0 :: st) S Post := by
  subst hq
  intro l D cy ad p e R s m args below meth c H locs arr n0 n1 hRR hok hP hD hS hL
  have he0 := rx_w_get (cy := cy) (ad := ad) (S := S) hk0
  have he1 := rx_w_get (cy := cy) (ad := ad) (S := S) hk1
  rw [rx_ent_i (by simp)] at he0 he1
  have hr := hok.room
  have hcat := rx_cat ad st
  have hnf : nativeFrameWords "java/lang/System" "arraycopy" 5 ≤ 30 := by decide
  have hroom : ((st.map (rx_cv ad)).map fun v => v.category).sum + (nativeFrameWords "java/lang/System" "arraycopy" 5 + 11) ≤ R.locals := by omega
  have hroom1 : 1 ≤ R.frames := by omega
  refine va_copyi hok.x hok.b (hok.ml.trans hL.1.symm) hok.own (hok.ts _ hlk) (hok.ts _ hw.1) (hok.ts _ hw.2.1) (hok.ts _ hw.2.2) hok.K hP hD hS (k0 - G.1) (k1 - G.1) 1 1 (ty := .int) he0 he1 rfl rfl rfl h1 h2 h3 h4 h5 (fun _ _ => rfl) hroom1 hroom hd ?_
  rw [rx_w_set (S' := rx_ur S k1 (va_cpy (S.1 k0) (S.1 k1) sp.toNatClampNeg dp.toNatClampNeg n.toNatClampNeg)) hk1 (by rw [rx_ent_i (by simp), rx_ur_s]) rx_ur_o]
  intro H1 locs1 hP1 hD1 hS1
  exact kk l D cy ad p e R s m args below meth c H1 locs1 arr n0 n1 hRR hok hP1 hD1 hS1 hL
theorem ev_max {idx : Nat} {x y : Int32} (q : Nat) (hd : decode M.1 pc = .ok (.invokestatic idx, 3)) (hlk : Cond.methodLink M.2.2.2.cls idx Lib.Math.max.name ∈ rx_T) (hw : Cond.static Lib.Math.max.name ∈ rx_T ∧ Cond.initialized "java/lang/Math" ∈ rx_T ∧ Cond.code Lib.Math.max.name Lib.Math.max.code 2 (some .int) ∈ rx_T) (hst : (st.map fun v => v.category).sum ≤ 8) (hq : pc + 3 = q) (k : EV G (d + 1) M q ls (.int (if x < y then y else x) :: st) S Post) : EV G (d + 1) M pc ls (.int y :: .int x :: st) S Post := by
  subst hq
  intro l D cy ad p e R s m args below meth c H locs arr n0 n1 hRR hok hP hD hS hL
  have hr := hok.room
  have hc := rx_cat ad st
  exact va_mmax hok.x hok.b (hok.ml.trans hL.1.symm) hok.own (hok.ts _ hlk) (hok.ts _ hw.1) (hok.ts _ hw.2.1) (hok.ts _ hw.2.2) (by omega) (by omega) hRR.1 hRR.2 hd (k l D cy ad p e R s m args below meth c H locs arr n0 n1 hRR hok hP hD hS hL)
theorem ev_min {idx : Nat} {x y : Int32} (q : Nat) (hd : decode M.1 pc = .ok (.invokestatic idx, 3)) (hlk : Cond.methodLink M.2.2.2.cls idx Lib.Math.min.name ∈ rx_T) (hw : Cond.static Lib.Math.min.name ∈ rx_T ∧ Cond.initialized "java/lang/Math" ∈ rx_T ∧ Cond.code Lib.Math.min.name Lib.Math.min.code 2 (some .int) ∈ rx_T) (hst : (st.map fun v => v.category).sum ≤ 8) (hq : pc + 3 = q) (k : EV G (d + 1) M q ls (.int (if y < x then y else x) :: st) S Post) : EV G (d + 1) M pc ls (.int y :: .int x :: st) S Post := by
  subst hq
  intro l D cy ad p e R s m args below meth c H locs arr n0 n1 hRR hok hP hD hS hL
  have hr := hok.room
  have hc := rx_cat ad st
  exact va_mmin hok.x hok.b (hok.ml.trans hL.1.symm) hok.own (hok.ts _ hlk) (hok.ts _ hw.1) (hok.ts _ hw.2.1) (hok.ts _ hw.2.2) (by omega) (by omega) hRR.1 hRR.2 hd (k l D cy ad p e R s m args below meth c H locs arr n0 n1 hRR hok hP hD hS hL)
end EVF


/-! calls -/
def rx_al (vs : List Value) : List (Option Value) := vs.flatMap fun v => if v.category = 2 then [some v, none] else [some v]
def rx_ar (n : Nat) (vs : List Value) : List (Option Value) := rx_al vs ++ List.replicate (n - (rx_al vs).length) none
theorem rx_al_len (ad : Nat → Nat) : ∀ vs : List Value, (lg_sl (vs.map (rx_cv ad))).length = (rx_al vs).length
  | [] => rfl
  | v :: vs => by
    have ih := rx_al_len ad vs
    simp only [lg_sl, rx_al, List.map_cons, List.flatMap_cons, List.length_append, rx_cv_cat] at ih ⊢
    by_cases h : v.category = 2
    · simp only [h, if_true, List.length_cons, List.length_nil]
      omega
    · simp only [h, if_false, List.length_cons, List.length_nil]
      omega
theorem rx_al_at (ad : Nat → Nat) : ∀ (vs : List Value) (i : Nat) (v : Value), (rx_al vs)[i]? = some (some v) → (lg_sl (vs.map (rx_cv ad)))[i]? = some (Slot.val (rx_cv ad v))
  | [], i, v, h => by simp [rx_al] at h
  | w :: vs, i, v, h => by
    have ih := rx_al_at ad vs
    simp only [rx_al, List.flatMap_cons] at h ih
    simp only [lg_sl, List.map_cons, List.flatMap_cons, rx_cv_cat] at ih ⊢
    by_cases hc : w.category = 2
    · simp only [hc, if_true] at h ⊢
      match i, h with
      | 0, h => simp at h; subst h; rfl
      | 1, h => simp at h
      | i + 2, h => simpa using ih i v (by simpa using h)
    · simp only [hc, if_false] at h ⊢
      match i, h with
      | 0, h => simp at h; subst h; rfl
      | i + 1, h => simpa using ih i v (by simpa using h)
theorem rx_entry (ad : Nat → Nat) (vs : List Value) {n : Nat} (h : (rx_al vs).length ≤ n) : rx_lh ad ((lg_sl (vs.map (rx_cv ad)) ++ List.replicate (n - (lg_sl (vs.map (rx_cv ad))).length) Slot.unset).toArray) n (rx_ar n vs) := by
  have hl := lv_entry (vs.map (rx_cv ad)) (n := n) (by rw [rx_al_len]; exact h)
  refine ⟨hl.1, hl.2.1, fun i v hv => ?_⟩
  unfold rx_ar at hv
  by_cases hi : i < (rx_al vs).length
  · rw [List.getElem?_append_left hi] at hv
    have h2 := rx_al_at ad vs i v hv
    rw [List.getElem?_toArray, List.getElem?_append_left (by rw [rx_al_len]; exact hi)]
    exact h2
  · rw [List.getElem?_append_right (by omega), List.getElem?_replicate] at hv
    split at hv
    · cases hv
    · cases hv
/-- the contract of a method: from its entry -/
def EM (G : Nat × Nat) (d : Nat) (M : rx_M) (vs : List Value) (S : rx_S) (Post : Option Value → rx_S → Prop) : Prop := EV G d M 0 (rx_ar M.2.1 vs) [] S Post
abbrev rx_ws (M : rx_M) : List Cond := .code M.2.2.2 M.1 M.2.1 M.2.2.1 :: rx_T
def rx_Pc (G : Nat × Nat) (D : va_G) (cy : Nat → ClassId) (ad : Nat → Nat) (S : rx_S) (sz : Nat) (U : State) : Prop := U.heap.size = sz ∧ va_P D rx_cl (rx_w G cy ad S) U.heap ∧ va_K D rx_cl (rx_tys cy) U ∧ va_D (fun _ => True) (rx_w G cy ad S) ∧ rx_NW U ∧ rx_STR (rx_A G ad sz) ad U U.heap
theorem rx_met {G : Nat × Nat} {d : Nat} {M : rx_M} {vs : List Value} {S : rx_S} {Post : Option Value → rx_S → Prop} (h : EM G d M vs S Post) (hf : (rx_al vs).length ≤ M.2.1) (hp : plainName M.2.2.2.cls = true) (l : Launch) (D : va_G) (cy : Nat → ClassId) (ad : Nat → Nat) (sz : Nat) :
    Met l M.2.2.2 (rx_ws M) { frames := d, cells := 0, slots := 0, locals := 64 * d } (va_Pc (vs.map (rx_cv ad)) (rx_Pc G D cy ad S sz)) (rx_Q G D cy ad Post) 0 0 (rx_A G ad sz) := by
  refine Met.ofW (cc := M.1) (maxL := M.2.1) (ret := M.2.2.1) hp rfl ?_
  intro p e s m args below meth c s₁ B hml hv
  obtain ⟨rfl, hsz, hP, hK, hD, hN, hX⟩ := hv
  subst hsz
  have hts := atoms_spec (ws := rx_ws M) B.pre
  have hts : ∀ w ∈ rx_T, w.before (vs.map (rx_cv ad)).toArray s = true := fun w hw => hts w (List.mem_cons_of_mem _ hw)
  rw [lg_entry_eq]
  exact h l D cy ad p e _ s m _ below meth c s.heap [] _ 0 0 ⟨Nat.zero_le _, Nat.zero_le _⟩ ⟨B.exec, B.bytes, hml, B.returns, findClass_of_methodNamed B.named, hts, B.notSynchronized, hK, ⟨Nat.le_refl _, Nat.le_refl _⟩, hN, hX⟩ hP (rx_D_A _ hD) va_S.rf (rx_entry ad vs hf)
theorem rx_good {M M' : rx_M} (h : Cond.code M'.2.2.2 M'.1 M'.2.1 M'.2.2.1 ∈ rx_T) : GoodIn rx_T (rx_ws M') := by
  have hg : ∀ w ∈ rx_T, w ∈ rx_T ∧ ((w.onTables && w.keeps) = true ∨ ∃ ty, w = .arrayClass ty) := fun w hw => ⟨hw, good_of_word (List.mem_filter.mp hw).2⟩
  intro w hw
  rcases List.mem_cons.mp hw with rfl | hw
  · exact hg _ h
  · exact hg _ hw
theorem rx_D_S {G : Nat × Nat} {cy : Nat → ClassId} {ad : Nat → Nat} {S : rx_S} (S1 : rx_S) {A : Nat → Prop} (h : va_D A (rx_w G cy ad S)) : va_D A (rx_w G cy ad S1) := by
  have key : ∀ (i : Nat) (q : Nat × va_E), (rx_w G cy ad S1)[i]? = some q → ∃ q0, (rx_w G cy ad S)[i]? = some q0 ∧ q0.1 = q.1 := by
    intro i q hq
    obtain ⟨h1, h2⟩ := rx_w_of hq
    have g := rx_w_get (G := G) (cy := cy) (ad := ad) (S := S) (k := G.1 + i) (x := rx_desc (G.1 + i)) ⟨⟨by omega, by omega⟩, rfl⟩
    rw [show G.1 + i - G.1 = i by omega] at g
    exact ⟨_, g, by rw [h2]⟩
  refine ⟨fun i j x y hi hj hxy => ?_, fun k q hk => ?_⟩
  · obtain ⟨x0, a1, a2⟩ := key i x hi
    obtain ⟨y0, b1, b2⟩ := key j y hj
    exact h.1 i j x0 y0 a1 b1 (a2.trans (hxy.trans b2.symm))
  · obtain ⟨x0, a1, a2⟩ := key k q hk
    rw [← a2]
    exact h.2 k x0 a1
/-- what a callee's own tables say -/
def rx_m (M : rx_M) (n : Nat) : Prop := plainName M.2.2.2.cls = true ∧ Cond.code M.2.2.2 M.1 M.2.1 M.2.2.1 ∈ rx_T ∧ Cond.initialized M.2.2.2.cls ∈ rx_T ∧ (M.2.2.2.cls ≠ "java/lang/invoke/MethodHandle" ∧ M.2.2.2.cls ≠ "java/lang/invoke/VarHandle" ∧ (parseMethodDescriptor M.2.2.2.desc).map (fun d => d.parameters.length) = some n) ∧ M.2.1 ≤ 40
def rx_lk (own : String) (idx : Nat) (y : MethodName) : Prop := Cond.methodLink own idx y ∈ rx_T ∨ ∃ host, Cond.methodLinkNest own idx y host ∈ tables_1
section EVC
variable {G : Nat × Nat} {d : Nat} {M : rx_M} {pc : Nat} {ls : List (Option Value)} {st : List Value} {S : rx_S} {Post : Option Value → rx_S → Prop}
theorem rx_cont {D : va_G} {cy : Nat → ClassId} {ad : Nat → Nat} {l : Launch} {p : Program} {e : Env} {R : Room} {s : State} {m : MethodId} {args a : Array Value} {below : List Frame} {meth : Method} {c : Code} {H : Heap} {locs : List Loc} {arr : Array Slot} {st0 : List Value} {P1 : Option Value → rx_S → Prop} {Q : State → Prop} {n0 n1 : Nat}
    (hr : va_Run p l e R s m args below meth c H locs n0 n1 0 0 (F0 m pc arr st0) (st.map (rx_cv ad)) (rx_Q G D cy ad P1 a) (rx_A G ad H.size)) (hS : va_S (rx_A G ad s.heap.size) s.heap H locs)
    (kk : ∀ (r : Option Value) (S1 : rx_S) (H1 : Heap) (locs1 : List Loc), P1 r S1 → va_P D rx_cl (rx_w G cy ad S1) H1 → va_S (rx_A G ad s.heap.size) s.heap H1 locs1 → W p l e R s m args below meth c H1 locs1 n0 n1 Q (F0 m (pc + 3) arr ((r.toList ++ st).map (rx_cv ad)))) : W p l e R s m args below meth c H locs n0 n1 Q (F0 m pc arr st0) := by
  intro T hT X
  obtain ⟨v, st₀, t, T', L, h0, X', hL, e1, e2, ⟨r, S1, hv, hp, hP1, hz, hk⟩, go⟩ := hr T hT X
  cases hv
  rw [h0] at hz hk
  have hAA : ∀ q, rx_A G ad H.size q → rx_A G ad s.heap.size q := fun q h => h.elim Or.inl (fun h => Or.inr (Nat.le_trans hS.1 h))
  obtain ⟨t2, a1, b1⟩ := kk r S1 T'.heap (locs ++ L) hp (by rw [e1]; exact hP1)
    ⟨Nat.le_trans hS.1 (by rw [e1]; exact hz), fun q h1 h2 => by rw [e1, hk q (Nat.lt_of_lt_of_le h1 hS.1) (fun z => h2 (hAA q z))]; exact hS.2.1 q h1 h2, fun q hq => by
      rcases List.mem_append.mp hq with h | h
      · exact hS.2.2 q h
      · exact hAA _ (hL q h)⟩ T' rfl X'
  refine ⟨t2, go t2 ?_, b1⟩
  have e3 : (r.map (rx_cv ad)).toList ++ st.map (rx_cv ad) = (r.toList ++ st).map (rx_cv ad) := by cases r <;> simp
  rw [e3]
  exact a1
theorem rx_pre {D : va_G} {cy : Nat → ClassId} {ad : Nat → Nat} {p : Program} {R : Room} {s : State} {m : MethodId} {args : Array Value} {meth : Method} {c : Code} {H : Heap} {locs : List Loc} {d' : Nat} {vs : List Value} (hok : rx_ok G d' M D cy ad p R s m args meth c) (hP : va_P D rx_cl (rx_w G cy ad S) H) (hD : va_D (rx_A G ad s.heap.size) (rx_w G cy ad S)) (hS : va_S (rx_A G ad s.heap.size) s.heap H locs) :
    FrameBlind (va_Pc (vs.map (rx_cv ad)) (rx_Pc G D cy ad S H.size)) ∧ ∀ U : State, U.heap = H → s.WarmedH U.vm → va_Pc (vs.map (rx_cv ad)) (rx_Pc G D cy ad S H.size) (vs.map (rx_cv ad)).toArray U := by
  refine ⟨fun a U g mk h => ?_, fun U hU hW => ?_⟩
  · obtain ⟨h1, h2, h3, h4, h5, h6, h7⟩ := h
    exact ⟨h1, h2, h3, va_K.moved (u := U) (U := U.calling g mk a) (Vm.Alike.refl U.vm) h4, h5, h6.same rfl, h7.same rfl⟩
  · have hAA : ∀ q, rx_A G ad H.size q → rx_A G ad s.heap.size q := fun q h => h.elim Or.inl (fun h => Or.inr (Nat.le_trans hS.1 h))
    refine ⟨rfl, by rw [hU], by rw [hU]; exact hP, va_K.moved hW.alike hok.K, hD.weaken (fun _ _ _ _ => trivial), hok.NW.warm hW, ?_⟩
    rw [hU]
    exact ((hok.STR.kept hS.2.1).warm hW).narrow hAA
/-- invokevirtual -/
theorem ev_callV {M' : rx_M} {k ci n0 n idx : Nat} {rs : List (Option Nat)} {vs : List Value} {P1 : Option Value → rx_S → Prop} (q : Nat) (hd : decode M.1 pc = .ok (.invokevirtual idx, 3)) (hM : EM G d M' (.ref k :: vs) S P1) (hm : rx_m M' n) (hv : Cond.instanceMethod M'.2.2.2 ∈ rx_T ∧ Cond.selects M'.2.2.2.cls M'.2.2.2 M'.2.2.2 ∈ rx_T) (hlk : rx_lk M.2.2.2.cls idx M'.2.2.2) (hk : rx_at G k (ci, n0, rs)) (hci : ci < 12) (hc : (rx_cl[ci]?).map (fun x => x.1) = some M'.2.2.2.cls)
    (hn : vs.length = n) (hfit : (rx_al (.ref k :: vs)).length ≤ M'.2.1) (hst : (st.map fun v => v.category).sum ≤ 8) (hq : pc + 3 = q)
    (kk : ∀ (r : Option Value) (S1 : rx_S), P1 r S1 → EV G (d + 1) M q ls (r.toList ++ st) S1 Post) : EV G (d + 1) M pc ls (vs.reverse ++ .ref k :: st) S Post := by
  subst hq
  intro l D cy ad p e R s m args below meth c H locs arr n0 n1 hRR hok hP hD hS hL
  obtain ⟨hm1, hm2, hm3, hm4, hm5⟩ := hm
  have hr := hok.room
  have he := rx_w_get (cy := cy) (ad := ad) (S := S) hk
  rw [rx_ent_o hci] at he
  obtain ⟨qc, hqc, hqe⟩ := Option.map_eq_some_iff.mp hc
  have hrec := va_recv hok.K hP hqc he
  rw [hqe] at hrec
  have hpre := rx_pre (vs := .ref k :: vs) hok hP hD hS
  have hMet := rx_met hM hfit hm1 l D cy ad H.size
  have hstk : (vs.reverse ++ .ref k :: st).map (rx_cv ad) = (vs.map (rx_cv ad)).reverse ++ .ref (ad k) :: st.map (rx_cv ad) := by simp [rx_cv]
  have hroom : (d + 1 ≤ R.frames) ∧ (8 + (M'.2.1 + 11) + 64 * d ≤ R.locals) := ⟨hr.1, by omega⟩
  have hsum : 2 * (F0 m pc arr ((vs.reverse ++ .ref k :: st).map (rx_cv ad))).monitorRoom + ((st.map (rx_cv ad)).map fun v => v.category).sum ≤ 8 := lv_room (by rw [rx_cat]; exact hst)
  have kk' : ∀ (r : Option Value) (S1 : rx_S) (H1 : Heap) (locs1 : List Loc), P1 r S1 → va_P D rx_cl (rx_w G cy ad S1) H1 → va_S (rx_A G ad s.heap.size) s.heap H1 locs1 → W p l e R s m args below meth c H1 locs1 n0 n1 (MQ below (rx_Q G D cy ad Post) args s n0 n1 (rx_A G ad s.heap.size)) (F0 m (pc + 3) arr ((r.toList ++ st).map (rx_cv ad))) := fun r S1 H1 locs1 h1 h2 h3 => kk r S1 h1 l D cy ad p e R s m args below meth c H1 locs1 arr n0 n1 hRR hok h2 (rx_D_S S1 hD) h3 hL
  rcases hlk with hl | ⟨host, hl⟩
  · refine rx_cont (va_runV (As := vs.map (rx_cv ad)) (rest := st.map (rx_cv ad)) (C := M'.2.2.2.cls) (b := ad k) (index := idx) (n := n) ⟨hok.x, hok.b, hok.ml, hok.own, hok.ts⟩ hMet ⟨callB_of n hok.ts (rx_good (M := M) hm2) rfl rfl rfl (hok.ts _ hm3) (hok.ts _ hl) hm4 hroom, hok.ts _ hv.1, hok.ts _ hv.2⟩ ⟨hpre.1, hrec, hpre.2⟩ rfl (by rw [List.length_map]; exact hn) hL.1 hstk hsum hd ⟨hRR.1, hRR.2⟩) hS kk'
  · refine rx_cont (va_runVN (As := vs.map (rx_cv ad)) (rest := st.map (rx_cv ad)) (C := M'.2.2.2.cls) (b := ad k) (index := idx) (n := n) ⟨hok.x, hok.b, hok.ml, hok.own, hok.ts⟩ hMet ⟨va_cnB n hok.ts (rx_good (M := M) hm2) rfl rfl rfl (hok.NW.2 _ _ _ _ hl) (hok.ts _ hm3) hm4 hroom, hok.ts _ hv.1, hok.ts _ hv.2⟩ ⟨hpre.1, hrec, hpre.2⟩ rfl (by rw [List.length_map]; exact hn) hL.1 hstk hsum hd ⟨hRR.1, hRR.2⟩) hS kk'
/-- invokestatic -/
theorem ev_callS {M' : rx_M} {n idx : Nat} {vs : List Value} {P1 : Option Value → rx_S → Prop} (q : Nat) (hd : decode M.1 pc = .ok (.invokestatic idx, 3)) (hM : EM G d M' vs S P1) (hm : rx_m M' n) (hv : Cond.static M'.2.2.2 ∈ rx_T) (hlk : rx_lk M.2.2.2.cls idx M'.2.2.2)
    (hn : vs.length = n) (hfit : (rx_al vs).length ≤ M'.2.1) (hst : (st.map fun v => v.category).sum ≤ 8) (hq : pc + 3 = q)
    (kk : ∀ (r : Option Value) (S1 : rx_S), P1 r S1 → EV G (d + 1) M q ls (r.toList ++ st) S1 Post) : EV G (d + 1) M pc ls (vs.reverse ++ st) S Post := by
  subst hq
  intro l D cy ad p e R s m args below meth c H locs arr n0 n1 hRR hok hP hD hS hL
  obtain ⟨hm1, hm2, hm3, hm4, hm5⟩ := hm
  have hr := hok.room
  have hpre := rx_pre (vs := vs) hok hP hD hS
  have hMet := rx_met hM hfit hm1 l D cy ad H.size
  have hstk : (vs.reverse ++ st).map (rx_cv ad) = (vs.map (rx_cv ad)).reverse ++ st.map (rx_cv ad) := by simp
  have hroom : (d + 1 ≤ R.frames) ∧ (8 + (M'.2.1 + 11) + 64 * d ≤ R.locals) := ⟨hr.1, by omega⟩
  have hsum : 2 * (F0 m pc arr ((vs.reverse ++ st).map (rx_cv ad))).monitorRoom + ((st.map (rx_cv ad)).map fun v => v.category).sum ≤ 8 := lv_room (by rw [rx_cat]; exact hst)
  have kk' : ∀ (r : Option Value) (S1 : rx_S) (H1 : Heap) (locs1 : List Loc), P1 r S1 → va_P D rx_cl (rx_w G cy ad S1) H1 → va_S (rx_A G ad s.heap.size) s.heap H1 locs1 → W p l e R s m args below meth c H1 locs1 n0 n1 (MQ below (rx_Q G D cy ad Post) args s n0 n1 (rx_A G ad s.heap.size)) (F0 m (pc + 3) arr ((r.toList ++ st).map (rx_cv ad))) := fun r S1 H1 locs1 h1 h2 h3 => kk r S1 h1 l D cy ad p e R s m args below meth c H1 locs1 arr n0 n1 hRR hok h2 (rx_D_S S1 hD) h3 hL
  rcases hlk with hl | ⟨host, hl⟩
  · refine rx_cont (va_runS (As := vs.map (rx_cv ad)) (rest := st.map (rx_cv ad)) (index := idx) (n := n) ⟨hok.x, hok.b, hok.ml, hok.own, hok.ts⟩ hMet ⟨callB_of n hok.ts (rx_good (M := M) hm2) rfl rfl rfl (hok.ts _ hm3) (hok.ts _ hl) hm4 hroom, hok.ts _ hv⟩ hpre rfl (by rw [List.length_map]; exact hn) hL.1 hstk hsum hd ⟨hRR.1, hRR.2⟩) hS kk'
  · refine rx_cont (va_runSN (As := vs.map (rx_cv ad)) (rest := st.map (rx_cv ad)) (index := idx) (n := n) ⟨hok.x, hok.b, hok.ml, hok.own, hok.ts⟩ hMet ⟨va_cnB n hok.ts (rx_good (M := M) hm2) rfl rfl rfl (hok.NW.2 _ _ _ _ hl) (hok.ts _ hm3) hm4 hroom, hok.ts _ hv, trivial⟩ hpre rfl (by rw [List.length_map]; exact hn) hL.1 hstk hsum hd ⟨hRR.1, hRR.2⟩) hS kk'
/-- weaker ends, more room -/
theorem EV.mono {Post' : Option Value → rx_S → Prop} (h : EV G d M pc ls st S Post) (hp : ∀ r S1, Post r S1 → Post' r S1) : EV G d M pc ls st S Post' := by
  intro l D cy ad p e R s m args below meth c H locs arr n0 n1 hRR hok hP hD hS hL T hT X
  obtain ⟨t, h1, o, h2, h3, ⟨r, S1, a1, a2, a3⟩, h5⟩ := h l D cy ad p e R s m args below meth c H locs arr n0 n1 hRR hok hP hD hS hL T hT X
  exact ⟨t, h1, o, h2, h3, ⟨r, S1, a1, hp r S1 a2, a3⟩, h5⟩
theorem EV.deep {d' : Nat} (h : EV G d M pc ls st S Post) (hd : d ≤ d') : EV G d' M pc ls st S Post := by
  intro l D cy ad p e R s m args below meth c H locs arr n0 n1 hRR hok hP hD hS hL
  obtain ⟨h1, h2, h3, h4, h5, h6, h7, h8, h9, h10⟩ := hok
  exact h l D cy ad p e R s m args below meth c H locs arr n0 n1 hRR ⟨h1, h2, h3, h4, h5, h6, h7, h8, ⟨by omega, by omega⟩, h10⟩ hP hD hS hL
end EVC

