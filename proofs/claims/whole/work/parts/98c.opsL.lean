/-! ===== hires ===== -/
def dg (b K w k : Nat) : Nat := w / b ^ (K - 1 - k) % b
def rrk (t K w : Nat) : Nat → Nat
  | 0 => 0
  | k + 1 => 4 * rrk t K w k + dg t K w k
def rr (t K w : Nat) : Nat := rrk t K w K
def vl (lo : Nat → Nat → Nat) (ds : Nat → Nat) (t : Nat) : Nat → Nat → Nat → Nat → Option Nat
  | 0, _, _, s => some s
  | m + 1, k, tk, s => if ds k < t ∧ tk / 2 ^ ds k % 2 = 0 then vl lo ds t m (k + 1) (tk ||| 2 ^ ds k) (s + lo k (ds k)) else none
def vb (ds : Nat → Nat) (t : Nat) : Nat → Nat → Nat → Bool
  | 0, _, _ => true
  | m + 1, k, tk => decide (ds k < t ∧ tk / 2 ^ ds k % 2 = 0) && vb ds t m (k + 1) (tk ||| 2 ^ ds k)
theorem vl_ext {lo : Nat → Nat → Nat} {ds ds' : Nat → Nat} {t : Nat} : ∀ m k tk s, (∀ j, k ≤ j → j < k + m → ds j = ds' j) → vl lo ds t m k tk s = vl lo ds' t m k tk s := by
  intro m
  induction m with
  | zero => intro k tk s _; rfl
  | succ m ih =>
    intro k tk s h
    rw [vl, vl, h k (Nat.le_refl _) (by omega), ih _ _ _ (fun j h1 h2 => h j (by omega) (by omega))]
theorem vl_vb {lo : Nat → Nat → Nat} {ds : Nat → Nat} {t : Nat} : ∀ m k tk s, (vl lo ds t m k tk s).isSome = vb ds t m k tk := by
  intro m
  induction m with
  | zero => intro k tk s; rfl
  | succ m ih =>
    intro k tk s
    rw [vl, vb]
    by_cases q : ds k < t ∧ tk / 2 ^ ds k % 2 = 0
    · rw [if_pos q, decide_eq_true q, Bool.true_and]; exact ih _ _ _
    · rw [if_neg q, decide_eq_false q, Bool.false_and]; rfl
theorem vl_le {lo : Nat → Nat → Nat} {ds : Nat → Nat} {t : Nat} (hlo : ∀ k i, lo k i ≤ 10) : ∀ m k tk s s', vl lo ds t m k tk s = some s' → s' ≤ s + 10 * m := by
  intro m
  induction m with
  | zero => intro k tk s s' h; rw [vl] at h; cases h; omega
  | succ m ih =>
    intro k tk s s' h
    rw [vl] at h
    split at h
    · have h1 := ih _ _ _ _ h
      have h2 := hlo k (ds k)
      omega
    · cases h
def fstep (val : Nat → Option Nat) (acc : Option (Nat × Nat)) (w : Nat) : Option (Nat × Nat) := match val w with
  | none => acc
  | some s => match acc with
    | none => some (w, s)
    | some a => if a.2 ≤ s then some a else some (w, s)
def fr (val : Nat → Option Nat) : Nat → Option (Nat × Nat)
  | 0 => none
  | w + 1 => fstep val (fr val w) w
theorem fr_list {val : Nat → Option Nat} : ∀ n, fr val n = (List.range n).foldl (fstep val) none := by
  intro n
  induction n with
  | zero => rfl
  | succ n ih => rw [fr, ih, List.range_succ, List.foldl_append]; rfl
theorem fo_filter {val : Nat → Option Nat} {p : Nat → Bool} : ∀ (L : List Nat) acc, (∀ w ∈ L, p w = false → val w = none) → L.foldl (fstep val) acc = (L.filter p).foldl (fstep val) acc := by
  intro L
  induction L with
  | nil => intro acc _; rfl
  | cons w L ih =>
    intro acc h
    rw [List.foldl_cons]
    by_cases q : p w = true
    · rw [List.filter_cons_of_pos q, List.foldl_cons]
      exact ih _ (fun x hx => h x (List.mem_cons_of_mem _ hx))
    · rw [List.filter_cons_of_neg q]
      have e : fstep val acc w = acc := by
        unfold fstep
        rw [h w (List.mem_cons_self ..) (Bool.eq_false_iff.mpr q)]
      rw [e]
      exact ih _ (fun x hx => h x (List.mem_cons_of_mem _ hx))
def am2 (r : Nat → Nat) (a : Option (Nat × Nat)) : Option (Nat × Nat) := a.map (fun a => (r a.1, a.2))
theorem fo_map {val val' : Nat → Option Nat} {r : Nat → Nat} : ∀ (L : List Nat) acc, (∀ w ∈ L, val (r w) = val' w) → (L.map r).foldl (fstep val) (am2 r acc) = am2 r (L.foldl (fstep val') acc) := by
  intro L
  induction L with
  | nil => intro acc _; rfl
  | cons w L ih =>
    intro acc h
    rw [List.map_cons, List.foldl_cons, List.foldl_cons]
    have e : fstep val (am2 r acc) (r w) = am2 r (fstep val' acc w) := by
      unfold fstep
      rw [h w (List.mem_cons_self ..)]
      cases val' w with
      | none => rfl
      | some s =>
        cases acc with
        | none => rfl
        | some a =>
          show (if a.2 ≤ s then some (r a.1, a.2) else some (r w, s)) = am2 r (if a.2 ≤ s then some a else some (w, s))
          split <;> rfl
    rw [e]
    exact ih _ (fun x hx => h x (List.mem_cons_of_mem _ hx))
theorem fr_none {val : Nat → Option Nat} : ∀ n, (∀ w, w < n → val w = none) → fr val n = none := by
  intro n
  induction n with
  | zero => intro _; rfl
  | succ n ih =>
    intro h
    rw [fr, ih (fun w hw => h w (by omega))]
    unfold fstep
    rw [h n (by omega)]
theorem fr_some {val : Nat → Option Nat} : ∀ n w, w < n → (val w).isSome = true → (fr val n).isSome = true := by
  intro n
  induction n with
  | zero => intro w h _; omega
  | succ n ih =>
    intro w hw h
    rw [fr]
    by_cases e : w = n
    · subst e
      unfold fstep
      cases e2 : val w with
      | none => rw [e2] at h; cases h
      | some s =>
        cases fr val w with
        | none => rfl
        | some a => simp only; split <;> rfl
    · have h1 := ih w (by omega) h
      unfold fstep
      cases e2 : fr val n with
      | none => rw [e2] at h1; cases h1
      | some a =>
        cases val n with
        | none => rfl
        | some s => simp only; split <;> rfl
theorem fr_ok {val : Nat → Option Nat} : ∀ n a, fr val n = some a → a.1 < n ∧ val a.1 = some a.2 := by
  intro n
  induction n with
  | zero => intro a h; cases h
  | succ n ih =>
    intro a h
    rw [fr] at h
    unfold fstep at h
    cases e2 : val n with
    | none =>
      rw [e2] at h
      have := ih a h
      exact ⟨by omega, this.2⟩
    | some s =>
      rw [e2] at h
      cases e3 : fr val n with
      | none =>
        rw [e3] at h
        cases h
        exact ⟨by show n < n + 1; omega, e2⟩
      | some b =>
        rw [e3] at h
        simp only at h
        have hb := ih b e3
        split at h
        · cases h
          exact ⟨by omega, hb.2⟩
        · cases h
          exact ⟨by show n < n + 1; omega, e2⟩
def pd (t K w : Nat) : Bool := (List.range K).all (fun k => decide (dg 4 K w k < t))
theorem hd_map : ∀ K, K < 4 → ∀ t, t < 5 → (List.range (4 ^ K)).filter (pd t K) = (List.range (t ^ K)).map (rr t K) := by decide +kernel
theorem hd_dig : ∀ K, K < 4 → ∀ t, t < 5 → ∀ w, w < t ^ K → ∀ k, k < K → dg 4 K (rr t K w) k = dg t K w k := by decide +kernel
theorem hd_no : ∀ K, K < 4 → ∀ t, t < 5 → ∀ w, w < 4 ^ K → pd t K w = false → vb (dg 4 K w) t K 0 0 = false := by decide +kernel
theorem hd_many : ∀ K, K < 4 → ∀ t, t < K → ∀ w, w < 4 ^ K → vb (dg 4 K w) t K 0 0 = false := by decide +kernel
theorem hd_some : ∀ K, K < 4 → ∀ t, t < 5 → K ≤ t → (List.range (t ^ K)).any (fun w => vb (dg t K w) t K 0 0) = true := by decide +kernel
theorem hd_pow : ∀ K, K < 4 → ∀ t, t < 5 → t ^ K ≤ 64 ∧ 4 ^ K ≤ 64 := by decide +kernel
theorem hd_bit : ∀ tk, tk < 16 → ∀ d, d < 4 → (nI tk &&& ((1 : Int32) <<< (nI d &&& 31)) = 0 ↔ tk / 2 ^ d % 2 = 0) ∧ nI tk ||| ((1 : Int32) <<< (nI d &&& 31)) = nI (tk ||| 2 ^ d) ∧ tk ||| 2 ^ d < 16 ∧ ((nI tk >>> (nI d &&& 31)) &&& 1 = 1 ↔ ¬ tk / 2 ^ d % 2 = 0) := by decide +kernel
theorem hire_same {lo : Nat → Nat → Nat} {K t : Nat} (hK : K < 4) (ht : t < 5) : fr (fun w => vl lo (dg 4 K w) t K 0 0 0) (4 ^ K) = am2 (rr t K) (fr (fun w => vl lo (dg t K w) t K 0 0 0) (t ^ K)) := by
  rw [fr_list, fr_list, fo_filter (p := pd t K) _ _ (fun w hw hp => ?_), hd_map K hK t ht]
  · refine fo_map (List.range (t ^ K)) none (fun w hw => ?_)
    exact vl_ext K 0 0 0 (fun j _ h2 => hd_dig K hK t ht w (List.mem_range.mp hw) j (by omega))
  · have h := vl_vb (lo := lo) (ds := dg 4 K w) (t := t) K 0 0 0
    rw [hd_no K hK t ht w (List.mem_range.mp hw) hp] at h
    cases e : vl lo (dg 4 K w) t K 0 0 0 with
    | none => rfl
    | some s => rw [e] at h; cases h
theorem hire_none {lo : Nat → Nat → Nat} {K t : Nat} (hK : K < 4) (ht : t < K) : fr (fun w => vl lo (dg 4 K w) t K 0 0 0) (4 ^ K) = none := by
  refine fr_none _ (fun w hw => ?_)
  have h := vl_vb (lo := lo) (ds := dg 4 K w) (t := t) K 0 0 0
  rw [hd_many K hK t ht w hw] at h
  cases e : vl lo (dg 4 K w) t K 0 0 0 with
  | none => rfl
  | some s => rw [e] at h; cases h
theorem hire_some {lo : Nat → Nat → Nat} {K t : Nat} (hK : K < 4) (ht : t < 5) (hKt : K ≤ t) : (fr (fun w => vl lo (dg t K w) t K 0 0 0) (t ^ K)).isSome = true := by
  have h := hd_some K hK t ht hKt
  rw [List.any_eq_true] at h
  obtain ⟨w, hw, h⟩ := h
  exact fr_some _ w (List.mem_range.mp hw) (by rw [vl_vb]; exact h)
/-- couples that have not parted -/
def nt (st : Nat → Int32) : Nat → Nat
  | 0 => 0
  | c + 1 => if st (15 + c) = 1 then nt st c else nt st c + 1
def cl (st : Nat → Int32) : Nat → Nat → Nat
  | 0, _ => 0
  | c + 1, k => if ¬ st (15 + c) = 1 ∧ nt st c = k then c else cl st c k
theorem nt_le (st : Nat → Int32) : ∀ c, nt st c ≤ c := by
  intro c
  induction c with
  | zero => exact Nat.le_refl _
  | succ c ih => rw [nt]; split <;> omega
theorem nt_mono {st : Nat → Int32} {c : Nat} : ∀ m, nt st c ≤ nt st (c + m) := by
  intro m
  induction m with
  | zero => exact Nat.le_refl _
  | succ m ih => rw [show c + (m + 1) = (c + m) + 1 by omega, nt]; split <;> omega
theorem cl_at {st : Nat → Int32} {c : Nat} (h : ¬ st (15 + c) = 1) : ∀ m, cl st (c + 1 + m) (nt st c) = c := by
  intro m
  induction m with
  | zero => rw [Nat.add_zero, cl, if_pos ⟨h, rfl⟩]
  | succ m ih =>
    rw [show c + 1 + (m + 1) = (c + 1 + m) + 1 by omega, cl, if_neg (fun z => ?_)]
    · exact ih
    · have h1 := nt_mono (st := st) (c := c + 1) m
      have h2 : nt st (c + 1) = nt st c + 1 := by rw [nt, if_neg h]
      omega
theorem cl_ok {st : Nat → Int32} : ∀ C k, k < nt st C → cl st C k < C ∧ ¬ st (15 + cl st C k) = 1 ∧ nt st (cl st C k) = k := by
  intro C
  induction C with
  | zero => intro k h; exact absurd h (Nat.not_lt_zero _)
  | succ C ih =>
    intro k h
    rw [cl]
    by_cases q : ¬ st (15 + C) = 1 ∧ nt st C = k
    · rw [if_pos q]
      exact ⟨by omega, q.1, q.2⟩
    · rw [if_neg q]
      have hk : k < nt st C := by
        rw [nt] at h
        split at h
        · exact h
        · rename_i z
          have : nt st C ≠ k := fun y => q ⟨z, y⟩
          omega
      obtain ⟨h1, h2, h3⟩ := ih k hk
      exact ⟨by omega, h2, h3⟩
def lc (T : tx) (st : Nat → Int32) (c i : Nat) : Nat := alt (sd T st (tP T c (par st))) (put T st i (sd T st (tP T c (par st))))
def lo (T : tx) (st : Nat → Int32) (k i : Nat) : Nat := lc T st (cl st (tC T) k) i
theorem lo_le {T : tx} {st : Nat → Int32} : ∀ k i, lo T st k i ≤ 10 := fun _ _ => alt_le
theorem lo_nt {T : tx} {st : Nat → Int32} {c i : Nat} (hc : c < tC T) (h : ¬ st (15 + c) = 1) : lo T st (nt st c) i = lc T st c i := by
  have := cl_at h (tC T - (c + 1))
  rw [show c + 1 + (tC T - (c + 1)) = tC T by omega] at this
  unfold lo
  rw [this]
section OPL
variable {N : Nat} {T : tx} {n : Nat} {SC SM SC' SM' : rx_S} {st : Nat → Int32} {w0 : Nat}
def hrC (S S' : rx_S) : Prop := (∀ k, k ≠ 6 → k ≠ 7 → k ≠ 83 → k ≠ 86 → k ≠ 87 → S'.1 k = S.1 k) ∧ S'.2 = S.2
theorem hrC.rf {S : rx_S} : hrC S S := ⟨fun _ _ _ _ _ _ => rfl, rfl⟩
theorem hrC.tr {S S' S'' : rx_S} (h : hrC S S') (g : hrC S' S'') : hrC S S'' := ⟨fun k h1 h2 h3 h4 h5 => (g.1 k h1 h2 h3 h4 h5).trans (h.1 k h1 h2 h3 h4 h5), g.2.trans h.2⟩
theorem hrC.i {S S' : rx_S} (h : hrC S S') : iC S S' := ⟨fun k hq => h.1 k (by unfold kpC at hq; omega) (by unfold kpC at hq; omega) (by unfold kpC at hq; omega) (by unfold kpC at hq; omega) (by unfold kpC at hq; omega), h.2⟩
theorem hrC.ag {S S' : rx_S} (h : hrC S S') : agC S S' := h.i.ag
theorem sC.h {S S' : rx_S} (h : sC S S') : hrC S S' := ⟨fun k h1 h2 _ _ _ => h.1 k h1 h2, h.2⟩
theorem wC.h {S S' : rx_S} (h : wC 83 S S') : hrC S S' := ⟨fun k h1 h2 h3 _ _ => h.1 k h1 h2 h3, h.2⟩
theorem hrC.u6 {S : rx_S} {i : Nat} {v : Int32} : hrC S (rx_ui S 86 i v) := ⟨fun k _ _ _ h _ => ui_row h, rfl⟩
theorem fK.h7 {S S' : rx_S} (h : fK 87 S S') : hrC S S' := ⟨fun k _ _ _ _ h5 => h.1 k h5, h.2⟩
theorem stR.h {S S' : rx_S} (h : stR T (S.1 32) st) (hs : hrC S S') : stR T (S'.1 32) st := by rw [hs.1 32 (by decide) (by decide) (by decide) (by decide) (by decide)]; exact h
theorem fl51_L (hN : 5000 ≤ N) {S : rx_S} (hF : WF T) (hT : TC N T S) (hR : stR T (S.1 32) st) (hW : WS T w0 st) {k v : Nat} {y : Int32} (hv : okr v) (hk : k < 3) {Q : Int32 → rx_S → Prop} {K : Int32 → Int32 → rx_S → Option (Int32 × rx_S)} (kk : ∀ S', hrC S S' → (∀ j, j < tT T → S'.1 86 (k * 4 + j) = nI (alt v (put T st j v))) → (∀ j, j < k * 4 → S'.1 86 j = S.1 86 j) → pk (K (nI k) y S') Q) : ∀ (m f i : Nat) (S1 : rx_S), i + m = tT T → m < f → hrC S S1 → (∀ j, j < i → S1.1 86 (k * 4 + j) = nI (alt v (put T st j v))) → (∀ j, j < k * 4 → S1.1 86 j = S.1 86 j) → pk (f_X6_fillLosses_L51 N K f (nI k) y (nI v) (nI i) S1) Q := by
  intro m
  have h4 := hF.2.2.1
  induction m with
  | zero =>
    intro f i S1 hi hf hs h1 h2
    obtain ⟨f, rfl⟩ : ∃ q, f = q + 1 := ⟨f - 1, by omega⟩
    have : i = tT T := by omega
    subst this
    rw [f_X6_fillLosses_L51, (hT.ag hs.ag).1.2.2.1, if_pos (nI_le (Nat.le_refl _) (by omega))]
    exact kk S1 hs h1 h2
  | succ m ih =>
    intro f i S1 hi hf hs h1 h2
    obtain ⟨f, rfl⟩ : ∃ q, f = q + 1 := ⟨f - 1, by omega⟩
    have c4 : nI k * 4 = nI (k * 4) := nI_mul k 4
    rw [f_X6_fillLosses_L51, (hT.ag hs.ag).1.2.2.1, if_neg (nI_ge (by omega) (by omega))]
    refine pk_bdm (putRow_ok hN hF (hT.ag hs.ag) (by decide) (hR.h hs) hW (show i < tT T by omega) hv) (fun r S2 g2 => ?_)
    rw [g2.1]
    refine pk_bdm (changes_ok hN hv (put_ok _ _ _ _)) (fun r S3 g3 => ?_)
    have hs3 := (hs.tr g2.2.h).tr g3.2.h
    have e86 : S3.1 86 = S1.1 86 := by rw [g3.2.1 86 (by decide) (by decide) (by decide), g2.2.1 86 (by decide) (by decide)]
    rw [c4, nI_add, pk_gdn (by omega) (by decide), pk_let, pk_let, nI_1, nI_clamp (by omega), g3.1]
    refine ih f (i + 1) _ (by omega) (by omega) (hs3.tr hrC.u6) (fun j hj => ?_) (fun j hj => ?_)
    · rw [ui_same, e86]
      by_cases e : j = i
      · rw [e, upd_at]
      · rw [upd_ne (by omega)]; exact h1 j (by omega)
    · rw [ui_same, e86, upd_ne (by omega)]; exact h2 j hj
theorem fl4_L (hN : 5000 ≤ N) {S : rx_S} (hF : WF T) (hT : TC N T S) (hR : stR T (S.1 32) st) (hw0 : w0 < 2 ^ 31) (hW : WS T w0 st) : ∀ (m f c : Nat) (S1 : rx_S), c + m = tC T → m < f → hrC S S1 → (∀ k j, k < nt st c → j < tT T → S1.1 86 (k * 4 + j) = nI (lo T st k j)) → pk (f_X6_fillLosses_L4 N f (nI (nt st c)) (nI c) S1) (fun r S' => r = nI (nt st (tC T)) ∧ hrC S S' ∧ ∀ k j, k < nt st (tC T) → j < tT T → S'.1 86 (k * 4 + j) = nI (lo T st k j)) := by
  intro m
  have h3 := hF.2.1
  have h4 := hF.2.2.1
  induction m with
  | zero =>
    intro f c S1 hc hf hs h1
    obtain ⟨f, rfl⟩ : ∃ q, f = q + 1 := ⟨f - 1, by omega⟩
    have : c = tC T := by omega
    subst this
    rw [f_X6_fillLosses_L4, (hT.ag hs.ag).1.2.1, if_pos (nI_le (Nat.le_refl _) (by omega)), pk_some]
    exact ⟨rfl, hs, h1⟩
  | succ m ih =>
    intro f c S1 hc hf hs h1
    obtain ⟨f, rfl⟩ : ∃ q, f = q + 1 := ⟨f - 1, by omega⟩
    have c19 : (19 : Int32) + nI c = nI (19 + c) := nI_add 19 c
    have hR1 := hR.h hs
    have hT1 := hT.ag hs.ag
    have hcc : c < tC T := by omega
    have hnt := nt_le st c
    rw [f_X6_fillLosses_L4, hT1.1.2.1, if_neg (nI_ge (by omega) (by omega)), if_neg (show ¬ (3 : Int32) ≤ nI c from nI_ge (b := 3) (by omega) (by decide)), c19, pk_gdn (by omega) (by decide), nI_clamp (by omega), hR1.at (k := 19 + c) (j := 15 + c) (by omega) (by omega) (by omega)]
    rcases hW.part (c := c) (by omega) with z | z
    · rw [z, if_pos rfl, spkC_eq hF hT1 hR1 hw0 hW.wk hcc, bd_some]
      have z1 : ¬ st (15 + c) = 1 := by rw [z]; decide
      have hp := wf_p hF hcc (x := par st) par_lt
      refine pk_bdm (rowOf_ok hN hT1 (by decide) hR1 hp.1) (fun r S2 g2 => ?_)
      have hs2 := hs.tr g2.2.h
      rw [g2.1, pk_let]
      refine fl51_L (S := S2) hN hF (hT.ag hs2.ag) (hR.h hs2) hW (sd_ok _ _ _) (show nt st c < 3 by omega) (fun S3 g3 g4 g5 => ?_) (tT T) N 0 S2 (by omega) (by omega) hrC.rf (fun j hj => absurd hj (by omega)) (fun _ _ => rfl)
      rw [pk_let, pk_let, nI_1, nI_1]
      have en : nt st (c + 1) = nt st c + 1 := by rw [nt, if_neg z1]
      rw [← en]
      refine ih f (c + 1) S3 (by omega) (by omega) (hs2.tr g3) (fun k j hk hj => ?_)
      by_cases e : k = nt st c
      · rw [e, g4 j hj, lo_nt hcc z1]
        rfl
      · rw [g5 _ (by omega), g2.2.1 86 (by decide) (by decide)]
        exact h1 k j (by omega) hj
    · rw [z, if_neg (by decide), pk_let, nI_1]
      have en : nt st (c + 1) = nt st c := by rw [nt, if_pos z]
      rw [← en] at h1 ⊢
      exact ih f (c + 1) S1 (by omega) (by omega) hs h1
theorem ch_L {S : rx_S} {t K w : Nat} (h2 : S.1 2 8 = nI t) (ht : t < 5) (hK : K < 4) (hw : w < 2 ^ 20) (hpos : 0 < K → 0 < t) : ∀ (a f : Nat) (S1 : rx_S), a ≤ K → a < f → fK 87 S S1 → (∀ j, a ≤ j → j < K → S1.1 87 j = nI (dg t K w j)) → pk (f_X6_choose_L7 N f (nI (w / t ^ (K - a))) (nI a - 1) S1) (fun _ S' => fK 87 S S' ∧ ∀ j, j < K → S'.1 87 j = nI (dg t K w j)) := by
  intro a
  induction a with
  | zero =>
    intro f S1 ha hf hs h1
    obtain ⟨f, rfl⟩ : ∃ q, f = q + 1 := ⟨f - 1, by omega⟩
    rw [f_X6_choose_L7, if_pos (by decide), pk_some]
    exact ⟨hs, fun j hj => h1 j (Nat.zero_le _) hj⟩
  | succ a ih =>
    intro f S1 ha hf hs h1
    obtain ⟨f, rfl⟩ : ∃ q, f = q + 1 := ⟨f - 1, by omega⟩
    have ht0 : 0 < t := hpos (by omega)
    have hq : w / t ^ (K - (a + 1)) ≤ w := Nat.div_le_self _ _
    have e28 : ∀ S1 : rx_S, fK 87 S S1 → S1.1 2 8 = nI t := fun S1 hs => by rw [hs.1 2 (by decide)]; exact h2
    rw [f_X6_choose_L7, show nI (a + 1) - 1 = nI a from nI_pred a, if_neg (nI_pos (by omega)), pk_let, e28 S1 hs, if_neg (nI_nle ht0 (by omega)), pk_nz (nI_ne0 ht0 (by omega)), nI_rem (by omega) (by omega), pk_gdn (by omega) (by decide), pk_let, e28 _ (hs.tr fK.ui), if_neg (nI_nle ht0 (by omega)), pk_nz (nI_ne0 ht0 (by omega)), pk_let, pk_let, nI_div (by omega) (by omega), nI_clamp (by omega), Nat.div_div_eq_div_mul, ← Nat.pow_succ, show (K - (a + 1)).succ = K - a by omega, show nI a + (-1) = nI a - 1 from (Int32.sub_eq_add_neg _ _).symm]
    refine ih f _ (by omega) (by omega) (hs.tr fK.ui) (fun j hj hjK => ?_)
    rw [ui_same]
    by_cases e : j = a
    · rw [e, upd_at]
      unfold dg
      rw [show K - 1 - a = K - (a + 1) by omega]
    · rw [upd_ne e]; exact h1 j (by omega) hjK
theorem ch_ok (hN : 5000 ≤ N) {S : rx_S} {t K w : Nat} (h2 : S.1 2 8 = nI t) (ht : t < 5) (hK : K < 4) (hw : w < 2 ^ 20) (hpos : 0 < K → 0 < t) : pk (f_X6_choose N (nI w) (nI K) S) (fun _ S' => fK 87 S S' ∧ ∀ j, j < K → S'.1 87 j = nI (dg t K w j)) := by
  unfold f_X6_choose
  rw [pk_let]
  have := ch_L (N := N) h2 ht hK hw hpos K N S (Nat.le_refl _) (by omega) fK.rf (fun j h1 h2 => by omega)
  rw [Nat.sub_self, Nat.pow_zero, Nat.div_one] at this
  exact this
def lv1 (o : Option Nat) : Int32 := match o with | some s => nI s | none => 1000000
theorem lo14_L {S : rx_S} {t K : Nat} {l : Nat → Nat → Nat} {ds : Nat → Nat} (ht : t < 5) (hK : K < 4) (h7 : ∀ j, j < K → S.1 87 j = nI (ds j)) (hds : ∀ j, j < K → ds j < t) (h6 : ∀ k j, k < K → j < t → S.1 86 (k * 4 + j) = nI (l k j)) : ∀ (m f k tk s : Nat), k + m = K → m < f → tk < 16 → f_X6_lossOf_L14 N f (nI K) (nI tk) (nI s) (nI k) S = some (lv1 (vl l ds t m k tk s), S) := by
  intro m
  induction m with
  | zero =>
    intro f k tk s hk hf htk
    obtain ⟨f, rfl⟩ : ∃ q, f = q + 1 := ⟨f - 1, by omega⟩
    rw [f_X6_lossOf_L14, if_pos (nI_le (by omega) (by omega))]
    rfl
  | succ m ih =>
    intro f k tk s hk hf htk
    obtain ⟨f, rfl⟩ : ∃ q, f = q + 1 := ⟨f - 1, by omega⟩
    have hd := hds k (by omega)
    obtain ⟨b1, b2, b3, -⟩ := hd_bit tk htk (ds k) (by omega)
    have c4 : nI k * 4 = nI (k * 4) := nI_mul k 4
    rw [f_X6_lossOf_L14, if_neg (nI_ge (by omega) (by omega)), rx_gd_in (vp_in_nI (show k < 3 by omega) (by decide))]
    simp only [rx_let]
    rw [rx_gd_in (vp_in_nI (show k < 3 by omega) (by decide)), nI_clamp (by omega), h7 k (by omega), b2, c4, nI_add, rx_gd_in (vp_in_nI (show k * 4 + ds k < 12 by omega) (by decide)), nI_clamp (by omega), h6 k _ (by omega) hd, nI_add, nI_1, vl]
    by_cases q : tk / 2 ^ ds k % 2 = 0
    · rw [if_pos (b1.mpr q), if_pos ⟨hd, q⟩]
      exact ih f (k + 1) _ _ (by omega) (by omega) b3
    · rw [if_neg (fun z => q (b1.mp z)), if_neg (fun z => q z.2)]
      rfl
theorem loss_ok (hN : 5000 ≤ N) {S : rx_S} {t K w : Nat} {l : Nat → Nat → Nat} (h2 : S.1 2 8 = nI t) (ht : t < 5) (hK : K < 4) (hKt : K ≤ t) (hw : w < 2 ^ 20) (h6 : ∀ k j, k < K → j < t → S.1 86 (k * 4 + j) = nI (l k j)) : pk (f_X6_lossOf N (nI w) (nI K) S) (fun r S' => r = lv1 (vl l (dg t K w) t K 0 0 0) ∧ fK 87 S S') := by
  unfold f_X6_lossOf
  refine pk_bdm (ch_ok hN h2 ht hK hw (by omega)) (fun _ S1 h1 => ?_)
  by_cases h0 : K = 0
  · subst h0
    have e := lo14_L (N := N) (S := S1) (t := t) (l := l) (ds := dg t 0 w) ht hK h1.2 (fun j hj => absurd hj (by omega)) (fun k j hk => absurd hk (by omega)) 0 N 0 0 0 (by omega) (by omega) (by omega)
    have e : f_X6_lossOf_L14 N N (nI 0) 0 0 0 S1 = _ := e
    rw [e, pk_some]
    exact ⟨rfl, h1.1⟩
  · have e := lo14_L (N := N) (S := S1) (t := t) (l := l) (ds := dg t K w) ht hK h1.2 (fun j hj => Nat.mod_lt _ (by omega)) (fun k j hk hj => by rw [h1.1.1 86 (by decide)]; exact h6 k j hk hj) K N 0 0 0 (by omega) (by omega) (by omega)
    have e : f_X6_lossOf_L14 N N (nI K) 0 0 0 S1 = _ := e
    rw [e, pk_some]
    exact ⟨rfl, h1.1⟩
def acC (a : Option (Nat × Nat)) : Int32 × Int32 := match a with | some a => (nI a.1, nI a.2) | none => (0, 1000000)
theorem bh60_L (hN : 5000 ≤ N) {S : rx_S} {t K : Nat} {x : Int32} {l : Nat → Nat → Nat} (hl : ∀ k i, l k i ≤ 10) (h2 : S.1 2 8 = nI t) (ht : t < 5) (hK : K < 4) (hKt : K ≤ t) (h6 : ∀ k j, k < K → j < t → S.1 86 (k * 4 + j) = nI (l k j)) {Q : Int32 → rx_S → Prop} {KK : Int32 → Int32 → Int32 → Int32 → rx_S → Option (Int32 × rx_S)} (kk : ∀ S', fK 87 S S' → pk (KK x (nI K) (acC (fr (fun w => vl l (dg t K w) t K 0 0 0) (t ^ K))).1 (acC (fr (fun w => vl l (dg t K w) t K 0 0 0) (t ^ K))).2 S') Q) : ∀ (m f w : Nat) (S1 : rx_S), w + m = t ^ K → m < f → fK 87 S S1 → pk (f_X6_bestHire_L60 N KK f x (nI K) (nI (t ^ K)) (acC (fr (fun w => vl l (dg t K w) t K 0 0 0) w)).1 (acC (fr (fun w => vl l (dg t K w) t K 0 0 0) w)).2 (nI w) S1) Q := by
  intro m
  have hp := (hd_pow K hK t ht).1
  have hb : ∀ w a, fr (fun w => vl l (dg t K w) t K 0 0 0) w = some a → a.2 ≤ 30 := fun w a h => by
    have := vl_le hl K 0 0 0 _ (fr_ok w a h).2
    omega
  induction m with
  | zero =>
    intro f w S1 hw hf hs
    obtain ⟨f, rfl⟩ : ∃ q, f = q + 1 := ⟨f - 1, by omega⟩
    have : w = t ^ K := by omega
    rw [f_X6_bestHire_L60, if_pos (nI_le (by omega) (by omega)), this]
    exact kk S1 hs
  | succ m ih =>
    intro f w S1 hw hf hs
    obtain ⟨f, rfl⟩ : ∃ q, f = q + 1 := ⟨f - 1, by omega⟩
    rw [f_X6_bestHire_L60, if_neg (nI_ge (by omega) (by omega))]
    refine pk_bdm (loss_ok (w := w) (l := l) (S := S1) (t := t) hN (by rw [hs.1 2 (by decide)]; exact h2) ht hK hKt (by omega) (by rw [hs.1 86 (by decide)]; exact h6)) (fun r S2 g2 => ?_)
    have hs2 := hs.tr g2.2
    rw [g2.1, pk_ite, pk_let, pk_let, nI_1]
    have hst : fr (fun w => vl l (dg t K w) t K 0 0 0) (w + 1) = fstep (fun w => vl l (dg t K w) t K 0 0 0) (fr (fun w => vl l (dg t K w) t K 0 0 0) w) w := rfl
    have ihw := ih f (w + 1) S2 (by omega) (by omega) hs2
    rw [hst] at ihw
    unfold fstep at ihw
    dsimp only at ihw
    cases e1 : vl l (dg t K w) t K 0 0 0 with
    | none =>
      rw [e1] at ihw
      simp only at ihw
      have : (acC (fr (fun w => vl l (dg t K w) t K 0 0 0) w)).2 ≤ lv1 none := by
        cases e2 : fr (fun w => vl l (dg t K w) t K 0 0 0) w with
        | none => decide
        | some a =>
          have := hb w a e2
          exact nI_le (b := 1000000) (by omega) (by decide)
      rw [if_pos this]
      exact ihw
    | some s =>
      rw [e1] at ihw
      simp only at ihw
      have hs30 := vl_le hl K 0 0 0 s e1
      cases e2 : fr (fun w => vl l (dg t K w) t K 0 0 0) w with
      | none =>
        rw [e2] at ihw
        rw [if_neg (show ¬ (acC none).2 ≤ lv1 (some s) from nI_ge (b := 1000000) (by omega) (by decide))]
        exact ihw
      | some a =>
        rw [e2] at ihw
        have ha := hb w a e2
        simp only at ihw
        by_cases q : a.2 ≤ s
        · rw [if_pos q] at ihw
          rw [if_pos (show (acC (some a)).2 ≤ lv1 (some s) from nI_le q (by omega))]
          exact ihw
        · rw [if_neg q] at ihw
          rw [if_neg (show ¬ (acC (some a)).2 ≤ lv1 (some s) from nI_ge (by omega) (by omega))]
          exact ihw
theorem bh26_L {S : rx_S} {t K : Nat} {x : Int32} (h2 : S.1 2 8 = nI t) (ht : t < 5) (hK : K < 4) {Q : Int32 → rx_S → Prop} {KK : Int32 → Int32 → Int32 → rx_S → Option (Int32 × rx_S)} (kk : pk (KK x (nI K) (nI (t ^ K)) S) Q) : ∀ (m f i : Nat), i + m = K → m < f → pk (f_X6_bestHire_L26 N KK f x (nI K) (nI (t ^ i)) (nI i) S) Q := by
  intro m
  induction m with
  | zero =>
    intro f i hi hf
    obtain ⟨f, rfl⟩ : ∃ q, f = q + 1 := ⟨f - 1, by omega⟩
    have : i = K := by omega
    subst this
    rw [f_X6_bestHire_L26, if_pos (nI_le (Nat.le_refl _) (by omega))]
    exact kk
  | succ m ih =>
    intro f i hi hf
    obtain ⟨f, rfl⟩ : ∃ q, f = q + 1 := ⟨f - 1, by omega⟩
    rw [f_X6_bestHire_L26, if_neg (nI_ge (by omega) (by omega)), pk_let, pk_let, h2, nI_mul, ← Nat.pow_succ, nI_1]
    exact ih f (i + 1) (by omega) (by omega)
theorem tf25_L {S : rx_S} (hR : stR T (S.1 32) st) (hW : WS T w0 st) {c : Nat} {y : Int32} (hc : c < 3) {Q : Int32 → rx_S → Prop} {KK : Int32 → Int32 → rx_S → Option (Int32 × rx_S)} (kk : pk (KK y (nI (nt st c)) S) Q) : ∀ (m f i : Nat), i + m = c → m < f → pk (f_X6_thirdFor_L25 N KK f (nI c) y (nI (nt st i)) (nI i) S) Q := by
  intro m
  induction m with
  | zero =>
    intro f i hi hf
    obtain ⟨f, rfl⟩ : ∃ q, f = q + 1 := ⟨f - 1, by omega⟩
    have : i = c := by omega
    subst this
    rw [f_X6_thirdFor_L25, if_pos (nI_le (Nat.le_refl _) (by omega))]
    exact kk
  | succ m ih =>
    intro f i hi hf
    obtain ⟨f, rfl⟩ : ∃ q, f = q + 1 := ⟨f - 1, by omega⟩
    have c19 : (19 : Int32) + nI i = nI (19 + i) := nI_add 19 i
    have ihw := ih f (i + 1) (by omega) (by omega)
    rw [f_X6_thirdFor_L25, if_neg (nI_ge (by omega) (by omega)), c19, pk_gdn (by omega) (by decide), nI_clamp (by omega), hR.at (k := 19 + i) (j := 15 + i) (by omega) (by omega) (by omega), pk_ite, pk_let, pk_let, pk_let, pk_let, nI_1, nI_1, Int32.add_zero]
    rcases hW.part (c := i) (by omega) with z | z
    · rw [nt, if_neg (show ¬ st (15 + i) = 1 by rw [z]; decide)] at ihw
      rw [if_pos z]
      exact ihw
    · rw [nt, if_pos z] at ihw
      rw [if_neg (show ¬ st (15 + i) = 0 by rw [z]; decide)]
      exact ihw
/-- what both answer -/
def hrA (T : tx) (st : Nat → Int32) (x : Int32) : Int32 := match fr (fun w => vl (lo T st) (dg (tT T) (nt st (tC T)) w) (tT T) (nt st (tC T)) 0 0 0) (tT T ^ nt st (tC T)) with
  | none => -2
  | some a => if nt st (tC T) ≤ tT T then (if x = -1 then nI a.2 else if st (15 + x.toNatClampNeg) = 1 then -2 else nI (dg (tT T) (nt st (tC T)) a.1 (nt st x.toNatClampNeg))) else -2
theorem hire_lt {lo : Nat → Nat → Nat} {K t : Nat} (hK : K < 4) (ht : t < K) : fr (fun w => vl lo (dg t K w) t K 0 0 0) (t ^ K) = none := by
  have h1 := hire_same (lo := lo) hK (show t < 5 by omega)
  rw [hire_none hK ht] at h1
  cases e : fr (fun w => vl lo (dg t K w) t K 0 0 0) (t ^ K) with
  | none => rfl
  | some a => rw [e] at h1; cases h1
theorem bh_ok (hN : 5000 ≤ N) {S : rx_S} (hF : WF T) (hT : TC N T S) (hR : stR T (S.1 32) st) (hw0 : w0 < 2 ^ 31) (hW : WS T w0 st) {x : Int32} (hx : x = -1 ∨ ∃ c, c < tC T ∧ x = nI c) : pk (f_X6_bestHire N x S) (fun r S' => r = hrA T st x ∧ hrC S S') := by
  have h3 := hF.2.1
  have h4 := hF.2.2.1
  have hnt := nt_le st (tC T)
  unfold f_X6_bestHire
  have hfl : pk (f_X6_fillLosses N S) (fun r S' => r = nI (nt st (tC T)) ∧ hrC S S' ∧ ∀ k j, k < nt st (tC T) → j < tT T → S'.1 86 (k * 4 + j) = nI (lo T st k j)) := fl4_L hN hF hT hR hw0 hW (tC T) N 0 S (by omega) (by omega) hrC.rf (fun k j hk => absurd hk (Nat.not_lt_zero _))
  refine pk_bdm hfl (fun r S1 h1 => ?_)
  obtain ⟨e1, hs1, h86⟩ := h1
  have hT1 := hT.ag hs1.ag
  rw [e1, hT1.1.2.2.1]
  by_cases q : nt st (tC T) ≤ tT T
  · rw [if_pos (nI_le q (by omega)), pk_let]
    refine bh26_L (S := S1) hT1.1.2.2.1 (by omega) (show nt st (tC T) < 4 by omega) ?_ (nt st (tC T)) N 0 (by omega) (by omega)
    rw [pk_let]
    refine bh60_L (S := S1) (l := lo T st) hN lo_le hT1.1.2.2.1 (by omega) (by omega) q h86 (fun S2 h2 => ?_) (tT T ^ nt st (tC T)) N 0 S1 (by omega) (by have := (hd_pow (nt st (tC T)) (by omega) (tT T) (by omega)).1; omega) fK.rf
    have hs2 := hs1.tr h2.h7
    have hsome := hire_some (lo := lo T st) (K := nt st (tC T)) (t := tT T) (by omega) (by omega) q
    unfold hrA
    cases ef : fr (fun w => vl (lo T st) (dg (tT T) (nt st (tC T)) w) (tT T) (nt st (tC T)) 0 0 0) (tT T ^ nt st (tC T)) with
    | none => rw [ef] at hsome; cases hsome
    | some a =>
      simp only
      rw [if_pos q]
      rcases hx with rfl | ⟨c, hc, rfl⟩
      · rw [if_pos rfl, if_pos rfl, pk_some]
        exact ⟨rfl, hs2⟩
      · have hn1 : ∀ k : Nat, k < 3 → ¬ nI k = -1 := by decide
        have c19 : (19 : Int32) + nI c = nI (19 + c) := nI_add 19 c
        have hR2 := hR.h hs2
        rw [if_neg (hn1 c (by omega)), if_neg (hn1 c (by omega)), nI_clamp (by omega)]
        unfold f_X6_thirdFor
        have ha := fr_ok _ _ ef
        have hpw := (hd_pow (nt st (tC T)) (by omega) (tT T) (by omega)).1
        rw [c19, rx_gd_in (vp_in_nI (show 19 + c < 48 by omega) (by decide)), nI_clamp (by omega), hR2.at (k := 19 + c) (j := 15 + c) (by omega) (by omega) (by omega)]
        rcases hW.part (c := c) (by omega) with z | z
        · have z1 : ¬ st (15 + c) = 1 := by rw [z]; decide
          rw [if_pos z, if_neg z1]
          have hlt : nt st c < nt st (tC T) := by
            have h5 := nt_mono (st := st) (c := c + 1) (tC T - (c + 1))
            rw [show c + 1 + (tC T - (c + 1)) = tC T by omega] at h5
            have : nt st (c + 1) = nt st c + 1 := by rw [nt, if_neg z1]
            omega
          have hch := ch_ok (N := N) (S := S2) (t := tT T) (K := nt st (tC T)) (w := a.1) hN (by rw [h2.1 2 (by decide)]; exact hT1.1.2.2.1) (by omega) (by omega) (by omega) (by omega)
          have hgo : pk (rx_bd (f_X6_choose N (nI a.1) (nI (nt st (tC T))) S2) (fun x9 S8 => rx_let (fun (x11 : Int32) (x12 : Int32) (S13 : rx_S) => if x11 ≤ x12 then (some ((-2), S13)) else (rx_gd x12 3 (some ((S13.1 87 (Int32.toNatClampNeg x12)), S13)))) (fun J57_1 => f_X6_thirdFor_L25 N J57_1 N (nI c) (nI (nt st (tC T))) 0 0 S8))) (fun r S' => r = nI (dg (tT T) (nt st (tC T)) a.1 (nt st c)) ∧ hrC S S') := by
            refine pk_bdm hch (fun _ S3 h3' => ?_)
            rw [pk_let]
            have hs3 := hs2.tr h3'.1.h7
            refine tf25_L (S := S3) (hR.h hs3) hW (show c < 3 by omega) ?_ c N 0 (by omega) (by omega)
            rw [if_neg (nI_ge hlt (by omega)), pk_gdn (by omega) (by decide), pk_some, nI_clamp (by omega)]
            exact ⟨h3'.2 _ hlt, hs3⟩
          refine pk_bdm hgo (fun r S4 h4' => ?_)
          rw [pk_some]
          exact h4'
        · rw [if_neg (show ¬ st (15 + c) = 0 by rw [z]; decide), if_pos z, bd_some, pk_some]
          exact ⟨rfl, hs2⟩
  · rw [if_neg (nI_ge (by omega) (by omega)), pk_some]
    unfold hrA
    rw [hire_lt (by omega) (by omega)]
    exact ⟨rfl, hs1⟩
/-- the reference -/
def hM (S S' : rx_S) : Prop := (∀ k j, k ≠ 124 → k ≠ 125 → k ≠ 130 → k ≠ 131 → k ≠ 132 → ¬ (k = 94 ∧ (j = 48 ∨ j = 56 ∨ j = 57 ∨ j = 59)) → S'.1 k j = S.1 k j) ∧ S'.2 = S.2
theorem hM.rf {S : rx_S} : hM S S := ⟨fun _ _ _ _ _ _ _ _ => rfl, rfl⟩
theorem hM.tr {S S' S'' : rx_S} (h : hM S S') (g : hM S' S'') : hM S S'' := ⟨fun k j h1 h2 h3 h4 h5 h6 => (g.1 k j h1 h2 h3 h4 h5 h6).trans (h.1 k j h1 h2 h3 h4 h5 h6), g.2.trans h.2⟩
theorem sM.h {S S' : rx_S} (h : sM S S') : hM S S' := ⟨fun k j h1 h2 _ _ _ h6 => h.1 k j h1 h2 (by omega), h.2⟩
theorem xM.h {S S' : rx_S} (h : xM 130 S S') : hM S S' := ⟨fun k j h1 h2 h3 _ _ h6 => h.1 k j h1 h2 h3 (by omega), h.2⟩
theorem hM.row {S S' : rx_S} (h : hM S S') {k : Nat} (hk : k ≠ 124 ∧ k ≠ 125 ∧ k ≠ 130 ∧ k ≠ 131 ∧ k ≠ 132 ∧ k ≠ 94) : S'.1 k = S.1 k := funext fun j => h.1 k j hk.1 hk.2.1 hk.2.2.1 hk.2.2.2.1 hk.2.2.2.2.1 (by omega)
theorem hM.i {S S' : rx_S} (h : hM S S') : iM S S' := ⟨fun k j hq => h.1 k j (by unfold kpM at hq; omega) (by unfold kpM at hq; omega) (by unfold kpM at hq; omega) (by unfold kpM at hq; omega) (by unfold kpM at hq; omega) (by unfold kpM at hq; omega), h.2⟩
theorem hM.s7 {S S' : rx_S} (h : hM S S') : S'.1 127 = S.1 127 := h.row (by omega)
theorem hM.u2 {S : rx_S} {i : Nat} {v : Int32} : hM S (rx_ui S 132 i v) := ⟨fun k j _ _ _ _ h _ => by rw [ui_row h], rfl⟩
theorem hM.u1 {S : rx_S} {i : Nat} {v : Int32} : hM S (rx_ui S 131 i v) := ⟨fun k j _ _ _ h _ _ => by rw [ui_row h], rfl⟩
theorem hM.u9 {S : rx_S} {i : Nat} {v : Int32} (hi : i = 56 ∨ i = 57 ∨ i = 59) : hM S (rx_ui S 94 i v) := ⟨fun k j _ _ _ _ _ h => by
  by_cases e : k = 94
  · subst e; rw [ui_same, upd_ne (by omega)]
  · rw [ui_row e], rfl⟩
theorem fours_L {S : rx_S} : ∀ (m f i : Nat) (v : Nat), i + m < 2 ^ 31 → m < f → f_X11_fours_L4 N f (nI (i + m)) (nI v) (nI i) S = some (nI (v * 4 ^ m), S) := by
  intro m
  induction m with
  | zero =>
    intro f i v hi hf
    obtain ⟨f, rfl⟩ : ∃ q, f = q + 1 := ⟨f - 1, by omega⟩
    rw [f_X11_fours_L4, if_pos (nI_le (a := i + 0) (b := i) (by omega) (by omega))]
    simp
  | succ m ih =>
    intro f i v hi hf
    obtain ⟨f, rfl⟩ : ∃ q, f = q + 1 := ⟨f - 1, by omega⟩
    rw [f_X11_fours_L4, if_neg (nI_ge (by omega) hi)]
    simp only [rx_let]
    have e1 : nI v * 4 = nI (v * 4) := nI_mul v 4
    rw [e1, nI_1, show i + (m + 1) = (i + 1) + m by omega, ih f (i + 1) (v * 4) (by omega) (by omega)]
    rw [Nat.pow_succ, Nat.mul_assoc, Nat.mul_comm 4]
theorem fours_eq (hN : 5000 ≤ N) {S : rx_S} {k : Nat} (hk : k ≤ 100) : f_X11_fours N (nI k) S = some (nI (4 ^ k), S) := by
  have h := fours_L (N := N) (S := S) k N 0 1 (by omega) (by omega)
  rw [Nat.zero_add, Nat.one_mul] at h
  exact h
theorem isThird_eq (hF : WF T) {S : rx_S} (hT : TM N T S) {i : Nat} (hi : i < 1000) : f_X11_isThird (nI i) S = some (if i < tT T then 1 else 0, S) := by
  have h4 := hF.2.2.1
  obtain ⟨lv, hlv, t⟩ := hT.1
  unfold f_X11_isThird
  rw [t.1, rx_gd_in (vp_in_nI hlv (by decide)), nI_clamp (by omega), t.2.2.2.1, in_eq, bd_some]
  simp only [in_pred (show tT T ≤ 1000 by omega)]
  by_cases q : i < tT T
  · rw [if_pos ⟨nI_pos' (by omega), nI_lt q (by omega)⟩, if_pos q]
    exact rx_bl_in (Or.inr rfl)
  · rw [if_neg (fun z => q ((nI_ltI (by omega) (by omega)).mp z.2)), if_neg q]
    exact rx_bl_in (Or.inl rfl)
def lv2 (o : Option Nat) : Int32 := match o with | some s => nI s | none => -1
theorem sb7_L (hN : 5000 ≤ N) {S : rx_S} (hF : WF T) (hT : TM N T S) {K w : Nat} {l : Nat → Nat → Nat} (hK : K < 4) (hw : w < 2 ^ 20) (h59 : S.1 94 59 = nI K) (h132 : ∀ k j, k < K → j < tT T → S.1 132 (4 * k + j) = nI (l k j)) : ∀ (m f k tk s : Nat), k + m = K → m < f → tk < 16 → f_X11_sumBy_L7 N f (nI w) (nI tk) (nI s) (nI k) S = some (lv2 (vl l (dg 4 K w) (tT T) m k tk s), S) := by
  intro m
  have h4 := hF.2.2.1
  induction m with
  | zero =>
    intro f k tk s hk hf htk
    obtain ⟨f, rfl⟩ : ∃ q, f = q + 1 := ⟨f - 1, by omega⟩
    rw [f_X11_sumBy_L7, h59, if_pos (nI_le (by omega) (by omega))]
    rfl
  | succ m ih =>
    intro f k tk s hk hf htk
    obtain ⟨f, rfl⟩ : ∃ q, f = q + 1 := ⟨f - 1, by omega⟩
    have e1 : nI K - 1 - nI k = nI (K - 1 - k) := by
      have : nI K - 1 = nI (K - 1) := nI_sub (b := 1) (by omega)
      rw [this, nI_sub (by omega)]
    have hp : 0 < 4 ^ (K - 1 - k) := Nat.pow_pos (by decide)
    have hp2 : 4 ^ (K - 1 - k) ≤ 4 ^ 4 := Nat.pow_le_pow_right (by decide) (by omega)
    have hq : w / 4 ^ (K - 1 - k) ≤ w := Nat.div_le_self _ _
    have hd4 : dg 4 K w k < 4 := Nat.mod_lt _ (by decide)
    have er : rx_rem (nI (w / 4 ^ (K - 1 - k))) 4 = nI (dg 4 K w k) := nI_rem (b := 4) (by omega) (by decide)
    obtain ⟨-, b2, b3, b4⟩ := hd_bit tk htk (dg 4 K w k) hd4
    have c4 : (4 : Int32) * nI k = nI (4 * k) := nI_mul 4 k
    rw [f_X11_sumBy_L7, h59, if_neg (nI_ge (by omega) (by omega)), e1, fours_eq hN (by omega), bd_some, rx_nz_in (nI_ne0 hp (by omega)), nI_div (by omega) (by omega)]
    simp only [rx_let]
    rw [er, isThird_eq hF hT (by omega), bd_some, vl]
    by_cases q : dg 4 K w k < tT T
    · rw [if_pos q, if_neg (show ¬ (1 : Int32) = 0 by decide)]
      by_cases q2 : tk / 2 ^ dg 4 K w k % 2 = 0
      · rw [if_neg (fun z => (b4.mp z) q2), if_pos ⟨q, q2⟩, b2, c4, nI_add, rx_gd_in (vp_in_nI (show 4 * k + dg 4 K w k < 12 by omega) (by decide)), nI_clamp (by omega), h132 k _ (by omega) q, nI_add, nI_1]
        exact ih f (k + 1) _ _ (by omega) (by omega) b3
      · rw [if_pos (b4.mpr q2), if_neg (fun z => q2 z.2)]
        rfl
    · rw [if_neg q, if_pos rfl, if_neg (fun z => q z.1)]
      rfl
def acM (a : Option (Nat × Nat)) (S : rx_S) : Prop := match a with | some a => S.1 94 57 = nI a.1 ∧ S.1 94 56 = nI a.2 | none => S.1 94 57 = -1
theorem fh129_L (hN : 5000 ≤ N) {S : rx_S} (hF : WF T) (hT : TM N T S) {K : Nat} {l : Nat → Nat → Nat} (hl : ∀ k i, l k i ≤ 10) (hK : K < 4) : ∀ (m f w : Nat) (S1 : rx_S), w + m = 4 ^ K → m < f → hM S S1 → S1.1 94 59 = nI K → (∀ k j, k < K → j < tT T → S1.1 132 (4 * k + j) = nI (l k j)) → acM (fr (fun w => vl l (dg 4 K w) (tT T) K 0 0 0) w) S1 → pk (f_X11_fillsHire_L129 N f (nI w) S1) (fun _ S' => hM S S' ∧ S'.1 94 59 = nI K ∧ S'.1 131 = S1.1 131 ∧ acM (fr (fun w => vl l (dg 4 K w) (tT T) K 0 0 0) (4 ^ K)) S') := by
  intro m
  have hp := (hd_pow K hK 4 (by decide)).1
  have hb : ∀ w a, fr (fun w => vl l (dg 4 K w) (tT T) K 0 0 0) w = some a → a.1 < w ∧ a.2 ≤ 30 := fun w a h => by
    have h1 := fr_ok w a h
    have := vl_le hl K 0 0 0 _ h1.2
    exact ⟨h1.1, by omega⟩
  induction m with
  | zero =>
    intro f w S1 hw hf hs h59 h132 hac
    obtain ⟨f, rfl⟩ : ∃ q, f = q + 1 := ⟨f - 1, by omega⟩
    rw [f_X11_fillsHire_L129, h59, fours_eq hN (by omega), bd_some, if_pos (nI_le (by omega) (by omega)), pk_some]
    have : w = 4 ^ K := by omega
    rw [this] at hac
    exact ⟨hs, h59, rfl, hac⟩
  | succ m ih =>
    intro f w S1 hw hf hs h59 h132 hac
    obtain ⟨f, rfl⟩ : ∃ q, f = q + 1 := ⟨f - 1, by omega⟩
    have es : f_X11_sumBy N (nI w) S1 = _ := sb7_L (N := N) (S := S1) (K := K) (w := w) (l := l) hN hF (hT.ag hs.i.ag) hK (by omega) h59 h132 K N 0 0 0 (by omega) (by omega) (by omega)
    rw [f_X11_fillsHire_L129, h59, fours_eq hN (by omega), bd_some, if_neg (nI_ge (by omega) (by omega)), es, bd_some]
    have hst : fr (fun w => vl l (dg 4 K w) (tT T) K 0 0 0) (w + 1) = fstep (fun w => vl l (dg 4 K w) (tT T) K 0 0 0) (fr (fun w => vl l (dg 4 K w) (tT T) K 0 0 0) w) w := rfl
    have skip : fr (fun w => vl l (dg 4 K w) (tT T) K 0 0 0) (w + 1) = fr (fun w => vl l (dg 4 K w) (tT T) K 0 0 0) w → pk (f_X11_fillsHire_L129 N f (nI (w + 1)) S1) (fun _ S' => hM S S' ∧ S'.1 94 59 = nI K ∧ S'.1 131 = S1.1 131 ∧ acM (fr (fun w => vl l (dg 4 K w) (tT T) K 0 0 0) (4 ^ K)) S') := fun e => ih f (w + 1) S1 (by omega) (by omega) hs h59 h132 (by rw [e]; exact hac)
    have take : ∀ s : Nat, fr (fun w => vl l (dg 4 K w) (tT T) K 0 0 0) (w + 1) = some (w, s) → pk (rx_let (rx_ui S1 94 56 (nI s)) (fun S22 => rx_let (rx_ui S22 94 57 (nI w)) (fun S23 => rx_let (nI w + 1) (fun x24 => f_X11_fillsHire_L129 N f x24 S23)))) (fun _ S' => hM S S' ∧ S'.1 94 59 = nI K ∧ S'.1 131 = S1.1 131 ∧ acM (fr (fun w => vl l (dg 4 K w) (tT T) K 0 0 0) (4 ^ K)) S') := fun s e => by
      rw [pk_let, pk_let, pk_let, nI_1]
      refine pk_mono (ih f (w + 1) _ (by omega) (by omega) ((hs.tr (hM.u9 (by omega))).tr (hM.u9 (by omega))) ?_ ?_ ?_) (fun _ S' h' => ⟨h'.1, h'.2.1, ?_, h'.2.2.2⟩)
      · rw [ui_same, upd_ne (by decide), ui_same, upd_ne (by decide)]; exact h59
      · intro k j hk hj; rw [ui_row (by decide), ui_row (by decide)]; exact h132 k j hk hj
      · rw [e]
        show _ ∧ _
        rw [ui_same, upd_at, upd_ne (by decide), ui_same, upd_at]
        exact ⟨rfl, rfl⟩
      · rw [h'.2.2.1, ui_row (by decide), ui_row (by decide)]
    unfold fstep at hst
    dsimp only at hst
    cases e1 : vl l (dg 4 K w) (tT T) K 0 0 0 with
    | none =>
      rw [e1] at hst
      rw [if_pos (show lv2 none < 0 by decide), pk_let, nI_1]
      exact skip hst
    | some s =>
      have hs30 := vl_le hl K 0 0 0 s e1
      rw [e1] at hst
      rw [if_neg (show ¬ lv2 (some s) < 0 from nI_pos (by omega)), pk_let]
      cases e2 : fr (fun w => vl l (dg 4 K w) (tT T) K 0 0 0) w with
      | none =>
        rw [e2] at hst hac
        have hac : S1.1 94 57 = -1 := hac
        rw [hac, if_pos (by decide)]
        exact take s hst
      | some a =>
        rw [e2] at hst hac
        obtain ⟨a1, a2⟩ : S1.1 94 57 = nI a.1 ∧ S1.1 94 56 = nI a.2 := hac
        have hba := hb w a e2
        rw [a1, a2, if_neg (nI_pos (by omega))]
        simp only at hst
        by_cases q : a.2 ≤ s
        · rw [if_pos q] at hst
          rw [if_neg (show ¬ lv2 (some s) < nI a.2 from nI_nlt q (by omega)), pk_let, nI_1]
          exact skip (by rw [hst, e2])
        · rw [if_neg q] at hst
          rw [if_pos (show lv2 (some s) < nI a.2 from nI_lt (by omega) (by omega))]
          exact take s hst
theorem fh52_L (hN : 5000 ≤ N) {S : rx_S} (hF : WF T) (hT : TM N T S) {k v : Nat} {y : Int32} (hv : okr v) (hk : k < 3) (h59 : S.1 94 59 = nI k) {Q : Unit → rx_S → Prop} {K : Int32 → rx_S → Option (Unit × rx_S)} (kk : ∀ S', hM S S' → S'.1 94 59 = nI k → S'.1 131 = S.1 131 → (∀ j, j < tT T → S'.1 132 (4 * k + j) = nI (alt v (put T (S.1 127) j v))) → (∀ j, j < 4 * k → S'.1 132 j = S.1 132 j) → pk (K y S') Q) : ∀ (m f i : Nat) (S1 : rx_S), i + m = tT T → m < f → hM S S1 → S1.1 94 59 = nI k → S1.1 131 = S.1 131 → (∀ j, j < i → S1.1 132 (4 * k + j) = nI (alt v (put T (S.1 127) j v))) → (∀ j, j < 4 * k → S1.1 132 j = S.1 132 j) → pk (f_X11_fillsHire_L52 N K f y (nI v) (nI i) S1) Q := by
  intro m
  have h4 := hF.2.2.1
  induction m with
  | zero =>
    intro f i S1 hi hf hs h59 h131 h1 h2
    obtain ⟨f, rfl⟩ : ∃ q, f = q + 1 := ⟨f - 1, by omega⟩
    have : i = tT T := by omega
    subst this
    obtain ⟨lv, hlv, t⟩ := (hT.ag hs.i.ag).1
    rw [f_X11_fillsHire_L52, t.1, pk_gdn hlv (by decide), nI_clamp (by omega), t.2.2.2.1, if_pos (nI_le (Nat.le_refl _) (by omega))]
    exact kk S1 hs h59 h131 h1 h2
  | succ m ih =>
    intro f i S1 hi hf hs h59 h131 h1 h2
    obtain ⟨f, rfl⟩ : ∃ q, f = q + 1 := ⟨f - 1, by omega⟩
    have hT1 := hT.ag hs.i.ag
    obtain ⟨lv, hlv, t⟩ := hT1.1
    have c4 : (4 : Int32) * nI k = nI (4 * k) := nI_mul 4 k
    rw [f_X11_fillsHire_L52, t.1, pk_gdn hlv (by decide), nI_clamp (by omega), t.2.2.2.1, if_neg (nI_ge (by omega) (by omega))]
    refine pk_bdm (putN_ok hN hF hT1 (show i < tT T by omega) hv) (fun r S2 g2 => ?_)
    rw [g2.1, hs.s7]
    refine pk_bdm (altered_ok hN hv (put_ok _ _ _ _)) (fun r S3 g3 => ?_)
    have hs3 := (hs.tr g2.2.h).tr g3.2.h
    have e132 : S3.1 132 = S1.1 132 := by rw [g3.2.row (by decide) (by decide) (by decide) (by decide), g2.2.row (by decide) (by decide) (by decide)]
    have e131 : S3.1 131 = S1.1 131 := by rw [g3.2.row (by decide) (by decide) (by decide) (by decide), g2.2.row (by decide) (by decide) (by decide)]
    have e59 : S3.1 94 59 = nI k := by rw [g3.2.fld (by decide) (by decide), g2.2.fld (by decide)]; exact h59
    rw [h59, c4, nI_add, pk_gdn (by omega) (by decide), pk_let, pk_let, nI_1, nI_clamp (by omega), g3.1]
    refine ih f (i + 1) _ (by omega) (by omega) (hs3.tr hM.u2) ?_ ?_ (fun j hj => ?_) (fun j hj => ?_)
    · rw [ui_row (by decide)]; exact e59
    · rw [ui_row (by decide), e131]; exact h131
    · rw [ui_same, e132]
      by_cases e : j = i
      · rw [e, upd_at]
      · rw [upd_ne (by omega)]; exact h1 j (by omega)
    · rw [ui_same, e132, upd_ne (by omega)]; exact h2 j hj
theorem fh11_L (hN : 5000 ≤ N) {S : rx_S} (hF : WF T) (hT : TM N T S) (hw0 : w0 < 2 ^ 31) (hW : WS T w0 (S.1 127)) {Q : Unit → rx_S → Prop} {K : rx_S → Option (Unit × rx_S)} (kk : ∀ S', hM S S' → S'.1 94 59 = nI (nt (S.1 127) (tC T)) → (∀ k, k < nt (S.1 127) (tC T) → S'.1 131 k = nI (cl (S.1 127) (tC T) k)) → (∀ k j, k < nt (S.1 127) (tC T) → j < tT T → S'.1 132 (4 * k + j) = nI (lo T (S.1 127) k j)) → pk (K S') Q) : ∀ (m f c : Nat) (S1 : rx_S), c + m = tC T → m < f → hM S S1 → S1.1 94 59 = nI (nt (S.1 127) c) → (∀ k, k < nt (S.1 127) c → S1.1 131 k = nI (cl (S.1 127) (tC T) k)) → (∀ k j, k < nt (S.1 127) c → j < tT T → S1.1 132 (4 * k + j) = nI (lo T (S.1 127) k j)) → pk (f_X11_fillsHire_L11 N K f (nI c) S1) Q := by
  intro m
  have h3 := hF.2.1
  have h4 := hF.2.2.1
  induction m with
  | zero =>
    intro f c S1 hc hf hs h59 h131 h132
    obtain ⟨f, rfl⟩ : ∃ q, f = q + 1 := ⟨f - 1, by omega⟩
    have : c = tC T := by omega
    subst this
    obtain ⟨lv, hlv, t⟩ := (hT.ag hs.i.ag).1
    rw [f_X11_fillsHire_L11, t.1, pk_gdn hlv (by decide), nI_clamp (by omega), t.2.2.1, if_pos (nI_le (Nat.le_refl _) (by omega))]
    exact kk S1 hs h59 h131 h132
  | succ m ih =>
    intro f c S1 hc hf hs h59 h131 h132
    obtain ⟨f, rfl⟩ : ∃ q, f = q + 1 := ⟨f - 1, by omega⟩
    have hT1 := hT.ag hs.i.ag
    obtain ⟨lv, hlv, t⟩ := hT1.1
    have c15 : (15 : Int32) + nI c = nI (15 + c) := nI_add 15 c
    have hcc : c < tC T := by omega
    have hnt := nt_le (S.1 127) c
    rw [f_X11_fillsHire_L11, t.1, pk_gdn hlv (by decide), nI_clamp (by omega), t.2.2.1, if_neg (nI_ge (by omega) (by omega)), c15, pk_gdn (by omega) (by decide), nI_clamp (by omega), hs.s7]
    by_cases z : S.1 127 (15 + c) = 1
    · rw [if_pos z, pk_let, nI_1]
      have en : nt (S.1 127) (c + 1) = nt (S.1 127) c := by rw [nt, if_pos z]
      rw [← en] at h59 h131 h132
      exact ih f (c + 1) S1 (by omega) (by omega) hs h59 h131 h132
    · rw [if_neg z, speakerOf_eq hF hT1 hw0 (by rw [hs.s7]; exact hW.wk) hcc, bd_some, hs.s7]
      have hp := wf_p hF hcc (x := par (S.1 127)) par_lt
      refine pk_bdm (saidBy_ok hN hT1 (show tP T c (par (S.1 127)) < 48 by omega)) (fun r S2 g2 => ?_)
      have hs2 := hs.tr g2.2.h
      rw [g2.1, hs.s7, pk_let]
      refine fh52_L (S := S2) (k := nt (S.1 127) c) hN hF (hT.ag hs2.i.ag) (sd_ok _ _ _) (show nt (S.1 127) c < 3 by omega) (by rw [g2.2.fld (by decide)]; exact h59) (fun S3 g3 k59 k131 g4 g5 => ?_) (tT T) N 0 S2 (by omega) (by omega) hM.rf (by rw [g2.2.fld (by decide)]; exact h59) rfl (fun j hj => absurd hj (by omega)) (fun _ _ => rfl)
      rw [k59, pk_gdn (by omega) (by decide), pk_let, pk_let, pk_let, nI_1, nI_clamp (by omega), ui_row (by decide), k59, nI_1]
      have en : nt (S.1 127) (c + 1) = nt (S.1 127) c + 1 := by rw [nt, if_neg z]
      have e131 : S2.1 131 = S1.1 131 := g2.2.row (by decide) (by decide) (by decide)
      have e132 : S2.1 132 = S1.1 132 := g2.2.row (by decide) (by decide) (by decide)
      refine ih f (c + 1) _ (by omega) (by omega) (((hs2.tr g3).tr hM.u1).tr (hM.u9 (by omega))) ?_ (fun k hk => ?_) (fun k j hk hj => ?_)
      · rw [ui_same, upd_at, en]
      · rw [ui_row (by decide), ui_same, k131, e131]
        by_cases e : k = nt (S.1 127) c
        · have hcl := cl_at (st := S.1 127) z (tC T - (c + 1))
          rw [show c + 1 + (tC T - (c + 1)) = tC T by omega] at hcl
          rw [e, upd_at, hcl]
        · rw [upd_ne e]; exact h131 k (by omega)
      · rw [ui_row (by decide), ui_row (by decide)]
        by_cases e : k = nt (S.1 127) c
        · rw [e, g4 j hj, lo_nt hcc z, hs2.s7]
          rfl
        · rw [g5 _ (by omega), e132]
          exact h132 k j (by omega) hj
theorem hr41_L {S : rx_S} {K c : Nat} {g : Nat → Nat} (hK : K < 4) (hc : c < 3) (h59 : S.1 94 59 = nI K) (h131 : ∀ k, k < K → S.1 131 k = nI (g k) ∧ g k < 3) {KK : Int32 → rx_S → Option (Int32 × rx_S)} {R : Option (Int32 × rx_S)} (hno : (∀ k, k < K → g k ≠ c) → R = some (-2, S)) (hyes : ∀ k, k < K → g k = c → R = KK (nI k) S) : ∀ (m f k : Nat), k + m = K → m < f → (∀ j, j < k → g j ≠ c) → f_X11_hires_L41 N KK f (nI c) (nI k) S = R := by
  intro m
  induction m with
  | zero =>
    intro f k hk hf hj
    obtain ⟨f, rfl⟩ : ∃ q, f = q + 1 := ⟨f - 1, by omega⟩
    rw [f_X11_hires_L41, h59, if_pos (nI_le (by omega) (by omega))]
    exact (hno (fun j h => hj j (by omega))).symm
  | succ m ih =>
    intro f k hk hf hj
    obtain ⟨f, rfl⟩ : ∃ q, f = q + 1 := ⟨f - 1, by omega⟩
    obtain ⟨e, hg⟩ := h131 k (by omega)
    have hq : nI (g k) = nI c ↔ g k = c := nI_eq (by omega) (by omega)
    rw [f_X11_hires_L41, h59, if_neg (nI_ge (by omega) (by omega)), rx_gd_in (vp_in_nI (show k < 3 by omega) (by decide)), nI_clamp (by omega), e]
    simp only [rx_let, nI_1]
    by_cases q : g k = c
    · rw [if_pos (hq.mpr q)]
      exact (hyes k (by omega) q).symm
    · rw [if_neg (fun z => q (hq.mp z))]
      refine ih f (k + 1) (by omega) (by omega) (fun j h => ?_)
      by_cases e : j = k
      · rw [e]; exact q
      · exact hj j (by omega)
theorem fh_ok (hN : 5000 ≤ N) (hF : WF T) (hM0 : TM N T SM) {S1 : rx_S} (e3 : f_X11_copies N SM = some ((), S1)) (hc : cM T SM S1) (hw0 : w0 < 2 ^ 31) (hW : WS T w0 (S1.1 127)) : pk (f_X11_fillsHire N SM) (fun _ S' => hM S1 S' ∧ S'.1 94 59 = nI (nt (S1.1 127) (tC T)) ∧ (∀ k, k < nt (S1.1 127) (tC T) → S'.1 131 k = nI (cl (S1.1 127) (tC T) k)) ∧ acM (fr (fun w => vl (lo T (S1.1 127)) (dg 4 (nt (S1.1 127) (tC T)) w) (tT T) (nt (S1.1 127) (tC T)) 0 0 0) (4 ^ nt (S1.1 127) (tC T))) S') := by
  have h3 := hF.2.1
  have hnt := nt_le (S1.1 127) (tC T)
  unfold f_X11_fillsHire
  rw [e3, bd_some, pk_let, pk_let]
  have hu : hM S1 (rx_ui S1 94 59 0) := hM.u9 (by omega)
  have e127 : (rx_ui S1 94 59 0).1 127 = S1.1 127 := ui_row (by decide)
  have hT1 := hM0.ag hc.i.ag
  refine fh11_L (S := S1) hN hF hT1 hw0 hW (fun S2 h2 k59 k131 k132 => ?_) (tC T) N 0 _ (by omega) (by omega) hu ?_ (fun k hk => absurd hk (Nat.not_lt_zero _)) (fun k j hk => absurd hk (Nat.not_lt_zero _))
  · rw [pk_let]
    refine pk_mono (fh129_L (S := S1) (K := nt (S1.1 127) (tC T)) (l := lo T (S1.1 127)) hN hF hT1 lo_le (by omega) (4 ^ nt (S1.1 127) (tC T)) N 0 _ (by omega) (by have := (hd_pow (nt (S1.1 127) (tC T)) (by omega) 4 (by decide)).1; omega) (h2.tr (hM.u9 (by omega))) ?_ (fun k j hk hj => ?_) ?_) (fun _ S3 h3' => ⟨h3'.1, h3'.2.1, fun k hk => ?_, h3'.2.2.2⟩)
    · rw [ui_same, upd_ne (by decide)]; exact k59
    · rw [ui_row (by decide)]; exact k132 k j hk hj
    · show (rx_ui S2 94 57 (-1)).1 94 57 = -1
      rw [ui_same, upd_at]
    · rw [h3'.2.2.1, ui_row (by decide)]; exact k131 k hk
  · rw [ui_same, upd_at]; rfl
theorem st_hires (hN : 5000 ≤ N) : ST_hires N (Inv N) := by
  intro n SC SM hn h x1
  obtain ⟨-, -, -, -, -, T, ⟨hF, hC', hM0⟩, ⟨hR, w, hw, hW⟩, -, -⟩ := id h
  have h3 := hF.2.1
  have h4 := hF.2.2.1
  obtain ⟨u, S1, e3, hc⟩ := copies_ok hN hM0
  have hc : cM T SM S1 := hc
  have hR1 := hc.st hR
  have hW1 := hc.ws hW
  have hnt := nt_le (S1.1 127) (tC T)
  unfold f_X10_hires f_X11_hires
  simp only [rx_let]
  have core : (x1 = -1 ∨ ∃ c, c < tC T ∧ x1 = nI c) → ∃ r SC' SM', rx_bd (f_X6_bestHire N x1 SC) (fun x6 S5 => some (x6, S5)) = some (r, SC') ∧ rx_bd (f_X11_fillsHire N SM) (fun x6 S5 => if (0 : Int32) ≤ (S5.1 94 57) then (if x1 = (-1) then (some ((S5.1 94 56), S5)) else (f_X11_hires_L41 N (fun x10 S11 => rx_bd (f_X11_fours N (((S11.1 94 59) - 1) - x10) S11) (fun x13 S12 => rx_nz x13 (some ((rx_rem ((S11.1 94 57) / x13) 4), S12)))) N x1 0 S5)) else (some ((-2), S5))) = some (r, SM') ∧ Inv N (n + 1) SC' SM' := by
    intro hx
    refine st_q (R := hrA T (S1.1 127) x1) h ?_ ?_
    · refine pk_bdm (bh_ok hN hF hC' hR1 (w0 := w) (by omega) hW1 hx) (fun r S2 h2 => ?_)
      rw [pk_some]
      exact ⟨h2.1, h2.2.i⟩
    · refine pk_bdm (fh_ok hN hF hM0 e3 hc (w0 := w) (by omega) hW1) (fun _ S2 h2 => ?_)
      obtain ⟨hs2, k59, k131, hac⟩ := h2
      have hsm : iM SM S2 := hc.i.tr hs2.i
      unfold hrA
      rw [hire_same (by omega) (by omega)] at hac
      cases ef : fr (fun w => vl (lo T (S1.1 127)) (dg (tT T) (nt (S1.1 127) (tC T)) w) (tT T) (nt (S1.1 127) (tC T)) 0 0 0) (tT T ^ nt (S1.1 127) (tC T)) with
      | none =>
        rw [ef] at hac
        have hac : S2.1 94 57 = -1 := hac
        rw [hac, if_neg (by decide), pk_some]
        exact ⟨rfl, hsm⟩
      | some a =>
        rw [ef] at hac
        obtain ⟨a1, a2⟩ : S2.1 94 57 = nI (rr (tT T) (nt (S1.1 127) (tC T)) a.1) ∧ S2.1 94 56 = nI a.2 := hac
        have ha := fr_ok _ _ ef
        have hKt : nt (S1.1 127) (tC T) ≤ tT T := Classical.byContradiction (fun z => by
          rw [hire_lt (by omega) (by omega)] at ef
          cases ef)
        have hmem : rr (tT T) (nt (S1.1 127) (tC T)) a.1 < 4 ^ nt (S1.1 127) (tC T) := by
          have h1 : rr (tT T) (nt (S1.1 127) (tC T)) a.1 ∈ (List.range (tT T ^ nt (S1.1 127) (tC T))).map (rr (tT T) (nt (S1.1 127) (tC T))) := List.mem_map_of_mem (List.mem_range.mpr ha.1)
          rw [← hd_map _ (by omega) _ (by omega)] at h1
          exact List.mem_range.mp (List.mem_filter.mp h1).1
        have hp64 := (hd_pow (nt (S1.1 127) (tC T)) (by omega) (tT T) (by omega)).2
        rw [a1, if_pos (nI_pos' (by omega))]
        simp only
        rw [if_pos hKt]
        rcases hx with rfl | ⟨c, hcc, rfl⟩
        · rw [if_pos rfl, if_pos rfl, pk_some, a2]
          exact ⟨rfl, hsm⟩
        · have hn1 : ∀ k : Nat, k < 3 → ¬ nI k = -1 := by decide
          have hnc := hn1 c (by omega)
          simp only [if_neg hnc]
          rw [nI_clamp (by omega)]
          by_cases z : S1.1 127 (15 + c) = 1
          · rw [if_pos z]
            have e := hr41_L (N := N) (S := S2) (K := nt (S1.1 127) (tC T)) (c := c) (g := cl (S1.1 127) (tC T)) (by omega) (by omega) k59 (fun k hk => ⟨k131 k hk, by have := cl_ok (st := S1.1 127) (tC T) k hk; omega⟩) (KK := fun x10 S11 => rx_bd (f_X11_fours N (((S11.1 94 59) - 1) - x10) S11) (fun x13 S12 => rx_nz x13 (some ((rx_rem ((S11.1 94 57) / x13) 4), S12)))) (R := some (-2, S2)) (fun _ => rfl) (fun k hk hg => by
              have := (cl_ok (st := S1.1 127) (tC T) k hk).2.1
              rw [hg] at this
              exact absurd z this) (nt (S1.1 127) (tC T)) N 0 (by omega) (by omega) (fun j hj => absurd hj (by omega))
            have e : f_X11_hires_L41 N _ N (nI c) 0 S2 = some (-2, S2) := e
            rw [e, pk_some]
            exact ⟨rfl, hsm⟩
          · rw [if_neg z]
            have hlt : nt (S1.1 127) c < nt (S1.1 127) (tC T) := by
              have h5 := nt_mono (st := S1.1 127) (c := c + 1) (tC T - (c + 1))
              rw [show c + 1 + (tC T - (c + 1)) = tC T by omega] at h5
              have : nt (S1.1 127) (c + 1) = nt (S1.1 127) c + 1 := by rw [nt, if_neg z]
              omega
            have hclc : cl (S1.1 127) (tC T) (nt (S1.1 127) c) = c := by
              have := cl_at (st := S1.1 127) z (tC T - (c + 1))
              rw [show c + 1 + (tC T - (c + 1)) = tC T by omega] at this
              exact this
            have e := hr41_L (N := N) (S := S2) (K := nt (S1.1 127) (tC T)) (c := c) (g := cl (S1.1 127) (tC T)) (by omega) (by omega) k59 (fun k hk => ⟨k131 k hk, by have := cl_ok (st := S1.1 127) (tC T) k hk; omega⟩) (KK := fun x10 S11 => rx_bd (f_X11_fours N (((S11.1 94 59) - 1) - x10) S11) (fun x13 S12 => rx_nz x13 (some ((rx_rem ((S11.1 94 57) / x13) 4), S12)))) (R := some (nI (dg (tT T) (nt (S1.1 127) (tC T)) a.1 (nt (S1.1 127) c)), S2)) (fun hno => absurd hclc (hno _ hlt)) (fun k hk hg => by
              have ek : k = nt (S1.1 127) c := by
                have := (cl_ok (st := S1.1 127) (tC T) k hk).2.2
                rw [hg] at this
                exact this.symm
              subst ek
              have e1 : nI (nt (S1.1 127) (tC T)) - 1 - nI (nt (S1.1 127) c) = nI (nt (S1.1 127) (tC T) - 1 - nt (S1.1 127) c) := by
                have : nI (nt (S1.1 127) (tC T)) - 1 = nI (nt (S1.1 127) (tC T) - 1) := nI_sub (b := 1) (by omega)
                rw [this, nI_sub (by omega)]
              have hpp : 0 < 4 ^ (nt (S1.1 127) (tC T) - 1 - nt (S1.1 127) c) := Nat.pow_pos (by decide)
              have hp2 : 4 ^ (nt (S1.1 127) (tC T) - 1 - nt (S1.1 127) c) ≤ 4 ^ 4 := Nat.pow_le_pow_right (by decide) (by omega)
              have hq : rr (tT T) (nt (S1.1 127) (tC T)) a.1 / 4 ^ (nt (S1.1 127) (tC T) - 1 - nt (S1.1 127) c) ≤ rr (tT T) (nt (S1.1 127) (tC T)) a.1 := Nat.div_le_self _ _
              have er : rx_rem (nI (rr (tT T) (nt (S1.1 127) (tC T)) a.1 / 4 ^ (nt (S1.1 127) (tC T) - 1 - nt (S1.1 127) c))) 4 = nI (dg 4 (nt (S1.1 127) (tC T)) (rr (tT T) (nt (S1.1 127) (tC T)) a.1) (nt (S1.1 127) c)) := nI_rem (b := 4) (by omega) (by decide)
              rw [k59, e1, fours_eq hN (by omega), bd_some, rx_nz_in (nI_ne0 hpp (by omega)), a1, nI_div (by omega) (by omega), er, hd_dig _ (by omega) _ (by omega) _ ha.1 _ hlt]) (nt (S1.1 127) (tC T)) N 0 (by omega) (by omega) (fun j hj => absurd hj (by omega))
            have e : f_X11_hires_L41 N _ N (nI c) 0 S2 = some (nI (dg (tT T) (nt (S1.1 127) (tC T)) a.1 (nt (S1.1 127) c)), S2) := e
            rw [e, pk_some]
            exact ⟨rfl, hsm⟩
  by_cases q : x1 = -1
  · rw [if_pos q, if_pos q]
    exact core (Or.inl q)
  · rw [if_neg q, if_neg q]
    rcases couple_cases hF hC' hM0 x1 with ⟨c, hcc, rfl, f1, f2⟩ | ⟨f1, f2⟩
    · rw [f1, bd_some, if_neg (show ¬ (1 : Int32) = 0 by decide), f2, bd_some, if_neg (show ¬ (1 : Int32) = 0 by decide)]
      exact core (Or.inr ⟨c, hcc, rfl⟩)
    · rw [f1, bd_some, if_pos rfl, f2, bd_some, if_pos rfl]
      exact st_q (R := -1) h (by rw [pk_some]; exact ⟨rfl, iC.rf⟩) (by rw [pk_some]; exact ⟨rfl, iM.rf⟩)
end OPL
