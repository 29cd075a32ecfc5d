/-! ===== the week, as both sides compute it ===== -/
def par (st : Nat → Int32) : Nat := (st 44).toNatClampNeg % 2
def drb (T : tx) (st : Nat → Int32) (i c : Nat) (seed : Int32) : Nat → Bool := fun j => decide (lot seed ((((256 : Int32) * (st 44)) + ((64 : Int32) * nI i)) + ((8 : Int32) * nI c) + nI j) < drp T st i)
def tkU (st : Nat → Int32) (b c i n m : Nat) (mo lv pr fi : Int32) (q : Bool) : Nat → Int32 :=
  let s1 := upd st b mo
  let s2 := upd s1 (6 + b) (s1 (6 + b) + nI m)
  let s3 := upd s2 (18 + c) (s2 (18 + c) + nI n * pr)
  let s4 := upd s3 (36 + i) (s3 (36 + i) + nI n * pr)
  let s5 := upd s4 (24 + i) (hld (s4 (24 + i) + nI n) 0 99)
  let s6 := upd s5 (28 + i) (hld (s5 (28 + i) + lv) 0 99)
  let s7 := upd s6 45 (s6 45 + nI n)
  let s8 := upd s7 46 (s7 46 + nI m)
  if s8 (32 + i) = 0 ∨ q = true then s8 else
  let s9 := upd s8 (40 + i) (s8 (40 + i) + 1)
  upd s9 (36 + i) (s9 (36 + i) - fi)
def tkV (T : tx) (st : Nat → Int32) (c : Nat) : Nat := sd T st (tP T c (par st))
def tkP (T : tx) (seed : Int32) (st : Nat → Int32) (c i : Nat) : Nat := cr T st i (tkV T st c) (rl (tkV T st c)) (drb T st i c seed) (rl (tkV T st c))
def tkL (T : tx) (st : Nat → Int32) (c i : Nat) : Int32 := hld (tL T 5 0 0 (st (tP T c (par st))) (st (24 + i)) (st (28 + i)) (nI c) (st 44) 0 0) 0 9
def tk (T : tx) (seed : Int32) (st : Nat → Int32) (c i : Nat) : Nat → Int32 :=
  tkU st (tP T c (1 - par st)) c i (rl (tkV T st c)) (rl (tkP T seed st c i)) (mood T st (tP T c (1 - par st)) (tkP T seed st c i)) (tkL T st c i) (tR T i) (tF T) (decide (tkP T seed st c i = tkV T st c))
def dec1 (st : Nat → Int32) (a : Nat) : Nat → Int32 := if st a ≤ 0 then st else upd st a (st a - 1)
def slt (T : tx) (st : Nat → Int32) (c : Nat) : Nat → Int32 := dec1 (dec1 (upd st (21 + c) (st (21 + c) + 1)) (tP T c 0)) (tP T c 1)
def prt (T : tx) (st : Nat → Int32) (c : Nat) : Nat → Int32 := if st (tP T c 0) ≤ 0 ∨ st (tP T c 1) ≤ 0 then upd (upd st (15 + c) 1) (12 + c) (-2) else st
def cpl (T : tx) (seed : Int32) (st : Nat → Int32) (c : Nat) : Nat → Int32 := if st (15 + c) = 1 then st else prt T (if st (12 + c) < 0 then slt T st c else tk T seed st c (st (12 + c)).toNatClampNeg) c
def cps (T : tx) (seed : Int32) (st : Nat → Int32) : Nat → Nat → Int32
  | 0 => st
  | c + 1 => cpl T seed (cps T seed st c) c
def hbs (st : Nat → Int32) (i : Nat) : Nat → Int32
  | 0 => 0
  | c + 1 => if st (12 + c) = nI i then hbs st i c ||| ((1 : Int32) <<< (nI c &&& 31)) else hbs st i c
def rs1 (T : tx) (st : Nat → Int32) (i : Nat) : Nat → Int32 := if hbs st i (tC T) = 0 then upd st (24 + i) (hld (st (24 + i) - 5) 0 99) else st
def rss (T : tx) (st : Nat → Int32) : Nat → Nat → Int32
  | 0 => st
  | i + 1 => rs1 T (rss T st i) i
def wk (T : tx) (seed : Int32) (st : Nat → Int32) : Nat → Int32 := upd (rss T (cps T seed st (tC T)) (tT T)) 44 (rss T (cps T seed st (tC T)) (tT T) 44 + 1)
def wks (T : tx) (seed : Int32) (st : Nat → Int32) : Nat → Nat → Int32
  | 0 => st
  | n + 1 => wk T seed (wks T seed st n)
/-- a state that may be -/
def wsj (T : tx) (w j : Nat) (x : Int32) : Prop := (j = 44 → x = nI w) ∧ (j < 6 → sm 99 x ∧ (tS T ≤ j → x = 0)) ∧ (12 ≤ j → j < 15 → j - 12 < tC T → x = -2 ∨ ∃ i, i < tT T ∧ x = nI i) ∧ (15 ≤ j → j < 18 → (x = 0 ∨ x = 1) ∧ (tC T ≤ j - 15 → x = 0)) ∧ (24 ≤ j → j < 32 → sm 99 x) ∧ (32 ≤ j → j < 36 → (x = 0 ∨ x = 1) ∧ (tT T ≤ j - 32 → x = 0))
def WS (T : tx) (w : Nat) (st : Nat → Int32) : Prop := ∀ j, wsj T w j (st j)
theorem upd_at {st : Nat → Int32} {j : Nat} {v : Int32} : upd st j v j = v := if_pos rfl
theorem upd_ne {st : Nat → Int32} {j k : Nat} {v : Int32} (h : k ≠ j) : upd st j v k = st k := if_neg h
theorem WS.up {T : tx} {w j : Nat} {st : Nat → Int32} {v : Int32} (h : WS T w st) (hv : wsj T w j v) : WS T w (upd st j v) := by
  intro k
  by_cases e : k = j
  · subst e
    rw [upd_at]
    exact hv
  · rw [upd_ne e]
    exact h k
section WSP
variable {T : tx} {w j : Nat} {v : Int32}
theorem wsj_any (hj : (6 ≤ j ∧ j < 12) ∨ (18 ≤ j ∧ j < 24) ∨ (36 ≤ j ∧ j < 44) ∨ 45 ≤ j) : wsj T w j v := ⟨fun _ => by omega, fun _ => by omega, fun _ _ _ => by omega, fun _ _ => by omega, fun _ _ => by omega, fun _ _ => by omega⟩
theorem wsj_mood (hj : j < 6) (h2 : j < tS T) (hv : sm 99 v) : wsj T w j v := ⟨fun _ => by omega, fun _ => ⟨hv, fun _ => by omega⟩, fun _ _ _ => by omega, fun _ _ => by omega, fun _ _ => by omega, fun _ _ => by omega⟩
theorem wsj_hire {c : Nat} (hc : c < 3) (h : v = -2 ∨ ∃ i, i < tT T ∧ v = nI i) : wsj T w (12 + c) v := ⟨fun _ => by omega, fun _ => by omega, fun _ _ _ => h, fun _ _ => by omega, fun _ _ => by omega, fun _ _ => by omega⟩
theorem wsj_part {c : Nat} (hc : c < 3) (h2 : c < tC T) (h : v = 0 ∨ v = 1) : wsj T w (15 + c) v := ⟨fun _ => by omega, fun _ => by omega, fun _ _ _ => by omega, fun _ _ => ⟨h, fun _ => by omega⟩, fun _ _ => by omega, fun _ _ => by omega⟩
theorem wsj_tir (hj : 24 ≤ j ∧ j < 32) (hv : sm 99 v) : wsj T w j v := ⟨fun _ => by omega, fun _ => by omega, fun _ _ _ => by omega, fun _ _ => by omega, fun _ _ => hv, fun _ _ => by omega⟩
theorem wsj_sw {i : Nat} (hi : i < 4) (h2 : i < tT T) (h : v = 0 ∨ v = 1) : wsj T w (32 + i) v := ⟨fun _ => by omega, fun _ => by omega, fun _ _ _ => by omega, fun _ _ => by omega, fun _ _ => by omega, fun _ _ => ⟨h, fun _ => by omega⟩⟩
variable {st : Nat → Int32}
theorem WS.wk (h : WS T w st) : st 44 = nI w := (h 44).1 rfl
theorem WS.mood (h : WS T w st) {a : Nat} (ha : a < 6) : sm 99 (st a) := ((h a).2.1 ha).1
theorem WS.mood0 (h : WS T w st) {a : Nat} (ha : a < 6) (h2 : tS T ≤ a) : st a = 0 := ((h a).2.1 ha).2 h2
theorem WS.hire (h : WS T w st) {c : Nat} (hc : c < 3) (h2 : c < tC T) : st (12 + c) = -2 ∨ ∃ i, i < tT T ∧ st (12 + c) = nI i := (h (12 + c)).2.2.1 (by omega) (by omega) (by omega)
theorem WS.part (h : WS T w st) {c : Nat} (hc : c < 3) : st (15 + c) = 0 ∨ st (15 + c) = 1 := ((h (15 + c)).2.2.2.1 (by omega) (by omega)).1
theorem WS.part0 (h : WS T w st) {c : Nat} (hc : c < 3) (h2 : tC T ≤ c) : st (15 + c) = 0 := ((h (15 + c)).2.2.2.1 (by omega) (by omega)).2 (by omega)
theorem WS.tir (h : WS T w st) {i : Nat} (hi : i < 4) : sm 99 (st (24 + i)) := (h (24 + i)).2.2.2.2.1 (by omega) (by omega)
theorem WS.lov (h : WS T w st) {i : Nat} (hi : i < 4) : sm 99 (st (28 + i)) := (h (28 + i)).2.2.2.2.1 (by omega) (by omega)
theorem WS.sw (h : WS T w st) {i : Nat} (hi : i < 4) : st (32 + i) = 0 ∨ st (32 + i) = 1 := ((h (32 + i)).2.2.2.2.2 (by omega) (by omega)).1
theorem WS.sw0 (h : WS T w st) {i : Nat} (hi : i < 4) (h2 : tT T ≤ i) : st (32 + i) = 0 := ((h (32 + i)).2.2.2.2.2 (by omega) (by omega)).2 (by omega)
theorem hld99 {x : Int32} : sm 99 (hld x 0 99) := hld_sm (b := 99) (by decide)
theorem sm_pred {x : Int32} (h : sm 99 x) (h2 : ¬ x ≤ 0) : sm 99 (x - 1) := by
  obtain ⟨n, hn, rfl⟩ := h
  have h3 : 0 < n := by
    rcases Nat.eq_zero_or_pos n with e | e
    · subst e
      exact absurd (by decide) h2
    · exact e
  exact ⟨n - 1, by omega, nI_sub (b := 1) (by omega)⟩
theorem ws_tkU (h : WS T w st) {b c i n m : Nat} {mo lv pr fi : Int32} {q : Bool} (hb : b < 6) (hb2 : b < tS T) (hc : c < 3) (hi : i < 4) (hmo : sm 99 mo) : WS T w (tkU st b c i n m mo lv pr fi q) := by
  unfold tkU
  dsimp only
  split
  · exact (((((((h.up (wsj_mood hb hb2 hmo)).up (wsj_any (by omega))).up (wsj_any (by omega))).up (wsj_any (by omega))).up (wsj_tir (by omega) hld99)).up (wsj_tir (by omega) hld99)).up (wsj_any (by omega))).up (wsj_any (by omega))
  · exact (((((((((h.up (wsj_mood hb hb2 hmo)).up (wsj_any (by omega))).up (wsj_any (by omega))).up (wsj_any (by omega))).up (wsj_tir (by omega) hld99)).up (wsj_tir (by omega) hld99)).up (wsj_any (by omega))).up (wsj_any (by omega))).up (wsj_any (by omega))).up (wsj_any (by omega))
theorem wf_p (hF : WF T) {c x : Nat} (hc : c < tC T) (hx : x < 2) : tP T c x < 6 ∧ tP T c x < tS T := ⟨Nat.lt_of_lt_of_le (hF.2.2.2.1 c x hc hx) hF.1, hF.2.2.2.1 c x hc hx⟩
theorem wf_c (hF : WF T) {c : Nat} (hc : c < tC T) : c < 3 := Nat.lt_of_lt_of_le hc hF.2.1
theorem wf_t (hF : WF T) {i : Nat} (hi : i < tT T) : i < 4 := Nat.lt_of_lt_of_le hi hF.2.2.1
theorem wf_s (hF : WF T) {a : Nat} (hi : a < tS T) : a < 6 := Nat.lt_of_lt_of_le hi hF.1
theorem par_lt : par st < 2 := Nat.mod_lt _ (by decide)
theorem ws_tk (hF : WF T) (h : WS T w st) {c i : Nat} {seed : Int32} (hc : c < tC T) (hi : i < tT T) : WS T w (tk T seed st c i) := by
  have hp := wf_p hF hc (x := 1 - par st) (by omega)
  exact ws_tkU h hp.1 hp.2 (wf_c hF hc) (wf_t hF hi) (md_sm (h.mood hp.1) _)
theorem ws_dec1 (h : WS T w st) {a : Nat} (ha : a < 6) (h2 : a < tS T) : WS T w (dec1 st a) := by
  unfold dec1
  split
  · exact h
  · rename_i q
    exact h.up (wsj_mood ha h2 (sm_pred (h.mood ha) q))
theorem ws_slt (hF : WF T) (h : WS T w st) {c : Nat} (hc : c < tC T) : WS T w (slt T st c) := by
  have h3 := wf_c hF hc
  have hp0 := wf_p hF hc (x := 0) (by decide)
  have hp1 := wf_p hF hc (x := 1) (by decide)
  exact ws_dec1 (ws_dec1 (h.up (wsj_any (by omega))) hp0.1 hp0.2) hp1.1 hp1.2
theorem ws_prt (hF : WF T) (h : WS T w st) {c : Nat} (hc : c < tC T) : WS T w (prt T st c) := by
  unfold prt
  split
  · exact (h.up (wsj_part (wf_c hF hc) hc (Or.inr rfl))).up (wsj_hire (wf_c hF hc) (Or.inl rfl))
  · exact h
theorem ws_hired (hF : WF T) (h : WS T w st) {c : Nat} (hc : c < tC T) (hn : ¬ st (12 + c) < 0) : ∃ i, i < tT T ∧ st (12 + c) = nI i ∧ (st (12 + c)).toNatClampNeg = i := by
  rcases h.hire (wf_c hF hc) hc with e | ⟨i, hi, e⟩
  · rw [e] at hn
    exact absurd (by decide) hn
  · exact ⟨i, hi, e, by rw [e]; exact nI_clamp (by have := wf_t hF hi; omega)⟩
theorem ws_cpl (hF : WF T) (h : WS T w st) {c : Nat} {seed : Int32} (hc : c < tC T) : WS T w (cpl T seed st c) := by
  unfold cpl
  split
  · exact h
  · refine ws_prt hF ?_ hc
    split
    · exact ws_slt hF h hc
    · rename_i hn
      obtain ⟨i, hi, e, e2⟩ := ws_hired hF h hc hn
      rw [e2]
      exact ws_tk hF h hc hi
theorem ws_cps (hF : WF T) (h : WS T w st) {seed : Int32} : ∀ c, c ≤ tC T → WS T w (cps T seed st c) := by
  intro c
  induction c with
  | zero => intro _; exact h
  | succ c ih => intro hc; exact ws_cpl hF (ih (by omega)) (by omega)
theorem ws_rs1 (h : WS T w st) {i : Nat} (hi : i < 4) : WS T w (rs1 T st i) := by
  unfold rs1
  split
  · exact h.up (wsj_tir (by omega) hld99)
  · exact h
theorem ws_rss (hF : WF T) (h : WS T w st) : ∀ i, i ≤ tT T → WS T w (rss T st i) := by
  intro i
  induction i with
  | zero => intro _; exact h
  | succ i ih => intro hi; exact ws_rs1 (ih (by omega)) (wf_t hF (by omega))
theorem ws_wk (hF : WF T) (h : WS T w st) {seed : Int32} : WS T (w + 1) (wk T seed st) := by
  have h2 := ws_rss hF (ws_cps hF h (seed := seed) (tC T) (Nat.le_refl _)) (tT T) (Nat.le_refl _)
  intro j
  by_cases e : j = 44
  · subst e
    unfold wk
    rw [upd_at, h2.wk, nI_1]
    exact ⟨fun _ => rfl, fun _ => by omega, fun _ _ _ => by omega, fun _ _ => by omega, fun _ _ => by omega, fun _ _ => by omega⟩
  · unfold wk
    rw [upd_ne e]
    exact ⟨fun q => absurd q e, (h2 j).2⟩
theorem ws_wks (hF : WF T) (h : WS T w st) {seed : Int32} : ∀ n, WS T (w + n) (wks T seed st n) := by
  intro n
  induction n with
  | zero => exact h
  | succ n ih => exact ws_wk hF ih
end WSP
