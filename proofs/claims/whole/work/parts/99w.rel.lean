/-! ===== READ 23: how both readings hang together ===== -/
def nmR (z : tks) (SC SM : rx_S) : Prop := ∀ i j, i < kN z → j < kN z → kK z i = 2 → kK z j = 2 → (SC.2 18 i = SC.2 18 j ↔ SM.2 100 i = SM.2 100 j)
def CTn (z : tks) (p nc nS : Nat) (SC SM : rx_S) : Prop := (∀ k, k < nc → ∃ g, g < p ∧ kK z g = 2 ∧ SC.2 30 k = SC.2 18 g ∧ SM.2 102 k = SM.2 100 g) ∧ (∀ k, k < nc → SC.1 31 k = SM.1 103 k ∧ (SM.1 103 k = -1 ∨ ∃ s, s < nS ∧ SM.1 103 k = nI s)) ∧ (∀ k l, k < nc → l < nc → SC.2 30 k = SC.2 30 l → k = l)
def CTs (nS nC sd : Nat) (SC SM : rx_S) : Prop := ∀ a, a < nS → SC.1 25 a = SM.1 105 (6 * sd + a) ∧ sm 99 (SC.1 25 a) ∧ SC.1 26 a = SM.1 106 (6 * sd + a) ∧ (SC.1 26 a = -2 ∨ ∃ c, c < nC ∧ SC.1 26 a = nI c)
def CTt (nT sd : Nat) (SC SM : rx_S) : Prop := ∀ i, i < nT → SC.1 28 i = SM.1 110 (4 * sd + i) ∧ sm 9 (SC.1 28 i) ∧ SC.1 29 i = SM.1 111 (4 * sd + i) ∧ sm 99 (SC.1 29 i)
def CTc (nS nC sd : Nat) (SC SM : rx_S) : Prop := ∀ c, c < nC → ∃ s t, s < nS ∧ t < nS ∧ s ≠ t ∧ SC.1 27 (2 * c) = nI s ∧ SC.1 27 (2 * c + 1) = nI t ∧ SM.1 108 (2 * (3 * sd + c)) = nI s ∧ SM.1 108 (2 * (3 * sd + c) + 1) = nI t
def CTf (sd : Nat) (SC SM : rx_S) : Prop := SC.1 19 9 = SM.1 112 sd ∧ SC.1 19 10 = SM.1 113 sd
def usT (k : Nat) : List It := if k = 0 then [(0, 2)] else if k = 1 then [(1, 1)] else if k = 2 then [(1, 0)] else [(0, 0)]
def CTl (c b cm sd : Nat) (SC SM : rx_S) : Prop := ∀ k, k < 7 → ∃ a bs t, SC.1 22 k = nI a ∧ lyC (SC.1 21) a bs t ∧ lyE a bs t ≤ c ∧ ((∃ b0, SM.1 114 (7 * sd + k) = nI b0 ∧ SM.1 115 (7 * sd + k) = nI (b0 + bs.length + 1) ∧ lyM SM sd b0 bs t ∧ b0 + bs.length + 1 ≤ b ∧ (∀ j, b0 ≤ j → j ≤ b0 + bs.length → (SM.1 120 j).toNatClampNeg ≤ cm)) ∨ (SM.1 114 (7 * sd + k) = SM.1 115 (7 * sd + k) ∧ bs = [] ∧ t = usT k))
def RD (z : tks) (sd p : Nat) (SC SM : rx_S) : Prop := ∃ nS nC nT nc c b cm m, (CF z p m nc SC ∧ SC.1 20 4 = nI c ∧ c ≤ 14 + p ∧ SC.1 19 6 = nI nS ∧ nS ≤ 6 ∧ SC.1 19 7 = nI nC ∧ nC ≤ 3 ∧ SC.1 19 8 = nI nT ∧ nT ≤ 4) ∧ (MF z p m SM ∧ LwS z sd 0 p b cm SM ∧ SM.1 104 sd = nI nS ∧ SM.1 107 sd = nI nC ∧ SM.1 109 sd = nI nT ∧ SM.1 94 20 = nI (nS + nT) ∧ nAt SM (nS + nT)) ∧ nmR z SC SM ∧ CTl c b cm sd SC SM ∧ (m.1 = 0 → nc = nS + nT ∧ CTn z p nc nS SC SM ∧ CTs nS nC sd SC SM ∧ CTt nT sd SC SM ∧ CTc nS nC sd SC SM ∧ CTf sd SC SM)
def stO (z : tks) (sd p : Nat) (SC SM : rx_S) (r : Int32) (SC' SM' : rx_S) : Prop := kCf SC SC' ∧ rdM sd SM SM' ∧ ((r = 1 ∧ ∃ q, p < q ∧ RD z sd q SC' SM') ∨ (r = 0 ∧ ∃ f q, fC z f q SC' ∧ flt z f q SM'))
theorem tkFl_det {z : tks} {p k f f' : Nat} (h : tkFl z p k f) (g : tkFl z p k f') : f = f' := by
  rcases h with ⟨h1, h2, h3⟩ | ⟨h1, h2⟩ <;> rcases g with ⟨g1, g2, g3⟩ | ⟨g1, g2⟩
  · omega
  · exact absurd h2 g2
  · exact absurd g2 h2
  · omega
theorem tkFl_ok {z : tks} {p k f : Nat} (h : tkFl z p k f) (g : kK z p = k ∧ p < 400) : False := by
  rcases h with ⟨_, _, h3⟩ | ⟨_, h2⟩
  · exact h3 g.2
  · exact h2 g.1
theorem sqF_det {z : tks} : ∀ (ks : List Nat) (p f q f' q' : Nat), sqF z p ks f q → sqF z p ks f' q' → f = f' ∧ q = q' := by
  intro ks
  induction ks with
  | nil => intro p f q f' q' h; exact h.elim
  | cons k ks ih =>
    intro p f q f' q' h g
    rcases h with ⟨h1, h2⟩ | ⟨h1, h2⟩ <;> rcases g with ⟨g1, g2⟩ | ⟨g1, g2⟩
    · exact ⟨tkFl_det h1 g1, by omega⟩
    · exact (tkFl_ok h1 g1).elim
    · exact (tkFl_ok g1 h1).elim
    · exact ih _ _ _ _ _ h2 g2
theorem sqF_T {z : tks} : ∀ (ks : List Nat) (p f q : Nat), sqF z p ks f q → sqT z p ks → False := by
  intro ks
  induction ks with
  | nil => intro p f q h; exact h.elim
  | cons k ks ih =>
    intro p f q h g
    rcases h with ⟨h1, h2⟩ | ⟨h1, h2⟩
    · exact tkFl_ok h1 g.1
    · exact ih _ _ _ h2 g.2
theorem mA_0 {m : Nat × Nat} {b : Bool} {k j : Nat} (hk : k ≠ 0) (h : (mA m b k j).1 = 0) : m.1 = 0 ∧ b = false := by
  unfold mA at h
  split at h
  · exact absurd h hk
  · rename_i q
    refine ⟨h, ?_⟩
    cases b with
    | false => rfl
    | true => exact absurd ⟨rfl, h⟩ q
theorem ff_cg {f g : Nat → Bool} : ∀ (n w : Nat), (∀ k, w ≤ k → k < w + n → f k = g k) → ff f n w = ff g n w := by
  intro n
  induction n with
  | zero => intro w _; rfl
  | succ n ih =>
    intro w h
    rw [ff, ff, h w (by omega) (by omega), ih (w + 1) (fun k h1 h2 => h k (by omega) (by omega))]
section REL
variable {z : tks} {p sd nS nC nT nc c b cm : Nat} {m : Nat × Nat} {SC SM SC' SM' : rx_S}
theorem dup_eq {x : Nat} (hF : tkF z) (hx : x < kN z) (kx : kK z x = 2) (hp : p ≤ kN z) (hR : nmR z SC SM) (h : CTn z p nc nS SC SM) : ff (nmE SC (SC.2 18 x)) nc 0 = ff (nmM SM (SM.2 100 x)) nc 0 := by
  refine ff_cg nc 0 (fun k _ h2 => ?_)
  obtain ⟨g, hg, kg, e1, e2⟩ := h.1 k (by omega)
  unfold nmE nmM
  rw [e1, e2]
  have := hR g x (by omega) hx kg kx
  by_cases q : SC.2 18 g = SC.2 18 x
  · rw [decide_eq_true q, decide_eq_true (this.mp q)]
  · rw [decide_eq_false q, decide_eq_false (fun e => q (this.mpr e))]
theorem LwS.keep {q : Nat} {m' : Nat × Nat} (h : LwS z sd 0 p b cm SM) (M : MF z q m' SM') (hq : p ≤ q) (e : ∀ j, j = 12 ∨ j = 41 ∨ j = 35 ∨ j = 19 → SM'.1 94 j = SM.1 94 j) : LwS z sd 0 q b cm SM' := by
  obtain ⟨⟨h1, h2, h3, h4, h5, h6, h7, h8, h9⟩, a1, a2, a3, a4, a5⟩ := h
  exact ⟨⟨M.1, (e 12 (by omega)).trans h2, M.2.1, (e 41 (by omega)).trans h4, M.2.2.1, by omega, h7, h8, M.2.2.2.1⟩, (e 35 (by omega)).trans a1, (e 19 (by omega)).trans a2, a3, a4, by omega⟩
theorem CTl.keep (h : CTl c b cm sd SC SM) (e1 : SC'.1 21 = SC.1 21) (e2 : SC'.1 22 = SC.1 22) (er : ∀ r, 114 ≤ r → r ≤ 122 → SM'.1 r = SM.1 r) : CTl c b cm sd SC' SM' := by
  intro k hk
  obtain ⟨a, bs, t, h1, h2, h3, h4⟩ := h k hk
  refine ⟨a, bs, t, by rw [e2]; exact h1, by rw [e1]; exact h2, h3, ?_⟩
  rw [er 114 (by decide) (by decide), er 115 (by decide) (by decide), er 120 (by decide) (by decide)]
  rcases h4 with ⟨b0, g1, g2, g3, g4, g5⟩ | g
  · exact Or.inl ⟨b0, g1, g2, lyM.eq (fun r q1 q2 j _ _ => by rw [er r (by omega) (by omega)]) (fun r q1 q2 j _ _ => by rw [er r (by omega) (by omega)]) bs t b0 g3, g4, g5⟩
  · exact Or.inr g
theorem nmR.keep (h : nmR z SC SM) (e1 : SC'.2 18 = SC.2 18) (e2 : SM'.2 100 = SM.2 100) : nmR z SC' SM' := by
  unfold nmR
  rw [e1, e2]
  exact h
theorem CTn.up {q : Nat} (h : CTn z p nc nS SC SM) (hq : p ≤ q) {nS' : Nat} (hS : nS ≤ nS') (e1 : SC'.2 30 = SC.2 30) (e2 : SC'.2 18 = SC.2 18) (e3 : SM'.2 102 = SM.2 102) (e4 : SM'.2 100 = SM.2 100) (e5 : SC'.1 31 = SC.1 31) (e6 : SM'.1 103 = SM.1 103) : CTn z q nc nS' SC' SM' := by
  refine ⟨fun k hk => ?_, fun k hk => ?_, fun k l hk hl => ?_⟩
  · obtain ⟨g, h1, h2, h3, h4⟩ := h.1 k hk
    exact ⟨g, by omega, h2, by rw [e1, e2]; exact h3, by rw [e3, e4]; exact h4⟩
  · rw [e5, e6]
    obtain ⟨h1, h2⟩ := h.2.1 k hk
    refine ⟨h1, h2.imp id (fun ⟨s, hs, e⟩ => ⟨s, by omega, e⟩)⟩
  · rw [e1]
    exact h.2.2 k l hk hl
theorem updL_at {f : Nat → Int64} {k : Nat} {x : Int64} : vp_updL f k x k = x := if_pos rfl
theorem updL_ne {f : Nat → Int64} {k j : Nat} {x : Int64} (h : j ≠ k) : vp_updL f k x j = f j := if_neg h
/-- a new name -/
theorem CTn.new {q x nS' : Nat} {v : Int32} (h : CTn z p nc nS SC SM) (hx : p ≤ x ∧ x < q) (kx : kK z x = 2) (hS : nS ≤ nS') (hnf : ff (nmE SC (SC.2 18 x)) nc 0 = none) (hv : v = -1 ∨ ∃ s, s < nS' ∧ v = nI s) (e1 : SC'.2 30 = vp_updL (SC.2 30) nc (SC.2 18 x)) (e2 : SC'.2 18 = SC.2 18) (e3 : SM'.2 102 = vp_updL (SM.2 102) nc (SM.2 100 x)) (e4 : SM'.2 100 = SM.2 100) (e5 : SC'.1 31 = upd (SC.1 31) nc v) (e6 : SM'.1 103 = upd (SM.1 103) nc v) : CTn z q (nc + 1) nS' SC' SM' := by
  have nf : ∀ k, k < nc → SC.2 30 k ≠ SC.2 18 x := fun k hk e => by
    have := ff_none nc 0 hnf k (by omega) (by omega)
    unfold nmE at this
    rw [decide_eq_true e] at this
    cases this
  refine ⟨fun k hk => ?_, fun k hk => ?_, fun k l hk hl => ?_⟩
  · by_cases e : k = nc
    · subst e
      exact ⟨x, by omega, kx, by rw [e1, e2, updL_at], by rw [e3, e4, updL_at]⟩
    · obtain ⟨g, h1, h2, h3, h4⟩ := h.1 k (by omega)
      exact ⟨g, by omega, h2, by rw [e1, e2, updL_ne e]; exact h3, by rw [e3, e4, updL_ne e]; exact h4⟩
  · rw [e5, e6]
    by_cases e : k = nc
    · subst e
      rw [upd_at, upd_at]
      exact ⟨rfl, hv⟩
    · rw [upd_ne e, upd_ne e]
      obtain ⟨h1, h2⟩ := h.2.1 k (by omega)
      exact ⟨h1, h2.imp id (fun ⟨s, hs, e⟩ => ⟨s, by omega, e⟩)⟩
  · rw [e1]
    by_cases ek : k = nc
    · by_cases el : l = nc
      · intro _; omega
      · rw [ek, updL_at, updL_ne el]
        intro e
        exact absurd e.symm (nf l (by omega))
    · by_cases el : l = nc
      · rw [el, updL_at, updL_ne ek]
        intro e
        exact absurd e (nf k (by omega))
      · rw [updL_ne ek, updL_ne el]
        exact h.2.2 k l (by omega) (by omega)
theorem room_t {n h : Nat} {S : rx_S} (hS : MF z p m S) (hn : n < 1000) (hh : h < 1000) (hne : n ≠ h) (hp : p < 400) : f_X11_roomFor (nI n) (nI h) S = some ((), rx_ui S 94 11 (nI (p + 1))) := by
  unfold f_X11_roomFor
  simp only [rx_let]
  rw [if_neg (fun e => hne ((nI_eq (by omega) (by omega)).mp e)), if_pos hS.2.1, goesOn_n hS.1 hp, bd_some]
theorem room_n {n h : Nat} {S : rx_S} (hF : tkF z) (hS : MF z p m S) (hn : n < 1000) (hh : h < 1000) (hx : n = h ∨ ¬ p < 400) : f_X11_roomFor (nI n) (nI h) S = some ((), flS S 2 (nI (kP z p))) ∧ flt z 2 p (flS S 2 (nI (kP z p))) := by
  have t := flS_flt (S := S) (f := 2) (x := 2) (Or.inr rfl) rfl hS.2.2.1
  refine ⟨?_, t⟩
  unfold f_X11_roomFor
  simp only [rx_let]
  by_cases e : n = h
  · rw [if_pos (by rw [e]), fail_ok hS.2.1 hS.1 hF hS.2.2.2.1 hS.2.2.1, bd_some, if_neg t.pos.2.1]
  · rw [if_neg (fun q => e ((nI_eq (by omega) (by omega)).mp q)), if_pos hS.2.1, goesOn_2 hS.2.1 hS.1 hF hS.2.2.2.1 hS.2.2.1 (by omega), bd_some]
end REL
