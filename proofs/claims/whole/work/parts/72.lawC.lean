set_option maxRecDepth 20000 in
theorem lkL_13 : Cond.methodLink R_law 13 yX10_feed ∈ rx_T := (rx_c2 171 rfl rfl)
set_option maxRecDepth 20000 in
theorem lkL_17 : Cond.methodLink R_law 17 yX11_feed ∈ rx_T := (rx_c6 106 rfl rfl)
set_option maxRecDepth 20000 in
theorem lkL_18 : Cond.methodLink R_law 18 yX10_back ∈ rx_T := (rx_c2 179 rfl rfl)
set_option maxRecDepth 20000 in
theorem lkL_22 : Cond.methodLink R_law 22 yX11_back ∈ rx_T := (rx_c6 114 rfl rfl)
set_option maxRecDepth 20000 in
theorem lkL_23 : Cond.methodLink R_law 23 yX10_read ∈ rx_T := (rx_c2 183 rfl rfl)
set_option maxRecDepth 20000 in
theorem lkL_27 : Cond.methodLink R_law 27 yX11_read ∈ rx_T := (rx_c6 118 rfl rfl)
set_option maxRecDepth 20000 in
theorem lkL_28 : Cond.methodLink R_law 28 yX10_place ∈ rx_T := (rx_c3 175 rfl rfl)
set_option maxRecDepth 20000 in
theorem lkL_31 : Cond.methodLink R_law 31 yX11_place ∈ rx_T := (rx_c6 224 rfl rfl)
set_option maxRecDepth 20000 in
theorem lkL_32 : Cond.methodLink R_law 32 yX10_spouse ∈ rx_T := (rx_c3 179 rfl rfl)
set_option maxRecDepth 20000 in
theorem lkL_36 : Cond.methodLink R_law 36 yX11_spouse ∈ rx_T := (rx_c6 228 rfl rfl)
set_option maxRecDepth 20000 in
theorem lkL_37 : Cond.methodLink R_law 37 yX10_couple ∈ rx_T := (rx_c3 211 rfl rfl)
set_option maxRecDepth 20000 in
theorem lkL_40 : Cond.methodLink R_law 40 yX11_couple ∈ rx_T := (rx_c7 26 rfl rfl)
set_option maxRecDepth 20000 in
theorem lkL_41 : Cond.methodLink R_law 41 yX10_third ∈ rx_T := (rx_c3 219 rfl rfl)
set_option maxRecDepth 20000 in
theorem lkL_44 : Cond.methodLink R_law 44 yX11_third ∈ rx_T := (rx_c7 38 rfl rfl)
set_option maxRecDepth 20000 in
theorem lkL_45 : Cond.methodLink R_law 45 yX10_hire ∈ rx_T := (rx_c4 16 rfl rfl)
set_option maxRecDepth 20000 in
theorem lkL_49 : Cond.methodLink R_law 49 yX11_hire ∈ rx_T := (rx_c7 59 rfl rfl)
set_option maxRecDepth 20000 in
theorem lkL_50 : Cond.methodLink R_law 50 yX10_swear ∈ rx_T := (rx_c4 26 rfl rfl)
set_option maxRecDepth 20000 in
theorem lkL_54 : Cond.methodLink R_law 54 yX11_swear ∈ rx_T := (rx_c7 67 rfl rfl)
set_option maxRecDepth 20000 in
theorem lkL_55 : Cond.methodLink R_law 55 yX10_weeks ∈ rx_T := (rx_c4 30 rfl rfl)
set_option maxRecDepth 20000 in
theorem lkL_58 : Cond.methodLink R_law 58 yX11_weeks ∈ rx_T := (rx_c7 71 rfl rfl)
set_option maxRecDepth 20000 in
theorem lkL_59 : Cond.methodLink R_law 59 yX10_undo ∈ rx_T := (rx_c4 104 rfl rfl)
set_option maxRecDepth 20000 in
theorem lkL_63 : Cond.methodLink R_law 63 yX11_undo ∈ rx_T := (rx_c7 128 rfl rfl)
set_option maxRecDepth 20000 in
theorem lkL_64 : Cond.methodLink R_law 64 yX10_bends ∈ rx_T := (rx_c4 131 rfl rfl)
set_option maxRecDepth 20000 in
theorem lkL_68 : Cond.methodLink R_law 68 yX11_bends ∈ rx_T := (rx_c7 132 rfl rfl)
set_option maxRecDepth 20000 in
theorem lkL_69 : Cond.methodLink R_law 69 yX10_heard ∈ rx_T := (rx_c4 145 rfl rfl)
set_option maxRecDepth 20000 in
theorem lkL_72 : Cond.methodLink R_law 72 yX11_heard ∈ rx_T := (rx_c7 136 rfl rfl)
set_option maxRecDepth 20000 in
theorem lkL_73 : Cond.methodLink R_law 73 yX10_chain ∈ rx_T := (rx_c4 157 rfl rfl)
set_option maxRecDepth 20000 in
theorem lkL_76 : Cond.methodLink R_law 76 yX11_chain ∈ rx_T := (rx_c7 143 rfl rfl)
set_option maxRecDepth 20000 in
theorem lkL_77 : Cond.methodLink R_law 77 yX10_say ∈ rx_T := (rx_c4 161 rfl rfl)
set_option maxRecDepth 20000 in
theorem lkL_80 : Cond.methodLink R_law 80 yX11_say ∈ rx_T := (rx_c7 147 rfl rfl)
set_option maxRecDepth 20000 in
theorem lkL_81 : Cond.methodLink R_law 81 yX10_loses ∈ rx_T := (rx_c4 188 rfl rfl)
set_option maxRecDepth 20000 in
theorem lkL_84 : Cond.methodLink R_law 84 yX11_loses ∈ rx_T := (rx_c7 159 rfl rfl)
set_option maxRecDepth 20000 in
theorem lkL_85 : Cond.methodLink R_law 85 yX10_least ∈ rx_T := (rx_c4 207 rfl rfl)
set_option maxRecDepth 20000 in
theorem lkL_88 : Cond.methodLink R_law 88 yX11_least ∈ rx_T := (rx_c7 171 rfl rfl)
set_option maxRecDepth 20000 in
theorem lkL_89 : Cond.methodLink R_law 89 yX10_truest ∈ rx_T := (rx_c4 217 rfl rfl)
set_option maxRecDepth 20000 in
theorem lkL_92 : Cond.methodLink R_law 92 yX11_truest ∈ rx_T := (rx_c7 175 rfl rfl)
set_option maxRecDepth 20000 in
theorem lkL_93 : Cond.methodLink R_law 93 yX10_crooked ∈ rx_T := (rx_c4 225 rfl rfl)
set_option maxRecDepth 20000 in
theorem lkL_96 : Cond.methodLink R_law 96 yX11_crooked ∈ rx_T := (rx_c7 179 rfl rfl)
set_option maxRecDepth 20000 in
theorem lkL_97 : Cond.methodLink R_law 97 yX10_altered ∈ rx_T := (rx_c4 229 rfl rfl)
set_option maxRecDepth 20000 in
theorem lkL_100 : Cond.methodLink R_law 100 yX11_altered ∈ rx_T := (rx_c7 183 rfl rfl)
set_option maxRecDepth 20000 in
theorem lkL_101 : Cond.methodLink R_law 101 yX10_takes ∈ rx_T := (rx_c4 234 rfl rfl)
set_option maxRecDepth 20000 in
theorem lkL_104 : Cond.methodLink R_law 104 yX11_takes ∈ rx_T := (rx_c7 187 rfl rfl)
set_option maxRecDepth 20000 in
theorem lkL_105 : Cond.methodLink R_law 105 yX10_hires ∈ rx_T := (rx_c4 239 rfl rfl)
set_option maxRecDepth 20000 in
theorem lkL_108 : Cond.methodLink R_law 108 yX11_hires ∈ rx_T := (rx_c7 191 rfl rfl)
set_option maxRecDepth 20000 in
theorem lkL_109 : Cond.methodLink R_law 109 yX10_then ∈ rx_T := (rx_c5 25 rfl rfl)
set_option maxRecDepth 20000 in
theorem lkL_112 : Cond.methodLink R_law 112 yX11_then ∈ rx_T := (rx_c7 206 rfl rfl)
set_option maxRecDepth 20000 in
theorem lkL_113 : Cond.methodLink R_law 113 yX10_paid ∈ rx_T := (rx_c5 35 rfl rfl)
set_option maxRecDepth 20000 in
theorem lkL_116 : Cond.methodLink R_law 116 yX11_paid ∈ rx_T := (rx_c7 213 rfl rfl)
set_option maxRecDepth 20000 in
theorem lkL_117 : Cond.methodLink R_law 117 yX10_parts ∈ rx_T := (rx_c5 39 rfl rfl)
set_option maxRecDepth 20000 in
theorem lkL_120 : Cond.methodLink R_law 120 yX11_parts ∈ rx_T := (rx_c7 217 rfl rfl)
set_option maxRecDepth 20000 in
theorem lkL_121 : Cond.methodLink R_law 121 yX10_oaths ∈ rx_T := (rx_c5 47 rfl rfl)
set_option maxRecDepth 20000 in
theorem lkL_124 : Cond.methodLink R_law 124 yX11_oaths ∈ rx_T := (rx_c7 221 rfl rfl)
set_option maxRecDepth 20000 in
theorem lkL_125 : Cond.methodLink R_law 125 yX10_year ∈ rx_T := (rx_c5 63 rfl rfl)
set_option maxRecDepth 20000 in
theorem lkL_128 : Cond.methodLink R_law 128 yX11_year ∈ rx_T := (rx_c7 233 rfl rfl)
set_option maxRecDepth 20000 in
theorem lkL_129 : Cond.methodLink R_law 129 yX10_tell ∈ rx_T := (rx_c5 67 rfl rfl)
set_option maxRecDepth 20000 in
theorem lkL_132 : Cond.methodLink R_law 132 yX11_tell ∈ rx_T := (rx_c7 237 rfl rfl)
set_option maxRecDepth 20000 in
theorem lkL_133 : Cond.methodLink R_law 133 yX10_forget ∈ rx_T := (rx_c5 76 rfl rfl)
set_option maxRecDepth 20000 in
theorem lkL_136 : Cond.methodLink R_law 136 yX11_forget ∈ rx_T := (rx_c8 1 rfl rfl)
set_option maxRecDepth 20000 in
theorem lkL_137 : Cond.methodLink R_law 137 yX10_who ∈ rx_T := (rx_c5 80 rfl rfl)
set_option maxRecDepth 20000 in
theorem lkL_140 : Cond.methodLink R_law 140 yX11_who ∈ rx_T := (rx_c8 5 rfl rfl)
set_option maxRecDepth 20000 in
theorem lkL_141 : Cond.methodLink R_law 141 yX10_ask ∈ rx_T := (rx_c5 98 rfl rfl)
set_option maxRecDepth 20000 in
theorem lkL_144 : Cond.methodLink R_law 144 yX11_ask ∈ rx_T := (rx_c8 13 rfl rfl)
set_option maxRecDepth 20000 in
theorem lkL_145 : Cond.methodLink R_law 145 yX10_hold ∈ rx_T := (rx_c4 112 rfl rfl)
set_option maxRecDepth 20000 in
theorem lkL_149 : Cond.methodLink R_law 149 yX11_hold ∈ rx_T := (rx_c8 21 rfl rfl)
set_option maxRecDepth 20000 in
theorem lkL_150 : Cond.methodLink R_law 150 yX10_restore ∈ rx_T := (rx_c4 123 rfl rfl)
set_option maxRecDepth 20000 in
theorem lkL_153 : Cond.methodLink R_law 153 yX11_restore ∈ rx_T := (rx_c8 25 rfl rfl)
set_option maxRecDepth 20000 in
theorem lkL_154 : Cond.methodLink R_law 154 yX10_count ∈ rx_T := (rx_c4 0 rfl rfl)
set_option maxRecDepth 20000 in
theorem lkL_157 : Cond.methodLink R_law 157 yX11_count ∈ rx_T := (rx_c8 29 rfl rfl)
/-- what the pure part owes: every call answers alike, and goes on alike -/
def ST_feed (N : Nat) (Inv : Nat → rx_S → rx_S → Prop) : Prop := ∀ (n : Nat) (SC SM : rx_S), n < 512 → Inv n SC SM → ∀ (x1 : Int32) (x2 : Int32) (x3 : Int32) (x4 : Int32) (x5 : Int32), ∃ r SC' SM', f_X10_feed N x1 x2 x3 x4 x5 SC = some (r, SC') ∧ f_X11_feed N x1 x2 x3 x4 x5 SM = some (r, SM') ∧ Inv (n + 1) SC' SM'
def ST_back (N : Nat) (Inv : Nat → rx_S → rx_S → Prop) : Prop := ∀ (n : Nat) (SC SM : rx_S), n < 512 → Inv n SC SM → ∀ (x1 : Int32), ∃ r SC' SM', f_X10_back x1 SC = some (r, SC') ∧ f_X11_back x1 SM = some (r, SM') ∧ Inv (n + 1) SC' SM'
def ST_read (N : Nat) (Inv : Nat → rx_S → rx_S → Prop) : Prop := ∀ (n : Nat) (SC SM : rx_S), n < 512 → Inv n SC SM → ∃ r SC' SM', f_X10_read N SC = some (r, SC') ∧ f_X11_read N SM = some (r, SM') ∧ Inv (n + 1) SC' SM'
def ST_place (N : Nat) (Inv : Nat → rx_S → rx_S → Prop) : Prop := ∀ (n : Nat) (SC SM : rx_S), n < 512 → Inv n SC SM → ∃ r SC' SM', f_X10_place SC = some (r, SC') ∧ f_X11_place SM = some (r, SM') ∧ Inv (n + 1) SC' SM'
def ST_spouse (N : Nat) (Inv : Nat → rx_S → rx_S → Prop) : Prop := ∀ (n : Nat) (SC SM : rx_S), n < 512 → Inv n SC SM → ∀ (x1 : Int32) (x2 : Int32), ∃ r SC' SM', f_X10_spouse N x1 x2 SC = some (r, SC') ∧ f_X11_spouse N x1 x2 SM = some (r, SM') ∧ Inv (n + 1) SC' SM'
def ST_couple (N : Nat) (Inv : Nat → rx_S → rx_S → Prop) : Prop := ∀ (n : Nat) (SC SM : rx_S), n < 512 → Inv n SC SM → ∀ (x1 : Int32) (x2 : Int32), ∃ r SC' SM', f_X10_couple x1 x2 SC = some (r, SC') ∧ f_X11_couple x1 x2 SM = some (r, SM') ∧ Inv (n + 1) SC' SM'
def ST_third (N : Nat) (Inv : Nat → rx_S → rx_S → Prop) : Prop := ∀ (n : Nat) (SC SM : rx_S), n < 512 → Inv n SC SM → ∀ (x1 : Int32) (x2 : Int32), ∃ r SC' SM', f_X10_third N x1 x2 SC = some (r, SC') ∧ f_X11_third N x1 x2 SM = some (r, SM') ∧ Inv (n + 1) SC' SM'
def ST_hire (N : Nat) (Inv : Nat → rx_S → rx_S → Prop) : Prop := ∀ (n : Nat) (SC SM : rx_S), n < 512 → Inv n SC SM → ∀ (x1 : Int32) (x2 : Int32), ∃ r SC' SM', f_X10_hire x1 x2 SC = some (r, SC') ∧ f_X11_hire N x1 x2 SM = some (r, SM') ∧ Inv (n + 1) SC' SM'
def ST_swear (N : Nat) (Inv : Nat → rx_S → rx_S → Prop) : Prop := ∀ (n : Nat) (SC SM : rx_S), n < 512 → Inv n SC SM → ∀ (x1 : Int32) (x2 : Int32), (x2 = 0 ∨ x2 = 1) → ∃ r SC' SM', f_X10_swear x1 x2 SC = some (r, SC') ∧ f_X11_swear N x1 x2 SM = some (r, SM') ∧ Inv (n + 1) SC' SM'
def ST_weeks (N : Nat) (Inv : Nat → rx_S → rx_S → Prop) : Prop := ∀ (n : Nat) (SC SM : rx_S), n < 512 → Inv n SC SM → ∀ (x1 : Int32), ∃ r SC' SM', f_X10_weeks N x1 SC = some (r, SC') ∧ f_X11_weeks N x1 SM = some (r, SM') ∧ Inv (n + 1) SC' SM'
def ST_undo (N : Nat) (Inv : Nat → rx_S → rx_S → Prop) : Prop := ∀ (n : Nat) (SC SM : rx_S), n < 512 → Inv n SC SM → ∃ r SC' SM', f_X10_undo SC = some (r, SC') ∧ f_X11_undo N SM = some (r, SM') ∧ Inv (n + 1) SC' SM'
def ST_bends (N : Nat) (Inv : Nat → rx_S → rx_S → Prop) : Prop := ∀ (n : Nat) (SC SM : rx_S), n < 512 → Inv n SC SM → ∀ (x1 : Int32) (x2 : Int32) (x3 : Int32), ∃ r SC' SM', f_X10_bends N x1 x2 x3 SC = some (r, SC') ∧ f_X11_bends N x1 x2 x3 SM = some (r, SM') ∧ Inv (n + 1) SC' SM'
def ST_heard (N : Nat) (Inv : Nat → rx_S → rx_S → Prop) : Prop := ∀ (n : Nat) (SC SM : rx_S), n < 512 → Inv n SC SM → ∀ (x1 : Int32) (x2 : Int32), ∃ r SC' SM', f_X10_heard N x1 x2 SC = some (r, SC') ∧ f_X11_heard N x1 x2 SM = some (r, SM') ∧ Inv (n + 1) SC' SM'
def ST_chain (N : Nat) (Inv : Nat → rx_S → rx_S → Prop) : Prop := ∀ (n : Nat) (SC SM : rx_S), n < 512 → Inv n SC SM → ∀ (x1 : Int32) (x2 : Int32) (x3 : Int32), ∃ r SC' SM', f_X10_chain N x1 x2 x3 SC = some (r, SC') ∧ f_X11_chain N x1 x2 x3 SM = some (r, SM') ∧ Inv (n + 1) SC' SM'
def ST_say (N : Nat) (Inv : Nat → rx_S → rx_S → Prop) : Prop := ∀ (n : Nat) (SC SM : rx_S), n < 512 → Inv n SC SM → ∀ (x1 : Int32) (x2 : Int32), ∃ r SC' SM', f_X10_say N x1 x2 SC = some (r, SC') ∧ f_X11_say N x1 x2 SM = some (r, SM') ∧ Inv (n + 1) SC' SM'
def ST_loses (N : Nat) (Inv : Nat → rx_S → rx_S → Prop) : Prop := ∀ (n : Nat) (SC SM : rx_S), n < 512 → Inv n SC SM → ∀ (x1 : Int32) (x2 : Int32) (x3 : Int32), ∃ r SC' SM', f_X10_loses N x1 x2 x3 SC = some (r, SC') ∧ f_X11_loses N x1 x2 x3 SM = some (r, SM') ∧ Inv (n + 1) SC' SM'
def ST_least (N : Nat) (Inv : Nat → rx_S → rx_S → Prop) : Prop := ∀ (n : Nat) (SC SM : rx_S), n < 512 → Inv n SC SM → ∀ (x1 : Int32), ∃ r SC' SM', f_X10_least N x1 SC = some (r, SC') ∧ f_X11_least N x1 SM = some (r, SM') ∧ Inv (n + 1) SC' SM'
def ST_truest (N : Nat) (Inv : Nat → rx_S → rx_S → Prop) : Prop := ∀ (n : Nat) (SC SM : rx_S), n < 512 → Inv n SC SM → ∀ (x1 : Int32), ∃ r SC' SM', f_X10_truest N x1 SC = some (r, SC') ∧ f_X11_truest N x1 SM = some (r, SM') ∧ Inv (n + 1) SC' SM'
def ST_crooked (N : Nat) (Inv : Nat → rx_S → rx_S → Prop) : Prop := ∀ (n : Nat) (SC SM : rx_S), n < 512 → Inv n SC SM → ∀ (x1 : Int32) (x2 : Int32), ∃ r SC' SM', f_X10_crooked N x1 x2 SC = some (r, SC') ∧ f_X11_crooked N x1 x2 SM = some (r, SM') ∧ Inv (n + 1) SC' SM'
def ST_altered (N : Nat) (Inv : Nat → rx_S → rx_S → Prop) : Prop := ∀ (n : Nat) (SC SM : rx_S), n < 512 → Inv n SC SM → ∀ (x1 : Int32) (x2 : Int32), ∃ r SC' SM', f_X10_altered N x1 x2 SC = some (r, SC') ∧ f_X11_altered N x1 x2 SM = some (r, SM') ∧ Inv (n + 1) SC' SM'
def ST_takes (N : Nat) (Inv : Nat → rx_S → rx_S → Prop) : Prop := ∀ (n : Nat) (SC SM : rx_S), n < 512 → Inv n SC SM → ∀ (x1 : Int32) (x2 : Int32), ∃ r SC' SM', f_X10_takes N x1 x2 SC = some (r, SC') ∧ f_X11_takes N x1 x2 SM = some (r, SM') ∧ Inv (n + 1) SC' SM'
def ST_hires (N : Nat) (Inv : Nat → rx_S → rx_S → Prop) : Prop := ∀ (n : Nat) (SC SM : rx_S), n < 512 → Inv n SC SM → ∀ (x1 : Int32), ∃ r SC' SM', f_X10_hires N x1 SC = some (r, SC') ∧ f_X11_hires N x1 SM = some (r, SM') ∧ Inv (n + 1) SC' SM'
def ST_then (N : Nat) (Inv : Nat → rx_S → rx_S → Prop) : Prop := ∀ (n : Nat) (SC SM : rx_S), n < 512 → Inv n SC SM → ∀ (x1 : Int32) (x2 : Int32), ∃ r SC' SM', f_X10_then N x1 x2 SC = some (r, SC') ∧ f_X11_then N x1 x2 SM = some (r, SM') ∧ Inv (n + 1) SC' SM'
def ST_paid (N : Nat) (Inv : Nat → rx_S → rx_S → Prop) : Prop := ∀ (n : Nat) (SC SM : rx_S), n < 512 → Inv n SC SM → ∀ (x1 : Int32) (x2 : Int32) (x3 : Int32), ∃ r SC' SM', f_X10_paid N x1 x2 x3 SC = some (r, SC') ∧ f_X11_paid N x1 x2 x3 SM = some (r, SM') ∧ Inv (n + 1) SC' SM'
def ST_parts (N : Nat) (Inv : Nat → rx_S → rx_S → Prop) : Prop := ∀ (n : Nat) (SC SM : rx_S), n < 512 → Inv n SC SM → ∀ (x1 : Int32), ∃ r SC' SM', f_X10_parts N x1 SC = some (r, SC') ∧ f_X11_parts N x1 SM = some (r, SM') ∧ Inv (n + 1) SC' SM'
def ST_oaths (N : Nat) (Inv : Nat → rx_S → rx_S → Prop) : Prop := ∀ (n : Nat) (SC SM : rx_S), n < 512 → Inv n SC SM → ∀ (x1 : Int32) (x2 : Int32), ∃ r SC' SM', f_X10_oaths N x1 x2 SC = some (r, SC') ∧ f_X11_oaths N x1 x2 SM = some (r, SM') ∧ Inv (n + 1) SC' SM'
def ST_year (N : Nat) (Inv : Nat → rx_S → rx_S → Prop) : Prop := ∀ (n : Nat) (SC SM : rx_S), n < 512 → Inv n SC SM → ∀ (x1 : Int32) (x2 : Int32) (x3 : Int32), ∃ r SC' SM', f_X10_year N x1 x2 x3 SC = some (r, SC') ∧ f_X11_year N x1 x2 x3 SM = some (r, SM') ∧ Inv (n + 1) SC' SM'
def ST_tell (N : Nat) (Inv : Nat → rx_S → rx_S → Prop) : Prop := ∀ (n : Nat) (SC SM : rx_S), n < 512 → Inv n SC SM → ∀ (x1 : Int32) (x2 : Int32), ∃ r SC' SM', f_X10_tell N x1 x2 SC = some (r, SC') ∧ f_X11_tell x1 x2 SM = some (r, SM') ∧ Inv (n + 1) SC' SM'
def ST_forget (N : Nat) (Inv : Nat → rx_S → rx_S → Prop) : Prop := ∀ (n : Nat) (SC SM : rx_S), n < 512 → Inv n SC SM → ∃ r SC' SM', f_X10_forget SC = some (r, SC') ∧ f_X11_forget SM = some (r, SM') ∧ Inv (n + 1) SC' SM'
def ST_who (N : Nat) (Inv : Nat → rx_S → rx_S → Prop) : Prop := ∀ (n : Nat) (SC SM : rx_S), n < 512 → Inv n SC SM → ∀ (x1 : Int32), ∃ r SC' SM', f_X10_who N x1 SC = some (r, SC') ∧ f_X11_who N x1 SM = some (r, SM') ∧ Inv (n + 1) SC' SM'
def ST_ask (N : Nat) (Inv : Nat → rx_S → rx_S → Prop) : Prop := ∀ (n : Nat) (SC SM : rx_S), n < 512 → Inv n SC SM → ∀ (x1 : Int32), ∃ r SC' SM', f_X10_ask N x1 SC = some (r, SC') ∧ f_X11_ask N x1 SM = some (r, SM') ∧ Inv (n + 1) SC' SM'
def ST_hold (N : Nat) (Inv : Nat → rx_S → rx_S → Prop) : Prop := ∀ (n : Nat) (SC SM : rx_S), n < 512 → Inv n SC SM → ∀ (x1 : Int32), ∃ r SC' SM', f_X10_hold x1 SC = some (r, SC') ∧ f_X11_hold N x1 SM = some (r, SM') ∧ Inv (n + 1) SC' SM'
def ST_restore (N : Nat) (Inv : Nat → rx_S → rx_S → Prop) : Prop := ∀ (n : Nat) (SC SM : rx_S), n < 512 → Inv n SC SM → ∀ (x1 : Int32), ∃ r SC' SM', f_X10_restore x1 SC = some (r, SC') ∧ f_X11_restore N x1 SM = some (r, SM') ∧ Inv (n + 1) SC' SM'
def ST_count (N : Nat) (Inv : Nat → rx_S → rx_S → Prop) : Prop := ∀ (n : Nat) (SC SM : rx_S), n < 512 → Inv n SC SM → ∀ (x1 : Int32), ∃ r SC' SM', f_X10_count N x1 SC = some (r, SC') ∧ f_X11_count N x1 SM = some (r, SM') ∧ Inv (n + 1) SC' SM'
def LawStep (N : Nat) (Inv : Nat → rx_S → rx_S → Prop) : Prop := ST_feed N Inv ∧ ST_back N Inv ∧ ST_read N Inv ∧ ST_place N Inv ∧ ST_spouse N Inv ∧ ST_couple N Inv ∧ ST_third N Inv ∧ ST_hire N Inv ∧ ST_swear N Inv ∧ ST_weeks N Inv ∧ ST_undo N Inv ∧ ST_bends N Inv ∧ ST_heard N Inv ∧ ST_chain N Inv ∧ ST_say N Inv ∧ ST_loses N Inv ∧ ST_least N Inv ∧ ST_truest N Inv ∧ ST_crooked N Inv ∧ ST_altered N Inv ∧ ST_takes N Inv ∧ ST_hires N Inv ∧ ST_then N Inv ∧ ST_paid N Inv ∧ ST_parts N Inv ∧ ST_oaths N Inv ∧ ST_year N Inv ∧ ST_tell N Inv ∧ ST_forget N Inv ∧ ST_who N Inv ∧ ST_ask N Inv ∧ ST_hold N Inv ∧ ST_restore N Inv ∧ ST_count N Inv
section LWC
variable {p : Program} {l : Launch} {e : Env} {s : State} {m : MethodId} {below : List Frame} {meth : Method} {c : Code} {b L : Nat} {xs : Nat → Int32} {D : va_G} {cy : Nat → ClassId} {ad : Nat → Nat} {N : Nat} {Inv : Nat → rx_S → rx_S → Prop}
set_option maxHeartbeats 4000000 in
set_option maxRecDepth 20000 in
theorem lc_feed {n i : Nat} {SC SM : rx_S} (hC : lw_C p s m meth c b L xs D cy ad) (hL3 : L ≤ 3072) (hi : i + 6 ≤ L) (hst : ST_feed N Inv) (hn : n < 512) (hI : Inv n SC SM) (next : ∀ SC' SM', Inv (n + 1) SC' SM' → LW p l e s m below meth c b D cy ad 1212 [some (.ref 5000), some (.ref 0), some (.ref 94), some (.int (nI i))] [] SC' SM') : LW p l e s m below meth c b D cy ad 184 [some (.ref 5000), some (.ref 0), some (.ref 94), some (.int (nI i))] [] SC SM := by
  obtain ⟨r, SC', SM', f1, f2, hI'⟩ := hst n SC SM hn hI (xs (i + 1)) (xs (i + 2)) (xs (i + 3)) (xs (i + 4)) (xs (i + 5))
  refine lx_aload_n (i := 1) hC 185 dL_law_184 rfl rfl rfl ?_
  refine lx_aload_n (i := 0) hC 186 dL_law_185 rfl rfl rfl ?_
  refine lx_iload_n (i := 3) hC 187 dL_law_186 rfl rfl rfl ?_
  refine lx_iconst (v := 1) hC 188 dL_law_187 (by decide) rfl ?_
  refine lx_iadd hC 189 dL_law_188 rfl ?_
  refine lx_sld hC (i + 1) 190 dL_law_189 (nI_add i 1) (by omega) hL3 rfl ?_
  refine lx_aload_n (i := 0) hC 191 dL_law_190 rfl rfl rfl ?_
  refine lx_iload_n (i := 3) hC 192 dL_law_191 rfl rfl rfl ?_
  refine lx_iconst (v := 2) hC 193 dL_law_192 (by decide) rfl ?_
  refine lx_iadd hC 194 dL_law_193 rfl ?_
  refine lx_sld hC (i + 2) 195 dL_law_194 (nI_add i 2) (by omega) hL3 rfl ?_
  refine lx_aload_n (i := 0) hC 196 dL_law_195 rfl rfl rfl ?_
  refine lx_iload_n (i := 3) hC 197 dL_law_196 rfl rfl rfl ?_
  refine lx_iconst (v := 3) hC 198 dL_law_197 (by decide) rfl ?_
  refine lx_iadd hC 199 dL_law_198 rfl ?_
  refine lx_sld hC (i + 3) 200 dL_law_199 (nI_add i 3) (by omega) hL3 rfl ?_
  refine lx_aload_n (i := 0) hC 201 dL_law_200 rfl rfl rfl ?_
  refine lx_iload_n (i := 3) hC 202 dL_law_201 rfl rfl rfl ?_
  refine lx_iconst (v := 4) hC 203 dL_law_202 (by decide) rfl ?_
  refine lx_iadd hC 204 dL_law_203 rfl ?_
  refine lx_sld hC (i + 4) 205 dL_law_204 (nI_add i 4) (by omega) hL3 rfl ?_
  refine lx_aload_n (i := 0) hC 206 dL_law_205 rfl rfl rfl ?_
  refine lx_iload_n (i := 3) hC 207 dL_law_206 rfl rfl rfl ?_
  refine lx_iconst (v := 5) hC 208 dL_law_207 (by decide) rfl ?_
  refine lx_iadd hC 209 dL_law_208 rfl ?_
  refine lx_sld hC (i + 5) 210 dL_law_209 (nI_add i 5) (by omega) hL3 rfl ?_
  refine lw_callC (vs := [.int (xs (i + 1)), .int (xs (i + 2)), .int (xs (i + 3)), .int (xs (i + 4)), .int (xs (i + 5))]) hC 213 dL_law_210 (em_X10_feed f1) mm_X10_feed mv_X10_feed lkL_13 rfl rfl (Nat.le_of_ble_eq_true rfl) (Nat.le_of_ble_eq_true rfl) rfl ?_
  refine lx_aload_n (i := 2) hC 214 dL_law_213 rfl rfl rfl ?_
  refine lx_aload_n (i := 0) hC 215 dL_law_214 rfl rfl rfl ?_
  refine lx_iload_n (i := 3) hC 216 dL_law_215 rfl rfl rfl ?_
  refine lx_iconst (v := 1) hC 217 dL_law_216 (by decide) rfl ?_
  refine lx_iadd hC 218 dL_law_217 rfl ?_
  refine lx_sld hC (i + 1) 219 dL_law_218 (nI_add i 1) (by omega) hL3 rfl ?_
  refine lx_aload_n (i := 0) hC 220 dL_law_219 rfl rfl rfl ?_
  refine lx_iload_n (i := 3) hC 221 dL_law_220 rfl rfl rfl ?_
  refine lx_iconst (v := 2) hC 222 dL_law_221 (by decide) rfl ?_
  refine lx_iadd hC 223 dL_law_222 rfl ?_
  refine lx_sld hC (i + 2) 224 dL_law_223 (nI_add i 2) (by omega) hL3 rfl ?_
  refine lx_aload_n (i := 0) hC 225 dL_law_224 rfl rfl rfl ?_
  refine lx_iload_n (i := 3) hC 226 dL_law_225 rfl rfl rfl ?_
  refine lx_iconst (v := 3) hC 227 dL_law_226 (by decide) rfl ?_
  refine lx_iadd hC 228 dL_law_227 rfl ?_
  refine lx_sld hC (i + 3) 229 dL_law_228 (nI_add i 3) (by omega) hL3 rfl ?_
  refine lx_aload_n (i := 0) hC 230 dL_law_229 rfl rfl rfl ?_
  refine lx_iload_n (i := 3) hC 231 dL_law_230 rfl rfl rfl ?_
  refine lx_iconst (v := 4) hC 232 dL_law_231 (by decide) rfl ?_
  refine lx_iadd hC 233 dL_law_232 rfl ?_
  refine lx_sld hC (i + 4) 234 dL_law_233 (nI_add i 4) (by omega) hL3 rfl ?_
  refine lx_aload_n (i := 0) hC 235 dL_law_234 rfl rfl rfl ?_
  refine lx_iload_n (i := 3) hC 236 dL_law_235 rfl rfl rfl ?_
  refine lx_iconst (v := 5) hC 237 dL_law_236 (by decide) rfl ?_
  refine lx_iadd hC 238 dL_law_237 rfl ?_
  refine lx_sld hC (i + 5) 239 dL_law_238 (nI_add i 5) (by omega) hL3 rfl ?_
  refine lw_callM (vs := [.int (xs (i + 1)), .int (xs (i + 2)), .int (xs (i + 3)), .int (xs (i + 4)), .int (xs (i + 5))]) hC 242 dL_law_239 (em_X11_feed f2) mm_X11_feed mv_X11_feed lkL_17 rfl rfl (Nat.le_of_ble_eq_true rfl) (Nat.le_of_ble_eq_true rfl) rfl ?_
  refine lx_icmp_eq hC 1212 dL_law_242 rfl ?_
  exact next SC' SM' hI'

set_option maxHeartbeats 4000000 in
set_option maxRecDepth 20000 in
theorem lc_back {n i : Nat} {SC SM : rx_S} (hC : lw_C p s m meth c b L xs D cy ad) (hL3 : L ≤ 3072) (hi : i + 6 ≤ L) (hst : ST_back N Inv) (hn : n < 512) (hI : Inv n SC SM) (next : ∀ SC' SM', Inv (n + 1) SC' SM' → LW p l e s m below meth c b D cy ad 1212 [some (.ref 5000), some (.ref 0), some (.ref 94), some (.int (nI i))] [] SC' SM') : LW p l e s m below meth c b D cy ad 247 [some (.ref 5000), some (.ref 0), some (.ref 94), some (.int (nI i))] [] SC SM := by
  obtain ⟨r, SC', SM', f1, f2, hI'⟩ := hst n SC SM hn hI (xs (i + 1))
  refine lx_aload_n (i := 1) hC 248 dL_law_247 rfl rfl rfl ?_
  refine lx_aload_n (i := 0) hC 249 dL_law_248 rfl rfl rfl ?_
  refine lx_iload_n (i := 3) hC 250 dL_law_249 rfl rfl rfl ?_
  refine lx_iconst (v := 1) hC 251 dL_law_250 (by decide) rfl ?_
  refine lx_iadd hC 252 dL_law_251 rfl ?_
  refine lx_sld hC (i + 1) 253 dL_law_252 (nI_add i 1) (by omega) hL3 rfl ?_
  refine lw_callC (vs := [.int (xs (i + 1))]) hC 256 dL_law_253 (em_X10_back f1) mm_X10_back mv_X10_back lkL_18 rfl rfl (Nat.le_of_ble_eq_true rfl) (Nat.le_of_ble_eq_true rfl) rfl ?_
  refine lx_aload_n (i := 2) hC 257 dL_law_256 rfl rfl rfl ?_
  refine lx_aload_n (i := 0) hC 258 dL_law_257 rfl rfl rfl ?_
  refine lx_iload_n (i := 3) hC 259 dL_law_258 rfl rfl rfl ?_
  refine lx_iconst (v := 1) hC 260 dL_law_259 (by decide) rfl ?_
  refine lx_iadd hC 261 dL_law_260 rfl ?_
  refine lx_sld hC (i + 1) 262 dL_law_261 (nI_add i 1) (by omega) hL3 rfl ?_
  refine lw_callM (vs := [.int (xs (i + 1))]) hC 265 dL_law_262 (em_X11_back f2) mm_X11_back mv_X11_back lkL_22 rfl rfl (Nat.le_of_ble_eq_true rfl) (Nat.le_of_ble_eq_true rfl) rfl ?_
  refine lx_icmp_eq hC 1212 dL_law_265 rfl ?_
  exact next SC' SM' hI'

set_option maxHeartbeats 4000000 in
set_option maxRecDepth 20000 in
theorem lc_read {n i : Nat} {SC SM : rx_S} (hC : lw_C p s m meth c b L xs D cy ad) (hL3 : L ≤ 3072) (hi : i + 6 ≤ L) (hst : ST_read N Inv) (hn : n < 512) (hI : Inv n SC SM) (next : ∀ SC' SM', Inv (n + 1) SC' SM' → LW p l e s m below meth c b D cy ad 1212 [some (.ref 5000), some (.ref 0), some (.ref 94), some (.int (nI i))] [] SC' SM') : LW p l e s m below meth c b D cy ad 270 [some (.ref 5000), some (.ref 0), some (.ref 94), some (.int (nI i))] [] SC SM := by
  obtain ⟨r, SC', SM', f1, f2, hI'⟩ := hst n SC SM hn hI
  refine lx_aload_n (i := 1) hC 271 dL_law_270 rfl rfl rfl ?_
  refine lw_callC (vs := []) hC 274 dL_law_271 (em_X10_read f1) mm_X10_read mv_X10_read lkL_23 rfl rfl (Nat.le_of_ble_eq_true rfl) (Nat.le_of_ble_eq_true rfl) rfl ?_
  refine lx_aload_n (i := 2) hC 275 dL_law_274 rfl rfl rfl ?_
  refine lw_callM (vs := []) hC 278 dL_law_275 (em_X11_read f2) mm_X11_read mv_X11_read lkL_27 rfl rfl (Nat.le_of_ble_eq_true rfl) (Nat.le_of_ble_eq_true rfl) rfl ?_
  refine lx_icmp_eq hC 1212 dL_law_278 rfl ?_
  exact next SC' SM' hI'

set_option maxHeartbeats 4000000 in
set_option maxRecDepth 20000 in
theorem lc_place {n i : Nat} {SC SM : rx_S} (hC : lw_C p s m meth c b L xs D cy ad) (hL3 : L ≤ 3072) (hi : i + 6 ≤ L) (hst : ST_place N Inv) (hn : n < 512) (hI : Inv n SC SM) (next : ∀ SC' SM', Inv (n + 1) SC' SM' → LW p l e s m below meth c b D cy ad 1212 [some (.ref 5000), some (.ref 0), some (.ref 94), some (.int (nI i))] [] SC' SM') : LW p l e s m below meth c b D cy ad 283 [some (.ref 5000), some (.ref 0), some (.ref 94), some (.int (nI i))] [] SC SM := by
  obtain ⟨r, SC', SM', f1, f2, hI'⟩ := hst n SC SM hn hI
  refine lx_aload_n (i := 1) hC 284 dL_law_283 rfl rfl rfl ?_
  refine lw_callC (vs := []) hC 287 dL_law_284 (em_X10_place f1) mm_X10_place mv_X10_place lkL_28 rfl rfl (Nat.le_of_ble_eq_true rfl) (Nat.le_of_ble_eq_true rfl) rfl ?_
  refine lx_aload_n (i := 2) hC 288 dL_law_287 rfl rfl rfl ?_
  refine lw_callM (vs := []) hC 291 dL_law_288 (em_X11_place f2) mm_X11_place mv_X11_place lkL_31 rfl rfl (Nat.le_of_ble_eq_true rfl) (Nat.le_of_ble_eq_true rfl) rfl ?_
  refine lx_icmp_eq hC 1212 dL_law_291 rfl ?_
  exact next SC' SM' hI'

set_option maxHeartbeats 4000000 in
set_option maxRecDepth 20000 in
theorem lc_spouse {n i : Nat} {SC SM : rx_S} (hC : lw_C p s m meth c b L xs D cy ad) (hL3 : L ≤ 3072) (hi : i + 6 ≤ L) (hst : ST_spouse N Inv) (hn : n < 512) (hI : Inv n SC SM) (next : ∀ SC' SM', Inv (n + 1) SC' SM' → LW p l e s m below meth c b D cy ad 1212 [some (.ref 5000), some (.ref 0), some (.ref 94), some (.int (nI i))] [] SC' SM') : LW p l e s m below meth c b D cy ad 296 [some (.ref 5000), some (.ref 0), some (.ref 94), some (.int (nI i))] [] SC SM := by
  obtain ⟨r, SC', SM', f1, f2, hI'⟩ := hst n SC SM hn hI (xs (i + 1)) (xs (i + 2))
  refine lx_aload_n (i := 1) hC 297 dL_law_296 rfl rfl rfl ?_
  refine lx_aload_n (i := 0) hC 298 dL_law_297 rfl rfl rfl ?_
  refine lx_iload_n (i := 3) hC 299 dL_law_298 rfl rfl rfl ?_
  refine lx_iconst (v := 1) hC 300 dL_law_299 (by decide) rfl ?_
  refine lx_iadd hC 301 dL_law_300 rfl ?_
  refine lx_sld hC (i + 1) 302 dL_law_301 (nI_add i 1) (by omega) hL3 rfl ?_
  refine lx_aload_n (i := 0) hC 303 dL_law_302 rfl rfl rfl ?_
  refine lx_iload_n (i := 3) hC 304 dL_law_303 rfl rfl rfl ?_
  refine lx_iconst (v := 2) hC 305 dL_law_304 (by decide) rfl ?_
  refine lx_iadd hC 306 dL_law_305 rfl ?_
  refine lx_sld hC (i + 2) 307 dL_law_306 (nI_add i 2) (by omega) hL3 rfl ?_
  refine lw_callC (vs := [.int (xs (i + 1)), .int (xs (i + 2))]) hC 310 dL_law_307 (em_X10_spouse f1) mm_X10_spouse mv_X10_spouse lkL_32 rfl rfl (Nat.le_of_ble_eq_true rfl) (Nat.le_of_ble_eq_true rfl) rfl ?_
  refine lx_aload_n (i := 2) hC 311 dL_law_310 rfl rfl rfl ?_
  refine lx_aload_n (i := 0) hC 312 dL_law_311 rfl rfl rfl ?_
  refine lx_iload_n (i := 3) hC 313 dL_law_312 rfl rfl rfl ?_
  refine lx_iconst (v := 1) hC 314 dL_law_313 (by decide) rfl ?_
  refine lx_iadd hC 315 dL_law_314 rfl ?_
  refine lx_sld hC (i + 1) 316 dL_law_315 (nI_add i 1) (by omega) hL3 rfl ?_
  refine lx_aload_n (i := 0) hC 317 dL_law_316 rfl rfl rfl ?_
  refine lx_iload_n (i := 3) hC 318 dL_law_317 rfl rfl rfl ?_
  refine lx_iconst (v := 2) hC 319 dL_law_318 (by decide) rfl ?_
  refine lx_iadd hC 320 dL_law_319 rfl ?_
  refine lx_sld hC (i + 2) 321 dL_law_320 (nI_add i 2) (by omega) hL3 rfl ?_
  refine lw_callM (vs := [.int (xs (i + 1)), .int (xs (i + 2))]) hC 324 dL_law_321 (em_X11_spouse f2) mm_X11_spouse mv_X11_spouse lkL_36 rfl rfl (Nat.le_of_ble_eq_true rfl) (Nat.le_of_ble_eq_true rfl) rfl ?_
  refine lx_icmp_eq hC 1212 dL_law_324 rfl ?_
  exact next SC' SM' hI'

set_option maxHeartbeats 4000000 in
set_option maxRecDepth 20000 in
theorem lc_couple {n i : Nat} {SC SM : rx_S} (hC : lw_C p s m meth c b L xs D cy ad) (hL3 : L ≤ 3072) (hi : i + 6 ≤ L) (hst : ST_couple N Inv) (hn : n < 512) (hI : Inv n SC SM) (next : ∀ SC' SM', Inv (n + 1) SC' SM' → LW p l e s m below meth c b D cy ad 1212 [some (.ref 5000), some (.ref 0), some (.ref 94), some (.int (nI i))] [] SC' SM') : LW p l e s m below meth c b D cy ad 329 [some (.ref 5000), some (.ref 0), some (.ref 94), some (.int (nI i))] [] SC SM := by
  obtain ⟨r, SC', SM', f1, f2, hI'⟩ := hst n SC SM hn hI (xs (i + 1)) (xs (i + 2))
  refine lx_aload_n (i := 1) hC 330 dL_law_329 rfl rfl rfl ?_
  refine lx_aload_n (i := 0) hC 331 dL_law_330 rfl rfl rfl ?_
  refine lx_iload_n (i := 3) hC 332 dL_law_331 rfl rfl rfl ?_
  refine lx_iconst (v := 1) hC 333 dL_law_332 (by decide) rfl ?_
  refine lx_iadd hC 334 dL_law_333 rfl ?_
  refine lx_sld hC (i + 1) 335 dL_law_334 (nI_add i 1) (by omega) hL3 rfl ?_
  refine lx_aload_n (i := 0) hC 336 dL_law_335 rfl rfl rfl ?_
  refine lx_iload_n (i := 3) hC 337 dL_law_336 rfl rfl rfl ?_
  refine lx_iconst (v := 2) hC 338 dL_law_337 (by decide) rfl ?_
  refine lx_iadd hC 339 dL_law_338 rfl ?_
  refine lx_sld hC (i + 2) 340 dL_law_339 (nI_add i 2) (by omega) hL3 rfl ?_
  refine lw_callC (vs := [.int (xs (i + 1)), .int (xs (i + 2))]) hC 343 dL_law_340 (em_X10_couple f1) mm_X10_couple mv_X10_couple lkL_37 rfl rfl (Nat.le_of_ble_eq_true rfl) (Nat.le_of_ble_eq_true rfl) rfl ?_
  refine lx_aload_n (i := 2) hC 344 dL_law_343 rfl rfl rfl ?_
  refine lx_aload_n (i := 0) hC 345 dL_law_344 rfl rfl rfl ?_
  refine lx_iload_n (i := 3) hC 346 dL_law_345 rfl rfl rfl ?_
  refine lx_iconst (v := 1) hC 347 dL_law_346 (by decide) rfl ?_
  refine lx_iadd hC 348 dL_law_347 rfl ?_
  refine lx_sld hC (i + 1) 349 dL_law_348 (nI_add i 1) (by omega) hL3 rfl ?_
  refine lx_aload_n (i := 0) hC 350 dL_law_349 rfl rfl rfl ?_
  refine lx_iload_n (i := 3) hC 351 dL_law_350 rfl rfl rfl ?_
  refine lx_iconst (v := 2) hC 352 dL_law_351 (by decide) rfl ?_
  refine lx_iadd hC 353 dL_law_352 rfl ?_
  refine lx_sld hC (i + 2) 354 dL_law_353 (nI_add i 2) (by omega) hL3 rfl ?_
  refine lw_callM (vs := [.int (xs (i + 1)), .int (xs (i + 2))]) hC 357 dL_law_354 (em_X11_couple f2) mm_X11_couple mv_X11_couple lkL_40 rfl rfl (Nat.le_of_ble_eq_true rfl) (Nat.le_of_ble_eq_true rfl) rfl ?_
  refine lx_icmp_eq hC 1212 dL_law_357 rfl ?_
  exact next SC' SM' hI'

set_option maxHeartbeats 4000000 in
set_option maxRecDepth 20000 in
theorem lc_third {n i : Nat} {SC SM : rx_S} (hC : lw_C p s m meth c b L xs D cy ad) (hL3 : L ≤ 3072) (hi : i + 6 ≤ L) (hst : ST_third N Inv) (hn : n < 512) (hI : Inv n SC SM) (next : ∀ SC' SM', Inv (n + 1) SC' SM' → LW p l e s m below meth c b D cy ad 1212 [some (.ref 5000), some (.ref 0), some (.ref 94), some (.int (nI i))] [] SC' SM') : LW p l e s m below meth c b D cy ad 362 [some (.ref 5000), some (.ref 0), some (.ref 94), some (.int (nI i))] [] SC SM := by
  obtain ⟨r, SC', SM', f1, f2, hI'⟩ := hst n SC SM hn hI (xs (i + 1)) (xs (i + 2))
  refine lx_aload_n (i := 1) hC 363 dL_law_362 rfl rfl rfl ?_
  refine lx_aload_n (i := 0) hC 364 dL_law_363 rfl rfl rfl ?_
  refine lx_iload_n (i := 3) hC 365 dL_law_364 rfl rfl rfl ?_
  refine lx_iconst (v := 1) hC 366 dL_law_365 (by decide) rfl ?_
  refine lx_iadd hC 367 dL_law_366 rfl ?_
  refine lx_sld hC (i + 1) 368 dL_law_367 (nI_add i 1) (by omega) hL3 rfl ?_
  refine lx_aload_n (i := 0) hC 369 dL_law_368 rfl rfl rfl ?_
  refine lx_iload_n (i := 3) hC 370 dL_law_369 rfl rfl rfl ?_
  refine lx_iconst (v := 2) hC 371 dL_law_370 (by decide) rfl ?_
  refine lx_iadd hC 372 dL_law_371 rfl ?_
  refine lx_sld hC (i + 2) 373 dL_law_372 (nI_add i 2) (by omega) hL3 rfl ?_
  refine lw_callC (vs := [.int (xs (i + 1)), .int (xs (i + 2))]) hC 376 dL_law_373 (em_X10_third f1) mm_X10_third mv_X10_third lkL_41 rfl rfl (Nat.le_of_ble_eq_true rfl) (Nat.le_of_ble_eq_true rfl) rfl ?_
  refine lx_aload_n (i := 2) hC 377 dL_law_376 rfl rfl rfl ?_
  refine lx_aload_n (i := 0) hC 378 dL_law_377 rfl rfl rfl ?_
  refine lx_iload_n (i := 3) hC 379 dL_law_378 rfl rfl rfl ?_
  refine lx_iconst (v := 1) hC 380 dL_law_379 (by decide) rfl ?_
  refine lx_iadd hC 381 dL_law_380 rfl ?_
  refine lx_sld hC (i + 1) 382 dL_law_381 (nI_add i 1) (by omega) hL3 rfl ?_
  refine lx_aload_n (i := 0) hC 383 dL_law_382 rfl rfl rfl ?_
  refine lx_iload_n (i := 3) hC 384 dL_law_383 rfl rfl rfl ?_
  refine lx_iconst (v := 2) hC 385 dL_law_384 (by decide) rfl ?_
  refine lx_iadd hC 386 dL_law_385 rfl ?_
  refine lx_sld hC (i + 2) 387 dL_law_386 (nI_add i 2) (by omega) hL3 rfl ?_
  refine lw_callM (vs := [.int (xs (i + 1)), .int (xs (i + 2))]) hC 390 dL_law_387 (em_X11_third f2) mm_X11_third mv_X11_third lkL_44 rfl rfl (Nat.le_of_ble_eq_true rfl) (Nat.le_of_ble_eq_true rfl) rfl ?_
  refine lx_icmp_eq hC 1212 dL_law_390 rfl ?_
  exact next SC' SM' hI'

set_option maxHeartbeats 4000000 in
set_option maxRecDepth 20000 in
theorem lc_hire {n i : Nat} {SC SM : rx_S} (hC : lw_C p s m meth c b L xs D cy ad) (hL3 : L ≤ 3072) (hi : i + 6 ≤ L) (hst : ST_hire N Inv) (hn : n < 512) (hI : Inv n SC SM) (next : ∀ SC' SM', Inv (n + 1) SC' SM' → LW p l e s m below meth c b D cy ad 1212 [some (.ref 5000), some (.ref 0), some (.ref 94), some (.int (nI i))] [] SC' SM') : LW p l e s m below meth c b D cy ad 395 [some (.ref 5000), some (.ref 0), some (.ref 94), some (.int (nI i))] [] SC SM := by
  obtain ⟨r, SC', SM', f1, f2, hI'⟩ := hst n SC SM hn hI (xs (i + 1)) (xs (i + 2))
  refine lx_aload_n (i := 1) hC 396 dL_law_395 rfl rfl rfl ?_
  refine lx_aload_n (i := 0) hC 397 dL_law_396 rfl rfl rfl ?_
  refine lx_iload_n (i := 3) hC 398 dL_law_397 rfl rfl rfl ?_
  refine lx_iconst (v := 1) hC 399 dL_law_398 (by decide) rfl ?_
  refine lx_iadd hC 400 dL_law_399 rfl ?_
  refine lx_sld hC (i + 1) 401 dL_law_400 (nI_add i 1) (by omega) hL3 rfl ?_
  refine lx_aload_n (i := 0) hC 402 dL_law_401 rfl rfl rfl ?_
  refine lx_iload_n (i := 3) hC 403 dL_law_402 rfl rfl rfl ?_
  refine lx_iconst (v := 2) hC 404 dL_law_403 (by decide) rfl ?_
  refine lx_iadd hC 405 dL_law_404 rfl ?_
  refine lx_sld hC (i + 2) 406 dL_law_405 (nI_add i 2) (by omega) hL3 rfl ?_
  refine lw_callC (vs := [.int (xs (i + 1)), .int (xs (i + 2))]) hC 409 dL_law_406 (em_X10_hire f1) mm_X10_hire mv_X10_hire lkL_45 rfl rfl (Nat.le_of_ble_eq_true rfl) (Nat.le_of_ble_eq_true rfl) rfl ?_
  refine lx_aload_n (i := 2) hC 410 dL_law_409 rfl rfl rfl ?_
  refine lx_aload_n (i := 0) hC 411 dL_law_410 rfl rfl rfl ?_
  refine lx_iload_n (i := 3) hC 412 dL_law_411 rfl rfl rfl ?_
  refine lx_iconst (v := 1) hC 413 dL_law_412 (by decide) rfl ?_
  refine lx_iadd hC 414 dL_law_413 rfl ?_
  refine lx_sld hC (i + 1) 415 dL_law_414 (nI_add i 1) (by omega) hL3 rfl ?_
  refine lx_aload_n (i := 0) hC 416 dL_law_415 rfl rfl rfl ?_
  refine lx_iload_n (i := 3) hC 417 dL_law_416 rfl rfl rfl ?_
  refine lx_iconst (v := 2) hC 418 dL_law_417 (by decide) rfl ?_
  refine lx_iadd hC 419 dL_law_418 rfl ?_
  refine lx_sld hC (i + 2) 420 dL_law_419 (nI_add i 2) (by omega) hL3 rfl ?_
  refine lw_callM (vs := [.int (xs (i + 1)), .int (xs (i + 2))]) hC 423 dL_law_420 (em_X11_hire f2) mm_X11_hire mv_X11_hire lkL_49 rfl rfl (Nat.le_of_ble_eq_true rfl) (Nat.le_of_ble_eq_true rfl) rfl ?_
  refine lx_icmp_eq hC 1212 dL_law_423 rfl ?_
  exact next SC' SM' hI'

set_option maxHeartbeats 4000000 in
set_option maxRecDepth 20000 in
theorem lc_swear {n i : Nat} {SC SM : rx_S} (hC : lw_C p s m meth c b L xs D cy ad) (hL3 : L ≤ 3072) (hi : i + 6 ≤ L) (hst : ST_swear N Inv) (hn : n < 512) (hI : Inv n SC SM) (next : ∀ SC' SM', Inv (n + 1) SC' SM' → LW p l e s m below meth c b D cy ad 1212 [some (.ref 5000), some (.ref 0), some (.ref 94), some (.int (nI i))] [] SC' SM') : LW p l e s m below meth c b D cy ad 428 [some (.ref 5000), some (.ref 0), some (.ref 94), some (.int (nI i))] [] SC SM := by
  by_cases hz : xs (i + 2) = 0
  · obtain ⟨r, SC', SM', f1, f2, hI'⟩ := hst n SC SM hn hI (xs (i + 1)) 0 (Or.inl rfl)
    refine lx_aload_n (i := 1) hC 429 dL_law_428 rfl rfl rfl ?_
    refine lx_aload_n (i := 0) hC 430 dL_law_429 rfl rfl rfl ?_
    refine lx_iload_n (i := 3) hC 431 dL_law_430 rfl rfl rfl ?_
    refine lx_iconst (v := 1) hC 432 dL_law_431 (by decide) rfl ?_
    refine lx_iadd hC 433 dL_law_432 rfl ?_
    refine lx_sld hC (i + 1) 434 dL_law_433 (nI_add i 1) (by omega) hL3 rfl ?_
    refine lx_aload_n (i := 0) hC 435 dL_law_434 rfl rfl rfl ?_
    refine lx_iload_n (i := 3) hC 436 dL_law_435 rfl rfl rfl ?_
    refine lx_iconst (v := 2) hC 437 dL_law_436 (by decide) rfl ?_
    refine lx_iadd hC 438 dL_law_437 rfl ?_
    refine lx_sld hC (i + 2) 439 dL_law_438 (nI_add i 2) (by omega) hL3 rfl ?_
    refine lx_if_eq hC 446 442 dL_law_439 rfl rfl (fun _ => ?_) (fun q => absurd hz q)
    refine lx_iconst (v := 0) hC 447 dL_law_446 (by decide) rfl ?_
    refine lw_callC (vs := [.int (xs (i + 1)), .int 0]) hC 450 dL_law_447 (em_X10_swear f1) mm_X10_swear mv_X10_swear lkL_50 rfl rfl (Nat.le_of_ble_eq_true rfl) (Nat.le_of_ble_eq_true rfl) rfl ?_
    refine lx_aload_n (i := 2) hC 451 dL_law_450 rfl rfl rfl ?_
    refine lx_aload_n (i := 0) hC 452 dL_law_451 rfl rfl rfl ?_
    refine lx_iload_n (i := 3) hC 453 dL_law_452 rfl rfl rfl ?_
    refine lx_iconst (v := 1) hC 454 dL_law_453 (by decide) rfl ?_
    refine lx_iadd hC 455 dL_law_454 rfl ?_
    refine lx_sld hC (i + 1) 456 dL_law_455 (nI_add i 1) (by omega) hL3 rfl ?_
    refine lx_aload_n (i := 0) hC 457 dL_law_456 rfl rfl rfl ?_
    refine lx_iload_n (i := 3) hC 458 dL_law_457 rfl rfl rfl ?_
    refine lx_iconst (v := 2) hC 459 dL_law_458 (by decide) rfl ?_
    refine lx_iadd hC 460 dL_law_459 rfl ?_
    refine lx_sld hC (i + 2) 461 dL_law_460 (nI_add i 2) (by omega) hL3 rfl ?_
    refine lx_if_eq hC 468 464 dL_law_461 rfl rfl (fun _ => ?_) (fun q => absurd hz q)
    refine lx_iconst (v := 0) hC 469 dL_law_468 (by decide) rfl ?_
    refine lw_callM (vs := [.int (xs (i + 1)), .int 0]) hC 472 dL_law_469 (em_X11_swear f2) mm_X11_swear mv_X11_swear lkL_54 rfl rfl (Nat.le_of_ble_eq_true rfl) (Nat.le_of_ble_eq_true rfl) rfl ?_
    refine lx_icmp_eq hC 1212 dL_law_472 rfl ?_
    exact next SC' SM' hI'
  · obtain ⟨r, SC', SM', f1, f2, hI'⟩ := hst n SC SM hn hI (xs (i + 1)) 1 (Or.inr rfl)
    refine lx_aload_n (i := 1) hC 429 dL_law_428 rfl rfl rfl ?_
    refine lx_aload_n (i := 0) hC 430 dL_law_429 rfl rfl rfl ?_
    refine lx_iload_n (i := 3) hC 431 dL_law_430 rfl rfl rfl ?_
    refine lx_iconst (v := 1) hC 432 dL_law_431 (by decide) rfl ?_
    refine lx_iadd hC 433 dL_law_432 rfl ?_
    refine lx_sld hC (i + 1) 434 dL_law_433 (nI_add i 1) (by omega) hL3 rfl ?_
    refine lx_aload_n (i := 0) hC 435 dL_law_434 rfl rfl rfl ?_
    refine lx_iload_n (i := 3) hC 436 dL_law_435 rfl rfl rfl ?_
    refine lx_iconst (v := 2) hC 437 dL_law_436 (by decide) rfl ?_
    refine lx_iadd hC 438 dL_law_437 rfl ?_
    refine lx_sld hC (i + 2) 439 dL_law_438 (nI_add i 2) (by omega) hL3 rfl ?_
    refine lx_if_eq hC 446 442 dL_law_439 rfl rfl (fun q => absurd q hz) (fun _ => ?_)
    refine lx_iconst (v := 1) hC 443 dL_law_442 (by decide) rfl ?_
    refine lx_goto hC 447 dL_law_443 rfl ?_
    refine lw_callC (vs := [.int (xs (i + 1)), .int 1]) hC 450 dL_law_447 (em_X10_swear f1) mm_X10_swear mv_X10_swear lkL_50 rfl rfl (Nat.le_of_ble_eq_true rfl) (Nat.le_of_ble_eq_true rfl) rfl ?_
    refine lx_aload_n (i := 2) hC 451 dL_law_450 rfl rfl rfl ?_
    refine lx_aload_n (i := 0) hC 452 dL_law_451 rfl rfl rfl ?_
    refine lx_iload_n (i := 3) hC 453 dL_law_452 rfl rfl rfl ?_
    refine lx_iconst (v := 1) hC 454 dL_law_453 (by decide) rfl ?_
    refine lx_iadd hC 455 dL_law_454 rfl ?_
    refine lx_sld hC (i + 1) 456 dL_law_455 (nI_add i 1) (by omega) hL3 rfl ?_
    refine lx_aload_n (i := 0) hC 457 dL_law_456 rfl rfl rfl ?_
    refine lx_iload_n (i := 3) hC 458 dL_law_457 rfl rfl rfl ?_
    refine lx_iconst (v := 2) hC 459 dL_law_458 (by decide) rfl ?_
    refine lx_iadd hC 460 dL_law_459 rfl ?_
    refine lx_sld hC (i + 2) 461 dL_law_460 (nI_add i 2) (by omega) hL3 rfl ?_
    refine lx_if_eq hC 468 464 dL_law_461 rfl rfl (fun q => absurd q hz) (fun _ => ?_)
    refine lx_iconst (v := 1) hC 465 dL_law_464 (by decide) rfl ?_
    refine lx_goto hC 469 dL_law_465 rfl ?_
    refine lw_callM (vs := [.int (xs (i + 1)), .int 1]) hC 472 dL_law_469 (em_X11_swear f2) mm_X11_swear mv_X11_swear lkL_54 rfl rfl (Nat.le_of_ble_eq_true rfl) (Nat.le_of_ble_eq_true rfl) rfl ?_
    refine lx_icmp_eq hC 1212 dL_law_472 rfl ?_
    exact next SC' SM' hI'

set_option maxHeartbeats 4000000 in
set_option maxRecDepth 20000 in
theorem lc_weeks {n i : Nat} {SC SM : rx_S} (hC : lw_C p s m meth c b L xs D cy ad) (hL3 : L ≤ 3072) (hi : i + 6 ≤ L) (hst : ST_weeks N Inv) (hn : n < 512) (hI : Inv n SC SM) (next : ∀ SC' SM', Inv (n + 1) SC' SM' → LW p l e s m below meth c b D cy ad 1212 [some (.ref 5000), some (.ref 0), some (.ref 94), some (.int (nI i))] [] SC' SM') : LW p l e s m below meth c b D cy ad 477 [some (.ref 5000), some (.ref 0), some (.ref 94), some (.int (nI i))] [] SC SM := by
  obtain ⟨r, SC', SM', f1, f2, hI'⟩ := hst n SC SM hn hI (xs (i + 1))
  refine lx_aload_n (i := 1) hC 478 dL_law_477 rfl rfl rfl ?_
  refine lx_aload_n (i := 0) hC 479 dL_law_478 rfl rfl rfl ?_
  refine lx_iload_n (i := 3) hC 480 dL_law_479 rfl rfl rfl ?_
  refine lx_iconst (v := 1) hC 481 dL_law_480 (by decide) rfl ?_
  refine lx_iadd hC 482 dL_law_481 rfl ?_
  refine lx_sld hC (i + 1) 483 dL_law_482 (nI_add i 1) (by omega) hL3 rfl ?_
  refine lw_callC (vs := [.int (xs (i + 1))]) hC 486 dL_law_483 (em_X10_weeks f1) mm_X10_weeks mv_X10_weeks lkL_55 rfl rfl (Nat.le_of_ble_eq_true rfl) (Nat.le_of_ble_eq_true rfl) rfl ?_
  refine lx_aload_n (i := 2) hC 487 dL_law_486 rfl rfl rfl ?_
  refine lx_aload_n (i := 0) hC 488 dL_law_487 rfl rfl rfl ?_
  refine lx_iload_n (i := 3) hC 489 dL_law_488 rfl rfl rfl ?_
  refine lx_iconst (v := 1) hC 490 dL_law_489 (by decide) rfl ?_
  refine lx_iadd hC 491 dL_law_490 rfl ?_
  refine lx_sld hC (i + 1) 492 dL_law_491 (nI_add i 1) (by omega) hL3 rfl ?_
  refine lw_callM (vs := [.int (xs (i + 1))]) hC 495 dL_law_492 (em_X11_weeks f2) mm_X11_weeks mv_X11_weeks lkL_58 rfl rfl (Nat.le_of_ble_eq_true rfl) (Nat.le_of_ble_eq_true rfl) rfl ?_
  refine lx_icmp_eq hC 1212 dL_law_495 rfl ?_
  exact next SC' SM' hI'

set_option maxHeartbeats 4000000 in
set_option maxRecDepth 20000 in
theorem lc_undo {n i : Nat} {SC SM : rx_S} (hC : lw_C p s m meth c b L xs D cy ad) (hL3 : L ≤ 3072) (hi : i + 6 ≤ L) (hst : ST_undo N Inv) (hn : n < 512) (hI : Inv n SC SM) (next : ∀ SC' SM', Inv (n + 1) SC' SM' → LW p l e s m below meth c b D cy ad 1212 [some (.ref 5000), some (.ref 0), some (.ref 94), some (.int (nI i))] [] SC' SM') : LW p l e s m below meth c b D cy ad 500 [some (.ref 5000), some (.ref 0), some (.ref 94), some (.int (nI i))] [] SC SM := by
  obtain ⟨r, SC', SM', f1, f2, hI'⟩ := hst n SC SM hn hI
  refine lx_aload_n (i := 1) hC 501 dL_law_500 rfl rfl rfl ?_
  refine lw_callC (vs := []) hC 504 dL_law_501 (em_X10_undo f1) mm_X10_undo mv_X10_undo lkL_59 rfl rfl (Nat.le_of_ble_eq_true rfl) (Nat.le_of_ble_eq_true rfl) rfl ?_
  refine lx_aload_n (i := 2) hC 505 dL_law_504 rfl rfl rfl ?_
  refine lw_callM (vs := []) hC 508 dL_law_505 (em_X11_undo f2) mm_X11_undo mv_X11_undo lkL_63 rfl rfl (Nat.le_of_ble_eq_true rfl) (Nat.le_of_ble_eq_true rfl) rfl ?_
  refine lx_icmp_eq hC 1212 dL_law_508 rfl ?_
  exact next SC' SM' hI'

set_option maxHeartbeats 4000000 in
set_option maxRecDepth 20000 in
theorem lc_bends {n i : Nat} {SC SM : rx_S} (hC : lw_C p s m meth c b L xs D cy ad) (hL3 : L ≤ 3072) (hi : i + 6 ≤ L) (hst : ST_bends N Inv) (hn : n < 512) (hI : Inv n SC SM) (next : ∀ SC' SM', Inv (n + 1) SC' SM' → LW p l e s m below meth c b D cy ad 1212 [some (.ref 5000), some (.ref 0), some (.ref 94), some (.int (nI i))] [] SC' SM') : LW p l e s m below meth c b D cy ad 513 [some (.ref 5000), some (.ref 0), some (.ref 94), some (.int (nI i))] [] SC SM := by
  obtain ⟨r, SC', SM', f1, f2, hI'⟩ := hst n SC SM hn hI (xs (i + 1)) (xs (i + 2)) (xs (i + 3))
  refine lx_aload_n (i := 1) hC 514 dL_law_513 rfl rfl rfl ?_
  refine lx_aload_n (i := 0) hC 515 dL_law_514 rfl rfl rfl ?_
  refine lx_iload_n (i := 3) hC 516 dL_law_515 rfl rfl rfl ?_
  refine lx_iconst (v := 1) hC 517 dL_law_516 (by decide) rfl ?_
  refine lx_iadd hC 518 dL_law_517 rfl ?_
  refine lx_sld hC (i + 1) 519 dL_law_518 (nI_add i 1) (by omega) hL3 rfl ?_
  refine lx_aload_n (i := 0) hC 520 dL_law_519 rfl rfl rfl ?_
  refine lx_iload_n (i := 3) hC 521 dL_law_520 rfl rfl rfl ?_
  refine lx_iconst (v := 2) hC 522 dL_law_521 (by decide) rfl ?_
  refine lx_iadd hC 523 dL_law_522 rfl ?_
  refine lx_sld hC (i + 2) 524 dL_law_523 (nI_add i 2) (by omega) hL3 rfl ?_
  refine lx_aload_n (i := 0) hC 525 dL_law_524 rfl rfl rfl ?_
  refine lx_iload_n (i := 3) hC 526 dL_law_525 rfl rfl rfl ?_
  refine lx_iconst (v := 3) hC 527 dL_law_526 (by decide) rfl ?_
  refine lx_iadd hC 528 dL_law_527 rfl ?_
  refine lx_sld hC (i + 3) 529 dL_law_528 (nI_add i 3) (by omega) hL3 rfl ?_
  refine lw_callC (vs := [.int (xs (i + 1)), .int (xs (i + 2)), .int (xs (i + 3))]) hC 532 dL_law_529 (em_X10_bends f1) mm_X10_bends mv_X10_bends lkL_64 rfl rfl (Nat.le_of_ble_eq_true rfl) (Nat.le_of_ble_eq_true rfl) rfl ?_
  refine lx_aload_n (i := 2) hC 533 dL_law_532 rfl rfl rfl ?_
  refine lx_aload_n (i := 0) hC 534 dL_law_533 rfl rfl rfl ?_
  refine lx_iload_n (i := 3) hC 535 dL_law_534 rfl rfl rfl ?_
  refine lx_iconst (v := 1) hC 536 dL_law_535 (by decide) rfl ?_
  refine lx_iadd hC 537 dL_law_536 rfl ?_
  refine lx_sld hC (i + 1) 538 dL_law_537 (nI_add i 1) (by omega) hL3 rfl ?_
  refine lx_aload_n (i := 0) hC 539 dL_law_538 rfl rfl rfl ?_
  refine lx_iload_n (i := 3) hC 540 dL_law_539 rfl rfl rfl ?_
  refine lx_iconst (v := 2) hC 541 dL_law_540 (by decide) rfl ?_
  refine lx_iadd hC 542 dL_law_541 rfl ?_
  refine lx_sld hC (i + 2) 543 dL_law_542 (nI_add i 2) (by omega) hL3 rfl ?_
  refine lx_aload_n (i := 0) hC 544 dL_law_543 rfl rfl rfl ?_
  refine lx_iload_n (i := 3) hC 545 dL_law_544 rfl rfl rfl ?_
  refine lx_iconst (v := 3) hC 546 dL_law_545 (by decide) rfl ?_
  refine lx_iadd hC 547 dL_law_546 rfl ?_
  refine lx_sld hC (i + 3) 548 dL_law_547 (nI_add i 3) (by omega) hL3 rfl ?_
  refine lw_callM (vs := [.int (xs (i + 1)), .int (xs (i + 2)), .int (xs (i + 3))]) hC 551 dL_law_548 (em_X11_bends f2) mm_X11_bends mv_X11_bends lkL_68 rfl rfl (Nat.le_of_ble_eq_true rfl) (Nat.le_of_ble_eq_true rfl) rfl ?_
  refine lx_icmp_eq hC 1212 dL_law_551 rfl ?_
  exact next SC' SM' hI'

set_option maxHeartbeats 4000000 in
set_option maxRecDepth 20000 in
theorem lc_heard {n i : Nat} {SC SM : rx_S} (hC : lw_C p s m meth c b L xs D cy ad) (hL3 : L ≤ 3072) (hi : i + 6 ≤ L) (hst : ST_heard N Inv) (hn : n < 512) (hI : Inv n SC SM) (next : ∀ SC' SM', Inv (n + 1) SC' SM' → LW p l e s m below meth c b D cy ad 1212 [some (.ref 5000), some (.ref 0), some (.ref 94), some (.int (nI i))] [] SC' SM') : LW p l e s m below meth c b D cy ad 556 [some (.ref 5000), some (.ref 0), some (.ref 94), some (.int (nI i))] [] SC SM := by
  obtain ⟨r, SC', SM', f1, f2, hI'⟩ := hst n SC SM hn hI (xs (i + 1)) (xs (i + 2))
  refine lx_aload_n (i := 1) hC 557 dL_law_556 rfl rfl rfl ?_
  refine lx_aload_n (i := 0) hC 558 dL_law_557 rfl rfl rfl ?_
  refine lx_iload_n (i := 3) hC 559 dL_law_558 rfl rfl rfl ?_
  refine lx_iconst (v := 1) hC 560 dL_law_559 (by decide) rfl ?_
  refine lx_iadd hC 561 dL_law_560 rfl ?_
  refine lx_sld hC (i + 1) 562 dL_law_561 (nI_add i 1) (by omega) hL3 rfl ?_
  refine lx_aload_n (i := 0) hC 563 dL_law_562 rfl rfl rfl ?_
  refine lx_iload_n (i := 3) hC 564 dL_law_563 rfl rfl rfl ?_
  refine lx_iconst (v := 2) hC 565 dL_law_564 (by decide) rfl ?_
  refine lx_iadd hC 566 dL_law_565 rfl ?_
  refine lx_sld hC (i + 2) 567 dL_law_566 (nI_add i 2) (by omega) hL3 rfl ?_
  refine lw_callC (vs := [.int (xs (i + 1)), .int (xs (i + 2))]) hC 570 dL_law_567 (em_X10_heard f1) mm_X10_heard mv_X10_heard lkL_69 rfl rfl (Nat.le_of_ble_eq_true rfl) (Nat.le_of_ble_eq_true rfl) rfl ?_
  refine lx_aload_n (i := 2) hC 571 dL_law_570 rfl rfl rfl ?_
  refine lx_aload_n (i := 0) hC 572 dL_law_571 rfl rfl rfl ?_
  refine lx_iload_n (i := 3) hC 573 dL_law_572 rfl rfl rfl ?_
  refine lx_iconst (v := 1) hC 574 dL_law_573 (by decide) rfl ?_
  refine lx_iadd hC 575 dL_law_574 rfl ?_
  refine lx_sld hC (i + 1) 576 dL_law_575 (nI_add i 1) (by omega) hL3 rfl ?_
  refine lx_aload_n (i := 0) hC 577 dL_law_576 rfl rfl rfl ?_
  refine lx_iload_n (i := 3) hC 578 dL_law_577 rfl rfl rfl ?_
  refine lx_iconst (v := 2) hC 579 dL_law_578 (by decide) rfl ?_
  refine lx_iadd hC 580 dL_law_579 rfl ?_
  refine lx_sld hC (i + 2) 581 dL_law_580 (nI_add i 2) (by omega) hL3 rfl ?_
  refine lw_callM (vs := [.int (xs (i + 1)), .int (xs (i + 2))]) hC 584 dL_law_581 (em_X11_heard f2) mm_X11_heard mv_X11_heard lkL_72 rfl rfl (Nat.le_of_ble_eq_true rfl) (Nat.le_of_ble_eq_true rfl) rfl ?_
  refine lx_icmp_eq hC 1212 dL_law_584 rfl ?_
  exact next SC' SM' hI'

set_option maxHeartbeats 4000000 in
set_option maxRecDepth 20000 in
theorem lc_chain {n i : Nat} {SC SM : rx_S} (hC : lw_C p s m meth c b L xs D cy ad) (hL3 : L ≤ 3072) (hi : i + 6 ≤ L) (hst : ST_chain N Inv) (hn : n < 512) (hI : Inv n SC SM) (next : ∀ SC' SM', Inv (n + 1) SC' SM' → LW p l e s m below meth c b D cy ad 1212 [some (.ref 5000), some (.ref 0), some (.ref 94), some (.int (nI i))] [] SC' SM') : LW p l e s m below meth c b D cy ad 589 [some (.ref 5000), some (.ref 0), some (.ref 94), some (.int (nI i))] [] SC SM := by
  obtain ⟨r, SC', SM', f1, f2, hI'⟩ := hst n SC SM hn hI (xs (i + 1)) (xs (i + 2)) (xs (i + 3))
  refine lx_aload_n (i := 1) hC 590 dL_law_589 rfl rfl rfl ?_
  refine lx_aload_n (i := 0) hC 591 dL_law_590 rfl rfl rfl ?_
  refine lx_iload_n (i := 3) hC 592 dL_law_591 rfl rfl rfl ?_
  refine lx_iconst (v := 1) hC 593 dL_law_592 (by decide) rfl ?_
  refine lx_iadd hC 594 dL_law_593 rfl ?_
  refine lx_sld hC (i + 1) 595 dL_law_594 (nI_add i 1) (by omega) hL3 rfl ?_
  refine lx_aload_n (i := 0) hC 596 dL_law_595 rfl rfl rfl ?_
  refine lx_iload_n (i := 3) hC 597 dL_law_596 rfl rfl rfl ?_
  refine lx_iconst (v := 2) hC 598 dL_law_597 (by decide) rfl ?_
  refine lx_iadd hC 599 dL_law_598 rfl ?_
  refine lx_sld hC (i + 2) 600 dL_law_599 (nI_add i 2) (by omega) hL3 rfl ?_
  refine lx_aload_n (i := 0) hC 601 dL_law_600 rfl rfl rfl ?_
  refine lx_iload_n (i := 3) hC 602 dL_law_601 rfl rfl rfl ?_
  refine lx_iconst (v := 3) hC 603 dL_law_602 (by decide) rfl ?_
  refine lx_iadd hC 604 dL_law_603 rfl ?_
  refine lx_sld hC (i + 3) 605 dL_law_604 (nI_add i 3) (by omega) hL3 rfl ?_
  refine lw_callC (vs := [.int (xs (i + 1)), .int (xs (i + 2)), .int (xs (i + 3))]) hC 608 dL_law_605 (em_X10_chain f1) mm_X10_chain mv_X10_chain lkL_73 rfl rfl (Nat.le_of_ble_eq_true rfl) (Nat.le_of_ble_eq_true rfl) rfl ?_
  refine lx_aload_n (i := 2) hC 609 dL_law_608 rfl rfl rfl ?_
  refine lx_aload_n (i := 0) hC 610 dL_law_609 rfl rfl rfl ?_
  refine lx_iload_n (i := 3) hC 611 dL_law_610 rfl rfl rfl ?_
  refine lx_iconst (v := 1) hC 612 dL_law_611 (by decide) rfl ?_
  refine lx_iadd hC 613 dL_law_612 rfl ?_
  refine lx_sld hC (i + 1) 614 dL_law_613 (nI_add i 1) (by omega) hL3 rfl ?_
  refine lx_aload_n (i := 0) hC 615 dL_law_614 rfl rfl rfl ?_
  refine lx_iload_n (i := 3) hC 616 dL_law_615 rfl rfl rfl ?_
  refine lx_iconst (v := 2) hC 617 dL_law_616 (by decide) rfl ?_
  refine lx_iadd hC 618 dL_law_617 rfl ?_
  refine lx_sld hC (i + 2) 619 dL_law_618 (nI_add i 2) (by omega) hL3 rfl ?_
  refine lx_aload_n (i := 0) hC 620 dL_law_619 rfl rfl rfl ?_
  refine lx_iload_n (i := 3) hC 621 dL_law_620 rfl rfl rfl ?_
  refine lx_iconst (v := 3) hC 622 dL_law_621 (by decide) rfl ?_
  refine lx_iadd hC 623 dL_law_622 rfl ?_
  refine lx_sld hC (i + 3) 624 dL_law_623 (nI_add i 3) (by omega) hL3 rfl ?_
  refine lw_callM (vs := [.int (xs (i + 1)), .int (xs (i + 2)), .int (xs (i + 3))]) hC 627 dL_law_624 (em_X11_chain f2) mm_X11_chain mv_X11_chain lkL_76 rfl rfl (Nat.le_of_ble_eq_true rfl) (Nat.le_of_ble_eq_true rfl) rfl ?_
  refine lx_icmp_eq hC 1212 dL_law_627 rfl ?_
  exact next SC' SM' hI'

set_option maxHeartbeats 4000000 in
set_option maxRecDepth 20000 in
theorem lc_say {n i : Nat} {SC SM : rx_S} (hC : lw_C p s m meth c b L xs D cy ad) (hL3 : L ≤ 3072) (hi : i + 6 ≤ L) (hst : ST_say N Inv) (hn : n < 512) (hI : Inv n SC SM) (next : ∀ SC' SM', Inv (n + 1) SC' SM' → LW p l e s m below meth c b D cy ad 1212 [some (.ref 5000), some (.ref 0), some (.ref 94), some (.int (nI i))] [] SC' SM') : LW p l e s m below meth c b D cy ad 632 [some (.ref 5000), some (.ref 0), some (.ref 94), some (.int (nI i))] [] SC SM := by
  obtain ⟨r, SC', SM', f1, f2, hI'⟩ := hst n SC SM hn hI (xs (i + 1)) (xs (i + 2))
  refine lx_aload_n (i := 1) hC 633 dL_law_632 rfl rfl rfl ?_
  refine lx_aload_n (i := 0) hC 634 dL_law_633 rfl rfl rfl ?_
  refine lx_iload_n (i := 3) hC 635 dL_law_634 rfl rfl rfl ?_
  refine lx_iconst (v := 1) hC 636 dL_law_635 (by decide) rfl ?_
  refine lx_iadd hC 637 dL_law_636 rfl ?_
  refine lx_sld hC (i + 1) 638 dL_law_637 (nI_add i 1) (by omega) hL3 rfl ?_
  refine lx_aload_n (i := 0) hC 639 dL_law_638 rfl rfl rfl ?_
  refine lx_iload_n (i := 3) hC 640 dL_law_639 rfl rfl rfl ?_
  refine lx_iconst (v := 2) hC 641 dL_law_640 (by decide) rfl ?_
  refine lx_iadd hC 642 dL_law_641 rfl ?_
  refine lx_sld hC (i + 2) 643 dL_law_642 (nI_add i 2) (by omega) hL3 rfl ?_
  refine lw_callC (vs := [.int (xs (i + 1)), .int (xs (i + 2))]) hC 646 dL_law_643 (em_X10_say f1) mm_X10_say mv_X10_say lkL_77 rfl rfl (Nat.le_of_ble_eq_true rfl) (Nat.le_of_ble_eq_true rfl) rfl ?_
  refine lx_aload_n (i := 2) hC 647 dL_law_646 rfl rfl rfl ?_
  refine lx_aload_n (i := 0) hC 648 dL_law_647 rfl rfl rfl ?_
  refine lx_iload_n (i := 3) hC 649 dL_law_648 rfl rfl rfl ?_
  refine lx_iconst (v := 1) hC 650 dL_law_649 (by decide) rfl ?_
  refine lx_iadd hC 651 dL_law_650 rfl ?_
  refine lx_sld hC (i + 1) 652 dL_law_651 (nI_add i 1) (by omega) hL3 rfl ?_
  refine lx_aload_n (i := 0) hC 653 dL_law_652 rfl rfl rfl ?_
  refine lx_iload_n (i := 3) hC 654 dL_law_653 rfl rfl rfl ?_
  refine lx_iconst (v := 2) hC 655 dL_law_654 (by decide) rfl ?_
  refine lx_iadd hC 656 dL_law_655 rfl ?_
  refine lx_sld hC (i + 2) 657 dL_law_656 (nI_add i 2) (by omega) hL3 rfl ?_
  refine lw_callM (vs := [.int (xs (i + 1)), .int (xs (i + 2))]) hC 660 dL_law_657 (em_X11_say f2) mm_X11_say mv_X11_say lkL_80 rfl rfl (Nat.le_of_ble_eq_true rfl) (Nat.le_of_ble_eq_true rfl) rfl ?_
  refine lx_icmp_eq hC 1212 dL_law_660 rfl ?_
  exact next SC' SM' hI'

set_option maxHeartbeats 4000000 in
set_option maxRecDepth 20000 in
theorem lc_loses {n i : Nat} {SC SM : rx_S} (hC : lw_C p s m meth c b L xs D cy ad) (hL3 : L ≤ 3072) (hi : i + 6 ≤ L) (hst : ST_loses N Inv) (hn : n < 512) (hI : Inv n SC SM) (next : ∀ SC' SM', Inv (n + 1) SC' SM' → LW p l e s m below meth c b D cy ad 1212 [some (.ref 5000), some (.ref 0), some (.ref 94), some (.int (nI i))] [] SC' SM') : LW p l e s m below meth c b D cy ad 665 [some (.ref 5000), some (.ref 0), some (.ref 94), some (.int (nI i))] [] SC SM := by
  obtain ⟨r, SC', SM', f1, f2, hI'⟩ := hst n SC SM hn hI (xs (i + 1)) (xs (i + 2)) (xs (i + 3))
  refine lx_aload_n (i := 1) hC 666 dL_law_665 rfl rfl rfl ?_
  refine lx_aload_n (i := 0) hC 667 dL_law_666 rfl rfl rfl ?_
  refine lx_iload_n (i := 3) hC 668 dL_law_667 rfl rfl rfl ?_
  refine lx_iconst (v := 1) hC 669 dL_law_668 (by decide) rfl ?_
  refine lx_iadd hC 670 dL_law_669 rfl ?_
  refine lx_sld hC (i + 1) 671 dL_law_670 (nI_add i 1) (by omega) hL3 rfl ?_
  refine lx_aload_n (i := 0) hC 672 dL_law_671 rfl rfl rfl ?_
  refine lx_iload_n (i := 3) hC 673 dL_law_672 rfl rfl rfl ?_
  refine lx_iconst (v := 2) hC 674 dL_law_673 (by decide) rfl ?_
  refine lx_iadd hC 675 dL_law_674 rfl ?_
  refine lx_sld hC (i + 2) 676 dL_law_675 (nI_add i 2) (by omega) hL3 rfl ?_
  refine lx_aload_n (i := 0) hC 677 dL_law_676 rfl rfl rfl ?_
  refine lx_iload_n (i := 3) hC 678 dL_law_677 rfl rfl rfl ?_
  refine lx_iconst (v := 3) hC 679 dL_law_678 (by decide) rfl ?_
  refine lx_iadd hC 680 dL_law_679 rfl ?_
  refine lx_sld hC (i + 3) 681 dL_law_680 (nI_add i 3) (by omega) hL3 rfl ?_
  refine lw_callC (vs := [.int (xs (i + 1)), .int (xs (i + 2)), .int (xs (i + 3))]) hC 684 dL_law_681 (em_X10_loses f1) mm_X10_loses mv_X10_loses lkL_81 rfl rfl (Nat.le_of_ble_eq_true rfl) (Nat.le_of_ble_eq_true rfl) rfl ?_
  refine lx_aload_n (i := 2) hC 685 dL_law_684 rfl rfl rfl ?_
  refine lx_aload_n (i := 0) hC 686 dL_law_685 rfl rfl rfl ?_
  refine lx_iload_n (i := 3) hC 687 dL_law_686 rfl rfl rfl ?_
  refine lx_iconst (v := 1) hC 688 dL_law_687 (by decide) rfl ?_
  refine lx_iadd hC 689 dL_law_688 rfl ?_
  refine lx_sld hC (i + 1) 690 dL_law_689 (nI_add i 1) (by omega) hL3 rfl ?_
  refine lx_aload_n (i := 0) hC 691 dL_law_690 rfl rfl rfl ?_
  refine lx_iload_n (i := 3) hC 692 dL_law_691 rfl rfl rfl ?_
  refine lx_iconst (v := 2) hC 693 dL_law_692 (by decide) rfl ?_
  refine lx_iadd hC 694 dL_law_693 rfl ?_
  refine lx_sld hC (i + 2) 695 dL_law_694 (nI_add i 2) (by omega) hL3 rfl ?_
  refine lx_aload_n (i := 0) hC 696 dL_law_695 rfl rfl rfl ?_
  refine lx_iload_n (i := 3) hC 697 dL_law_696 rfl rfl rfl ?_
  refine lx_iconst (v := 3) hC 698 dL_law_697 (by decide) rfl ?_
  refine lx_iadd hC 699 dL_law_698 rfl ?_
  refine lx_sld hC (i + 3) 700 dL_law_699 (nI_add i 3) (by omega) hL3 rfl ?_
  refine lw_callM (vs := [.int (xs (i + 1)), .int (xs (i + 2)), .int (xs (i + 3))]) hC 703 dL_law_700 (em_X11_loses f2) mm_X11_loses mv_X11_loses lkL_84 rfl rfl (Nat.le_of_ble_eq_true rfl) (Nat.le_of_ble_eq_true rfl) rfl ?_
  refine lx_icmp_eq hC 1212 dL_law_703 rfl ?_
  exact next SC' SM' hI'

set_option maxHeartbeats 4000000 in
set_option maxRecDepth 20000 in
theorem lc_least {n i : Nat} {SC SM : rx_S} (hC : lw_C p s m meth c b L xs D cy ad) (hL3 : L ≤ 3072) (hi : i + 6 ≤ L) (hst : ST_least N Inv) (hn : n < 512) (hI : Inv n SC SM) (next : ∀ SC' SM', Inv (n + 1) SC' SM' → LW p l e s m below meth c b D cy ad 1212 [some (.ref 5000), some (.ref 0), some (.ref 94), some (.int (nI i))] [] SC' SM') : LW p l e s m below meth c b D cy ad 708 [some (.ref 5000), some (.ref 0), some (.ref 94), some (.int (nI i))] [] SC SM := by
  obtain ⟨r, SC', SM', f1, f2, hI'⟩ := hst n SC SM hn hI (xs (i + 1))
  refine lx_aload_n (i := 1) hC 709 dL_law_708 rfl rfl rfl ?_
  refine lx_aload_n (i := 0) hC 710 dL_law_709 rfl rfl rfl ?_
  refine lx_iload_n (i := 3) hC 711 dL_law_710 rfl rfl rfl ?_
  refine lx_iconst (v := 1) hC 712 dL_law_711 (by decide) rfl ?_
  refine lx_iadd hC 713 dL_law_712 rfl ?_
  refine lx_sld hC (i + 1) 714 dL_law_713 (nI_add i 1) (by omega) hL3 rfl ?_
  refine lw_callC (vs := [.int (xs (i + 1))]) hC 717 dL_law_714 (em_X10_least f1) mm_X10_least mv_X10_least lkL_85 rfl rfl (Nat.le_of_ble_eq_true rfl) (Nat.le_of_ble_eq_true rfl) rfl ?_
  refine lx_aload_n (i := 2) hC 718 dL_law_717 rfl rfl rfl ?_
  refine lx_aload_n (i := 0) hC 719 dL_law_718 rfl rfl rfl ?_
  refine lx_iload_n (i := 3) hC 720 dL_law_719 rfl rfl rfl ?_
  refine lx_iconst (v := 1) hC 721 dL_law_720 (by decide) rfl ?_
  refine lx_iadd hC 722 dL_law_721 rfl ?_
  refine lx_sld hC (i + 1) 723 dL_law_722 (nI_add i 1) (by omega) hL3 rfl ?_
  refine lw_callM (vs := [.int (xs (i + 1))]) hC 726 dL_law_723 (em_X11_least f2) mm_X11_least mv_X11_least lkL_88 rfl rfl (Nat.le_of_ble_eq_true rfl) (Nat.le_of_ble_eq_true rfl) rfl ?_
  refine lx_icmp_eq hC 1212 dL_law_726 rfl ?_
  exact next SC' SM' hI'

set_option maxHeartbeats 4000000 in
set_option maxRecDepth 20000 in
theorem lc_truest {n i : Nat} {SC SM : rx_S} (hC : lw_C p s m meth c b L xs D cy ad) (hL3 : L ≤ 3072) (hi : i + 6 ≤ L) (hst : ST_truest N Inv) (hn : n < 512) (hI : Inv n SC SM) (next : ∀ SC' SM', Inv (n + 1) SC' SM' → LW p l e s m below meth c b D cy ad 1212 [some (.ref 5000), some (.ref 0), some (.ref 94), some (.int (nI i))] [] SC' SM') : LW p l e s m below meth c b D cy ad 731 [some (.ref 5000), some (.ref 0), some (.ref 94), some (.int (nI i))] [] SC SM := by
  obtain ⟨r, SC', SM', f1, f2, hI'⟩ := hst n SC SM hn hI (xs (i + 1))
  refine lx_aload_n (i := 1) hC 732 dL_law_731 rfl rfl rfl ?_
  refine lx_aload_n (i := 0) hC 733 dL_law_732 rfl rfl rfl ?_
  refine lx_iload_n (i := 3) hC 734 dL_law_733 rfl rfl rfl ?_
  refine lx_iconst (v := 1) hC 735 dL_law_734 (by decide) rfl ?_
  refine lx_iadd hC 736 dL_law_735 rfl ?_
  refine lx_sld hC (i + 1) 737 dL_law_736 (nI_add i 1) (by omega) hL3 rfl ?_
  refine lw_callC (vs := [.int (xs (i + 1))]) hC 740 dL_law_737 (em_X10_truest f1) mm_X10_truest mv_X10_truest lkL_89 rfl rfl (Nat.le_of_ble_eq_true rfl) (Nat.le_of_ble_eq_true rfl) rfl ?_
  refine lx_aload_n (i := 2) hC 741 dL_law_740 rfl rfl rfl ?_
  refine lx_aload_n (i := 0) hC 742 dL_law_741 rfl rfl rfl ?_
  refine lx_iload_n (i := 3) hC 743 dL_law_742 rfl rfl rfl ?_
  refine lx_iconst (v := 1) hC 744 dL_law_743 (by decide) rfl ?_
  refine lx_iadd hC 745 dL_law_744 rfl ?_
  refine lx_sld hC (i + 1) 746 dL_law_745 (nI_add i 1) (by omega) hL3 rfl ?_
  refine lw_callM (vs := [.int (xs (i + 1))]) hC 749 dL_law_746 (em_X11_truest f2) mm_X11_truest mv_X11_truest lkL_92 rfl rfl (Nat.le_of_ble_eq_true rfl) (Nat.le_of_ble_eq_true rfl) rfl ?_
  refine lx_icmp_eq hC 1212 dL_law_749 rfl ?_
  exact next SC' SM' hI'

set_option maxHeartbeats 4000000 in
set_option maxRecDepth 20000 in
theorem lc_crooked {n i : Nat} {SC SM : rx_S} (hC : lw_C p s m meth c b L xs D cy ad) (hL3 : L ≤ 3072) (hi : i + 6 ≤ L) (hst : ST_crooked N Inv) (hn : n < 512) (hI : Inv n SC SM) (next : ∀ SC' SM', Inv (n + 1) SC' SM' → LW p l e s m below meth c b D cy ad 1212 [some (.ref 5000), some (.ref 0), some (.ref 94), some (.int (nI i))] [] SC' SM') : LW p l e s m below meth c b D cy ad 754 [some (.ref 5000), some (.ref 0), some (.ref 94), some (.int (nI i))] [] SC SM := by
  obtain ⟨r, SC', SM', f1, f2, hI'⟩ := hst n SC SM hn hI (xs (i + 1)) (xs (i + 2))
  refine lx_aload_n (i := 1) hC 755 dL_law_754 rfl rfl rfl ?_
  refine lx_aload_n (i := 0) hC 756 dL_law_755 rfl rfl rfl ?_
  refine lx_iload_n (i := 3) hC 757 dL_law_756 rfl rfl rfl ?_
  refine lx_iconst (v := 1) hC 758 dL_law_757 (by decide) rfl ?_
  refine lx_iadd hC 759 dL_law_758 rfl ?_
  refine lx_sld hC (i + 1) 760 dL_law_759 (nI_add i 1) (by omega) hL3 rfl ?_
  refine lx_aload_n (i := 0) hC 761 dL_law_760 rfl rfl rfl ?_
  refine lx_iload_n (i := 3) hC 762 dL_law_761 rfl rfl rfl ?_
  refine lx_iconst (v := 2) hC 763 dL_law_762 (by decide) rfl ?_
  refine lx_iadd hC 764 dL_law_763 rfl ?_
  refine lx_sld hC (i + 2) 765 dL_law_764 (nI_add i 2) (by omega) hL3 rfl ?_
  refine lw_callC (vs := [.int (xs (i + 1)), .int (xs (i + 2))]) hC 768 dL_law_765 (em_X10_crooked f1) mm_X10_crooked mv_X10_crooked lkL_93 rfl rfl (Nat.le_of_ble_eq_true rfl) (Nat.le_of_ble_eq_true rfl) rfl ?_
  refine lx_aload_n (i := 2) hC 769 dL_law_768 rfl rfl rfl ?_
  refine lx_aload_n (i := 0) hC 770 dL_law_769 rfl rfl rfl ?_
  refine lx_iload_n (i := 3) hC 771 dL_law_770 rfl rfl rfl ?_
  refine lx_iconst (v := 1) hC 772 dL_law_771 (by decide) rfl ?_
  refine lx_iadd hC 773 dL_law_772 rfl ?_
  refine lx_sld hC (i + 1) 774 dL_law_773 (nI_add i 1) (by omega) hL3 rfl ?_
  refine lx_aload_n (i := 0) hC 775 dL_law_774 rfl rfl rfl ?_
  refine lx_iload_n (i := 3) hC 776 dL_law_775 rfl rfl rfl ?_
  refine lx_iconst (v := 2) hC 777 dL_law_776 (by decide) rfl ?_
  refine lx_iadd hC 778 dL_law_777 rfl ?_
  refine lx_sld hC (i + 2) 779 dL_law_778 (nI_add i 2) (by omega) hL3 rfl ?_
  refine lw_callM (vs := [.int (xs (i + 1)), .int (xs (i + 2))]) hC 782 dL_law_779 (em_X11_crooked f2) mm_X11_crooked mv_X11_crooked lkL_96 rfl rfl (Nat.le_of_ble_eq_true rfl) (Nat.le_of_ble_eq_true rfl) rfl ?_
  refine lx_icmp_eq hC 1212 dL_law_782 rfl ?_
  exact next SC' SM' hI'

set_option maxHeartbeats 4000000 in
set_option maxRecDepth 20000 in
theorem lc_altered {n i : Nat} {SC SM : rx_S} (hC : lw_C p s m meth c b L xs D cy ad) (hL3 : L ≤ 3072) (hi : i + 6 ≤ L) (hst : ST_altered N Inv) (hn : n < 512) (hI : Inv n SC SM) (next : ∀ SC' SM', Inv (n + 1) SC' SM' → LW p l e s m below meth c b D cy ad 1212 [some (.ref 5000), some (.ref 0), some (.ref 94), some (.int (nI i))] [] SC' SM') : LW p l e s m below meth c b D cy ad 787 [some (.ref 5000), some (.ref 0), some (.ref 94), some (.int (nI i))] [] SC SM := by
  obtain ⟨r, SC', SM', f1, f2, hI'⟩ := hst n SC SM hn hI (xs (i + 1)) (xs (i + 2))
  refine lx_aload_n (i := 1) hC 788 dL_law_787 rfl rfl rfl ?_
  refine lx_aload_n (i := 0) hC 789 dL_law_788 rfl rfl rfl ?_
  refine lx_iload_n (i := 3) hC 790 dL_law_789 rfl rfl rfl ?_
  refine lx_iconst (v := 1) hC 791 dL_law_790 (by decide) rfl ?_
  refine lx_iadd hC 792 dL_law_791 rfl ?_
  refine lx_sld hC (i + 1) 793 dL_law_792 (nI_add i 1) (by omega) hL3 rfl ?_
  refine lx_aload_n (i := 0) hC 794 dL_law_793 rfl rfl rfl ?_
  refine lx_iload_n (i := 3) hC 795 dL_law_794 rfl rfl rfl ?_
  refine lx_iconst (v := 2) hC 796 dL_law_795 (by decide) rfl ?_
  refine lx_iadd hC 797 dL_law_796 rfl ?_
  refine lx_sld hC (i + 2) 798 dL_law_797 (nI_add i 2) (by omega) hL3 rfl ?_
  refine lw_callC (vs := [.int (xs (i + 1)), .int (xs (i + 2))]) hC 801 dL_law_798 (em_X10_altered f1) mm_X10_altered mv_X10_altered lkL_97 rfl rfl (Nat.le_of_ble_eq_true rfl) (Nat.le_of_ble_eq_true rfl) rfl ?_
  refine lx_aload_n (i := 2) hC 802 dL_law_801 rfl rfl rfl ?_
  refine lx_aload_n (i := 0) hC 803 dL_law_802 rfl rfl rfl ?_
  refine lx_iload_n (i := 3) hC 804 dL_law_803 rfl rfl rfl ?_
  refine lx_iconst (v := 1) hC 805 dL_law_804 (by decide) rfl ?_
  refine lx_iadd hC 806 dL_law_805 rfl ?_
  refine lx_sld hC (i + 1) 807 dL_law_806 (nI_add i 1) (by omega) hL3 rfl ?_
  refine lx_aload_n (i := 0) hC 808 dL_law_807 rfl rfl rfl ?_
  refine lx_iload_n (i := 3) hC 809 dL_law_808 rfl rfl rfl ?_
  refine lx_iconst (v := 2) hC 810 dL_law_809 (by decide) rfl ?_
  refine lx_iadd hC 811 dL_law_810 rfl ?_
  refine lx_sld hC (i + 2) 812 dL_law_811 (nI_add i 2) (by omega) hL3 rfl ?_
  refine lw_callM (vs := [.int (xs (i + 1)), .int (xs (i + 2))]) hC 815 dL_law_812 (em_X11_altered f2) mm_X11_altered mv_X11_altered lkL_100 rfl rfl (Nat.le_of_ble_eq_true rfl) (Nat.le_of_ble_eq_true rfl) rfl ?_
  refine lx_icmp_eq hC 1212 dL_law_815 rfl ?_
  exact next SC' SM' hI'

set_option maxHeartbeats 4000000 in
set_option maxRecDepth 20000 in
theorem lc_takes {n i : Nat} {SC SM : rx_S} (hC : lw_C p s m meth c b L xs D cy ad) (hL3 : L ≤ 3072) (hi : i + 6 ≤ L) (hst : ST_takes N Inv) (hn : n < 512) (hI : Inv n SC SM) (next : ∀ SC' SM', Inv (n + 1) SC' SM' → LW p l e s m below meth c b D cy ad 1212 [some (.ref 5000), some (.ref 0), some (.ref 94), some (.int (nI i))] [] SC' SM') : LW p l e s m below meth c b D cy ad 820 [some (.ref 5000), some (.ref 0), some (.ref 94), some (.int (nI i))] [] SC SM := by
  obtain ⟨r, SC', SM', f1, f2, hI'⟩ := hst n SC SM hn hI (xs (i + 1)) (xs (i + 2))
  refine lx_aload_n (i := 1) hC 821 dL_law_820 rfl rfl rfl ?_
  refine lx_aload_n (i := 0) hC 822 dL_law_821 rfl rfl rfl ?_
  refine lx_iload_n (i := 3) hC 823 dL_law_822 rfl rfl rfl ?_
  refine lx_iconst (v := 1) hC 824 dL_law_823 (by decide) rfl ?_
  refine lx_iadd hC 825 dL_law_824 rfl ?_
  refine lx_sld hC (i + 1) 826 dL_law_825 (nI_add i 1) (by omega) hL3 rfl ?_
  refine lx_aload_n (i := 0) hC 827 dL_law_826 rfl rfl rfl ?_
  refine lx_iload_n (i := 3) hC 828 dL_law_827 rfl rfl rfl ?_
  refine lx_iconst (v := 2) hC 829 dL_law_828 (by decide) rfl ?_
  refine lx_iadd hC 830 dL_law_829 rfl ?_
  refine lx_sld hC (i + 2) 831 dL_law_830 (nI_add i 2) (by omega) hL3 rfl ?_
  refine lw_callC (vs := [.int (xs (i + 1)), .int (xs (i + 2))]) hC 834 dL_law_831 (em_X10_takes f1) mm_X10_takes mv_X10_takes lkL_101 rfl rfl (Nat.le_of_ble_eq_true rfl) (Nat.le_of_ble_eq_true rfl) rfl ?_
  refine lx_aload_n (i := 2) hC 835 dL_law_834 rfl rfl rfl ?_
  refine lx_aload_n (i := 0) hC 836 dL_law_835 rfl rfl rfl ?_
  refine lx_iload_n (i := 3) hC 837 dL_law_836 rfl rfl rfl ?_
  refine lx_iconst (v := 1) hC 838 dL_law_837 (by decide) rfl ?_
  refine lx_iadd hC 839 dL_law_838 rfl ?_
  refine lx_sld hC (i + 1) 840 dL_law_839 (nI_add i 1) (by omega) hL3 rfl ?_
  refine lx_aload_n (i := 0) hC 841 dL_law_840 rfl rfl rfl ?_
  refine lx_iload_n (i := 3) hC 842 dL_law_841 rfl rfl rfl ?_
  refine lx_iconst (v := 2) hC 843 dL_law_842 (by decide) rfl ?_
  refine lx_iadd hC 844 dL_law_843 rfl ?_
  refine lx_sld hC (i + 2) 845 dL_law_844 (nI_add i 2) (by omega) hL3 rfl ?_
  refine lw_callM (vs := [.int (xs (i + 1)), .int (xs (i + 2))]) hC 848 dL_law_845 (em_X11_takes f2) mm_X11_takes mv_X11_takes lkL_104 rfl rfl (Nat.le_of_ble_eq_true rfl) (Nat.le_of_ble_eq_true rfl) rfl ?_
  refine lx_icmp_eq hC 1212 dL_law_848 rfl ?_
  exact next SC' SM' hI'

set_option maxHeartbeats 4000000 in
set_option maxRecDepth 20000 in
theorem lc_hires {n i : Nat} {SC SM : rx_S} (hC : lw_C p s m meth c b L xs D cy ad) (hL3 : L ≤ 3072) (hi : i + 6 ≤ L) (hst : ST_hires N Inv) (hn : n < 512) (hI : Inv n SC SM) (next : ∀ SC' SM', Inv (n + 1) SC' SM' → LW p l e s m below meth c b D cy ad 1212 [some (.ref 5000), some (.ref 0), some (.ref 94), some (.int (nI i))] [] SC' SM') : LW p l e s m below meth c b D cy ad 853 [some (.ref 5000), some (.ref 0), some (.ref 94), some (.int (nI i))] [] SC SM := by
  obtain ⟨r, SC', SM', f1, f2, hI'⟩ := hst n SC SM hn hI (xs (i + 1))
  refine lx_aload_n (i := 1) hC 854 dL_law_853 rfl rfl rfl ?_
  refine lx_aload_n (i := 0) hC 855 dL_law_854 rfl rfl rfl ?_
  refine lx_iload_n (i := 3) hC 856 dL_law_855 rfl rfl rfl ?_
  refine lx_iconst (v := 1) hC 857 dL_law_856 (by decide) rfl ?_
  refine lx_iadd hC 858 dL_law_857 rfl ?_
  refine lx_sld hC (i + 1) 859 dL_law_858 (nI_add i 1) (by omega) hL3 rfl ?_
  refine lw_callC (vs := [.int (xs (i + 1))]) hC 862 dL_law_859 (em_X10_hires f1) mm_X10_hires mv_X10_hires lkL_105 rfl rfl (Nat.le_of_ble_eq_true rfl) (Nat.le_of_ble_eq_true rfl) rfl ?_
  refine lx_aload_n (i := 2) hC 863 dL_law_862 rfl rfl rfl ?_
  refine lx_aload_n (i := 0) hC 864 dL_law_863 rfl rfl rfl ?_
  refine lx_iload_n (i := 3) hC 865 dL_law_864 rfl rfl rfl ?_
  refine lx_iconst (v := 1) hC 866 dL_law_865 (by decide) rfl ?_
  refine lx_iadd hC 867 dL_law_866 rfl ?_
  refine lx_sld hC (i + 1) 868 dL_law_867 (nI_add i 1) (by omega) hL3 rfl ?_
  refine lw_callM (vs := [.int (xs (i + 1))]) hC 871 dL_law_868 (em_X11_hires f2) mm_X11_hires mv_X11_hires lkL_108 rfl rfl (Nat.le_of_ble_eq_true rfl) (Nat.le_of_ble_eq_true rfl) rfl ?_
  refine lx_icmp_eq hC 1212 dL_law_871 rfl ?_
  exact next SC' SM' hI'

set_option maxHeartbeats 4000000 in
set_option maxRecDepth 20000 in
theorem lc_then {n i : Nat} {SC SM : rx_S} (hC : lw_C p s m meth c b L xs D cy ad) (hL3 : L ≤ 3072) (hi : i + 6 ≤ L) (hst : ST_then N Inv) (hn : n < 512) (hI : Inv n SC SM) (next : ∀ SC' SM', Inv (n + 1) SC' SM' → LW p l e s m below meth c b D cy ad 1212 [some (.ref 5000), some (.ref 0), some (.ref 94), some (.int (nI i))] [] SC' SM') : LW p l e s m below meth c b D cy ad 876 [some (.ref 5000), some (.ref 0), some (.ref 94), some (.int (nI i))] [] SC SM := by
  obtain ⟨r, SC', SM', f1, f2, hI'⟩ := hst n SC SM hn hI (xs (i + 1)) (xs (i + 2))
  refine lx_aload_n (i := 1) hC 877 dL_law_876 rfl rfl rfl ?_
  refine lx_aload_n (i := 0) hC 878 dL_law_877 rfl rfl rfl ?_
  refine lx_iload_n (i := 3) hC 879 dL_law_878 rfl rfl rfl ?_
  refine lx_iconst (v := 1) hC 880 dL_law_879 (by decide) rfl ?_
  refine lx_iadd hC 881 dL_law_880 rfl ?_
  refine lx_sld hC (i + 1) 882 dL_law_881 (nI_add i 1) (by omega) hL3 rfl ?_
  refine lx_aload_n (i := 0) hC 883 dL_law_882 rfl rfl rfl ?_
  refine lx_iload_n (i := 3) hC 884 dL_law_883 rfl rfl rfl ?_
  refine lx_iconst (v := 2) hC 885 dL_law_884 (by decide) rfl ?_
  refine lx_iadd hC 886 dL_law_885 rfl ?_
  refine lx_sld hC (i + 2) 887 dL_law_886 (nI_add i 2) (by omega) hL3 rfl ?_
  refine lw_callC (vs := [.int (xs (i + 1)), .int (xs (i + 2))]) hC 890 dL_law_887 (em_X10_then f1) mm_X10_then mv_X10_then lkL_109 rfl rfl (Nat.le_of_ble_eq_true rfl) (Nat.le_of_ble_eq_true rfl) rfl ?_
  refine lx_aload_n (i := 2) hC 891 dL_law_890 rfl rfl rfl ?_
  refine lx_aload_n (i := 0) hC 892 dL_law_891 rfl rfl rfl ?_
  refine lx_iload_n (i := 3) hC 893 dL_law_892 rfl rfl rfl ?_
  refine lx_iconst (v := 1) hC 894 dL_law_893 (by decide) rfl ?_
  refine lx_iadd hC 895 dL_law_894 rfl ?_
  refine lx_sld hC (i + 1) 896 dL_law_895 (nI_add i 1) (by omega) hL3 rfl ?_
  refine lx_aload_n (i := 0) hC 897 dL_law_896 rfl rfl rfl ?_
  refine lx_iload_n (i := 3) hC 898 dL_law_897 rfl rfl rfl ?_
  refine lx_iconst (v := 2) hC 899 dL_law_898 (by decide) rfl ?_
  refine lx_iadd hC 900 dL_law_899 rfl ?_
  refine lx_sld hC (i + 2) 901 dL_law_900 (nI_add i 2) (by omega) hL3 rfl ?_
  refine lw_callM (vs := [.int (xs (i + 1)), .int (xs (i + 2))]) hC 904 dL_law_901 (em_X11_then f2) mm_X11_then mv_X11_then lkL_112 rfl rfl (Nat.le_of_ble_eq_true rfl) (Nat.le_of_ble_eq_true rfl) rfl ?_
  refine lx_icmp_eq hC 1212 dL_law_904 rfl ?_
  exact next SC' SM' hI'

set_option maxHeartbeats 4000000 in
set_option maxRecDepth 20000 in
theorem lc_paid {n i : Nat} {SC SM : rx_S} (hC : lw_C p s m meth c b L xs D cy ad) (hL3 : L ≤ 3072) (hi : i + 6 ≤ L) (hst : ST_paid N Inv) (hn : n < 512) (hI : Inv n SC SM) (next : ∀ SC' SM', Inv (n + 1) SC' SM' → LW p l e s m below meth c b D cy ad 1212 [some (.ref 5000), some (.ref 0), some (.ref 94), some (.int (nI i))] [] SC' SM') : LW p l e s m below meth c b D cy ad 909 [some (.ref 5000), some (.ref 0), some (.ref 94), some (.int (nI i))] [] SC SM := by
  obtain ⟨r, SC', SM', f1, f2, hI'⟩ := hst n SC SM hn hI (xs (i + 1)) (xs (i + 2)) (xs (i + 3))
  refine lx_aload_n (i := 1) hC 910 dL_law_909 rfl rfl rfl ?_
  refine lx_aload_n (i := 0) hC 911 dL_law_910 rfl rfl rfl ?_
  refine lx_iload_n (i := 3) hC 912 dL_law_911 rfl rfl rfl ?_
  refine lx_iconst (v := 1) hC 913 dL_law_912 (by decide) rfl ?_
  refine lx_iadd hC 914 dL_law_913 rfl ?_
  refine lx_sld hC (i + 1) 915 dL_law_914 (nI_add i 1) (by omega) hL3 rfl ?_
  refine lx_aload_n (i := 0) hC 916 dL_law_915 rfl rfl rfl ?_
  refine lx_iload_n (i := 3) hC 917 dL_law_916 rfl rfl rfl ?_
  refine lx_iconst (v := 2) hC 918 dL_law_917 (by decide) rfl ?_
  refine lx_iadd hC 919 dL_law_918 rfl ?_
  refine lx_sld hC (i + 2) 920 dL_law_919 (nI_add i 2) (by omega) hL3 rfl ?_
  refine lx_aload_n (i := 0) hC 921 dL_law_920 rfl rfl rfl ?_
  refine lx_iload_n (i := 3) hC 922 dL_law_921 rfl rfl rfl ?_
  refine lx_iconst (v := 3) hC 923 dL_law_922 (by decide) rfl ?_
  refine lx_iadd hC 924 dL_law_923 rfl ?_
  refine lx_sld hC (i + 3) 925 dL_law_924 (nI_add i 3) (by omega) hL3 rfl ?_
  refine lw_callC (vs := [.int (xs (i + 1)), .int (xs (i + 2)), .int (xs (i + 3))]) hC 928 dL_law_925 (em_X10_paid f1) mm_X10_paid mv_X10_paid lkL_113 rfl rfl (Nat.le_of_ble_eq_true rfl) (Nat.le_of_ble_eq_true rfl) rfl ?_
  refine lx_aload_n (i := 2) hC 929 dL_law_928 rfl rfl rfl ?_
  refine lx_aload_n (i := 0) hC 930 dL_law_929 rfl rfl rfl ?_
  refine lx_iload_n (i := 3) hC 931 dL_law_930 rfl rfl rfl ?_
  refine lx_iconst (v := 1) hC 932 dL_law_931 (by decide) rfl ?_
  refine lx_iadd hC 933 dL_law_932 rfl ?_
  refine lx_sld hC (i + 1) 934 dL_law_933 (nI_add i 1) (by omega) hL3 rfl ?_
  refine lx_aload_n (i := 0) hC 935 dL_law_934 rfl rfl rfl ?_
  refine lx_iload_n (i := 3) hC 936 dL_law_935 rfl rfl rfl ?_
  refine lx_iconst (v := 2) hC 937 dL_law_936 (by decide) rfl ?_
  refine lx_iadd hC 938 dL_law_937 rfl ?_
  refine lx_sld hC (i + 2) 939 dL_law_938 (nI_add i 2) (by omega) hL3 rfl ?_
  refine lx_aload_n (i := 0) hC 940 dL_law_939 rfl rfl rfl ?_
  refine lx_iload_n (i := 3) hC 941 dL_law_940 rfl rfl rfl ?_
  refine lx_iconst (v := 3) hC 942 dL_law_941 (by decide) rfl ?_
  refine lx_iadd hC 943 dL_law_942 rfl ?_
  refine lx_sld hC (i + 3) 944 dL_law_943 (nI_add i 3) (by omega) hL3 rfl ?_
  refine lw_callM (vs := [.int (xs (i + 1)), .int (xs (i + 2)), .int (xs (i + 3))]) hC 947 dL_law_944 (em_X11_paid f2) mm_X11_paid mv_X11_paid lkL_116 rfl rfl (Nat.le_of_ble_eq_true rfl) (Nat.le_of_ble_eq_true rfl) rfl ?_
  refine lx_icmp_eq hC 1212 dL_law_947 rfl ?_
  exact next SC' SM' hI'

set_option maxHeartbeats 4000000 in
set_option maxRecDepth 20000 in
theorem lc_parts {n i : Nat} {SC SM : rx_S} (hC : lw_C p s m meth c b L xs D cy ad) (hL3 : L ≤ 3072) (hi : i + 6 ≤ L) (hst : ST_parts N Inv) (hn : n < 512) (hI : Inv n SC SM) (next : ∀ SC' SM', Inv (n + 1) SC' SM' → LW p l e s m below meth c b D cy ad 1212 [some (.ref 5000), some (.ref 0), some (.ref 94), some (.int (nI i))] [] SC' SM') : LW p l e s m below meth c b D cy ad 952 [some (.ref 5000), some (.ref 0), some (.ref 94), some (.int (nI i))] [] SC SM := by
  obtain ⟨r, SC', SM', f1, f2, hI'⟩ := hst n SC SM hn hI (xs (i + 1))
  refine lx_aload_n (i := 1) hC 953 dL_law_952 rfl rfl rfl ?_
  refine lx_aload_n (i := 0) hC 954 dL_law_953 rfl rfl rfl ?_
  refine lx_iload_n (i := 3) hC 955 dL_law_954 rfl rfl rfl ?_
  refine lx_iconst (v := 1) hC 956 dL_law_955 (by decide) rfl ?_
  refine lx_iadd hC 957 dL_law_956 rfl ?_
  refine lx_sld hC (i + 1) 958 dL_law_957 (nI_add i 1) (by omega) hL3 rfl ?_
  refine lw_callC (vs := [.int (xs (i + 1))]) hC 961 dL_law_958 (em_X10_parts f1) mm_X10_parts mv_X10_parts lkL_117 rfl rfl (Nat.le_of_ble_eq_true rfl) (Nat.le_of_ble_eq_true rfl) rfl ?_
  refine lx_aload_n (i := 2) hC 962 dL_law_961 rfl rfl rfl ?_
  refine lx_aload_n (i := 0) hC 963 dL_law_962 rfl rfl rfl ?_
  refine lx_iload_n (i := 3) hC 964 dL_law_963 rfl rfl rfl ?_
  refine lx_iconst (v := 1) hC 965 dL_law_964 (by decide) rfl ?_
  refine lx_iadd hC 966 dL_law_965 rfl ?_
  refine lx_sld hC (i + 1) 967 dL_law_966 (nI_add i 1) (by omega) hL3 rfl ?_
  refine lw_callM (vs := [.int (xs (i + 1))]) hC 970 dL_law_967 (em_X11_parts f2) mm_X11_parts mv_X11_parts lkL_120 rfl rfl (Nat.le_of_ble_eq_true rfl) (Nat.le_of_ble_eq_true rfl) rfl ?_
  refine lx_icmp_eq hC 1212 dL_law_970 rfl ?_
  exact next SC' SM' hI'

set_option maxHeartbeats 4000000 in
set_option maxRecDepth 20000 in
theorem lc_oaths {n i : Nat} {SC SM : rx_S} (hC : lw_C p s m meth c b L xs D cy ad) (hL3 : L ≤ 3072) (hi : i + 6 ≤ L) (hst : ST_oaths N Inv) (hn : n < 512) (hI : Inv n SC SM) (next : ∀ SC' SM', Inv (n + 1) SC' SM' → LW p l e s m below meth c b D cy ad 1212 [some (.ref 5000), some (.ref 0), some (.ref 94), some (.int (nI i))] [] SC' SM') : LW p l e s m below meth c b D cy ad 975 [some (.ref 5000), some (.ref 0), some (.ref 94), some (.int (nI i))] [] SC SM := by
  obtain ⟨r, SC', SM', f1, f2, hI'⟩ := hst n SC SM hn hI (xs (i + 1)) (xs (i + 2))
  refine lx_aload_n (i := 1) hC 976 dL_law_975 rfl rfl rfl ?_
  refine lx_aload_n (i := 0) hC 977 dL_law_976 rfl rfl rfl ?_
  refine lx_iload_n (i := 3) hC 978 dL_law_977 rfl rfl rfl ?_
  refine lx_iconst (v := 1) hC 979 dL_law_978 (by decide) rfl ?_
  refine lx_iadd hC 980 dL_law_979 rfl ?_
  refine lx_sld hC (i + 1) 981 dL_law_980 (nI_add i 1) (by omega) hL3 rfl ?_
  refine lx_aload_n (i := 0) hC 982 dL_law_981 rfl rfl rfl ?_
  refine lx_iload_n (i := 3) hC 983 dL_law_982 rfl rfl rfl ?_
  refine lx_iconst (v := 2) hC 984 dL_law_983 (by decide) rfl ?_
  refine lx_iadd hC 985 dL_law_984 rfl ?_
  refine lx_sld hC (i + 2) 986 dL_law_985 (nI_add i 2) (by omega) hL3 rfl ?_
  refine lw_callC (vs := [.int (xs (i + 1)), .int (xs (i + 2))]) hC 989 dL_law_986 (em_X10_oaths f1) mm_X10_oaths mv_X10_oaths lkL_121 rfl rfl (Nat.le_of_ble_eq_true rfl) (Nat.le_of_ble_eq_true rfl) rfl ?_
  refine lx_aload_n (i := 2) hC 990 dL_law_989 rfl rfl rfl ?_
  refine lx_aload_n (i := 0) hC 991 dL_law_990 rfl rfl rfl ?_
  refine lx_iload_n (i := 3) hC 992 dL_law_991 rfl rfl rfl ?_
  refine lx_iconst (v := 1) hC 993 dL_law_992 (by decide) rfl ?_
  refine lx_iadd hC 994 dL_law_993 rfl ?_
  refine lx_sld hC (i + 1) 995 dL_law_994 (nI_add i 1) (by omega) hL3 rfl ?_
  refine lx_aload_n (i := 0) hC 996 dL_law_995 rfl rfl rfl ?_
  refine lx_iload_n (i := 3) hC 997 dL_law_996 rfl rfl rfl ?_
  refine lx_iconst (v := 2) hC 998 dL_law_997 (by decide) rfl ?_
  refine lx_iadd hC 999 dL_law_998 rfl ?_
  refine lx_sld hC (i + 2) 1000 dL_law_999 (nI_add i 2) (by omega) hL3 rfl ?_
  refine lw_callM (vs := [.int (xs (i + 1)), .int (xs (i + 2))]) hC 1003 dL_law_1000 (em_X11_oaths f2) mm_X11_oaths mv_X11_oaths lkL_124 rfl rfl (Nat.le_of_ble_eq_true rfl) (Nat.le_of_ble_eq_true rfl) rfl ?_
  refine lx_icmp_eq hC 1212 dL_law_1003 rfl ?_
  exact next SC' SM' hI'

set_option maxHeartbeats 4000000 in
set_option maxRecDepth 20000 in
theorem lc_year {n i : Nat} {SC SM : rx_S} (hC : lw_C p s m meth c b L xs D cy ad) (hL3 : L ≤ 3072) (hi : i + 6 ≤ L) (hst : ST_year N Inv) (hn : n < 512) (hI : Inv n SC SM) (next : ∀ SC' SM', Inv (n + 1) SC' SM' → LW p l e s m below meth c b D cy ad 1212 [some (.ref 5000), some (.ref 0), some (.ref 94), some (.int (nI i))] [] SC' SM') : LW p l e s m below meth c b D cy ad 1008 [some (.ref 5000), some (.ref 0), some (.ref 94), some (.int (nI i))] [] SC SM := by
  obtain ⟨r, SC', SM', f1, f2, hI'⟩ := hst n SC SM hn hI (xs (i + 1)) (xs (i + 2)) (xs (i + 3))
  refine lx_aload_n (i := 1) hC 1009 dL_law_1008 rfl rfl rfl ?_
  refine lx_aload_n (i := 0) hC 1010 dL_law_1009 rfl rfl rfl ?_
  refine lx_iload_n (i := 3) hC 1011 dL_law_1010 rfl rfl rfl ?_
  refine lx_iconst (v := 1) hC 1012 dL_law_1011 (by decide) rfl ?_
  refine lx_iadd hC 1013 dL_law_1012 rfl ?_
  refine lx_sld hC (i + 1) 1014 dL_law_1013 (nI_add i 1) (by omega) hL3 rfl ?_
  refine lx_aload_n (i := 0) hC 1015 dL_law_1014 rfl rfl rfl ?_
  refine lx_iload_n (i := 3) hC 1016 dL_law_1015 rfl rfl rfl ?_
  refine lx_iconst (v := 2) hC 1017 dL_law_1016 (by decide) rfl ?_
  refine lx_iadd hC 1018 dL_law_1017 rfl ?_
  refine lx_sld hC (i + 2) 1019 dL_law_1018 (nI_add i 2) (by omega) hL3 rfl ?_
  refine lx_aload_n (i := 0) hC 1020 dL_law_1019 rfl rfl rfl ?_
  refine lx_iload_n (i := 3) hC 1021 dL_law_1020 rfl rfl rfl ?_
  refine lx_iconst (v := 3) hC 1022 dL_law_1021 (by decide) rfl ?_
  refine lx_iadd hC 1023 dL_law_1022 rfl ?_
  refine lx_sld hC (i + 3) 1024 dL_law_1023 (nI_add i 3) (by omega) hL3 rfl ?_
  refine lw_callC (vs := [.int (xs (i + 1)), .int (xs (i + 2)), .int (xs (i + 3))]) hC 1027 dL_law_1024 (em_X10_year f1) mm_X10_year mv_X10_year lkL_125 rfl rfl (Nat.le_of_ble_eq_true rfl) (Nat.le_of_ble_eq_true rfl) rfl ?_
  refine lx_aload_n (i := 2) hC 1028 dL_law_1027 rfl rfl rfl ?_
  refine lx_aload_n (i := 0) hC 1029 dL_law_1028 rfl rfl rfl ?_
  refine lx_iload_n (i := 3) hC 1030 dL_law_1029 rfl rfl rfl ?_
  refine lx_iconst (v := 1) hC 1031 dL_law_1030 (by decide) rfl ?_
  refine lx_iadd hC 1032 dL_law_1031 rfl ?_
  refine lx_sld hC (i + 1) 1033 dL_law_1032 (nI_add i 1) (by omega) hL3 rfl ?_
  refine lx_aload_n (i := 0) hC 1034 dL_law_1033 rfl rfl rfl ?_
  refine lx_iload_n (i := 3) hC 1035 dL_law_1034 rfl rfl rfl ?_
  refine lx_iconst (v := 2) hC 1036 dL_law_1035 (by decide) rfl ?_
  refine lx_iadd hC 1037 dL_law_1036 rfl ?_
  refine lx_sld hC (i + 2) 1038 dL_law_1037 (nI_add i 2) (by omega) hL3 rfl ?_
  refine lx_aload_n (i := 0) hC 1039 dL_law_1038 rfl rfl rfl ?_
  refine lx_iload_n (i := 3) hC 1040 dL_law_1039 rfl rfl rfl ?_
  refine lx_iconst (v := 3) hC 1041 dL_law_1040 (by decide) rfl ?_
  refine lx_iadd hC 1042 dL_law_1041 rfl ?_
  refine lx_sld hC (i + 3) 1043 dL_law_1042 (nI_add i 3) (by omega) hL3 rfl ?_
  refine lw_callM (vs := [.int (xs (i + 1)), .int (xs (i + 2)), .int (xs (i + 3))]) hC 1046 dL_law_1043 (em_X11_year f2) mm_X11_year mv_X11_year lkL_128 rfl rfl (Nat.le_of_ble_eq_true rfl) (Nat.le_of_ble_eq_true rfl) rfl ?_
  refine lx_icmp_eq hC 1212 dL_law_1046 rfl ?_
  exact next SC' SM' hI'

set_option maxHeartbeats 4000000 in
set_option maxRecDepth 20000 in
theorem lc_tell {n i : Nat} {SC SM : rx_S} (hC : lw_C p s m meth c b L xs D cy ad) (hL3 : L ≤ 3072) (hi : i + 6 ≤ L) (hst : ST_tell N Inv) (hn : n < 512) (hI : Inv n SC SM) (next : ∀ SC' SM', Inv (n + 1) SC' SM' → LW p l e s m below meth c b D cy ad 1212 [some (.ref 5000), some (.ref 0), some (.ref 94), some (.int (nI i))] [] SC' SM') : LW p l e s m below meth c b D cy ad 1051 [some (.ref 5000), some (.ref 0), some (.ref 94), some (.int (nI i))] [] SC SM := by
  obtain ⟨r, SC', SM', f1, f2, hI'⟩ := hst n SC SM hn hI (xs (i + 1)) (xs (i + 2))
  refine lx_aload_n (i := 1) hC 1052 dL_law_1051 rfl rfl rfl ?_
  refine lx_aload_n (i := 0) hC 1053 dL_law_1052 rfl rfl rfl ?_
  refine lx_iload_n (i := 3) hC 1054 dL_law_1053 rfl rfl rfl ?_
  refine lx_iconst (v := 1) hC 1055 dL_law_1054 (by decide) rfl ?_
  refine lx_iadd hC 1056 dL_law_1055 rfl ?_
  refine lx_sld hC (i + 1) 1057 dL_law_1056 (nI_add i 1) (by omega) hL3 rfl ?_
  refine lx_aload_n (i := 0) hC 1058 dL_law_1057 rfl rfl rfl ?_
  refine lx_iload_n (i := 3) hC 1059 dL_law_1058 rfl rfl rfl ?_
  refine lx_iconst (v := 2) hC 1060 dL_law_1059 (by decide) rfl ?_
  refine lx_iadd hC 1061 dL_law_1060 rfl ?_
  refine lx_sld hC (i + 2) 1062 dL_law_1061 (nI_add i 2) (by omega) hL3 rfl ?_
  refine lw_callC (vs := [.int (xs (i + 1)), .int (xs (i + 2))]) hC 1065 dL_law_1062 (em_X10_tell f1) mm_X10_tell mv_X10_tell lkL_129 rfl rfl (Nat.le_of_ble_eq_true rfl) (Nat.le_of_ble_eq_true rfl) rfl ?_
  refine lx_aload_n (i := 2) hC 1066 dL_law_1065 rfl rfl rfl ?_
  refine lx_aload_n (i := 0) hC 1067 dL_law_1066 rfl rfl rfl ?_
  refine lx_iload_n (i := 3) hC 1068 dL_law_1067 rfl rfl rfl ?_
  refine lx_iconst (v := 1) hC 1069 dL_law_1068 (by decide) rfl ?_
  refine lx_iadd hC 1070 dL_law_1069 rfl ?_
  refine lx_sld hC (i + 1) 1071 dL_law_1070 (nI_add i 1) (by omega) hL3 rfl ?_
  refine lx_aload_n (i := 0) hC 1072 dL_law_1071 rfl rfl rfl ?_
  refine lx_iload_n (i := 3) hC 1073 dL_law_1072 rfl rfl rfl ?_
  refine lx_iconst (v := 2) hC 1074 dL_law_1073 (by decide) rfl ?_
  refine lx_iadd hC 1075 dL_law_1074 rfl ?_
  refine lx_sld hC (i + 2) 1076 dL_law_1075 (nI_add i 2) (by omega) hL3 rfl ?_
  refine lw_callM (vs := [.int (xs (i + 1)), .int (xs (i + 2))]) hC 1079 dL_law_1076 (em_X11_tell f2) mm_X11_tell mv_X11_tell lkL_132 rfl rfl (Nat.le_of_ble_eq_true rfl) (Nat.le_of_ble_eq_true rfl) rfl ?_
  refine lx_icmp_eq hC 1212 dL_law_1079 rfl ?_
  exact next SC' SM' hI'

set_option maxHeartbeats 4000000 in
set_option maxRecDepth 20000 in
theorem lc_forget {n i : Nat} {SC SM : rx_S} (hC : lw_C p s m meth c b L xs D cy ad) (hL3 : L ≤ 3072) (hi : i + 6 ≤ L) (hst : ST_forget N Inv) (hn : n < 512) (hI : Inv n SC SM) (next : ∀ SC' SM', Inv (n + 1) SC' SM' → LW p l e s m below meth c b D cy ad 1212 [some (.ref 5000), some (.ref 0), some (.ref 94), some (.int (nI i))] [] SC' SM') : LW p l e s m below meth c b D cy ad 1084 [some (.ref 5000), some (.ref 0), some (.ref 94), some (.int (nI i))] [] SC SM := by
  obtain ⟨r, SC', SM', f1, f2, hI'⟩ := hst n SC SM hn hI
  refine lx_aload_n (i := 1) hC 1085 dL_law_1084 rfl rfl rfl ?_
  refine lw_callC (vs := []) hC 1088 dL_law_1085 (em_X10_forget f1) mm_X10_forget mv_X10_forget lkL_133 rfl rfl (Nat.le_of_ble_eq_true rfl) (Nat.le_of_ble_eq_true rfl) rfl ?_
  refine lx_aload_n (i := 2) hC 1089 dL_law_1088 rfl rfl rfl ?_
  refine lw_callM (vs := []) hC 1092 dL_law_1089 (em_X11_forget f2) mm_X11_forget mv_X11_forget lkL_136 rfl rfl (Nat.le_of_ble_eq_true rfl) (Nat.le_of_ble_eq_true rfl) rfl ?_
  refine lx_icmp_eq hC 1212 dL_law_1092 rfl ?_
  exact next SC' SM' hI'

set_option maxHeartbeats 4000000 in
set_option maxRecDepth 20000 in
theorem lc_who {n i : Nat} {SC SM : rx_S} (hC : lw_C p s m meth c b L xs D cy ad) (hL3 : L ≤ 3072) (hi : i + 6 ≤ L) (hst : ST_who N Inv) (hn : n < 512) (hI : Inv n SC SM) (next : ∀ SC' SM', Inv (n + 1) SC' SM' → LW p l e s m below meth c b D cy ad 1212 [some (.ref 5000), some (.ref 0), some (.ref 94), some (.int (nI i))] [] SC' SM') : LW p l e s m below meth c b D cy ad 1097 [some (.ref 5000), some (.ref 0), some (.ref 94), some (.int (nI i))] [] SC SM := by
  obtain ⟨r, SC', SM', f1, f2, hI'⟩ := hst n SC SM hn hI (xs (i + 1))
  refine lx_aload_n (i := 1) hC 1098 dL_law_1097 rfl rfl rfl ?_
  refine lx_aload_n (i := 0) hC 1099 dL_law_1098 rfl rfl rfl ?_
  refine lx_iload_n (i := 3) hC 1100 dL_law_1099 rfl rfl rfl ?_
  refine lx_iconst (v := 1) hC 1101 dL_law_1100 (by decide) rfl ?_
  refine lx_iadd hC 1102 dL_law_1101 rfl ?_
  refine lx_sld hC (i + 1) 1103 dL_law_1102 (nI_add i 1) (by omega) hL3 rfl ?_
  refine lw_callC (vs := [.int (xs (i + 1))]) hC 1106 dL_law_1103 (em_X10_who f1) mm_X10_who mv_X10_who lkL_137 rfl rfl (Nat.le_of_ble_eq_true rfl) (Nat.le_of_ble_eq_true rfl) rfl ?_
  refine lx_aload_n (i := 2) hC 1107 dL_law_1106 rfl rfl rfl ?_
  refine lx_aload_n (i := 0) hC 1108 dL_law_1107 rfl rfl rfl ?_
  refine lx_iload_n (i := 3) hC 1109 dL_law_1108 rfl rfl rfl ?_
  refine lx_iconst (v := 1) hC 1110 dL_law_1109 (by decide) rfl ?_
  refine lx_iadd hC 1111 dL_law_1110 rfl ?_
  refine lx_sld hC (i + 1) 1112 dL_law_1111 (nI_add i 1) (by omega) hL3 rfl ?_
  refine lw_callM (vs := [.int (xs (i + 1))]) hC 1115 dL_law_1112 (em_X11_who f2) mm_X11_who mv_X11_who lkL_140 rfl rfl (Nat.le_of_ble_eq_true rfl) (Nat.le_of_ble_eq_true rfl) rfl ?_
  refine lx_icmp_eq hC 1212 dL_law_1115 rfl ?_
  exact next SC' SM' hI'

set_option maxHeartbeats 4000000 in
set_option maxRecDepth 20000 in
theorem lc_ask {n i : Nat} {SC SM : rx_S} (hC : lw_C p s m meth c b L xs D cy ad) (hL3 : L ≤ 3072) (hi : i + 6 ≤ L) (hst : ST_ask N Inv) (hn : n < 512) (hI : Inv n SC SM) (next : ∀ SC' SM', Inv (n + 1) SC' SM' → LW p l e s m below meth c b D cy ad 1212 [some (.ref 5000), some (.ref 0), some (.ref 94), some (.int (nI i))] [] SC' SM') : LW p l e s m below meth c b D cy ad 1120 [some (.ref 5000), some (.ref 0), some (.ref 94), some (.int (nI i))] [] SC SM := by
  obtain ⟨r, SC', SM', f1, f2, hI'⟩ := hst n SC SM hn hI (xs (i + 1))
  refine lx_aload_n (i := 1) hC 1121 dL_law_1120 rfl rfl rfl ?_
  refine lx_aload_n (i := 0) hC 1122 dL_law_1121 rfl rfl rfl ?_
  refine lx_iload_n (i := 3) hC 1123 dL_law_1122 rfl rfl rfl ?_
  refine lx_iconst (v := 1) hC 1124 dL_law_1123 (by decide) rfl ?_
  refine lx_iadd hC 1125 dL_law_1124 rfl ?_
  refine lx_sld hC (i + 1) 1126 dL_law_1125 (nI_add i 1) (by omega) hL3 rfl ?_
  refine lw_callC (vs := [.int (xs (i + 1))]) hC 1129 dL_law_1126 (em_X10_ask f1) mm_X10_ask mv_X10_ask lkL_141 rfl rfl (Nat.le_of_ble_eq_true rfl) (Nat.le_of_ble_eq_true rfl) rfl ?_
  refine lx_aload_n (i := 2) hC 1130 dL_law_1129 rfl rfl rfl ?_
  refine lx_aload_n (i := 0) hC 1131 dL_law_1130 rfl rfl rfl ?_
  refine lx_iload_n (i := 3) hC 1132 dL_law_1131 rfl rfl rfl ?_
  refine lx_iconst (v := 1) hC 1133 dL_law_1132 (by decide) rfl ?_
  refine lx_iadd hC 1134 dL_law_1133 rfl ?_
  refine lx_sld hC (i + 1) 1135 dL_law_1134 (nI_add i 1) (by omega) hL3 rfl ?_
  refine lw_callM (vs := [.int (xs (i + 1))]) hC 1138 dL_law_1135 (em_X11_ask f2) mm_X11_ask mv_X11_ask lkL_144 rfl rfl (Nat.le_of_ble_eq_true rfl) (Nat.le_of_ble_eq_true rfl) rfl ?_
  refine lx_icmp_eq hC 1212 dL_law_1138 rfl ?_
  exact next SC' SM' hI'

set_option maxHeartbeats 4000000 in
set_option maxRecDepth 20000 in
theorem lc_hold {n i : Nat} {SC SM : rx_S} (hC : lw_C p s m meth c b L xs D cy ad) (hL3 : L ≤ 3072) (hi : i + 6 ≤ L) (hst : ST_hold N Inv) (hn : n < 512) (hI : Inv n SC SM) (next : ∀ SC' SM', Inv (n + 1) SC' SM' → LW p l e s m below meth c b D cy ad 1212 [some (.ref 5000), some (.ref 0), some (.ref 94), some (.int (nI i))] [] SC' SM') : LW p l e s m below meth c b D cy ad 1143 [some (.ref 5000), some (.ref 0), some (.ref 94), some (.int (nI i))] [] SC SM := by
  obtain ⟨r, SC', SM', f1, f2, hI'⟩ := hst n SC SM hn hI (xs (i + 1))
  refine lx_aload_n (i := 1) hC 1144 dL_law_1143 rfl rfl rfl ?_
  refine lx_aload_n (i := 0) hC 1145 dL_law_1144 rfl rfl rfl ?_
  refine lx_iload_n (i := 3) hC 1146 dL_law_1145 rfl rfl rfl ?_
  refine lx_iconst (v := 1) hC 1147 dL_law_1146 (by decide) rfl ?_
  refine lx_iadd hC 1148 dL_law_1147 rfl ?_
  refine lx_sld hC (i + 1) 1149 dL_law_1148 (nI_add i 1) (by omega) hL3 rfl ?_
  refine lw_callC (vs := [.int (xs (i + 1))]) hC 1152 dL_law_1149 (em_X10_hold f1) mm_X10_hold mv_X10_hold lkL_145 rfl rfl (Nat.le_of_ble_eq_true rfl) (Nat.le_of_ble_eq_true rfl) rfl ?_
  refine lx_aload_n (i := 2) hC 1153 dL_law_1152 rfl rfl rfl ?_
  refine lx_aload_n (i := 0) hC 1154 dL_law_1153 rfl rfl rfl ?_
  refine lx_iload_n (i := 3) hC 1155 dL_law_1154 rfl rfl rfl ?_
  refine lx_iconst (v := 1) hC 1156 dL_law_1155 (by decide) rfl ?_
  refine lx_iadd hC 1157 dL_law_1156 rfl ?_
  refine lx_sld hC (i + 1) 1158 dL_law_1157 (nI_add i 1) (by omega) hL3 rfl ?_
  refine lw_callM (vs := [.int (xs (i + 1))]) hC 1161 dL_law_1158 (em_X11_hold f2) mm_X11_hold mv_X11_hold lkL_149 rfl rfl (Nat.le_of_ble_eq_true rfl) (Nat.le_of_ble_eq_true rfl) rfl ?_
  refine lx_icmp_eq hC 1212 dL_law_1161 rfl ?_
  exact next SC' SM' hI'

set_option maxHeartbeats 4000000 in
set_option maxRecDepth 20000 in
theorem lc_restore {n i : Nat} {SC SM : rx_S} (hC : lw_C p s m meth c b L xs D cy ad) (hL3 : L ≤ 3072) (hi : i + 6 ≤ L) (hst : ST_restore N Inv) (hn : n < 512) (hI : Inv n SC SM) (next : ∀ SC' SM', Inv (n + 1) SC' SM' → LW p l e s m below meth c b D cy ad 1212 [some (.ref 5000), some (.ref 0), some (.ref 94), some (.int (nI i))] [] SC' SM') : LW p l e s m below meth c b D cy ad 1166 [some (.ref 5000), some (.ref 0), some (.ref 94), some (.int (nI i))] [] SC SM := by
  obtain ⟨r, SC', SM', f1, f2, hI'⟩ := hst n SC SM hn hI (xs (i + 1))
  refine lx_aload_n (i := 1) hC 1167 dL_law_1166 rfl rfl rfl ?_
  refine lx_aload_n (i := 0) hC 1168 dL_law_1167 rfl rfl rfl ?_
  refine lx_iload_n (i := 3) hC 1169 dL_law_1168 rfl rfl rfl ?_
  refine lx_iconst (v := 1) hC 1170 dL_law_1169 (by decide) rfl ?_
  refine lx_iadd hC 1171 dL_law_1170 rfl ?_
  refine lx_sld hC (i + 1) 1172 dL_law_1171 (nI_add i 1) (by omega) hL3 rfl ?_
  refine lw_callC (vs := [.int (xs (i + 1))]) hC 1175 dL_law_1172 (em_X10_restore f1) mm_X10_restore mv_X10_restore lkL_150 rfl rfl (Nat.le_of_ble_eq_true rfl) (Nat.le_of_ble_eq_true rfl) rfl ?_
  refine lx_aload_n (i := 2) hC 1176 dL_law_1175 rfl rfl rfl ?_
  refine lx_aload_n (i := 0) hC 1177 dL_law_1176 rfl rfl rfl ?_
  refine lx_iload_n (i := 3) hC 1178 dL_law_1177 rfl rfl rfl ?_
  refine lx_iconst (v := 1) hC 1179 dL_law_1178 (by decide) rfl ?_
  refine lx_iadd hC 1180 dL_law_1179 rfl ?_
  refine lx_sld hC (i + 1) 1181 dL_law_1180 (nI_add i 1) (by omega) hL3 rfl ?_
  refine lw_callM (vs := [.int (xs (i + 1))]) hC 1184 dL_law_1181 (em_X11_restore f2) mm_X11_restore mv_X11_restore lkL_153 rfl rfl (Nat.le_of_ble_eq_true rfl) (Nat.le_of_ble_eq_true rfl) rfl ?_
  refine lx_icmp_eq hC 1212 dL_law_1184 rfl ?_
  exact next SC' SM' hI'

set_option maxHeartbeats 4000000 in
set_option maxRecDepth 20000 in
theorem lc_count {n i : Nat} {SC SM : rx_S} (hC : lw_C p s m meth c b L xs D cy ad) (hL3 : L ≤ 3072) (hi : i + 6 ≤ L) (hst : ST_count N Inv) (hn : n < 512) (hI : Inv n SC SM) (next : ∀ SC' SM', Inv (n + 1) SC' SM' → LW p l e s m below meth c b D cy ad 1212 [some (.ref 5000), some (.ref 0), some (.ref 94), some (.int (nI i))] [] SC' SM') : LW p l e s m below meth c b D cy ad 1189 [some (.ref 5000), some (.ref 0), some (.ref 94), some (.int (nI i))] [] SC SM := by
  obtain ⟨r, SC', SM', f1, f2, hI'⟩ := hst n SC SM hn hI (xs (i + 1))
  refine lx_aload_n (i := 1) hC 1190 dL_law_1189 rfl rfl rfl ?_
  refine lx_aload_n (i := 0) hC 1191 dL_law_1190 rfl rfl rfl ?_
  refine lx_iload_n (i := 3) hC 1192 dL_law_1191 rfl rfl rfl ?_
  refine lx_iconst (v := 1) hC 1193 dL_law_1192 (by decide) rfl ?_
  refine lx_iadd hC 1194 dL_law_1193 rfl ?_
  refine lx_sld hC (i + 1) 1195 dL_law_1194 (nI_add i 1) (by omega) hL3 rfl ?_
  refine lw_callC (vs := [.int (xs (i + 1))]) hC 1198 dL_law_1195 (em_X10_count f1) mm_X10_count mv_X10_count lkL_154 rfl rfl (Nat.le_of_ble_eq_true rfl) (Nat.le_of_ble_eq_true rfl) rfl ?_
  refine lx_aload_n (i := 2) hC 1199 dL_law_1198 rfl rfl rfl ?_
  refine lx_aload_n (i := 0) hC 1200 dL_law_1199 rfl rfl rfl ?_
  refine lx_iload_n (i := 3) hC 1201 dL_law_1200 rfl rfl rfl ?_
  refine lx_iconst (v := 1) hC 1202 dL_law_1201 (by decide) rfl ?_
  refine lx_iadd hC 1203 dL_law_1202 rfl ?_
  refine lx_sld hC (i + 1) 1204 dL_law_1203 (nI_add i 1) (by omega) hL3 rfl ?_
  refine lw_callM (vs := [.int (xs (i + 1))]) hC 1207 dL_law_1204 (em_X11_count f2) mm_X11_count mv_X11_count lkL_157 rfl rfl (Nat.le_of_ble_eq_true rfl) (Nat.le_of_ble_eq_true rfl) rfl ?_
  refine lx_icmp_eq hC 1212 dL_law_1207 rfl ?_
  exact next SC' SM' hI'

theorem lw_end {L i : Nat} (hL3 : L ≤ 3072) (hi : i ≤ L + 6) (h : L < i + 6) : Int32.ofNat L - 6 < nI i := by
  rw [Int32.lt_iff_toInt_lt, show Int32.ofNat L - 6 = nI L - nI 6 from rfl, pk_sub_toInt (by omega) (by omega), nI_toInt (by omega)]
  omega
theorem lw_goes {L i : Nat} (hL3 : L ≤ 3072) (h : i + 6 ≤ L) : ¬ Int32.ofNat L - 6 < nI i := by
  rw [Int32.lt_iff_toInt_lt, show Int32.ofNat L - 6 = nI L - nI 6 from rfl, pk_sub_toInt (by omega) (by omega), nI_toInt (by omega)]
  omega
set_option maxHeartbeats 4000000 in
set_option maxRecDepth 20000 in
theorem lw_loop (hC : lw_C p s m meth c b L xs D cy ad) (hL3 : L ≤ 3072) (hst : LawStep N Inv) (hskip : ∀ n SC SM, n < 512 → Inv n SC SM → Inv (n + 1) SC SM) : ∀ (k n i : Nat) (SC SM : rx_S), i = 6 * n → L + 6 ≤ i + 6 * k → i ≤ L + 6 → Inv n SC SM → LW p l e s m below meth c b D cy ad 18 [some (.ref 5000), some (.ref 0), some (.ref 94), some (.int (nI i))] [] SC SM := by
  obtain ⟨h_feed, h_back, h_read, h_place, h_spouse, h_couple, h_third, h_hire, h_swear, h_weeks, h_undo, h_bends, h_heard, h_chain, h_say, h_loses, h_least, h_truest, h_crooked, h_altered, h_takes, h_hires, h_then, h_paid, h_parts, h_oaths, h_year, h_tell, h_forget, h_who, h_ask, h_hold, h_restore, h_count⟩ := hst
  intro k
  induction k with
  | zero =>
    intro n i SC SM hin hk hi hI
    refine lx_iload_n (i := 3) hC 19 dL_law_18 rfl rfl rfl ?_
    refine lx_aload_n (i := 0) hC 20 dL_law_19 rfl rfl rfl ?_
    refine lx_slen hC 21 dL_law_20 rfl ?_
    refine lx_bipush (v := 6) hC 23 dL_law_21 (by decide) rfl ?_
    refine lx_isub hC 24 dL_law_23 rfl ?_
    refine lx_icmp_gt hC 1218 27 dL_law_24 rfl rfl (fun _ => ?_) (fun q => absurd (lw_end hL3 hi (by omega)) q)
    refine lx_iconst (v := 1) hC 1219 dL_law_1218 (by decide) rfl ?_
    exact lx_ret hC dL_law_1219
  | succ k ih =>
    intro n i SC SM hin hk hi hI
    refine lx_iload_n (i := 3) hC 19 dL_law_18 rfl rfl rfl ?_
    refine lx_aload_n (i := 0) hC 20 dL_law_19 rfl rfl rfl ?_
    refine lx_slen hC 21 dL_law_20 rfl ?_
    refine lx_bipush (v := 6) hC 23 dL_law_21 (by decide) rfl ?_
    refine lx_isub hC 24 dL_law_23 rfl ?_
    by_cases hend : L < i + 6
    · refine lx_icmp_gt hC 1218 27 dL_law_24 rfl rfl (fun _ => ?_) (fun q => absurd (lw_end hL3 hi hend) q)
      refine lx_iconst (v := 1) hC 1219 dL_law_1218 (by decide) rfl ?_
      exact lx_ret hC dL_law_1219
    · refine lx_icmp_gt hC 1218 27 dL_law_24 rfl rfl (fun q => absurd q (lw_goes hL3 (by omega))) (fun _ => ?_)
      have hn : n < 512 := by omega
      have hi6 : i + 6 ≤ L := by omega
      have nx : ∀ SC' SM', Inv (n + 1) SC' SM' → LW p l e s m below meth c b D cy ad 1212 [some (.ref 5000), some (.ref 0), some (.ref 94), some (.int (nI i))] [] SC' SM' := by
        intro SC' SM' hI'
        refine lx_iinc (v := nI (i + 6)) (ls' := [some (.ref 5000), some (.ref 0), some (.ref 94), some (.int (nI (i + 6)))]) hC 1215 dL_law_1212 rfl (nI_add i 6) rfl rfl ?_
        refine lx_goto hC 18 dL_law_1215 rfl ?_
        exact ih (n + 1) (i + 6) SC' SM' (by omega) (by omega) (by omega) hI'
      refine lx_aload_n (i := 0) hC 28 dL_law_27 rfl rfl rfl ?_
      refine lx_iload_n (i := 3) hC 29 dL_law_28 rfl rfl rfl ?_
      refine lx_sld hC i 30 dL_law_29 rfl (by omega) hL3 rfl ?_
      refine lx_bipush (v := 63) hC 32 dL_law_30 (by decide) rfl ?_
      refine lx_iand hC 33 dL_law_32 rfl ?_
      generalize xs i &&& 63 = w
      by_cases c0 : w = 0
      · refine lx_tableIn hC 184 dL_law_33 (by rw [c0]; decide) (by rw [c0]; decide) (off := 151) (by rw [c0]; rfl) rfl ?_
        exact lc_feed hC hL3 hi6 h_feed hn hI nx
      by_cases c1 : w = 1
      · refine lx_tableIn hC 247 dL_law_33 (by rw [c1]; decide) (by rw [c1]; decide) (off := 214) (by rw [c1]; rfl) rfl ?_
        exact lc_back hC hL3 hi6 h_back hn hI nx
      by_cases c2 : w = 2
      · refine lx_tableIn hC 270 dL_law_33 (by rw [c2]; decide) (by rw [c2]; decide) (off := 237) (by rw [c2]; rfl) rfl ?_
        exact lc_read hC hL3 hi6 h_read hn hI nx
      by_cases c3 : w = 3
      · refine lx_tableIn hC 283 dL_law_33 (by rw [c3]; decide) (by rw [c3]; decide) (off := 250) (by rw [c3]; rfl) rfl ?_
        exact lc_place hC hL3 hi6 h_place hn hI nx
      by_cases c4 : w = 4
      · refine lx_tableIn hC 296 dL_law_33 (by rw [c4]; decide) (by rw [c4]; decide) (off := 263) (by rw [c4]; rfl) rfl ?_
        exact lc_spouse hC hL3 hi6 h_spouse hn hI nx
      by_cases c5 : w = 5
      · refine lx_tableIn hC 329 dL_law_33 (by rw [c5]; decide) (by rw [c5]; decide) (off := 296) (by rw [c5]; rfl) rfl ?_
        exact lc_couple hC hL3 hi6 h_couple hn hI nx
      by_cases c6 : w = 6
      · refine lx_tableIn hC 362 dL_law_33 (by rw [c6]; decide) (by rw [c6]; decide) (off := 329) (by rw [c6]; rfl) rfl ?_
        exact lc_third hC hL3 hi6 h_third hn hI nx
      by_cases c7 : w = 7
      · refine lx_tableIn hC 395 dL_law_33 (by rw [c7]; decide) (by rw [c7]; decide) (off := 362) (by rw [c7]; rfl) rfl ?_
        exact lc_hire hC hL3 hi6 h_hire hn hI nx
      by_cases c8 : w = 8
      · refine lx_tableIn hC 428 dL_law_33 (by rw [c8]; decide) (by rw [c8]; decide) (off := 395) (by rw [c8]; rfl) rfl ?_
        exact lc_swear hC hL3 hi6 h_swear hn hI nx
      by_cases c9 : w = 9
      · refine lx_tableIn hC 477 dL_law_33 (by rw [c9]; decide) (by rw [c9]; decide) (off := 444) (by rw [c9]; rfl) rfl ?_
        exact lc_weeks hC hL3 hi6 h_weeks hn hI nx
      by_cases c10 : w = 10
      · refine lx_tableIn hC 500 dL_law_33 (by rw [c10]; decide) (by rw [c10]; decide) (off := 467) (by rw [c10]; rfl) rfl ?_
        exact lc_undo hC hL3 hi6 h_undo hn hI nx
      by_cases c11 : w = 11
      · refine lx_tableIn hC 513 dL_law_33 (by rw [c11]; decide) (by rw [c11]; decide) (off := 480) (by rw [c11]; rfl) rfl ?_
        exact lc_bends hC hL3 hi6 h_bends hn hI nx
      by_cases c12 : w = 12
      · refine lx_tableIn hC 556 dL_law_33 (by rw [c12]; decide) (by rw [c12]; decide) (off := 523) (by rw [c12]; rfl) rfl ?_
        exact lc_heard hC hL3 hi6 h_heard hn hI nx
      by_cases c13 : w = 13
      · refine lx_tableIn hC 589 dL_law_33 (by rw [c13]; decide) (by rw [c13]; decide) (off := 556) (by rw [c13]; rfl) rfl ?_
        exact lc_chain hC hL3 hi6 h_chain hn hI nx
      by_cases c14 : w = 14
      · refine lx_tableIn hC 632 dL_law_33 (by rw [c14]; decide) (by rw [c14]; decide) (off := 599) (by rw [c14]; rfl) rfl ?_
        exact lc_say hC hL3 hi6 h_say hn hI nx
      by_cases c15 : w = 15
      · refine lx_tableIn hC 665 dL_law_33 (by rw [c15]; decide) (by rw [c15]; decide) (off := 632) (by rw [c15]; rfl) rfl ?_
        exact lc_loses hC hL3 hi6 h_loses hn hI nx
      by_cases c16 : w = 16
      · refine lx_tableIn hC 708 dL_law_33 (by rw [c16]; decide) (by rw [c16]; decide) (off := 675) (by rw [c16]; rfl) rfl ?_
        exact lc_least hC hL3 hi6 h_least hn hI nx
      by_cases c17 : w = 17
      · refine lx_tableIn hC 731 dL_law_33 (by rw [c17]; decide) (by rw [c17]; decide) (off := 698) (by rw [c17]; rfl) rfl ?_
        exact lc_truest hC hL3 hi6 h_truest hn hI nx
      by_cases c18 : w = 18
      · refine lx_tableIn hC 754 dL_law_33 (by rw [c18]; decide) (by rw [c18]; decide) (off := 721) (by rw [c18]; rfl) rfl ?_
        exact lc_crooked hC hL3 hi6 h_crooked hn hI nx
      by_cases c19 : w = 19
      · refine lx_tableIn hC 787 dL_law_33 (by rw [c19]; decide) (by rw [c19]; decide) (off := 754) (by rw [c19]; rfl) rfl ?_
        exact lc_altered hC hL3 hi6 h_altered hn hI nx
      by_cases c20 : w = 20
      · refine lx_tableIn hC 820 dL_law_33 (by rw [c20]; decide) (by rw [c20]; decide) (off := 787) (by rw [c20]; rfl) rfl ?_
        exact lc_takes hC hL3 hi6 h_takes hn hI nx
      by_cases c21 : w = 21
      · refine lx_tableIn hC 853 dL_law_33 (by rw [c21]; decide) (by rw [c21]; decide) (off := 820) (by rw [c21]; rfl) rfl ?_
        exact lc_hires hC hL3 hi6 h_hires hn hI nx
      by_cases c22 : w = 22
      · refine lx_tableIn hC 876 dL_law_33 (by rw [c22]; decide) (by rw [c22]; decide) (off := 843) (by rw [c22]; rfl) rfl ?_
        exact lc_then hC hL3 hi6 h_then hn hI nx
      by_cases c23 : w = 23
      · refine lx_tableIn hC 909 dL_law_33 (by rw [c23]; decide) (by rw [c23]; decide) (off := 876) (by rw [c23]; rfl) rfl ?_
        exact lc_paid hC hL3 hi6 h_paid hn hI nx
      by_cases c24 : w = 24
      · refine lx_tableIn hC 952 dL_law_33 (by rw [c24]; decide) (by rw [c24]; decide) (off := 919) (by rw [c24]; rfl) rfl ?_
        exact lc_parts hC hL3 hi6 h_parts hn hI nx
      by_cases c25 : w = 25
      · refine lx_tableIn hC 975 dL_law_33 (by rw [c25]; decide) (by rw [c25]; decide) (off := 942) (by rw [c25]; rfl) rfl ?_
        exact lc_oaths hC hL3 hi6 h_oaths hn hI nx
      by_cases c26 : w = 26
      · refine lx_tableIn hC 1008 dL_law_33 (by rw [c26]; decide) (by rw [c26]; decide) (off := 975) (by rw [c26]; rfl) rfl ?_
        exact lc_year hC hL3 hi6 h_year hn hI nx
      by_cases c27 : w = 27
      · refine lx_tableIn hC 1051 dL_law_33 (by rw [c27]; decide) (by rw [c27]; decide) (off := 1018) (by rw [c27]; rfl) rfl ?_
        exact lc_tell hC hL3 hi6 h_tell hn hI nx
      by_cases c28 : w = 28
      · refine lx_tableIn hC 1084 dL_law_33 (by rw [c28]; decide) (by rw [c28]; decide) (off := 1051) (by rw [c28]; rfl) rfl ?_
        exact lc_forget hC hL3 hi6 h_forget hn hI nx
      by_cases c29 : w = 29
      · refine lx_tableIn hC 1097 dL_law_33 (by rw [c29]; decide) (by rw [c29]; decide) (off := 1064) (by rw [c29]; rfl) rfl ?_
        exact lc_who hC hL3 hi6 h_who hn hI nx
      by_cases c30 : w = 30
      · refine lx_tableIn hC 1120 dL_law_33 (by rw [c30]; decide) (by rw [c30]; decide) (off := 1087) (by rw [c30]; rfl) rfl ?_
        exact lc_ask hC hL3 hi6 h_ask hn hI nx
      by_cases c31 : w = 31
      · refine lx_tableIn hC 1143 dL_law_33 (by rw [c31]; decide) (by rw [c31]; decide) (off := 1110) (by rw [c31]; rfl) rfl ?_
        exact lc_hold hC hL3 hi6 h_hold hn hI nx
      by_cases c32 : w = 32
      · refine lx_tableIn hC 1166 dL_law_33 (by rw [c32]; decide) (by rw [c32]; decide) (off := 1133) (by rw [c32]; rfl) rfl ?_
        exact lc_restore hC hL3 hi6 h_restore hn hI nx
      by_cases c33 : w = 33
      · refine lx_tableIn hC 1189 dL_law_33 (by rw [c33]; decide) (by rw [c33]; decide) (off := 1156) (by rw [c33]; rfl) rfl ?_
        exact lc_count hC hL3 hi6 h_count hn hI nx
      refine lx_tableOut hC 1212 dL_law_33 (by have q0 := rx_ne c0 (z := 0) (by decide); have q1 := rx_ne c1 (z := 1) (by decide); have q2 := rx_ne c2 (z := 2) (by decide); have q3 := rx_ne c3 (z := 3) (by decide); have q4 := rx_ne c4 (z := 4) (by decide); have q5 := rx_ne c5 (z := 5) (by decide); have q6 := rx_ne c6 (z := 6) (by decide); have q7 := rx_ne c7 (z := 7) (by decide); have q8 := rx_ne c8 (z := 8) (by decide); have q9 := rx_ne c9 (z := 9) (by decide); have q10 := rx_ne c10 (z := 10) (by decide); have q11 := rx_ne c11 (z := 11) (by decide); have q12 := rx_ne c12 (z := 12) (by decide); have q13 := rx_ne c13 (z := 13) (by decide); have q14 := rx_ne c14 (z := 14) (by decide); have q15 := rx_ne c15 (z := 15) (by decide); have q16 := rx_ne c16 (z := 16) (by decide); have q17 := rx_ne c17 (z := 17) (by decide); have q18 := rx_ne c18 (z := 18) (by decide); have q19 := rx_ne c19 (z := 19) (by decide); have q20 := rx_ne c20 (z := 20) (by decide); have q21 := rx_ne c21 (z := 21) (by decide); have q22 := rx_ne c22 (z := 22) (by decide); have q23 := rx_ne c23 (z := 23) (by decide); have q24 := rx_ne c24 (z := 24) (by decide); have q25 := rx_ne c25 (z := 25) (by decide); have q26 := rx_ne c26 (z := 26) (by decide); have q27 := rx_ne c27 (z := 27) (by decide); have q28 := rx_ne c28 (z := 28) (by decide); have q29 := rx_ne c29 (z := 29) (by decide); have q30 := rx_ne c30 (z := 30) (by decide); have q31 := rx_ne c31 (z := 31) (by decide); have q32 := rx_ne c32 (z := 32) (by decide); have q33 := rx_ne c33 (z := 33) (by decide); omega) rfl ?_
      refine lx_iinc (v := nI (i + 6)) (ls' := [some (.ref 5000), some (.ref 0), some (.ref 94), some (.int (nI (i + 6)))]) hC 1215 dL_law_1212 rfl (nI_add i 6) rfl rfl ?_
      refine lx_goto hC 18 dL_law_1215 rfl ?_
      exact ih (n + 1) (i + 6) SC SM (by omega) (by omega) (by omega) (hskip n SC SM hn hI)

end LWC
