theorem pure_owed : ∃ (N : Nat) (Inv : Nat → rx_S → rx_S → Prop), Inv 0 zC zM ∧ LawStep N Inv ∧ (∀ n SC SM, n < 512 → Inv n SC SM → Inv (n + 1) SC SM) := sorry
