theorem tr_ok (m pc : Nat) : ∀ e, tr m pc = some e → chk m pc e = true := sorry
