/-- what is owed of the shallow functions -/
theorem main_pure : ∃ (INV : Hp → Hp → Prop) (fu : Nat), INV hC0 hM0 ∧ OKS INV fu := sorry
