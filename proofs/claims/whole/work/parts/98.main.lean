/-- what is owed of the shallow functions -/
theorem main_pure : ∃ (INV : Hp → Hp → Prop) (fu : Nat), INV hC0 hM0 ∧ OKS INV fu := ⟨INVk kSo, 10000, inv_0, oks_all⟩
