/-! rows of bits for ask -/
theorem ask_or : ∀ m : Fin 1024, ∀ f : Fin 10, nI m.val ||| ((1 : Int32) <<< (nI f.val &&& 31)) = nI (m.val ||| 2 ^ f.val) ∧ m.val ||| 2 ^ f.val < 1024 := by decide +kernel
theorem ask_bit : ∀ m : Fin 1024, ∀ k : Fin 10, bitAt (nI m.val).toInt64 k.val = selI (nI m.val) k.val := by decide +kernel
