section
theorem tt_one : nI 0 = 0 := nI_0
theorem tt_two : ∀ s, s < 1024 → ∀ r, r < 10 → ((nI s >>> (nI r &&& 31)) &&& 1) = if s.testBit r then 1 else 0 := by decide +kernel
end
