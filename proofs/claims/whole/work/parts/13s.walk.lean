/-! WALK: cells beside -/
theorem besideN : ∀ a, a < 64 → ∀ b, b < 64 → sh_has (sh_beside (1 <<< (Int32.toInt64 (nI a) &&& 63))) (nI b) = if md_apart (nI a) (nI b) = 1 then 1 else 0 := by decide +kernel
