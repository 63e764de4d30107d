/-! WALK: cells beside -/
theorem besideN : ∀ a, a < 64 → ∀ b, b < 64 → sh_has (sh_beside (1 <<< (Int32.toInt64 (nI a) &&& 63))) (nI b) = if md_apart (nI a) (nI b) = 1 then 1 else 0 := by decide +kernel
section
variable {N X j : Nat} {s s' : sk_S} {c c' c0 : Nat → Nat → Int32} {W W' W0 : Nat → Nat} {sd sd' sd0 : Int32} {m m' : lwM} {sb : Nat} {k : Nat}
theorem personC (R : R_now X s c0 W sd m) (Rc : rwd c W sd m) (p : Int32) : (∃ n, n < W 12 ∧ n < 6 ∧ p = nI n ∧ x11_isPerson N s X p = some (s, 1) ∧ md_noPerson_r c p = 0) ∨ (x11_isPerson N s X p = some (s, 0) ∧ md_noPerson_r c p = 1) := by
  have w12 := Rc.2.1.1.2.2.2.2.2.2.2.2.2.2.2.2.1
  have s6 : sk_c s (X + 16) 6 = nI (W 12) := R.2.2.1.2.2.2.2.2.1.2.1
  have c12 : md_people_r c = nI (W 12) := wv_n Rc.1 (k := 12) (by decide) (by decide)
  have i1 : (nI (W 12)).toInt = W 12 := nI_toInt (by omega)
  have i2 : (nI (W 12) - 1).toInt = (W 12 : Int) - 1 := by
    have : W 12 = 0 ∨ W 12 = 1 ∨ W 12 = 2 ∨ W 12 = 3 ∨ W 12 = 4 ∨ W 12 = 5 ∨ W 12 = 6 := by omega
    rcases this with h | h | h | h | h | h | h <;> rw [h] <;> decide
  have z : (0 : Int32).toInt = 0 := by decide
  unfold x11_isPerson md_noPerson_r md_in
  rw [if_pos R.1, s6, c12]
  by_cases h0 : p < 0
  · right
    rw [if_pos h0, if_pos h0, if_pos rfl]
    exact ⟨rfl, rfl⟩
  · rw [if_neg h0, if_neg h0]
    have hp0 : 0 ≤ p.toInt := by rw [fa_lt, z] at h0; omega
    by_cases h1 : nI (W 12) ≤ p
    · right
      have h2 : nI (W 12) - 1 < p := by rw [fa_le, i1] at h1; rw [fa_lt, i2]; omega
      rw [if_pos h1, if_pos h2, if_pos rfl]
      exact ⟨rfl, rfl⟩
    · left
      have hlt : p.toInt < W 12 := by rw [fa_le, i1] at h1; omega
      have h2 : ¬ nI (W 12) - 1 < p := by rw [fa_lt, i2]; omega
      have e : p = nI p.toInt.toNat := by rw [fa_eq, nI_toInt (by omega)]; omega
      rw [if_neg h1, if_neg h2, if_neg (by decide)]
      exact ⟨p.toInt.toNat, by omega, by omega, e, rfl, rfl⟩
end
