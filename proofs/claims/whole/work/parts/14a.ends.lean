/-! WHAT lw_claim ASKS BESIDE THE CALLS -/
section
variable {N X j : Nat} {s : sk_S} {c : Nat → Nat → Int32}
theorem RR_x (h : RR X j s c) : sk_K s X = (11, 0) := by
  obtain ⟨_, _, W, sd, m, R, _⟩ := h
  exact ly_X11_c R.1.1
theorem RR_bd (_hj : j ≤ 512) (h : RR X j s c) : sk_n s ≤ X + 601024 ∧ sk_m s ≤ 7293034 := by
  obtain ⟨h1, h2, _⟩ := h
  unfold R_sz at h2
  refine ⟨by omega, ?_⟩
  have := h2.2
  split at this <;> omega
theorem RR_next (hj : j < 512) (h : RR X j s c) : RR X (j + 1) s c := by
  obtain ⟨_, Z, W, sd, m, R, Rw⟩ := h
  exact RR_same hj Z R Rw ceq.rf
end
