/-! GRAPH: states below 1200, the first 12 are out; options below 12; ways by minutes -/
def gp_R (nx : Nat → Nat → Nat) (tk : Nat → Nat) (ok : Nat → Bool) : Nat → Nat → Nat → Nat → Prop
  | 0, d, s, t => d = 0 ∧ s = t
  | n + 1, d, s, t => 12 ≤ s ∧ ∃ o d', o < 12 ∧ ok o = true ∧ d = tk o + d' ∧ gp_R nx tk ok n d' (nx s o) t
section
variable {nx : Nat → Nat → Nat} {tk : Nat → Nat} {ok : Nat → Bool}
theorem gp_snoc : ∀ {n d s u o : Nat}, gp_R nx tk ok n d s u → 12 ≤ u → o < 12 → ok o = true → gp_R nx tk ok (n + 1) (d + tk o) s (nx u o) := by
  intro n
  induction n with
  | zero =>
    intro d s u o h hu ho hk
    obtain ⟨rfl, rfl⟩ := h
    exact ⟨hu, o, 0, ho, hk, by omega, rfl, rfl⟩
  | succ n ih =>
    intro d s u o h hu ho hk
    obtain ⟨hs, o', d', ho', hk', hd, h'⟩ := h
    exact ⟨hs, o', d' + tk o, ho', hk', by omega, ih h' hu ho hk⟩
theorem gp_unsnoc : ∀ {n d s v : Nat}, gp_R nx tk ok (n + 1) d s v → ∃ u o d', gp_R nx tk ok n d' s u ∧ 12 ≤ u ∧ o < 12 ∧ ok o = true ∧ v = nx u o ∧ d = d' + tk o := by
  intro n
  induction n with
  | zero =>
    intro d s v h
    obtain ⟨hs, o, d', ho, hk, hd, h0, e⟩ := h
    exact ⟨s, o, 0, ⟨rfl, rfl⟩, hs, ho, hk, e.symm, by omega⟩
  | succ n ih =>
    intro d s v h
    obtain ⟨hs, o, d', ho, hk, hd, h'⟩ := h
    obtain ⟨u, o2, d2, h2, hu, ho2, hk2, hv, hd2⟩ := ih h'
    exact ⟨u, o2, tk o + d2, ⟨hs, o, d2, ho, hk, rfl, h2⟩, hu, ho2, hk2, hv, by omega⟩
theorem gp_rng (hnx : ∀ s o, s < 1200 → o < 12 → nx s o < 1200) : ∀ {n d s t : Nat}, s < 1200 → gp_R nx tk ok n d s t → t < 1200 := by
  intro n
  induction n with
  | zero => intro d s t hs h; obtain ⟨_, rfl⟩ := h; exact hs
  | succ n ih =>
    intro d s t hs h
    obtain ⟨_, o, d', ho, _, _, h'⟩ := h
    exact ih (hnx s o hs ho) h'
def gp_out (nx : Nat → Nat → Nat) (tk : Nat → Nat) (ok : Nat → Bool) (d s : Nat) : Prop := ∃ n t, t < 12 ∧ gp_R nx tk ok n d s t
/-- what the reference's rows say when they are laid -/
def gp_need (nx : Nat → Nat → Nat) (tk : Nat → Nat) (ok : Nat → Bool) (nd : Nat → Nat) : Prop :=
  (∀ s, s < 12 → nd s = 0) ∧ (∀ s, s < 1200 → nd s < 1000000 → gp_out nx tk ok (nd s) s) ∧ (∀ s o, s < 1200 → 12 ≤ s → o < 12 → ok o = true → nd s ≤ tk o + nd (nx s o))
theorem gp_need_le {nd : Nat → Nat} (hnx : ∀ s o, s < 1200 → o < 12 → nx s o < 1200) (H : gp_need nx tk ok nd) : ∀ {n d s t : Nat}, s < 1200 → t < 12 → gp_R nx tk ok n d s t → nd s ≤ d := by
  intro n
  induction n with
  | zero =>
    intro d s t hs ht h
    obtain ⟨_, rfl⟩ := h
    rw [H.1 s ht]; omega
  | succ n ih =>
    intro d s t hs ht h
    obtain ⟨h12, o, d', ho, hk, hd, h'⟩ := h
    have h1 := ih (hnx s o hs ho) ht h'
    have h2 := H.2.2 s o hs h12 ho hk
    omega
/-- what the class's search answers -/
def gp_ans (nx : Nat → Nat → Nat) (tk : Nat → Nat) (ok : Nat → Bool) (st : Nat) (r : Int32) : Prop :=
  (r = -1 ∧ ∀ d, ¬ gp_out nx tk ok d st) ∨ ∃ t, r = nI t ∧ t ≤ 36000 ∧ gp_out nx tk ok t st ∧ ∀ d, gp_out nx tk ok d st → t ≤ d
theorem gp_same {nd : Nat → Nat} {st : Nat} {r : Int32} (hnx : ∀ s o, s < 1200 → o < 12 → nx s o < 1200) (H : gp_need nx tk ok nd) (hst : st < 1200) (h : gp_ans nx tk ok st r) : (r = -1 ∧ 1000000 ≤ nd st) ∨ (r = nI (nd st) ∧ nd st ≤ 36000) := by
  rcases h with ⟨hr, hno⟩ | ⟨t, hr, ht, ho, hmin⟩
  · refine .inl ⟨hr, ?_⟩
    apply Nat.le_of_not_lt
    intro hlt
    exact hno _ (H.2.1 st hst hlt)
  · obtain ⟨n, u, hu, hp⟩ := ho
    have h1 := gp_need_le hnx H hst hu hp
    have h2 := hmin _ (H.2.1 st hst (by omega))
    have e : t = nd st := by omega
    subst e
    exact .inr ⟨hr, ht⟩
end
