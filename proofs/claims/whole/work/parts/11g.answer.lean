/-! SEARCH: its beginning and its answer -/
theorem lay10_of {K : Nat → Nat × Nat} {r : Nat → Nat → Option Nat} {a : Nat} (h : lay_X10 K r a = true) : K a = (10, 0) ∧ K (a + 1) = (21, 14400) ∧ K (a + 2) = (21, 1200) ∧ K (a + 3) = (21, 1200) ∧ K (a + 4) = (21, 1200) ∧ K (a + 5) = (21, 1200) ∧ K (a + 6) = (22, 1200) ∧ K (a + 7) = (21, 31) := by
  unfold lay_X10 at h
  have h := of_decide_eq_true h
  exact ⟨h.1, h.2.2.1, h.2.2.2.2.1, h.2.2.2.2.2.2.1, h.2.2.2.2.2.2.2.2.1, h.2.2.2.2.2.2.2.2.2.2.1, h.2.2.2.2.2.2.2.2.2.2.2.2.1, h.2.2.2.2.2.2.2.2.2.2.2.2.2.2⟩
theorem gp_cat {nx : Nat → Nat → Nat} {tk : Nat → Nat} {ok : Nat → Bool} : ∀ {n d s u m e t : Nat}, gp_R nx tk ok n d s u → gp_R nx tk ok m e u t → gp_R nx tk ok (n + m) (d + e) s t := by
  intro n
  induction n with
  | zero =>
    intro d s u m e t h h'
    obtain ⟨rfl, rfl⟩ := h
    rw [Nat.zero_add, Nat.zero_add]; exact h'
  | succ n ih =>
    intro d s u m e t h h'
    obtain ⟨hs, o, d', ho, hk, hd, h2⟩ := h
    have : n + 1 + m = (n + m) + 1 := by omega
    rw [this]
    exact ⟨hs, o, d' + e, ho, hk, by omega, ih h2 h'⟩
section
variable {N y z : Nat} {VL : Nat → Nat → Prop} {nx : Nat → Nat → Nat} {tk : Nat → Nat} {ok : Nat → Bool} {s0 s : sk_S} {st T x B : Nat} {D rk : Nat → Nat} {dn wt : Nat → Bool}
theorem wy_begin (E : wy_env N y z VL nx tk s) (hc : wy_ca y nx s) (hst : st < 1200) : ∃ s', x10_begin N s y (nI st) = some (s', 0) ∧ ∀ till, wy_Q nx tk ok y st (wy_V y VL) s till 0 s' (fun _ => 0) (fun _ => false) (sb_ (fun _ => false) st true) := by
  have hN := E.2.2.2.2.2.2.2.2.2.1
  obtain ⟨l0, l1, l2, l3, l4, l5, l6, l7⟩ := lay10_of E.1
  unfold x10_begin
  rw [if_pos E.1]
  obtain ⟨s1, a1, a2, a3⟩ := fl_ok (N := N) (v := -1) l2 (by decide) (by omega)
  rw [a1]
  simp only [zq_bind]
  obtain ⟨s2, b1, b2, b3⟩ := fl_ok (N := N) (v := -1) (s := s1) (a := y + 7) (len := 31) (by rw [a2.1]; exact l7) (by decide) (by omega)
  rw [b1]
  simp only [zq_bind, zq_let]
  have F2 : cfr (wy_V y VL) s (sk_wc (sk_wc s2 y 7 0) y 8 0) := by
    refine (((a2.mono ?_).tr (b2.mono ?_)).wc 0 (.inr (.inl ⟨rfl, .inl rfl⟩))).wc 0 (.inr (.inl ⟨rfl, .inr rfl⟩))
    · intro b k e; exact .inl ⟨by omega, by omega⟩
    · intro b k e; exact .inl ⟨by omega, by omega⟩
  have c2 : wy_ca y nx (sk_wc (sk_wc s2 y 7 0) y 8 0) := by
    refine wy_ca_ops hc ?_ ?_
    · simp (disch := omega) only [qc_ne]
      refine funext fun k => ?_
      rw [b2.2.2.2.2.2 _ _ (by omega), a2.2.2.2.2.2 _ _ (by omega)]
    · rw [qc_eq, pk_un (by decide), qc_eq, pk_un (by decide), b2.2.2.2.2.2 _ _ (by omega), a2.2.2.2.2.2 _ _ (by omega)]
  have H2 : wy_I nx tk ok y st 0 5000 (sk_wc (sk_wc s2 y 7 0) y 8 0) (fun _ => 0) (fun _ => 0) (fun _ => false) (fun _ => false) 0 := by
    refine ⟨?_, ⟨fun v h => Bool.noConfusion h, fun v h => Bool.noConfusion h, fun v h => Bool.noConfusion h, ?_⟩, fun v h => Bool.noConfusion h, fun v h => Bool.noConfusion h, ?_, ?_, ?_, ?_, fun v h => Bool.noConfusion h, ?_⟩
    · intro v hv _
      simp (disch := omega) only [qc_ne]
      rw [b2.2.2.2.2.2 _ _ (by omega), a3 v hv, if_neg (by simp)]
    · intro k hk
      simp (disch := omega) only [qc_ne]
      exact .inl (b3 k hk)
    · intro v h
      rcases h with h | h <;> exact Bool.noConfusion h
    · rw [qc_eq, pk_us, cn_false]; rfl
    · rw [qc_eq, pk_un (by decide), qc_eq, pk_us, cn_false]; rfl
    · rw [cn_false]; intro i hi; omega
    · rw [cn_false]; intro i j v w _ hj; omega
  obtain ⟨s', r1, r2, r3, r4⟩ := wy_J_enter (N := N) (t := st) (q := 0) E F2 c2 H2 hst (.inr (by decide)) rfl rfl (by omega) (by omega) (by omega) ⟨0, rfl, rfl⟩
  have r1' : x10_enterSlot N (sk_wc (sk_wc s2 y 7 0) y 8 0) y (nI st) 0 = some (s', 0) := r1
  rw [r1']
  have e : (fun j : Nat => if j = st then 0 else (fun _ : Nat => 0) j) = fun _ => 0 := by funext j; simp
  rw [e] at r4
  refine ⟨s', rfl, fun till => ⟨r2, r3, ⟨fun _ => 0, 0 + 1, r4⟩, ?_, fun _ v h => Bool.noConfusion h, .inr (by simp [sb_]), rfl⟩⟩
  intro v o h; exact Bool.noConfusion h
/-- the search: its answer, and what stands behind it -/
theorem wy_search {set till : Int32} (E : wy_env N y z VL nx tk s) (hN : 40000 ≤ N) (hc : wy_ca y nx s) (hst : st < 1200) (hok : ∀ o, o < 12 → wy_isIn set (nI o) = if ok o = true then 1 else 0) (htill : till = 0 ∨ till = 1) :
    ∃ s' r T' D' dn' wt', x10_search N s y (nI st) set till = some (s', r) ∧ wy_Q nx tk ok y st (wy_V y VL) s till T' s' D' dn' wt' ∧ T' ≤ 36001 ∧ ((r = -1 ∧ ∀ v, wt' v = false) ∨ (till = 1 ∧ r = nI T' ∧ T' ≤ 36000 ∧ ∃ v, v < 12 ∧ wt' v = true ∧ D' v = T')) := by
  unfold x10_search
  rw [if_pos E.1]
  obtain ⟨s1, a1, a2⟩ := wy_begin (ok := ok) E hc hst
  rw [a1]
  simp only [zq_bind]
  exact wy_outerL (p1 := nI st) E hok htill 36001 N 0 s1 _ _ _ (by omega) (by omega) (a2 till)
theorem wy_reach (C : wy_C nx tk ok D dn wt (fun _ _ => False)) (hst : dn st = true ∨ wt st = true) (hD : D st = 0) : ∀ {n d v : Nat}, gp_R nx tk ok n d st v → (dn v = true ∧ D v ≤ d) ∨ ∃ w, wt w = true ∧ D w ≤ d := by
  intro n
  induction n with
  | zero =>
    intro d v h
    obtain ⟨rfl, rfl⟩ := h
    rcases hst with h | h
    · exact .inl ⟨h, by omega⟩
    · exact .inr ⟨st, h, by omega⟩
  | succ n ih =>
    intro d v h
    obtain ⟨u, o, d', h1, h2, h3, h4, rfl, h6⟩ := gp_unsnoc h
    rcases ih h1 with ⟨q1, q2⟩ | ⟨w, q1, q2⟩
    · obtain ⟨b1, b2⟩ := C u o q1 h2 h3 h4 (fun q => q)
      rcases b1 with b1 | b1
      · exact .inl ⟨b1, by omega⟩
      · exact .inr ⟨_, b1, by omega⟩
    · exact .inr ⟨w, q1, by omega⟩
theorem wy_ans {V : Nat → Nat → Prop} {r : Int32} (Q : wy_Q nx tk ok y st V s0 1 T s D dn wt) (h : (r = -1 ∧ ∀ v, wt v = false) ∨ ((1 : Int32) = 1 ∧ r = nI T ∧ T ≤ 36000 ∧ ∃ v, v < 12 ∧ wt v = true ∧ D v = T)) : gp_ans nx tk ok st r := by
  obtain ⟨F, hc, ⟨rk, B, H⟩, C, hti, hst, hD0⟩ := Q
  have no : ∀ d, gp_out nx tk ok d st → ∃ w, wt w = true ∧ D w ≤ d := by
    rintro d ⟨n, t, ht, hp⟩
    rcases wy_reach C hst hD0 hp with ⟨q1, _⟩ | q
    · have := hti rfl t q1; omega
    · exact q
  rcases h with ⟨hr, hw⟩ | ⟨_, hr, hT, v, hv, hw, hDv⟩
  · refine .inl ⟨hr, fun d hd => ?_⟩
    obtain ⟨w, q, _⟩ := no d hd
    rw [hw w] at q; exact Bool.noConfusion q
  · refine .inr ⟨T, hr, hT, ?_, fun d hd => ?_⟩
    · obtain ⟨n, hn⟩ := H.2.2.2.2.1 v (.inr hw)
      rw [hDv] at hn
      exact ⟨n, v, hv, hn⟩
    · obtain ⟨w, q1, q2⟩ := no d hd
      have := (H.2.2.2.1 w q1).1
      omega
/-- soonest by the class -/
theorem wy_soon {set : Int32} (E : wy_env N y z VL nx tk s) (hN : 40000 ≤ N) (hc : wy_ca y nx s) (hst : st < 1200) (hok : ∀ o, o < 12 → wy_isIn set (nI o) = if ok o = true then 1 else 0) :
    ∃ s' r, x10_search N s y (nI st) set 1 = some (s', r) ∧ cfr (wy_V y VL) s s' ∧ wy_ca y nx s' ∧ gp_ans nx tk ok st r := by
  obtain ⟨s', r, T', D', dn', wt', a1, a2, a3, a4⟩ := wy_search E hN hc hst hok (.inr rfl)
  exact ⟨s', r, a1, a2.1, a2.2.1, wy_ans a2 a4⟩
/-! the way round, and how many states -/
/-- what the reference's rows say behind laysRound -/
def gp_rnd (nx : Nat → Nat → Nat) (tk : Nat → Nat) (st : Nat) (nd : Nat → Nat) : Prop :=
  (∀ s, s < 1200 → nd s < 1000000 → ∃ n, gp_R nx tk (fun _ => true) (n + 1) (nd s) st s) ∧ (∀ o, o < 12 → 12 ≤ st → nd (nx st o) ≤ tk o) ∧ (∀ s o, s < 1200 → 12 ≤ s → o < 12 → nd s < 1000000 → nd (nx s o) ≤ nd s + tk o)
theorem gp_rnd_le {nd : Nat → Nat} (hnx : ∀ s o, s < 1200 → o < 12 → nx s o < 1200) (hst : st < 1200) (H : gp_rnd nx tk st nd) : ∀ {n d s : Nat}, d < 1000000 → gp_R nx tk (fun _ => true) (n + 1) d st s → nd s ≤ d := by
  intro n
  induction n with
  | zero =>
    intro d s hd h
    obtain ⟨h12, o, d', ho, _, hd', h0, e⟩ := h
    have := H.2.1 o ho h12
    rw [← e]; omega
  | succ n ih =>
    intro d s hd h
    obtain ⟨u, o, d', h1, h2, h3, _, e, h6⟩ := gp_unsnoc h
    have q := ih (by omega) h1
    have hu := gp_rng hnx hst h1
    have := H.2.2 u o hu h2 h3 (by omega)
    rw [e]; omega
end
