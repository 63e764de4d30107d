/-! the way round, and how many states one can come to -/
section
variable {N y z : Nat} {VL : Nat → Nat → Prop} {nx : Nat → Nat → Nat} {tk : Nat → Nat} {ok : Nat → Bool} {s0 s : sk_S} {st T x B : Nat} {D rk : Nat → Nat} {dn wt : Nat → Bool}
theorem wy_all : ∀ o, o < 12 → wy_isIn 127 (nI o) = if (fun _ : Nat => true) o = true then 1 else 0 := by decide +kernel
theorem wy_Q_tgt {V : Nat → Nat → Prop} {till : Int32} {s' : sk_S} (Q : wy_Q nx tk ok y st V s0 till T s D dn wt) (hV : ∀ b k, (b = y + 1 ∨ VL b k) → V b k) (hVL : ∀ b k, VL b k → ¬ (y ≤ b ∧ b ≤ y + 7)) (f : cfr (fun b k => b = y + 1 ∨ VL b k) s s') (c : wy_ca y nx s') : wy_Q nx tk ok y st V s0 till T s' D dn wt := by
  obtain ⟨F, hc, ⟨rk, B, H⟩, C, hti, hst, hD0⟩ := Q
  exact ⟨F.tr (f.mono hV), c, ⟨rk, B, wy_I_tgt H hVL f⟩, C, hti, hst, hD0⟩
theorem wy_of0 {v : Nat} (hv : v < 1200) (h : 12 ≤ v) : po_isOut (nI v) = 0 := by rw [wy_ofl v hv, if_neg (by omega)]
theorem wy_of1 {v : Nat} (h : v < 12) : po_isOut (nI v) = 1 := by rw [wy_ofl v (by omega), if_pos h]
/-- the least of those found: -1 for none -/
def lst_ (r : Int32) (P : Nat → Prop) : Prop := (r = -1 ∧ ∀ t, ¬ P t) ∨ ∃ t, r = nI t ∧ t ≤ 36100 ∧ P t ∧ ∀ t', P t' → t ≤ t'
theorem wy_homeL {k : sk_S → Int32 → Int32 → Int32 → Int32 → Option (sk_S × Int32)} {v : Nat} (E : wy_env N y z VL nx tk s0) (hv : v < 1200) (hst : st < 1200) (hdv : dn v = true) (hDv : D v ≤ 36001) :
    ∀ (m n j : Nat) (s : sk_S) (r : Int32), j + m = 12 → m < n → 12 ≤ v → wy_Q nx tk ok y st (wy_V y VL) s0 0 T s D dn wt → lst_ r (fun t => ∃ o, o < j ∧ nx v o = st ∧ t = D v + tk o) →
    ∃ s' r', x10_minutesHome_L5 N y k n s (nI v) (nI st) r (nI j) = k s' (nI v) (nI st) r' (nI 12) ∧ cfr (fun b k => b = y + 1 ∨ VL b k) s s' ∧ wy_Q nx tk ok y st (wy_V y VL) s0 0 T s' D dn wt ∧ lst_ r' (fun t => ∃ o, o < 12 ∧ nx v o = st ∧ t = D v + tk o) := by
  intro m
  induction m with
  | zero =>
    intro n j s r hj hn h12 Q L
    obtain ⟨n, rfl⟩ : ∃ q, n = q + 1 := ⟨n - 1, by omega⟩
    have e : j = 12 := by omega
    subst e
    refine ⟨s, r, ?_, cfr.rf, Q, L⟩
    simp only [x10_minutesHome_L5]
    rw [if_pos (show (12 : Int32) ≤ nI 12 by decide)]
  | succ m ih =>
    intro n j s r hj hn h12 Q L
    obtain ⟨n, rfl⟩ : ∃ q, n = q + 1 := ⟨n - 1, by omega⟩
    have hj12 : j < 12 := by omega
    obtain ⟨F, hc, ⟨rk, B, H⟩, C, hti, hs, hD0⟩ := id Q
    have hr : sk_r s y 10 = some z := by rw [F.2.2.1]; exact E.2.1
    have hl6 : lay_X6 (sk_K s) (sk_r s) z = true := by rw [F.1, F.2.2.1]; exact E.2.2.1
    have htk := E.2.2.2.2.1 j hj12
    have hnx := E.2.2.2.1 v j hv hj12
    have mu : sk_c s (y + 2) v = nI (D v) := by rw [H.1 v hv (by omega), if_pos (.inl hdv)]
    simp only [x10_minutesHome_L5, zq_let]
    rw [if_neg (show ¬ (12 : Int32) ≤ nI j by show ¬ nI 12 ≤ nI j; rw [zq_le (by decide) (by omega)]; omega), wy_of0 hv h12, if_pos rfl, if_pos (zq_inBt hv (by decide)), hr]
    simp only [ky_om]
    rw [if_pos hl6, wy_takes E F hj12]
    simp only [zq_bind]
    obtain ⟨s1, h1, f1, c1⟩ := wy_target E F hc hv hj12
    rw [h1]
    simp only [zq_bind]
    have hVL := E.2.2.2.2.2.2.2.2.1
    have Q1 := wy_Q_tgt Q (by
      rintro b k (q | q)
      · exact .inl ⟨by omega, by omega⟩
      · exact .inr (.inr q)) hVL f1 c1
    rw [zq_cl (by omega), mu, nI_add, nI_1]
    have ih' : ∀ (r : Int32), lst_ r (fun t => ∃ o, o < j + 1 ∧ nx v o = st ∧ t = D v + tk o) → ∃ s' r', x10_minutesHome_L5 N y k n s1 (nI v) (nI st) r (nI (j + 1)) = k s' (nI v) (nI st) r' (nI 12) ∧ cfr (fun b k => b = y + 1 ∨ VL b k) s s' ∧ wy_Q nx tk ok y st (wy_V y VL) s0 0 T s' D dn wt ∧ lst_ r' (fun t => ∃ o, o < 12 ∧ nx v o = st ∧ t = D v + tk o) := by
      intro r hL
      obtain ⟨s', r', u1, u2, u3, u4⟩ := ih n (j + 1) s1 r (by omega) (by omega) h12 Q1 hL
      exact ⟨s', r', u1, f1.tr u2, u3, u4⟩
    by_cases e : nx v j = st
    · rw [e, if_pos rfl]
      rcases L with ⟨l1, l2⟩ | ⟨t, l1, l2, l3, l4⟩
      · rw [if_pos l1]
        refine ih' _ (.inr ⟨D v + tk j, rfl, by omega, ⟨j, by omega, e, rfl⟩, ?_⟩)
        rintro t' ⟨o, ho, ho2, rfl⟩
        by_cases e2 : o = j
        · rw [e2]; exact Nat.le_refl _
        · exact absurd ⟨o, by omega, ho2, rfl⟩ (l2 _)
      · rw [l1, if_neg (zq_m1 (by omega))]
        by_cases hle : t ≤ D v + tk j
        · rw [if_pos (by rw [zq_le (by omega) (by omega)]; omega)]
          refine ih' _ (.inr ⟨t, rfl, l2, ?_, ?_⟩)
          · obtain ⟨o, ho, q⟩ := l3; exact ⟨o, by omega, q⟩
          · rintro t' ⟨o, ho, ho2, rfl⟩
            by_cases e2 : o = j
            · rw [e2]; exact hle
            · exact l4 _ ⟨o, by omega, ho2, rfl⟩
        · rw [if_neg (by rw [zq_le (by omega) (by omega)]; omega)]
          refine ih' _ (.inr ⟨D v + tk j, rfl, by omega, ⟨j, by omega, e, rfl⟩, ?_⟩)
          rintro t' ⟨o, ho, ho2, rfl⟩
          by_cases e2 : o = j
          · rw [e2]; exact Nat.le_refl _
          · have := l4 _ ⟨o, by omega, ho2, rfl⟩; omega
    · rw [if_neg (by intro q; exact e (zq_inj (by omega) (by omega) q))]
      have drop : ∀ t', (∃ o, o < j + 1 ∧ nx v o = st ∧ t' = D v + tk o) → (∃ o, o < j ∧ nx v o = st ∧ t' = D v + tk o) := by
        rintro t' ⟨o, ho, ho2, h⟩
        by_cases e2 : o = j
        · rw [e2] at ho2; exact absurd ho2 e
        · exact ⟨o, by omega, ho2, h⟩
      refine ih' r ?_
      rcases L with ⟨l1, l2⟩ | ⟨t, l1, l2, l3, l4⟩
      · exact .inl ⟨l1, fun t q => l2 t (drop t q)⟩
      · refine .inr ⟨t, l1, l2, ?_, fun t' q => l4 t' (drop t' q)⟩
        obtain ⟨o, ho, q⟩ := l3; exact ⟨o, by omega, q⟩
theorem wy_home {v : Nat} (E : wy_env N y z VL nx tk s0) (hst : st < 1200) (hdv : dn v = true) (hT : T ≤ 36001) (Q : wy_Q nx tk ok y st (wy_V y VL) s0 0 T s D dn wt) :
    ∃ s' r', x10_minutesHome N s y (nI v) (nI st) = some (s', r') ∧ cfr (fun b k => b = y + 1 ∨ VL b k) s s' ∧ wy_Q nx tk ok y st (wy_V y VL) s0 0 T s' D dn wt ∧ lst_ r' (fun t => 12 ≤ v ∧ ∃ o, o < 12 ∧ nx v o = st ∧ t = D v + tk o) := by
  have hN := E.2.2.2.2.2.2.2.2.2.1
  obtain ⟨F, hc, ⟨rk, B, H⟩, C, hti, hs, hD0⟩ := id Q
  have hv := H.2.2.1 v hdv
  unfold x10_minutesHome
  rw [if_pos (wy_lay E F)]
  by_cases h12 : v < 12
  · obtain ⟨n, rfl⟩ : ∃ q, N = q + 1 := ⟨N - 1, by omega⟩
    refine ⟨s, -1, ?_, cfr.rf, Q, .inl ⟨rfl, fun t q => by omega⟩⟩
    simp only [x10_minutesHome_L5]
    rw [if_neg (show ¬ (12 : Int32) ≤ 0 by decide), wy_of1 h12, if_neg (by decide)]
  · obtain ⟨s', r', g1, g0, g2, g3⟩ := wy_homeL (k := fun q2 x3 x4 x5 x6 => some (q2, x5)) E hv.1 hst hdv (by omega) 12 N 0 s (-1) (by omega) (by omega) (by omega) Q (.inl ⟨rfl, fun t q => by obtain ⟨o, ho, _⟩ := q; omega⟩)
    refine ⟨s', r', g1, g0, g2, ?_⟩
    rcases g3 with ⟨l1, l2⟩ | ⟨t, l1, l2, l3, l4⟩
    · exact .inl ⟨l1, fun t q => l2 t q.2⟩
    · exact .inr ⟨t, l1, l2, ⟨by omega, l3⟩, fun t' q => l4 t' q.2⟩
theorem wy_roundL {k : sk_S → Int32 → Int32 → Int32 → Option (sk_S × Int32)} (E : wy_env N y z VL nx tk s0) (hst : st < 1200) (hT : T ≤ 36001) :
    ∀ (m n i : Nat) (s : sk_S) (r : Int32), i + m = cn dn 1200 → m < n → wy_Q nx tk ok y st (wy_V y VL) s0 0 T s D dn wt → lst_ r (fun t => ∃ i' v, i' < i ∧ sk_c s (y + 5) i' = nI v ∧ v < 1200 ∧ 12 ≤ v ∧ ∃ o, o < 12 ∧ nx v o = st ∧ t = D v + tk o) →
    ∃ s' r', x10_minutesRound_L13 N y k n s (nI st) r (nI i) = k s' (nI st) r' (nI (cn dn 1200)) ∧ wy_Q nx tk ok y st (wy_V y VL) s0 0 T s' D dn wt ∧ lst_ r' (fun t => ∃ i' v, i' < cn dn 1200 ∧ sk_c s' (y + 5) i' = nI v ∧ v < 1200 ∧ 12 ≤ v ∧ ∃ o, o < 12 ∧ nx v o = st ∧ t = D v + tk o) := by
  intro m
  have hcn := cn_le dn 1200
  induction m with
  | zero =>
    intro n i s r hi hn Q L
    obtain ⟨n, rfl⟩ : ∃ q, n = q + 1 := ⟨n - 1, by omega⟩
    have e : i = cn dn 1200 := by omega
    subst e
    obtain ⟨F, hc, ⟨rk, B, H⟩, C, hti, hs, hD0⟩ := id Q
    refine ⟨s, r, ?_, Q, L⟩
    simp only [x10_minutesRound_L13]
    rw [H.2.2.2.2.2.2.1, if_pos (by rw [zq_le (by omega) (by omega)]; omega)]
  | succ m ih =>
    intro n i s r hi hn Q L
    obtain ⟨n, rfl⟩ : ∃ q, n = q + 1 := ⟨n - 1, by omega⟩
    obtain ⟨F, hc, ⟨rk, B, H⟩, C, hti, hs, hD0⟩ := id Q
    obtain ⟨v, hdv, hov⟩ := H.2.2.2.2.2.2.2.1 i (by omega)
    have hv := (H.2.2.1 v hdv).1
    obtain ⟨s1, r1, g1, g0, g2, g3⟩ := wy_home E hst hdv hT Q
    have hVL := E.2.2.2.2.2.2.2.2.1
    have same5 : sk_c s1 (y + 5) = sk_c s (y + 5) := funext fun k => g0.2.2.2.2.2 _ _ (by
      rintro (q | q)
      · omega
      · exact hVL _ _ q ⟨by omega, by omega⟩)
    simp only [x10_minutesRound_L13, zq_let]
    rw [H.2.2.2.2.2.2.1, if_neg (by rw [zq_le (by omega) (by omega)]; omega), if_pos (zq_inBt (by omega) (by decide)), zq_cl (by omega), hov, g1]
    simp only [zq_bind]
    rw [nI_1]
    have new : ∀ t, (∃ i' w, i' < i + 1 ∧ sk_c s1 (y + 5) i' = nI w ∧ w < 1200 ∧ 12 ≤ w ∧ ∃ o, o < 12 ∧ nx w o = st ∧ t = D w + tk o) ↔ (∃ i' w, i' < i ∧ sk_c s (y + 5) i' = nI w ∧ w < 1200 ∧ 12 ≤ w ∧ ∃ o, o < 12 ∧ nx w o = st ∧ t = D w + tk o) ∨ (12 ≤ v ∧ ∃ o, o < 12 ∧ nx v o = st ∧ t = D v + tk o) := by
      intro t
      rw [same5]
      constructor
      · rintro ⟨i', w, h1, h2, h3, h4⟩
        by_cases e : i' = i
        · rw [e, hov] at h2
          have : v = w := zq_inj (by omega) (by omega) h2
          rw [← this] at h4
          exact .inr h4
        · exact .inl ⟨i', w, by omega, h2, h3, h4⟩
      · rintro (⟨i', w, h1, h2, h3, h4⟩ | h4)
        · exact ⟨i', w, by omega, h2, h3, h4⟩
        · exact ⟨i, v, by omega, hov, hv, h4⟩
    rcases g3 with ⟨l1, l2⟩ | ⟨t, l1, l2, l3, l4⟩
    · rw [if_pos l1]
      refine ih n (i + 1) s1 r (by omega) (by omega) g2 ?_
      rcases L with ⟨m1, m2⟩ | ⟨t, m1, m2, m3, m4⟩
      · refine .inl ⟨m1, fun t q => ?_⟩
        rcases (new t).mp q with q | q
        · exact m2 t q
        · exact l2 t q
      · refine .inr ⟨t, m1, m2, (new t).mpr (.inl m3), fun t' q => ?_⟩
        rcases (new t').mp q with q | q
        · exact m4 t' q
        · exact absurd q (l2 t')
    · rw [l1, if_neg (zq_m1 (by omega))]
      rcases L with ⟨m1, m2⟩ | ⟨t0, m1, m2, m3, m4⟩
      · rw [if_pos m1]
        refine ih n (i + 1) s1 _ (by omega) (by omega) g2 (.inr ⟨t, rfl, l2, (new t).mpr (.inr l3), fun t' q => ?_⟩)
        rcases (new t').mp q with q | q
        · exact absurd q (m2 t')
        · exact l4 t' q
      · rw [m1, if_neg (zq_m1 (by omega))]
        by_cases hle : t0 ≤ t
        · rw [if_pos (by rw [zq_le (by omega) (by omega)]; omega)]
          refine ih n (i + 1) s1 _ (by omega) (by omega) g2 (.inr ⟨t0, rfl, m2, (new t0).mpr (.inl m3), fun t' q => ?_⟩)
          rcases (new t').mp q with q | q
          · exact m4 t' q
          · have := l4 t' q; omega
        · rw [if_neg (by rw [zq_le (by omega) (by omega)]; omega)]
          refine ih n (i + 1) s1 _ (by omega) (by omega) g2 (.inr ⟨t, rfl, l2, (new t).mpr (.inr l3), fun t' q => ?_⟩)
          rcases (new t').mp q with q | q
          · have := m4 t' q; omega
          · exact l4 t' q
/-- the way round by the class, held against the reference's rows -/
theorem wy_round {nd : Nat → Nat} (E : wy_env N y z VL nx tk s) (hN : 40000 ≤ N) (hc : wy_ca y nx s) (hst : st < 1200) (R : gp_rnd nx tk st nd) :
    ∃ s' r, x10_minutesRound N s y (nI st) = some (s', r) ∧ cfr (wy_V y VL) s s' ∧ wy_ca y nx s' ∧ ((r = -1 ∧ 1000000 ≤ nd st) ∨ (r = nI (nd st) ∧ nd st < 1000000)) := by
  unfold x10_minutesRound
  rw [if_pos E.1]
  obtain ⟨s1, r1, T, D, dn, wt, a1, a2, a3, a4⟩ := wy_search (ok := fun _ => true) E hN hc hst wy_all (.inl rfl)
  rw [a1]
  simp only [zq_bind]
  have hw : ∀ v, wt v = false := by
    rcases a4 with ⟨_, h⟩ | ⟨h, _⟩
    · exact h
    · exact absurd h (by decide)
  have hcn := cn_le dn 1200
  obtain ⟨s', r', g1, g2, g3⟩ := wy_roundL (k := fun q6 x7 x8 x9 => some (q6, x8)) E hst a3 (cn dn 1200) N 0 s1 (-1) (by omega) (by omega) a2 (.inl ⟨rfl, fun t q => by obtain ⟨i', v, h, _⟩ := q; omega⟩)
  obtain ⟨F, hc', ⟨rk, B, H⟩, C, hti, hs, hD0⟩ := id g2
  refine ⟨s', r', g1, F, hc', ?_⟩
  have hnx := E.2.2.2.1
  have up : ∀ t, (∃ i' v, i' < cn dn 1200 ∧ sk_c s' (y + 5) i' = nI v ∧ v < 1200 ∧ 12 ≤ v ∧ ∃ o, o < 12 ∧ nx v o = st ∧ t = D v + tk o) → nd st ≤ t := by
    rintro t ⟨i', v, h1, h2, h3, h4, o, ho, h5, rfl⟩
    obtain ⟨w, b1, b2⟩ := H.2.2.2.2.2.2.2.1 i' h1
    have e : v = w := zq_inj (by omega) (by have := (H.2.2.1 w b1).1; omega) (h2.symm.trans b2)
    rw [← e] at b1
    obtain ⟨n, hn⟩ := H.2.2.2.2.1 v (.inl b1)
    have p := gp_snoc (o := o) hn h4 ho rfl
    rw [h5] at p
    have := (H.2.2.1 v b1).2.2
    have := (E.2.2.2.2.1 o ho)
    exact gp_rnd_le hnx hst R (by omega) p
  have down : nd st < 1000000 → ∃ t, t ≤ nd st ∧ (∃ i' v, i' < cn dn 1200 ∧ sk_c s' (y + 5) i' = nI v ∧ v < 1200 ∧ 12 ≤ v ∧ ∃ o, o < 12 ∧ nx v o = st ∧ t = D v + tk o) := by
    intro hlt
    obtain ⟨n, hn⟩ := R.1 st hst hlt
    obtain ⟨u, o, d', h1, h2, h3, _, h5, h6⟩ := gp_unsnoc hn
    rcases wy_reach C hs hD0 h1 with ⟨q1, q2⟩ | ⟨w, q1, _⟩
    · obtain ⟨i, hi, b⟩ := H.2.2.2.2.2.2.2.2.1 u q1
      exact ⟨D u + tk o, by omega, i, u, hi, b, (H.2.2.1 u q1).1, h2, o, h3, h5.symm, rfl⟩
    · rw [hw w] at q1; exact Bool.noConfusion q1
  rcases g3 with ⟨l1, l2⟩ | ⟨t, l1, l2, l3, l4⟩
  · refine .inl ⟨l1, ?_⟩
    apply Nat.le_of_not_lt
    intro hlt
    obtain ⟨t, _, q⟩ := down hlt
    exact l2 t q
  · have h1 := up t l3
    obtain ⟨t', q1, q2⟩ := down (by omega)
    have h2 := l4 t' q2
    have e : t = nd st := by omega
    exact .inr ⟨by rw [l1, e], by omega⟩
/-- how many states by the class -/
theorem wy_more {nd : Nat → Nat} (E : wy_env N y z VL nx tk s) (hN : 40000 ≤ N) (hc : wy_ca y nx s) (hst : st < 1200) (R : gp_rnd nx tk st nd) :
    ∃ s', x10_statesFrom N s y (nI st) = some (s', nI (cn (fun v => decide (v = st ∨ nd v < 1000000)) 1200)) ∧ cfr (wy_V y VL) s s' ∧ wy_ca y nx s' := by
  unfold x10_statesFrom
  rw [if_pos E.1]
  obtain ⟨s1, r1, T, D, dn, wt, a1, a2, a3, a4⟩ := wy_search (ok := fun _ => true) E hN hc hst wy_all (.inl rfl)
  rw [a1]
  simp only [zq_bind]
  have hw : ∀ v, wt v = false := by
    rcases a4 with ⟨_, h⟩ | ⟨h, _⟩
    · exact h
    · exact absurd h (by decide)
  have hnx := E.2.2.2.1
  obtain ⟨F, hc', ⟨rk, B, H⟩, C, hti, hs, hD0⟩ := id a2
  refine ⟨s1, ?_, F, hc'⟩
  suffices hq : cn dn 1200 = cn (fun v => decide (v = st ∨ nd v < 1000000)) 1200 by rw [H.2.2.2.2.2.2.1, hq]
  refine cn_congr 1200 (fun v hv => ?_)
  by_cases h : dn v = true
  · rw [h]
    symm
    apply decide_eq_true
    obtain ⟨n, hn⟩ := H.2.2.2.2.1 v (.inl h)
    cases n with
    | zero => exact .inl hn.2.symm
    | succ n =>
      have := (H.2.2.1 v h).2.2
      have := gp_rnd_le hnx hst R (by omega) hn
      exact .inr (by omega)
  · have hf : dn v = false := by cases q : dn v with | false => rfl | true => exact absurd q h
    rw [hf]
    symm
    apply decide_eq_false
    rintro (e | e)
    · rw [e] at h
      rcases hs with q | q
      · exact h q
      · rw [hw st] at q; exact Bool.noConfusion q
    · obtain ⟨n, hn⟩ := R.1 v hv e
      rcases wy_reach C hs hD0 hn with ⟨q1, _⟩ | ⟨w, q1, _⟩
      · exact h q1
      · rw [hw w] at q1; exact Bool.noConfusion q1
end
