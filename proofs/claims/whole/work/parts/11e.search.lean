/-! SEARCH: what holds while the class searches -/
def wy_I (nx : Nat → Nat → Nat) (tk : Nat → Nat) (ok : Nat → Bool) (y st T x : Nat) (s : sk_S) (D rk : Nat → Nat) (dn wt : Nat → Bool) (B : Nat) : Prop :=
  (∀ v, v < 1200 → v ≠ x → sk_c s (y + 2) v = if dn v = true ∨ wt v = true then nI (D v) else -1) ∧
  dq_ok (sk_c s (y + 4)) (sk_c s (y + 3)) (sk_c s (y + 7)) D rk wt B ∧
  (∀ v, dn v = true → v < 1200 ∧ wt v = false ∧ D v ≤ T) ∧
  (∀ v, wt v = true → T ≤ D v ∧ D v ≤ T + 30 ∧ D v ≤ 30 * cn dn 1200) ∧
  (∀ v, dn v = true ∨ wt v = true → ∃ n, gp_R nx tk ok n (D v) st v) ∧
  sk_c s y 8 = nI (cn wt 1200) ∧ sk_c s y 7 = nI (cn dn 1200) ∧
  (∀ i, i < cn dn 1200 → ∃ v, dn v = true ∧ sk_c s (y + 5) i = nI v) ∧
  (∀ v, dn v = true → ∃ i, i < cn dn 1200 ∧ sk_c s (y + 5) i = nI v) ∧
  (∀ i j v w, i < j → j < cn dn 1200 → sk_c s (y + 5) i = nI v → sk_c s (y + 5) j = nI w → v < 1200 → w < 1200 → D v ≤ D w ∧ v ≠ w)
def wy_C (nx : Nat → Nat → Nat) (tk : Nat → Nat) (ok : Nat → Bool) (D : Nat → Nat) (dn wt : Nat → Bool) (exc : Nat → Nat → Prop) : Prop :=
  ∀ v o, dn v = true → 12 ≤ v → o < 12 → ok o = true → ¬ exc v o → (dn (nx v o) = true ∨ wt (nx v o) = true) ∧ D (nx v o) ≤ D v + tk o
section
variable {N y z : Nat} {VL : Nat → Nat → Prop} {nx : Nat → Nat → Nat} {tk : Nat → Nat} {ok : Nat → Bool} {s0 s : sk_S} {st T x B : Nat} {D rk : Nat → Nat} {dn wt : Nat → Bool}
theorem wy_I_cong {s' : sk_S} (H : wy_I nx tk ok y st T x s D rk dn wt B) (e2 : sk_c s' (y + 2) = sk_c s (y + 2)) (e3 : sk_c s' (y + 3) = sk_c s (y + 3)) (e4 : sk_c s' (y + 4) = sk_c s (y + 4)) (e5 : sk_c s' (y + 5) = sk_c s (y + 5)) (e7 : sk_c s' (y + 7) = sk_c s (y + 7)) (f7 : sk_c s' y 7 = sk_c s y 7) (f8 : sk_c s' y 8 = sk_c s y 8) : wy_I nx tk ok y st T x s' D rk dn wt B := by
  unfold wy_I at H ⊢
  rw [e2, e3, e4, e5, e7, f7, f8]
  exact H
theorem wy_I_tgt {s' : sk_S} (H : wy_I nx tk ok y st T x s D rk dn wt B) (hVL : ∀ b k, VL b k → ¬ (y ≤ b ∧ b ≤ y + 7)) (f : cfr (fun b k => b = y + 1 ∨ VL b k) s s') : wy_I nx tk ok y st T x s' D rk dn wt B := by
  have g : ∀ i, 2 ≤ i → i ≤ 7 → sk_c s' (y + i) = sk_c s (y + i) := fun i h1 h2 => funext fun k => f.2.2.2.2.2 _ _ (by
    rintro (q | q)
    · omega
    · exact hVL _ _ q ⟨by omega, by omega⟩)
  have g0 : ∀ k, sk_c s' y k = sk_c s y k := fun k => f.2.2.2.2.2 _ _ (by
    rintro (q | q)
    · omega
    · exact hVL _ _ q ⟨by omega, by omega⟩)
  exact wy_I_cong H (g 2 (by decide) (by decide)) (g 3 (by decide) (by decide)) (g 4 (by decide) (by decide)) (g 5 (by decide) (by decide)) (g 7 (by decide) (by decide)) (g0 7) (g0 8)
theorem wy_ca_ops {s' : sk_S} (hc : wy_ca y nx s) (e1 : sk_c s' (y + 1) = sk_c s (y + 1)) (e9 : sk_c s' y 9 = sk_c s y 9) : wy_ca y nx s' := by
  unfold wy_ca at hc ⊢
  rw [e1, e9]
  exact hc
theorem wy_J_enter (E : wy_env N y z VL nx tk s0) (F : cfr (wy_V y VL) s0 s) (hc : wy_ca y nx s) (H : wy_I nx tk ok y st T x s D rk dn wt B) {t q : Nat} (ht : t < 1200) (hx : x = t ∨ 1200 ≤ x) (hdn : dn t = false) (hwt : wt t = false) (hq1 : T ≤ q) (hq2 : q ≤ T + 30) (hq3 : q ≤ 30 * cn dn 1200) (hp : ∃ n, gp_R nx tk ok n q st t) :
    ∃ s', x10_enterSlot N s y (nI t) (nI q) = some (s', 0) ∧ cfr (wy_V y VL) s0 s' ∧ wy_ca y nx s' ∧ wy_I nx tk ok y st T 5000 s' (fun j => if j = t then q else D j) (fun j => if j = t then B else rk j) dn (sb_ wt t true) (B + 1) := by
  have hcn := cn_le dn 1200
  have hm31 : q % 31 < 31 := Nat.mod_lt _ (by decide)
  obtain ⟨i1, i2, i3, i4, i5, i6, i7, i8, i9, i10⟩ := H
  have hsl : sk_c s (y + 7) (q % 31) = -1 ∨ ∃ u, u < 1200 ∧ sk_c s (y + 7) (q % 31) = nI u := by
    rcases i2.2.2.2 (q % 31) hm31 with h | ⟨v, hv, h, _⟩
    · exact .inl h
    · exact .inr ⟨v, (i2.1 v hv).1, h⟩
  obtain ⟨s', r1, r2, r3, r4, r5, r6, r7⟩ := wy_enter (N := N) (wy_lay E F) ht (t := q) (by omega) hsl
  have hV : cfr (wy_V y VL) s s' := r2.mono (by
    rintro b k (h | h | h | h | ⟨h1, h2⟩)
    · exact .inl ⟨by omega, by omega⟩
    · exact .inl ⟨by omega, by omega⟩
    · exact .inl ⟨by omega, by omega⟩
    · exact .inl ⟨by omega, by omega⟩
    · exact .inr (.inl ⟨h1, .inr h2⟩))
  have e1 : sk_c s' (y + 1) = sk_c s (y + 1) := funext fun k => r2.2.2.2.2.2 _ _ (by omega)
  have e5 : sk_c s' (y + 5) = sk_c s (y + 5) := funext fun k => r2.2.2.2.2.2 _ _ (by omega)
  have f9 : sk_c s' y 9 = sk_c s y 9 := r2.2.2.2.2.2 _ _ (by omega)
  have f7 : sk_c s' y 7 = sk_c s y 7 := r2.2.2.2.2.2 _ _ (by omega)
  have hdt : ∀ v, dn v = true → v ≠ t := fun v hv e => by rw [e, hdn] at hv; exact Bool.noConfusion hv
  refine ⟨s', r1, F.tr hV, wy_ca_ops hc e1 f9, ?_, ?_, ?_, ?_, ?_, ?_, ?_, ?_, ?_, ?_⟩
  · intro v hv hv5
    rw [r3]
    by_cases e : v = t
    · subst e
      rw [pk_us, if_pos (.inr (by simp [sb_]))]; simp
    · rw [pk_un e, i1 v hv (by omega)]
      simp only [sb_, if_neg e]
  · rw [r4, r5]
    refine dq_enter i2 ht hwt _ ?_
    rcases r7 with ⟨a, b⟩ | ⟨u, hu, a, b⟩
    · exact .inl ⟨a, b⟩
    · rcases i2.2.2.2 (q % 31) hm31 with h | ⟨v, hv, h, _⟩
      · rw [a] at h; exact absurd h (zq_m1 (by omega))
      · have : u = v := zq_inj (by omega) (by have := (i2.1 v hv).1; omega) (a.symm.trans h)
        subst this
        exact .inr ⟨u, hv, a, b⟩
  · intro v hv
    obtain ⟨a, b, c⟩ := i3 v hv
    have e := hdt v hv
    refine ⟨a, ?_, ?_⟩
    · simp only [sb_, if_neg e]; exact b
    · simp only [if_neg e]; exact c
  · intro v hv
    by_cases e : v = t
    · simp only [if_pos e]
      exact ⟨hq1, hq2, hq3⟩
    · simp only [sb_, if_neg e] at hv ⊢
      exact i4 v hv
  · intro v hv
    by_cases e : v = t
    · subst e
      simp only [if_true]
      exact hp
    · simp only [sb_, if_neg e] at hv ⊢
      exact i5 v hv
  · rw [r6, i6, nI_1, cn_set hwt 1200 ht]
  · rw [f7]; exact i7
  · rw [e5]; exact i8
  · rw [e5]; exact i9
  · rw [e5]
    intro i j v w hij hj h1 h2 hv hw
    have dv : dn v = true := by
      obtain ⟨v', a, b⟩ := i8 i (by omega)
      have : v = v' := zq_inj (by omega) (by have := (i3 v' a).1; omega) (h1.symm.trans b)
      rw [this]; exact a
    have dw : dn w = true := by
      obtain ⟨v', a, b⟩ := i8 j hj
      have : w = v' := zq_inj (by omega) (by have := (i3 v' a).1; omega) (h2.symm.trans b)
      rw [this]; exact a
    simp only [if_neg (hdt v dv), if_neg (hdt w dw)]
    exact i10 i j v w hij hj h1 h2 hv hw
theorem wy_J_leave (E : wy_env N y z VL nx tk s0) (F : cfr (wy_V y VL) s0 s) (hc : wy_ca y nx s) (H : wy_I nx tk ok y st T x s D rk dn wt B) (hx5 : 1200 ≤ x) {v : Nat} (hw : wt v = true) :
    ∃ s', x10_leaveSlot N s y (nI v) = some (s', 0) ∧ cfr (wy_V y VL) s0 s' ∧ wy_ca y nx s' ∧ wy_I nx tk ok y st T v s' D rk dn (sb_ wt v false) B ∧ sk_c s' (y + 2) v = nI (D v) := by
  have hcn := cn_le dn 1200
  obtain ⟨i1, i2, i3, i4, i5, i6, i7, i8, i9, i10⟩ := H
  have hv := (i2.1 v hw).1
  have hDv := i4 v hw
  have hmi : sk_c s (y + 2) v = nI (D v) := by rw [i1 v hv (by omega), if_pos (.inr hw)]
  have selfA : ∀ u, wt u = true → sk_c s (y + 4) v = nI u → u ≠ v := by
    intro u hu e1 e2
    subst e2
    rcases i2.2.1 u hw with ⟨q, _⟩ | ⟨u', hu', q1, q2, q3, q4⟩
    · exact zq_m1 (by omega) (e1.symm.trans q)
    · have := zq_inj (by omega) (by have := (i2.1 u' hu').1; omega) (e1.symm.trans q1)
      subst this; omega
  have hah : sk_c s (y + 4) v = -1 ∨ ∃ w, w < 1200 ∧ w ≠ v ∧ sk_c s (y + 4) v = nI w := by
    rcases i2.2.1 v hw with ⟨q, _⟩ | ⟨u, hu, q1, _⟩
    · exact .inl q
    · exact .inr ⟨u, (i2.1 u hu).1, selfA u hu q1, q1⟩
  have hbe : sk_c s (y + 3) v = -1 ∨ ∃ u, u < 1200 ∧ u ≠ v ∧ sk_c s (y + 3) v = nI u := by
    rcases i2.2.2.1 v hw with q | ⟨u, hu, q1, q2⟩
    · exact .inl q
    · refine .inr ⟨u, (i2.1 u hu).1, ?_, q1⟩
      intro e
      subst e
      exact selfA u hu q2 rfl
  obtain ⟨s', r1, r2, r3, r4, r5⟩ := wy_leave (N := N) (wy_lay E F) hv (t := D v) (by omega) hmi hah hbe
  have hV : cfr (wy_V y VL) s s' := r2.mono (by
    rintro b k (h | h | h | ⟨h1, h2⟩)
    · exact .inl ⟨by omega, by omega⟩
    · exact .inl ⟨by omega, by omega⟩
    · exact .inl ⟨by omega, by omega⟩
    · exact .inr (.inl ⟨h1, .inr h2⟩))
  have e1 : sk_c s' (y + 1) = sk_c s (y + 1) := funext fun k => r2.2.2.2.2.2 _ _ (by omega)
  have e2 : sk_c s' (y + 2) = sk_c s (y + 2) := funext fun k => r2.2.2.2.2.2 _ _ (by omega)
  have e5 : sk_c s' (y + 5) = sk_c s (y + 5) := funext fun k => r2.2.2.2.2.2 _ _ (by omega)
  have f9 : sk_c s' y 9 = sk_c s y 9 := r2.2.2.2.2.2 _ _ (by omega)
  have f7 : sk_c s' y 7 = sk_c s y 7 := r2.2.2.2.2.2 _ _ (by omega)
  have hs : ∀ u, sb_ wt v false u = true → u ≠ v ∧ wt u = true := by
    intro u hu
    by_cases e : u = v
    · rw [e] at hu; simp [sb_] at hu
    · simp only [sb_, if_neg e] at hu; exact ⟨e, hu⟩
  refine ⟨s', r1, F.tr hV, wy_ca_ops hc e1 f9, ⟨?_, ?_, ?_, ?_, ?_, ?_, ?_, ?_, ?_, ?_⟩, by rw [e2]; exact hmi⟩
  · intro u hu huv
    rw [e2, i1 u hu (by omega)]
    simp only [sb_, if_neg huv]
  · refine dq_leave i2 hw _ _ _ ?_ ?_
    · rcases r4 with ⟨a, b, c⟩ | ⟨w, hw', a, b, c⟩
      · exact .inl ⟨a, b, c⟩
      · rcases i2.2.1 v hw with ⟨q, _⟩ | ⟨u, hu, q1, _⟩
        · rw [a] at q; exact absurd q (zq_m1 (by omega))
        · have : w = u := zq_inj (by omega) (by have := (i2.1 u hu).1; omega) (a.symm.trans q1)
          subst this
          exact .inr ⟨w, hu, a, b, c⟩
    · rcases r5 with ⟨a, b⟩ | ⟨w, hw', a, b⟩
      · exact .inl ⟨a, b⟩
      · rcases i2.2.2.1 v hw with q | ⟨u, hu, q1, _⟩
        · rw [a] at q; exact absurd q (zq_m1 (by omega))
        · have : w = u := zq_inj (by omega) (by have := (i2.1 u hu).1; omega) (a.symm.trans q1)
          subst this
          exact .inr ⟨w, hu, a, b⟩
  · intro u hu
    obtain ⟨a, b, c⟩ := i3 u hu
    refine ⟨a, ?_, c⟩
    simp only [sb_]; split
    · rfl
    · exact b
  · intro u hu
    exact i4 u (hs u hu).2
  · intro u hu
    refine i5 u ?_
    rcases hu with h | h
    · exact .inl h
    · exact .inr (hs u h).2
  · rw [r3, i6]
    have := cn_clr hw 1200 hv
    rw [← this]
    exact nI_pred _
  · rw [f7]; exact i7
  · rw [e5]; exact i8
  · rw [e5]; exact i9
  · rw [e5]; exact i10
theorem wy_lookL {set : Int32} {u : Nat} {k : sk_S → Int32 → Int32 → Int32 → Option (sk_S × Int32)} (E : wy_env N y z VL nx tk s0) (hok : ∀ o, o < 12 → wy_isIn set (nI o) = if ok o = true then 1 else 0) (hdu : dn u = true) (hu12 : 12 ≤ u) (hcap : T + 30 ≤ 30 * cn dn 1200) :
    ∀ (m n j : Nat) (s : sk_S) (D rk : Nat → Nat) (wt : Nat → Bool) (B : Nat), j + m = 12 → m < n → cfr (wy_V y VL) s0 s → wy_ca y nx s → wy_I nx tk ok y st T 5000 s D rk dn wt B → D u = T → wy_C nx tk ok D dn wt (fun v o => v = u ∧ j ≤ o) →
    ∃ s' D' rk' wt' B', x10_lookOn_L2 N y k n s (nI u) set (nI j) = k s' (nI u) set (nI 12) ∧ cfr (wy_V y VL) s0 s' ∧ wy_ca y nx s' ∧ wy_I nx tk ok y st T 5000 s' D' rk' dn wt' B' ∧ D' u = T ∧ wy_C nx tk ok D' dn wt' (fun _ _ => False) ∧ (∀ v, (dn v = true ∨ wt v = true) → (dn v = true ∨ wt' v = true) ∧ D' v ≤ D v) := by
  intro m
  have hcn := cn_le dn 1200
  induction m with
  | zero =>
    intro n j s D rk wt B hj hn F hc H hD C
    obtain ⟨n, rfl⟩ : ∃ q, n = q + 1 := ⟨n - 1, by omega⟩
    have e : j = 12 := by omega
    subst e
    refine ⟨s, D, rk, wt, B, ?_, F, hc, H, hD, ?_⟩
    · simp only [x10_lookOn_L2]
      rw [if_pos (show (12 : Int32) ≤ nI 12 by decide)]
    · refine ⟨?_, fun v hv => ⟨hv, Nat.le_refl _⟩⟩
      intro v o h1 h2 h3 h4 _
      exact C v o h1 h2 h3 h4 (by omega)
  | succ m ih =>
    intro n j s D rk wt B hj hn F hc H hD C
    obtain ⟨n, rfl⟩ : ∃ q, n = q + 1 := ⟨n - 1, by omega⟩
    have hj12 : j < 12 := by omega
    have hu := (H.2.2.1 u hdu).1
    simp only [x10_lookOn_L2, zq_let]
    rw [if_neg (show ¬ (12 : Int32) ≤ nI j by show ¬ nI 12 ≤ nI j; rw [zq_le (by decide) (by omega)]; omega), hok j hj12]
    by_cases hk : ok j = true
    · rw [if_pos hk, if_neg (by decide)]
      obtain ⟨s1, h1, f1, c1⟩ := wy_target E F hc hu hj12
      have hVL := E.2.2.2.2.2.2.2.2.1
      have H1 := wy_I_tgt H hVL f1
      have F1 : cfr (wy_V y VL) s0 s1 := F.tr (f1.mono (by
        rintro b k (q | q)
        · exact .inl ⟨by omega, by omega⟩
        · exact .inr (.inr q)))
      have hr : sk_r s1 y 10 = some z := by rw [F1.2.2.1]; exact E.2.1
      have hl6 : lay_X6 (sk_K s1) (sk_r s1) z = true := by rw [F1.1, F1.2.2.1]; exact E.2.2.1
      have ht := E.2.2.2.1 u j hu hj12
      have htk := E.2.2.2.2.1 j hj12
      have mu : sk_c s1 (y + 2) u = nI (D u) := by rw [H1.1 u hu (by omega), if_pos (.inl hdu)]
      rw [h1]
      simp only [zq_bind]
      rw [if_pos (zq_inBt hu (by decide)), hr]
      simp only [ky_om]
      rw [if_pos hl6, wy_takes E F1 hj12]
      simp only [zq_bind]
      rw [zq_cl (n := u) (by omega), zq_cl (n := nx u j) (by omega), mu, nI_add, if_pos (zq_inBt ht (by decide))]
      have hdcase : dn (nx u j) = true ∨ dn (nx u j) = false := by cases dn (nx u j) <;> simp
      have hwcase : wt (nx u j) = true ∨ wt (nx u j) = false := by cases wt (nx u j) <;> simp
      -- the way to the target
      have hp : ∃ n, gp_R nx tk ok n (D u + tk j) st (nx u j) := by
        obtain ⟨n, hn⟩ := H1.2.2.2.2.1 u (.inl hdu)
        exact ⟨n + 1, gp_snoc hn hu12 hj12 hk⟩
      rcases hdcase with hd | hd
      · -- done already
        have q := H1.2.2.1 _ hd
        have mt : sk_c s1 (y + 2) (nx u j) = nI (D (nx u j)) := by rw [H1.1 _ ht (by omega), if_pos (.inl hd)]
        rw [mt, if_neg (zq_m1 (by omega)), if_pos (by rw [zq_le (by omega) (by omega)]; omega), nI_1]
        obtain ⟨s', D', rk', wt', B', g1, g2, g3, g4, g5, g6, g7⟩ := ih n (j + 1) s1 D rk wt B (by omega) (by omega) F1 c1 H1 hD (by
          intro v o a1 a2 a3 a4 a5
          by_cases e : v = u ∧ o = j
          · obtain ⟨rfl, rfl⟩ := e
            exact ⟨.inl hd, by omega⟩
          · exact C v o a1 a2 a3 a4 (fun q => a5 ⟨q.1, by omega⟩))
        exact ⟨s', D', rk', wt', B', g1, g2, g3, g4, g5, g6, g7⟩
      · rcases hwcase with hw | hw
        · have q := H1.2.2.2.1 _ hw
          have mt : sk_c s1 (y + 2) (nx u j) = nI (D (nx u j)) := by rw [H1.1 _ ht (by omega), if_pos (.inr hw)]
          rw [mt, if_neg (zq_m1 (by omega))]
          by_cases hle : D (nx u j) ≤ D u + tk j
          · rw [if_pos (by rw [zq_le (by omega) (by omega)]; omega), nI_1]
            obtain ⟨s', D', rk', wt', B', g1, g2, g3, g4, g5, g6, g7⟩ := ih n (j + 1) s1 D rk wt B (by omega) (by omega) F1 c1 H1 hD (by
              intro v o a1 a2 a3 a4 a5
              by_cases e : v = u ∧ o = j
              · obtain ⟨rfl, rfl⟩ := e
                exact ⟨.inr hw, hle⟩
              · exact C v o a1 a2 a3 a4 (fun q => a5 ⟨q.1, by omega⟩))
            exact ⟨s', D', rk', wt', B', g1, g2, g3, g4, g5, g6, g7⟩
          · rw [if_neg (by rw [zq_le (by omega) (by omega)]; omega)]
            obtain ⟨s2, k1, k2, k3, k4, _⟩ := wy_J_leave E F1 c1 H1 (by decide) hw
            rw [k1]
            simp only [zq_bind]
            obtain ⟨s3, l1, l2, l3, l4⟩ := wy_J_enter E k2 k3 k4 (t := nx u j) (q := D u + tk j) ht (.inl rfl) hd (by simp [sb_]) (by omega) (by omega) (by omega) hp
            rw [l1]
            simp only [zq_bind]
            rw [nI_1]
            have huj : u ≠ nx u j := fun e => by rw [← e, hdu] at hd; exact Bool.noConfusion hd
            obtain ⟨s', D', rk', wt', B', g1, g2, g3, g4, g5, g6, g7⟩ := ih n (j + 1) s3 _ _ _ _ (by omega) (by omega) l2 l3 l4 (by simp only [if_neg huj]; exact hD) (by
              intro v o a1 a2 a3 a4 a5
              have hvt : v ≠ nx u j := fun e => by rw [← e, a1] at hd; exact Bool.noConfusion hd
              simp only [if_neg hvt]
              by_cases e : v = u ∧ o = j
              · obtain ⟨rfl, rfl⟩ := e
                exact ⟨.inr (by simp [sb_]), by simp⟩
              · obtain ⟨b1, b2⟩ := C v o a1 a2 a3 a4 (fun q => a5 ⟨q.1, by omega⟩)
                by_cases e2 : nx v o = nx u j
                · rw [e2]
                  refine ⟨.inr (by simp [sb_]), ?_⟩
                  simp only [if_true]
                  rw [e2] at b2; omega
                · simp only [sb_, if_neg e2]
                  exact ⟨b1, b2⟩)
            exact ⟨s', D', rk', wt', B', g1, g2, g3, g4, g5, g6, fun v hv => by
              by_cases e : v = nx u j
              · subst e
                obtain ⟨b1, b2⟩ := g7 (nx u j) (.inr (by simp [sb_]))
                simp only [if_true] at b2
                exact ⟨b1, by omega⟩
              · obtain ⟨b1, b2⟩ := g7 v (by simp only [sb_, if_neg e]; exact hv)
                simp only [if_neg e] at b2
                exact ⟨b1, b2⟩⟩
        · have mt : sk_c s1 (y + 2) (nx u j) = -1 := by rw [H1.1 _ ht (by omega), if_neg (by rw [hd, hw]; simp)]
          rw [mt, if_pos rfl]
          obtain ⟨s3, l1, l2, l3, l4⟩ := wy_J_enter E F1 c1 H1 (t := nx u j) (q := D u + tk j) ht (.inr (by decide)) hd hw (by omega) (by omega) (by omega) hp
          rw [l1]
          simp only [zq_bind]
          rw [nI_1]
          have huj : u ≠ nx u j := fun e => by rw [← e, hdu] at hd; exact Bool.noConfusion hd
          obtain ⟨s', D', rk', wt', B', g1, g2, g3, g4, g5, g6, g7⟩ := ih n (j + 1) s3 _ _ _ _ (by omega) (by omega) l2 l3 l4 (by simp only [if_neg huj]; exact hD) (by
            intro v o a1 a2 a3 a4 a5
            have hvt : v ≠ nx u j := fun e => by rw [← e, a1] at hd; exact Bool.noConfusion hd
            simp only [if_neg hvt]
            by_cases e : v = u ∧ o = j
            · obtain ⟨rfl, rfl⟩ := e
              exact ⟨.inr (by simp [sb_]), by simp⟩
            · obtain ⟨b1, b2⟩ := C v o a1 a2 a3 a4 (fun q => a5 ⟨q.1, by omega⟩)
              by_cases e2 : nx v o = nx u j
              · rw [e2, hd, hw] at b1
                rcases b1 with b1 | b1 <;> exact Bool.noConfusion b1
              · simp only [sb_, if_neg e2]
                exact ⟨b1, b2⟩)
          exact ⟨s', D', rk', wt', B', g1, g2, g3, g4, g5, g6, fun v hv => by
            by_cases e : v = nx u j
            · subst e
              obtain ⟨b1, b2⟩ := g7 (nx u j) (.inr (by simp [sb_]))
              simp only [if_true] at b2
              rw [hd, hw] at hv
              rcases hv with hv | hv <;> exact Bool.noConfusion hv
            · obtain ⟨b1, b2⟩ := g7 v (by simp only [sb_, if_neg e]; exact hv)
              simp only [if_neg e] at b2
              exact ⟨b1, b2⟩⟩
    · rw [if_neg hk, if_pos rfl, nI_1]
      obtain ⟨s', D', rk', wt', B', g1, g2, g3, g4, g5, g6, g7⟩ := ih n (j + 1) s D rk wt B (by omega) (by omega) F hc H hD (by
        intro v o a1 a2 a3 a4 a5
        refine C v o a1 a2 a3 a4 (fun q => ?_)
        by_cases e : o = j
        · rw [e] at a4; exact hk a4
        · exact a5 ⟨q.1, by omega⟩)
      exact ⟨s', D', rk', wt', B', g1, g2, g3, g4, g5, g6, g7⟩
end
