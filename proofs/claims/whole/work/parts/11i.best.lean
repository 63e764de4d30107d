/-! BEST: the states that lead out in time, and the way by the first steps -/
theorem cn_lt {p q : Nat → Bool} {v : Nat} : ∀ n, (∀ w, w < n → p w = true → q w = true) → v < n → q v = true → p v = false → cn p n + 1 ≤ cn q n := by
  intro n
  induction n with
  | zero => intro _ h; omega
  | succ n ih =>
    intro hpq hv hq hp
    have mono : ∀ m, m ≤ n → cn p m ≤ cn q m := by
      intro m
      induction m with
      | zero => intro _; exact Nat.le_refl _
      | succ m ihm =>
        intro hm
        have h1 := ihm (by omega)
        have h2 := hpq m (by omega)
        simp only [cn]
        by_cases e : p m = true
        · rw [if_pos e, if_pos (h2 e)]; omega
        · rw [if_neg e]; omega
    by_cases e : v = n
    · subst e
      simp only [cn, if_pos hq]
      rw [if_neg (by rw [hp]; simp)]
      have := mono v (Nat.le_refl _)
      omega
    · have h1 := ih (fun w hw => hpq w (by omega)) (by omega) hq hp
      have h2 := hpq n (by omega)
      simp only [cn]
      by_cases e : p n = true
      · rw [if_pos e, if_pos (h2 e)]; omega
      · rw [if_neg e]; omega
section
variable {N y z : Nat} {VL : Nat → Nat → Prop} {nx : Nat → Nat → Nat} {tk : Nat → Nat} {ok : Nat → Bool} {s0 s : sk_S} {st T x B : Nat} {D rk : Nat → Nat} {dn wt : Nat → Bool} {nd : Nat → Nat}
/-- the first option that keeps to the soonest way -/
def gp_fst (nx : Nat → Nat → Nat) (tk : Nat → Nat) (ok : Nat → Bool) (nd : Nat → Nat) (v o : Nat) : Prop := o < 12 ∧ ok o = true ∧ tk o + nd (nx v o) = nd v ∧ ∀ o', o' < o → ok o' = true → tk o' + nd (nx v o') ≠ nd v
def gp_name (o : Nat) : Nat := if o < 10 then o else 2 * (o - 5)
def gp_bp (nx : Nat → Nat → Nat) (tk : Nat → Nat) (ok : Nat → Bool) (nd : Nat → Nat) : Nat → Nat → Int32 → Prop
  | 0, v, r => (v < 12 ∧ r = -1) ∨ (12 ≤ v ∧ ∃ o, gp_fst nx tk ok nd v o ∧ r = nI (gp_name o))
  | k + 1, v, r => (v < 12 ∧ r = -1) ∨ (12 ≤ v ∧ ∃ o, gp_fst nx tk ok nd v o ∧ gp_bp nx tk ok nd k (nx v o) r)
theorem gp_fst_one {v o o' : Nat} (h : gp_fst nx tk ok nd v o) (h' : gp_fst nx tk ok nd v o') : o = o' := by
  obtain ⟨_, a1, a2, a3⟩ := h
  obtain ⟨_, b1, b2, b3⟩ := h'
  rcases Nat.lt_trichotomy o o' with q | q | q
  · exact absurd a2 (b3 o q a1)
  · exact q
  · exact absurd b2 (a3 o' q b1)
theorem gp_bp_one : ∀ {k v : Nat} {r r' : Int32}, gp_bp nx tk ok nd k v r → gp_bp nx tk ok nd k v r' → r = r' := by
  intro k
  induction k with
  | zero =>
    intro v r r' h h'
    rcases h with ⟨a, b⟩ | ⟨a, o, b, c⟩
    · rcases h' with ⟨a', b'⟩ | ⟨a', o', b', c'⟩
      · rw [b, b']
      · omega
    · rcases h' with ⟨a', b'⟩ | ⟨a', o', b', c'⟩
      · omega
      · rw [c, c', gp_fst_one b b']
  | succ k ih =>
    intro v r r' h h'
    rcases h with ⟨a, b⟩ | ⟨a, o, b, c⟩
    · rcases h' with ⟨a', b'⟩ | ⟨a', o', b', c'⟩
      · rw [b, b']
      · omega
    · rcases h' with ⟨a', b'⟩ | ⟨a', o', b', c'⟩
      · omega
      · rw [gp_fst_one b' b] at c'
        exact ih c c'
/-- what stands behind a search that found a way out -/
def wy_M (nx : Nat → Nat → Nat) (tk : Nat → Nat) (ok : Nat → Bool) (st T : Nat) (D : Nat → Nat) (dn wt : Nat → Bool) (nd : Nat → Nat) : Prop :=
  st < 1200 ∧ T ≤ 36000 ∧ nd st = T ∧ gp_need nx tk ok nd ∧ (∀ s o, s < 1200 → o < 12 → nx s o < 1200) ∧ (∀ o, o < 12 → 1 ≤ tk o ∧ tk o ≤ 30) ∧ wy_C nx tk ok D dn wt (fun _ _ => False) ∧
  (∀ v, dn v = true ∨ wt v = true → v < 1200 ∧ ∃ n, gp_R nx tk ok n (D v) st v) ∧ (∀ v, dn v = true → 12 ≤ v) ∧ (∀ v, wt v = true → T ≤ D v ∧ D v ≤ 36000) ∧ (∀ v, dn v = true → D v ≤ T)
def wy_G (T : Nat) (D : Nat → Nat) (dn wt : Nat → Bool) (nd : Nat → Nat) (v : Nat) : Prop := (dn v = true ∨ wt v = true) ∧ D v + nd v = T
theorem gm_low (M : wy_M nx tk ok st T D dn wt nd) {v : Nat} (ha : dn v = true ∨ wt v = true) (hf : nd v < 1000000) : T ≤ D v + nd v := by
  obtain ⟨m1, m2, m3, m4, m5, m6, m7, m8, m9, m10, m11⟩ := M
  obtain ⟨hv, n, hn⟩ := m8 v ha
  obtain ⟨n', t, ht, hp⟩ := m4.2.1 v hv hf
  have := gp_need_le m5 m4 m1 ht (gp_cat hn hp)
  omega
theorem gm_pos (M : wy_M nx tk ok st T D dn wt nd) {v : Nat} (hv : v < 1200) (h12 : 12 ≤ v) : 1 ≤ nd v := by
  obtain ⟨m1, m2, m3, m4, m5, m6, m7, m8, m9, m10, m11⟩ := M
  apply Nat.le_of_not_lt
  intro h
  have h0 : nd v = 0 := by omega
  obtain ⟨n, t, ht, hp⟩ := m4.2.1 v hv (by omega)
  cases n with
  | zero => have := hp.2; omega
  | succ n =>
    obtain ⟨_, o, d', ho, _, hd, _⟩ := hp
    have := (m6 o ho).1
    omega
theorem gm_fwd (M : wy_M nx tk ok st T D dn wt nd) {v o : Nat} (hv : dn v = true) (ho : o < 12) (hk : ok o = true) (hD : D (nx v o) = D v + tk o) (hG : wy_G T D dn wt nd (nx v o)) : wy_G T D dn wt nd v := by
  have hlow := gm_low M (v := v) (.inl hv)
  obtain ⟨m1, m2, m3, m4, m5, m6, m7, m8, m9, m10, m11⟩ := M
  have h1 := m4.2.2 v o (m8 v (.inl hv)).1 (m9 v hv) ho hk
  have := hG.2
  refine ⟨.inl hv, ?_⟩
  have := hlow (by omega)
  omega
theorem gm_eq (M : wy_M nx tk ok st T D dn wt nd) {v o : Nat} (hv : dn v = true) (ho : o < 12) (hk : ok o = true) (hG : wy_G T D dn wt nd v) : (D (nx v o) = D v + tk o ∧ wy_G T D dn wt nd (nx v o)) ↔ tk o + nd (nx v o) = nd v := by
  have hlow := gm_low M (v := nx v o)
  obtain ⟨m1, m2, m3, m4, m5, m6, m7, m8, m9, m10, m11⟩ := M
  obtain ⟨b1, b2⟩ := m7 v o hv (m9 v hv) ho hk (fun q => q)
  have g2 := hG.2
  constructor
  · rintro ⟨a, _, c⟩
    omega
  · intro e
    have := hlow b1 (by omega)
    exact ⟨by omega, b1, by omega⟩
theorem gm_bwd (M : wy_M nx tk ok st T D dn wt nd) {v : Nat} (hv : dn v = true) (hG : wy_G T D dn wt nd v) : ∃ o, o < 12 ∧ ok o = true ∧ tk o + nd (nx v o) = nd v := by
  obtain ⟨m1, m2, m3, m4, m5, m6, m7, m8, m9, m10, m11⟩ := M
  have g2 := hG.2
  have hv12 := (m8 v (.inl hv)).1
  obtain ⟨n, t, ht, hp⟩ := m4.2.1 v hv12 (by omega)
  cases n with
  | zero => have := hp.2; have := m9 v hv; omega
  | succ n =>
    obtain ⟨_, o, d', ho, hk, hd, hp'⟩ := hp
    have h1 := gp_need_le m5 m4 (m5 v o hv12 ho) ht hp'
    have h2 := m4.2.2 v o hv12 (m9 v hv) ho hk
    exact ⟨o, ho, hk, by omega⟩
theorem gm_in (M : wy_M nx tk ok st T D dn wt nd) {v : Nat} (hG : wy_G T D dn wt nd v) (h12 : 12 ≤ v) : dn v = true := by
  rcases hG.1 with h | h
  · exact h
  · have hv := (M.2.2.2.2.2.2.2.1 v (.inr h)).1
    have h1 := gm_pos M hv h12
    have h2 := M.2.2.2.2.2.2.2.2.2.1 v h
    have := hG.2
    omega
/-- the row of those who lead -/
def wy_Ld (y : Nat) (s : sk_S) (P : Nat → Prop) (Z : Nat → Prop) : Prop := ∀ v, v < 1200 → (P v ∧ ¬ Z v → sk_c s (y + 6) v = 1) ∧ (¬ P v ∨ Z v → sk_c s (y + 6) v = 0)
def wy_U (y : Nat) (VL : Nat → Nat → Prop) (b k : Nat) : Prop := b = y + 1 ∨ b = y + 6 ∨ VL b k
theorem wy_Q_U {V : Nat → Nat → Prop} {till : Int32} {s' : sk_S} (Q : wy_Q nx tk ok y st V s0 till T s D dn wt) (hV : ∀ b k, wy_U y VL b k → V b k) (hVL : ∀ b k, VL b k → ¬ (y ≤ b ∧ b ≤ y + 7)) (f : cfr (wy_U y VL) s s') (c : wy_ca y nx s') : wy_Q nx tk ok y st V s0 till T s' D dn wt := by
  obtain ⟨F, hc, ⟨rk, B, H⟩, C, hti, hst, hD0⟩ := Q
  have g : ∀ i, 2 ≤ i → i ≤ 7 → i ≠ 6 → sk_c s' (y + i) = sk_c s (y + i) := fun i h1 h2 h3 => funext fun k => f.2.2.2.2.2 _ _ (by
    rintro (q | q | q)
    · omega
    · omega
    · exact hVL _ _ q ⟨by omega, by omega⟩)
  have g0 : ∀ k, sk_c s' y k = sk_c s y k := fun k => f.2.2.2.2.2 _ _ (by
    rintro (q | q | q)
    · omega
    · omega
    · exact hVL _ _ q ⟨by omega, by omega⟩)
  exact ⟨F.tr (f.mono hV), c, ⟨rk, B, wy_I_cong H (g 2 (by decide) (by decide) (by decide)) (g 3 (by decide) (by decide) (by decide)) (g 4 (by decide) (by decide) (by decide)) (g 5 (by decide) (by decide) (by decide)) (g 7 (by decide) (by decide) (by decide)) (g0 7) (g0 8)⟩, C, hti, hst, hD0⟩
theorem wy_leadL {set : Int32} {v : Nat} {P Z : Nat → Prop} {k : sk_S → Int32 → Int32 → Int32 → Option (sk_S × Int32)} (E : wy_env N y z VL nx tk s0) (hok : ∀ o, o < 12 → wy_isIn set (nI o) = if ok o = true then 1 else 0) (hdv : dn v = true) (hT : T ≤ 36001) (hwb : ∀ w, wt w = true → D w ≤ 36001) :
    ∀ (m n j : Nat) (s : sk_S), j + m = 12 → m < n → wy_Q nx tk ok y st (wy_V y VL) s0 1 T s D dn wt → wy_Ld y s P Z →
    (∃ s' o, x10_leadingStep_L2 N y k n s (nI v) set (nI j) = some (s', nI o) ∧ j ≤ o ∧ o < 12 ∧ ok o = true ∧ (P (nx v o) ∧ ¬ Z (nx v o)) ∧ ((dn (nx v o) = true ∨ wt (nx v o) = true) ∧ D (nx v o) = D v + tk o) ∧ (∀ o', j ≤ o' → o' < o → ok o' = true → ¬ ((P (nx v o') ∧ ¬ Z (nx v o')) ∧ (dn (nx v o') = true ∨ wt (nx v o') = true) ∧ D (nx v o') = D v + tk o')) ∧ cfr (fun b k => b = y + 1 ∨ VL b k) s s' ∧ wy_ca y nx s') ∨
    (∃ s', x10_leadingStep_L2 N y k n s (nI v) set (nI j) = k s' (nI v) set (nI 12) ∧ (∀ o', j ≤ o' → o' < 12 → ok o' = true → ¬ ((P (nx v o') ∧ ¬ Z (nx v o')) ∧ (dn (nx v o') = true ∨ wt (nx v o') = true) ∧ D (nx v o') = D v + tk o')) ∧ cfr (fun b k => b = y + 1 ∨ VL b k) s s' ∧ wy_ca y nx s') := by
  intro m
  induction m with
  | zero =>
    intro n j s hj hn Q L
    obtain ⟨n, rfl⟩ : ∃ q, n = q + 1 := ⟨n - 1, by omega⟩
    have e : j = 12 := by omega
    subst e
    refine .inr ⟨s, ?_, fun o' h1 h2 => by omega, cfr.rf, Q.2.1⟩
    simp only [x10_leadingStep_L2]
    rw [if_pos (show (12 : Int32) ≤ nI 12 by decide)]
  | succ m ih =>
    intro n j s hj hn Q L
    obtain ⟨n, rfl⟩ : ∃ q, n = q + 1 := ⟨n - 1, by omega⟩
    have hj12 : j < 12 := by omega
    obtain ⟨F, hc, ⟨rk, B, H⟩, C, hti, hs, hD0⟩ := id Q
    have hv := H.2.2.1 v hdv
    have hVL := E.2.2.2.2.2.2.2.2.1
    simp only [x10_leadingStep_L2, zq_let]
    rw [if_neg (show ¬ (12 : Int32) ≤ nI j by show ¬ nI 12 ≤ nI j; rw [zq_le (by decide) (by omega)]; omega), hok j hj12]
    -- going on, from a state that differs in the targets
    have goOn : ∀ s1, cfr (fun b k => b = y + 1 ∨ VL b k) s s1 → wy_ca y nx s1 → (ok j = true → ¬ ((P (nx v j) ∧ ¬ Z (nx v j)) ∧ (dn (nx v j) = true ∨ wt (nx v j) = true) ∧ D (nx v j) = D v + tk j)) →
      (∃ s' o, x10_leadingStep_L2 N y k n s1 (nI v) set (nI (j + 1)) = some (s', nI o) ∧ j ≤ o ∧ o < 12 ∧ ok o = true ∧ (P (nx v o) ∧ ¬ Z (nx v o)) ∧ ((dn (nx v o) = true ∨ wt (nx v o) = true) ∧ D (nx v o) = D v + tk o) ∧ (∀ o', j ≤ o' → o' < o → ok o' = true → ¬ ((P (nx v o') ∧ ¬ Z (nx v o')) ∧ (dn (nx v o') = true ∨ wt (nx v o') = true) ∧ D (nx v o') = D v + tk o')) ∧ cfr (fun b k => b = y + 1 ∨ VL b k) s s' ∧ wy_ca y nx s') ∨
      (∃ s', x10_leadingStep_L2 N y k n s1 (nI v) set (nI (j + 1)) = k s' (nI v) set (nI 12) ∧ (∀ o', j ≤ o' → o' < 12 → ok o' = true → ¬ ((P (nx v o') ∧ ¬ Z (nx v o')) ∧ (dn (nx v o') = true ∨ wt (nx v o') = true) ∧ D (nx v o') = D v + tk o')) ∧ cfr (fun b k => b = y + 1 ∨ VL b k) s s' ∧ wy_ca y nx s') := by
      intro s1 f1 c1 hno
      have Q1 := wy_Q_tgt Q (by
        rintro b k (q | q)
        · exact .inl ⟨by omega, by omega⟩
        · exact .inr (.inr q)) hVL f1 c1
      have L1 : wy_Ld y s1 P Z := by
        intro w hw
        have e6 : sk_c s1 (y + 6) w = sk_c s (y + 6) w := f1.2.2.2.2.2 _ _ (by
          rintro (q | q)
          · omega
          · exact hVL _ _ q ⟨by omega, by omega⟩)
        rw [e6]; exact L w hw
      rcases ih n (j + 1) s1 (by omega) (by omega) Q1 L1 with ⟨s', o, a1, a2, a3, a4, a5, a6, a7, a8, a9⟩ | ⟨s', a1, a7, a8, a9⟩
      · refine .inl ⟨s', o, a1, by omega, a3, a4, a5, a6, fun o' h1 h2 h3 => ?_, f1.tr a8, a9⟩
        by_cases e : o' = j
        · subst e; exact hno h3
        · exact a7 o' (by omega) h2 h3
      · refine .inr ⟨s', a1, fun o' h1 h2 h3 => ?_, f1.tr a8, a9⟩
        by_cases e : o' = j
        · subst e; exact hno h3
        · exact a7 o' (by omega) h2 h3
    by_cases hk : ok j = true
    · rw [if_pos hk, if_neg (by decide)]
      obtain ⟨s1, h1, f1, c1⟩ := wy_target E F hc hv.1 hj12
      have F1 : cfr (wy_V y VL) s0 s1 := F.tr (f1.mono (by
        rintro b k (q | q)
        · exact .inl ⟨by omega, by omega⟩
        · exact .inr (.inr q)))
      have H1 := wy_I_tgt H hVL f1
      have hr : sk_r s1 y 10 = some z := by rw [F1.2.2.1]; exact E.2.1
      have hl6 : lay_X6 (sk_K s1) (sk_r s1) z = true := by rw [F1.1, F1.2.2.1]; exact E.2.2.1
      have ht := E.2.2.2.1 v j hv.1 hj12
      have htk := E.2.2.2.2.1 j hj12
      have mu : sk_c s1 (y + 2) v = nI (D v) := by rw [H1.1 v hv.1 (by omega), if_pos (.inl hdv)]
      have e6 : sk_c s1 (y + 6) (nx v j) = sk_c s (y + 6) (nx v j) := f1.2.2.2.2.2 _ _ (by
        rintro (q | q)
        · omega
        · exact hVL _ _ q ⟨by omega, by omega⟩)
      rw [h1]
      simp only [zq_bind]
      rw [if_pos (zq_inBt ht (by decide)), zq_cl (n := nx v j) (by omega), e6]
      by_cases hP : P (nx v j) ∧ ¬ Z (nx v j)
      · rw [(L _ ht).1 hP, if_neg (by decide), if_pos (zq_inBt hv.1 (by decide)), hr]
        simp only [ky_om]
        rw [if_pos hl6, wy_takes E F1 hj12]
        simp only [zq_bind]
        rw [zq_cl (n := v) (by omega), mu, nI_add, nI_1]
        by_cases ha : (dn (nx v j) = true ∨ wt (nx v j) = true) ∧ D (nx v j) = D v + tk j
        · rw [H1.1 _ ht (by omega), if_pos (by rw [if_pos ha.1, ha.2])]
          exact .inl ⟨s1, j, rfl, by omega, hj12, hk, hP, ha, fun o' h1 h2 => by omega, f1, c1⟩
        · rw [if_neg]
          · exact goOn s1 f1 c1 (fun _ q => ha q.2)
          · rw [H1.1 _ ht (by omega)]
            intro q
            by_cases hb : dn (nx v j) = true ∨ wt (nx v j) = true
            · rw [if_pos hb] at q
              have hDb : D (nx v j) ≤ 36001 := by
                rcases hb with hb | hb
                · have := (H1.2.2.1 _ hb).2.2; omega
                · exact hwb _ hb
              exact ha ⟨hb, zq_inj (by omega) (by omega) q⟩
            · rw [if_neg hb] at q
              exact zq_m1 (by omega) q.symm
      · have : sk_c s (y + 6) (nx v j) = 0 := (L _ ht).2 (by
          by_cases q : P (nx v j)
          · exact .inr (Classical.byContradiction fun q2 => hP ⟨q, q2⟩)
          · exact .inl q)
        rw [this, if_pos rfl, nI_1]
        exact goOn s1 f1 c1 (fun _ q => hP q.1)
    · rw [if_neg hk, if_pos rfl, nI_1]
      exact goOn s cfr.rf hc (fun q => absurd q hk)
end
