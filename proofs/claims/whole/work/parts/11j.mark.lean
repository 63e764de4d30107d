/-! BEST: the row of those who lead is laid; the way is gone -/
section
variable {N y z : Nat} {VL : Nat → Nat → Prop} {nx : Nat → Nat → Nat} {tk : Nat → Nat} {ok : Nat → Bool} {s0 s : sk_S} {st T x B : Nat} {D rk : Nat → Nat} {dn wt : Nat → Bool} {nd : Nat → Nat}
theorem wy_tgtU {s s' : sk_S} (f : cfr (fun b k => b = y + 1 ∨ VL b k) s s') : cfr (wy_U y VL) s s' := f.mono (by
  rintro b k (q | q)
  · exact .inl q
  · exact .inr (.inr q))
theorem wy_UV {b k : Nat} (h : wy_U y VL b k) : wy_V y VL b k := by
  rcases h with q | q | q
  · exact .inl ⟨by omega, by omega⟩
  · exact .inl ⟨by omega, by omega⟩
  · exact .inr (.inr q)
theorem wy_ca6 {j : Nat} {v : Int32} (hc : wy_ca y nx s) : wy_ca y nx (sk_wc s (y + 6) j v) := wy_ca_ops hc (by rw [qc_ne (by omega)]) (by rw [qc_ne (by omega)])
def wy_mk (D : Nat → Nat) (dn wt : Nat → Bool) (T v : Nat) : Prop := v < 12 ∧ (dn v = true ∨ wt v = true) ∧ D v = T
theorem wy_mark2 {set : Int32} {k : sk_S → Int32 → Int32 → Int32 → Option (sk_S × Int32)} (E : wy_env N y z VL nx tk s0) (hT : T ≤ 36000) (hwb : ∀ w, wt w = true → D w ≤ 36000) (hdb : ∀ w, dn w = true → D w ≤ 36000) :
    ∀ (m n i : Nat) (s : sk_S), i + m = 1200 → m < n → wy_Q nx tk ok y st (wy_V y VL) s0 1 T s D dn wt →
    ∃ s', x10_markLeading_L2 N y k n s set (nI T) (nI i) = k s' set (nI T) (nI 1200) ∧ cfr (wy_U y VL) s s' ∧ wy_ca y nx s' ∧ (∀ v, i ≤ v → v < 1200 → (wy_mk D dn wt T v → sk_c s' (y + 6) v = 1) ∧ (¬ wy_mk D dn wt T v → sk_c s' (y + 6) v = 0)) ∧ (∀ v, v < i → sk_c s' (y + 6) v = sk_c s (y + 6) v) := by
  intro m
  have hVL := E.2.2.2.2.2.2.2.2.1
  induction m with
  | zero =>
    intro n i s hi hn Q
    obtain ⟨n, rfl⟩ : ∃ q, n = q + 1 := ⟨n - 1, by omega⟩
    have e : i = 1200 := by omega
    subst e
    refine ⟨s, ?_, cfr.rf, Q.2.1, fun v h1 h2 => by omega, fun _ _ => rfl⟩
    simp only [x10_markLeading_L2]
    rw [if_pos (show (1200 : Int32) ≤ nI 1200 by decide)]
  | succ m ih =>
    intro n i s hi hn Q
    obtain ⟨n, rfl⟩ : ∃ q, n = q + 1 := ⟨n - 1, by omega⟩
    obtain ⟨F, hc, ⟨rk, B, H⟩, C, hti, hs, hD0⟩ := id Q
    have mi := H.1 i (by omega) (by omega)
    have step : ∀ w : Int32, ((wy_mk D dn wt T i → w = 1) ∧ (¬ wy_mk D dn wt T i → w = 0)) → ∃ s', x10_markLeading_L2 N y k n (sk_wc s (y + 6) i w) set (nI T) (nI (i + 1)) = k s' set (nI T) (nI 1200) ∧ cfr (wy_U y VL) s s' ∧ wy_ca y nx s' ∧ (∀ v, i ≤ v → v < 1200 → (wy_mk D dn wt T v → sk_c s' (y + 6) v = 1) ∧ (¬ wy_mk D dn wt T v → sk_c s' (y + 6) v = 0)) ∧ (∀ v, v < i → sk_c s' (y + 6) v = sk_c s (y + 6) v) := by
      intro w hw
      have f1 : cfr (wy_U y VL) s (sk_wc s (y + 6) i w) := cfr.rf.wc w (.inr (.inl rfl))
      obtain ⟨s', a1, a2, a3, a4, a5⟩ := ih n (i + 1) (sk_wc s (y + 6) i w) (by omega) (by omega) (wy_Q_U Q (fun _ _ => wy_UV) hVL f1 (wy_ca6 hc))
      refine ⟨s', a1, f1.tr a2, a3, fun v h1 h2 => ?_, fun v h1 => ?_⟩
      · by_cases e : v = i
        · subst e
          rw [a5 v (by omega), qc_eq, pk_us]; exact hw
        · exact a4 v (by omega) h2
      · rw [a5 v (by omega), qc_eq, pk_un (by omega)]
    simp only [x10_markLeading_L2, zq_let]
    rw [if_neg (show ¬ (1200 : Int32) ≤ nI i by show ¬ nI 1200 ≤ nI i; rw [zq_le (by decide) (by omega)]; omega)]
    by_cases h12 : i < 12
    · rw [wy_ofl i (by omega), if_pos h12, if_neg (by decide), if_pos (zq_inBt (by omega) (by decide)), zq_cl (by omega), mi, nI_1]
      by_cases ha : (dn i = true ∨ wt i = true) ∧ D i = T
      · rw [if_pos (by rw [if_pos ha.1, ha.2])]
        exact step 1 ⟨fun _ => rfl, fun q => absurd ⟨h12, ha⟩ q⟩
      · rw [if_neg]
        · exact step 0 ⟨fun q => absurd q.2 ha, fun _ => rfl⟩
        · intro q
          by_cases hb : dn i = true ∨ wt i = true
          · rw [if_pos hb] at q
            have : D i ≤ 36000 := by rcases hb with hb | hb; exact hdb i hb; exact hwb i hb
            exact ha ⟨hb, zq_inj (by omega) (by omega) q⟩
          · rw [if_neg hb] at q
            exact zq_m1 (by omega) q.symm
    · rw [wy_ofl i (by omega), if_neg h12, if_pos rfl, if_pos (zq_inBt (by omega) (by decide)), zq_cl (by omega), nI_1]
      exact step 0 ⟨fun q => absurd q.1 h12, fun _ => rfl⟩
/-- those who stand not yet told: at or ahead of i in the order -/
def wy_Z (y : Nat) (s : sk_S) (i : Nat) (v : Nat) : Prop := ∃ i', i' < i ∧ sk_c s (y + 5) i' = nI v
theorem wy_lead {set : Int32} {v : Nat} {P Z : Nat → Prop} (E : wy_env N y z VL nx tk s0) (hok : ∀ o, o < 12 → wy_isIn set (nI o) = if ok o = true then 1 else 0) (hdv : dn v = true) (hT : T ≤ 36001) (hwb : ∀ w, wt w = true → D w ≤ 36001) (Q : wy_Q nx tk ok y st (wy_V y VL) s0 1 T s D dn wt) (L : wy_Ld y s P Z) :
    (∃ s' o, x10_leadingStep N s y (nI v) set = some (s', nI o) ∧ o < 12 ∧ ok o = true ∧ (P (nx v o) ∧ ¬ Z (nx v o)) ∧ ((dn (nx v o) = true ∨ wt (nx v o) = true) ∧ D (nx v o) = D v + tk o) ∧ (∀ o', o' < o → ok o' = true → ¬ ((P (nx v o') ∧ ¬ Z (nx v o')) ∧ (dn (nx v o') = true ∨ wt (nx v o') = true) ∧ D (nx v o') = D v + tk o')) ∧ cfr (fun b k => b = y + 1 ∨ VL b k) s s' ∧ wy_ca y nx s') ∨
    (∃ s', x10_leadingStep N s y (nI v) set = some (s', -1) ∧ (∀ o', o' < 12 → ok o' = true → ¬ ((P (nx v o') ∧ ¬ Z (nx v o')) ∧ (dn (nx v o') = true ∨ wt (nx v o') = true) ∧ D (nx v o') = D v + tk o')) ∧ cfr (fun b k => b = y + 1 ∨ VL b k) s s' ∧ wy_ca y nx s') := by
  have hN := E.2.2.2.2.2.2.2.2.2.1
  unfold x10_leadingStep
  rw [if_pos (wy_lay E Q.1)]
  rcases wy_leadL (k := fun q2 x3 x4 x5 => some (q2, (-1))) E hok hdv hT hwb 12 N 0 s (by omega) (by omega) Q L with ⟨s', o, a1, a2, a3, a4, a5, a6, a7, a8, a9⟩ | ⟨s', a1, a7, a8, a9⟩
  · exact .inl ⟨s', o, a1, a3, a4, a5, a6, fun o' => a7 o' (Nat.zero_le _), a8, a9⟩
  · exact .inr ⟨s', a1, fun o' => a7 o' (Nat.zero_le _), a8, a9⟩
theorem wy_mark50 {set : Int32} {k : sk_S → Int32 → Int32 → Int32 → Option (sk_S × Int32)} (E : wy_env N y z VL nx tk s0) (hok : ∀ o, o < 12 → wy_isIn set (nI o) = if ok o = true then 1 else 0) (M : wy_M nx tk ok st T D dn wt nd) :
    ∀ (i n : Nat) (s : sk_S), i ≤ cn dn 1200 → i < n → wy_Q nx tk ok y st (wy_V y VL) s0 1 T s D dn wt → wy_Ld y s (wy_G T D dn wt nd) (wy_Z y s i) →
    ∃ s', x10_markLeading_L50 N y k n s set (nI T) (nI i - 1) = k s' set (nI T) (-1) ∧ cfr (wy_U y VL) s s' ∧ wy_ca y nx s' ∧ wy_Ld y s' (wy_G T D dn wt nd) (fun _ => False) := by
  intro i
  have hVL := E.2.2.2.2.2.2.2.2.1
  have hcn := cn_le dn 1200
  induction i with
  | zero =>
    intro n s hi hn Q L
    obtain ⟨n, rfl⟩ : ∃ q, n = q + 1 := ⟨n - 1, by omega⟩
    refine ⟨s, ?_, cfr.rf, Q.2.1, ?_⟩
    · simp only [x10_markLeading_L50]
      rw [if_pos (show nI 0 - 1 < 0 by decide)]; rfl
    · intro v hv
      refine ⟨fun h => (L v hv).1 ⟨h.1, fun q => by obtain ⟨i', h, _⟩ := q; omega⟩, fun h => (L v hv).2 ?_⟩
      rcases h with h | h
      · exact .inl h
      · exact h.elim
  | succ i ih =>
    intro n s hi hn Q L
    obtain ⟨n, rfl⟩ : ∃ q, n = q + 1 := ⟨n - 1, by omega⟩
    obtain ⟨F, hc, ⟨rk, B, H⟩, C, hti, hs, hD0⟩ := id Q
    obtain ⟨v, hdv, hov⟩ := H.2.2.2.2.2.2.2.1 i (by omega)
    have hv := H.2.2.1 v hdv
    have m2 := M.2.1
    have hwb : ∀ w, wt w = true → D w ≤ 36001 := fun w hw => by have := (M.2.2.2.2.2.2.2.2.2.1 w hw).2; omega
    simp only [x10_markLeading_L50, zq_let]
    rw [nI_pred, if_neg (nI_pos (by omega)), if_pos (zq_inBt (by omega) (by decide)), zq_cl (n := i) (by omega), hov]
    -- the row behind a write at v
    have fin : ∀ (s1 : sk_S) (w : Int32), cfr (fun b k => b = y + 1 ∨ VL b k) s s1 → wy_ca y nx s1 → (wy_G T D dn wt nd v → w = 1) → (¬ wy_G T D dn wt nd v → w = 0) → ∃ s', x10_markLeading_L50 N y k n (sk_wc s1 (y + 6) v w) set (nI T) (nI i + -1) = k s' set (nI T) (-1) ∧ cfr (wy_U y VL) s s' ∧ wy_ca y nx s' ∧ wy_Ld y s' (wy_G T D dn wt nd) (fun _ => False) := by
      intro s1 w f1 c1 hw1 hw0
      have f2 : cfr (wy_U y VL) s (sk_wc s1 (y + 6) v w) := (wy_tgtU f1).wc w (.inr (.inl rfl))
      have Q2 := wy_Q_U Q (fun _ _ => wy_UV) hVL f2 (wy_ca6 c1)
      have e6 : sk_c s1 (y + 6) = sk_c s (y + 6) := funext fun k => f1.2.2.2.2.2 _ _ (by
        rintro (q | q)
        · omega
        · exact hVL _ _ q ⟨by omega, by omega⟩)
      have e5 : sk_c (sk_wc s1 (y + 6) v w) (y + 5) = sk_c s (y + 5) := by
        rw [qc_ne (by omega)]
        exact funext fun k => f1.2.2.2.2.2 _ _ (by
          rintro (q | q)
          · omega
          · exact hVL _ _ q ⟨by omega, by omega⟩)
      have L2 : wy_Ld y (sk_wc s1 (y + 6) v w) (wy_G T D dn wt nd) (wy_Z y (sk_wc s1 (y + 6) v w) i) := by
        intro u hu
        have hZ : wy_Z y (sk_wc s1 (y + 6) v w) i u = wy_Z y s i u := by unfold wy_Z; rw [e5]
        rw [hZ, qc_eq, e6]
        by_cases e : u = v
        · subst e
          rw [pk_us]
          have nZ : ¬ wy_Z y s i u := by
            rintro ⟨i', h1, h2⟩
            exact (H.2.2.2.2.2.2.2.2.2 i' i u u h1 (by omega) h2 hov hu hu).2 rfl
          refine ⟨fun h => hw1 h.1, fun h => ?_⟩
          rcases h with h | h
          · exact hw0 h
          · exact absurd h nZ
        · rw [pk_un e]
          have hZ2 : wy_Z y s (i + 1) u ↔ wy_Z y s i u := by
            constructor
            · rintro ⟨i', h1, h2⟩
              by_cases e2 : i' = i
              · rw [e2, hov] at h2
                exact absurd (zq_inj (by omega) (by omega) h2).symm e
              · exact ⟨i', by omega, h2⟩
            · rintro ⟨i', h1, h2⟩; exact ⟨i', by omega, h2⟩
          rw [← hZ2]
          exact L u hu
      obtain ⟨s', a1, a2, a3, a4⟩ := ih n _ (by omega) (by omega) Q2 L2
      have e1 : nI i + -1 = nI i - 1 := by
        apply (fa_eq _ _).mpr
        by_cases h0 : i = 0
        · subst h0; decide
        · obtain ⟨j, rfl⟩ : ∃ j, i = j + 1 := ⟨i - 1, by omega⟩
          rw [pk_m1, nI_pred]
      rw [e1]
      exact ⟨s', a1, f2.tr a2, a3, a4⟩
    rcases wy_lead E hok hdv (by omega) hwb Q L with ⟨s1, o, a1, a3, a4, a5, a6, a7, a8, a9⟩ | ⟨s1, a1, a7, a8, a9⟩
    · rw [a1]
      simp only [zq_bind]
      rw [if_neg (zq_m1 (by omega)), if_pos (zq_inBt hv.1 (by decide)), zq_cl (n := v) (by omega)]
      exact fin s1 1 a8 a9 (fun _ => rfl) (fun q => absurd (gm_fwd M hdv a3 a4 a6.2 a5.1) q)
    · rw [a1]
      simp only [zq_bind]
      rw [if_pos trivial, if_pos (zq_inBt hv.1 (by decide)), zq_cl (n := v) (by omega)]
      refine fin s1 0 a8 a9 (fun q => ?_) (fun _ => rfl)
      exfalso
      obtain ⟨o, ho, hk, he⟩ := gm_bwd M hdv q
      obtain ⟨b1, b2⟩ := (gm_eq M hdv ho hk q).mpr he
      refine a7 o ho hk ⟨⟨b2, ?_⟩, b2.1, b1⟩
      rintro ⟨i', h1, h2⟩
      have htk := (M.2.2.2.2.2.1 o ho).1
      have hnx := M.2.2.2.2.1 v o hv.1 ho
      by_cases e : i' = i
      · rw [e, hov] at h2
        have : v = nx v o := zq_inj (by omega) (by omega) h2
        rw [← this] at b1; omega
      · have := (H.2.2.2.2.2.2.2.2.2 i' i (nx v o) v (by omega) (by omega) h2 hov hnx hv.1).1
        omega
end
