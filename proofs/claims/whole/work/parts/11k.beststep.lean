/-! BEST: the class's answer -/
section
variable {N y z : Nat} {VL : Nat → Nat → Prop} {nx : Nat → Nat → Nat} {tk : Nat → Nat} {ok : Nat → Bool} {s0 s : sk_S} {st T x B : Nat} {D rk : Nat → Nat} {dn wt : Nat → Bool} {nd : Nat → Nat}
theorem wy_mark {set : Int32} (E : wy_env N y z VL nx tk s0) (hok : ∀ o, o < 12 → wy_isIn set (nI o) = if ok o = true then 1 else 0) (M : wy_M nx tk ok st T D dn wt nd) (Q : wy_Q nx tk ok y st (wy_V y VL) s0 1 T s D dn wt) :
    ∃ s', x10_markLeading N s y set (nI T) = some (s', 0) ∧ wy_Q nx tk ok y st (wy_V y VL) s0 1 T s' D dn wt ∧ wy_Ld y s' (wy_G T D dn wt nd) (fun _ => False) := by
  have hN := E.2.2.2.2.2.2.2.2.2.1
  have hVL := E.2.2.2.2.2.2.2.2.1
  have hcn := cn_le dn 1200
  have m2 := M.2.1
  have hwb : ∀ w, wt w = true → D w ≤ 36000 := fun w hw => (M.2.2.2.2.2.2.2.2.2.1 w hw).2
  have hdb : ∀ w, dn w = true → D w ≤ 36000 := fun w hw => by have := M.2.2.2.2.2.2.2.2.2.2 w hw; omega
  unfold x10_markLeading
  rw [if_pos (wy_lay E Q.1)]
  simp only [zq_let]
  obtain ⟨s2, b1, b2, b3, b4, b5⟩ := wy_mark2 (set := set) (k := fun q2 x3 x4 x5 => x10_markLeading_L50 N y (fun q8 x9 x10 x11 => (some (q8, 0))) N q2 x3 x4 ((sk_c q2 y 7) - 1)) E m2 hwb hdb 1200 N 0 s (by omega) (by omega) Q
  have Q2 := wy_Q_U Q (fun _ _ => wy_UV) hVL b2 b3
  obtain ⟨F, hc, ⟨rk, B, H⟩, C, hti, hs, hD0⟩ := id Q2
  have b1' : x10_markLeading_L2 N y (fun q2 x3 x4 x5 => x10_markLeading_L50 N y (fun q8 x9 x10 x11 => (some (q8, 0))) N q2 x3 x4 ((sk_c q2 y 7) - 1)) N s set (nI T) 0 = _ := b1
  rw [b1', H.2.2.2.2.2.2.1]
  have L2 : wy_Ld y s2 (wy_G T D dn wt nd) (wy_Z y s2 (cn dn 1200)) := by
    intro v hv
    by_cases h12 : v < 12
    · have nZ : ¬ wy_Z y s2 (cn dn 1200) v := by
        rintro ⟨i', h1, h2⟩
        obtain ⟨w, q1, q2⟩ := H.2.2.2.2.2.2.2.1 i' h1
        have e : v = w := zq_inj (by omega) (by have := (H.2.2.1 w q1).1; omega) (h2.symm.trans q2)
        have := hti rfl w q1
        omega
      have hz : nd v = 0 := M.2.2.2.1.1 v h12
      obtain ⟨g1, g2⟩ := b4 v (Nat.zero_le _) hv
      refine ⟨fun h => g1 ⟨h12, h.1.1, by have := h.1.2; omega⟩, fun h => g2 (fun q => ?_)⟩
      rcases h with h | h
      · exact h ⟨q.2.1, by have := q.2.2; omega⟩
      · exact nZ h
    · have z0 : sk_c s2 (y + 6) v = 0 := (b4 v (Nat.zero_le _) hv).2 (fun q => h12 q.1)
      refine ⟨fun h => ?_, fun _ => z0⟩
      exfalso
      have hd := gm_in M h.1 (by omega)
      obtain ⟨i, q1, q2⟩ := H.2.2.2.2.2.2.2.2.1 v hd
      exact h.2 ⟨i, q1, q2⟩
  obtain ⟨s3, d1, d2, d3, d4⟩ := wy_mark50 (k := fun q12 x13 x14 x15 => (some (q12, 0))) E hok M (cn dn 1200) N s2 (Nat.le_refl _) (by omega) Q2 L2
  rw [d1]
  exact ⟨s3, rfl, wy_Q_U Q2 (fun _ _ => wy_UV) hVL d2 d3, d4⟩
theorem wy_name : ∀ o, o < 12 → wy_numberOf (nI o) = nI (gp_name o) := by decide +kernel
theorem wy_bestL {set : Int32} {kk : Nat} (hkk : kk < 2147483648) (E : wy_env N y z VL nx tk s0) (hok : ∀ o, o < 12 → wy_isIn set (nI o) = if ok o = true then 1 else 0) (M : wy_M nx tk ok st T D dn wt nd) :
    ∀ (m n i v : Nat) (s : sk_S), i + m = 1200 → m < n → i ≤ kk → v < 1200 → i ≤ cn (fun w => dn w && decide (D w < D v)) 1200 → wy_G T D dn wt nd v → wy_Q nx tk ok y st (wy_V y VL) s0 1 T s D dn wt → wy_Ld y s (wy_G T D dn wt nd) (fun _ => False) →
    ∃ s' r, x10_bestStep_L34 N y (fun q12 x13 x14 x15 x16 x17 x18 => (some (q12, (-1)))) n s (nI st) set (nI kk) (nI T) (nI v) (nI i) = some (s', r) ∧ cfr (wy_V y VL) s0 s' ∧ wy_ca y nx s' ∧ gp_bp nx tk ok nd (kk - i) v r := by
  intro m
  have hVL := E.2.2.2.2.2.2.2.2.1
  have m2 := M.2.1
  have hwb : ∀ w, wt w = true → D w ≤ 36001 := fun w hw => by have := (M.2.2.2.2.2.2.2.2.2.1 w hw).2; omega
  induction m with
  | zero =>
    intro n i v s hi hn hik hv hcnt hG Q L
    obtain ⟨n, rfl⟩ : ∃ q, n = q + 1 := ⟨n - 1, by omega⟩
    have h12 : v < 12 := by
      apply Nat.lt_of_not_le
      intro h
      have hd := gm_in M hG h
      have := cn_lt (p := fun w => dn w && decide (D w < D v)) (q := dn) (v := v) 1200 (fun w _ q => by simp at q; exact q.1) hv hd (by simp)
      have := cn_le dn 1200
      omega
    refine ⟨s, -1, ?_, Q.1, Q.2.1, ?_⟩
    · simp only [x10_bestStep_L34]
      have e : i = 1200 := by omega
      subst e
      rw [if_pos (show (1200 : Int32) ≤ nI 1200 by decide)]
    · cases kk - i with
      | zero => exact .inl ⟨h12, rfl⟩
      | succ q => exact .inl ⟨h12, rfl⟩
  | succ m ih =>
    intro n i v s hi hn hik hv hcnt hG Q L
    obtain ⟨n, rfl⟩ : ∃ q, n = q + 1 := ⟨n - 1, by omega⟩
    simp only [x10_bestStep_L34, zq_let]
    rw [if_neg (show ¬ (1200 : Int32) ≤ nI i by show ¬ nI 1200 ≤ nI i; rw [zq_le (by decide) (by omega)]; omega)]
    by_cases h12 : v < 12
    · rw [wy_of1 h12, if_neg (by decide)]
      refine ⟨s, -1, rfl, Q.1, Q.2.1, ?_⟩
      cases kk - i with
      | zero => exact .inl ⟨h12, rfl⟩
      | succ q => exact .inl ⟨h12, rfl⟩
    · rw [wy_of0 hv (by omega), if_pos rfl]
      have hd := gm_in M hG (by omega)
      rcases wy_lead E hok hd (by omega) hwb Q L with ⟨s1, o, a1, a3, a4, a5, a6, a7, a8, a9⟩ | ⟨s1, a1, a7, a8, a9⟩
      · have first : gp_fst nx tk ok nd v o := by
          refine ⟨a3, a4, (gm_eq M hd a3 a4 hG).mp ⟨a6.2, a5.1⟩, fun o' h1 h2 h3 => ?_⟩
          have := (gm_eq M hd (by omega) h2 hG).mpr h3
          exact a7 o' h1 h2 ⟨⟨this.2, fun q => q⟩, this.2.1, this.1⟩
        rw [a1]
        simp only [zq_bind]
        rw [if_neg (zq_m1 (by omega))]
        have Q1 := wy_Q_U Q (fun _ _ => wy_UV) hVL (wy_tgtU a8) a9
        by_cases e : i = kk
        · rw [e, if_pos rfl]
          refine ⟨s1, _, rfl, Q1.1, a9, ?_⟩
          rw [Nat.sub_self, wy_name o a3]
          exact .inr ⟨by omega, o, first, rfl⟩
        · rw [if_neg (by intro q; exact e (zq_inj (by omega) (by omega) q))]
          obtain ⟨s2, b1, b2, b3⟩ := wy_target E Q1.1 a9 hv a3
          rw [b1]
          simp only [zq_bind]
          rw [nI_1]
          have Q2 := wy_Q_U Q1 (fun _ _ => wy_UV) hVL (wy_tgtU b2) b3
          have f12 : cfr (fun b k => b = y + 1 ∨ VL b k) s s2 := a8.tr b2
          have L2 : wy_Ld y s2 (wy_G T D dn wt nd) (fun _ => False) := by
            intro w hw
            have e6 : sk_c s2 (y + 6) w = sk_c s (y + 6) w := f12.2.2.2.2.2 _ _ (by
              rintro (q | q)
              · omega
              · exact hVL _ _ q ⟨by omega, by omega⟩)
            rw [e6]; exact L w hw
          have htk := (M.2.2.2.2.2.1 o a3).1
          have hcnt2 : i + 1 ≤ cn (fun w => dn w && decide (D w < D (nx v o))) 1200 := by
            have := cn_lt (p := fun w => dn w && decide (D w < D v)) (q := fun w => dn w && decide (D w < D (nx v o))) (v := v) 1200 (fun w _ q => by
              simp at q ⊢
              have := a6.2
              exact ⟨q.1, by omega⟩) hv (by have := a6.2; simp [hd]; omega) (by simp)
            omega
          obtain ⟨s', r, g1, g2, g3, g4⟩ := ih n (i + 1) (nx v o) s2 (by omega) (by omega) (by omega) (M.2.2.2.2.1 v o hv a3) hcnt2 a5.1 Q2 L2
          refine ⟨s', r, g1, g2, g3, ?_⟩
          have e2 : kk - i = (kk - (i + 1)) + 1 := by omega
          rw [e2]
          exact .inr ⟨by omega, o, first, g4⟩
      · exfalso
        obtain ⟨o, ho, hk, he⟩ := gm_bwd M hd hG
        obtain ⟨b1, b2⟩ := (gm_eq M hd ho hk hG).mpr he
        exact a7 o ho hk ⟨⟨b2, fun q => q⟩, b2.1, b1⟩
/-- best by the class: -1 where no way is, or for k below 0; else the name of the k-th step -/
theorem wy_best {set k : Int32} (E : wy_env N y z VL nx tk s) (hN : 40000 ≤ N) (hc : wy_ca y nx s) (hst : st < 1200) (hok : ∀ o, o < 12 → wy_isIn set (nI o) = if ok o = true then 1 else 0) (Nd : gp_need nx tk ok nd) :
    ∃ s' r, x10_bestStep N s y (nI st) set k = some (s', r) ∧ cfr (wy_V y VL) s s' ∧ wy_ca y nx s' ∧ ((r = -1 ∧ (1000000 ≤ nd st ∨ k < 0)) ∨ (nd st ≤ 36000 ∧ ∃ kk, kk < 2147483648 ∧ k = nI kk ∧ gp_bp nx tk ok nd kk st r)) := by
  unfold x10_bestStep
  rw [if_pos E.1]
  obtain ⟨s1, r1, T, D, dn, wt, a1, a2, a3, a4⟩ := wy_search E hN hc hst hok (.inr rfl)
  have hans := wy_ans a2 a4
  have hsame := gp_same E.2.2.2.1 Nd hst hans
  rw [a1]
  simp only [zq_bind]
  rcases hsame with ⟨h1, h2⟩ | ⟨h1, h2⟩
  · rw [if_pos h1]
    exact ⟨s1, -1, rfl, a2.1, a2.2.1, .inl ⟨rfl, .inl h2⟩⟩
  · rw [if_neg (by rw [h1]; exact zq_m1 (by omega))]
    by_cases hk : k < 0
    · rw [if_neg (by intro q; exact absurd hk (Int32.not_lt.mpr q))]
      exact ⟨s1, -1, rfl, a2.1, a2.2.1, .inl ⟨rfl, .inr hk⟩⟩
    · rw [if_pos (Int32.not_lt.mp hk)]
      obtain ⟨kk, hkk, rfl⟩ := nI_of hk
      rcases a4 with ⟨q, _⟩ | ⟨_, q, hT, v0, hv0, hw0, hDv0⟩
      · rw [q] at h1; exact absurd h1.symm (zq_m1 (by omega))
      · have hTn : nd st = T := zq_inj (by omega) (by omega) (h1.symm.trans q)
        obtain ⟨F, hc', ⟨rk, B, H⟩, C, hti, hs, hD0⟩ := id a2
        have hcn := cn_le dn 1200
        have M : wy_M nx tk ok st T D dn wt nd := ⟨hst, hT, hTn, Nd, E.2.2.2.1, E.2.2.2.2.1, C, fun v hv => ⟨by
          rcases hv with hv | hv
          · exact (H.2.2.1 v hv).1
          · exact (H.2.1.1 v hv).1, H.2.2.2.2.1 v hv⟩, hti rfl, fun v hv => by have := H.2.2.2.1 v hv; exact ⟨this.1, by omega⟩, fun v hv => (H.2.2.1 v hv).2.2⟩
        rw [q]
        obtain ⟨s2, b1, b2, b3⟩ := wy_mark E hok M a2
        rw [b1]
        simp only [zq_bind]
        obtain ⟨s', r, g1, g2, g3, g4⟩ := wy_bestL hkk E hok M 1200 N 0 st s2 (by omega) (by omega) (by omega) hst (by omega) ⟨hs, by omega⟩ b2 b3
        exact ⟨s', r, g1, g2, g3, .inr ⟨h2, kk, hkk, rfl, g4⟩⟩
end
