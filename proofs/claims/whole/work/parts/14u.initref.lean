/-! THE BEGINNING of the reference -/
section
variable {N X a l : Nat} {s : sk_S}
theorem al1c (s : sk_S) (q f kd len : Nat) {s' : sk_S} (e : s' = sk_wr (sk_nw s kd len len) q f (some (sk_n s))) {x : Nat} (h : x ≠ sk_n s) : sk_c s' x = sk_c s x := by rw [e, wr_c, nw_c2 h]
theorem in_L141 : ∀ (r i fuel : Nat) (s : sk_S), i + r = 7 → r < fuel → sk_r s a 1 = some l → sk_K s l = (21, 2247) → ∃ s', (∀ k, x12_init_L141 N a k fuel s (nI i) = k s' (nI 7)) ∧ cfr (fun x _ => x = l) s s' ∧ ∀ q, sk_c s' l q = if 20 + 4 * i ≤ q ∧ q < 48 ∧ q % 4 = 0 then 1 else sk_c s l q := by
  intro r
  induction r with
  | zero =>
    intro i fuel s h1 h2 hr hK
    obtain ⟨fuel, rfl⟩ : ∃ q, fuel = q + 1 := ⟨fuel - 1, by omega⟩
    obtain rfl : i = 7 := by omega
    refine ⟨s, fun k => ?_, cfr.rf, fun q => by rw [if_neg (by omega)]⟩
    simp only [x12_init_L141]; rw [if_pos (by decide)]
  | succ r ih =>
    intro i fuel s h1 h2 hr hK
    obtain ⟨fuel, rfl⟩ : ∃ q, fuel = q + 1 := ⟨fuel - 1, by omega⟩
    obtain ⟨s', j1, j2, j3⟩ := ih (i + 1) fuel (sk_wc s l (20 + 4 * i) 1) (by omega) (by omega) hr hK
    have e : ((17 : Int32) + (4 * nI i)) + 3 = nI (20 + 4 * i) := by
      rw [show (4 : Int32) * nI i = nI (4 * i) from pk_mul 4 _, show (17 : Int32) + nI (4 * i) = nI (17 + 4 * i) from nI_add 17 _, show nI (17 + 4 * i) + 3 = nI (17 + 4 * i + 3) from nI_add _ 3]
      exact congrArg nI (by omega)
    refine ⟨s', fun k => ?_, ((cfr.rf (V := fun x _ => x = l)).wc _ rfl).tr j2, fun q => ?_⟩
    · simp only [x12_init_L141]
      rw [if_neg (by show ¬ nI 7 ≤ nI i; rw [zq_le (by decide) (by omega)]; omega), hr]
      simp only [ky_om, zq_letP]
      rw [if_pos (by rw [hK]), e, hK, if_pos (zq_inBt (by omega) (by decide)), zq_cl (by omega), nI_1]
      exact j1 k
    · rw [j3 q, qc_eq]
      by_cases h : q = 20 + 4 * i
      · subst h; rw [if_neg (by omega), if_pos (by omega), pk_us]
      · rw [pk_un h]
        by_cases h' : 20 + 4 * (i + 1) ≤ q ∧ q < 48 ∧ q % 4 = 0
        · rw [if_pos h', if_pos (by omega)]
        · rw [if_neg h', if_neg (by omega)]
theorem in_L169 : ∀ (r i fuel : Nat) (s : sk_S), i + r = 64 → r < fuel → sk_r s a 1 = some l → sk_K s l = (21, 2247) → ∃ s', (∀ k, x12_init_L169 N a k fuel s (nI i) = k s' (nI 64)) ∧ cfr (fun x _ => x = l) s s' ∧ ∀ q, sk_c s' l q = if 45 + 3 * i ≤ q ∧ q < 237 ∧ q % 3 = 0 then 5 else sk_c s l q := by
  intro r
  induction r with
  | zero =>
    intro i fuel s h1 h2 hr hK
    obtain ⟨fuel, rfl⟩ : ∃ q, fuel = q + 1 := ⟨fuel - 1, by omega⟩
    obtain rfl : i = 64 := by omega
    refine ⟨s, fun k => ?_, cfr.rf, fun q => by rw [if_neg (by omega)]⟩
    simp only [x12_init_L169]; rw [if_pos (by decide)]
  | succ r ih =>
    intro i fuel s h1 h2 hr hK
    obtain ⟨fuel, rfl⟩ : ∃ q, fuel = q + 1 := ⟨fuel - 1, by omega⟩
    obtain ⟨s', j1, j2, j3⟩ := ih (i + 1) fuel (sk_wc s l (45 + 3 * i) 5) (by omega) (by omega) hr hK
    have e : ((45 : Int32) + (3 * nI i)) + 0 = nI (45 + 3 * i) := by
      rw [show (3 : Int32) * nI i = nI (3 * i) from pk_mul 3 _, show (45 : Int32) + nI (3 * i) = nI (45 + 3 * i) from nI_add 45 _, show nI (45 + 3 * i) + 0 = nI (45 + 3 * i + 0) from nI_add _ 0]
      rfl
    refine ⟨s', fun k => ?_, ((cfr.rf (V := fun x _ => x = l)).wc _ rfl).tr j2, fun q => ?_⟩
    · simp only [x12_init_L169]
      rw [if_neg (by show ¬ nI 64 ≤ nI i; rw [zq_le (by decide) (by omega)]; omega), hr]
      simp only [ky_om, zq_letP]
      rw [if_pos (by rw [hK]), e, hK, if_pos (zq_inBt (by omega) (by decide)), zq_cl (by omega), nI_1]
      exact j1 k
    · rw [j3 q, qc_eq]
      by_cases h : q = 45 + 3 * i
      · subst h; rw [if_neg (by omega), if_pos (by omega), pk_us]
      · rw [pk_un h]
        by_cases h' : 45 + 3 * (i + 1) ≤ q ∧ q < 237 ∧ q % 3 = 0
        · rw [if_pos h', if_pos (by omega)]
        · rw [if_neg h', if_neg (by omega)]
def zf (q : Nat) : Int32 := if 45 ≤ q ∧ q < 237 ∧ q % 3 = 0 then 5 else if 20 ≤ q ∧ q < 48 ∧ q % 4 = 0 then 1 else if q = 16 then 1 else if q = 10 then 27 else if q = 8 then 999 else 0
theorem zf_wv : wv zf W_0 1 := by
  have h : ∀ k, k < 549 → k ≠ 16 → zf k = nI (W_0 k) := by decide +kernel
  exact ⟨h, rfl⟩
set_option maxHeartbeats 16000000 in
/-- the reference as it is made -/
theorem in_12 (hN : 100 ≤ N) : ∃ s4, x12_init N (sk_nw s 12 0 24) (sk_n s) = some (s4, 0) ∧ sk_n s4 = sk_n s + 13 ∧ sk_m s4 ≤ sk_m s + 30000 ∧ gfr (fun _ _ => False) s s4 ∧ sk_K s4 (sk_n s) = (12, 0) ∧ (∀ k, k < 12 → sk_r s4 (sk_n s) ([1, 2, 3, 4, 5, 8, 15, 17, 18, 21, 22, 23].getD k 0) = some (sk_n s + 1 + k)) ∧ (∀ k, k < 12 → sk_K s4 (sk_n s + 1 + k) = ([(21, 2247), (21, 1398), (21, 1398), (21, 549), (21, 6588), (20, 400), (21, 5), (21, 400), (21, 2), (21, 14400), (21, 1200), (21, 64)] : List (Nat × Nat)).getD k (0, 0)) ∧ (∀ k, sk_c s4 (sk_n s) k = if k = 14 then -1 else 0) ∧ ∀ k, sk_c s4 (sk_n s + 1) k = zf k := by
  generalize ep : sk_n s = p
  generalize e0 : sk_nw s 12 0 24 = s0
  have n0 : sk_n s0 = p + 1 := by rw [← e0, nw_n, ep]
  have m0 : sk_m s0 = sk_m s + 24 := by rw [← e0, nw_m]
  have k0 : sk_K s0 p = (12, 0) := by rw [← e0, nw_K1 ep.symm]
  have c0 : sk_c s0 p = fun _ => 0 := by rw [← e0, nw_c1 ep.symm]
  have G0 : gfr (fun _ _ => False) s s0 := by rw [← e0]; exact gfr.nw1 s _ _ _
  obtain ⟨s1, e1⟩ : ∃ z, z = sk_wr (sk_nw s0 21 2247 2247) p 1 (some (sk_n s0)) := ⟨_, rfl⟩
  obtain ⟨G1, n1, m1, r1, k1, c1⟩ := al1 _ _ _ _ _ e1
  rw [n0] at r1 k1 c1
  have x1 : sk_n s1 = p + 2 := by omega
  obtain ⟨s2, e2⟩ : ∃ z, z = sk_wr (sk_nw s1 21 1398 1398) p 2 (some (sk_n s1)) := ⟨_, rfl⟩
  obtain ⟨G2, n2, m2, r2, k2, c2⟩ := al1 _ _ _ _ _ e2
  rw [x1] at r2 k2 c2
  have x2 : sk_n s2 = p + 3 := by omega
  obtain ⟨s3, e3⟩ : ∃ z, z = sk_wr (sk_nw s2 21 1398 1398) p 3 (some (sk_n s2)) := ⟨_, rfl⟩
  obtain ⟨G3, n3, m3, r3, k3, c3⟩ := al1 _ _ _ _ _ e3
  rw [x2] at r3 k3 c3
  have x3 : sk_n s3 = p + 4 := by omega
  obtain ⟨s4, e4⟩ : ∃ z, z = sk_wr (sk_nw s3 21 549 549) p 4 (some (sk_n s3)) := ⟨_, rfl⟩
  obtain ⟨G4, n4, m4, r4, k4, c4⟩ := al1 _ _ _ _ _ e4
  rw [x3] at r4 k4 c4
  have x4 : sk_n s4 = p + 5 := by omega
  obtain ⟨s5, e5⟩ : ∃ z, z = sk_wr (sk_nw s4 21 6588 6588) p 5 (some (sk_n s4)) := ⟨_, rfl⟩
  obtain ⟨G5, n5, m5, r5, k5, c5⟩ := al1 _ _ _ _ _ e5
  rw [x4] at r5 k5 c5
  have x5 : sk_n s5 = p + 6 := by omega
  obtain ⟨s6, e6⟩ : ∃ z, z = sk_wr (sk_nw s5 20 400 400) p 8 (some (sk_n s5)) := ⟨_, rfl⟩
  obtain ⟨G6, n6, m6, r6, k6, c6⟩ := al1 _ _ _ _ _ e6
  rw [x5] at r6 k6 c6
  have x6 : sk_n s6 = p + 7 := by omega
  obtain ⟨t6, et⟩ : ∃ z, z = sk_wc s6 p 14 (-1) := ⟨_, rfl⟩
  have Gt : cfr (fun x k => x = p ∧ k = 14) s6 t6 := by rw [et]; exact cfr.rf.wc _ ⟨rfl, rfl⟩
  have xt : sk_n t6 = p + 7 := by rw [Gt.2.2.2.1, x6]
  have mt : sk_m t6 = sk_m s6 := Gt.2.2.2.2.1
  have ct : sk_c t6 p = upd (sk_c s6 p) 14 (-1) := by rw [et, qc_eq]
  obtain ⟨s7, e7⟩ : ∃ z, z = sk_wr (sk_nw t6 21 5 5) p 15 (some (sk_n t6)) := ⟨_, rfl⟩
  obtain ⟨G7, n7, m7, r7, k7, c7⟩ := al1 _ _ _ _ _ e7
  rw [xt] at r7 k7 c7
  have x7 : sk_n s7 = p + 8 := by omega
  obtain ⟨s8, e8⟩ : ∃ z, z = sk_wr (sk_nw s7 21 400 400) p 17 (some (sk_n s7)) := ⟨_, rfl⟩
  obtain ⟨G8, n8, m8, r8, k8, c8⟩ := al1 _ _ _ _ _ e8
  rw [x7] at r8 k8 c8
  have x8 : sk_n s8 = p + 9 := by omega
  obtain ⟨s9, e9⟩ : ∃ z, z = sk_wr (sk_nw s8 21 2 2) p 18 (some (sk_n s8)) := ⟨_, rfl⟩
  obtain ⟨G9, n9, m9, r9, k9, c9⟩ := al1 _ _ _ _ _ e9
  rw [x8] at r9 k9 c9
  have x9 : sk_n s9 = p + 10 := by omega
  obtain ⟨s10, e10⟩ : ∃ z, z = sk_wr (sk_nw s9 21 14400 14400) p 21 (some (sk_n s9)) := ⟨_, rfl⟩
  obtain ⟨G10, n10, m10, r10, k10, c10⟩ := al1 _ _ _ _ _ e10
  rw [x9] at r10 k10 c10
  have x10 : sk_n s10 = p + 11 := by omega
  obtain ⟨s11, e11⟩ : ∃ z, z = sk_wr (sk_nw s10 21 1200 1200) p 22 (some (sk_n s10)) := ⟨_, rfl⟩
  obtain ⟨G11, n11, m11, r11, k11, c11⟩ := al1 _ _ _ _ _ e11
  rw [x10] at r11 k11 c11
  have x11 : sk_n s11 = p + 12 := by omega
  obtain ⟨s12, e12⟩ : ∃ z, z = sk_wr (sk_nw s11 21 64 64) p 23 (some (sk_n s11)) := ⟨_, rfl⟩
  obtain ⟨G12, n12, m12, r12, k12, c12⟩ := al1 _ _ _ _ _ e12
  rw [x11] at r12 k12 c12
  have x12 : sk_n s12 = p + 13 := by omega
  obtain ⟨u1, f1⟩ : ∃ z, z = sk_wc s12 (p + 1) 8 999 := ⟨_, rfl⟩
  obtain ⟨u2, f2⟩ : ∃ z, z = sk_wc u1 (p + 1) 10 27 := ⟨_, rfl⟩
  obtain ⟨u3, f3⟩ : ∃ z, z = sk_wc u2 (p + 1) 16 1 := ⟨_, rfl⟩
  have F1 : cfr (fun x _ => x = p + 1) s12 u1 := by rw [f1]; exact cfr.rf.wc _ rfl
  have F2 : cfr (fun x _ => x = p + 1) s12 u2 := by rw [f2]; exact F1.wc _ rfl
  have F3 : cfr (fun x _ => x = p + 1) s12 u3 := by rw [f3]; exact F2.wc _ rfl
  have T12 : gfr (fun x k => x = p ∧ 23 < k) s12 s12 := gfr.rf
  have T11 : gfr (fun x k => x = p ∧ 22 < k) s11 s12 := (G12.tr T12).mono (fun a k _ h => by omega)
  have T10 : gfr (fun x k => x = p ∧ 21 < k) s10 s12 := (G11.tr T11).mono (fun a k _ h => by omega)
  have T9 : gfr (fun x k => x = p ∧ 18 < k) s9 s12 := (G10.tr T10).mono (fun a k _ h => by omega)
  have T8 : gfr (fun x k => x = p ∧ 17 < k) s8 s12 := (G9.tr T9).mono (fun a k _ h => by omega)
  have T7 : gfr (fun x k => x = p ∧ 15 < k) s7 s12 := (G8.tr T8).mono (fun a k _ h => by omega)
  have Tt : gfr (fun x k => x = p ∧ 14 < k) t6 s12 := (G7.tr T7).mono (fun a k _ h => by omega)
  have T6 : gfr (fun x k => x = p ∧ 8 < k) s6 s12 := ((gfr.of Gt).tr Tt).mono (fun a k _ h => by omega)
  have T5 : gfr (fun x k => x = p ∧ 5 < k) s5 s12 := (G6.tr T6).mono (fun a k _ h => by omega)
  have T4 : gfr (fun x k => x = p ∧ 4 < k) s4 s12 := (G5.tr T5).mono (fun a k _ h => by omega)
  have T3 : gfr (fun x k => x = p ∧ 3 < k) s3 s12 := (G4.tr T4).mono (fun a k _ h => by omega)
  have T2 : gfr (fun x k => x = p ∧ 2 < k) s2 s12 := (G3.tr T3).mono (fun a k _ h => by omega)
  have T1 : gfr (fun x k => x = p ∧ 1 < k) s1 s12 := (G2.tr T2).mono (fun a k _ h => by omega)
  have T0 : gfr (fun x k => x = p ∧ 0 < k) s0 s12 := (G1.tr T1).mono (fun a k _ h => by omega)
  have r1' : sk_r s12 p 1 = some (p + 1) := by rw [T1.r (by omega) (by omega)]; exact r1
  have k1' : sk_K s12 (p + 1) = (21, 2247) := by rw [T1.1 _ (by omega)]; exact k1
  obtain ⟨v1, g1, g2, g3⟩ := in_L141 (N := N) (a := p) (l := p + 1) 7 0 N u3 (by omega) (by omega) (by rw [F3.2.2.1]; exact r1') (by rw [F3.1]; exact k1')
  have F4 := F3.tr g2
  obtain ⟨v2, g4, g5, g6⟩ := in_L169 (N := N) (a := p) (l := p + 1) 64 0 N v1 (by omega) (by omega) (by rw [F4.2.2.1]; exact r1') (by rw [F4.1]; exact k1')
  have F5 := F4.tr g5
  have g1' : ∀ k, x12_init_L141 N p k N u3 0 = k v1 (nI 7) := g1
  have g4' : ∀ k, x12_init_L169 N p k N v1 0 = k v2 (nI 64) := g4
  have TT : gfr (fun x k => (x = p ∧ 0 < k) ∨ x = p + 1) s0 v2 := (T0.tr (gfr.of F5)).mono (fun a k _ h => by omega)
  refine ⟨v2, ?_, by rw [F5.2.2.2.1, x12], by rw [F5.2.2.2.2.1]; omega, (G0.tr TT).mono (fun a k ha h => ?_), ?_, fun k hk => ?_, fun k hk => ?_, fun k => ?_, fun k => ?_⟩
  · unfold x12_init
    rw [if_pos k0, zq_letP, zq_letP, zq_letP, ← e1, zq_letP, zq_letP, zq_letP, ← e2, zq_letP, zq_letP, zq_letP, ← e3, zq_letP, zq_letP, zq_letP, ← e4, zq_letP, zq_letP, zq_letP, ← e5, zq_letP, zq_letP, zq_letP, ← e6, zq_letP, ← et, zq_letP, zq_letP, zq_letP, ← e7, zq_letP, zq_letP, zq_letP, ← e8, zq_letP, zq_letP, zq_letP, ← e9, zq_letP, zq_letP, zq_letP, ← e10, zq_letP, zq_letP, zq_letP, ← e11, zq_letP, zq_letP, zq_letP, ← e12, r1']
    simp only [ky_om]
    rw [if_pos (by rw [k1']), if_pos (by rw [k1']; rfl), zq_letP, ← f1, show sk_r u1 p 1 = some (p + 1) from (by rw [F1.2.2.1]; exact r1')]
    simp only [ky_om]
    rw [if_pos (by rw [F1.1, k1']), if_pos (by rw [F1.1, k1']; rfl), zq_letP, ← f2, show sk_r u2 p 1 = some (p + 1) from (by rw [F2.2.2.1]; exact r1')]
    simp only [ky_om]
    rw [if_pos (by rw [F2.1, k1']), if_pos (by rw [F2.1, k1']; rfl), zq_letP, ← f3, g1', g4']
  · rcases h with h | h
    · exact h
    · omega
  · rw [F5.1, T0.1 _ (by omega)]; exact k0
  · rw [F5.2.2.1]
    have : k = 0 ∨ k = 1 ∨ k = 2 ∨ k = 3 ∨ k = 4 ∨ k = 5 ∨ k = 6 ∨ k = 7 ∨ k = 8 ∨ k = 9 ∨ k = 10 ∨ k = 11 := by omega
    rcases this with rfl | rfl | rfl | rfl | rfl | rfl | rfl | rfl | rfl | rfl | rfl | rfl
    · exact (T1.r (k := 1) (by omega) (by omega)).trans r1
    · exact (T2.r (k := 2) (by omega) (by omega)).trans r2
    · exact (T3.r (k := 3) (by omega) (by omega)).trans r3
    · exact (T4.r (k := 4) (by omega) (by omega)).trans r4
    · exact (T5.r (k := 5) (by omega) (by omega)).trans r5
    · exact (T6.r (k := 8) (by omega) (by omega)).trans r6
    · exact (T7.r (k := 15) (by omega) (by omega)).trans r7
    · exact (T8.r (k := 17) (by omega) (by omega)).trans r8
    · exact (T9.r (k := 18) (by omega) (by omega)).trans r9
    · exact (T10.r (k := 21) (by omega) (by omega)).trans r10
    · exact (T11.r (k := 22) (by omega) (by omega)).trans r11
    · exact (T12.r (k := 23) (by omega) (by omega)).trans r12
  · rw [F5.1]
    have : k = 0 ∨ k = 1 ∨ k = 2 ∨ k = 3 ∨ k = 4 ∨ k = 5 ∨ k = 6 ∨ k = 7 ∨ k = 8 ∨ k = 9 ∨ k = 10 ∨ k = 11 := by omega
    rcases this with rfl | rfl | rfl | rfl | rfl | rfl | rfl | rfl | rfl | rfl | rfl | rfl
    · exact (T1.1 (p + 1) (by omega)).trans k1
    · exact (T2.1 (p + 2) (by omega)).trans k2
    · exact (T3.1 (p + 3) (by omega)).trans k3
    · exact (T4.1 (p + 4) (by omega)).trans k4
    · exact (T5.1 (p + 5) (by omega)).trans k5
    · exact (T6.1 (p + 6) (by omega)).trans k6
    · exact (T7.1 (p + 7) (by omega)).trans k7
    · exact (T8.1 (p + 8) (by omega)).trans k8
    · exact (T9.1 (p + 9) (by omega)).trans k9
    · exact (T10.1 (p + 10) (by omega)).trans k10
    · exact (T11.1 (p + 11) (by omega)).trans k11
    · exact (T12.1 (p + 12) (by omega)).trans k12
  · rw [F5.2.2.2.2.2 _ _ (by omega), al1c _ _ _ _ _ e12 (by omega), al1c _ _ _ _ _ e11 (by omega), al1c _ _ _ _ _ e10 (by omega), al1c _ _ _ _ _ e9 (by omega), al1c _ _ _ _ _ e8 (by omega), al1c _ _ _ _ _ e7 (by omega), ct, al1c _ _ _ _ _ e6 (by omega), al1c _ _ _ _ _ e5 (by omega), al1c _ _ _ _ _ e4 (by omega), al1c _ _ _ _ _ e3 (by omega), al1c _ _ _ _ _ e2 (by omega), al1c _ _ _ _ _ e1 (by omega), c0]
    by_cases h : k = 14
    · rw [h, pk_us, if_pos rfl]
    · rw [pk_un h, if_neg h]
  · rw [g6 k]
    unfold zf
    by_cases h : 45 ≤ k ∧ k < 237 ∧ k % 3 = 0
    · rw [if_pos h, if_pos h]
    · rw [if_neg h, if_neg h, g3 k]
      by_cases h' : 20 ≤ k ∧ k < 48 ∧ k % 4 = 0
      · rw [if_pos h', if_pos h']
      · rw [if_neg h', if_neg h', f3, qc_eq]
        by_cases h1 : k = 16
        · rw [h1, pk_us, if_pos rfl]
        · rw [pk_un h1, if_neg h1, f2, qc_eq]
          by_cases h2 : k = 10
          · rw [h2, pk_us, if_pos rfl]
          · rw [pk_un h2, if_neg h2, f1, qc_eq]
            by_cases h3 : k = 8
            · rw [h3, pk_us, if_pos rfl]
            · rw [pk_un h3, if_neg h3, T1.c (by omega) (by omega), c1]
end
