/-! THE BEGINNING -/
section
variable {N X q : Nat} {s : sk_S}
theorem al1 (s : sk_S) (q f kd len : Nat) {s' : sk_S} (e : s' = sk_wr (sk_nw s kd len len) q f (some (sk_n s))) : gfr (fun x k => x = q ∧ k = f) s s' ∧ sk_n s' = sk_n s + 1 ∧ sk_m s' = sk_m s + len ∧ sk_r s' q f = some (sk_n s) ∧ sk_K s' (sk_n s) = (kd, len) ∧ sk_c s' (sk_n s) = fun _ => 0 := by
  refine ⟨by rw [e]; exact ((gfr.nw1 (V := fun _ _ => False) s _ _ _).tr (gfr.wr1 _ q f _)).mono (fun a k _ h => h.elim (fun h => h.elim) id), ?_, ?_, ?_, ?_, ?_⟩
  · rw [e, wr_n, nw_n]
  · rw [e, wr_m, nw_m]
  · rw [e, wr_same]
  · rw [e, wr_K, nw_K1 rfl]
  · rw [e, wr_c, nw_c1 rfl]
theorem in_9 (h : sk_K s q = (9, 0)) : ∃ s', x9_init N s q = some (s', 0) ∧ gfr (fun x k => x = q ∧ k = 0) s s' ∧ sk_n s' = sk_n s + 1 ∧ sk_m s' = sk_m s + 400 ∧ sk_r s' q 0 = some (sk_n s) ∧ sk_K s' (sk_n s) = (20, 400) := by
  obtain ⟨s1, e1⟩ : ∃ z, z = sk_wr (sk_nw s 20 400 400) q 0 (some (sk_n s)) := ⟨_, rfl⟩
  obtain ⟨G1, n1, m1, r1, k1, c1⟩ := al1 _ _ _ _ _ e1
  refine ⟨s1, ?_, G1, n1, m1, r1, k1⟩
  unfold x9_init
  rw [if_pos h, zq_letP, zq_letP, zq_letP, ← e1]
theorem in_0 (h : sk_K s q = (1, 0)) (hq : q < sk_n s) : ∃ s', x0_init N s q = some (s', 0) ∧ gfr (fun x k => x = q ∧ k ≤ 1) s s' ∧ sk_n s' = sk_n s + 2 ∧ sk_m s' = sk_m s + 84 ∧ sk_r s' q 0 = some (sk_n s) ∧ sk_r s' q 1 = some (sk_n s + 1) ∧ sk_K s' (sk_n s) = (21, 14) ∧ sk_K s' (sk_n s + 1) = (21, 70) := by
  obtain ⟨s1, e1⟩ : ∃ z, z = sk_wr (sk_nw s 21 14 14) q 0 (some (sk_n s)) := ⟨_, rfl⟩
  obtain ⟨G1, n1, m1, r1, k1, c1⟩ := al1 _ _ _ _ _ e1
  obtain ⟨s2, e2⟩ : ∃ z, z = sk_wr (sk_nw s1 21 70 70) q 1 (some (sk_n s1)) := ⟨_, rfl⟩
  obtain ⟨G2, n2, m2, r2, k2, c2⟩ := al1 _ _ _ _ _ e2
  refine ⟨s2, ?_, (G1.tr G2).mono (fun a k _ h => by omega), by omega, by omega, ?_, by rw [r2, n1], ?_, by rw [← n1]; exact k2⟩
  · unfold x0_init
    rw [if_pos h, zq_letP, zq_letP, zq_letP, ← e1, zq_letP, zq_letP, zq_letP, ← e2]
  · rw [G2.r (by omega) (by omega)]; exact r1
  · rw [G2.1 _ (by omega)]; exact k1
theorem in_4 (h : sk_K s q = (5, 0)) (hq : q < sk_n s) : ∃ s', x4_init N s q = some (s', 0) ∧ gfr (fun x k => x = q ∧ k ≤ 4) s s' ∧ sk_n s' = sk_n s + 5 ∧ sk_m s' = sk_m s + 444 ∧ (sk_r s' q 0 = some (sk_n s) ∧ sk_r s' q 1 = some (sk_n s + 1) ∧ sk_r s' q 2 = some (sk_n s + 2) ∧ sk_r s' q 3 = some (sk_n s + 3) ∧ sk_r s' q 4 = some (sk_n s + 4)) ∧ (sk_K s' (sk_n s) = (21, 12) ∧ sk_K s' (sk_n s + 1) = (21, 12) ∧ sk_K s' (sk_n s + 2) = (21, 13) ∧ sk_K s' (sk_n s + 3) = (21, 400) ∧ sk_K s' (sk_n s + 4) = (21, 7)) ∧ sk_c s' (sk_n s + 2) 0 = 0 := by
  obtain ⟨s1, e1⟩ : ∃ z, z = sk_wr (sk_nw s 21 12 12) q 0 (some (sk_n s)) := ⟨_, rfl⟩
  obtain ⟨G1, n1, m1, r1, k1, c1⟩ := al1 _ _ _ _ _ e1
  obtain ⟨s2, e2⟩ : ∃ z, z = sk_wr (sk_nw s1 21 12 12) q 1 (some (sk_n s1)) := ⟨_, rfl⟩
  obtain ⟨G2, n2, m2, r2, k2, c2⟩ := al1 _ _ _ _ _ e2
  obtain ⟨s3, e3⟩ : ∃ z, z = sk_wr (sk_nw s2 21 13 13) q 2 (some (sk_n s2)) := ⟨_, rfl⟩
  obtain ⟨G3, n3, m3, r3, k3, c3⟩ := al1 _ _ _ _ _ e3
  obtain ⟨s4, e4⟩ : ∃ z, z = sk_wr (sk_nw s3 21 400 400) q 3 (some (sk_n s3)) := ⟨_, rfl⟩
  obtain ⟨G4, n4, m4, r4, k4, c4⟩ := al1 _ _ _ _ _ e4
  obtain ⟨s5, e5⟩ : ∃ z, z = sk_wr (sk_nw s4 21 7 7) q 4 (some (sk_n s4)) := ⟨_, rfl⟩
  obtain ⟨G5, n5, m5, r5, k5, c5⟩ := al1 _ _ _ _ _ e5
  have T4 := G5
  have T3 : gfr (fun x k => x = q ∧ 2 < k ∧ k ≤ 4) s3 s5 := (G4.tr T4).mono (fun a k _ h => by omega)
  have T2 : gfr (fun x k => x = q ∧ 1 < k ∧ k ≤ 4) s2 s5 := (G3.tr T3).mono (fun a k _ h => by omega)
  have T1 : gfr (fun x k => x = q ∧ 0 < k ∧ k ≤ 4) s1 s5 := (G2.tr T2).mono (fun a k _ h => by omega)
  have x1 : sk_n s1 = sk_n s + 1 := n1
  have x2 : sk_n s2 = sk_n s + 2 := by omega
  have x3 : sk_n s3 = sk_n s + 3 := by omega
  have x4 : sk_n s4 = sk_n s + 4 := by omega
  rw [x1] at r2 k2
  rw [x2] at r3 k3 c3
  rw [x3] at r4 k4
  rw [x4] at r5 k5
  refine ⟨s5, ?_, (G1.tr T1).mono (fun a k _ h => by omega), by omega, by omega, ⟨?_, ?_, ?_, ?_, r5⟩, ⟨?_, ?_, ?_, ?_, k5⟩, ?_⟩
  · unfold x4_init
    rw [if_pos h, zq_letP, zq_letP, zq_letP, ← e1, zq_letP, zq_letP, zq_letP, ← e2, zq_letP, zq_letP, zq_letP, ← e3, zq_letP, zq_letP, zq_letP, ← e4, zq_letP, zq_letP, zq_letP, ← e5]
  · rw [T1.r (by omega) (by omega)]; exact r1
  · rw [T2.r (by omega) (by omega)]; exact r2
  · rw [T3.r (by omega) (by omega)]; exact r3
  · rw [T4.r (by omega) (by omega)]; exact r4
  · rw [T1.1 _ (by omega)]; exact k1
  · rw [T2.1 _ (by omega)]; exact k2
  · rw [T3.1 _ (by omega)]; exact k3
  · rw [T4.1 _ (by omega)]; exact k4
  · rw [T3.c (by omega) (by omega), c3]
theorem sc_cp {s' : sk_S} {p : Nat} {W : Nat → Nat} {sd : Int32} (h : sc_rel s p W sd) (hK : ∀ i, i < 10 → sk_K s' (p + i) = sk_K s (p + i)) (cc : ∀ i k, i < 10 → sk_c s' (p + i) k = sk_c s (p + i) k) (gg : ∀ i k, i < 10 → sk_g s' (p + i) k = sk_g s (p + i) k) (rr : ∀ i k, i < 10 → sk_r s' (p + i) k = sk_r s (p + i) k) : sc_rel s' p W sd := by
  obtain ⟨h1, h2, h3, h4, h5, h6, h7, ⟨nx, n1, n2, n3, n4⟩, h9⟩ := h
  refine ⟨?_, h2, ?_, fun j hj => ?_, fun c hc => ?_, ?_, fun k hk => ?_, ⟨nx, n1, ?_, ?_, fun a ha => ?_⟩, ?_⟩
  · obtain ⟨a1, a2, a3, a4, a5, a6, a7, a8, a9⟩ := lay_X7_of h1
    obtain ⟨b1, b2, b3⟩ := lay_X6_of a5
    obtain ⟨d1, d2, d3, d4, d5, d6, d7⟩ := lay_X8_of a7
    obtain ⟨f1, f2, f3⟩ := lay_X2_of a9
    have K0 := hK 0 (by decide)
    rw [Nat.add_zero] at K0
    have r0 : ∀ k, sk_r s' p k = sk_r s p k := fun k => rr 0 k (by decide)
    refine lay_X7_mk ⟨K0.trans a1, (r0 0).trans a2, ?_, (r0 1).trans a4, ?_, (r0 2).trans a6, ?_, (r0 3).trans a8, ?_⟩
    · unfold lay_X1 at a3 ⊢
      rw [hK 1 (by decide)]; exact a3
    · exact lay_X6_mk ⟨(hK 2 (by decide)).trans b1, (rr 2 0 (by decide)).trans b2, (hK 3 (by decide)).trans b3⟩
    · exact lay_X8_mk ⟨(hK 4 (by decide)).trans d1, (rr 4 0 (by decide)).trans d2, (hK 5 (by decide)).trans d3, (rr 4 1 (by decide)).trans d4, (hK 6 (by decide)).trans d5, (rr 4 2 (by decide)).trans d6, (hK 7 (by decide)).trans d7⟩
    · exact lay_X2_mk ⟨(hK 8 (by decide)).trans f1, (rr 8 0 (by decide)).trans f2, (hK 9 (by decide)).trans f3⟩
  · rw [cc 1 0 (by decide), cc 1 1 (by decide), cc 1 2 (by decide), cc 1 3 (by decide), cc 1 4 (by decide), cc 1 5 (by decide), cc 1 6 (by decide), cc 1 7 (by decide)]
    exact h3
  · rw [cc 3 j (by decide)]; exact h4 j hj
  · rw [cc 5 c (by decide), gg 4 3 (by decide), gg 4 4 (by decide)]; exact h5 c hc
  · rw [cc 4 5 (by decide), cc 4 6 (by decide), cc 4 7 (by decide)]; exact h6
  · rw [cc 6 k (by decide), cc 7 k (by decide)]; exact h7 k hk
  · rw [cc 8 1 (by decide)]; exact n2
  · rw [cc 8 2 (by decide)]; exact n3
  · rw [cc 9 _ (by decide)]; exact n4 a ha
  · exact (cc 0 4 (by decide)).trans h9
end
