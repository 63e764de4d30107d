/-! A NEW SCENE -/
def gfr (V : Nat → Nat → Prop) (s s' : sk_S) : Prop := (∀ a, a < sk_n s → sk_K s' a = sk_K s a) ∧ sk_n s ≤ sk_n s' ∧ (∀ a k, a < sk_n s → ¬ V a k → sk_c s' a k = sk_c s a k ∧ sk_g s' a k = sk_g s a k ∧ sk_r s' a k = sk_r s a k) ∧ ∀ a, sk_n s' ≤ a → sk_K s' a = sk_K s a
theorem gfr.rf {V : Nat → Nat → Prop} {s : sk_S} : gfr V s s := ⟨fun _ _ => rfl, Nat.le_refl _, fun _ _ _ _ => ⟨rfl, rfl, rfl⟩, fun _ _ => rfl⟩
theorem gfr.tr {V V' : Nat → Nat → Prop} {s s1 s2 : sk_S} (h : gfr V s s1) (h' : gfr V' s1 s2) : gfr (fun a k => V a k ∨ V' a k) s s2 := by
  have hn := h.2.1
  have hn' := h'.2.1
  refine ⟨fun a ha => (h'.1 a (by omega)).trans (h.1 a ha), by omega, fun a k ha hv => ?_, fun a ha => (h'.2.2.2 a ha).trans (h.2.2.2 a (by omega))⟩
  obtain ⟨a1, a2, a3⟩ := h.2.2.1 a k ha (fun q => hv (.inl q))
  obtain ⟨b1, b2, b3⟩ := h'.2.2.1 a k (by omega) (fun q => hv (.inr q))
  exact ⟨b1.trans a1, b2.trans a2, b3.trans a3⟩
theorem gfr.mono {V V' : Nat → Nat → Prop} {s s1 : sk_S} (h : gfr V s s1) (hV : ∀ a k, a < sk_n s → V a k → V' a k) : gfr V' s s1 := ⟨h.1, h.2.1, fun a k ha hv => h.2.2.1 a k ha (fun q => hv (hV a k ha q)), h.2.2.2⟩
theorem gfr.nw1 {V : Nat → Nat → Prop} (s : sk_S) (a b c : Nat) : gfr V s (sk_nw s a b c) :=
  ⟨fun x hx => nw_K2 (by omega), Nat.le_succ _, fun x k hx _ => by rw [nw_c2 (by omega), nw_g2 (by omega), nw_r2 (by omega)]; exact ⟨rfl, rfl, rfl⟩, fun x hx => nw_K2 (by rw [nw_n] at hx; omega)⟩
theorem gfr.wr1 (s : sk_S) (a k : Nat) (v : Option Nat) : gfr (fun x j => x = a ∧ j = k) s (sk_wr s a k v) :=
  ⟨fun x _ => rfl, Nat.le_refl _, fun x j _ hv => ⟨rfl, rfl, wr_r2 hv⟩, fun x _ => rfl⟩
theorem gfr.of {V : Nat → Nat → Prop} {s s1 : sk_S} (h : cfr V s s1) : gfr V s s1 := ⟨fun a _ => by rw [h.1], by rw [h.2.2.2.1]; exact Nat.le_refl _, fun a k _ hv => ⟨h.2.2.2.2.2 a k hv, by rw [h.2.1], by rw [h.2.2.1]⟩, fun a _ => by rw [h.1]⟩
theorem gfr.c {V : Nat → Nat → Prop} {s s' : sk_S} (h : gfr V s s') {a k : Nat} (ha : a < sk_n s) (hv : ¬ V a k) : sk_c s' a k = sk_c s a k := (h.2.2.1 a k ha hv).1
theorem gfr.g {V : Nat → Nat → Prop} {s s' : sk_S} (h : gfr V s s') {a k : Nat} (ha : a < sk_n s) (hv : ¬ V a k) : sk_g s' a k = sk_g s a k := (h.2.2.1 a k ha hv).2.1
theorem gfr.r {V : Nat → Nat → Prop} {s s' : sk_S} (h : gfr V s s') {a k : Nat} (ha : a < sk_n s) (hv : ¬ V a k) : sk_r s' a k = sk_r s a k := (h.2.2.1 a k ha hv).2.2
theorem gfr.sfr {V V' : Nat → Nat → Prop} {s s' : sk_S} (h : gfr V s s') (hV : ∀ a k, V a k → sk_n s ≤ a) : sfr V' s s' :=
  ⟨h.1, h.2.1, fun a k ha _ => h.2.2.1 a k ha (fun q => by have := hV a k q; omega), fun a k ha _ => (h.2.2.1 a k ha (fun q => by have := hV a k q; omega)).2.2⟩
section
variable {N q : Nat} {s : sk_S}
theorem in_1 (h : sk_K s q = (2, 0)) : ∃ s', x1_init N s q = some (s', 0) ∧ cfr (fun x _ => x = q) s s' ∧ sk_c s' q = upd (upd (sk_c s q) 5 999) 7 1 := by
  unfold x1_init
  simp only [zq_letP]
  rw [if_pos h]
  exact ⟨_, rfl, ((cfr.rf (V := fun x _ => x = q)).wc 999 rfl).wc 1 rfl, by rw [qc_eq, qc_eq]⟩
theorem in_6L {p n0 : Nat} : ∀ (r fuel i : Nat) (s : sk_S), i + r = 7 → r < fuel → sk_r s q 0 = some p → sk_K s p = (21, 28) → ∃ s', x6_init_L14 N q (fun q7 x8 => (some (q7, 0))) fuel s (nI i) = some (s', 0) ∧ cfr (fun x _ => x = p) s s' ∧ ∀ j, j < 28 → sk_c s' p j = if j % 4 = 3 ∧ i ≤ j / 4 then 1 else sk_c s p j := by
  intro r
  induction r with
  | zero =>
    intro fuel i s hi hf hr hK
    obtain ⟨fuel, rfl⟩ : ∃ q, fuel = q + 1 := ⟨fuel - 1, by omega⟩
    have : i = 7 := by omega
    subst this
    simp only [x6_init_L14]
    rw [if_pos (by decide)]
    exact ⟨s, rfl, cfr.rf, fun j hj => by rw [if_neg (by omega)]⟩
  | succ r ih =>
    intro fuel i s hi hf hr hK
    obtain ⟨fuel, rfl⟩ : ∃ q, fuel = q + 1 := ⟨fuel - 1, by omega⟩
    have e1 : (4 : Int32) * nI i + 3 = nI (4 * i + 3) := by show nI 4 * nI i + nI 3 = _; rw [pk_mul, nI_add]
    simp only [x6_init_L14, zq_letP]
    rw [if_neg (by show ¬ nI 7 ≤ nI i; rw [zq_le (by decide) (by omega)]; omega), hr]
    simp only [ky_om]
    rw [hK, if_pos rfl, e1, if_pos (zq_inBt (by omega) (by decide)), zq_cl (by omega), nI_1]
    obtain ⟨s', g1, g2, g3⟩ := ih fuel (i + 1) (sk_wc s p (4 * i + 3) 1) (by omega) (by omega) hr hK
    refine ⟨s', g1, (cfr.rf.wc _ rfl : cfr (fun x _ => x = p) s _).tr g2, fun j hj => ?_⟩
    rw [g3 j hj, qc_eq]
    by_cases e : j = 4 * i + 3
    · subst e
      rw [if_neg (by omega), pk_us, if_pos (by omega)]
    · rw [pk_un e]
      by_cases h : j % 4 = 3 ∧ i ≤ j / 4
      · rw [if_pos h, if_pos (by omega)]
      · rw [if_neg h, if_neg (by omega)]
theorem in_6 (h : sk_K s q = (6, 0)) (hq : q < sk_n s) (hN : 100 ≤ N) : ∃ s', x6_init N s q = some (s', 0) ∧ gfr (fun x k => x = q ∧ k = 0) s s' ∧ sk_n s' = sk_n s + 1 ∧ sk_m s' = sk_m s + 28 ∧ sk_r s' q 0 = some (sk_n s) ∧ sk_K s' (sk_n s) = (21, 28) ∧ ∀ j, j < 28 → sk_c s' (sk_n s) j = if j % 4 = 3 then 1 else 0 := by
  unfold x6_init
  simp only [zq_letP]
  rw [if_pos h]
  generalize e : sk_wr (sk_nw s 21 28 28) q 0 (some (sk_n s)) = s1
  have G : gfr (fun x k => x = q ∧ k = 0) s s1 := by
    rw [← e]
    exact ((gfr.nw1 (V := fun _ _ => False) s 21 28 28).tr (gfr.wr1 _ q 0 _)).mono (fun a k _ h => h.elim (fun h => h.elim) id)
  have k1 : sk_K s1 (sk_n s) = (21, 28) := by rw [← e, wr_K, nw_K1 rfl]
  have r1 : sk_r s1 q 0 = some (sk_n s) := by rw [← e, wr_same]
  have c1 : sk_c s1 (sk_n s) = fun _ => 0 := by rw [← e, wr_c, nw_c1 rfl]
  have n1 : sk_n s1 = sk_n s + 1 := by rw [← e, wr_n, nw_n]
  have m1 : sk_m s1 = sk_m s + 28 := by rw [← e, wr_m, nw_m]
  obtain ⟨s', g1, g2, g3⟩ := in_6L (N := N) (q := q) (p := sk_n s) (n0 := 0) 7 N 0 s1 (by omega) (by omega) r1 k1
  refine ⟨s', g1, (G.tr (gfr.of g2)).mono (fun a k ha h => ?_), g2.2.2.2.1.trans n1, g2.2.2.2.2.1.trans m1, by rw [g2.2.2.1]; exact r1, by rw [g2.1]; exact k1, fun j hj => ?_⟩
  · rcases h with h | h
    · exact h
    · omega
  · rw [g3 j hj, c1]
    by_cases h : j % 4 = 3
    · rw [if_pos ⟨h, Nat.zero_le _⟩, if_pos h]
    · rw [if_neg (fun q => h q.1), if_neg h]
theorem in_8 (h : sk_K s q = (8, 0)) (hq : q < sk_n s) (hN : 100 ≤ N) : ∃ s', x8_init N s q = some (s', 0) ∧ gfr (fun x k => x = q ∧ (k ≤ 2 ∨ k = 5)) s s' ∧ sk_n s' = sk_n s + 3 ∧ sk_m s' = sk_m s + 64 + 6 + 6 ∧ sk_r s' q 0 = some (sk_n s) ∧ sk_r s' q 1 = some (sk_n s + 1) ∧ sk_r s' q 2 = some (sk_n s + 2) ∧ sk_K s' (sk_n s) = (21, 64) ∧ sk_K s' (sk_n s + 1) = (21, 6) ∧ sk_K s' (sk_n s + 2) = (21, 6) ∧ (∀ j, j < 64 → sk_c s' (sk_n s) j = 5) ∧ sk_c s' q 5 = 27 := by
  unfold x8_init
  simp only [zq_letP]
  rw [if_pos h]
  generalize e1 : sk_wr (sk_nw s 21 64 64) q 0 (some (sk_n s)) = s1
  have n1 : sk_n s1 = sk_n s + 1 := by rw [← e1, wr_n, nw_n]
  generalize e2 : sk_wr (sk_nw s1 21 6 6) q 1 (some (sk_n s1)) = s2
  have n2 : sk_n s2 = sk_n s + 2 := by rw [← e2, wr_n, nw_n, n1]
  generalize e3 : sk_wr (sk_nw s2 21 6 6) q 2 (some (sk_n s2)) = s3
  have n3 : sk_n s3 = sk_n s + 3 := by rw [← e3, wr_n, nw_n, n2]
  generalize e4 : sk_wc s3 q 5 27 = s4
  have m3 : sk_m s3 = sk_m s + 64 + 6 + 6 := by rw [← e3, wr_m, nw_m, ← e2, wr_m, nw_m, ← e1, wr_m, nw_m]
  have G1 : gfr (fun x k => x = q ∧ k = 0) s s1 := by
    rw [← e1]
    exact ((gfr.nw1 (V := fun _ _ => False) s _ _ _).tr (gfr.wr1 _ q 0 _)).mono (fun a k _ h => h.elim (fun h => h.elim) id)
  have G2 : gfr (fun x k => x = q ∧ k = 1) s1 s2 := by
    rw [← e2]
    exact ((gfr.nw1 (V := fun _ _ => False) s1 _ _ _).tr (gfr.wr1 _ q 1 _)).mono (fun a k _ h => h.elim (fun h => h.elim) id)
  have G3 : gfr (fun x k => x = q ∧ k = 2) s2 s3 := by
    rw [← e3]
    exact ((gfr.nw1 (V := fun _ _ => False) s2 _ _ _).tr (gfr.wr1 _ q 2 _)).mono (fun a k _ h => h.elim (fun h => h.elim) id)
  have F4 : cfr (fun x k => x = q ∧ k = 5) s3 s4 := by rw [← e4]; exact cfr.rf.wc _ ⟨rfl, rfl⟩
  have k10 : sk_K s1 (sk_n s) = (21, 64) := by rw [← e1, wr_K, nw_K1 rfl]
  have k21 : sk_K s2 (sk_n s + 1) = (21, 6) := by rw [← e2, wr_K, nw_K1 n1.symm]
  have k32 : sk_K s3 (sk_n s + 2) = (21, 6) := by rw [← e3, wr_K, nw_K1 n2.symm]
  have k30 : sk_K s3 (sk_n s) = (21, 64) := by rw [G3.1 _ (by omega), G2.1 _ (by omega)]; exact k10
  have k31 : sk_K s3 (sk_n s + 1) = (21, 6) := by rw [G3.1 _ (by omega)]; exact k21
  have r10 : sk_r s1 q 0 = some (sk_n s) := by rw [← e1, wr_same]
  have r21 : sk_r s2 q 1 = some (sk_n s + 1) := by rw [← e2, wr_same, n1]
  have r32 : sk_r s3 q 2 = some (sk_n s + 2) := by rw [← e3, wr_same, n2]
  have r30 : sk_r s3 q 0 = some (sk_n s) := by rw [G3.r (by omega) (by omega), G2.r (by omega) (by omega)]; exact r10
  have r31 : sk_r s3 q 1 = some (sk_n s + 1) := by rw [G3.r (by omega) (by omega)]; exact r21
  have r40 : sk_r s4 q 0 = some (sk_n s) := by rw [F4.2.2.1]; exact r30
  rw [r40]
  simp only [ky_om]
  obtain ⟨s5, f1, f2, f3⟩ := fl_ok (N := N) (a := sk_n s) (len := 64) (v := 5) (s := s4) (by rw [F4.1]; exact k30) (by decide) (by omega)
  rw [f1]
  simp only [zq_bindP]
  refine ⟨s5, rfl, ((((G1.tr G2).tr G3).tr (gfr.of F4)).tr (gfr.of f2)).mono (fun a k ha hv => ?_), ?_, ?_, ?_, ?_, ?_, ?_, ?_, ?_, f3, ?_⟩
  · rcases hv with (((hv | hv) | hv) | hv) | hv <;> omega
  · rw [f2.2.2.2.1, F4.2.2.2.1, n3]
  · rw [f2.2.2.2.2.1, F4.2.2.2.2.1, m3]
  · rw [f2.2.2.1]; exact r40
  · rw [f2.2.2.1, F4.2.2.1]; exact r31
  · rw [f2.2.2.1, F4.2.2.1]; exact r32
  · rw [f2.1, F4.1]; exact k30
  · rw [f2.1, F4.1]; exact k31
  · rw [f2.1, F4.1]; exact k32
  · rw [f2.2.2.2.2.2 q 5 (by omega), ← e4, qc_eq, pk_us]
theorem in_2 (h : sk_K s q = (3, 0)) : ∃ s', x2_init N s q = some (s', 0) ∧ gfr (fun x k => x = q ∧ k = 0) s s' ∧ sk_n s' = sk_n s + 1 ∧ sk_m s' = sk_m s + 60 ∧ sk_r s' q 0 = some (sk_n s) ∧ sk_K s' (sk_n s) = (21, 60) := by
  unfold x2_init
  simp only [zq_letP]
  rw [if_pos h]
  refine ⟨_, rfl, ((gfr.nw1 (V := fun _ _ => False) s _ _ _).tr (gfr.wr1 _ q 0 _)).mono (fun a k _ h => h.elim (fun h => h.elim) id), ?_, ?_, ?_, ?_⟩
  · rw [wr_n, nw_n]
  · rw [wr_m, nw_m]
  · rw [wr_same]
  · rw [wr_K, nw_K1 rfl]
/-- the world at first -/
def W_0 (k : Nat) : Nat := if k = 8 then 999 else if k = 10 then 27 else if 17 ≤ k ∧ k < 45 then (if k % 4 = 0 then 1 else 0) else if 45 ≤ k ∧ k < 237 then (if k % 3 = 0 then 5 else 0) else 0
theorem wd_0 : wd W_0 := by
  unfold wd
  refine ⟨?_, fun k hk => ?_, fun k hk => ?_, fun k hk => ?_, fun k hk => ?_⟩
  · simp [W_0]
  · have e : ∀ x, x < 45 → 17 ≤ x → W_0 x = if x % 4 = 0 then 1 else 0 := fun x h1 h2 => by unfold W_0; rw [if_neg (by omega), if_neg (by omega), if_pos ⟨h2, h1⟩]
    rw [e _ (by omega) (by omega), e _ (by omega) (by omega), e _ (by omega) (by omega), e _ (by omega) (by omega), if_neg (by omega), if_neg (by omega), if_neg (by omega), if_pos (by omega)]
    omega
  · have e : ∀ x, x < 237 → 45 ≤ x → W_0 x = if x % 3 = 0 then 5 else 0 := fun x h1 h2 => by unfold W_0; rw [if_neg (by omega), if_neg (by omega), if_neg (by omega), if_pos ⟨h2, h1⟩]
    rw [e _ (by omega) (by omega), e _ (by omega) (by omega), e _ (by omega) (by omega), if_pos (by omega), if_neg (by omega), if_neg (by omega)]
    omega
  · have e : ∀ x, 237 ≤ x → W_0 x = 0 := fun x h => by unfold W_0; rw [if_neg (by omega), if_neg (by omega), if_neg (by omega), if_neg (by omega)]
    have e12 : W_0 12 = 0 := by decide
    rw [e _ (by omega), e _ (by omega), e12]
    omega
  · have e : ∀ x, 237 ≤ x → W_0 x = 0 := fun x h => by unfold W_0; rw [if_neg (by omega), if_neg (by omega), if_neg (by omega), if_neg (by omega)]
    rw [e _ (by omega), e _ (by omega), e _ (by omega), e _ (by omega), e _ (by omega)]
    omega
theorem has0 (c : Nat) (hc : c < 64) : sh_has 0 (nI c) = 0 := by
  have : ∀ c, c < 64 → sh_has 0 (nI c) = 0 := by decide +kernel
  exact this c hc
set_option maxHeartbeats 16000000 in
/-- a scene is made -/
theorem in_7 (hN : 100 ≤ N) : ∃ s', x7_init N (sk_nw s 7 0 5) (sk_n s) = some (s', 0) ∧ gfr (fun _ _ => False) s s' ∧ sk_n s' = sk_n s + 10 ∧ sk_m s' ≤ sk_m s + 200 ∧ sc_rel s' (sk_n s) W_0 1 ∧ sk_r s' (sk_n s + 2) 1 = none := by
  generalize ep : sk_n s = p
  generalize eA0 : sk_nw s 7 0 5 = s0
  have n0 : sk_n s0 = p + 1 := by rw [← eA0, nw_n, ep]
  have k0p : sk_K s0 p = (7, 0) := by rw [← eA0, nw_K1 ep.symm]
  have G0 : gfr (fun _ _ => False) s s0 := by rw [← eA0]; exact gfr.nw1 s _ _ _
  have m0 : sk_m s0 = sk_m s + 5 := by rw [← eA0, nw_m]
  have c0p : sk_c s0 p = fun _ => 0 := by rw [← eA0, nw_c1 ep.symm]
  generalize eA : sk_nw s0 2 0 8 = sA
  have nA : sk_n sA = p + 2 := by rw [← eA, nw_n, n0]
  have kA : sk_K sA (p + 1) = (2, 0) := by rw [← eA, nw_K1 n0.symm]
  have cA : sk_c sA (p + 1) = fun _ => 0 := by rw [← eA, nw_c1 n0.symm]
  have GA : gfr (fun _ _ => False) s0 sA := by rw [← eA]; exact gfr.nw1 s0 _ _ _
  have mA : sk_m sA = sk_m s0 + 8 := by rw [← eA, nw_m]
  obtain ⟨sB, b1, b2, b3⟩ := in_1 (N := N) kA
  have nB : sk_n sB = p + 2 := by rw [b2.2.2.2.1, nA]
  generalize eC : sk_wr sB p 0 (some (p + 1)) = sC
  have GC : gfr (fun x k => x = p ∧ k = 0) sB sC := by rw [← eC]; exact gfr.wr1 sB p 0 _
  have nC : sk_n sC = p + 2 := by rw [← eC, wr_n, nB]
  have mC : sk_m sC = sk_m sA := by rw [← eC, wr_m, b2.2.2.2.2.1]
  have rC : sk_r sC p 0 = some (p + 1) := by rw [← eC, wr_same]
  have cC : sk_c sC (p + 1) = upd (upd (fun _ => 0) 5 999) 7 1 := by rw [← eC, wr_c, b3, cA]
  have kC1 : sk_K sC (p + 1) = (2, 0) := by rw [← eC, wr_K, b2.1, kA]
  generalize eD : sk_nw sC 6 0 2 = sD
  have GD : gfr (fun _ _ => False) sC sD := by rw [← eD]; exact gfr.nw1 sC _ _ _
  have nD : sk_n sD = p + 3 := by rw [← eD, nw_n, nC]
  have mD : sk_m sD = sk_m sC + 2 := by rw [← eD, nw_m]
  have kD : sk_K sD (p + 2) = (6, 0) := by rw [← eD, nw_K1 nC.symm]
  have rD : sk_r sD (p + 2) = fun _ => none := by rw [← eD, nw_r1 nC.symm]
  obtain ⟨sE, x1, x2, x3, x4, x5, x6, x7⟩ := in_6 (N := N) kD (by omega) hN
  rw [nD] at x3 x5 x6 x7
  generalize eF : sk_wr sE p 1 (some (p + 2)) = sF
  have GF : gfr (fun x k => x = p ∧ k = 1) sE sF := by rw [← eF]; exact gfr.wr1 sE p 1 _
  have nF : sk_n sF = p + 4 := by rw [← eF, wr_n, x3]
  have mF : sk_m sF = sk_m sE := by rw [← eF, wr_m]
  have rF : sk_r sF p 1 = some (p + 2) := by rw [← eF, wr_same]
  generalize eG : sk_nw sF 8 0 8 = sG
  have GG : gfr (fun _ _ => False) sF sG := by rw [← eG]; exact gfr.nw1 sF _ _ _
  have nG : sk_n sG = p + 5 := by rw [← eG, nw_n, nF]
  have mG : sk_m sG = sk_m sF + 8 := by rw [← eG, nw_m]
  have kG : sk_K sG (p + 4) = (8, 0) := by rw [← eG, nw_K1 nF.symm]
  have cG : sk_c sG (p + 4) = fun _ => 0 := by rw [← eG, nw_c1 nF.symm]
  have gG : sk_g sG (p + 4) = fun _ => 0 := by rw [← eG, nw_g1 nF.symm]
  obtain ⟨sH, y1, y2, y3, y4, y5, y6, y7, y8, y9, y10, y11, y12⟩ := in_8 (N := N) kG (by omega) hN
  rw [nG] at y3 y5 y6 y7 y8 y9 y10 y11
  generalize eI : sk_wr sH p 2 (some (p + 4)) = sI
  have GI : gfr (fun x k => x = p ∧ k = 2) sH sI := by rw [← eI]; exact gfr.wr1 sH p 2 _
  have nI_ : sk_n sI = p + 8 := by rw [← eI, wr_n, y3]
  have mI : sk_m sI = sk_m sH := by rw [← eI, wr_m]
  have rI : sk_r sI p 2 = some (p + 4) := by rw [← eI, wr_same]
  generalize eJ : sk_nw sI 3 0 3 = sJ
  have GJ : gfr (fun _ _ => False) sI sJ := by rw [← eJ]; exact gfr.nw1 sI _ _ _
  have nJ : sk_n sJ = p + 9 := by rw [← eJ, nw_n, nI_]
  have mJ : sk_m sJ = sk_m sI + 3 := by rw [← eJ, nw_m]
  have kJ : sk_K sJ (p + 8) = (3, 0) := by rw [← eJ, nw_K1 nI_.symm]
  have cJ : sk_c sJ (p + 8) = fun _ => 0 := by rw [← eJ, nw_c1 nI_.symm]
  obtain ⟨sQ, z1, z2, z3, z4, z5, z6⟩ := in_2 (N := N) kJ
  rw [nJ] at z3 z5 z6
  generalize eL : sk_wr sQ p 3 (some (p + 8)) = sL
  have GL : gfr (fun x k => x = p ∧ k = 3) sQ sL := by rw [← eL]; exact gfr.wr1 sQ p 3 _
  have nL : sk_n sL = p + 10 := by rw [← eL, wr_n, z3]
  have mL : sk_m sL = sk_m sQ := by rw [← eL, wr_m]
  have rL : sk_r sL p 3 = some (p + 8) := by rw [← eL, wr_same]
  -- all behind each stage
  have TJ := z2.tr GL
  have TI := GJ.tr TJ
  have TH := GI.tr TI
  have TG := y2.tr TH
  have TF := GG.tr TG
  have TE := GF.tr TF
  have TD := x2.tr TE
  have TC := GD.tr TD
  have TB := GC.tr TC
  have TA := (gfr.of b2).tr TB
  have T0 := GA.tr TA
  refine ⟨sL, ?_, (G0.tr T0).mono (fun a k ha h => ?_), nL, by omega, ⟨?_, wd_0, ?_, fun j hj => ?_, fun c hc => ?_, ?_, fun k hk => ?_, ⟨0, by decide, ?_, ?_, fun a ha => ?_⟩, ?_⟩, ?_⟩
  · unfold x7_init
    simp only [zq_letP]
    rw [if_pos k0p, n0, eA, b1]
    simp only [zq_bindP]
    rw [eC, nC, eD, x1]
    simp only [zq_bindP]
    rw [eF, nF, eG, y1]
    simp only [zq_bindP]
    rw [eI, nI_, eJ, z1]
    simp only [zq_bindP]
    rw [eL]
  · simp only [false_or, or_false] at h
    omega
  · refine lay_X7_mk ⟨(T0.1 p (by omega)).trans k0p, ?_, ?_, ?_, ?_, ?_, ?_, rL, ?_⟩
    · rw [TC.r (by omega) (by simp only [false_or, or_false]; omega)]; exact rC
    · unfold lay_X1
      exact decide_eq_true ((TC.1 _ (by omega)).trans kC1)
    · rw [TF.r (by omega) (by simp only [false_or, or_false]; omega)]; exact rF
    · refine lay_X6_mk ⟨(TD.1 _ (by omega)).trans kD, ?_, (TE.1 _ (by omega)).trans x6⟩
      rw [TE.r (by omega) (by simp only [false_or, or_false]; omega)]; exact x5
    · rw [TI.r (by omega) (by simp only [false_or, or_false]; omega)]; exact rI
    · refine lay_X8_mk ⟨(TG.1 _ (by omega)).trans kG, ?_, (TH.1 _ (by omega)).trans y8, ?_, (TH.1 _ (by omega)).trans y9, ?_, (TH.1 _ (by omega)).trans y10⟩
      · rw [TH.r (by omega) (by simp only [false_or, or_false]; omega)]; exact y5
      · rw [TH.r (by omega) (by simp only [false_or, or_false]; omega)]; exact y6
      · rw [TH.r (by omega) (by simp only [false_or, or_false]; omega)]; exact y7
    · refine lay_X2_mk ⟨(TJ.1 _ (by omega)).trans kJ, ?_, (GL.1 _ (by omega)).trans z6⟩
      rw [GL.r (by omega) (by omega)]; exact z5
  · have e : ∀ k, sk_c sL (p + 1) k = upd (upd (fun _ => 0) 5 999) 7 1 k := fun k => by
      rw [TC.c (by omega) (by simp only [false_or, or_false]; omega), cC]
    rw [e, e, e, e, e, e, e, e]
    refine ⟨?_, ?_, ?_, ?_, ?_, ?_, ?_, ?_⟩ <;> decide
  · rw [TE.c (by omega) (by simp only [false_or, or_false]; omega), x7 j hj]
    have : W_0 (17 + j) = if (17 + j) % 4 = 0 then 1 else 0 := by unfold W_0; rw [if_neg (by omega), if_neg (by omega), if_pos (by omega)]
    rw [this]
    by_cases h : j % 4 = 3
    · rw [if_pos h, if_pos (by omega)]; rfl
    · rw [if_neg h, if_neg (by omega)]; rfl
  · have e : ∀ x, x < 237 → 45 ≤ x → W_0 x = if x % 3 = 0 then 5 else 0 := fun x h1 h2 => by unfold W_0; rw [if_neg (by omega), if_neg (by omega), if_neg (by omega), if_pos ⟨h2, h1⟩]
    rw [TH.c (by omega) (by simp only [false_or, or_false]; omega), y11 c hc, TG.g (by omega) (by simp only [false_or, or_false]; omega), TG.g (by omega) (by simp only [false_or, or_false]; omega), gG, e _ (by omega) (by omega), e _ (by omega) (by omega), e _ (by omega) (by omega), if_pos (by omega), if_neg (by omega), if_neg (by omega)]
    exact ⟨rfl, has0 c hc, has0 c hc⟩
  · rw [TH.c (by omega) (by simp only [false_or, or_false]; omega), y12, TG.c (by omega) (by simp only [false_or, or_false]; omega), TG.c (by omega) (by simp only [false_or, or_false]; omega), cG]
    decide
  · have : W_0 12 = 0 := by decide
    omega
  · rw [TJ.c (by omega) (by omega), cJ]; rfl
  · rw [TJ.c (by omega) (by omega), cJ]; decide
  · have : W_0 15 = 0 := by decide
    omega
  · rw [T0.c (by omega) (by simp only [false_or, or_false]; omega), c0p]; decide
  · rw [TD.r (by omega) (by simp only [false_or, or_false]; omega), rD]
end
