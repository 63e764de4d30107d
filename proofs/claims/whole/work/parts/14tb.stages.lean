/-! THE BEGINNING of the class, stage by stage -/
section
variable {N X q f g : Nat} {s s1 s2 : sk_S}
theorem up_tr (hfg : f < g) (h : gfr (fun x k => x = X ∧ k = g) s s1) (h' : gfr (fun x k => x = X ∧ g < k) s1 s2) : gfr (fun x k => x = X ∧ f < k) s s2 := (h.tr h').mono (fun a k _ q => by rcases q with q | q <;> omega)
theorem nwf (s : sk_S) (a b c : Nat) : gfr (fun _ _ => False) s (sk_nw s a b c) := gfr.nw1 s a b c
theorem new_V {V : Nat → Nat → Prop} {p : Nat} (h : gfr (fun _ _ => False) s s1) (h' : gfr V s1 s2) (hV : ∀ a k, V a k → a = p) (hp : sk_n s ≤ p) : gfr (fun _ _ => False) s s2 := (h.tr h').mono (fun a k ha q => by
  rcases q with q | q
  · exact q
  · have := hV a k q; omega)
theorem lk {X f p : Nat} (h : gfr (fun _ _ => False) s s1) : gfr (fun x k => x = X ∧ k = f) s (sk_wr s1 X f (some p)) := (h.tr (gfr.wr1 s1 X f (some p))).mono (fun a k _ q => q.elim (fun h => h.elim) id)
theorem st_9 (hX : X < sk_n s) : ∃ sB s', x9_init N (sk_nw s 9 0 5) (sk_n s) = some (sB, 0) ∧ sk_wr sB X 0 (some (sk_n s)) = s' ∧ gfr (fun x k => x = X ∧ k = 0) s s' ∧ sk_n s' = sk_n s + 2 ∧ sk_m s' = sk_m s + 405 ∧ sk_r s' X 0 = some (sk_n s) ∧ sk_K s' (sk_n s) = (9, 0) ∧ sk_r s' (sk_n s) 0 = some (sk_n s + 1) ∧ sk_K s' (sk_n s + 1) = (20, 400) ∧ sk_c s' (sk_n s) 1 = 0 := by
  have k0 : sk_K (sk_nw s 9 0 5) (sk_n s) = (9, 0) := nw_K1 rfl
  have n0 : sk_n (sk_nw s 9 0 5) = sk_n s + 1 := nw_n _ _ _ _
  have m0 : sk_m (sk_nw s 9 0 5) = sk_m s + 5 := nw_m _ _ _ _
  have c0 : sk_c (sk_nw s 9 0 5) (sk_n s) = fun _ => 0 := nw_c1 rfl
  have G0 := nwf s 9 0 5
  generalize sk_nw s 9 0 5 = s0 at *
  obtain ⟨sB, b1, b2, b3, b4, b5, b6⟩ := in_9 (N := N) k0
  rw [n0] at b3 b5 b6
  have G := new_V G0 b2 (fun a k h => h.1) (Nat.le_refl _)
  refine ⟨sB, _, b1, rfl, lk G, by rw [wr_n]; omega, by rw [wr_m]; omega, wr_r1 ⟨rfl, rfl⟩, ?_, ?_, ?_, ?_⟩
  · rw [wr_K, b2.1 _ (by omega)]; exact k0
  · rw [wr_r2 (by omega)]; exact b5
  · rw [wr_K]; exact b6
  · rw [wr_c, b2.c (by omega) (by omega), c0]
theorem st_0 (hX : X < sk_n s) : ∃ sB s', x0_init N (sk_nw s 1 0 5) (sk_n s) = some (sB, 0) ∧ sk_wr sB X 1 (some (sk_n s)) = s' ∧ gfr (fun x k => x = X ∧ k = 1) s s' ∧ sk_n s' = sk_n s + 3 ∧ sk_m s' = sk_m s + 89 ∧ sk_r s' X 1 = some (sk_n s) ∧ sk_K s' (sk_n s) = (1, 0) ∧ sk_r s' (sk_n s) 0 = some (sk_n s + 1) ∧ sk_K s' (sk_n s + 1) = (21, 14) ∧ sk_r s' (sk_n s) 1 = some (sk_n s + 2) ∧ sk_K s' (sk_n s + 2) = (21, 70) := by
  have k0 : sk_K (sk_nw s 1 0 5) (sk_n s) = (1, 0) := nw_K1 rfl
  have n0 : sk_n (sk_nw s 1 0 5) = sk_n s + 1 := nw_n _ _ _ _
  have m0 : sk_m (sk_nw s 1 0 5) = sk_m s + 5 := nw_m _ _ _ _
  have G0 := nwf s 1 0 5
  generalize sk_nw s 1 0 5 = s0 at *
  obtain ⟨sB, b1, b2, b3, b4, b5, b6, b7, b8⟩ := in_0 (N := N) k0 (by omega)
  rw [n0] at b3 b5 b6 b7 b8
  have G := new_V G0 b2 (fun a k h => h.1) (Nat.le_refl _)
  refine ⟨sB, _, b1, rfl, lk G, by rw [wr_n]; omega, by rw [wr_m]; omega, wr_r1 ⟨rfl, rfl⟩, ?_, ?_, ?_, ?_, ?_⟩
  · rw [wr_K, b2.1 _ (by omega)]; exact k0
  · rw [wr_r2 (by omega)]; exact b5
  · rw [wr_K]; exact b7
  · rw [wr_r2 (by omega)]; exact b6
  · rw [wr_K]; exact b8
theorem st_4 (hX : X < sk_n s) : ∃ sB s', x4_init N (sk_nw s 5 0 7) (sk_n s) = some (sB, 0) ∧ sk_wr sB X 2 (some (sk_n s)) = s' ∧ gfr (fun x k => x = X ∧ k = 2) s s' ∧ sk_n s' = sk_n s + 6 ∧ sk_m s' = sk_m s + 451 ∧ sk_r s' X 2 = some (sk_n s) ∧ (sk_K s' (sk_n s) = (5, 0) ∧ sk_K s' (sk_n s + 1) = (21, 12) ∧ sk_K s' (sk_n s + 2) = (21, 12) ∧ sk_K s' (sk_n s + 3) = (21, 13) ∧ sk_K s' (sk_n s + 4) = (21, 400) ∧ sk_K s' (sk_n s + 5) = (21, 7)) ∧ (sk_r s' (sk_n s) 0 = some (sk_n s + 1) ∧ sk_r s' (sk_n s) 1 = some (sk_n s + 2) ∧ sk_r s' (sk_n s) 2 = some (sk_n s + 3) ∧ sk_r s' (sk_n s) 3 = some (sk_n s + 4) ∧ sk_r s' (sk_n s) 4 = some (sk_n s + 5)) ∧ sk_c s' (sk_n s + 3) 0 = 0 := by
  have k0 : sk_K (sk_nw s 5 0 7) (sk_n s) = (5, 0) := nw_K1 rfl
  have n0 : sk_n (sk_nw s 5 0 7) = sk_n s + 1 := nw_n _ _ _ _
  have m0 : sk_m (sk_nw s 5 0 7) = sk_m s + 7 := nw_m _ _ _ _
  have G0 := nwf s 5 0 7
  generalize sk_nw s 5 0 7 = s0 at *
  obtain ⟨sB, b1, b2, b3, b4, ⟨b5, b6, b7, b8, b9⟩, ⟨d5, d6, d7, d8, d9⟩, d10⟩ := in_4 (N := N) k0 (by omega)
  rw [n0] at b3 b5 b6 b7 b8 b9 d5 d6 d7 d8 d9 d10
  have G := new_V G0 b2 (fun a k h => h.1) (Nat.le_refl _)
  refine ⟨sB, _, b1, rfl, lk G, by rw [wr_n]; omega, by rw [wr_m]; omega, wr_r1 ⟨rfl, rfl⟩, ⟨?_, ?_, ?_, ?_, ?_, ?_⟩, ⟨?_, ?_, ?_, ?_, ?_⟩, ?_⟩
  · rw [wr_K, b2.1 _ (by omega)]; exact k0
  · rw [wr_K]; exact d5
  · rw [wr_K]; exact d6
  · rw [wr_K]; exact d7
  · rw [wr_K]; exact d8
  · rw [wr_K]; exact d9
  · rw [wr_r2 (by omega)]; exact b5
  · rw [wr_r2 (by omega)]; exact b6
  · rw [wr_r2 (by omega)]; exact b7
  · rw [wr_r2 (by omega)]; exact b8
  · rw [wr_r2 (by omega)]; exact b9
  · rw [wr_c]; exact d10
theorem st_7 (hN : 100 ≤ N) (hX : X < sk_n s) : ∃ sB s', x7_init N (sk_nw s 7 0 5) (sk_n s) = some (sB, 0) ∧ sk_wr sB X 3 (some (sk_n s)) = s' ∧ gfr (fun x k => x = X ∧ k = 3) s s' ∧ sk_n s' = sk_n s + 10 ∧ sk_m s' ≤ sk_m s + 200 ∧ sk_r s' X 3 = some (sk_n s) ∧ sc_rel s' (sk_n s) W_0 1 ∧ sk_r s' (sk_n s + 2) 1 = none := by
  obtain ⟨sJ, j1, j2, j3, j4, j5, j6⟩ := in_7 (N := N) (s := s) hN
  refine ⟨sJ, _, j1, rfl, lk j2, by rw [wr_n]; omega, by rw [wr_m]; omega, wr_r1 ⟨rfl, rfl⟩, ?_, ?_⟩
  · exact sc_cp j5 (fun i hi => by rw [wr_K]) (fun i k hi => by rw [wr_c]) (fun i k hi => by rw [wr_g]) (fun i k hi => wr_r2 (by omega))
  · rw [wr_r2 (by omega)]; exact j6
theorem st_a (hX : X < sk_n s) : ∃ s', sk_wr (sk_nw s 23 12 12) X 4 (some (sk_n s)) = s' ∧ gfr (fun x k => x = X ∧ k = 4) s s' ∧ sk_n s' = sk_n s + 1 ∧ sk_m s' = sk_m s + 12 ∧ sk_r s' X 4 = some (sk_n s) ∧ sk_K s' (sk_n s) = (23, 12) ∧ ∀ k, sk_r s' (sk_n s) k = none := by
  refine ⟨_, rfl, lk (nwf s 23 12 12), by rw [wr_n, nw_n], by rw [wr_m, nw_m], wr_r1 ⟨rfl, rfl⟩, by rw [wr_K]; exact nw_K1 rfl, fun k => ?_⟩
  rw [wr_r2 (by omega), nw_r1 rfl]
theorem st_1 (hX : X < sk_n s) : ∃ sB s', x1_init N (sk_nw s 2 0 8) (sk_n s) = some (sB, 0) ∧ sk_wr sB X 5 (some (sk_n s)) = s' ∧ gfr (fun x k => x = X ∧ k = 5) s s' ∧ sk_n s' = sk_n s + 1 ∧ sk_m s' = sk_m s + 8 ∧ sk_r s' X 5 = some (sk_n s) ∧ sk_K s' (sk_n s) = (2, 0) := by
  have k0 : sk_K (sk_nw s 2 0 8) (sk_n s) = (2, 0) := nw_K1 rfl
  have n0 : sk_n (sk_nw s 2 0 8) = sk_n s + 1 := nw_n _ _ _ _
  have m0 : sk_m (sk_nw s 2 0 8) = sk_m s + 8 := nw_m _ _ _ _
  have G0 := nwf s 2 0 8
  generalize sk_nw s 2 0 8 = s0 at *
  obtain ⟨sB, p1, p2, p3⟩ := in_1 (N := N) k0
  have G := new_V G0 (gfr.of p2) (fun a k h => h) (Nat.le_refl _)
  refine ⟨sB, _, p1, rfl, lk G, by rw [wr_n, p2.2.2.2.1]; omega, by rw [wr_m, p2.2.2.2.2.1]; omega, wr_r1 ⟨rfl, rfl⟩, ?_⟩
  rw [wr_K, p2.1]; exact k0
/-- all stages -/
theorem in_11a (hN : 100 ≤ N) : ∃ s0 s1 s2 s3 s4 s5 s6 s7, x11_init N (sk_nw (pu_0 X) 11 0 11) X = some (s7, 0) ∧
    (sk_n s0 = X + 1 ∧ sk_n s1 = X + 3 ∧ sk_n s2 = X + 6 ∧ sk_n s3 = X + 12 ∧ sk_n s4 = X + 22 ∧ sk_n s5 = X + 23 ∧ sk_n s6 = X + 24 ∧ sk_n s7 = X + 24 ∧ sk_m s7 ≤ 1300) ∧
    (gfr (fun x k => x = X ∧ 5 < k) s6 s7 ∧ gfr (fun x k => x = X ∧ 4 < k) s5 s7 ∧ gfr (fun x k => x = X ∧ 3 < k) s4 s7 ∧ gfr (fun x k => x = X ∧ 2 < k) s3 s7 ∧ gfr (fun x k => x = X ∧ 1 < k) s2 s7 ∧ gfr (fun x k => x = X ∧ 0 < k) s1 s7) ∧
    (sk_K s0 X = (11, 0) ∧ sk_K s7 X = (11, 0) ∧ (∀ a, a < X ∨ X + 24 ≤ a → sk_K s7 a = (0, 0)) ∧ sk_r s7 X 8 = none ∧ sk_r s7 X 9 = none ∧ sk_c s7 X 6 = 0 ∧ sk_c s7 X 7 = 0 ∧ sk_c s7 X 10 = -1) ∧
    (sk_r s1 X 0 = some (X + 1) ∧ sk_K s1 (X + 1) = (9, 0) ∧ sk_r s1 (X + 1) 0 = some (X + 2) ∧ sk_K s1 (X + 2) = (20, 400) ∧ sk_c s1 (X + 1) 1 = 0) ∧
    (sk_r s2 X 1 = some (X + 3) ∧ sk_K s2 (X + 3) = (1, 0) ∧ sk_r s2 (X + 3) 0 = some (X + 4) ∧ sk_K s2 (X + 4) = (21, 14) ∧ sk_r s2 (X + 3) 1 = some (X + 5) ∧ sk_K s2 (X + 5) = (21, 70)) ∧
    (sk_r s3 X 2 = some (X + 6) ∧ (sk_K s3 (X + 6) = (5, 0) ∧ sk_K s3 (X + 7) = (21, 12) ∧ sk_K s3 (X + 8) = (21, 12) ∧ sk_K s3 (X + 9) = (21, 13) ∧ sk_K s3 (X + 10) = (21, 400) ∧ sk_K s3 (X + 11) = (21, 7)) ∧ (sk_r s3 (X + 6) 0 = some (X + 7) ∧ sk_r s3 (X + 6) 1 = some (X + 8) ∧ sk_r s3 (X + 6) 2 = some (X + 9) ∧ sk_r s3 (X + 6) 3 = some (X + 10) ∧ sk_r s3 (X + 6) 4 = some (X + 11)) ∧ sk_c s3 (X + 9) 0 = 0) ∧
    (sk_r s4 X 3 = some (X + 12) ∧ sc_rel s4 (X + 12) W_0 1 ∧ sk_r s4 (X + 14) 1 = none) ∧ (sk_r s5 X 4 = some (X + 22) ∧ sk_K s5 (X + 22) = (23, 12) ∧ ∀ k, sk_r s5 (X + 22) k = none) ∧ (sk_r s6 X 5 = some (X + 23) ∧ sk_K s6 (X + 23) = (2, 0)) := by
  have n0 : sk_n (sk_nw (pu_0 X) 11 0 11) = X + 1 := rfl
  have m0 : sk_m (sk_nw (pu_0 X) 11 0 11) = 11 := rfl
  have k0 : sk_K (sk_nw (pu_0 X) 11 0 11) X = (11, 0) := nw_K1 rfl
  have z0 : ∀ a, a ≠ X → sk_K (sk_nw (pu_0 X) 11 0 11) a = (0, 0) := fun a ha => (nw_K2 (s := pu_0 X) (show a ≠ X from ha)).trans rfl
  have c0 : sk_c (sk_nw (pu_0 X) 11 0 11) X = fun _ => 0 := nw_c1 rfl
  have r0 : sk_r (sk_nw (pu_0 X) 11 0 11) X = fun _ => none := nw_r1 rfl
  generalize sk_nw (pu_0 X) 11 0 11 = s0 at *
  obtain ⟨t1, s1, a1, e1, G1, n1, m1, A⟩ := st_9 (N := N) (X := X) (s := s0) (by omega)
  rw [n0] at a1 e1 n1 A
  obtain ⟨t2, s2, a2, e2, G2, n2, m2, B⟩ := st_0 (N := N) (X := X) (s := s1) (by omega)
  rw [n1] at a2 e2 n2 B
  obtain ⟨t3, s3, a3, e3, G3, n3, m3, C⟩ := st_4 (N := N) (X := X) (s := s2) (by omega)
  rw [n2] at a3 e3 n3 C
  obtain ⟨t4, s4, a4, e4, G4, n4, m4, D⟩ := st_7 (N := N) (X := X) (s := s3) hN (by omega)
  rw [n3] at a4 e4 n4 D
  obtain ⟨s5, e5, G5, n5, m5, E⟩ := st_a (X := X) (s := s4) (by omega)
  rw [n4] at e5 n5 E
  obtain ⟨t6, s6, a6, e6, G6, n6, m6, F⟩ := st_1 (N := N) (X := X) (s := s5) (by omega)
  rw [n5] at a6 e6 n6 F
  obtain ⟨s7, e7⟩ : ∃ z, sk_wc s6 X 10 (-1) = z := ⟨_, rfl⟩
  have FS : cfr (fun x k => x = X ∧ k = 10) s6 s7 := by rw [← e7]; exact cfr.rf.wc _ ⟨rfl, rfl⟩
  have c10 : sk_c s7 X 10 = -1 := by rw [← e7, qc_eq, pk_us]
  have T6 : gfr (fun x k => x = X ∧ 5 < k) s6 s7 := (gfr.of FS).mono (fun a k _ h => ⟨h.1, by rw [h.2]; decide⟩)
  have T5 := up_tr (f := 4) (by decide) G6 T6
  have T4 := up_tr (f := 3) (by decide) G5 T5
  have T3 := up_tr (f := 2) (by decide) G4 T4
  have T2 := up_tr (f := 1) (by decide) G3 T3
  have T1 := up_tr (f := 0) (by decide) G2 T2
  have n7 : sk_n s7 = X + 24 := by rw [FS.2.2.2.1]; exact n6
  have m7 : sk_m s7 ≤ 1300 := by rw [FS.2.2.2.2.1]; omega
  have T0 : gfr (fun x _ => x = X) s0 s7 := (G1.tr T1).mono (fun a k _ q => q.elim (fun q => q.1) (fun q => q.1))
  have U : ∀ k, k ≠ 0 → k ≠ 1 → k ≠ 2 → k ≠ 3 → k ≠ 4 → k ≠ 5 → k ≠ 10 → sk_c s7 X k = sk_c s0 X k ∧ sk_r s7 X k = sk_r s0 X k := fun k h0 h1 h2 h3 h4 h5 h10 => by
    clear m1 m2 m3 m4 m5 m6 m7 A B C D E F
    constructor
    · rw [FS.2.2.2.2.2 _ _ (fun h => h10 h.2), G6.c (by omega) (fun h => h5 h.2), G5.c (by omega) (fun h => h4 h.2), G4.c (by omega) (fun h => h3 h.2), G3.c (by omega) (fun h => h2 h.2), G2.c (by omega) (fun h => h1 h.2), G1.c (by omega) (fun h => h0 h.2)]
    · rw [FS.2.2.1, G6.r (by omega) (fun h => h5 h.2), G5.r (by omega) (fun h => h4 h.2), G4.r (by omega) (fun h => h3 h.2), G3.r (by omega) (fun h => h2 h.2), G2.r (by omega) (fun h => h1 h.2), G1.r (by omega) (fun h => h0 h.2)]
  refine ⟨s0, s1, s2, s3, s4, s5, s6, s7, ?_, ⟨n0, n1, n2, n3, n4, n5, n6, n7, m7⟩, ⟨T6, T5, T4, T3, T2, T1⟩, ⟨k0, ?_, fun a ha => ?_, ?_, ?_, ?_, ?_, c10⟩, A, B, C, D, E, F⟩
  · unfold x11_init
    rw [if_pos k0, zq_letP, n0, zq_letP, a1]
    simp only [zq_bindP]
    rw [zq_letP, e1, zq_letP, n1, zq_letP, a2]
    simp only [zq_bindP]
    rw [zq_letP, e2, zq_letP, n2, zq_letP, a3]
    simp only [zq_bindP]
    rw [zq_letP, e3, zq_letP, n3, zq_letP, a4]
    simp only [zq_bindP]
    rw [zq_letP, e4, zq_letP, n4, zq_letP, zq_letP, e5, zq_letP, n5, zq_letP, a6]
    simp only [zq_bindP]
    rw [zq_letP, e6, zq_letP, e7]
  · rw [T0.1 X (by omega)]; exact k0
  · rcases ha with ha | ha
    · rw [T0.1 a (by omega)]; exact z0 a (by omega)
    · rw [T0.2.2.2 a (by omega)]; exact z0 a (by omega)
  · rw [(U 8 (by decide) (by decide) (by decide) (by decide) (by decide) (by decide) (by decide)).2, r0]
  · rw [(U 9 (by decide) (by decide) (by decide) (by decide) (by decide) (by decide) (by decide)).2, r0]
  · rw [(U 6 (by decide) (by decide) (by decide) (by decide) (by decide) (by decide) (by decide)).1, c0]
  · rw [(U 7 (by decide) (by decide) (by decide) (by decide) (by decide) (by decide) (by decide)).1, c0]
/-- the class's object as it is made -/
theorem in_11 (hN : 100 ≤ N) : ∃ s2, x11_init N (sk_nw (pu_0 X) 11 0 11) X = some (s2, 0) ∧ sk_n s2 = X + 24 ∧ sk_m s2 ≤ 1300 ∧ lay_X11 (sk_K s2) (sk_r s2) X = true ∧ (∀ a, a < X ∨ X + 24 ≤ a → sk_K s2 a = (0, 0)) ∧ (∀ i, i < 24 → i ≠ 12 → kb (sk_K s2 (X + i)).1 = 0) ∧ sc_rel s2 (X + 12) W_0 1 ∧ sk_r s2 (X + 14) 1 = none ∧ sk_r s2 X 8 = none ∧ sk_r s2 X 9 = none ∧ (∀ k, sk_r s2 (X + 22) k = none) ∧ sk_c s2 X 6 = 0 ∧ sk_c s2 X 7 = 0 ∧ sk_c s2 X 10 = -1 ∧ sk_c s2 (X + 1) 1 = 0 ∧ sk_c s2 (X + 9) 0 = 0 := by
  obtain ⟨s0, s1, s2, s3, s4, s5, s6, s7, hx, ⟨n0, n1, n2, n3, n4, n5, n6, n7, m7⟩, ⟨T6, T5, T4, T3, T2, T1⟩, ⟨k0, K0, kz, r8, r9, c6, c7, c10⟩, ⟨A1, A2, A3, A4, A5⟩, ⟨B1, B2, B3, B4, B5, B6⟩, ⟨C1, ⟨C2, C3, C4, C5, C6, C7⟩, ⟨C8, C9, C10, C11, C12⟩, C13⟩, ⟨D1, D2, D3⟩, ⟨E1, E2, E3⟩, F1, F2⟩ := in_11a (N := N) (X := X) hN
  have ne : ∀ {i f k : Nat}, 0 < i → ¬ (X + i = X ∧ f < k) := fun h q => by omega
  have nk : ∀ {f : Nat}, ¬ (X = X ∧ f < f) := fun q => Nat.lt_irrefl _ q.2
  have SJ : sc_rel s7 (X + 12) W_0 1 := sc_cp D2 (fun i hi => T4.1 _ (by omega)) (fun i k hi => T4.c (by omega) (by omega)) (fun i k hi => T4.g (by omega) (by omega)) (fun i k hi => T4.r (by omega) (by omega))
  have K1 : sk_K s7 (X + 1) = (9, 0) := (T1.1 _ (by omega)).trans A2
  have K2 : sk_K s7 (X + 2) = (20, 400) := (T1.1 _ (by omega)).trans A4
  have K3 : sk_K s7 (X + 3) = (1, 0) := (T2.1 _ (by omega)).trans B2
  have K4 : sk_K s7 (X + 4) = (21, 14) := (T2.1 _ (by omega)).trans B4
  have K5 : sk_K s7 (X + 5) = (21, 70) := (T2.1 _ (by omega)).trans B6
  have K6 : sk_K s7 (X + 6) = (5, 0) := (T3.1 _ (by omega)).trans C2
  have K7 : sk_K s7 (X + 7) = (21, 12) := (T3.1 _ (by omega)).trans C3
  have K8 : sk_K s7 (X + 8) = (21, 12) := (T3.1 _ (by omega)).trans C4
  have K9 : sk_K s7 (X + 9) = (21, 13) := (T3.1 _ (by omega)).trans C5
  have K10 : sk_K s7 (X + 10) = (21, 400) := (T3.1 _ (by omega)).trans C6
  have K11 : sk_K s7 (X + 11) = (21, 7) := (T3.1 _ (by omega)).trans C7
  have K22 : sk_K s7 (X + 22) = (23, 12) := (T5.1 _ (by omega)).trans E2
  have K23 : sk_K s7 (X + 23) = (2, 0) := (T6.1 _ (by omega)).trans F2
  refine ⟨s7, hx, n7, m7, lay_X11_mk ⟨K0, (T1.r (by omega) nk).trans A1, lay_X9_mk ⟨K1, (T1.r (by omega) (ne (by decide))).trans A3, K2⟩, (T2.r (by omega) nk).trans B1, lay_X0_mk ⟨K3, (T2.r (by omega) (ne (by decide))).trans B3, K4, (T2.r (by omega) (ne (by decide))).trans B5, K5⟩, (T3.r (by omega) nk).trans C1, lay_X4_mk ⟨K6, (T3.r (by omega) (ne (by decide))).trans C8, K7, (T3.r (by omega) (ne (by decide))).trans C9, K8, (T3.r (by omega) (ne (by decide))).trans C10, K9, (T3.r (by omega) (ne (by decide))).trans C11, K10, (T3.r (by omega) (ne (by decide))).trans C12, K11⟩, (T4.r (by omega) nk).trans D1, SJ.1, (T5.r (by omega) nk).trans E1, K22, (T6.r (by omega) nk).trans F1, ?_⟩, kz, fun i hi h12 => ?_, SJ, (T4.r (by omega) (ne (by decide))).trans D3, r8, r9, fun k => (T5.r (by omega) (ne (by decide))).trans (E3 k), c6, c7, c10, (T1.c (by omega) (ne (by decide))).trans A5, (T3.c (by omega) (ne (by decide))).trans C13⟩
  · unfold lay_X1
    exact decide_eq_true K23
  · by_cases h13 : 12 < i ∧ i < 22
    · have := lay7_kinds SJ.1 (i - 12) (by omega) (by omega)
      rw [show X + 12 + (i - 12) = X + i by omega] at this
      exact this
    · have : i = 0 ∨ i = 1 ∨ i = 2 ∨ i = 3 ∨ i = 4 ∨ i = 5 ∨ i = 6 ∨ i = 7 ∨ i = 8 ∨ i = 9 ∨ i = 10 ∨ i = 11 ∨ i = 22 ∨ i = 23 := by omega
      rcases this with rfl | rfl | rfl | rfl | rfl | rfl | rfl | rfl | rfl | rfl | rfl | rfl | rfl | rfl
      · rw [Nat.add_zero, K0]; rfl
      · rw [K1]; rfl
      · rw [K2]; rfl
      · rw [K3]; rfl
      · rw [K4]; rfl
      · rw [K5]; rfl
      · rw [K6]; rfl
      · rw [K7]; rfl
      · rw [K8]; rfl
      · rw [K9]; rfl
      · rw [K10]; rfl
      · rw [K11]; rfl
      · rw [K22]; rfl
      · rw [K23]; rfl
end
