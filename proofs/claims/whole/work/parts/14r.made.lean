/-! A LAW, MADE -/
section
variable {N X a n l u k L : Nat} {s s' : sk_S}
theorem gfr0_tr {s1 s2 : sk_S} (h : gfr (fun _ _ => False) s s1) (h' : gfr (fun _ _ => False) s1 s2) : gfr (fun _ _ => False) s s2 := (h.tr h').mono (fun _ _ _ q => q.elim id id)
theorem cl_K1 {x : Nat} (h : x = sk_n s) : sk_K (sk_cl s a) x = sk_K s a := by subst h; simp [sk_K, sk_cl, va_up]
theorem cl_K2 {x : Nat} (h : x ≠ sk_n s) : sk_K (sk_cl s a) x = sk_K s x := by simp [sk_K, sk_cl, va_up, h]
theorem cl_c1 {x : Nat} (h : x = sk_n s) : sk_c (sk_cl s a) x = sk_c s a := by subst h; simp [sk_c, sk_cl, va_up]
theorem cl_c2 {x : Nat} (h : x ≠ sk_n s) : sk_c (sk_cl s a) x = sk_c s x := by simp [sk_c, sk_cl, va_up, h]
theorem cl_g2 {x : Nat} (h : x ≠ sk_n s) : sk_g (sk_cl s a) x = sk_g s x := by simp [sk_g, sk_cl, va_up, h]
theorem cl_r2 {x : Nat} (h : x ≠ sk_n s) : sk_r (sk_cl s a) x = sk_r s x := by simp [sk_r, sk_cl, va_up, h]
theorem cl_n : sk_n (sk_cl s a) = sk_n s + 1 := Eq.trans rfl rfl
theorem cl_m : sk_m (sk_cl s a) = sk_m s + (sk_K s a).2 := Eq.trans rfl rfl
/-- a copy of the first of an array -/
theorem cp_ok (hk : sk_K s a = (21, L)) (hkL : k ≤ L) (hL : L ≤ 400) (ha : a < sk_n s) : ∃ s', j7_copyOf_59c91 N s a (nI k) = some (s', sk_n s) ∧ sk_n s' = sk_n s + 1 ∧ sk_m s' = sk_m s + k ∧ gfr (fun _ _ => False) s s' ∧ sk_K s' (sk_n s) = (21, k) ∧ ∀ i, i < k → sk_c s' (sk_n s) i = sk_c s a i := by
  have e2 : Int32.ofNat (sk_K s a).2 = nI L := by rw [hk]; rfl
  unfold j7_copyOf_59c91
  simp only [zq_letP]
  rw [if_pos (by rw [hk]), e2]
  by_cases e : k = L
  · subst e
    rw [if_pos rfl, if_pos (by rw [cl_K1 rfl, hk])]
    refine ⟨_, rfl, cl_n, by rw [cl_m, hk], ⟨fun x hx => cl_K2 (by omega), by rw [cl_n]; omega, fun x j hx _ => by rw [cl_c2 (by omega), cl_g2 (by omega), cl_r2 (by omega)]; exact ⟨rfl, rfl, rfl⟩, fun x hx => cl_K2 (by rw [cl_n] at hx; omega)⟩, by rw [cl_K1 rfl, hk], fun i _ => by rw [cl_c1 rfl]⟩
  · have hlt : k < L := by omega
    have K2 : sk_K (sk_nw s 21 k k) a = (21, L) := by rw [nw_K2 (by omega), hk]
    have K1 : sk_K (sk_nw s 21 k k) (sk_n s) = (21, k) := nw_K1 rfl
    have em : mt_min (Int32.ofNat (sk_K (sk_nw s 21 k k) a).2) (nI k) = nI k := by
      rw [K2]
      unfold mt_min
      rw [if_pos (by show nI k < nI L; rw [zq_lt (by omega) (by omega)]; exact hlt)]
    have nk : ¬ nI k < 0 := by show ¬ nI k < nI 0; rw [zq_lt (by omega) (by decide)]; omega
    rw [if_neg (by rw [zq_eq (by omega) (by omega)]; exact e), if_pos nk, zq_cl (by omega), if_pos (by omega), if_pos (by rw [K1]), em, zq_cl (by omega), if_pos nk, if_pos (by rw [K2]; show 0 + k ≤ L; omega), if_pos (by rw [K1]; show 0 + k ≤ k; omega)]
    refine ⟨_, rfl, nw_n s 21 k k, nw_m s 21 k k, ⟨fun x hx => nw_K2 (c := k) (by omega), by show sk_n s ≤ sk_n s + 1; omega, fun x j hx _ => ⟨?_, ?_, ?_⟩, fun x hx => nw_K2 (c := k) (by have : sk_n s + 1 ≤ x := hx; omega)⟩, K1, fun i hi => ?_⟩
    · rw [wf_cn (by omega), nw_c2 (by omega)]
    · show sk_g (sk_nw s 21 k k) x j = _
      rw [nw_g2 (by omega)]
    · show sk_r (sk_nw s 21 k k) x j = _
      rw [nw_r2 (by omega)]
    · rw [wf_c]
      unfold va_cpy
      rw [if_pos (by omega), nw_c2 (by omega)]
      show sk_c s a (0 + (i - 0)) = _
      rw [Nat.zero_add, Nat.sub_zero]
/-- the law's object gets its fields -/
theorem in_3 {a1 a2 a3 a4 : Nat} (h : sk_K s a = (4, 0)) (h1 : sk_K s a1 = (21, l)) (h2 : (sk_K s a2).1 = 21) (h3 : (sk_K s a3).1 = 21) (h4 : (sk_K s a4).1 = 21) (b0 : a < sk_n s) (b1 : a1 < sk_n s) : ∃ s', x3_init N s a a1 a2 a3 a4 = some (s', 0) ∧ sk_n s' = sk_n s + 1 ∧ sk_m s' = sk_m s + 6 ∧ (∀ x, x ≠ sk_n s → sk_K s' x = sk_K s x) ∧ sk_K s' (sk_n s) = (21, 6) ∧ (∀ x, x ≠ a → x ≠ sk_n s → sk_c s' x = sk_c s x ∧ sk_r s' x = sk_r s x) ∧ (∀ x, x ≠ sk_n s → sk_g s' x = sk_g s x) ∧ sk_c s' a 0 = nI l ∧ sk_r s' a 1 = some a1 ∧ sk_r s' a 2 = some a2 ∧ sk_r s' a 3 = some a3 ∧ sk_r s' a 4 = some a4 ∧ sk_r s' a 5 = some (sk_n s) := by
  unfold x3_init
  simp only [zq_letP]
  rw [if_pos h, if_pos (by rw [h1]), if_pos h2, if_pos h3, if_pos h4]
  refine ⟨_, rfl, ?_, ?_, fun x hx => ?_, ?_, fun x x1 x2 => ⟨?_, ?_⟩, fun x hx => ?_, ?_, ?_, ?_, ?_, ?_, ?_⟩
  · rw [wr_n, wr_n, wr_n, wr_n, wc_n, wr_n, nw_n]
  · rw [wr_m, wr_m, wr_m, wr_m, wc_m, wr_m, nw_m]
  · rw [wr_K, wr_K, wr_K, wr_K, wc_K, wr_K, nw_K2 hx]
  · rw [wr_K, wr_K, wr_K, wr_K, wc_K, wr_K, nw_K1 rfl]
  · rw [wr_c, wr_c, wr_c, wr_c, qc_ne x1, wr_c, nw_c2 x2]
  · funext j
    rw [wr_r2 (by omega), wr_r2 (by omega), wr_r2 (by omega), wr_r2 (by omega), wc_r, wr_r2 (by omega), nw_r2 x2]
  · rw [wr_g, wr_g, wr_g, wr_g, wc_g, wr_g, nw_g2 hx]
  · rw [wr_c, wr_c, wr_c, wr_c, qc_eq, pk_us, wr_K, nw_K2 (by omega), h1]; rfl
  · rw [wr_r2 (by omega), wr_r2 (by omega), wr_r2 (by omega), wr_r1 ⟨rfl, rfl⟩]
  · rw [wr_r2 (by omega), wr_r2 (by omega), wr_r1 ⟨rfl, rfl⟩]
  · rw [wr_r2 (by omega), wr_r1 ⟨rfl, rfl⟩]
  · rw [wr_r1 ⟨rfl, rfl⟩]
  · rw [wr_r2 (by omega), wr_r2 (by omega), wr_r2 (by omega), wr_r2 (by omega), wc_r, wr_r1 ⟨rfl, rfl⟩]
theorem made_ok (l4 : lay_X4 (sk_K s) (sk_r s) a = true) (ha : a + 6 ≤ sk_n s) (h5 : sk_c s a 5 = nI l) (h6 : sk_c s a 6 = nI u) (hl : l ≤ 12) (hu : u ≤ 400) : ∃ s', x4_made N s a = some (s', sk_n s) ∧ sk_n s' = sk_n s + 6 ∧ sk_m s' ≤ sk_m s + 500 ∧ gfr (fun _ _ => False) s s' ∧ lay_X3 (sk_K s') (sk_r s') (sk_n s) = true ∧ sk_c s' (sk_n s) 0 = nI l ∧ (sk_K s' (sk_n s + 1) = (21, l) ∧ sk_K s' (sk_n s + 2) = (21, l) ∧ sk_K s' (sk_n s + 3) = (21, l + 1) ∧ sk_K s' (sk_n s + 4) = (21, u)) ∧ (∀ i, i < l → sk_c s' (sk_n s + 1) i = sk_c s (a + 1) i) ∧ (∀ i, i < l → sk_c s' (sk_n s + 2) i = sk_c s (a + 2) i) ∧ (∀ i, i < l + 1 → sk_c s' (sk_n s + 3) i = sk_c s (a + 3) i) ∧ ∀ i, i < u → sk_c s' (sk_n s + 4) i = sk_c s (a + 4) i := by
  obtain ⟨k0, _, k1, _, k2, _, k3, _, k4, _, k5⟩ := lay_X4_of l4
  unfold x4_made
  simp only [zq_letP]
  rw [if_pos l4]
  have G1 : gfr (fun _ _ => False) s (sk_nw s 4 0 10) := gfr.nw1 s 4 0 10
  have n1 : sk_n (sk_nw s 4 0 10) = sk_n s + 1 := nw_n _ _ _ _
  have m1 : sk_m (sk_nw s 4 0 10) = sk_m s + 10 := nw_m _ _ _ _
  have o1 : sk_K (sk_nw s 4 0 10) (sk_n s) = (4, 0) := nw_K1 rfl
  generalize sk_nw s 4 0 10 = s1 at *
  have nf : ∀ x j : Nat, ¬ (fun _ _ => False : Nat → Nat → Prop) x j := fun _ _ h => h
  obtain ⟨s2, e2, n2, m2, G2, o2, q2⟩ := cp_ok (N := N) (s := s1) (a := a + 1) (k := l) (L := 12) (by rw [G1.1 _ (by omega)]; exact k1) hl (by omega) (by omega)
  rw [G1.c (by omega) (fun h => h), h5, e2]
  simp only [zq_bindP]
  have G12 := gfr0_tr G1 G2
  obtain ⟨s3, e3, n3, m3, G3, o3, q3⟩ := cp_ok (N := N) (s := s2) (a := a + 2) (k := l) (L := 12) (by rw [G12.1 _ (by omega)]; exact k2) hl (by omega) (by omega)
  rw [G12.c (by omega) (fun h => h), h5, e3]
  simp only [zq_bindP]
  have G13 := gfr0_tr G12 G3
  obtain ⟨s4, e4, n4, m4, G4, o4, q4⟩ := cp_ok (N := N) (s := s3) (a := a + 3) (k := l + 1) (L := 13) (by rw [G13.1 _ (by omega)]; exact k3) (by omega) (by omega) (by omega)
  rw [G13.c (by omega) (fun h => h), h5, nI_1, e4]
  simp only [zq_bindP]
  have G14 := gfr0_tr G13 G4
  obtain ⟨s5, e5, n5, m5, G5, o5, q5⟩ := cp_ok (N := N) (s := s4) (a := a + 4) (k := u) (L := 400) (by rw [G14.1 _ (by omega)]; exact k4) hu (by omega) (by omega)
  rw [G14.c (by omega) (fun h => h), h6, e5]
  simp only [zq_bindP]
  have G15 := gfr0_tr G14 G5
  have x1 : sk_n s1 = sk_n s + 1 := n1
  have x2 : sk_n s2 = sk_n s + 2 := by omega
  have x3 : sk_n s3 = sk_n s + 3 := by omega
  have x4 : sk_n s4 = sk_n s + 4 := by omega
  have x5 : sk_n s5 = sk_n s + 5 := by omega
  have G25 := gfr0_tr (gfr0_tr (gfr0_tr G2 G3) G4) G5
  have G35 := gfr0_tr (gfr0_tr G3 G4) G5
  have G45 := gfr0_tr G4 G5
  have p0 : sk_K s5 (sk_n s) = (4, 0) := by rw [G25.1 _ (by omega)]; exact o1
  have p1 : sk_K s5 (sk_n s + 1) = (21, l) := by rw [G35.1 _ (by omega), ← x1]; exact o2
  have p2 : sk_K s5 (sk_n s + 2) = (21, l) := by rw [G45.1 _ (by omega), ← x2]; exact o3
  have p3 : sk_K s5 (sk_n s + 3) = (21, l + 1) := by rw [G5.1 _ (by omega), ← x3]; exact o4
  have p4 : sk_K s5 (sk_n s + 4) = (21, u) := by rw [← x4]; exact o5
  rw [x1, x2, x3, x4]
  obtain ⟨s6, e6, n6, m6, K6, o6, c6, g6, z6, r1, r2, r3, r4, r5⟩ := in_3 (N := N) (s := s5) (a := sk_n s) (a1 := sk_n s + 1) (a2 := sk_n s + 2) (a3 := sk_n s + 3) (a4 := sk_n s + 4) (l := l) p0 p1 (by rw [p2]) (by rw [p3]) (by rw [p4]) (by omega) (by omega)
  rw [e6]
  simp only [zq_bindP]
  have t1 : sk_K s6 (sk_n s + 1) = (21, l) := by rw [K6 _ (by omega)]; exact p1
  have t2 : sk_K s6 (sk_n s + 2) = (21, l) := by rw [K6 _ (by omega)]; exact p2
  have t3 : sk_K s6 (sk_n s + 3) = (21, l + 1) := by rw [K6 _ (by omega)]; exact p3
  have t4 : sk_K s6 (sk_n s + 4) = (21, u) := by rw [K6 _ (by omega)]; exact p4
  refine ⟨s6, rfl, by omega, by omega, ⟨fun x hx => ?_, by omega, fun x j hx hv => ?_, fun x hx => ?_⟩, lay_X3_mk ⟨?_, r1, by rw [t1], r2, by rw [t2], r3, by rw [t3], r4, by rw [t4], ?_, ?_⟩, z6, ⟨t1, t2, t3, t4⟩, fun i hi => ?_, fun i hi => ?_, fun i hi => ?_, fun i hi => ?_⟩
  · rw [K6 _ (by omega)]; exact G15.1 x hx
  · rw [(c6 x (by omega) (by omega)).1, (c6 x (by omega) (by omega)).2, g6 x (by omega)]; exact G15.2.2.1 x j hx hv
  · rw [K6 _ (by omega)]; exact G15.2.2.2 x (by omega)
  · rw [K6 _ (by omega)]; exact p0
  · rw [r5, x5]
  · rw [← x5]; exact o6
  · rw [(c6 (sk_n s + 1) (by omega) (by omega)).1, G35.c (by omega) (fun h => h), ← x1, q2 i hi, G1.c (by omega) (fun h => h)]
  · rw [(c6 (sk_n s + 2) (by omega) (by omega)).1, G45.c (by omega) (fun h => h), ← x2, q3 i hi, G12.c (by omega) (fun h => h)]
  · rw [(c6 (sk_n s + 3) (by omega) (by omega)).1, G5.c (by omega) (fun h => h), ← x3, q4 i hi, G13.c (by omega) (fun h => h)]
  · rw [(c6 (sk_n s + 4) (by omega) (by omega)).1, ← x4, q5 i hi, G14.c (by omega) (fun h => h)]
end
section
variable {N X q b p ln b' u a d l : Nat} {s0 s s' : sk_S} {v : Int32} {t : Nat → Int32} {c0 c c' c1 : Nat → Nat → Int32}
/-- what the reference keeps of a text means what was read -/
theorem law_T {kd am : Nat → Nat} {hf : Nat → (Nat → Nat) → Bool} {st sa : Nat → Nat} (I : LJ X s0 c0 l s c p u a kd am hf st sa) (hl : l ≤ 12) (hp : p ≤ 400) : lwT (fun k => if k = 0 then nI l else dT c k) (l, kd, am, hf) := by
  obtain ⟨⟨F, F', w, i6, i5, i16⟩, ⟨j1, j2, j3, j4, j5⟩, j6⟩ := I
  have ne : ∀ k, k ≠ 0 → (fun k => if k = 0 then nI l else dT c k) k = dT c k := fun k h => if_neg h
  refine ⟨if_pos rfl, hl, fun i hi => ?_⟩
  have hi : i < l := hi
  obtain ⟨⟨m1, m2⟩, ⟨m3, m4, m5, m6, m7⟩, ⟨m8, m9, m10, m11, m12, m13⟩, m14⟩ := j6 i hi
  refine ⟨m1, m2, by rw [ne _ (by omega)]; exact m8, by rw [ne _ (by omega)]; exact m9, sa i, sa (i + 1), m12, by omega, by rw [ne _ (by omega)]; exact m10, by rw [ne _ (by omega)]; exact m11, ?_⟩
  rcases m14 with ⟨h1, h2, h3⟩ | ⟨h1, h2, h3⟩
  · exact .inl ⟨h2, h3⟩
  · refine .inr (fun e he => ?_)
    have h4 := segV_cg (T' := fun k => if k = 0 then nI l else dT c k) (fun k k1 _ => ne k (by omega)) h3
    exact h4.2 e he []
/-- what the class makes of it means the same -/
theorem law_C {n : Nat} {kd am : Nat → Nat} {hf : Nat → (Nat → Nat) → Bool} {st sa : Nat → Nat} (I : LJ X s0 c0 l s c p u a kd am hf st sa) (hl : l ≤ 12) (hp : p ≤ 400) (hz : sk_c s (X + 9) 0 = 0) {S : sk_S} (l3 : lay_X3 (sk_K S) (sk_r S) n = true) (h0 : sk_c S n 0 = nI l) (k1 : sk_K S (n + 1) = (21, l)) (k2 : sk_K S (n + 2) = (21, l)) (k3 : sk_K S (n + 3) = (21, l + 1)) (k4 : sk_K S (n + 4) = (21, u)) (q1 : ∀ i, i < l → sk_c S (n + 1) i = sk_c s (X + 7) i) (q2 : ∀ i, i < l → sk_c S (n + 2) i = sk_c s (X + 8) i) (q3 : ∀ i, i < l + 1 → sk_c S (n + 3) i = sk_c s (X + 9) i) (q4 : ∀ i, i < u → sk_c S (n + 4) i = sk_c s (X + 10) i) : lwC S n (l, kd, am, hf) := by
  obtain ⟨⟨F, F', w, i6, i5, i16⟩, ⟨j1, j2, j3, j4, j5⟩, j6⟩ := I
  have T : ∀ i, ∃ nt, i < l → cd_at (sk_c S (n + 4)) nt (st i) (st (i + 1)) ∧ ((st i = st (i + 1) ∧ ∀ e, hf i e = true) ∨ (st i < st (i + 1) ∧ ∀ e, lw_sml e → cd_safe (sk_c S (n + 4)) e nt (st i) 0 ∧ cd_run (sk_c S (n + 4)) e nt (st i) 0 = if hf i e = true then 1 else 0)) := fun i => by
    by_cases hi : i < l
    · obtain ⟨_, ⟨m3, m4, m5, m6, m7⟩, _, m14⟩ := j6 i hi
      rcases m14 with ⟨h1, h2, h3⟩ | ⟨h1, h2, h3⟩
      · exact ⟨0, fun _ => ⟨h1, .inl ⟨h1, h3⟩⟩⟩
      · obtain ⟨nt, g1, g2⟩ := segC_cong (cd' := sk_c S (n + 4)) (fun k hk => q4 k (by omega)) h2
        refine ⟨nt, fun _ => ⟨g1, .inr ⟨h1, fun e he => ?_⟩⟩⟩
        have g3 := g2 e he 0 (by omega)
        rw [Nat.mul_zero, Nat.zero_add] at g3
        exact g3
    · exact ⟨0, fun h => absurd h hi⟩
  refine ⟨l3, h0, hl, by rw [k1], by rw [k2], by rw [k3], by rw [k4]; show u ≤ 400; omega, by rw [q3 0 (by omega)]; exact hz, st, fun i => (T i).choose, j3, by rw [k4]; exact j4, fun i hi => ?_, fun i hi => ?_⟩
  · have hi : i ≤ l := hi
    rw [q3 i (by omega)]
    cases i with
    | zero => rw [j3]; exact ⟨hz, by omega⟩
    | succ i =>
      obtain ⟨_, ⟨m3, m4, m5, m6, m7⟩, _, _⟩ := j6 i (by omega)
      exact ⟨m5, by omega⟩
  · have hi : i < l := hi
    obtain ⟨⟨m1, m2⟩, ⟨m3, m4, m5, m6, m7⟩, _, _⟩ := j6 i hi
    obtain ⟨t1, t2⟩ := (T i).choose_spec hi
    exact ⟨m1, m2, by rw [q1 i hi]; exact m3, by rw [q2 i hi]; exact m4, m6, t1, t2⟩
theorem l52_loop {p1 : Int32} : ∀ (r i fuel : Nat) (c1 : Nat → Nat → Int32), i + r = 849 → r < fuel → onl 1 c c1 → (∀ q, q < 549 ∨ 1398 ≤ q → c1 1 q = c 1 q) → (∀ q, q < i → c1 1 (549 + q) = c 1 (1398 + q)) → ∃ c', (∀ k, md_law_L52 N k fuel c1 p1 (nI i) = k c' p1 (nI 849)) ∧ onl 1 c c' ∧ (∀ q, q < 549 ∨ 1398 ≤ q → c' 1 q = c 1 q) ∧ ∀ q, q < 849 → c' 1 (549 + q) = c 1 (1398 + q) := by
  intro r
  induction r with
  | zero =>
    intro i fuel c1 h1 h2 ho hk hc
    obtain ⟨fuel, rfl⟩ : ∃ q, fuel = q + 1 := ⟨fuel - 1, by omega⟩
    obtain rfl : i = 849 := by omega
    refine ⟨c1, fun k => ?_, ho, hk, hc⟩
    simp only [md_law_L52]; rw [if_pos (by decide)]
  | succ r ih =>
    intro i fuel c1 h1 h2 ho hk hc
    obtain ⟨fuel, rfl⟩ : ∃ q, fuel = q + 1 := ⟨fuel - 1, by omega⟩
    obtain ⟨c2, j1, j2, j3, j4⟩ := ih (i + 1) fuel (bk_w c1 1 (549 + i) (c1 1 (1398 + i))) (by omega) (by omega) (fun q hq => by rw [bk_w_ne hq]; exact ho q hq) (fun q hq => by rw [bk_w_at (by omega)]; exact hk q hq) (fun q hq => by
      by_cases e : q = i
      · rw [e, bk_w_same, hk _ (.inr (by omega))]
      · rw [bk_w_at (by omega)]; exact hc q (by omega))
    refine ⟨c2, fun k => ?_, j2, j3, j4⟩
    have e1 : (1398 : Int32) + nI i = nI (1398 + i) := nI_add 1398 _
    have e2 : (549 : Int32) + nI i = nI (549 + i) := nI_add 549 _
    simp only [md_law_L52, zq_letP]
    rw [if_neg (by show ¬ nI 849 ≤ nI i; rw [zq_le (by decide) (by omega)]; omega), e1, e2, if_pos (zq_inBt (by omega) (by decide)), if_pos (zq_inBt (by omega) (by decide)), zq_cl (by omega), zq_cl (by omega), nI_1]
    exact j1 k
theorem wd_14 {W : Nat → Nat} (h : wd W) {v : Nat} (hv : v ≤ 1) : wd (ndS W 14 v) := by
  obtain ⟨⟨b0, b1, b2, b3, b4, b5, b6, b7, b8, b9, b10, b11, b12, b13, b14, b15⟩, a, b, d, e⟩ := h
  have o : ∀ q, q ≠ 14 → ndS W 14 v q = W q := fun q h => ndS_o h
  refine ⟨?_, fun q hq => ?_, fun q hq => ?_, fun q hq => ?_, fun q hq => ?_⟩
  · rw [o 0 (by decide), o 1 (by decide), o 2 (by decide), o 3 (by decide), o 4 (by decide), o 5 (by decide), o 6 (by decide), o 7 (by decide), o 8 (by decide), o 9 (by decide), o 10 (by decide), o 11 (by decide), o 12 (by decide), ndS_s, o 13 (by decide), o 15 (by decide)]
    exact ⟨b0, b1, b2, b3, b4, b5, b6, b7, b8, b9, b10, b11, b12, b13, hv, b15⟩
  · rw [o _ (by omega), o _ (by omega), o _ (by omega), o _ (by omega)]; exact a q hq
  · rw [o _ (by omega), o _ (by omega), o _ (by omega)]; exact b q hq
  · rw [o _ (by omega), o _ (by omega), o _ (by omega)]; exact d q hq
  · rw [o _ (by omega), o _ (by omega), o _ (by omega), o _ (by omega), o _ (by omega)]; exact e q hq
theorem sc_14 {W : Nat → Nat} {sd : Int32} (S : sc_rel s p W sd) {v : Nat} (hv : v ≤ 1) : sc_rel s p (ndS W 14 v) sd := by
  obtain ⟨l7, hw, b1, b3, b5, b4, b6, ⟨nx, n1, n2, n3, n4⟩, b13⟩ := id S
  have o : ∀ q, q ≠ 14 → ndS W 14 v q = W q := fun q h => ndS_o h
  refine ⟨l7, wd_14 hw hv, B_o S (fun k => rfl) (fun q h => o q (by omega)), M_o S (fun k => rfl) (fun q h _ => o q (by omega)), C_o S (fun k => rfl) (fun _ => rfl) (fun q h _ => o q (by omega)), H_o S (fun k => rfl) (fun q h h' => o q (by omega)), P_o S (fun k => rfl) (fun k => rfl) (o 12 (by decide)) (fun q h _ => o q (by omega)), ⟨nx, n1, n2, by rw [o 15 (by decide)]; exact n3, fun a ha => ?_⟩, by rw [o 13 (by decide)]; exact b13⟩
  rw [o 15 (by decide)] at ha
  have : rowN (ndS W 14 v) a = rowN W a := by
    unfold rowN
    rw [o _ (by omega), o _ (by omega), o _ (by omega), o _ (by omega), o _ (by omega)]
  rw [this]
  exact n4 a ha
end
