/-! CELL -/
section
variable {N X j : Nat} {s s' : sk_S} {c c' c0 : Nat → Nat → Int32} {W W' W0 : Nat → Nat} {sd sd' sd0 : Int32} {m m' : lwM} {sb : Nat} {k : Nat}
theorem pe_loop (R : R_now X s c0 W sd m) (Rc : rwd c W sd m) (hk : k ≤ 63) {kC : sk_S → Int32 → Int32 → Int32 → Option (sk_S × Int32)} {kR : (Nat → Nat → Int32) → Int32 → Int32 → Int32 → Option ((Nat → Nat → Int32) × Int32)} : ∀ (r i fuel fuel' : Nat) (b : Int32), i + r = W 12 → r < fuel → r < fuel' → ∃ x, x8_peopleOn_L4 N (X + 16) kC fuel s (nI k) b (nI i) = kC s (nI k) x (nI (W 12)) ∧ md_peopleOn_L4 N kR fuel' c (nI k) b (nI i) = kR c (nI k) x (nI (W 12)) := by
  have hw := Rc.2.1
  have w12 := hw.1.2.2.2.2.2.2.2.2.2.2.2.2.1
  have s6 : sk_c s (X + 16) 6 = nI (W 12) := R.2.2.1.2.2.2.2.2.1.2.1
  have c12 : md_people_r c = nI (W 12) := wv_n Rc.1 (k := 12) (by decide) (by decide)
  intro r
  induction r with
  | zero =>
    intro i fuel fuel' b h1 h2 h3
    obtain ⟨fuel, rfl⟩ : ∃ q, fuel = q + 1 := ⟨fuel - 1, by omega⟩
    obtain ⟨fuel', rfl⟩ : ∃ q, fuel' = q + 1 := ⟨fuel' - 1, by omega⟩
    obtain rfl : i = W 12 := by omega
    refine ⟨b, ?_, ?_⟩
    · simp only [x8_peopleOn_L4]; rw [s6, if_pos (by rw [zq_le (by omega) (by omega)]; omega)]
    · simp only [md_peopleOn_L4]; rw [c12, if_pos (by rw [zq_le (by omega) (by omega)]; omega)]
  | succ r ih =>
    intro i fuel fuel' b h1 h2 h3
    obtain ⟨fuel, rfl⟩ : ∃ q, fuel = q + 1 := ⟨fuel - 1, by omega⟩
    obtain ⟨fuel', rfl⟩ : ∃ q, fuel' = q + 1 := ⟨fuel' - 1, by omega⟩
    have nle : ¬ nI (W 12) ≤ nI i := by rw [zq_le (by omega) (by omega)]; omega
    have s19 : sk_c s (X + 16 + 3) i = nI (W (238 + 2 * i)) := (R.2.2.1.2.2.2.2.2.2.1 i (by omega)).2
    have v0 : (237 + 2 * nI i) + 1 = nI (238 + 2 * i) := by
      rw [show (2 : Int32) * nI i = nI (2 * i) from pk_mul 2 _, show (237 : Int32) + nI (2 * i) = nI (237 + 2 * i) from nI_add 237 _, nI_1]
      congr 1; omega
    have inb : ky_inB ((237 + 2 * nI i) + 1) 2247 = true := by rw [v0]; exact zq_inBt (by omega) (by decide)
    have of2 : md_ofPerson_r c (nI i) 1 = nI (W (238 + 2 * i)) := by
      unfold md_ofPerson_r; rw [v0, zq_cl (by omega)]; exact wv_n Rc.1 (by omega) (by omega)
    by_cases h : nI (W (238 + 2 * i)) = nI k
    · obtain ⟨x, i1, i2⟩ := ih (i + 1) fuel fuel' (b ||| ((1 : Int32) <<< (nI i &&& 31))) (by omega) (by omega) (by omega)
      refine ⟨x, ?_, ?_⟩
      · simp only [x8_peopleOn_L4, zq_letP]
        rw [s6, if_neg nle, if_pos (zq_inBt (by omega) (by decide)), zq_cl (by omega), s19, if_pos h, nI_1]
        exact i1
      · simp only [md_peopleOn_L4, zq_letP]
        rw [c12, if_neg nle, if_pos inb, of2, if_pos h, nI_1]
        exact i2
    · obtain ⟨x, i1, i2⟩ := ih (i + 1) fuel fuel' b (by omega) (by omega) (by omega)
      refine ⟨x, ?_, ?_⟩
      · simp only [x8_peopleOn_L4, zq_letP]
        rw [s6, if_neg nle, if_pos (zq_inBt (by omega) (by decide)), zq_cl (by omega), s19, if_neg h, nI_1]
        exact i1
      · simp only [md_peopleOn_L4, zq_letP]
        rw [c12, if_neg nle, if_pos inb, of2, if_neg h, nI_1, Int32.or_zero]
        exact i2
set_option maxRecDepth 20000 in
theorem sm_cell_ok (hN : 2000000000 ≤ N) : sm_cell X N (RR X) := by
  intro j s c hj ⟨_, Z, W, sd, m, R, Rw⟩ p1 p2
  have R0 := rwd_0 R
  have hw := wd_of R
  rcases cellC p1 with ⟨k, hk, rfl, m1, m2⟩ | ⟨m1, m2⟩
  · rcases rngC 0 3 (by decide) (by decide) p2 with ⟨p, _, hp, rfl, hin⟩ | ⟨hin, hout⟩
    · have hin' : md_in (nI p) 0 3 = 1 := hin
      obtain ⟨q1, q2, q3⟩ := hw.2.2.1 k (by omega)
      obtain ⟨d1, d2, d3⟩ := R.1.2.2.1.2.2.2.2.1 k (by omega)
      have RF := RR_siz hj Z (s' := s) ⟨rfl, rfl, rfl⟩ (RA_c R ceq_0) Rw
      by_cases h3 : p = 3
      · subst h3
        obtain ⟨x, a1, a2⟩ := pe_loop (N := N) (kC := fun q2 x3 x4 x5 => (some (q2, x4))) (kR := fun q2 x3 x4 x5 => (some (q2, x4))) R.1 R0 hk (W 12) 0 N N 0 (by omega) (by have := hw.1.2.2.2.2.2.2.2.2.2.2.2.2.1; omega) (by have := hw.1.2.2.2.2.2.2.2.2.2.2.2.2.1; omega)
        refine ⟨s, bk_w c 0 0 0, .inl (some (.int x)), x, ?_, ?_, .inl ⟨rfl, bk_w_same _ _ _ _⟩, RF⟩
        · have b1 : x8_peopleOn N s (X + 16) (nI k) = some (s, x) := by
            unfold x8_peopleOn; rw [if_pos (ly_X7_l2 (ly_X11_l3 R.1.1))]; exact a1
          unfold x11_cell
          rw [if_pos R.1.1, m1, if_neg (by decide), if_neg (by decide), if_neg (by decide), if_neg (by decide), if_pos (by decide), b1]
          rfl
        · have b2 : md_peopleOn N (bk_w c 0 0 0) (nI k) = some (bk_w c 0 0 0, x) := a2
          have z3 : (nI 3 = (3 : Int32)) = True := eq_true rfl
          simp only [md_cell, zq_letP, m2, th_r, th_c0, hin', z3, d10, d00, true_or, ↓reduceIte, b2, zq_bindP]
      · have v0 : (45 + 3 * nI k) + nI p = nI (45 + 3 * k + p) := md_ofN hk (by omega)
        have inb : ky_inB ((45 + 3 * nI k) + nI p) 2247 = true := by rw [v0]; exact zq_inBt (by omega) (by decide)
        have of2 : md_of_r (bk_w c 0 0 0) (nI k) (nI p) = nI (W (45 + 3 * k + p)) := by
          unfold md_of_r; rw [v0, zq_cl (by omega)]; exact wv_n R0.1 (by omega) (by omega)
        have z3 : (nI p = (3 : Int32)) = False := eq_false (by show ¬ nI p = nI 3; rw [zq_eq (by omega) (by decide)]; exact h3)
        refine ⟨s, bk_w c 0 0 0, .inl (some (.int (nI (W (45 + 3 * k + p))))), nI (W (45 + 3 * k + p)), ?_, ?_, .inl ⟨rfl, bk_w_same _ _ _ _⟩, RF⟩
        · unfold x11_cell
          rw [if_pos R.1.1, m1, if_neg (by decide)]
          have : p = 0 ∨ p = 1 ∨ p = 2 := by omega
          rcases this with rfl | rfl | rfl
          · rw [if_pos (by decide), if_pos (zq_inBt (by omega) (by decide)), zq_cl (by omega)]
            have e : sk_c s (X + 17) k = nI (W (45 + 3 * k + 0)) := d1
            rw [e]
          · have e : sh_has (sk_g s (X + 16) 3) (nI k) = nI (W (46 + 3 * k)) := d2
            rw [if_neg (by decide), if_pos (by decide), e, show 45 + 3 * k + 1 = 46 + 3 * k by omega]
            have : W (46 + 3 * k) = 0 ∨ W (46 + 3 * k) = 1 := by omega
            rcases this with h | h
            · rw [h, if_pos (by decide)]; rfl
            · rw [h, if_neg (by decide)]; rfl
          · have e : sh_has (sk_g s (X + 16) 4) (nI k) = nI (W (47 + 3 * k)) := d3
            rw [if_neg (by decide), if_neg (by decide), if_pos (by decide), e, show 45 + 3 * k + 2 = 47 + 3 * k by omega]
            have : W (47 + 3 * k) = 0 ∨ W (47 + 3 * k) = 1 := by omega
            rcases this with h | h
            · rw [h, if_pos (by decide)]; rfl
            · rw [h, if_neg (by decide)]; rfl
        · simp only [md_cell, zq_letP, m2, th_r, th_c0, hin', z3, d10, d00, true_or, ↓reduceIte, inb, of2]
    · have hin' : md_in p2 0 3 = 0 := hin
      have ne : ∀ i : Nat, i ≤ 3 → ¬ p2 = nI i := fun i hi q => by
        subst q
        have : md_in (nI i) (nI 0) (nI 3) = 1 := by
          unfold md_in
          rw [if_neg (by rw [zq_lt (by omega) (by decide)]; omega), if_neg (by rw [zq_lt (by decide) (by omega)]; omega)]
        rw [this] at hin
        exact absurd hin (by decide)
      refine ⟨sk_rs s 6, bk_w (bk_w c 0 0 0) 0 0 2, .inr "java/util/NoSuchElementException", 0, ?_, ?_, .inr (.inr ⟨rfl, bk_w_same _ _ _ _⟩), RR_thr hj Z R Rw (thr_ceq 2)⟩
      · unfold x11_cell
        rw [if_pos R.1.1, m1, if_neg (by decide), if_neg (show ¬ p2 = 0 from ne 0 (by decide)), if_neg (show ¬ p2 = 1 from ne 1 (by decide)), if_neg (show ¬ p2 = 2 from ne 2 (by decide)), if_neg (show ¬ p2 = 3 from ne 3 (by decide))]
      · simp only [md_cell, zq_letP, m2, th_r, th_c0, th_c1, hin', d10, d00, d11, true_or, ↓reduceIte]
  · refine ⟨sk_rs s 6, bk_w (bk_w c 0 0 0) 0 0 1, .inr "java/lang/IndexOutOfBoundsException", 0, ?_, ?_, .inr (.inl ⟨rfl, bk_w_same _ _ _ _⟩), RR_thr hj Z R Rw (thr_ceq 1)⟩
    · unfold x11_cell
      rw [if_pos R.1.1, m1, if_pos rfl]
    · simp only [md_cell, zq_letP, m2, th_r, th_c1, d10, d11, or_true, ↓reduceIte]
end
