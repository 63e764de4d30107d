/-! THE SHORE AS SETS: signs, sinking, holes, rope -/
section
variable {N X j : Nat} {s s' : sk_S} {c c' c0 : Nat → Nat → Int32} {W W' W0 : Nat → Nat} {sd sd' sd0 : Int32} {m m' : lwM} {sb : Nat} {k : Nat}
theorem beL_loop {a : Nat} {p : Int32} {kC : sk_S → Int32 → Int64 → Int32 → Option (sk_S × Int64)} : ∀ (r i fuel : Nat) (b : Int64), i + r = 64 → r < fuel → ∃ v, x8_bearing_L5 N a kC fuel s p b (nI i) = kC s p v (nI 64) ∧ ∀ q, q < 64 → hb v q = (hb b q || (decide (i ≤ q) && decide (¬ sk_c s (a + 1) q < p))) := by
  intro r
  induction r with
  | zero =>
    intro i fuel b h1 h2
    obtain ⟨fuel, rfl⟩ : ∃ q, fuel = q + 1 := ⟨fuel - 1, by omega⟩
    obtain rfl : i = 64 := by omega
    refine ⟨b, ?_, fun q hq => ?_⟩
    · simp only [x8_bearing_L5]; rw [if_pos (by decide)]
    · rw [decide_eq_false (show ¬ 64 ≤ q by omega), Bool.false_and, Bool.or_false]
  | succ r ih =>
    intro i fuel b h1 h2
    obtain ⟨fuel, rfl⟩ : ∃ q, fuel = q + 1 := ⟨fuel - 1, by omega⟩
    have nle : ¬ (64 : Int32) ≤ nI i := by show ¬ nI 64 ≤ nI i; rw [zq_le (by decide) (by omega)]; omega
    by_cases h : sk_c s (a + 1) i < p
    · obtain ⟨v, i1, i2⟩ := ih (i + 1) fuel b (by omega) (by omega)
      refine ⟨v, ?_, fun q hq => ?_⟩
      · simp only [x8_bearing_L5, zq_letP]
        rw [if_neg nle, if_pos (zq_inBt (by omega) (by decide)), zq_cl (by omega), if_pos h, nI_1]
        exact i1
      · rw [i2 q hq]
        congr 1
        by_cases e : q = i
        · subst e
          rw [decide_eq_false (show ¬ q + 1 ≤ q by omega), decide_eq_false (not_not_intro h)]; simp
        · rw [show decide (i + 1 ≤ q) = decide (i ≤ q) from decide_eq_decide.mpr (by omega)]
    · obtain ⟨v, i1, i2⟩ := ih (i + 1) fuel (b ||| (1 <<< (Int32.toInt64 (nI i) &&& 63))) (by omega) (by omega)
      refine ⟨v, ?_, fun q hq => ?_⟩
      · simp only [x8_bearing_L5, zq_letP]
        rw [if_neg nle, if_pos (zq_inBt (by omega) (by decide)), zq_cl (by omega), if_neg h, nI_1]
        exact i1
      · rw [i2 q hq, hb_or, hb_one (by omega), Bool.or_assoc]
        congr 1
        by_cases e : q = i
        · subst e
          rw [decide_eq_true (show q ≤ q by omega), decide_eq_true h]; simp
        · rw [decide_eq_false e, show decide (i + 1 ≤ q) = decide (i ≤ q) from decide_eq_decide.mpr (by omega), Bool.false_or]
theorem be_ok {a : Nat} (hN : 100 ≤ N) (l : lay_X8 (sk_K s) (sk_r s) a = true) (p : Int32) : ∃ v, x8_bearing N s a p = some (s, v) ∧ ∀ q, q < 64 → hb v q = decide (¬ sk_c s (a + 1) q < p) := by
  obtain ⟨v, h1, h2⟩ := beL_loop (N := N) (s := s) (a := a) (p := p) (kC := fun q2 x3 x4 x5 => (some (q2, x4))) 64 0 N 0 (by omega) (by omega)
  refine ⟨v, ?_, fun q hq => ?_⟩
  · unfold x8_bearing
    rw [if_pos l]
    exact h1
  · rw [h2 q hq, hb_0, decide_eq_true (Nat.zero_le q), Bool.true_and, Bool.false_or]
theorem R_l8 (R : R_now X s c W sd m) : lay_X8 (sk_K s) (sk_r s) (X + 16) = true := ly_X7_l2 (ly_X11_l3 R.1)
theorem R_be (R : R_now X s c W sd m) {q : Nat} (hq : q < 64) : sk_c s (X + 16 + 1) q = nI (W (45 + 3 * q)) := (R.2.2.1.2.2.2.2.1 q hq).1
theorem R_b9 (R : R_now X s c W sd m) {q : Nat} (hq : q < 64) : W (45 + 3 * q) ≤ 9 := (R.2.2.1.2.1.2.2.1 q hq).1
theorem be_R (hN : 100 ≤ N) (R : R_now X s c W sd m) {w : Nat} (hw : w ≤ 100) : ∃ v, x8_bearing N s (X + 16) (nI w) = some (s, v) ∧ ∀ q, q < 64 → hb v q = decide (w ≤ W (45 + 3 * q)) := by
  obtain ⟨v, h1, h2⟩ := be_ok (N := N) hN (R_l8 R) (nI w)
  refine ⟨v, h1, fun q hq => ?_⟩
  have := R_b9 R hq
  rw [h2 q hq, R_be R hq]
  exact decide_eq_decide.mpr (by rw [zq_lt (by omega) (by omega)]; omega)
theorem hbW {x : Int64} {q v : Nat} (hq : q < 64) (hv : v ≤ 1) (h : sh_has x (nI q) = nI v) : hb x q = decide (v = 1) := by
  rw [hb_has x hq] at h
  have : v = 0 ∨ v = 1 := by omega
  rcases this with rfl | rfl
  · cases hx : hb x q with
    | false => rfl
    | true => rw [hx, if_pos rfl] at h; exact absurd h (by decide)
  · cases hx : hb x q with
    | false => rw [hx, if_neg (by decide)] at h; exact absurd h (by decide)
    | true => rfl
/-! signs -/
def sgA (W : Nat → Nat) (q i : Nat) : Bool := decide (W (46 + 3 * i) = 1 - q ∧ W (47 + 3 * i) = q)
def sgB (W : Nat → Nat) (q w i : Nat) : Bool := sgA W q i && decide ((w ≤ W (45 + 3 * i)) ↔ q = 0)
theorem of_R (Rc : rwd c W sd m) {i k : Nat} (hi : i < 64) (hk : k < 3) : md_of_r c (nI i) (nI k) = nI (W (45 + 3 * i + k)) ∧ ky_inB ((45 + 3 * nI i) + nI k) 2247 = true := by
  have v0 : (45 + 3 * nI i) + nI k = nI (45 + 3 * i + k) := md_ofN (by omega) hk
  refine ⟨?_, by rw [v0]; exact zq_inBt (by omega) (by decide)⟩
  unfold md_of_r
  rw [v0, zq_cl (by omega)]
  exact wv_n Rc.1 (by omega) (by omega)
theorem sg_loop (Rc : rwd c W sd m) {w q : Nat} {p2 : Int32} (hw9 : w ≤ 9) (hq : (p2 = 0 ∧ q = 0) ∨ (p2 = 1 ∧ q = 1)) {kR : (Nat → Nat → Int32) → Int32 → Int32 → Int32 → Int32 → Int32 → Option ((Nat → Nat → Int32) × Int32)} : ∀ (r i fuel : Nat), i + r = 64 → r < fuel → md_signs_L27 N kR fuel c (nI w) p2 (nI (fb_ct (sgA W q) i)) (nI (fb_ct (sgB W q w) i)) (nI i) = kR c (nI w) p2 (nI (fb_ct (sgA W q) 64)) (nI (fb_ct (sgB W q w) 64)) (nI 64) := by
  have hw := Rc.2.1
  intro r
  induction r with
  | zero =>
    intro i fuel h1 h2
    obtain ⟨fuel, rfl⟩ : ∃ q, fuel = q + 1 := ⟨fuel - 1, by omega⟩
    obtain rfl : i = 64 := by omega
    simp only [md_signs_L27]; rw [if_pos (by decide)]
  | succ r ih =>
    intro i fuel h1 h2
    obtain ⟨fuel, rfl⟩ : ∃ q, fuel = q + 1 := ⟨fuel - 1, by omega⟩
    have nle : ((64 : Int32) ≤ nI i) = False := eq_false (by show ¬ nI 64 ≤ nI i; rw [zq_le (by decide) (by omega)]; omega)
    have ih' := ih (i + 1) fuel (by omega) (by omega)
    obtain ⟨b0, b1, b2⟩ := hw.2.2.1 i (by omega)
    have o0 : md_of_r c (nI i) 0 = nI (W (45 + 3 * i)) := (of_R Rc (k := 0) (by omega) (by decide)).1
    have o1 : md_of_r c (nI i) 1 = nI (W (46 + 3 * i)) := by
      rw [show 46 + 3 * i = 45 + 3 * i + 1 by omega]; exact (of_R Rc (k := 1) (by omega) (by decide)).1
    have o2 : md_of_r c (nI i) 2 = nI (W (47 + 3 * i)) := by
      rw [show 47 + 3 * i = 45 + 3 * i + 2 by omega]; exact (of_R Rc (k := 2) (by omega) (by decide)).1
    have n0 : ky_inB ((45 + 3 * nI i) + 0) 2247 = true := (of_R Rc (k := 0) (by omega) (by decide)).2
    have n1 : ky_inB ((45 + 3 * nI i) + 1) 2247 = true := (of_R Rc (k := 1) (by omega) (by decide)).2
    have n2 : ky_inB ((45 + 3 * nI i) + 2) 2247 = true := (of_R Rc (k := 2) (by omega) (by decide)).2
    have l0 : (nI (W (45 + 3 * i)) < nI w) = (W (45 + 3 * i) < w) := zq_lt (by omega) (by omega)
    have z00 : nI 0 = (0 : Int32) := rfl
    have z11 : nI 1 = (1 : Int32) := rfl
    rw [fb_ct_succ, fb_ct_succ] at ih'
    have h46 : W (46 + 3 * i) = 0 ∨ W (46 + 3 * i) = 1 := by omega
    have h47 : W (47 + 3 * i) = 0 ∨ W (47 + 3 * i) = 1 := by omega
    have fin : ∀ (x y : Nat), fb_ct (sgA W q) i + (if sgA W q i = true then 1 else 0) = x → fb_ct (sgB W q w) i + (if sgB W q w i = true then 1 else 0) = y → md_signs_L27 N kR fuel c (nI w) p2 (nI x) (nI y) (nI (i + 1)) = kR c (nI w) p2 (nI (fb_ct (sgA W q) 64)) (nI (fb_ct (sgB W q w) 64)) (nI 64) := fun x y ha hb' => by
      rw [← ha, ← hb']; exact ih'
    clear ih' ih
    rw [Int32.add_zero] at n0
    generalize fb_ct (sgA W q) i = fa at *
    generalize fb_ct (sgB W q w) i = fb at *
    rcases hq with ⟨rfl, rfl⟩ | ⟨rfl, rfl⟩ <;> rcases h46 with h46 | h46 <;> rcases h47 with h47 | h47 <;> by_cases hlt : W (45 + 3 * i) < w
    all_goals
      rw [h46] at o1
      rw [h47] at o2
      simp only [hlt] at l0
      simp only [md_signs_L27, zq_letP, nle, n0, n1, n2, o0, o1, o2, l0, z00, z11, d00, d10, d01, d11, ↓reduceIte, nI_1, Int32.add_zero]
      refine fin _ _ ?_ ?_ <;> simp [sgA, sgB, h46, h47] <;> omega
theorem sg_cls (hN : 100 ≤ N) (R : R_now X s c W sd m) {w : Nat} (hw9 : w ≤ 9) : (x8_heapTells N s (X + 16) (nI w) = some (s, if nI (fb_ct (sgA W 0) 64) = 0 then 0 else 100 * nI (fb_ct (sgB W 0 w) 64) / nI (fb_ct (sgA W 0) 64))) ∧ x8_shineTells N s (X + 16) (nI w) = some (s, if nI (fb_ct (sgA W 1) 64) = 0 then 0 else 100 * nI (fb_ct (sgB W 1 w) 64) / nI (fb_ct (sgA W 1) 64)) := by
  obtain ⟨v, v1, v2⟩ := be_R (N := N) hN R (w := w) (by omega)
  have hw := R.2.2.1.2.1
  have h3 : ∀ q, q < 64 → hb (sk_g s (X + 16) 3) q = decide (W (46 + 3 * q) = 1) := fun q hq => hbW hq (hw.2.2.1 q hq).2.1 (R.2.2.1.2.2.2.2.1 q hq).2.1
  have h4 : ∀ q, q < 64 → hb (sk_g s (X + 16) 4) q = decide (W (47 + 3 * q) = 1) := fun q hq => hbW hq (hw.2.2.1 q hq).2.2 (R.2.2.1.2.2.2.2.1 q hq).2.2
  have hun : ∀ (x y : Int64) (A B : Nat), jl_bitCount y = nI A → jl_bitCount x = nI B → x8_hundredths N s x y = some (s, if nI A = 0 then 0 else 100 * nI B / nI A) := fun x y A B e1 e2 => by
    unfold x8_hundredths
    simp only [zq_letP]
    rw [e1, e2]
    by_cases h : nI A = 0
    · rw [if_pos h, if_pos h]
    · rw [if_neg h, if_pos h, if_neg h]
  constructor
  · unfold x8_heapTells
    rw [if_pos (R_l8 R)]
    simp only [zq_letP]
    rw [v1]
    simp only [zq_bindP]
    rw [hun _ _ (fb_ct (sgA W 0) 64) (fb_ct (sgB W 0 w) 64)]
    · rfl
    · rw [bc_ok]
      congr 1
      refine fb_ct_cong (fun q hq => ?_)
      have := hw.2.2.1 q hq
      rw [hb_and, hb_not _ hq, h3 q hq, h4 q hq]
      unfold sgA
      rw [← decide_not, ← Bool.decide_and]
      exact decide_eq_decide.mpr (by omega)
    · rw [bc_ok]
      congr 1
      refine fb_ct_cong (fun q hq => ?_)
      have := hw.2.2.1 q hq
      rw [hb_and, hb_and, hb_not _ hq, h3 q hq, h4 q hq, v2 q hq]
      unfold sgB sgA
      rw [← decide_not, ← Bool.decide_and, ← Bool.decide_and, ← Bool.decide_and]
      exact decide_eq_decide.mpr (by omega)
  · unfold x8_shineTells
    rw [if_pos (R_l8 R)]
    simp only [zq_letP]
    rw [v1]
    simp only [zq_bindP]
    rw [hun _ _ (fb_ct (sgA W 1) 64) (fb_ct (sgB W 1 w) 64)]
    · rfl
    · rw [bc_ok]
      congr 1
      refine fb_ct_cong (fun q hq => ?_)
      have := hw.2.2.1 q hq
      rw [hb_and, hb_not _ hq, h3 q hq, h4 q hq]
      unfold sgA
      rw [← decide_not, ← Bool.decide_and]
      exact decide_eq_decide.mpr (by omega)
    · rw [bc_ok]
      congr 1
      refine fb_ct_cong (fun q hq => ?_)
      have := hw.2.2.1 q hq
      rw [hb_and, hb_and, hb_not _ hq, hb_not _ hq, h3 q hq, h4 q hq, v2 q hq]
      unfold sgB sgA
      rw [← decide_not, ← decide_not, ← Bool.decide_and, ← Bool.decide_and, ← Bool.decide_and]
      exact decide_eq_decide.mpr (by omega)
set_option maxRecDepth 20000 in
theorem sm_signs_ok (hN : 2000000000 ≤ N) : sm_signs X N (RR X) := by
  intro j s c hj ⟨_, Z, W, sd, m, R, Rw⟩ p1 p2 hp2
  have R0 := rwd_0 R
  rcases weightC p1 with ⟨w, _, hw, rfl, m1, m2⟩ | ⟨m1, m2⟩
  · obtain ⟨g1, g2⟩ := sg_cls (N := N) (by omega) R.1 hw
    have RF := RR_siz hj Z (s' := s) ⟨rfl, rfl, rfl⟩ (RA_c R ceq_0) Rw
    have key : ∀ q, ((p2 = 0 ∧ q = 0) ∨ (p2 = 1 ∧ q = 1)) → md_signs N c (nI w) p2 = some (bk_w c 0 0 0, if nI (fb_ct (sgA W q) 64) = 0 then 0 else 100 * nI (fb_ct (sgB W q w) 64) / nI (fb_ct (sgA W q) 64)) := fun q hq => by
      have a := sg_loop (N := N) (kR := fun q9 x10 x11 x12 x13 x14 => (if x12 = 0 then (some (q9, 0)) else (if ¬ x12 = 0 then (some (q9, ((100 * x13) / x12))) else none))) R0 hw hq 64 0 N (by omega) (by omega)
      have a' : md_signs_L27 N (fun q9 x10 x11 x12 x13 x14 => (if x12 = 0 then (some (q9, 0)) else (if ¬ x12 = 0 then (some (q9, ((100 * x13) / x12))) else none))) N (bk_w c 0 0 0) (nI w) p2 0 0 0 = _ := a
      have e : md_signs N c (nI w) p2 = md_signs_L27 N (fun q9 x10 x11 x12 x13 x14 => (if x12 = 0 then (some (q9, 0)) else (if ¬ x12 = 0 then (some (q9, ((100 * x13) / x12))) else none))) N (bk_w c 0 0 0) (nI w) p2 0 0 0 := by
        simp only [md_signs, zq_letP, m2, th_r, th_c0, d00, true_or, ↓reduceIte]
      rw [e, a']
      by_cases h : nI (fb_ct (sgA W q) 64) = 0
      · rw [if_pos h, if_pos h]
      · rw [if_neg h, if_pos h, if_neg h]
    rcases hp2 with rfl | rfl
    · refine ⟨s, bk_w c 0 0 0, .inl (some (.int _)), _, ?_, key 0 (.inl ⟨rfl, rfl⟩), .inl ⟨rfl, bk_w_same _ _ _ _⟩, RF⟩
      unfold x11_signs
      rw [if_pos R.1.1, m1, if_neg (by decide), if_pos rfl, g1]
      rfl
    · refine ⟨s, bk_w c 0 0 0, .inl (some (.int _)), _, ?_, key 1 (.inr ⟨rfl, rfl⟩), .inl ⟨rfl, bk_w_same _ _ _ _⟩, RF⟩
      unfold x11_signs
      rw [if_pos R.1.1, m1, if_neg (by decide), if_neg (by decide), g2]
      rfl
  · refine ⟨sk_rs s 6, bk_w (bk_w c 0 0 0) 0 0 1, .inr "java/lang/IllegalArgumentException", 0, ?_, ?_, .inr ⟨rfl, bk_w_same _ _ _ _⟩, RR_thr hj Z R Rw (thr_ceq 1)⟩
    · unfold x11_signs
      rw [if_pos R.1.1, m1, if_pos rfl]
    · simp only [md_signs, zq_letP, m2, th_r, th_c1, d10, d11, or_true, ↓reduceIte]
/-! holes -/
theorem ho_num : ∀ a, a < 10 → ∀ b, b < 10 → ∀ d, d < 10 → ((nI a - nI b = nI d) ↔ (a = b + d)) ∧ ((nI a = nI b + nI d) ↔ (a = b + d)) := by decide +kernel
theorem pp_R (Rc : rwd c W sd m) {i k : Nat} (hi : i < 6) (hk : k < 2) : md_ofPerson_r c (nI i) (nI k) = nI (W (237 + 2 * i + k)) ∧ ky_inB ((237 + 2 * nI i) + nI k) 2247 = true := by
  have v0 : (237 + 2 * nI i) + nI k = nI (237 + 2 * i + k) := by
    rw [show (2 : Int32) * nI i = nI (2 * i) from pk_mul 2 _, show (237 : Int32) + nI (2 * i) = nI (237 + 2 * i) from nI_add 237 _, nI_add]
  refine ⟨?_, by rw [v0]; exact zq_inBt (by omega) (by decide)⟩
  unfold md_ofPerson_r
  rw [v0, zq_cl (by omega)]
  exact wv_n Rc.1 (by omega) (by omega)
theorem ho_loop (R : R_now X s c0 W sd m) (Rc : rwd c W sd m) (hk : k ≤ 63) {d : Nat} (hd : d ≤ 9) {kC : sk_S → Int32 → Int32 → Int32 → Int32 → Option (sk_S × Int32)} {kR : (Nat → Nat → Int32) → Int32 → Int32 → Int32 → Int32 → Option ((Nat → Nat → Int32) × Int32)} : ∀ (r i fuel fuel' : Nat) (b : Int32), i + r = W 12 → r < fuel → r < fuel' → ∃ x, x8_heavierBy_L5 N (X + 16) kC fuel s (nI k) (nI d) b (nI i) = kC s (nI k) (nI d) x (nI (W 12)) ∧ md_holes_L47 N kR fuel' c (nI k) (nI d) b (nI i) = kR c (nI k) (nI d) x (nI (W 12)) := by
  have hw := Rc.2.1
  have w12 := hw.1.2.2.2.2.2.2.2.2.2.2.2.2.1
  have s6 : sk_c s (X + 16) 6 = nI (W 12) := R.2.2.1.2.2.2.2.2.1.2.1
  have c12 : md_people_r c = nI (W 12) := wv_n Rc.1 (k := 12) (by decide) (by decide)
  intro r
  induction r with
  | zero =>
    intro i fuel fuel' b h1 h2 h3
    obtain ⟨fuel, rfl⟩ : ∃ q, fuel = q + 1 := ⟨fuel - 1, by omega⟩
    obtain ⟨fuel', rfl⟩ : ∃ q, fuel' = q + 1 := ⟨fuel' - 1, by omega⟩
    obtain rfl : i = W 12 := by omega
    refine ⟨b, ?_, ?_⟩
    · simp only [x8_heavierBy_L5]; rw [s6, if_pos (by rw [zq_le (by omega) (by omega)]; omega)]
    · simp only [md_holes_L47]; rw [c12, if_pos (by rw [zq_le (by omega) (by omega)]; omega)]
  | succ r ih =>
    intro i fuel fuel' b h1 h2 h3
    obtain ⟨fuel, rfl⟩ : ∃ q, fuel = q + 1 := ⟨fuel - 1, by omega⟩
    obtain ⟨fuel', rfl⟩ : ∃ q, fuel' = q + 1 := ⟨fuel' - 1, by omega⟩
    have nle : ¬ nI (W 12) ≤ nI i := by rw [zq_le (by omega) (by omega)]; omega
    have s18 : sk_c s (X + 16 + 2) i = nI (W (237 + 2 * i)) := (R.2.2.1.2.2.2.2.2.2.1 i (by omega)).1
    have hp9 := (hw.2.2.2.1 i (by omega)).1
    have hb9 := (hw.2.2.1 k (by omega)).1
    have o1 : md_ofPerson_r c (nI i) 0 = nI (W (237 + 2 * i)) := (pp_R Rc (k := 0) (by omega) (by decide)).1
    have n1 : ky_inB ((237 + 2 * nI i) + 0) 2247 = true := (pp_R Rc (k := 0) (by omega) (by decide)).2
    have o2 : md_of_r c (nI k) 0 = nI (W (45 + 3 * k)) := (of_R Rc (k := 0) (by omega) (by decide)).1
    have n2 : ky_inB ((45 + 3 * nI k) + 0) 2247 = true := (of_R Rc (k := 0) (by omega) (by decide)).2
    obtain ⟨e1, e2⟩ := ho_num (W (237 + 2 * i)) (by omega) (W (45 + 3 * k)) (by omega) d (by omega)
    by_cases h : W (237 + 2 * i) = W (45 + 3 * k) + d
    · obtain ⟨x, i1, i2⟩ := ih (i + 1) fuel fuel' (b ||| ((1 : Int32) <<< (nI i &&& 31))) (by omega) (by omega) (by omega)
      refine ⟨x, ?_, ?_⟩
      · simp only [x8_heavierBy_L5, zq_letP]
        rw [s6, if_neg nle, if_pos (zq_inBt (by omega) (by decide)), if_pos (zq_inBt (by omega) (by decide)), zq_cl (by omega), zq_cl (by omega), s18, R_be R (by omega), if_pos (e1.mpr h), nI_1]
        exact i1
      · simp only [md_holes_L47, zq_letP]
        rw [c12, if_neg nle, if_pos n1, if_pos n2, o1, o2, if_pos (e2.mpr h), nI_1]
        exact i2
    · obtain ⟨x, i1, i2⟩ := ih (i + 1) fuel fuel' b (by omega) (by omega) (by omega)
      refine ⟨x, ?_, ?_⟩
      · simp only [x8_heavierBy_L5, zq_letP]
        rw [s6, if_neg nle, if_pos (zq_inBt (by omega) (by decide)), if_pos (zq_inBt (by omega) (by decide)), zq_cl (by omega), zq_cl (by omega), s18, R_be R (by omega), if_neg (fun q => h (e1.mp q)), nI_1]
        exact i1
      · simp only [md_holes_L47, zq_letP]
        rw [c12, if_neg nle, if_pos n1, if_pos n2, o1, o2, if_neg (fun q => h (e2.mp q)), nI_1, Int32.or_zero]
        exact i2
set_option maxRecDepth 20000 in
theorem sm_holes_ok (hN : 2000000000 ≤ N) : sm_holes X N (RR X) := by
  intro j s c hj ⟨_, Z, W, sd, m, R, Rw⟩ p1 p2
  have R0 := rwd_0 R
  have hw := wd_of R
  rcases cellC p1 with ⟨k, hk, rfl, m1, m2⟩ | ⟨m1, m2⟩
  · rcases rngC 1 9 (by decide) (by decide) p2 with ⟨d, hd1, hd, rfl, hin⟩ | ⟨hin, hout⟩
    · have hin' : md_in (nI d) 1 9 = 1 := hin
      have RF := RR_siz hj Z (s' := s) ⟨rfl, rfl, rfl⟩ (RA_c R ceq_0) Rw
      obtain ⟨x, a1, a2⟩ := ho_loop (N := N) (kC := fun q2 x3 x4 x5 x6 => (some (q2, x5))) (kR := fun q14 x15 x16 x17 x18 => (some (q14, x17))) R.1 R0 hk hd (W 12) 0 N N 0 (by omega) (by have := hw.1.2.2.2.2.2.2.2.2.2.2.2.2.1; omega) (by have := hw.1.2.2.2.2.2.2.2.2.2.2.2.2.1; omega)
      refine ⟨s, bk_w c 0 0 0, .inl (some (.int x)), x, ?_, ?_, .inl ⟨rfl, bk_w_same _ _ _ _⟩, RF⟩
      · have b1 : x8_heavierBy N s (X + 16) (nI k) (nI d) = some (s, x) := by
          unfold x8_heavierBy; rw [if_pos (R_l8 R.1)]; exact a1
        unfold x11_holes
        rw [if_pos R.1.1, m1, if_neg (by decide), if_neg (by show ¬ nI d < nI 1; rw [zq_lt (by omega) (by decide)]; omega), if_pos (by show nI d ≤ nI 9; rw [zq_le (by omega) (by decide)]; omega), b1]
        rfl
      · have b2 : md_holes_L47 N (fun q14 x15 x16 x17 x18 => (some (q14, x17))) N (bk_w c 0 0 0) (nI k) (nI d) 0 0 = some (bk_w c 0 0 0, x) := a2
        simp only [md_holes, zq_letP, m2, th_r, th_c0, hin', d10, d00, true_or, ↓reduceIte, b2]
    · have hin' : md_in p2 1 9 = 0 := hin
      refine ⟨sk_rs s 6, bk_w (bk_w c 0 0 0) 0 0 2, .inr "java/lang/IllegalArgumentException", 0, ?_, ?_, .inr (.inr ⟨rfl, bk_w_same _ _ _ _⟩), RR_thr hj Z R Rw (thr_ceq 2)⟩
      · unfold x11_holes
        rw [if_pos R.1.1, m1, if_neg (by decide)]
        rcases hout with h | ⟨h1, h2⟩
        · rw [if_pos (show p2 < 1 from h)]
        · rw [if_neg (show ¬ p2 < 1 from h1), if_neg (show ¬ p2 ≤ 9 from fun q => absurd h2 (by rw [fa_lt]; rw [fa_le] at q; have : (nI 9).toInt = (9 : Int32).toInt := rfl; omega))]
      · simp only [md_holes, zq_letP, m2, th_r, th_c0, th_c1, hin', d10, d00, d11, true_or, ↓reduceIte]
  · refine ⟨sk_rs s 6, bk_w (bk_w c 0 0 0) 0 0 1, .inr "java/lang/IndexOutOfBoundsException", 0, ?_, ?_, .inr (.inl ⟨rfl, bk_w_same _ _ _ _⟩), RR_thr hj Z R Rw (thr_ceq 1)⟩
    · unfold x11_holes
      rw [if_pos R.1.1, m1, if_pos rfl]
    · simp only [md_holes, zq_letP, m2, th_r, th_c1, d10, d11, or_true, ↓reduceIte]
/-! sinking -/
def ldn (W : Nat → Nat) (k p : Nat) : Nat := if W (238 + 2 * p) = k then W (237 + 2 * p) else 0
theorem la_loop (R : R_now X s c0 W sd m) (Rc : rwd c W sd m) (hk : k ≤ 63) {kC : sk_S → Int32 → Int32 → Int32 → Option (sk_S × Int32)} {kR : (Nat → Nat → Int32) → Int32 → Int32 → Int32 → Option ((Nat → Nat → Int32) × Int32)} : ∀ (r i fuel fuel' : Nat), i + r = W 12 → r < fuel → r < fuel' → x8_laden_L4 N (X + 16) kC fuel s (nI k) (nI (fb_sm (ldn W k) i)) (nI i) = kC s (nI k) (nI (fb_sm (ldn W k) (W 12))) (nI (W 12)) ∧ md_weightOn_L4 N kR fuel' c (nI k) (nI (fb_sm (ldn W k) i)) (nI i) = kR c (nI k) (nI (fb_sm (ldn W k) (W 12))) (nI (W 12)) := by
  have hw := Rc.2.1
  have w12 := hw.1.2.2.2.2.2.2.2.2.2.2.2.2.1
  have s6 : sk_c s (X + 16) 6 = nI (W 12) := R.2.2.1.2.2.2.2.2.1.2.1
  have c12 : md_people_r c = nI (W 12) := wv_n Rc.1 (k := 12) (by decide) (by decide)
  intro r
  induction r with
  | zero =>
    intro i fuel fuel' h1 h2 h3
    obtain ⟨fuel, rfl⟩ : ∃ q, fuel = q + 1 := ⟨fuel - 1, by omega⟩
    obtain ⟨fuel', rfl⟩ : ∃ q, fuel' = q + 1 := ⟨fuel' - 1, by omega⟩
    obtain rfl : i = W 12 := by omega
    refine ⟨?_, ?_⟩
    · simp only [x8_laden_L4]; rw [s6, if_pos (by rw [zq_le (by omega) (by omega)]; omega)]
    · simp only [md_weightOn_L4]; rw [c12, if_pos (by rw [zq_le (by omega) (by omega)]; omega)]
  | succ r ih =>
    intro i fuel fuel' h1 h2 h3
    obtain ⟨fuel, rfl⟩ : ∃ q, fuel = q + 1 := ⟨fuel - 1, by omega⟩
    obtain ⟨fuel', rfl⟩ : ∃ q, fuel' = q + 1 := ⟨fuel' - 1, by omega⟩
    have nle : ¬ nI (W 12) ≤ nI i := by rw [zq_le (by omega) (by omega)]; omega
    have s18 : sk_c s (X + 16 + 2) i = nI (W (237 + 2 * i)) := (R.2.2.1.2.2.2.2.2.2.1 i (by omega)).1
    have s19 : sk_c s (X + 16 + 3) i = nI (W (238 + 2 * i)) := (R.2.2.1.2.2.2.2.2.2.1 i (by omega)).2
    have hp := hw.2.2.2.1 i (by omega)
    have o0 : md_ofPerson_r c (nI i) 0 = nI (W (237 + 2 * i)) := (pp_R Rc (k := 0) (by omega) (by decide)).1
    have n0 : ky_inB ((237 + 2 * nI i) + 0) 2247 = true := (pp_R Rc (k := 0) (by omega) (by decide)).2
    have o1 : md_ofPerson_r c (nI i) 1 = nI (W (238 + 2 * i)) := by
      rw [show 238 + 2 * i = 237 + 2 * i + 1 by omega]; exact (pp_R Rc (k := 1) (by omega) (by decide)).1
    have n1 : ky_inB ((237 + 2 * nI i) + 1) 2247 = true := (pp_R Rc (k := 1) (by omega) (by decide)).2
    have ze : (nI (W (238 + 2 * i)) = nI k) = (W (238 + 2 * i) = k) := zq_eq (by omega) (by omega)
    obtain ⟨i1, i2⟩ := ih (i + 1) fuel fuel' (by omega) (by omega) (by omega)
    rw [fb_sm_succ] at i1 i2
    by_cases h : W (238 + 2 * i) = k
    · have e : ldn W k i = W (237 + 2 * i) := by unfold ldn; rw [if_pos h]
      rw [e] at i1 i2
      refine ⟨?_, ?_⟩
      · simp only [x8_laden_L4, zq_letP]
        rw [s6, if_neg nle, if_pos (zq_inBt (by omega) (by decide)), zq_cl (by omega), s18, s19, if_pos (by rw [ze]; exact h), nI_1, nI_add]
        exact i1
      · simp only [md_weightOn_L4, zq_letP]
        rw [c12, if_neg nle, if_pos n1, o1, if_pos (by rw [ze]; exact h), if_pos n0, o0, nI_1, nI_add]
        exact i2
    · have e : ldn W k i = 0 := by unfold ldn; rw [if_neg h]
      rw [e, Nat.add_zero] at i1 i2
      refine ⟨?_, ?_⟩
      · simp only [x8_laden_L4, zq_letP]
        rw [s6, if_neg nle, if_pos (zq_inBt (by omega) (by decide)), zq_cl (by omega), s19, if_neg (by rw [ze]; exact h), nI_1]
        exact i1
      · simp only [md_weightOn_L4, zq_letP]
        rw [c12, if_neg nle, if_pos n1, o1, if_neg (by rw [ze]; exact h), nI_1, Int32.add_zero]
        exact i2
theorem la_ok (hN : 100 ≤ N) (R : R_now X s c0 W sd m) (Rc : rwd c W sd m) (hk : k ≤ 63) : x8_laden N s (X + 16) (nI k) = some (s, nI (fb_sm (ldn W k) (W 12))) ∧ md_weightOn N c (nI k) = some (c, nI (fb_sm (ldn W k) (W 12))) ∧ fb_sm (ldn W k) (W 12) ≤ 54 := by
  have hw := Rc.2.1
  have w12 := hw.1.2.2.2.2.2.2.2.2.2.2.2.2.1
  obtain ⟨a1, a2⟩ := la_loop (N := N) (kC := fun q2 x3 x4 x5 => (some (q2, x4))) (kR := fun q2 x3 x4 x5 => (some (q2, x4))) R Rc hk (W 12) 0 N N (by omega) (by omega) (by omega)
  refine ⟨?_, ?_, ?_⟩
  · unfold x8_laden
    rw [if_pos (R_l8 R)]
    exact a1
  · exact a2
  · have : fb_sm (ldn W k) (W 12) ≤ W 12 * 9 := fb_sm_bound (fun p hp => by
      have := (hw.2.2.2.1 p (by omega)).1
      unfold ldn
      split <;> omega)
    omega
theorem si_cls (hN : 100 ≤ N) (R : R_now X s c0 W sd m) (Rc : rwd c W sd m) {kC : sk_S → Int64 → Int32 → Option (sk_S × Int64)} : ∀ (r i fuel : Nat) (b : Int64), i + r = W 12 → r < fuel → ∃ v, x8_overladen_L4 N (X + 16) kC fuel s b (nI i) = kC s v (nI (W 12)) ∧ ∀ q, q < 64 → (hb v q = true ↔ hb b q = true ∨ ∃ p, i ≤ p ∧ p < W 12 ∧ W (238 + 2 * p) = q ∧ W (45 + 3 * q) < fb_sm (ldn W q) (W 12)) := by
  have hw := Rc.2.1
  have w12 := hw.1.2.2.2.2.2.2.2.2.2.2.2.2.1
  have s6 : sk_c s (X + 16) 6 = nI (W 12) := R.2.2.1.2.2.2.2.2.1.2.1
  intro r
  induction r with
  | zero =>
    intro i fuel b h1 h2
    obtain ⟨fuel, rfl⟩ : ∃ q, fuel = q + 1 := ⟨fuel - 1, by omega⟩
    obtain rfl : i = W 12 := by omega
    refine ⟨b, ?_, fun q hq => ⟨.inl, ?_⟩⟩
    · simp only [x8_overladen_L4]; rw [s6, if_pos (by rw [zq_le (by omega) (by omega)]; omega)]
    · rintro (h | ⟨p, p1, p2, _⟩)
      · exact h
      · omega
  | succ r ih =>
    intro i fuel b h1 h2
    obtain ⟨fuel, rfl⟩ : ∃ q, fuel = q + 1 := ⟨fuel - 1, by omega⟩
    have nle : ¬ nI (W 12) ≤ nI i := by rw [zq_le (by omega) (by omega)]; omega
    have s19 : sk_c s (X + 16 + 3) i = nI (W (238 + 2 * i)) := (R.2.2.1.2.2.2.2.2.2.1 i (by omega)).2
    have h63 := (hw.2.2.2.1 i (by omega)).2.1
    obtain ⟨l1, _, l3⟩ := la_ok (N := N) hN R Rc (k := W (238 + 2 * i)) h63
    have hb9 := (hw.2.2.1 (W (238 + 2 * i)) (by omega)).1
    by_cases h : fb_sm (ldn W (W (238 + 2 * i))) (W 12) ≤ W (45 + 3 * W (238 + 2 * i))
    · obtain ⟨v, i1, i2⟩ := ih (i + 1) fuel b (by omega) (by omega)
      refine ⟨v, ?_, fun q hq => ?_⟩
      · simp only [x8_overladen_L4, zq_letP]
        rw [s6, if_neg nle, if_pos (zq_inBt (by omega) (by decide)), zq_cl (by omega), s19, l1]
        simp only [zq_bindP]
        rw [s19, if_pos (zq_inBt (by omega) (by decide)), zq_cl (by omega), R_be R (by omega), if_pos (by rw [zq_le (by omega) (by omega)]; exact h), nI_1]
        exact i1
      · rw [i2 q hq]
        refine or_congr Iff.rfl ⟨?_, ?_⟩
        · rintro ⟨p, p1, p2⟩
          exact ⟨p, by omega, p2⟩
        · rintro ⟨p, p1, p2, p3, p4⟩
          by_cases e : p = i
          · subst e; subst p3; omega
          · exact ⟨p, by omega, p2, p3, p4⟩
    · obtain ⟨v, i1, i2⟩ := ih (i + 1) fuel (b ||| (1 <<< (Int32.toInt64 (nI (W (238 + 2 * i))) &&& 63))) (by omega) (by omega)
      refine ⟨v, ?_, fun q hq => ?_⟩
      · simp only [x8_overladen_L4, zq_letP]
        rw [s6, if_neg nle, if_pos (zq_inBt (by omega) (by decide)), zq_cl (by omega), s19, l1]
        simp only [zq_bindP]
        rw [s19, if_pos (zq_inBt (by omega) (by decide)), zq_cl (by omega), R_be R (by omega), if_neg (by rw [zq_le (by omega) (by omega)]; exact h), nI_1]
        exact i1
      · rw [i2 q hq, hb_or, hb_one (by omega), Bool.or_eq_true, decide_eq_true_eq, or_assoc]
        refine or_congr Iff.rfl ⟨?_, ?_⟩
        · rintro (e | ⟨p, p1, p2⟩)
          · subst e; exact ⟨i, by omega, by omega, rfl, by omega⟩
          · exact ⟨p, by omega, p2⟩
        · rintro ⟨p, p1, p2, p3, p4⟩
          by_cases e : p = i
          · subst e; exact .inl p3.symm
          · exact .inr ⟨p, by omega, p2, p3, p4⟩
theorem si_ref (hN : 100 ≤ N) (R : R_now X s c0 W sd m) (Rc : rwd c W sd m) {kR : (Nat → Nat → Int32) → Int64 → Int32 → Option ((Nat → Nat → Int32) × Int64)} : ∀ (r i fuel : Nat) (b : Int64), i + r = 64 → r < fuel → ∃ v, md_sinking_L9 N kR fuel c b (nI i) = kR c v (nI 64) ∧ ∀ q, q < 64 → (hb v q = true ↔ hb b q = true ∨ (i ≤ q ∧ W (45 + 3 * q) < fb_sm (ldn W q) (W 12))) := by
  have hw := Rc.2.1
  intro r
  induction r with
  | zero =>
    intro i fuel b h1 h2
    obtain ⟨fuel, rfl⟩ : ∃ q, fuel = q + 1 := ⟨fuel - 1, by omega⟩
    obtain rfl : i = 64 := by omega
    refine ⟨b, ?_, fun q hq => ⟨.inl, ?_⟩⟩
    · simp only [md_sinking_L9]; rw [if_pos (by decide)]
    · rintro (h | h)
      · exact h
      · omega
  | succ r ih =>
    intro i fuel b h1 h2
    obtain ⟨fuel, rfl⟩ : ∃ q, fuel = q + 1 := ⟨fuel - 1, by omega⟩
    have nle : ¬ (64 : Int32) ≤ nI i := by show ¬ nI 64 ≤ nI i; rw [zq_le (by decide) (by omega)]; omega
    obtain ⟨_, l2, l3⟩ := la_ok (N := N) hN R Rc (k := i) (by omega)
    have hb9 := (hw.2.2.1 i (by omega)).1
    have o0 : md_of_r c (nI i) 0 = nI (W (45 + 3 * i)) := (of_R Rc (k := 0) (by omega) (by decide)).1
    have n0 : ky_inB ((45 + 3 * nI i) + 0) 2247 = true := (of_R Rc (k := 0) (by omega) (by decide)).2
    by_cases h : fb_sm (ldn W i) (W 12) ≤ W (45 + 3 * i)
    · obtain ⟨v, i1, i2⟩ := ih (i + 1) fuel b (by omega) (by omega)
      refine ⟨v, ?_, fun q hq => ?_⟩
      · simp only [md_sinking_L9, zq_letP]
        rw [if_neg nle, l2]
        simp only [zq_bindP]
        rw [if_pos n0, o0, if_pos (by rw [zq_le (by omega) (by omega)]; exact h), nI_1, Int64.or_zero]
        exact i1
      · rw [i2 q hq]
        refine or_congr Iff.rfl ⟨fun h => ⟨by omega, h.2⟩, fun ⟨p1, p2⟩ => ⟨?_, p2⟩⟩
        by_cases e : q = i
        · subst e; omega
        · omega
    · obtain ⟨v, i1, i2⟩ := ih (i + 1) fuel (b ||| (1 <<< (Int32.toInt64 (nI i) &&& 63))) (by omega) (by omega)
      refine ⟨v, ?_, fun q hq => ?_⟩
      · simp only [md_sinking_L9, zq_letP]
        rw [if_neg nle, l2]
        simp only [zq_bindP]
        rw [if_pos n0, o0, if_neg (by rw [zq_le (by omega) (by omega)]; exact h), nI_1]
        exact i1
      · rw [i2 q hq, hb_or, hb_one (by omega), Bool.or_eq_true, decide_eq_true_eq, or_assoc]
        refine or_congr Iff.rfl ⟨?_, ?_⟩
        · rintro (e | ⟨p1, p2⟩)
          · subst e; exact ⟨by omega, by omega⟩
          · exact ⟨by omega, p2⟩
        · rintro ⟨p1, p2⟩
          by_cases e : q = i
          · exact .inl e
          · exact .inr ⟨by omega, p2⟩
set_option maxRecDepth 20000 in
theorem sm_sinking_ok (hN : 2000000000 ≤ N) : sm_sinking X N (RR X) := by
  intro j s c hj ⟨_, Z, W, sd, m, R, Rw⟩
  have R0 := rwd_0 R
  have hw := wd_of R
  have w12 := hw.1.2.2.2.2.2.2.2.2.2.2.2.2.1
  obtain ⟨v, a1, a2⟩ := si_cls (N := N) (by omega) R.1 R0 (kC := fun q2 x3 x4 => (some (q2, x3))) (W 12) 0 N 0 (by omega) (by omega)
  obtain ⟨v', b1, b2⟩ := si_ref (N := N) (by omega) R.1 R0 (kR := fun q4 x5 x6 => (some (q4, x5))) 64 0 N 0 (by omega) (by omega)
  have e : v' = v := hb_ext (fun q hq => by
    rw [Bool.eq_iff_iff, a2 q hq, b2 q hq]
    refine or_congr Iff.rfl ⟨fun ⟨_, p2⟩ => ?_, fun ⟨p, p1, p2, p3, p4⟩ => ⟨by omega, p4⟩⟩
    by_cases h : ∃ p, p < W 12 ∧ W (238 + 2 * p) = q
    · obtain ⟨p, p1, p3⟩ := h
      exact ⟨p, by omega, p1, p3, p2⟩
    · have : fb_sm (ldn W q) (W 12) ≤ W 12 * 0 := fb_sm_bound (fun p hp => by
        unfold ldn
        rw [if_neg (fun e => h ⟨p, hp, e⟩)]
        omega)
      omega)
  subst e
  refine ⟨s, bk_w c 0 0 0, v', ?_, ?_, RR_siz hj Z (s' := s) ⟨rfl, rfl, rfl⟩ (RA_c R ceq_0) Rw⟩
  · have q1 : x8_overladen N s (X + 16) = some (s, v') := by
      unfold x8_overladen; rw [if_pos (R_l8 R.1)]; exact a1
    unfold x11_sinking
    rw [if_pos R.1.1, q1]
    rfl
  · have q2 : md_sinking_L9 N (fun q4 x5 x6 => (some (q4, x5))) N (bk_w c 0 0 0) 0 0 = some (bk_w c 0 0 0, v') := b1
    simp only [md_sinking, zq_letP]
    exact q2
/-! rope -/
def rpc (W : Nat → Nat) (q : Nat) : Bool := decide (¬ md_in (md_apart (nI q) (nI (W 10))) 1 2 = 0)
theorem rp_N : ∀ h, h < 64 → ∀ q, q < 64 → hb (((sh_beside (1 <<< (Int32.toInt64 (nI h) &&& 63))) ||| (sh_beside (sh_beside (1 <<< (Int32.toInt64 (nI h) &&& 63))))) &&& ((1 <<< (Int32.toInt64 (nI h) &&& 63)) ^^^ (-1))) q = decide (¬ md_in (md_apart (nI q) (nI h)) 1 2 = 0) := by decide +kernel
theorem rp_cls (R : R_now X s c W sd m) : ∃ v, x8_ropeCells N s (X + 16) = some (s, v) ∧ ∀ q, q < 64 → hb v q = rpc W q := by
  have h10 : W 10 ≤ 63 := R.2.2.1.2.1.1.2.2.2.2.2.2.2.2.2.2.1
  have s5 : sk_c s (X + 16) 5 = nI (W 10) := R.2.2.1.2.2.2.2.2.1.1
  refine ⟨((sh_beside (1 <<< (Int32.toInt64 (nI (W 10)) &&& 63))) ||| (sh_beside (sh_beside (1 <<< (Int32.toInt64 (nI (W 10)) &&& 63))))) &&& ((1 <<< (Int32.toInt64 (nI (W 10)) &&& 63)) ^^^ (-1)), ?_, fun q hq => rp_N (W 10) (by omega) q hq⟩
  unfold x8_ropeCells
  simp only [zq_letP]
  rw [if_pos (R_l8 R), s5]
theorem rp_loop (Rc : rwd c W sd m) {w : Nat} (hw9 : w ≤ 9) {kR : (Nat → Nat → Int32) → Int32 → Int64 → Int32 → Option ((Nat → Nat → Int32) × Int64)} : ∀ (r i fuel : Nat) (b : Int64), i + r = 64 → r < fuel → ∃ v, md_ropeFor_L5 N kR fuel c (nI w) b (nI i) = kR c (nI w) v (nI 64) ∧ ∀ q, q < 64 → hb v q = (hb b q || (decide (i ≤ q) && (rpc W q && decide (w ≤ W (45 + 3 * q))))) := by
  have hw := Rc.2.1
  have c10 : c 1 10 = nI (W 10) := wv_n Rc.1 (by decide) (by decide)
  intro r
  induction r with
  | zero =>
    intro i fuel b h1 h2
    obtain ⟨fuel, rfl⟩ : ∃ q, fuel = q + 1 := ⟨fuel - 1, by omega⟩
    obtain rfl : i = 64 := by omega
    refine ⟨b, ?_, fun q hq => ?_⟩
    · simp only [md_ropeFor_L5]; rw [if_pos (by decide)]
    · rw [decide_eq_false (show ¬ 64 ≤ q by omega), Bool.false_and, Bool.or_false]
  | succ r ih =>
    intro i fuel b h1 h2
    obtain ⟨fuel, rfl⟩ : ∃ q, fuel = q + 1 := ⟨fuel - 1, by omega⟩
    have nle : ¬ (64 : Int32) ≤ nI i := by show ¬ nI 64 ≤ nI i; rw [zq_le (by decide) (by omega)]; omega
    have hb9 := (hw.2.2.1 i (by omega)).1
    have o0 : md_of_r c (nI i) 0 = nI (W (45 + 3 * i)) := (of_R Rc (k := 0) (by omega) (by decide)).1
    have n0 : ky_inB ((45 + 3 * nI i) + 0) 2247 = true := (of_R Rc (k := 0) (by omega) (by decide)).2
    have st : ∀ q, q ≠ i → decide (i + 1 ≤ q) = decide (i ≤ q) := fun q e => decide_eq_decide.mpr (by omega)
    by_cases hr : md_in (md_apart (nI i) (nI (W 10))) 1 2 = 0
    · obtain ⟨v, i1, i2⟩ := ih (i + 1) fuel b (by omega) (by omega)
      refine ⟨v, ?_, fun q hq => ?_⟩
      · simp only [md_ropeFor_L5, zq_letP]
        rw [if_neg nle, c10, if_pos hr, nI_1, Int64.or_zero]
        exact i1
      · rw [i2 q hq]
        congr 1
        by_cases e : q = i
        · subst e
          have : rpc W q = false := decide_eq_false (not_not_intro hr)
          rw [this]; simp
        · rw [st q e]
    · by_cases h : W (45 + 3 * i) < w
      · obtain ⟨v, i1, i2⟩ := ih (i + 1) fuel b (by omega) (by omega)
        refine ⟨v, ?_, fun q hq => ?_⟩
        · simp only [md_ropeFor_L5, zq_letP]
          rw [if_neg nle, c10, if_neg hr, if_pos n0, o0, if_pos (by rw [zq_lt (by omega) (by omega)]; exact h), nI_1, Int64.or_zero]
          exact i1
        · rw [i2 q hq]
          congr 1
          by_cases e : q = i
          · subst e
            rw [decide_eq_false (show ¬ w ≤ W (45 + 3 * q) by omega)]; simp
          · rw [st q e]
      · obtain ⟨v, i1, i2⟩ := ih (i + 1) fuel (b ||| (1 <<< (Int32.toInt64 (nI i) &&& 63))) (by omega) (by omega)
        refine ⟨v, ?_, fun q hq => ?_⟩
        · simp only [md_ropeFor_L5, zq_letP]
          rw [if_neg nle, c10, if_neg hr, if_pos n0, o0, if_neg (by rw [zq_lt (by omega) (by omega)]; exact h), nI_1]
          exact i1
        · rw [i2 q hq, hb_or, hb_one (by omega), Bool.or_assoc]
          congr 1
          by_cases e : q = i
          · subst e
            have : rpc W q = true := decide_eq_true hr
            rw [this, decide_eq_true (show w ≤ W (45 + 3 * q) by omega)]; simp
          · rw [st q e, decide_eq_false e, Bool.false_or]
theorem rp_ref (hN : 100 ≤ N) (Rc : rwd c W sd m) {w : Nat} (hw9 : w ≤ 9) : ∃ v, md_ropeFor N c (nI w) = some (c, v) ∧ ∀ q, q < 64 → hb v q = (rpc W q && decide (w ≤ W (45 + 3 * q))) := by
  obtain ⟨v, h1, h2⟩ := rp_loop (N := N) Rc hw9 (kR := fun q2 x3 x4 x5 => (some (q2, x4))) 64 0 N 0 (by omega) (by omega)
  refine ⟨v, h1, fun q hq => ?_⟩
  rw [h2 q hq, hb_0, decide_eq_true (Nat.zero_le q), Bool.true_and, Bool.false_or]
set_option maxRecDepth 20000 in
theorem sm_rope_ok (hN : 2000000000 ≤ N) : sm_rope X N (RR X) := by
  intro j s c hj ⟨_, Z, W, sd, m, R, Rw⟩ p1
  have R0 := rwd_0 R
  rcases weightC p1 with ⟨w, _, hw, rfl, m1, m2⟩ | ⟨m1, m2⟩
  · obtain ⟨u, a1, a2⟩ := rp_cls (N := N) R.1
    obtain ⟨v, b1, b2⟩ := be_R (N := N) (by omega) R.1 (w := w) (by omega)
    obtain ⟨z, d1, d2⟩ := rp_ref (N := N) (by omega) R0 hw
    have e : z = u &&& v := hb_ext (fun q hq => by rw [d2 q hq, hb_and, a2 q hq, b2 q hq])
    subst e
    refine ⟨s, bk_w c 0 0 0, .inl (some (.long (u &&& v))), u &&& v, ?_, ?_, .inl ⟨rfl, bk_w_same _ _ _ _⟩, RR_siz hj Z (s' := s) ⟨rfl, rfl, rfl⟩ (RA_c R ceq_0) Rw⟩
    · unfold x11_rope
      rw [if_pos R.1.1, m1, if_neg (by decide), a1]
      simp only [zq_bindP]
      rw [b1]
      rfl
    · simp only [md_rope, zq_letP, m2, th_r, th_c0, d00, true_or, ↓reduceIte, d1, zq_bindP]
  · refine ⟨sk_rs s 6, bk_w (bk_w c 0 0 0) 0 0 1, .inr "java/lang/IllegalArgumentException", 0, ?_, ?_, .inr ⟨rfl, bk_w_same _ _ _ _⟩, RR_thr hj Z R Rw (thr_ceq 1)⟩
    · unfold x11_rope
      rw [if_pos R.1.1, m1, if_pos rfl]
    · simp only [md_rope, zq_letP, m2, th_r, th_c1, d10, d11, or_true, ↓reduceIte]
end
