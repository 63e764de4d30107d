/-! PLACED: from below and from above the same -/
def pl_S (a : Nat → Nat) : Nat → Nat
  | 0 => 0
  | t + 1 => pl_S a t + a (t + 1)
def pl_f (a P : Nat → Nat) : Nat → Nat
  | 0 => 0
  | t + 1 => min (pl_f a P t + a (t + 1)) (P (t + 1))
def pl_g (A pw : Nat → Nat) : Nat → Nat
  | 0 => 0
  | j + 1 => min (pl_g A pw j + pw (9 - j)) (A (9 - j))
theorem pl_fc (a P : Nat → Nat) (h0 : P 0 = 0) : ∀ t, (∀ k, k ≤ t → pl_f a P t + pl_S a k ≤ P k + pl_S a t) ∧ ∃ k, k ≤ t ∧ pl_f a P t + pl_S a k = P k + pl_S a t
  | 0 => ⟨fun k hk => by obtain rfl : k = 0 := by omega
                         simp [pl_f, pl_S], 0, Nat.le_refl 0, by simp [pl_f, pl_S, h0]⟩
  | t + 1 => by
    obtain ⟨i1, k0, i2, i3⟩ := pl_fc a P h0 t
    have e1 : pl_f a P (t + 1) = min (pl_f a P t + a (t + 1)) (P (t + 1)) := rfl
    have e2 : pl_S a (t + 1) = pl_S a t + a (t + 1) := rfl
    refine ⟨fun k hk => ?_, ?_⟩
    · by_cases h : k = t + 1
      · subst h; omega
      · have := i1 k (by omega); omega
    · by_cases h : pl_f a P t + a (t + 1) ≤ P (t + 1)
      · exact ⟨k0, by omega, by omega⟩
      · exact ⟨t + 1, Nat.le_refl _, by omega⟩
theorem pl_gc (a P A pw : Nat → Nat) (hA : ∀ w, 1 ≤ w → w ≤ 9 → A w + pl_S a (w - 1) = pl_S a 9) (hP : ∀ w, 1 ≤ w → w ≤ 9 → P w = P (w - 1) + pw w) : ∀ j, j ≤ 9 → (∀ k, 9 - j ≤ k → k ≤ 9 → pl_g A pw j + pl_S a k + P (9 - j) ≤ pl_S a 9 + P k) ∧ ∃ k, 9 - j ≤ k ∧ k ≤ 9 ∧ pl_g A pw j + pl_S a k + P (9 - j) = pl_S a 9 + P k
  | 0, _ => ⟨fun k h1 h2 => by obtain rfl : k = 9 := by omega
                               simp [pl_g], 9, by omega, by omega, by simp [pl_g]⟩
  | j + 1, hj => by
    obtain ⟨i1, k0, i2, i3, i4⟩ := pl_gc a P A pw hA hP j (by omega)
    have e1 : pl_g A pw (j + 1) = min (pl_g A pw j + pw (9 - j)) (A (9 - j)) := rfl
    have e2 := hA (9 - j) (by omega) (by omega)
    have e3 := hP (9 - j) (by omega) (by omega)
    rw [show 9 - j - 1 = 9 - (j + 1) by omega] at e2 e3
    refine ⟨fun k h1 h2 => ?_, ?_⟩
    · by_cases h : k = 9 - (j + 1)
      · subst h; omega
      · have := i1 k (by omega) h2; omega
    · by_cases h : pl_g A pw j + pw (9 - j) ≤ A (9 - j)
      · exact ⟨k0, by omega, by omega, by omega⟩
      · exact ⟨9 - (j + 1), Nat.le_refl _, by omega, by omega⟩
theorem pl_eq (a P A pw : Nat → Nat) (h0 : P 0 = 0) (hA : ∀ w, 1 ≤ w → w ≤ 9 → A w + pl_S a (w - 1) = pl_S a 9) (hP : ∀ w, 1 ≤ w → w ≤ 9 → P w = P (w - 1) + pw w) : pl_f a P 9 = pl_g A pw 9 := by
  obtain ⟨f1, k1, f2, f3⟩ := pl_fc a P h0 9
  obtain ⟨g1, k2, g2, g3, g4⟩ := pl_gc a P A pw hA hP 9 (by omega)
  have a1 := f1 k2 g3
  have a2 := g1 k1 (by omega) f2
  have e : P (9 - 9) = 0 := h0
  rw [e] at a2 g4
  omega
/-- cells of the rope that bear just t -/
def plA (W : Nat → Nat) (t : Nat) : Nat := fb_ct (fun q => rpc W q && decide (W (45 + 3 * q) = t)) 64
/-- those that bear at least t -/
def plG (W : Nat → Nat) (t : Nat) : Nat := fb_ct (fun q => rpc W q && decide (t ≤ W (45 + 3 * q))) 64
def plP (W : Nat → Nat) (t : Nat) : Nat := fb_ct (fun p => decide (W (237 + 2 * p) ≤ t)) (W 12)
def plE (W : Nat → Nat) (t : Nat) : Nat := fb_ct (fun p => decide (W (237 + 2 * p) = t)) (W 12)
theorem plG_s (W : Nat → Nat) (t : Nat) : plG W t = plA W t + plG W (t + 1) := by
  have h := fb_ct_or (p := fun q => rpc W q && decide (W (45 + 3 * q) = t)) (q := fun q => rpc W q && decide (t + 1 ≤ W (45 + 3 * q))) (n := 64) (fun k _ h => by
    simp only [Bool.and_eq_true, decide_eq_true_eq] at h; omega)
  unfold plA plG
  rw [← h]
  refine fb_ct_cong (fun q _ => ?_)
  cases rpc W q with
  | false => rfl
  | true =>
    simp only [Bool.true_and]
    rw [← Bool.decide_or]
    exact decide_eq_decide.mpr (by omega)
theorem plP_s (W : Nat → Nat) (t : Nat) : plP W (t + 1) = plP W t + plE W (t + 1) := by
  have h := fb_ct_or (p := fun p => decide (W (237 + 2 * p) ≤ t)) (q := fun p => decide (W (237 + 2 * p) = t + 1)) (n := W 12) (fun k _ h => by
    simp only [decide_eq_true_eq] at h; omega)
  unfold plP plE
  rw [← h]
  refine fb_ct_cong (fun q _ => ?_)
  show _ = (decide _ || decide _)
  rw [← Bool.decide_or]
  exact decide_eq_decide.mpr (by omega)
section
variable {N X j : Nat} {s s' : sk_S} {c c' c0 : Nat → Nat → Int32} {W W' W0 : Nat → Nat} {sd sd' sd0 : Int32} {m m' : lwM} {sb : Nat} {k : Nat}
theorem plG10 (hw : wd W) : plG W 10 = 0 := by
  unfold plG
  rw [fb_ct_zero]
  intro q hq
  have := (hw.2.2.1 q hq).1
  rw [decide_eq_false (show ¬ 10 ≤ W (45 + 3 * q) by omega), Bool.and_false]
theorem plP0 (hw : wd W) : plP W 0 = 0 := by
  unfold plP
  rw [fb_ct_zero]
  intro q hq
  have w12 := hw.1.2.2.2.2.2.2.2.2.2.2.2.2.1
  have := (hw.2.2.2.1 q (by omega)).2.2 hq
  exact decide_eq_false (by omega)
theorem plG_S (hw : wd W) : ∀ w, w ≤ 9 → plG W (w + 1) + pl_S (plA W) w = plG W 1
  | 0, _ => by rw [show pl_S (plA W) 0 = 0 from rfl, Nat.add_zero, Nat.zero_add]
  | w + 1, h => by
    have i := plG_S hw w (by omega)
    have e := plG_s W (w + 1)
    have e2 : pl_S (plA W) (w + 1) = pl_S (plA W) w + plA W (w + 1) := rfl
    omega
theorem nh_loop (R : R_now X s c0 W sd m) {t : Nat} (ht : t ≤ 9) {kC : sk_S → Int32 → Int32 → Int32 → Option (sk_S × Int32)} : ∀ (r i fuel : Nat), i + r = W 12 → r < fuel → x8_notHeavierThan_L4 N (X + 16) kC fuel s (nI t) (nI (fb_ct (fun p => decide (W (237 + 2 * p) ≤ t)) i)) (nI i) = kC s (nI t) (nI (fb_ct (fun p => decide (W (237 + 2 * p) ≤ t)) (W 12))) (nI (W 12)) := by
  have hw := R.2.2.1.2.1
  have w12 := hw.1.2.2.2.2.2.2.2.2.2.2.2.2.1
  have s6 : sk_c s (X + 16) 6 = nI (W 12) := R.2.2.1.2.2.2.2.2.1.2.1
  intro r
  induction r with
  | zero =>
    intro i fuel h1 h2
    obtain ⟨fuel, rfl⟩ : ∃ q, fuel = q + 1 := ⟨fuel - 1, by omega⟩
    obtain rfl : i = W 12 := by omega
    simp only [x8_notHeavierThan_L4]; rw [s6, if_pos (by rw [zq_le (by omega) (by omega)]; omega)]
  | succ r ih =>
    intro i fuel h1 h2
    obtain ⟨fuel, rfl⟩ : ∃ q, fuel = q + 1 := ⟨fuel - 1, by omega⟩
    have nle : ¬ nI (W 12) ≤ nI i := by rw [zq_le (by omega) (by omega)]; omega
    have s18 : sk_c s (X + 16 + 2) i = nI (W (237 + 2 * i)) := (R.2.2.1.2.2.2.2.2.2.1 i (by omega)).1
    have hp := (hw.2.2.2.1 i (by omega)).1
    have i1 := ih (i + 1) fuel (by omega) (by omega)
    rw [fb_ct_succ] at i1
    by_cases h : t < W (237 + 2 * i)
    · rw [decide_eq_false (show ¬ W (237 + 2 * i) ≤ t by omega), if_neg (by decide), Nat.add_zero] at i1
      simp only [x8_notHeavierThan_L4, zq_letP]
      rw [s6, if_neg nle, if_pos (zq_inBt (by omega) (by decide)), zq_cl (by omega), s18, if_pos (by rw [zq_lt (by omega) (by omega)]; exact h), nI_1]
      exact i1
    · rw [decide_eq_true (show W (237 + 2 * i) ≤ t by omega), if_pos rfl] at i1
      simp only [x8_notHeavierThan_L4, zq_letP]
      rw [s6, if_neg nle, if_pos (zq_inBt (by omega) (by decide)), zq_cl (by omega), s18, if_neg (by rw [zq_lt (by omega) (by omega)]; exact h), nI_1, nI_1]
      exact i1
theorem nh_ok (hN : 100 ≤ N) (R : R_now X s c0 W sd m) {t : Nat} (ht : t ≤ 9) : x8_notHeavierThan N s (X + 16) (nI t) = some (s, nI (plP W t)) := by
  have w12 := R.2.2.1.2.1.1.2.2.2.2.2.2.2.2.2.2.2.2.1
  unfold x8_notHeavierThan
  rw [if_pos (R_l8 R)]
  exact nh_loop (N := N) R ht (kC := fun q2 x3 x4 x5 => (some (q2, x4))) (W 12) 0 N (by omega) (by omega)
theorem plf_le (a P : Nat → Nat) : ∀ t, pl_f a P t ≤ P t ∨ t = 0
  | 0 => .inr rfl
  | t + 1 => .inl (Nat.min_le_right _ _)
theorem plP_le (W : Nat → Nat) (t : Nat) : plP W t ≤ W 12 := fb_ct_le _ _
theorem mp_loop (hN : 100 ≤ N) (R : R_now X s c0 W sd m) {v : Int64} (hv : ∀ q, q < 64 → hb v q = rpc W q) {kC : sk_S → Int64 → Int32 → Int32 → Option (sk_S × Int32)} : ∀ (r t fuel : Nat), t + r = 9 → r < fuel → x8_mostPlaced_L10 N (X + 16) kC fuel s v (nI (pl_f (plA W) (plP W) t)) (nI (t + 1)) = kC s v (nI (pl_f (plA W) (plP W) 9)) (nI 10) := by
  have hw := R.2.2.1.2.1
  have w12 := hw.1.2.2.2.2.2.2.2.2.2.2.2.2.1
  intro r
  induction r with
  | zero =>
    intro t fuel h1 h2
    obtain ⟨fuel, rfl⟩ : ∃ q, fuel = q + 1 := ⟨fuel - 1, by omega⟩
    obtain rfl : t = 9 := by omega
    simp only [x8_mostPlaced_L10]; rw [if_pos (by decide)]
  | succ r ih =>
    intro t fuel h1 h2
    obtain ⟨fuel, rfl⟩ : ∃ q, fuel = q + 1 := ⟨fuel - 1, by omega⟩
    have nle : ¬ (9 : Int32) < nI (t + 1) := by show ¬ nI 9 < nI (t + 1); rw [zq_lt (by decide) (by omega)]; omega
    obtain ⟨b1, e1, g1⟩ := be_R (N := N) hN R (w := t + 1) (by omega)
    obtain ⟨b2, e2, g2⟩ := be_R (N := N) hN R (w := t + 1 + 1) (by omega)
    have bc : jl_bitCount ((v &&& b1) &&& (b2 ^^^ (-1))) = nI (plA W (t + 1)) := by
      rw [bc_ok]
      refine congrArg nI ?_
      unfold plA
      refine fb_ct_cong (fun q hq => ?_)
      rw [hb_and, hb_and, hb_not _ hq, hv q hq, g1 q hq, g2 q hq]
      cases rpc W q with
      | false => rfl
      | true =>
        simp only [Bool.true_and]
        rw [← decide_not, ← Bool.decide_and]
        exact decide_eq_decide.mpr (by omega)
    have i1 := ih (t + 1) fuel (by omega) (by omega)
    have hA : plA W (t + 1) ≤ 64 := fb_ct_le _ _
    have hP := plP_le W (t + 1)
    have hPs := plP_s W t
    have hf : pl_f (plA W) (plP W) t ≤ plP W t := by
      rcases plf_le (plA W) (plP W) t with h | h
      · exact h
      · subst h; exact Nat.zero_le _
    have es : nI (plP W (t + 1)) - nI (pl_f (plA W) (plP W) t) = nI (plP W (t + 1) - pl_f (plA W) (plP W) t) := pk_sub (by omega)
    have em : mt_min (nI (plA W (t + 1))) (nI (plP W (t + 1) - pl_f (plA W) (plP W) t)) = nI (min (plA W (t + 1)) (plP W (t + 1) - pl_f (plA W) (plP W) t)) := zq_min (by omega) (by omega)
    have ef : pl_f (plA W) (plP W) t + min (plA W (t + 1)) (plP W (t + 1) - pl_f (plA W) (plP W) t) = pl_f (plA W) (plP W) (t + 1) := by
      show _ = min (pl_f (plA W) (plP W) t + plA W (t + 1)) (plP W (t + 1))
      omega
    simp only [x8_mostPlaced_L10, zq_letP]
    rw [if_neg nle, e1]
    simp only [zq_bindP]
    rw [nI_1, e2]
    simp only [zq_bindP]
    rw [bc, nh_ok (N := N) hN R (by omega)]
    simp only [zq_bindP]
    rw [es, em, nI_add, ef]
    exact i1
theorem pi_loop (Rc : rwd c W sd m) {w n rm : Nat} (hw9 : w ≤ 9) (hn : n ≤ rm) (hr : rm ≤ 64) {kR : (Nat → Nat → Int32) → Int32 → Int32 → Int32 → Int32 → Option ((Nat → Nat → Int32) × Int32)} : ∀ (r i fuel : Nat), i + r = W 12 → r < fuel → md_placed_L26 N kR fuel c (nI (min (n + fb_ct (fun p => decide (W (237 + 2 * p) = w)) i) rm)) (nI w) (nI rm) (nI i) = kR c (nI (min (n + plE W w) rm)) (nI w) (nI rm) (nI (W 12)) := by
  have hw := Rc.2.1
  have w12 := hw.1.2.2.2.2.2.2.2.2.2.2.2.2.1
  have c12 : md_people_r c = nI (W 12) := wv_n Rc.1 (k := 12) (by decide) (by decide)
  intro r
  induction r with
  | zero =>
    intro i fuel h1 h2
    obtain ⟨fuel, rfl⟩ : ∃ q, fuel = q + 1 := ⟨fuel - 1, by omega⟩
    obtain rfl : i = W 12 := by omega
    simp only [md_placed_L26]; rw [c12, if_pos (by rw [zq_le (by omega) (by omega)]; omega)]
    rfl
  | succ r ih =>
    intro i fuel h1 h2
    obtain ⟨fuel, rfl⟩ : ∃ q, fuel = q + 1 := ⟨fuel - 1, by omega⟩
    have nle : ¬ nI (W 12) ≤ nI i := by rw [zq_le (by omega) (by omega)]; omega
    have hp := (hw.2.2.2.1 i (by omega)).1
    have o0 : md_ofPerson_r c (nI i) 0 = nI (W (237 + 2 * i)) := (pp_R Rc (k := 0) (by omega) (by decide)).1
    have n0 : ky_inB ((237 + 2 * nI i) + 0) 2247 = true := (pp_R Rc (k := 0) (by omega) (by decide)).2
    have ze : (nI (W (237 + 2 * i)) = nI w) = (W (237 + 2 * i) = w) := zq_eq (by omega) (by omega)
    have i1 := ih (i + 1) fuel (by omega) (by omega)
    rw [fb_ct_succ] at i1
    have hc : fb_ct (fun p => decide (W (237 + 2 * p) = w)) i ≤ i := fb_ct_le _ _
    generalize fb_ct (fun p => decide (W (237 + 2 * p) = w)) i = z at *
    by_cases h : W (237 + 2 * i) = w
    · rw [decide_eq_true h, if_pos rfl] at i1
      by_cases h2 : rm ≤ n + z
      · rw [show min (n + (z + 1)) rm = min (n + z) rm by omega] at i1
        simp only [md_placed_L26, zq_letP]
        rw [c12, if_neg nle, if_pos n0, o0, if_pos (by rw [ze]; exact h), if_pos (by rw [zq_le (by omega) (by omega)]; omega), nI_1, Int32.add_zero]
        exact i1
      · rw [show min (n + (z + 1)) rm = min (n + z) rm + 1 by omega] at i1
        simp only [md_placed_L26, zq_letP]
        rw [c12, if_neg nle, if_pos n0, o0, if_pos (by rw [ze]; exact h), if_neg (by rw [zq_le (by omega) (by omega)]; omega), nI_1, nI_1]
        exact i1
    · rw [decide_eq_false h, if_neg (by decide), Nat.add_zero] at i1
      simp only [md_placed_L26, zq_letP]
      rw [c12, if_neg nle, if_pos n0, o0, if_neg (by rw [ze]; exact h), nI_1, Int32.add_zero]
      exact i1
theorem pl_dn : ∀ j, j < 9 → nI (9 - j) + (-1) = nI (9 - (j + 1)) := by decide +kernel
theorem plg_le (W : Nat → Nat) : ∀ j, j ≤ 8 → pl_g (plG W) (plE W) j ≤ plG W (9 - j)
  | 0, _ => Nat.zero_le _
  | j + 1, h => by
    have e : pl_g (plG W) (plE W) (j + 1) = min (pl_g (plG W) (plE W) j + plE W (9 - j)) (plG W (9 - j)) := rfl
    have := plG_s W (9 - (j + 1))
    rw [show 9 - (j + 1) + 1 = 9 - j by omega] at this
    omega
theorem pg_loop (hN : 100 ≤ N) (Rc : rwd c W sd m) {kR : (Nat → Nat → Int32) → Int32 → Int32 → Option ((Nat → Nat → Int32) × Int32)} : ∀ (r j fuel : Nat), j + r = 9 → r < fuel → md_placed_L10 N kR fuel c (nI (pl_g (plG W) (plE W) j)) (nI (9 - j)) = kR c (nI (pl_g (plG W) (plE W) 9)) (nI 0) := by
  have hw := Rc.2.1
  have w12 := hw.1.2.2.2.2.2.2.2.2.2.2.2.2.1
  intro r
  induction r with
  | zero =>
    intro j fuel h1 h2
    obtain ⟨fuel, rfl⟩ : ∃ q, fuel = q + 1 := ⟨fuel - 1, by omega⟩
    obtain rfl : j = 9 := by omega
    simp only [md_placed_L10]; rw [if_pos (by decide)]
  | succ r ih =>
    intro j fuel h1 h2
    obtain ⟨fuel, rfl⟩ : ∃ q, fuel = q + 1 := ⟨fuel - 1, by omega⟩
    have nle : ¬ nI (9 - j) ≤ (0 : Int32) := nI_nle (by omega) (by omega)
    obtain ⟨v, e1, g1⟩ := rp_ref (N := N) hN Rc (w := 9 - j) (by omega)
    have bc : jl_bitCount v = nI (plG W (9 - j)) := by
      rw [bc_ok]
      refine congrArg nI ?_
      unfold plG
      exact fb_ct_cong (fun q hq => g1 q hq)
    have i1 := ih (j + 1) fuel (by omega) (by omega)
    have hle := plg_le W j (by omega)
    have h64 : plG W (9 - j) ≤ 64 := fb_ct_le _ _
    have a := pi_loop (N := N) Rc (w := 9 - j) (n := pl_g (plG W) (plE W) j) (rm := plG W (9 - j)) (by omega) hle h64 (kR := fun q8 x9 x10 x11 x12 => (ky_let (x10 + (-1)) (fun x13 => (md_placed_L10 N kR fuel q8 x9 x13)))) (W 12) 0 N (by omega) (by omega)
    have e0 : min (pl_g (plG W) (plE W) j + fb_ct (fun p => decide (W (237 + 2 * p) = 9 - j)) 0) (plG W (9 - j)) = pl_g (plG W) (plE W) j := by
      show min (pl_g (plG W) (plE W) j + 0) (plG W (9 - j)) = _
      omega
    rw [e0] at a
    have em : nI (9 - j) + (-1) = nI (9 - (j + 1)) := pl_dn j (by omega)
    simp only [md_placed_L10, zq_letP]
    rw [if_neg nle, e1]
    simp only [zq_bindP]
    rw [bc]
    refine Eq.trans a ?_
    simp only [zq_letP]
    rw [em]
    exact i1
set_option maxRecDepth 20000 in
theorem sm_placed_ok (hN : 2000000000 ≤ N) : sm_placed X N (RR X) := by
  intro j s c hj ⟨_, Z, W, sd, m, R, Rw⟩
  have R0 := rwd_0 R
  have hw := wd_of R
  obtain ⟨v, a1, a2⟩ := rp_cls (N := N) R.1
  have a3 := mp_loop (N := N) (by omega) R.1 a2 (kC := fun q6 x7 x8 x9 => (some (q6, x8))) 9 0 N (by omega) (by omega)
  have b3 := pg_loop (N := N) (by omega) R0 (kR := fun q4 x5 x6 => (some (q4, x5))) 9 0 N (by omega) (by omega)
  have e : pl_f (plA W) (plP W) 9 = pl_g (plG W) (plE W) 9 := by
    have t9 := plG_S hw 9 (by omega)
    have t10 := plG10 hw
    have t10' : plG W (9 + 1) = 0 := t10
    refine pl_eq _ _ _ _ (plP0 hw) (fun w h1 h2 => ?_) (fun w h1 h2 => ?_)
    · have := plG_S hw (w - 1) (by omega)
      rw [show w - 1 + 1 = w by omega] at this
      omega
    · have := plP_s W (w - 1)
      rw [show w - 1 + 1 = w by omega] at this
      exact this
  refine ⟨s, bk_w c 0 0 0, nI (pl_f (plA W) (plP W) 9), ?_, ?_, RR_siz hj Z (s' := s) ⟨rfl, rfl, rfl⟩ (RA_c R ceq_0) Rw⟩
  · have q1 : x8_mostPlaced N s (X + 16) = some (s, nI (pl_f (plA W) (plP W) 9)) := by
      unfold x8_mostPlaced; rw [if_pos (R_l8 R.1), a1]; exact a3
    unfold x11_placed
    rw [if_pos R.1.1, q1]
    rfl
  · simp only [md_placed, zq_letP]
    rw [e]
    exact b3
end
