/-! SUMS, by both -/
def kfc (cnt : Nat → Nat) : Nat := cnt 0 + cnt 1 + cnt 2 + cnt 3 + cnt 4 + cnt 5
def SI (X : Nat) (s0 : sk_S) (c0 : Nat → Nat → Int32) (sI : sk_S) (cI : Nat → Nat → Int32) (u d aI pI : Nat) (wt : Nat → Int) (σ : Int) (s : sk_S) (c : Nat → Nat → Int32) (a p : Nat) (cnt : Nat → Nat) (kn : Nat) : Prop :=
  CS X s0 c0 s c u a d ∧ CF X sI cI u aI s c ∧ (∀ k, sk_c s (X + 10) k = sk_c sI (X + 10) k) ∧ (∀ j, j < 7 → (sk_c s (X + 11) j).toInt = wt j + σ * cnt j) ∧ segV (dT c) aI a (fun e => linN cnt e 6) ∧ a + pI ≤ aI + p ∧ aI < a ∧ pI + 4 * kfc cnt + 2 * kn ≤ p + 1 ∧ 1 ≤ kfc cnt + kn ∧ cnt 6 ≤ 999 * kn
def QS (X : Nat) (s0 : sk_S) (c0 : Nat → Nat → Int32) (t : Nat → Int32) (ln : Nat) (sI : sk_S) (cI : Nat → Nat → Int32) (u d aI pI : Nat) (wt : Nat → Int) (σ : Int) (S : sk_S) (C : Nat → Nat → Int32) : Prop :=
  ∃ s c p q b b' v a cnt kn, S = tS (X + 1) s q b v ∧ C = pq c p b' ∧ p ≤ ln ∧ rne isB t ln p = q ∧ SI X s0 c0 sI cI u d aI pI wt σ s c a p cnt kn
theorem lin_f (cnt e : Nat → Nat) {f : Nat} (hf : f < 6) : linN (ndS cnt f (cnt f + 1)) e 6 = linN cnt e 6 + e f := by
  have : f = 0 ∨ f = 1 ∨ f = 2 ∨ f = 3 ∨ f = 4 ∨ f = 5 := by omega
  rcases this with rfl | rfl | rfl | rfl | rfl | rfl
  · show cnt 6 + (cnt 0 + 1) * e 0 + cnt 1 * e 1 + cnt 2 * e 2 + cnt 3 * e 3 + cnt 4 * e 4 + cnt 5 * e 5 = cnt 6 + cnt 0 * e 0 + cnt 1 * e 1 + cnt 2 * e 2 + cnt 3 * e 3 + cnt 4 * e 4 + cnt 5 * e 5 + e 0
    rw [Nat.add_mul, Nat.one_mul]; omega
  · show cnt 6 + cnt 0 * e 0 + (cnt 1 + 1) * e 1 + cnt 2 * e 2 + cnt 3 * e 3 + cnt 4 * e 4 + cnt 5 * e 5 = cnt 6 + cnt 0 * e 0 + cnt 1 * e 1 + cnt 2 * e 2 + cnt 3 * e 3 + cnt 4 * e 4 + cnt 5 * e 5 + e 1
    rw [Nat.add_mul, Nat.one_mul]; omega
  · show cnt 6 + cnt 0 * e 0 + cnt 1 * e 1 + (cnt 2 + 1) * e 2 + cnt 3 * e 3 + cnt 4 * e 4 + cnt 5 * e 5 = cnt 6 + cnt 0 * e 0 + cnt 1 * e 1 + cnt 2 * e 2 + cnt 3 * e 3 + cnt 4 * e 4 + cnt 5 * e 5 + e 2
    rw [Nat.add_mul, Nat.one_mul]; omega
  · show cnt 6 + cnt 0 * e 0 + cnt 1 * e 1 + cnt 2 * e 2 + (cnt 3 + 1) * e 3 + cnt 4 * e 4 + cnt 5 * e 5 = cnt 6 + cnt 0 * e 0 + cnt 1 * e 1 + cnt 2 * e 2 + cnt 3 * e 3 + cnt 4 * e 4 + cnt 5 * e 5 + e 3
    rw [Nat.add_mul, Nat.one_mul]; omega
  · show cnt 6 + cnt 0 * e 0 + cnt 1 * e 1 + cnt 2 * e 2 + cnt 3 * e 3 + (cnt 4 + 1) * e 4 + cnt 5 * e 5 = cnt 6 + cnt 0 * e 0 + cnt 1 * e 1 + cnt 2 * e 2 + cnt 3 * e 3 + cnt 4 * e 4 + cnt 5 * e 5 + e 4
    rw [Nat.add_mul, Nat.one_mul]; omega
  · show cnt 6 + cnt 0 * e 0 + cnt 1 * e 1 + cnt 2 * e 2 + cnt 3 * e 3 + cnt 4 * e 4 + (cnt 5 + 1) * e 5 = cnt 6 + cnt 0 * e 0 + cnt 1 * e 1 + cnt 2 * e 2 + cnt 3 * e 3 + cnt 4 * e 4 + cnt 5 * e 5 + e 5
    rw [Nat.add_mul, Nat.one_mul]; omega
theorem lin_n (cnt e : Nat → Nat) (n : Nat) : linN (ndS cnt 6 (cnt 6 + n)) e 6 = linN cnt e 6 + n := by
  show cnt 6 + n + cnt 0 * e 0 + cnt 1 * e 1 + cnt 2 * e 2 + cnt 3 * e 3 + cnt 4 * e 4 + cnt 5 * e 5 = cnt 6 + cnt 0 * e 0 + cnt 1 * e 1 + cnt 2 * e 2 + cnt 3 * e 3 + cnt 4 * e 4 + cnt 5 * e 5 + n
  omega
theorem lin_le {cnt e : Nat → Nat} (he : lw_sml e) : linN cnt e 6 ≤ cnt 6 + 9 * kfc cnt := by
  obtain ⟨h0, h1, h2, h3, h4, h5, _⟩ := he
  have a0 : cnt 0 * e 0 ≤ cnt 0 * 9 := Nat.mul_le_mul_left _ (by omega)
  have a1 : cnt 1 * e 1 ≤ cnt 1 * 9 := Nat.mul_le_mul_left _ (by omega)
  have a2 : cnt 2 * e 2 ≤ cnt 2 * 9 := Nat.mul_le_mul_left _ (by omega)
  have a3 : cnt 3 * e 3 ≤ cnt 3 * 9 := Nat.mul_le_mul_left _ (by omega)
  have a4 : cnt 4 * e 4 ≤ cnt 4 * 9 := Nat.mul_le_mul_left _ (by omega)
  have a5 : cnt 5 * e 5 ≤ cnt 5 * 9 := Nat.mul_le_mul_left _ (by omega)
  show cnt 6 + cnt 0 * e 0 + cnt 1 * e 1 + cnt 2 * e 2 + cnt 3 * e 3 + cnt 4 * e 4 + cnt 5 * e 5 ≤ _
  unfold kfc
  omega
theorem kf_f (cnt : Nat → Nat) {f : Nat} (hf : f < 6) : kfc (ndS cnt f (cnt f + 1)) = kfc cnt + 1 := by
  have : f = 0 ∨ f = 1 ∨ f = 2 ∨ f = 3 ∨ f = 4 ∨ f = 5 := by omega
  rcases this with rfl | rfl | rfl | rfl | rfl | rfl
  · show cnt 0 + 1 + cnt 1 + cnt 2 + cnt 3 + cnt 4 + cnt 5 = cnt 0 + cnt 1 + cnt 2 + cnt 3 + cnt 4 + cnt 5 + 1
    omega
  · show cnt 0 + (cnt 1 + 1) + cnt 2 + cnt 3 + cnt 4 + cnt 5 = cnt 0 + cnt 1 + cnt 2 + cnt 3 + cnt 4 + cnt 5 + 1
    omega
  · show cnt 0 + cnt 1 + (cnt 2 + 1) + cnt 3 + cnt 4 + cnt 5 = cnt 0 + cnt 1 + cnt 2 + cnt 3 + cnt 4 + cnt 5 + 1
    omega
  · show cnt 0 + cnt 1 + cnt 2 + (cnt 3 + 1) + cnt 4 + cnt 5 = cnt 0 + cnt 1 + cnt 2 + cnt 3 + cnt 4 + cnt 5 + 1
    omega
  · show cnt 0 + cnt 1 + cnt 2 + cnt 3 + (cnt 4 + 1) + cnt 5 = cnt 0 + cnt 1 + cnt 2 + cnt 3 + cnt 4 + cnt 5 + 1
    omega
  · show cnt 0 + cnt 1 + cnt 2 + cnt 3 + cnt 4 + (cnt 5 + 1) = cnt 0 + cnt 1 + cnt 2 + cnt 3 + cnt 4 + cnt 5 + 1
    omega
theorem kf_n (cnt : Nat → Nat) (n : Nat) : kfc (ndS cnt 6 n) = kfc cnt := rfl
theorem kf_le (cnt : Nat → Nat) {f : Nat} (hf : f < 6) : cnt f ≤ kfc cnt := by
  unfold kfc
  have : f = 0 ∨ f = 1 ∨ f = 2 ∨ f = 3 ∨ f = 4 ∨ f = 5 := by omega
  rcases this with rfl | rfl | rfl | rfl | rfl | rfl <;> omega
section
variable {N X q b p ln b' u a d aI pI : Nat} {s0 s sI : sk_S} {v side : Int32} {t : Nat → Int32} {c0 c cI : Nat → Nat → Int32} {wt : Nat → Int} {σ : Int} {cnt : Nat → Nat} {kn : Nat}
/-- the class behind a part: is there a plus -/
def sC (N X : Nat) (side : Int32) (fuel : Nat) (S : sk_S) (i : Nat) : Option (sk_S × Int32) := (x9_takeSign N S (X + 1) 43).bind (fun zz => x4_readSum_L5 N (X + 6) (X + 1) (fun q2 x3 x4 x5 => (some (q2, 1))) fuel zz.1 side zz.2 (nI (i + 1)))
theorem w11 {f j : Nat} {x : Int32} : sk_c (sk_wc s (X + 6 + 5) f x) (X + 11) j = if j = f then x else sk_c s (X + 11) j := by
  rw [show X + 6 + 5 = X + 11 by omega, qc_eq]
  by_cases h : j = f
  · rw [h, pk_us, if_pos rfl]
  · rw [pk_un h, if_neg h]
theorem l5_step {i fuel : Nat} (hi : i < 400) :
    (∀ S1 f, f < 6 → x9_takeOneOf N (tS (X + 1) s q b v) (X + 1) (wds FL) = some (S1, nI f) → x4_readSum_L5 N (X + 6) (X + 1) (fun q2 x3 x4 x5 => (some (q2, 1))) (fuel + 1) (tS (X + 1) s q b v) side 1 (nI i) = sC N X side fuel (sk_wc S1 (X + 6 + 5) f (sk_c S1 (X + 6 + 5) f + side)) i) ∧
    (x9_takeOneOf N (tS (X + 1) s q b v) (X + 1) (wds FL) = some (tS (X + 1) s q b v, -1) → (∀ S1, x9_takeNumber N (tS (X + 1) s q b v) (X + 1) 0 999 = some (S1, 0) → x4_readSum_L5 N (X + 6) (X + 1) (fun q2 x3 x4 x5 => (some (q2, 1))) (fuel + 1) (tS (X + 1) s q b v) side 1 (nI i) = some (S1, 0)) ∧ ∀ S1, x9_takeNumber N (tS (X + 1) s q b v) (X + 1) 0 999 = some (S1, 1) → x4_readSum_L5 N (X + 6) (X + 1) (fun q2 x3 x4 x5 => (some (q2, 1))) (fuel + 1) (tS (X + 1) s q b v) side 1 (nI i) = sC N X side fuel (sk_wc S1 (X + 6 + 5) 6 (sk_c S1 (X + 6 + 5) 6 + side * sk_c S1 (X + 1) 2)) i) := by
  have es : wds FL = ([109, 111, 118, 101, 32, 108, 101, 103, 32, 111, 116, 104, 101, 114, 32, 116, 104, 105, 110, 32, 99, 97, 108, 109, 32, 119, 97, 116, 101, 114] : List Int32) := by decide
  have nle : ¬ (400 : Int32) ≤ nI i := by show ¬ nI 400 ≤ nI i; rw [zq_le (by decide) (by omega)]; omega
  rw [es]
  refine ⟨fun S1 f hf h => ?_, fun h => ⟨fun S1 h2 => ?_, fun S1 h2 => ?_⟩⟩
  · simp only [x4_readSum_L5, zq_letP]
    rw [if_neg nle, if_neg (by decide), h]
    simp only [zq_bindP]
    rw [if_neg (zq_m1 (by omega)), if_pos (zq_inBt (by omega) (by decide)), zq_cl (by omega), nI_1]
    rfl
  · simp only [x4_readSum_L5, zq_letP]
    rw [if_neg nle, if_neg (by decide), h]
    simp only [zq_bindP, ↓reduceIte]
    rw [h2]
    simp only [zq_bindP, ↓reduceIte]
  · simp only [x4_readSum_L5, zq_letP]
    rw [if_neg nle, if_neg (by decide), h]
    simp only [zq_bindP, ↓reduceIte]
    rw [h2]
    simp only [zq_bindP, d10, ↓reduceIte]
    rw [nI_1]
    rfl
theorem sg_mul (hσ : side.toInt = σ) (h1 : σ = 1 ∨ σ = -1) {n : Nat} (hn : n ≤ 999) : (side * nI n).toInt = σ * n := by
  rw [fb_mulI]
  · rw [hσ, nI_toInt (by omega)]
  · rw [hσ, nI_toInt (by omega)]; rcases h1 with rfl | rfl <;> omega
  · rw [hσ, nI_toInt (by omega)]; rcases h1 with rfl | rfl <;> omega
/-- one part more -/
theorem SI_fact (hσ : side.toInt = σ) (h1 : σ = 1 ∨ σ = -1) (hw : ∀ j, -500000 ≤ wt j ∧ wt j ≤ 500000) (hp : p ≤ 400) (h : SI X s0 c0 sI cI u d aI pI wt σ s c a p cnt kn) (h5 : aI + 5 ≤ pI) {f p' : Nat} (hf : f < 6) (hp' : p + 4 ≤ p') : SI X s0 c0 sI cI u d aI pI wt σ (sk_wc s (X + 6 + 5) f (sk_c s (X + 6 + 5) f + side)) (emS (emS c a (nI f) 0) (a + 1) 8 0) (a + 2) p' (ndS cnt f (cnt f + 1)) kn := by
  obtain ⟨i1, i2, i3, i4, i5, i6, i7, i8, i9, i10⟩ := h
  have w := i4 f (by omega)
  have hwf := hw f
  have kf := kf_le cnt hf
  refine ⟨⟨i1.1.wc _ (by unfold rdV; omega), em_rf (em_rf i1.2.1), fun k hk => ?_, ?_, em_16, ?_⟩, ?_, fun k => ?_, fun j hj => ?_, ?_, by omega, by omega, by rw [kf_f cnt hf]; omega, by rw [kf_f cnt hf]; omega, by rw [ndS_o (by omega)]; exact i10⟩
  · rw [em_1, if_neg (by omega), if_neg (by omega), em_1, if_neg (by omega), if_neg (by omega)]; exact i1.2.2.1 k hk
  · rw [qc_ne (by omega)]; exact i1.2.2.2.1
  · rw [em_0 (by decide), em_0 (by decide)]; exact i1.2.2.2.2.2
  · refine i2.tr (u1 := u) (a1 := a) ⟨fun k _ => by rw [qc_ne (by omega)], by rw [qc_ne (by omega)], by rw [qc_ne (by omega)], by rw [qc_ne (by omega)], by rw [qc_ne (by omega)], fun k h1 h2 => by rw [em_1, if_neg (by omega), if_neg (by omega), em_1, if_neg (by omega), if_neg (by omega)]⟩ (Nat.le_refl _) (by omega)
  · rw [qc_ne (by omega)]; exact i3 k
  · rw [w11]
    by_cases e : j = f
    · subst e
      rw [if_pos rfl, ndS_s]
      have w' : (sk_c s (X + 6 + 5) j).toInt = wt j + σ * cnt j := w
      rw [fb_addI (by rw [w', hσ]; rcases h1 with rfl | rfl <;> omega) (by rw [w', hσ]; rcases h1 with rfl | rfl <;> omega), w', hσ]
      rcases h1 with rfl | rfl <;> omega
    · rw [if_neg e, ndS_o e]; exact i4 j hj
  · have s1 : segV (dT (emS (emS c a (nI f) 0) (a + 1) 8 0)) aI a (fun e => linN cnt e 6) := segV_cong (fun k hk => by rw [em_T (by omega), em_T (by omega)]) i5
    have s2 : segV (dT (emS (emS c a (nI f) 0) (a + 1) 8 0)) a (a + 1) (fun e => e f) := segV_fact (by omega) (by rw [em_T (by omega), em_x])
    refine segV_bin s1 s2 (fun e he => ?_) (fun e he => ?_) (k := 8) ?_ (by decide) (by decide) (by decide) (fun e he => ?_)
    · have := lin_le (cnt := cnt) he; omega
    · obtain ⟨h0, h1, h2, h3, h4, h5, _⟩ := he
      have : f = 0 ∨ f = 1 ∨ f = 2 ∨ f = 3 ∨ f = 4 ∨ f = 5 := by omega
      rcases this with rfl | rfl | rfl | rfl | rfl | rfl <;> omega
    · rw [em_x]; rfl
    · rw [if_pos rfl, lin_f cnt e hf]
theorem SI_num (hσ : side.toInt = σ) (h1 : σ = 1 ∨ σ = -1) (hw : ∀ j, -500000 ≤ wt j ∧ wt j ≤ 500000) (hp : p ≤ 400) (h : SI X s0 c0 sI cI u d aI pI wt σ s c a p cnt kn) (h5 : aI + 5 ≤ pI) {n p' : Nat} (hn : n ≤ 999) (hp' : p + 2 ≤ p') : SI X s0 c0 sI cI u d aI pI wt σ (sk_wc s (X + 6 + 5) 6 (sk_c s (X + 6 + 5) 6 + side * nI n)) (emS (emS c a 7 (nI n)) (a + 1) 8 0) (a + 2) p' (ndS cnt 6 (cnt 6 + n)) (kn + 1) := by
  obtain ⟨i1, i2, i3, i4, i5, i6, i7, i8, i9, i10⟩ := h
  have w := i4 6 (by omega)
  have hwf := hw 6
  have sm := sg_mul hσ h1 hn
  refine ⟨⟨i1.1.wc _ (by unfold rdV; omega), em_rf (em_rf i1.2.1), fun k hk => ?_, ?_, em_16, ?_⟩, ?_, fun k => ?_, fun j hj => ?_, ?_, by omega, by omega, by rw [kf_n]; omega, by omega, by rw [ndS_s]; omega⟩
  · rw [em_1, if_neg (by omega), if_neg (by omega), em_1, if_neg (by omega), if_neg (by omega)]; exact i1.2.2.1 k hk
  · rw [qc_ne (by omega)]; exact i1.2.2.2.1
  · rw [em_0 (by decide), em_0 (by decide)]; exact i1.2.2.2.2.2
  · refine i2.tr (u1 := u) (a1 := a) ⟨fun k _ => by rw [qc_ne (by omega)], by rw [qc_ne (by omega)], by rw [qc_ne (by omega)], by rw [qc_ne (by omega)], by rw [qc_ne (by omega)], fun k h1 h2 => by rw [em_1, if_neg (by omega), if_neg (by omega), em_1, if_neg (by omega), if_neg (by omega)]⟩ (Nat.le_refl _) (by omega)
  · rw [qc_ne (by omega)]; exact i3 k
  · rw [w11]
    by_cases e : j = 6
    · subst e
      rw [if_pos rfl, ndS_s]
      have w' : (sk_c s (X + 6 + 5) 6).toInt = wt 6 + σ * cnt 6 := w
      rw [fb_addI (by rw [w', sm]; rcases h1 with rfl | rfl <;> omega) (by rw [w', sm]; rcases h1 with rfl | rfl <;> omega), w', sm]
      rcases h1 with rfl | rfl <;> omega
    · rw [if_neg e, ndS_o e]; exact i4 j hj
  · have s1 : segV (dT (emS (emS c a 7 (nI n)) (a + 1) 8 0)) aI a (fun e => linN cnt e 6) := segV_cong (fun k hk => by rw [em_T (by omega), em_T (by omega)]) i5
    have s2 : segV (dT (emS (emS c a 7 (nI n)) (a + 1) 8 0)) a (a + 1) (fun _ => n) := segV_told hn (by rw [em_T (by omega), em_x]; rfl) (by rw [em_T (by omega), em_y])
    refine segV_bin s1 s2 (fun e he => ?_) (fun e he => by omega) (k := 8) ?_ (by decide) (by decide) (by decide) (fun e he => ?_)
    · have := lin_le (cnt := cnt) he; omega
    · rw [em_x]; rfl
    · rw [if_pos rfl, lin_n cnt e n]
theorem sum_loop (hN : 2000 ≤ N) (C : tcC (X + 1) s0 t ln) (C' : tcR c0 t ln) (hσ : side.toInt = σ) (h1 : σ = 1 ∨ σ = -1) (hw : ∀ j, -500000 ≤ wt j ∧ wt j ≤ 500000) (h5 : aI + 5 ≤ pI) : ∀ (r : Nat) (s : sk_S) (c : Nat → Nat → Int32) (p q b b' : Nat) (v : Int32) (a : Nat) (cnt : Nat → Nat) (kn i fuel fuel' : Nat), ln - q ≤ r → SI X s0 c0 sI cI u d aI pI wt σ s c a p cnt kn → p ≤ ln → rne isB t ln p = q → i + 1 ≤ p → r + 2 < fuel → r + 2 < fuel' → bth (flL X s0 c0) (QS X s0 c0 t ln sI cI u d aI pI wt σ) (sC N X side fuel (tS (X + 1) s q b v) i) (md_readSum_L9 N (fun q7 => (some (q7, 1))) fuel' (pq c p b')) := by
  have h4 := C.2.2.2
  intro r
  induction r with
  | zero =>
    intro s c p q b b' v a cnt kn i fuel fuel' hr I hp hq hi hf hf'
    obtain ⟨fuel, rfl⟩ : ∃ q, fuel = q + 1 := ⟨fuel - 1, by omega⟩
    obtain ⟨fuel', rfl⟩ : ∃ q, fuel' = q + 1 := ⟨fuel' - 1, by omega⟩
    have hq' : q ≤ ln := by rw [← hq]; exact rne_le hp
    have C1 := tcC_fr C I.1.1
    have C1' := tcR_fr C' I.1.2.1
    rcases sg_both (N := N) (b := b) (b' := b') (v := v) (by omega) C1 C1' hp hq 43 with ⟨g1, g2, g3⟩ | ⟨g1, _⟩
    · unfold sC
      simp only [md_readSum_L9]
      rw [g1, g2]
      simp only [zq_bindP, x4_readSum_L5, ↓reduceIte, ite_self]
      exact bth_t ⟨s, c, q, q, b, q, v, a, cnt, kn, rfl, rfl, hq', by rw [← hq]; exact rne_idem, by
        obtain ⟨i1, i2, i3, i4, i5, i6, i7, i8, i9, i10⟩ := I
        have := rne_ge (P := isB) (t := t) (ln := ln) (p := p)
        rw [hq] at this
        exact ⟨i1, i2, i3, i4, i5, by omega, i7, by omega, i9, i10⟩⟩
    · omega
  | succ r ih =>
    intro s c p q b b' v a cnt kn i fuel fuel' hr I hp hq hi hf hf'
    obtain ⟨fuel, rfl⟩ : ∃ q, fuel = q + 1 := ⟨fuel - 1, by omega⟩
    obtain ⟨fuel', rfl⟩ : ∃ q, fuel' = q + 1 := ⟨fuel' - 1, by omega⟩
    have hq' : q ≤ ln := by rw [← hq]; exact rne_le hp
    have hge := rne_ge (P := isB) (t := t) (ln := ln) (p := p)
    rw [hq] at hge
    have C1 := tcC_fr C I.1.1
    have C1' := tcR_fr C' I.1.2.1
    obtain ⟨i1, i2, i3, i4, i5, i6, i7, i8, i9, i10⟩ := id I
    rcases sg_both (N := N) (b := b) (b' := b') (v := v) (by omega) C1 C1' hp hq 43 with ⟨g1, g2, g3⟩ | ⟨g1, g2, g3, g4⟩
    · unfold sC
      simp only [md_readSum_L9]
      rw [g1, g2]
      simp only [zq_bindP, x4_readSum_L5, ↓reduceIte, ite_self]
      exact bth_t ⟨s, c, q, q, b, q, v, a, cnt, kn, rfl, rfl, hq', by rw [← hq]; exact rne_idem, ⟨i1, i2, i3, i4, i5, by omega, i7, by omega, i9, i10⟩⟩
    · have I' : SI X s0 c0 sI cI u d aI pI wt σ s c a q cnt kn := ⟨i1, i2, i3, i4, i5, by omega, i7, by omega, i9, i10⟩
      have hge2 := rne_ge (P := isB) (t := t) (ln := ln) (p := q + 1)
      have hle2 : rne isB t ln (q + 1) ≤ ln := rne_le g1
      unfold sC
      simp only [md_readSum_L9]
      rw [g3, g4]
      simp only [zq_bindP, d10, ↓reduceIte]
      have st := l5_step (N := N) (X := X) (s := s) (q := rne isB t ln (q + 1)) (b := q) (v := v) (side := side) (i := i + 1) (fuel := fuel) (by omega)
      rcases part_both (N := N) (b := q) (b' := q) (v := v) hN C C' i1 (by omega) (p := q + 1) g1 rfl with ⟨o1, o2, K, o3, o4⟩ | ⟨f, L, f1, f2, f3, f4, f5⟩ | ⟨n, D, f1, f2, f3, f4, f6, f5⟩
      · rw [(st.2 o1).1 _ o2, o3]
        simp only [zq_bindP, ↓reduceIte]
        exact bth_f o4
      · have em := em_ok (c := emS c a (nI f) 0) (a := a + 1) (p := rne isB t ln (q + 1) + L) (b := rne isB t ln (q + 1)) (x := 8) (y := 0) em_16 (by omega)
        have I2 := SI_fact hσ h1 hw (by omega) I' h5 f1 (p' := rne isB t ln (q + 1) + L) (by omega)
        have := rne_ge (P := isB) (t := t) (ln := ln) (p := rne isB t ln (q + 1) + L)
        rw [st.1 _ f f1 f4, f5, tS_n (by omega), tS_wn (by omega)]
        simp only [zq_bindP, zq_letP, d10, ↓reduceIte]
        rw [if_pos em.1, if_pos em.2.1, em.2.2]
        exact ih _ _ _ _ _ _ _ _ _ _ (i + 1) fuel fuel' (by omega) I2 f3 rfl (by omega) (by omega) (by omega)
      · have em := em_ok (c := emS c a 7 (nI n)) (a := a + 1) (p := rne isB t ln (q + 1) + D) (b := rne isB t ln (q + 1)) (x := 8) (y := 0) em_16 (by omega)
        have I2 := SI_num hσ h1 hw (by omega) I' h5 f1 (p' := rne isB t ln (q + 1) + D) (by omega)
        have := rne_ge (P := isB) (t := t) (ln := ln) (p := rne isB t ln (q + 1) + D)
        rw [(st.2 f4).2 _ f6, f5, tS_2, tS_n (by omega), tS_wn (by omega)]
        simp only [zq_bindP, zq_letP, d10, ↓reduceIte]
        rw [if_pos em.1, if_pos em.2.1, em.2.2]
        exact ih _ _ _ _ _ _ _ _ _ _ (i + 1) fuel fuel' (by omega) I2 f3 rfl (by omega) (by omega) (by omega)
theorem sum_both (hN : 100000 ≤ N) (C : tcC (X + 1) s0 t ln) (C' : tcR c0 t ln) (l4 : lay_X4 (sk_K s0) (sk_r s0) (X + 6) = true) (hσ : side.toInt = σ) (h1 : σ = 1 ∨ σ = -1) (hw : ∀ j, -500000 ≤ wt j ∧ wt j ≤ 500000) (H : CS X s0 c0 s c u a d) (h5 : a + 5 ≤ p) (hwt : ∀ j, j < 7 → (sk_c s (X + 11) j).toInt = wt j) (hp : p ≤ ln) (hq : rne isB t ln p = q) : bth (flL X s0 c0) (QS X s0 c0 t ln s c u d a p wt σ) (x4_readSum N (tS (X + 1) s q b v) (X + 6) (X + 1) side) (md_readSum N (pq c p b')) := by
  have h4 := C.2.2.2
  have hq' : q ≤ ln := by rw [← hq]; exact rne_le hp
  have hge := rne_ge (P := isB) (t := t) (ln := ln) (p := p)
  rw [hq] at hge
  have l4' : lay_X4 (sk_K (tS (X + 1) s q b v)) (sk_r (tS (X + 1) s q b v)) (X + 6) = true := lay4_fr l4 H.1.tS
  have l9' : lay_X9 (sk_K (tS (X + 1) s q b v)) (sk_r (tS (X + 1) s q b v)) (X + 1) = true := (tcC_fr C H.1).1
  unfold x4_readSum md_readSum
  rw [if_pos l4', if_pos l9']
  obtain ⟨M, rfl⟩ : ∃ M, N = M + 1 := ⟨N - 1, by omega⟩
  have st := l5_step (N := M + 1) (X := X) (s := s) (q := q) (b := b) (v := v) (side := side) (i := 0) (fuel := M) (by decide)
  have st0 : ∀ r, x4_readSum_L5 (M + 1) (X + 6) (X + 1) (fun q2 x3 x4 x5 => (some (q2, 1))) (M + 1) (tS (X + 1) s q b v) side 1 (nI 0) = r → x4_readSum_L5 (M + 1) (X + 6) (X + 1) (fun q2 x3 x4 x5 => (some (q2, 1))) (M + 1) (tS (X + 1) s q b v) side 1 0 = r := fun r h => h
  rcases part_both (N := M + 1) (b := b) (b' := b') (v := v) (by omega) C C' H (by omega) hp hq with ⟨o1, o2, K, o3, o4⟩ | ⟨f, L, f1, f2, f3, f4, f5⟩ | ⟨n, D, f1, f2, f3, f4, f6, f5⟩
  · rw [st0 _ ((st.2 o1).1 _ o2), o3]
    simp only [zq_bindP, ↓reduceIte]
    exact bth_f o4
  · have w := hwt f (by omega)
    have hwf := hw f
    rw [st0 _ (st.1 _ f f1 f4), f5, tS_n (by omega), tS_wn (by omega)]
    simp only [zq_bindP, d10, ↓reduceIte]
    have I : SI X s0 c0 s c u d a p wt σ (sk_wc s (X + 6 + 5) f (sk_c s (X + 6 + 5) f + side)) (emS c a (nI f) 0) (a + 1) (q + L) (ndS (fun _ => 0) f 1) 0 := by
      have kf : kfc (ndS (fun _ => 0) f 1) = 1 := kf_f (fun _ => 0) f1
      refine ⟨⟨H.1.wc _ (by unfold rdV; omega), em_rf H.2.1, (em_CS H).2.2.1, by rw [qc_ne (by omega)]; exact H.2.2.2.1, em_16, (em_CS H).2.2.2.2.2⟩, ⟨fun k _ => by rw [qc_ne (by omega)], by rw [qc_ne (by omega)], by rw [qc_ne (by omega)], by rw [qc_ne (by omega)], by rw [qc_ne (by omega)], em_CF (X := X) (s := s) (u := u).2.2.2.2.2⟩, fun k => by rw [qc_ne (by omega)], fun j hj => ?_, ?_, by omega, by omega, by rw [kf]; omega, by rw [kf]; omega, by rw [ndS_o (by omega)]; omega⟩
      · rw [w11]
        by_cases e : j = f
        · subst e
          rw [if_pos rfl, ndS_s]
          have w' : (sk_c s (X + 6 + 5) j).toInt = wt j := w
          rw [fb_addI (by rw [w', hσ]; rcases h1 with rfl | rfl <;> omega) (by rw [w', hσ]; rcases h1 with rfl | rfl <;> omega), w', hσ]
          rcases h1 with rfl | rfl <;> omega
        · rw [if_neg e, ndS_o e, hwt j hj]; omega
      · refine segV_ext (segV_fact (k := f) (by omega) em_x) (fun e he => ?_)
        have := lin_f (fun _ => 0) e f1
        have z : linN (fun _ => 0) e 6 = 0 := by
          show 0 + 0 * e 0 + 0 * e 1 + 0 * e 2 + 0 * e 3 + 0 * e 4 + 0 * e 5 = 0
          omega
        rw [z] at this
        show linN (ndS (fun _ => 0) f 1) e 6 = e f
        rw [show (ndS (fun _ => 0) f 1) = ndS (fun _ => 0) f (0 + 1) from rfl, this]; omega
    exact sum_loop (N := M + 1) (by omega) C C' hσ h1 hw h5 (ln - rne isB t ln (q + L)) _ _ (q + L) _ _ _ _ _ _ _ 0 M (M + 1) (Nat.le_refl _) I f3 rfl (by omega) (by omega) (by omega)
  · have w := hwt 6 (by omega)
    have hwf := hw 6
    have sm := sg_mul hσ h1 f1
    rw [st0 _ ((st.2 f4).2 _ f6), f5, tS_2, tS_n (by omega), tS_wn (by omega)]
    simp only [zq_bindP, d10, ↓reduceIte]
    have I : SI X s0 c0 s c u d a p wt σ (sk_wc s (X + 6 + 5) 6 (sk_c s (X + 6 + 5) 6 + side * nI n)) (emS c a 7 (nI n)) (a + 1) (q + D) (ndS (fun _ => 0) 6 n) 1 := by
      have kf : kfc (ndS (fun _ => 0) 6 n) = 0 := rfl
      refine ⟨⟨H.1.wc _ (by unfold rdV; omega), em_rf H.2.1, (em_CS H).2.2.1, by rw [qc_ne (by omega)]; exact H.2.2.2.1, em_16, (em_CS H).2.2.2.2.2⟩, ⟨fun k _ => by rw [qc_ne (by omega)], by rw [qc_ne (by omega)], by rw [qc_ne (by omega)], by rw [qc_ne (by omega)], by rw [qc_ne (by omega)], em_CF (X := X) (s := s) (u := u).2.2.2.2.2⟩, fun k => by rw [qc_ne (by omega)], fun j hj => ?_, ?_, by omega, by omega, by rw [kf]; omega, by rw [kf]; omega, by rw [ndS_s]; omega⟩
      · rw [w11]
        by_cases e : j = 6
        · subst e
          rw [if_pos rfl, ndS_s]
          have w' : (sk_c s (X + 6 + 5) 6).toInt = wt 6 := w
          rw [fb_addI (by rw [w', sm]; rcases h1 with rfl | rfl <;> omega) (by rw [w', sm]; rcases h1 with rfl | rfl <;> omega), w', sm]
        · rw [if_neg e, ndS_o e, hwt j hj]; omega
      · refine segV_ext (segV_told f1 em_x em_y) (fun e he => ?_)
        show n + 0 * e 0 + 0 * e 1 + 0 * e 2 + 0 * e 3 + 0 * e 4 + 0 * e 5 = n
        omega
    exact sum_loop (N := M + 1) (by omega) C C' hσ h1 hw h5 (ln - rne isB t ln (q + D)) _ _ (q + D) _ _ _ _ _ _ _ 0 M (M + 1) (Nat.le_refl _) I f3 rfl (by omega) (by omega) (by omega)
end
