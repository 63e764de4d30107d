/-! A TEXT OF THE BEACH, by both readers -/
def okS (k v : Nat) : Prop := (k ≤ 1 ∧ v ≤ 9) ∨ (k = 2 ∧ v ≤ 5) ∨ (4 ≤ k ∧ k ≤ 5 ∧ v ≤ 9) ∨ (k = 8 ∧ v ≤ 999) ∨ (k = 9 ∧ v ≤ 100) ∨ (k = 10 ∧ v ≤ 63) ∨ (k = 11 ∧ v ≤ 9) ∨ (17 ≤ k ∧ k < 45 ∧ (((k % 4 = 1 ∨ k % 4 = 2) ∧ v ≤ 9) ∨ (k % 4 = 3 ∧ v ≤ 5) ∨ (k % 4 = 0 ∧ 1 ≤ v ∧ v ≤ 30))) ∨ (45 ≤ k ∧ k < 237 ∧ ((k % 3 = 0 ∧ v ≤ 9) ∨ v ≤ 1)) ∨ (237 ≤ k ∧ k < 249 ∧ ((k % 2 = 1 ∧ 1 ≤ v ∧ v ≤ 9) ∨ (k % 2 = 0 ∧ v ≤ 63)))
theorem wd_set {W : Nat → Nat} {k v : Nat} (h : wd W) (o : okS k v) : wd (ndS W k v) := by
  unfold okS at o
  obtain ⟨⟨b0, b1, b2, b3, b4, b5, b6, b7, b8, b9, b10, b11, b12, b13, b14, b15⟩, a, b, d, e⟩ := h
  have hb : ∀ q B, W q ≤ B → (q = k → v ≤ B) → ndS W k v q ≤ B := fun q B h1 h2 => by
    unfold ndS
    split
    · exact h2 (by assumption)
    · exact h1
  have hl : ∀ q, 1 ≤ W q → (q = k → 1 ≤ v) → 1 ≤ ndS W k v q := fun q h1 h2 => by
    unfold ndS
    split
    · exact h2 (by assumption)
    · exact h1
  have e12 : ndS W k v 12 = W 12 := by unfold ndS; rw [if_neg (by omega)]
  refine ⟨⟨hb 0 9 b0 (by omega), hb 1 9 b1 (by omega), hb 2 5 b2 (by omega), hb 3 1 b3 (by omega), hb 4 9 b4 (by omega), hb 5 9 b5 (by omega), hb 6 999 b6 (by omega), hb 7 9999 b7 (by omega), hb 8 999 b8 (by omega), hb 9 100 b9 (by omega), hb 10 63 b10 (by omega), hb 11 9 b11 (by omega), hb 12 6 b12 (by omega), hb 13 12 b13 (by omega), hb 14 1 b14 (by omega), hb 15 60 b15 (by omega)⟩, fun q hq => ?_, fun q hq => ?_, fun q hq => ?_, fun q hq => ?_⟩
  · obtain ⟨a1, a2, a3, a4, a5⟩ := a q hq
    exact ⟨hb _ _ a1 (by omega), hb _ _ a2 (by omega), hb _ _ a3 (by omega), hl _ a4 (by omega), hb _ _ a5 (by omega)⟩
  · obtain ⟨a1, a2, a3⟩ := b q hq
    exact ⟨hb _ _ a1 (by omega), hb _ _ a2 (by omega), hb _ _ a3 (by omega)⟩
  · obtain ⟨a1, a2, a3⟩ := d q hq
    rw [e12]
    exact ⟨hb _ _ a1 (by omega), hb _ _ a2 (by omega), fun h => hl _ (a3 h) (by omega)⟩
  · obtain ⟨a1, a2, a3, a4, a5⟩ := e q hq
    exact ⟨hb _ _ a1 (by omega), hb _ _ a2 (by omega), hb _ _ a3 (by omega), hb _ _ a4 (by omega), hb _ _ a5 (by omega)⟩
theorem ndS_o {W : Nat → Nat} {k v q : Nat} (h : q ≠ k) : ndS W k v q = W q := by unfold ndS; rw [if_neg h]
theorem ndS_s {W : Nat → Nat} {k v : Nat} : ndS W k v k = v := by unfold ndS; rw [if_pos rfl]
theorem wd_per {W : Nat → Nat} (h : wd W) (h6 : W 12 < 6) (h1 : 1 ≤ W (237 + 2 * W 12)) : wd (ndS W 12 (W 12 + 1)) := by
  obtain ⟨⟨b0, b1, b2, b3, b4, b5, b6, b7, b8, b9, b10, b11, b12, b13, b14, b15⟩, a, b, d, e⟩ := h
  have o : ∀ q, q ≠ 12 → ndS W 12 (W 12 + 1) q = W q := fun q h => ndS_o h
  refine ⟨?_, fun q hq => ?_, fun q hq => ?_, fun q hq => ?_, fun q hq => ?_⟩
  · rw [o 0 (by decide), o 1 (by decide), o 2 (by decide), o 3 (by decide), o 4 (by decide), o 5 (by decide), o 6 (by decide), o 7 (by decide), o 8 (by decide), o 9 (by decide), o 10 (by decide), o 11 (by decide), ndS_s, o 13 (by decide), o 14 (by decide), o 15 (by decide)]
    exact ⟨b0, b1, b2, b3, b4, b5, b6, b7, b8, b9, b10, b11, by omega, b13, b14, b15⟩
  · rw [o _ (by omega), o _ (by omega), o _ (by omega), o _ (by omega)]; exact a q hq
  · rw [o _ (by omega), o _ (by omega), o _ (by omega)]; exact b q hq
  · rw [o _ (by omega), o _ (by omega), ndS_s]
    obtain ⟨d1, d2, d3⟩ := d q hq
    refine ⟨d1, d2, fun h => ?_⟩
    by_cases e : q = W 12
    · subst e; exact h1
    · exact d3 (by omega)
  · rw [o _ (by omega), o _ (by omega), o _ (by omega), o _ (by omega), o _ (by omega)]; exact e q hq
theorem κ12 {κ : Nat} (h : κ ≤ 12) : κ = 0 ∨ κ = 1 ∨ κ = 2 ∨ κ = 3 ∨ κ = 4 ∨ κ = 5 ∨ κ = 6 ∨ κ = 7 ∨ κ = 8 ∨ κ = 9 ∨ κ = 10 ∨ κ = 11 ∨ κ = 12 := by omega
theorem wd_ln {W : Nat → Nat} {κ : Nat} {n : Nat → Nat} (h : wd W) (hv : lnV κ n W) (hκ : κ ≤ 12) : wd (lnW κ n W) := by
  rcases κ12 hκ with rfl | rfl | rfl | rfl | rfl | rfl | rfl | rfl | rfl | rfl | rfl | rfl | rfl
  · have hv : n 0 ≤ 9 ∧ n 1 ≤ 9 := hv
    exact wd_set (wd_set h (by unfold okS; omega)) (by unfold okS; omega)
  · have hv : n 0 ≤ 5 := hv
    exact wd_set h (by unfold okS; omega)
  · have hv : n 0 ≤ 9 := hv
    exact wd_set h (by unfold okS; omega)
  · have hv : n 0 ≤ 9 := hv
    exact wd_set h (by unfold okS; omega)
  · have hv : n 0 ≤ 999 := hv
    exact wd_set h (by unfold okS; omega)
  · have hv : n 0 ≤ 100 := hv
    exact wd_set h (by unfold okS; omega)
  · have hv : n 0 ≤ 6 ∧ n 1 ≤ 9 ∧ n 2 ≤ 9 ∧ n 3 ≤ 5 ∧ 1 ≤ n 4 ∧ n 4 ≤ 30 := hv
    exact wd_set (wd_set (wd_set (wd_set h (by unfold okS; omega)) (by unfold okS; omega)) (by unfold okS; omega)) (by unfold okS; omega)
  · have hv : n 0 ≤ 7 ∧ n 1 ≤ 7 ∧ n 2 ≤ 9 := hv
    exact wd_set h (by unfold okS; omega)
  · have hv : n 0 ≤ 7 ∧ n 1 ≤ 7 := hv
    exact wd_set h (by unfold okS; omega)
  · have hv : n 0 ≤ 7 ∧ n 1 ≤ 7 := hv
    exact wd_set h (by unfold okS; omega)
  · have hv : n 0 ≤ 7 ∧ n 1 ≤ 7 := hv
    exact wd_set h (by unfold okS; omega)
  · have hv : n 0 ≤ 9 := hv
    exact wd_set h (by unfold okS; omega)
  · have hv : 1 ≤ n 0 ∧ n 0 ≤ 9 ∧ n 1 ≤ 7 ∧ n 2 ≤ 7 ∧ W 12 < 6 := hv
    have h2 : wd (ndS (ndS W (237 + 2 * W 12) (n 0)) (238 + 2 * W 12) (8 * n 2 + n 1)) := wd_set (wd_set h (by unfold okS; omega)) (by unfold okS; omega)
    have e12 : ndS (ndS W (237 + 2 * W 12) (n 0)) (238 + 2 * W 12) (8 * n 2 + n 1) 12 = W 12 := by rw [ndS_o (by omega), ndS_o (by omega)]
    have h3 := wd_per h2 (by rw [e12]; omega) (by rw [e12, ndS_o (by omega), ndS_s]; omega)
    rw [e12] at h3
    exact h3
theorem ln_12 {W : Nat → Nat} {κ : Nat} {n : Nat → Nat} (hκ : κ ≤ 12) : lnW κ n W 12 = if κ = 12 then W 12 + 1 else W 12 := by
  rcases κ12 hκ with rfl | rfl | rfl | rfl | rfl | rfl | rfl | rfl | rfl | rfl | rfl | rfl | rfl
  · show ndS (ndS W 0 (n 0)) 1 (n 1) 12 = _
    rw [ndS_o (by decide), ndS_o (by decide), if_neg (by decide)]
  · show ndS W 2 (n 0) 12 = _
    rw [ndS_o (by decide), if_neg (by decide)]
  · show ndS W 4 (n 0) 12 = _
    rw [ndS_o (by decide), if_neg (by decide)]
  · show ndS W 5 (n 0) 12 = _
    rw [ndS_o (by decide), if_neg (by decide)]
  · show ndS W 8 (n 0) 12 = _
    rw [ndS_o (by decide), if_neg (by decide)]
  · show ndS W 9 (n 0) 12 = _
    rw [ndS_o (by decide), if_neg (by decide)]
  · show ndS (ndS (ndS (ndS W (17 + 4 * n 0) (n 1)) (18 + 4 * n 0) (n 2)) (19 + 4 * n 0) (n 3)) (20 + 4 * n 0) (n 4) 12 = _
    rw [ndS_o (by omega), ndS_o (by omega), ndS_o (by omega), ndS_o (by omega), if_neg (by decide)]
  · show ndS W (45 + 3 * (8 * n 1 + n 0)) (n 2) 12 = _
    rw [ndS_o (by omega), if_neg (by decide)]
  · show ndS W (46 + 3 * (8 * n 1 + n 0)) 1 12 = _
    rw [ndS_o (by omega), if_neg (by decide)]
  · show ndS W (47 + 3 * (8 * n 1 + n 0)) 1 12 = _
    rw [ndS_o (by omega), if_neg (by decide)]
  · show ndS W 10 (8 * n 1 + n 0) 12 = _
    rw [ndS_o (by decide), if_neg (by decide)]
  · show ndS W 11 (n 0) 12 = _
    rw [ndS_o (by decide), if_neg (by decide)]
  · show ndS (ndS (ndS W (237 + 2 * W 12) (n 0)) (238 + 2 * W 12) (8 * n 2 + n 1)) 12 (W 12 + 1) 12 = _
    rw [ndS_s, if_pos rfl]
/-- the world behind i lines -/
def fW (W0 : Nat → Nat) (kd : Nat → Nat) (nm : Nat → Nat → Nat) : Nat → Nat → Nat
  | 0 => W0
  | i + 1 => lnW (kd i) (nm i) (fW W0 kd nm i)
theorem fW_cong {W0 kd kd' : Nat → Nat} {nm nm' : Nat → Nat → Nat} : ∀ l, (∀ i, i < l → kd' i = kd i ∧ nm' i = nm i) → fW W0 kd' nm' l = fW W0 kd nm l
  | 0, _ => rfl
  | l + 1, h => by
    have i := fW_cong (W0 := W0) l (fun i hi => h i (by omega))
    have e := h l (by omega)
    show lnW (kd' l) (nm' l) (fW W0 kd' nm' l) = lnW (kd l) (nm l) (fW W0 kd nm l)
    rw [i, e.1, e.2]
/-- l lines have been read -/
def LI (X : Nat) (s0 : sk_S) (c0 : Nat → Nat → Int32) (W0 : Nat → Nat) (sd : Int32) (l : Nat) (s : sk_S) (c : Nat → Nat → Int32) : Prop :=
  ∃ kd nm, (∀ i, i < l → sk_c s (X + 4) i = nI (kd i) ∧ kd i ≤ 12 ∧ (∀ j, j < lnC (kd i) → sk_c s (X + 5) (i * 5 + j) = nI (nm i j)) ∧ lnV (kd i) (nm i) (fW W0 kd nm i)) ∧
    sk_c s (X + 3) 2 = nI l ∧ sk_c s (X + 3) 4 = nI (fW W0 kd nm l 12) ∧ cfr (rdV X) s0 s ∧ rfr c0 c ∧ wv (c 1) (fW W0 kd nm l) sd ∧ wd (fW W0 kd nm l)
def KL : List (List Int32) := [[108, 101, 103, 115], [116, 104, 105, 110], [99, 97, 108, 109], [119, 97, 116, 101, 114], [116, 105, 100, 101], [115, 108, 105, 112], [109, 111, 118, 101], [98, 101, 97, 114, 115], [104, 101, 97, 112], [115, 104, 105, 110, 101], [104, 111, 108, 101], [98, 111, 97, 114, 100, 115], [112, 101, 114, 115, 111, 110]]
theorem KL_32 : ∀ w, w ∈ KL → ∀ i, i < w.length → st_ch (w.getD i 0) ≠ 32 := by decide
theorem KL_s : ∀ i, i < 13 → ∀ j, j < 13 → i ≠ j → ¬ ((KL.getD i []).length = (KL.getD j []).length ∧ ∀ k, k < (KL.getD i []).length → st_ch ((KL.getD i []).getD k 0) = st_ch ((KL.getD j []).getD k 0)) := by decide +kernel
theorem KL_l : ∀ j, j < 13 → (KL.getD j []).length < 1000 := by decide
theorem wq_two {t : Nat → Int32} {q L : Nat} {w w' : List Int32} (h : wq t q L w) (h' : wq t q L w') : w.length = w'.length ∧ ∀ k, k < w.length → st_ch (w.getD k 0) = st_ch (w'.getD k 0) := by
  have e : w.length = w'.length := h.1.symm.trans h'.1
  exact ⟨e, fun k hk => (h.2 k hk).symm.trans (h'.2 k (by omega))⟩
section
variable {N X q b p ln b' l k : Nat} {s0 s s1 s' : sk_S} {v : Int32} {t : Nat → Int32} {c0 c c' c1 : Nat → Nat → Int32} {n : Nat → Nat} {W W0 : Nat → Nat} {sd : Int32}
set_option maxRecDepth 20000 in
theorem blc_0 (h : ∀ j, j < 13 → md_isWord N c1 (KL.getD j []) = some (c1, if j = 0 then 1 else 0)) : md_readBeachLine N c1 = mdK N 0 c1 := by
  have f0 : md_isWord N c1 [108, 101, 103, 115] = some (c1, 1) := h 0 (by decide)
  clear h
  unfold md_readBeachLine mdK
  simp only [f0, zq_bindP, d00, d10, ↓reduceIte]
set_option maxRecDepth 20000 in
theorem blc_1 (h : ∀ j, j < 13 → md_isWord N c1 (KL.getD j []) = some (c1, if j = 1 then 1 else 0)) : md_readBeachLine N c1 = mdK N 1 c1 := by
  have f0 : md_isWord N c1 [108, 101, 103, 115] = some (c1, 0) := h 0 (by decide)
  have f1 : md_isWord N c1 [116, 104, 105, 110] = some (c1, 1) := h 1 (by decide)
  clear h
  unfold md_readBeachLine mdK
  simp only [f0, f1, zq_bindP, d00, d10, ↓reduceIte]
set_option maxRecDepth 20000 in
theorem blc_2 (h : ∀ j, j < 13 → md_isWord N c1 (KL.getD j []) = some (c1, if j = 2 then 1 else 0)) : md_readBeachLine N c1 = mdK N 2 c1 := by
  have f0 : md_isWord N c1 [108, 101, 103, 115] = some (c1, 0) := h 0 (by decide)
  have f1 : md_isWord N c1 [116, 104, 105, 110] = some (c1, 0) := h 1 (by decide)
  have f2 : md_isWord N c1 [99, 97, 108, 109] = some (c1, 1) := h 2 (by decide)
  clear h
  unfold md_readBeachLine mdK
  simp only [f0, f1, f2, zq_bindP, d00, d10, ↓reduceIte]
set_option maxRecDepth 20000 in
theorem blc_3 (h : ∀ j, j < 13 → md_isWord N c1 (KL.getD j []) = some (c1, if j = 3 then 1 else 0)) : md_readBeachLine N c1 = mdK N 3 c1 := by
  have f0 : md_isWord N c1 [108, 101, 103, 115] = some (c1, 0) := h 0 (by decide)
  have f1 : md_isWord N c1 [116, 104, 105, 110] = some (c1, 0) := h 1 (by decide)
  have f2 : md_isWord N c1 [99, 97, 108, 109] = some (c1, 0) := h 2 (by decide)
  have f3 : md_isWord N c1 [119, 97, 116, 101, 114] = some (c1, 1) := h 3 (by decide)
  clear h
  unfold md_readBeachLine mdK
  simp only [f0, f1, f2, f3, zq_bindP, d00, d10, ↓reduceIte]
set_option maxRecDepth 20000 in
theorem blc_4 (h : ∀ j, j < 13 → md_isWord N c1 (KL.getD j []) = some (c1, if j = 4 then 1 else 0)) : md_readBeachLine N c1 = mdK N 4 c1 := by
  have f0 : md_isWord N c1 [108, 101, 103, 115] = some (c1, 0) := h 0 (by decide)
  have f1 : md_isWord N c1 [116, 104, 105, 110] = some (c1, 0) := h 1 (by decide)
  have f2 : md_isWord N c1 [99, 97, 108, 109] = some (c1, 0) := h 2 (by decide)
  have f3 : md_isWord N c1 [119, 97, 116, 101, 114] = some (c1, 0) := h 3 (by decide)
  have f4 : md_isWord N c1 [116, 105, 100, 101] = some (c1, 1) := h 4 (by decide)
  clear h
  unfold md_readBeachLine mdK
  simp only [f0, f1, f2, f3, f4, zq_bindP, d00, d10, ↓reduceIte]
set_option maxRecDepth 20000 in
theorem blc_5 (h : ∀ j, j < 13 → md_isWord N c1 (KL.getD j []) = some (c1, if j = 5 then 1 else 0)) : md_readBeachLine N c1 = mdK N 5 c1 := by
  have f0 : md_isWord N c1 [108, 101, 103, 115] = some (c1, 0) := h 0 (by decide)
  have f1 : md_isWord N c1 [116, 104, 105, 110] = some (c1, 0) := h 1 (by decide)
  have f2 : md_isWord N c1 [99, 97, 108, 109] = some (c1, 0) := h 2 (by decide)
  have f3 : md_isWord N c1 [119, 97, 116, 101, 114] = some (c1, 0) := h 3 (by decide)
  have f4 : md_isWord N c1 [116, 105, 100, 101] = some (c1, 0) := h 4 (by decide)
  have f6 : md_isWord N c1 [109, 111, 118, 101] = some (c1, 0) := h 6 (by decide)
  have f5 : md_isWord N c1 [115, 108, 105, 112] = some (c1, 1) := h 5 (by decide)
  clear h
  unfold md_readBeachLine mdK
  simp only [f0, f1, f2, f3, f4, f6, f5, zq_bindP, d00, d10, ↓reduceIte]
set_option maxRecDepth 20000 in
theorem blc_6 (h : ∀ j, j < 13 → md_isWord N c1 (KL.getD j []) = some (c1, if j = 6 then 1 else 0)) : md_readBeachLine N c1 = mdK N 6 c1 := by
  have f0 : md_isWord N c1 [108, 101, 103, 115] = some (c1, 0) := h 0 (by decide)
  have f1 : md_isWord N c1 [116, 104, 105, 110] = some (c1, 0) := h 1 (by decide)
  have f2 : md_isWord N c1 [99, 97, 108, 109] = some (c1, 0) := h 2 (by decide)
  have f3 : md_isWord N c1 [119, 97, 116, 101, 114] = some (c1, 0) := h 3 (by decide)
  have f4 : md_isWord N c1 [116, 105, 100, 101] = some (c1, 0) := h 4 (by decide)
  have f6 : md_isWord N c1 [109, 111, 118, 101] = some (c1, 1) := h 6 (by decide)
  clear h
  unfold md_readBeachLine mdK
  simp only [f0, f1, f2, f3, f4, f6, zq_bindP, d00, d10, ↓reduceIte]
set_option maxRecDepth 20000 in
theorem blc_7 (h : ∀ j, j < 13 → md_isWord N c1 (KL.getD j []) = some (c1, if j = 7 then 1 else 0)) : md_readBeachLine N c1 = mdK N 7 c1 := by
  have f0 : md_isWord N c1 [108, 101, 103, 115] = some (c1, 0) := h 0 (by decide)
  have f1 : md_isWord N c1 [116, 104, 105, 110] = some (c1, 0) := h 1 (by decide)
  have f2 : md_isWord N c1 [99, 97, 108, 109] = some (c1, 0) := h 2 (by decide)
  have f3 : md_isWord N c1 [119, 97, 116, 101, 114] = some (c1, 0) := h 3 (by decide)
  have f4 : md_isWord N c1 [116, 105, 100, 101] = some (c1, 0) := h 4 (by decide)
  have f6 : md_isWord N c1 [109, 111, 118, 101] = some (c1, 0) := h 6 (by decide)
  have f5 : md_isWord N c1 [115, 108, 105, 112] = some (c1, 0) := h 5 (by decide)
  have f7 : md_isWord N c1 [98, 101, 97, 114, 115] = some (c1, 1) := h 7 (by decide)
  clear h
  unfold md_readBeachLine mdK
  simp only [f0, f1, f2, f3, f4, f6, f5, f7, zq_bindP, d00, d10, ↓reduceIte]
set_option maxRecDepth 20000 in
theorem blc_8 (h : ∀ j, j < 13 → md_isWord N c1 (KL.getD j []) = some (c1, if j = 8 then 1 else 0)) : md_readBeachLine N c1 = mdK N 8 c1 := by
  have f0 : md_isWord N c1 [108, 101, 103, 115] = some (c1, 0) := h 0 (by decide)
  have f1 : md_isWord N c1 [116, 104, 105, 110] = some (c1, 0) := h 1 (by decide)
  have f2 : md_isWord N c1 [99, 97, 108, 109] = some (c1, 0) := h 2 (by decide)
  have f3 : md_isWord N c1 [119, 97, 116, 101, 114] = some (c1, 0) := h 3 (by decide)
  have f4 : md_isWord N c1 [116, 105, 100, 101] = some (c1, 0) := h 4 (by decide)
  have f6 : md_isWord N c1 [109, 111, 118, 101] = some (c1, 0) := h 6 (by decide)
  have f5 : md_isWord N c1 [115, 108, 105, 112] = some (c1, 0) := h 5 (by decide)
  have f7 : md_isWord N c1 [98, 101, 97, 114, 115] = some (c1, 0) := h 7 (by decide)
  have f8 : md_isWord N c1 [104, 101, 97, 112] = some (c1, 1) := h 8 (by decide)
  clear h
  unfold md_readBeachLine mdK
  simp only [f0, f1, f2, f3, f4, f6, f5, f7, f8, zq_bindP, d00, d10, ↓reduceIte]
set_option maxRecDepth 20000 in
theorem blc_9 (h : ∀ j, j < 13 → md_isWord N c1 (KL.getD j []) = some (c1, if j = 9 then 1 else 0)) : md_readBeachLine N c1 = mdK N 9 c1 := by
  have f0 : md_isWord N c1 [108, 101, 103, 115] = some (c1, 0) := h 0 (by decide)
  have f1 : md_isWord N c1 [116, 104, 105, 110] = some (c1, 0) := h 1 (by decide)
  have f2 : md_isWord N c1 [99, 97, 108, 109] = some (c1, 0) := h 2 (by decide)
  have f3 : md_isWord N c1 [119, 97, 116, 101, 114] = some (c1, 0) := h 3 (by decide)
  have f4 : md_isWord N c1 [116, 105, 100, 101] = some (c1, 0) := h 4 (by decide)
  have f6 : md_isWord N c1 [109, 111, 118, 101] = some (c1, 0) := h 6 (by decide)
  have f5 : md_isWord N c1 [115, 108, 105, 112] = some (c1, 0) := h 5 (by decide)
  have f7 : md_isWord N c1 [98, 101, 97, 114, 115] = some (c1, 0) := h 7 (by decide)
  have f8 : md_isWord N c1 [104, 101, 97, 112] = some (c1, 0) := h 8 (by decide)
  have f9 : md_isWord N c1 [115, 104, 105, 110, 101] = some (c1, 1) := h 9 (by decide)
  clear h
  unfold md_readBeachLine mdK
  simp only [f0, f1, f2, f3, f4, f6, f5, f7, f8, f9, zq_bindP, d00, d10, ↓reduceIte]
set_option maxRecDepth 20000 in
theorem blc_10 (h : ∀ j, j < 13 → md_isWord N c1 (KL.getD j []) = some (c1, if j = 10 then 1 else 0)) : md_readBeachLine N c1 = mdK N 10 c1 := by
  have f0 : md_isWord N c1 [108, 101, 103, 115] = some (c1, 0) := h 0 (by decide)
  have f1 : md_isWord N c1 [116, 104, 105, 110] = some (c1, 0) := h 1 (by decide)
  have f2 : md_isWord N c1 [99, 97, 108, 109] = some (c1, 0) := h 2 (by decide)
  have f3 : md_isWord N c1 [119, 97, 116, 101, 114] = some (c1, 0) := h 3 (by decide)
  have f4 : md_isWord N c1 [116, 105, 100, 101] = some (c1, 0) := h 4 (by decide)
  have f6 : md_isWord N c1 [109, 111, 118, 101] = some (c1, 0) := h 6 (by decide)
  have f5 : md_isWord N c1 [115, 108, 105, 112] = some (c1, 0) := h 5 (by decide)
  have f7 : md_isWord N c1 [98, 101, 97, 114, 115] = some (c1, 0) := h 7 (by decide)
  have f8 : md_isWord N c1 [104, 101, 97, 112] = some (c1, 0) := h 8 (by decide)
  have f9 : md_isWord N c1 [115, 104, 105, 110, 101] = some (c1, 0) := h 9 (by decide)
  have f10 : md_isWord N c1 [104, 111, 108, 101] = some (c1, 1) := h 10 (by decide)
  clear h
  unfold md_readBeachLine mdK
  simp only [f0, f1, f2, f3, f4, f6, f5, f7, f8, f9, f10, zq_bindP, d00, d10, ↓reduceIte]
set_option maxRecDepth 20000 in
theorem blc_11 (h : ∀ j, j < 13 → md_isWord N c1 (KL.getD j []) = some (c1, if j = 11 then 1 else 0)) : md_readBeachLine N c1 = mdK N 11 c1 := by
  have f0 : md_isWord N c1 [108, 101, 103, 115] = some (c1, 0) := h 0 (by decide)
  have f1 : md_isWord N c1 [116, 104, 105, 110] = some (c1, 0) := h 1 (by decide)
  have f2 : md_isWord N c1 [99, 97, 108, 109] = some (c1, 0) := h 2 (by decide)
  have f3 : md_isWord N c1 [119, 97, 116, 101, 114] = some (c1, 0) := h 3 (by decide)
  have f4 : md_isWord N c1 [116, 105, 100, 101] = some (c1, 0) := h 4 (by decide)
  have f6 : md_isWord N c1 [109, 111, 118, 101] = some (c1, 0) := h 6 (by decide)
  have f5 : md_isWord N c1 [115, 108, 105, 112] = some (c1, 0) := h 5 (by decide)
  have f7 : md_isWord N c1 [98, 101, 97, 114, 115] = some (c1, 0) := h 7 (by decide)
  have f8 : md_isWord N c1 [104, 101, 97, 112] = some (c1, 0) := h 8 (by decide)
  have f9 : md_isWord N c1 [115, 104, 105, 110, 101] = some (c1, 0) := h 9 (by decide)
  have f10 : md_isWord N c1 [104, 111, 108, 101] = some (c1, 0) := h 10 (by decide)
  have f12 : md_isWord N c1 [112, 101, 114, 115, 111, 110] = some (c1, 0) := h 12 (by decide)
  have f11 : md_isWord N c1 [98, 111, 97, 114, 100, 115] = some (c1, 1) := h 11 (by decide)
  clear h
  unfold md_readBeachLine mdK
  simp only [f0, f1, f2, f3, f4, f6, f5, f7, f8, f9, f10, f12, f11, zq_bindP, d00, d10, ↓reduceIte]
set_option maxRecDepth 20000 in
theorem blc_12 (h : ∀ j, j < 13 → md_isWord N c1 (KL.getD j []) = some (c1, if j = 12 then 1 else 0)) : md_readBeachLine N c1 = mdK N 12 c1 := by
  have f0 : md_isWord N c1 [108, 101, 103, 115] = some (c1, 0) := h 0 (by decide)
  have f1 : md_isWord N c1 [116, 104, 105, 110] = some (c1, 0) := h 1 (by decide)
  have f2 : md_isWord N c1 [99, 97, 108, 109] = some (c1, 0) := h 2 (by decide)
  have f3 : md_isWord N c1 [119, 97, 116, 101, 114] = some (c1, 0) := h 3 (by decide)
  have f4 : md_isWord N c1 [116, 105, 100, 101] = some (c1, 0) := h 4 (by decide)
  have f6 : md_isWord N c1 [109, 111, 118, 101] = some (c1, 0) := h 6 (by decide)
  have f5 : md_isWord N c1 [115, 108, 105, 112] = some (c1, 0) := h 5 (by decide)
  have f7 : md_isWord N c1 [98, 101, 97, 114, 115] = some (c1, 0) := h 7 (by decide)
  have f8 : md_isWord N c1 [104, 101, 97, 112] = some (c1, 0) := h 8 (by decide)
  have f9 : md_isWord N c1 [115, 104, 105, 110, 101] = some (c1, 0) := h 9 (by decide)
  have f10 : md_isWord N c1 [104, 111, 108, 101] = some (c1, 0) := h 10 (by decide)
  have f12 : md_isWord N c1 [112, 101, 114, 115, 111, 110] = some (c1, 1) := h 12 (by decide)
  clear h
  unfold md_readBeachLine mdK
  simp only [f0, f1, f2, f3, f4, f6, f5, f7, f8, f9, f10, f12, zq_bindP, d00, d10, ↓reduceIte]
theorem bl_chain {κ : Nat} (h : ∀ j, j < 13 → md_isWord N c1 (KL.getD j []) = some (c1, if j = κ then 1 else 0)) (hκ : κ ≤ 12) : md_readBeachLine N c1 = mdK N κ c1 := by
  rcases κ12 hκ with rfl | rfl | rfl | rfl | rfl | rfl | rfl | rfl | rfl | rfl | rfl | rfl | rfl
  · exact blc_0 h
  · exact blc_1 h
  · exact blc_2 h
  · exact blc_3 h
  · exact blc_4 h
  · exact blc_5 h
  · exact blc_6 h
  · exact blc_7 h
  · exact blc_8 h
  · exact blc_9 h
  · exact blc_10 h
  · exact blc_11 h
  · exact blc_12 h
theorem bl_none (h : ∀ j, j < 13 → md_isWord N c1 (KL.getD j []) = some (c1, 0)) : md_readBeachLine N c1 = some (c1, 0) := by
  have f0 : md_isWord N c1 [108, 101, 103, 115] = some (c1, 0) := h 0 (by decide)
  have f1 : md_isWord N c1 [116, 104, 105, 110] = some (c1, 0) := h 1 (by decide)
  have f2 : md_isWord N c1 [99, 97, 108, 109] = some (c1, 0) := h 2 (by decide)
  have f3 : md_isWord N c1 [119, 97, 116, 101, 114] = some (c1, 0) := h 3 (by decide)
  have f4 : md_isWord N c1 [116, 105, 100, 101] = some (c1, 0) := h 4 (by decide)
  have f5 : md_isWord N c1 [115, 108, 105, 112] = some (c1, 0) := h 5 (by decide)
  have f6 : md_isWord N c1 [109, 111, 118, 101] = some (c1, 0) := h 6 (by decide)
  have f7 : md_isWord N c1 [98, 101, 97, 114, 115] = some (c1, 0) := h 7 (by decide)
  have f8 : md_isWord N c1 [104, 101, 97, 112] = some (c1, 0) := h 8 (by decide)
  have f9 : md_isWord N c1 [115, 104, 105, 110, 101] = some (c1, 0) := h 9 (by decide)
  have f10 : md_isWord N c1 [104, 111, 108, 101] = some (c1, 0) := h 10 (by decide)
  have f11 : md_isWord N c1 [98, 111, 97, 114, 100, 115] = some (c1, 0) := h 11 (by decide)
  have f12 : md_isWord N c1 [112, 101, 114, 115, 111, 110] = some (c1, 0) := h 12 (by decide)
  unfold md_readBeachLine
  simp only [f0, f1, f2, f3, f4, f5, f6, f7, f8, f9, f10, f11, f12, zq_bindP, d00, ↓reduceIte]
theorem rst_all {κ : Nat} (hκ : κ ≤ 12) (h : stR X N s0 c0 t ln s c l p q W sd) (h6 : κ = 12 → W 12 < 6) : bth (flB X s0 c0) (QR X s0 c0 t ln s l κ W sd) (x0_readRest N (tS (X + 1) s q b v) (X + 3) (X + 1) (nI κ)) (mdK N κ (pq c p b')) := by
  rcases κ12 hκ with rfl | rfl | rfl | rfl | rfl | rfl | rfl | rfl | rfl | rfl | rfl | rfl | rfl
  · exact rst_0 h
  · exact rst_1 h
  · exact rst_2 h
  · exact rst_3 h
  · exact rst_4 h
  · exact rst_5 h
  · exact rst_6 h
  · exact rst_7 h
  · exact rst_8 h
  · exact rst_9 h
  · exact rst_10 h
  · exact rst_11 h
  · exact rst_12 h (h6 rfl)
/-- what a line leaves -/
def QL (X : Nat) (s0 : sk_S) (c0 : Nat → Nat → Int32) (t : Nat → Int32) (ln : Nat) (W0 : Nat → Nat) (sd : Int32) (l : Nat) (S : sk_S) (C : Nat → Nat → Int32) : Prop :=
  ∃ s' c' p q b b' v, S = tS (X + 1) s' q b v ∧ C = pq c' p b' ∧ p ≤ ln ∧ rne isB t ln p = q ∧ LI X s0 c0 W0 sd l s' c'
theorem line_both (hN : 2000 ≤ N) (C : tcC (X + 1) s0 t ln) (C' : tcR c0 t ln) (l0 : lay_X0 (sk_K s0) (sk_r s0) (X + 3) = true) (I : LI X s0 c0 W0 sd l s c) (hl : l ≤ 14) (hp : p ≤ ln) (hq : rne isB t ln p = q) : bth (flB X s0 c0) (QL X s0 c0 t ln W0 sd (l + 1)) (x0_readLine N (tS (X + 1) s q b v) (X + 3) (X + 1)) (md_readLine N (pq c p b') 1 (nI l)) := by
  obtain ⟨kd, nm, I1, I2, I4, F, F', hw, hwd⟩ := I
  have L := x0_rest (q := q) (b := b) (v := v) l0 C F
  have C1 := tcC_fr C F
  have C1' := tcR_fr C' F'
  have hq' : q ≤ ln := by rw [← hq]; exact rne_le hp
  have g1 := rne_ge (P := isL) (t := t) (ln := ln) (p := q)
  have g2 := rne_le (P := isL) (t := t) hq'
  have eL : q + (rne isL t ln q - q) = rne isL t ln q := by omega
  have e2 : ∀ {q b : Nat} {v : Int32}, sk_c (tS (X + 1) s q b v) (X + 3) 2 = nI l := by intro q b v; rw [tS_n (by omega)]; exact I2
  have e4 : ∀ {q b : Nat} {v : Int32}, sk_c (tS (X + 1) s q b v) (X + 3) 4 = nI (fW W0 kd nm l 12) := by intro q b v; rw [tS_n (by omega)]; exact I4
  have h12 := hwd.1.2.2.2.2.2.2.2.2.2.2.2.2.1
  unfold x0_readLine md_readLine
  rw [if_pos L.1, if_pos L.2, e2, le_ok (by omega) C1' hp, hq]
  simp only [zq_bindP, d10, ↓reduceIte]
  by_cases hl14 : l = 14
  · subst hl14
    rw [if_neg (by decide), if_pos (by decide)]
    exact bth_f (fl_mk F F')
  · have zl : ((14 : Int32) ≤ nI l) = False := eq_false (by show ¬ nI 14 ≤ nI l; rw [zq_le (by decide) (by omega)]; omega)
    rw [if_pos (by show nI l < nI 14; rw [zq_lt (by omega) (by decide)]; omega)]
    simp only [zl, ↓reduceIte]
    have iw : ∀ j, j < 13 → md_isWord N (pq c (rne isL t ln q) q) (KL.getD j []) = some (pq c (rne isL t ln q) q, if wq t q (rne isL t ln q - q) (KL.getD j []) then 1 else 0) := fun j hj => by
      have a := iw_ok (N := N) (q := q) (L := rne isL t ln q - q) (w := KL.getD j []) hN C1' (by omega) (KL_l j hj)
      rw [eL] at a
      exact a
    have oo := oo_ok (N := N) (b := b) (v := v) hN C1 hq' KL (by decide) KL_32 (by decide) (by decide)
    have es : wds KL = ([108, 101, 103, 115, 32, 116, 104, 105, 110, 32, 99, 97, 108, 109, 32, 119, 97, 116, 101, 114, 32, 116, 105, 100, 101, 32, 115, 108, 105, 112, 32, 109, 111, 118, 101, 32, 98, 101, 97, 114, 115, 32, 104, 101, 97, 112, 32, 115, 104, 105, 110, 101, 32, 104, 111, 108, 101, 32, 98, 111, 97, 114, 100, 115, 32, 112, 101, 114, 115, 111, 110] : List Int32) := by decide
    rw [es] at oo
    rcases oo with ⟨o1, o2⟩ | ⟨κ, o1, o2, o3⟩
    · rw [o1, bl_none (fun j hj => by rw [iw j hj, if_neg (o2 j hj)])]
      simp only [zq_bindP, d00, ↓reduceIte]
      exact bth_f (fl_mk F F')
    · have o1 : κ < 13 := o1
      have ch : md_readBeachLine N (pq c (rne isL t ln q) q) = mdK N κ (pq c (rne isL t ln q) q) := bl_chain (fun j hj => by
        rw [iw j hj]
        by_cases e : j = κ
        · rw [if_pos e, if_pos (by rw [e]; exact o2)]
        · rw [if_neg e, if_neg (fun h => KL_s j hj κ o1 e (wq_two h o2))]) (by omega)
      have nm1 : (nI κ = (-1 : Int32)) = False := eq_false (zq_m1 (by omega))
      have z12 : (nI κ = (12 : Int32)) = (κ = 12) := zq_eq (b := 12) (by omega) (by decide)
      have ib : ky_inB (nI l) 14 = true := zq_inBt (by omega) (by decide)
      have cl : Int32.toNatClampNeg (nI l) = l := zq_cl (by omega)
      have wk : ∀ {q b : Nat} {v : Int32}, sk_wc (sk_wc (tS (X + 1) s q b v) (X + 3 + 1) l (nI κ)) (X + 3) 3 0 = tS (X + 1) (sk_wc (sk_wc s (X + 3 + 1) l (nI κ)) (X + 3) 3 0) q b v := by
        intro q b v
        rw [tS_wn (by omega), tS_wn (by omega)]
      have F1 : cfr (rdV X) s0 (sk_wc (sk_wc s (X + 3 + 1) l (nI κ)) (X + 3) 3 0) := (F.wc _ (by unfold rdV; omega)).wc _ (by unfold rdV; omega)
      have fin : ∀ s' c' p2 q2 b2 b3 v2 n2, p2 ≤ ln → rne isB t ln p2 = q2 → rowB X s0 (sk_wc (sk_wc s (X + 3 + 1) l (nI κ)) (X + 3) 3 0) l (lnC κ) n2 s' → rfr c0 c' → lnV κ n2 (fW W0 kd nm l) → wv (c' 1) (lnW κ n2 (fW W0 kd nm l)) sd → QL X s0 c0 t ln W0 sd (l + 1) (sk_wc (sk_wc (tS (X + 1) s' q2 b2 v2) (X + 3) 4 (nI (if κ = 12 then fW W0 kd nm l 12 + 1 else fW W0 kd nm l 12))) (X + 3) 2 (nI (l + 1))) (pq c' p2 b3) := fun s' c' p2 q2 b2 b3 v2 n2 u1 u2 u3 u4 u5 u6 => by
        obtain ⟨r1, r2, r3, r4, r5, r6, r7⟩ := u3
        have fc : fW W0 (ndS kd l κ) (fun i => if i = l then n2 else nm i) l = fW W0 kd nm l := fW_cong l (fun i hi => ⟨ndS_o (by omega), if_neg (by omega)⟩)
        have fi : ∀ i, i < l → fW W0 (ndS kd l κ) (fun i => if i = l then n2 else nm i) i = fW W0 kd nm i := fun i hi => fW_cong i (fun i' hi' => ⟨ndS_o (by omega), if_neg (by omega)⟩)
        have fs : fW W0 (ndS kd l κ) (fun i => if i = l then n2 else nm i) (l + 1) = lnW κ n2 (fW W0 kd nm l) := by
          show lnW (ndS kd l κ l) (if l = l then n2 else nm l) (fW W0 (ndS kd l κ) (fun i => if i = l then n2 else nm i) l) = _
          rw [fc, ndS_s, if_pos rfl]
        refine ⟨sk_wc (sk_wc s' (X + 3) 4 (nI (if κ = 12 then fW W0 kd nm l 12 + 1 else fW W0 kd nm l 12))) (X + 3) 2 (nI (l + 1)), c', p2, q2, b2, b3, v2, by rw [tS_wn (by omega), tS_wn (by omega)], rfl, u1, u2, ndS kd l κ, fun i => if i = l then n2 else nm i, fun i hi => ?_, ?_, ?_, (r7.wc _ (by unfold rdV; omega)).wc _ (by unfold rdV; omega), u4, by rw [fs]; exact u6, by rw [fs]; exact wd_ln hwd u5 (by omega)⟩
        · have c4 : sk_c (sk_wc (sk_wc s' (X + 3) 4 (nI (if κ = 12 then fW W0 kd nm l 12 + 1 else fW W0 kd nm l 12))) (X + 3) 2 (nI (l + 1))) (X + 4) i = if i = l then nI κ else sk_c s (X + 4) i := by
            rw [qc_ne (by omega), qc_ne (by omega), r3, qc_ne (by omega), show X + 3 + 1 = X + 4 by omega, qc_eq]
            by_cases e : i = l
            · rw [e, pk_us, if_pos rfl]
            · rw [pk_un e, if_neg e]
          have c5 : ∀ j, sk_c (sk_wc (sk_wc s' (X + 3) 4 (nI (if κ = 12 then fW W0 kd nm l 12 + 1 else fW W0 kd nm l 12))) (X + 3) 2 (nI (l + 1))) (X + 5) j = sk_c s' (X + 5) j := fun j => by
            rw [qc_ne (by omega), qc_ne (by omega)]
          by_cases e : i = l
          · subst e
            rw [c4, if_pos rfl, ndS_s]
            refine ⟨rfl, by omega, fun j hj => ?_, ?_⟩
            · rw [c5]
              show _ = nI ((if i = i then n2 else nm i) j)
              rw [if_pos rfl]
              exact r2 j hj
            · show lnV κ (if i = i then n2 else nm i) _
              rw [if_pos rfl, fc]
              exact u5
          · obtain ⟨k1, k2, k3, k4⟩ := I1 i (by omega)
            rw [c4, if_neg e, ndS_o e]
            refine ⟨k1, k2, fun j hj => ?_, ?_⟩
            · rw [c5]
              show _ = nI ((if i = l then n2 else nm i) j)
              have hc5 : lnC (kd i) ≤ 5 := by
                rcases κ12 k2 with h | h | h | h | h | h | h | h | h | h | h | h | h <;> rw [h] <;> decide
              rw [if_neg e, r1 _ (by omega)]
              rw [qc_ne (by omega), qc_ne (by omega)]
              exact k3 j hj
            · show lnV (kd i) (if i = l then n2 else nm i) _
              rw [if_neg e, fi i (by omega)]
              exact k4
        · rw [qc_eq, pk_us]
        · rw [qc_at _ _ _ _ _ _ (by omega), qc_eq, pk_us, fs, ln_12 (by omega)]
      have st : stR X N s0 c0 t ln (sk_wc (sk_wc s (X + 3 + 1) l (nI κ)) (X + 3) 3 0) c l (rne isL t ln q) (rne isB t ln (rne isL t ln q)) (fW W0 kd nm l) sd := by
        refine ⟨hN, C, C', l0, ?_, ?_, F1, F', by omega, g2, rfl, hw⟩
        · rw [qc_at _ _ _ _ _ _ (by omega), qc_ne (by omega)]; exact I2
        · rw [qc_eq, pk_us]
      have ra : ∀ {s' : sk_S} {q b : Nat} {v : Int32} {n2 : Nat → Nat}, rowB X s0 (sk_wc (sk_wc s (X + 3 + 1) l (nI κ)) (X + 3) 3 0) l (lnC κ) n2 s' → sk_c (tS (X + 1) s' q b v) (X + 3) 4 = nI (fW W0 kd nm l 12) := by
        intro s' q b v n2 r
        rw [tS_n (by omega), r.2.2.2.2.2.1, qc_at _ _ _ _ _ _ (by omega), qc_ne (by omega)]
        exact I4
      have rb : ∀ {s' : sk_S} {q b : Nat} {v : Int32} {n2 : Nat → Nat} {x : Int32}, rowB X s0 (sk_wc (sk_wc s (X + 3 + 1) l (nI κ)) (X + 3) 3 0) l (lnC κ) n2 s' → sk_c (sk_wc (tS (X + 1) s' q b v) (X + 3) 4 x) (X + 3) 2 = nI l := by
        intro s' q b v n2 x r
        rw [qc_at _ _ _ _ _ _ (by omega), tS_n (by omega)]
        exact r.2.2.2.1
      rw [o3, ch]
      simp only [zq_bindP, zq_letP, nm1, e2, e4, ib, cl, wk, ↓reduceIte]
      by_cases hk12 : κ = 12
      · have z12' : (nI κ = (12 : Int32)) = True := by rw [z12]; exact eq_true hk12
        simp only [z12', ↓reduceIte]
        by_cases h6 : fW W0 kd nm l 12 < 6
        · rw [if_pos (by show nI (fW W0 kd nm l 12) < nI 6; rw [zq_lt (by omega) (by decide)]; exact h6)]
          rcases rst_all (N := N) (b := q) (b' := q) (v := v) (show κ ≤ 12 by omega) st (fun _ => h6) with ⟨S, C2, a1, a2, a3⟩ | ⟨S, C2, a1, a2, s', c', p2, q2, b2, b3, v2, n2, u1, u2, u3, u4, u5, u6, u7, u8⟩
          · rw [a1, a2]; simp only [zq_bindP, d00, ↓reduceIte]; exact bth_f a3
          · rw [a1, a2]; subst u1; subst u2
            simp only [zq_bindP, d10, ↓reduceIte]
            rw [ra u5, nI_1, rb u5, nI_1]
            have := fin s' c' p2 q2 b2 b3 v2 n2 u3 u4 u5 u6 u7 u8
            rw [if_pos hk12] at this
            exact bth_t this
        · have e6 : fW W0 kd nm l 12 = 6 := by omega
          rw [if_neg (by show ¬ nI (fW W0 kd nm l 12) < nI 6; rw [zq_lt (by omega) (by decide)]; exact h6), rf_ok C1]
          have pp : md_people_r (pq c (rne isL t ln q) q) = nI 6 := by
            unfold md_people_r; rw [pq_n (by decide), wv_n hw (by decide) (by decide), e6]
          have em : mdK N κ (pq c (rne isL t ln q) q) = some (pq c (rne isL t ln q) q, 0) := by
            subst hk12
            unfold mdK md_readPerson
            rw [pp, if_pos (by decide)]
            simp only [zq_bindP, d00, true_or, ↓reduceIte]
          rw [em]
          simp only [zq_bindP, d00, true_or, ↓reduceIte]
          exact bth_f (fl_mk F F')
      · have z12' : (nI κ = (12 : Int32)) = False := by rw [z12]; exact eq_false hk12
        simp only [z12', ↓reduceIte]
        rcases rst_all (N := N) (b := q) (b' := q) (v := v) (show κ ≤ 12 by omega) st (fun h => absurd h hk12) with ⟨S, C2, a1, a2, a3⟩ | ⟨S, C2, a1, a2, s', c', p2, q2, b2, b3, v2, n2, u1, u2, u3, u4, u5, u6, u7, u8⟩
        · rw [a1, a2]; simp only [zq_bindP, d00, ↓reduceIte]; exact bth_f a3
        · rw [a1, a2]; subst u1; subst u2
          simp only [zq_bindP, d10, ↓reduceIte]
          rw [ra u5, Int32.add_zero, rb u5, nI_1]
          have := fin s' c' p2 q2 b2 b3 v2 n2 u3 u4 u5 u6 u7 u8
          rw [if_neg hk12] at this
          exact bth_t this
theorem lines_loop (hN : 2000 ≤ N) (C : tcC (X + 1) s0 t ln) (C' : tcR c0 t ln) (l0 : lay_X0 (sk_K s0) (sk_r s0) (X + 3) = true) {p2 : Int32} : ∀ (r l fuel fuel' : Nat) (s : sk_S) (c : Nat → Nat → Int32) (p q b b' : Nat) (v : Int32), l + r = 14 → r + 3 < fuel → r + 1 < fuel' → LI X s0 c0 W0 sd l s c → p ≤ ln → rne isB t ln p = q →
    (∃ S K, x0_reads_L30 N (X + 3) (X + 1) (fun q25 x26 x27 x28 => ((x9_isEnded N q25 (X + 1)).bind (fun zz => (fun q30 x31 => (if (x31 = 0 ∨ x31 = 1) then (some (q30, x31)) else none)) zz.1 zz.2))) fuel (tS (X + 1) s q b v) p2 1 (nI l) = some (S, 0) ∧ md_readAll_L28 N (fun q11 x12 x13 => (some (q11, (-1)))) fuel' (pq c p b') 1 (nI l) = some (K, -1) ∧ flB X s0 c0 S K) ∨
    ∃ S K m, x0_reads_L30 N (X + 3) (X + 1) (fun q25 x26 x27 x28 => ((x9_isEnded N q25 (X + 1)).bind (fun zz => (fun q30 x31 => (if (x31 = 0 ∨ x31 = 1) then (some (q30, x31)) else none)) zz.1 zz.2))) fuel (tS (X + 1) s q b v) p2 1 (nI l) = some (S, 1) ∧ md_readAll_L28 N (fun q11 x12 x13 => (some (q11, (-1)))) fuel' (pq c p b') 1 (nI l) = some (K, nI m) ∧ m ≤ 14 ∧ QL X s0 c0 t ln W0 sd m S K := by
  have h4 := C.2.2.2
  intro r
  induction r with
  | zero =>
    intro l fuel fuel' s c p q b b' v h1 h2 h3 I hp hq
    obtain ⟨fuel, rfl⟩ : ∃ q, fuel = q + 1 := ⟨fuel - 1, by omega⟩
    obtain ⟨fuel', rfl⟩ : ∃ q, fuel' = q + 1 := ⟨fuel' - 1, by omega⟩
    obtain rfl : l = 14 := by omega
    left
    have li := line_both (N := N) (b := b) (b' := b') (v := v) hN C C' l0 I (Nat.le_refl _) hp hq
    have e : x0_readLine N (tS (X + 1) s q b v) (X + 3) (X + 1) = some (tS (X + 1) s q b v, 0) := by
      obtain ⟨kd, nm, I1, I2, I4, F, F', hw, hwd⟩ := I
      have L := x0_rest (q := q) (b := b) (v := v) l0 C F
      unfold x0_readLine
      rw [if_pos L.1, if_pos L.2, tS_n (by omega), I2, if_neg (by decide)]
    rcases li with ⟨S, K, a1, a2, a3⟩ | ⟨S, K, a1, a2, a3⟩
    · refine ⟨S, K, ?_, ?_, a3⟩
      · simp only [x0_reads_L30]
        rw [if_neg (by decide), if_neg (by decide), a1]
        simp only [zq_bindP, d00, ↓reduceIte]
      · simp only [md_readAll_L28]
        rw [a2]
        simp only [zq_bindP, d00, ↓reduceIte]
    · rw [e] at a1
      injection a1 with a1
      injection a1 with _ a1
      exact absurd a1 (by decide)
  | succ r ih =>
    intro l fuel fuel' s c p q b b' v h1 h2 h3 I hp hq
    obtain ⟨fuel, rfl⟩ : ∃ q, fuel = q + 1 := ⟨fuel - 1, by omega⟩
    obtain ⟨fuel', rfl⟩ : ∃ q, fuel' = q + 1 := ⟨fuel' - 1, by omega⟩
    have li := line_both (N := N) (b := b) (b' := b') (v := v) hN C C' l0 I (by omega) hp hq
    have nl : ¬ (14 : Int32) < nI l := by show ¬ nI 14 < nI l; rw [zq_lt (by decide) (by omega)]; omega
    rcases li with ⟨S, K, a1, a2, a3⟩ | ⟨S, K, a1, a2, s', c', p', q', b2, b3, v', u1, u2, u3, u4, u5⟩
    · left
      refine ⟨S, K, ?_, ?_, a3⟩
      · simp only [x0_reads_L30]
        rw [if_neg nl, if_neg (by decide), a1]
        simp only [zq_bindP, d00, ↓reduceIte]
      · simp only [md_readAll_L28]
        rw [a2]
        simp only [zq_bindP, d00, ↓reduceIte]
    · subst u1
      subst u2
      have hq2 : q' ≤ ln := by rw [← u4]; exact rne_le u3
      obtain ⟨kd, nm, I1, I2, I4, F, F', hw, hwd⟩ := id u5
      have C1 := tcC_fr C F
      have C1' := tcR_fr C' F'
      have sg := sg_both (N := N) (b := b2) (b' := b3) (v := v') (by omega) C1 C1' u3 u4 59
      have rr : md_readAll_L28 N (fun q11 x12 x13 => (some (q11, (-1)))) (fuel' + 1) (pq c p b') 1 (nI l) = if q' = ln then some (pq c' q' q', nI (l + 1)) else if t q' = 59 then md_readAll_L28 N (fun q11 x12 x13 => (some (q11, (-1)))) fuel' (pq c' (q' + 1) q') 1 (nI (l + 1)) else some (pq c' q' q', -1) := by
        simp only [md_readAll_L28]
        rw [a2]
        simp only [zq_bindP, d10, ↓reduceIte]
        rw [bl_ok (by omega) C1' u3, u4]
        simp only [zq_bindP, zq_letP]
        rw [tR_11 C1', pq_10]
        have ze : (nI q' = nI ln) = (q' = ln) := zq_eq (by omega) (by omega)
        by_cases e : q' = ln
        · rw [if_pos (by rw [ze]; exact e), if_pos e, nI_1]
        · have t1 := tR_i (b := q') C1' hq2 59
          rw [tR_11 C1', pq_10] at t1
          rw [if_neg (by rw [ze]; exact e), if_neg e, if_pos t1.1, if_pos t1.2, ia_ok C1' hq2]
          by_cases e2 : t q' = 59
          · rw [if_pos (show q' < ln ∧ ¬ t q' < 59 ∧ ¬ 59 < t q' from ⟨by omega, i32_ne e2⟩), if_neg (by decide), if_pos e2, nI_1, nI_1, pq_w10]
          · rw [if_neg (show ¬ (q' < ln ∧ ¬ t q' < 59 ∧ ¬ 59 < t q') from fun x => e2 (i32_eq x.2.1 x.2.2)), if_pos rfl, if_neg e2]
      have rc : x0_reads_L30 N (X + 3) (X + 1) (fun q25 x26 x27 x28 => ((x9_isEnded N q25 (X + 1)).bind (fun zz => (fun q30 x31 => (if (x31 = 0 ∨ x31 = 1) then (some (q30, x31)) else none)) zz.1 zz.2))) (fuel + 1) (tS (X + 1) s q b v) p2 1 (nI l) = (x9_takeSign N (tS (X + 1) s' q' b2 v') (X + 1) 59).bind (fun zz => x0_reads_L30 N (X + 3) (X + 1) (fun q25 x26 x27 x28 => ((x9_isEnded N q25 (X + 1)).bind (fun zz => (fun q30 x31 => (if (x31 = 0 ∨ x31 = 1) then (some (q30, x31)) else none)) zz.1 zz.2))) fuel zz.1 p2 zz.2 (nI (l + 1))) := by
        simp only [x0_reads_L30, zq_letP]
        rw [if_neg nl, if_neg (by decide), a1]
        simp only [zq_bindP, d10, ↓reduceIte]
        rw [nI_1]
      rw [rr, rc]
      rcases sg with ⟨e1, e2, e3⟩ | ⟨e1, e2, e3, e4⟩
      · rw [e1]
        simp only [zq_bindP]
        have fin : x0_reads_L30 N (X + 3) (X + 1) (fun q25 x26 x27 x28 => ((x9_isEnded N q25 (X + 1)).bind (fun zz => (fun q30 x31 => (if (x31 = 0 ∨ x31 = 1) then (some (q30, x31)) else none)) zz.1 zz.2))) fuel (tS (X + 1) s' q' b2 v') p2 0 (nI (l + 1)) = some (tS (X + 1) s' q' b2 v', if q' < ln then 0 else 1) := by
          obtain ⟨fuel, rfl⟩ : ∃ q, fuel = q + 1 := ⟨fuel - 1, by omega⟩
          simp only [x0_reads_L30]
          rw [ie_ok C1 hq2]
          simp only [zq_bindP, ↓reduceIte, ite_self]
          by_cases e : q' < ln
          · rw [if_pos e, if_pos (.inl rfl)]
          · rw [if_neg e, if_pos (.inr rfl)]
        rw [fin]
        by_cases e : q' = ln
        · right
          rw [if_pos e, if_neg (by omega)]
          exact ⟨_, _, l + 1, rfl, rfl, by omega, s', c', q', q', b2, q', v', rfl, rfl, hq2, by rw [← u4]; exact rne_idem, u5⟩
        · left
          rw [if_neg e, if_pos (show q' < ln by omega), if_neg (fun x => e3 ⟨by omega, x⟩)]
          exact ⟨_, _, rfl, rfl, fl_mk F F'⟩
      · rw [e3, if_neg (by omega), if_pos e2]
        simp only [zq_bindP]
        exact ih (l + 1) fuel fuel' s' c' (q' + 1) _ q' q' v' (by omega) (by omega) (by omega) u5 e1 rfl
end
