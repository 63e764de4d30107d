/-! THE LAW READ: numbers put, steps emitted, sums -/
def ptS (X : Nat) (s : sk_S) (u : Nat) (x : Int32) : sk_S := sk_wc (sk_wc s (X + 6 + 4) u x) (X + 6) 6 (nI (u + 1))
def emS (c : Nat → Nat → Int32) (a : Nat) (x y : Int32) : Nat → Nat → Int32 := bk_w (bk_w (bk_w c 1 (1447 + 2 * a) x) 1 (1448 + 2 * a) y) 0 16 (nI (a + 1))
def dT (c : Nat → Nat → Int32) : Nat → Int32 := fun k => c 1 (1398 + k)
def CS (X : Nat) (s0 : sk_S) (c0 : Nat → Nat → Int32) (s : sk_S) (c : Nat → Nat → Int32) (u a d : Nat) : Prop := cfr (rdV X) s0 s ∧ rfr c0 c ∧ (∀ k, k < 549 → c 1 k = c0 1 k) ∧ sk_c s (X + 6) 6 = nI u ∧ c 0 16 = nI a ∧ c 0 13 = nI d
def CF (X : Nat) (s : sk_S) (c : Nat → Nat → Int32) (u a : Nat) (s' : sk_S) (c' : Nat → Nat → Int32) : Prop := (∀ k, k < u → sk_c s' (X + 10) k = sk_c s (X + 10) k) ∧ sk_c s' (X + 7) = sk_c s (X + 7) ∧ sk_c s' (X + 8) = sk_c s (X + 8) ∧ sk_c s' (X + 9) = sk_c s (X + 9) ∧ sk_c s' (X + 6) 5 = sk_c s (X + 6) 5 ∧ ∀ k, 1398 ≤ k → k < 1447 + 2 * a → c' 1 k = c 1 k
def flL (X : Nat) (s0 : sk_S) (c0 : Nat → Nat → Int32) (S : sk_S) (C : Nat → Nat → Int32) : Prop := flB X s0 c0 S C ∧ ∀ k, k < 549 → C 1 k = c0 1 k
def linN (cnt e : Nat → Nat) : Nat → Nat
  | 0 => cnt 6
  | f + 1 => linN cnt e f + cnt f * e f
def FL : List (List Int32) := [[109, 111, 118, 101], [108, 101, 103], [111, 116, 104, 101, 114], [116, 104, 105, 110], [99, 97, 108, 109], [119, 97, 116, 101, 114]]
theorem FL_32 : ∀ w, w ∈ FL → ∀ i, i < w.length → st_ch (w.getD i 0) ≠ 32 := by decide
theorem FL_s : ∀ i, i < 6 → ∀ j, j < 6 → i ≠ j → ¬ ((FL.getD i []).length = (FL.getD j []).length ∧ ∀ k, k < (FL.getD i []).length → st_ch ((FL.getD i []).getD k 0) = st_ch ((FL.getD j []).getD k 0)) := by decide +kernel
theorem FL_l : ∀ j, j < 6 → (FL.getD j []).length < 1000 ∧ 3 ≤ (FL.getD j []).length := by decide
section
variable {N X q b p ln b' u a d : Nat} {s0 s s1 s' s2 : sk_S} {v x y : Int32} {t : Nat → Int32} {c0 c c' c1 c2 : Nat → Nat → Int32}
theorem CF.rf : CF X s c u a s c := ⟨fun _ _ => rfl, rfl, rfl, rfl, rfl, fun _ _ _ => rfl⟩
theorem CF.tr {u1 a1 : Nat} (h : CF X s c u a s1 c1) (h' : CF X s1 c1 u1 a1 s2 c2) (hu : u ≤ u1) (ha : a ≤ a1) : CF X s c u a s2 c2 :=
  ⟨fun k hk => (h'.1 k (by omega)).trans (h.1 k hk), h'.2.1.trans h.2.1, h'.2.2.1.trans h.2.2.1, h'.2.2.2.1.trans h.2.2.2.1, h'.2.2.2.2.1.trans h.2.2.2.2.1, fun k h1 h2 => (h'.2.2.2.2.2 k h1 (by omega)).trans (h.2.2.2.2.2 k h1 h2)⟩
theorem flL_mk (h : CS X s0 c0 s c u a d) : flL X s0 c0 (tS (X + 1) s q b v) (pq c p q) := ⟨fl_mk h.1 h.2.1, fun k hk => by rw [pq_n (by decide)]; exact h.2.2.1 k hk⟩
theorem pt_10 (k : Nat) : sk_c (ptS X s u x) (X + 10) k = if k = u then x else sk_c s (X + 10) k := by
  unfold ptS
  rw [qc_ne (by omega), show X + 6 + 4 = X + 10 by omega, qc_eq]
  by_cases h : k = u
  · rw [h, pk_us, if_pos rfl]
  · rw [pk_un h, if_neg h]
theorem pt_6 : sk_c (ptS X s u x) (X + 6) 6 = nI (u + 1) := by unfold ptS; rw [qc_eq, pk_us]
theorem pt_5 : sk_c (ptS X s u x) (X + 6) 5 = sk_c s (X + 6) 5 := by unfold ptS; rw [qc_at _ _ _ _ _ _ (by omega), qc_ne (by omega)]
theorem pt_n {a : Nat} (h1 : a ≠ X + 10) (h2 : a ≠ X + 6) : sk_c (ptS X s u x) a = sk_c s a := by unfold ptS; rw [qc_ne h2, qc_ne (by omega)]
theorem pt_f (h : cfr (rdV X) s0 s) : cfr (rdV X) s0 (ptS X s u x) := (h.wc _ (by unfold rdV; omega)).wc _ (by unfold rdV; omega)
theorem pt_CS (h : CS X s0 c0 s c u a d) : CS X s0 c0 (ptS X s u x) c (u + 1) a d := ⟨pt_f h.1, h.2.1, h.2.2.1, pt_6, h.2.2.2.2.1, h.2.2.2.2.2⟩
theorem pt_CF : CF X s c u a (ptS X s u x) c := ⟨fun k hk => by rw [pt_10, if_neg (by omega)], pt_n (by omega) (by omega), pt_n (by omega) (by omega), pt_n (by omega) (by omega), pt_5, fun _ _ _ => rfl⟩
theorem lay4_fr (h : lay_X4 (sk_K s0) (sk_r s0) (X + 6) = true) (F : cfr (rdV X) s0 s) : lay_X4 (sk_K s) (sk_r s) (X + 6) = true := by rw [F.1, F.2.2.1]; exact h
theorem put_ok (l4 : lay_X4 (sk_K s0) (sk_r s0) (X + 6) = true) (h : CS X s0 c0 s c u a d) (hu : u < 400) : x4_put N (tS (X + 1) s q b v) (X + 6) x = some (tS (X + 1) (ptS X s u x) q b v, 1) := by
  have l4' : lay_X4 (sk_K (tS (X + 1) s q b v)) (sk_r (tS (X + 1) s q b v)) (X + 6) = true := lay4_fr l4 h.1.tS
  have e6 : ∀ {s' : sk_S}, sk_c s' (X + 6) 6 = nI u → sk_c (tS (X + 1) s' q b v) (X + 6) 6 = nI u := fun h => by rw [tS_n (by omega)]; exact h
  unfold x4_put
  simp only [zq_letP]
  rw [if_pos l4', e6 h.2.2.2.1, if_pos (by show nI u < nI 400; rw [zq_lt (by omega) (by decide)]; exact hu), if_pos (zq_inBt hu (by decide)), zq_cl (by omega), tS_wn (by omega), e6 (by rw [qc_ne (by omega)]; exact h.2.2.2.1), nI_1, tS_wn (by omega)]
  rfl
theorem em_16 : emS c a x y 0 16 = nI (a + 1) := bk_w_same _ _ _ _
theorem em_0 {k : Nat} (h : k ≠ 16) : emS c a x y 0 k = c 0 k := by unfold emS; rw [bk_w_at h, bk_w_ne (by decide), bk_w_ne (by decide)]
theorem em_1 (k : Nat) : emS c a x y 1 k = if k = 1448 + 2 * a then y else if k = 1447 + 2 * a then x else c 1 k := by
  unfold emS
  rw [bk_w_ne (by decide)]
  by_cases h : k = 1448 + 2 * a
  · rw [h, bk_w_same, if_pos rfl]
  · rw [bk_w_at h, if_neg h]
    by_cases h2 : k = 1447 + 2 * a
    · rw [h2, bk_w_same, if_pos rfl]
    · rw [bk_w_at h2, if_neg h2]
theorem em_n {k : Nat} (h0 : k ≠ 0) (h1 : k ≠ 1) : emS c a x y k = c k := by unfold emS; rw [bk_w_ne h0, bk_w_ne h1, bk_w_ne h1]
theorem em_rf (h : rfr c0 c) : rfr c0 (emS c a x y) := ⟨fun k h0 h1 => by rw [em_n h0 h1]; exact h.1 k h0 h1, fun k h1 h2 h3 h4 => by rw [em_0 h4]; exact h.2.1 k h1 h2 h3 h4, fun k h1 h2 => by rw [em_1, if_neg (by omega), if_neg (by omega)]; exact h.2.2 k h1 h2⟩
theorem em_CS (h : CS X s0 c0 s c u a d) : CS X s0 c0 s (emS c a x y) u (a + 1) d := ⟨h.1, em_rf h.2.1, fun k hk => by rw [em_1, if_neg (by omega), if_neg (by omega)]; exact h.2.2.1 k hk, h.2.2.2.1, em_16, by rw [em_0 (by decide)]; exact h.2.2.2.2.2⟩
theorem em_CF : CF X s c u a s (emS c a x y) := ⟨fun _ _ => rfl, rfl, rfl, rfl, rfl, fun k h1 h2 => by rw [em_1, if_neg (by omega), if_neg (by omega)]⟩
theorem em_x : dT (emS c a x y) (49 + 2 * a) = x := by unfold dT; rw [em_1, if_neg (by omega), if_pos (by omega)]
theorem em_y : dT (emS c a x y) (50 + 2 * a) = y := by unfold dT; rw [em_1, if_pos (by omega)]
theorem em_T {k : Nat} (h : k < 49 + 2 * a) : dT (emS c a x y) k = dT c k := by unfold dT; rw [em_1, if_neg (by omega), if_neg (by omega)]
theorem CF_T (h : CF X s c u a s' c') {k : Nat} (hk : k < 49 + 2 * a) : dT c' k = dT c k := h.2.2.2.2.2 (1398 + k) (by omega) (by omega)
/-- a step emitted -/
theorem em_ok (h16 : c 0 16 = nI a) (ha : a < 400) : ky_inB (1447 + (2 * (pq c p b 0 16))) 2247 = true ∧ ky_inB ((1447 + (2 * ((bk_w (pq c p b) 1 (Int32.toNatClampNeg (1447 + (2 * (pq c p b 0 16)))) x) 0 16))) + 1) 2247 = true ∧ md_emits_c (pq c p b) x y = pq (emS c a x y) p b := by
  have e : pq c p b 0 16 = nI a := by rw [pq_o (by decide) (by decide)]; exact h16
  have e1 : (1447 : Int32) + (2 * nI a) = nI (1447 + 2 * a) := by
    rw [show (2 : Int32) * nI a = nI (2 * a) from pk_mul 2 _]; exact nI_add 1447 _
  have e2 : ∀ k, bk_w (pq c p b) 1 k x 0 16 = nI a := fun k => by rw [bk_w_ne (by decide)]; exact e
  have e3 : (nI (1447 + 2 * a) : Int32) + 1 = nI (1448 + 2 * a) := by rw [nI_1]; congr 1; omega
  refine ⟨by rw [e, e1]; exact zq_inBt (by omega) (by decide), by rw [e2, e1, e3]; exact zq_inBt (by omega) (by decide), ?_⟩
  unfold md_emits_c
  have e4 : ∀ k k', bk_w (bk_w (pq c p b) 1 k x) 1 k' y 0 16 = nI a := fun k k' => by rw [bk_w_ne (by decide)]; exact e2 k
  rw [e2, e4, e, e1, e3, zq_cl (by omega), zq_cl (by omega), nI_1, pq_wn (by decide), pq_wn (by decide), pq_w0 (by decide) (by decide)]
  rfl
theorem part_none (h : ∀ j, j < 6 → md_isWord N c1 (FL.getD j []) = some (c1, 0)) (hne : ¬ c1 0 10 = c1 0 12) (i1 : ky_inB (1447 + (2 * (c1 0 16))) 2247 = true) (i2 : ky_inB ((1447 + (2 * ((bk_w c1 1 (Int32.toNatClampNeg (1447 + (2 * (c1 0 16)))) (-1)) 0 16))) + 1) 2247 = true) (hl : md_letters N c = some (c1, 0)) : md_readPart N c = some (md_emits_c c1 (-1) 0, 0) := by
  have f0 : md_isWord N c1 [109, 111, 118, 101] = some (c1, 0) := h 0 (by decide)
  have f1 : md_isWord N c1 [108, 101, 103] = some (c1, 0) := h 1 (by decide)
  have f2 : md_isWord N c1 [111, 116, 104, 101, 114] = some (c1, 0) := h 2 (by decide)
  have f3 : md_isWord N c1 [116, 104, 105, 110] = some (c1, 0) := h 3 (by decide)
  have f4 : md_isWord N c1 [99, 97, 108, 109] = some (c1, 0) := h 4 (by decide)
  have f5 : md_isWord N c1 [119, 97, 116, 101, 114] = some (c1, 0) := h 5 (by decide)
  unfold md_readPart
  rw [hl]
  simp only [zq_bindP, zq_letP]
  rw [if_neg hne]
  simp only [f0, f1, f2, f3, f4, f5, zq_bindP, zq_letP, d00, m1_l, ↓reduceIte, i1, i2]
theorem part_fact {f : Nat} (hf : f < 6) (h : ∀ j, j < 6 → md_isWord N c1 (FL.getD j []) = some (c1, if j = f then 1 else 0)) (hne : ¬ c1 0 10 = c1 0 12) (i1 : ky_inB (1447 + (2 * (c1 0 16))) 2247 = true) (i2 : ∀ x, ky_inB ((1447 + (2 * ((bk_w c1 1 (Int32.toNatClampNeg (1447 + (2 * (c1 0 16)))) x) 0 16))) + 1) 2247 = true) (hl : md_letters N c = some (c1, 0)) : md_readPart N c = some (md_emits_c c1 (nI f) 0, 1) := by
  have : f = 0 ∨ f = 1 ∨ f = 2 ∨ f = 3 ∨ f = 4 ∨ f = 5 := by omega
  have p0 : ((0 : Int32) < 0) = False := eq_false (by decide)
  have p1 : ((1 : Int32) < 0) = False := eq_false (by decide)
  have p2 : ((2 : Int32) < 0) = False := eq_false (by decide)
  have p3 : ((3 : Int32) < 0) = False := eq_false (by decide)
  have p4 : ((4 : Int32) < 0) = False := eq_false (by decide)
  have p5 : ((5 : Int32) < 0) = False := eq_false (by decide)
  unfold md_readPart
  rw [hl]
  simp only [zq_bindP, zq_letP]
  rw [if_neg hne]
  rcases this with rfl | rfl | rfl | rfl | rfl | rfl
  · have f0 : md_isWord N c1 [109, 111, 118, 101] = some (c1, 1) := h 0 (by decide)
    simp only [f0, zq_bindP, zq_letP, d10, p0, ↓reduceIte, i1, i2]
    rfl
  · have f0 : md_isWord N c1 [109, 111, 118, 101] = some (c1, 0) := h 0 (by decide)
    have f1 : md_isWord N c1 [108, 101, 103] = some (c1, 1) := h 1 (by decide)
    simp only [f0, f1, zq_bindP, zq_letP, d10, d00, p1, ↓reduceIte, i1, i2]
    rfl
  · have f0 : md_isWord N c1 [109, 111, 118, 101] = some (c1, 0) := h 0 (by decide)
    have f1 : md_isWord N c1 [108, 101, 103] = some (c1, 0) := h 1 (by decide)
    have f2 : md_isWord N c1 [111, 116, 104, 101, 114] = some (c1, 1) := h 2 (by decide)
    simp only [f0, f1, f2, zq_bindP, zq_letP, d10, d00, p2, ↓reduceIte, i1, i2]
    rfl
  · have f0 : md_isWord N c1 [109, 111, 118, 101] = some (c1, 0) := h 0 (by decide)
    have f1 : md_isWord N c1 [108, 101, 103] = some (c1, 0) := h 1 (by decide)
    have f2 : md_isWord N c1 [111, 116, 104, 101, 114] = some (c1, 0) := h 2 (by decide)
    have f3 : md_isWord N c1 [116, 104, 105, 110] = some (c1, 1) := h 3 (by decide)
    simp only [f0, f1, f2, f3, zq_bindP, zq_letP, d10, d00, p3, ↓reduceIte, i1, i2]
    rfl
  · have f0 : md_isWord N c1 [109, 111, 118, 101] = some (c1, 0) := h 0 (by decide)
    have f1 : md_isWord N c1 [108, 101, 103] = some (c1, 0) := h 1 (by decide)
    have f2 : md_isWord N c1 [111, 116, 104, 101, 114] = some (c1, 0) := h 2 (by decide)
    have f3 : md_isWord N c1 [116, 104, 105, 110] = some (c1, 0) := h 3 (by decide)
    have f4 : md_isWord N c1 [99, 97, 108, 109] = some (c1, 1) := h 4 (by decide)
    simp only [f0, f1, f2, f3, f4, zq_bindP, zq_letP, d10, d00, p4, ↓reduceIte, i1, i2]
    rfl
  · have f0 : md_isWord N c1 [109, 111, 118, 101] = some (c1, 0) := h 0 (by decide)
    have f1 : md_isWord N c1 [108, 101, 103] = some (c1, 0) := h 1 (by decide)
    have f2 : md_isWord N c1 [111, 116, 104, 101, 114] = some (c1, 0) := h 2 (by decide)
    have f3 : md_isWord N c1 [116, 104, 105, 110] = some (c1, 0) := h 3 (by decide)
    have f4 : md_isWord N c1 [99, 97, 108, 109] = some (c1, 0) := h 4 (by decide)
    have f5 : md_isWord N c1 [119, 97, 116, 101, 114] = some (c1, 1) := h 5 (by decide)
    simp only [f0, f1, f2, f3, f4, f5, zq_bindP, zq_letP, d10, d00, p5, ↓reduceIte, i1, i2]
    rfl
/-- one part of a sum, by both -/
theorem part_both (hN : 2000 ≤ N) (C : tcC (X + 1) s0 t ln) (C' : tcR c0 t ln) (H : CS X s0 c0 s c u a d) (ha : a < 400) (hp : p ≤ ln) (hq : rne isB t ln p = q) :
    (x9_takeOneOf N (tS (X + 1) s q b v) (X + 1) (wds FL) = some (tS (X + 1) s q b v, -1) ∧ x9_takeNumber N (tS (X + 1) s q b v) (X + 1) 0 999 = some (tS (X + 1) s q b v, 0) ∧ ∃ K, md_readPart N (pq c p b') = some (K, 0) ∧ flL X s0 c0 (tS (X + 1) s q b v) K) ∨
    (∃ f L, f < 6 ∧ 3 ≤ L ∧ q + L ≤ ln ∧ x9_takeOneOf N (tS (X + 1) s q b v) (X + 1) (wds FL) = some (tS (X + 1) s (rne isB t ln (q + L)) q v, nI f) ∧ md_readPart N (pq c p b') = some (pq (emS c a (nI f) 0) (q + L) q, 1)) ∨
    ∃ n D, n ≤ 999 ∧ 1 ≤ D ∧ q + D ≤ ln ∧ x9_takeOneOf N (tS (X + 1) s q b v) (X + 1) (wds FL) = some (tS (X + 1) s q b v, -1) ∧ x9_takeNumber N (tS (X + 1) s q b v) (X + 1) 0 999 = some (tS (X + 1) s (rne isB t ln (q + D)) q (nI n), 1) ∧ md_readPart N (pq c p b') = some (pq (emS c a 7 (nI n)) (q + D) q, 1) := by
  have C1 := tcC_fr C H.1
  have C1' := tcR_fr C' H.2.1
  have h4 := C1.2.2.2
  have hq' : q ≤ ln := by rw [← hq]; exact rne_le hp
  have g1 := rne_ge (P := isL) (t := t) (ln := ln) (p := q)
  have g2 := rne_le (P := isL) (t := t) hq'
  have eL : q + (rne isL t ln q - q) = rne isL t ln q := by omega
  have hl : md_letters N (pq c p b') = some (pq c (rne isL t ln q) q, 0) := by rw [le_ok (by omega) C1' hp, hq]
  have oo := oo_ok (N := N) (b := b) (v := v) hN C1 hq' FL (by decide) FL_32 (by decide) (by decide)
  have iw : ∀ j, j < 6 → md_isWord N (pq c (rne isL t ln q) q) (FL.getD j []) = some (pq c (rne isL t ln q) q, if wq t q (rne isL t ln q - q) (FL.getD j []) then 1 else 0) := fun j hj => by
    have a := iw_ok (N := N) (q := q) (L := rne isL t ln q - q) (w := FL.getD j []) hN C1' (by omega) (FL_l j hj).1
    rw [eL] at a
    exact a
  have em := fun x y => em_ok (p := rne isL t ln q) (b := q) (x := x) (y := y) H.2.2.2.2.1 ha
  by_cases e : rne isL t ln q = q
  · have o1 : x9_takeOneOf N (tS (X + 1) s q b v) (X + 1) (wds FL) = some (tS (X + 1) s q b v, -1) := by
      rcases oo with ⟨o1, _⟩ | ⟨i, o1, o2, _⟩
      · exact o1
      · have := (FL_l i o1).2
        have := o2.1
        omega
    have rp : ∀ c2 x, md_number N (pq c q q) 0 999 = some (c2, x) → md_readPart N (pq c p b') = (if ky_inB (1447 + (2 * (c2 0 16))) 2247 = true then (if ky_inB ((1447 + (2 * ((bk_w c2 1 (Int32.toNatClampNeg (1447 + (2 * (c2 0 16)))) 7) 0 16))) + 1) 2247 = true then (if x < 0 then (some (md_emits_c c2 7 x, 0)) else (some (md_emits_c c2 7 x, 1))) else none) else none) := fun c2 x hx => by
      unfold md_readPart
      rw [hl, e]
      simp only [zq_bindP, zq_letP]
      rw [pq_10, pq_12, if_pos rfl, hx]
      rfl
    have hqq : rne isB t ln q = q := by rw [← hq]; exact rne_idem
    rcases nm_both (N := N) (b := b) (b' := q) (v := v) (p := q) (q := q) (by omega) C1 C1' hq' hqq (lo := 0) (hi := 999) (by decide) (by decide) with ⟨n1, p', _, _, n2⟩ | ⟨n, D, _, n1, n2, n3, n4, n5⟩
    · left
      have em' := em_ok (p := p') (b := q) (x := 7) (y := -1) H.2.2.2.2.1 ha
      refine ⟨o1, n1, pq (emS c a 7 (-1)) p' q, ?_, flL_mk (em_CS H)⟩
      rw [rp _ _ n2, if_pos em'.1, if_pos em'.2.1, if_pos (by decide), em'.2.2]
    · right; right
      have em' := em_ok (p := q + D) (b := q) (x := 7) (y := nI n) H.2.2.2.2.1 ha
      refine ⟨n, D, n1, n2, n3, o1, n4, ?_⟩
      rw [rp _ _ n5, if_pos em'.1, if_pos em'.2.1, if_neg (nI_pos (by omega)), em'.2.2]
  · have hne : ¬ pq c (rne isL t ln q) q 0 10 = pq c (rne isL t ln q) q 0 12 := by rw [pq_10, pq_12, zq_eq (by omega) (by omega)]; exact e
    rcases oo with ⟨o1, o2⟩ | ⟨f, o1, o2, o3⟩
    · left
      have hd : rne isD t ln q = q := by
        obtain ⟨l1, l2⟩ := rne_in (P := isL) (t := t) (ln := ln) (p := q) (i := q) (Nat.le_refl _) (by omega)
        have l3 := (of_decide_eq_true l2).1
        refine rne_n (fun h => ?_)
        have l4 := (of_decide_eq_true h.2).2
        rw [fa_lt] at l3 l4
        have z1 : (97 : Int32).toInt = 97 := by decide
        have z2 : (57 : Int32).toInt = 57 := by decide
        omega
      have tn := tn_ok (N := N) (b := b) (v := v) (lo := 0) (hi := 999) (by omega) C1 hq'
      rw [hd, if_neg (fun h => by have := h.1; omega)] at tn
      refine ⟨o1, tn, pq (emS c a (-1) 0) (rne isL t ln q) q, ?_, flL_mk (em_CS H)⟩
      rw [part_none (fun j hj => by rw [iw j hj, if_neg (o2 j hj)]) hne (em (-1) 0).1 (em (-1) 0).2.1 hl, (em (-1) 0).2.2]
    · right; left
      have o1 : f < 6 := o1
      have hL : rne isL t ln q - q = (FL.getD f []).length := o2.1
      refine ⟨f, rne isL t ln q - q, o1, by rw [hL]; exact (FL_l f o1).2, by omega, by rw [eL]; exact o3, ?_⟩
      rw [part_fact o1 (fun j hj => by
        rw [iw j hj]
        by_cases ej : j = f
        · rw [if_pos ej, if_pos (by rw [ej]; exact o2)]
        · rw [if_neg ej, if_neg (fun h => FL_s j hj f o1 ej (wq_two h o2))]) hne (em (nI f) 0).1 (fun x => (em x 0).2.1) hl, (em (nI f) 0).2.2, eL]
end
