/-! AND, OR: the loops of both -/
section
variable {N X q b p ln b' u a d f : Nat} {s0 s s' sI : sk_S} {v : Int32} {t : Nat → Int32} {c0 c c' cI : Nat → Nat → Int32}
/-- what stands behind some parts of a condition -/
def AI (X : Nat) (s0 : sk_S) (c0 : Nat → Nat → Int32) (sI : sk_S) (cI : Nat → Nat → Int32) (uI aI pI d β : Nat) (s : sk_S) (c : Nat → Nat → Int32) (u a p : Nat) (g : (Nat → Nat) → Bool) : Prop :=
  CS X s0 c0 s c u a d ∧ CF X sI cI uI aI s c ∧ uI < u ∧ u + pI ≤ uI + p ∧ a + pI ≤ aI + p ∧ segC (sk_c s (X + 10)) uI u g β ∧ segV (dT c) aI a (fun e => if g e = true then 1 else 0)
theorem and_seg (g1 g2 : Bool) : (if 12 = 8 then (if g1 = true then 1 else 0) + (if g2 = true then 1 else 0) else if 12 = 9 then (if (if g1 = true then 1 else 0) < (if g2 = true then 1 else 0) then 1 else 0) else if 12 = 10 then (if (if g2 = true then 1 else 0) < (if g1 = true then 1 else 0) then 1 else 0) else if 12 = 12 then (if (if g1 = true then 1 else 0) + (if g2 = true then 1 else 0) = 2 then 1 else 0) else (if 0 < (if g1 = true then 1 else 0) + (if g2 = true then 1 else 0) then 1 else 0)) = if (g1 && g2) = true then 1 else 0 := by
  cases g1 <;> cases g2 <;> decide
theorem or_seg (g1 g2 : Bool) : (if 13 = 8 then (if g1 = true then 1 else 0) + (if g2 = true then 1 else 0) else if 13 = 9 then (if (if g1 = true then 1 else 0) < (if g2 = true then 1 else 0) then 1 else 0) else if 13 = 10 then (if (if g2 = true then 1 else 0) < (if g1 = true then 1 else 0) then 1 else 0) else if 13 = 12 then (if (if g1 = true then 1 else 0) + (if g2 = true then 1 else 0) = 2 then 1 else 0) else (if 0 < (if g1 = true then 1 else 0) + (if g2 = true then 1 else 0) then 1 else 0)) = if (g1 || g2) = true then 1 else 0 := by
  cases g1 <;> cases g2 <;> decide
theorem all_loop (hN : 100000 ≤ N) (C : tcC (X + 1) s0 t ln) (C' : tcR c0 t ln) (l4 : lay_X4 (sk_K s0) (sk_r s0) (X + 6) = true) (hd : d ≤ 6) (hA : atomP N X s0 c0 t ln f d) {uI aI pI : Nat} (hu : uI + 5 ≤ pI) (ha : aI + 5 ≤ pI) : ∀ (r : Nat) (s : sk_S) (c : Nat → Nat → Int32) (p q b b' : Nat) (v : Int32) (u a i fuel fuel' : Nat) (g : (Nat → Nat) → Bool), ln - q ≤ r → AI X s0 c0 sI cI uI aI pI d (2 * 4 ^ d) s c u a p g → p ≤ ln → rne isB t ln p = q → i + 1 ≤ p → r + 2 < fuel → r + 2 < fuel' → bth (flL X s0 c0) (QC X s0 c0 t ln sI cI uI aI pI d (2 * 4 ^ d)) (x4_readAll_L13 N (x4_readAtom N f) (X + 6) (X + 1) (fun q7 x8 x9 => (some (q7, 1))) fuel (tS (X + 1) s q b v) (nI d) (nI i)) (md_readAllOf_L9 N (md_readAtom N f) (fun q7 => (some (q7, 1))) fuel' (pq c p b')) := by
  have h4 := C.2.2.2
  have hp4 := pw4 hd
  intro r
  induction r with
  | zero =>
    intro s c p q b b' v u a i fuel fuel' g hr I hp hq hi hf hf'
    obtain ⟨fuel, rfl⟩ : ∃ q, fuel = q + 1 := ⟨fuel - 1, by omega⟩
    obtain ⟨fuel', rfl⟩ : ∃ q, fuel' = q + 1 := ⟨fuel' - 1, by omega⟩
    have hq' : q ≤ ln := by rw [← hq]; exact rne_le hp
    have hge := rne_ge (P := isB) (t := t) (ln := ln) (p := p)
    rw [hq] at hge
    obtain ⟨i1, i2, i3, i4, i5, i6, i7⟩ := I
    rcases wd_both (N := N) (b := b) (b' := b') (v := v) (by omega) (tcC_fr C i1.1) (tcR_fr C' i1.2.1) hp hq [97, 110, 100] (by decide) (by decide) (by decide) with ⟨n1, n2⟩ | ⟨n0, n1, n2⟩
    · simp only [x4_readAll_L13, md_readAllOf_L9]
      rw [if_neg (by show ¬ nI 400 ≤ nI i; rw [zq_le (by decide) (by omega)]; omega), n1, n2]
      simp only [zq_bindP, ↓reduceIte]
      exact bth_t ⟨s, c, q, q, b, q, v, u, a, g, rfl, rfl, hq', by rw [← hq]; exact rne_idem, i1, i2, i3, by omega, by omega, i6, i7⟩
    · have n0 : q + 3 ≤ ln := n0
      omega
  | succ r ih =>
    intro s c p q b b' v u a i fuel fuel' g hr I hp hq hi hf hf'
    obtain ⟨fuel, rfl⟩ : ∃ q, fuel = q + 1 := ⟨fuel - 1, by omega⟩
    obtain ⟨fuel', rfl⟩ : ∃ q, fuel' = q + 1 := ⟨fuel' - 1, by omega⟩
    have hq' : q ≤ ln := by rw [← hq]; exact rne_le hp
    have hge := rne_ge (P := isB) (t := t) (ln := ln) (p := p)
    rw [hq] at hge
    obtain ⟨i1, i2, i3, i4, i5, i6, i7⟩ := I
    rcases wd_both (N := N) (b := b) (b' := b') (v := v) (by omega) (tcC_fr C i1.1) (tcR_fr C' i1.2.1) hp hq [97, 110, 100] (by decide) (by decide) (by decide) with ⟨n1, n2⟩ | ⟨n0, n1, n2⟩
    · simp only [x4_readAll_L13, md_readAllOf_L9]
      rw [if_neg (by show ¬ nI 400 ≤ nI i; rw [zq_le (by decide) (by omega)]; omega), n1, n2]
      simp only [zq_bindP, ↓reduceIte]
      exact bth_t ⟨s, c, q, q, b, q, v, u, a, g, rfl, rfl, hq', by rw [← hq]; exact rne_idem, i1, i2, i3, by omega, by omega, i6, i7⟩
    · have n0 : q + 3 ≤ ln := n0
      have n1 : x9_takeWord N (tS (X + 1) s q b v) (X + 1) [97, 110, 100] = some (tS (X + 1) s (rne isB t ln (q + 3)) q v, 1) := n1
      have n2 : md_passes N (pq c p b') [97, 110, 100] = some (pq c (q + 3) q, 1) := n2
      simp only [x4_readAll_L13, md_readAllOf_L9]
      rw [if_neg (by show ¬ nI 400 ≤ nI i; rw [zq_le (by decide) (by omega)]; omega), n1, n2]
      simp only [zq_bindP, d10, ↓reduceIte]
      rcases hA s c (q + 3) _ q q v u a i1 (by omega) (by omega) n0 rfl with ⟨S, K, a1, a2, a3⟩ | ⟨S, K, a1, a2, s', c', p', q', b3, b4, v', u', a', g', w1, w2, w3, w4, w5, w6, w7, w8, w9, w10, w11⟩
      · rw [a1, a2]; simp only [zq_bindP, ↓reduceIte]; exact bth_f a3
      · rw [a1, a2]; subst w1; subst w2
        have em := em_ok (c := c') (a := a') (p := p') (b := b4) (x := 12) (y := 0) w5.2.2.2.2.1 (by omega)
        simp only [zq_bindP, zq_letP, d10, ↓reduceIte]
        rw [put_ok l4 w5 (by omega), if_pos em.1, if_pos em.2.1, em.2.2]
        simp only [zq_bindP, zq_letP, d10, ↓reduceIte]
        rw [nI_1]
        have hge3 := rne_ge (P := isB) (t := t) (ln := ln) (p := p')
        rw [w4] at hge3
        have wa := w11.1
        have ia := i7.1
        refine ih (ptS X s' u' 3) (emS c' a' 12 0) p' q' b3 b4 v' (u' + 1) (a' + 1) (i + 1) fuel fuel' (fun e => g e && g' e) (by omega) ⟨em_CS (pt_CS w5), ?_, by omega, by omega, by omega, ?_, ?_⟩ w3 w4 (by omega) (by omega) (by omega)
        · exact ((i2.tr w6 (by omega) ia).tr (pt_CF (c := c') (a := a')) (by omega) (by omega)).tr em_CF (u1 := u' + 1) (a1 := a') (by omega) (by omega)
        · refine segC_and (segC_cong (fun k hk => by rw [pt_10, if_neg (by omega)]; exact w6.1 k hk) i6) (segC_cong (fun k hk => by rw [pt_10, if_neg (by omega)]) (segC_mono (by omega) w10)) (by omega) (by rw [pt_10, if_pos rfl])
        · refine segV_bin (segV_cong (fun k hk => by rw [em_T (by omega), CF_T w6 hk]) i7) (segV_cong (fun k hk => em_T hk) w11) (fun e _ => by have := b01 (g e); omega) (fun e _ => by have := b01 (g' e); omega) (k := 12) em_x (by decide) (by decide) (by decide) (fun e _ => and_seg (g e) (g' e))
theorem all_ok (hN : 100000 ≤ N) (C : tcC (X + 1) s0 t ln) (C' : tcR c0 t ln) (l4 : lay_X4 (sk_K s0) (sk_r s0) (X + 6) = true) (hd : d ≤ 6) (hA : atomP N X s0 c0 t ln f d) : allP N X s0 c0 t ln f d := by
  intro s c p q b b' v u a H hu ha hp hq
  have h4 := C.2.2.2
  have hp4 := pw4 hd
  have l4' : lay_X4 (sk_K (tS (X + 1) s q b v)) (sk_r (tS (X + 1) s q b v)) (X + 6) = true := lay4_fr l4 H.1.tS
  have l9' : lay_X9 (sk_K (tS (X + 1) s q b v)) (sk_r (tS (X + 1) s q b v)) (X + 1) = true := (tcC_fr C H.1).1
  unfold x4_readAll md_readAllOf
  rw [if_pos l4', if_pos l9']
  rcases hA s c p q b b' v u a H hu ha hp hq with ⟨S, K, a1, a2, a3⟩ | ⟨S, K, a1, a2, s', c', p', q', b3, b4, v', u', a', g', w1, w2, w3, w4, w5, w6, w7, w8, w9, w10, w11⟩
  · rw [a1, a2]; simp only [zq_bindP, ↓reduceIte]; exact bth_f a3
  · rw [a1, a2]; subst w1; subst w2
    simp only [zq_bindP, d10, ↓reduceIte]
    exact all_loop (N := N) hN C C' l4 hd hA hu ha (ln - q') s' c' p' q' b3 b4 v' u' a' 0 N N g' (Nat.le_refl _) ⟨w5, w6, w7, w8, w9, segC_mono (by omega) w10, w11⟩ w3 w4 (by omega) (by omega) (by omega)
theorem cond_loop (hN : 100000 ≤ N) (C : tcC (X + 1) s0 t ln) (C' : tcR c0 t ln) (l4 : lay_X4 (sk_K s0) (sk_r s0) (X + 6) = true) (hd : d ≤ 6) (hA : allP N X s0 c0 t ln f d) {uI aI pI : Nat} (hu : uI + 5 ≤ pI) (ha : aI + 5 ≤ pI) : ∀ (r : Nat) (s : sk_S) (c : Nat → Nat → Int32) (p q b b' : Nat) (v : Int32) (u a i fuel fuel' : Nat) (g : (Nat → Nat) → Bool), ln - q ≤ r → AI X s0 c0 sI cI uI aI pI d (4 ^ d) s c u a p g → p ≤ ln → rne isB t ln p = q → i + 1 ≤ p → r + 2 < fuel → r + 2 < fuel' → bth (flL X s0 c0) (QC X s0 c0 t ln sI cI uI aI pI d (4 ^ d)) (x4_readCondition_L13 N (x4_readAtom N f) (X + 6) (X + 1) (fun q7 x8 x9 => (some (q7, 1))) fuel (tS (X + 1) s q b v) (nI d) (nI i)) (md_readCond_L9 N (md_readAtom N f) (fun q7 => (some (q7, 1))) fuel' (pq c p b')) := by
  have h4 := C.2.2.2
  have hp4 := pw4 hd
  intro r
  induction r with
  | zero =>
    intro s c p q b b' v u a i fuel fuel' g hr I hp hq hi hf hf'
    obtain ⟨fuel, rfl⟩ : ∃ q, fuel = q + 1 := ⟨fuel - 1, by omega⟩
    obtain ⟨fuel', rfl⟩ : ∃ q, fuel' = q + 1 := ⟨fuel' - 1, by omega⟩
    have hq' : q ≤ ln := by rw [← hq]; exact rne_le hp
    have hge := rne_ge (P := isB) (t := t) (ln := ln) (p := p)
    rw [hq] at hge
    obtain ⟨i1, i2, i3, i4, i5, i6, i7⟩ := I
    rcases wd_both (N := N) (b := b) (b' := b') (v := v) (by omega) (tcC_fr C i1.1) (tcR_fr C' i1.2.1) hp hq [111, 114] (by decide) (by decide) (by decide) with ⟨n1, n2⟩ | ⟨n0, n1, n2⟩
    · simp only [x4_readCondition_L13, md_readCond_L9]
      rw [if_neg (by show ¬ nI 400 ≤ nI i; rw [zq_le (by decide) (by omega)]; omega), n1, n2]
      simp only [zq_bindP, ↓reduceIte]
      exact bth_t ⟨s, c, q, q, b, q, v, u, a, g, rfl, rfl, hq', by rw [← hq]; exact rne_idem, i1, i2, i3, by omega, by omega, i6, i7⟩
    · have n0 : q + 2 ≤ ln := n0
      omega
  | succ r ih =>
    intro s c p q b b' v u a i fuel fuel' g hr I hp hq hi hf hf'
    obtain ⟨fuel, rfl⟩ : ∃ q, fuel = q + 1 := ⟨fuel - 1, by omega⟩
    obtain ⟨fuel', rfl⟩ : ∃ q, fuel' = q + 1 := ⟨fuel' - 1, by omega⟩
    have hq' : q ≤ ln := by rw [← hq]; exact rne_le hp
    have hge := rne_ge (P := isB) (t := t) (ln := ln) (p := p)
    rw [hq] at hge
    obtain ⟨i1, i2, i3, i4, i5, i6, i7⟩ := I
    rcases wd_both (N := N) (b := b) (b' := b') (v := v) (by omega) (tcC_fr C i1.1) (tcR_fr C' i1.2.1) hp hq [111, 114] (by decide) (by decide) (by decide) with ⟨n1, n2⟩ | ⟨n0, n1, n2⟩
    · simp only [x4_readCondition_L13, md_readCond_L9]
      rw [if_neg (by show ¬ nI 400 ≤ nI i; rw [zq_le (by decide) (by omega)]; omega), n1, n2]
      simp only [zq_bindP, ↓reduceIte]
      exact bth_t ⟨s, c, q, q, b, q, v, u, a, g, rfl, rfl, hq', by rw [← hq]; exact rne_idem, i1, i2, i3, by omega, by omega, i6, i7⟩
    · have n0 : q + 2 ≤ ln := n0
      have n1 : x9_takeWord N (tS (X + 1) s q b v) (X + 1) [111, 114] = some (tS (X + 1) s (rne isB t ln (q + 2)) q v, 1) := n1
      have n2 : md_passes N (pq c p b') [111, 114] = some (pq c (q + 2) q, 1) := n2
      simp only [x4_readCondition_L13, md_readCond_L9]
      rw [if_neg (by show ¬ nI 400 ≤ nI i; rw [zq_le (by decide) (by omega)]; omega), n1, n2]
      simp only [zq_bindP, d10, ↓reduceIte]
      rcases hA s c (q + 2) _ q q v u a i1 (by omega) (by omega) n0 rfl with ⟨S, K, a1, a2, a3⟩ | ⟨S, K, a1, a2, s', c', p', q', b3, b4, v', u', a', g', w1, w2, w3, w4, w5, w6, w7, w8, w9, w10, w11⟩
      · rw [a1, a2]; simp only [zq_bindP, ↓reduceIte]; exact bth_f a3
      · rw [a1, a2]; subst w1; subst w2
        have em := em_ok (c := c') (a := a') (p := p') (b := b4) (x := 13) (y := 0) w5.2.2.2.2.1 (by omega)
        simp only [zq_bindP, zq_letP, d10, ↓reduceIte]
        rw [put_ok l4 w5 (by omega), if_pos em.1, if_pos em.2.1, em.2.2]
        simp only [zq_bindP, zq_letP, d10, ↓reduceIte]
        rw [nI_1]
        have hge3 := rne_ge (P := isB) (t := t) (ln := ln) (p := p')
        rw [w4] at hge3
        have wa := w11.1
        have ia := i7.1
        refine ih (ptS X s' u' 4) (emS c' a' 13 0) p' q' b3 b4 v' (u' + 1) (a' + 1) (i + 1) fuel fuel' (fun e => g e || g' e) (by omega) ⟨em_CS (pt_CS w5), ?_, by omega, by omega, by omega, ?_, ?_⟩ w3 w4 (by omega) (by omega) (by omega)
        · exact ((i2.tr w6 (by omega) ia).tr (pt_CF (c := c') (a := a')) (by omega) (by omega)).tr em_CF (u1 := u' + 1) (a1 := a') (by omega) (by omega)
        · refine segC_or (segC_cong (fun k hk => by rw [pt_10, if_neg (by omega)]; exact w6.1 k hk) i6) (segC_cong (fun k hk => by rw [pt_10, if_neg (by omega)]) w10) (by omega) (by rw [pt_10, if_pos rfl])
        · refine segV_bin (segV_cong (fun k hk => by rw [em_T (by omega), CF_T w6 hk]) i7) (segV_cong (fun k hk => em_T hk) w11) (fun e _ => by have := b01 (g e); omega) (fun e _ => by have := b01 (g' e); omega) (k := 13) em_x (by decide) (by decide) (by decide) (fun e _ => or_seg (g e) (g' e))
theorem cond_ok (hN : 100000 ≤ N) (C : tcC (X + 1) s0 t ln) (C' : tcR c0 t ln) (l4 : lay_X4 (sk_K s0) (sk_r s0) (X + 6) = true) (hd : d ≤ 6) (hA : allP N X s0 c0 t ln f d) : condP N X s0 c0 t ln f d := by
  intro s c p q b b' v u a H hu ha hp hq
  have h4 := C.2.2.2
  have hp4 := pw4 hd
  have l4' : lay_X4 (sk_K (tS (X + 1) s q b v)) (sk_r (tS (X + 1) s q b v)) (X + 6) = true := lay4_fr l4 H.1.tS
  have l9' : lay_X9 (sk_K (tS (X + 1) s q b v)) (sk_r (tS (X + 1) s q b v)) (X + 1) = true := (tcC_fr C H.1).1
  unfold x4_readCondition md_readCond
  rw [if_pos l4', if_pos l9']
  rcases hA s c p q b b' v u a H hu ha hp hq with ⟨S, K, a1, a2, a3⟩ | ⟨S, K, a1, a2, s', c', p', q', b3, b4, v', u', a', g', w1, w2, w3, w4, w5, w6, w7, w8, w9, w10, w11⟩
  · rw [a1, a2]; simp only [zq_bindP, ↓reduceIte]; exact bth_f a3
  · rw [a1, a2]; subst w1; subst w2
    simp only [zq_bindP, d10, ↓reduceIte]
    exact cond_loop (N := N) hN C C' l4 hd hA hu ha (ln - q') s' c' p' q' b3 b4 v' u' a' 0 N N g' (Nat.le_refl _) ⟨w5, w6, w7, w8, w9, segC_mono (by omega) w10, w11⟩ w3 w4 (by omega) (by omega) (by omega)
theorem atom_all (hN : 100000 ≤ N) (C : tcC (X + 1) s0 t ln) (C' : tcR c0 t ln) (l4 : lay_X4 (sk_K s0) (sk_r s0) (X + 6) = true) : ∀ f d, d ≤ 6 → 7 ≤ d + f → atomP N X s0 c0 t ln f d
  | 0, d, h1, h2 => by omega
  | f + 1, d, h1, h2 => atom_step hN C C' l4 h1 (fun h => atom_all hN C C' l4 f (d + 1) (by omega) (by omega)) (fun h => cond_ok hN C C' l4 (by omega) (all_ok hN C C' l4 (by omega) (atom_all hN C C' l4 f (d + 1) (by omega) (by omega))))
/-- a whole condition -/
theorem condT_ok (hN : 100000 ≤ N) (C : tcC (X + 1) s0 t ln) (C' : tcR c0 t ln) (l4 : lay_X4 (sk_K s0) (sk_r s0) (X + 6) = true) (H : CS X s0 c0 s c u a 0) (hu : u + 5 ≤ p) (ha : a + 5 ≤ p) (hp : p ≤ ln) (hq : rne isB t ln p = q) : bth (flL X s0 c0) (QC X s0 c0 t ln s c u a p 0 1) (x4_readCondT N (tS (X + 1) s q b v) (X + 6) (X + 1) 0) (md_readCondT N (pq c p b')) :=
  cond_ok hN C C' l4 (by decide) (all_ok hN C C' l4 (by decide) (atom_all hN C C' l4 8 0 (by decide) (by decide))) s c p q b b' v u a H hu ha hp hq
end
