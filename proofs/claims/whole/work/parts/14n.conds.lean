/-! CONDITIONS, by both -/
def QC (X : Nat) (s0 : sk_S) (c0 : Nat → Nat → Int32) (t : Nat → Int32) (ln : Nat) (s : sk_S) (c : Nat → Nat → Int32) (u a p d β : Nat) (S : sk_S) (C : Nat → Nat → Int32) : Prop :=
  ∃ s' c' p' q' b b' v u' a' g, S = tS (X + 1) s' q' b v ∧ C = pq c' p' b' ∧ p' ≤ ln ∧ rne isB t ln p' = q' ∧ CS X s0 c0 s' c' u' a' d ∧ CF X s c u a s' c' ∧ u < u' ∧ u' + p ≤ u + p' ∧ a' + p ≤ a + p' ∧ segC (sk_c s' (X + 10)) u u' g β ∧ segV (dT c') a a' (fun e => if g e = true then 1 else 0)
def atomP (N X : Nat) (s0 : sk_S) (c0 : Nat → Nat → Int32) (t : Nat → Int32) (ln f d : Nat) : Prop := ∀ (s : sk_S) (c : Nat → Nat → Int32) (p q b b' : Nat) (v : Int32) (u a : Nat), CS X s0 c0 s c u a d → u + 5 ≤ p → a + 5 ≤ p → p ≤ ln → rne isB t ln p = q → bth (flL X s0 c0) (QC X s0 c0 t ln s c u a p d (4 ^ (d + 1))) (x4_readAtom N f (tS (X + 1) s q b v) (X + 6) (X + 1) (nI d)) (md_readAtom N f (pq c p b'))
def allP (N X : Nat) (s0 : sk_S) (c0 : Nat → Nat → Int32) (t : Nat → Int32) (ln f d : Nat) : Prop := ∀ (s : sk_S) (c : Nat → Nat → Int32) (p q b b' : Nat) (v : Int32) (u a : Nat), CS X s0 c0 s c u a d → u + 5 ≤ p → a + 5 ≤ p → p ≤ ln → rne isB t ln p = q → bth (flL X s0 c0) (QC X s0 c0 t ln s c u a p d (2 * 4 ^ d)) (x4_readAll N (x4_readAtom N f) (tS (X + 1) s q b v) (X + 6) (X + 1) (nI d)) (md_readAllOf N (md_readAtom N f) (pq c p b'))
def condP (N X : Nat) (s0 : sk_S) (c0 : Nat → Nat → Int32) (t : Nat → Int32) (ln f d : Nat) : Prop := ∀ (s : sk_S) (c : Nat → Nat → Int32) (p q b b' : Nat) (v : Int32) (u a : Nat), CS X s0 c0 s c u a d → u + 5 ≤ p → a + 5 ≤ p → p ≤ ln → rne isB t ln p = q → bth (flL X s0 c0) (QC X s0 c0 t ln s c u a p d (4 ^ d)) (x4_readCondition N (x4_readAtom N f) (tS (X + 1) s q b v) (X + 6) (X + 1) (nI d)) (md_readCond N (md_readAtom N f) (pq c p b'))
section
variable {N X q b p ln b' u a d f : Nat} {s0 s s' : sk_S} {v : Int32} {t : Nat → Int32} {c0 c c' : Nat → Nat → Int32}
theorem b01 (g : Bool) : (if g = true then 1 else 0) ≤ 1 := by cases g <;> decide
theorem CS_13 {d' : Nat} (h : CS X s0 c0 s c u a d) : CS X s0 c0 s (bk_w c 0 13 (nI d')) u a d' := ⟨h.1, ⟨fun k h0 h1 => by rw [bk_w_ne h0]; exact h.2.1.1 k h0 h1, fun k h1 h2 h3 h4 => by rw [bk_w_at h3]; exact h.2.1.2.1 k h1 h2 h3 h4, fun k h1 h2 => by rw [bk_w_ne (by decide)]; exact h.2.1.2.2 k h1 h2⟩, fun k hk => by rw [bk_w_ne (by decide)]; exact h.2.2.1 k hk, h.2.2.2.1, by rw [bk_w_at (by decide)]; exact h.2.2.2.2.1, bk_w_same _ _ _ _⟩
theorem CF_13 {x : Int32} : CF X s c u a s (bk_w c 0 13 x) := ⟨fun _ _ => rfl, rfl, rfl, rfl, rfl, fun k _ _ => by rw [bk_w_ne (by decide)]⟩
theorem dT_13 {x : Int32} : dT (bk_w c 0 13 x) = dT c := by unfold dT; rw [bk_w_ne (by decide)]
theorem tS_same {T : Nat} {S : sk_S} (h2 : sk_c S T 2 = v) (h3 : sk_c S T 3 = nI q) (h4 : sk_c S T 4 = nI b) : tS T S q b v = S := by
  unfold tS
  have : tF (sk_c S T) q b v = sk_c S T := by
    funext k
    unfold tF
    by_cases e2 : k = 2
    · rw [if_pos e2, e2, h2]
    · rw [if_neg e2]
      by_cases e3 : k = 3
      · rw [if_pos e3, e3, h3]
      · rw [if_neg e3]
        by_cases e4 : k = 4
        · rw [if_pos e4, e4, h4]
        · rw [if_neg e4]
  rw [this, wf_self]
/-- the weights made empty -/
theorem fill_ok (hN : 100 ≤ N) (l4 : lay_X4 (sk_K s0) (sk_r s0) (X + 6) = true) (H : CS X s0 c0 s c u a d) : ∃ s', j7_fill_53178 N (tS (X + 1) s q b v) (X + 6 + 5) 0 = some (tS (X + 1) s' q b v, 0) ∧ CS X s0 c0 s' c u a d ∧ CF X s c u a s' c ∧ (∀ k, sk_c s' (X + 10) k = sk_c s (X + 10) k) ∧ ∀ j, j < 7 → (sk_c s' (X + 11) j).toInt = 0 := by
  have K : sk_K (tS (X + 1) s q b v) (X + 6 + 5) = (21, 7) := by rw [tS_K, H.1.1]; exact (lay_X4_of l4).2.2.2.2.2.2.2.2.2.2
  obtain ⟨S, f1, f2, f3⟩ := fl_ok (N := N) (v := 0) K (by decide) (by omega)
  have cc : ∀ a k, a ≠ X + 11 → sk_c S a k = sk_c (tS (X + 1) s q b v) a k := fun a k h => f2.2.2.2.2.2 a k (by omega)
  have cn : ∀ a, a ≠ X + 11 → a ≠ X + 1 → sk_c S a = sk_c s a := fun a h h1 => funext fun k => by rw [cc a k h, tS_n h1]
  refine ⟨S, ?_, ⟨?_, H.2.1, H.2.2.1, ?_, H.2.2.2.2.1, H.2.2.2.2.2⟩, ⟨fun k _ => by rw [cn _ (by omega) (by omega)], cn _ (by omega) (by omega), cn _ (by omega) (by omega), cn _ (by omega) (by omega), by rw [cn _ (by omega) (by omega)], fun _ _ _ => rfl⟩, fun k => by rw [cn _ (by omega) (by omega)], fun j hj => ?_⟩
  · rw [f1, tS_same (by rw [cc _ _ (by omega), tS_2]) (by rw [cc _ _ (by omega), tS_3]) (by rw [cc _ _ (by omega), tS_4])]
  · exact H.1.tS.tr (f2.mono (fun b k h => by unfold rdV; omega))
  · rw [cn _ (by omega) (by omega)]; exact H.2.2.2.1
  · have := f3 j hj
    have e : sk_c S (X + 11) j = 0 := this
    rw [e]; decide
theorem pw4 {d : Nat} (h : d ≤ 6) : 4 ^ (d + 1) ≤ 16384 ∧ 4 ^ (d + 1) = 4 * 4 ^ d := by
  refine ⟨Nat.le_trans (Nat.pow_le_pow_right (by decide) (show d + 1 ≤ 7 by omega)) (by decide), by rw [Nat.pow_succ]; omega⟩
/-- two sums compared -/
theorem cmp_fin (hN : 100000 ≤ N) (C : tcC (X + 1) s0 t ln) (l4 : lay_X4 (sk_K s0) (sk_r s0) (X + 6) = true) (hd : d ≤ 6) {sI : sk_S} {cI : Nat → Nat → Int32} {aI pI p1 a1 : Nat} {s1 s2 : sk_S} {c1 c2 : Nat → Nat → Int32} {cL cR : Nat → Nat} {kL kR a2 p2 : Nat} {less : Int32} {τ : Int} {k : Nat} (hu : u + 5 ≤ pI) (hk : (τ = 1 ∧ less = 1 ∧ k = 9) ∨ (τ = -1 ∧ less = -1 ∧ k = 10)) (hCF : CF X sI cI u aI s1 c1) (cd1 : ∀ k, sk_c s1 (X + 10) k = sk_c sI (X + 10) k) (sg1 : segV (dT c1) aI a1 (fun e => linN cL e 6)) (b1 : a1 + pI ≤ aI + p1) (k1 : pI + 4 * kfc cL + 2 * kL ≤ p1 + 1) (n1 : 1 ≤ kfc cL + kL) (m1 : cL 6 ≤ 999 * kL) (h5 : aI + 5 ≤ pI) (I : SI X s0 c0 s1 c1 u d a1 (p1 + 1) (fun j => (cL j : Int)) (-1) s2 c2 a2 p2 cR kR) (hp2 : p2 ≤ ln) :
    ∃ s3, x4_putComparison N (tS (X + 1) s2 q b v) (X + 6) less = some (tS (X + 1) s3 q b v, 1) ∧ ky_inB (1447 + (2 * (pq c2 p2 b' 0 16))) 2247 = true ∧ ky_inB ((1447 + (2 * ((bk_w (pq c2 p2 b') 1 (Int32.toNatClampNeg (1447 + (2 * (pq c2 p2 b' 0 16)))) (nI k)) 0 16))) + 1) 2247 = true ∧ md_emits_c (pq c2 p2 b') (nI k) 0 = pq (emS c2 a2 (nI k) 0) p2 b' ∧ ∃ u' g, CS X s0 c0 s3 (emS c2 a2 (nI k) 0) u' (a2 + 1) d ∧ CF X sI cI u aI s3 (emS c2 a2 (nI k) 0) ∧ u < u' ∧ u' + pI ≤ u + p2 ∧ a2 + 1 + pI ≤ aI + p2 ∧ segC (sk_c s3 (X + 10)) u u' g (4 ^ (d + 1)) ∧ segV (dT (emS c2 a2 (nI k) 0)) aI (a2 + 1) (fun e => if g e = true then 1 else 0) := by
  have h4 := C.2.2.2
  obtain ⟨i1, i2, i3, i4, i5, i6, i7, i8, i9, i10⟩ := I
  have hwt : ∀ j, (fun j => (cL j : Int) - cR j) j = (cL j : Int) - cR j := fun _ => rfl
  have nz := nz_kf hwt
  have hτ : τ = 1 ∨ τ = -1 := by rcases hk with ⟨h, _⟩ | ⟨h, _⟩ <;> simp [h]
  have hle : less.toInt = τ := by rcases hk with ⟨h, h', _⟩ | ⟨h, h', _⟩ <;> rw [h, h'] <;> decide
  obtain ⟨s3, p1', p2', p3', p4'⟩ := pc_ok (N := N) (q := q) (b := b) (v := v) (turn := less) (τ := τ) (wt := fun j => (cL j : Int) - cR j) (by omega) l4 i1 hle hτ (fun j hj => by
      have x1 := kf_le cL hj
      have x2 := kf_le cR hj
      show -400 ≤ (cL j : Int) - cR j ∧ (cL j : Int) - cR j ≤ 400
      omega) (by
      show -400000 ≤ (cL 6 : Int) - cR 6 ∧ (cL 6 : Int) - cR 6 ≤ 400000
      omega) (fun j hj => by
      rw [i4 j hj]
      show (cL j : Int) + -1 * (cR j : Int) = (cL j : Int) - cR j
      omega) (by omega)
  have em := em_ok (c := c2) (a := a2) (p := p2) (b := b') (x := nI k) (y := 0) i1.2.2.2.2.1 (by omega)
  have hp4 := pw4 hd
  refine ⟨s3, p1', em.1, em.2.1, em.2.2, u + 3 + 2 * nzb (fun j => (cL j : Int) - cR j) 6, fun e => decide (lsI τ (fun j => (cL j : Int) - cR j) e 6 < 0), em_CS p2', ?_, by omega, by omega, by omega, p4' _ (by omega), ?_⟩
  · exact (hCF.tr i2 (Nat.le_refl _) sg1.1).tr (p3'.tr em_CF (Nat.le_refl _) (Nat.le_refl _)) (Nat.le_refl _) (by have := sg1.1; omega)
  · have T2 : segV (dT (emS c2 a2 (nI k) 0)) aI a1 (fun e => linN cL e 6) := segV_cong (fun k' hk' => by rw [em_T (by omega), CF_T i2 (by omega)]) sg1
    have T3 : segV (dT (emS c2 a2 (nI k) 0)) a1 a2 (fun e => linN cR e 6) := segV_cong (fun k' hk' => by rw [em_T (by omega)]) i5
    refine segV_bin T2 T3 (fun e he => ?_) (fun e he => ?_) (k := k) em_x (by omega) (by omega) (by omega) (fun e he => ?_)
    · have := lin_le (cnt := cL) he; omega
    · have := lin_le (cnt := cR) he; omega
    · show _ = if decide (lsI τ (fun j => (cL j : Int) - cR j) e 6 < 0) = true then 1 else 0
      have ll := ls_lin (τ := τ) hτ hwt e 6
      rcases hk with ⟨rfl, _, rfl⟩ | ⟨rfl, _, rfl⟩
      · rw [if_neg (by decide), if_pos rfl]
        by_cases h : linN cL e 6 < linN cR e 6
        · rw [if_pos h, if_pos (decide_eq_true (by omega))]
        · rw [if_neg h, if_neg (fun q => h (by have := of_decide_eq_true q; omega))]
      · rw [if_neg (by decide), if_neg (by decide), if_pos rfl]
        by_cases h : linN cR e 6 < linN cL e 6
        · rw [if_pos h, if_pos (decide_eq_true (by omega))]
        · rw [if_neg h, if_neg (fun q => h (by have := of_decide_eq_true q; omega))]
theorem atom_step (hN : 100000 ≤ N) (C : tcC (X + 1) s0 t ln) (C' : tcR c0 t ln) (l4 : lay_X4 (sk_K s0) (sk_r s0) (X + 6) = true) (hd : d ≤ 6) (hA : d < 6 → atomP N X s0 c0 t ln f (d + 1)) (hB : d < 6 → condP N X s0 c0 t ln f (d + 1)) : atomP N X s0 c0 t ln (f + 1) d := by
  intro s c p q b b' v u a H hu ha hp hq
  have h4 := C.2.2.2
  have C1 := tcC_fr C H.1
  have C1' := tcR_fr C' H.2.1
  have hq' : q ≤ ln := by rw [← hq]; exact rne_le hp
  have hge := rne_ge (P := isB) (t := t) (ln := ln) (p := p)
  rw [hq] at hge
  have hqq : rne isB t ln q = q := by rw [← hq]; exact rne_idem
  have l4' : lay_X4 (sk_K (tS (X + 1) s q b v)) (sk_r (tS (X + 1) s q b v)) (X + 6) = true := lay4_fr l4 H.1.tS
  have l9' : lay_X9 (sk_K (tS (X + 1) s q b v)) (sk_r (tS (X + 1) s q b v)) (X + 1) = true := C1.1
  have hp4 := pw4 hd
  have e13 : ∀ {c p b}, CS X s0 c0 s c u a d → pq c p b 0 13 = nI d := fun h => by rw [pq_o (by decide) (by decide)]; exact h.2.2.2.2.2
  simp only [x4_readAtom, md_readAtom]
  rw [if_pos l4', if_pos l9']
  rcases sg_both (N := N) (b := b) (b' := b') (v := v) (by omega) C1 C1' hp hq 40 with ⟨g1, g2, g3⟩ | ⟨g1, g2, g3, g4⟩
  · rw [g2]
    simp only [zq_bindP, ↓reduceIte]
    rcases wd_both (N := N) (b := b) (b' := q) (v := v) (by omega) C1 C1' hq' hqq [110, 111, 116] (by decide) (by decide) (by decide) with ⟨n1, n2⟩ | ⟨n0, n1, n2⟩
    · rw [n1, n2]
      simp only [zq_bindP, ↓reduceIte]
      rw [g1]
      simp only [zq_bindP, ↓reduceIte]
      rcases wd_both (N := N) (b := b) (b' := q) (v := v) (by omega) C1 C1' hq' hqq [108, 121, 105, 110, 103] (by decide) (by decide) (by decide) with ⟨y1, y2⟩ | ⟨y0, y1, y2⟩
      · -- a comparison
        rw [y1, y2]
        simp only [zq_bindP, ↓reduceIte]
        obtain ⟨sF, f1, f2, f3, f4, f5⟩ := fill_ok (N := N) (q := q) (b := b) (v := v) (by omega) l4 H
        rw [f1]
        simp only [zq_bindP]
        have i1' : (1 : Int32).toInt = 1 := by decide
        rcases sum_both (N := N) (b := b) (b' := q) (v := v) hN C C' l4 (side := 1) (σ := 1) i1' (.inl rfl) (wt := fun _ => 0) (fun _ => by omega) f2 (p := q) (by omega) f5 hq' hqq with ⟨S, K, a1, a2, a3⟩ | ⟨S, K, a1, a2, s1, c1, p1, q1, b1, b2, v1, aa, cL, kL, u1, u2, u3, u4, I⟩
        · rw [a1, a2]; simp only [zq_bindP, ↓reduceIte]; exact bth_f a3
        · rw [a1, a2]; subst u1; subst u2
          simp only [zq_bindP, d10, ↓reduceIte]
          obtain ⟨I1, I2, I3, I4, I5, I6, I7, I8, I9, I10⟩ := I
          have D1 := tcC_fr C I1.1
          have D1' := tcR_fr C' I1.2.1
          have hq1 : q1 ≤ ln := by rw [← u4]; exact rne_le u3
          have hge1 := rne_ge (P := isB) (t := t) (ln := ln) (p := p1)
          rw [u4] at hge1
          have hqq1 : rne isB t ln q1 = q1 := by rw [← u4]; exact rne_idem
          have im1 : (-1 : Int32).toInt = -1 := by decide
          have wL : ∀ j, -500000 ≤ (fun j => (cL j : Int)) j ∧ (fun j => (cL j : Int)) j ≤ 500000 ∨ 7 ≤ j := fun j => by
            by_cases hj : j < 7
            · left
              show -500000 ≤ (cL j : Int) ∧ (cL j : Int) ≤ 500000
              by_cases h6 : j = 6
              · subst h6; omega
              · have := kf_le cL (show j < 6 by omega); omega
            · right; omega
          -- the second sum, whatever the sign
          have two : ∀ (k : Nat) (τ : Int) (ls : Int32), ((τ = 1 ∧ ls = 1 ∧ k = 9) ∨ (τ = -1 ∧ ls = -1 ∧ k = 10)) → q1 + 1 ≤ ln → bth (flL X s0 c0) (QC X s0 c0 t ln s c u a p d (4 ^ (d + 1))) ((x4_readSum N (tS (X + 1) s1 (rne isB t ln (q1 + 1)) q1 v1) (X + 6) (X + 1) (-1)).bind (fun zz => if zz.2 = 0 then some (zz.1, 0) else (x4_putComparison N zz.1 (X + 6) ls).bind (fun zz => if zz.2 = 0 then some (zz.1, 0) else some (zz.1, 1)))) ((md_readSum N (pq c1 (q1 + 1) q1)).bind (fun zz => if zz.2 = 0 then some (zz.1, 0) else if ky_inB (1447 + (2 * (zz.1 0 16))) 2247 = true then (if ky_inB ((1447 + (2 * ((bk_w zz.1 1 (Int32.toNatClampNeg (1447 + (2 * (zz.1 0 16)))) (nI k)) 0 16))) + 1) 2247 = true then some (md_emits_c zz.1 (nI k) 0, 1) else none) else none)) := fun k τ ls hk hq2 => by
            have wL' : ∀ j, -500000 ≤ (fun j => if j < 7 then (cL j : Int) else 0) j ∧ (fun j => if j < 7 then (cL j : Int) else 0) j ≤ 500000 := fun j => by
              rcases wL j with h | h
              · show -500000 ≤ (if j < 7 then (cL j : Int) else 0) ∧ (if j < 7 then (cL j : Int) else 0) ≤ 500000
                split
                · exact h
                · omega
              · show -500000 ≤ (if j < 7 then (cL j : Int) else 0) ∧ (if j < 7 then (cL j : Int) else 0) ≤ 500000
                rw [if_neg (by omega)]; omega
            rcases sum_both (N := N) (b := q1) (b' := q1) (v := v1) hN C C' l4 (side := -1) (σ := -1) im1 (.inr rfl) (wt := fun j => if j < 7 then (cL j : Int) else 0) wL' I1 (p := q1 + 1) (by omega) (fun j hj => by
              rw [I4 j hj]
              show (0 : Int) + 1 * (cL j : Int) = if j < 7 then (cL j : Int) else 0
              rw [if_pos hj]; omega) hq2 rfl with ⟨S, K, e1, e2, e3⟩ | ⟨S, K, e1, e2, s2, c2, p2, q2, b3, b4, v2, a2, cR, kR, w1, w2, w3, w4, J⟩
            · rw [e1, e2]; simp only [zq_bindP, ↓reduceIte]; exact bth_f e3
            · rw [e1, e2]; subst w1; subst w2
              simp only [zq_bindP, d10, ↓reduceIte]
              have J' : SI X s0 c0 s1 c1 u d aa (q1 + 1) (fun j => (cL j : Int)) (-1) s2 c2 a2 p2 cR kR := by
                obtain ⟨J1, J2, J3, J4, J5, J6, J7, J8, J9, J10⟩ := J
                refine ⟨J1, J2, J3, fun j hj => ?_, J5, J6, J7, J8, J9, J10⟩
                rw [J4 j hj]
                show (if j < 7 then (cL j : Int) else 0) + -1 * (cR j : Int) = (cL j : Int) + -1 * (cR j : Int)
                rw [if_pos hj]
              obtain ⟨s3, z1, z2, z3, z4, u', g, z5, z6, z7, z8, z9, z10, z11⟩ := cmp_fin (N := N) (q := q2) (b := b3) (v := v2) (b' := b4) hN C l4 hd (sI := s) (cI := c) (aI := a) (pI := p) (p1 := q1) (a1 := aa) (cL := cL) (kL := kL) hu hk (f3.tr I2 (Nat.le_refl _) (Nat.le_refl _)) (fun k => by rw [I3, f4]) I5 (by omega) (by omega) I9 I10 ha J' w3
              rw [z1]
              simp only [zq_bindP, d10, ↓reduceIte]
              rw [if_pos z2, if_pos z3, z4]
              exact bth_t ⟨s3, _, p2, q2, b3, b4, v2, u', a2 + 1, g, rfl, rfl, w3, w4, z5, z6, z7, z8, z9, z10, z11⟩
          rcases sg_both (N := N) (b := b1) (b' := b2) (v := v1) (by omega) D1 D1' u3 u4 60 with ⟨t1, t2, t3⟩ | ⟨t1, t2, t3, t4⟩
          · rw [t1, t2]
            simp only [zq_bindP, ↓reduceIte]
            rcases sg_both (N := N) (b := b1) (b' := q1) (v := v1) (by omega) D1 D1' hq1 hqq1 62 with ⟨r1, r2, r3⟩ | ⟨r1, r2, r3, r4⟩
            · rw [r1, r2]
              simp only [zq_bindP, ↓reduceIte]
              exact bth_f (flL_mk I1)
            · rw [r3, r4]
              simp only [zq_bindP, zq_letP, d10, ↓reduceIte]
              exact two 10 (-1) (-1) (.inr ⟨rfl, rfl, rfl⟩) r1
          · rw [t3, t4]
            simp only [zq_bindP, zq_letP, d10, ↓reduceIte]
            exact two 9 1 1 (.inl ⟨rfl, rfl, rfl⟩) t1
      · -- lying
        have y0 : q + 5 ≤ ln := y0
        have y1 : x9_takeWord N (tS (X + 1) s q b v) (X + 1) [108, 121, 105, 110, 103] = some (tS (X + 1) s (rne isB t ln (q + 5)) q v, 1) := y1
        have y2 : md_passes N (pq c q q) [108, 121, 105, 110, 103] = some (pq c (q + 5) q, 1) := y2
        have em := em_ok (c := c) (a := a) (p := q + 5) (b := q) (x := 6) (y := 0) H.2.2.2.2.1 (by omega)
        rw [y1, y2]
        simp only [zq_bindP, zq_letP, d10, ↓reduceIte]
        rw [put_ok l4 H (by omega), if_pos em.1, if_pos em.2.1, em.2.2]
        simp only [zq_bindP, d10, d11, or_true, ↓reduceIte]
        refine bth_t ⟨ptS X s u 1, emS c a 6 0, q + 5, _, q, q, v, u + 1, a + 1, fun e => decide (e 6 = 1), rfl, rfl, y0, rfl, em_CS (pt_CS H), pt_CF.tr em_CF (Nat.le_refl _) (Nat.le_refl _), by omega, by omega, by omega, segC_lying (by rw [pt_10, if_pos rfl]) (by omega), ?_⟩
        refine segV_ext (segV_fact (k := 6) (by decide) em_x) (fun e he => ?_)
        show (if decide (e 6 = 1) = true then 1 else 0) = e 6
        have : e 6 ≤ 1 := he.2.2.2.2.2.2
        by_cases h : e 6 = 1
        · rw [if_pos (decide_eq_true h), h]
        · rw [if_neg (fun q => h (of_decide_eq_true q))]; omega
    · -- not
      have n0 : q + 3 ≤ ln := n0
      have n1 : x9_takeWord N (tS (X + 1) s q b v) (X + 1) [110, 111, 116] = some (tS (X + 1) s (rne isB t ln (q + 3)) q v, 1) := n1
      have n2 : md_passes N (pq c q q) [110, 111, 116] = some (pq c (q + 3) q, 1) := n2
      rw [n1, n2]
      simp only [zq_bindP, d10, ↓reduceIte]
      rw [e13 H]
      by_cases d6 : d = 6
      · subst d6
        rw [if_pos (by decide), if_pos (by decide), rf_ok C1]
        simp only [zq_bindP, true_or, ↓reduceIte]
        exact bth_f (flL_mk H)
      · rw [if_neg (by show ¬ nI 6 ≤ nI d; rw [zq_le (by decide) (by omega)]; omega), if_neg (by show ¬ nI d = nI 6; rw [zq_eq (by omega) (by decide)]; exact d6)]
        simp only [zq_letP]
        rw [nI_1, pq_w0 (by decide) (by decide)]
        rcases hA (by omega) s (bk_w c 0 13 (nI (d + 1))) (q + 3) _ q q v u a (CS_13 H) (by omega) (by omega) n0 rfl with ⟨S, K, a1, a2, a3⟩ | ⟨S, K, a1, a2, s', c', p', q', b3, b4, v', u', a', g, w1, w2, w3, w4, w5, w6, w7, w8, w9, w10, w11⟩
        · rw [a1, a2]; simp only [zq_bindP, ↓reduceIte]; exact bth_f a3
        · rw [a1, a2]; subst w1; subst w2
          have e13' : pq c' p' b4 0 13 = nI (d + 1) := by rw [pq_o (by decide) (by decide)]; exact w5.2.2.2.2.2
          have W5 : CS X s0 c0 s' (bk_w c' 0 13 (nI d)) u' a' d := CS_13 w5
          have em := em_ok (c := bk_w c' 0 13 (nI d)) (a := a') (p := p') (b := b4) (x := 11) (y := 0) W5.2.2.2.2.1 (by omega)
          simp only [zq_bindP, zq_letP, d10, ↓reduceIte]
          rw [e13', nI_pred, pq_w0 (by decide) (by decide), put_ok l4 w5 (by omega), if_pos em.1, if_pos em.2.1, em.2.2]
          simp only [zq_bindP, d10, ↓reduceIte]
          refine bth_t ⟨ptS X s' u' 2, emS (bk_w c' 0 13 (nI d)) a' 11 0, p', q', b3, b4, v', u' + 1, a' + 1, fun e => !g e, rfl, rfl, w3, w4, em_CS (pt_CS W5), ?_, by omega, by omega, by omega, ?_, ?_⟩
          · exact ((CF_13.tr w6 (Nat.le_refl _) (Nat.le_refl _)).tr (pt_CF (c := c') (a := a')) (by omega) w11.1).tr (CF_13.tr em_CF (Nat.le_refl _) (Nat.le_refl _)) (u1 := u' + 1) (a1 := a') (by omega) w11.1
          · refine segC_not (segC_cong (fun k hk => by rw [pt_10, if_neg (by omega)]) (segC_mono (by rw [show d + 1 + 1 = (d + 1) + 1 from rfl, Nat.pow_succ]; omega) w10)) (by rw [pt_10, if_pos rfl]) (by omega)
          · refine segV_ext (segV_not (segV_cong (fun k hk => by rw [em_T (by omega), dT_13]) w11) (fun e _ => b01 (g e)) em_x) (fun e he => ?_)
            show (if (!g e) = true then 1 else 0) = 1 - (if g e = true then 1 else 0)
            cases g e <;> rfl
  · -- a paren
    have tw := tw_ok (N := N) (b := b) (v := v) (by omega) C1 hq' [110, 111, 116] (by decide) (by decide)
    have nl : rne isL t ln q = q := rne_n (fun h => (of_decide_eq_true h.2).1 (by rw [g2]; decide))
    rw [nl, if_neg (fun h => by have : q - q = 3 := h.1; omega)] at tw
    rw [tw, g4]
    simp only [zq_bindP, d10, ↓reduceIte]
    rw [g3]
    simp only [zq_bindP, d10, ↓reduceIte]
    rw [e13 H]
    by_cases d6 : d = 6
    · subst d6
      rw [if_pos (by decide), if_pos (by decide), rf_ok C1]
      simp only [zq_bindP, true_or, ↓reduceIte]
      exact bth_f (flL_mk H)
    · rw [if_neg (by show ¬ nI 6 ≤ nI d; rw [zq_le (by decide) (by omega)]; omega), if_neg (by show ¬ nI d = nI 6; rw [zq_eq (by omega) (by decide)]; exact d6)]
      simp only [zq_letP]
      rw [nI_1, pq_w0 (by decide) (by decide)]
      rcases hB (by omega) s (bk_w c 0 13 (nI (d + 1))) (q + 1) _ q q v u a (CS_13 H) (by omega) (by omega) g1 rfl with ⟨S, K, a1, a2, a3⟩ | ⟨S, K, a1, a2, s', c', p', q', b3, b4, v', u', a', g, w1, w2, w3, w4, w5, w6, w7, w8, w9, w10, w11⟩
      · rw [a1, a2]; simp only [zq_bindP, ↓reduceIte]; exact bth_f a3
      · rw [a1, a2]; subst w1; subst w2
        have e13' : pq c' p' b4 0 13 = nI (d + 1) := by rw [pq_o (by decide) (by decide)]; exact w5.2.2.2.2.2
        have W5 : CS X s0 c0 s' (bk_w c' 0 13 (nI d)) u' a' d := CS_13 w5
        simp only [zq_bindP, zq_letP, d10, ↓reduceIte]
        rw [e13', nI_pred, pq_w0 (by decide) (by decide)]
        have hge3 := rne_ge (P := isB) (t := t) (ln := ln) (p := p')
        rw [w4] at hge3
        rcases sg_both (N := N) (b := b3) (b' := b4) (v := v') (by omega) (tcC_fr C W5.1) (tcR_fr C' W5.2.1) w3 w4 41 with ⟨r1, r2, r3⟩ | ⟨r1, r2, r3, r4⟩
        · rw [r1, r2]
          simp only [zq_bindP, true_or, ↓reduceIte]
          exact bth_f (flL_mk W5)
        · rw [r3, r4]
          simp only [zq_bindP, d10, or_true, ↓reduceIte]
          exact bth_t ⟨s', bk_w c' 0 13 (nI d), q' + 1, _, q', q', v', u', a', g, rfl, rfl, r1, rfl, W5, (CF_13.tr w6 (Nat.le_refl _) (Nat.le_refl _)).tr (CF_13 (u := u') (a := a')) (by omega) w11.1, w7, by omega, by omega, w10, by rw [dT_13]; exact w11⟩
end
