/-! A TEXT OF THE LAW, by both readers -/
section
variable {N X q b p ln b' u a d l : Nat} {s0 s s' : sk_S} {v : Int32} {t : Nat → Int32} {c0 c c' c1 : Nat → Nat → Int32}
theorem flJ (F : cfr (rdV X) s0 s) (F' : rfr c0 c) (w : ∀ k, k < 549 → c 1 k = c0 1 k) : flL X s0 c0 (tS (X + 1) s q b v) (pq c p q) := ⟨fl_mk F F', fun k hk => by rw [pq_n (by decide)]; exact w k hk⟩
theorem rfr_13 {x : Int32} (h : rfr c0 c) : rfr c0 (bk_w c 0 13 x) := ⟨fun k h0 h1 => by rw [bk_w_ne h0]; exact h.1 k h0 h1, fun k h1 h2 h3 h4 => by rw [bk_w_at h3]; exact h.2.1 k h1 h2 h3 h4, fun k h1 h2 => by rw [bk_w_ne (by decide)]; exact h.2.2 k h1 h2⟩
theorem w_hi {k : Nat} {x : Int32} (hk : 1398 ≤ k) (w : ∀ k, k < 549 → c 1 k = c0 1 k) : ∀ j, j < 549 → bk_w c 1 k x 1 j = c0 1 j := fun j hj => by rw [bk_w_at (by omega)]; exact w j hj
theorem dT_w {k j : Nat} {x : Int32} : dT (bk_w c 1 (1398 + k) x) j = if j = k then x else dT c j := by
  unfold dT
  by_cases h : j = k
  · rw [h, bk_w_same, if_pos rfl]
  · rw [bk_w_at (by omega), if_neg h]
theorem lline_both (hN : 100000 ≤ N) (C : tcC (X + 1) s0 t ln) (C' : tcR c0 t ln) (l4 : lay_X4 (sk_K s0) (sk_r s0) (X + 6) = true) {kd am : Nat → Nat} {hf : Nat → (Nat → Nat) → Bool} {st sa : Nat → Nat} (I : LJ X s0 c0 l s c p u a kd am hf st sa) (hl : l ≤ 12) (hp : p ≤ ln) (hq : rne isB t ln p = q) : bth (flL X s0 c0) (QJ X s0 c0 t ln (l + 1)) (x4_readLine N (tS (X + 1) s q b v) (X + 6) (X + 1)) (md_readLine N (pq c p b') 0 (nI l)) := by
  obtain ⟨⟨F, F', w, i6, i5, i16⟩, ⟨j1, j2, j3, j4, j5⟩, j6⟩ := id I
  have h4 := C.2.2.2
  have C1 := tcC_fr C F
  have C1' := tcR_fr C' F'
  have hq' : q ≤ ln := by rw [← hq]; exact rne_le hp
  have hge := rne_ge (P := isB) (t := t) (ln := ln) (p := p)
  rw [hq] at hge
  have g1 := rne_ge (P := isL) (t := t) (ln := ln) (p := q)
  have g2 := rne_le (P := isL) (t := t) hq'
  have eL : q + (rne isL t ln q - q) = rne isL t ln q := by omega
  have l4' : lay_X4 (sk_K (tS (X + 1) s q b v)) (sk_r (tS (X + 1) s q b v)) (X + 6) = true := lay4_fr l4 F.tS
  have l9' : lay_X9 (sk_K (tS (X + 1) s q b v)) (sk_r (tS (X + 1) s q b v)) (X + 1) = true := C1.1
  have e5 : ∀ {q b : Nat} {v : Int32}, sk_c (tS (X + 1) s q b v) (X + 6) 5 = nI l := by intro q b v; rw [tS_n (by omega)]; exact i5
  unfold x4_readLine md_readLine
  rw [if_pos l4', if_pos l9', e5, le_ok (by omega) C1' hp, hq]
  simp only [zq_bindP, ↓reduceIte]
  by_cases hl12 : l = 12
  · subst hl12
    rw [if_neg (by decide), if_pos (by decide)]
    exact bth_f (flJ F F' w)
  · have zl : ((12 : Int32) ≤ nI l) = False := eq_false (by show ¬ nI 12 ≤ nI l; rw [zq_le (by decide) (by omega)]; omega)
    rw [if_pos (by show nI l < nI 12; rw [zq_lt (by omega) (by decide)]; omega)]
    simp only [zl, ↓reduceIte]
    have iw : ∀ j, j < 4 → md_isWord N (pq c (rne isL t ln q) q) (LL.getD j []) = some (pq c (rne isL t ln q) q, if wq t q (rne isL t ln q - q) (LL.getD j []) then 1 else 0) := fun j hj => by
      have a := iw_ok (N := N) (q := q) (L := rne isL t ln q - q) (w := LL.getD j []) (by omega) C1' (by omega) (LL_l j hj).1
      rw [eL] at a
      exact a
    have oo := oo_ok (N := N) (b := b) (v := v) (by omega) C1 hq' LL (by decide) LL_32 (by decide) (by decide)
    have es : wds LL = ([117, 112, 32, 100, 111, 119, 110, 32, 115, 116, 105, 114, 32, 115, 101, 116, 116, 108, 101] : List Int32) := by decide
    rw [es] at oo
    have x1 : (1399 : Int32) + 4 * nI l = nI (1399 + 4 * l) := by
      rw [show (4 : Int32) * nI l = nI (4 * l) from pk_mul 4 _]; exact nI_add 1399 _
    have ia : ky_inB (nI (1399 + 4 * l)) 2247 = true := zq_inBt (by omega) (by decide)
    have ca : Int32.toNatClampNeg (nI (1399 + 4 * l)) = 1399 + 4 * l := zq_cl (by omega)
    rcases oo with ⟨o1, o2⟩ | ⟨κ, o1, o2, o3⟩
    · rw [o1, lwc_4 (fun j hj => by rw [iw j hj, if_neg (o2 j hj)])]
      unfold mdL
      have em : bk_w (pq c (rne isL t ln q) q) 1 (1399 + 4 * l) (-1) 1 (1399 + 4 * l) = -1 := bk_w_same _ _ _ _
      simp only [zq_bindP, zq_letP, ↓reduceIte, x1, ia, ca, em, m1_0]
      rw [pq_wn (by decide)]
      exact bth_f (flJ F (F'.w1 (by omega)) (w_hi (by omega) w))
    · have o1 : κ < 4 := o1
      have hL := o2.1
      have hL2 := (LL_l κ o1).2
      have fk : ∀ j, j < 4 → md_isWord N (pq c (rne isL t ln q) q) (LL.getD j []) = some (pq c (rne isL t ln q) q, if j = κ then 1 else 0) := fun j hj => by
        rw [iw j hj]
        by_cases e : j = κ
        · rw [if_pos e, if_pos (by rw [e]; exact o2)]
        · rw [if_neg e, if_neg (fun h => LL_s j hj κ o1 e (wq_two h o2))]
      have ch : md_readLawLine N (pq c (rne isL t ln q) q) (nI l) = mdL N (1399 + 4 * nI l) (nI κ) (pq c (rne isL t ln q) q) := by
        have : κ = 0 ∨ κ = 1 ∨ κ = 2 ∨ κ = 3 := by omega
        rcases this with rfl | rfl | rfl | rfl
        · exact lwc_0 fk
        · exact lwc_1 fk
        · exact lwc_2 fk
        · exact lwc_3 fk
      rw [o3, ch]
      unfold mdL
      have nm1 : (nI κ = (-1 : Int32)) = False := eq_false (zq_m1 (by omega))
      have e0 : bk_w (pq c (rne isL t ln q) q) 1 (1399 + 4 * l) (nI κ) = pq (bk_w c 1 (1399 + 4 * l) (nI κ)) (rne isL t ln q) q := pq_wn (by decide)
      have e0' : pq (bk_w c 1 (1399 + 4 * l) (nI κ)) (rne isL t ln q) q 1 (1399 + 4 * l) = nI κ := by rw [pq_n (by decide), bk_w_same]
      have y1 : nI (1399 + 4 * l) + 1 = nI (1400 + 4 * l) := by rw [nI_1]; congr 1; omega
      have y2 : nI (1399 + 4 * l) + 2 = nI (1401 + 4 * l) := by rw [show nI (1399 + 4 * l) + 2 = nI (1399 + 4 * l + 2) from nI_add _ 2]; congr 1; omega
      have y3 : nI (1399 + 4 * l) + 3 = nI (1402 + 4 * l) := by rw [show nI (1399 + 4 * l) + 3 = nI (1399 + 4 * l + 3) from nI_add _ 3]; congr 1; omega
      have ib : ky_inB (nI (1400 + 4 * l)) 2247 = true := zq_inBt (by omega) (by decide)
      have ic : ky_inB (nI (1401 + 4 * l)) 2247 = true := zq_inBt (by omega) (by decide)
      have id' : ky_inB (nI (1402 + 4 * l)) 2247 = true := zq_inBt (by omega) (by decide)
      have cb : Int32.toNatClampNeg (nI (1400 + 4 * l)) = 1400 + 4 * l := zq_cl (by omega)
      have cc : Int32.toNatClampNeg (nI (1401 + 4 * l)) = 1401 + 4 * l := zq_cl (by omega)
      have cd' : Int32.toNatClampNeg (nI (1402 + 4 * l)) = 1402 + 4 * l := zq_cl (by omega)
      simp only [zq_bindP, zq_letP, nm1, ↓reduceIte, x1, ia, ca, e0, e0', nI_le0 (show κ < 2147483648 by omega), y1, y2, y3, ib, ic, id', cb, cc, cd']
      have F1' : rfr c0 (bk_w c 1 (1399 + 4 * l) (nI κ)) := F'.w1 (by omega)
      have w1 : ∀ k, k < 549 → bk_w c 1 (1399 + 4 * l) (nI κ) 1 k = c0 1 k := w_hi (by omega) w
      rcases nm_both (N := N) (b := q) (b' := q) (v := v) (by omega) C1 (tcR_fr C' F1') g2 rfl (lo := 0) (hi := 9) (by decide) (by decide) with ⟨n1, p', _, _, n2⟩ | ⟨n, D, _, n1, n2, n3, n4, n5⟩
      · have n1 : x9_takeNumber N (tS (X + 1) s (rne isB t ln (rne isL t ln q)) q v) (X + 1) 0 9 = _ := n1
        have n2 : md_number N (pq (bk_w c 1 (1399 + 4 * l) (nI κ)) (rne isL t ln q) q) 0 9 = _ := n2
        have em : bk_w (pq (bk_w c 1 (1399 + 4 * l) (nI κ)) p' (rne isB t ln (rne isL t ln q))) 1 (1400 + 4 * l) (-1) 1 (1400 + 4 * l) = -1 := bk_w_same _ _ _ _
        rw [n1, n2]
        simp only [zq_bindP, zq_letP, ↓reduceIte, em, m1_0]
        rw [pq_wn (by decide)]
        exact bth_f (flJ F (F1'.w1 (by omega)) (w_hi (by omega) w1))
      · have n4 : x9_takeNumber N (tS (X + 1) s (rne isB t ln (rne isL t ln q)) q v) (X + 1) 0 9 = _ := n4
        have n5 : md_number N (pq (bk_w c 1 (1399 + 4 * l) (nI κ)) (rne isL t ln q) q) 0 9 = _ := n5
        rw [n4, n5]
        generalize hq1 : rne isB t ln (rne isL t ln q) = q1 at *
        have hgq1 := rne_ge (P := isB) (t := t) (ln := ln) (p := rne isL t ln q)
        rw [hq1] at hgq1
        generalize hs1 : sk_wc (sk_wc s (X + 6 + 1) l (nI κ)) (X + 6 + 2) l (nI n) = s1
        generalize hc4 : bk_w (bk_w (bk_w (bk_w c 1 (1399 + 4 * l) (nI κ)) 1 (1400 + 4 * l) (nI n)) 1 (1401 + 4 * l) (nI a)) 0 13 0 = c4
        have wn : ∀ (c : Nat → Nat → Int32) (k : Nat) (x : Int32), bk_w (pq c (q1 + D) q1) 1 k x = pq (bk_w c 1 k x) (q1 + D) q1 := fun c k x => pq_wn (by decide)
        have w13 : ∀ (c : Nat → Nat → Int32) (x : Int32), bk_w (pq c (q1 + D) q1) 0 13 x = pq (bk_w c 0 13 x) (q1 + D) q1 := fun c x => pq_w0 (by decide) (by decide)
        have r1 : ∀ (c : Nat → Nat → Int32) (k : Nat), pq c (q1 + D) q1 1 k = c 1 k := fun c k => by rw [pq_n (by decide)]
        have r16 : pq (bk_w (bk_w c 1 (1399 + 4 * l) (nI κ)) 1 (1400 + 4 * l) (nI n)) (q1 + D) q1 0 16 = nI a := by rw [pq_o (by decide) (by decide), bk_w_ne (by decide), bk_w_ne (by decide)]; exact i16
        have em : bk_w (bk_w c 1 (1399 + 4 * l) (nI κ)) 1 (1400 + 4 * l) (nI n) 1 (1400 + 4 * l) = nI n := bk_w_same _ _ _ _
        have il : ky_inB (nI l) 12 = true := zq_inBt (by omega) (by decide)
        have cl : Int32.toNatClampNeg (nI l) = l := zq_cl (by omega)
        have t2 : ∀ {s : sk_S} {q b : Nat} {v : Int32}, sk_wc (sk_wc (tS (X + 1) s q b v) (X + 6 + 1) l (nI κ)) (X + 6 + 2) l v = tS (X + 1) (sk_wc (sk_wc s (X + 6 + 1) l (nI κ)) (X + 6 + 2) l v) q b v := by
          intro s q b v; rw [tS_wn (by omega), tS_wn (by omega)]
        have e5' : sk_c (sk_wc (tS (X + 1) s (rne isB t ln (q1 + D)) q1 (nI n)) (X + 6 + 1) l (nI κ)) (X + 6) 5 = nI l := by rw [qc_ne (by omega)]; exact e5
        have e2' : sk_c (sk_wc (tS (X + 1) s (rne isB t ln (q1 + D)) q1 (nI n)) (X + 6 + 1) l (nI κ)) (X + 1) 2 = nI n := by rw [qc_ne (by omega), tS_2]
        simp only [zq_bindP, zq_letP, d10, ↓reduceIte, wn, r1, em, nI_le0 (show n < 2147483648 by omega), r16, w13, hc4, e5, il, cl, e5', e2', t2, hs1]
        have Fs1 : cfr (rdV X) s0 s1 := by rw [← hs1]; exact (F.wc _ (by unfold rdV; omega)).wc _ (by unfold rdV; omega)
        have Fc4 : rfr c0 c4 := by rw [← hc4]; exact rfr_13 ((F1'.w1 (by omega)).w1 (by omega))
        have wc4 : ∀ k, k < 549 → c4 1 k = c0 1 k := fun k hk => by rw [← hc4, bk_w_ne (by decide)]; exact w_hi (by omega) (w_hi (by omega) w1) k hk
        have s16 : sk_c s1 (X + 6) 6 = nI u := by rw [← hs1, qc_ne (by omega), qc_ne (by omega)]; exact i6
        have s15 : sk_c s1 (X + 6) 5 = nI l := by rw [← hs1, qc_ne (by omega), qc_ne (by omega)]; exact i5
        have c416 : c4 0 16 = nI a := by rw [← hc4, bk_w_at (by decide), bk_w_ne (by decide), bk_w_ne (by decide), bk_w_ne (by decide)]; exact i16
        have H : CS X s0 c0 s1 c4 u a 0 := ⟨Fs1, Fc4, wc4, s16, c416, by rw [← hc4, bk_w_same]; rfl⟩
        have d1 : dT c4 (1 + 4 * l) = nI κ ∧ dT c4 (2 + 4 * l) = nI n ∧ dT c4 (3 + 4 * l) = nI a ∧ ∀ k, k ≠ 1 + 4 * l → k ≠ 2 + 4 * l → k ≠ 3 + 4 * l → dT c4 k = dT c k := by
          have e1 : c4 1 = bk_w (bk_w (bk_w c 1 (1398 + (1 + 4 * l)) (nI κ)) 1 (1398 + (2 + 4 * l)) (nI n)) 1 (1398 + (3 + 4 * l)) (nI a) 1 := by
            rw [← hc4, bk_w_ne (by decide), show 1398 + (1 + 4 * l) = 1399 + 4 * l by omega, show 1398 + (2 + 4 * l) = 1400 + 4 * l by omega, show 1398 + (3 + 4 * l) = 1401 + 4 * l by omega]
          have e2 : ∀ k, dT c4 k = dT (bk_w (bk_w (bk_w c 1 (1398 + (1 + 4 * l)) (nI κ)) 1 (1398 + (2 + 4 * l)) (nI n)) 1 (1398 + (3 + 4 * l)) (nI a)) k := fun k => by unfold dT; rw [e1]
          refine ⟨?_, ?_, ?_, fun k k1 k2 k3 => ?_⟩
          · rw [e2, dT_w, if_neg (by omega), dT_w, if_neg (by omega), dT_w, if_pos rfl]
          · rw [e2, dT_w, if_neg (by omega), dT_w, if_pos rfl]
          · rw [e2, dT_w, if_pos rfl]
          · rw [e2, dT_w, if_neg k3, dT_w, if_neg k2, dT_w, if_neg k1]
        have hge2 := rne_ge (P := isB) (t := t) (ln := ln) (p := q1 + D)
        have fin : ∀ s' c' p' q' b b' v u' a' g, p' ≤ ln → rne isB t ln p' = q' → CS X s0 c0 s' c' u' a' 0 → CF X s1 c4 u a s' c' → u ≤ u' → a ≤ a' → u' + 3 * (l + 1) ≤ p' → a' + 3 * (l + 1) ≤ p' → ((u = u' ∧ a = a' ∧ ∀ e, g e = true) ∨ (u < u' ∧ segC (sk_c s' (X + 10)) u u' g 1 ∧ segV (dT c') a a' (fun e => if g e = true then 1 else 0))) → QJ X s0 c0 t ln (l + 1) (sk_wc (sk_wc (tS (X + 1) s' q' b v) (X + 6) 5 (nI (l + 1))) (X + 6 + 3) (l + 1) (nI u')) (bk_w (pq c' p' b') 1 (1402 + 4 * l) (nI a')) := fun s' c' p' q' b b' v u' a' g z1 z2 z3 z4 z5 z6 z7 z8 z9 => by
          refine ⟨sk_wc (sk_wc s' (X + 6) 5 (nI (l + 1))) (X + 6 + 3) (l + 1) (nI u'), bk_w c' 1 (1398 + (4 + 4 * l)) (nI a'), p', q', b, b', v, u', a', _, _, _, _, _, by rw [tS_wn (by omega), tS_wn (by omega)], by rw [pq_wn (by decide), show 1402 + 4 * l = 1398 + (4 + 4 * l) by omega], z1, z2, LJ_s I (κ := κ) (n := n) (g := g) (by omega) (by omega) (by omega) ((z3.1.wc _ (by unfold rdV; omega)).wc _ (by unfold rdV; omega)) (z3.2.1.w1 (by omega)) (w_hi (by omega) z3.2.2.1) ?_ ?_ ?_ z7 z8 (fun i => ?_) (fun i => ?_) (fun i => ?_) (fun i hi => ?_) z5 z6 ?_ ?_ ?_ ?_ (fun k hk => ?_) ?_⟩
          · rw [qc_ne (by omega), qc_at _ _ _ _ _ _ (by omega)]; exact z3.2.2.2.1
          · rw [qc_ne (by omega), qc_eq, pk_us]
          · rw [bk_w_ne (by decide)]; exact z3.2.2.2.2.1
          · rw [qc_ne (by omega), qc_ne (by omega), z4.2.1, ← hs1, qc_ne (by omega), show X + 6 + 1 = X + 7 by omega, qc_eq]
            by_cases e : i = l
            · rw [e, pk_us, if_pos rfl]
            · rw [pk_un e, if_neg e]
          · rw [qc_ne (by omega), qc_ne (by omega), z4.2.2.1, ← hs1, show X + 6 + 2 = X + 8 by omega, qc_eq]
            by_cases e : i = l
            · rw [e, pk_us, if_pos rfl]
            · rw [pk_un e, if_neg e, qc_ne (by omega)]
          · rw [show X + 6 + 3 = X + 9 by omega, qc_eq]
            by_cases e : i = l + 1
            · rw [e, pk_us, if_pos rfl]
            · rw [pk_un e, if_neg e, qc_ne (by omega), z4.2.2.2.1, ← hs1, qc_ne (by omega), qc_ne (by omega)]
          · rw [qc_ne (by omega), qc_ne (by omega), z4.1 i hi, ← hs1, qc_ne (by omega), qc_ne (by omega)]
          · rw [dT_w, if_neg (by omega), CF_T z4 (by omega)]; exact d1.1
          · rw [dT_w, if_neg (by omega), CF_T z4 (by omega)]; exact d1.2.1
          · rw [dT_w, if_neg (by omega), CF_T z4 (by omega)]; exact d1.2.2.1
          · rw [dT_w, if_pos rfl]
          · rw [dT_w, if_neg (by omega), CF_T z4 (by omega)]; exact d1.2.2.2 k (by omega) (by omega) (by omega)
          · rcases z9 with z9 | ⟨y1, y2, y3⟩
            · exact .inl z9
            · refine .inr ⟨y1, segC_cong (fun k _ => by rw [qc_ne (by omega), qc_ne (by omega)]) y2, segV_cg (fun k k1 _ => by rw [dT_w, if_neg (by omega)]) y3⟩
        have i13 : ky_inB (nI (l + 1)) 13 = true := zq_inBt (by omega) (by decide)
        have c13 : Int32.toNatClampNeg (nI (l + 1)) = l + 1 := zq_cl (by omega)
        have a5 : ∀ {s' : sk_S} {q b : Nat} {v : Int32}, sk_c s' (X + 6) 5 = nI l → sk_c (tS (X + 1) s' q b v) (X + 6) 5 = nI l := fun h => by rw [tS_n (by omega)]; exact h
        have b6 : ∀ {s' : sk_S} {q b u' : Nat} {v : Int32}, sk_c s' (X + 6) 6 = nI u' → sk_c (sk_wc (tS (X + 1) s' q b v) (X + 6) 5 (nI (l + 1))) (X + 6) 6 = nI u' := fun h => by rw [qc_at _ _ _ _ _ _ (by omega), tS_n (by omega)]; exact h
        have b5 : ∀ {s' : sk_S} {q b : Nat} {v : Int32}, sk_c (sk_wc (tS (X + 1) s' q b v) (X + 6) 5 (nI (l + 1))) (X + 6) 5 = nI (l + 1) := by intro s' q b v; rw [qc_eq, pk_us]
        rcases wd_both (N := N) (b := q1) (b' := q1) (v := nI n) (by omega) (tcC_fr C Fs1) (tcR_fr C' Fc4) n3 rfl [105, 102] (by decide) (by decide) (by decide) with ⟨f1, f2⟩ | ⟨f0, f1, f2⟩
        · rw [f1, f2]
          have p16 : ∀ p b, pq c4 p b 0 16 = nI a := fun p b => by rw [pq_o (by decide) (by decide)]; exact c416
          simp only [zq_bindP, zq_letP, ↓reduceIte]
          rw [a5 s15, nI_1, b6 s16, b5, if_pos i13, c13, p16]
          exact bth_t (fin s1 c4 _ _ q1 _ (nI n) u a (fun _ => true) (rne_le n3) rne_idem H CF.rf (Nat.le_refl _) (Nat.le_refl _) (by omega) (by omega) (.inl ⟨rfl, rfl, fun _ => rfl⟩))
        · have f0 : rne isB t ln (q1 + D) + 2 ≤ ln := f0
          have f1 : x9_takeWord N (tS (X + 1) s1 (rne isB t ln (q1 + D)) q1 (nI n)) (X + 1) [105, 102] = some (tS (X + 1) s1 (rne isB t ln (rne isB t ln (q1 + D) + 2)) (rne isB t ln (q1 + D)) (nI n), 1) := f1
          have f2 : md_passes N (pq c4 (q1 + D) q1) [105, 102] = some (pq c4 (rne isB t ln (q1 + D) + 2) (rne isB t ln (q1 + D)), 1) := f2
          rw [f1, f2]
          simp only [zq_bindP, zq_letP, d10, ↓reduceIte]
          rcases condT_ok (N := N) (b := rne isB t ln (q1 + D)) (b' := rne isB t ln (q1 + D)) (v := nI n) hN C C' l4 H (p := rne isB t ln (q1 + D) + 2) (by omega) (by omega) f0 rfl with ⟨S, K, a1, a2, a3⟩ | ⟨S, K, a1, a2, s', c', p', q', b3, b4, v', u', a', g, z1, z2, z3, z4, z5, z6, z7, z8, z9, z10, z11⟩
          · rw [a1, a2]; simp only [zq_bindP, ↓reduceIte]; exact bth_f a3
          · rw [a1, a2]; subst z1; subst z2
            have p16 : pq c' p' b4 0 16 = nI a' := by rw [pq_o (by decide) (by decide)]; exact z5.2.2.2.2.1
            simp only [zq_bindP, zq_letP, d10, ↓reduceIte]
            rw [a5 (z6.2.2.2.2.1.trans s15), nI_1, b6 z5.2.2.2.1, b5, if_pos i13, c13, p16]
            exact bth_t (fin s' c' p' q' b3 b4 v' u' a' g z3 z4 z5 z6 (by omega) z11.1 (by omega) (by omega) (.inr ⟨z7, z10, z11⟩))
theorem llines_loop (hN : 100000 ≤ N) (C : tcC (X + 1) s0 t ln) (C' : tcR c0 t ln) (l4 : lay_X4 (sk_K s0) (sk_r s0) (X + 6) = true) : ∀ (r l fuel fuel' : Nat) (s : sk_S) (c : Nat → Nat → Int32) (p q b b' : Nat) (v : Int32) (u a : Nat) (kd am : Nat → Nat) (hf : Nat → (Nat → Nat) → Bool) (st sa : Nat → Nat), l + r = 12 → r + 3 < fuel → r + 1 < fuel' → LJ X s0 c0 l s c p u a kd am hf st sa → p ≤ ln → rne isB t ln p = q →
    (∃ S K, x4_reads_L29 N (X + 6) (X + 1) (fun q24 x25 x26 => ((x9_isEnded N q24 (X + 1)).bind (fun zz => (fun q28 x29 => (if (x29 = 0 ∨ x29 = 1) then (some (q28, x29)) else none)) zz.1 zz.2))) fuel (tS (X + 1) s q b v) 1 (nI l) = some (S, 0) ∧ md_readAll_L28 N (fun q11 x12 x13 => (some (q11, (-1)))) fuel' (pq c p b') 0 (nI l) = some (K, -1) ∧ flL X s0 c0 S K) ∨
    ∃ S K m, x4_reads_L29 N (X + 6) (X + 1) (fun q24 x25 x26 => ((x9_isEnded N q24 (X + 1)).bind (fun zz => (fun q28 x29 => (if (x29 = 0 ∨ x29 = 1) then (some (q28, x29)) else none)) zz.1 zz.2))) fuel (tS (X + 1) s q b v) 1 (nI l) = some (S, 1) ∧ md_readAll_L28 N (fun q11 x12 x13 => (some (q11, (-1)))) fuel' (pq c p b') 0 (nI l) = some (K, nI m) ∧ m ≤ 12 ∧ QJ X s0 c0 t ln m S K := by
  have h4 := C.2.2.2
  intro r
  induction r with
  | zero =>
    intro l fuel fuel' s c p q b b' v u a kd am hf st sa h1 h2 h3 I hp hq
    obtain ⟨fuel, rfl⟩ : ∃ q, fuel = q + 1 := ⟨fuel - 1, by omega⟩
    obtain ⟨fuel', rfl⟩ : ∃ q, fuel' = q + 1 := ⟨fuel' - 1, by omega⟩
    obtain rfl : l = 12 := by omega
    left
    have li := lline_both (N := N) (b := b) (b' := b') (v := v) hN C C' l4 I (Nat.le_refl _) hp hq
    have e : x4_readLine N (tS (X + 1) s q b v) (X + 6) (X + 1) = some (tS (X + 1) s q b v, 0) := by
      obtain ⟨⟨F, F', w, i6, i5, i16⟩, _⟩ := I
      have l4' : lay_X4 (sk_K (tS (X + 1) s q b v)) (sk_r (tS (X + 1) s q b v)) (X + 6) = true := lay4_fr l4 F.tS
      have l9' : lay_X9 (sk_K (tS (X + 1) s q b v)) (sk_r (tS (X + 1) s q b v)) (X + 1) = true := (tcC_fr C F).1
      unfold x4_readLine
      rw [if_pos l4', if_pos l9', tS_n (by omega), i5, if_neg (by decide)]
    rcases li with ⟨S, K, a1, a2, a3⟩ | ⟨S, K, a1, a2, a3⟩
    · refine ⟨S, K, ?_, ?_, a3⟩
      · simp only [x4_reads_L29]
        rw [if_neg (by decide), if_neg (by decide), a1]
        simp only [zq_bindP, d00, ↓reduceIte]
      · simp only [md_readAll_L28]
        rw [a2]
        simp only [zq_bindP, d00, ↓reduceIte]
    · rw [e] at a1
      injection a1 with a1
      injection a1 with _ a1
      exact absurd a1 (by decide)
  | succ r ih =>
    intro l fuel fuel' s c p q b b' v u a kd am hf st sa h1 h2 h3 I hp hq
    obtain ⟨fuel, rfl⟩ : ∃ q, fuel = q + 1 := ⟨fuel - 1, by omega⟩
    obtain ⟨fuel', rfl⟩ : ∃ q, fuel' = q + 1 := ⟨fuel' - 1, by omega⟩
    have li := lline_both (N := N) (b := b) (b' := b') (v := v) hN C C' l4 I (by omega) hp hq
    have nl : ¬ (12 : Int32) < nI l := by show ¬ nI 12 < nI l; rw [zq_lt (by decide) (by omega)]; omega
    rcases li with ⟨S, K, a1, a2, a3⟩ | ⟨S, K, a1, a2, s', c', p', q', b2, b3, v', u', a', kd', am', hf', st', sa', u1, u2, u3, u4, u5⟩
    · left
      refine ⟨S, K, ?_, ?_, a3⟩
      · simp only [x4_reads_L29]
        rw [if_neg nl, if_neg (by decide), a1]
        simp only [zq_bindP, d00, ↓reduceIte]
      · simp only [md_readAll_L28]
        rw [a2]
        simp only [zq_bindP, d00, ↓reduceIte]
    · subst u1
      subst u2
      have hq2 : q' ≤ ln := by rw [← u4]; exact rne_le u3
      have hge := rne_ge (P := isB) (t := t) (ln := ln) (p := p')
      rw [u4] at hge
      obtain ⟨⟨F, F', w, i6, i5, i16⟩, ⟨j1, j2, j3, j4, j5⟩, j6⟩ := id u5
      have u6 : ∀ {p2}, p' ≤ p2 → LJ X s0 c0 (l + 1) s' c' p2 u' a' kd' am' hf' st' sa' := fun hp2 => ⟨⟨F, F', w, i6, i5, i16⟩, ⟨by omega, by omega, j3, j4, j5⟩, j6⟩
      have C1 := tcC_fr C F
      have C1' := tcR_fr C' F'
      have sg := sg_both (N := N) (b := b2) (b' := b3) (v := v') (by omega) C1 C1' u3 u4 59
      have rr : md_readAll_L28 N (fun q11 x12 x13 => (some (q11, (-1)))) (fuel' + 1) (pq c p b') 0 (nI l) = if q' = ln then some (pq c' q' q', nI (l + 1)) else if t q' = 59 then md_readAll_L28 N (fun q11 x12 x13 => (some (q11, (-1)))) fuel' (pq c' (q' + 1) q') 0 (nI (l + 1)) else some (pq c' q' q', -1) := by
        simp only [md_readAll_L28]
        rw [a2]
        simp only [zq_bindP, d10, ↓reduceIte]
        rw [bl_ok (by omega) C1' u3, u4]
        simp only [zq_bindP, zq_letP]
        rw [tR_11 C1', pq_10]
        have ze : (nI q' = nI ln) = (q' = ln) := zq_eq (by omega) (by omega)
        by_cases e : q' = ln
        · rw [if_pos (by rw [ze]; exact e), if_pos e, nI_1]
        · have t1 := tR_i (b := q') C1' hq2 59
          rw [tR_11 C1', pq_10] at t1
          rw [if_neg (by rw [ze]; exact e), if_neg e, if_pos t1.1, if_pos t1.2, ia_ok C1' hq2]
          by_cases e2 : t q' = 59
          · rw [if_pos (show q' < ln ∧ ¬ t q' < 59 ∧ ¬ 59 < t q' from ⟨by omega, i32_ne e2⟩), if_neg (by decide), if_pos e2, nI_1, nI_1, pq_w10]
          · rw [if_neg (show ¬ (q' < ln ∧ ¬ t q' < 59 ∧ ¬ 59 < t q') from fun x => e2 (i32_eq x.2.1 x.2.2)), if_pos rfl, if_neg e2]
      have rc : x4_reads_L29 N (X + 6) (X + 1) (fun q24 x25 x26 => ((x9_isEnded N q24 (X + 1)).bind (fun zz => (fun q28 x29 => (if (x29 = 0 ∨ x29 = 1) then (some (q28, x29)) else none)) zz.1 zz.2))) (fuel + 1) (tS (X + 1) s q b v) 1 (nI l) = (x9_takeSign N (tS (X + 1) s' q' b2 v') (X + 1) 59).bind (fun zz => x4_reads_L29 N (X + 6) (X + 1) (fun q24 x25 x26 => ((x9_isEnded N q24 (X + 1)).bind (fun zz => (fun q28 x29 => (if (x29 = 0 ∨ x29 = 1) then (some (q28, x29)) else none)) zz.1 zz.2))) fuel zz.1 zz.2 (nI (l + 1))) := by
        simp only [x4_reads_L29, zq_letP]
        rw [if_neg nl, if_neg (by decide), a1]
        simp only [zq_bindP, d10, ↓reduceIte]
        rw [nI_1]
      rw [rr, rc]
      rcases sg with ⟨e1, e2, e3⟩ | ⟨e1, e2, e3, e4⟩
      · rw [e1]
        simp only [zq_bindP]
        have fin : x4_reads_L29 N (X + 6) (X + 1) (fun q24 x25 x26 => ((x9_isEnded N q24 (X + 1)).bind (fun zz => (fun q28 x29 => (if (x29 = 0 ∨ x29 = 1) then (some (q28, x29)) else none)) zz.1 zz.2))) fuel (tS (X + 1) s' q' b2 v') 0 (nI (l + 1)) = some (tS (X + 1) s' q' b2 v', if q' < ln then 0 else 1) := by
          obtain ⟨fuel, rfl⟩ : ∃ q, fuel = q + 1 := ⟨fuel - 1, by omega⟩
          simp only [x4_reads_L29]
          rw [ie_ok C1 hq2]
          simp only [zq_bindP, ↓reduceIte, ite_self]
          by_cases e : q' < ln
          · rw [if_pos e, if_pos (.inl rfl)]
          · rw [if_neg e, if_pos (.inr rfl)]
        rw [fin]
        by_cases e : q' = ln
        · right
          rw [if_pos e, if_neg (by omega)]
          exact ⟨_, _, l + 1, rfl, rfl, by omega, s', c', q', q', b2, q', v', u', a', kd', am', hf', st', sa', rfl, rfl, hq2, by rw [← u4]; exact rne_idem, u6 hge⟩
        · left
          rw [if_neg e, if_pos (show q' < ln by omega), if_neg (fun x => e3 ⟨by omega, x⟩)]
          exact ⟨_, _, rfl, rfl, flJ F F' w⟩
      · rw [e3, if_neg (by omega), if_pos e2]
        simp only [zq_bindP]
        exact ih (l + 1) fuel fuel' s' c' (q' + 1) _ q' q' v' u' a' kd' am' hf' st' sa' (by omega) (by omega) (by omega) (u6 (by omega)) e1 rfl
/-- a text read by both -/
theorem ltext_both (hN : 2000000000 ≤ N) (hl : lay_X11 (sk_K s) (sk_r s) X = true) {ln : Nat} (hln : ln ≤ 400) (h1 : sk_c s (X + 1) 1 = nI ln) (h9 : c 0 9 = nI ln) (ht : ∀ j, j < ln → sk_c s (X + 2) j = c 6 j) :
    (∃ S K, x4_reads N s (X + 6) (X + 1) = some (S, 0) ∧ md_readAll N c 0 = some (K, -1) ∧ flL X s (cB c) S K) ∨
    ∃ S K k, x4_reads N s (X + 6) (X + 1) = some (S, 1) ∧ md_readAll N c 0 = some (K, nI k) ∧ k ≤ 12 ∧ QJ X s (cB c) (c 6) ln k S K := by
  have l9 : lay_X9 (sk_K s) (sk_r s) (X + 1) = true := ly_X11_l0 hl
  have l4 : lay_X4 (sk_K s) (sk_r s) (X + 6) = true := ly_X11_l2 hl
  have C : tcC (X + 1) s (c 6) ln := ⟨l9, h1, ht, hln⟩
  have C' : tcR (cB c) (c 6) ln := ⟨by rw [cB_11]; exact h9, fun j _ => by rw [cB_n (by decide)], hln⟩
  have F1 : cfr (rdV X) s (sk_wc (sk_wc s (X + 6) 5 0) (X + 6) 6 0) := ((cfr.rf (V := rdV X)).wc _ (by unfold rdV; omega)).wc _ (by unfold rdV; omega)
  have C1 := tcC_fr C F1
  have I0 : ∀ p, LJ X s (cB c) 0 (sk_wc (sk_wc s (X + 6) 5 0) (X + 6) 6 0) (cB c) p 0 0 (fun _ => 0) (fun _ => 0) (fun _ _ => true) (fun _ => 0) (fun _ => 0) := fun p => by
    refine ⟨⟨F1, rfr.rf, fun _ _ => rfl, ?_, ?_, cB_16⟩, ⟨by omega, by omega, rfl, rfl, rfl⟩, fun i hi => by omega⟩
    · rw [qc_eq, pk_us]; rfl
    · rw [qc_at _ _ _ _ _ _ (by omega), qc_eq, pk_us]; rfl
  obtain ⟨b, eb⟩ := cB_pq (c := c)
  have hq0 : rne isB (c 6) ln 0 ≤ ln := rne_le (Nat.zero_le _)
  have bl := bl_ok (N := N) (b := b) (by omega) C' (Nat.zero_le ln)
  rw [eb] at bl
  have bg := bg_ok (N := N) (by omega) C1
  have ie := ie_ok (N := N) (b := 0) (v := sk_c (sk_wc (sk_wc s (X + 6) 5 0) (X + 6) 6 0) (X + 1) 2) C1 hq0
  have hu : md_readAll N c 0 = (if rne isB (c 6) ln 0 = ln then some (pq (cB c) (rne isB (c 6) ln 0) (rne isB (c 6) ln 0), 0) else md_readAll_L28 N (fun q11 x12 x13 => (some (q11, (-1)))) N (pq (cB c) (rne isB (c 6) ln 0) (rne isB (c 6) ln 0)) 0 0) := by
    unfold md_readAll
    simp only [zq_letP]
    show (md_blanks N (cB c)).bind _ = _
    rw [bl]
    simp only [zq_bindP]
    have ze : (nI (rne isB (c 6) ln 0) = nI ln) = (rne isB (c 6) ln 0 = ln) := zq_eq (by omega) (by omega)
    rw [pq_10, tR_11 C']
    by_cases e : rne isB (c 6) ln 0 = ln
    · rw [if_pos (by rw [ze]; exact e), if_pos e]
    · rw [if_neg (by rw [ze]; exact e), if_neg e]
  have hc : x4_reads N s (X + 6) (X + 1) = if rne isB (c 6) ln 0 = ln then some (tS (X + 1) (sk_wc (sk_wc s (X + 6) 5 0) (X + 6) 6 0) (rne isB (c 6) ln 0) 0 (sk_c (sk_wc (sk_wc s (X + 6) 5 0) (X + 6) 6 0) (X + 1) 2), 1) else x4_reads_L29 N (X + 6) (X + 1) (fun q24 x25 x26 => ((x9_isEnded N q24 (X + 1)).bind (fun zz => (fun q28 x29 => (if (x29 = 0 ∨ x29 = 1) then (some (q28, x29)) else none)) zz.1 zz.2))) N (tS (X + 1) (sk_wc (sk_wc s (X + 6) 5 0) (X + 6) 6 0) (rne isB (c 6) ln 0) 0 (sk_c (sk_wc (sk_wc s (X + 6) 5 0) (X + 6) 6 0) (X + 1) 2)) 1 0 := by
    unfold x4_reads
    simp only [zq_letP]
    rw [if_pos l4, if_pos l9, bg]
    simp only [zq_bindP]
    rw [ie]
    simp only [zq_bindP]
    by_cases e : rne isB (c 6) ln 0 = ln
    · rw [if_neg (show ¬ rne isB (c 6) ln 0 < ln by omega), if_neg (by decide), if_pos e]
      obtain ⟨M, rfl⟩ : ∃ M, N = M + 1 := ⟨N - 1, by omega⟩
      simp only [x4_reads_L29]
      rw [if_neg (by decide), if_pos trivial, ie]
      simp only [zq_bindP]
      rw [if_neg (show ¬ rne isB (c 6) ln 0 < ln by omega), if_pos (.inr rfl)]
    · rw [if_pos (show rne isB (c 6) ln 0 < ln by omega), if_pos rfl, if_neg e]
  rw [hu, hc]
  by_cases e : rne isB (c 6) ln 0 = ln
  · right
    rw [if_pos e, if_pos e]
    exact ⟨_, _, 0, rfl, rfl, by omega, _, _, _, _, _, _, _, _, _, _, _, _, _, _, rfl, rfl, hq0, rne_idem, I0 _⟩
  · rw [if_neg e, if_neg e]
    exact llines_loop (N := N) (by omega) C C' l4 12 0 N N _ _ _ _ 0 _ _ _ _ _ _ _ _ _ (by omega) (by omega) (by omega) (I0 _) hq0 rne_idem
end
