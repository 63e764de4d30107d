/-! BOARD -/
def bdW (W : Nat → Nat) (k q : Nat) : Nat := if q = 45 + 3 * k then min 9 (W (45 + 3 * k) + 3) else if q = 11 then W 11 - 1 else W q
section
variable {N X j : Nat} {s s' : sk_S} {c c' c0 : Nat → Nat → Int32} {W W' W0 : Nat → Nat} {sd sd' sd0 : Int32} {m m' : lwM} {sb : Nat} {k : Nat}
theorem cellC (p : Int32) : (∃ n, n ≤ 63 ∧ p = nI n ∧ ws_isCell p = 1 ∧ md_noCell p = 0) ∨ (ws_isCell p = 0 ∧ md_noCell p = 1) := by
  unfold ws_isCell md_noCell
  rcases rngC 0 63 (by decide) (by decide) p with ⟨n, _, hn, rfl, hin⟩ | ⟨hin, hout⟩
  · have hin' : md_in (nI n) 0 63 = 1 := hin
    left
    refine ⟨n, hn, rfl, ?_, by rw [hin', if_neg (by decide)]⟩
    rw [if_neg (nI_pos (by omega)), if_neg (by show ¬ nI 64 ≤ nI n; rw [zq_le (by decide) (by omega)]; omega)]
  · have hin' : md_in p 0 63 = 0 := hin
    right
    refine ⟨?_, by rw [hin', if_pos rfl]⟩
    rcases hout with h | ⟨h1, h2⟩
    · rw [if_pos (show p < 0 from h)]
    · rw [if_neg (show ¬ p < 0 from h1), if_pos]
      rw [fa_lt] at h2
      rw [fa_le]
      have e1 : (nI 63).toInt = 63 := by decide
      have e2 : (64 : Int32).toInt = 64 := by decide
      omega
theorem bdW_o {q : Nat} (h1 : q ≠ 45 + 3 * k) (h2 : q ≠ 11) : bdW W k q = W q := by unfold bdW; rw [if_neg h1, if_neg h2]
theorem bdW_wd (hk : k ≤ 63) (h : wd W) : wd (bdW W k) := by
  obtain ⟨⟨b0, b1, b2, b3, b4, b5, b6, b7, b8, b9, b10, b11, b12, b13, b14, b15⟩, a, b, d, e⟩ := h
  have o : ∀ q, q < 45 → q ≠ 11 → bdW W k q = W q := fun q h1 h2 => bdW_o (by omega) h2
  refine ⟨⟨?_, ?_, ?_, ?_, ?_, ?_, ?_, ?_, ?_, ?_, ?_, ?_, ?_, ?_, ?_, ?_⟩, fun q hq => ?_, fun q hq => ?_, fun q hq => ?_, fun q hq => ?_⟩
  · rw [o 0 (by decide) (by decide)]; exact b0
  · rw [o 1 (by decide) (by decide)]; exact b1
  · rw [o 2 (by decide) (by decide)]; exact b2
  · rw [o 3 (by decide) (by decide)]; exact b3
  · rw [o 4 (by decide) (by decide)]; exact b4
  · rw [o 5 (by decide) (by decide)]; exact b5
  · rw [o 6 (by decide) (by decide)]; exact b6
  · rw [o 7 (by decide) (by decide)]; exact b7
  · rw [o 8 (by decide) (by decide)]; exact b8
  · rw [o 9 (by decide) (by decide)]; exact b9
  · rw [o 10 (by decide) (by decide)]; exact b10
  · unfold bdW; rw [if_neg (by omega), if_pos rfl]; omega
  · rw [o 12 (by decide) (by decide)]; exact b12
  · rw [o 13 (by decide) (by decide)]; exact b13
  · rw [o 14 (by decide) (by decide)]; exact b14
  · rw [o 15 (by decide) (by decide)]; exact b15
  · rw [o _ (by omega) (by omega), o _ (by omega) (by omega), o _ (by omega) (by omega), o _ (by omega) (by omega)]; exact a q hq
  · rw [bdW_o (q := 46 + 3 * q) (by omega) (by omega), bdW_o (q := 47 + 3 * q) (by omega) (by omega)]
    refine ⟨?_, (b q hq).2⟩
    unfold bdW
    split
    · omega
    · rw [if_neg (by omega)]; exact (b q hq).1
  · rw [bdW_o (by omega) (by omega), bdW_o (by omega) (by omega), o 12 (by decide) (by decide)]; exact d q hq
  · rw [bdW_o (by omega) (by omega), bdW_o (by omega) (by omega), bdW_o (by omega) (by omega), bdW_o (by omega) (by omega), bdW_o (by omega) (by omega)]; exact e q hq
theorem bo_cls (hk : k ≤ 63) (R : R_now X s c W sd m) (h11 : 1 ≤ W 11) : ∃ s', x8_layBoard N s (X + 16) (nI k) = some (s', 0) ∧ cfr (fun b i => b = X + 17 ∨ (b = X + 16 ∧ i = 7)) s s' ∧ sc_rel s' (X + 12) (bdW W k) sd := by
  obtain ⟨l7, hw, b1, b3, b5, b4, b6, ⟨nx, n1, n2, n3, n4⟩, b13⟩ := R.2.2.1
  have l8 : lay_X8 (sk_K s) (sk_r s) (X + 16) = true := ly_X7_l2 l7
  have hc := (hw.2.2.1 k (by omega)).1
  have w11 := hw.1.2.2.2.2.2.2.2.2.2.2.2.1
  have e5 : sk_c s (X + 16 + 1) k = nI (W (45 + 3 * k)) := (b5 k (by omega)).1
  have em : mt_min 9 (nI (W (45 + 3 * k)) + 3) = nI (min 9 (W (45 + 3 * k) + 3)) := by
    rw [show nI (W (45 + 3 * k)) + 3 = nI (W (45 + 3 * k) + 3) from nI_add _ 3]
    exact zq_min (x := 9) (by decide) (by omega)
  have es : nI (W 11) - 1 = nI (W 11 - 1) := pk_sub (b := 1) (by omega)
  generalize g1 : sk_wc s (X + 16 + 1) k (nI (min 9 (W (45 + 3 * k) + 3))) = s1
  have e7 : sk_c s1 (X + 16) 7 = nI (W 11) := by rw [← g1, qc_ne (by omega)]; exact b4.2.2
  generalize g2 : sk_wc s1 (X + 16) 7 (nI (W 11 - 1)) = s2
  have F : cfr (fun b i => b = X + 17 ∨ (b = X + 16 ∧ i = 7)) s s2 := by
    rw [← g2, ← g1]
    exact ((cfr.rf (V := fun b i => b = X + 17 ∨ (b = X + 16 ∧ i = 7))).wc _ (.inl rfl)).wc _ (.inr ⟨rfl, rfl⟩)
  have cc : ∀ b i, b ≠ X + 17 → ¬ (b = X + 16 ∧ i = 7) → sk_c s2 b i = sk_c s b i := fun b i h1 h2 => F.2.2.2.2.2 b i (by omega)
  have c17 : ∀ i, sk_c s2 (X + 12 + 5) i = if i = k then nI (min 9 (W (45 + 3 * k) + 3)) else sk_c s (X + 12 + 5) i := fun i => by
    rw [← g2, qc_ne (by omega), ← g1, show X + 12 + 5 = X + 16 + 1 by omega, qc_eq]
    by_cases h : i = k
    · subst h; rw [pk_us, if_pos rfl]
    · rw [pk_un h, if_neg h]
  have o : ∀ q, q < 45 → q ≠ 11 → bdW W k q = W q := fun q h1 h2 => bdW_o (by omega) h2
  refine ⟨s2, ?_, F, ⟨by rw [F.1, F.2.2.1]; exact l7, bdW_wd hk hw, ?_, fun q hq => ?_, fun q hq => ?_, ?_, fun q hq => ?_, ⟨nx, n1, ?_, ?_, fun a ha => ?_⟩, ?_⟩⟩
  · unfold x8_layBoard
    simp only [zq_letP]
    rw [if_pos l8, if_pos (zq_inBt (by omega) (by decide)), zq_cl (by omega), e5, em, g1, e7, es, g2]
  · have ep : psN (bdW W k) = psN W := by
      unfold psN
      rw [o 0 (by decide) (by decide), o 1 (by decide) (by decide), o 2 (by decide) (by decide), o 3 (by decide) (by decide)]
    rw [cc _ _ (by omega) (by omega), cc _ _ (by omega) (by omega), cc _ _ (by omega) (by omega), cc _ _ (by omega) (by omega), cc _ _ (by omega) (by omega), cc _ _ (by omega) (by omega), cc _ _ (by omega) (by omega), cc _ _ (by omega) (by omega), ep, o 4 (by decide) (by decide), o 5 (by decide) (by decide), o 6 (by decide) (by decide), o 7 (by decide) (by decide), o 8 (by decide) (by decide), o 9 (by decide) (by decide)]
    exact b1
  · rw [cc _ _ (by omega) (by omega), o _ (by omega) (by omega)]; exact b3 q hq
  · rw [c17, F.2.1, bdW_o (q := 46 + 3 * q) (by omega) (by omega), bdW_o (q := 47 + 3 * q) (by omega) (by omega)]
    refine ⟨?_, (b5 q hq).2⟩
    unfold bdW
    by_cases h : q = k
    · subst h; rw [if_pos rfl, if_pos rfl]
    · rw [if_neg h, if_neg (by omega), if_neg (by omega)]; exact (b5 q hq).1
  · refine ⟨?_, ?_, ?_⟩
    · rw [cc _ _ (by omega) (by omega), o 10 (by decide) (by decide)]; exact b4.1
    · rw [cc _ _ (by omega) (by omega), o 12 (by decide) (by decide)]; exact b4.2.1
    · rw [show X + 12 + 4 = X + 16 by omega, ← g2, qc_eq, pk_us]
      unfold bdW; rw [if_neg (by omega), if_pos rfl]
  · rw [o 12 (by decide) (by decide)] at hq
    have h6 := hw.1.2.2.2.2.2.2.2.2.2.2.2.2.1
    rw [cc _ _ (by omega) (by omega), cc _ _ (by omega) (by omega), bdW_o (by omega) (by omega), bdW_o (by omega) (by omega)]; exact b6 q hq
  · rw [cc _ _ (by omega) (by omega)]; exact n2
  · rw [cc _ _ (by omega) (by omega), o 15 (by decide) (by decide)]; exact n3
  · rw [o 15 (by decide) (by decide)] at ha
    rw [cc _ _ (by omega) (by omega)]
    have : rowN (bdW W k) a = rowN W a := by
      unfold rowN
      rw [bdW_o (by omega) (by omega), bdW_o (by omega) (by omega), bdW_o (by omega) (by omega), bdW_o (by omega) (by omega), bdW_o (by omega) (by omega)]
    rw [this]; exact n4 a ha
  · rw [cc _ _ (by omega) (by omega), o 13 (by decide) (by decide)]; exact b13
theorem md_ofN {q i : Nat} (hq : q ≤ 63) (hi : i < 3) : (45 + 3 * nI q) + nI i = nI (45 + 3 * q + i) := by
  rw [show (3 : Int32) * nI q = nI (3 * q) from pk_mul 3 _, show (45 : Int32) + nI (3 * q) = nI (45 + 3 * q) from nI_add 45 _, nI_add]
set_option maxRecDepth 20000 in
theorem sm_board_ok (hN : 2000000000 ≤ N) : sm_board X N (RR X) := by
  intro j s c hj ⟨_, Z, W, sd, m, R, Rw⟩ p1
  have R0 := RA_c R ceq_0
  have hw := wd_of R
  have w11 := hw.1.2.2.2.2.2.2.2.2.2.2.2.1
  rcases cellC p1 with ⟨k, hk, rfl, m1, m2⟩ | ⟨m1, m2⟩
  · have c11 : bk_w c 0 0 0 1 11 = nI (W 11) := wv_n R0.1.2.2.2.1 (by decide) (by decide)
    have s7 : sk_c s (X + 16) 7 = nI (W 11) := R.1.2.2.1.2.2.2.2.2.1.2.2
    have z11 : (nI (W 11) = (0 : Int32)) = (W 11 = 0) := nIne0 (by omega)
    by_cases h11 : W 11 = 0
    · have z : (nI (W 11) = (0 : Int32)) = True := by rw [z11]; exact eq_true h11
      refine ⟨sk_rs s 6, bk_w (bk_w c 0 0 0) 0 0 2, .inr "java/lang/IllegalStateException", 0, ?_, ?_, .inr (.inr ⟨rfl, bk_w_same _ _ _ _⟩), RR_thr hj Z R Rw (thr_ceq 2)⟩
      · unfold x11_board
        rw [if_pos R.1.1, m1, if_neg (by decide), s7, if_neg (by show ¬ nI 1 ≤ nI (W 11); rw [zq_le (by decide) (by omega)]; omega)]
      · simp only [md_board, zq_letP, m2, th_r, th_c0, th_c1, c11, z, d10, d11, d00, true_or, ↓reduceIte]
    · have z : (nI (W 11) = (0 : Int32)) = False := by rw [z11]; exact eq_false h11
      obtain ⟨s2, c2, a1, a2, a3, a4, a5, a6, a7, a8, a9⟩ := rm_ok (N := N) (by omega) R0 Rw
      obtain ⟨s3, b1, b2, b3⟩ := bo_cls (N := N) hk a3.1 (by omega)
      have F : sfr (act1 X s2) s2 s3 := (sfr.of b2).mono (fun b i _ h => .inl (by omega))
      have hc := (hw.2.2.1 k (by omega)).1
      have v0 : (45 + 3 * nI k) + 0 = nI (45 + 3 * k) := md_ofN (i := 0) hk (by decide)
      have inb : ky_inB ((45 + 3 * nI k) + 0) 2247 = true := by rw [v0]; exact zq_inBt (by omega) (by decide)
      have cl : Int32.toNatClampNeg ((45 + 3 * nI k) + 0) = 45 + 3 * k := by rw [v0]; exact zq_cl (by omega)
      have of2 : ∀ q, md_of_r q (nI k) 0 = q 1 (45 + 3 * k) := fun q => by unfold md_of_r; rw [cl]
      have x1 : c2 1 (45 + 3 * k) = nI (W (45 + 3 * k)) := wv_n a3.1.2.2.2.1 (by omega) (by omega)
      have dp : md_deeper (nI (W (45 + 3 * k))) 3 = nI (min 9 (W (45 + 3 * k) + 3)) := md_deepN (b := 3) (by omega) (by decide)
      have x2 : ∀ v, bk_w c2 1 (45 + 3 * k) v 1 11 = nI (W 11) := fun v => by rw [bk_w_at (by omega)]; exact wv_n a3.1.2.2.2.1 (by decide) (by decide)
      have es : nI (W 11) - 1 = nI (W 11 - 1) := pk_sub (b := 1) (by omega)
      generalize e3 : bk_w (bk_w c2 1 (45 + 3 * k) (nI (min 9 (W (45 + 3 * k) + 3)))) 1 11 (nI (W 11 - 1)) = c3
      have v3 : wv (c3 1) (bdW W k) sd := by
        refine ⟨fun q hq h16 => ?_, ?_⟩
        · unfold bdW
          by_cases h1 : q = 11
          · subst h1; rw [← e3, bk_w_same, if_neg (by omega), if_pos rfl]
          · rw [← e3, bk_w_at h1]
            by_cases h2 : q = 45 + 3 * k
            · subst h2; rw [bk_w_same, if_pos rfl]
            · rw [bk_w_at h2, if_neg h2, if_neg h1]; exact wv_n a3.1.2.2.2.1 hq h16
        · rw [← e3, bk_w_at (by decide), bk_w_at (by omega)]; exact a3.1.2.2.2.1.2
      have C : ceqA c2 c3 := by rw [← e3]; exact (ceq.rf.A.w _ (by omega)).w _ (by decide)
      have e14 : W14 W (bdW W k) := ⟨bdW_o (by omega) (by decide), fun q hq => bdW_o (by omega) (by omega)⟩
      have R4 := RA_act a3 F (bks_cfr a3.1.2.1 b2) b3 v3 C e14.1 e14.2
      have Rw4 := way_act a4 a3.1.2.1 (X_11 a3) F e14.2 (Nat.le_refl _)
      have ret : sk_c s3 (X + 17) k = c3 1 (45 + 3 * k) := by
        have := (b3.2.2.2.2.1 k (by omega)).1
        rw [wv_n v3 (by omega) (by omega)]; exact this
      refine ⟨s3, c3, .inl (some (.int (c3 1 (45 + 3 * k)))), c3 1 (45 + 3 * k), ?_, ?_, .inl ⟨rfl, ?_⟩, RR_act hj Z (by rw [b2.2.2.2.1]; exact a5) (by rw [b2.2.2.2.2.1]; exact a6) (by rw [b2.2.2.1]; exact a7) R4 Rw4⟩
      · unfold x11_board
        rw [if_pos R.1.1, m1, if_neg (by decide), s7, if_pos (by show nI 1 ≤ nI (W 11); rw [zq_le (by decide) (by omega)]; omega), a1]
        simp only [zq_bindP]
        rw [b1]
        simp only [zq_bindP]
        rw [if_pos (zq_inBt (by omega) (by decide)), zq_cl (by omega), ret]
      · simp only [md_board, zq_letP, m2, th_r, th_c0, th_c1, c11, z, d10, d00, true_or, ↓reduceIte, a2, zq_bindP, inb, of2, cl, x1, dp, x2, es, e3]
      · rw [← e3, bk_w_ne (by decide), bk_w_ne (by decide), a9 0 (by decide), bk_w_same]
  · refine ⟨sk_rs s 6, bk_w (bk_w c 0 0 0) 0 0 1, .inr "java/lang/IndexOutOfBoundsException", 0, ?_, ?_, .inr (.inl ⟨rfl, bk_w_same _ _ _ _⟩), RR_thr hj Z R Rw (thr_ceq 1)⟩
    · unfold x11_board
      rw [if_pos R.1.1, m1, if_pos rfl]
    · simp only [md_board, zq_letP, m2, th_r, th_c1, d10, d11, or_true, ↓reduceIte]
end
