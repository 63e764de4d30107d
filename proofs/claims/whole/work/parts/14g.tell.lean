/-! WHAT WAS READ IS TOLD: the class -/
def tlW (X a k : Nat) : Prop := a = X + 13 ∨ a = X + 15 ∨ (X + 16 ≤ a ∧ a ≤ X + 19 ∧ ¬ (a = X + 16 ∧ k ≤ 2))
section
variable {N X i κ : Nat} {s s' : sk_S} {W W' : Nat → Nat} {sd : Int32} {n : Nat → Nat} {p : Nat}
theorem sc_re (S : sc_rel s p W sd) (hK : sk_K s' = sk_K s) (hr : sk_r s' = sk_r s) (hw : wd W')
    (cB : sk_c s' (p + 1) 0 = nI (psN W') ∧ sk_c s' (p + 1) 1 = nI (W' 4) ∧ sk_c s' (p + 1) 2 = nI (W' 5) ∧ sk_c s' (p + 1) 3 = nI (W' 6) ∧ sk_c s' (p + 1) 4 = nI (W' 7) ∧ sk_c s' (p + 1) 5 = nI (W' 8) ∧ sk_c s' (p + 1) 6 = nI (W' 9) ∧ sk_c s' (p + 1) 7 = sd)
    (cM : ∀ j, j < 28 → sk_c s' (p + 3) j = nI (W' (17 + j)))
    (cC : ∀ c, c < 64 → sk_c s' (p + 5) c = nI (W' (45 + 3 * c)) ∧ sh_has (sk_g s' (p + 4) 3) (nI c) = nI (W' (46 + 3 * c)) ∧ sh_has (sk_g s' (p + 4) 4) (nI c) = nI (W' (47 + 3 * c)))
    (cH : sk_c s' (p + 4) 5 = nI (W' 10) ∧ sk_c s' (p + 4) 6 = nI (W' 12) ∧ sk_c s' (p + 4) 7 = nI (W' 11))
    (cP : ∀ k, k < W' 12 → sk_c s' (p + 6) k = nI (W' (237 + 2 * k)) ∧ sk_c s' (p + 7) k = nI (W' (238 + 2 * k)))
    (c8 : ∀ k, sk_c s' (p + 8) k = sk_c s (p + 8) k) (c9 : ∀ k, sk_c s' (p + 9) k = sk_c s (p + 9) k) (c0 : sk_c s' p 4 = sk_c s p 4)
    (w13 : W' 13 = W 13) (w15 : W' 15 = W 15) (wl : ∀ q, 249 ≤ q → W' q = W q) : sc_rel s' p W' sd := by
  obtain ⟨l7, _, b1, b3, b5, b4, b6, ⟨nx, n1, n2, n3, n4⟩, b13⟩ := S
  refine ⟨by rw [hK, hr]; exact l7, hw, cB, cM, cC, cH, cP, ⟨nx, n1, by rw [c8]; exact n2, by rw [c8, w15]; exact n3, fun a ha => ?_⟩, by rw [c0, w13]; exact b13⟩
  rw [w15] at ha
  have : rowN W' a = rowN W a := by
    unfold rowN
    rw [wl _ (by omega), wl _ (by omega), wl _ (by omega), wl _ (by omega), wl _ (by omega)]
  rw [c9, this]
  exact n4 a ha
theorem B_o (S : sc_rel s p W sd) (h : ∀ k, sk_c s' (p + 1) k = sk_c s (p + 1) k) (e : ∀ q, q < 10 → W' q = W q) : sk_c s' (p + 1) 0 = nI (psN W') ∧ sk_c s' (p + 1) 1 = nI (W' 4) ∧ sk_c s' (p + 1) 2 = nI (W' 5) ∧ sk_c s' (p + 1) 3 = nI (W' 6) ∧ sk_c s' (p + 1) 4 = nI (W' 7) ∧ sk_c s' (p + 1) 5 = nI (W' 8) ∧ sk_c s' (p + 1) 6 = nI (W' 9) ∧ sk_c s' (p + 1) 7 = sd := by
  have ep : psN W' = psN W := by
    unfold psN
    rw [e 0 (by decide), e 1 (by decide), e 2 (by decide), e 3 (by decide)]
  rw [h, h, h, h, h, h, h, h, ep, e 4 (by decide), e 5 (by decide), e 6 (by decide), e 7 (by decide), e 8 (by decide), e 9 (by decide)]
  exact S.2.2.1
theorem M_o (S : sc_rel s p W sd) (h : ∀ k, sk_c s' (p + 3) k = sk_c s (p + 3) k) (e : ∀ q, 17 ≤ q → q < 45 → W' q = W q) : ∀ j, j < 28 → sk_c s' (p + 3) j = nI (W' (17 + j)) := fun j hj => by
  rw [h, e _ (by omega) (by omega)]; exact S.2.2.2.1 j hj
theorem C_o (S : sc_rel s p W sd) (h : ∀ k, sk_c s' (p + 5) k = sk_c s (p + 5) k) (hg : ∀ k, sk_g s' (p + 4) k = sk_g s (p + 4) k) (e : ∀ q, 45 ≤ q → q < 237 → W' q = W q) : ∀ c, c < 64 → sk_c s' (p + 5) c = nI (W' (45 + 3 * c)) ∧ sh_has (sk_g s' (p + 4) 3) (nI c) = nI (W' (46 + 3 * c)) ∧ sh_has (sk_g s' (p + 4) 4) (nI c) = nI (W' (47 + 3 * c)) := fun c hc => by
  rw [h, hg, hg, e _ (by omega) (by omega), e _ (by omega) (by omega), e _ (by omega) (by omega)]; exact S.2.2.2.2.1 c hc
theorem H_o (S : sc_rel s p W sd) (h : ∀ k, sk_c s' (p + 4) k = sk_c s (p + 4) k) (e : ∀ q, 10 ≤ q → q < 13 → W' q = W q) : sk_c s' (p + 4) 5 = nI (W' 10) ∧ sk_c s' (p + 4) 6 = nI (W' 12) ∧ sk_c s' (p + 4) 7 = nI (W' 11) := by
  rw [h, h, h, e 10 (by decide) (by decide), e 11 (by decide) (by decide), e 12 (by decide) (by decide)]; exact S.2.2.2.2.2.1
theorem P_o (S : sc_rel s p W sd) (h6 : ∀ k, sk_c s' (p + 6) k = sk_c s (p + 6) k) (h7 : ∀ k, sk_c s' (p + 7) k = sk_c s (p + 7) k) (e12 : W' 12 = W 12) (e : ∀ q, 237 ≤ q → q < 249 → W' q = W q) : ∀ k, k < W' 12 → sk_c s' (p + 6) k = nI (W' (237 + 2 * k)) ∧ sk_c s' (p + 7) k = nI (W' (238 + 2 * k)) := fun k hk => by
  have w12 := S.2.1.1.2.2.2.2.2.2.2.2.2.2.2.2.1
  rw [e12] at hk
  rw [h6, h7, e _ (by omega) (by omega), e _ (by omega) (by omega)]; exact S.2.2.2.2.2.2.1 k hk
/-- one cell of the body is written -/
theorem sc_bdy (S : sc_rel s (X + 12) W sd) {k : Nat} {x : Int32} (hw : wd W') (hW : ∀ q, 10 ≤ q → W' q = W q) (hb : sk_c (sk_wc s (X + 13) k x) (X + 12 + 1) 0 = nI (psN W') ∧ sk_c (sk_wc s (X + 13) k x) (X + 12 + 1) 1 = nI (W' 4) ∧ sk_c (sk_wc s (X + 13) k x) (X + 12 + 1) 2 = nI (W' 5) ∧ sk_c (sk_wc s (X + 13) k x) (X + 12 + 1) 3 = nI (W' 6) ∧ sk_c (sk_wc s (X + 13) k x) (X + 12 + 1) 4 = nI (W' 7) ∧ sk_c (sk_wc s (X + 13) k x) (X + 12 + 1) 5 = nI (W' 8) ∧ sk_c (sk_wc s (X + 13) k x) (X + 12 + 1) 6 = nI (W' 9) ∧ sk_c (sk_wc s (X + 13) k x) (X + 12 + 1) 7 = sd) : sc_rel (sk_wc s (X + 13) k x) (X + 12) W' sd := by
  have cc : ∀ b i, b ≠ X + 13 → sk_c (sk_wc s (X + 13) k x) b i = sk_c s b i := fun b i h => by rw [qc_ne h]
  exact sc_re S rfl rfl hw hb (M_o S (fun k => cc _ _ (by omega)) (fun q h _ => hW q (by omega))) (C_o S (fun k => cc _ _ (by omega)) (fun _ => rfl) (fun q h _ => hW q (by omega))) (H_o S (fun k => cc _ _ (by omega)) (fun q h _ => hW q h)) (P_o S (fun k => cc _ _ (by omega)) (fun k => cc _ _ (by omega)) (hW 12 (by decide)) (fun q h _ => hW q (by omega))) (fun k => cc _ _ (by omega)) (fun k => cc _ _ (by omega)) (cc _ _ (by omega)) (hW 13 (by decide)) (hW 15 (by decide)) (fun q h => hW q (by omega))
theorem b_at (k : Nat) (x : Int32) (j : Nat) : sk_c (sk_wc s (X + 13) k x) (X + 12 + 1) j = if j = k then x else sk_c s (X + 12 + 1) j := by
  rw [show X + 12 + 1 = X + 13 by omega, qc_eq]
  by_cases h : j = k
  · rw [h, pk_us, if_pos rfl]
  · rw [pk_un h, if_neg h]
/-- what telling one line asks -/
def tA (X : Nat) (s : sk_S) (i κ : Nat) (n : Nat → Nat) (W : Nat → Nat) (sd : Int32) : Prop := lay_X0 (sk_K s) (sk_r s) (X + 3) = true ∧ i < 14 ∧ (∀ j, j < lnC κ → sk_c s (X + 5) (i * 5 + j) = nI (n j)) ∧ lnV κ n W ∧ sc_rel s (X + 12) W sd
theorem psT_lt (hw : wd W) : psN W < 1200 := ps4_lt hw.1.1 hw.1.2.1 hw.1.2.2.1 hw.1.2.2.2.1
theorem psT_un (hw : wd W) : psN W / 120 = W 0 ∧ psN W / 12 % 10 = W 1 ∧ psN W / 2 % 6 = W 2 ∧ psN W % 2 = W 3 := ps4_un hw.1.2.1 hw.1.2.2.1 hw.1.2.2.2.1
theorem tb_ok (hκ : κ < 6) (h : tA X s i κ n W sd) : ∃ s', x0_tellBody N s (X + 3) (X + 12 + 1) (nI κ) (nI (i * 5)) = some (s', 0) ∧ efr (tlW X) s s' ∧ sc_rel s' (X + 12) (lnW κ n W) sd := by
  obtain ⟨l0, hi, hn, hv, S⟩ := h
  have hw := S.2.1
  have hwn := wd_ln hw hv (by omega)
  obtain ⟨B0, B1, B2, B3, B4, B5, B6, B7⟩ := S.2.2.1
  have l1 : lay_X1 (sk_K s) (sk_r s) (X + 12 + 1) = true := ly_X7_l0 S.1
  have ib : ky_inB (nI (i * 5)) 70 = true := zq_inBt (by omega) (by decide)
  have cl : Int32.toNatClampNeg (nI (i * 5)) = i * 5 := zq_cl (by omega)
  have n0 : sk_c s (X + 3 + 2) (i * 5) = nI (n 0) := hn 0 (by
    have : κ = 0 ∨ κ = 1 ∨ κ = 2 ∨ κ = 3 ∨ κ = 4 ∨ κ = 5 := by omega
    rcases this with rfl | rfl | rfl | rfl | rfl | rfl <;> decide)
  have F : ∀ (k : Nat) (x : Int32), efr (tlW X) s (sk_wc s (X + 13) k x) := fun k x => (efr.rf (V := tlW X)).wc _ (.inl rfl)
  have v12 := psT_lt hw
  obtain ⟨u0, u1, u2, u3⟩ := psT_un hw
  have : κ = 0 ∨ κ = 1 ∨ κ = 2 ∨ κ = 3 ∨ κ = 4 ∨ κ = 5 := by omega
  rcases this with rfl | rfl | rfl | rfl | rfl | rfl
  · have n1 : sk_c s (X + 3 + 2) (i * 5 + 1) = nI (n 1) := hn 1 (by decide)
    have ep : po_withDepths (nI (psN W)) (nI (n 0)) (nI (n 1)) = nI (psN (lnW 0 n W)) := by
      rw [po_wdpN v12, u2, u3]
      rfl
    refine ⟨sk_wc s (X + 13) 0 (nI (psN (lnW 0 n W))), ?_, F _ _, sc_bdy S hwn (fun q h => by show ndS (ndS W 0 (n 0)) 1 (n 1) q = _; rw [ndS_o (by omega), ndS_o (by omega)]) ?_⟩
    · unfold x0_tellBody
      simp only [zq_letP]
      rw [if_pos l0, if_pos l1, if_pos ib, if_pos (by decide), nI_1, if_pos (zq_inBt (by omega) (by decide)), cl, zq_cl (by omega), n0, n1, B0, ep]
    · refine ⟨by rw [b_at, if_pos rfl], ?_, ?_, ?_, ?_, ?_, ?_, ?_⟩ <;> rw [b_at, if_neg (by decide)] <;> assumption
  · have ep : po_withThin (nI (psN W)) (nI (n 0)) = nI (psN (lnW 1 n W)) := by
      rw [po_wthN v12, u0, u1, u3]
      rfl
    refine ⟨sk_wc s (X + 13) 0 (nI (psN (lnW 1 n W))), ?_, F _ _, sc_bdy S hwn (fun q h => by show ndS W 2 (n 0) q = _; rw [ndS_o (by omega)]) ?_⟩
    · unfold x0_tellBody
      simp only [zq_letP]
      rw [if_pos l0, if_pos l1, if_pos ib, if_neg (by decide), if_pos (by decide), cl, n0, B0, ep]
    · refine ⟨by rw [b_at, if_pos rfl], ?_, ?_, ?_, ?_, ?_, ?_, ?_⟩ <;> rw [b_at, if_neg (by decide)] <;> assumption
  · refine ⟨sk_wc s (X + 13) 1 (nI (n 0)), ?_, F _ _, sc_bdy S hwn (fun q h => by show ndS W 4 (n 0) q = _; rw [ndS_o (by omega)]) ?_⟩
    · unfold x0_tellBody
      simp only [zq_letP]
      rw [if_pos l0, if_pos l1, if_pos ib, if_neg (by decide), if_neg (by decide), if_pos (by decide), cl, n0]
    · refine ⟨?_, by rw [b_at, if_pos rfl]; rfl, ?_, ?_, ?_, ?_, ?_, ?_⟩ <;> rw [b_at, if_neg (by decide)] <;> assumption
  · refine ⟨sk_wc s (X + 13) 2 (nI (n 0)), ?_, F _ _, sc_bdy S hwn (fun q h => by show ndS W 5 (n 0) q = _; rw [ndS_o (by omega)]) ?_⟩
    · unfold x0_tellBody
      simp only [zq_letP]
      rw [if_pos l0, if_pos l1, if_pos ib, if_neg (by decide), if_neg (by decide), if_neg (by decide), if_pos (by decide), cl, n0]
    · refine ⟨?_, ?_, by rw [b_at, if_pos rfl]; rfl, ?_, ?_, ?_, ?_, ?_⟩ <;> rw [b_at, if_neg (by decide)] <;> assumption
  · refine ⟨sk_wc s (X + 13) 5 (nI (n 0)), ?_, F _ _, sc_bdy S hwn (fun q h => by show ndS W 8 (n 0) q = _; rw [ndS_o (by omega)]) ?_⟩
    · unfold x0_tellBody
      simp only [zq_letP]
      rw [if_pos l0, if_pos l1, if_pos ib, if_neg (by decide), if_neg (by decide), if_neg (by decide), if_neg (by decide), if_pos (by decide), cl, n0]
    · refine ⟨?_, ?_, ?_, ?_, ?_, by rw [b_at, if_pos rfl]; rfl, ?_, ?_⟩ <;> rw [b_at, if_neg (by decide)] <;> assumption
  · refine ⟨sk_wc s (X + 13) 6 (nI (n 0)), ?_, F _ _, sc_bdy S hwn (fun q h => by show ndS W 9 (n 0) q = _; rw [ndS_o (by omega)]) ?_⟩
    · unfold x0_tellBody
      simp only [zq_letP]
      rw [if_pos l0, if_pos l1, if_pos ib, if_neg (by decide), if_neg (by decide), if_neg (by decide), if_neg (by decide), if_neg (by decide), cl, n0]
    · refine ⟨?_, ?_, ?_, ?_, ?_, ?_, by rw [b_at, if_pos rfl]; rfl, ?_⟩ <;> rw [b_at, if_neg (by decide)] <;> assumption
theorem tm_ok (h : tA X s i 6 n W sd) : ∃ s', x6_tell N s (X + 12 + 2) (X + 3 + 2) (nI (i * 5)) = some (s', 0) ∧ efr (tlW X) s s' ∧ sc_rel s' (X + 12) (lnW 6 n W) sd := by
  obtain ⟨l0, hi, hn, hv, S⟩ := h
  have hw := S.2.1
  have hwn := wd_ln hw hv (by decide)
  have hv : n 0 ≤ 6 ∧ n 1 ≤ 9 ∧ n 2 ≤ 9 ∧ n 3 ≤ 5 ∧ 1 ≤ n 4 ∧ n 4 ≤ 30 := hv
  have l6 : lay_X6 (sk_K s) (sk_r s) (X + 12 + 2) = true := ly_X7_l1 S.1
  have k5 : sk_K s (X + 3 + 2) = (21, 70) := ly_X0_k1 l0
  have hn : ∀ j, j < 5 → sk_c s (X + 3 + 2) (i * 5 + j) = nI (n j) := hn
  have n0 : sk_c s (X + 3 + 2) (i * 5) = nI (n 0) := hn 0 (by decide)
  have ib : ky_inB (nI (i * 5)) 70 = true := zq_inBt (by omega) (by decide)
  have cl : Int32.toNatClampNeg (nI (i * 5)) = i * 5 := zq_cl (by omega)
  have m4 : (4 : Int32) * nI (n 0) = nI (4 * n 0) := pk_mul 4 _
  have oW : ∀ q, (q < 17 ∨ 45 ≤ q) → lnW 6 n W q = W q := fun q h => by
    show ndS (ndS (ndS (ndS W (17 + 4 * n 0) (n 1)) (18 + 4 * n 0) (n 2)) (19 + 4 * n 0) (n 3)) (20 + 4 * n 0) (n 4) q = _
    rw [ndS_o (by omega), ndS_o (by omega), ndS_o (by omega), ndS_o (by omega)]
  refine ⟨sk_wf s (X + 12 + 2 + 1) (va_cpy (sk_c s (X + 3 + 2)) (sk_c s (X + 12 + 2 + 1)) (i * 5 + 1) (4 * n 0) 4), ?_, (efr.rf (V := tlW X)).wf _ (fun k => .inr (.inl (by omega))), ?_⟩
  · unfold x6_tell
    simp only [zq_letP]
    rw [if_pos l6, k5, if_pos rfl, if_pos ib, nI_1, if_pos (nI_pos (by omega)), cl, n0, m4, if_pos (nI_pos (by omega)), zq_cl (by omega), zq_cl (by omega), if_pos (by show i * 5 + 1 + 4 ≤ 70; omega), if_pos (by omega)]
  · have cc : ∀ b k, b ≠ X + 15 → sk_c (sk_wf s (X + 12 + 2 + 1) (va_cpy (sk_c s (X + 3 + 2)) (sk_c s (X + 12 + 2 + 1)) (i * 5 + 1) (4 * n 0) 4)) b k = sk_c s b k := fun b k h => by rw [wf_cn (by omega)]
    refine sc_re S rfl rfl hwn (B_o S (fun k => cc _ _ (by omega)) (fun q h => oW q (by omega))) (fun j hj => ?_) (C_o S (fun k => cc _ _ (by omega)) (fun _ => rfl) (fun q h _ => oW q (by omega))) (H_o S (fun k => cc _ _ (by omega)) (fun q h h' => oW q (by omega))) (P_o S (fun k => cc _ _ (by omega)) (fun k => cc _ _ (by omega)) (oW 12 (by decide)) (fun q h _ => oW q (by omega))) (fun k => cc _ _ (by omega)) (fun k => cc _ _ (by omega)) (cc _ _ (by omega)) (oW 13 (by decide)) (oW 15 (by decide)) (fun q h => oW q (by omega))
    rw [show X + 12 + 3 = X + 12 + 2 + 1 by omega, wf_c]
    show _ = nI (ndS (ndS (ndS (ndS W (17 + 4 * n 0) (n 1)) (18 + 4 * n 0) (n 2)) (19 + 4 * n 0) (n 3)) (20 + 4 * n 0) (n 4) (17 + j))
    by_cases h : 4 * n 0 ≤ j ∧ j < 4 * n 0 + 4
    · rw [pk_cpy_in h.1 h.2]
      have : j = 4 * n 0 ∨ j = 4 * n 0 + 1 ∨ j = 4 * n 0 + 2 ∨ j = 4 * n 0 + 3 := by omega
      rcases this with e | e | e | e
      · rw [show i * 5 + 1 + (j - 4 * n 0) = i * 5 + 1 by omega, hn 1 (by decide), ndS_o (by omega), ndS_o (by omega), ndS_o (by omega), show 17 + j = 17 + 4 * n 0 by omega, ndS_s]
      · rw [show i * 5 + 1 + (j - 4 * n 0) = i * 5 + 2 by omega, hn 2 (by decide), ndS_o (by omega), ndS_o (by omega), show 17 + j = 18 + 4 * n 0 by omega, ndS_s]
      · rw [show i * 5 + 1 + (j - 4 * n 0) = i * 5 + 3 by omega, hn 3 (by decide), ndS_o (by omega), show 17 + j = 19 + 4 * n 0 by omega, ndS_s]
      · rw [show i * 5 + 1 + (j - 4 * n 0) = i * 5 + 4 by omega, hn 4 (by decide), show 17 + j = 20 + 4 * n 0 by omega, ndS_s]
    · have e : va_cpy (sk_c s (X + 3 + 2)) (sk_c s (X + 12 + 2 + 1)) (i * 5 + 1) (4 * n 0) 4 j = sk_c s (X + 12 + 2 + 1) j := by
        unfold va_cpy
        rw [if_neg h]
      rw [e, ndS_o (by omega), ndS_o (by omega), ndS_o (by omega), ndS_o (by omega)]
      exact S.2.2.2.1 j hj
theorem has_set {x : Int64} {a c v : Nat} (ha : a < 64) (hc : c < 64) (h : sh_has x (nI c) = nI v) (hv : v ≤ 1) : sh_has (x ||| (1 <<< (Int32.toInt64 (nI a) &&& 63))) (nI c) = nI (if c = a then 1 else v) := by
  have hb' := hbW hc hv h
  rw [hb_has _ hc, hb_or, hb_one ha, hb']
  have : v = 0 ∨ v = 1 := by omega
  by_cases e : c = a
  · rcases this with rfl | rfl <;> simp [e] <;> rfl
  · rcases this with rfl | rfl <;> simp [e] <;> rfl
theorem pl_at (l0 : lay_X0 (sk_K s) (sk_r s) (X + 3) = true) {a x y : Nat} (ha : a < 69) (hx : x ≤ 7) (hy : y ≤ 7) (h1 : sk_c s (X + 3 + 2) a = nI x) (h2 : sk_c s (X + 3 + 2) (a + 1) = nI y) : x0_placeAt N s (X + 3) (nI a) = some (s, nI (8 * y + x)) := by
  unfold x0_placeAt
  rw [if_pos l0, if_pos (zq_inBt (by omega) (by decide)), nI_1, if_pos (zq_inBt (by omega) (by decide)), zq_cl (by omega), zq_cl (by omega), h1, h2, (cellAtN y (by omega) x (by omega)).1]
theorem ts_ok (hκ : 7 ≤ κ) (hκ' : κ ≤ 12) (h : tA X s i κ n W sd) : ∃ s', x0_tellShore N s (X + 3) (X + 12 + 4) (nI κ) (nI (i * 5)) = some (s', 0) ∧ efr (tlW X) s s' ∧ sc_rel s' (X + 12) (lnW κ n W) sd := by
  obtain ⟨l0, hi, hn, hv, S⟩ := h
  have hw := S.2.1
  have hwn := wd_ln hw hv hκ'
  have l8 : lay_X8 (sk_K s) (sk_r s) (X + 12 + 4) = true := ly_X7_l2 S.1
  have ib : ky_inB (nI (i * 5)) 70 = true := zq_inBt (by omega) (by decide)
  have cl : Int32.toNatClampNeg (nI (i * 5)) = i * 5 := zq_cl (by omega)
  have w12 := hw.1.2.2.2.2.2.2.2.2.2.2.2.2.1
  have : κ = 7 ∨ κ = 8 ∨ κ = 9 ∨ κ = 10 ∨ κ = 11 ∨ κ = 12 := by omega
  rcases this with rfl | rfl | rfl | rfl | rfl | rfl
  · have hv : n 0 ≤ 7 ∧ n 1 ≤ 7 ∧ n 2 ≤ 9 := hv
    have hn : ∀ j, j < 3 → sk_c s (X + 3 + 2) (i * 5 + j) = nI (n j) := hn
    have pa := pl_at (N := N) l0 (a := i * 5) (by omega) hv.1 hv.2.1 (hn 0 (by decide)) (hn 1 (by decide))
    have oW : ∀ q, q ≠ 45 + 3 * (8 * n 1 + n 0) → lnW 7 n W q = W q := fun q h => ndS_o h
    refine ⟨sk_wc s (X + 12 + 4 + 1) (8 * n 1 + n 0) (nI (n 2)), ?_, (efr.rf (V := tlW X)).wc _ (.inr (.inr (by omega))), ?_⟩
    · unfold x0_tellShore
      simp only [zq_letP]
      rw [if_pos l0, if_pos l8, if_pos (by decide), pa]
      simp only [zq_bindP]
      rw [show nI (i * 5) + 2 = nI (i * 5 + 2) from nI_add _ 2, if_pos (zq_inBt (by omega) (by decide)), zq_cl (by omega), zq_cl (by omega), hn 2 (by decide), if_pos (zq_inBt (by omega) (by decide))]
    · have cc : ∀ b k, b ≠ X + 17 → sk_c (sk_wc s (X + 12 + 4 + 1) (8 * n 1 + n 0) (nI (n 2))) b k = sk_c s b k := fun b k h => by rw [qc_ne (by omega)]
      refine sc_re S rfl rfl hwn (B_o S (fun k => cc _ _ (by omega)) (fun q h => oW q (by omega))) (M_o S (fun k => cc _ _ (by omega)) (fun q h _ => oW q (by omega))) (fun c hc => ?_) (H_o S (fun k => cc _ _ (by omega)) (fun q h h' => oW q (by omega))) (P_o S (fun k => cc _ _ (by omega)) (fun k => cc _ _ (by omega)) (oW 12 (by omega)) (fun q h _ => oW q (by omega))) (fun k => cc _ _ (by omega)) (fun k => cc _ _ (by omega)) (cc _ _ (by omega)) (oW 13 (by omega)) (oW 15 (by omega)) (fun q h => oW q (by omega))
      rw [oW (46 + 3 * c) (by omega), oW (47 + 3 * c) (by omega)]
      refine ⟨?_, (S.2.2.2.2.1 c hc).2⟩
      rw [show X + 12 + 5 = X + 12 + 4 + 1 by omega, qc_eq]
      show _ = nI (ndS W (45 + 3 * (8 * n 1 + n 0)) (n 2) (45 + 3 * c))
      by_cases e : c = 8 * n 1 + n 0
      · rw [e, pk_us, ndS_s]
      · rw [pk_un e, ndS_o (by omega)]; exact (S.2.2.2.2.1 c hc).1
  · have hv : n 0 ≤ 7 ∧ n 1 ≤ 7 := hv
    have hn : ∀ j, j < 2 → sk_c s (X + 3 + 2) (i * 5 + j) = nI (n j) := hn
    have pa := pl_at (N := N) l0 (a := i * 5) (by omega) hv.1 hv.2 (hn 0 (by decide)) (hn 1 (by decide))
    have oW : ∀ q, q ≠ 46 + 3 * (8 * n 1 + n 0) → lnW 8 n W q = W q := fun q h => ndS_o h
    refine ⟨sk_wg s (X + 12 + 4) 3 ((sk_g s (X + 12 + 4) 3) ||| (1 <<< (Int32.toInt64 (nI (8 * n 1 + n 0)) &&& 63))), ?_, (efr.rf (V := tlW X)).wg _ (.inr (.inr (by omega))), ?_⟩
    · unfold x0_tellShore
      simp only [zq_letP]
      rw [if_pos l0, if_pos l8, if_neg (by decide), if_pos (by decide), pa]
      rfl
    · refine sc_re S rfl rfl hwn (B_o S (fun k => rfl) (fun q h => oW q (by omega))) (M_o S (fun k => rfl) (fun q h _ => oW q (by omega))) (fun c hc => ?_) (H_o S (fun k => rfl) (fun q h h' => oW q (by omega))) (P_o S (fun k => rfl) (fun k => rfl) (oW 12 (by omega)) (fun q h _ => oW q (by omega))) (fun k => rfl) (fun k => rfl) rfl (oW 13 (by omega)) (oW 15 (by omega)) (fun q h => oW q (by omega))
      rw [oW (45 + 3 * c) (by omega), oW (47 + 3 * c) (by omega)]
      obtain ⟨q1, q2, q3⟩ := S.2.2.2.2.1 c hc
      have g4 : sk_g (sk_wg s (X + 12 + 4) 3 ((sk_g s (X + 12 + 4) 3) ||| (1 <<< (Int32.toInt64 (nI (8 * n 1 + n 0)) &&& 63)))) (X + 12 + 4) 4 = sk_g s (X + 12 + 4) 4 := by
        show va_up (sk_g s) (X + 12 + 4) (va_up (sk_g s (X + 12 + 4)) 3 _) (X + 12 + 4) 4 = _
        rw [va_us, va_un (by decide)]
      have g3 : sk_g (sk_wg s (X + 12 + 4) 3 ((sk_g s (X + 12 + 4) 3) ||| (1 <<< (Int32.toInt64 (nI (8 * n 1 + n 0)) &&& 63)))) (X + 12 + 4) 3 = (sk_g s (X + 12 + 4) 3) ||| (1 <<< (Int32.toInt64 (nI (8 * n 1 + n 0)) &&& 63)) := by
        show va_up (sk_g s) (X + 12 + 4) (va_up (sk_g s (X + 12 + 4)) 3 _) (X + 12 + 4) 3 = _
        rw [va_us, va_us]
      refine ⟨q1, ?_, by rw [g4]; exact q3⟩
      rw [g3, has_set (by omega) hc q2 (hw.2.2.1 c hc).2.1]
      show _ = nI (ndS W (46 + 3 * (8 * n 1 + n 0)) 1 (46 + 3 * c))
      by_cases e : c = 8 * n 1 + n 0
      · rw [if_pos e, e, ndS_s]
      · rw [if_neg e, ndS_o (by omega)]
  · have hv : n 0 ≤ 7 ∧ n 1 ≤ 7 := hv
    have hn : ∀ j, j < 2 → sk_c s (X + 3 + 2) (i * 5 + j) = nI (n j) := hn
    have pa := pl_at (N := N) l0 (a := i * 5) (by omega) hv.1 hv.2 (hn 0 (by decide)) (hn 1 (by decide))
    have oW : ∀ q, q ≠ 47 + 3 * (8 * n 1 + n 0) → lnW 9 n W q = W q := fun q h => ndS_o h
    refine ⟨sk_wg s (X + 12 + 4) 4 ((sk_g s (X + 12 + 4) 4) ||| (1 <<< (Int32.toInt64 (nI (8 * n 1 + n 0)) &&& 63))), ?_, (efr.rf (V := tlW X)).wg _ (.inr (.inr (by omega))), ?_⟩
    · unfold x0_tellShore
      simp only [zq_letP]
      rw [if_pos l0, if_pos l8, if_neg (by decide), if_neg (by decide), if_pos (by decide), pa]
      rfl
    · refine sc_re S rfl rfl hwn (B_o S (fun k => rfl) (fun q h => oW q (by omega))) (M_o S (fun k => rfl) (fun q h _ => oW q (by omega))) (fun c hc => ?_) (H_o S (fun k => rfl) (fun q h h' => oW q (by omega))) (P_o S (fun k => rfl) (fun k => rfl) (oW 12 (by omega)) (fun q h _ => oW q (by omega))) (fun k => rfl) (fun k => rfl) rfl (oW 13 (by omega)) (oW 15 (by omega)) (fun q h => oW q (by omega))
      rw [oW (45 + 3 * c) (by omega), oW (46 + 3 * c) (by omega)]
      obtain ⟨q1, q2, q3⟩ := S.2.2.2.2.1 c hc
      have g3 : sk_g (sk_wg s (X + 12 + 4) 4 ((sk_g s (X + 12 + 4) 4) ||| (1 <<< (Int32.toInt64 (nI (8 * n 1 + n 0)) &&& 63)))) (X + 12 + 4) 3 = sk_g s (X + 12 + 4) 3 := by
        show va_up (sk_g s) (X + 12 + 4) (va_up (sk_g s (X + 12 + 4)) 4 _) (X + 12 + 4) 3 = _
        rw [va_us, va_un (by decide)]
      have g4 : sk_g (sk_wg s (X + 12 + 4) 4 ((sk_g s (X + 12 + 4) 4) ||| (1 <<< (Int32.toInt64 (nI (8 * n 1 + n 0)) &&& 63)))) (X + 12 + 4) 4 = (sk_g s (X + 12 + 4) 4) ||| (1 <<< (Int32.toInt64 (nI (8 * n 1 + n 0)) &&& 63)) := by
        show va_up (sk_g s) (X + 12 + 4) (va_up (sk_g s (X + 12 + 4)) 4 _) (X + 12 + 4) 4 = _
        rw [va_us, va_us]
      refine ⟨q1, by rw [g3]; exact q2, ?_⟩
      rw [g4, has_set (by omega) hc q3 (hw.2.2.1 c hc).2.2]
      show _ = nI (ndS W (47 + 3 * (8 * n 1 + n 0)) 1 (47 + 3 * c))
      by_cases e : c = 8 * n 1 + n 0
      · rw [if_pos e, e, ndS_s]
      · rw [if_neg e, ndS_o (by omega)]
  · have hv : n 0 ≤ 7 ∧ n 1 ≤ 7 := hv
    have hn : ∀ j, j < 2 → sk_c s (X + 3 + 2) (i * 5 + j) = nI (n j) := hn
    have pa := pl_at (N := N) l0 (a := i * 5) (by omega) hv.1 hv.2 (hn 0 (by decide)) (hn 1 (by decide))
    have oW : ∀ q, q ≠ 10 → lnW 10 n W q = W q := fun q h => ndS_o h
    have eW : lnW 10 n W 10 = 8 * n 1 + n 0 := ndS_s
    refine ⟨sk_wc s (X + 12 + 4) 5 (nI (8 * n 1 + n 0)), ?_, (efr.rf (V := tlW X)).wc _ (.inr (.inr (by omega))), ?_⟩
    · unfold x0_tellShore
      simp only [zq_letP]
      rw [if_pos l0, if_pos l8, if_neg (by decide), if_neg (by decide), if_neg (by decide), if_pos (by decide), pa]
      rfl
    · have cc : ∀ b k, b ≠ X + 16 → sk_c (sk_wc s (X + 12 + 4) 5 (nI (8 * n 1 + n 0))) b k = sk_c s b k := fun b k h => by rw [qc_ne (by omega)]
      refine sc_re S rfl rfl hwn (B_o S (fun k => cc _ _ (by omega)) (fun q h => oW q (by omega))) (M_o S (fun k => cc _ _ (by omega)) (fun q h _ => oW q (by omega))) (C_o S (fun k => cc _ _ (by omega)) (fun _ => rfl) (fun q h _ => oW q (by omega))) ?_ (P_o S (fun k => cc _ _ (by omega)) (fun k => cc _ _ (by omega)) (oW 12 (by omega)) (fun q h _ => oW q (by omega))) (fun k => cc _ _ (by omega)) (fun k => cc _ _ (by omega)) (cc _ _ (by omega)) (oW 13 (by omega)) (oW 15 (by omega)) (fun q h => oW q (by omega))
      rw [eW, oW 12 (by decide), oW 11 (by decide), qc_eq, pk_us, pk_un (by decide), pk_un (by decide)]
      exact ⟨rfl, S.2.2.2.2.2.1.2⟩
  · have hv : n 0 ≤ 9 := hv
    have hn : ∀ j, j < 1 → sk_c s (X + 3 + 2) (i * 5 + j) = nI (n j) := hn
    have n0 : sk_c s (X + 3 + 2) (i * 5) = nI (n 0) := hn 0 (by decide)
    have oW : ∀ q, q ≠ 11 → lnW 11 n W q = W q := fun q h => ndS_o h
    have eW : lnW 11 n W 11 = n 0 := ndS_s
    refine ⟨sk_wc s (X + 12 + 4) 7 (nI (n 0)), ?_, (efr.rf (V := tlW X)).wc _ (.inr (.inr (by omega))), ?_⟩
    · unfold x0_tellShore
      simp only [zq_letP]
      rw [if_pos l0, if_pos l8, if_neg (by decide), if_neg (by decide), if_neg (by decide), if_neg (by decide), if_pos (by decide), if_pos ib, cl, n0]
    · have cc : ∀ b k, b ≠ X + 16 → sk_c (sk_wc s (X + 12 + 4) 7 (nI (n 0))) b k = sk_c s b k := fun b k h => by rw [qc_ne (by omega)]
      refine sc_re S rfl rfl hwn (B_o S (fun k => cc _ _ (by omega)) (fun q h => oW q (by omega))) (M_o S (fun k => cc _ _ (by omega)) (fun q h _ => oW q (by omega))) (C_o S (fun k => cc _ _ (by omega)) (fun _ => rfl) (fun q h _ => oW q (by omega))) ?_ (P_o S (fun k => cc _ _ (by omega)) (fun k => cc _ _ (by omega)) (oW 12 (by omega)) (fun q h _ => oW q (by omega))) (fun k => cc _ _ (by omega)) (fun k => cc _ _ (by omega)) (cc _ _ (by omega)) (oW 13 (by omega)) (oW 15 (by omega)) (fun q h => oW q (by omega))
      rw [eW, oW 12 (by decide), oW 10 (by decide), qc_eq, pk_us, pk_un (by decide), pk_un (by decide)]
      exact ⟨S.2.2.2.2.2.1.1, S.2.2.2.2.2.1.2.1, rfl⟩
  · have hv : 1 ≤ n 0 ∧ n 0 ≤ 9 ∧ n 1 ≤ 7 ∧ n 2 ≤ 7 ∧ W 12 < 6 := hv
    have hn : ∀ j, j < 3 → sk_c s (X + 3 + 2) (i * 5 + j) = nI (n j) := hn
    have n0 : sk_c s (X + 3 + 2) (i * 5) = nI (n 0) := hn 0 (by decide)
    have pa := pl_at (N := N) l0 (a := i * 5 + 1) (by omega) hv.2.2.1 hv.2.2.2.1 (hn 1 (by decide)) (hn 2 (by decide))
    have s6 : sk_c s (X + 12 + 4) 6 = nI (W 12) := S.2.2.2.2.2.1.2.1
    have eW : ∀ q, lnW 12 n W q = if q = 12 then W 12 + 1 else if q = 238 + 2 * W 12 then 8 * n 2 + n 1 else if q = 237 + 2 * W 12 then n 0 else W q := fun q => rfl
    have oW : ∀ q, q ≠ 12 → q ≠ 238 + 2 * W 12 → q ≠ 237 + 2 * W 12 → lnW 12 n W q = W q := fun q h1 h2 h3 => by rw [eW, if_neg h1, if_neg h2, if_neg h3]
    refine ⟨sk_wc (sk_wc (sk_wc s (X + 12 + 4 + 2) (W 12) (nI (n 0))) (X + 12 + 4 + 3) (W 12) (nI (8 * n 2 + n 1))) (X + 12 + 4) 6 (nI (W 12 + 1)), ?_, (((efr.rf (V := tlW X)).wc _ (.inr (.inr (by omega)))).wc _ (.inr (.inr (by omega)))).wc _ (.inr (.inr (by omega))), ?_⟩
    · unfold x0_tellShore
      rw [if_pos l0, if_pos l8, if_neg (by decide), if_neg (by decide), if_neg (by decide), if_neg (by decide), if_neg (by decide), if_pos (by decide), if_pos ib, cl, n0, nI_1, pa]
      simp only [zq_bindP]
      unfold x8_addPerson
      simp only [zq_letP]
      have e1 : sk_c (sk_wc s (X + 12 + 4 + 2) (W 12) (nI (n 0))) (X + 12 + 4) 6 = nI (W 12) := by rw [qc_ne (by omega)]; exact s6
      have e2 : sk_c (sk_wc (sk_wc s (X + 12 + 4 + 2) (W 12) (nI (n 0))) (X + 12 + 4 + 3) (W 12) (nI (8 * n 2 + n 1))) (X + 12 + 4) 6 = nI (W 12) := by rw [qc_ne (by omega)]; exact e1
      have cw : Int32.toNatClampNeg (nI (W 12)) = W 12 := zq_cl (by omega)
      have i6 : ky_inB (nI (W 12)) 6 = true := zq_inBt (by omega) (by decide)
      rw [if_pos l8, s6, if_neg (by show ¬ nI 6 ≤ nI (W 12); rw [zq_le (by decide) (by omega)]; omega), if_pos i6, cw, e1, if_pos i6, cw, e2, nI_1]
      rfl
    · have cc : ∀ b k, b ≠ X + 16 → b ≠ X + 18 → b ≠ X + 19 → sk_c (sk_wc (sk_wc (sk_wc s (X + 12 + 4 + 2) (W 12) (nI (n 0))) (X + 12 + 4 + 3) (W 12) (nI (8 * n 2 + n 1))) (X + 12 + 4) 6 (nI (W 12 + 1))) b k = sk_c s b k := fun b k h1 h2 h3 => by rw [qc_ne (by omega), qc_ne (by omega), qc_ne (by omega)]
      refine sc_re S rfl rfl hwn (B_o S (fun k => cc _ _ (by omega) (by omega) (by omega)) (fun q h => oW q (by omega) (by omega) (by omega))) (M_o S (fun k => cc _ _ (by omega) (by omega) (by omega)) (fun q h _ => oW q (by omega) (by omega) (by omega))) (C_o S (fun k => cc _ _ (by omega) (by omega) (by omega)) (fun _ => rfl) (fun q h _ => oW q (by omega) (by omega) (by omega))) ?_ (fun k hk => ?_) (fun k => cc _ _ (by omega) (by omega) (by omega)) (fun k => cc _ _ (by omega) (by omega) (by omega)) (cc _ _ (by omega) (by omega) (by omega)) (oW 13 (by omega) (by omega) (by omega)) (oW 15 (by omega) (by omega) (by omega)) (fun q h => oW q (by omega) (by omega) (by omega))
      · rw [oW 10 (by decide) (by omega) (by omega), oW 11 (by decide) (by omega) (by omega), eW 12, if_pos rfl, qc_eq, pk_us, pk_un (by decide), pk_un (by decide), qc_ne (by omega), qc_ne (by omega)]
        exact ⟨S.2.2.2.2.2.1.1, rfl, S.2.2.2.2.2.1.2.2⟩
      · rw [eW 12, if_pos rfl] at hk
        have c6 : sk_c (sk_wc (sk_wc (sk_wc s (X + 12 + 4 + 2) (W 12) (nI (n 0))) (X + 12 + 4 + 3) (W 12) (nI (8 * n 2 + n 1))) (X + 12 + 4) 6 (nI (W 12 + 1))) (X + 12 + 6) k = if k = W 12 then nI (n 0) else sk_c s (X + 12 + 6) k := by
          rw [qc_ne (by omega), qc_ne (by omega), show X + 12 + 6 = X + 12 + 4 + 2 by omega, qc_eq]
          by_cases e : k = W 12
          · rw [e, pk_us, if_pos rfl]
          · rw [pk_un e, if_neg e]
        have c7 : sk_c (sk_wc (sk_wc (sk_wc s (X + 12 + 4 + 2) (W 12) (nI (n 0))) (X + 12 + 4 + 3) (W 12) (nI (8 * n 2 + n 1))) (X + 12 + 4) 6 (nI (W 12 + 1))) (X + 12 + 7) k = if k = W 12 then nI (8 * n 2 + n 1) else sk_c s (X + 12 + 7) k := by
          rw [qc_ne (by omega), show X + 12 + 7 = X + 12 + 4 + 3 by omega, qc_eq]
          by_cases e : k = W 12
          · rw [e, pk_us, if_pos rfl]
          · rw [pk_un e, if_neg e, qc_ne (by omega)]
        rw [c6, c7, eW, eW]
        by_cases e : k = W 12
        · rw [if_pos e, if_pos e, if_neg (by omega), if_neg (by omega), if_pos (by omega), if_neg (by omega), if_pos (by omega)]
          exact ⟨rfl, rfl⟩
        · rw [if_neg e, if_neg e, if_neg (by omega), if_neg (by omega), if_neg (by omega), if_neg (by omega), if_neg (by omega), if_neg (by omega)]
          exact S.2.2.2.2.2.2.1 k (by omega)
theorem lay0_e {s0 : sk_S} (h : lay_X0 (sk_K s0) (sk_r s0) (X + 3) = true) (F : efr (tlW X) s0 s) : lay_X0 (sk_K s) (sk_r s) (X + 3) = true := by
  obtain ⟨h1, h2, h3, h4, h5⟩ := lay_X0_of h
  exact lay_X0_mk ⟨by rw [F.1]; exact h1, by rw [F.r (by unfold tlW; omega)]; exact h2, by rw [F.1]; exact h3, by rw [F.r (by unfold tlW; omega)]; exact h4, by rw [F.1]; exact h5⟩
theorem tell_loop {W0 : Nat → Nat} {kd : Nat → Nat} {nm : Nat → Nat → Nat} {l : Nat} (hl : l ≤ 14) {s0 : sk_S} (l0 : lay_X0 (sk_K s0) (sk_r s0) (X + 3) = true) (h2 : sk_c s0 (X + 3) 2 = nI l) (hr : ∀ i, i < l → sk_c s0 (X + 4) i = nI (kd i) ∧ kd i ≤ 12 ∧ (∀ j, j < lnC (kd i) → sk_c s0 (X + 5) (i * 5 + j) = nI (nm i j)) ∧ lnV (kd i) (nm i) (fW W0 kd nm i)) : ∀ (r i fuel : Nat) (s : sk_S), i + r = l → r < fuel → efr (tlW X) s0 s → sc_rel s (X + 12) (fW W0 kd nm i) sd → ∃ s', x0_tell_L2 N (X + 3) (X + 12) (fun q2 x3 => (some (q2, 0))) fuel s (nI i) = some (s', 0) ∧ efr (tlW X) s0 s' ∧ sc_rel s' (X + 12) (fW W0 kd nm l) sd := by
  intro r
  induction r with
  | zero =>
    intro i fuel s h1 hf F S
    obtain ⟨fuel, rfl⟩ : ∃ q, fuel = q + 1 := ⟨fuel - 1, by omega⟩
    obtain rfl : i = l := by omega
    refine ⟨s, ?_, F, S⟩
    simp only [x0_tell_L2]
    rw [F.c (by unfold tlW; omega), h2, if_pos (by rw [zq_le (by omega) (by omega)]; omega)]
  | succ r ih =>
    intro i fuel s h1 hf F S
    obtain ⟨fuel, rfl⟩ : ∃ q, fuel = q + 1 := ⟨fuel - 1, by omega⟩
    obtain ⟨k1, k2, k3, k4⟩ := hr i (by omega)
    have c2 : sk_c s (X + 3) 2 = nI l := by rw [F.c (by unfold tlW; omega)]; exact h2
    have c4 : sk_c s (X + 3 + 1) i = nI (kd i) := by rw [F.c (by unfold tlW; omega)]; exact k1
    have A : tA X s i (kd i) (nm i) (fW W0 kd nm i) sd := ⟨lay0_e l0 F, by omega, fun j hj => by rw [F.c (by unfold tlW; omega)]; exact k3 j hj, k4, S⟩
    have m5 : nI i * 5 = nI (i * 5) := pk_mul i 5
    have nle : ¬ nI l ≤ nI i := by rw [zq_le (by omega) (by omega)]; omega
    have ib : ky_inB (nI i) 14 = true := zq_inBt (by omega) (by decide)
    have cl : Int32.toNatClampNeg (nI i) = i := zq_cl (by omega)
    simp only [x0_tell_L2, zq_letP]
    rw [c2, if_neg nle, if_pos ib, cl, c4, m5, nI_1]
    by_cases h6 : 6 ≤ kd i
    · rw [if_pos (by show nI 6 ≤ nI (kd i); rw [zq_le (by decide) (by omega)]; exact h6)]
      by_cases e6 : kd i = 6
      · rw [e6] at A
        obtain ⟨s', a1, a2, a3⟩ := tm_ok (N := N) A
        rw [if_pos (by rw [e6]; rfl), a1]
        simp only [zq_bindP]
        rw [← e6] at a3
        exact ih (i + 1) fuel s' (by omega) (by omega) (F.tr a2) a3
      · obtain ⟨s', a1, a2, a3⟩ := ts_ok (N := N) (by omega) k2 A
        rw [if_neg (by show ¬ nI (kd i) = nI 6; rw [zq_eq (by omega) (by decide)]; exact e6), a1]
        simp only [zq_bindP]
        exact ih (i + 1) fuel s' (by omega) (by omega) (F.tr a2) a3
    · rw [if_neg (by show ¬ nI 6 ≤ nI (kd i); rw [zq_le (by decide) (by omega)]; exact h6)]
      obtain ⟨s', a1, a2, a3⟩ := tb_ok (N := N) (by omega) A
      rw [a1]
      simp only [zq_bindP]
      exact ih (i + 1) fuel s' (by omega) (by omega) (F.tr a2) a3
end
