/-! BEACH -/
section
variable {N X j : Nat} {s s' : sk_S} {c c' c0 : Nat → Nat → Int32} {W W' W0 : Nat → Nat} {sd sd' : Int32} {m m' : lwM} {sb p : Nat}
theorem i32_of (x : Int32) : ∃ n, x = nI n := ⟨x.toBitVec.toNat, Int32.toBitVec_inj.mp (by show _ = BitVec.ofNat 32 _; simp)⟩
theorem lnW_o {κ : Nat} {n : Nat → Nat} {W : Nat → Nat} (hκ : κ ≤ 12) {q : Nat} (hq : q = 13 ∨ q = 14) : lnW κ n W q = W q := by
  rcases κ12 hκ with rfl | rfl | rfl | rfl | rfl | rfl | rfl | rfl | rfl | rfl | rfl | rfl | rfl
  · show ndS (ndS W 0 (n 0)) 1 (n 1) q = _
    rw [ndS_o (by omega), ndS_o (by omega)]
  · show ndS W 2 (n 0) q = _
    rw [ndS_o (by omega)]
  · show ndS W 4 (n 0) q = _
    rw [ndS_o (by omega)]
  · show ndS W 5 (n 0) q = _
    rw [ndS_o (by omega)]
  · show ndS W 8 (n 0) q = _
    rw [ndS_o (by omega)]
  · show ndS W 9 (n 0) q = _
    rw [ndS_o (by omega)]
  · show ndS (ndS (ndS (ndS W (17 + 4 * n 0) (n 1)) (18 + 4 * n 0) (n 2)) (19 + 4 * n 0) (n 3)) (20 + 4 * n 0) (n 4) q = _
    rw [ndS_o (by omega), ndS_o (by omega), ndS_o (by omega), ndS_o (by omega)]
  · show ndS W (45 + 3 * (8 * n 1 + n 0)) (n 2) q = _
    rw [ndS_o (by omega)]
  · show ndS W (46 + 3 * (8 * n 1 + n 0)) 1 q = _
    rw [ndS_o (by omega)]
  · show ndS W (47 + 3 * (8 * n 1 + n 0)) 1 q = _
    rw [ndS_o (by omega)]
  · show ndS W 10 (8 * n 1 + n 0) q = _
    rw [ndS_o (by omega)]
  · show ndS W 11 (n 0) q = _
    rw [ndS_o (by omega)]
  · show ndS (ndS (ndS W (237 + 2 * W 12) (n 0)) (238 + 2 * W 12) (8 * n 2 + n 1)) 12 (W 12 + 1) q = _
    rw [ndS_o (by omega), ndS_o (by omega), ndS_o (by omega)]
theorem fW_o {kd : Nat → Nat} {nm : Nat → Nat → Nat} {q : Nat} (hq : q = 13 ∨ q = 14) : ∀ l, (∀ i, i < l → kd i ≤ 12) → fW W0 kd nm l q = W0 q
  | 0, _ => rfl
  | l + 1, h => by
    show lnW (kd l) (nm l) (fW W0 kd nm l) q = _
    rw [lnW_o (h l (by omega)) hq]
    exact fW_o hq l (fun i hi => h i (by omega))
theorem wd_13 (h : wd W) {v : Nat} (hv : v ≤ 12) : wd (ndS W 13 v) := by
  obtain ⟨⟨b0, b1, b2, b3, b4, b5, b6, b7, b8, b9, b10, b11, b12, b13, b14, b15⟩, a, b, d, e⟩ := h
  have o : ∀ q, q ≠ 13 → ndS W 13 v q = W q := fun q h => ndS_o h
  refine ⟨?_, fun q hq => ?_, fun q hq => ?_, fun q hq => ?_, fun q hq => ?_⟩
  · rw [o 0 (by decide), o 1 (by decide), o 2 (by decide), o 3 (by decide), o 4 (by decide), o 5 (by decide), o 6 (by decide), o 7 (by decide), o 8 (by decide), o 9 (by decide), o 10 (by decide), o 11 (by decide), o 12 (by decide), ndS_s, o 14 (by decide), o 15 (by decide)]
    exact ⟨b0, b1, b2, b3, b4, b5, b6, b7, b8, b9, b10, b11, b12, hv, b14, b15⟩
  · rw [o _ (by omega), o _ (by omega), o _ (by omega), o _ (by omega)]; exact a q hq
  · rw [o _ (by omega), o _ (by omega), o _ (by omega)]; exact b q hq
  · rw [o _ (by omega), o _ (by omega), o _ (by omega)]; exact d q hq
  · rw [o _ (by omega), o _ (by omega), o _ (by omega), o _ (by omega), o _ (by omega)]; exact e q hq
theorem sc_13 (S : sc_rel s p W sd) {v : Nat} (hv : v ≤ 12) : sc_rel (sk_wc s p 4 (nI v)) p (ndS W 13 v) sd := by
  obtain ⟨l7, hw, b1, b3, b5, b4, b6, ⟨nx, n1, n2, n3, n4⟩, b13⟩ := id S
  have cc : ∀ b i, b ≠ p → sk_c (sk_wc s p 4 (nI v)) b i = sk_c s b i := fun b i h => by rw [qc_ne h]
  have o : ∀ q, q ≠ 13 → ndS W 13 v q = W q := fun q h => ndS_o h
  refine ⟨l7, wd_13 hw hv, B_o S (fun k => cc _ _ (by omega)) (fun q h => o q (by omega)), M_o S (fun k => cc _ _ (by omega)) (fun q h _ => o q (by omega)), C_o S (fun k => cc _ _ (by omega)) (fun _ => rfl) (fun q h _ => o q (by omega)), H_o S (fun k => cc _ _ (by omega)) (fun q h h' => o q (by omega)), P_o S (fun k => cc _ _ (by omega)) (fun k => cc _ _ (by omega)) (o 12 (by decide)) (fun q h _ => o q (by omega)), ⟨nx, n1, by rw [cc _ _ (by omega)]; exact n2, by rw [cc _ _ (by omega), o 15 (by decide)]; exact n3, fun a ha => ?_⟩, by rw [qc_eq, pk_us, ndS_s]⟩
  rw [o 15 (by decide)] at ha
  have : rowN (ndS W 13 v) a = rowN W a := by
    unfold rowN
    rw [o _ (by omega), o _ (by omega), o _ (by omega), o _ (by omega), o _ (by omega)]
  rw [cc _ _ (by omega), this]
  exact n4 a ha
theorem l2_loop : ∀ (r i fuel : Nat) (c1 : Nat → Nat → Int32), i + r = 1398 → r < fuel → onl 3 c c1 → (∀ q, q < i → c1 3 q = c 1 q) → ∃ c', (∀ k, md_beach_L2 N k fuel c1 (nI i) = k c' (nI 1398)) ∧ onl 3 c c' ∧ ∀ q, q < 1398 → c' 3 q = c 1 q := by
  intro r
  induction r with
  | zero =>
    intro i fuel c1 h1 h2 ho hc
    obtain ⟨fuel, rfl⟩ : ∃ q, fuel = q + 1 := ⟨fuel - 1, by omega⟩
    obtain rfl : i = 1398 := by omega
    refine ⟨c1, fun k => ?_, ho, hc⟩
    simp only [md_beach_L2]; rw [if_pos (by decide)]
  | succ r ih =>
    intro i fuel c1 h1 h2 ho hc
    obtain ⟨fuel, rfl⟩ : ∃ q, fuel = q + 1 := ⟨fuel - 1, by omega⟩
    obtain ⟨c2, j1, j2, j3⟩ := ih (i + 1) fuel (bk_w c1 3 i (c1 1 i)) (by omega) (by omega) (fun q hq => by rw [bk_w_ne hq]; exact ho q hq) (fun q hq => by
      by_cases e : q = i
      · rw [e, bk_w_same, ho 1 (by decide)]
      · rw [bk_w_at e]; exact hc q (by omega))
    refine ⟨c2, fun k => ?_, j2, j3⟩
    simp only [md_beach_L2, zq_letP]
    rw [if_neg (by show ¬ nI 1398 ≤ nI i; rw [zq_le (by decide) (by omega)]; omega), if_pos (zq_inBt (by omega) (by decide)), if_pos (zq_inBt (by omega) (by decide)), zq_cl (by omega), nI_1]
    exact j1 k
theorem l93_loop {p1 : Int32} : ∀ (r i fuel : Nat) (c1 : Nat → Nat → Int32), i + r = 1398 → r < fuel → onl 1 c c1 → (∀ q, q < i → c1 1 q = c 3 q) → ∃ c', (∀ k, md_beach_L93 N k fuel c1 p1 (nI i) = k c' p1 (nI 1398)) ∧ onl 1 c c' ∧ ∀ q, q < 1398 → c' 1 q = c 3 q := by
  intro r
  induction r with
  | zero =>
    intro i fuel c1 h1 h2 ho hc
    obtain ⟨fuel, rfl⟩ : ∃ q, fuel = q + 1 := ⟨fuel - 1, by omega⟩
    obtain rfl : i = 1398 := by omega
    refine ⟨c1, fun k => ?_, ho, hc⟩
    simp only [md_beach_L93]; rw [if_pos (by decide)]
  | succ r ih =>
    intro i fuel c1 h1 h2 ho hc
    obtain ⟨fuel, rfl⟩ : ∃ q, fuel = q + 1 := ⟨fuel - 1, by omega⟩
    obtain ⟨c2, j1, j2, j3⟩ := ih (i + 1) fuel (bk_w c1 1 i (c1 3 i)) (by omega) (by omega) (fun q hq => by rw [bk_w_ne hq]; exact ho q hq) (fun q hq => by
      by_cases e : q = i
      · rw [e, bk_w_same, ho 3 (by decide)]
      · rw [bk_w_at e]; exact hc q (by omega))
    refine ⟨c2, fun k => ?_, j2, j3⟩
    simp only [md_beach_L93, zq_letP]
    rw [if_neg (by show ¬ nI 1398 ≤ nI i; rw [zq_le (by decide) (by omega)]; omega), if_pos (zq_inBt (by omega) (by decide)), if_pos (zq_inBt (by omega) (by decide)), zq_cl (by omega), nI_1]
    exact j1 k
/-- the reference as reading begins -/
def cB (c : Nat → Nat → Int32) : Nat → Nat → Int32 := bk_w (md_uses_c c) 0 16 0
theorem cB_n {a : Nat} (h : a ≠ 0) : cB c a = c a := by
  unfold cB md_uses_c
  rw [bk_w_ne h, bk_w_ne h, bk_w_ne h, bk_w_ne h, bk_w_ne h]
theorem cB_o {k : Nat} (h0 : k ≠ 0) (h9 : k ≠ 9) (h10 : k ≠ 10) (h11 : k ≠ 11) (h16 : k ≠ 16) : cB c 0 k = c 0 k := by
  unfold cB md_uses_c
  rw [bk_w_at h16, bk_w_at h10, bk_w_at h9, bk_w_at h11, bk_w_at h0]
theorem cB_0 : cB c 0 0 = 0 := by
  unfold cB md_uses_c
  rw [bk_w_at (by decide), bk_w_at (by decide), bk_w_at (by decide), bk_w_at (by decide), bk_w_same]
theorem cB_9 : cB c 0 9 = 0 := by
  unfold cB md_uses_c
  rw [bk_w_at (by decide), bk_w_at (by decide), bk_w_same]
theorem cB_10 : cB c 0 10 = nI 0 := by
  unfold cB md_uses_c
  rw [bk_w_at (by decide), bk_w_same]; rfl
theorem cB_11 : cB c 0 11 = c 0 9 := by
  unfold cB md_uses_c
  rw [bk_w_at (by decide), bk_w_at (by decide), bk_w_at (by decide), bk_w_same, bk_w_at (by decide)]
theorem cB_16 : cB c 0 16 = nI 0 := by
  unfold cB
  rw [bk_w_same]; rfl
theorem cB_pq : ∃ b, pq (cB c) 0 b = cB c := by
  obtain ⟨b, hb⟩ := i32_of (cB c 0 12)
  exact ⟨b, pq_self cB_10 hb⟩
/-- a text read by both -/
theorem text_both (hN : 2000000000 ≤ N) (hl : lay_X11 (sk_K s) (sk_r s) X = true) (hw : wd W) (s6 : sk_c s (X + 16) 6 = nI (W 12)) {ln : Nat} (hln : ln ≤ 400) (h1 : sk_c s (X + 1) 1 = nI ln) (h9 : c 0 9 = nI ln) (ht : ∀ j, j < ln → sk_c s (X + 2) j = c 6 j) (v : wv (c 1) W sd) :
    (∃ S K, x0_reads N s (X + 3) (X + 1) (nI (W 12)) = some (S, 0) ∧ md_readAll N c 1 = some (K, -1) ∧ flB X s (cB c) S K) ∨
    ∃ S K k, x0_reads N s (X + 3) (X + 1) (nI (W 12)) = some (S, 1) ∧ md_readAll N c 1 = some (K, nI k) ∧ k ≤ 14 ∧ QL X s (cB c) (c 6) ln W sd k S K := by
  have l9 : lay_X9 (sk_K s) (sk_r s) (X + 1) = true := ly_X11_l0 hl
  have l0 : lay_X0 (sk_K s) (sk_r s) (X + 3) = true := ly_X11_l1 hl
  have C : tcC (X + 1) s (c 6) ln := ⟨l9, h1, ht, hln⟩
  have C' : tcR (cB c) (c 6) ln := ⟨by rw [cB_11]; exact h9, fun j _ => by rw [cB_n (by decide)], hln⟩
  have F1 : cfr (rdV X) s (sk_wc (sk_wc s (X + 3) 2 0) (X + 3) 4 (nI (W 12))) := ((cfr.rf (V := rdV X)).wc _ (by unfold rdV; omega)).wc _ (by unfold rdV; omega)
  have C1 := tcC_fr C F1
  have I0 : LI X s (cB c) W sd 0 (sk_wc (sk_wc s (X + 3) 2 0) (X + 3) 4 (nI (W 12))) (cB c) := by
    refine ⟨fun _ => 0, fun _ _ => 0, fun i hi => by omega, ?_, ?_, F1, rfr.rf, ?_, hw⟩
    · rw [qc_at _ _ _ _ _ _ (by omega), qc_eq, pk_us]; rfl
    · rw [qc_eq, pk_us]; rfl
    · rw [cB_n (by decide)]; exact v
  obtain ⟨b, eb⟩ := cB_pq (c := c)
  have hq0 : rne isB (c 6) ln 0 ≤ ln := rne_le (Nat.zero_le _)
  have bl := bl_ok (N := N) (b := b) (by omega) C' (Nat.zero_le ln)
  rw [eb] at bl
  have bg := bg_ok (N := N) (by omega) C1
  have ie := ie_ok (N := N) (b := 0) (v := sk_c (sk_wc (sk_wc s (X + 3) 2 0) (X + 3) 4 (nI (W 12))) (X + 1) 2) C1 hq0
  have hu : md_readAll N c 1 = (if rne isB (c 6) ln 0 = ln then some (pq (cB c) (rne isB (c 6) ln 0) (rne isB (c 6) ln 0), 0) else md_readAll_L28 N (fun q11 x12 x13 => (some (q11, (-1)))) N (pq (cB c) (rne isB (c 6) ln 0) (rne isB (c 6) ln 0)) 1 0) := by
    unfold md_readAll
    simp only [zq_letP]
    show (md_blanks N (cB c)).bind _ = _
    rw [bl]
    simp only [zq_bindP]
    have ze : (nI (rne isB (c 6) ln 0) = nI ln) = (rne isB (c 6) ln 0 = ln) := zq_eq (by omega) (by omega)
    rw [pq_10, tR_11 C']
    by_cases e : rne isB (c 6) ln 0 = ln
    · rw [if_pos (by rw [ze]; exact e), if_pos e]
    · rw [if_neg (by rw [ze]; exact e), if_neg e]
  have hc : x0_reads N s (X + 3) (X + 1) (nI (W 12)) = if rne isB (c 6) ln 0 = ln then some (tS (X + 1) (sk_wc (sk_wc s (X + 3) 2 0) (X + 3) 4 (nI (W 12))) (rne isB (c 6) ln 0) 0 (sk_c (sk_wc (sk_wc s (X + 3) 2 0) (X + 3) 4 (nI (W 12))) (X + 1) 2), 1) else x0_reads_L30 N (X + 3) (X + 1) (fun q25 x26 x27 x28 => ((x9_isEnded N q25 (X + 1)).bind (fun zz => (fun q30 x31 => (if (x31 = 0 ∨ x31 = 1) then (some (q30, x31)) else none)) zz.1 zz.2))) N (tS (X + 1) (sk_wc (sk_wc s (X + 3) 2 0) (X + 3) 4 (nI (W 12))) (rne isB (c 6) ln 0) 0 (sk_c (sk_wc (sk_wc s (X + 3) 2 0) (X + 3) 4 (nI (W 12))) (X + 1) 2)) (nI (W 12)) 1 0 := by
    unfold x0_reads
    simp only [zq_letP]
    rw [if_pos l0, if_pos l9, bg]
    simp only [zq_bindP]
    rw [ie]
    simp only [zq_bindP]
    by_cases e : rne isB (c 6) ln 0 = ln
    · rw [if_neg (show ¬ rne isB (c 6) ln 0 < ln by omega), if_neg (by decide), if_pos e]
      obtain ⟨M, rfl⟩ : ∃ M, N = M + 1 := ⟨N - 1, by omega⟩
      simp only [x0_reads_L30]
      rw [if_neg (by decide), if_pos trivial, ie]
      simp only [zq_bindP]
      rw [if_neg (show ¬ rne isB (c 6) ln 0 < ln by omega), if_pos (.inr rfl)]
    · rw [if_pos (show rne isB (c 6) ln 0 < ln by omega), if_pos rfl, if_neg e]
  rw [hu, hc]
  by_cases e : rne isB (c 6) ln 0 = ln
  · right
    rw [if_pos e, if_pos e]
    exact ⟨_, _, 0, rfl, rfl, by omega, _, _, _, _, _, _, _, rfl, rfl, hq0, rne_idem, I0⟩
  · rw [if_neg e, if_neg e]
    exact lines_loop (N := N) (by omega) C C' l0 14 0 N N _ _ _ _ 0 _ _ (by omega) (by omega) (by omega) I0 hq0 rne_idem
end
