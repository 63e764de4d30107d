/-! A ROW MORE IN THE LOG; draws -/
theorem dr_low (y : Int32) : y.toBitVec.toNat % 32768 = (y.toInt % 32768).toNat := by
  have h : y.toInt = if 2 * y.toBitVec.toNat < 2 ^ 32 then (y.toBitVec.toNat : Int) else (y.toBitVec.toNat : Int) - (2 ^ 32 : Nat) := BitVec.toInt_eq_toNat_cond y.toBitVec
  split at h <;> omega
/-- the two ways of taking bits 16 to 30 -/
theorem dr_eq (x : Int32) : (Int32.toUInt32 x >>> (Int32.toUInt32 16 &&& Int32.toUInt32 31)).toInt32 &&& 32767 = (x >>> ((16 : Int32) &&& 31)) &&& 32767 := by
  rw [pk_and _ (m := 32767) 15 (by decide), pk_and _ (m := 32767) 15 (by decide)]
  congr 1
  have h1 := pk_ushr x 16 16 (by decide)
  have h2 := pk_shr x ((16 : Int32) &&& 31) 16 (by decide)
  have h3 := dr_low (x >>> ((16 : Int32) &&& 31))
  have h : x.toInt = if 2 * x.toBitVec.toNat < 2 ^ 32 then (x.toBitVec.toNat : Int) else (x.toBitVec.toNat : Int) - (2 ^ 32 : Nat) := BitVec.toInt_eq_toNat_cond x.toBitVec
  have hlt := x.toBitVec.isLt
  rw [h1]
  rw [show (2 : Nat) ^ 15 = 32768 from rfl, h3, h2, Int.shiftRight_eq_div_pow]
  split at h <;> omega
def drN (x : Int32) : Nat := (x.toBitVec.toNat / 65536) % 32768
theorem dr_nat (x : Int32) : (x >>> ((16 : Int32) &&& 31)) &&& 32767 = nI (drN x) := by
  rw [← dr_eq, pk_and _ (m := 32767) 15 (by decide), pk_ushr x 16 16 (by decide)]
  rfl
theorem drN_lt (x : Int32) : drN x < 32768 := Nat.mod_lt _ (by decide)
def lcg (x : Int32) : Int32 := 1103515245 * x + 12345
/-- the world with a row more in the log -/
def lgW (W : Nat → Nat) (mi mv lg : Nat) (k : Nat) : Nat := if k = 15 then min 60 (W 15 + 1) else if k = 249 then mi else if k = 250 then mv else if k = 251 then lg else if k = 252 then W 0 else if k = 253 then W 1 else if 254 ≤ k ∧ k < 549 then W (k - 5) else W k
section
variable {N X j : Nat} {s s' : sk_S} {c c' : Nat → Nat → Int32} {W W' : Nat → Nat} {sd sd' : Int32} {m m' : lwM} {sb : Nat} {mi mv lg : Nat}
theorem lgW_lo {k : Nat} (h : k ≠ 15) (hk : k < 249) : lgW W mi mv lg k = W k := by unfold lgW; rw [if_neg h, if_neg (by omega), if_neg (by omega), if_neg (by omega), if_neg (by omega), if_neg (by omega), if_neg (by omega)]
theorem lgW_hi {k : Nat} (h1 : 254 ≤ k) (h2 : k < 549) : lgW W mi mv lg k = W (k - 5) := by unfold lgW; rw [if_neg (by omega), if_neg (by omega), if_neg (by omega), if_neg (by omega), if_neg (by omega), if_neg (by omega), if_pos ⟨h1, h2⟩]
theorem lgW_wd (h : wd W) (h1 : mi ≤ 9999) (h2 : mv ≤ 7) (h3 : lg ≤ 2) : wd (lgW W mi mv lg) := by
  obtain ⟨⟨b0, b1, b2, b3, b4, b5, b6, b7, b8, b9, b10, b11, b12, b13, b14, b15⟩, a, b, d, e⟩ := h
  refine ⟨⟨?_, ?_, ?_, ?_, ?_, ?_, ?_, ?_, ?_, ?_, ?_, ?_, ?_, ?_, ?_, ?_⟩, fun q hq => ?_, fun q hq => ?_, fun q hq => ?_, fun q hq => ?_⟩
  · rw [lgW_lo (by decide) (by decide)]; exact b0
  · rw [lgW_lo (by decide) (by decide)]; exact b1
  · rw [lgW_lo (by decide) (by decide)]; exact b2
  · rw [lgW_lo (by decide) (by decide)]; exact b3
  · rw [lgW_lo (by decide) (by decide)]; exact b4
  · rw [lgW_lo (by decide) (by decide)]; exact b5
  · rw [lgW_lo (by decide) (by decide)]; exact b6
  · rw [lgW_lo (by decide) (by decide)]; exact b7
  · rw [lgW_lo (by decide) (by decide)]; exact b8
  · rw [lgW_lo (by decide) (by decide)]; exact b9
  · rw [lgW_lo (by decide) (by decide)]; exact b10
  · rw [lgW_lo (by decide) (by decide)]; exact b11
  · rw [lgW_lo (by decide) (by decide)]; exact b12
  · rw [lgW_lo (by decide) (by decide)]; exact b13
  · rw [lgW_lo (by decide) (by decide)]; exact b14
  · show min 60 (W 15 + 1) ≤ 60; omega
  · rw [lgW_lo (by omega) (by omega), lgW_lo (by omega) (by omega), lgW_lo (by omega) (by omega), lgW_lo (by omega) (by omega)]; exact a q hq
  · rw [lgW_lo (by omega) (by omega), lgW_lo (by omega) (by omega), lgW_lo (by omega) (by omega)]; exact b q hq
  · rw [lgW_lo (by omega) (by omega), lgW_lo (by omega) (by omega), lgW_lo (k := 12) (by omega) (by omega)]; exact d q hq
  · by_cases h0 : q = 0
    · subst h0
      exact ⟨h1, h2, h3, b0, b1⟩
    · have := e (q - 1) (by omega)
      rw [lgW_hi (by omega) (by omega), lgW_hi (by omega) (by omega), lgW_hi (by omega) (by omega), lgW_hi (by omega) (by omega), lgW_hi (by omega) (by omega)]
      rw [show 249 + 5 * q - 5 = 249 + 5 * (q - 1) by omega, show 250 + 5 * q - 5 = 250 + 5 * (q - 1) by omega, show 251 + 5 * q - 5 = 251 + 5 * (q - 1) by omega, show 252 + 5 * q - 5 = 252 + 5 * (q - 1) by omega, show 253 + 5 * q - 5 = 253 + 5 * (q - 1) by omega]
      exact this
theorem tl_loop {k : (Nat → Nat → Int32) → Int32 → Int32 → Int32 → Int32 → Option ((Nat → Nat → Int32) × Int32)} {p1 p2 p3 : Int32} {c0 : Nat → Nat → Int32} : ∀ (r fuel : Nat) (c : Nat → Nat → Int32), r < fuel → r + 4 ≤ 299 → onl 1 c0 c → (∀ q, q ≤ 249 + (r + 4) → c 1 q = c0 1 q) → (∀ q, 249 + (r + 4) < q → q < 549 → c 1 q = c0 1 (q - 5)) → (∀ q, 549 ≤ q → c 1 q = c0 1 q) → ∃ c', md_tells_L5 N k fuel c p1 p2 p3 (nI (r + 4)) = k c' p1 p2 p3 4 ∧ onl 1 c0 c' ∧ (∀ q, q ≤ 253 → c' 1 q = c0 1 q) ∧ (∀ q, 253 < q → q < 549 → c' 1 q = c0 1 (q - 5)) ∧ ∀ q, 549 ≤ q → c' 1 q = c0 1 q := by
  intro r
  induction r with
  | zero =>
    intro fuel c hf hr hc h1 h2 h3
    obtain ⟨fuel, rfl⟩ : ∃ q, fuel = q + 1 := ⟨fuel - 1, by omega⟩
    simp only [md_tells_L5]
    rw [if_pos (by decide)]
    exact ⟨c, rfl, hc, h1, h2, h3⟩
  | succ r ih =>
    intro fuel c hf hr hc h1 h2 h3
    obtain ⟨fuel, rfl⟩ : ∃ q, fuel = q + 1 := ⟨fuel - 1, by omega⟩
    have e1 : (249 : Int32) + nI (r + 1 + 4) = nI (249 + (r + 1 + 4)) := nI_add 249 _
    have e2 : nI (249 + (r + 1 + 4)) - 5 = nI (249 + r) := by
      have := pk_sub (a := 249 + (r + 1 + 4)) (b := 5) (by omega)
      rw [show 249 + (r + 1 + 4) - 5 = 249 + r by omega] at this
      exact this
    have e3 : nI (r + 1 + 4) + (-1) = nI (r + 4) := by rw [show r + 1 + 4 = (r + 4) + 1 by omega, pk_m1]
    simp only [md_tells_L5, zq_letP]
    rw [if_neg (by show ¬ nI (r + 1 + 4) < nI 5; rw [zq_lt (by omega) (by decide)]; omega), e1, e2, if_pos (zq_inBt (show 249 + r < 2247 by omega) (by decide)), if_pos (zq_inBt (show 249 + (r + 1 + 4) < 2247 by omega) (by decide)), zq_cl (n := 249 + r) (by omega), zq_cl (n := 249 + (r + 1 + 4)) (by omega), e3]
    refine ih fuel _ (by omega) (by omega) (hc.w _ _) (fun q hq => ?_) (fun q hq hq2 => ?_) (fun q hq => ?_)
    · rw [bk_w_at (by omega)]; exact h1 q (by omega)
    · by_cases e : q = 249 + (r + 1 + 4)
      · subst e; rw [bk_w_same, h1 _ (by omega)]; congr 1
      · rw [bk_w_at e]; exact h2 q (by omega) hq2
    · rw [bk_w_at (by omega)]; exact h3 q hq
theorem tl_ref (hN : 1000 ≤ N) (w : wv (c 1) W sd) (h15 : W 15 ≤ 60) : ∃ c', md_tells N c (nI mi) (nI mv) (nI lg) = some (c', 0) ∧ onl 1 c c' ∧ wv (c' 1) (lgW W mi mv lg) sd ∧ ∀ q, 549 ≤ q → c' 1 q = c 1 q := by
  obtain ⟨c1, a1, a2, a3, a4, a5⟩ := tl_loop (N := N) (k := fun q2 x3 x4 x5 x6 => (ky_let (bk_w q2 1 249 x3) (fun q8 => (ky_let (bk_w q8 1 250 x4) (fun q10 => (ky_let (bk_w q10 1 251 x5) (fun q12 => (ky_let (q12 1 0) (fun x13 => (ky_let (bk_w q12 1 252 x13) (fun q15 => (ky_let (q15 1 1) (fun x16 => (ky_let (bk_w q15 1 253 x16) (fun q18 => (ky_let (mt_min 60 ((q18 1 15) + 1)) (fun x19 => (ky_let (bk_w q18 1 15 x19) (fun q21 => (some (q21, 0))))))))))))))))))))) (p1 := nI mi) (p2 := nI mv) (p3 := nI lg) (c0 := c) 295 N c (by omega) (by omega) onl.rf (fun _ _ => rfl) (fun q h1 h2 => by omega) (fun _ _ => rfl)
  have w0 : c1 1 0 = nI (W 0) := (a3 0 (by omega)).trans (wv_n w (by decide) (by decide))
  have w1 : c1 1 1 = nI (W 1) := (a3 1 (by omega)).trans (wv_n w (by decide) (by decide))
  have w15 : c1 1 15 = nI (W 15) := (a3 15 (by omega)).trans (wv_n w (by decide) (by decide))
  have m60 : mt_min 60 (nI (W 15) + 1) = nI (min 60 (W 15 + 1)) := by rw [nI_1]; exact zq_min (x := 60) (by decide) (by omega)
  refine ⟨bk_w (bk_w (bk_w (bk_w (bk_w (bk_w c1 1 249 (nI mi)) 1 250 (nI mv)) 1 251 (nI lg)) 1 252 (nI (W 0))) 1 253 (nI (W 1))) 1 15 (nI (min 60 (W 15 + 1))), ?_, (((((a2.w _ _).w _ _).w _ _).w _ _).w _ _).w _ _, ⟨fun q hq h16 => ?_, ?_⟩, fun q hq => ?_⟩
  · unfold md_tells
    rw [show (299 : Int32) = nI (295 + 4) from rfl, a1]
    simp only [zq_letP]
    have z0 : (bk_w (bk_w (bk_w c1 1 249 (nI mi)) 1 250 (nI mv)) 1 251 (nI lg)) 1 0 = nI (W 0) := by rw [bk_w_at (by decide), bk_w_at (by decide), bk_w_at (by decide)]; exact w0
    rw [z0]
    have z1 : (bk_w (bk_w (bk_w (bk_w c1 1 249 (nI mi)) 1 250 (nI mv)) 1 251 (nI lg)) 1 252 (nI (W 0))) 1 1 = nI (W 1) := by rw [bk_w_at (by decide), bk_w_at (by decide), bk_w_at (by decide), bk_w_at (by decide)]; exact w1
    rw [z1]
    have z15 : (bk_w (bk_w (bk_w (bk_w (bk_w c1 1 249 (nI mi)) 1 250 (nI mv)) 1 251 (nI lg)) 1 252 (nI (W 0))) 1 253 (nI (W 1))) 1 15 = nI (W 15) := by rw [bk_w_at (by decide), bk_w_at (by decide), bk_w_at (by decide), bk_w_at (by decide), bk_w_at (by decide)]; exact w15
    rw [z15, m60]
  · unfold lgW
    by_cases e15 : q = 15
    · subst e15; rw [bk_w_same, if_pos rfl]
    rw [bk_w_at e15, if_neg e15]
    by_cases e249 : q = 249
    · subst e249; rw [bk_w_at (by decide), bk_w_at (by decide), bk_w_at (by decide), bk_w_at (by decide), bk_w_same, if_pos rfl]
    rw [if_neg e249]
    by_cases e250 : q = 250
    · subst e250; rw [bk_w_at (by decide), bk_w_at (by decide), bk_w_at (by decide), bk_w_same, if_pos rfl]
    rw [if_neg e250]
    by_cases e251 : q = 251
    · subst e251; rw [bk_w_at (by decide), bk_w_at (by decide), bk_w_same, if_pos rfl]
    rw [if_neg e251]
    by_cases e252 : q = 252
    · subst e252; rw [bk_w_at (by decide), bk_w_same, if_pos rfl]
    rw [if_neg e252]
    by_cases e253 : q = 253
    · subst e253; rw [bk_w_same, if_pos rfl]
    rw [if_neg e253, bk_w_at e253, bk_w_at e252, bk_w_at e251, bk_w_at e250, bk_w_at e249]
    by_cases hh : 254 ≤ q ∧ q < 549
    · rw [if_pos hh, a4 q (by omega) hh.2]; exact wv_n w (by omega) (by omega)
    · rw [if_neg hh, a3 q (by omega)]; exact wv_n w hq h16
  · rw [bk_w_at (by decide), bk_w_at (by decide), bk_w_at (by decide), bk_w_at (by decide), bk_w_at (by decide), bk_w_at (by decide), a3 16 (by decide)]; exact w.2
  · rw [bk_w_at (by omega), bk_w_at (by omega), bk_w_at (by omega), bk_w_at (by omega), bk_w_at (by omega), bk_w_at (by omega)]; exact a5 q hq
/-- the class's row -/
theorem rowP {mi mv lg a b : Nat} (h1 : mi ≤ 9999) (h2 : mv ≤ 7) (h3 : lg ≤ 2) (h4 : a ≤ 9) (h5 : b ≤ 9) : ((((nI mi <<< ((13 : Int32) &&& 31)) ||| (nI mv <<< ((10 : Int32) &&& 31))) ||| (nI lg <<< ((8 : Int32) &&& 31))) ||| (nI a <<< ((4 : Int32) &&& 31))) ||| nI b = nI (mi * 8192 + mv * 1024 + lg * 256 + a * 16 + b) := by
  rw [pk_shlN (n := mi) ((13 : Int32) &&& 31) 13 (by decide) (by omega), pk_shlN (n := mv) ((10 : Int32) &&& 31) 10 (by decide) (by omega), pk_shlN (n := lg) ((8 : Int32) &&& 31) 8 (by decide) (by omega), pk_shlN (n := a) ((4 : Int32) &&& 31) 4 (by decide) (by omega)]
  have e1 : nI (mi * 2 ^ 13) ||| nI (mv * 2 ^ 10) = nI (2 ^ 10 * (8 * mi + mv)) := by
    rw [show mi * 2 ^ 13 = 2 ^ 13 * mi by omega, fa_or_sum (k := 13) mi (by omega)]; congr 1; omega
  have e2 : nI (2 ^ 10 * (8 * mi + mv)) ||| nI (lg * 2 ^ 8) = nI (2 ^ 8 * (4 * (8 * mi + mv) + lg)) := by
    rw [fa_or_sum (k := 10) _ (by omega)]; congr 1; omega
  have e3 : nI (2 ^ 8 * (4 * (8 * mi + mv) + lg)) ||| nI (a * 2 ^ 4) = nI (2 ^ 4 * (16 * (4 * (8 * mi + mv) + lg) + a)) := by
    rw [fa_or_sum (k := 8) _ (by omega)]; congr 1; omega
  rw [e1, e2, e3, fa_or_sum (k := 4) _ (by omega)]
  congr 1; omega
theorem tl_cls {p : Nat} (S : sc_rel s p W sd) (h1 : mi ≤ 9999) (h2 : mv ≤ 7) (h3 : lg ≤ 2) : ∃ s', x2_add N s (p + 8) (nI mi) (nI mv) (nI lg) (nI (psN W)) = some (s', 0) ∧ cfr (fun b k => b = p + 9 ∨ (b = p + 8 ∧ 1 ≤ k)) s s' ∧ sc_rel s' p (lgW W mi mv lg) sd := by
  obtain ⟨l7, hw, b1, b3, b5, b4, b6, ⟨nx, n1, n2, n3, n4⟩, b13⟩ := S
  have hps := psN_lt hw
  obtain ⟨u0, u1, -, -⟩ := psN_un hw
  have h0 := hw.1.1
  have h01 := hw.1.2.1
  have h15 := hw.1.2.2.2.2.2.2.2.2.2.2.2.2.2.2.2
  have hrow := rowP (a := W 0) (b := W 1) h1 h2 h3 h0 h01
  have m60 : mt_min 60 (nI (W 15) + 1) = nI (min 60 (W 15 + 1)) := by rw [nI_1]; exact zq_min (x := 60) (by decide) (by omega)
  have main : x2_add N s (p + 8) (nI mi) (nI mv) (nI lg) (nI (psN W)) = some (sk_wc (sk_wc (sk_wc s (p + 9) nx (nI (mi * 8192 + mv * 1024 + lg * 256 + W 0 * 16 + W 1))) (p + 8) 1 (nI ((nx + 1) % 60))) (p + 8) 2 (nI (min 60 (W 15 + 1))), 0) := by
    have z1 : ∀ v, sk_c (sk_wc s (p + 9) nx v) (p + 8) 1 = nI nx := fun v => by rw [qc_ne (by omega)]; exact n2
    have z2 : ∀ v w, sk_c (sk_wc (sk_wc s (p + 9) nx v) (p + 8) 1 w) (p + 8) 2 = nI (W 15) := fun v w => by rw [qc_at _ _ _ _ _ _ (by omega), qc_ne (by omega)]; exact n3
    unfold x2_add
    simp only [zq_letP]
    rw [if_pos (ly_X7_l3 l7), po_d0N hps, po_d1N hps, u0, u1, hrow, n2, if_pos (zq_inBt n1 (by decide)), zq_cl (by omega), show p + 8 + 1 = p + 9 by omega, z1, nI_1]
    by_cases h : nx = 59
    · subst h
      rw [if_pos (by decide), z2, m60]
      rfl
    · rw [if_neg (by show ¬ nI 60 ≤ nI (nx + 1); rw [zq_le (by decide) (by omega)]; omega), z2, m60, Nat.mod_eq_of_lt (by omega)]
  generalize e2 : sk_wc (sk_wc (sk_wc s (p + 9) nx (nI (mi * 8192 + mv * 1024 + lg * 256 + W 0 * 16 + W 1))) (p + 8) 1 (nI ((nx + 1) % 60))) (p + 8) 2 (nI (min 60 (W 15 + 1))) = s2 at main
  have F : cfr (fun b k => b = p + 9 ∨ (b = p + 8 ∧ 1 ≤ k)) s s2 := by
    rw [← e2]
    exact (((cfr.rf (V := fun b k => b = p + 9 ∨ (b = p + 8 ∧ 1 ≤ k))).wc _ (.inl rfl)).wc _ (.inr ⟨rfl, by decide⟩)).wc _ (.inr ⟨rfl, by decide⟩)
  have cc : ∀ b k, b ≠ p + 8 → b ≠ p + 9 → sk_c s2 b k = sk_c s b k := fun b k hb1 hb2 => F.2.2.2.2.2 b k (by omega)
  have c9 : ∀ k, sk_c s2 (p + 9) k = if k = nx then nI (mi * 8192 + mv * 1024 + lg * 256 + W 0 * 16 + W 1) else sk_c s (p + 9) k := fun k => by
    rw [← e2, qc_ne (by omega), qc_ne (by omega), qc_eq]
    by_cases e : k = nx
    · subst e; rw [pk_us, if_pos rfl]
    · rw [pk_un e, if_neg e]
  refine ⟨s2, main, F, ⟨by rw [F.1, F.2.2.1]; exact l7, lgW_wd hw h1 h2 h3, ?_, fun q hq => ?_, fun q hq => ?_, ?_, fun q hq => ?_, ⟨(nx + 1) % 60, Nat.mod_lt _ (by decide), ?_, ?_, fun a ha => ?_⟩, ?_⟩⟩
  · have ep : psN (lgW W mi mv lg) = psN W := by
      unfold psN
      rw [lgW_lo (by decide) (by decide), lgW_lo (by decide) (by decide), lgW_lo (by decide) (by decide), lgW_lo (by decide) (by decide)]
    rw [cc _ _ (by omega) (by omega), cc _ _ (by omega) (by omega), cc _ _ (by omega) (by omega), cc _ _ (by omega) (by omega), cc _ _ (by omega) (by omega), cc _ _ (by omega) (by omega), cc _ _ (by omega) (by omega), cc _ _ (by omega) (by omega), ep, lgW_lo (by decide) (by decide), lgW_lo (by decide) (by decide), lgW_lo (by decide) (by decide), lgW_lo (by decide) (by decide), lgW_lo (by decide) (by decide), lgW_lo (by decide) (by decide)]
    exact b1
  · rw [cc _ _ (by omega) (by omega), lgW_lo (by omega) (by omega)]; exact b3 q hq
  · rw [cc _ _ (by omega) (by omega), F.2.1, lgW_lo (by omega) (by omega), lgW_lo (by omega) (by omega), lgW_lo (by omega) (by omega)]; exact b5 q hq
  · rw [cc _ _ (by omega) (by omega), cc _ _ (by omega) (by omega), cc _ _ (by omega) (by omega), lgW_lo (by decide) (by decide), lgW_lo (by decide) (by decide), lgW_lo (by decide) (by decide)]; exact b4
  · have h12 := hw.1.2.2.2.2.2.2.2.2.2.2.2.2.1
    rw [lgW_lo (by decide) (by decide)] at hq
    rw [cc _ _ (by omega) (by omega), cc _ _ (by omega) (by omega), lgW_lo (by omega) (by omega), lgW_lo (by omega) (by omega)]; exact b6 q hq
  · rw [← e2, qc_at _ _ _ _ _ _ (by omega), qc_eq, pk_us]
  · rw [← e2, qc_eq, pk_us]; rfl
  · have ha' : a < min 60 (W 15 + 1) := ha
    rw [c9]
    by_cases h0 : a = 0
    · subst h0
      rw [if_pos (by omega)]
      rfl
    · rw [if_neg (by omega)]
      have : ((nx + 1) % 60 + 59 - a) % 60 = (nx + 59 - (a - 1)) % 60 := by omega
      rw [this, n4 (a - 1) (by omega)]
      unfold rowN
      rw [lgW_hi (by omega) (by omega), lgW_hi (by omega) (by omega), lgW_hi (by omega) (by omega), lgW_hi (by omega) (by omega), lgW_hi (by omega) (by omega)]
      rw [show 249 + 5 * a - 5 = 249 + 5 * (a - 1) by omega, show 250 + 5 * a - 5 = 250 + 5 * (a - 1) by omega, show 251 + 5 * a - 5 = 251 + 5 * (a - 1) by omega, show 252 + 5 * a - 5 = 252 + 5 * (a - 1) by omega, show 253 + 5 * a - 5 = 253 + 5 * (a - 1) by omega]
  · rw [cc _ _ (by omega) (by omega), lgW_lo (by decide) (by decide)]; exact b13
end
