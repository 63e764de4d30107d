/-! THE CLASS'S LAW: code by its meaning; the class's move by numbers -/
theorem nt_xor1 (b : Nat) : b ^^^ 1 = if b % 2 = 1 then b - 1 else b + 1 := by
  have h1 : (b ^^^ 1) / 2 = b / 2 := by rw [Nat.xor_div_two]; simp
  have h2 : (b ^^^ 1) % 2 = 1 ↔ ¬ (b % 2 = 1 ↔ 1 % 2 = 1) := Nat.xor_mod_two_eq_one
  by_cases h : b % 2 = 1
  · rw [if_pos h]
    have : ¬ (b ^^^ 1) % 2 = 1 := by rw [h2]; simp [h]
    omega
  · rw [if_neg h]
    have : (b ^^^ 1) % 2 = 1 := by rw [h2]; simp [h]
    omega
theorem nt_or1 (b : Nat) : b ||| 1 = 2 * (b / 2) + 1 := by
  have h1 : (b ||| 1) / 2 = b / 2 := by rw [Nat.or_div_two]; simp
  have h2 : (b ||| 1) % 2 = 1 := by rw [Nat.or_mod_two_eq_one]; simp
  omega
theorem nt_andm2 {n : Nat} (hn : n < 2147483648) : nI n &&& (-2) = nI (2 * (n / 2)) := by
  show nI n &&& nI 4294967294 = _
  rw [fa_and]
  congr 1
  have h1 : (n &&& 4294967294) / 2 = n / 2 := by
    rw [Nat.and_div_two, show (4294967294 : Nat) / 2 = 2 ^ 31 - 1 from rfl, Nat.and_two_pow_sub_one_eq_mod]
    omega
  have h2 : ¬ (n &&& 4294967294) % 2 = 1 := by rw [Nat.and_mod_two_eq_one]; simp
  omega
theorem nt_andm1 (x : Int32) : x &&& (-1) = x := by
  have : (-1 : Int32) = ~~~ 0 := by decide
  rw [this, Int32.not_zero, Int32.and_neg_one]
theorem cd_at_le {cd : Nat → Int32} : ∀ {n i t : Nat}, cd_at cd n i t → i ≤ t := by
  intro n
  induction n with
  | zero => intro i t h; exact Nat.le_of_eq h
  | succ n ih => intro i t h; exact Nat.le_of_lt h.1
section
variable {N a : Nat} {s : sk_S} {e : Nat → Nat}
def cl_env (s : sk_S) (a : Nat) (e : Nat → Nat) : Prop := (∀ i, i < 6 → sk_c s (a + 5) i = nI (e i)) ∧ sk_c s a 6 = nI (e 6)
theorem ofI_nI (n : Nat) : Int32.ofInt (n : Int) = nI n := by
  unfold nI
  rw [← Int32.toInt_inj, Int32.toInt_ofInt, Int32.toInt_ofNat']
theorem cl_lessL {k : sk_S → Int32 → Int32 → Int32 → Int32 → Int32 → Int32 → Int32 → Int32 → Int32 → Option (sk_S × Int32)} {p1 p2 p3 p4 p5 p6 : Int32} {i q : Nat} (E : cl_env s a e) (hU : (sk_K s (a + 4)).2 ≤ 400) (hi : i + 3 + 2 * q ≤ (sk_K s (a + 4)).2) (hf : ∀ j, j < q → ∃ f, f ≤ 5 ∧ sk_c s (a + 4) (i + 3 + 2 * j) = nI f) :
    ∀ (r fuel j : Nat), j + r = q → r < fuel → x3_holds_L103 N a k fuel s p1 p2 p3 p4 p5 p6 (nI (i + 3 + 2 * q)) (Int32.ofInt (cd_sum (sk_c s (a + 4)) e i j)) (nI (i + 3 + 2 * j)) = k s p1 p2 p3 p4 p5 p6 (nI (i + 3 + 2 * q)) (Int32.ofInt (cd_sum (sk_c s (a + 4)) e i q)) (nI (i + 3 + 2 * q)) := by
  intro r
  induction r with
  | zero =>
    intro fuel j hj hf
    obtain ⟨fuel, rfl⟩ : ∃ q, fuel = q + 1 := ⟨fuel - 1, by omega⟩
    have : j = q := by omega
    subst this
    simp only [x3_holds_L103]
    rw [if_pos (by rw [zq_le (by omega) (by omega)]; omega)]
  | succ r ih =>
    intro fuel j hj hfu
    obtain ⟨fuel, rfl⟩ : ∃ q, fuel = q + 1 := ⟨fuel - 1, by omega⟩
    obtain ⟨f, hf5, hfe⟩ := hf j (by omega)
    simp only [x3_holds_L103, zq_let]
    rw [if_neg (by rw [zq_le (by omega) (by omega)]; omega), nI_1, if_pos (zq_inBt (by omega) (by omega)), if_pos (zq_inBt (by omega) (by omega)), zq_cl (n := i + 3 + 2 * j) (by omega), zq_cl (n := i + 3 + 2 * j + 1) (by omega), hfe, if_pos (zq_inBt (by omega) (by decide)), zq_cl (n := f) (by omega), E.1 f (by omega)]
    have e1 : nI (i + 3 + 2 * j) + 2 = nI (i + 3 + 2 * (j + 1)) := by
      show nI _ + nI 2 = _
      rw [nI_add]; congr 1
    have e2 : Int32.ofInt (cd_sum (sk_c s (a + 4)) e i j) + sk_c s (a + 4) (i + 3 + 2 * j + 1) * nI (e f) = Int32.ofInt (cd_sum (sk_c s (a + 4)) e i (j + 1)) := by
      simp only [cd_sum]
      rw [hfe, zq_cl (n := f) (by omega), Int32.ofInt_add, Int32.ofInt_mul, Int32.ofInt_toInt, ofI_nI]
    rw [e1, e2]
    exact ih fuel (j + 1) (by omega) (by omega)
theorem cd_sum_le {cd : Nat → Int32} {i : Nat} (hs : lw_sml e) (h0 : -400000 ≤ (cd (i + 1)).toInt ∧ (cd (i + 1)).toInt ≤ 400000) : ∀ (q : Nat), q ≤ 6 → (∀ j, j < q → (∃ f, f ≤ 5 ∧ cd (i + 3 + 2 * j) = nI f) ∧ -400 ≤ (cd (i + 3 + 2 * j + 1)).toInt ∧ (cd (i + 3 + 2 * j + 1)).toInt ≤ 400) → -400000 - 3600 * (q : Int) ≤ cd_sum cd e i q ∧ cd_sum cd e i q ≤ 400000 + 3600 * (q : Int) := by
  intro q
  induction q with
  | zero => intro _ _; simp only [cd_sum]; omega
  | succ q ih =>
    intro hq h
    have h1 := ih (by omega) (fun j hj => h j (by omega))
    obtain ⟨⟨f, hf, hfe⟩, g1, g2⟩ := h q (by omega)
    have he : e f ≤ 9 := by
      obtain ⟨a0, a1, a2, a3, a4, a5, a6⟩ := hs
      have : f = 0 ∨ f = 1 ∨ f = 2 ∨ f = 3 ∨ f = 4 ∨ f = 5 := by omega
      rcases this with rfl | rfl | rfl | rfl | rfl | rfl <;> omega
    simp only [cd_sum]
    rw [hfe, zq_cl (n := f) (by omega)]
    generalize (cd (i + 3 + 2 * q + 1)).toInt = z at g1 g2
    have b1 : z * (e f : Int) ≤ 400 * 9 := by
      have : z * (e f : Int) ≤ 400 * (e f : Int) := Int.mul_le_mul_of_nonneg_right g2 (by omega)
      omega
    have b2 : -(400 * 9) ≤ z * (e f : Int) := by
      have : -400 * (e f : Int) ≤ z * (e f : Int) := Int.mul_le_mul_of_nonneg_right g1 (by omega)
      omega
    omega
set_option maxRecDepth 20000 in
set_option maxHeartbeats 4000000 in
theorem cl_loop {k : sk_S → Int32 → Int32 → Int32 → Int32 → Int32 → Option (sk_S × Int32)} {p1 : Int32} {t : Nat} (hkc : ∀ q x1 x2 x3 x4 x5 x6, k q x1 x2 x3 x4 x5 = k q x1 x2 x3 x4 x6) (hN : 1000 ≤ N) (E : cl_env s a e) (hs : lw_sml e) (hU : (sk_K s (a + 4)).2 ≤ 400) (ht : t ≤ (sk_K s (a + 4)).2) :
    ∀ (n fuel i b c : Nat), n < fuel → c ≤ i → cd_at (sk_c s (a + 4)) n i t → cd_safe (sk_c s (a + 4)) e n i b → x3_holds_L15 N a k fuel s p1 (nI t) (nI b) (nI i) (nI c) = k s p1 (nI t) (nI (cd_run (sk_c s (a + 4)) e n i b)) (nI t) 0 := by
  intro n
  induction n with
  | zero =>
    intro fuel i b c hf hci hat _
    obtain ⟨fuel, rfl⟩ : ∃ q, fuel = q + 1 := ⟨fuel - 1, by omega⟩
    have : i = t := hat
    subst this
    simp only [x3_holds_L15]
    by_cases hc : nI i ≤ nI c
    · rw [if_pos hc]
      exact hkc _ _ _ _ _ _ _
    · rw [if_neg hc, if_pos (by rw [zq_le (by omega) (by omega)]; omega)]
      exact hkc _ _ _ _ _ _ _
  | succ n ih =>
    intro fuel i b c hf hci hat hsafe
    obtain ⟨fuel, rfl⟩ : ∃ q, fuel = q + 1 := ⟨fuel - 1, by omega⟩
    obtain ⟨hit, hat'⟩ := hat
    obtain ⟨⟨hb, hk, h0⟩, hrest⟩ := hsafe
    have hle := cd_at_le hat'
    have hl1 : 1 ≤ cd_len (sk_c s (a + 4)) i := by unfold cd_len; split <;> omega
    have next : ∀ (i2 : Int32) (b2 : Nat), i2 = nI (i + cd_len (sk_c s (a + 4)) i) → b2 = cd_step (sk_c s (a + 4)) e i b → x3_holds_L15 N a k fuel s p1 (nI t) (nI b2) i2 (nI c + 1) = k s p1 (nI t) (nI (cd_run (sk_c s (a + 4)) e (n + 1) i b)) (nI t) 0 := by
      intro i2 b2 q1 q2
      rw [q1, q2, show nI c + 1 = nI (c + 1) by rw [nI_1]]
      exact ih fuel _ _ _ (by omega) (by omega) hat' hrest
    have hand : nI b &&& 1 = nI (b % 2) := pk_andN (by omega) 1 (by decide)
    have hsh : nI b <<< ((1 : Int32) &&& 31) = nI (2 ^ 1 * b) := by rw [pk_shlN (n := b) ((1 : Int32) &&& 31) 1 (by decide) (by omega)]; congr 1; omega
    have hus : (Int32.toUInt32 (nI b) >>> (Int32.toUInt32 1 &&& Int32.toUInt32 31)).toInt32 = nI (b / 2) := by
      have := pk_ushrN (n := b) (by omega) 1 1 (by decide)
      rw [this]
    simp only [x3_holds_L15, zq_let]
    rw [if_neg (by rw [zq_le (by omega) (by omega)]; omega), if_neg (by rw [zq_le (by omega) (by omega)]; omega), if_pos (zq_inBt (show i < (sk_K s (a + 4)).2 by omega) (by omega)), zq_cl (n := i) (by omega)]
    by_cases c0 : sk_c s (a + 4) i = 0
    · obtain ⟨q, hq, hq2, hq3, hq4⟩ := h0 c0
      have hlen : cd_len (sk_c s (a + 4)) i = 3 + 2 * q := by
        unfold cd_len; rw [if_pos c0, hq2, zq_cl (n := q) (by omega)]
      rw [hlen] at hle next
      have e2 : nI i + 2 = nI (i + 2) := by show nI _ + nI 2 = _; rw [nI_add]
      have e3 : nI i + 3 = nI (i + 3) := by show nI _ + nI 3 = _; rw [nI_add]
      have e4 : nI (i + 3) + 2 * nI q = nI (i + 3 + 2 * q) := by show nI _ + nI 2 * nI q = _; rw [pk_mul, nI_add]
      rw [if_pos c0, e2, if_pos (zq_inBt (by omega) (by omega)), zq_cl (n := i + 2) (by omega), hq2, e3, e4, nI_1, if_pos (zq_inBt (by omega) (by omega)), zq_cl (n := i + 1) (by omega)]
      have hz : sk_c s (a + 4) (i + 1) = Int32.ofInt (cd_sum (sk_c s (a + 4)) e i 0) := by simp only [cd_sum]; rw [Int32.ofInt_toInt]
      have hst := cl_lessL (N := N) (k := fun q13 x14 x15 x16 x17 x18 x19 x20 x21 x22 => (if 0 ≤ x21 then x3_holds_L15 N a k fuel q13 x14 x15 ((x16 <<< ((1 : Int32) &&& 31)) ||| 0) (x20 - 1 + 1) (x18 + 1) else x3_holds_L15 N a k fuel q13 x14 x15 ((x16 <<< ((1 : Int32) &&& 31)) ||| 1) (x20 - 1 + 1) (x18 + 1))) (p1 := p1) (p2 := nI t) (p3 := nI b) (p4 := nI i) (p5 := nI c) (p6 := nI b &&& 1) E hU (by omega : i + 3 + 2 * q ≤ (sk_K s (a + 4)).2) (fun j hj => (hq4 j hj).1) q N 0 (by omega) (by omega)
      rw [← hz] at hst
      rw [show nI (i + 3) = nI (i + 3 + 2 * 0) from rfl, hst]
      have hb3 := cd_sum_le hs hq3 q hq hq4
      have hto : (Int32.ofInt (cd_sum (sk_c s (a + 4)) e i q)).toInt = cd_sum (sk_c s (a + 4)) e i q := fb_ofI (by omega) (by omega)
      have hstep : cd_step (sk_c s (a + 4)) e i b = 2 * b + (if cd_sum (sk_c s (a + 4)) e i q < 0 then 1 else 0) := by
        unfold cd_step; rw [if_pos c0, hq2, zq_cl (n := q) (by omega)]
      have e5 : nI (i + 3 + 2 * q) - 1 + 1 = nI (i + (3 + 2 * q)) := by
        rw [show i + 3 + 2 * q = (i + 2 + 2 * q) + 1 by omega, nI_pred, nI_1]; congr 1; omega
      rw [hsh]
      by_cases hneg : cd_sum (sk_c s (a + 4)) e i q < 0
      · rw [if_neg (by rw [fa_le, hto, show (0 : Int32).toInt = 0 from rfl]; omega), show (1 : Int32) = nI 1 from rfl, fa_or_sum (k := 1) b (by decide)]
        exact next _ _ e5 (by rw [hstep, if_pos hneg])
      · rw [if_pos (by rw [fa_le, hto, show (0 : Int32).toInt = 0 from rfl]; omega), show (0 : Int32) = nI 0 from rfl, fa_or_sum (k := 1) b (by decide)]
        exact next _ _ e5 (by rw [hstep, if_neg hneg])
    · have hlen : cd_len (sk_c s (a + 4)) i = 1 := by unfold cd_len; rw [if_neg c0]
      rw [hlen] at next
      rw [if_neg c0, show nI i + 1 = nI (i + 1) by rw [nI_1], hand]
      by_cases c1 : sk_c s (a + 4) i = 1
      · rw [if_pos c1, hsh, E.2, fa_or_sum (k := 1) b (by have := hs.2.2.2.2.2.2; omega)]
        exact next _ _ rfl (by unfold cd_step; rw [if_neg c0, if_pos c1])
      · rw [if_neg c1]
        by_cases c2 : sk_c s (a + 4) i = 2
        · rw [if_pos c2, show nI b ^^^ 1 = nI b ^^^ nI 1 from rfl, fb_xorI]
          exact next _ _ rfl (by unfold cd_step; rw [if_neg c0, if_neg c1, if_pos c2]; exact nt_xor1 b)
        · rw [if_neg c2]
          by_cases c3 : sk_c s (a + 4) i = 3
          · rw [if_pos c3, hus]
            by_cases hb2 : b % 2 = 1
            · rw [hb2, show nI 1 ||| (-2 : Int32) = -1 from by decide, nt_andm1]
              exact next _ _ rfl (by unfold cd_step; rw [if_neg c0, if_neg c1, if_neg c2, if_pos c3, if_pos hb2])
            · have : b % 2 = 0 := by omega
              rw [this, show nI 0 ||| (-2 : Int32) = -2 from by decide, nt_andm2 (by omega)]
              exact next _ _ rfl (by unfold cd_step; rw [if_neg c0, if_neg c1, if_neg c2, if_pos c3, if_neg hb2]; omega)
          · rw [if_neg c3, hus, fa_or]
            refine next _ _ rfl ?_
            unfold cd_step
            rw [if_neg c0, if_neg c1, if_neg c2, if_neg c3]
            by_cases hb2 : b % 2 = 1
            · rw [if_pos hb2, hb2, nt_or1]; omega
            · have : b % 2 = 0 := by omega
              rw [if_neg hb2, this, Nat.or_zero]
theorem cl_line {m : lwM} {n : Nat} (hN : 1000 ≤ N) (L : lwC s a m) (E : cl_env s a e) (hs : lw_sml e) (hn : n < m.1) : x3_holds N s a (sk_c s (a + 3) n) (sk_c s (a + 3) (n + 1)) = some (s, if m.2.2.2 n e = true then 1 else 0) := by
  obtain ⟨h1, h2, h3, h4, h5, h6, h7, h8, st, nt, g1, g2, g3, g4⟩ := L
  obtain ⟨k1, k2, k3, k4, k5, k6, k7⟩ := g4 n hn
  have u1 := g3 n (by omega)
  have u2 := g3 (n + 1) (by omega)
  have hle : st (n + 1) ≤ (sk_K s (a + 4)).2 := by
    have : ∀ r, n + 1 + r ≤ m.1 → st (n + 1) ≤ st (n + 1 + r) := by
      intro r
      induction r with
      | zero => intro _; exact Nat.le_refl _
      | succ r ih => intro h; exact Nat.le_trans (ih (by omega)) (g4 (n + 1 + r) (by omega)).2.2.2.2.1
    have := this (m.1 - (n + 1)) (by omega)
    rw [show n + 1 + (m.1 - (n + 1)) = m.1 by omega, g2] at this
    exact this
  unfold x3_holds
  rw [if_pos h1, u1.1, u2.1]
  rcases k7 with ⟨q1, q2⟩ | ⟨q1, q2⟩
  · rw [if_pos (by rw [q1]), if_pos (q2 e)]
  · rw [if_neg (by intro q; have := zq_inj (by omega) (by omega) q; omega)]
    have hnt : ∀ {q i t : Nat}, cd_at (sk_c s (a + 4)) q i t → q ≤ t := by
      intro q
      induction q with
      | zero => intro i t _; omega
      | succ q ih =>
        intro i t h
        have h1 := ih h.2
        have : ∀ {q i t : Nat}, cd_at (sk_c s (a + 4)) q i t → q + i ≤ t := by
          intro q
          induction q with
          | zero => intro i t h; have : i = t := h; omega
          | succ q ih =>
            intro i t h
            have := ih h.2
            have hl : 1 ≤ cd_len (sk_c s (a + 4)) i := by unfold cd_len; split <;> omega
            omega
        have := this h
        omega
    have := hnt k6
    have hl := cl_loop (N := N) (a := a) (k := fun q3 x4 x5 x6 x7 x8 => (if (x6 &&& 1) = (1 : Int32) then (some (q3, 1)) else (some (q3, 0)))) (p1 := nI (st n)) (t := st (n + 1)) (fun _ _ _ _ _ _ _ => rfl) hN E hs h7 hle (nt n) N (st n) 0 (st n) (by omega) (Nat.le_refl _) k6 (q2 e hs).1
    refine Eq.trans hl ?_
    rw [(q2 e hs).2]
    by_cases h : m.2.2.2 n e = true
    · rw [if_pos h, if_pos h]; rfl
    · rw [if_neg h, if_neg h]; rfl
/-- what the law writes -/
def lwV (q b k : Nat) : Prop := b = q + 5 ∨ (b = q ∧ 6 ≤ k)
theorem lwC_cfr {m : lwM} {s' : sk_S} (L : lwC s a m) (F : cfr (lwV a) s s') : lwC s' a m := by
  obtain ⟨g1, g2⟩ := L
  have cc : ∀ i, 1 ≤ i → i ≤ 4 → sk_c s' (a + i) = sk_c s (a + i) := fun i h1 h4 => funext fun k => F.2.2.2.2.2 _ _ (by unfold lwV; omega)
  refine ⟨by rw [F.1, F.2.2.1]; exact g1, ?_⟩
  rw [F.2.2.2.2.2 a 0 (by unfold lwV; omega), F.1, cc 1 (by decide) (by decide), cc 2 (by decide) (by decide), cc 3 (by decide) (by decide), cc 4 (by decide) (by decide)]
  exact g2
theorem cl_weighL {k : sk_S → Int32 → Int32 → Int32 → Int32 → Int32 → Int32 → Int32 → Option (sk_S × Int32)} {p1 p2 p3 p4 p5 p6 : Int32} {m : lwM} (hN : 1000 ≤ N) (hs : lw_sml e) :
    ∀ (r fuel n : Nat) (s : sk_S), n + r = m.1 → r < fuel → lwC s a m → cl_env s a e → sk_c s a 7 = nI (lw_sum m 0 e n) → sk_c s a 8 = nI (lw_sum m 1 e n) → sk_c s a 9 = nI (lw_sum m 2 e n) - nI (lw_sum m 3 e n) →
    ∃ s', x3_weigh_L74 N a k fuel s p1 p2 p3 p4 p5 p6 (nI n) = k s' p1 p2 p3 p4 p5 p6 (nI m.1) ∧ cfr (lwV a) s s' ∧ sk_c s' a 7 = nI (lw_S m 0 e) ∧ sk_c s' a 8 = nI (lw_S m 1 e) ∧ sk_c s' a 9 = nI (lw_S m 2 e) - nI (lw_S m 3 e) := by
  intro r
  induction r with
  | zero =>
    intro fuel n s hn hf L E a7 a8 a9
    obtain ⟨fuel, rfl⟩ : ∃ q, fuel = q + 1 := ⟨fuel - 1, by omega⟩
    have : n = m.1 := by omega
    subst this
    have h3 := L.2.2.1
    simp only [x3_weigh_L74]
    rw [L.2.1, if_pos (by rw [zq_le (by omega) (by omega)]; omega)]
    exact ⟨s, rfl, cfr.rf, a7, a8, a9⟩
  | succ r ih =>
    intro fuel n s hn hf L E a7 a8 a9
    obtain ⟨fuel, rfl⟩ : ∃ q, fuel = q + 1 := ⟨fuel - 1, by omega⟩
    have h3 := L.2.2.1
    have hl := cl_line hN L E hs (show n < m.1 by omega)
    obtain ⟨g1, g2, g3, g4, g5, g6, g7, g8, st, nt, u1, u2, u3, u4⟩ := id L
    obtain ⟨k1, k2, k3, k4, -⟩ := u4 n (by omega)
    simp only [x3_weigh_L74, zq_let]
    rw [g2, if_neg (by rw [zq_le (by omega) (by omega)]; omega), nI_1, g6, if_pos (zq_inBt (by omega) (by omega)), if_pos (zq_inBt (by omega) (by omega)), zq_cl (n := n) (by omega), zq_cl (n := n + 1) (by omega), hl]
    simp only [zq_bind]
    by_cases hh : m.2.2.2 n e = true
    · rw [if_pos hh, if_neg (by decide), g4, g5, if_pos (zq_inBt (by omega) (by omega)), k3, k4]
      have step : ∀ (f : Nat) (x : Int32), 7 ≤ f → (if f = 7 then x else sk_c s a 7) = nI (lw_sum m 0 e (n + 1)) → (if f = 8 then x else sk_c s a 8) = nI (lw_sum m 1 e (n + 1)) → (if f = 9 then x else sk_c s a 9) = nI (lw_sum m 2 e (n + 1)) - nI (lw_sum m 3 e (n + 1)) → ∃ s', x3_weigh_L74 N a k fuel (sk_wc s a f x) p1 p2 p3 p4 p5 p6 (nI (n + 1)) = k s' p1 p2 p3 p4 p5 p6 (nI m.1) ∧ cfr (lwV a) s s' ∧ sk_c s' a 7 = nI (lw_S m 0 e) ∧ sk_c s' a 8 = nI (lw_S m 1 e) ∧ sk_c s' a 9 = nI (lw_S m 2 e) - nI (lw_S m 3 e) := by
        intro f x hf7 b7 b8 b9
        have F : cfr (lwV a) s (sk_wc s a f x) := cfr.rf.wc x (.inr ⟨rfl, by omega⟩)
        have E' : cl_env (sk_wc s a f x) a e := ⟨fun i hi => by rw [qc_ne (by omega)]; exact E.1 i hi, by rw [qc_eq, pk_un (by omega)]; exact E.2⟩
        have at_ : ∀ j, sk_c (sk_wc s a f x) a j = if f = j then x else sk_c s a j := fun j => by
          rw [qc_eq]
          by_cases ee : f = j
          · subst ee; rw [pk_us, if_pos rfl]
          · rw [pk_un (fun q => ee q.symm), if_neg ee]
        obtain ⟨s', z1, z2, z3⟩ := ih fuel (n + 1) (sk_wc s a f x) (by omega) (by omega) (lwC_cfr L F) E' (by rw [at_]; exact b7) (by rw [at_]; exact b8) (by rw [at_]; exact b9)
        exact ⟨s', z1, F.tr z2, z3⟩
      have sm : ∀ w, lw_sum m w e (n + 1) = lw_sum m w e n + (if m.2.1 n = w then m.2.2.1 n else 0) := fun w => by
        simp only [lw_sum]
        by_cases q : m.2.1 n = w
        · rw [if_pos ⟨q, hh⟩, if_pos q]
        · rw [if_neg (fun z => q z.1), if_neg q]
      have hk : m.2.1 n = 0 ∨ m.2.1 n = 1 ∨ m.2.1 n = 2 ∨ m.2.1 n = 3 := by omega
      rcases hk with hk | hk | hk | hk
      · rw [hk, if_pos (by decide), if_pos (zq_inBt (by omega) (by omega)), a7, nI_add]
        exact step 7 _ (by omega) (by rw [if_pos rfl, sm, if_pos hk]) (by rw [if_neg (by decide), sm, if_neg (by omega)]; exact a8) (by rw [if_neg (by decide), sm, sm, if_neg (by omega), if_neg (by omega)]; exact a9)
      · rw [hk, if_neg (by decide), if_pos (by decide), if_pos (zq_inBt (by omega) (by omega)), a8, nI_add]
        exact step 8 _ (by omega) (by rw [if_neg (by decide), sm, if_neg (by omega)]; exact a7) (by rw [if_pos rfl, sm, if_pos hk]) (by rw [if_neg (by decide), sm, sm, if_neg (by omega), if_neg (by omega)]; exact a9)
      · rw [hk, if_neg (by decide), if_neg (by decide), if_pos (by decide), if_pos (zq_inBt (by omega) (by omega)), a9]
        refine step 9 _ (by omega) (by rw [if_neg (by decide), sm, if_neg (by omega)]; exact a7) (by rw [if_neg (by decide), sm, if_neg (by omega)]; exact a8) ?_
        rw [if_pos rfl, sm, sm, if_pos hk, if_neg (by omega), Nat.add_zero, ← nI_add]
        rw [Int32.sub_eq_add_neg, Int32.sub_eq_add_neg, Int32.add_assoc, Int32.add_assoc, Int32.add_comm (-nI _)]
      · rw [hk, if_neg (by decide), if_neg (by decide), if_neg (by decide), if_pos (zq_inBt (by omega) (by omega)), a9]
        refine step 9 _ (by omega) (by rw [if_neg (by decide), sm, if_neg (by omega)]; exact a7) (by rw [if_neg (by decide), sm, if_neg (by omega)]; exact a8) ?_
        rw [if_pos rfl, sm, sm, if_neg (by omega), if_pos hk, Nat.add_zero, ← nI_add]
        rw [Int32.sub_eq_add_neg, Int32.sub_eq_add_neg, Int32.sub_eq_add_neg, Int32.neg_add, Int32.add_assoc, Int32.sub_eq_add_neg]
    · have sm : ∀ w, lw_sum m w e (n + 1) = lw_sum m w e n := fun w => by
        simp only [lw_sum]
        rw [if_neg (fun z => hh z.2)]; rfl
      rw [if_neg hh, if_pos rfl]
      exact ih fuel (n + 1) s (by omega) (by omega) L E (by rw [sm]; exact a7) (by rw [sm]; exact a8) (by rw [sm, sm]; exact a9)
end
