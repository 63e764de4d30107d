/-! WALK -/
def wkW (W : Nat → Nat) (p k q : Nat) : Nat := if q = 238 + 2 * p then k else W q
section
variable {N X j : Nat} {s s' : sk_S} {c c' c0 : Nat → Nat → Int32} {W W' W0 : Nat → Nat} {sd sd' sd0 : Int32} {m m' : lwM} {sb : Nat} {p k : Nat}
theorem wkW_o {q : Nat} (h : q ≠ 238 + 2 * p) : wkW W p k q = W q := by unfold wkW; rw [if_neg h]
theorem wkW_wd (hp : p < 6) (hk : k ≤ 63) (h : wd W) : wd (wkW W p k) := by
  obtain ⟨b, a, b', d, e⟩ := h
  have o : ∀ q, q < 238 → wkW W p k q = W q := fun q h1 => wkW_o (by omega)
  refine ⟨?_, fun q hq => ?_, fun q hq => ?_, fun q hq => ?_, fun q hq => ?_⟩
  · rw [o 0 (by decide), o 1 (by decide), o 2 (by decide), o 3 (by decide), o 4 (by decide), o 5 (by decide), o 6 (by decide), o 7 (by decide), o 8 (by decide), o 9 (by decide), o 10 (by decide), o 11 (by decide), o 12 (by decide), o 13 (by decide), o 14 (by decide), o 15 (by decide)]; exact b
  · rw [o _ (by omega), o _ (by omega), o _ (by omega), o _ (by omega)]; exact a q hq
  · rw [o _ (by omega), o _ (by omega), o _ (by omega)]; exact b' q hq
  · rw [wkW_o (q := 237 + 2 * q) (by omega), o 12 (by decide)]
    refine ⟨(d q hq).1, ?_, (d q hq).2.2⟩
    unfold wkW
    split
    · exact hk
    · exact (d q hq).2.1
  · rw [wkW_o (by omega), wkW_o (by omega), wkW_o (by omega), wkW_o (by omega), wkW_o (by omega)]; exact e q hq
theorem wk_cls (hp : p < W 12) (hk : k ≤ 63) (S : sc_rel s (X + 12) W sd) : sc_rel (sk_wc s (X + 19) p (nI k)) (X + 12) (wkW W p k) sd := by
  obtain ⟨l7, hw, b1, b3, b5, b4, b6, ⟨nx, n1, n2, n3, n4⟩, b13⟩ := S
  have w12 := hw.1.2.2.2.2.2.2.2.2.2.2.2.2.1
  have o : ∀ q, q < 238 → wkW W p k q = W q := fun q h1 => wkW_o (by omega)
  have cc : ∀ b i, b ≠ X + 19 → sk_c (sk_wc s (X + 19) p (nI k)) b i = sk_c s b i := fun b i h => by rw [qc_ne h]
  refine ⟨l7, wkW_wd (by omega) hk hw, ?_, fun q hq => ?_, fun q hq => ?_, ?_, fun q hq => ?_, ⟨nx, n1, ?_, ?_, fun a ha => ?_⟩, ?_⟩
  · have ep : psN (wkW W p k) = psN W := by
      unfold psN
      rw [o 0 (by decide), o 1 (by decide), o 2 (by decide), o 3 (by decide)]
    rw [cc _ _ (by omega), cc _ _ (by omega), cc _ _ (by omega), cc _ _ (by omega), cc _ _ (by omega), cc _ _ (by omega), cc _ _ (by omega), cc _ _ (by omega), ep, o 4 (by decide), o 5 (by decide), o 6 (by decide), o 7 (by decide), o 8 (by decide), o 9 (by decide)]
    exact b1
  · rw [cc _ _ (by omega), o _ (by omega)]; exact b3 q hq
  · rw [cc _ _ (by omega), o _ (by omega), o _ (by omega), o _ (by omega)]; exact b5 q hq
  · rw [cc _ _ (by omega), cc _ _ (by omega), cc _ _ (by omega), o 10 (by decide), o 12 (by decide), o 11 (by decide)]; exact b4
  · rw [o 12 (by decide)] at hq
    rw [cc _ _ (by omega), wkW_o (q := 237 + 2 * q) (by omega)]
    refine ⟨(b6 q hq).1, ?_⟩
    unfold wkW
    rw [show X + 12 + 7 = X + 19 by omega, qc_eq]
    by_cases h : q = p
    · subst h; rw [pk_us, if_pos rfl]
    · rw [pk_un h, if_neg (by omega)]; exact (b6 q hq).2
  · rw [cc _ _ (by omega)]; exact n2
  · rw [cc _ _ (by omega), o 15 (by decide)]; exact n3
  · rw [o 15 (by decide)] at ha
    rw [cc _ _ (by omega)]
    have : rowN (wkW W p k) a = rowN W a := by
      unfold rowN
      rw [wkW_o (by omega), wkW_o (by omega), wkW_o (by omega), wkW_o (by omega), wkW_o (by omega)]
    rw [this]; exact n4 a ha
  · rw [cc _ _ (by omega), o 13 (by decide)]; exact b13
set_option maxRecDepth 20000 in
theorem sm_walk_ok (hN : 2000000000 ≤ N) : sm_walk X N (RR X) := by
  intro j s c hj ⟨_, Z, W, sd, m, R, Rw⟩ p1 p2
  have R0 := RA_c R ceq_0
  have hw := wd_of R
  have bad : x11_walk N s X p1 p2 = some (sk_rs s 6, .inr "java/lang/IndexOutOfBoundsException") → md_walk N c p1 p2 = some (bk_w (bk_w c 0 0 0) 0 0 1, 0) → ∃ (s9 : sk_S) (c9 : (Nat → Nat → Int32)) (r9 : ky_RS) (r : Int32), x11_walk N s X p1 p2 = some (s9, r9) ∧ md_walk N c p1 p2 = some (c9, r) ∧ ((r9 = .inl (some (.int r)) ∧ c9 0 0 = 0) ∨ (r9 = .inr "java/lang/IndexOutOfBoundsException" ∧ c9 0 0 = 1) ∨ (r9 = .inr "java/lang/IllegalStateException" ∧ c9 0 0 = 2)) ∧ RR X (j + 1) s9 c9 := fun h1 h2 => ⟨_, _, _, _, h1, h2, .inr (.inl ⟨rfl, bk_w_same _ _ _ _⟩), RR_thr hj Z R Rw (thr_ceq 1)⟩
  rcases personC (N := N) R.1 (rwd_of R0) p1 with ⟨p, hp, hp6, rfl, m1, m2⟩ | ⟨m1, m2⟩
  · rcases cellC p2 with ⟨k, hk, rfl, l1, l2⟩ | ⟨l1, l2⟩
    · have v0 : (237 + 2 * nI p) + 1 = nI (238 + 2 * p) := by
        rw [show (2 : Int32) * nI p = nI (2 * p) from pk_mul 2 _, show (237 : Int32) + nI (2 * p) = nI (237 + 2 * p) from nI_add 237 _, nI_1]
        congr 1; omega
      have inb : ky_inB ((237 + 2 * nI p) + 1) 2247 = true := by rw [v0]; exact zq_inBt (by omega) (by decide)
      have cl : Int32.toNatClampNeg ((237 + 2 * nI p) + 1) = 238 + 2 * p := by rw [v0]; exact zq_cl (by omega)
      have w63 := (hw.2.2.2.1 p hp6).2.1
      have of1 : md_ofPerson_r (bk_w c 0 0 0) (nI p) 1 = nI (W (238 + 2 * p)) := by
        unfold md_ofPerson_r; rw [cl]; exact wv_n R0.1.2.2.2.1 (by omega) (by omega)
      have s19 : sk_c s (X + 19) p = nI (W (238 + 2 * p)) := (R.1.2.2.1.2.2.2.2.2.2.1 p hp).2
      have bs := besideN (W (238 + 2 * p)) (by omega) k (by omega)
      have ip : ky_inB (nI p) 6 = true := zq_inBt (by omega) (by decide)
      by_cases hb : md_apart (nI (W (238 + 2 * p))) (nI k) = 1
      · rw [if_pos hb] at bs
        obtain ⟨s2, c2, a1, a2, a3, a4, a5, a6, a7, a8, a9⟩ := rm_ok (N := N) (by omega) R0 Rw
        have F0 : cfr (fun b _ => b = X + 19) s2 (sk_wc s2 (X + 19) p (nI k)) := (cfr.rf (V := fun b _ => b = X + 19)).wc _ rfl
        have S3 := wk_cls (X := X) (p := p) (k := k) hp hk a3.1.2.2.1
        have F : sfr (act1 X s2) s2 (sk_wc s2 (X + 19) p (nI k)) := (sfr.of F0).mono (fun b i _ h => .inl (by omega))
        have v3 : wv (bk_w c2 1 (238 + 2 * p) (nI k) 1) (wkW W p k) sd := by
          refine ⟨fun q hq h16 => ?_, by rw [bk_w_at (by omega)]; exact a3.1.2.2.2.1.2⟩
          unfold wkW
          by_cases h : q = 238 + 2 * p
          · subst h; rw [bk_w_same, if_pos rfl]
          · rw [bk_w_at h, if_neg h]; exact wv_n a3.1.2.2.2.1 hq h16
        have e14 : W14 W (wkW W p k) := ⟨wkW_o (by omega), fun q hq => wkW_o (by omega)⟩
        have R4 := RA_act a3 F (bks_cfr a3.1.2.1 F0) S3 v3 (ceq.rf.A.w _ (by omega)) e14.1 e14.2
        have Rw4 := way_act a4 a3.1.2.1 (X_11 a3) F e14.2 (Nat.le_refl _)
        have u0 : (45 + 3 * nI k) + 0 = nI (45 + 3 * k) := md_ofN (i := 0) hk (by decide)
        have inb2 : ky_inB ((45 + 3 * nI k) + 0) 2247 = true := by rw [u0]; exact zq_inBt (by omega) (by decide)
        have of2 : md_of_r (bk_w c2 1 (238 + 2 * p) (nI k)) (nI k) 0 = nI (W (45 + 3 * k)) := by
          unfold md_of_r; rw [u0, zq_cl (by omega), wv_n v3 (by omega) (by omega), wkW_o (by omega)]
        have s17 : sk_c (sk_wc s2 (X + 19) p (nI k)) (X + 17) k = nI (W (45 + 3 * k)) := by
          rw [qc_ne (by omega)]; exact (a3.1.2.2.1.2.2.2.2.1 k (by omega)).1
        refine ⟨_, _, .inl (some (.int (nI (W (45 + 3 * k))))), nI (W (45 + 3 * k)), ?_, ?_, .inl ⟨rfl, ?_⟩, RR_act hj Z (s1 := sk_wc s2 (X + 19) p (nI k)) a5 a6 a7 R4 Rw4⟩
        · unfold x11_walk
          rw [if_pos R.1.1, m1]
          simp only [zq_bindP]
          rw [if_neg (by decide), l1, if_neg (by decide), if_pos ip, zq_cl (by omega), s19, bs, if_neg (by decide), a1]
          simp only [zq_bindP, zq_letP]
          rw [if_pos (zq_inBt (by omega) (by decide)), zq_cl (by omega), s17]
        · have hb' : (md_apart (nI (W (238 + 2 * p))) (nI k) = 1) = True := eq_true hb
          simp only [md_walk, zq_letP, m2, l2, th_r, th_c0, d00, ↓reduceIte, inb, of1, hb', a2, zq_bindP, cl, inb2, of2]
        · rw [bk_w_ne (by decide), a9 0 (by decide), bk_w_same]
      · rw [if_neg hb] at bs
        refine ⟨sk_rs s 6, bk_w (bk_w c 0 0 0) 0 0 2, .inr "java/lang/IllegalStateException", 0, ?_, ?_, .inr (.inr ⟨rfl, bk_w_same _ _ _ _⟩), RR_thr hj Z R Rw (thr_ceq 2)⟩
        · unfold x11_walk
          rw [if_pos R.1.1, m1]
          simp only [zq_bindP]
          rw [if_neg (by decide), l1, if_neg (by decide), if_pos ip, zq_cl (by omega), s19, bs, if_pos rfl]
        · have hb' : (md_apart (nI (W (238 + 2 * p))) (nI k) = 1) = False := eq_false hb
          simp only [md_walk, zq_letP, m2, l2, th_r, th_c0, th_c1, d00, d10, ↓reduceIte, inb, of1, hb']
    · refine bad ?_ ?_
      · unfold x11_walk
        rw [if_pos R.1.1, m1]
        simp only [zq_bindP]
        rw [if_neg (by decide), l1, if_pos rfl]
      · simp only [md_walk, zq_letP, m2, l2, th_r, th_c1, d00, d10, ↓reduceIte]
  · refine bad ?_ ?_
    · unfold x11_walk
      rw [if_pos R.1.1, m1]
      simp only [zq_bindP]
      rw [if_pos trivial]
    · simp only [md_walk, zq_letP, m2, th_r, th_c1, d10, ↓reduceIte]
end
