/-! A COMPARISON put by the class -/
def nzb (wt : Nat → Int) : Nat → Nat
  | 0 => 0
  | f + 1 => nzb wt f + (if wt f = 0 then 0 else 1)
def lsI (τ : Int) (wt : Nat → Int) (e : Nat → Nat) : Nat → Int
  | 0 => τ * wt 6
  | f + 1 => lsI τ wt e f + τ * wt f * (e f : Int)
theorem nzb_mono (wt : Nat → Int) (f : Nat) : ∀ r, nzb wt f ≤ nzb wt (f + r)
  | 0 => Nat.le_refl _
  | r + 1 => by
    have := nzb_mono wt f r
    have e : nzb wt (f + (r + 1)) = nzb wt (f + r) + (if wt (f + r) = 0 then 0 else 1) := rfl
    omega
theorem nzb_le (wt : Nat → Int) : ∀ f, nzb wt f ≤ f
  | 0 => Nat.le_refl _
  | f + 1 => by
    have := nzb_le wt f
    have e : nzb wt (f + 1) = nzb wt f + (if wt f = 0 then 0 else 1) := rfl
    split at e <;> omega
section
variable {N X q b u a d : Nat} {s0 s : sk_S} {v turn : Int32} {c0 c : Nat → Nat → Int32} {wt : Nat → Int} {τ : Int}
theorem tu_mul (hτ : turn.toInt = τ) (h1 : τ = 1 ∨ τ = -1) {x : Int32} {w : Int} (hx : x.toInt = w) (hw : -500000 ≤ w ∧ w ≤ 500000) : (turn * x).toInt = τ * w := by
  rw [fb_mulI]
  · rw [hτ, hx]
  · rw [hτ, hx]; rcases h1 with rfl | rfl <;> omega
  · rw [hτ, hx]; rcases h1 with rfl | rfl <;> omega
/-- the comparison as far as fact f -/
def PI (X : Nat) (s0 : sk_S) (c0 : Nat → Nat → Int32) (sI : sk_S) (c : Nat → Nat → Int32) (u a d : Nat) (wt : Nat → Int) (τ : Int) (f : Nat) (s : sk_S) : Prop :=
  CS X s0 c0 s c (u + 3 + 2 * nzb wt f) a d ∧ CF X sI c u a s c ∧ sk_c s (X + 11) = sk_c sI (X + 11) ∧ sk_c s (X + 10) u = 0 ∧ (sk_c s (X + 10) (u + 1)).toInt = τ * wt 6 ∧ sk_c s (X + 10) (u + 2) = nI (nzb wt f) ∧ (∀ j, j < nzb wt f → (∃ f', f' ≤ 5 ∧ sk_c s (X + 10) (u + 3 + 2 * j) = nI f') ∧ -400 ≤ (sk_c s (X + 10) (u + 3 + 2 * j + 1)).toInt ∧ (sk_c s (X + 10) (u + 3 + 2 * j + 1)).toInt ≤ 400) ∧ ∀ e, cd_sum (sk_c s (X + 10)) e u (nzb wt f) = lsI τ wt e f
theorem pc_loop (l4 : lay_X4 (sk_K s0) (sk_r s0) (X + 6) = true) {sI : sk_S} (hτ : turn.toInt = τ) (h1 : τ = 1 ∨ τ = -1) (hw : ∀ j, j < 6 → -400 ≤ wt j ∧ wt j ≤ 400) (hwt : ∀ j, j < 7 → (sk_c sI (X + 11) j).toInt = wt j) (hb : u + 3 + 2 * nzb wt 6 ≤ 400) : ∀ (r f fuel : Nat) (s : sk_S), f + r = 6 → r < fuel → PI X s0 c0 sI c u a d wt τ f s → ∃ s', x4_putComparison_L43 N (X + 6) (fun q18 x19 x20 x21 => (some (q18, 1))) fuel (tS (X + 1) s q b v) turn (nI (u + 2)) (nI f) = some (tS (X + 1) s' q b v, 1) ∧ PI X s0 c0 sI c u a d wt τ 6 s' := by
  intro r
  induction r with
  | zero =>
    intro f fuel s g1 g2 I
    obtain ⟨fuel, rfl⟩ : ∃ q, fuel = q + 1 := ⟨fuel - 1, by omega⟩
    obtain rfl : f = 6 := by omega
    refine ⟨s, ?_, I⟩
    simp only [x4_putComparison_L43]
    rw [if_pos (by decide)]
  | succ r ih =>
    intro f fuel s g1 g2 I
    obtain ⟨fuel, rfl⟩ : ∃ q, fuel = q + 1 := ⟨fuel - 1, by omega⟩
    obtain ⟨i1, i2, i3, i4, i5, i6, i7, i8⟩ := id I
    have nle : ¬ (6 : Int32) ≤ nI f := by show ¬ nI 6 ≤ nI f; rw [zq_le (by decide) (by omega)]; omega
    have wf : (sk_c s (X + 11) f).toInt = wt f := by rw [i3]; exact hwt f (by omega)
    have hwf := hw f (by omega)
    have cs : sk_c (tS (X + 1) s q b v) (X + 6 + 5) f = sk_c s (X + 11) f := by rw [tS_n (by omega)]
    have z0 : (sk_c s (X + 11) f = 0) = (wt f = 0) := propext (by rw [fa_eq, wf]; exact Iff.rfl)
    have eN : nzb wt (f + 1) = nzb wt f + (if wt f = 0 then 0 else 1) := rfl
    have eL : ∀ e, lsI τ wt e (f + 1) = lsI τ wt e f + τ * wt f * (e f : Int) := fun _ => rfl
    simp only [x4_putComparison_L43, zq_letP]
    rw [if_neg nle, if_pos (zq_inBt (by omega) (by decide)), zq_cl (by omega), cs]
    by_cases h : wt f = 0
    · have eN : nzb wt (f + 1) = nzb wt f := by rw [eN, if_pos h]; omega
      rw [if_pos (by rw [z0]; exact h), nI_1]
      refine ih (f + 1) fuel s (by omega) (by omega) ⟨by rw [eN]; exact i1, i2, i3, i4, i5, by rw [eN]; exact i6, by rw [eN]; exact i7, fun e => ?_⟩
      rw [eN, i8 e, eL, h]
      omega
    · rw [if_neg h] at eN
      have mo := nzb_mono wt (f + 1) (6 - (f + 1))
      rw [show f + 1 + (6 - (f + 1)) = 6 by omega] at mo
      have le6 := nzb_le wt f
      generalize hz : nzb wt f = z at *
      have P1 := put_ok (N := N) (q := q) (b := b) (v := v) (x := nI f) l4 i1 (by omega)
      have CS1 : CS X s0 c0 (ptS X s (u + 3 + 2 * z) (nI f)) c (u + 3 + 2 * z + 1) a d := pt_CS i1
      have c11 : sk_c (ptS X s (u + 3 + 2 * z) (nI f)) (X + 11) = sk_c s (X + 11) := pt_n (by omega) (by omega)
      have cs1 : sk_c (tS (X + 1) (ptS X s (u + 3 + 2 * z) (nI f)) q b v) (X + 6 + 5) f = sk_c s (X + 11) f := by rw [tS_n (by omega), show X + 6 + 5 = X + 11 by omega, c11]
      have P2 := put_ok (N := N) (q := q) (b := b) (v := v) (x := turn * sk_c s (X + 11) f) l4 CS1 (by omega)
      generalize h2 : ptS X (ptS X s (u + 3 + 2 * z) (nI f)) (u + 3 + 2 * z + 1) (turn * sk_c s (X + 11) f) = s2 at *
      have k10 : ∀ k, sk_c s2 (X + 10) k = if k = u + 3 + 2 * z + 1 then turn * sk_c s (X + 11) f else if k = u + 3 + 2 * z then nI f else sk_c s (X + 10) k := fun k => by rw [← h2, pt_10, pt_10]
      have CS2 : CS X s0 c0 s2 c (u + 3 + 2 * z + 1 + 1) a d := by rw [← h2]; exact pt_CS CS1
      have n2 : ∀ a, a ≠ X + 10 → a ≠ X + 6 → sk_c s2 a = sk_c s a := fun a ha hb => by rw [← h2, pt_n ha hb, pt_n ha hb]
      have n25 : sk_c s2 (X + 6) 5 = sk_c s (X + 6) 5 := by rw [← h2, pt_5, pt_5]
      rw [if_neg (by rw [z0]; exact h), P1]
      simp only [zq_bindP, d10, ↓reduceIte]
      rw [cs1, P2]
      simp only [zq_bindP, d10, ↓reduceIte]
      rw [if_pos (zq_inBt (by omega) (by decide)), zq_cl (by omega), tS_n (by omega), show X + 6 + 4 = X + 10 by omega, k10, if_neg (by omega), if_neg (by omega), i6, nI_1, nI_1, tS_wn (by omega)]
      have k10' : ∀ k, sk_c (sk_wc s2 (X + 10) (u + 2) (nI (z + 1))) (X + 10) k = if k = u + 2 then nI (z + 1) else if k = u + 3 + 2 * z + 1 then turn * sk_c s (X + 11) f else if k = u + 3 + 2 * z then nI f else sk_c s (X + 10) k := fun k => by
        rw [qc_eq]
        by_cases e : k = u + 2
        · rw [e, pk_us, if_pos rfl]
        · rw [pk_un e, if_neg e]; exact k10 k
      refine ih (f + 1) fuel _ (by omega) (by omega) ⟨?_, ?_, by rw [qc_ne (by omega), n2 _ (by omega) (by omega)]; exact i3, ?_, ?_, ?_, fun j hj => ?_, fun e => ?_⟩
      · rw [eN]
        refine ⟨CS2.1.wc _ (by unfold rdV; omega), CS2.2.1, CS2.2.2.1, ?_, CS2.2.2.2.2.1, CS2.2.2.2.2.2⟩
        rw [qc_ne (by omega), CS2.2.2.2.1]
        congr 1
      · refine ⟨fun k hk => ?_, by rw [qc_ne (by omega), n2 _ (by omega) (by omega)]; exact i2.2.1, by rw [qc_ne (by omega), n2 _ (by omega) (by omega)]; exact i2.2.2.1, by rw [qc_ne (by omega), n2 _ (by omega) (by omega)]; exact i2.2.2.2.1, by rw [qc_ne (by omega), n25]; exact i2.2.2.2.2.1, i2.2.2.2.2.2⟩
        rw [k10', if_neg (by omega), if_neg (by omega), if_neg (by omega)]; exact i2.1 k hk
      · rw [k10', if_neg (by omega), if_neg (by omega), if_neg (by omega)]; exact i4
      · rw [k10', if_neg (by omega), if_neg (by omega), if_neg (by omega)]; exact i5
      · rw [k10', if_pos rfl, eN]
      · rw [eN] at hj
        have tm := tu_mul hτ h1 wf (by omega)
        by_cases e : j = z
        · subst e
          rw [k10', if_neg (by omega), if_neg (by omega), if_pos rfl, k10', if_neg (by omega), if_pos rfl, tm]
          refine ⟨⟨f, by omega, rfl⟩, ?_⟩
          rcases h1 with rfl | rfl <;> omega
        · rw [k10', if_neg (by omega), if_neg (by omega), if_neg (by omega), k10', if_neg (by omega), if_neg (by omega), if_neg (by omega)]
          exact i7 j (by omega)
      · have tm := tu_mul hτ h1 wf (by omega)
        rw [eN, eL]
        show cd_sum _ e u z + (sk_c (sk_wc s2 (X + 10) (u + 2) (nI (z + 1))) (X + 10) (u + 3 + 2 * z + 1)).toInt * (e (sk_c (sk_wc s2 (X + 10) (u + 2) (nI (z + 1))) (X + 10) (u + 3 + 2 * z)).toNatClampNeg : Int) = _
        rw [k10' (u + 3 + 2 * z + 1), if_neg (by omega), if_pos rfl, k10' (u + 3 + 2 * z), if_neg (by omega), if_neg (by omega), if_pos rfl, tm, zq_cl (by omega), ← i8 e]
        congr 1
        have : ∀ n, n ≤ z → cd_sum (sk_c (sk_wc s2 (X + 10) (u + 2) (nI (z + 1))) (X + 10)) e u n = cd_sum (sk_c s (X + 10)) e u n := fun n => by
          induction n with
          | zero => intro _; show (sk_c _ (X + 10) (u + 1)).toInt = (sk_c s (X + 10) (u + 1)).toInt; rw [k10', if_neg (by omega), if_neg (by omega), if_neg (by omega)]
          | succ n ihn =>
            intro hn
            show cd_sum _ e u n + (sk_c _ (X + 10) (u + 3 + 2 * n + 1)).toInt * (e (sk_c _ (X + 10) (u + 3 + 2 * n)).toNatClampNeg : Int) = cd_sum _ e u n + (sk_c s (X + 10) (u + 3 + 2 * n + 1)).toInt * (e (sk_c s (X + 10) (u + 3 + 2 * n)).toNatClampNeg : Int)
            rw [ihn (by omega), k10' (u + 3 + 2 * n + 1), if_neg (by omega), if_neg (by omega), if_neg (by omega), k10' (u + 3 + 2 * n), if_neg (by omega), if_neg (by omega), if_neg (by omega)]
        exact this z (Nat.le_refl _)
theorem pc_ok (hN : 100 ≤ N) (l4 : lay_X4 (sk_K s0) (sk_r s0) (X + 6) = true) (H : CS X s0 c0 s c u a d) (hτ : turn.toInt = τ) (h1 : τ = 1 ∨ τ = -1) (hw : ∀ j, j < 6 → -400 ≤ wt j ∧ wt j ≤ 400) (hw6 : -400000 ≤ wt 6 ∧ wt 6 ≤ 400000) (hwt : ∀ j, j < 7 → (sk_c s (X + 11) j).toInt = wt j) (hb : u + 3 + 2 * nzb wt 6 ≤ 400) :
    ∃ s', x4_putComparison N (tS (X + 1) s q b v) (X + 6) turn = some (tS (X + 1) s' q b v, 1) ∧ CS X s0 c0 s' c (u + 3 + 2 * nzb wt 6) a d ∧ CF X s c u a s' c ∧ ∀ β, β ≤ 200000000 → segC (sk_c s' (X + 10)) u (u + 3 + 2 * nzb wt 6) (fun e => decide (lsI τ wt e 6 < 0)) β := by
  have l4' : lay_X4 (sk_K (tS (X + 1) s q b v)) (sk_r (tS (X + 1) s q b v)) (X + 6) = true := lay4_fr l4 H.1.tS
  have P1 := put_ok (N := N) (q := q) (b := b) (v := v) (x := 0) l4 H (by omega)
  have CS1 : CS X s0 c0 (ptS X s u 0) c (u + 1) a d := pt_CS H
  have c11 : sk_c (ptS X s u 0) (X + 11) = sk_c s (X + 11) := pt_n (by omega) (by omega)
  have cs1 : sk_c (tS (X + 1) (ptS X s u 0) q b v) (X + 6 + 5) 6 = sk_c s (X + 11) 6 := by rw [tS_n (by omega), show X + 6 + 5 = X + 11 by omega, c11]
  have P2 := put_ok (N := N) (q := q) (b := b) (v := v) (x := turn * sk_c s (X + 11) 6) l4 CS1 (by omega)
  have CS2 : CS X s0 c0 (ptS X (ptS X s u 0) (u + 1) (turn * sk_c s (X + 11) 6)) c (u + 1 + 1) a d := pt_CS CS1
  have P3 := put_ok (N := N) (q := q) (b := b) (v := v) (x := 0) l4 CS2 (by omega)
  have CS3 : CS X s0 c0 (ptS X (ptS X (ptS X s u 0) (u + 1) (turn * sk_c s (X + 11) 6)) (u + 1 + 1) 0) c (u + 1 + 1 + 1) a d := pt_CS CS2
  generalize h3 : ptS X (ptS X (ptS X s u 0) (u + 1) (turn * sk_c s (X + 11) 6)) (u + 1 + 1) 0 = s3 at *
  have k10 : ∀ k, sk_c s3 (X + 10) k = if k = u + 1 + 1 then 0 else if k = u + 1 then turn * sk_c s (X + 11) 6 else if k = u then 0 else sk_c s (X + 10) k := fun k => by rw [← h3, pt_10, pt_10, pt_10]
  have n3 : ∀ a, a ≠ X + 10 → a ≠ X + 6 → sk_c s3 a = sk_c s a := fun a ha hb => by rw [← h3, pt_n ha hb, pt_n ha hb, pt_n ha hb]
  have e6 : sk_c (tS (X + 1) s3 q b v) (X + 6) 6 = nI (u + 3) := by rw [tS_n (by omega), CS3.2.2.2.1]
  have tm := tu_mul hτ h1 (hwt 6 (by omega)) (by omega)
  have I : PI X s0 c0 s c u a d wt τ 0 s3 := by
    refine ⟨CS3, ⟨fun k hk => by rw [k10, if_neg (by omega), if_neg (by omega), if_neg (by omega)], n3 _ (by omega) (by omega), n3 _ (by omega) (by omega), n3 _ (by omega) (by omega), by rw [← h3, pt_5, pt_5, pt_5], fun _ _ _ => rfl⟩, n3 _ (by omega) (by omega), ?_, ?_, ?_, fun j hj => absurd hj (Nat.not_lt_zero j), fun e => ?_⟩
    · rw [k10, if_neg (by omega), if_neg (by omega), if_pos rfl]
    · rw [k10, if_neg (by omega), if_pos rfl, tm]
    · rw [k10, if_pos (by omega)]; rfl
    · show (sk_c s3 (X + 10) (u + 1)).toInt = τ * wt 6
      rw [k10, if_neg (by omega), if_pos rfl, tm]
  obtain ⟨s', a1, a2⟩ := pc_loop (N := N) (q := q) (b := b) (v := v) l4 hτ h1 hw hwt hb 6 0 N s3 (by omega) (by omega) I
  obtain ⟨i1, i2, i3, i4, i5, i6, i7, i8⟩ := a2
  refine ⟨s', ?_, i1, i2, fun β hβ => ?_⟩
  · unfold x4_putComparison
    rw [if_pos l4', P1]
    simp only [zq_bindP, d10, ↓reduceIte]
    rw [cs1, P2]
    simp only [zq_bindP, d10, ↓reduceIte]
    rw [P3]
    simp only [zq_bindP, zq_letP, d10, ↓reduceIte]
    rw [e6, show nI (u + 3) - 1 = nI (u + 2) from nI_pred (u + 2)]
    exact a1
  · have sg := segC_cmp (cd := sk_c s' (X + 10)) (u := u) (q := nzb wt 6) (β := β) hβ i4 i6 (nzb_le wt 6) (by rw [i5]; rcases h1 with rfl | rfl <;> omega) i7
    obtain ⟨nt, g1, g2⟩ := sg
    refine ⟨nt, g1, fun e he b hb => ?_⟩
    obtain ⟨g3, g4⟩ := g2 e he b hb
    refine ⟨g3, ?_⟩
    rw [g4]
    show (2 * b + if decide (cd_sum (sk_c s' (X + 10)) e u (nzb wt 6) < 0) = true then 1 else 0) = 2 * b + if decide (lsI τ wt e 6 < 0) = true then 1 else 0
    rw [i8 e]
theorem ls_lin {cL cR : Nat → Nat} (h1 : τ = 1 ∨ τ = -1) (h : ∀ j, wt j = (cL j : Int) - cR j) (e : Nat → Nat) : ∀ f, lsI τ wt e f = τ * ((linN cL e f : Int) - linN cR e f)
  | 0 => by
    show τ * wt 6 = τ * ((cL 6 : Int) - cR 6)
    rw [h 6]
  | f + 1 => by
    have i := ls_lin (e := e) h1 h f
    show lsI τ wt e f + τ * wt f * (e f : Int) = τ * (((linN cL e f + cL f * e f : Nat) : Int) - ((linN cR e f + cR f * e f : Nat) : Int))
    rw [i, h f, Int.natCast_add, Int.natCast_add, Int.natCast_mul, Int.natCast_mul, Int.mul_assoc, ← Int.mul_add, Int.sub_mul]
    congr 1
    omega
theorem nz_kf {cL cR : Nat → Nat} (h : ∀ j, wt j = (cL j : Int) - cR j) : nzb wt 6 ≤ kfc cL + kfc cR := by
  have z : ∀ j, (if wt j = 0 then 0 else 1) ≤ cL j + cR j := fun j => by
    have := h j
    split <;> omega
  have z0 := z 0
  have z1 := z 1
  have z2 := z 2
  have z3 := z 3
  have z4 := z 4
  have z5 := z 5
  show 0 + (if wt 0 = 0 then 0 else 1) + (if wt 1 = 0 then 0 else 1) + (if wt 2 = 0 then 0 else 1) + (if wt 3 = 0 then 0 else 1) + (if wt 4 = 0 then 0 else 1) + (if wt 5 = 0 then 0 else 1) ≤ _
  unfold kfc
  omega
end
