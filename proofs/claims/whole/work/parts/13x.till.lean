/-! WAYS OVER CELLS: the reference's rows -/
def wkp (κ : Nat → Nat) (f : Nat) : Nat → Nat → Nat → Prop
  | 0, q, t => q = f ∧ t = 0
  | n + 1, q, t => ∃ d u, d < 64 ∧ aj d q = true ∧ wkp κ f n d u ∧ κ q < 1000000 ∧ t = u + κ q
def lbn (tl : Nat → Nat) (q : Nat) : Nat → Nat
  | 0 => 1000000
  | d + 1 => if aj q d = true then min (lbn tl q d) (tl d) else lbn tl q d
theorem lbn_le (tl : Nat → Nat) (q : Nat) : ∀ n d, d < n → aj q d = true → lbn tl q n ≤ tl d
  | 0, d, h, _ => by omega
  | n + 1, d, h, ha => by
    have i := lbn_le tl q n d
    unfold lbn
    by_cases e : d = n
    · subst e; rw [if_pos ha]; omega
    · have := i (by omega) ha
      split <;> omega
theorem lbn_ex (tl : Nat → Nat) (q : Nat) : ∀ n, lbn tl q n = 1000000 ∨ ∃ d, d < n ∧ aj q d = true ∧ lbn tl q n = tl d
  | 0 => .inl rfl
  | n + 1 => by
    have i := lbn_ex tl q n
    unfold lbn
    by_cases ha : aj q n = true
    · rw [if_pos ha]
      by_cases h : lbn tl q n ≤ tl n
      · rw [Nat.min_eq_left h]
        rcases i with i | ⟨d, i1, i2, i3⟩
        · exact .inl i
        · exact .inr ⟨d, by omega, i2, i3⟩
      · rw [Nat.min_eq_right (by omega)]
        exact .inr ⟨n, by omega, ha, rfl⟩
    · rw [if_neg ha]
      rcases i with i | ⟨d, i1, i2, i3⟩
      · exact .inl i
      · exact .inr ⟨d, by omega, i2, i3⟩
theorem lbn_b (tl : Nat → Nat) (q : Nat) : ∀ n, lbn tl q n ≤ 1000000
  | 0 => Nat.le_refl _
  | n + 1 => by
    have i := lbn_b tl q n
    unfold lbn
    split <;> omega
/-- what a cell is set to -/
def tlV (κ : Nat → Nat) (tl : Nat → Nat) (i : Nat) : Nat := min 1000000 (lbn tl i 64 + κ i)
def tlP (κ : Nat → Nat) (tl : Nat → Nat) : Nat → Nat → Nat
  | 0 => tl
  | i + 1 => fun q => if q = i then min (tlP κ tl i i) (tlV κ (tlP κ tl i) i) else tlP κ tl i q
def tlM (κ : Nat → Nat) (tl : Nat → Nat) : Nat → Bool
  | 0 => false
  | i + 1 => tlM κ tl i || decide (tlV κ (tlP κ tl i) i < tlP κ tl i i)
def tlI (κ : Nat → Nat) (f : Nat) (tl : Nat → Nat) : Prop := tl f = 0 ∧ (∀ q, q < 64 → tl q ≤ 1000000) ∧ ∀ q, q < 64 → tl q < 1000000 → ∃ n, wkp κ f n q (tl q)
theorem tlP_s (κ tl : Nat → Nat) (i : Nat) : tlP κ tl (i + 1) = fun q => if q = i then min (tlP κ tl i i) (tlV κ (tlP κ tl i) i) else tlP κ tl i q := rfl
theorem tlM_s (κ tl : Nat → Nat) (i : Nat) : tlM κ tl (i + 1) = (tlM κ tl i || decide (tlV κ (tlP κ tl i) i < tlP κ tl i i)) := rfl
theorem tlI_P {κ tl : Nat → Nat} {f : Nat} (hκ : ∀ q, q < 64 → κ q ≤ 1 ∨ κ q = 1000000) (h : tlI κ f tl) : ∀ i, i ≤ 64 → tlI κ f (tlP κ tl i)
  | 0, _ => h
  | i + 1, hi => by
    obtain ⟨a1, a2, a3⟩ := tlI_P hκ h i (by omega)
    rw [tlP_s]
    refine ⟨?_, fun q hq => ?_, fun q hq hl => ?_⟩
    · show (if f = i then _ else _) = 0
      split
      · next e => subst e; rw [a1]; exact Nat.zero_min _
      · exact a1
    · show (if q = i then _ else _) ≤ _
      split
      · have := a2 i (by omega); omega
      · exact a2 q hq
    · have hl : (if q = i then min (tlP κ tl i i) (tlV κ (tlP κ tl i) i) else tlP κ tl i q) < 1000000 := hl
      show ∃ n, wkp κ f n q (if q = i then min (tlP κ tl i i) (tlV κ (tlP κ tl i) i) else tlP κ tl i q)
      by_cases e : q = i
      · subst e
        rw [if_pos rfl] at hl ⊢
        by_cases h1 : tlP κ tl q q ≤ tlV κ (tlP κ tl q) q
        · rw [Nat.min_eq_left h1] at hl ⊢
          exact a3 q hq hl
        · rw [Nat.min_eq_right (by omega)] at hl ⊢
          unfold tlV at hl ⊢
          have hk := hκ q hq
          rcases lbn_ex (tlP κ tl q) q 64 with g | ⟨d, d1, d2, d3⟩
          · omega
          · obtain ⟨n, hn⟩ := a3 d d1 (by omega)
            refine ⟨n + 1, d, tlP κ tl q d, d1, by rw [aj_sym d1 hq]; exact d2, hn, by omega, by omega⟩
      · rw [if_neg e] at hl ⊢
        exact a3 q hq hl
theorem tlM_f {κ tl : Nat → Nat} : ∀ i, tlM κ tl i = false → tlP κ tl i = tl ∧ ∀ q, q < i → tl q ≤ tlV κ tl q
  | 0, _ => ⟨rfl, fun q hq => by omega⟩
  | i + 1, h => by
    rw [tlM_s, Bool.or_eq_false_iff, decide_eq_false_iff_not] at h
    obtain ⟨a1, a2⟩ := tlM_f i h.1
    have h2 := h.2
    rw [a1] at h2
    refine ⟨?_, fun q hq => ?_⟩
    · rw [tlP_s, a1]
      funext q
      split
      · next e => subst e; omega
      · rfl
    · by_cases e : q = i
      · subst e; omega
      · exact a2 q (by omega)
theorem tlM_d (κ tl : Nat → Nat) : ∀ i, i ≤ 64 → fb_sm (tlP κ tl i) 64 + (if tlM κ tl i = true then 1 else 0) ≤ fb_sm tl 64
  | 0, _ => by
    have : (if tlM κ tl 0 = true then 1 else 0) = 0 := rfl
    rw [this]; exact Nat.le_refl _
  | i + 1, hi => by
    have ih := tlM_d κ tl i (by omega)
    have u := fb_sm_upd (tlP κ tl i) (min (tlP κ tl i i) (tlV κ (tlP κ tl i) i)) (i := i) (n := 64) (by omega)
    rw [tlP_s, tlM_s]
    cases h1 : tlM κ tl i with
    | true =>
      rw [h1, if_pos rfl] at ih
      rw [Bool.true_or, if_pos rfl]
      omega
    | false =>
      rw [h1, if_neg (by decide)] at ih
      rw [Bool.false_or]
      by_cases h2 : tlV κ (tlP κ tl i) i < tlP κ tl i i
      · rw [decide_eq_true h2, if_pos rfl]; omega
      · rw [decide_eq_false h2, if_neg (by decide)]; omega
/-- the last rows: sound, and as small as can be -/
def tlF (κ : Nat → Nat) (f : Nat) (tl : Nat → Nat) : Prop := tlI κ f tl ∧ ∀ q, q < 64 → tl q ≤ tlV κ tl q
theorem tlF_step {κ tl : Nat → Nat} {f d q : Nat} (h : tlF κ f tl) (hd : d < 64) (hq : q < 64) (ha : aj d q = true) : tl q ≤ tl d + κ q := by
  have h1 := h.2 q hq
  have h2 := lbn_le tl q 64 d hd (by rw [aj_sym hq hd]; exact ha)
  unfold tlV at h1
  omega
theorem tlF_min {κ tl : Nat → Nat} {f : Nat} (h : tlF κ f tl) : ∀ n q t, q < 64 → wkp κ f n q t → tl q ≤ t
  | 0, q, t, _, w => by
    obtain ⟨rfl, rfl⟩ := w
    rw [h.1.1]; exact Nat.le_refl _
  | n + 1, q, t, hq, w => by
    obtain ⟨d, u, hd, ha, w', _, rfl⟩ := w
    have i := tlF_min h n d u hd w'
    have := tlF_step h hd hq ha
    omega
/-- unit costs: no way is longer than 63 -/
theorem tlF_val {κ tl : Nat → Nat} {f : Nat} (hκ : ∀ q, q < 64 → κ q = 1 ∨ κ q = 1000000) (h : tlF κ f tl) {T : Nat} (hT : T < 1000000) : ∀ r t, t + r = T → (∃ q, q < 64 ∧ tl q = T) → ∃ q, q < 64 ∧ tl q = t
  | 0, t, e, hx => by
    obtain rfl : t = T := by omega
    exact hx
  | r + 1, t, e, hx => by
    obtain ⟨q, hq, e2⟩ := tlF_val hκ h hT r (t + 1) (by omega) hx
    obtain ⟨n, hn⟩ := h.1.2.2 q hq (by omega)
    cases n with
    | zero => have := hn.2; omega
    | succ n =>
      obtain ⟨d, u, hd, ha, w', hk, e3⟩ := hn
      have k1 : κ q = 1 := by have := hκ q hq; omega
      have m := tlF_min h n d u hd w'
      have st := tlF_step h hd hq ha
      exact ⟨d, hd, by omega⟩
theorem tlF_63 {κ tl : Nat → Nat} {f : Nat} (hκ : ∀ q, q < 64 → κ q = 1 ∨ κ q = 1000000) (h : tlF κ f tl) {q : Nat} (hq : q < 64) (hl : tl q < 1000000) : tl q ≤ 63 := by
  have ex : ∀ t, t < tl q + 1 → ∃ p, p < 64 ∧ tl p = t := fun t ht => tlF_val hκ h hl (tl q - t) t (by omega) ⟨q, hq, rfl⟩
  obtain ⟨g, hg⟩ : ∃ g : Nat → Nat, ∀ t, t < tl q + 1 → g t < 64 ∧ tl (g t) = t := ⟨fun t => Classical.epsilon (fun p => p < 64 ∧ tl p = t), fun t ht => Classical.epsilon_spec (ex t ht)⟩
  have hh := fb_holes 64 (tl q + 1) g (fun t ht => (hg t ht).1) (fun t t' h1 h2 e => by
    have a1 := (hg t (by omega)).2
    have a2 := (hg t' h2).2
    rw [e] at a1
    omega)
  omega
section
variable {N X j : Nat} {s s' : sk_S} {c c' c0 : Nat → Nat → Int32} {W W' W0 : Nat → Nat} {sd sd' sd0 : Int32} {m m' : lwM} {sb : Nat} {k : Nat}
theorem lb_loop {tl : Nat → Nat} (ht : ∀ q, q < 64 → c 12 q = nI (tl q)) (hB : ∀ q, q < 64 → tl q ≤ 1000000) {q : Nat} (hq : q < 64) {kR : (Nat → Nat → Int32) → Int32 → Int32 → Int32 → Option ((Nat → Nat → Int32) × Int32)} : ∀ (r i fuel : Nat), i + r = 64 → r < fuel → md_leastBeside_L6 N kR fuel c (nI q) (nI (lbn tl q i)) (nI i) = kR c (nI q) (nI (lbn tl q 64)) (nI 64) := by
  intro r
  induction r with
  | zero =>
    intro i fuel h1 h2
    obtain ⟨fuel, rfl⟩ : ∃ q, fuel = q + 1 := ⟨fuel - 1, by omega⟩
    obtain rfl : i = 64 := by omega
    simp only [md_leastBeside_L6]; rw [if_pos (by decide)]
  | succ r ih =>
    intro i fuel h1 h2
    obtain ⟨fuel, rfl⟩ : ∃ q, fuel = q + 1 := ⟨fuel - 1, by omega⟩
    have nle : ¬ (64 : Int32) ≤ nI i := by show ¬ nI 64 ≤ nI i; rw [zq_le (by decide) (by omega)]; omega
    have i1 := ih (i + 1) fuel (by omega) (by omega)
    have e : lbn tl q (i + 1) = if aj q i = true then min (lbn tl q i) (tl i) else lbn tl q i := rfl
    rw [e] at i1
    have b1 := lbn_b tl q i
    have b2 := hB i (by omega)
    by_cases h : md_apart (nI q) (nI i) = 1
    · rw [if_pos (show aj q i = true from decide_eq_true h)] at i1
      simp only [md_leastBeside_L6, zq_letP]
      rw [if_neg nle, if_pos h, if_pos (zq_inBt (by omega) (by decide)), zq_cl (by omega), ht i (by omega), zq_min (by omega) (by omega), nI_1]
      exact i1
    · rw [if_neg (show ¬ aj q i = true from fun q => h (of_decide_eq_true q))] at i1
      simp only [md_leastBeside_L6, zq_letP]
      rw [if_neg nle, if_neg h, nI_1]
      exact i1
theorem lb_ok (hN : 100 ≤ N) {tl : Nat → Nat} (ht : ∀ q, q < 64 → c 12 q = nI (tl q)) (hB : ∀ q, q < 64 → tl q ≤ 1000000) {q : Nat} (hq : q < 64) : md_leastBeside N c (nI q) = some (c, nI (lbn tl q 64)) :=
  lb_loop (N := N) ht hB hq (kR := fun q2 x3 x4 x5 => (some (q2, x4))) 64 0 N (by omega) (by omega)
/-- what a step costs, by the world c1 -/
def kst (c1 : Nat → Int32) (p2 p3 : Int32) (κ : Nat → Nat) : Prop := ∀ c' : Nat → Nat → Int32, c' 1 = c1 → ∀ i, i < 64 → md_costOf_r c' (nI i) p2 p3 = nI (κ i) ∧ (κ i ≤ 1 ∨ κ i = 1000000) ∧ ky_inB ((45 + (3 * nI i)) + 0) 2247 = true
theorem lp_loop (hN : 100 ≤ N) {c1 : Nat → Int32} {p1 p2 p3 : Int32} {κ tl : Nat → Nat} {f : Nat} (hk : kst c1 p2 p3 κ) (hI : tlI κ f tl) {kR : (Nat → Nat → Int32) → Int32 → Int32 → Int32 → Int32 → Int32 → Option ((Nat → Nat → Int32) × Int32)} : ∀ (r i fuel : Nat) (c : Nat → Nat → Int32), i + r = 64 → r < fuel → c 1 = c1 → (∀ q, q < 64 → c 12 q = nI (tlP κ tl i q)) → ∃ c', md_laysTill_L50 N kR fuel c p1 p2 p3 (if tlM κ tl i = true then 1 else 0) (nI i) = kR c' p1 p2 p3 (if tlM κ tl 64 = true then 1 else 0) (nI 64) ∧ (∀ a, a ≠ 12 → c' a = c a) ∧ ∀ q, q < 64 → c' 12 q = nI (tlP κ tl 64 q) := by
  have hκ : ∀ q, q < 64 → κ q ≤ 1 ∨ κ q = 1000000 := fun q hq => (hk (fun _ => c1) rfl q hq).2.1
  intro r
  induction r with
  | zero =>
    intro i fuel c h1 h2 hc ht
    obtain ⟨fuel, rfl⟩ : ∃ q, fuel = q + 1 := ⟨fuel - 1, by omega⟩
    obtain rfl : i = 64 := by omega
    refine ⟨c, ?_, fun _ _ => rfl, ht⟩
    simp only [md_laysTill_L50]; rw [if_pos (by decide)]
  | succ r ih =>
    intro i fuel c h1 h2 hc ht
    obtain ⟨fuel, rfl⟩ : ∃ q, fuel = q + 1 := ⟨fuel - 1, by omega⟩
    have nle : ¬ (64 : Int32) ≤ nI i := by show ¬ nI 64 ≤ nI i; rw [zq_le (by decide) (by omega)]; omega
    have hI' := tlI_P hκ hI i (by omega)
    have lb := lb_ok (N := N) hN ht hI'.2.1 (q := i) (by omega)
    obtain ⟨k1, k2, k3⟩ := hk c hc i (by omega)
    have b1 := lbn_b (tlP κ tl i) i 64
    have b2 := hI'.2.1 i (by omega)
    have ev : mt_min 1000000 (nI (lbn (tlP κ tl i) i 64) + nI (κ i)) = nI (tlV κ (tlP κ tl i) i) := by
      rw [nI_add]; exact zq_min (x := 1000000) (by decide) (by omega)
    have bv : tlV κ (tlP κ tl i) i ≤ 1000000 := Nat.min_le_left _ _
    have hm := tlM_s κ tl i
    have hin : ky_inB (nI i) 64 = true := zq_inBt (by omega) (by decide)
    have emin : mt_min (nI (tlP κ tl i i)) (nI (tlV κ (tlP κ tl i) i)) = nI (min (tlP κ tl i i) (tlV κ (tlP κ tl i) i)) := zq_min (by omega) (by omega)
    obtain ⟨c2, j1, j2, j3⟩ := ih (i + 1) fuel (bk_w c 12 i (nI (min (tlP κ tl i i) (tlV κ (tlP κ tl i) i)))) (by omega) (by omega) (by rw [bk_w_ne (by decide)]; exact hc) (fun q hq => by
      rw [tlP_s]
      show _ = nI (if q = i then _ else _)
      by_cases e : q = i
      · subst e; rw [bk_w_same, if_pos rfl]
      · rw [bk_w_at e, if_neg e]; exact ht q hq)
    refine ⟨c2, ?_, fun a ha => by rw [j2 a ha, bk_w_ne ha], j3⟩
    rw [← j1, hm]
    have zle : (nI (tlP κ tl i i) ≤ nI (tlV κ (tlP κ tl i) i)) = (tlP κ tl i i ≤ tlV κ (tlP κ tl i) i) := zq_le (by omega) (by omega)
    simp only [md_laysTill_L50, zq_letP]
    rw [if_neg nle, lb]
    simp only [zq_bindP]
    rw [if_pos (fun _ _ => k3), if_pos (fun _ _ _ => k3), if_pos (fun _ => k3), k1, ev]
    cases hm1 : tlM κ tl i with
    | true =>
      rw [if_pos rfl, if_neg (by decide), if_pos hin, zq_cl (by omega), ht i (by omega), emin, nI_1, Bool.true_or, if_pos rfl]
    | false =>
      have z0 : (if false = true then (1 : Int32) else 0) = 0 := rfl
      rw [z0, if_pos rfl, if_pos hin, zq_cl (by omega), ht i (by omega), emin, nI_1, Bool.false_or]
      by_cases hlt : tlV κ (tlP κ tl i) i < tlP κ tl i i
      · rw [if_neg (by rw [zle]; omega), decide_eq_true hlt, if_pos rfl]
      · rw [if_pos (by rw [zle]; omega), decide_eq_false hlt, if_neg (by decide)]
theorem lwt_loop (hN : 100 ≤ N) {c1 : Nat → Int32} {p1 p2 p3 : Int32} {κ : Nat → Nat} {f : Nat} (hk : kst c1 p2 p3 κ) {kR : (Nat → Nat → Int32) → Int32 → Int32 → Int32 → Int32 → Option ((Nat → Nat → Int32) × Int32)} : ∀ (M fuel : Nat) (tl : Nat → Nat) (c : Nat → Nat → Int32), tlI κ f tl → fb_sm tl 64 ≤ M → M + 1 < fuel → c 1 = c1 → (∀ q, q < 64 → c 12 q = nI (tl q)) → ∃ c' tl', md_laysTill_L39 N kR fuel c p1 p2 p3 1 = kR c' p1 p2 p3 0 ∧ (∀ a, a ≠ 12 → c' a = c a) ∧ (∀ q, q < 64 → c' 12 q = nI (tl' q)) ∧ tlF κ f tl' := by
  have hκ : ∀ q, q < 64 → κ q ≤ 1 ∨ κ q = 1000000 := fun q hq => (hk (fun _ => c1) rfl q hq).2.1
  intro M
  induction M using Nat.strongRecOn with
  | ind M ih =>
    intro fuel tl c hI hM hf hc ht
    obtain ⟨fuel, rfl⟩ : ∃ q, fuel = q + 1 := ⟨fuel - 1, by omega⟩
    obtain ⟨c2, j1, j2, j3⟩ := lp_loop (N := N) hN hk hI (kR := fun q3 x4 x5 x6 x7 x8 => (md_laysTill_L39 N kR fuel q3 x4 x5 x6 x7)) (p1 := p1) 64 0 N c (by omega) (by omega) hc ht
    have j1' : md_laysTill_L50 N (fun q3 x4 x5 x6 x7 x8 => (md_laysTill_L39 N kR fuel q3 x4 x5 x6 x7)) N c p1 p2 p3 0 0 = md_laysTill_L39 N kR fuel c2 p1 p2 p3 (if tlM κ tl 64 = true then 1 else 0) := j1
    have hI2 := tlI_P hκ hI 64 (by omega)
    have hd := tlM_d κ tl 64 (by omega)
    have e0 : md_laysTill_L39 N kR (fuel + 1) c p1 p2 p3 1 = md_laysTill_L39 N kR fuel c2 p1 p2 p3 (if tlM κ tl 64 = true then 1 else 0) := by
      simp only [md_laysTill_L39]
      rw [if_neg (by decide)]
      exact j1'
    cases hm : tlM κ tl 64 with
    | true =>
      rw [hm, if_pos rfl] at e0 hd
      obtain ⟨c3, tl3, q1, q2, q3, q4⟩ := ih (M - 1) (by omega) fuel (tlP κ tl 64) c2 hI2 (by omega) (by omega) (by rw [j2 1 (by decide)]; exact hc) j3
      exact ⟨c3, tl3, e0.trans q1, fun a ha => (q2 a ha).trans (j2 a ha), q3, q4⟩
    | false =>
      rw [hm, if_neg (by decide)] at e0
      obtain ⟨a1, a2⟩ := tlM_f 64 hm
      refine ⟨c2, tlP κ tl 64, e0.trans ?_, j2, j3, hI2, ?_⟩
      · obtain ⟨fuel, rfl⟩ : ∃ q, fuel = q + 1 := ⟨fuel - 1, by omega⟩
        simp only [md_laysTill_L39]
        rw [if_pos trivial]
      · rw [a1]; exact a2
theorem l3_loop {p2 p3 : Int32} {f : Nat} (hf : f < 64) {kR : (Nat → Nat → Int32) → Int32 → Int32 → Int32 → Int32 → Option ((Nat → Nat → Int32) × Int32)} : ∀ (r i fuel : Nat) (c : Nat → Nat → Int32), i + r = 64 → r < fuel → (∀ q, q < i → c 12 q = nI (if q = f then 0 else 1000000)) → ∃ c', md_laysTill_L3 N kR fuel c (nI f) p2 p3 (nI i) = kR c' (nI f) p2 p3 (nI 64) ∧ (∀ a, a ≠ 12 → c' a = c a) ∧ ∀ q, q < 64 → c' 12 q = nI (if q = f then 0 else 1000000) := by
  intro r
  induction r with
  | zero =>
    intro i fuel c h1 h2 hc
    obtain ⟨fuel, rfl⟩ : ∃ q, fuel = q + 1 := ⟨fuel - 1, by omega⟩
    obtain rfl : i = 64 := by omega
    refine ⟨c, ?_, fun _ _ => rfl, hc⟩
    simp only [md_laysTill_L3]; rw [if_pos (by decide)]
  | succ r ih =>
    intro i fuel c h1 h2 hc
    obtain ⟨fuel, rfl⟩ : ∃ q, fuel = q + 1 := ⟨fuel - 1, by omega⟩
    have nle : ¬ (64 : Int32) ≤ nI i := by show ¬ nI 64 ≤ nI i; rw [zq_le (by decide) (by omega)]; omega
    have ze : (nI i = nI f) = (i = f) := zq_eq (by omega) (by omega)
    obtain ⟨c2, j1, j2, j3⟩ := ih (i + 1) fuel (bk_w c 12 i (nI (if i = f then 0 else 1000000))) (by omega) (by omega) (fun q hq => by
      by_cases e : q = i
      · subst e; rw [bk_w_same]
      · rw [bk_w_at e]; exact hc q (by omega))
    refine ⟨c2, ?_, fun a ha => by rw [j2 a ha, bk_w_ne ha], j3⟩
    rw [← j1]
    simp only [md_laysTill_L3, zq_letP]
    by_cases h : i = f
    · rw [if_neg nle, if_pos (by rw [ze]; exact h), if_pos (zq_inBt (by omega) (by decide)), zq_cl (by omega), nI_1, if_pos h]
      rfl
    · rw [if_neg nle, if_neg (by rw [ze]; exact h), if_pos (zq_inBt (by omega) (by decide)), zq_cl (by omega), nI_1, if_neg h]
      rfl
theorem lt_ok (hN : 2000000000 ≤ N) {p2 p3 : Int32} {κ : Nat → Nat} {f : Nat} (hf : f < 64) (hk : kst (c 1) p2 p3 κ) : ∃ c' tl, md_laysTill N c (nI f) p2 p3 = some (c', 0) ∧ (∀ a, a ≠ 12 → c' a = c a) ∧ (∀ q, q < 64 → c' 12 q = nI (tl q)) ∧ tlF κ f tl := by
  obtain ⟨c2, j1, j2, j3⟩ := l3_loop (N := N) (p2 := p2) (p3 := p3) hf (kR := fun q2 x3 x4 x5 x6 => (md_laysTill_L39 N (fun q8 x9 x10 x11 x12 => (some (q8, 0))) N q2 x3 x4 x5 1)) 64 0 N c (by omega) (by omega) (fun q hq => by omega)
  have hI : tlI κ f (fun q => if q = f then 0 else 1000000) := ⟨if_pos rfl, fun q _ => by show (if q = f then 0 else 1000000) ≤ 1000000; split <;> omega, fun q hq hl => by
    have hl : (if q = f then 0 else 1000000) < 1000000 := hl
    show ∃ n, wkp κ f n q (if q = f then 0 else 1000000)
    by_cases e : q = f
    · rw [if_pos e]; exact ⟨0, e, rfl⟩
    · rw [if_neg e] at hl; omega⟩
  have hs : fb_sm (fun q => if q = f then 0 else 1000000) 64 ≤ 64 * 1000000 := fb_sm_bound (fun q _ => by show (if q = f then 0 else 1000000) ≤ 1000000; split <;> omega)
  obtain ⟨c3, tl, q1, q2, q3, q4⟩ := lwt_loop (N := N) (by omega) hk (kR := fun q8 x9 x10 x11 x12 => (some (q8, 0))) (p1 := nI f) (64 * 1000000) N _ c2 hI hs (by omega) (j2 1 (by decide)) j3
  exact ⟨c3, tl, j1.trans q1, fun a ha => (q2 a ha).trans (j2 a ha), q3, q4⟩
/-! costs -/
def kW (W : Nat → Nat) (w q : Nat) : Nat := if W (45 + 3 * q) < w then 1000000 else 1
def kB (W : Nat → Nat) (w q : Nat) : Nat := if q = W 10 then 1000000 else if W (45 + 3 * q) < w then (if W (45 + 3 * q) + 3 < w then 1000000 else 1) else 0
theorem kW_st (Rc : rwd c W sd m) {w : Nat} (hw9 : w ≤ 9) : kst (c 1) (nI w) 0 (kW W w) := by
  intro c' hc i hi
  have Rc' : rwd c' W sd m := rwd_k Rc hc
  have hb9 := (Rc.2.1.2.2.1 i hi).1
  obtain ⟨o, n⟩ := of_R Rc' (i := i) (k := 0) hi (by decide)
  have o : md_of_r c' (nI i) 0 = nI (W (45 + 3 * i)) := o
  refine ⟨?_, ?_, n⟩
  · unfold md_costOf_r kW
    rw [if_pos rfl, o]
    have zl : (nI (W (45 + 3 * i)) < nI w) = (W (45 + 3 * i) < w) := zq_lt (by omega) (by omega)
    by_cases h : W (45 + 3 * i) < w
    · rw [if_pos (by rw [zl]; exact h), if_pos h]; rfl
    · rw [if_neg (by rw [zl]; exact h), if_neg h]; rfl
  · unfold kW
    split
    · exact .inr rfl
    · exact .inl (Nat.le_refl _)
theorem kB_st (Rc : rwd c W sd m) {w : Nat} (hw9 : w ≤ 9) : kst (c 1) (nI w) 1 (kB W w) := by
  intro c' hc i hi
  have Rc' : rwd c' W sd m := rwd_k Rc hc
  have hb9 := (Rc.2.1.2.2.1 i hi).1
  have h10 : W 10 ≤ 63 := Rc.2.1.1.2.2.2.2.2.2.2.2.2.2.1
  have c10 : c' 1 10 = nI (W 10) := wv_n Rc'.1 (by decide) (by decide)
  obtain ⟨o, n⟩ := of_R Rc' (i := i) (k := 0) hi (by decide)
  have o : md_of_r c' (nI i) 0 = nI (W (45 + 3 * i)) := o
  have dp : md_deeper (nI (W (45 + 3 * i))) 3 = nI (min 9 (W (45 + 3 * i) + 3)) := md_deepN (b := 3) (by omega) (by decide)
  refine ⟨?_, ?_, n⟩
  · unfold md_costOf_r kB
    rw [if_neg (by decide), c10, o, dp]
    have z1 : (nI i = nI (W 10)) = (i = W 10) := zq_eq (by omega) (by omega)
    have z2 : (nI (W (45 + 3 * i)) < nI w) = (W (45 + 3 * i) < w) := zq_lt (by omega) (by omega)
    have z3 : (nI (min 9 (W (45 + 3 * i) + 3)) < nI w) = (min 9 (W (45 + 3 * i) + 3) < w) := zq_lt (by omega) (by omega)
    by_cases h1 : i = W 10
    · rw [if_pos (by rw [z1]; exact h1), if_pos h1]; rfl
    · rw [if_neg (by rw [z1]; exact h1), if_neg h1]
      by_cases h2 : W (45 + 3 * i) < w
      · rw [if_pos (by rw [z2]; exact h2), if_pos h2]
        by_cases h3 : W (45 + 3 * i) + 3 < w
        · rw [if_pos h3, if_pos (by rw [z3]; omega)]; rfl
        · rw [if_neg h3, if_neg (by rw [z3]; omega)]; rfl
      · rw [if_neg (by rw [z2]; exact h2), if_neg h2]; rfl
  · unfold kB
    repeat' split
    all_goals first | exact .inr rfl | exact .inl (by omega)
end
