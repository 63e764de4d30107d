/-! SEGMENTS of both codes, and what they compute -/
section
variable {cd cd' : Nat → Int32} {e : Nat → Nat} {T T' : Nat → Int32}
theorem cd_at_app {u1 u2 n2 : Nat} (h2 : cd_at cd n2 u1 u2) : ∀ (n i : Nat), cd_at cd n i u1 → cd_at cd (n + n2) i u2
  | 0, i, h => by
    have h : i = u1 := h
    rw [Nat.zero_add, h]; exact h2
  | n + 1, i, h => by
    have l := cd_at_le h2
    rw [show n + 1 + n2 = (n + n2) + 1 by omega]
    exact ⟨by have := h.1; omega, cd_at_app h2 n _ h.2⟩
theorem cd_run_app {u1 n2 : Nat} : ∀ (n i b : Nat), cd_at cd n i u1 → cd_run cd e (n + n2) i b = cd_run cd e n2 u1 (cd_run cd e n i b)
  | 0, i, b, h => by
    have h : i = u1 := h
    rw [Nat.zero_add, h]; rfl
  | n + 1, i, b, h => by
    rw [show n + 1 + n2 = (n + n2) + 1 by omega]
    exact cd_run_app n _ _ h.2
theorem cd_safe_app {u1 n2 : Nat} : ∀ (n i b : Nat), cd_at cd n i u1 → cd_safe cd e n i b → cd_safe cd e n2 u1 (cd_run cd e n i b) → cd_safe cd e (n + n2) i b
  | 0, i, b, h, _, h2 => by
    have h : i = u1 := h
    rw [Nat.zero_add, h]
    have h2 : cd_safe cd e n2 u1 b := h2
    exact h2
  | n + 1, i, b, h, h1, h2 => by
    rw [show n + 1 + n2 = (n + n2) + 1 by omega]
    exact ⟨h1.1, cd_safe_app n _ _ h.2 h1.2 h2⟩
theorem cd_sum_cong {i u : Nat} : ∀ (n : Nat), i + 3 + 2 * n ≤ u → (∀ k, k < u → cd' k = cd k) → cd_sum cd' e i n = cd_sum cd e i n
  | 0, h, hc => by
    show (cd' (i + 1)).toInt = (cd (i + 1)).toInt
    rw [hc _ (by omega)]
  | n + 1, h, hc => by
    show cd_sum cd' e i n + (cd' (i + 3 + 2 * n + 1)).toInt * (e (cd' (i + 3 + 2 * n)).toNatClampNeg : Int) = cd_sum cd e i n + (cd (i + 3 + 2 * n + 1)).toInt * (e (cd (i + 3 + 2 * n)).toNatClampNeg : Int)
    rw [cd_sum_cong n (by omega) hc, hc _ (by omega), hc _ (by omega)]
theorem cd_len_cong {i u : Nat} (hl : i + cd_len cd i ≤ u) (hc : ∀ k, k < u → cd' k = cd k) (hi : i < u) : cd_len cd' i = cd_len cd i := by
  unfold cd_len at hl ⊢
  rw [hc i hi]
  by_cases h : cd i = 0
  · rw [if_pos h] at hl ⊢
    rw [if_pos h, hc _ (by omega)]
  · rw [if_neg h, if_neg h]
theorem cd_step_cong {i u b : Nat} (hl : i + cd_len cd i ≤ u) (hc : ∀ k, k < u → cd' k = cd k) (hi : i < u) : cd_step cd' e i b = cd_step cd e i b := by
  unfold cd_step
  unfold cd_len at hl
  rw [hc i hi]
  by_cases h : cd i = 0
  · rw [if_pos h] at hl
    rw [if_pos h, if_pos h, hc (i + 2) (by omega), cd_sum_cong _ (by omega) hc]
  · rw [if_neg h, if_neg h]
theorem cd_cong {u : Nat} (hc : ∀ k, k < u → cd' k = cd k) : ∀ (n i : Nat), cd_at cd n i u → cd_at cd' n i u ∧ (∀ b, cd_run cd' e n i b = cd_run cd e n i b) ∧ ∀ b, cd_safe cd e n i b → cd_safe cd' e n i b
  | 0, _, h => ⟨h, fun _ => rfl, fun _ _ => trivial⟩
  | n + 1, i, h => by
    have hl := cd_at_le h.2
    have el := cd_len_cong hl hc h.1
    obtain ⟨a1, a2, a3⟩ := cd_cong hc n _ h.2
    refine ⟨⟨h.1, by rw [el]; exact a1⟩, fun b => ?_, fun b hs => ?_⟩
    · show cd_run cd' e n (i + cd_len cd' i) (cd_step cd' e i b) = cd_run cd e n (i + cd_len cd i) (cd_step cd e i b)
      rw [el, cd_step_cong hl hc h.1, a2]
    · refine ⟨⟨hs.1.1, by rw [hc i h.1]; exact hs.1.2.1, fun h0 => ?_⟩, ?_⟩
      · rw [hc i h.1] at h0
        obtain ⟨q, q1, q2, q3, q4⟩ := hs.1.2.2 h0
        have hl' : i + (3 + 2 * q) ≤ u := by
          unfold cd_len at hl
          rw [if_pos h0, q2, zq_cl (by omega)] at hl
          exact hl
        refine ⟨q, q1, by rw [hc _ (by omega)]; exact q2, by rw [hc _ (by omega)]; exact q3, fun j hj => ?_⟩
        rw [hc _ (by omega), hc _ (by omega)]
        exact q4 j hj
      · rw [el, cd_step_cong hl hc h.1]
        exact a3 _ hs.2
/-- from u to u' the class's code pushes the bit g -/
def segC (cd : Nat → Int32) (u u' : Nat) (g : (Nat → Nat) → Bool) (β : Nat) : Prop := ∃ nt, cd_at cd nt u u' ∧ ∀ e, lw_sml e → ∀ b, b < β → cd_safe cd e nt u b ∧ cd_run cd e nt u b = 2 * b + (if g e = true then 1 else 0)
theorem segC_cong {u u' β : Nat} {g : (Nat → Nat) → Bool} (hc : ∀ k, k < u' → cd' k = cd k) (h : segC cd u u' g β) : segC cd' u u' g β := by
  obtain ⟨nt, h1, h2⟩ := h
  refine ⟨nt, (cd_cong (e := fun _ => 0) hc nt u h1).1, fun e he b hb => ?_⟩
  obtain ⟨_, a2, a3⟩ := cd_cong (e := e) hc nt u h1
  obtain ⟨b1, b2⟩ := h2 e he b hb
  exact ⟨a3 b b1, by rw [a2]; exact b2⟩
theorem segC_mono {u u' β β' : Nat} {g : (Nat → Nat) → Bool} (hb : β' ≤ β) (h : segC cd u u' g β) : segC cd u u' g β' := by
  obtain ⟨nt, h1, h2⟩ := h
  exact ⟨nt, h1, fun e he b hb' => h2 e he b (by omega)⟩
/-- a token of one number behind a segment -/
theorem segC_un {u u' β : Nat} {g g' : (Nat → Nat) → Bool} (h : segC cd u u' g β) (hk : cd u' = 1 ∨ cd u' = 2 ∨ cd u' = 3 ∨ cd u' = 4) (hβ : β ≤ 200000000) (hs : ∀ e b, lw_sml e → b < β → cd_step cd e u' (2 * b + (if g e = true then 1 else 0)) = 2 * b + (if g' e = true then 1 else 0)) : segC cd u (u' + 1) g' β := by
  obtain ⟨nt, h1, h2⟩ := h
  have n0 : ¬ cd u' = 0 := by rcases hk with h | h | h | h <;> rw [h] <;> decide
  have el : cd_len cd u' = 1 := by unfold cd_len; rw [if_neg n0]
  have a1 : cd_at cd 1 u' (u' + 1) := ⟨by omega, by rw [el]; rfl⟩
  refine ⟨nt + 1, cd_at_app a1 nt u h1, fun e he b hb => ?_⟩
  obtain ⟨b1, b2⟩ := h2 e he b hb
  constructor
  · refine cd_safe_app nt u b h1 b1 ⟨⟨?_, .inr hk, fun h => absurd h n0⟩, trivial⟩
    rw [b2]
    split <;> omega
  · rw [cd_run_app nt u b h1, b2]
    exact hs e b he hb
theorem segC_not {u u' β : Nat} {g : (Nat → Nat) → Bool} (h : segC cd u u' g β) (hk : cd u' = 2) (hβ : β ≤ 200000000) : segC cd u (u' + 1) (fun e => !g e) β := by
  refine segC_un h (.inr (.inl hk)) hβ (fun e b he hb => ?_)
  unfold cd_step
  rw [hk, if_neg (by decide), if_neg (by decide), if_pos (by decide)]
  cases g e with
  | true =>
    show (if (2 * b + 1) % 2 = 1 then 2 * b + 1 - 1 else 2 * b + 1 + 1) = 2 * b + 0
    split <;> omega
  | false =>
    show (if (2 * b + 0) % 2 = 1 then 2 * b + 0 - 1 else 2 * b + 0 + 1) = 2 * b + 1
    split <;> omega
theorem segC_lying {u β : Nat} (hk : cd u = 1) (hβ : β ≤ 200000000) : segC cd u (u + 1) (fun e => decide (e 6 = 1)) β := by
  have n0 : ¬ cd u = 0 := by rw [hk]; decide
  have el : cd_len cd u = 1 := by unfold cd_len; rw [if_neg n0]
  refine ⟨1, ⟨by omega, by rw [el]; rfl⟩, fun e he b hb => ⟨⟨⟨by omega, .inr (.inl hk), fun h => absurd h n0⟩, trivial⟩, ?_⟩⟩
  show cd_step cd e u b = _
  unfold cd_step
  rw [if_neg n0, if_pos hk]
  have : e 6 ≤ 1 := he.2.2.2.2.2.2
  by_cases h : e 6 = 1
  · rw [if_pos (decide_eq_true h), h]
  · rw [if_neg (fun q => h (of_decide_eq_true q))]; omega
/-- two segments and a sign -/
theorem segC_two {u u1 u2 β : Nat} {g1 g2 : (Nat → Nat) → Bool} (h1 : segC cd u u1 g1 β) (h2 : segC cd u1 u2 g2 (2 * β)) (hβ : β ≤ 100000000) : ∃ nt, cd_at cd nt u u2 ∧ ∀ e, lw_sml e → ∀ b, b < β → cd_safe cd e nt u b ∧ cd_run cd e nt u b = 4 * b + 2 * (if g1 e = true then 1 else 0) + (if g2 e = true then 1 else 0) := by
  obtain ⟨n1, a1, a2⟩ := h1
  obtain ⟨n2, b1, b2⟩ := h2
  refine ⟨n1 + n2, cd_at_app b1 n1 u a1, fun e he b hb => ?_⟩
  obtain ⟨c1, c2⟩ := a2 e he b hb
  have lt : 2 * b + (if g1 e = true then 1 else 0) < 2 * β := by split <;> omega
  obtain ⟨d1, d2⟩ := b2 e he _ lt
  refine ⟨cd_safe_app n1 u b a1 c1 (by rw [c2]; exact d1), ?_⟩
  rw [cd_run_app n1 u b a1, c2, d2]
  omega
theorem segC_bin {u u1 u2 β : Nat} {g1 g2 g : (Nat → Nat) → Bool} (h1 : segC cd u u1 g1 β) (h2 : segC cd u1 u2 g2 (2 * β)) (hβ : β ≤ 100000000) (hk : cd u2 = 3 ∨ cd u2 = 4) (hs : ∀ e b, cd_step cd e u2 (4 * b + 2 * (if g1 e = true then 1 else 0) + (if g2 e = true then 1 else 0)) = 2 * b + (if g e = true then 1 else 0)) : segC cd u (u2 + 1) g β := by
  obtain ⟨nt, a1, a2⟩ := segC_two h1 h2 hβ
  have n0 : ¬ cd u2 = 0 := by rcases hk with h | h <;> rw [h] <;> decide
  have el : cd_len cd u2 = 1 := by unfold cd_len; rw [if_neg n0]
  have t1 : cd_at cd 1 u2 (u2 + 1) := ⟨by omega, by rw [el]; rfl⟩
  refine ⟨nt + 1, cd_at_app t1 nt u a1, fun e he b hb => ?_⟩
  obtain ⟨b1, b2⟩ := a2 e he b hb
  constructor
  · refine cd_safe_app nt u b a1 b1 ⟨⟨?_, .inr (.inr (.inr hk)), fun h => absurd h n0⟩, trivial⟩
    rw [b2]
    split <;> split <;> omega
  · rw [cd_run_app nt u b a1, b2]
    exact hs e b
theorem segC_and {u u1 u2 β : Nat} {g1 g2 : (Nat → Nat) → Bool} (h1 : segC cd u u1 g1 β) (h2 : segC cd u1 u2 g2 (2 * β)) (hβ : β ≤ 100000000) (hk : cd u2 = 3) : segC cd u (u2 + 1) (fun e => g1 e && g2 e) β := by
  refine segC_bin h1 h2 hβ (.inl hk) (fun e b => ?_)
  unfold cd_step
  rw [hk, if_neg (by decide), if_neg (by decide), if_neg (by decide), if_pos (by decide)]
  cases g1 e <;> cases g2 e
  · show (if (4 * b + 2 * 0 + 0) % 2 = 1 then (4 * b + 2 * 0 + 0) / 2 else 2 * ((4 * b + 2 * 0 + 0) / 4)) = 2 * b + 0
    split <;> omega
  · show (if (4 * b + 2 * 0 + 1) % 2 = 1 then (4 * b + 2 * 0 + 1) / 2 else 2 * ((4 * b + 2 * 0 + 1) / 4)) = 2 * b + 0
    split <;> omega
  · show (if (4 * b + 2 * 1 + 0) % 2 = 1 then (4 * b + 2 * 1 + 0) / 2 else 2 * ((4 * b + 2 * 1 + 0) / 4)) = 2 * b + 0
    split <;> omega
  · show (if (4 * b + 2 * 1 + 1) % 2 = 1 then (4 * b + 2 * 1 + 1) / 2 else 2 * ((4 * b + 2 * 1 + 1) / 4)) = 2 * b + 1
    split <;> omega
theorem segC_or {u u1 u2 β : Nat} {g1 g2 : (Nat → Nat) → Bool} (h1 : segC cd u u1 g1 β) (h2 : segC cd u1 u2 g2 (2 * β)) (hβ : β ≤ 100000000) (hk : cd u2 = 4) : segC cd u (u2 + 1) (fun e => g1 e || g2 e) β := by
  refine segC_bin h1 h2 hβ (.inr hk) (fun e b => ?_)
  unfold cd_step
  rw [hk, if_neg (by decide), if_neg (by decide), if_neg (by decide), if_neg (by decide)]
  cases g1 e <;> cases g2 e
  · show (if (4 * b + 2 * 0 + 0) % 2 = 1 then 2 * ((4 * b + 2 * 0 + 0) / 4) + 1 else (4 * b + 2 * 0 + 0) / 2) = 2 * b + 0
    split <;> omega
  · show (if (4 * b + 2 * 0 + 1) % 2 = 1 then 2 * ((4 * b + 2 * 0 + 1) / 4) + 1 else (4 * b + 2 * 0 + 1) / 2) = 2 * b + 1
    split <;> omega
  · show (if (4 * b + 2 * 1 + 0) % 2 = 1 then 2 * ((4 * b + 2 * 1 + 0) / 4) + 1 else (4 * b + 2 * 1 + 0) / 2) = 2 * b + 1
    split <;> omega
  · show (if (4 * b + 2 * 1 + 1) % 2 = 1 then 2 * ((4 * b + 2 * 1 + 1) / 4) + 1 else (4 * b + 2 * 1 + 1) / 2) = 2 * b + 1
    split <;> omega
theorem segC_cmp {u q β : Nat} (hβ : β ≤ 200000000) (h0 : cd u = 0) (h2 : cd (u + 2) = nI q) (hq : q ≤ 6) (h1 : -400000 ≤ (cd (u + 1)).toInt ∧ (cd (u + 1)).toInt ≤ 400000) (hj : ∀ j, j < q → (∃ f, f ≤ 5 ∧ cd (u + 3 + 2 * j) = nI f) ∧ -400 ≤ (cd (u + 3 + 2 * j + 1)).toInt ∧ (cd (u + 3 + 2 * j + 1)).toInt ≤ 400) : segC cd u (u + 3 + 2 * q) (fun e => decide (cd_sum cd e u q < 0)) β := by
  have el : cd_len cd u = 3 + 2 * q := by unfold cd_len; rw [if_pos h0, h2, zq_cl (by omega)]
  refine ⟨1, ⟨by omega, by rw [el]; show u + (3 + 2 * q) = _; omega⟩, fun e he b hb => ⟨⟨⟨by omega, .inl h0, fun _ => ⟨q, hq, h2, h1, hj⟩⟩, trivial⟩, ?_⟩⟩
  show cd_step cd e u b = _
  unfold cd_step
  rw [if_pos h0, h2, zq_cl (by omega)]
  simp
/-! the reference's -/
theorem rf_run_app : ∀ (n n2 i : Nat) (st : List Nat), rf_run T e (n + n2) i st = rf_run T e n2 (i + n) (rf_run T e n i st)
  | 0, n2, i, st => by rw [Nat.zero_add]; rfl
  | n + 1, n2, i, st => by
    rw [show n + 1 + n2 = (n + n2) + 1 by omega, show i + (n + 1) = i + 1 + n by omega]
    exact rf_run_app n n2 (i + 1) _
theorem rf_safe_app : ∀ (n n2 i : Nat) (st : List Nat), rf_safe T e n i st → rf_safe T e n2 (i + n) (rf_run T e n i st) → rf_safe T e (n + n2) i st
  | 0, n2, i, st, _, h2 => by rw [Nat.zero_add]; exact h2
  | n + 1, n2, i, st, h1, h2 => by
    rw [show n + 1 + n2 = (n + n2) + 1 by omega]
    refine ⟨h1.1, rf_safe_app n n2 (i + 1) _ h1.2 ?_⟩
    rw [show i + (n + 1) = i + 1 + n by omega] at h2
    exact h2
/-- from a to a' the reference's rows push the number f -/
def segV (T : Nat → Int32) (a a' : Nat) (f : (Nat → Nat) → Nat) : Prop := a ≤ a' ∧ ∀ e, lw_sml e → ∀ st, rf_safe T e (a' - a) a st ∧ rf_run T e (a' - a) a st = f e :: st
theorem segV_cong {a a' : Nat} {f : (Nat → Nat) → Nat} (hc : ∀ k, k < 49 + 2 * a' → T' k = T k) (h : segV T a a' f) : segV T' a a' f := by
  refine ⟨h.1, fun e he st => ?_⟩
  have l := h.1
  obtain ⟨h1, h2⟩ := h.2 e he st
  exact ⟨rf_safe_congr _ _ _ (fun k hk => hc k (by omega)) h1, by rw [rf_run_congr _ _ _ (fun k hk => hc k (by omega))]; exact h2⟩
theorem segV_ext {a a' : Nat} {f f' : (Nat → Nat) → Nat} (h : segV T a a' f) (he : ∀ e, lw_sml e → f' e = f e) : segV T a a' f' := ⟨h.1, fun e hs st => by rw [he e hs]; exact h.2 e hs st⟩
theorem segV_fact {a k : Nat} (hk : k ≤ 6) (h : T (49 + 2 * a) = nI k) : segV T a (a + 1) (fun e => e k) := by
  refine ⟨by omega, fun e he st => ?_⟩
  rw [show a + 1 - a = 1 by omega]
  refine ⟨⟨⟨k, by omega, h, fun h => by omega, .inl (by omega)⟩, trivial⟩, ?_⟩
  show rf_step T e a st = _
  unfold rf_step
  rw [h, zq_cl (by omega)]
  simp only [if_pos hk]
theorem segV_told {a v : Nat} (hv : v ≤ 999) (h : T (49 + 2 * a) = nI 7) (h2 : T (50 + 2 * a) = nI v) : segV T a (a + 1) (fun _ => v) := by
  refine ⟨by omega, fun e he st => ?_⟩
  rw [show a + 1 - a = 1 by omega]
  refine ⟨⟨⟨7, by omega, h, fun _ => ⟨v, hv, h2⟩, .inl (by omega)⟩, trivial⟩, ?_⟩
  show rf_step T e a st = _
  unfold rf_step
  rw [h, h2, zq_cl (by omega), zq_cl (by omega)]
  simp
theorem segV_not {a a' : Nat} {f : (Nat → Nat) → Nat} (h : segV T a a' f) (hf : ∀ e, lw_sml e → f e ≤ 1) (hk : T (49 + 2 * a') = nI 11) : segV T a (a' + 1) (fun e => 1 - f e) := by
  have l := h.1
  refine ⟨by omega, fun e he st => ?_⟩
  obtain ⟨h1, h2⟩ := h.2 e he st
  rw [show a' + 1 - a = (a' - a) + 1 by omega]
  constructor
  · refine rf_safe_app _ 1 a st h1 ?_
    rw [h2, show a + (a' - a) = a' by omega]
    exact ⟨⟨11, by omega, hk, fun h => by omega, .inr (.inl ⟨rfl, f e, st, rfl, hf e he⟩)⟩, trivial⟩
  · rw [rf_run_app, h2, show a + (a' - a) = a' by omega]
    show rf_step T e a' (f e :: st) = _
    unfold rf_step
    rw [hk, zq_cl (by omega)]
    simp
theorem segV_bin {a a1 a2 k : Nat} {f1 f2 f : (Nat → Nat) → Nat} (h1 : segV T a a1 f1) (h2 : segV T a1 a2 f2) (b1 : ∀ e, lw_sml e → f1 e ≤ 1000000) (b2 : ∀ e, lw_sml e → f2 e ≤ 1000000) (hk : T (49 + 2 * a2) = nI k) (k8 : 8 ≤ k) (k13 : k ≤ 13) (k11 : k ≠ 11) (hf : ∀ e, lw_sml e → (if k = 8 then f1 e + f2 e else if k = 9 then (if f1 e < f2 e then 1 else 0) else if k = 10 then (if f2 e < f1 e then 1 else 0) else if k = 12 then (if f1 e + f2 e = 2 then 1 else 0) else (if 0 < f1 e + f2 e then 1 else 0)) = f e) : segV T a (a2 + 1) f := by
  have l1 := h1.1
  have l2 := h2.1
  refine ⟨by omega, fun e he st => ?_⟩
  obtain ⟨s1, r1⟩ := h1.2 e he st
  obtain ⟨s2, r2⟩ := h2.2 e he (f1 e :: st)
  have r12 : rf_run T e ((a1 - a) + (a2 - a1)) a st = f2 e :: f1 e :: st := by
    rw [rf_run_app, r1, show a + (a1 - a) = a1 by omega]; exact r2
  have s12 : rf_safe T e ((a1 - a) + (a2 - a1)) a st := rf_safe_app _ _ a st s1 (by rw [r1, show a + (a1 - a) = a1 by omega]; exact s2)
  rw [show a2 + 1 - a = ((a1 - a) + (a2 - a1)) + 1 by omega]
  constructor
  · refine rf_safe_app _ 1 a st s12 ?_
    rw [r12, show a + ((a1 - a) + (a2 - a1)) = a2 by omega]
    exact ⟨⟨k, k13, hk, fun h => by omega, .inr (.inr ⟨k8, k11, f1 e, f2 e, st, rfl, b1 e he, b2 e he⟩)⟩, trivial⟩
  · rw [rf_run_app, r12, show a + ((a1 - a) + (a2 - a1)) = a2 by omega, ← hf e he]
    show rf_step T e a2 (f2 e :: f1 e :: st) = _
    unfold rf_step
    rw [hk, zq_cl (by omega)]
    simp only []
    rw [if_neg (show ¬ k ≤ 6 by omega), if_neg (show ¬ k = 7 by omega), if_neg k11]
end
