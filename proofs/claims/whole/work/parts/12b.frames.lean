/-! FRAMES of the relation -/
def sfr (V : Nat → Nat → Prop) (s s' : sk_S) : Prop := (∀ a, a < sk_n s → sk_K s' a = sk_K s a) ∧ sk_n s ≤ sk_n s' ∧ (∀ a k, a < sk_n s → ¬ V a k → sk_c s' a k = sk_c s a k ∧ sk_g s' a k = sk_g s a k ∧ sk_r s' a k = sk_r s a k) ∧ ∀ a k, a < sk_n s → sk_fin (sk_K s a).1 k = true → sk_r s' a k = sk_r s a k
theorem sfr.rf {V : Nat → Nat → Prop} {s : sk_S} : sfr V s s := ⟨fun _ _ => rfl, Nat.le_refl _, fun _ _ _ _ => ⟨rfl, rfl, rfl⟩, fun _ _ _ _ => rfl⟩
theorem sfr.tr {V : Nat → Nat → Prop} {s s1 s2 : sk_S} (h : sfr V s s1) (h' : sfr V s1 s2) : sfr V s s2 :=
  ⟨fun a ha => (h'.1 a (by have := h.2.1; omega)).trans (h.1 a ha), Nat.le_trans h.2.1 h'.2.1, fun a k ha hv => by
    obtain ⟨a1, a2, a3⟩ := h.2.2.1 a k ha hv
    obtain ⟨b1, b2, b3⟩ := h'.2.2.1 a k (by have := h.2.1; omega) hv
    exact ⟨b1.trans a1, b2.trans a2, b3.trans a3⟩, fun a k ha hf => (h'.2.2.2 a k (by have := h.2.1; omega) (by rw [h.1 a ha]; exact hf)).trans (h.2.2.2 a k ha hf)⟩
theorem sfr.mono {V V' : Nat → Nat → Prop} {s s1 : sk_S} (h : sfr V s s1) (hV : ∀ a k, a < sk_n s → V a k → V' a k) : sfr V' s s1 :=
  ⟨h.1, h.2.1, fun a k ha hv => h.2.2.1 a k ha (fun q => hv (hV a k ha q)), h.2.2.2⟩
theorem sfr.of {V : Nat → Nat → Prop} {s s1 : sk_S} (h : cfr V s s1) : sfr V s s1 :=
  ⟨fun a _ => by rw [h.1], by rw [h.2.2.2.1]; exact Nat.le_refl _, fun a k _ hv => ⟨h.2.2.2.2.2 a k hv, by rw [h.2.1], by rw [h.2.2.1]⟩, fun a k _ _ => by rw [h.2.2.1]⟩
theorem sfr.wc {V : Nat → Nat → Prop} {s0 s : sk_S} (h : sfr V s0 s) {a k : Nat} (v : Int32) (hv : V a k) : sfr V s0 (sk_wc s a k v) :=
  ⟨h.1, h.2.1, fun b j hb hn => by
    obtain ⟨a1, a2, a3⟩ := h.2.2.1 b j hb hn
    exact ⟨by rw [qc_at _ _ _ _ _ _ (fun e => hn (by rw [e.1, e.2]; exact hv))]; exact a1, a2, a3⟩, h.2.2.2⟩
theorem sfr.wr {V : Nat → Nat → Prop} {s0 s : sk_S} (h : sfr V s0 s) {a k : Nat} (v : Option Nat) (hv : V a k) (hf : sk_n s0 ≤ a ∨ sk_fin (sk_K s0 a).1 k = false) : sfr V s0 (sk_wr s a k v) := by
  have e : ∀ b j, ¬ (b = a ∧ j = k) → sk_r (sk_wr s a k v) b j = sk_r s b j := fun b j hn => by
    by_cases e1 : b = a
    · subst e1
      have : j ≠ k := fun e2 => hn ⟨rfl, e2⟩
      simp [sk_r, sk_wr, va_up, this]
    · simp [sk_r, sk_wr, va_up, e1]
  refine ⟨h.1, h.2.1, fun b j hb hn => ?_, fun b j hb hn => ?_⟩
  · obtain ⟨a1, a2, a3⟩ := h.2.2.1 b j hb hn
    exact ⟨a1, a2, (e b j (fun q => hn (by rw [q.1, q.2]; exact hv))).trans a3⟩
  · refine (e b j (fun q => ?_)).trans (h.2.2.2 b j hb hn)
    rw [q.1] at hb
    rw [q.1, q.2] at hn
    rcases hf with hf | hf
    · omega
    · rw [hf] at hn; cases hn
theorem sfr.rs {V : Nat → Nat → Prop} {s0 s : sk_S} (h : sfr V s0 s) (n : Nat) : sfr V s0 (sk_rs s n) := ⟨h.1, Nat.le_trans h.2.1 (Nat.le_succ _), h.2.2.1, h.2.2.2⟩
theorem sfr.c {V : Nat → Nat → Prop} {s s' : sk_S} (h : sfr V s s') {a k : Nat} (ha : a < sk_n s) (hv : ¬ V a k) : sk_c s' a k = sk_c s a k := (h.2.2.1 a k ha hv).1
theorem sfr.g {V : Nat → Nat → Prop} {s s' : sk_S} (h : sfr V s s') {a k : Nat} (ha : a < sk_n s) (hv : ¬ V a k) : sk_g s' a k = sk_g s a k := (h.2.2.1 a k ha hv).2.1
theorem sfr.r {V : Nat → Nat → Prop} {s s' : sk_S} (h : sfr V s s') {a k : Nat} (ha : a < sk_n s) (hv : ¬ V a k) : sk_r s' a k = sk_r s a k := (h.2.2.1 a k ha hv).2.2
theorem sfr.fr {V : Nat → Nat → Prop} {s s' : sk_S} (h : sfr V s s') (hz : ∀ a, sk_n s ≤ a → (sk_K s a).1 = 0) : sk_fr none s (fun _ => ky_J, 0, 0) s' (fun _ => ky_J, 0, 0) := by
  have lt : ∀ a, (sk_K s a).1 ≠ 0 → a < sk_n s := fun a ha => Nat.lt_of_not_le (fun q => ha (hz a q))
  exact ⟨fun a ha => ⟨h.1 a (lt a ha), fun _ k hk => h.2.2.2 a k (lt a ha) hk⟩, fun a ha h0 => ⟨by rw [h.1 a ha]; exact h0, rfl⟩, h.2.1⟩
theorem sc_fr {V : Nat → Nat → Prop} {s s' : sk_S} {p : Nat} {W : Nat → Nat} {sd : Int32} (h : sc_rel s p W sd) (hz : ∀ a, sk_n s ≤ a → (sk_K s a).1 = 0) (hp : p + 10 ≤ sk_n s) (hV : ∀ i k, i < 10 → V (p + i) k → i = 2 ∧ k = 1) (F : sfr V s s') : sc_rel s' p W sd := by
  obtain ⟨h1, h2, h3, h4, h5, h6, h7, ⟨nx, n1, n2, n3, n4⟩, h9⟩ := h
  have cc : ∀ i k, i < 10 → ¬ (i = 2 ∧ k = 1) → sk_c s' (p + i) k = sk_c s (p + i) k := fun i k hi hn => F.c (by omega) (fun q => hn (hV i k hi q))
  have gg : ∀ k, sk_g s' (p + 4) k = sk_g s (p + 4) k := fun k => F.g (by omega) (fun q => by have := hV 4 k (by decide) q; omega)
  refine ⟨lt_X7 (F.fr hz) h1, h2, ?_, fun j hj => ?_, fun c hc => ?_, ?_, fun k hk => ?_, ⟨nx, n1, ?_, ?_, fun a ha => ?_⟩, ?_⟩
  · rw [cc 1 0 (by decide) (by omega), cc 1 1 (by decide) (by omega), cc 1 2 (by decide) (by omega), cc 1 3 (by decide) (by omega), cc 1 4 (by decide) (by omega), cc 1 5 (by decide) (by omega), cc 1 6 (by decide) (by omega), cc 1 7 (by decide) (by omega)]
    exact h3
  · rw [cc 3 j (by decide) (by omega)]; exact h4 j hj
  · rw [cc 5 c (by decide) (by omega), gg 3, gg 4]; exact h5 c hc
  · rw [cc 4 5 (by decide) (by omega), cc 4 6 (by decide) (by omega), cc 4 7 (by decide) (by omega)]; exact h6
  · rw [cc 6 k (by decide) (by omega), cc 7 k (by decide) (by omega)]; exact h7 k hk
  · rw [cc 8 1 (by decide) (by omega)]; exact n2
  · rw [cc 8 2 (by decide) (by omega)]; exact n3
  · rw [cc 9 _ (by decide) (by omega)]; exact n4 a ha
  · exact (cc 0 4 (by decide) (by omega)).trans h9
theorem lwC_fr {V : Nat → Nat → Prop} {s s' : sk_S} {q : Nat} {m : lwM} (h : lwC s q m) (hz : ∀ a, sk_n s ≤ a → (sk_K s a).1 = 0) (hp : q + 6 ≤ sk_n s) (h0 : ∀ k, V q k → 6 ≤ k) (hV : ∀ i k, 1 ≤ i → i ≤ 4 → ¬ V (q + i) k) (F : sfr V s s') : lwC s' q m := by
  have kk : ∀ i, i < 6 → sk_K s' (q + i) = sk_K s (q + i) := fun i hi => F.1 _ (by omega)
  have cc : ∀ i, 1 ≤ i → i ≤ 4 → sk_c s' (q + i) = sk_c s (q + i) := fun i h1 h4 => funext fun k => F.c (by omega) (hV i k h1 h4)
  obtain ⟨g1, g2⟩ := h
  refine ⟨lt_X3 (F.fr hz) g1, ?_⟩
  rw [F.c (a := q) (by omega) (fun e => by have := h0 0 e; omega), kk 1 (by decide), kk 2 (by decide), kk 3 (by decide), kk 4 (by decide), cc 1 (by decide) (by decide), cc 2 (by decide) (by decide), cc 3 (by decide) (by decide), cc 4 (by decide) (by decide)]
  exact g2
/-! rows of the reference that count -/
def ceq (c c' : Nat → Nat → Int32) : Prop := (∀ k, k < 1398 → c' 1 k = c 1 k) ∧ (∀ k, k < 1398 → c' 2 k = c 2 k) ∧ (∀ k, k < 6588 → c' 5 k = c 5 k) ∧ c' 0 6 = c 0 6 ∧ c' 0 7 = c 0 7 ∧ c' 0 9 = c 0 9 ∧ c' 0 14 = c 0 14 ∧ ∀ k, k < 400 → c' 6 k = c 6 k
theorem ceq.rf {c : Nat → Nat → Int32} : ceq c c := ⟨fun _ _ => rfl, fun _ _ => rfl, fun _ _ => rfl, rfl, rfl, rfl, rfl, fun _ _ => rfl⟩
theorem ceq.tr {c c1 c2 : Nat → Nat → Int32} (h : ceq c c1) (h' : ceq c1 c2) : ceq c c2 := ⟨fun k hk => (h'.1 k hk).trans (h.1 k hk), fun k hk => (h'.2.1 k hk).trans (h.2.1 k hk), fun k hk => (h'.2.2.1 k hk).trans (h.2.2.1 k hk), h'.2.2.2.1.trans h.2.2.2.1, h'.2.2.2.2.1.trans h.2.2.2.2.1, h'.2.2.2.2.2.1.trans h.2.2.2.2.2.1, h'.2.2.2.2.2.2.1.trans h.2.2.2.2.2.2.1, fun k hk => (h'.2.2.2.2.2.2.2 k hk).trans (h.2.2.2.2.2.2.2 k hk)⟩
/-- a write that does not count -/
def cfree (k j : Nat) : Prop := k = 3 ∨ k = 4 ∨ 7 ≤ k ∨ (k = 0 ∧ j ≠ 6 ∧ j ≠ 7 ∧ j ≠ 9 ∧ j ≠ 14) ∨ (k = 1 ∧ 1398 ≤ j)
theorem ceq.w {c c1 : Nat → Nat → Int32} (h : ceq c c1) {k j : Nat} (v : Int32) (hf : cfree k j) : ceq c (bk_w c1 k j v) := by
  have e : ∀ a b, ¬ (a = k ∧ b = j) → bk_w c1 k j v a b = c1 a b := fun a b hn => by
    by_cases e1 : a = k
    · subst e1; exact bk_w_at (fun e2 => hn ⟨rfl, e2⟩)
    · rw [bk_w_ne e1]
  unfold cfree at hf
  obtain ⟨h1, h2, h3, h4, h5, h6, h7, h8⟩ := h
  exact ⟨fun q hq => (e 1 q (by omega)).trans (h1 q hq), fun q hq => (e 2 q (by omega)).trans (h2 q hq), fun q hq => (e 5 q (by omega)).trans (h3 q hq), (e 0 6 (by omega)).trans h4, (e 0 7 (by omega)).trans h5, (e 0 9 (by omega)).trans h6, (e 0 14 (by omega)).trans h7, fun q hq => (e 6 q (by omega)).trans (h8 q hq)⟩
theorem rf_run_congr {T T' : Nat → Int32} {e : Nat → Nat} : ∀ (n i : Nat) (st : List Nat), (∀ k, k < 49 + 2 * (i + n) → T' k = T k) → rf_run T' e n i st = rf_run T e n i st := by
  intro n
  induction n with
  | zero => intro i st h; rfl
  | succ n ih =>
    intro i st h
    simp only [rf_run]
    have e1 : rf_step T' e i st = rf_step T e i st := by
      simp only [rf_step, h (49 + 2 * i) (by omega), h (50 + 2 * i) (by omega)]
    rw [e1]
    exact ih (i + 1) _ (fun k hk => h k (by omega))
theorem rf_safe_congr {T T' : Nat → Int32} {e : Nat → Nat} : ∀ (n i : Nat) (st : List Nat), (∀ k, k < 49 + 2 * (i + n) → T' k = T k) → rf_safe T e n i st → rf_safe T' e n i st := by
  intro n
  induction n with
  | zero => intro i st h q; trivial
  | succ n ih =>
    intro i st h q
    simp only [rf_safe] at q ⊢
    have e1 : rf_step T' e i st = rf_step T e i st := by
      simp only [rf_step, h (49 + 2 * i) (by omega), h (50 + 2 * i) (by omega)]
    rw [h (49 + 2 * i) (by omega), h (50 + 2 * i) (by omega), e1]
    exact ⟨q.1, ih (i + 1) _ (fun k hk => h k (by omega)) q.2⟩
theorem lwT_congr {T T' : Nat → Int32} {m : lwM} (h : lwT T m) (hT : ∀ k, k < 849 → T' k = T k) : lwT T' m := by
  obtain ⟨h1, h2, h3⟩ := h
  refine ⟨(hT 0 (by decide)).trans h1, h2, fun n hn => ?_⟩
  obtain ⟨g1, g2, g3, g4, a, b, g5, g6, g7, g8, g9⟩ := h3 n hn
  refine ⟨g1, g2, (hT _ (by omega)).trans g3, (hT _ (by omega)).trans g4, a, b, g5, g6, (hT _ (by omega)).trans g7, (hT _ (by omega)).trans g8, ?_⟩
  rcases g9 with g9 | g9
  · exact .inl g9
  · refine .inr (fun e he => ⟨rf_safe_congr _ _ _ (fun k hk => hT k (by omega)) (g9 e he).1, ?_⟩)
    rw [rf_run_congr _ _ _ (fun k hk => hT k (by omega))]
    exact (g9 e he).2
theorem lw_relT {s : sk_S} {o : Option Nat} {h : Nat} {T T' : Nat → Int32} {m : lwM} (H : lw_rel s o h T m) (hT : ∀ k, k < 849 → T' k = T k) : lw_rel s o h T' m := by
  rcases H with H | ⟨q, h1, h2, h3, h4⟩
  · exact .inl H
  · exact .inr ⟨q, h1, h2, lwT_congr h3 hT, h4⟩
theorem wv_congr {f f' : Nat → Int32} {W : Nat → Nat} {sd : Int32} (h : wv f W sd) (e : ∀ k, k < 549 → f' k = f k) : wv f' W sd := ⟨fun k hk hn => (e k hk).trans (h.1 k hk hn), (e 16 (by decide)).trans h.2⟩
/-! what a call may touch without a trace -/
def quiet (X : Nat) (s : sk_S) (a k : Nat) : Prop := (X + 3 ≤ a ∧ a ≤ X + 11 ∧ ¬ (a = X + 9 ∧ k = 0)) ∨ a = X + 23 ∨ (a = X + 1 ∧ 2 ≤ k) ∨ (a = X ∧ k = 9) ∨ ((sk_K s a).1 = 4 ∧ 6 ≤ k) ∨ (∃ q, a = q + 5 ∧ (sk_K s q).1 = 4) ∨ ∃ y, (sk_K s y).1 = 10 ∧ y ≤ a ∧ a ≤ y + 7
/-- an act: the scene as it is now, but not its rules -/
def acted (X : Nat) (s : sk_S) (a k : Nat) : Prop := quiet X s a k ∨ (X + 12 ≤ a ∧ a ≤ X + 21 ∧ a ≠ X + 14 ∧ a ≠ X + 15 ∧ ¬ (a = X + 12 ∧ k ≤ 3) ∧ ¬ (a = X + 16 ∧ k ≤ 2) ∧ ¬ (a = X + 20 ∧ k = 0))
theorem bk_apart {X : Nat} {K : Nat → Nat × Nat} {n p q i j : Nat} (B : bks X K n) (hp : kb (K p).1 ≠ 0) (hq : kb (K q).1 ≠ 0) (hi : i < kb (K p).1) (hj : j < kb (K q).1) (e : p + i = q + j) : p = q := by
  rcases Nat.lt_trichotomy p q with h | h | h
  · have := B.2.1 p q hp hq h; omega
  · exact h
  · have := B.2.1 q p hq hp h; omega
/-- no quiet write is in a scene -/
theorem quiet_sc {X : Nat} {s : sk_S} {p i k : Nat} (B : bks X (sk_K s) (sk_n s)) (h7 : (sk_K s p).1 = 7) (hl : X + 12 ≤ p) (hi : i < 10) (hk : ∀ i, i < 10 → (sk_K s (p + i)).1 ≠ 4) : ¬ quiet X s (p + i) k := by
  have hp : kb (sk_K s p).1 = 10 := by rw [h7]; rfl
  have hb := B.1 p (by rw [hp]; decide)
  have ne : ∀ q j, j < kb (sk_K s q).1 → (sk_K s q).1 ≠ 7 → p + i ≠ q + j := fun q j hj hq e => by
    have := bk_apart B (by rw [hp]; decide) (by omega) (by omega) hj e
    subst this
    exact hq h7
  rintro (h | h | h | h | h | ⟨q, h1, h2⟩ | ⟨y, h1, h2, h3⟩)
  · omega
  · omega
  · omega
  · omega
  · exact hk i hi h.1
  · exact ne q 5 (by rw [h2]; decide) (by rw [h2]; decide) h1
  · exact ne y (p + i - y) (by rw [h1]; show _ < 8; omega) (by rw [h1]; decide) (by omega)
theorem lay7_k4 {K : Nat → Nat × Nat} {r : Nat → Nat → Option Nat} {p : Nat} (h : lay_X7 K r p = true) : (K p).1 = 7 ∧ ∀ i, i < 10 → (K (p + i)).1 ≠ 4 := by
  simp only [lay_X7, lay_X1, lay_X6, lay_X8, lay_X2, decide_eq_true_eq, Nat.add_assoc] at h
  obtain ⟨h0, -, h1, -, ⟨h2, -, h3⟩, -, ⟨h4, -, h5, -, h6, -, h7⟩, -, h8, -, h9⟩ := h
  refine ⟨by rw [h0], fun i hi => ?_⟩
  have : i = 0 ∨ i = 1 ∨ i = 2 ∨ i = 3 ∨ i = 4 ∨ i = 5 ∨ i = 6 ∨ i = 7 ∨ i = 8 ∨ i = 9 := by omega
  rcases this with rfl | rfl | rfl | rfl | rfl | rfl | rfl | rfl | rfl | rfl
  · rw [Nat.add_zero, h0]; decide
  · rw [h1]; decide
  · rw [h2]; decide
  · rw [h3]; decide
  · rw [h4]; decide
  · rw [h5]; decide
  · rw [h6]; decide
  · rw [h7]; decide
  · rw [h8]; decide
  · rw [h9]; decide
theorem quiet_lay7 {X : Nat} {s : sk_S} {p i k : Nat} (B : bks X (sk_K s) (sk_n s)) (h : lay_X7 (sk_K s) (sk_r s) p = true) (hi : i < 10) : ¬ quiet X s (p + i) k := by
  have h1 := lay7_k4 h
  have h2 := (B.1 p (by rw [h1.1]; decide)).1
  exact quiet_sc B h1.1 (by omega) hi h1.2
theorem quiet_law {X : Nat} {s : sk_S} {q : Nat} (B : bks X (sk_K s) (sk_n s)) (hl : lay_X3 (sk_K s) (sk_r s) q = true) : (∀ k, quiet X s q k → 6 ≤ k) ∧ (∀ i k, 1 ≤ i → i ≤ 4 → ¬ quiet X s (q + i) k) ∧ (sk_K s q).1 = 4 ∧ q + 6 ≤ sk_n s ∧ X + 38 ≤ q := by
  have hk3 := hl
  simp only [lay_X3, decide_eq_true_eq] at hk3
  obtain ⟨k0, -, k1, -, k2, -, k3, -, k4, -, k5⟩ := hk3
  have h4 : (sk_K s q).1 = 4 := by rw [k0]
  have hk : kb (sk_K s q).1 = 6 := by rw [h4]; rfl
  have hb := B.1 q (by rw [hk]; decide)
  have h38 : X + 38 ≤ q := by
    rcases hb.1 with e | e
    · rw [h4] at e; omega
    · exact e
  have ne : ∀ i p j, i < 6 → j < kb (sk_K s p).1 → q + i = p + j → q = p := fun i p j hi hj e => bk_apart B (by omega) (by omega) (by omega) hj e
  refine ⟨fun k => ?_, fun i k h1 h2 => ?_, h4, by omega, h38⟩
  · rintro (h | h | h | h | h | ⟨p, g1, g2⟩ | ⟨y, g1, g2, g3⟩)
    · omega
    · omega
    · omega
    · omega
    · exact h.2
    · have := ne 0 p 5 (by decide) (by rw [g2]; decide) g1
      omega
    · have := ne 0 y (q - y) (by decide) (by rw [g1]; show _ < 8; omega) (by omega)
      subst this
      rw [h4] at g1
      omega
  · have kn : (sk_K s (q + i)).1 ≠ 4 := by
      have : i = 1 ∨ i = 2 ∨ i = 3 ∨ i = 4 := by omega
      rcases this with rfl | rfl | rfl | rfl
      · rw [k1]; decide
      · rw [k2]; decide
      · rw [k3]; decide
      · rw [k4]; decide
    rintro (h | h | h | h | h | ⟨p, g1, g2⟩ | ⟨y, g1, g2, g3⟩)
    · omega
    · omega
    · omega
    · omega
    · exact kn h.1
    · have := ne i p 5 (by omega) (by rw [g2]; decide) g1
      omega
    · have := ne i y (q + i - y) (by omega) (by rw [g1]; show _ < 8; omega) (by omega)
      subst this
      rw [h4] at g1
      omega
theorem acted_sc {X : Nat} {s : sk_S} {p i k : Nat} (B : bks X (sk_K s) (sk_n s)) (h : lay_X7 (sk_K s) (sk_r s) p = true) (hp : X + 38 ≤ p) (hi : i < 10) : ¬ acted X s (p + i) k := by
  rintro (q | q)
  · exact quiet_lay7 B h hi q
  · omega
theorem acted_law {X : Nat} {s : sk_S} {q : Nat} (B : bks X (sk_K s) (sk_n s)) (hl : lay_X3 (sk_K s) (sk_r s) q = true) : (∀ k, acted X s q k → 6 ≤ k) ∧ ∀ i k, 1 ≤ i → i ≤ 4 → ¬ acted X s (q + i) k := by
  obtain ⟨h1, h2, h3, h4, h5⟩ := quiet_law B hl
  refine ⟨fun k => ?_, fun i k a b => ?_⟩
  · rintro (e | e)
    · exact h1 k e
    · omega
  · rintro (e | e)
    · exact h2 i k a b e
    · omega
theorem lw_rel_act {X : Nat} {s s' : sk_S} {o : Option Nat} {hh : Nat} {T : Nat → Int32} {m : lwM} (h : lw_rel s o hh T m) (B : bks X (sk_K s) (sk_n s)) (F : sfr (acted X s) s s') : lw_rel s' o hh T m := by
  rcases h with h | ⟨q, h1, h2, h3, h4⟩
  · exact .inl h
  · obtain ⟨a1, a2⟩ := acted_law B h4.1
    exact .inr ⟨q, h1, h2, h3, lwC_fr h4 B.2.2.1 (quiet_law B h4.1).2.2.2.1 a1 a2 F⟩
/-- the fields of the object itself that acts leave -/
theorem acted_X {X : Nat} {s : sk_S} {k : Nat} (B : bks X (sk_K s) (sk_n s)) (hK : (sk_K s X).1 = 11) (hk : k ≠ 9) : ¬ acted X s X k := by
  have b1 := B.1
  rintro ((h | h | h | h | h | ⟨p, g1, g2⟩ | ⟨y, g1, g2, g3⟩) | h)
  · omega
  · omega
  · omega
  · omega
  · rw [hK] at h; omega
  · have := b1 p (by rw [g2]; decide); rw [g2] at this; omega
  · have := b1 y (by rw [g1]; decide); rw [g1] at this; omega
  · omega
theorem acted_in {X : Nat} {s : sk_S} {a k : Nat} (B : bks X (sk_K s) (sk_n s)) (h1 : X < a) (h2 : a < X + 38) (h4 : (sk_K s a).1 ≠ 4) (hq : ¬ ((X + 3 ≤ a ∧ a ≤ X + 11) ∨ a = X + 23 ∨ (a = X + 1 ∧ 2 ≤ k))) (ha : ¬ (X + 12 ≤ a ∧ a ≤ X + 21 ∧ a ≠ X + 14 ∧ a ≠ X + 15 ∧ ¬ (a = X + 12 ∧ k ≤ 3) ∧ ¬ (a = X + 16 ∧ k ≤ 2) ∧ ¬ (a = X + 20 ∧ k = 0))) : ¬ acted X s a k := by
  have b1 := B.1
  rintro ((h | h | h | h | h | ⟨p, g1, g2⟩ | ⟨y, g1, g2, g3⟩) | h)
  · omega
  · omega
  · omega
  · omega
  · exact h4 h.1
  · have := b1 p (by rw [g2]; decide); rw [g2] at this; omega
  · have := b1 y (by rw [g1]; decide); rw [g1] at this; omega
  · exact ha h
theorem R_past_fr {X : Nat} {s s' : sk_S} {c c' : Nat → Nat → Int32} {W W' : Nat → Nat} (h : R_past X s c W) (hl : lay_X11 (sk_K s) (sk_r s) X = true) (B : bks X (sk_K s) (sk_n s)) (F : sfr (acted X s) s s') (h5 : ∀ k, k < 6588 → c' 5 k = c 5 k) (h7 : c' 0 7 = c 0 7) (e14 : W' 14 = W 14) (eW : ∀ j, j < 28 → W' (17 + j) = W (17 + j)) : R_past X s' c' W' := by
  obtain ⟨np, k, g1, g2, g3, g4, g5, g6, g7, g8⟩ := h
  have hn := B.2.2.2
  have hX : (sk_K s X).1 = 11 := by rw [ly_X11_c hl]
  have h22 : (sk_K s (X + 22)).1 = 23 := by rw [ly_X11_k4 hl]
  have h14 : (sk_K s (X + 14)).1 = 6 := by rw [ly_X6_c (ly_X7_l1 (ly_X11_l3 hl))]
  have r22 : ∀ i, sk_r s' (X + 22) i = sk_r s (X + 22) i := fun i => F.r (by omega) (acted_in B (by omega) (by omega) (by rw [h22]; decide) (by omega) (by omega))
  have r8 : sk_r s' X 8 = sk_r s X 8 := F.r (by omega) (acted_X B hX (by decide))
  have r14 : sk_r s' (X + 14) 1 = sk_r s (X + 14) 1 := F.r (by omega) (acted_in B (by omega) (by omega) (by rw [h14]; decide) (by omega) (by omega))
  refine ⟨np, k, g1, g2, ?_, ?_, h7.trans g5, fun i p hi hp => ?_, fun i i' p hi hi' hp hp' => ?_, fun i hi => ?_⟩
  · rw [F.c (by omega) (acted_X B hX (by decide))]; exact g3
  · rw [F.c (by omega) (acted_X B hX (by decide))]; exact g4
  · rw [r22] at hp
    obtain ⟨a1, a2, a3⟩ := g6 i p hi hp
    exact ⟨lt_X7 (F.fr B.2.2.1) a1, a2, by rw [r8]; exact a3⟩
  · rw [r22] at hp hp'
    exact g7 i i' p hi hi' hp hp'
  · obtain ⟨p, W1, sd1, a1, a2, a3, a4, a5, a6⟩ := g8 i hi
    have hp := g6 _ p (Nat.mod_lt _ (by decide)) a1
    have k7 := lay7_k4 a2.1
    have hb := (B.1 p (by rw [k7.1]; decide)).2
    rw [k7.1] at hb
    have hb : p + 10 ≤ sk_n s := hb
    refine ⟨p, W1, sd1, (r22 _).trans a1, sc_fr a2 B.2.2.1 hb (fun i k hi q => absurd q (acted_sc B a2.1 hp.2.1 hi)) F, wv_congr a3 (fun q hq => h5 _ (by
      have : k - 1 - i ≤ 11 := by omega
      omega)), ?_, a5.trans e14.symm, fun j hj => (a6 j hj).trans (eW j hj).symm⟩
    rw [r14, ← a4]
    exact F.r (by omega) (acted_sc B a2.1 hp.2.1 (i := 2) (by decide))
theorem R_img_fr {X : Nat} {s s' : sk_S} {c c' : Nat → Nat → Int32} (h : R_img X s c) (hl : lay_X11 (sk_K s) (sk_r s) X = true) (B : bks X (sk_K s) (sk_n s)) (F : sfr (acted X s) s s') (h2 : ∀ k, k < 1398 → c' 2 k = c 2 k) (h6 : c' 0 6 = c 0 6) : R_img X s' c' := by
  have hn := B.2.2.2
  have hX : (sk_K s X).1 = 11 := by rw [ly_X11_c hl]
  have r8 : sk_r s' X 8 = sk_r s X 8 := F.r (by omega) (acted_X B hX (by decide))
  rcases h with ⟨g1, g2⟩ | ⟨p, W1, sd1, m1, g1, g2, g3, g4, g5, g6⟩
  · exact .inl ⟨r8.trans g1, h6.trans g2⟩
  · have k7 := lay7_k4 g4.1
    have hb := (B.1 p (by rw [k7.1]; decide)).2
    rw [k7.1] at hb
    have hb : p + 10 ≤ sk_n s := hb
    refine .inr ⟨p, W1, sd1, m1, r8.trans g1, h6.trans g2, g3, sc_fr g4 B.2.2.1 hb (fun i k hi q => absurd q (acted_sc B g4.1 g3 hi)) F, wv_congr g5 (fun q hq => h2 _ (by omega)), ?_⟩
    have e : sk_r s' (p + 2) 1 = sk_r s (p + 2) 1 := F.r (by omega) (acted_sc B g4.1 g3 (i := 2) (by decide))
    rw [e]
    exact lw_relT (lw_rel_act g6 B F) (fun k hk => h2 _ (by omega))
theorem acted_9 {X : Nat} {s : sk_S} (hl : lay_X11 (sk_K s) (sk_r s) X = true) (B : bks X (sk_K s) (sk_n s)) : ¬ acted X s (X + 9) 0 := by
  have b1 := B.1
  have h4 : (sk_K s (X + 9)).1 ≠ 4 := by
    have := (lay_X4_of (ly_X11_l2 hl)).2.2.2.2.2.2.1
    rw [show X + 9 = X + 6 + 3 by omega, this]; decide
  rintro ((h | h | h | h | h | ⟨p, g1, g2⟩ | ⟨y, g1, g2, g3⟩) | h)
  · omega
  · omega
  · omega
  · omega
  · exact h4 h.1
  · have := b1 p (by rw [g2]; decide); rw [g2] at this; omega
  · have := b1 y (by rw [g1]; decide); rw [g1] at this; omega
  · omega
theorem R_tape_fr {X : Nat} {s s' : sk_S} {c c' : Nat → Nat → Int32} (h : R_tape X s c) (hl : lay_X11 (sk_K s) (sk_r s) X = true) (B : bks X (sk_K s) (sk_n s)) (F : sfr (acted X s) s s') (h9 : c' 0 9 = c 0 9) (h14 : c' 0 14 = c 0 14) (h6 : ∀ k, k < 400 → c' 6 k = c 6 k) : R_tape X s' c' := by
  have hn := B.2.2.2
  have hX : (sk_K s X).1 = 11 := by rw [ly_X11_c hl]
  have h1 : (sk_K s (X + 1)).1 = 9 := by rw [ly_X9_c (ly_X11_l0 hl)]
  have h2 : (sk_K s (X + 2)).1 = 20 := by rw [ly_X9_k0 (ly_X11_l0 hl)]
  obtain ⟨⟨ln, a1, a2, a3, a4⟩, a5⟩ := h
  refine ⟨⟨ln, ⟨a1.1, by rw [F.c (by omega) (acted_9 hl B)]; exact a1.2⟩, ?_, h9.trans a3, fun j hj => ?_⟩, ?_⟩
  · rw [F.c (by omega) (acted_in B (by omega) (by omega) (by rw [h1]; decide) (by omega) (by omega))]; exact a2
  · rw [F.c (by omega) (acted_in B (by omega) (by omega) (by rw [h2]; decide) (by omega) (by omega)), h6 j (by omega)]; exact a4 j hj
  · rw [F.c (by omega) (acted_X B hX (by decide)), h14]; exact a5
theorem quiet_acted {X : Nat} {s : sk_S} {a k : Nat} (h : quiet X s a k) : acted X s a k := .inl h
theorem R_now_fr {X : Nat} {s s' : sk_S} {c c' : Nat → Nat → Int32} {W : Nat → Nat} {sd : Int32} {m : lwM} (h : R_now X s c W sd m) (B' : bks X (sk_K s') (sk_n s')) (F : sfr (quiet X s) s s') (h1 : ∀ k, k < 1398 → c' 1 k = c 1 k) : R_now X s' c' W sd m := by
  obtain ⟨g1, B, g3, g4, g5⟩ := h
  have hn := B.2.2.2
  have h14 : (sk_K s (X + 14)).1 = 6 := by rw [ly_X6_c (ly_X7_l1 (ly_X11_l3 g1))]
  refine ⟨lt_X11 (F.fr B.2.2.1) g1, B', sc_fr g3 B.2.2.1 (by omega) (fun i k hi q => absurd q (quiet_lay7 B g3.1 hi)) F, wv_congr g4 (fun k hk => h1 k (by omega)), ?_⟩
  have e : sk_r s' (X + 14) 1 = sk_r s (X + 14) 1 := F.r (by omega) (fun q => acted_in B (by omega) (by omega) (by rw [h14]; decide) (by omega) (by omega) (quiet_acted q))
  rw [e]
  exact lw_relT (lw_rel_act g5 B (F.mono (fun _ _ _ => quiet_acted))) (fun k hk => h1 _ (by omega))
/-- a call without a trace -/
theorem RA_quiet {X : Nat} {s s' : sk_S} {c c' : Nat → Nat → Int32} {W : Nat → Nat} {sd : Int32} {m : lwM} (h : RA X s c W sd m) (B' : bks X (sk_K s') (sk_n s')) (F : sfr (quiet X s) s s') (C : ceq c c') : RA X s' c' W sd m := by
  obtain ⟨g1, g2, g3, g4⟩ := h
  have F' := F.mono (fun _ _ _ => quiet_acted (X := X) (s := s))
  obtain ⟨e1, e2, e3, e4, e5, e6, e7, e8⟩ := C
  exact ⟨R_now_fr g1 B' F e1, R_past_fr g2 g1.1 g1.2.1 F' e3 e5 rfl (fun _ _ => rfl), R_img_fr g3 g1.1 g1.2.1 F' e2 e4, R_tape_fr g4 g1.1 g1.2.1 F' e6 e7 e8⟩
theorem bks_rs {X : Nat} {s : sk_S} (B : bks X (sk_K s) (sk_n s)) (n : Nat) : bks X (sk_K (sk_rs s n)) (sk_n (sk_rs s n)) := by
  obtain ⟨b1, b2, b3, b4⟩ := B
  exact ⟨fun p hp => ⟨(b1 p hp).1, Nat.le_trans (b1 p hp).2 (Nat.le_succ _)⟩, b2, fun a ha => b3 a (Nat.le_of_succ_le ha), Nat.le_trans b4 (Nat.le_succ _)⟩
/-! the ways stay too -/
theorem nxf_congr {W W' : Nat → Nat} {m : lwM} {ca wa v o : Nat} (e : ∀ j, j < 28 → W' (17 + j) = W (17 + j)) (ho : o < 12) : nxf W' m ca wa v o = nxf W m ca wa v o := by
  have h7 := wy_mv_lt o ho
  have e0 : W' (17 + 4 * wy_mv o) = W (17 + 4 * wy_mv o) := e _ (by omega)
  have e1 : W' (18 + 4 * wy_mv o) = W (18 + 4 * wy_mv o) := by
    have := e (4 * wy_mv o + 1) (by omega)
    rwa [show 17 + (4 * wy_mv o + 1) = 18 + 4 * wy_mv o by omega] at this
  have e2 : W' (19 + 4 * wy_mv o) = W (19 + 4 * wy_mv o) := by
    have := e (4 * wy_mv o + 2) (by omega)
    rwa [show 17 + (4 * wy_mv o + 2) = 19 + 4 * wy_mv o by omega] at this
  simp only [nxf, mv_s, mv_r, e0, e1, e2]
theorem R_way_fr {X : Nat} {s s' : sk_S} {W W' : Nat → Nat} {m : lwM} {sb sb' : Nat} {V : Nat → Nat → Prop} (h : R_way X s W m sb) (B : bks X (sk_K s) (sk_n s)) (F : sfr V s s') (hX : ¬ V X 9) (hV : ∀ y k, (sk_K s y).1 = 10 → X + 38 ≤ y → ¬ V y k ∧ ¬ V (y + 1) k) (hs : sb ≤ sb') (e : ∀ j, j < 28 → W' (17 + j) = W (17 + j)) : R_way X s' W' m sb' := by
  have hn := B.2.2.2
  have r9 : sk_r s' X 9 = sk_r s X 9 := F.r (by omega) hX
  rcases h with h | ⟨y, st, ca, wa, h1, h2, h3, h4, h5, h6, h7, h8, h9, h10, h12⟩
  · exact .inl (r9.trans h)
  · have ky : (sk_K s y).1 = 10 := by rw [ly_X10_c h2]
    have hb := (B.1 y (by rw [ky]; decide)).2
    rw [ky] at hb
    have hb : y + 8 ≤ sk_n s := hb
    have c0 : ∀ k, sk_c s' y k = sk_c s y k := fun k => F.c (by omega) (hV y k ky h3).1
    have c1 : ∀ k, sk_c s' (y + 1) k = sk_c s (y + 1) k := fun k => F.c (by omega) (hV y k ky h3).2
    refine .inr ⟨y, st, ca, wa, r9.trans h1, lt_X10 (F.fr B.2.2.1) h2, h3, (c0 9).trans h4, h5, Nat.le_trans h6 hs, (c0 11).trans h7, (c0 12).trans h8, h9, h10, fun v o hv ho => ?_⟩
    rw [c1, c0, nxf_congr e ho]
    exact h12 v o hv ho
