/-! TOOLS: numbers by nI, cells of the class's state, counting -/
theorem zq_lit (n : Nat) : (OfNat.ofNat n : Int32) = nI n := rfl
theorem zq_0 : (0 : Int32) = nI 0 := rfl
theorem zq_1 : (1 : Int32) = nI 1 := rfl
theorem zq_2 : (2 : Int32) = nI 2 := rfl
theorem zq_inB {n m : Nat} (h : n < 2147483648) : (ky_inB (nI n) m = true) = (n < m) := by
  simp [ky_inB, nI_clamp h, nI_pos' h]
theorem zq_inBt {n m : Nat} (h : n < m) (hm : m < 2147483648) : ky_inB (nI n) m = true := by
  rw [zq_inB (by omega)]; exact h
theorem zq_m1 {n : Nat} (h : n < 2147483648) : nI n ≠ -1 := by
  intro e
  have := congrArg Int32.toInt e
  rw [nI_toInt h] at this
  have h2 : ((-1 : Int32).toInt) = -1 := by decide
  rw [h2] at this
  omega
theorem zq_m1' {n : Nat} (h : n < 2147483648) : ¬ nI n = -1 := zq_m1 h
theorem zq_inj {a b : Nat} (ha : a < 2147483648) (hb : b < 2147483648) (h : nI a = nI b) : a = b := (nI_eq ha hb).mp h
theorem zq_le {a b : Nat} (ha : a < 2147483648) (hb : b < 2147483648) : (nI a ≤ nI b) = (a ≤ b) := propext (nI_leI ha hb)
theorem zq_lt {a b : Nat} (ha : a < 2147483648) (hb : b < 2147483648) : (nI a < nI b) = (a < b) := propext (nI_ltI ha hb)
theorem zq_eq {a b : Nat} (ha : a < 2147483648) (hb : b < 2147483648) : (nI a = nI b) = (a = b) := propext (nI_eq ha hb)
theorem zq_cl {n : Nat} (h : n < 2147483648) : (nI n).toNatClampNeg = n := nI_clamp h
theorem zq_let {α β : Type} (v : α) (f : α → β) : ky_let v f = f v := rfl
theorem zq_bind {α β : Type} (v : α) (f : α → Option β) : (some v).bind f = f v := rfl
/-! cells -/
def cfr (V : Nat → Nat → Prop) (s0 s : sk_S) : Prop := sk_K s = sk_K s0 ∧ sk_g s = sk_g s0 ∧ sk_r s = sk_r s0 ∧ sk_n s = sk_n s0 ∧ sk_m s = sk_m s0 ∧ ∀ b k, ¬ V b k → sk_c s b k = sk_c s0 b k
theorem cfr.rf {V : Nat → Nat → Prop} {s : sk_S} : cfr V s s := ⟨rfl, rfl, rfl, rfl, rfl, fun _ _ _ => rfl⟩
theorem cfr.tr {V : Nat → Nat → Prop} {s s1 s2 : sk_S} (h : cfr V s s1) (h' : cfr V s1 s2) : cfr V s s2 :=
  ⟨h'.1.trans h.1, h'.2.1.trans h.2.1, h'.2.2.1.trans h.2.2.1, h'.2.2.2.1.trans h.2.2.2.1, h'.2.2.2.2.1.trans h.2.2.2.2.1, fun b k hn => (h'.2.2.2.2.2 b k hn).trans (h.2.2.2.2.2 b k hn)⟩
theorem cfr.mono {V V' : Nat → Nat → Prop} {s s1 : sk_S} (h : cfr V s s1) (hV : ∀ b k, V b k → V' b k) : cfr V' s s1 :=
  ⟨h.1, h.2.1, h.2.2.1, h.2.2.2.1, h.2.2.2.2.1, fun b k hn => h.2.2.2.2.2 b k (fun hv => hn (hV b k hv))⟩
theorem qc_eq (s : sk_S) (a k : Nat) (v : Int32) : sk_c (sk_wc s a k v) a = upd (sk_c s a) k v := by simp [sk_c, sk_wc, sk_wf, va_up]
theorem qc_ne {s : sk_S} {a b k : Nat} {v : Int32} (h : b ≠ a) : sk_c (sk_wc s a k v) b = sk_c s b := by simp [sk_c, sk_wc, sk_wf, va_up, h]
theorem qc_K (s : sk_S) (a k : Nat) (v : Int32) : sk_K (sk_wc s a k v) = sk_K s := rfl
theorem qc_r (s : sk_S) (a k : Nat) (v : Int32) : sk_r (sk_wc s a k v) = sk_r s := rfl
theorem qc_g (s : sk_S) (a k : Nat) (v : Int32) : sk_g (sk_wc s a k v) = sk_g s := rfl
theorem qc_n (s : sk_S) (a k : Nat) (v : Int32) : sk_n (sk_wc s a k v) = sk_n s := rfl
theorem qc_m (s : sk_S) (a k : Nat) (v : Int32) : sk_m (sk_wc s a k v) = sk_m s := rfl
theorem qc_at (s : sk_S) (a k b j : Nat) (v : Int32) (h : ¬ (b = a ∧ j = k)) : sk_c (sk_wc s a k v) b j = sk_c s b j := by
  by_cases e : b = a
  · subst e
    have : j ≠ k := fun e2 => h ⟨rfl, e2⟩
    simp [qc_eq, upd, this]
  · rw [qc_ne e]
theorem cfr.wc {V : Nat → Nat → Prop} {s0 s : sk_S} (h : cfr V s0 s) {a k : Nat} (v : Int32) (hv : V a k) : cfr V s0 (sk_wc s a k v) :=
  ⟨h.1, h.2.1, h.2.2.1, h.2.2.2.1, h.2.2.2.2.1, fun b j hn => by
    rw [qc_at _ _ _ _ _ _ (fun e => hn (by rw [e.1, e.2]; exact hv))]
    exact h.2.2.2.2.2 b j hn⟩
/-! counting -/
def cn (p : Nat → Bool) : Nat → Nat
  | 0 => 0
  | n + 1 => cn p n + (if p n = true then 1 else 0)
def sb_ (p : Nat → Bool) (v : Nat) (b : Bool) : Nat → Bool := fun j => if j = v then b else p j
theorem cn_le (p : Nat → Bool) : ∀ n, cn p n ≤ n := by
  intro n
  induction n with
  | zero => exact Nat.le_refl _
  | succ n ih => simp only [cn]; split <;> omega
theorem cn_ge (p : Nat → Bool) (v : Nat) (b : Bool) : ∀ n, n ≤ v → cn (sb_ p v b) n = cn p n := by
  intro n
  induction n with
  | zero => intro _; rfl
  | succ n ih =>
    intro h
    have e : sb_ p v b n = p n := by simp only [sb_]; rw [if_neg (by omega)]
    simp only [cn, e, ih (by omega)]
theorem cn_set {p : Nat → Bool} {v : Nat} (hp : p v = false) : ∀ n, v < n → cn (sb_ p v true) n = cn p n + 1 := by
  intro n
  induction n with
  | zero => intro h; omega
  | succ n ih =>
    intro h
    by_cases e : v = n
    · subst e
      have e1 : sb_ p v true v = true := by simp [sb_]
      simp [cn, e1, hp, cn_ge p v true v (Nat.le_refl _)]
    · have e1 : sb_ p v true n = p n := by simp only [sb_]; rw [if_neg (by omega)]
      simp only [cn, e1, ih (by omega)]
      omega
theorem cn_clr {p : Nat → Bool} {v : Nat} (hp : p v = true) : ∀ n, v < n → cn (sb_ p v false) n + 1 = cn p n := by
  intro n
  induction n with
  | zero => intro h; omega
  | succ n ih =>
    intro h
    by_cases e : v = n
    · subst e
      have e1 : sb_ p v false v = false := by simp [sb_]
      simp [cn, e1, hp, cn_ge p v false v (Nat.le_refl _)]
    · have e1 : sb_ p v false n = p n := by simp only [sb_]; rw [if_neg (by omega)]
      have := ih (by omega)
      simp only [cn, e1]
      omega
theorem cn_ex {p : Nat → Bool} : ∀ n, 0 < cn p n → ∃ v, v < n ∧ p v = true := by
  intro n
  induction n with
  | zero => intro h; simp [cn] at h
  | succ n ih =>
    intro h
    by_cases e : p n = true
    · exact ⟨n, by omega, e⟩
    · simp only [cn, if_neg e] at h
      obtain ⟨v, h1, h2⟩ := ih (by omega)
      exact ⟨v, by omega, h2⟩
theorem cn_pos {p : Nat → Bool} {v : Nat} (hv : p v = true) : ∀ n, v < n → 0 < cn p n := by
  intro n
  induction n with
  | zero => intro h; omega
  | succ n ih =>
    intro h
    by_cases e : v = n
    · subst e; simp [cn, hv]
    · have := ih (by omega)
      simp only [cn]; omega
theorem cn_dis {p q : Nat → Bool} (h : ∀ v, p v = true → q v = true → False) : ∀ n, cn p n + cn q n ≤ n := by
  intro n
  induction n with
  | zero => simp [cn]
  | succ n ih =>
    have := h n
    simp only [cn]
    by_cases e1 : p n = true <;> by_cases e2 : q n = true
    · exact absurd e2 (fun e2 => this e1 e2)
    · rw [if_pos e1, if_neg e2]; omega
    · rw [if_neg e1, if_pos e2]; omega
    · rw [if_neg e1, if_neg e2]; omega
theorem cn_full {p : Nat → Bool} : ∀ n, cn p n = n → ∀ v, v < n → p v = true := by
  intro n
  induction n with
  | zero => intro _ v h; omega
  | succ n ih =>
    intro h v hv
    have hle := cn_le p n
    by_cases e : p n = true
    · simp only [cn, if_pos e] at h
      by_cases e2 : v = n
      · subst e2; exact e
      · exact ih (by omega) v (by omega)
    · simp only [cn, if_neg e] at h
      omega
theorem cn_congr {p q : Nat → Bool} : ∀ n, (∀ v, v < n → p v = q v) → cn p n = cn q n := by
  intro n
  induction n with
  | zero => intro _; rfl
  | succ n ih =>
    intro h
    simp only [cn, ih (fun v hv => h v (by omega)), h n (by omega)]
