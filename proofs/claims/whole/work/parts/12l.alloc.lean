/-! NEW BLOCKS -/
theorem nw_n (s : sk_S) (a b c : Nat) : sk_n (sk_nw s a b c) = sk_n s + 1 := Eq.trans rfl rfl
theorem nw_m (s : sk_S) (a b c : Nat) : sk_m (sk_nw s a b c) = sk_m s + c := Eq.trans rfl rfl
theorem wr_n (s : sk_S) (a k : Nat) (v : Option Nat) : sk_n (sk_wr s a k v) = sk_n s := Eq.trans rfl rfl
theorem wr_m (s : sk_S) (a k : Nat) (v : Option Nat) : sk_m (sk_wr s a k v) = sk_m s := Eq.trans rfl rfl
theorem wr_K (s : sk_S) (a k : Nat) (v : Option Nat) : sk_K (sk_wr s a k v) = sk_K s := Eq.trans rfl rfl
theorem wr_c (s : sk_S) (a k : Nat) (v : Option Nat) : sk_c (sk_wr s a k v) = sk_c s := Eq.trans rfl rfl
theorem wr_g (s : sk_S) (a k : Nat) (v : Option Nat) : sk_g (sk_wr s a k v) = sk_g s := Eq.trans rfl rfl
theorem wc_n (s : sk_S) (a k : Nat) (v : Int32) : sk_n (sk_wc s a k v) = sk_n s := Eq.trans rfl rfl
theorem wc_m (s : sk_S) (a k : Nat) (v : Int32) : sk_m (sk_wc s a k v) = sk_m s := Eq.trans rfl rfl
theorem wc_K (s : sk_S) (a k : Nat) (v : Int32) : sk_K (sk_wc s a k v) = sk_K s := Eq.trans rfl rfl
theorem wc_r (s : sk_S) (a k : Nat) (v : Int32) : sk_r (sk_wc s a k v) = sk_r s := Eq.trans rfl rfl
theorem wc_g (s : sk_S) (a k : Nat) (v : Int32) : sk_g (sk_wc s a k v) = sk_g s := Eq.trans rfl rfl
theorem nw_K1 {s : sk_S} {a b c x : Nat} (h : x = sk_n s) : sk_K (sk_nw s a b c) x = (a, b) := by subst h; simp [sk_K, sk_nw, va_up]
theorem nw_K2 {s : sk_S} {a b c x : Nat} (h : x ≠ sk_n s) : sk_K (sk_nw s a b c) x = sk_K s x := by simp [sk_K, sk_nw, va_up, h]
theorem nw_c1 {s : sk_S} {a b c x : Nat} (h : x = sk_n s) : sk_c (sk_nw s a b c) x = fun _ => 0 := by subst h; simp [sk_c, sk_nw, va_up]
theorem nw_c2 {s : sk_S} {a b c x : Nat} (h : x ≠ sk_n s) : sk_c (sk_nw s a b c) x = sk_c s x := by simp [sk_c, sk_nw, va_up, h]
theorem nw_g1 {s : sk_S} {a b c x : Nat} (h : x = sk_n s) : sk_g (sk_nw s a b c) x = fun _ => 0 := by subst h; simp [sk_g, sk_nw, va_up]
theorem nw_g2 {s : sk_S} {a b c x : Nat} (h : x ≠ sk_n s) : sk_g (sk_nw s a b c) x = sk_g s x := by simp [sk_g, sk_nw, va_up, h]
theorem nw_r1 {s : sk_S} {a b c x : Nat} (h : x = sk_n s) : sk_r (sk_nw s a b c) x = fun _ => none := by subst h; simp [sk_r, sk_nw, va_up]
theorem nw_r2 {s : sk_S} {a b c x : Nat} (h : x ≠ sk_n s) : sk_r (sk_nw s a b c) x = sk_r s x := by simp [sk_r, sk_nw, va_up, h]
theorem wr_r1 {s : sk_S} {a k b j : Nat} {v : Option Nat} (h : b = a ∧ j = k) : sk_r (sk_wr s a k v) b j = v := by rw [h.1, h.2]; exact wr_same s a k v
theorem wr_r2 {s : sk_S} {a k b j : Nat} {v : Option Nat} (h : ¬ (b = a ∧ j = k)) : sk_r (sk_wr s a k v) b j = sk_r s b j := wr_at s a k v b j h
theorem sfr.nw {V : Nat → Nat → Prop} {s0 s : sk_S} (h : sfr V s0 s) (a b c : Nat) : sfr V s0 (sk_nw s a b c) := by
  have hn := h.2.1
  refine ⟨fun x hx => ?_, Nat.le_trans hn (Nat.le_succ _), fun x k hx hv => ?_, fun x k hx hf => ?_⟩
  · rw [nw_K2 (by omega)]; exact h.1 x hx
  · rw [nw_c2 (by omega), nw_g2 (by omega), nw_r2 (by omega)]; exact h.2.2.1 x k hx hv
  · rw [nw_r2 (by omega)]; exact h.2.2.2 x k hx hf
theorem sfr.wcN {V : Nat → Nat → Prop} {s0 s : sk_S} (h : sfr V s0 s) {a k : Nat} (v : Int32) (ha : sk_n s0 ≤ a) : sfr V s0 (sk_wc s a k v) :=
  ⟨h.1, h.2.1, fun b j hb hn => by
    obtain ⟨a1, a2, a3⟩ := h.2.2.1 b j hb hn
    exact ⟨by rw [qc_at _ _ _ _ _ _ (by omega)]; exact a1, a2, a3⟩, h.2.2.2⟩
theorem sfr.wrN {V : Nat → Nat → Prop} {s0 s : sk_S} (h : sfr V s0 s) {a k : Nat} (v : Option Nat) (ha : sk_n s0 ≤ a) : sfr V s0 (sk_wr s a k v) :=
  ⟨h.1, h.2.1, fun b j hb hn => by
    obtain ⟨a1, a2, a3⟩ := h.2.2.1 b j hb hn
    exact ⟨a1, a2, by rw [wr_r2 (by omega)]; exact a3⟩, fun b j hb hf => by rw [wr_r2 (by omega)]; exact h.2.2.2 b j hb hf⟩
theorem sfr.wgN {V : Nat → Nat → Prop} {s0 s : sk_S} (h : sfr V s0 s) {a k : Nat} (v : Int64) (ha : sk_n s0 ≤ a) : sfr V s0 (sk_wg s a k v) :=
  ⟨h.1, h.2.1, fun b j hb hn => by
    obtain ⟨a1, a2, a3⟩ := h.2.2.1 b j hb hn
    refine ⟨a1, ?_, a3⟩
    have : b ≠ a := by omega
    rw [← a2]
    simp [sk_g, sk_wg, va_up, this], h.2.2.2⟩
theorem sfr.cfrN {V V' : Nat → Nat → Prop} {s0 s s1 : sk_S} (h : sfr V s0 s) (h' : cfr V' s s1) (hV : ∀ a k, V' a k → sk_n s0 ≤ a) : sfr V s0 s1 :=
  ⟨fun a ha => by rw [h'.1]; exact h.1 a ha, by rw [h'.2.2.2.1]; exact h.2.1, fun a k ha hn => by
    obtain ⟨a1, a2, a3⟩ := h.2.2.1 a k ha hn
    exact ⟨(h'.2.2.2.2.2 a k (fun q => by have := hV a k q; omega)).trans a1, by rw [h'.2.1]; exact a2, by rw [h'.2.2.1]; exact a3⟩, fun a k ha hf => by rw [h'.2.2.1]; exact h.2.2.2 a k ha hf⟩
theorem bks_add {X : Nat} {K K' : Nat → Nat × Nat} {n n' : Nat} (B : bks X K n) (hK : ∀ a, a < n → K' a = K a) (h0 : kb (K' n).1 ≠ 0) (hn : n' = n + kb (K' n).1) (hi : ∀ a, n < a → a < n' → kb (K' a).1 = 0) (hz : ∀ a, n' ≤ a → (K' a).1 = 0) : bks X K' n' := by
  obtain ⟨b1, b2, b3, b4⟩ := B
  have cls : ∀ p, kb (K' p).1 ≠ 0 → p < n ∨ p = n := fun p hp => by
    rcases Nat.lt_trichotomy p n with h | h | h
    · exact .inl h
    · exact .inr h
    · exfalso
      by_cases q : p < n'
      · exact hp (hi p h q)
      · rw [hz p (by omega)] at hp; exact hp rfl
  refine ⟨fun p hp => ?_, fun p q hp hq hpq => ?_, hz, by omega⟩
  · rcases cls p hp with h | h
    · rw [hK p h] at hp ⊢
      have := b1 p hp
      exact ⟨this.1, by omega⟩
    · subst h
      exact ⟨.inr (by omega), by omega⟩
  · rcases cls p hp with h | h
    · rw [hK p h] at hp ⊢
      rcases cls q hq with h' | h'
      · rw [hK q h'] at hq; exact b2 p q hp hq hpq
      · have := (b1 p hp).2; omega
    · rcases cls q hq with h' | h' <;> omega
/-! the ways, made -/
def wi_s (s : sk_S) : sk_S :=
  let y := sk_n s
  let s1 := sk_wr (sk_nw (sk_nw s 10 0 13) 21 14400 14400) y 0 (some (y + 1))
  let s2 := sk_wr (sk_nw s1 21 1200 1200) y 1 (some (y + 2))
  let s3 := sk_wr (sk_nw s2 21 1200 1200) y 2 (some (y + 3))
  let s4 := sk_wr (sk_nw s3 21 1200 1200) y 3 (some (y + 4))
  let s5 := sk_wr (sk_nw s4 21 1200 1200) y 4 (some (y + 5))
  let s6 := sk_wr (sk_nw s5 22 1200 1200) y 5 (some (y + 6))
  let s7 := sk_wr (sk_nw s6 21 31 31) y 6 (some (y + 7))
  sk_wc s7 y 9 1
theorem wi_eq {N : Nat} {s : sk_S} : x10_init N (sk_nw s 10 0 13) (sk_n s) = some (wi_s s, 0) := by
  unfold x10_init
  rw [if_pos (nw_K1 rfl)]
  rfl
theorem wi_n (s : sk_S) : sk_n (wi_s s) = sk_n s + 8 := by
  simp only [wi_s, nw_n, wr_n, wc_n]
theorem wi_m (s : sk_S) : sk_m (wi_s s) ≤ sk_m s + 20444 := by
  have : sk_m (wi_s s) = sk_m s + 13 + 14400 + 1200 + 1200 + 1200 + 1200 + 1200 + 31 := by
    unfold wi_s
    rw [wc_m, wr_m, nw_m, wr_m, nw_m, wr_m, nw_m, wr_m, nw_m, wr_m, nw_m, wr_m, nw_m, wr_m, nw_m, nw_m]
  omega
theorem wi_sfr (s : sk_S) {V : Nat → Nat → Prop} : sfr V s (wi_s s) := by
  unfold wi_s
  exact ((((((((((((((sfr.rf.nw _ _ _).nw _ _ _).wrN _ (Nat.le_refl _)).nw _ _ _).wrN _ (Nat.le_refl _)).nw _ _ _).wrN _ (Nat.le_refl _)).nw _ _ _).wrN _ (Nat.le_refl _)).nw _ _ _).wrN _ (Nat.le_refl _)).nw _ _ _).wrN _ (Nat.le_refl _)).nw _ _ _).wrN _ (Nat.le_refl _) |>.wcN _ (Nat.le_refl _)
theorem wi_K (s : sk_S) : sk_K (wi_s s) (sk_n s) = (10, 0) ∧ sk_K (wi_s s) (sk_n s + 1) = (21, 14400) ∧ sk_K (wi_s s) (sk_n s + 2) = (21, 1200) ∧ sk_K (wi_s s) (sk_n s + 3) = (21, 1200) ∧ sk_K (wi_s s) (sk_n s + 4) = (21, 1200) ∧ sk_K (wi_s s) (sk_n s + 5) = (21, 1200) ∧ sk_K (wi_s s) (sk_n s + 6) = (22, 1200) ∧ sk_K (wi_s s) (sk_n s + 7) = (21, 31) ∧ ∀ a, sk_n s + 8 ≤ a → sk_K (wi_s s) a = sk_K s a := by
  unfold wi_s
  refine ⟨?_, ?_, ?_, ?_, ?_, ?_, ?_, ?_, fun a ha => ?_⟩ <;> simp (disch := first | omega | (simp only [nw_n, wr_n]; done) | (simp only [nw_n, wr_n]; omega)) only [wc_K, wr_K, nw_K1, nw_K2]
theorem wi_r (s : sk_S) : sk_r (wi_s s) (sk_n s) 0 = some (sk_n s + 1) ∧ sk_r (wi_s s) (sk_n s) 1 = some (sk_n s + 2) ∧ sk_r (wi_s s) (sk_n s) 2 = some (sk_n s + 3) ∧ sk_r (wi_s s) (sk_n s) 3 = some (sk_n s + 4) ∧ sk_r (wi_s s) (sk_n s) 4 = some (sk_n s + 5) ∧ sk_r (wi_s s) (sk_n s) 5 = some (sk_n s + 6) ∧ sk_r (wi_s s) (sk_n s) 6 = some (sk_n s + 7) := by
  unfold wi_s
  refine ⟨?_, ?_, ?_, ?_, ?_, ?_, ?_⟩ <;> simp (disch := first | omega | (simp only [nw_n, wr_n]; done) | (simp only [nw_n, wr_n]; omega)) only [wc_r, wr_r1, wr_r2, nw_r2]
theorem wi_lay (s : sk_S) : lay_X10 (sk_K (wi_s s)) (sk_r (wi_s s)) (sk_n s) = true := by
  obtain ⟨k0, k1, k2, k3, k4, k5, k6, k7, _⟩ := wi_K s
  obtain ⟨r0, r1, r2, r3, r4, r5, r6⟩ := wi_r s
  exact lay_X10_mk ⟨k0, r0, k1, r1, k2, r2, k3, r3, k4, r4, k5, r5, k6, r6, k7⟩
theorem wi_c (s : sk_S) : sk_c (wi_s s) (sk_n s) 9 = 1 ∧ sk_c (wi_s s) (sk_n s) 11 = 0 ∧ sk_c (wi_s s) (sk_n s) 12 = 0 ∧ sk_c (wi_s s) (sk_n s + 1) = fun _ => 0 := by
  unfold wi_s
  refine ⟨?_, ?_, ?_, ?_⟩
  · rw [qc_eq, pk_us]
  · rw [qc_eq, pk_un (by decide)]; simp (disch := first | omega | (simp only [nw_n, wr_n]; done) | (simp only [nw_n, wr_n]; omega)) only [wr_c, nw_c1, nw_c2]
  · rw [qc_eq, pk_un (by decide)]; simp (disch := first | omega | (simp only [nw_n, wr_n]; done) | (simp only [nw_n, wr_n]; omega)) only [wr_c, nw_c1, nw_c2]
  · simp (disch := first | omega | (simp only [nw_n, wr_n]; done) | (simp only [nw_n, wr_n]; omega)) only [qc_ne, wr_c, nw_c1, nw_c2]
theorem wi_bks {X : Nat} {s : sk_S} (B : bks X (sk_K s) (sk_n s)) : bks X (sk_K (wi_s s)) (sk_n (wi_s s)) := by
  obtain ⟨k0, k1, k2, k3, k4, k5, k6, k7, k8⟩ := wi_K s
  refine bks_add B (fun a ha => (wi_sfr s (V := fun _ _ => False)).1 a ha) (by rw [k0]; decide) (by rw [k0]; rfl) (fun a h1 h2 => ?_) (fun a ha => ?_)
  · rw [wi_n] at h2
    have : a = sk_n s + 1 ∨ a = sk_n s + 2 ∨ a = sk_n s + 3 ∨ a = sk_n s + 4 ∨ a = sk_n s + 5 ∨ a = sk_n s + 6 ∨ a = sk_n s + 7 := by omega
    rcases this with rfl | rfl | rfl | rfl | rfl | rfl | rfl
    · rw [k1]; rfl
    · rw [k2]; rfl
    · rw [k3]; rfl
    · rw [k4]; rfl
    · rw [k5]; rfl
    · rw [k6]; rfl
    · rw [k7]; rfl
  · rw [wi_n] at ha
    rw [k8 a ha]; exact B.2.2.1 a (by omega)
