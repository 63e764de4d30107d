/-! ONE SCENE BECOMES ANOTHER -/
def efr (V : Nat → Nat → Prop) (s s' : sk_S) : Prop := sk_K s' = sk_K s ∧ sk_n s' = sk_n s ∧ sk_m s' = sk_m s ∧ (∀ a k, ¬ V a k → sk_c s' a k = sk_c s a k ∧ sk_g s' a k = sk_g s a k ∧ sk_r s' a k = sk_r s a k) ∧ ∀ a k, sk_fin (sk_K s a).1 k = true → sk_r s' a k = sk_r s a k
theorem efr.rf {V : Nat → Nat → Prop} {s : sk_S} : efr V s s := ⟨rfl, rfl, rfl, fun _ _ _ => ⟨rfl, rfl, rfl⟩, fun _ _ _ => rfl⟩
theorem efr.tr {V : Nat → Nat → Prop} {s s1 s2 : sk_S} (h : efr V s s1) (h' : efr V s1 s2) : efr V s s2 :=
  ⟨h'.1.trans h.1, h'.2.1.trans h.2.1, h'.2.2.1.trans h.2.2.1, fun a k hv => by
    obtain ⟨a1, a2, a3⟩ := h.2.2.2.1 a k hv
    obtain ⟨b1, b2, b3⟩ := h'.2.2.2.1 a k hv
    exact ⟨b1.trans a1, b2.trans a2, b3.trans a3⟩, fun a k hf => (h'.2.2.2.2 a k (by rw [h.1]; exact hf)).trans (h.2.2.2.2 a k hf)⟩
theorem efr.mono {V V' : Nat → Nat → Prop} {s s1 : sk_S} (h : efr V s s1) (hV : ∀ a k, V a k → V' a k) : efr V' s s1 := ⟨h.1, h.2.1, h.2.2.1, fun a k hv => h.2.2.2.1 a k (fun q => hv (hV a k q)), h.2.2.2.2⟩
theorem efr.sfr {V : Nat → Nat → Prop} {s s1 : sk_S} (h : efr V s s1) : sfr V s s1 := ⟨fun a _ => by rw [h.1], by rw [h.2.1]; exact Nat.le_refl _, fun a k _ hv => h.2.2.2.1 a k hv, fun a k _ hf => h.2.2.2.2 a k hf⟩
theorem efr.of {V : Nat → Nat → Prop} {s s1 : sk_S} (h : cfr V s s1) : efr V s s1 := ⟨h.1, h.2.2.2.1, h.2.2.2.2.1, fun a k hv => ⟨h.2.2.2.2.2 a k hv, by rw [h.2.1], by rw [h.2.2.1]⟩, fun a k _ => by rw [h.2.2.1]⟩
theorem efr.c {V : Nat → Nat → Prop} {s s' : sk_S} (h : efr V s s') {a k : Nat} (hv : ¬ V a k) : sk_c s' a k = sk_c s a k := (h.2.2.2.1 a k hv).1
theorem efr.g {V : Nat → Nat → Prop} {s s' : sk_S} (h : efr V s s') {a k : Nat} (hv : ¬ V a k) : sk_g s' a k = sk_g s a k := (h.2.2.2.1 a k hv).2.1
theorem efr.r {V : Nat → Nat → Prop} {s s' : sk_S} (h : efr V s s') {a k : Nat} (hv : ¬ V a k) : sk_r s' a k = sk_r s a k := (h.2.2.2.1 a k hv).2.2
theorem wf_eq (s : sk_S) (a : Nat) (f : Nat → Int32) : sk_c (sk_wf s a f) a = f := by simp [sk_c, sk_wf, va_up]
theorem wf_ne {s : sk_S} {a b : Nat} {f : Nat → Int32} (h : b ≠ a) : sk_c (sk_wf s a f) b = sk_c s b := by simp [sk_c, sk_wf, va_up, h]
theorem wg_eq (s : sk_S) (a k : Nat) (v : Int64) : sk_g (sk_wg s a k v) a k = v := by simp [sk_g, sk_wg, va_up]
theorem wg_at {s : sk_S} {a k b j : Nat} {v : Int64} (h : ¬ (b = a ∧ j = k)) : sk_g (sk_wg s a k v) b j = sk_g s b j := by
  by_cases e : b = a
  · subst e
    have : j ≠ k := fun q => h ⟨rfl, q⟩
    simp [sk_g, sk_wg, va_up, this]
  · simp [sk_g, sk_wg, va_up, e]
theorem efr.wc {V : Nat → Nat → Prop} {s0 s : sk_S} (h : efr V s0 s) {a k : Nat} (v : Int32) (hv : V a k) : efr V s0 (sk_wc s a k v) :=
  ⟨h.1, h.2.1, h.2.2.1, fun b j hn => by
    obtain ⟨a1, a2, a3⟩ := h.2.2.2.1 b j hn
    exact ⟨by rw [qc_at _ _ _ _ _ _ (fun e => hn (by rw [e.1, e.2]; exact hv))]; exact a1, a2, a3⟩, h.2.2.2.2⟩
theorem efr.wf {V : Nat → Nat → Prop} {s0 s : sk_S} (h : efr V s0 s) {a : Nat} (f : Nat → Int32) (hv : ∀ k, V a k) : efr V s0 (sk_wf s a f) :=
  ⟨h.1, h.2.1, h.2.2.1, fun b j hn => by
    obtain ⟨a1, a2, a3⟩ := h.2.2.2.1 b j hn
    exact ⟨by rw [wf_ne (fun e => hn (by rw [e]; exact hv j))]; exact a1, a2, a3⟩, h.2.2.2.2⟩
theorem efr.wg {V : Nat → Nat → Prop} {s0 s : sk_S} (h : efr V s0 s) {a k : Nat} (v : Int64) (hv : V a k) : efr V s0 (sk_wg s a k v) :=
  ⟨h.1, h.2.1, h.2.2.1, fun b j hn => by
    obtain ⟨a1, a2, a3⟩ := h.2.2.2.1 b j hn
    exact ⟨a1, by rw [wg_at (fun e => hn (by rw [e.1, e.2]; exact hv))]; exact a2, a3⟩, h.2.2.2.2⟩
theorem efr.wr {V : Nat → Nat → Prop} {s0 s : sk_S} (h : efr V s0 s) {a k : Nat} (v : Option Nat) (hv : V a k) (hf : sk_fin (sk_K s0 a).1 k = false) : efr V s0 (sk_wr s a k v) :=
  ⟨h.1, h.2.1, h.2.2.1, fun b j hn => by
    obtain ⟨a1, a2, a3⟩ := h.2.2.2.1 b j hn
    exact ⟨a1, a2, by rw [wr_r2 (fun e => hn (by rw [e.1, e.2]; exact hv))]; exact a3⟩, fun b j hb => by
    rw [wr_r2 (fun e => by rw [e.1, e.2, hf] at hb; cases hb)]; exact h.2.2.2.2 b j hb⟩
section
variable {N a b : Nat} {s : sk_S}
theorem x1_bec (h1 : lay_X1 (sk_K s) (sk_r s) a = true) (h2 : lay_X1 (sk_K s) (sk_r s) b = true) (hab : a ≠ b) : ∃ s', x1_become N s a b = some (s', 0) ∧ efr (fun x _ => x = a) s s' ∧ ∀ k, k < 8 → sk_c s' a k = sk_c s b k := by
  unfold x1_become
  simp only [zq_letP]
  rw [if_pos h1, if_pos h2]
  have hba : b ≠ a := Ne.symm hab
  generalize e1 : sk_wc s a 0 (sk_c s b 0) = s1
  generalize e2 : sk_wc s1 a 1 (sk_c s1 b 1) = s2
  generalize e3 : sk_wc s2 a 2 (sk_c s2 b 2) = s3
  generalize e4 : sk_wc s3 a 3 (sk_c s3 b 3) = s4
  generalize e5 : sk_wc s4 a 4 (sk_c s4 b 4) = s5
  generalize e6 : sk_wc s5 a 5 (sk_c s5 b 5) = s6
  generalize e7 : sk_wc s6 a 6 (sk_c s6 b 6) = s7
  generalize e8 : sk_wc s7 a 7 (sk_c s7 b 7) = s8
  have step : ∀ (i : Nat) (u v : sk_S), sk_wc u a i (sk_c u b i) = v → efr (fun x _ => x = a) s u → (∀ k, k < i → sk_c u a k = sk_c s b k) → efr (fun x _ => x = a) s v ∧ ∀ k, k < i + 1 → sk_c v a k = sk_c s b k := by
    intro i u v e F H
    rw [← e]
    refine ⟨F.wc _ rfl, fun k hk => ?_⟩
    rw [qc_eq]
    by_cases q : k = i
    · subst q; rw [pk_us]; exact F.c hba
    · rw [pk_un q]; exact H k (by omega)
  have t1 := step 0 s s1 e1 efr.rf (fun k hk => by omega)
  have t2 := step 1 s1 s2 e2 t1.1 t1.2
  have t3 := step 2 s2 s3 e3 t2.1 t2.2
  have t4 := step 3 s3 s4 e4 t3.1 t3.2
  have t5 := step 4 s4 s5 e5 t4.1 t4.2
  have t6 := step 5 s5 s6 e6 t5.1 t5.2
  have t7 := step 6 s6 s7 e7 t6.1 t6.2
  have t8 := step 7 s7 s8 e8 t7.1 t7.2
  exact ⟨s8, rfl, t8.1, t8.2⟩
theorem x6_bec (h1 : lay_X6 (sk_K s) (sk_r s) a = true) (h2 : lay_X6 (sk_K s) (sk_r s) b = true) (hab : a + 2 ≤ b ∨ b + 2 ≤ a) : ∃ s', x6_become N s a b = some (s', 0) ∧ efr (fun x k => x = a + 1 ∨ (x = a ∧ k = 1)) s s' ∧ (∀ k, k < 28 → sk_c s' (a + 1) k = sk_c s (b + 1) k) ∧ sk_r s' a 1 = sk_r s b 1 := by
  have hk : (sk_K s a).1 = 6 := by rw [ly_X6_c h1]
  unfold x6_become
  simp only [zq_letP]
  rw [if_pos h1, if_pos h2]
  have e : sk_r (sk_wf s (a + 1) (va_cpy (sk_c s (b + 1)) (sk_c s (a + 1)) 0 0 28)) b 1 = sk_r s b 1 := rfl
  rw [e]
  have fin : ∀ v, v = sk_r s b 1 → ∃ s', some (sk_wr (sk_wf s (a + 1) (va_cpy (sk_c s (b + 1)) (sk_c s (a + 1)) 0 0 28)) a 1 v, (0 : Int32)) = some (s', 0) ∧ efr (fun x k => x = a + 1 ∨ (x = a ∧ k = 1)) s s' ∧ (∀ k, k < 28 → sk_c s' (a + 1) k = sk_c s (b + 1) k) ∧ sk_r s' a 1 = sk_r s b 1 := fun v hv => by
    refine ⟨_, rfl, (efr.rf.wf _ (fun k => .inl rfl)).wr _ (.inr ⟨rfl, rfl⟩) (by rw [hk]; rfl), fun k hk => ?_, ?_⟩
    · rw [wr_c, wf_eq, pk_cpy_in (Nat.zero_le _) (by omega), Nat.zero_add, Nat.sub_zero]
    · rw [wr_same]; exact hv
  cases hr : sk_r s b 1 with
  | none => simp only [ky_om]; rw [hr] at fin; exact fin none rfl
  | some q => simp only [ky_om]; rw [hr] at fin; exact fin (some q) rfl
theorem x8_bec (h1 : lay_X8 (sk_K s) (sk_r s) a = true) (h2 : lay_X8 (sk_K s) (sk_r s) b = true) (hab : a + 4 ≤ b ∨ b + 4 ≤ a) : ∃ s', x8_become N s a b = some (s', 0) ∧ efr (fun x k => x = a + 1 ∨ x = a + 2 ∨ x = a + 3 ∨ (x = a ∧ 3 ≤ k)) s s' ∧ (∀ k, k < 64 → sk_c s' (a + 1) k = sk_c s (b + 1) k) ∧ (∀ k, k < 6 → sk_c s' (a + 2) k = sk_c s (b + 2) k) ∧ (∀ k, k < 6 → sk_c s' (a + 3) k = sk_c s (b + 3) k) ∧ sk_g s' a 3 = sk_g s b 3 ∧ sk_g s' a 4 = sk_g s b 4 ∧ sk_c s' a 5 = sk_c s b 5 ∧ sk_c s' a 6 = sk_c s b 6 ∧ sk_c s' a 7 = sk_c s b 7 := by
  unfold x8_become
  simp only [zq_letP]
  rw [if_pos h1, if_pos h2]
  generalize e1 : sk_wf s (a + 1) (va_cpy (sk_c s (b + 1)) (sk_c s (a + 1)) 0 0 64) = s1
  generalize e2 : sk_wf s1 (a + 2) (va_cpy (sk_c s1 (b + 2)) (sk_c s1 (a + 2)) 0 0 6) = s2
  generalize e3 : sk_wf s2 (a + 3) (va_cpy (sk_c s2 (b + 3)) (sk_c s2 (a + 3)) 0 0 6) = s3
  generalize e4 : sk_wg s3 a 3 (sk_g s3 b 3) = s4
  generalize e5 : sk_wg s4 a 4 (sk_g s4 b 4) = s5
  generalize e6 : sk_wc s5 a 5 (sk_c s5 b 5) = s6
  generalize e7 : sk_wc s6 a 6 (sk_c s6 b 6) = s7
  generalize e8 : sk_wc s7 a 7 (sk_c s7 b 7) = s8
  have c3 : ∀ x, x ≠ a + 1 → x ≠ a + 2 → x ≠ a + 3 → sk_c s3 x = sk_c s x := fun x q1 q2 q3 => by rw [← e3, wf_ne q3, ← e2, wf_ne q2, ← e1, wf_ne q1]
  have g3 : sk_g s3 = sk_g s := by rw [← e3, ← e2, ← e1]; rfl
  have c5 : sk_c s5 = sk_c s3 := by rw [← e5, ← e4]; rfl
  have g8 : sk_g s8 = sk_g s5 := by rw [← e8, ← e7, ← e6]; rfl
  have c8 : ∀ x, x ≠ a → sk_c s8 x = sk_c s3 x := fun x q => by rw [← e8, qc_ne q, ← e7, qc_ne q, ← e6, qc_ne q, c5]
  refine ⟨s8, rfl, ?_, fun k hk => ?_, fun k hk => ?_, fun k hk => ?_, ?_, ?_, ?_, ?_, ?_⟩
  · rw [← e8, ← e7, ← e6, ← e5, ← e4, ← e3, ← e2, ← e1]
    refine (((((((efr.rf.wf _ (fun k => ?_)).wf _ (fun k => ?_)).wf _ (fun k => ?_)).wg _ ?_).wg _ ?_).wc _ ?_).wc _ ?_).wc _ ?_
    · exact .inl rfl
    · exact .inr (.inl rfl)
    · exact .inr (.inr (.inl rfl))
    · exact .inr (.inr (.inr ⟨rfl, by decide⟩))
    · exact .inr (.inr (.inr ⟨rfl, by decide⟩))
    · exact .inr (.inr (.inr ⟨rfl, by decide⟩))
    · exact .inr (.inr (.inr ⟨rfl, by decide⟩))
    · exact .inr (.inr (.inr ⟨rfl, by decide⟩))
  · rw [c8 _ (by omega), ← e3, wf_ne (by omega), ← e2, wf_ne (by omega), ← e1, wf_eq, pk_cpy_in (Nat.zero_le _) (by omega), Nat.zero_add, Nat.sub_zero]
  · rw [c8 _ (by omega), ← e3, wf_ne (by omega), ← e2, wf_eq, pk_cpy_in (Nat.zero_le _) (by omega), Nat.zero_add, Nat.sub_zero, ← e1, wf_ne (by omega)]
  · rw [c8 _ (by omega), ← e3, wf_eq, pk_cpy_in (Nat.zero_le _) (by omega), Nat.zero_add, Nat.sub_zero, ← e2, wf_ne (by omega), ← e1, wf_ne (by omega)]
  · rw [g8, ← e5, wg_at (by omega), ← e4, wg_eq, g3]
  · rw [g8, ← e5, wg_eq, ← e4, wg_at (by omega), g3]
  · rw [← e8, qc_at _ _ _ _ _ _ (by omega), ← e7, qc_at _ _ _ _ _ _ (by omega), ← e6, qc_eq, pk_us, c5, c3 b (by omega) (by omega) (by omega)]
  · rw [← e8, qc_at _ _ _ _ _ _ (by omega), ← e7, qc_eq, pk_us, ← e6, qc_ne (by omega), c5, c3 b (by omega) (by omega) (by omega)]
  · rw [← e8, qc_eq, pk_us, ← e7, qc_ne (by omega), ← e6, qc_ne (by omega), c5, c3 b (by omega) (by omega) (by omega)]
theorem x2_bec (h1 : lay_X2 (sk_K s) (sk_r s) a = true) (h2 : lay_X2 (sk_K s) (sk_r s) b = true) (hab : a + 2 ≤ b ∨ b + 2 ≤ a) : ∃ s', x2_become N s a b = some (s', 0) ∧ efr (fun x k => x = a + 1 ∨ (x = a ∧ 1 ≤ k)) s s' ∧ (∀ k, k < 60 → sk_c s' (a + 1) k = sk_c s (b + 1) k) ∧ sk_c s' a 1 = sk_c s b 1 ∧ sk_c s' a 2 = sk_c s b 2 := by
  unfold x2_become
  simp only [zq_letP]
  rw [if_pos h1, if_pos h2]
  refine ⟨_, rfl, ((efr.rf.wf _ (fun k => .inl rfl)).wc _ (.inr ⟨rfl, by decide⟩)).wc _ (.inr ⟨rfl, by decide⟩), fun k hk => ?_, ?_, ?_⟩
  · rw [qc_ne (by omega), qc_ne (by omega), wf_eq, pk_cpy_in (Nat.zero_le _) (by omega), Nat.zero_add, Nat.sub_zero]
  · rw [qc_at _ _ _ _ _ _ (by omega), qc_eq, pk_us, wf_ne (by omega)]
  · rw [qc_eq, pk_us, qc_ne (by omega), wf_ne (by omega)]
/-- the scene at a becomes that at b -/
theorem x7_bec {W : Nat → Nat} {sd : Int32} (h1 : lay_X7 (sk_K s) (sk_r s) a = true) (h2 : sc_rel s b W sd) (hab : a + 10 ≤ b ∨ b + 10 ≤ a) : ∃ s', x7_become N s a b = some (s', 0) ∧ efr (fun x _ => a ≤ x ∧ x < a + 10) s s' ∧ sc_rel s' a W sd ∧ sk_r s' (a + 2) 1 = sk_r s (b + 2) 1 := by
  obtain ⟨l2, hw, b1, b3, b5, b4, b6, ⟨nx, n1, n2, n3, n4⟩, b13⟩ := h2
  have lay : ∀ {V : Nat → Nat → Prop} {s' : sk_S}, efr V s s' → ∀ p, lay_X7 (sk_K s) (sk_r s) p = true → lay_X7 (sk_K s') (sk_r s') p = true := fun {V s'} F p hp => by
    have hp' := hp
    have k0 := ly_X7_c hp
    have k1 := ly_X7_l0 hp; have k2 := ly_X7_l1 hp; have k4 := ly_X7_l2 hp; have k8 := ly_X7_l3 hp
    have rr : ∀ x k, sk_fin (sk_K s x).1 k = true → sk_r s' x k = sk_r s x k := F.2.2.2.2
    refine lay_X7_mk ⟨by rw [F.1]; exact k0, (rr _ _ (by rw [k0]; rfl)).trans (ly_X7_r0 hp), ?_, (rr _ _ (by rw [k0]; rfl)).trans (ly_X7_r1 hp), ?_, (rr _ _ (by rw [k0]; rfl)).trans (ly_X7_r2 hp), ?_, (rr _ _ (by rw [k0]; rfl)).trans (ly_X7_r3 hp), ?_⟩
    · unfold lay_X1 at k1 ⊢; rw [F.1]; exact k1
    · exact lay_X6_mk ⟨by rw [F.1]; exact ly_X6_c k2, (rr _ _ (by rw [ly_X6_c k2]; rfl)).trans (ly_X6_r0 k2), by rw [F.1]; exact ly_X6_k0 k2⟩
    · exact lay_X8_mk ⟨by rw [F.1]; exact ly_X8_c k4, (rr _ _ (by rw [ly_X8_c k4]; rfl)).trans (ly_X8_r0 k4), by rw [F.1]; exact ly_X8_k0 k4, (rr _ _ (by rw [ly_X8_c k4]; rfl)).trans (ly_X8_r1 k4), by rw [F.1]; exact ly_X8_k1 k4, (rr _ _ (by rw [ly_X8_c k4]; rfl)).trans (ly_X8_r2 k4), by rw [F.1]; exact ly_X8_k2 k4⟩
    · exact lay_X2_mk ⟨by rw [F.1]; exact ly_X2_c k8, (rr _ _ (by rw [ly_X2_c k8]; rfl)).trans (ly_X2_r0 k8), by rw [F.1]; exact ly_X2_k0 k8⟩
  obtain ⟨s1, u1, u2, u3⟩ := x1_bec (N := N) (s := s) (a := a + 1) (b := b + 1) (ly_X7_l0 h1) (ly_X7_l0 l2) (by omega)
  have A1 := lay u2 a h1; have B1 := lay u2 b l2
  obtain ⟨s2, v1, v2, v3, v4⟩ := x6_bec (N := N) (s := s1) (a := a + 2) (b := b + 2) (ly_X7_l1 A1) (ly_X7_l1 B1) (by omega)
  have F2 : efr (fun x _ => a ≤ x ∧ x < a + 10) s s2 := (u2.mono (fun x k h => by omega)).tr (v2.mono (fun x k h => by omega))
  have A2 := lay F2 a h1; have B2 := lay F2 b l2
  obtain ⟨s3, w1, w2, w3, w4, w5, w6, w7, w8, w9, w10⟩ := x8_bec (N := N) (s := s2) (a := a + 4) (b := b + 4) (ly_X7_l2 A2) (ly_X7_l2 B2) (by omega)
  have F3 := F2.tr (w2.mono (V' := fun x _ => a ≤ x ∧ x < a + 10) (fun x k h => by omega))
  have A3 := lay F3 a h1; have B3 := lay F3 b l2
  obtain ⟨s4, y1, y2, y3, y4, y5⟩ := x2_bec (N := N) (s := s3) (a := a + 8) (b := b + 8) (ly_X7_l3 A3) (ly_X7_l3 B3) (by omega)
  have F4 := F3.tr (y2.mono (V' := fun x _ => a ≤ x ∧ x < a + 10) (fun x k h => by omega))
  have F5 : efr (fun x _ => a ≤ x ∧ x < a + 10) s (sk_wc s4 a 4 (sk_c s4 b 4)) := F4.wc _ (by omega)
  have at4 : ∀ x k, x ≠ a → sk_c (sk_wc s4 a 4 (sk_c s4 b 4)) x k = sk_c s4 x k := fun x k h => by rw [qc_ne h]
  refine ⟨_, ?_, F5, ⟨lay F5 a h1, hw, ?_, fun q hq => ?_, fun q hq => ?_, ?_, fun q hq => ?_, ⟨nx, n1, ?_, ?_, fun q hq => ?_⟩, ?_⟩, ?_⟩
  · unfold x7_become
    rw [if_pos h1, if_pos l2, u1]
    simp only [zq_bindP]
    rw [v1]
    simp only [zq_bindP]
    rw [w1]
    simp only [zq_bindP]
    rw [y1]
    simp only [zq_bindP, zq_letP]
  · have e : ∀ k, k < 8 → sk_c (sk_wc s4 a 4 (sk_c s4 b 4)) (a + 1) k = sk_c s (b + 1) k := fun k hk => by
      rw [at4 _ _ (by omega), y2.c (by omega), w2.c (by omega), v2.c (by omega), u3 k hk]
    rw [e 0 (by decide), e 1 (by decide), e 2 (by decide), e 3 (by decide), e 4 (by decide), e 5 (by decide), e 6 (by decide), e 7 (by decide)]
    exact b1
  · rw [at4 _ _ (by omega), y2.c (by omega), w2.c (by omega), show a + 3 = a + 2 + 1 by omega, v3 q hq, u2.c (by omega)]
    exact b3 q hq
  · rw [at4 _ _ (by omega), y2.c (by omega), show a + 5 = a + 4 + 1 by omega, w3 q hq, F2.c (by omega)]
    have gg : sk_g (sk_wc s4 a 4 (sk_c s4 b 4)) = sk_g s4 := rfl
    rw [gg, y2.g (by omega), y2.g (by omega), w6, w7, F2.g (by omega), F2.g (by omega)]
    exact b5 q hq
  · rw [at4 _ _ (by omega), at4 _ _ (by omega), at4 _ _ (by omega), y2.c (by omega), y2.c (by omega), y2.c (by omega), w8, w9, w10, F2.c (by omega), F2.c (by omega), F2.c (by omega)]
    exact b4
  · have hw12 := hw.1.2.2.2.2.2.2.2.2.2.2.2.2.1
    rw [at4 _ _ (by omega), at4 _ _ (by omega), y2.c (by omega), y2.c (by omega), show a + 6 = a + 4 + 2 by omega, show a + 7 = a + 4 + 3 by omega, w4 q (by omega), w5 q (by omega), F2.c (by omega), F2.c (by omega)]
    exact b6 q hq
  · rw [at4 _ _ (by omega), y4, F3.c (by omega)]; exact n2
  · rw [at4 _ _ (by omega), y5, F3.c (by omega)]; exact n3
  · rw [at4 _ _ (by omega), show a + 9 = a + 8 + 1 by omega, y3 _ (Nat.mod_lt _ (by decide)), F3.c (by omega)]; exact n4 q hq
  · rw [qc_eq, pk_us, F4.c (by omega)]; exact b13
  · have rr : sk_r (sk_wc s4 a 4 (sk_c s4 b 4)) = sk_r s4 := rfl
    rw [rr, y2.r (by omega), w2.r (by omega), v4, u2.r (by omega)]
end
