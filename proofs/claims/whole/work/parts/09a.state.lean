/-! THE CLASS'S STATE: kinds, ints, longs, references by address; the next address, slots -/
abbrev sk_S : Type := (Nat → Nat × Nat) × (Nat → Nat → Int32) × (Nat → Nat → Int64) × (Nat → Nat → Option Nat) × Nat × Nat
def sk_K (s : sk_S) : Nat → Nat × Nat := s.1
def sk_c (s : sk_S) : Nat → Nat → Int32 := s.2.1
def sk_g (s : sk_S) : Nat → Nat → Int64 := s.2.2.1
def sk_r (s : sk_S) : Nat → Nat → Option Nat := s.2.2.2.1
def sk_n (s : sk_S) : Nat := s.2.2.2.2.1
def sk_m (s : sk_S) : Nat := s.2.2.2.2.2
def sk_wf (s : sk_S) (a : Nat) (f : Nat → Int32) : sk_S := (sk_K s, va_up (sk_c s) a f, sk_g s, sk_r s, sk_n s, sk_m s)
def sk_wc (s : sk_S) (a k : Nat) (v : Int32) : sk_S := sk_wf s a (upd (sk_c s a) k v)
def sk_wg (s : sk_S) (a k : Nat) (v : Int64) : sk_S := (sk_K s, sk_c s, va_up (sk_g s) a (va_up (sk_g s a) k v), sk_r s, sk_n s, sk_m s)
def sk_wr (s : sk_S) (a k : Nat) (v : Option Nat) : sk_S := (sk_K s, sk_c s, sk_g s, va_up (sk_r s) a (va_up (sk_r s a) k v), sk_n s, sk_m s)
def sk_nw (s : sk_S) (code len slots : Nat) : sk_S := (va_up (sk_K s) (sk_n s) (code, len), va_up (sk_c s) (sk_n s) (fun _ => 0), va_up (sk_g s) (sk_n s) (fun _ => 0), va_up (sk_r s) (sk_n s) (fun _ => none), sk_n s + 1, sk_m s + slots)
def sk_rs (s : sk_S) (slots : Nat) : sk_S := (sk_K s, sk_c s, sk_g s, sk_r s, sk_n s + 1, sk_m s + slots)
def sk_cl (s : sk_S) (a : Nat) : sk_S := (va_up (sk_K s) (sk_n s) (sk_K s a), va_up (sk_c s) (sk_n s) (sk_c s a), va_up (sk_g s) (sk_n s) (sk_g s a), va_up (sk_r s) (sk_n s) (sk_r s a), sk_n s + 1, sk_m s + (sk_K s a).2)
/-- the final references of each kind -/
def sk_fin (c k : Nat) : Bool := match c with
  | 1 => decide (0 ≤ k ∧ k < 2)
  | 3 => decide (0 ≤ k ∧ k < 1)
  | 4 => decide (1 ≤ k ∧ k < 6)
  | 5 => decide (0 ≤ k ∧ k < 5)
  | 6 => decide (0 ≤ k ∧ k < 1)
  | 7 => decide (0 ≤ k ∧ k < 4)
  | 8 => decide (0 ≤ k ∧ k < 3)
  | 9 => decide (0 ≤ k ∧ k < 1)
  | 10 => decide (0 ≤ k ∧ k < 7)
  | 11 => decide (0 ≤ k ∧ k < 6)
  | _ => false
def sk_EE (G : ky_GW) (kd : Nat × Nat) (f : Nat → Int32) (g : Nat → Int64) (r : Nat → Option Nat) : va_E := match kd.1 with
  | 1 => .inr (0, [va_rf (r 0), va_rf (r 1), .int (f 2), .int (f 3), .int (f 4)])
  | 2 => .inr (1, [.int (f 0), .int (f 1), .int (f 2), .int (f 3), .int (f 4), .int (f 5), .int (f 6), .int (f 7)])
  | 3 => .inr (2, [va_rf (r 0), .int (f 1), .int (f 2)])
  | 4 => .inr (3, [.int (f 0), va_rf (r 1), va_rf (r 2), va_rf (r 3), va_rf (r 4), va_rf (r 5), .int (f 6), .int (f 7), .int (f 8), .int (f 9)])
  | 5 => .inr (4, [va_rf (r 0), va_rf (r 1), va_rf (r 2), va_rf (r 3), va_rf (r 4), .int (f 5), .int (f 6)])
  | 6 => .inr (5, [va_rf (r 0), va_rf (r 1)])
  | 7 => .inr (6, [va_rf (r 0), va_rf (r 1), va_rf (r 2), va_rf (r 3), .int (f 4)])
  | 8 => .inr (7, [va_rf (r 0), va_rf (r 1), va_rf (r 2), .long (g 3), .long (g 4), .int (f 5), .int (f 6), .int (f 7)])
  | 9 => .inr (8, [va_rf (r 0), .int (f 1), .int (f 2), .int (f 3), .int (f 4)])
  | 10 => .inr (9, [va_rf (r 0), va_rf (r 1), va_rf (r 2), va_rf (r 3), va_rf (r 4), va_rf (r 5), va_rf (r 6), .int (f 7), .int (f 8), .int (f 9), va_rf (r 10), .int (f 11), .int (f 12)])
  | 11 => .inr (10, [va_rf (r 0), va_rf (r 1), va_rf (r 2), va_rf (r 3), va_rf (r 4), va_rf (r 5), .int (f 6), .int (f 7), va_rf (r 8), va_rf (r 9), .int (f 10)])
  | 12 => .inr (11, [.int (f 0), va_rf (r 1), va_rf (r 2), va_rf (r 3), va_rf (r 4), va_rf (r 5), .int (f 6), .int (f 7), va_rf (r 8), .int (f 9), .int (f 10), .int (f 11), .int (f 12), .int (f 13), .int (f 14), va_rf (r 15), .int (f 16), va_rf (r 17), va_rf (r 18), .int (f 19), .int (f 20), va_rf (r 21), va_rf (r 22), va_rf (r 23)])
  | 20 => .inl (G.2.2.2.2 0, kd.2, .inl f)
  | 21 => .inl (G.2.2.2.2 1, kd.2, .inl f)
  | 22 => .inl (G.2.2.2.2 2, kd.2, .inl f)
  | 23 => .inl (G.2.2.2.2 3, kd.2, .inr (.inr (.inr (.inr r))))
  | _ => ky_J
def sk_hp (G : ky_GW) (s : sk_S) (h : ky_HP) : Prop := (∀ a, (sk_K s a).1 ≠ 0 → a < sk_n s ∧ h.1 a = sk_EE G (sk_K s a) (sk_c s a) (sk_g s a) (sk_r s a)) ∧ ky_B G + h.2.1 = sk_n s ∧ h.2.2 = sk_m s
/-- what stays: kinds, final references (but of x), all that is no kind's -/
def sk_fr (x : Option Nat) (s : sk_S) (h : ky_HP) (s' : sk_S) (h' : ky_HP) : Prop :=
  (∀ a, (sk_K s a).1 ≠ 0 → sk_K s' a = sk_K s a ∧ (some a ≠ x → ∀ k, sk_fin (sk_K s a).1 k = true → sk_r s' a k = sk_r s a k)) ∧ (∀ a, a < sk_n s → (sk_K s a).1 = 0 → (sk_K s' a).1 = 0 ∧ h'.1 a = h.1 a) ∧ sk_n s ≤ sk_n s'
theorem sk_fr.rf {x : Option Nat} {s : sk_S} {h : ky_HP} : sk_fr x s h s h := ⟨fun _ _ => ⟨rfl, fun _ _ _ => rfl⟩, fun _ _ h0 => ⟨h0, rfl⟩, Nat.le_refl _⟩
theorem sk_fr.ti {G : ky_GW} {x : Option Nat} {y : Nat} {s s1 s2 : sk_S} {h h1 h2 : ky_HP} (F : sk_fr x s h s1 h1) (F' : sk_fr (some y) s1 h1 s2 h2) (hm : sk_hp G s h) (hy : sk_n s ≤ y) : sk_fr x s h s2 h2 := by
  refine ⟨fun a ha => ?_, fun a hl h0 => ?_, Nat.le_trans F.2.2 F'.2.2⟩
  · obtain ⟨e1, e2⟩ := F.1 a ha
    have ha1 : (sk_K s1 a).1 ≠ 0 := by rw [e1]; exact ha
    obtain ⟨f1, f2⟩ := F'.1 a ha1
    have hlt := (hm.1 a ha).1
    refine ⟨f1.trans e1, fun hx k hk => ?_⟩
    rw [← e2 hx k hk]
    exact f2 (fun h => by cases h; omega) k (by rw [e1]; exact hk)
  · obtain ⟨e1, e2⟩ := F.2.1 a hl h0
    obtain ⟨f1, f2⟩ := F'.2.1 a (Nat.lt_of_lt_of_le hl F.2.2) e1
    exact ⟨f1, f2.trans e2⟩
theorem sk_fr.tr {x : Option Nat} {s s1 s2 : sk_S} {h h1 h2 : ky_HP} (F : sk_fr x s h s1 h1) (F' : sk_fr none s1 h1 s2 h2) : sk_fr x s h s2 h2 := by
  refine ⟨fun a ha => ?_, fun a hl h0 => ?_, Nat.le_trans F.2.2 F'.2.2⟩
  · obtain ⟨e1, e2⟩ := F.1 a ha
    have ha1 : (sk_K s1 a).1 ≠ 0 := by rw [e1]; exact ha
    obtain ⟨f1, f2⟩ := F'.1 a ha1
    refine ⟨f1.trans e1, fun hx k hk => ?_⟩
    rw [← e2 hx k hk]
    exact f2 (fun h => by cases h) k (by rw [e1]; exact hk)
  · obtain ⟨e1, e2⟩ := F.2.1 a hl h0
    obtain ⟨f1, f2⟩ := F'.2.1 a (Nat.lt_of_lt_of_le hl F.2.2) e1
    exact ⟨f1, f2.trans e2⟩
theorem sk_fr.K {x : Option Nat} {s s1 : sk_S} {h h1 : ky_HP} (F : sk_fr x s h s1 h1) {a k n : Nat} (hk : sk_K s a = (k + 1, n)) : sk_K s1 a = (k + 1, n) := by
  rw [(F.1 a (by rw [hk]; exact Nat.succ_ne_zero k)).1, hk]
theorem sk_fr.K1 {x : Option Nat} {s s1 : sk_S} {h h1 : ky_HP} (F : sk_fr x s h s1 h1) {a k : Nat} (hk : (sk_K s a).1 = k + 1) : (sk_K s1 a).1 = k + 1 := by
  rw [(F.1 a (by rw [hk]; exact Nat.succ_ne_zero k)).1, hk]
theorem sk_fr.r {s s1 : sk_S} {h h1 : ky_HP} (F : sk_fr none s h s1 h1) {a k n j : Nat} {q : Option Nat} (hk : sk_K s a = (k + 1, n)) (hf : sk_fin (k + 1) j = true) (hr : sk_r s a j = q) : sk_r s1 a j = q := by
  rw [(F.1 a (by rw [hk]; exact Nat.succ_ne_zero k)).2 (fun h => by cases h) j (by rw [hk]; exact hf), hr]
theorem sk_hp.at {G : ky_GW} {s : sk_S} {h : ky_HP} (hm : sk_hp G s h) {a k n : Nat} (hk : sk_K s a = (k + 1, n)) : h.1 a = sk_EE G (k + 1, n) (sk_c s a) (sk_g s a) (sk_r s a) := by
  rw [(hm.1 a (by rw [hk]; exact Nat.succ_ne_zero k)).2, hk]
theorem sk_hp.at1 {G : ky_GW} {s : sk_S} {h : ky_HP} (hm : sk_hp G s h) {a k : Nat} (hk : (sk_K s a).1 = k + 1) : h.1 a = sk_EE G (k + 1, (sk_K s a).2) (sk_c s a) (sk_g s a) (sk_r s a) :=
  hm.at (k := k) (n := (sk_K s a).2) (by rw [← hk])
theorem sk_hpW {G : ky_GW} {s s' : sk_S} {h : ky_HP} (hm : sk_hp G s h) {a k n : Nat} (hk : sk_K s a = (k + 1, n)) (h1 : sk_K s' = sk_K s) (h2 : sk_n s' = sk_n s) (h3 : sk_m s' = sk_m s) (ho : ∀ b, b ≠ a → sk_c s' b = sk_c s b ∧ sk_g s' b = sk_g s b ∧ sk_r s' b = sk_r s b) : sk_hp G s' (ky_up h a (sk_EE G (k + 1, n) (sk_c s' a) (sk_g s' a) (sk_r s' a))) := by
  refine ⟨fun b hb => ?_, by rw [h2]; exact hm.2.1, by rw [h3]; exact hm.2.2⟩
  rw [h1] at hb ⊢
  rw [h2]
  by_cases e : b = a
  · subst e
    refine ⟨(hm.1 b hb).1, ?_⟩
    rw [hk]
    simp [ky_up, va_up]
  · obtain ⟨o1, o2, o3⟩ := ho b e
    refine ⟨(hm.1 b hb).1, ?_⟩
    rw [o1, o2, o3]
    have : (ky_up h a (sk_EE G (k + 1, n) (sk_c s' a) (sk_g s' a) (sk_r s' a))).1 b = h.1 b := by simp [ky_up, va_up, e]
    rw [this]
    exact (hm.1 b hb).2
theorem sk_frW {x : Option Nat} {s0 s s' : sk_S} {h0 h : ky_HP} (F : sk_fr x s0 h0 s h) {a k n : Nat} {e9 : va_E} (hk : sk_K s a = (k + 1, n)) (h1 : sk_K s' = sk_K s) (h2 : sk_n s' = sk_n s) (h3 : ∀ b j, some b ≠ x → sk_fin (sk_K s b).1 j = true → sk_r s' b j = sk_r s b j) : sk_fr x s0 h0 s' (ky_up h a e9) := by
  refine ⟨fun b hb => ?_, fun b hl hb => ?_, by rw [h2]; exact F.2.2⟩
  · obtain ⟨e1, e2⟩ := F.1 b hb
    rw [h1]
    refine ⟨e1, fun hx j hj => ?_⟩
    rw [h3 b j hx (by rw [e1]; exact hj)]
    exact e2 hx j hj
  · obtain ⟨e1, e2⟩ := F.2.1 b hl hb
    rw [h1]
    refine ⟨e1, ?_⟩
    have hne : b ≠ a := fun h => by subst h; rw [hk] at e1; exact Nat.succ_ne_zero k e1
    simp only [ky_up, va_up, if_neg hne]
    exact e2
section
variable {G : ky_GW} {d : Nat} {M : ky_MT} {pc : Nat} {L : List (Nat × Value)} {S : List Value} {Q : ky_RS → ky_HP → Prop} {x : Option Nat} {s0 s : sk_S} {h0 h : ky_HP} {a kd n : Nat}
theorem sk_wf_c (s : sk_S) (a : Nat) (f : Nat → Int32) : sk_c (sk_wf s a f) a = f := by simp [sk_c, sk_wf, va_up]
theorem sk_wr_r (s : sk_S) (a k : Nat) (v : Option Nat) : sk_r (sk_wr s a k v) a = va_up (sk_r s a) k v := by simp [sk_r, sk_wr, va_up]
theorem sk_wg_g (s : sk_S) (a k : Nat) (v : Int64) : sk_g (sk_wg s a k v) a = va_up (sk_g s a) k v := by simp [sk_g, sk_wg, va_up]
theorem sk_stf (hm : sk_hp G s h) (F : sk_fr x s0 h0 s h) (hk : sk_K s a = (kd + 1, n)) (f : Nat → Int32) (K : ∀ h1, sk_hp G (sk_wf s a f) h1 → sk_fr x s0 h0 (sk_wf s a f) h1 → ky_V G d M pc L S h1 Q) : ky_V G d M pc L S (ky_up h a (sk_EE G (kd + 1, n) f (sk_g s a) (sk_r s a))) Q := by
  have h1 := sk_hpW (s' := sk_wf s a f) hm hk rfl rfl rfl (fun b hb => ⟨by simp [sk_c, sk_wf, va_up, hb], rfl, rfl⟩)
  rw [sk_wf_c] at h1
  exact K _ h1 (sk_frW F hk rfl rfl (fun _ _ _ _ => rfl))
theorem sk_stc (hm : sk_hp G s h) (F : sk_fr x s0 h0 s h) (hk : sk_K s a = (kd + 1, n)) (k : Nat) (v : Int32) (K : ∀ h1, sk_hp G (sk_wc s a k v) h1 → sk_fr x s0 h0 (sk_wc s a k v) h1 → ky_V G d M pc L S h1 Q) : ky_V G d M pc L S (ky_up h a (sk_EE G (kd + 1, n) (upd (sk_c s a) k v) (sk_g s a) (sk_r s a))) Q :=
  sk_stf hm F hk _ K
theorem sk_stg (hm : sk_hp G s h) (F : sk_fr x s0 h0 s h) (hk : sk_K s a = (kd + 1, n)) (k : Nat) (v : Int64) (K : ∀ h1, sk_hp G (sk_wg s a k v) h1 → sk_fr x s0 h0 (sk_wg s a k v) h1 → ky_V G d M pc L S h1 Q) : ky_V G d M pc L S (ky_up h a (sk_EE G (kd + 1, n) (sk_c s a) (va_up (sk_g s a) k v) (sk_r s a))) Q := by
  have h1 := sk_hpW (s' := sk_wg s a k v) hm hk rfl rfl rfl (fun b hb => ⟨rfl, by simp [sk_g, sk_wg, va_up, hb], rfl⟩)
  rw [sk_wg_g] at h1
  exact K _ h1 (sk_frW F hk rfl rfl (fun _ _ _ _ => rfl))
theorem sk_str (hm : sk_hp G s h) (F : sk_fr x s0 h0 s h) (hk : sk_K s a = (kd + 1, n)) (k : Nat) (v : Option Nat) (hf : sk_fin (kd + 1) k = false ∨ some a = x) (K : ∀ h1, sk_hp G (sk_wr s a k v) h1 → sk_fr x s0 h0 (sk_wr s a k v) h1 → ky_V G d M pc L S h1 Q) : ky_V G d M pc L S (ky_up h a (sk_EE G (kd + 1, n) (sk_c s a) (sk_g s a) (va_up (sk_r s a) k v))) Q := by
  have h1 := sk_hpW (s' := sk_wr s a k v) hm hk rfl rfl rfl (fun b hb => ⟨rfl, rfl, by simp [sk_r, sk_wr, va_up, hb]⟩)
  rw [sk_wr_r] at h1
  refine K _ h1 (sk_frW F hk rfl rfl (fun b j hx hj => ?_))
  by_cases e : b = a
  · subst e
    rw [sk_wr_r]
    have hne : j ≠ k := by
      intro e
      subst e
      rcases hf with hf | hf
      · rw [hk] at hj
        rw [show sk_fin (kd + 1) j = false from hf] at hj
        cases hj
      · exact hx hf
    simp [va_up, hne]
  · simp [sk_r, sk_wr, va_up, e]
theorem sk_hpN {k : Nat} (hm : sk_hp G s h) (e9 : va_E) (code len : Nat) (he : e9 = sk_EE G (code, len) (fun _ => 0) (fun _ => 0) (fun _ => none)) : sk_hp G (sk_nw s code len k) (ky_nw G h e9 k) := by
  have hn := hm.2.1
  refine ⟨fun b hb => ?_, by show ky_B G + (h.2.1 + 1) = sk_n s + 1; omega, by show h.2.2 + k = sk_m s + k; rw [hm.2.2]⟩
  by_cases e : b = sk_n s
  · subst e
    refine ⟨by show sk_n s < sk_n s + 1; omega, ?_⟩
    have e1 : (ky_nw G h e9 k).1 (sk_n s) = e9 := by simp [ky_nw, va_up, hn]
    rw [e1, he]
    simp [sk_nw, sk_K, sk_c, sk_g, sk_r, va_up]
  · have hb0 : (sk_K s b).1 ≠ 0 := by simpa [sk_nw, sk_K, va_up, e] using hb
    obtain ⟨h1, h2⟩ := hm.1 b hb0
    refine ⟨by show b < sk_n s + 1; omega, ?_⟩
    have e1 : (ky_nw G h e9 k).1 b = h.1 b := by simp [ky_nw, va_up, hn, e]
    rw [e1, h2]
    simp [sk_nw, sk_K, sk_c, sk_g, sk_r, va_up, e]
theorem sk_frN {k : Nat} (hm : sk_hp G s h) (F : sk_fr x s0 h0 s h) (e9 : va_E) (code len : Nat) : sk_fr x s0 h0 (sk_nw s code len k) (ky_nw G h e9 k) := by
  have hn := hm.2.1
  refine ⟨fun b hb => ?_, fun b hl hb => ?_, Nat.le_trans F.2.2 (Nat.le_succ _)⟩
  · obtain ⟨e1, e2⟩ := F.1 b hb
    have hlt := (hm.1 b (by rw [e1]; exact hb)).1
    have hne : b ≠ sk_n s := by omega
    refine ⟨?_, fun hx j hj => ?_⟩
    · rw [← e1]; simp [sk_nw, sk_K, va_up, hne]
    · rw [← e2 hx j hj]; simp [sk_nw, sk_r, va_up, hne]
  · obtain ⟨e1, e2⟩ := F.2.1 b hl hb
    have hne : b ≠ sk_n s := by have := F.2.2; omega
    refine ⟨?_, ?_⟩
    · rw [← e1]; simp [sk_nw, sk_K, va_up, hne]
    · rw [← e2]; simp [ky_nw, va_up, hn, hne]
theorem sk_snw {k : Nat} {e9 : va_E} (hm : sk_hp G s h) (F : sk_fr x s0 h0 s h) (code len : Nat) (he : e9 = sk_EE G (code, len) (fun _ => 0) (fun _ => 0) (fun _ => none)) (K : ∀ y h1, y = sk_n s → sk_hp G (sk_nw s code len k) h1 → sk_fr x s0 h0 (sk_nw s code len k) h1 → ky_V G d M pc L (.ref y :: S) h1 Q) : ky_V G d M pc L (.ref (ky_B G + h.2.1) :: S) (ky_nw G h e9 k) Q := by
  rw [hm.2.1]
  exact K _ _ rfl (sk_hpN hm e9 code len he) (sk_frN hm F e9 code len)
theorem sk_hpJ {k : Nat} (hm : sk_hp G s h) : sk_hp G (sk_rs s k) (ky_nw G h ky_J k) := by
  have hn := hm.2.1
  refine ⟨fun b hb => ?_, by show ky_B G + (h.2.1 + 1) = sk_n s + 1; omega, by show h.2.2 + k = sk_m s + k; rw [hm.2.2]⟩
  obtain ⟨h1, h2⟩ := hm.1 b hb
  have hne : b ≠ sk_n s := by omega
  refine ⟨by show b < sk_n s + 1; omega, ?_⟩
  have e1 : (ky_nw G h ky_J k).1 b = h.1 b := by simp [ky_nw, va_up, hn, hne]
  rw [e1, h2]
  rfl
theorem sk_frJ {k : Nat} (hm : sk_hp G s h) (F : sk_fr x s0 h0 s h) : sk_fr x s0 h0 (sk_rs s k) (ky_nw G h ky_J k) := by
  have hn := hm.2.1
  refine ⟨fun b hb => F.1 b hb, fun b hl hb => ?_, Nat.le_trans F.2.2 (Nat.le_succ _)⟩
  obtain ⟨e1, e2⟩ := F.2.1 b hl hb
  have hne : b ≠ sk_n s := by have := F.2.2; omega
  refine ⟨e1, ?_⟩
  rw [← e2]; simp [ky_nw, va_up, hn, hne]
theorem sk_rf {r : Option Nat} {q : Nat} (h : r = some q) : some (va_rf r) = some (Value.ref q) := by rw [h]; rfl
theorem sk_rn {r : Option Nat} (h : r = none) : some (va_rf r) = some Value.null := by rw [h]; rfl
end
theorem oc_X0 {G : ky_GW} {s : sk_S} {h : ky_HP} {a : Nat} (hm : sk_hp G s h) (hk : sk_K s a = (1, 0)) : h.1 a = .inr (0, [va_rf (sk_r s a 0), va_rf (sk_r s a 1), .int (sk_c s a 2), .int (sk_c s a 3), .int (sk_c s a 4)]) := hm.at (k := 0) hk
theorem oc_X1 {G : ky_GW} {s : sk_S} {h : ky_HP} {a : Nat} (hm : sk_hp G s h) (hk : sk_K s a = (2, 0)) : h.1 a = .inr (1, [.int (sk_c s a 0), .int (sk_c s a 1), .int (sk_c s a 2), .int (sk_c s a 3), .int (sk_c s a 4), .int (sk_c s a 5), .int (sk_c s a 6), .int (sk_c s a 7)]) := hm.at (k := 1) hk
theorem oc_X2 {G : ky_GW} {s : sk_S} {h : ky_HP} {a : Nat} (hm : sk_hp G s h) (hk : sk_K s a = (3, 0)) : h.1 a = .inr (2, [va_rf (sk_r s a 0), .int (sk_c s a 1), .int (sk_c s a 2)]) := hm.at (k := 2) hk
theorem oc_X3 {G : ky_GW} {s : sk_S} {h : ky_HP} {a : Nat} (hm : sk_hp G s h) (hk : sk_K s a = (4, 0)) : h.1 a = .inr (3, [.int (sk_c s a 0), va_rf (sk_r s a 1), va_rf (sk_r s a 2), va_rf (sk_r s a 3), va_rf (sk_r s a 4), va_rf (sk_r s a 5), .int (sk_c s a 6), .int (sk_c s a 7), .int (sk_c s a 8), .int (sk_c s a 9)]) := hm.at (k := 3) hk
theorem oc_X4 {G : ky_GW} {s : sk_S} {h : ky_HP} {a : Nat} (hm : sk_hp G s h) (hk : sk_K s a = (5, 0)) : h.1 a = .inr (4, [va_rf (sk_r s a 0), va_rf (sk_r s a 1), va_rf (sk_r s a 2), va_rf (sk_r s a 3), va_rf (sk_r s a 4), .int (sk_c s a 5), .int (sk_c s a 6)]) := hm.at (k := 4) hk
theorem oc_X6 {G : ky_GW} {s : sk_S} {h : ky_HP} {a : Nat} (hm : sk_hp G s h) (hk : sk_K s a = (6, 0)) : h.1 a = .inr (5, [va_rf (sk_r s a 0), va_rf (sk_r s a 1)]) := hm.at (k := 5) hk
theorem oc_X7 {G : ky_GW} {s : sk_S} {h : ky_HP} {a : Nat} (hm : sk_hp G s h) (hk : sk_K s a = (7, 0)) : h.1 a = .inr (6, [va_rf (sk_r s a 0), va_rf (sk_r s a 1), va_rf (sk_r s a 2), va_rf (sk_r s a 3), .int (sk_c s a 4)]) := hm.at (k := 6) hk
theorem oc_X8 {G : ky_GW} {s : sk_S} {h : ky_HP} {a : Nat} (hm : sk_hp G s h) (hk : sk_K s a = (8, 0)) : h.1 a = .inr (7, [va_rf (sk_r s a 0), va_rf (sk_r s a 1), va_rf (sk_r s a 2), .long (sk_g s a 3), .long (sk_g s a 4), .int (sk_c s a 5), .int (sk_c s a 6), .int (sk_c s a 7)]) := hm.at (k := 7) hk
theorem oc_X9 {G : ky_GW} {s : sk_S} {h : ky_HP} {a : Nat} (hm : sk_hp G s h) (hk : sk_K s a = (9, 0)) : h.1 a = .inr (8, [va_rf (sk_r s a 0), .int (sk_c s a 1), .int (sk_c s a 2), .int (sk_c s a 3), .int (sk_c s a 4)]) := hm.at (k := 8) hk
theorem oc_X10 {G : ky_GW} {s : sk_S} {h : ky_HP} {a : Nat} (hm : sk_hp G s h) (hk : sk_K s a = (10, 0)) : h.1 a = .inr (9, [va_rf (sk_r s a 0), va_rf (sk_r s a 1), va_rf (sk_r s a 2), va_rf (sk_r s a 3), va_rf (sk_r s a 4), va_rf (sk_r s a 5), va_rf (sk_r s a 6), .int (sk_c s a 7), .int (sk_c s a 8), .int (sk_c s a 9), va_rf (sk_r s a 10), .int (sk_c s a 11), .int (sk_c s a 12)]) := hm.at (k := 9) hk
theorem oc_X11 {G : ky_GW} {s : sk_S} {h : ky_HP} {a : Nat} (hm : sk_hp G s h) (hk : sk_K s a = (11, 0)) : h.1 a = .inr (10, [va_rf (sk_r s a 0), va_rf (sk_r s a 1), va_rf (sk_r s a 2), va_rf (sk_r s a 3), va_rf (sk_r s a 4), va_rf (sk_r s a 5), .int (sk_c s a 6), .int (sk_c s a 7), va_rf (sk_r s a 8), va_rf (sk_r s a 9), .int (sk_c s a 10)]) := hm.at (k := 10) hk
theorem oc_X12 {G : ky_GW} {s : sk_S} {h : ky_HP} {a : Nat} (hm : sk_hp G s h) (hk : sk_K s a = (12, 0)) : h.1 a = .inr (11, [.int (sk_c s a 0), va_rf (sk_r s a 1), va_rf (sk_r s a 2), va_rf (sk_r s a 3), va_rf (sk_r s a 4), va_rf (sk_r s a 5), .int (sk_c s a 6), .int (sk_c s a 7), va_rf (sk_r s a 8), .int (sk_c s a 9), .int (sk_c s a 10), .int (sk_c s a 11), .int (sk_c s a 12), .int (sk_c s a 13), .int (sk_c s a 14), va_rf (sk_r s a 15), .int (sk_c s a 16), va_rf (sk_r s a 17), va_rf (sk_r s a 18), .int (sk_c s a 19), .int (sk_c s a 20), va_rf (sk_r s a 21), va_rf (sk_r s a 22), va_rf (sk_r s a 23)]) := hm.at (k := 11) hk
theorem oa_20 {G : ky_GW} {s : sk_S} {h : ky_HP} {a n : Nat} (hm : sk_hp G s h) (hk : sk_K s a = (20, n)) : h.1 a = .inl (G.2.2.2.2 0, n, .inl (sk_c s a)) := hm.at (k := 19) hk
theorem ox_20 {G : ky_GW} {s : sk_S} {h : ky_HP} {a : Nat} (hm : sk_hp G s h) (hk : (sk_K s a).1 = 20) : h.1 a = .inl (G.2.2.2.2 0, (sk_K s a).2, .inl (sk_c s a)) := hm.at1 (k := 19) hk
theorem oa_21 {G : ky_GW} {s : sk_S} {h : ky_HP} {a n : Nat} (hm : sk_hp G s h) (hk : sk_K s a = (21, n)) : h.1 a = .inl (G.2.2.2.2 1, n, .inl (sk_c s a)) := hm.at (k := 20) hk
theorem ox_21 {G : ky_GW} {s : sk_S} {h : ky_HP} {a : Nat} (hm : sk_hp G s h) (hk : (sk_K s a).1 = 21) : h.1 a = .inl (G.2.2.2.2 1, (sk_K s a).2, .inl (sk_c s a)) := hm.at1 (k := 20) hk
theorem oa_22 {G : ky_GW} {s : sk_S} {h : ky_HP} {a n : Nat} (hm : sk_hp G s h) (hk : sk_K s a = (22, n)) : h.1 a = .inl (G.2.2.2.2 2, n, .inl (sk_c s a)) := hm.at (k := 21) hk
theorem ox_22 {G : ky_GW} {s : sk_S} {h : ky_HP} {a : Nat} (hm : sk_hp G s h) (hk : (sk_K s a).1 = 22) : h.1 a = .inl (G.2.2.2.2 2, (sk_K s a).2, .inl (sk_c s a)) := hm.at1 (k := 21) hk
theorem oa_23 {G : ky_GW} {s : sk_S} {h : ky_HP} {a n : Nat} (hm : sk_hp G s h) (hk : sk_K s a = (23, n)) : h.1 a = .inl (G.2.2.2.2 3, n, .inr (.inr (.inr (.inr (sk_r s a))))) := hm.at (k := 22) hk
theorem sk_pr {x : Nat × Nat} {k : Nat} (h : x.1 = k) : x = (k, x.2) := by rw [← h]
def lay_X1 (K : Nat → Nat × Nat) (r : Nat → Nat → Option Nat) (a : Nat) : Bool := decide (K a = (2, 0))
theorem lay_X1_of {K : Nat → Nat × Nat} {r : Nat → Nat → Option Nat} {a : Nat} (h : lay_X1 K r a = true) : K a = (2, 0) := of_decide_eq_true h
theorem lay_X1_mk {K : Nat → Nat × Nat} {r : Nat → Nat → Option Nat} {a : Nat} (h : K a = (2, 0)) : lay_X1 K r a = true := decide_eq_true h
theorem ly_X1_c {K : Nat → Nat × Nat} {r : Nat → Nat → Option Nat} {a : Nat} (h : lay_X1 K r a = true) : K a = (2, 0) := (lay_X1_of h)
theorem lt_X1 {s s1 : sk_S} {h0 h1 : ky_HP} {a : Nat} (F : sk_fr none s h0 s1 h1) (h : lay_X1 (sk_K s) (sk_r s) a = true) : lay_X1 (sk_K s1) (sk_r s1) a = true := lay_X1_mk (F.K (k := 1) (ly_X1_c h))
def lay_X6 (K : Nat → Nat × Nat) (r : Nat → Nat → Option Nat) (a : Nat) : Bool := decide (K a = (6, 0) ∧ r a 0 = some (a + 1) ∧ K (a + 1) = (21, 28))
theorem lay_X6_of {K : Nat → Nat × Nat} {r : Nat → Nat → Option Nat} {a : Nat} (h : lay_X6 K r a = true) : K a = (6, 0) ∧ r a 0 = some (a + 1) ∧ K (a + 1) = (21, 28) := of_decide_eq_true h
theorem lay_X6_mk {K : Nat → Nat × Nat} {r : Nat → Nat → Option Nat} {a : Nat} (h : K a = (6, 0) ∧ r a 0 = some (a + 1) ∧ K (a + 1) = (21, 28)) : lay_X6 K r a = true := decide_eq_true h
theorem ly_X6_c {K : Nat → Nat × Nat} {r : Nat → Nat → Option Nat} {a : Nat} (h : lay_X6 K r a = true) : K a = (6, 0) := (lay_X6_of h).1
theorem ly_X6_r0 {K : Nat → Nat × Nat} {r : Nat → Nat → Option Nat} {a : Nat} (h : lay_X6 K r a = true) : r a 0 = some (a + 1) := (lay_X6_of h).2.1
theorem ly_X6_k0 {K : Nat → Nat × Nat} {r : Nat → Nat → Option Nat} {a : Nat} (h : lay_X6 K r a = true) : K (a + 1) = (21, 28) := (lay_X6_of h).2.2
theorem lt_X6 {s s1 : sk_S} {h0 h1 : ky_HP} {a : Nat} (F : sk_fr none s h0 s1 h1) (h : lay_X6 (sk_K s) (sk_r s) a = true) : lay_X6 (sk_K s1) (sk_r s1) a = true := lay_X6_mk ⟨F.K (k := 5) (ly_X6_c h), F.r (k := 5) (ly_X6_c h) rfl (ly_X6_r0 h), F.K (k := 20) (ly_X6_k0 h)⟩
def lay_X8 (K : Nat → Nat × Nat) (r : Nat → Nat → Option Nat) (a : Nat) : Bool := decide (K a = (8, 0) ∧ r a 0 = some (a + 1) ∧ K (a + 1) = (21, 64) ∧ r a 1 = some (a + 2) ∧ K (a + 2) = (21, 6) ∧ r a 2 = some (a + 3) ∧ K (a + 3) = (21, 6))
theorem lay_X8_of {K : Nat → Nat × Nat} {r : Nat → Nat → Option Nat} {a : Nat} (h : lay_X8 K r a = true) : K a = (8, 0) ∧ r a 0 = some (a + 1) ∧ K (a + 1) = (21, 64) ∧ r a 1 = some (a + 2) ∧ K (a + 2) = (21, 6) ∧ r a 2 = some (a + 3) ∧ K (a + 3) = (21, 6) := of_decide_eq_true h
theorem lay_X8_mk {K : Nat → Nat × Nat} {r : Nat → Nat → Option Nat} {a : Nat} (h : K a = (8, 0) ∧ r a 0 = some (a + 1) ∧ K (a + 1) = (21, 64) ∧ r a 1 = some (a + 2) ∧ K (a + 2) = (21, 6) ∧ r a 2 = some (a + 3) ∧ K (a + 3) = (21, 6)) : lay_X8 K r a = true := decide_eq_true h
theorem ly_X8_c {K : Nat → Nat × Nat} {r : Nat → Nat → Option Nat} {a : Nat} (h : lay_X8 K r a = true) : K a = (8, 0) := (lay_X8_of h).1
theorem ly_X8_r0 {K : Nat → Nat × Nat} {r : Nat → Nat → Option Nat} {a : Nat} (h : lay_X8 K r a = true) : r a 0 = some (a + 1) := (lay_X8_of h).2.1
theorem ly_X8_k0 {K : Nat → Nat × Nat} {r : Nat → Nat → Option Nat} {a : Nat} (h : lay_X8 K r a = true) : K (a + 1) = (21, 64) := (lay_X8_of h).2.2.1
theorem ly_X8_r1 {K : Nat → Nat × Nat} {r : Nat → Nat → Option Nat} {a : Nat} (h : lay_X8 K r a = true) : r a 1 = some (a + 2) := (lay_X8_of h).2.2.2.1
theorem ly_X8_k1 {K : Nat → Nat × Nat} {r : Nat → Nat → Option Nat} {a : Nat} (h : lay_X8 K r a = true) : K (a + 2) = (21, 6) := (lay_X8_of h).2.2.2.2.1
theorem ly_X8_r2 {K : Nat → Nat × Nat} {r : Nat → Nat → Option Nat} {a : Nat} (h : lay_X8 K r a = true) : r a 2 = some (a + 3) := (lay_X8_of h).2.2.2.2.2.1
theorem ly_X8_k2 {K : Nat → Nat × Nat} {r : Nat → Nat → Option Nat} {a : Nat} (h : lay_X8 K r a = true) : K (a + 3) = (21, 6) := (lay_X8_of h).2.2.2.2.2.2
theorem lt_X8 {s s1 : sk_S} {h0 h1 : ky_HP} {a : Nat} (F : sk_fr none s h0 s1 h1) (h : lay_X8 (sk_K s) (sk_r s) a = true) : lay_X8 (sk_K s1) (sk_r s1) a = true := lay_X8_mk ⟨F.K (k := 7) (ly_X8_c h), F.r (k := 7) (ly_X8_c h) rfl (ly_X8_r0 h), F.K (k := 20) (ly_X8_k0 h), F.r (k := 7) (ly_X8_c h) rfl (ly_X8_r1 h), F.K (k := 20) (ly_X8_k1 h), F.r (k := 7) (ly_X8_c h) rfl (ly_X8_r2 h), F.K (k := 20) (ly_X8_k2 h)⟩
def lay_X2 (K : Nat → Nat × Nat) (r : Nat → Nat → Option Nat) (a : Nat) : Bool := decide (K a = (3, 0) ∧ r a 0 = some (a + 1) ∧ K (a + 1) = (21, 60))
theorem lay_X2_of {K : Nat → Nat × Nat} {r : Nat → Nat → Option Nat} {a : Nat} (h : lay_X2 K r a = true) : K a = (3, 0) ∧ r a 0 = some (a + 1) ∧ K (a + 1) = (21, 60) := of_decide_eq_true h
theorem lay_X2_mk {K : Nat → Nat × Nat} {r : Nat → Nat → Option Nat} {a : Nat} (h : K a = (3, 0) ∧ r a 0 = some (a + 1) ∧ K (a + 1) = (21, 60)) : lay_X2 K r a = true := decide_eq_true h
theorem ly_X2_c {K : Nat → Nat × Nat} {r : Nat → Nat → Option Nat} {a : Nat} (h : lay_X2 K r a = true) : K a = (3, 0) := (lay_X2_of h).1
theorem ly_X2_r0 {K : Nat → Nat × Nat} {r : Nat → Nat → Option Nat} {a : Nat} (h : lay_X2 K r a = true) : r a 0 = some (a + 1) := (lay_X2_of h).2.1
theorem ly_X2_k0 {K : Nat → Nat × Nat} {r : Nat → Nat → Option Nat} {a : Nat} (h : lay_X2 K r a = true) : K (a + 1) = (21, 60) := (lay_X2_of h).2.2
theorem lt_X2 {s s1 : sk_S} {h0 h1 : ky_HP} {a : Nat} (F : sk_fr none s h0 s1 h1) (h : lay_X2 (sk_K s) (sk_r s) a = true) : lay_X2 (sk_K s1) (sk_r s1) a = true := lay_X2_mk ⟨F.K (k := 2) (ly_X2_c h), F.r (k := 2) (ly_X2_c h) rfl (ly_X2_r0 h), F.K (k := 20) (ly_X2_k0 h)⟩
def lay_X7 (K : Nat → Nat × Nat) (r : Nat → Nat → Option Nat) (a : Nat) : Bool := decide (K a = (7, 0) ∧ r a 0 = some (a + 1) ∧ lay_X1 K r (a + 1) = true ∧ r a 1 = some (a + 2) ∧ lay_X6 K r (a + 2) = true ∧ r a 2 = some (a + 4) ∧ lay_X8 K r (a + 4) = true ∧ r a 3 = some (a + 8) ∧ lay_X2 K r (a + 8) = true)
theorem lay_X7_of {K : Nat → Nat × Nat} {r : Nat → Nat → Option Nat} {a : Nat} (h : lay_X7 K r a = true) : K a = (7, 0) ∧ r a 0 = some (a + 1) ∧ lay_X1 K r (a + 1) = true ∧ r a 1 = some (a + 2) ∧ lay_X6 K r (a + 2) = true ∧ r a 2 = some (a + 4) ∧ lay_X8 K r (a + 4) = true ∧ r a 3 = some (a + 8) ∧ lay_X2 K r (a + 8) = true := of_decide_eq_true h
theorem lay_X7_mk {K : Nat → Nat × Nat} {r : Nat → Nat → Option Nat} {a : Nat} (h : K a = (7, 0) ∧ r a 0 = some (a + 1) ∧ lay_X1 K r (a + 1) = true ∧ r a 1 = some (a + 2) ∧ lay_X6 K r (a + 2) = true ∧ r a 2 = some (a + 4) ∧ lay_X8 K r (a + 4) = true ∧ r a 3 = some (a + 8) ∧ lay_X2 K r (a + 8) = true) : lay_X7 K r a = true := decide_eq_true h
theorem ly_X7_c {K : Nat → Nat × Nat} {r : Nat → Nat → Option Nat} {a : Nat} (h : lay_X7 K r a = true) : K a = (7, 0) := (lay_X7_of h).1
theorem ly_X7_r0 {K : Nat → Nat × Nat} {r : Nat → Nat → Option Nat} {a : Nat} (h : lay_X7 K r a = true) : r a 0 = some (a + 1) := (lay_X7_of h).2.1
theorem ly_X7_l0 {K : Nat → Nat × Nat} {r : Nat → Nat → Option Nat} {a : Nat} (h : lay_X7 K r a = true) : lay_X1 K r (a + 1) = true := (lay_X7_of h).2.2.1
theorem ly_X7_r1 {K : Nat → Nat × Nat} {r : Nat → Nat → Option Nat} {a : Nat} (h : lay_X7 K r a = true) : r a 1 = some (a + 2) := (lay_X7_of h).2.2.2.1
theorem ly_X7_l1 {K : Nat → Nat × Nat} {r : Nat → Nat → Option Nat} {a : Nat} (h : lay_X7 K r a = true) : lay_X6 K r (a + 2) = true := (lay_X7_of h).2.2.2.2.1
theorem ly_X7_r2 {K : Nat → Nat × Nat} {r : Nat → Nat → Option Nat} {a : Nat} (h : lay_X7 K r a = true) : r a 2 = some (a + 4) := (lay_X7_of h).2.2.2.2.2.1
theorem ly_X7_l2 {K : Nat → Nat × Nat} {r : Nat → Nat → Option Nat} {a : Nat} (h : lay_X7 K r a = true) : lay_X8 K r (a + 4) = true := (lay_X7_of h).2.2.2.2.2.2.1
theorem ly_X7_r3 {K : Nat → Nat × Nat} {r : Nat → Nat → Option Nat} {a : Nat} (h : lay_X7 K r a = true) : r a 3 = some (a + 8) := (lay_X7_of h).2.2.2.2.2.2.2.1
theorem ly_X7_l3 {K : Nat → Nat × Nat} {r : Nat → Nat → Option Nat} {a : Nat} (h : lay_X7 K r a = true) : lay_X2 K r (a + 8) = true := (lay_X7_of h).2.2.2.2.2.2.2.2
theorem lt_X7 {s s1 : sk_S} {h0 h1 : ky_HP} {a : Nat} (F : sk_fr none s h0 s1 h1) (h : lay_X7 (sk_K s) (sk_r s) a = true) : lay_X7 (sk_K s1) (sk_r s1) a = true := lay_X7_mk ⟨F.K (k := 6) (ly_X7_c h), F.r (k := 6) (ly_X7_c h) rfl (ly_X7_r0 h), lt_X1 F (ly_X7_l0 h), F.r (k := 6) (ly_X7_c h) rfl (ly_X7_r1 h), lt_X6 F (ly_X7_l1 h), F.r (k := 6) (ly_X7_c h) rfl (ly_X7_r2 h), lt_X8 F (ly_X7_l2 h), F.r (k := 6) (ly_X7_c h) rfl (ly_X7_r3 h), lt_X2 F (ly_X7_l3 h)⟩
def lay_X9 (K : Nat → Nat × Nat) (r : Nat → Nat → Option Nat) (a : Nat) : Bool := decide (K a = (9, 0) ∧ r a 0 = some (a + 1) ∧ K (a + 1) = (20, 400))
theorem lay_X9_of {K : Nat → Nat × Nat} {r : Nat → Nat → Option Nat} {a : Nat} (h : lay_X9 K r a = true) : K a = (9, 0) ∧ r a 0 = some (a + 1) ∧ K (a + 1) = (20, 400) := of_decide_eq_true h
theorem lay_X9_mk {K : Nat → Nat × Nat} {r : Nat → Nat → Option Nat} {a : Nat} (h : K a = (9, 0) ∧ r a 0 = some (a + 1) ∧ K (a + 1) = (20, 400)) : lay_X9 K r a = true := decide_eq_true h
theorem ly_X9_c {K : Nat → Nat × Nat} {r : Nat → Nat → Option Nat} {a : Nat} (h : lay_X9 K r a = true) : K a = (9, 0) := (lay_X9_of h).1
theorem ly_X9_r0 {K : Nat → Nat × Nat} {r : Nat → Nat → Option Nat} {a : Nat} (h : lay_X9 K r a = true) : r a 0 = some (a + 1) := (lay_X9_of h).2.1
theorem ly_X9_k0 {K : Nat → Nat × Nat} {r : Nat → Nat → Option Nat} {a : Nat} (h : lay_X9 K r a = true) : K (a + 1) = (20, 400) := (lay_X9_of h).2.2
theorem lt_X9 {s s1 : sk_S} {h0 h1 : ky_HP} {a : Nat} (F : sk_fr none s h0 s1 h1) (h : lay_X9 (sk_K s) (sk_r s) a = true) : lay_X9 (sk_K s1) (sk_r s1) a = true := lay_X9_mk ⟨F.K (k := 8) (ly_X9_c h), F.r (k := 8) (ly_X9_c h) rfl (ly_X9_r0 h), F.K (k := 19) (ly_X9_k0 h)⟩
def lay_X0 (K : Nat → Nat × Nat) (r : Nat → Nat → Option Nat) (a : Nat) : Bool := decide (K a = (1, 0) ∧ r a 0 = some (a + 1) ∧ K (a + 1) = (21, 14) ∧ r a 1 = some (a + 2) ∧ K (a + 2) = (21, 70))
theorem lay_X0_of {K : Nat → Nat × Nat} {r : Nat → Nat → Option Nat} {a : Nat} (h : lay_X0 K r a = true) : K a = (1, 0) ∧ r a 0 = some (a + 1) ∧ K (a + 1) = (21, 14) ∧ r a 1 = some (a + 2) ∧ K (a + 2) = (21, 70) := of_decide_eq_true h
theorem lay_X0_mk {K : Nat → Nat × Nat} {r : Nat → Nat → Option Nat} {a : Nat} (h : K a = (1, 0) ∧ r a 0 = some (a + 1) ∧ K (a + 1) = (21, 14) ∧ r a 1 = some (a + 2) ∧ K (a + 2) = (21, 70)) : lay_X0 K r a = true := decide_eq_true h
theorem ly_X0_c {K : Nat → Nat × Nat} {r : Nat → Nat → Option Nat} {a : Nat} (h : lay_X0 K r a = true) : K a = (1, 0) := (lay_X0_of h).1
theorem ly_X0_r0 {K : Nat → Nat × Nat} {r : Nat → Nat → Option Nat} {a : Nat} (h : lay_X0 K r a = true) : r a 0 = some (a + 1) := (lay_X0_of h).2.1
theorem ly_X0_k0 {K : Nat → Nat × Nat} {r : Nat → Nat → Option Nat} {a : Nat} (h : lay_X0 K r a = true) : K (a + 1) = (21, 14) := (lay_X0_of h).2.2.1
theorem ly_X0_r1 {K : Nat → Nat × Nat} {r : Nat → Nat → Option Nat} {a : Nat} (h : lay_X0 K r a = true) : r a 1 = some (a + 2) := (lay_X0_of h).2.2.2.1
theorem ly_X0_k1 {K : Nat → Nat × Nat} {r : Nat → Nat → Option Nat} {a : Nat} (h : lay_X0 K r a = true) : K (a + 2) = (21, 70) := (lay_X0_of h).2.2.2.2
theorem lt_X0 {s s1 : sk_S} {h0 h1 : ky_HP} {a : Nat} (F : sk_fr none s h0 s1 h1) (h : lay_X0 (sk_K s) (sk_r s) a = true) : lay_X0 (sk_K s1) (sk_r s1) a = true := lay_X0_mk ⟨F.K (k := 0) (ly_X0_c h), F.r (k := 0) (ly_X0_c h) rfl (ly_X0_r0 h), F.K (k := 20) (ly_X0_k0 h), F.r (k := 0) (ly_X0_c h) rfl (ly_X0_r1 h), F.K (k := 20) (ly_X0_k1 h)⟩
def lay_X4 (K : Nat → Nat × Nat) (r : Nat → Nat → Option Nat) (a : Nat) : Bool := decide (K a = (5, 0) ∧ r a 0 = some (a + 1) ∧ K (a + 1) = (21, 12) ∧ r a 1 = some (a + 2) ∧ K (a + 2) = (21, 12) ∧ r a 2 = some (a + 3) ∧ K (a + 3) = (21, 13) ∧ r a 3 = some (a + 4) ∧ K (a + 4) = (21, 400) ∧ r a 4 = some (a + 5) ∧ K (a + 5) = (21, 7))
theorem lay_X4_of {K : Nat → Nat × Nat} {r : Nat → Nat → Option Nat} {a : Nat} (h : lay_X4 K r a = true) : K a = (5, 0) ∧ r a 0 = some (a + 1) ∧ K (a + 1) = (21, 12) ∧ r a 1 = some (a + 2) ∧ K (a + 2) = (21, 12) ∧ r a 2 = some (a + 3) ∧ K (a + 3) = (21, 13) ∧ r a 3 = some (a + 4) ∧ K (a + 4) = (21, 400) ∧ r a 4 = some (a + 5) ∧ K (a + 5) = (21, 7) := of_decide_eq_true h
theorem lay_X4_mk {K : Nat → Nat × Nat} {r : Nat → Nat → Option Nat} {a : Nat} (h : K a = (5, 0) ∧ r a 0 = some (a + 1) ∧ K (a + 1) = (21, 12) ∧ r a 1 = some (a + 2) ∧ K (a + 2) = (21, 12) ∧ r a 2 = some (a + 3) ∧ K (a + 3) = (21, 13) ∧ r a 3 = some (a + 4) ∧ K (a + 4) = (21, 400) ∧ r a 4 = some (a + 5) ∧ K (a + 5) = (21, 7)) : lay_X4 K r a = true := decide_eq_true h
theorem ly_X4_c {K : Nat → Nat × Nat} {r : Nat → Nat → Option Nat} {a : Nat} (h : lay_X4 K r a = true) : K a = (5, 0) := (lay_X4_of h).1
theorem ly_X4_r0 {K : Nat → Nat × Nat} {r : Nat → Nat → Option Nat} {a : Nat} (h : lay_X4 K r a = true) : r a 0 = some (a + 1) := (lay_X4_of h).2.1
theorem ly_X4_k0 {K : Nat → Nat × Nat} {r : Nat → Nat → Option Nat} {a : Nat} (h : lay_X4 K r a = true) : K (a + 1) = (21, 12) := (lay_X4_of h).2.2.1
theorem ly_X4_r1 {K : Nat → Nat × Nat} {r : Nat → Nat → Option Nat} {a : Nat} (h : lay_X4 K r a = true) : r a 1 = some (a + 2) := (lay_X4_of h).2.2.2.1
theorem ly_X4_k1 {K : Nat → Nat × Nat} {r : Nat → Nat → Option Nat} {a : Nat} (h : lay_X4 K r a = true) : K (a + 2) = (21, 12) := (lay_X4_of h).2.2.2.2.1
theorem ly_X4_r2 {K : Nat → Nat × Nat} {r : Nat → Nat → Option Nat} {a : Nat} (h : lay_X4 K r a = true) : r a 2 = some (a + 3) := (lay_X4_of h).2.2.2.2.2.1
theorem ly_X4_k2 {K : Nat → Nat × Nat} {r : Nat → Nat → Option Nat} {a : Nat} (h : lay_X4 K r a = true) : K (a + 3) = (21, 13) := (lay_X4_of h).2.2.2.2.2.2.1
theorem ly_X4_r3 {K : Nat → Nat × Nat} {r : Nat → Nat → Option Nat} {a : Nat} (h : lay_X4 K r a = true) : r a 3 = some (a + 4) := (lay_X4_of h).2.2.2.2.2.2.2.1
theorem ly_X4_k3 {K : Nat → Nat × Nat} {r : Nat → Nat → Option Nat} {a : Nat} (h : lay_X4 K r a = true) : K (a + 4) = (21, 400) := (lay_X4_of h).2.2.2.2.2.2.2.2.1
theorem ly_X4_r4 {K : Nat → Nat × Nat} {r : Nat → Nat → Option Nat} {a : Nat} (h : lay_X4 K r a = true) : r a 4 = some (a + 5) := (lay_X4_of h).2.2.2.2.2.2.2.2.2.1
theorem ly_X4_k4 {K : Nat → Nat × Nat} {r : Nat → Nat → Option Nat} {a : Nat} (h : lay_X4 K r a = true) : K (a + 5) = (21, 7) := (lay_X4_of h).2.2.2.2.2.2.2.2.2.2
theorem lt_X4 {s s1 : sk_S} {h0 h1 : ky_HP} {a : Nat} (F : sk_fr none s h0 s1 h1) (h : lay_X4 (sk_K s) (sk_r s) a = true) : lay_X4 (sk_K s1) (sk_r s1) a = true := lay_X4_mk ⟨F.K (k := 4) (ly_X4_c h), F.r (k := 4) (ly_X4_c h) rfl (ly_X4_r0 h), F.K (k := 20) (ly_X4_k0 h), F.r (k := 4) (ly_X4_c h) rfl (ly_X4_r1 h), F.K (k := 20) (ly_X4_k1 h), F.r (k := 4) (ly_X4_c h) rfl (ly_X4_r2 h), F.K (k := 20) (ly_X4_k2 h), F.r (k := 4) (ly_X4_c h) rfl (ly_X4_r3 h), F.K (k := 20) (ly_X4_k3 h), F.r (k := 4) (ly_X4_c h) rfl (ly_X4_r4 h), F.K (k := 20) (ly_X4_k4 h)⟩
def lay_X10 (K : Nat → Nat × Nat) (r : Nat → Nat → Option Nat) (a : Nat) : Bool := decide (K a = (10, 0) ∧ r a 0 = some (a + 1) ∧ K (a + 1) = (21, 14400) ∧ r a 1 = some (a + 2) ∧ K (a + 2) = (21, 1200) ∧ r a 2 = some (a + 3) ∧ K (a + 3) = (21, 1200) ∧ r a 3 = some (a + 4) ∧ K (a + 4) = (21, 1200) ∧ r a 4 = some (a + 5) ∧ K (a + 5) = (21, 1200) ∧ r a 5 = some (a + 6) ∧ K (a + 6) = (22, 1200) ∧ r a 6 = some (a + 7) ∧ K (a + 7) = (21, 31))
theorem lay_X10_of {K : Nat → Nat × Nat} {r : Nat → Nat → Option Nat} {a : Nat} (h : lay_X10 K r a = true) : K a = (10, 0) ∧ r a 0 = some (a + 1) ∧ K (a + 1) = (21, 14400) ∧ r a 1 = some (a + 2) ∧ K (a + 2) = (21, 1200) ∧ r a 2 = some (a + 3) ∧ K (a + 3) = (21, 1200) ∧ r a 3 = some (a + 4) ∧ K (a + 4) = (21, 1200) ∧ r a 4 = some (a + 5) ∧ K (a + 5) = (21, 1200) ∧ r a 5 = some (a + 6) ∧ K (a + 6) = (22, 1200) ∧ r a 6 = some (a + 7) ∧ K (a + 7) = (21, 31) := of_decide_eq_true h
theorem lay_X10_mk {K : Nat → Nat × Nat} {r : Nat → Nat → Option Nat} {a : Nat} (h : K a = (10, 0) ∧ r a 0 = some (a + 1) ∧ K (a + 1) = (21, 14400) ∧ r a 1 = some (a + 2) ∧ K (a + 2) = (21, 1200) ∧ r a 2 = some (a + 3) ∧ K (a + 3) = (21, 1200) ∧ r a 3 = some (a + 4) ∧ K (a + 4) = (21, 1200) ∧ r a 4 = some (a + 5) ∧ K (a + 5) = (21, 1200) ∧ r a 5 = some (a + 6) ∧ K (a + 6) = (22, 1200) ∧ r a 6 = some (a + 7) ∧ K (a + 7) = (21, 31)) : lay_X10 K r a = true := decide_eq_true h
theorem ly_X10_c {K : Nat → Nat × Nat} {r : Nat → Nat → Option Nat} {a : Nat} (h : lay_X10 K r a = true) : K a = (10, 0) := (lay_X10_of h).1
theorem ly_X10_r0 {K : Nat → Nat × Nat} {r : Nat → Nat → Option Nat} {a : Nat} (h : lay_X10 K r a = true) : r a 0 = some (a + 1) := (lay_X10_of h).2.1
theorem ly_X10_k0 {K : Nat → Nat × Nat} {r : Nat → Nat → Option Nat} {a : Nat} (h : lay_X10 K r a = true) : K (a + 1) = (21, 14400) := (lay_X10_of h).2.2.1
theorem ly_X10_r1 {K : Nat → Nat × Nat} {r : Nat → Nat → Option Nat} {a : Nat} (h : lay_X10 K r a = true) : r a 1 = some (a + 2) := (lay_X10_of h).2.2.2.1
theorem ly_X10_k1 {K : Nat → Nat × Nat} {r : Nat → Nat → Option Nat} {a : Nat} (h : lay_X10 K r a = true) : K (a + 2) = (21, 1200) := (lay_X10_of h).2.2.2.2.1
theorem ly_X10_r2 {K : Nat → Nat × Nat} {r : Nat → Nat → Option Nat} {a : Nat} (h : lay_X10 K r a = true) : r a 2 = some (a + 3) := (lay_X10_of h).2.2.2.2.2.1
theorem ly_X10_k2 {K : Nat → Nat × Nat} {r : Nat → Nat → Option Nat} {a : Nat} (h : lay_X10 K r a = true) : K (a + 3) = (21, 1200) := (lay_X10_of h).2.2.2.2.2.2.1
theorem ly_X10_r3 {K : Nat → Nat × Nat} {r : Nat → Nat → Option Nat} {a : Nat} (h : lay_X10 K r a = true) : r a 3 = some (a + 4) := (lay_X10_of h).2.2.2.2.2.2.2.1
theorem ly_X10_k3 {K : Nat → Nat × Nat} {r : Nat → Nat → Option Nat} {a : Nat} (h : lay_X10 K r a = true) : K (a + 4) = (21, 1200) := (lay_X10_of h).2.2.2.2.2.2.2.2.1
theorem ly_X10_r4 {K : Nat → Nat × Nat} {r : Nat → Nat → Option Nat} {a : Nat} (h : lay_X10 K r a = true) : r a 4 = some (a + 5) := (lay_X10_of h).2.2.2.2.2.2.2.2.2.1
theorem ly_X10_k4 {K : Nat → Nat × Nat} {r : Nat → Nat → Option Nat} {a : Nat} (h : lay_X10 K r a = true) : K (a + 5) = (21, 1200) := (lay_X10_of h).2.2.2.2.2.2.2.2.2.2.1
theorem ly_X10_r5 {K : Nat → Nat × Nat} {r : Nat → Nat → Option Nat} {a : Nat} (h : lay_X10 K r a = true) : r a 5 = some (a + 6) := (lay_X10_of h).2.2.2.2.2.2.2.2.2.2.2.1
theorem ly_X10_k5 {K : Nat → Nat × Nat} {r : Nat → Nat → Option Nat} {a : Nat} (h : lay_X10 K r a = true) : K (a + 6) = (22, 1200) := (lay_X10_of h).2.2.2.2.2.2.2.2.2.2.2.2.1
theorem ly_X10_r6 {K : Nat → Nat × Nat} {r : Nat → Nat → Option Nat} {a : Nat} (h : lay_X10 K r a = true) : r a 6 = some (a + 7) := (lay_X10_of h).2.2.2.2.2.2.2.2.2.2.2.2.2.1
theorem ly_X10_k6 {K : Nat → Nat × Nat} {r : Nat → Nat → Option Nat} {a : Nat} (h : lay_X10 K r a = true) : K (a + 7) = (21, 31) := (lay_X10_of h).2.2.2.2.2.2.2.2.2.2.2.2.2.2
theorem lt_X10 {s s1 : sk_S} {h0 h1 : ky_HP} {a : Nat} (F : sk_fr none s h0 s1 h1) (h : lay_X10 (sk_K s) (sk_r s) a = true) : lay_X10 (sk_K s1) (sk_r s1) a = true := lay_X10_mk ⟨F.K (k := 9) (ly_X10_c h), F.r (k := 9) (ly_X10_c h) rfl (ly_X10_r0 h), F.K (k := 20) (ly_X10_k0 h), F.r (k := 9) (ly_X10_c h) rfl (ly_X10_r1 h), F.K (k := 20) (ly_X10_k1 h), F.r (k := 9) (ly_X10_c h) rfl (ly_X10_r2 h), F.K (k := 20) (ly_X10_k2 h), F.r (k := 9) (ly_X10_c h) rfl (ly_X10_r3 h), F.K (k := 20) (ly_X10_k3 h), F.r (k := 9) (ly_X10_c h) rfl (ly_X10_r4 h), F.K (k := 20) (ly_X10_k4 h), F.r (k := 9) (ly_X10_c h) rfl (ly_X10_r5 h), F.K (k := 21) (ly_X10_k5 h), F.r (k := 9) (ly_X10_c h) rfl (ly_X10_r6 h), F.K (k := 20) (ly_X10_k6 h)⟩
def lay_X3 (K : Nat → Nat × Nat) (r : Nat → Nat → Option Nat) (a : Nat) : Bool := decide (K a = (4, 0) ∧ r a 1 = some (a + 1) ∧ (K (a + 1)).1 = 21 ∧ r a 2 = some (a + 2) ∧ (K (a + 2)).1 = 21 ∧ r a 3 = some (a + 3) ∧ (K (a + 3)).1 = 21 ∧ r a 4 = some (a + 4) ∧ (K (a + 4)).1 = 21 ∧ r a 5 = some (a + 5) ∧ K (a + 5) = (21, 6))
theorem lay_X3_of {K : Nat → Nat × Nat} {r : Nat → Nat → Option Nat} {a : Nat} (h : lay_X3 K r a = true) : K a = (4, 0) ∧ r a 1 = some (a + 1) ∧ (K (a + 1)).1 = 21 ∧ r a 2 = some (a + 2) ∧ (K (a + 2)).1 = 21 ∧ r a 3 = some (a + 3) ∧ (K (a + 3)).1 = 21 ∧ r a 4 = some (a + 4) ∧ (K (a + 4)).1 = 21 ∧ r a 5 = some (a + 5) ∧ K (a + 5) = (21, 6) := of_decide_eq_true h
theorem lay_X3_mk {K : Nat → Nat × Nat} {r : Nat → Nat → Option Nat} {a : Nat} (h : K a = (4, 0) ∧ r a 1 = some (a + 1) ∧ (K (a + 1)).1 = 21 ∧ r a 2 = some (a + 2) ∧ (K (a + 2)).1 = 21 ∧ r a 3 = some (a + 3) ∧ (K (a + 3)).1 = 21 ∧ r a 4 = some (a + 4) ∧ (K (a + 4)).1 = 21 ∧ r a 5 = some (a + 5) ∧ K (a + 5) = (21, 6)) : lay_X3 K r a = true := decide_eq_true h
theorem ly_X3_c {K : Nat → Nat × Nat} {r : Nat → Nat → Option Nat} {a : Nat} (h : lay_X3 K r a = true) : K a = (4, 0) := (lay_X3_of h).1
theorem ly_X3_r1 {K : Nat → Nat × Nat} {r : Nat → Nat → Option Nat} {a : Nat} (h : lay_X3 K r a = true) : r a 1 = some (a + 1) := (lay_X3_of h).2.1
theorem ly_X3_k1 {K : Nat → Nat × Nat} {r : Nat → Nat → Option Nat} {a : Nat} (h : lay_X3 K r a = true) : (K (a + 1)).1 = 21 := (lay_X3_of h).2.2.1
theorem ly_X3_r2 {K : Nat → Nat × Nat} {r : Nat → Nat → Option Nat} {a : Nat} (h : lay_X3 K r a = true) : r a 2 = some (a + 2) := (lay_X3_of h).2.2.2.1
theorem ly_X3_k2 {K : Nat → Nat × Nat} {r : Nat → Nat → Option Nat} {a : Nat} (h : lay_X3 K r a = true) : (K (a + 2)).1 = 21 := (lay_X3_of h).2.2.2.2.1
theorem ly_X3_r3 {K : Nat → Nat × Nat} {r : Nat → Nat → Option Nat} {a : Nat} (h : lay_X3 K r a = true) : r a 3 = some (a + 3) := (lay_X3_of h).2.2.2.2.2.1
theorem ly_X3_k3 {K : Nat → Nat × Nat} {r : Nat → Nat → Option Nat} {a : Nat} (h : lay_X3 K r a = true) : (K (a + 3)).1 = 21 := (lay_X3_of h).2.2.2.2.2.2.1
theorem ly_X3_r4 {K : Nat → Nat × Nat} {r : Nat → Nat → Option Nat} {a : Nat} (h : lay_X3 K r a = true) : r a 4 = some (a + 4) := (lay_X3_of h).2.2.2.2.2.2.2.1
theorem ly_X3_k4 {K : Nat → Nat × Nat} {r : Nat → Nat → Option Nat} {a : Nat} (h : lay_X3 K r a = true) : (K (a + 4)).1 = 21 := (lay_X3_of h).2.2.2.2.2.2.2.2.1
theorem ly_X3_r5 {K : Nat → Nat × Nat} {r : Nat → Nat → Option Nat} {a : Nat} (h : lay_X3 K r a = true) : r a 5 = some (a + 5) := (lay_X3_of h).2.2.2.2.2.2.2.2.2.1
theorem ly_X3_k5 {K : Nat → Nat × Nat} {r : Nat → Nat → Option Nat} {a : Nat} (h : lay_X3 K r a = true) : K (a + 5) = (21, 6) := (lay_X3_of h).2.2.2.2.2.2.2.2.2.2
theorem lt_X3 {s s1 : sk_S} {h0 h1 : ky_HP} {a : Nat} (F : sk_fr none s h0 s1 h1) (h : lay_X3 (sk_K s) (sk_r s) a = true) : lay_X3 (sk_K s1) (sk_r s1) a = true := lay_X3_mk ⟨F.K (k := 3) (ly_X3_c h), F.r (k := 3) (ly_X3_c h) rfl (ly_X3_r1 h), F.K1 (k := 20) (ly_X3_k1 h), F.r (k := 3) (ly_X3_c h) rfl (ly_X3_r2 h), F.K1 (k := 20) (ly_X3_k2 h), F.r (k := 3) (ly_X3_c h) rfl (ly_X3_r3 h), F.K1 (k := 20) (ly_X3_k3 h), F.r (k := 3) (ly_X3_c h) rfl (ly_X3_r4 h), F.K1 (k := 20) (ly_X3_k4 h), F.r (k := 3) (ly_X3_c h) rfl (ly_X3_r5 h), F.K (k := 20) (ly_X3_k5 h)⟩
def lay_X11 (K : Nat → Nat × Nat) (r : Nat → Nat → Option Nat) (a : Nat) : Bool := decide (K a = (11, 0) ∧ r a 0 = some (a + 1) ∧ lay_X9 K r (a + 1) = true ∧ r a 1 = some (a + 3) ∧ lay_X0 K r (a + 3) = true ∧ r a 2 = some (a + 6) ∧ lay_X4 K r (a + 6) = true ∧ r a 3 = some (a + 12) ∧ lay_X7 K r (a + 12) = true ∧ r a 4 = some (a + 22) ∧ K (a + 22) = (23, 12) ∧ r a 5 = some (a + 23) ∧ lay_X1 K r (a + 23) = true)
theorem lay_X11_of {K : Nat → Nat × Nat} {r : Nat → Nat → Option Nat} {a : Nat} (h : lay_X11 K r a = true) : K a = (11, 0) ∧ r a 0 = some (a + 1) ∧ lay_X9 K r (a + 1) = true ∧ r a 1 = some (a + 3) ∧ lay_X0 K r (a + 3) = true ∧ r a 2 = some (a + 6) ∧ lay_X4 K r (a + 6) = true ∧ r a 3 = some (a + 12) ∧ lay_X7 K r (a + 12) = true ∧ r a 4 = some (a + 22) ∧ K (a + 22) = (23, 12) ∧ r a 5 = some (a + 23) ∧ lay_X1 K r (a + 23) = true := of_decide_eq_true h
theorem lay_X11_mk {K : Nat → Nat × Nat} {r : Nat → Nat → Option Nat} {a : Nat} (h : K a = (11, 0) ∧ r a 0 = some (a + 1) ∧ lay_X9 K r (a + 1) = true ∧ r a 1 = some (a + 3) ∧ lay_X0 K r (a + 3) = true ∧ r a 2 = some (a + 6) ∧ lay_X4 K r (a + 6) = true ∧ r a 3 = some (a + 12) ∧ lay_X7 K r (a + 12) = true ∧ r a 4 = some (a + 22) ∧ K (a + 22) = (23, 12) ∧ r a 5 = some (a + 23) ∧ lay_X1 K r (a + 23) = true) : lay_X11 K r a = true := decide_eq_true h
theorem ly_X11_c {K : Nat → Nat × Nat} {r : Nat → Nat → Option Nat} {a : Nat} (h : lay_X11 K r a = true) : K a = (11, 0) := (lay_X11_of h).1
theorem ly_X11_r0 {K : Nat → Nat × Nat} {r : Nat → Nat → Option Nat} {a : Nat} (h : lay_X11 K r a = true) : r a 0 = some (a + 1) := (lay_X11_of h).2.1
theorem ly_X11_l0 {K : Nat → Nat × Nat} {r : Nat → Nat → Option Nat} {a : Nat} (h : lay_X11 K r a = true) : lay_X9 K r (a + 1) = true := (lay_X11_of h).2.2.1
theorem ly_X11_r1 {K : Nat → Nat × Nat} {r : Nat → Nat → Option Nat} {a : Nat} (h : lay_X11 K r a = true) : r a 1 = some (a + 3) := (lay_X11_of h).2.2.2.1
theorem ly_X11_l1 {K : Nat → Nat × Nat} {r : Nat → Nat → Option Nat} {a : Nat} (h : lay_X11 K r a = true) : lay_X0 K r (a + 3) = true := (lay_X11_of h).2.2.2.2.1
theorem ly_X11_r2 {K : Nat → Nat × Nat} {r : Nat → Nat → Option Nat} {a : Nat} (h : lay_X11 K r a = true) : r a 2 = some (a + 6) := (lay_X11_of h).2.2.2.2.2.1
theorem ly_X11_l2 {K : Nat → Nat × Nat} {r : Nat → Nat → Option Nat} {a : Nat} (h : lay_X11 K r a = true) : lay_X4 K r (a + 6) = true := (lay_X11_of h).2.2.2.2.2.2.1
theorem ly_X11_r3 {K : Nat → Nat × Nat} {r : Nat → Nat → Option Nat} {a : Nat} (h : lay_X11 K r a = true) : r a 3 = some (a + 12) := (lay_X11_of h).2.2.2.2.2.2.2.1
theorem ly_X11_l3 {K : Nat → Nat × Nat} {r : Nat → Nat → Option Nat} {a : Nat} (h : lay_X11 K r a = true) : lay_X7 K r (a + 12) = true := (lay_X11_of h).2.2.2.2.2.2.2.2.1
theorem ly_X11_r4 {K : Nat → Nat × Nat} {r : Nat → Nat → Option Nat} {a : Nat} (h : lay_X11 K r a = true) : r a 4 = some (a + 22) := (lay_X11_of h).2.2.2.2.2.2.2.2.2.1
theorem ly_X11_k4 {K : Nat → Nat × Nat} {r : Nat → Nat → Option Nat} {a : Nat} (h : lay_X11 K r a = true) : K (a + 22) = (23, 12) := (lay_X11_of h).2.2.2.2.2.2.2.2.2.2.1
theorem ly_X11_r5 {K : Nat → Nat × Nat} {r : Nat → Nat → Option Nat} {a : Nat} (h : lay_X11 K r a = true) : r a 5 = some (a + 23) := (lay_X11_of h).2.2.2.2.2.2.2.2.2.2.2.1
theorem ly_X11_l5 {K : Nat → Nat × Nat} {r : Nat → Nat → Option Nat} {a : Nat} (h : lay_X11 K r a = true) : lay_X1 K r (a + 23) = true := (lay_X11_of h).2.2.2.2.2.2.2.2.2.2.2.2
theorem lt_X11 {s s1 : sk_S} {h0 h1 : ky_HP} {a : Nat} (F : sk_fr none s h0 s1 h1) (h : lay_X11 (sk_K s) (sk_r s) a = true) : lay_X11 (sk_K s1) (sk_r s1) a = true := lay_X11_mk ⟨F.K (k := 10) (ly_X11_c h), F.r (k := 10) (ly_X11_c h) rfl (ly_X11_r0 h), lt_X9 F (ly_X11_l0 h), F.r (k := 10) (ly_X11_c h) rfl (ly_X11_r1 h), lt_X0 F (ly_X11_l1 h), F.r (k := 10) (ly_X11_c h) rfl (ly_X11_r2 h), lt_X4 F (ly_X11_l2 h), F.r (k := 10) (ly_X11_c h) rfl (ly_X11_r3 h), lt_X7 F (ly_X11_l3 h), F.r (k := 10) (ly_X11_c h) rfl (ly_X11_r4 h), F.K (k := 22) (ly_X11_k4 h), F.r (k := 10) (ly_X11_c h) rfl (ly_X11_r5 h), lt_X1 F (ly_X11_l5 h)⟩
