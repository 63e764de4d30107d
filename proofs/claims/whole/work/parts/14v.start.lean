/-! THE TWO STAND ALIKE at the beginning -/
section
variable {N X : Nat}
theorem hide_K {s : sk_S} {a : Nat} (h : a < X + 24) : sk_K (pu_hide X s) a = sk_K s a := by show (if X + 24 ≤ a then (0, 0) else sk_K s a) = _; rw [if_neg (by omega)]
theorem hide_Z {s : sk_S} {a : Nat} (h : X + 24 ≤ a) : sk_K (pu_hide X s) a = (0, 0) := by show (if X + 24 ≤ a then (0, 0) else sk_K s a) = _; rw [if_pos h]
theorem sm_init_ok (hN : 2000000000 ≤ N) : sm_init X N (RR X) := by
  obtain ⟨s2, a1, a2, a3, a4, a5, a6, a7, a8, a9, a10, a11, a12, a13, a14, a15, a16⟩ := in_11 (N := N) (X := X) (by omega)
  obtain ⟨s4, b1, b2, b3, b4, b5, b6, b7, b8, b9⟩ := in_12 (N := N) (s := s2) (by omega)
  rw [a2] at b1 b2 b5 b6 b7 b8 b9
  have F : sfr (fun _ _ => False) s2 (pu_hide X s4) := by
    refine ⟨fun a ha => ?_, ?_, fun a k ha _ => b4.2.2.1 a k ha (fun h => h), fun a k ha _ => (b4.2.2.1 a k ha (fun h => h)).2.2⟩
    · rw [hide_K (by omega)]; exact b4.1 a ha
    · show sk_n s2 ≤ sk_n s4 + 1; omega
  have hz : ∀ a, sk_n s2 ≤ a → (sk_K s2 a).1 = 0 := fun a ha => by rw [a5 a (.inr (by omega))]
  have nH : sk_n (pu_hide X s4) = X + 38 := by show sk_n s4 + 1 = _; rw [b2]
  have mH : sk_m (pu_hide X s4) = sk_m s4 + 1 := rfl
  have only : ∀ p, kb (sk_K (pu_hide X s4) p).1 ≠ 0 → p = X + 12 := fun p hp => by
    by_cases h1 : X + 24 ≤ p
    · rw [hide_Z h1] at hp; exact absurd rfl hp
    · rw [hide_K (by omega), b4.1 p (by omega)] at hp
      by_cases h2 : p < X
      · rw [a5 p (.inl h2)] at hp; exact absurd rfl hp
      · by_cases h3 : p = X + 12
        · exact h3
        · have := a6 (p - X) (by omega) (by omega)
          rw [show X + (p - X) = p by omega] at this
          exact absurd this hp
  have k12 : sk_K (pu_hide X s4) (X + 12) = (7, 0) := by rw [hide_K (by omega), b4.1 _ (by omega)]; exact ly_X7_c a7.1
  have hB : bks X (sk_K (pu_hide X s4)) (sk_n (pu_hide X s4)) := by
    rw [nH]
    refine ⟨fun p hp => ?_, fun p q hp hq hpq => ?_, fun a ha => by rw [hide_Z (by omega)], Nat.le_refl _⟩
    · have := only p hp
      subst this
      rw [k12]
      exact ⟨.inl ⟨rfl, rfl⟩, by show X + 12 + 10 ≤ X + 38; omega⟩
    · have h1 := only p hp
      have h2 := only q hq
      omega
  have cH : ∀ a k, a < X + 24 → sk_c (pu_hide X s4) a k = sk_c s2 a k := fun a k ha => F.c (by omega) (fun h => h)
  have rH : ∀ a k, a < X + 24 → sk_r (pu_hide X s4) a k = sk_r s2 a k := fun a k ha => F.r (by omega) (fun h => h)
  have d0 : ∀ k, k ≠ 14 → (fun k => sk_c s4 (X + 24 + k)) 0 k = 0 := fun k hk => by
    show sk_c s4 (X + 24) k = 0
    rw [b8 k, if_neg hk]
  have d14 : (fun k => sk_c s4 (X + 24 + k)) 0 14 = -1 := by
    show sk_c s4 (X + 24) 14 = -1
    rw [b8 14, if_pos rfl]
  refine ⟨s2, s4, 0, 0, a1, a2, b1, b2, ⟨b5, fun k hk => b6 k hk, fun k hk => b7 k hk, fun a ha => by rw [b4.2.2.2 a (by omega), a5 a (.inr (by omega))]⟩, Nat.zero_le _, ⟨by rw [nH]; omega, ?_⟩, W_0, 1, (0, fun _ => 0, fun _ => 0, fun _ _ => true), ⟨⟨lt_X11 (F.fr hz) a4, hB, sc_fr a7 hz (by omega) (fun i k _ h => h.elim) F, ?_, .inl ⟨?_, rfl, rfl⟩⟩, ⟨0, 0, by decide, by decide, ?_, ?_, ?_, fun i p _ h => ?_, fun i i' p _ _ h => ?_, fun i hi => by omega⟩, .inl ⟨?_, ?_⟩, ⟨0, ⟨by decide, ?_⟩, ?_, ?_, fun j hj => by omega⟩, ?_⟩, .inl ?_⟩
  · rw [mH, rH _ _ (by omega), a10, if_pos rfl]; omega
  · have : (fun k => sk_c s4 (X + 24 + k)) 1 = zf := funext fun k => b9 k
    rw [this]; exact zf_wv
  · rw [rH _ _ (by omega)]; exact a8
  · rw [cH _ _ (by omega)]; exact a12
  · rw [cH _ _ (by omega)]; exact a13
  · exact d0 7 (by decide)
  · rw [rH _ _ (by omega), a11] at h; cases h
  · rw [rH _ _ (by omega), a11] at h; cases h
  · rw [rH _ _ (by omega)]; exact a9
  · exact d0 6 (by decide)
  · rw [cH _ _ (by omega)]; exact a16
  · rw [cH _ _ (by omega)]; exact a15
  · exact d0 9 (by decide)
  · rw [cH _ _ (by omega), a14]; exact d14.symm
  · rw [rH _ _ (by omega)]; exact a10
end
