/-! THE CLASS'S WAYS: looked at, made, searched -/
/-- the ways at y stand for the moves as they are, by calm ca and water wa -/
def WY (X y st : Nat) (W : Nat → Nat) (m : lwM) (ca wa : Nat) (s : sk_S) : Prop := sk_r s X 9 = some y ∧ lay_X10 (sk_K s) (sk_r s) y = true ∧ X + 38 ≤ y ∧ sk_c s y 9 = nI st ∧ 1 ≤ st ∧ sk_c s y 11 = nI ca ∧ sk_c s y 12 = nI wa ∧ ca ≤ 9 ∧ wa ≤ 9 ∧ wy_ca y (nxf W m ca wa) s
/-- only some fields of y have changed -/
def yfr (y : Nat) (s s' : sk_S) : Prop := sk_K s' = sk_K s ∧ sk_g s' = sk_g s ∧ sk_n s' = sk_n s ∧ sk_m s' = sk_m s ∧ (∀ b k, ¬ (b = y ∧ k = 10) → sk_r s' b k = sk_r s b k) ∧ ∀ b k, ¬ (b = y ∧ (k = 9 ∨ k = 11 ∨ k = 12)) → sk_c s' b k = sk_c s b k
theorem wr_at (s : sk_S) (a k : Nat) (v : Option Nat) (b j : Nat) (h : ¬ (b = a ∧ j = k)) : sk_r (sk_wr s a k v) b j = sk_r s b j := by
  by_cases e1 : b = a
  · subst e1
    have : j ≠ k := fun e2 => h ⟨rfl, e2⟩
    simp [sk_r, sk_wr, va_up, this]
  · simp [sk_r, sk_wr, va_up, e1]
theorem wr_same (s : sk_S) (a k : Nat) (v : Option Nat) : sk_r (sk_wr s a k v) a k = v := by simp [sk_r, sk_wr, va_up]
def lk_s (s : sk_S) (y z : Nat) (ca wa : Int32) : sk_S := sk_wc (sk_wc (sk_wr s y 10 (some z)) y 11 ca) y 12 wa
theorem lk_yfr {s : sk_S} {y z : Nat} {ca wa : Int32} : yfr y s (lk_s s y z ca wa) :=
  ⟨rfl, rfl, rfl, rfl, fun b k h => wr_at s y 10 (some z) b k h, fun b k h => by
    unfold lk_s
    rw [qc_at _ _ _ _ _ _ (fun q => h ⟨q.1, .inr (.inr q.2)⟩), qc_at _ _ _ _ _ _ (fun q => h ⟨q.1, .inr (.inl q.2)⟩)]; rfl⟩
theorem lk_c {s : sk_S} {y z : Nat} {ca wa : Int32} : sk_c (lk_s s y z ca wa) y 11 = ca ∧ sk_c (lk_s s y z ca wa) y 12 = wa ∧ sk_c (lk_s s y z ca wa) y 9 = sk_c s y 9 ∧ sk_r (lk_s s y z ca wa) y 10 = some z ∧ sk_c (lk_s s y z ca wa) (y + 1) = sk_c s (y + 1) := by
  unfold lk_s
  refine ⟨?_, ?_, ?_, wr_same _ _ _ _, ?_⟩
  · rw [qc_at _ _ _ _ _ _ (by omega), qc_eq, pk_us]
  · rw [qc_eq, pk_us]
  · rw [qc_at _ _ _ _ _ _ (by omega), qc_at _ _ _ _ _ _ (by omega)]; rfl
  · rw [qc_ne (by omega), qc_ne (by omega)]; rfl
section
variable {N X y z st : Nat} {s : sk_S} {W : Nat → Nat} {m : lwM} {ca wa ca0 wa0 : Nat}
set_option maxRecDepth 20000 in
set_option maxHeartbeats 4000000 in
theorem lk_ok (hN : 1000 ≤ N) (hl : lay_X10 (sk_K s) (sk_r s) y = true) (hz : lay_X6 (sk_K s) (sk_r s) z = true) (L : cl_law s (sk_r s z 1) m) (h9 : sk_c s y 9 = nI st) (hst : st < 1000000) (h11 : sk_c s y 11 = nI ca0) (h12 : sk_c s y 12 = nI wa0) (b0 : ca0 ≤ 9) (b1 : wa0 ≤ 9) (b2 : ca ≤ 9) (b3 : wa ≤ 9) (hc : wy_ca y (nxf W m ca0 wa0) s) :
    ∃ s' st', x10_lookAt N s y z (nI ca) (nI wa) = some (s', 0) ∧ st ≤ st' ∧ st' ≤ st + 1 ∧ yfr y s s' ∧ sk_c s' y 9 = nI st' ∧ sk_c s' y 11 = nI ca ∧ sk_c s' y 12 = nI wa ∧ sk_r s' y 10 = some z ∧ wy_ca y (nxf W m ca wa) s' := by
  have keep : (∀ v o, v < 1200 → o < 12 → nxf W m ca0 wa0 v o = nxf W m ca wa v o) → ∃ s' st', some (lk_s s y z (nI ca) (nI wa), (0 : Int32)) = some (s', 0) ∧ st ≤ st' ∧ st' ≤ st + 1 ∧ yfr y s s' ∧ sk_c s' y 9 = nI st' ∧ sk_c s' y 11 = nI ca ∧ sk_c s' y 12 = nI wa ∧ sk_r s' y 10 = some z ∧ wy_ca y (nxf W m ca wa) s' := fun hn => by
    obtain ⟨k1, k2, k3, k4, k5⟩ := lk_c (s := s) (y := y) (z := z) (ca := nI ca) (wa := nI wa)
    refine ⟨_, st, rfl, Nat.le_refl _, Nat.le_succ _, lk_yfr, k3.trans h9, k1, k2, k4, fun v o hv ho => ?_⟩
    rw [k5, k3, ← hn v o hv ho]
    exact hc v o hv ho
  have frg : ∃ s' st', some (lk_s (sk_wc s y 9 (nI (st + 1))) y z (nI ca) (nI wa), (0 : Int32)) = some (s', 0) ∧ st ≤ st' ∧ st' ≤ st + 1 ∧ yfr y s s' ∧ sk_c s' y 9 = nI st' ∧ sk_c s' y 11 = nI ca ∧ sk_c s' y 12 = nI wa ∧ sk_r s' y 10 = some z ∧ wy_ca y (nxf W m ca wa) s' := by
    obtain ⟨k1, k2, k3, k4, k5⟩ := lk_c (s := sk_wc s y 9 (nI (st + 1))) (y := y) (z := z) (ca := nI ca) (wa := nI wa)
    have k3' : sk_c (lk_s (sk_wc s y 9 (nI (st + 1))) y z (nI ca) (nI wa)) y 9 = nI (st + 1) := by rw [k3, qc_eq, pk_us]
    have k5' : sk_c (lk_s (sk_wc s y 9 (nI (st + 1))) y z (nI ca) (nI wa)) (y + 1) = sk_c s (y + 1) := by rw [k5, qc_ne (by omega)]
    refine ⟨_, st + 1, rfl, Nat.le_succ _, Nat.le_refl _, ?_, k3', k1, k2, k4, fun v o hv ho => ?_⟩
    · obtain ⟨f1, f2, f3, f4, f5, f6⟩ := lk_yfr (s := sk_wc s y 9 (nI (st + 1))) (y := y) (z := z) (ca := nI ca) (wa := nI wa)
      exact ⟨f1, f2, f3, f4, f5, fun b k h => by rw [f6 b k h, qc_at _ _ _ _ _ _ (fun q => h ⟨q.1, .inl q.2⟩)]⟩
    · obtain ⟨_, e, g1, g2⟩ := hc v o hv ho
      rw [h9, zq_cl (by omega)] at g2
      rw [k5', k3', g1, zq_cl (n := st + 1) (by omega)]
      refine ⟨fun q => ?_, e, rfl, by omega⟩
      exfalso
      rw [pk_shrN (by omega) ((11 : Int32) &&& 31) 11 (by decide)] at q
      have := zq_inj (by omega) (by omega) q
      omega
  have fg : ∀ s1 : sk_S, s1 = s → x10_forget N s1 y = some (sk_wc s y 9 (nI (st + 1)), 0) := fun s1 e => by
    subst e
    unfold x10_forget
    simp only [zq_letP]
    rw [if_pos hl, h9, nI_1]
  unfold x10_lookAt
  simp only [zq_letP]
  rw [if_pos hl, if_pos hz]
  rcases L with ⟨ho, hm0⟩ | ⟨q, ho, hq⟩
  · rw [ho]
    simp only [ky_om]
    exact keep (fun v o hv ho => nxf_no hv ho (fun n e e' hn => by omega) b0 b1 b2 b3)
  · rw [ho]
    simp only [ky_om]
    rw [h11, h12]
    have a4 := cl_asks (N := N) (f := 4) hN hq (by decide)
    have a5 := cl_asks (N := N) (f := 5) hN hq (by decide)
    simp only [hq.1, if_true]
    by_cases e4 : ca = ca0
    · subst e4
      rw [if_pos rfl]
      by_cases e5 : wa = wa0
      · subst e5
        rw [if_pos rfl]
        exact keep (fun _ _ _ _ => rfl)
      · rw [if_neg (fun q => e5 (zq_inj (by omega) (by omega) q))]
        rcases a5 with a5 | ⟨a5, a5'⟩
        · rw [show x3_asks N s q 5 = some (s, 1) from a5]
          simp only [zq_bindP]
          rw [if_neg (by decide), fg s rfl]
          simp only [zq_bindP]
          exact frg
        · rw [show x3_asks N s q 5 = some (s, 0) from a5]
          simp only [zq_bindP]
          rw [if_pos trivial]
          exact keep (fun v o hv ho => nxf_no hv ho (fun n e e' hn he he' hee hx hx' => a5' n e e' hn he he' (fun j hj => by
            by_cases j4 : j = 4
            · subst j4; rw [hx.1, hx'.1]
            · exact hee j j4 hj)) b0 b1 b2 b3)
    · rw [if_neg (fun q => e4 (zq_inj (by omega) (by omega) q))]
      rcases a4 with a4 | ⟨a4, a4'⟩
      · rw [show x3_asks N s q 4 = some (s, 1) from a4]
        simp only [zq_bindP]
        rw [if_neg (by decide), fg s rfl]
        simp only [zq_bindP]
        exact frg
      · rw [show x3_asks N s q 4 = some (s, 0) from a4]
        simp only [zq_bindP]
        rw [if_pos trivial, h12]
        by_cases e5 : wa = wa0
        · subst e5
          rw [if_pos rfl]
          exact keep (fun v o hv ho => nxf_no hv ho (fun n e e' hn he he' hee hx hx' => a4' n e e' hn he he' (fun j hj => by
            by_cases j5 : j = 5
            · subst j5; rw [hx.2, hx'.2]
            · exact hee j hj j5)) b0 b1 b2 b3)
        · rw [if_neg (fun q => e5 (zq_inj (by omega) (by omega) q))]
          rcases a5 with a5 | ⟨a5, a5'⟩
          · rw [show x3_asks N s q 5 = some (s, 1) from a5]
            simp only [zq_bindP]
            rw [if_neg (by decide), fg s rfl]
            simp only [zq_bindP]
            exact frg
          · rw [show x3_asks N s q 5 = some (s, 0) from a5]
            simp only [zq_bindP]
            rw [if_pos trivial]
            refine keep (fun v o hv ho => nxf_no hv ho (fun n e e' hn he he' hee hx hx' => ?_) b0 b1 b2 b3)
            have hmid : lw_sml (fun j => if j = 4 then ca else e j) := by
              obtain ⟨x0, x1, x2, x3, x4, x5, x6⟩ := he
              exact ⟨x0, x1, x2, x3, b2, x5, x6⟩
            refine (a4' n e (fun j => if j = 4 then ca else e j) hn he hmid (fun j hj => by rw [if_neg hj])).trans (a5' n _ e' hn hmid he' (fun j hj => ?_))
            by_cases j4 : j = 4
            · subst j4; rw [if_pos rfl]; exact hx'.1.symm
            · rw [if_neg j4]; exact hee j j4 hj
end
