/-! SEARCH: a state leaves its slot; the loops; the answer -/
theorem cn_false : ∀ n, cn (fun _ => false) n = 0 := by
  intro n
  induction n with
  | zero => rfl
  | succ n ih => simp [cn, ih]
section
variable {N y z : Nat} {VL : Nat → Nat → Prop} {nx : Nat → Nat → Nat} {tk : Nat → Nat} {ok : Nat → Bool} {s0 s : sk_S} {st T x B : Nat} {D rk : Nat → Nat} {dn wt : Nat → Bool}
theorem wy_popped {v : Nat} (H : wy_I nx tk ok y st T v s D rk dn (sb_ wt v false) B) (hmi : sk_c s (y + 2) v = nI (D v)) (hd : dn v = false) (hv : v < 1200) (hDT : D v = T) (hp : ∃ n, gp_R nx tk ok n (D v) st v) :
    wy_I nx tk ok y st T 5000 (sk_wc (sk_wc s (y + 5) (cn dn 1200) (nI v)) y 7 (nI (cn dn 1200 + 1))) D rk (sb_ dn v true) (sb_ wt v false) B := by
  have hcn := cn_le dn 1200
  obtain ⟨i1, i2, i3, i4, i5, i6, i7, i8, i9, i10⟩ := H
  have hset : cn (sb_ dn v true) 1200 = cn dn 1200 + 1 := cn_set hd 1200 hv
  have hs : ∀ u, sb_ dn v true u = true → u = v ∨ dn u = true := by
    intro u hu
    by_cases e : u = v
    · exact .inl e
    · simp only [sb_, if_neg e] at hu; exact .inr hu
  have hs' : ∀ u, dn u = true → sb_ dn v true u = true := by
    intro u hu
    simp only [sb_]; split
    · rfl
    · exact hu
  have hdv : ∀ u, dn u = true → u ≠ v := fun u hu e => by rw [e, hd] at hu; exact Bool.noConfusion hu
  have e2 : sk_c (sk_wc (sk_wc s (y + 5) (cn dn 1200) (nI v)) y 7 (nI (cn dn 1200 + 1))) (y + 2) = sk_c s (y + 2) := by simp (disch := omega) only [qc_ne]
  have e3 : sk_c (sk_wc (sk_wc s (y + 5) (cn dn 1200) (nI v)) y 7 (nI (cn dn 1200 + 1))) (y + 3) = sk_c s (y + 3) := by simp (disch := omega) only [qc_ne]
  have e4 : sk_c (sk_wc (sk_wc s (y + 5) (cn dn 1200) (nI v)) y 7 (nI (cn dn 1200 + 1))) (y + 4) = sk_c s (y + 4) := by simp (disch := omega) only [qc_ne]
  have e7 : sk_c (sk_wc (sk_wc s (y + 5) (cn dn 1200) (nI v)) y 7 (nI (cn dn 1200 + 1))) (y + 7) = sk_c s (y + 7) := by simp (disch := omega) only [qc_ne]
  have e5 : sk_c (sk_wc (sk_wc s (y + 5) (cn dn 1200) (nI v)) y 7 (nI (cn dn 1200 + 1))) (y + 5) = upd (sk_c s (y + 5)) (cn dn 1200) (nI v) := by simp (disch := omega) only [qc_ne, qc_eq]
  have f8 : sk_c (sk_wc (sk_wc s (y + 5) (cn dn 1200) (nI v)) y 7 (nI (cn dn 1200 + 1))) y 8 = sk_c s y 8 := by
    rw [qc_eq, pk_un (by decide), qc_ne (by omega)]
  have f7 : sk_c (sk_wc (sk_wc s (y + 5) (cn dn 1200) (nI v)) y 7 (nI (cn dn 1200 + 1))) y 7 = nI (cn dn 1200 + 1) := by
    rw [qc_eq, pk_us]
  have old : ∀ i w, i < cn dn 1200 + 1 → upd (sk_c s (y + 5)) (cn dn 1200) (nI v) i = nI w → w < 1200 → (i = cn dn 1200 ∧ w = v) ∨ (i < cn dn 1200 ∧ sk_c s (y + 5) i = nI w ∧ dn w = true) := by
    intro i w hi h hw
    by_cases e : i = cn dn 1200
    · rw [e, pk_us] at h
      exact .inl ⟨e, (zq_inj (by omega) (by omega) h).symm⟩
    · rw [pk_un e] at h
      refine .inr ⟨by omega, h, ?_⟩
      obtain ⟨w', a, b⟩ := i8 i (by omega)
      have : w = w' := zq_inj (by omega) (by have := (i3 w' a).1; omega) (h.symm.trans b)
      rw [this]; exact a
  refine ⟨?_, ?_, ?_, ?_, ?_, ?_, ?_, ?_, ?_, ?_⟩
  · intro u hu _
    rw [e2]
    by_cases e : u = v
    · subst e
      rw [hmi, if_pos (.inl (by simp [sb_]))]
    · rw [i1 u hu e]
      simp only [sb_, if_neg e]
  · rw [e3, e4, e7]; exact i2
  · intro u hu
    rcases hs u hu with e | h
    · subst e
      exact ⟨hv, by simp [sb_], by omega⟩
    · exact i3 u h
  · intro u hu
    have := i4 u hu
    rw [hset]
    omega
  · intro u hu
    by_cases e : u = v
    · rw [e]; exact hp
    · simp only [sb_, if_neg e] at hu
      exact i5 u (by simp only [sb_, if_neg e]; exact hu)
  · rw [f8]; exact i6
  · rw [f7, hset]
  · rw [e5, hset]
    intro i hi
    by_cases e : i = cn dn 1200
    · exact ⟨v, by simp [sb_], by rw [e, pk_us]⟩
    · obtain ⟨w, a, b⟩ := i8 i (by omega)
      exact ⟨w, hs' w a, by rw [pk_un e]; exact b⟩
  · rw [e5, hset]
    intro w hw
    rcases hs w hw with e | h
    · exact ⟨cn dn 1200, by omega, by rw [pk_us, e]⟩
    · obtain ⟨i, a, b⟩ := i9 w h
      exact ⟨i, by omega, by rw [pk_un (by omega)]; exact b⟩
  · rw [e5, hset]
    intro i j a b hij hj h1 h2 ha hb
    rcases old i a (by omega) h1 ha with ⟨q1, q2⟩ | ⟨q1, q2, q3⟩
    · omega
    · rcases old j b hj h2 hb with ⟨p1, p2⟩ | ⟨p1, p2, p3⟩
      · rw [p2]
        exact ⟨by have := (i3 a q3).2.2; omega, hdv a q3⟩
      · exact i10 i j a b hij p1 q2 p2 ha hb
theorem wy_lookOn {set : Int32} {u : Nat} (E : wy_env N y z VL nx tk s0) (hok : ∀ o, o < 12 → wy_isIn set (nI o) = if ok o = true then 1 else 0) (hdu : dn u = true) (hu12 : 12 ≤ u) (hcap : T + 30 ≤ 30 * cn dn 1200) (F : cfr (wy_V y VL) s0 s) (hc : wy_ca y nx s) (H : wy_I nx tk ok y st T 5000 s D rk dn wt B) (hD : D u = T) (C : wy_C nx tk ok D dn wt (fun v _ => v = u)) :
    ∃ s' D' rk' wt' B', x10_lookOn N s y (nI u) set = some (s', 0) ∧ cfr (wy_V y VL) s0 s' ∧ wy_ca y nx s' ∧ wy_I nx tk ok y st T 5000 s' D' rk' dn wt' B' ∧ wy_C nx tk ok D' dn wt' (fun _ _ => False) ∧ (∀ v, (dn v = true ∨ wt v = true) → (dn v = true ∨ wt' v = true) ∧ D' v ≤ D v) := by
  unfold x10_lookOn
  rw [if_pos (wy_lay E F)]
  have hN := E.2.2.2.2.2.2.2.2.2.1
  obtain ⟨s', D', rk', wt', B', g1, g2, g3, g4, g5, g6, g7⟩ := wy_lookL (k := fun q2 x3 x4 x5 => some (q2, 0)) E hok hdu hu12 hcap 12 N 0 s D rk wt B (by omega) (by omega) F hc H hD (fun v o a1 a2 a3 a4 a5 => C v o a1 a2 a3 a4 (fun e => a5 ⟨e, Nat.zero_le _⟩))
  exact ⟨s', D', rk', wt', B', g1, g2, g3, g4, g6, g7⟩
/-- a state leaves its slot and is looked on from -/
theorem wy_turn {set : Int32} {v : Nat} (E : wy_env N y z VL nx tk s0) (hok : ∀ o, o < 12 → wy_isIn set (nI o) = if ok o = true then 1 else 0) (F : cfr (wy_V y VL) s0 s) (hc : wy_ca y nx s) (H : wy_I nx tk ok y st T 5000 s D rk dn wt B) (C : wy_C nx tk ok D dn wt (fun _ _ => False)) (hw : wt v = true) (hDT : D v = T) :
    cn dn 1200 < 1200 ∧ ∃ s1 s2 s' D' rk' wt' B', x10_leaveSlot N s y (nI v) = some (s1, 0) ∧ sk_c s1 y 7 = nI (cn dn 1200) ∧ s2 = sk_wc (sk_wc s1 (y + 5) (cn dn 1200) (nI v)) y 7 (nI (cn dn 1200 + 1)) ∧ sk_c (sk_wc s1 (y + 5) (cn dn 1200) (nI v)) y 7 = nI (cn dn 1200) ∧
      (if po_isOut (nI v) = 0 then x10_lookOn N s2 y (nI v) set = some (s', 0) else s' = s2) ∧ cfr (wy_V y VL) s0 s' ∧ wy_ca y nx s' ∧ wy_I nx tk ok y st T 5000 s' D' rk' (sb_ dn v true) wt' B' ∧ wy_C nx tk ok D' (sb_ dn v true) wt' (fun _ _ => False) ∧ (∀ w, (dn w = true ∨ wt w = true) → (sb_ dn v true w = true ∨ wt' w = true) ∧ D' w ≤ D w) := by
  have hv := (H.2.1.1 v hw).1
  have hd : dn v = false := by
    cases h : dn v with
    | false => rfl
    | true => have := (H.2.2.1 v h).2.1; rw [hw] at this; exact Bool.noConfusion this
  have hcnt := cn_dis (p := dn) (q := wt) (fun u a b => by have := (H.2.2.1 u a).2.1; rw [b] at this; exact Bool.noConfusion this) 1200
  have hpos := cn_pos hw 1200 hv
  have hDv := H.2.2.2.1 v hw
  have hp := H.2.2.2.2.1 v (.inr hw)
  obtain ⟨s1, k1, k2, k3, k4, k5⟩ := wy_J_leave (N := N) E F hc H (by decide) hw
  have H2 := wy_popped k4 k5 hd hv hDT hp
  have F2 : cfr (wy_V y VL) s0 (sk_wc (sk_wc s1 (y + 5) (cn dn 1200) (nI v)) y 7 (nI (cn dn 1200 + 1))) := (k2.wc _ (.inl ⟨by omega, by omega⟩)).wc _ (.inr (.inl ⟨rfl, .inl rfl⟩))
  have c2 : wy_ca y nx (sk_wc (sk_wc s1 (y + 5) (cn dn 1200) (nI v)) y 7 (nI (cn dn 1200 + 1))) := wy_ca_ops k3 (by simp (disch := omega) only [qc_ne]) (by rw [qc_eq, pk_un (by decide), qc_ne (by omega)])
  have hset : cn (sb_ dn v true) 1200 = cn dn 1200 + 1 := cn_set hd 1200 hv
  have C2 : wy_C nx tk ok D (sb_ dn v true) (sb_ wt v false) (fun w _ => w = v) := by
    intro w o a1 a2 a3 a4 a5
    simp only [sb_, if_neg a5] at a1
    obtain ⟨b1, b2⟩ := C w o a1 a2 a3 a4 (fun q => q)
    refine ⟨?_, b2⟩
    by_cases e : nx w o = v
    · exact .inl (by simp [sb_, e])
    · simp only [sb_, if_neg e]; exact b1
  have keep : ∀ w, (dn w = true ∨ wt w = true) → (sb_ dn v true w = true ∨ sb_ wt v false w = true) := by
    intro w hw'
    by_cases e : w = v
    · exact .inl (by simp [sb_, e])
    · simp only [sb_, if_neg e]; exact hw'
  refine ⟨by omega, ?_⟩
  have f7 : sk_c (sk_wc s1 (y + 5) (cn dn 1200) (nI v)) y 7 = nI (cn dn 1200) := by rw [qc_ne (by omega)]; exact k4.2.2.2.2.2.2.1
  by_cases h12 : v < 12
  · refine ⟨s1, _, _, D, rk, _, B, k1, k4.2.2.2.2.2.2.1, rfl, f7, ?_, F2, c2, H2, ?_, ?_⟩
    · rw [wy_ofl v hv, if_pos h12, if_neg (by decide)]
    · intro w o a1 a2 a3 a4 _
      exact C2 w o a1 a2 a3 a4 (by omega)
    · exact fun w hw' => ⟨keep w hw', Nat.le_refl _⟩
  · obtain ⟨s', D', rk', wt', B', g1, g2, g3, g4, g5, g6⟩ := wy_lookOn E hok (u := v) (by simp [sb_]) (by omega) (by rw [hset]; omega) F2 c2 H2 hDT C2
    refine ⟨s1, _, s', D', rk', wt', B', k1, k4.2.2.2.2.2.2.1, rfl, f7, ?_, g2, g3, g4, g5, ?_⟩
    · rw [wy_ofl v hv, if_neg h12, if_pos rfl]; exact g1
    · exact fun w hw' => g6 w (keep w hw')
def wy_Q (nx : Nat → Nat → Nat) (tk : Nat → Nat) (ok : Nat → Bool) (y st : Nat) (V : Nat → Nat → Prop) (s0 : sk_S) (till : Int32) (T : Nat) (s : sk_S) (D : Nat → Nat) (dn wt : Nat → Bool) : Prop :=
  cfr V s0 s ∧ wy_ca y nx s ∧ (∃ rk B, wy_I nx tk ok y st T 5000 s D rk dn wt B) ∧ wy_C nx tk ok D dn wt (fun _ _ => False) ∧ (till = 1 → ∀ v, dn v = true → 12 ≤ v) ∧ (dn st = true ∨ wt st = true) ∧ D st = 0
theorem wy_innerL {set till p1 : Int32} {k : sk_S → Int32 → Int32 → Int32 → Int32 → Int32 → Int32 → Option (sk_S × Int32)} (E : wy_env N y z VL nx tk s0) (hok : ∀ o, o < 12 → wy_isIn set (nI o) = if ok o = true then 1 else 0) (htill : till = 0 ∨ till = 1) :
    ∀ (m n i : Nat) (s : sk_S) (D : Nat → Nat) (dn wt : Nat → Bool), cn dn 1200 + m = 1200 → m < n → i ≤ cn dn 1200 → wy_Q nx tk ok y st (wy_V y VL) s0 till T s D dn wt →
    (∃ s' D' dn' wt' v, x10_search_L32 N y k n s p1 set till (nI T) (nI (T % 31)) (nI i) = some (s', nI T) ∧ till = 1 ∧ wy_Q nx tk ok y st (wy_V y VL) s0 till T s' D' dn' wt' ∧ v < 12 ∧ wt' v = true ∧ D' v = T) ∨
    (∃ s' D' dn' wt' i', x10_search_L32 N y k n s p1 set till (nI T) (nI (T % 31)) (nI i) = k s' p1 set till (nI T) (nI (T % 31)) (nI i') ∧ wy_Q nx tk ok y st (wy_V y VL) s0 till T s' D' dn' wt' ∧ sk_c s' (y + 7) (T % 31) = -1) := by
  intro m
  have h31 : T % 31 < 31 := Nat.mod_lt _ (by decide)
  induction m with
  | zero =>
    intro n i s D dn wt hm hn hi Q
    obtain ⟨n, rfl⟩ : ∃ q, n = q + 1 := ⟨n - 1, by omega⟩
    obtain ⟨F, hc, ⟨rk, B, H⟩, C, hti, hst, hD0⟩ := Q
    have hall := cn_full 1200 (by omega : cn dn 1200 = 1200)
    have hsl : sk_c s (y + 7) (T % 31) = -1 := by
      rcases H.2.1.2.2.2 (T % 31) h31 with h | ⟨v, hv, _⟩
      · exact h
      · have h1 := (H.2.1.1 v hv).1
        have := (H.2.2.1 v (hall v h1)).2.1
        rw [hv] at this; exact Bool.noConfusion this
    refine .inr ⟨s, D, dn, wt, i, ?_, ⟨F, hc, ⟨rk, B, H⟩, C, hti, hst, hD0⟩, hsl⟩
    simp only [x10_search_L32]
    rw [zq_cl (n := T % 31) (by omega), hsl, if_pos rfl, if_pos (zq_inBt h31 (by decide))]
    split <;> rfl
  | succ m ih =>
    intro n i s D dn wt hm hn hi Q
    obtain ⟨n, rfl⟩ : ∃ q, n = q + 1 := ⟨n - 1, by omega⟩
    obtain ⟨F, hc, ⟨rk, B, H⟩, C, hti, hst, hD0⟩ := Q
    rcases H.2.1.2.2.2 (T % 31) h31 with hsl | ⟨v, hw, hsl, _, hv31⟩
    · refine .inr ⟨s, D, dn, wt, i, ?_, ⟨F, hc, ⟨rk, B, H⟩, C, hti, hst, hD0⟩, hsl⟩
      simp only [x10_search_L32]
      rw [zq_cl (n := T % 31) (by omega), hsl, if_pos rfl, if_pos (zq_inBt h31 (by decide))]
      split <;> rfl
    · have hv := (H.2.1.1 v hw).1
      have hDv := H.2.2.2.1 v hw
      have hDT : D v = T := by omega
      have hi12 : ¬ (1200 : Int32) ≤ nI i := by
        show ¬ nI 1200 ≤ nI i
        rw [zq_le (by decide) (by omega)]; omega
      obtain ⟨hlt, s1, s2, s', D', rk', wt', B', t1, t2, t3, t4, t5, t6, t7, t8, t9, t10⟩ := wy_turn (N := N) E hok F hc H C hw hDT
      have hst' := t10 st hst
      have hd : dn v = false := by
        cases h : dn v with
        | false => rfl
        | true => have := (H.2.2.1 v h).2.1; rw [hw] at this; exact Bool.noConfusion this
      have hset : cn (sb_ dn v true) 1200 = cn dn 1200 + 1 := cn_set hd 1200 hv
      simp only [x10_search_L32, zq_let]
      rw [zq_cl (n := T % 31) (by omega), hsl, if_neg hi12, if_pos (zq_inBt h31 (by decide)), if_neg (zq_m1 (by omega))]
      by_cases hout : till = 1 ∧ v < 12
      · refine .inl ⟨s, D, dn, wt, v, ?_, hout.1, ⟨F, hc, ⟨rk, B, H⟩, C, hti, hst, hD0⟩, hout.2, hw, hDT⟩
        rw [hout.1, if_neg (by decide), wy_ofl v hv, if_pos hout.2, if_neg (by decide)]
      · have goOn := ih n (i + 1) s' D' (sb_ dn v true) wt' (by omega) (by omega) (by omega) ⟨t6, t7, ⟨rk', B', t8⟩, t9, (by
          intro ht1 u hu
          by_cases e : u = v
          · rw [e]; apply Nat.le_of_not_lt; intro q; exact hout ⟨ht1, q⟩
          · simp only [sb_, if_neg e] at hu
            exact hti ht1 u hu), hst'.1, (by have := hst'.2; omega)⟩
        have key : x10_search_L32 N y k n s' p1 set till (nI T) (nI (T % 31)) (nI (i + 1)) = (if till = 0 then ((x10_leaveSlot N s y (nI v)).bind (fun zz => (fun q7 x8 => (if ky_inB (sk_c q7 y 7) 1200 = true then (ky_let (sk_wc q7 (y + 5) (Int32.toNatClampNeg (sk_c q7 y 7)) (nI v)) (fun q12 => (ky_let ((sk_c q12 y 7) + 1) (fun x13 => (ky_let (sk_wc q12 y 7 x13) (fun q15 => (if (po_isOut (nI v)) = 0 then ((x10_lookOn N q15 y (nI v) set).bind (fun zz => (fun q19 x20 => (ky_let (nI i + 1) (fun x22 => (x10_search_L32 N y k n q19 p1 set till (nI T) (nI (T % 31)) x22)))) zz.1 zz.2)) else (ky_let (nI i + 1) (fun x17 => (x10_search_L32 N y k n q15 p1 set till (nI T) (nI (T % 31)) x17)))))))))) else none)) zz.1 zz.2)) else (if (po_isOut (nI v)) = 0 then ((x10_leaveSlot N s y (nI v)).bind (fun zz => (fun q25 x26 => (if ky_inB (sk_c q25 y 7) 1200 = true then (ky_let (sk_wc q25 (y + 5) (Int32.toNatClampNeg (sk_c q25 y 7)) (nI v)) (fun q30 => (ky_let ((sk_c q30 y 7) + 1) (fun x31 => (ky_let (sk_wc q30 y 7 x31) (fun q33 => (if (po_isOut (nI v)) = 0 then ((x10_lookOn N q33 y (nI v) set).bind (fun zz => (fun q37 x38 => (ky_let (nI i + 1) (fun x40 => (x10_search_L32 N y k n q37 p1 set till (nI T) (nI (T % 31)) x40)))) zz.1 zz.2)) else (ky_let (nI i + 1) (fun x35 => (x10_search_L32 N y k n q33 p1 set till (nI T) (nI (T % 31)) x35)))))))))) else none)) zz.1 zz.2)) else (some (s, nI T)))) := by
          have inner : ((x10_leaveSlot N s y (nI v)).bind (fun zz => (fun q7 x8 => (if ky_inB (sk_c q7 y 7) 1200 = true then (ky_let (sk_wc q7 (y + 5) (Int32.toNatClampNeg (sk_c q7 y 7)) (nI v)) (fun q12 => (ky_let ((sk_c q12 y 7) + 1) (fun x13 => (ky_let (sk_wc q12 y 7 x13) (fun q15 => (if (po_isOut (nI v)) = 0 then ((x10_lookOn N q15 y (nI v) set).bind (fun zz => (fun q19 x20 => (ky_let (nI i + 1) (fun x22 => (x10_search_L32 N y k n q19 p1 set till (nI T) (nI (T % 31)) x22)))) zz.1 zz.2)) else (ky_let (nI i + 1) (fun x17 => (x10_search_L32 N y k n q15 p1 set till (nI T) (nI (T % 31)) x17)))))))))) else none)) zz.1 zz.2)) = x10_search_L32 N y k n s' p1 set till (nI T) (nI (T % 31)) (nI (i + 1)) := by
            rw [t1]
            simp only [zq_bind, zq_let]
            rw [t2, if_pos (zq_inBt hlt (by decide)), zq_cl (by omega), t4, nI_1, nI_1, ← t3]
            by_cases ho : po_isOut (nI v) = 0
            · rw [if_pos ho]
              rw [if_pos ho] at t5
              rw [t5]
              rfl
            · rw [if_neg ho]
              rw [if_neg ho] at t5
              rw [t5]
          rw [inner]
          rcases htill with e | e
          · rw [if_pos e]
          · rw [if_neg (by rw [e]; decide), wy_ofl v hv, if_neg (fun q => hout ⟨e, q⟩), if_pos rfl]
        simp only [zq_let] at key
        rw [← key]
        exact goOn
theorem wy_outerL {set till p1 : Int32} (E : wy_env N y z VL nx tk s0) (hok : ∀ o, o < 12 → wy_isIn set (nI o) = if ok o = true then 1 else 0) (htill : till = 0 ∨ till = 1) :
    ∀ (m n T : Nat) (s : sk_S) (D : Nat → Nat) (dn wt : Nat → Bool), T + m = 36001 → m < n → wy_Q nx tk ok y st (wy_V y VL) s0 till T s D dn wt →
    ∃ s' r T' D' dn' wt', x10_search_L8 N y (fun q6 x7 x8 x9 x10 => (some (q6, (-1)))) n s p1 set till (nI T) = some (s', r) ∧ wy_Q nx tk ok y st (wy_V y VL) s0 till T' s' D' dn' wt' ∧ T' ≤ 36001 ∧ ((r = -1 ∧ ∀ v, wt' v = false) ∨ (till = 1 ∧ r = nI T' ∧ T' ≤ 36000 ∧ ∃ v, v < 12 ∧ wt' v = true ∧ D' v = T')) := by
  intro m
  have hN := E.2.2.2.2.2.2.2.2.2.1
  induction m with
  | zero =>
    intro n T s D dn wt hm hn Q
    obtain ⟨n, rfl⟩ : ∃ q, n = q + 1 := ⟨n - 1, by omega⟩
    refine ⟨s, -1, T, D, dn, wt, ?_, Q, by omega, .inl ⟨rfl, ?_⟩⟩
    · simp only [x10_search_L8]
      rw [if_pos (show (36000 : Int32) < nI T by show nI 36000 < nI T; rw [zq_lt (by decide) (by omega)]; omega)]
    · obtain ⟨F, hc, ⟨rk, B, H⟩, C, hti, hst, hD0⟩ := Q
      intro v
      cases h : wt v with
      | false => rfl
      | true => have := H.2.2.2.1 v h; have := cn_le dn 1200; omega
  | succ m ih =>
    intro n T s D dn wt hm hn Q
    obtain ⟨n, rfl⟩ : ∃ q, n = q + 1 := ⟨n - 1, by omega⟩
    obtain ⟨F, hc, ⟨rk, B, H⟩, C, hti, hst, hD0⟩ := Q
    have hle := cn_le wt 1200
    have hle2 := cn_le dn 1200
    simp only [x10_search_L8, zq_let]
    rw [if_neg (show ¬ (36000 : Int32) < nI T by show ¬ nI 36000 < nI T; rw [zq_lt (by decide) (by omega)]; omega), H.2.2.2.2.2.1]
    by_cases h0 : cn wt 1200 = 0
    · refine ⟨s, -1, T, D, dn, wt, ?_, ⟨F, hc, ⟨rk, B, H⟩, C, hti, hst, hD0⟩, by omega, .inl ⟨rfl, ?_⟩⟩
      · rw [h0, if_pos (show nI 0 ≤ 0 by decide)]
      · intro v
        cases h : wt v with
        | false => rfl
        | true => have := cn_pos h 1200 (H.2.1.1 v h).1; omega
    · rw [if_neg (show ¬ nI (cn wt 1200) ≤ 0 by show ¬ nI (cn wt 1200) ≤ nI 0; rw [zq_le (by omega) (by decide)]; omega)]
      have hx : nI T - nI T / 31 * 31 = nI (T % 31) := pk_rem (by omega) (by decide) (by decide)
      rw [hx]
      rcases wy_innerL (k := fun q5 x6 x7 x8 x9 x10 x11 => (x10_search_L8 N y (fun q6 x7 x8 x9 x10 => (some (q6, (-1)))) n q5 x6 x7 x8 (x9 + 1))) (p1 := p1) (set := set) (till := till) (T := T) E hok htill (1200 - cn dn 1200) N 0 s D dn wt (by omega) (by omega) (by omega) ⟨F, hc, ⟨rk, B, H⟩, C, hti, hst, hD0⟩ with ⟨s', D', dn', wt', v, a1, a2, a3, a4, a5, a6⟩ | ⟨s', D', dn', wt', i', a1, a2, a3⟩
      · have hb : T ≤ 36000 := by omega
        exact ⟨s', nI T, T, D', dn', wt', a1, a3, by omega, .inr ⟨a2, rfl, hb, v, a4, a5, a6⟩⟩
      · obtain ⟨F', hc', ⟨rk', B', H'⟩, C', hti', hst', hD0'⟩ := a2
        have a1' : x10_search_L32 N y (fun q5 x6 x7 x8 x9 x10 x11 => (x10_search_L8 N y (fun q6 x7 x8 x9 x10 => (some (q6, (-1)))) n q5 x6 x7 x8 (x9 + 1))) N s p1 set till (nI T) (nI (T % 31)) 0 = _ := a1
        rw [a1', nI_1]
        refine ih n (T + 1) s' D' dn' wt' (by omega) (by omega) ⟨F', hc', ⟨rk', B', ?_⟩, C', hti', hst', hD0'⟩
        obtain ⟨i1, i2, i3, i4, i5, i6, i7, i8, i9, i10⟩ := H'
        refine ⟨i1, i2, fun v hv => ?_, fun v hv => ?_, i5, i6, i7, i8, i9, i10⟩
        · have := i3 v hv
          exact ⟨this.1, this.2.1, by omega⟩
        · have h1 := i4 v hv
          have h2 := dq_none i2 a3 (B' - rk' v) v (Nat.le_refl _) hv
          have : D' v ≠ T := fun e => h2 (by rw [e])
          omega
end
