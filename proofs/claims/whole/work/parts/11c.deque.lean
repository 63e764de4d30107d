/-! SLOTS: those who wait, in rows that are linked both ways -/
def dq_ok (ah be sl : Nat → Int32) (D rk : Nat → Nat) (wt : Nat → Bool) (B : Nat) : Prop :=
  (∀ v, wt v = true → v < 1200 ∧ rk v < B) ∧
  (∀ v, wt v = true → (ah v = -1 ∧ sl (D v % 31) = nI v) ∨ ∃ u, wt u = true ∧ ah v = nI u ∧ be u = nI v ∧ D u % 31 = D v % 31 ∧ rk v < rk u) ∧
  (∀ v, wt v = true → be v = -1 ∨ ∃ u, wt u = true ∧ be v = nI u ∧ ah u = nI v) ∧
  (∀ k, k < 31 → sl k = -1 ∨ ∃ v, wt v = true ∧ sl k = nI v ∧ ah v = -1 ∧ D v % 31 = k)
section
variable {ah be sl : Nat → Int32} {D rk : Nat → Nat} {wt : Nat → Bool} {B : Nat}
theorem dq_none (H : dq_ok ah be sl D rk wt B) {k : Nat} (hk : sl k = -1) : ∀ (m v : Nat), B - rk v ≤ m → wt v = true → D v % 31 ≠ k := by
  intro m
  induction m with
  | zero =>
    intro v hm hv
    have := (H.1 v hv).2
    omega
  | succ m ih =>
    intro v hm hv e
    rcases H.2.1 v hv with ⟨_, h2⟩ | ⟨u, hu, _, _, h3, h4⟩
    · rw [e, hk] at h2
      exact zq_m1 (by have := (H.1 v hv).1; omega) h2.symm
    · exact ih u (by have := (H.1 u hu).2; omega) hu (h3.trans e)
theorem dq_enter (H : dq_ok ah be sl D rk wt B) {v t : Nat} (hv : v < 1200) (hw : wt v = false) (ah' : Nat → Int32)
    (ha : (sl (t % 31) = -1 ∧ ah' = upd ah v (-1)) ∨ ∃ u, wt u = true ∧ sl (t % 31) = nI u ∧ ah' = upd (upd ah v (-1)) u (nI v)) :
    dq_ok ah' (upd be v (sl (t % 31))) (upd sl (t % 31) (nI v)) (fun j => if j = v then t else D j) (fun j => if j = v then B else rk j) (sb_ wt v true) (B + 1) := by
  have hk31 : t % 31 < 31 := Nat.mod_lt _ (by decide)
  have hnv : ∀ x, wt x = true → x ≠ v := fun x hx e => by rw [e, hw] at hx; exact Bool.noConfusion hx
  have hs : ∀ x, sb_ wt v true x = true → x = v ∨ wt x = true := by
    intro x hx
    by_cases e : x = v
    · exact .inl e
    · simp only [sb_, if_neg e] at hx; exact .inr hx
  have hs' : ∀ x, wt x = true → sb_ wt v true x = true := by
    intro x hx
    simp only [sb_]; split
    · rfl
    · exact hx
  have hsv : sb_ wt v true v = true := by simp [sb_]
  have hin : ∀ {a b : Nat}, a < 1200 → b < 1200 → nI a = nI b → a = b := fun ha hb e => zq_inj (by omega) (by omega) e
  -- the ahead row at others
  have hav : ah' v = -1 := by
    rcases ha with ⟨_, e⟩ | ⟨u, hu, _, e⟩
    · rw [e]; simp [upd]
    · rw [e]
      have : v ≠ u := fun q => hnv u hu q.symm
      simp [upd, this]
  have hao : ∀ x, x ≠ v → (ah' x = ah x ∧ sl (t % 31) ≠ nI x) ∨ (sl (t % 31) = nI x ∧ wt x = true ∧ ah' x = nI v) ∨ (ah' x = ah x ∧ 1200 ≤ x) := by
    intro x hx
    rcases ha with ⟨e0, e⟩ | ⟨u, hu, e0, e⟩
    · by_cases hb : x < 1200
      · refine .inl ⟨by rw [e]; simp [upd, hx], ?_⟩
        rw [e0]
        exact fun q => zq_m1 (by omega) q.symm
      · exact .inr (.inr ⟨by rw [e]; simp [upd, hx], by omega⟩)
    · by_cases hxu : x = u
      · subst hxu
        exact .inr (.inl ⟨e0, hu, by rw [e]; simp [upd]⟩)
      · by_cases hb : x < 1200
        · refine .inl ⟨by rw [e]; simp [upd, hx, hxu], ?_⟩
          rw [e0]
          exact fun q => hxu (hin (H.1 u hu).1 hb q).symm
        · exact .inr (.inr ⟨by rw [e]; simp [upd, hx, hxu], by omega⟩)
  refine ⟨?_, ?_, ?_, ?_⟩
  · intro x hx
    rcases hs x hx with rfl | hx'
    · exact ⟨hv, by simp⟩
    · have := H.1 x hx'
      refine ⟨this.1, ?_⟩
      simp only [if_neg (hnv x hx')]; omega
  · intro x hx
    rcases hs x hx with rfl | hx'
    · refine .inl ⟨hav, ?_⟩
      simp [upd]
    · have hxv := hnv x hx'
      have hx12 := (H.1 x hx').1
      simp only [if_neg hxv]
      rcases hao x hxv with ⟨e1, e2⟩ | ⟨e1, _, e2⟩ | ⟨_, e2⟩
      · rcases H.2.1 x hx' with ⟨h1, h2⟩ | ⟨u, hu, h1, h2, h3, h4⟩
        · refine .inl ⟨e1.trans h1, ?_⟩
          have : D x % 31 ≠ t % 31 := fun q => e2 (by rw [← q]; exact h2)
          simp [upd, this, h2]
        · refine .inr ⟨u, hs' u hu, e1.trans h1, ?_, ?_, ?_⟩
          · simp [upd, hnv u hu, h2]
          · simp only [if_neg (hnv u hu)]; exact h3
          · simp only [if_neg (hnv u hu)]; exact h4
      · refine .inr ⟨v, hsv, e2, ?_, ?_, ?_⟩
        · simp [upd, e1]
        · simp only [if_true]
          rcases H.2.2.2 (t % 31) hk31 with q | ⟨w, hw', q1, q2, q3⟩
          · rw [e1] at q; exact absurd q (zq_m1 (by omega))
          · have : x = w := hin hx12 (H.1 w hw').1 (e1.symm.trans q1)
            rw [this]; exact q3.symm
        · simp only [if_true]
          exact (H.1 x hx').2
      · omega
  · intro x hx
    rcases hs x hx with rfl | hx'
    · rcases ha with ⟨e0, e⟩ | ⟨u, hu, e0, e⟩
      · exact .inl (by simp [upd, e0])
      · exact .inr ⟨u, hs' u hu, by simp [upd, e0], by rw [e]; simp [upd]⟩
    · have hxv := hnv x hx'
      rcases H.2.2.1 x hx' with h1 | ⟨u, hu, h1, h2⟩
      · exact .inl (by simp [upd, hxv, h1])
      · refine .inr ⟨u, hs' u hu, by simp [upd, hxv, h1], ?_⟩
        rcases hao u (hnv u hu) with ⟨e1, _⟩ | ⟨e1, _, e2⟩ | ⟨_, e2⟩
        · exact e1.trans h2
        · rcases H.2.2.2 (t % 31) hk31 with q | ⟨w, hw', q1, q2, q3⟩
          · rw [e1] at q; exact absurd q (zq_m1 (by have := (H.1 u hu).1; omega))
          · have : u = w := hin (H.1 u hu).1 (H.1 w hw').1 (e1.symm.trans q1)
            rw [← this, h2] at q2
            exact absurd q2 (zq_m1 (by have := (H.1 x hx').1; omega))
        · have := (H.1 u hu).1; omega
  · intro k hk
    by_cases ek : k = t % 31
    · subst ek
      exact .inr ⟨v, hsv, by simp [upd], hav, by simp⟩
    · rcases H.2.2.2 k hk with h1 | ⟨u, hu, h1, h2, h3⟩
      · exact .inl (by simp [upd, ek, h1])
      · refine .inr ⟨u, hs' u hu, by simp [upd, ek, h1], ?_, by simp only [if_neg (hnv u hu)]; exact h3⟩
        rcases hao u (hnv u hu) with ⟨e1, _⟩ | ⟨e1, _, e2⟩ | ⟨_, e2⟩
        · exact e1.trans h2
        · exfalso
          rcases H.2.2.2 (t % 31) hk31 with q | ⟨w, hw', q1, q2, q3⟩
          · rw [e1] at q; exact zq_m1 (by have := (H.1 u hu).1; omega) q
          · have : u = w := hin (H.1 u hu).1 (H.1 w hw').1 (e1.symm.trans q1)
            rw [← this, h3] at q3
            exact ek q3
        · have := (H.1 u hu).1; omega
theorem dq_leave (H : dq_ok ah be sl D rk wt B) {v : Nat} (hw : wt v = true) (ah' be' sl' : Nat → Int32)
    (h1 : (ah v = -1 ∧ sl' = upd sl (D v % 31) (be v) ∧ be' = be) ∨ ∃ w, wt w = true ∧ ah v = nI w ∧ sl' = sl ∧ be' = upd be w (be v))
    (h2 : (be v = -1 ∧ ah' = ah) ∨ ∃ u, wt u = true ∧ be v = nI u ∧ ah' = upd ah u (ah v)) :
    dq_ok ah' be' sl' D rk (sb_ wt v false) B := by
  have hs : ∀ x, sb_ wt v false x = true → x ≠ v ∧ wt x = true := by
    intro x hx
    by_cases e : x = v
    · rw [e] at hx; simp [sb_] at hx
    · simp only [sb_, if_neg e] at hx; exact ⟨e, hx⟩
  have hs' : ∀ x, wt x = true → x ≠ v → sb_ wt v false x = true := by
    intro x hx e
    simp only [sb_, if_neg e]; exact hx
  have hlt : ∀ x, wt x = true → x < 1200 := fun x hx => (H.1 x hx).1
  have hin : ∀ {a b : Nat}, wt a = true → wt b = true → nI a = nI b → a = b := fun ha hb e => zq_inj (by have := hlt _ ha; omega) (by have := hlt _ hb; omega) e
  have hm : ∀ {a : Nat}, wt a = true → nI a ≠ -1 := fun ha => zq_m1 (by have := hlt _ ha; omega)
  -- links of v itself
  have hv31 : D v % 31 < 31 := Nat.mod_lt _ (by decide)
  have selfA : ah v = nI v → False := by
    intro e
    rcases H.2.1 v hw with ⟨q, _⟩ | ⟨u, hu, q1, q2, q3, q4⟩
    · exact hm hw (e.symm.trans q)
    · have := hin hw hu (e.symm.trans q1); subst this; omega
  -- who has v ahead is behind v
  have backA : ∀ x, wt x = true → ah x = nI v → be v = nI x := by
    intro x hx e
    rcases H.2.1 x hx with ⟨q, _⟩ | ⟨u, hu, q1, q2, _⟩
    · exact absurd (e.symm.trans q) (hm hw)
    · have := hin hw hu (e.symm.trans q1); subst this; exact q2
  have backB : ∀ x, wt x = true → be x = nI v → ah v = nI x := by
    intro x hx e
    rcases H.2.2.1 x hx with q | ⟨u, hu, q1, q2⟩
    · exact absurd (e.symm.trans q) (hm hw)
    · have := hin hw hu (e.symm.trans q1); subst this; exact q2
  have sameA : ∀ x, wt x = true → ah v = nI x → be x = nI v ∧ D x % 31 = D v % 31 ∧ rk v < rk x := by
    intro x hx e
    rcases H.2.1 v hw with ⟨q, _⟩ | ⟨u, hu, q1, q2, q3, q4⟩
    · exact absurd (e.symm.trans q) (hm hx)
    · have := hin hx hu (e.symm.trans q1); subst this; exact ⟨q2, q3, q4⟩
  have sameB : ∀ x, wt x = true → be v = nI x → ah x = nI v ∧ D v % 31 = D x % 31 ∧ rk x < rk v := by
    intro x hx e
    have ha : ah x = nI v := by
      rcases H.2.2.1 v hw with q | ⟨u, hu, q1, q2⟩
      · exact absurd (e.symm.trans q) (hm hx)
      · have := hin hx hu (e.symm.trans q1); subst this; exact q2
    rcases H.2.1 x hx with ⟨q, _⟩ | ⟨u, hu, q1, q2, q3, q4⟩
    · exact absurd (ha.symm.trans q) (hm hw)
    · have := hin hw hu (ha.symm.trans q1); subst this; exact ⟨ha, q3, q4⟩
  -- rows at others
  have ahO : ∀ x, wt x = true → be v ≠ nI x → ah' x = ah x := by
    intro x hx e
    rcases h2 with ⟨_, q⟩ | ⟨u, hu, q1, q⟩
    · rw [q]
    · have : x ≠ u := fun z => e (by rw [z]; exact q1)
      rw [q]; simp [upd, this]
  have ahU : ∀ x, wt x = true → be v = nI x → ah' x = ah v := by
    intro x hx e
    rcases h2 with ⟨q, _⟩ | ⟨u, hu, q1, q⟩
    · exact absurd (e.symm.trans q) (hm hx)
    · have := hin hx hu (e.symm.trans q1); subst this
      rw [q]; simp [upd]
  have beO : ∀ x, wt x = true → ah v ≠ nI x → be' x = be x := by
    intro x hx e
    rcases h1 with ⟨_, _, q⟩ | ⟨w, hw', q1, _, q⟩
    · rw [q]
    · have : x ≠ w := fun z => e (by rw [z]; exact q1)
      rw [q]; simp [upd, this]
  have beU : ∀ x, wt x = true → ah v = nI x → be' x = be v := by
    intro x hx e
    rcases h1 with ⟨q, _, _⟩ | ⟨w, hw', q1, _, q⟩
    · exact absurd (e.symm.trans q) (hm hx)
    · have := hin hx hw' (e.symm.trans q1); subst this
      rw [q]; simp [upd]
  refine ⟨?_, ?_, ?_, ?_⟩
  · intro x hx
    exact H.1 x (hs x hx).2
  · intro x hx
    obtain ⟨hxv, hx'⟩ := hs x hx
    by_cases eu : be v = nI x
    · obtain ⟨a1, a2, a3⟩ := sameB x hx' eu
      rcases H.2.1 v hw with ⟨q1, q2⟩ | ⟨w, hw', q1, q2, q3, q4⟩
      · refine .inl ⟨(ahU x hx' eu).trans q1, ?_⟩
        rcases h1 with ⟨_, q, _⟩ | ⟨w, hw', q, _⟩
        · rw [q, ← a2]; simp [upd, eu]
        · exact absurd (q.symm.trans q1) (hm hw')
      · have hwv : w ≠ v := fun z => selfA (by rw [q1, z])
        exact .inr ⟨w, hs' w hw' hwv, (ahU x hx' eu).trans q1, (beU w hw' q1).trans eu, q3.trans a2, by omega⟩
    · rcases H.2.1 x hx' with ⟨q1, q2⟩ | ⟨w, hw', q1, q2, q3, q4⟩
      · refine .inl ⟨(ahO x hx' eu).trans q1, ?_⟩
        rcases h1 with ⟨q00, q, _⟩ | ⟨w, hw', _, q, _⟩
        · have hne : D x % 31 ≠ D v % 31 := by
            intro z
            have hv2 : sl (D v % 31) = nI v := by
              rcases H.2.1 v hw with ⟨_, y⟩ | ⟨u, hu, y, _⟩
              · exact y
              · exact absurd (y.symm.trans q00) (hm hu)
            rw [z, hv2] at q2
            exact hxv (hin hw hx' q2).symm
          rw [q]; simp [upd, hne, q2]
        · rw [q]; exact q2
      · have hwv : w ≠ v := fun z => eu (backA x hx' (by rw [q1, z]))
        refine .inr ⟨w, hs' w hw' hwv, (ahO x hx' eu).trans q1, ?_, q3, q4⟩
        rw [beO w hw' (fun z => hxv (hin hx' hw (q2.symm.trans (sameA w hw' z).1)))]
        exact q2
  · intro x hx
    obtain ⟨hxv, hx'⟩ := hs x hx
    by_cases ew : ah v = nI x
    · rw [beU x hx' ew]
      rcases H.2.2.1 v hw with q | ⟨u, hu, q1, q2⟩
      · exact .inl q
      · have huv : u ≠ v := fun z => by
          have := (sameB u hu q1).2.2
          rw [z] at this; omega
        exact .inr ⟨u, hs' u hu huv, q1, (ahU u hu q1).trans ew⟩
    · rw [beO x hx' ew]
      rcases H.2.2.1 x hx' with q | ⟨u, hu, q1, q2⟩
      · exact .inl q
      · have huv : u ≠ v := fun z => ew (backB x hx' (by rw [q1, z]))
        refine .inr ⟨u, hs' u hu huv, q1, ?_⟩
        rw [ahO u hu (fun z => hxv (hin hx' hw (q2.symm.trans (sameB u hu z).1)))]
        exact q2
  · intro k hk
    rcases h1 with ⟨q0, q, _⟩ | ⟨w, hw', q0, q, _⟩
    · by_cases ek : k = D v % 31
      · subst ek
        rw [q]
        rcases H.2.2.1 v hw with z | ⟨u, hu, z1, z2⟩
        · exact .inl (by simp [upd, z])
        · have huv : u ≠ v := fun z => by
            have := (sameB u hu z1).2.2
            rw [z] at this; omega
          exact .inr ⟨u, hs' u hu huv, by simp [upd, z1], (ahU u hu z1).trans q0, (sameB u hu z1).2.1.symm⟩
      · rcases H.2.2.2 k hk with z | ⟨u, hu, z1, z2, z3⟩
        · exact .inl (by rw [q]; simp [upd, ek, z])
        · have huv : u ≠ v := fun y => ek (by rw [← z3, y])
          refine .inr ⟨u, hs' u hu huv, by rw [q]; simp [upd, ek, z1], ?_, z3⟩
          rw [ahO u hu (fun y => hm hw ((sameB u hu y).1.symm.trans z2))]
          exact z2
    · rw [q]
      rcases H.2.2.2 k hk with z | ⟨u, hu, z1, z2, z3⟩
      · exact .inl z
      · have huv : u ≠ v := fun y => hm hw' (q0.symm.trans (by rw [← y]; exact z2))
        refine .inr ⟨u, hs' u hu huv, z1, ?_, z3⟩
        rw [ahO u hu (fun y => hm hw ((sameB u hu y).1.symm.trans z2))]
        exact z2
end
