/-! BLOCKS: cells that lie one behind another, their contents by cell and place -/
def bk_w (c : Nat → Nat → Int32) (k j : Nat) (v : Int32) : Nat → Nat → Int32 := va_up c k (upd (c k) j v)
theorem bk_w_same (c : Nat → Nat → Int32) (k j : Nat) (v : Int32) : bk_w c k j v k j = v := by simp [bk_w, va_up, upd]
theorem bk_w_col (c : Nat → Nat → Int32) (k j : Nat) (v : Int32) : bk_w c k j v k = upd (c k) j v := by simp [bk_w, va_up]
theorem bk_w_ne {c : Nat → Nat → Int32} {k j k' : Nat} {v : Int32} (h : k' ≠ k) : bk_w c k j v k' = c k' := by simp [bk_w, va_up, h]
theorem bk_w_at {c : Nat → Nat → Int32} {k j j' : Nat} {v : Int32} (h : j' ≠ j) : bk_w c k j v k j' = c k j' := by simp [bk_w, va_up, upd, h]
def bk_at (B : Nat → (Nat → Int32) → va_E) (n : Nat) (h : ky_HP) (a : Nat) (c : Nat → Nat → Int32) : Prop := ∀ k, k < n → h.1 (a + k) = B k (c k)
def bk_fr (a n : Nat) (h h' : ky_HP) : Prop := (∀ b, ¬ (a ≤ b ∧ b < a + n) → h'.1 b = h.1 b) ∧ h'.2 = h.2
theorem bk_fr.rf {a n : Nat} {h : ky_HP} : bk_fr a n h h := ⟨fun _ _ => rfl, rfl⟩
theorem bk_fr.tr {a n : Nat} {h h1 h2 : ky_HP} (F : bk_fr a n h h1) (F' : bk_fr a n h1 h2) : bk_fr a n h h2 := ⟨fun b hb => (F'.1 b hb).trans (F.1 b hb), F'.2.trans F.2⟩
theorem bk_set {B : Nat → (Nat → Int32) → va_E} {n : Nat} {h : ky_HP} {a : Nat} {c : Nat → Nat → Int32} (H : bk_at B n h a c) (k : Nat) (f : Nat → Int32) : bk_at B n (ky_up h (a + k) (B k f)) a (va_up c k f) := by
  intro q hq
  by_cases e : q = k
  · subst e
    simp [ky_up, va_up]
  · have e1 : a + q ≠ a + k := by omega
    simp only [ky_up, va_up, if_neg e1, if_neg e]
    exact H q hq
theorem bk_frs {a n : Nat} {h h1 : ky_HP} (F : bk_fr a n h h1) {k : Nat} (hk : k < n) (e : va_E) : bk_fr a n h (ky_up h1 (a + k) e) :=
  ⟨fun b hb => by
    have e1 : b ≠ a + k := by omega
    simp only [ky_up, va_up, if_neg e1]
    exact F.1 b hb, F.2⟩
theorem bk_keep {B : Nat → (Nat → Int32) → va_E} {n m : Nat} {h h' : ky_HP} {a b : Nat} {c : Nat → Nat → Int32} (H : bk_at B n h b c) (F : bk_fr a m h h') (hd : b + n ≤ a ∨ a + m ≤ b) : bk_at B n h' b c :=
  fun k hk => (F.1 (b + k) (by omega)).trans (H k hk)
/-- behind a write: the new heap's name, the block, the frame from h0 on -/
theorem bk_st {B : Nat → (Nat → Int32) → va_E} {n : Nat} {G : ky_GW} {d : Nat} {M : ky_MT} {pc : Nat} {L : List (Nat × Value)} {S : List Value} {h0 h : ky_HP} {Q : ky_RS → ky_HP → Prop} {a : Nat} {c : Nat → Nat → Int32} (H : bk_at B n h a c) (F : bk_fr a n h0 h) (k j : Nat) (v : Int32) (hk : k < n) (K : ∀ h1, bk_at B n h1 a (bk_w c k j v) → bk_fr a n h0 h1 → ky_V G d M pc L S h1 Q) : ky_V G d M pc L S (ky_up h (a + k) (B k (upd (c k) j v))) Q :=
  K _ (bk_set H k _) (bk_frs F hk _)
/-- the reference's block: the object and its twelve arrays -/
def md_B (G : ky_GW) (a : Nat) : Nat → (Nat → Int32) → va_E := fun k f => match k with
  | 0 => .inr (11, [.int (f 0), .ref (a + 1), .ref (a + 2), .ref (a + 3), .ref (a + 4), .ref (a + 5), .int (f 6), .int (f 7), .ref (a + 6), .int (f 9), .int (f 10), .int (f 11), .int (f 12), .int (f 13), .int (f 14), .ref (a + 7), .int (f 16), .ref (a + 8), .ref (a + 9), .int (f 19), .int (f 20), .ref (a + 10), .ref (a + 11), .ref (a + 12)])
  | 1 => .inl (G.2.2.2.2 1, 2247, .inl f)
  | 2 => .inl (G.2.2.2.2 1, 1398, .inl f)
  | 3 => .inl (G.2.2.2.2 1, 1398, .inl f)
  | 4 => .inl (G.2.2.2.2 1, 549, .inl f)
  | 5 => .inl (G.2.2.2.2 1, 6588, .inl f)
  | 6 => .inl (G.2.2.2.2 0, 400, .inl f)
  | 7 => .inl (G.2.2.2.2 1, 5, .inl f)
  | 8 => .inl (G.2.2.2.2 1, 400, .inl f)
  | 9 => .inl (G.2.2.2.2 1, 2, .inl f)
  | 10 => .inl (G.2.2.2.2 1, 14400, .inl f)
  | 11 => .inl (G.2.2.2.2 1, 1200, .inl f)
  | _ => .inl (G.2.2.2.2 1, 64, .inl f)
abbrev md_at (G : ky_GW) (h : ky_HP) (a : Nat) (c : Nat → Nat → Int32) : Prop := bk_at (md_B G a) 13 h a c
theorem md_0 {G : ky_GW} {h : ky_HP} {a : Nat} {c : Nat → Nat → Int32} (H : md_at G h a c) : h.1 a = .inr (11, [.int (c 0 0), .ref (a + 1), .ref (a + 2), .ref (a + 3), .ref (a + 4), .ref (a + 5), .int (c 0 6), .int (c 0 7), .ref (a + 6), .int (c 0 9), .int (c 0 10), .int (c 0 11), .int (c 0 12), .int (c 0 13), .int (c 0 14), .ref (a + 7), .int (c 0 16), .ref (a + 8), .ref (a + 9), .int (c 0 19), .int (c 0 20), .ref (a + 10), .ref (a + 11), .ref (a + 12)]) := H 0 (by decide)
theorem md_1 {G : ky_GW} {h : ky_HP} {a : Nat} {c : Nat → Nat → Int32} (H : md_at G h a c) : h.1 (a + 1) = .inl (G.2.2.2.2 1, 2247, .inl (c 1)) := H 1 (by decide)
theorem md_2 {G : ky_GW} {h : ky_HP} {a : Nat} {c : Nat → Nat → Int32} (H : md_at G h a c) : h.1 (a + 2) = .inl (G.2.2.2.2 1, 1398, .inl (c 2)) := H 2 (by decide)
theorem md_3 {G : ky_GW} {h : ky_HP} {a : Nat} {c : Nat → Nat → Int32} (H : md_at G h a c) : h.1 (a + 3) = .inl (G.2.2.2.2 1, 1398, .inl (c 3)) := H 3 (by decide)
theorem md_4 {G : ky_GW} {h : ky_HP} {a : Nat} {c : Nat → Nat → Int32} (H : md_at G h a c) : h.1 (a + 4) = .inl (G.2.2.2.2 1, 549, .inl (c 4)) := H 4 (by decide)
theorem md_5 {G : ky_GW} {h : ky_HP} {a : Nat} {c : Nat → Nat → Int32} (H : md_at G h a c) : h.1 (a + 5) = .inl (G.2.2.2.2 1, 6588, .inl (c 5)) := H 5 (by decide)
theorem md_6 {G : ky_GW} {h : ky_HP} {a : Nat} {c : Nat → Nat → Int32} (H : md_at G h a c) : h.1 (a + 6) = .inl (G.2.2.2.2 0, 400, .inl (c 6)) := H 6 (by decide)
theorem md_7 {G : ky_GW} {h : ky_HP} {a : Nat} {c : Nat → Nat → Int32} (H : md_at G h a c) : h.1 (a + 7) = .inl (G.2.2.2.2 1, 5, .inl (c 7)) := H 7 (by decide)
theorem md_8 {G : ky_GW} {h : ky_HP} {a : Nat} {c : Nat → Nat → Int32} (H : md_at G h a c) : h.1 (a + 8) = .inl (G.2.2.2.2 1, 400, .inl (c 8)) := H 8 (by decide)
theorem md_9 {G : ky_GW} {h : ky_HP} {a : Nat} {c : Nat → Nat → Int32} (H : md_at G h a c) : h.1 (a + 9) = .inl (G.2.2.2.2 1, 2, .inl (c 9)) := H 9 (by decide)
theorem md_10 {G : ky_GW} {h : ky_HP} {a : Nat} {c : Nat → Nat → Int32} (H : md_at G h a c) : h.1 (a + 10) = .inl (G.2.2.2.2 1, 14400, .inl (c 10)) := H 10 (by decide)
theorem md_11 {G : ky_GW} {h : ky_HP} {a : Nat} {c : Nat → Nat → Int32} (H : md_at G h a c) : h.1 (a + 11) = .inl (G.2.2.2.2 1, 1200, .inl (c 11)) := H 11 (by decide)
theorem md_12 {G : ky_GW} {h : ky_HP} {a : Nat} {c : Nat → Nat → Int32} (H : md_at G h a c) : h.1 (a + 12) = .inl (G.2.2.2.2 1, 64, .inl (c 12)) := H 12 (by decide)
theorem ky_lit7 : (7 : Int32).toNatClampNeg = 7 := rfl
