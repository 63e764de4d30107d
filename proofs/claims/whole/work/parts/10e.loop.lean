theorem nu_add {x y : Int32} (h1 : -2147483648 ≤ x.toInt + y.toInt) (h2 : x.toInt + y.toInt < 2147483648) : (x + y).toInt = x.toInt + y.toInt := by
  rw [Int32.toInt_add, Int.bmod_def]; omega
theorem nu_sub {x y : Int32} (h1 : -2147483648 ≤ x.toInt - y.toInt) (h2 : x.toInt - y.toInt < 2147483648) : (x - y).toInt = x.toInt - y.toInt := by
  rw [Int32.toInt_sub, Int.bmod_def]; omega
theorem nu_mul {x y : Int32} (h1 : -2147483648 ≤ x.toInt * y.toInt) (h2 : x.toInt * y.toInt < 2147483648) : (x * y).toInt = x.toInt * y.toInt := by
  rw [Int32.toInt_mul, Int.bmod_def]; omega
theorem nu_ofNat {n : Nat} (h : n < 2147483648) : (Int32.ofNat n).toInt = n := by
  rw [Int32.toInt_ofNat', Int.bmod_def, show Int32.size = 4294967296 from rfl]; omega
theorem nu_nat (x : Int32) : x.toNatClampNeg = x.toInt.toNat := rfl
theorem lw_in {i k : Int32} {j q Ln : Nat} (hi : i.toInt = 6 * j) (hk : k.toInt = q) (hq : q < 6) (h : 6 * j + 6 ≤ Ln) (hL : Ln ≤ 3072) : vp_in (i + k) Ln := by
  have e : (i + k).toInt = 6 * j + q := by rw [nu_add] <;> rw [hi, hk] <;> omega
  refine ky_inl ⟨?_, ?_⟩
  · rw [Int32.le_iff_toInt_le, e]; show (0 : Int) ≤ _; omega
  · rw [nu_nat, e]; omega
def sm_feed (X N : Nat) (R : Nat → sk_S → (Nat → Nat → Int32) → Prop) : Prop := ∀ (j : Nat) (s : sk_S) (c : (Nat → Nat → Int32)), j < 512 → R j s c → ∀ p1 p2 p3 p4 p5 : Int32, ∃ (s9 : sk_S) (c9 : (Nat → Nat → Int32)) (r : Int32), x11_feed N s X p1 p2 p3 p4 p5 = some (s9, r) ∧ md_feed N c p1 p2 p3 p4 p5 = some (c9, r) ∧ R (j + 1) s9 c9
def sm_end (X N : Nat) (R : Nat → sk_S → (Nat → Nat → Int32) → Prop) : Prop := ∀ (j : Nat) (s : sk_S) (c : (Nat → Nat → Int32)), j < 512 → R j s c → ∀ p1 : Int32, ∃ (s9 : sk_S) (c9 : (Nat → Nat → Int32)) (r : Int32), x11_end N s X p1 = some (s9, r) ∧ md_endO N c p1 = some (c9, r) ∧ R (j + 1) s9 c9
def sm_beach (X N : Nat) (R : Nat → sk_S → (Nat → Nat → Int32) → Prop) : Prop := ∀ (j : Nat) (s : sk_S) (c : (Nat → Nat → Int32)), j < 512 → R j s c → ∃ (s9 : sk_S) (c9 : (Nat → Nat → Int32)) (r9 : ky_RS) (r : Int32), x11_beach N s X = some (s9, r9) ∧ md_beach N c = some (c9, r) ∧ ((r9 = .inl (some (.int r)) ∧ c9 0 0 = 0) ∨ (r9 = .inr "java/lang/IllegalArgumentException" ∧ c9 0 0 = 1) ∨ (r9 = .inr "java/lang/UnsupportedOperationException" ∧ c9 0 0 = 2)) ∧ R (j + 1) s9 c9
def sm_law (X N : Nat) (R : Nat → sk_S → (Nat → Nat → Int32) → Prop) : Prop := ∀ (j : Nat) (s : sk_S) (c : (Nat → Nat → Int32)), j < 512 → R j s c → ∃ (s9 : sk_S) (c9 : (Nat → Nat → Int32)) (r9 : ky_RS) (r : Int32), x11_law N s X = some (s9, r9) ∧ md_law N c = some (c9, r) ∧ ((r9 = .inl (some (.int r)) ∧ c9 0 0 = 0) ∨ (r9 = .inr "java/lang/IllegalArgumentException" ∧ c9 0 0 = 1)) ∧ R (j + 1) s9 c9
def sm_fault (X N : Nat) (R : Nat → sk_S → (Nat → Nat → Int32) → Prop) : Prop := ∀ (j : Nat) (s : sk_S) (c : (Nat → Nat → Int32)), j < 512 → R j s c → ∃ (s9 : sk_S) (c9 : (Nat → Nat → Int32)) (r : Int32), x11_fault N s X = some (s9, r) ∧ md_faultO N c = some (c9, r) ∧ R (j + 1) s9 c9
def sm_move (X N : Nat) (R : Nat → sk_S → (Nat → Nat → Int32) → Prop) : Prop := ∀ (j : Nat) (s : sk_S) (c : (Nat → Nat → Int32)), j < 512 → R j s c → ∀ p1 p2 : Int32, ∃ (s9 : sk_S) (c9 : (Nat → Nat → Int32)) (r9 : ky_RS) (r : Int32), x11_move N s X p1 p2 = some (s9, r9) ∧ md_move N c p1 p2 = some (c9, r) ∧ ((r9 = .inl (some (.int r)) ∧ c9 0 0 = 0) ∨ (r9 = .inr "java/lang/IndexOutOfBoundsException" ∧ c9 0 0 = 1) ∨ (r9 = .inr "java/util/NoSuchElementException" ∧ c9 0 0 = 2)) ∧ R (j + 1) s9 c9
def sm_cell (X N : Nat) (R : Nat → sk_S → (Nat → Nat → Int32) → Prop) : Prop := ∀ (j : Nat) (s : sk_S) (c : (Nat → Nat → Int32)), j < 512 → R j s c → ∀ p1 p2 : Int32, ∃ (s9 : sk_S) (c9 : (Nat → Nat → Int32)) (r9 : ky_RS) (r : Int32), x11_cell N s X p1 p2 = some (s9, r9) ∧ md_cell N c p1 p2 = some (c9, r) ∧ ((r9 = .inl (some (.int r)) ∧ c9 0 0 = 0) ∨ (r9 = .inr "java/lang/IndexOutOfBoundsException" ∧ c9 0 0 = 1) ∨ (r9 = .inr "java/util/NoSuchElementException" ∧ c9 0 0 = 2)) ∧ R (j + 1) s9 c9
def sm_person (X N : Nat) (R : Nat → sk_S → (Nat → Nat → Int32) → Prop) : Prop := ∀ (j : Nat) (s : sk_S) (c : (Nat → Nat → Int32)), j < 512 → R j s c → ∀ p1 p2 : Int32, ∃ (s9 : sk_S) (c9 : (Nat → Nat → Int32)) (r9 : ky_RS) (r : Int32), x11_person N s X p1 p2 = some (s9, r9) ∧ md_person N c p1 p2 = some (c9, r) ∧ ((r9 = .inl (some (.int r)) ∧ c9 0 0 = 0) ∨ (r9 = .inr "java/lang/IndexOutOfBoundsException" ∧ c9 0 0 = 1) ∨ (r9 = .inr "java/util/NoSuchElementException" ∧ c9 0 0 = 2)) ∧ R (j + 1) s9 c9
def sm_moved (X N : Nat) (R : Nat → sk_S → (Nat → Nat → Int32) → Prop) : Prop := ∀ (j : Nat) (s : sk_S) (c : (Nat → Nat → Int32)), j < 512 → R j s c → ∀ p1 p2 : Int32, ∃ (s9 : sk_S) (c9 : (Nat → Nat → Int32)) (r9 : ky_RS) (r : Int32), x11_moved N s X p1 p2 = some (s9, r9) ∧ md_moved N c p1 p2 = some (c9, r) ∧ ((r9 = .inl (some (.int r)) ∧ c9 0 0 = 0) ∨ (r9 = .inr "java/lang/IndexOutOfBoundsException" ∧ c9 0 0 = 1) ∨ (r9 = .inr "java/lang/IllegalStateException" ∧ c9 0 0 = 2)) ∧ R (j + 1) s9 c9
def sm_pull (X N : Nat) (R : Nat → sk_S → (Nat → Nat → Int32) → Prop) : Prop := ∀ (j : Nat) (s : sk_S) (c : (Nat → Nat → Int32)), j < 512 → R j s c → ∀ p1 : Int32, ∃ (s9 : sk_S) (c9 : (Nat → Nat → Int32)) (r9 : ky_RS) (r : Int32), x11_pull N s X p1 = some (s9, r9) ∧ md_pull N c p1 = some (c9, r) ∧ ((r9 = .inl (some (.int r)) ∧ c9 0 0 = 0) ∨ (r9 = .inr "java/lang/IllegalArgumentException" ∧ c9 0 0 = 1) ∨ (r9 = .inr "java/lang/IllegalStateException" ∧ c9 0 0 = 2)) ∧ R (j + 1) s9 c9
def sm_talk (X N : Nat) (R : Nat → sk_S → (Nat → Nat → Int32) → Prop) : Prop := ∀ (j : Nat) (s : sk_S) (c : (Nat → Nat → Int32)), j < 512 → R j s c → ∃ (s9 : sk_S) (c9 : (Nat → Nat → Int32)) (r9 : ky_RS) (r : Int32), x11_talk N s X = some (s9, r9) ∧ md_talk N c = some (c9, r) ∧ ((r9 = .inl (some (.int r)) ∧ c9 0 0 = 0) ∨ (r9 = .inr "java/lang/IllegalStateException" ∧ c9 0 0 = 1)) ∧ R (j + 1) s9 c9
def sm_pour (X N : Nat) (R : Nat → sk_S → (Nat → Nat → Int32) → Prop) : Prop := ∀ (j : Nat) (s : sk_S) (c : (Nat → Nat → Int32)), j < 512 → R j s c → ∃ (s9 : sk_S) (c9 : (Nat → Nat → Int32)) (r9 : ky_RS) (r : Int32), x11_pour N s X = some (s9, r9) ∧ md_pour N c = some (c9, r) ∧ ((r9 = .inl (some (.int r)) ∧ c9 0 0 = 0) ∨ (r9 = .inr "java/lang/IllegalStateException" ∧ c9 0 0 = 1)) ∧ R (j + 1) s9 c9
def sm_walk (X N : Nat) (R : Nat → sk_S → (Nat → Nat → Int32) → Prop) : Prop := ∀ (j : Nat) (s : sk_S) (c : (Nat → Nat → Int32)), j < 512 → R j s c → ∀ p1 p2 : Int32, ∃ (s9 : sk_S) (c9 : (Nat → Nat → Int32)) (r9 : ky_RS) (r : Int32), x11_walk N s X p1 p2 = some (s9, r9) ∧ md_walk N c p1 p2 = some (c9, r) ∧ ((r9 = .inl (some (.int r)) ∧ c9 0 0 = 0) ∨ (r9 = .inr "java/lang/IndexOutOfBoundsException" ∧ c9 0 0 = 1) ∨ (r9 = .inr "java/lang/IllegalStateException" ∧ c9 0 0 = 2)) ∧ R (j + 1) s9 c9
def sm_board (X N : Nat) (R : Nat → sk_S → (Nat → Nat → Int32) → Prop) : Prop := ∀ (j : Nat) (s : sk_S) (c : (Nat → Nat → Int32)), j < 512 → R j s c → ∀ p1 : Int32, ∃ (s9 : sk_S) (c9 : (Nat → Nat → Int32)) (r9 : ky_RS) (r : Int32), x11_board N s X p1 = some (s9, r9) ∧ md_board N c p1 = some (c9, r) ∧ ((r9 = .inl (some (.int r)) ∧ c9 0 0 = 0) ∨ (r9 = .inr "java/lang/IndexOutOfBoundsException" ∧ c9 0 0 = 1) ∨ (r9 = .inr "java/lang/IllegalStateException" ∧ c9 0 0 = 2)) ∧ R (j + 1) s9 c9
def sm_moves (X N : Nat) (R : Nat → sk_S → (Nat → Nat → Int32) → Prop) : Prop := ∀ (j : Nat) (s : sk_S) (c : (Nat → Nat → Int32)), j < 512 → R j s c → ∀ p1 : Int32, ∃ (s9 : sk_S) (c9 : (Nat → Nat → Int32)) (r9 : ky_RS) (r : Int32), x11_moves N s X p1 = some (s9, r9) ∧ md_moves N c p1 = some (c9, r) ∧ ((r9 = .inl (some (.int r)) ∧ c9 0 0 = 0) ∨ (r9 = .inr "java/lang/IllegalArgumentException" ∧ c9 0 0 = 1)) ∧ R (j + 1) s9 c9
def sm_would (X N : Nat) (R : Nat → sk_S → (Nat → Nat → Int32) → Prop) : Prop := ∀ (j : Nat) (s : sk_S) (c : (Nat → Nat → Int32)), j < 512 → R j s c → ∀ p1 p2 p3 : Int32, ∃ (s9 : sk_S) (c9 : (Nat → Nat → Int32)) (r9 : ky_RS) (r : Int32), x11_would N s X p1 p2 p3 = some (s9, r9) ∧ md_would N c p1 p2 p3 = some (c9, r) ∧ ((r9 = .inl (some (.int r)) ∧ c9 0 0 = 0) ∨ (r9 = .inr "java/lang/IndexOutOfBoundsException" ∧ c9 0 0 = 1) ∨ (r9 = .inr "java/util/NoSuchElementException" ∧ c9 0 0 = 2)) ∧ R (j + 1) s9 c9
def sm_soonest (X N : Nat) (R : Nat → sk_S → (Nat → Nat → Int32) → Prop) : Prop := ∀ (j : Nat) (s : sk_S) (c : (Nat → Nat → Int32)), j < 512 → R j s c → ∀ p1 : Int32, ∃ (s9 : sk_S) (c9 : (Nat → Nat → Int32)) (r : Int32), x11_soonest N s X p1 = some (s9, r) ∧ md_soonest N c p1 = some (c9, r) ∧ R (j + 1) s9 c9
def sm_best (X N : Nat) (R : Nat → sk_S → (Nat → Nat → Int32) → Prop) : Prop := ∀ (j : Nat) (s : sk_S) (c : (Nat → Nat → Int32)), j < 512 → R j s c → ∀ p1 p2 : Int32, ∃ (s9 : sk_S) (c9 : (Nat → Nat → Int32)) (r : Int32), x11_best N s X p1 p2 = some (s9, r) ∧ md_best N c p1 p2 = some (c9, r) ∧ R (j + 1) s9 c9
def sm_latest (X N : Nat) (R : Nat → sk_S → (Nat → Nat → Int32) → Prop) : Prop := ∀ (j : Nat) (s : sk_S) (c : (Nat → Nat → Int32)), j < 512 → R j s c → ∃ (s9 : sk_S) (c9 : (Nat → Nat → Int32)) (r : Int32), x11_latest N s X = some (s9, r) ∧ md_latest N c = some (c9, r) ∧ R (j + 1) s9 c9
def sm_worth (X N : Nat) (R : Nat → sk_S → (Nat → Nat → Int32) → Prop) : Prop := ∀ (j : Nat) (s : sk_S) (c : (Nat → Nat → Int32)), j < 512 → R j s c → ∀ p1 : Int32, ∃ (s9 : sk_S) (c9 : (Nat → Nat → Int32)) (r9 : ky_RS) (r : Int32), x11_worth N s X p1 = some (s9, r9) ∧ md_worth N c p1 = some (c9, r) ∧ ((r9 = .inl (some (.int r)) ∧ c9 0 0 = 0) ∨ (r9 = .inr "java/util/NoSuchElementException" ∧ c9 0 0 = 1)) ∧ R (j + 1) s9 c9
def sm_stuck (X N : Nat) (R : Nat → sk_S → (Nat → Nat → Int32) → Prop) : Prop := ∀ (j : Nat) (s : sk_S) (c : (Nat → Nat → Int32)), j < 512 → R j s c → ∃ (s9 : sk_S) (c9 : (Nat → Nat → Int32)) (r : Int32), x11_stuck N s X = some (s9, r) ∧ md_stuck N c = some (c9, r) ∧ R (j + 1) s9 c9
def sm_deepest (X N : Nat) (R : Nat → sk_S → (Nat → Nat → Int32) → Prop) : Prop := ∀ (j : Nat) (s : sk_S) (c : (Nat → Nat → Int32)), j < 512 → R j s c → ∃ (s9 : sk_S) (c9 : (Nat → Nat → Int32)) (r : Int32), x11_deepest N s X = some (s9, r) ∧ md_deepest N c = some (c9, r) ∧ R (j + 1) s9 c9
def sm_round (X N : Nat) (R : Nat → sk_S → (Nat → Nat → Int32) → Prop) : Prop := ∀ (j : Nat) (s : sk_S) (c : (Nat → Nat → Int32)), j < 512 → R j s c → ∃ (s9 : sk_S) (c9 : (Nat → Nat → Int32)) (r : Int32), x11_round N s X = some (s9, r) ∧ md_round N c = some (c9, r) ∧ R (j + 1) s9 c9
def sm_more (X N : Nat) (R : Nat → sk_S → (Nat → Nat → Int32) → Prop) : Prop := ∀ (j : Nat) (s : sk_S) (c : (Nat → Nat → Int32)), j < 512 → R j s c → ∃ (s9 : sk_S) (c9 : (Nat → Nat → Int32)) (r : Int32), x11_more N s X = some (s9, r) ∧ md_more N c = some (c9, r) ∧ R (j + 1) s9 c9
def sm_run (X N : Nat) (R : Nat → sk_S → (Nat → Nat → Int32) → Prop) : Prop := ∀ (j : Nat) (s : sk_S) (c : (Nat → Nat → Int32)), j < 512 → R j s c → ∀ p1 p2 : Int32, ∃ (s9 : sk_S) (c9 : (Nat → Nat → Int32)) (r9 : ky_RS) (r : Int32), x11_run N s X p1 p2 = some (s9, r9) ∧ md_run N c p1 p2 = some (c9, r) ∧ ((r9 = .inl (some (.int r)) ∧ c9 0 0 = 0) ∨ (r9 = .inr "java/lang/IllegalArgumentException" ∧ c9 0 0 = 1)) ∧ R (j + 1) s9 c9
def sm_better (X N : Nat) (R : Nat → sk_S → (Nat → Nat → Int32) → Prop) : Prop := ∀ (j : Nat) (s : sk_S) (c : (Nat → Nat → Int32)), j < 512 → R j s c → ∀ p1 p2 : Int32, ∃ (s9 : sk_S) (c9 : (Nat → Nat → Int32)) (r9 : ky_RS) (r : Int32), x11_better N s X p1 p2 = some (s9, r9) ∧ md_better N c p1 p2 = some (c9, r) ∧ ((r9 = .inl (some (.int r)) ∧ c9 0 0 = 0) ∨ (r9 = .inr "java/lang/IllegalArgumentException" ∧ c9 0 0 = 1)) ∧ R (j + 1) s9 c9
def sm_force (X N : Nat) (R : Nat → sk_S → (Nat → Nat → Int32) → Prop) : Prop := ∀ (j : Nat) (s : sk_S) (c : (Nat → Nat → Int32)), j < 512 → R j s c → ∀ p1 p2 : Int32, (p2 = 0 ∨ p2 = 1) → ∃ (s9 : sk_S) (c9 : (Nat → Nat → Int32)) (r9 : ky_RS) (r : Int32), x11_force N s X p1 p2 = some (s9, r9) ∧ md_force N c p1 p2 = some (c9, r) ∧ ((r9 = .inl (some (.int r)) ∧ c9 0 0 = 0) ∨ (r9 = .inr "java/lang/IllegalArgumentException" ∧ c9 0 0 = 1)) ∧ R (j + 1) s9 c9
def sm_way (X N : Nat) (R : Nat → sk_S → (Nat → Nat → Int32) → Prop) : Prop := ∀ (j : Nat) (s : sk_S) (c : (Nat → Nat → Int32)), j < 512 → R j s c → ∀ p1 p2 p3 : Int32, (p3 = 0 ∨ p3 = 1) → ∃ (s9 : sk_S) (c9 : (Nat → Nat → Int32)) (r9 : ky_RS) (r : Int32), x11_way N s X p1 p2 p3 = some (s9, r9) ∧ md_way N c p1 p2 p3 = some (c9, r) ∧ ((r9 = .inl (some (.int r)) ∧ c9 0 0 = 0) ∨ (r9 = .inr "java/lang/IndexOutOfBoundsException" ∧ c9 0 0 = 1)) ∧ R (j + 1) s9 c9
def sm_reach (X N : Nat) (R : Nat → sk_S → (Nat → Nat → Int32) → Prop) : Prop := ∀ (j : Nat) (s : sk_S) (c : (Nat → Nat → Int32)), j < 512 → R j s c → ∀ p1 p2 : Int32, (p2 = 0 ∨ p2 = 1) → ∃ (s9 : sk_S) (c9 : (Nat → Nat → Int32)) (r9 : ky_RS) (r : Int64), x11_reach N s X p1 p2 = some (s9, r9) ∧ md_reach N c p1 p2 = some (c9, r) ∧ ((r9 = .inl (some (.long r)) ∧ c9 0 0 = 0) ∨ (r9 = .inr "java/lang/IndexOutOfBoundsException" ∧ c9 0 0 = 1)) ∧ R (j + 1) s9 c9
def sm_edge (X N : Nat) (R : Nat → sk_S → (Nat → Nat → Int32) → Prop) : Prop := ∀ (j : Nat) (s : sk_S) (c : (Nat → Nat → Int32)), j < 512 → R j s c → ∀ p1 p2 : Int32, ∃ (s9 : sk_S) (c9 : (Nat → Nat → Int32)) (r9 : ky_RS) (r : Int32), x11_edge N s X p1 p2 = some (s9, r9) ∧ md_edge N c p1 p2 = some (c9, r) ∧ ((r9 = .inl (some (.int r)) ∧ c9 0 0 = 0) ∨ (r9 = .inr "java/lang/IllegalArgumentException" ∧ c9 0 0 = 1)) ∧ R (j + 1) s9 c9
def sm_signs (X N : Nat) (R : Nat → sk_S → (Nat → Nat → Int32) → Prop) : Prop := ∀ (j : Nat) (s : sk_S) (c : (Nat → Nat → Int32)), j < 512 → R j s c → ∀ p1 p2 : Int32, (p2 = 0 ∨ p2 = 1) → ∃ (s9 : sk_S) (c9 : (Nat → Nat → Int32)) (r9 : ky_RS) (r : Int32), x11_signs N s X p1 p2 = some (s9, r9) ∧ md_signs N c p1 p2 = some (c9, r) ∧ ((r9 = .inl (some (.int r)) ∧ c9 0 0 = 0) ∨ (r9 = .inr "java/lang/IllegalArgumentException" ∧ c9 0 0 = 1)) ∧ R (j + 1) s9 c9
def sm_sinking (X N : Nat) (R : Nat → sk_S → (Nat → Nat → Int32) → Prop) : Prop := ∀ (j : Nat) (s : sk_S) (c : (Nat → Nat → Int32)), j < 512 → R j s c → ∃ (s9 : sk_S) (c9 : (Nat → Nat → Int32)) (r : Int64), x11_sinking N s X = some (s9, r) ∧ md_sinking N c = some (c9, r) ∧ R (j + 1) s9 c9
def sm_holes (X N : Nat) (R : Nat → sk_S → (Nat → Nat → Int32) → Prop) : Prop := ∀ (j : Nat) (s : sk_S) (c : (Nat → Nat → Int32)), j < 512 → R j s c → ∀ p1 p2 : Int32, ∃ (s9 : sk_S) (c9 : (Nat → Nat → Int32)) (r9 : ky_RS) (r : Int32), x11_holes N s X p1 p2 = some (s9, r9) ∧ md_holes N c p1 p2 = some (c9, r) ∧ ((r9 = .inl (some (.int r)) ∧ c9 0 0 = 0) ∨ (r9 = .inr "java/lang/IndexOutOfBoundsException" ∧ c9 0 0 = 1) ∨ (r9 = .inr "java/lang/IllegalArgumentException" ∧ c9 0 0 = 2)) ∧ R (j + 1) s9 c9
def sm_rope (X N : Nat) (R : Nat → sk_S → (Nat → Nat → Int32) → Prop) : Prop := ∀ (j : Nat) (s : sk_S) (c : (Nat → Nat → Int32)), j < 512 → R j s c → ∀ p1 : Int32, ∃ (s9 : sk_S) (c9 : (Nat → Nat → Int32)) (r9 : ky_RS) (r : Int64), x11_rope N s X p1 = some (s9, r9) ∧ md_rope N c p1 = some (c9, r) ∧ ((r9 = .inl (some (.long r)) ∧ c9 0 0 = 0) ∨ (r9 = .inr "java/lang/IllegalArgumentException" ∧ c9 0 0 = 1)) ∧ R (j + 1) s9 c9
def sm_placed (X N : Nat) (R : Nat → sk_S → (Nat → Nat → Int32) → Prop) : Prop := ∀ (j : Nat) (s : sk_S) (c : (Nat → Nat → Int32)), j < 512 → R j s c → ∃ (s9 : sk_S) (c9 : (Nat → Nat → Int32)) (r : Int32), x11_placed N s X = some (s9, r) ∧ md_placed N c = some (c9, r) ∧ R (j + 1) s9 c9
def sm_trial (X N : Nat) (R : Nat → sk_S → (Nat → Nat → Int32) → Prop) : Prop := ∀ (j : Nat) (s : sk_S) (c : (Nat → Nat → Int32)), j < 512 → R j s c → ∀ p1 p2 : Int32, (p2 = 0 ∨ p2 = 1) → ∃ (s9 : sk_S) (c9 : (Nat → Nat → Int32)) (r9 : ky_RS) (r : Int32), x11_trial N s X p1 p2 = some (s9, r9) ∧ md_trial N c p1 p2 = some (c9, r) ∧ ((r9 = .inl (some (.int r)) ∧ c9 0 0 = 0) ∨ (r9 = .inr "java/lang/IllegalArgumentException" ∧ c9 0 0 = 1)) ∧ R (j + 1) s9 c9
def sm_span (X N : Nat) (R : Nat → sk_S → (Nat → Nat → Int32) → Prop) : Prop := ∀ (j : Nat) (s : sk_S) (c : (Nat → Nat → Int32)), j < 512 → R j s c → ∀ p1 p2 : Int32, (p2 = 0 ∨ p2 = 1) → ∃ (s9 : sk_S) (c9 : (Nat → Nat → Int32)) (r9 : ky_RS) (r : Int32), x11_span N s X p1 p2 = some (s9, r9) ∧ md_span N c p1 p2 = some (c9, r) ∧ ((r9 = .inl (some (.int r)) ∧ c9 0 0 = 0) ∨ (r9 = .inr "java/lang/IllegalArgumentException" ∧ c9 0 0 = 1)) ∧ R (j + 1) s9 c9
def sm_led (X N : Nat) (R : Nat → sk_S → (Nat → Nat → Int32) → Prop) : Prop := ∀ (j : Nat) (s : sk_S) (c : (Nat → Nat → Int32)), j < 512 → R j s c → ∀ p1 p2 : Int32, (p2 = 0 ∨ p2 = 1) → ∃ (s9 : sk_S) (c9 : (Nat → Nat → Int32)) (r9 : ky_RS) (r : Int32), x11_led N s X p1 p2 = some (s9, r9) ∧ md_led N c p1 p2 = some (c9, r) ∧ ((r9 = .inl (some (.int r)) ∧ c9 0 0 = 0) ∨ (r9 = .inr "java/lang/IndexOutOfBoundsException" ∧ c9 0 0 = 1)) ∧ R (j + 1) s9 c9
def sm_log (X N : Nat) (R : Nat → sk_S → (Nat → Nat → Int32) → Prop) : Prop := ∀ (j : Nat) (s : sk_S) (c : (Nat → Nat → Int32)), j < 512 → R j s c → ∀ p1 p2 : Int32, ∃ (s9 : sk_S) (c9 : (Nat → Nat → Int32)) (r9 : ky_RS) (r : Int32), x11_log N s X p1 p2 = some (s9, r9) ∧ md_logO N c p1 p2 = some (c9, r) ∧ ((r9 = .inl (some (.int r)) ∧ c9 0 0 = 0) ∨ (r9 = .inr "java/util/NoSuchElementException" ∧ c9 0 0 = 1)) ∧ R (j + 1) s9 c9
def sm_seed (X N : Nat) (R : Nat → sk_S → (Nat → Nat → Int32) → Prop) : Prop := ∀ (j : Nat) (s : sk_S) (c : (Nat → Nat → Int32)), j < 512 → R j s c → ∀ p1 : Int32, ∃ (s9 : sk_S) (c9 : (Nat → Nat → Int32)) (r : Int32), x11_seed N s X p1 = some (s9, r) ∧ md_seedO N c p1 = some (c9, r) ∧ R (j + 1) s9 c9
def sm_undo (X N : Nat) (R : Nat → sk_S → (Nat → Nat → Int32) → Prop) : Prop := ∀ (j : Nat) (s : sk_S) (c : (Nat → Nat → Int32)), j < 512 → R j s c → ∃ (s9 : sk_S) (c9 : (Nat → Nat → Int32)) (r : Int32), x11_undo N s X = some (s9, r) ∧ md_undo N c = some (c9, r) ∧ R (j + 1) s9 c9
def sm_image (X N : Nat) (R : Nat → sk_S → (Nat → Nat → Int32) → Prop) : Prop := ∀ (j : Nat) (s : sk_S) (c : (Nat → Nat → Int32)), j < 512 → R j s c → ∃ (s9 : sk_S) (c9 : (Nat → Nat → Int32)) (r r2 : Int32), x11_image N s X = some (s9, r) ∧ md_image N c = some (c9, r2) ∧ R (j + 1) s9 c9
def sm_back (X N : Nat) (R : Nat → sk_S → (Nat → Nat → Int32) → Prop) : Prop := ∀ (j : Nat) (s : sk_S) (c : (Nat → Nat → Int32)), j < 512 → R j s c → ∃ (s9 : sk_S) (c9 : (Nat → Nat → Int32)) (r : Int32), x11_back N s X = some (s9, r) ∧ md_back N c = some (c9, r) ∧ R (j + 1) s9 c9
def sm_count (X N : Nat) (R : Nat → sk_S → (Nat → Nat → Int32) → Prop) : Prop := ∀ (j : Nat) (s : sk_S) (c : (Nat → Nat → Int32)), j < 512 → R j s c → ∀ p1 : Int32, ∃ (s9 : sk_S) (c9 : (Nat → Nat → Int32)) (r : Int32), x11_count N s X p1 = some (s9, r) ∧ md_count N c p1 = some (c9, r) ∧ R (j + 1) s9 c9
/-- what is owed of the two -/
def sm_all (X N : Nat) (R : Nat → sk_S → (Nat → Nat → Int32) → Prop) : Prop := sm_feed X N R ∧ sm_end X N R ∧ sm_beach X N R ∧ sm_law X N R ∧ sm_fault X N R ∧ sm_move X N R ∧ sm_cell X N R ∧ sm_person X N R ∧ sm_moved X N R ∧ sm_pull X N R ∧ sm_talk X N R ∧ sm_pour X N R ∧ sm_walk X N R ∧ sm_board X N R ∧ sm_moves X N R ∧ sm_would X N R ∧ sm_soonest X N R ∧ sm_best X N R ∧ sm_latest X N R ∧ sm_worth X N R ∧ sm_stuck X N R ∧ sm_deepest X N R ∧ sm_round X N R ∧ sm_more X N R ∧ sm_run X N R ∧ sm_better X N R ∧ sm_force X N R ∧ sm_way X N R ∧ sm_reach X N R ∧ sm_edge X N R ∧ sm_signs X N R ∧ sm_sinking X N R ∧ sm_holes X N R ∧ sm_rope X N R ∧ sm_placed X N R ∧ sm_trial X N R ∧ sm_span X N R ∧ sm_led X N R ∧ sm_log X N R ∧ sm_seed X N R ∧ sm_undo X N R ∧ sm_image X N R ∧ sm_back X N R ∧ sm_count X N R ∧ (∀ (j : Nat) (s : sk_S) (c : (Nat → Nat → Int32)), j < 512 → R j s c → R (j + 1) s c)
theorem lw_z (v : Int32) : (if v = 0 then (0 : Int32) else 1) = 0 ∨ (if v = 0 then (0 : Int32) else 1) = 1 := by
  by_cases h : v = 0
  · rw [if_pos h]; exact Or.inl rfl
  · rw [if_neg h]; exact Or.inr rfl
set_option maxRecDepth 20000 in
set_option maxHeartbeats 4000000 in
theorem lw_body {G : ky_GW} {b Ln : Nat} {xs : Nat → Int32} {Q : ky_RS → ky_HP → Prop} (N : Nat) (hG : ky_OK G) (hX : va_X b Ln xs G.2.1 G.2.1.heap) (hb : b < ky_B G) {R : Nat → sk_S → (Nat → Nat → Int32) → Prop} (hRx : ∀ j s c, R j s c → lw_X G s) (S : sm_all (ky_B G) N R) {j : Nat} (hj : j < 512) {s : sk_S} {c : (Nat → Nat → Int32)} {f : Nat → Int64} {h : ky_HP} {i : Int32}
    (b0 : vp_in i Ln) (b1 : vp_in (i + 1) Ln) (b2 : vp_in (i + 2) Ln) (b3 : vp_in (i + 3) Ln) (b4 : vp_in (i + 4) Ln) (b5 : vp_in (i + 5) Ln) (hR : R j s c) (I : lw_I G s c f h)
    (K : ∀ s9 c9 f9 h9, R (j + 1) s9 c9 → lw_I G s9 c9 f9 h9 → ky_V G 61 M_law 2405 [(0, .ref b), (1, .ref (ky_B G)), (2, .ref (ky_B G + 24)), (3, .ref (ky_B G + 37)), (4, .int i)] [] h9 Q) : ky_V G 61 M_law 33 [(0, .ref b), (1, .ref (ky_B G)), (2, .ref (ky_B G + 24)), (3, .ref (ky_B G + 37)), (4, .int i)] [] h Q := by
  refine v_aload_n (i := 19) (j := 0) rfl rfl (?_ : ky_V _ _ _ 34 _ _ _ _)
  refine v_iload (i := 20) (j := 4) rfl rfl (?_ : ky_V _ _ _ 36 _ _ _ _)
  refine v_sld hX hb b0 (i := 21) rfl (?_ : ky_V _ _ _ 37 _ _ _ _)
  refine v_bipush (v := 63) (i := 22) rfl (by decide) (?_ : ky_V _ _ _ 39 _ _ _ _)
  refine v_iand (i := 23) rfl (?_ : ky_V _ _ _ 40 _ _ _ _)
  refine v_topi (fun v ev => ?_)
  by_cases g0 : v = 0
  · refine v_tableIn (off := 192) (tgt := 232) (i := 24) rfl (by rw [g0]; decide) (by rw [g0]; decide) (by rw [g0]; rfl) (by decide) ?_
    obtain ⟨s9, c9, r, e1, e2, hR9⟩ := S.1 j s c hj hR (xs (Int32.toNatClampNeg (i + 1))) (xs (Int32.toNatClampNeg (i + 2))) (xs (Int32.toNatClampNeg (i + 3))) (xs (Int32.toNatClampNeg (i + 4))) (xs (Int32.toNatClampNeg (i + 5))) 
    exact lc_feed N hG hX hb b1 b2 b3 b4 b5 I (hRx _ _ _ hR) e1 e2 (fun f9 h9 I9 => K _ _ _ _ hR9 I9)
  by_cases g1 : v = 1
  · refine v_tableIn (off := 265) (tgt := 305) (i := 24) rfl (by rw [g1]; decide) (by rw [g1]; decide) (by rw [g1]; rfl) (by decide) ?_
    obtain ⟨s9, c9, r, e1, e2, hR9⟩ := S.2.1 j s c hj hR (xs (Int32.toNatClampNeg (i + 1))) 
    exact lc_end N hG hX hb b1 b2 b3 b4 b5 I (hRx _ _ _ hR) e1 e2 (fun f9 h9 I9 => K _ _ _ _ hR9 I9)
  by_cases g2 : v = 2
  · refine v_tableIn (off := 290) (tgt := 330) (i := 24) rfl (by rw [g2]; decide) (by rw [g2]; decide) (by rw [g2]; rfl) (by decide) ?_
    obtain ⟨s9, c9, r9, r, e1, e2, hc, hR9⟩ := S.2.2.1 j s c hj hR  
    exact lc_beach N hG hX hb b1 b2 b3 b4 b5 I (hRx _ _ _ hR) e1 e2 hc (fun f9 h9 I9 => K _ _ _ _ hR9 I9)
  by_cases g3 : v = 3
  · refine v_tableIn (off := 334) (tgt := 374) (i := 24) rfl (by rw [g3]; decide) (by rw [g3]; decide) (by rw [g3]; rfl) (by decide) ?_
    obtain ⟨s9, c9, r9, r, e1, e2, hc, hR9⟩ := S.2.2.2.1 j s c hj hR  
    exact lc_law N hG hX hb b1 b2 b3 b4 b5 I (hRx _ _ _ hR) e1 e2 hc (fun f9 h9 I9 => K _ _ _ _ hR9 I9)
  by_cases g4 : v = 4
  · refine v_tableIn (off := 378) (tgt := 418) (i := 24) rfl (by rw [g4]; decide) (by rw [g4]; decide) (by rw [g4]; rfl) (by decide) ?_
    obtain ⟨s9, c9, r, e1, e2, hR9⟩ := S.2.2.2.2.1 j s c hj hR  
    exact lc_fault N hG hX hb b1 b2 b3 b4 b5 I (hRx _ _ _ hR) e1 e2 (fun f9 h9 I9 => K _ _ _ _ hR9 I9)
  by_cases g5 : v = 5
  · refine v_tableIn (off := 391) (tgt := 431) (i := 24) rfl (by rw [g5]; decide) (by rw [g5]; decide) (by rw [g5]; rfl) (by decide) ?_
    obtain ⟨s9, c9, r9, r, e1, e2, hc, hR9⟩ := S.2.2.2.2.2.1 j s c hj hR (xs (Int32.toNatClampNeg (i + 1))) (xs (Int32.toNatClampNeg (i + 2))) 
    exact lc_move N hG hX hb b1 b2 b3 b4 b5 I (hRx _ _ _ hR) e1 e2 hc (fun f9 h9 I9 => K _ _ _ _ hR9 I9)
  by_cases g6 : v = 6
  · refine v_tableIn (off := 459) (tgt := 499) (i := 24) rfl (by rw [g6]; decide) (by rw [g6]; decide) (by rw [g6]; rfl) (by decide) ?_
    obtain ⟨s9, c9, r9, r, e1, e2, hc, hR9⟩ := S.2.2.2.2.2.2.1 j s c hj hR (xs (Int32.toNatClampNeg (i + 1))) (xs (Int32.toNatClampNeg (i + 2))) 
    exact lc_cell N hG hX hb b1 b2 b3 b4 b5 I (hRx _ _ _ hR) e1 e2 hc (fun f9 h9 I9 => K _ _ _ _ hR9 I9)
  by_cases g7 : v = 7
  · refine v_tableIn (off := 527) (tgt := 567) (i := 24) rfl (by rw [g7]; decide) (by rw [g7]; decide) (by rw [g7]; rfl) (by decide) ?_
    obtain ⟨s9, c9, r9, r, e1, e2, hc, hR9⟩ := S.2.2.2.2.2.2.2.1 j s c hj hR (xs (Int32.toNatClampNeg (i + 1))) (xs (Int32.toNatClampNeg (i + 2))) 
    exact lc_person N hG hX hb b1 b2 b3 b4 b5 I (hRx _ _ _ hR) e1 e2 hc (fun f9 h9 I9 => K _ _ _ _ hR9 I9)
  by_cases g8 : v = 8
  · refine v_tableIn (off := 595) (tgt := 635) (i := 24) rfl (by rw [g8]; decide) (by rw [g8]; decide) (by rw [g8]; rfl) (by decide) ?_
    obtain ⟨s9, c9, r9, r, e1, e2, hc, hR9⟩ := S.2.2.2.2.2.2.2.2.1 j s c hj hR (xs (Int32.toNatClampNeg (i + 1))) (xs (Int32.toNatClampNeg (i + 2))) 
    exact lc_moved N hG hX hb b1 b2 b3 b4 b5 I (hRx _ _ _ hR) e1 e2 hc (fun f9 h9 I9 => K _ _ _ _ hR9 I9)
  by_cases g9 : v = 9
  · refine v_tableIn (off := 663) (tgt := 703) (i := 24) rfl (by rw [g9]; decide) (by rw [g9]; decide) (by rw [g9]; rfl) (by decide) ?_
    obtain ⟨s9, c9, r9, r, e1, e2, hc, hR9⟩ := S.2.2.2.2.2.2.2.2.2.1 j s c hj hR (xs (Int32.toNatClampNeg (i + 1))) 
    exact lc_pull N hG hX hb b1 b2 b3 b4 b5 I (hRx _ _ _ hR) e1 e2 hc (fun f9 h9 I9 => K _ _ _ _ hR9 I9)
  by_cases g10 : v = 10
  · refine v_tableIn (off := 719) (tgt := 759) (i := 24) rfl (by rw [g10]; decide) (by rw [g10]; decide) (by rw [g10]; rfl) (by decide) ?_
    obtain ⟨s9, c9, r9, r, e1, e2, hc, hR9⟩ := S.2.2.2.2.2.2.2.2.2.2.1 j s c hj hR  
    exact lc_talk N hG hX hb b1 b2 b3 b4 b5 I (hRx _ _ _ hR) e1 e2 hc (fun f9 h9 I9 => K _ _ _ _ hR9 I9)
  by_cases g11 : v = 11
  · refine v_tableIn (off := 763) (tgt := 803) (i := 24) rfl (by rw [g11]; decide) (by rw [g11]; decide) (by rw [g11]; rfl) (by decide) ?_
    obtain ⟨s9, c9, r9, r, e1, e2, hc, hR9⟩ := S.2.2.2.2.2.2.2.2.2.2.2.1 j s c hj hR  
    exact lc_pour N hG hX hb b1 b2 b3 b4 b5 I (hRx _ _ _ hR) e1 e2 hc (fun f9 h9 I9 => K _ _ _ _ hR9 I9)
  by_cases g12 : v = 12
  · refine v_tableIn (off := 807) (tgt := 847) (i := 24) rfl (by rw [g12]; decide) (by rw [g12]; decide) (by rw [g12]; rfl) (by decide) ?_
    obtain ⟨s9, c9, r9, r, e1, e2, hc, hR9⟩ := S.2.2.2.2.2.2.2.2.2.2.2.2.1 j s c hj hR (xs (Int32.toNatClampNeg (i + 1))) (xs (Int32.toNatClampNeg (i + 2))) 
    exact lc_walk N hG hX hb b1 b2 b3 b4 b5 I (hRx _ _ _ hR) e1 e2 hc (fun f9 h9 I9 => K _ _ _ _ hR9 I9)
  by_cases g13 : v = 13
  · refine v_tableIn (off := 875) (tgt := 915) (i := 24) rfl (by rw [g13]; decide) (by rw [g13]; decide) (by rw [g13]; rfl) (by decide) ?_
    obtain ⟨s9, c9, r9, r, e1, e2, hc, hR9⟩ := S.2.2.2.2.2.2.2.2.2.2.2.2.2.1 j s c hj hR (xs (Int32.toNatClampNeg (i + 1))) 
    exact lc_board N hG hX hb b1 b2 b3 b4 b5 I (hRx _ _ _ hR) e1 e2 hc (fun f9 h9 I9 => K _ _ _ _ hR9 I9)
  by_cases g14 : v = 14
  · refine v_tableIn (off := 931) (tgt := 971) (i := 24) rfl (by rw [g14]; decide) (by rw [g14]; decide) (by rw [g14]; rfl) (by decide) ?_
    obtain ⟨s9, c9, r9, r, e1, e2, hc, hR9⟩ := S.2.2.2.2.2.2.2.2.2.2.2.2.2.2.1 j s c hj hR (xs (Int32.toNatClampNeg (i + 1))) 
    exact lc_moves N hG hX hb b1 b2 b3 b4 b5 I (hRx _ _ _ hR) e1 e2 hc (fun f9 h9 I9 => K _ _ _ _ hR9 I9)
  by_cases g15 : v = 15
  · refine v_tableIn (off := 987) (tgt := 1027) (i := 24) rfl (by rw [g15]; decide) (by rw [g15]; decide) (by rw [g15]; rfl) (by decide) ?_
    obtain ⟨s9, c9, r9, r, e1, e2, hc, hR9⟩ := S.2.2.2.2.2.2.2.2.2.2.2.2.2.2.2.1 j s c hj hR (xs (Int32.toNatClampNeg (i + 1))) (xs (Int32.toNatClampNeg (i + 2))) (xs (Int32.toNatClampNeg (i + 3))) 
    exact lc_would N hG hX hb b1 b2 b3 b4 b5 I (hRx _ _ _ hR) e1 e2 hc (fun f9 h9 I9 => K _ _ _ _ hR9 I9)
  by_cases g16 : v = 16
  · refine v_tableIn (off := 1067) (tgt := 1107) (i := 24) rfl (by rw [g16]; decide) (by rw [g16]; decide) (by rw [g16]; rfl) (by decide) ?_
    obtain ⟨s9, c9, r, e1, e2, hR9⟩ := S.2.2.2.2.2.2.2.2.2.2.2.2.2.2.2.2.1 j s c hj hR (xs (Int32.toNatClampNeg (i + 1))) 
    exact lc_soonest N hG hX hb b1 b2 b3 b4 b5 I (hRx _ _ _ hR) e1 e2 (fun f9 h9 I9 => K _ _ _ _ hR9 I9)
  by_cases g17 : v = 17
  · refine v_tableIn (off := 1092) (tgt := 1132) (i := 24) rfl (by rw [g17]; decide) (by rw [g17]; decide) (by rw [g17]; rfl) (by decide) ?_
    obtain ⟨s9, c9, r, e1, e2, hR9⟩ := S.2.2.2.2.2.2.2.2.2.2.2.2.2.2.2.2.2.1 j s c hj hR (xs (Int32.toNatClampNeg (i + 1))) (xs (Int32.toNatClampNeg (i + 2))) 
    exact lc_best N hG hX hb b1 b2 b3 b4 b5 I (hRx _ _ _ hR) e1 e2 (fun f9 h9 I9 => K _ _ _ _ hR9 I9)
  by_cases g18 : v = 18
  · refine v_tableIn (off := 1129) (tgt := 1169) (i := 24) rfl (by rw [g18]; decide) (by rw [g18]; decide) (by rw [g18]; rfl) (by decide) ?_
    obtain ⟨s9, c9, r, e1, e2, hR9⟩ := S.2.2.2.2.2.2.2.2.2.2.2.2.2.2.2.2.2.2.1 j s c hj hR  
    exact lc_latest N hG hX hb b1 b2 b3 b4 b5 I (hRx _ _ _ hR) e1 e2 (fun f9 h9 I9 => K _ _ _ _ hR9 I9)
  by_cases g19 : v = 19
  · refine v_tableIn (off := 1142) (tgt := 1182) (i := 24) rfl (by rw [g19]; decide) (by rw [g19]; decide) (by rw [g19]; rfl) (by decide) ?_
    obtain ⟨s9, c9, r9, r, e1, e2, hc, hR9⟩ := S.2.2.2.2.2.2.2.2.2.2.2.2.2.2.2.2.2.2.2.1 j s c hj hR (xs (Int32.toNatClampNeg (i + 1))) 
    exact lc_worth N hG hX hb b1 b2 b3 b4 b5 I (hRx _ _ _ hR) e1 e2 hc (fun f9 h9 I9 => K _ _ _ _ hR9 I9)
  by_cases g20 : v = 20
  · refine v_tableIn (off := 1198) (tgt := 1238) (i := 24) rfl (by rw [g20]; decide) (by rw [g20]; decide) (by rw [g20]; rfl) (by decide) ?_
    obtain ⟨s9, c9, r, e1, e2, hR9⟩ := S.2.2.2.2.2.2.2.2.2.2.2.2.2.2.2.2.2.2.2.2.1 j s c hj hR  
    exact lc_stuck N hG hX hb b1 b2 b3 b4 b5 I (hRx _ _ _ hR) e1 e2 (fun f9 h9 I9 => K _ _ _ _ hR9 I9)
  by_cases g21 : v = 21
  · refine v_tableIn (off := 1211) (tgt := 1251) (i := 24) rfl (by rw [g21]; decide) (by rw [g21]; decide) (by rw [g21]; rfl) (by decide) ?_
    obtain ⟨s9, c9, r, e1, e2, hR9⟩ := S.2.2.2.2.2.2.2.2.2.2.2.2.2.2.2.2.2.2.2.2.2.1 j s c hj hR  
    exact lc_deepest N hG hX hb b1 b2 b3 b4 b5 I (hRx _ _ _ hR) e1 e2 (fun f9 h9 I9 => K _ _ _ _ hR9 I9)
  by_cases g22 : v = 22
  · refine v_tableIn (off := 1224) (tgt := 1264) (i := 24) rfl (by rw [g22]; decide) (by rw [g22]; decide) (by rw [g22]; rfl) (by decide) ?_
    obtain ⟨s9, c9, r, e1, e2, hR9⟩ := S.2.2.2.2.2.2.2.2.2.2.2.2.2.2.2.2.2.2.2.2.2.2.1 j s c hj hR  
    exact lc_round N hG hX hb b1 b2 b3 b4 b5 I (hRx _ _ _ hR) e1 e2 (fun f9 h9 I9 => K _ _ _ _ hR9 I9)
  by_cases g23 : v = 23
  · refine v_tableIn (off := 1237) (tgt := 1277) (i := 24) rfl (by rw [g23]; decide) (by rw [g23]; decide) (by rw [g23]; rfl) (by decide) ?_
    obtain ⟨s9, c9, r, e1, e2, hR9⟩ := S.2.2.2.2.2.2.2.2.2.2.2.2.2.2.2.2.2.2.2.2.2.2.2.1 j s c hj hR  
    exact lc_more N hG hX hb b1 b2 b3 b4 b5 I (hRx _ _ _ hR) e1 e2 (fun f9 h9 I9 => K _ _ _ _ hR9 I9)
  by_cases g24 : v = 24
  · refine v_tableIn (off := 1250) (tgt := 1290) (i := 24) rfl (by rw [g24]; decide) (by rw [g24]; decide) (by rw [g24]; rfl) (by decide) ?_
    obtain ⟨s9, c9, r9, r, e1, e2, hc, hR9⟩ := S.2.2.2.2.2.2.2.2.2.2.2.2.2.2.2.2.2.2.2.2.2.2.2.2.1 j s c hj hR (xs (Int32.toNatClampNeg (i + 1))) (xs (Int32.toNatClampNeg (i + 2))) 
    exact lc_run N hG hX hb b1 b2 b3 b4 b5 I (hRx _ _ _ hR) e1 e2 hc (fun f9 h9 I9 => K _ _ _ _ hR9 I9)
  by_cases g25 : v = 25
  · refine v_tableIn (off := 1318) (tgt := 1358) (i := 24) rfl (by rw [g25]; decide) (by rw [g25]; decide) (by rw [g25]; rfl) (by decide) ?_
    obtain ⟨s9, c9, r9, r, e1, e2, hc, hR9⟩ := S.2.2.2.2.2.2.2.2.2.2.2.2.2.2.2.2.2.2.2.2.2.2.2.2.2.1 j s c hj hR (xs (Int32.toNatClampNeg (i + 1))) (xs (Int32.toNatClampNeg (i + 2))) 
    exact lc_better N hG hX hb b1 b2 b3 b4 b5 I (hRx _ _ _ hR) e1 e2 hc (fun f9 h9 I9 => K _ _ _ _ hR9 I9)
  by_cases g26 : v = 26
  · refine v_tableIn (off := 1393) (tgt := 1433) (i := 24) rfl (by rw [g26]; decide) (by rw [g26]; decide) (by rw [g26]; rfl) (by decide) ?_
    obtain ⟨s9, c9, r9, r, e1, e2, hc, hR9⟩ := S.2.2.2.2.2.2.2.2.2.2.2.2.2.2.2.2.2.2.2.2.2.2.2.2.2.2.1 j s c hj hR (xs (Int32.toNatClampNeg (i + 1))) (if (xs (Int32.toNatClampNeg (i + 2))) = 0 then 0 else 1) (lw_z _)
    exact lc_force N hG hX hb b1 b2 b3 b4 b5 I (hRx _ _ _ hR) e1 e2 hc (fun f9 h9 I9 => K _ _ _ _ hR9 I9)
  by_cases g27 : v = 27
  · refine v_tableIn (off := 1477) (tgt := 1517) (i := 24) rfl (by rw [g27]; decide) (by rw [g27]; decide) (by rw [g27]; rfl) (by decide) ?_
    obtain ⟨s9, c9, r9, r, e1, e2, hc, hR9⟩ := S.2.2.2.2.2.2.2.2.2.2.2.2.2.2.2.2.2.2.2.2.2.2.2.2.2.2.2.1 j s c hj hR (xs (Int32.toNatClampNeg (i + 1))) (xs (Int32.toNatClampNeg (i + 2))) (if (xs (Int32.toNatClampNeg (i + 3))) = 0 then 0 else 1) (lw_z _)
    exact lc_way N hG hX hb b1 b2 b3 b4 b5 I (hRx _ _ _ hR) e1 e2 hc (fun f9 h9 I9 => K _ _ _ _ hR9 I9)
  by_cases g28 : v = 28
  · refine v_tableIn (off := 1573) (tgt := 1613) (i := 24) rfl (by rw [g28]; decide) (by rw [g28]; decide) (by rw [g28]; rfl) (by decide) ?_
    obtain ⟨s9, c9, r9, r, e1, e2, hc, hR9⟩ := S.2.2.2.2.2.2.2.2.2.2.2.2.2.2.2.2.2.2.2.2.2.2.2.2.2.2.2.2.1 j s c hj hR (xs (Int32.toNatClampNeg (i + 1))) (if (xs (Int32.toNatClampNeg (i + 2))) = 0 then 0 else 1) (lw_z _)
    exact lc_reach N hG hX hb b1 b2 b3 b4 b5 I (hRx _ _ _ hR) e1 e2 hc (fun f9 h9 I9 => K _ _ _ _ hR9 I9)
  by_cases g29 : v = 29
  · refine v_tableIn (off := 1656) (tgt := 1696) (i := 24) rfl (by rw [g29]; decide) (by rw [g29]; decide) (by rw [g29]; rfl) (by decide) ?_
    obtain ⟨s9, c9, r9, r, e1, e2, hc, hR9⟩ := S.2.2.2.2.2.2.2.2.2.2.2.2.2.2.2.2.2.2.2.2.2.2.2.2.2.2.2.2.2.1 j s c hj hR (xs (Int32.toNatClampNeg (i + 1))) (xs (Int32.toNatClampNeg (i + 2))) 
    exact lc_edge N hG hX hb b1 b2 b3 b4 b5 I (hRx _ _ _ hR) e1 e2 hc (fun f9 h9 I9 => K _ _ _ _ hR9 I9)
  by_cases g30 : v = 30
  · refine v_tableIn (off := 1724) (tgt := 1764) (i := 24) rfl (by rw [g30]; decide) (by rw [g30]; decide) (by rw [g30]; rfl) (by decide) ?_
    obtain ⟨s9, c9, r9, r, e1, e2, hc, hR9⟩ := S.2.2.2.2.2.2.2.2.2.2.2.2.2.2.2.2.2.2.2.2.2.2.2.2.2.2.2.2.2.2.1 j s c hj hR (xs (Int32.toNatClampNeg (i + 1))) (if (xs (Int32.toNatClampNeg (i + 2))) = 0 then 0 else 1) (lw_z _)
    exact lc_signs N hG hX hb b1 b2 b3 b4 b5 I (hRx _ _ _ hR) e1 e2 hc (fun f9 h9 I9 => K _ _ _ _ hR9 I9)
  by_cases g31 : v = 31
  · refine v_tableIn (off := 1808) (tgt := 1848) (i := 24) rfl (by rw [g31]; decide) (by rw [g31]; decide) (by rw [g31]; rfl) (by decide) ?_
    obtain ⟨s9, c9, r, e1, e2, hR9⟩ := S.2.2.2.2.2.2.2.2.2.2.2.2.2.2.2.2.2.2.2.2.2.2.2.2.2.2.2.2.2.2.2.1 j s c hj hR  
    exact lc_sinking N hG hX hb b1 b2 b3 b4 b5 I (hRx _ _ _ hR) e1 e2 (fun f9 h9 I9 => K _ _ _ _ hR9 I9)
  by_cases g32 : v = 32
  · refine v_tableIn (off := 1822) (tgt := 1862) (i := 24) rfl (by rw [g32]; decide) (by rw [g32]; decide) (by rw [g32]; rfl) (by decide) ?_
    obtain ⟨s9, c9, r9, r, e1, e2, hc, hR9⟩ := S.2.2.2.2.2.2.2.2.2.2.2.2.2.2.2.2.2.2.2.2.2.2.2.2.2.2.2.2.2.2.2.2.1 j s c hj hR (xs (Int32.toNatClampNeg (i + 1))) (xs (Int32.toNatClampNeg (i + 2))) 
    exact lc_holes N hG hX hb b1 b2 b3 b4 b5 I (hRx _ _ _ hR) e1 e2 hc (fun f9 h9 I9 => K _ _ _ _ hR9 I9)
  by_cases g33 : v = 33
  · refine v_tableIn (off := 1890) (tgt := 1930) (i := 24) rfl (by rw [g33]; decide) (by rw [g33]; decide) (by rw [g33]; rfl) (by decide) ?_
    obtain ⟨s9, c9, r9, r, e1, e2, hc, hR9⟩ := S.2.2.2.2.2.2.2.2.2.2.2.2.2.2.2.2.2.2.2.2.2.2.2.2.2.2.2.2.2.2.2.2.2.1 j s c hj hR (xs (Int32.toNatClampNeg (i + 1))) 
    exact lc_rope N hG hX hb b1 b2 b3 b4 b5 I (hRx _ _ _ hR) e1 e2 hc (fun f9 h9 I9 => K _ _ _ _ hR9 I9)
  by_cases g34 : v = 34
  · refine v_tableIn (off := 1945) (tgt := 1985) (i := 24) rfl (by rw [g34]; decide) (by rw [g34]; decide) (by rw [g34]; rfl) (by decide) ?_
    obtain ⟨s9, c9, r, e1, e2, hR9⟩ := S.2.2.2.2.2.2.2.2.2.2.2.2.2.2.2.2.2.2.2.2.2.2.2.2.2.2.2.2.2.2.2.2.2.2.1 j s c hj hR  
    exact lc_placed N hG hX hb b1 b2 b3 b4 b5 I (hRx _ _ _ hR) e1 e2 (fun f9 h9 I9 => K _ _ _ _ hR9 I9)
  by_cases g35 : v = 35
  · refine v_tableIn (off := 1958) (tgt := 1998) (i := 24) rfl (by rw [g35]; decide) (by rw [g35]; decide) (by rw [g35]; rfl) (by decide) ?_
    obtain ⟨s9, c9, r9, r, e1, e2, hc, hR9⟩ := S.2.2.2.2.2.2.2.2.2.2.2.2.2.2.2.2.2.2.2.2.2.2.2.2.2.2.2.2.2.2.2.2.2.2.2.1 j s c hj hR (xs (Int32.toNatClampNeg (i + 1))) (if (xs (Int32.toNatClampNeg (i + 2))) = 0 then 0 else 1) (lw_z _)
    exact lc_trial N hG hX hb b1 b2 b3 b4 b5 I (hRx _ _ _ hR) e1 e2 hc (fun f9 h9 I9 => K _ _ _ _ hR9 I9)
  by_cases g36 : v = 36
  · refine v_tableIn (off := 2042) (tgt := 2082) (i := 24) rfl (by rw [g36]; decide) (by rw [g36]; decide) (by rw [g36]; rfl) (by decide) ?_
    obtain ⟨s9, c9, r9, r, e1, e2, hc, hR9⟩ := S.2.2.2.2.2.2.2.2.2.2.2.2.2.2.2.2.2.2.2.2.2.2.2.2.2.2.2.2.2.2.2.2.2.2.2.2.1 j s c hj hR (xs (Int32.toNatClampNeg (i + 1))) (if (xs (Int32.toNatClampNeg (i + 2))) = 0 then 0 else 1) (lw_z _)
    exact lc_span N hG hX hb b1 b2 b3 b4 b5 I (hRx _ _ _ hR) e1 e2 hc (fun f9 h9 I9 => K _ _ _ _ hR9 I9)
  by_cases g37 : v = 37
  · refine v_tableIn (off := 2126) (tgt := 2166) (i := 24) rfl (by rw [g37]; decide) (by rw [g37]; decide) (by rw [g37]; rfl) (by decide) ?_
    obtain ⟨s9, c9, r9, r, e1, e2, hc, hR9⟩ := S.2.2.2.2.2.2.2.2.2.2.2.2.2.2.2.2.2.2.2.2.2.2.2.2.2.2.2.2.2.2.2.2.2.2.2.2.2.1 j s c hj hR (xs (Int32.toNatClampNeg (i + 1))) (if (xs (Int32.toNatClampNeg (i + 2))) = 0 then 0 else 1) (lw_z _)
    exact lc_led N hG hX hb b1 b2 b3 b4 b5 I (hRx _ _ _ hR) e1 e2 hc (fun f9 h9 I9 => K _ _ _ _ hR9 I9)
  by_cases g38 : v = 38
  · refine v_tableIn (off := 2210) (tgt := 2250) (i := 24) rfl (by rw [g38]; decide) (by rw [g38]; decide) (by rw [g38]; rfl) (by decide) ?_
    obtain ⟨s9, c9, r9, r, e1, e2, hc, hR9⟩ := S.2.2.2.2.2.2.2.2.2.2.2.2.2.2.2.2.2.2.2.2.2.2.2.2.2.2.2.2.2.2.2.2.2.2.2.2.2.2.1 j s c hj hR (xs (Int32.toNatClampNeg (i + 1))) (xs (Int32.toNatClampNeg (i + 2))) 
    exact lc_log N hG hX hb b1 b2 b3 b4 b5 I (hRx _ _ _ hR) e1 e2 hc (fun f9 h9 I9 => K _ _ _ _ hR9 I9)
  by_cases g39 : v = 39
  · refine v_tableIn (off := 2278) (tgt := 2318) (i := 24) rfl (by rw [g39]; decide) (by rw [g39]; decide) (by rw [g39]; rfl) (by decide) ?_
    obtain ⟨s9, c9, r, e1, e2, hR9⟩ := S.2.2.2.2.2.2.2.2.2.2.2.2.2.2.2.2.2.2.2.2.2.2.2.2.2.2.2.2.2.2.2.2.2.2.2.2.2.2.2.1 j s c hj hR (xs (Int32.toNatClampNeg (i + 1))) 
    exact lc_seed N hG hX hb b1 b2 b3 b4 b5 I (hRx _ _ _ hR) e1 e2 (fun f9 h9 I9 => K _ _ _ _ hR9 I9)
  by_cases g40 : v = 40
  · refine v_tableIn (off := 2303) (tgt := 2343) (i := 24) rfl (by rw [g40]; decide) (by rw [g40]; decide) (by rw [g40]; rfl) (by decide) ?_
    obtain ⟨s9, c9, r, e1, e2, hR9⟩ := S.2.2.2.2.2.2.2.2.2.2.2.2.2.2.2.2.2.2.2.2.2.2.2.2.2.2.2.2.2.2.2.2.2.2.2.2.2.2.2.2.1 j s c hj hR  
    exact lc_undo N hG hX hb b1 b2 b3 b4 b5 I (hRx _ _ _ hR) e1 e2 (fun f9 h9 I9 => K _ _ _ _ hR9 I9)
  by_cases g41 : v = 41
  · refine v_tableIn (off := 2316) (tgt := 2356) (i := 24) rfl (by rw [g41]; decide) (by rw [g41]; decide) (by rw [g41]; rfl) (by decide) ?_
    obtain ⟨s9, c9, r, r2, e1, e2, hR9⟩ := S.2.2.2.2.2.2.2.2.2.2.2.2.2.2.2.2.2.2.2.2.2.2.2.2.2.2.2.2.2.2.2.2.2.2.2.2.2.2.2.2.2.1 j s c hj hR  
    exact lc_image N hG hX hb b1 b2 b3 b4 b5 I (hRx _ _ _ hR) e1 e2 (fun f9 h9 I9 => K _ _ _ _ hR9 I9)
  by_cases g42 : v = 42
  · refine v_tableIn (off := 2327) (tgt := 2367) (i := 24) rfl (by rw [g42]; decide) (by rw [g42]; decide) (by rw [g42]; rfl) (by decide) ?_
    obtain ⟨s9, c9, r, e1, e2, hR9⟩ := S.2.2.2.2.2.2.2.2.2.2.2.2.2.2.2.2.2.2.2.2.2.2.2.2.2.2.2.2.2.2.2.2.2.2.2.2.2.2.2.2.2.2.1 j s c hj hR  
    exact lc_back N hG hX hb b1 b2 b3 b4 b5 I (hRx _ _ _ hR) e1 e2 (fun f9 h9 I9 => K _ _ _ _ hR9 I9)
  by_cases g43 : v = 43
  · refine v_tableIn (off := 2340) (tgt := 2380) (i := 24) rfl (by rw [g43]; decide) (by rw [g43]; decide) (by rw [g43]; rfl) (by decide) ?_
    obtain ⟨s9, c9, r, e1, e2, hR9⟩ := S.2.2.2.2.2.2.2.2.2.2.2.2.2.2.2.2.2.2.2.2.2.2.2.2.2.2.2.2.2.2.2.2.2.2.2.2.2.2.2.2.2.2.2.1 j s c hj hR (xs (Int32.toNatClampNeg (i + 1))) 
    exact lc_count N hG hX hb b1 b2 b3 b4 b5 I (hRx _ _ _ hR) e1 e2 (fun f9 h9 I9 => K _ _ _ _ hR9 I9)
  refine v_tableOut (tgt := 2405) (i := 24) rfl (ky_swO (fun z h1 h2 => ?_)) (by decide) ?_
  · intro hz
    have hv : v = Int32.ofInt z := by rw [← hz, Int32.ofInt_toInt]
    have h3 : z = 0 ∨ z = 1 ∨ z = 2 ∨ z = 3 ∨ z = 4 ∨ z = 5 ∨ z = 6 ∨ z = 7 ∨ z = 8 ∨ z = 9 ∨ z = 10 ∨ z = 11 ∨ z = 12 ∨ z = 13 ∨ z = 14 ∨ z = 15 ∨ z = 16 ∨ z = 17 ∨ z = 18 ∨ z = 19 ∨ z = 20 ∨ z = 21 ∨ z = 22 ∨ z = 23 ∨ z = 24 ∨ z = 25 ∨ z = 26 ∨ z = 27 ∨ z = 28 ∨ z = 29 ∨ z = 30 ∨ z = 31 ∨ z = 32 ∨ z = 33 ∨ z = 34 ∨ z = 35 ∨ z = 36 ∨ z = 37 ∨ z = 38 ∨ z = 39 ∨ z = 40 ∨ z = 41 ∨ z = 42 ∨ z = 43 := by omega
    rcases h3 with h3 | h3 | h3 | h3 | h3 | h3 | h3 | h3 | h3 | h3 | h3 | h3 | h3 | h3 | h3 | h3 | h3 | h3 | h3 | h3 | h3 | h3 | h3 | h3 | h3 | h3 | h3 | h3 | h3 | h3 | h3 | h3 | h3 | h3 | h3 | h3 | h3 | h3 | h3 | h3 | h3 | h3 | h3 | h3 <;> subst h3
    · exact g0 hv
    · exact g1 hv
    · exact g2 hv
    · exact g3 hv
    · exact g4 hv
    · exact g5 hv
    · exact g6 hv
    · exact g7 hv
    · exact g8 hv
    · exact g9 hv
    · exact g10 hv
    · exact g11 hv
    · exact g12 hv
    · exact g13 hv
    · exact g14 hv
    · exact g15 hv
    · exact g16 hv
    · exact g17 hv
    · exact g18 hv
    · exact g19 hv
    · exact g20 hv
    · exact g21 hv
    · exact g22 hv
    · exact g23 hv
    · exact g24 hv
    · exact g25 hv
    · exact g26 hv
    · exact g27 hv
    · exact g28 hv
    · exact g29 hv
    · exact g30 hv
    · exact g31 hv
    · exact g32 hv
    · exact g33 hv
    · exact g34 hv
    · exact g35 hv
    · exact g36 hv
    · exact g37 hv
    · exact g38 hv
    · exact g39 hv
    · exact g40 hv
    · exact g41 hv
    · exact g42 hv
    · exact g43 hv
  exact K _ _ _ _ (S.2.2.2.2.2.2.2.2.2.2.2.2.2.2.2.2.2.2.2.2.2.2.2.2.2.2.2.2.2.2.2.2.2.2.2.2.2.2.2.2.2.2.2.2 j s c hj hR) I
set_option maxRecDepth 20000 in
set_option maxHeartbeats 4000000 in
theorem lw_loop {G : ky_GW} {b Ln : Nat} {xs : Nat → Int32} {Q : ky_RS → ky_HP → Prop} (N : Nat) (hG : ky_OK G) (hX : va_X b Ln xs G.2.1 G.2.1.heap) (hb : b < ky_B G) (hLn : Ln ≤ 3072) {R : Nat → sk_S → (Nat → Nat → Int32) → Prop} (hRx : ∀ j s c, R j s c → lw_X G s) (S : sm_all (ky_B G) N R)
    (hQ : ∀ j s c f h, j ≤ 512 → R j s c → lw_I G s c f h → Q (.inl (some (.int 1))) h) : ∀ (k j : Nat) (s : sk_S) (c : (Nat → Nat → Int32)) (f : Nat → Int64) (h : ky_HP) (i : Int32), Ln < 6 * (j + k) → 6 * j ≤ Ln → i.toInt = 6 * j → R j s c → lw_I G s c f h → ky_V G 61 M_law 23 [(0, .ref b), (1, .ref (ky_B G)), (2, .ref (ky_B G + 24)), (3, .ref (ky_B G + 37)), (4, .int i)] [] h Q := by
  intro k
  induction k with
  | zero => intro j s c f h i h1 h2; omega
  | succ k ih =>
    intro j s c f h i h1 h2 hi hR I
    refine v_iload (i := 13) (j := 4) rfl rfl (?_ : ky_V _ _ _ 25 _ _ _ _)
    refine v_aload_n (i := 14) (j := 0) rfl rfl (?_ : ky_V _ _ _ 26 _ _ _ _)
    refine v_slen hX hb (i := 15) rfl (?_ : ky_V _ _ _ 27 _ _ _ _)
    refine v_bipush (v := 6) (i := 16) rfl (by decide) (?_ : ky_V _ _ _ 29 _ _ _ _)
    refine v_isub (i := 17) rfl (?_ : ky_V _ _ _ 30 _ _ _ _)
    have e1 : (Int32.ofNat Ln - 6).toInt = Ln - 6 := by
      rw [nu_sub] <;> rw [nu_ofNat (by omega), show (6 : Int32).toInt = 6 from rfl] <;> omega
    refine v_icmp_gt (tgt := 2411) (i := 18) rfl (by decide) (fun g => ?_) (fun g => ?_)
    · refine v_iconst (v := 1) (i := 27) rfl (by decide) (?_ : ky_V _ _ _ 2412 _ _ _ _)
      refine v_iret (v := 1) (ty := .boolean) (i := 28) rfl rfl (by decide) ?_
      exact hQ j s c f h (by omega) hR I
    · have g1 : 6 * j + 6 ≤ Ln := by
        rw [Int32.lt_iff_toInt_lt, e1, hi] at g
        omega
      have e0 : vp_in i Ln := by
        have := lw_in (k := 0) (q := 0) hi rfl (by omega) g1 hLn
        rwa [Int32.add_zero] at this
      refine lw_body N hG hX hb hRx S (by omega) e0 (lw_in (q := 1) hi rfl (by omega) g1 hLn) (lw_in (q := 2) hi rfl (by omega) g1 hLn) (lw_in (q := 3) hi rfl (by omega) g1 hLn) (lw_in (q := 4) hi rfl (by omega) g1 hLn) (lw_in (q := 5) hi rfl (by omega) g1 hLn) hR I (fun s9 c9 f9 h9 hR9 I9 => ?_)
      obtain ⟨y, ey⟩ : ∃ z : Int32, z = i + 6 := ⟨_, rfl⟩
      refine v_iinc (v := y) (j := 4) (L' := [(0, .ref b), (1, .ref (ky_B G)), (2, .ref (ky_B G + 24)), (3, .ref (ky_B G + 37)), (4, .int y)]) [1, 2, 3, 4, 0] (i := 25) rfl rfl (by rw [ey]; rfl) (Nat.le_of_ble_eq_true rfl) rfl (?_ : ky_V _ _ _ 2408 _ _ _ _)
      refine v_goto (tgt := 23) (i := 26) rfl (by decide) (?_ : ky_V _ _ _ 23 _ _ _ _)
      refine ih (j + 1) s9 c9 f9 h9 y (by omega) (by omega) ?_ hR9 I9
      rw [ey, nu_add] <;> rw [hi, show (6 : Int32).toInt = 6 from rfl] <;> omega
