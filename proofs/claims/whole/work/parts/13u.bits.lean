/-! BITS OF LONGS: the rows wb_ are pasted from the kit's BITS; sets of cells; how many bits -/
theorem wb_tb (n : Nat) : (lN n).toBitVec = BitVec.ofNat 64 n := rfl
theorem wb_inj {a b : Int64} (h : a.toBitVec = b.toBitVec) : a = b := Int64.toBitVec_inj.mp h
theorem wb_tn {n : Nat} (h : n < 2 ^ 64) : (lN n).toBitVec.toNat = n := by rw [wb_tb, BitVec.toNat_ofNat, Nat.mod_eq_of_lt h]
theorem wb_of (x : Int64) : ∃ n, n < 2 ^ 64 ∧ x = lN n := ⟨x.toBitVec.toNat, x.toBitVec.isLt, wb_inj (by rw [wb_tb]; simp)⟩
theorem wb_c : ∀ k, k < 64 → ((nI k).toInt64 &&& 63) = lN k := by decide +kernel
theorem wb_cu : ∀ k, k < 64 → ((nI k).toInt64.toUInt64 &&& Int64.toUInt64 63) = UInt64.ofNat k := by decide +kernel
theorem wb_sm : ∀ k, k < 64 → (BitVec.ofNat 64 k).smod 64 = BitVec.ofNat 64 k := by decide +kernel
theorem wb_pw {a b : Nat} (h : a ≤ b) : 2 ^ b = 2 ^ a * 2 ^ (b - a) := by rw [← Nat.pow_add]; congr 1; omega
theorem wb_lt2 {a b : Nat} (h : a < b) : 2 ^ a < 2 ^ b := Nat.pow_lt_pow_right (by decide) h
theorem wb_mod (n : Nat) : lN n = lN (n % 2 ^ 64) := wb_inj (by rw [wb_tb, wb_tb]; apply BitVec.eq_of_toNat_eq; rw [BitVec.toNat_ofNat, BitVec.toNat_ofNat, Nat.mod_mod])
theorem wb_shr {n k : Nat} (hn : n < 2 ^ 64) (hk : k < 64) : ((lN n).toUInt64 >>> ((nI k).toInt64.toUInt64 &&& Int64.toUInt64 63)).toInt64 = lN (n / 2 ^ k) := by
  rw [wb_cu k hk]
  apply wb_inj
  apply BitVec.eq_of_toNat_eq
  show ((lN n).toUInt64 >>> UInt64.ofNat k).toNat = (BitVec.ofNat 64 _).toNat
  have h1 : (UInt64.ofNat k).toNat = k := by
    show (BitVec.ofNat 64 k).toNat = k
    rw [BitVec.toNat_ofNat, Nat.mod_eq_of_lt (by omega)]
  have h2 : (lN n).toUInt64.toNat = n := wb_tn hn
  rw [UInt64.toNat_shiftRight, h1, h2, Nat.mod_eq_of_lt hk, Nat.shiftRight_eq_div_pow, BitVec.toNat_ofNat, Nat.mod_eq_of_lt (Nat.lt_of_le_of_lt (Nat.div_le_self _ _) hn)]
theorem wb_shl (n : Nat) {k : Nat} (hk : k < 64) : lN n <<< ((nI k).toInt64 &&& 63) = lN (n * 2 ^ k) := by
  rw [wb_c k hk]
  apply wb_inj
  rw [Int64.toBitVec_shiftLeft, wb_tb, wb_tb, wb_tb, wb_sm k hk]
  apply BitVec.eq_of_toNat_eq
  rw [BitVec.shiftLeft_eq', BitVec.toNat_shiftLeft, BitVec.toNat_ofNat, BitVec.toNat_ofNat, BitVec.toNat_ofNat, Nat.mod_eq_of_lt (show k < 2 ^ 64 by omega), Nat.shiftLeft_eq, Nat.mul_mod, Nat.mod_mod, ← Nat.mul_mod]
theorem wb_and {a b : Nat} (ha : a < 2 ^ 64) (hb : b < 2 ^ 64) : lN a &&& lN b = lN (a &&& b) := by
  apply wb_inj
  rw [Int64.toBitVec_and, wb_tb, wb_tb, wb_tb]
  apply BitVec.eq_of_toNat_eq
  rw [BitVec.toNat_and, BitVec.toNat_ofNat, BitVec.toNat_ofNat, BitVec.toNat_ofNat, Nat.mod_eq_of_lt ha, Nat.mod_eq_of_lt hb, Nat.mod_eq_of_lt (Nat.and_lt_two_pow _ hb)]
theorem wb_or {a b : Nat} (ha : a < 2 ^ 64) (hb : b < 2 ^ 64) : lN a ||| lN b = lN (a ||| b) := by
  apply wb_inj
  rw [Int64.toBitVec_or, wb_tb, wb_tb, wb_tb]
  apply BitVec.eq_of_toNat_eq
  rw [BitVec.toNat_or, BitVec.toNat_ofNat, BitVec.toNat_ofNat, BitVec.toNat_ofNat, Nat.mod_eq_of_lt ha, Nat.mod_eq_of_lt hb, Nat.mod_eq_of_lt (Nat.or_lt_two_pow ha hb)]
theorem wb_mask {n k : Nat} (hn : n < 2 ^ 64) (hk : k < 64) : lN n &&& lN (2 ^ k - 1) = lN (n % 2 ^ k) := by
  rw [wb_and hn (by have := wb_lt2 hk; omega), Nat.and_two_pow_sub_one_eq_mod]
theorem wb_a1 {n : Nat} (hn : n < 2 ^ 64) : lN n &&& 1 = lN (n % 2) := wb_mask (k := 1) hn (by decide)
theorem wb_bit {n k : Nat} (hn : n < 2 ^ 64) (hk : k < 64) : ((lN n).toUInt64 >>> ((nI k).toInt64.toUInt64 &&& Int64.toUInt64 63)).toInt64 &&& 1 = lN (n / 2 ^ k % 2) := by
  rw [wb_shr hn hk, wb_a1 (Nat.lt_of_le_of_lt (Nat.div_le_self _ _) hn)]
def hb (x : Int64) (i : Nat) : Bool := x.toBitVec.toNat.testBit i
theorem hb_lN (m : Nat) {i : Nat} (hi : i < 64) : hb (lN m) i = m.testBit i := by
  unfold hb
  rw [wb_tb, BitVec.toNat_ofNat, Nat.testBit_mod_two_pow]
  simp [hi]
theorem hb_lNs {n : Nat} (hn : n < 2 ^ 64) (i : Nat) : hb (lN n) i = n.testBit i := by
  unfold hb
  rw [wb_tn hn]
theorem hb_big (x : Int64) {i : Nat} (hi : 64 ≤ i) : hb x i = false := by
  unfold hb
  exact Nat.testBit_lt_two_pow (Nat.lt_of_lt_of_le x.toBitVec.isLt (Nat.pow_le_pow_right (by decide) hi))
theorem hb_lt {x : Int64} {i : Nat} (h : hb x i = true) : i < 64 := by
  refine Nat.lt_of_not_le (fun q => ?_)
  rw [hb_big x q] at h
  cases h
theorem hb_ext {x y : Int64} (h : ∀ i, i < 64 → hb x i = hb y i) : x = y :=
  wb_inj (BitVec.eq_of_getLsbD_eq (fun i hi => h i hi))
theorem hb_or (x y : Int64) (i : Nat) : hb (x ||| y) i = (hb x i || hb y i) := by
  unfold hb
  rw [Int64.toBitVec_or, BitVec.toNat_or, Nat.testBit_or]
theorem hb_and (x y : Int64) (i : Nat) : hb (x &&& y) i = (hb x i && hb y i) := by
  unfold hb
  rw [Int64.toBitVec_and, BitVec.toNat_and, Nat.testBit_and]
theorem hb_m1 : ∀ k, k < 64 → hb (-1) k = true := by decide +kernel
theorem hb_not (x : Int64) {i : Nat} (hi : i < 64) : hb (x ^^^ (-1)) i = !hb x i := by
  have h1 := hb_m1 i hi
  unfold hb at *
  rw [Int64.toBitVec_xor, BitVec.toNat_xor, Nat.testBit_xor, h1]
  simp
theorem hb_0 (i : Nat) : hb 0 i = false := by unfold hb; simp
theorem hb_one {k : Nat} (hk : k < 64) (i : Nat) : hb (1 <<< (Int32.toInt64 (nI k) &&& 63)) i = decide (i = k) := by
  by_cases hi : i < 64
  · have e : ((1 : Int64) <<< (Int32.toInt64 (nI k) &&& 63)) = lN (1 * 2 ^ k) := wb_shl 1 hk
    rw [e, hb_lN _ hi, Nat.one_mul, Nat.testBit_two_pow]
    exact decide_eq_decide.mpr ⟨Eq.symm, Eq.symm⟩
  · rw [hb_big _ (by omega)]
    exact (decide_eq_false (by omega)).symm
theorem hb_has (x : Int64) {i : Nat} (hi : i < 64) : sh_has x (nI i) = if hb x i = true then 1 else 0 := by
  obtain ⟨n, hn, rfl⟩ := wb_of x
  unfold sh_has
  rw [wb_bit hn hi, hb_lN _ hi, Nat.testBit_eq_decide_div_mod_eq]
  generalize n / 2 ^ i = q
  have : q % 2 = 0 ∨ q % 2 = 1 := by omega
  rcases this with h | h <;> rw [h] <;> decide
theorem lg_0 (x y : Int64) : (lg_cmp x y = 0) = (x = y) := by
  refine propext ⟨fun h => ?_, fun h => by rw [h]; exact lg_self y⟩
  unfold lg_cmp at h
  split at h
  · exact absurd h (by decide)
  · split at h
    · assumption
    · exact absurd h (by decide)
theorem hb_mA : ∀ k, k < 64 → hb 9187201950435737471 k = decide (k % 8 ≠ 7) := by decide +kernel
theorem hb_mB : ∀ k, k < 64 → hb (-72340172838076674) k = decide (k % 8 ≠ 0) := by decide +kernel
theorem hb_shl (y : Int64) {k i : Nat} (hk : k < 64) (hi : i < 64) : hb (y <<< (Int32.toInt64 (nI k) &&& 63)) i = (decide (k ≤ i) && hb y (i - k)) := by
  obtain ⟨n, hn, rfl⟩ := wb_of y
  rw [wb_shl n hk, hb_lN _ hi, hb_lNs hn, Nat.testBit_mul_two_pow]
theorem hb_shr (y : Int64) {k i : Nat} (hk : k < 64) (hi : i < 64) : hb ((Int64.toUInt64 y >>> ((Int32.toInt64 (nI k)).toUInt64 &&& Int64.toUInt64 63)).toInt64) i = hb y (k + i) := by
  obtain ⟨n, hn, rfl⟩ := wb_of y
  rw [wb_shr hn hk, hb_lN _ hi, hb_lNs hn, Nat.testBit_div_two_pow, Nat.add_comm]
theorem hb_beside (x : Int64) {i : Nat} (hi : i < 64) : hb (sh_beside x) i = ((((decide (8 ≤ i) && hb x (i - 8)) || hb x (8 + i)) || (decide (1 ≤ i) && (hb x (i - 1) && decide ((i - 1) % 8 ≠ 7)))) || (hb x (1 + i) && decide ((1 + i) % 8 ≠ 0))) := by
  have e1 : hb (x <<< (Int32.toInt64 8 &&& 63)) i = (decide (8 ≤ i) && hb x (i - 8)) := hb_shl x (k := 8) (by decide) hi
  have e2 : hb ((Int64.toUInt64 x >>> ((Int32.toInt64 8).toUInt64 &&& Int64.toUInt64 63)).toInt64) i = hb x (8 + i) := hb_shr x (k := 8) (by decide) hi
  have e3 : hb ((x &&& 9187201950435737471) <<< (Int32.toInt64 1 &&& 63)) i = (decide (1 ≤ i) && hb (x &&& 9187201950435737471) (i - 1)) := hb_shl _ (k := 1) (by decide) hi
  have e4 : hb ((Int64.toUInt64 (x &&& (-72340172838076674)) >>> ((Int32.toInt64 1).toUInt64 &&& Int64.toUInt64 63)).toInt64) i = hb (x &&& (-72340172838076674)) (1 + i) := hb_shr _ (k := 1) (by decide) hi
  unfold sh_beside
  rw [hb_or, hb_or, hb_or, e1, e2, e3, e4, hb_and, hb_and, hb_mA _ (by omega)]
  congr 1
  by_cases h : 1 + i < 64
  · rw [hb_mB _ h]
  · rw [hb_big x (by omega)]; rfl
/-- cells side by side -/
def aj (a b : Nat) : Bool := decide (md_apart (nI a) (nI b) = 1)
theorem aj_N : ∀ a, a < 64 → ∀ b, b < 64 → aj a b = decide (b = a + 8 ∨ a = b + 8 ∨ (b = a + 1 ∧ b % 8 ≠ 0) ∨ (a = b + 1 ∧ a % 8 ≠ 0)) := by decide +kernel
theorem aj_sym {a b : Nat} (ha : a < 64) (hb' : b < 64) : aj a b = aj b a := by
  rw [aj_N a ha b hb', aj_N b hb' a ha]
  exact decide_eq_decide.mpr (by omega)
theorem hb_bes (x : Int64) {i : Nat} (hi : i < 64) : hb (sh_beside x) i = true ↔ ∃ d, d < 64 ∧ aj d i = true ∧ hb x d = true := by
  rw [hb_beside x hi]
  simp only [Bool.or_eq_true, Bool.and_eq_true, decide_eq_true_eq]
  constructor
  · rintro (((⟨h1, h2⟩ | h2) | ⟨h1, h2, h3⟩) | ⟨h2, h3⟩)
    · exact ⟨i - 8, by omega, by rw [aj_N _ (by omega) _ hi]; exact decide_eq_true (by omega), h2⟩
    · have := hb_lt h2
      exact ⟨8 + i, this, by rw [aj_N _ this _ hi]; exact decide_eq_true (by omega), h2⟩
    · exact ⟨i - 1, by omega, by rw [aj_N _ (by omega) _ hi]; exact decide_eq_true (by omega), h2⟩
    · have := hb_lt h2
      exact ⟨1 + i, this, by rw [aj_N _ this _ hi]; exact decide_eq_true (by omega), h2⟩
  · rintro ⟨d, hd, ha, hx⟩
    rw [aj_N d hd i hi, decide_eq_true_eq] at ha
    rcases ha with rfl | rfl | ⟨rfl, h⟩ | ⟨rfl, h⟩
    · exact .inl (.inl (.inl ⟨by omega, by rw [Nat.add_sub_cancel]; exact hx⟩))
    · exact .inl (.inl (.inr (by rw [Nat.add_comm]; exact hx)))
    · exact .inl (.inr ⟨by omega, by rw [Nat.add_sub_cancel]; exact hx, by omega⟩)
    · exact .inr ⟨by rw [Nat.add_comm]; exact hx, by omega⟩
/-! how many bits -/
def bc1 (p : Int64) : Int64 := p - ((Int64.toUInt64 p >>> ((Int32.toInt64 1).toUInt64 &&& Int64.toUInt64 63)).toInt64 &&& 6148914691236517205)
def bc2 (p : Int64) : Int64 := (p &&& 3689348814741910323) + ((Int64.toUInt64 p >>> ((Int32.toInt64 2).toUInt64 &&& Int64.toUInt64 63)).toInt64 &&& 3689348814741910323)
def bc3 (p : Int64) : Int64 := (p + (Int64.toUInt64 p >>> ((Int32.toInt64 4).toUInt64 &&& Int64.toUInt64 63)).toInt64) &&& 1085102592571150095
def bc4 (p : Int64) : Int64 := p + (Int64.toUInt64 p >>> ((Int32.toInt64 8).toUInt64 &&& Int64.toUInt64 63)).toInt64
def bc5 (p : Int64) : Int64 := p + (Int64.toUInt64 p >>> ((Int32.toInt64 16).toUInt64 &&& Int64.toUInt64 63)).toInt64
def bc6 (p : Int64) : Int64 := p + (Int64.toUInt64 p >>> ((Int32.toInt64 32).toUInt64 &&& Int64.toUInt64 63)).toInt64
theorem bc_d (p : Int64) : jl_bitCount p = (Int64.toInt32 (bc6 (bc5 (bc4 (bc3 (bc2 (bc1 p)))))) &&& 127) := by
  unfold bc6 bc5 bc4 bc3 bc2 bc1 jl_bitCount
  rfl
def bn1 (c n : Nat) : Nat := n - (n / 2 &&& c)
def bn2 (c n : Nat) : Nat := (n &&& c) + (n / 4 &&& c)
def bn3 (c n : Nat) : Nat := (n + n / 16) &&& c
def brep (k : Nat) : Nat → Nat
  | 0 => 0
  | m + 1 => k + 256 * brep k m
def bF (m n : Nat) : Nat := bn3 (brep 15 m) (bn2 (brep 51 m) (bn1 (brep 85 m) n))
theorem b_and256 {a c x y : Nat} (ha : a < 256) (hc : c < 256) : (a + 256 * x) &&& (c + 256 * y) = (a &&& c) + 256 * (x &&& y) := by
  have h1 : ((a + 256 * x) &&& (c + 256 * y)) % 2 ^ 8 = (a + 256 * x) % 2 ^ 8 &&& (c + 256 * y) % 2 ^ 8 := Nat.and_mod_two_pow
  have h2 : ((a + 256 * x) &&& (c + 256 * y)) / 2 ^ 8 = (a + 256 * x) / 2 ^ 8 &&& (c + 256 * y) / 2 ^ 8 := Nat.and_div_two_pow
  rw [show (a + 256 * x) % 2 ^ 8 = a by omega, show (c + 256 * y) % 2 ^ 8 = c by omega] at h1
  rw [show (a + 256 * x) / 2 ^ 8 = x by omega, show (c + 256 * y) / 2 ^ 8 = y by omega] at h2
  omega
theorem b_f1 : ∀ b, b < 256 → ∀ r, r < 2 → (b / 2 + 128 * r) &&& 85 = b / 2 &&& 85 := by decide +kernel
theorem b_f2 : ∀ b, b < 256 → ∀ r, r < 4 → (b / 4 + 64 * r) &&& 51 = b / 4 &&& 51 := by decide +kernel
theorem b_P : ∀ b, b < 256 → bn3 15 (bn2 51 (bn1 85 b)) = fb_ct (fun k => b.testBit k) 8 := by decide +kernel
theorem b_s1 (m b q : Nat) (hb' : b < 256) : bn1 (brep 85 (m + 1)) (b + 256 * q) = bn1 85 b + 256 * bn1 (brep 85 m) q := by
  unfold bn1
  rw [show brep 85 (m + 1) = 85 + 256 * brep 85 m from rfl, show (b + 256 * q) / 2 = (b / 2 + 128 * (q % 2)) + 256 * (q / 2) by omega, b_and256 (by omega) (by decide), b_f1 b hb' _ (by omega)]
  have h1 : b / 2 &&& 85 ≤ b / 2 := Nat.and_le_left
  have h2 : q / 2 &&& brep 85 m ≤ q / 2 := Nat.and_le_left
  omega
theorem b_l1 {b : Nat} (h : b < 256) : bn1 85 b < 256 := by unfold bn1; omega
theorem b_s2 (m b q : Nat) (hb' : b < 256) : bn2 (brep 51 (m + 1)) (b + 256 * q) = bn2 51 b + 256 * bn2 (brep 51 m) q := by
  unfold bn2
  rw [show brep 51 (m + 1) = 51 + 256 * brep 51 m from rfl, show (b + 256 * q) / 4 = (b / 4 + 64 * (q % 4)) + 256 * (q / 4) by omega, b_and256 hb' (by decide), b_and256 (by omega) (by decide), b_f2 b hb' _ (by omega)]
  omega
theorem b_l2 (b : Nat) : bn2 51 b ≤ 102 := by
  unfold bn2
  have h1 : b &&& 51 ≤ 51 := Nat.and_le_right
  have h2 : b / 4 &&& 51 ≤ 51 := Nat.and_le_right
  omega
theorem b_n2 (m z : Nat) : bn2 (brep 51 m) z % 16 ≤ 6 := by
  have c : brep 51 m % 2 ^ 4 ≤ 3 := by
    cases m with
    | zero => decide
    | succ m => unfold brep; omega
  have h : ∀ y, (y &&& brep 51 m) % 16 ≤ 3 := fun y => by
    have h1 : (y &&& brep 51 m) % 2 ^ 4 = y % 2 ^ 4 &&& brep 51 m % 2 ^ 4 := Nat.and_mod_two_pow
    have h2 : y % 2 ^ 4 &&& brep 51 m % 2 ^ 4 ≤ brep 51 m % 2 ^ 4 := Nat.and_le_right
    omega
  have h1 := h z
  have h2 := h (z / 4)
  unfold bn2
  omega
theorem b_s3 (m b q : Nat) (hb' : b ≤ 102) (hq : q % 16 ≤ 6) : bn3 (brep 15 (m + 1)) (b + 256 * q) = bn3 15 b + 256 * bn3 (brep 15 m) q := by
  unfold bn3
  rw [show brep 15 (m + 1) = 15 + 256 * brep 15 m from rfl, show (b + 256 * q) + (b + 256 * q) / 16 = (b + b / 16 + 16 * (q % 16)) + 256 * (q + q / 16) by omega, b_and256 (by omega) (by decide)]
  have m1 : ∀ x, x &&& 15 = x % 2 ^ 4 := fun x => Nat.and_two_pow_sub_one_eq_mod x 4
  rw [m1, m1]
  omega
def bdig : Nat → Nat → Nat
  | 0, _ => 0
  | m + 1, n => fb_ct (fun k => (n % 256).testBit k) 8 + 256 * bdig m (n / 256)
def bsum : Nat → Nat → Nat
  | 0, _ => 0
  | m + 1, n => fb_ct (fun k => (n % 256).testBit k) 8 + bsum m (n / 256)
theorem b_dig : ∀ m n, n < 256 ^ m → bF m n = bdig m n
  | 0, n, h => by
    have : n = 0 := by have : (256 : Nat) ^ 0 = 1 := rfl; omega
    subst this
    decide
  | m + 1, n, h => by
    have e : n = n % 256 + 256 * (n / 256) := by omega
    have h0 : n % 256 < 256 := by omega
    have hq : n / 256 < 256 ^ m := by rw [Nat.pow_succ] at h; omega
    rw [bdig, ← b_dig m (n / 256) hq, ← b_P (n % 256) h0]
    unfold bF
    generalize n % 256 = b at *
    generalize n / 256 = q at *
    rw [e, b_s1 m b q h0, b_s2 m _ _ (b_l1 h0), b_s3 m _ _ (b_l2 _) (b_n2 _ _)]
theorem b_sum : ∀ m n, fb_ct (fun k => n.testBit k) (8 * m) = bsum m n
  | 0, n => rfl
  | m + 1, n => by
    rw [show 8 * (m + 1) = 8 + 8 * m by omega, fb_ct_split, bsum, ← b_sum m (n / 256)]
    have h1 : fb_ct (fun k => n.testBit k) 8 = fb_ct (fun k => (n % 256).testBit k) 8 := fb_ct_cong (fun k hk => by
      have := Nat.testBit_mod_two_pow n 8 k
      rw [show n % 256 = n % 2 ^ 8 from rfl, this]
      simp [hk])
    have h2 : fb_ct (fun k => n.testBit (8 + k)) (8 * m) = fb_ct (fun k => (n / 256).testBit k) (8 * m) := fb_ct_cong (fun k hk => by
      have : (n / 2 ^ 8).testBit k = n.testBit (k + 8) := Nat.testBit_div_two_pow n k
      rw [show n / 256 = n / 2 ^ 8 from rfl, this, Nat.add_comm])
    rw [h1, h2]
theorem b_tot8 {a0 a1 a2 a3 a4 a5 a6 a7 v3 : Nat} (l0 : a0 ≤ 8) (l1 : a1 ≤ 8) (l2 : a2 ≤ 8) (l3 : a3 ≤ 8) (l4 : a4 ≤ 8) (l5 : a5 ≤ 8) (l6 : a6 ≤ 8) (l7 : a7 ≤ 8) (h : v3 = a0 + 256 * (a1 + 256 * (a2 + 256 * (a3 + 256 * (a4 + 256 * (a5 + 256 * (a6 + 256 * (a7 + 256 * 0)))))))) : ((v3 + v3 / 256) + (v3 + v3 / 256) / 65536 + ((v3 + v3 / 256) + (v3 + v3 / 256) / 65536) / 4294967296) % 128 = a0 + (a1 + (a2 + (a3 + (a4 + (a5 + (a6 + (a7 + 0))))))) := by
  have e1 : v3 / 256 = a1 + 256 * (a2 + 256 * (a3 + 256 * (a4 + 256 * (a5 + 256 * (a6 + 256 * a7))))) := by omega
  generalize e4 : v3 + v3 / 256 = v4
  have e4' : v4 = (a0 + a1) + 256 * ((a1 + a2) + 256 * ((a2 + a3) + 256 * ((a3 + a4) + 256 * ((a4 + a5) + 256 * ((a5 + a6) + 256 * ((a6 + a7) + 256 * a7)))))) := by omega
  clear e4 e1 h
  have e5 : v4 / 65536 = (a2 + a3) + 256 * ((a3 + a4) + 256 * ((a4 + a5) + 256 * ((a5 + a6) + 256 * ((a6 + a7) + 256 * a7)))) := by omega
  generalize e6 : v4 + v4 / 65536 = v5
  have e6' : v5 = (a0 + a1 + a2 + a3) + 256 * ((a1 + a2 + a3 + a4) + 256 * ((a2 + a3 + a4 + a5) + 256 * ((a3 + a4 + a5 + a6) + 256 * ((a4 + a5 + a6 + a7) + 256 * ((a5 + a6 + a7) + 256 * ((a6 + a7) + 256 * a7)))))) := by omega
  clear e6 e5 e4'
  have e7 : v5 / 4294967296 = (a4 + a5 + a6 + a7) + 256 * ((a5 + a6 + a7) + 256 * ((a6 + a7) + 256 * a7)) := by omega
  omega
theorem bdig_s (m n : Nat) : bdig (m + 1) n = fb_ct (fun k => (n % 256).testBit k) 8 + 256 * bdig m (n / 256) := rfl
theorem bsum_s (m n : Nat) : bsum (m + 1) n = fb_ct (fun k => (n % 256).testBit k) 8 + bsum m (n / 256) := rfl
theorem b_ex (n : Nat) : ∀ m, ∃ a d s, a ≤ 8 ∧ bdig (m + 1) n = a + 256 * d ∧ bsum (m + 1) n = a + s ∧ d = bdig m (n / 256) ∧ s = bsum m (n / 256) := fun m =>
  ⟨_, _, _, fb_ct_le (fun k => (n % 256).testBit k) 8, bdig_s m n, bsum_s m n, rfl, rfl⟩
theorem b_tot {n v3 : Nat} (h : v3 = bdig 8 n) : ((v3 + v3 / 256) + (v3 + v3 / 256) / 65536 + ((v3 + v3 / 256) + (v3 + v3 / 256) / 65536) / 4294967296) % 128 = bsum 8 n := by
  obtain ⟨a0, d0, s0, l0, x0, y0, u0, w0⟩ := b_ex n 7
  obtain ⟨a1, d1, s1, l1, x1, y1, u1, w1⟩ := b_ex (n / 256) 6
  obtain ⟨a2, d2, s2, l2, x2, y2, u2, w2⟩ := b_ex (n / 256 / 256) 5
  obtain ⟨a3, d3, s3, l3, x3, y3, u3, w3⟩ := b_ex (n / 256 / 256 / 256) 4
  obtain ⟨a4, d4, s4, l4, x4, y4, u4, w4⟩ := b_ex (n / 256 / 256 / 256 / 256) 3
  obtain ⟨a5, d5, s5, l5, x5, y5, u5, w5⟩ := b_ex (n / 256 / 256 / 256 / 256 / 256) 2
  obtain ⟨a6, d6, s6, l6, x6, y6, u6, w6⟩ := b_ex (n / 256 / 256 / 256 / 256 / 256 / 256) 1
  obtain ⟨a7, d7, s7, l7, x7, y7, u7, w7⟩ := b_ex (n / 256 / 256 / 256 / 256 / 256 / 256 / 256) 0
  have z7 : d7 = 0 := u7
  have z7' : s7 = 0 := w7
  have e6 : d6 = a7 + 256 * d7 := u6.trans x7
  have f6 : s6 = a7 + s7 := w6.trans y7
  have e5 : d5 = a6 + 256 * d6 := u5.trans x6
  have f5 : s5 = a6 + s6 := w5.trans y6
  have e4 : d4 = a5 + 256 * d5 := u4.trans x5
  have f4 : s4 = a5 + s5 := w4.trans y5
  have e3 : d3 = a4 + 256 * d4 := u3.trans x4
  have f3 : s3 = a4 + s4 := w3.trans y4
  have e2 : d2 = a3 + 256 * d3 := u2.trans x3
  have f2 : s2 = a3 + s3 := w2.trans y3
  have e1 : d1 = a2 + 256 * d2 := u1.trans x2
  have f1 : s1 = a2 + s2 := w1.trans y2
  have e0 : d0 = a1 + 256 * d1 := u0.trans x1
  have f0 : s0 = a1 + s1 := w0.trans y1
  have hv : v3 = a0 + 256 * d0 := h.trans x0
  have hs : bsum 8 n = a0 + s0 := y0
  rw [hs, f0, f1, f2, f3, f4, f5, f6, z7']
  refine b_tot8 l0 l1 l2 l3 l4 l5 l6 l7 ?_
  rw [hv, e0, e1, e2, e3, e4, e5, e6, z7]
theorem bc_ok (x : Int64) : jl_bitCount x = nI (fb_ct (hb x) 64) := by
  obtain ⟨n, hn, rfl⟩ := wb_of x
  have r5 : brep 85 8 = 6148914691236517205 := by decide
  have r3 : brep 51 8 = 3689348814741910323 := by decide
  have rF : brep 15 8 = 1085102592571150095 := by decide
  have s1 : bc1 (lN n) = lN (bn1 (brep 85 8) n) := by
    have a1 : (Int64.toUInt64 (lN n) >>> ((Int32.toInt64 1).toUInt64 &&& Int64.toUInt64 63)).toInt64 = lN (n / 2 ^ 1) := wb_shr hn (k := 1) (by decide)
    have a2 : lN (n / 2 ^ 1) &&& 6148914691236517205 = lN (n / 2 ^ 1 &&& 6148914691236517205) := wb_and (b := 6148914691236517205) (by omega) (by decide)
    unfold bc1 bn1
    rw [a1, a2, r5]
    exact lN_sub (Nat.le_trans Nat.and_le_left (Nat.div_le_self _ _))
  generalize g1 : bn1 (brep 85 8) n = n1 at s1
  have h1 : n1 < 2 ^ 64 := by rw [← g1]; unfold bn1; omega
  have s2 : bc2 (lN n1) = lN (bn2 (brep 51 8) n1) := by
    have a1 : (Int64.toUInt64 (lN n1) >>> ((Int32.toInt64 2).toUInt64 &&& Int64.toUInt64 63)).toInt64 = lN (n1 / 2 ^ 2) := wb_shr h1 (k := 2) (by decide)
    have a2 : lN (n1 / 2 ^ 2) &&& 3689348814741910323 = lN (n1 / 2 ^ 2 &&& 3689348814741910323) := wb_and (b := 3689348814741910323) (by omega) (by decide)
    have a3 : lN n1 &&& 3689348814741910323 = lN (n1 &&& 3689348814741910323) := wb_and (b := 3689348814741910323) h1 (by decide)
    unfold bc2 bn2
    rw [a1, a2, a3, r3, lN_add]
  generalize g2 : bn2 (brep 51 8) n1 = n2 at s2
  have h2 : n2 ≤ 7378697629483820646 := by
    rw [← g2, r3]
    unfold bn2
    have u1 : n1 &&& 3689348814741910323 ≤ 3689348814741910323 := Nat.and_le_right
    have u2 : n1 / 4 &&& 3689348814741910323 ≤ 3689348814741910323 := Nat.and_le_right
    omega
  have s3 : bc3 (lN n2) = lN (bn3 (brep 15 8) n2) := by
    have a1 : (Int64.toUInt64 (lN n2) >>> ((Int32.toInt64 4).toUInt64 &&& Int64.toUInt64 63)).toInt64 = lN (n2 / 2 ^ 4) := wb_shr (by omega) (k := 4) (by decide)
    have a2 : lN (n2 + n2 / 2 ^ 4) &&& 1085102592571150095 = lN ((n2 + n2 / 2 ^ 4) &&& 1085102592571150095) := wb_and (b := 1085102592571150095) (by omega) (by decide)
    unfold bc3 bn3
    rw [a1, lN_add, a2, rF]
  generalize g3 : bn3 (brep 15 8) n2 = n3 at s3
  have h3 : n3 ≤ 1085102592571150095 := by
    rw [← g3, rF]
    unfold bn3
    exact Nat.and_le_right
  have s4 : bc4 (lN n3) = lN (n3 + n3 / 256) := by
    have a1 : (Int64.toUInt64 (lN n3) >>> ((Int32.toInt64 8).toUInt64 &&& Int64.toUInt64 63)).toInt64 = lN (n3 / 2 ^ 8) := wb_shr (by omega) (k := 8) (by decide)
    unfold bc4
    rw [a1, lN_add]
  generalize g4 : n3 + n3 / 256 = n4 at s4
  have s5 : bc5 (lN n4) = lN (n4 + n4 / 65536) := by
    have a1 : (Int64.toUInt64 (lN n4) >>> ((Int32.toInt64 16).toUInt64 &&& Int64.toUInt64 63)).toInt64 = lN (n4 / 2 ^ 16) := wb_shr (by omega) (k := 16) (by decide)
    unfold bc5
    rw [a1, lN_add]
  generalize g5 : n4 + n4 / 65536 = n5 at s5
  have s6 : bc6 (lN n5) = lN (n5 + n5 / 4294967296) := by
    have a1 : (Int64.toUInt64 (lN n5) >>> ((Int32.toInt64 32).toUInt64 &&& Int64.toUInt64 63)).toInt64 = lN (n5 / 2 ^ 32) := wb_shr (by omega) (k := 32) (by decide)
    unfold bc6
    rw [a1, lN_add]
  have t : (n5 + n5 / 4294967296) % 128 = bsum 8 n := by
    have e3 : n3 = bdig 8 n := by
      have := b_dig 8 n (by have : (256 : Nat) ^ 8 = 2 ^ 64 := by decide
                            omega)
      unfold bF at this
      rw [g1, g2, g3] at this
      exact this
    have := b_tot e3
    rw [g4, g5] at this
    exact this
  have u : fb_ct (hb (lN n)) 64 = bsum 8 n := by
    rw [← b_sum 8 n]
    exact fb_ct_cong (fun k _ => hb_lNs hn k)
  have mk : ∀ z, nI z &&& 127 = nI (z % 2 ^ 7) := fun z => fa_mask z 7
  rw [bc_d, s1, s2, s3, s4, s5, s6, lN_i, mk, u, ← t]
