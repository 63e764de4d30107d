/-! the layer's rows for Math -/
def mt_min (x y : Int32) : Int32 := if y < x then y else x
def mt_max (x y : Int32) : Int32 := if x < y then y else x
def mt_abs (x : Int32) : Int32 := if 0 ≤ x then x else 0 - x
section
variable {G : ky_GW} {d : Nat} {M : ky_MT} {pc : Nat} {L : List (Nat × Value)} {S : List Value} {h : ky_HP} {Q : ky_RS → ky_HP → Prop} {i idx : Nat} {x y : Int32}
theorem v_mmin (hlink : ky_T (.methodLink M.1.cls idx Lib.Math.min.name)) (hstat : ky_T (.static Lib.Math.min.name)) (hini : ky_T (.initialized "java/lang/Math")) (hcode : ky_T (.code Lib.Math.min.name Lib.Math.min.code 2 (some .int))) (hi : M.2.2.2.2.1[i]? = some (pc, .invokestatic idx, 3)) (hS : (S.map fun v => v.category).sum ≤ 8) (K : ky_V G (d + 1) M (pc + 3) L (.int (mt_min x y) :: S) h Q) : ky_V G (d + 1) M pc L (.int y :: .int x :: S) h Q :=
  ky_gen (h1 := h) ⟨Nat.le_refl _, Nat.le_refl _⟩ (fun p e R s m args below meth c H locs cells slots ls Qr X hl hH hL hc hs K => by
    rw [Nat.sub_self] at K hc
    rw [Nat.sub_self] at K hs
    have hf := X.2.2.2.2.2.2.2.2.2.2.2.1
    have hlo := X.2.2.2.2.2.2.2.2.2.2.2.2.1
    exact va_mmin X.2.1 X.2.2.1 (X.2.2.2.1.trans hl.1.symm) X.2.2.2.2.2.2.1 (ky_w X hlink args) (ky_w X hstat args) (ky_w X hini args) (ky_w X hcode args) (by omega) (by omega) hc hs (ky_dec X hi) (K ls H locs hl hH hL)) K
theorem v_mmax (hlink : ky_T (.methodLink M.1.cls idx Lib.Math.max.name)) (hstat : ky_T (.static Lib.Math.max.name)) (hini : ky_T (.initialized "java/lang/Math")) (hcode : ky_T (.code Lib.Math.max.name Lib.Math.max.code 2 (some .int))) (hi : M.2.2.2.2.1[i]? = some (pc, .invokestatic idx, 3)) (hS : (S.map fun v => v.category).sum ≤ 8) (K : ky_V G (d + 1) M (pc + 3) L (.int (mt_max x y) :: S) h Q) : ky_V G (d + 1) M pc L (.int y :: .int x :: S) h Q :=
  ky_gen (h1 := h) ⟨Nat.le_refl _, Nat.le_refl _⟩ (fun p e R s m args below meth c H locs cells slots ls Qr X hl hH hL hc hs K => by
    rw [Nat.sub_self] at K hc
    rw [Nat.sub_self] at K hs
    have hf := X.2.2.2.2.2.2.2.2.2.2.2.1
    have hlo := X.2.2.2.2.2.2.2.2.2.2.2.2.1
    exact va_mmax X.2.1 X.2.2.1 (X.2.2.2.1.trans hl.1.symm) X.2.2.2.2.2.2.1 (ky_w X hlink args) (ky_w X hstat args) (ky_w X hini args) (ky_w X hcode args) (by omega) (by omega) hc hs (ky_dec X hi) (K ls H locs hl hH hL)) K
theorem v_mabs (hlink : ky_T (.methodLink M.1.cls idx Lib.Math.abs.name)) (hstat : ky_T (.static Lib.Math.abs.name)) (hini : ky_T (.initialized "java/lang/Math")) (hcode : ky_T (.code Lib.Math.abs.name Lib.Math.abs.code 1 (some .int))) (hi : M.2.2.2.2.1[i]? = some (pc, .invokestatic idx, 3)) (hS : (S.map fun v => v.category).sum ≤ 8) (K : ky_V G (d + 1) M (pc + 3) L (.int (mt_abs x) :: S) h Q) : ky_V G (d + 1) M pc L (.int x :: S) h Q :=
  ky_gen (h1 := h) ⟨Nat.le_refl _, Nat.le_refl _⟩ (fun p e R s m args below meth c H locs cells slots ls Qr X hl hH hL hc hs K => by
    rw [Nat.sub_self] at K hc
    rw [Nat.sub_self] at K hs
    have hf := X.2.2.2.2.2.2.2.2.2.2.2.1
    have hlo := X.2.2.2.2.2.2.2.2.2.2.2.2.1
    exact va_mabs X.2.1 X.2.2.1 (X.2.2.2.1.trans hl.1.symm) X.2.2.2.2.2.2.1 (ky_w X hlink args) (ky_w X hstat args) (ky_w X hini args) (ky_w X hcode args) (by omega) (by omega) hc hs (ky_dec X hi) (K ls H locs hl hH hL)) K
end
