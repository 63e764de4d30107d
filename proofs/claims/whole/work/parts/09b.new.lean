def ky_om {α β : Type} (x : Option α) (A : β) (B : α → β) : β := match x with
  | none => A
  | some v => B v
theorem ky_omN {α β : Type} {x : Option α} {A r : β} {B : α → β} (h : x = none) (e : ky_om x A B = r) : A = r := by rw [h] at e; exact e
theorem ky_omS {α β : Type} {x : Option α} {v : α} {A r : β} {B : α → β} (h : x = some v) (e : ky_om x A B = r) : B v = r := by rw [h] at e; exact e
theorem ky_omE {α β : Type} {x : Option α} {r : β} {B : α → Option β} (e : ky_om x none B = some r) : ∃ v, x = some v ∧ B v = some r := by
  cases x with
  | none => cases e
  | some v => exact ⟨v, rfl, e⟩

theorem nw_X0 {G : ky_GW} {d : Nat} {M : ky_MT} {pc : Nat} {L : List (Nat × Value)} {S : List Value} {h : ky_HP} {Q : ky_RS → ky_HP → Prop} {i idx : Nat} (hcl : ky_T (.classLink M.1.cls idx "WaistSand$BeachReader")) (hi : M.2.2.2.2.1[i]? = some (pc, .new idx, 3)) (K : ky_V G d M (pc + 3) L (.ref (ky_B G + h.2.1) :: S) (ky_nw G h (.inr (0, [.null, .null, .int 0, .int 0, .int 0])) 5) Q) : ky_V G d M pc L S h Q :=
  v_new iw_X0 tyX0 tyX0_ok rfl hcl (ky_t1 (i := 66) rfl rfl) (ky_t1 (i := 3) rfl rfl) (fun j hj => by
    match j, hj with
    | 0, _ => rfl
    | 1, _ => rfl
    | 2, _ => rfl
    | 3, _ => rfl
    | 4, _ => rfl
    | n + 5, h => exact absurd h (by omega)) hi K
theorem nw_X1 {G : ky_GW} {d : Nat} {M : ky_MT} {pc : Nat} {L : List (Nat × Value)} {S : List Value} {h : ky_HP} {Q : ky_RS → ky_HP → Prop} {i idx : Nat} (hcl : ky_T (.classLink M.1.cls idx "WaistSand$Body")) (hi : M.2.2.2.2.1[i]? = some (pc, .new idx, 3)) (K : ky_V G d M (pc + 3) L (.ref (ky_B G + h.2.1) :: S) (ky_nw G h (.inr (1, [.int 0, .int 0, .int 0, .int 0, .int 0, .int 0, .int 0, .int 0])) 8) Q) : ky_V G d M pc L S h Q :=
  v_new iw_X1 tyX1 tyX1_ok rfl hcl (ky_t1 (i := 123) rfl rfl) (ky_t1 (i := 6) rfl rfl) (fun j hj => by
    match j, hj with
    | 0, _ => rfl
    | 1, _ => rfl
    | 2, _ => rfl
    | 3, _ => rfl
    | 4, _ => rfl
    | 5, _ => rfl
    | 6, _ => rfl
    | 7, _ => rfl
    | n + 8, h => exact absurd h (by omega)) hi K
theorem nw_X2 {G : ky_GW} {d : Nat} {M : ky_MT} {pc : Nat} {L : List (Nat × Value)} {S : List Value} {h : ky_HP} {Q : ky_RS → ky_HP → Prop} {i idx : Nat} (hcl : ky_T (.classLink M.1.cls idx "WaistSand$Diary")) (hi : M.2.2.2.2.1[i]? = some (pc, .new idx, 3)) (K : ky_V G d M (pc + 3) L (.ref (ky_B G + h.2.1) :: S) (ky_nw G h (.inr (2, [.null, .int 0, .int 0])) 3) Q) : ky_V G d M pc L S h Q :=
  v_new iw_X2 tyX2 tyX2_ok rfl hcl (ky_t1 (i := 231) rfl rfl) (ky_t1 (i := 10) rfl rfl) (fun j hj => by
    match j, hj with
    | 0, _ => rfl
    | 1, _ => rfl
    | 2, _ => rfl
    | n + 3, h => exact absurd h (by omega)) hi K
theorem nw_X3 {G : ky_GW} {d : Nat} {M : ky_MT} {pc : Nat} {L : List (Nat × Value)} {S : List Value} {h : ky_HP} {Q : ky_RS → ky_HP → Prop} {i idx : Nat} (hcl : ky_T (.classLink M.1.cls idx "WaistSand$Law")) (hi : M.2.2.2.2.1[i]? = some (pc, .new idx, 3)) (K : ky_V G d M (pc + 3) L (.ref (ky_B G + h.2.1) :: S) (ky_nw G h (.inr (3, [.int 0, .null, .null, .null, .null, .null, .int 0, .int 0, .int 0, .int 0])) 10) Q) : ky_V G d M pc L S h Q :=
  v_new iw_X3 tyX3 tyX3_ok rfl hcl (ky_t2 (i := 222) rfl rfl) (ky_t1 (i := 23) rfl rfl) (fun j hj => by
    match j, hj with
    | 0, _ => rfl
    | 1, _ => rfl
    | 2, _ => rfl
    | 3, _ => rfl
    | 4, _ => rfl
    | 5, _ => rfl
    | 6, _ => rfl
    | 7, _ => rfl
    | 8, _ => rfl
    | 9, _ => rfl
    | n + 10, h => exact absurd h (by omega)) hi K
theorem nw_X4 {G : ky_GW} {d : Nat} {M : ky_MT} {pc : Nat} {L : List (Nat × Value)} {S : List Value} {h : ky_HP} {Q : ky_RS → ky_HP → Prop} {i idx : Nat} (hcl : ky_T (.classLink M.1.cls idx "WaistSand$LawReader")) (hi : M.2.2.2.2.1[i]? = some (pc, .new idx, 3)) (K : ky_V G d M (pc + 3) L (.ref (ky_B G + h.2.1) :: S) (ky_nw G h (.inr (4, [.null, .null, .null, .null, .null, .int 0, .int 0])) 7) Q) : ky_V G d M pc L S h Q :=
  v_new iw_X4 tyX4 tyX4_ok rfl hcl (ky_t1 (i := 89) rfl rfl) (ky_t1 (i := 4) rfl rfl) (fun j hj => by
    match j, hj with
    | 0, _ => rfl
    | 1, _ => rfl
    | 2, _ => rfl
    | 3, _ => rfl
    | 4, _ => rfl
    | 5, _ => rfl
    | 6, _ => rfl
    | n + 7, h => exact absurd h (by omega)) hi K
theorem nw_X6 {G : ky_GW} {d : Nat} {M : ky_MT} {pc : Nat} {L : List (Nat × Value)} {S : List Value} {h : ky_HP} {Q : ky_RS → ky_HP → Prop} {i idx : Nat} (hcl : ky_T (.classLink M.1.cls idx "WaistSand$Rules")) (hi : M.2.2.2.2.1[i]? = some (pc, .new idx, 3)) (K : ky_V G d M (pc + 3) L (.ref (ky_B G + h.2.1) :: S) (ky_nw G h (.inr (5, [.null, .null])) 2) Q) : ky_V G d M pc L S h Q :=
  v_new iw_X6 tyX6 tyX6_ok rfl hcl (ky_t1 (i := 169) rfl rfl) (ky_t1 (i := 7) rfl rfl) (fun j hj => by
    match j, hj with
    | 0, _ => rfl
    | 1, _ => rfl
    | n + 2, h => exact absurd h (by omega)) hi K
theorem nw_X7 {G : ky_GW} {d : Nat} {M : ky_MT} {pc : Nat} {L : List (Nat × Value)} {S : List Value} {h : ky_HP} {Q : ky_RS → ky_HP → Prop} {i idx : Nat} (hcl : ky_T (.classLink M.1.cls idx "WaistSand$Scene")) (hi : M.2.2.2.2.1[i]? = some (pc, .new idx, 3)) (K : ky_V G d M (pc + 3) L (.ref (ky_B G + h.2.1) :: S) (ky_nw G h (.inr (6, [.null, .null, .null, .null, .int 0])) 5) Q) : ky_V G d M pc L S h Q :=
  v_new iw_X7 tyX7 tyX7_ok rfl hcl (ky_t1 (i := 117) rfl rfl) (ky_t1 (i := 5) rfl rfl) (fun j hj => by
    match j, hj with
    | 0, _ => rfl
    | 1, _ => rfl
    | 2, _ => rfl
    | 3, _ => rfl
    | 4, _ => rfl
    | n + 5, h => exact absurd h (by omega)) hi K
theorem nw_X8 {G : ky_GW} {d : Nat} {M : ky_MT} {pc : Nat} {L : List (Nat × Value)} {S : List Value} {h : ky_HP} {Q : ky_RS → ky_HP → Prop} {i idx : Nat} (hcl : ky_T (.classLink M.1.cls idx "WaistSand$Shore")) (hi : M.2.2.2.2.1[i]? = some (pc, .new idx, 3)) (K : ky_V G d M (pc + 3) L (.ref (ky_B G + h.2.1) :: S) (ky_nw G h (.inr (7, [.null, .null, .null, .long 0, .long 0, .int 0, .int 0, .int 0])) 8) Q) : ky_V G d M pc L S h Q :=
  v_new iw_X8 tyX8 tyX8_ok rfl hcl (ky_t1 (i := 184) rfl rfl) (ky_t1 (i := 8) rfl rfl) (fun j hj => by
    match j, hj with
    | 0, _ => rfl
    | 1, _ => rfl
    | 2, _ => rfl
    | 3, _ => rfl
    | 4, _ => rfl
    | 5, _ => rfl
    | 6, _ => rfl
    | 7, _ => rfl
    | n + 8, h => exact absurd h (by omega)) hi K
theorem nw_X9 {G : ky_GW} {d : Nat} {M : ky_MT} {pc : Nat} {L : List (Nat × Value)} {S : List Value} {h : ky_HP} {Q : ky_RS → ky_HP → Prop} {i idx : Nat} (hcl : ky_T (.classLink M.1.cls idx "WaistSand$Tape")) (hi : M.2.2.2.2.1[i]? = some (pc, .new idx, 3)) (K : ky_V G d M (pc + 3) L (.ref (ky_B G + h.2.1) :: S) (ky_nw G h (.inr (8, [.null, .int 0, .int 0, .int 0, .int 0])) 5) Q) : ky_V G d M pc L S h Q :=
  v_new iw_X9 tyX9 tyX9_ok rfl hcl (ky_t1 (i := 39) rfl rfl) (ky_t1 (i := 2) rfl rfl) (fun j hj => by
    match j, hj with
    | 0, _ => rfl
    | 1, _ => rfl
    | 2, _ => rfl
    | 3, _ => rfl
    | 4, _ => rfl
    | n + 5, h => exact absurd h (by omega)) hi K
theorem nw_X10 {G : ky_GW} {d : Nat} {M : ky_MT} {pc : Nat} {L : List (Nat × Value)} {S : List Value} {h : ky_HP} {Q : ky_RS → ky_HP → Prop} {i idx : Nat} (hcl : ky_T (.classLink M.1.cls idx "WaistSand$Ways")) (hi : M.2.2.2.2.1[i]? = some (pc, .new idx, 3)) (K : ky_V G d M (pc + 3) L (.ref (ky_B G + h.2.1) :: S) (ky_nw G h (.inr (9, [.null, .null, .null, .null, .null, .null, .null, .int 0, .int 0, .int 0, .null, .int 0, .int 0])) 13) Q) : ky_V G d M pc L S h Q :=
  v_new iw_X10 tyX10 tyX10_ok rfl hcl (ky_t2 (i := 105) rfl rfl) (ky_t1 (i := 27) rfl rfl) (fun j hj => by
    match j, hj with
    | 0, _ => rfl
    | 1, _ => rfl
    | 2, _ => rfl
    | 3, _ => rfl
    | 4, _ => rfl
    | 5, _ => rfl
    | 6, _ => rfl
    | 7, _ => rfl
    | 8, _ => rfl
    | 9, _ => rfl
    | 10, _ => rfl
    | 11, _ => rfl
    | 12, _ => rfl
    | n + 13, h => exact absurd h (by omega)) hi K
theorem nw_X11 {G : ky_GW} {d : Nat} {M : ky_MT} {pc : Nat} {L : List (Nat × Value)} {S : List Value} {h : ky_HP} {Q : ky_RS → ky_HP → Prop} {i idx : Nat} (hcl : ky_T (.classLink M.1.cls idx "WaistSand")) (hi : M.2.2.2.2.1[i]? = some (pc, .new idx, 3)) (K : ky_V G d M (pc + 3) L (.ref (ky_B G + h.2.1) :: S) (ky_nw G h (.inr (10, [.null, .null, .null, .null, .null, .null, .int 0, .int 0, .null, .null, .int 0])) 11) Q) : ky_V G d M pc L S h Q :=
  v_new iw_X11 tyX11 tyX11_ok rfl hcl (ky_t1 (i := 31) rfl rfl) (ky_t1 (i := 1) rfl rfl) (fun j hj => by
    match j, hj with
    | 0, _ => rfl
    | 1, _ => rfl
    | 2, _ => rfl
    | 3, _ => rfl
    | 4, _ => rfl
    | 5, _ => rfl
    | 6, _ => rfl
    | 7, _ => rfl
    | 8, _ => rfl
    | 9, _ => rfl
    | 10, _ => rfl
    | n + 11, h => exact absurd h (by omega)) hi K
theorem nw_X12 {G : ky_GW} {d : Nat} {M : ky_MT} {pc : Nat} {L : List (Nat × Value)} {S : List Value} {h : ky_HP} {Q : ky_RS → ky_HP → Prop} {i idx : Nat} (hcl : ky_T (.classLink M.1.cls idx "WaistSandModel")) (hi : M.2.2.2.2.1[i]? = some (pc, .new idx, 3)) (K : ky_V G d M (pc + 3) L (.ref (ky_B G + h.2.1) :: S) (ky_nw G h (.inr (11, [.int 0, .null, .null, .null, .null, .null, .int 0, .int 0, .null, .int 0, .int 0, .int 0, .int 0, .int 0, .int 0, .null, .int 0, .null, .null, .int 0, .int 0, .null, .null, .null])) 24) Q) : ky_V G d M pc L S h Q :=
  v_new iw_X12 tyX12 tyX12_ok rfl hcl (ky_t7 (i := 24) rfl rfl) (ky_t1 (i := 11) rfl rfl) (fun j hj => by
    match j, hj with
    | 0, _ => rfl
    | 1, _ => rfl
    | 2, _ => rfl
    | 3, _ => rfl
    | 4, _ => rfl
    | 5, _ => rfl
    | 6, _ => rfl
    | 7, _ => rfl
    | 8, _ => rfl
    | 9, _ => rfl
    | 10, _ => rfl
    | 11, _ => rfl
    | 12, _ => rfl
    | 13, _ => rfl
    | 14, _ => rfl
    | 15, _ => rfl
    | 16, _ => rfl
    | 17, _ => rfl
    | 18, _ => rfl
    | 19, _ => rfl
    | 20, _ => rfl
    | 21, _ => rfl
    | 22, _ => rfl
    | 23, _ => rfl
    | n + 24, h => exact absurd h (by omega)) hi K
