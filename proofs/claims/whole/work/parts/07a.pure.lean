theorem ky_nb {x : Int32} (h : x = 0 ∨ x = 1) : narrow .boolean (.int x) = .int x := by rcases h with rfl | rfl <;> decide
def po_isOut (p0 : Int32) : Int32 := (if 12 ≤ p0 then 0 else 1)
set_option maxRecDepth 20000 in
theorem k_X5_isOut {G : ky_GW} {d : Nat} {h : ky_HP} {Q : ky_RS → ky_HP → Prop} (p0 : Int32) (K : Q (.inl (some (.int (po_isOut p0)))) h) : ky_Call G d M_X5_isOut [.int p0] h Q := by
  refine ky_ofV (by decide +kernel) rfl ok_X5_isOut (Nat.le_of_ble_eq_true rfl) ?_
  refine (?_ : ky_V _ _ _ 0 [(0, .int p0)] [] _ _)
  refine v_iload_n (i := 0) (j := 0) rfl rfl (?_ : ky_V _ _ _ 1 _ _ _ _)
  refine v_bipush (v := 12) (i := 1) rfl (by decide) (?_ : ky_V _ _ _ 3 _ _ _ _)
  refine v_icmp_ge (tgt := 10) (i := 2) rfl (by decide) (fun c1 => ?_) (fun c1 => ?_)
  · refine v_iconst (v := 0) (i := 5) rfl (by decide) (?_ : ky_V _ _ _ 11 _ _ _ _)
    refine v_iret (v := 0) (ty := .boolean) (i := 6) rfl rfl (by decide) ?_
    unfold po_isOut at K; rw [if_pos c1] at K; exact K
  · refine v_iconst (v := 1) (i := 3) rfl (by decide) (?_ : ky_V _ _ _ 7 _ _ _ _)
    refine v_goto (tgt := 11) (i := 4) rfl (by decide) (?_ : ky_V _ _ _ 11 _ _ _ _)
    refine v_iret (v := 1) (ty := .boolean) (i := 6) rfl rfl (by decide) ?_
    unfold po_isOut at K; rw [if_neg c1] at K; exact K
theorem kb_X5_isOut (p0 : Int32) : (po_isOut p0) = 0 ∨ (po_isOut p0) = 1 := by
  unfold po_isOut
  first | exact Or.inl rfl | exact Or.inr rfl | (split <;> first | exact Or.inl rfl | exact Or.inr rfl | (split <;> first | exact Or.inl rfl | exact Or.inr rfl | (split <;> first | exact Or.inl rfl | exact Or.inr rfl)))
def wy_moveOf (p0 : Int32) : Int32 := (if 10 ≤ p0 then (p0 - 5) else (p0 >>> ((1 : Int32) &&& 31)))
set_option maxRecDepth 20000 in
theorem k_X10_moveOf {G : ky_GW} {d : Nat} {h : ky_HP} {Q : ky_RS → ky_HP → Prop} (p0 : Int32) (K : Q (.inl (some (.int (wy_moveOf p0)))) h) : ky_Call G d M_X10_moveOf [.int p0] h Q := by
  refine ky_ofV (by decide +kernel) rfl ok_X10_moveOf (Nat.le_of_ble_eq_true rfl) ?_
  refine (?_ : ky_V _ _ _ 0 [(0, .int p0)] [] _ _)
  refine v_iload_n (i := 0) (j := 0) rfl rfl (?_ : ky_V _ _ _ 1 _ _ _ _)
  refine v_bipush (v := 10) (i := 1) rfl (by decide) (?_ : ky_V _ _ _ 3 _ _ _ _)
  refine v_icmp_ge (tgt := 12) (i := 2) rfl (by decide) (fun c1 => ?_) (fun c1 => ?_)
  · refine v_iload_n (i := 7) (j := 0) rfl rfl (?_ : ky_V _ _ _ 13 _ _ _ _)
    refine v_iconst (v := 5) (i := 8) rfl (by decide) (?_ : ky_V _ _ _ 14 _ _ _ _)
    refine v_isub (i := 9) rfl (?_ : ky_V _ _ _ 15 _ _ _ _)
    refine v_iret (v := (p0 - 5)) (ty := .int) (i := 10) rfl rfl rfl ?_
    unfold wy_moveOf at K; rw [if_pos c1] at K; exact K
  · refine v_iload_n (i := 3) (j := 0) rfl rfl (?_ : ky_V _ _ _ 7 _ _ _ _)
    refine v_iconst (v := 1) (i := 4) rfl (by decide) (?_ : ky_V _ _ _ 8 _ _ _ _)
    refine v_ishr (i := 5) rfl (?_ : ky_V _ _ _ 9 _ _ _ _)
    refine v_goto (tgt := 15) (i := 6) rfl (by decide) (?_ : ky_V _ _ _ 15 _ _ _ _)
    refine v_iret (v := (p0 >>> ((1 : Int32) &&& 31))) (ty := .int) (i := 10) rfl rfl rfl ?_
    unfold wy_moveOf at K; rw [if_neg c1] at K; exact K
def po_depth1 (p0 : Int32) : Int32 := ((p0 / 12) - (p0 / 12) / 10 * 10)
set_option maxRecDepth 20000 in
theorem k_X5_depth1 {G : ky_GW} {d : Nat} {h : ky_HP} {Q : ky_RS → ky_HP → Prop} (p0 : Int32) (K : Q (.inl (some (.int (po_depth1 p0)))) h) : ky_Call G d M_X5_depth1 [.int p0] h Q := by
  refine ky_ofV (by decide +kernel) rfl ok_X5_depth1 (Nat.le_of_ble_eq_true rfl) ?_
  refine (?_ : ky_V _ _ _ 0 [(0, .int p0)] [] _ _)
  refine v_iload_n (i := 0) (j := 0) rfl rfl (?_ : ky_V _ _ _ 1 _ _ _ _)
  refine v_bipush (v := 12) (i := 1) rfl (by decide) (?_ : ky_V _ _ _ 3 _ _ _ _)
  refine v_idiv (i := 2) rfl (by decide) (?_ : ky_V _ _ _ 4 _ _ _ _)
  refine v_bipush (v := 10) (i := 3) rfl (by decide) (?_ : ky_V _ _ _ 6 _ _ _ _)
  refine v_irem (i := 4) rfl (by decide) (?_ : ky_V _ _ _ 7 _ _ _ _)
  refine v_iret (v := ((p0 / 12) - (p0 / 12) / 10 * 10)) (ty := .int) (i := 5) rfl rfl rfl ?_
  unfold po_depth1 at K; exact K
def po_depth0 (p0 : Int32) : Int32 := (p0 / 120)
set_option maxRecDepth 20000 in
theorem k_X5_depth0 {G : ky_GW} {d : Nat} {h : ky_HP} {Q : ky_RS → ky_HP → Prop} (p0 : Int32) (K : Q (.inl (some (.int (po_depth0 p0)))) h) : ky_Call G d M_X5_depth0 [.int p0] h Q := by
  refine ky_ofV (by decide +kernel) rfl ok_X5_depth0 (Nat.le_of_ble_eq_true rfl) ?_
  refine (?_ : ky_V _ _ _ 0 [(0, .int p0)] [] _ _)
  refine v_iload_n (i := 0) (j := 0) rfl rfl (?_ : ky_V _ _ _ 1 _ _ _ _)
  refine v_bipush (v := 120) (i := 1) rfl (by decide) (?_ : ky_V _ _ _ 3 _ _ _ _)
  refine v_idiv (i := 2) rfl (by decide) (?_ : ky_V _ _ _ 4 _ _ _ _)
  refine v_iret (v := (p0 / 120)) (ty := .int) (i := 3) rfl rfl rfl ?_
  unfold po_depth0 at K; exact K
def po_thin (p0 : Int32) : Int32 := ((p0 / 2) - (p0 / 2) / 6 * 6)
set_option maxRecDepth 20000 in
theorem k_X5_thin {G : ky_GW} {d : Nat} {h : ky_HP} {Q : ky_RS → ky_HP → Prop} (p0 : Int32) (K : Q (.inl (some (.int (po_thin p0)))) h) : ky_Call G d M_X5_thin [.int p0] h Q := by
  refine ky_ofV (by decide +kernel) rfl ok_X5_thin (Nat.le_of_ble_eq_true rfl) ?_
  refine (?_ : ky_V _ _ _ 0 [(0, .int p0)] [] _ _)
  refine v_iload_n (i := 0) (j := 0) rfl rfl (?_ : ky_V _ _ _ 1 _ _ _ _)
  refine v_iconst (v := 2) (i := 1) rfl (by decide) (?_ : ky_V _ _ _ 2 _ _ _ _)
  refine v_idiv (i := 2) rfl (by decide) (?_ : ky_V _ _ _ 3 _ _ _ _)
  refine v_bipush (v := 6) (i := 3) rfl (by decide) (?_ : ky_V _ _ _ 5 _ _ _ _)
  refine v_irem (i := 4) rfl (by decide) (?_ : ky_V _ _ _ 6 _ _ _ _)
  refine v_iret (v := ((p0 / 2) - (p0 / 2) / 6 * 6)) (ty := .int) (i := 5) rfl rfl rfl ?_
  unfold po_thin at K; exact K
def po_lying (p0 : Int32) : Int32 := (p0 &&& 1)
set_option maxRecDepth 20000 in
theorem k_X5_lying {G : ky_GW} {d : Nat} {h : ky_HP} {Q : ky_RS → ky_HP → Prop} (p0 : Int32) (K : Q (.inl (some (.int (po_lying p0)))) h) : ky_Call G d M_X5_lying [.int p0] h Q := by
  refine ky_ofV (by decide +kernel) rfl ok_X5_lying (Nat.le_of_ble_eq_true rfl) ?_
  refine (?_ : ky_V _ _ _ 0 [(0, .int p0)] [] _ _)
  refine v_iload_n (i := 0) (j := 0) rfl rfl (?_ : ky_V _ _ _ 1 _ _ _ _)
  refine v_iconst (v := 1) (i := 1) rfl (by decide) (?_ : ky_V _ _ _ 2 _ _ _ _)
  refine v_iand (i := 2) rfl (?_ : ky_V _ _ _ 3 _ _ _ _)
  refine v_iret (v := (p0 &&& 1)) (ty := .int) (i := 3) rfl rfl rfl ?_
  unfold po_lying at K; exact K
def ru_lessDeep (p0 : Int32) (p1 : Int32) : Int32 := (if p0 ≤ p1 then 0 else (p0 - p1))
set_option maxRecDepth 20000 in
theorem k_X6_lessDeep {G : ky_GW} {d : Nat} {h : ky_HP} {Q : ky_RS → ky_HP → Prop} (p0 : Int32) (p1 : Int32) (K : Q (.inl (some (.int (ru_lessDeep p0 p1)))) h) : ky_Call G d M_X6_lessDeep [.int p0, .int p1] h Q := by
  refine ky_ofV (by decide +kernel) rfl ok_X6_lessDeep (Nat.le_of_ble_eq_true rfl) ?_
  refine (?_ : ky_V _ _ _ 0 [(0, .int p0), (1, .int p1)] [] _ _)
  refine v_iload_n (i := 0) (j := 0) rfl rfl (?_ : ky_V _ _ _ 1 _ _ _ _)
  refine v_iload_n (i := 1) (j := 1) rfl rfl (?_ : ky_V _ _ _ 2 _ _ _ _)
  refine v_icmp_le (tgt := 11) (i := 2) rfl (by decide) (fun c1 => ?_) (fun c1 => ?_)
  · refine v_iconst (v := 0) (i := 7) rfl (by decide) (?_ : ky_V _ _ _ 12 _ _ _ _)
    refine v_iret (v := 0) (ty := .int) (i := 8) rfl rfl rfl ?_
    unfold ru_lessDeep at K; rw [if_pos c1] at K; exact K
  · refine v_iload_n (i := 3) (j := 0) rfl rfl (?_ : ky_V _ _ _ 6 _ _ _ _)
    refine v_iload_n (i := 4) (j := 1) rfl rfl (?_ : ky_V _ _ _ 7 _ _ _ _)
    refine v_isub (i := 5) rfl (?_ : ky_V _ _ _ 8 _ _ _ _)
    refine v_goto (tgt := 12) (i := 6) rfl (by decide) (?_ : ky_V _ _ _ 12 _ _ _ _)
    refine v_iret (v := (p0 - p1)) (ty := .int) (i := 8) rfl rfl rfl ?_
    unfold ru_lessDeep at K; rw [if_neg c1] at K; exact K
def ru_deeper (p0 : Int32) (p1 : Int32) : Int32 := (if 9 ≤ (p0 + p1) then 9 else (p0 + p1))
set_option maxRecDepth 20000 in
theorem k_X6_deeper {G : ky_GW} {d : Nat} {h : ky_HP} {Q : ky_RS → ky_HP → Prop} (p0 : Int32) (p1 : Int32) (K : Q (.inl (some (.int (ru_deeper p0 p1)))) h) : ky_Call G d M_X6_deeper [.int p0, .int p1] h Q := by
  refine ky_ofV (by decide +kernel) rfl ok_X6_deeper (Nat.le_of_ble_eq_true rfl) ?_
  refine (?_ : ky_V _ _ _ 0 [(0, .int p0), (1, .int p1)] [] _ _)
  refine v_iload_n (i := 0) (j := 0) rfl rfl (?_ : ky_V _ _ _ 1 _ _ _ _)
  refine v_iload_n (i := 1) (j := 1) rfl rfl (?_ : ky_V _ _ _ 2 _ _ _ _)
  refine v_iadd (i := 2) rfl (?_ : ky_V _ _ _ 3 _ _ _ _)
  refine v_bipush (v := 9) (i := 3) rfl (by decide) (?_ : ky_V _ _ _ 5 _ _ _ _)
  refine v_icmp_ge (tgt := 14) (i := 4) rfl (by decide) (fun c1 => ?_) (fun c1 => ?_)
  · refine v_bipush (v := 9) (i := 9) rfl (by decide) (?_ : ky_V _ _ _ 16 _ _ _ _)
    refine v_iret (v := 9) (ty := .int) (i := 10) rfl rfl rfl ?_
    unfold ru_deeper at K; rw [if_pos c1] at K; exact K
  · refine v_iload_n (i := 5) (j := 0) rfl rfl (?_ : ky_V _ _ _ 9 _ _ _ _)
    refine v_iload_n (i := 6) (j := 1) rfl rfl (?_ : ky_V _ _ _ 10 _ _ _ _)
    refine v_iadd (i := 7) rfl (?_ : ky_V _ _ _ 11 _ _ _ _)
    refine v_goto (tgt := 16) (i := 8) rfl (by decide) (?_ : ky_V _ _ _ 16 _ _ _ _)
    refine v_iret (v := (p0 + p1)) (ty := .int) (i := 10) rfl rfl rfl ?_
    unfold ru_deeper at K; rw [if_neg c1] at K; exact K
def ru_lyingBehind (p0 : Int32) (p1 : Int32) : Int32 := (if p1 = 6 then 1 else (if p1 = 0 then 0 else (if p1 = 3 then 0 else (if p1 = 4 then 0 else (po_lying p0)))))
set_option maxRecDepth 20000 in
theorem k_X6_lyingBehind {G : ky_GW} {d : Nat} {h : ky_HP} {Q : ky_RS → ky_HP → Prop} (p0 : Int32) (p1 : Int32) (K : Q (.inl (some (.int (ru_lyingBehind p0 p1)))) h) : ky_Call G (d + 1) M_X6_lyingBehind [.int p0, .int p1] h Q := by
  refine ky_ofV (by decide +kernel) rfl ok_X6_lyingBehind (Nat.le_of_ble_eq_true rfl) ?_
  refine (?_ : ky_V _ _ _ 0 [(0, .int p0), (1, .int p1)] [] _ _)
  refine v_iload_n (i := 0) (j := 1) rfl rfl (?_ : ky_V _ _ _ 1 _ _ _ _)
  refine v_bipush (v := 6) (i := 1) rfl (by decide) (?_ : ky_V _ _ _ 3 _ _ _ _)
  refine v_icmp_ne (tgt := 8) (i := 2) rfl (by decide) (fun c1 => ?_) (fun c1 => ?_)
  · refine v_iload_n (i := 5) (j := 1) rfl rfl (?_ : ky_V _ _ _ 9 _ _ _ _)
    refine v_if_eq (tgt := 22) (i := 6) rfl (by decide) (fun c2 => ?_) (fun c2 => ?_)
    · refine v_iconst (v := 0) (i := 13) rfl (by decide) (?_ : ky_V _ _ _ 23 _ _ _ _)
      refine v_goto (tgt := 30) (i := 14) rfl (by decide) (?_ : ky_V _ _ _ 30 _ _ _ _)
      refine v_iret (v := 0) (ty := .int) (i := 17) rfl rfl rfl ?_
      unfold ru_lyingBehind at K; rw [if_neg c1, if_pos c2] at K; exact K
    · refine v_iload_n (i := 7) (j := 1) rfl rfl (?_ : ky_V _ _ _ 13 _ _ _ _)
      refine v_iconst (v := 3) (i := 8) rfl (by decide) (?_ : ky_V _ _ _ 14 _ _ _ _)
      refine v_icmp_eq (tgt := 22) (i := 9) rfl (by decide) (fun c3 => ?_) (fun c3 => ?_)
      · refine v_iconst (v := 0) (i := 13) rfl (by decide) (?_ : ky_V _ _ _ 23 _ _ _ _)
        refine v_goto (tgt := 30) (i := 14) rfl (by decide) (?_ : ky_V _ _ _ 30 _ _ _ _)
        refine v_iret (v := 0) (ty := .int) (i := 17) rfl rfl rfl ?_
        unfold ru_lyingBehind at K; rw [if_neg c1, if_neg c2, if_pos c3] at K; exact K
      · refine v_iload_n (i := 10) (j := 1) rfl rfl (?_ : ky_V _ _ _ 18 _ _ _ _)
        refine v_iconst (v := 4) (i := 11) rfl (by decide) (?_ : ky_V _ _ _ 19 _ _ _ _)
        refine v_icmp_ne (tgt := 26) (i := 12) rfl (by decide) (fun c4 => ?_) (fun c4 => ?_)
        · refine v_iload_n (i := 15) (j := 0) rfl rfl (?_ : ky_V _ _ _ 27 _ _ _ _)
          refine cl_X6_70 (As := [.int p0]) rfl (i := 16) rfl rfl rfl (Nat.le_of_ble_eq_true rfl) (k_X5_lying p0 ⟨_, rfl, (?_ : ky_V _ _ _ 30 _ [.int ((po_lying p0))] _ _)⟩)
          refine v_iret (v := (po_lying p0)) (ty := .int) (i := 17) rfl rfl rfl ?_
          unfold ru_lyingBehind at K; rw [if_neg c1, if_neg c2, if_neg c3, if_neg c4] at K; exact K
        · refine v_iconst (v := 0) (i := 13) rfl (by decide) (?_ : ky_V _ _ _ 23 _ _ _ _)
          refine v_goto (tgt := 30) (i := 14) rfl (by decide) (?_ : ky_V _ _ _ 30 _ _ _ _)
          refine v_iret (v := 0) (ty := .int) (i := 17) rfl rfl rfl ?_
          unfold ru_lyingBehind at K; rw [if_neg c1, if_neg c2, if_neg c3, if_pos c4] at K; exact K
  · refine v_iconst (v := 1) (i := 3) rfl (by decide) (?_ : ky_V _ _ _ 7 _ _ _ _)
    refine v_iret (v := 1) (ty := .int) (i := 4) rfl rfl rfl ?_
    unfold ru_lyingBehind at K; rw [if_pos c1] at K; exact K
def po_of (p0 : Int32) (p1 : Int32) (p2 : Int32) (p3 : Int32) : Int32 := ((((((p0 * 10) + p1) * 6) + p2) * 2) + p3)
set_option maxRecDepth 20000 in
theorem k_X5_of {G : ky_GW} {d : Nat} {h : ky_HP} {Q : ky_RS → ky_HP → Prop} (p0 : Int32) (p1 : Int32) (p2 : Int32) (p3 : Int32) (K : Q (.inl (some (.int (po_of p0 p1 p2 p3)))) h) : ky_Call G d M_X5_of [.int p0, .int p1, .int p2, .int p3] h Q := by
  refine ky_ofV (by decide +kernel) rfl ok_X5_of (Nat.le_of_ble_eq_true rfl) ?_
  refine (?_ : ky_V _ _ _ 0 [(0, .int p0), (1, .int p1), (2, .int p2), (3, .int p3)] [] _ _)
  refine v_iload_n (i := 0) (j := 0) rfl rfl (?_ : ky_V _ _ _ 1 _ _ _ _)
  refine v_bipush (v := 10) (i := 1) rfl (by decide) (?_ : ky_V _ _ _ 3 _ _ _ _)
  refine v_imul (i := 2) rfl (?_ : ky_V _ _ _ 4 _ _ _ _)
  refine v_iload_n (i := 3) (j := 1) rfl rfl (?_ : ky_V _ _ _ 5 _ _ _ _)
  refine v_iadd (i := 4) rfl (?_ : ky_V _ _ _ 6 _ _ _ _)
  refine v_bipush (v := 6) (i := 5) rfl (by decide) (?_ : ky_V _ _ _ 8 _ _ _ _)
  refine v_imul (i := 6) rfl (?_ : ky_V _ _ _ 9 _ _ _ _)
  refine v_iload_n (i := 7) (j := 2) rfl rfl (?_ : ky_V _ _ _ 10 _ _ _ _)
  refine v_iadd (i := 8) rfl (?_ : ky_V _ _ _ 11 _ _ _ _)
  refine v_iconst (v := 2) (i := 9) rfl (by decide) (?_ : ky_V _ _ _ 12 _ _ _ _)
  refine v_imul (i := 10) rfl (?_ : ky_V _ _ _ 13 _ _ _ _)
  refine v_iload_n (i := 11) (j := 3) rfl rfl (?_ : ky_V _ _ _ 14 _ _ _ _)
  refine v_iadd (i := 12) rfl (?_ : ky_V _ _ _ 15 _ _ _ _)
  refine v_iret (v := ((((((p0 * 10) + p1) * 6) + p2) * 2) + p3)) (ty := .int) (i := 13) rfl rfl rfl ?_
  unfold po_of at K; exact K
def wy_numberOf (p0 : Int32) : Int32 := (if 10 ≤ p0 then (2 * (wy_moveOf p0)) else p0)
set_option maxRecDepth 20000 in
theorem k_X10_numberOf {G : ky_GW} {d : Nat} {h : ky_HP} {Q : ky_RS → ky_HP → Prop} (p0 : Int32) (K : Q (.inl (some (.int (wy_numberOf p0)))) h) : ky_Call G (d + 1) M_X10_numberOf [.int p0] h Q := by
  refine ky_ofV (by decide +kernel) rfl ok_X10_numberOf (Nat.le_of_ble_eq_true rfl) ?_
  refine (?_ : ky_V _ _ _ 0 [(0, .int p0)] [] _ _)
  refine v_iload_n (i := 0) (j := 0) rfl rfl (?_ : ky_V _ _ _ 1 _ _ _ _)
  refine v_bipush (v := 10) (i := 1) rfl (by decide) (?_ : ky_V _ _ _ 3 _ _ _ _)
  refine v_icmp_ge (tgt := 10) (i := 2) rfl (by decide) (fun c1 => ?_) (fun c1 => ?_)
  · refine v_iconst (v := 2) (i := 5) rfl (by decide) (?_ : ky_V _ _ _ 11 _ _ _ _)
    refine v_iload_n (i := 6) (j := 0) rfl rfl (?_ : ky_V _ _ _ 12 _ _ _ _)
    refine cl_X10_103 (As := [.int p0]) rfl (i := 7) rfl rfl rfl (Nat.le_of_ble_eq_true rfl) (k_X10_moveOf p0 ⟨_, rfl, (?_ : ky_V _ _ _ 15 _ [.int ((wy_moveOf p0)), .int 2] _ _)⟩)
    refine v_imul (i := 8) rfl (?_ : ky_V _ _ _ 16 _ _ _ _)
    refine v_iret (v := (2 * (wy_moveOf p0))) (ty := .int) (i := 9) rfl rfl rfl ?_
    unfold wy_numberOf at K; rw [if_pos c1] at K; exact K
  · refine v_iload_n (i := 3) (j := 0) rfl rfl (?_ : ky_V _ _ _ 7 _ _ _ _)
    refine v_goto (tgt := 16) (i := 4) rfl (by decide) (?_ : ky_V _ _ _ 16 _ _ _ _)
    refine v_iret (v := p0) (ty := .int) (i := 9) rfl rfl rfl ?_
    unfold wy_numberOf at K; rw [if_neg c1] at K; exact K
def po_withThin (p0 : Int32) (p1 : Int32) : Int32 := (po_of (po_depth0 p0) (po_depth1 p0) p1 (po_lying p0))
set_option maxRecDepth 20000 in
theorem k_X5_withThin {G : ky_GW} {d : Nat} {h : ky_HP} {Q : ky_RS → ky_HP → Prop} (p0 : Int32) (p1 : Int32) (K : Q (.inl (some (.int (po_withThin p0 p1)))) h) : ky_Call G (d + 1) M_X5_withThin [.int p0, .int p1] h Q := by
  refine ky_ofV (by decide +kernel) rfl ok_X5_withThin (Nat.le_of_ble_eq_true rfl) ?_
  refine (?_ : ky_V _ _ _ 0 [(0, .int p0), (1, .int p1)] [] _ _)
  refine v_iload_n (i := 0) (j := 0) rfl rfl (?_ : ky_V _ _ _ 1 _ _ _ _)
  refine cl_X5_9 (As := [.int p0]) rfl (i := 1) rfl rfl rfl (Nat.le_of_ble_eq_true rfl) (k_X5_depth0 p0 ⟨_, rfl, (?_ : ky_V _ _ _ 4 _ [.int ((po_depth0 p0))] _ _)⟩)
  refine v_iload_n (i := 2) (j := 0) rfl rfl (?_ : ky_V _ _ _ 5 _ _ _ _)
  refine cl_X5_15 (As := [.int p0]) rfl (i := 3) rfl rfl rfl (Nat.le_of_ble_eq_true rfl) (k_X5_depth1 p0 ⟨_, rfl, (?_ : ky_V _ _ _ 8 _ [.int ((po_depth1 p0)), .int ((po_depth0 p0))] _ _)⟩)
  refine v_iload_n (i := 4) (j := 1) rfl rfl (?_ : ky_V _ _ _ 9 _ _ _ _)
  refine v_iload_n (i := 5) (j := 0) rfl rfl (?_ : ky_V _ _ _ 10 _ _ _ _)
  refine cl_X5_21 (As := [.int p0]) rfl (i := 6) rfl rfl rfl (Nat.le_of_ble_eq_true rfl) (k_X5_lying p0 ⟨_, rfl, (?_ : ky_V _ _ _ 13 _ [.int ((po_lying p0)), .int p1, .int ((po_depth1 p0)), .int ((po_depth0 p0))] _ _)⟩)
  refine cl_X5_24 (As := [.int ((po_depth0 p0)), .int ((po_depth1 p0)), .int p1, .int ((po_lying p0))]) rfl (i := 7) rfl rfl rfl (Nat.le_of_ble_eq_true rfl) (k_X5_of (po_depth0 p0) (po_depth1 p0) p1 (po_lying p0) ⟨_, rfl, (?_ : ky_V _ _ _ 16 _ [.int ((po_of (po_depth0 p0) (po_depth1 p0) p1 (po_lying p0)))] _ _)⟩)
  refine v_iret (v := (po_of (po_depth0 p0) (po_depth1 p0) p1 (po_lying p0))) (ty := .int) (i := 8) rfl rfl rfl ?_
  unfold po_withThin at K; exact K
def po_withDepths (p0 : Int32) (p1 : Int32) (p2 : Int32) : Int32 := (po_of p1 p2 (po_thin p0) (po_lying p0))
set_option maxRecDepth 20000 in
theorem k_X5_withDepths {G : ky_GW} {d : Nat} {h : ky_HP} {Q : ky_RS → ky_HP → Prop} (p0 : Int32) (p1 : Int32) (p2 : Int32) (K : Q (.inl (some (.int (po_withDepths p0 p1 p2)))) h) : ky_Call G (d + 1) M_X5_withDepths [.int p0, .int p1, .int p2] h Q := by
  refine ky_ofV (by decide +kernel) rfl ok_X5_withDepths (Nat.le_of_ble_eq_true rfl) ?_
  refine (?_ : ky_V _ _ _ 0 [(0, .int p0), (1, .int p1), (2, .int p2)] [] _ _)
  refine v_iload_n (i := 0) (j := 1) rfl rfl (?_ : ky_V _ _ _ 1 _ _ _ _)
  refine v_iload_n (i := 1) (j := 2) rfl rfl (?_ : ky_V _ _ _ 2 _ _ _ _)
  refine v_iload_n (i := 2) (j := 0) rfl rfl (?_ : ky_V _ _ _ 3 _ _ _ _)
  refine cl_X5_18 (As := [.int p0]) rfl (i := 3) rfl rfl rfl (Nat.le_of_ble_eq_true rfl) (k_X5_thin p0 ⟨_, rfl, (?_ : ky_V _ _ _ 6 _ [.int ((po_thin p0)), .int p2, .int p1] _ _)⟩)
  refine v_iload_n (i := 4) (j := 0) rfl rfl (?_ : ky_V _ _ _ 7 _ _ _ _)
  refine cl_X5_21 (As := [.int p0]) rfl (i := 5) rfl rfl rfl (Nat.le_of_ble_eq_true rfl) (k_X5_lying p0 ⟨_, rfl, (?_ : ky_V _ _ _ 10 _ [.int ((po_lying p0)), .int ((po_thin p0)), .int p2, .int p1] _ _)⟩)
  refine cl_X5_24 (As := [.int p1, .int p2, .int ((po_thin p0)), .int ((po_lying p0))]) rfl (i := 6) rfl rfl rfl (Nat.le_of_ble_eq_true rfl) (k_X5_of p1 p2 (po_thin p0) (po_lying p0) ⟨_, rfl, (?_ : ky_V _ _ _ 13 _ [.int ((po_of p1 p2 (po_thin p0) (po_lying p0)))] _ _)⟩)
  refine v_iret (v := (po_of p1 p2 (po_thin p0) (po_lying p0))) (ty := .int) (i := 7) rfl rfl rfl ?_
  unfold po_withDepths at K; exact K
def sh_beside (p0 : Int64) : Int64 := ((((p0 <<< (Int32.toInt64 8 &&& 63)) ||| (Int64.toUInt64 p0 >>> ((Int32.toInt64 8).toUInt64 &&& Int64.toUInt64 63)).toInt64) ||| ((p0 &&& 9187201950435737471) <<< (Int32.toInt64 1 &&& 63))) ||| (Int64.toUInt64 (p0 &&& (-72340172838076674)) >>> ((Int32.toInt64 1).toUInt64 &&& Int64.toUInt64 63)).toInt64)
set_option maxRecDepth 20000 in
theorem k_X8_beside {G : ky_GW} {d : Nat} {h : ky_HP} {Q : ky_RS → ky_HP → Prop} (p0 : Int64) (K : Q (.inl (some (.long (sh_beside p0)))) h) : ky_Call G d M_X8_beside [.long p0] h Q := by
  refine ky_ofV (by decide +kernel) rfl ok_X8_beside (Nat.le_of_ble_eq_true rfl) ?_
  refine (?_ : ky_V _ _ _ 0 [(0, .long p0)] [] _ _)
  refine v_lload_n (i := 0) (j := 0) rfl rfl (?_ : ky_V _ _ _ 1 _ _ _ _)
  refine v_bipush (v := 8) (i := 1) rfl (by decide) (?_ : ky_V _ _ _ 3 _ _ _ _)
  refine v_lshl (i := 2) rfl rfl (?_ : ky_V _ _ _ 4 _ _ _ _)
  refine v_lload_n (i := 3) (j := 0) rfl rfl (?_ : ky_V _ _ _ 5 _ _ _ _)
  refine v_bipush (v := 8) (i := 4) rfl (by decide) (?_ : ky_V _ _ _ 7 _ _ _ _)
  refine v_lushr (i := 5) rfl rfl (?_ : ky_V _ _ _ 8 _ _ _ _)
  refine v_lor (i := 6) rfl (?_ : ky_V _ _ _ 9 _ _ _ _)
  refine v_lload_n (i := 7) (j := 0) rfl rfl (?_ : ky_V _ _ _ 10 _ _ _ _)
  refine v_ldc2 (v := 9187201950435737471) (i := 8) rfl (ky_t3 (i := 91) rfl rfl) (?_ : ky_V _ _ _ 13 _ _ _ _)
  refine v_land (i := 9) rfl (?_ : ky_V _ _ _ 14 _ _ _ _)
  refine v_iconst (v := 1) (i := 10) rfl (by decide) (?_ : ky_V _ _ _ 15 _ _ _ _)
  refine v_lshl (i := 11) rfl rfl (?_ : ky_V _ _ _ 16 _ _ _ _)
  refine v_lor (i := 12) rfl (?_ : ky_V _ _ _ 17 _ _ _ _)
  refine v_lload_n (i := 13) (j := 0) rfl rfl (?_ : ky_V _ _ _ 18 _ _ _ _)
  refine v_ldc2 (v := (-72340172838076674)) (i := 14) rfl (ky_t3 (i := 92) rfl rfl) (?_ : ky_V _ _ _ 21 _ _ _ _)
  refine v_land (i := 15) rfl (?_ : ky_V _ _ _ 22 _ _ _ _)
  refine v_iconst (v := 1) (i := 16) rfl (by decide) (?_ : ky_V _ _ _ 23 _ _ _ _)
  refine v_lushr (i := 17) rfl rfl (?_ : ky_V _ _ _ 24 _ _ _ _)
  refine v_lor (i := 18) rfl (?_ : ky_V _ _ _ 25 _ _ _ _)
  refine v_lret (v := ((((p0 <<< (Int32.toInt64 8 &&& 63)) ||| (Int64.toUInt64 p0 >>> ((Int32.toInt64 8).toUInt64 &&& Int64.toUInt64 63)).toInt64) ||| ((p0 &&& 9187201950435737471) <<< (Int32.toInt64 1 &&& 63))) ||| (Int64.toUInt64 (p0 &&& (-72340172838076674)) >>> ((Int32.toInt64 1).toUInt64 &&& Int64.toUInt64 63)).toInt64)) (i := 19) rfl rfl ?_
  unfold sh_beside at K; exact K
def jl_bitCount (p0 : Int64) : Int32 := ((Int64.toInt32 ((((((((p0 - ((Int64.toUInt64 p0 >>> ((Int32.toInt64 1).toUInt64 &&& Int64.toUInt64 63)).toInt64 &&& 6148914691236517205)) &&& 3689348814741910323) + ((Int64.toUInt64 (p0 - ((Int64.toUInt64 p0 >>> ((Int32.toInt64 1).toUInt64 &&& Int64.toUInt64 63)).toInt64 &&& 6148914691236517205)) >>> ((Int32.toInt64 2).toUInt64 &&& Int64.toUInt64 63)).toInt64 &&& 3689348814741910323)) + (Int64.toUInt64 (((p0 - ((Int64.toUInt64 p0 >>> ((Int32.toInt64 1).toUInt64 &&& Int64.toUInt64 63)).toInt64 &&& 6148914691236517205)) &&& 3689348814741910323) + ((Int64.toUInt64 (p0 - ((Int64.toUInt64 p0 >>> ((Int32.toInt64 1).toUInt64 &&& Int64.toUInt64 63)).toInt64 &&& 6148914691236517205)) >>> ((Int32.toInt64 2).toUInt64 &&& Int64.toUInt64 63)).toInt64 &&& 3689348814741910323)) >>> ((Int32.toInt64 4).toUInt64 &&& Int64.toUInt64 63)).toInt64) &&& 1085102592571150095) + (Int64.toUInt64 (((((p0 - ((Int64.toUInt64 p0 >>> ((Int32.toInt64 1).toUInt64 &&& Int64.toUInt64 63)).toInt64 &&& 6148914691236517205)) &&& 3689348814741910323) + ((Int64.toUInt64 (p0 - ((Int64.toUInt64 p0 >>> ((Int32.toInt64 1).toUInt64 &&& Int64.toUInt64 63)).toInt64 &&& 6148914691236517205)) >>> ((Int32.toInt64 2).toUInt64 &&& Int64.toUInt64 63)).toInt64 &&& 3689348814741910323)) + (Int64.toUInt64 (((p0 - ((Int64.toUInt64 p0 >>> ((Int32.toInt64 1).toUInt64 &&& Int64.toUInt64 63)).toInt64 &&& 6148914691236517205)) &&& 3689348814741910323) + ((Int64.toUInt64 (p0 - ((Int64.toUInt64 p0 >>> ((Int32.toInt64 1).toUInt64 &&& Int64.toUInt64 63)).toInt64 &&& 6148914691236517205)) >>> ((Int32.toInt64 2).toUInt64 &&& Int64.toUInt64 63)).toInt64 &&& 3689348814741910323)) >>> ((Int32.toInt64 4).toUInt64 &&& Int64.toUInt64 63)).toInt64) &&& 1085102592571150095) >>> ((Int32.toInt64 8).toUInt64 &&& Int64.toUInt64 63)).toInt64) + (Int64.toUInt64 ((((((p0 - ((Int64.toUInt64 p0 >>> ((Int32.toInt64 1).toUInt64 &&& Int64.toUInt64 63)).toInt64 &&& 6148914691236517205)) &&& 3689348814741910323) + ((Int64.toUInt64 (p0 - ((Int64.toUInt64 p0 >>> ((Int32.toInt64 1).toUInt64 &&& Int64.toUInt64 63)).toInt64 &&& 6148914691236517205)) >>> ((Int32.toInt64 2).toUInt64 &&& Int64.toUInt64 63)).toInt64 &&& 3689348814741910323)) + (Int64.toUInt64 (((p0 - ((Int64.toUInt64 p0 >>> ((Int32.toInt64 1).toUInt64 &&& Int64.toUInt64 63)).toInt64 &&& 6148914691236517205)) &&& 3689348814741910323) + ((Int64.toUInt64 (p0 - ((Int64.toUInt64 p0 >>> ((Int32.toInt64 1).toUInt64 &&& Int64.toUInt64 63)).toInt64 &&& 6148914691236517205)) >>> ((Int32.toInt64 2).toUInt64 &&& Int64.toUInt64 63)).toInt64 &&& 3689348814741910323)) >>> ((Int32.toInt64 4).toUInt64 &&& Int64.toUInt64 63)).toInt64) &&& 1085102592571150095) + (Int64.toUInt64 (((((p0 - ((Int64.toUInt64 p0 >>> ((Int32.toInt64 1).toUInt64 &&& Int64.toUInt64 63)).toInt64 &&& 6148914691236517205)) &&& 3689348814741910323) + ((Int64.toUInt64 (p0 - ((Int64.toUInt64 p0 >>> ((Int32.toInt64 1).toUInt64 &&& Int64.toUInt64 63)).toInt64 &&& 6148914691236517205)) >>> ((Int32.toInt64 2).toUInt64 &&& Int64.toUInt64 63)).toInt64 &&& 3689348814741910323)) + (Int64.toUInt64 (((p0 - ((Int64.toUInt64 p0 >>> ((Int32.toInt64 1).toUInt64 &&& Int64.toUInt64 63)).toInt64 &&& 6148914691236517205)) &&& 3689348814741910323) + ((Int64.toUInt64 (p0 - ((Int64.toUInt64 p0 >>> ((Int32.toInt64 1).toUInt64 &&& Int64.toUInt64 63)).toInt64 &&& 6148914691236517205)) >>> ((Int32.toInt64 2).toUInt64 &&& Int64.toUInt64 63)).toInt64 &&& 3689348814741910323)) >>> ((Int32.toInt64 4).toUInt64 &&& Int64.toUInt64 63)).toInt64) &&& 1085102592571150095) >>> ((Int32.toInt64 8).toUInt64 &&& Int64.toUInt64 63)).toInt64) >>> ((Int32.toInt64 16).toUInt64 &&& Int64.toUInt64 63)).toInt64) + (Int64.toUInt64 (((((((p0 - ((Int64.toUInt64 p0 >>> ((Int32.toInt64 1).toUInt64 &&& Int64.toUInt64 63)).toInt64 &&& 6148914691236517205)) &&& 3689348814741910323) + ((Int64.toUInt64 (p0 - ((Int64.toUInt64 p0 >>> ((Int32.toInt64 1).toUInt64 &&& Int64.toUInt64 63)).toInt64 &&& 6148914691236517205)) >>> ((Int32.toInt64 2).toUInt64 &&& Int64.toUInt64 63)).toInt64 &&& 3689348814741910323)) + (Int64.toUInt64 (((p0 - ((Int64.toUInt64 p0 >>> ((Int32.toInt64 1).toUInt64 &&& Int64.toUInt64 63)).toInt64 &&& 6148914691236517205)) &&& 3689348814741910323) + ((Int64.toUInt64 (p0 - ((Int64.toUInt64 p0 >>> ((Int32.toInt64 1).toUInt64 &&& Int64.toUInt64 63)).toInt64 &&& 6148914691236517205)) >>> ((Int32.toInt64 2).toUInt64 &&& Int64.toUInt64 63)).toInt64 &&& 3689348814741910323)) >>> ((Int32.toInt64 4).toUInt64 &&& Int64.toUInt64 63)).toInt64) &&& 1085102592571150095) + (Int64.toUInt64 (((((p0 - ((Int64.toUInt64 p0 >>> ((Int32.toInt64 1).toUInt64 &&& Int64.toUInt64 63)).toInt64 &&& 6148914691236517205)) &&& 3689348814741910323) + ((Int64.toUInt64 (p0 - ((Int64.toUInt64 p0 >>> ((Int32.toInt64 1).toUInt64 &&& Int64.toUInt64 63)).toInt64 &&& 6148914691236517205)) >>> ((Int32.toInt64 2).toUInt64 &&& Int64.toUInt64 63)).toInt64 &&& 3689348814741910323)) + (Int64.toUInt64 (((p0 - ((Int64.toUInt64 p0 >>> ((Int32.toInt64 1).toUInt64 &&& Int64.toUInt64 63)).toInt64 &&& 6148914691236517205)) &&& 3689348814741910323) + ((Int64.toUInt64 (p0 - ((Int64.toUInt64 p0 >>> ((Int32.toInt64 1).toUInt64 &&& Int64.toUInt64 63)).toInt64 &&& 6148914691236517205)) >>> ((Int32.toInt64 2).toUInt64 &&& Int64.toUInt64 63)).toInt64 &&& 3689348814741910323)) >>> ((Int32.toInt64 4).toUInt64 &&& Int64.toUInt64 63)).toInt64) &&& 1085102592571150095) >>> ((Int32.toInt64 8).toUInt64 &&& Int64.toUInt64 63)).toInt64) + (Int64.toUInt64 ((((((p0 - ((Int64.toUInt64 p0 >>> ((Int32.toInt64 1).toUInt64 &&& Int64.toUInt64 63)).toInt64 &&& 6148914691236517205)) &&& 3689348814741910323) + ((Int64.toUInt64 (p0 - ((Int64.toUInt64 p0 >>> ((Int32.toInt64 1).toUInt64 &&& Int64.toUInt64 63)).toInt64 &&& 6148914691236517205)) >>> ((Int32.toInt64 2).toUInt64 &&& Int64.toUInt64 63)).toInt64 &&& 3689348814741910323)) + (Int64.toUInt64 (((p0 - ((Int64.toUInt64 p0 >>> ((Int32.toInt64 1).toUInt64 &&& Int64.toUInt64 63)).toInt64 &&& 6148914691236517205)) &&& 3689348814741910323) + ((Int64.toUInt64 (p0 - ((Int64.toUInt64 p0 >>> ((Int32.toInt64 1).toUInt64 &&& Int64.toUInt64 63)).toInt64 &&& 6148914691236517205)) >>> ((Int32.toInt64 2).toUInt64 &&& Int64.toUInt64 63)).toInt64 &&& 3689348814741910323)) >>> ((Int32.toInt64 4).toUInt64 &&& Int64.toUInt64 63)).toInt64) &&& 1085102592571150095) + (Int64.toUInt64 (((((p0 - ((Int64.toUInt64 p0 >>> ((Int32.toInt64 1).toUInt64 &&& Int64.toUInt64 63)).toInt64 &&& 6148914691236517205)) &&& 3689348814741910323) + ((Int64.toUInt64 (p0 - ((Int64.toUInt64 p0 >>> ((Int32.toInt64 1).toUInt64 &&& Int64.toUInt64 63)).toInt64 &&& 6148914691236517205)) >>> ((Int32.toInt64 2).toUInt64 &&& Int64.toUInt64 63)).toInt64 &&& 3689348814741910323)) + (Int64.toUInt64 (((p0 - ((Int64.toUInt64 p0 >>> ((Int32.toInt64 1).toUInt64 &&& Int64.toUInt64 63)).toInt64 &&& 6148914691236517205)) &&& 3689348814741910323) + ((Int64.toUInt64 (p0 - ((Int64.toUInt64 p0 >>> ((Int32.toInt64 1).toUInt64 &&& Int64.toUInt64 63)).toInt64 &&& 6148914691236517205)) >>> ((Int32.toInt64 2).toUInt64 &&& Int64.toUInt64 63)).toInt64 &&& 3689348814741910323)) >>> ((Int32.toInt64 4).toUInt64 &&& Int64.toUInt64 63)).toInt64) &&& 1085102592571150095) >>> ((Int32.toInt64 8).toUInt64 &&& Int64.toUInt64 63)).toInt64) >>> ((Int32.toInt64 16).toUInt64 &&& Int64.toUInt64 63)).toInt64) >>> ((Int32.toInt64 32).toUInt64 &&& Int64.toUInt64 63)).toInt64)) &&& 127)
set_option maxRecDepth 20000 in
theorem k_J13_bitCount_95d88 {G : ky_GW} {d : Nat} {h : ky_HP} {Q : ky_RS → ky_HP → Prop} (p0 : Int64) (K : Q (.inl (some (.int (jl_bitCount p0)))) h) : ky_Call G d M_J13_bitCount_95d88 [.long p0] h Q := by
  refine ky_ofV (by decide +kernel) rfl ok_J13_bitCount_95d88 (Nat.le_of_ble_eq_true rfl) ?_
  refine (?_ : ky_V _ _ _ 0 [(0, .long p0)] [] _ _)
  refine v_lload_n (i := 0) (j := 0) rfl rfl (?_ : ky_V _ _ _ 1 _ _ _ _)
  refine v_lload_n (i := 1) (j := 0) rfl rfl (?_ : ky_V _ _ _ 2 _ _ _ _)
  refine v_iconst (v := 1) (i := 2) rfl (by decide) (?_ : ky_V _ _ _ 3 _ _ _ _)
  refine v_lushr (i := 3) rfl rfl (?_ : ky_V _ _ _ 4 _ _ _ _)
  refine v_ldc2 (v := 6148914691236517205) (i := 4) rfl (ky_t3 (i := 101) rfl rfl) (?_ : ky_V _ _ _ 7 _ _ _ _)
  refine v_land (i := 5) rfl (?_ : ky_V _ _ _ 8 _ _ _ _)
  refine v_lsub (i := 6) rfl (?_ : ky_V _ _ _ 9 _ _ _ _)
  refine v_topl (fun x1 ex1 => ?_)
  refine v_lstore_n (L' := [(0, .long x1)]) [0] (i := 7) rfl (Nat.le_of_ble_eq_true rfl) rfl (?_ : ky_V _ _ _ 10 _ _ _ _)
  refine v_lload_n (i := 8) (j := 0) rfl rfl (?_ : ky_V _ _ _ 11 _ _ _ _)
  refine v_ldc2 (v := 3689348814741910323) (i := 9) rfl (ky_t3 (i := 102) rfl rfl) (?_ : ky_V _ _ _ 14 _ _ _ _)
  refine v_land (i := 10) rfl (?_ : ky_V _ _ _ 15 _ _ _ _)
  refine v_lload_n (i := 11) (j := 0) rfl rfl (?_ : ky_V _ _ _ 16 _ _ _ _)
  refine v_iconst (v := 2) (i := 12) rfl (by decide) (?_ : ky_V _ _ _ 17 _ _ _ _)
  refine v_lushr (i := 13) rfl rfl (?_ : ky_V _ _ _ 18 _ _ _ _)
  refine v_ldc2 (v := 3689348814741910323) (i := 14) rfl (ky_t3 (i := 102) rfl rfl) (?_ : ky_V _ _ _ 21 _ _ _ _)
  refine v_land (i := 15) rfl (?_ : ky_V _ _ _ 22 _ _ _ _)
  refine v_ladd (i := 16) rfl (?_ : ky_V _ _ _ 23 _ _ _ _)
  refine v_topl (fun x2 ex2 => ?_)
  refine v_lstore_n (L' := [(0, .long x2)]) [0] (i := 17) rfl (Nat.le_of_ble_eq_true rfl) rfl (?_ : ky_V _ _ _ 24 _ _ _ _)
  refine v_lload_n (i := 18) (j := 0) rfl rfl (?_ : ky_V _ _ _ 25 _ _ _ _)
  refine v_lload_n (i := 19) (j := 0) rfl rfl (?_ : ky_V _ _ _ 26 _ _ _ _)
  refine v_iconst (v := 4) (i := 20) rfl (by decide) (?_ : ky_V _ _ _ 27 _ _ _ _)
  refine v_lushr (i := 21) rfl rfl (?_ : ky_V _ _ _ 28 _ _ _ _)
  refine v_ladd (i := 22) rfl (?_ : ky_V _ _ _ 29 _ _ _ _)
  refine v_ldc2 (v := 1085102592571150095) (i := 23) rfl (ky_t3 (i := 103) rfl rfl) (?_ : ky_V _ _ _ 32 _ _ _ _)
  refine v_land (i := 24) rfl (?_ : ky_V _ _ _ 33 _ _ _ _)
  refine v_topl (fun x3 ex3 => ?_)
  refine v_lstore_n (L' := [(0, .long x3)]) [0] (i := 25) rfl (Nat.le_of_ble_eq_true rfl) rfl (?_ : ky_V _ _ _ 34 _ _ _ _)
  refine v_lload_n (i := 26) (j := 0) rfl rfl (?_ : ky_V _ _ _ 35 _ _ _ _)
  refine v_lload_n (i := 27) (j := 0) rfl rfl (?_ : ky_V _ _ _ 36 _ _ _ _)
  refine v_bipush (v := 8) (i := 28) rfl (by decide) (?_ : ky_V _ _ _ 38 _ _ _ _)
  refine v_lushr (i := 29) rfl rfl (?_ : ky_V _ _ _ 39 _ _ _ _)
  refine v_ladd (i := 30) rfl (?_ : ky_V _ _ _ 40 _ _ _ _)
  refine v_topl (fun x4 ex4 => ?_)
  refine v_lstore_n (L' := [(0, .long x4)]) [0] (i := 31) rfl (Nat.le_of_ble_eq_true rfl) rfl (?_ : ky_V _ _ _ 41 _ _ _ _)
  refine v_lload_n (i := 32) (j := 0) rfl rfl (?_ : ky_V _ _ _ 42 _ _ _ _)
  refine v_lload_n (i := 33) (j := 0) rfl rfl (?_ : ky_V _ _ _ 43 _ _ _ _)
  refine v_bipush (v := 16) (i := 34) rfl (by decide) (?_ : ky_V _ _ _ 45 _ _ _ _)
  refine v_lushr (i := 35) rfl rfl (?_ : ky_V _ _ _ 46 _ _ _ _)
  refine v_ladd (i := 36) rfl (?_ : ky_V _ _ _ 47 _ _ _ _)
  refine v_topl (fun x5 ex5 => ?_)
  refine v_lstore_n (L' := [(0, .long x5)]) [0] (i := 37) rfl (Nat.le_of_ble_eq_true rfl) rfl (?_ : ky_V _ _ _ 48 _ _ _ _)
  refine v_lload_n (i := 38) (j := 0) rfl rfl (?_ : ky_V _ _ _ 49 _ _ _ _)
  refine v_lload_n (i := 39) (j := 0) rfl rfl (?_ : ky_V _ _ _ 50 _ _ _ _)
  refine v_bipush (v := 32) (i := 40) rfl (by decide) (?_ : ky_V _ _ _ 52 _ _ _ _)
  refine v_lushr (i := 41) rfl rfl (?_ : ky_V _ _ _ 53 _ _ _ _)
  refine v_ladd (i := 42) rfl (?_ : ky_V _ _ _ 54 _ _ _ _)
  refine v_topl (fun x6 ex6 => ?_)
  refine v_lstore_n (L' := [(0, .long x6)]) [0] (i := 43) rfl (Nat.le_of_ble_eq_true rfl) rfl (?_ : ky_V _ _ _ 55 _ _ _ _)
  refine v_lload_n (i := 44) (j := 0) rfl rfl (?_ : ky_V _ _ _ 56 _ _ _ _)
  refine v_l2i (i := 45) rfl rfl (?_ : ky_V _ _ _ 57 _ _ _ _)
  refine v_bipush (v := 127) (i := 46) rfl (by decide) (?_ : ky_V _ _ _ 59 _ _ _ _)
  refine v_iand (i := 47) rfl (?_ : ky_V _ _ _ 60 _ _ _ _)
  refine v_iret (v := ((Int64.toInt32 x6) &&& 127)) (ty := .int) (i := 48) rfl rfl rfl ?_
  subst ex1 ex2 ex3 ex4 ex5 ex6; unfold jl_bitCount at K; exact K
def sh_cellAt (p0 : Int32) (p1 : Int32) : Int32 := ((8 * p1) + p0)
set_option maxRecDepth 20000 in
theorem k_X8_cellAt {G : ky_GW} {d : Nat} {h : ky_HP} {Q : ky_RS → ky_HP → Prop} (p0 : Int32) (p1 : Int32) (K : Q (.inl (some (.int (sh_cellAt p0 p1)))) h) : ky_Call G d M_X8_cellAt [.int p0, .int p1] h Q := by
  refine ky_ofV (by decide +kernel) rfl ok_X8_cellAt (Nat.le_of_ble_eq_true rfl) ?_
  refine (?_ : ky_V _ _ _ 0 [(0, .int p0), (1, .int p1)] [] _ _)
  refine v_bipush (v := 8) (i := 0) rfl (by decide) (?_ : ky_V _ _ _ 2 _ _ _ _)
  refine v_iload_n (i := 1) (j := 1) rfl rfl (?_ : ky_V _ _ _ 3 _ _ _ _)
  refine v_imul (i := 2) rfl (?_ : ky_V _ _ _ 4 _ _ _ _)
  refine v_iload_n (i := 3) (j := 0) rfl rfl (?_ : ky_V _ _ _ 5 _ _ _ _)
  refine v_iadd (i := 4) rfl (?_ : ky_V _ _ _ 6 _ _ _ _)
  refine v_iret (v := ((8 * p1) + p0)) (ty := .int) (i := 5) rfl rfl rfl ?_
  unfold sh_cellAt at K; exact K
def ws_isMove (p0 : Int32) : Int32 := (if p0 < 0 then 0 else (if 7 ≤ p0 then 0 else 1))
set_option maxRecDepth 20000 in
theorem k_X11_isMove {G : ky_GW} {d : Nat} {h : ky_HP} {Q : ky_RS → ky_HP → Prop} (p0 : Int32) (K : Q (.inl (some (.int (ws_isMove p0)))) h) : ky_Call G d M_X11_isMove [.int p0] h Q := by
  refine ky_ofV (by decide +kernel) rfl ok_X11_isMove (Nat.le_of_ble_eq_true rfl) ?_
  refine (?_ : ky_V _ _ _ 0 [(0, .int p0)] [] _ _)
  refine v_iload_n (i := 0) (j := 0) rfl rfl (?_ : ky_V _ _ _ 1 _ _ _ _)
  refine v_if_lt (tgt := 14) (i := 1) rfl (by decide) (fun c1 => ?_) (fun c1 => ?_)
  · refine v_iconst (v := 0) (i := 7) rfl (by decide) (?_ : ky_V _ _ _ 15 _ _ _ _)
    refine v_iret (v := 0) (ty := .boolean) (i := 8) rfl rfl (by decide) ?_
    unfold ws_isMove at K; rw [if_pos c1] at K; exact K
  · refine v_iload_n (i := 2) (j := 0) rfl rfl (?_ : ky_V _ _ _ 5 _ _ _ _)
    refine v_bipush (v := 7) (i := 3) rfl (by decide) (?_ : ky_V _ _ _ 7 _ _ _ _)
    refine v_icmp_ge (tgt := 14) (i := 4) rfl (by decide) (fun c2 => ?_) (fun c2 => ?_)
    · refine v_iconst (v := 0) (i := 7) rfl (by decide) (?_ : ky_V _ _ _ 15 _ _ _ _)
      refine v_iret (v := 0) (ty := .boolean) (i := 8) rfl rfl (by decide) ?_
      unfold ws_isMove at K; rw [if_neg c1, if_pos c2] at K; exact K
    · refine v_iconst (v := 1) (i := 5) rfl (by decide) (?_ : ky_V _ _ _ 11 _ _ _ _)
      refine v_goto (tgt := 15) (i := 6) rfl (by decide) (?_ : ky_V _ _ _ 15 _ _ _ _)
      refine v_iret (v := 1) (ty := .boolean) (i := 8) rfl rfl (by decide) ?_
      unfold ws_isMove at K; rw [if_neg c1, if_neg c2] at K; exact K
theorem kb_X11_isMove (p0 : Int32) : (ws_isMove p0) = 0 ∨ (ws_isMove p0) = 1 := by
  unfold ws_isMove
  first | exact Or.inl rfl | exact Or.inr rfl | (split <;> first | exact Or.inl rfl | exact Or.inr rfl | (split <;> first | exact Or.inl rfl | exact Or.inr rfl | (split <;> first | exact Or.inl rfl | exact Or.inr rfl)))
def ws_isCell (p0 : Int32) : Int32 := (if p0 < 0 then 0 else (if 64 ≤ p0 then 0 else 1))
set_option maxRecDepth 20000 in
theorem k_X11_isCell {G : ky_GW} {d : Nat} {h : ky_HP} {Q : ky_RS → ky_HP → Prop} (p0 : Int32) (K : Q (.inl (some (.int (ws_isCell p0)))) h) : ky_Call G d M_X11_isCell [.int p0] h Q := by
  refine ky_ofV (by decide +kernel) rfl ok_X11_isCell (Nat.le_of_ble_eq_true rfl) ?_
  refine (?_ : ky_V _ _ _ 0 [(0, .int p0)] [] _ _)
  refine v_iload_n (i := 0) (j := 0) rfl rfl (?_ : ky_V _ _ _ 1 _ _ _ _)
  refine v_if_lt (tgt := 14) (i := 1) rfl (by decide) (fun c1 => ?_) (fun c1 => ?_)
  · refine v_iconst (v := 0) (i := 7) rfl (by decide) (?_ : ky_V _ _ _ 15 _ _ _ _)
    refine v_iret (v := 0) (ty := .boolean) (i := 8) rfl rfl (by decide) ?_
    unfold ws_isCell at K; rw [if_pos c1] at K; exact K
  · refine v_iload_n (i := 2) (j := 0) rfl rfl (?_ : ky_V _ _ _ 5 _ _ _ _)
    refine v_bipush (v := 64) (i := 3) rfl (by decide) (?_ : ky_V _ _ _ 7 _ _ _ _)
    refine v_icmp_ge (tgt := 14) (i := 4) rfl (by decide) (fun c2 => ?_) (fun c2 => ?_)
    · refine v_iconst (v := 0) (i := 7) rfl (by decide) (?_ : ky_V _ _ _ 15 _ _ _ _)
      refine v_iret (v := 0) (ty := .boolean) (i := 8) rfl rfl (by decide) ?_
      unfold ws_isCell at K; rw [if_neg c1, if_pos c2] at K; exact K
    · refine v_iconst (v := 1) (i := 5) rfl (by decide) (?_ : ky_V _ _ _ 11 _ _ _ _)
      refine v_goto (tgt := 15) (i := 6) rfl (by decide) (?_ : ky_V _ _ _ 15 _ _ _ _)
      refine v_iret (v := 1) (ty := .boolean) (i := 8) rfl rfl (by decide) ?_
      unfold ws_isCell at K; rw [if_neg c1, if_neg c2] at K; exact K
theorem kb_X11_isCell (p0 : Int32) : (ws_isCell p0) = 0 ∨ (ws_isCell p0) = 1 := by
  unfold ws_isCell
  first | exact Or.inl rfl | exact Or.inr rfl | (split <;> first | exact Or.inl rfl | exact Or.inr rfl | (split <;> first | exact Or.inl rfl | exact Or.inr rfl | (split <;> first | exact Or.inl rfl | exact Or.inr rfl)))
def sh_has (p0 : Int64) (p1 : Int32) : Int32 := (if (lg_cmp ((Int64.toUInt64 p0 >>> ((Int32.toInt64 p1).toUInt64 &&& Int64.toUInt64 63)).toInt64 &&& 1) 1) = 0 then 1 else 0)
set_option maxRecDepth 20000 in
theorem k_X8_has {G : ky_GW} {d : Nat} {h : ky_HP} {Q : ky_RS → ky_HP → Prop} (p0 : Int64) (p1 : Int32) (K : Q (.inl (some (.int (sh_has p0 p1)))) h) : ky_Call G d M_X8_has [.long p0, .int p1] h Q := by
  refine ky_ofV (by decide +kernel) rfl ok_X8_has (Nat.le_of_ble_eq_true rfl) ?_
  refine (?_ : ky_V _ _ _ 0 [(0, .long p0), (2, .int p1)] [] _ _)
  refine v_lload_n (i := 0) (j := 0) rfl rfl (?_ : ky_V _ _ _ 1 _ _ _ _)
  refine v_iload_n (i := 1) (j := 1) rfl rfl (?_ : ky_V _ _ _ 2 _ _ _ _)
  refine v_lushr (i := 2) rfl rfl (?_ : ky_V _ _ _ 3 _ _ _ _)
  refine v_lconst (v := 1) (i := 3) rfl (by decide) (?_ : ky_V _ _ _ 4 _ _ _ _)
  refine v_land (i := 4) rfl (?_ : ky_V _ _ _ 5 _ _ _ _)
  refine v_lconst (v := 1) (i := 5) rfl (by decide) (?_ : ky_V _ _ _ 6 _ _ _ _)
  refine v_lcmp (i := 6) rfl (?_ : ky_V _ _ _ 7 _ _ _ _)
  refine v_if_ne (tgt := 14) (i := 7) rfl (by decide) (fun c1 => ?_) (fun c1 => ?_)
  · refine v_iconst (v := 0) (i := 10) rfl (by decide) (?_ : ky_V _ _ _ 15 _ _ _ _)
    refine v_iret (v := 0) (ty := .boolean) (i := 11) rfl rfl (by decide) ?_
    unfold sh_has at K; rw [if_neg c1] at K; exact K
  · refine v_iconst (v := 1) (i := 8) rfl (by decide) (?_ : ky_V _ _ _ 11 _ _ _ _)
    refine v_goto (tgt := 15) (i := 9) rfl (by decide) (?_ : ky_V _ _ _ 15 _ _ _ _)
    refine v_iret (v := 1) (ty := .boolean) (i := 11) rfl rfl (by decide) ?_
    unfold sh_has at K; rw [if_pos c1] at K; exact K
theorem kb_X8_has (p0 : Int64) (p1 : Int32) : (sh_has p0 p1) = 0 ∨ (sh_has p0 p1) = 1 := by
  unfold sh_has
  first | exact Or.inl rfl | exact Or.inr rfl | (split <;> first | exact Or.inl rfl | exact Or.inr rfl | (split <;> first | exact Or.inl rfl | exact Or.inr rfl | (split <;> first | exact Or.inl rfl | exact Or.inr rfl)))
def sh_distance (p0 : Int32) (p1 : Int32) : Int32 := ((mt_abs ((p0 - p0 / 8 * 8) - (p1 - p1 / 8 * 8))) + (mt_abs ((p0 / 8) - (p1 / 8))))
set_option maxRecDepth 20000 in
theorem k_X8_distance {G : ky_GW} {d : Nat} {h : ky_HP} {Q : ky_RS → ky_HP → Prop} (p0 : Int32) (p1 : Int32) (K : Q (.inl (some (.int (sh_distance p0 p1)))) h) : ky_Call G (d + 1) M_X8_distance [.int p0, .int p1] h Q := by
  refine ky_ofV (by decide +kernel) rfl ok_X8_distance (Nat.le_of_ble_eq_true rfl) ?_
  refine (?_ : ky_V _ _ _ 0 [(0, .int p0), (1, .int p1)] [] _ _)
  refine v_iload_n (i := 0) (j := 0) rfl rfl (?_ : ky_V _ _ _ 1 _ _ _ _)
  refine v_bipush (v := 8) (i := 1) rfl (by decide) (?_ : ky_V _ _ _ 3 _ _ _ _)
  refine v_irem (i := 2) rfl (by decide) (?_ : ky_V _ _ _ 4 _ _ _ _)
  refine v_iload_n (i := 3) (j := 1) rfl rfl (?_ : ky_V _ _ _ 5 _ _ _ _)
  refine v_bipush (v := 8) (i := 4) rfl (by decide) (?_ : ky_V _ _ _ 7 _ _ _ _)
  refine v_irem (i := 5) rfl (by decide) (?_ : ky_V _ _ _ 8 _ _ _ _)
  refine v_isub (i := 6) rfl (?_ : ky_V _ _ _ 9 _ _ _ _)
  refine cl_X8_86 rfl (i := 7) rfl (Nat.le_of_ble_eq_true rfl) (?_ : ky_V _ _ _ 12 _ _ _ _)
  refine v_iload_n (i := 8) (j := 0) rfl rfl (?_ : ky_V _ _ _ 13 _ _ _ _)
  refine v_bipush (v := 8) (i := 9) rfl (by decide) (?_ : ky_V _ _ _ 15 _ _ _ _)
  refine v_idiv (i := 10) rfl (by decide) (?_ : ky_V _ _ _ 16 _ _ _ _)
  refine v_iload_n (i := 11) (j := 1) rfl rfl (?_ : ky_V _ _ _ 17 _ _ _ _)
  refine v_bipush (v := 8) (i := 12) rfl (by decide) (?_ : ky_V _ _ _ 19 _ _ _ _)
  refine v_idiv (i := 13) rfl (by decide) (?_ : ky_V _ _ _ 20 _ _ _ _)
  refine v_isub (i := 14) rfl (?_ : ky_V _ _ _ 21 _ _ _ _)
  refine cl_X8_86 rfl (i := 15) rfl (Nat.le_of_ble_eq_true rfl) (?_ : ky_V _ _ _ 24 _ _ _ _)
  refine v_iadd (i := 16) rfl (?_ : ky_V _ _ _ 25 _ _ _ _)
  refine v_iret (v := ((mt_abs ((p0 - p0 / 8 * 8) - (p1 - p1 / 8 * 8))) + (mt_abs ((p0 / 8) - (p1 / 8))))) (ty := .int) (i := 17) rfl rfl rfl ?_
  unfold sh_distance at K; exact K
def ws_isLeg (p0 : Int32) : Int32 := (if p0 < 0 then 0 else (if 2 ≤ p0 then 0 else 1))
set_option maxRecDepth 20000 in
theorem k_X11_isLeg {G : ky_GW} {d : Nat} {h : ky_HP} {Q : ky_RS → ky_HP → Prop} (p0 : Int32) (K : Q (.inl (some (.int (ws_isLeg p0)))) h) : ky_Call G d M_X11_isLeg [.int p0] h Q := by
  refine ky_ofV (by decide +kernel) rfl ok_X11_isLeg (Nat.le_of_ble_eq_true rfl) ?_
  refine (?_ : ky_V _ _ _ 0 [(0, .int p0)] [] _ _)
  refine v_iload_n (i := 0) (j := 0) rfl rfl (?_ : ky_V _ _ _ 1 _ _ _ _)
  refine v_if_lt (tgt := 13) (i := 1) rfl (by decide) (fun c1 => ?_) (fun c1 => ?_)
  · refine v_iconst (v := 0) (i := 7) rfl (by decide) (?_ : ky_V _ _ _ 14 _ _ _ _)
    refine v_iret (v := 0) (ty := .boolean) (i := 8) rfl rfl (by decide) ?_
    unfold ws_isLeg at K; rw [if_pos c1] at K; exact K
  · refine v_iload_n (i := 2) (j := 0) rfl rfl (?_ : ky_V _ _ _ 5 _ _ _ _)
    refine v_iconst (v := 2) (i := 3) rfl (by decide) (?_ : ky_V _ _ _ 6 _ _ _ _)
    refine v_icmp_ge (tgt := 13) (i := 4) rfl (by decide) (fun c2 => ?_) (fun c2 => ?_)
    · refine v_iconst (v := 0) (i := 7) rfl (by decide) (?_ : ky_V _ _ _ 14 _ _ _ _)
      refine v_iret (v := 0) (ty := .boolean) (i := 8) rfl rfl (by decide) ?_
      unfold ws_isLeg at K; rw [if_neg c1, if_pos c2] at K; exact K
    · refine v_iconst (v := 1) (i := 5) rfl (by decide) (?_ : ky_V _ _ _ 10 _ _ _ _)
      refine v_goto (tgt := 14) (i := 6) rfl (by decide) (?_ : ky_V _ _ _ 14 _ _ _ _)
      refine v_iret (v := 1) (ty := .boolean) (i := 8) rfl rfl (by decide) ?_
      unfold ws_isLeg at K; rw [if_neg c1, if_neg c2] at K; exact K
theorem kb_X11_isLeg (p0 : Int32) : (ws_isLeg p0) = 0 ∨ (ws_isLeg p0) = 1 := by
  unfold ws_isLeg
  first | exact Or.inl rfl | exact Or.inr rfl | (split <;> first | exact Or.inl rfl | exact Or.inr rfl | (split <;> first | exact Or.inl rfl | exact Or.inr rfl | (split <;> first | exact Or.inl rfl | exact Or.inr rfl)))
def po_deeperByOne (p0 : Int32) : Int32 := (po_withDepths p0 (mt_min 9 ((po_depth0 p0) + 1)) (mt_min 9 ((po_depth1 p0) + 1)))
set_option maxRecDepth 20000 in
theorem k_X5_deeperByOne {G : ky_GW} {d : Nat} {h : ky_HP} {Q : ky_RS → ky_HP → Prop} (p0 : Int32) (K : Q (.inl (some (.int (po_deeperByOne p0)))) h) : ky_Call G (d + 2) M_X5_deeperByOne [.int p0] h Q := by
  refine ky_ofV (by decide +kernel) rfl ok_X5_deeperByOne (Nat.le_of_ble_eq_true rfl) ?_
  refine (?_ : ky_V _ _ _ 0 [(0, .int p0)] [] _ _)
  refine v_iload_n (i := 0) (j := 0) rfl rfl (?_ : ky_V _ _ _ 1 _ _ _ _)
  refine v_bipush (v := 9) (i := 1) rfl (by decide) (?_ : ky_V _ _ _ 3 _ _ _ _)
  refine v_iload_n (i := 2) (j := 0) rfl rfl (?_ : ky_V _ _ _ 4 _ _ _ _)
  refine cl_X5_9 (As := [.int p0]) rfl (i := 3) rfl rfl rfl (Nat.le_of_ble_eq_true rfl) (k_X5_depth0 p0 ⟨_, rfl, (?_ : ky_V _ _ _ 7 _ [.int ((po_depth0 p0)), .int 9, .int p0] _ _)⟩)
  refine v_iconst (v := 1) (i := 4) rfl (by decide) (?_ : ky_V _ _ _ 8 _ _ _ _)
  refine v_iadd (i := 5) rfl (?_ : ky_V _ _ _ 9 _ _ _ _)
  refine cl_X5_28 rfl (i := 6) rfl (Nat.le_of_ble_eq_true rfl) (?_ : ky_V _ _ _ 12 _ _ _ _)
  refine v_bipush (v := 9) (i := 7) rfl (by decide) (?_ : ky_V _ _ _ 14 _ _ _ _)
  refine v_iload_n (i := 8) (j := 0) rfl rfl (?_ : ky_V _ _ _ 15 _ _ _ _)
  refine cl_X5_15 (As := [.int p0]) rfl (i := 9) rfl rfl rfl (Nat.le_of_ble_eq_true rfl) (k_X5_depth1 p0 ⟨_, rfl, (?_ : ky_V _ _ _ 18 _ [.int ((po_depth1 p0)), .int 9, .int ((mt_min 9 ((po_depth0 p0) + 1))), .int p0] _ _)⟩)
  refine v_iconst (v := 1) (i := 10) rfl (by decide) (?_ : ky_V _ _ _ 19 _ _ _ _)
  refine v_iadd (i := 11) rfl (?_ : ky_V _ _ _ 20 _ _ _ _)
  refine cl_X5_28 rfl (i := 12) rfl (Nat.le_of_ble_eq_true rfl) (?_ : ky_V _ _ _ 23 _ _ _ _)
  refine cl_X5_34 (As := [.int p0, .int ((mt_min 9 ((po_depth0 p0) + 1))), .int ((mt_min 9 ((po_depth1 p0) + 1)))]) rfl (i := 13) rfl rfl rfl (Nat.le_of_ble_eq_true rfl) (k_X5_withDepths p0 (mt_min 9 ((po_depth0 p0) + 1)) (mt_min 9 ((po_depth1 p0) + 1)) ⟨_, rfl, (?_ : ky_V _ _ _ 26 _ [.int ((po_withDepths p0 (mt_min 9 ((po_depth0 p0) + 1)) (mt_min 9 ((po_depth1 p0) + 1))))] _ _)⟩)
  refine v_iret (v := (po_withDepths p0 (mt_min 9 ((po_depth0 p0) + 1)) (mt_min 9 ((po_depth1 p0) + 1)))) (ty := .int) (i := 14) rfl rfl rfl ?_
  unfold po_deeperByOne at K; exact K
def po_together (p0 : Int32) : Int32 := ((po_depth0 p0) + (po_depth1 p0))
set_option maxRecDepth 20000 in
theorem k_X5_together {G : ky_GW} {d : Nat} {h : ky_HP} {Q : ky_RS → ky_HP → Prop} (p0 : Int32) (K : Q (.inl (some (.int (po_together p0)))) h) : ky_Call G (d + 1) M_X5_together [.int p0] h Q := by
  refine ky_ofV (by decide +kernel) rfl ok_X5_together (Nat.le_of_ble_eq_true rfl) ?_
  refine (?_ : ky_V _ _ _ 0 [(0, .int p0)] [] _ _)
  refine v_iload_n (i := 0) (j := 0) rfl rfl (?_ : ky_V _ _ _ 1 _ _ _ _)
  refine cl_X5_9 (As := [.int p0]) rfl (i := 1) rfl rfl rfl (Nat.le_of_ble_eq_true rfl) (k_X5_depth0 p0 ⟨_, rfl, (?_ : ky_V _ _ _ 4 _ [.int ((po_depth0 p0))] _ _)⟩)
  refine v_iload_n (i := 2) (j := 0) rfl rfl (?_ : ky_V _ _ _ 5 _ _ _ _)
  refine cl_X5_15 (As := [.int p0]) rfl (i := 3) rfl rfl rfl (Nat.le_of_ble_eq_true rfl) (k_X5_depth1 p0 ⟨_, rfl, (?_ : ky_V _ _ _ 8 _ [.int ((po_depth1 p0)), .int ((po_depth0 p0))] _ _)⟩)
  refine v_iadd (i := 4) rfl (?_ : ky_V _ _ _ 9 _ _ _ _)
  refine v_iret (v := ((po_depth0 p0) + (po_depth1 p0))) (ty := .int) (i := 5) rfl rfl rfl ?_
  unfold po_together at K; exact K
def ws_isForce (p0 : Int32) : Int32 := (if p0 < 1 then 0 else (if 20 < p0 then 0 else 1))
set_option maxRecDepth 20000 in
theorem k_X11_isForce {G : ky_GW} {d : Nat} {h : ky_HP} {Q : ky_RS → ky_HP → Prop} (p0 : Int32) (K : Q (.inl (some (.int (ws_isForce p0)))) h) : ky_Call G d M_X11_isForce [.int p0] h Q := by
  refine ky_ofV (by decide +kernel) rfl ok_X11_isForce (Nat.le_of_ble_eq_true rfl) ?_
  refine (?_ : ky_V _ _ _ 0 [(0, .int p0)] [] _ _)
  refine v_iload_n (i := 0) (j := 0) rfl rfl (?_ : ky_V _ _ _ 1 _ _ _ _)
  refine v_iconst (v := 1) (i := 1) rfl (by decide) (?_ : ky_V _ _ _ 2 _ _ _ _)
  refine v_icmp_lt (tgt := 15) (i := 2) rfl (by decide) (fun c1 => ?_) (fun c1 => ?_)
  · refine v_iconst (v := 0) (i := 8) rfl (by decide) (?_ : ky_V _ _ _ 16 _ _ _ _)
    refine v_iret (v := 0) (ty := .boolean) (i := 9) rfl rfl (by decide) ?_
    unfold ws_isForce at K; rw [if_pos c1] at K; exact K
  · refine v_iload_n (i := 3) (j := 0) rfl rfl (?_ : ky_V _ _ _ 6 _ _ _ _)
    refine v_bipush (v := 20) (i := 4) rfl (by decide) (?_ : ky_V _ _ _ 8 _ _ _ _)
    refine v_icmp_gt (tgt := 15) (i := 5) rfl (by decide) (fun c2 => ?_) (fun c2 => ?_)
    · refine v_iconst (v := 0) (i := 8) rfl (by decide) (?_ : ky_V _ _ _ 16 _ _ _ _)
      refine v_iret (v := 0) (ty := .boolean) (i := 9) rfl rfl (by decide) ?_
      unfold ws_isForce at K; rw [if_neg c1, if_pos c2] at K; exact K
    · refine v_iconst (v := 1) (i := 6) rfl (by decide) (?_ : ky_V _ _ _ 12 _ _ _ _)
      refine v_goto (tgt := 16) (i := 7) rfl (by decide) (?_ : ky_V _ _ _ 16 _ _ _ _)
      refine v_iret (v := 1) (ty := .boolean) (i := 9) rfl rfl (by decide) ?_
      unfold ws_isForce at K; rw [if_neg c1, if_neg c2] at K; exact K
theorem kb_X11_isForce (p0 : Int32) : (ws_isForce p0) = 0 ∨ (ws_isForce p0) = 1 := by
  unfold ws_isForce
  first | exact Or.inl rfl | exact Or.inr rfl | (split <;> first | exact Or.inl rfl | exact Or.inr rfl | (split <;> first | exact Or.inl rfl | exact Or.inr rfl | (split <;> first | exact Or.inl rfl | exact Or.inr rfl)))
def po_lift (p0 : Int32) (p1 : Int32) : Int32 := (if (po_lying p0) = 1 then (mt_max 0 ((p1 - ((5 - (po_thin p0)) / 2)) - 0)) else (mt_max 0 ((p1 - ((5 - (po_thin p0)) / 2)) - 5)))
set_option maxRecDepth 20000 in
theorem k_X5_lift {G : ky_GW} {d : Nat} {h : ky_HP} {Q : ky_RS → ky_HP → Prop} (p0 : Int32) (p1 : Int32) (K : Q (.inl (some (.int (po_lift p0 p1)))) h) : ky_Call G (d + 1) M_X5_lift [.int p0, .int p1] h Q := by
  refine ky_ofV (by decide +kernel) rfl ok_X5_lift (Nat.le_of_ble_eq_true rfl) ?_
  refine (?_ : ky_V _ _ _ 0 [(0, .int p0), (1, .int p1)] [] _ _)
  refine v_iload_n (i := 0) (j := 1) rfl rfl (?_ : ky_V _ _ _ 1 _ _ _ _)
  refine v_iconst (v := 5) (i := 1) rfl (by decide) (?_ : ky_V _ _ _ 2 _ _ _ _)
  refine v_iload_n (i := 2) (j := 0) rfl rfl (?_ : ky_V _ _ _ 3 _ _ _ _)
  refine cl_X5_18 (As := [.int p0]) rfl (i := 3) rfl rfl rfl (Nat.le_of_ble_eq_true rfl) (k_X5_thin p0 ⟨_, rfl, (?_ : ky_V _ _ _ 6 _ [.int ((po_thin p0)), .int 5, .int p1] _ _)⟩)
  refine v_isub (i := 4) rfl (?_ : ky_V _ _ _ 7 _ _ _ _)
  refine v_iconst (v := 2) (i := 5) rfl (by decide) (?_ : ky_V _ _ _ 8 _ _ _ _)
  refine v_idiv (i := 6) rfl (by decide) (?_ : ky_V _ _ _ 9 _ _ _ _)
  refine v_isub (i := 7) rfl (?_ : ky_V _ _ _ 10 _ _ _ _)
  refine v_iload_n (i := 8) (j := 0) rfl rfl (?_ : ky_V _ _ _ 11 _ _ _ _)
  refine cl_X5_21 (As := [.int p0]) rfl (i := 9) rfl rfl rfl (Nat.le_of_ble_eq_true rfl) (k_X5_lying p0 ⟨_, rfl, (?_ : ky_V _ _ _ 14 _ [.int ((po_lying p0)), .int ((p1 - ((5 - (po_thin p0)) / 2)))] _ _)⟩)
  refine v_iconst (v := 1) (i := 10) rfl (by decide) (?_ : ky_V _ _ _ 15 _ _ _ _)
  refine v_icmp_ne (tgt := 22) (i := 11) rfl (by decide) (fun c1 => ?_) (fun c1 => ?_)
  · refine v_iconst (v := 5) (i := 14) rfl (by decide) (?_ : ky_V _ _ _ 23 _ _ _ _)
    refine v_isub (i := 15) rfl (?_ : ky_V _ _ _ 24 _ _ _ _)
    refine v_topi (fun x2 ex2 => ?_)
    refine v_istore_n (L' := [(0, .int p0), (1, .int p1), (2, .int x2)]) [1, 2, 0] (i := 16) rfl (Nat.le_of_ble_eq_true rfl) rfl (?_ : ky_V _ _ _ 25 _ _ _ _)
    refine v_iconst (v := 0) (i := 17) rfl (by decide) (?_ : ky_V _ _ _ 26 _ _ _ _)
    refine v_iload_n (i := 18) (j := 2) rfl rfl (?_ : ky_V _ _ _ 27 _ _ _ _)
    refine cl_X5_38 rfl (i := 19) rfl (Nat.le_of_ble_eq_true rfl) (?_ : ky_V _ _ _ 30 _ _ _ _)
    refine v_iret (v := (mt_max 0 x2)) (ty := .int) (i := 20) rfl rfl rfl ?_
    subst ex2; unfold po_lift at K; rw [if_neg c1] at K; exact K
  · refine v_iconst (v := 0) (i := 12) rfl (by decide) (?_ : ky_V _ _ _ 19 _ _ _ _)
    refine v_goto (tgt := 23) (i := 13) rfl (by decide) (?_ : ky_V _ _ _ 23 _ _ _ _)
    refine v_isub (i := 15) rfl (?_ : ky_V _ _ _ 24 _ _ _ _)
    refine v_topi (fun x3 ex3 => ?_)
    refine v_istore_n (L' := [(0, .int p0), (1, .int p1), (2, .int x3)]) [1, 2, 0] (i := 16) rfl (Nat.le_of_ble_eq_true rfl) rfl (?_ : ky_V _ _ _ 25 _ _ _ _)
    refine v_iconst (v := 0) (i := 17) rfl (by decide) (?_ : ky_V _ _ _ 26 _ _ _ _)
    refine v_iload_n (i := 18) (j := 2) rfl rfl (?_ : ky_V _ _ _ 27 _ _ _ _)
    refine cl_X5_38 rfl (i := 19) rfl (Nat.le_of_ble_eq_true rfl) (?_ : ky_V _ _ _ 30 _ _ _ _)
    refine v_iret (v := (mt_max 0 x3)) (ty := .int) (i := 20) rfl rfl rfl ?_
    subst ex3; unfold po_lift at K; rw [if_pos c1] at K; exact K
def bo_harmOf (p0 : Int32) : Int32 := (mt_max 0 (p0 - 8))
set_option maxRecDepth 20000 in
theorem k_X1_harmOf {G : ky_GW} {d : Nat} {h : ky_HP} {Q : ky_RS → ky_HP → Prop} (p0 : Int32) (K : Q (.inl (some (.int (bo_harmOf p0)))) h) : ky_Call G (d + 1) M_X1_harmOf [.int p0] h Q := by
  refine ky_ofV (by decide +kernel) rfl ok_X1_harmOf (Nat.le_of_ble_eq_true rfl) ?_
  refine (?_ : ky_V _ _ _ 0 [(0, .int p0)] [] _ _)
  refine v_iconst (v := 0) (i := 0) rfl (by decide) (?_ : ky_V _ _ _ 1 _ _ _ _)
  refine v_iload_n (i := 1) (j := 0) rfl rfl (?_ : ky_V _ _ _ 2 _ _ _ _)
  refine v_bipush (v := 8) (i := 2) rfl (by decide) (?_ : ky_V _ _ _ 4 _ _ _ _)
  refine v_isub (i := 3) rfl (?_ : ky_V _ _ _ 5 _ _ _ _)
  refine cl_X1_52 rfl (i := 4) rfl (Nat.le_of_ble_eq_true rfl) (?_ : ky_V _ _ _ 8 _ _ _ _)
  refine v_iret (v := (mt_max 0 (p0 - 8))) (ty := .int) (i := 5) rfl rfl rfl ?_
  unfold bo_harmOf at K; exact K
def bo_oneMore (p0 : Int32) : Int32 := (mt_min 9 (p0 + 1))
set_option maxRecDepth 20000 in
theorem k_X1_oneMore {G : ky_GW} {d : Nat} {h : ky_HP} {Q : ky_RS → ky_HP → Prop} (p0 : Int32) (K : Q (.inl (some (.int (bo_oneMore p0)))) h) : ky_Call G (d + 1) M_X1_oneMore [.int p0] h Q := by
  refine ky_ofV (by decide +kernel) rfl ok_X1_oneMore (Nat.le_of_ble_eq_true rfl) ?_
  refine (?_ : ky_V _ _ _ 0 [(0, .int p0)] [] _ _)
  refine v_bipush (v := 9) (i := 0) rfl (by decide) (?_ : ky_V _ _ _ 2 _ _ _ _)
  refine v_iload_n (i := 1) (j := 0) rfl rfl (?_ : ky_V _ _ _ 3 _ _ _ _)
  refine v_iconst (v := 1) (i := 2) rfl (by decide) (?_ : ky_V _ _ _ 4 _ _ _ _)
  refine v_iadd (i := 3) rfl (?_ : ky_V _ _ _ 5 _ _ _ _)
  refine cl_X1_46 rfl (i := 4) rfl (Nat.le_of_ble_eq_true rfl) (?_ : ky_V _ _ _ 8 _ _ _ _)
  refine v_iret (v := (mt_min 9 (p0 + 1))) (ty := .int) (i := 5) rfl rfl rfl ?_
  unfold bo_oneMore at K; exact K
def po_lyingBack (p0 : Int32) : Int32 := (p0 ||| 1)
set_option maxRecDepth 20000 in
theorem k_X5_lyingBack {G : ky_GW} {d : Nat} {h : ky_HP} {Q : ky_RS → ky_HP → Prop} (p0 : Int32) (K : Q (.inl (some (.int (po_lyingBack p0)))) h) : ky_Call G d M_X5_lyingBack [.int p0] h Q := by
  refine ky_ofV (by decide +kernel) rfl ok_X5_lyingBack (Nat.le_of_ble_eq_true rfl) ?_
  refine (?_ : ky_V _ _ _ 0 [(0, .int p0)] [] _ _)
  refine v_iload_n (i := 0) (j := 0) rfl rfl (?_ : ky_V _ _ _ 1 _ _ _ _)
  refine v_iconst (v := 1) (i := 1) rfl (by decide) (?_ : ky_V _ _ _ 2 _ _ _ _)
  refine v_ior (i := 2) rfl (?_ : ky_V _ _ _ 3 _ _ _ _)
  refine v_iret (v := (p0 ||| 1)) (ty := .int) (i := 3) rfl rfl rfl ?_
  unfold po_lyingBack at K; exact K
def ws_isRun (p0 : Int32) : Int32 := (if p0 < 1 then 0 else (if 200 < p0 then 0 else 1))
set_option maxRecDepth 20000 in
theorem k_X11_isRun {G : ky_GW} {d : Nat} {h : ky_HP} {Q : ky_RS → ky_HP → Prop} (p0 : Int32) (K : Q (.inl (some (.int (ws_isRun p0)))) h) : ky_Call G d M_X11_isRun [.int p0] h Q := by
  refine ky_ofV (by decide +kernel) rfl ok_X11_isRun (Nat.le_of_ble_eq_true rfl) ?_
  refine (?_ : ky_V _ _ _ 0 [(0, .int p0)] [] _ _)
  refine v_iload_n (i := 0) (j := 0) rfl rfl (?_ : ky_V _ _ _ 1 _ _ _ _)
  refine v_iconst (v := 1) (i := 1) rfl (by decide) (?_ : ky_V _ _ _ 2 _ _ _ _)
  refine v_icmp_lt (tgt := 16) (i := 2) rfl (by decide) (fun c1 => ?_) (fun c1 => ?_)
  · refine v_iconst (v := 0) (i := 8) rfl (by decide) (?_ : ky_V _ _ _ 17 _ _ _ _)
    refine v_iret (v := 0) (ty := .boolean) (i := 9) rfl rfl (by decide) ?_
    unfold ws_isRun at K; rw [if_pos c1] at K; exact K
  · refine v_iload_n (i := 3) (j := 0) rfl rfl (?_ : ky_V _ _ _ 6 _ _ _ _)
    refine v_sipush (v := 200) (i := 4) rfl (by decide) (?_ : ky_V _ _ _ 9 _ _ _ _)
    refine v_icmp_gt (tgt := 16) (i := 5) rfl (by decide) (fun c2 => ?_) (fun c2 => ?_)
    · refine v_iconst (v := 0) (i := 8) rfl (by decide) (?_ : ky_V _ _ _ 17 _ _ _ _)
      refine v_iret (v := 0) (ty := .boolean) (i := 9) rfl rfl (by decide) ?_
      unfold ws_isRun at K; rw [if_neg c1, if_pos c2] at K; exact K
    · refine v_iconst (v := 1) (i := 6) rfl (by decide) (?_ : ky_V _ _ _ 13 _ _ _ _)
      refine v_goto (tgt := 17) (i := 7) rfl (by decide) (?_ : ky_V _ _ _ 17 _ _ _ _)
      refine v_iret (v := 1) (ty := .boolean) (i := 9) rfl rfl (by decide) ?_
      unfold ws_isRun at K; rw [if_neg c1, if_neg c2] at K; exact K
theorem kb_X11_isRun (p0 : Int32) : (ws_isRun p0) = 0 ∨ (ws_isRun p0) = 1 := by
  unfold ws_isRun
  first | exact Or.inl rfl | exact Or.inr rfl | (split <;> first | exact Or.inl rfl | exact Or.inr rfl | (split <;> first | exact Or.inl rfl | exact Or.inr rfl | (split <;> first | exact Or.inl rfl | exact Or.inr rfl)))
def ws_isWeight (p0 : Int32) : Int32 := (if p0 < 1 then 0 else (if 9 < p0 then 0 else 1))
set_option maxRecDepth 20000 in
theorem k_X11_isWeight {G : ky_GW} {d : Nat} {h : ky_HP} {Q : ky_RS → ky_HP → Prop} (p0 : Int32) (K : Q (.inl (some (.int (ws_isWeight p0)))) h) : ky_Call G d M_X11_isWeight [.int p0] h Q := by
  refine ky_ofV (by decide +kernel) rfl ok_X11_isWeight (Nat.le_of_ble_eq_true rfl) ?_
  refine (?_ : ky_V _ _ _ 0 [(0, .int p0)] [] _ _)
  refine v_iload_n (i := 0) (j := 0) rfl rfl (?_ : ky_V _ _ _ 1 _ _ _ _)
  refine v_iconst (v := 1) (i := 1) rfl (by decide) (?_ : ky_V _ _ _ 2 _ _ _ _)
  refine v_icmp_lt (tgt := 15) (i := 2) rfl (by decide) (fun c1 => ?_) (fun c1 => ?_)
  · refine v_iconst (v := 0) (i := 8) rfl (by decide) (?_ : ky_V _ _ _ 16 _ _ _ _)
    refine v_iret (v := 0) (ty := .boolean) (i := 9) rfl rfl (by decide) ?_
    unfold ws_isWeight at K; rw [if_pos c1] at K; exact K
  · refine v_iload_n (i := 3) (j := 0) rfl rfl (?_ : ky_V _ _ _ 6 _ _ _ _)
    refine v_bipush (v := 9) (i := 4) rfl (by decide) (?_ : ky_V _ _ _ 8 _ _ _ _)
    refine v_icmp_gt (tgt := 15) (i := 5) rfl (by decide) (fun c2 => ?_) (fun c2 => ?_)
    · refine v_iconst (v := 0) (i := 8) rfl (by decide) (?_ : ky_V _ _ _ 16 _ _ _ _)
      refine v_iret (v := 0) (ty := .boolean) (i := 9) rfl rfl (by decide) ?_
      unfold ws_isWeight at K; rw [if_neg c1, if_pos c2] at K; exact K
    · refine v_iconst (v := 1) (i := 6) rfl (by decide) (?_ : ky_V _ _ _ 12 _ _ _ _)
      refine v_goto (tgt := 16) (i := 7) rfl (by decide) (?_ : ky_V _ _ _ 16 _ _ _ _)
      refine v_iret (v := 1) (ty := .boolean) (i := 9) rfl rfl (by decide) ?_
      unfold ws_isWeight at K; rw [if_neg c1, if_neg c2] at K; exact K
theorem kb_X11_isWeight (p0 : Int32) : (ws_isWeight p0) = 0 ∨ (ws_isWeight p0) = 1 := by
  unfold ws_isWeight
  first | exact Or.inl rfl | exact Or.inr rfl | (split <;> first | exact Or.inl rfl | exact Or.inr rfl | (split <;> first | exact Or.inl rfl | exact Or.inr rfl | (split <;> first | exact Or.inl rfl | exact Or.inr rfl)))
def ws_isTrial (p0 : Int32) : Int32 := (if p0 < 0 then 0 else (if 40 < p0 then 0 else 1))
set_option maxRecDepth 20000 in
theorem k_X11_isTrial {G : ky_GW} {d : Nat} {h : ky_HP} {Q : ky_RS → ky_HP → Prop} (p0 : Int32) (K : Q (.inl (some (.int (ws_isTrial p0)))) h) : ky_Call G d M_X11_isTrial [.int p0] h Q := by
  refine ky_ofV (by decide +kernel) rfl ok_X11_isTrial (Nat.le_of_ble_eq_true rfl) ?_
  refine (?_ : ky_V _ _ _ 0 [(0, .int p0)] [] _ _)
  refine v_iload_n (i := 0) (j := 0) rfl rfl (?_ : ky_V _ _ _ 1 _ _ _ _)
  refine v_if_lt (tgt := 14) (i := 1) rfl (by decide) (fun c1 => ?_) (fun c1 => ?_)
  · refine v_iconst (v := 0) (i := 7) rfl (by decide) (?_ : ky_V _ _ _ 15 _ _ _ _)
    refine v_iret (v := 0) (ty := .boolean) (i := 8) rfl rfl (by decide) ?_
    unfold ws_isTrial at K; rw [if_pos c1] at K; exact K
  · refine v_iload_n (i := 2) (j := 0) rfl rfl (?_ : ky_V _ _ _ 5 _ _ _ _)
    refine v_bipush (v := 40) (i := 3) rfl (by decide) (?_ : ky_V _ _ _ 7 _ _ _ _)
    refine v_icmp_gt (tgt := 14) (i := 4) rfl (by decide) (fun c2 => ?_) (fun c2 => ?_)
    · refine v_iconst (v := 0) (i := 7) rfl (by decide) (?_ : ky_V _ _ _ 15 _ _ _ _)
      refine v_iret (v := 0) (ty := .boolean) (i := 8) rfl rfl (by decide) ?_
      unfold ws_isTrial at K; rw [if_neg c1, if_pos c2] at K; exact K
    · refine v_iconst (v := 1) (i := 5) rfl (by decide) (?_ : ky_V _ _ _ 11 _ _ _ _)
      refine v_goto (tgt := 15) (i := 6) rfl (by decide) (?_ : ky_V _ _ _ 15 _ _ _ _)
      refine v_iret (v := 1) (ty := .boolean) (i := 8) rfl rfl (by decide) ?_
      unfold ws_isTrial at K; rw [if_neg c1, if_neg c2] at K; exact K
theorem kb_X11_isTrial (p0 : Int32) : (ws_isTrial p0) = 0 ∨ (ws_isTrial p0) = 1 := by
  unfold ws_isTrial
  first | exact Or.inl rfl | exact Or.inr rfl | (split <;> first | exact Or.inl rfl | exact Or.inr rfl | (split <;> first | exact Or.inl rfl | exact Or.inr rfl | (split <;> first | exact Or.inl rfl | exact Or.inr rfl)))
def md_in (p0 : Int32) (p1 : Int32) (p2 : Int32) : Int32 := (if p0 < p1 then 0 else (if p2 < p0 then 0 else 1))
set_option maxRecDepth 20000 in
theorem k_X12_in {G : ky_GW} {d : Nat} {h : ky_HP} {Q : ky_RS → ky_HP → Prop} (p0 : Int32) (p1 : Int32) (p2 : Int32) (K : Q (.inl (some (.int (md_in p0 p1 p2)))) h) : ky_Call G d M_X12_in [.int p0, .int p1, .int p2] h Q := by
  refine ky_ofV (by decide +kernel) rfl ok_X12_in (Nat.le_of_ble_eq_true rfl) ?_
  refine (?_ : ky_V _ _ _ 0 [(0, .int p0), (1, .int p1), (2, .int p2)] [] _ _)
  refine v_iload_n (i := 0) (j := 0) rfl rfl (?_ : ky_V _ _ _ 1 _ _ _ _)
  refine v_iload_n (i := 1) (j := 1) rfl rfl (?_ : ky_V _ _ _ 2 _ _ _ _)
  refine v_icmp_lt (tgt := 14) (i := 2) rfl (by decide) (fun c1 => ?_) (fun c1 => ?_)
  · refine v_iconst (v := 0) (i := 8) rfl (by decide) (?_ : ky_V _ _ _ 15 _ _ _ _)
    refine v_iret (v := 0) (ty := .boolean) (i := 9) rfl rfl (by decide) ?_
    unfold md_in at K; rw [if_pos c1] at K; exact K
  · refine v_iload_n (i := 3) (j := 0) rfl rfl (?_ : ky_V _ _ _ 6 _ _ _ _)
    refine v_iload_n (i := 4) (j := 2) rfl rfl (?_ : ky_V _ _ _ 7 _ _ _ _)
    refine v_icmp_gt (tgt := 14) (i := 5) rfl (by decide) (fun c2 => ?_) (fun c2 => ?_)
    · refine v_iconst (v := 0) (i := 8) rfl (by decide) (?_ : ky_V _ _ _ 15 _ _ _ _)
      refine v_iret (v := 0) (ty := .boolean) (i := 9) rfl rfl (by decide) ?_
      unfold md_in at K; rw [if_neg c1, if_pos c2] at K; exact K
    · refine v_iconst (v := 1) (i := 6) rfl (by decide) (?_ : ky_V _ _ _ 11 _ _ _ _)
      refine v_goto (tgt := 15) (i := 7) rfl (by decide) (?_ : ky_V _ _ _ 15 _ _ _ _)
      refine v_iret (v := 1) (ty := .boolean) (i := 9) rfl rfl (by decide) ?_
      unfold md_in at K; rw [if_neg c1, if_neg c2] at K; exact K
theorem kb_X12_in (p0 : Int32) (p1 : Int32) (p2 : Int32) : (md_in p0 p1 p2) = 0 ∨ (md_in p0 p1 p2) = 1 := by
  unfold md_in
  first | exact Or.inl rfl | exact Or.inr rfl | (split <;> first | exact Or.inl rfl | exact Or.inr rfl | (split <;> first | exact Or.inl rfl | exact Or.inr rfl | (split <;> first | exact Or.inl rfl | exact Or.inr rfl)))
def md_noLeg (p0 : Int32) : Int32 := (if (md_in p0 0 1) = 0 then 1 else 0)
set_option maxRecDepth 20000 in
theorem k_X12_noLeg {G : ky_GW} {d : Nat} {h : ky_HP} {Q : ky_RS → ky_HP → Prop} (p0 : Int32) (K : Q (.inl (some (.int (md_noLeg p0)))) h) : ky_Call G (d + 1) M_X12_noLeg [.int p0] h Q := by
  refine ky_ofV (by decide +kernel) rfl ok_X12_noLeg (Nat.le_of_ble_eq_true rfl) ?_
  refine (?_ : ky_V _ _ _ 0 [(0, .int p0)] [] _ _)
  refine v_iload_n (i := 0) (j := 0) rfl rfl (?_ : ky_V _ _ _ 1 _ _ _ _)
  refine v_iconst (v := 0) (i := 1) rfl (by decide) (?_ : ky_V _ _ _ 2 _ _ _ _)
  refine v_iconst (v := 1) (i := 2) rfl (by decide) (?_ : ky_V _ _ _ 3 _ _ _ _)
  refine cl_X12_65 (As := [.int p0, .int 0, .int 1]) rfl (i := 3) rfl rfl rfl (Nat.le_of_ble_eq_true rfl) (k_X12_in p0 0 1 ⟨_, rfl, (?_ : ky_V _ _ _ 6 _ [.int ((md_in p0 0 1))] _ _)⟩)
  refine v_if_ne (tgt := 13) (i := 4) rfl (by decide) (fun c1 => ?_) (fun c1 => ?_)
  · refine v_iconst (v := 0) (i := 7) rfl (by decide) (?_ : ky_V _ _ _ 14 _ _ _ _)
    refine v_iret (v := 0) (ty := .boolean) (i := 8) rfl rfl (by decide) ?_
    unfold md_noLeg at K; rw [if_neg c1] at K; exact K
  · refine v_iconst (v := 1) (i := 5) rfl (by decide) (?_ : ky_V _ _ _ 10 _ _ _ _)
    refine v_goto (tgt := 14) (i := 6) rfl (by decide) (?_ : ky_V _ _ _ 14 _ _ _ _)
    refine v_iret (v := 1) (ty := .boolean) (i := 8) rfl rfl (by decide) ?_
    unfold md_noLeg at K; rw [if_pos c1] at K; exact K
theorem kb_X12_noLeg (p0 : Int32) : (md_noLeg p0) = 0 ∨ (md_noLeg p0) = 1 := by
  unfold md_noLeg
  first | exact Or.inl rfl | exact Or.inr rfl | (split <;> first | exact Or.inl rfl | exact Or.inr rfl | (split <;> first | exact Or.inl rfl | exact Or.inr rfl | (split <;> first | exact Or.inl rfl | exact Or.inr rfl)))
def md_isOfNone (p0 : Int32) : Int32 := (if p0 < 5 then 0 else 1)
set_option maxRecDepth 20000 in
theorem k_X12_isOfNone {G : ky_GW} {d : Nat} {h : ky_HP} {Q : ky_RS → ky_HP → Prop} (p0 : Int32) (K : Q (.inl (some (.int (md_isOfNone p0)))) h) : ky_Call G d M_X12_isOfNone [.int p0] h Q := by
  refine ky_ofV (by decide +kernel) rfl ok_X12_isOfNone (Nat.le_of_ble_eq_true rfl) ?_
  refine (?_ : ky_V _ _ _ 0 [(0, .int p0)] [] _ _)
  refine v_iload_n (i := 0) (j := 0) rfl rfl (?_ : ky_V _ _ _ 1 _ _ _ _)
  refine v_iconst (v := 5) (i := 1) rfl (by decide) (?_ : ky_V _ _ _ 2 _ _ _ _)
  refine v_icmp_lt (tgt := 9) (i := 2) rfl (by decide) (fun c1 => ?_) (fun c1 => ?_)
  · refine v_iconst (v := 0) (i := 5) rfl (by decide) (?_ : ky_V _ _ _ 10 _ _ _ _)
    refine v_iret (v := 0) (ty := .boolean) (i := 6) rfl rfl (by decide) ?_
    unfold md_isOfNone at K; rw [if_pos c1] at K; exact K
  · refine v_iconst (v := 1) (i := 3) rfl (by decide) (?_ : ky_V _ _ _ 6 _ _ _ _)
    refine v_goto (tgt := 10) (i := 4) rfl (by decide) (?_ : ky_V _ _ _ 10 _ _ _ _)
    refine v_iret (v := 1) (ty := .boolean) (i := 6) rfl rfl (by decide) ?_
    unfold md_isOfNone at K; rw [if_neg c1] at K; exact K
theorem kb_X12_isOfNone (p0 : Int32) : (md_isOfNone p0) = 0 ∨ (md_isOfNone p0) = 1 := by
  unfold md_isOfNone
  first | exact Or.inl rfl | exact Or.inr rfl | (split <;> first | exact Or.inl rfl | exact Or.inr rfl | (split <;> first | exact Or.inl rfl | exact Or.inr rfl | (split <;> first | exact Or.inl rfl | exact Or.inr rfl)))
def md_less (p0 : Int32) (p1 : Int32) : Int32 := (mt_max 0 (p0 - p1))
set_option maxRecDepth 20000 in
theorem k_X12_less {G : ky_GW} {d : Nat} {h : ky_HP} {Q : ky_RS → ky_HP → Prop} (p0 : Int32) (p1 : Int32) (K : Q (.inl (some (.int (md_less p0 p1)))) h) : ky_Call G (d + 1) M_X12_less [.int p0, .int p1] h Q := by
  refine ky_ofV (by decide +kernel) rfl ok_X12_less (Nat.le_of_ble_eq_true rfl) ?_
  refine (?_ : ky_V _ _ _ 0 [(0, .int p0), (1, .int p1)] [] _ _)
  refine v_iconst (v := 0) (i := 0) rfl (by decide) (?_ : ky_V _ _ _ 1 _ _ _ _)
  refine v_iload_n (i := 1) (j := 0) rfl rfl (?_ : ky_V _ _ _ 2 _ _ _ _)
  refine v_iload_n (i := 2) (j := 1) rfl rfl (?_ : ky_V _ _ _ 3 _ _ _ _)
  refine v_isub (i := 3) rfl (?_ : ky_V _ _ _ 4 _ _ _ _)
  refine cl_X12_255 rfl (i := 4) rfl (Nat.le_of_ble_eq_true rfl) (?_ : ky_V _ _ _ 7 _ _ _ _)
  refine v_iret (v := (mt_max 0 (p0 - p1))) (ty := .int) (i := 5) rfl rfl rfl ?_
  unfold md_less at K; exact K
def md_deeper (p0 : Int32) (p1 : Int32) : Int32 := (mt_min 9 (p0 + p1))
set_option maxRecDepth 20000 in
theorem k_X12_deeper {G : ky_GW} {d : Nat} {h : ky_HP} {Q : ky_RS → ky_HP → Prop} (p0 : Int32) (p1 : Int32) (K : Q (.inl (some (.int (md_deeper p0 p1)))) h) : ky_Call G (d + 1) M_X12_deeper [.int p0, .int p1] h Q := by
  refine ky_ofV (by decide +kernel) rfl ok_X12_deeper (Nat.le_of_ble_eq_true rfl) ?_
  refine (?_ : ky_V _ _ _ 0 [(0, .int p0), (1, .int p1)] [] _ _)
  refine v_bipush (v := 9) (i := 0) rfl (by decide) (?_ : ky_V _ _ _ 2 _ _ _ _)
  refine v_iload_n (i := 1) (j := 0) rfl rfl (?_ : ky_V _ _ _ 3 _ _ _ _)
  refine v_iload_n (i := 2) (j := 1) rfl rfl (?_ : ky_V _ _ _ 4 _ _ _ _)
  refine v_iadd (i := 3) rfl (?_ : ky_V _ _ _ 5 _ _ _ _)
  refine cl_X12_260 rfl (i := 4) rfl (Nat.le_of_ble_eq_true rfl) (?_ : ky_V _ _ _ 8 _ _ _ _)
  refine v_iret (v := (mt_min 9 (p0 + p1))) (ty := .int) (i := 5) rfl rfl rfl ?_
  unfold md_deeper at K; exact K
def md_moveOf (p0 : Int32) : Int32 := (if 10 ≤ p0 then (p0 - 5) else (p0 / 2))
set_option maxRecDepth 20000 in
theorem k_X12_moveOf {G : ky_GW} {d : Nat} {h : ky_HP} {Q : ky_RS → ky_HP → Prop} (p0 : Int32) (K : Q (.inl (some (.int (md_moveOf p0)))) h) : ky_Call G d M_X12_moveOf [.int p0] h Q := by
  refine ky_ofV (by decide +kernel) rfl ok_X12_moveOf (Nat.le_of_ble_eq_true rfl) ?_
  refine (?_ : ky_V _ _ _ 0 [(0, .int p0)] [] _ _)
  refine v_iload_n (i := 0) (j := 0) rfl rfl (?_ : ky_V _ _ _ 1 _ _ _ _)
  refine v_bipush (v := 10) (i := 1) rfl (by decide) (?_ : ky_V _ _ _ 3 _ _ _ _)
  refine v_icmp_ge (tgt := 12) (i := 2) rfl (by decide) (fun c1 => ?_) (fun c1 => ?_)
  · refine v_iload_n (i := 7) (j := 0) rfl rfl (?_ : ky_V _ _ _ 13 _ _ _ _)
    refine v_iconst (v := 5) (i := 8) rfl (by decide) (?_ : ky_V _ _ _ 14 _ _ _ _)
    refine v_isub (i := 9) rfl (?_ : ky_V _ _ _ 15 _ _ _ _)
    refine v_iret (v := (p0 - 5)) (ty := .int) (i := 10) rfl rfl rfl ?_
    unfold md_moveOf at K; rw [if_pos c1] at K; exact K
  · refine v_iload_n (i := 3) (j := 0) rfl rfl (?_ : ky_V _ _ _ 7 _ _ _ _)
    refine v_iconst (v := 2) (i := 4) rfl (by decide) (?_ : ky_V _ _ _ 8 _ _ _ _)
    refine v_idiv (i := 5) rfl (by decide) (?_ : ky_V _ _ _ 9 _ _ _ _)
    refine v_goto (tgt := 15) (i := 6) rfl (by decide) (?_ : ky_V _ _ _ 15 _ _ _ _)
    refine v_iret (v := (p0 / 2)) (ty := .int) (i := 10) rfl rfl rfl ?_
    unfold md_moveOf at K; rw [if_neg c1] at K; exact K
def md_legOf (p0 : Int32) : Int32 := (if 10 ≤ p0 then 0 else (p0 - p0 / 2 * 2))
set_option maxRecDepth 20000 in
theorem k_X12_legOf {G : ky_GW} {d : Nat} {h : ky_HP} {Q : ky_RS → ky_HP → Prop} (p0 : Int32) (K : Q (.inl (some (.int (md_legOf p0)))) h) : ky_Call G d M_X12_legOf [.int p0] h Q := by
  refine ky_ofV (by decide +kernel) rfl ok_X12_legOf (Nat.le_of_ble_eq_true rfl) ?_
  refine (?_ : ky_V _ _ _ 0 [(0, .int p0)] [] _ _)
  refine v_iload_n (i := 0) (j := 0) rfl rfl (?_ : ky_V _ _ _ 1 _ _ _ _)
  refine v_bipush (v := 10) (i := 1) rfl (by decide) (?_ : ky_V _ _ _ 3 _ _ _ _)
  refine v_icmp_ge (tgt := 12) (i := 2) rfl (by decide) (fun c1 => ?_) (fun c1 => ?_)
  · refine v_iconst (v := 0) (i := 7) rfl (by decide) (?_ : ky_V _ _ _ 13 _ _ _ _)
    refine v_iret (v := 0) (ty := .int) (i := 8) rfl rfl rfl ?_
    unfold md_legOf at K; rw [if_pos c1] at K; exact K
  · refine v_iload_n (i := 3) (j := 0) rfl rfl (?_ : ky_V _ _ _ 7 _ _ _ _)
    refine v_iconst (v := 2) (i := 4) rfl (by decide) (?_ : ky_V _ _ _ 8 _ _ _ _)
    refine v_irem (i := 5) rfl (by decide) (?_ : ky_V _ _ _ 9 _ _ _ _)
    refine v_goto (tgt := 13) (i := 6) rfl (by decide) (?_ : ky_V _ _ _ 13 _ _ _ _)
    refine v_iret (v := (p0 - p0 / 2 * 2)) (ty := .int) (i := 8) rfl rfl rfl ?_
    unfold md_legOf at K; rw [if_neg c1] at K; exact K
def md_isOutAt (p0 : Int32) : Int32 := (if 12 ≤ p0 then 0 else 1)
set_option maxRecDepth 20000 in
theorem k_X12_isOutAt {G : ky_GW} {d : Nat} {h : ky_HP} {Q : ky_RS → ky_HP → Prop} (p0 : Int32) (K : Q (.inl (some (.int (md_isOutAt p0)))) h) : ky_Call G d M_X12_isOutAt [.int p0] h Q := by
  refine ky_ofV (by decide +kernel) rfl ok_X12_isOutAt (Nat.le_of_ble_eq_true rfl) ?_
  refine (?_ : ky_V _ _ _ 0 [(0, .int p0)] [] _ _)
  refine v_iload_n (i := 0) (j := 0) rfl rfl (?_ : ky_V _ _ _ 1 _ _ _ _)
  refine v_bipush (v := 12) (i := 1) rfl (by decide) (?_ : ky_V _ _ _ 3 _ _ _ _)
  refine v_icmp_ge (tgt := 10) (i := 2) rfl (by decide) (fun c1 => ?_) (fun c1 => ?_)
  · refine v_iconst (v := 0) (i := 5) rfl (by decide) (?_ : ky_V _ _ _ 11 _ _ _ _)
    refine v_iret (v := 0) (ty := .boolean) (i := 6) rfl rfl (by decide) ?_
    unfold md_isOutAt at K; rw [if_pos c1] at K; exact K
  · refine v_iconst (v := 1) (i := 3) rfl (by decide) (?_ : ky_V _ _ _ 7 _ _ _ _)
    refine v_goto (tgt := 11) (i := 4) rfl (by decide) (?_ : ky_V _ _ _ 11 _ _ _ _)
    refine v_iret (v := 1) (ty := .boolean) (i := 6) rfl rfl (by decide) ?_
    unfold md_isOutAt at K; rw [if_neg c1] at K; exact K
theorem kb_X12_isOutAt (p0 : Int32) : (md_isOutAt p0) = 0 ∨ (md_isOutAt p0) = 1 := by
  unfold md_isOutAt
  first | exact Or.inl rfl | exact Or.inr rfl | (split <;> first | exact Or.inl rfl | exact Or.inr rfl | (split <;> first | exact Or.inl rfl | exact Or.inr rfl | (split <;> first | exact Or.inl rfl | exact Or.inr rfl)))
def md_has (p0 : Int32) (p1 : Int32) : Int32 := (if ((p0 >>> (p1 &&& 31)) &&& 1) = 1 then 1 else 0)
set_option maxRecDepth 20000 in
theorem k_X12_has {G : ky_GW} {d : Nat} {h : ky_HP} {Q : ky_RS → ky_HP → Prop} (p0 : Int32) (p1 : Int32) (K : Q (.inl (some (.int (md_has p0 p1)))) h) : ky_Call G d M_X12_has [.int p0, .int p1] h Q := by
  refine ky_ofV (by decide +kernel) rfl ok_X12_has (Nat.le_of_ble_eq_true rfl) ?_
  refine (?_ : ky_V _ _ _ 0 [(0, .int p0), (1, .int p1)] [] _ _)
  refine v_iload_n (i := 0) (j := 0) rfl rfl (?_ : ky_V _ _ _ 1 _ _ _ _)
  refine v_iload_n (i := 1) (j := 1) rfl rfl (?_ : ky_V _ _ _ 2 _ _ _ _)
  refine v_ishr (i := 2) rfl (?_ : ky_V _ _ _ 3 _ _ _ _)
  refine v_iconst (v := 1) (i := 3) rfl (by decide) (?_ : ky_V _ _ _ 4 _ _ _ _)
  refine v_iand (i := 4) rfl (?_ : ky_V _ _ _ 5 _ _ _ _)
  refine v_iconst (v := 1) (i := 5) rfl (by decide) (?_ : ky_V _ _ _ 6 _ _ _ _)
  refine v_icmp_ne (tgt := 13) (i := 6) rfl (by decide) (fun c1 => ?_) (fun c1 => ?_)
  · refine v_iconst (v := 0) (i := 9) rfl (by decide) (?_ : ky_V _ _ _ 14 _ _ _ _)
    refine v_iret (v := 0) (ty := .boolean) (i := 10) rfl rfl (by decide) ?_
    unfold md_has at K; rw [if_neg c1] at K; exact K
  · refine v_iconst (v := 1) (i := 7) rfl (by decide) (?_ : ky_V _ _ _ 10 _ _ _ _)
    refine v_goto (tgt := 14) (i := 8) rfl (by decide) (?_ : ky_V _ _ _ 14 _ _ _ _)
    refine v_iret (v := 1) (ty := .boolean) (i := 10) rfl rfl (by decide) ?_
    unfold md_has at K; rw [if_pos c1] at K; exact K
theorem kb_X12_has (p0 : Int32) (p1 : Int32) : (md_has p0 p1) = 0 ∨ (md_has p0 p1) = 1 := by
  unfold md_has
  first | exact Or.inl rfl | exact Or.inr rfl | (split <;> first | exact Or.inl rfl | exact Or.inr rfl | (split <;> first | exact Or.inl rfl | exact Or.inr rfl | (split <;> first | exact Or.inl rfl | exact Or.inr rfl)))
def md_nameOf (p0 : Int32) : Int32 := ((2 * (md_moveOf p0)) + (md_legOf p0))
set_option maxRecDepth 20000 in
theorem k_X12_nameOf {G : ky_GW} {d : Nat} {h : ky_HP} {Q : ky_RS → ky_HP → Prop} (p0 : Int32) (K : Q (.inl (some (.int (md_nameOf p0)))) h) : ky_Call G (d + 1) M_X12_nameOf [.int p0] h Q := by
  refine ky_ofV (by decide +kernel) rfl ok_X12_nameOf (Nat.le_of_ble_eq_true rfl) ?_
  refine (?_ : ky_V _ _ _ 0 [(0, .int p0)] [] _ _)
  refine v_iconst (v := 2) (i := 0) rfl (by decide) (?_ : ky_V _ _ _ 1 _ _ _ _)
  refine v_iload_n (i := 1) (j := 0) rfl rfl (?_ : ky_V _ _ _ 2 _ _ _ _)
  refine cl_X12_295 (As := [.int p0]) rfl (i := 2) rfl rfl rfl (Nat.le_of_ble_eq_true rfl) (k_X12_moveOf p0 ⟨_, rfl, (?_ : ky_V _ _ _ 5 _ [.int ((md_moveOf p0)), .int 2] _ _)⟩)
  refine v_imul (i := 3) rfl (?_ : ky_V _ _ _ 6 _ _ _ _)
  refine v_iload_n (i := 4) (j := 0) rfl rfl (?_ : ky_V _ _ _ 7 _ _ _ _)
  refine cl_X12_299 (As := [.int p0]) rfl (i := 5) rfl rfl rfl (Nat.le_of_ble_eq_true rfl) (k_X12_legOf p0 ⟨_, rfl, (?_ : ky_V _ _ _ 10 _ [.int ((md_legOf p0)), .int ((2 * (md_moveOf p0)))] _ _)⟩)
  refine v_iadd (i := 6) rfl (?_ : ky_V _ _ _ 11 _ _ _ _)
  refine v_iret (v := ((2 * (md_moveOf p0)) + (md_legOf p0))) (ty := .int) (i := 7) rfl rfl rfl ?_
  unfold md_nameOf at K; exact K
def md_noRun (p0 : Int32) (p1 : Int32) : Int32 := (if (md_in p0 1 200) = 0 then 1 else (if (md_in p1 1 20) = 0 then 1 else 0))
set_option maxRecDepth 20000 in
theorem k_X12_noRun {G : ky_GW} {d : Nat} {h : ky_HP} {Q : ky_RS → ky_HP → Prop} (p0 : Int32) (p1 : Int32) (K : Q (.inl (some (.int (md_noRun p0 p1)))) h) : ky_Call G (d + 1) M_X12_noRun [.int p0, .int p1] h Q := by
  refine ky_ofV (by decide +kernel) rfl ok_X12_noRun (Nat.le_of_ble_eq_true rfl) ?_
  refine (?_ : ky_V _ _ _ 0 [(0, .int p0), (1, .int p1)] [] _ _)
  refine v_iload_n (i := 0) (j := 0) rfl rfl (?_ : ky_V _ _ _ 1 _ _ _ _)
  refine v_iconst (v := 1) (i := 1) rfl (by decide) (?_ : ky_V _ _ _ 2 _ _ _ _)
  refine v_sipush (v := 200) (i := 2) rfl (by decide) (?_ : ky_V _ _ _ 5 _ _ _ _)
  refine cl_X12_65 (As := [.int p0, .int 1, .int 200]) rfl (i := 3) rfl rfl rfl (Nat.le_of_ble_eq_true rfl) (k_X12_in p0 1 200 ⟨_, rfl, (?_ : ky_V _ _ _ 8 _ [.int ((md_in p0 1 200))] _ _)⟩)
  refine v_if_eq (tgt := 21) (i := 4) rfl (by decide) (fun c1 => ?_) (fun c1 => ?_)
  · refine v_iconst (v := 1) (i := 10) rfl (by decide) (?_ : ky_V _ _ _ 22 _ _ _ _)
    refine v_goto (tgt := 26) (i := 11) rfl (by decide) (?_ : ky_V _ _ _ 26 _ _ _ _)
    refine v_iret (v := 1) (ty := .boolean) (i := 13) rfl rfl (by decide) ?_
    unfold md_noRun at K; rw [if_pos c1] at K; exact K
  · refine v_iload_n (i := 5) (j := 1) rfl rfl (?_ : ky_V _ _ _ 12 _ _ _ _)
    refine v_iconst (v := 1) (i := 6) rfl (by decide) (?_ : ky_V _ _ _ 13 _ _ _ _)
    refine v_bipush (v := 20) (i := 7) rfl (by decide) (?_ : ky_V _ _ _ 15 _ _ _ _)
    refine cl_X12_65 (As := [.int p1, .int 1, .int 20]) rfl (i := 8) rfl rfl rfl (Nat.le_of_ble_eq_true rfl) (k_X12_in p1 1 20 ⟨_, rfl, (?_ : ky_V _ _ _ 18 _ [.int ((md_in p1 1 20))] _ _)⟩)
    refine v_if_ne (tgt := 25) (i := 9) rfl (by decide) (fun c2 => ?_) (fun c2 => ?_)
    · refine v_iconst (v := 0) (i := 12) rfl (by decide) (?_ : ky_V _ _ _ 26 _ _ _ _)
      refine v_iret (v := 0) (ty := .boolean) (i := 13) rfl rfl (by decide) ?_
      unfold md_noRun at K; rw [if_neg c1, if_neg c2] at K; exact K
    · refine v_iconst (v := 1) (i := 10) rfl (by decide) (?_ : ky_V _ _ _ 22 _ _ _ _)
      refine v_goto (tgt := 26) (i := 11) rfl (by decide) (?_ : ky_V _ _ _ 26 _ _ _ _)
      refine v_iret (v := 1) (ty := .boolean) (i := 13) rfl rfl (by decide) ?_
      unfold md_noRun at K; rw [if_neg c1, if_pos c2] at K; exact K
theorem kb_X12_noRun (p0 : Int32) (p1 : Int32) : (md_noRun p0 p1) = 0 ∨ (md_noRun p0 p1) = 1 := by
  unfold md_noRun
  first | exact Or.inl rfl | exact Or.inr rfl | (split <;> first | exact Or.inl rfl | exact Or.inr rfl | (split <;> first | exact Or.inl rfl | exact Or.inr rfl | (split <;> first | exact Or.inl rfl | exact Or.inr rfl)))
def md_noCell (p0 : Int32) : Int32 := (if (md_in p0 0 63) = 0 then 1 else 0)
set_option maxRecDepth 20000 in
theorem k_X12_noCell {G : ky_GW} {d : Nat} {h : ky_HP} {Q : ky_RS → ky_HP → Prop} (p0 : Int32) (K : Q (.inl (some (.int (md_noCell p0)))) h) : ky_Call G (d + 1) M_X12_noCell [.int p0] h Q := by
  refine ky_ofV (by decide +kernel) rfl ok_X12_noCell (Nat.le_of_ble_eq_true rfl) ?_
  refine (?_ : ky_V _ _ _ 0 [(0, .int p0)] [] _ _)
  refine v_iload_n (i := 0) (j := 0) rfl rfl (?_ : ky_V _ _ _ 1 _ _ _ _)
  refine v_iconst (v := 0) (i := 1) rfl (by decide) (?_ : ky_V _ _ _ 2 _ _ _ _)
  refine v_bipush (v := 63) (i := 2) rfl (by decide) (?_ : ky_V _ _ _ 4 _ _ _ _)
  refine cl_X12_65 (As := [.int p0, .int 0, .int 63]) rfl (i := 3) rfl rfl rfl (Nat.le_of_ble_eq_true rfl) (k_X12_in p0 0 63 ⟨_, rfl, (?_ : ky_V _ _ _ 7 _ [.int ((md_in p0 0 63))] _ _)⟩)
  refine v_if_ne (tgt := 14) (i := 4) rfl (by decide) (fun c1 => ?_) (fun c1 => ?_)
  · refine v_iconst (v := 0) (i := 7) rfl (by decide) (?_ : ky_V _ _ _ 15 _ _ _ _)
    refine v_iret (v := 0) (ty := .boolean) (i := 8) rfl rfl (by decide) ?_
    unfold md_noCell at K; rw [if_neg c1] at K; exact K
  · refine v_iconst (v := 1) (i := 5) rfl (by decide) (?_ : ky_V _ _ _ 11 _ _ _ _)
    refine v_goto (tgt := 15) (i := 6) rfl (by decide) (?_ : ky_V _ _ _ 15 _ _ _ _)
    refine v_iret (v := 1) (ty := .boolean) (i := 8) rfl rfl (by decide) ?_
    unfold md_noCell at K; rw [if_pos c1] at K; exact K
theorem kb_X12_noCell (p0 : Int32) : (md_noCell p0) = 0 ∨ (md_noCell p0) = 1 := by
  unfold md_noCell
  first | exact Or.inl rfl | exact Or.inr rfl | (split <;> first | exact Or.inl rfl | exact Or.inr rfl | (split <;> first | exact Or.inl rfl | exact Or.inr rfl | (split <;> first | exact Or.inl rfl | exact Or.inr rfl)))
def md_apart (p0 : Int32) (p1 : Int32) : Int32 := ((mt_abs ((p0 - p0 / 8 * 8) - (p1 - p1 / 8 * 8))) + (mt_abs ((p0 / 8) - (p1 / 8))))
set_option maxRecDepth 20000 in
theorem k_X12_apart {G : ky_GW} {d : Nat} {h : ky_HP} {Q : ky_RS → ky_HP → Prop} (p0 : Int32) (p1 : Int32) (K : Q (.inl (some (.int (md_apart p0 p1)))) h) : ky_Call G (d + 1) M_X12_apart [.int p0, .int p1] h Q := by
  refine ky_ofV (by decide +kernel) rfl ok_X12_apart (Nat.le_of_ble_eq_true rfl) ?_
  refine (?_ : ky_V _ _ _ 0 [(0, .int p0), (1, .int p1)] [] _ _)
  refine v_iload_n (i := 0) (j := 0) rfl rfl (?_ : ky_V _ _ _ 1 _ _ _ _)
  refine v_bipush (v := 8) (i := 1) rfl (by decide) (?_ : ky_V _ _ _ 3 _ _ _ _)
  refine v_irem (i := 2) rfl (by decide) (?_ : ky_V _ _ _ 4 _ _ _ _)
  refine v_iload_n (i := 3) (j := 1) rfl rfl (?_ : ky_V _ _ _ 5 _ _ _ _)
  refine v_bipush (v := 8) (i := 4) rfl (by decide) (?_ : ky_V _ _ _ 7 _ _ _ _)
  refine v_irem (i := 5) rfl (by decide) (?_ : ky_V _ _ _ 8 _ _ _ _)
  refine v_isub (i := 6) rfl (?_ : ky_V _ _ _ 9 _ _ _ _)
  refine cl_X12_382 rfl (i := 7) rfl (Nat.le_of_ble_eq_true rfl) (?_ : ky_V _ _ _ 12 _ _ _ _)
  refine v_iload_n (i := 8) (j := 0) rfl rfl (?_ : ky_V _ _ _ 13 _ _ _ _)
  refine v_bipush (v := 8) (i := 9) rfl (by decide) (?_ : ky_V _ _ _ 15 _ _ _ _)
  refine v_idiv (i := 10) rfl (by decide) (?_ : ky_V _ _ _ 16 _ _ _ _)
  refine v_iload_n (i := 11) (j := 1) rfl rfl (?_ : ky_V _ _ _ 17 _ _ _ _)
  refine v_bipush (v := 8) (i := 12) rfl (by decide) (?_ : ky_V _ _ _ 19 _ _ _ _)
  refine v_idiv (i := 13) rfl (by decide) (?_ : ky_V _ _ _ 20 _ _ _ _)
  refine v_isub (i := 14) rfl (?_ : ky_V _ _ _ 21 _ _ _ _)
  refine cl_X12_382 rfl (i := 15) rfl (Nat.le_of_ble_eq_true rfl) (?_ : ky_V _ _ _ 24 _ _ _ _)
  refine v_iadd (i := 16) rfl (?_ : ky_V _ _ _ 25 _ _ _ _)
  refine v_iret (v := ((mt_abs ((p0 - p0 / 8 * 8) - (p1 - p1 / 8 * 8))) + (mt_abs ((p0 / 8) - (p1 / 8))))) (ty := .int) (i := 17) rfl rfl rfl ?_
  unfold md_apart at K; exact K
def md_noWeight (p0 : Int32) : Int32 := (if (md_in p0 1 9) = 0 then 1 else 0)
set_option maxRecDepth 20000 in
theorem k_X12_noWeight {G : ky_GW} {d : Nat} {h : ky_HP} {Q : ky_RS → ky_HP → Prop} (p0 : Int32) (K : Q (.inl (some (.int (md_noWeight p0)))) h) : ky_Call G (d + 1) M_X12_noWeight [.int p0] h Q := by
  refine ky_ofV (by decide +kernel) rfl ok_X12_noWeight (Nat.le_of_ble_eq_true rfl) ?_
  refine (?_ : ky_V _ _ _ 0 [(0, .int p0)] [] _ _)
  refine v_iload_n (i := 0) (j := 0) rfl rfl (?_ : ky_V _ _ _ 1 _ _ _ _)
  refine v_iconst (v := 1) (i := 1) rfl (by decide) (?_ : ky_V _ _ _ 2 _ _ _ _)
  refine v_bipush (v := 9) (i := 2) rfl (by decide) (?_ : ky_V _ _ _ 4 _ _ _ _)
  refine cl_X12_65 (As := [.int p0, .int 1, .int 9]) rfl (i := 3) rfl rfl rfl (Nat.le_of_ble_eq_true rfl) (k_X12_in p0 1 9 ⟨_, rfl, (?_ : ky_V _ _ _ 7 _ [.int ((md_in p0 1 9))] _ _)⟩)
  refine v_if_ne (tgt := 14) (i := 4) rfl (by decide) (fun c1 => ?_) (fun c1 => ?_)
  · refine v_iconst (v := 0) (i := 7) rfl (by decide) (?_ : ky_V _ _ _ 15 _ _ _ _)
    refine v_iret (v := 0) (ty := .boolean) (i := 8) rfl rfl (by decide) ?_
    unfold md_noWeight at K; rw [if_neg c1] at K; exact K
  · refine v_iconst (v := 1) (i := 5) rfl (by decide) (?_ : ky_V _ _ _ 11 _ _ _ _)
    refine v_goto (tgt := 15) (i := 6) rfl (by decide) (?_ : ky_V _ _ _ 15 _ _ _ _)
    refine v_iret (v := 1) (ty := .boolean) (i := 8) rfl rfl (by decide) ?_
    unfold md_noWeight at K; rw [if_pos c1] at K; exact K
theorem kb_X12_noWeight (p0 : Int32) : (md_noWeight p0) = 0 ∨ (md_noWeight p0) = 1 := by
  unfold md_noWeight
  first | exact Or.inl rfl | exact Or.inr rfl | (split <;> first | exact Or.inl rfl | exact Or.inr rfl | (split <;> first | exact Or.inl rfl | exact Or.inr rfl | (split <;> first | exact Or.inl rfl | exact Or.inr rfl)))
def wy_isIn (p0 : Int32) (p1 : Int32) : Int32 := (if ((p0 >>> ((wy_moveOf p1) &&& 31)) &&& 1) = 1 then 1 else 0)
set_option maxRecDepth 20000 in
theorem k_X10_isIn {G : ky_GW} {d : Nat} {h : ky_HP} {Q : ky_RS → ky_HP → Prop} (p0 : Int32) (p1 : Int32) (K : Q (.inl (some (.int (wy_isIn p0 p1)))) h) : ky_Call G (d + 1) M_X10_isIn [.int p0, .int p1] h Q := by
  refine ky_ofV (by decide +kernel) rfl ok_X10_isIn (Nat.le_of_ble_eq_true rfl) ?_
  refine (?_ : ky_V _ _ _ 0 [(0, .int p0), (1, .int p1)] [] _ _)
  refine v_iload_n (i := 0) (j := 0) rfl rfl (?_ : ky_V _ _ _ 1 _ _ _ _)
  refine v_iload_n (i := 1) (j := 1) rfl rfl (?_ : ky_V _ _ _ 2 _ _ _ _)
  refine cl_X10_103 (As := [.int p1]) rfl (i := 2) rfl rfl rfl (Nat.le_of_ble_eq_true rfl) (k_X10_moveOf p1 ⟨_, rfl, (?_ : ky_V _ _ _ 5 _ [.int ((wy_moveOf p1)), .int p0] _ _)⟩)
  refine v_ishr (i := 3) rfl (?_ : ky_V _ _ _ 6 _ _ _ _)
  refine v_iconst (v := 1) (i := 4) rfl (by decide) (?_ : ky_V _ _ _ 7 _ _ _ _)
  refine v_iand (i := 5) rfl (?_ : ky_V _ _ _ 8 _ _ _ _)
  refine v_iconst (v := 1) (i := 6) rfl (by decide) (?_ : ky_V _ _ _ 9 _ _ _ _)
  refine v_icmp_ne (tgt := 16) (i := 7) rfl (by decide) (fun c1 => ?_) (fun c1 => ?_)
  · refine v_iconst (v := 0) (i := 10) rfl (by decide) (?_ : ky_V _ _ _ 17 _ _ _ _)
    refine v_iret (v := 0) (ty := .boolean) (i := 11) rfl rfl (by decide) ?_
    unfold wy_isIn at K; rw [if_neg c1] at K; exact K
  · refine v_iconst (v := 1) (i := 8) rfl (by decide) (?_ : ky_V _ _ _ 13 _ _ _ _)
    refine v_goto (tgt := 17) (i := 9) rfl (by decide) (?_ : ky_V _ _ _ 17 _ _ _ _)
    refine v_iret (v := 1) (ty := .boolean) (i := 11) rfl rfl (by decide) ?_
    unfold wy_isIn at K; rw [if_pos c1] at K; exact K
theorem kb_X10_isIn (p0 : Int32) (p1 : Int32) : (wy_isIn p0 p1) = 0 ∨ (wy_isIn p0 p1) = 1 := by
  unfold wy_isIn
  first | exact Or.inl rfl | exact Or.inr rfl | (split <;> first | exact Or.inl rfl | exact Or.inr rfl | (split <;> first | exact Or.inl rfl | exact Or.inr rfl | (split <;> first | exact Or.inl rfl | exact Or.inr rfl)))
def po_pulled (p0 : Int32) (p1 : Int32) : Int32 := (po_withDepths p0 (mt_max 0 ((po_depth0 p0) - (po_lift p0 p1))) (mt_max 0 ((po_depth1 p0) - (po_lift p0 p1))))
set_option maxRecDepth 20000 in
theorem k_X5_pulled {G : ky_GW} {d : Nat} {h : ky_HP} {Q : ky_RS → ky_HP → Prop} (p0 : Int32) (p1 : Int32) (K : Q (.inl (some (.int (po_pulled p0 p1)))) h) : ky_Call G (d + 2) M_X5_pulled [.int p0, .int p1] h Q := by
  refine ky_ofV (by decide +kernel) rfl ok_X5_pulled (Nat.le_of_ble_eq_true rfl) ?_
  refine (?_ : ky_V _ _ _ 0 [(0, .int p0), (1, .int p1)] [] _ _)
  refine v_iload_n (i := 0) (j := 0) rfl rfl (?_ : ky_V _ _ _ 1 _ _ _ _)
  refine v_iload_n (i := 1) (j := 1) rfl rfl (?_ : ky_V _ _ _ 2 _ _ _ _)
  refine cl_X5_41 (As := [.int p0, .int p1]) rfl (i := 2) rfl rfl rfl (Nat.le_of_ble_eq_true rfl) (k_X5_lift p0 p1 ⟨_, rfl, (?_ : ky_V _ _ _ 5 _ [.int ((po_lift p0 p1))] _ _)⟩)
  refine v_topi (fun x1 ex1 => ?_)
  refine v_istore_n (L' := [(0, .int p0), (1, .int p1), (2, .int x1)]) [1, 2, 0] (i := 3) rfl (Nat.le_of_ble_eq_true rfl) rfl (?_ : ky_V _ _ _ 6 _ _ _ _)
  refine v_iload_n (i := 4) (j := 0) rfl rfl (?_ : ky_V _ _ _ 7 _ _ _ _)
  refine v_iconst (v := 0) (i := 5) rfl (by decide) (?_ : ky_V _ _ _ 8 _ _ _ _)
  refine v_iload_n (i := 6) (j := 0) rfl rfl (?_ : ky_V _ _ _ 9 _ _ _ _)
  refine cl_X5_9 (As := [.int p0]) rfl (i := 7) rfl rfl rfl (Nat.le_of_ble_eq_true rfl) (k_X5_depth0 p0 ⟨_, rfl, (?_ : ky_V _ _ _ 12 _ [.int ((po_depth0 p0)), .int 0, .int p0] _ _)⟩)
  refine v_iload_n (i := 8) (j := 2) rfl rfl (?_ : ky_V _ _ _ 13 _ _ _ _)
  refine v_isub (i := 9) rfl (?_ : ky_V _ _ _ 14 _ _ _ _)
  refine cl_X5_38 rfl (i := 10) rfl (Nat.le_of_ble_eq_true rfl) (?_ : ky_V _ _ _ 17 _ _ _ _)
  refine v_iconst (v := 0) (i := 11) rfl (by decide) (?_ : ky_V _ _ _ 18 _ _ _ _)
  refine v_iload_n (i := 12) (j := 0) rfl rfl (?_ : ky_V _ _ _ 19 _ _ _ _)
  refine cl_X5_15 (As := [.int p0]) rfl (i := 13) rfl rfl rfl (Nat.le_of_ble_eq_true rfl) (k_X5_depth1 p0 ⟨_, rfl, (?_ : ky_V _ _ _ 22 _ [.int ((po_depth1 p0)), .int 0, .int ((mt_max 0 ((po_depth0 p0) - x1))), .int p0] _ _)⟩)
  refine v_iload_n (i := 14) (j := 2) rfl rfl (?_ : ky_V _ _ _ 23 _ _ _ _)
  refine v_isub (i := 15) rfl (?_ : ky_V _ _ _ 24 _ _ _ _)
  refine cl_X5_38 rfl (i := 16) rfl (Nat.le_of_ble_eq_true rfl) (?_ : ky_V _ _ _ 27 _ _ _ _)
  refine cl_X5_34 (As := [.int p0, .int ((mt_max 0 ((po_depth0 p0) - x1))), .int ((mt_max 0 ((po_depth1 p0) - x1)))]) rfl (i := 17) rfl rfl rfl (Nat.le_of_ble_eq_true rfl) (k_X5_withDepths p0 (mt_max 0 ((po_depth0 p0) - x1)) (mt_max 0 ((po_depth1 p0) - x1)) ⟨_, rfl, (?_ : ky_V _ _ _ 30 _ [.int ((po_withDepths p0 (mt_max 0 ((po_depth0 p0) - x1)) (mt_max 0 ((po_depth1 p0) - x1))))] _ _)⟩)
  refine v_iret (v := (po_withDepths p0 (mt_max 0 ((po_depth0 p0) - x1)) (mt_max 0 ((po_depth1 p0) - x1)))) (ty := .int) (i := 18) rfl rfl rfl ?_
  subst ex1; unfold po_pulled at K; exact K
def md_noMove (p0 : Int32) : Int32 := (if (md_in p0 0 6) = 0 then 1 else 0)
set_option maxRecDepth 20000 in
theorem k_X12_noMove {G : ky_GW} {d : Nat} {h : ky_HP} {Q : ky_RS → ky_HP → Prop} (p0 : Int32) (K : Q (.inl (some (.int (md_noMove p0)))) h) : ky_Call G (d + 1) M_X12_noMove [.int p0] h Q := by
  refine ky_ofV (by decide +kernel) rfl ok_X12_noMove (Nat.le_of_ble_eq_true rfl) ?_
  refine (?_ : ky_V _ _ _ 0 [(0, .int p0)] [] _ _)
  refine v_iload_n (i := 0) (j := 0) rfl rfl (?_ : ky_V _ _ _ 1 _ _ _ _)
  refine v_iconst (v := 0) (i := 1) rfl (by decide) (?_ : ky_V _ _ _ 2 _ _ _ _)
  refine v_bipush (v := 6) (i := 2) rfl (by decide) (?_ : ky_V _ _ _ 4 _ _ _ _)
  refine cl_X12_65 (As := [.int p0, .int 0, .int 6]) rfl (i := 3) rfl rfl rfl (Nat.le_of_ble_eq_true rfl) (k_X12_in p0 0 6 ⟨_, rfl, (?_ : ky_V _ _ _ 7 _ [.int ((md_in p0 0 6))] _ _)⟩)
  refine v_if_ne (tgt := 14) (i := 4) rfl (by decide) (fun c1 => ?_) (fun c1 => ?_)
  · refine v_iconst (v := 0) (i := 7) rfl (by decide) (?_ : ky_V _ _ _ 15 _ _ _ _)
    refine v_iret (v := 0) (ty := .boolean) (i := 8) rfl rfl (by decide) ?_
    unfold md_noMove at K; rw [if_neg c1] at K; exact K
  · refine v_iconst (v := 1) (i := 5) rfl (by decide) (?_ : ky_V _ _ _ 11 _ _ _ _)
    refine v_goto (tgt := 15) (i := 6) rfl (by decide) (?_ : ky_V _ _ _ 15 _ _ _ _)
    refine v_iret (v := 1) (ty := .boolean) (i := 8) rfl rfl (by decide) ?_
    unfold md_noMove at K; rw [if_pos c1] at K; exact K
theorem kb_X12_noMove (p0 : Int32) : (md_noMove p0) = 0 ∨ (md_noMove p0) = 1 := by
  unfold md_noMove
  first | exact Or.inl rfl | exact Or.inr rfl | (split <;> first | exact Or.inl rfl | exact Or.inr rfl | (split <;> first | exact Or.inl rfl | exact Or.inr rfl | (split <;> first | exact Or.inl rfl | exact Or.inr rfl)))
