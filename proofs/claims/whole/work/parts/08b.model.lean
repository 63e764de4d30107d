theorem ky_inl {x : Int32} {n : Nat} (h : 0 ≤ x ∧ x.toNatClampNeg < n) : vp_in x n := fun z => z.elim (fun q => absurd h.1 (Int32.not_le.mpr q)) (fun q => absurd h.2 (Nat.not_lt.mpr q))
theorem ky_fb {x : Int32} (h : x = 0 ∨ x = 1) : fits .boolean (.int x) = true := by rcases h with rfl | rfl <;> decide
def md_thrown_r (c : Nat → Nat → Int32)  : Int32 := (c 0 0)
set_option maxRecDepth 20000 in
set_option maxHeartbeats 4000000 in
theorem k_X12_thrown {G : ky_GW} {d : Nat} {h : ky_HP} {Q : ky_RS → ky_HP → Prop} {a : Nat} {c : Nat → Nat → Int32}  (hm : md_at G h a c)  (K : Q (.inl (some (.int (md_thrown_r c)))) h) : ky_Call G d M_X12_thrown [.ref a] h Q := by
  refine ky_ofV (by decide +kernel) rfl ok_X12_thrown (Nat.le_of_ble_eq_true rfl) ?_
  have fr : bk_fr a 13 h h := bk_fr.rf
  refine (?_ : ky_V _ _ _ 0 [(0, .ref a)] [] _ _)
  refine v_aload_n (i := 0) (j := 0) rfl rfl (?_ : ky_V _ _ _ 1 _ _ _ _)
  refine gf_X12_3 rfl (i := 1) rfl (md_0 hm) rfl (?_ : ky_V _ _ _ 4 _ _ _ _)
  refine v_iret (v := (c 0 0)) (ty := .int) (i := 2) rfl rfl rfl ?_
  unfold md_thrown_r at K; exact K
def md_end_r (c : Nat → Nat → Int32) (p0 : Int32) : Int32 := (if p0 < 0 then 0 else (if p0 ≤ ((bk_w c 0 0 0) 0 9) then 1 else 0))
def md_end_c (c : Nat → Nat → Int32) (p0 : Int32) : Nat → Nat → Int32 := (if p0 < 0 then (bk_w c 0 0 0) else (if p0 ≤ ((bk_w c 0 0 0) 0 9) then (bk_w (bk_w c 0 0 0) 0 9 p0) else (bk_w c 0 0 0)))
set_option maxRecDepth 20000 in
set_option maxHeartbeats 4000000 in
theorem k_X12_end {G : ky_GW} {d : Nat} {h : ky_HP} {Q : ky_RS → ky_HP → Prop} {a : Nat} {c : Nat → Nat → Int32} (p0 : Int32) (hm : md_at G h a c)  (K : ∀ h1, md_at G h1 a (md_end_c c p0) → bk_fr a 13 h h1 → Q (.inl (some (.int (md_end_r c p0)))) h1) : ky_Call G d M_X12_end [.ref a, .int p0] h Q := by
  refine ky_ofV (by decide +kernel) rfl ok_X12_end (Nat.le_of_ble_eq_true rfl) ?_
  have fr : bk_fr a 13 h h := bk_fr.rf
  refine (?_ : ky_V _ _ _ 0 [(0, .ref a), (1, .int p0)] [] _ _)
  refine v_aload_n (i := 0) (j := 0) rfl rfl (?_ : ky_V _ _ _ 1 _ _ _ _)
  refine v_iconst (v := 0) (i := 1) rfl (by decide) (?_ : ky_V _ _ _ 2 _ _ _ _)
  refine pf_X12_3 rfl (i := 2) rfl (md_0 hm) (Nat.le_of_ble_eq_true rfl) rfl rfl ?_
  refine bk_st (B := md_B G a) hm fr 0 0 0 (by decide) (fun h1 hmh1 frh1 => ?_)
  obtain ⟨q2, eq2⟩ : ∃ z, z = bk_w c 0 0 0 := ⟨_, rfl⟩
  rw [← eq2] at hmh1
  refine (?_ : ky_V _ _ _ 5 _ _ _ _)
  refine v_iload_n (i := 3) (j := 1) rfl rfl (?_ : ky_V _ _ _ 6 _ _ _ _)
  refine v_if_lt (tgt := 17) (i := 4) rfl (by decide) (fun c3 => ?_) (fun c3 => ?_)
  · refine v_iconst (v := 0) (i := 9) rfl (by decide) (?_ : ky_V _ _ _ 18 _ _ _ _)
    refine v_iret (v := 0) (ty := .boolean) (i := 10) rfl rfl (by decide) ?_
    subst eq2; unfold md_end_r md_end_c at K; (try simp only [if_pos c3] at K); exact K _ hmh1 frh1
  · refine v_iload_n (i := 5) (j := 1) rfl rfl (?_ : ky_V _ _ _ 10 _ _ _ _)
    refine v_aload_n (i := 6) (j := 0) rfl rfl (?_ : ky_V _ _ _ 11 _ _ _ _)
    refine gf_X12_74 rfl (i := 7) rfl (md_0 hmh1) rfl (?_ : ky_V _ _ _ 14 _ _ _ _)
    refine v_icmp_le (tgt := 19) (i := 8) rfl (by decide) (fun c4 => ?_) (fun c4 => ?_)
    · refine v_aload_n (i := 11) (j := 0) rfl rfl (?_ : ky_V _ _ _ 20 _ _ _ _)
      refine v_iload_n (i := 12) (j := 1) rfl rfl (?_ : ky_V _ _ _ 21 _ _ _ _)
      refine pf_X12_74 rfl (i := 13) rfl (md_0 hmh1) (Nat.le_of_ble_eq_true rfl) rfl rfl ?_
      refine bk_st (B := md_B G a) hmh1 frh1 0 9 p0 (by decide) (fun h5 hmh5 frh5 => ?_)
      obtain ⟨q6, eq6⟩ : ∃ z, z = bk_w q2 0 9 p0 := ⟨_, rfl⟩
      rw [← eq6] at hmh5
      refine (?_ : ky_V _ _ _ 24 _ _ _ _)
      refine v_iconst (v := 1) (i := 14) rfl (by decide) (?_ : ky_V _ _ _ 25 _ _ _ _)
      refine v_iret (v := 1) (ty := .boolean) (i := 15) rfl rfl (by decide) ?_
      subst eq2 eq6; unfold md_end_r md_end_c at K; (try simp only [if_neg c3, if_pos c4] at K); exact K _ hmh5 frh5
    · refine v_iconst (v := 0) (i := 9) rfl (by decide) (?_ : ky_V _ _ _ 18 _ _ _ _)
      refine v_iret (v := 0) (ty := .boolean) (i := 10) rfl rfl (by decide) ?_
      subst eq2; unfold md_end_r md_end_c at K; (try simp only [if_neg c3, if_neg c4] at K); exact K _ hmh1 frh1
def md_fault_r (c : Nat → Nat → Int32)  : Int32 := ((bk_w c 0 0 0) 0 14)
def md_fault_c (c : Nat → Nat → Int32)  : Nat → Nat → Int32 := (bk_w c 0 0 0)
set_option maxRecDepth 20000 in
set_option maxHeartbeats 4000000 in
theorem k_X12_fault {G : ky_GW} {d : Nat} {h : ky_HP} {Q : ky_RS → ky_HP → Prop} {a : Nat} {c : Nat → Nat → Int32}  (hm : md_at G h a c)  (K : ∀ h1, md_at G h1 a (md_fault_c c) → bk_fr a 13 h h1 → Q (.inl (some (.int (md_fault_r c)))) h1) : ky_Call G d M_X12_fault [.ref a] h Q := by
  refine ky_ofV (by decide +kernel) rfl ok_X12_fault (Nat.le_of_ble_eq_true rfl) ?_
  have fr : bk_fr a 13 h h := bk_fr.rf
  refine (?_ : ky_V _ _ _ 0 [(0, .ref a)] [] _ _)
  refine v_aload_n (i := 0) (j := 0) rfl rfl (?_ : ky_V _ _ _ 1 _ _ _ _)
  refine v_iconst (v := 0) (i := 1) rfl (by decide) (?_ : ky_V _ _ _ 2 _ _ _ _)
  refine pf_X12_3 rfl (i := 2) rfl (md_0 hm) (Nat.le_of_ble_eq_true rfl) rfl rfl ?_
  refine bk_st (B := md_B G a) hm fr 0 0 0 (by decide) (fun h1 hmh1 frh1 => ?_)
  obtain ⟨q2, eq2⟩ : ∃ z, z = bk_w c 0 0 0 := ⟨_, rfl⟩
  rw [← eq2] at hmh1
  refine (?_ : ky_V _ _ _ 5 _ _ _ _)
  refine v_aload_n (i := 3) (j := 0) rfl rfl (?_ : ky_V _ _ _ 6 _ _ _ _)
  refine gf_X12_33 rfl (i := 4) rfl (md_0 hmh1) rfl (?_ : ky_V _ _ _ 9 _ _ _ _)
  refine v_iret (v := (q2 0 14)) (ty := .int) (i := 5) rfl rfl rfl ?_
  subst eq2; unfold md_fault_r md_fault_c at K; exact K _ hmh1 frh1
def md_uses_c (c : Nat → Nat → Int32)  : Nat → Nat → Int32 := (bk_w (bk_w (bk_w (bk_w c 0 0 0) 0 11 ((bk_w c 0 0 0) 0 9)) 0 9 0) 0 10 0)
set_option maxRecDepth 20000 in
set_option maxHeartbeats 4000000 in
theorem k_X12_uses {G : ky_GW} {d : Nat} {h : ky_HP} {Q : ky_RS → ky_HP → Prop} {a : Nat} {c : Nat → Nat → Int32}  (hm : md_at G h a c)  (K : ∀ h1, md_at G h1 a (md_uses_c c) → bk_fr a 13 h h1 → Q (.inl none) h1) : ky_Call G d M_X12_uses [.ref a] h Q := by
  refine ky_ofV (by decide +kernel) rfl ok_X12_uses (Nat.le_of_ble_eq_true rfl) ?_
  have fr : bk_fr a 13 h h := bk_fr.rf
  refine (?_ : ky_V _ _ _ 0 [(0, .ref a)] [] _ _)
  refine v_aload_n (i := 0) (j := 0) rfl rfl (?_ : ky_V _ _ _ 1 _ _ _ _)
  refine v_iconst (v := 0) (i := 1) rfl (by decide) (?_ : ky_V _ _ _ 2 _ _ _ _)
  refine pf_X12_3 rfl (i := 2) rfl (md_0 hm) (Nat.le_of_ble_eq_true rfl) rfl rfl ?_
  refine bk_st (B := md_B G a) hm fr 0 0 0 (by decide) (fun h1 hmh1 frh1 => ?_)
  obtain ⟨q2, eq2⟩ : ∃ z, z = bk_w c 0 0 0 := ⟨_, rfl⟩
  rw [← eq2] at hmh1
  refine (?_ : ky_V _ _ _ 5 _ _ _ _)
  refine v_aload_n (i := 3) (j := 0) rfl rfl (?_ : ky_V _ _ _ 6 _ _ _ _)
  refine v_aload_n (i := 4) (j := 0) rfl rfl (?_ : ky_V _ _ _ 7 _ _ _ _)
  refine gf_X12_74 rfl (i := 5) rfl (md_0 hmh1) rfl (?_ : ky_V _ _ _ 10 _ _ _ _)
  refine v_topi (fun x3 ex3 => ?_)
  refine pf_X12_80 rfl (i := 6) rfl (md_0 hmh1) (Nat.le_of_ble_eq_true rfl) rfl rfl ?_
  refine bk_st (B := md_B G a) hmh1 frh1 0 11 x3 (by decide) (fun h4 hmh4 frh4 => ?_)
  obtain ⟨q5, eq5⟩ : ∃ z, z = bk_w q2 0 11 x3 := ⟨_, rfl⟩
  rw [← eq5] at hmh4
  refine (?_ : ky_V _ _ _ 13 _ _ _ _)
  refine v_aload_n (i := 7) (j := 0) rfl rfl (?_ : ky_V _ _ _ 14 _ _ _ _)
  refine v_iconst (v := 0) (i := 8) rfl (by decide) (?_ : ky_V _ _ _ 15 _ _ _ _)
  refine pf_X12_74 rfl (i := 9) rfl (md_0 hmh4) (Nat.le_of_ble_eq_true rfl) rfl rfl ?_
  refine bk_st (B := md_B G a) hmh4 frh4 0 9 0 (by decide) (fun h6 hmh6 frh6 => ?_)
  obtain ⟨q7, eq7⟩ : ∃ z, z = bk_w q5 0 9 0 := ⟨_, rfl⟩
  rw [← eq7] at hmh6
  refine (?_ : ky_V _ _ _ 18 _ _ _ _)
  refine v_aload_n (i := 10) (j := 0) rfl rfl (?_ : ky_V _ _ _ 19 _ _ _ _)
  refine v_iconst (v := 0) (i := 11) rfl (by decide) (?_ : ky_V _ _ _ 20 _ _ _ _)
  refine pf_X12_77 rfl (i := 12) rfl (md_0 hmh6) (Nat.le_of_ble_eq_true rfl) rfl rfl ?_
  refine bk_st (B := md_B G a) hmh6 frh6 0 10 0 (by decide) (fun h8 hmh8 frh8 => ?_)
  obtain ⟨q9, eq9⟩ : ∃ z, z = bk_w q7 0 10 0 := ⟨_, rfl⟩
  rw [← eq9] at hmh8
  refine (?_ : ky_V _ _ _ 23 _ _ _ _)
  refine v_vret (i := 13) rfl rfl ?_
  subst eq2 ex3 eq5 eq7 eq9; unfold md_uses_c at K; exact K _ hmh8 frh8
def md_isAt_r (c : Nat → Nat → Int32) (p0 : Int32) (p1 : Int32) : Int32 := (if (c 0 11) ≤ (c 0 10) then 0 else (if (c 6 (Int32.toNatClampNeg (c 0 10))) < p0 then 0 else (if p1 < (c 6 (Int32.toNatClampNeg (c 0 10))) then 0 else 1)))
set_option maxRecDepth 20000 in
set_option maxHeartbeats 4000000 in
theorem k_X12_isAt {G : ky_GW} {d : Nat} {h : ky_HP} {Q : ky_RS → ky_HP → Prop} {a : Nat} {c : Nat → Nat → Int32} (p0 : Int32) (p1 : Int32) (hm : md_at G h a c) (b0 : (¬ ((c 0 11) ≤ (c 0 10))) → vp_in (c 0 10) 400) (b1 : (¬ ((c 0 11) ≤ (c 0 10))) → (¬ ((c 6 (Int32.toNatClampNeg (c 0 10))) < p0)) → vp_in (c 0 10) 400) (K : Q (.inl (some (.int (md_isAt_r c p0 p1)))) h) : ky_Call G d M_X12_isAt [.ref a, .int p0, .int p1] h Q := by
  refine ky_ofV (by decide +kernel) rfl ok_X12_isAt (Nat.le_of_ble_eq_true rfl) ?_
  have fr : bk_fr a 13 h h := bk_fr.rf
  refine (?_ : ky_V _ _ _ 0 [(0, .ref a), (1, .int p0), (2, .int p1)] [] _ _)
  refine v_aload_n (i := 0) (j := 0) rfl rfl (?_ : ky_V _ _ _ 1 _ _ _ _)
  refine gf_X12_77 rfl (i := 1) rfl (md_0 hm) rfl (?_ : ky_V _ _ _ 4 _ _ _ _)
  refine v_aload_n (i := 2) (j := 0) rfl rfl (?_ : ky_V _ _ _ 5 _ _ _ _)
  refine gf_X12_80 rfl (i := 3) rfl (md_0 hm) rfl (?_ : ky_V _ _ _ 8 _ _ _ _)
  refine v_icmp_ge (tgt := 41) (i := 4) rfl (by decide) (fun c1 => ?_) (fun c1 => ?_)
  · refine v_iconst (v := 0) (i := 21) rfl (by decide) (?_ : ky_V _ _ _ 42 _ _ _ _)
    refine v_iret (v := 0) (ty := .boolean) (i := 22) rfl rfl (by decide) ?_
    unfold md_isAt_r at K; (try simp only [if_pos c1] at K); exact K
  · refine v_aload_n (i := 5) (j := 0) rfl rfl (?_ : ky_V _ _ _ 12 _ _ _ _)
    refine gf_X12_29 rfl (i := 6) rfl (md_0 hm) rfl (?_ : ky_V _ _ _ 15 _ _ _ _)
    refine v_aload_n (i := 7) (j := 0) rfl rfl (?_ : ky_V _ _ _ 16 _ _ _ _)
    refine gf_X12_77 rfl (i := 8) rfl (md_0 hm) rfl (?_ : ky_V _ _ _ 19 _ _ _ _)
    refine v_bald (i := 9) rfl (md_6 hm) (b0 c1) (?_ : ky_V _ _ _ 20 _ (.int (c 6 (Int32.toNatClampNeg (c 0 10))) :: _) _ _)
    refine v_iload_n (i := 10) (j := 1) rfl rfl (?_ : ky_V _ _ _ 21 _ _ _ _)
    refine v_icmp_lt (tgt := 41) (i := 11) rfl (by decide) (fun c2 => ?_) (fun c2 => ?_)
    · refine v_iconst (v := 0) (i := 21) rfl (by decide) (?_ : ky_V _ _ _ 42 _ _ _ _)
      refine v_iret (v := 0) (ty := .boolean) (i := 22) rfl rfl (by decide) ?_
      unfold md_isAt_r at K; (try simp only [if_neg c1, if_pos c2] at K); exact K
    · refine v_aload_n (i := 12) (j := 0) rfl rfl (?_ : ky_V _ _ _ 25 _ _ _ _)
      refine gf_X12_29 rfl (i := 13) rfl (md_0 hm) rfl (?_ : ky_V _ _ _ 28 _ _ _ _)
      refine v_aload_n (i := 14) (j := 0) rfl rfl (?_ : ky_V _ _ _ 29 _ _ _ _)
      refine gf_X12_77 rfl (i := 15) rfl (md_0 hm) rfl (?_ : ky_V _ _ _ 32 _ _ _ _)
      refine v_bald (i := 16) rfl (md_6 hm) (b1 c1 c2) (?_ : ky_V _ _ _ 33 _ (.int (c 6 (Int32.toNatClampNeg (c 0 10))) :: _) _ _)
      refine v_iload_n (i := 17) (j := 2) rfl rfl (?_ : ky_V _ _ _ 34 _ _ _ _)
      refine v_icmp_gt (tgt := 41) (i := 18) rfl (by decide) (fun c3 => ?_) (fun c3 => ?_)
      · refine v_iconst (v := 0) (i := 21) rfl (by decide) (?_ : ky_V _ _ _ 42 _ _ _ _)
        refine v_iret (v := 0) (ty := .boolean) (i := 22) rfl rfl (by decide) ?_
        unfold md_isAt_r at K; (try simp only [if_neg c1, if_neg c2, if_pos c3] at K); exact K
      · refine v_iconst (v := 1) (i := 19) rfl (by decide) (?_ : ky_V _ _ _ 38 _ _ _ _)
        refine v_goto (tgt := 42) (i := 20) rfl (by decide) (?_ : ky_V _ _ _ 42 _ _ _ _)
        refine v_iret (v := 1) (ty := .boolean) (i := 22) rfl rfl (by decide) ?_
        unfold md_isAt_r at K; (try simp only [if_neg c1, if_neg c2, if_neg c3] at K); exact K
def md_people_r (c : Nat → Nat → Int32)  : Int32 := (c 1 12)
set_option maxRecDepth 20000 in
set_option maxHeartbeats 4000000 in
theorem k_X12_people {G : ky_GW} {d : Nat} {h : ky_HP} {Q : ky_RS → ky_HP → Prop} {a : Nat} {c : Nat → Nat → Int32}  (hm : md_at G h a c)  (K : Q (.inl (some (.int (md_people_r c)))) h) : ky_Call G d M_X12_people [.ref a] h Q := by
  refine ky_ofV (by decide +kernel) rfl ok_X12_people (Nat.le_of_ble_eq_true rfl) ?_
  have fr : bk_fr a 13 h h := bk_fr.rf
  refine (?_ : ky_V _ _ _ 0 [(0, .ref a)] [] _ _)
  refine v_aload_n (i := 0) (j := 0) rfl rfl (?_ : ky_V _ _ _ 1 _ _ _ _)
  refine gf_X12_13 rfl (i := 1) rfl (md_0 hm) rfl (?_ : ky_V _ _ _ 4 _ _ _ _)
  refine v_bipush (v := 12) (i := 2) rfl (by decide) (?_ : ky_V _ _ _ 6 _ _ _ _)
  refine v_iald (i := 3) rfl (md_1 hm) (ky_inl (by decide)) (?_ : ky_V _ _ _ 7 _ (.int (c 1 12) :: _) _ _)
  refine v_iret (v := (c 1 12)) (ty := .int) (i := 4) rfl rfl rfl ?_
  unfold md_people_r at K; exact K
def md_emits_c (c : Nat → Nat → Int32) (p0 : Int32) (p1 : Int32) : Nat → Nat → Int32 := (bk_w (bk_w (bk_w c 1 (Int32.toNatClampNeg (1447 + (2 * (c 0 16)))) p0) 1 (Int32.toNatClampNeg ((1447 + (2 * ((bk_w c 1 (Int32.toNatClampNeg (1447 + (2 * (c 0 16)))) p0) 0 16))) + 1)) p1) 0 16 (((bk_w (bk_w c 1 (Int32.toNatClampNeg (1447 + (2 * (c 0 16)))) p0) 1 (Int32.toNatClampNeg ((1447 + (2 * ((bk_w c 1 (Int32.toNatClampNeg (1447 + (2 * (c 0 16)))) p0) 0 16))) + 1)) p1) 0 16) + 1))
set_option maxRecDepth 20000 in
set_option maxHeartbeats 4000000 in
theorem k_X12_emits {G : ky_GW} {d : Nat} {h : ky_HP} {Q : ky_RS → ky_HP → Prop} {a : Nat} {c : Nat → Nat → Int32} (p0 : Int32) (p1 : Int32) (hm : md_at G h a c) (b0 : vp_in (1447 + (2 * (c 0 16))) 2247) (b1 : vp_in ((1447 + (2 * ((bk_w c 1 (Int32.toNatClampNeg (1447 + (2 * (c 0 16)))) p0) 0 16))) + 1) 2247) (K : ∀ h1, md_at G h1 a (md_emits_c c p0 p1) → bk_fr a 13 h h1 → Q (.inl none) h1) : ky_Call G d M_X12_emits [.ref a, .int p0, .int p1] h Q := by
  refine ky_ofV (by decide +kernel) rfl ok_X12_emits (Nat.le_of_ble_eq_true rfl) ?_
  have fr : bk_fr a 13 h h := bk_fr.rf
  refine (?_ : ky_V _ _ _ 0 [(0, .ref a), (1, .int p0), (2, .int p1)] [] _ _)
  refine v_aload_n (i := 0) (j := 0) rfl rfl (?_ : ky_V _ _ _ 1 _ _ _ _)
  refine gf_X12_13 rfl (i := 1) rfl (md_0 hm) rfl (?_ : ky_V _ _ _ 4 _ _ _ _)
  refine v_sipush (v := 1447) (i := 2) rfl (by decide) (?_ : ky_V _ _ _ 7 _ _ _ _)
  refine v_iconst (v := 2) (i := 3) rfl (by decide) (?_ : ky_V _ _ _ 8 _ _ _ _)
  refine v_aload_n (i := 4) (j := 0) rfl rfl (?_ : ky_V _ _ _ 9 _ _ _ _)
  refine gf_X12_175 rfl (i := 5) rfl (md_0 hm) rfl (?_ : ky_V _ _ _ 12 _ _ _ _)
  refine v_imul (i := 6) rfl (?_ : ky_V _ _ _ 13 _ _ _ _)
  refine v_iadd (i := 7) rfl (?_ : ky_V _ _ _ 14 _ _ _ _)
  refine v_iload_n (i := 8) (j := 1) rfl rfl (?_ : ky_V _ _ _ 15 _ _ _ _)
  refine v_iast (i := 9) rfl (md_1 hm) (b0) ?_
  refine bk_st (B := md_B G a) hm fr 1 (Int32.toNatClampNeg (1447 + (2 * (c 0 16)))) p0 (by decide) (fun h1 hmh1 frh1 => ?_)
  obtain ⟨q2, eq2⟩ : ∃ z, z = bk_w c 1 (Int32.toNatClampNeg (1447 + (2 * (c 0 16)))) p0 := ⟨_, rfl⟩
  rw [← eq2] at hmh1
  refine (?_ : ky_V _ _ _ 16 _ _ _ _)
  refine v_aload_n (i := 10) (j := 0) rfl rfl (?_ : ky_V _ _ _ 17 _ _ _ _)
  refine gf_X12_13 rfl (i := 11) rfl (md_0 hmh1) rfl (?_ : ky_V _ _ _ 20 _ _ _ _)
  refine v_sipush (v := 1447) (i := 12) rfl (by decide) (?_ : ky_V _ _ _ 23 _ _ _ _)
  refine v_iconst (v := 2) (i := 13) rfl (by decide) (?_ : ky_V _ _ _ 24 _ _ _ _)
  refine v_aload_n (i := 14) (j := 0) rfl rfl (?_ : ky_V _ _ _ 25 _ _ _ _)
  refine gf_X12_175 rfl (i := 15) rfl (md_0 hmh1) rfl (?_ : ky_V _ _ _ 28 _ _ _ _)
  refine v_imul (i := 16) rfl (?_ : ky_V _ _ _ 29 _ _ _ _)
  refine v_iadd (i := 17) rfl (?_ : ky_V _ _ _ 30 _ _ _ _)
  refine v_iconst (v := 1) (i := 18) rfl (by decide) (?_ : ky_V _ _ _ 31 _ _ _ _)
  refine v_iadd (i := 19) rfl (?_ : ky_V _ _ _ 32 _ _ _ _)
  refine v_iload_n (i := 20) (j := 2) rfl rfl (?_ : ky_V _ _ _ 33 _ _ _ _)
  refine v_iast (i := 21) rfl (md_1 hmh1) (by subst eq2; exact b1) ?_
  refine bk_st (B := md_B G a) hmh1 frh1 1 (Int32.toNatClampNeg ((1447 + (2 * (q2 0 16))) + 1)) p1 (by decide) (fun h3 hmh3 frh3 => ?_)
  obtain ⟨q4, eq4⟩ : ∃ z, z = bk_w q2 1 (Int32.toNatClampNeg ((1447 + (2 * (q2 0 16))) + 1)) p1 := ⟨_, rfl⟩
  rw [← eq4] at hmh3
  refine (?_ : ky_V _ _ _ 34 _ _ _ _)
  refine v_aload_n (i := 22) (j := 0) rfl rfl (?_ : ky_V _ _ _ 35 _ _ _ _)
  refine v_dup (i := 23) rfl rfl (?_ : ky_V _ _ _ 36 _ _ _ _)
  refine gf_X12_175 rfl (i := 24) rfl (md_0 hmh3) rfl (?_ : ky_V _ _ _ 39 _ _ _ _)
  refine v_iconst (v := 1) (i := 25) rfl (by decide) (?_ : ky_V _ _ _ 40 _ _ _ _)
  refine v_iadd (i := 26) rfl (?_ : ky_V _ _ _ 41 _ _ _ _)
  refine v_topi (fun x5 ex5 => ?_)
  refine pf_X12_175 rfl (i := 27) rfl (md_0 hmh3) (Nat.le_of_ble_eq_true rfl) rfl rfl ?_
  refine bk_st (B := md_B G a) hmh3 frh3 0 16 x5 (by decide) (fun h6 hmh6 frh6 => ?_)
  obtain ⟨q7, eq7⟩ : ∃ z, z = bk_w q4 0 16 x5 := ⟨_, rfl⟩
  rw [← eq7] at hmh6
  refine (?_ : ky_V _ _ _ 44 _ _ _ _)
  refine v_vret (i := 28) rfl rfl ?_
  subst eq2 eq4 ex5 eq7; unfold md_emits_c at K; exact K _ hmh6 frh6
def md_throwsIf_r (c : Nat → Nat → Int32) (p0 : Int32) (p1 : Int32) : Int32 := p0
def md_throwsIf_c (c : Nat → Nat → Int32) (p0 : Int32) (p1 : Int32) : Nat → Nat → Int32 := (if p0 = 0 then c else (bk_w c 0 0 p1))
set_option maxRecDepth 20000 in
set_option maxHeartbeats 4000000 in
theorem k_X12_throwsIf {G : ky_GW} {d : Nat} {h : ky_HP} {Q : ky_RS → ky_HP → Prop} {a : Nat} {c : Nat → Nat → Int32} (p0 : Int32) (p1 : Int32) (hm : md_at G h a c) (b0 : p0 = 0 ∨ p0 = 1) (K : ∀ h1, md_at G h1 a (md_throwsIf_c c p0 p1) → bk_fr a 13 h h1 → Q (.inl (some (.int (md_throwsIf_r c p0 p1)))) h1) : ky_Call G d M_X12_throwsIf [.ref a, .int p0, .int p1] h Q := by
  refine ky_ofV (by decide +kernel) rfl ok_X12_throwsIf (Nat.le_of_ble_eq_true rfl) ?_
  have fr : bk_fr a 13 h h := bk_fr.rf
  refine (?_ : ky_V _ _ _ 0 [(0, .ref a), (1, .int p0), (2, .int p1)] [] _ _)
  refine v_iload_n (i := 0) (j := 1) rfl rfl (?_ : ky_V _ _ _ 1 _ _ _ _)
  refine v_if_eq (tgt := 9) (i := 1) rfl (by decide) (fun c1 => ?_) (fun c1 => ?_)
  · refine v_iload_n (i := 5) (j := 1) rfl rfl (?_ : ky_V _ _ _ 10 _ _ _ _)
    refine v_iret (v := p0) (ty := .boolean) (i := 6) rfl rfl (ky_nb (b0)) ?_
    unfold md_throwsIf_r md_throwsIf_c at K; (try simp only [if_pos c1] at K); exact K _ hm fr
  · refine v_aload_n (i := 2) (j := 0) rfl rfl (?_ : ky_V _ _ _ 5 _ _ _ _)
    refine v_iload_n (i := 3) (j := 2) rfl rfl (?_ : ky_V _ _ _ 6 _ _ _ _)
    refine pf_X12_3 rfl (i := 4) rfl (md_0 hm) (Nat.le_of_ble_eq_true rfl) rfl rfl ?_
    refine bk_st (B := md_B G a) hm fr 0 0 p1 (by decide) (fun h2 hmh2 frh2 => ?_)
    obtain ⟨q3, eq3⟩ : ∃ z, z = bk_w c 0 0 p1 := ⟨_, rfl⟩
    rw [← eq3] at hmh2
    refine (?_ : ky_V _ _ _ 9 _ _ _ _)
    refine v_iload_n (i := 5) (j := 1) rfl rfl (?_ : ky_V _ _ _ 10 _ _ _ _)
    refine v_iret (v := p0) (ty := .boolean) (i := 6) rfl rfl (ky_nb (by subst eq3; exact b0)) ?_
    subst eq3; unfold md_throwsIf_r md_throwsIf_c at K; (try simp only [if_neg c1] at K); exact K _ hmh2 frh2
def md_looks_c (c : Nat → Nat → Int32)  : Nat → Nat → Int32 := (if ((bk_w (bk_w (bk_w c 9 0 (c 1 0)) 9 1 ((bk_w c 9 0 (c 1 0)) 1 1)) 0 19 ((bk_w (bk_w c 9 0 (c 1 0)) 9 1 ((bk_w c 9 0 (c 1 0)) 1 1)) 1 2)) 1 3) = (1 : Int32) then (bk_w (bk_w (bk_w (bk_w c 9 0 (c 1 0)) 9 1 ((bk_w c 9 0 (c 1 0)) 1 1)) 0 19 ((bk_w (bk_w c 9 0 (c 1 0)) 9 1 ((bk_w c 9 0 (c 1 0)) 1 1)) 1 2)) 0 20 1) else (bk_w (bk_w (bk_w (bk_w c 9 0 (c 1 0)) 9 1 ((bk_w c 9 0 (c 1 0)) 1 1)) 0 19 ((bk_w (bk_w c 9 0 (c 1 0)) 9 1 ((bk_w c 9 0 (c 1 0)) 1 1)) 1 2)) 0 20 0))
set_option maxRecDepth 20000 in
set_option maxHeartbeats 4000000 in
theorem k_X12_looks {G : ky_GW} {d : Nat} {h : ky_HP} {Q : ky_RS → ky_HP → Prop} {a : Nat} {c : Nat → Nat → Int32}  (hm : md_at G h a c)  (K : ∀ h1, md_at G h1 a (md_looks_c c) → bk_fr a 13 h h1 → Q (.inl none) h1) : ky_Call G d M_X12_looks [.ref a] h Q := by
  refine ky_ofV (by decide +kernel) rfl ok_X12_looks (Nat.le_of_ble_eq_true rfl) ?_
  have fr : bk_fr a 13 h h := bk_fr.rf
  refine (?_ : ky_V _ _ _ 0 [(0, .ref a)] [] _ _)
  refine v_aload_n (i := 0) (j := 0) rfl rfl (?_ : ky_V _ _ _ 1 _ _ _ _)
  refine gf_X12_42 rfl (i := 1) rfl (md_0 hm) rfl (?_ : ky_V _ _ _ 4 _ _ _ _)
  refine v_iconst (v := 0) (i := 2) rfl (by decide) (?_ : ky_V _ _ _ 5 _ _ _ _)
  refine v_aload_n (i := 3) (j := 0) rfl rfl (?_ : ky_V _ _ _ 6 _ _ _ _)
  refine gf_X12_13 rfl (i := 4) rfl (md_0 hm) rfl (?_ : ky_V _ _ _ 9 _ _ _ _)
  refine v_iconst (v := 0) (i := 5) rfl (by decide) (?_ : ky_V _ _ _ 10 _ _ _ _)
  refine v_iald (i := 6) rfl (md_1 hm) (ky_inl (by decide)) (?_ : ky_V _ _ _ 11 _ (.int (c 1 0) :: _) _ _)
  refine v_topi (fun x1 ex1 => ?_)
  refine v_iast (i := 7) rfl (md_9 hm) (ky_inl (by decide)) ?_
  refine bk_st (B := md_B G a) hm fr 9 0 x1 (by decide) (fun h2 hmh2 frh2 => ?_)
  obtain ⟨q3, eq3⟩ : ∃ z, z = bk_w c 9 0 x1 := ⟨_, rfl⟩
  rw [← eq3] at hmh2
  refine (?_ : ky_V _ _ _ 12 _ _ _ _)
  refine v_aload_n (i := 8) (j := 0) rfl rfl (?_ : ky_V _ _ _ 13 _ _ _ _)
  refine gf_X12_42 rfl (i := 9) rfl (md_0 hmh2) rfl (?_ : ky_V _ _ _ 16 _ _ _ _)
  refine v_iconst (v := 1) (i := 10) rfl (by decide) (?_ : ky_V _ _ _ 17 _ _ _ _)
  refine v_aload_n (i := 11) (j := 0) rfl rfl (?_ : ky_V _ _ _ 18 _ _ _ _)
  refine gf_X12_13 rfl (i := 12) rfl (md_0 hmh2) rfl (?_ : ky_V _ _ _ 21 _ _ _ _)
  refine v_iconst (v := 1) (i := 13) rfl (by decide) (?_ : ky_V _ _ _ 22 _ _ _ _)
  refine v_iald (i := 14) rfl (md_1 hmh2) (ky_inl (by decide)) (?_ : ky_V _ _ _ 23 _ (.int (q3 1 1) :: _) _ _)
  refine v_topi (fun x4 ex4 => ?_)
  refine v_iast (i := 15) rfl (md_9 hmh2) (ky_inl (by decide)) ?_
  refine bk_st (B := md_B G a) hmh2 frh2 9 1 x4 (by decide) (fun h5 hmh5 frh5 => ?_)
  obtain ⟨q6, eq6⟩ : ∃ z, z = bk_w q3 9 1 x4 := ⟨_, rfl⟩
  rw [← eq6] at hmh5
  refine (?_ : ky_V _ _ _ 24 _ _ _ _)
  refine v_aload_n (i := 16) (j := 0) rfl rfl (?_ : ky_V _ _ _ 25 _ _ _ _)
  refine v_aload_n (i := 17) (j := 0) rfl rfl (?_ : ky_V _ _ _ 26 _ _ _ _)
  refine gf_X12_13 rfl (i := 18) rfl (md_0 hmh5) rfl (?_ : ky_V _ _ _ 29 _ _ _ _)
  refine v_iconst (v := 2) (i := 19) rfl (by decide) (?_ : ky_V _ _ _ 30 _ _ _ _)
  refine v_iald (i := 20) rfl (md_1 hmh5) (ky_inl (by decide)) (?_ : ky_V _ _ _ 31 _ (.int (q6 1 2) :: _) _ _)
  refine v_topi (fun x7 ex7 => ?_)
  refine pf_X12_244 rfl (i := 21) rfl (md_0 hmh5) (Nat.le_of_ble_eq_true rfl) rfl rfl ?_
  refine bk_st (B := md_B G a) hmh5 frh5 0 19 x7 (by decide) (fun h8 hmh8 frh8 => ?_)
  obtain ⟨q9, eq9⟩ : ∃ z, z = bk_w q6 0 19 x7 := ⟨_, rfl⟩
  rw [← eq9] at hmh8
  refine (?_ : ky_V _ _ _ 34 _ _ _ _)
  refine v_aload_n (i := 22) (j := 0) rfl rfl (?_ : ky_V _ _ _ 35 _ _ _ _)
  refine v_aload_n (i := 23) (j := 0) rfl rfl (?_ : ky_V _ _ _ 36 _ _ _ _)
  refine gf_X12_13 rfl (i := 24) rfl (md_0 hmh8) rfl (?_ : ky_V _ _ _ 39 _ _ _ _)
  refine v_iconst (v := 3) (i := 25) rfl (by decide) (?_ : ky_V _ _ _ 40 _ _ _ _)
  refine v_iald (i := 26) rfl (md_1 hmh8) (ky_inl (by decide)) (?_ : ky_V _ _ _ 41 _ (.int (q9 1 3) :: _) _ _)
  refine v_iconst (v := 1) (i := 27) rfl (by decide) (?_ : ky_V _ _ _ 42 _ _ _ _)
  refine v_icmp_ne (tgt := 49) (i := 28) rfl (by decide) (fun c10 => ?_) (fun c10 => ?_)
  · refine v_iconst (v := 0) (i := 31) rfl (by decide) (?_ : ky_V _ _ _ 50 _ _ _ _)
    refine pf_X12_246 rfl (i := 32) rfl (md_0 hmh8) (Nat.le_of_ble_eq_true rfl) (by decide) (by decide) ?_
    refine bk_st (B := md_B G a) hmh8 frh8 0 20 0 (by decide) (fun h11 hmh11 frh11 => ?_)
    obtain ⟨q12, eq12⟩ : ∃ z, z = bk_w q9 0 20 0 := ⟨_, rfl⟩
    rw [← eq12] at hmh11
    refine (?_ : ky_V _ _ _ 53 _ _ _ _)
    refine v_vret (i := 33) rfl rfl ?_
    subst ex1 eq3 ex4 eq6 ex7 eq9 eq12; unfold md_looks_c at K; (try simp only [if_neg c10] at K); exact K _ hmh11 frh11
  · refine v_iconst (v := 1) (i := 29) rfl (by decide) (?_ : ky_V _ _ _ 46 _ _ _ _)
    refine v_goto (tgt := 50) (i := 30) rfl (by decide) (?_ : ky_V _ _ _ 50 _ _ _ _)
    refine pf_X12_246 rfl (i := 32) rfl (md_0 hmh8) (Nat.le_of_ble_eq_true rfl) (by decide) (by decide) ?_
    refine bk_st (B := md_B G a) hmh8 frh8 0 20 1 (by decide) (fun h13 hmh13 frh13 => ?_)
    obtain ⟨q14, eq14⟩ : ∃ z, z = bk_w q9 0 20 1 := ⟨_, rfl⟩
    rw [← eq14] at hmh13
    refine (?_ : ky_V _ _ _ 53 _ _ _ _)
    refine v_vret (i := 33) rfl rfl ?_
    subst ex1 eq3 ex4 eq6 ex7 eq9 eq14; unfold md_looks_c at K; (try simp only [if_pos c10] at K); exact K _ hmh13 frh13
def md_ofMove_r (c : Nat → Nat → Int32) (p0 : Int32) (p1 : Int32) : Int32 := (c 1 (Int32.toNatClampNeg ((17 + (4 * p0)) + p1)))
set_option maxRecDepth 20000 in
set_option maxHeartbeats 4000000 in
theorem k_X12_ofMove {G : ky_GW} {d : Nat} {h : ky_HP} {Q : ky_RS → ky_HP → Prop} {a : Nat} {c : Nat → Nat → Int32} (p0 : Int32) (p1 : Int32) (hm : md_at G h a c) (b0 : vp_in ((17 + (4 * p0)) + p1) 2247) (K : Q (.inl (some (.int (md_ofMove_r c p0 p1)))) h) : ky_Call G d M_X12_ofMove [.ref a, .int p0, .int p1] h Q := by
  refine ky_ofV (by decide +kernel) rfl ok_X12_ofMove (Nat.le_of_ble_eq_true rfl) ?_
  have fr : bk_fr a 13 h h := bk_fr.rf
  refine (?_ : ky_V _ _ _ 0 [(0, .ref a), (1, .int p0), (2, .int p1)] [] _ _)
  refine v_aload_n (i := 0) (j := 0) rfl rfl (?_ : ky_V _ _ _ 1 _ _ _ _)
  refine gf_X12_13 rfl (i := 1) rfl (md_0 hm) rfl (?_ : ky_V _ _ _ 4 _ _ _ _)
  refine v_bipush (v := 17) (i := 2) rfl (by decide) (?_ : ky_V _ _ _ 6 _ _ _ _)
  refine v_iconst (v := 4) (i := 3) rfl (by decide) (?_ : ky_V _ _ _ 7 _ _ _ _)
  refine v_iload_n (i := 4) (j := 1) rfl rfl (?_ : ky_V _ _ _ 8 _ _ _ _)
  refine v_imul (i := 5) rfl (?_ : ky_V _ _ _ 9 _ _ _ _)
  refine v_iadd (i := 6) rfl (?_ : ky_V _ _ _ 10 _ _ _ _)
  refine v_iload_n (i := 7) (j := 2) rfl rfl (?_ : ky_V _ _ _ 11 _ _ _ _)
  refine v_iadd (i := 8) rfl (?_ : ky_V _ _ _ 12 _ _ _ _)
  refine v_iald (i := 9) rfl (md_1 hm) (b0) (?_ : ky_V _ _ _ 13 _ (.int (c 1 (Int32.toNatClampNeg ((17 + (4 * p0)) + p1))) :: _) _ _)
  refine v_iret (v := (c 1 (Int32.toNatClampNeg ((17 + (4 * p0)) + p1)))) (ty := .int) (i := 10) rfl rfl rfl ?_
  unfold md_ofMove_r at K; exact K
def md_looksAt_c (c : Nat → Nat → Int32) (p0 : Int32) : Nat → Nat → Int32 := (if (p0 - p0 / 2 * 2) = (1 : Int32) then (bk_w (bk_w (bk_w (bk_w c 0 20 1) 0 19 ((p0 / 2) - (p0 / 2) / 6 * 6)) 9 1 ((p0 / 12) - (p0 / 12) / 10 * 10)) 9 0 (p0 / 120)) else (bk_w (bk_w (bk_w (bk_w c 0 20 0) 0 19 ((p0 / 2) - (p0 / 2) / 6 * 6)) 9 1 ((p0 / 12) - (p0 / 12) / 10 * 10)) 9 0 (p0 / 120)))
set_option maxRecDepth 20000 in
set_option maxHeartbeats 4000000 in
theorem k_X12_looksAt {G : ky_GW} {d : Nat} {h : ky_HP} {Q : ky_RS → ky_HP → Prop} {a : Nat} {c : Nat → Nat → Int32} (p0 : Int32) (hm : md_at G h a c)  (K : ∀ h1, md_at G h1 a (md_looksAt_c c p0) → bk_fr a 13 h h1 → Q (.inl none) h1) : ky_Call G d M_X12_looksAt [.ref a, .int p0] h Q := by
  refine ky_ofV (by decide +kernel) rfl ok_X12_looksAt (Nat.le_of_ble_eq_true rfl) ?_
  have fr : bk_fr a 13 h h := bk_fr.rf
  refine (?_ : ky_V _ _ _ 0 [(0, .ref a), (1, .int p0)] [] _ _)
  refine v_aload_n (i := 0) (j := 0) rfl rfl (?_ : ky_V _ _ _ 1 _ _ _ _)
  refine v_iload_n (i := 1) (j := 1) rfl rfl (?_ : ky_V _ _ _ 2 _ _ _ _)
  refine v_iconst (v := 2) (i := 2) rfl (by decide) (?_ : ky_V _ _ _ 3 _ _ _ _)
  refine v_irem (i := 3) rfl (by decide) (?_ : ky_V _ _ _ 4 _ _ _ _)
  refine v_iconst (v := 1) (i := 4) rfl (by decide) (?_ : ky_V _ _ _ 5 _ _ _ _)
  refine v_icmp_ne (tgt := 12) (i := 5) rfl (by decide) (fun c1 => ?_) (fun c1 => ?_)
  · refine v_iconst (v := 0) (i := 8) rfl (by decide) (?_ : ky_V _ _ _ 13 _ _ _ _)
    refine pf_X12_246 rfl (i := 9) rfl (md_0 hm) (Nat.le_of_ble_eq_true rfl) (by decide) (by decide) ?_
    refine bk_st (B := md_B G a) hm fr 0 20 0 (by decide) (fun h2 hmh2 frh2 => ?_)
    obtain ⟨q3, eq3⟩ : ∃ z, z = bk_w c 0 20 0 := ⟨_, rfl⟩
    rw [← eq3] at hmh2
    refine (?_ : ky_V _ _ _ 16 _ _ _ _)
    refine v_aload_n (i := 10) (j := 0) rfl rfl (?_ : ky_V _ _ _ 17 _ _ _ _)
    refine v_iload_n (i := 11) (j := 1) rfl rfl (?_ : ky_V _ _ _ 18 _ _ _ _)
    refine v_iconst (v := 2) (i := 12) rfl (by decide) (?_ : ky_V _ _ _ 19 _ _ _ _)
    refine v_idiv (i := 13) rfl (by decide) (?_ : ky_V _ _ _ 20 _ _ _ _)
    refine v_bipush (v := 6) (i := 14) rfl (by decide) (?_ : ky_V _ _ _ 22 _ _ _ _)
    refine v_irem (i := 15) rfl (by decide) (?_ : ky_V _ _ _ 23 _ _ _ _)
    refine v_topi (fun x4 ex4 => ?_)
    refine pf_X12_244 rfl (i := 16) rfl (md_0 hmh2) (Nat.le_of_ble_eq_true rfl) rfl rfl ?_
    refine bk_st (B := md_B G a) hmh2 frh2 0 19 x4 (by decide) (fun h5 hmh5 frh5 => ?_)
    obtain ⟨q6, eq6⟩ : ∃ z, z = bk_w q3 0 19 x4 := ⟨_, rfl⟩
    rw [← eq6] at hmh5
    refine (?_ : ky_V _ _ _ 26 _ _ _ _)
    refine v_aload_n (i := 17) (j := 0) rfl rfl (?_ : ky_V _ _ _ 27 _ _ _ _)
    refine gf_X12_42 rfl (i := 18) rfl (md_0 hmh5) rfl (?_ : ky_V _ _ _ 30 _ _ _ _)
    refine v_iconst (v := 1) (i := 19) rfl (by decide) (?_ : ky_V _ _ _ 31 _ _ _ _)
    refine v_iload_n (i := 20) (j := 1) rfl rfl (?_ : ky_V _ _ _ 32 _ _ _ _)
    refine v_bipush (v := 12) (i := 21) rfl (by decide) (?_ : ky_V _ _ _ 34 _ _ _ _)
    refine v_idiv (i := 22) rfl (by decide) (?_ : ky_V _ _ _ 35 _ _ _ _)
    refine v_bipush (v := 10) (i := 23) rfl (by decide) (?_ : ky_V _ _ _ 37 _ _ _ _)
    refine v_irem (i := 24) rfl (by decide) (?_ : ky_V _ _ _ 38 _ _ _ _)
    refine v_topi (fun x7 ex7 => ?_)
    refine v_iast (i := 25) rfl (md_9 hmh5) (ky_inl (by decide)) ?_
    refine bk_st (B := md_B G a) hmh5 frh5 9 1 x7 (by decide) (fun h8 hmh8 frh8 => ?_)
    obtain ⟨q9, eq9⟩ : ∃ z, z = bk_w q6 9 1 x7 := ⟨_, rfl⟩
    rw [← eq9] at hmh8
    refine (?_ : ky_V _ _ _ 39 _ _ _ _)
    refine v_aload_n (i := 26) (j := 0) rfl rfl (?_ : ky_V _ _ _ 40 _ _ _ _)
    refine gf_X12_42 rfl (i := 27) rfl (md_0 hmh8) rfl (?_ : ky_V _ _ _ 43 _ _ _ _)
    refine v_iconst (v := 0) (i := 28) rfl (by decide) (?_ : ky_V _ _ _ 44 _ _ _ _)
    refine v_iload_n (i := 29) (j := 1) rfl rfl (?_ : ky_V _ _ _ 45 _ _ _ _)
    refine v_bipush (v := 120) (i := 30) rfl (by decide) (?_ : ky_V _ _ _ 47 _ _ _ _)
    refine v_idiv (i := 31) rfl (by decide) (?_ : ky_V _ _ _ 48 _ _ _ _)
    refine v_topi (fun x10 ex10 => ?_)
    refine v_iast (i := 32) rfl (md_9 hmh8) (ky_inl (by decide)) ?_
    refine bk_st (B := md_B G a) hmh8 frh8 9 0 x10 (by decide) (fun h11 hmh11 frh11 => ?_)
    obtain ⟨q12, eq12⟩ : ∃ z, z = bk_w q9 9 0 x10 := ⟨_, rfl⟩
    rw [← eq12] at hmh11
    refine (?_ : ky_V _ _ _ 49 _ _ _ _)
    refine v_vret (i := 33) rfl rfl ?_
    subst eq3 ex4 eq6 ex7 eq9 ex10 eq12; unfold md_looksAt_c at K; (try simp only [if_neg c1] at K); exact K _ hmh11 frh11
  · refine v_iconst (v := 1) (i := 6) rfl (by decide) (?_ : ky_V _ _ _ 9 _ _ _ _)
    refine v_goto (tgt := 13) (i := 7) rfl (by decide) (?_ : ky_V _ _ _ 13 _ _ _ _)
    refine pf_X12_246 rfl (i := 9) rfl (md_0 hm) (Nat.le_of_ble_eq_true rfl) (by decide) (by decide) ?_
    refine bk_st (B := md_B G a) hm fr 0 20 1 (by decide) (fun h13 hmh13 frh13 => ?_)
    obtain ⟨q14, eq14⟩ : ∃ z, z = bk_w c 0 20 1 := ⟨_, rfl⟩
    rw [← eq14] at hmh13
    refine (?_ : ky_V _ _ _ 16 _ _ _ _)
    refine v_aload_n (i := 10) (j := 0) rfl rfl (?_ : ky_V _ _ _ 17 _ _ _ _)
    refine v_iload_n (i := 11) (j := 1) rfl rfl (?_ : ky_V _ _ _ 18 _ _ _ _)
    refine v_iconst (v := 2) (i := 12) rfl (by decide) (?_ : ky_V _ _ _ 19 _ _ _ _)
    refine v_idiv (i := 13) rfl (by decide) (?_ : ky_V _ _ _ 20 _ _ _ _)
    refine v_bipush (v := 6) (i := 14) rfl (by decide) (?_ : ky_V _ _ _ 22 _ _ _ _)
    refine v_irem (i := 15) rfl (by decide) (?_ : ky_V _ _ _ 23 _ _ _ _)
    refine v_topi (fun x15 ex15 => ?_)
    refine pf_X12_244 rfl (i := 16) rfl (md_0 hmh13) (Nat.le_of_ble_eq_true rfl) rfl rfl ?_
    refine bk_st (B := md_B G a) hmh13 frh13 0 19 x15 (by decide) (fun h16 hmh16 frh16 => ?_)
    obtain ⟨q17, eq17⟩ : ∃ z, z = bk_w q14 0 19 x15 := ⟨_, rfl⟩
    rw [← eq17] at hmh16
    refine (?_ : ky_V _ _ _ 26 _ _ _ _)
    refine v_aload_n (i := 17) (j := 0) rfl rfl (?_ : ky_V _ _ _ 27 _ _ _ _)
    refine gf_X12_42 rfl (i := 18) rfl (md_0 hmh16) rfl (?_ : ky_V _ _ _ 30 _ _ _ _)
    refine v_iconst (v := 1) (i := 19) rfl (by decide) (?_ : ky_V _ _ _ 31 _ _ _ _)
    refine v_iload_n (i := 20) (j := 1) rfl rfl (?_ : ky_V _ _ _ 32 _ _ _ _)
    refine v_bipush (v := 12) (i := 21) rfl (by decide) (?_ : ky_V _ _ _ 34 _ _ _ _)
    refine v_idiv (i := 22) rfl (by decide) (?_ : ky_V _ _ _ 35 _ _ _ _)
    refine v_bipush (v := 10) (i := 23) rfl (by decide) (?_ : ky_V _ _ _ 37 _ _ _ _)
    refine v_irem (i := 24) rfl (by decide) (?_ : ky_V _ _ _ 38 _ _ _ _)
    refine v_topi (fun x18 ex18 => ?_)
    refine v_iast (i := 25) rfl (md_9 hmh16) (ky_inl (by decide)) ?_
    refine bk_st (B := md_B G a) hmh16 frh16 9 1 x18 (by decide) (fun h19 hmh19 frh19 => ?_)
    obtain ⟨q20, eq20⟩ : ∃ z, z = bk_w q17 9 1 x18 := ⟨_, rfl⟩
    rw [← eq20] at hmh19
    refine (?_ : ky_V _ _ _ 39 _ _ _ _)
    refine v_aload_n (i := 26) (j := 0) rfl rfl (?_ : ky_V _ _ _ 40 _ _ _ _)
    refine gf_X12_42 rfl (i := 27) rfl (md_0 hmh19) rfl (?_ : ky_V _ _ _ 43 _ _ _ _)
    refine v_iconst (v := 0) (i := 28) rfl (by decide) (?_ : ky_V _ _ _ 44 _ _ _ _)
    refine v_iload_n (i := 29) (j := 1) rfl rfl (?_ : ky_V _ _ _ 45 _ _ _ _)
    refine v_bipush (v := 120) (i := 30) rfl (by decide) (?_ : ky_V _ _ _ 47 _ _ _ _)
    refine v_idiv (i := 31) rfl (by decide) (?_ : ky_V _ _ _ 48 _ _ _ _)
    refine v_topi (fun x21 ex21 => ?_)
    refine v_iast (i := 32) rfl (md_9 hmh19) (ky_inl (by decide)) ?_
    refine bk_st (B := md_B G a) hmh19 frh19 9 0 x21 (by decide) (fun h22 hmh22 frh22 => ?_)
    obtain ⟨q23, eq23⟩ : ∃ z, z = bk_w q20 9 0 x21 := ⟨_, rfl⟩
    rw [← eq23] at hmh22
    refine (?_ : ky_V _ _ _ 49 _ _ _ _)
    refine v_vret (i := 33) rfl rfl ?_
    subst eq14 ex15 eq17 ex18 eq20 ex21 eq23; unfold md_looksAt_c at K; (try simp only [if_pos c1] at K); exact K _ hmh22 frh22
def md_state_r (c : Nat → Nat → Int32)  : Int32 := (if (c 0 20) = 0 then (((((((c 9 0) * 10) + (c 9 1)) * 6) + (c 0 19)) * 2) + 0) else (((((((c 9 0) * 10) + (c 9 1)) * 6) + (c 0 19)) * 2) + 1))
set_option maxRecDepth 20000 in
set_option maxHeartbeats 4000000 in
theorem k_X12_state {G : ky_GW} {d : Nat} {h : ky_HP} {Q : ky_RS → ky_HP → Prop} {a : Nat} {c : Nat → Nat → Int32}  (hm : md_at G h a c)  (K : Q (.inl (some (.int (md_state_r c)))) h) : ky_Call G d M_X12_state [.ref a] h Q := by
  refine ky_ofV (by decide +kernel) rfl ok_X12_state (Nat.le_of_ble_eq_true rfl) ?_
  have fr : bk_fr a 13 h h := bk_fr.rf
  refine (?_ : ky_V _ _ _ 0 [(0, .ref a)] [] _ _)
  refine v_aload_n (i := 0) (j := 0) rfl rfl (?_ : ky_V _ _ _ 1 _ _ _ _)
  refine gf_X12_42 rfl (i := 1) rfl (md_0 hm) rfl (?_ : ky_V _ _ _ 4 _ _ _ _)
  refine v_iconst (v := 0) (i := 2) rfl (by decide) (?_ : ky_V _ _ _ 5 _ _ _ _)
  refine v_iald (i := 3) rfl (md_9 hm) (ky_inl (by decide)) (?_ : ky_V _ _ _ 6 _ (.int (c 9 0) :: _) _ _)
  refine v_bipush (v := 10) (i := 4) rfl (by decide) (?_ : ky_V _ _ _ 8 _ _ _ _)
  refine v_imul (i := 5) rfl (?_ : ky_V _ _ _ 9 _ _ _ _)
  refine v_aload_n (i := 6) (j := 0) rfl rfl (?_ : ky_V _ _ _ 10 _ _ _ _)
  refine gf_X12_42 rfl (i := 7) rfl (md_0 hm) rfl (?_ : ky_V _ _ _ 13 _ _ _ _)
  refine v_iconst (v := 1) (i := 8) rfl (by decide) (?_ : ky_V _ _ _ 14 _ _ _ _)
  refine v_iald (i := 9) rfl (md_9 hm) (ky_inl (by decide)) (?_ : ky_V _ _ _ 15 _ (.int (c 9 1) :: _) _ _)
  refine v_iadd (i := 10) rfl (?_ : ky_V _ _ _ 16 _ _ _ _)
  refine v_bipush (v := 6) (i := 11) rfl (by decide) (?_ : ky_V _ _ _ 18 _ _ _ _)
  refine v_imul (i := 12) rfl (?_ : ky_V _ _ _ 19 _ _ _ _)
  refine v_aload_n (i := 13) (j := 0) rfl rfl (?_ : ky_V _ _ _ 20 _ _ _ _)
  refine gf_X12_244 rfl (i := 14) rfl (md_0 hm) rfl (?_ : ky_V _ _ _ 23 _ _ _ _)
  refine v_iadd (i := 15) rfl (?_ : ky_V _ _ _ 24 _ _ _ _)
  refine v_iconst (v := 2) (i := 16) rfl (by decide) (?_ : ky_V _ _ _ 25 _ _ _ _)
  refine v_imul (i := 17) rfl (?_ : ky_V _ _ _ 26 _ _ _ _)
  refine v_aload_n (i := 18) (j := 0) rfl rfl (?_ : ky_V _ _ _ 27 _ _ _ _)
  refine gf_X12_246 rfl (i := 19) rfl (md_0 hm) rfl (?_ : ky_V _ _ _ 30 _ _ _ _)
  refine v_if_eq (tgt := 37) (i := 20) rfl (by decide) (fun c1 => ?_) (fun c1 => ?_)
  · refine v_iconst (v := 0) (i := 23) rfl (by decide) (?_ : ky_V _ _ _ 38 _ _ _ _)
    refine v_iadd (i := 24) rfl (?_ : ky_V _ _ _ 39 _ _ _ _)
    refine v_iret (v := (((((((c 9 0) * 10) + (c 9 1)) * 6) + (c 0 19)) * 2) + 0)) (ty := .int) (i := 25) rfl rfl rfl ?_
    unfold md_state_r at K; (try simp only [if_pos c1] at K); exact K
  · refine v_iconst (v := 1) (i := 21) rfl (by decide) (?_ : ky_V _ _ _ 34 _ _ _ _)
    refine v_goto (tgt := 38) (i := 22) rfl (by decide) (?_ : ky_V _ _ _ 38 _ _ _ _)
    refine v_iadd (i := 24) rfl (?_ : ky_V _ _ _ 39 _ _ _ _)
    refine v_iret (v := (((((((c 9 0) * 10) + (c 9 1)) * 6) + (c 0 19)) * 2) + 1)) (ty := .int) (i := 25) rfl rfl rfl ?_
    unfold md_state_r at K; (try simp only [if_neg c1] at K); exact K
def md_takesOf_r (c : Nat → Nat → Int32) (p0 : Int32) : Int32 := (md_ofMove_r c (md_moveOf p0) 3)
set_option maxRecDepth 20000 in
set_option maxHeartbeats 4000000 in
theorem k_X12_takesOf {G : ky_GW} {d : Nat} {h : ky_HP} {Q : ky_RS → ky_HP → Prop} {a : Nat} {c : Nat → Nat → Int32} (p0 : Int32) (hm : md_at G h a c) (b0 : vp_in ((17 + (4 * (md_moveOf p0))) + 3) 2247) (K : Q (.inl (some (.int (md_takesOf_r c p0)))) h) : ky_Call G (d + 1) M_X12_takesOf [.ref a, .int p0] h Q := by
  refine ky_ofV (by decide +kernel) rfl ok_X12_takesOf (Nat.le_of_ble_eq_true rfl) ?_
  have fr : bk_fr a 13 h h := bk_fr.rf
  refine (?_ : ky_V _ _ _ 0 [(0, .ref a), (1, .int p0)] [] _ _)
  refine v_aload_n (i := 0) (j := 0) rfl rfl (?_ : ky_V _ _ _ 1 _ _ _ _)
  refine v_iload_n (i := 1) (j := 1) rfl rfl (?_ : ky_V _ _ _ 2 _ _ _ _)
  refine cl_X12_295 (As := [.int p0]) rfl (i := 2) rfl rfl rfl (Nat.le_of_ble_eq_true rfl) (k_X12_moveOf p0 ⟨_, rfl, (?_ : ky_V _ _ _ 5 _ [.int ((md_moveOf p0)), .ref a] _ _)⟩)
  refine v_iconst (v := 3) (i := 3) rfl (by decide) (?_ : ky_V _ _ _ 6 _ _ _ _)
  refine cl_X12_266 (As := [.int ((md_moveOf p0)), .int 3]) rfl (i := 4) rfl (md_0 hm) rfl rfl (Nat.le_of_ble_eq_true rfl) (k_X12_ofMove (md_moveOf p0) 3 hm (b0) ⟨_, rfl, (?_ : ky_V _ _ _ 9 _ [.int ((md_ofMove_r c (md_moveOf p0) 3))] _ _)⟩)
  refine v_iret (v := (md_ofMove_r c (md_moveOf p0) 3)) (ty := .int) (i := 5) rfl rfl rfl ?_
  unfold md_takesOf_r at K; exact K
def md_stateNow_r (c : Nat → Nat → Int32)  : Int32 := (md_state_r (md_looks_c c))
def md_stateNow_c (c : Nat → Nat → Int32)  : Nat → Nat → Int32 := (md_looks_c c)
set_option maxRecDepth 20000 in
set_option maxHeartbeats 4000000 in
theorem k_X12_stateNow {G : ky_GW} {d : Nat} {h : ky_HP} {Q : ky_RS → ky_HP → Prop} {a : Nat} {c : Nat → Nat → Int32}  (hm : md_at G h a c)  (K : ∀ h1, md_at G h1 a (md_stateNow_c c) → bk_fr a 13 h h1 → Q (.inl (some (.int (md_stateNow_r c)))) h1) : ky_Call G (d + 1) M_X12_stateNow [.ref a] h Q := by
  refine ky_ofV (by decide +kernel) rfl ok_X12_stateNow (Nat.le_of_ble_eq_true rfl) ?_
  have fr : bk_fr a 13 h h := bk_fr.rf
  refine (?_ : ky_V _ _ _ 0 [(0, .ref a)] [] _ _)
  refine v_aload_n (i := 0) (j := 0) rfl rfl (?_ : ky_V _ _ _ 1 _ _ _ _)
  refine cl_X12_285 (As := []) rfl (i := 1) rfl (md_0 hm) rfl rfl (Nat.le_of_ble_eq_true rfl) (k_X12_looks hm (fun h1 hmh1 frh1 => ⟨_, rfl, (?_ : ky_V _ _ _ 4 _ [] _ _)⟩))
  have frh1 := fr.tr frh1
  obtain ⟨q2, eq2⟩ : ∃ z, z = md_looks_c c := ⟨_, rfl⟩
  rw [← eq2] at hmh1
  refine v_aload_n (i := 2) (j := 0) rfl rfl (?_ : ky_V _ _ _ 5 _ _ _ _)
  refine cl_X12_302 (As := []) rfl (i := 3) rfl (md_0 hmh1) rfl rfl (Nat.le_of_ble_eq_true rfl) (k_X12_state hmh1 ⟨_, rfl, (?_ : ky_V _ _ _ 8 _ [.int ((md_state_r q2))] _ _)⟩)
  refine v_iret (v := (md_state_r q2)) (ty := .int) (i := 4) rfl rfl rfl ?_
  subst eq2; unfold md_stateNow_r md_stateNow_c at K; exact K _ hmh1 frh1
def md_isOutNow_r (c : Nat → Nat → Int32)  : Int32 := (if (c 9 0) = 0 then (if (c 9 1) = 0 then 1 else 0) else 0)
set_option maxRecDepth 20000 in
set_option maxHeartbeats 4000000 in
theorem k_X12_isOutNow {G : ky_GW} {d : Nat} {h : ky_HP} {Q : ky_RS → ky_HP → Prop} {a : Nat} {c : Nat → Nat → Int32}  (hm : md_at G h a c)  (K : Q (.inl (some (.int (md_isOutNow_r c)))) h) : ky_Call G d M_X12_isOutNow [.ref a] h Q := by
  refine ky_ofV (by decide +kernel) rfl ok_X12_isOutNow (Nat.le_of_ble_eq_true rfl) ?_
  have fr : bk_fr a 13 h h := bk_fr.rf
  refine (?_ : ky_V _ _ _ 0 [(0, .ref a)] [] _ _)
  refine v_aload_n (i := 0) (j := 0) rfl rfl (?_ : ky_V _ _ _ 1 _ _ _ _)
  refine gf_X12_42 rfl (i := 1) rfl (md_0 hm) rfl (?_ : ky_V _ _ _ 4 _ _ _ _)
  refine v_iconst (v := 0) (i := 2) rfl (by decide) (?_ : ky_V _ _ _ 5 _ _ _ _)
  refine v_iald (i := 3) rfl (md_9 hm) (ky_inl (by decide)) (?_ : ky_V _ _ _ 6 _ (.int (c 9 0) :: _) _ _)
  refine v_if_ne (tgt := 22) (i := 4) rfl (by decide) (fun c1 => ?_) (fun c1 => ?_)
  · refine v_iconst (v := 0) (i := 12) rfl (by decide) (?_ : ky_V _ _ _ 23 _ _ _ _)
    refine v_iret (v := 0) (ty := .boolean) (i := 13) rfl rfl (by decide) ?_
    unfold md_isOutNow_r at K; (try simp only [if_neg c1] at K); exact K
  · refine v_aload_n (i := 5) (j := 0) rfl rfl (?_ : ky_V _ _ _ 10 _ _ _ _)
    refine gf_X12_42 rfl (i := 6) rfl (md_0 hm) rfl (?_ : ky_V _ _ _ 13 _ _ _ _)
    refine v_iconst (v := 1) (i := 7) rfl (by decide) (?_ : ky_V _ _ _ 14 _ _ _ _)
    refine v_iald (i := 8) rfl (md_9 hm) (ky_inl (by decide)) (?_ : ky_V _ _ _ 15 _ (.int (c 9 1) :: _) _ _)
    refine v_if_ne (tgt := 22) (i := 9) rfl (by decide) (fun c2 => ?_) (fun c2 => ?_)
    · refine v_iconst (v := 0) (i := 12) rfl (by decide) (?_ : ky_V _ _ _ 23 _ _ _ _)
      refine v_iret (v := 0) (ty := .boolean) (i := 13) rfl rfl (by decide) ?_
      unfold md_isOutNow_r at K; (try simp only [if_pos c1, if_neg c2] at K); exact K
    · refine v_iconst (v := 1) (i := 10) rfl (by decide) (?_ : ky_V _ _ _ 19 _ _ _ _)
      refine v_goto (tgt := 23) (i := 11) rfl (by decide) (?_ : ky_V _ _ _ 23 _ _ _ _)
      refine v_iret (v := 1) (ty := .boolean) (i := 13) rfl rfl (by decide) ?_
      unfold md_isOutNow_r at K; (try simp only [if_pos c1, if_pos c2] at K); exact K
def md_pulledBy_r (c : Nat → Nat → Int32) (p0 : Int32) : Int32 := (if (c 0 20) = 0 then (mt_max 0 ((p0 - ((5 - (c 0 19)) / 2)) - 5)) else (mt_max 0 ((p0 - ((5 - (c 0 19)) / 2)) - 0)))
set_option maxRecDepth 20000 in
set_option maxHeartbeats 4000000 in
theorem k_X12_pulledBy {G : ky_GW} {d : Nat} {h : ky_HP} {Q : ky_RS → ky_HP → Prop} {a : Nat} {c : Nat → Nat → Int32} (p0 : Int32) (hm : md_at G h a c)  (K : Q (.inl (some (.int (md_pulledBy_r c p0)))) h) : ky_Call G (d + 1) M_X12_pulledBy [.ref a, .int p0] h Q := by
  refine ky_ofV (by decide +kernel) rfl ok_X12_pulledBy (Nat.le_of_ble_eq_true rfl) ?_
  have fr : bk_fr a 13 h h := bk_fr.rf
  refine (?_ : ky_V _ _ _ 0 [(0, .ref a), (1, .int p0)] [] _ _)
  refine v_iconst (v := 0) (i := 0) rfl (by decide) (?_ : ky_V _ _ _ 1 _ _ _ _)
  refine v_iload_n (i := 1) (j := 1) rfl rfl (?_ : ky_V _ _ _ 2 _ _ _ _)
  refine v_iconst (v := 5) (i := 2) rfl (by decide) (?_ : ky_V _ _ _ 3 _ _ _ _)
  refine v_aload_n (i := 3) (j := 0) rfl rfl (?_ : ky_V _ _ _ 4 _ _ _ _)
  refine gf_X12_244 rfl (i := 4) rfl (md_0 hm) rfl (?_ : ky_V _ _ _ 7 _ _ _ _)
  refine v_isub (i := 5) rfl (?_ : ky_V _ _ _ 8 _ _ _ _)
  refine v_iconst (v := 2) (i := 6) rfl (by decide) (?_ : ky_V _ _ _ 9 _ _ _ _)
  refine v_idiv (i := 7) rfl (by decide) (?_ : ky_V _ _ _ 10 _ _ _ _)
  refine v_isub (i := 8) rfl (?_ : ky_V _ _ _ 11 _ _ _ _)
  refine v_aload_n (i := 9) (j := 0) rfl rfl (?_ : ky_V _ _ _ 12 _ _ _ _)
  refine gf_X12_246 rfl (i := 10) rfl (md_0 hm) rfl (?_ : ky_V _ _ _ 15 _ _ _ _)
  refine v_if_eq (tgt := 22) (i := 11) rfl (by decide) (fun c1 => ?_) (fun c1 => ?_)
  · refine v_iconst (v := 5) (i := 14) rfl (by decide) (?_ : ky_V _ _ _ 23 _ _ _ _)
    refine v_isub (i := 15) rfl (?_ : ky_V _ _ _ 24 _ _ _ _)
    refine cl_X12_255 rfl (i := 16) rfl (Nat.le_of_ble_eq_true rfl) (?_ : ky_V _ _ _ 27 _ _ _ _)
    refine v_iret (v := (mt_max 0 ((p0 - ((5 - (c 0 19)) / 2)) - 5))) (ty := .int) (i := 17) rfl rfl rfl ?_
    unfold md_pulledBy_r at K; (try simp only [if_pos c1] at K); exact K
  · refine v_iconst (v := 0) (i := 12) rfl (by decide) (?_ : ky_V _ _ _ 19 _ _ _ _)
    refine v_goto (tgt := 23) (i := 13) rfl (by decide) (?_ : ky_V _ _ _ 23 _ _ _ _)
    refine v_isub (i := 15) rfl (?_ : ky_V _ _ _ 24 _ _ _ _)
    refine cl_X12_255 rfl (i := 16) rfl (Nat.le_of_ble_eq_true rfl) (?_ : ky_V _ _ _ 27 _ _ _ _)
    refine v_iret (v := (mt_max 0 ((p0 - ((5 - (c 0 19)) / 2)) - 0))) (ty := .int) (i := 17) rfl rfl rfl ?_
    unfold md_pulledBy_r at K; (try simp only [if_neg c1] at K); exact K
def md_isOut_r (c : Nat → Nat → Int32)  : Int32 := (if (c 1 0) = 0 then (if (c 1 1) = 0 then 1 else 0) else 0)
set_option maxRecDepth 20000 in
set_option maxHeartbeats 4000000 in
theorem k_X12_isOut {G : ky_GW} {d : Nat} {h : ky_HP} {Q : ky_RS → ky_HP → Prop} {a : Nat} {c : Nat → Nat → Int32}  (hm : md_at G h a c)  (K : Q (.inl (some (.int (md_isOut_r c)))) h) : ky_Call G d M_X12_isOut [.ref a] h Q := by
  refine ky_ofV (by decide +kernel) rfl ok_X12_isOut (Nat.le_of_ble_eq_true rfl) ?_
  have fr : bk_fr a 13 h h := bk_fr.rf
  refine (?_ : ky_V _ _ _ 0 [(0, .ref a)] [] _ _)
  refine v_aload_n (i := 0) (j := 0) rfl rfl (?_ : ky_V _ _ _ 1 _ _ _ _)
  refine gf_X12_13 rfl (i := 1) rfl (md_0 hm) rfl (?_ : ky_V _ _ _ 4 _ _ _ _)
  refine v_iconst (v := 0) (i := 2) rfl (by decide) (?_ : ky_V _ _ _ 5 _ _ _ _)
  refine v_iald (i := 3) rfl (md_1 hm) (ky_inl (by decide)) (?_ : ky_V _ _ _ 6 _ (.int (c 1 0) :: _) _ _)
  refine v_if_ne (tgt := 22) (i := 4) rfl (by decide) (fun c1 => ?_) (fun c1 => ?_)
  · refine v_iconst (v := 0) (i := 12) rfl (by decide) (?_ : ky_V _ _ _ 23 _ _ _ _)
    refine v_iret (v := 0) (ty := .boolean) (i := 13) rfl rfl (by decide) ?_
    unfold md_isOut_r at K; (try simp only [if_neg c1] at K); exact K
  · refine v_aload_n (i := 5) (j := 0) rfl rfl (?_ : ky_V _ _ _ 10 _ _ _ _)
    refine gf_X12_13 rfl (i := 6) rfl (md_0 hm) rfl (?_ : ky_V _ _ _ 13 _ _ _ _)
    refine v_iconst (v := 1) (i := 7) rfl (by decide) (?_ : ky_V _ _ _ 14 _ _ _ _)
    refine v_iald (i := 8) rfl (md_1 hm) (ky_inl (by decide)) (?_ : ky_V _ _ _ 15 _ (.int (c 1 1) :: _) _ _)
    refine v_if_ne (tgt := 22) (i := 9) rfl (by decide) (fun c2 => ?_) (fun c2 => ?_)
    · refine v_iconst (v := 0) (i := 12) rfl (by decide) (?_ : ky_V _ _ _ 23 _ _ _ _)
      refine v_iret (v := 0) (ty := .boolean) (i := 13) rfl rfl (by decide) ?_
      unfold md_isOut_r at K; (try simp only [if_pos c1, if_neg c2] at K); exact K
    · refine v_iconst (v := 1) (i := 10) rfl (by decide) (?_ : ky_V _ _ _ 19 _ _ _ _)
      refine v_goto (tgt := 23) (i := 11) rfl (by decide) (?_ : ky_V _ _ _ 23 _ _ _ _)
      refine v_iret (v := 1) (ty := .boolean) (i := 13) rfl rfl (by decide) ?_
      unfold md_isOut_r at K; (try simp only [if_pos c1, if_pos c2] at K); exact K
def md_isDrowned_r (c : Nat → Nat → Int32)  : Int32 := (if (c 1 7) < (c 1 8) then 0 else (if (md_isOut_r c) = 0 then 1 else 0))
set_option maxRecDepth 20000 in
set_option maxHeartbeats 4000000 in
theorem k_X12_isDrowned {G : ky_GW} {d : Nat} {h : ky_HP} {Q : ky_RS → ky_HP → Prop} {a : Nat} {c : Nat → Nat → Int32}  (hm : md_at G h a c)  (K : Q (.inl (some (.int (md_isDrowned_r c)))) h) : ky_Call G (d + 1) M_X12_isDrowned [.ref a] h Q := by
  refine ky_ofV (by decide +kernel) rfl ok_X12_isDrowned (Nat.le_of_ble_eq_true rfl) ?_
  have fr : bk_fr a 13 h h := bk_fr.rf
  refine (?_ : ky_V _ _ _ 0 [(0, .ref a)] [] _ _)
  refine v_aload_n (i := 0) (j := 0) rfl rfl (?_ : ky_V _ _ _ 1 _ _ _ _)
  refine gf_X12_13 rfl (i := 1) rfl (md_0 hm) rfl (?_ : ky_V _ _ _ 4 _ _ _ _)
  refine v_bipush (v := 7) (i := 2) rfl (by decide) (?_ : ky_V _ _ _ 6 _ _ _ _)
  refine v_iald (i := 3) rfl (md_1 hm) (ky_inl (by decide)) (?_ : ky_V _ _ _ 7 _ (.int (c 1 7) :: _) _ _)
  refine v_aload_n (i := 4) (j := 0) rfl rfl (?_ : ky_V _ _ _ 8 _ _ _ _)
  refine gf_X12_13 rfl (i := 5) rfl (md_0 hm) rfl (?_ : ky_V _ _ _ 11 _ _ _ _)
  refine v_bipush (v := 8) (i := 6) rfl (by decide) (?_ : ky_V _ _ _ 13 _ _ _ _)
  refine v_iald (i := 7) rfl (md_1 hm) (ky_inl (by decide)) (?_ : ky_V _ _ _ 14 _ (.int (c 1 8) :: _) _ _)
  refine v_icmp_lt (tgt := 28) (i := 8) rfl (by decide) (fun c1 => ?_) (fun c1 => ?_)
  · refine v_iconst (v := 0) (i := 14) rfl (by decide) (?_ : ky_V _ _ _ 29 _ _ _ _)
    refine v_iret (v := 0) (ty := .boolean) (i := 15) rfl rfl (by decide) ?_
    unfold md_isDrowned_r at K; (try simp only [if_pos c1] at K); exact K
  · refine v_aload_n (i := 9) (j := 0) rfl rfl (?_ : ky_V _ _ _ 18 _ _ _ _)
    refine cl_X12_61 (As := []) rfl (i := 10) rfl (md_0 hm) rfl rfl (Nat.le_of_ble_eq_true rfl) (k_X12_isOut hm ⟨_, rfl, (?_ : ky_V _ _ _ 21 _ [.int ((md_isOut_r c))] _ _)⟩)
    refine v_if_ne (tgt := 28) (i := 11) rfl (by decide) (fun c2 => ?_) (fun c2 => ?_)
    · refine v_iconst (v := 0) (i := 14) rfl (by decide) (?_ : ky_V _ _ _ 29 _ _ _ _)
      refine v_iret (v := 0) (ty := .boolean) (i := 15) rfl rfl (by decide) ?_
      unfold md_isDrowned_r at K; (try simp only [if_neg c1, if_neg c2] at K); exact K
    · refine v_iconst (v := 1) (i := 12) rfl (by decide) (?_ : ky_V _ _ _ 25 _ _ _ _)
      refine v_goto (tgt := 29) (i := 13) rfl (by decide) (?_ : ky_V _ _ _ 29 _ _ _ _)
      refine v_iret (v := 1) (ty := .boolean) (i := 15) rfl rfl (by decide) ?_
      unfold md_isDrowned_r at K; (try simp only [if_neg c1, if_pos c2] at K); exact K
def md_draw_r (c : Nat → Nat → Int32) (p0 : Int32) : Int32 := (((((bk_w c 1 16 ((1103515245 * (c 1 16)) + 12345)) 1 16) >>> ((16 : Int32) &&& 31)) &&& 32767) - ((((bk_w c 1 16 ((1103515245 * (c 1 16)) + 12345)) 1 16) >>> ((16 : Int32) &&& 31)) &&& 32767) / p0 * p0)
def md_draw_c (c : Nat → Nat → Int32) (p0 : Int32) : Nat → Nat → Int32 := (bk_w c 1 16 ((1103515245 * (c 1 16)) + 12345))
set_option maxRecDepth 20000 in
set_option maxHeartbeats 4000000 in
theorem k_X12_draw {G : ky_GW} {d : Nat} {h : ky_HP} {Q : ky_RS → ky_HP → Prop} {a : Nat} {c : Nat → Nat → Int32} (p0 : Int32) (hm : md_at G h a c) (b0 : ¬ p0 = 0) (K : ∀ h1, md_at G h1 a (md_draw_c c p0) → bk_fr a 13 h h1 → Q (.inl (some (.int (md_draw_r c p0)))) h1) : ky_Call G d M_X12_draw [.ref a, .int p0] h Q := by
  refine ky_ofV (by decide +kernel) rfl ok_X12_draw (Nat.le_of_ble_eq_true rfl) ?_
  have fr : bk_fr a 13 h h := bk_fr.rf
  refine (?_ : ky_V _ _ _ 0 [(0, .ref a), (1, .int p0)] [] _ _)
  refine v_aload_n (i := 0) (j := 0) rfl rfl (?_ : ky_V _ _ _ 1 _ _ _ _)
  refine gf_X12_13 rfl (i := 1) rfl (md_0 hm) rfl (?_ : ky_V _ _ _ 4 _ _ _ _)
  refine v_bipush (v := 16) (i := 2) rfl (by decide) (?_ : ky_V _ _ _ 6 _ _ _ _)
  refine v_ldc (v := 1103515245) (i := 3) rfl (ky_t8 (i := 234) rfl rfl) (?_ : ky_V _ _ _ 8 _ _ _ _)
  refine v_aload_n (i := 4) (j := 0) rfl rfl (?_ : ky_V _ _ _ 9 _ _ _ _)
  refine gf_X12_13 rfl (i := 5) rfl (md_0 hm) rfl (?_ : ky_V _ _ _ 12 _ _ _ _)
  refine v_bipush (v := 16) (i := 6) rfl (by decide) (?_ : ky_V _ _ _ 14 _ _ _ _)
  refine v_iald (i := 7) rfl (md_1 hm) (ky_inl (by decide)) (?_ : ky_V _ _ _ 15 _ (.int (c 1 16) :: _) _ _)
  refine v_imul (i := 8) rfl (?_ : ky_V _ _ _ 16 _ _ _ _)
  refine v_sipush (v := 12345) (i := 9) rfl (by decide) (?_ : ky_V _ _ _ 19 _ _ _ _)
  refine v_iadd (i := 10) rfl (?_ : ky_V _ _ _ 20 _ _ _ _)
  refine v_topi (fun x1 ex1 => ?_)
  refine v_iast (i := 11) rfl (md_1 hm) (ky_inl (by decide)) ?_
  refine bk_st (B := md_B G a) hm fr 1 16 x1 (by decide) (fun h2 hmh2 frh2 => ?_)
  obtain ⟨q3, eq3⟩ : ∃ z, z = bk_w c 1 16 x1 := ⟨_, rfl⟩
  rw [← eq3] at hmh2
  refine (?_ : ky_V _ _ _ 21 _ _ _ _)
  refine v_aload_n (i := 12) (j := 0) rfl rfl (?_ : ky_V _ _ _ 22 _ _ _ _)
  refine gf_X12_13 rfl (i := 13) rfl (md_0 hmh2) rfl (?_ : ky_V _ _ _ 25 _ _ _ _)
  refine v_bipush (v := 16) (i := 14) rfl (by decide) (?_ : ky_V _ _ _ 27 _ _ _ _)
  refine v_iald (i := 15) rfl (md_1 hmh2) (ky_inl (by decide)) (?_ : ky_V _ _ _ 28 _ (.int (q3 1 16) :: _) _ _)
  refine v_bipush (v := 16) (i := 16) rfl (by decide) (?_ : ky_V _ _ _ 30 _ _ _ _)
  refine v_ishr (i := 17) rfl (?_ : ky_V _ _ _ 31 _ _ _ _)
  refine v_sipush (v := 32767) (i := 18) rfl (by decide) (?_ : ky_V _ _ _ 34 _ _ _ _)
  refine v_iand (i := 19) rfl (?_ : ky_V _ _ _ 35 _ _ _ _)
  refine v_iload_n (i := 20) (j := 1) rfl rfl (?_ : ky_V _ _ _ 36 _ _ _ _)
  refine v_irem (i := 21) rfl (by subst ex1 eq3; exact b0) (?_ : ky_V _ _ _ 37 _ _ _ _)
  refine v_iret (v := ((((q3 1 16) >>> ((16 : Int32) &&& 31)) &&& 32767) - (((q3 1 16) >>> ((16 : Int32) &&& 31)) &&& 32767) / p0 * p0)) (ty := .int) (i := 22) rfl rfl rfl ?_
  subst ex1 eq3; unfold md_draw_r md_draw_c at K; exact K _ hmh2 frh2
def md_isNow_c (c : Nat → Nat → Int32)  : Nat → Nat → Int32 := (if ((bk_w (bk_w (bk_w c 1 0 (c 9 0)) 1 1 ((bk_w c 1 0 (c 9 0)) 9 1)) 1 2 ((bk_w (bk_w c 1 0 (c 9 0)) 1 1 ((bk_w c 1 0 (c 9 0)) 9 1)) 0 19)) 0 20) = 0 then (bk_w (bk_w (bk_w (bk_w c 1 0 (c 9 0)) 1 1 ((bk_w c 1 0 (c 9 0)) 9 1)) 1 2 ((bk_w (bk_w c 1 0 (c 9 0)) 1 1 ((bk_w c 1 0 (c 9 0)) 9 1)) 0 19)) 1 3 0) else (bk_w (bk_w (bk_w (bk_w c 1 0 (c 9 0)) 1 1 ((bk_w c 1 0 (c 9 0)) 9 1)) 1 2 ((bk_w (bk_w c 1 0 (c 9 0)) 1 1 ((bk_w c 1 0 (c 9 0)) 9 1)) 0 19)) 1 3 1))
set_option maxRecDepth 20000 in
set_option maxHeartbeats 4000000 in
theorem k_X12_isNow {G : ky_GW} {d : Nat} {h : ky_HP} {Q : ky_RS → ky_HP → Prop} {a : Nat} {c : Nat → Nat → Int32}  (hm : md_at G h a c)  (K : ∀ h1, md_at G h1 a (md_isNow_c c) → bk_fr a 13 h h1 → Q (.inl none) h1) : ky_Call G d M_X12_isNow [.ref a] h Q := by
  refine ky_ofV (by decide +kernel) rfl ok_X12_isNow (Nat.le_of_ble_eq_true rfl) ?_
  have fr : bk_fr a 13 h h := bk_fr.rf
  refine (?_ : ky_V _ _ _ 0 [(0, .ref a)] [] _ _)
  refine v_aload_n (i := 0) (j := 0) rfl rfl (?_ : ky_V _ _ _ 1 _ _ _ _)
  refine gf_X12_13 rfl (i := 1) rfl (md_0 hm) rfl (?_ : ky_V _ _ _ 4 _ _ _ _)
  refine v_iconst (v := 0) (i := 2) rfl (by decide) (?_ : ky_V _ _ _ 5 _ _ _ _)
  refine v_aload_n (i := 3) (j := 0) rfl rfl (?_ : ky_V _ _ _ 6 _ _ _ _)
  refine gf_X12_42 rfl (i := 4) rfl (md_0 hm) rfl (?_ : ky_V _ _ _ 9 _ _ _ _)
  refine v_iconst (v := 0) (i := 5) rfl (by decide) (?_ : ky_V _ _ _ 10 _ _ _ _)
  refine v_iald (i := 6) rfl (md_9 hm) (ky_inl (by decide)) (?_ : ky_V _ _ _ 11 _ (.int (c 9 0) :: _) _ _)
  refine v_topi (fun x1 ex1 => ?_)
  refine v_iast (i := 7) rfl (md_1 hm) (ky_inl (by decide)) ?_
  refine bk_st (B := md_B G a) hm fr 1 0 x1 (by decide) (fun h2 hmh2 frh2 => ?_)
  obtain ⟨q3, eq3⟩ : ∃ z, z = bk_w c 1 0 x1 := ⟨_, rfl⟩
  rw [← eq3] at hmh2
  refine (?_ : ky_V _ _ _ 12 _ _ _ _)
  refine v_aload_n (i := 8) (j := 0) rfl rfl (?_ : ky_V _ _ _ 13 _ _ _ _)
  refine gf_X12_13 rfl (i := 9) rfl (md_0 hmh2) rfl (?_ : ky_V _ _ _ 16 _ _ _ _)
  refine v_iconst (v := 1) (i := 10) rfl (by decide) (?_ : ky_V _ _ _ 17 _ _ _ _)
  refine v_aload_n (i := 11) (j := 0) rfl rfl (?_ : ky_V _ _ _ 18 _ _ _ _)
  refine gf_X12_42 rfl (i := 12) rfl (md_0 hmh2) rfl (?_ : ky_V _ _ _ 21 _ _ _ _)
  refine v_iconst (v := 1) (i := 13) rfl (by decide) (?_ : ky_V _ _ _ 22 _ _ _ _)
  refine v_iald (i := 14) rfl (md_9 hmh2) (ky_inl (by decide)) (?_ : ky_V _ _ _ 23 _ (.int (q3 9 1) :: _) _ _)
  refine v_topi (fun x4 ex4 => ?_)
  refine v_iast (i := 15) rfl (md_1 hmh2) (ky_inl (by decide)) ?_
  refine bk_st (B := md_B G a) hmh2 frh2 1 1 x4 (by decide) (fun h5 hmh5 frh5 => ?_)
  obtain ⟨q6, eq6⟩ : ∃ z, z = bk_w q3 1 1 x4 := ⟨_, rfl⟩
  rw [← eq6] at hmh5
  refine (?_ : ky_V _ _ _ 24 _ _ _ _)
  refine v_aload_n (i := 16) (j := 0) rfl rfl (?_ : ky_V _ _ _ 25 _ _ _ _)
  refine gf_X12_13 rfl (i := 17) rfl (md_0 hmh5) rfl (?_ : ky_V _ _ _ 28 _ _ _ _)
  refine v_iconst (v := 2) (i := 18) rfl (by decide) (?_ : ky_V _ _ _ 29 _ _ _ _)
  refine v_aload_n (i := 19) (j := 0) rfl rfl (?_ : ky_V _ _ _ 30 _ _ _ _)
  refine gf_X12_244 rfl (i := 20) rfl (md_0 hmh5) rfl (?_ : ky_V _ _ _ 33 _ _ _ _)
  refine v_topi (fun x7 ex7 => ?_)
  refine v_iast (i := 21) rfl (md_1 hmh5) (ky_inl (by decide)) ?_
  refine bk_st (B := md_B G a) hmh5 frh5 1 2 x7 (by decide) (fun h8 hmh8 frh8 => ?_)
  obtain ⟨q9, eq9⟩ : ∃ z, z = bk_w q6 1 2 x7 := ⟨_, rfl⟩
  rw [← eq9] at hmh8
  refine (?_ : ky_V _ _ _ 34 _ _ _ _)
  refine v_aload_n (i := 22) (j := 0) rfl rfl (?_ : ky_V _ _ _ 35 _ _ _ _)
  refine gf_X12_13 rfl (i := 23) rfl (md_0 hmh8) rfl (?_ : ky_V _ _ _ 38 _ _ _ _)
  refine v_iconst (v := 3) (i := 24) rfl (by decide) (?_ : ky_V _ _ _ 39 _ _ _ _)
  refine v_aload_n (i := 25) (j := 0) rfl rfl (?_ : ky_V _ _ _ 40 _ _ _ _)
  refine gf_X12_246 rfl (i := 26) rfl (md_0 hmh8) rfl (?_ : ky_V _ _ _ 43 _ _ _ _)
  refine v_if_eq (tgt := 50) (i := 27) rfl (by decide) (fun c10 => ?_) (fun c10 => ?_)
  · refine v_iconst (v := 0) (i := 30) rfl (by decide) (?_ : ky_V _ _ _ 51 _ _ _ _)
    refine v_iast (i := 31) rfl (md_1 hmh8) (ky_inl (by decide)) ?_
    refine bk_st (B := md_B G a) hmh8 frh8 1 3 0 (by decide) (fun h11 hmh11 frh11 => ?_)
    obtain ⟨q12, eq12⟩ : ∃ z, z = bk_w q9 1 3 0 := ⟨_, rfl⟩
    rw [← eq12] at hmh11
    refine (?_ : ky_V _ _ _ 52 _ _ _ _)
    refine v_vret (i := 32) rfl rfl ?_
    subst ex1 eq3 ex4 eq6 ex7 eq9 eq12; unfold md_isNow_c at K; (try simp only [if_pos c10] at K); exact K _ hmh11 frh11
  · refine v_iconst (v := 1) (i := 28) rfl (by decide) (?_ : ky_V _ _ _ 47 _ _ _ _)
    refine v_goto (tgt := 51) (i := 29) rfl (by decide) (?_ : ky_V _ _ _ 51 _ _ _ _)
    refine v_iast (i := 31) rfl (md_1 hmh8) (ky_inl (by decide)) ?_
    refine bk_st (B := md_B G a) hmh8 frh8 1 3 1 (by decide) (fun h13 hmh13 frh13 => ?_)
    obtain ⟨q14, eq14⟩ : ∃ z, z = bk_w q9 1 3 1 := ⟨_, rfl⟩
    rw [← eq14] at hmh13
    refine (?_ : ky_V _ _ _ 52 _ _ _ _)
    refine v_vret (i := 32) rfl rfl ?_
    subst ex1 eq3 ex4 eq6 ex7 eq9 eq14; unfold md_isNow_c at K; (try simp only [if_neg c10] at K); exact K _ hmh13 frh13
def md_goesBy_c (c : Nat → Nat → Int32) (p0 : Int32) : Nat → Nat → Int32 := (bk_w c 1 7 (mt_min 9999 ((c 1 7) + p0)))
set_option maxRecDepth 20000 in
set_option maxHeartbeats 4000000 in
theorem k_X12_goesBy {G : ky_GW} {d : Nat} {h : ky_HP} {Q : ky_RS → ky_HP → Prop} {a : Nat} {c : Nat → Nat → Int32} (p0 : Int32) (hm : md_at G h a c)  (K : ∀ h1, md_at G h1 a (md_goesBy_c c p0) → bk_fr a 13 h h1 → Q (.inl none) h1) : ky_Call G (d + 1) M_X12_goesBy [.ref a, .int p0] h Q := by
  refine ky_ofV (by decide +kernel) rfl ok_X12_goesBy (Nat.le_of_ble_eq_true rfl) ?_
  have fr : bk_fr a 13 h h := bk_fr.rf
  refine (?_ : ky_V _ _ _ 0 [(0, .ref a), (1, .int p0)] [] _ _)
  refine v_aload_n (i := 0) (j := 0) rfl rfl (?_ : ky_V _ _ _ 1 _ _ _ _)
  refine gf_X12_13 rfl (i := 1) rfl (md_0 hm) rfl (?_ : ky_V _ _ _ 4 _ _ _ _)
  refine v_bipush (v := 7) (i := 2) rfl (by decide) (?_ : ky_V _ _ _ 6 _ _ _ _)
  refine v_sipush (v := 9999) (i := 3) rfl (by decide) (?_ : ky_V _ _ _ 9 _ _ _ _)
  refine v_aload_n (i := 4) (j := 0) rfl rfl (?_ : ky_V _ _ _ 10 _ _ _ _)
  refine gf_X12_13 rfl (i := 5) rfl (md_0 hm) rfl (?_ : ky_V _ _ _ 13 _ _ _ _)
  refine v_bipush (v := 7) (i := 6) rfl (by decide) (?_ : ky_V _ _ _ 15 _ _ _ _)
  refine v_iald (i := 7) rfl (md_1 hm) (ky_inl (by decide)) (?_ : ky_V _ _ _ 16 _ (.int (c 1 7) :: _) _ _)
  refine v_iload_n (i := 8) (j := 1) rfl rfl (?_ : ky_V _ _ _ 17 _ _ _ _)
  refine v_iadd (i := 9) rfl (?_ : ky_V _ _ _ 18 _ _ _ _)
  refine cl_X12_260 rfl (i := 10) rfl (Nat.le_of_ble_eq_true rfl) (?_ : ky_V _ _ _ 21 _ _ _ _)
  refine v_topi (fun x1 ex1 => ?_)
  refine v_iast (i := 11) rfl (md_1 hm) (ky_inl (by decide)) ?_
  refine bk_st (B := md_B G a) hm fr 1 7 x1 (by decide) (fun h2 hmh2 frh2 => ?_)
  obtain ⟨q3, eq3⟩ : ∃ z, z = bk_w c 1 7 x1 := ⟨_, rfl⟩
  rw [← eq3] at hmh2
  refine (?_ : ky_V _ _ _ 22 _ _ _ _)
  refine v_vret (i := 12) rfl rfl ?_
  subst ex1 eq3; unfold md_goesBy_c at K; exact K _ hmh2 frh2
def md_noPerson_r (c : Nat → Nat → Int32) (p0 : Int32) : Int32 := (if (md_in p0 0 ((md_people_r c) - 1)) = 0 then 1 else 0)
set_option maxRecDepth 20000 in
set_option maxHeartbeats 4000000 in
theorem k_X12_noPerson {G : ky_GW} {d : Nat} {h : ky_HP} {Q : ky_RS → ky_HP → Prop} {a : Nat} {c : Nat → Nat → Int32} (p0 : Int32) (hm : md_at G h a c)  (K : Q (.inl (some (.int (md_noPerson_r c p0)))) h) : ky_Call G (d + 1) M_X12_noPerson [.ref a, .int p0] h Q := by
  refine ky_ofV (by decide +kernel) rfl ok_X12_noPerson (Nat.le_of_ble_eq_true rfl) ?_
  have fr : bk_fr a 13 h h := bk_fr.rf
  refine (?_ : ky_V _ _ _ 0 [(0, .ref a), (1, .int p0)] [] _ _)
  refine v_iload_n (i := 0) (j := 1) rfl rfl (?_ : ky_V _ _ _ 1 _ _ _ _)
  refine v_iconst (v := 0) (i := 1) rfl (by decide) (?_ : ky_V _ _ _ 2 _ _ _ _)
  refine v_aload_n (i := 2) (j := 0) rfl rfl (?_ : ky_V _ _ _ 3 _ _ _ _)
  refine cl_X12_69 (As := []) rfl (i := 3) rfl (md_0 hm) rfl rfl (Nat.le_of_ble_eq_true rfl) (k_X12_people hm ⟨_, rfl, (?_ : ky_V _ _ _ 6 _ [.int ((md_people_r c)), .int 0, .int p0] _ _)⟩)
  refine v_iconst (v := 1) (i := 4) rfl (by decide) (?_ : ky_V _ _ _ 7 _ _ _ _)
  refine v_isub (i := 5) rfl (?_ : ky_V _ _ _ 8 _ _ _ _)
  refine cl_X12_65 (As := [.int p0, .int 0, .int (((md_people_r c) - 1))]) rfl (i := 6) rfl rfl rfl (Nat.le_of_ble_eq_true rfl) (k_X12_in p0 0 ((md_people_r c) - 1) ⟨_, rfl, (?_ : ky_V _ _ _ 11 _ [.int ((md_in p0 0 ((md_people_r c) - 1)))] _ _)⟩)
  refine v_if_ne (tgt := 18) (i := 7) rfl (by decide) (fun c1 => ?_) (fun c1 => ?_)
  · refine v_iconst (v := 0) (i := 10) rfl (by decide) (?_ : ky_V _ _ _ 19 _ _ _ _)
    refine v_iret (v := 0) (ty := .boolean) (i := 11) rfl rfl (by decide) ?_
    unfold md_noPerson_r at K; (try simp only [if_neg c1] at K); exact K
  · refine v_iconst (v := 1) (i := 8) rfl (by decide) (?_ : ky_V _ _ _ 15 _ _ _ _)
    refine v_goto (tgt := 19) (i := 9) rfl (by decide) (?_ : ky_V _ _ _ 19 _ _ _ _)
    refine v_iret (v := 1) (ty := .boolean) (i := 11) rfl rfl (by decide) ?_
    unfold md_noPerson_r at K; (try simp only [if_pos c1] at K); exact K
def md_ofPerson_r (c : Nat → Nat → Int32) (p0 : Int32) (p1 : Int32) : Int32 := (c 1 (Int32.toNatClampNeg ((237 + (2 * p0)) + p1)))
set_option maxRecDepth 20000 in
set_option maxHeartbeats 4000000 in
theorem k_X12_ofPerson {G : ky_GW} {d : Nat} {h : ky_HP} {Q : ky_RS → ky_HP → Prop} {a : Nat} {c : Nat → Nat → Int32} (p0 : Int32) (p1 : Int32) (hm : md_at G h a c) (b0 : vp_in ((237 + (2 * p0)) + p1) 2247) (K : Q (.inl (some (.int (md_ofPerson_r c p0 p1)))) h) : ky_Call G d M_X12_ofPerson [.ref a, .int p0, .int p1] h Q := by
  refine ky_ofV (by decide +kernel) rfl ok_X12_ofPerson (Nat.le_of_ble_eq_true rfl) ?_
  have fr : bk_fr a 13 h h := bk_fr.rf
  refine (?_ : ky_V _ _ _ 0 [(0, .ref a), (1, .int p0), (2, .int p1)] [] _ _)
  refine v_aload_n (i := 0) (j := 0) rfl rfl (?_ : ky_V _ _ _ 1 _ _ _ _)
  refine gf_X12_13 rfl (i := 1) rfl (md_0 hm) rfl (?_ : ky_V _ _ _ 4 _ _ _ _)
  refine v_sipush (v := 237) (i := 2) rfl (by decide) (?_ : ky_V _ _ _ 7 _ _ _ _)
  refine v_iconst (v := 2) (i := 3) rfl (by decide) (?_ : ky_V _ _ _ 8 _ _ _ _)
  refine v_iload_n (i := 4) (j := 1) rfl rfl (?_ : ky_V _ _ _ 9 _ _ _ _)
  refine v_imul (i := 5) rfl (?_ : ky_V _ _ _ 10 _ _ _ _)
  refine v_iadd (i := 6) rfl (?_ : ky_V _ _ _ 11 _ _ _ _)
  refine v_iload_n (i := 7) (j := 2) rfl rfl (?_ : ky_V _ _ _ 12 _ _ _ _)
  refine v_iadd (i := 8) rfl (?_ : ky_V _ _ _ 13 _ _ _ _)
  refine v_iald (i := 9) rfl (md_1 hm) (b0) (?_ : ky_V _ _ _ 14 _ (.int (c 1 (Int32.toNatClampNeg ((237 + (2 * p0)) + p1))) :: _) _ _)
  refine v_iret (v := (c 1 (Int32.toNatClampNeg ((237 + (2 * p0)) + p1)))) (ty := .int) (i := 10) rfl rfl rfl ?_
  unfold md_ofPerson_r at K; exact K
def md_of_r (c : Nat → Nat → Int32) (p0 : Int32) (p1 : Int32) : Int32 := (c 1 (Int32.toNatClampNeg ((45 + (3 * p0)) + p1)))
set_option maxRecDepth 20000 in
set_option maxHeartbeats 4000000 in
theorem k_X12_of {G : ky_GW} {d : Nat} {h : ky_HP} {Q : ky_RS → ky_HP → Prop} {a : Nat} {c : Nat → Nat → Int32} (p0 : Int32) (p1 : Int32) (hm : md_at G h a c) (b0 : vp_in ((45 + (3 * p0)) + p1) 2247) (K : Q (.inl (some (.int (md_of_r c p0 p1)))) h) : ky_Call G d M_X12_of [.ref a, .int p0, .int p1] h Q := by
  refine ky_ofV (by decide +kernel) rfl ok_X12_of (Nat.le_of_ble_eq_true rfl) ?_
  have fr : bk_fr a 13 h h := bk_fr.rf
  refine (?_ : ky_V _ _ _ 0 [(0, .ref a), (1, .int p0), (2, .int p1)] [] _ _)
  refine v_aload_n (i := 0) (j := 0) rfl rfl (?_ : ky_V _ _ _ 1 _ _ _ _)
  refine gf_X12_13 rfl (i := 1) rfl (md_0 hm) rfl (?_ : ky_V _ _ _ 4 _ _ _ _)
  refine v_bipush (v := 45) (i := 2) rfl (by decide) (?_ : ky_V _ _ _ 6 _ _ _ _)
  refine v_iconst (v := 3) (i := 3) rfl (by decide) (?_ : ky_V _ _ _ 7 _ _ _ _)
  refine v_iload_n (i := 4) (j := 1) rfl rfl (?_ : ky_V _ _ _ 8 _ _ _ _)
  refine v_imul (i := 5) rfl (?_ : ky_V _ _ _ 9 _ _ _ _)
  refine v_iadd (i := 6) rfl (?_ : ky_V _ _ _ 10 _ _ _ _)
  refine v_iload_n (i := 7) (j := 2) rfl rfl (?_ : ky_V _ _ _ 11 _ _ _ _)
  refine v_iadd (i := 8) rfl (?_ : ky_V _ _ _ 12 _ _ _ _)
  refine v_iald (i := 9) rfl (md_1 hm) (b0) (?_ : ky_V _ _ _ 13 _ (.int (c 1 (Int32.toNatClampNeg ((45 + (3 * p0)) + p1))) :: _) _ _)
  refine v_iret (v := (c 1 (Int32.toNatClampNeg ((45 + (3 * p0)) + p1)))) (ty := .int) (i := 10) rfl rfl rfl ?_
  unfold md_of_r at K; exact K
def md_costOf_r (c : Nat → Nat → Int32) (p0 : Int32) (p1 : Int32) (p2 : Int32) : Int32 := (if p2 = 0 then (if (md_of_r c p0 0) < p1 then 1000000 else 1) else (if p0 = (c 1 10) then 1000000 else (if (md_of_r c p0 0) < p1 then (if (md_deeper (md_of_r c p0 0) 3) < p1 then 1000000 else 1) else 0)))
set_option maxRecDepth 20000 in
set_option maxHeartbeats 4000000 in
theorem k_X12_costOf {G : ky_GW} {d : Nat} {h : ky_HP} {Q : ky_RS → ky_HP → Prop} {a : Nat} {c : Nat → Nat → Int32} (p0 : Int32) (p1 : Int32) (p2 : Int32) (hm : md_at G h a c) (b0 : (¬ (p2 = 0)) → (¬ (p0 = (c 1 10))) → vp_in ((45 + (3 * p0)) + 0) 2247) (b1 : (¬ (p2 = 0)) → (¬ (p0 = (c 1 10))) → ((md_of_r c p0 0) < p1) → vp_in ((45 + (3 * p0)) + 0) 2247) (b2 : (p2 = 0) → vp_in ((45 + (3 * p0)) + 0) 2247) (K : Q (.inl (some (.int (md_costOf_r c p0 p1 p2)))) h) : ky_Call G (d + 2) M_X12_costOf [.ref a, .int p0, .int p1, .int p2] h Q := by
  refine ky_ofV (by decide +kernel) rfl ok_X12_costOf (Nat.le_of_ble_eq_true rfl) ?_
  have fr : bk_fr a 13 h h := bk_fr.rf
  refine (?_ : ky_V _ _ _ 0 [(0, .ref a), (1, .int p0), (2, .int p1), (3, .int p2)] [] _ _)
  refine v_iload_n (i := 0) (j := 3) rfl rfl (?_ : ky_V _ _ _ 1 _ _ _ _)
  refine v_if_ne (tgt := 22) (i := 1) rfl (by decide) (fun c1 => ?_) (fun c1 => ?_)
  · refine v_iload_n (i := 12) (j := 1) rfl rfl (?_ : ky_V _ _ _ 23 _ _ _ _)
    refine v_aload_n (i := 13) (j := 0) rfl rfl (?_ : ky_V _ _ _ 24 _ _ _ _)
    refine gf_X12_13 rfl (i := 14) rfl (md_0 hm) rfl (?_ : ky_V _ _ _ 27 _ _ _ _)
    refine v_bipush (v := 10) (i := 15) rfl (by decide) (?_ : ky_V _ _ _ 29 _ _ _ _)
    refine v_iald (i := 16) rfl (md_1 hm) (ky_inl (by decide)) (?_ : ky_V _ _ _ 30 _ (.int (c 1 10) :: _) _ _)
    refine v_icmp_ne (tgt := 39) (i := 17) rfl (by decide) (fun c2 => ?_) (fun c2 => ?_)
    · refine v_aload_n (i := 20) (j := 0) rfl rfl (?_ : ky_V _ _ _ 40 _ _ _ _)
      refine v_iload_n (i := 21) (j := 1) rfl rfl (?_ : ky_V _ _ _ 41 _ _ _ _)
      refine v_iconst (v := 0) (i := 22) rfl (by decide) (?_ : ky_V _ _ _ 42 _ _ _ _)
      refine cl_X12_397 (As := [.int p0, .int 0]) rfl (i := 23) rfl (md_0 hm) rfl rfl (Nat.le_of_ble_eq_true rfl) (k_X12_of p0 0 hm (b0 c1 c2) ⟨_, rfl, (?_ : ky_V _ _ _ 45 _ [.int ((md_of_r c p0 0))] _ _)⟩)
      refine v_iload_n (i := 24) (j := 2) rfl rfl (?_ : ky_V _ _ _ 46 _ _ _ _)
      refine v_icmp_lt (tgt := 53) (i := 25) rfl (by decide) (fun c3 => ?_) (fun c3 => ?_)
      · refine v_aload_n (i := 28) (j := 0) rfl rfl (?_ : ky_V _ _ _ 54 _ _ _ _)
        refine v_iload_n (i := 29) (j := 1) rfl rfl (?_ : ky_V _ _ _ 55 _ _ _ _)
        refine v_iconst (v := 0) (i := 30) rfl (by decide) (?_ : ky_V _ _ _ 56 _ _ _ _)
        refine cl_X12_397 (As := [.int p0, .int 0]) rfl (i := 31) rfl (md_0 hm) rfl rfl (Nat.le_of_ble_eq_true rfl) (k_X12_of p0 0 hm (b1 c1 c2 c3) ⟨_, rfl, (?_ : ky_V _ _ _ 59 _ [.int ((md_of_r c p0 0))] _ _)⟩)
        refine v_iconst (v := 3) (i := 32) rfl (by decide) (?_ : ky_V _ _ _ 60 _ _ _ _)
        refine cl_X12_276 (As := [.int ((md_of_r c p0 0)), .int 3]) rfl (i := 33) rfl rfl rfl (Nat.le_of_ble_eq_true rfl) (k_X12_deeper (md_of_r c p0 0) 3 ⟨_, rfl, (?_ : ky_V _ _ _ 63 _ [.int ((md_deeper (md_of_r c p0 0) 3))] _ _)⟩)
        refine v_iload_n (i := 34) (j := 2) rfl rfl (?_ : ky_V _ _ _ 64 _ _ _ _)
        refine v_icmp_lt (tgt := 71) (i := 35) rfl (by decide) (fun c4 => ?_) (fun c4 => ?_)
        · refine v_ldcw (v := 1000000) (i := 38) rfl (ky_t8 (i := 116) rfl rfl) (?_ : ky_V _ _ _ 74 _ _ _ _)
          refine v_iret (v := 1000000) (ty := .int) (i := 39) rfl rfl rfl ?_
          unfold md_costOf_r at K; (try simp only [if_neg c1, if_neg c2, if_pos c3, if_pos c4] at K); exact K
        · refine v_iconst (v := 1) (i := 36) rfl (by decide) (?_ : ky_V _ _ _ 68 _ _ _ _)
          refine v_goto (tgt := 74) (i := 37) rfl (by decide) (?_ : ky_V _ _ _ 74 _ _ _ _)
          refine v_iret (v := 1) (ty := .int) (i := 39) rfl rfl rfl ?_
          unfold md_costOf_r at K; (try simp only [if_neg c1, if_neg c2, if_pos c3, if_neg c4] at K); exact K
      · refine v_iconst (v := 0) (i := 26) rfl (by decide) (?_ : ky_V _ _ _ 50 _ _ _ _)
        refine v_goto (tgt := 74) (i := 27) rfl (by decide) (?_ : ky_V _ _ _ 74 _ _ _ _)
        refine v_iret (v := 0) (ty := .int) (i := 39) rfl rfl rfl ?_
        unfold md_costOf_r at K; (try simp only [if_neg c1, if_neg c2, if_neg c3] at K); exact K
    · refine v_ldcw (v := 1000000) (i := 18) rfl (ky_t8 (i := 116) rfl rfl) (?_ : ky_V _ _ _ 36 _ _ _ _)
      refine v_goto (tgt := 74) (i := 19) rfl (by decide) (?_ : ky_V _ _ _ 74 _ _ _ _)
      refine v_iret (v := 1000000) (ty := .int) (i := 39) rfl rfl rfl ?_
      unfold md_costOf_r at K; (try simp only [if_neg c1, if_pos c2] at K); exact K
  · refine v_aload_n (i := 2) (j := 0) rfl rfl (?_ : ky_V _ _ _ 5 _ _ _ _)
    refine v_iload_n (i := 3) (j := 1) rfl rfl (?_ : ky_V _ _ _ 6 _ _ _ _)
    refine v_iconst (v := 0) (i := 4) rfl (by decide) (?_ : ky_V _ _ _ 7 _ _ _ _)
    refine cl_X12_397 (As := [.int p0, .int 0]) rfl (i := 5) rfl (md_0 hm) rfl rfl (Nat.le_of_ble_eq_true rfl) (k_X12_of p0 0 hm (b2 c1) ⟨_, rfl, (?_ : ky_V _ _ _ 10 _ [.int ((md_of_r c p0 0))] _ _)⟩)
    refine v_iload_n (i := 6) (j := 2) rfl rfl (?_ : ky_V _ _ _ 11 _ _ _ _)
    refine v_icmp_lt (tgt := 18) (i := 7) rfl (by decide) (fun c5 => ?_) (fun c5 => ?_)
    · refine v_ldcw (v := 1000000) (i := 10) rfl (ky_t8 (i := 116) rfl rfl) (?_ : ky_V _ _ _ 21 _ _ _ _)
      refine v_iret (v := 1000000) (ty := .int) (i := 11) rfl rfl rfl ?_
      unfold md_costOf_r at K; (try simp only [if_pos c1, if_pos c5] at K); exact K
    · refine v_iconst (v := 1) (i := 8) rfl (by decide) (?_ : ky_V _ _ _ 15 _ _ _ _)
      refine v_goto (tgt := 21) (i := 9) rfl (by decide) (?_ : ky_V _ _ _ 21 _ _ _ _)
      refine v_iret (v := 1) (ty := .int) (i := 11) rfl rfl rfl ?_
      unfold md_costOf_r at K; (try simp only [if_pos c1, if_neg c5] at K); exact K
def md_ofLog_r (c : Nat → Nat → Int32) (p0 : Int32) (p1 : Int32) : Int32 := (c 1 (Int32.toNatClampNeg ((249 + (5 * p0)) + p1)))
set_option maxRecDepth 20000 in
set_option maxHeartbeats 4000000 in
theorem k_X12_ofLog {G : ky_GW} {d : Nat} {h : ky_HP} {Q : ky_RS → ky_HP → Prop} {a : Nat} {c : Nat → Nat → Int32} (p0 : Int32) (p1 : Int32) (hm : md_at G h a c) (b0 : vp_in ((249 + (5 * p0)) + p1) 2247) (K : Q (.inl (some (.int (md_ofLog_r c p0 p1)))) h) : ky_Call G d M_X12_ofLog [.ref a, .int p0, .int p1] h Q := by
  refine ky_ofV (by decide +kernel) rfl ok_X12_ofLog (Nat.le_of_ble_eq_true rfl) ?_
  have fr : bk_fr a 13 h h := bk_fr.rf
  refine (?_ : ky_V _ _ _ 0 [(0, .ref a), (1, .int p0), (2, .int p1)] [] _ _)
  refine v_aload_n (i := 0) (j := 0) rfl rfl (?_ : ky_V _ _ _ 1 _ _ _ _)
  refine gf_X12_13 rfl (i := 1) rfl (md_0 hm) rfl (?_ : ky_V _ _ _ 4 _ _ _ _)
  refine v_sipush (v := 249) (i := 2) rfl (by decide) (?_ : ky_V _ _ _ 7 _ _ _ _)
  refine v_iconst (v := 5) (i := 3) rfl (by decide) (?_ : ky_V _ _ _ 8 _ _ _ _)
  refine v_iload_n (i := 4) (j := 1) rfl rfl (?_ : ky_V _ _ _ 9 _ _ _ _)
  refine v_imul (i := 5) rfl (?_ : ky_V _ _ _ 10 _ _ _ _)
  refine v_iadd (i := 6) rfl (?_ : ky_V _ _ _ 11 _ _ _ _)
  refine v_iload_n (i := 7) (j := 2) rfl rfl (?_ : ky_V _ _ _ 12 _ _ _ _)
  refine v_iadd (i := 8) rfl (?_ : ky_V _ _ _ 13 _ _ _ _)
  refine v_iald (i := 9) rfl (md_1 hm) (b0) (?_ : ky_V _ _ _ 14 _ (.int (c 1 (Int32.toNatClampNeg ((249 + (5 * p0)) + p1))) :: _) _ _)
  refine v_iret (v := (c 1 (Int32.toNatClampNeg ((249 + (5 * p0)) + p1)))) (ty := .int) (i := 10) rfl rfl rfl ?_
  unfold md_ofLog_r at K; exact K
def md_log_r (c : Nat → Nat → Int32) (p0 : Int32) (p1 : Int32) : Int32 := (if (md_in p1 0 4) = 0 then (if (md_throwsIf_r (bk_w c 0 0 0) 1 1) = 0 then (if (md_in p0 0 (((md_throwsIf_c (bk_w c 0 0 0) 1 1) 1 15) - 1)) = 0 then (-1) else (md_ofLog_r (md_throwsIf_c (bk_w c 0 0 0) 1 1) p0 p1)) else 0) else (if (md_throwsIf_r (bk_w c 0 0 0) 0 1) = 0 then (if (md_in p0 0 (((md_throwsIf_c (bk_w c 0 0 0) 0 1) 1 15) - 1)) = 0 then (-1) else (md_ofLog_r (md_throwsIf_c (bk_w c 0 0 0) 0 1) p0 p1)) else 0))
def md_log_c (c : Nat → Nat → Int32) (p0 : Int32) (p1 : Int32) : Nat → Nat → Int32 := (if (md_in p1 0 4) = 0 then (md_throwsIf_c (bk_w c 0 0 0) 1 1) else (md_throwsIf_c (bk_w c 0 0 0) 0 1))
set_option maxRecDepth 20000 in
set_option maxHeartbeats 4000000 in
theorem k_X12_log {G : ky_GW} {d : Nat} {h : ky_HP} {Q : ky_RS → ky_HP → Prop} {a : Nat} {c : Nat → Nat → Int32} (p0 : Int32) (p1 : Int32) (hm : md_at G h a c) (b0 : (¬ ((md_in p1 0 4) = 0)) → ((md_throwsIf_r (bk_w c 0 0 0) 0 1) = 0) → (¬ ((md_in p0 0 (((md_throwsIf_c (bk_w c 0 0 0) 0 1) 1 15) - 1)) = 0)) → vp_in ((249 + (5 * p0)) + p1) 2247) (b1 : ((md_in p1 0 4) = 0) → ((md_throwsIf_r (bk_w c 0 0 0) 1 1) = 0) → (¬ ((md_in p0 0 (((md_throwsIf_c (bk_w c 0 0 0) 1 1) 1 15) - 1)) = 0)) → vp_in ((249 + (5 * p0)) + p1) 2247) (K : ∀ h1, md_at G h1 a (md_log_c c p0 p1) → bk_fr a 13 h h1 → Q (.inl (some (.int (md_log_r c p0 p1)))) h1) : ky_Call G (d + 1) M_X12_log [.ref a, .int p0, .int p1] h Q := by
  refine ky_ofV (by decide +kernel) rfl ok_X12_log (Nat.le_of_ble_eq_true rfl) ?_
  have fr : bk_fr a 13 h h := bk_fr.rf
  refine (?_ : ky_V _ _ _ 0 [(0, .ref a), (1, .int p0), (2, .int p1)] [] _ _)
  refine v_aload_n (i := 0) (j := 0) rfl rfl (?_ : ky_V _ _ _ 1 _ _ _ _)
  refine v_iconst (v := 0) (i := 1) rfl (by decide) (?_ : ky_V _ _ _ 2 _ _ _ _)
  refine pf_X12_3 rfl (i := 2) rfl (md_0 hm) (Nat.le_of_ble_eq_true rfl) rfl rfl ?_
  refine bk_st (B := md_B G a) hm fr 0 0 0 (by decide) (fun h1 hmh1 frh1 => ?_)
  obtain ⟨q2, eq2⟩ : ∃ z, z = bk_w c 0 0 0 := ⟨_, rfl⟩
  rw [← eq2] at hmh1
  refine (?_ : ky_V _ _ _ 5 _ _ _ _)
  refine v_aload_n (i := 3) (j := 0) rfl rfl (?_ : ky_V _ _ _ 6 _ _ _ _)
  refine v_iload_n (i := 4) (j := 2) rfl rfl (?_ : ky_V _ _ _ 7 _ _ _ _)
  refine v_iconst (v := 0) (i := 5) rfl (by decide) (?_ : ky_V _ _ _ 8 _ _ _ _)
  refine v_iconst (v := 4) (i := 6) rfl (by decide) (?_ : ky_V _ _ _ 9 _ _ _ _)
  refine cl_X12_65 (As := [.int p1, .int 0, .int 4]) rfl (i := 7) rfl rfl rfl (Nat.le_of_ble_eq_true rfl) (k_X12_in p1 0 4 ⟨_, rfl, (?_ : ky_V _ _ _ 12 _ [.int ((md_in p1 0 4)), .ref a] _ _)⟩)
  refine v_if_ne (tgt := 19) (i := 8) rfl (by decide) (fun c3 => ?_) (fun c3 => ?_)
  · refine v_iconst (v := 0) (i := 11) rfl (by decide) (?_ : ky_V _ _ _ 20 _ _ _ _)
    refine v_iconst (v := 1) (i := 12) rfl (by decide) (?_ : ky_V _ _ _ 21 _ _ _ _)
    refine cl_X12_241 (As := [.int 0, .int 1]) rfl (i := 13) rfl (md_0 hmh1) rfl rfl (Nat.le_of_ble_eq_true rfl) (k_X12_throwsIf 0 1 hmh1 (by decide) (fun h4 hmh4 frh4 => ⟨_, rfl, (?_ : ky_V _ _ _ 24 _ [.int ((md_throwsIf_r q2 0 1))] _ _)⟩))
    have frh4 := frh1.tr frh4
    refine v_topi (fun x6 ex6 => ?_)
    obtain ⟨q5, eq5⟩ : ∃ z, z = md_throwsIf_c q2 0 1 := ⟨_, rfl⟩
    rw [← eq5] at hmh4
    refine v_if_eq (tgt := 29) (i := 14) rfl (by decide) (fun c7 => ?_) (fun c7 => ?_)
    · refine v_iload_n (i := 17) (j := 1) rfl rfl (?_ : ky_V _ _ _ 30 _ _ _ _)
      refine v_iconst (v := 0) (i := 18) rfl (by decide) (?_ : ky_V _ _ _ 31 _ _ _ _)
      refine v_aload_n (i := 19) (j := 0) rfl rfl (?_ : ky_V _ _ _ 32 _ _ _ _)
      refine gf_X12_13 rfl (i := 20) rfl (md_0 hmh4) rfl (?_ : ky_V _ _ _ 35 _ _ _ _)
      refine v_bipush (v := 15) (i := 21) rfl (by decide) (?_ : ky_V _ _ _ 37 _ _ _ _)
      refine v_iald (i := 22) rfl (md_1 hmh4) (ky_inl (by decide)) (?_ : ky_V _ _ _ 38 _ (.int (q5 1 15) :: _) _ _)
      refine v_iconst (v := 1) (i := 23) rfl (by decide) (?_ : ky_V _ _ _ 39 _ _ _ _)
      refine v_isub (i := 24) rfl (?_ : ky_V _ _ _ 40 _ _ _ _)
      refine cl_X12_65 (As := [.int p0, .int 0, .int (((q5 1 15) - 1))]) rfl (i := 25) rfl rfl rfl (Nat.le_of_ble_eq_true rfl) (k_X12_in p0 0 ((q5 1 15) - 1) ⟨_, rfl, (?_ : ky_V _ _ _ 43 _ [.int ((md_in p0 0 ((q5 1 15) - 1)))] _ _)⟩)
      refine v_if_eq (tgt := 55) (i := 26) rfl (by decide) (fun c8 => ?_) (fun c8 => ?_)
      · refine v_iconst (v := (-1)) (i := 32) rfl (by decide) (?_ : ky_V _ _ _ 56 _ _ _ _)
        refine v_iret (v := (-1)) (ty := .int) (i := 33) rfl rfl rfl ?_
        subst eq2 ex6 eq5; unfold md_log_r md_log_c at K; (try simp only [if_neg c3, if_pos c7, if_pos c8] at K); exact K _ hmh4 frh4
      · refine v_aload_n (i := 27) (j := 0) rfl rfl (?_ : ky_V _ _ _ 47 _ _ _ _)
        refine v_iload_n (i := 28) (j := 1) rfl rfl (?_ : ky_V _ _ _ 48 _ _ _ _)
        refine v_iload_n (i := 29) (j := 2) rfl rfl (?_ : ky_V _ _ _ 49 _ _ _ _)
        refine cl_X12_449 (As := [.int p0, .int p1]) rfl (i := 30) rfl (md_0 hmh4) rfl rfl (Nat.le_of_ble_eq_true rfl) (k_X12_ofLog p0 p1 hmh4 (by subst eq2 ex6 eq5; exact b0 c3 c7 c8) ⟨_, rfl, (?_ : ky_V _ _ _ 52 _ [.int ((md_ofLog_r q5 p0 p1))] _ _)⟩)
        refine v_goto (tgt := 56) (i := 31) rfl (by decide) (?_ : ky_V _ _ _ 56 _ _ _ _)
        refine v_iret (v := (md_ofLog_r q5 p0 p1)) (ty := .int) (i := 33) rfl rfl rfl ?_
        subst eq2 ex6 eq5; unfold md_log_r md_log_c at K; (try simp only [if_neg c3, if_pos c7, if_neg c8] at K); exact K _ hmh4 frh4
    · refine v_iconst (v := 0) (i := 15) rfl (by decide) (?_ : ky_V _ _ _ 28 _ _ _ _)
      refine v_iret (v := 0) (ty := .int) (i := 16) rfl rfl rfl ?_
      subst eq2 ex6 eq5; unfold md_log_r md_log_c at K; (try simp only [if_neg c3, if_neg c7] at K); exact K _ hmh4 frh4
  · refine v_iconst (v := 1) (i := 9) rfl (by decide) (?_ : ky_V _ _ _ 16 _ _ _ _)
    refine v_goto (tgt := 20) (i := 10) rfl (by decide) (?_ : ky_V _ _ _ 20 _ _ _ _)
    refine v_iconst (v := 1) (i := 12) rfl (by decide) (?_ : ky_V _ _ _ 21 _ _ _ _)
    refine cl_X12_241 (As := [.int 1, .int 1]) rfl (i := 13) rfl (md_0 hmh1) rfl rfl (Nat.le_of_ble_eq_true rfl) (k_X12_throwsIf 1 1 hmh1 (by decide) (fun h9 hmh9 frh9 => ⟨_, rfl, (?_ : ky_V _ _ _ 24 _ [.int ((md_throwsIf_r q2 1 1))] _ _)⟩))
    have frh9 := frh1.tr frh9
    refine v_topi (fun x11 ex11 => ?_)
    obtain ⟨q10, eq10⟩ : ∃ z, z = md_throwsIf_c q2 1 1 := ⟨_, rfl⟩
    rw [← eq10] at hmh9
    refine v_if_eq (tgt := 29) (i := 14) rfl (by decide) (fun c12 => ?_) (fun c12 => ?_)
    · refine v_iload_n (i := 17) (j := 1) rfl rfl (?_ : ky_V _ _ _ 30 _ _ _ _)
      refine v_iconst (v := 0) (i := 18) rfl (by decide) (?_ : ky_V _ _ _ 31 _ _ _ _)
      refine v_aload_n (i := 19) (j := 0) rfl rfl (?_ : ky_V _ _ _ 32 _ _ _ _)
      refine gf_X12_13 rfl (i := 20) rfl (md_0 hmh9) rfl (?_ : ky_V _ _ _ 35 _ _ _ _)
      refine v_bipush (v := 15) (i := 21) rfl (by decide) (?_ : ky_V _ _ _ 37 _ _ _ _)
      refine v_iald (i := 22) rfl (md_1 hmh9) (ky_inl (by decide)) (?_ : ky_V _ _ _ 38 _ (.int (q10 1 15) :: _) _ _)
      refine v_iconst (v := 1) (i := 23) rfl (by decide) (?_ : ky_V _ _ _ 39 _ _ _ _)
      refine v_isub (i := 24) rfl (?_ : ky_V _ _ _ 40 _ _ _ _)
      refine cl_X12_65 (As := [.int p0, .int 0, .int (((q10 1 15) - 1))]) rfl (i := 25) rfl rfl rfl (Nat.le_of_ble_eq_true rfl) (k_X12_in p0 0 ((q10 1 15) - 1) ⟨_, rfl, (?_ : ky_V _ _ _ 43 _ [.int ((md_in p0 0 ((q10 1 15) - 1)))] _ _)⟩)
      refine v_if_eq (tgt := 55) (i := 26) rfl (by decide) (fun c13 => ?_) (fun c13 => ?_)
      · refine v_iconst (v := (-1)) (i := 32) rfl (by decide) (?_ : ky_V _ _ _ 56 _ _ _ _)
        refine v_iret (v := (-1)) (ty := .int) (i := 33) rfl rfl rfl ?_
        subst eq2 ex11 eq10; unfold md_log_r md_log_c at K; (try simp only [if_pos c3, if_pos c12, if_pos c13] at K); exact K _ hmh9 frh9
      · refine v_aload_n (i := 27) (j := 0) rfl rfl (?_ : ky_V _ _ _ 47 _ _ _ _)
        refine v_iload_n (i := 28) (j := 1) rfl rfl (?_ : ky_V _ _ _ 48 _ _ _ _)
        refine v_iload_n (i := 29) (j := 2) rfl rfl (?_ : ky_V _ _ _ 49 _ _ _ _)
        refine cl_X12_449 (As := [.int p0, .int p1]) rfl (i := 30) rfl (md_0 hmh9) rfl rfl (Nat.le_of_ble_eq_true rfl) (k_X12_ofLog p0 p1 hmh9 (by subst eq2 ex11 eq10; exact b1 c3 c12 c13) ⟨_, rfl, (?_ : ky_V _ _ _ 52 _ [.int ((md_ofLog_r q10 p0 p1))] _ _)⟩)
        refine v_goto (tgt := 56) (i := 31) rfl (by decide) (?_ : ky_V _ _ _ 56 _ _ _ _)
        refine v_iret (v := (md_ofLog_r q10 p0 p1)) (ty := .int) (i := 33) rfl rfl rfl ?_
        subst eq2 ex11 eq10; unfold md_log_r md_log_c at K; (try simp only [if_pos c3, if_pos c12, if_neg c13] at K); exact K _ hmh9 frh9
    · refine v_iconst (v := 0) (i := 15) rfl (by decide) (?_ : ky_V _ _ _ 28 _ _ _ _)
      refine v_iret (v := 0) (ty := .int) (i := 16) rfl rfl rfl ?_
      subst eq2 ex11 eq10; unfold md_log_r md_log_c at K; (try simp only [if_pos c3, if_neg c12] at K); exact K _ hmh9 frh9
def md_seed_r (c : Nat → Nat → Int32) (p0 : Int32) : Int32 := ((bk_w c 0 0 0) 1 16)
def md_seed_c (c : Nat → Nat → Int32) (p0 : Int32) : Nat → Nat → Int32 := (bk_w (bk_w c 0 0 0) 1 16 p0)
set_option maxRecDepth 20000 in
set_option maxHeartbeats 4000000 in
theorem k_X12_seed {G : ky_GW} {d : Nat} {h : ky_HP} {Q : ky_RS → ky_HP → Prop} {a : Nat} {c : Nat → Nat → Int32} (p0 : Int32) (hm : md_at G h a c)  (K : ∀ h1, md_at G h1 a (md_seed_c c p0) → bk_fr a 13 h h1 → Q (.inl (some (.int (md_seed_r c p0)))) h1) : ky_Call G d M_X12_seed [.ref a, .int p0] h Q := by
  refine ky_ofV (by decide +kernel) rfl ok_X12_seed (Nat.le_of_ble_eq_true rfl) ?_
  have fr : bk_fr a 13 h h := bk_fr.rf
  refine (?_ : ky_V _ _ _ 0 [(0, .ref a), (1, .int p0)] [] _ _)
  refine v_aload_n (i := 0) (j := 0) rfl rfl (?_ : ky_V _ _ _ 1 _ _ _ _)
  refine v_iconst (v := 0) (i := 1) rfl (by decide) (?_ : ky_V _ _ _ 2 _ _ _ _)
  refine pf_X12_3 rfl (i := 2) rfl (md_0 hm) (Nat.le_of_ble_eq_true rfl) rfl rfl ?_
  refine bk_st (B := md_B G a) hm fr 0 0 0 (by decide) (fun h1 hmh1 frh1 => ?_)
  obtain ⟨q2, eq2⟩ : ∃ z, z = bk_w c 0 0 0 := ⟨_, rfl⟩
  rw [← eq2] at hmh1
  refine (?_ : ky_V _ _ _ 5 _ _ _ _)
  refine v_aload_n (i := 3) (j := 0) rfl rfl (?_ : ky_V _ _ _ 6 _ _ _ _)
  refine gf_X12_13 rfl (i := 4) rfl (md_0 hmh1) rfl (?_ : ky_V _ _ _ 9 _ _ _ _)
  refine v_bipush (v := 16) (i := 5) rfl (by decide) (?_ : ky_V _ _ _ 11 _ _ _ _)
  refine v_iald (i := 6) rfl (md_1 hmh1) (ky_inl (by decide)) (?_ : ky_V _ _ _ 12 _ (.int (q2 1 16) :: _) _ _)
  refine v_topi (fun x3 ex3 => ?_)
  refine v_istore_n (L' := [(0, .ref a), (1, .int p0), (2, .int x3)]) [1, 2, 0] (i := 7) rfl (Nat.le_of_ble_eq_true rfl) rfl (?_ : ky_V _ _ _ 13 _ _ _ _)
  refine v_aload_n (i := 8) (j := 0) rfl rfl (?_ : ky_V _ _ _ 14 _ _ _ _)
  refine gf_X12_13 rfl (i := 9) rfl (md_0 hmh1) rfl (?_ : ky_V _ _ _ 17 _ _ _ _)
  refine v_bipush (v := 16) (i := 10) rfl (by decide) (?_ : ky_V _ _ _ 19 _ _ _ _)
  refine v_iload_n (i := 11) (j := 1) rfl rfl (?_ : ky_V _ _ _ 20 _ _ _ _)
  refine v_iast (i := 12) rfl (md_1 hmh1) (ky_inl (by decide)) ?_
  refine bk_st (B := md_B G a) hmh1 frh1 1 16 p0 (by decide) (fun h4 hmh4 frh4 => ?_)
  obtain ⟨q5, eq5⟩ : ∃ z, z = bk_w q2 1 16 p0 := ⟨_, rfl⟩
  rw [← eq5] at hmh4
  refine (?_ : ky_V _ _ _ 21 _ _ _ _)
  refine v_iload_n (i := 13) (j := 2) rfl rfl (?_ : ky_V _ _ _ 22 _ _ _ _)
  refine v_iret (v := x3) (ty := .int) (i := 14) rfl rfl rfl ?_
  subst eq2 ex3 eq5; unfold md_seed_r md_seed_c at K; exact K _ hmh4 frh4
def md_pullsBy_r (c : Nat → Nat → Int32) (p0 : Int32) (p1 : Int32) : Int32 := (if (mt_max (c 9 0) (c 9 1)) = 0 then 0 else (if (md_pulledBy_r c p0) = 0 then (p1 + 1) else ((((mt_max (c 9 0) (c 9 1)) + (md_pulledBy_r c p0)) - 1) / (md_pulledBy_r c p0))))
set_option maxRecDepth 20000 in
set_option maxHeartbeats 4000000 in
theorem k_X12_pullsBy {G : ky_GW} {d : Nat} {h : ky_HP} {Q : ky_RS → ky_HP → Prop} {a : Nat} {c : Nat → Nat → Int32} (p0 : Int32) (p1 : Int32) (hm : md_at G h a c) (b0 : (¬ ((mt_max (c 9 0) (c 9 1)) = 0)) → (¬ ((md_pulledBy_r c p0) = 0)) → ¬ (md_pulledBy_r c p0) = 0) (K : Q (.inl (some (.int (md_pullsBy_r c p0 p1)))) h) : ky_Call G (d + 2) M_X12_pullsBy [.ref a, .int p0, .int p1] h Q := by
  refine ky_ofV (by decide +kernel) rfl ok_X12_pullsBy (Nat.le_of_ble_eq_true rfl) ?_
  have fr : bk_fr a 13 h h := bk_fr.rf
  refine (?_ : ky_V _ _ _ 0 [(0, .ref a), (1, .int p0), (2, .int p1)] [] _ _)
  refine v_aload_n (i := 0) (j := 0) rfl rfl (?_ : ky_V _ _ _ 1 _ _ _ _)
  refine v_iload_n (i := 1) (j := 1) rfl rfl (?_ : ky_V _ _ _ 2 _ _ _ _)
  refine cl_X12_339 (As := [.int p0]) rfl (i := 2) rfl (md_0 hm) rfl rfl (Nat.le_of_ble_eq_true rfl) (k_X12_pulledBy p0 hm ⟨_, rfl, (?_ : ky_V _ _ _ 5 _ [.int ((md_pulledBy_r c p0))] _ _)⟩)
  refine v_topi (fun x1 ex1 => ?_)
  refine v_istore_n (L' := [(0, .ref a), (1, .int p0), (2, .int p1), (3, .int x1)]) [1, 2, 3, 0] (i := 3) rfl (Nat.le_of_ble_eq_true rfl) rfl (?_ : ky_V _ _ _ 6 _ _ _ _)
  refine v_aload_n (i := 4) (j := 0) rfl rfl (?_ : ky_V _ _ _ 7 _ _ _ _)
  refine gf_X12_42 rfl (i := 5) rfl (md_0 hm) rfl (?_ : ky_V _ _ _ 10 _ _ _ _)
  refine v_iconst (v := 0) (i := 6) rfl (by decide) (?_ : ky_V _ _ _ 11 _ _ _ _)
  refine v_iald (i := 7) rfl (md_9 hm) (ky_inl (by decide)) (?_ : ky_V _ _ _ 12 _ (.int (c 9 0) :: _) _ _)
  refine v_aload_n (i := 8) (j := 0) rfl rfl (?_ : ky_V _ _ _ 13 _ _ _ _)
  refine gf_X12_42 rfl (i := 9) rfl (md_0 hm) rfl (?_ : ky_V _ _ _ 16 _ _ _ _)
  refine v_iconst (v := 1) (i := 10) rfl (by decide) (?_ : ky_V _ _ _ 17 _ _ _ _)
  refine v_iald (i := 11) rfl (md_9 hm) (ky_inl (by decide)) (?_ : ky_V _ _ _ 18 _ (.int (c 9 1) :: _) _ _)
  refine cl_X12_255 rfl (i := 12) rfl (Nat.le_of_ble_eq_true rfl) (?_ : ky_V _ _ _ 21 _ _ _ _)
  refine v_topi (fun x2 ex2 => ?_)
  refine v_istore (L' := [(0, .ref a), (1, .int p0), (2, .int p1), (3, .int x1), (4, .int x2)]) [1, 2, 3, 4, 0] (i := 13) rfl (Nat.le_of_ble_eq_true rfl) rfl (?_ : ky_V _ _ _ 23 _ _ _ _)
  refine v_iload (i := 14) (j := 4) rfl rfl (?_ : ky_V _ _ _ 25 _ _ _ _)
  refine v_if_ne (tgt := 32) (i := 15) rfl (by decide) (fun c3 => ?_) (fun c3 => ?_)
  · refine v_iload_n (i := 18) (j := 3) rfl rfl (?_ : ky_V _ _ _ 33 _ _ _ _)
    refine v_if_ne (tgt := 42) (i := 19) rfl (by decide) (fun c4 => ?_) (fun c4 => ?_)
    · refine v_iload (i := 24) (j := 4) rfl rfl (?_ : ky_V _ _ _ 44 _ _ _ _)
      refine v_iload_n (i := 25) (j := 3) rfl rfl (?_ : ky_V _ _ _ 45 _ _ _ _)
      refine v_iadd (i := 26) rfl (?_ : ky_V _ _ _ 46 _ _ _ _)
      refine v_iconst (v := 1) (i := 27) rfl (by decide) (?_ : ky_V _ _ _ 47 _ _ _ _)
      refine v_isub (i := 28) rfl (?_ : ky_V _ _ _ 48 _ _ _ _)
      refine v_iload_n (i := 29) (j := 3) rfl rfl (?_ : ky_V _ _ _ 49 _ _ _ _)
      refine v_idiv (i := 30) rfl (by subst ex1 ex2; exact b0 c3 c4) (?_ : ky_V _ _ _ 50 _ _ _ _)
      refine v_iret (v := (((x2 + x1) - 1) / x1)) (ty := .int) (i := 31) rfl rfl rfl ?_
      subst ex1 ex2; unfold md_pullsBy_r at K; (try simp only [if_neg c3, if_neg c4] at K); exact K
    · refine v_iload_n (i := 20) (j := 2) rfl rfl (?_ : ky_V _ _ _ 37 _ _ _ _)
      refine v_iconst (v := 1) (i := 21) rfl (by decide) (?_ : ky_V _ _ _ 38 _ _ _ _)
      refine v_iadd (i := 22) rfl (?_ : ky_V _ _ _ 39 _ _ _ _)
      refine v_goto (tgt := 50) (i := 23) rfl (by decide) (?_ : ky_V _ _ _ 50 _ _ _ _)
      refine v_iret (v := (p1 + 1)) (ty := .int) (i := 31) rfl rfl rfl ?_
      subst ex1 ex2; unfold md_pullsBy_r at K; (try simp only [if_neg c3, if_pos c4] at K); exact K
  · refine v_iconst (v := 0) (i := 16) rfl (by decide) (?_ : ky_V _ _ _ 29 _ _ _ _)
    refine v_goto (tgt := 50) (i := 17) rfl (by decide) (?_ : ky_V _ _ _ 50 _ _ _ _)
    refine v_iret (v := 0) (ty := .int) (i := 31) rfl rfl rfl ?_
    subst ex1 ex2; unfold md_pullsBy_r at K; (try simp only [if_pos c3] at K); exact K
def md_isOver_r (c : Nat → Nat → Int32)  : Int32 := (if (md_isOut_r c) = 0 then (if (md_isDrowned_r c) = 0 then 0 else 1) else 1)
set_option maxRecDepth 20000 in
set_option maxHeartbeats 4000000 in
theorem k_X12_isOver {G : ky_GW} {d : Nat} {h : ky_HP} {Q : ky_RS → ky_HP → Prop} {a : Nat} {c : Nat → Nat → Int32}  (hm : md_at G h a c)  (K : Q (.inl (some (.int (md_isOver_r c)))) h) : ky_Call G (d + 2) M_X12_isOver [.ref a] h Q := by
  refine ky_ofV (by decide +kernel) rfl ok_X12_isOver (Nat.le_of_ble_eq_true rfl) ?_
  have fr : bk_fr a 13 h h := bk_fr.rf
  refine (?_ : ky_V _ _ _ 0 [(0, .ref a)] [] _ _)
  refine v_aload_n (i := 0) (j := 0) rfl rfl (?_ : ky_V _ _ _ 1 _ _ _ _)
  refine cl_X12_61 (As := []) rfl (i := 1) rfl (md_0 hm) rfl rfl (Nat.le_of_ble_eq_true rfl) (k_X12_isOut hm ⟨_, rfl, (?_ : ky_V _ _ _ 4 _ [.int ((md_isOut_r c))] _ _)⟩)
  refine v_if_ne (tgt := 14) (i := 2) rfl (by decide) (fun c1 => ?_) (fun c1 => ?_)
  · refine v_iconst (v := 1) (i := 6) rfl (by decide) (?_ : ky_V _ _ _ 15 _ _ _ _)
    refine v_goto (tgt := 19) (i := 7) rfl (by decide) (?_ : ky_V _ _ _ 19 _ _ _ _)
    refine v_iret (v := 1) (ty := .boolean) (i := 9) rfl rfl (by decide) ?_
    unfold md_isOver_r at K; (try simp only [if_neg c1] at K); exact K
  · refine v_aload_n (i := 3) (j := 0) rfl rfl (?_ : ky_V _ _ _ 8 _ _ _ _)
    refine cl_X12_367 (As := []) rfl (i := 4) rfl (md_0 hm) rfl rfl (Nat.le_of_ble_eq_true rfl) (k_X12_isDrowned hm ⟨_, rfl, (?_ : ky_V _ _ _ 11 _ [.int ((md_isDrowned_r c))] _ _)⟩)
    refine v_if_eq (tgt := 18) (i := 5) rfl (by decide) (fun c2 => ?_) (fun c2 => ?_)
    · refine v_iconst (v := 0) (i := 8) rfl (by decide) (?_ : ky_V _ _ _ 19 _ _ _ _)
      refine v_iret (v := 0) (ty := .boolean) (i := 9) rfl rfl (by decide) ?_
      unfold md_isOver_r at K; (try simp only [if_pos c1, if_pos c2] at K); exact K
    · refine v_iconst (v := 1) (i := 6) rfl (by decide) (?_ : ky_V _ _ _ 15 _ _ _ _)
      refine v_goto (tgt := 19) (i := 7) rfl (by decide) (?_ : ky_V _ _ _ 19 _ _ _ _)
      refine v_iret (v := 1) (ty := .boolean) (i := 9) rfl rfl (by decide) ?_
      unfold md_isOver_r at K; (try simp only [if_pos c1, if_neg c2] at K); exact K
