def j7_copyOf_59c91 (N : Nat)  (s : sk_S) (a0_ : Nat) (p1 : Int32) : Option (sk_S × Nat) := (if (sk_K s a0_).1 = 21 then (if p1 = (Int32.ofNat (sk_K s a0_).2) then (ky_let (sk_n s) (fun a14 => (ky_let (sk_cl s a0_) (fun q15 => (if (sk_K q15 a14).1 = 21 then (some (q15, a14)) else none))))) else (if ¬ p1 < 0 then (if Int32.toNatClampNeg p1 ≤ 134217728 then (ky_let (sk_n s) (fun a3 => (ky_let (sk_nw s 21 (Int32.toNatClampNeg p1) (Int32.toNatClampNeg p1)) (fun q6 => (if (sk_K q6 a3).1 = 21 then (if ¬ (mt_min (Int32.ofNat (sk_K q6 a0_).2) p1) < 0 then (if 0 + (Int32.toNatClampNeg (mt_min (Int32.ofNat (sk_K q6 a0_).2) p1)) ≤ (sk_K q6 a0_).2 then (if 0 + (Int32.toNatClampNeg (mt_min (Int32.ofNat (sk_K q6 a0_).2) p1)) ≤ (sk_K q6 a3).2 then (ky_let (sk_wf q6 a3 (va_cpy (sk_c q6 a0_) (sk_c q6 a3) 0 0 (Int32.toNatClampNeg (mt_min (Int32.ofNat (sk_K q6 a0_).2) p1)))) (fun q12 => (some (q12, a3)))) else none) else none) else none) else none))))) else none) else none)) else none)
set_option maxRecDepth 20000 in
set_option maxHeartbeats 4000000 in
theorem k_J7_copyOf_59c91 {G : ky_GW} {d : Nat} {h : ky_HP} {Q : ky_RS → ky_HP → Prop} {s s9 : sk_S} {r9 : Nat} {a0_ : Nat} {p1 : Int32} (N : Nat) (hG : ky_OK G)   (hm : sk_hp G s h)  (e : j7_copyOf_59c91 N  s a0_ p1 = some (s9, r9)) (hr : ∀ h1, sk_hp G s9 h1 → sk_fr none s h s9 h1 → Q (.inl (some (.ref r9))) h1) : ky_Call G (d + 1) M_J7_copyOf_59c91 [.ref a0_, .int p1] h Q := by
  refine ky_ofV (by decide +kernel) rfl ok_J7_copyOf_59c91 (Nat.le_of_ble_eq_true rfl) ?_
  have fr : sk_fr none s h s h := sk_fr.rf
  unfold j7_copyOf_59c91 at e
  refine (?_ : ky_V _ _ _ 0 [(0, .ref a0_), (1, .int p1)] [] _ _)
  obtain ⟨za0_, e⟩ := ky_chkE e
  refine v_iload_n (i := 0) (j := 1) rfl rfl (?_ : ky_V _ _ _ 1 _ _ _ _)
  refine v_aload_n (i := 1) (j := 0) rfl rfl (?_ : ky_V _ _ _ 2 _ _ _ _)
  refine v_alen (v := (Int32.ofNat (sk_K s a0_).2)) 1 (by decide) (i := 2) rfl (ox_21 hm za0_) rfl (?_ : ky_V _ _ _ 3 _ _ _ _)
  refine v_icmp_ne (tgt := 14) (i := 3) rfl (by decide) (fun c1 => ?_) (fun c1 => ?_)
  · replace e := ky_ifF c1 e
    refine v_iload_n (i := 8) (j := 1) rfl rfl (?_ : ky_V _ _ _ 15 _ _ _ _)
    obtain ⟨z4, e⟩ := ky_chkE e
    obtain ⟨z5, e⟩ := ky_chkE e
    refine v_newi (N := (Int32.toNatClampNeg p1)) (ky_t1 (i := 87) rfl rfl) (i := 9) rfl z4 rfl z5 ?_
    refine sk_snw hm fr 21 (Int32.toNatClampNeg p1) rfl (fun a3 h2 ea3 hmh2 frh2 => ?_)
    replace e := ky_letE ea3 e
    obtain ⟨q6, eq6⟩ : ∃ z, z = (sk_nw s 21 (Int32.toNatClampNeg p1) (Int32.toNatClampNeg p1)) := ⟨_, rfl⟩
    rw [← eq6] at hmh2 frh2
    replace e := ky_letE eq6 e
    refine (?_ : ky_V _ _ _ 17 _ (.ref a3 :: _) _ _)
    refine v_astore_n (L' := [(0, .ref a0_), (1, .int p1), (2, .ref a3)]) [1, 2, 0] (i := 10) rfl (Nat.le_of_ble_eq_true rfl) rfl (?_ : ky_V _ _ _ 18 _ _ _ _)
    refine v_aload_n (i := 11) (j := 0) rfl rfl (?_ : ky_V _ _ _ 19 _ _ _ _)
    refine v_iconst (v := 0) (i := 12) rfl (by decide) (?_ : ky_V _ _ _ 20 _ _ _ _)
    refine v_aload_n (i := 13) (j := 2) rfl rfl (?_ : ky_V _ _ _ 21 _ _ _ _)
    refine v_iconst (v := 0) (i := 14) rfl (by decide) (?_ : ky_V _ _ _ 22 _ _ _ _)
    refine v_aload_n (i := 15) (j := 0) rfl rfl (?_ : ky_V _ _ _ 23 _ _ _ _)
    refine v_alen (v := (Int32.ofNat (sk_K q6 a0_).2)) 1 (by decide) (i := 16) rfl (ox_21 hmh2 (frh2.K1 (k := 20) za0_)) rfl (?_ : ky_V _ _ _ 24 _ _ _ _)
    refine v_iload_n (i := 17) (j := 1) rfl rfl (?_ : ky_V _ _ _ 25 _ _ _ _)
    refine cl_J7_304 rfl (i := 18) rfl (Nat.le_of_ble_eq_true rfl) (?_ : ky_V _ _ _ 28 _ _ _ _)
    obtain ⟨z7, e⟩ := ky_chkE e
    obtain ⟨z8, e⟩ := ky_chkE e
    obtain ⟨z9, e⟩ := ky_chkE e
    obtain ⟨z10, e⟩ := ky_chkE e
    refine v_copyi (sp := 0) (dp := 0) (n := (mt_min (Int32.ofNat (sk_K q6 a0_).2) p1)) (by rw [show M_J7_copyOf_59c91.1.cls = "java/util/Arrays" from rfl]; exact ky_t5 (i := 2) rfl rfl) (ky_t3 (i := 133) rfl rfl) (ky_t3 (i := 132) rfl rfl) (ky_t1 (i := 22) rfl rfl) (i := 19) rfl (ox_21 hmh2 (frh2.K1 (k := 20) za0_)) (ox_21 hmh2 z7) (by decide) (by decide) z8 z9 z10 (Nat.le_of_ble_eq_true rfl) ?_
    refine sk_stf (kd := 20) hmh2 frh2 (sk_pr z7) (va_cpy (sk_c q6 a0_) (sk_c q6 a3) 0 0 (Int32.toNatClampNeg (mt_min (Int32.ofNat (sk_K q6 a0_).2) p1))) (fun h11 hmh11 frh11 => ?_)
    obtain ⟨q12, eq12⟩ : ∃ z, z = (sk_wf q6 a3 (va_cpy (sk_c q6 a0_) (sk_c q6 a3) 0 0 (Int32.toNatClampNeg (mt_min (Int32.ofNat (sk_K q6 a0_).2) p1)))) := ⟨_, rfl⟩
    rw [← eq12] at hmh11 frh11
    replace e := ky_letE eq12 e
    refine (?_ : ky_V _ _ _ 31 _ _ _ _)
    refine v_aload_n (i := 20) (j := 2) rfl rfl (?_ : ky_V _ _ _ 32 _ _ _ _)
    refine v_aret (v := .ref a3) (i := 21) rfl rfl (by first | exact Or.inl ⟨_, rfl⟩ | exact Or.inr ⟨_, rfl⟩) (by first | exact Or.inl rfl | exact Or.inr ⟨_, rfl⟩) ?_
    obtain ⟨rfl, rfl⟩ := ky_leaf e
    exact hr _ hmh11 frh11
  · replace e := ky_ifT c1 e
    refine v_aload_n (i := 4) (j := 0) rfl rfl (?_ : ky_V _ _ _ 7 _ _ _ _)
    refine v_clonei (ky_t4 (i := 234) rfl rfl) (i := 5) rfl (ox_21 hm za0_) (Nat.le_of_ble_eq_true rfl) ?_
    refine sk_scl hm fr (sk_pr za0_) (fun a14 h13 ea14 hmh13 frh13 => ?_)
    replace e := ky_letE ea14 e
    obtain ⟨q15, eq15⟩ : ∃ z, z = (sk_cl s a0_) := ⟨_, rfl⟩
    rw [← eq15] at hmh13 frh13
    replace e := ky_letE eq15 e
    refine (?_ : ky_V _ _ _ 10 _ (.ref a14 :: _) _ _)
    obtain ⟨z16, e⟩ := ky_chkE e
    refine v_castI (ky_t5 (i := 0) rfl rfl) (i := 6) rfl (ox_21 hmh13 z16) (?_ : ky_V _ _ _ 13 _ _ _ _)
    refine v_aret (v := .ref a14) (i := 7) rfl rfl (by first | exact Or.inl ⟨_, rfl⟩ | exact Or.inr ⟨_, rfl⟩) (by first | exact Or.inl rfl | exact Or.inr ⟨_, rfl⟩) ?_
    obtain ⟨rfl, rfl⟩ := ky_leaf e
    exact hr _ hmh13 frh13

def x5_part (N : Nat)  (s : sk_S) (p0 : Int32) (p1 : Int32) : Option (sk_S × Int32) := (if p1 = 0 then (some (s, (po_depth0 p0))) else (if p1 = 1 then (some (s, (po_depth1 p0))) else (if p1 = 2 then (some (s, (po_thin p0))) else (some (s, (po_lying p0))))))
set_option maxRecDepth 20000 in
set_option maxHeartbeats 4000000 in
theorem k_X5_part {G : ky_GW} {d : Nat} {h : ky_HP} {Q : ky_RS → ky_HP → Prop} {s s9 : sk_S} {r9 : Int32} {p0 : Int32} {p1 : Int32} (N : Nat) (hG : ky_OK G)   (hm : sk_hp G s h)  (e : x5_part N  s p0 p1 = some (s9, r9)) (hr : ∀ h1, sk_hp G s9 h1 → sk_fr none s h s9 h1 → Q (.inl (some (.int r9))) h1) : ky_Call G (d + 1) M_X5_part [.int p0, .int p1] h Q := by
  refine ky_ofV (by decide +kernel) rfl ok_X5_part (Nat.le_of_ble_eq_true rfl) ?_
  have fr : sk_fr none s h s h := sk_fr.rf
  unfold x5_part at e
  refine (?_ : ky_V _ _ _ 0 [(0, .int p0), (1, .int p1)] [] _ _)
  refine v_iload_n (i := 0) (j := 1) rfl rfl (?_ : ky_V _ _ _ 1 _ _ _ _)
  rcases Classical.em (p1 = 0) with c1 | c1
  · replace e := ky_ifT c1 e
    refine v_tableIn (off := 27) (tgt := 28) (i := 1) rfl (by rw [c1]; decide) (by rw [c1]; decide) (by rw [c1]; rfl) (by decide) ?_
    refine v_iload_n (i := 2) (j := 0) rfl rfl (?_ : ky_V _ _ _ 29 _ _ _ _)
    refine cl_X5_9 (As := [.int p0]) rfl (i := 3) rfl rfl rfl (Nat.le_of_ble_eq_true rfl) (k_X5_depth0 p0 ⟨_, rfl, (?_ : ky_V _ _ _ 32 _ [.int ((po_depth0 p0))] _ _)⟩)
    refine v_iret (v := (po_depth0 p0)) (ty := .int) (i := 4) rfl rfl rfl ?_
    obtain ⟨rfl, rfl⟩ := ky_leaf e
    exact hr _ hm fr
  · replace e := ky_ifF c1 e
    rcases Classical.em (p1 = 1) with c2 | c2
    · replace e := ky_ifT c2 e
      refine v_tableIn (off := 32) (tgt := 33) (i := 1) rfl (by rw [c2]; decide) (by rw [c2]; decide) (by rw [c2]; rfl) (by decide) ?_
      refine v_iload_n (i := 5) (j := 0) rfl rfl (?_ : ky_V _ _ _ 34 _ _ _ _)
      refine cl_X5_15 (As := [.int p0]) rfl (i := 6) rfl rfl rfl (Nat.le_of_ble_eq_true rfl) (k_X5_depth1 p0 ⟨_, rfl, (?_ : ky_V _ _ _ 37 _ [.int ((po_depth1 p0))] _ _)⟩)
      refine v_iret (v := (po_depth1 p0)) (ty := .int) (i := 7) rfl rfl rfl ?_
      obtain ⟨rfl, rfl⟩ := ky_leaf e
      exact hr _ hm fr
    · replace e := ky_ifF c2 e
      rcases Classical.em (p1 = 2) with c3 | c3
      · replace e := ky_ifT c3 e
        refine v_tableIn (off := 37) (tgt := 38) (i := 1) rfl (by rw [c3]; decide) (by rw [c3]; decide) (by rw [c3]; rfl) (by decide) ?_
        refine v_iload_n (i := 8) (j := 0) rfl rfl (?_ : ky_V _ _ _ 39 _ _ _ _)
        refine cl_X5_18 (As := [.int p0]) rfl (i := 9) rfl rfl rfl (Nat.le_of_ble_eq_true rfl) (k_X5_thin p0 ⟨_, rfl, (?_ : ky_V _ _ _ 42 _ [.int ((po_thin p0))] _ _)⟩)
        refine v_iret (v := (po_thin p0)) (ty := .int) (i := 10) rfl rfl rfl ?_
        obtain ⟨rfl, rfl⟩ := ky_leaf e
        exact hr _ hm fr
      · replace e := ky_ifF c3 e
        refine v_tableOut (tgt := 43) (i := 1) rfl (ky_swO (fun z h1 h2 => ?_)) (by decide) ?_
        · intro hz
          have h3 : z = 0 ∨ z = 1 ∨ z = 2 := by omega
          rcases h3 with h3 | h3 | h3 <;> subst h3
          · exact c1 (Int32.toInt_inj.mp (hz.trans (by decide)))
          · exact c2 (Int32.toInt_inj.mp (hz.trans (by decide)))
          · exact c3 (Int32.toInt_inj.mp (hz.trans (by decide)))
        · refine v_iload_n (i := 11) (j := 0) rfl rfl (?_ : ky_V _ _ _ 44 _ _ _ _)
          refine cl_X5_21 (As := [.int p0]) rfl (i := 12) rfl rfl rfl (Nat.le_of_ble_eq_true rfl) (k_X5_lying p0 ⟨_, rfl, (?_ : ky_V _ _ _ 47 _ [.int ((po_lying p0))] _ _)⟩)
          refine v_iret (v := (po_lying p0)) (ty := .int) (i := 13) rfl rfl rfl ?_
          obtain ⟨rfl, rfl⟩ := ky_leaf e
          exact hr _ hm fr

def x5_pullsOut (N : Nat)  (s : sk_S) (p0 : Int32) (p1 : Int32) : Option (sk_S × Int32) := (if (po_isOut p0) = 0 then (ky_let (po_lift p0 p1) (fun x2 => (ky_let (mt_max (po_depth0 p0) (po_depth1 p0)) (fun x3 => (if (1 : Int32) ≤ x2 then (if ¬ x2 = 0 then (some (s, (((x3 + x2) - 1) / x2))) else none) else (some (s, (-1)))))))) else (some (s, 0)))
set_option maxRecDepth 20000 in
set_option maxHeartbeats 4000000 in
theorem k_X5_pullsOut {G : ky_GW} {d : Nat} {h : ky_HP} {Q : ky_RS → ky_HP → Prop} {s s9 : sk_S} {r9 : Int32} {p0 : Int32} {p1 : Int32} (N : Nat) (hG : ky_OK G)   (hm : sk_hp G s h)  (e : x5_pullsOut N  s p0 p1 = some (s9, r9)) (hr : ∀ h1, sk_hp G s9 h1 → sk_fr none s h s9 h1 → Q (.inl (some (.int r9))) h1) : ky_Call G (d + 2) M_X5_pullsOut [.int p0, .int p1] h Q := by
  refine ky_ofV (by decide +kernel) rfl ok_X5_pullsOut (Nat.le_of_ble_eq_true rfl) ?_
  have fr : sk_fr none s h s h := sk_fr.rf
  unfold x5_pullsOut at e
  refine (?_ : ky_V _ _ _ 0 [(0, .int p0), (1, .int p1)] [] _ _)
  refine v_iload_n (i := 0) (j := 0) rfl rfl (?_ : ky_V _ _ _ 1 _ _ _ _)
  refine cl_X5_44 (As := [.int p0]) rfl (i := 1) rfl rfl rfl (Nat.le_of_ble_eq_true rfl) (k_X5_isOut p0 ⟨_, rfl, (?_ : ky_V _ _ _ 4 _ [.int ((po_isOut p0))] _ _)⟩)
  refine v_if_eq (tgt := 9) (i := 2) rfl (by decide) (fun c1 => ?_) (fun c1 => ?_)
  · replace e := ky_ifT c1 e
    refine v_iload_n (i := 5) (j := 0) rfl rfl (?_ : ky_V _ _ _ 10 _ _ _ _)
    refine v_iload_n (i := 6) (j := 1) rfl rfl (?_ : ky_V _ _ _ 11 _ _ _ _)
    refine cl_X5_41 (As := [.int p0, .int p1]) rfl (i := 7) rfl rfl rfl (Nat.le_of_ble_eq_true rfl) (k_X5_lift p0 p1 ⟨_, rfl, (?_ : ky_V _ _ _ 14 _ [.int ((po_lift p0 p1))] _ _)⟩)
    refine v_topi (fun x2 ex2 => ?_)
    replace e := ky_letE ex2 e
    refine v_istore_n (L' := [(0, .int p0), (1, .int p1), (2, .int x2)]) [1, 2, 0] (i := 8) rfl (Nat.le_of_ble_eq_true rfl) rfl (?_ : ky_V _ _ _ 15 _ _ _ _)
    refine v_iload_n (i := 9) (j := 0) rfl rfl (?_ : ky_V _ _ _ 16 _ _ _ _)
    refine cl_X5_9 (As := [.int p0]) rfl (i := 10) rfl rfl rfl (Nat.le_of_ble_eq_true rfl) (k_X5_depth0 p0 ⟨_, rfl, (?_ : ky_V _ _ _ 19 _ [.int ((po_depth0 p0))] _ _)⟩)
    refine v_iload_n (i := 11) (j := 0) rfl rfl (?_ : ky_V _ _ _ 20 _ _ _ _)
    refine cl_X5_15 (As := [.int p0]) rfl (i := 12) rfl rfl rfl (Nat.le_of_ble_eq_true rfl) (k_X5_depth1 p0 ⟨_, rfl, (?_ : ky_V _ _ _ 23 _ [.int ((po_depth1 p0)), .int ((po_depth0 p0))] _ _)⟩)
    refine cl_X5_38 rfl (i := 13) rfl (Nat.le_of_ble_eq_true rfl) (?_ : ky_V _ _ _ 26 _ _ _ _)
    refine v_topi (fun x3 ex3 => ?_)
    replace e := ky_letE ex3 e
    refine v_istore_n (L' := [(0, .int p0), (1, .int p1), (2, .int x2), (3, .int x3)]) [1, 2, 3, 0] (i := 14) rfl (Nat.le_of_ble_eq_true rfl) rfl (?_ : ky_V _ _ _ 27 _ _ _ _)
    refine v_iload_n (i := 15) (j := 2) rfl rfl (?_ : ky_V _ _ _ 28 _ _ _ _)
    refine v_iconst (v := 1) (i := 16) rfl (by decide) (?_ : ky_V _ _ _ 29 _ _ _ _)
    refine v_icmp_ge (tgt := 36) (i := 17) rfl (by decide) (fun c4 => ?_) (fun c4 => ?_)
    · replace e := ky_ifT c4 e
      refine v_iload_n (i := 20) (j := 3) rfl rfl (?_ : ky_V _ _ _ 37 _ _ _ _)
      refine v_iload_n (i := 21) (j := 2) rfl rfl (?_ : ky_V _ _ _ 38 _ _ _ _)
      refine v_iadd (i := 22) rfl (?_ : ky_V _ _ _ 39 _ _ _ _)
      refine v_iconst (v := 1) (i := 23) rfl (by decide) (?_ : ky_V _ _ _ 40 _ _ _ _)
      refine v_isub (i := 24) rfl (?_ : ky_V _ _ _ 41 _ _ _ _)
      refine v_iload_n (i := 25) (j := 2) rfl rfl (?_ : ky_V _ _ _ 42 _ _ _ _)
      obtain ⟨z5, e⟩ := ky_chkE e
      refine v_idiv (i := 26) rfl z5 (?_ : ky_V _ _ _ 43 _ _ _ _)
      refine v_iret (v := (((x3 + x2) - 1) / x2)) (ty := .int) (i := 27) rfl rfl rfl ?_
      obtain ⟨rfl, rfl⟩ := ky_leaf e
      exact hr _ hm fr
    · replace e := ky_ifF c4 e
      refine v_iconst (v := (-1)) (i := 18) rfl (by decide) (?_ : ky_V _ _ _ 33 _ _ _ _)
      refine v_goto (tgt := 43) (i := 19) rfl (by decide) (?_ : ky_V _ _ _ 43 _ _ _ _)
      refine v_iret (v := (-1)) (ty := .int) (i := 27) rfl rfl rfl ?_
      obtain ⟨rfl, rfl⟩ := ky_leaf e
      exact hr _ hm fr
  · replace e := ky_ifF c1 e
    refine v_iconst (v := 0) (i := 3) rfl (by decide) (?_ : ky_V _ _ _ 8 _ _ _ _)
    refine v_iret (v := 0) (ty := .int) (i := 4) rfl rfl rfl ?_
    obtain ⟨rfl, rfl⟩ := ky_leaf e
    exact hr _ hm fr

def x4_init (N : Nat)  (s : sk_S) (a : Nat) : Option (sk_S × Int32) := (if sk_K s a = (5, 0) then (ky_let (sk_n s) (fun a1 => (ky_let (sk_nw s 21 12 12) (fun q3 => (ky_let (sk_wr q3 a 0 (some a1)) (fun q5 => (ky_let (sk_n q5) (fun a6 => (ky_let (sk_nw q5 21 12 12) (fun q8 => (ky_let (sk_wr q8 a 1 (some a6)) (fun q10 => (ky_let (sk_n q10) (fun a11 => (ky_let (sk_nw q10 21 13 13) (fun q13 => (ky_let (sk_wr q13 a 2 (some a11)) (fun q15 => (ky_let (sk_n q15) (fun a16 => (ky_let (sk_nw q15 21 400 400) (fun q18 => (ky_let (sk_wr q18 a 3 (some a16)) (fun q20 => (ky_let (sk_n q20) (fun a21 => (ky_let (sk_nw q20 21 7 7) (fun q23 => (ky_let (sk_wr q23 a 4 (some a21)) (fun q25 => (some (q25, 0)))))))))))))))))))))))))))))))) else none)
set_option maxRecDepth 20000 in
set_option maxHeartbeats 4000000 in
theorem k_X4_init {G : ky_GW} {d : Nat} {h : ky_HP} {Q : ky_RS → ky_HP → Prop} {s s9 : sk_S} {r9 : Int32} {a : Nat} (N : Nat) (hG : ky_OK G)   (hm : sk_hp G s h)  (e : x4_init N  s a = some (s9, r9)) (hr : ∀ h1, sk_hp G s9 h1 → sk_fr (some a) s h s9 h1 → Q (.inl none) h1) : ky_Call G (d + 1) M_X4_init [.ref a] h Q := by
  refine ky_ofV (by decide +kernel) rfl ok_X4_init (Nat.le_of_ble_eq_true rfl) ?_
  have fr : sk_fr (some a) s h s h := sk_fr.rf
  unfold x4_init at e
  refine (?_ : ky_V _ _ _ 0 [(0, .ref a)] [] _ _)
  obtain ⟨z0, e⟩ := ky_chkE e
  refine v_aload_n (i := 0) (j := 0) rfl rfl (?_ : ky_V _ _ _ 1 _ _ _ _)
  refine v_objInit (by rw [show M_X4_init.1.cls = "WaistSand$LawReader" from rfl]; exact ky_t1 (i := 93) rfl rfl) (ky_t1 (i := 36) rfl rfl) (ky_t1 (i := 37) rfl rfl) (i := 1) rfl (Nat.le_of_ble_eq_true rfl) (?_ : ky_V _ _ _ 4 _ _ _ _)
  refine v_aload_n (i := 2) (j := 0) rfl rfl (?_ : ky_V _ _ _ 5 _ _ _ _)
  refine v_bipush (v := 12) (i := 3) rfl (by decide) (?_ : ky_V _ _ _ 7 _ _ _ _)
  refine v_newi (N := 12) (ky_t1 (i := 87) rfl rfl) (i := 4) rfl (by decide) rfl (by decide) ?_
  refine sk_snw hm fr 21 12 rfl (fun a1 h2 ea1 hmh2 frh2 => ?_)
  replace e := ky_letE ea1 e
  obtain ⟨q3, eq3⟩ : ∃ z, z = (sk_nw s 21 12 12) := ⟨_, rfl⟩
  rw [← eq3] at hmh2 frh2
  replace e := ky_letE eq3 e
  refine (?_ : ky_V _ _ _ 9 _ (.ref a1 :: _) _ _)
  refine pf_X4_13 rfl rfl (i := 5) rfl (oc_X4 hmh2 (frh2.K (k := 4) z0)) (Nat.le_of_ble_eq_true rfl) rfl rfl ?_
  refine sk_str (kd := 4) (n := 0) hmh2 frh2 (frh2.K (k := 4) z0) 0 (some a1) (Or.inr rfl) (fun h4 hmh4 frh4 => ?_)
  obtain ⟨q5, eq5⟩ : ∃ z, z = (sk_wr q3 a 0 (some a1)) := ⟨_, rfl⟩
  rw [← eq5] at hmh4 frh4
  replace e := ky_letE eq5 e
  refine (?_ : ky_V _ _ _ 12 _ _ _ _)
  refine v_aload_n (i := 6) (j := 0) rfl rfl (?_ : ky_V _ _ _ 13 _ _ _ _)
  refine v_bipush (v := 12) (i := 7) rfl (by decide) (?_ : ky_V _ _ _ 15 _ _ _ _)
  refine v_newi (N := 12) (ky_t1 (i := 87) rfl rfl) (i := 8) rfl (by decide) rfl (by decide) ?_
  refine sk_snw hmh4 frh4 21 12 rfl (fun a6 h7 ea6 hmh7 frh7 => ?_)
  replace e := ky_letE ea6 e
  obtain ⟨q8, eq8⟩ : ∃ z, z = (sk_nw q5 21 12 12) := ⟨_, rfl⟩
  rw [← eq8] at hmh7 frh7
  replace e := ky_letE eq8 e
  refine (?_ : ky_V _ _ _ 17 _ (.ref a6 :: _) _ _)
  refine pf_X4_17 rfl rfl (i := 9) rfl (oc_X4 hmh7 (frh7.K (k := 4) z0)) (Nat.le_of_ble_eq_true rfl) rfl rfl ?_
  refine sk_str (kd := 4) (n := 0) hmh7 frh7 (frh7.K (k := 4) z0) 1 (some a6) (Or.inr rfl) (fun h9 hmh9 frh9 => ?_)
  obtain ⟨q10, eq10⟩ : ∃ z, z = (sk_wr q8 a 1 (some a6)) := ⟨_, rfl⟩
  rw [← eq10] at hmh9 frh9
  replace e := ky_letE eq10 e
  refine (?_ : ky_V _ _ _ 20 _ _ _ _)
  refine v_aload_n (i := 10) (j := 0) rfl rfl (?_ : ky_V _ _ _ 21 _ _ _ _)
  refine v_bipush (v := 13) (i := 11) rfl (by decide) (?_ : ky_V _ _ _ 23 _ _ _ _)
  refine v_newi (N := 13) (ky_t1 (i := 87) rfl rfl) (i := 12) rfl (by decide) rfl (by decide) ?_
  refine sk_snw hmh9 frh9 21 13 rfl (fun a11 h12 ea11 hmh12 frh12 => ?_)
  replace e := ky_letE ea11 e
  obtain ⟨q13, eq13⟩ : ∃ z, z = (sk_nw q10 21 13 13) := ⟨_, rfl⟩
  rw [← eq13] at hmh12 frh12
  replace e := ky_letE eq13 e
  refine (?_ : ky_V _ _ _ 25 _ (.ref a11 :: _) _ _)
  refine pf_X4_20 rfl rfl (i := 13) rfl (oc_X4 hmh12 (frh12.K (k := 4) z0)) (Nat.le_of_ble_eq_true rfl) rfl rfl ?_
  refine sk_str (kd := 4) (n := 0) hmh12 frh12 (frh12.K (k := 4) z0) 2 (some a11) (Or.inr rfl) (fun h14 hmh14 frh14 => ?_)
  obtain ⟨q15, eq15⟩ : ∃ z, z = (sk_wr q13 a 2 (some a11)) := ⟨_, rfl⟩
  rw [← eq15] at hmh14 frh14
  replace e := ky_letE eq15 e
  refine (?_ : ky_V _ _ _ 28 _ _ _ _)
  refine v_aload_n (i := 14) (j := 0) rfl rfl (?_ : ky_V _ _ _ 29 _ _ _ _)
  refine v_sipush (v := 400) (i := 15) rfl (by decide) (?_ : ky_V _ _ _ 32 _ _ _ _)
  refine v_newi (N := 400) (ky_t1 (i := 87) rfl rfl) (i := 16) rfl (by decide) rfl (by decide) ?_
  refine sk_snw hmh14 frh14 21 400 rfl (fun a16 h17 ea16 hmh17 frh17 => ?_)
  replace e := ky_letE ea16 e
  obtain ⟨q18, eq18⟩ : ∃ z, z = (sk_nw q15 21 400 400) := ⟨_, rfl⟩
  rw [← eq18] at hmh17 frh17
  replace e := ky_letE eq18 e
  refine (?_ : ky_V _ _ _ 34 _ (.ref a16 :: _) _ _)
  refine pf_X4_25 rfl rfl (i := 17) rfl (oc_X4 hmh17 (frh17.K (k := 4) z0)) (Nat.le_of_ble_eq_true rfl) rfl rfl ?_
  refine sk_str (kd := 4) (n := 0) hmh17 frh17 (frh17.K (k := 4) z0) 3 (some a16) (Or.inr rfl) (fun h19 hmh19 frh19 => ?_)
  obtain ⟨q20, eq20⟩ : ∃ z, z = (sk_wr q18 a 3 (some a16)) := ⟨_, rfl⟩
  rw [← eq20] at hmh19 frh19
  replace e := ky_letE eq20 e
  refine (?_ : ky_V _ _ _ 37 _ _ _ _)
  refine v_aload_n (i := 18) (j := 0) rfl rfl (?_ : ky_V _ _ _ 38 _ _ _ _)
  refine v_bipush (v := 7) (i := 19) rfl (by decide) (?_ : ky_V _ _ _ 40 _ _ _ _)
  refine v_newi (N := 7) (ky_t1 (i := 87) rfl rfl) (i := 20) rfl (by decide) rfl (by decide) ?_
  refine sk_snw hmh19 frh19 21 7 rfl (fun a21 h22 ea21 hmh22 frh22 => ?_)
  replace e := ky_letE ea21 e
  obtain ⟨q23, eq23⟩ : ∃ z, z = (sk_nw q20 21 7 7) := ⟨_, rfl⟩
  rw [← eq23] at hmh22 frh22
  replace e := ky_letE eq23 e
  refine (?_ : ky_V _ _ _ 42 _ (.ref a21 :: _) _ _)
  refine pf_X4_28 rfl rfl (i := 21) rfl (oc_X4 hmh22 (frh22.K (k := 4) z0)) (Nat.le_of_ble_eq_true rfl) rfl rfl ?_
  refine sk_str (kd := 4) (n := 0) hmh22 frh22 (frh22.K (k := 4) z0) 4 (some a21) (Or.inr rfl) (fun h24 hmh24 frh24 => ?_)
  obtain ⟨q25, eq25⟩ : ∃ z, z = (sk_wr q23 a 4 (some a21)) := ⟨_, rfl⟩
  rw [← eq25] at hmh24 frh24
  replace e := ky_letE eq25 e
  refine (?_ : ky_V _ _ _ 45 _ _ _ _)
  refine v_vret (i := 22) rfl rfl ?_
  obtain ⟨rfl, rfl⟩ := ky_leaf e
  exact hr _ hmh24 frh24

def x4_made (N : Nat)  (s : sk_S) (a : Nat) : Option (sk_S × Nat) := (if lay_X4 (sk_K s) (sk_r s) a = true then (ky_let (sk_n s) (fun a1 => (ky_let (sk_nw s 4 0 10) (fun q3 => ((j7_copyOf_59c91 N q3 (a + 1) (sk_c q3 a 5)).bind (fun zz => (fun q5 l6 => ((j7_copyOf_59c91 N q5 (a + 2) (sk_c q5 a 5)).bind (fun zz => (fun q9 l10 => ((j7_copyOf_59c91 N q9 (a + 3) ((sk_c q9 a 5) + 1)).bind (fun zz => (fun q13 l14 => ((j7_copyOf_59c91 N q13 (a + 4) (sk_c q13 a 6)).bind (fun zz => (fun q17 l18 => ((x3_init N q17 a1 l6 l10 l14 l18).bind (fun zz => (fun q21 x22 => (some (q21, a1))) zz.1 zz.2))) zz.1 zz.2))) zz.1 zz.2))) zz.1 zz.2))) zz.1 zz.2)))))) else none)
set_option maxRecDepth 20000 in
set_option maxHeartbeats 4000000 in
theorem k_X4_made {G : ky_GW} {d : Nat} {h : ky_HP} {Q : ky_RS → ky_HP → Prop} {s s9 : sk_S} {r9 : Nat} {a : Nat} (N : Nat) (hG : ky_OK G)   (hm : sk_hp G s h)  (e : x4_made N  s a = some (s9, r9)) (hr : ∀ h1, sk_hp G s9 h1 → sk_fr none s h s9 h1 → Q (.inl (some (.ref r9))) h1) : ky_Call G (d + 2) M_X4_made [.ref a] h Q := by
  refine ky_ofV (by decide +kernel) rfl ok_X4_made (Nat.le_of_ble_eq_true rfl) ?_
  have fr : sk_fr none s h s h := sk_fr.rf
  unfold x4_made at e
  refine (?_ : ky_V _ _ _ 0 [(0, .ref a)] [] _ _)
  obtain ⟨za, e⟩ := ky_chkE e
  refine nw_X3 (by rw [show M_X4_made.1.cls = "WaistSand$LawReader" from rfl]; exact ky_t4 (i := 230) rfl rfl) (i := 0) rfl ?_
  refine sk_snw hm fr 4 0 rfl (fun a1 h2 ea1 hmh2 frh2 => ?_)
  replace e := ky_letE ea1 e
  have hya1 : sk_n s ≤ a1 := by rw [ea1]; exact fr.2.2
  obtain ⟨q3, eq3⟩ : ∃ z, z = (sk_nw s 4 0 10) := ⟨_, rfl⟩
  rw [← eq3] at hmh2 frh2
  replace e := ky_letE eq3 e
  refine (?_ : ky_V _ _ _ 3 _ (.ref a1 :: _) _ _)
  refine v_dup (i := 1) rfl rfl (?_ : ky_V _ _ _ 4 _ _ _ _)
  refine v_aload_n (i := 2) (j := 0) rfl rfl (?_ : ky_V _ _ _ 5 _ _ _ _)
  refine gf_X4_13 rfl (i := 3) rfl (oc_X4 hmh2 (ly_X4_c (lt_X4 frh2 za))) (sk_rf (ly_X4_r0 (lt_X4 frh2 za))) (?_ : ky_V _ _ _ 8 _ (.ref (a + 1) :: _) _ _)
  refine v_aload_n (i := 4) (j := 0) rfl rfl (?_ : ky_V _ _ _ 9 _ _ _ _)
  refine gf_X4_31 rfl (i := 5) rfl (oc_X4 hmh2 (ly_X4_c (lt_X4 frh2 za))) rfl (?_ : ky_V _ _ _ 12 _ _ _ _)
  obtain ⟨⟨q5, l6⟩, g7, e⟩ := Option.bind_eq_some_iff.mp e
  refine cl_X4_35 (As := [.ref ((a + 1)), .int ((sk_c q3 a 5))]) rfl (i := 6) rfl rfl rfl (Nat.le_of_ble_eq_true rfl) (k_J7_copyOf_59c91 N hG hmh2 g7 (fun h4 hmh4 frh4 => ⟨_, rfl, (?_ : ky_V _ _ _ 15 _ [.ref l6, .ref a1, .ref a1] _ _)⟩))
  have frh4 := frh2.tr frh4
  refine v_aload_n (i := 7) (j := 0) rfl rfl (?_ : ky_V _ _ _ 16 _ _ _ _)
  refine gf_X4_17 rfl (i := 8) rfl (oc_X4 hmh4 (ly_X4_c (lt_X4 frh4 za))) (sk_rf (ly_X4_r1 (lt_X4 frh4 za))) (?_ : ky_V _ _ _ 19 _ (.ref (a + 2) :: _) _ _)
  refine v_aload_n (i := 9) (j := 0) rfl rfl (?_ : ky_V _ _ _ 20 _ _ _ _)
  refine gf_X4_31 rfl (i := 10) rfl (oc_X4 hmh4 (ly_X4_c (lt_X4 frh4 za))) rfl (?_ : ky_V _ _ _ 23 _ _ _ _)
  obtain ⟨⟨q9, l10⟩, g11, e⟩ := Option.bind_eq_some_iff.mp e
  refine cl_X4_35 (As := [.ref ((a + 2)), .int ((sk_c q5 a 5))]) rfl (i := 11) rfl rfl rfl (Nat.le_of_ble_eq_true rfl) (k_J7_copyOf_59c91 N hG hmh4 g11 (fun h8 hmh8 frh8 => ⟨_, rfl, (?_ : ky_V _ _ _ 26 _ [.ref l10, .ref l6, .ref a1, .ref a1] _ _)⟩))
  have frh8 := frh4.tr frh8
  refine v_aload_n (i := 12) (j := 0) rfl rfl (?_ : ky_V _ _ _ 27 _ _ _ _)
  refine gf_X4_20 rfl (i := 13) rfl (oc_X4 hmh8 (ly_X4_c (lt_X4 frh8 za))) (sk_rf (ly_X4_r2 (lt_X4 frh8 za))) (?_ : ky_V _ _ _ 30 _ (.ref (a + 3) :: _) _ _)
  refine v_aload_n (i := 14) (j := 0) rfl rfl (?_ : ky_V _ _ _ 31 _ _ _ _)
  refine gf_X4_31 rfl (i := 15) rfl (oc_X4 hmh8 (ly_X4_c (lt_X4 frh8 za))) rfl (?_ : ky_V _ _ _ 34 _ _ _ _)
  refine v_iconst (v := 1) (i := 16) rfl (by decide) (?_ : ky_V _ _ _ 35 _ _ _ _)
  refine v_iadd (i := 17) rfl (?_ : ky_V _ _ _ 36 _ _ _ _)
  obtain ⟨⟨q13, l14⟩, g15, e⟩ := Option.bind_eq_some_iff.mp e
  refine cl_X4_35 (As := [.ref ((a + 3)), .int (((sk_c q9 a 5) + 1))]) rfl (i := 18) rfl rfl rfl (Nat.le_of_ble_eq_true rfl) (k_J7_copyOf_59c91 N hG hmh8 g15 (fun h12 hmh12 frh12 => ⟨_, rfl, (?_ : ky_V _ _ _ 39 _ [.ref l14, .ref l10, .ref l6, .ref a1, .ref a1] _ _)⟩))
  have frh12 := frh8.tr frh12
  refine v_aload_n (i := 19) (j := 0) rfl rfl (?_ : ky_V _ _ _ 40 _ _ _ _)
  refine gf_X4_25 rfl (i := 20) rfl (oc_X4 hmh12 (ly_X4_c (lt_X4 frh12 za))) (sk_rf (ly_X4_r3 (lt_X4 frh12 za))) (?_ : ky_V _ _ _ 43 _ (.ref (a + 4) :: _) _ _)
  refine v_aload_n (i := 21) (j := 0) rfl rfl (?_ : ky_V _ _ _ 44 _ _ _ _)
  refine gf_X4_41 rfl (i := 22) rfl (oc_X4 hmh12 (ly_X4_c (lt_X4 frh12 za))) rfl (?_ : ky_V _ _ _ 47 _ _ _ _)
  obtain ⟨⟨q17, l18⟩, g19, e⟩ := Option.bind_eq_some_iff.mp e
  refine cl_X4_35 (As := [.ref ((a + 4)), .int ((sk_c q13 a 6))]) rfl (i := 23) rfl rfl rfl (Nat.le_of_ble_eq_true rfl) (k_J7_copyOf_59c91 N hG hmh12 g19 (fun h16 hmh16 frh16 => ⟨_, rfl, (?_ : ky_V _ _ _ 50 _ [.ref l18, .ref l14, .ref l10, .ref l6, .ref a1, .ref a1] _ _)⟩))
  have frh16 := frh12.tr frh16
  obtain ⟨⟨q21, x22⟩, g23, e⟩ := Option.bind_eq_some_iff.mp e
  refine cl_X4_44 (As := [.ref l6, .ref l10, .ref l14, .ref l18]) rfl (i := 24) rfl rfl rfl (Nat.le_of_ble_eq_true rfl) (k_X3_init N hG hmh16 g23 (fun h20 hmh20 frh20 => ⟨_, rfl, (?_ : ky_V _ _ _ 53 _ [.ref a1] _ _)⟩))
  have frh20 := frh16.ti frh20 hm hya1
  refine v_aret (v := .ref a1) (i := 25) rfl rfl (by first | exact Or.inl ⟨_, rfl⟩ | exact Or.inr ⟨_, rfl⟩) (by first | exact Or.inl rfl | exact Or.inr ⟨_, rfl⟩) ?_
  obtain ⟨rfl, rfl⟩ := ky_leaf e
  exact hr _ hmh20 frh20

def x4_put (N : Nat)  (s : sk_S) (a : Nat) (p1 : Int32) : Option (sk_S × Int32) := (if lay_X4 (sk_K s) (sk_r s) a = true then (if (sk_c s a 6) < (400 : Int32) then (if ky_inB (sk_c s a 6) 400 = true then (ky_let (sk_wc s (a + 4) (Int32.toNatClampNeg (sk_c s a 6)) p1) (fun q4 => (ky_let ((sk_c q4 a 6) + 1) (fun x5 => (ky_let (sk_wc q4 a 6 x5) (fun q7 => (some (q7, 1)))))))) else none) else (some (s, 0))) else none)
set_option maxRecDepth 20000 in
set_option maxHeartbeats 4000000 in
theorem k_X4_put {G : ky_GW} {d : Nat} {h : ky_HP} {Q : ky_RS → ky_HP → Prop} {s s9 : sk_S} {r9 : Int32} {a : Nat} {p1 : Int32} (N : Nat) (hG : ky_OK G)   (hm : sk_hp G s h)  (e : x4_put N  s a p1 = some (s9, r9)) (hr : ∀ h1, sk_hp G s9 h1 → sk_fr none s h s9 h1 → Q (.inl (some (.int r9))) h1) : ky_Call G d M_X4_put [.ref a, .int p1] h Q := by
  refine ky_ofV (by decide +kernel) rfl ok_X4_put (Nat.le_of_ble_eq_true rfl) ?_
  have fr : sk_fr none s h s h := sk_fr.rf
  unfold x4_put at e
  refine (?_ : ky_V _ _ _ 0 [(0, .ref a), (1, .int p1)] [] _ _)
  obtain ⟨za, e⟩ := ky_chkE e
  refine v_aload_n (i := 0) (j := 0) rfl rfl (?_ : ky_V _ _ _ 1 _ _ _ _)
  refine gf_X4_41 rfl (i := 1) rfl (oc_X4 hm (ly_X4_c za)) rfl (?_ : ky_V _ _ _ 4 _ _ _ _)
  refine v_aload_n (i := 2) (j := 0) rfl rfl (?_ : ky_V _ _ _ 5 _ _ _ _)
  refine gf_X4_25 rfl (i := 3) rfl (oc_X4 hm (ly_X4_c za)) (sk_rf (ly_X4_r3 za)) (?_ : ky_V _ _ _ 8 _ (.ref (a + 4) :: _) _ _)
  refine v_alen (v := 400) 1 (by decide) (i := 4) rfl (oa_21 hm (ly_X4_k3 za)) rfl (?_ : ky_V _ _ _ 9 _ _ _ _)
  refine v_icmp_lt (tgt := 14) (i := 5) rfl (by decide) (fun c1 => ?_) (fun c1 => ?_)
  · replace e := ky_ifT c1 e
    refine v_aload_n (i := 8) (j := 0) rfl rfl (?_ : ky_V _ _ _ 15 _ _ _ _)
    refine gf_X4_25 rfl (i := 9) rfl (oc_X4 hm (ly_X4_c za)) (sk_rf (ly_X4_r3 za)) (?_ : ky_V _ _ _ 18 _ (.ref (a + 4) :: _) _ _)
    refine v_aload_n (i := 10) (j := 0) rfl rfl (?_ : ky_V _ _ _ 19 _ _ _ _)
    refine gf_X4_41 rfl (i := 11) rfl (oc_X4 hm (ly_X4_c za)) rfl (?_ : ky_V _ _ _ 22 _ _ _ _)
    refine v_iload_n (i := 12) (j := 1) rfl rfl (?_ : ky_V _ _ _ 23 _ _ _ _)
    obtain ⟨z2, e⟩ := ky_chkE e
    refine v_iast (i := 13) rfl (oa_21 hm (ly_X4_k3 za)) (ky_inb z2) ?_
    refine sk_stc (kd := 20) hm fr (ly_X4_k3 za) (Int32.toNatClampNeg (sk_c s a 6)) p1 (fun h3 hmh3 frh3 => ?_)
    obtain ⟨q4, eq4⟩ : ∃ z, z = (sk_wc s (a + 4) (Int32.toNatClampNeg (sk_c s a 6)) p1) := ⟨_, rfl⟩
    rw [← eq4] at hmh3 frh3
    replace e := ky_letE eq4 e
    refine (?_ : ky_V _ _ _ 24 _ _ _ _)
    refine v_aload_n (i := 14) (j := 0) rfl rfl (?_ : ky_V _ _ _ 25 _ _ _ _)
    refine v_dup (i := 15) rfl rfl (?_ : ky_V _ _ _ 26 _ _ _ _)
    refine gf_X4_41 rfl (i := 16) rfl (oc_X4 hmh3 (ly_X4_c (lt_X4 frh3 za))) rfl (?_ : ky_V _ _ _ 29 _ _ _ _)
    refine v_iconst (v := 1) (i := 17) rfl (by decide) (?_ : ky_V _ _ _ 30 _ _ _ _)
    refine v_iadd (i := 18) rfl (?_ : ky_V _ _ _ 31 _ _ _ _)
    refine v_topi (fun x5 ex5 => ?_)
    replace e := ky_letE ex5 e
    refine pf_X4_41 rfl (i := 19) rfl (oc_X4 hmh3 (ly_X4_c (lt_X4 frh3 za))) (Nat.le_of_ble_eq_true rfl) rfl rfl ?_
    refine sk_stc (kd := 4) (n := 0) hmh3 frh3 (ly_X4_c (lt_X4 frh3 za)) 6 x5 (fun h6 hmh6 frh6 => ?_)
    obtain ⟨q7, eq7⟩ : ∃ z, z = (sk_wc q4 a 6 x5) := ⟨_, rfl⟩
    rw [← eq7] at hmh6 frh6
    replace e := ky_letE eq7 e
    refine (?_ : ky_V _ _ _ 34 _ _ _ _)
    refine v_iconst (v := 1) (i := 20) rfl (by decide) (?_ : ky_V _ _ _ 35 _ _ _ _)
    refine v_iret (v := 1) (ty := .boolean) (i := 21) rfl rfl (by decide) ?_
    obtain ⟨rfl, rfl⟩ := ky_leaf e
    exact hr _ hmh6 frh6
  · replace e := ky_ifF c1 e
    refine v_iconst (v := 0) (i := 6) rfl (by decide) (?_ : ky_V _ _ _ 13 _ _ _ _)
    refine v_iret (v := 0) (ty := .boolean) (i := 7) rfl rfl (by decide) ?_
    obtain ⟨rfl, rfl⟩ := ky_leaf e
    exact hr _ hm fr

def x4_putComparison_L43 (N : Nat)  (a : Nat) (k : sk_S → Int32 → Int32 → Int32 → Option (sk_S × Int32)) : Nat → sk_S → Int32 → Int32 → Int32 → Option (sk_S × Int32)
  | 0, _, _, _, _ => none
  | n + 1, c, p1, p2, p3 => (if (6 : Int32) ≤ p3 then (k c p1 p2 p3) else (if ky_inB p3 7 = true then (if (sk_c c (a + 5) (Int32.toNatClampNeg p3)) = 0 then (ky_let (p3 + 1) (fun x4 => (x4_putComparison_L43 N a k n c p1 p2 x4))) else ((x4_put N c a p3).bind (fun zz => (fun q6 x7 => (if x7 = 0 then (some (q6, 0)) else ((x4_put N q6 a (p1 * (sk_c q6 (a + 5) (Int32.toNatClampNeg p3)))).bind (fun zz => (fun q11 x12 => (if x12 = 0 then (some (q11, 0)) else (if ky_inB p2 400 = true then (ky_let ((sk_c q11 (a + 4) (Int32.toNatClampNeg p2)) + 1) (fun x16 => (ky_let (sk_wc q11 (a + 4) (Int32.toNatClampNeg p2) x16) (fun q18 => (ky_let (p3 + 1) (fun x19 => (x4_putComparison_L43 N a k n q18 p1 p2 x19))))))) else none))) zz.1 zz.2)))) zz.1 zz.2))) else none))
set_option maxRecDepth 20000 in
set_option maxHeartbeats 4000000 in
theorem lv_X4_putComparison_43 {G : ky_GW} {d : Nat} {s s9 : sk_S} {h0 : ky_HP} {Q : ky_RS → ky_HP → Prop} {r9 : Int32} (N : Nat) (hG : ky_OK G)  (a : Nat)   (za : lay_X4 (sk_K s) (sk_r s) a = true) (hm : sk_hp G s h0) (k : sk_S → Int32 → Int32 → Int32 → Option (sk_S × Int32)) (hr : ∀ h1, sk_hp G s9 h1 → sk_fr none s h0 s9 h1 → Q (.inl (some (.int r9))) h1)
    (hk : ∀ (h : ky_HP) (c : sk_S) (p1 : Int32) (p2 : Int32) (p3 : Int32), sk_hp G c h → sk_fr none s h0 c h → k c p1 p2 p3 = some (s9, r9) → ky_V G (d + 1) M_X4_putComparison 99 [(0, .ref a), (1, .int p1), (2, .int p2), (3, .int p3)] [] h Q) :
    ∀ (n : Nat) (h : ky_HP) (c : sk_S) (p1 : Int32) (p2 : Int32) (p3 : Int32), sk_hp G c h → sk_fr none s h0 c h → x4_putComparison_L43 N a k n c p1 p2 p3 = some (s9, r9) → ky_V G (d + 1) M_X4_putComparison 43 [(0, .ref a), (1, .int p1), (2, .int p2), (3, .int p3)] [] h Q := by
  intro n
  induction n with
  | zero => intro h c p1 p2 p3 hm1 fr e; cases e
  | succ n ih =>
    intro h c p1 p2 p3 hm1 fr e
    rw [x4_putComparison_L43] at e
    refine v_iload_n (i := 26) (j := 3) rfl rfl (?_ : ky_V _ _ _ 44 _ _ _ _)
    refine v_bipush (v := 6) (i := 27) rfl (by decide) (?_ : ky_V _ _ _ 46 _ _ _ _)
    refine v_icmp_ge (tgt := 99) (i := 28) rfl (by decide) (fun c1 => ?_) (fun c1 => ?_)
    · replace e := ky_ifT c1 e
      exact hk h c p1 p2 p3 hm1 fr e
    · replace e := ky_ifF c1 e
      refine v_aload_n (i := 29) (j := 0) rfl rfl (?_ : ky_V _ _ _ 50 _ _ _ _)
      refine gf_X4_28 rfl (i := 30) rfl (oc_X4 hm1 (ly_X4_c (lt_X4 fr za))) (sk_rf (ly_X4_r4 (lt_X4 fr za))) (?_ : ky_V _ _ _ 53 _ (.ref (a + 5) :: _) _ _)
      refine v_iload_n (i := 31) (j := 3) rfl rfl (?_ : ky_V _ _ _ 54 _ _ _ _)
      obtain ⟨z2, e⟩ := ky_chkE e
      refine v_iald (i := 32) rfl (oa_21 hm1 (ly_X4_k4 (lt_X4 fr za))) (ky_inb z2) (?_ : ky_V _ _ _ 55 _ (.int (sk_c c (a + 5) (Int32.toNatClampNeg p3)) :: _) _ _)
      refine v_if_eq (tgt := 93) (i := 33) rfl (by decide) (fun c3 => ?_) (fun c3 => ?_)
      · replace e := ky_ifT c3 e
        obtain ⟨x4, ex4⟩ : ∃ z : Int32, z = p3 + 1 := ⟨_, rfl⟩
        replace e := ky_letE ex4 e
        refine v_iinc (v := x4) (j := 3) (L' := [(0, .ref a), (1, .int p1), (2, .int p2), (3, .int x4)]) [1, 2, 3, 0] (i := 57) rfl rfl (by rw [ex4]; rfl) (Nat.le_of_ble_eq_true rfl) rfl (?_ : ky_V _ _ _ 96 _ _ _ _)
        refine v_goto (tgt := 43) (i := 58) rfl (by decide) (?_ : ky_V _ _ _ 43 _ _ _ _)
        exact ih h c p1 p2 x4 hm1 fr e
      · replace e := ky_ifF c3 e
        refine v_aload_n (i := 34) (j := 0) rfl rfl (?_ : ky_V _ _ _ 59 _ _ _ _)
        refine v_iload_n (i := 35) (j := 3) rfl rfl (?_ : ky_V _ _ _ 60 _ _ _ _)
        obtain ⟨⟨q6, x7⟩, g8, e⟩ := Option.bind_eq_some_iff.mp e
        refine cl_X4_90 (As := [.int p3]) rfl (i := 36) rfl (oc_X4 hm1 (ly_X4_c (lt_X4 fr za))) rfl rfl (Nat.le_of_ble_eq_true rfl) (k_X4_put N hG hm1 g8 (fun h5 hmh5 frh5 => ⟨_, rfl, (?_ : ky_V _ _ _ 63 _ [.int x7] _ _)⟩))
        have frh5 := fr.tr frh5
        refine v_if_eq (tgt := 81) (i := 37) rfl (by decide) (fun c9 => ?_) (fun c9 => ?_)
        · replace e := ky_ifT c9 e
          refine v_iconst (v := 0) (i := 47) rfl (by decide) (?_ : ky_V _ _ _ 82 _ _ _ _)
          refine v_iret (v := 0) (ty := .boolean) (i := 48) rfl rfl (by decide) ?_
          obtain ⟨rfl, rfl⟩ := ky_leaf e
          exact hr _ hmh5 frh5
        · replace e := ky_ifF c9 e
          refine v_aload_n (i := 38) (j := 0) rfl rfl (?_ : ky_V _ _ _ 67 _ _ _ _)
          refine v_iload_n (i := 39) (j := 1) rfl rfl (?_ : ky_V _ _ _ 68 _ _ _ _)
          refine v_aload_n (i := 40) (j := 0) rfl rfl (?_ : ky_V _ _ _ 69 _ _ _ _)
          refine gf_X4_28 rfl (i := 41) rfl (oc_X4 hmh5 (ly_X4_c (lt_X4 frh5 za))) (sk_rf (ly_X4_r4 (lt_X4 frh5 za))) (?_ : ky_V _ _ _ 72 _ (.ref (a + 5) :: _) _ _)
          refine v_iload_n (i := 42) (j := 3) rfl rfl (?_ : ky_V _ _ _ 73 _ _ _ _)
          refine v_iald (i := 43) rfl (oa_21 hmh5 (ly_X4_k4 (lt_X4 frh5 za))) (ky_inb z2) (?_ : ky_V _ _ _ 74 _ (.int (sk_c q6 (a + 5) (Int32.toNatClampNeg p3)) :: _) _ _)
          refine v_imul (i := 44) rfl (?_ : ky_V _ _ _ 75 _ _ _ _)
          obtain ⟨⟨q11, x12⟩, g13, e⟩ := Option.bind_eq_some_iff.mp e
          refine cl_X4_90 (As := [.int ((p1 * (sk_c q6 (a + 5) (Int32.toNatClampNeg p3))))]) rfl (i := 45) rfl (oc_X4 hmh5 (ly_X4_c (lt_X4 frh5 za))) rfl rfl (Nat.le_of_ble_eq_true rfl) (k_X4_put N hG hmh5 g13 (fun h10 hmh10 frh10 => ⟨_, rfl, (?_ : ky_V _ _ _ 78 _ [.int x12] _ _)⟩))
          have frh10 := frh5.tr frh10
          refine v_if_ne (tgt := 83) (i := 46) rfl (by decide) (fun c14 => ?_) (fun c14 => ?_)
          · replace e := ky_ifF c14 e
            refine v_aload_n (i := 49) (j := 0) rfl rfl (?_ : ky_V _ _ _ 84 _ _ _ _)
            refine gf_X4_25 rfl (i := 50) rfl (oc_X4 hmh10 (ly_X4_c (lt_X4 frh10 za))) (sk_rf (ly_X4_r3 (lt_X4 frh10 za))) (?_ : ky_V _ _ _ 87 _ (.ref (a + 4) :: _) _ _)
            refine v_iload_n (i := 51) (j := 2) rfl rfl (?_ : ky_V _ _ _ 88 _ _ _ _)
            refine v_dup2 (i := 52) rfl rfl rfl (?_ : ky_V _ _ _ 89 _ _ _ _)
            obtain ⟨z15, e⟩ := ky_chkE e
            refine v_iald (i := 53) rfl (oa_21 hmh10 (ly_X4_k3 (lt_X4 frh10 za))) (ky_inb z15) (?_ : ky_V _ _ _ 90 _ (.int (sk_c q11 (a + 4) (Int32.toNatClampNeg p2)) :: _) _ _)
            refine v_iconst (v := 1) (i := 54) rfl (by decide) (?_ : ky_V _ _ _ 91 _ _ _ _)
            refine v_iadd (i := 55) rfl (?_ : ky_V _ _ _ 92 _ _ _ _)
            refine v_topi (fun x16 ex16 => ?_)
            replace e := ky_letE ex16 e
            refine v_iast (i := 56) rfl (oa_21 hmh10 (ly_X4_k3 (lt_X4 frh10 za))) (ky_inb z15) ?_
            refine sk_stc (kd := 20) hmh10 frh10 (ly_X4_k3 (lt_X4 frh10 za)) (Int32.toNatClampNeg p2) x16 (fun h17 hmh17 frh17 => ?_)
            obtain ⟨q18, eq18⟩ : ∃ z, z = (sk_wc q11 (a + 4) (Int32.toNatClampNeg p2) x16) := ⟨_, rfl⟩
            rw [← eq18] at hmh17 frh17
            replace e := ky_letE eq18 e
            refine (?_ : ky_V _ _ _ 93 _ _ _ _)
            obtain ⟨x19, ex19⟩ : ∃ z : Int32, z = p3 + 1 := ⟨_, rfl⟩
            replace e := ky_letE ex19 e
            refine v_iinc (v := x19) (j := 3) (L' := [(0, .ref a), (1, .int p1), (2, .int p2), (3, .int x19)]) [1, 2, 3, 0] (i := 57) rfl rfl (by rw [ex19]; rfl) (Nat.le_of_ble_eq_true rfl) rfl (?_ : ky_V _ _ _ 96 _ _ _ _)
            refine v_goto (tgt := 43) (i := 58) rfl (by decide) (?_ : ky_V _ _ _ 43 _ _ _ _)
            exact ih h17 q18 p1 p2 x19 hmh17 frh17 e
          · replace e := ky_ifT c14 e
            refine v_iconst (v := 0) (i := 47) rfl (by decide) (?_ : ky_V _ _ _ 82 _ _ _ _)
            refine v_iret (v := 0) (ty := .boolean) (i := 48) rfl rfl (by decide) ?_
            obtain ⟨rfl, rfl⟩ := ky_leaf e
            exact hr _ hmh10 frh10

def x4_putComparison (N : Nat)  (s : sk_S) (a : Nat) (p1 : Int32) : Option (sk_S × Int32) := (if lay_X4 (sk_K s) (sk_r s) a = true then ((x4_put N s a 0).bind (fun zz => (fun q2 x3 => (if x3 = 0 then (some (q2, 0)) else ((x4_put N q2 a (p1 * (sk_c q2 (a + 5) 6))).bind (fun zz => (fun q7 x8 => (if x8 = 0 then (some (q7, 0)) else ((x4_put N q7 a 0).bind (fun zz => (fun q12 x13 => (if x13 = 0 then (some (q12, 0)) else (ky_let ((sk_c q12 a 6) - 1) (fun x16 => (x4_putComparison_L43 N a (fun q18 x19 x20 x21 => (some (q18, 1))) N q12 p1 x16 0))))) zz.1 zz.2)))) zz.1 zz.2)))) zz.1 zz.2)) else none)
set_option maxRecDepth 20000 in
set_option maxHeartbeats 4000000 in
theorem k_X4_putComparison {G : ky_GW} {d : Nat} {h : ky_HP} {Q : ky_RS → ky_HP → Prop} {s s9 : sk_S} {r9 : Int32} {a : Nat} {p1 : Int32} (N : Nat) (hG : ky_OK G)   (hm : sk_hp G s h)  (e : x4_putComparison N  s a p1 = some (s9, r9)) (hr : ∀ h1, sk_hp G s9 h1 → sk_fr none s h s9 h1 → Q (.inl (some (.int r9))) h1) : ky_Call G (d + 1) M_X4_putComparison [.ref a, .int p1] h Q := by
  refine ky_ofV (by decide +kernel) rfl ok_X4_putComparison (Nat.le_of_ble_eq_true rfl) ?_
  have fr : sk_fr none s h s h := sk_fr.rf
  unfold x4_putComparison at e
  refine (?_ : ky_V _ _ _ 0 [(0, .ref a), (1, .int p1)] [] _ _)
  obtain ⟨za, e⟩ := ky_chkE e
  refine v_aload_n (i := 0) (j := 0) rfl rfl (?_ : ky_V _ _ _ 1 _ _ _ _)
  refine v_iconst (v := 0) (i := 1) rfl (by decide) (?_ : ky_V _ _ _ 2 _ _ _ _)
  obtain ⟨⟨q2, x3⟩, g4, e⟩ := Option.bind_eq_some_iff.mp e
  refine cl_X4_90 (As := [.int 0]) rfl (i := 2) rfl (oc_X4 hm (ly_X4_c za)) rfl rfl (Nat.le_of_ble_eq_true rfl) (k_X4_put N hG hm g4 (fun h1 hmh1 frh1 => ⟨_, rfl, (?_ : ky_V _ _ _ 5 _ [.int x3] _ _)⟩))
  have frh1 := fr.tr frh1
  refine v_if_eq (tgt := 32) (i := 3) rfl (by decide) (fun c5 => ?_) (fun c5 => ?_)
  · replace e := ky_ifT c5 e
    refine v_iconst (v := 0) (i := 17) rfl (by decide) (?_ : ky_V _ _ _ 33 _ _ _ _)
    refine v_iret (v := 0) (ty := .boolean) (i := 18) rfl rfl (by decide) ?_
    obtain ⟨rfl, rfl⟩ := ky_leaf e
    exact hr _ hmh1 frh1
  · replace e := ky_ifF c5 e
    refine v_aload_n (i := 4) (j := 0) rfl rfl (?_ : ky_V _ _ _ 9 _ _ _ _)
    refine v_iload_n (i := 5) (j := 1) rfl rfl (?_ : ky_V _ _ _ 10 _ _ _ _)
    refine v_aload_n (i := 6) (j := 0) rfl rfl (?_ : ky_V _ _ _ 11 _ _ _ _)
    refine gf_X4_28 rfl (i := 7) rfl (oc_X4 hmh1 (ly_X4_c (lt_X4 frh1 za))) (sk_rf (ly_X4_r4 (lt_X4 frh1 za))) (?_ : ky_V _ _ _ 14 _ (.ref (a + 5) :: _) _ _)
    refine v_bipush (v := 6) (i := 8) rfl (by decide) (?_ : ky_V _ _ _ 16 _ _ _ _)
    refine v_iald (i := 9) rfl (oa_21 hmh1 (ly_X4_k4 (lt_X4 frh1 za))) (ky_inl (by decide)) (?_ : ky_V _ _ _ 17 _ (.int (sk_c q2 (a + 5) 6) :: _) _ _)
    refine v_imul (i := 10) rfl (?_ : ky_V _ _ _ 18 _ _ _ _)
    obtain ⟨⟨q7, x8⟩, g9, e⟩ := Option.bind_eq_some_iff.mp e
    refine cl_X4_90 (As := [.int ((p1 * (sk_c q2 (a + 5) 6)))]) rfl (i := 11) rfl (oc_X4 hmh1 (ly_X4_c (lt_X4 frh1 za))) rfl rfl (Nat.le_of_ble_eq_true rfl) (k_X4_put N hG hmh1 g9 (fun h6 hmh6 frh6 => ⟨_, rfl, (?_ : ky_V _ _ _ 21 _ [.int x8] _ _)⟩))
    have frh6 := frh1.tr frh6
    refine v_if_eq (tgt := 32) (i := 12) rfl (by decide) (fun c10 => ?_) (fun c10 => ?_)
    · replace e := ky_ifT c10 e
      refine v_iconst (v := 0) (i := 17) rfl (by decide) (?_ : ky_V _ _ _ 33 _ _ _ _)
      refine v_iret (v := 0) (ty := .boolean) (i := 18) rfl rfl (by decide) ?_
      obtain ⟨rfl, rfl⟩ := ky_leaf e
      exact hr _ hmh6 frh6
    · replace e := ky_ifF c10 e
      refine v_aload_n (i := 13) (j := 0) rfl rfl (?_ : ky_V _ _ _ 25 _ _ _ _)
      refine v_iconst (v := 0) (i := 14) rfl (by decide) (?_ : ky_V _ _ _ 26 _ _ _ _)
      obtain ⟨⟨q12, x13⟩, g14, e⟩ := Option.bind_eq_some_iff.mp e
      refine cl_X4_90 (As := [.int 0]) rfl (i := 15) rfl (oc_X4 hmh6 (ly_X4_c (lt_X4 frh6 za))) rfl rfl (Nat.le_of_ble_eq_true rfl) (k_X4_put N hG hmh6 g14 (fun h11 hmh11 frh11 => ⟨_, rfl, (?_ : ky_V _ _ _ 29 _ [.int x13] _ _)⟩))
      have frh11 := frh6.tr frh11
      refine v_if_ne (tgt := 34) (i := 16) rfl (by decide) (fun c15 => ?_) (fun c15 => ?_)
      · replace e := ky_ifF c15 e
        refine v_aload_n (i := 19) (j := 0) rfl rfl (?_ : ky_V _ _ _ 35 _ _ _ _)
        refine gf_X4_41 rfl (i := 20) rfl (oc_X4 hmh11 (ly_X4_c (lt_X4 frh11 za))) rfl (?_ : ky_V _ _ _ 38 _ _ _ _)
        refine v_iconst (v := 1) (i := 21) rfl (by decide) (?_ : ky_V _ _ _ 39 _ _ _ _)
        refine v_isub (i := 22) rfl (?_ : ky_V _ _ _ 40 _ _ _ _)
        refine v_topi (fun x16 ex16 => ?_)
        replace e := ky_letE ex16 e
        refine v_istore_n (L' := [(0, .ref a), (1, .int p1), (2, .int x16)]) [1, 2, 0] (i := 23) rfl (Nat.le_of_ble_eq_true rfl) rfl (?_ : ky_V _ _ _ 41 _ _ _ _)
        refine v_iconst (v := 0) (i := 24) rfl (by decide) (?_ : ky_V _ _ _ 42 _ _ _ _)
        refine v_istore_n (L' := [(0, .ref a), (1, .int p1), (2, .int x16), (3, .int 0)]) [1, 2, 3, 0] (i := 25) rfl (Nat.le_of_ble_eq_true rfl) rfl (?_ : ky_V _ _ _ 43 _ _ _ _)
        refine lv_X4_putComparison_43 N hG a za hm _ hr (fun h17 q18 x19 x20 x21 hmh17 frh17 e => ?_) N h11 q12 p1 x16 0 hmh11 frh11 e
        refine v_iconst (v := 1) (i := 59) rfl (by decide) (?_ : ky_V _ _ _ 100 _ _ _ _)
        refine v_iret (v := 1) (ty := .boolean) (i := 60) rfl rfl (by decide) ?_
        obtain ⟨rfl, rfl⟩ := ky_leaf e
        exact hr _ hmh17 frh17
      · replace e := ky_ifT c15 e
        refine v_iconst (v := 0) (i := 17) rfl (by decide) (?_ : ky_V _ _ _ 33 _ _ _ _)
        refine v_iret (v := 0) (ty := .boolean) (i := 18) rfl rfl (by decide) ?_
        obtain ⟨rfl, rfl⟩ := ky_leaf e
        exact hr _ hmh11 frh11

def x4_readSum_L5 (N : Nat)  (a : Nat) (a1_ : Nat) (k : sk_S → Int32 → Int32 → Int32 → Option (sk_S × Int32)) : Nat → sk_S → Int32 → Int32 → Int32 → Option (sk_S × Int32)
  | 0, _, _, _, _ => none
  | n + 1, c, p2, p3, p4 => (if (400 : Int32) ≤ p4 then (k c p2 p3 p4) else (if p3 = 0 then (k c p2 p3 p4) else ((x9_takeOneOf N c a1_ ([109, 111, 118, 101, 32, 108, 101, 103, 32, 111, 116, 104, 101, 114, 32, 116, 104, 105, 110, 32, 99, 97, 108, 109, 32, 119, 97, 116, 101, 114] : List Int32)).bind (fun zz => (fun q5 x6 => (if x6 = (-1 : Int32) then ((x9_takeNumber N q5 a1_ 0 999).bind (fun zz => (fun q10 x11 => (if x11 = 0 then (some (q10, 0)) else (ky_let ((sk_c q10 (a + 5) 6) + (p2 * (sk_c q10 a1_ 2))) (fun x14 => (ky_let (sk_wc q10 (a + 5) 6 x14) (fun q16 => ((x9_takeSign N q16 a1_ 43).bind (fun zz => (fun q18 x19 => (ky_let (p4 + 1) (fun x21 => (x4_readSum_L5 N a a1_ k n q18 p2 x19 x21)))) zz.1 zz.2)))))))) zz.1 zz.2)) else (if ky_inB x6 7 = true then (ky_let ((sk_c q5 (a + 5) (Int32.toNatClampNeg x6)) + p2) (fun x23 => (ky_let (sk_wc q5 (a + 5) (Int32.toNatClampNeg x6) x23) (fun q25 => ((x9_takeSign N q25 a1_ 43).bind (fun zz => (fun q27 x28 => (ky_let (p4 + 1) (fun x30 => (x4_readSum_L5 N a a1_ k n q27 p2 x28 x30)))) zz.1 zz.2)))))) else none))) zz.1 zz.2))))
set_option maxRecDepth 20000 in
set_option maxHeartbeats 4000000 in
theorem lv_X4_readSum_5 {G : ky_GW} {d : Nat} {s s9 : sk_S} {h0 : ky_HP} {Q : ky_RS → ky_HP → Prop} {r9 : Int32} (N : Nat) (hG : ky_OK G)  (a : Nat) (a1_ : Nat)   (za : lay_X4 (sk_K s) (sk_r s) a = true) (za1_ : lay_X9 (sk_K s) (sk_r s) a1_ = true) (hm : sk_hp G s h0) (k : sk_S → Int32 → Int32 → Int32 → Option (sk_S × Int32)) (hr : ∀ h1, sk_hp G s9 h1 → sk_fr none s h0 s9 h1 → Q (.inl (some (.int r9))) h1)
    (hk : ∀ (h : ky_HP) (c : sk_S) (p2 : Int32) (p3 : Int32) (p4 : Int32), sk_hp G c h → sk_fr none s h0 c h → k c p2 p3 p4 = some (s9, r9) → ky_V G (d + 6) M_X4_readSum 90 [(0, .ref a), (1, .ref a1_), (2, .int p2), (3, .int p3), (4, .int p4)] [] h Q) :
    ∀ (n : Nat) (h : ky_HP) (c : sk_S) (p2 : Int32) (p3 : Int32) (p4 : Int32), sk_hp G c h → sk_fr none s h0 c h → x4_readSum_L5 N a a1_ k n c p2 p3 p4 = some (s9, r9) → ky_V G (d + 6) M_X4_readSum 5 [(0, .ref a), (1, .ref a1_), (2, .int p2), (3, .int p3), (4, .int p4)] [] h Q := by
  intro n
  induction n with
  | zero => intro h c p2 p3 p4 hm1 fr e; cases e
  | succ n ih =>
    intro h c p2 p3 p4 hm1 fr e
    rw [x4_readSum_L5] at e
    refine v_iload (i := 4) (j := 4) rfl rfl (?_ : ky_V _ _ _ 7 _ _ _ _)
    refine v_sipush (v := 400) (i := 5) rfl (by decide) (?_ : ky_V _ _ _ 10 _ _ _ _)
    refine v_icmp_ge (tgt := 90) (i := 6) rfl (by decide) (fun c1 => ?_) (fun c1 => ?_)
    · replace e := ky_ifT c1 e
      exact hk h c p2 p3 p4 hm1 fr e
    · replace e := ky_ifF c1 e
      refine v_iload_n (i := 7) (j := 3) rfl rfl (?_ : ky_V _ _ _ 14 _ _ _ _)
      refine v_if_eq (tgt := 90) (i := 8) rfl (by decide) (fun c2 => ?_) (fun c2 => ?_)
      · replace e := ky_ifT c2 e
        exact hk h c p2 p3 p4 hm1 fr e
      · replace e := ky_ifF c2 e
        refine v_aload_n (i := 9) (j := 1) rfl rfl (?_ : ky_V _ _ _ 18 _ _ _ _)
        obtain ⟨s3, hvs3, hss3⟩ := sg_X4_116 hG
        refine v_ldcS (i := 10) hvs3 rfl (?_ : ky_V _ _ _ 20 _ _ _ _)
        obtain ⟨⟨q5, x6⟩, g7, e⟩ := Option.bind_eq_some_iff.mp e
        refine cl_X4_64 (As := [.ref s3]) rfl (i := 11) rfl (oc_X9 hm1 (ly_X9_c (lt_X9 fr za1_))) rfl rfl (Nat.le_of_ble_eq_true rfl) (k_X9_takeOneOf N hG hm1 hss3 g7 (fun h4 hmh4 frh4 => ⟨_, rfl, (?_ : ky_V _ _ _ 23 _ [.int x6] _ _)⟩))
        have frh4 := fr.tr frh4
        refine v_istore (L' := [(0, .ref a), (1, .ref a1_), (2, .int p2), (3, .int p3), (4, .int p4), (5, .int x6)]) [1, 2, 3, 4, 5, 0] (i := 12) rfl (Nat.le_of_ble_eq_true rfl) rfl (?_ : ky_V _ _ _ 25 _ _ _ _)
        refine v_iload (i := 13) (j := 5) rfl rfl (?_ : ky_V _ _ _ 27 _ _ _ _)
        refine v_iconst (v := (-1)) (i := 14) rfl (by decide) (?_ : ky_V _ _ _ 28 _ _ _ _)
        refine v_icmp_eq (tgt := 45) (i := 15) rfl (by decide) (fun c8 => ?_) (fun c8 => ?_)
        · replace e := ky_ifT c8 e
          refine v_aload_n (i := 25) (j := 1) rfl rfl (?_ : ky_V _ _ _ 46 _ _ _ _)
          refine v_iconst (v := 0) (i := 26) rfl (by decide) (?_ : ky_V _ _ _ 47 _ _ _ _)
          refine v_sipush (v := 999) (i := 27) rfl (by decide) (?_ : ky_V _ _ _ 50 _ _ _ _)
          obtain ⟨⟨q10, x11⟩, g12, e⟩ := Option.bind_eq_some_iff.mp e
          refine cl_X4_68 (As := [.int 0, .int 999]) rfl (i := 28) rfl (oc_X9 hmh4 (ly_X9_c (lt_X9 frh4 za1_))) rfl rfl (Nat.le_of_ble_eq_true rfl) (k_X9_takeNumber N hG hmh4 g12 (fun h9 hmh9 frh9 => ⟨_, rfl, (?_ : ky_V _ _ _ 53 _ [.int x11] _ _)⟩))
          have frh9 := frh4.tr frh9
          refine v_if_eq (tgt := 75) (i := 29) rfl (by decide) (fun c13 => ?_) (fun c13 => ?_)
          · replace e := ky_ifT c13 e
            refine v_iconst (v := 0) (i := 42) rfl (by decide) (?_ : ky_V _ _ _ 76 _ _ _ _)
            refine v_iret (v := 0) (ty := .boolean) (i := 43) rfl rfl (by decide) ?_
            obtain ⟨rfl, rfl⟩ := ky_leaf e
            exact hr _ hmh9 frh9
          · replace e := ky_ifF c13 e
            refine v_aload_n (i := 30) (j := 0) rfl rfl (?_ : ky_V _ _ _ 57 _ _ _ _)
            refine gf_X4_28 rfl (i := 31) rfl (oc_X4 hmh9 (ly_X4_c (lt_X4 frh9 za))) (sk_rf (ly_X4_r4 (lt_X4 frh9 za))) (?_ : ky_V _ _ _ 60 _ (.ref (a + 5) :: _) _ _)
            refine v_bipush (v := 6) (i := 32) rfl (by decide) (?_ : ky_V _ _ _ 62 _ _ _ _)
            refine v_dup2 (i := 33) rfl rfl rfl (?_ : ky_V _ _ _ 63 _ _ _ _)
            refine v_iald (i := 34) rfl (oa_21 hmh9 (ly_X4_k4 (lt_X4 frh9 za))) (ky_inl (by decide)) (?_ : ky_V _ _ _ 64 _ (.int (sk_c q10 (a + 5) 6) :: _) _ _)
            refine v_iload_n (i := 35) (j := 2) rfl rfl (?_ : ky_V _ _ _ 65 _ _ _ _)
            refine v_aload_n (i := 36) (j := 1) rfl rfl (?_ : ky_V _ _ _ 66 _ _ _ _)
            refine gf_X4_72 rfl (i := 37) rfl (oc_X9 hmh9 (ly_X9_c (lt_X9 frh9 za1_))) rfl (?_ : ky_V _ _ _ 69 _ _ _ _)
            refine v_imul (i := 38) rfl (?_ : ky_V _ _ _ 70 _ _ _ _)
            refine v_iadd (i := 39) rfl (?_ : ky_V _ _ _ 71 _ _ _ _)
            refine v_topi (fun x14 ex14 => ?_)
            replace e := ky_letE ex14 e
            refine v_iast (i := 40) rfl (oa_21 hmh9 (ly_X4_k4 (lt_X4 frh9 za))) (ky_inl (by decide)) ?_
            refine sk_stc (kd := 20) hmh9 frh9 (ly_X4_k4 (lt_X4 frh9 za)) 6 x14 (fun h15 hmh15 frh15 => ?_)
            obtain ⟨q16, eq16⟩ : ∃ z, z = (sk_wc q10 (a + 5) 6 x14) := ⟨_, rfl⟩
            rw [← eq16] at hmh15 frh15
            replace e := ky_letE eq16 e
            refine (?_ : ky_V _ _ _ 72 _ _ _ _)
            refine v_goto (tgt := 77) (i := 41) rfl (by decide) (?_ : ky_V _ _ _ 77 _ _ _ _)
            refine v_aload_n (i := 44) (j := 1) rfl rfl (?_ : ky_V _ _ _ 78 _ _ _ _)
            refine v_bipush (v := 43) (i := 45) rfl (by decide) (?_ : ky_V _ _ _ 80 _ _ _ _)
            obtain ⟨⟨q18, x19⟩, g20, e⟩ := Option.bind_eq_some_iff.mp e
            refine cl_X4_58 (As := [.int 43]) rfl (i := 46) rfl (oc_X9 hmh15 (ly_X9_c (lt_X9 frh15 za1_))) rfl rfl (Nat.le_of_ble_eq_true rfl) (k_X9_takeSign N hG hmh15 g20 (fun h17 hmh17 frh17 => ⟨_, rfl, (?_ : ky_V _ _ _ 83 _ [.int x19] _ _)⟩))
            have frh17 := frh15.tr frh17
            refine v_istore_n (L' := [(0, .ref a), (1, .ref a1_), (2, .int p2), (3, .int x19), (4, .int p4), (5, .int x6)]) [1, 2, 3, 0, 4, 5] (i := 47) rfl (Nat.le_of_ble_eq_true rfl) rfl (?_ : ky_V _ _ _ 84 _ _ _ _)
            obtain ⟨x21, ex21⟩ : ∃ z : Int32, z = p4 + 1 := ⟨_, rfl⟩
            replace e := ky_letE ex21 e
            refine v_iinc (v := x21) (j := 4) (L' := [(0, .ref a), (1, .ref a1_), (2, .int p2), (3, .int x19), (4, .int x21), (5, .int x6)]) [1, 2, 3, 4, 0, 5] (i := 48) rfl rfl (by rw [ex21]; rfl) (Nat.le_of_ble_eq_true rfl) rfl (?_ : ky_V _ _ _ 87 _ _ _ _)
            refine v_goto (tgt := 5) (i := 49) rfl (by decide) (?_ : ky_V _ _ _ 5 _ _ _ _)
            refine ky_loc (L' := [(0, .ref a), (1, .ref a1_), (2, .int p2), (3, .int x19), (4, .int x21)]) (by simp) ?_
            exact ih h17 q18 p2 x19 x21 hmh17 frh17 e
        · replace e := ky_ifF c8 e
          refine v_aload_n (i := 16) (j := 0) rfl rfl (?_ : ky_V _ _ _ 32 _ _ _ _)
          refine gf_X4_28 rfl (i := 17) rfl (oc_X4 hmh4 (ly_X4_c (lt_X4 frh4 za))) (sk_rf (ly_X4_r4 (lt_X4 frh4 za))) (?_ : ky_V _ _ _ 35 _ (.ref (a + 5) :: _) _ _)
          refine v_iload (i := 18) (j := 5) rfl rfl (?_ : ky_V _ _ _ 37 _ _ _ _)
          refine v_dup2 (i := 19) rfl rfl rfl (?_ : ky_V _ _ _ 38 _ _ _ _)
          obtain ⟨z22, e⟩ := ky_chkE e
          refine v_iald (i := 20) rfl (oa_21 hmh4 (ly_X4_k4 (lt_X4 frh4 za))) (ky_inb z22) (?_ : ky_V _ _ _ 39 _ (.int (sk_c q5 (a + 5) (Int32.toNatClampNeg x6)) :: _) _ _)
          refine v_iload_n (i := 21) (j := 2) rfl rfl (?_ : ky_V _ _ _ 40 _ _ _ _)
          refine v_iadd (i := 22) rfl (?_ : ky_V _ _ _ 41 _ _ _ _)
          refine v_topi (fun x23 ex23 => ?_)
          replace e := ky_letE ex23 e
          refine v_iast (i := 23) rfl (oa_21 hmh4 (ly_X4_k4 (lt_X4 frh4 za))) (ky_inb z22) ?_
          refine sk_stc (kd := 20) hmh4 frh4 (ly_X4_k4 (lt_X4 frh4 za)) (Int32.toNatClampNeg x6) x23 (fun h24 hmh24 frh24 => ?_)
          obtain ⟨q25, eq25⟩ : ∃ z, z = (sk_wc q5 (a + 5) (Int32.toNatClampNeg x6) x23) := ⟨_, rfl⟩
          rw [← eq25] at hmh24 frh24
          replace e := ky_letE eq25 e
          refine (?_ : ky_V _ _ _ 42 _ _ _ _)
          refine v_goto (tgt := 77) (i := 24) rfl (by decide) (?_ : ky_V _ _ _ 77 _ _ _ _)
          refine v_aload_n (i := 44) (j := 1) rfl rfl (?_ : ky_V _ _ _ 78 _ _ _ _)
          refine v_bipush (v := 43) (i := 45) rfl (by decide) (?_ : ky_V _ _ _ 80 _ _ _ _)
          obtain ⟨⟨q27, x28⟩, g29, e⟩ := Option.bind_eq_some_iff.mp e
          refine cl_X4_58 (As := [.int 43]) rfl (i := 46) rfl (oc_X9 hmh24 (ly_X9_c (lt_X9 frh24 za1_))) rfl rfl (Nat.le_of_ble_eq_true rfl) (k_X9_takeSign N hG hmh24 g29 (fun h26 hmh26 frh26 => ⟨_, rfl, (?_ : ky_V _ _ _ 83 _ [.int x28] _ _)⟩))
          have frh26 := frh24.tr frh26
          refine v_istore_n (L' := [(0, .ref a), (1, .ref a1_), (2, .int p2), (3, .int x28), (4, .int p4), (5, .int x6)]) [1, 2, 3, 0, 4, 5] (i := 47) rfl (Nat.le_of_ble_eq_true rfl) rfl (?_ : ky_V _ _ _ 84 _ _ _ _)
          obtain ⟨x30, ex30⟩ : ∃ z : Int32, z = p4 + 1 := ⟨_, rfl⟩
          replace e := ky_letE ex30 e
          refine v_iinc (v := x30) (j := 4) (L' := [(0, .ref a), (1, .ref a1_), (2, .int p2), (3, .int x28), (4, .int x30), (5, .int x6)]) [1, 2, 3, 4, 0, 5] (i := 48) rfl rfl (by rw [ex30]; rfl) (Nat.le_of_ble_eq_true rfl) rfl (?_ : ky_V _ _ _ 87 _ _ _ _)
          refine v_goto (tgt := 5) (i := 49) rfl (by decide) (?_ : ky_V _ _ _ 5 _ _ _ _)
          refine ky_loc (L' := [(0, .ref a), (1, .ref a1_), (2, .int p2), (3, .int x28), (4, .int x30)]) (by simp) ?_
          exact ih h26 q27 p2 x28 x30 hmh26 frh26 e

def x4_readSum (N : Nat)  (s : sk_S) (a : Nat) (a1_ : Nat) (p2 : Int32) : Option (sk_S × Int32) := (if lay_X4 (sk_K s) (sk_r s) a = true then (if lay_X9 (sk_K s) (sk_r s) a1_ = true then (x4_readSum_L5 N a a1_ (fun q2 x3 x4 x5 => (some (q2, 1))) N s p2 1 0) else none) else none)
set_option maxRecDepth 20000 in
set_option maxHeartbeats 4000000 in
theorem k_X4_readSum {G : ky_GW} {d : Nat} {h : ky_HP} {Q : ky_RS → ky_HP → Prop} {s s9 : sk_S} {r9 : Int32} {a : Nat} {a1_ : Nat} {p2 : Int32} (N : Nat) (hG : ky_OK G)   (hm : sk_hp G s h)  (e : x4_readSum N  s a a1_ p2 = some (s9, r9)) (hr : ∀ h1, sk_hp G s9 h1 → sk_fr none s h s9 h1 → Q (.inl (some (.int r9))) h1) : ky_Call G (d + 6) M_X4_readSum [.ref a, .ref a1_, .int p2] h Q := by
  refine ky_ofV (by decide +kernel) rfl ok_X4_readSum (Nat.le_of_ble_eq_true rfl) ?_
  have fr : sk_fr none s h s h := sk_fr.rf
  unfold x4_readSum at e
  refine (?_ : ky_V _ _ _ 0 [(0, .ref a), (1, .ref a1_), (2, .int p2)] [] _ _)
  obtain ⟨za, e⟩ := ky_chkE e
  obtain ⟨za1_, e⟩ := ky_chkE e
  refine v_iconst (v := 1) (i := 0) rfl (by decide) (?_ : ky_V _ _ _ 1 _ _ _ _)
  refine v_istore_n (L' := [(0, .ref a), (1, .ref a1_), (2, .int p2), (3, .int 1)]) [1, 2, 3, 0] (i := 1) rfl (Nat.le_of_ble_eq_true rfl) rfl (?_ : ky_V _ _ _ 2 _ _ _ _)
  refine v_iconst (v := 0) (i := 2) rfl (by decide) (?_ : ky_V _ _ _ 3 _ _ _ _)
  refine v_istore (L' := [(0, .ref a), (1, .ref a1_), (2, .int p2), (3, .int 1), (4, .int 0)]) [1, 2, 3, 4, 0] (i := 3) rfl (Nat.le_of_ble_eq_true rfl) rfl (?_ : ky_V _ _ _ 5 _ _ _ _)
  refine lv_X4_readSum_5 N hG a a1_ za za1_ hm _ hr (fun h1 q2 x3 x4 x5 hmh1 frh1 e => ?_) N h s p2 1 0 hm fr e
  refine v_iconst (v := 1) (i := 50) rfl (by decide) (?_ : ky_V _ _ _ 91 _ _ _ _)
  refine v_iret (v := 1) (ty := .boolean) (i := 51) rfl rfl (by decide) ?_
  obtain ⟨rfl, rfl⟩ := ky_leaf e
  exact hr _ hmh1 frh1

def x4_readAll_L13 (N : Nat) (A : sk_S → Nat → Nat → Int32 → Option (sk_S × Int32)) (a : Nat) (a1_ : Nat) (k : sk_S → Int32 → Int32 → Option (sk_S × Int32)) : Nat → sk_S → Int32 → Int32 → Option (sk_S × Int32)
  | 0, _, _, _ => none
  | n + 1, c, p2, p3 => (if (400 : Int32) ≤ p3 then (k c p2 p3) else ((x9_takeWord N c a1_ ([97, 110, 100] : List Int32)).bind (fun zz => (fun q4 x5 => (if x5 = 0 then (k q4 p2 p3) else ((A q4 a a1_ p2).bind (fun zz => (fun q9 x10 => (if x10 = 0 then (some (q9, 0)) else ((x4_put N q9 a 3).bind (fun zz => (fun q14 x15 => (if x15 = 0 then (some (q14, 0)) else (ky_let (p3 + 1) (fun x18 => (x4_readAll_L13 N A a a1_ k n q14 p2 x18))))) zz.1 zz.2)))) zz.1 zz.2)))) zz.1 zz.2)))
set_option maxRecDepth 20000 in
set_option maxHeartbeats 4000000 in
theorem lv_X4_readAll_13 {G : ky_GW} {d : Nat} {s s9 : sk_S} {h0 : ky_HP} {Q : ky_RS → ky_HP → Prop} {r9 : Int32} (N : Nat) (hG : ky_OK G) (A : sk_S → Nat → Nat → Int32 → Option (sk_S × Int32)) (a : Nat) (a1_ : Nat) (hA : ∀ (h : ky_HP) (s s9 : sk_S) (a a1_ : Nat) (p2 : Int32) (r9 : Int32) (Q : ky_RS → ky_HP → Prop), sk_hp G s h → A s a a1_ p2 = some (s9, r9) → (∀ h1, sk_hp G s9 h1 → sk_fr none s h s9 h1 → Q (.inl (some (.int r9))) h1) → ky_Call G (d + 20) M_X4_readAtom [.ref a, .ref a1_, .int p2] h Q)  (za : lay_X4 (sk_K s) (sk_r s) a = true) (za1_ : lay_X9 (sk_K s) (sk_r s) a1_ = true) (hm : sk_hp G s h0) (k : sk_S → Int32 → Int32 → Option (sk_S × Int32)) (hr : ∀ h1, sk_hp G s9 h1 → sk_fr none s h0 s9 h1 → Q (.inl (some (.int r9))) h1)
    (hk : ∀ (h : ky_HP) (c : sk_S) (p2 : Int32) (p3 : Int32), sk_hp G c h → sk_fr none s h0 c h → k c p2 p3 = some (s9, r9) → ky_V G (d + 21) M_X4_readAll 54 [(0, .ref a), (1, .ref a1_), (2, .int p2), (3, .int p3)] [] h Q) :
    ∀ (n : Nat) (h : ky_HP) (c : sk_S) (p2 : Int32) (p3 : Int32), sk_hp G c h → sk_fr none s h0 c h → x4_readAll_L13 N A a a1_ k n c p2 p3 = some (s9, r9) → ky_V G (d + 21) M_X4_readAll 13 [(0, .ref a), (1, .ref a1_), (2, .int p2), (3, .int p3)] [] h Q := by
  intro n
  induction n with
  | zero => intro h c p2 p3 hm1 fr e; cases e
  | succ n ih =>
    intro h c p2 p3 hm1 fr e
    rw [x4_readAll_L13] at e
    refine v_iload_n (i := 9) (j := 3) rfl rfl (?_ : ky_V _ _ _ 14 _ _ _ _)
    refine v_sipush (v := 400) (i := 10) rfl (by decide) (?_ : ky_V _ _ _ 17 _ _ _ _)
    refine v_icmp_ge (tgt := 54) (i := 11) rfl (by decide) (fun c1 => ?_) (fun c1 => ?_)
    · replace e := ky_ifT c1 e
      exact hk h c p2 p3 hm1 fr e
    · replace e := ky_ifF c1 e
      refine v_aload_n (i := 12) (j := 1) rfl rfl (?_ : ky_V _ _ _ 21 _ _ _ _)
      obtain ⟨s2, hvs2, hss2⟩ := sg_X4_97 hG
      refine v_ldcS (i := 13) hvs2 rfl (?_ : ky_V _ _ _ 23 _ _ _ _)
      obtain ⟨⟨q4, x5⟩, g6, e⟩ := Option.bind_eq_some_iff.mp e
      refine cl_X4_77 (As := [.ref s2]) rfl (i := 14) rfl (oc_X9 hm1 (ly_X9_c (lt_X9 fr za1_))) rfl rfl (Nat.le_of_ble_eq_true rfl) (k_X9_takeWord N hG hm1 hss2 g6 (fun h3 hmh3 frh3 => ⟨_, rfl, (?_ : ky_V _ _ _ 26 _ [.int x5] _ _)⟩))
      have frh3 := fr.tr frh3
      refine v_if_eq (tgt := 54) (i := 15) rfl (by decide) (fun c7 => ?_) (fun c7 => ?_)
      · replace e := ky_ifT c7 e
        exact hk h3 q4 p2 p3 hmh3 frh3 e
      · replace e := ky_ifF c7 e
        refine v_aload_n (i := 16) (j := 0) rfl rfl (?_ : ky_V _ _ _ 30 _ _ _ _)
        refine v_aload_n (i := 17) (j := 1) rfl rfl (?_ : ky_V _ _ _ 31 _ _ _ _)
        refine v_iload_n (i := 18) (j := 2) rfl rfl (?_ : ky_V _ _ _ 32 _ _ _ _)
        obtain ⟨⟨q9, x10⟩, g11, e⟩ := Option.bind_eq_some_iff.mp e
        refine cl_X4_94 (As := [.ref a1_, .int p2]) rfl (i := 19) rfl (oc_X4 hmh3 (ly_X4_c (lt_X4 frh3 za))) rfl rfl (Nat.le_of_ble_eq_true rfl) (hA _ _ _ _ _ _ _ _ hmh3 g11 (fun h8 hmh8 frh8 => ⟨_, rfl, (?_ : ky_V _ _ _ 35 _ [.int x10] _ _)⟩))
        have frh8 := frh3.tr frh8
        refine v_if_eq (tgt := 46) (i := 20) rfl (by decide) (fun c12 => ?_) (fun c12 => ?_)
        · replace e := ky_ifT c12 e
          refine v_iconst (v := 0) (i := 25) rfl (by decide) (?_ : ky_V _ _ _ 47 _ _ _ _)
          refine v_iret (v := 0) (ty := .boolean) (i := 26) rfl rfl (by decide) ?_
          obtain ⟨rfl, rfl⟩ := ky_leaf e
          exact hr _ hmh8 frh8
        · replace e := ky_ifF c12 e
          refine v_aload_n (i := 21) (j := 0) rfl rfl (?_ : ky_V _ _ _ 39 _ _ _ _)
          refine v_iconst (v := 3) (i := 22) rfl (by decide) (?_ : ky_V _ _ _ 40 _ _ _ _)
          obtain ⟨⟨q14, x15⟩, g16, e⟩ := Option.bind_eq_some_iff.mp e
          refine cl_X4_90 (As := [.int 3]) rfl (i := 23) rfl (oc_X4 hmh8 (ly_X4_c (lt_X4 frh8 za))) rfl rfl (Nat.le_of_ble_eq_true rfl) (k_X4_put N hG hmh8 g16 (fun h13 hmh13 frh13 => ⟨_, rfl, (?_ : ky_V _ _ _ 43 _ [.int x15] _ _)⟩))
          have frh13 := frh8.tr frh13
          refine v_if_ne (tgt := 48) (i := 24) rfl (by decide) (fun c17 => ?_) (fun c17 => ?_)
          · replace e := ky_ifF c17 e
            obtain ⟨x18, ex18⟩ : ∃ z : Int32, z = p3 + 1 := ⟨_, rfl⟩
            replace e := ky_letE ex18 e
            refine v_iinc (v := x18) (j := 3) (L' := [(0, .ref a), (1, .ref a1_), (2, .int p2), (3, .int x18)]) [1, 2, 3, 0] (i := 27) rfl rfl (by rw [ex18]; rfl) (Nat.le_of_ble_eq_true rfl) rfl (?_ : ky_V _ _ _ 51 _ _ _ _)
            refine v_goto (tgt := 13) (i := 28) rfl (by decide) (?_ : ky_V _ _ _ 13 _ _ _ _)
            exact ih h13 q14 p2 x18 hmh13 frh13 e
          · replace e := ky_ifT c17 e
            refine v_iconst (v := 0) (i := 25) rfl (by decide) (?_ : ky_V _ _ _ 47 _ _ _ _)
            refine v_iret (v := 0) (ty := .boolean) (i := 26) rfl rfl (by decide) ?_
            obtain ⟨rfl, rfl⟩ := ky_leaf e
            exact hr _ hmh13 frh13

def x4_readAll (N : Nat) (A : sk_S → Nat → Nat → Int32 → Option (sk_S × Int32)) (s : sk_S) (a : Nat) (a1_ : Nat) (p2 : Int32) : Option (sk_S × Int32) := (if lay_X4 (sk_K s) (sk_r s) a = true then (if lay_X9 (sk_K s) (sk_r s) a1_ = true then ((A s a a1_ p2).bind (fun zz => (fun q2 x3 => (if x3 = 0 then (some (q2, 0)) else (x4_readAll_L13 N A a a1_ (fun q7 x8 x9 => (some (q7, 1))) N q2 p2 0))) zz.1 zz.2)) else none) else none)
set_option maxRecDepth 20000 in
set_option maxHeartbeats 4000000 in
theorem k_X4_readAll {G : ky_GW} {d : Nat} {h : ky_HP} {Q : ky_RS → ky_HP → Prop} {s s9 : sk_S} {r9 : Int32} {a : Nat} {a1_ : Nat} {p2 : Int32} (N : Nat) (hG : ky_OK G) (A : sk_S → Nat → Nat → Int32 → Option (sk_S × Int32)) (hA : ∀ (h : ky_HP) (s s9 : sk_S) (a a1_ : Nat) (p2 : Int32) (r9 : Int32) (Q : ky_RS → ky_HP → Prop), sk_hp G s h → A s a a1_ p2 = some (s9, r9) → (∀ h1, sk_hp G s9 h1 → sk_fr none s h s9 h1 → Q (.inl (some (.int r9))) h1) → ky_Call G (d + 20) M_X4_readAtom [.ref a, .ref a1_, .int p2] h Q) (hm : sk_hp G s h)  (e : x4_readAll N A s a a1_ p2 = some (s9, r9)) (hr : ∀ h1, sk_hp G s9 h1 → sk_fr none s h s9 h1 → Q (.inl (some (.int r9))) h1) : ky_Call G (d + 21) M_X4_readAll [.ref a, .ref a1_, .int p2] h Q := by
  refine ky_ofV (by decide +kernel) rfl ok_X4_readAll (Nat.le_of_ble_eq_true rfl) ?_
  have fr : sk_fr none s h s h := sk_fr.rf
  unfold x4_readAll at e
  refine (?_ : ky_V _ _ _ 0 [(0, .ref a), (1, .ref a1_), (2, .int p2)] [] _ _)
  obtain ⟨za, e⟩ := ky_chkE e
  obtain ⟨za1_, e⟩ := ky_chkE e
  refine v_aload_n (i := 0) (j := 0) rfl rfl (?_ : ky_V _ _ _ 1 _ _ _ _)
  refine v_aload_n (i := 1) (j := 1) rfl rfl (?_ : ky_V _ _ _ 2 _ _ _ _)
  refine v_iload_n (i := 2) (j := 2) rfl rfl (?_ : ky_V _ _ _ 3 _ _ _ _)
  obtain ⟨⟨q2, x3⟩, g4, e⟩ := Option.bind_eq_some_iff.mp e
  refine cl_X4_94 (As := [.ref a1_, .int p2]) rfl (i := 3) rfl (oc_X4 hm (ly_X4_c za)) rfl rfl (Nat.le_of_ble_eq_true rfl) (hA _ _ _ _ _ _ _ _ hm g4 (fun h1 hmh1 frh1 => ⟨_, rfl, (?_ : ky_V _ _ _ 6 _ [.int x3] _ _)⟩))
  have frh1 := fr.tr frh1
  refine v_if_ne (tgt := 11) (i := 4) rfl (by decide) (fun c5 => ?_) (fun c5 => ?_)
  · replace e := ky_ifF c5 e
    refine v_iconst (v := 0) (i := 7) rfl (by decide) (?_ : ky_V _ _ _ 12 _ _ _ _)
    refine v_istore_n (L' := [(0, .ref a), (1, .ref a1_), (2, .int p2), (3, .int 0)]) [1, 2, 3, 0] (i := 8) rfl (Nat.le_of_ble_eq_true rfl) rfl (?_ : ky_V _ _ _ 13 _ _ _ _)
    refine lv_X4_readAll_13 N hG A a a1_ hA za za1_ hm _ hr (fun h6 q7 x8 x9 hmh6 frh6 e => ?_) N h1 q2 p2 0 hmh1 frh1 e
    refine v_iconst (v := 1) (i := 29) rfl (by decide) (?_ : ky_V _ _ _ 55 _ _ _ _)
    refine v_iret (v := 1) (ty := .boolean) (i := 30) rfl rfl (by decide) ?_
    obtain ⟨rfl, rfl⟩ := ky_leaf e
    exact hr _ hmh6 frh6
  · replace e := ky_ifT c5 e
    refine v_iconst (v := 0) (i := 5) rfl (by decide) (?_ : ky_V _ _ _ 10 _ _ _ _)
    refine v_iret (v := 0) (ty := .boolean) (i := 6) rfl rfl (by decide) ?_
    obtain ⟨rfl, rfl⟩ := ky_leaf e
    exact hr _ hmh1 frh1

def x4_readCondition_L13 (N : Nat) (A : sk_S → Nat → Nat → Int32 → Option (sk_S × Int32)) (a : Nat) (a1_ : Nat) (k : sk_S → Int32 → Int32 → Option (sk_S × Int32)) : Nat → sk_S → Int32 → Int32 → Option (sk_S × Int32)
  | 0, _, _, _ => none
  | n + 1, c, p2, p3 => (if (400 : Int32) ≤ p3 then (k c p2 p3) else ((x9_takeWord N c a1_ ([111, 114] : List Int32)).bind (fun zz => (fun q4 x5 => (if x5 = 0 then (k q4 p2 p3) else ((x4_readAll N A q4 a a1_ p2).bind (fun zz => (fun q9 x10 => (if x10 = 0 then (some (q9, 0)) else ((x4_put N q9 a 4).bind (fun zz => (fun q14 x15 => (if x15 = 0 then (some (q14, 0)) else (ky_let (p3 + 1) (fun x18 => (x4_readCondition_L13 N A a a1_ k n q14 p2 x18))))) zz.1 zz.2)))) zz.1 zz.2)))) zz.1 zz.2)))
set_option maxRecDepth 20000 in
set_option maxHeartbeats 4000000 in
theorem lv_X4_readCondition_13 {G : ky_GW} {d : Nat} {s s9 : sk_S} {h0 : ky_HP} {Q : ky_RS → ky_HP → Prop} {r9 : Int32} (N : Nat) (hG : ky_OK G) (A : sk_S → Nat → Nat → Int32 → Option (sk_S × Int32)) (a : Nat) (a1_ : Nat) (hA : ∀ (h : ky_HP) (s s9 : sk_S) (a a1_ : Nat) (p2 : Int32) (r9 : Int32) (Q : ky_RS → ky_HP → Prop), sk_hp G s h → A s a a1_ p2 = some (s9, r9) → (∀ h1, sk_hp G s9 h1 → sk_fr none s h s9 h1 → Q (.inl (some (.int r9))) h1) → ky_Call G (d + 20) M_X4_readAtom [.ref a, .ref a1_, .int p2] h Q)  (za : lay_X4 (sk_K s) (sk_r s) a = true) (za1_ : lay_X9 (sk_K s) (sk_r s) a1_ = true) (hm : sk_hp G s h0) (k : sk_S → Int32 → Int32 → Option (sk_S × Int32)) (hr : ∀ h1, sk_hp G s9 h1 → sk_fr none s h0 s9 h1 → Q (.inl (some (.int r9))) h1)
    (hk : ∀ (h : ky_HP) (c : sk_S) (p2 : Int32) (p3 : Int32), sk_hp G c h → sk_fr none s h0 c h → k c p2 p3 = some (s9, r9) → ky_V G (d + 22) M_X4_readCondition 54 [(0, .ref a), (1, .ref a1_), (2, .int p2), (3, .int p3)] [] h Q) :
    ∀ (n : Nat) (h : ky_HP) (c : sk_S) (p2 : Int32) (p3 : Int32), sk_hp G c h → sk_fr none s h0 c h → x4_readCondition_L13 N A a a1_ k n c p2 p3 = some (s9, r9) → ky_V G (d + 22) M_X4_readCondition 13 [(0, .ref a), (1, .ref a1_), (2, .int p2), (3, .int p3)] [] h Q := by
  intro n
  induction n with
  | zero => intro h c p2 p3 hm1 fr e; cases e
  | succ n ih =>
    intro h c p2 p3 hm1 fr e
    rw [x4_readCondition_L13] at e
    refine v_iload_n (i := 9) (j := 3) rfl rfl (?_ : ky_V _ _ _ 14 _ _ _ _)
    refine v_sipush (v := 400) (i := 10) rfl (by decide) (?_ : ky_V _ _ _ 17 _ _ _ _)
    refine v_icmp_ge (tgt := 54) (i := 11) rfl (by decide) (fun c1 => ?_) (fun c1 => ?_)
    · replace e := ky_ifT c1 e
      exact hk h c p2 p3 hm1 fr e
    · replace e := ky_ifF c1 e
      refine v_aload_n (i := 12) (j := 1) rfl rfl (?_ : ky_V _ _ _ 21 _ _ _ _)
      obtain ⟨s2, hvs2, hss2⟩ := sg_X4_88 hG
      refine v_ldcS (i := 13) hvs2 rfl (?_ : ky_V _ _ _ 23 _ _ _ _)
      obtain ⟨⟨q4, x5⟩, g6, e⟩ := Option.bind_eq_some_iff.mp e
      refine cl_X4_77 (As := [.ref s2]) rfl (i := 14) rfl (oc_X9 hm1 (ly_X9_c (lt_X9 fr za1_))) rfl rfl (Nat.le_of_ble_eq_true rfl) (k_X9_takeWord N hG hm1 hss2 g6 (fun h3 hmh3 frh3 => ⟨_, rfl, (?_ : ky_V _ _ _ 26 _ [.int x5] _ _)⟩))
      have frh3 := fr.tr frh3
      refine v_if_eq (tgt := 54) (i := 15) rfl (by decide) (fun c7 => ?_) (fun c7 => ?_)
      · replace e := ky_ifT c7 e
        exact hk h3 q4 p2 p3 hmh3 frh3 e
      · replace e := ky_ifF c7 e
        refine v_aload_n (i := 16) (j := 0) rfl rfl (?_ : ky_V _ _ _ 30 _ _ _ _)
        refine v_aload_n (i := 17) (j := 1) rfl rfl (?_ : ky_V _ _ _ 31 _ _ _ _)
        refine v_iload_n (i := 18) (j := 2) rfl rfl (?_ : ky_V _ _ _ 32 _ _ _ _)
        obtain ⟨⟨q9, x10⟩, g11, e⟩ := Option.bind_eq_some_iff.mp e
        refine cl_X4_85 (As := [.ref a1_, .int p2]) rfl (i := 19) rfl (oc_X4 hmh3 (ly_X4_c (lt_X4 frh3 za))) rfl rfl (Nat.le_of_ble_eq_true rfl) (k_X4_readAll N hG A hA hmh3 g11 (fun h8 hmh8 frh8 => ⟨_, rfl, (?_ : ky_V _ _ _ 35 _ [.int x10] _ _)⟩))
        have frh8 := frh3.tr frh8
        refine v_if_eq (tgt := 46) (i := 20) rfl (by decide) (fun c12 => ?_) (fun c12 => ?_)
        · replace e := ky_ifT c12 e
          refine v_iconst (v := 0) (i := 25) rfl (by decide) (?_ : ky_V _ _ _ 47 _ _ _ _)
          refine v_iret (v := 0) (ty := .boolean) (i := 26) rfl rfl (by decide) ?_
          obtain ⟨rfl, rfl⟩ := ky_leaf e
          exact hr _ hmh8 frh8
        · replace e := ky_ifF c12 e
          refine v_aload_n (i := 21) (j := 0) rfl rfl (?_ : ky_V _ _ _ 39 _ _ _ _)
          refine v_iconst (v := 4) (i := 22) rfl (by decide) (?_ : ky_V _ _ _ 40 _ _ _ _)
          obtain ⟨⟨q14, x15⟩, g16, e⟩ := Option.bind_eq_some_iff.mp e
          refine cl_X4_90 (As := [.int 4]) rfl (i := 23) rfl (oc_X4 hmh8 (ly_X4_c (lt_X4 frh8 za))) rfl rfl (Nat.le_of_ble_eq_true rfl) (k_X4_put N hG hmh8 g16 (fun h13 hmh13 frh13 => ⟨_, rfl, (?_ : ky_V _ _ _ 43 _ [.int x15] _ _)⟩))
          have frh13 := frh8.tr frh13
          refine v_if_ne (tgt := 48) (i := 24) rfl (by decide) (fun c17 => ?_) (fun c17 => ?_)
          · replace e := ky_ifF c17 e
            obtain ⟨x18, ex18⟩ : ∃ z : Int32, z = p3 + 1 := ⟨_, rfl⟩
            replace e := ky_letE ex18 e
            refine v_iinc (v := x18) (j := 3) (L' := [(0, .ref a), (1, .ref a1_), (2, .int p2), (3, .int x18)]) [1, 2, 3, 0] (i := 27) rfl rfl (by rw [ex18]; rfl) (Nat.le_of_ble_eq_true rfl) rfl (?_ : ky_V _ _ _ 51 _ _ _ _)
            refine v_goto (tgt := 13) (i := 28) rfl (by decide) (?_ : ky_V _ _ _ 13 _ _ _ _)
            exact ih h13 q14 p2 x18 hmh13 frh13 e
          · replace e := ky_ifT c17 e
            refine v_iconst (v := 0) (i := 25) rfl (by decide) (?_ : ky_V _ _ _ 47 _ _ _ _)
            refine v_iret (v := 0) (ty := .boolean) (i := 26) rfl rfl (by decide) ?_
            obtain ⟨rfl, rfl⟩ := ky_leaf e
            exact hr _ hmh13 frh13

def x4_readCondition (N : Nat) (A : sk_S → Nat → Nat → Int32 → Option (sk_S × Int32)) (s : sk_S) (a : Nat) (a1_ : Nat) (p2 : Int32) : Option (sk_S × Int32) := (if lay_X4 (sk_K s) (sk_r s) a = true then (if lay_X9 (sk_K s) (sk_r s) a1_ = true then ((x4_readAll N A s a a1_ p2).bind (fun zz => (fun q2 x3 => (if x3 = 0 then (some (q2, 0)) else (x4_readCondition_L13 N A a a1_ (fun q7 x8 x9 => (some (q7, 1))) N q2 p2 0))) zz.1 zz.2)) else none) else none)
set_option maxRecDepth 20000 in
set_option maxHeartbeats 4000000 in
theorem k_X4_readCondition {G : ky_GW} {d : Nat} {h : ky_HP} {Q : ky_RS → ky_HP → Prop} {s s9 : sk_S} {r9 : Int32} {a : Nat} {a1_ : Nat} {p2 : Int32} (N : Nat) (hG : ky_OK G) (A : sk_S → Nat → Nat → Int32 → Option (sk_S × Int32)) (hA : ∀ (h : ky_HP) (s s9 : sk_S) (a a1_ : Nat) (p2 : Int32) (r9 : Int32) (Q : ky_RS → ky_HP → Prop), sk_hp G s h → A s a a1_ p2 = some (s9, r9) → (∀ h1, sk_hp G s9 h1 → sk_fr none s h s9 h1 → Q (.inl (some (.int r9))) h1) → ky_Call G (d + 20) M_X4_readAtom [.ref a, .ref a1_, .int p2] h Q) (hm : sk_hp G s h)  (e : x4_readCondition N A s a a1_ p2 = some (s9, r9)) (hr : ∀ h1, sk_hp G s9 h1 → sk_fr none s h s9 h1 → Q (.inl (some (.int r9))) h1) : ky_Call G (d + 22) M_X4_readCondition [.ref a, .ref a1_, .int p2] h Q := by
  refine ky_ofV (by decide +kernel) rfl ok_X4_readCondition (Nat.le_of_ble_eq_true rfl) ?_
  have fr : sk_fr none s h s h := sk_fr.rf
  unfold x4_readCondition at e
  refine (?_ : ky_V _ _ _ 0 [(0, .ref a), (1, .ref a1_), (2, .int p2)] [] _ _)
  obtain ⟨za, e⟩ := ky_chkE e
  obtain ⟨za1_, e⟩ := ky_chkE e
  refine v_aload_n (i := 0) (j := 0) rfl rfl (?_ : ky_V _ _ _ 1 _ _ _ _)
  refine v_aload_n (i := 1) (j := 1) rfl rfl (?_ : ky_V _ _ _ 2 _ _ _ _)
  refine v_iload_n (i := 2) (j := 2) rfl rfl (?_ : ky_V _ _ _ 3 _ _ _ _)
  obtain ⟨⟨q2, x3⟩, g4, e⟩ := Option.bind_eq_some_iff.mp e
  refine cl_X4_85 (As := [.ref a1_, .int p2]) rfl (i := 3) rfl (oc_X4 hm (ly_X4_c za)) rfl rfl (Nat.le_of_ble_eq_true rfl) (k_X4_readAll N hG A hA hm g4 (fun h1 hmh1 frh1 => ⟨_, rfl, (?_ : ky_V _ _ _ 6 _ [.int x3] _ _)⟩))
  have frh1 := fr.tr frh1
  refine v_if_ne (tgt := 11) (i := 4) rfl (by decide) (fun c5 => ?_) (fun c5 => ?_)
  · replace e := ky_ifF c5 e
    refine v_iconst (v := 0) (i := 7) rfl (by decide) (?_ : ky_V _ _ _ 12 _ _ _ _)
    refine v_istore_n (L' := [(0, .ref a), (1, .ref a1_), (2, .int p2), (3, .int 0)]) [1, 2, 3, 0] (i := 8) rfl (Nat.le_of_ble_eq_true rfl) rfl (?_ : ky_V _ _ _ 13 _ _ _ _)
    refine lv_X4_readCondition_13 N hG A a a1_ hA za za1_ hm _ hr (fun h6 q7 x8 x9 hmh6 frh6 e => ?_) N h1 q2 p2 0 hmh1 frh1 e
    refine v_iconst (v := 1) (i := 29) rfl (by decide) (?_ : ky_V _ _ _ 55 _ _ _ _)
    refine v_iret (v := 1) (ty := .boolean) (i := 30) rfl rfl (by decide) ?_
    obtain ⟨rfl, rfl⟩ := ky_leaf e
    exact hr _ hmh6 frh6
  · replace e := ky_ifT c5 e
    refine v_iconst (v := 0) (i := 5) rfl (by decide) (?_ : ky_V _ _ _ 10 _ _ _ _)
    refine v_iret (v := 0) (ty := .boolean) (i := 6) rfl rfl (by decide) ?_
    obtain ⟨rfl, rfl⟩ := ky_leaf e
    exact hr _ hmh1 frh1

def x4_readAtom (N : Nat) : Nat → sk_S → Nat → Nat → Int32 → Option (sk_S × Int32)
  | 0, _, _, _, _ => none
  | n + 1, s, a, a1_, p2 => (if lay_X4 (sk_K s) (sk_r s) a = true then (if lay_X9 (sk_K s) (sk_r s) a1_ = true then ((x9_takeWord N s a1_ ([110, 111, 116] : List Int32)).bind (fun zz => (fun q3 x4 => (if x4 = 0 then ((x9_takeSign N q3 a1_ 40).bind (fun zz => (fun q8 x9 => (if x9 = 0 then ((x9_takeWord N q8 a1_ ([108, 121, 105, 110, 103] : List Int32)).bind (fun zz => (fun q14 x15 => (if x15 = 0 then ((j7_fill_53178 N q14 (a + 5) 0).bind (fun zz => (fun q19 x20 => ((x4_readSum N q19 a a1_ 1).bind (fun zz => (fun q23 x24 => (if x24 = 0 then (some (q23, 0)) else ((x9_takeSign N q23 a1_ 60).bind (fun zz => (fun q28 x29 => (if x29 = 0 then ((x9_takeSign N q28 a1_ 62).bind (fun zz => (fun q49 x50 => (if x50 = 0 then (some (q49, 0)) else ((x4_readSum N q49 a a1_ (-1)).bind (fun zz => (fun q54 x55 => (if x55 = 0 then (some (q54, 0)) else (if x29 = 0 then ((x4_putComparison N q54 a (-1)).bind (fun zz => (fun q60 x61 => (if x61 = 0 then (some (q60, 0)) else (some (q60, 1)))) zz.1 zz.2)) else ((x4_putComparison N q54 a 1).bind (fun zz => (fun q65 x66 => (if x66 = 0 then (some (q65, 0)) else (some (q65, 1)))) zz.1 zz.2))))) zz.1 zz.2)))) zz.1 zz.2)) else ((x4_readSum N q28 a a1_ (-1)).bind (fun zz => (fun q33 x34 => (if x34 = 0 then (some (q33, 0)) else (if x29 = 0 then ((x4_putComparison N q33 a (-1)).bind (fun zz => (fun q39 x40 => (if x40 = 0 then (some (q39, 0)) else (some (q39, 1)))) zz.1 zz.2)) else ((x4_putComparison N q33 a 1).bind (fun zz => (fun q44 x45 => (if x45 = 0 then (some (q44, 0)) else (some (q44, 1)))) zz.1 zz.2))))) zz.1 zz.2)))) zz.1 zz.2)))) zz.1 zz.2))) zz.1 zz.2)) else ((x4_put N q14 a 1).bind (fun zz => (fun q70 x71 => (if (x71 = 0 ∨ x71 = 1) then (some (q70, x71)) else none)) zz.1 zz.2)))) zz.1 zz.2)) else (if (6 : Int32) ≤ p2 then ((x9_refuse N q8 a1_).bind (fun zz => (fun q76 x77 => (if (x77 = 0 ∨ x77 = 1) then (some (q76, x77)) else none)) zz.1 zz.2)) else ((x4_readCondition N (x4_readAtom N n) q8 a a1_ (p2 + 1)).bind (fun zz => (fun q81 x82 => (if x82 = 0 then (some (q81, 0)) else ((x9_takeSign N q81 a1_ 41).bind (fun zz => (fun q86 x87 => (if x87 = 0 then (some (q86, 0)) else (some (q86, 1)))) zz.1 zz.2)))) zz.1 zz.2))))) zz.1 zz.2)) else (if (6 : Int32) ≤ p2 then ((x9_refuse N q3 a1_).bind (fun zz => (fun q92 x93 => (if (x93 = 0 ∨ x93 = 1) then (some (q92, x93)) else none)) zz.1 zz.2)) else ((x4_readAtom N n q3 a a1_ (p2 + 1)).bind (fun zz => (fun q97 x98 => (if x98 = 0 then (some (q97, 0)) else ((x4_put N q97 a 2).bind (fun zz => (fun q102 x103 => (if x103 = 0 then (some (q102, 0)) else (some (q102, 1)))) zz.1 zz.2)))) zz.1 zz.2))))) zz.1 zz.2)) else none) else none)
set_option maxRecDepth 20000 in
set_option maxHeartbeats 4000000 in
theorem k_X4_readAtom {G : ky_GW} (N : Nat) (hG : ky_OK G) : ∀ (n D : Nat), 3 * n + 20 ≤ D → ∀ (h : ky_HP) (s s9 : sk_S) (a : Nat) (a1_ : Nat) (p2 : Int32) (r9 : Int32) (Q : ky_RS → ky_HP → Prop), sk_hp G s h → x4_readAtom N n s a a1_ p2 = some (s9, r9) → (∀ h1, sk_hp G s9 h1 → sk_fr none s h s9 h1 → Q (.inl (some (.int r9))) h1) → ky_Call G D M_X4_readAtom [.ref a, .ref a1_, .int p2] h Q := by
  intro n
  induction n with
  | zero => intro D hD h s s9 a a1_ p2 r9 Q hm e hr; cases e
  | succ n ih =>
    intro D hD h s s9 a a1_ p2 r9 Q hm e hr
    obtain ⟨d, rfl⟩ : ∃ z, D = z + 23 := ⟨D - 23, by omega⟩
    have ihA := ih (d + 22) (by omega)
    have ihB := ih (d + 20) (by omega)
    refine ky_ofV (by decide +kernel) rfl ok_X4_readAtom (Nat.le_of_ble_eq_true rfl) ?_
    have fr : sk_fr none s h s h := sk_fr.rf
    rw [x4_readAtom] at e
    refine (?_ : ky_V _ _ _ 0 [(0, .ref a), (1, .ref a1_), (2, .int p2)] [] _ _)
    obtain ⟨za, e⟩ := ky_chkE e
    obtain ⟨za1_, e⟩ := ky_chkE e
    refine v_aload_n (i := 0) (j := 1) rfl rfl (?_ : ky_V _ _ _ 1 _ _ _ _)
    obtain ⟨s1, hvs1, hss1⟩ := sg_X4_99 hG
    refine v_ldcS (i := 1) hvs1 rfl (?_ : ky_V _ _ _ 3 _ _ _ _)
    obtain ⟨⟨q3, x4⟩, g5, e⟩ := Option.bind_eq_some_iff.mp e
    refine cl_X4_77 (As := [.ref s1]) rfl (i := 2) rfl (oc_X9 hm (ly_X9_c za1_)) rfl rfl (Nat.le_of_ble_eq_true rfl) (k_X9_takeWord N hG hm hss1 g5 (fun h2 hmh2 frh2 => ⟨_, rfl, (?_ : ky_V _ _ _ 6 _ [.int x4] _ _)⟩))
    have frh2 := fr.tr frh2
    refine v_if_eq (tgt := 47) (i := 3) rfl (by decide) (fun c6 => ?_) (fun c6 => ?_)
    · replace e := ky_ifT c6 e
      refine v_aload_n (i := 25) (j := 1) rfl rfl (?_ : ky_V _ _ _ 48 _ _ _ _)
      refine v_bipush (v := 40) (i := 26) rfl (by decide) (?_ : ky_V _ _ _ 50 _ _ _ _)
      obtain ⟨⟨q8, x9⟩, g10, e⟩ := Option.bind_eq_some_iff.mp e
      refine cl_X4_58 (As := [.int 40]) rfl (i := 27) rfl (oc_X9 hmh2 (ly_X9_c (lt_X9 frh2 za1_))) rfl rfl (Nat.le_of_ble_eq_true rfl) (k_X9_takeSign N hG hmh2 g10 (fun h7 hmh7 frh7 => ⟨_, rfl, (?_ : ky_V _ _ _ 53 _ [.int x9] _ _)⟩))
      have frh7 := frh2.tr frh7
      refine v_if_eq (tgt := 95) (i := 28) rfl (by decide) (fun c11 => ?_) (fun c11 => ?_)
      · replace e := ky_ifT c11 e
        refine v_aload_n (i := 50) (j := 1) rfl rfl (?_ : ky_V _ _ _ 96 _ _ _ _)
        obtain ⟨s12, hvs12, hss12⟩ := sg_X4_104 hG
        refine v_ldcS (i := 51) hvs12 rfl (?_ : ky_V _ _ _ 98 _ _ _ _)
        obtain ⟨⟨q14, x15⟩, g16, e⟩ := Option.bind_eq_some_iff.mp e
        refine cl_X4_77 (As := [.ref s12]) rfl (i := 52) rfl (oc_X9 hmh7 (ly_X9_c (lt_X9 frh7 za1_))) rfl rfl (Nat.le_of_ble_eq_true rfl) (k_X9_takeWord N hG hmh7 hss12 g16 (fun h13 hmh13 frh13 => ⟨_, rfl, (?_ : ky_V _ _ _ 101 _ [.int x15] _ _)⟩))
        have frh13 := frh7.tr frh13
        refine v_if_eq (tgt := 110) (i := 53) rfl (by decide) (fun c17 => ?_) (fun c17 => ?_)
        · replace e := ky_ifT c17 e
          refine v_aload_n (i := 58) (j := 0) rfl rfl (?_ : ky_V _ _ _ 111 _ _ _ _)
          refine gf_X4_28 rfl (i := 59) rfl (oc_X4 hmh13 (ly_X4_c (lt_X4 frh13 za))) (sk_rf (ly_X4_r4 (lt_X4 frh13 za))) (?_ : ky_V _ _ _ 114 _ (.ref (a + 5) :: _) _ _)
          refine v_iconst (v := 0) (i := 60) rfl (by decide) (?_ : ky_V _ _ _ 115 _ _ _ _)
          obtain ⟨⟨q19, x20⟩, g21, e⟩ := Option.bind_eq_some_iff.mp e
          refine cl_X4_106 (As := [.ref ((a + 5)), .int 0]) rfl (i := 61) rfl rfl rfl (Nat.le_of_ble_eq_true rfl) (k_J7_fill_53178 N hG hmh13 g21 (fun h18 hmh18 frh18 => ⟨_, rfl, (?_ : ky_V _ _ _ 118 _ [] _ _)⟩))
          have frh18 := frh13.tr frh18
          refine v_aload_n (i := 62) (j := 0) rfl rfl (?_ : ky_V _ _ _ 119 _ _ _ _)
          refine v_aload_n (i := 63) (j := 1) rfl rfl (?_ : ky_V _ _ _ 120 _ _ _ _)
          refine v_iconst (v := 1) (i := 64) rfl (by decide) (?_ : ky_V _ _ _ 121 _ _ _ _)
          obtain ⟨⟨q23, x24⟩, g25, e⟩ := Option.bind_eq_some_iff.mp e
          refine cl_X4_110 (As := [.ref a1_, .int 1]) rfl (i := 65) rfl (oc_X4 hmh18 (ly_X4_c (lt_X4 frh18 za))) rfl rfl (Nat.le_of_ble_eq_true rfl) (k_X4_readSum N hG hmh18 g25 (fun h22 hmh22 frh22 => ⟨_, rfl, (?_ : ky_V _ _ _ 124 _ [.int x24] _ _)⟩))
          have frh22 := frh18.tr frh22
          refine v_if_ne (tgt := 129) (i := 66) rfl (by decide) (fun c26 => ?_) (fun c26 => ?_)
          · replace e := ky_ifF c26 e
            refine v_aload_n (i := 69) (j := 1) rfl rfl (?_ : ky_V _ _ _ 130 _ _ _ _)
            refine v_bipush (v := 60) (i := 70) rfl (by decide) (?_ : ky_V _ _ _ 132 _ _ _ _)
            obtain ⟨⟨q28, x29⟩, g30, e⟩ := Option.bind_eq_some_iff.mp e
            refine cl_X4_58 (As := [.int 60]) rfl (i := 71) rfl (oc_X9 hmh22 (ly_X9_c (lt_X9 frh22 za1_))) rfl rfl (Nat.le_of_ble_eq_true rfl) (k_X9_takeSign N hG hmh22 g30 (fun h27 hmh27 frh27 => ⟨_, rfl, (?_ : ky_V _ _ _ 135 _ [.int x29] _ _)⟩))
            have frh27 := frh22.tr frh27
            refine v_istore_n (L' := [(0, .ref a), (1, .ref a1_), (2, .int p2), (3, .int x29)]) [1, 2, 3, 0] (i := 72) rfl (Nat.le_of_ble_eq_true rfl) rfl (?_ : ky_V _ _ _ 136 _ _ _ _)
            refine v_iload_n (i := 73) (j := 3) rfl rfl (?_ : ky_V _ _ _ 137 _ _ _ _)
            refine v_if_ne (tgt := 151) (i := 74) rfl (by decide) (fun c31 => ?_) (fun c31 => ?_)
            · replace e := ky_ifF c31 e
              refine v_aload_n (i := 81) (j := 0) rfl rfl (?_ : ky_V _ _ _ 152 _ _ _ _)
              refine v_aload_n (i := 82) (j := 1) rfl rfl (?_ : ky_V _ _ _ 153 _ _ _ _)
              refine v_iconst (v := (-1)) (i := 83) rfl (by decide) (?_ : ky_V _ _ _ 154 _ _ _ _)
              obtain ⟨⟨q33, x34⟩, g35, e⟩ := Option.bind_eq_some_iff.mp e
              refine cl_X4_110 (As := [.ref a1_, .int (-1)]) rfl (i := 84) rfl (oc_X4 hmh27 (ly_X4_c (lt_X4 frh27 za))) rfl rfl (Nat.le_of_ble_eq_true rfl) (k_X4_readSum N hG hmh27 g35 (fun h32 hmh32 frh32 => ⟨_, rfl, (?_ : ky_V _ _ _ 157 _ [.int x34] _ _)⟩))
              have frh32 := frh27.tr frh32
              refine v_if_eq (tgt := 180) (i := 85) rfl (by decide) (fun c36 => ?_) (fun c36 => ?_)
              · replace e := ky_ifT c36 e
                refine v_iconst (v := 0) (i := 96) rfl (by decide) (?_ : ky_V _ _ _ 181 _ _ _ _)
                refine v_iret (v := 0) (ty := .boolean) (i := 97) rfl rfl (by decide) ?_
                obtain ⟨rfl, rfl⟩ := ky_leaf e
                exact hr _ hmh32 frh32
              · replace e := ky_ifF c36 e
                refine v_aload_n (i := 86) (j := 0) rfl rfl (?_ : ky_V _ _ _ 161 _ _ _ _)
                refine v_iload_n (i := 87) (j := 3) rfl rfl (?_ : ky_V _ _ _ 162 _ _ _ _)
                refine v_if_eq (tgt := 169) (i := 88) rfl (by decide) (fun c37 => ?_) (fun c37 => ?_)
                · replace e := ky_ifT c37 e
                  refine v_iconst (v := (-1)) (i := 91) rfl (by decide) (?_ : ky_V _ _ _ 170 _ _ _ _)
                  obtain ⟨⟨q39, x40⟩, g41, e⟩ := Option.bind_eq_some_iff.mp e
                  refine cl_X4_113 (As := [.int (-1)]) rfl (i := 92) rfl (oc_X4 hmh32 (ly_X4_c (lt_X4 frh32 za))) rfl rfl (Nat.le_of_ble_eq_true rfl) (k_X4_putComparison N hG hmh32 g41 (fun h38 hmh38 frh38 => ⟨_, rfl, (?_ : ky_V _ _ _ 173 _ [.int x40] _ _)⟩))
                  have frh38 := frh32.tr frh38
                  refine v_if_eq (tgt := 180) (i := 93) rfl (by decide) (fun c42 => ?_) (fun c42 => ?_)
                  · replace e := ky_ifT c42 e
                    refine v_iconst (v := 0) (i := 96) rfl (by decide) (?_ : ky_V _ _ _ 181 _ _ _ _)
                    refine v_iret (v := 0) (ty := .boolean) (i := 97) rfl rfl (by decide) ?_
                    obtain ⟨rfl, rfl⟩ := ky_leaf e
                    exact hr _ hmh38 frh38
                  · replace e := ky_ifF c42 e
                    refine v_iconst (v := 1) (i := 94) rfl (by decide) (?_ : ky_V _ _ _ 177 _ _ _ _)
                    refine v_goto (tgt := 181) (i := 95) rfl (by decide) (?_ : ky_V _ _ _ 181 _ _ _ _)
                    refine v_iret (v := 1) (ty := .boolean) (i := 97) rfl rfl (by decide) ?_
                    obtain ⟨rfl, rfl⟩ := ky_leaf e
                    exact hr _ hmh38 frh38
                · replace e := ky_ifF c37 e
                  refine v_iconst (v := 1) (i := 89) rfl (by decide) (?_ : ky_V _ _ _ 166 _ _ _ _)
                  refine v_goto (tgt := 170) (i := 90) rfl (by decide) (?_ : ky_V _ _ _ 170 _ _ _ _)
                  obtain ⟨⟨q44, x45⟩, g46, e⟩ := Option.bind_eq_some_iff.mp e
                  refine cl_X4_113 (As := [.int 1]) rfl (i := 92) rfl (oc_X4 hmh32 (ly_X4_c (lt_X4 frh32 za))) rfl rfl (Nat.le_of_ble_eq_true rfl) (k_X4_putComparison N hG hmh32 g46 (fun h43 hmh43 frh43 => ⟨_, rfl, (?_ : ky_V _ _ _ 173 _ [.int x45] _ _)⟩))
                  have frh43 := frh32.tr frh43
                  refine v_if_eq (tgt := 180) (i := 93) rfl (by decide) (fun c47 => ?_) (fun c47 => ?_)
                  · replace e := ky_ifT c47 e
                    refine v_iconst (v := 0) (i := 96) rfl (by decide) (?_ : ky_V _ _ _ 181 _ _ _ _)
                    refine v_iret (v := 0) (ty := .boolean) (i := 97) rfl rfl (by decide) ?_
                    obtain ⟨rfl, rfl⟩ := ky_leaf e
                    exact hr _ hmh43 frh43
                  · replace e := ky_ifF c47 e
                    refine v_iconst (v := 1) (i := 94) rfl (by decide) (?_ : ky_V _ _ _ 177 _ _ _ _)
                    refine v_goto (tgt := 181) (i := 95) rfl (by decide) (?_ : ky_V _ _ _ 181 _ _ _ _)
                    refine v_iret (v := 1) (ty := .boolean) (i := 97) rfl rfl (by decide) ?_
                    obtain ⟨rfl, rfl⟩ := ky_leaf e
                    exact hr _ hmh43 frh43
            · replace e := ky_ifT c31 e
              refine v_aload_n (i := 75) (j := 1) rfl rfl (?_ : ky_V _ _ _ 141 _ _ _ _)
              refine v_bipush (v := 62) (i := 76) rfl (by decide) (?_ : ky_V _ _ _ 143 _ _ _ _)
              obtain ⟨⟨q49, x50⟩, g51, e⟩ := Option.bind_eq_some_iff.mp e
              refine cl_X4_58 (As := [.int 62]) rfl (i := 77) rfl (oc_X9 hmh27 (ly_X9_c (lt_X9 frh27 za1_))) rfl rfl (Nat.le_of_ble_eq_true rfl) (k_X9_takeSign N hG hmh27 g51 (fun h48 hmh48 frh48 => ⟨_, rfl, (?_ : ky_V _ _ _ 146 _ [.int x50] _ _)⟩))
              have frh48 := frh27.tr frh48
              refine v_if_ne (tgt := 151) (i := 78) rfl (by decide) (fun c52 => ?_) (fun c52 => ?_)
              · replace e := ky_ifF c52 e
                refine v_aload_n (i := 81) (j := 0) rfl rfl (?_ : ky_V _ _ _ 152 _ _ _ _)
                refine v_aload_n (i := 82) (j := 1) rfl rfl (?_ : ky_V _ _ _ 153 _ _ _ _)
                refine v_iconst (v := (-1)) (i := 83) rfl (by decide) (?_ : ky_V _ _ _ 154 _ _ _ _)
                obtain ⟨⟨q54, x55⟩, g56, e⟩ := Option.bind_eq_some_iff.mp e
                refine cl_X4_110 (As := [.ref a1_, .int (-1)]) rfl (i := 84) rfl (oc_X4 hmh48 (ly_X4_c (lt_X4 frh48 za))) rfl rfl (Nat.le_of_ble_eq_true rfl) (k_X4_readSum N hG hmh48 g56 (fun h53 hmh53 frh53 => ⟨_, rfl, (?_ : ky_V _ _ _ 157 _ [.int x55] _ _)⟩))
                have frh53 := frh48.tr frh53
                refine v_if_eq (tgt := 180) (i := 85) rfl (by decide) (fun c57 => ?_) (fun c57 => ?_)
                · replace e := ky_ifT c57 e
                  refine v_iconst (v := 0) (i := 96) rfl (by decide) (?_ : ky_V _ _ _ 181 _ _ _ _)
                  refine v_iret (v := 0) (ty := .boolean) (i := 97) rfl rfl (by decide) ?_
                  obtain ⟨rfl, rfl⟩ := ky_leaf e
                  exact hr _ hmh53 frh53
                · replace e := ky_ifF c57 e
                  refine v_aload_n (i := 86) (j := 0) rfl rfl (?_ : ky_V _ _ _ 161 _ _ _ _)
                  refine v_iload_n (i := 87) (j := 3) rfl rfl (?_ : ky_V _ _ _ 162 _ _ _ _)
                  refine v_if_eq (tgt := 169) (i := 88) rfl (by decide) (fun c58 => ?_) (fun c58 => ?_)
                  · replace e := ky_ifT c58 e
                    refine v_iconst (v := (-1)) (i := 91) rfl (by decide) (?_ : ky_V _ _ _ 170 _ _ _ _)
                    obtain ⟨⟨q60, x61⟩, g62, e⟩ := Option.bind_eq_some_iff.mp e
                    refine cl_X4_113 (As := [.int (-1)]) rfl (i := 92) rfl (oc_X4 hmh53 (ly_X4_c (lt_X4 frh53 za))) rfl rfl (Nat.le_of_ble_eq_true rfl) (k_X4_putComparison N hG hmh53 g62 (fun h59 hmh59 frh59 => ⟨_, rfl, (?_ : ky_V _ _ _ 173 _ [.int x61] _ _)⟩))
                    have frh59 := frh53.tr frh59
                    refine v_if_eq (tgt := 180) (i := 93) rfl (by decide) (fun c63 => ?_) (fun c63 => ?_)
                    · replace e := ky_ifT c63 e
                      refine v_iconst (v := 0) (i := 96) rfl (by decide) (?_ : ky_V _ _ _ 181 _ _ _ _)
                      refine v_iret (v := 0) (ty := .boolean) (i := 97) rfl rfl (by decide) ?_
                      obtain ⟨rfl, rfl⟩ := ky_leaf e
                      exact hr _ hmh59 frh59
                    · replace e := ky_ifF c63 e
                      refine v_iconst (v := 1) (i := 94) rfl (by decide) (?_ : ky_V _ _ _ 177 _ _ _ _)
                      refine v_goto (tgt := 181) (i := 95) rfl (by decide) (?_ : ky_V _ _ _ 181 _ _ _ _)
                      refine v_iret (v := 1) (ty := .boolean) (i := 97) rfl rfl (by decide) ?_
                      obtain ⟨rfl, rfl⟩ := ky_leaf e
                      exact hr _ hmh59 frh59
                  · replace e := ky_ifF c58 e
                    refine v_iconst (v := 1) (i := 89) rfl (by decide) (?_ : ky_V _ _ _ 166 _ _ _ _)
                    refine v_goto (tgt := 170) (i := 90) rfl (by decide) (?_ : ky_V _ _ _ 170 _ _ _ _)
                    obtain ⟨⟨q65, x66⟩, g67, e⟩ := Option.bind_eq_some_iff.mp e
                    refine cl_X4_113 (As := [.int 1]) rfl (i := 92) rfl (oc_X4 hmh53 (ly_X4_c (lt_X4 frh53 za))) rfl rfl (Nat.le_of_ble_eq_true rfl) (k_X4_putComparison N hG hmh53 g67 (fun h64 hmh64 frh64 => ⟨_, rfl, (?_ : ky_V _ _ _ 173 _ [.int x66] _ _)⟩))
                    have frh64 := frh53.tr frh64
                    refine v_if_eq (tgt := 180) (i := 93) rfl (by decide) (fun c68 => ?_) (fun c68 => ?_)
                    · replace e := ky_ifT c68 e
                      refine v_iconst (v := 0) (i := 96) rfl (by decide) (?_ : ky_V _ _ _ 181 _ _ _ _)
                      refine v_iret (v := 0) (ty := .boolean) (i := 97) rfl rfl (by decide) ?_
                      obtain ⟨rfl, rfl⟩ := ky_leaf e
                      exact hr _ hmh64 frh64
                    · replace e := ky_ifF c68 e
                      refine v_iconst (v := 1) (i := 94) rfl (by decide) (?_ : ky_V _ _ _ 177 _ _ _ _)
                      refine v_goto (tgt := 181) (i := 95) rfl (by decide) (?_ : ky_V _ _ _ 181 _ _ _ _)
                      refine v_iret (v := 1) (ty := .boolean) (i := 97) rfl rfl (by decide) ?_
                      obtain ⟨rfl, rfl⟩ := ky_leaf e
                      exact hr _ hmh64 frh64
              · replace e := ky_ifT c52 e
                refine v_iconst (v := 0) (i := 79) rfl (by decide) (?_ : ky_V _ _ _ 150 _ _ _ _)
                refine v_iret (v := 0) (ty := .boolean) (i := 80) rfl rfl (by decide) ?_
                obtain ⟨rfl, rfl⟩ := ky_leaf e
                exact hr _ hmh48 frh48
          · replace e := ky_ifT c26 e
            refine v_iconst (v := 0) (i := 67) rfl (by decide) (?_ : ky_V _ _ _ 128 _ _ _ _)
            refine v_iret (v := 0) (ty := .boolean) (i := 68) rfl rfl (by decide) ?_
            obtain ⟨rfl, rfl⟩ := ky_leaf e
            exact hr _ hmh22 frh22
        · replace e := ky_ifF c17 e
          refine v_aload_n (i := 54) (j := 0) rfl rfl (?_ : ky_V _ _ _ 105 _ _ _ _)
          refine v_iconst (v := 1) (i := 55) rfl (by decide) (?_ : ky_V _ _ _ 106 _ _ _ _)
          obtain ⟨⟨q70, x71⟩, g72, e⟩ := Option.bind_eq_some_iff.mp e
          refine cl_X4_90 (As := [.int 1]) rfl (i := 56) rfl (oc_X4 hmh13 (ly_X4_c (lt_X4 frh13 za))) rfl rfl (Nat.le_of_ble_eq_true rfl) (k_X4_put N hG hmh13 g72 (fun h69 hmh69 frh69 => ⟨_, rfl, (?_ : ky_V _ _ _ 109 _ [.int x71] _ _)⟩))
          have frh69 := frh13.tr frh69
          obtain ⟨z73, e⟩ := ky_chkE e
          refine v_iret (v := x71) (ty := .boolean) (i := 57) rfl rfl (ky_nb z73) ?_
          obtain ⟨rfl, rfl⟩ := ky_leaf e
          exact hr _ hmh69 frh69
      · replace e := ky_ifF c11 e
        refine v_iload_n (i := 29) (j := 2) rfl rfl (?_ : ky_V _ _ _ 57 _ _ _ _)
        refine v_bipush (v := 6) (i := 30) rfl (by decide) (?_ : ky_V _ _ _ 59 _ _ _ _)
        refine v_icmp_ge (tgt := 90) (i := 31) rfl (by decide) (fun c74 => ?_) (fun c74 => ?_)
        · replace e := ky_ifT c74 e
          refine v_aload_n (i := 47) (j := 1) rfl rfl (?_ : ky_V _ _ _ 91 _ _ _ _)
          obtain ⟨⟨q76, x77⟩, g78, e⟩ := Option.bind_eq_some_iff.mp e
          refine cl_X4_101 (As := []) rfl (i := 48) rfl (oc_X9 hmh7 (ly_X9_c (lt_X9 frh7 za1_))) rfl rfl (Nat.le_of_ble_eq_true rfl) (k_X9_refuse N hG hmh7 g78 (fun h75 hmh75 frh75 => ⟨_, rfl, (?_ : ky_V _ _ _ 94 _ [.int x77] _ _)⟩))
          have frh75 := frh7.tr frh75
          obtain ⟨z79, e⟩ := ky_chkE e
          refine v_iret (v := x77) (ty := .boolean) (i := 49) rfl rfl (ky_nb z79) ?_
          obtain ⟨rfl, rfl⟩ := ky_leaf e
          exact hr _ hmh75 frh75
        · replace e := ky_ifF c74 e
          refine v_aload_n (i := 32) (j := 0) rfl rfl (?_ : ky_V _ _ _ 63 _ _ _ _)
          refine v_aload_n (i := 33) (j := 1) rfl rfl (?_ : ky_V _ _ _ 64 _ _ _ _)
          refine v_iload_n (i := 34) (j := 2) rfl rfl (?_ : ky_V _ _ _ 65 _ _ _ _)
          refine v_iconst (v := 1) (i := 35) rfl (by decide) (?_ : ky_V _ _ _ 66 _ _ _ _)
          refine v_iadd (i := 36) rfl (?_ : ky_V _ _ _ 67 _ _ _ _)
          obtain ⟨⟨q81, x82⟩, g83, e⟩ := Option.bind_eq_some_iff.mp e
          refine cl_X4_81 (As := [.ref a1_, .int ((p2 + 1))]) rfl (i := 37) rfl (oc_X4 hmh7 (ly_X4_c (lt_X4 frh7 za))) rfl rfl (Nat.le_of_ble_eq_true rfl) (k_X4_readCondition (d := d) N hG (x4_readAtom N n) ihB hmh7 g83 (fun h80 hmh80 frh80 => ⟨_, rfl, (?_ : ky_V _ _ _ 70 _ [.int x82] _ _)⟩))
          have frh80 := frh7.tr frh80
          refine v_if_eq (tgt := 86) (i := 38) rfl (by decide) (fun c84 => ?_) (fun c84 => ?_)
          · replace e := ky_ifT c84 e
            refine v_iconst (v := 0) (i := 45) rfl (by decide) (?_ : ky_V _ _ _ 87 _ _ _ _)
            refine v_goto (tgt := 94) (i := 46) rfl (by decide) (?_ : ky_V _ _ _ 94 _ _ _ _)
            refine v_iret (v := 0) (ty := .boolean) (i := 49) rfl rfl (by decide) ?_
            obtain ⟨rfl, rfl⟩ := ky_leaf e
            exact hr _ hmh80 frh80
          · replace e := ky_ifF c84 e
            refine v_aload_n (i := 39) (j := 1) rfl rfl (?_ : ky_V _ _ _ 74 _ _ _ _)
            refine v_bipush (v := 41) (i := 40) rfl (by decide) (?_ : ky_V _ _ _ 76 _ _ _ _)
            obtain ⟨⟨q86, x87⟩, g88, e⟩ := Option.bind_eq_some_iff.mp e
            refine cl_X4_58 (As := [.int 41]) rfl (i := 41) rfl (oc_X9 hmh80 (ly_X9_c (lt_X9 frh80 za1_))) rfl rfl (Nat.le_of_ble_eq_true rfl) (k_X9_takeSign N hG hmh80 g88 (fun h85 hmh85 frh85 => ⟨_, rfl, (?_ : ky_V _ _ _ 79 _ [.int x87] _ _)⟩))
            have frh85 := frh80.tr frh85
            refine v_if_eq (tgt := 86) (i := 42) rfl (by decide) (fun c89 => ?_) (fun c89 => ?_)
            · replace e := ky_ifT c89 e
              refine v_iconst (v := 0) (i := 45) rfl (by decide) (?_ : ky_V _ _ _ 87 _ _ _ _)
              refine v_goto (tgt := 94) (i := 46) rfl (by decide) (?_ : ky_V _ _ _ 94 _ _ _ _)
              refine v_iret (v := 0) (ty := .boolean) (i := 49) rfl rfl (by decide) ?_
              obtain ⟨rfl, rfl⟩ := ky_leaf e
              exact hr _ hmh85 frh85
            · replace e := ky_ifF c89 e
              refine v_iconst (v := 1) (i := 43) rfl (by decide) (?_ : ky_V _ _ _ 83 _ _ _ _)
              refine v_goto (tgt := 94) (i := 44) rfl (by decide) (?_ : ky_V _ _ _ 94 _ _ _ _)
              refine v_iret (v := 1) (ty := .boolean) (i := 49) rfl rfl (by decide) ?_
              obtain ⟨rfl, rfl⟩ := ky_leaf e
              exact hr _ hmh85 frh85
    · replace e := ky_ifF c6 e
      refine v_iload_n (i := 4) (j := 2) rfl rfl (?_ : ky_V _ _ _ 10 _ _ _ _)
      refine v_bipush (v := 6) (i := 5) rfl (by decide) (?_ : ky_V _ _ _ 12 _ _ _ _)
      refine v_icmp_ge (tgt := 42) (i := 6) rfl (by decide) (fun c90 => ?_) (fun c90 => ?_)
      · replace e := ky_ifT c90 e
        refine v_aload_n (i := 22) (j := 1) rfl rfl (?_ : ky_V _ _ _ 43 _ _ _ _)
        obtain ⟨⟨q92, x93⟩, g94, e⟩ := Option.bind_eq_some_iff.mp e
        refine cl_X4_101 (As := []) rfl (i := 23) rfl (oc_X9 hmh2 (ly_X9_c (lt_X9 frh2 za1_))) rfl rfl (Nat.le_of_ble_eq_true rfl) (k_X9_refuse N hG hmh2 g94 (fun h91 hmh91 frh91 => ⟨_, rfl, (?_ : ky_V _ _ _ 46 _ [.int x93] _ _)⟩))
        have frh91 := frh2.tr frh91
        obtain ⟨z95, e⟩ := ky_chkE e
        refine v_iret (v := x93) (ty := .boolean) (i := 24) rfl rfl (ky_nb z95) ?_
        obtain ⟨rfl, rfl⟩ := ky_leaf e
        exact hr _ hmh91 frh91
      · replace e := ky_ifF c90 e
        refine v_aload_n (i := 7) (j := 0) rfl rfl (?_ : ky_V _ _ _ 16 _ _ _ _)
        refine v_aload_n (i := 8) (j := 1) rfl rfl (?_ : ky_V _ _ _ 17 _ _ _ _)
        refine v_iload_n (i := 9) (j := 2) rfl rfl (?_ : ky_V _ _ _ 18 _ _ _ _)
        refine v_iconst (v := 1) (i := 10) rfl (by decide) (?_ : ky_V _ _ _ 19 _ _ _ _)
        refine v_iadd (i := 11) rfl (?_ : ky_V _ _ _ 20 _ _ _ _)
        obtain ⟨⟨q97, x98⟩, g99, e⟩ := Option.bind_eq_some_iff.mp e
        refine cl_X4_94 (As := [.ref a1_, .int ((p2 + 1))]) rfl (i := 12) rfl (oc_X4 hmh2 (ly_X4_c (lt_X4 frh2 za))) rfl rfl (Nat.le_of_ble_eq_true rfl) (ihA _ _ _ _ _ _ _ _ hmh2 g99 (fun h96 hmh96 frh96 => ⟨_, rfl, (?_ : ky_V _ _ _ 23 _ [.int x98] _ _)⟩))
        have frh96 := frh2.tr frh96
        refine v_if_eq (tgt := 38) (i := 13) rfl (by decide) (fun c100 => ?_) (fun c100 => ?_)
        · replace e := ky_ifT c100 e
          refine v_iconst (v := 0) (i := 20) rfl (by decide) (?_ : ky_V _ _ _ 39 _ _ _ _)
          refine v_goto (tgt := 46) (i := 21) rfl (by decide) (?_ : ky_V _ _ _ 46 _ _ _ _)
          refine v_iret (v := 0) (ty := .boolean) (i := 24) rfl rfl (by decide) ?_
          obtain ⟨rfl, rfl⟩ := ky_leaf e
          exact hr _ hmh96 frh96
        · replace e := ky_ifF c100 e
          refine v_aload_n (i := 14) (j := 0) rfl rfl (?_ : ky_V _ _ _ 27 _ _ _ _)
          refine v_iconst (v := 2) (i := 15) rfl (by decide) (?_ : ky_V _ _ _ 28 _ _ _ _)
          obtain ⟨⟨q102, x103⟩, g104, e⟩ := Option.bind_eq_some_iff.mp e
          refine cl_X4_90 (As := [.int 2]) rfl (i := 16) rfl (oc_X4 hmh96 (ly_X4_c (lt_X4 frh96 za))) rfl rfl (Nat.le_of_ble_eq_true rfl) (k_X4_put N hG hmh96 g104 (fun h101 hmh101 frh101 => ⟨_, rfl, (?_ : ky_V _ _ _ 31 _ [.int x103] _ _)⟩))
          have frh101 := frh96.tr frh101
          refine v_if_eq (tgt := 38) (i := 17) rfl (by decide) (fun c105 => ?_) (fun c105 => ?_)
          · replace e := ky_ifT c105 e
            refine v_iconst (v := 0) (i := 20) rfl (by decide) (?_ : ky_V _ _ _ 39 _ _ _ _)
            refine v_goto (tgt := 46) (i := 21) rfl (by decide) (?_ : ky_V _ _ _ 46 _ _ _ _)
            refine v_iret (v := 0) (ty := .boolean) (i := 24) rfl rfl (by decide) ?_
            obtain ⟨rfl, rfl⟩ := ky_leaf e
            exact hr _ hmh101 frh101
          · replace e := ky_ifF c105 e
            refine v_iconst (v := 1) (i := 18) rfl (by decide) (?_ : ky_V _ _ _ 35 _ _ _ _)
            refine v_goto (tgt := 46) (i := 19) rfl (by decide) (?_ : ky_V _ _ _ 46 _ _ _ _)
            refine v_iret (v := 1) (ty := .boolean) (i := 24) rfl rfl (by decide) ?_
            obtain ⟨rfl, rfl⟩ := ky_leaf e
            exact hr _ hmh101 frh101

def x4_readCondT (N : Nat) (s : sk_S) (a a1_ : Nat) (p2 : Int32) : Option (sk_S × Int32) := x4_readCondition N (x4_readAtom N 8) s a a1_ p2
theorem k_X4_readCondT {G : ky_GW} {d : Nat} {h : ky_HP} {Q : ky_RS → ky_HP → Prop} {s s9 : sk_S} {r9 : Int32} {a a1_ : Nat} {p2 : Int32} (N : Nat) (hG : ky_OK G) (hm : sk_hp G s h) (e : x4_readCondT N s a a1_ p2 = some (s9, r9)) (hr : ∀ h1, sk_hp G s9 h1 → sk_fr none s h s9 h1 → Q (.inl (some (.int r9))) h1) : ky_Call G (d + 46) M_X4_readCondition [.ref a, .ref a1_, .int p2] h Q :=
  k_X4_readCondition (d := d + 24) N hG (x4_readAtom N 8) (k_X4_readAtom N hG 8 (d + 24 + 20) (by omega)) hm e hr

def x4_readLine (N : Nat)  (s : sk_S) (a : Nat) (a1_ : Nat) : Option (sk_S × Int32) := (if lay_X4 (sk_K s) (sk_r s) a = true then (if lay_X9 (sk_K s) (sk_r s) a1_ = true then (if (sk_c s a 5) < (12 : Int32) then ((x9_takeOneOf N s a1_ ([117, 112, 32, 100, 111, 119, 110, 32, 115, 116, 105, 114, 32, 115, 101, 116, 116, 108, 101] : List Int32)).bind (fun zz => (fun q4 x5 => (if x5 = (-1 : Int32) then (some (q4, 0)) else ((x9_takeNumber N q4 a1_ 0 9).bind (fun zz => (fun q9 x10 => (if x10 = 0 then (some (q9, 0)) else (if ky_inB (sk_c q9 a 5) 12 = true then (ky_let (sk_wc q9 (a + 1) (Int32.toNatClampNeg (sk_c q9 a 5)) x5) (fun q15 => (ky_let (sk_c q15 a1_ 2) (fun x16 => (if ky_inB (sk_c q15 a 5) 12 = true then (ky_let (sk_wc q15 (a + 2) (Int32.toNatClampNeg (sk_c q15 a 5)) x16) (fun q19 => ((x9_takeWord N q19 a1_ ([105, 102] : List Int32)).bind (fun zz => (fun q22 x23 => (if x23 = 0 then (ky_let ((sk_c q22 a 5) + 1) (fun x26 => (ky_let (sk_wc q22 a 5 x26) (fun q28 => (ky_let (sk_c q28 a 6) (fun x29 => (if ky_inB (sk_c q28 a 5) 13 = true then (ky_let (sk_wc q28 (a + 3) (Int32.toNatClampNeg (sk_c q28 a 5)) x29) (fun q32 => (some (q32, 1)))) else none))))))) else ((x4_readCondT N q22 a a1_ 0).bind (fun zz => (fun q34 x35 => (if x35 = 0 then (some (q34, 0)) else (ky_let ((sk_c q34 a 5) + 1) (fun x38 => (ky_let (sk_wc q34 a 5 x38) (fun q40 => (ky_let (sk_c q40 a 6) (fun x41 => (if ky_inB (sk_c q40 a 5) 13 = true then (ky_let (sk_wc q40 (a + 3) (Int32.toNatClampNeg (sk_c q40 a 5)) x41) (fun q44 => (some (q44, 1)))) else none))))))))) zz.1 zz.2)))) zz.1 zz.2)))) else none))))) else none))) zz.1 zz.2)))) zz.1 zz.2)) else (some (s, 0))) else none) else none)
set_option maxRecDepth 20000 in
set_option maxHeartbeats 4000000 in
theorem k_X4_readLine {G : ky_GW} {d : Nat} {h : ky_HP} {Q : ky_RS → ky_HP → Prop} {s s9 : sk_S} {r9 : Int32} {a : Nat} {a1_ : Nat} (N : Nat) (hG : ky_OK G)   (hm : sk_hp G s h)  (e : x4_readLine N  s a a1_ = some (s9, r9)) (hr : ∀ h1, sk_hp G s9 h1 → sk_fr none s h s9 h1 → Q (.inl (some (.int r9))) h1) : ky_Call G (d + 47) M_X4_readLine [.ref a, .ref a1_] h Q := by
  refine ky_ofV (by decide +kernel) rfl ok_X4_readLine (Nat.le_of_ble_eq_true rfl) ?_
  have fr : sk_fr none s h s h := sk_fr.rf
  unfold x4_readLine at e
  refine (?_ : ky_V _ _ _ 0 [(0, .ref a), (1, .ref a1_)] [] _ _)
  obtain ⟨za, e⟩ := ky_chkE e
  obtain ⟨za1_, e⟩ := ky_chkE e
  refine v_aload_n (i := 0) (j := 0) rfl rfl (?_ : ky_V _ _ _ 1 _ _ _ _)
  refine gf_X4_31 rfl (i := 1) rfl (oc_X4 hm (ly_X4_c za)) rfl (?_ : ky_V _ _ _ 4 _ _ _ _)
  refine v_bipush (v := 12) (i := 2) rfl (by decide) (?_ : ky_V _ _ _ 6 _ _ _ _)
  refine v_icmp_lt (tgt := 11) (i := 3) rfl (by decide) (fun c1 => ?_) (fun c1 => ?_)
  · replace e := ky_ifT c1 e
    refine v_aload_n (i := 6) (j := 1) rfl rfl (?_ : ky_V _ _ _ 12 _ _ _ _)
    obtain ⟨s2, hvs2, hss2⟩ := sg_X4_62 hG
    refine v_ldcS (i := 7) hvs2 rfl (?_ : ky_V _ _ _ 14 _ _ _ _)
    obtain ⟨⟨q4, x5⟩, g6, e⟩ := Option.bind_eq_some_iff.mp e
    refine cl_X4_64 (As := [.ref s2]) rfl (i := 8) rfl (oc_X9 hm (ly_X9_c za1_)) rfl rfl (Nat.le_of_ble_eq_true rfl) (k_X9_takeOneOf N hG hm hss2 g6 (fun h3 hmh3 frh3 => ⟨_, rfl, (?_ : ky_V _ _ _ 17 _ [.int x5] _ _)⟩))
    have frh3 := fr.tr frh3
    refine v_istore_n (L' := [(0, .ref a), (1, .ref a1_), (2, .int x5)]) [1, 2, 0] (i := 9) rfl (Nat.le_of_ble_eq_true rfl) rfl (?_ : ky_V _ _ _ 18 _ _ _ _)
    refine v_iload_n (i := 10) (j := 2) rfl rfl (?_ : ky_V _ _ _ 19 _ _ _ _)
    refine v_iconst (v := (-1)) (i := 11) rfl (by decide) (?_ : ky_V _ _ _ 20 _ _ _ _)
    refine v_icmp_eq (tgt := 33) (i := 12) rfl (by decide) (fun c7 => ?_) (fun c7 => ?_)
    · replace e := ky_ifT c7 e
      refine v_iconst (v := 0) (i := 18) rfl (by decide) (?_ : ky_V _ _ _ 34 _ _ _ _)
      refine v_iret (v := 0) (ty := .boolean) (i := 19) rfl rfl (by decide) ?_
      obtain ⟨rfl, rfl⟩ := ky_leaf e
      exact hr _ hmh3 frh3
    · replace e := ky_ifF c7 e
      refine v_aload_n (i := 13) (j := 1) rfl rfl (?_ : ky_V _ _ _ 24 _ _ _ _)
      refine v_iconst (v := 0) (i := 14) rfl (by decide) (?_ : ky_V _ _ _ 25 _ _ _ _)
      refine v_bipush (v := 9) (i := 15) rfl (by decide) (?_ : ky_V _ _ _ 27 _ _ _ _)
      obtain ⟨⟨q9, x10⟩, g11, e⟩ := Option.bind_eq_some_iff.mp e
      refine cl_X4_68 (As := [.int 0, .int 9]) rfl (i := 16) rfl (oc_X9 hmh3 (ly_X9_c (lt_X9 frh3 za1_))) rfl rfl (Nat.le_of_ble_eq_true rfl) (k_X9_takeNumber N hG hmh3 g11 (fun h8 hmh8 frh8 => ⟨_, rfl, (?_ : ky_V _ _ _ 30 _ [.int x10] _ _)⟩))
      have frh8 := frh3.tr frh8
      refine v_if_ne (tgt := 35) (i := 17) rfl (by decide) (fun c12 => ?_) (fun c12 => ?_)
      · replace e := ky_ifF c12 e
        refine v_aload_n (i := 20) (j := 0) rfl rfl (?_ : ky_V _ _ _ 36 _ _ _ _)
        refine gf_X4_13 rfl (i := 21) rfl (oc_X4 hmh8 (ly_X4_c (lt_X4 frh8 za))) (sk_rf (ly_X4_r0 (lt_X4 frh8 za))) (?_ : ky_V _ _ _ 39 _ (.ref (a + 1) :: _) _ _)
        refine v_aload_n (i := 22) (j := 0) rfl rfl (?_ : ky_V _ _ _ 40 _ _ _ _)
        refine gf_X4_31 rfl (i := 23) rfl (oc_X4 hmh8 (ly_X4_c (lt_X4 frh8 za))) rfl (?_ : ky_V _ _ _ 43 _ _ _ _)
        refine v_iload_n (i := 24) (j := 2) rfl rfl (?_ : ky_V _ _ _ 44 _ _ _ _)
        obtain ⟨z13, e⟩ := ky_chkE e
        refine v_iast (i := 25) rfl (oa_21 hmh8 (ly_X4_k0 (lt_X4 frh8 za))) (ky_inb z13) ?_
        refine sk_stc (kd := 20) hmh8 frh8 (ly_X4_k0 (lt_X4 frh8 za)) (Int32.toNatClampNeg (sk_c q9 a 5)) x5 (fun h14 hmh14 frh14 => ?_)
        obtain ⟨q15, eq15⟩ : ∃ z, z = (sk_wc q9 (a + 1) (Int32.toNatClampNeg (sk_c q9 a 5)) x5) := ⟨_, rfl⟩
        rw [← eq15] at hmh14 frh14
        replace e := ky_letE eq15 e
        refine (?_ : ky_V _ _ _ 45 _ _ _ _)
        refine v_aload_n (i := 26) (j := 0) rfl rfl (?_ : ky_V _ _ _ 46 _ _ _ _)
        refine gf_X4_17 rfl (i := 27) rfl (oc_X4 hmh14 (ly_X4_c (lt_X4 frh14 za))) (sk_rf (ly_X4_r1 (lt_X4 frh14 za))) (?_ : ky_V _ _ _ 49 _ (.ref (a + 2) :: _) _ _)
        refine v_aload_n (i := 28) (j := 0) rfl rfl (?_ : ky_V _ _ _ 50 _ _ _ _)
        refine gf_X4_31 rfl (i := 29) rfl (oc_X4 hmh14 (ly_X4_c (lt_X4 frh14 za))) rfl (?_ : ky_V _ _ _ 53 _ _ _ _)
        refine v_aload_n (i := 30) (j := 1) rfl rfl (?_ : ky_V _ _ _ 54 _ _ _ _)
        refine gf_X4_72 rfl (i := 31) rfl (oc_X9 hmh14 (ly_X9_c (lt_X9 frh14 za1_))) rfl (?_ : ky_V _ _ _ 57 _ _ _ _)
        refine v_topi (fun x16 ex16 => ?_)
        replace e := ky_letE ex16 e
        obtain ⟨z17, e⟩ := ky_chkE e
        refine v_iast (i := 32) rfl (oa_21 hmh14 (ly_X4_k1 (lt_X4 frh14 za))) (ky_inb z17) ?_
        refine sk_stc (kd := 20) hmh14 frh14 (ly_X4_k1 (lt_X4 frh14 za)) (Int32.toNatClampNeg (sk_c q15 a 5)) x16 (fun h18 hmh18 frh18 => ?_)
        obtain ⟨q19, eq19⟩ : ∃ z, z = (sk_wc q15 (a + 2) (Int32.toNatClampNeg (sk_c q15 a 5)) x16) := ⟨_, rfl⟩
        rw [← eq19] at hmh18 frh18
        replace e := ky_letE eq19 e
        refine (?_ : ky_V _ _ _ 58 _ _ _ _)
        refine v_aload_n (i := 33) (j := 1) rfl rfl (?_ : ky_V _ _ _ 59 _ _ _ _)
        obtain ⟨s20, hvs20, hss20⟩ := sg_X4_75 hG
        refine v_ldcS (i := 34) hvs20 rfl (?_ : ky_V _ _ _ 61 _ _ _ _)
        obtain ⟨⟨q22, x23⟩, g24, e⟩ := Option.bind_eq_some_iff.mp e
        refine cl_X4_77 (As := [.ref s20]) rfl (i := 35) rfl (oc_X9 hmh18 (ly_X9_c (lt_X9 frh18 za1_))) rfl rfl (Nat.le_of_ble_eq_true rfl) (k_X9_takeWord N hG hmh18 hss20 g24 (fun h21 hmh21 frh21 => ⟨_, rfl, (?_ : ky_V _ _ _ 64 _ [.int x23] _ _)⟩))
        have frh21 := frh18.tr frh21
        refine v_if_eq (tgt := 78) (i := 36) rfl (by decide) (fun c25 => ?_) (fun c25 => ?_)
        · replace e := ky_ifT c25 e
          refine v_aload_n (i := 44) (j := 0) rfl rfl (?_ : ky_V _ _ _ 79 _ _ _ _)
          refine v_dup (i := 45) rfl rfl (?_ : ky_V _ _ _ 80 _ _ _ _)
          refine gf_X4_31 rfl (i := 46) rfl (oc_X4 hmh21 (ly_X4_c (lt_X4 frh21 za))) rfl (?_ : ky_V _ _ _ 83 _ _ _ _)
          refine v_iconst (v := 1) (i := 47) rfl (by decide) (?_ : ky_V _ _ _ 84 _ _ _ _)
          refine v_iadd (i := 48) rfl (?_ : ky_V _ _ _ 85 _ _ _ _)
          refine v_topi (fun x26 ex26 => ?_)
          replace e := ky_letE ex26 e
          refine pf_X4_31 rfl (i := 49) rfl (oc_X4 hmh21 (ly_X4_c (lt_X4 frh21 za))) (Nat.le_of_ble_eq_true rfl) rfl rfl ?_
          refine sk_stc (kd := 4) (n := 0) hmh21 frh21 (ly_X4_c (lt_X4 frh21 za)) 5 x26 (fun h27 hmh27 frh27 => ?_)
          obtain ⟨q28, eq28⟩ : ∃ z, z = (sk_wc q22 a 5 x26) := ⟨_, rfl⟩
          rw [← eq28] at hmh27 frh27
          replace e := ky_letE eq28 e
          refine (?_ : ky_V _ _ _ 88 _ _ _ _)
          refine v_aload_n (i := 50) (j := 0) rfl rfl (?_ : ky_V _ _ _ 89 _ _ _ _)
          refine gf_X4_20 rfl (i := 51) rfl (oc_X4 hmh27 (ly_X4_c (lt_X4 frh27 za))) (sk_rf (ly_X4_r2 (lt_X4 frh27 za))) (?_ : ky_V _ _ _ 92 _ (.ref (a + 3) :: _) _ _)
          refine v_aload_n (i := 52) (j := 0) rfl rfl (?_ : ky_V _ _ _ 93 _ _ _ _)
          refine gf_X4_31 rfl (i := 53) rfl (oc_X4 hmh27 (ly_X4_c (lt_X4 frh27 za))) rfl (?_ : ky_V _ _ _ 96 _ _ _ _)
          refine v_aload_n (i := 54) (j := 0) rfl rfl (?_ : ky_V _ _ _ 97 _ _ _ _)
          refine gf_X4_41 rfl (i := 55) rfl (oc_X4 hmh27 (ly_X4_c (lt_X4 frh27 za))) rfl (?_ : ky_V _ _ _ 100 _ _ _ _)
          refine v_topi (fun x29 ex29 => ?_)
          replace e := ky_letE ex29 e
          obtain ⟨z30, e⟩ := ky_chkE e
          refine v_iast (i := 56) rfl (oa_21 hmh27 (ly_X4_k2 (lt_X4 frh27 za))) (ky_inb z30) ?_
          refine sk_stc (kd := 20) hmh27 frh27 (ly_X4_k2 (lt_X4 frh27 za)) (Int32.toNatClampNeg (sk_c q28 a 5)) x29 (fun h31 hmh31 frh31 => ?_)
          obtain ⟨q32, eq32⟩ : ∃ z, z = (sk_wc q28 (a + 3) (Int32.toNatClampNeg (sk_c q28 a 5)) x29) := ⟨_, rfl⟩
          rw [← eq32] at hmh31 frh31
          replace e := ky_letE eq32 e
          refine (?_ : ky_V _ _ _ 101 _ _ _ _)
          refine v_iconst (v := 1) (i := 57) rfl (by decide) (?_ : ky_V _ _ _ 102 _ _ _ _)
          refine v_iret (v := 1) (ty := .boolean) (i := 58) rfl rfl (by decide) ?_
          obtain ⟨rfl, rfl⟩ := ky_leaf e
          exact hr _ hmh31 frh31
        · replace e := ky_ifF c25 e
          refine v_aload_n (i := 37) (j := 0) rfl rfl (?_ : ky_V _ _ _ 68 _ _ _ _)
          refine v_aload_n (i := 38) (j := 1) rfl rfl (?_ : ky_V _ _ _ 69 _ _ _ _)
          refine v_iconst (v := 0) (i := 39) rfl (by decide) (?_ : ky_V _ _ _ 70 _ _ _ _)
          obtain ⟨⟨q34, x35⟩, g36, e⟩ := Option.bind_eq_some_iff.mp e
          refine cl_X4_81 (As := [.ref a1_, .int 0]) rfl (i := 40) rfl (oc_X4 hmh21 (ly_X4_c (lt_X4 frh21 za))) rfl rfl (Nat.le_of_ble_eq_true rfl) (k_X4_readCondT N hG hmh21 g36 (fun h33 hmh33 frh33 => ⟨_, rfl, (?_ : ky_V _ _ _ 73 _ [.int x35] _ _)⟩))
          have frh33 := frh21.tr frh33
          refine v_if_ne (tgt := 78) (i := 41) rfl (by decide) (fun c37 => ?_) (fun c37 => ?_)
          · replace e := ky_ifF c37 e
            refine v_aload_n (i := 44) (j := 0) rfl rfl (?_ : ky_V _ _ _ 79 _ _ _ _)
            refine v_dup (i := 45) rfl rfl (?_ : ky_V _ _ _ 80 _ _ _ _)
            refine gf_X4_31 rfl (i := 46) rfl (oc_X4 hmh33 (ly_X4_c (lt_X4 frh33 za))) rfl (?_ : ky_V _ _ _ 83 _ _ _ _)
            refine v_iconst (v := 1) (i := 47) rfl (by decide) (?_ : ky_V _ _ _ 84 _ _ _ _)
            refine v_iadd (i := 48) rfl (?_ : ky_V _ _ _ 85 _ _ _ _)
            refine v_topi (fun x38 ex38 => ?_)
            replace e := ky_letE ex38 e
            refine pf_X4_31 rfl (i := 49) rfl (oc_X4 hmh33 (ly_X4_c (lt_X4 frh33 za))) (Nat.le_of_ble_eq_true rfl) rfl rfl ?_
            refine sk_stc (kd := 4) (n := 0) hmh33 frh33 (ly_X4_c (lt_X4 frh33 za)) 5 x38 (fun h39 hmh39 frh39 => ?_)
            obtain ⟨q40, eq40⟩ : ∃ z, z = (sk_wc q34 a 5 x38) := ⟨_, rfl⟩
            rw [← eq40] at hmh39 frh39
            replace e := ky_letE eq40 e
            refine (?_ : ky_V _ _ _ 88 _ _ _ _)
            refine v_aload_n (i := 50) (j := 0) rfl rfl (?_ : ky_V _ _ _ 89 _ _ _ _)
            refine gf_X4_20 rfl (i := 51) rfl (oc_X4 hmh39 (ly_X4_c (lt_X4 frh39 za))) (sk_rf (ly_X4_r2 (lt_X4 frh39 za))) (?_ : ky_V _ _ _ 92 _ (.ref (a + 3) :: _) _ _)
            refine v_aload_n (i := 52) (j := 0) rfl rfl (?_ : ky_V _ _ _ 93 _ _ _ _)
            refine gf_X4_31 rfl (i := 53) rfl (oc_X4 hmh39 (ly_X4_c (lt_X4 frh39 za))) rfl (?_ : ky_V _ _ _ 96 _ _ _ _)
            refine v_aload_n (i := 54) (j := 0) rfl rfl (?_ : ky_V _ _ _ 97 _ _ _ _)
            refine gf_X4_41 rfl (i := 55) rfl (oc_X4 hmh39 (ly_X4_c (lt_X4 frh39 za))) rfl (?_ : ky_V _ _ _ 100 _ _ _ _)
            refine v_topi (fun x41 ex41 => ?_)
            replace e := ky_letE ex41 e
            obtain ⟨z42, e⟩ := ky_chkE e
            refine v_iast (i := 56) rfl (oa_21 hmh39 (ly_X4_k2 (lt_X4 frh39 za))) (ky_inb z42) ?_
            refine sk_stc (kd := 20) hmh39 frh39 (ly_X4_k2 (lt_X4 frh39 za)) (Int32.toNatClampNeg (sk_c q40 a 5)) x41 (fun h43 hmh43 frh43 => ?_)
            obtain ⟨q44, eq44⟩ : ∃ z, z = (sk_wc q40 (a + 3) (Int32.toNatClampNeg (sk_c q40 a 5)) x41) := ⟨_, rfl⟩
            rw [← eq44] at hmh43 frh43
            replace e := ky_letE eq44 e
            refine (?_ : ky_V _ _ _ 101 _ _ _ _)
            refine v_iconst (v := 1) (i := 57) rfl (by decide) (?_ : ky_V _ _ _ 102 _ _ _ _)
            refine v_iret (v := 1) (ty := .boolean) (i := 58) rfl rfl (by decide) ?_
            obtain ⟨rfl, rfl⟩ := ky_leaf e
            exact hr _ hmh43 frh43
          · replace e := ky_ifT c37 e
            refine v_iconst (v := 0) (i := 42) rfl (by decide) (?_ : ky_V _ _ _ 77 _ _ _ _)
            refine v_iret (v := 0) (ty := .boolean) (i := 43) rfl rfl (by decide) ?_
            obtain ⟨rfl, rfl⟩ := ky_leaf e
            exact hr _ hmh33 frh33
      · replace e := ky_ifT c12 e
        refine v_iconst (v := 0) (i := 18) rfl (by decide) (?_ : ky_V _ _ _ 34 _ _ _ _)
        refine v_iret (v := 0) (ty := .boolean) (i := 19) rfl rfl (by decide) ?_
        obtain ⟨rfl, rfl⟩ := ky_leaf e
        exact hr _ hmh8 frh8
  · replace e := ky_ifF c1 e
    refine v_iconst (v := 0) (i := 4) rfl (by decide) (?_ : ky_V _ _ _ 10 _ _ _ _)
    refine v_iret (v := 0) (ty := .boolean) (i := 5) rfl rfl (by decide) ?_
    obtain ⟨rfl, rfl⟩ := ky_leaf e
    exact hr _ hm fr

def x4_reads_L29 (N : Nat)  (a : Nat) (a1_ : Nat) (k : sk_S → Int32 → Int32 → Option (sk_S × Int32)) : Nat → sk_S → Int32 → Int32 → Option (sk_S × Int32)
  | 0, _, _, _ => none
  | n + 1, c, p2, p3 => (if (12 : Int32) < p3 then (k c p2 p3) else (if p2 = 0 then (k c p2 p3) else ((x4_readLine N c a a1_).bind (fun zz => (fun q4 x5 => (if x5 = 0 then (some (q4, 0)) else ((x9_takeSign N q4 a1_ 59).bind (fun zz => (fun q9 x10 => (ky_let (p3 + 1) (fun x12 => (x4_reads_L29 N a a1_ k n q9 x10 x12)))) zz.1 zz.2)))) zz.1 zz.2))))
set_option maxRecDepth 20000 in
set_option maxHeartbeats 4000000 in
theorem lv_X4_reads_29 {G : ky_GW} {d : Nat} {s s9 : sk_S} {h0 : ky_HP} {Q : ky_RS → ky_HP → Prop} {r9 : Int32} (N : Nat) (hG : ky_OK G)  (a : Nat) (a1_ : Nat)   (za : lay_X4 (sk_K s) (sk_r s) a = true) (za1_ : lay_X9 (sk_K s) (sk_r s) a1_ = true) (hm : sk_hp G s h0) (k : sk_S → Int32 → Int32 → Option (sk_S × Int32)) (hr : ∀ h1, sk_hp G s9 h1 → sk_fr none s h0 s9 h1 → Q (.inl (some (.int r9))) h1)
    (hk : ∀ (h : ky_HP) (c : sk_S) (p2 : Int32) (p3 : Int32), sk_hp G c h → sk_fr none s h0 c h → k c p2 p3 = some (s9, r9) → ky_V G (d + 48) M_X4_reads 62 [(0, .ref a), (1, .ref a1_), (2, .int p2), (3, .int p3)] [] h Q) :
    ∀ (n : Nat) (h : ky_HP) (c : sk_S) (p2 : Int32) (p3 : Int32), sk_hp G c h → sk_fr none s h0 c h → x4_reads_L29 N a a1_ k n c p2 p3 = some (s9, r9) → ky_V G (d + 48) M_X4_reads 29 [(0, .ref a), (1, .ref a1_), (2, .int p2), (3, .int p3)] [] h Q := by
  intro n
  induction n with
  | zero => intro h c p2 p3 hm1 fr e; cases e
  | succ n ih =>
    intro h c p2 p3 hm1 fr e
    rw [x4_reads_L29] at e
    refine v_iload_n (i := 17) (j := 3) rfl rfl (?_ : ky_V _ _ _ 30 _ _ _ _)
    refine v_bipush (v := 12) (i := 18) rfl (by decide) (?_ : ky_V _ _ _ 32 _ _ _ _)
    refine v_icmp_gt (tgt := 62) (i := 19) rfl (by decide) (fun c1 => ?_) (fun c1 => ?_)
    · replace e := ky_ifT c1 e
      exact hk h c p2 p3 hm1 fr e
    · replace e := ky_ifF c1 e
      refine v_iload_n (i := 20) (j := 2) rfl rfl (?_ : ky_V _ _ _ 36 _ _ _ _)
      refine v_if_eq (tgt := 62) (i := 21) rfl (by decide) (fun c2 => ?_) (fun c2 => ?_)
      · replace e := ky_ifT c2 e
        exact hk h c p2 p3 hm1 fr e
      · replace e := ky_ifF c2 e
        refine v_aload_n (i := 22) (j := 0) rfl rfl (?_ : ky_V _ _ _ 40 _ _ _ _)
        refine v_aload_n (i := 23) (j := 1) rfl rfl (?_ : ky_V _ _ _ 41 _ _ _ _)
        obtain ⟨⟨q4, x5⟩, g6, e⟩ := Option.bind_eq_some_iff.mp e
        refine cl_X4_54 (As := [.ref a1_]) rfl (i := 24) rfl (oc_X4 hm1 (ly_X4_c (lt_X4 fr za))) rfl rfl (Nat.le_of_ble_eq_true rfl) (k_X4_readLine N hG hm1 g6 (fun h3 hmh3 frh3 => ⟨_, rfl, (?_ : ky_V _ _ _ 44 _ [.int x5] _ _)⟩))
        have frh3 := fr.tr frh3
        refine v_if_ne (tgt := 49) (i := 25) rfl (by decide) (fun c7 => ?_) (fun c7 => ?_)
        · replace e := ky_ifF c7 e
          refine v_aload_n (i := 28) (j := 1) rfl rfl (?_ : ky_V _ _ _ 50 _ _ _ _)
          refine v_bipush (v := 59) (i := 29) rfl (by decide) (?_ : ky_V _ _ _ 52 _ _ _ _)
          obtain ⟨⟨q9, x10⟩, g11, e⟩ := Option.bind_eq_some_iff.mp e
          refine cl_X4_58 (As := [.int 59]) rfl (i := 30) rfl (oc_X9 hmh3 (ly_X9_c (lt_X9 frh3 za1_))) rfl rfl (Nat.le_of_ble_eq_true rfl) (k_X9_takeSign N hG hmh3 g11 (fun h8 hmh8 frh8 => ⟨_, rfl, (?_ : ky_V _ _ _ 55 _ [.int x10] _ _)⟩))
          have frh8 := frh3.tr frh8
          refine v_istore_n (L' := [(0, .ref a), (1, .ref a1_), (2, .int x10), (3, .int p3)]) [1, 2, 0, 3] (i := 31) rfl (Nat.le_of_ble_eq_true rfl) rfl (?_ : ky_V _ _ _ 56 _ _ _ _)
          obtain ⟨x12, ex12⟩ : ∃ z : Int32, z = p3 + 1 := ⟨_, rfl⟩
          replace e := ky_letE ex12 e
          refine v_iinc (v := x12) (j := 3) (L' := [(0, .ref a), (1, .ref a1_), (2, .int x10), (3, .int x12)]) [1, 2, 3, 0] (i := 32) rfl rfl (by rw [ex12]; rfl) (Nat.le_of_ble_eq_true rfl) rfl (?_ : ky_V _ _ _ 59 _ _ _ _)
          refine v_goto (tgt := 29) (i := 33) rfl (by decide) (?_ : ky_V _ _ _ 29 _ _ _ _)
          exact ih h8 q9 x10 x12 hmh8 frh8 e
        · replace e := ky_ifT c7 e
          refine v_iconst (v := 0) (i := 26) rfl (by decide) (?_ : ky_V _ _ _ 48 _ _ _ _)
          refine v_iret (v := 0) (ty := .boolean) (i := 27) rfl rfl (by decide) ?_
          obtain ⟨rfl, rfl⟩ := ky_leaf e
          exact hr _ hmh3 frh3

def x4_reads (N : Nat)  (s : sk_S) (a : Nat) (a1_ : Nat) : Option (sk_S × Int32) := (if lay_X4 (sk_K s) (sk_r s) a = true then (if lay_X9 (sk_K s) (sk_r s) a1_ = true then (ky_let (sk_wc s a 5 0) (fun q2 => (ky_let (sk_wc q2 a 6 0) (fun q4 => ((x9_begin N q4 a1_).bind (fun zz => (fun q6 x7 => ((x9_isEnded N q6 a1_).bind (fun zz => (fun q10 x11 => (if x11 = 0 then (x4_reads_L29 N a a1_ (fun q24 x25 x26 => ((x9_isEnded N q24 a1_).bind (fun zz => (fun q28 x29 => (if (x29 = 0 ∨ x29 = 1) then (some (q28, x29)) else none)) zz.1 zz.2))) N q10 1 0) else (x4_reads_L29 N a a1_ (fun q15 x16 x17 => ((x9_isEnded N q15 a1_).bind (fun zz => (fun q19 x20 => (if (x20 = 0 ∨ x20 = 1) then (some (q19, x20)) else none)) zz.1 zz.2))) N q10 0 0))) zz.1 zz.2))) zz.1 zz.2)))))) else none) else none)
set_option maxRecDepth 20000 in
set_option maxHeartbeats 4000000 in
theorem k_X4_reads {G : ky_GW} {d : Nat} {h : ky_HP} {Q : ky_RS → ky_HP → Prop} {s s9 : sk_S} {r9 : Int32} {a : Nat} {a1_ : Nat} (N : Nat) (hG : ky_OK G)   (hm : sk_hp G s h)  (e : x4_reads N  s a a1_ = some (s9, r9)) (hr : ∀ h1, sk_hp G s9 h1 → sk_fr none s h s9 h1 → Q (.inl (some (.int r9))) h1) : ky_Call G (d + 48) M_X4_reads [.ref a, .ref a1_] h Q := by
  refine ky_ofV (by decide +kernel) rfl ok_X4_reads (Nat.le_of_ble_eq_true rfl) ?_
  have fr : sk_fr none s h s h := sk_fr.rf
  unfold x4_reads at e
  refine (?_ : ky_V _ _ _ 0 [(0, .ref a), (1, .ref a1_)] [] _ _)
  obtain ⟨za, e⟩ := ky_chkE e
  obtain ⟨za1_, e⟩ := ky_chkE e
  refine v_aload_n (i := 0) (j := 0) rfl rfl (?_ : ky_V _ _ _ 1 _ _ _ _)
  refine v_iconst (v := 0) (i := 1) rfl (by decide) (?_ : ky_V _ _ _ 2 _ _ _ _)
  refine pf_X4_31 rfl (i := 2) rfl (oc_X4 hm (ly_X4_c za)) (Nat.le_of_ble_eq_true rfl) rfl rfl ?_
  refine sk_stc (kd := 4) (n := 0) hm fr (ly_X4_c za) 5 0 (fun h1 hmh1 frh1 => ?_)
  obtain ⟨q2, eq2⟩ : ∃ z, z = (sk_wc s a 5 0) := ⟨_, rfl⟩
  rw [← eq2] at hmh1 frh1
  replace e := ky_letE eq2 e
  refine (?_ : ky_V _ _ _ 5 _ _ _ _)
  refine v_aload_n (i := 3) (j := 0) rfl rfl (?_ : ky_V _ _ _ 6 _ _ _ _)
  refine v_iconst (v := 0) (i := 4) rfl (by decide) (?_ : ky_V _ _ _ 7 _ _ _ _)
  refine pf_X4_41 rfl (i := 5) rfl (oc_X4 hmh1 (ly_X4_c (lt_X4 frh1 za))) (Nat.le_of_ble_eq_true rfl) rfl rfl ?_
  refine sk_stc (kd := 4) (n := 0) hmh1 frh1 (ly_X4_c (lt_X4 frh1 za)) 6 0 (fun h3 hmh3 frh3 => ?_)
  obtain ⟨q4, eq4⟩ : ∃ z, z = (sk_wc q2 a 6 0) := ⟨_, rfl⟩
  rw [← eq4] at hmh3 frh3
  replace e := ky_letE eq4 e
  refine (?_ : ky_V _ _ _ 10 _ _ _ _)
  refine v_aload_n (i := 6) (j := 1) rfl rfl (?_ : ky_V _ _ _ 11 _ _ _ _)
  obtain ⟨⟨q6, x7⟩, g8, e⟩ := Option.bind_eq_some_iff.mp e
  refine cl_X4_47 (As := []) rfl (i := 7) rfl (oc_X9 hmh3 (ly_X9_c (lt_X9 frh3 za1_))) rfl rfl (Nat.le_of_ble_eq_true rfl) (k_X9_begin N hG hmh3 g8 (fun h5 hmh5 frh5 => ⟨_, rfl, (?_ : ky_V _ _ _ 14 _ [] _ _)⟩))
  have frh5 := frh3.tr frh5
  refine v_aload_n (i := 8) (j := 1) rfl rfl (?_ : ky_V _ _ _ 15 _ _ _ _)
  obtain ⟨⟨q10, x11⟩, g12, e⟩ := Option.bind_eq_some_iff.mp e
  refine cl_X4_50 (As := []) rfl (i := 9) rfl (oc_X9 hmh5 (ly_X9_c (lt_X9 frh5 za1_))) rfl rfl (Nat.le_of_ble_eq_true rfl) (k_X9_isEnded N hG hmh5 g12 (fun h9 hmh9 frh9 => ⟨_, rfl, (?_ : ky_V _ _ _ 18 _ [.int x11] _ _)⟩))
  have frh9 := frh5.tr frh9
  refine v_if_ne (tgt := 25) (i := 10) rfl (by decide) (fun c13 => ?_) (fun c13 => ?_)
  · replace e := ky_ifF c13 e
    refine v_iconst (v := 0) (i := 13) rfl (by decide) (?_ : ky_V _ _ _ 26 _ _ _ _)
    refine v_istore_n (L' := [(0, .ref a), (1, .ref a1_), (2, .int 0)]) [1, 2, 0] (i := 14) rfl (Nat.le_of_ble_eq_true rfl) rfl (?_ : ky_V _ _ _ 27 _ _ _ _)
    refine v_iconst (v := 0) (i := 15) rfl (by decide) (?_ : ky_V _ _ _ 28 _ _ _ _)
    refine v_istore_n (L' := [(0, .ref a), (1, .ref a1_), (2, .int 0), (3, .int 0)]) [1, 2, 3, 0] (i := 16) rfl (Nat.le_of_ble_eq_true rfl) rfl (?_ : ky_V _ _ _ 29 _ _ _ _)
    refine lv_X4_reads_29 N hG a a1_ za za1_ hm _ hr (fun h14 q15 x16 x17 hmh14 frh14 e => ?_) N h9 q10 0 0 hmh9 frh9 e
    refine v_aload_n (i := 34) (j := 1) rfl rfl (?_ : ky_V _ _ _ 63 _ _ _ _)
    obtain ⟨⟨q19, x20⟩, g21, e⟩ := Option.bind_eq_some_iff.mp e
    refine cl_X4_50 (As := []) rfl (i := 35) rfl (oc_X9 hmh14 (ly_X9_c (lt_X9 frh14 za1_))) rfl rfl (Nat.le_of_ble_eq_true rfl) (k_X9_isEnded N hG hmh14 g21 (fun h18 hmh18 frh18 => ⟨_, rfl, (?_ : ky_V _ _ _ 66 _ [.int x20] _ _)⟩))
    have frh18 := frh14.tr frh18
    obtain ⟨z22, e⟩ := ky_chkE e
    refine v_iret (v := x20) (ty := .boolean) (i := 36) rfl rfl (ky_nb z22) ?_
    obtain ⟨rfl, rfl⟩ := ky_leaf e
    exact hr _ hmh18 frh18
  · replace e := ky_ifT c13 e
    refine v_iconst (v := 1) (i := 11) rfl (by decide) (?_ : ky_V _ _ _ 22 _ _ _ _)
    refine v_goto (tgt := 26) (i := 12) rfl (by decide) (?_ : ky_V _ _ _ 26 _ _ _ _)
    refine v_istore_n (L' := [(0, .ref a), (1, .ref a1_), (2, .int 1)]) [1, 2, 0] (i := 14) rfl (Nat.le_of_ble_eq_true rfl) rfl (?_ : ky_V _ _ _ 27 _ _ _ _)
    refine v_iconst (v := 0) (i := 15) rfl (by decide) (?_ : ky_V _ _ _ 28 _ _ _ _)
    refine v_istore_n (L' := [(0, .ref a), (1, .ref a1_), (2, .int 1), (3, .int 0)]) [1, 2, 3, 0] (i := 16) rfl (Nat.le_of_ble_eq_true rfl) rfl (?_ : ky_V _ _ _ 29 _ _ _ _)
    refine lv_X4_reads_29 N hG a a1_ za za1_ hm _ hr (fun h23 q24 x25 x26 hmh23 frh23 e => ?_) N h9 q10 1 0 hmh9 frh9 e
    refine v_aload_n (i := 34) (j := 1) rfl rfl (?_ : ky_V _ _ _ 63 _ _ _ _)
    obtain ⟨⟨q28, x29⟩, g30, e⟩ := Option.bind_eq_some_iff.mp e
    refine cl_X4_50 (As := []) rfl (i := 35) rfl (oc_X9 hmh23 (ly_X9_c (lt_X9 frh23 za1_))) rfl rfl (Nat.le_of_ble_eq_true rfl) (k_X9_isEnded N hG hmh23 g30 (fun h27 hmh27 frh27 => ⟨_, rfl, (?_ : ky_V _ _ _ 66 _ [.int x29] _ _)⟩))
    have frh27 := frh23.tr frh27
    obtain ⟨z31, e⟩ := ky_chkE e
    refine v_iret (v := x29) (ty := .boolean) (i := 36) rfl rfl (ky_nb z31) ?_
    obtain ⟨rfl, rfl⟩ := ky_leaf e
    exact hr _ hmh27 frh27
