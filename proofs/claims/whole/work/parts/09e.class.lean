def x10_init (N : Nat)  (s : sk_S) (a : Nat) : Option (sk_S × Int32) := (if sk_K s a = (10, 0) then (ky_let (sk_n s) (fun a1 => (ky_let (sk_nw s 21 14400 14400) (fun q3 => (ky_let (sk_wr q3 a 0 (some a1)) (fun q5 => (ky_let (sk_n q5) (fun a6 => (ky_let (sk_nw q5 21 1200 1200) (fun q8 => (ky_let (sk_wr q8 a 1 (some a6)) (fun q10 => (ky_let (sk_n q10) (fun a11 => (ky_let (sk_nw q10 21 1200 1200) (fun q13 => (ky_let (sk_wr q13 a 2 (some a11)) (fun q15 => (ky_let (sk_n q15) (fun a16 => (ky_let (sk_nw q15 21 1200 1200) (fun q18 => (ky_let (sk_wr q18 a 3 (some a16)) (fun q20 => (ky_let (sk_n q20) (fun a21 => (ky_let (sk_nw q20 21 1200 1200) (fun q23 => (ky_let (sk_wr q23 a 4 (some a21)) (fun q25 => (ky_let (sk_n q25) (fun a26 => (ky_let (sk_nw q25 22 1200 1200) (fun q28 => (ky_let (sk_wr q28 a 5 (some a26)) (fun q30 => (ky_let (sk_n q30) (fun a31 => (ky_let (sk_nw q30 21 31 31) (fun q33 => (ky_let (sk_wr q33 a 6 (some a31)) (fun q35 => (ky_let (sk_wc q35 a 9 1) (fun q37 => (some (q37, 0)))))))))))))))))))))))))))))))))))))))))))))) else none)
set_option maxRecDepth 20000 in
set_option maxHeartbeats 4000000 in
theorem k_X10_init {G : ky_GW} {d : Nat} {h : ky_HP} {Q : ky_RS → ky_HP → Prop} {s s9 : sk_S} {r9 : Int32} {a : Nat} (N : Nat) (hG : ky_OK G)   (hm : sk_hp G s h)  (e : x10_init N  s a = some (s9, r9)) (hr : ∀ h1, sk_hp G s9 h1 → sk_fr (some a) s h s9 h1 → Q (.inl none) h1) : ky_Call G (d + 1) M_X10_init [.ref a] h Q := by
  refine ky_ofV (by decide +kernel) rfl ok_X10_init (Nat.le_of_ble_eq_true rfl) ?_
  have fr : sk_fr (some a) s h s h := sk_fr.rf
  unfold x10_init at e
  refine (?_ : ky_V _ _ _ 0 [(0, .ref a)] [] _ _)
  obtain ⟨z0, e⟩ := ky_chkE e
  refine v_aload_n (i := 0) (j := 0) rfl rfl (?_ : ky_V _ _ _ 1 _ _ _ _)
  refine v_objInit (by rw [show M_X10_init.1.cls = "WaistSand$Ways" from rfl]; exact ky_t2 (i := 109) rfl rfl) (ky_t1 (i := 36) rfl rfl) (ky_t1 (i := 37) rfl rfl) (i := 1) rfl (Nat.le_of_ble_eq_true rfl) (?_ : ky_V _ _ _ 4 _ _ _ _)
  refine v_aload_n (i := 2) (j := 0) rfl rfl (?_ : ky_V _ _ _ 5 _ _ _ _)
  refine v_sipush (v := 14400) (i := 3) rfl (by decide) (?_ : ky_V _ _ _ 8 _ _ _ _)
  refine v_newi (N := 14400) (ky_t1 (i := 87) rfl rfl) (i := 4) rfl (by decide) rfl (by decide) ?_
  refine sk_snw hm fr 21 14400 rfl (fun a1 h2 ea1 hmh2 frh2 => ?_)
  replace e := ky_letE ea1 e
  obtain ⟨q3, eq3⟩ : ∃ z, z = (sk_nw s 21 14400 14400) := ⟨_, rfl⟩
  rw [← eq3] at hmh2 frh2
  replace e := ky_letE eq3 e
  refine (?_ : ky_V _ _ _ 10 _ (.ref a1 :: _) _ _)
  refine pf_X10_13 rfl rfl (i := 5) rfl (oc_X10 hmh2 (frh2.K (k := 9) z0)) (Nat.le_of_ble_eq_true rfl) rfl rfl ?_
  refine sk_str (kd := 9) (n := 0) hmh2 frh2 (frh2.K (k := 9) z0) 0 (some a1) (Or.inr rfl) (fun h4 hmh4 frh4 => ?_)
  obtain ⟨q5, eq5⟩ : ∃ z, z = (sk_wr q3 a 0 (some a1)) := ⟨_, rfl⟩
  rw [← eq5] at hmh4 frh4
  replace e := ky_letE eq5 e
  refine (?_ : ky_V _ _ _ 13 _ _ _ _)
  refine v_aload_n (i := 6) (j := 0) rfl rfl (?_ : ky_V _ _ _ 14 _ _ _ _)
  refine v_sipush (v := 1200) (i := 7) rfl (by decide) (?_ : ky_V _ _ _ 17 _ _ _ _)
  refine v_newi (N := 1200) (ky_t1 (i := 87) rfl rfl) (i := 8) rfl (by decide) rfl (by decide) ?_
  refine sk_snw hmh4 frh4 21 1200 rfl (fun a6 h7 ea6 hmh7 frh7 => ?_)
  replace e := ky_letE ea6 e
  obtain ⟨q8, eq8⟩ : ∃ z, z = (sk_nw q5 21 1200 1200) := ⟨_, rfl⟩
  rw [← eq8] at hmh7 frh7
  replace e := ky_letE eq8 e
  refine (?_ : ky_V _ _ _ 19 _ (.ref a6 :: _) _ _)
  refine pf_X10_17 rfl rfl (i := 9) rfl (oc_X10 hmh7 (frh7.K (k := 9) z0)) (Nat.le_of_ble_eq_true rfl) rfl rfl ?_
  refine sk_str (kd := 9) (n := 0) hmh7 frh7 (frh7.K (k := 9) z0) 1 (some a6) (Or.inr rfl) (fun h9 hmh9 frh9 => ?_)
  obtain ⟨q10, eq10⟩ : ∃ z, z = (sk_wr q8 a 1 (some a6)) := ⟨_, rfl⟩
  rw [← eq10] at hmh9 frh9
  replace e := ky_letE eq10 e
  refine (?_ : ky_V _ _ _ 22 _ _ _ _)
  refine v_aload_n (i := 10) (j := 0) rfl rfl (?_ : ky_V _ _ _ 23 _ _ _ _)
  refine v_sipush (v := 1200) (i := 11) rfl (by decide) (?_ : ky_V _ _ _ 26 _ _ _ _)
  refine v_newi (N := 1200) (ky_t1 (i := 87) rfl rfl) (i := 12) rfl (by decide) rfl (by decide) ?_
  refine sk_snw hmh9 frh9 21 1200 rfl (fun a11 h12 ea11 hmh12 frh12 => ?_)
  replace e := ky_letE ea11 e
  obtain ⟨q13, eq13⟩ : ∃ z, z = (sk_nw q10 21 1200 1200) := ⟨_, rfl⟩
  rw [← eq13] at hmh12 frh12
  replace e := ky_letE eq13 e
  refine (?_ : ky_V _ _ _ 28 _ (.ref a11 :: _) _ _)
  refine pf_X10_20 rfl rfl (i := 13) rfl (oc_X10 hmh12 (frh12.K (k := 9) z0)) (Nat.le_of_ble_eq_true rfl) rfl rfl ?_
  refine sk_str (kd := 9) (n := 0) hmh12 frh12 (frh12.K (k := 9) z0) 2 (some a11) (Or.inr rfl) (fun h14 hmh14 frh14 => ?_)
  obtain ⟨q15, eq15⟩ : ∃ z, z = (sk_wr q13 a 2 (some a11)) := ⟨_, rfl⟩
  rw [← eq15] at hmh14 frh14
  replace e := ky_letE eq15 e
  refine (?_ : ky_V _ _ _ 31 _ _ _ _)
  refine v_aload_n (i := 14) (j := 0) rfl rfl (?_ : ky_V _ _ _ 32 _ _ _ _)
  refine v_sipush (v := 1200) (i := 15) rfl (by decide) (?_ : ky_V _ _ _ 35 _ _ _ _)
  refine v_newi (N := 1200) (ky_t1 (i := 87) rfl rfl) (i := 16) rfl (by decide) rfl (by decide) ?_
  refine sk_snw hmh14 frh14 21 1200 rfl (fun a16 h17 ea16 hmh17 frh17 => ?_)
  replace e := ky_letE ea16 e
  obtain ⟨q18, eq18⟩ : ∃ z, z = (sk_nw q15 21 1200 1200) := ⟨_, rfl⟩
  rw [← eq18] at hmh17 frh17
  replace e := ky_letE eq18 e
  refine (?_ : ky_V _ _ _ 37 _ (.ref a16 :: _) _ _)
  refine pf_X10_23 rfl rfl (i := 17) rfl (oc_X10 hmh17 (frh17.K (k := 9) z0)) (Nat.le_of_ble_eq_true rfl) rfl rfl ?_
  refine sk_str (kd := 9) (n := 0) hmh17 frh17 (frh17.K (k := 9) z0) 3 (some a16) (Or.inr rfl) (fun h19 hmh19 frh19 => ?_)
  obtain ⟨q20, eq20⟩ : ∃ z, z = (sk_wr q18 a 3 (some a16)) := ⟨_, rfl⟩
  rw [← eq20] at hmh19 frh19
  replace e := ky_letE eq20 e
  refine (?_ : ky_V _ _ _ 40 _ _ _ _)
  refine v_aload_n (i := 18) (j := 0) rfl rfl (?_ : ky_V _ _ _ 41 _ _ _ _)
  refine v_sipush (v := 1200) (i := 19) rfl (by decide) (?_ : ky_V _ _ _ 44 _ _ _ _)
  refine v_newi (N := 1200) (ky_t1 (i := 87) rfl rfl) (i := 20) rfl (by decide) rfl (by decide) ?_
  refine sk_snw hmh19 frh19 21 1200 rfl (fun a21 h22 ea21 hmh22 frh22 => ?_)
  replace e := ky_letE ea21 e
  obtain ⟨q23, eq23⟩ : ∃ z, z = (sk_nw q20 21 1200 1200) := ⟨_, rfl⟩
  rw [← eq23] at hmh22 frh22
  replace e := ky_letE eq23 e
  refine (?_ : ky_V _ _ _ 46 _ (.ref a21 :: _) _ _)
  refine pf_X10_26 rfl rfl (i := 21) rfl (oc_X10 hmh22 (frh22.K (k := 9) z0)) (Nat.le_of_ble_eq_true rfl) rfl rfl ?_
  refine sk_str (kd := 9) (n := 0) hmh22 frh22 (frh22.K (k := 9) z0) 4 (some a21) (Or.inr rfl) (fun h24 hmh24 frh24 => ?_)
  obtain ⟨q25, eq25⟩ : ∃ z, z = (sk_wr q23 a 4 (some a21)) := ⟨_, rfl⟩
  rw [← eq25] at hmh24 frh24
  replace e := ky_letE eq25 e
  refine (?_ : ky_V _ _ _ 49 _ _ _ _)
  refine v_aload_n (i := 22) (j := 0) rfl rfl (?_ : ky_V _ _ _ 50 _ _ _ _)
  refine v_sipush (v := 1200) (i := 23) rfl (by decide) (?_ : ky_V _ _ _ 53 _ _ _ _)
  refine v_newz (N := 1200) (ky_t2 (i := 150) rfl rfl) (i := 24) rfl (by decide) rfl (by decide) ?_
  refine sk_snw hmh24 frh24 22 1200 rfl (fun a26 h27 ea26 hmh27 frh27 => ?_)
  replace e := ky_letE ea26 e
  obtain ⟨q28, eq28⟩ : ∃ z, z = (sk_nw q25 22 1200 1200) := ⟨_, rfl⟩
  rw [← eq28] at hmh27 frh27
  replace e := ky_letE eq28 e
  refine (?_ : ky_V _ _ _ 55 _ (.ref a26 :: _) _ _)
  refine pf_X10_29 rfl rfl (i := 25) rfl (oc_X10 hmh27 (frh27.K (k := 9) z0)) (Nat.le_of_ble_eq_true rfl) rfl rfl ?_
  refine sk_str (kd := 9) (n := 0) hmh27 frh27 (frh27.K (k := 9) z0) 5 (some a26) (Or.inr rfl) (fun h29 hmh29 frh29 => ?_)
  obtain ⟨q30, eq30⟩ : ∃ z, z = (sk_wr q28 a 5 (some a26)) := ⟨_, rfl⟩
  rw [← eq30] at hmh29 frh29
  replace e := ky_letE eq30 e
  refine (?_ : ky_V _ _ _ 58 _ _ _ _)
  refine v_aload_n (i := 26) (j := 0) rfl rfl (?_ : ky_V _ _ _ 59 _ _ _ _)
  refine v_bipush (v := 31) (i := 27) rfl (by decide) (?_ : ky_V _ _ _ 61 _ _ _ _)
  refine v_newi (N := 31) (ky_t1 (i := 87) rfl rfl) (i := 28) rfl (by decide) rfl (by decide) ?_
  refine sk_snw hmh29 frh29 21 31 rfl (fun a31 h32 ea31 hmh32 frh32 => ?_)
  replace e := ky_letE ea31 e
  obtain ⟨q33, eq33⟩ : ∃ z, z = (sk_nw q30 21 31 31) := ⟨_, rfl⟩
  rw [← eq33] at hmh32 frh32
  replace e := ky_letE eq33 e
  refine (?_ : ky_V _ _ _ 63 _ (.ref a31 :: _) _ _)
  refine pf_X10_33 rfl rfl (i := 29) rfl (oc_X10 hmh32 (frh32.K (k := 9) z0)) (Nat.le_of_ble_eq_true rfl) rfl rfl ?_
  refine sk_str (kd := 9) (n := 0) hmh32 frh32 (frh32.K (k := 9) z0) 6 (some a31) (Or.inr rfl) (fun h34 hmh34 frh34 => ?_)
  obtain ⟨q35, eq35⟩ : ∃ z, z = (sk_wr q33 a 6 (some a31)) := ⟨_, rfl⟩
  rw [← eq35] at hmh34 frh34
  replace e := ky_letE eq35 e
  refine (?_ : ky_V _ _ _ 66 _ _ _ _)
  refine v_aload_n (i := 30) (j := 0) rfl rfl (?_ : ky_V _ _ _ 67 _ _ _ _)
  refine v_iconst (v := 1) (i := 31) rfl (by decide) (?_ : ky_V _ _ _ 68 _ _ _ _)
  refine pf_X10_36 rfl (i := 32) rfl (oc_X10 hmh34 (frh34.K (k := 9) z0)) (Nat.le_of_ble_eq_true rfl) rfl rfl ?_
  refine sk_stc (kd := 9) (n := 0) hmh34 frh34 (frh34.K (k := 9) z0) 9 1 (fun h36 hmh36 frh36 => ?_)
  obtain ⟨q37, eq37⟩ : ∃ z, z = (sk_wc q35 a 9 1) := ⟨_, rfl⟩
  rw [← eq37] at hmh36 frh36
  replace e := ky_letE eq37 e
  refine (?_ : ky_V _ _ _ 71 _ _ _ _)
  refine v_vret (i := 33) rfl rfl ?_
  obtain ⟨rfl, rfl⟩ := ky_leaf e
  exact hr _ hmh36 frh36

def x10_forget (N : Nat)  (s : sk_S) (a : Nat) : Option (sk_S × Int32) := (if lay_X10 (sk_K s) (sk_r s) a = true then (ky_let ((sk_c s a 9) + 1) (fun x1 => (ky_let (sk_wc s a 9 x1) (fun q3 => (some (q3, 0)))))) else none)
set_option maxRecDepth 20000 in
set_option maxHeartbeats 4000000 in
theorem k_X10_forget {G : ky_GW} {d : Nat} {h : ky_HP} {Q : ky_RS → ky_HP → Prop} {s s9 : sk_S} {r9 : Int32} {a : Nat} (N : Nat) (hG : ky_OK G)   (hm : sk_hp G s h)  (e : x10_forget N  s a = some (s9, r9)) (hr : ∀ h1, sk_hp G s9 h1 → sk_fr none s h s9 h1 → Q (.inl none) h1) : ky_Call G d M_X10_forget [.ref a] h Q := by
  refine ky_ofV (by decide +kernel) rfl ok_X10_forget (Nat.le_of_ble_eq_true rfl) ?_
  have fr : sk_fr none s h s h := sk_fr.rf
  unfold x10_forget at e
  refine (?_ : ky_V _ _ _ 0 [(0, .ref a)] [] _ _)
  obtain ⟨za, e⟩ := ky_chkE e
  refine v_aload_n (i := 0) (j := 0) rfl rfl (?_ : ky_V _ _ _ 1 _ _ _ _)
  refine v_dup (i := 1) rfl rfl (?_ : ky_V _ _ _ 2 _ _ _ _)
  refine gf_X10_36 rfl (i := 2) rfl (oc_X10 hm (ly_X10_c za)) rfl (?_ : ky_V _ _ _ 5 _ _ _ _)
  refine v_iconst (v := 1) (i := 3) rfl (by decide) (?_ : ky_V _ _ _ 6 _ _ _ _)
  refine v_iadd (i := 4) rfl (?_ : ky_V _ _ _ 7 _ _ _ _)
  refine v_topi (fun x1 ex1 => ?_)
  replace e := ky_letE ex1 e
  refine pf_X10_36 rfl (i := 5) rfl (oc_X10 hm (ly_X10_c za)) (Nat.le_of_ble_eq_true rfl) rfl rfl ?_
  refine sk_stc (kd := 9) (n := 0) hm fr (ly_X10_c za) 9 x1 (fun h2 hmh2 frh2 => ?_)
  obtain ⟨q3, eq3⟩ : ∃ z, z = (sk_wc s a 9 x1) := ⟨_, rfl⟩
  rw [← eq3] at hmh2 frh2
  replace e := ky_letE eq3 e
  refine (?_ : ky_V _ _ _ 10 _ _ _ _)
  refine v_vret (i := 6) rfl rfl ?_
  obtain ⟨rfl, rfl⟩ := ky_leaf e
  exact hr _ hmh2 frh2

def x10_enterSlot (N : Nat)  (s : sk_S) (a : Nat) (p1 : Int32) (p2 : Int32) : Option (sk_S × Int32) := (if lay_X10 (sk_K s) (sk_r s) a = true then (ky_let (p2 - p2 / 31 * 31) (fun x1 => (if ky_inB x1 31 = true then (ky_let (sk_c s (a + 7) (Int32.toNatClampNeg x1)) (fun x3 => (if ky_inB p1 1200 = true then (ky_let (sk_wc s (a + 2) (Int32.toNatClampNeg p1) p2) (fun q6 => (ky_let (sk_wc q6 (a + 4) (Int32.toNatClampNeg p1) (-1)) (fun q8 => (ky_let (sk_wc q8 (a + 3) (Int32.toNatClampNeg p1) x3) (fun q10 => (if x3 = (-1 : Int32) then (ky_let (sk_wc q10 (a + 7) (Int32.toNatClampNeg x1) p1) (fun q13 => (ky_let ((sk_c q13 a 8) + 1) (fun x14 => (ky_let (sk_wc q13 a 8 x14) (fun q16 => (some (q16, 0)))))))) else (if ky_inB x3 1200 = true then (ky_let (sk_wc q10 (a + 4) (Int32.toNatClampNeg x3) p1) (fun q19 => (ky_let (sk_wc q19 (a + 7) (Int32.toNatClampNeg x1) p1) (fun q21 => (ky_let ((sk_c q21 a 8) + 1) (fun x22 => (ky_let (sk_wc q21 a 8 x22) (fun q24 => (some (q24, 0)))))))))) else none)))))))) else none))) else none))) else none)
set_option maxRecDepth 20000 in
set_option maxHeartbeats 4000000 in
theorem k_X10_enterSlot {G : ky_GW} {d : Nat} {h : ky_HP} {Q : ky_RS → ky_HP → Prop} {s s9 : sk_S} {r9 : Int32} {a : Nat} {p1 : Int32} {p2 : Int32} (N : Nat) (hG : ky_OK G)   (hm : sk_hp G s h)  (e : x10_enterSlot N  s a p1 p2 = some (s9, r9)) (hr : ∀ h1, sk_hp G s9 h1 → sk_fr none s h s9 h1 → Q (.inl none) h1) : ky_Call G d M_X10_enterSlot [.ref a, .int p1, .int p2] h Q := by
  refine ky_ofV (by decide +kernel) rfl ok_X10_enterSlot (Nat.le_of_ble_eq_true rfl) ?_
  have fr : sk_fr none s h s h := sk_fr.rf
  unfold x10_enterSlot at e
  refine (?_ : ky_V _ _ _ 0 [(0, .ref a), (1, .int p1), (2, .int p2)] [] _ _)
  obtain ⟨za, e⟩ := ky_chkE e
  refine v_iload_n (i := 0) (j := 2) rfl rfl (?_ : ky_V _ _ _ 1 _ _ _ _)
  refine v_bipush (v := 31) (i := 1) rfl (by decide) (?_ : ky_V _ _ _ 3 _ _ _ _)
  refine v_irem (i := 2) rfl (by decide) (?_ : ky_V _ _ _ 4 _ _ _ _)
  refine v_topi (fun x1 ex1 => ?_)
  replace e := ky_letE ex1 e
  refine v_istore_n (L' := [(0, .ref a), (1, .int p1), (2, .int p2), (3, .int x1)]) [1, 2, 3, 0] (i := 3) rfl (Nat.le_of_ble_eq_true rfl) rfl (?_ : ky_V _ _ _ 5 _ _ _ _)
  refine v_aload_n (i := 4) (j := 0) rfl rfl (?_ : ky_V _ _ _ 6 _ _ _ _)
  refine gf_X10_33 rfl (i := 5) rfl (oc_X10 hm (ly_X10_c za)) (sk_rf (ly_X10_r6 za)) (?_ : ky_V _ _ _ 9 _ (.ref (a + 7) :: _) _ _)
  refine v_iload_n (i := 6) (j := 3) rfl rfl (?_ : ky_V _ _ _ 10 _ _ _ _)
  obtain ⟨z2, e⟩ := ky_chkE e
  refine v_iald (i := 7) rfl (oa_21 hm (ly_X10_k6 za)) (ky_inb z2) (?_ : ky_V _ _ _ 11 _ (.int (sk_c s (a + 7) (Int32.toNatClampNeg x1)) :: _) _ _)
  refine v_topi (fun x3 ex3 => ?_)
  replace e := ky_letE ex3 e
  refine v_istore (L' := [(0, .ref a), (1, .int p1), (2, .int p2), (3, .int x1), (4, .int x3)]) [1, 2, 3, 4, 0] (i := 8) rfl (Nat.le_of_ble_eq_true rfl) rfl (?_ : ky_V _ _ _ 13 _ _ _ _)
  refine v_aload_n (i := 9) (j := 0) rfl rfl (?_ : ky_V _ _ _ 14 _ _ _ _)
  refine gf_X10_17 rfl (i := 10) rfl (oc_X10 hm (ly_X10_c za)) (sk_rf (ly_X10_r1 za)) (?_ : ky_V _ _ _ 17 _ (.ref (a + 2) :: _) _ _)
  refine v_iload_n (i := 11) (j := 1) rfl rfl (?_ : ky_V _ _ _ 18 _ _ _ _)
  refine v_iload_n (i := 12) (j := 2) rfl rfl (?_ : ky_V _ _ _ 19 _ _ _ _)
  obtain ⟨z4, e⟩ := ky_chkE e
  refine v_iast (i := 13) rfl (oa_21 hm (ly_X10_k1 za)) (ky_inb z4) ?_
  refine sk_stc (kd := 20) hm fr (ly_X10_k1 za) (Int32.toNatClampNeg p1) p2 (fun h5 hmh5 frh5 => ?_)
  obtain ⟨q6, eq6⟩ : ∃ z, z = (sk_wc s (a + 2) (Int32.toNatClampNeg p1) p2) := ⟨_, rfl⟩
  rw [← eq6] at hmh5 frh5
  replace e := ky_letE eq6 e
  refine (?_ : ky_V _ _ _ 20 _ _ _ _)
  refine v_aload_n (i := 14) (j := 0) rfl rfl (?_ : ky_V _ _ _ 21 _ _ _ _)
  refine gf_X10_23 rfl (i := 15) rfl (oc_X10 hmh5 (ly_X10_c (lt_X10 frh5 za))) (sk_rf (ly_X10_r3 (lt_X10 frh5 za))) (?_ : ky_V _ _ _ 24 _ (.ref (a + 4) :: _) _ _)
  refine v_iload_n (i := 16) (j := 1) rfl rfl (?_ : ky_V _ _ _ 25 _ _ _ _)
  refine v_iconst (v := (-1)) (i := 17) rfl (by decide) (?_ : ky_V _ _ _ 26 _ _ _ _)
  refine v_iast (i := 18) rfl (oa_21 hmh5 (ly_X10_k3 (lt_X10 frh5 za))) (ky_inb z4) ?_
  refine sk_stc (kd := 20) hmh5 frh5 (ly_X10_k3 (lt_X10 frh5 za)) (Int32.toNatClampNeg p1) (-1) (fun h7 hmh7 frh7 => ?_)
  obtain ⟨q8, eq8⟩ : ∃ z, z = (sk_wc q6 (a + 4) (Int32.toNatClampNeg p1) (-1)) := ⟨_, rfl⟩
  rw [← eq8] at hmh7 frh7
  replace e := ky_letE eq8 e
  refine (?_ : ky_V _ _ _ 27 _ _ _ _)
  refine v_aload_n (i := 19) (j := 0) rfl rfl (?_ : ky_V _ _ _ 28 _ _ _ _)
  refine gf_X10_20 rfl (i := 20) rfl (oc_X10 hmh7 (ly_X10_c (lt_X10 frh7 za))) (sk_rf (ly_X10_r2 (lt_X10 frh7 za))) (?_ : ky_V _ _ _ 31 _ (.ref (a + 3) :: _) _ _)
  refine v_iload_n (i := 21) (j := 1) rfl rfl (?_ : ky_V _ _ _ 32 _ _ _ _)
  refine v_iload (i := 22) (j := 4) rfl rfl (?_ : ky_V _ _ _ 34 _ _ _ _)
  refine v_iast (i := 23) rfl (oa_21 hmh7 (ly_X10_k2 (lt_X10 frh7 za))) (ky_inb z4) ?_
  refine sk_stc (kd := 20) hmh7 frh7 (ly_X10_k2 (lt_X10 frh7 za)) (Int32.toNatClampNeg p1) x3 (fun h9 hmh9 frh9 => ?_)
  obtain ⟨q10, eq10⟩ : ∃ z, z = (sk_wc q8 (a + 3) (Int32.toNatClampNeg p1) x3) := ⟨_, rfl⟩
  rw [← eq10] at hmh9 frh9
  replace e := ky_letE eq10 e
  refine (?_ : ky_V _ _ _ 35 _ _ _ _)
  refine v_iload (i := 24) (j := 4) rfl rfl (?_ : ky_V _ _ _ 37 _ _ _ _)
  refine v_iconst (v := (-1)) (i := 25) rfl (by decide) (?_ : ky_V _ _ _ 38 _ _ _ _)
  refine v_icmp_eq (tgt := 49) (i := 26) rfl (by decide) (fun c11 => ?_) (fun c11 => ?_)
  · replace e := ky_ifT c11 e
    refine v_aload_n (i := 32) (j := 0) rfl rfl (?_ : ky_V _ _ _ 50 _ _ _ _)
    refine gf_X10_33 rfl (i := 33) rfl (oc_X10 hmh9 (ly_X10_c (lt_X10 frh9 za))) (sk_rf (ly_X10_r6 (lt_X10 frh9 za))) (?_ : ky_V _ _ _ 53 _ (.ref (a + 7) :: _) _ _)
    refine v_iload_n (i := 34) (j := 3) rfl rfl (?_ : ky_V _ _ _ 54 _ _ _ _)
    refine v_iload_n (i := 35) (j := 1) rfl rfl (?_ : ky_V _ _ _ 55 _ _ _ _)
    refine v_iast (i := 36) rfl (oa_21 hmh9 (ly_X10_k6 (lt_X10 frh9 za))) (ky_inb z2) ?_
    refine sk_stc (kd := 20) hmh9 frh9 (ly_X10_k6 (lt_X10 frh9 za)) (Int32.toNatClampNeg x1) p1 (fun h12 hmh12 frh12 => ?_)
    obtain ⟨q13, eq13⟩ : ∃ z, z = (sk_wc q10 (a + 7) (Int32.toNatClampNeg x1) p1) := ⟨_, rfl⟩
    rw [← eq13] at hmh12 frh12
    replace e := ky_letE eq13 e
    refine (?_ : ky_V _ _ _ 56 _ _ _ _)
    refine v_aload_n (i := 37) (j := 0) rfl rfl (?_ : ky_V _ _ _ 57 _ _ _ _)
    refine v_dup (i := 38) rfl rfl (?_ : ky_V _ _ _ 58 _ _ _ _)
    refine gf_X10_70 rfl (i := 39) rfl (oc_X10 hmh12 (ly_X10_c (lt_X10 frh12 za))) rfl (?_ : ky_V _ _ _ 61 _ _ _ _)
    refine v_iconst (v := 1) (i := 40) rfl (by decide) (?_ : ky_V _ _ _ 62 _ _ _ _)
    refine v_iadd (i := 41) rfl (?_ : ky_V _ _ _ 63 _ _ _ _)
    refine v_topi (fun x14 ex14 => ?_)
    replace e := ky_letE ex14 e
    refine pf_X10_70 rfl (i := 42) rfl (oc_X10 hmh12 (ly_X10_c (lt_X10 frh12 za))) (Nat.le_of_ble_eq_true rfl) rfl rfl ?_
    refine sk_stc (kd := 9) (n := 0) hmh12 frh12 (ly_X10_c (lt_X10 frh12 za)) 8 x14 (fun h15 hmh15 frh15 => ?_)
    obtain ⟨q16, eq16⟩ : ∃ z, z = (sk_wc q13 a 8 x14) := ⟨_, rfl⟩
    rw [← eq16] at hmh15 frh15
    replace e := ky_letE eq16 e
    refine (?_ : ky_V _ _ _ 66 _ _ _ _)
    refine v_vret (i := 43) rfl rfl ?_
    obtain ⟨rfl, rfl⟩ := ky_leaf e
    exact hr _ hmh15 frh15
  · replace e := ky_ifF c11 e
    refine v_aload_n (i := 27) (j := 0) rfl rfl (?_ : ky_V _ _ _ 42 _ _ _ _)
    refine gf_X10_23 rfl (i := 28) rfl (oc_X10 hmh9 (ly_X10_c (lt_X10 frh9 za))) (sk_rf (ly_X10_r3 (lt_X10 frh9 za))) (?_ : ky_V _ _ _ 45 _ (.ref (a + 4) :: _) _ _)
    refine v_iload (i := 29) (j := 4) rfl rfl (?_ : ky_V _ _ _ 47 _ _ _ _)
    refine v_iload_n (i := 30) (j := 1) rfl rfl (?_ : ky_V _ _ _ 48 _ _ _ _)
    obtain ⟨z17, e⟩ := ky_chkE e
    refine v_iast (i := 31) rfl (oa_21 hmh9 (ly_X10_k3 (lt_X10 frh9 za))) (ky_inb z17) ?_
    refine sk_stc (kd := 20) hmh9 frh9 (ly_X10_k3 (lt_X10 frh9 za)) (Int32.toNatClampNeg x3) p1 (fun h18 hmh18 frh18 => ?_)
    obtain ⟨q19, eq19⟩ : ∃ z, z = (sk_wc q10 (a + 4) (Int32.toNatClampNeg x3) p1) := ⟨_, rfl⟩
    rw [← eq19] at hmh18 frh18
    replace e := ky_letE eq19 e
    refine (?_ : ky_V _ _ _ 49 _ _ _ _)
    refine v_aload_n (i := 32) (j := 0) rfl rfl (?_ : ky_V _ _ _ 50 _ _ _ _)
    refine gf_X10_33 rfl (i := 33) rfl (oc_X10 hmh18 (ly_X10_c (lt_X10 frh18 za))) (sk_rf (ly_X10_r6 (lt_X10 frh18 za))) (?_ : ky_V _ _ _ 53 _ (.ref (a + 7) :: _) _ _)
    refine v_iload_n (i := 34) (j := 3) rfl rfl (?_ : ky_V _ _ _ 54 _ _ _ _)
    refine v_iload_n (i := 35) (j := 1) rfl rfl (?_ : ky_V _ _ _ 55 _ _ _ _)
    refine v_iast (i := 36) rfl (oa_21 hmh18 (ly_X10_k6 (lt_X10 frh18 za))) (ky_inb z2) ?_
    refine sk_stc (kd := 20) hmh18 frh18 (ly_X10_k6 (lt_X10 frh18 za)) (Int32.toNatClampNeg x1) p1 (fun h20 hmh20 frh20 => ?_)
    obtain ⟨q21, eq21⟩ : ∃ z, z = (sk_wc q19 (a + 7) (Int32.toNatClampNeg x1) p1) := ⟨_, rfl⟩
    rw [← eq21] at hmh20 frh20
    replace e := ky_letE eq21 e
    refine (?_ : ky_V _ _ _ 56 _ _ _ _)
    refine v_aload_n (i := 37) (j := 0) rfl rfl (?_ : ky_V _ _ _ 57 _ _ _ _)
    refine v_dup (i := 38) rfl rfl (?_ : ky_V _ _ _ 58 _ _ _ _)
    refine gf_X10_70 rfl (i := 39) rfl (oc_X10 hmh20 (ly_X10_c (lt_X10 frh20 za))) rfl (?_ : ky_V _ _ _ 61 _ _ _ _)
    refine v_iconst (v := 1) (i := 40) rfl (by decide) (?_ : ky_V _ _ _ 62 _ _ _ _)
    refine v_iadd (i := 41) rfl (?_ : ky_V _ _ _ 63 _ _ _ _)
    refine v_topi (fun x22 ex22 => ?_)
    replace e := ky_letE ex22 e
    refine pf_X10_70 rfl (i := 42) rfl (oc_X10 hmh20 (ly_X10_c (lt_X10 frh20 za))) (Nat.le_of_ble_eq_true rfl) rfl rfl ?_
    refine sk_stc (kd := 9) (n := 0) hmh20 frh20 (ly_X10_c (lt_X10 frh20 za)) 8 x22 (fun h23 hmh23 frh23 => ?_)
    obtain ⟨q24, eq24⟩ : ∃ z, z = (sk_wc q21 a 8 x22) := ⟨_, rfl⟩
    rw [← eq24] at hmh23 frh23
    replace e := ky_letE eq24 e
    refine (?_ : ky_V _ _ _ 66 _ _ _ _)
    refine v_vret (i := 43) rfl rfl ?_
    obtain ⟨rfl, rfl⟩ := ky_leaf e
    exact hr _ hmh23 frh23

def x10_leaveSlot (N : Nat)  (s : sk_S) (a : Nat) (p1 : Int32) : Option (sk_S × Int32) := (if lay_X10 (sk_K s) (sk_r s) a = true then (if ky_inB p1 1200 = true then (if (sk_c s (a + 4) (Int32.toNatClampNeg p1)) = (-1 : Int32) then (ky_let (sk_c s (a + 3) (Int32.toNatClampNeg p1)) (fun x18 => (if ky_inB ((sk_c s (a + 2) (Int32.toNatClampNeg p1)) - (sk_c s (a + 2) (Int32.toNatClampNeg p1)) / 31 * 31) 31 = true then (ky_let (sk_wc s (a + 7) (Int32.toNatClampNeg ((sk_c s (a + 2) (Int32.toNatClampNeg p1)) - (sk_c s (a + 2) (Int32.toNatClampNeg p1)) / 31 * 31)) x18) (fun q21 => (if (sk_c q21 (a + 3) (Int32.toNatClampNeg p1)) = (-1 : Int32) then (ky_let ((sk_c q21 a 8) - 1) (fun x23 => (ky_let (sk_wc q21 a 8 x23) (fun q25 => (some (q25, 0)))))) else (ky_let (sk_c q21 (a + 4) (Int32.toNatClampNeg p1)) (fun x26 => (if ky_inB (sk_c q21 (a + 3) (Int32.toNatClampNeg p1)) 1200 = true then (ky_let (sk_wc q21 (a + 4) (Int32.toNatClampNeg (sk_c q21 (a + 3) (Int32.toNatClampNeg p1))) x26) (fun q29 => (ky_let ((sk_c q29 a 8) - 1) (fun x30 => (ky_let (sk_wc q29 a 8 x30) (fun q32 => (some (q32, 0)))))))) else none)))))) else none))) else (ky_let (sk_c s (a + 3) (Int32.toNatClampNeg p1)) (fun x3 => (if ky_inB (sk_c s (a + 4) (Int32.toNatClampNeg p1)) 1200 = true then (ky_let (sk_wc s (a + 3) (Int32.toNatClampNeg (sk_c s (a + 4) (Int32.toNatClampNeg p1))) x3) (fun q6 => (if (sk_c q6 (a + 3) (Int32.toNatClampNeg p1)) = (-1 : Int32) then (ky_let ((sk_c q6 a 8) - 1) (fun x8 => (ky_let (sk_wc q6 a 8 x8) (fun q10 => (some (q10, 0)))))) else (ky_let (sk_c q6 (a + 4) (Int32.toNatClampNeg p1)) (fun x11 => (if ky_inB (sk_c q6 (a + 3) (Int32.toNatClampNeg p1)) 1200 = true then (ky_let (sk_wc q6 (a + 4) (Int32.toNatClampNeg (sk_c q6 (a + 3) (Int32.toNatClampNeg p1))) x11) (fun q14 => (ky_let ((sk_c q14 a 8) - 1) (fun x15 => (ky_let (sk_wc q14 a 8 x15) (fun q17 => (some (q17, 0)))))))) else none)))))) else none)))) else none) else none)
set_option maxRecDepth 20000 in
set_option maxHeartbeats 4000000 in
theorem k_X10_leaveSlot {G : ky_GW} {d : Nat} {h : ky_HP} {Q : ky_RS → ky_HP → Prop} {s s9 : sk_S} {r9 : Int32} {a : Nat} {p1 : Int32} (N : Nat) (hG : ky_OK G)   (hm : sk_hp G s h)  (e : x10_leaveSlot N  s a p1 = some (s9, r9)) (hr : ∀ h1, sk_hp G s9 h1 → sk_fr none s h s9 h1 → Q (.inl none) h1) : ky_Call G d M_X10_leaveSlot [.ref a, .int p1] h Q := by
  refine ky_ofV (by decide +kernel) rfl ok_X10_leaveSlot (Nat.le_of_ble_eq_true rfl) ?_
  have fr : sk_fr none s h s h := sk_fr.rf
  unfold x10_leaveSlot at e
  refine (?_ : ky_V _ _ _ 0 [(0, .ref a), (1, .int p1)] [] _ _)
  obtain ⟨za, e⟩ := ky_chkE e
  refine v_aload_n (i := 0) (j := 0) rfl rfl (?_ : ky_V _ _ _ 1 _ _ _ _)
  refine gf_X10_23 rfl (i := 1) rfl (oc_X10 hm (ly_X10_c za)) (sk_rf (ly_X10_r3 za)) (?_ : ky_V _ _ _ 4 _ (.ref (a + 4) :: _) _ _)
  refine v_iload_n (i := 2) (j := 1) rfl rfl (?_ : ky_V _ _ _ 5 _ _ _ _)
  obtain ⟨z1, e⟩ := ky_chkE e
  refine v_iald (i := 3) rfl (oa_21 hm (ly_X10_k3 za)) (ky_inb z1) (?_ : ky_V _ _ _ 6 _ (.int (sk_c s (a + 4) (Int32.toNatClampNeg p1)) :: _) _ _)
  refine v_iconst (v := (-1)) (i := 4) rfl (by decide) (?_ : ky_V _ _ _ 7 _ _ _ _)
  refine v_icmp_ne (tgt := 33) (i := 5) rfl (by decide) (fun c2 => ?_) (fun c2 => ?_)
  · replace e := ky_ifF c2 e
    refine v_aload_n (i := 20) (j := 0) rfl rfl (?_ : ky_V _ _ _ 34 _ _ _ _)
    refine gf_X10_20 rfl (i := 21) rfl (oc_X10 hm (ly_X10_c za)) (sk_rf (ly_X10_r2 za)) (?_ : ky_V _ _ _ 37 _ (.ref (a + 3) :: _) _ _)
    refine v_aload_n (i := 22) (j := 0) rfl rfl (?_ : ky_V _ _ _ 38 _ _ _ _)
    refine gf_X10_23 rfl (i := 23) rfl (oc_X10 hm (ly_X10_c za)) (sk_rf (ly_X10_r3 za)) (?_ : ky_V _ _ _ 41 _ (.ref (a + 4) :: _) _ _)
    refine v_iload_n (i := 24) (j := 1) rfl rfl (?_ : ky_V _ _ _ 42 _ _ _ _)
    refine v_iald (i := 25) rfl (oa_21 hm (ly_X10_k3 za)) (ky_inb z1) (?_ : ky_V _ _ _ 43 _ (.int (sk_c s (a + 4) (Int32.toNatClampNeg p1)) :: _) _ _)
    refine v_aload_n (i := 26) (j := 0) rfl rfl (?_ : ky_V _ _ _ 44 _ _ _ _)
    refine gf_X10_20 rfl (i := 27) rfl (oc_X10 hm (ly_X10_c za)) (sk_rf (ly_X10_r2 za)) (?_ : ky_V _ _ _ 47 _ (.ref (a + 3) :: _) _ _)
    refine v_iload_n (i := 28) (j := 1) rfl rfl (?_ : ky_V _ _ _ 48 _ _ _ _)
    refine v_iald (i := 29) rfl (oa_21 hm (ly_X10_k2 za)) (ky_inb z1) (?_ : ky_V _ _ _ 49 _ (.int (sk_c s (a + 3) (Int32.toNatClampNeg p1)) :: _) _ _)
    refine v_topi (fun x3 ex3 => ?_)
    replace e := ky_letE ex3 e
    obtain ⟨z4, e⟩ := ky_chkE e
    refine v_iast (i := 30) rfl (oa_21 hm (ly_X10_k2 za)) (ky_inb z4) ?_
    refine sk_stc (kd := 20) hm fr (ly_X10_k2 za) (Int32.toNatClampNeg (sk_c s (a + 4) (Int32.toNatClampNeg p1))) x3 (fun h5 hmh5 frh5 => ?_)
    obtain ⟨q6, eq6⟩ : ∃ z, z = (sk_wc s (a + 3) (Int32.toNatClampNeg (sk_c s (a + 4) (Int32.toNatClampNeg p1))) x3) := ⟨_, rfl⟩
    rw [← eq6] at hmh5 frh5
    replace e := ky_letE eq6 e
    refine (?_ : ky_V _ _ _ 50 _ _ _ _)
    refine v_aload_n (i := 31) (j := 0) rfl rfl (?_ : ky_V _ _ _ 51 _ _ _ _)
    refine gf_X10_20 rfl (i := 32) rfl (oc_X10 hmh5 (ly_X10_c (lt_X10 frh5 za))) (sk_rf (ly_X10_r2 (lt_X10 frh5 za))) (?_ : ky_V _ _ _ 54 _ (.ref (a + 3) :: _) _ _)
    refine v_iload_n (i := 33) (j := 1) rfl rfl (?_ : ky_V _ _ _ 55 _ _ _ _)
    refine v_iald (i := 34) rfl (oa_21 hmh5 (ly_X10_k2 (lt_X10 frh5 za))) (ky_inb z1) (?_ : ky_V _ _ _ 56 _ (.int (sk_c q6 (a + 3) (Int32.toNatClampNeg p1)) :: _) _ _)
    refine v_iconst (v := (-1)) (i := 35) rfl (by decide) (?_ : ky_V _ _ _ 57 _ _ _ _)
    refine v_icmp_eq (tgt := 77) (i := 36) rfl (by decide) (fun c7 => ?_) (fun c7 => ?_)
    · replace e := ky_ifT c7 e
      refine v_aload_n (i := 48) (j := 0) rfl rfl (?_ : ky_V _ _ _ 78 _ _ _ _)
      refine v_dup (i := 49) rfl rfl (?_ : ky_V _ _ _ 79 _ _ _ _)
      refine gf_X10_70 rfl (i := 50) rfl (oc_X10 hmh5 (ly_X10_c (lt_X10 frh5 za))) rfl (?_ : ky_V _ _ _ 82 _ _ _ _)
      refine v_iconst (v := 1) (i := 51) rfl (by decide) (?_ : ky_V _ _ _ 83 _ _ _ _)
      refine v_isub (i := 52) rfl (?_ : ky_V _ _ _ 84 _ _ _ _)
      refine v_topi (fun x8 ex8 => ?_)
      replace e := ky_letE ex8 e
      refine pf_X10_70 rfl (i := 53) rfl (oc_X10 hmh5 (ly_X10_c (lt_X10 frh5 za))) (Nat.le_of_ble_eq_true rfl) rfl rfl ?_
      refine sk_stc (kd := 9) (n := 0) hmh5 frh5 (ly_X10_c (lt_X10 frh5 za)) 8 x8 (fun h9 hmh9 frh9 => ?_)
      obtain ⟨q10, eq10⟩ : ∃ z, z = (sk_wc q6 a 8 x8) := ⟨_, rfl⟩
      rw [← eq10] at hmh9 frh9
      replace e := ky_letE eq10 e
      refine (?_ : ky_V _ _ _ 87 _ _ _ _)
      refine v_vret (i := 54) rfl rfl ?_
      obtain ⟨rfl, rfl⟩ := ky_leaf e
      exact hr _ hmh9 frh9
    · replace e := ky_ifF c7 e
      refine v_aload_n (i := 37) (j := 0) rfl rfl (?_ : ky_V _ _ _ 61 _ _ _ _)
      refine gf_X10_23 rfl (i := 38) rfl (oc_X10 hmh5 (ly_X10_c (lt_X10 frh5 za))) (sk_rf (ly_X10_r3 (lt_X10 frh5 za))) (?_ : ky_V _ _ _ 64 _ (.ref (a + 4) :: _) _ _)
      refine v_aload_n (i := 39) (j := 0) rfl rfl (?_ : ky_V _ _ _ 65 _ _ _ _)
      refine gf_X10_20 rfl (i := 40) rfl (oc_X10 hmh5 (ly_X10_c (lt_X10 frh5 za))) (sk_rf (ly_X10_r2 (lt_X10 frh5 za))) (?_ : ky_V _ _ _ 68 _ (.ref (a + 3) :: _) _ _)
      refine v_iload_n (i := 41) (j := 1) rfl rfl (?_ : ky_V _ _ _ 69 _ _ _ _)
      refine v_iald (i := 42) rfl (oa_21 hmh5 (ly_X10_k2 (lt_X10 frh5 za))) (ky_inb z1) (?_ : ky_V _ _ _ 70 _ (.int (sk_c q6 (a + 3) (Int32.toNatClampNeg p1)) :: _) _ _)
      refine v_aload_n (i := 43) (j := 0) rfl rfl (?_ : ky_V _ _ _ 71 _ _ _ _)
      refine gf_X10_23 rfl (i := 44) rfl (oc_X10 hmh5 (ly_X10_c (lt_X10 frh5 za))) (sk_rf (ly_X10_r3 (lt_X10 frh5 za))) (?_ : ky_V _ _ _ 74 _ (.ref (a + 4) :: _) _ _)
      refine v_iload_n (i := 45) (j := 1) rfl rfl (?_ : ky_V _ _ _ 75 _ _ _ _)
      refine v_iald (i := 46) rfl (oa_21 hmh5 (ly_X10_k3 (lt_X10 frh5 za))) (ky_inb z1) (?_ : ky_V _ _ _ 76 _ (.int (sk_c q6 (a + 4) (Int32.toNatClampNeg p1)) :: _) _ _)
      refine v_topi (fun x11 ex11 => ?_)
      replace e := ky_letE ex11 e
      obtain ⟨z12, e⟩ := ky_chkE e
      refine v_iast (i := 47) rfl (oa_21 hmh5 (ly_X10_k3 (lt_X10 frh5 za))) (ky_inb z12) ?_
      refine sk_stc (kd := 20) hmh5 frh5 (ly_X10_k3 (lt_X10 frh5 za)) (Int32.toNatClampNeg (sk_c q6 (a + 3) (Int32.toNatClampNeg p1))) x11 (fun h13 hmh13 frh13 => ?_)
      obtain ⟨q14, eq14⟩ : ∃ z, z = (sk_wc q6 (a + 4) (Int32.toNatClampNeg (sk_c q6 (a + 3) (Int32.toNatClampNeg p1))) x11) := ⟨_, rfl⟩
      rw [← eq14] at hmh13 frh13
      replace e := ky_letE eq14 e
      refine (?_ : ky_V _ _ _ 77 _ _ _ _)
      refine v_aload_n (i := 48) (j := 0) rfl rfl (?_ : ky_V _ _ _ 78 _ _ _ _)
      refine v_dup (i := 49) rfl rfl (?_ : ky_V _ _ _ 79 _ _ _ _)
      refine gf_X10_70 rfl (i := 50) rfl (oc_X10 hmh13 (ly_X10_c (lt_X10 frh13 za))) rfl (?_ : ky_V _ _ _ 82 _ _ _ _)
      refine v_iconst (v := 1) (i := 51) rfl (by decide) (?_ : ky_V _ _ _ 83 _ _ _ _)
      refine v_isub (i := 52) rfl (?_ : ky_V _ _ _ 84 _ _ _ _)
      refine v_topi (fun x15 ex15 => ?_)
      replace e := ky_letE ex15 e
      refine pf_X10_70 rfl (i := 53) rfl (oc_X10 hmh13 (ly_X10_c (lt_X10 frh13 za))) (Nat.le_of_ble_eq_true rfl) rfl rfl ?_
      refine sk_stc (kd := 9) (n := 0) hmh13 frh13 (ly_X10_c (lt_X10 frh13 za)) 8 x15 (fun h16 hmh16 frh16 => ?_)
      obtain ⟨q17, eq17⟩ : ∃ z, z = (sk_wc q14 a 8 x15) := ⟨_, rfl⟩
      rw [← eq17] at hmh16 frh16
      replace e := ky_letE eq17 e
      refine (?_ : ky_V _ _ _ 87 _ _ _ _)
      refine v_vret (i := 54) rfl rfl ?_
      obtain ⟨rfl, rfl⟩ := ky_leaf e
      exact hr _ hmh16 frh16
  · replace e := ky_ifT c2 e
    refine v_aload_n (i := 6) (j := 0) rfl rfl (?_ : ky_V _ _ _ 11 _ _ _ _)
    refine gf_X10_33 rfl (i := 7) rfl (oc_X10 hm (ly_X10_c za)) (sk_rf (ly_X10_r6 za)) (?_ : ky_V _ _ _ 14 _ (.ref (a + 7) :: _) _ _)
    refine v_aload_n (i := 8) (j := 0) rfl rfl (?_ : ky_V _ _ _ 15 _ _ _ _)
    refine gf_X10_17 rfl (i := 9) rfl (oc_X10 hm (ly_X10_c za)) (sk_rf (ly_X10_r1 za)) (?_ : ky_V _ _ _ 18 _ (.ref (a + 2) :: _) _ _)
    refine v_iload_n (i := 10) (j := 1) rfl rfl (?_ : ky_V _ _ _ 19 _ _ _ _)
    refine v_iald (i := 11) rfl (oa_21 hm (ly_X10_k1 za)) (ky_inb z1) (?_ : ky_V _ _ _ 20 _ (.int (sk_c s (a + 2) (Int32.toNatClampNeg p1)) :: _) _ _)
    refine v_bipush (v := 31) (i := 12) rfl (by decide) (?_ : ky_V _ _ _ 22 _ _ _ _)
    refine v_irem (i := 13) rfl (by decide) (?_ : ky_V _ _ _ 23 _ _ _ _)
    refine v_aload_n (i := 14) (j := 0) rfl rfl (?_ : ky_V _ _ _ 24 _ _ _ _)
    refine gf_X10_20 rfl (i := 15) rfl (oc_X10 hm (ly_X10_c za)) (sk_rf (ly_X10_r2 za)) (?_ : ky_V _ _ _ 27 _ (.ref (a + 3) :: _) _ _)
    refine v_iload_n (i := 16) (j := 1) rfl rfl (?_ : ky_V _ _ _ 28 _ _ _ _)
    refine v_iald (i := 17) rfl (oa_21 hm (ly_X10_k2 za)) (ky_inb z1) (?_ : ky_V _ _ _ 29 _ (.int (sk_c s (a + 3) (Int32.toNatClampNeg p1)) :: _) _ _)
    refine v_topi (fun x18 ex18 => ?_)
    replace e := ky_letE ex18 e
    obtain ⟨z19, e⟩ := ky_chkE e
    refine v_iast (i := 18) rfl (oa_21 hm (ly_X10_k6 za)) (ky_inb z19) ?_
    refine sk_stc (kd := 20) hm fr (ly_X10_k6 za) (Int32.toNatClampNeg ((sk_c s (a + 2) (Int32.toNatClampNeg p1)) - (sk_c s (a + 2) (Int32.toNatClampNeg p1)) / 31 * 31)) x18 (fun h20 hmh20 frh20 => ?_)
    obtain ⟨q21, eq21⟩ : ∃ z, z = (sk_wc s (a + 7) (Int32.toNatClampNeg ((sk_c s (a + 2) (Int32.toNatClampNeg p1)) - (sk_c s (a + 2) (Int32.toNatClampNeg p1)) / 31 * 31)) x18) := ⟨_, rfl⟩
    rw [← eq21] at hmh20 frh20
    replace e := ky_letE eq21 e
    refine (?_ : ky_V _ _ _ 30 _ _ _ _)
    refine v_goto (tgt := 50) (i := 19) rfl (by decide) (?_ : ky_V _ _ _ 50 _ _ _ _)
    refine v_aload_n (i := 31) (j := 0) rfl rfl (?_ : ky_V _ _ _ 51 _ _ _ _)
    refine gf_X10_20 rfl (i := 32) rfl (oc_X10 hmh20 (ly_X10_c (lt_X10 frh20 za))) (sk_rf (ly_X10_r2 (lt_X10 frh20 za))) (?_ : ky_V _ _ _ 54 _ (.ref (a + 3) :: _) _ _)
    refine v_iload_n (i := 33) (j := 1) rfl rfl (?_ : ky_V _ _ _ 55 _ _ _ _)
    refine v_iald (i := 34) rfl (oa_21 hmh20 (ly_X10_k2 (lt_X10 frh20 za))) (ky_inb z1) (?_ : ky_V _ _ _ 56 _ (.int (sk_c q21 (a + 3) (Int32.toNatClampNeg p1)) :: _) _ _)
    refine v_iconst (v := (-1)) (i := 35) rfl (by decide) (?_ : ky_V _ _ _ 57 _ _ _ _)
    refine v_icmp_eq (tgt := 77) (i := 36) rfl (by decide) (fun c22 => ?_) (fun c22 => ?_)
    · replace e := ky_ifT c22 e
      refine v_aload_n (i := 48) (j := 0) rfl rfl (?_ : ky_V _ _ _ 78 _ _ _ _)
      refine v_dup (i := 49) rfl rfl (?_ : ky_V _ _ _ 79 _ _ _ _)
      refine gf_X10_70 rfl (i := 50) rfl (oc_X10 hmh20 (ly_X10_c (lt_X10 frh20 za))) rfl (?_ : ky_V _ _ _ 82 _ _ _ _)
      refine v_iconst (v := 1) (i := 51) rfl (by decide) (?_ : ky_V _ _ _ 83 _ _ _ _)
      refine v_isub (i := 52) rfl (?_ : ky_V _ _ _ 84 _ _ _ _)
      refine v_topi (fun x23 ex23 => ?_)
      replace e := ky_letE ex23 e
      refine pf_X10_70 rfl (i := 53) rfl (oc_X10 hmh20 (ly_X10_c (lt_X10 frh20 za))) (Nat.le_of_ble_eq_true rfl) rfl rfl ?_
      refine sk_stc (kd := 9) (n := 0) hmh20 frh20 (ly_X10_c (lt_X10 frh20 za)) 8 x23 (fun h24 hmh24 frh24 => ?_)
      obtain ⟨q25, eq25⟩ : ∃ z, z = (sk_wc q21 a 8 x23) := ⟨_, rfl⟩
      rw [← eq25] at hmh24 frh24
      replace e := ky_letE eq25 e
      refine (?_ : ky_V _ _ _ 87 _ _ _ _)
      refine v_vret (i := 54) rfl rfl ?_
      obtain ⟨rfl, rfl⟩ := ky_leaf e
      exact hr _ hmh24 frh24
    · replace e := ky_ifF c22 e
      refine v_aload_n (i := 37) (j := 0) rfl rfl (?_ : ky_V _ _ _ 61 _ _ _ _)
      refine gf_X10_23 rfl (i := 38) rfl (oc_X10 hmh20 (ly_X10_c (lt_X10 frh20 za))) (sk_rf (ly_X10_r3 (lt_X10 frh20 za))) (?_ : ky_V _ _ _ 64 _ (.ref (a + 4) :: _) _ _)
      refine v_aload_n (i := 39) (j := 0) rfl rfl (?_ : ky_V _ _ _ 65 _ _ _ _)
      refine gf_X10_20 rfl (i := 40) rfl (oc_X10 hmh20 (ly_X10_c (lt_X10 frh20 za))) (sk_rf (ly_X10_r2 (lt_X10 frh20 za))) (?_ : ky_V _ _ _ 68 _ (.ref (a + 3) :: _) _ _)
      refine v_iload_n (i := 41) (j := 1) rfl rfl (?_ : ky_V _ _ _ 69 _ _ _ _)
      refine v_iald (i := 42) rfl (oa_21 hmh20 (ly_X10_k2 (lt_X10 frh20 za))) (ky_inb z1) (?_ : ky_V _ _ _ 70 _ (.int (sk_c q21 (a + 3) (Int32.toNatClampNeg p1)) :: _) _ _)
      refine v_aload_n (i := 43) (j := 0) rfl rfl (?_ : ky_V _ _ _ 71 _ _ _ _)
      refine gf_X10_23 rfl (i := 44) rfl (oc_X10 hmh20 (ly_X10_c (lt_X10 frh20 za))) (sk_rf (ly_X10_r3 (lt_X10 frh20 za))) (?_ : ky_V _ _ _ 74 _ (.ref (a + 4) :: _) _ _)
      refine v_iload_n (i := 45) (j := 1) rfl rfl (?_ : ky_V _ _ _ 75 _ _ _ _)
      refine v_iald (i := 46) rfl (oa_21 hmh20 (ly_X10_k3 (lt_X10 frh20 za))) (ky_inb z1) (?_ : ky_V _ _ _ 76 _ (.int (sk_c q21 (a + 4) (Int32.toNatClampNeg p1)) :: _) _ _)
      refine v_topi (fun x26 ex26 => ?_)
      replace e := ky_letE ex26 e
      obtain ⟨z27, e⟩ := ky_chkE e
      refine v_iast (i := 47) rfl (oa_21 hmh20 (ly_X10_k3 (lt_X10 frh20 za))) (ky_inb z27) ?_
      refine sk_stc (kd := 20) hmh20 frh20 (ly_X10_k3 (lt_X10 frh20 za)) (Int32.toNatClampNeg (sk_c q21 (a + 3) (Int32.toNatClampNeg p1))) x26 (fun h28 hmh28 frh28 => ?_)
      obtain ⟨q29, eq29⟩ : ∃ z, z = (sk_wc q21 (a + 4) (Int32.toNatClampNeg (sk_c q21 (a + 3) (Int32.toNatClampNeg p1))) x26) := ⟨_, rfl⟩
      rw [← eq29] at hmh28 frh28
      replace e := ky_letE eq29 e
      refine (?_ : ky_V _ _ _ 77 _ _ _ _)
      refine v_aload_n (i := 48) (j := 0) rfl rfl (?_ : ky_V _ _ _ 78 _ _ _ _)
      refine v_dup (i := 49) rfl rfl (?_ : ky_V _ _ _ 79 _ _ _ _)
      refine gf_X10_70 rfl (i := 50) rfl (oc_X10 hmh28 (ly_X10_c (lt_X10 frh28 za))) rfl (?_ : ky_V _ _ _ 82 _ _ _ _)
      refine v_iconst (v := 1) (i := 51) rfl (by decide) (?_ : ky_V _ _ _ 83 _ _ _ _)
      refine v_isub (i := 52) rfl (?_ : ky_V _ _ _ 84 _ _ _ _)
      refine v_topi (fun x30 ex30 => ?_)
      replace e := ky_letE ex30 e
      refine pf_X10_70 rfl (i := 53) rfl (oc_X10 hmh28 (ly_X10_c (lt_X10 frh28 za))) (Nat.le_of_ble_eq_true rfl) rfl rfl ?_
      refine sk_stc (kd := 9) (n := 0) hmh28 frh28 (ly_X10_c (lt_X10 frh28 za)) 8 x30 (fun h31 hmh31 frh31 => ?_)
      obtain ⟨q32, eq32⟩ : ∃ z, z = (sk_wc q29 a 8 x30) := ⟨_, rfl⟩
      rw [← eq32] at hmh31 frh31
      replace e := ky_letE eq32 e
      refine (?_ : ky_V _ _ _ 87 _ _ _ _)
      refine v_vret (i := 54) rfl rfl ?_
      obtain ⟨rfl, rfl⟩ := ky_leaf e
      exact hr _ hmh31 frh31

def x10_target (N : Nat)  (s : sk_S) (a : Nat) (p1 : Int32) (p2 : Int32) : Option (sk_S × Int32) := (if lay_X10 (sk_K s) (sk_r s) a = true then (ky_let ((p1 * 12) + p2) (fun x1 => (if ky_inB x1 14400 = true then (if ((sk_c s (a + 1) (Int32.toNatClampNeg x1)) >>> ((11 : Int32) &&& 31)) = (sk_c s a 9) then (some (s, ((sk_c s (a + 1) (Int32.toNatClampNeg x1)) &&& 2047))) else (ky_om (sk_r s a 10) none (fun l5 => (if lay_X6 (sk_K s) (sk_r s) l5 = true then ((x6_after N s l5 p1 (wy_moveOf p2) (p2 &&& 1) (sk_c s a 11) (sk_c s a 12)).bind (fun zz => (fun q8 x9 => (ky_let (((sk_c q8 a 9) <<< ((11 : Int32) &&& 31)) ||| x9) (fun x11 => (ky_let (sk_wc q8 (a + 1) (Int32.toNatClampNeg x1) x11) (fun q13 => (some (q13, ((sk_c q13 (a + 1) (Int32.toNatClampNeg x1)) &&& 2047)))))))) zz.1 zz.2)) else none)))) else none))) else none)
set_option maxRecDepth 20000 in
set_option maxHeartbeats 4000000 in
theorem k_X10_target {G : ky_GW} {d : Nat} {h : ky_HP} {Q : ky_RS → ky_HP → Prop} {s s9 : sk_S} {r9 : Int32} {a : Nat} {p1 : Int32} {p2 : Int32} (N : Nat) (hG : ky_OK G)   (hm : sk_hp G s h)  (e : x10_target N  s a p1 p2 = some (s9, r9)) (hr : ∀ h1, sk_hp G s9 h1 → sk_fr none s h s9 h1 → Q (.inl (some (.int r9))) h1) : ky_Call G (d + 3) M_X10_target [.ref a, .int p1, .int p2] h Q := by
  refine ky_ofV (by decide +kernel) rfl ok_X10_target (Nat.le_of_ble_eq_true rfl) ?_
  have fr : sk_fr none s h s h := sk_fr.rf
  unfold x10_target at e
  refine (?_ : ky_V _ _ _ 0 [(0, .ref a), (1, .int p1), (2, .int p2)] [] _ _)
  obtain ⟨za, e⟩ := ky_chkE e
  refine v_iload_n (i := 0) (j := 1) rfl rfl (?_ : ky_V _ _ _ 1 _ _ _ _)
  refine v_bipush (v := 12) (i := 1) rfl (by decide) (?_ : ky_V _ _ _ 3 _ _ _ _)
  refine v_imul (i := 2) rfl (?_ : ky_V _ _ _ 4 _ _ _ _)
  refine v_iload_n (i := 3) (j := 2) rfl rfl (?_ : ky_V _ _ _ 5 _ _ _ _)
  refine v_iadd (i := 4) rfl (?_ : ky_V _ _ _ 6 _ _ _ _)
  refine v_topi (fun x1 ex1 => ?_)
  replace e := ky_letE ex1 e
  refine v_istore_n (L' := [(0, .ref a), (1, .int p1), (2, .int p2), (3, .int x1)]) [1, 2, 3, 0] (i := 5) rfl (Nat.le_of_ble_eq_true rfl) rfl (?_ : ky_V _ _ _ 7 _ _ _ _)
  refine v_aload_n (i := 6) (j := 0) rfl rfl (?_ : ky_V _ _ _ 8 _ _ _ _)
  refine gf_X10_13 rfl (i := 7) rfl (oc_X10 hm (ly_X10_c za)) (sk_rf (ly_X10_r0 za)) (?_ : ky_V _ _ _ 11 _ (.ref (a + 1) :: _) _ _)
  refine v_iload_n (i := 8) (j := 3) rfl rfl (?_ : ky_V _ _ _ 12 _ _ _ _)
  obtain ⟨z2, e⟩ := ky_chkE e
  refine v_iald (i := 9) rfl (oa_21 hm (ly_X10_k0 za)) (ky_inb z2) (?_ : ky_V _ _ _ 13 _ (.int (sk_c s (a + 1) (Int32.toNatClampNeg x1)) :: _) _ _)
  refine v_bipush (v := 11) (i := 10) rfl (by decide) (?_ : ky_V _ _ _ 15 _ _ _ _)
  refine v_ishr (i := 11) rfl (?_ : ky_V _ _ _ 16 _ _ _ _)
  refine v_aload_n (i := 12) (j := 0) rfl rfl (?_ : ky_V _ _ _ 17 _ _ _ _)
  refine gf_X10_36 rfl (i := 13) rfl (oc_X10 hm (ly_X10_c za)) rfl (?_ : ky_V _ _ _ 20 _ _ _ _)
  refine v_icmp_eq (tgt := 64) (i := 14) rfl (by decide) (fun c3 => ?_) (fun c3 => ?_)
  · replace e := ky_ifT c3 e
    refine v_aload_n (i := 39) (j := 0) rfl rfl (?_ : ky_V _ _ _ 65 _ _ _ _)
    refine gf_X10_13 rfl (i := 40) rfl (oc_X10 hm (ly_X10_c za)) (sk_rf (ly_X10_r0 za)) (?_ : ky_V _ _ _ 68 _ (.ref (a + 1) :: _) _ _)
    refine v_iload_n (i := 41) (j := 3) rfl rfl (?_ : ky_V _ _ _ 69 _ _ _ _)
    refine v_iald (i := 42) rfl (oa_21 hm (ly_X10_k0 za)) (ky_inb z2) (?_ : ky_V _ _ _ 70 _ (.int (sk_c s (a + 1) (Int32.toNatClampNeg x1)) :: _) _ _)
    refine v_sipush (v := 2047) (i := 43) rfl (by decide) (?_ : ky_V _ _ _ 73 _ _ _ _)
    refine v_iand (i := 44) rfl (?_ : ky_V _ _ _ 74 _ _ _ _)
    refine v_iret (v := ((sk_c s (a + 1) (Int32.toNatClampNeg x1)) &&& 2047)) (ty := .int) (i := 45) rfl rfl rfl ?_
    obtain ⟨rfl, rfl⟩ := ky_leaf e
    exact hr _ hm fr
  · replace e := ky_ifF c3 e
    refine v_aload_n (i := 15) (j := 0) rfl rfl (?_ : ky_V _ _ _ 24 _ _ _ _)
    rcases y4 : (sk_r s a 10) with _ | l5
    · replace e := ky_omN y4 e
      refine gf_X10_61 rfl (i := 16) rfl (oc_X10 hm (ly_X10_c za)) (sk_rn y4) (?_ : ky_V _ _ _ 27 _ _ _ _)
      refine v_iload_n (i := 17) (j := 1) rfl rfl (?_ : ky_V _ _ _ 28 _ _ _ _)
      refine v_iload_n (i := 18) (j := 2) rfl rfl (?_ : ky_V _ _ _ 29 _ _ _ _)
      refine cl_X10_103 (As := [.int p2]) rfl (i := 19) rfl rfl rfl (Nat.le_of_ble_eq_true rfl) (k_X10_moveOf p2 ⟨_, rfl, (?_ : ky_V _ _ _ 32 _ [.int ((wy_moveOf p2)), .int p1, .null] _ _)⟩)
      refine v_iload_n (i := 20) (j := 2) rfl rfl (?_ : ky_V _ _ _ 33 _ _ _ _)
      refine v_iconst (v := 1) (i := 21) rfl (by decide) (?_ : ky_V _ _ _ 34 _ _ _ _)
      refine v_iand (i := 22) rfl (?_ : ky_V _ _ _ 35 _ _ _ _)
      refine v_aload_n (i := 23) (j := 0) rfl rfl (?_ : ky_V _ _ _ 36 _ _ _ _)
      refine gf_X10_46 rfl (i := 24) rfl (oc_X10 hm (ly_X10_c za)) rfl (?_ : ky_V _ _ _ 39 _ _ _ _)
      refine v_aload_n (i := 25) (j := 0) rfl rfl (?_ : ky_V _ _ _ 40 _ _ _ _)
      refine gf_X10_55 rfl (i := 26) rfl (oc_X10 hm (ly_X10_c za)) rfl (?_ : ky_V _ _ _ 43 _ _ _ _)
      cases e
    · replace e := ky_omS y4 e
      refine gf_X10_61 rfl (i := 16) rfl (oc_X10 hm (ly_X10_c za)) (sk_rf y4) (?_ : ky_V _ _ _ 27 _ _ _ _)
      refine v_iload_n (i := 17) (j := 1) rfl rfl (?_ : ky_V _ _ _ 28 _ _ _ _)
      refine v_iload_n (i := 18) (j := 2) rfl rfl (?_ : ky_V _ _ _ 29 _ _ _ _)
      refine cl_X10_103 (As := [.int p2]) rfl (i := 19) rfl rfl rfl (Nat.le_of_ble_eq_true rfl) (k_X10_moveOf p2 ⟨_, rfl, (?_ : ky_V _ _ _ 32 _ [.int ((wy_moveOf p2)), .int p1, .ref l5] _ _)⟩)
      refine v_iload_n (i := 20) (j := 2) rfl rfl (?_ : ky_V _ _ _ 33 _ _ _ _)
      refine v_iconst (v := 1) (i := 21) rfl (by decide) (?_ : ky_V _ _ _ 34 _ _ _ _)
      refine v_iand (i := 22) rfl (?_ : ky_V _ _ _ 35 _ _ _ _)
      refine v_aload_n (i := 23) (j := 0) rfl rfl (?_ : ky_V _ _ _ 36 _ _ _ _)
      refine gf_X10_46 rfl (i := 24) rfl (oc_X10 hm (ly_X10_c za)) rfl (?_ : ky_V _ _ _ 39 _ _ _ _)
      refine v_aload_n (i := 25) (j := 0) rfl rfl (?_ : ky_V _ _ _ 40 _ _ _ _)
      refine gf_X10_55 rfl (i := 26) rfl (oc_X10 hm (ly_X10_c za)) rfl (?_ : ky_V _ _ _ 43 _ _ _ _)
      obtain ⟨z6, e⟩ := ky_chkE e
      obtain ⟨⟨q8, x9⟩, g10, e⟩ := Option.bind_eq_some_iff.mp e
      refine cl_X10_110 (As := [.int p1, .int ((wy_moveOf p2)), .int ((p2 &&& 1)), .int ((sk_c s a 11)), .int ((sk_c s a 12))]) rfl (i := 27) rfl (oc_X6 hm (ly_X6_c z6)) rfl rfl (Nat.le_of_ble_eq_true rfl) (k_X6_after N hG hm g10 (fun h7 hmh7 frh7 => ⟨_, rfl, (?_ : ky_V _ _ _ 46 _ [.int x9] _ _)⟩))
      have frh7 := fr.tr frh7
      refine v_istore (L' := [(0, .ref a), (1, .int p1), (2, .int p2), (3, .int x1), (4, .int x9)]) [1, 2, 3, 4, 0] (i := 28) rfl (Nat.le_of_ble_eq_true rfl) rfl (?_ : ky_V _ _ _ 48 _ _ _ _)
      refine v_aload_n (i := 29) (j := 0) rfl rfl (?_ : ky_V _ _ _ 49 _ _ _ _)
      refine gf_X10_13 rfl (i := 30) rfl (oc_X10 hmh7 (ly_X10_c (lt_X10 frh7 za))) (sk_rf (ly_X10_r0 (lt_X10 frh7 za))) (?_ : ky_V _ _ _ 52 _ (.ref (a + 1) :: _) _ _)
      refine v_iload_n (i := 31) (j := 3) rfl rfl (?_ : ky_V _ _ _ 53 _ _ _ _)
      refine v_aload_n (i := 32) (j := 0) rfl rfl (?_ : ky_V _ _ _ 54 _ _ _ _)
      refine gf_X10_36 rfl (i := 33) rfl (oc_X10 hmh7 (ly_X10_c (lt_X10 frh7 za))) rfl (?_ : ky_V _ _ _ 57 _ _ _ _)
      refine v_bipush (v := 11) (i := 34) rfl (by decide) (?_ : ky_V _ _ _ 59 _ _ _ _)
      refine v_ishl (i := 35) rfl (?_ : ky_V _ _ _ 60 _ _ _ _)
      refine v_iload (i := 36) (j := 4) rfl rfl (?_ : ky_V _ _ _ 62 _ _ _ _)
      refine v_ior (i := 37) rfl (?_ : ky_V _ _ _ 63 _ _ _ _)
      refine v_topi (fun x11 ex11 => ?_)
      replace e := ky_letE ex11 e
      refine v_iast (i := 38) rfl (oa_21 hmh7 (ly_X10_k0 (lt_X10 frh7 za))) (ky_inb z2) ?_
      refine sk_stc (kd := 20) hmh7 frh7 (ly_X10_k0 (lt_X10 frh7 za)) (Int32.toNatClampNeg x1) x11 (fun h12 hmh12 frh12 => ?_)
      obtain ⟨q13, eq13⟩ : ∃ z, z = (sk_wc q8 (a + 1) (Int32.toNatClampNeg x1) x11) := ⟨_, rfl⟩
      rw [← eq13] at hmh12 frh12
      replace e := ky_letE eq13 e
      refine (?_ : ky_V _ _ _ 64 _ _ _ _)
      refine v_aload_n (i := 39) (j := 0) rfl rfl (?_ : ky_V _ _ _ 65 _ _ _ _)
      refine gf_X10_13 rfl (i := 40) rfl (oc_X10 hmh12 (ly_X10_c (lt_X10 frh12 za))) (sk_rf (ly_X10_r0 (lt_X10 frh12 za))) (?_ : ky_V _ _ _ 68 _ (.ref (a + 1) :: _) _ _)
      refine v_iload_n (i := 41) (j := 3) rfl rfl (?_ : ky_V _ _ _ 69 _ _ _ _)
      refine v_iald (i := 42) rfl (oa_21 hmh12 (ly_X10_k0 (lt_X10 frh12 za))) (ky_inb z2) (?_ : ky_V _ _ _ 70 _ (.int (sk_c q13 (a + 1) (Int32.toNatClampNeg x1)) :: _) _ _)
      refine v_sipush (v := 2047) (i := 43) rfl (by decide) (?_ : ky_V _ _ _ 73 _ _ _ _)
      refine v_iand (i := 44) rfl (?_ : ky_V _ _ _ 74 _ _ _ _)
      refine v_iret (v := ((sk_c q13 (a + 1) (Int32.toNatClampNeg x1)) &&& 2047)) (ty := .int) (i := 45) rfl rfl rfl ?_
      obtain ⟨rfl, rfl⟩ := ky_leaf e
      exact hr _ hmh12 frh12

def x10_leadingStep_L2 (N : Nat)  (a : Nat) (k : sk_S → Int32 → Int32 → Int32 → Option (sk_S × Int32)) : Nat → sk_S → Int32 → Int32 → Int32 → Option (sk_S × Int32)
  | 0, _, _, _, _ => none
  | n + 1, c, p1, p2, p3 => (if (12 : Int32) ≤ p3 then (k c p1 p2 p3) else (if (wy_isIn p2 p3) = 0 then (ky_let (p3 + 1) (fun x3 => (x10_leadingStep_L2 N a k n c p1 p2 x3))) else ((x10_target N c a p1 p3).bind (fun zz => (fun q5 x6 => (if ky_inB x6 1200 = true then (if (sk_c q5 (a + 6) (Int32.toNatClampNeg x6)) = 0 then (ky_let (p3 + 1) (fun x10 => (x10_leadingStep_L2 N a k n q5 p1 p2 x10))) else (if ky_inB p1 1200 = true then (ky_om (sk_r q5 a 10) none (fun l13 => (if lay_X6 (sk_K q5) (sk_r q5) l13 = true then ((x6_takes N q5 l13 (wy_moveOf p3)).bind (fun zz => (fun q16 x17 => (if (sk_c q5 (a + 2) (Int32.toNatClampNeg x6)) = ((sk_c q5 (a + 2) (Int32.toNatClampNeg p1)) + x17) then (some (q16, p3)) else (ky_let (p3 + 1) (fun x20 => (x10_leadingStep_L2 N a k n q16 p1 p2 x20))))) zz.1 zz.2)) else none))) else none)) else none)) zz.1 zz.2))))
set_option maxRecDepth 20000 in
set_option maxHeartbeats 4000000 in
theorem lv_X10_leadingStep_2 {G : ky_GW} {d : Nat} {s s9 : sk_S} {h0 : ky_HP} {Q : ky_RS → ky_HP → Prop} {r9 : Int32} (N : Nat) (hG : ky_OK G)  (a : Nat)   (za : lay_X10 (sk_K s) (sk_r s) a = true) (hm : sk_hp G s h0) (k : sk_S → Int32 → Int32 → Int32 → Option (sk_S × Int32)) (hr : ∀ h1, sk_hp G s9 h1 → sk_fr none s h0 s9 h1 → Q (.inl (some (.int r9))) h1)
    (hk : ∀ (h : ky_HP) (c : sk_S) (p1 : Int32) (p2 : Int32) (p3 : Int32), sk_hp G c h → sk_fr none s h0 c h → k c p1 p2 p3 = some (s9, r9) → ky_V G (d + 4) M_X10_leadingStep 70 [(0, .ref a), (1, .int p1), (2, .int p2), (3, .int p3)] [] h Q) :
    ∀ (n : Nat) (h : ky_HP) (c : sk_S) (p1 : Int32) (p2 : Int32) (p3 : Int32), sk_hp G c h → sk_fr none s h0 c h → x10_leadingStep_L2 N a k n c p1 p2 p3 = some (s9, r9) → ky_V G (d + 4) M_X10_leadingStep 2 [(0, .ref a), (1, .int p1), (2, .int p2), (3, .int p3)] [] h Q := by
  intro n
  induction n with
  | zero => intro h c p1 p2 p3 hm1 fr e; cases e
  | succ n ih =>
    intro h c p1 p2 p3 hm1 fr e
    rw [x10_leadingStep_L2] at e
    refine v_iload_n (i := 2) (j := 3) rfl rfl (?_ : ky_V _ _ _ 3 _ _ _ _)
    refine v_bipush (v := 12) (i := 3) rfl (by decide) (?_ : ky_V _ _ _ 5 _ _ _ _)
    refine v_icmp_ge (tgt := 70) (i := 4) rfl (by decide) (fun c1 => ?_) (fun c1 => ?_)
    · replace e := ky_ifT c1 e
      exact hk h c p1 p2 p3 hm1 fr e
    · replace e := ky_ifF c1 e
      refine v_iload_n (i := 5) (j := 2) rfl rfl (?_ : ky_V _ _ _ 9 _ _ _ _)
      refine v_iload_n (i := 6) (j := 3) rfl rfl (?_ : ky_V _ _ _ 10 _ _ _ _)
      refine cl_X10_95 (As := [.int p2, .int p3]) rfl (i := 7) rfl rfl rfl (Nat.le_of_ble_eq_true rfl) (k_X10_isIn p2 p3 ⟨_, rfl, (?_ : ky_V _ _ _ 13 _ [.int ((wy_isIn p2 p3))] _ _)⟩)
      refine v_if_eq (tgt := 64) (i := 8) rfl (by decide) (fun c2 => ?_) (fun c2 => ?_)
      · replace e := ky_ifT c2 e
        obtain ⟨x3, ex3⟩ : ∃ z : Int32, z = p3 + 1 := ⟨_, rfl⟩
        replace e := ky_letE ex3 e
        refine v_iinc (v := x3) (j := 3) (L' := [(0, .ref a), (1, .int p1), (2, .int p2), (3, .int x3)]) [1, 2, 3, 0] (i := 36) rfl rfl (by rw [ex3]; rfl) (Nat.le_of_ble_eq_true rfl) rfl (?_ : ky_V _ _ _ 67 _ _ _ _)
        refine v_goto (tgt := 2) (i := 37) rfl (by decide) (?_ : ky_V _ _ _ 2 _ _ _ _)
        exact ih h c p1 p2 x3 hm1 fr e
      · replace e := ky_ifF c2 e
        refine v_aload_n (i := 9) (j := 0) rfl rfl (?_ : ky_V _ _ _ 17 _ _ _ _)
        refine v_iload_n (i := 10) (j := 1) rfl rfl (?_ : ky_V _ _ _ 18 _ _ _ _)
        refine v_iload_n (i := 11) (j := 3) rfl rfl (?_ : ky_V _ _ _ 19 _ _ _ _)
        obtain ⟨⟨q5, x6⟩, g7, e⟩ := Option.bind_eq_some_iff.mp e
        refine cl_X10_99 (As := [.int p1, .int p3]) rfl (i := 12) rfl (oc_X10 hm1 (ly_X10_c (lt_X10 fr za))) rfl rfl (Nat.le_of_ble_eq_true rfl) (k_X10_target N hG hm1 g7 (fun h4 hmh4 frh4 => ⟨_, rfl, (?_ : ky_V _ _ _ 22 _ [.int x6] _ _)⟩))
        have frh4 := fr.tr frh4
        refine v_istore (L' := [(0, .ref a), (1, .int p1), (2, .int p2), (3, .int p3), (4, .int x6)]) [1, 2, 3, 4, 0] (i := 13) rfl (Nat.le_of_ble_eq_true rfl) rfl (?_ : ky_V _ _ _ 24 _ _ _ _)
        refine v_aload_n (i := 14) (j := 0) rfl rfl (?_ : ky_V _ _ _ 25 _ _ _ _)
        refine gf_X10_29 rfl (i := 15) rfl (oc_X10 hmh4 (ly_X10_c (lt_X10 frh4 za))) (sk_rf (ly_X10_r5 (lt_X10 frh4 za))) (?_ : ky_V _ _ _ 28 _ (.ref (a + 6) :: _) _ _)
        refine v_iload (i := 16) (j := 4) rfl rfl (?_ : ky_V _ _ _ 30 _ _ _ _)
        obtain ⟨z8, e⟩ := ky_chkE e
        refine v_zald (i := 17) rfl (oa_22 hmh4 (ly_X10_k5 (lt_X10 frh4 za))) (ky_inb z8) (?_ : ky_V _ _ _ 31 _ (.int (sk_c q5 (a + 6) (Int32.toNatClampNeg x6)) :: _) _ _)
        refine v_if_eq (tgt := 64) (i := 18) rfl (by decide) (fun c9 => ?_) (fun c9 => ?_)
        · replace e := ky_ifT c9 e
          obtain ⟨x10, ex10⟩ : ∃ z : Int32, z = p3 + 1 := ⟨_, rfl⟩
          replace e := ky_letE ex10 e
          refine v_iinc (v := x10) (j := 3) (L' := [(0, .ref a), (1, .int p1), (2, .int p2), (3, .int x10), (4, .int x6)]) [1, 2, 3, 0, 4] (i := 36) rfl rfl (by rw [ex10]; rfl) (Nat.le_of_ble_eq_true rfl) rfl (?_ : ky_V _ _ _ 67 _ _ _ _)
          refine v_goto (tgt := 2) (i := 37) rfl (by decide) (?_ : ky_V _ _ _ 2 _ _ _ _)
          refine ky_loc (L' := [(0, .ref a), (1, .int p1), (2, .int p2), (3, .int x10)]) (by simp) ?_
          exact ih h4 q5 p1 p2 x10 hmh4 frh4 e
        · replace e := ky_ifF c9 e
          refine v_aload_n (i := 19) (j := 0) rfl rfl (?_ : ky_V _ _ _ 35 _ _ _ _)
          refine gf_X10_17 rfl (i := 20) rfl (oc_X10 hmh4 (ly_X10_c (lt_X10 frh4 za))) (sk_rf (ly_X10_r1 (lt_X10 frh4 za))) (?_ : ky_V _ _ _ 38 _ (.ref (a + 2) :: _) _ _)
          refine v_iload (i := 21) (j := 4) rfl rfl (?_ : ky_V _ _ _ 40 _ _ _ _)
          refine v_iald (i := 22) rfl (oa_21 hmh4 (ly_X10_k1 (lt_X10 frh4 za))) (ky_inb z8) (?_ : ky_V _ _ _ 41 _ (.int (sk_c q5 (a + 2) (Int32.toNatClampNeg x6)) :: _) _ _)
          refine v_aload_n (i := 23) (j := 0) rfl rfl (?_ : ky_V _ _ _ 42 _ _ _ _)
          refine gf_X10_17 rfl (i := 24) rfl (oc_X10 hmh4 (ly_X10_c (lt_X10 frh4 za))) (sk_rf (ly_X10_r1 (lt_X10 frh4 za))) (?_ : ky_V _ _ _ 45 _ (.ref (a + 2) :: _) _ _)
          refine v_iload_n (i := 25) (j := 1) rfl rfl (?_ : ky_V _ _ _ 46 _ _ _ _)
          obtain ⟨z11, e⟩ := ky_chkE e
          refine v_iald (i := 26) rfl (oa_21 hmh4 (ly_X10_k1 (lt_X10 frh4 za))) (ky_inb z11) (?_ : ky_V _ _ _ 47 _ (.int (sk_c q5 (a + 2) (Int32.toNatClampNeg p1)) :: _) _ _)
          refine v_aload_n (i := 27) (j := 0) rfl rfl (?_ : ky_V _ _ _ 48 _ _ _ _)
          rcases y12 : (sk_r q5 a 10) with _ | l13
          · replace e := ky_omN y12 e
            refine gf_X10_61 rfl (i := 28) rfl (oc_X10 hmh4 (ly_X10_c (lt_X10 frh4 za))) (sk_rn y12) (?_ : ky_V _ _ _ 51 _ _ _ _)
            refine v_iload_n (i := 29) (j := 3) rfl rfl (?_ : ky_V _ _ _ 52 _ _ _ _)
            refine cl_X10_103 (As := [.int p3]) rfl (i := 30) rfl rfl rfl (Nat.le_of_ble_eq_true rfl) (k_X10_moveOf p3 ⟨_, rfl, (?_ : ky_V _ _ _ 55 _ [.int ((wy_moveOf p3)), .null, .int ((sk_c q5 (a + 2) (Int32.toNatClampNeg p1))), .int ((sk_c q5 (a + 2) (Int32.toNatClampNeg x6)))] _ _)⟩)
            cases e
          · replace e := ky_omS y12 e
            refine gf_X10_61 rfl (i := 28) rfl (oc_X10 hmh4 (ly_X10_c (lt_X10 frh4 za))) (sk_rf y12) (?_ : ky_V _ _ _ 51 _ _ _ _)
            refine v_iload_n (i := 29) (j := 3) rfl rfl (?_ : ky_V _ _ _ 52 _ _ _ _)
            refine cl_X10_103 (As := [.int p3]) rfl (i := 30) rfl rfl rfl (Nat.le_of_ble_eq_true rfl) (k_X10_moveOf p3 ⟨_, rfl, (?_ : ky_V _ _ _ 55 _ [.int ((wy_moveOf p3)), .ref l13, .int ((sk_c q5 (a + 2) (Int32.toNatClampNeg p1))), .int ((sk_c q5 (a + 2) (Int32.toNatClampNeg x6)))] _ _)⟩)
            obtain ⟨z14, e⟩ := ky_chkE e
            obtain ⟨⟨q16, x17⟩, g18, e⟩ := Option.bind_eq_some_iff.mp e
            refine cl_X10_107 (As := [.int ((wy_moveOf p3))]) rfl (i := 31) rfl (oc_X6 hmh4 (ly_X6_c z14)) rfl rfl (Nat.le_of_ble_eq_true rfl) (k_X6_takes N hG hmh4 g18 (fun h15 hmh15 frh15 => ⟨_, rfl, (?_ : ky_V _ _ _ 58 _ [.int x17, .int ((sk_c q5 (a + 2) (Int32.toNatClampNeg p1))), .int ((sk_c q5 (a + 2) (Int32.toNatClampNeg x6)))] _ _)⟩))
            have frh15 := frh4.tr frh15
            refine v_iadd (i := 32) rfl (?_ : ky_V _ _ _ 59 _ _ _ _)
            refine v_icmp_ne (tgt := 64) (i := 33) rfl (by decide) (fun c19 => ?_) (fun c19 => ?_)
            · replace e := ky_ifF c19 e
              obtain ⟨x20, ex20⟩ : ∃ z : Int32, z = p3 + 1 := ⟨_, rfl⟩
              replace e := ky_letE ex20 e
              refine v_iinc (v := x20) (j := 3) (L' := [(0, .ref a), (1, .int p1), (2, .int p2), (3, .int x20), (4, .int x6)]) [1, 2, 3, 0, 4] (i := 36) rfl rfl (by rw [ex20]; rfl) (Nat.le_of_ble_eq_true rfl) rfl (?_ : ky_V _ _ _ 67 _ _ _ _)
              refine v_goto (tgt := 2) (i := 37) rfl (by decide) (?_ : ky_V _ _ _ 2 _ _ _ _)
              refine ky_loc (L' := [(0, .ref a), (1, .int p1), (2, .int p2), (3, .int x20)]) (by simp) ?_
              exact ih h15 q16 p1 p2 x20 hmh15 frh15 e
            · replace e := ky_ifT c19 e
              refine v_iload_n (i := 34) (j := 3) rfl rfl (?_ : ky_V _ _ _ 63 _ _ _ _)
              refine v_iret (v := p3) (ty := .int) (i := 35) rfl rfl rfl ?_
              obtain ⟨rfl, rfl⟩ := ky_leaf e
              exact hr _ hmh15 frh15

def x10_leadingStep (N : Nat)  (s : sk_S) (a : Nat) (p1 : Int32) (p2 : Int32) : Option (sk_S × Int32) := (if lay_X10 (sk_K s) (sk_r s) a = true then (x10_leadingStep_L2 N a (fun q2 x3 x4 x5 => (some (q2, (-1)))) N s p1 p2 0) else none)
set_option maxRecDepth 20000 in
set_option maxHeartbeats 4000000 in
theorem k_X10_leadingStep {G : ky_GW} {d : Nat} {h : ky_HP} {Q : ky_RS → ky_HP → Prop} {s s9 : sk_S} {r9 : Int32} {a : Nat} {p1 : Int32} {p2 : Int32} (N : Nat) (hG : ky_OK G)   (hm : sk_hp G s h)  (e : x10_leadingStep N  s a p1 p2 = some (s9, r9)) (hr : ∀ h1, sk_hp G s9 h1 → sk_fr none s h s9 h1 → Q (.inl (some (.int r9))) h1) : ky_Call G (d + 4) M_X10_leadingStep [.ref a, .int p1, .int p2] h Q := by
  refine ky_ofV (by decide +kernel) rfl ok_X10_leadingStep (Nat.le_of_ble_eq_true rfl) ?_
  have fr : sk_fr none s h s h := sk_fr.rf
  unfold x10_leadingStep at e
  refine (?_ : ky_V _ _ _ 0 [(0, .ref a), (1, .int p1), (2, .int p2)] [] _ _)
  obtain ⟨za, e⟩ := ky_chkE e
  refine v_iconst (v := 0) (i := 0) rfl (by decide) (?_ : ky_V _ _ _ 1 _ _ _ _)
  refine v_istore_n (L' := [(0, .ref a), (1, .int p1), (2, .int p2), (3, .int 0)]) [1, 2, 3, 0] (i := 1) rfl (Nat.le_of_ble_eq_true rfl) rfl (?_ : ky_V _ _ _ 2 _ _ _ _)
  refine lv_X10_leadingStep_2 N hG a za hm _ hr (fun h1 q2 x3 x4 x5 hmh1 frh1 e => ?_) N h s p1 p2 0 hm fr e
  refine v_iconst (v := (-1)) (i := 38) rfl (by decide) (?_ : ky_V _ _ _ 71 _ _ _ _)
  refine v_iret (v := (-1)) (ty := .int) (i := 39) rfl rfl rfl ?_
  obtain ⟨rfl, rfl⟩ := ky_leaf e
  exact hr _ hmh1 frh1

def x10_minutesHome_L5 (N : Nat)  (a : Nat) (k : sk_S → Int32 → Int32 → Int32 → Int32 → Option (sk_S × Int32)) : Nat → sk_S → Int32 → Int32 → Int32 → Int32 → Option (sk_S × Int32)
  | 0, _, _, _, _, _ => none
  | n + 1, c, p1, p2, p3, p4 => (if (12 : Int32) ≤ p4 then (k c p1 p2 p3 p4) else (if (po_isOut p1) = 0 then (if ky_inB p1 1200 = true then (ky_om (sk_r c a 10) none (fun l5 => (if lay_X6 (sk_K c) (sk_r c) l5 = true then ((x6_takes N c l5 (wy_moveOf p4)).bind (fun zz => (fun q8 x9 => (ky_let ((sk_c c (a + 2) (Int32.toNatClampNeg p1)) + x9) (fun x11 => ((x10_target N q8 a p1 p4).bind (fun zz => (fun q13 x14 => (if x14 = p2 then (if p3 = (-1 : Int32) then (ky_let (p4 + 1) (fun x19 => (x10_minutesHome_L5 N a k n q13 p1 p2 x11 x19))) else (if p3 ≤ x11 then (ky_let (p4 + 1) (fun x21 => (x10_minutesHome_L5 N a k n q13 p1 p2 p3 x21))) else (ky_let (p4 + 1) (fun x22 => (x10_minutesHome_L5 N a k n q13 p1 p2 x11 x22))))) else (ky_let (p4 + 1) (fun x17 => (x10_minutesHome_L5 N a k n q13 p1 p2 p3 x17))))) zz.1 zz.2))))) zz.1 zz.2)) else none))) else none) else (k c p1 p2 p3 p4)))
set_option maxRecDepth 20000 in
set_option maxHeartbeats 4000000 in
theorem lv_X10_minutesHome_5 {G : ky_GW} {d : Nat} {s s9 : sk_S} {h0 : ky_HP} {Q : ky_RS → ky_HP → Prop} {r9 : Int32} (N : Nat) (hG : ky_OK G)  (a : Nat)   (za : lay_X10 (sk_K s) (sk_r s) a = true) (hm : sk_hp G s h0) (k : sk_S → Int32 → Int32 → Int32 → Int32 → Option (sk_S × Int32)) (hr : ∀ h1, sk_hp G s9 h1 → sk_fr none s h0 s9 h1 → Q (.inl (some (.int r9))) h1)
    (hk : ∀ (h : ky_HP) (c : sk_S) (p1 : Int32) (p2 : Int32) (p3 : Int32) (p4 : Int32), sk_hp G c h → sk_fr none s h0 c h → k c p1 p2 p3 p4 = some (s9, r9) → ky_V G (d + 4) M_X10_minutesHome 71 [(0, .ref a), (1, .int p1), (2, .int p2), (3, .int p3), (4, .int p4)] [] h Q) :
    ∀ (n : Nat) (h : ky_HP) (c : sk_S) (p1 : Int32) (p2 : Int32) (p3 : Int32) (p4 : Int32), sk_hp G c h → sk_fr none s h0 c h → x10_minutesHome_L5 N a k n c p1 p2 p3 p4 = some (s9, r9) → ky_V G (d + 4) M_X10_minutesHome 5 [(0, .ref a), (1, .int p1), (2, .int p2), (3, .int p3), (4, .int p4)] [] h Q := by
  intro n
  induction n with
  | zero => intro h c p1 p2 p3 p4 hm1 fr e; cases e
  | succ n ih =>
    intro h c p1 p2 p3 p4 hm1 fr e
    rw [x10_minutesHome_L5] at e
    refine v_iload (i := 4) (j := 4) rfl rfl (?_ : ky_V _ _ _ 7 _ _ _ _)
    refine v_bipush (v := 12) (i := 5) rfl (by decide) (?_ : ky_V _ _ _ 9 _ _ _ _)
    refine v_icmp_ge (tgt := 71) (i := 6) rfl (by decide) (fun c1 => ?_) (fun c1 => ?_)
    · replace e := ky_ifT c1 e
      exact hk h c p1 p2 p3 p4 hm1 fr e
    · replace e := ky_ifF c1 e
      refine v_iload_n (i := 7) (j := 1) rfl rfl (?_ : ky_V _ _ _ 13 _ _ _ _)
      refine cl_X10_73 (As := [.int p1]) rfl (i := 8) rfl rfl rfl (Nat.le_of_ble_eq_true rfl) (k_X5_isOut p1 ⟨_, rfl, (?_ : ky_V _ _ _ 16 _ [.int ((po_isOut p1))] _ _)⟩)
      refine v_if_ne (tgt := 71) (i := 9) rfl (by decide) (fun c2 => ?_) (fun c2 => ?_)
      · replace e := ky_ifF c2 e
        exact hk h c p1 p2 p3 p4 hm1 fr e
      · replace e := ky_ifT c2 e
        refine v_aload_n (i := 10) (j := 0) rfl rfl (?_ : ky_V _ _ _ 20 _ _ _ _)
        refine gf_X10_17 rfl (i := 11) rfl (oc_X10 hm1 (ly_X10_c (lt_X10 fr za))) (sk_rf (ly_X10_r1 (lt_X10 fr za))) (?_ : ky_V _ _ _ 23 _ (.ref (a + 2) :: _) _ _)
        refine v_iload_n (i := 12) (j := 1) rfl rfl (?_ : ky_V _ _ _ 24 _ _ _ _)
        obtain ⟨z3, e⟩ := ky_chkE e
        refine v_iald (i := 13) rfl (oa_21 hm1 (ly_X10_k1 (lt_X10 fr za))) (ky_inb z3) (?_ : ky_V _ _ _ 25 _ (.int (sk_c c (a + 2) (Int32.toNatClampNeg p1)) :: _) _ _)
        refine v_aload_n (i := 14) (j := 0) rfl rfl (?_ : ky_V _ _ _ 26 _ _ _ _)
        rcases y4 : (sk_r c a 10) with _ | l5
        · replace e := ky_omN y4 e
          refine gf_X10_61 rfl (i := 15) rfl (oc_X10 hm1 (ly_X10_c (lt_X10 fr za))) (sk_rn y4) (?_ : ky_V _ _ _ 29 _ _ _ _)
          refine v_iload (i := 16) (j := 4) rfl rfl (?_ : ky_V _ _ _ 31 _ _ _ _)
          refine cl_X10_103 (As := [.int p4]) rfl (i := 17) rfl rfl rfl (Nat.le_of_ble_eq_true rfl) (k_X10_moveOf p4 ⟨_, rfl, (?_ : ky_V _ _ _ 34 _ [.int ((wy_moveOf p4)), .null, .int ((sk_c c (a + 2) (Int32.toNatClampNeg p1)))] _ _)⟩)
          cases e
        · replace e := ky_omS y4 e
          refine gf_X10_61 rfl (i := 15) rfl (oc_X10 hm1 (ly_X10_c (lt_X10 fr za))) (sk_rf y4) (?_ : ky_V _ _ _ 29 _ _ _ _)
          refine v_iload (i := 16) (j := 4) rfl rfl (?_ : ky_V _ _ _ 31 _ _ _ _)
          refine cl_X10_103 (As := [.int p4]) rfl (i := 17) rfl rfl rfl (Nat.le_of_ble_eq_true rfl) (k_X10_moveOf p4 ⟨_, rfl, (?_ : ky_V _ _ _ 34 _ [.int ((wy_moveOf p4)), .ref l5, .int ((sk_c c (a + 2) (Int32.toNatClampNeg p1)))] _ _)⟩)
          obtain ⟨z6, e⟩ := ky_chkE e
          obtain ⟨⟨q8, x9⟩, g10, e⟩ := Option.bind_eq_some_iff.mp e
          refine cl_X10_107 (As := [.int ((wy_moveOf p4))]) rfl (i := 18) rfl (oc_X6 hm1 (ly_X6_c z6)) rfl rfl (Nat.le_of_ble_eq_true rfl) (k_X6_takes N hG hm1 g10 (fun h7 hmh7 frh7 => ⟨_, rfl, (?_ : ky_V _ _ _ 37 _ [.int x9, .int ((sk_c c (a + 2) (Int32.toNatClampNeg p1)))] _ _)⟩))
          have frh7 := fr.tr frh7
          refine v_iadd (i := 19) rfl (?_ : ky_V _ _ _ 38 _ _ _ _)
          refine v_topi (fun x11 ex11 => ?_)
          replace e := ky_letE ex11 e
          refine v_istore (L' := [(0, .ref a), (1, .int p1), (2, .int p2), (3, .int p3), (4, .int p4), (5, .int x11)]) [1, 2, 3, 4, 5, 0] (i := 20) rfl (Nat.le_of_ble_eq_true rfl) rfl (?_ : ky_V _ _ _ 40 _ _ _ _)
          refine v_aload_n (i := 21) (j := 0) rfl rfl (?_ : ky_V _ _ _ 41 _ _ _ _)
          refine v_iload_n (i := 22) (j := 1) rfl rfl (?_ : ky_V _ _ _ 42 _ _ _ _)
          refine v_iload (i := 23) (j := 4) rfl rfl (?_ : ky_V _ _ _ 44 _ _ _ _)
          obtain ⟨⟨q13, x14⟩, g15, e⟩ := Option.bind_eq_some_iff.mp e
          refine cl_X10_99 (As := [.int p1, .int p4]) rfl (i := 24) rfl (oc_X10 hmh7 (ly_X10_c (lt_X10 frh7 za))) rfl rfl (Nat.le_of_ble_eq_true rfl) (k_X10_target N hG hmh7 g15 (fun h12 hmh12 frh12 => ⟨_, rfl, (?_ : ky_V _ _ _ 47 _ [.int x14] _ _)⟩))
          have frh12 := frh7.tr frh12
          refine v_iload_n (i := 25) (j := 2) rfl rfl (?_ : ky_V _ _ _ 48 _ _ _ _)
          refine v_icmp_ne (tgt := 65) (i := 26) rfl (by decide) (fun c16 => ?_) (fun c16 => ?_)
          · replace e := ky_ifF c16 e
            obtain ⟨x17, ex17⟩ : ∃ z : Int32, z = p4 + 1 := ⟨_, rfl⟩
            replace e := ky_letE ex17 e
            refine v_iinc (v := x17) (j := 4) (L' := [(0, .ref a), (1, .int p1), (2, .int p2), (3, .int p3), (4, .int x17), (5, .int x11)]) [1, 2, 3, 4, 0, 5] (i := 35) rfl rfl (by rw [ex17]; rfl) (Nat.le_of_ble_eq_true rfl) rfl (?_ : ky_V _ _ _ 68 _ _ _ _)
            refine v_goto (tgt := 5) (i := 36) rfl (by decide) (?_ : ky_V _ _ _ 5 _ _ _ _)
            refine ky_loc (L' := [(0, .ref a), (1, .int p1), (2, .int p2), (3, .int p3), (4, .int x17)]) (by simp) ?_
            exact ih h12 q13 p1 p2 p3 x17 hmh12 frh12 e
          · replace e := ky_ifT c16 e
            refine v_iload_n (i := 27) (j := 3) rfl rfl (?_ : ky_V _ _ _ 52 _ _ _ _)
            refine v_iconst (v := (-1)) (i := 28) rfl (by decide) (?_ : ky_V _ _ _ 53 _ _ _ _)
            refine v_icmp_eq (tgt := 62) (i := 29) rfl (by decide) (fun c18 => ?_) (fun c18 => ?_)
            · replace e := ky_ifT c18 e
              refine v_iload (i := 33) (j := 5) rfl rfl (?_ : ky_V _ _ _ 64 _ _ _ _)
              refine v_istore_n (L' := [(0, .ref a), (1, .int p1), (2, .int p2), (3, .int x11), (4, .int p4), (5, .int x11)]) [1, 2, 3, 0, 4, 5] (i := 34) rfl (Nat.le_of_ble_eq_true rfl) rfl (?_ : ky_V _ _ _ 65 _ _ _ _)
              obtain ⟨x19, ex19⟩ : ∃ z : Int32, z = p4 + 1 := ⟨_, rfl⟩
              replace e := ky_letE ex19 e
              refine v_iinc (v := x19) (j := 4) (L' := [(0, .ref a), (1, .int p1), (2, .int p2), (3, .int x11), (4, .int x19), (5, .int x11)]) [1, 2, 3, 4, 0, 5] (i := 35) rfl rfl (by rw [ex19]; rfl) (Nat.le_of_ble_eq_true rfl) rfl (?_ : ky_V _ _ _ 68 _ _ _ _)
              refine v_goto (tgt := 5) (i := 36) rfl (by decide) (?_ : ky_V _ _ _ 5 _ _ _ _)
              refine ky_loc (L' := [(0, .ref a), (1, .int p1), (2, .int p2), (3, .int x11), (4, .int x19)]) (by simp) ?_
              exact ih h12 q13 p1 p2 x11 x19 hmh12 frh12 e
            · replace e := ky_ifF c18 e
              refine v_iload (i := 30) (j := 5) rfl rfl (?_ : ky_V _ _ _ 58 _ _ _ _)
              refine v_iload_n (i := 31) (j := 3) rfl rfl (?_ : ky_V _ _ _ 59 _ _ _ _)
              refine v_icmp_ge (tgt := 65) (i := 32) rfl (by decide) (fun c20 => ?_) (fun c20 => ?_)
              · replace e := ky_ifT c20 e
                obtain ⟨x21, ex21⟩ : ∃ z : Int32, z = p4 + 1 := ⟨_, rfl⟩
                replace e := ky_letE ex21 e
                refine v_iinc (v := x21) (j := 4) (L' := [(0, .ref a), (1, .int p1), (2, .int p2), (3, .int p3), (4, .int x21), (5, .int x11)]) [1, 2, 3, 4, 0, 5] (i := 35) rfl rfl (by rw [ex21]; rfl) (Nat.le_of_ble_eq_true rfl) rfl (?_ : ky_V _ _ _ 68 _ _ _ _)
                refine v_goto (tgt := 5) (i := 36) rfl (by decide) (?_ : ky_V _ _ _ 5 _ _ _ _)
                refine ky_loc (L' := [(0, .ref a), (1, .int p1), (2, .int p2), (3, .int p3), (4, .int x21)]) (by simp) ?_
                exact ih h12 q13 p1 p2 p3 x21 hmh12 frh12 e
              · replace e := ky_ifF c20 e
                refine v_iload (i := 33) (j := 5) rfl rfl (?_ : ky_V _ _ _ 64 _ _ _ _)
                refine v_istore_n (L' := [(0, .ref a), (1, .int p1), (2, .int p2), (3, .int x11), (4, .int p4), (5, .int x11)]) [1, 2, 3, 0, 4, 5] (i := 34) rfl (Nat.le_of_ble_eq_true rfl) rfl (?_ : ky_V _ _ _ 65 _ _ _ _)
                obtain ⟨x22, ex22⟩ : ∃ z : Int32, z = p4 + 1 := ⟨_, rfl⟩
                replace e := ky_letE ex22 e
                refine v_iinc (v := x22) (j := 4) (L' := [(0, .ref a), (1, .int p1), (2, .int p2), (3, .int x11), (4, .int x22), (5, .int x11)]) [1, 2, 3, 4, 0, 5] (i := 35) rfl rfl (by rw [ex22]; rfl) (Nat.le_of_ble_eq_true rfl) rfl (?_ : ky_V _ _ _ 68 _ _ _ _)
                refine v_goto (tgt := 5) (i := 36) rfl (by decide) (?_ : ky_V _ _ _ 5 _ _ _ _)
                refine ky_loc (L' := [(0, .ref a), (1, .int p1), (2, .int p2), (3, .int x11), (4, .int x22)]) (by simp) ?_
                exact ih h12 q13 p1 p2 x11 x22 hmh12 frh12 e

def x10_minutesHome (N : Nat)  (s : sk_S) (a : Nat) (p1 : Int32) (p2 : Int32) : Option (sk_S × Int32) := (if lay_X10 (sk_K s) (sk_r s) a = true then (x10_minutesHome_L5 N a (fun q2 x3 x4 x5 x6 => (some (q2, x5))) N s p1 p2 (-1) 0) else none)
set_option maxRecDepth 20000 in
set_option maxHeartbeats 4000000 in
theorem k_X10_minutesHome {G : ky_GW} {d : Nat} {h : ky_HP} {Q : ky_RS → ky_HP → Prop} {s s9 : sk_S} {r9 : Int32} {a : Nat} {p1 : Int32} {p2 : Int32} (N : Nat) (hG : ky_OK G)   (hm : sk_hp G s h)  (e : x10_minutesHome N  s a p1 p2 = some (s9, r9)) (hr : ∀ h1, sk_hp G s9 h1 → sk_fr none s h s9 h1 → Q (.inl (some (.int r9))) h1) : ky_Call G (d + 4) M_X10_minutesHome [.ref a, .int p1, .int p2] h Q := by
  refine ky_ofV (by decide +kernel) rfl ok_X10_minutesHome (Nat.le_of_ble_eq_true rfl) ?_
  have fr : sk_fr none s h s h := sk_fr.rf
  unfold x10_minutesHome at e
  refine (?_ : ky_V _ _ _ 0 [(0, .ref a), (1, .int p1), (2, .int p2)] [] _ _)
  obtain ⟨za, e⟩ := ky_chkE e
  refine v_iconst (v := (-1)) (i := 0) rfl (by decide) (?_ : ky_V _ _ _ 1 _ _ _ _)
  refine v_istore_n (L' := [(0, .ref a), (1, .int p1), (2, .int p2), (3, .int (-1))]) [1, 2, 3, 0] (i := 1) rfl (Nat.le_of_ble_eq_true rfl) rfl (?_ : ky_V _ _ _ 2 _ _ _ _)
  refine v_iconst (v := 0) (i := 2) rfl (by decide) (?_ : ky_V _ _ _ 3 _ _ _ _)
  refine v_istore (L' := [(0, .ref a), (1, .int p1), (2, .int p2), (3, .int (-1)), (4, .int 0)]) [1, 2, 3, 4, 0] (i := 3) rfl (Nat.le_of_ble_eq_true rfl) rfl (?_ : ky_V _ _ _ 5 _ _ _ _)
  refine lv_X10_minutesHome_5 N hG a za hm _ hr (fun h1 q2 x3 x4 x5 x6 hmh1 frh1 e => ?_) N h s p1 p2 (-1) 0 hm fr e
  refine v_iload_n (i := 37) (j := 3) rfl rfl (?_ : ky_V _ _ _ 72 _ _ _ _)
  refine v_iret (v := x5) (ty := .int) (i := 38) rfl rfl rfl ?_
  obtain ⟨rfl, rfl⟩ := ky_leaf e
  exact hr _ hmh1 frh1

def x10_lookAt (N : Nat)  (s : sk_S) (a : Nat) (a1_ : Nat) (p2 : Int32) (p3 : Int32) : Option (sk_S × Int32) := (if lay_X10 (sk_K s) (sk_r s) a = true then (if lay_X6 (sk_K s) (sk_r s) a1_ = true then (ky_om (sk_r s a1_ 1) (ky_let (sk_wr s a 10 (some a1_)) (fun q4 => (ky_let (sk_wc q4 a 11 p2) (fun q6 => (ky_let (sk_wc q6 a 12 p3) (fun q8 => (some (q8, 0)))))))) (fun l2 => (if p2 = (sk_c s a 11) then (if p3 = (sk_c s a 12) then (ky_let (sk_wr s a 10 (some a1_)) (fun q12 => (ky_let (sk_wc q12 a 11 p2) (fun q14 => (ky_let (sk_wc q14 a 12 p3) (fun q16 => (some (q16, 0)))))))) else (if lay_X3 (sk_K s) (sk_r s) l2 = true then ((x3_asks N s l2 5).bind (fun zz => (fun q19 x20 => (if x20 = 0 then (ky_let (sk_wr q19 a 10 (some a1_)) (fun q24 => (ky_let (sk_wc q24 a 11 p2) (fun q26 => (ky_let (sk_wc q26 a 12 p3) (fun q28 => (some (q28, 0)))))))) else ((x10_forget N q19 a).bind (fun zz => (fun q30 x31 => (ky_let (sk_wr q30 a 10 (some a1_)) (fun q34 => (ky_let (sk_wc q34 a 11 p2) (fun q36 => (ky_let (sk_wc q36 a 12 p3) (fun q38 => (some (q38, 0))))))))) zz.1 zz.2)))) zz.1 zz.2)) else none)) else (if lay_X3 (sk_K s) (sk_r s) l2 = true then ((x3_asks N s l2 4).bind (fun zz => (fun q41 x42 => (if x42 = 0 then (if p3 = (sk_c q41 a 12) then (ky_let (sk_wr q41 a 10 (some a1_)) (fun q57 => (ky_let (sk_wc q57 a 11 p2) (fun q59 => (ky_let (sk_wc q59 a 12 p3) (fun q61 => (some (q61, 0)))))))) else ((x3_asks N q41 l2 5).bind (fun zz => (fun q63 x64 => (if x64 = 0 then (ky_let (sk_wr q63 a 10 (some a1_)) (fun q68 => (ky_let (sk_wc q68 a 11 p2) (fun q70 => (ky_let (sk_wc q70 a 12 p3) (fun q72 => (some (q72, 0)))))))) else ((x10_forget N q63 a).bind (fun zz => (fun q74 x75 => (ky_let (sk_wr q74 a 10 (some a1_)) (fun q78 => (ky_let (sk_wc q78 a 11 p2) (fun q80 => (ky_let (sk_wc q80 a 12 p3) (fun q82 => (some (q82, 0))))))))) zz.1 zz.2)))) zz.1 zz.2))) else ((x10_forget N q41 a).bind (fun zz => (fun q46 x47 => (ky_let (sk_wr q46 a 10 (some a1_)) (fun q50 => (ky_let (sk_wc q50 a 11 p2) (fun q52 => (ky_let (sk_wc q52 a 12 p3) (fun q54 => (some (q54, 0))))))))) zz.1 zz.2)))) zz.1 zz.2)) else none)))) else none) else none)
set_option maxRecDepth 20000 in
set_option maxHeartbeats 4000000 in
theorem k_X10_lookAt {G : ky_GW} {d : Nat} {h : ky_HP} {Q : ky_RS → ky_HP → Prop} {s s9 : sk_S} {r9 : Int32} {a : Nat} {a1_ : Nat} {p2 : Int32} {p3 : Int32} (N : Nat) (hG : ky_OK G)   (hm : sk_hp G s h)  (e : x10_lookAt N  s a a1_ p2 p3 = some (s9, r9)) (hr : ∀ h1, sk_hp G s9 h1 → sk_fr none s h s9 h1 → Q (.inl none) h1) : ky_Call G (d + 1) M_X10_lookAt [.ref a, .ref a1_, .int p2, .int p3] h Q := by
  refine ky_ofV (by decide +kernel) rfl ok_X10_lookAt (Nat.le_of_ble_eq_true rfl) ?_
  have fr : sk_fr none s h s h := sk_fr.rf
  unfold x10_lookAt at e
  refine (?_ : ky_V _ _ _ 0 [(0, .ref a), (1, .ref a1_), (2, .int p2), (3, .int p3)] [] _ _)
  obtain ⟨za, e⟩ := ky_chkE e
  obtain ⟨za1_, e⟩ := ky_chkE e
  refine v_aload_n (i := 0) (j := 1) rfl rfl (?_ : ky_V _ _ _ 1 _ _ _ _)
  rcases y1 : (sk_r s a1_ 1) with _ | l2
  · replace e := ky_omN y1 e
    refine gf_X10_40 rfl (i := 1) rfl (oc_X6 hm (ly_X6_c za1_)) (sk_rn y1) (?_ : ky_V _ _ _ 4 _ _ _ _)
    refine v_astoreN (L' := [(0, .ref a), (1, .ref a1_), (2, .int p2), (3, .int p3), (4, .null)]) [1, 2, 3, 4, 0] (i := 2) rfl (Nat.le_of_ble_eq_true rfl) rfl (?_ : ky_V _ _ _ 6 _ _ _ _)
    refine v_aloadN (i := 3) (j := 4) rfl rfl (?_ : ky_V _ _ _ 8 _ _ _ _)
    refine v_ifnullN (tgt := 49) (i := 4) rfl (by decide) (?_ : ky_V _ _ _ 49 _ _ _ _)
    refine v_aload_n (i := 23) (j := 0) rfl rfl (?_ : ky_V _ _ _ 50 _ _ _ _)
    refine v_aload_n (i := 24) (j := 1) rfl rfl (?_ : ky_V _ _ _ 51 _ _ _ _)
    refine pf_X10_61 rfl (i := 25) rfl (oc_X10 hm (ly_X10_c za)) (Nat.le_of_ble_eq_true rfl) rfl rfl ?_
    refine sk_str (kd := 9) (n := 0) hm fr (ly_X10_c za) 10 (some a1_) (Or.inl rfl) (fun h3 hmh3 frh3 => ?_)
    obtain ⟨q4, eq4⟩ : ∃ z, z = (sk_wr s a 10 (some a1_)) := ⟨_, rfl⟩
    rw [← eq4] at hmh3 frh3
    replace e := ky_letE eq4 e
    refine (?_ : ky_V _ _ _ 54 _ _ _ _)
    refine v_aload_n (i := 26) (j := 0) rfl rfl (?_ : ky_V _ _ _ 55 _ _ _ _)
    refine v_iload_n (i := 27) (j := 2) rfl rfl (?_ : ky_V _ _ _ 56 _ _ _ _)
    refine pf_X10_46 rfl (i := 28) rfl (oc_X10 hmh3 (ly_X10_c (lt_X10 frh3 za))) (Nat.le_of_ble_eq_true rfl) rfl rfl ?_
    refine sk_stc (kd := 9) (n := 0) hmh3 frh3 (ly_X10_c (lt_X10 frh3 za)) 11 p2 (fun h5 hmh5 frh5 => ?_)
    obtain ⟨q6, eq6⟩ : ∃ z, z = (sk_wc q4 a 11 p2) := ⟨_, rfl⟩
    rw [← eq6] at hmh5 frh5
    replace e := ky_letE eq6 e
    refine (?_ : ky_V _ _ _ 59 _ _ _ _)
    refine v_aload_n (i := 29) (j := 0) rfl rfl (?_ : ky_V _ _ _ 60 _ _ _ _)
    refine v_iload_n (i := 30) (j := 3) rfl rfl (?_ : ky_V _ _ _ 61 _ _ _ _)
    refine pf_X10_55 rfl (i := 31) rfl (oc_X10 hmh5 (ly_X10_c (lt_X10 frh5 za))) (Nat.le_of_ble_eq_true rfl) rfl rfl ?_
    refine sk_stc (kd := 9) (n := 0) hmh5 frh5 (ly_X10_c (lt_X10 frh5 za)) 12 p3 (fun h7 hmh7 frh7 => ?_)
    obtain ⟨q8, eq8⟩ : ∃ z, z = (sk_wc q6 a 12 p3) := ⟨_, rfl⟩
    rw [← eq8] at hmh7 frh7
    replace e := ky_letE eq8 e
    refine (?_ : ky_V _ _ _ 64 _ _ _ _)
    refine v_vret (i := 32) rfl rfl ?_
    obtain ⟨rfl, rfl⟩ := ky_leaf e
    exact hr _ hmh7 frh7
  · replace e := ky_omS y1 e
    refine gf_X10_40 rfl (i := 1) rfl (oc_X6 hm (ly_X6_c za1_)) (sk_rf y1) (?_ : ky_V _ _ _ 4 _ _ _ _)
    refine v_astore (L' := [(0, .ref a), (1, .ref a1_), (2, .int p2), (3, .int p3), (4, .ref l2)]) [1, 2, 3, 4, 0] (i := 2) rfl (Nat.le_of_ble_eq_true rfl) rfl (?_ : ky_V _ _ _ 6 _ _ _ _)
    refine v_aload (i := 3) (j := 4) rfl rfl (?_ : ky_V _ _ _ 8 _ _ _ _)
    refine v_ifnull (i := 4) rfl (?_ : ky_V _ _ _ 11 _ _ _ _)
    refine v_iload_n (i := 5) (j := 2) rfl rfl (?_ : ky_V _ _ _ 12 _ _ _ _)
    refine v_aload_n (i := 6) (j := 0) rfl rfl (?_ : ky_V _ _ _ 13 _ _ _ _)
    refine gf_X10_46 rfl (i := 7) rfl (oc_X10 hm (ly_X10_c za)) rfl (?_ : ky_V _ _ _ 16 _ _ _ _)
    refine v_icmp_eq (tgt := 28) (i := 8) rfl (by decide) (fun c9 => ?_) (fun c9 => ?_)
    · replace e := ky_ifT c9 e
      refine v_iload_n (i := 13) (j := 3) rfl rfl (?_ : ky_V _ _ _ 29 _ _ _ _)
      refine v_aload_n (i := 14) (j := 0) rfl rfl (?_ : ky_V _ _ _ 30 _ _ _ _)
      refine gf_X10_55 rfl (i := 15) rfl (oc_X10 hm (ly_X10_c za)) rfl (?_ : ky_V _ _ _ 33 _ _ _ _)
      refine v_icmp_eq (tgt := 49) (i := 16) rfl (by decide) (fun c10 => ?_) (fun c10 => ?_)
      · replace e := ky_ifT c10 e
        refine v_aload_n (i := 23) (j := 0) rfl rfl (?_ : ky_V _ _ _ 50 _ _ _ _)
        refine v_aload_n (i := 24) (j := 1) rfl rfl (?_ : ky_V _ _ _ 51 _ _ _ _)
        refine pf_X10_61 rfl (i := 25) rfl (oc_X10 hm (ly_X10_c za)) (Nat.le_of_ble_eq_true rfl) rfl rfl ?_
        refine sk_str (kd := 9) (n := 0) hm fr (ly_X10_c za) 10 (some a1_) (Or.inl rfl) (fun h11 hmh11 frh11 => ?_)
        obtain ⟨q12, eq12⟩ : ∃ z, z = (sk_wr s a 10 (some a1_)) := ⟨_, rfl⟩
        rw [← eq12] at hmh11 frh11
        replace e := ky_letE eq12 e
        refine (?_ : ky_V _ _ _ 54 _ _ _ _)
        refine v_aload_n (i := 26) (j := 0) rfl rfl (?_ : ky_V _ _ _ 55 _ _ _ _)
        refine v_iload_n (i := 27) (j := 2) rfl rfl (?_ : ky_V _ _ _ 56 _ _ _ _)
        refine pf_X10_46 rfl (i := 28) rfl (oc_X10 hmh11 (ly_X10_c (lt_X10 frh11 za))) (Nat.le_of_ble_eq_true rfl) rfl rfl ?_
        refine sk_stc (kd := 9) (n := 0) hmh11 frh11 (ly_X10_c (lt_X10 frh11 za)) 11 p2 (fun h13 hmh13 frh13 => ?_)
        obtain ⟨q14, eq14⟩ : ∃ z, z = (sk_wc q12 a 11 p2) := ⟨_, rfl⟩
        rw [← eq14] at hmh13 frh13
        replace e := ky_letE eq14 e
        refine (?_ : ky_V _ _ _ 59 _ _ _ _)
        refine v_aload_n (i := 29) (j := 0) rfl rfl (?_ : ky_V _ _ _ 60 _ _ _ _)
        refine v_iload_n (i := 30) (j := 3) rfl rfl (?_ : ky_V _ _ _ 61 _ _ _ _)
        refine pf_X10_55 rfl (i := 31) rfl (oc_X10 hmh13 (ly_X10_c (lt_X10 frh13 za))) (Nat.le_of_ble_eq_true rfl) rfl rfl ?_
        refine sk_stc (kd := 9) (n := 0) hmh13 frh13 (ly_X10_c (lt_X10 frh13 za)) 12 p3 (fun h15 hmh15 frh15 => ?_)
        obtain ⟨q16, eq16⟩ : ∃ z, z = (sk_wc q14 a 12 p3) := ⟨_, rfl⟩
        rw [← eq16] at hmh15 frh15
        replace e := ky_letE eq16 e
        refine (?_ : ky_V _ _ _ 64 _ _ _ _)
        refine v_vret (i := 32) rfl rfl ?_
        obtain ⟨rfl, rfl⟩ := ky_leaf e
        exact hr _ hmh15 frh15
      · replace e := ky_ifF c10 e
        refine v_aload (i := 17) (j := 4) rfl rfl (?_ : ky_V _ _ _ 38 _ _ _ _)
        refine v_iconst (v := 5) (i := 18) rfl (by decide) (?_ : ky_V _ _ _ 39 _ _ _ _)
        obtain ⟨z17, e⟩ := ky_chkE e
        obtain ⟨⟨q19, x20⟩, g21, e⟩ := Option.bind_eq_some_iff.mp e
        refine cl_X10_51 (As := [.int 5]) rfl (i := 19) rfl (oc_X3 hm (ly_X3_c z17)) rfl rfl (Nat.le_of_ble_eq_true rfl) (k_X3_asks N hG hm g21 (fun h18 hmh18 frh18 => ⟨_, rfl, (?_ : ky_V _ _ _ 42 _ [.int x20] _ _)⟩))
        have frh18 := fr.tr frh18
        refine v_if_eq (tgt := 49) (i := 20) rfl (by decide) (fun c22 => ?_) (fun c22 => ?_)
        · replace e := ky_ifT c22 e
          refine v_aload_n (i := 23) (j := 0) rfl rfl (?_ : ky_V _ _ _ 50 _ _ _ _)
          refine v_aload_n (i := 24) (j := 1) rfl rfl (?_ : ky_V _ _ _ 51 _ _ _ _)
          refine pf_X10_61 rfl (i := 25) rfl (oc_X10 hmh18 (ly_X10_c (lt_X10 frh18 za))) (Nat.le_of_ble_eq_true rfl) rfl rfl ?_
          refine sk_str (kd := 9) (n := 0) hmh18 frh18 (ly_X10_c (lt_X10 frh18 za)) 10 (some a1_) (Or.inl rfl) (fun h23 hmh23 frh23 => ?_)
          obtain ⟨q24, eq24⟩ : ∃ z, z = (sk_wr q19 a 10 (some a1_)) := ⟨_, rfl⟩
          rw [← eq24] at hmh23 frh23
          replace e := ky_letE eq24 e
          refine (?_ : ky_V _ _ _ 54 _ _ _ _)
          refine v_aload_n (i := 26) (j := 0) rfl rfl (?_ : ky_V _ _ _ 55 _ _ _ _)
          refine v_iload_n (i := 27) (j := 2) rfl rfl (?_ : ky_V _ _ _ 56 _ _ _ _)
          refine pf_X10_46 rfl (i := 28) rfl (oc_X10 hmh23 (ly_X10_c (lt_X10 frh23 za))) (Nat.le_of_ble_eq_true rfl) rfl rfl ?_
          refine sk_stc (kd := 9) (n := 0) hmh23 frh23 (ly_X10_c (lt_X10 frh23 za)) 11 p2 (fun h25 hmh25 frh25 => ?_)
          obtain ⟨q26, eq26⟩ : ∃ z, z = (sk_wc q24 a 11 p2) := ⟨_, rfl⟩
          rw [← eq26] at hmh25 frh25
          replace e := ky_letE eq26 e
          refine (?_ : ky_V _ _ _ 59 _ _ _ _)
          refine v_aload_n (i := 29) (j := 0) rfl rfl (?_ : ky_V _ _ _ 60 _ _ _ _)
          refine v_iload_n (i := 30) (j := 3) rfl rfl (?_ : ky_V _ _ _ 61 _ _ _ _)
          refine pf_X10_55 rfl (i := 31) rfl (oc_X10 hmh25 (ly_X10_c (lt_X10 frh25 za))) (Nat.le_of_ble_eq_true rfl) rfl rfl ?_
          refine sk_stc (kd := 9) (n := 0) hmh25 frh25 (ly_X10_c (lt_X10 frh25 za)) 12 p3 (fun h27 hmh27 frh27 => ?_)
          obtain ⟨q28, eq28⟩ : ∃ z, z = (sk_wc q26 a 12 p3) := ⟨_, rfl⟩
          rw [← eq28] at hmh27 frh27
          replace e := ky_letE eq28 e
          refine (?_ : ky_V _ _ _ 64 _ _ _ _)
          refine v_vret (i := 32) rfl rfl ?_
          obtain ⟨rfl, rfl⟩ := ky_leaf e
          exact hr _ hmh27 frh27
        · replace e := ky_ifF c22 e
          refine v_aload_n (i := 21) (j := 0) rfl rfl (?_ : ky_V _ _ _ 46 _ _ _ _)
          obtain ⟨⟨q30, x31⟩, g32, e⟩ := Option.bind_eq_some_iff.mp e
          refine cl_X10_58 (As := []) rfl (i := 22) rfl (oc_X10 hmh18 (ly_X10_c (lt_X10 frh18 za))) rfl rfl (Nat.le_of_ble_eq_true rfl) (k_X10_forget N hG hmh18 g32 (fun h29 hmh29 frh29 => ⟨_, rfl, (?_ : ky_V _ _ _ 49 _ [] _ _)⟩))
          have frh29 := frh18.tr frh29
          refine v_aload_n (i := 23) (j := 0) rfl rfl (?_ : ky_V _ _ _ 50 _ _ _ _)
          refine v_aload_n (i := 24) (j := 1) rfl rfl (?_ : ky_V _ _ _ 51 _ _ _ _)
          refine pf_X10_61 rfl (i := 25) rfl (oc_X10 hmh29 (ly_X10_c (lt_X10 frh29 za))) (Nat.le_of_ble_eq_true rfl) rfl rfl ?_
          refine sk_str (kd := 9) (n := 0) hmh29 frh29 (ly_X10_c (lt_X10 frh29 za)) 10 (some a1_) (Or.inl rfl) (fun h33 hmh33 frh33 => ?_)
          obtain ⟨q34, eq34⟩ : ∃ z, z = (sk_wr q30 a 10 (some a1_)) := ⟨_, rfl⟩
          rw [← eq34] at hmh33 frh33
          replace e := ky_letE eq34 e
          refine (?_ : ky_V _ _ _ 54 _ _ _ _)
          refine v_aload_n (i := 26) (j := 0) rfl rfl (?_ : ky_V _ _ _ 55 _ _ _ _)
          refine v_iload_n (i := 27) (j := 2) rfl rfl (?_ : ky_V _ _ _ 56 _ _ _ _)
          refine pf_X10_46 rfl (i := 28) rfl (oc_X10 hmh33 (ly_X10_c (lt_X10 frh33 za))) (Nat.le_of_ble_eq_true rfl) rfl rfl ?_
          refine sk_stc (kd := 9) (n := 0) hmh33 frh33 (ly_X10_c (lt_X10 frh33 za)) 11 p2 (fun h35 hmh35 frh35 => ?_)
          obtain ⟨q36, eq36⟩ : ∃ z, z = (sk_wc q34 a 11 p2) := ⟨_, rfl⟩
          rw [← eq36] at hmh35 frh35
          replace e := ky_letE eq36 e
          refine (?_ : ky_V _ _ _ 59 _ _ _ _)
          refine v_aload_n (i := 29) (j := 0) rfl rfl (?_ : ky_V _ _ _ 60 _ _ _ _)
          refine v_iload_n (i := 30) (j := 3) rfl rfl (?_ : ky_V _ _ _ 61 _ _ _ _)
          refine pf_X10_55 rfl (i := 31) rfl (oc_X10 hmh35 (ly_X10_c (lt_X10 frh35 za))) (Nat.le_of_ble_eq_true rfl) rfl rfl ?_
          refine sk_stc (kd := 9) (n := 0) hmh35 frh35 (ly_X10_c (lt_X10 frh35 za)) 12 p3 (fun h37 hmh37 frh37 => ?_)
          obtain ⟨q38, eq38⟩ : ∃ z, z = (sk_wc q36 a 12 p3) := ⟨_, rfl⟩
          rw [← eq38] at hmh37 frh37
          replace e := ky_letE eq38 e
          refine (?_ : ky_V _ _ _ 64 _ _ _ _)
          refine v_vret (i := 32) rfl rfl ?_
          obtain ⟨rfl, rfl⟩ := ky_leaf e
          exact hr _ hmh37 frh37
    · replace e := ky_ifF c9 e
      refine v_aload (i := 9) (j := 4) rfl rfl (?_ : ky_V _ _ _ 21 _ _ _ _)
      refine v_iconst (v := 4) (i := 10) rfl (by decide) (?_ : ky_V _ _ _ 22 _ _ _ _)
      obtain ⟨z39, e⟩ := ky_chkE e
      obtain ⟨⟨q41, x42⟩, g43, e⟩ := Option.bind_eq_some_iff.mp e
      refine cl_X10_51 (As := [.int 4]) rfl (i := 11) rfl (oc_X3 hm (ly_X3_c z39)) rfl rfl (Nat.le_of_ble_eq_true rfl) (k_X3_asks N hG hm g43 (fun h40 hmh40 frh40 => ⟨_, rfl, (?_ : ky_V _ _ _ 25 _ [.int x42] _ _)⟩))
      have frh40 := fr.tr frh40
      refine v_if_ne (tgt := 45) (i := 12) rfl (by decide) (fun c44 => ?_) (fun c44 => ?_)
      · replace e := ky_ifF c44 e
        refine v_aload_n (i := 21) (j := 0) rfl rfl (?_ : ky_V _ _ _ 46 _ _ _ _)
        obtain ⟨⟨q46, x47⟩, g48, e⟩ := Option.bind_eq_some_iff.mp e
        refine cl_X10_58 (As := []) rfl (i := 22) rfl (oc_X10 hmh40 (ly_X10_c (lt_X10 frh40 za))) rfl rfl (Nat.le_of_ble_eq_true rfl) (k_X10_forget N hG hmh40 g48 (fun h45 hmh45 frh45 => ⟨_, rfl, (?_ : ky_V _ _ _ 49 _ [] _ _)⟩))
        have frh45 := frh40.tr frh45
        refine v_aload_n (i := 23) (j := 0) rfl rfl (?_ : ky_V _ _ _ 50 _ _ _ _)
        refine v_aload_n (i := 24) (j := 1) rfl rfl (?_ : ky_V _ _ _ 51 _ _ _ _)
        refine pf_X10_61 rfl (i := 25) rfl (oc_X10 hmh45 (ly_X10_c (lt_X10 frh45 za))) (Nat.le_of_ble_eq_true rfl) rfl rfl ?_
        refine sk_str (kd := 9) (n := 0) hmh45 frh45 (ly_X10_c (lt_X10 frh45 za)) 10 (some a1_) (Or.inl rfl) (fun h49 hmh49 frh49 => ?_)
        obtain ⟨q50, eq50⟩ : ∃ z, z = (sk_wr q46 a 10 (some a1_)) := ⟨_, rfl⟩
        rw [← eq50] at hmh49 frh49
        replace e := ky_letE eq50 e
        refine (?_ : ky_V _ _ _ 54 _ _ _ _)
        refine v_aload_n (i := 26) (j := 0) rfl rfl (?_ : ky_V _ _ _ 55 _ _ _ _)
        refine v_iload_n (i := 27) (j := 2) rfl rfl (?_ : ky_V _ _ _ 56 _ _ _ _)
        refine pf_X10_46 rfl (i := 28) rfl (oc_X10 hmh49 (ly_X10_c (lt_X10 frh49 za))) (Nat.le_of_ble_eq_true rfl) rfl rfl ?_
        refine sk_stc (kd := 9) (n := 0) hmh49 frh49 (ly_X10_c (lt_X10 frh49 za)) 11 p2 (fun h51 hmh51 frh51 => ?_)
        obtain ⟨q52, eq52⟩ : ∃ z, z = (sk_wc q50 a 11 p2) := ⟨_, rfl⟩
        rw [← eq52] at hmh51 frh51
        replace e := ky_letE eq52 e
        refine (?_ : ky_V _ _ _ 59 _ _ _ _)
        refine v_aload_n (i := 29) (j := 0) rfl rfl (?_ : ky_V _ _ _ 60 _ _ _ _)
        refine v_iload_n (i := 30) (j := 3) rfl rfl (?_ : ky_V _ _ _ 61 _ _ _ _)
        refine pf_X10_55 rfl (i := 31) rfl (oc_X10 hmh51 (ly_X10_c (lt_X10 frh51 za))) (Nat.le_of_ble_eq_true rfl) rfl rfl ?_
        refine sk_stc (kd := 9) (n := 0) hmh51 frh51 (ly_X10_c (lt_X10 frh51 za)) 12 p3 (fun h53 hmh53 frh53 => ?_)
        obtain ⟨q54, eq54⟩ : ∃ z, z = (sk_wc q52 a 12 p3) := ⟨_, rfl⟩
        rw [← eq54] at hmh53 frh53
        replace e := ky_letE eq54 e
        refine (?_ : ky_V _ _ _ 64 _ _ _ _)
        refine v_vret (i := 32) rfl rfl ?_
        obtain ⟨rfl, rfl⟩ := ky_leaf e
        exact hr _ hmh53 frh53
      · replace e := ky_ifT c44 e
        refine v_iload_n (i := 13) (j := 3) rfl rfl (?_ : ky_V _ _ _ 29 _ _ _ _)
        refine v_aload_n (i := 14) (j := 0) rfl rfl (?_ : ky_V _ _ _ 30 _ _ _ _)
        refine gf_X10_55 rfl (i := 15) rfl (oc_X10 hmh40 (ly_X10_c (lt_X10 frh40 za))) rfl (?_ : ky_V _ _ _ 33 _ _ _ _)
        refine v_icmp_eq (tgt := 49) (i := 16) rfl (by decide) (fun c55 => ?_) (fun c55 => ?_)
        · replace e := ky_ifT c55 e
          refine v_aload_n (i := 23) (j := 0) rfl rfl (?_ : ky_V _ _ _ 50 _ _ _ _)
          refine v_aload_n (i := 24) (j := 1) rfl rfl (?_ : ky_V _ _ _ 51 _ _ _ _)
          refine pf_X10_61 rfl (i := 25) rfl (oc_X10 hmh40 (ly_X10_c (lt_X10 frh40 za))) (Nat.le_of_ble_eq_true rfl) rfl rfl ?_
          refine sk_str (kd := 9) (n := 0) hmh40 frh40 (ly_X10_c (lt_X10 frh40 za)) 10 (some a1_) (Or.inl rfl) (fun h56 hmh56 frh56 => ?_)
          obtain ⟨q57, eq57⟩ : ∃ z, z = (sk_wr q41 a 10 (some a1_)) := ⟨_, rfl⟩
          rw [← eq57] at hmh56 frh56
          replace e := ky_letE eq57 e
          refine (?_ : ky_V _ _ _ 54 _ _ _ _)
          refine v_aload_n (i := 26) (j := 0) rfl rfl (?_ : ky_V _ _ _ 55 _ _ _ _)
          refine v_iload_n (i := 27) (j := 2) rfl rfl (?_ : ky_V _ _ _ 56 _ _ _ _)
          refine pf_X10_46 rfl (i := 28) rfl (oc_X10 hmh56 (ly_X10_c (lt_X10 frh56 za))) (Nat.le_of_ble_eq_true rfl) rfl rfl ?_
          refine sk_stc (kd := 9) (n := 0) hmh56 frh56 (ly_X10_c (lt_X10 frh56 za)) 11 p2 (fun h58 hmh58 frh58 => ?_)
          obtain ⟨q59, eq59⟩ : ∃ z, z = (sk_wc q57 a 11 p2) := ⟨_, rfl⟩
          rw [← eq59] at hmh58 frh58
          replace e := ky_letE eq59 e
          refine (?_ : ky_V _ _ _ 59 _ _ _ _)
          refine v_aload_n (i := 29) (j := 0) rfl rfl (?_ : ky_V _ _ _ 60 _ _ _ _)
          refine v_iload_n (i := 30) (j := 3) rfl rfl (?_ : ky_V _ _ _ 61 _ _ _ _)
          refine pf_X10_55 rfl (i := 31) rfl (oc_X10 hmh58 (ly_X10_c (lt_X10 frh58 za))) (Nat.le_of_ble_eq_true rfl) rfl rfl ?_
          refine sk_stc (kd := 9) (n := 0) hmh58 frh58 (ly_X10_c (lt_X10 frh58 za)) 12 p3 (fun h60 hmh60 frh60 => ?_)
          obtain ⟨q61, eq61⟩ : ∃ z, z = (sk_wc q59 a 12 p3) := ⟨_, rfl⟩
          rw [← eq61] at hmh60 frh60
          replace e := ky_letE eq61 e
          refine (?_ : ky_V _ _ _ 64 _ _ _ _)
          refine v_vret (i := 32) rfl rfl ?_
          obtain ⟨rfl, rfl⟩ := ky_leaf e
          exact hr _ hmh60 frh60
        · replace e := ky_ifF c55 e
          refine v_aload (i := 17) (j := 4) rfl rfl (?_ : ky_V _ _ _ 38 _ _ _ _)
          refine v_iconst (v := 5) (i := 18) rfl (by decide) (?_ : ky_V _ _ _ 39 _ _ _ _)
          obtain ⟨⟨q63, x64⟩, g65, e⟩ := Option.bind_eq_some_iff.mp e
          refine cl_X10_51 (As := [.int 5]) rfl (i := 19) rfl (oc_X3 hmh40 (ly_X3_c (lt_X3 frh40 z39))) rfl rfl (Nat.le_of_ble_eq_true rfl) (k_X3_asks N hG hmh40 g65 (fun h62 hmh62 frh62 => ⟨_, rfl, (?_ : ky_V _ _ _ 42 _ [.int x64] _ _)⟩))
          have frh62 := frh40.tr frh62
          refine v_if_eq (tgt := 49) (i := 20) rfl (by decide) (fun c66 => ?_) (fun c66 => ?_)
          · replace e := ky_ifT c66 e
            refine v_aload_n (i := 23) (j := 0) rfl rfl (?_ : ky_V _ _ _ 50 _ _ _ _)
            refine v_aload_n (i := 24) (j := 1) rfl rfl (?_ : ky_V _ _ _ 51 _ _ _ _)
            refine pf_X10_61 rfl (i := 25) rfl (oc_X10 hmh62 (ly_X10_c (lt_X10 frh62 za))) (Nat.le_of_ble_eq_true rfl) rfl rfl ?_
            refine sk_str (kd := 9) (n := 0) hmh62 frh62 (ly_X10_c (lt_X10 frh62 za)) 10 (some a1_) (Or.inl rfl) (fun h67 hmh67 frh67 => ?_)
            obtain ⟨q68, eq68⟩ : ∃ z, z = (sk_wr q63 a 10 (some a1_)) := ⟨_, rfl⟩
            rw [← eq68] at hmh67 frh67
            replace e := ky_letE eq68 e
            refine (?_ : ky_V _ _ _ 54 _ _ _ _)
            refine v_aload_n (i := 26) (j := 0) rfl rfl (?_ : ky_V _ _ _ 55 _ _ _ _)
            refine v_iload_n (i := 27) (j := 2) rfl rfl (?_ : ky_V _ _ _ 56 _ _ _ _)
            refine pf_X10_46 rfl (i := 28) rfl (oc_X10 hmh67 (ly_X10_c (lt_X10 frh67 za))) (Nat.le_of_ble_eq_true rfl) rfl rfl ?_
            refine sk_stc (kd := 9) (n := 0) hmh67 frh67 (ly_X10_c (lt_X10 frh67 za)) 11 p2 (fun h69 hmh69 frh69 => ?_)
            obtain ⟨q70, eq70⟩ : ∃ z, z = (sk_wc q68 a 11 p2) := ⟨_, rfl⟩
            rw [← eq70] at hmh69 frh69
            replace e := ky_letE eq70 e
            refine (?_ : ky_V _ _ _ 59 _ _ _ _)
            refine v_aload_n (i := 29) (j := 0) rfl rfl (?_ : ky_V _ _ _ 60 _ _ _ _)
            refine v_iload_n (i := 30) (j := 3) rfl rfl (?_ : ky_V _ _ _ 61 _ _ _ _)
            refine pf_X10_55 rfl (i := 31) rfl (oc_X10 hmh69 (ly_X10_c (lt_X10 frh69 za))) (Nat.le_of_ble_eq_true rfl) rfl rfl ?_
            refine sk_stc (kd := 9) (n := 0) hmh69 frh69 (ly_X10_c (lt_X10 frh69 za)) 12 p3 (fun h71 hmh71 frh71 => ?_)
            obtain ⟨q72, eq72⟩ : ∃ z, z = (sk_wc q70 a 12 p3) := ⟨_, rfl⟩
            rw [← eq72] at hmh71 frh71
            replace e := ky_letE eq72 e
            refine (?_ : ky_V _ _ _ 64 _ _ _ _)
            refine v_vret (i := 32) rfl rfl ?_
            obtain ⟨rfl, rfl⟩ := ky_leaf e
            exact hr _ hmh71 frh71
          · replace e := ky_ifF c66 e
            refine v_aload_n (i := 21) (j := 0) rfl rfl (?_ : ky_V _ _ _ 46 _ _ _ _)
            obtain ⟨⟨q74, x75⟩, g76, e⟩ := Option.bind_eq_some_iff.mp e
            refine cl_X10_58 (As := []) rfl (i := 22) rfl (oc_X10 hmh62 (ly_X10_c (lt_X10 frh62 za))) rfl rfl (Nat.le_of_ble_eq_true rfl) (k_X10_forget N hG hmh62 g76 (fun h73 hmh73 frh73 => ⟨_, rfl, (?_ : ky_V _ _ _ 49 _ [] _ _)⟩))
            have frh73 := frh62.tr frh73
            refine v_aload_n (i := 23) (j := 0) rfl rfl (?_ : ky_V _ _ _ 50 _ _ _ _)
            refine v_aload_n (i := 24) (j := 1) rfl rfl (?_ : ky_V _ _ _ 51 _ _ _ _)
            refine pf_X10_61 rfl (i := 25) rfl (oc_X10 hmh73 (ly_X10_c (lt_X10 frh73 za))) (Nat.le_of_ble_eq_true rfl) rfl rfl ?_
            refine sk_str (kd := 9) (n := 0) hmh73 frh73 (ly_X10_c (lt_X10 frh73 za)) 10 (some a1_) (Or.inl rfl) (fun h77 hmh77 frh77 => ?_)
            obtain ⟨q78, eq78⟩ : ∃ z, z = (sk_wr q74 a 10 (some a1_)) := ⟨_, rfl⟩
            rw [← eq78] at hmh77 frh77
            replace e := ky_letE eq78 e
            refine (?_ : ky_V _ _ _ 54 _ _ _ _)
            refine v_aload_n (i := 26) (j := 0) rfl rfl (?_ : ky_V _ _ _ 55 _ _ _ _)
            refine v_iload_n (i := 27) (j := 2) rfl rfl (?_ : ky_V _ _ _ 56 _ _ _ _)
            refine pf_X10_46 rfl (i := 28) rfl (oc_X10 hmh77 (ly_X10_c (lt_X10 frh77 za))) (Nat.le_of_ble_eq_true rfl) rfl rfl ?_
            refine sk_stc (kd := 9) (n := 0) hmh77 frh77 (ly_X10_c (lt_X10 frh77 za)) 11 p2 (fun h79 hmh79 frh79 => ?_)
            obtain ⟨q80, eq80⟩ : ∃ z, z = (sk_wc q78 a 11 p2) := ⟨_, rfl⟩
            rw [← eq80] at hmh79 frh79
            replace e := ky_letE eq80 e
            refine (?_ : ky_V _ _ _ 59 _ _ _ _)
            refine v_aload_n (i := 29) (j := 0) rfl rfl (?_ : ky_V _ _ _ 60 _ _ _ _)
            refine v_iload_n (i := 30) (j := 3) rfl rfl (?_ : ky_V _ _ _ 61 _ _ _ _)
            refine pf_X10_55 rfl (i := 31) rfl (oc_X10 hmh79 (ly_X10_c (lt_X10 frh79 za))) (Nat.le_of_ble_eq_true rfl) rfl rfl ?_
            refine sk_stc (kd := 9) (n := 0) hmh79 frh79 (ly_X10_c (lt_X10 frh79 za)) 12 p3 (fun h81 hmh81 frh81 => ?_)
            obtain ⟨q82, eq82⟩ : ∃ z, z = (sk_wc q80 a 12 p3) := ⟨_, rfl⟩
            rw [← eq82] at hmh81 frh81
            replace e := ky_letE eq82 e
            refine (?_ : ky_V _ _ _ 64 _ _ _ _)
            refine v_vret (i := 32) rfl rfl ?_
            obtain ⟨rfl, rfl⟩ := ky_leaf e
            exact hr _ hmh81 frh81

def x10_begin (N : Nat)  (s : sk_S) (a : Nat) (p1 : Int32) : Option (sk_S × Int32) := (if lay_X10 (sk_K s) (sk_r s) a = true then ((j7_fill_53178 N s (a + 2) (-1)).bind (fun zz => (fun q2 x3 => ((j7_fill_53178 N q2 (a + 7) (-1)).bind (fun zz => (fun q6 x7 => (ky_let (sk_wc q6 a 7 0) (fun q10 => (ky_let (sk_wc q10 a 8 0) (fun q12 => ((x10_enterSlot N q12 a p1 0).bind (fun zz => (fun q14 x15 => (some (q14, 0))) zz.1 zz.2))))))) zz.1 zz.2))) zz.1 zz.2)) else none)
set_option maxRecDepth 20000 in
set_option maxHeartbeats 4000000 in
theorem k_X10_begin {G : ky_GW} {d : Nat} {h : ky_HP} {Q : ky_RS → ky_HP → Prop} {s s9 : sk_S} {r9 : Int32} {a : Nat} {p1 : Int32} (N : Nat) (hG : ky_OK G)   (hm : sk_hp G s h)  (e : x10_begin N  s a p1 = some (s9, r9)) (hr : ∀ h1, sk_hp G s9 h1 → sk_fr none s h s9 h1 → Q (.inl none) h1) : ky_Call G (d + 1) M_X10_begin [.ref a, .int p1] h Q := by
  refine ky_ofV (by decide +kernel) rfl ok_X10_begin (Nat.le_of_ble_eq_true rfl) ?_
  have fr : sk_fr none s h s h := sk_fr.rf
  unfold x10_begin at e
  refine (?_ : ky_V _ _ _ 0 [(0, .ref a), (1, .int p1)] [] _ _)
  obtain ⟨za, e⟩ := ky_chkE e
  refine v_aload_n (i := 0) (j := 0) rfl rfl (?_ : ky_V _ _ _ 1 _ _ _ _)
  refine gf_X10_17 rfl (i := 1) rfl (oc_X10 hm (ly_X10_c za)) (sk_rf (ly_X10_r1 za)) (?_ : ky_V _ _ _ 4 _ (.ref (a + 2) :: _) _ _)
  refine v_iconst (v := (-1)) (i := 2) rfl (by decide) (?_ : ky_V _ _ _ 5 _ _ _ _)
  obtain ⟨⟨q2, x3⟩, g4, e⟩ := Option.bind_eq_some_iff.mp e
  refine cl_X10_86 (As := [.ref ((a + 2)), .int (-1)]) rfl (i := 3) rfl rfl rfl (Nat.le_of_ble_eq_true rfl) (k_J7_fill_53178 N hG hm g4 (fun h1 hmh1 frh1 => ⟨_, rfl, (?_ : ky_V _ _ _ 8 _ [] _ _)⟩))
  have frh1 := fr.tr frh1
  refine v_aload_n (i := 4) (j := 0) rfl rfl (?_ : ky_V _ _ _ 9 _ _ _ _)
  refine gf_X10_33 rfl (i := 5) rfl (oc_X10 hmh1 (ly_X10_c (lt_X10 frh1 za))) (sk_rf (ly_X10_r6 (lt_X10 frh1 za))) (?_ : ky_V _ _ _ 12 _ (.ref (a + 7) :: _) _ _)
  refine v_iconst (v := (-1)) (i := 6) rfl (by decide) (?_ : ky_V _ _ _ 13 _ _ _ _)
  obtain ⟨⟨q6, x7⟩, g8, e⟩ := Option.bind_eq_some_iff.mp e
  refine cl_X10_86 (As := [.ref ((a + 7)), .int (-1)]) rfl (i := 7) rfl rfl rfl (Nat.le_of_ble_eq_true rfl) (k_J7_fill_53178 N hG hmh1 g8 (fun h5 hmh5 frh5 => ⟨_, rfl, (?_ : ky_V _ _ _ 16 _ [] _ _)⟩))
  have frh5 := frh1.tr frh5
  refine v_aload_n (i := 8) (j := 0) rfl rfl (?_ : ky_V _ _ _ 17 _ _ _ _)
  refine v_iconst (v := 0) (i := 9) rfl (by decide) (?_ : ky_V _ _ _ 18 _ _ _ _)
  refine pf_X10_79 rfl (i := 10) rfl (oc_X10 hmh5 (ly_X10_c (lt_X10 frh5 za))) (Nat.le_of_ble_eq_true rfl) rfl rfl ?_
  refine sk_stc (kd := 9) (n := 0) hmh5 frh5 (ly_X10_c (lt_X10 frh5 za)) 7 0 (fun h9 hmh9 frh9 => ?_)
  obtain ⟨q10, eq10⟩ : ∃ z, z = (sk_wc q6 a 7 0) := ⟨_, rfl⟩
  rw [← eq10] at hmh9 frh9
  replace e := ky_letE eq10 e
  refine (?_ : ky_V _ _ _ 21 _ _ _ _)
  refine v_aload_n (i := 11) (j := 0) rfl rfl (?_ : ky_V _ _ _ 22 _ _ _ _)
  refine v_iconst (v := 0) (i := 12) rfl (by decide) (?_ : ky_V _ _ _ 23 _ _ _ _)
  refine pf_X10_70 rfl (i := 13) rfl (oc_X10 hmh9 (ly_X10_c (lt_X10 frh9 za))) (Nat.le_of_ble_eq_true rfl) rfl rfl ?_
  refine sk_stc (kd := 9) (n := 0) hmh9 frh9 (ly_X10_c (lt_X10 frh9 za)) 8 0 (fun h11 hmh11 frh11 => ?_)
  obtain ⟨q12, eq12⟩ : ∃ z, z = (sk_wc q10 a 8 0) := ⟨_, rfl⟩
  rw [← eq12] at hmh11 frh11
  replace e := ky_letE eq12 e
  refine (?_ : ky_V _ _ _ 26 _ _ _ _)
  refine v_aload_n (i := 14) (j := 0) rfl rfl (?_ : ky_V _ _ _ 27 _ _ _ _)
  refine v_iload_n (i := 15) (j := 1) rfl rfl (?_ : ky_V _ _ _ 28 _ _ _ _)
  refine v_iconst (v := 0) (i := 16) rfl (by decide) (?_ : ky_V _ _ _ 29 _ _ _ _)
  obtain ⟨⟨q14, x15⟩, g16, e⟩ := Option.bind_eq_some_iff.mp e
  refine cl_X10_92 (As := [.int p1, .int 0]) rfl (i := 17) rfl (oc_X10 hmh11 (ly_X10_c (lt_X10 frh11 za))) rfl rfl (Nat.le_of_ble_eq_true rfl) (k_X10_enterSlot N hG hmh11 g16 (fun h13 hmh13 frh13 => ⟨_, rfl, (?_ : ky_V _ _ _ 32 _ [] _ _)⟩))
  have frh13 := frh11.tr frh13
  refine v_vret (i := 18) rfl rfl ?_
  obtain ⟨rfl, rfl⟩ := ky_leaf e
  exact hr _ hmh13 frh13

def x10_lookOn_L2 (N : Nat)  (a : Nat) (k : sk_S → Int32 → Int32 → Int32 → Option (sk_S × Int32)) : Nat → sk_S → Int32 → Int32 → Int32 → Option (sk_S × Int32)
  | 0, _, _, _, _ => none
  | n + 1, c, p1, p2, p3 => (if (12 : Int32) ≤ p3 then (k c p1 p2 p3) else (if (wy_isIn p2 p3) = 0 then (ky_let (p3 + 1) (fun x3 => (x10_lookOn_L2 N a k n c p1 p2 x3))) else ((x10_target N c a p1 p3).bind (fun zz => (fun q5 x6 => (if ky_inB p1 1200 = true then (ky_om (sk_r q5 a 10) none (fun l10 => (if lay_X6 (sk_K q5) (sk_r q5) l10 = true then ((x6_takes N q5 l10 (wy_moveOf p3)).bind (fun zz => (fun q13 x14 => (ky_let ((sk_c q5 (a + 2) (Int32.toNatClampNeg p1)) + x14) (fun x16 => (if ky_inB x6 1200 = true then (if (sk_c q13 (a + 2) (Int32.toNatClampNeg x6)) = (-1 : Int32) then ((x10_enterSlot N q13 a x6 x16).bind (fun zz => (fun q31 x32 => (ky_let (p3 + 1) (fun x34 => (x10_lookOn_L2 N a k n q31 p1 p2 x34)))) zz.1 zz.2)) else (if (sk_c q13 (a + 2) (Int32.toNatClampNeg x6)) ≤ x16 then (ky_let (p3 + 1) (fun x20 => (x10_lookOn_L2 N a k n q13 p1 p2 x20))) else ((x10_leaveSlot N q13 a x6).bind (fun zz => (fun q22 x23 => ((x10_enterSlot N q22 a x6 x16).bind (fun zz => (fun q26 x27 => (ky_let (p3 + 1) (fun x29 => (x10_lookOn_L2 N a k n q26 p1 p2 x29)))) zz.1 zz.2))) zz.1 zz.2)))) else none)))) zz.1 zz.2)) else none))) else none)) zz.1 zz.2))))
set_option maxRecDepth 20000 in
set_option maxHeartbeats 4000000 in
theorem lv_X10_lookOn_2 {G : ky_GW} {d : Nat} {s s9 : sk_S} {h0 : ky_HP} {Q : ky_RS → ky_HP → Prop} {r9 : Int32} (N : Nat) (hG : ky_OK G)  (a : Nat)   (za : lay_X10 (sk_K s) (sk_r s) a = true) (hm : sk_hp G s h0) (k : sk_S → Int32 → Int32 → Int32 → Option (sk_S × Int32)) (hr : ∀ h1, sk_hp G s9 h1 → sk_fr none s h0 s9 h1 → Q (.inl none) h1)
    (hk : ∀ (h : ky_HP) (c : sk_S) (p1 : Int32) (p2 : Int32) (p3 : Int32), sk_hp G c h → sk_fr none s h0 c h → k c p1 p2 p3 = some (s9, r9) → ky_V G (d + 4) M_X10_lookOn 98 [(0, .ref a), (1, .int p1), (2, .int p2), (3, .int p3)] [] h Q) :
    ∀ (n : Nat) (h : ky_HP) (c : sk_S) (p1 : Int32) (p2 : Int32) (p3 : Int32), sk_hp G c h → sk_fr none s h0 c h → x10_lookOn_L2 N a k n c p1 p2 p3 = some (s9, r9) → ky_V G (d + 4) M_X10_lookOn 2 [(0, .ref a), (1, .int p1), (2, .int p2), (3, .int p3)] [] h Q := by
  intro n
  induction n with
  | zero => intro h c p1 p2 p3 hm1 fr e; cases e
  | succ n ih =>
    intro h c p1 p2 p3 hm1 fr e
    rw [x10_lookOn_L2] at e
    refine v_iload_n (i := 2) (j := 3) rfl rfl (?_ : ky_V _ _ _ 3 _ _ _ _)
    refine v_bipush (v := 12) (i := 3) rfl (by decide) (?_ : ky_V _ _ _ 5 _ _ _ _)
    refine v_icmp_ge (tgt := 98) (i := 4) rfl (by decide) (fun c1 => ?_) (fun c1 => ?_)
    · replace e := ky_ifT c1 e
      exact hk h c p1 p2 p3 hm1 fr e
    · replace e := ky_ifF c1 e
      refine v_iload_n (i := 5) (j := 2) rfl rfl (?_ : ky_V _ _ _ 9 _ _ _ _)
      refine v_iload_n (i := 6) (j := 3) rfl rfl (?_ : ky_V _ _ _ 10 _ _ _ _)
      refine cl_X10_95 (As := [.int p2, .int p3]) rfl (i := 7) rfl rfl rfl (Nat.le_of_ble_eq_true rfl) (k_X10_isIn p2 p3 ⟨_, rfl, (?_ : ky_V _ _ _ 13 _ [.int ((wy_isIn p2 p3))] _ _)⟩)
      refine v_if_eq (tgt := 92) (i := 8) rfl (by decide) (fun c2 => ?_) (fun c2 => ?_)
      · replace e := ky_ifT c2 e
        obtain ⟨x3, ex3⟩ : ∃ z : Int32, z = p3 + 1 := ⟨_, rfl⟩
        replace e := ky_letE ex3 e
        refine v_iinc (v := x3) (j := 3) (L' := [(0, .ref a), (1, .int p1), (2, .int p2), (3, .int x3)]) [1, 2, 3, 0] (i := 49) rfl rfl (by rw [ex3]; rfl) (Nat.le_of_ble_eq_true rfl) rfl (?_ : ky_V _ _ _ 95 _ _ _ _)
        refine v_goto (tgt := 2) (i := 50) rfl (by decide) (?_ : ky_V _ _ _ 2 _ _ _ _)
        exact ih h c p1 p2 x3 hm1 fr e
      · replace e := ky_ifF c2 e
        refine v_aload_n (i := 9) (j := 0) rfl rfl (?_ : ky_V _ _ _ 17 _ _ _ _)
        refine v_iload_n (i := 10) (j := 1) rfl rfl (?_ : ky_V _ _ _ 18 _ _ _ _)
        refine v_iload_n (i := 11) (j := 3) rfl rfl (?_ : ky_V _ _ _ 19 _ _ _ _)
        obtain ⟨⟨q5, x6⟩, g7, e⟩ := Option.bind_eq_some_iff.mp e
        refine cl_X10_99 (As := [.int p1, .int p3]) rfl (i := 12) rfl (oc_X10 hm1 (ly_X10_c (lt_X10 fr za))) rfl rfl (Nat.le_of_ble_eq_true rfl) (k_X10_target N hG hm1 g7 (fun h4 hmh4 frh4 => ⟨_, rfl, (?_ : ky_V _ _ _ 22 _ [.int x6] _ _)⟩))
        have frh4 := fr.tr frh4
        refine v_istore (L' := [(0, .ref a), (1, .int p1), (2, .int p2), (3, .int p3), (4, .int x6)]) [1, 2, 3, 4, 0] (i := 13) rfl (Nat.le_of_ble_eq_true rfl) rfl (?_ : ky_V _ _ _ 24 _ _ _ _)
        refine v_aload_n (i := 14) (j := 0) rfl rfl (?_ : ky_V _ _ _ 25 _ _ _ _)
        refine gf_X10_17 rfl (i := 15) rfl (oc_X10 hmh4 (ly_X10_c (lt_X10 frh4 za))) (sk_rf (ly_X10_r1 (lt_X10 frh4 za))) (?_ : ky_V _ _ _ 28 _ (.ref (a + 2) :: _) _ _)
        refine v_iload_n (i := 16) (j := 1) rfl rfl (?_ : ky_V _ _ _ 29 _ _ _ _)
        obtain ⟨z8, e⟩ := ky_chkE e
        refine v_iald (i := 17) rfl (oa_21 hmh4 (ly_X10_k1 (lt_X10 frh4 za))) (ky_inb z8) (?_ : ky_V _ _ _ 30 _ (.int (sk_c q5 (a + 2) (Int32.toNatClampNeg p1)) :: _) _ _)
        refine v_aload_n (i := 18) (j := 0) rfl rfl (?_ : ky_V _ _ _ 31 _ _ _ _)
        rcases y9 : (sk_r q5 a 10) with _ | l10
        · replace e := ky_omN y9 e
          refine gf_X10_61 rfl (i := 19) rfl (oc_X10 hmh4 (ly_X10_c (lt_X10 frh4 za))) (sk_rn y9) (?_ : ky_V _ _ _ 34 _ _ _ _)
          refine v_iload_n (i := 20) (j := 3) rfl rfl (?_ : ky_V _ _ _ 35 _ _ _ _)
          refine cl_X10_103 (As := [.int p3]) rfl (i := 21) rfl rfl rfl (Nat.le_of_ble_eq_true rfl) (k_X10_moveOf p3 ⟨_, rfl, (?_ : ky_V _ _ _ 38 _ [.int ((wy_moveOf p3)), .null, .int ((sk_c q5 (a + 2) (Int32.toNatClampNeg p1)))] _ _)⟩)
          cases e
        · replace e := ky_omS y9 e
          refine gf_X10_61 rfl (i := 19) rfl (oc_X10 hmh4 (ly_X10_c (lt_X10 frh4 za))) (sk_rf y9) (?_ : ky_V _ _ _ 34 _ _ _ _)
          refine v_iload_n (i := 20) (j := 3) rfl rfl (?_ : ky_V _ _ _ 35 _ _ _ _)
          refine cl_X10_103 (As := [.int p3]) rfl (i := 21) rfl rfl rfl (Nat.le_of_ble_eq_true rfl) (k_X10_moveOf p3 ⟨_, rfl, (?_ : ky_V _ _ _ 38 _ [.int ((wy_moveOf p3)), .ref l10, .int ((sk_c q5 (a + 2) (Int32.toNatClampNeg p1)))] _ _)⟩)
          obtain ⟨z11, e⟩ := ky_chkE e
          obtain ⟨⟨q13, x14⟩, g15, e⟩ := Option.bind_eq_some_iff.mp e
          refine cl_X10_107 (As := [.int ((wy_moveOf p3))]) rfl (i := 22) rfl (oc_X6 hmh4 (ly_X6_c z11)) rfl rfl (Nat.le_of_ble_eq_true rfl) (k_X6_takes N hG hmh4 g15 (fun h12 hmh12 frh12 => ⟨_, rfl, (?_ : ky_V _ _ _ 41 _ [.int x14, .int ((sk_c q5 (a + 2) (Int32.toNatClampNeg p1)))] _ _)⟩))
          have frh12 := frh4.tr frh12
          refine v_iadd (i := 23) rfl (?_ : ky_V _ _ _ 42 _ _ _ _)
          refine v_topi (fun x16 ex16 => ?_)
          replace e := ky_letE ex16 e
          refine v_istore (L' := [(0, .ref a), (1, .int p1), (2, .int p2), (3, .int p3), (4, .int x6), (5, .int x16)]) [1, 2, 3, 4, 5, 0] (i := 24) rfl (Nat.le_of_ble_eq_true rfl) rfl (?_ : ky_V _ _ _ 44 _ _ _ _)
          refine v_aload_n (i := 25) (j := 0) rfl rfl (?_ : ky_V _ _ _ 45 _ _ _ _)
          refine gf_X10_17 rfl (i := 26) rfl (oc_X10 hmh12 (ly_X10_c (lt_X10 frh12 za))) (sk_rf (ly_X10_r1 (lt_X10 frh12 za))) (?_ : ky_V _ _ _ 48 _ (.ref (a + 2) :: _) _ _)
          refine v_iload (i := 27) (j := 4) rfl rfl (?_ : ky_V _ _ _ 50 _ _ _ _)
          obtain ⟨z17, e⟩ := ky_chkE e
          refine v_iald (i := 28) rfl (oa_21 hmh12 (ly_X10_k1 (lt_X10 frh12 za))) (ky_inb z17) (?_ : ky_V _ _ _ 51 _ (.int (sk_c q13 (a + 2) (Int32.toNatClampNeg x6)) :: _) _ _)
          refine v_iconst (v := (-1)) (i := 29) rfl (by decide) (?_ : ky_V _ _ _ 52 _ _ _ _)
          refine v_icmp_ne (tgt := 66) (i := 30) rfl (by decide) (fun c18 => ?_) (fun c18 => ?_)
          · replace e := ky_ifF c18 e
            refine v_iload (i := 36) (j := 5) rfl rfl (?_ : ky_V _ _ _ 68 _ _ _ _)
            refine v_aload_n (i := 37) (j := 0) rfl rfl (?_ : ky_V _ _ _ 69 _ _ _ _)
            refine gf_X10_17 rfl (i := 38) rfl (oc_X10 hmh12 (ly_X10_c (lt_X10 frh12 za))) (sk_rf (ly_X10_r1 (lt_X10 frh12 za))) (?_ : ky_V _ _ _ 72 _ (.ref (a + 2) :: _) _ _)
            refine v_iload (i := 39) (j := 4) rfl rfl (?_ : ky_V _ _ _ 74 _ _ _ _)
            refine v_iald (i := 40) rfl (oa_21 hmh12 (ly_X10_k1 (lt_X10 frh12 za))) (ky_inb z17) (?_ : ky_V _ _ _ 75 _ (.int (sk_c q13 (a + 2) (Int32.toNatClampNeg x6)) :: _) _ _)
            refine v_icmp_ge (tgt := 92) (i := 41) rfl (by decide) (fun c19 => ?_) (fun c19 => ?_)
            · replace e := ky_ifT c19 e
              obtain ⟨x20, ex20⟩ : ∃ z : Int32, z = p3 + 1 := ⟨_, rfl⟩
              replace e := ky_letE ex20 e
              refine v_iinc (v := x20) (j := 3) (L' := [(0, .ref a), (1, .int p1), (2, .int p2), (3, .int x20), (4, .int x6), (5, .int x16)]) [1, 2, 3, 0, 4, 5] (i := 49) rfl rfl (by rw [ex20]; rfl) (Nat.le_of_ble_eq_true rfl) rfl (?_ : ky_V _ _ _ 95 _ _ _ _)
              refine v_goto (tgt := 2) (i := 50) rfl (by decide) (?_ : ky_V _ _ _ 2 _ _ _ _)
              refine ky_loc (L' := [(0, .ref a), (1, .int p1), (2, .int p2), (3, .int x20)]) (by simp) ?_
              exact ih h12 q13 p1 p2 x20 hmh12 frh12 e
            · replace e := ky_ifF c19 e
              refine v_aload_n (i := 42) (j := 0) rfl rfl (?_ : ky_V _ _ _ 79 _ _ _ _)
              refine v_iload (i := 43) (j := 4) rfl rfl (?_ : ky_V _ _ _ 81 _ _ _ _)
              obtain ⟨⟨q22, x23⟩, g24, e⟩ := Option.bind_eq_some_iff.mp e
              refine cl_X10_76 (As := [.int x6]) rfl (i := 44) rfl (oc_X10 hmh12 (ly_X10_c (lt_X10 frh12 za))) rfl rfl (Nat.le_of_ble_eq_true rfl) (k_X10_leaveSlot N hG hmh12 g24 (fun h21 hmh21 frh21 => ⟨_, rfl, (?_ : ky_V _ _ _ 84 _ [] _ _)⟩))
              have frh21 := frh12.tr frh21
              refine v_aload_n (i := 45) (j := 0) rfl rfl (?_ : ky_V _ _ _ 85 _ _ _ _)
              refine v_iload (i := 46) (j := 4) rfl rfl (?_ : ky_V _ _ _ 87 _ _ _ _)
              refine v_iload (i := 47) (j := 5) rfl rfl (?_ : ky_V _ _ _ 89 _ _ _ _)
              obtain ⟨⟨q26, x27⟩, g28, e⟩ := Option.bind_eq_some_iff.mp e
              refine cl_X10_92 (As := [.int x6, .int x16]) rfl (i := 48) rfl (oc_X10 hmh21 (ly_X10_c (lt_X10 frh21 za))) rfl rfl (Nat.le_of_ble_eq_true rfl) (k_X10_enterSlot N hG hmh21 g28 (fun h25 hmh25 frh25 => ⟨_, rfl, (?_ : ky_V _ _ _ 92 _ [] _ _)⟩))
              have frh25 := frh21.tr frh25
              obtain ⟨x29, ex29⟩ : ∃ z : Int32, z = p3 + 1 := ⟨_, rfl⟩
              replace e := ky_letE ex29 e
              refine v_iinc (v := x29) (j := 3) (L' := [(0, .ref a), (1, .int p1), (2, .int p2), (3, .int x29), (4, .int x6), (5, .int x16)]) [1, 2, 3, 0, 4, 5] (i := 49) rfl rfl (by rw [ex29]; rfl) (Nat.le_of_ble_eq_true rfl) rfl (?_ : ky_V _ _ _ 95 _ _ _ _)
              refine v_goto (tgt := 2) (i := 50) rfl (by decide) (?_ : ky_V _ _ _ 2 _ _ _ _)
              refine ky_loc (L' := [(0, .ref a), (1, .int p1), (2, .int p2), (3, .int x29)]) (by simp) ?_
              exact ih h25 q26 p1 p2 x29 hmh25 frh25 e
          · replace e := ky_ifT c18 e
            refine v_aload_n (i := 31) (j := 0) rfl rfl (?_ : ky_V _ _ _ 56 _ _ _ _)
            refine v_iload (i := 32) (j := 4) rfl rfl (?_ : ky_V _ _ _ 58 _ _ _ _)
            refine v_iload (i := 33) (j := 5) rfl rfl (?_ : ky_V _ _ _ 60 _ _ _ _)
            obtain ⟨⟨q31, x32⟩, g33, e⟩ := Option.bind_eq_some_iff.mp e
            refine cl_X10_92 (As := [.int x6, .int x16]) rfl (i := 34) rfl (oc_X10 hmh12 (ly_X10_c (lt_X10 frh12 za))) rfl rfl (Nat.le_of_ble_eq_true rfl) (k_X10_enterSlot N hG hmh12 g33 (fun h30 hmh30 frh30 => ⟨_, rfl, (?_ : ky_V _ _ _ 63 _ [] _ _)⟩))
            have frh30 := frh12.tr frh30
            refine v_goto (tgt := 92) (i := 35) rfl (by decide) (?_ : ky_V _ _ _ 92 _ _ _ _)
            obtain ⟨x34, ex34⟩ : ∃ z : Int32, z = p3 + 1 := ⟨_, rfl⟩
            replace e := ky_letE ex34 e
            refine v_iinc (v := x34) (j := 3) (L' := [(0, .ref a), (1, .int p1), (2, .int p2), (3, .int x34), (4, .int x6), (5, .int x16)]) [1, 2, 3, 0, 4, 5] (i := 49) rfl rfl (by rw [ex34]; rfl) (Nat.le_of_ble_eq_true rfl) rfl (?_ : ky_V _ _ _ 95 _ _ _ _)
            refine v_goto (tgt := 2) (i := 50) rfl (by decide) (?_ : ky_V _ _ _ 2 _ _ _ _)
            refine ky_loc (L' := [(0, .ref a), (1, .int p1), (2, .int p2), (3, .int x34)]) (by simp) ?_
            exact ih h30 q31 p1 p2 x34 hmh30 frh30 e

def x10_lookOn (N : Nat)  (s : sk_S) (a : Nat) (p1 : Int32) (p2 : Int32) : Option (sk_S × Int32) := (if lay_X10 (sk_K s) (sk_r s) a = true then (x10_lookOn_L2 N a (fun q2 x3 x4 x5 => (some (q2, 0))) N s p1 p2 0) else none)
set_option maxRecDepth 20000 in
set_option maxHeartbeats 4000000 in
theorem k_X10_lookOn {G : ky_GW} {d : Nat} {h : ky_HP} {Q : ky_RS → ky_HP → Prop} {s s9 : sk_S} {r9 : Int32} {a : Nat} {p1 : Int32} {p2 : Int32} (N : Nat) (hG : ky_OK G)   (hm : sk_hp G s h)  (e : x10_lookOn N  s a p1 p2 = some (s9, r9)) (hr : ∀ h1, sk_hp G s9 h1 → sk_fr none s h s9 h1 → Q (.inl none) h1) : ky_Call G (d + 4) M_X10_lookOn [.ref a, .int p1, .int p2] h Q := by
  refine ky_ofV (by decide +kernel) rfl ok_X10_lookOn (Nat.le_of_ble_eq_true rfl) ?_
  have fr : sk_fr none s h s h := sk_fr.rf
  unfold x10_lookOn at e
  refine (?_ : ky_V _ _ _ 0 [(0, .ref a), (1, .int p1), (2, .int p2)] [] _ _)
  obtain ⟨za, e⟩ := ky_chkE e
  refine v_iconst (v := 0) (i := 0) rfl (by decide) (?_ : ky_V _ _ _ 1 _ _ _ _)
  refine v_istore_n (L' := [(0, .ref a), (1, .int p1), (2, .int p2), (3, .int 0)]) [1, 2, 3, 0] (i := 1) rfl (Nat.le_of_ble_eq_true rfl) rfl (?_ : ky_V _ _ _ 2 _ _ _ _)
  refine lv_X10_lookOn_2 N hG a za hm _ hr (fun h1 q2 x3 x4 x5 hmh1 frh1 e => ?_) N h s p1 p2 0 hm fr e
  refine v_vret (i := 51) rfl rfl ?_
  obtain ⟨rfl, rfl⟩ := ky_leaf e
  exact hr _ hmh1 frh1

def x10_markLeading_L2 (N : Nat)  (a : Nat) (k : sk_S → Int32 → Int32 → Int32 → Option (sk_S × Int32)) : Nat → sk_S → Int32 → Int32 → Int32 → Option (sk_S × Int32)
  | 0, _, _, _, _ => none
  | n + 1, c, p1, p2, p3 => (if (1200 : Int32) ≤ p3 then (k c p1 p2 p3) else (if (po_isOut p3) = 0 then (if ky_inB p3 1200 = true then (ky_let (sk_wc c (a + 6) (Int32.toNatClampNeg p3) 0) (fun q5 => (ky_let (p3 + 1) (fun x6 => (x10_markLeading_L2 N a k n q5 p1 p2 x6))))) else none) else (if ky_inB p3 1200 = true then (if (sk_c c (a + 2) (Int32.toNatClampNeg p3)) = p2 then (ky_let (sk_wc c (a + 6) (Int32.toNatClampNeg p3) 1) (fun q13 => (ky_let (p3 + 1) (fun x14 => (x10_markLeading_L2 N a k n q13 p1 p2 x14))))) else (ky_let (sk_wc c (a + 6) (Int32.toNatClampNeg p3) 0) (fun q10 => (ky_let (p3 + 1) (fun x11 => (x10_markLeading_L2 N a k n q10 p1 p2 x11)))))) else none)))
set_option maxRecDepth 20000 in
set_option maxHeartbeats 4000000 in
theorem lv_X10_markLeading_2 {G : ky_GW} {d : Nat} {s s9 : sk_S} {h0 : ky_HP} {Q : ky_RS → ky_HP → Prop} {r9 : Int32} (N : Nat) (hG : ky_OK G)  (a : Nat)   (za : lay_X10 (sk_K s) (sk_r s) a = true) (hm : sk_hp G s h0) (k : sk_S → Int32 → Int32 → Int32 → Option (sk_S × Int32)) (hr : ∀ h1, sk_hp G s9 h1 → sk_fr none s h0 s9 h1 → Q (.inl none) h1)
    (hk : ∀ (h : ky_HP) (c : sk_S) (p1 : Int32) (p2 : Int32) (p3 : Int32), sk_hp G c h → sk_fr none s h0 c h → k c p1 p2 p3 = some (s9, r9) → ky_V G (d + 5) M_X10_markLeading 43 [(0, .ref a), (1, .int p1), (2, .int p2), (3, .int p3)] [] h Q) :
    ∀ (n : Nat) (h : ky_HP) (c : sk_S) (p1 : Int32) (p2 : Int32) (p3 : Int32), sk_hp G c h → sk_fr none s h0 c h → x10_markLeading_L2 N a k n c p1 p2 p3 = some (s9, r9) → ky_V G (d + 5) M_X10_markLeading 2 [(0, .ref a), (1, .int p1), (2, .int p2), (3, .int p3)] [] h Q := by
  intro n
  induction n with
  | zero => intro h c p1 p2 p3 hm1 fr e; cases e
  | succ n ih =>
    intro h c p1 p2 p3 hm1 fr e
    rw [x10_markLeading_L2] at e
    refine v_iload_n (i := 2) (j := 3) rfl rfl (?_ : ky_V _ _ _ 3 _ _ _ _)
    refine v_sipush (v := 1200) (i := 3) rfl (by decide) (?_ : ky_V _ _ _ 6 _ _ _ _)
    refine v_icmp_ge (tgt := 43) (i := 4) rfl (by decide) (fun c1 => ?_) (fun c1 => ?_)
    · replace e := ky_ifT c1 e
      exact hk h c p1 p2 p3 hm1 fr e
    · replace e := ky_ifF c1 e
      refine v_aload_n (i := 5) (j := 0) rfl rfl (?_ : ky_V _ _ _ 10 _ _ _ _)
      refine gf_X10_29 rfl (i := 6) rfl (oc_X10 hm1 (ly_X10_c (lt_X10 fr za))) (sk_rf (ly_X10_r5 (lt_X10 fr za))) (?_ : ky_V _ _ _ 13 _ (.ref (a + 6) :: _) _ _)
      refine v_iload_n (i := 7) (j := 3) rfl rfl (?_ : ky_V _ _ _ 14 _ _ _ _)
      refine v_iload_n (i := 8) (j := 3) rfl rfl (?_ : ky_V _ _ _ 15 _ _ _ _)
      refine cl_X10_73 (As := [.int p3]) rfl (i := 9) rfl rfl rfl (Nat.le_of_ble_eq_true rfl) (k_X5_isOut p3 ⟨_, rfl, (?_ : ky_V _ _ _ 18 _ [.int ((po_isOut p3)), .int p3, .ref ((a + 6))] _ _)⟩)
      refine v_if_eq (tgt := 35) (i := 10) rfl (by decide) (fun c2 => ?_) (fun c2 => ?_)
      · replace e := ky_ifT c2 e
        refine v_iconst (v := 0) (i := 19) rfl (by decide) (?_ : ky_V _ _ _ 36 _ _ _ _)
        obtain ⟨z3, e⟩ := ky_chkE e
        refine v_zast (i := 20) rfl (oa_22 hm1 (ly_X10_k5 (lt_X10 fr za))) (ky_inb z3) (by decide) ?_
        refine sk_stc (kd := 21) hm1 fr (ly_X10_k5 (lt_X10 fr za)) (Int32.toNatClampNeg p3) 0 (fun h4 hmh4 frh4 => ?_)
        obtain ⟨q5, eq5⟩ : ∃ z, z = (sk_wc c (a + 6) (Int32.toNatClampNeg p3) 0) := ⟨_, rfl⟩
        rw [← eq5] at hmh4 frh4
        replace e := ky_letE eq5 e
        refine (?_ : ky_V _ _ _ 37 _ _ _ _)
        obtain ⟨x6, ex6⟩ : ∃ z : Int32, z = p3 + 1 := ⟨_, rfl⟩
        replace e := ky_letE ex6 e
        refine v_iinc (v := x6) (j := 3) (L' := [(0, .ref a), (1, .int p1), (2, .int p2), (3, .int x6)]) [1, 2, 3, 0] (i := 21) rfl rfl (by rw [ex6]; rfl) (Nat.le_of_ble_eq_true rfl) rfl (?_ : ky_V _ _ _ 40 _ _ _ _)
        refine v_goto (tgt := 2) (i := 22) rfl (by decide) (?_ : ky_V _ _ _ 2 _ _ _ _)
        exact ih h4 q5 p1 p2 x6 hmh4 frh4 e
      · replace e := ky_ifF c2 e
        refine v_aload_n (i := 11) (j := 0) rfl rfl (?_ : ky_V _ _ _ 22 _ _ _ _)
        refine gf_X10_17 rfl (i := 12) rfl (oc_X10 hm1 (ly_X10_c (lt_X10 fr za))) (sk_rf (ly_X10_r1 (lt_X10 fr za))) (?_ : ky_V _ _ _ 25 _ (.ref (a + 2) :: _) _ _)
        refine v_iload_n (i := 13) (j := 3) rfl rfl (?_ : ky_V _ _ _ 26 _ _ _ _)
        obtain ⟨z7, e⟩ := ky_chkE e
        refine v_iald (i := 14) rfl (oa_21 hm1 (ly_X10_k1 (lt_X10 fr za))) (ky_inb z7) (?_ : ky_V _ _ _ 27 _ (.int (sk_c c (a + 2) (Int32.toNatClampNeg p3)) :: _) _ _)
        refine v_iload_n (i := 15) (j := 2) rfl rfl (?_ : ky_V _ _ _ 28 _ _ _ _)
        refine v_icmp_ne (tgt := 35) (i := 16) rfl (by decide) (fun c8 => ?_) (fun c8 => ?_)
        · replace e := ky_ifF c8 e
          refine v_iconst (v := 0) (i := 19) rfl (by decide) (?_ : ky_V _ _ _ 36 _ _ _ _)
          refine v_zast (i := 20) rfl (oa_22 hm1 (ly_X10_k5 (lt_X10 fr za))) (ky_inb z7) (by decide) ?_
          refine sk_stc (kd := 21) hm1 fr (ly_X10_k5 (lt_X10 fr za)) (Int32.toNatClampNeg p3) 0 (fun h9 hmh9 frh9 => ?_)
          obtain ⟨q10, eq10⟩ : ∃ z, z = (sk_wc c (a + 6) (Int32.toNatClampNeg p3) 0) := ⟨_, rfl⟩
          rw [← eq10] at hmh9 frh9
          replace e := ky_letE eq10 e
          refine (?_ : ky_V _ _ _ 37 _ _ _ _)
          obtain ⟨x11, ex11⟩ : ∃ z : Int32, z = p3 + 1 := ⟨_, rfl⟩
          replace e := ky_letE ex11 e
          refine v_iinc (v := x11) (j := 3) (L' := [(0, .ref a), (1, .int p1), (2, .int p2), (3, .int x11)]) [1, 2, 3, 0] (i := 21) rfl rfl (by rw [ex11]; rfl) (Nat.le_of_ble_eq_true rfl) rfl (?_ : ky_V _ _ _ 40 _ _ _ _)
          refine v_goto (tgt := 2) (i := 22) rfl (by decide) (?_ : ky_V _ _ _ 2 _ _ _ _)
          exact ih h9 q10 p1 p2 x11 hmh9 frh9 e
        · replace e := ky_ifT c8 e
          refine v_iconst (v := 1) (i := 17) rfl (by decide) (?_ : ky_V _ _ _ 32 _ _ _ _)
          refine v_goto (tgt := 36) (i := 18) rfl (by decide) (?_ : ky_V _ _ _ 36 _ _ _ _)
          refine v_zast (i := 20) rfl (oa_22 hm1 (ly_X10_k5 (lt_X10 fr za))) (ky_inb z7) (by decide) ?_
          refine sk_stc (kd := 21) hm1 fr (ly_X10_k5 (lt_X10 fr za)) (Int32.toNatClampNeg p3) 1 (fun h12 hmh12 frh12 => ?_)
          obtain ⟨q13, eq13⟩ : ∃ z, z = (sk_wc c (a + 6) (Int32.toNatClampNeg p3) 1) := ⟨_, rfl⟩
          rw [← eq13] at hmh12 frh12
          replace e := ky_letE eq13 e
          refine (?_ : ky_V _ _ _ 37 _ _ _ _)
          obtain ⟨x14, ex14⟩ : ∃ z : Int32, z = p3 + 1 := ⟨_, rfl⟩
          replace e := ky_letE ex14 e
          refine v_iinc (v := x14) (j := 3) (L' := [(0, .ref a), (1, .int p1), (2, .int p2), (3, .int x14)]) [1, 2, 3, 0] (i := 21) rfl rfl (by rw [ex14]; rfl) (Nat.le_of_ble_eq_true rfl) rfl (?_ : ky_V _ _ _ 40 _ _ _ _)
          refine v_goto (tgt := 2) (i := 22) rfl (by decide) (?_ : ky_V _ _ _ 2 _ _ _ _)
          exact ih h12 q13 p1 p2 x14 hmh12 frh12 e

def x10_markLeading_L50 (N : Nat)  (a : Nat) (k : sk_S → Int32 → Int32 → Int32 → Option (sk_S × Int32)) : Nat → sk_S → Int32 → Int32 → Int32 → Option (sk_S × Int32)
  | 0, _, _, _, _ => none
  | n + 1, c, p1, p2, p3 => (if p3 < 0 then (k c p1 p2 p3) else (if ky_inB p3 1200 = true then ((x10_leadingStep N c a (sk_c c (a + 5) (Int32.toNatClampNeg p3)) p1).bind (fun zz => (fun q4 x5 => (if x5 = (-1 : Int32) then (if ky_inB (sk_c c (a + 5) (Int32.toNatClampNeg p3)) 1200 = true then (ky_let (sk_wc q4 (a + 6) (Int32.toNatClampNeg (sk_c c (a + 5) (Int32.toNatClampNeg p3))) 0) (fun q10 => (ky_let (p3 + (-1)) (fun x11 => (x10_markLeading_L50 N a k n q10 p1 p2 x11))))) else none) else (if ky_inB (sk_c c (a + 5) (Int32.toNatClampNeg p3)) 1200 = true then (ky_let (sk_wc q4 (a + 6) (Int32.toNatClampNeg (sk_c c (a + 5) (Int32.toNatClampNeg p3))) 1) (fun q14 => (ky_let (p3 + (-1)) (fun x15 => (x10_markLeading_L50 N a k n q14 p1 p2 x15))))) else none))) zz.1 zz.2)) else none))
set_option maxRecDepth 20000 in
set_option maxHeartbeats 4000000 in
theorem lv_X10_markLeading_50 {G : ky_GW} {d : Nat} {s s9 : sk_S} {h0 : ky_HP} {Q : ky_RS → ky_HP → Prop} {r9 : Int32} (N : Nat) (hG : ky_OK G)  (a : Nat)   (za : lay_X10 (sk_K s) (sk_r s) a = true) (hm : sk_hp G s h0) (k : sk_S → Int32 → Int32 → Int32 → Option (sk_S × Int32)) (hr : ∀ h1, sk_hp G s9 h1 → sk_fr none s h0 s9 h1 → Q (.inl none) h1)
    (hk : ∀ (h : ky_HP) (c : sk_S) (p1 : Int32) (p2 : Int32) (p3 : Int32), sk_hp G c h → sk_fr none s h0 c h → k c p1 p2 p3 = some (s9, r9) → ky_V G (d + 5) M_X10_markLeading 91 [(0, .ref a), (1, .int p1), (2, .int p2), (3, .int p3)] [] h Q) :
    ∀ (n : Nat) (h : ky_HP) (c : sk_S) (p1 : Int32) (p2 : Int32) (p3 : Int32), sk_hp G c h → sk_fr none s h0 c h → x10_markLeading_L50 N a k n c p1 p2 p3 = some (s9, r9) → ky_V G (d + 5) M_X10_markLeading 50 [(0, .ref a), (1, .int p1), (2, .int p2), (3, .int p3)] [] h Q := by
  intro n
  induction n with
  | zero => intro h c p1 p2 p3 hm1 fr e; cases e
  | succ n ih =>
    intro h c p1 p2 p3 hm1 fr e
    rw [x10_markLeading_L50] at e
    refine v_iload_n (i := 28) (j := 3) rfl rfl (?_ : ky_V _ _ _ 51 _ _ _ _)
    refine v_if_lt (tgt := 91) (i := 29) rfl (by decide) (fun c1 => ?_) (fun c1 => ?_)
    · replace e := ky_ifT c1 e
      exact hk h c p1 p2 p3 hm1 fr e
    · replace e := ky_ifF c1 e
      refine v_aload_n (i := 30) (j := 0) rfl rfl (?_ : ky_V _ _ _ 55 _ _ _ _)
      refine gf_X10_29 rfl (i := 31) rfl (oc_X10 hm1 (ly_X10_c (lt_X10 fr za))) (sk_rf (ly_X10_r5 (lt_X10 fr za))) (?_ : ky_V _ _ _ 58 _ (.ref (a + 6) :: _) _ _)
      refine v_aload_n (i := 32) (j := 0) rfl rfl (?_ : ky_V _ _ _ 59 _ _ _ _)
      refine gf_X10_26 rfl (i := 33) rfl (oc_X10 hm1 (ly_X10_c (lt_X10 fr za))) (sk_rf (ly_X10_r4 (lt_X10 fr za))) (?_ : ky_V _ _ _ 62 _ (.ref (a + 5) :: _) _ _)
      refine v_iload_n (i := 34) (j := 3) rfl rfl (?_ : ky_V _ _ _ 63 _ _ _ _)
      obtain ⟨z2, e⟩ := ky_chkE e
      refine v_iald (i := 35) rfl (oa_21 hm1 (ly_X10_k4 (lt_X10 fr za))) (ky_inb z2) (?_ : ky_V _ _ _ 64 _ (.int (sk_c c (a + 5) (Int32.toNatClampNeg p3)) :: _) _ _)
      refine v_aload_n (i := 36) (j := 0) rfl rfl (?_ : ky_V _ _ _ 65 _ _ _ _)
      refine v_aload_n (i := 37) (j := 0) rfl rfl (?_ : ky_V _ _ _ 66 _ _ _ _)
      refine gf_X10_26 rfl (i := 38) rfl (oc_X10 hm1 (ly_X10_c (lt_X10 fr za))) (sk_rf (ly_X10_r4 (lt_X10 fr za))) (?_ : ky_V _ _ _ 69 _ (.ref (a + 5) :: _) _ _)
      refine v_iload_n (i := 39) (j := 3) rfl rfl (?_ : ky_V _ _ _ 70 _ _ _ _)
      refine v_iald (i := 40) rfl (oa_21 hm1 (ly_X10_k4 (lt_X10 fr za))) (ky_inb z2) (?_ : ky_V _ _ _ 71 _ (.int (sk_c c (a + 5) (Int32.toNatClampNeg p3)) :: _) _ _)
      refine v_iload_n (i := 41) (j := 1) rfl rfl (?_ : ky_V _ _ _ 72 _ _ _ _)
      obtain ⟨⟨q4, x5⟩, g6, e⟩ := Option.bind_eq_some_iff.mp e
      refine cl_X10_121 (As := [.int ((sk_c c (a + 5) (Int32.toNatClampNeg p3))), .int p1]) rfl (i := 42) rfl (oc_X10 hm1 (ly_X10_c (lt_X10 fr za))) rfl rfl (Nat.le_of_ble_eq_true rfl) (k_X10_leadingStep N hG hm1 g6 (fun h3 hmh3 frh3 => ⟨_, rfl, (?_ : ky_V _ _ _ 75 _ [.int x5, .int ((sk_c c (a + 5) (Int32.toNatClampNeg p3))), .ref ((a + 6))] _ _)⟩))
      have frh3 := fr.tr frh3
      refine v_iconst (v := (-1)) (i := 43) rfl (by decide) (?_ : ky_V _ _ _ 76 _ _ _ _)
      refine v_icmp_eq (tgt := 83) (i := 44) rfl (by decide) (fun c7 => ?_) (fun c7 => ?_)
      · replace e := ky_ifT c7 e
        refine v_iconst (v := 0) (i := 47) rfl (by decide) (?_ : ky_V _ _ _ 84 _ _ _ _)
        obtain ⟨z8, e⟩ := ky_chkE e
        refine v_zast (i := 48) rfl (oa_22 hmh3 (ly_X10_k5 (lt_X10 frh3 za))) (ky_inb z8) (by decide) ?_
        refine sk_stc (kd := 21) hmh3 frh3 (ly_X10_k5 (lt_X10 frh3 za)) (Int32.toNatClampNeg (sk_c c (a + 5) (Int32.toNatClampNeg p3))) 0 (fun h9 hmh9 frh9 => ?_)
        obtain ⟨q10, eq10⟩ : ∃ z, z = (sk_wc q4 (a + 6) (Int32.toNatClampNeg (sk_c c (a + 5) (Int32.toNatClampNeg p3))) 0) := ⟨_, rfl⟩
        rw [← eq10] at hmh9 frh9
        replace e := ky_letE eq10 e
        refine (?_ : ky_V _ _ _ 85 _ _ _ _)
        obtain ⟨x11, ex11⟩ : ∃ z : Int32, z = p3 + (-1) := ⟨_, rfl⟩
        replace e := ky_letE ex11 e
        refine v_iinc (v := x11) (j := 3) (L' := [(0, .ref a), (1, .int p1), (2, .int p2), (3, .int x11)]) [1, 2, 3, 0] (i := 49) rfl rfl (by rw [ex11]; rfl) (Nat.le_of_ble_eq_true rfl) rfl (?_ : ky_V _ _ _ 88 _ _ _ _)
        refine v_goto (tgt := 50) (i := 50) rfl (by decide) (?_ : ky_V _ _ _ 50 _ _ _ _)
        exact ih h9 q10 p1 p2 x11 hmh9 frh9 e
      · replace e := ky_ifF c7 e
        refine v_iconst (v := 1) (i := 45) rfl (by decide) (?_ : ky_V _ _ _ 80 _ _ _ _)
        refine v_goto (tgt := 84) (i := 46) rfl (by decide) (?_ : ky_V _ _ _ 84 _ _ _ _)
        obtain ⟨z12, e⟩ := ky_chkE e
        refine v_zast (i := 48) rfl (oa_22 hmh3 (ly_X10_k5 (lt_X10 frh3 za))) (ky_inb z12) (by decide) ?_
        refine sk_stc (kd := 21) hmh3 frh3 (ly_X10_k5 (lt_X10 frh3 za)) (Int32.toNatClampNeg (sk_c c (a + 5) (Int32.toNatClampNeg p3))) 1 (fun h13 hmh13 frh13 => ?_)
        obtain ⟨q14, eq14⟩ : ∃ z, z = (sk_wc q4 (a + 6) (Int32.toNatClampNeg (sk_c c (a + 5) (Int32.toNatClampNeg p3))) 1) := ⟨_, rfl⟩
        rw [← eq14] at hmh13 frh13
        replace e := ky_letE eq14 e
        refine (?_ : ky_V _ _ _ 85 _ _ _ _)
        obtain ⟨x15, ex15⟩ : ∃ z : Int32, z = p3 + (-1) := ⟨_, rfl⟩
        replace e := ky_letE ex15 e
        refine v_iinc (v := x15) (j := 3) (L' := [(0, .ref a), (1, .int p1), (2, .int p2), (3, .int x15)]) [1, 2, 3, 0] (i := 49) rfl rfl (by rw [ex15]; rfl) (Nat.le_of_ble_eq_true rfl) rfl (?_ : ky_V _ _ _ 88 _ _ _ _)
        refine v_goto (tgt := 50) (i := 50) rfl (by decide) (?_ : ky_V _ _ _ 50 _ _ _ _)
        exact ih h13 q14 p1 p2 x15 hmh13 frh13 e

def x10_markLeading (N : Nat)  (s : sk_S) (a : Nat) (p1 : Int32) (p2 : Int32) : Option (sk_S × Int32) := (if lay_X10 (sk_K s) (sk_r s) a = true then (x10_markLeading_L2 N a (fun q2 x3 x4 x5 => (ky_let ((sk_c q2 a 7) - 1) (fun x6 => (x10_markLeading_L50 N a (fun q8 x9 x10 x11 => (some (q8, 0))) N q2 x3 x4 x6)))) N s p1 p2 0) else none)
set_option maxRecDepth 20000 in
set_option maxHeartbeats 4000000 in
theorem k_X10_markLeading {G : ky_GW} {d : Nat} {h : ky_HP} {Q : ky_RS → ky_HP → Prop} {s s9 : sk_S} {r9 : Int32} {a : Nat} {p1 : Int32} {p2 : Int32} (N : Nat) (hG : ky_OK G)   (hm : sk_hp G s h)  (e : x10_markLeading N  s a p1 p2 = some (s9, r9)) (hr : ∀ h1, sk_hp G s9 h1 → sk_fr none s h s9 h1 → Q (.inl none) h1) : ky_Call G (d + 5) M_X10_markLeading [.ref a, .int p1, .int p2] h Q := by
  refine ky_ofV (by decide +kernel) rfl ok_X10_markLeading (Nat.le_of_ble_eq_true rfl) ?_
  have fr : sk_fr none s h s h := sk_fr.rf
  unfold x10_markLeading at e
  refine (?_ : ky_V _ _ _ 0 [(0, .ref a), (1, .int p1), (2, .int p2)] [] _ _)
  obtain ⟨za, e⟩ := ky_chkE e
  refine v_iconst (v := 0) (i := 0) rfl (by decide) (?_ : ky_V _ _ _ 1 _ _ _ _)
  refine v_istore_n (L' := [(0, .ref a), (1, .int p1), (2, .int p2), (3, .int 0)]) [1, 2, 3, 0] (i := 1) rfl (Nat.le_of_ble_eq_true rfl) rfl (?_ : ky_V _ _ _ 2 _ _ _ _)
  refine lv_X10_markLeading_2 N hG a za hm _ hr (fun h1 q2 x3 x4 x5 hmh1 frh1 e => ?_) N h s p1 p2 0 hm fr e
  refine v_aload_n (i := 23) (j := 0) rfl rfl (?_ : ky_V _ _ _ 44 _ _ _ _)
  refine gf_X10_79 rfl (i := 24) rfl (oc_X10 hmh1 (ly_X10_c (lt_X10 frh1 za))) rfl (?_ : ky_V _ _ _ 47 _ _ _ _)
  refine v_iconst (v := 1) (i := 25) rfl (by decide) (?_ : ky_V _ _ _ 48 _ _ _ _)
  refine v_isub (i := 26) rfl (?_ : ky_V _ _ _ 49 _ _ _ _)
  refine v_topi (fun x6 ex6 => ?_)
  replace e := ky_letE ex6 e
  refine v_istore_n (L' := [(0, .ref a), (1, .int x3), (2, .int x4), (3, .int x6)]) [1, 2, 3, 0] (i := 27) rfl (Nat.le_of_ble_eq_true rfl) rfl (?_ : ky_V _ _ _ 50 _ _ _ _)
  refine lv_X10_markLeading_50 N hG a za hm _ hr (fun h7 q8 x9 x10 x11 hmh7 frh7 e => ?_) N h1 q2 x3 x4 x6 hmh1 frh1 e
  refine v_vret (i := 51) rfl rfl ?_
  obtain ⟨rfl, rfl⟩ := ky_leaf e
  exact hr _ hmh7 frh7

def x10_search_L32 (N : Nat)  (a : Nat) (k : sk_S → Int32 → Int32 → Int32 → Int32 → Int32 → Int32 → Option (sk_S × Int32)) : Nat → sk_S → Int32 → Int32 → Int32 → Int32 → Int32 → Int32 → Option (sk_S × Int32)
  | 0, _, _, _, _, _, _, _ => none
  | n + 1, c, p1, p2, p3, p4, p5, p6 => (if (1200 : Int32) ≤ p6 then (k c p1 p2 p3 p4 p5 p6) else (if ky_inB p5 31 = true then (if (sk_c c (a + 7) (Int32.toNatClampNeg p5)) = (-1 : Int32) then (k c p1 p2 p3 p4 p5 p6) else (ky_let (sk_c c (a + 7) (Int32.toNatClampNeg p5)) (fun x4 => (if p3 = 0 then ((x10_leaveSlot N c a x4).bind (fun zz => (fun q7 x8 => (if ky_inB (sk_c q7 a 7) 1200 = true then (ky_let (sk_wc q7 (a + 5) (Int32.toNatClampNeg (sk_c q7 a 7)) x4) (fun q12 => (ky_let ((sk_c q12 a 7) + 1) (fun x13 => (ky_let (sk_wc q12 a 7 x13) (fun q15 => (if (po_isOut x4) = 0 then ((x10_lookOn N q15 a x4 p2).bind (fun zz => (fun q19 x20 => (ky_let (p6 + 1) (fun x22 => (x10_search_L32 N a k n q19 p1 p2 p3 p4 p5 x22)))) zz.1 zz.2)) else (ky_let (p6 + 1) (fun x17 => (x10_search_L32 N a k n q15 p1 p2 p3 p4 p5 x17)))))))))) else none)) zz.1 zz.2)) else (if (po_isOut x4) = 0 then ((x10_leaveSlot N c a x4).bind (fun zz => (fun q25 x26 => (if ky_inB (sk_c q25 a 7) 1200 = true then (ky_let (sk_wc q25 (a + 5) (Int32.toNatClampNeg (sk_c q25 a 7)) x4) (fun q30 => (ky_let ((sk_c q30 a 7) + 1) (fun x31 => (ky_let (sk_wc q30 a 7 x31) (fun q33 => (if (po_isOut x4) = 0 then ((x10_lookOn N q33 a x4 p2).bind (fun zz => (fun q37 x38 => (ky_let (p6 + 1) (fun x40 => (x10_search_L32 N a k n q37 p1 p2 p3 p4 p5 x40)))) zz.1 zz.2)) else (ky_let (p6 + 1) (fun x35 => (x10_search_L32 N a k n q33 p1 p2 p3 p4 p5 x35)))))))))) else none)) zz.1 zz.2)) else (some (c, p4))))))) else none))
set_option maxRecDepth 20000 in
set_option maxHeartbeats 4000000 in
theorem lv_X10_search_32 {G : ky_GW} {d : Nat} {s s9 : sk_S} {h0 : ky_HP} {Q : ky_RS → ky_HP → Prop} {r9 : Int32} (N : Nat) (hG : ky_OK G)  (a : Nat)   (za : lay_X10 (sk_K s) (sk_r s) a = true) (hm : sk_hp G s h0) (k : sk_S → Int32 → Int32 → Int32 → Int32 → Int32 → Int32 → Option (sk_S × Int32)) (hr : ∀ h1, sk_hp G s9 h1 → sk_fr none s h0 s9 h1 → Q (.inl (some (.int r9))) h1)
    (hk : ∀ (h : ky_HP) (c : sk_S) (p1 : Int32) (p2 : Int32) (p3 : Int32) (p4 : Int32) (p5 : Int32) (p6 : Int32), sk_hp G c h → sk_fr none s h0 c h → k c p1 p2 p3 p4 p5 p6 = some (s9, r9) → ky_V G (d + 5) M_X10_search 123 [(0, .ref a), (1, .int p1), (2, .int p2), (3, .int p3), (4, .int p4), (5, .int p5), (6, .int p6)] [] h Q) :
    ∀ (n : Nat) (h : ky_HP) (c : sk_S) (p1 : Int32) (p2 : Int32) (p3 : Int32) (p4 : Int32) (p5 : Int32) (p6 : Int32), sk_hp G c h → sk_fr none s h0 c h → x10_search_L32 N a k n c p1 p2 p3 p4 p5 p6 = some (s9, r9) → ky_V G (d + 5) M_X10_search 32 [(0, .ref a), (1, .int p1), (2, .int p2), (3, .int p3), (4, .int p4), (5, .int p5), (6, .int p6)] [] h Q := by
  intro n
  induction n with
  | zero => intro h c p1 p2 p3 p4 p5 p6 hm1 fr e; cases e
  | succ n ih =>
    intro h c p1 p2 p3 p4 p5 p6 hm1 fr e
    rw [x10_search_L32] at e
    refine v_iload (i := 17) (j := 6) rfl rfl (?_ : ky_V _ _ _ 34 _ _ _ _)
    refine v_sipush (v := 1200) (i := 18) rfl (by decide) (?_ : ky_V _ _ _ 37 _ _ _ _)
    refine v_icmp_ge (tgt := 123) (i := 19) rfl (by decide) (fun c1 => ?_) (fun c1 => ?_)
    · replace e := ky_ifT c1 e
      exact hk h c p1 p2 p3 p4 p5 p6 hm1 fr e
    · replace e := ky_ifF c1 e
      refine v_aload_n (i := 20) (j := 0) rfl rfl (?_ : ky_V _ _ _ 41 _ _ _ _)
      refine gf_X10_33 rfl (i := 21) rfl (oc_X10 hm1 (ly_X10_c (lt_X10 fr za))) (sk_rf (ly_X10_r6 (lt_X10 fr za))) (?_ : ky_V _ _ _ 44 _ (.ref (a + 7) :: _) _ _)
      refine v_iload (i := 22) (j := 5) rfl rfl (?_ : ky_V _ _ _ 46 _ _ _ _)
      obtain ⟨z2, e⟩ := ky_chkE e
      refine v_iald (i := 23) rfl (oa_21 hm1 (ly_X10_k6 (lt_X10 fr za))) (ky_inb z2) (?_ : ky_V _ _ _ 47 _ (.int (sk_c c (a + 7) (Int32.toNatClampNeg p5)) :: _) _ _)
      refine v_iconst (v := (-1)) (i := 24) rfl (by decide) (?_ : ky_V _ _ _ 48 _ _ _ _)
      refine v_icmp_eq (tgt := 123) (i := 25) rfl (by decide) (fun c3 => ?_) (fun c3 => ?_)
      · replace e := ky_ifT c3 e
        exact hk h c p1 p2 p3 p4 p5 p6 hm1 fr e
      · replace e := ky_ifF c3 e
        refine v_aload_n (i := 26) (j := 0) rfl rfl (?_ : ky_V _ _ _ 52 _ _ _ _)
        refine gf_X10_33 rfl (i := 27) rfl (oc_X10 hm1 (ly_X10_c (lt_X10 fr za))) (sk_rf (ly_X10_r6 (lt_X10 fr za))) (?_ : ky_V _ _ _ 55 _ (.ref (a + 7) :: _) _ _)
        refine v_iload (i := 28) (j := 5) rfl rfl (?_ : ky_V _ _ _ 57 _ _ _ _)
        refine v_iald (i := 29) rfl (oa_21 hm1 (ly_X10_k6 (lt_X10 fr za))) (ky_inb z2) (?_ : ky_V _ _ _ 58 _ (.int (sk_c c (a + 7) (Int32.toNatClampNeg p5)) :: _) _ _)
        refine v_topi (fun x4 ex4 => ?_)
        replace e := ky_letE ex4 e
        refine v_istore (L' := [(0, .ref a), (1, .int p1), (2, .int p2), (3, .int p3), (4, .int p4), (5, .int p5), (6, .int p6), (7, .int x4)]) [1, 2, 3, 4, 5, 6, 7, 0] (i := 30) rfl (Nat.le_of_ble_eq_true rfl) rfl (?_ : ky_V _ _ _ 60 _ _ _ _)
        refine v_iload_n (i := 31) (j := 3) rfl rfl (?_ : ky_V _ _ _ 61 _ _ _ _)
        refine v_if_eq (tgt := 75) (i := 32) rfl (by decide) (fun c5 => ?_) (fun c5 => ?_)
        · replace e := ky_ifT c5 e
          refine v_aload_n (i := 38) (j := 0) rfl rfl (?_ : ky_V _ _ _ 76 _ _ _ _)
          refine v_iload (i := 39) (j := 7) rfl rfl (?_ : ky_V _ _ _ 78 _ _ _ _)
          obtain ⟨⟨q7, x8⟩, g9, e⟩ := Option.bind_eq_some_iff.mp e
          refine cl_X10_76 (As := [.int x4]) rfl (i := 40) rfl (oc_X10 hm1 (ly_X10_c (lt_X10 fr za))) rfl rfl (Nat.le_of_ble_eq_true rfl) (k_X10_leaveSlot N hG hm1 g9 (fun h6 hmh6 frh6 => ⟨_, rfl, (?_ : ky_V _ _ _ 81 _ [] _ _)⟩))
          have frh6 := fr.tr frh6
          refine v_aload_n (i := 41) (j := 0) rfl rfl (?_ : ky_V _ _ _ 82 _ _ _ _)
          refine gf_X10_26 rfl (i := 42) rfl (oc_X10 hmh6 (ly_X10_c (lt_X10 frh6 za))) (sk_rf (ly_X10_r4 (lt_X10 frh6 za))) (?_ : ky_V _ _ _ 85 _ (.ref (a + 5) :: _) _ _)
          refine v_aload_n (i := 43) (j := 0) rfl rfl (?_ : ky_V _ _ _ 86 _ _ _ _)
          refine gf_X10_79 rfl (i := 44) rfl (oc_X10 hmh6 (ly_X10_c (lt_X10 frh6 za))) rfl (?_ : ky_V _ _ _ 89 _ _ _ _)
          refine v_iload (i := 45) (j := 7) rfl rfl (?_ : ky_V _ _ _ 91 _ _ _ _)
          obtain ⟨z10, e⟩ := ky_chkE e
          refine v_iast (i := 46) rfl (oa_21 hmh6 (ly_X10_k4 (lt_X10 frh6 za))) (ky_inb z10) ?_
          refine sk_stc (kd := 20) hmh6 frh6 (ly_X10_k4 (lt_X10 frh6 za)) (Int32.toNatClampNeg (sk_c q7 a 7)) x4 (fun h11 hmh11 frh11 => ?_)
          obtain ⟨q12, eq12⟩ : ∃ z, z = (sk_wc q7 (a + 5) (Int32.toNatClampNeg (sk_c q7 a 7)) x4) := ⟨_, rfl⟩
          rw [← eq12] at hmh11 frh11
          replace e := ky_letE eq12 e
          refine (?_ : ky_V _ _ _ 92 _ _ _ _)
          refine v_aload_n (i := 47) (j := 0) rfl rfl (?_ : ky_V _ _ _ 93 _ _ _ _)
          refine v_dup (i := 48) rfl rfl (?_ : ky_V _ _ _ 94 _ _ _ _)
          refine gf_X10_79 rfl (i := 49) rfl (oc_X10 hmh11 (ly_X10_c (lt_X10 frh11 za))) rfl (?_ : ky_V _ _ _ 97 _ _ _ _)
          refine v_iconst (v := 1) (i := 50) rfl (by decide) (?_ : ky_V _ _ _ 98 _ _ _ _)
          refine v_iadd (i := 51) rfl (?_ : ky_V _ _ _ 99 _ _ _ _)
          refine v_topi (fun x13 ex13 => ?_)
          replace e := ky_letE ex13 e
          refine pf_X10_79 rfl (i := 52) rfl (oc_X10 hmh11 (ly_X10_c (lt_X10 frh11 za))) (Nat.le_of_ble_eq_true rfl) rfl rfl ?_
          refine sk_stc (kd := 9) (n := 0) hmh11 frh11 (ly_X10_c (lt_X10 frh11 za)) 7 x13 (fun h14 hmh14 frh14 => ?_)
          obtain ⟨q15, eq15⟩ : ∃ z, z = (sk_wc q12 a 7 x13) := ⟨_, rfl⟩
          rw [← eq15] at hmh14 frh14
          replace e := ky_letE eq15 e
          refine (?_ : ky_V _ _ _ 102 _ _ _ _)
          refine v_iload (i := 53) (j := 7) rfl rfl (?_ : ky_V _ _ _ 104 _ _ _ _)
          refine cl_X10_73 (As := [.int x4]) rfl (i := 54) rfl rfl rfl (Nat.le_of_ble_eq_true rfl) (k_X5_isOut x4 ⟨_, rfl, (?_ : ky_V _ _ _ 107 _ [.int ((po_isOut x4))] _ _)⟩)
          refine v_if_ne (tgt := 117) (i := 55) rfl (by decide) (fun c16 => ?_) (fun c16 => ?_)
          · replace e := ky_ifF c16 e
            obtain ⟨x17, ex17⟩ : ∃ z : Int32, z = p6 + 1 := ⟨_, rfl⟩
            replace e := ky_letE ex17 e
            refine v_iinc (v := x17) (j := 6) (L' := [(0, .ref a), (1, .int p1), (2, .int p2), (3, .int p3), (4, .int p4), (5, .int p5), (6, .int x17), (7, .int x4)]) [1, 2, 3, 4, 5, 6, 0, 7] (i := 60) rfl rfl (by rw [ex17]; rfl) (Nat.le_of_ble_eq_true rfl) rfl (?_ : ky_V _ _ _ 120 _ _ _ _)
            refine v_goto (tgt := 32) (i := 61) rfl (by decide) (?_ : ky_V _ _ _ 32 _ _ _ _)
            refine ky_loc (L' := [(0, .ref a), (1, .int p1), (2, .int p2), (3, .int p3), (4, .int p4), (5, .int p5), (6, .int x17)]) (by simp) ?_
            exact ih h14 q15 p1 p2 p3 p4 p5 x17 hmh14 frh14 e
          · replace e := ky_ifT c16 e
            refine v_aload_n (i := 56) (j := 0) rfl rfl (?_ : ky_V _ _ _ 111 _ _ _ _)
            refine v_iload (i := 57) (j := 7) rfl rfl (?_ : ky_V _ _ _ 113 _ _ _ _)
            refine v_iload_n (i := 58) (j := 2) rfl rfl (?_ : ky_V _ _ _ 114 _ _ _ _)
            obtain ⟨⟨q19, x20⟩, g21, e⟩ := Option.bind_eq_some_iff.mp e
            refine cl_X10_82 (As := [.int x4, .int p2]) rfl (i := 59) rfl (oc_X10 hmh14 (ly_X10_c (lt_X10 frh14 za))) rfl rfl (Nat.le_of_ble_eq_true rfl) (k_X10_lookOn N hG hmh14 g21 (fun h18 hmh18 frh18 => ⟨_, rfl, (?_ : ky_V _ _ _ 117 _ [] _ _)⟩))
            have frh18 := frh14.tr frh18
            obtain ⟨x22, ex22⟩ : ∃ z : Int32, z = p6 + 1 := ⟨_, rfl⟩
            replace e := ky_letE ex22 e
            refine v_iinc (v := x22) (j := 6) (L' := [(0, .ref a), (1, .int p1), (2, .int p2), (3, .int p3), (4, .int p4), (5, .int p5), (6, .int x22), (7, .int x4)]) [1, 2, 3, 4, 5, 6, 0, 7] (i := 60) rfl rfl (by rw [ex22]; rfl) (Nat.le_of_ble_eq_true rfl) rfl (?_ : ky_V _ _ _ 120 _ _ _ _)
            refine v_goto (tgt := 32) (i := 61) rfl (by decide) (?_ : ky_V _ _ _ 32 _ _ _ _)
            refine ky_loc (L' := [(0, .ref a), (1, .int p1), (2, .int p2), (3, .int p3), (4, .int p4), (5, .int p5), (6, .int x22)]) (by simp) ?_
            exact ih h18 q19 p1 p2 p3 p4 p5 x22 hmh18 frh18 e
        · replace e := ky_ifF c5 e
          refine v_iload (i := 33) (j := 7) rfl rfl (?_ : ky_V _ _ _ 66 _ _ _ _)
          refine cl_X10_73 (As := [.int x4]) rfl (i := 34) rfl rfl rfl (Nat.le_of_ble_eq_true rfl) (k_X5_isOut x4 ⟨_, rfl, (?_ : ky_V _ _ _ 69 _ [.int ((po_isOut x4))] _ _)⟩)
          refine v_if_eq (tgt := 75) (i := 35) rfl (by decide) (fun c23 => ?_) (fun c23 => ?_)
          · replace e := ky_ifT c23 e
            refine v_aload_n (i := 38) (j := 0) rfl rfl (?_ : ky_V _ _ _ 76 _ _ _ _)
            refine v_iload (i := 39) (j := 7) rfl rfl (?_ : ky_V _ _ _ 78 _ _ _ _)
            obtain ⟨⟨q25, x26⟩, g27, e⟩ := Option.bind_eq_some_iff.mp e
            refine cl_X10_76 (As := [.int x4]) rfl (i := 40) rfl (oc_X10 hm1 (ly_X10_c (lt_X10 fr za))) rfl rfl (Nat.le_of_ble_eq_true rfl) (k_X10_leaveSlot N hG hm1 g27 (fun h24 hmh24 frh24 => ⟨_, rfl, (?_ : ky_V _ _ _ 81 _ [] _ _)⟩))
            have frh24 := fr.tr frh24
            refine v_aload_n (i := 41) (j := 0) rfl rfl (?_ : ky_V _ _ _ 82 _ _ _ _)
            refine gf_X10_26 rfl (i := 42) rfl (oc_X10 hmh24 (ly_X10_c (lt_X10 frh24 za))) (sk_rf (ly_X10_r4 (lt_X10 frh24 za))) (?_ : ky_V _ _ _ 85 _ (.ref (a + 5) :: _) _ _)
            refine v_aload_n (i := 43) (j := 0) rfl rfl (?_ : ky_V _ _ _ 86 _ _ _ _)
            refine gf_X10_79 rfl (i := 44) rfl (oc_X10 hmh24 (ly_X10_c (lt_X10 frh24 za))) rfl (?_ : ky_V _ _ _ 89 _ _ _ _)
            refine v_iload (i := 45) (j := 7) rfl rfl (?_ : ky_V _ _ _ 91 _ _ _ _)
            obtain ⟨z28, e⟩ := ky_chkE e
            refine v_iast (i := 46) rfl (oa_21 hmh24 (ly_X10_k4 (lt_X10 frh24 za))) (ky_inb z28) ?_
            refine sk_stc (kd := 20) hmh24 frh24 (ly_X10_k4 (lt_X10 frh24 za)) (Int32.toNatClampNeg (sk_c q25 a 7)) x4 (fun h29 hmh29 frh29 => ?_)
            obtain ⟨q30, eq30⟩ : ∃ z, z = (sk_wc q25 (a + 5) (Int32.toNatClampNeg (sk_c q25 a 7)) x4) := ⟨_, rfl⟩
            rw [← eq30] at hmh29 frh29
            replace e := ky_letE eq30 e
            refine (?_ : ky_V _ _ _ 92 _ _ _ _)
            refine v_aload_n (i := 47) (j := 0) rfl rfl (?_ : ky_V _ _ _ 93 _ _ _ _)
            refine v_dup (i := 48) rfl rfl (?_ : ky_V _ _ _ 94 _ _ _ _)
            refine gf_X10_79 rfl (i := 49) rfl (oc_X10 hmh29 (ly_X10_c (lt_X10 frh29 za))) rfl (?_ : ky_V _ _ _ 97 _ _ _ _)
            refine v_iconst (v := 1) (i := 50) rfl (by decide) (?_ : ky_V _ _ _ 98 _ _ _ _)
            refine v_iadd (i := 51) rfl (?_ : ky_V _ _ _ 99 _ _ _ _)
            refine v_topi (fun x31 ex31 => ?_)
            replace e := ky_letE ex31 e
            refine pf_X10_79 rfl (i := 52) rfl (oc_X10 hmh29 (ly_X10_c (lt_X10 frh29 za))) (Nat.le_of_ble_eq_true rfl) rfl rfl ?_
            refine sk_stc (kd := 9) (n := 0) hmh29 frh29 (ly_X10_c (lt_X10 frh29 za)) 7 x31 (fun h32 hmh32 frh32 => ?_)
            obtain ⟨q33, eq33⟩ : ∃ z, z = (sk_wc q30 a 7 x31) := ⟨_, rfl⟩
            rw [← eq33] at hmh32 frh32
            replace e := ky_letE eq33 e
            refine (?_ : ky_V _ _ _ 102 _ _ _ _)
            refine v_iload (i := 53) (j := 7) rfl rfl (?_ : ky_V _ _ _ 104 _ _ _ _)
            refine cl_X10_73 (As := [.int x4]) rfl (i := 54) rfl rfl rfl (Nat.le_of_ble_eq_true rfl) (k_X5_isOut x4 ⟨_, rfl, (?_ : ky_V _ _ _ 107 _ [.int ((po_isOut x4))] _ _)⟩)
            refine v_if_ne (tgt := 117) (i := 55) rfl (by decide) (fun c34 => ?_) (fun c34 => ?_)
            · replace e := ky_ifF c34 e
              obtain ⟨x35, ex35⟩ : ∃ z : Int32, z = p6 + 1 := ⟨_, rfl⟩
              replace e := ky_letE ex35 e
              refine v_iinc (v := x35) (j := 6) (L' := [(0, .ref a), (1, .int p1), (2, .int p2), (3, .int p3), (4, .int p4), (5, .int p5), (6, .int x35), (7, .int x4)]) [1, 2, 3, 4, 5, 6, 0, 7] (i := 60) rfl rfl (by rw [ex35]; rfl) (Nat.le_of_ble_eq_true rfl) rfl (?_ : ky_V _ _ _ 120 _ _ _ _)
              refine v_goto (tgt := 32) (i := 61) rfl (by decide) (?_ : ky_V _ _ _ 32 _ _ _ _)
              refine ky_loc (L' := [(0, .ref a), (1, .int p1), (2, .int p2), (3, .int p3), (4, .int p4), (5, .int p5), (6, .int x35)]) (by simp) ?_
              exact ih h32 q33 p1 p2 p3 p4 p5 x35 hmh32 frh32 e
            · replace e := ky_ifT c34 e
              refine v_aload_n (i := 56) (j := 0) rfl rfl (?_ : ky_V _ _ _ 111 _ _ _ _)
              refine v_iload (i := 57) (j := 7) rfl rfl (?_ : ky_V _ _ _ 113 _ _ _ _)
              refine v_iload_n (i := 58) (j := 2) rfl rfl (?_ : ky_V _ _ _ 114 _ _ _ _)
              obtain ⟨⟨q37, x38⟩, g39, e⟩ := Option.bind_eq_some_iff.mp e
              refine cl_X10_82 (As := [.int x4, .int p2]) rfl (i := 59) rfl (oc_X10 hmh32 (ly_X10_c (lt_X10 frh32 za))) rfl rfl (Nat.le_of_ble_eq_true rfl) (k_X10_lookOn N hG hmh32 g39 (fun h36 hmh36 frh36 => ⟨_, rfl, (?_ : ky_V _ _ _ 117 _ [] _ _)⟩))
              have frh36 := frh32.tr frh36
              obtain ⟨x40, ex40⟩ : ∃ z : Int32, z = p6 + 1 := ⟨_, rfl⟩
              replace e := ky_letE ex40 e
              refine v_iinc (v := x40) (j := 6) (L' := [(0, .ref a), (1, .int p1), (2, .int p2), (3, .int p3), (4, .int p4), (5, .int p5), (6, .int x40), (7, .int x4)]) [1, 2, 3, 4, 5, 6, 0, 7] (i := 60) rfl rfl (by rw [ex40]; rfl) (Nat.le_of_ble_eq_true rfl) rfl (?_ : ky_V _ _ _ 120 _ _ _ _)
              refine v_goto (tgt := 32) (i := 61) rfl (by decide) (?_ : ky_V _ _ _ 32 _ _ _ _)
              refine ky_loc (L' := [(0, .ref a), (1, .int p1), (2, .int p2), (3, .int p3), (4, .int p4), (5, .int p5), (6, .int x40)]) (by simp) ?_
              exact ih h36 q37 p1 p2 p3 p4 p5 x40 hmh36 frh36 e
          · replace e := ky_ifF c23 e
            refine v_iload (i := 36) (j := 4) rfl rfl (?_ : ky_V _ _ _ 74 _ _ _ _)
            refine v_iret (v := p4) (ty := .int) (i := 37) rfl rfl rfl ?_
            obtain ⟨rfl, rfl⟩ := ky_leaf e
            exact hr _ hm1 fr

def x10_search_L8 (N : Nat)  (a : Nat) (k : sk_S → Int32 → Int32 → Int32 → Int32 → Option (sk_S × Int32)) : Nat → sk_S → Int32 → Int32 → Int32 → Int32 → Option (sk_S × Int32)
  | 0, _, _, _, _, _ => none
  | n + 1, c, p1, p2, p3, p4 => (if (36000 : Int32) < p4 then (k c p1 p2 p3 p4) else (if (sk_c c a 8) ≤ 0 then (k c p1 p2 p3 p4) else (ky_let (p4 - p4 / 31 * 31) (fun x3 => (x10_search_L32 N a (fun q5 x6 x7 x8 x9 x10 x11 => (ky_let (x9 + 1) (fun x12 => (x10_search_L8 N a k n q5 x6 x7 x8 x12)))) N c p1 p2 p3 p4 x3 0)))))
set_option maxRecDepth 20000 in
set_option maxHeartbeats 4000000 in
theorem lv_X10_search_8 {G : ky_GW} {d : Nat} {s s9 : sk_S} {h0 : ky_HP} {Q : ky_RS → ky_HP → Prop} {r9 : Int32} (N : Nat) (hG : ky_OK G)  (a : Nat)   (za : lay_X10 (sk_K s) (sk_r s) a = true) (hm : sk_hp G s h0) (k : sk_S → Int32 → Int32 → Int32 → Int32 → Option (sk_S × Int32)) (hr : ∀ h1, sk_hp G s9 h1 → sk_fr none s h0 s9 h1 → Q (.inl (some (.int r9))) h1)
    (hk : ∀ (h : ky_HP) (c : sk_S) (p1 : Int32) (p2 : Int32) (p3 : Int32) (p4 : Int32), sk_hp G c h → sk_fr none s h0 c h → k c p1 p2 p3 p4 = some (s9, r9) → ky_V G (d + 5) M_X10_search 129 [(0, .ref a), (1, .int p1), (2, .int p2), (3, .int p3), (4, .int p4)] [] h Q) :
    ∀ (n : Nat) (h : ky_HP) (c : sk_S) (p1 : Int32) (p2 : Int32) (p3 : Int32) (p4 : Int32), sk_hp G c h → sk_fr none s h0 c h → x10_search_L8 N a k n c p1 p2 p3 p4 = some (s9, r9) → ky_V G (d + 5) M_X10_search 8 [(0, .ref a), (1, .int p1), (2, .int p2), (3, .int p3), (4, .int p4)] [] h Q := by
  intro n
  induction n with
  | zero => intro h c p1 p2 p3 p4 hm1 fr e; cases e
  | succ n ih =>
    intro h c p1 p2 p3 p4 hm1 fr e
    rw [x10_search_L8] at e
    refine v_iload (i := 5) (j := 4) rfl rfl (?_ : ky_V _ _ _ 10 _ _ _ _)
    refine v_ldc (v := 36000) (i := 6) rfl (ky_t2 (i := 176) rfl rfl) (?_ : ky_V _ _ _ 12 _ _ _ _)
    refine v_icmp_gt (tgt := 129) (i := 7) rfl (by decide) (fun c1 => ?_) (fun c1 => ?_)
    · replace e := ky_ifT c1 e
      exact hk h c p1 p2 p3 p4 hm1 fr e
    · replace e := ky_ifF c1 e
      refine v_aload_n (i := 8) (j := 0) rfl rfl (?_ : ky_V _ _ _ 16 _ _ _ _)
      refine gf_X10_70 rfl (i := 9) rfl (oc_X10 hm1 (ly_X10_c (lt_X10 fr za))) rfl (?_ : ky_V _ _ _ 19 _ _ _ _)
      refine v_if_le (tgt := 129) (i := 10) rfl (by decide) (fun c2 => ?_) (fun c2 => ?_)
      · replace e := ky_ifT c2 e
        exact hk h c p1 p2 p3 p4 hm1 fr e
      · replace e := ky_ifF c2 e
        refine v_iload (i := 11) (j := 4) rfl rfl (?_ : ky_V _ _ _ 24 _ _ _ _)
        refine v_bipush (v := 31) (i := 12) rfl (by decide) (?_ : ky_V _ _ _ 26 _ _ _ _)
        refine v_irem (i := 13) rfl (by decide) (?_ : ky_V _ _ _ 27 _ _ _ _)
        refine v_topi (fun x3 ex3 => ?_)
        replace e := ky_letE ex3 e
        refine v_istore (L' := [(0, .ref a), (1, .int p1), (2, .int p2), (3, .int p3), (4, .int p4), (5, .int x3)]) [1, 2, 3, 4, 5, 0] (i := 14) rfl (Nat.le_of_ble_eq_true rfl) rfl (?_ : ky_V _ _ _ 29 _ _ _ _)
        refine v_iconst (v := 0) (i := 15) rfl (by decide) (?_ : ky_V _ _ _ 30 _ _ _ _)
        refine v_istore (L' := [(0, .ref a), (1, .int p1), (2, .int p2), (3, .int p3), (4, .int p4), (5, .int x3), (6, .int 0)]) [1, 2, 3, 4, 5, 6, 0] (i := 16) rfl (Nat.le_of_ble_eq_true rfl) rfl (?_ : ky_V _ _ _ 32 _ _ _ _)
        refine lv_X10_search_32 N hG a za hm _ hr (fun h4 q5 x6 x7 x8 x9 x10 x11 hmh4 frh4 e => ?_) N h c p1 p2 p3 p4 x3 0 hm1 fr e
        obtain ⟨x12, ex12⟩ : ∃ z : Int32, z = x9 + 1 := ⟨_, rfl⟩
        replace e := ky_letE ex12 e
        refine v_iinc (v := x12) (j := 4) (L' := [(0, .ref a), (1, .int x6), (2, .int x7), (3, .int x8), (4, .int x12), (5, .int x10), (6, .int x11)]) [1, 2, 3, 4, 0, 5, 6] (i := 62) rfl rfl (by rw [ex12]; rfl) (Nat.le_of_ble_eq_true rfl) rfl (?_ : ky_V _ _ _ 126 _ _ _ _)
        refine v_goto (tgt := 8) (i := 63) rfl (by decide) (?_ : ky_V _ _ _ 8 _ _ _ _)
        refine ky_loc (L' := [(0, .ref a), (1, .int x6), (2, .int x7), (3, .int x8), (4, .int x12)]) (by simp) ?_
        exact ih h4 q5 x6 x7 x8 x12 hmh4 frh4 e

def x10_search (N : Nat)  (s : sk_S) (a : Nat) (p1 : Int32) (p2 : Int32) (p3 : Int32) : Option (sk_S × Int32) := (if lay_X10 (sk_K s) (sk_r s) a = true then ((x10_begin N s a p1).bind (fun zz => (fun q2 x3 => (x10_search_L8 N a (fun q6 x7 x8 x9 x10 => (some (q6, (-1)))) N q2 p1 p2 p3 0)) zz.1 zz.2)) else none)
set_option maxRecDepth 20000 in
set_option maxHeartbeats 4000000 in
theorem k_X10_search {G : ky_GW} {d : Nat} {h : ky_HP} {Q : ky_RS → ky_HP → Prop} {s s9 : sk_S} {r9 : Int32} {a : Nat} {p1 : Int32} {p2 : Int32} {p3 : Int32} (N : Nat) (hG : ky_OK G)   (hm : sk_hp G s h)  (e : x10_search N  s a p1 p2 p3 = some (s9, r9)) (hr : ∀ h1, sk_hp G s9 h1 → sk_fr none s h s9 h1 → Q (.inl (some (.int r9))) h1) : ky_Call G (d + 5) M_X10_search [.ref a, .int p1, .int p2, .int p3] h Q := by
  refine ky_ofV (by decide +kernel) rfl ok_X10_search (Nat.le_of_ble_eq_true rfl) ?_
  have fr : sk_fr none s h s h := sk_fr.rf
  unfold x10_search at e
  refine (?_ : ky_V _ _ _ 0 [(0, .ref a), (1, .int p1), (2, .int p2), (3, .int p3)] [] _ _)
  obtain ⟨za, e⟩ := ky_chkE e
  refine v_aload_n (i := 0) (j := 0) rfl rfl (?_ : ky_V _ _ _ 1 _ _ _ _)
  refine v_iload_n (i := 1) (j := 1) rfl rfl (?_ : ky_V _ _ _ 2 _ _ _ _)
  obtain ⟨⟨q2, x3⟩, g4, e⟩ := Option.bind_eq_some_iff.mp e
  refine cl_X10_65 (As := [.int p1]) rfl (i := 2) rfl (oc_X10 hm (ly_X10_c za)) rfl rfl (Nat.le_of_ble_eq_true rfl) (k_X10_begin N hG hm g4 (fun h1 hmh1 frh1 => ⟨_, rfl, (?_ : ky_V _ _ _ 5 _ [] _ _)⟩))
  have frh1 := fr.tr frh1
  refine v_iconst (v := 0) (i := 3) rfl (by decide) (?_ : ky_V _ _ _ 6 _ _ _ _)
  refine v_istore (L' := [(0, .ref a), (1, .int p1), (2, .int p2), (3, .int p3), (4, .int 0)]) [1, 2, 3, 4, 0] (i := 4) rfl (Nat.le_of_ble_eq_true rfl) rfl (?_ : ky_V _ _ _ 8 _ _ _ _)
  refine lv_X10_search_8 N hG a za hm _ hr (fun h5 q6 x7 x8 x9 x10 hmh5 frh5 e => ?_) N h1 q2 p1 p2 p3 0 hmh1 frh1 e
  refine v_iconst (v := (-1)) (i := 64) rfl (by decide) (?_ : ky_V _ _ _ 130 _ _ _ _)
  refine v_iret (v := (-1)) (ty := .int) (i := 65) rfl rfl rfl ?_
  obtain ⟨rfl, rfl⟩ := ky_leaf e
  exact hr _ hmh5 frh5

def x10_bestStep_L34 (N : Nat)  (a : Nat) (k : sk_S → Int32 → Int32 → Int32 → Int32 → Int32 → Int32 → Option (sk_S × Int32)) : Nat → sk_S → Int32 → Int32 → Int32 → Int32 → Int32 → Int32 → Option (sk_S × Int32)
  | 0, _, _, _, _, _, _, _ => none
  | n + 1, c, p1, p2, p3, p4, p5, p6 => (if (1200 : Int32) ≤ p6 then (k c p1 p2 p3 p4 p5 p6) else (if (po_isOut p5) = 0 then ((x10_leadingStep N c a p5 p2).bind (fun zz => (fun q4 x5 => (if x5 = (-1 : Int32) then (some (q4, (-1))) else (if p6 = p3 then (some (q4, (wy_numberOf x5))) else ((x10_target N q4 a p5 x5).bind (fun zz => (fun q10 x11 => (ky_let (p6 + 1) (fun x13 => (x10_bestStep_L34 N a k n q10 p1 p2 p3 p4 x11 x13)))) zz.1 zz.2))))) zz.1 zz.2)) else (k c p1 p2 p3 p4 p5 p6)))
set_option maxRecDepth 20000 in
set_option maxHeartbeats 4000000 in
theorem lv_X10_bestStep_34 {G : ky_GW} {d : Nat} {s s9 : sk_S} {h0 : ky_HP} {Q : ky_RS → ky_HP → Prop} {r9 : Int32} (N : Nat) (hG : ky_OK G)  (a : Nat)   (za : lay_X10 (sk_K s) (sk_r s) a = true) (hm : sk_hp G s h0) (k : sk_S → Int32 → Int32 → Int32 → Int32 → Int32 → Int32 → Option (sk_S × Int32)) (hr : ∀ h1, sk_hp G s9 h1 → sk_fr none s h0 s9 h1 → Q (.inl (some (.int r9))) h1)
    (hk : ∀ (h : ky_HP) (c : sk_S) (p1 : Int32) (p2 : Int32) (p3 : Int32) (p4 : Int32) (p5 : Int32) (p6 : Int32), sk_hp G c h → sk_fr none s h0 c h → k c p1 p2 p3 p4 p5 p6 = some (s9, r9) → ky_V G (d + 6) M_X10_bestStep 95 [(0, .ref a), (1, .int p1), (2, .int p2), (3, .int p3), (4, .int p4), (5, .int p5), (6, .int p6)] [] h Q) :
    ∀ (n : Nat) (h : ky_HP) (c : sk_S) (p1 : Int32) (p2 : Int32) (p3 : Int32) (p4 : Int32) (p5 : Int32) (p6 : Int32), sk_hp G c h → sk_fr none s h0 c h → x10_bestStep_L34 N a k n c p1 p2 p3 p4 p5 p6 = some (s9, r9) → ky_V G (d + 6) M_X10_bestStep 34 [(0, .ref a), (1, .int p1), (2, .int p2), (3, .int p3), (4, .int p4), (5, .int p5), (6, .int p6)] [] h Q := by
  intro n
  induction n with
  | zero => intro h c p1 p2 p3 p4 p5 p6 hm1 fr e; cases e
  | succ n ih =>
    intro h c p1 p2 p3 p4 p5 p6 hm1 fr e
    rw [x10_bestStep_L34] at e
    refine v_iload (i := 21) (j := 6) rfl rfl (?_ : ky_V _ _ _ 36 _ _ _ _)
    refine v_sipush (v := 1200) (i := 22) rfl (by decide) (?_ : ky_V _ _ _ 39 _ _ _ _)
    refine v_icmp_ge (tgt := 95) (i := 23) rfl (by decide) (fun c1 => ?_) (fun c1 => ?_)
    · replace e := ky_ifT c1 e
      exact hk h c p1 p2 p3 p4 p5 p6 hm1 fr e
    · replace e := ky_ifF c1 e
      refine v_iload (i := 24) (j := 5) rfl rfl (?_ : ky_V _ _ _ 44 _ _ _ _)
      refine cl_X10_73 (As := [.int p5]) rfl (i := 25) rfl rfl rfl (Nat.le_of_ble_eq_true rfl) (k_X5_isOut p5 ⟨_, rfl, (?_ : ky_V _ _ _ 47 _ [.int ((po_isOut p5))] _ _)⟩)
      refine v_if_ne (tgt := 95) (i := 26) rfl (by decide) (fun c2 => ?_) (fun c2 => ?_)
      · replace e := ky_ifF c2 e
        exact hk h c p1 p2 p3 p4 p5 p6 hm1 fr e
      · replace e := ky_ifT c2 e
        refine v_aload_n (i := 27) (j := 0) rfl rfl (?_ : ky_V _ _ _ 51 _ _ _ _)
        refine v_iload (i := 28) (j := 5) rfl rfl (?_ : ky_V _ _ _ 53 _ _ _ _)
        refine v_iload_n (i := 29) (j := 2) rfl rfl (?_ : ky_V _ _ _ 54 _ _ _ _)
        obtain ⟨⟨q4, x5⟩, g6, e⟩ := Option.bind_eq_some_iff.mp e
        refine cl_X10_121 (As := [.int p5, .int p2]) rfl (i := 30) rfl (oc_X10 hm1 (ly_X10_c (lt_X10 fr za))) rfl rfl (Nat.le_of_ble_eq_true rfl) (k_X10_leadingStep N hG hm1 g6 (fun h3 hmh3 frh3 => ⟨_, rfl, (?_ : ky_V _ _ _ 57 _ [.int x5] _ _)⟩))
        have frh3 := fr.tr frh3
        refine v_istore (L' := [(0, .ref a), (1, .int p1), (2, .int p2), (3, .int p3), (4, .int p4), (5, .int p5), (6, .int p6), (7, .int x5)]) [1, 2, 3, 4, 5, 6, 7, 0] (i := 31) rfl (Nat.le_of_ble_eq_true rfl) rfl (?_ : ky_V _ _ _ 59 _ _ _ _)
        refine v_iload (i := 32) (j := 7) rfl rfl (?_ : ky_V _ _ _ 61 _ _ _ _)
        refine v_iconst (v := (-1)) (i := 33) rfl (by decide) (?_ : ky_V _ _ _ 62 _ _ _ _)
        refine v_icmp_ne (tgt := 67) (i := 34) rfl (by decide) (fun c7 => ?_) (fun c7 => ?_)
        · replace e := ky_ifF c7 e
          refine v_iload (i := 37) (j := 6) rfl rfl (?_ : ky_V _ _ _ 69 _ _ _ _)
          refine v_iload_n (i := 38) (j := 3) rfl rfl (?_ : ky_V _ _ _ 70 _ _ _ _)
          refine v_icmp_ne (tgt := 79) (i := 39) rfl (by decide) (fun c8 => ?_) (fun c8 => ?_)
          · replace e := ky_ifF c8 e
            refine v_aload_n (i := 43) (j := 0) rfl rfl (?_ : ky_V _ _ _ 80 _ _ _ _)
            refine v_iload (i := 44) (j := 5) rfl rfl (?_ : ky_V _ _ _ 82 _ _ _ _)
            refine v_iload (i := 45) (j := 7) rfl rfl (?_ : ky_V _ _ _ 84 _ _ _ _)
            obtain ⟨⟨q10, x11⟩, g12, e⟩ := Option.bind_eq_some_iff.mp e
            refine cl_X10_99 (As := [.int p5, .int x5]) rfl (i := 46) rfl (oc_X10 hmh3 (ly_X10_c (lt_X10 frh3 za))) rfl rfl (Nat.le_of_ble_eq_true rfl) (k_X10_target N hG hmh3 g12 (fun h9 hmh9 frh9 => ⟨_, rfl, (?_ : ky_V _ _ _ 87 _ [.int x11] _ _)⟩))
            have frh9 := frh3.tr frh9
            refine v_istore (L' := [(0, .ref a), (1, .int p1), (2, .int p2), (3, .int p3), (4, .int p4), (5, .int x11), (6, .int p6), (7, .int x5)]) [1, 2, 3, 4, 5, 0, 6, 7] (i := 47) rfl (Nat.le_of_ble_eq_true rfl) rfl (?_ : ky_V _ _ _ 89 _ _ _ _)
            obtain ⟨x13, ex13⟩ : ∃ z : Int32, z = p6 + 1 := ⟨_, rfl⟩
            replace e := ky_letE ex13 e
            refine v_iinc (v := x13) (j := 6) (L' := [(0, .ref a), (1, .int p1), (2, .int p2), (3, .int p3), (4, .int p4), (5, .int x11), (6, .int x13), (7, .int x5)]) [1, 2, 3, 4, 5, 6, 0, 7] (i := 48) rfl rfl (by rw [ex13]; rfl) (Nat.le_of_ble_eq_true rfl) rfl (?_ : ky_V _ _ _ 92 _ _ _ _)
            refine v_goto (tgt := 34) (i := 49) rfl (by decide) (?_ : ky_V _ _ _ 34 _ _ _ _)
            refine ky_loc (L' := [(0, .ref a), (1, .int p1), (2, .int p2), (3, .int p3), (4, .int p4), (5, .int x11), (6, .int x13)]) (by simp) ?_
            exact ih h9 q10 p1 p2 p3 p4 x11 x13 hmh9 frh9 e
          · replace e := ky_ifT c8 e
            refine v_iload (i := 40) (j := 7) rfl rfl (?_ : ky_V _ _ _ 75 _ _ _ _)
            refine cl_X10_124 (As := [.int x5]) rfl (i := 41) rfl rfl rfl (Nat.le_of_ble_eq_true rfl) (k_X10_numberOf x5 ⟨_, rfl, (?_ : ky_V _ _ _ 78 _ [.int ((wy_numberOf x5))] _ _)⟩)
            refine v_iret (v := (wy_numberOf x5)) (ty := .int) (i := 42) rfl rfl rfl ?_
            obtain ⟨rfl, rfl⟩ := ky_leaf e
            exact hr _ hmh3 frh3
        · replace e := ky_ifT c7 e
          refine v_iconst (v := (-1)) (i := 35) rfl (by decide) (?_ : ky_V _ _ _ 66 _ _ _ _)
          refine v_iret (v := (-1)) (ty := .int) (i := 36) rfl rfl rfl ?_
          obtain ⟨rfl, rfl⟩ := ky_leaf e
          exact hr _ hmh3 frh3

def x10_bestStep (N : Nat)  (s : sk_S) (a : Nat) (p1 : Int32) (p2 : Int32) (p3 : Int32) : Option (sk_S × Int32) := (if lay_X10 (sk_K s) (sk_r s) a = true then ((x10_search N s a p1 p2 1).bind (fun zz => (fun q2 x3 => (if x3 = (-1 : Int32) then (some (q2, (-1))) else (if 0 ≤ p3 then ((x10_markLeading N q2 a p2 x3).bind (fun zz => (fun q8 x9 => (x10_bestStep_L34 N a (fun q12 x13 x14 x15 x16 x17 x18 => (some (q12, (-1)))) N q8 p1 p2 p3 x3 p1 0)) zz.1 zz.2)) else (some (q2, (-1)))))) zz.1 zz.2)) else none)
set_option maxRecDepth 20000 in
set_option maxHeartbeats 4000000 in
theorem k_X10_bestStep {G : ky_GW} {d : Nat} {h : ky_HP} {Q : ky_RS → ky_HP → Prop} {s s9 : sk_S} {r9 : Int32} {a : Nat} {p1 : Int32} {p2 : Int32} {p3 : Int32} (N : Nat) (hG : ky_OK G)   (hm : sk_hp G s h)  (e : x10_bestStep N  s a p1 p2 p3 = some (s9, r9)) (hr : ∀ h1, sk_hp G s9 h1 → sk_fr none s h s9 h1 → Q (.inl (some (.int r9))) h1) : ky_Call G (d + 6) M_X10_bestStep [.ref a, .int p1, .int p2, .int p3] h Q := by
  refine ky_ofV (by decide +kernel) rfl ok_X10_bestStep (Nat.le_of_ble_eq_true rfl) ?_
  have fr : sk_fr none s h s h := sk_fr.rf
  unfold x10_bestStep at e
  refine (?_ : ky_V _ _ _ 0 [(0, .ref a), (1, .int p1), (2, .int p2), (3, .int p3)] [] _ _)
  obtain ⟨za, e⟩ := ky_chkE e
  refine v_aload_n (i := 0) (j := 0) rfl rfl (?_ : ky_V _ _ _ 1 _ _ _ _)
  refine v_iload_n (i := 1) (j := 1) rfl rfl (?_ : ky_V _ _ _ 2 _ _ _ _)
  refine v_iload_n (i := 2) (j := 2) rfl rfl (?_ : ky_V _ _ _ 3 _ _ _ _)
  refine v_iconst (v := 1) (i := 3) rfl (by decide) (?_ : ky_V _ _ _ 4 _ _ _ _)
  obtain ⟨⟨q2, x3⟩, g4, e⟩ := Option.bind_eq_some_iff.mp e
  refine cl_X10_114 (As := [.int p1, .int p2, .int 1]) rfl (i := 4) rfl (oc_X10 hm (ly_X10_c za)) rfl rfl (Nat.le_of_ble_eq_true rfl) (k_X10_search N hG hm g4 (fun h1 hmh1 frh1 => ⟨_, rfl, (?_ : ky_V _ _ _ 7 _ [.int x3] _ _)⟩))
  have frh1 := fr.tr frh1
  refine v_istore (L' := [(0, .ref a), (1, .int p1), (2, .int p2), (3, .int p3), (4, .int x3)]) [1, 2, 3, 4, 0] (i := 5) rfl (Nat.le_of_ble_eq_true rfl) rfl (?_ : ky_V _ _ _ 9 _ _ _ _)
  refine v_iload (i := 6) (j := 4) rfl rfl (?_ : ky_V _ _ _ 11 _ _ _ _)
  refine v_iconst (v := (-1)) (i := 7) rfl (by decide) (?_ : ky_V _ _ _ 12 _ _ _ _)
  refine v_icmp_eq (tgt := 19) (i := 8) rfl (by decide) (fun c5 => ?_) (fun c5 => ?_)
  · replace e := ky_ifT c5 e
    refine v_iconst (v := (-1)) (i := 11) rfl (by decide) (?_ : ky_V _ _ _ 20 _ _ _ _)
    refine v_iret (v := (-1)) (ty := .int) (i := 12) rfl rfl rfl ?_
    obtain ⟨rfl, rfl⟩ := ky_leaf e
    exact hr _ hmh1 frh1
  · replace e := ky_ifF c5 e
    refine v_iload_n (i := 9) (j := 3) rfl rfl (?_ : ky_V _ _ _ 16 _ _ _ _)
    refine v_if_ge (tgt := 21) (i := 10) rfl (by decide) (fun c6 => ?_) (fun c6 => ?_)
    · replace e := ky_ifT c6 e
      refine v_aload_n (i := 13) (j := 0) rfl rfl (?_ : ky_V _ _ _ 22 _ _ _ _)
      refine v_iload_n (i := 14) (j := 2) rfl rfl (?_ : ky_V _ _ _ 23 _ _ _ _)
      refine v_iload (i := 15) (j := 4) rfl rfl (?_ : ky_V _ _ _ 25 _ _ _ _)
      obtain ⟨⟨q8, x9⟩, g10, e⟩ := Option.bind_eq_some_iff.mp e
      refine cl_X10_118 (As := [.int p2, .int x3]) rfl (i := 16) rfl (oc_X10 hmh1 (ly_X10_c (lt_X10 frh1 za))) rfl rfl (Nat.le_of_ble_eq_true rfl) (k_X10_markLeading N hG hmh1 g10 (fun h7 hmh7 frh7 => ⟨_, rfl, (?_ : ky_V _ _ _ 28 _ [] _ _)⟩))
      have frh7 := frh1.tr frh7
      refine v_iload_n (i := 17) (j := 1) rfl rfl (?_ : ky_V _ _ _ 29 _ _ _ _)
      refine v_istore (L' := [(0, .ref a), (1, .int p1), (2, .int p2), (3, .int p3), (4, .int x3), (5, .int p1)]) [1, 2, 3, 4, 5, 0] (i := 18) rfl (Nat.le_of_ble_eq_true rfl) rfl (?_ : ky_V _ _ _ 31 _ _ _ _)
      refine v_iconst (v := 0) (i := 19) rfl (by decide) (?_ : ky_V _ _ _ 32 _ _ _ _)
      refine v_istore (L' := [(0, .ref a), (1, .int p1), (2, .int p2), (3, .int p3), (4, .int x3), (5, .int p1), (6, .int 0)]) [1, 2, 3, 4, 5, 6, 0] (i := 20) rfl (Nat.le_of_ble_eq_true rfl) rfl (?_ : ky_V _ _ _ 34 _ _ _ _)
      refine lv_X10_bestStep_34 N hG a za hm _ hr (fun h11 q12 x13 x14 x15 x16 x17 x18 hmh11 frh11 e => ?_) N h7 q8 p1 p2 p3 x3 p1 0 hmh7 frh7 e
      refine v_iconst (v := (-1)) (i := 50) rfl (by decide) (?_ : ky_V _ _ _ 96 _ _ _ _)
      refine v_iret (v := (-1)) (ty := .int) (i := 51) rfl rfl rfl ?_
      obtain ⟨rfl, rfl⟩ := ky_leaf e
      exact hr _ hmh11 frh11
    · replace e := ky_ifF c6 e
      refine v_iconst (v := (-1)) (i := 11) rfl (by decide) (?_ : ky_V _ _ _ 20 _ _ _ _)
      refine v_iret (v := (-1)) (ty := .int) (i := 12) rfl rfl rfl ?_
      obtain ⟨rfl, rfl⟩ := ky_leaf e
      exact hr _ hmh1 frh1

def x10_minutesRound_L13 (N : Nat)  (a : Nat) (k : sk_S → Int32 → Int32 → Int32 → Option (sk_S × Int32)) : Nat → sk_S → Int32 → Int32 → Int32 → Option (sk_S × Int32)
  | 0, _, _, _, _ => none
  | n + 1, c, p1, p2, p3 => (if (sk_c c a 7) ≤ p3 then (k c p1 p2 p3) else (if ky_inB p3 1200 = true then ((x10_minutesHome N c a (sk_c c (a + 5) (Int32.toNatClampNeg p3)) p1).bind (fun zz => (fun q4 x5 => (if x5 = (-1 : Int32) then (ky_let (p3 + 1) (fun x8 => (x10_minutesRound_L13 N a k n q4 p1 p2 x8))) else (if p2 = (-1 : Int32) then (ky_let (p3 + 1) (fun x10 => (x10_minutesRound_L13 N a k n q4 p1 x5 x10))) else (if p2 ≤ x5 then (ky_let (p3 + 1) (fun x12 => (x10_minutesRound_L13 N a k n q4 p1 p2 x12))) else (ky_let (p3 + 1) (fun x13 => (x10_minutesRound_L13 N a k n q4 p1 x5 x13))))))) zz.1 zz.2)) else none))
set_option maxRecDepth 20000 in
set_option maxHeartbeats 4000000 in
theorem lv_X10_minutesRound_13 {G : ky_GW} {d : Nat} {s s9 : sk_S} {h0 : ky_HP} {Q : ky_RS → ky_HP → Prop} {r9 : Int32} (N : Nat) (hG : ky_OK G)  (a : Nat)   (za : lay_X10 (sk_K s) (sk_r s) a = true) (hm : sk_hp G s h0) (k : sk_S → Int32 → Int32 → Int32 → Option (sk_S × Int32)) (hr : ∀ h1, sk_hp G s9 h1 → sk_fr none s h0 s9 h1 → Q (.inl (some (.int r9))) h1)
    (hk : ∀ (h : ky_HP) (c : sk_S) (p1 : Int32) (p2 : Int32) (p3 : Int32), sk_hp G c h → sk_fr none s h0 c h → k c p1 p2 p3 = some (s9, r9) → ky_V G (d + 6) M_X10_minutesRound 60 [(0, .ref a), (1, .int p1), (2, .int p2), (3, .int p3)] [] h Q) :
    ∀ (n : Nat) (h : ky_HP) (c : sk_S) (p1 : Int32) (p2 : Int32) (p3 : Int32), sk_hp G c h → sk_fr none s h0 c h → x10_minutesRound_L13 N a k n c p1 p2 p3 = some (s9, r9) → ky_V G (d + 6) M_X10_minutesRound 13 [(0, .ref a), (1, .int p1), (2, .int p2), (3, .int p3)] [] h Q := by
  intro n
  induction n with
  | zero => intro h c p1 p2 p3 hm1 fr e; cases e
  | succ n ih =>
    intro h c p1 p2 p3 hm1 fr e
    rw [x10_minutesRound_L13] at e
    refine v_iload_n (i := 10) (j := 3) rfl rfl (?_ : ky_V _ _ _ 14 _ _ _ _)
    refine v_aload_n (i := 11) (j := 0) rfl rfl (?_ : ky_V _ _ _ 15 _ _ _ _)
    refine gf_X10_79 rfl (i := 12) rfl (oc_X10 hm1 (ly_X10_c (lt_X10 fr za))) rfl (?_ : ky_V _ _ _ 18 _ _ _ _)
    refine v_icmp_ge (tgt := 60) (i := 13) rfl (by decide) (fun c1 => ?_) (fun c1 => ?_)
    · replace e := ky_ifT c1 e
      exact hk h c p1 p2 p3 hm1 fr e
    · replace e := ky_ifF c1 e
      refine v_aload_n (i := 14) (j := 0) rfl rfl (?_ : ky_V _ _ _ 22 _ _ _ _)
      refine v_aload_n (i := 15) (j := 0) rfl rfl (?_ : ky_V _ _ _ 23 _ _ _ _)
      refine gf_X10_26 rfl (i := 16) rfl (oc_X10 hm1 (ly_X10_c (lt_X10 fr za))) (sk_rf (ly_X10_r4 (lt_X10 fr za))) (?_ : ky_V _ _ _ 26 _ (.ref (a + 5) :: _) _ _)
      refine v_iload_n (i := 17) (j := 3) rfl rfl (?_ : ky_V _ _ _ 27 _ _ _ _)
      obtain ⟨z2, e⟩ := ky_chkE e
      refine v_iald (i := 18) rfl (oa_21 hm1 (ly_X10_k4 (lt_X10 fr za))) (ky_inb z2) (?_ : ky_V _ _ _ 28 _ (.int (sk_c c (a + 5) (Int32.toNatClampNeg p3)) :: _) _ _)
      refine v_iload_n (i := 19) (j := 1) rfl rfl (?_ : ky_V _ _ _ 29 _ _ _ _)
      obtain ⟨⟨q4, x5⟩, g6, e⟩ := Option.bind_eq_some_iff.mp e
      refine cl_X10_127 (As := [.int ((sk_c c (a + 5) (Int32.toNatClampNeg p3))), .int p1]) rfl (i := 20) rfl (oc_X10 hm1 (ly_X10_c (lt_X10 fr za))) rfl rfl (Nat.le_of_ble_eq_true rfl) (k_X10_minutesHome N hG hm1 g6 (fun h3 hmh3 frh3 => ⟨_, rfl, (?_ : ky_V _ _ _ 32 _ [.int x5] _ _)⟩))
      have frh3 := fr.tr frh3
      refine v_istore (L' := [(0, .ref a), (1, .int p1), (2, .int p2), (3, .int p3), (4, .int x5)]) [1, 2, 3, 4, 0] (i := 21) rfl (Nat.le_of_ble_eq_true rfl) rfl (?_ : ky_V _ _ _ 34 _ _ _ _)
      refine v_iload (i := 22) (j := 4) rfl rfl (?_ : ky_V _ _ _ 36 _ _ _ _)
      refine v_iconst (v := (-1)) (i := 23) rfl (by decide) (?_ : ky_V _ _ _ 37 _ _ _ _)
      refine v_icmp_eq (tgt := 54) (i := 24) rfl (by decide) (fun c7 => ?_) (fun c7 => ?_)
      · replace e := ky_ifT c7 e
        obtain ⟨x8, ex8⟩ : ∃ z : Int32, z = p3 + 1 := ⟨_, rfl⟩
        replace e := ky_letE ex8 e
        refine v_iinc (v := x8) (j := 3) (L' := [(0, .ref a), (1, .int p1), (2, .int p2), (3, .int x8), (4, .int x5)]) [1, 2, 3, 0, 4] (i := 33) rfl rfl (by rw [ex8]; rfl) (Nat.le_of_ble_eq_true rfl) rfl (?_ : ky_V _ _ _ 57 _ _ _ _)
        refine v_goto (tgt := 13) (i := 34) rfl (by decide) (?_ : ky_V _ _ _ 13 _ _ _ _)
        refine ky_loc (L' := [(0, .ref a), (1, .int p1), (2, .int p2), (3, .int x8)]) (by simp) ?_
        exact ih h3 q4 p1 p2 x8 hmh3 frh3 e
      · replace e := ky_ifF c7 e
        refine v_iload_n (i := 25) (j := 2) rfl rfl (?_ : ky_V _ _ _ 41 _ _ _ _)
        refine v_iconst (v := (-1)) (i := 26) rfl (by decide) (?_ : ky_V _ _ _ 42 _ _ _ _)
        refine v_icmp_eq (tgt := 51) (i := 27) rfl (by decide) (fun c9 => ?_) (fun c9 => ?_)
        · replace e := ky_ifT c9 e
          refine v_iload (i := 31) (j := 4) rfl rfl (?_ : ky_V _ _ _ 53 _ _ _ _)
          refine v_istore_n (L' := [(0, .ref a), (1, .int p1), (2, .int x5), (3, .int p3), (4, .int x5)]) [1, 2, 0, 3, 4] (i := 32) rfl (Nat.le_of_ble_eq_true rfl) rfl (?_ : ky_V _ _ _ 54 _ _ _ _)
          obtain ⟨x10, ex10⟩ : ∃ z : Int32, z = p3 + 1 := ⟨_, rfl⟩
          replace e := ky_letE ex10 e
          refine v_iinc (v := x10) (j := 3) (L' := [(0, .ref a), (1, .int p1), (2, .int x5), (3, .int x10), (4, .int x5)]) [1, 2, 3, 0, 4] (i := 33) rfl rfl (by rw [ex10]; rfl) (Nat.le_of_ble_eq_true rfl) rfl (?_ : ky_V _ _ _ 57 _ _ _ _)
          refine v_goto (tgt := 13) (i := 34) rfl (by decide) (?_ : ky_V _ _ _ 13 _ _ _ _)
          refine ky_loc (L' := [(0, .ref a), (1, .int p1), (2, .int x5), (3, .int x10)]) (by simp) ?_
          exact ih h3 q4 p1 x5 x10 hmh3 frh3 e
        · replace e := ky_ifF c9 e
          refine v_iload (i := 28) (j := 4) rfl rfl (?_ : ky_V _ _ _ 47 _ _ _ _)
          refine v_iload_n (i := 29) (j := 2) rfl rfl (?_ : ky_V _ _ _ 48 _ _ _ _)
          refine v_icmp_ge (tgt := 54) (i := 30) rfl (by decide) (fun c11 => ?_) (fun c11 => ?_)
          · replace e := ky_ifT c11 e
            obtain ⟨x12, ex12⟩ : ∃ z : Int32, z = p3 + 1 := ⟨_, rfl⟩
            replace e := ky_letE ex12 e
            refine v_iinc (v := x12) (j := 3) (L' := [(0, .ref a), (1, .int p1), (2, .int p2), (3, .int x12), (4, .int x5)]) [1, 2, 3, 0, 4] (i := 33) rfl rfl (by rw [ex12]; rfl) (Nat.le_of_ble_eq_true rfl) rfl (?_ : ky_V _ _ _ 57 _ _ _ _)
            refine v_goto (tgt := 13) (i := 34) rfl (by decide) (?_ : ky_V _ _ _ 13 _ _ _ _)
            refine ky_loc (L' := [(0, .ref a), (1, .int p1), (2, .int p2), (3, .int x12)]) (by simp) ?_
            exact ih h3 q4 p1 p2 x12 hmh3 frh3 e
          · replace e := ky_ifF c11 e
            refine v_iload (i := 31) (j := 4) rfl rfl (?_ : ky_V _ _ _ 53 _ _ _ _)
            refine v_istore_n (L' := [(0, .ref a), (1, .int p1), (2, .int x5), (3, .int p3), (4, .int x5)]) [1, 2, 0, 3, 4] (i := 32) rfl (Nat.le_of_ble_eq_true rfl) rfl (?_ : ky_V _ _ _ 54 _ _ _ _)
            obtain ⟨x13, ex13⟩ : ∃ z : Int32, z = p3 + 1 := ⟨_, rfl⟩
            replace e := ky_letE ex13 e
            refine v_iinc (v := x13) (j := 3) (L' := [(0, .ref a), (1, .int p1), (2, .int x5), (3, .int x13), (4, .int x5)]) [1, 2, 3, 0, 4] (i := 33) rfl rfl (by rw [ex13]; rfl) (Nat.le_of_ble_eq_true rfl) rfl (?_ : ky_V _ _ _ 57 _ _ _ _)
            refine v_goto (tgt := 13) (i := 34) rfl (by decide) (?_ : ky_V _ _ _ 13 _ _ _ _)
            refine ky_loc (L' := [(0, .ref a), (1, .int p1), (2, .int x5), (3, .int x13)]) (by simp) ?_
            exact ih h3 q4 p1 x5 x13 hmh3 frh3 e

def x10_minutesRound (N : Nat)  (s : sk_S) (a : Nat) (p1 : Int32) : Option (sk_S × Int32) := (if lay_X10 (sk_K s) (sk_r s) a = true then ((x10_search N s a p1 127 0).bind (fun zz => (fun q2 x3 => (x10_minutesRound_L13 N a (fun q6 x7 x8 x9 => (some (q6, x8))) N q2 p1 (-1) 0)) zz.1 zz.2)) else none)
set_option maxRecDepth 20000 in
set_option maxHeartbeats 4000000 in
theorem k_X10_minutesRound {G : ky_GW} {d : Nat} {h : ky_HP} {Q : ky_RS → ky_HP → Prop} {s s9 : sk_S} {r9 : Int32} {a : Nat} {p1 : Int32} (N : Nat) (hG : ky_OK G)   (hm : sk_hp G s h)  (e : x10_minutesRound N  s a p1 = some (s9, r9)) (hr : ∀ h1, sk_hp G s9 h1 → sk_fr none s h s9 h1 → Q (.inl (some (.int r9))) h1) : ky_Call G (d + 6) M_X10_minutesRound [.ref a, .int p1] h Q := by
  refine ky_ofV (by decide +kernel) rfl ok_X10_minutesRound (Nat.le_of_ble_eq_true rfl) ?_
  have fr : sk_fr none s h s h := sk_fr.rf
  unfold x10_minutesRound at e
  refine (?_ : ky_V _ _ _ 0 [(0, .ref a), (1, .int p1)] [] _ _)
  obtain ⟨za, e⟩ := ky_chkE e
  refine v_aload_n (i := 0) (j := 0) rfl rfl (?_ : ky_V _ _ _ 1 _ _ _ _)
  refine v_iload_n (i := 1) (j := 1) rfl rfl (?_ : ky_V _ _ _ 2 _ _ _ _)
  refine v_bipush (v := 127) (i := 2) rfl (by decide) (?_ : ky_V _ _ _ 4 _ _ _ _)
  refine v_iconst (v := 0) (i := 3) rfl (by decide) (?_ : ky_V _ _ _ 5 _ _ _ _)
  obtain ⟨⟨q2, x3⟩, g4, e⟩ := Option.bind_eq_some_iff.mp e
  refine cl_X10_114 (As := [.int p1, .int 127, .int 0]) rfl (i := 4) rfl (oc_X10 hm (ly_X10_c za)) rfl rfl (Nat.le_of_ble_eq_true rfl) (k_X10_search N hG hm g4 (fun h1 hmh1 frh1 => ⟨_, rfl, (?_ : ky_V _ _ _ 8 _ [.int x3] _ _)⟩))
  have frh1 := fr.tr frh1
  refine v_pop (i := 5) rfl rfl (?_ : ky_V _ _ _ 9 _ _ _ _)
  refine v_iconst (v := (-1)) (i := 6) rfl (by decide) (?_ : ky_V _ _ _ 10 _ _ _ _)
  refine v_istore_n (L' := [(0, .ref a), (1, .int p1), (2, .int (-1))]) [1, 2, 0] (i := 7) rfl (Nat.le_of_ble_eq_true rfl) rfl (?_ : ky_V _ _ _ 11 _ _ _ _)
  refine v_iconst (v := 0) (i := 8) rfl (by decide) (?_ : ky_V _ _ _ 12 _ _ _ _)
  refine v_istore_n (L' := [(0, .ref a), (1, .int p1), (2, .int (-1)), (3, .int 0)]) [1, 2, 3, 0] (i := 9) rfl (Nat.le_of_ble_eq_true rfl) rfl (?_ : ky_V _ _ _ 13 _ _ _ _)
  refine lv_X10_minutesRound_13 N hG a za hm _ hr (fun h5 q6 x7 x8 x9 hmh5 frh5 e => ?_) N h1 q2 p1 (-1) 0 hmh1 frh1 e
  refine v_iload_n (i := 35) (j := 2) rfl rfl (?_ : ky_V _ _ _ 61 _ _ _ _)
  refine v_iret (v := x8) (ty := .int) (i := 36) rfl rfl rfl ?_
  obtain ⟨rfl, rfl⟩ := ky_leaf e
  exact hr _ hmh5 frh5

def x10_statesFrom (N : Nat)  (s : sk_S) (a : Nat) (p1 : Int32) : Option (sk_S × Int32) := (if lay_X10 (sk_K s) (sk_r s) a = true then ((x10_search N s a p1 127 0).bind (fun zz => (fun q2 x3 => (some (q2, (sk_c q2 a 7)))) zz.1 zz.2)) else none)
set_option maxRecDepth 20000 in
set_option maxHeartbeats 4000000 in
theorem k_X10_statesFrom {G : ky_GW} {d : Nat} {h : ky_HP} {Q : ky_RS → ky_HP → Prop} {s s9 : sk_S} {r9 : Int32} {a : Nat} {p1 : Int32} (N : Nat) (hG : ky_OK G)   (hm : sk_hp G s h)  (e : x10_statesFrom N  s a p1 = some (s9, r9)) (hr : ∀ h1, sk_hp G s9 h1 → sk_fr none s h s9 h1 → Q (.inl (some (.int r9))) h1) : ky_Call G (d + 6) M_X10_statesFrom [.ref a, .int p1] h Q := by
  refine ky_ofV (by decide +kernel) rfl ok_X10_statesFrom (Nat.le_of_ble_eq_true rfl) ?_
  have fr : sk_fr none s h s h := sk_fr.rf
  unfold x10_statesFrom at e
  refine (?_ : ky_V _ _ _ 0 [(0, .ref a), (1, .int p1)] [] _ _)
  obtain ⟨za, e⟩ := ky_chkE e
  refine v_aload_n (i := 0) (j := 0) rfl rfl (?_ : ky_V _ _ _ 1 _ _ _ _)
  refine v_iload_n (i := 1) (j := 1) rfl rfl (?_ : ky_V _ _ _ 2 _ _ _ _)
  refine v_bipush (v := 127) (i := 2) rfl (by decide) (?_ : ky_V _ _ _ 4 _ _ _ _)
  refine v_iconst (v := 0) (i := 3) rfl (by decide) (?_ : ky_V _ _ _ 5 _ _ _ _)
  obtain ⟨⟨q2, x3⟩, g4, e⟩ := Option.bind_eq_some_iff.mp e
  refine cl_X10_114 (As := [.int p1, .int 127, .int 0]) rfl (i := 4) rfl (oc_X10 hm (ly_X10_c za)) rfl rfl (Nat.le_of_ble_eq_true rfl) (k_X10_search N hG hm g4 (fun h1 hmh1 frh1 => ⟨_, rfl, (?_ : ky_V _ _ _ 8 _ [.int x3] _ _)⟩))
  have frh1 := fr.tr frh1
  refine v_pop (i := 5) rfl rfl (?_ : ky_V _ _ _ 9 _ _ _ _)
  refine v_aload_n (i := 6) (j := 0) rfl rfl (?_ : ky_V _ _ _ 10 _ _ _ _)
  refine gf_X10_79 rfl (i := 7) rfl (oc_X10 hmh1 (ly_X10_c (lt_X10 frh1 za))) rfl (?_ : ky_V _ _ _ 13 _ _ _ _)
  refine v_iret (v := (sk_c q2 a 7)) (ty := .int) (i := 8) rfl rfl rfl ?_
  obtain ⟨rfl, rfl⟩ := ky_leaf e
  exact hr _ hmh1 frh1
