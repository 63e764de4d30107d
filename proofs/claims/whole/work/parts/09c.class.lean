def j7_fill_53178_L5 (N : Nat)  (a0_ : Nat) (k : sk_S → Int32 → Int32 → Int32 → Option (sk_S × Int32)) : Nat → sk_S → Int32 → Int32 → Int32 → Option (sk_S × Int32)
  | 0, _, _, _, _ => none
  | n + 1, c, p1, p2, p3 => (if p3 ≤ p2 then (k c p1 p2 p3) else (if ky_inB p2 (sk_K c a0_).2 = true then (ky_let (sk_wc c a0_ (Int32.toNatClampNeg p2) p1) (fun q4 => (ky_let (p2 + 1) (fun x5 => (j7_fill_53178_L5 N a0_ k n q4 p1 x5 p3))))) else none))
set_option maxRecDepth 20000 in
set_option maxHeartbeats 4000000 in
theorem lv_J7_fill_53178_5 {G : ky_GW} {d : Nat} {s s9 : sk_S} {h0 : ky_HP} {Q : ky_RS → ky_HP → Prop} {r9 : Int32} (N : Nat) (hG : ky_OK G)  (a0_ : Nat)   (za0_ : (sk_K s a0_).1 = 21) (hm : sk_hp G s h0) (k : sk_S → Int32 → Int32 → Int32 → Option (sk_S × Int32)) (hr : ∀ h1, sk_hp G s9 h1 → sk_fr none s h0 s9 h1 → Q (.inl none) h1)
    (hk : ∀ (h : ky_HP) (c : sk_S) (p1 : Int32) (p2 : Int32) (p3 : Int32), sk_hp G c h → sk_fr none s h0 c h → k c p1 p2 p3 = some (s9, r9) → ky_V G d M_J7_fill_53178 20 [(0, .ref a0_), (1, .int p1), (2, .int p2), (3, .int p3)] [] h Q) :
    ∀ (n : Nat) (h : ky_HP) (c : sk_S) (p1 : Int32) (p2 : Int32) (p3 : Int32), sk_hp G c h → sk_fr none s h0 c h → j7_fill_53178_L5 N a0_ k n c p1 p2 p3 = some (s9, r9) → ky_V G d M_J7_fill_53178 5 [(0, .ref a0_), (1, .int p1), (2, .int p2), (3, .int p3)] [] h Q := by
  intro n
  induction n with
  | zero => intro h c p1 p2 p3 hm1 fr e; cases e
  | succ n ih =>
    intro h c p1 p2 p3 hm1 fr e
    rw [j7_fill_53178_L5] at e
    refine v_iload_n (i := 5) (j := 2) rfl rfl (?_ : ky_V _ _ _ 6 _ _ _ _)
    refine v_iload_n (i := 6) (j := 3) rfl rfl (?_ : ky_V _ _ _ 7 _ _ _ _)
    refine v_icmp_ge (tgt := 20) (i := 7) rfl (by decide) (fun c1 => ?_) (fun c1 => ?_)
    · replace e := ky_ifT c1 e
      exact hk h c p1 p2 p3 hm1 fr e
    · replace e := ky_ifF c1 e
      refine v_aload_n (i := 8) (j := 0) rfl rfl (?_ : ky_V _ _ _ 11 _ _ _ _)
      refine v_iload_n (i := 9) (j := 2) rfl rfl (?_ : ky_V _ _ _ 12 _ _ _ _)
      refine v_iload_n (i := 10) (j := 1) rfl rfl (?_ : ky_V _ _ _ 13 _ _ _ _)
      obtain ⟨z2, e⟩ := ky_chkE e
      refine v_iast (i := 11) rfl (ox_21 hm1 (fr.K1 (k := 20) za0_)) (ky_inb z2) ?_
      refine sk_stc (kd := 20) hm1 fr (sk_pr (fr.K1 (k := 20) za0_)) (Int32.toNatClampNeg p2) p1 (fun h3 hmh3 frh3 => ?_)
      obtain ⟨q4, eq4⟩ : ∃ z, z = (sk_wc c a0_ (Int32.toNatClampNeg p2) p1) := ⟨_, rfl⟩
      rw [← eq4] at hmh3 frh3
      replace e := ky_letE eq4 e
      refine (?_ : ky_V _ _ _ 14 _ _ _ _)
      obtain ⟨x5, ex5⟩ : ∃ z : Int32, z = p2 + 1 := ⟨_, rfl⟩
      replace e := ky_letE ex5 e
      refine v_iinc (v := x5) (j := 2) (L' := [(0, .ref a0_), (1, .int p1), (2, .int x5), (3, .int p3)]) [1, 2, 0, 3] (i := 12) rfl rfl (by rw [ex5]; rfl) (Nat.le_of_ble_eq_true rfl) rfl (?_ : ky_V _ _ _ 17 _ _ _ _)
      refine v_goto (tgt := 5) (i := 13) rfl (by decide) (?_ : ky_V _ _ _ 5 _ _ _ _)
      exact ih h3 q4 p1 x5 p3 hmh3 frh3 e

def j7_fill_53178 (N : Nat)  (s : sk_S) (a0_ : Nat) (p1 : Int32) : Option (sk_S × Int32) := (if (sk_K s a0_).1 = 21 then (ky_let (Int32.ofNat (sk_K s a0_).2) (fun x1 => (j7_fill_53178_L5 N a0_ (fun q3 x4 x5 x6 => (some (q3, 0))) N s p1 0 x1))) else none)
set_option maxRecDepth 20000 in
set_option maxHeartbeats 4000000 in
theorem k_J7_fill_53178 {G : ky_GW} {d : Nat} {h : ky_HP} {Q : ky_RS → ky_HP → Prop} {s s9 : sk_S} {r9 : Int32} {a0_ : Nat} {p1 : Int32} (N : Nat) (hG : ky_OK G)   (hm : sk_hp G s h)  (e : j7_fill_53178 N  s a0_ p1 = some (s9, r9)) (hr : ∀ h1, sk_hp G s9 h1 → sk_fr none s h s9 h1 → Q (.inl none) h1) : ky_Call G d M_J7_fill_53178 [.ref a0_, .int p1] h Q := by
  refine ky_ofV (by decide +kernel) rfl ok_J7_fill_53178 (Nat.le_of_ble_eq_true rfl) ?_
  have fr : sk_fr none s h s h := sk_fr.rf
  unfold j7_fill_53178 at e
  refine (?_ : ky_V _ _ _ 0 [(0, .ref a0_), (1, .int p1)] [] _ _)
  obtain ⟨za0_, e⟩ := ky_chkE e
  refine v_iconst (v := 0) (i := 0) rfl (by decide) (?_ : ky_V _ _ _ 1 _ _ _ _)
  refine v_istore_n (L' := [(0, .ref a0_), (1, .int p1), (2, .int 0)]) [1, 2, 0] (i := 1) rfl (Nat.le_of_ble_eq_true rfl) rfl (?_ : ky_V _ _ _ 2 _ _ _ _)
  refine v_aload_n (i := 2) (j := 0) rfl rfl (?_ : ky_V _ _ _ 3 _ _ _ _)
  refine v_alen (v := (Int32.ofNat (sk_K s a0_).2)) 1 (by decide) (i := 3) rfl (ox_21 hm za0_) rfl (?_ : ky_V _ _ _ 4 _ _ _ _)
  refine v_topi (fun x1 ex1 => ?_)
  replace e := ky_letE ex1 e
  refine v_istore_n (L' := [(0, .ref a0_), (1, .int p1), (2, .int 0), (3, .int x1)]) [1, 2, 3, 0] (i := 4) rfl (Nat.le_of_ble_eq_true rfl) rfl (?_ : ky_V _ _ _ 5 _ _ _ _)
  refine lv_J7_fill_53178_5 N hG a0_ za0_ hm _ hr (fun h2 q3 x4 x5 x6 hmh2 frh2 e => ?_) N h s p1 0 x1 hm fr e
  refine v_vret (i := 14) rfl rfl ?_
  obtain ⟨rfl, rfl⟩ := ky_leaf e
  exact hr _ hmh2 frh2

def x1_init (N : Nat)  (s : sk_S) (a : Nat) : Option (sk_S × Int32) := (if sk_K s a = (2, 0) then (ky_let (sk_wc s a 5 999) (fun q2 => (ky_let (sk_wc q2 a 7 1) (fun q4 => (some (q4, 0)))))) else none)
set_option maxRecDepth 20000 in
set_option maxHeartbeats 4000000 in
theorem k_X1_init {G : ky_GW} {d : Nat} {h : ky_HP} {Q : ky_RS → ky_HP → Prop} {s s9 : sk_S} {r9 : Int32} {a : Nat} (N : Nat) (hG : ky_OK G)   (hm : sk_hp G s h)  (e : x1_init N  s a = some (s9, r9)) (hr : ∀ h1, sk_hp G s9 h1 → sk_fr (some a) s h s9 h1 → Q (.inl none) h1) : ky_Call G (d + 1) M_X1_init [.ref a] h Q := by
  refine ky_ofV (by decide +kernel) rfl ok_X1_init (Nat.le_of_ble_eq_true rfl) ?_
  have fr : sk_fr (some a) s h s h := sk_fr.rf
  unfold x1_init at e
  refine (?_ : ky_V _ _ _ 0 [(0, .ref a)] [] _ _)
  obtain ⟨z0, e⟩ := ky_chkE e
  refine v_aload_n (i := 0) (j := 0) rfl rfl (?_ : ky_V _ _ _ 1 _ _ _ _)
  refine v_objInit (by rw [show M_X1_init.1.cls = "WaistSand$Body" from rfl]; exact ky_t1 (i := 127) rfl rfl) (ky_t1 (i := 36) rfl rfl) (ky_t1 (i := 37) rfl rfl) (i := 1) rfl (Nat.le_of_ble_eq_true rfl) (?_ : ky_V _ _ _ 4 _ _ _ _)
  refine v_aload_n (i := 2) (j := 0) rfl rfl (?_ : ky_V _ _ _ 5 _ _ _ _)
  refine v_sipush (v := 999) (i := 3) rfl (by decide) (?_ : ky_V _ _ _ 8 _ _ _ _)
  refine pf_X1_9 rfl (i := 4) rfl (oc_X1 hm z0) (Nat.le_of_ble_eq_true rfl) rfl rfl ?_
  refine sk_stc (kd := 1) (n := 0) hm fr z0 5 999 (fun h1 hmh1 frh1 => ?_)
  obtain ⟨q2, eq2⟩ : ∃ z, z = (sk_wc s a 5 999) := ⟨_, rfl⟩
  rw [← eq2] at hmh1 frh1
  replace e := ky_letE eq2 e
  refine (?_ : ky_V _ _ _ 11 _ _ _ _)
  refine v_aload_n (i := 5) (j := 0) rfl rfl (?_ : ky_V _ _ _ 12 _ _ _ _)
  refine v_iconst (v := 1) (i := 6) rfl (by decide) (?_ : ky_V _ _ _ 13 _ _ _ _)
  refine pf_X1_15 rfl (i := 7) rfl (oc_X1 hmh1 (frh1.K (k := 1) z0)) (Nat.le_of_ble_eq_true rfl) rfl rfl ?_
  refine sk_stc (kd := 1) (n := 0) hmh1 frh1 (frh1.K (k := 1) z0) 7 1 (fun h3 hmh3 frh3 => ?_)
  obtain ⟨q4, eq4⟩ : ∃ z, z = (sk_wc q2 a 7 1) := ⟨_, rfl⟩
  rw [← eq4] at hmh3 frh3
  replace e := ky_letE eq4 e
  refine (?_ : ky_V _ _ _ 16 _ _ _ _)
  refine v_vret (i := 8) rfl rfl ?_
  obtain ⟨rfl, rfl⟩ := ky_leaf e
  exact hr _ hmh3 frh3

def x1_become (N : Nat)  (s : sk_S) (a : Nat) (a1_ : Nat) : Option (sk_S × Int32) := (if lay_X1 (sk_K s) (sk_r s) a = true then (if lay_X1 (sk_K s) (sk_r s) a1_ = true then (ky_let (sk_c s a1_ 0) (fun x1 => (ky_let (sk_wc s a 0 x1) (fun q3 => (ky_let (sk_c q3 a1_ 1) (fun x4 => (ky_let (sk_wc q3 a 1 x4) (fun q6 => (ky_let (sk_c q6 a1_ 2) (fun x7 => (ky_let (sk_wc q6 a 2 x7) (fun q9 => (ky_let (sk_c q9 a1_ 3) (fun x10 => (ky_let (sk_wc q9 a 3 x10) (fun q12 => (ky_let (sk_c q12 a1_ 4) (fun x13 => (ky_let (sk_wc q12 a 4 x13) (fun q15 => (ky_let (sk_c q15 a1_ 5) (fun x16 => (ky_let (sk_wc q15 a 5 x16) (fun q18 => (ky_let (sk_c q18 a1_ 6) (fun x19 => (ky_let (sk_wc q18 a 6 x19) (fun q21 => (ky_let (sk_c q21 a1_ 7) (fun x22 => (ky_let (sk_wc q21 a 7 x22) (fun q24 => (some (q24, 0)))))))))))))))))))))))))))))))))) else none) else none)
set_option maxRecDepth 20000 in
set_option maxHeartbeats 4000000 in
theorem k_X1_become {G : ky_GW} {d : Nat} {h : ky_HP} {Q : ky_RS → ky_HP → Prop} {s s9 : sk_S} {r9 : Int32} {a : Nat} {a1_ : Nat} (N : Nat) (hG : ky_OK G)   (hm : sk_hp G s h)  (e : x1_become N  s a a1_ = some (s9, r9)) (hr : ∀ h1, sk_hp G s9 h1 → sk_fr none s h s9 h1 → Q (.inl none) h1) : ky_Call G d M_X1_become [.ref a, .ref a1_] h Q := by
  refine ky_ofV (by decide +kernel) rfl ok_X1_become (Nat.le_of_ble_eq_true rfl) ?_
  have fr : sk_fr none s h s h := sk_fr.rf
  unfold x1_become at e
  refine (?_ : ky_V _ _ _ 0 [(0, .ref a), (1, .ref a1_)] [] _ _)
  obtain ⟨za, e⟩ := ky_chkE e
  obtain ⟨za1_, e⟩ := ky_chkE e
  refine v_aload_n (i := 0) (j := 0) rfl rfl (?_ : ky_V _ _ _ 1 _ _ _ _)
  refine v_aload_n (i := 1) (j := 1) rfl rfl (?_ : ky_V _ _ _ 2 _ _ _ _)
  refine gf_X1_18 rfl (i := 2) rfl (oc_X1 hm (ly_X1_c za1_)) rfl (?_ : ky_V _ _ _ 5 _ _ _ _)
  refine v_topi (fun x1 ex1 => ?_)
  replace e := ky_letE ex1 e
  refine pf_X1_18 rfl (i := 3) rfl (oc_X1 hm (ly_X1_c za)) (Nat.le_of_ble_eq_true rfl) rfl rfl ?_
  refine sk_stc (kd := 1) (n := 0) hm fr (ly_X1_c za) 0 x1 (fun h2 hmh2 frh2 => ?_)
  obtain ⟨q3, eq3⟩ : ∃ z, z = (sk_wc s a 0 x1) := ⟨_, rfl⟩
  rw [← eq3] at hmh2 frh2
  replace e := ky_letE eq3 e
  refine (?_ : ky_V _ _ _ 8 _ _ _ _)
  refine v_aload_n (i := 4) (j := 0) rfl rfl (?_ : ky_V _ _ _ 9 _ _ _ _)
  refine v_aload_n (i := 5) (j := 1) rfl rfl (?_ : ky_V _ _ _ 10 _ _ _ _)
  refine gf_X1_21 rfl (i := 6) rfl (oc_X1 hmh2 (ly_X1_c (lt_X1 frh2 za1_))) rfl (?_ : ky_V _ _ _ 13 _ _ _ _)
  refine v_topi (fun x4 ex4 => ?_)
  replace e := ky_letE ex4 e
  refine pf_X1_21 rfl (i := 7) rfl (oc_X1 hmh2 (ly_X1_c (lt_X1 frh2 za))) (Nat.le_of_ble_eq_true rfl) rfl rfl ?_
  refine sk_stc (kd := 1) (n := 0) hmh2 frh2 (ly_X1_c (lt_X1 frh2 za)) 1 x4 (fun h5 hmh5 frh5 => ?_)
  obtain ⟨q6, eq6⟩ : ∃ z, z = (sk_wc q3 a 1 x4) := ⟨_, rfl⟩
  rw [← eq6] at hmh5 frh5
  replace e := ky_letE eq6 e
  refine (?_ : ky_V _ _ _ 16 _ _ _ _)
  refine v_aload_n (i := 8) (j := 0) rfl rfl (?_ : ky_V _ _ _ 17 _ _ _ _)
  refine v_aload_n (i := 9) (j := 1) rfl rfl (?_ : ky_V _ _ _ 18 _ _ _ _)
  refine gf_X1_24 rfl (i := 10) rfl (oc_X1 hmh5 (ly_X1_c (lt_X1 frh5 za1_))) rfl (?_ : ky_V _ _ _ 21 _ _ _ _)
  refine v_topi (fun x7 ex7 => ?_)
  replace e := ky_letE ex7 e
  refine pf_X1_24 rfl (i := 11) rfl (oc_X1 hmh5 (ly_X1_c (lt_X1 frh5 za))) (Nat.le_of_ble_eq_true rfl) rfl rfl ?_
  refine sk_stc (kd := 1) (n := 0) hmh5 frh5 (ly_X1_c (lt_X1 frh5 za)) 2 x7 (fun h8 hmh8 frh8 => ?_)
  obtain ⟨q9, eq9⟩ : ∃ z, z = (sk_wc q6 a 2 x7) := ⟨_, rfl⟩
  rw [← eq9] at hmh8 frh8
  replace e := ky_letE eq9 e
  refine (?_ : ky_V _ _ _ 24 _ _ _ _)
  refine v_aload_n (i := 12) (j := 0) rfl rfl (?_ : ky_V _ _ _ 25 _ _ _ _)
  refine v_aload_n (i := 13) (j := 1) rfl rfl (?_ : ky_V _ _ _ 26 _ _ _ _)
  refine gf_X1_27 rfl (i := 14) rfl (oc_X1 hmh8 (ly_X1_c (lt_X1 frh8 za1_))) rfl (?_ : ky_V _ _ _ 29 _ _ _ _)
  refine v_topi (fun x10 ex10 => ?_)
  replace e := ky_letE ex10 e
  refine pf_X1_27 rfl (i := 15) rfl (oc_X1 hmh8 (ly_X1_c (lt_X1 frh8 za))) (Nat.le_of_ble_eq_true rfl) rfl rfl ?_
  refine sk_stc (kd := 1) (n := 0) hmh8 frh8 (ly_X1_c (lt_X1 frh8 za)) 3 x10 (fun h11 hmh11 frh11 => ?_)
  obtain ⟨q12, eq12⟩ : ∃ z, z = (sk_wc q9 a 3 x10) := ⟨_, rfl⟩
  rw [← eq12] at hmh11 frh11
  replace e := ky_letE eq12 e
  refine (?_ : ky_V _ _ _ 32 _ _ _ _)
  refine v_aload_n (i := 16) (j := 0) rfl rfl (?_ : ky_V _ _ _ 33 _ _ _ _)
  refine v_aload_n (i := 17) (j := 1) rfl rfl (?_ : ky_V _ _ _ 34 _ _ _ _)
  refine gf_X1_30 rfl (i := 18) rfl (oc_X1 hmh11 (ly_X1_c (lt_X1 frh11 za1_))) rfl (?_ : ky_V _ _ _ 37 _ _ _ _)
  refine v_topi (fun x13 ex13 => ?_)
  replace e := ky_letE ex13 e
  refine pf_X1_30 rfl (i := 19) rfl (oc_X1 hmh11 (ly_X1_c (lt_X1 frh11 za))) (Nat.le_of_ble_eq_true rfl) rfl rfl ?_
  refine sk_stc (kd := 1) (n := 0) hmh11 frh11 (ly_X1_c (lt_X1 frh11 za)) 4 x13 (fun h14 hmh14 frh14 => ?_)
  obtain ⟨q15, eq15⟩ : ∃ z, z = (sk_wc q12 a 4 x13) := ⟨_, rfl⟩
  rw [← eq15] at hmh14 frh14
  replace e := ky_letE eq15 e
  refine (?_ : ky_V _ _ _ 40 _ _ _ _)
  refine v_aload_n (i := 20) (j := 0) rfl rfl (?_ : ky_V _ _ _ 41 _ _ _ _)
  refine v_aload_n (i := 21) (j := 1) rfl rfl (?_ : ky_V _ _ _ 42 _ _ _ _)
  refine gf_X1_9 rfl (i := 22) rfl (oc_X1 hmh14 (ly_X1_c (lt_X1 frh14 za1_))) rfl (?_ : ky_V _ _ _ 45 _ _ _ _)
  refine v_topi (fun x16 ex16 => ?_)
  replace e := ky_letE ex16 e
  refine pf_X1_9 rfl (i := 23) rfl (oc_X1 hmh14 (ly_X1_c (lt_X1 frh14 za))) (Nat.le_of_ble_eq_true rfl) rfl rfl ?_
  refine sk_stc (kd := 1) (n := 0) hmh14 frh14 (ly_X1_c (lt_X1 frh14 za)) 5 x16 (fun h17 hmh17 frh17 => ?_)
  obtain ⟨q18, eq18⟩ : ∃ z, z = (sk_wc q15 a 5 x16) := ⟨_, rfl⟩
  rw [← eq18] at hmh17 frh17
  replace e := ky_letE eq18 e
  refine (?_ : ky_V _ _ _ 48 _ _ _ _)
  refine v_aload_n (i := 24) (j := 0) rfl rfl (?_ : ky_V _ _ _ 49 _ _ _ _)
  refine v_aload_n (i := 25) (j := 1) rfl rfl (?_ : ky_V _ _ _ 50 _ _ _ _)
  refine gf_X1_33 rfl (i := 26) rfl (oc_X1 hmh17 (ly_X1_c (lt_X1 frh17 za1_))) rfl (?_ : ky_V _ _ _ 53 _ _ _ _)
  refine v_topi (fun x19 ex19 => ?_)
  replace e := ky_letE ex19 e
  refine pf_X1_33 rfl (i := 27) rfl (oc_X1 hmh17 (ly_X1_c (lt_X1 frh17 za))) (Nat.le_of_ble_eq_true rfl) rfl rfl ?_
  refine sk_stc (kd := 1) (n := 0) hmh17 frh17 (ly_X1_c (lt_X1 frh17 za)) 6 x19 (fun h20 hmh20 frh20 => ?_)
  obtain ⟨q21, eq21⟩ : ∃ z, z = (sk_wc q18 a 6 x19) := ⟨_, rfl⟩
  rw [← eq21] at hmh20 frh20
  replace e := ky_letE eq21 e
  refine (?_ : ky_V _ _ _ 56 _ _ _ _)
  refine v_aload_n (i := 28) (j := 0) rfl rfl (?_ : ky_V _ _ _ 57 _ _ _ _)
  refine v_aload_n (i := 29) (j := 1) rfl rfl (?_ : ky_V _ _ _ 58 _ _ _ _)
  refine gf_X1_15 rfl (i := 30) rfl (oc_X1 hmh20 (ly_X1_c (lt_X1 frh20 za1_))) rfl (?_ : ky_V _ _ _ 61 _ _ _ _)
  refine v_topi (fun x22 ex22 => ?_)
  replace e := ky_letE ex22 e
  refine pf_X1_15 rfl (i := 31) rfl (oc_X1 hmh20 (ly_X1_c (lt_X1 frh20 za))) (Nat.le_of_ble_eq_true rfl) rfl rfl ?_
  refine sk_stc (kd := 1) (n := 0) hmh20 frh20 (ly_X1_c (lt_X1 frh20 za)) 7 x22 (fun h23 hmh23 frh23 => ?_)
  obtain ⟨q24, eq24⟩ : ∃ z, z = (sk_wc q21 a 7 x22) := ⟨_, rfl⟩
  rw [← eq24] at hmh23 frh23
  replace e := ky_letE eq24 e
  refine (?_ : ky_V _ _ _ 64 _ _ _ _)
  refine v_vret (i := 32) rfl rfl ?_
  obtain ⟨rfl, rfl⟩ := ky_leaf e
  exact hr _ hmh23 frh23

def x1_isDrowned (N : Nat)  (s : sk_S) (a : Nat) : Option (sk_S × Int32) := (if lay_X1 (sk_K s) (sk_r s) a = true then (if (sk_c s a 4) < (sk_c s a 5) then (some (s, 0)) else (if (po_isOut (sk_c s a 0)) = 0 then (some (s, 1)) else (some (s, 0)))) else none)
set_option maxRecDepth 20000 in
set_option maxHeartbeats 4000000 in
theorem k_X1_isDrowned {G : ky_GW} {d : Nat} {h : ky_HP} {Q : ky_RS → ky_HP → Prop} {s s9 : sk_S} {r9 : Int32} {a : Nat} (N : Nat) (hG : ky_OK G)   (hm : sk_hp G s h)  (e : x1_isDrowned N  s a = some (s9, r9)) (hr : ∀ h1, sk_hp G s9 h1 → sk_fr none s h s9 h1 → Q (.inl (some (.int r9))) h1) : ky_Call G (d + 1) M_X1_isDrowned [.ref a] h Q := by
  refine ky_ofV (by decide +kernel) rfl ok_X1_isDrowned (Nat.le_of_ble_eq_true rfl) ?_
  have fr : sk_fr none s h s h := sk_fr.rf
  unfold x1_isDrowned at e
  refine (?_ : ky_V _ _ _ 0 [(0, .ref a)] [] _ _)
  obtain ⟨za, e⟩ := ky_chkE e
  refine v_aload_n (i := 0) (j := 0) rfl rfl (?_ : ky_V _ _ _ 1 _ _ _ _)
  refine gf_X1_30 rfl (i := 1) rfl (oc_X1 hm (ly_X1_c za)) rfl (?_ : ky_V _ _ _ 4 _ _ _ _)
  refine v_aload_n (i := 2) (j := 0) rfl rfl (?_ : ky_V _ _ _ 5 _ _ _ _)
  refine gf_X1_9 rfl (i := 3) rfl (oc_X1 hm (ly_X1_c za)) rfl (?_ : ky_V _ _ _ 8 _ _ _ _)
  refine v_icmp_lt (tgt := 25) (i := 4) rfl (by decide) (fun c1 => ?_) (fun c1 => ?_)
  · replace e := ky_ifT c1 e
    refine v_iconst (v := 0) (i := 11) rfl (by decide) (?_ : ky_V _ _ _ 26 _ _ _ _)
    refine v_iret (v := 0) (ty := .boolean) (i := 12) rfl rfl (by decide) ?_
    obtain ⟨rfl, rfl⟩ := ky_leaf e
    exact hr _ hm fr
  · replace e := ky_ifF c1 e
    refine v_aload_n (i := 5) (j := 0) rfl rfl (?_ : ky_V _ _ _ 12 _ _ _ _)
    refine gf_X1_18 rfl (i := 6) rfl (oc_X1 hm (ly_X1_c za)) rfl (?_ : ky_V _ _ _ 15 _ _ _ _)
    refine cl_X1_36 (As := [.int ((sk_c s a 0))]) rfl (i := 7) rfl rfl rfl (Nat.le_of_ble_eq_true rfl) (k_X5_isOut (sk_c s a 0) ⟨_, rfl, (?_ : ky_V _ _ _ 18 _ [.int ((po_isOut (sk_c s a 0)))] _ _)⟩)
    refine v_if_ne (tgt := 25) (i := 8) rfl (by decide) (fun c2 => ?_) (fun c2 => ?_)
    · replace e := ky_ifF c2 e
      refine v_iconst (v := 0) (i := 11) rfl (by decide) (?_ : ky_V _ _ _ 26 _ _ _ _)
      refine v_iret (v := 0) (ty := .boolean) (i := 12) rfl rfl (by decide) ?_
      obtain ⟨rfl, rfl⟩ := ky_leaf e
      exact hr _ hm fr
    · replace e := ky_ifT c2 e
      refine v_iconst (v := 1) (i := 9) rfl (by decide) (?_ : ky_V _ _ _ 22 _ _ _ _)
      refine v_goto (tgt := 26) (i := 10) rfl (by decide) (?_ : ky_V _ _ _ 26 _ _ _ _)
      refine v_iret (v := 1) (ty := .boolean) (i := 12) rfl rfl (by decide) ?_
      obtain ⟨rfl, rfl⟩ := ky_leaf e
      exact hr _ hm fr

def x1_isStill (N : Nat)  (s : sk_S) (a : Nat) : Option (sk_S × Int32) := (if lay_X1 (sk_K s) (sk_r s) a = true then (if (po_isOut (sk_c s a 0)) = 0 then ((x1_isDrowned N s a).bind (fun zz => (fun q3 x4 => (if x4 = 0 then (some (q3, 0)) else (some (q3, 1)))) zz.1 zz.2)) else (some (s, 1))) else none)
set_option maxRecDepth 20000 in
set_option maxHeartbeats 4000000 in
theorem k_X1_isStill {G : ky_GW} {d : Nat} {h : ky_HP} {Q : ky_RS → ky_HP → Prop} {s s9 : sk_S} {r9 : Int32} {a : Nat} (N : Nat) (hG : ky_OK G)   (hm : sk_hp G s h)  (e : x1_isStill N  s a = some (s9, r9)) (hr : ∀ h1, sk_hp G s9 h1 → sk_fr none s h s9 h1 → Q (.inl (some (.int r9))) h1) : ky_Call G (d + 2) M_X1_isStill [.ref a] h Q := by
  refine ky_ofV (by decide +kernel) rfl ok_X1_isStill (Nat.le_of_ble_eq_true rfl) ?_
  have fr : sk_fr none s h s h := sk_fr.rf
  unfold x1_isStill at e
  refine (?_ : ky_V _ _ _ 0 [(0, .ref a)] [] _ _)
  obtain ⟨za, e⟩ := ky_chkE e
  refine v_aload_n (i := 0) (j := 0) rfl rfl (?_ : ky_V _ _ _ 1 _ _ _ _)
  refine gf_X1_18 rfl (i := 1) rfl (oc_X1 hm (ly_X1_c za)) rfl (?_ : ky_V _ _ _ 4 _ _ _ _)
  refine cl_X1_36 (As := [.int ((sk_c s a 0))]) rfl (i := 2) rfl rfl rfl (Nat.le_of_ble_eq_true rfl) (k_X5_isOut (sk_c s a 0) ⟨_, rfl, (?_ : ky_V _ _ _ 7 _ [.int ((po_isOut (sk_c s a 0)))] _ _)⟩)
  refine v_if_ne (tgt := 17) (i := 3) rfl (by decide) (fun c1 => ?_) (fun c1 => ?_)
  · replace e := ky_ifF c1 e
    refine v_iconst (v := 1) (i := 7) rfl (by decide) (?_ : ky_V _ _ _ 18 _ _ _ _)
    refine v_goto (tgt := 22) (i := 8) rfl (by decide) (?_ : ky_V _ _ _ 22 _ _ _ _)
    refine v_iret (v := 1) (ty := .boolean) (i := 10) rfl rfl (by decide) ?_
    obtain ⟨rfl, rfl⟩ := ky_leaf e
    exact hr _ hm fr
  · replace e := ky_ifT c1 e
    refine v_aload_n (i := 4) (j := 0) rfl rfl (?_ : ky_V _ _ _ 11 _ _ _ _)
    obtain ⟨⟨q3, x4⟩, g5, e⟩ := Option.bind_eq_some_iff.mp e
    refine cl_X1_42 (As := []) rfl (i := 5) rfl (oc_X1 hm (ly_X1_c za)) rfl rfl (Nat.le_of_ble_eq_true rfl) (k_X1_isDrowned N hG hm g5 (fun h2 hmh2 frh2 => ⟨_, rfl, (?_ : ky_V _ _ _ 14 _ [.int x4] _ _)⟩))
    have frh2 := fr.tr frh2
    refine v_if_eq (tgt := 21) (i := 6) rfl (by decide) (fun c6 => ?_) (fun c6 => ?_)
    · replace e := ky_ifT c6 e
      refine v_iconst (v := 0) (i := 9) rfl (by decide) (?_ : ky_V _ _ _ 22 _ _ _ _)
      refine v_iret (v := 0) (ty := .boolean) (i := 10) rfl rfl (by decide) ?_
      obtain ⟨rfl, rfl⟩ := ky_leaf e
      exact hr _ hmh2 frh2
    · replace e := ky_ifF c6 e
      refine v_iconst (v := 1) (i := 7) rfl (by decide) (?_ : ky_V _ _ _ 18 _ _ _ _)
      refine v_goto (tgt := 22) (i := 8) rfl (by decide) (?_ : ky_V _ _ _ 22 _ _ _ _)
      refine v_iret (v := 1) (ty := .boolean) (i := 10) rfl rfl (by decide) ?_
      obtain ⟨rfl, rfl⟩ := ky_leaf e
      exact hr _ hmh2 frh2

def x1_pass (N : Nat)  (s : sk_S) (a : Nat) (p1 : Int32) : Option (sk_S × Int32) := (if lay_X1 (sk_K s) (sk_r s) a = true then (ky_let (mt_min 9999 ((sk_c s a 4) + p1)) (fun x1 => (ky_let (sk_wc s a 4 x1) (fun q3 => (some (q3, 0)))))) else none)
set_option maxRecDepth 20000 in
set_option maxHeartbeats 4000000 in
theorem k_X1_pass {G : ky_GW} {d : Nat} {h : ky_HP} {Q : ky_RS → ky_HP → Prop} {s s9 : sk_S} {r9 : Int32} {a : Nat} {p1 : Int32} (N : Nat) (hG : ky_OK G)   (hm : sk_hp G s h)  (e : x1_pass N  s a p1 = some (s9, r9)) (hr : ∀ h1, sk_hp G s9 h1 → sk_fr none s h s9 h1 → Q (.inl none) h1) : ky_Call G (d + 1) M_X1_pass [.ref a, .int p1] h Q := by
  refine ky_ofV (by decide +kernel) rfl ok_X1_pass (Nat.le_of_ble_eq_true rfl) ?_
  have fr : sk_fr none s h s h := sk_fr.rf
  unfold x1_pass at e
  refine (?_ : ky_V _ _ _ 0 [(0, .ref a), (1, .int p1)] [] _ _)
  obtain ⟨za, e⟩ := ky_chkE e
  refine v_aload_n (i := 0) (j := 0) rfl rfl (?_ : ky_V _ _ _ 1 _ _ _ _)
  refine v_sipush (v := 9999) (i := 1) rfl (by decide) (?_ : ky_V _ _ _ 4 _ _ _ _)
  refine v_aload_n (i := 2) (j := 0) rfl rfl (?_ : ky_V _ _ _ 5 _ _ _ _)
  refine gf_X1_30 rfl (i := 3) rfl (oc_X1 hm (ly_X1_c za)) rfl (?_ : ky_V _ _ _ 8 _ _ _ _)
  refine v_iload_n (i := 4) (j := 1) rfl rfl (?_ : ky_V _ _ _ 9 _ _ _ _)
  refine v_iadd (i := 5) rfl (?_ : ky_V _ _ _ 10 _ _ _ _)
  refine cl_X1_46 rfl (i := 6) rfl (Nat.le_of_ble_eq_true rfl) (?_ : ky_V _ _ _ 13 _ _ _ _)
  refine v_topi (fun x1 ex1 => ?_)
  replace e := ky_letE ex1 e
  refine pf_X1_30 rfl (i := 7) rfl (oc_X1 hm (ly_X1_c za)) (Nat.le_of_ble_eq_true rfl) rfl rfl ?_
  refine sk_stc (kd := 1) (n := 0) hm fr (ly_X1_c za) 4 x1 (fun h2 hmh2 frh2 => ?_)
  obtain ⟨q3, eq3⟩ : ∃ z, z = (sk_wc s a 4 x1) := ⟨_, rfl⟩
  rw [← eq3] at hmh2 frh2
  replace e := ky_letE eq3 e
  refine (?_ : ky_V _ _ _ 16 _ _ _ _)
  refine v_vret (i := 8) rfl rfl ?_
  obtain ⟨rfl, rfl⟩ := ky_leaf e
  exact hr _ hmh2 frh2

def x1_draw (N : Nat)  (s : sk_S) (a : Nat) : Option (sk_S × Int32) := (if lay_X1 (sk_K s) (sk_r s) a = true then (ky_let ((1103515245 * (sk_c s a 7)) + 12345) (fun x1 => (ky_let (sk_wc s a 7 x1) (fun q3 => (some (q3, ((Int32.toUInt32 (sk_c q3 a 7) >>> (Int32.toUInt32 16 &&& Int32.toUInt32 31)).toInt32 &&& 32767))))))) else none)
set_option maxRecDepth 20000 in
set_option maxHeartbeats 4000000 in
theorem k_X1_draw {G : ky_GW} {d : Nat} {h : ky_HP} {Q : ky_RS → ky_HP → Prop} {s s9 : sk_S} {r9 : Int32} {a : Nat} (N : Nat) (hG : ky_OK G)   (hm : sk_hp G s h)  (e : x1_draw N  s a = some (s9, r9)) (hr : ∀ h1, sk_hp G s9 h1 → sk_fr none s h s9 h1 → Q (.inl (some (.int r9))) h1) : ky_Call G d M_X1_draw [.ref a] h Q := by
  refine ky_ofV (by decide +kernel) rfl ok_X1_draw (Nat.le_of_ble_eq_true rfl) ?_
  have fr : sk_fr none s h s h := sk_fr.rf
  unfold x1_draw at e
  refine (?_ : ky_V _ _ _ 0 [(0, .ref a)] [] _ _)
  obtain ⟨za, e⟩ := ky_chkE e
  refine v_aload_n (i := 0) (j := 0) rfl rfl (?_ : ky_V _ _ _ 1 _ _ _ _)
  refine v_ldc (v := 1103515245) (i := 1) rfl (ky_t5 (i := 207) rfl rfl) (?_ : ky_V _ _ _ 3 _ _ _ _)
  refine v_aload_n (i := 2) (j := 0) rfl rfl (?_ : ky_V _ _ _ 4 _ _ _ _)
  refine gf_X1_15 rfl (i := 3) rfl (oc_X1 hm (ly_X1_c za)) rfl (?_ : ky_V _ _ _ 7 _ _ _ _)
  refine v_imul (i := 4) rfl (?_ : ky_V _ _ _ 8 _ _ _ _)
  refine v_sipush (v := 12345) (i := 5) rfl (by decide) (?_ : ky_V _ _ _ 11 _ _ _ _)
  refine v_iadd (i := 6) rfl (?_ : ky_V _ _ _ 12 _ _ _ _)
  refine v_topi (fun x1 ex1 => ?_)
  replace e := ky_letE ex1 e
  refine pf_X1_15 rfl (i := 7) rfl (oc_X1 hm (ly_X1_c za)) (Nat.le_of_ble_eq_true rfl) rfl rfl ?_
  refine sk_stc (kd := 1) (n := 0) hm fr (ly_X1_c za) 7 x1 (fun h2 hmh2 frh2 => ?_)
  obtain ⟨q3, eq3⟩ : ∃ z, z = (sk_wc s a 7 x1) := ⟨_, rfl⟩
  rw [← eq3] at hmh2 frh2
  replace e := ky_letE eq3 e
  refine (?_ : ky_V _ _ _ 15 _ _ _ _)
  refine v_aload_n (i := 8) (j := 0) rfl rfl (?_ : ky_V _ _ _ 16 _ _ _ _)
  refine gf_X1_15 rfl (i := 9) rfl (oc_X1 hmh2 (ly_X1_c (lt_X1 frh2 za))) rfl (?_ : ky_V _ _ _ 19 _ _ _ _)
  refine v_bipush (v := 16) (i := 10) rfl (by decide) (?_ : ky_V _ _ _ 21 _ _ _ _)
  refine v_iushr (i := 11) rfl rfl (?_ : ky_V _ _ _ 22 _ _ _ _)
  refine v_sipush (v := 32767) (i := 12) rfl (by decide) (?_ : ky_V _ _ _ 25 _ _ _ _)
  refine v_iand (i := 13) rfl (?_ : ky_V _ _ _ 26 _ _ _ _)
  refine v_iret (v := ((Int32.toUInt32 (sk_c q3 a 7) >>> (Int32.toUInt32 16 &&& Int32.toUInt32 31)).toInt32 &&& 32767)) (ty := .int) (i := 14) rfl rfl rfl ?_
  obtain ⟨rfl, rfl⟩ := ky_leaf e
  exact hr _ hmh2 frh2

def x1_bePulled (N : Nat)  (s : sk_S) (a : Nat) (p1 : Int32) : Option (sk_S × Int32) := (if lay_X1 (sk_K s) (sk_r s) a = true then (ky_let (po_pulled (sk_c s a 0) p1) (fun x1 => (ky_let (sk_wc s a 0 x1) (fun q3 => (ky_let (mt_min 999 ((sk_c q3 a 3) + (bo_harmOf p1))) (fun x4 => (ky_let (sk_wc q3 a 3 x4) (fun q6 => ((x1_pass N q6 a 2).bind (fun zz => (fun q8 x9 => (some (q8, 0))) zz.1 zz.2)))))))))) else none)
set_option maxRecDepth 20000 in
set_option maxHeartbeats 4000000 in
theorem k_X1_bePulled {G : ky_GW} {d : Nat} {h : ky_HP} {Q : ky_RS → ky_HP → Prop} {s s9 : sk_S} {r9 : Int32} {a : Nat} {p1 : Int32} (N : Nat) (hG : ky_OK G)   (hm : sk_hp G s h)  (e : x1_bePulled N  s a p1 = some (s9, r9)) (hr : ∀ h1, sk_hp G s9 h1 → sk_fr none s h s9 h1 → Q (.inl none) h1) : ky_Call G (d + 3) M_X1_bePulled [.ref a, .int p1] h Q := by
  refine ky_ofV (by decide +kernel) rfl ok_X1_bePulled (Nat.le_of_ble_eq_true rfl) ?_
  have fr : sk_fr none s h s h := sk_fr.rf
  unfold x1_bePulled at e
  refine (?_ : ky_V _ _ _ 0 [(0, .ref a), (1, .int p1)] [] _ _)
  obtain ⟨za, e⟩ := ky_chkE e
  refine v_aload_n (i := 0) (j := 0) rfl rfl (?_ : ky_V _ _ _ 1 _ _ _ _)
  refine v_aload_n (i := 1) (j := 0) rfl rfl (?_ : ky_V _ _ _ 2 _ _ _ _)
  refine gf_X1_18 rfl (i := 2) rfl (oc_X1 hm (ly_X1_c za)) rfl (?_ : ky_V _ _ _ 5 _ _ _ _)
  refine v_iload_n (i := 3) (j := 1) rfl rfl (?_ : ky_V _ _ _ 6 _ _ _ _)
  refine cl_X1_77 (As := [.int ((sk_c s a 0)), .int p1]) rfl (i := 4) rfl rfl rfl (Nat.le_of_ble_eq_true rfl) (k_X5_pulled (sk_c s a 0) p1 ⟨_, rfl, (?_ : ky_V _ _ _ 9 _ [.int ((po_pulled (sk_c s a 0) p1)), .ref a] _ _)⟩)
  refine v_topi (fun x1 ex1 => ?_)
  replace e := ky_letE ex1 e
  refine pf_X1_18 rfl (i := 5) rfl (oc_X1 hm (ly_X1_c za)) (Nat.le_of_ble_eq_true rfl) rfl rfl ?_
  refine sk_stc (kd := 1) (n := 0) hm fr (ly_X1_c za) 0 x1 (fun h2 hmh2 frh2 => ?_)
  obtain ⟨q3, eq3⟩ : ∃ z, z = (sk_wc s a 0 x1) := ⟨_, rfl⟩
  rw [← eq3] at hmh2 frh2
  replace e := ky_letE eq3 e
  refine (?_ : ky_V _ _ _ 12 _ _ _ _)
  refine v_aload_n (i := 6) (j := 0) rfl rfl (?_ : ky_V _ _ _ 13 _ _ _ _)
  refine v_sipush (v := 999) (i := 7) rfl (by decide) (?_ : ky_V _ _ _ 16 _ _ _ _)
  refine v_aload_n (i := 8) (j := 0) rfl rfl (?_ : ky_V _ _ _ 17 _ _ _ _)
  refine gf_X1_27 rfl (i := 9) rfl (oc_X1 hmh2 (ly_X1_c (lt_X1 frh2 za))) rfl (?_ : ky_V _ _ _ 20 _ _ _ _)
  refine v_iload_n (i := 10) (j := 1) rfl rfl (?_ : ky_V _ _ _ 21 _ _ _ _)
  refine cl_X1_80 (As := [.int p1]) rfl (i := 11) rfl rfl rfl (Nat.le_of_ble_eq_true rfl) (k_X1_harmOf p1 ⟨_, rfl, (?_ : ky_V _ _ _ 24 _ [.int ((bo_harmOf p1)), .int ((sk_c q3 a 3)), .int 999, .ref a] _ _)⟩)
  refine v_iadd (i := 12) rfl (?_ : ky_V _ _ _ 25 _ _ _ _)
  refine cl_X1_46 rfl (i := 13) rfl (Nat.le_of_ble_eq_true rfl) (?_ : ky_V _ _ _ 28 _ _ _ _)
  refine v_topi (fun x4 ex4 => ?_)
  replace e := ky_letE ex4 e
  refine pf_X1_27 rfl (i := 14) rfl (oc_X1 hmh2 (ly_X1_c (lt_X1 frh2 za))) (Nat.le_of_ble_eq_true rfl) rfl rfl ?_
  refine sk_stc (kd := 1) (n := 0) hmh2 frh2 (ly_X1_c (lt_X1 frh2 za)) 3 x4 (fun h5 hmh5 frh5 => ?_)
  obtain ⟨q6, eq6⟩ : ∃ z, z = (sk_wc q3 a 3 x4) := ⟨_, rfl⟩
  rw [← eq6] at hmh5 frh5
  replace e := ky_letE eq6 e
  refine (?_ : ky_V _ _ _ 31 _ _ _ _)
  refine v_aload_n (i := 15) (j := 0) rfl rfl (?_ : ky_V _ _ _ 32 _ _ _ _)
  refine v_iconst (v := 2) (i := 16) rfl (by decide) (?_ : ky_V _ _ _ 33 _ _ _ _)
  obtain ⟨⟨q8, x9⟩, g10, e⟩ := Option.bind_eq_some_iff.mp e
  refine cl_X1_70 (As := [.int 2]) rfl (i := 17) rfl (oc_X1 hmh5 (ly_X1_c (lt_X1 frh5 za))) rfl rfl (Nat.le_of_ble_eq_true rfl) (k_X1_pass N hG hmh5 g10 (fun h7 hmh7 frh7 => ⟨_, rfl, (?_ : ky_V _ _ _ 36 _ [] _ _)⟩))
  have frh7 := frh5.tr frh7
  refine v_vret (i := 18) rfl rfl ?_
  obtain ⟨rfl, rfl⟩ := ky_leaf e
  exact hr _ hmh7 frh7

def x1_drawMove (N : Nat)  (s : sk_S) (a : Nat) : Option (sk_S × Int32) := (if lay_X1 (sk_K s) (sk_r s) a = true then ((x1_draw N s a).bind (fun zz => (fun q2 x3 => (some (q2, (x3 - x3 / 7 * 7)))) zz.1 zz.2)) else none)
set_option maxRecDepth 20000 in
set_option maxHeartbeats 4000000 in
theorem k_X1_drawMove {G : ky_GW} {d : Nat} {h : ky_HP} {Q : ky_RS → ky_HP → Prop} {s s9 : sk_S} {r9 : Int32} {a : Nat} (N : Nat) (hG : ky_OK G)   (hm : sk_hp G s h)  (e : x1_drawMove N  s a = some (s9, r9)) (hr : ∀ h1, sk_hp G s9 h1 → sk_fr none s h s9 h1 → Q (.inl (some (.int r9))) h1) : ky_Call G (d + 1) M_X1_drawMove [.ref a] h Q := by
  refine ky_ofV (by decide +kernel) rfl ok_X1_drawMove (Nat.le_of_ble_eq_true rfl) ?_
  have fr : sk_fr none s h s h := sk_fr.rf
  unfold x1_drawMove at e
  refine (?_ : ky_V _ _ _ 0 [(0, .ref a)] [] _ _)
  obtain ⟨za, e⟩ := ky_chkE e
  refine v_aload_n (i := 0) (j := 0) rfl rfl (?_ : ky_V _ _ _ 1 _ _ _ _)
  obtain ⟨⟨q2, x3⟩, g4, e⟩ := Option.bind_eq_some_iff.mp e
  refine cl_X1_56 (As := []) rfl (i := 1) rfl (oc_X1 hm (ly_X1_c za)) rfl rfl (Nat.le_of_ble_eq_true rfl) (k_X1_draw N hG hm g4 (fun h1 hmh1 frh1 => ⟨_, rfl, (?_ : ky_V _ _ _ 4 _ [.int x3] _ _)⟩))
  have frh1 := fr.tr frh1
  refine v_bipush (v := 7) (i := 2) rfl (by decide) (?_ : ky_V _ _ _ 6 _ _ _ _)
  refine v_irem (i := 3) rfl (by decide) (?_ : ky_V _ _ _ 7 _ _ _ _)
  refine v_iret (v := (x3 - x3 / 7 * 7)) (ty := .int) (i := 4) rfl rfl rfl ?_
  obtain ⟨rfl, rfl⟩ := ky_leaf e
  exact hr _ hmh1 frh1

def x1_drawLeg (N : Nat)  (s : sk_S) (a : Nat) : Option (sk_S × Int32) := (if lay_X1 (sk_K s) (sk_r s) a = true then ((x1_draw N s a).bind (fun zz => (fun q2 x3 => (some (q2, (x3 - x3 / 2 * 2)))) zz.1 zz.2)) else none)
set_option maxRecDepth 20000 in
set_option maxHeartbeats 4000000 in
theorem k_X1_drawLeg {G : ky_GW} {d : Nat} {h : ky_HP} {Q : ky_RS → ky_HP → Prop} {s s9 : sk_S} {r9 : Int32} {a : Nat} (N : Nat) (hG : ky_OK G)   (hm : sk_hp G s h)  (e : x1_drawLeg N  s a = some (s9, r9)) (hr : ∀ h1, sk_hp G s9 h1 → sk_fr none s h s9 h1 → Q (.inl (some (.int r9))) h1) : ky_Call G (d + 1) M_X1_drawLeg [.ref a] h Q := by
  refine ky_ofV (by decide +kernel) rfl ok_X1_drawLeg (Nat.le_of_ble_eq_true rfl) ?_
  have fr : sk_fr none s h s h := sk_fr.rf
  unfold x1_drawLeg at e
  refine (?_ : ky_V _ _ _ 0 [(0, .ref a)] [] _ _)
  obtain ⟨za, e⟩ := ky_chkE e
  refine v_aload_n (i := 0) (j := 0) rfl rfl (?_ : ky_V _ _ _ 1 _ _ _ _)
  obtain ⟨⟨q2, x3⟩, g4, e⟩ := Option.bind_eq_some_iff.mp e
  refine cl_X1_56 (As := []) rfl (i := 1) rfl (oc_X1 hm (ly_X1_c za)) rfl rfl (Nat.le_of_ble_eq_true rfl) (k_X1_draw N hG hm g4 (fun h1 hmh1 frh1 => ⟨_, rfl, (?_ : ky_V _ _ _ 4 _ [.int x3] _ _)⟩))
  have frh1 := fr.tr frh1
  refine v_iconst (v := 2) (i := 2) rfl (by decide) (?_ : ky_V _ _ _ 5 _ _ _ _)
  refine v_irem (i := 3) rfl (by decide) (?_ : ky_V _ _ _ 6 _ _ _ _)
  refine v_iret (v := (x3 - x3 / 2 * 2)) (ty := .int) (i := 4) rfl rfl rfl ?_
  obtain ⟨rfl, rfl⟩ := ky_leaf e
  exact hr _ hmh1 frh1

def x2_init (N : Nat)  (s : sk_S) (a : Nat) : Option (sk_S × Int32) := (if sk_K s a = (3, 0) then (ky_let (sk_n s) (fun a1 => (ky_let (sk_nw s 21 60 60) (fun q3 => (ky_let (sk_wr q3 a 0 (some a1)) (fun q5 => (some (q5, 0)))))))) else none)
set_option maxRecDepth 20000 in
set_option maxHeartbeats 4000000 in
theorem k_X2_init {G : ky_GW} {d : Nat} {h : ky_HP} {Q : ky_RS → ky_HP → Prop} {s s9 : sk_S} {r9 : Int32} {a : Nat} (N : Nat) (hG : ky_OK G)   (hm : sk_hp G s h)  (e : x2_init N  s a = some (s9, r9)) (hr : ∀ h1, sk_hp G s9 h1 → sk_fr (some a) s h s9 h1 → Q (.inl none) h1) : ky_Call G (d + 1) M_X2_init [.ref a] h Q := by
  refine ky_ofV (by decide +kernel) rfl ok_X2_init (Nat.le_of_ble_eq_true rfl) ?_
  have fr : sk_fr (some a) s h s h := sk_fr.rf
  unfold x2_init at e
  refine (?_ : ky_V _ _ _ 0 [(0, .ref a)] [] _ _)
  obtain ⟨z0, e⟩ := ky_chkE e
  refine v_aload_n (i := 0) (j := 0) rfl rfl (?_ : ky_V _ _ _ 1 _ _ _ _)
  refine v_objInit (by rw [show M_X2_init.1.cls = "WaistSand$Diary" from rfl]; exact ky_t1 (i := 235) rfl rfl) (ky_t1 (i := 36) rfl rfl) (ky_t1 (i := 37) rfl rfl) (i := 1) rfl (Nat.le_of_ble_eq_true rfl) (?_ : ky_V _ _ _ 4 _ _ _ _)
  refine v_aload_n (i := 2) (j := 0) rfl rfl (?_ : ky_V _ _ _ 5 _ _ _ _)
  refine v_bipush (v := 60) (i := 3) rfl (by decide) (?_ : ky_V _ _ _ 7 _ _ _ _)
  refine v_newi (N := 60) (ky_t1 (i := 87) rfl rfl) (i := 4) rfl (by decide) rfl (by decide) ?_
  refine sk_snw hm fr 21 60 rfl (fun a1 h2 ea1 hmh2 frh2 => ?_)
  replace e := ky_letE ea1 e
  obtain ⟨q3, eq3⟩ : ∃ z, z = (sk_nw s 21 60 60) := ⟨_, rfl⟩
  rw [← eq3] at hmh2 frh2
  replace e := ky_letE eq3 e
  refine (?_ : ky_V _ _ _ 9 _ (.ref a1 :: _) _ _)
  refine pf_X2_11 rfl rfl (i := 5) rfl (oc_X2 hmh2 (frh2.K (k := 2) z0)) (Nat.le_of_ble_eq_true rfl) rfl rfl ?_
  refine sk_str (kd := 2) (n := 0) hmh2 frh2 (frh2.K (k := 2) z0) 0 (some a1) (Or.inr rfl) (fun h4 hmh4 frh4 => ?_)
  obtain ⟨q5, eq5⟩ : ∃ z, z = (sk_wr q3 a 0 (some a1)) := ⟨_, rfl⟩
  rw [← eq5] at hmh4 frh4
  replace e := ky_letE eq5 e
  refine (?_ : ky_V _ _ _ 12 _ _ _ _)
  refine v_vret (i := 6) rfl rfl ?_
  obtain ⟨rfl, rfl⟩ := ky_leaf e
  exact hr _ hmh4 frh4

def x2_become (N : Nat)  (s : sk_S) (a : Nat) (a1_ : Nat) : Option (sk_S × Int32) := (if lay_X2 (sk_K s) (sk_r s) a = true then (if lay_X2 (sk_K s) (sk_r s) a1_ = true then (ky_let (sk_wf s (a + 1) (va_cpy (sk_c s (a1_ + 1)) (sk_c s (a + 1)) 0 0 60)) (fun q2 => (ky_let (sk_c q2 a1_ 1) (fun x3 => (ky_let (sk_wc q2 a 1 x3) (fun q5 => (ky_let (sk_c q5 a1_ 2) (fun x6 => (ky_let (sk_wc q5 a 2 x6) (fun q8 => (some (q8, 0)))))))))))) else none) else none)
set_option maxRecDepth 20000 in
set_option maxHeartbeats 4000000 in
theorem k_X2_become {G : ky_GW} {d : Nat} {h : ky_HP} {Q : ky_RS → ky_HP → Prop} {s s9 : sk_S} {r9 : Int32} {a : Nat} {a1_ : Nat} (N : Nat) (hG : ky_OK G)   (hm : sk_hp G s h)  (e : x2_become N  s a a1_ = some (s9, r9)) (hr : ∀ h1, sk_hp G s9 h1 → sk_fr none s h s9 h1 → Q (.inl none) h1) : ky_Call G (d + 1) M_X2_become [.ref a, .ref a1_] h Q := by
  refine ky_ofV (by decide +kernel) rfl ok_X2_become (Nat.le_of_ble_eq_true rfl) ?_
  have fr : sk_fr none s h s h := sk_fr.rf
  unfold x2_become at e
  refine (?_ : ky_V _ _ _ 0 [(0, .ref a), (1, .ref a1_)] [] _ _)
  obtain ⟨za, e⟩ := ky_chkE e
  obtain ⟨za1_, e⟩ := ky_chkE e
  refine v_aload_n (i := 0) (j := 1) rfl rfl (?_ : ky_V _ _ _ 1 _ _ _ _)
  refine gf_X2_11 rfl (i := 1) rfl (oc_X2 hm (ly_X2_c za1_)) (sk_rf (ly_X2_r0 za1_)) (?_ : ky_V _ _ _ 4 _ (.ref (a1_ + 1) :: _) _ _)
  refine v_iconst (v := 0) (i := 2) rfl (by decide) (?_ : ky_V _ _ _ 5 _ _ _ _)
  refine v_aload_n (i := 3) (j := 0) rfl rfl (?_ : ky_V _ _ _ 6 _ _ _ _)
  refine gf_X2_11 rfl (i := 4) rfl (oc_X2 hm (ly_X2_c za)) (sk_rf (ly_X2_r0 za)) (?_ : ky_V _ _ _ 9 _ (.ref (a + 1) :: _) _ _)
  refine v_iconst (v := 0) (i := 5) rfl (by decide) (?_ : ky_V _ _ _ 10 _ _ _ _)
  refine v_bipush (v := 60) (i := 6) rfl (by decide) (?_ : ky_V _ _ _ 12 _ _ _ _)
  refine v_copyi (sp := 0) (dp := 0) (n := 60) (by rw [show M_X2_become.1.cls = "WaistSand$Diary" from rfl]; exact ky_t3 (i := 143) rfl rfl) (ky_t3 (i := 133) rfl rfl) (ky_t3 (i := 132) rfl rfl) (ky_t1 (i := 22) rfl rfl) (i := 7) rfl (oa_21 hm (ly_X2_k0 za1_)) (oa_21 hm (ly_X2_k0 za)) (by decide) (by decide) (by decide) (by decide) (by decide) (Nat.le_of_ble_eq_true rfl) ?_
  refine sk_stf (kd := 20) hm fr (ly_X2_k0 za) (va_cpy (sk_c s (a1_ + 1)) (sk_c s (a + 1)) 0 0 60) (fun h1 hmh1 frh1 => ?_)
  obtain ⟨q2, eq2⟩ : ∃ z, z = (sk_wf s (a + 1) (va_cpy (sk_c s (a1_ + 1)) (sk_c s (a + 1)) 0 0 60)) := ⟨_, rfl⟩
  rw [← eq2] at hmh1 frh1
  replace e := ky_letE eq2 e
  refine (?_ : ky_V _ _ _ 15 _ _ _ _)
  refine v_aload_n (i := 8) (j := 0) rfl rfl (?_ : ky_V _ _ _ 16 _ _ _ _)
  refine v_aload_n (i := 9) (j := 1) rfl rfl (?_ : ky_V _ _ _ 17 _ _ _ _)
  refine gf_X2_21 rfl (i := 10) rfl (oc_X2 hmh1 (ly_X2_c (lt_X2 frh1 za1_))) rfl (?_ : ky_V _ _ _ 20 _ _ _ _)
  refine v_topi (fun x3 ex3 => ?_)
  replace e := ky_letE ex3 e
  refine pf_X2_21 rfl (i := 11) rfl (oc_X2 hmh1 (ly_X2_c (lt_X2 frh1 za))) (Nat.le_of_ble_eq_true rfl) rfl rfl ?_
  refine sk_stc (kd := 2) (n := 0) hmh1 frh1 (ly_X2_c (lt_X2 frh1 za)) 1 x3 (fun h4 hmh4 frh4 => ?_)
  obtain ⟨q5, eq5⟩ : ∃ z, z = (sk_wc q2 a 1 x3) := ⟨_, rfl⟩
  rw [← eq5] at hmh4 frh4
  replace e := ky_letE eq5 e
  refine (?_ : ky_V _ _ _ 23 _ _ _ _)
  refine v_aload_n (i := 12) (j := 0) rfl rfl (?_ : ky_V _ _ _ 24 _ _ _ _)
  refine v_aload_n (i := 13) (j := 1) rfl rfl (?_ : ky_V _ _ _ 25 _ _ _ _)
  refine gf_X2_25 rfl (i := 14) rfl (oc_X2 hmh4 (ly_X2_c (lt_X2 frh4 za1_))) rfl (?_ : ky_V _ _ _ 28 _ _ _ _)
  refine v_topi (fun x6 ex6 => ?_)
  replace e := ky_letE ex6 e
  refine pf_X2_25 rfl (i := 15) rfl (oc_X2 hmh4 (ly_X2_c (lt_X2 frh4 za))) (Nat.le_of_ble_eq_true rfl) rfl rfl ?_
  refine sk_stc (kd := 2) (n := 0) hmh4 frh4 (ly_X2_c (lt_X2 frh4 za)) 2 x6 (fun h7 hmh7 frh7 => ?_)
  obtain ⟨q8, eq8⟩ : ∃ z, z = (sk_wc q5 a 2 x6) := ⟨_, rfl⟩
  rw [← eq8] at hmh7 frh7
  replace e := ky_letE eq8 e
  refine (?_ : ky_V _ _ _ 31 _ _ _ _)
  refine v_vret (i := 16) rfl rfl ?_
  obtain ⟨rfl, rfl⟩ := ky_leaf e
  exact hr _ hmh7 frh7

def x2_add (N : Nat)  (s : sk_S) (a : Nat) (p1 : Int32) (p2 : Int32) (p3 : Int32) (p4 : Int32) : Option (sk_S × Int32) := (if lay_X2 (sk_K s) (sk_r s) a = true then (ky_let (((((p1 <<< ((13 : Int32) &&& 31)) ||| (p2 <<< ((10 : Int32) &&& 31))) ||| (p3 <<< ((8 : Int32) &&& 31))) ||| ((po_depth0 p4) <<< ((4 : Int32) &&& 31))) ||| (po_depth1 p4)) (fun x1 => (if ky_inB (sk_c s a 1) 60 = true then (ky_let (sk_wc s (a + 1) (Int32.toNatClampNeg (sk_c s a 1)) x1) (fun q4 => (if (60 : Int32) ≤ ((sk_c q4 a 1) + 1) then (ky_let (sk_wc q4 a 1 0) (fun q7 => (ky_let (mt_min 60 ((sk_c q7 a 2) + 1)) (fun x8 => (ky_let (sk_wc q7 a 2 x8) (fun q10 => (some (q10, 0)))))))) else (ky_let ((sk_c q4 a 1) + 1) (fun x11 => (ky_let (sk_wc q4 a 1 x11) (fun q13 => (ky_let (mt_min 60 ((sk_c q13 a 2) + 1)) (fun x14 => (ky_let (sk_wc q13 a 2 x14) (fun q16 => (some (q16, 0))))))))))))) else none))) else none)
set_option maxRecDepth 20000 in
set_option maxHeartbeats 4000000 in
theorem k_X2_add {G : ky_GW} {d : Nat} {h : ky_HP} {Q : ky_RS → ky_HP → Prop} {s s9 : sk_S} {r9 : Int32} {a : Nat} {p1 : Int32} {p2 : Int32} {p3 : Int32} {p4 : Int32} (N : Nat) (hG : ky_OK G)   (hm : sk_hp G s h)  (e : x2_add N  s a p1 p2 p3 p4 = some (s9, r9)) (hr : ∀ h1, sk_hp G s9 h1 → sk_fr none s h s9 h1 → Q (.inl none) h1) : ky_Call G (d + 1) M_X2_add [.ref a, .int p1, .int p2, .int p3, .int p4] h Q := by
  refine ky_ofV (by decide +kernel) rfl ok_X2_add (Nat.le_of_ble_eq_true rfl) ?_
  have fr : sk_fr none s h s h := sk_fr.rf
  unfold x2_add at e
  refine (?_ : ky_V _ _ _ 0 [(0, .ref a), (1, .int p1), (2, .int p2), (3, .int p3), (4, .int p4)] [] _ _)
  obtain ⟨za, e⟩ := ky_chkE e
  refine v_aload_n (i := 0) (j := 0) rfl rfl (?_ : ky_V _ _ _ 1 _ _ _ _)
  refine gf_X2_11 rfl (i := 1) rfl (oc_X2 hm (ly_X2_c za)) (sk_rf (ly_X2_r0 za)) (?_ : ky_V _ _ _ 4 _ (.ref (a + 1) :: _) _ _)
  refine v_aload_n (i := 2) (j := 0) rfl rfl (?_ : ky_V _ _ _ 5 _ _ _ _)
  refine gf_X2_21 rfl (i := 3) rfl (oc_X2 hm (ly_X2_c za)) rfl (?_ : ky_V _ _ _ 8 _ _ _ _)
  refine v_iload_n (i := 4) (j := 1) rfl rfl (?_ : ky_V _ _ _ 9 _ _ _ _)
  refine v_bipush (v := 13) (i := 5) rfl (by decide) (?_ : ky_V _ _ _ 11 _ _ _ _)
  refine v_ishl (i := 6) rfl (?_ : ky_V _ _ _ 12 _ _ _ _)
  refine v_iload_n (i := 7) (j := 2) rfl rfl (?_ : ky_V _ _ _ 13 _ _ _ _)
  refine v_bipush (v := 10) (i := 8) rfl (by decide) (?_ : ky_V _ _ _ 15 _ _ _ _)
  refine v_ishl (i := 9) rfl (?_ : ky_V _ _ _ 16 _ _ _ _)
  refine v_ior (i := 10) rfl (?_ : ky_V _ _ _ 17 _ _ _ _)
  refine v_iload_n (i := 11) (j := 3) rfl rfl (?_ : ky_V _ _ _ 18 _ _ _ _)
  refine v_bipush (v := 8) (i := 12) rfl (by decide) (?_ : ky_V _ _ _ 20 _ _ _ _)
  refine v_ishl (i := 13) rfl (?_ : ky_V _ _ _ 21 _ _ _ _)
  refine v_ior (i := 14) rfl (?_ : ky_V _ _ _ 22 _ _ _ _)
  refine v_iload (i := 15) (j := 4) rfl rfl (?_ : ky_V _ _ _ 24 _ _ _ _)
  refine cl_X2_28 (As := [.int p4]) rfl (i := 16) rfl rfl rfl (Nat.le_of_ble_eq_true rfl) (k_X5_depth0 p4 ⟨_, rfl, (?_ : ky_V _ _ _ 27 _ [.int ((po_depth0 p4)), .int ((((p1 <<< ((13 : Int32) &&& 31)) ||| (p2 <<< ((10 : Int32) &&& 31))) ||| (p3 <<< ((8 : Int32) &&& 31)))), .int ((sk_c s a 1)), .ref ((a + 1))] _ _)⟩)
  refine v_iconst (v := 4) (i := 17) rfl (by decide) (?_ : ky_V _ _ _ 28 _ _ _ _)
  refine v_ishl (i := 18) rfl (?_ : ky_V _ _ _ 29 _ _ _ _)
  refine v_ior (i := 19) rfl (?_ : ky_V _ _ _ 30 _ _ _ _)
  refine v_iload (i := 20) (j := 4) rfl rfl (?_ : ky_V _ _ _ 32 _ _ _ _)
  refine cl_X2_34 (As := [.int p4]) rfl (i := 21) rfl rfl rfl (Nat.le_of_ble_eq_true rfl) (k_X5_depth1 p4 ⟨_, rfl, (?_ : ky_V _ _ _ 35 _ [.int ((po_depth1 p4)), .int (((((p1 <<< ((13 : Int32) &&& 31)) ||| (p2 <<< ((10 : Int32) &&& 31))) ||| (p3 <<< ((8 : Int32) &&& 31))) ||| ((po_depth0 p4) <<< ((4 : Int32) &&& 31)))), .int ((sk_c s a 1)), .ref ((a + 1))] _ _)⟩)
  refine v_ior (i := 22) rfl (?_ : ky_V _ _ _ 36 _ _ _ _)
  refine v_topi (fun x1 ex1 => ?_)
  replace e := ky_letE ex1 e
  obtain ⟨z2, e⟩ := ky_chkE e
  refine v_iast (i := 23) rfl (oa_21 hm (ly_X2_k0 za)) (ky_inb z2) ?_
  refine sk_stc (kd := 20) hm fr (ly_X2_k0 za) (Int32.toNatClampNeg (sk_c s a 1)) x1 (fun h3 hmh3 frh3 => ?_)
  obtain ⟨q4, eq4⟩ : ∃ z, z = (sk_wc s (a + 1) (Int32.toNatClampNeg (sk_c s a 1)) x1) := ⟨_, rfl⟩
  rw [← eq4] at hmh3 frh3
  replace e := ky_letE eq4 e
  refine (?_ : ky_V _ _ _ 37 _ _ _ _)
  refine v_aload_n (i := 24) (j := 0) rfl rfl (?_ : ky_V _ _ _ 38 _ _ _ _)
  refine v_aload_n (i := 25) (j := 0) rfl rfl (?_ : ky_V _ _ _ 39 _ _ _ _)
  refine gf_X2_21 rfl (i := 26) rfl (oc_X2 hmh3 (ly_X2_c (lt_X2 frh3 za))) rfl (?_ : ky_V _ _ _ 42 _ _ _ _)
  refine v_iconst (v := 1) (i := 27) rfl (by decide) (?_ : ky_V _ _ _ 43 _ _ _ _)
  refine v_iadd (i := 28) rfl (?_ : ky_V _ _ _ 44 _ _ _ _)
  refine v_bipush (v := 60) (i := 29) rfl (by decide) (?_ : ky_V _ _ _ 46 _ _ _ _)
  refine v_icmp_ge (tgt := 58) (i := 30) rfl (by decide) (fun c5 => ?_) (fun c5 => ?_)
  · replace e := ky_ifT c5 e
    refine v_iconst (v := 0) (i := 36) rfl (by decide) (?_ : ky_V _ _ _ 59 _ _ _ _)
    refine pf_X2_21 rfl (i := 37) rfl (oc_X2 hmh3 (ly_X2_c (lt_X2 frh3 za))) (Nat.le_of_ble_eq_true rfl) rfl rfl ?_
    refine sk_stc (kd := 2) (n := 0) hmh3 frh3 (ly_X2_c (lt_X2 frh3 za)) 1 0 (fun h6 hmh6 frh6 => ?_)
    obtain ⟨q7, eq7⟩ : ∃ z, z = (sk_wc q4 a 1 0) := ⟨_, rfl⟩
    rw [← eq7] at hmh6 frh6
    replace e := ky_letE eq7 e
    refine (?_ : ky_V _ _ _ 62 _ _ _ _)
    refine v_aload_n (i := 38) (j := 0) rfl rfl (?_ : ky_V _ _ _ 63 _ _ _ _)
    refine v_bipush (v := 60) (i := 39) rfl (by decide) (?_ : ky_V _ _ _ 65 _ _ _ _)
    refine v_aload_n (i := 40) (j := 0) rfl rfl (?_ : ky_V _ _ _ 66 _ _ _ _)
    refine gf_X2_25 rfl (i := 41) rfl (oc_X2 hmh6 (ly_X2_c (lt_X2 frh6 za))) rfl (?_ : ky_V _ _ _ 69 _ _ _ _)
    refine v_iconst (v := 1) (i := 42) rfl (by decide) (?_ : ky_V _ _ _ 70 _ _ _ _)
    refine v_iadd (i := 43) rfl (?_ : ky_V _ _ _ 71 _ _ _ _)
    refine cl_X2_37 rfl (i := 44) rfl (Nat.le_of_ble_eq_true rfl) (?_ : ky_V _ _ _ 74 _ _ _ _)
    refine v_topi (fun x8 ex8 => ?_)
    replace e := ky_letE ex8 e
    refine pf_X2_25 rfl (i := 45) rfl (oc_X2 hmh6 (ly_X2_c (lt_X2 frh6 za))) (Nat.le_of_ble_eq_true rfl) rfl rfl ?_
    refine sk_stc (kd := 2) (n := 0) hmh6 frh6 (ly_X2_c (lt_X2 frh6 za)) 2 x8 (fun h9 hmh9 frh9 => ?_)
    obtain ⟨q10, eq10⟩ : ∃ z, z = (sk_wc q7 a 2 x8) := ⟨_, rfl⟩
    rw [← eq10] at hmh9 frh9
    replace e := ky_letE eq10 e
    refine (?_ : ky_V _ _ _ 77 _ _ _ _)
    refine v_vret (i := 46) rfl rfl ?_
    obtain ⟨rfl, rfl⟩ := ky_leaf e
    exact hr _ hmh9 frh9
  · replace e := ky_ifF c5 e
    refine v_aload_n (i := 31) (j := 0) rfl rfl (?_ : ky_V _ _ _ 50 _ _ _ _)
    refine gf_X2_21 rfl (i := 32) rfl (oc_X2 hmh3 (ly_X2_c (lt_X2 frh3 za))) rfl (?_ : ky_V _ _ _ 53 _ _ _ _)
    refine v_iconst (v := 1) (i := 33) rfl (by decide) (?_ : ky_V _ _ _ 54 _ _ _ _)
    refine v_iadd (i := 34) rfl (?_ : ky_V _ _ _ 55 _ _ _ _)
    refine v_goto (tgt := 59) (i := 35) rfl (by decide) (?_ : ky_V _ _ _ 59 _ _ _ _)
    refine v_topi (fun x11 ex11 => ?_)
    replace e := ky_letE ex11 e
    refine pf_X2_21 rfl (i := 37) rfl (oc_X2 hmh3 (ly_X2_c (lt_X2 frh3 za))) (Nat.le_of_ble_eq_true rfl) rfl rfl ?_
    refine sk_stc (kd := 2) (n := 0) hmh3 frh3 (ly_X2_c (lt_X2 frh3 za)) 1 x11 (fun h12 hmh12 frh12 => ?_)
    obtain ⟨q13, eq13⟩ : ∃ z, z = (sk_wc q4 a 1 x11) := ⟨_, rfl⟩
    rw [← eq13] at hmh12 frh12
    replace e := ky_letE eq13 e
    refine (?_ : ky_V _ _ _ 62 _ _ _ _)
    refine v_aload_n (i := 38) (j := 0) rfl rfl (?_ : ky_V _ _ _ 63 _ _ _ _)
    refine v_bipush (v := 60) (i := 39) rfl (by decide) (?_ : ky_V _ _ _ 65 _ _ _ _)
    refine v_aload_n (i := 40) (j := 0) rfl rfl (?_ : ky_V _ _ _ 66 _ _ _ _)
    refine gf_X2_25 rfl (i := 41) rfl (oc_X2 hmh12 (ly_X2_c (lt_X2 frh12 za))) rfl (?_ : ky_V _ _ _ 69 _ _ _ _)
    refine v_iconst (v := 1) (i := 42) rfl (by decide) (?_ : ky_V _ _ _ 70 _ _ _ _)
    refine v_iadd (i := 43) rfl (?_ : ky_V _ _ _ 71 _ _ _ _)
    refine cl_X2_37 rfl (i := 44) rfl (Nat.le_of_ble_eq_true rfl) (?_ : ky_V _ _ _ 74 _ _ _ _)
    refine v_topi (fun x14 ex14 => ?_)
    replace e := ky_letE ex14 e
    refine pf_X2_25 rfl (i := 45) rfl (oc_X2 hmh12 (ly_X2_c (lt_X2 frh12 za))) (Nat.le_of_ble_eq_true rfl) rfl rfl ?_
    refine sk_stc (kd := 2) (n := 0) hmh12 frh12 (ly_X2_c (lt_X2 frh12 za)) 2 x14 (fun h15 hmh15 frh15 => ?_)
    obtain ⟨q16, eq16⟩ : ∃ z, z = (sk_wc q13 a 2 x14) := ⟨_, rfl⟩
    rw [← eq16] at hmh15 frh15
    replace e := ky_letE eq16 e
    refine (?_ : ky_V _ _ _ 77 _ _ _ _)
    refine v_vret (i := 46) rfl rfl ?_
    obtain ⟨rfl, rfl⟩ := ky_leaf e
    exact hr _ hmh15 frh15

def x2_row (N : Nat)  (s : sk_S) (a : Nat) (p1 : Int32) : Option (sk_S × Int32) := (if lay_X2 (sk_K s) (sk_r s) a = true then (ky_let (((sk_c s a 1) - 1) - p1) (fun x1 => (if 0 ≤ x1 then (if ky_inB x1 60 = true then (some (s, (sk_c s (a + 1) (Int32.toNatClampNeg x1)))) else none) else (if ky_inB (x1 + 60) 60 = true then (some (s, (sk_c s (a + 1) (Int32.toNatClampNeg (x1 + 60))))) else none)))) else none)
set_option maxRecDepth 20000 in
set_option maxHeartbeats 4000000 in
theorem k_X2_row {G : ky_GW} {d : Nat} {h : ky_HP} {Q : ky_RS → ky_HP → Prop} {s s9 : sk_S} {r9 : Int32} {a : Nat} {p1 : Int32} (N : Nat) (hG : ky_OK G)   (hm : sk_hp G s h)  (e : x2_row N  s a p1 = some (s9, r9)) (hr : ∀ h1, sk_hp G s9 h1 → sk_fr none s h s9 h1 → Q (.inl (some (.int r9))) h1) : ky_Call G d M_X2_row [.ref a, .int p1] h Q := by
  refine ky_ofV (by decide +kernel) rfl ok_X2_row (Nat.le_of_ble_eq_true rfl) ?_
  have fr : sk_fr none s h s h := sk_fr.rf
  unfold x2_row at e
  refine (?_ : ky_V _ _ _ 0 [(0, .ref a), (1, .int p1)] [] _ _)
  obtain ⟨za, e⟩ := ky_chkE e
  refine v_aload_n (i := 0) (j := 0) rfl rfl (?_ : ky_V _ _ _ 1 _ _ _ _)
  refine gf_X2_21 rfl (i := 1) rfl (oc_X2 hm (ly_X2_c za)) rfl (?_ : ky_V _ _ _ 4 _ _ _ _)
  refine v_iconst (v := 1) (i := 2) rfl (by decide) (?_ : ky_V _ _ _ 5 _ _ _ _)
  refine v_isub (i := 3) rfl (?_ : ky_V _ _ _ 6 _ _ _ _)
  refine v_iload_n (i := 4) (j := 1) rfl rfl (?_ : ky_V _ _ _ 7 _ _ _ _)
  refine v_isub (i := 5) rfl (?_ : ky_V _ _ _ 8 _ _ _ _)
  refine v_topi (fun x1 ex1 => ?_)
  replace e := ky_letE ex1 e
  refine v_istore_n (L' := [(0, .ref a), (1, .int p1), (2, .int x1)]) [1, 2, 0] (i := 6) rfl (Nat.le_of_ble_eq_true rfl) rfl (?_ : ky_V _ _ _ 9 _ _ _ _)
  refine v_aload_n (i := 7) (j := 0) rfl rfl (?_ : ky_V _ _ _ 10 _ _ _ _)
  refine gf_X2_11 rfl (i := 8) rfl (oc_X2 hm (ly_X2_c za)) (sk_rf (ly_X2_r0 za)) (?_ : ky_V _ _ _ 13 _ (.ref (a + 1) :: _) _ _)
  refine v_iload_n (i := 9) (j := 2) rfl rfl (?_ : ky_V _ _ _ 14 _ _ _ _)
  refine v_if_ge (tgt := 24) (i := 10) rfl (by decide) (fun c2 => ?_) (fun c2 => ?_)
  · replace e := ky_ifT c2 e
    refine v_iload_n (i := 15) (j := 2) rfl rfl (?_ : ky_V _ _ _ 25 _ _ _ _)
    obtain ⟨z3, e⟩ := ky_chkE e
    refine v_iald (i := 16) rfl (oa_21 hm (ly_X2_k0 za)) (ky_inb z3) (?_ : ky_V _ _ _ 26 _ (.int (sk_c s (a + 1) (Int32.toNatClampNeg x1)) :: _) _ _)
    refine v_iret (v := (sk_c s (a + 1) (Int32.toNatClampNeg x1))) (ty := .int) (i := 17) rfl rfl rfl ?_
    obtain ⟨rfl, rfl⟩ := ky_leaf e
    exact hr _ hm fr
  · replace e := ky_ifF c2 e
    refine v_iload_n (i := 11) (j := 2) rfl rfl (?_ : ky_V _ _ _ 18 _ _ _ _)
    refine v_bipush (v := 60) (i := 12) rfl (by decide) (?_ : ky_V _ _ _ 20 _ _ _ _)
    refine v_iadd (i := 13) rfl (?_ : ky_V _ _ _ 21 _ _ _ _)
    refine v_goto (tgt := 25) (i := 14) rfl (by decide) (?_ : ky_V _ _ _ 25 _ _ _ _)
    obtain ⟨z4, e⟩ := ky_chkE e
    refine v_iald (i := 16) rfl (oa_21 hm (ly_X2_k0 za)) (ky_inb z4) (?_ : ky_V _ _ _ 26 _ (.int (sk_c s (a + 1) (Int32.toNatClampNeg (x1 + 60))) :: _) _ _)
    refine v_iret (v := (sk_c s (a + 1) (Int32.toNatClampNeg (x1 + 60)))) (ty := .int) (i := 17) rfl rfl rfl ?_
    obtain ⟨rfl, rfl⟩ := ky_leaf e
    exact hr _ hm fr

def x2_part (N : Nat)  (s : sk_S) (p0 : Int32) (p1 : Int32) : Option (sk_S × Int32) := (if p1 = 0 then (some (s, (p0 >>> ((13 : Int32) &&& 31)))) else (if p1 = 1 then (some (s, ((p0 >>> ((10 : Int32) &&& 31)) &&& 7))) else (if p1 = 2 then (some (s, ((p0 >>> ((8 : Int32) &&& 31)) &&& 3))) else (if p1 = 3 then (some (s, ((p0 >>> ((4 : Int32) &&& 31)) &&& 15))) else (some (s, (p0 &&& 15)))))))
set_option maxRecDepth 20000 in
set_option maxHeartbeats 4000000 in
theorem k_X2_part {G : ky_GW} {d : Nat} {h : ky_HP} {Q : ky_RS → ky_HP → Prop} {s s9 : sk_S} {r9 : Int32} {p0 : Int32} {p1 : Int32} (N : Nat) (hG : ky_OK G)   (hm : sk_hp G s h)  (e : x2_part N  s p0 p1 = some (s9, r9)) (hr : ∀ h1, sk_hp G s9 h1 → sk_fr none s h s9 h1 → Q (.inl (some (.int r9))) h1) : ky_Call G d M_X2_part [.int p0, .int p1] h Q := by
  refine ky_ofV (by decide +kernel) rfl ok_X2_part (Nat.le_of_ble_eq_true rfl) ?_
  have fr : sk_fr none s h s h := sk_fr.rf
  unfold x2_part at e
  refine (?_ : ky_V _ _ _ 0 [(0, .int p0), (1, .int p1)] [] _ _)
  refine v_iload_n (i := 0) (j := 1) rfl rfl (?_ : ky_V _ _ _ 1 _ _ _ _)
  rcases Classical.em (p1 = 0) with c1 | c1
  · replace e := ky_ifT c1 e
    refine v_tableIn (off := 31) (tgt := 32) (i := 1) rfl (by rw [c1]; decide) (by rw [c1]; decide) (by rw [c1]; rfl) (by decide) ?_
    refine v_iload_n (i := 2) (j := 0) rfl rfl (?_ : ky_V _ _ _ 33 _ _ _ _)
    refine v_bipush (v := 13) (i := 3) rfl (by decide) (?_ : ky_V _ _ _ 35 _ _ _ _)
    refine v_ishr (i := 4) rfl (?_ : ky_V _ _ _ 36 _ _ _ _)
    refine v_iret (v := (p0 >>> ((13 : Int32) &&& 31))) (ty := .int) (i := 5) rfl rfl rfl ?_
    obtain ⟨rfl, rfl⟩ := ky_leaf e
    exact hr _ hm fr
  · replace e := ky_ifF c1 e
    rcases Classical.em (p1 = 1) with c2 | c2
    · replace e := ky_ifT c2 e
      refine v_tableIn (off := 36) (tgt := 37) (i := 1) rfl (by rw [c2]; decide) (by rw [c2]; decide) (by rw [c2]; rfl) (by decide) ?_
      refine v_iload_n (i := 6) (j := 0) rfl rfl (?_ : ky_V _ _ _ 38 _ _ _ _)
      refine v_bipush (v := 10) (i := 7) rfl (by decide) (?_ : ky_V _ _ _ 40 _ _ _ _)
      refine v_ishr (i := 8) rfl (?_ : ky_V _ _ _ 41 _ _ _ _)
      refine v_bipush (v := 7) (i := 9) rfl (by decide) (?_ : ky_V _ _ _ 43 _ _ _ _)
      refine v_iand (i := 10) rfl (?_ : ky_V _ _ _ 44 _ _ _ _)
      refine v_iret (v := ((p0 >>> ((10 : Int32) &&& 31)) &&& 7)) (ty := .int) (i := 11) rfl rfl rfl ?_
      obtain ⟨rfl, rfl⟩ := ky_leaf e
      exact hr _ hm fr
    · replace e := ky_ifF c2 e
      rcases Classical.em (p1 = 2) with c3 | c3
      · replace e := ky_ifT c3 e
        refine v_tableIn (off := 44) (tgt := 45) (i := 1) rfl (by rw [c3]; decide) (by rw [c3]; decide) (by rw [c3]; rfl) (by decide) ?_
        refine v_iload_n (i := 12) (j := 0) rfl rfl (?_ : ky_V _ _ _ 46 _ _ _ _)
        refine v_bipush (v := 8) (i := 13) rfl (by decide) (?_ : ky_V _ _ _ 48 _ _ _ _)
        refine v_ishr (i := 14) rfl (?_ : ky_V _ _ _ 49 _ _ _ _)
        refine v_iconst (v := 3) (i := 15) rfl (by decide) (?_ : ky_V _ _ _ 50 _ _ _ _)
        refine v_iand (i := 16) rfl (?_ : ky_V _ _ _ 51 _ _ _ _)
        refine v_iret (v := ((p0 >>> ((8 : Int32) &&& 31)) &&& 3)) (ty := .int) (i := 17) rfl rfl rfl ?_
        obtain ⟨rfl, rfl⟩ := ky_leaf e
        exact hr _ hm fr
      · replace e := ky_ifF c3 e
        rcases Classical.em (p1 = 3) with c4 | c4
        · replace e := ky_ifT c4 e
          refine v_tableIn (off := 51) (tgt := 52) (i := 1) rfl (by rw [c4]; decide) (by rw [c4]; decide) (by rw [c4]; rfl) (by decide) ?_
          refine v_iload_n (i := 18) (j := 0) rfl rfl (?_ : ky_V _ _ _ 53 _ _ _ _)
          refine v_iconst (v := 4) (i := 19) rfl (by decide) (?_ : ky_V _ _ _ 54 _ _ _ _)
          refine v_ishr (i := 20) rfl (?_ : ky_V _ _ _ 55 _ _ _ _)
          refine v_bipush (v := 15) (i := 21) rfl (by decide) (?_ : ky_V _ _ _ 57 _ _ _ _)
          refine v_iand (i := 22) rfl (?_ : ky_V _ _ _ 58 _ _ _ _)
          refine v_iret (v := ((p0 >>> ((4 : Int32) &&& 31)) &&& 15)) (ty := .int) (i := 23) rfl rfl rfl ?_
          obtain ⟨rfl, rfl⟩ := ky_leaf e
          exact hr _ hm fr
        · replace e := ky_ifF c4 e
          refine v_tableOut (tgt := 59) (i := 1) rfl (ky_swO (fun z h1 h2 => ?_)) (by decide) ?_
          · intro hz
            have h3 : z = 0 ∨ z = 1 ∨ z = 2 ∨ z = 3 := by omega
            rcases h3 with h3 | h3 | h3 | h3 <;> subst h3
            · exact c1 (Int32.toInt_inj.mp (hz.trans (by decide)))
            · exact c2 (Int32.toInt_inj.mp (hz.trans (by decide)))
            · exact c3 (Int32.toInt_inj.mp (hz.trans (by decide)))
            · exact c4 (Int32.toInt_inj.mp (hz.trans (by decide)))
          · refine v_iload_n (i := 24) (j := 0) rfl rfl (?_ : ky_V _ _ _ 60 _ _ _ _)
            refine v_bipush (v := 15) (i := 25) rfl (by decide) (?_ : ky_V _ _ _ 62 _ _ _ _)
            refine v_iand (i := 26) rfl (?_ : ky_V _ _ _ 63 _ _ _ _)
            refine v_iret (v := (p0 &&& 15)) (ty := .int) (i := 27) rfl rfl rfl ?_
            obtain ⟨rfl, rfl⟩ := ky_leaf e
            exact hr _ hm fr

def x2_rowsOf_L4 (N : Nat)  (a : Nat) (k : sk_S → Int32 → Int32 → Int32 → Option (sk_S × Int32)) : Nat → sk_S → Int32 → Int32 → Int32 → Option (sk_S × Int32)
  | 0, _, _, _, _ => none
  | n + 1, c, p1, p2, p3 => (if (sk_c c a 2) ≤ p3 then (k c p1 p2 p3) else ((x2_row N c a p3).bind (fun zz => (fun q3 x4 => ((x2_part N q3 x4 2).bind (fun zz => (fun q7 x8 => (if x8 = p1 then (ky_let (p2 + 1) (fun x12 => (ky_let (p3 + 1) (fun x13 => (x2_rowsOf_L4 N a k n q7 p1 x12 x13))))) else (ky_let (p3 + 1) (fun x11 => (x2_rowsOf_L4 N a k n q7 p1 p2 x11))))) zz.1 zz.2))) zz.1 zz.2)))
set_option maxRecDepth 20000 in
set_option maxHeartbeats 4000000 in
theorem lv_X2_rowsOf_4 {G : ky_GW} {d : Nat} {s s9 : sk_S} {h0 : ky_HP} {Q : ky_RS → ky_HP → Prop} {r9 : Int32} (N : Nat) (hG : ky_OK G)  (a : Nat)   (za : lay_X2 (sk_K s) (sk_r s) a = true) (hm : sk_hp G s h0) (k : sk_S → Int32 → Int32 → Int32 → Option (sk_S × Int32)) (hr : ∀ h1, sk_hp G s9 h1 → sk_fr none s h0 s9 h1 → Q (.inl (some (.int r9))) h1)
    (hk : ∀ (h : ky_HP) (c : sk_S) (p1 : Int32) (p2 : Int32) (p3 : Int32), sk_hp G c h → sk_fr none s h0 c h → k c p1 p2 p3 = some (s9, r9) → ky_V G (d + 1) M_X2_rowsOf 34 [(0, .ref a), (1, .int p1), (2, .int p2), (3, .int p3)] [] h Q) :
    ∀ (n : Nat) (h : ky_HP) (c : sk_S) (p1 : Int32) (p2 : Int32) (p3 : Int32), sk_hp G c h → sk_fr none s h0 c h → x2_rowsOf_L4 N a k n c p1 p2 p3 = some (s9, r9) → ky_V G (d + 1) M_X2_rowsOf 4 [(0, .ref a), (1, .int p1), (2, .int p2), (3, .int p3)] [] h Q := by
  intro n
  induction n with
  | zero => intro h c p1 p2 p3 hm1 fr e; cases e
  | succ n ih =>
    intro h c p1 p2 p3 hm1 fr e
    rw [x2_rowsOf_L4] at e
    refine v_iload_n (i := 4) (j := 3) rfl rfl (?_ : ky_V _ _ _ 5 _ _ _ _)
    refine v_aload_n (i := 5) (j := 0) rfl rfl (?_ : ky_V _ _ _ 6 _ _ _ _)
    refine gf_X2_25 rfl (i := 6) rfl (oc_X2 hm1 (ly_X2_c (lt_X2 fr za))) rfl (?_ : ky_V _ _ _ 9 _ _ _ _)
    refine v_icmp_ge (tgt := 34) (i := 7) rfl (by decide) (fun c1 => ?_) (fun c1 => ?_)
    · replace e := ky_ifT c1 e
      exact hk h c p1 p2 p3 hm1 fr e
    · replace e := ky_ifF c1 e
      refine v_aload_n (i := 8) (j := 0) rfl rfl (?_ : ky_V _ _ _ 13 _ _ _ _)
      refine v_iload_n (i := 9) (j := 3) rfl rfl (?_ : ky_V _ _ _ 14 _ _ _ _)
      obtain ⟨⟨q3, x4⟩, g5, e⟩ := Option.bind_eq_some_iff.mp e
      refine cl_X2_43 (As := [.int p3]) rfl (i := 10) rfl (oc_X2 hm1 (ly_X2_c (lt_X2 fr za))) rfl rfl (Nat.le_of_ble_eq_true rfl) (k_X2_row N hG hm1 g5 (fun h2 hmh2 frh2 => ⟨_, rfl, (?_ : ky_V _ _ _ 17 _ [.int x4] _ _)⟩))
      have frh2 := fr.tr frh2
      refine v_iconst (v := 2) (i := 11) rfl (by decide) (?_ : ky_V _ _ _ 18 _ _ _ _)
      obtain ⟨⟨q7, x8⟩, g9, e⟩ := Option.bind_eq_some_iff.mp e
      refine cl_X2_46 (As := [.int x4, .int 2]) rfl (i := 12) rfl rfl rfl (Nat.le_of_ble_eq_true rfl) (k_X2_part N hG hmh2 g9 (fun h6 hmh6 frh6 => ⟨_, rfl, (?_ : ky_V _ _ _ 21 _ [.int x8] _ _)⟩))
      have frh6 := frh2.tr frh6
      refine v_iload_n (i := 13) (j := 1) rfl rfl (?_ : ky_V _ _ _ 22 _ _ _ _)
      refine v_icmp_ne (tgt := 28) (i := 14) rfl (by decide) (fun c10 => ?_) (fun c10 => ?_)
      · replace e := ky_ifF c10 e
        obtain ⟨x11, ex11⟩ : ∃ z : Int32, z = p3 + 1 := ⟨_, rfl⟩
        replace e := ky_letE ex11 e
        refine v_iinc (v := x11) (j := 3) (L' := [(0, .ref a), (1, .int p1), (2, .int p2), (3, .int x11)]) [1, 2, 3, 0] (i := 16) rfl rfl (by rw [ex11]; rfl) (Nat.le_of_ble_eq_true rfl) rfl (?_ : ky_V _ _ _ 31 _ _ _ _)
        refine v_goto (tgt := 4) (i := 17) rfl (by decide) (?_ : ky_V _ _ _ 4 _ _ _ _)
        exact ih h6 q7 p1 p2 x11 hmh6 frh6 e
      · replace e := ky_ifT c10 e
        obtain ⟨x12, ex12⟩ : ∃ z : Int32, z = p2 + 1 := ⟨_, rfl⟩
        replace e := ky_letE ex12 e
        refine v_iinc (v := x12) (j := 2) (L' := [(0, .ref a), (1, .int p1), (2, .int x12), (3, .int p3)]) [1, 2, 0, 3] (i := 15) rfl rfl (by rw [ex12]; rfl) (Nat.le_of_ble_eq_true rfl) rfl (?_ : ky_V _ _ _ 28 _ _ _ _)
        obtain ⟨x13, ex13⟩ : ∃ z : Int32, z = p3 + 1 := ⟨_, rfl⟩
        replace e := ky_letE ex13 e
        refine v_iinc (v := x13) (j := 3) (L' := [(0, .ref a), (1, .int p1), (2, .int x12), (3, .int x13)]) [1, 2, 3, 0] (i := 16) rfl rfl (by rw [ex13]; rfl) (Nat.le_of_ble_eq_true rfl) rfl (?_ : ky_V _ _ _ 31 _ _ _ _)
        refine v_goto (tgt := 4) (i := 17) rfl (by decide) (?_ : ky_V _ _ _ 4 _ _ _ _)
        exact ih h6 q7 p1 x12 x13 hmh6 frh6 e

def x2_rowsOf (N : Nat)  (s : sk_S) (a : Nat) (p1 : Int32) : Option (sk_S × Int32) := (if lay_X2 (sk_K s) (sk_r s) a = true then (x2_rowsOf_L4 N a (fun q2 x3 x4 x5 => (some (q2, x4))) N s p1 0 0) else none)
set_option maxRecDepth 20000 in
set_option maxHeartbeats 4000000 in
theorem k_X2_rowsOf {G : ky_GW} {d : Nat} {h : ky_HP} {Q : ky_RS → ky_HP → Prop} {s s9 : sk_S} {r9 : Int32} {a : Nat} {p1 : Int32} (N : Nat) (hG : ky_OK G)   (hm : sk_hp G s h)  (e : x2_rowsOf N  s a p1 = some (s9, r9)) (hr : ∀ h1, sk_hp G s9 h1 → sk_fr none s h s9 h1 → Q (.inl (some (.int r9))) h1) : ky_Call G (d + 1) M_X2_rowsOf [.ref a, .int p1] h Q := by
  refine ky_ofV (by decide +kernel) rfl ok_X2_rowsOf (Nat.le_of_ble_eq_true rfl) ?_
  have fr : sk_fr none s h s h := sk_fr.rf
  unfold x2_rowsOf at e
  refine (?_ : ky_V _ _ _ 0 [(0, .ref a), (1, .int p1)] [] _ _)
  obtain ⟨za, e⟩ := ky_chkE e
  refine v_iconst (v := 0) (i := 0) rfl (by decide) (?_ : ky_V _ _ _ 1 _ _ _ _)
  refine v_istore_n (L' := [(0, .ref a), (1, .int p1), (2, .int 0)]) [1, 2, 0] (i := 1) rfl (Nat.le_of_ble_eq_true rfl) rfl (?_ : ky_V _ _ _ 2 _ _ _ _)
  refine v_iconst (v := 0) (i := 2) rfl (by decide) (?_ : ky_V _ _ _ 3 _ _ _ _)
  refine v_istore_n (L' := [(0, .ref a), (1, .int p1), (2, .int 0), (3, .int 0)]) [1, 2, 3, 0] (i := 3) rfl (Nat.le_of_ble_eq_true rfl) rfl (?_ : ky_V _ _ _ 4 _ _ _ _)
  refine lv_X2_rowsOf_4 N hG a za hm _ hr (fun h1 q2 x3 x4 x5 hmh1 frh1 e => ?_) N h s p1 0 0 hm fr e
  refine v_iload_n (i := 18) (j := 2) rfl rfl (?_ : ky_V _ _ _ 35 _ _ _ _)
  refine v_iret (v := x4) (ty := .int) (i := 19) rfl rfl rfl ?_
  obtain ⟨rfl, rfl⟩ := ky_leaf e
  exact hr _ hmh1 frh1

def x3_asks_L52 (N : Nat)  (a : Nat) (k : sk_S → Int32 → Int32 → Int32 → Int32 → Int32 → Option (sk_S × Int32)) : Nat → sk_S → Int32 → Int32 → Int32 → Int32 → Int32 → Option (sk_S × Int32)
  | 0, _, _, _, _, _, _ => none
  | n + 1, c, p1, p2, p3, p4, p5 => (if p4 ≤ p5 then (k c p1 p2 p3 p4 p5) else (if ky_inB p5 (sk_K c (a + 4)).2 = true then (if (sk_c c (a + 4) (Int32.toNatClampNeg p5)) = p1 then (some (c, 1)) else (ky_let (p5 + 2) (fun x4 => (x3_asks_L52 N a k n c p1 p2 p3 p4 x4)))) else none))
set_option maxRecDepth 20000 in
set_option maxHeartbeats 4000000 in
theorem lv_X3_asks_52 {G : ky_GW} {d : Nat} {s s9 : sk_S} {h0 : ky_HP} {Q : ky_RS → ky_HP → Prop} {r9 : Int32} (N : Nat) (hG : ky_OK G)  (a : Nat)   (za : lay_X3 (sk_K s) (sk_r s) a = true) (hm : sk_hp G s h0) (k : sk_S → Int32 → Int32 → Int32 → Int32 → Int32 → Option (sk_S × Int32)) (hr : ∀ h1, sk_hp G s9 h1 → sk_fr none s h0 s9 h1 → Q (.inl (some (.int r9))) h1)
    (hk : ∀ (h : ky_HP) (c : sk_S) (p1 : Int32) (p2 : Int32) (p3 : Int32) (p4 : Int32) (p5 : Int32), sk_hp G c h → sk_fr none s h0 c h → k c p1 p2 p3 p4 p5 = some (s9, r9) → ky_V G d M_X3_asks 78 [(0, .ref a), (1, .int p1), (2, .int p2), (3, .int p3), (4, .int p4), (5, .int p5)] [] h Q) :
    ∀ (n : Nat) (h : ky_HP) (c : sk_S) (p1 : Int32) (p2 : Int32) (p3 : Int32) (p4 : Int32) (p5 : Int32), sk_hp G c h → sk_fr none s h0 c h → x3_asks_L52 N a k n c p1 p2 p3 p4 p5 = some (s9, r9) → ky_V G d M_X3_asks 52 [(0, .ref a), (1, .int p1), (2, .int p2), (3, .int p3), (4, .int p4), (5, .int p5)] [] h Q := by
  intro n
  induction n with
  | zero => intro h c p1 p2 p3 p4 p5 hm1 fr e; cases e
  | succ n ih =>
    intro h c p1 p2 p3 p4 p5 hm1 fr e
    rw [x3_asks_L52] at e
    refine v_iload (i := 36) (j := 5) rfl rfl (?_ : ky_V _ _ _ 54 _ _ _ _)
    refine v_iload (i := 37) (j := 4) rfl rfl (?_ : ky_V _ _ _ 56 _ _ _ _)
    refine v_icmp_ge (tgt := 78) (i := 38) rfl (by decide) (fun c1 => ?_) (fun c1 => ?_)
    · replace e := ky_ifT c1 e
      exact hk h c p1 p2 p3 p4 p5 hm1 fr e
    · replace e := ky_ifF c1 e
      refine v_aload_n (i := 39) (j := 0) rfl rfl (?_ : ky_V _ _ _ 60 _ _ _ _)
      refine gf_X3_26 rfl (i := 40) rfl (oc_X3 hm1 (ly_X3_c (lt_X3 fr za))) (sk_rf (ly_X3_r4 (lt_X3 fr za))) (?_ : ky_V _ _ _ 63 _ (.ref (a + 4) :: _) _ _)
      refine v_iload (i := 41) (j := 5) rfl rfl (?_ : ky_V _ _ _ 65 _ _ _ _)
      obtain ⟨z2, e⟩ := ky_chkE e
      refine v_iald (i := 42) rfl (ox_21 hm1 (ly_X3_k4 (lt_X3 fr za))) (ky_inb z2) (?_ : ky_V _ _ _ 66 _ (.int (sk_c c (a + 4) (Int32.toNatClampNeg p5)) :: _) _ _)
      refine v_iload_n (i := 43) (j := 1) rfl rfl (?_ : ky_V _ _ _ 67 _ _ _ _)
      refine v_icmp_ne (tgt := 72) (i := 44) rfl (by decide) (fun c3 => ?_) (fun c3 => ?_)
      · replace e := ky_ifF c3 e
        obtain ⟨x4, ex4⟩ : ∃ z : Int32, z = p5 + 2 := ⟨_, rfl⟩
        replace e := ky_letE ex4 e
        refine v_iinc (v := x4) (j := 5) (L' := [(0, .ref a), (1, .int p1), (2, .int p2), (3, .int p3), (4, .int p4), (5, .int x4)]) [1, 2, 3, 4, 5, 0] (i := 47) rfl rfl (by rw [ex4]; rfl) (Nat.le_of_ble_eq_true rfl) rfl (?_ : ky_V _ _ _ 75 _ _ _ _)
        refine v_goto (tgt := 52) (i := 48) rfl (by decide) (?_ : ky_V _ _ _ 52 _ _ _ _)
        exact ih h c p1 p2 p3 p4 x4 hm1 fr e
      · replace e := ky_ifT c3 e
        refine v_iconst (v := 1) (i := 45) rfl (by decide) (?_ : ky_V _ _ _ 71 _ _ _ _)
        refine v_iret (v := 1) (ty := .boolean) (i := 46) rfl rfl (by decide) ?_
        obtain ⟨rfl, rfl⟩ := ky_leaf e
        exact hr _ hm1 fr

def x3_asks_L4 (N : Nat)  (a : Nat) (k : sk_S → Int32 → Int32 → Int32 → Option (sk_S × Int32)) : Nat → sk_S → Int32 → Int32 → Int32 → Option (sk_S × Int32)
  | 0, _, _, _, _ => none
  | n + 1, c, p1, p2, p3 => (if (Int32.ofNat (sk_K c (a + 4)).2) ≤ p3 then (k c p1 p2 p3) else (if (Int32.ofNat (sk_K c (a + 4)).2) ≤ p2 then (k c p1 p2 p3) else (if ky_inB p2 (sk_K c (a + 4)).2 = true then (if (sk_c c (a + 4) (Int32.toNatClampNeg p2)) = 0 then (if ky_inB (p2 + 2) (sk_K c (a + 4)).2 = true then (ky_let ((p2 + 3) + (2 * (sk_c c (a + 4) (Int32.toNatClampNeg (p2 + 2))))) (fun x8 => (ky_let (p2 + 3) (fun x9 => (x3_asks_L52 N a (fun q11 x12 x13 x14 x15 x16 => (ky_let (x14 + 1) (fun x17 => (x3_asks_L4 N a k n q11 x12 x15 x17)))) N c p1 p2 p3 x8 x9))))) else none) else (ky_let (p2 + 1) (fun x5 => (ky_let (p3 + 1) (fun x6 => (x3_asks_L4 N a k n c p1 x5 x6)))))) else none)))
set_option maxRecDepth 20000 in
set_option maxHeartbeats 4000000 in
theorem lv_X3_asks_4 {G : ky_GW} {d : Nat} {s s9 : sk_S} {h0 : ky_HP} {Q : ky_RS → ky_HP → Prop} {r9 : Int32} (N : Nat) (hG : ky_OK G)  (a : Nat)   (za : lay_X3 (sk_K s) (sk_r s) a = true) (hm : sk_hp G s h0) (k : sk_S → Int32 → Int32 → Int32 → Option (sk_S × Int32)) (hr : ∀ h1, sk_hp G s9 h1 → sk_fr none s h0 s9 h1 → Q (.inl (some (.int r9))) h1)
    (hk : ∀ (h : ky_HP) (c : sk_S) (p1 : Int32) (p2 : Int32) (p3 : Int32), sk_hp G c h → sk_fr none s h0 c h → k c p1 p2 p3 = some (s9, r9) → ky_V G d M_X3_asks 93 [(0, .ref a), (1, .int p1), (2, .int p2), (3, .int p3)] [] h Q) :
    ∀ (n : Nat) (h : ky_HP) (c : sk_S) (p1 : Int32) (p2 : Int32) (p3 : Int32), sk_hp G c h → sk_fr none s h0 c h → x3_asks_L4 N a k n c p1 p2 p3 = some (s9, r9) → ky_V G d M_X3_asks 4 [(0, .ref a), (1, .int p1), (2, .int p2), (3, .int p3)] [] h Q := by
  intro n
  induction n with
  | zero => intro h c p1 p2 p3 hm1 fr e; cases e
  | succ n ih =>
    intro h c p1 p2 p3 hm1 fr e
    rw [x3_asks_L4] at e
    refine v_iload_n (i := 4) (j := 3) rfl rfl (?_ : ky_V _ _ _ 5 _ _ _ _)
    refine v_aload_n (i := 5) (j := 0) rfl rfl (?_ : ky_V _ _ _ 6 _ _ _ _)
    refine gf_X3_26 rfl (i := 6) rfl (oc_X3 hm1 (ly_X3_c (lt_X3 fr za))) (sk_rf (ly_X3_r4 (lt_X3 fr za))) (?_ : ky_V _ _ _ 9 _ (.ref (a + 4) :: _) _ _)
    refine v_alen (v := (Int32.ofNat (sk_K c (a + 4)).2)) 1 (by decide) (i := 7) rfl (ox_21 hm1 (ly_X3_k4 (lt_X3 fr za))) rfl (?_ : ky_V _ _ _ 10 _ _ _ _)
    refine v_icmp_ge (tgt := 93) (i := 8) rfl (by decide) (fun c1 => ?_) (fun c1 => ?_)
    · replace e := ky_ifT c1 e
      exact hk h c p1 p2 p3 hm1 fr e
    · replace e := ky_ifF c1 e
      refine v_iload_n (i := 9) (j := 2) rfl rfl (?_ : ky_V _ _ _ 14 _ _ _ _)
      refine v_aload_n (i := 10) (j := 0) rfl rfl (?_ : ky_V _ _ _ 15 _ _ _ _)
      refine gf_X3_26 rfl (i := 11) rfl (oc_X3 hm1 (ly_X3_c (lt_X3 fr za))) (sk_rf (ly_X3_r4 (lt_X3 fr za))) (?_ : ky_V _ _ _ 18 _ (.ref (a + 4) :: _) _ _)
      refine v_alen (v := (Int32.ofNat (sk_K c (a + 4)).2)) 1 (by decide) (i := 12) rfl (ox_21 hm1 (ly_X3_k4 (lt_X3 fr za))) rfl (?_ : ky_V _ _ _ 19 _ _ _ _)
      refine v_icmp_ge (tgt := 93) (i := 13) rfl (by decide) (fun c2 => ?_) (fun c2 => ?_)
      · replace e := ky_ifT c2 e
        exact hk h c p1 p2 p3 hm1 fr e
      · replace e := ky_ifF c2 e
        refine v_aload_n (i := 14) (j := 0) rfl rfl (?_ : ky_V _ _ _ 23 _ _ _ _)
        refine gf_X3_26 rfl (i := 15) rfl (oc_X3 hm1 (ly_X3_c (lt_X3 fr za))) (sk_rf (ly_X3_r4 (lt_X3 fr za))) (?_ : ky_V _ _ _ 26 _ (.ref (a + 4) :: _) _ _)
        refine v_iload_n (i := 16) (j := 2) rfl rfl (?_ : ky_V _ _ _ 27 _ _ _ _)
        obtain ⟨z3, e⟩ := ky_chkE e
        refine v_iald (i := 17) rfl (ox_21 hm1 (ly_X3_k4 (lt_X3 fr za))) (ky_inb z3) (?_ : ky_V _ _ _ 28 _ (.int (sk_c c (a + 4) (Int32.toNatClampNeg p2)) :: _) _ _)
        refine v_if_ne (tgt := 84) (i := 18) rfl (by decide) (fun c4 => ?_) (fun c4 => ?_)
        · replace e := ky_ifF c4 e
          obtain ⟨x5, ex5⟩ : ∃ z : Int32, z = p2 + 1 := ⟨_, rfl⟩
          replace e := ky_letE ex5 e
          refine v_iinc (v := x5) (j := 2) (L' := [(0, .ref a), (1, .int p1), (2, .int x5), (3, .int p3)]) [1, 2, 0, 3] (i := 52) rfl rfl (by rw [ex5]; rfl) (Nat.le_of_ble_eq_true rfl) rfl (?_ : ky_V _ _ _ 87 _ _ _ _)
          obtain ⟨x6, ex6⟩ : ∃ z : Int32, z = p3 + 1 := ⟨_, rfl⟩
          replace e := ky_letE ex6 e
          refine v_iinc (v := x6) (j := 3) (L' := [(0, .ref a), (1, .int p1), (2, .int x5), (3, .int x6)]) [1, 2, 3, 0] (i := 53) rfl rfl (by rw [ex6]; rfl) (Nat.le_of_ble_eq_true rfl) rfl (?_ : ky_V _ _ _ 90 _ _ _ _)
          refine v_goto (tgt := 4) (i := 54) rfl (by decide) (?_ : ky_V _ _ _ 4 _ _ _ _)
          exact ih h c p1 x5 x6 hm1 fr e
        · replace e := ky_ifT c4 e
          refine v_iload_n (i := 19) (j := 2) rfl rfl (?_ : ky_V _ _ _ 32 _ _ _ _)
          refine v_iconst (v := 3) (i := 20) rfl (by decide) (?_ : ky_V _ _ _ 33 _ _ _ _)
          refine v_iadd (i := 21) rfl (?_ : ky_V _ _ _ 34 _ _ _ _)
          refine v_iconst (v := 2) (i := 22) rfl (by decide) (?_ : ky_V _ _ _ 35 _ _ _ _)
          refine v_aload_n (i := 23) (j := 0) rfl rfl (?_ : ky_V _ _ _ 36 _ _ _ _)
          refine gf_X3_26 rfl (i := 24) rfl (oc_X3 hm1 (ly_X3_c (lt_X3 fr za))) (sk_rf (ly_X3_r4 (lt_X3 fr za))) (?_ : ky_V _ _ _ 39 _ (.ref (a + 4) :: _) _ _)
          refine v_iload_n (i := 25) (j := 2) rfl rfl (?_ : ky_V _ _ _ 40 _ _ _ _)
          refine v_iconst (v := 2) (i := 26) rfl (by decide) (?_ : ky_V _ _ _ 41 _ _ _ _)
          refine v_iadd (i := 27) rfl (?_ : ky_V _ _ _ 42 _ _ _ _)
          obtain ⟨z7, e⟩ := ky_chkE e
          refine v_iald (i := 28) rfl (ox_21 hm1 (ly_X3_k4 (lt_X3 fr za))) (ky_inb z7) (?_ : ky_V _ _ _ 43 _ (.int (sk_c c (a + 4) (Int32.toNatClampNeg (p2 + 2))) :: _) _ _)
          refine v_imul (i := 29) rfl (?_ : ky_V _ _ _ 44 _ _ _ _)
          refine v_iadd (i := 30) rfl (?_ : ky_V _ _ _ 45 _ _ _ _)
          refine v_topi (fun x8 ex8 => ?_)
          replace e := ky_letE ex8 e
          refine v_istore (L' := [(0, .ref a), (1, .int p1), (2, .int p2), (3, .int p3), (4, .int x8)]) [1, 2, 3, 4, 0] (i := 31) rfl (Nat.le_of_ble_eq_true rfl) rfl (?_ : ky_V _ _ _ 47 _ _ _ _)
          refine v_iload_n (i := 32) (j := 2) rfl rfl (?_ : ky_V _ _ _ 48 _ _ _ _)
          refine v_iconst (v := 3) (i := 33) rfl (by decide) (?_ : ky_V _ _ _ 49 _ _ _ _)
          refine v_iadd (i := 34) rfl (?_ : ky_V _ _ _ 50 _ _ _ _)
          refine v_topi (fun x9 ex9 => ?_)
          replace e := ky_letE ex9 e
          refine v_istore (L' := [(0, .ref a), (1, .int p1), (2, .int p2), (3, .int p3), (4, .int x8), (5, .int x9)]) [1, 2, 3, 4, 5, 0] (i := 35) rfl (Nat.le_of_ble_eq_true rfl) rfl (?_ : ky_V _ _ _ 52 _ _ _ _)
          refine lv_X3_asks_52 N hG a za hm _ hr (fun h10 q11 x12 x13 x14 x15 x16 hmh10 frh10 e => ?_) N h c p1 p2 p3 x8 x9 hm1 fr e
          refine v_iload (i := 49) (j := 4) rfl rfl (?_ : ky_V _ _ _ 80 _ _ _ _)
          refine v_istore_n (L' := [(0, .ref a), (1, .int x12), (2, .int x15), (3, .int x14), (4, .int x15), (5, .int x16)]) [1, 2, 0, 3, 4, 5] (i := 50) rfl (Nat.le_of_ble_eq_true rfl) rfl (?_ : ky_V _ _ _ 81 _ _ _ _)
          refine v_goto (tgt := 87) (i := 51) rfl (by decide) (?_ : ky_V _ _ _ 87 _ _ _ _)
          obtain ⟨x17, ex17⟩ : ∃ z : Int32, z = x14 + 1 := ⟨_, rfl⟩
          replace e := ky_letE ex17 e
          refine v_iinc (v := x17) (j := 3) (L' := [(0, .ref a), (1, .int x12), (2, .int x15), (3, .int x17), (4, .int x15), (5, .int x16)]) [1, 2, 3, 0, 4, 5] (i := 53) rfl rfl (by rw [ex17]; rfl) (Nat.le_of_ble_eq_true rfl) rfl (?_ : ky_V _ _ _ 90 _ _ _ _)
          refine v_goto (tgt := 4) (i := 54) rfl (by decide) (?_ : ky_V _ _ _ 4 _ _ _ _)
          refine ky_loc (L' := [(0, .ref a), (1, .int x12), (2, .int x15), (3, .int x17)]) (by simp) ?_
          exact ih h10 q11 x12 x15 x17 hmh10 frh10 e

def x3_asks (N : Nat)  (s : sk_S) (a : Nat) (p1 : Int32) : Option (sk_S × Int32) := (if lay_X3 (sk_K s) (sk_r s) a = true then (x3_asks_L4 N a (fun q2 x3 x4 x5 => (some (q2, 0))) N s p1 0 0) else none)
set_option maxRecDepth 20000 in
set_option maxHeartbeats 4000000 in
theorem k_X3_asks {G : ky_GW} {d : Nat} {h : ky_HP} {Q : ky_RS → ky_HP → Prop} {s s9 : sk_S} {r9 : Int32} {a : Nat} {p1 : Int32} (N : Nat) (hG : ky_OK G)   (hm : sk_hp G s h)  (e : x3_asks N  s a p1 = some (s9, r9)) (hr : ∀ h1, sk_hp G s9 h1 → sk_fr none s h s9 h1 → Q (.inl (some (.int r9))) h1) : ky_Call G d M_X3_asks [.ref a, .int p1] h Q := by
  refine ky_ofV (by decide +kernel) rfl ok_X3_asks (Nat.le_of_ble_eq_true rfl) ?_
  have fr : sk_fr none s h s h := sk_fr.rf
  unfold x3_asks at e
  refine (?_ : ky_V _ _ _ 0 [(0, .ref a), (1, .int p1)] [] _ _)
  obtain ⟨za, e⟩ := ky_chkE e
  refine v_iconst (v := 0) (i := 0) rfl (by decide) (?_ : ky_V _ _ _ 1 _ _ _ _)
  refine v_istore_n (L' := [(0, .ref a), (1, .int p1), (2, .int 0)]) [1, 2, 0] (i := 1) rfl (Nat.le_of_ble_eq_true rfl) rfl (?_ : ky_V _ _ _ 2 _ _ _ _)
  refine v_iconst (v := 0) (i := 2) rfl (by decide) (?_ : ky_V _ _ _ 3 _ _ _ _)
  refine v_istore_n (L' := [(0, .ref a), (1, .int p1), (2, .int 0), (3, .int 0)]) [1, 2, 3, 0] (i := 3) rfl (Nat.le_of_ble_eq_true rfl) rfl (?_ : ky_V _ _ _ 4 _ _ _ _)
  refine lv_X3_asks_4 N hG a za hm _ hr (fun h1 q2 x3 x4 x5 hmh1 frh1 e => ?_) N h s p1 0 0 hm fr e
  refine v_iconst (v := 0) (i := 55) rfl (by decide) (?_ : ky_V _ _ _ 94 _ _ _ _)
  refine v_iret (v := 0) (ty := .boolean) (i := 56) rfl rfl (by decide) ?_
  obtain ⟨rfl, rfl⟩ := ky_leaf e
  exact hr _ hmh1 frh1

def x3_holds_L103 (N : Nat)  (a : Nat) (k : sk_S → Int32 → Int32 → Int32 → Int32 → Int32 → Int32 → Int32 → Int32 → Int32 → Option (sk_S × Int32)) : Nat → sk_S → Int32 → Int32 → Int32 → Int32 → Int32 → Int32 → Int32 → Int32 → Int32 → Option (sk_S × Int32)
  | 0, _, _, _, _, _, _, _, _, _, _ => none
  | n + 1, c, p1, p2, p3, p4, p5, p6, p7, p8, p9 => (if p7 ≤ p9 then (k c p1 p2 p3 p4 p5 p6 p7 p8 p9) else (if ky_inB (p9 + 1) (sk_K c (a + 4)).2 = true then (if ky_inB p9 (sk_K c (a + 4)).2 = true then (if ky_inB (sk_c c (a + 4) (Int32.toNatClampNeg p9)) 6 = true then (ky_let (p8 + ((sk_c c (a + 4) (Int32.toNatClampNeg (p9 + 1))) * (sk_c c (a + 5) (Int32.toNatClampNeg (sk_c c (a + 4) (Int32.toNatClampNeg p9)))))) (fun x5 => (ky_let (p9 + 2) (fun x6 => (x3_holds_L103 N a k n c p1 p2 p3 p4 p5 p6 p7 x5 x6))))) else none) else none) else none))
set_option maxRecDepth 20000 in
set_option maxHeartbeats 4000000 in
theorem lv_X3_holds_103 {G : ky_GW} {d : Nat} {s s9 : sk_S} {h0 : ky_HP} {Q : ky_RS → ky_HP → Prop} {r9 : Int32} (N : Nat) (hG : ky_OK G)  (a : Nat)   (za : lay_X3 (sk_K s) (sk_r s) a = true) (hm : sk_hp G s h0) (k : sk_S → Int32 → Int32 → Int32 → Int32 → Int32 → Int32 → Int32 → Int32 → Int32 → Option (sk_S × Int32)) (hr : ∀ h1, sk_hp G s9 h1 → sk_fr none s h0 s9 h1 → Q (.inl (some (.int r9))) h1)
    (hk : ∀ (h : ky_HP) (c : sk_S) (p1 : Int32) (p2 : Int32) (p3 : Int32) (p4 : Int32) (p5 : Int32) (p6 : Int32) (p7 : Int32) (p8 : Int32) (p9 : Int32), sk_hp G c h → sk_fr none s h0 c h → k c p1 p2 p3 p4 p5 p6 p7 p8 p9 = some (s9, r9) → ky_V G d M_X3_holds 143 [(0, .ref a), (1, .int p1), (2, .int p2), (3, .int p3), (4, .int p4), (5, .int p5), (6, .int p6), (7, .int p7), (8, .int p8), (9, .int p9)] [] h Q) :
    ∀ (n : Nat) (h : ky_HP) (c : sk_S) (p1 : Int32) (p2 : Int32) (p3 : Int32) (p4 : Int32) (p5 : Int32) (p6 : Int32) (p7 : Int32) (p8 : Int32) (p9 : Int32), sk_hp G c h → sk_fr none s h0 c h → x3_holds_L103 N a k n c p1 p2 p3 p4 p5 p6 p7 p8 p9 = some (s9, r9) → ky_V G d M_X3_holds 103 [(0, .ref a), (1, .int p1), (2, .int p2), (3, .int p3), (4, .int p4), (5, .int p5), (6, .int p6), (7, .int p7), (8, .int p8), (9, .int p9)] [] h Q := by
  intro n
  induction n with
  | zero => intro h c p1 p2 p3 p4 p5 p6 p7 p8 p9 hm1 fr e; cases e
  | succ n ih =>
    intro h c p1 p2 p3 p4 p5 p6 p7 p8 p9 hm1 fr e
    rw [x3_holds_L103] at e
    refine v_iload (i := 50) (j := 9) rfl rfl (?_ : ky_V _ _ _ 105 _ _ _ _)
    refine v_iload (i := 51) (j := 7) rfl rfl (?_ : ky_V _ _ _ 107 _ _ _ _)
    refine v_icmp_ge (tgt := 143) (i := 52) rfl (by decide) (fun c1 => ?_) (fun c1 => ?_)
    · replace e := ky_ifT c1 e
      exact hk h c p1 p2 p3 p4 p5 p6 p7 p8 p9 hm1 fr e
    · replace e := ky_ifF c1 e
      refine v_iload (i := 53) (j := 8) rfl rfl (?_ : ky_V _ _ _ 112 _ _ _ _)
      refine v_aload_n (i := 54) (j := 0) rfl rfl (?_ : ky_V _ _ _ 113 _ _ _ _)
      refine gf_X3_26 rfl (i := 55) rfl (oc_X3 hm1 (ly_X3_c (lt_X3 fr za))) (sk_rf (ly_X3_r4 (lt_X3 fr za))) (?_ : ky_V _ _ _ 116 _ (.ref (a + 4) :: _) _ _)
      refine v_iload (i := 56) (j := 9) rfl rfl (?_ : ky_V _ _ _ 118 _ _ _ _)
      refine v_iconst (v := 1) (i := 57) rfl (by decide) (?_ : ky_V _ _ _ 119 _ _ _ _)
      refine v_iadd (i := 58) rfl (?_ : ky_V _ _ _ 120 _ _ _ _)
      obtain ⟨z2, e⟩ := ky_chkE e
      refine v_iald (i := 59) rfl (ox_21 hm1 (ly_X3_k4 (lt_X3 fr za))) (ky_inb z2) (?_ : ky_V _ _ _ 121 _ (.int (sk_c c (a + 4) (Int32.toNatClampNeg (p9 + 1))) :: _) _ _)
      refine v_aload_n (i := 60) (j := 0) rfl rfl (?_ : ky_V _ _ _ 122 _ _ _ _)
      refine gf_X3_9 rfl (i := 61) rfl (oc_X3 hm1 (ly_X3_c (lt_X3 fr za))) (sk_rf (ly_X3_r5 (lt_X3 fr za))) (?_ : ky_V _ _ _ 125 _ (.ref (a + 5) :: _) _ _)
      refine v_aload_n (i := 62) (j := 0) rfl rfl (?_ : ky_V _ _ _ 126 _ _ _ _)
      refine gf_X3_26 rfl (i := 63) rfl (oc_X3 hm1 (ly_X3_c (lt_X3 fr za))) (sk_rf (ly_X3_r4 (lt_X3 fr za))) (?_ : ky_V _ _ _ 129 _ (.ref (a + 4) :: _) _ _)
      refine v_iload (i := 64) (j := 9) rfl rfl (?_ : ky_V _ _ _ 131 _ _ _ _)
      obtain ⟨z3, e⟩ := ky_chkE e
      refine v_iald (i := 65) rfl (ox_21 hm1 (ly_X3_k4 (lt_X3 fr za))) (ky_inb z3) (?_ : ky_V _ _ _ 132 _ (.int (sk_c c (a + 4) (Int32.toNatClampNeg p9)) :: _) _ _)
      obtain ⟨z4, e⟩ := ky_chkE e
      refine v_iald (i := 66) rfl (oa_21 hm1 (ly_X3_k5 (lt_X3 fr za))) (ky_inb z4) (?_ : ky_V _ _ _ 133 _ (.int (sk_c c (a + 5) (Int32.toNatClampNeg (sk_c c (a + 4) (Int32.toNatClampNeg p9)))) :: _) _ _)
      refine v_imul (i := 67) rfl (?_ : ky_V _ _ _ 134 _ _ _ _)
      refine v_iadd (i := 68) rfl (?_ : ky_V _ _ _ 135 _ _ _ _)
      refine v_topi (fun x5 ex5 => ?_)
      replace e := ky_letE ex5 e
      refine v_istore (L' := [(0, .ref a), (1, .int p1), (2, .int p2), (3, .int p3), (4, .int p4), (5, .int p5), (6, .int p6), (7, .int p7), (8, .int x5), (9, .int p9)]) [1, 2, 3, 4, 5, 6, 7, 8, 0, 9] (i := 69) rfl (Nat.le_of_ble_eq_true rfl) rfl (?_ : ky_V _ _ _ 137 _ _ _ _)
      obtain ⟨x6, ex6⟩ : ∃ z : Int32, z = p9 + 2 := ⟨_, rfl⟩
      replace e := ky_letE ex6 e
      refine v_iinc (v := x6) (j := 9) (L' := [(0, .ref a), (1, .int p1), (2, .int p2), (3, .int p3), (4, .int p4), (5, .int p5), (6, .int p6), (7, .int p7), (8, .int x5), (9, .int x6)]) [1, 2, 3, 4, 5, 6, 7, 8, 9, 0] (i := 70) rfl rfl (by rw [ex6]; rfl) (Nat.le_of_ble_eq_true rfl) rfl (?_ : ky_V _ _ _ 140 _ _ _ _)
      refine v_goto (tgt := 103) (i := 71) rfl (by decide) (?_ : ky_V _ _ _ 103 _ _ _ _)
      exact ih h c p1 p2 p3 p4 p5 p6 p7 x5 x6 hm1 fr e

def x3_holds_L15 (N : Nat)  (a : Nat) (k : sk_S → Int32 → Int32 → Int32 → Int32 → Int32 → Option (sk_S × Int32)) : Nat → sk_S → Int32 → Int32 → Int32 → Int32 → Int32 → Option (sk_S × Int32)
  | 0, _, _, _, _, _, _ => none
  | n + 1, c, p1, p2, p3, p4, p5 => (if p2 ≤ p5 then (k c p1 p2 p3 p4 p5) else (if p2 ≤ p4 then (k c p1 p2 p3 p4 p5) else (ky_let (p3 &&& 1) (fun x3 => (if ky_inB p4 (sk_K c (a + 4)).2 = true then (ky_let (sk_c c (a + 4) (Int32.toNatClampNeg p4)) (fun x5 => (if x5 = 0 then (if ky_inB (p4 + 2) (sk_K c (a + 4)).2 = true then (ky_let ((p4 + 3) + (2 * (sk_c c (a + 4) (Int32.toNatClampNeg (p4 + 2))))) (fun x8 => (if ky_inB (p4 + 1) (sk_K c (a + 4)).2 = true then (ky_let (sk_c c (a + 4) (Int32.toNatClampNeg (p4 + 1))) (fun x10 => (ky_let (p4 + 3) (fun x11 => (x3_holds_L103 N a (fun q13 x14 x15 x16 x17 x18 x19 x20 x21 x22 => (if 0 ≤ x21 then (ky_let ((x16 <<< ((1 : Int32) &&& 31)) ||| 0) (fun x24 => (ky_let (x20 - 1) (fun x25 => (ky_let (x25 + 1) (fun x26 => (ky_let (x18 + 1) (fun x27 => (x3_holds_L15 N a k n q13 x14 x15 x24 x26 x27))))))))) else (ky_let ((x16 <<< ((1 : Int32) &&& 31)) ||| 1) (fun x28 => (ky_let (x20 - 1) (fun x29 => (ky_let (x29 + 1) (fun x30 => (ky_let (x18 + 1) (fun x31 => (x3_holds_L15 N a k n q13 x14 x15 x28 x30 x31))))))))))) N c p1 p2 p3 p4 p5 x3 x8 x10 x11))))) else none))) else none) else (if x5 = 1 then (ky_let ((p3 <<< ((1 : Int32) &&& 31)) ||| (sk_c c a 6)) (fun x33 => (ky_let (p4 + 1) (fun x34 => (ky_let (p5 + 1) (fun x35 => (x3_holds_L15 N a k n c p1 p2 x33 x34 x35))))))) else (if x5 = 2 then (ky_let (p3 ^^^ 1) (fun x37 => (ky_let (p4 + 1) (fun x38 => (ky_let (p5 + 1) (fun x39 => (x3_holds_L15 N a k n c p1 p2 x37 x38 x39))))))) else (if x5 = 3 then (ky_let ((Int32.toUInt32 p3 >>> (Int32.toUInt32 1 &&& Int32.toUInt32 31)).toInt32 &&& (x3 ||| (-2))) (fun x41 => (ky_let (p4 + 1) (fun x42 => (ky_let (p5 + 1) (fun x43 => (x3_holds_L15 N a k n c p1 p2 x41 x42 x43))))))) else (ky_let ((Int32.toUInt32 p3 >>> (Int32.toUInt32 1 &&& Int32.toUInt32 31)).toInt32 ||| x3) (fun x44 => (ky_let (p4 + 1) (fun x45 => (ky_let (p5 + 1) (fun x46 => (x3_holds_L15 N a k n c p1 p2 x44 x45 x46))))))))))))) else none)))))
set_option maxRecDepth 20000 in
set_option maxHeartbeats 4000000 in
theorem lv_X3_holds_15 {G : ky_GW} {d : Nat} {s s9 : sk_S} {h0 : ky_HP} {Q : ky_RS → ky_HP → Prop} {r9 : Int32} (N : Nat) (hG : ky_OK G)  (a : Nat)   (za : lay_X3 (sk_K s) (sk_r s) a = true) (hm : sk_hp G s h0) (k : sk_S → Int32 → Int32 → Int32 → Int32 → Int32 → Option (sk_S × Int32)) (hr : ∀ h1, sk_hp G s9 h1 → sk_fr none s h0 s9 h1 → Q (.inl (some (.int r9))) h1)
    (hk : ∀ (h : ky_HP) (c : sk_S) (p1 : Int32) (p2 : Int32) (p3 : Int32) (p4 : Int32) (p5 : Int32), sk_hp G c h → sk_fr none s h0 c h → k c p1 p2 p3 p4 p5 = some (s9, r9) → ky_V G d M_X3_holds 215 [(0, .ref a), (1, .int p1), (2, .int p2), (3, .int p3), (4, .int p4), (5, .int p5)] [] h Q) :
    ∀ (n : Nat) (h : ky_HP) (c : sk_S) (p1 : Int32) (p2 : Int32) (p3 : Int32) (p4 : Int32) (p5 : Int32), sk_hp G c h → sk_fr none s h0 c h → x3_holds_L15 N a k n c p1 p2 p3 p4 p5 = some (s9, r9) → ky_V G d M_X3_holds 15 [(0, .ref a), (1, .int p1), (2, .int p2), (3, .int p3), (4, .int p4), (5, .int p5)] [] h Q := by
  intro n
  induction n with
  | zero => intro h c p1 p2 p3 p4 p5 hm1 fr e; cases e
  | succ n ih =>
    intro h c p1 p2 p3 p4 p5 hm1 fr e
    rw [x3_holds_L15] at e
    refine v_iload (i := 11) (j := 5) rfl rfl (?_ : ky_V _ _ _ 17 _ _ _ _)
    refine v_iload_n (i := 12) (j := 2) rfl rfl (?_ : ky_V _ _ _ 18 _ _ _ _)
    refine v_icmp_ge (tgt := 215) (i := 13) rfl (by decide) (fun c1 => ?_) (fun c1 => ?_)
    · replace e := ky_ifT c1 e
      exact hk h c p1 p2 p3 p4 p5 hm1 fr e
    · replace e := ky_ifF c1 e
      refine v_iload (i := 14) (j := 4) rfl rfl (?_ : ky_V _ _ _ 23 _ _ _ _)
      refine v_iload_n (i := 15) (j := 2) rfl rfl (?_ : ky_V _ _ _ 24 _ _ _ _)
      refine v_icmp_ge (tgt := 215) (i := 16) rfl (by decide) (fun c2 => ?_) (fun c2 => ?_)
      · replace e := ky_ifT c2 e
        exact hk h c p1 p2 p3 p4 p5 hm1 fr e
      · replace e := ky_ifF c2 e
        refine v_iload_n (i := 17) (j := 3) rfl rfl (?_ : ky_V _ _ _ 28 _ _ _ _)
        refine v_iconst (v := 1) (i := 18) rfl (by decide) (?_ : ky_V _ _ _ 29 _ _ _ _)
        refine v_iand (i := 19) rfl (?_ : ky_V _ _ _ 30 _ _ _ _)
        refine v_topi (fun x3 ex3 => ?_)
        replace e := ky_letE ex3 e
        refine v_istore (L' := [(0, .ref a), (1, .int p1), (2, .int p2), (3, .int p3), (4, .int p4), (5, .int p5), (6, .int x3)]) [1, 2, 3, 4, 5, 6, 0] (i := 20) rfl (Nat.le_of_ble_eq_true rfl) rfl (?_ : ky_V _ _ _ 32 _ _ _ _)
        refine v_aload_n (i := 21) (j := 0) rfl rfl (?_ : ky_V _ _ _ 33 _ _ _ _)
        refine gf_X3_26 rfl (i := 22) rfl (oc_X3 hm1 (ly_X3_c (lt_X3 fr za))) (sk_rf (ly_X3_r4 (lt_X3 fr za))) (?_ : ky_V _ _ _ 36 _ (.ref (a + 4) :: _) _ _)
        refine v_iload (i := 23) (j := 4) rfl rfl (?_ : ky_V _ _ _ 38 _ _ _ _)
        obtain ⟨z4, e⟩ := ky_chkE e
        refine v_iald (i := 24) rfl (ox_21 hm1 (ly_X3_k4 (lt_X3 fr za))) (ky_inb z4) (?_ : ky_V _ _ _ 39 _ (.int (sk_c c (a + 4) (Int32.toNatClampNeg p4)) :: _) _ _)
        refine v_topi (fun x5 ex5 => ?_)
        replace e := ky_letE ex5 e
        rcases Classical.em (x5 = 0) with c6 | c6
        · replace e := ky_ifT c6 e
          refine v_tableIn (off := 29) (tgt := 68) (i := 25) rfl (by rw [c6]; decide) (by rw [c6]; decide) (by rw [c6]; rfl) (by decide) ?_
          refine v_iload (i := 26) (j := 4) rfl rfl (?_ : ky_V _ _ _ 70 _ _ _ _)
          refine v_iconst (v := 3) (i := 27) rfl (by decide) (?_ : ky_V _ _ _ 71 _ _ _ _)
          refine v_iadd (i := 28) rfl (?_ : ky_V _ _ _ 72 _ _ _ _)
          refine v_iconst (v := 2) (i := 29) rfl (by decide) (?_ : ky_V _ _ _ 73 _ _ _ _)
          refine v_aload_n (i := 30) (j := 0) rfl rfl (?_ : ky_V _ _ _ 74 _ _ _ _)
          refine gf_X3_26 rfl (i := 31) rfl (oc_X3 hm1 (ly_X3_c (lt_X3 fr za))) (sk_rf (ly_X3_r4 (lt_X3 fr za))) (?_ : ky_V _ _ _ 77 _ (.ref (a + 4) :: _) _ _)
          refine v_iload (i := 32) (j := 4) rfl rfl (?_ : ky_V _ _ _ 79 _ _ _ _)
          refine v_iconst (v := 2) (i := 33) rfl (by decide) (?_ : ky_V _ _ _ 80 _ _ _ _)
          refine v_iadd (i := 34) rfl (?_ : ky_V _ _ _ 81 _ _ _ _)
          obtain ⟨z7, e⟩ := ky_chkE e
          refine v_iald (i := 35) rfl (ox_21 hm1 (ly_X3_k4 (lt_X3 fr za))) (ky_inb z7) (?_ : ky_V _ _ _ 82 _ (.int (sk_c c (a + 4) (Int32.toNatClampNeg (p4 + 2))) :: _) _ _)
          refine v_imul (i := 36) rfl (?_ : ky_V _ _ _ 83 _ _ _ _)
          refine v_iadd (i := 37) rfl (?_ : ky_V _ _ _ 84 _ _ _ _)
          refine v_topi (fun x8 ex8 => ?_)
          replace e := ky_letE ex8 e
          refine v_istore (L' := [(0, .ref a), (1, .int p1), (2, .int p2), (3, .int p3), (4, .int p4), (5, .int p5), (6, .int x3), (7, .int x8)]) [1, 2, 3, 4, 5, 6, 7, 0] (i := 38) rfl (Nat.le_of_ble_eq_true rfl) rfl (?_ : ky_V _ _ _ 86 _ _ _ _)
          refine v_aload_n (i := 39) (j := 0) rfl rfl (?_ : ky_V _ _ _ 87 _ _ _ _)
          refine gf_X3_26 rfl (i := 40) rfl (oc_X3 hm1 (ly_X3_c (lt_X3 fr za))) (sk_rf (ly_X3_r4 (lt_X3 fr za))) (?_ : ky_V _ _ _ 90 _ (.ref (a + 4) :: _) _ _)
          refine v_iload (i := 41) (j := 4) rfl rfl (?_ : ky_V _ _ _ 92 _ _ _ _)
          refine v_iconst (v := 1) (i := 42) rfl (by decide) (?_ : ky_V _ _ _ 93 _ _ _ _)
          refine v_iadd (i := 43) rfl (?_ : ky_V _ _ _ 94 _ _ _ _)
          obtain ⟨z9, e⟩ := ky_chkE e
          refine v_iald (i := 44) rfl (ox_21 hm1 (ly_X3_k4 (lt_X3 fr za))) (ky_inb z9) (?_ : ky_V _ _ _ 95 _ (.int (sk_c c (a + 4) (Int32.toNatClampNeg (p4 + 1))) :: _) _ _)
          refine v_topi (fun x10 ex10 => ?_)
          replace e := ky_letE ex10 e
          refine v_istore (L' := [(0, .ref a), (1, .int p1), (2, .int p2), (3, .int p3), (4, .int p4), (5, .int p5), (6, .int x3), (7, .int x8), (8, .int x10)]) [1, 2, 3, 4, 5, 6, 7, 8, 0] (i := 45) rfl (Nat.le_of_ble_eq_true rfl) rfl (?_ : ky_V _ _ _ 97 _ _ _ _)
          refine v_iload (i := 46) (j := 4) rfl rfl (?_ : ky_V _ _ _ 99 _ _ _ _)
          refine v_iconst (v := 3) (i := 47) rfl (by decide) (?_ : ky_V _ _ _ 100 _ _ _ _)
          refine v_iadd (i := 48) rfl (?_ : ky_V _ _ _ 101 _ _ _ _)
          refine v_topi (fun x11 ex11 => ?_)
          replace e := ky_letE ex11 e
          refine v_istore (L' := [(0, .ref a), (1, .int p1), (2, .int p2), (3, .int p3), (4, .int p4), (5, .int p5), (6, .int x3), (7, .int x8), (8, .int x10), (9, .int x11)]) [1, 2, 3, 4, 5, 6, 7, 8, 9, 0] (i := 49) rfl (Nat.le_of_ble_eq_true rfl) rfl (?_ : ky_V _ _ _ 103 _ _ _ _)
          refine lv_X3_holds_103 N hG a za hm _ hr (fun h12 q13 x14 x15 x16 x17 x18 x19 x20 x21 x22 hmh12 frh12 e => ?_) N h c p1 p2 p3 p4 p5 x3 x8 x10 x11 hm1 fr e
          refine v_iload_n (i := 72) (j := 3) rfl rfl (?_ : ky_V _ _ _ 144 _ _ _ _)
          refine v_iconst (v := 1) (i := 73) rfl (by decide) (?_ : ky_V _ _ _ 145 _ _ _ _)
          refine v_ishl (i := 74) rfl (?_ : ky_V _ _ _ 146 _ _ _ _)
          refine v_iload (i := 75) (j := 8) rfl rfl (?_ : ky_V _ _ _ 148 _ _ _ _)
          refine v_if_ge (tgt := 155) (i := 76) rfl (by decide) (fun c23 => ?_) (fun c23 => ?_)
          · replace e := ky_ifT c23 e
            refine v_iconst (v := 0) (i := 79) rfl (by decide) (?_ : ky_V _ _ _ 156 _ _ _ _)
            refine v_ior (i := 80) rfl (?_ : ky_V _ _ _ 157 _ _ _ _)
            refine v_topi (fun x24 ex24 => ?_)
            replace e := ky_letE ex24 e
            refine v_istore_n (L' := [(0, .ref a), (1, .int x14), (2, .int x15), (3, .int x24), (4, .int x17), (5, .int x18), (6, .int x19), (7, .int x20), (8, .int x21), (9, .int x22)]) [1, 2, 3, 0, 4, 5, 6, 7, 8, 9] (i := 81) rfl (Nat.le_of_ble_eq_true rfl) rfl (?_ : ky_V _ _ _ 158 _ _ _ _)
            refine v_iload (i := 82) (j := 7) rfl rfl (?_ : ky_V _ _ _ 160 _ _ _ _)
            refine v_iconst (v := 1) (i := 83) rfl (by decide) (?_ : ky_V _ _ _ 161 _ _ _ _)
            refine v_isub (i := 84) rfl (?_ : ky_V _ _ _ 162 _ _ _ _)
            refine v_topi (fun x25 ex25 => ?_)
            replace e := ky_letE ex25 e
            refine v_istore (L' := [(0, .ref a), (1, .int x14), (2, .int x15), (3, .int x24), (4, .int x25), (5, .int x18), (6, .int x19), (7, .int x20), (8, .int x21), (9, .int x22)]) [1, 2, 3, 4, 0, 5, 6, 7, 8, 9] (i := 85) rfl (Nat.le_of_ble_eq_true rfl) rfl (?_ : ky_V _ _ _ 164 _ _ _ _)
            refine v_goto (tgt := 206) (i := 86) rfl (by decide) (?_ : ky_V _ _ _ 206 _ _ _ _)
            obtain ⟨x26, ex26⟩ : ∃ z : Int32, z = x25 + 1 := ⟨_, rfl⟩
            replace e := ky_letE ex26 e
            refine v_iinc (v := x26) (j := 4) (L' := [(0, .ref a), (1, .int x14), (2, .int x15), (3, .int x24), (4, .int x26), (5, .int x18), (6, .int x19), (7, .int x20), (8, .int x21), (9, .int x22)]) [1, 2, 3, 4, 0, 5, 6, 7, 8, 9] (i := 115) rfl rfl (by rw [ex26]; rfl) (Nat.le_of_ble_eq_true rfl) rfl (?_ : ky_V _ _ _ 209 _ _ _ _)
            obtain ⟨x27, ex27⟩ : ∃ z : Int32, z = x18 + 1 := ⟨_, rfl⟩
            replace e := ky_letE ex27 e
            refine v_iinc (v := x27) (j := 5) (L' := [(0, .ref a), (1, .int x14), (2, .int x15), (3, .int x24), (4, .int x26), (5, .int x27), (6, .int x19), (7, .int x20), (8, .int x21), (9, .int x22)]) [1, 2, 3, 4, 5, 0, 6, 7, 8, 9] (i := 116) rfl rfl (by rw [ex27]; rfl) (Nat.le_of_ble_eq_true rfl) rfl (?_ : ky_V _ _ _ 212 _ _ _ _)
            refine v_goto (tgt := 15) (i := 117) rfl (by decide) (?_ : ky_V _ _ _ 15 _ _ _ _)
            refine ky_loc (L' := [(0, .ref a), (1, .int x14), (2, .int x15), (3, .int x24), (4, .int x26), (5, .int x27)]) (by simp) ?_
            exact ih h12 q13 x14 x15 x24 x26 x27 hmh12 frh12 e
          · replace e := ky_ifF c23 e
            refine v_iconst (v := 1) (i := 77) rfl (by decide) (?_ : ky_V _ _ _ 152 _ _ _ _)
            refine v_goto (tgt := 156) (i := 78) rfl (by decide) (?_ : ky_V _ _ _ 156 _ _ _ _)
            refine v_ior (i := 80) rfl (?_ : ky_V _ _ _ 157 _ _ _ _)
            refine v_topi (fun x28 ex28 => ?_)
            replace e := ky_letE ex28 e
            refine v_istore_n (L' := [(0, .ref a), (1, .int x14), (2, .int x15), (3, .int x28), (4, .int x17), (5, .int x18), (6, .int x19), (7, .int x20), (8, .int x21), (9, .int x22)]) [1, 2, 3, 0, 4, 5, 6, 7, 8, 9] (i := 81) rfl (Nat.le_of_ble_eq_true rfl) rfl (?_ : ky_V _ _ _ 158 _ _ _ _)
            refine v_iload (i := 82) (j := 7) rfl rfl (?_ : ky_V _ _ _ 160 _ _ _ _)
            refine v_iconst (v := 1) (i := 83) rfl (by decide) (?_ : ky_V _ _ _ 161 _ _ _ _)
            refine v_isub (i := 84) rfl (?_ : ky_V _ _ _ 162 _ _ _ _)
            refine v_topi (fun x29 ex29 => ?_)
            replace e := ky_letE ex29 e
            refine v_istore (L' := [(0, .ref a), (1, .int x14), (2, .int x15), (3, .int x28), (4, .int x29), (5, .int x18), (6, .int x19), (7, .int x20), (8, .int x21), (9, .int x22)]) [1, 2, 3, 4, 0, 5, 6, 7, 8, 9] (i := 85) rfl (Nat.le_of_ble_eq_true rfl) rfl (?_ : ky_V _ _ _ 164 _ _ _ _)
            refine v_goto (tgt := 206) (i := 86) rfl (by decide) (?_ : ky_V _ _ _ 206 _ _ _ _)
            obtain ⟨x30, ex30⟩ : ∃ z : Int32, z = x29 + 1 := ⟨_, rfl⟩
            replace e := ky_letE ex30 e
            refine v_iinc (v := x30) (j := 4) (L' := [(0, .ref a), (1, .int x14), (2, .int x15), (3, .int x28), (4, .int x30), (5, .int x18), (6, .int x19), (7, .int x20), (8, .int x21), (9, .int x22)]) [1, 2, 3, 4, 0, 5, 6, 7, 8, 9] (i := 115) rfl rfl (by rw [ex30]; rfl) (Nat.le_of_ble_eq_true rfl) rfl (?_ : ky_V _ _ _ 209 _ _ _ _)
            obtain ⟨x31, ex31⟩ : ∃ z : Int32, z = x18 + 1 := ⟨_, rfl⟩
            replace e := ky_letE ex31 e
            refine v_iinc (v := x31) (j := 5) (L' := [(0, .ref a), (1, .int x14), (2, .int x15), (3, .int x28), (4, .int x30), (5, .int x31), (6, .int x19), (7, .int x20), (8, .int x21), (9, .int x22)]) [1, 2, 3, 4, 5, 0, 6, 7, 8, 9] (i := 116) rfl rfl (by rw [ex31]; rfl) (Nat.le_of_ble_eq_true rfl) rfl (?_ : ky_V _ _ _ 212 _ _ _ _)
            refine v_goto (tgt := 15) (i := 117) rfl (by decide) (?_ : ky_V _ _ _ 15 _ _ _ _)
            refine ky_loc (L' := [(0, .ref a), (1, .int x14), (2, .int x15), (3, .int x28), (4, .int x30), (5, .int x31)]) (by simp) ?_
            exact ih h12 q13 x14 x15 x28 x30 x31 hmh12 frh12 e
        · replace e := ky_ifF c6 e
          rcases Classical.em (x5 = 1) with c32 | c32
          · replace e := ky_ifT c32 e
            refine v_tableIn (off := 128) (tgt := 167) (i := 25) rfl (by rw [c32]; decide) (by rw [c32]; decide) (by rw [c32]; rfl) (by decide) ?_
            refine v_iload_n (i := 87) (j := 3) rfl rfl (?_ : ky_V _ _ _ 168 _ _ _ _)
            refine v_iconst (v := 1) (i := 88) rfl (by decide) (?_ : ky_V _ _ _ 169 _ _ _ _)
            refine v_ishl (i := 89) rfl (?_ : ky_V _ _ _ 170 _ _ _ _)
            refine v_aload_n (i := 90) (j := 0) rfl rfl (?_ : ky_V _ _ _ 171 _ _ _ _)
            refine gf_X3_38 rfl (i := 91) rfl (oc_X3 hm1 (ly_X3_c (lt_X3 fr za))) rfl (?_ : ky_V _ _ _ 174 _ _ _ _)
            refine v_ior (i := 92) rfl (?_ : ky_V _ _ _ 175 _ _ _ _)
            refine v_topi (fun x33 ex33 => ?_)
            replace e := ky_letE ex33 e
            refine v_istore_n (L' := [(0, .ref a), (1, .int p1), (2, .int p2), (3, .int x33), (4, .int p4), (5, .int p5), (6, .int x3)]) [1, 2, 3, 0, 4, 5, 6] (i := 93) rfl (Nat.le_of_ble_eq_true rfl) rfl (?_ : ky_V _ _ _ 176 _ _ _ _)
            refine v_goto (tgt := 206) (i := 94) rfl (by decide) (?_ : ky_V _ _ _ 206 _ _ _ _)
            obtain ⟨x34, ex34⟩ : ∃ z : Int32, z = p4 + 1 := ⟨_, rfl⟩
            replace e := ky_letE ex34 e
            refine v_iinc (v := x34) (j := 4) (L' := [(0, .ref a), (1, .int p1), (2, .int p2), (3, .int x33), (4, .int x34), (5, .int p5), (6, .int x3)]) [1, 2, 3, 4, 0, 5, 6] (i := 115) rfl rfl (by rw [ex34]; rfl) (Nat.le_of_ble_eq_true rfl) rfl (?_ : ky_V _ _ _ 209 _ _ _ _)
            obtain ⟨x35, ex35⟩ : ∃ z : Int32, z = p5 + 1 := ⟨_, rfl⟩
            replace e := ky_letE ex35 e
            refine v_iinc (v := x35) (j := 5) (L' := [(0, .ref a), (1, .int p1), (2, .int p2), (3, .int x33), (4, .int x34), (5, .int x35), (6, .int x3)]) [1, 2, 3, 4, 5, 0, 6] (i := 116) rfl rfl (by rw [ex35]; rfl) (Nat.le_of_ble_eq_true rfl) rfl (?_ : ky_V _ _ _ 212 _ _ _ _)
            refine v_goto (tgt := 15) (i := 117) rfl (by decide) (?_ : ky_V _ _ _ 15 _ _ _ _)
            refine ky_loc (L' := [(0, .ref a), (1, .int p1), (2, .int p2), (3, .int x33), (4, .int x34), (5, .int x35)]) (by simp) ?_
            exact ih h c p1 p2 x33 x34 x35 hm1 fr e
          · replace e := ky_ifF c32 e
            rcases Classical.em (x5 = 2) with c36 | c36
            · replace e := ky_ifT c36 e
              refine v_tableIn (off := 140) (tgt := 179) (i := 25) rfl (by rw [c36]; decide) (by rw [c36]; decide) (by rw [c36]; rfl) (by decide) ?_
              refine v_iload_n (i := 95) (j := 3) rfl rfl (?_ : ky_V _ _ _ 180 _ _ _ _)
              refine v_iconst (v := 1) (i := 96) rfl (by decide) (?_ : ky_V _ _ _ 181 _ _ _ _)
              refine v_ixor (i := 97) rfl (?_ : ky_V _ _ _ 182 _ _ _ _)
              refine v_topi (fun x37 ex37 => ?_)
              replace e := ky_letE ex37 e
              refine v_istore_n (L' := [(0, .ref a), (1, .int p1), (2, .int p2), (3, .int x37), (4, .int p4), (5, .int p5), (6, .int x3)]) [1, 2, 3, 0, 4, 5, 6] (i := 98) rfl (Nat.le_of_ble_eq_true rfl) rfl (?_ : ky_V _ _ _ 183 _ _ _ _)
              refine v_goto (tgt := 206) (i := 99) rfl (by decide) (?_ : ky_V _ _ _ 206 _ _ _ _)
              obtain ⟨x38, ex38⟩ : ∃ z : Int32, z = p4 + 1 := ⟨_, rfl⟩
              replace e := ky_letE ex38 e
              refine v_iinc (v := x38) (j := 4) (L' := [(0, .ref a), (1, .int p1), (2, .int p2), (3, .int x37), (4, .int x38), (5, .int p5), (6, .int x3)]) [1, 2, 3, 4, 0, 5, 6] (i := 115) rfl rfl (by rw [ex38]; rfl) (Nat.le_of_ble_eq_true rfl) rfl (?_ : ky_V _ _ _ 209 _ _ _ _)
              obtain ⟨x39, ex39⟩ : ∃ z : Int32, z = p5 + 1 := ⟨_, rfl⟩
              replace e := ky_letE ex39 e
              refine v_iinc (v := x39) (j := 5) (L' := [(0, .ref a), (1, .int p1), (2, .int p2), (3, .int x37), (4, .int x38), (5, .int x39), (6, .int x3)]) [1, 2, 3, 4, 5, 0, 6] (i := 116) rfl rfl (by rw [ex39]; rfl) (Nat.le_of_ble_eq_true rfl) rfl (?_ : ky_V _ _ _ 212 _ _ _ _)
              refine v_goto (tgt := 15) (i := 117) rfl (by decide) (?_ : ky_V _ _ _ 15 _ _ _ _)
              refine ky_loc (L' := [(0, .ref a), (1, .int p1), (2, .int p2), (3, .int x37), (4, .int x38), (5, .int x39)]) (by simp) ?_
              exact ih h c p1 p2 x37 x38 x39 hm1 fr e
            · replace e := ky_ifF c36 e
              rcases Classical.em (x5 = 3) with c40 | c40
              · replace e := ky_ifT c40 e
                refine v_tableIn (off := 147) (tgt := 186) (i := 25) rfl (by rw [c40]; decide) (by rw [c40]; decide) (by rw [c40]; rfl) (by decide) ?_
                refine v_iload_n (i := 100) (j := 3) rfl rfl (?_ : ky_V _ _ _ 187 _ _ _ _)
                refine v_iconst (v := 1) (i := 101) rfl (by decide) (?_ : ky_V _ _ _ 188 _ _ _ _)
                refine v_iushr (i := 102) rfl rfl (?_ : ky_V _ _ _ 189 _ _ _ _)
                refine v_iload (i := 103) (j := 6) rfl rfl (?_ : ky_V _ _ _ 191 _ _ _ _)
                refine v_bipush (v := (-2)) (i := 104) rfl (by decide) (?_ : ky_V _ _ _ 193 _ _ _ _)
                refine v_ior (i := 105) rfl (?_ : ky_V _ _ _ 194 _ _ _ _)
                refine v_iand (i := 106) rfl (?_ : ky_V _ _ _ 195 _ _ _ _)
                refine v_topi (fun x41 ex41 => ?_)
                replace e := ky_letE ex41 e
                refine v_istore_n (L' := [(0, .ref a), (1, .int p1), (2, .int p2), (3, .int x41), (4, .int p4), (5, .int p5), (6, .int x3)]) [1, 2, 3, 0, 4, 5, 6] (i := 107) rfl (Nat.le_of_ble_eq_true rfl) rfl (?_ : ky_V _ _ _ 196 _ _ _ _)
                refine v_goto (tgt := 206) (i := 108) rfl (by decide) (?_ : ky_V _ _ _ 206 _ _ _ _)
                obtain ⟨x42, ex42⟩ : ∃ z : Int32, z = p4 + 1 := ⟨_, rfl⟩
                replace e := ky_letE ex42 e
                refine v_iinc (v := x42) (j := 4) (L' := [(0, .ref a), (1, .int p1), (2, .int p2), (3, .int x41), (4, .int x42), (5, .int p5), (6, .int x3)]) [1, 2, 3, 4, 0, 5, 6] (i := 115) rfl rfl (by rw [ex42]; rfl) (Nat.le_of_ble_eq_true rfl) rfl (?_ : ky_V _ _ _ 209 _ _ _ _)
                obtain ⟨x43, ex43⟩ : ∃ z : Int32, z = p5 + 1 := ⟨_, rfl⟩
                replace e := ky_letE ex43 e
                refine v_iinc (v := x43) (j := 5) (L' := [(0, .ref a), (1, .int p1), (2, .int p2), (3, .int x41), (4, .int x42), (5, .int x43), (6, .int x3)]) [1, 2, 3, 4, 5, 0, 6] (i := 116) rfl rfl (by rw [ex43]; rfl) (Nat.le_of_ble_eq_true rfl) rfl (?_ : ky_V _ _ _ 212 _ _ _ _)
                refine v_goto (tgt := 15) (i := 117) rfl (by decide) (?_ : ky_V _ _ _ 15 _ _ _ _)
                refine ky_loc (L' := [(0, .ref a), (1, .int p1), (2, .int p2), (3, .int x41), (4, .int x42), (5, .int x43)]) (by simp) ?_
                exact ih h c p1 p2 x41 x42 x43 hm1 fr e
              · replace e := ky_ifF c40 e
                refine v_tableOut (tgt := 199) (i := 25) rfl (ky_swO (fun z h1 h2 => ?_)) (by decide) ?_
                · intro hz
                  have h3 : z = 0 ∨ z = 1 ∨ z = 2 ∨ z = 3 := by omega
                  rcases h3 with h3 | h3 | h3 | h3 <;> subst h3
                  · exact c6 (Int32.toInt_inj.mp (hz.trans (by decide)))
                  · exact c32 (Int32.toInt_inj.mp (hz.trans (by decide)))
                  · exact c36 (Int32.toInt_inj.mp (hz.trans (by decide)))
                  · exact c40 (Int32.toInt_inj.mp (hz.trans (by decide)))
                · refine v_iload_n (i := 109) (j := 3) rfl rfl (?_ : ky_V _ _ _ 200 _ _ _ _)
                  refine v_iconst (v := 1) (i := 110) rfl (by decide) (?_ : ky_V _ _ _ 201 _ _ _ _)
                  refine v_iushr (i := 111) rfl rfl (?_ : ky_V _ _ _ 202 _ _ _ _)
                  refine v_iload (i := 112) (j := 6) rfl rfl (?_ : ky_V _ _ _ 204 _ _ _ _)
                  refine v_ior (i := 113) rfl (?_ : ky_V _ _ _ 205 _ _ _ _)
                  refine v_topi (fun x44 ex44 => ?_)
                  replace e := ky_letE ex44 e
                  refine v_istore_n (L' := [(0, .ref a), (1, .int p1), (2, .int p2), (3, .int x44), (4, .int p4), (5, .int p5), (6, .int x3)]) [1, 2, 3, 0, 4, 5, 6] (i := 114) rfl (Nat.le_of_ble_eq_true rfl) rfl (?_ : ky_V _ _ _ 206 _ _ _ _)
                  obtain ⟨x45, ex45⟩ : ∃ z : Int32, z = p4 + 1 := ⟨_, rfl⟩
                  replace e := ky_letE ex45 e
                  refine v_iinc (v := x45) (j := 4) (L' := [(0, .ref a), (1, .int p1), (2, .int p2), (3, .int x44), (4, .int x45), (5, .int p5), (6, .int x3)]) [1, 2, 3, 4, 0, 5, 6] (i := 115) rfl rfl (by rw [ex45]; rfl) (Nat.le_of_ble_eq_true rfl) rfl (?_ : ky_V _ _ _ 209 _ _ _ _)
                  obtain ⟨x46, ex46⟩ : ∃ z : Int32, z = p5 + 1 := ⟨_, rfl⟩
                  replace e := ky_letE ex46 e
                  refine v_iinc (v := x46) (j := 5) (L' := [(0, .ref a), (1, .int p1), (2, .int p2), (3, .int x44), (4, .int x45), (5, .int x46), (6, .int x3)]) [1, 2, 3, 4, 5, 0, 6] (i := 116) rfl rfl (by rw [ex46]; rfl) (Nat.le_of_ble_eq_true rfl) rfl (?_ : ky_V _ _ _ 212 _ _ _ _)
                  refine v_goto (tgt := 15) (i := 117) rfl (by decide) (?_ : ky_V _ _ _ 15 _ _ _ _)
                  refine ky_loc (L' := [(0, .ref a), (1, .int p1), (2, .int p2), (3, .int x44), (4, .int x45), (5, .int x46)]) (by simp) ?_
                  exact ih h c p1 p2 x44 x45 x46 hm1 fr e

def x3_holds (N : Nat)  (s : sk_S) (a : Nat) (p1 : Int32) (p2 : Int32) : Option (sk_S × Int32) := (if lay_X3 (sk_K s) (sk_r s) a = true then (if p1 = p2 then (some (s, 1)) else (x3_holds_L15 N a (fun q3 x4 x5 x6 x7 x8 => (if (x6 &&& 1) = (1 : Int32) then (some (q3, 1)) else (some (q3, 0)))) N s p1 p2 0 p1 p1)) else none)
set_option maxRecDepth 20000 in
set_option maxHeartbeats 4000000 in
theorem k_X3_holds {G : ky_GW} {d : Nat} {h : ky_HP} {Q : ky_RS → ky_HP → Prop} {s s9 : sk_S} {r9 : Int32} {a : Nat} {p1 : Int32} {p2 : Int32} (N : Nat) (hG : ky_OK G)   (hm : sk_hp G s h)  (e : x3_holds N  s a p1 p2 = some (s9, r9)) (hr : ∀ h1, sk_hp G s9 h1 → sk_fr none s h s9 h1 → Q (.inl (some (.int r9))) h1) : ky_Call G d M_X3_holds [.ref a, .int p1, .int p2] h Q := by
  refine ky_ofV (by decide +kernel) rfl ok_X3_holds (Nat.le_of_ble_eq_true rfl) ?_
  have fr : sk_fr none s h s h := sk_fr.rf
  unfold x3_holds at e
  refine (?_ : ky_V _ _ _ 0 [(0, .ref a), (1, .int p1), (2, .int p2)] [] _ _)
  obtain ⟨za, e⟩ := ky_chkE e
  refine v_iload_n (i := 0) (j := 1) rfl rfl (?_ : ky_V _ _ _ 1 _ _ _ _)
  refine v_iload_n (i := 1) (j := 2) rfl rfl (?_ : ky_V _ _ _ 2 _ _ _ _)
  refine v_icmp_ne (tgt := 7) (i := 2) rfl (by decide) (fun c1 => ?_) (fun c1 => ?_)
  · replace e := ky_ifF c1 e
    refine v_iconst (v := 0) (i := 5) rfl (by decide) (?_ : ky_V _ _ _ 8 _ _ _ _)
    refine v_istore_n (L' := [(0, .ref a), (1, .int p1), (2, .int p2), (3, .int 0)]) [1, 2, 3, 0] (i := 6) rfl (Nat.le_of_ble_eq_true rfl) rfl (?_ : ky_V _ _ _ 9 _ _ _ _)
    refine v_iload_n (i := 7) (j := 1) rfl rfl (?_ : ky_V _ _ _ 10 _ _ _ _)
    refine v_istore (L' := [(0, .ref a), (1, .int p1), (2, .int p2), (3, .int 0), (4, .int p1)]) [1, 2, 3, 4, 0] (i := 8) rfl (Nat.le_of_ble_eq_true rfl) rfl (?_ : ky_V _ _ _ 12 _ _ _ _)
    refine v_iload_n (i := 9) (j := 1) rfl rfl (?_ : ky_V _ _ _ 13 _ _ _ _)
    refine v_istore (L' := [(0, .ref a), (1, .int p1), (2, .int p2), (3, .int 0), (4, .int p1), (5, .int p1)]) [1, 2, 3, 4, 5, 0] (i := 10) rfl (Nat.le_of_ble_eq_true rfl) rfl (?_ : ky_V _ _ _ 15 _ _ _ _)
    refine lv_X3_holds_15 N hG a za hm _ hr (fun h2 q3 x4 x5 x6 x7 x8 hmh2 frh2 e => ?_) N h s p1 p2 0 p1 p1 hm fr e
    refine v_iload_n (i := 118) (j := 3) rfl rfl (?_ : ky_V _ _ _ 216 _ _ _ _)
    refine v_iconst (v := 1) (i := 119) rfl (by decide) (?_ : ky_V _ _ _ 217 _ _ _ _)
    refine v_iand (i := 120) rfl (?_ : ky_V _ _ _ 218 _ _ _ _)
    refine v_iconst (v := 1) (i := 121) rfl (by decide) (?_ : ky_V _ _ _ 219 _ _ _ _)
    refine v_icmp_ne (tgt := 226) (i := 122) rfl (by decide) (fun c9 => ?_) (fun c9 => ?_)
    · replace e := ky_ifF c9 e
      refine v_iconst (v := 0) (i := 125) rfl (by decide) (?_ : ky_V _ _ _ 227 _ _ _ _)
      refine v_iret (v := 0) (ty := .boolean) (i := 126) rfl rfl (by decide) ?_
      obtain ⟨rfl, rfl⟩ := ky_leaf e
      exact hr _ hmh2 frh2
    · replace e := ky_ifT c9 e
      refine v_iconst (v := 1) (i := 123) rfl (by decide) (?_ : ky_V _ _ _ 223 _ _ _ _)
      refine v_goto (tgt := 227) (i := 124) rfl (by decide) (?_ : ky_V _ _ _ 227 _ _ _ _)
      refine v_iret (v := 1) (ty := .boolean) (i := 126) rfl rfl (by decide) ?_
      obtain ⟨rfl, rfl⟩ := ky_leaf e
      exact hr _ hmh2 frh2
  · replace e := ky_ifT c1 e
    refine v_iconst (v := 1) (i := 3) rfl (by decide) (?_ : ky_V _ _ _ 6 _ _ _ _)
    refine v_iret (v := 1) (ty := .boolean) (i := 4) rfl rfl (by decide) ?_
    obtain ⟨rfl, rfl⟩ := ky_leaf e
    exact hr _ hm fr

def x3_init (N : Nat)  (s : sk_S) (a : Nat) (a1_ : Nat) (a2_ : Nat) (a3_ : Nat) (a4_ : Nat) : Option (sk_S × Int32) := (if sk_K s a = (4, 0) then (if (sk_K s a1_).1 = 21 then (if (sk_K s a2_).1 = 21 then (if (sk_K s a3_).1 = 21 then (if (sk_K s a4_).1 = 21 then (ky_let (sk_n s) (fun a1 => (ky_let (sk_nw s 21 6 6) (fun q3 => (ky_let (sk_wr q3 a 5 (some a1)) (fun q5 => (ky_let (Int32.ofNat (sk_K q5 a1_).2) (fun x6 => (ky_let (sk_wc q5 a 0 x6) (fun q8 => (ky_let (sk_wr q8 a 1 (some a1_)) (fun q10 => (ky_let (sk_wr q10 a 2 (some a2_)) (fun q12 => (ky_let (sk_wr q12 a 3 (some a3_)) (fun q14 => (ky_let (sk_wr q14 a 4 (some a4_)) (fun q16 => (some (q16, 0)))))))))))))))))))) else none) else none) else none) else none) else none)
set_option maxRecDepth 20000 in
set_option maxHeartbeats 4000000 in
theorem k_X3_init {G : ky_GW} {d : Nat} {h : ky_HP} {Q : ky_RS → ky_HP → Prop} {s s9 : sk_S} {r9 : Int32} {a : Nat} {a1_ : Nat} {a2_ : Nat} {a3_ : Nat} {a4_ : Nat} (N : Nat) (hG : ky_OK G)   (hm : sk_hp G s h)  (e : x3_init N  s a a1_ a2_ a3_ a4_ = some (s9, r9)) (hr : ∀ h1, sk_hp G s9 h1 → sk_fr (some a) s h s9 h1 → Q (.inl none) h1) : ky_Call G (d + 1) M_X3_init [.ref a, .ref a1_, .ref a2_, .ref a3_, .ref a4_] h Q := by
  refine ky_ofV (by decide +kernel) rfl ok_X3_init (Nat.le_of_ble_eq_true rfl) ?_
  have fr : sk_fr (some a) s h s h := sk_fr.rf
  unfold x3_init at e
  refine (?_ : ky_V _ _ _ 0 [(0, .ref a), (1, .ref a1_), (2, .ref a2_), (3, .ref a3_), (4, .ref a4_)] [] _ _)
  obtain ⟨z0, e⟩ := ky_chkE e
  obtain ⟨za1_, e⟩ := ky_chkE e
  obtain ⟨za2_, e⟩ := ky_chkE e
  obtain ⟨za3_, e⟩ := ky_chkE e
  obtain ⟨za4_, e⟩ := ky_chkE e
  refine v_aload_n (i := 0) (j := 0) rfl rfl (?_ : ky_V _ _ _ 1 _ _ _ _)
  refine v_objInit (by rw [show M_X3_init.1.cls = "WaistSand$Law" from rfl]; exact ky_t5 (i := 6) rfl rfl) (ky_t1 (i := 36) rfl rfl) (ky_t1 (i := 37) rfl rfl) (i := 1) rfl (Nat.le_of_ble_eq_true rfl) (?_ : ky_V _ _ _ 4 _ _ _ _)
  refine v_aload_n (i := 2) (j := 0) rfl rfl (?_ : ky_V _ _ _ 5 _ _ _ _)
  refine v_bipush (v := 6) (i := 3) rfl (by decide) (?_ : ky_V _ _ _ 7 _ _ _ _)
  refine v_newi (N := 6) (ky_t1 (i := 87) rfl rfl) (i := 4) rfl (by decide) rfl (by decide) ?_
  refine sk_snw hm fr 21 6 rfl (fun a1 h2 ea1 hmh2 frh2 => ?_)
  replace e := ky_letE ea1 e
  obtain ⟨q3, eq3⟩ : ∃ z, z = (sk_nw s 21 6 6) := ⟨_, rfl⟩
  rw [← eq3] at hmh2 frh2
  replace e := ky_letE eq3 e
  refine (?_ : ky_V _ _ _ 9 _ (.ref a1 :: _) _ _)
  refine pf_X3_9 rfl rfl (i := 5) rfl (oc_X3 hmh2 (frh2.K (k := 3) z0)) (Nat.le_of_ble_eq_true rfl) rfl rfl ?_
  refine sk_str (kd := 3) (n := 0) hmh2 frh2 (frh2.K (k := 3) z0) 5 (some a1) (Or.inr rfl) (fun h4 hmh4 frh4 => ?_)
  obtain ⟨q5, eq5⟩ : ∃ z, z = (sk_wr q3 a 5 (some a1)) := ⟨_, rfl⟩
  rw [← eq5] at hmh4 frh4
  replace e := ky_letE eq5 e
  refine (?_ : ky_V _ _ _ 12 _ _ _ _)
  refine v_aload_n (i := 6) (j := 0) rfl rfl (?_ : ky_V _ _ _ 13 _ _ _ _)
  refine v_aload_n (i := 7) (j := 1) rfl rfl (?_ : ky_V _ _ _ 14 _ _ _ _)
  refine v_alen (v := (Int32.ofNat (sk_K q5 a1_).2)) 1 (by decide) (i := 8) rfl (ox_21 hmh4 (frh4.K1 (k := 20) za1_)) rfl (?_ : ky_V _ _ _ 15 _ _ _ _)
  refine v_topi (fun x6 ex6 => ?_)
  replace e := ky_letE ex6 e
  refine pf_X3_13 rfl rfl (i := 9) rfl (oc_X3 hmh4 (frh4.K (k := 3) z0)) (Nat.le_of_ble_eq_true rfl) rfl rfl ?_
  refine sk_stc (kd := 3) (n := 0) hmh4 frh4 (frh4.K (k := 3) z0) 0 x6 (fun h7 hmh7 frh7 => ?_)
  obtain ⟨q8, eq8⟩ : ∃ z, z = (sk_wc q5 a 0 x6) := ⟨_, rfl⟩
  rw [← eq8] at hmh7 frh7
  replace e := ky_letE eq8 e
  refine (?_ : ky_V _ _ _ 18 _ _ _ _)
  refine v_aload_n (i := 10) (j := 0) rfl rfl (?_ : ky_V _ _ _ 19 _ _ _ _)
  refine v_aload_n (i := 11) (j := 1) rfl rfl (?_ : ky_V _ _ _ 20 _ _ _ _)
  refine pf_X3_17 rfl rfl (i := 12) rfl (oc_X3 hmh7 (frh7.K (k := 3) z0)) (Nat.le_of_ble_eq_true rfl) rfl rfl ?_
  refine sk_str (kd := 3) (n := 0) hmh7 frh7 (frh7.K (k := 3) z0) 1 (some a1_) (Or.inr rfl) (fun h9 hmh9 frh9 => ?_)
  obtain ⟨q10, eq10⟩ : ∃ z, z = (sk_wr q8 a 1 (some a1_)) := ⟨_, rfl⟩
  rw [← eq10] at hmh9 frh9
  replace e := ky_letE eq10 e
  refine (?_ : ky_V _ _ _ 23 _ _ _ _)
  refine v_aload_n (i := 13) (j := 0) rfl rfl (?_ : ky_V _ _ _ 24 _ _ _ _)
  refine v_aload_n (i := 14) (j := 2) rfl rfl (?_ : ky_V _ _ _ 25 _ _ _ _)
  refine pf_X3_20 rfl rfl (i := 15) rfl (oc_X3 hmh9 (frh9.K (k := 3) z0)) (Nat.le_of_ble_eq_true rfl) rfl rfl ?_
  refine sk_str (kd := 3) (n := 0) hmh9 frh9 (frh9.K (k := 3) z0) 2 (some a2_) (Or.inr rfl) (fun h11 hmh11 frh11 => ?_)
  obtain ⟨q12, eq12⟩ : ∃ z, z = (sk_wr q10 a 2 (some a2_)) := ⟨_, rfl⟩
  rw [← eq12] at hmh11 frh11
  replace e := ky_letE eq12 e
  refine (?_ : ky_V _ _ _ 28 _ _ _ _)
  refine v_aload_n (i := 16) (j := 0) rfl rfl (?_ : ky_V _ _ _ 29 _ _ _ _)
  refine v_aload_n (i := 17) (j := 3) rfl rfl (?_ : ky_V _ _ _ 30 _ _ _ _)
  refine pf_X3_23 rfl rfl (i := 18) rfl (oc_X3 hmh11 (frh11.K (k := 3) z0)) (Nat.le_of_ble_eq_true rfl) rfl rfl ?_
  refine sk_str (kd := 3) (n := 0) hmh11 frh11 (frh11.K (k := 3) z0) 3 (some a3_) (Or.inr rfl) (fun h13 hmh13 frh13 => ?_)
  obtain ⟨q14, eq14⟩ : ∃ z, z = (sk_wr q12 a 3 (some a3_)) := ⟨_, rfl⟩
  rw [← eq14] at hmh13 frh13
  replace e := ky_letE eq14 e
  refine (?_ : ky_V _ _ _ 33 _ _ _ _)
  refine v_aload_n (i := 19) (j := 0) rfl rfl (?_ : ky_V _ _ _ 34 _ _ _ _)
  refine v_aload (i := 20) (j := 4) rfl rfl (?_ : ky_V _ _ _ 36 _ _ _ _)
  refine pf_X3_26 rfl rfl (i := 21) rfl (oc_X3 hmh13 (frh13.K (k := 3) z0)) (Nat.le_of_ble_eq_true rfl) rfl rfl ?_
  refine sk_str (kd := 3) (n := 0) hmh13 frh13 (frh13.K (k := 3) z0) 4 (some a4_) (Or.inr rfl) (fun h15 hmh15 frh15 => ?_)
  obtain ⟨q16, eq16⟩ : ∃ z, z = (sk_wr q14 a 4 (some a4_)) := ⟨_, rfl⟩
  rw [← eq16] at hmh15 frh15
  replace e := ky_letE eq16 e
  refine (?_ : ky_V _ _ _ 39 _ _ _ _)
  refine v_vret (i := 22) rfl rfl ?_
  obtain ⟨rfl, rfl⟩ := ky_leaf e
  exact hr _ hmh15 frh15

def x6_init_L14 (N : Nat)  (a : Nat) (k : sk_S → Int32 → Option (sk_S × Int32)) : Nat → sk_S → Int32 → Option (sk_S × Int32)
  | 0, _, _ => none
  | n + 1, c, p1 => (if (7 : Int32) ≤ p1 then (k c p1) else (ky_om (sk_r c a 0) none (fun l2 => (if (sk_K c l2).1 = 21 then (if ky_inB ((4 * p1) + 3) (sk_K c l2).2 = true then (ky_let (sk_wc c l2 (Int32.toNatClampNeg ((4 * p1) + 3)) 1) (fun q7 => (ky_let (p1 + 1) (fun x8 => (x6_init_L14 N a k n q7 x8))))) else none) else none))))
set_option maxRecDepth 20000 in
set_option maxHeartbeats 4000000 in
theorem lv_X6_init_14 {G : ky_GW} {d : Nat} {s s9 : sk_S} {h0 : ky_HP} {Q : ky_RS → ky_HP → Prop} {r9 : Int32} (N : Nat) (hG : ky_OK G)  (a : Nat)   (z0 : sk_K s a = (6, 0)) (hm : sk_hp G s h0) (k : sk_S → Int32 → Option (sk_S × Int32)) (hr : ∀ h1, sk_hp G s9 h1 → sk_fr (some a) s h0 s9 h1 → Q (.inl none) h1)
    (hk : ∀ (h : ky_HP) (c : sk_S) (p1 : Int32), sk_hp G c h → sk_fr (some a) s h0 c h → k c p1 = some (s9, r9) → ky_V G (d + 1) M_X6_init 37 [(0, .ref a), (1, .int p1)] [] h Q) :
    ∀ (n : Nat) (h : ky_HP) (c : sk_S) (p1 : Int32), sk_hp G c h → sk_fr (some a) s h0 c h → x6_init_L14 N a k n c p1 = some (s9, r9) → ky_V G (d + 1) M_X6_init 14 [(0, .ref a), (1, .int p1)] [] h Q := by
  intro n
  induction n with
  | zero => intro h c p1 hm1 fr e; cases e
  | succ n ih =>
    intro h c p1 hm1 fr e
    rw [x6_init_L14] at e
    refine v_iload_n (i := 8) (j := 1) rfl rfl (?_ : ky_V _ _ _ 15 _ _ _ _)
    refine v_bipush (v := 7) (i := 9) rfl (by decide) (?_ : ky_V _ _ _ 17 _ _ _ _)
    refine v_icmp_ge (tgt := 37) (i := 10) rfl (by decide) (fun c1 => ?_) (fun c1 => ?_)
    · replace e := ky_ifT c1 e
      exact hk h c p1 hm1 fr e
    · replace e := ky_ifF c1 e
      refine v_aload_n (i := 11) (j := 0) rfl rfl (?_ : ky_V _ _ _ 21 _ _ _ _)
      obtain ⟨l2, y3, e⟩ := ky_omE e
      refine gf_X6_11 rfl (i := 12) rfl (oc_X6 hm1 (fr.K (k := 5) z0)) (sk_rf y3) (?_ : ky_V _ _ _ 24 _ _ _ _)
      refine v_iconst (v := 4) (i := 13) rfl (by decide) (?_ : ky_V _ _ _ 25 _ _ _ _)
      refine v_iload_n (i := 14) (j := 1) rfl rfl (?_ : ky_V _ _ _ 26 _ _ _ _)
      refine v_imul (i := 15) rfl (?_ : ky_V _ _ _ 27 _ _ _ _)
      refine v_iconst (v := 3) (i := 16) rfl (by decide) (?_ : ky_V _ _ _ 28 _ _ _ _)
      refine v_iadd (i := 17) rfl (?_ : ky_V _ _ _ 29 _ _ _ _)
      refine v_iconst (v := 1) (i := 18) rfl (by decide) (?_ : ky_V _ _ _ 30 _ _ _ _)
      obtain ⟨z4, e⟩ := ky_chkE e
      obtain ⟨z5, e⟩ := ky_chkE e
      refine v_iast (i := 19) rfl (ox_21 hm1 z4) (ky_inb z5) ?_
      refine sk_stc (kd := 20) hm1 fr (sk_pr z4) (Int32.toNatClampNeg ((4 * p1) + 3)) 1 (fun h6 hmh6 frh6 => ?_)
      obtain ⟨q7, eq7⟩ : ∃ z, z = (sk_wc c l2 (Int32.toNatClampNeg ((4 * p1) + 3)) 1) := ⟨_, rfl⟩
      rw [← eq7] at hmh6 frh6
      replace e := ky_letE eq7 e
      refine (?_ : ky_V _ _ _ 31 _ _ _ _)
      obtain ⟨x8, ex8⟩ : ∃ z : Int32, z = p1 + 1 := ⟨_, rfl⟩
      replace e := ky_letE ex8 e
      refine v_iinc (v := x8) (j := 1) (L' := [(0, .ref a), (1, .int x8)]) [1, 0] (i := 20) rfl rfl (by rw [ex8]; rfl) (Nat.le_of_ble_eq_true rfl) rfl (?_ : ky_V _ _ _ 34 _ _ _ _)
      refine v_goto (tgt := 14) (i := 21) rfl (by decide) (?_ : ky_V _ _ _ 14 _ _ _ _)
      exact ih h6 q7 x8 hmh6 frh6 e

def x6_init (N : Nat)  (s : sk_S) (a : Nat) : Option (sk_S × Int32) := (if sk_K s a = (6, 0) then (ky_let (sk_n s) (fun a1 => (ky_let (sk_nw s 21 28 28) (fun q3 => (ky_let (sk_wr q3 a 0 (some a1)) (fun q5 => (x6_init_L14 N a (fun q7 x8 => (some (q7, 0))) N q5 0))))))) else none)
set_option maxRecDepth 20000 in
set_option maxHeartbeats 4000000 in
theorem k_X6_init {G : ky_GW} {d : Nat} {h : ky_HP} {Q : ky_RS → ky_HP → Prop} {s s9 : sk_S} {r9 : Int32} {a : Nat} (N : Nat) (hG : ky_OK G)   (hm : sk_hp G s h)  (e : x6_init N  s a = some (s9, r9)) (hr : ∀ h1, sk_hp G s9 h1 → sk_fr (some a) s h s9 h1 → Q (.inl none) h1) : ky_Call G (d + 1) M_X6_init [.ref a] h Q := by
  refine ky_ofV (by decide +kernel) rfl ok_X6_init (Nat.le_of_ble_eq_true rfl) ?_
  have fr : sk_fr (some a) s h s h := sk_fr.rf
  unfold x6_init at e
  refine (?_ : ky_V _ _ _ 0 [(0, .ref a)] [] _ _)
  obtain ⟨z0, e⟩ := ky_chkE e
  refine v_aload_n (i := 0) (j := 0) rfl rfl (?_ : ky_V _ _ _ 1 _ _ _ _)
  refine v_objInit (by rw [show M_X6_init.1.cls = "WaistSand$Rules" from rfl]; exact ky_t1 (i := 173) rfl rfl) (ky_t1 (i := 36) rfl rfl) (ky_t1 (i := 37) rfl rfl) (i := 1) rfl (Nat.le_of_ble_eq_true rfl) (?_ : ky_V _ _ _ 4 _ _ _ _)
  refine v_aload_n (i := 2) (j := 0) rfl rfl (?_ : ky_V _ _ _ 5 _ _ _ _)
  refine v_bipush (v := 28) (i := 3) rfl (by decide) (?_ : ky_V _ _ _ 7 _ _ _ _)
  refine v_newi (N := 28) (ky_t1 (i := 87) rfl rfl) (i := 4) rfl (by decide) rfl (by decide) ?_
  refine sk_snw hm fr 21 28 rfl (fun a1 h2 ea1 hmh2 frh2 => ?_)
  replace e := ky_letE ea1 e
  obtain ⟨q3, eq3⟩ : ∃ z, z = (sk_nw s 21 28 28) := ⟨_, rfl⟩
  rw [← eq3] at hmh2 frh2
  replace e := ky_letE eq3 e
  refine (?_ : ky_V _ _ _ 9 _ (.ref a1 :: _) _ _)
  refine pf_X6_11 rfl rfl (i := 5) rfl (oc_X6 hmh2 (frh2.K (k := 5) z0)) (Nat.le_of_ble_eq_true rfl) rfl rfl ?_
  refine sk_str (kd := 5) (n := 0) hmh2 frh2 (frh2.K (k := 5) z0) 0 (some a1) (Or.inr rfl) (fun h4 hmh4 frh4 => ?_)
  obtain ⟨q5, eq5⟩ : ∃ z, z = (sk_wr q3 a 0 (some a1)) := ⟨_, rfl⟩
  rw [← eq5] at hmh4 frh4
  replace e := ky_letE eq5 e
  refine (?_ : ky_V _ _ _ 12 _ _ _ _)
  refine v_iconst (v := 0) (i := 6) rfl (by decide) (?_ : ky_V _ _ _ 13 _ _ _ _)
  refine v_istore_n (L' := [(0, .ref a), (1, .int 0)]) [1, 0] (i := 7) rfl (Nat.le_of_ble_eq_true rfl) rfl (?_ : ky_V _ _ _ 14 _ _ _ _)
  refine lv_X6_init_14 N hG a z0 hm _ hr (fun h6 q7 x8 hmh6 frh6 e => ?_) N h4 q5 0 hmh4 frh4 e
  refine v_vret (i := 22) rfl rfl ?_
  obtain ⟨rfl, rfl⟩ := ky_leaf e
  exact hr _ hmh6 frh6

def x6_takes (N : Nat)  (s : sk_S) (a : Nat) (p1 : Int32) : Option (sk_S × Int32) := (if lay_X6 (sk_K s) (sk_r s) a = true then (if ky_inB ((4 * p1) + 3) 28 = true then (some (s, (sk_c s (a + 1) (Int32.toNatClampNeg ((4 * p1) + 3))))) else none) else none)
set_option maxRecDepth 20000 in
set_option maxHeartbeats 4000000 in
theorem k_X6_takes {G : ky_GW} {d : Nat} {h : ky_HP} {Q : ky_RS → ky_HP → Prop} {s s9 : sk_S} {r9 : Int32} {a : Nat} {p1 : Int32} (N : Nat) (hG : ky_OK G)   (hm : sk_hp G s h)  (e : x6_takes N  s a p1 = some (s9, r9)) (hr : ∀ h1, sk_hp G s9 h1 → sk_fr none s h s9 h1 → Q (.inl (some (.int r9))) h1) : ky_Call G d M_X6_takes [.ref a, .int p1] h Q := by
  refine ky_ofV (by decide +kernel) rfl ok_X6_takes (Nat.le_of_ble_eq_true rfl) ?_
  have fr : sk_fr none s h s h := sk_fr.rf
  unfold x6_takes at e
  refine (?_ : ky_V _ _ _ 0 [(0, .ref a), (1, .int p1)] [] _ _)
  obtain ⟨za, e⟩ := ky_chkE e
  refine v_aload_n (i := 0) (j := 0) rfl rfl (?_ : ky_V _ _ _ 1 _ _ _ _)
  refine gf_X6_11 rfl (i := 1) rfl (oc_X6 hm (ly_X6_c za)) (sk_rf (ly_X6_r0 za)) (?_ : ky_V _ _ _ 4 _ (.ref (a + 1) :: _) _ _)
  refine v_iconst (v := 4) (i := 2) rfl (by decide) (?_ : ky_V _ _ _ 5 _ _ _ _)
  refine v_iload_n (i := 3) (j := 1) rfl rfl (?_ : ky_V _ _ _ 6 _ _ _ _)
  refine v_imul (i := 4) rfl (?_ : ky_V _ _ _ 7 _ _ _ _)
  refine v_iconst (v := 3) (i := 5) rfl (by decide) (?_ : ky_V _ _ _ 8 _ _ _ _)
  refine v_iadd (i := 6) rfl (?_ : ky_V _ _ _ 9 _ _ _ _)
  obtain ⟨z1, e⟩ := ky_chkE e
  refine v_iald (i := 7) rfl (oa_21 hm (ly_X6_k0 za)) (ky_inb z1) (?_ : ky_V _ _ _ 10 _ (.int (sk_c s (a + 1) (Int32.toNatClampNeg ((4 * p1) + 3))) :: _) _ _)
  refine v_iret (v := (sk_c s (a + 1) (Int32.toNatClampNeg ((4 * p1) + 3)))) (ty := .int) (i := 8) rfl rfl rfl ?_
  obtain ⟨rfl, rfl⟩ := ky_leaf e
  exact hr _ hm fr

def x6_become (N : Nat)  (s : sk_S) (a : Nat) (a1_ : Nat) : Option (sk_S × Int32) := (if lay_X6 (sk_K s) (sk_r s) a = true then (if lay_X6 (sk_K s) (sk_r s) a1_ = true then (ky_let (sk_wf s (a + 1) (va_cpy (sk_c s (a1_ + 1)) (sk_c s (a + 1)) 0 0 28)) (fun q2 => (ky_om (sk_r q2 a1_ 1) (ky_let (sk_wr q2 a 1 none) (fun q6 => (some (q6, 0)))) (fun l4 => (ky_let (sk_wr q2 a 1 (some l4)) (fun q8 => (some (q8, 0)))))))) else none) else none)
set_option maxRecDepth 20000 in
set_option maxHeartbeats 4000000 in
theorem k_X6_become {G : ky_GW} {d : Nat} {h : ky_HP} {Q : ky_RS → ky_HP → Prop} {s s9 : sk_S} {r9 : Int32} {a : Nat} {a1_ : Nat} (N : Nat) (hG : ky_OK G)   (hm : sk_hp G s h)  (e : x6_become N  s a a1_ = some (s9, r9)) (hr : ∀ h1, sk_hp G s9 h1 → sk_fr none s h s9 h1 → Q (.inl none) h1) : ky_Call G (d + 1) M_X6_become [.ref a, .ref a1_] h Q := by
  refine ky_ofV (by decide +kernel) rfl ok_X6_become (Nat.le_of_ble_eq_true rfl) ?_
  have fr : sk_fr none s h s h := sk_fr.rf
  unfold x6_become at e
  refine (?_ : ky_V _ _ _ 0 [(0, .ref a), (1, .ref a1_)] [] _ _)
  obtain ⟨za, e⟩ := ky_chkE e
  obtain ⟨za1_, e⟩ := ky_chkE e
  refine v_aload_n (i := 0) (j := 1) rfl rfl (?_ : ky_V _ _ _ 1 _ _ _ _)
  refine gf_X6_11 rfl (i := 1) rfl (oc_X6 hm (ly_X6_c za1_)) (sk_rf (ly_X6_r0 za1_)) (?_ : ky_V _ _ _ 4 _ (.ref (a1_ + 1) :: _) _ _)
  refine v_iconst (v := 0) (i := 2) rfl (by decide) (?_ : ky_V _ _ _ 5 _ _ _ _)
  refine v_aload_n (i := 3) (j := 0) rfl rfl (?_ : ky_V _ _ _ 6 _ _ _ _)
  refine gf_X6_11 rfl (i := 4) rfl (oc_X6 hm (ly_X6_c za)) (sk_rf (ly_X6_r0 za)) (?_ : ky_V _ _ _ 9 _ (.ref (a + 1) :: _) _ _)
  refine v_iconst (v := 0) (i := 5) rfl (by decide) (?_ : ky_V _ _ _ 10 _ _ _ _)
  refine v_aload_n (i := 6) (j := 0) rfl rfl (?_ : ky_V _ _ _ 11 _ _ _ _)
  refine gf_X6_11 rfl (i := 7) rfl (oc_X6 hm (ly_X6_c za)) (sk_rf (ly_X6_r0 za)) (?_ : ky_V _ _ _ 14 _ (.ref (a + 1) :: _) _ _)
  refine v_alen (v := 28) 1 (by decide) (i := 8) rfl (oa_21 hm (ly_X6_k0 za)) rfl (?_ : ky_V _ _ _ 15 _ _ _ _)
  refine v_copyi (sp := 0) (dp := 0) (n := 28) (by rw [show M_X6_become.1.cls = "WaistSand$Rules" from rfl]; exact ky_t3 (i := 131) rfl rfl) (ky_t3 (i := 133) rfl rfl) (ky_t3 (i := 132) rfl rfl) (ky_t1 (i := 22) rfl rfl) (i := 9) rfl (oa_21 hm (ly_X6_k0 za1_)) (oa_21 hm (ly_X6_k0 za)) (by decide) (by decide) (by decide) (by decide) (by decide) (Nat.le_of_ble_eq_true rfl) ?_
  refine sk_stf (kd := 20) hm fr (ly_X6_k0 za) (va_cpy (sk_c s (a1_ + 1)) (sk_c s (a + 1)) 0 0 28) (fun h1 hmh1 frh1 => ?_)
  obtain ⟨q2, eq2⟩ : ∃ z, z = (sk_wf s (a + 1) (va_cpy (sk_c s (a1_ + 1)) (sk_c s (a + 1)) 0 0 28)) := ⟨_, rfl⟩
  rw [← eq2] at hmh1 frh1
  replace e := ky_letE eq2 e
  refine (?_ : ky_V _ _ _ 18 _ _ _ _)
  refine v_aload_n (i := 10) (j := 0) rfl rfl (?_ : ky_V _ _ _ 19 _ _ _ _)
  refine v_aload_n (i := 11) (j := 1) rfl rfl (?_ : ky_V _ _ _ 20 _ _ _ _)
  rcases y3 : (sk_r q2 a1_ 1) with _ | l4
  · replace e := ky_omN y3 e
    refine gf_X6_21 rfl (i := 12) rfl (oc_X6 hmh1 (ly_X6_c (lt_X6 frh1 za1_))) (sk_rn y3) (?_ : ky_V _ _ _ 23 _ _ _ _)
    refine pf_X6_21 rfl (i := 13) rfl (oc_X6 hmh1 (ly_X6_c (lt_X6 frh1 za))) (Nat.le_of_ble_eq_true rfl) rfl rfl ?_
    refine sk_str (kd := 5) (n := 0) hmh1 frh1 (ly_X6_c (lt_X6 frh1 za)) 1 none (Or.inl rfl) (fun h5 hmh5 frh5 => ?_)
    obtain ⟨q6, eq6⟩ : ∃ z, z = (sk_wr q2 a 1 none) := ⟨_, rfl⟩
    rw [← eq6] at hmh5 frh5
    replace e := ky_letE eq6 e
    refine (?_ : ky_V _ _ _ 26 _ _ _ _)
    refine v_vret (i := 14) rfl rfl ?_
    obtain ⟨rfl, rfl⟩ := ky_leaf e
    exact hr _ hmh5 frh5
  · replace e := ky_omS y3 e
    refine gf_X6_21 rfl (i := 12) rfl (oc_X6 hmh1 (ly_X6_c (lt_X6 frh1 za1_))) (sk_rf y3) (?_ : ky_V _ _ _ 23 _ _ _ _)
    refine pf_X6_21 rfl (i := 13) rfl (oc_X6 hmh1 (ly_X6_c (lt_X6 frh1 za))) (Nat.le_of_ble_eq_true rfl) rfl rfl ?_
    refine sk_str (kd := 5) (n := 0) hmh1 frh1 (ly_X6_c (lt_X6 frh1 za)) 1 (some l4) (Or.inl rfl) (fun h7 hmh7 frh7 => ?_)
    obtain ⟨q8, eq8⟩ : ∃ z, z = (sk_wr q2 a 1 (some l4)) := ⟨_, rfl⟩
    rw [← eq8] at hmh7 frh7
    replace e := ky_letE eq8 e
    refine (?_ : ky_V _ _ _ 26 _ _ _ _)
    refine v_vret (i := 14) rfl rfl ?_
    obtain ⟨rfl, rfl⟩ := ky_leaf e
    exact hr _ hmh7 frh7

def x6_tell (N : Nat)  (s : sk_S) (a : Nat) (a1_ : Nat) (p2 : Int32) : Option (sk_S × Int32) := (if lay_X6 (sk_K s) (sk_r s) a = true then (if (sk_K s a1_).1 = 21 then (if ky_inB p2 (sk_K s a1_).2 = true then (if ¬ (p2 + 1) < 0 then (if ¬ (4 * (sk_c s a1_ (Int32.toNatClampNeg p2))) < 0 then (if (Int32.toNatClampNeg (p2 + 1)) + 4 ≤ (sk_K s a1_).2 then (if (Int32.toNatClampNeg (4 * (sk_c s a1_ (Int32.toNatClampNeg p2)))) + 4 ≤ 28 then (ky_let (sk_wf s (a + 1) (va_cpy (sk_c s a1_) (sk_c s (a + 1)) (Int32.toNatClampNeg (p2 + 1)) (Int32.toNatClampNeg (4 * (sk_c s a1_ (Int32.toNatClampNeg p2)))) 4)) (fun q7 => (some (q7, 0)))) else none) else none) else none) else none) else none) else none) else none)
set_option maxRecDepth 20000 in
set_option maxHeartbeats 4000000 in
theorem k_X6_tell {G : ky_GW} {d : Nat} {h : ky_HP} {Q : ky_RS → ky_HP → Prop} {s s9 : sk_S} {r9 : Int32} {a : Nat} {a1_ : Nat} {p2 : Int32} (N : Nat) (hG : ky_OK G)   (hm : sk_hp G s h)  (e : x6_tell N  s a a1_ p2 = some (s9, r9)) (hr : ∀ h1, sk_hp G s9 h1 → sk_fr none s h s9 h1 → Q (.inl none) h1) : ky_Call G (d + 1) M_X6_tell [.ref a, .ref a1_, .int p2] h Q := by
  refine ky_ofV (by decide +kernel) rfl ok_X6_tell (Nat.le_of_ble_eq_true rfl) ?_
  have fr : sk_fr none s h s h := sk_fr.rf
  unfold x6_tell at e
  refine (?_ : ky_V _ _ _ 0 [(0, .ref a), (1, .ref a1_), (2, .int p2)] [] _ _)
  obtain ⟨za, e⟩ := ky_chkE e
  obtain ⟨za1_, e⟩ := ky_chkE e
  refine v_aload_n (i := 0) (j := 1) rfl rfl (?_ : ky_V _ _ _ 1 _ _ _ _)
  refine v_iload_n (i := 1) (j := 2) rfl rfl (?_ : ky_V _ _ _ 2 _ _ _ _)
  refine v_iconst (v := 1) (i := 2) rfl (by decide) (?_ : ky_V _ _ _ 3 _ _ _ _)
  refine v_iadd (i := 3) rfl (?_ : ky_V _ _ _ 4 _ _ _ _)
  refine v_aload_n (i := 4) (j := 0) rfl rfl (?_ : ky_V _ _ _ 5 _ _ _ _)
  refine gf_X6_11 rfl (i := 5) rfl (oc_X6 hm (ly_X6_c za)) (sk_rf (ly_X6_r0 za)) (?_ : ky_V _ _ _ 8 _ (.ref (a + 1) :: _) _ _)
  refine v_iconst (v := 4) (i := 6) rfl (by decide) (?_ : ky_V _ _ _ 9 _ _ _ _)
  refine v_aload_n (i := 7) (j := 1) rfl rfl (?_ : ky_V _ _ _ 10 _ _ _ _)
  refine v_iload_n (i := 8) (j := 2) rfl rfl (?_ : ky_V _ _ _ 11 _ _ _ _)
  obtain ⟨z1, e⟩ := ky_chkE e
  refine v_iald (i := 9) rfl (ox_21 hm za1_) (ky_inb z1) (?_ : ky_V _ _ _ 12 _ (.int (sk_c s a1_ (Int32.toNatClampNeg p2)) :: _) _ _)
  refine v_imul (i := 10) rfl (?_ : ky_V _ _ _ 13 _ _ _ _)
  refine v_iconst (v := 4) (i := 11) rfl (by decide) (?_ : ky_V _ _ _ 14 _ _ _ _)
  obtain ⟨z2, e⟩ := ky_chkE e
  obtain ⟨z3, e⟩ := ky_chkE e
  obtain ⟨z4, e⟩ := ky_chkE e
  obtain ⟨z5, e⟩ := ky_chkE e
  refine v_copyi (sp := (p2 + 1)) (dp := (4 * (sk_c s a1_ (Int32.toNatClampNeg p2)))) (n := 4) (by rw [show M_X6_tell.1.cls = "WaistSand$Rules" from rfl]; exact ky_t3 (i := 131) rfl rfl) (ky_t3 (i := 133) rfl rfl) (ky_t3 (i := 132) rfl rfl) (ky_t1 (i := 22) rfl rfl) (i := 12) rfl (ox_21 hm za1_) (oa_21 hm (ly_X6_k0 za)) z2 z3 (by decide) z4 z5 (Nat.le_of_ble_eq_true rfl) ?_
  refine sk_stf (kd := 20) hm fr (ly_X6_k0 za) (va_cpy (sk_c s a1_) (sk_c s (a + 1)) (Int32.toNatClampNeg (p2 + 1)) (Int32.toNatClampNeg (4 * (sk_c s a1_ (Int32.toNatClampNeg p2)))) 4) (fun h6 hmh6 frh6 => ?_)
  obtain ⟨q7, eq7⟩ : ∃ z, z = (sk_wf s (a + 1) (va_cpy (sk_c s a1_) (sk_c s (a + 1)) (Int32.toNatClampNeg (p2 + 1)) (Int32.toNatClampNeg (4 * (sk_c s a1_ (Int32.toNatClampNeg p2)))) 4)) := ⟨_, rfl⟩
  rw [← eq7] at hmh6 frh6
  replace e := ky_letE eq7 e
  refine (?_ : ky_V _ _ _ 17 _ _ _ _)
  refine v_vret (i := 13) rfl rfl ?_
  obtain ⟨rfl, rfl⟩ := ky_leaf e
  exact hr _ hmh6 frh6

def x6_number (N : Nat)  (s : sk_S) (a : Nat) (p1 : Int32) (p2 : Int32) : Option (sk_S × Int32) := (if lay_X6 (sk_K s) (sk_r s) a = true then (if ky_inB ((4 * p1) + p2) 28 = true then (some (s, (sk_c s (a + 1) (Int32.toNatClampNeg ((4 * p1) + p2))))) else none) else none)
set_option maxRecDepth 20000 in
set_option maxHeartbeats 4000000 in
theorem k_X6_number {G : ky_GW} {d : Nat} {h : ky_HP} {Q : ky_RS → ky_HP → Prop} {s s9 : sk_S} {r9 : Int32} {a : Nat} {p1 : Int32} {p2 : Int32} (N : Nat) (hG : ky_OK G)   (hm : sk_hp G s h)  (e : x6_number N  s a p1 p2 = some (s9, r9)) (hr : ∀ h1, sk_hp G s9 h1 → sk_fr none s h s9 h1 → Q (.inl (some (.int r9))) h1) : ky_Call G d M_X6_number [.ref a, .int p1, .int p2] h Q := by
  refine ky_ofV (by decide +kernel) rfl ok_X6_number (Nat.le_of_ble_eq_true rfl) ?_
  have fr : sk_fr none s h s h := sk_fr.rf
  unfold x6_number at e
  refine (?_ : ky_V _ _ _ 0 [(0, .ref a), (1, .int p1), (2, .int p2)] [] _ _)
  obtain ⟨za, e⟩ := ky_chkE e
  refine v_aload_n (i := 0) (j := 0) rfl rfl (?_ : ky_V _ _ _ 1 _ _ _ _)
  refine gf_X6_11 rfl (i := 1) rfl (oc_X6 hm (ly_X6_c za)) (sk_rf (ly_X6_r0 za)) (?_ : ky_V _ _ _ 4 _ (.ref (a + 1) :: _) _ _)
  refine v_iconst (v := 4) (i := 2) rfl (by decide) (?_ : ky_V _ _ _ 5 _ _ _ _)
  refine v_iload_n (i := 3) (j := 1) rfl rfl (?_ : ky_V _ _ _ 6 _ _ _ _)
  refine v_imul (i := 4) rfl (?_ : ky_V _ _ _ 7 _ _ _ _)
  refine v_iload_n (i := 5) (j := 2) rfl rfl (?_ : ky_V _ _ _ 8 _ _ _ _)
  refine v_iadd (i := 6) rfl (?_ : ky_V _ _ _ 9 _ _ _ _)
  obtain ⟨z1, e⟩ := ky_chkE e
  refine v_iald (i := 7) rfl (oa_21 hm (ly_X6_k0 za)) (ky_inb z1) (?_ : ky_V _ _ _ 10 _ (.int (sk_c s (a + 1) (Int32.toNatClampNeg ((4 * p1) + p2))) :: _) _ _)
  refine v_iret (v := (sk_c s (a + 1) (Int32.toNatClampNeg ((4 * p1) + p2)))) (ty := .int) (i := 8) rfl rfl rfl ?_
  obtain ⟨rfl, rfl⟩ := ky_leaf e
  exact hr _ hm fr

def x8_init (N : Nat)  (s : sk_S) (a : Nat) : Option (sk_S × Int32) := (if sk_K s a = (8, 0) then (ky_let (sk_n s) (fun a1 => (ky_let (sk_nw s 21 64 64) (fun q3 => (ky_let (sk_wr q3 a 0 (some a1)) (fun q5 => (ky_let (sk_n q5) (fun a6 => (ky_let (sk_nw q5 21 6 6) (fun q8 => (ky_let (sk_wr q8 a 1 (some a6)) (fun q10 => (ky_let (sk_n q10) (fun a11 => (ky_let (sk_nw q10 21 6 6) (fun q13 => (ky_let (sk_wr q13 a 2 (some a11)) (fun q15 => (ky_let (sk_wc q15 a 5 27) (fun q17 => (ky_om (sk_r q17 a 0) none (fun l18 => ((j7_fill_53178 N q17 l18 5).bind (fun zz => (fun q21 x22 => (some (q21, 0))) zz.1 zz.2)))))))))))))))))))))))) else none)
set_option maxRecDepth 20000 in
set_option maxHeartbeats 4000000 in
theorem k_X8_init {G : ky_GW} {d : Nat} {h : ky_HP} {Q : ky_RS → ky_HP → Prop} {s s9 : sk_S} {r9 : Int32} {a : Nat} (N : Nat) (hG : ky_OK G)   (hm : sk_hp G s h)  (e : x8_init N  s a = some (s9, r9)) (hr : ∀ h1, sk_hp G s9 h1 → sk_fr (some a) s h s9 h1 → Q (.inl none) h1) : ky_Call G (d + 1) M_X8_init [.ref a] h Q := by
  refine ky_ofV (by decide +kernel) rfl ok_X8_init (Nat.le_of_ble_eq_true rfl) ?_
  have fr : sk_fr (some a) s h s h := sk_fr.rf
  unfold x8_init at e
  refine (?_ : ky_V _ _ _ 0 [(0, .ref a)] [] _ _)
  obtain ⟨z0, e⟩ := ky_chkE e
  refine v_aload_n (i := 0) (j := 0) rfl rfl (?_ : ky_V _ _ _ 1 _ _ _ _)
  refine v_objInit (by rw [show M_X8_init.1.cls = "WaistSand$Shore" from rfl]; exact ky_t1 (i := 188) rfl rfl) (ky_t1 (i := 36) rfl rfl) (ky_t1 (i := 37) rfl rfl) (i := 1) rfl (Nat.le_of_ble_eq_true rfl) (?_ : ky_V _ _ _ 4 _ _ _ _)
  refine v_aload_n (i := 2) (j := 0) rfl rfl (?_ : ky_V _ _ _ 5 _ _ _ _)
  refine v_bipush (v := 64) (i := 3) rfl (by decide) (?_ : ky_V _ _ _ 7 _ _ _ _)
  refine v_newi (N := 64) (ky_t1 (i := 87) rfl rfl) (i := 4) rfl (by decide) rfl (by decide) ?_
  refine sk_snw hm fr 21 64 rfl (fun a1 h2 ea1 hmh2 frh2 => ?_)
  replace e := ky_letE ea1 e
  obtain ⟨q3, eq3⟩ : ∃ z, z = (sk_nw s 21 64 64) := ⟨_, rfl⟩
  rw [← eq3] at hmh2 frh2
  replace e := ky_letE eq3 e
  refine (?_ : ky_V _ _ _ 9 _ (.ref a1 :: _) _ _)
  refine pf_X8_9 rfl rfl (i := 5) rfl (oc_X8 hmh2 (frh2.K (k := 7) z0)) (Nat.le_of_ble_eq_true rfl) rfl rfl ?_
  refine sk_str (kd := 7) (n := 0) hmh2 frh2 (frh2.K (k := 7) z0) 0 (some a1) (Or.inr rfl) (fun h4 hmh4 frh4 => ?_)
  obtain ⟨q5, eq5⟩ : ∃ z, z = (sk_wr q3 a 0 (some a1)) := ⟨_, rfl⟩
  rw [← eq5] at hmh4 frh4
  replace e := ky_letE eq5 e
  refine (?_ : ky_V _ _ _ 12 _ _ _ _)
  refine v_aload_n (i := 6) (j := 0) rfl rfl (?_ : ky_V _ _ _ 13 _ _ _ _)
  refine v_bipush (v := 6) (i := 7) rfl (by decide) (?_ : ky_V _ _ _ 15 _ _ _ _)
  refine v_newi (N := 6) (ky_t1 (i := 87) rfl rfl) (i := 8) rfl (by decide) rfl (by decide) ?_
  refine sk_snw hmh4 frh4 21 6 rfl (fun a6 h7 ea6 hmh7 frh7 => ?_)
  replace e := ky_letE ea6 e
  obtain ⟨q8, eq8⟩ : ∃ z, z = (sk_nw q5 21 6 6) := ⟨_, rfl⟩
  rw [← eq8] at hmh7 frh7
  replace e := ky_letE eq8 e
  refine (?_ : ky_V _ _ _ 17 _ (.ref a6 :: _) _ _)
  refine pf_X8_15 rfl rfl (i := 9) rfl (oc_X8 hmh7 (frh7.K (k := 7) z0)) (Nat.le_of_ble_eq_true rfl) rfl rfl ?_
  refine sk_str (kd := 7) (n := 0) hmh7 frh7 (frh7.K (k := 7) z0) 1 (some a6) (Or.inr rfl) (fun h9 hmh9 frh9 => ?_)
  obtain ⟨q10, eq10⟩ : ∃ z, z = (sk_wr q8 a 1 (some a6)) := ⟨_, rfl⟩
  rw [← eq10] at hmh9 frh9
  replace e := ky_letE eq10 e
  refine (?_ : ky_V _ _ _ 20 _ _ _ _)
  refine v_aload_n (i := 10) (j := 0) rfl rfl (?_ : ky_V _ _ _ 21 _ _ _ _)
  refine v_bipush (v := 6) (i := 11) rfl (by decide) (?_ : ky_V _ _ _ 23 _ _ _ _)
  refine v_newi (N := 6) (ky_t1 (i := 87) rfl rfl) (i := 12) rfl (by decide) rfl (by decide) ?_
  refine sk_snw hmh9 frh9 21 6 rfl (fun a11 h12 ea11 hmh12 frh12 => ?_)
  replace e := ky_letE ea11 e
  obtain ⟨q13, eq13⟩ : ∃ z, z = (sk_nw q10 21 6 6) := ⟨_, rfl⟩
  rw [← eq13] at hmh12 frh12
  replace e := ky_letE eq13 e
  refine (?_ : ky_V _ _ _ 25 _ (.ref a11 :: _) _ _)
  refine pf_X8_18 rfl rfl (i := 13) rfl (oc_X8 hmh12 (frh12.K (k := 7) z0)) (Nat.le_of_ble_eq_true rfl) rfl rfl ?_
  refine sk_str (kd := 7) (n := 0) hmh12 frh12 (frh12.K (k := 7) z0) 2 (some a11) (Or.inr rfl) (fun h14 hmh14 frh14 => ?_)
  obtain ⟨q15, eq15⟩ : ∃ z, z = (sk_wr q13 a 2 (some a11)) := ⟨_, rfl⟩
  rw [← eq15] at hmh14 frh14
  replace e := ky_letE eq15 e
  refine (?_ : ky_V _ _ _ 28 _ _ _ _)
  refine v_aload_n (i := 14) (j := 0) rfl rfl (?_ : ky_V _ _ _ 29 _ _ _ _)
  refine v_bipush (v := 27) (i := 15) rfl (by decide) (?_ : ky_V _ _ _ 31 _ _ _ _)
  refine pf_X8_21 rfl (i := 16) rfl (oc_X8 hmh14 (frh14.K (k := 7) z0)) (Nat.le_of_ble_eq_true rfl) rfl rfl ?_
  refine sk_stc (kd := 7) (n := 0) hmh14 frh14 (frh14.K (k := 7) z0) 5 27 (fun h16 hmh16 frh16 => ?_)
  obtain ⟨q17, eq17⟩ : ∃ z, z = (sk_wc q15 a 5 27) := ⟨_, rfl⟩
  rw [← eq17] at hmh16 frh16
  replace e := ky_letE eq17 e
  refine (?_ : ky_V _ _ _ 34 _ _ _ _)
  refine v_aload_n (i := 17) (j := 0) rfl rfl (?_ : ky_V _ _ _ 35 _ _ _ _)
  obtain ⟨l18, y19, e⟩ := ky_omE e
  refine gf_X8_9 rfl (i := 18) rfl (oc_X8 hmh16 (frh16.K (k := 7) z0)) (sk_rf y19) (?_ : ky_V _ _ _ 38 _ _ _ _)
  refine v_iconst (v := 5) (i := 19) rfl (by decide) (?_ : ky_V _ _ _ 39 _ _ _ _)
  obtain ⟨⟨q21, x22⟩, g23, e⟩ := Option.bind_eq_some_iff.mp e
  refine cl_X8_25 (As := [.ref l18, .int 5]) rfl (i := 20) rfl rfl rfl (Nat.le_of_ble_eq_true rfl) (k_J7_fill_53178 N hG hmh16 g23 (fun h20 hmh20 frh20 => ⟨_, rfl, (?_ : ky_V _ _ _ 42 _ [] _ _)⟩))
  have frh20 := frh16.tr frh20
  refine v_vret (i := 21) rfl rfl ?_
  obtain ⟨rfl, rfl⟩ := ky_leaf e
  exact hr _ hmh20 frh20

def x8_laden_L4 (N : Nat)  (a : Nat) (k : sk_S → Int32 → Int32 → Int32 → Option (sk_S × Int32)) : Nat → sk_S → Int32 → Int32 → Int32 → Option (sk_S × Int32)
  | 0, _, _, _, _ => none
  | n + 1, c, p1, p2, p3 => (if (sk_c c a 6) ≤ p3 then (k c p1 p2 p3) else (if ky_inB p3 6 = true then (if (sk_c c (a + 3) (Int32.toNatClampNeg p3)) = p1 then (ky_let (p2 + (sk_c c (a + 2) (Int32.toNatClampNeg p3))) (fun x5 => (ky_let (p3 + 1) (fun x6 => (x8_laden_L4 N a k n c p1 x5 x6))))) else (ky_let (p3 + 1) (fun x4 => (x8_laden_L4 N a k n c p1 p2 x4)))) else none))
set_option maxRecDepth 20000 in
set_option maxHeartbeats 4000000 in
theorem lv_X8_laden_4 {G : ky_GW} {d : Nat} {s s9 : sk_S} {h0 : ky_HP} {Q : ky_RS → ky_HP → Prop} {r9 : Int32} (N : Nat) (hG : ky_OK G)  (a : Nat)   (za : lay_X8 (sk_K s) (sk_r s) a = true) (hm : sk_hp G s h0) (k : sk_S → Int32 → Int32 → Int32 → Option (sk_S × Int32)) (hr : ∀ h1, sk_hp G s9 h1 → sk_fr none s h0 s9 h1 → Q (.inl (some (.int r9))) h1)
    (hk : ∀ (h : ky_HP) (c : sk_S) (p1 : Int32) (p2 : Int32) (p3 : Int32), sk_hp G c h → sk_fr none s h0 c h → k c p1 p2 p3 = some (s9, r9) → ky_V G d M_X8_laden 37 [(0, .ref a), (1, .int p1), (2, .int p2), (3, .int p3)] [] h Q) :
    ∀ (n : Nat) (h : ky_HP) (c : sk_S) (p1 : Int32) (p2 : Int32) (p3 : Int32), sk_hp G c h → sk_fr none s h0 c h → x8_laden_L4 N a k n c p1 p2 p3 = some (s9, r9) → ky_V G d M_X8_laden 4 [(0, .ref a), (1, .int p1), (2, .int p2), (3, .int p3)] [] h Q := by
  intro n
  induction n with
  | zero => intro h c p1 p2 p3 hm1 fr e; cases e
  | succ n ih =>
    intro h c p1 p2 p3 hm1 fr e
    rw [x8_laden_L4] at e
    refine v_iload_n (i := 4) (j := 3) rfl rfl (?_ : ky_V _ _ _ 5 _ _ _ _)
    refine v_aload_n (i := 5) (j := 0) rfl rfl (?_ : ky_V _ _ _ 6 _ _ _ _)
    refine gf_X8_44 rfl (i := 6) rfl (oc_X8 hm1 (ly_X8_c (lt_X8 fr za))) rfl (?_ : ky_V _ _ _ 9 _ _ _ _)
    refine v_icmp_ge (tgt := 37) (i := 7) rfl (by decide) (fun c1 => ?_) (fun c1 => ?_)
    · replace e := ky_ifT c1 e
      exact hk h c p1 p2 p3 hm1 fr e
    · replace e := ky_ifF c1 e
      refine v_aload_n (i := 8) (j := 0) rfl rfl (?_ : ky_V _ _ _ 13 _ _ _ _)
      refine gf_X8_18 rfl (i := 9) rfl (oc_X8 hm1 (ly_X8_c (lt_X8 fr za))) (sk_rf (ly_X8_r2 (lt_X8 fr za))) (?_ : ky_V _ _ _ 16 _ (.ref (a + 3) :: _) _ _)
      refine v_iload_n (i := 10) (j := 3) rfl rfl (?_ : ky_V _ _ _ 17 _ _ _ _)
      obtain ⟨z2, e⟩ := ky_chkE e
      refine v_iald (i := 11) rfl (oa_21 hm1 (ly_X8_k2 (lt_X8 fr za))) (ky_inb z2) (?_ : ky_V _ _ _ 18 _ (.int (sk_c c (a + 3) (Int32.toNatClampNeg p3)) :: _) _ _)
      refine v_iload_n (i := 12) (j := 1) rfl rfl (?_ : ky_V _ _ _ 19 _ _ _ _)
      refine v_icmp_ne (tgt := 31) (i := 13) rfl (by decide) (fun c3 => ?_) (fun c3 => ?_)
      · replace e := ky_ifF c3 e
        obtain ⟨x4, ex4⟩ : ∃ z : Int32, z = p3 + 1 := ⟨_, rfl⟩
        replace e := ky_letE ex4 e
        refine v_iinc (v := x4) (j := 3) (L' := [(0, .ref a), (1, .int p1), (2, .int p2), (3, .int x4)]) [1, 2, 3, 0] (i := 21) rfl rfl (by rw [ex4]; rfl) (Nat.le_of_ble_eq_true rfl) rfl (?_ : ky_V _ _ _ 34 _ _ _ _)
        refine v_goto (tgt := 4) (i := 22) rfl (by decide) (?_ : ky_V _ _ _ 4 _ _ _ _)
        exact ih h c p1 p2 x4 hm1 fr e
      · replace e := ky_ifT c3 e
        refine v_iload_n (i := 14) (j := 2) rfl rfl (?_ : ky_V _ _ _ 23 _ _ _ _)
        refine v_aload_n (i := 15) (j := 0) rfl rfl (?_ : ky_V _ _ _ 24 _ _ _ _)
        refine gf_X8_15 rfl (i := 16) rfl (oc_X8 hm1 (ly_X8_c (lt_X8 fr za))) (sk_rf (ly_X8_r1 (lt_X8 fr za))) (?_ : ky_V _ _ _ 27 _ (.ref (a + 2) :: _) _ _)
        refine v_iload_n (i := 17) (j := 3) rfl rfl (?_ : ky_V _ _ _ 28 _ _ _ _)
        refine v_iald (i := 18) rfl (oa_21 hm1 (ly_X8_k1 (lt_X8 fr za))) (ky_inb z2) (?_ : ky_V _ _ _ 29 _ (.int (sk_c c (a + 2) (Int32.toNatClampNeg p3)) :: _) _ _)
        refine v_iadd (i := 19) rfl (?_ : ky_V _ _ _ 30 _ _ _ _)
        refine v_topi (fun x5 ex5 => ?_)
        replace e := ky_letE ex5 e
        refine v_istore_n (L' := [(0, .ref a), (1, .int p1), (2, .int x5), (3, .int p3)]) [1, 2, 0, 3] (i := 20) rfl (Nat.le_of_ble_eq_true rfl) rfl (?_ : ky_V _ _ _ 31 _ _ _ _)
        obtain ⟨x6, ex6⟩ : ∃ z : Int32, z = p3 + 1 := ⟨_, rfl⟩
        replace e := ky_letE ex6 e
        refine v_iinc (v := x6) (j := 3) (L' := [(0, .ref a), (1, .int p1), (2, .int x5), (3, .int x6)]) [1, 2, 3, 0] (i := 21) rfl rfl (by rw [ex6]; rfl) (Nat.le_of_ble_eq_true rfl) rfl (?_ : ky_V _ _ _ 34 _ _ _ _)
        refine v_goto (tgt := 4) (i := 22) rfl (by decide) (?_ : ky_V _ _ _ 4 _ _ _ _)
        exact ih h c p1 x5 x6 hm1 fr e

def x8_laden (N : Nat)  (s : sk_S) (a : Nat) (p1 : Int32) : Option (sk_S × Int32) := (if lay_X8 (sk_K s) (sk_r s) a = true then (x8_laden_L4 N a (fun q2 x3 x4 x5 => (some (q2, x4))) N s p1 0 0) else none)
set_option maxRecDepth 20000 in
set_option maxHeartbeats 4000000 in
theorem k_X8_laden {G : ky_GW} {d : Nat} {h : ky_HP} {Q : ky_RS → ky_HP → Prop} {s s9 : sk_S} {r9 : Int32} {a : Nat} {p1 : Int32} (N : Nat) (hG : ky_OK G)   (hm : sk_hp G s h)  (e : x8_laden N  s a p1 = some (s9, r9)) (hr : ∀ h1, sk_hp G s9 h1 → sk_fr none s h s9 h1 → Q (.inl (some (.int r9))) h1) : ky_Call G d M_X8_laden [.ref a, .int p1] h Q := by
  refine ky_ofV (by decide +kernel) rfl ok_X8_laden (Nat.le_of_ble_eq_true rfl) ?_
  have fr : sk_fr none s h s h := sk_fr.rf
  unfold x8_laden at e
  refine (?_ : ky_V _ _ _ 0 [(0, .ref a), (1, .int p1)] [] _ _)
  obtain ⟨za, e⟩ := ky_chkE e
  refine v_iconst (v := 0) (i := 0) rfl (by decide) (?_ : ky_V _ _ _ 1 _ _ _ _)
  refine v_istore_n (L' := [(0, .ref a), (1, .int p1), (2, .int 0)]) [1, 2, 0] (i := 1) rfl (Nat.le_of_ble_eq_true rfl) rfl (?_ : ky_V _ _ _ 2 _ _ _ _)
  refine v_iconst (v := 0) (i := 2) rfl (by decide) (?_ : ky_V _ _ _ 3 _ _ _ _)
  refine v_istore_n (L' := [(0, .ref a), (1, .int p1), (2, .int 0), (3, .int 0)]) [1, 2, 3, 0] (i := 3) rfl (Nat.le_of_ble_eq_true rfl) rfl (?_ : ky_V _ _ _ 4 _ _ _ _)
  refine lv_X8_laden_4 N hG a za hm _ hr (fun h1 q2 x3 x4 x5 hmh1 frh1 e => ?_) N h s p1 0 0 hm fr e
  refine v_iload_n (i := 23) (j := 2) rfl rfl (?_ : ky_V _ _ _ 38 _ _ _ _)
  refine v_iret (v := x4) (ty := .int) (i := 24) rfl rfl rfl ?_
  obtain ⟨rfl, rfl⟩ := ky_leaf e
  exact hr _ hmh1 frh1

def x8_ropeCells (N : Nat)  (s : sk_S) (a : Nat) : Option (sk_S × Int64) := (if lay_X8 (sk_K s) (sk_r s) a = true then (ky_let (sh_beside (1 <<< (Int32.toInt64 (sk_c s a 5) &&& 63))) (fun x1 => (some (s, ((x1 ||| (sh_beside x1)) &&& ((1 <<< (Int32.toInt64 (sk_c s a 5) &&& 63)) ^^^ (-1))))))) else none)
set_option maxRecDepth 20000 in
set_option maxHeartbeats 4000000 in
theorem k_X8_ropeCells {G : ky_GW} {d : Nat} {h : ky_HP} {Q : ky_RS → ky_HP → Prop} {s s9 : sk_S} {r9 : Int64} {a : Nat} (N : Nat) (hG : ky_OK G)   (hm : sk_hp G s h)  (e : x8_ropeCells N  s a = some (s9, r9)) (hr : ∀ h1, sk_hp G s9 h1 → sk_fr none s h s9 h1 → Q (.inl (some (.long r9))) h1) : ky_Call G (d + 1) M_X8_ropeCells [.ref a] h Q := by
  refine ky_ofV (by decide +kernel) rfl ok_X8_ropeCells (Nat.le_of_ble_eq_true rfl) ?_
  have fr : sk_fr none s h s h := sk_fr.rf
  unfold x8_ropeCells at e
  refine (?_ : ky_V _ _ _ 0 [(0, .ref a)] [] _ _)
  obtain ⟨za, e⟩ := ky_chkE e
  refine v_lconst (v := 1) (i := 0) rfl (by decide) (?_ : ky_V _ _ _ 1 _ _ _ _)
  refine v_aload_n (i := 1) (j := 0) rfl rfl (?_ : ky_V _ _ _ 2 _ _ _ _)
  refine gf_X8_21 rfl (i := 2) rfl (oc_X8 hm (ly_X8_c za)) rfl (?_ : ky_V _ _ _ 5 _ _ _ _)
  refine v_lshl (i := 3) rfl rfl (?_ : ky_V _ _ _ 6 _ _ _ _)
  refine cl_X8_68 (As := [.long ((1 <<< (Int32.toInt64 (sk_c s a 5) &&& 63)))]) rfl (i := 4) rfl rfl rfl (Nat.le_of_ble_eq_true rfl) (k_X8_beside (1 <<< (Int32.toInt64 (sk_c s a 5) &&& 63)) ⟨_, rfl, (?_ : ky_V _ _ _ 9 _ [.long ((sh_beside (1 <<< (Int32.toInt64 (sk_c s a 5) &&& 63))))] _ _)⟩)
  refine v_topl (fun x1 ex1 => ?_)
  replace e := ky_letE ex1 e
  refine v_lstore_n (L' := [(0, .ref a), (1, .long x1)]) [1, 0] (i := 5) rfl (Nat.le_of_ble_eq_true rfl) rfl (?_ : ky_V _ _ _ 10 _ _ _ _)
  refine v_lload_n (i := 6) (j := 1) rfl rfl (?_ : ky_V _ _ _ 11 _ _ _ _)
  refine v_lload_n (i := 7) (j := 1) rfl rfl (?_ : ky_V _ _ _ 12 _ _ _ _)
  refine cl_X8_68 (As := [.long x1]) rfl (i := 8) rfl rfl rfl (Nat.le_of_ble_eq_true rfl) (k_X8_beside x1 ⟨_, rfl, (?_ : ky_V _ _ _ 15 _ [.long ((sh_beside x1)), .long x1] _ _)⟩)
  refine v_lor (i := 9) rfl (?_ : ky_V _ _ _ 16 _ _ _ _)
  refine v_lconst (v := 1) (i := 10) rfl (by decide) (?_ : ky_V _ _ _ 17 _ _ _ _)
  refine v_aload_n (i := 11) (j := 0) rfl rfl (?_ : ky_V _ _ _ 18 _ _ _ _)
  refine gf_X8_21 rfl (i := 12) rfl (oc_X8 hm (ly_X8_c za)) rfl (?_ : ky_V _ _ _ 21 _ _ _ _)
  refine v_lshl (i := 13) rfl rfl (?_ : ky_V _ _ _ 22 _ _ _ _)
  refine v_ldc2 (v := (-1)) (i := 14) rfl (ky_t3 (i := 93) rfl rfl) (?_ : ky_V _ _ _ 25 _ _ _ _)
  refine v_lxor (i := 15) rfl (?_ : ky_V _ _ _ 26 _ _ _ _)
  refine v_land (i := 16) rfl (?_ : ky_V _ _ _ 27 _ _ _ _)
  refine v_lret (v := ((x1 ||| (sh_beside x1)) &&& ((1 <<< (Int32.toInt64 (sk_c s a 5) &&& 63)) ^^^ (-1)))) (i := 17) rfl rfl ?_
  obtain ⟨rfl, rfl⟩ := ky_leaf e
  exact hr _ hm fr

def x8_bearing_L5 (N : Nat)  (a : Nat) (k : sk_S → Int32 → Int64 → Int32 → Option (sk_S × Int64)) : Nat → sk_S → Int32 → Int64 → Int32 → Option (sk_S × Int64)
  | 0, _, _, _, _ => none
  | n + 1, c, p1, p2, p4 => (if (64 : Int32) ≤ p4 then (k c p1 p2 p4) else (if ky_inB p4 64 = true then (if (sk_c c (a + 1) (Int32.toNatClampNeg p4)) < p1 then (ky_let (p4 + 1) (fun x4 => (x8_bearing_L5 N a k n c p1 p2 x4))) else (ky_let (p2 ||| (1 <<< (Int32.toInt64 p4 &&& 63))) (fun x5 => (ky_let (p4 + 1) (fun x6 => (x8_bearing_L5 N a k n c p1 x5 x6)))))) else none))
set_option maxRecDepth 20000 in
set_option maxHeartbeats 4000000 in
theorem lv_X8_bearing_5 {G : ky_GW} {d : Nat} {s s9 : sk_S} {h0 : ky_HP} {Q : ky_RS → ky_HP → Prop} {r9 : Int64} (N : Nat) (hG : ky_OK G)  (a : Nat)   (za : lay_X8 (sk_K s) (sk_r s) a = true) (hm : sk_hp G s h0) (k : sk_S → Int32 → Int64 → Int32 → Option (sk_S × Int64)) (hr : ∀ h1, sk_hp G s9 h1 → sk_fr none s h0 s9 h1 → Q (.inl (some (.long r9))) h1)
    (hk : ∀ (h : ky_HP) (c : sk_S) (p1 : Int32) (p2 : Int64) (p4 : Int32), sk_hp G c h → sk_fr none s h0 c h → k c p1 p2 p4 = some (s9, r9) → ky_V G d M_X8_bearing 36 [(0, .ref a), (1, .int p1), (2, .long p2), (4, .int p4)] [] h Q) :
    ∀ (n : Nat) (h : ky_HP) (c : sk_S) (p1 : Int32) (p2 : Int64) (p4 : Int32), sk_hp G c h → sk_fr none s h0 c h → x8_bearing_L5 N a k n c p1 p2 p4 = some (s9, r9) → ky_V G d M_X8_bearing 5 [(0, .ref a), (1, .int p1), (2, .long p2), (4, .int p4)] [] h Q := by
  intro n
  induction n with
  | zero => intro h c p1 p2 p4 hm1 fr e; cases e
  | succ n ih =>
    intro h c p1 p2 p4 hm1 fr e
    rw [x8_bearing_L5] at e
    refine v_iload (i := 4) (j := 3) rfl rfl (?_ : ky_V _ _ _ 7 _ _ _ _)
    refine v_bipush (v := 64) (i := 5) rfl (by decide) (?_ : ky_V _ _ _ 9 _ _ _ _)
    refine v_icmp_ge (tgt := 36) (i := 6) rfl (by decide) (fun c1 => ?_) (fun c1 => ?_)
    · replace e := ky_ifT c1 e
      exact hk h c p1 p2 p4 hm1 fr e
    · replace e := ky_ifF c1 e
      refine v_aload_n (i := 7) (j := 0) rfl rfl (?_ : ky_V _ _ _ 13 _ _ _ _)
      refine gf_X8_9 rfl (i := 8) rfl (oc_X8 hm1 (ly_X8_c (lt_X8 fr za))) (sk_rf (ly_X8_r0 (lt_X8 fr za))) (?_ : ky_V _ _ _ 16 _ (.ref (a + 1) :: _) _ _)
      refine v_iload (i := 9) (j := 3) rfl rfl (?_ : ky_V _ _ _ 18 _ _ _ _)
      obtain ⟨z2, e⟩ := ky_chkE e
      refine v_iald (i := 10) rfl (oa_21 hm1 (ly_X8_k0 (lt_X8 fr za))) (ky_inb z2) (?_ : ky_V _ _ _ 19 _ (.int (sk_c c (a + 1) (Int32.toNatClampNeg p4)) :: _) _ _)
      refine v_iload_n (i := 11) (j := 1) rfl rfl (?_ : ky_V _ _ _ 20 _ _ _ _)
      refine v_icmp_lt (tgt := 30) (i := 12) rfl (by decide) (fun c3 => ?_) (fun c3 => ?_)
      · replace e := ky_ifT c3 e
        obtain ⟨x4, ex4⟩ : ∃ z : Int32, z = p4 + 1 := ⟨_, rfl⟩
        replace e := ky_letE ex4 e
        refine v_iinc (v := x4) (j := 3) (L' := [(0, .ref a), (1, .int p1), (2, .long p2), (4, .int x4)]) [1, 2, 3, 0] (i := 19) rfl rfl (by rw [ex4]; rfl) (Nat.le_of_ble_eq_true rfl) rfl (?_ : ky_V _ _ _ 33 _ _ _ _)
        refine v_goto (tgt := 5) (i := 20) rfl (by decide) (?_ : ky_V _ _ _ 5 _ _ _ _)
        exact ih h c p1 p2 x4 hm1 fr e
      · replace e := ky_ifF c3 e
        refine v_lload_n (i := 13) (j := 2) rfl rfl (?_ : ky_V _ _ _ 24 _ _ _ _)
        refine v_lconst (v := 1) (i := 14) rfl (by decide) (?_ : ky_V _ _ _ 25 _ _ _ _)
        refine v_iload (i := 15) (j := 3) rfl rfl (?_ : ky_V _ _ _ 27 _ _ _ _)
        refine v_lshl (i := 16) rfl rfl (?_ : ky_V _ _ _ 28 _ _ _ _)
        refine v_lor (i := 17) rfl (?_ : ky_V _ _ _ 29 _ _ _ _)
        refine v_topl (fun x5 ex5 => ?_)
        replace e := ky_letE ex5 e
        refine v_lstore_n (L' := [(0, .ref a), (1, .int p1), (2, .long x5), (4, .int p4)]) [1, 2, 0, 3] (i := 18) rfl (Nat.le_of_ble_eq_true rfl) rfl (?_ : ky_V _ _ _ 30 _ _ _ _)
        obtain ⟨x6, ex6⟩ : ∃ z : Int32, z = p4 + 1 := ⟨_, rfl⟩
        replace e := ky_letE ex6 e
        refine v_iinc (v := x6) (j := 3) (L' := [(0, .ref a), (1, .int p1), (2, .long x5), (4, .int x6)]) [1, 2, 3, 0] (i := 19) rfl rfl (by rw [ex6]; rfl) (Nat.le_of_ble_eq_true rfl) rfl (?_ : ky_V _ _ _ 33 _ _ _ _)
        refine v_goto (tgt := 5) (i := 20) rfl (by decide) (?_ : ky_V _ _ _ 5 _ _ _ _)
        exact ih h c p1 x5 x6 hm1 fr e

def x8_bearing (N : Nat)  (s : sk_S) (a : Nat) (p1 : Int32) : Option (sk_S × Int64) := (if lay_X8 (sk_K s) (sk_r s) a = true then (x8_bearing_L5 N a (fun q2 x3 x4 x5 => (some (q2, x4))) N s p1 0 0) else none)
set_option maxRecDepth 20000 in
set_option maxHeartbeats 4000000 in
theorem k_X8_bearing {G : ky_GW} {d : Nat} {h : ky_HP} {Q : ky_RS → ky_HP → Prop} {s s9 : sk_S} {r9 : Int64} {a : Nat} {p1 : Int32} (N : Nat) (hG : ky_OK G)   (hm : sk_hp G s h)  (e : x8_bearing N  s a p1 = some (s9, r9)) (hr : ∀ h1, sk_hp G s9 h1 → sk_fr none s h s9 h1 → Q (.inl (some (.long r9))) h1) : ky_Call G d M_X8_bearing [.ref a, .int p1] h Q := by
  refine ky_ofV (by decide +kernel) rfl ok_X8_bearing (Nat.le_of_ble_eq_true rfl) ?_
  have fr : sk_fr none s h s h := sk_fr.rf
  unfold x8_bearing at e
  refine (?_ : ky_V _ _ _ 0 [(0, .ref a), (1, .int p1)] [] _ _)
  obtain ⟨za, e⟩ := ky_chkE e
  refine v_lconst (v := 0) (i := 0) rfl (by decide) (?_ : ky_V _ _ _ 1 _ _ _ _)
  refine v_lstore_n (L' := [(0, .ref a), (1, .int p1), (2, .long 0)]) [1, 2, 0] (i := 1) rfl (Nat.le_of_ble_eq_true rfl) rfl (?_ : ky_V _ _ _ 2 _ _ _ _)
  refine v_iconst (v := 0) (i := 2) rfl (by decide) (?_ : ky_V _ _ _ 3 _ _ _ _)
  refine v_istore (L' := [(0, .ref a), (1, .int p1), (2, .long 0), (4, .int 0)]) [1, 2, 3, 0] (i := 3) rfl (Nat.le_of_ble_eq_true rfl) rfl (?_ : ky_V _ _ _ 5 _ _ _ _)
  refine lv_X8_bearing_5 N hG a za hm _ hr (fun h1 q2 x3 x4 x5 hmh1 frh1 e => ?_) N h s p1 0 0 hm fr e
  refine v_lload_n (i := 21) (j := 2) rfl rfl (?_ : ky_V _ _ _ 37 _ _ _ _)
  refine v_lret (v := x4) (i := 22) rfl rfl ?_
  obtain ⟨rfl, rfl⟩ := ky_leaf e
  exact hr _ hmh1 frh1

def x8_notHeavierThan_L4 (N : Nat)  (a : Nat) (k : sk_S → Int32 → Int32 → Int32 → Option (sk_S × Int32)) : Nat → sk_S → Int32 → Int32 → Int32 → Option (sk_S × Int32)
  | 0, _, _, _, _ => none
  | n + 1, c, p1, p2, p3 => (if (sk_c c a 6) ≤ p3 then (k c p1 p2 p3) else (if ky_inB p3 6 = true then (if p1 < (sk_c c (a + 2) (Int32.toNatClampNeg p3)) then (ky_let (p3 + 1) (fun x4 => (x8_notHeavierThan_L4 N a k n c p1 p2 x4))) else (ky_let (p2 + 1) (fun x5 => (ky_let (p3 + 1) (fun x6 => (x8_notHeavierThan_L4 N a k n c p1 x5 x6)))))) else none))
set_option maxRecDepth 20000 in
set_option maxHeartbeats 4000000 in
theorem lv_X8_notHeavierThan_4 {G : ky_GW} {d : Nat} {s s9 : sk_S} {h0 : ky_HP} {Q : ky_RS → ky_HP → Prop} {r9 : Int32} (N : Nat) (hG : ky_OK G)  (a : Nat)   (za : lay_X8 (sk_K s) (sk_r s) a = true) (hm : sk_hp G s h0) (k : sk_S → Int32 → Int32 → Int32 → Option (sk_S × Int32)) (hr : ∀ h1, sk_hp G s9 h1 → sk_fr none s h0 s9 h1 → Q (.inl (some (.int r9))) h1)
    (hk : ∀ (h : ky_HP) (c : sk_S) (p1 : Int32) (p2 : Int32) (p3 : Int32), sk_hp G c h → sk_fr none s h0 c h → k c p1 p2 p3 = some (s9, r9) → ky_V G d M_X8_notHeavierThan 31 [(0, .ref a), (1, .int p1), (2, .int p2), (3, .int p3)] [] h Q) :
    ∀ (n : Nat) (h : ky_HP) (c : sk_S) (p1 : Int32) (p2 : Int32) (p3 : Int32), sk_hp G c h → sk_fr none s h0 c h → x8_notHeavierThan_L4 N a k n c p1 p2 p3 = some (s9, r9) → ky_V G d M_X8_notHeavierThan 4 [(0, .ref a), (1, .int p1), (2, .int p2), (3, .int p3)] [] h Q := by
  intro n
  induction n with
  | zero => intro h c p1 p2 p3 hm1 fr e; cases e
  | succ n ih =>
    intro h c p1 p2 p3 hm1 fr e
    rw [x8_notHeavierThan_L4] at e
    refine v_iload_n (i := 4) (j := 3) rfl rfl (?_ : ky_V _ _ _ 5 _ _ _ _)
    refine v_aload_n (i := 5) (j := 0) rfl rfl (?_ : ky_V _ _ _ 6 _ _ _ _)
    refine gf_X8_44 rfl (i := 6) rfl (oc_X8 hm1 (ly_X8_c (lt_X8 fr za))) rfl (?_ : ky_V _ _ _ 9 _ _ _ _)
    refine v_icmp_ge (tgt := 31) (i := 7) rfl (by decide) (fun c1 => ?_) (fun c1 => ?_)
    · replace e := ky_ifT c1 e
      exact hk h c p1 p2 p3 hm1 fr e
    · replace e := ky_ifF c1 e
      refine v_aload_n (i := 8) (j := 0) rfl rfl (?_ : ky_V _ _ _ 13 _ _ _ _)
      refine gf_X8_15 rfl (i := 9) rfl (oc_X8 hm1 (ly_X8_c (lt_X8 fr za))) (sk_rf (ly_X8_r1 (lt_X8 fr za))) (?_ : ky_V _ _ _ 16 _ (.ref (a + 2) :: _) _ _)
      refine v_iload_n (i := 10) (j := 3) rfl rfl (?_ : ky_V _ _ _ 17 _ _ _ _)
      obtain ⟨z2, e⟩ := ky_chkE e
      refine v_iald (i := 11) rfl (oa_21 hm1 (ly_X8_k1 (lt_X8 fr za))) (ky_inb z2) (?_ : ky_V _ _ _ 18 _ (.int (sk_c c (a + 2) (Int32.toNatClampNeg p3)) :: _) _ _)
      refine v_iload_n (i := 12) (j := 1) rfl rfl (?_ : ky_V _ _ _ 19 _ _ _ _)
      refine v_icmp_gt (tgt := 25) (i := 13) rfl (by decide) (fun c3 => ?_) (fun c3 => ?_)
      · replace e := ky_ifT c3 e
        obtain ⟨x4, ex4⟩ : ∃ z : Int32, z = p3 + 1 := ⟨_, rfl⟩
        replace e := ky_letE ex4 e
        refine v_iinc (v := x4) (j := 3) (L' := [(0, .ref a), (1, .int p1), (2, .int p2), (3, .int x4)]) [1, 2, 3, 0] (i := 15) rfl rfl (by rw [ex4]; rfl) (Nat.le_of_ble_eq_true rfl) rfl (?_ : ky_V _ _ _ 28 _ _ _ _)
        refine v_goto (tgt := 4) (i := 16) rfl (by decide) (?_ : ky_V _ _ _ 4 _ _ _ _)
        exact ih h c p1 p2 x4 hm1 fr e
      · replace e := ky_ifF c3 e
        obtain ⟨x5, ex5⟩ : ∃ z : Int32, z = p2 + 1 := ⟨_, rfl⟩
        replace e := ky_letE ex5 e
        refine v_iinc (v := x5) (j := 2) (L' := [(0, .ref a), (1, .int p1), (2, .int x5), (3, .int p3)]) [1, 2, 0, 3] (i := 14) rfl rfl (by rw [ex5]; rfl) (Nat.le_of_ble_eq_true rfl) rfl (?_ : ky_V _ _ _ 25 _ _ _ _)
        obtain ⟨x6, ex6⟩ : ∃ z : Int32, z = p3 + 1 := ⟨_, rfl⟩
        replace e := ky_letE ex6 e
        refine v_iinc (v := x6) (j := 3) (L' := [(0, .ref a), (1, .int p1), (2, .int x5), (3, .int x6)]) [1, 2, 3, 0] (i := 15) rfl rfl (by rw [ex6]; rfl) (Nat.le_of_ble_eq_true rfl) rfl (?_ : ky_V _ _ _ 28 _ _ _ _)
        refine v_goto (tgt := 4) (i := 16) rfl (by decide) (?_ : ky_V _ _ _ 4 _ _ _ _)
        exact ih h c p1 x5 x6 hm1 fr e

def x8_notHeavierThan (N : Nat)  (s : sk_S) (a : Nat) (p1 : Int32) : Option (sk_S × Int32) := (if lay_X8 (sk_K s) (sk_r s) a = true then (x8_notHeavierThan_L4 N a (fun q2 x3 x4 x5 => (some (q2, x4))) N s p1 0 0) else none)
set_option maxRecDepth 20000 in
set_option maxHeartbeats 4000000 in
theorem k_X8_notHeavierThan {G : ky_GW} {d : Nat} {h : ky_HP} {Q : ky_RS → ky_HP → Prop} {s s9 : sk_S} {r9 : Int32} {a : Nat} {p1 : Int32} (N : Nat) (hG : ky_OK G)   (hm : sk_hp G s h)  (e : x8_notHeavierThan N  s a p1 = some (s9, r9)) (hr : ∀ h1, sk_hp G s9 h1 → sk_fr none s h s9 h1 → Q (.inl (some (.int r9))) h1) : ky_Call G d M_X8_notHeavierThan [.ref a, .int p1] h Q := by
  refine ky_ofV (by decide +kernel) rfl ok_X8_notHeavierThan (Nat.le_of_ble_eq_true rfl) ?_
  have fr : sk_fr none s h s h := sk_fr.rf
  unfold x8_notHeavierThan at e
  refine (?_ : ky_V _ _ _ 0 [(0, .ref a), (1, .int p1)] [] _ _)
  obtain ⟨za, e⟩ := ky_chkE e
  refine v_iconst (v := 0) (i := 0) rfl (by decide) (?_ : ky_V _ _ _ 1 _ _ _ _)
  refine v_istore_n (L' := [(0, .ref a), (1, .int p1), (2, .int 0)]) [1, 2, 0] (i := 1) rfl (Nat.le_of_ble_eq_true rfl) rfl (?_ : ky_V _ _ _ 2 _ _ _ _)
  refine v_iconst (v := 0) (i := 2) rfl (by decide) (?_ : ky_V _ _ _ 3 _ _ _ _)
  refine v_istore_n (L' := [(0, .ref a), (1, .int p1), (2, .int 0), (3, .int 0)]) [1, 2, 3, 0] (i := 3) rfl (Nat.le_of_ble_eq_true rfl) rfl (?_ : ky_V _ _ _ 4 _ _ _ _)
  refine lv_X8_notHeavierThan_4 N hG a za hm _ hr (fun h1 q2 x3 x4 x5 hmh1 frh1 e => ?_) N h s p1 0 0 hm fr e
  refine v_iload_n (i := 17) (j := 2) rfl rfl (?_ : ky_V _ _ _ 32 _ _ _ _)
  refine v_iret (v := x4) (ty := .int) (i := 18) rfl rfl rfl ?_
  obtain ⟨rfl, rfl⟩ := ky_leaf e
  exact hr _ hmh1 frh1

def x8_become (N : Nat)  (s : sk_S) (a : Nat) (a1_ : Nat) : Option (sk_S × Int32) := (if lay_X8 (sk_K s) (sk_r s) a = true then (if lay_X8 (sk_K s) (sk_r s) a1_ = true then (ky_let (sk_wf s (a + 1) (va_cpy (sk_c s (a1_ + 1)) (sk_c s (a + 1)) 0 0 64)) (fun q2 => (ky_let (sk_wf q2 (a + 2) (va_cpy (sk_c q2 (a1_ + 2)) (sk_c q2 (a + 2)) 0 0 6)) (fun q4 => (ky_let (sk_wf q4 (a + 3) (va_cpy (sk_c q4 (a1_ + 3)) (sk_c q4 (a + 3)) 0 0 6)) (fun q6 => (ky_let (sk_g q6 a1_ 3) (fun x7 => (ky_let (sk_wg q6 a 3 x7) (fun q9 => (ky_let (sk_g q9 a1_ 4) (fun x10 => (ky_let (sk_wg q9 a 4 x10) (fun q12 => (ky_let (sk_c q12 a1_ 5) (fun x13 => (ky_let (sk_wc q12 a 5 x13) (fun q15 => (ky_let (sk_c q15 a1_ 6) (fun x16 => (ky_let (sk_wc q15 a 6 x16) (fun q18 => (ky_let (sk_c q18 a1_ 7) (fun x19 => (ky_let (sk_wc q18 a 7 x19) (fun q21 => (some (q21, 0)))))))))))))))))))))))))))) else none) else none)
set_option maxRecDepth 20000 in
set_option maxHeartbeats 4000000 in
theorem k_X8_become {G : ky_GW} {d : Nat} {h : ky_HP} {Q : ky_RS → ky_HP → Prop} {s s9 : sk_S} {r9 : Int32} {a : Nat} {a1_ : Nat} (N : Nat) (hG : ky_OK G)   (hm : sk_hp G s h)  (e : x8_become N  s a a1_ = some (s9, r9)) (hr : ∀ h1, sk_hp G s9 h1 → sk_fr none s h s9 h1 → Q (.inl none) h1) : ky_Call G (d + 1) M_X8_become [.ref a, .ref a1_] h Q := by
  refine ky_ofV (by decide +kernel) rfl ok_X8_become (Nat.le_of_ble_eq_true rfl) ?_
  have fr : sk_fr none s h s h := sk_fr.rf
  unfold x8_become at e
  refine (?_ : ky_V _ _ _ 0 [(0, .ref a), (1, .ref a1_)] [] _ _)
  obtain ⟨za, e⟩ := ky_chkE e
  obtain ⟨za1_, e⟩ := ky_chkE e
  refine v_aload_n (i := 0) (j := 1) rfl rfl (?_ : ky_V _ _ _ 1 _ _ _ _)
  refine gf_X8_9 rfl (i := 1) rfl (oc_X8 hm (ly_X8_c za1_)) (sk_rf (ly_X8_r0 za1_)) (?_ : ky_V _ _ _ 4 _ (.ref (a1_ + 1) :: _) _ _)
  refine v_iconst (v := 0) (i := 2) rfl (by decide) (?_ : ky_V _ _ _ 5 _ _ _ _)
  refine v_aload_n (i := 3) (j := 0) rfl rfl (?_ : ky_V _ _ _ 6 _ _ _ _)
  refine gf_X8_9 rfl (i := 4) rfl (oc_X8 hm (ly_X8_c za)) (sk_rf (ly_X8_r0 za)) (?_ : ky_V _ _ _ 9 _ (.ref (a + 1) :: _) _ _)
  refine v_iconst (v := 0) (i := 5) rfl (by decide) (?_ : ky_V _ _ _ 10 _ _ _ _)
  refine v_bipush (v := 64) (i := 6) rfl (by decide) (?_ : ky_V _ _ _ 12 _ _ _ _)
  refine v_copyi (sp := 0) (dp := 0) (n := 64) (by rw [show M_X8_become.1.cls = "WaistSand$Shore" from rfl]; exact ky_t3 (i := 138) rfl rfl) (ky_t3 (i := 133) rfl rfl) (ky_t3 (i := 132) rfl rfl) (ky_t1 (i := 22) rfl rfl) (i := 7) rfl (oa_21 hm (ly_X8_k0 za1_)) (oa_21 hm (ly_X8_k0 za)) (by decide) (by decide) (by decide) (by decide) (by decide) (Nat.le_of_ble_eq_true rfl) ?_
  refine sk_stf (kd := 20) hm fr (ly_X8_k0 za) (va_cpy (sk_c s (a1_ + 1)) (sk_c s (a + 1)) 0 0 64) (fun h1 hmh1 frh1 => ?_)
  obtain ⟨q2, eq2⟩ : ∃ z, z = (sk_wf s (a + 1) (va_cpy (sk_c s (a1_ + 1)) (sk_c s (a + 1)) 0 0 64)) := ⟨_, rfl⟩
  rw [← eq2] at hmh1 frh1
  replace e := ky_letE eq2 e
  refine (?_ : ky_V _ _ _ 15 _ _ _ _)
  refine v_aload_n (i := 8) (j := 1) rfl rfl (?_ : ky_V _ _ _ 16 _ _ _ _)
  refine gf_X8_15 rfl (i := 9) rfl (oc_X8 hmh1 (ly_X8_c (lt_X8 frh1 za1_))) (sk_rf (ly_X8_r1 (lt_X8 frh1 za1_))) (?_ : ky_V _ _ _ 19 _ (.ref (a1_ + 2) :: _) _ _)
  refine v_iconst (v := 0) (i := 10) rfl (by decide) (?_ : ky_V _ _ _ 20 _ _ _ _)
  refine v_aload_n (i := 11) (j := 0) rfl rfl (?_ : ky_V _ _ _ 21 _ _ _ _)
  refine gf_X8_15 rfl (i := 12) rfl (oc_X8 hmh1 (ly_X8_c (lt_X8 frh1 za))) (sk_rf (ly_X8_r1 (lt_X8 frh1 za))) (?_ : ky_V _ _ _ 24 _ (.ref (a + 2) :: _) _ _)
  refine v_iconst (v := 0) (i := 13) rfl (by decide) (?_ : ky_V _ _ _ 25 _ _ _ _)
  refine v_bipush (v := 6) (i := 14) rfl (by decide) (?_ : ky_V _ _ _ 27 _ _ _ _)
  refine v_copyi (sp := 0) (dp := 0) (n := 6) (by rw [show M_X8_become.1.cls = "WaistSand$Shore" from rfl]; exact ky_t3 (i := 138) rfl rfl) (ky_t3 (i := 133) rfl rfl) (ky_t3 (i := 132) rfl rfl) (ky_t1 (i := 22) rfl rfl) (i := 15) rfl (oa_21 hmh1 (ly_X8_k1 (lt_X8 frh1 za1_))) (oa_21 hmh1 (ly_X8_k1 (lt_X8 frh1 za))) (by decide) (by decide) (by decide) (by decide) (by decide) (Nat.le_of_ble_eq_true rfl) ?_
  refine sk_stf (kd := 20) hmh1 frh1 (ly_X8_k1 (lt_X8 frh1 za)) (va_cpy (sk_c q2 (a1_ + 2)) (sk_c q2 (a + 2)) 0 0 6) (fun h3 hmh3 frh3 => ?_)
  obtain ⟨q4, eq4⟩ : ∃ z, z = (sk_wf q2 (a + 2) (va_cpy (sk_c q2 (a1_ + 2)) (sk_c q2 (a + 2)) 0 0 6)) := ⟨_, rfl⟩
  rw [← eq4] at hmh3 frh3
  replace e := ky_letE eq4 e
  refine (?_ : ky_V _ _ _ 30 _ _ _ _)
  refine v_aload_n (i := 16) (j := 1) rfl rfl (?_ : ky_V _ _ _ 31 _ _ _ _)
  refine gf_X8_18 rfl (i := 17) rfl (oc_X8 hmh3 (ly_X8_c (lt_X8 frh3 za1_))) (sk_rf (ly_X8_r2 (lt_X8 frh3 za1_))) (?_ : ky_V _ _ _ 34 _ (.ref (a1_ + 3) :: _) _ _)
  refine v_iconst (v := 0) (i := 18) rfl (by decide) (?_ : ky_V _ _ _ 35 _ _ _ _)
  refine v_aload_n (i := 19) (j := 0) rfl rfl (?_ : ky_V _ _ _ 36 _ _ _ _)
  refine gf_X8_18 rfl (i := 20) rfl (oc_X8 hmh3 (ly_X8_c (lt_X8 frh3 za))) (sk_rf (ly_X8_r2 (lt_X8 frh3 za))) (?_ : ky_V _ _ _ 39 _ (.ref (a + 3) :: _) _ _)
  refine v_iconst (v := 0) (i := 21) rfl (by decide) (?_ : ky_V _ _ _ 40 _ _ _ _)
  refine v_bipush (v := 6) (i := 22) rfl (by decide) (?_ : ky_V _ _ _ 42 _ _ _ _)
  refine v_copyi (sp := 0) (dp := 0) (n := 6) (by rw [show M_X8_become.1.cls = "WaistSand$Shore" from rfl]; exact ky_t3 (i := 138) rfl rfl) (ky_t3 (i := 133) rfl rfl) (ky_t3 (i := 132) rfl rfl) (ky_t1 (i := 22) rfl rfl) (i := 23) rfl (oa_21 hmh3 (ly_X8_k2 (lt_X8 frh3 za1_))) (oa_21 hmh3 (ly_X8_k2 (lt_X8 frh3 za))) (by decide) (by decide) (by decide) (by decide) (by decide) (Nat.le_of_ble_eq_true rfl) ?_
  refine sk_stf (kd := 20) hmh3 frh3 (ly_X8_k2 (lt_X8 frh3 za)) (va_cpy (sk_c q4 (a1_ + 3)) (sk_c q4 (a + 3)) 0 0 6) (fun h5 hmh5 frh5 => ?_)
  obtain ⟨q6, eq6⟩ : ∃ z, z = (sk_wf q4 (a + 3) (va_cpy (sk_c q4 (a1_ + 3)) (sk_c q4 (a + 3)) 0 0 6)) := ⟨_, rfl⟩
  rw [← eq6] at hmh5 frh5
  replace e := ky_letE eq6 e
  refine (?_ : ky_V _ _ _ 45 _ _ _ _)
  refine v_aload_n (i := 24) (j := 0) rfl rfl (?_ : ky_V _ _ _ 46 _ _ _ _)
  refine v_aload_n (i := 25) (j := 1) rfl rfl (?_ : ky_V _ _ _ 47 _ _ _ _)
  refine gf_X8_37 rfl (i := 26) rfl (oc_X8 hmh5 (ly_X8_c (lt_X8 frh5 za1_))) rfl (?_ : ky_V _ _ _ 50 _ _ _ _)
  refine v_topl (fun x7 ex7 => ?_)
  replace e := ky_letE ex7 e
  refine pf_X8_37 rfl (i := 27) rfl (oc_X8 hmh5 (ly_X8_c (lt_X8 frh5 za))) (Nat.le_of_ble_eq_true rfl) rfl rfl ?_
  refine sk_stg (kd := 7) (n := 0) hmh5 frh5 (ly_X8_c (lt_X8 frh5 za)) 3 x7 (fun h8 hmh8 frh8 => ?_)
  obtain ⟨q9, eq9⟩ : ∃ z, z = (sk_wg q6 a 3 x7) := ⟨_, rfl⟩
  rw [← eq9] at hmh8 frh8
  replace e := ky_letE eq9 e
  refine (?_ : ky_V _ _ _ 53 _ _ _ _)
  refine v_aload_n (i := 28) (j := 0) rfl rfl (?_ : ky_V _ _ _ 54 _ _ _ _)
  refine v_aload_n (i := 29) (j := 1) rfl rfl (?_ : ky_V _ _ _ 55 _ _ _ _)
  refine gf_X8_41 rfl (i := 30) rfl (oc_X8 hmh8 (ly_X8_c (lt_X8 frh8 za1_))) rfl (?_ : ky_V _ _ _ 58 _ _ _ _)
  refine v_topl (fun x10 ex10 => ?_)
  replace e := ky_letE ex10 e
  refine pf_X8_41 rfl (i := 31) rfl (oc_X8 hmh8 (ly_X8_c (lt_X8 frh8 za))) (Nat.le_of_ble_eq_true rfl) rfl rfl ?_
  refine sk_stg (kd := 7) (n := 0) hmh8 frh8 (ly_X8_c (lt_X8 frh8 za)) 4 x10 (fun h11 hmh11 frh11 => ?_)
  obtain ⟨q12, eq12⟩ : ∃ z, z = (sk_wg q9 a 4 x10) := ⟨_, rfl⟩
  rw [← eq12] at hmh11 frh11
  replace e := ky_letE eq12 e
  refine (?_ : ky_V _ _ _ 61 _ _ _ _)
  refine v_aload_n (i := 32) (j := 0) rfl rfl (?_ : ky_V _ _ _ 62 _ _ _ _)
  refine v_aload_n (i := 33) (j := 1) rfl rfl (?_ : ky_V _ _ _ 63 _ _ _ _)
  refine gf_X8_21 rfl (i := 34) rfl (oc_X8 hmh11 (ly_X8_c (lt_X8 frh11 za1_))) rfl (?_ : ky_V _ _ _ 66 _ _ _ _)
  refine v_topi (fun x13 ex13 => ?_)
  replace e := ky_letE ex13 e
  refine pf_X8_21 rfl (i := 35) rfl (oc_X8 hmh11 (ly_X8_c (lt_X8 frh11 za))) (Nat.le_of_ble_eq_true rfl) rfl rfl ?_
  refine sk_stc (kd := 7) (n := 0) hmh11 frh11 (ly_X8_c (lt_X8 frh11 za)) 5 x13 (fun h14 hmh14 frh14 => ?_)
  obtain ⟨q15, eq15⟩ : ∃ z, z = (sk_wc q12 a 5 x13) := ⟨_, rfl⟩
  rw [← eq15] at hmh14 frh14
  replace e := ky_letE eq15 e
  refine (?_ : ky_V _ _ _ 69 _ _ _ _)
  refine v_aload_n (i := 36) (j := 0) rfl rfl (?_ : ky_V _ _ _ 70 _ _ _ _)
  refine v_aload_n (i := 37) (j := 1) rfl rfl (?_ : ky_V _ _ _ 71 _ _ _ _)
  refine gf_X8_44 rfl (i := 38) rfl (oc_X8 hmh14 (ly_X8_c (lt_X8 frh14 za1_))) rfl (?_ : ky_V _ _ _ 74 _ _ _ _)
  refine v_topi (fun x16 ex16 => ?_)
  replace e := ky_letE ex16 e
  refine pf_X8_44 rfl (i := 39) rfl (oc_X8 hmh14 (ly_X8_c (lt_X8 frh14 za))) (Nat.le_of_ble_eq_true rfl) rfl rfl ?_
  refine sk_stc (kd := 7) (n := 0) hmh14 frh14 (ly_X8_c (lt_X8 frh14 za)) 6 x16 (fun h17 hmh17 frh17 => ?_)
  obtain ⟨q18, eq18⟩ : ∃ z, z = (sk_wc q15 a 6 x16) := ⟨_, rfl⟩
  rw [← eq18] at hmh17 frh17
  replace e := ky_letE eq18 e
  refine (?_ : ky_V _ _ _ 77 _ _ _ _)
  refine v_aload_n (i := 40) (j := 0) rfl rfl (?_ : ky_V _ _ _ 78 _ _ _ _)
  refine v_aload_n (i := 41) (j := 1) rfl rfl (?_ : ky_V _ _ _ 79 _ _ _ _)
  refine gf_X8_47 rfl (i := 42) rfl (oc_X8 hmh17 (ly_X8_c (lt_X8 frh17 za1_))) rfl (?_ : ky_V _ _ _ 82 _ _ _ _)
  refine v_topi (fun x19 ex19 => ?_)
  replace e := ky_letE ex19 e
  refine pf_X8_47 rfl (i := 43) rfl (oc_X8 hmh17 (ly_X8_c (lt_X8 frh17 za))) (Nat.le_of_ble_eq_true rfl) rfl rfl ?_
  refine sk_stc (kd := 7) (n := 0) hmh17 frh17 (ly_X8_c (lt_X8 frh17 za)) 7 x19 (fun h20 hmh20 frh20 => ?_)
  obtain ⟨q21, eq21⟩ : ∃ z, z = (sk_wc q18 a 7 x19) := ⟨_, rfl⟩
  rw [← eq21] at hmh20 frh20
  replace e := ky_letE eq21 e
  refine (?_ : ky_V _ _ _ 85 _ _ _ _)
  refine v_vret (i := 44) rfl rfl ?_
  obtain ⟨rfl, rfl⟩ := ky_leaf e
  exact hr _ hmh20 frh20

def x8_addPerson (N : Nat)  (s : sk_S) (a : Nat) (p1 : Int32) (p2 : Int32) : Option (sk_S × Int32) := (if lay_X8 (sk_K s) (sk_r s) a = true then (if (6 : Int32) ≤ (sk_c s a 6) then (some (s, 0)) else (if ky_inB (sk_c s a 6) 6 = true then (ky_let (sk_wc s (a + 2) (Int32.toNatClampNeg (sk_c s a 6)) p1) (fun q4 => (if ky_inB (sk_c q4 a 6) 6 = true then (ky_let (sk_wc q4 (a + 3) (Int32.toNatClampNeg (sk_c q4 a 6)) p2) (fun q7 => (ky_let ((sk_c q7 a 6) + 1) (fun x8 => (ky_let (sk_wc q7 a 6 x8) (fun q10 => (some (q10, 0)))))))) else none))) else none)) else none)
set_option maxRecDepth 20000 in
set_option maxHeartbeats 4000000 in
theorem k_X8_addPerson {G : ky_GW} {d : Nat} {h : ky_HP} {Q : ky_RS → ky_HP → Prop} {s s9 : sk_S} {r9 : Int32} {a : Nat} {p1 : Int32} {p2 : Int32} (N : Nat) (hG : ky_OK G)   (hm : sk_hp G s h)  (e : x8_addPerson N  s a p1 p2 = some (s9, r9)) (hr : ∀ h1, sk_hp G s9 h1 → sk_fr none s h s9 h1 → Q (.inl none) h1) : ky_Call G d M_X8_addPerson [.ref a, .int p1, .int p2] h Q := by
  refine ky_ofV (by decide +kernel) rfl ok_X8_addPerson (Nat.le_of_ble_eq_true rfl) ?_
  have fr : sk_fr none s h s h := sk_fr.rf
  unfold x8_addPerson at e
  refine (?_ : ky_V _ _ _ 0 [(0, .ref a), (1, .int p1), (2, .int p2)] [] _ _)
  obtain ⟨za, e⟩ := ky_chkE e
  refine v_aload_n (i := 0) (j := 0) rfl rfl (?_ : ky_V _ _ _ 1 _ _ _ _)
  refine gf_X8_44 rfl (i := 1) rfl (oc_X8 hm (ly_X8_c za)) rfl (?_ : ky_V _ _ _ 4 _ _ _ _)
  refine v_bipush (v := 6) (i := 2) rfl (by decide) (?_ : ky_V _ _ _ 6 _ _ _ _)
  refine v_icmp_ge (tgt := 39) (i := 3) rfl (by decide) (fun c1 => ?_) (fun c1 => ?_)
  · replace e := ky_ifT c1 e
    refine v_vret (i := 22) rfl rfl ?_
    obtain ⟨rfl, rfl⟩ := ky_leaf e
    exact hr _ hm fr
  · replace e := ky_ifF c1 e
    refine v_aload_n (i := 4) (j := 0) rfl rfl (?_ : ky_V _ _ _ 10 _ _ _ _)
    refine gf_X8_15 rfl (i := 5) rfl (oc_X8 hm (ly_X8_c za)) (sk_rf (ly_X8_r1 za)) (?_ : ky_V _ _ _ 13 _ (.ref (a + 2) :: _) _ _)
    refine v_aload_n (i := 6) (j := 0) rfl rfl (?_ : ky_V _ _ _ 14 _ _ _ _)
    refine gf_X8_44 rfl (i := 7) rfl (oc_X8 hm (ly_X8_c za)) rfl (?_ : ky_V _ _ _ 17 _ _ _ _)
    refine v_iload_n (i := 8) (j := 1) rfl rfl (?_ : ky_V _ _ _ 18 _ _ _ _)
    obtain ⟨z2, e⟩ := ky_chkE e
    refine v_iast (i := 9) rfl (oa_21 hm (ly_X8_k1 za)) (ky_inb z2) ?_
    refine sk_stc (kd := 20) hm fr (ly_X8_k1 za) (Int32.toNatClampNeg (sk_c s a 6)) p1 (fun h3 hmh3 frh3 => ?_)
    obtain ⟨q4, eq4⟩ : ∃ z, z = (sk_wc s (a + 2) (Int32.toNatClampNeg (sk_c s a 6)) p1) := ⟨_, rfl⟩
    rw [← eq4] at hmh3 frh3
    replace e := ky_letE eq4 e
    refine (?_ : ky_V _ _ _ 19 _ _ _ _)
    refine v_aload_n (i := 10) (j := 0) rfl rfl (?_ : ky_V _ _ _ 20 _ _ _ _)
    refine gf_X8_18 rfl (i := 11) rfl (oc_X8 hmh3 (ly_X8_c (lt_X8 frh3 za))) (sk_rf (ly_X8_r2 (lt_X8 frh3 za))) (?_ : ky_V _ _ _ 23 _ (.ref (a + 3) :: _) _ _)
    refine v_aload_n (i := 12) (j := 0) rfl rfl (?_ : ky_V _ _ _ 24 _ _ _ _)
    refine gf_X8_44 rfl (i := 13) rfl (oc_X8 hmh3 (ly_X8_c (lt_X8 frh3 za))) rfl (?_ : ky_V _ _ _ 27 _ _ _ _)
    refine v_iload_n (i := 14) (j := 2) rfl rfl (?_ : ky_V _ _ _ 28 _ _ _ _)
    obtain ⟨z5, e⟩ := ky_chkE e
    refine v_iast (i := 15) rfl (oa_21 hmh3 (ly_X8_k2 (lt_X8 frh3 za))) (ky_inb z5) ?_
    refine sk_stc (kd := 20) hmh3 frh3 (ly_X8_k2 (lt_X8 frh3 za)) (Int32.toNatClampNeg (sk_c q4 a 6)) p2 (fun h6 hmh6 frh6 => ?_)
    obtain ⟨q7, eq7⟩ : ∃ z, z = (sk_wc q4 (a + 3) (Int32.toNatClampNeg (sk_c q4 a 6)) p2) := ⟨_, rfl⟩
    rw [← eq7] at hmh6 frh6
    replace e := ky_letE eq7 e
    refine (?_ : ky_V _ _ _ 29 _ _ _ _)
    refine v_aload_n (i := 16) (j := 0) rfl rfl (?_ : ky_V _ _ _ 30 _ _ _ _)
    refine v_dup (i := 17) rfl rfl (?_ : ky_V _ _ _ 31 _ _ _ _)
    refine gf_X8_44 rfl (i := 18) rfl (oc_X8 hmh6 (ly_X8_c (lt_X8 frh6 za))) rfl (?_ : ky_V _ _ _ 34 _ _ _ _)
    refine v_iconst (v := 1) (i := 19) rfl (by decide) (?_ : ky_V _ _ _ 35 _ _ _ _)
    refine v_iadd (i := 20) rfl (?_ : ky_V _ _ _ 36 _ _ _ _)
    refine v_topi (fun x8 ex8 => ?_)
    replace e := ky_letE ex8 e
    refine pf_X8_44 rfl (i := 21) rfl (oc_X8 hmh6 (ly_X8_c (lt_X8 frh6 za))) (Nat.le_of_ble_eq_true rfl) rfl rfl ?_
    refine sk_stc (kd := 7) (n := 0) hmh6 frh6 (ly_X8_c (lt_X8 frh6 za)) 6 x8 (fun h9 hmh9 frh9 => ?_)
    obtain ⟨q10, eq10⟩ : ∃ z, z = (sk_wc q7 a 6 x8) := ⟨_, rfl⟩
    rw [← eq10] at hmh9 frh9
    replace e := ky_letE eq10 e
    refine (?_ : ky_V _ _ _ 39 _ _ _ _)
    refine v_vret (i := 22) rfl rfl ?_
    obtain ⟨rfl, rfl⟩ := ky_leaf e
    exact hr _ hmh9 frh9

def x8_peopleOn_L4 (N : Nat)  (a : Nat) (k : sk_S → Int32 → Int32 → Int32 → Option (sk_S × Int32)) : Nat → sk_S → Int32 → Int32 → Int32 → Option (sk_S × Int32)
  | 0, _, _, _, _ => none
  | n + 1, c, p1, p2, p3 => (if (sk_c c a 6) ≤ p3 then (k c p1 p2 p3) else (if ky_inB p3 6 = true then (if (sk_c c (a + 3) (Int32.toNatClampNeg p3)) = p1 then (ky_let (p2 ||| ((1 : Int32) <<< (p3 &&& 31))) (fun x5 => (ky_let (p3 + 1) (fun x6 => (x8_peopleOn_L4 N a k n c p1 x5 x6))))) else (ky_let (p3 + 1) (fun x4 => (x8_peopleOn_L4 N a k n c p1 p2 x4)))) else none))
set_option maxRecDepth 20000 in
set_option maxHeartbeats 4000000 in
theorem lv_X8_peopleOn_4 {G : ky_GW} {d : Nat} {s s9 : sk_S} {h0 : ky_HP} {Q : ky_RS → ky_HP → Prop} {r9 : Int32} (N : Nat) (hG : ky_OK G)  (a : Nat)   (za : lay_X8 (sk_K s) (sk_r s) a = true) (hm : sk_hp G s h0) (k : sk_S → Int32 → Int32 → Int32 → Option (sk_S × Int32)) (hr : ∀ h1, sk_hp G s9 h1 → sk_fr none s h0 s9 h1 → Q (.inl (some (.int r9))) h1)
    (hk : ∀ (h : ky_HP) (c : sk_S) (p1 : Int32) (p2 : Int32) (p3 : Int32), sk_hp G c h → sk_fr none s h0 c h → k c p1 p2 p3 = some (s9, r9) → ky_V G d M_X8_peopleOn 34 [(0, .ref a), (1, .int p1), (2, .int p2), (3, .int p3)] [] h Q) :
    ∀ (n : Nat) (h : ky_HP) (c : sk_S) (p1 : Int32) (p2 : Int32) (p3 : Int32), sk_hp G c h → sk_fr none s h0 c h → x8_peopleOn_L4 N a k n c p1 p2 p3 = some (s9, r9) → ky_V G d M_X8_peopleOn 4 [(0, .ref a), (1, .int p1), (2, .int p2), (3, .int p3)] [] h Q := by
  intro n
  induction n with
  | zero => intro h c p1 p2 p3 hm1 fr e; cases e
  | succ n ih =>
    intro h c p1 p2 p3 hm1 fr e
    rw [x8_peopleOn_L4] at e
    refine v_iload_n (i := 4) (j := 3) rfl rfl (?_ : ky_V _ _ _ 5 _ _ _ _)
    refine v_aload_n (i := 5) (j := 0) rfl rfl (?_ : ky_V _ _ _ 6 _ _ _ _)
    refine gf_X8_44 rfl (i := 6) rfl (oc_X8 hm1 (ly_X8_c (lt_X8 fr za))) rfl (?_ : ky_V _ _ _ 9 _ _ _ _)
    refine v_icmp_ge (tgt := 34) (i := 7) rfl (by decide) (fun c1 => ?_) (fun c1 => ?_)
    · replace e := ky_ifT c1 e
      exact hk h c p1 p2 p3 hm1 fr e
    · replace e := ky_ifF c1 e
      refine v_aload_n (i := 8) (j := 0) rfl rfl (?_ : ky_V _ _ _ 13 _ _ _ _)
      refine gf_X8_18 rfl (i := 9) rfl (oc_X8 hm1 (ly_X8_c (lt_X8 fr za))) (sk_rf (ly_X8_r2 (lt_X8 fr za))) (?_ : ky_V _ _ _ 16 _ (.ref (a + 3) :: _) _ _)
      refine v_iload_n (i := 10) (j := 3) rfl rfl (?_ : ky_V _ _ _ 17 _ _ _ _)
      obtain ⟨z2, e⟩ := ky_chkE e
      refine v_iald (i := 11) rfl (oa_21 hm1 (ly_X8_k2 (lt_X8 fr za))) (ky_inb z2) (?_ : ky_V _ _ _ 18 _ (.int (sk_c c (a + 3) (Int32.toNatClampNeg p3)) :: _) _ _)
      refine v_iload_n (i := 12) (j := 1) rfl rfl (?_ : ky_V _ _ _ 19 _ _ _ _)
      refine v_icmp_ne (tgt := 28) (i := 13) rfl (by decide) (fun c3 => ?_) (fun c3 => ?_)
      · replace e := ky_ifF c3 e
        obtain ⟨x4, ex4⟩ : ∃ z : Int32, z = p3 + 1 := ⟨_, rfl⟩
        replace e := ky_letE ex4 e
        refine v_iinc (v := x4) (j := 3) (L' := [(0, .ref a), (1, .int p1), (2, .int p2), (3, .int x4)]) [1, 2, 3, 0] (i := 20) rfl rfl (by rw [ex4]; rfl) (Nat.le_of_ble_eq_true rfl) rfl (?_ : ky_V _ _ _ 31 _ _ _ _)
        refine v_goto (tgt := 4) (i := 21) rfl (by decide) (?_ : ky_V _ _ _ 4 _ _ _ _)
        exact ih h c p1 p2 x4 hm1 fr e
      · replace e := ky_ifT c3 e
        refine v_iload_n (i := 14) (j := 2) rfl rfl (?_ : ky_V _ _ _ 23 _ _ _ _)
        refine v_iconst (v := 1) (i := 15) rfl (by decide) (?_ : ky_V _ _ _ 24 _ _ _ _)
        refine v_iload_n (i := 16) (j := 3) rfl rfl (?_ : ky_V _ _ _ 25 _ _ _ _)
        refine v_ishl (i := 17) rfl (?_ : ky_V _ _ _ 26 _ _ _ _)
        refine v_ior (i := 18) rfl (?_ : ky_V _ _ _ 27 _ _ _ _)
        refine v_topi (fun x5 ex5 => ?_)
        replace e := ky_letE ex5 e
        refine v_istore_n (L' := [(0, .ref a), (1, .int p1), (2, .int x5), (3, .int p3)]) [1, 2, 0, 3] (i := 19) rfl (Nat.le_of_ble_eq_true rfl) rfl (?_ : ky_V _ _ _ 28 _ _ _ _)
        obtain ⟨x6, ex6⟩ : ∃ z : Int32, z = p3 + 1 := ⟨_, rfl⟩
        replace e := ky_letE ex6 e
        refine v_iinc (v := x6) (j := 3) (L' := [(0, .ref a), (1, .int p1), (2, .int x5), (3, .int x6)]) [1, 2, 3, 0] (i := 20) rfl rfl (by rw [ex6]; rfl) (Nat.le_of_ble_eq_true rfl) rfl (?_ : ky_V _ _ _ 31 _ _ _ _)
        refine v_goto (tgt := 4) (i := 21) rfl (by decide) (?_ : ky_V _ _ _ 4 _ _ _ _)
        exact ih h c p1 x5 x6 hm1 fr e

def x8_peopleOn (N : Nat)  (s : sk_S) (a : Nat) (p1 : Int32) : Option (sk_S × Int32) := (if lay_X8 (sk_K s) (sk_r s) a = true then (x8_peopleOn_L4 N a (fun q2 x3 x4 x5 => (some (q2, x4))) N s p1 0 0) else none)
set_option maxRecDepth 20000 in
set_option maxHeartbeats 4000000 in
theorem k_X8_peopleOn {G : ky_GW} {d : Nat} {h : ky_HP} {Q : ky_RS → ky_HP → Prop} {s s9 : sk_S} {r9 : Int32} {a : Nat} {p1 : Int32} (N : Nat) (hG : ky_OK G)   (hm : sk_hp G s h)  (e : x8_peopleOn N  s a p1 = some (s9, r9)) (hr : ∀ h1, sk_hp G s9 h1 → sk_fr none s h s9 h1 → Q (.inl (some (.int r9))) h1) : ky_Call G d M_X8_peopleOn [.ref a, .int p1] h Q := by
  refine ky_ofV (by decide +kernel) rfl ok_X8_peopleOn (Nat.le_of_ble_eq_true rfl) ?_
  have fr : sk_fr none s h s h := sk_fr.rf
  unfold x8_peopleOn at e
  refine (?_ : ky_V _ _ _ 0 [(0, .ref a), (1, .int p1)] [] _ _)
  obtain ⟨za, e⟩ := ky_chkE e
  refine v_iconst (v := 0) (i := 0) rfl (by decide) (?_ : ky_V _ _ _ 1 _ _ _ _)
  refine v_istore_n (L' := [(0, .ref a), (1, .int p1), (2, .int 0)]) [1, 2, 0] (i := 1) rfl (Nat.le_of_ble_eq_true rfl) rfl (?_ : ky_V _ _ _ 2 _ _ _ _)
  refine v_iconst (v := 0) (i := 2) rfl (by decide) (?_ : ky_V _ _ _ 3 _ _ _ _)
  refine v_istore_n (L' := [(0, .ref a), (1, .int p1), (2, .int 0), (3, .int 0)]) [1, 2, 3, 0] (i := 3) rfl (Nat.le_of_ble_eq_true rfl) rfl (?_ : ky_V _ _ _ 4 _ _ _ _)
  refine lv_X8_peopleOn_4 N hG a za hm _ hr (fun h1 q2 x3 x4 x5 hmh1 frh1 e => ?_) N h s p1 0 0 hm fr e
  refine v_iload_n (i := 22) (j := 2) rfl rfl (?_ : ky_V _ _ _ 35 _ _ _ _)
  refine v_iret (v := x4) (ty := .int) (i := 23) rfl rfl rfl ?_
  obtain ⟨rfl, rfl⟩ := ky_leaf e
  exact hr _ hmh1 frh1

def x8_flood_L6 (N : Nat)   (k : sk_S → Int64 → Int64 → Int64 → Int32 → Option (sk_S × Int64)) : Nat → sk_S → Int64 → Int64 → Int64 → Int32 → Option (sk_S × Int64)
  | 0, _, _, _, _, _ => none
  | n + 1, c, p0, p2, p4, p6 => (if (64 : Int32) ≤ p6 then (k c p0 p2 p4 p6) else (ky_let (p4 ||| ((sh_beside p4) &&& p2)) (fun x2 => (if (lg_cmp x2 p4) = 0 then (some (c, p4)) else (ky_let (p6 + 1) (fun x4 => (x8_flood_L6 N k n c p0 p2 x2 x4)))))))
set_option maxRecDepth 20000 in
set_option maxHeartbeats 4000000 in
theorem lv_X8_flood_6 {G : ky_GW} {d : Nat} {s s9 : sk_S} {h0 : ky_HP} {Q : ky_RS → ky_HP → Prop} {r9 : Int64} (N : Nat) (hG : ky_OK G)      (hm : sk_hp G s h0) (k : sk_S → Int64 → Int64 → Int64 → Int32 → Option (sk_S × Int64)) (hr : ∀ h1, sk_hp G s9 h1 → sk_fr none s h0 s9 h1 → Q (.inl (some (.long r9))) h1)
    (hk : ∀ (h : ky_HP) (c : sk_S) (p0 : Int64) (p2 : Int64) (p4 : Int64) (p6 : Int32), sk_hp G c h → sk_fr none s h0 c h → k c p0 p2 p4 p6 = some (s9, r9) → ky_V G (d + 1) M_X8_flood 46 [(0, .long p0), (2, .long p2), (4, .long p4), (6, .int p6)] [] h Q) :
    ∀ (n : Nat) (h : ky_HP) (c : sk_S) (p0 : Int64) (p2 : Int64) (p4 : Int64) (p6 : Int32), sk_hp G c h → sk_fr none s h0 c h → x8_flood_L6 N  k n c p0 p2 p4 p6 = some (s9, r9) → ky_V G (d + 1) M_X8_flood 6 [(0, .long p0), (2, .long p2), (4, .long p4), (6, .int p6)] [] h Q := by
  intro n
  induction n with
  | zero => intro h c p0 p2 p4 p6 hm1 fr e; cases e
  | succ n ih =>
    intro h c p0 p2 p4 p6 hm1 fr e
    rw [x8_flood_L6] at e
    refine v_iload (i := 4) (j := 3) rfl rfl (?_ : ky_V _ _ _ 8 _ _ _ _)
    refine v_bipush (v := 64) (i := 5) rfl (by decide) (?_ : ky_V _ _ _ 10 _ _ _ _)
    refine v_icmp_ge (tgt := 46) (i := 6) rfl (by decide) (fun c1 => ?_) (fun c1 => ?_)
    · replace e := ky_ifT c1 e
      exact hk h c p0 p2 p4 p6 hm1 fr e
    · replace e := ky_ifF c1 e
      refine v_lload (i := 7) (j := 2) rfl rfl (?_ : ky_V _ _ _ 15 _ _ _ _)
      refine v_lload (i := 8) (j := 2) rfl rfl (?_ : ky_V _ _ _ 17 _ _ _ _)
      refine cl_X8_68 (As := [.long p4]) rfl (i := 9) rfl rfl rfl (Nat.le_of_ble_eq_true rfl) (k_X8_beside p4 ⟨_, rfl, (?_ : ky_V _ _ _ 20 _ [.long ((sh_beside p4)), .long p4] _ _)⟩)
      refine v_lload_n (i := 10) (j := 1) rfl rfl (?_ : ky_V _ _ _ 21 _ _ _ _)
      refine v_land (i := 11) rfl (?_ : ky_V _ _ _ 22 _ _ _ _)
      refine v_lor (i := 12) rfl (?_ : ky_V _ _ _ 23 _ _ _ _)
      refine v_topl (fun x2 ex2 => ?_)
      replace e := ky_letE ex2 e
      refine v_lstore (L' := [(0, .long p0), (2, .long p2), (4, .long p4), (6, .int p6), (7, .long x2)]) [1, 2, 3, 4, 0] (i := 13) rfl (Nat.le_of_ble_eq_true rfl) rfl (?_ : ky_V _ _ _ 25 _ _ _ _)
      refine v_lload (i := 14) (j := 4) rfl rfl (?_ : ky_V _ _ _ 27 _ _ _ _)
      refine v_lload (i := 15) (j := 2) rfl rfl (?_ : ky_V _ _ _ 29 _ _ _ _)
      refine v_lcmp (i := 16) rfl (?_ : ky_V _ _ _ 30 _ _ _ _)
      refine v_if_ne (tgt := 36) (i := 17) rfl (by decide) (fun c3 => ?_) (fun c3 => ?_)
      · replace e := ky_ifF c3 e
        refine v_lload (i := 20) (j := 4) rfl rfl (?_ : ky_V _ _ _ 38 _ _ _ _)
        refine v_lstore (L' := [(0, .long p0), (2, .long p2), (4, .long x2), (6, .int p6), (7, .long x2)]) [1, 2, 0, 3, 4] (i := 21) rfl (Nat.le_of_ble_eq_true rfl) rfl (?_ : ky_V _ _ _ 40 _ _ _ _)
        obtain ⟨x4, ex4⟩ : ∃ z : Int32, z = p6 + 1 := ⟨_, rfl⟩
        replace e := ky_letE ex4 e
        refine v_iinc (v := x4) (j := 3) (L' := [(0, .long p0), (2, .long p2), (4, .long x2), (6, .int x4), (7, .long x2)]) [1, 2, 3, 0, 4] (i := 22) rfl rfl (by rw [ex4]; rfl) (Nat.le_of_ble_eq_true rfl) rfl (?_ : ky_V _ _ _ 43 _ _ _ _)
        refine v_goto (tgt := 6) (i := 23) rfl (by decide) (?_ : ky_V _ _ _ 6 _ _ _ _)
        refine ky_loc (L' := [(0, .long p0), (2, .long p2), (4, .long x2), (6, .int x4)]) (by simp) ?_
        exact ih h c p0 p2 x2 x4 hm1 fr e
      · replace e := ky_ifT c3 e
        refine v_lload (i := 18) (j := 2) rfl rfl (?_ : ky_V _ _ _ 35 _ _ _ _)
        refine v_lret (v := p4) (i := 19) rfl rfl ?_
        obtain ⟨rfl, rfl⟩ := ky_leaf e
        exact hr _ hm1 fr

def x8_flood (N : Nat)  (s : sk_S) (p0 : Int64) (p2 : Int64) : Option (sk_S × Int64) := (x8_flood_L6 N (fun q2 x3 x4 x5 x6 => (some (q2, x5))) N s p0 p2 p0 0)
set_option maxRecDepth 20000 in
set_option maxHeartbeats 4000000 in
theorem k_X8_flood {G : ky_GW} {d : Nat} {h : ky_HP} {Q : ky_RS → ky_HP → Prop} {s s9 : sk_S} {r9 : Int64} {p0 : Int64} {p2 : Int64} (N : Nat) (hG : ky_OK G)   (hm : sk_hp G s h)  (e : x8_flood N  s p0 p2 = some (s9, r9)) (hr : ∀ h1, sk_hp G s9 h1 → sk_fr none s h s9 h1 → Q (.inl (some (.long r9))) h1) : ky_Call G (d + 1) M_X8_flood [.long p0, .long p2] h Q := by
  refine ky_ofV (by decide +kernel) rfl ok_X8_flood (Nat.le_of_ble_eq_true rfl) ?_
  have fr : sk_fr none s h s h := sk_fr.rf
  unfold x8_flood at e
  refine (?_ : ky_V _ _ _ 0 [(0, .long p0), (2, .long p2)] [] _ _)
  refine v_lload_n (i := 0) (j := 0) rfl rfl (?_ : ky_V _ _ _ 1 _ _ _ _)
  refine v_lstore (L' := [(0, .long p0), (2, .long p2), (4, .long p0)]) [1, 2, 0] (i := 1) rfl (Nat.le_of_ble_eq_true rfl) rfl (?_ : ky_V _ _ _ 3 _ _ _ _)
  refine v_iconst (v := 0) (i := 2) rfl (by decide) (?_ : ky_V _ _ _ 4 _ _ _ _)
  refine v_istore (L' := [(0, .long p0), (2, .long p2), (4, .long p0), (6, .int 0)]) [1, 2, 3, 0] (i := 3) rfl (Nat.le_of_ble_eq_true rfl) rfl (?_ : ky_V _ _ _ 6 _ _ _ _)
  refine lv_X8_flood_6 N hG hm _ hr (fun h1 q2 x3 x4 x5 x6 hmh1 frh1 e => ?_) N h s p0 p2 p0 0 hm fr e
  refine v_lload (i := 24) (j := 2) rfl rfl (?_ : ky_V _ _ _ 48 _ _ _ _)
  refine v_lret (v := x5) (i := 25) rfl rfl ?_
  obtain ⟨rfl, rfl⟩ := ky_leaf e
  exact hr _ hmh1 frh1

def x8_reached (N : Nat)  (s : sk_S) (a : Nat) (p1 : Int32) (p2 : Int32) : Option (sk_S × Int64) := (if lay_X8 (sk_K s) (sk_r s) a = true then (if ky_inB p1 6 = true then (if p2 = 0 then ((x8_bearing N s a (sk_c s (a + 2) (Int32.toNatClampNeg p1))).bind (fun zz => (fun q4 x5 => ((x8_flood N q4 (1 <<< (Int32.toInt64 (sk_c s (a + 3) (Int32.toNatClampNeg p1)) &&& 63)) x5).bind (fun zz => (fun q8 x9 => (some (q8, x9))) zz.1 zz.2))) zz.1 zz.2)) else ((x8_bearing N s a ((sk_c s (a + 2) (Int32.toNatClampNeg p1)) - 1)).bind (fun zz => (fun q12 x13 => ((x8_flood N q12 (1 <<< (Int32.toInt64 (sk_c s (a + 3) (Int32.toNatClampNeg p1)) &&& 63)) x13).bind (fun zz => (fun q16 x17 => (some (q16, x17))) zz.1 zz.2))) zz.1 zz.2))) else none) else none)
set_option maxRecDepth 20000 in
set_option maxHeartbeats 4000000 in
theorem k_X8_reached {G : ky_GW} {d : Nat} {h : ky_HP} {Q : ky_RS → ky_HP → Prop} {s s9 : sk_S} {r9 : Int64} {a : Nat} {p1 : Int32} {p2 : Int32} (N : Nat) (hG : ky_OK G)   (hm : sk_hp G s h)  (e : x8_reached N  s a p1 p2 = some (s9, r9)) (hr : ∀ h1, sk_hp G s9 h1 → sk_fr none s h s9 h1 → Q (.inl (some (.long r9))) h1) : ky_Call G (d + 2) M_X8_reached [.ref a, .int p1, .int p2] h Q := by
  refine ky_ofV (by decide +kernel) rfl ok_X8_reached (Nat.le_of_ble_eq_true rfl) ?_
  have fr : sk_fr none s h s h := sk_fr.rf
  unfold x8_reached at e
  refine (?_ : ky_V _ _ _ 0 [(0, .ref a), (1, .int p1), (2, .int p2)] [] _ _)
  obtain ⟨za, e⟩ := ky_chkE e
  refine v_lconst (v := 1) (i := 0) rfl (by decide) (?_ : ky_V _ _ _ 1 _ _ _ _)
  refine v_aload_n (i := 1) (j := 0) rfl rfl (?_ : ky_V _ _ _ 2 _ _ _ _)
  refine gf_X8_18 rfl (i := 2) rfl (oc_X8 hm (ly_X8_c za)) (sk_rf (ly_X8_r2 za)) (?_ : ky_V _ _ _ 5 _ (.ref (a + 3) :: _) _ _)
  refine v_iload_n (i := 3) (j := 1) rfl rfl (?_ : ky_V _ _ _ 6 _ _ _ _)
  obtain ⟨z1, e⟩ := ky_chkE e
  refine v_iald (i := 4) rfl (oa_21 hm (ly_X8_k2 za)) (ky_inb z1) (?_ : ky_V _ _ _ 7 _ (.int (sk_c s (a + 3) (Int32.toNatClampNeg p1)) :: _) _ _)
  refine v_lshl (i := 5) rfl rfl (?_ : ky_V _ _ _ 8 _ _ _ _)
  refine v_aload_n (i := 6) (j := 0) rfl rfl (?_ : ky_V _ _ _ 9 _ _ _ _)
  refine v_iload_n (i := 7) (j := 2) rfl rfl (?_ : ky_V _ _ _ 10 _ _ _ _)
  refine v_if_eq (tgt := 24) (i := 8) rfl (by decide) (fun c2 => ?_) (fun c2 => ?_)
  · replace e := ky_ifT c2 e
    refine v_aload_n (i := 16) (j := 0) rfl rfl (?_ : ky_V _ _ _ 25 _ _ _ _)
    refine gf_X8_15 rfl (i := 17) rfl (oc_X8 hm (ly_X8_c za)) (sk_rf (ly_X8_r1 za)) (?_ : ky_V _ _ _ 28 _ (.ref (a + 2) :: _) _ _)
    refine v_iload_n (i := 18) (j := 1) rfl rfl (?_ : ky_V _ _ _ 29 _ _ _ _)
    refine v_iald (i := 19) rfl (oa_21 hm (ly_X8_k1 za)) (ky_inb z1) (?_ : ky_V _ _ _ 30 _ (.int (sk_c s (a + 2) (Int32.toNatClampNeg p1)) :: _) _ _)
    obtain ⟨⟨q4, x5⟩, g6, e⟩ := Option.bind_eq_some_iff.mp e
    refine cl_X8_60 (As := [.int ((sk_c s (a + 2) (Int32.toNatClampNeg p1)))]) rfl (i := 20) rfl (oc_X8 hm (ly_X8_c za)) rfl rfl (Nat.le_of_ble_eq_true rfl) (k_X8_bearing N hG hm g6 (fun h3 hmh3 frh3 => ⟨_, rfl, (?_ : ky_V _ _ _ 33 _ [.long x5, .long ((1 <<< (Int32.toInt64 (sk_c s (a + 3) (Int32.toNatClampNeg p1)) &&& 63)))] _ _)⟩))
    have frh3 := fr.tr frh3
    obtain ⟨⟨q8, x9⟩, g10, e⟩ := Option.bind_eq_some_iff.mp e
    refine cl_X8_72 (As := [.long ((1 <<< (Int32.toInt64 (sk_c s (a + 3) (Int32.toNatClampNeg p1)) &&& 63))), .long x5]) rfl (i := 21) rfl rfl rfl (Nat.le_of_ble_eq_true rfl) (k_X8_flood N hG hmh3 g10 (fun h7 hmh7 frh7 => ⟨_, rfl, (?_ : ky_V _ _ _ 36 _ [.long x9] _ _)⟩))
    have frh7 := frh3.tr frh7
    refine v_lret (v := x9) (i := 22) rfl rfl ?_
    obtain ⟨rfl, rfl⟩ := ky_leaf e
    exact hr _ hmh7 frh7
  · replace e := ky_ifF c2 e
    refine v_aload_n (i := 9) (j := 0) rfl rfl (?_ : ky_V _ _ _ 14 _ _ _ _)
    refine gf_X8_15 rfl (i := 10) rfl (oc_X8 hm (ly_X8_c za)) (sk_rf (ly_X8_r1 za)) (?_ : ky_V _ _ _ 17 _ (.ref (a + 2) :: _) _ _)
    refine v_iload_n (i := 11) (j := 1) rfl rfl (?_ : ky_V _ _ _ 18 _ _ _ _)
    refine v_iald (i := 12) rfl (oa_21 hm (ly_X8_k1 za)) (ky_inb z1) (?_ : ky_V _ _ _ 19 _ (.int (sk_c s (a + 2) (Int32.toNatClampNeg p1)) :: _) _ _)
    refine v_iconst (v := 1) (i := 13) rfl (by decide) (?_ : ky_V _ _ _ 20 _ _ _ _)
    refine v_isub (i := 14) rfl (?_ : ky_V _ _ _ 21 _ _ _ _)
    refine v_goto (tgt := 30) (i := 15) rfl (by decide) (?_ : ky_V _ _ _ 30 _ _ _ _)
    obtain ⟨⟨q12, x13⟩, g14, e⟩ := Option.bind_eq_some_iff.mp e
    refine cl_X8_60 (As := [.int (((sk_c s (a + 2) (Int32.toNatClampNeg p1)) - 1))]) rfl (i := 20) rfl (oc_X8 hm (ly_X8_c za)) rfl rfl (Nat.le_of_ble_eq_true rfl) (k_X8_bearing N hG hm g14 (fun h11 hmh11 frh11 => ⟨_, rfl, (?_ : ky_V _ _ _ 33 _ [.long x13, .long ((1 <<< (Int32.toInt64 (sk_c s (a + 3) (Int32.toNatClampNeg p1)) &&& 63)))] _ _)⟩))
    have frh11 := fr.tr frh11
    obtain ⟨⟨q16, x17⟩, g18, e⟩ := Option.bind_eq_some_iff.mp e
    refine cl_X8_72 (As := [.long ((1 <<< (Int32.toInt64 (sk_c s (a + 3) (Int32.toNatClampNeg p1)) &&& 63))), .long x13]) rfl (i := 21) rfl rfl rfl (Nat.le_of_ble_eq_true rfl) (k_X8_flood N hG hmh11 g18 (fun h15 hmh15 frh15 => ⟨_, rfl, (?_ : ky_V _ _ _ 36 _ [.long x17] _ _)⟩))
    have frh15 := frh11.tr frh15
    refine v_lret (v := x17) (i := 22) rfl rfl ?_
    obtain ⟨rfl, rfl⟩ := ky_leaf e
    exact hr _ hmh15 frh15

def x8_layBoard (N : Nat)  (s : sk_S) (a : Nat) (p1 : Int32) : Option (sk_S × Int32) := (if lay_X8 (sk_K s) (sk_r s) a = true then (if ky_inB p1 64 = true then (ky_let (mt_min 9 ((sk_c s (a + 1) (Int32.toNatClampNeg p1)) + 3)) (fun x2 => (ky_let (sk_wc s (a + 1) (Int32.toNatClampNeg p1) x2) (fun q4 => (ky_let ((sk_c q4 a 7) - 1) (fun x5 => (ky_let (sk_wc q4 a 7 x5) (fun q7 => (some (q7, 0)))))))))) else none) else none)
set_option maxRecDepth 20000 in
set_option maxHeartbeats 4000000 in
theorem k_X8_layBoard {G : ky_GW} {d : Nat} {h : ky_HP} {Q : ky_RS → ky_HP → Prop} {s s9 : sk_S} {r9 : Int32} {a : Nat} {p1 : Int32} (N : Nat) (hG : ky_OK G)   (hm : sk_hp G s h)  (e : x8_layBoard N  s a p1 = some (s9, r9)) (hr : ∀ h1, sk_hp G s9 h1 → sk_fr none s h s9 h1 → Q (.inl none) h1) : ky_Call G (d + 1) M_X8_layBoard [.ref a, .int p1] h Q := by
  refine ky_ofV (by decide +kernel) rfl ok_X8_layBoard (Nat.le_of_ble_eq_true rfl) ?_
  have fr : sk_fr none s h s h := sk_fr.rf
  unfold x8_layBoard at e
  refine (?_ : ky_V _ _ _ 0 [(0, .ref a), (1, .int p1)] [] _ _)
  obtain ⟨za, e⟩ := ky_chkE e
  refine v_aload_n (i := 0) (j := 0) rfl rfl (?_ : ky_V _ _ _ 1 _ _ _ _)
  refine gf_X8_9 rfl (i := 1) rfl (oc_X8 hm (ly_X8_c za)) (sk_rf (ly_X8_r0 za)) (?_ : ky_V _ _ _ 4 _ (.ref (a + 1) :: _) _ _)
  refine v_iload_n (i := 2) (j := 1) rfl rfl (?_ : ky_V _ _ _ 5 _ _ _ _)
  refine v_bipush (v := 9) (i := 3) rfl (by decide) (?_ : ky_V _ _ _ 7 _ _ _ _)
  refine v_aload_n (i := 4) (j := 0) rfl rfl (?_ : ky_V _ _ _ 8 _ _ _ _)
  refine gf_X8_9 rfl (i := 5) rfl (oc_X8 hm (ly_X8_c za)) (sk_rf (ly_X8_r0 za)) (?_ : ky_V _ _ _ 11 _ (.ref (a + 1) :: _) _ _)
  refine v_iload_n (i := 6) (j := 1) rfl rfl (?_ : ky_V _ _ _ 12 _ _ _ _)
  obtain ⟨z1, e⟩ := ky_chkE e
  refine v_iald (i := 7) rfl (oa_21 hm (ly_X8_k0 za)) (ky_inb z1) (?_ : ky_V _ _ _ 13 _ (.int (sk_c s (a + 1) (Int32.toNatClampNeg p1)) :: _) _ _)
  refine v_iconst (v := 3) (i := 8) rfl (by decide) (?_ : ky_V _ _ _ 14 _ _ _ _)
  refine v_iadd (i := 9) rfl (?_ : ky_V _ _ _ 15 _ _ _ _)
  refine cl_X8_54 rfl (i := 10) rfl (Nat.le_of_ble_eq_true rfl) (?_ : ky_V _ _ _ 18 _ _ _ _)
  refine v_topi (fun x2 ex2 => ?_)
  replace e := ky_letE ex2 e
  refine v_iast (i := 11) rfl (oa_21 hm (ly_X8_k0 za)) (ky_inb z1) ?_
  refine sk_stc (kd := 20) hm fr (ly_X8_k0 za) (Int32.toNatClampNeg p1) x2 (fun h3 hmh3 frh3 => ?_)
  obtain ⟨q4, eq4⟩ : ∃ z, z = (sk_wc s (a + 1) (Int32.toNatClampNeg p1) x2) := ⟨_, rfl⟩
  rw [← eq4] at hmh3 frh3
  replace e := ky_letE eq4 e
  refine (?_ : ky_V _ _ _ 19 _ _ _ _)
  refine v_aload_n (i := 12) (j := 0) rfl rfl (?_ : ky_V _ _ _ 20 _ _ _ _)
  refine v_dup (i := 13) rfl rfl (?_ : ky_V _ _ _ 21 _ _ _ _)
  refine gf_X8_47 rfl (i := 14) rfl (oc_X8 hmh3 (ly_X8_c (lt_X8 frh3 za))) rfl (?_ : ky_V _ _ _ 24 _ _ _ _)
  refine v_iconst (v := 1) (i := 15) rfl (by decide) (?_ : ky_V _ _ _ 25 _ _ _ _)
  refine v_isub (i := 16) rfl (?_ : ky_V _ _ _ 26 _ _ _ _)
  refine v_topi (fun x5 ex5 => ?_)
  replace e := ky_letE ex5 e
  refine pf_X8_47 rfl (i := 17) rfl (oc_X8 hmh3 (ly_X8_c (lt_X8 frh3 za))) (Nat.le_of_ble_eq_true rfl) rfl rfl ?_
  refine sk_stc (kd := 7) (n := 0) hmh3 frh3 (ly_X8_c (lt_X8 frh3 za)) 7 x5 (fun h6 hmh6 frh6 => ?_)
  obtain ⟨q7, eq7⟩ : ∃ z, z = (sk_wc q4 a 7 x5) := ⟨_, rfl⟩
  rw [← eq7] at hmh6 frh6
  replace e := ky_letE eq7 e
  refine (?_ : ky_V _ _ _ 29 _ _ _ _)
  refine v_vret (i := 18) rfl rfl ?_
  obtain ⟨rfl, rfl⟩ := ky_leaf e
  exact hr _ hmh6 frh6

def x8_steps_L40 (N : Nat)  (a : Nat) (k : sk_S → Int32 → Int32 → Int32 → Int64 → Int64 → Int32 → Option (sk_S × Int32)) : Nat → sk_S → Int32 → Int32 → Int32 → Int64 → Int64 → Int32 → Option (sk_S × Int32)
  | 0, _, _, _, _, _, _, _ => none
  | n + 1, c, p1, p2, p3, p4, p6, p8 => (if (64 : Int32) ≤ p8 then (k c p1 p2 p3 p4 p6 p8) else (if (sh_has p6 p2) = 0 then (ky_let (p6 ||| ((sh_beside p6) &&& p4)) (fun x3 => (ky_let (p8 + 1) (fun x4 => (x8_steps_L40 N a k n c p1 p2 p3 p4 x3 x4))))) else (some (c, p8))))
set_option maxRecDepth 20000 in
set_option maxHeartbeats 4000000 in
theorem lv_X8_steps_40 {G : ky_GW} {d : Nat} {s s9 : sk_S} {h0 : ky_HP} {Q : ky_RS → ky_HP → Prop} {r9 : Int32} (N : Nat) (hG : ky_OK G)  (a : Nat)   (za : lay_X8 (sk_K s) (sk_r s) a = true) (hm : sk_hp G s h0) (k : sk_S → Int32 → Int32 → Int32 → Int64 → Int64 → Int32 → Option (sk_S × Int32)) (hr : ∀ h1, sk_hp G s9 h1 → sk_fr none s h0 s9 h1 → Q (.inl (some (.int r9))) h1)
    (hk : ∀ (h : ky_HP) (c : sk_S) (p1 : Int32) (p2 : Int32) (p3 : Int32) (p4 : Int64) (p6 : Int64) (p8 : Int32), sk_hp G c h → sk_fr none s h0 c h → k c p1 p2 p3 p4 p6 p8 = some (s9, r9) → ky_V G (d + 1) M_X8_steps 78 [(0, .ref a), (1, .int p1), (2, .int p2), (3, .int p3), (4, .long p4), (6, .long p6), (8, .int p8)] [] h Q) :
    ∀ (n : Nat) (h : ky_HP) (c : sk_S) (p1 : Int32) (p2 : Int32) (p3 : Int32) (p4 : Int64) (p6 : Int64) (p8 : Int32), sk_hp G c h → sk_fr none s h0 c h → x8_steps_L40 N a k n c p1 p2 p3 p4 p6 p8 = some (s9, r9) → ky_V G (d + 1) M_X8_steps 40 [(0, .ref a), (1, .int p1), (2, .int p2), (3, .int p3), (4, .long p4), (6, .long p6), (8, .int p8)] [] h Q := by
  intro n
  induction n with
  | zero => intro h c p1 p2 p3 p4 p6 p8 hm1 fr e; cases e
  | succ n ih =>
    intro h c p1 p2 p3 p4 p6 p8 hm1 fr e
    rw [x8_steps_L40] at e
    refine v_iload (i := 25) (j := 6) rfl rfl (?_ : ky_V _ _ _ 42 _ _ _ _)
    refine v_bipush (v := 64) (i := 26) rfl (by decide) (?_ : ky_V _ _ _ 44 _ _ _ _)
    refine v_icmp_ge (tgt := 78) (i := 27) rfl (by decide) (fun c1 => ?_) (fun c1 => ?_)
    · replace e := ky_ifT c1 e
      exact hk h c p1 p2 p3 p4 p6 p8 hm1 fr e
    · replace e := ky_ifF c1 e
      refine v_lload (i := 28) (j := 5) rfl rfl (?_ : ky_V _ _ _ 49 _ _ _ _)
      refine v_iload_n (i := 29) (j := 2) rfl rfl (?_ : ky_V _ _ _ 50 _ _ _ _)
      refine cl_X8_64 (As := [.long p6, .int p2]) rfl (i := 30) rfl rfl rfl (Nat.le_of_ble_eq_true rfl) (k_X8_has p6 p2 ⟨_, rfl, (?_ : ky_V _ _ _ 53 _ [.int ((sh_has p6 p2))] _ _)⟩)
      refine v_if_eq (tgt := 59) (i := 31) rfl (by decide) (fun c2 => ?_) (fun c2 => ?_)
      · replace e := ky_ifT c2 e
        refine v_lload (i := 34) (j := 5) rfl rfl (?_ : ky_V _ _ _ 61 _ _ _ _)
        refine v_lload (i := 35) (j := 5) rfl rfl (?_ : ky_V _ _ _ 63 _ _ _ _)
        refine cl_X8_68 (As := [.long p6]) rfl (i := 36) rfl rfl rfl (Nat.le_of_ble_eq_true rfl) (k_X8_beside p6 ⟨_, rfl, (?_ : ky_V _ _ _ 66 _ [.long ((sh_beside p6)), .long p6] _ _)⟩)
        refine v_lload (i := 37) (j := 4) rfl rfl (?_ : ky_V _ _ _ 68 _ _ _ _)
        refine v_land (i := 38) rfl (?_ : ky_V _ _ _ 69 _ _ _ _)
        refine v_lor (i := 39) rfl (?_ : ky_V _ _ _ 70 _ _ _ _)
        refine v_topl (fun x3 ex3 => ?_)
        replace e := ky_letE ex3 e
        refine v_lstore (L' := [(0, .ref a), (1, .int p1), (2, .int p2), (3, .int p3), (4, .long p4), (6, .long x3), (8, .int p8)]) [1, 2, 3, 4, 5, 0, 6] (i := 40) rfl (Nat.le_of_ble_eq_true rfl) rfl (?_ : ky_V _ _ _ 72 _ _ _ _)
        obtain ⟨x4, ex4⟩ : ∃ z : Int32, z = p8 + 1 := ⟨_, rfl⟩
        replace e := ky_letE ex4 e
        refine v_iinc (v := x4) (j := 6) (L' := [(0, .ref a), (1, .int p1), (2, .int p2), (3, .int p3), (4, .long p4), (6, .long x3), (8, .int x4)]) [1, 2, 3, 4, 5, 6, 0] (i := 41) rfl rfl (by rw [ex4]; rfl) (Nat.le_of_ble_eq_true rfl) rfl (?_ : ky_V _ _ _ 75 _ _ _ _)
        refine v_goto (tgt := 40) (i := 42) rfl (by decide) (?_ : ky_V _ _ _ 40 _ _ _ _)
        exact ih h c p1 p2 p3 p4 x3 x4 hm1 fr e
      · replace e := ky_ifF c2 e
        refine v_iload (i := 32) (j := 6) rfl rfl (?_ : ky_V _ _ _ 58 _ _ _ _)
        refine v_iret (v := p8) (ty := .int) (i := 33) rfl rfl rfl ?_
        obtain ⟨rfl, rfl⟩ := ky_leaf e
        exact hr _ hm1 fr

def x8_steps (N : Nat)  (s : sk_S) (a : Nat) (p1 : Int32) (p2 : Int32) (p3 : Int32) : Option (sk_S × Int32) := (if lay_X8 (sk_K s) (sk_r s) a = true then (if p3 = 0 then (if ky_inB p1 6 = true then ((x8_bearing N s a (sk_c s (a + 2) (Int32.toNatClampNeg p1))).bind (fun zz => (fun q4 x5 => (ky_let (1 <<< (Int32.toInt64 (sk_c q4 (a + 3) (Int32.toNatClampNeg p1)) &&& 63)) (fun x7 => (x8_steps_L40 N a (fun q9 x10 x11 x12 x13 x14 x15 => (some (q9, (-1)))) N q4 p1 p2 p3 x5 x7 0)))) zz.1 zz.2)) else none) else (if ky_inB p1 6 = true then ((x8_bearing N s a ((sk_c s (a + 2) (Int32.toNatClampNeg p1)) - 1)).bind (fun zz => (fun q18 x19 => (ky_let (1 <<< (Int32.toInt64 (sk_c q18 (a + 3) (Int32.toNatClampNeg p1)) &&& 63)) (fun x21 => (x8_steps_L40 N a (fun q23 x24 x25 x26 x27 x28 x29 => (some (q23, (-1)))) N q18 p1 p2 p3 x19 x21 0)))) zz.1 zz.2)) else none)) else none)
set_option maxRecDepth 20000 in
set_option maxHeartbeats 4000000 in
theorem k_X8_steps {G : ky_GW} {d : Nat} {h : ky_HP} {Q : ky_RS → ky_HP → Prop} {s s9 : sk_S} {r9 : Int32} {a : Nat} {p1 : Int32} {p2 : Int32} {p3 : Int32} (N : Nat) (hG : ky_OK G)   (hm : sk_hp G s h)  (e : x8_steps N  s a p1 p2 p3 = some (s9, r9)) (hr : ∀ h1, sk_hp G s9 h1 → sk_fr none s h s9 h1 → Q (.inl (some (.int r9))) h1) : ky_Call G (d + 1) M_X8_steps [.ref a, .int p1, .int p2, .int p3] h Q := by
  refine ky_ofV (by decide +kernel) rfl ok_X8_steps (Nat.le_of_ble_eq_true rfl) ?_
  have fr : sk_fr none s h s h := sk_fr.rf
  unfold x8_steps at e
  refine (?_ : ky_V _ _ _ 0 [(0, .ref a), (1, .int p1), (2, .int p2), (3, .int p3)] [] _ _)
  obtain ⟨za, e⟩ := ky_chkE e
  refine v_aload_n (i := 0) (j := 0) rfl rfl (?_ : ky_V _ _ _ 1 _ _ _ _)
  refine v_iload_n (i := 1) (j := 3) rfl rfl (?_ : ky_V _ _ _ 2 _ _ _ _)
  refine v_if_eq (tgt := 16) (i := 2) rfl (by decide) (fun c1 => ?_) (fun c1 => ?_)
  · replace e := ky_ifT c1 e
    refine v_aload_n (i := 10) (j := 0) rfl rfl (?_ : ky_V _ _ _ 17 _ _ _ _)
    refine gf_X8_15 rfl (i := 11) rfl (oc_X8 hm (ly_X8_c za)) (sk_rf (ly_X8_r1 za)) (?_ : ky_V _ _ _ 20 _ (.ref (a + 2) :: _) _ _)
    refine v_iload_n (i := 12) (j := 1) rfl rfl (?_ : ky_V _ _ _ 21 _ _ _ _)
    obtain ⟨z2, e⟩ := ky_chkE e
    refine v_iald (i := 13) rfl (oa_21 hm (ly_X8_k1 za)) (ky_inb z2) (?_ : ky_V _ _ _ 22 _ (.int (sk_c s (a + 2) (Int32.toNatClampNeg p1)) :: _) _ _)
    obtain ⟨⟨q4, x5⟩, g6, e⟩ := Option.bind_eq_some_iff.mp e
    refine cl_X8_60 (As := [.int ((sk_c s (a + 2) (Int32.toNatClampNeg p1)))]) rfl (i := 14) rfl (oc_X8 hm (ly_X8_c za)) rfl rfl (Nat.le_of_ble_eq_true rfl) (k_X8_bearing N hG hm g6 (fun h3 hmh3 frh3 => ⟨_, rfl, (?_ : ky_V _ _ _ 25 _ [.long x5] _ _)⟩))
    have frh3 := fr.tr frh3
    refine v_lstore (L' := [(0, .ref a), (1, .int p1), (2, .int p2), (3, .int p3), (4, .long x5)]) [1, 2, 3, 4, 0] (i := 15) rfl (Nat.le_of_ble_eq_true rfl) rfl (?_ : ky_V _ _ _ 27 _ _ _ _)
    refine v_lconst (v := 1) (i := 16) rfl (by decide) (?_ : ky_V _ _ _ 28 _ _ _ _)
    refine v_aload_n (i := 17) (j := 0) rfl rfl (?_ : ky_V _ _ _ 29 _ _ _ _)
    refine gf_X8_18 rfl (i := 18) rfl (oc_X8 hmh3 (ly_X8_c (lt_X8 frh3 za))) (sk_rf (ly_X8_r2 (lt_X8 frh3 za))) (?_ : ky_V _ _ _ 32 _ (.ref (a + 3) :: _) _ _)
    refine v_iload_n (i := 19) (j := 1) rfl rfl (?_ : ky_V _ _ _ 33 _ _ _ _)
    refine v_iald (i := 20) rfl (oa_21 hmh3 (ly_X8_k2 (lt_X8 frh3 za))) (ky_inb z2) (?_ : ky_V _ _ _ 34 _ (.int (sk_c q4 (a + 3) (Int32.toNatClampNeg p1)) :: _) _ _)
    refine v_lshl (i := 21) rfl rfl (?_ : ky_V _ _ _ 35 _ _ _ _)
    refine v_topl (fun x7 ex7 => ?_)
    replace e := ky_letE ex7 e
    refine v_lstore (L' := [(0, .ref a), (1, .int p1), (2, .int p2), (3, .int p3), (4, .long x5), (6, .long x7)]) [1, 2, 3, 4, 5, 0] (i := 22) rfl (Nat.le_of_ble_eq_true rfl) rfl (?_ : ky_V _ _ _ 37 _ _ _ _)
    refine v_iconst (v := 0) (i := 23) rfl (by decide) (?_ : ky_V _ _ _ 38 _ _ _ _)
    refine v_istore (L' := [(0, .ref a), (1, .int p1), (2, .int p2), (3, .int p3), (4, .long x5), (6, .long x7), (8, .int 0)]) [1, 2, 3, 4, 5, 6, 0] (i := 24) rfl (Nat.le_of_ble_eq_true rfl) rfl (?_ : ky_V _ _ _ 40 _ _ _ _)
    refine lv_X8_steps_40 N hG a za hm _ hr (fun h8 q9 x10 x11 x12 x13 x14 x15 hmh8 frh8 e => ?_) N h3 q4 p1 p2 p3 x5 x7 0 hmh3 frh3 e
    refine v_iconst (v := (-1)) (i := 43) rfl (by decide) (?_ : ky_V _ _ _ 79 _ _ _ _)
    refine v_iret (v := (-1)) (ty := .int) (i := 44) rfl rfl rfl ?_
    obtain ⟨rfl, rfl⟩ := ky_leaf e
    exact hr _ hmh8 frh8
  · replace e := ky_ifF c1 e
    refine v_aload_n (i := 3) (j := 0) rfl rfl (?_ : ky_V _ _ _ 6 _ _ _ _)
    refine gf_X8_15 rfl (i := 4) rfl (oc_X8 hm (ly_X8_c za)) (sk_rf (ly_X8_r1 za)) (?_ : ky_V _ _ _ 9 _ (.ref (a + 2) :: _) _ _)
    refine v_iload_n (i := 5) (j := 1) rfl rfl (?_ : ky_V _ _ _ 10 _ _ _ _)
    obtain ⟨z16, e⟩ := ky_chkE e
    refine v_iald (i := 6) rfl (oa_21 hm (ly_X8_k1 za)) (ky_inb z16) (?_ : ky_V _ _ _ 11 _ (.int (sk_c s (a + 2) (Int32.toNatClampNeg p1)) :: _) _ _)
    refine v_iconst (v := 1) (i := 7) rfl (by decide) (?_ : ky_V _ _ _ 12 _ _ _ _)
    refine v_isub (i := 8) rfl (?_ : ky_V _ _ _ 13 _ _ _ _)
    refine v_goto (tgt := 22) (i := 9) rfl (by decide) (?_ : ky_V _ _ _ 22 _ _ _ _)
    obtain ⟨⟨q18, x19⟩, g20, e⟩ := Option.bind_eq_some_iff.mp e
    refine cl_X8_60 (As := [.int (((sk_c s (a + 2) (Int32.toNatClampNeg p1)) - 1))]) rfl (i := 14) rfl (oc_X8 hm (ly_X8_c za)) rfl rfl (Nat.le_of_ble_eq_true rfl) (k_X8_bearing N hG hm g20 (fun h17 hmh17 frh17 => ⟨_, rfl, (?_ : ky_V _ _ _ 25 _ [.long x19] _ _)⟩))
    have frh17 := fr.tr frh17
    refine v_lstore (L' := [(0, .ref a), (1, .int p1), (2, .int p2), (3, .int p3), (4, .long x19)]) [1, 2, 3, 4, 0] (i := 15) rfl (Nat.le_of_ble_eq_true rfl) rfl (?_ : ky_V _ _ _ 27 _ _ _ _)
    refine v_lconst (v := 1) (i := 16) rfl (by decide) (?_ : ky_V _ _ _ 28 _ _ _ _)
    refine v_aload_n (i := 17) (j := 0) rfl rfl (?_ : ky_V _ _ _ 29 _ _ _ _)
    refine gf_X8_18 rfl (i := 18) rfl (oc_X8 hmh17 (ly_X8_c (lt_X8 frh17 za))) (sk_rf (ly_X8_r2 (lt_X8 frh17 za))) (?_ : ky_V _ _ _ 32 _ (.ref (a + 3) :: _) _ _)
    refine v_iload_n (i := 19) (j := 1) rfl rfl (?_ : ky_V _ _ _ 33 _ _ _ _)
    refine v_iald (i := 20) rfl (oa_21 hmh17 (ly_X8_k2 (lt_X8 frh17 za))) (ky_inb z16) (?_ : ky_V _ _ _ 34 _ (.int (sk_c q18 (a + 3) (Int32.toNatClampNeg p1)) :: _) _ _)
    refine v_lshl (i := 21) rfl rfl (?_ : ky_V _ _ _ 35 _ _ _ _)
    refine v_topl (fun x21 ex21 => ?_)
    replace e := ky_letE ex21 e
    refine v_lstore (L' := [(0, .ref a), (1, .int p1), (2, .int p2), (3, .int p3), (4, .long x19), (6, .long x21)]) [1, 2, 3, 4, 5, 0] (i := 22) rfl (Nat.le_of_ble_eq_true rfl) rfl (?_ : ky_V _ _ _ 37 _ _ _ _)
    refine v_iconst (v := 0) (i := 23) rfl (by decide) (?_ : ky_V _ _ _ 38 _ _ _ _)
    refine v_istore (L' := [(0, .ref a), (1, .int p1), (2, .int p2), (3, .int p3), (4, .long x19), (6, .long x21), (8, .int 0)]) [1, 2, 3, 4, 5, 6, 0] (i := 24) rfl (Nat.le_of_ble_eq_true rfl) rfl (?_ : ky_V _ _ _ 40 _ _ _ _)
    refine lv_X8_steps_40 N hG a za hm _ hr (fun h22 q23 x24 x25 x26 x27 x28 x29 hmh22 frh22 e => ?_) N h17 q18 p1 p2 p3 x19 x21 0 hmh17 frh17 e
    refine v_iconst (v := (-1)) (i := 43) rfl (by decide) (?_ : ky_V _ _ _ 79 _ _ _ _)
    refine v_iret (v := (-1)) (ty := .int) (i := 44) rfl rfl rfl ?_
    obtain ⟨rfl, rfl⟩ := ky_leaf e
    exact hr _ hmh22 frh22

def x8_heldTo_L2 (N : Nat)  (a : Nat) (k : sk_S → Int32 → Int32 → Int32 → Option (sk_S × Int32)) : Nat → sk_S → Int32 → Int32 → Int32 → Option (sk_S × Int32)
  | 0, _, _, _, _ => none
  | n + 1, c, p1, p2, p3 => (if (8 : Int32) ≤ p3 then (k c p1 p2 p3) else (if ky_inB (sh_cellAt p3 p1) 64 = true then (if (sk_c c (a + 1) (Int32.toNatClampNeg (sh_cellAt p3 p1))) < p2 then (k c p1 p2 p3) else (ky_let (p3 + 1) (fun x4 => (x8_heldTo_L2 N a k n c p1 p2 x4)))) else none))
set_option maxRecDepth 20000 in
set_option maxHeartbeats 4000000 in
theorem lv_X8_heldTo_2 {G : ky_GW} {d : Nat} {s s9 : sk_S} {h0 : ky_HP} {Q : ky_RS → ky_HP → Prop} {r9 : Int32} (N : Nat) (hG : ky_OK G)  (a : Nat)   (za : lay_X8 (sk_K s) (sk_r s) a = true) (hm : sk_hp G s h0) (k : sk_S → Int32 → Int32 → Int32 → Option (sk_S × Int32)) (hr : ∀ h1, sk_hp G s9 h1 → sk_fr none s h0 s9 h1 → Q (.inl (some (.int r9))) h1)
    (hk : ∀ (h : ky_HP) (c : sk_S) (p1 : Int32) (p2 : Int32) (p3 : Int32), sk_hp G c h → sk_fr none s h0 c h → k c p1 p2 p3 = some (s9, r9) → ky_V G (d + 1) M_X8_heldTo 28 [(0, .ref a), (1, .int p1), (2, .int p2), (3, .int p3)] [] h Q) :
    ∀ (n : Nat) (h : ky_HP) (c : sk_S) (p1 : Int32) (p2 : Int32) (p3 : Int32), sk_hp G c h → sk_fr none s h0 c h → x8_heldTo_L2 N a k n c p1 p2 p3 = some (s9, r9) → ky_V G (d + 1) M_X8_heldTo 2 [(0, .ref a), (1, .int p1), (2, .int p2), (3, .int p3)] [] h Q := by
  intro n
  induction n with
  | zero => intro h c p1 p2 p3 hm1 fr e; cases e
  | succ n ih =>
    intro h c p1 p2 p3 hm1 fr e
    rw [x8_heldTo_L2] at e
    refine v_iload_n (i := 2) (j := 3) rfl rfl (?_ : ky_V _ _ _ 3 _ _ _ _)
    refine v_bipush (v := 8) (i := 3) rfl (by decide) (?_ : ky_V _ _ _ 5 _ _ _ _)
    refine v_icmp_ge (tgt := 28) (i := 4) rfl (by decide) (fun c1 => ?_) (fun c1 => ?_)
    · replace e := ky_ifT c1 e
      exact hk h c p1 p2 p3 hm1 fr e
    · replace e := ky_ifF c1 e
      refine v_aload_n (i := 5) (j := 0) rfl rfl (?_ : ky_V _ _ _ 9 _ _ _ _)
      refine gf_X8_9 rfl (i := 6) rfl (oc_X8 hm1 (ly_X8_c (lt_X8 fr za))) (sk_rf (ly_X8_r0 (lt_X8 fr za))) (?_ : ky_V _ _ _ 12 _ (.ref (a + 1) :: _) _ _)
      refine v_iload_n (i := 7) (j := 3) rfl rfl (?_ : ky_V _ _ _ 13 _ _ _ _)
      refine v_iload_n (i := 8) (j := 1) rfl rfl (?_ : ky_V _ _ _ 14 _ _ _ _)
      refine cl_X8_92 (As := [.int p3, .int p1]) rfl (i := 9) rfl rfl rfl (Nat.le_of_ble_eq_true rfl) (k_X8_cellAt p3 p1 ⟨_, rfl, (?_ : ky_V _ _ _ 17 _ [.int ((sh_cellAt p3 p1)), .ref ((a + 1))] _ _)⟩)
      obtain ⟨z2, e⟩ := ky_chkE e
      refine v_iald (i := 10) rfl (oa_21 hm1 (ly_X8_k0 (lt_X8 fr za))) (ky_inb z2) (?_ : ky_V _ _ _ 18 _ (.int (sk_c c (a + 1) (Int32.toNatClampNeg (sh_cellAt p3 p1))) :: _) _ _)
      refine v_iload_n (i := 11) (j := 2) rfl rfl (?_ : ky_V _ _ _ 19 _ _ _ _)
      refine v_icmp_lt (tgt := 28) (i := 12) rfl (by decide) (fun c3 => ?_) (fun c3 => ?_)
      · replace e := ky_ifT c3 e
        exact hk h c p1 p2 p3 hm1 fr e
      · replace e := ky_ifF c3 e
        obtain ⟨x4, ex4⟩ : ∃ z : Int32, z = p3 + 1 := ⟨_, rfl⟩
        replace e := ky_letE ex4 e
        refine v_iinc (v := x4) (j := 3) (L' := [(0, .ref a), (1, .int p1), (2, .int p2), (3, .int x4)]) [1, 2, 3, 0] (i := 13) rfl rfl (by rw [ex4]; rfl) (Nat.le_of_ble_eq_true rfl) rfl (?_ : ky_V _ _ _ 25 _ _ _ _)
        refine v_goto (tgt := 2) (i := 14) rfl (by decide) (?_ : ky_V _ _ _ 2 _ _ _ _)
        exact ih h c p1 p2 x4 hm1 fr e

def x8_heldTo (N : Nat)  (s : sk_S) (a : Nat) (p1 : Int32) (p2 : Int32) : Option (sk_S × Int32) := (if lay_X8 (sk_K s) (sk_r s) a = true then (x8_heldTo_L2 N a (fun q2 x3 x4 x5 => (some (q2, (x5 - 1)))) N s p1 p2 0) else none)
set_option maxRecDepth 20000 in
set_option maxHeartbeats 4000000 in
theorem k_X8_heldTo {G : ky_GW} {d : Nat} {h : ky_HP} {Q : ky_RS → ky_HP → Prop} {s s9 : sk_S} {r9 : Int32} {a : Nat} {p1 : Int32} {p2 : Int32} (N : Nat) (hG : ky_OK G)   (hm : sk_hp G s h)  (e : x8_heldTo N  s a p1 p2 = some (s9, r9)) (hr : ∀ h1, sk_hp G s9 h1 → sk_fr none s h s9 h1 → Q (.inl (some (.int r9))) h1) : ky_Call G (d + 1) M_X8_heldTo [.ref a, .int p1, .int p2] h Q := by
  refine ky_ofV (by decide +kernel) rfl ok_X8_heldTo (Nat.le_of_ble_eq_true rfl) ?_
  have fr : sk_fr none s h s h := sk_fr.rf
  unfold x8_heldTo at e
  refine (?_ : ky_V _ _ _ 0 [(0, .ref a), (1, .int p1), (2, .int p2)] [] _ _)
  obtain ⟨za, e⟩ := ky_chkE e
  refine v_iconst (v := 0) (i := 0) rfl (by decide) (?_ : ky_V _ _ _ 1 _ _ _ _)
  refine v_istore_n (L' := [(0, .ref a), (1, .int p1), (2, .int p2), (3, .int 0)]) [1, 2, 3, 0] (i := 1) rfl (Nat.le_of_ble_eq_true rfl) rfl (?_ : ky_V _ _ _ 2 _ _ _ _)
  refine lv_X8_heldTo_2 N hG a za hm _ hr (fun h1 q2 x3 x4 x5 hmh1 frh1 e => ?_) N h s p1 p2 0 hm fr e
  refine v_iload_n (i := 15) (j := 3) rfl rfl (?_ : ky_V _ _ _ 29 _ _ _ _)
  refine v_iconst (v := 1) (i := 16) rfl (by decide) (?_ : ky_V _ _ _ 30 _ _ _ _)
  refine v_isub (i := 17) rfl (?_ : ky_V _ _ _ 31 _ _ _ _)
  refine v_iret (v := (x5 - 1)) (ty := .int) (i := 18) rfl rfl rfl ?_
  obtain ⟨rfl, rfl⟩ := ky_leaf e
  exact hr _ hmh1 frh1

def x8_hundredths (N : Nat)  (s : sk_S) (p0 : Int64) (p2 : Int64) : Option (sk_S × Int32) := (ky_let (jl_bitCount p2) (fun x1 => (if x1 = 0 then (some (s, 0)) else (if ¬ x1 = 0 then (some (s, ((100 * (jl_bitCount p0)) / x1))) else none))))
set_option maxRecDepth 20000 in
set_option maxHeartbeats 4000000 in
theorem k_X8_hundredths {G : ky_GW} {d : Nat} {h : ky_HP} {Q : ky_RS → ky_HP → Prop} {s s9 : sk_S} {r9 : Int32} {p0 : Int64} {p2 : Int64} (N : Nat) (hG : ky_OK G)   (hm : sk_hp G s h)  (e : x8_hundredths N  s p0 p2 = some (s9, r9)) (hr : ∀ h1, sk_hp G s9 h1 → sk_fr none s h s9 h1 → Q (.inl (some (.int r9))) h1) : ky_Call G (d + 1) M_X8_hundredths [.long p0, .long p2] h Q := by
  refine ky_ofV (by decide +kernel) rfl ok_X8_hundredths (Nat.le_of_ble_eq_true rfl) ?_
  have fr : sk_fr none s h s h := sk_fr.rf
  unfold x8_hundredths at e
  refine (?_ : ky_V _ _ _ 0 [(0, .long p0), (2, .long p2)] [] _ _)
  refine v_lload_n (i := 0) (j := 1) rfl rfl (?_ : ky_V _ _ _ 1 _ _ _ _)
  refine cl_X8_99 (As := [.long p2]) rfl (i := 1) rfl rfl rfl (Nat.le_of_ble_eq_true rfl) (k_J13_bitCount_95d88 p2 ⟨_, rfl, (?_ : ky_V _ _ _ 4 _ [.int ((jl_bitCount p2))] _ _)⟩)
  refine v_topi (fun x1 ex1 => ?_)
  replace e := ky_letE ex1 e
  refine v_istore (L' := [(0, .long p0), (2, .long p2), (4, .int x1)]) [1, 2, 0] (i := 2) rfl (Nat.le_of_ble_eq_true rfl) rfl (?_ : ky_V _ _ _ 6 _ _ _ _)
  refine v_iload (i := 3) (j := 2) rfl rfl (?_ : ky_V _ _ _ 8 _ _ _ _)
  refine v_if_ne (tgt := 15) (i := 4) rfl (by decide) (fun c2 => ?_) (fun c2 => ?_)
  · replace e := ky_ifF c2 e
    refine v_bipush (v := 100) (i := 7) rfl (by decide) (?_ : ky_V _ _ _ 17 _ _ _ _)
    refine v_lload_n (i := 8) (j := 0) rfl rfl (?_ : ky_V _ _ _ 18 _ _ _ _)
    refine cl_X8_99 (As := [.long p0]) rfl (i := 9) rfl rfl rfl (Nat.le_of_ble_eq_true rfl) (k_J13_bitCount_95d88 p0 ⟨_, rfl, (?_ : ky_V _ _ _ 21 _ [.int ((jl_bitCount p0)), .int 100] _ _)⟩)
    refine v_imul (i := 10) rfl (?_ : ky_V _ _ _ 22 _ _ _ _)
    refine v_iload (i := 11) (j := 2) rfl rfl (?_ : ky_V _ _ _ 24 _ _ _ _)
    obtain ⟨z3, e⟩ := ky_chkE e
    refine v_idiv (i := 12) rfl z3 (?_ : ky_V _ _ _ 25 _ _ _ _)
    refine v_iret (v := ((100 * (jl_bitCount p0)) / x1)) (ty := .int) (i := 13) rfl rfl rfl ?_
    obtain ⟨rfl, rfl⟩ := ky_leaf e
    exact hr _ hm fr
  · replace e := ky_ifT c2 e
    refine v_iconst (v := 0) (i := 5) rfl (by decide) (?_ : ky_V _ _ _ 12 _ _ _ _)
    refine v_goto (tgt := 25) (i := 6) rfl (by decide) (?_ : ky_V _ _ _ 25 _ _ _ _)
    refine v_iret (v := 0) (ty := .int) (i := 13) rfl rfl rfl ?_
    obtain ⟨rfl, rfl⟩ := ky_leaf e
    exact hr _ hm fr

def x8_heapTells (N : Nat)  (s : sk_S) (a : Nat) (p1 : Int32) : Option (sk_S × Int32) := (if lay_X8 (sk_K s) (sk_r s) a = true then (ky_let ((sk_g s a 3) &&& ((sk_g s a 4) ^^^ (-1))) (fun x1 => ((x8_bearing N s a p1).bind (fun zz => (fun q3 x4 => ((x8_hundredths N q3 (x1 &&& x4) x1).bind (fun zz => (fun q7 x8 => (some (q7, x8))) zz.1 zz.2))) zz.1 zz.2)))) else none)
set_option maxRecDepth 20000 in
set_option maxHeartbeats 4000000 in
theorem k_X8_heapTells {G : ky_GW} {d : Nat} {h : ky_HP} {Q : ky_RS → ky_HP → Prop} {s s9 : sk_S} {r9 : Int32} {a : Nat} {p1 : Int32} (N : Nat) (hG : ky_OK G)   (hm : sk_hp G s h)  (e : x8_heapTells N  s a p1 = some (s9, r9)) (hr : ∀ h1, sk_hp G s9 h1 → sk_fr none s h s9 h1 → Q (.inl (some (.int r9))) h1) : ky_Call G (d + 2) M_X8_heapTells [.ref a, .int p1] h Q := by
  refine ky_ofV (by decide +kernel) rfl ok_X8_heapTells (Nat.le_of_ble_eq_true rfl) ?_
  have fr : sk_fr none s h s h := sk_fr.rf
  unfold x8_heapTells at e
  refine (?_ : ky_V _ _ _ 0 [(0, .ref a), (1, .int p1)] [] _ _)
  obtain ⟨za, e⟩ := ky_chkE e
  refine v_aload_n (i := 0) (j := 0) rfl rfl (?_ : ky_V _ _ _ 1 _ _ _ _)
  refine gf_X8_37 rfl (i := 1) rfl (oc_X8 hm (ly_X8_c za)) rfl (?_ : ky_V _ _ _ 4 _ _ _ _)
  refine v_aload_n (i := 2) (j := 0) rfl rfl (?_ : ky_V _ _ _ 5 _ _ _ _)
  refine gf_X8_41 rfl (i := 3) rfl (oc_X8 hm (ly_X8_c za)) rfl (?_ : ky_V _ _ _ 8 _ _ _ _)
  refine v_ldc2 (v := (-1)) (i := 4) rfl (ky_t3 (i := 93) rfl rfl) (?_ : ky_V _ _ _ 11 _ _ _ _)
  refine v_lxor (i := 5) rfl (?_ : ky_V _ _ _ 12 _ _ _ _)
  refine v_land (i := 6) rfl (?_ : ky_V _ _ _ 13 _ _ _ _)
  refine v_topl (fun x1 ex1 => ?_)
  replace e := ky_letE ex1 e
  refine v_lstore_n (L' := [(0, .ref a), (1, .int p1), (2, .long x1)]) [1, 2, 0] (i := 7) rfl (Nat.le_of_ble_eq_true rfl) rfl (?_ : ky_V _ _ _ 14 _ _ _ _)
  refine v_lload_n (i := 8) (j := 2) rfl rfl (?_ : ky_V _ _ _ 15 _ _ _ _)
  refine v_aload_n (i := 9) (j := 0) rfl rfl (?_ : ky_V _ _ _ 16 _ _ _ _)
  refine v_iload_n (i := 10) (j := 1) rfl rfl (?_ : ky_V _ _ _ 17 _ _ _ _)
  obtain ⟨⟨q3, x4⟩, g5, e⟩ := Option.bind_eq_some_iff.mp e
  refine cl_X8_60 (As := [.int p1]) rfl (i := 11) rfl (oc_X8 hm (ly_X8_c za)) rfl rfl (Nat.le_of_ble_eq_true rfl) (k_X8_bearing N hG hm g5 (fun h2 hmh2 frh2 => ⟨_, rfl, (?_ : ky_V _ _ _ 20 _ [.long x4, .long x1] _ _)⟩))
  have frh2 := fr.tr frh2
  refine v_land (i := 12) rfl (?_ : ky_V _ _ _ 21 _ _ _ _)
  refine v_lload_n (i := 13) (j := 2) rfl rfl (?_ : ky_V _ _ _ 22 _ _ _ _)
  obtain ⟨⟨q7, x8⟩, g9, e⟩ := Option.bind_eq_some_iff.mp e
  refine cl_X8_95 (As := [.long ((x1 &&& x4)), .long x1]) rfl (i := 14) rfl rfl rfl (Nat.le_of_ble_eq_true rfl) (k_X8_hundredths N hG hmh2 g9 (fun h6 hmh6 frh6 => ⟨_, rfl, (?_ : ky_V _ _ _ 25 _ [.int x8] _ _)⟩))
  have frh6 := frh2.tr frh6
  refine v_iret (v := x8) (ty := .int) (i := 15) rfl rfl rfl ?_
  obtain ⟨rfl, rfl⟩ := ky_leaf e
  exact hr _ hmh6 frh6

def x8_heavierBy_L5 (N : Nat)  (a : Nat) (k : sk_S → Int32 → Int32 → Int32 → Int32 → Option (sk_S × Int32)) : Nat → sk_S → Int32 → Int32 → Int32 → Int32 → Option (sk_S × Int32)
  | 0, _, _, _, _, _ => none
  | n + 1, c, p1, p2, p3, p4 => (if (sk_c c a 6) ≤ p4 then (k c p1 p2 p3 p4) else (if ky_inB p4 6 = true then (if ky_inB p1 64 = true then (if ((sk_c c (a + 2) (Int32.toNatClampNeg p4)) - (sk_c c (a + 1) (Int32.toNatClampNeg p1))) = p2 then (ky_let (p3 ||| ((1 : Int32) <<< (p4 &&& 31))) (fun x6 => (ky_let (p4 + 1) (fun x7 => (x8_heavierBy_L5 N a k n c p1 p2 x6 x7))))) else (ky_let (p4 + 1) (fun x5 => (x8_heavierBy_L5 N a k n c p1 p2 p3 x5)))) else none) else none))
set_option maxRecDepth 20000 in
set_option maxHeartbeats 4000000 in
theorem lv_X8_heavierBy_5 {G : ky_GW} {d : Nat} {s s9 : sk_S} {h0 : ky_HP} {Q : ky_RS → ky_HP → Prop} {r9 : Int32} (N : Nat) (hG : ky_OK G)  (a : Nat)   (za : lay_X8 (sk_K s) (sk_r s) a = true) (hm : sk_hp G s h0) (k : sk_S → Int32 → Int32 → Int32 → Int32 → Option (sk_S × Int32)) (hr : ∀ h1, sk_hp G s9 h1 → sk_fr none s h0 s9 h1 → Q (.inl (some (.int r9))) h1)
    (hk : ∀ (h : ky_HP) (c : sk_S) (p1 : Int32) (p2 : Int32) (p3 : Int32) (p4 : Int32), sk_hp G c h → sk_fr none s h0 c h → k c p1 p2 p3 p4 = some (s9, r9) → ky_V G d M_X8_heavierBy 45 [(0, .ref a), (1, .int p1), (2, .int p2), (3, .int p3), (4, .int p4)] [] h Q) :
    ∀ (n : Nat) (h : ky_HP) (c : sk_S) (p1 : Int32) (p2 : Int32) (p3 : Int32) (p4 : Int32), sk_hp G c h → sk_fr none s h0 c h → x8_heavierBy_L5 N a k n c p1 p2 p3 p4 = some (s9, r9) → ky_V G d M_X8_heavierBy 5 [(0, .ref a), (1, .int p1), (2, .int p2), (3, .int p3), (4, .int p4)] [] h Q := by
  intro n
  induction n with
  | zero => intro h c p1 p2 p3 p4 hm1 fr e; cases e
  | succ n ih =>
    intro h c p1 p2 p3 p4 hm1 fr e
    rw [x8_heavierBy_L5] at e
    refine v_iload (i := 4) (j := 4) rfl rfl (?_ : ky_V _ _ _ 7 _ _ _ _)
    refine v_aload_n (i := 5) (j := 0) rfl rfl (?_ : ky_V _ _ _ 8 _ _ _ _)
    refine gf_X8_44 rfl (i := 6) rfl (oc_X8 hm1 (ly_X8_c (lt_X8 fr za))) rfl (?_ : ky_V _ _ _ 11 _ _ _ _)
    refine v_icmp_ge (tgt := 45) (i := 7) rfl (by decide) (fun c1 => ?_) (fun c1 => ?_)
    · replace e := ky_ifT c1 e
      exact hk h c p1 p2 p3 p4 hm1 fr e
    · replace e := ky_ifF c1 e
      refine v_aload_n (i := 8) (j := 0) rfl rfl (?_ : ky_V _ _ _ 15 _ _ _ _)
      refine gf_X8_15 rfl (i := 9) rfl (oc_X8 hm1 (ly_X8_c (lt_X8 fr za))) (sk_rf (ly_X8_r1 (lt_X8 fr za))) (?_ : ky_V _ _ _ 18 _ (.ref (a + 2) :: _) _ _)
      refine v_iload (i := 10) (j := 4) rfl rfl (?_ : ky_V _ _ _ 20 _ _ _ _)
      obtain ⟨z2, e⟩ := ky_chkE e
      refine v_iald (i := 11) rfl (oa_21 hm1 (ly_X8_k1 (lt_X8 fr za))) (ky_inb z2) (?_ : ky_V _ _ _ 21 _ (.int (sk_c c (a + 2) (Int32.toNatClampNeg p4)) :: _) _ _)
      refine v_aload_n (i := 12) (j := 0) rfl rfl (?_ : ky_V _ _ _ 22 _ _ _ _)
      refine gf_X8_9 rfl (i := 13) rfl (oc_X8 hm1 (ly_X8_c (lt_X8 fr za))) (sk_rf (ly_X8_r0 (lt_X8 fr za))) (?_ : ky_V _ _ _ 25 _ (.ref (a + 1) :: _) _ _)
      refine v_iload_n (i := 14) (j := 1) rfl rfl (?_ : ky_V _ _ _ 26 _ _ _ _)
      obtain ⟨z3, e⟩ := ky_chkE e
      refine v_iald (i := 15) rfl (oa_21 hm1 (ly_X8_k0 (lt_X8 fr za))) (ky_inb z3) (?_ : ky_V _ _ _ 27 _ (.int (sk_c c (a + 1) (Int32.toNatClampNeg p1)) :: _) _ _)
      refine v_isub (i := 16) rfl (?_ : ky_V _ _ _ 28 _ _ _ _)
      refine v_iload_n (i := 17) (j := 2) rfl rfl (?_ : ky_V _ _ _ 29 _ _ _ _)
      refine v_icmp_ne (tgt := 39) (i := 18) rfl (by decide) (fun c4 => ?_) (fun c4 => ?_)
      · replace e := ky_ifF c4 e
        obtain ⟨x5, ex5⟩ : ∃ z : Int32, z = p4 + 1 := ⟨_, rfl⟩
        replace e := ky_letE ex5 e
        refine v_iinc (v := x5) (j := 4) (L' := [(0, .ref a), (1, .int p1), (2, .int p2), (3, .int p3), (4, .int x5)]) [1, 2, 3, 4, 0] (i := 25) rfl rfl (by rw [ex5]; rfl) (Nat.le_of_ble_eq_true rfl) rfl (?_ : ky_V _ _ _ 42 _ _ _ _)
        refine v_goto (tgt := 5) (i := 26) rfl (by decide) (?_ : ky_V _ _ _ 5 _ _ _ _)
        exact ih h c p1 p2 p3 x5 hm1 fr e
      · replace e := ky_ifT c4 e
        refine v_iload_n (i := 19) (j := 3) rfl rfl (?_ : ky_V _ _ _ 33 _ _ _ _)
        refine v_iconst (v := 1) (i := 20) rfl (by decide) (?_ : ky_V _ _ _ 34 _ _ _ _)
        refine v_iload (i := 21) (j := 4) rfl rfl (?_ : ky_V _ _ _ 36 _ _ _ _)
        refine v_ishl (i := 22) rfl (?_ : ky_V _ _ _ 37 _ _ _ _)
        refine v_ior (i := 23) rfl (?_ : ky_V _ _ _ 38 _ _ _ _)
        refine v_topi (fun x6 ex6 => ?_)
        replace e := ky_letE ex6 e
        refine v_istore_n (L' := [(0, .ref a), (1, .int p1), (2, .int p2), (3, .int x6), (4, .int p4)]) [1, 2, 3, 0, 4] (i := 24) rfl (Nat.le_of_ble_eq_true rfl) rfl (?_ : ky_V _ _ _ 39 _ _ _ _)
        obtain ⟨x7, ex7⟩ : ∃ z : Int32, z = p4 + 1 := ⟨_, rfl⟩
        replace e := ky_letE ex7 e
        refine v_iinc (v := x7) (j := 4) (L' := [(0, .ref a), (1, .int p1), (2, .int p2), (3, .int x6), (4, .int x7)]) [1, 2, 3, 4, 0] (i := 25) rfl rfl (by rw [ex7]; rfl) (Nat.le_of_ble_eq_true rfl) rfl (?_ : ky_V _ _ _ 42 _ _ _ _)
        refine v_goto (tgt := 5) (i := 26) rfl (by decide) (?_ : ky_V _ _ _ 5 _ _ _ _)
        exact ih h c p1 p2 x6 x7 hm1 fr e

def x8_heavierBy (N : Nat)  (s : sk_S) (a : Nat) (p1 : Int32) (p2 : Int32) : Option (sk_S × Int32) := (if lay_X8 (sk_K s) (sk_r s) a = true then (x8_heavierBy_L5 N a (fun q2 x3 x4 x5 x6 => (some (q2, x5))) N s p1 p2 0 0) else none)
set_option maxRecDepth 20000 in
set_option maxHeartbeats 4000000 in
theorem k_X8_heavierBy {G : ky_GW} {d : Nat} {h : ky_HP} {Q : ky_RS → ky_HP → Prop} {s s9 : sk_S} {r9 : Int32} {a : Nat} {p1 : Int32} {p2 : Int32} (N : Nat) (hG : ky_OK G)   (hm : sk_hp G s h)  (e : x8_heavierBy N  s a p1 p2 = some (s9, r9)) (hr : ∀ h1, sk_hp G s9 h1 → sk_fr none s h s9 h1 → Q (.inl (some (.int r9))) h1) : ky_Call G d M_X8_heavierBy [.ref a, .int p1, .int p2] h Q := by
  refine ky_ofV (by decide +kernel) rfl ok_X8_heavierBy (Nat.le_of_ble_eq_true rfl) ?_
  have fr : sk_fr none s h s h := sk_fr.rf
  unfold x8_heavierBy at e
  refine (?_ : ky_V _ _ _ 0 [(0, .ref a), (1, .int p1), (2, .int p2)] [] _ _)
  obtain ⟨za, e⟩ := ky_chkE e
  refine v_iconst (v := 0) (i := 0) rfl (by decide) (?_ : ky_V _ _ _ 1 _ _ _ _)
  refine v_istore_n (L' := [(0, .ref a), (1, .int p1), (2, .int p2), (3, .int 0)]) [1, 2, 3, 0] (i := 1) rfl (Nat.le_of_ble_eq_true rfl) rfl (?_ : ky_V _ _ _ 2 _ _ _ _)
  refine v_iconst (v := 0) (i := 2) rfl (by decide) (?_ : ky_V _ _ _ 3 _ _ _ _)
  refine v_istore (L' := [(0, .ref a), (1, .int p1), (2, .int p2), (3, .int 0), (4, .int 0)]) [1, 2, 3, 4, 0] (i := 3) rfl (Nat.le_of_ble_eq_true rfl) rfl (?_ : ky_V _ _ _ 5 _ _ _ _)
  refine lv_X8_heavierBy_5 N hG a za hm _ hr (fun h1 q2 x3 x4 x5 x6 hmh1 frh1 e => ?_) N h s p1 p2 0 0 hm fr e
  refine v_iload_n (i := 27) (j := 3) rfl rfl (?_ : ky_V _ _ _ 46 _ _ _ _)
  refine v_iret (v := x5) (ty := .int) (i := 28) rfl rfl rfl ?_
  obtain ⟨rfl, rfl⟩ := ky_leaf e
  exact hr _ hmh1 frh1

def x2_latestMoveOf_L2 (N : Nat)  (a : Nat) (k : sk_S → Int32 → Int32 → Option (sk_S × Int32)) : Nat → sk_S → Int32 → Int32 → Option (sk_S × Int32)
  | 0, _, _, _ => none
  | n + 1, c, p1, p2 => (if (sk_c c a 2) ≤ p2 then (k c p1 p2) else ((x2_row N c a p2).bind (fun zz => (fun q3 x4 => ((x2_part N q3 x4 2).bind (fun zz => (fun q7 x8 => (if x8 = p1 then ((x2_row N q7 a p2).bind (fun zz => (fun q13 x14 => ((x2_part N q13 x14 1).bind (fun zz => (fun q17 x18 => (some (q17, x18))) zz.1 zz.2))) zz.1 zz.2)) else (ky_let (p2 + 1) (fun x11 => (x2_latestMoveOf_L2 N a k n q7 p1 x11))))) zz.1 zz.2))) zz.1 zz.2)))
set_option maxRecDepth 20000 in
set_option maxHeartbeats 4000000 in
theorem lv_X2_latestMoveOf_2 {G : ky_GW} {d : Nat} {s s9 : sk_S} {h0 : ky_HP} {Q : ky_RS → ky_HP → Prop} {r9 : Int32} (N : Nat) (hG : ky_OK G)  (a : Nat)   (za : lay_X2 (sk_K s) (sk_r s) a = true) (hm : sk_hp G s h0) (k : sk_S → Int32 → Int32 → Option (sk_S × Int32)) (hr : ∀ h1, sk_hp G s9 h1 → sk_fr none s h0 s9 h1 → Q (.inl (some (.int r9))) h1)
    (hk : ∀ (h : ky_HP) (c : sk_S) (p1 : Int32) (p2 : Int32), sk_hp G c h → sk_fr none s h0 c h → k c p1 p2 = some (s9, r9) → ky_V G (d + 1) M_X2_latestMoveOf 39 [(0, .ref a), (1, .int p1), (2, .int p2)] [] h Q) :
    ∀ (n : Nat) (h : ky_HP) (c : sk_S) (p1 : Int32) (p2 : Int32), sk_hp G c h → sk_fr none s h0 c h → x2_latestMoveOf_L2 N a k n c p1 p2 = some (s9, r9) → ky_V G (d + 1) M_X2_latestMoveOf 2 [(0, .ref a), (1, .int p1), (2, .int p2)] [] h Q := by
  intro n
  induction n with
  | zero => intro h c p1 p2 hm1 fr e; cases e
  | succ n ih =>
    intro h c p1 p2 hm1 fr e
    rw [x2_latestMoveOf_L2] at e
    refine v_iload_n (i := 2) (j := 2) rfl rfl (?_ : ky_V _ _ _ 3 _ _ _ _)
    refine v_aload_n (i := 3) (j := 0) rfl rfl (?_ : ky_V _ _ _ 4 _ _ _ _)
    refine gf_X2_25 rfl (i := 4) rfl (oc_X2 hm1 (ly_X2_c (lt_X2 fr za))) rfl (?_ : ky_V _ _ _ 7 _ _ _ _)
    refine v_icmp_ge (tgt := 39) (i := 5) rfl (by decide) (fun c1 => ?_) (fun c1 => ?_)
    · replace e := ky_ifT c1 e
      exact hk h c p1 p2 hm1 fr e
    · replace e := ky_ifF c1 e
      refine v_aload_n (i := 6) (j := 0) rfl rfl (?_ : ky_V _ _ _ 11 _ _ _ _)
      refine v_iload_n (i := 7) (j := 2) rfl rfl (?_ : ky_V _ _ _ 12 _ _ _ _)
      obtain ⟨⟨q3, x4⟩, g5, e⟩ := Option.bind_eq_some_iff.mp e
      refine cl_X2_43 (As := [.int p2]) rfl (i := 8) rfl (oc_X2 hm1 (ly_X2_c (lt_X2 fr za))) rfl rfl (Nat.le_of_ble_eq_true rfl) (k_X2_row N hG hm1 g5 (fun h2 hmh2 frh2 => ⟨_, rfl, (?_ : ky_V _ _ _ 15 _ [.int x4] _ _)⟩))
      have frh2 := fr.tr frh2
      refine v_iconst (v := 2) (i := 9) rfl (by decide) (?_ : ky_V _ _ _ 16 _ _ _ _)
      obtain ⟨⟨q7, x8⟩, g9, e⟩ := Option.bind_eq_some_iff.mp e
      refine cl_X2_46 (As := [.int x4, .int 2]) rfl (i := 10) rfl rfl rfl (Nat.le_of_ble_eq_true rfl) (k_X2_part N hG hmh2 g9 (fun h6 hmh6 frh6 => ⟨_, rfl, (?_ : ky_V _ _ _ 19 _ [.int x8] _ _)⟩))
      have frh6 := frh2.tr frh6
      refine v_iload_n (i := 11) (j := 1) rfl rfl (?_ : ky_V _ _ _ 20 _ _ _ _)
      refine v_icmp_ne (tgt := 33) (i := 12) rfl (by decide) (fun c10 => ?_) (fun c10 => ?_)
      · replace e := ky_ifF c10 e
        obtain ⟨x11, ex11⟩ : ∃ z : Int32, z = p2 + 1 := ⟨_, rfl⟩
        replace e := ky_letE ex11 e
        refine v_iinc (v := x11) (j := 2) (L' := [(0, .ref a), (1, .int p1), (2, .int x11)]) [1, 2, 0] (i := 19) rfl rfl (by rw [ex11]; rfl) (Nat.le_of_ble_eq_true rfl) rfl (?_ : ky_V _ _ _ 36 _ _ _ _)
        refine v_goto (tgt := 2) (i := 20) rfl (by decide) (?_ : ky_V _ _ _ 2 _ _ _ _)
        exact ih h6 q7 p1 x11 hmh6 frh6 e
      · replace e := ky_ifT c10 e
        refine v_aload_n (i := 13) (j := 0) rfl rfl (?_ : ky_V _ _ _ 24 _ _ _ _)
        refine v_iload_n (i := 14) (j := 2) rfl rfl (?_ : ky_V _ _ _ 25 _ _ _ _)
        obtain ⟨⟨q13, x14⟩, g15, e⟩ := Option.bind_eq_some_iff.mp e
        refine cl_X2_43 (As := [.int p2]) rfl (i := 15) rfl (oc_X2 hmh6 (ly_X2_c (lt_X2 frh6 za))) rfl rfl (Nat.le_of_ble_eq_true rfl) (k_X2_row N hG hmh6 g15 (fun h12 hmh12 frh12 => ⟨_, rfl, (?_ : ky_V _ _ _ 28 _ [.int x14] _ _)⟩))
        have frh12 := frh6.tr frh12
        refine v_iconst (v := 1) (i := 16) rfl (by decide) (?_ : ky_V _ _ _ 29 _ _ _ _)
        obtain ⟨⟨q17, x18⟩, g19, e⟩ := Option.bind_eq_some_iff.mp e
        refine cl_X2_46 (As := [.int x14, .int 1]) rfl (i := 17) rfl rfl rfl (Nat.le_of_ble_eq_true rfl) (k_X2_part N hG hmh12 g19 (fun h16 hmh16 frh16 => ⟨_, rfl, (?_ : ky_V _ _ _ 32 _ [.int x18] _ _)⟩))
        have frh16 := frh12.tr frh16
        refine v_iret (v := x18) (ty := .int) (i := 18) rfl rfl rfl ?_
        obtain ⟨rfl, rfl⟩ := ky_leaf e
        exact hr _ hmh16 frh16

def x2_latestMoveOf (N : Nat)  (s : sk_S) (a : Nat) (p1 : Int32) : Option (sk_S × Int32) := (if lay_X2 (sk_K s) (sk_r s) a = true then (x2_latestMoveOf_L2 N a (fun q2 x3 x4 => (some (q2, (-1)))) N s p1 0) else none)
set_option maxRecDepth 20000 in
set_option maxHeartbeats 4000000 in
theorem k_X2_latestMoveOf {G : ky_GW} {d : Nat} {h : ky_HP} {Q : ky_RS → ky_HP → Prop} {s s9 : sk_S} {r9 : Int32} {a : Nat} {p1 : Int32} (N : Nat) (hG : ky_OK G)   (hm : sk_hp G s h)  (e : x2_latestMoveOf N  s a p1 = some (s9, r9)) (hr : ∀ h1, sk_hp G s9 h1 → sk_fr none s h s9 h1 → Q (.inl (some (.int r9))) h1) : ky_Call G (d + 1) M_X2_latestMoveOf [.ref a, .int p1] h Q := by
  refine ky_ofV (by decide +kernel) rfl ok_X2_latestMoveOf (Nat.le_of_ble_eq_true rfl) ?_
  have fr : sk_fr none s h s h := sk_fr.rf
  unfold x2_latestMoveOf at e
  refine (?_ : ky_V _ _ _ 0 [(0, .ref a), (1, .int p1)] [] _ _)
  obtain ⟨za, e⟩ := ky_chkE e
  refine v_iconst (v := 0) (i := 0) rfl (by decide) (?_ : ky_V _ _ _ 1 _ _ _ _)
  refine v_istore_n (L' := [(0, .ref a), (1, .int p1), (2, .int 0)]) [1, 2, 0] (i := 1) rfl (Nat.le_of_ble_eq_true rfl) rfl (?_ : ky_V _ _ _ 2 _ _ _ _)
  refine lv_X2_latestMoveOf_2 N hG a za hm _ hr (fun h1 q2 x3 x4 hmh1 frh1 e => ?_) N h s p1 0 hm fr e
  refine v_iconst (v := (-1)) (i := 21) rfl (by decide) (?_ : ky_V _ _ _ 40 _ _ _ _)
  refine v_iret (v := (-1)) (ty := .int) (i := 22) rfl rfl rfl ?_
  obtain ⟨rfl, rfl⟩ := ky_leaf e
  exact hr _ hmh1 frh1

def x3_weigh_L74 (N : Nat)  (a : Nat) (k : sk_S → Int32 → Int32 → Int32 → Int32 → Int32 → Int32 → Int32 → Option (sk_S × Int32)) : Nat → sk_S → Int32 → Int32 → Int32 → Int32 → Int32 → Int32 → Int32 → Option (sk_S × Int32)
  | 0, _, _, _, _, _, _, _, _ => none
  | n + 1, c, p1, p2, p3, p4, p5, p6, p7 => (if (sk_c c a 0) ≤ p7 then (k c p1 p2 p3 p4 p5 p6 p7) else (if ky_inB p7 (sk_K c (a + 3)).2 = true then (if ky_inB (p7 + 1) (sk_K c (a + 3)).2 = true then ((x3_holds N c a (sk_c c (a + 3) (Int32.toNatClampNeg p7)) (sk_c c (a + 3) (Int32.toNatClampNeg (p7 + 1)))).bind (fun zz => (fun q5 x6 => (if x6 = 0 then (ky_let (p7 + 1) (fun x9 => (x3_weigh_L74 N a k n q5 p1 p2 p3 p4 p5 p6 x9))) else (if ky_inB p7 (sk_K q5 (a + 1)).2 = true then (ky_let (sk_c q5 (a + 1) (Int32.toNatClampNeg p7)) (fun x11 => (if x11 = 0 then (if ky_inB p7 (sk_K q5 (a + 2)).2 = true then (ky_let ((sk_c q5 a 7) + (sk_c q5 (a + 2) (Int32.toNatClampNeg p7))) (fun x14 => (ky_let (sk_wc q5 a 7 x14) (fun q16 => (ky_let (p7 + 1) (fun x17 => (x3_weigh_L74 N a k n q16 p1 p2 p3 p4 p5 p6 x17))))))) else none) else (if x11 = 1 then (if ky_inB p7 (sk_K q5 (a + 2)).2 = true then (ky_let ((sk_c q5 a 8) + (sk_c q5 (a + 2) (Int32.toNatClampNeg p7))) (fun x20 => (ky_let (sk_wc q5 a 8 x20) (fun q22 => (ky_let (p7 + 1) (fun x23 => (x3_weigh_L74 N a k n q22 p1 p2 p3 p4 p5 p6 x23))))))) else none) else (if x11 = 2 then (if ky_inB p7 (sk_K q5 (a + 2)).2 = true then (ky_let ((sk_c q5 a 9) + (sk_c q5 (a + 2) (Int32.toNatClampNeg p7))) (fun x26 => (ky_let (sk_wc q5 a 9 x26) (fun q28 => (ky_let (p7 + 1) (fun x29 => (x3_weigh_L74 N a k n q28 p1 p2 p3 p4 p5 p6 x29))))))) else none) else (if ky_inB p7 (sk_K q5 (a + 2)).2 = true then (ky_let ((sk_c q5 a 9) - (sk_c q5 (a + 2) (Int32.toNatClampNeg p7))) (fun x31 => (ky_let (sk_wc q5 a 9 x31) (fun q33 => (ky_let (p7 + 1) (fun x34 => (x3_weigh_L74 N a k n q33 p1 p2 p3 p4 p5 p6 x34))))))) else none)))))) else none))) zz.1 zz.2)) else none) else none))
set_option maxRecDepth 20000 in
set_option maxHeartbeats 4000000 in
theorem lv_X3_weigh_74 {G : ky_GW} {d : Nat} {s s9 : sk_S} {h0 : ky_HP} {Q : ky_RS → ky_HP → Prop} {r9 : Int32} (N : Nat) (hG : ky_OK G)  (a : Nat)   (za : lay_X3 (sk_K s) (sk_r s) a = true) (hm : sk_hp G s h0) (k : sk_S → Int32 → Int32 → Int32 → Int32 → Int32 → Int32 → Int32 → Option (sk_S × Int32)) (hr : ∀ h1, sk_hp G s9 h1 → sk_fr none s h0 s9 h1 → Q (.inl none) h1)
    (hk : ∀ (h : ky_HP) (c : sk_S) (p1 : Int32) (p2 : Int32) (p3 : Int32) (p4 : Int32) (p5 : Int32) (p6 : Int32) (p7 : Int32), sk_hp G c h → sk_fr none s h0 c h → k c p1 p2 p3 p4 p5 p6 p7 = some (s9, r9) → ky_V G (d + 1) M_X3_weigh 219 [(0, .ref a), (1, .int p1), (2, .int p2), (3, .int p3), (4, .int p4), (5, .int p5), (6, .int p6), (7, .int p7)] [] h Q) :
    ∀ (n : Nat) (h : ky_HP) (c : sk_S) (p1 : Int32) (p2 : Int32) (p3 : Int32) (p4 : Int32) (p5 : Int32) (p6 : Int32) (p7 : Int32), sk_hp G c h → sk_fr none s h0 c h → x3_weigh_L74 N a k n c p1 p2 p3 p4 p5 p6 p7 = some (s9, r9) → ky_V G (d + 1) M_X3_weigh 74 [(0, .ref a), (1, .int p1), (2, .int p2), (3, .int p3), (4, .int p4), (5, .int p5), (6, .int p6), (7, .int p7)] [] h Q := by
  intro n
  induction n with
  | zero => intro h c p1 p2 p3 p4 p5 p6 p7 hm1 fr e; cases e
  | succ n ih =>
    intro h c p1 p2 p3 p4 p5 p6 p7 hm1 fr e
    rw [x3_weigh_L74] at e
    refine v_iload (i := 46) (j := 7) rfl rfl (?_ : ky_V _ _ _ 76 _ _ _ _)
    refine v_aload_n (i := 47) (j := 0) rfl rfl (?_ : ky_V _ _ _ 77 _ _ _ _)
    refine gf_X3_13 rfl (i := 48) rfl (oc_X3 hm1 (ly_X3_c (lt_X3 fr za))) rfl (?_ : ky_V _ _ _ 80 _ _ _ _)
    refine v_icmp_ge (tgt := 219) (i := 49) rfl (by decide) (fun c1 => ?_) (fun c1 => ?_)
    · replace e := ky_ifT c1 e
      exact hk h c p1 p2 p3 p4 p5 p6 p7 hm1 fr e
    · replace e := ky_ifF c1 e
      refine v_aload_n (i := 50) (j := 0) rfl rfl (?_ : ky_V _ _ _ 84 _ _ _ _)
      refine v_aload_n (i := 51) (j := 0) rfl rfl (?_ : ky_V _ _ _ 85 _ _ _ _)
      refine gf_X3_23 rfl (i := 52) rfl (oc_X3 hm1 (ly_X3_c (lt_X3 fr za))) (sk_rf (ly_X3_r3 (lt_X3 fr za))) (?_ : ky_V _ _ _ 88 _ (.ref (a + 3) :: _) _ _)
      refine v_iload (i := 53) (j := 7) rfl rfl (?_ : ky_V _ _ _ 90 _ _ _ _)
      obtain ⟨z2, e⟩ := ky_chkE e
      refine v_iald (i := 54) rfl (ox_21 hm1 (ly_X3_k3 (lt_X3 fr za))) (ky_inb z2) (?_ : ky_V _ _ _ 91 _ (.int (sk_c c (a + 3) (Int32.toNatClampNeg p7)) :: _) _ _)
      refine v_aload_n (i := 55) (j := 0) rfl rfl (?_ : ky_V _ _ _ 92 _ _ _ _)
      refine gf_X3_23 rfl (i := 56) rfl (oc_X3 hm1 (ly_X3_c (lt_X3 fr za))) (sk_rf (ly_X3_r3 (lt_X3 fr za))) (?_ : ky_V _ _ _ 95 _ (.ref (a + 3) :: _) _ _)
      refine v_iload (i := 57) (j := 7) rfl rfl (?_ : ky_V _ _ _ 97 _ _ _ _)
      refine v_iconst (v := 1) (i := 58) rfl (by decide) (?_ : ky_V _ _ _ 98 _ _ _ _)
      refine v_iadd (i := 59) rfl (?_ : ky_V _ _ _ 99 _ _ _ _)
      obtain ⟨z3, e⟩ := ky_chkE e
      refine v_iald (i := 60) rfl (ox_21 hm1 (ly_X3_k3 (lt_X3 fr za))) (ky_inb z3) (?_ : ky_V _ _ _ 100 _ (.int (sk_c c (a + 3) (Int32.toNatClampNeg (p7 + 1))) :: _) _ _)
      obtain ⟨⟨q5, x6⟩, g7, e⟩ := Option.bind_eq_some_iff.mp e
      refine cl_X3_49 (As := [.int ((sk_c c (a + 3) (Int32.toNatClampNeg p7))), .int ((sk_c c (a + 3) (Int32.toNatClampNeg (p7 + 1))))]) rfl (i := 61) rfl (oc_X3 hm1 (ly_X3_c (lt_X3 fr za))) rfl rfl (Nat.le_of_ble_eq_true rfl) (k_X3_holds N hG hm1 g7 (fun h4 hmh4 frh4 => ⟨_, rfl, (?_ : ky_V _ _ _ 103 _ [.int x6] _ _)⟩))
      have frh4 := fr.tr frh4
      refine v_if_eq (tgt := 213) (i := 62) rfl (by decide) (fun c8 => ?_) (fun c8 => ?_)
      · replace e := ky_ifT c8 e
        obtain ⟨x9, ex9⟩ : ∃ z : Int32, z = p7 + 1 := ⟨_, rfl⟩
        replace e := ky_letE ex9 e
        refine v_iinc (v := x9) (j := 7) (L' := [(0, .ref a), (1, .int p1), (2, .int p2), (3, .int p3), (4, .int p4), (5, .int p5), (6, .int p6), (7, .int x9)]) [1, 2, 3, 4, 5, 6, 7, 0] (i := 107) rfl rfl (by rw [ex9]; rfl) (Nat.le_of_ble_eq_true rfl) rfl (?_ : ky_V _ _ _ 216 _ _ _ _)
        refine v_goto (tgt := 74) (i := 108) rfl (by decide) (?_ : ky_V _ _ _ 74 _ _ _ _)
        exact ih h4 q5 p1 p2 p3 p4 p5 p6 x9 hmh4 frh4 e
      · replace e := ky_ifF c8 e
        refine v_aload_n (i := 63) (j := 0) rfl rfl (?_ : ky_V _ _ _ 107 _ _ _ _)
        refine gf_X3_17 rfl (i := 64) rfl (oc_X3 hmh4 (ly_X3_c (lt_X3 frh4 za))) (sk_rf (ly_X3_r1 (lt_X3 frh4 za))) (?_ : ky_V _ _ _ 110 _ (.ref (a + 1) :: _) _ _)
        refine v_iload (i := 65) (j := 7) rfl rfl (?_ : ky_V _ _ _ 112 _ _ _ _)
        obtain ⟨z10, e⟩ := ky_chkE e
        refine v_iald (i := 66) rfl (ox_21 hmh4 (ly_X3_k1 (lt_X3 frh4 za))) (ky_inb z10) (?_ : ky_V _ _ _ 113 _ (.int (sk_c q5 (a + 1) (Int32.toNatClampNeg p7)) :: _) _ _)
        refine v_topi (fun x11 ex11 => ?_)
        replace e := ky_letE ex11 e
        rcases Classical.em (x11 = 0) with c12 | c12
        · replace e := ky_ifT c12 e
          refine v_tableIn (off := 27) (tgt := 140) (i := 67) rfl (by rw [c12]; decide) (by rw [c12]; decide) (by rw [c12]; rfl) (by decide) ?_
          refine v_aload_n (i := 68) (j := 0) rfl rfl (?_ : ky_V _ _ _ 141 _ _ _ _)
          refine v_dup (i := 69) rfl rfl (?_ : ky_V _ _ _ 142 _ _ _ _)
          refine gf_X3_40 rfl (i := 70) rfl (oc_X3 hmh4 (ly_X3_c (lt_X3 frh4 za))) rfl (?_ : ky_V _ _ _ 145 _ _ _ _)
          refine v_aload_n (i := 71) (j := 0) rfl rfl (?_ : ky_V _ _ _ 146 _ _ _ _)
          refine gf_X3_20 rfl (i := 72) rfl (oc_X3 hmh4 (ly_X3_c (lt_X3 frh4 za))) (sk_rf (ly_X3_r2 (lt_X3 frh4 za))) (?_ : ky_V _ _ _ 149 _ (.ref (a + 2) :: _) _ _)
          refine v_iload (i := 73) (j := 7) rfl rfl (?_ : ky_V _ _ _ 151 _ _ _ _)
          obtain ⟨z13, e⟩ := ky_chkE e
          refine v_iald (i := 74) rfl (ox_21 hmh4 (ly_X3_k2 (lt_X3 frh4 za))) (ky_inb z13) (?_ : ky_V _ _ _ 152 _ (.int (sk_c q5 (a + 2) (Int32.toNatClampNeg p7)) :: _) _ _)
          refine v_iadd (i := 75) rfl (?_ : ky_V _ _ _ 153 _ _ _ _)
          refine v_topi (fun x14 ex14 => ?_)
          replace e := ky_letE ex14 e
          refine pf_X3_40 rfl (i := 76) rfl (oc_X3 hmh4 (ly_X3_c (lt_X3 frh4 za))) (Nat.le_of_ble_eq_true rfl) rfl rfl ?_
          refine sk_stc (kd := 3) (n := 0) hmh4 frh4 (ly_X3_c (lt_X3 frh4 za)) 7 x14 (fun h15 hmh15 frh15 => ?_)
          obtain ⟨q16, eq16⟩ : ∃ z, z = (sk_wc q5 a 7 x14) := ⟨_, rfl⟩
          rw [← eq16] at hmh15 frh15
          replace e := ky_letE eq16 e
          refine (?_ : ky_V _ _ _ 156 _ _ _ _)
          refine v_goto (tgt := 213) (i := 77) rfl (by decide) (?_ : ky_V _ _ _ 213 _ _ _ _)
          obtain ⟨x17, ex17⟩ : ∃ z : Int32, z = p7 + 1 := ⟨_, rfl⟩
          replace e := ky_letE ex17 e
          refine v_iinc (v := x17) (j := 7) (L' := [(0, .ref a), (1, .int p1), (2, .int p2), (3, .int p3), (4, .int p4), (5, .int p5), (6, .int p6), (7, .int x17)]) [1, 2, 3, 4, 5, 6, 7, 0] (i := 107) rfl rfl (by rw [ex17]; rfl) (Nat.le_of_ble_eq_true rfl) rfl (?_ : ky_V _ _ _ 216 _ _ _ _)
          refine v_goto (tgt := 74) (i := 108) rfl (by decide) (?_ : ky_V _ _ _ 74 _ _ _ _)
          exact ih h15 q16 p1 p2 p3 p4 p5 p6 x17 hmh15 frh15 e
        · replace e := ky_ifF c12 e
          rcases Classical.em (x11 = 1) with c18 | c18
          · replace e := ky_ifT c18 e
            refine v_tableIn (off := 46) (tgt := 159) (i := 67) rfl (by rw [c18]; decide) (by rw [c18]; decide) (by rw [c18]; rfl) (by decide) ?_
            refine v_aload_n (i := 78) (j := 0) rfl rfl (?_ : ky_V _ _ _ 160 _ _ _ _)
            refine v_dup (i := 79) rfl rfl (?_ : ky_V _ _ _ 161 _ _ _ _)
            refine gf_X3_43 rfl (i := 80) rfl (oc_X3 hmh4 (ly_X3_c (lt_X3 frh4 za))) rfl (?_ : ky_V _ _ _ 164 _ _ _ _)
            refine v_aload_n (i := 81) (j := 0) rfl rfl (?_ : ky_V _ _ _ 165 _ _ _ _)
            refine gf_X3_20 rfl (i := 82) rfl (oc_X3 hmh4 (ly_X3_c (lt_X3 frh4 za))) (sk_rf (ly_X3_r2 (lt_X3 frh4 za))) (?_ : ky_V _ _ _ 168 _ (.ref (a + 2) :: _) _ _)
            refine v_iload (i := 83) (j := 7) rfl rfl (?_ : ky_V _ _ _ 170 _ _ _ _)
            obtain ⟨z19, e⟩ := ky_chkE e
            refine v_iald (i := 84) rfl (ox_21 hmh4 (ly_X3_k2 (lt_X3 frh4 za))) (ky_inb z19) (?_ : ky_V _ _ _ 171 _ (.int (sk_c q5 (a + 2) (Int32.toNatClampNeg p7)) :: _) _ _)
            refine v_iadd (i := 85) rfl (?_ : ky_V _ _ _ 172 _ _ _ _)
            refine v_topi (fun x20 ex20 => ?_)
            replace e := ky_letE ex20 e
            refine pf_X3_43 rfl (i := 86) rfl (oc_X3 hmh4 (ly_X3_c (lt_X3 frh4 za))) (Nat.le_of_ble_eq_true rfl) rfl rfl ?_
            refine sk_stc (kd := 3) (n := 0) hmh4 frh4 (ly_X3_c (lt_X3 frh4 za)) 8 x20 (fun h21 hmh21 frh21 => ?_)
            obtain ⟨q22, eq22⟩ : ∃ z, z = (sk_wc q5 a 8 x20) := ⟨_, rfl⟩
            rw [← eq22] at hmh21 frh21
            replace e := ky_letE eq22 e
            refine (?_ : ky_V _ _ _ 175 _ _ _ _)
            refine v_goto (tgt := 213) (i := 87) rfl (by decide) (?_ : ky_V _ _ _ 213 _ _ _ _)
            obtain ⟨x23, ex23⟩ : ∃ z : Int32, z = p7 + 1 := ⟨_, rfl⟩
            replace e := ky_letE ex23 e
            refine v_iinc (v := x23) (j := 7) (L' := [(0, .ref a), (1, .int p1), (2, .int p2), (3, .int p3), (4, .int p4), (5, .int p5), (6, .int p6), (7, .int x23)]) [1, 2, 3, 4, 5, 6, 7, 0] (i := 107) rfl rfl (by rw [ex23]; rfl) (Nat.le_of_ble_eq_true rfl) rfl (?_ : ky_V _ _ _ 216 _ _ _ _)
            refine v_goto (tgt := 74) (i := 108) rfl (by decide) (?_ : ky_V _ _ _ 74 _ _ _ _)
            exact ih h21 q22 p1 p2 p3 p4 p5 p6 x23 hmh21 frh21 e
          · replace e := ky_ifF c18 e
            rcases Classical.em (x11 = 2) with c24 | c24
            · replace e := ky_ifT c24 e
              refine v_tableIn (off := 65) (tgt := 178) (i := 67) rfl (by rw [c24]; decide) (by rw [c24]; decide) (by rw [c24]; rfl) (by decide) ?_
              refine v_aload_n (i := 88) (j := 0) rfl rfl (?_ : ky_V _ _ _ 179 _ _ _ _)
              refine v_dup (i := 89) rfl rfl (?_ : ky_V _ _ _ 180 _ _ _ _)
              refine gf_X3_46 rfl (i := 90) rfl (oc_X3 hmh4 (ly_X3_c (lt_X3 frh4 za))) rfl (?_ : ky_V _ _ _ 183 _ _ _ _)
              refine v_aload_n (i := 91) (j := 0) rfl rfl (?_ : ky_V _ _ _ 184 _ _ _ _)
              refine gf_X3_20 rfl (i := 92) rfl (oc_X3 hmh4 (ly_X3_c (lt_X3 frh4 za))) (sk_rf (ly_X3_r2 (lt_X3 frh4 za))) (?_ : ky_V _ _ _ 187 _ (.ref (a + 2) :: _) _ _)
              refine v_iload (i := 93) (j := 7) rfl rfl (?_ : ky_V _ _ _ 189 _ _ _ _)
              obtain ⟨z25, e⟩ := ky_chkE e
              refine v_iald (i := 94) rfl (ox_21 hmh4 (ly_X3_k2 (lt_X3 frh4 za))) (ky_inb z25) (?_ : ky_V _ _ _ 190 _ (.int (sk_c q5 (a + 2) (Int32.toNatClampNeg p7)) :: _) _ _)
              refine v_iadd (i := 95) rfl (?_ : ky_V _ _ _ 191 _ _ _ _)
              refine v_topi (fun x26 ex26 => ?_)
              replace e := ky_letE ex26 e
              refine pf_X3_46 rfl (i := 96) rfl (oc_X3 hmh4 (ly_X3_c (lt_X3 frh4 za))) (Nat.le_of_ble_eq_true rfl) rfl rfl ?_
              refine sk_stc (kd := 3) (n := 0) hmh4 frh4 (ly_X3_c (lt_X3 frh4 za)) 9 x26 (fun h27 hmh27 frh27 => ?_)
              obtain ⟨q28, eq28⟩ : ∃ z, z = (sk_wc q5 a 9 x26) := ⟨_, rfl⟩
              rw [← eq28] at hmh27 frh27
              replace e := ky_letE eq28 e
              refine (?_ : ky_V _ _ _ 194 _ _ _ _)
              refine v_goto (tgt := 213) (i := 97) rfl (by decide) (?_ : ky_V _ _ _ 213 _ _ _ _)
              obtain ⟨x29, ex29⟩ : ∃ z : Int32, z = p7 + 1 := ⟨_, rfl⟩
              replace e := ky_letE ex29 e
              refine v_iinc (v := x29) (j := 7) (L' := [(0, .ref a), (1, .int p1), (2, .int p2), (3, .int p3), (4, .int p4), (5, .int p5), (6, .int p6), (7, .int x29)]) [1, 2, 3, 4, 5, 6, 7, 0] (i := 107) rfl rfl (by rw [ex29]; rfl) (Nat.le_of_ble_eq_true rfl) rfl (?_ : ky_V _ _ _ 216 _ _ _ _)
              refine v_goto (tgt := 74) (i := 108) rfl (by decide) (?_ : ky_V _ _ _ 74 _ _ _ _)
              exact ih h27 q28 p1 p2 p3 p4 p5 p6 x29 hmh27 frh27 e
            · replace e := ky_ifF c24 e
              refine v_tableOut (tgt := 197) (i := 67) rfl (ky_swO (fun z h1 h2 => ?_)) (by decide) ?_
              · intro hz
                have h3 : z = 0 ∨ z = 1 ∨ z = 2 := by omega
                rcases h3 with h3 | h3 | h3 <;> subst h3
                · exact c12 (Int32.toInt_inj.mp (hz.trans (by decide)))
                · exact c18 (Int32.toInt_inj.mp (hz.trans (by decide)))
                · exact c24 (Int32.toInt_inj.mp (hz.trans (by decide)))
              · refine v_aload_n (i := 98) (j := 0) rfl rfl (?_ : ky_V _ _ _ 198 _ _ _ _)
                refine v_dup (i := 99) rfl rfl (?_ : ky_V _ _ _ 199 _ _ _ _)
                refine gf_X3_46 rfl (i := 100) rfl (oc_X3 hmh4 (ly_X3_c (lt_X3 frh4 za))) rfl (?_ : ky_V _ _ _ 202 _ _ _ _)
                refine v_aload_n (i := 101) (j := 0) rfl rfl (?_ : ky_V _ _ _ 203 _ _ _ _)
                refine gf_X3_20 rfl (i := 102) rfl (oc_X3 hmh4 (ly_X3_c (lt_X3 frh4 za))) (sk_rf (ly_X3_r2 (lt_X3 frh4 za))) (?_ : ky_V _ _ _ 206 _ (.ref (a + 2) :: _) _ _)
                refine v_iload (i := 103) (j := 7) rfl rfl (?_ : ky_V _ _ _ 208 _ _ _ _)
                obtain ⟨z30, e⟩ := ky_chkE e
                refine v_iald (i := 104) rfl (ox_21 hmh4 (ly_X3_k2 (lt_X3 frh4 za))) (ky_inb z30) (?_ : ky_V _ _ _ 209 _ (.int (sk_c q5 (a + 2) (Int32.toNatClampNeg p7)) :: _) _ _)
                refine v_isub (i := 105) rfl (?_ : ky_V _ _ _ 210 _ _ _ _)
                refine v_topi (fun x31 ex31 => ?_)
                replace e := ky_letE ex31 e
                refine pf_X3_46 rfl (i := 106) rfl (oc_X3 hmh4 (ly_X3_c (lt_X3 frh4 za))) (Nat.le_of_ble_eq_true rfl) rfl rfl ?_
                refine sk_stc (kd := 3) (n := 0) hmh4 frh4 (ly_X3_c (lt_X3 frh4 za)) 9 x31 (fun h32 hmh32 frh32 => ?_)
                obtain ⟨q33, eq33⟩ : ∃ z, z = (sk_wc q5 a 9 x31) := ⟨_, rfl⟩
                rw [← eq33] at hmh32 frh32
                replace e := ky_letE eq33 e
                refine (?_ : ky_V _ _ _ 213 _ _ _ _)
                obtain ⟨x34, ex34⟩ : ∃ z : Int32, z = p7 + 1 := ⟨_, rfl⟩
                replace e := ky_letE ex34 e
                refine v_iinc (v := x34) (j := 7) (L' := [(0, .ref a), (1, .int p1), (2, .int p2), (3, .int p3), (4, .int p4), (5, .int p5), (6, .int p6), (7, .int x34)]) [1, 2, 3, 4, 5, 6, 7, 0] (i := 107) rfl rfl (by rw [ex34]; rfl) (Nat.le_of_ble_eq_true rfl) rfl (?_ : ky_V _ _ _ 216 _ _ _ _)
                refine v_goto (tgt := 74) (i := 108) rfl (by decide) (?_ : ky_V _ _ _ 74 _ _ _ _)
                exact ih h32 q33 p1 p2 p3 p4 p5 p6 x34 hmh32 frh32 e

def x3_weigh (N : Nat)  (s : sk_S) (a : Nat) (p1 : Int32) (p2 : Int32) (p3 : Int32) (p4 : Int32) (p5 : Int32) (p6 : Int32) : Option (sk_S × Int32) := (if lay_X3 (sk_K s) (sk_r s) a = true then (ky_let (sk_wc s (a + 5) 0 p2) (fun q2 => (ky_let (sk_wc q2 (a + 5) 1 p3) (fun q4 => (ky_let (sk_wc q4 (a + 5) 2 p4) (fun q6 => (ky_let (po_thin p1) (fun x7 => (ky_let (sk_wc q6 (a + 5) 3 x7) (fun q9 => (ky_let (sk_wc q9 (a + 5) 4 p5) (fun q11 => (ky_let (sk_wc q11 (a + 5) 5 p6) (fun q13 => (ky_let (po_lying p1) (fun x14 => (ky_let (sk_wc q13 a 6 x14) (fun q16 => (ky_let (sk_wc q16 a 7 0) (fun q18 => (ky_let (sk_wc q18 a 8 0) (fun q20 => (ky_let (sk_wc q20 a 9 0) (fun q22 => (x3_weigh_L74 N a (fun q24 x25 x26 x27 x28 x29 x30 x31 => (some (q24, 0))) N q22 p1 p2 p3 p4 p5 p6 0))))))))))))))))))))))))) else none)
set_option maxRecDepth 20000 in
set_option maxHeartbeats 4000000 in
theorem k_X3_weigh {G : ky_GW} {d : Nat} {h : ky_HP} {Q : ky_RS → ky_HP → Prop} {s s9 : sk_S} {r9 : Int32} {a : Nat} {p1 : Int32} {p2 : Int32} {p3 : Int32} {p4 : Int32} {p5 : Int32} {p6 : Int32} (N : Nat) (hG : ky_OK G)   (hm : sk_hp G s h)  (e : x3_weigh N  s a p1 p2 p3 p4 p5 p6 = some (s9, r9)) (hr : ∀ h1, sk_hp G s9 h1 → sk_fr none s h s9 h1 → Q (.inl none) h1) : ky_Call G (d + 1) M_X3_weigh [.ref a, .int p1, .int p2, .int p3, .int p4, .int p5, .int p6] h Q := by
  refine ky_ofV (by decide +kernel) rfl ok_X3_weigh (Nat.le_of_ble_eq_true rfl) ?_
  have fr : sk_fr none s h s h := sk_fr.rf
  unfold x3_weigh at e
  refine (?_ : ky_V _ _ _ 0 [(0, .ref a), (1, .int p1), (2, .int p2), (3, .int p3), (4, .int p4), (5, .int p5), (6, .int p6)] [] _ _)
  obtain ⟨za, e⟩ := ky_chkE e
  refine v_aload_n (i := 0) (j := 0) rfl rfl (?_ : ky_V _ _ _ 1 _ _ _ _)
  refine gf_X3_9 rfl (i := 1) rfl (oc_X3 hm (ly_X3_c za)) (sk_rf (ly_X3_r5 za)) (?_ : ky_V _ _ _ 4 _ (.ref (a + 5) :: _) _ _)
  refine v_iconst (v := 0) (i := 2) rfl (by decide) (?_ : ky_V _ _ _ 5 _ _ _ _)
  refine v_iload_n (i := 3) (j := 2) rfl rfl (?_ : ky_V _ _ _ 6 _ _ _ _)
  refine v_iast (i := 4) rfl (oa_21 hm (ly_X3_k5 za)) (ky_inl (by decide)) ?_
  refine sk_stc (kd := 20) hm fr (ly_X3_k5 za) 0 p2 (fun h1 hmh1 frh1 => ?_)
  obtain ⟨q2, eq2⟩ : ∃ z, z = (sk_wc s (a + 5) 0 p2) := ⟨_, rfl⟩
  rw [← eq2] at hmh1 frh1
  replace e := ky_letE eq2 e
  refine (?_ : ky_V _ _ _ 7 _ _ _ _)
  refine v_aload_n (i := 5) (j := 0) rfl rfl (?_ : ky_V _ _ _ 8 _ _ _ _)
  refine gf_X3_9 rfl (i := 6) rfl (oc_X3 hmh1 (ly_X3_c (lt_X3 frh1 za))) (sk_rf (ly_X3_r5 (lt_X3 frh1 za))) (?_ : ky_V _ _ _ 11 _ (.ref (a + 5) :: _) _ _)
  refine v_iconst (v := 1) (i := 7) rfl (by decide) (?_ : ky_V _ _ _ 12 _ _ _ _)
  refine v_iload_n (i := 8) (j := 3) rfl rfl (?_ : ky_V _ _ _ 13 _ _ _ _)
  refine v_iast (i := 9) rfl (oa_21 hmh1 (ly_X3_k5 (lt_X3 frh1 za))) (ky_inl (by decide)) ?_
  refine sk_stc (kd := 20) hmh1 frh1 (ly_X3_k5 (lt_X3 frh1 za)) 1 p3 (fun h3 hmh3 frh3 => ?_)
  obtain ⟨q4, eq4⟩ : ∃ z, z = (sk_wc q2 (a + 5) 1 p3) := ⟨_, rfl⟩
  rw [← eq4] at hmh3 frh3
  replace e := ky_letE eq4 e
  refine (?_ : ky_V _ _ _ 14 _ _ _ _)
  refine v_aload_n (i := 10) (j := 0) rfl rfl (?_ : ky_V _ _ _ 15 _ _ _ _)
  refine gf_X3_9 rfl (i := 11) rfl (oc_X3 hmh3 (ly_X3_c (lt_X3 frh3 za))) (sk_rf (ly_X3_r5 (lt_X3 frh3 za))) (?_ : ky_V _ _ _ 18 _ (.ref (a + 5) :: _) _ _)
  refine v_iconst (v := 2) (i := 12) rfl (by decide) (?_ : ky_V _ _ _ 19 _ _ _ _)
  refine v_iload (i := 13) (j := 4) rfl rfl (?_ : ky_V _ _ _ 21 _ _ _ _)
  refine v_iast (i := 14) rfl (oa_21 hmh3 (ly_X3_k5 (lt_X3 frh3 za))) (ky_inl (by decide)) ?_
  refine sk_stc (kd := 20) hmh3 frh3 (ly_X3_k5 (lt_X3 frh3 za)) 2 p4 (fun h5 hmh5 frh5 => ?_)
  obtain ⟨q6, eq6⟩ : ∃ z, z = (sk_wc q4 (a + 5) 2 p4) := ⟨_, rfl⟩
  rw [← eq6] at hmh5 frh5
  replace e := ky_letE eq6 e
  refine (?_ : ky_V _ _ _ 22 _ _ _ _)
  refine v_aload_n (i := 15) (j := 0) rfl rfl (?_ : ky_V _ _ _ 23 _ _ _ _)
  refine gf_X3_9 rfl (i := 16) rfl (oc_X3 hmh5 (ly_X3_c (lt_X3 frh5 za))) (sk_rf (ly_X3_r5 (lt_X3 frh5 za))) (?_ : ky_V _ _ _ 26 _ (.ref (a + 5) :: _) _ _)
  refine v_iconst (v := 3) (i := 17) rfl (by decide) (?_ : ky_V _ _ _ 27 _ _ _ _)
  refine v_iload_n (i := 18) (j := 1) rfl rfl (?_ : ky_V _ _ _ 28 _ _ _ _)
  refine cl_X3_29 (As := [.int p1]) rfl (i := 19) rfl rfl rfl (Nat.le_of_ble_eq_true rfl) (k_X5_thin p1 ⟨_, rfl, (?_ : ky_V _ _ _ 31 _ [.int ((po_thin p1)), .int 3, .ref ((a + 5))] _ _)⟩)
  refine v_topi (fun x7 ex7 => ?_)
  replace e := ky_letE ex7 e
  refine v_iast (i := 20) rfl (oa_21 hmh5 (ly_X3_k5 (lt_X3 frh5 za))) (ky_inl (by decide)) ?_
  refine sk_stc (kd := 20) hmh5 frh5 (ly_X3_k5 (lt_X3 frh5 za)) 3 x7 (fun h8 hmh8 frh8 => ?_)
  obtain ⟨q9, eq9⟩ : ∃ z, z = (sk_wc q6 (a + 5) 3 x7) := ⟨_, rfl⟩
  rw [← eq9] at hmh8 frh8
  replace e := ky_letE eq9 e
  refine (?_ : ky_V _ _ _ 32 _ _ _ _)
  refine v_aload_n (i := 21) (j := 0) rfl rfl (?_ : ky_V _ _ _ 33 _ _ _ _)
  refine gf_X3_9 rfl (i := 22) rfl (oc_X3 hmh8 (ly_X3_c (lt_X3 frh8 za))) (sk_rf (ly_X3_r5 (lt_X3 frh8 za))) (?_ : ky_V _ _ _ 36 _ (.ref (a + 5) :: _) _ _)
  refine v_iconst (v := 4) (i := 23) rfl (by decide) (?_ : ky_V _ _ _ 37 _ _ _ _)
  refine v_iload (i := 24) (j := 5) rfl rfl (?_ : ky_V _ _ _ 39 _ _ _ _)
  refine v_iast (i := 25) rfl (oa_21 hmh8 (ly_X3_k5 (lt_X3 frh8 za))) (ky_inl (by decide)) ?_
  refine sk_stc (kd := 20) hmh8 frh8 (ly_X3_k5 (lt_X3 frh8 za)) 4 p5 (fun h10 hmh10 frh10 => ?_)
  obtain ⟨q11, eq11⟩ : ∃ z, z = (sk_wc q9 (a + 5) 4 p5) := ⟨_, rfl⟩
  rw [← eq11] at hmh10 frh10
  replace e := ky_letE eq11 e
  refine (?_ : ky_V _ _ _ 40 _ _ _ _)
  refine v_aload_n (i := 26) (j := 0) rfl rfl (?_ : ky_V _ _ _ 41 _ _ _ _)
  refine gf_X3_9 rfl (i := 27) rfl (oc_X3 hmh10 (ly_X3_c (lt_X3 frh10 za))) (sk_rf (ly_X3_r5 (lt_X3 frh10 za))) (?_ : ky_V _ _ _ 44 _ (.ref (a + 5) :: _) _ _)
  refine v_iconst (v := 5) (i := 28) rfl (by decide) (?_ : ky_V _ _ _ 45 _ _ _ _)
  refine v_iload (i := 29) (j := 6) rfl rfl (?_ : ky_V _ _ _ 47 _ _ _ _)
  refine v_iast (i := 30) rfl (oa_21 hmh10 (ly_X3_k5 (lt_X3 frh10 za))) (ky_inl (by decide)) ?_
  refine sk_stc (kd := 20) hmh10 frh10 (ly_X3_k5 (lt_X3 frh10 za)) 5 p6 (fun h12 hmh12 frh12 => ?_)
  obtain ⟨q13, eq13⟩ : ∃ z, z = (sk_wc q11 (a + 5) 5 p6) := ⟨_, rfl⟩
  rw [← eq13] at hmh12 frh12
  replace e := ky_letE eq13 e
  refine (?_ : ky_V _ _ _ 48 _ _ _ _)
  refine v_aload_n (i := 31) (j := 0) rfl rfl (?_ : ky_V _ _ _ 49 _ _ _ _)
  refine v_iload_n (i := 32) (j := 1) rfl rfl (?_ : ky_V _ _ _ 50 _ _ _ _)
  refine cl_X3_35 (As := [.int p1]) rfl (i := 33) rfl rfl rfl (Nat.le_of_ble_eq_true rfl) (k_X5_lying p1 ⟨_, rfl, (?_ : ky_V _ _ _ 53 _ [.int ((po_lying p1)), .ref a] _ _)⟩)
  refine v_topi (fun x14 ex14 => ?_)
  replace e := ky_letE ex14 e
  refine pf_X3_38 rfl (i := 34) rfl (oc_X3 hmh12 (ly_X3_c (lt_X3 frh12 za))) (Nat.le_of_ble_eq_true rfl) rfl rfl ?_
  refine sk_stc (kd := 3) (n := 0) hmh12 frh12 (ly_X3_c (lt_X3 frh12 za)) 6 x14 (fun h15 hmh15 frh15 => ?_)
  obtain ⟨q16, eq16⟩ : ∃ z, z = (sk_wc q13 a 6 x14) := ⟨_, rfl⟩
  rw [← eq16] at hmh15 frh15
  replace e := ky_letE eq16 e
  refine (?_ : ky_V _ _ _ 56 _ _ _ _)
  refine v_aload_n (i := 35) (j := 0) rfl rfl (?_ : ky_V _ _ _ 57 _ _ _ _)
  refine v_iconst (v := 0) (i := 36) rfl (by decide) (?_ : ky_V _ _ _ 58 _ _ _ _)
  refine pf_X3_40 rfl (i := 37) rfl (oc_X3 hmh15 (ly_X3_c (lt_X3 frh15 za))) (Nat.le_of_ble_eq_true rfl) rfl rfl ?_
  refine sk_stc (kd := 3) (n := 0) hmh15 frh15 (ly_X3_c (lt_X3 frh15 za)) 7 0 (fun h17 hmh17 frh17 => ?_)
  obtain ⟨q18, eq18⟩ : ∃ z, z = (sk_wc q16 a 7 0) := ⟨_, rfl⟩
  rw [← eq18] at hmh17 frh17
  replace e := ky_letE eq18 e
  refine (?_ : ky_V _ _ _ 61 _ _ _ _)
  refine v_aload_n (i := 38) (j := 0) rfl rfl (?_ : ky_V _ _ _ 62 _ _ _ _)
  refine v_iconst (v := 0) (i := 39) rfl (by decide) (?_ : ky_V _ _ _ 63 _ _ _ _)
  refine pf_X3_43 rfl (i := 40) rfl (oc_X3 hmh17 (ly_X3_c (lt_X3 frh17 za))) (Nat.le_of_ble_eq_true rfl) rfl rfl ?_
  refine sk_stc (kd := 3) (n := 0) hmh17 frh17 (ly_X3_c (lt_X3 frh17 za)) 8 0 (fun h19 hmh19 frh19 => ?_)
  obtain ⟨q20, eq20⟩ : ∃ z, z = (sk_wc q18 a 8 0) := ⟨_, rfl⟩
  rw [← eq20] at hmh19 frh19
  replace e := ky_letE eq20 e
  refine (?_ : ky_V _ _ _ 66 _ _ _ _)
  refine v_aload_n (i := 41) (j := 0) rfl rfl (?_ : ky_V _ _ _ 67 _ _ _ _)
  refine v_iconst (v := 0) (i := 42) rfl (by decide) (?_ : ky_V _ _ _ 68 _ _ _ _)
  refine pf_X3_46 rfl (i := 43) rfl (oc_X3 hmh19 (ly_X3_c (lt_X3 frh19 za))) (Nat.le_of_ble_eq_true rfl) rfl rfl ?_
  refine sk_stc (kd := 3) (n := 0) hmh19 frh19 (ly_X3_c (lt_X3 frh19 za)) 9 0 (fun h21 hmh21 frh21 => ?_)
  obtain ⟨q22, eq22⟩ : ∃ z, z = (sk_wc q20 a 9 0) := ⟨_, rfl⟩
  rw [← eq22] at hmh21 frh21
  replace e := ky_letE eq22 e
  refine (?_ : ky_V _ _ _ 71 _ _ _ _)
  refine v_iconst (v := 0) (i := 44) rfl (by decide) (?_ : ky_V _ _ _ 72 _ _ _ _)
  refine v_istore (L' := [(0, .ref a), (1, .int p1), (2, .int p2), (3, .int p3), (4, .int p4), (5, .int p5), (6, .int p6), (7, .int 0)]) [1, 2, 3, 4, 5, 6, 7, 0] (i := 45) rfl (Nat.le_of_ble_eq_true rfl) rfl (?_ : ky_V _ _ _ 74 _ _ _ _)
  refine lv_X3_weigh_74 N hG a za hm _ hr (fun h23 q24 x25 x26 x27 x28 x29 x30 x31 hmh23 frh23 e => ?_) N h21 q22 p1 p2 p3 p4 p5 p6 0 hmh21 frh21 e
  refine v_vret (i := 109) rfl rfl ?_
  obtain ⟨rfl, rfl⟩ := ky_leaf e
  exact hr _ hmh23 frh23

def x6_after_J238 (N : Nat)  (a : Nat) (c : sk_S) (p1 : Int32) (p2 : Int32) (p3 : Int32) (p4 : Int32) (p5 : Int32) (p6 : Int32) (p7 : Int32) (p8 : Int32) (p9 : Int32) (p10 : Int32) (p11 : Int32) (p12 : Int32) : Option (sk_S × Int32) := (if p7 = 0 then (if p7 = 0 then (some (c, (po_of p8 p9 p12 (ru_lyingBehind p1 p2)))) else (some (c, (po_of p8 p8 p12 (ru_lyingBehind p1 p2))))) else (if p7 = 0 then (some (c, (po_of p9 p9 p12 (ru_lyingBehind p1 p2)))) else (some (c, (po_of p9 p8 p12 (ru_lyingBehind p1 p2))))))
set_option maxRecDepth 20000 in
set_option maxHeartbeats 4000000 in
theorem jv_X6_after_238 {G : ky_GW} {d : Nat} {s s9 : sk_S} {h0 : ky_HP} {Q : ky_RS → ky_HP → Prop} {r9 : Int32} (N : Nat) (hG : ky_OK G)  (a : Nat)   (za : lay_X6 (sk_K s) (sk_r s) a = true) (hm : sk_hp G s h0) (hr : ∀ h1, sk_hp G s9 h1 → sk_fr none s h0 s9 h1 → Q (.inl (some (.int r9))) h1)
    (h : ky_HP) (c : sk_S) (p1 : Int32) (p2 : Int32) (p3 : Int32) (p4 : Int32) (p5 : Int32) (p6 : Int32) (p7 : Int32) (p8 : Int32) (p9 : Int32) (p10 : Int32) (p11 : Int32) (p12 : Int32) (hm1 : sk_hp G c h) (fr : sk_fr none s h0 c h) (e : x6_after_J238 N a c p1 p2 p3 p4 p5 p6 p7 p8 p9 p10 p11 p12 = some (s9, r9)) : ky_V G (d + 2) M_X6_after 238 [(0, .ref a), (1, .int p1), (2, .int p2), (3, .int p3), (4, .int p4), (5, .int p5), (6, .int p6), (7, .int p7), (8, .int p8), (9, .int p9), (10, .int p10), (11, .int p11), (12, .int p12)] [] h Q := by
  unfold x6_after_J238 at e
  refine v_iload (i := 123) (j := 7) rfl rfl (?_ : ky_V _ _ _ 240 _ _ _ _)
  refine v_if_eq (tgt := 248) (i := 124) rfl (by decide) (fun c1 => ?_) (fun c1 => ?_)
  · replace e := ky_ifT c1 e
    refine v_iload (i := 127) (j := 8) rfl rfl (?_ : ky_V _ _ _ 250 _ _ _ _)
    refine v_iload (i := 128) (j := 7) rfl rfl (?_ : ky_V _ _ _ 252 _ _ _ _)
    refine v_if_eq (tgt := 260) (i := 129) rfl (by decide) (fun c2 => ?_) (fun c2 => ?_)
    · replace e := ky_ifT c2 e
      refine v_iload (i := 132) (j := 9) rfl rfl (?_ : ky_V _ _ _ 262 _ _ _ _)
      refine v_iload (i := 133) (j := 12) rfl rfl (?_ : ky_V _ _ _ 264 _ _ _ _)
      refine v_iload_n (i := 134) (j := 1) rfl rfl (?_ : ky_V _ _ _ 265 _ _ _ _)
      refine v_iload_n (i := 135) (j := 2) rfl rfl (?_ : ky_V _ _ _ 266 _ _ _ _)
      refine cl_X6_63 (As := [.int p1, .int p2]) rfl (i := 136) rfl rfl rfl (Nat.le_of_ble_eq_true rfl) (k_X6_lyingBehind p1 p2 ⟨_, rfl, (?_ : ky_V _ _ _ 269 _ [.int ((ru_lyingBehind p1 p2)), .int p12, .int p9, .int p8] _ _)⟩)
      refine cl_X6_66 (As := [.int p8, .int p9, .int p12, .int ((ru_lyingBehind p1 p2))]) rfl (i := 137) rfl rfl rfl (Nat.le_of_ble_eq_true rfl) (k_X5_of p8 p9 p12 (ru_lyingBehind p1 p2) ⟨_, rfl, (?_ : ky_V _ _ _ 272 _ [.int ((po_of p8 p9 p12 (ru_lyingBehind p1 p2)))] _ _)⟩)
      refine v_iret (v := (po_of p8 p9 p12 (ru_lyingBehind p1 p2))) (ty := .int) (i := 138) rfl rfl rfl ?_
      obtain ⟨rfl, rfl⟩ := ky_leaf e
      exact hr _ hm1 fr
    · replace e := ky_ifF c2 e
      refine v_iload (i := 130) (j := 8) rfl rfl (?_ : ky_V _ _ _ 257 _ _ _ _)
      refine v_goto (tgt := 262) (i := 131) rfl (by decide) (?_ : ky_V _ _ _ 262 _ _ _ _)
      refine v_iload (i := 133) (j := 12) rfl rfl (?_ : ky_V _ _ _ 264 _ _ _ _)
      refine v_iload_n (i := 134) (j := 1) rfl rfl (?_ : ky_V _ _ _ 265 _ _ _ _)
      refine v_iload_n (i := 135) (j := 2) rfl rfl (?_ : ky_V _ _ _ 266 _ _ _ _)
      refine cl_X6_63 (As := [.int p1, .int p2]) rfl (i := 136) rfl rfl rfl (Nat.le_of_ble_eq_true rfl) (k_X6_lyingBehind p1 p2 ⟨_, rfl, (?_ : ky_V _ _ _ 269 _ [.int ((ru_lyingBehind p1 p2)), .int p12, .int p8, .int p8] _ _)⟩)
      refine cl_X6_66 (As := [.int p8, .int p8, .int p12, .int ((ru_lyingBehind p1 p2))]) rfl (i := 137) rfl rfl rfl (Nat.le_of_ble_eq_true rfl) (k_X5_of p8 p8 p12 (ru_lyingBehind p1 p2) ⟨_, rfl, (?_ : ky_V _ _ _ 272 _ [.int ((po_of p8 p8 p12 (ru_lyingBehind p1 p2)))] _ _)⟩)
      refine v_iret (v := (po_of p8 p8 p12 (ru_lyingBehind p1 p2))) (ty := .int) (i := 138) rfl rfl rfl ?_
      obtain ⟨rfl, rfl⟩ := ky_leaf e
      exact hr _ hm1 fr
  · replace e := ky_ifF c1 e
    refine v_iload (i := 125) (j := 9) rfl rfl (?_ : ky_V _ _ _ 245 _ _ _ _)
    refine v_goto (tgt := 250) (i := 126) rfl (by decide) (?_ : ky_V _ _ _ 250 _ _ _ _)
    refine v_iload (i := 128) (j := 7) rfl rfl (?_ : ky_V _ _ _ 252 _ _ _ _)
    refine v_if_eq (tgt := 260) (i := 129) rfl (by decide) (fun c3 => ?_) (fun c3 => ?_)
    · replace e := ky_ifT c3 e
      refine v_iload (i := 132) (j := 9) rfl rfl (?_ : ky_V _ _ _ 262 _ _ _ _)
      refine v_iload (i := 133) (j := 12) rfl rfl (?_ : ky_V _ _ _ 264 _ _ _ _)
      refine v_iload_n (i := 134) (j := 1) rfl rfl (?_ : ky_V _ _ _ 265 _ _ _ _)
      refine v_iload_n (i := 135) (j := 2) rfl rfl (?_ : ky_V _ _ _ 266 _ _ _ _)
      refine cl_X6_63 (As := [.int p1, .int p2]) rfl (i := 136) rfl rfl rfl (Nat.le_of_ble_eq_true rfl) (k_X6_lyingBehind p1 p2 ⟨_, rfl, (?_ : ky_V _ _ _ 269 _ [.int ((ru_lyingBehind p1 p2)), .int p12, .int p9, .int p9] _ _)⟩)
      refine cl_X6_66 (As := [.int p9, .int p9, .int p12, .int ((ru_lyingBehind p1 p2))]) rfl (i := 137) rfl rfl rfl (Nat.le_of_ble_eq_true rfl) (k_X5_of p9 p9 p12 (ru_lyingBehind p1 p2) ⟨_, rfl, (?_ : ky_V _ _ _ 272 _ [.int ((po_of p9 p9 p12 (ru_lyingBehind p1 p2)))] _ _)⟩)
      refine v_iret (v := (po_of p9 p9 p12 (ru_lyingBehind p1 p2))) (ty := .int) (i := 138) rfl rfl rfl ?_
      obtain ⟨rfl, rfl⟩ := ky_leaf e
      exact hr _ hm1 fr
    · replace e := ky_ifF c3 e
      refine v_iload (i := 130) (j := 8) rfl rfl (?_ : ky_V _ _ _ 257 _ _ _ _)
      refine v_goto (tgt := 262) (i := 131) rfl (by decide) (?_ : ky_V _ _ _ 262 _ _ _ _)
      refine v_iload (i := 133) (j := 12) rfl rfl (?_ : ky_V _ _ _ 264 _ _ _ _)
      refine v_iload_n (i := 134) (j := 1) rfl rfl (?_ : ky_V _ _ _ 265 _ _ _ _)
      refine v_iload_n (i := 135) (j := 2) rfl rfl (?_ : ky_V _ _ _ 266 _ _ _ _)
      refine cl_X6_63 (As := [.int p1, .int p2]) rfl (i := 136) rfl rfl rfl (Nat.le_of_ble_eq_true rfl) (k_X6_lyingBehind p1 p2 ⟨_, rfl, (?_ : ky_V _ _ _ 269 _ [.int ((ru_lyingBehind p1 p2)), .int p12, .int p8, .int p9] _ _)⟩)
      refine cl_X6_66 (As := [.int p9, .int p8, .int p12, .int ((ru_lyingBehind p1 p2))]) rfl (i := 137) rfl rfl rfl (Nat.le_of_ble_eq_true rfl) (k_X5_of p9 p8 p12 (ru_lyingBehind p1 p2) ⟨_, rfl, (?_ : ky_V _ _ _ 272 _ [.int ((po_of p9 p8 p12 (ru_lyingBehind p1 p2)))] _ _)⟩)
      refine v_iret (v := (po_of p9 p8 p12 (ru_lyingBehind p1 p2))) (ty := .int) (i := 138) rfl rfl rfl ?_
      obtain ⟨rfl, rfl⟩ := ky_leaf e
      exact hr _ hm1 fr

def x6_after_J206 (N : Nat)  (a : Nat) (c : sk_S) (p1 : Int32) (p2 : Int32) (p3 : Int32) (p4 : Int32) (p5 : Int32) (p6 : Int32) (p7 : Int32) (p8 : Int32) (p9 : Int32) (p10 : Int32) (p11 : Int32) (p12 : Int32) : Option (sk_S × Int32) := (ky_let (ru_deeper p9 p11) (fun x1 => (if 0 ≤ p12 then (if p12 ≤ (5 : Int32) then (x6_after_J238 N a c p1 p2 p3 p4 p5 p6 p7 p8 x1 p10 p11 p12) else (x6_after_J238 N a c p1 p2 p3 p4 p5 p6 p7 p8 x1 p10 p11 5)) else (x6_after_J238 N a c p1 p2 p3 p4 p5 p6 p7 p8 x1 p10 p11 0))))
set_option maxRecDepth 20000 in
set_option maxHeartbeats 4000000 in
theorem jv_X6_after_206 {G : ky_GW} {d : Nat} {s s9 : sk_S} {h0 : ky_HP} {Q : ky_RS → ky_HP → Prop} {r9 : Int32} (N : Nat) (hG : ky_OK G)  (a : Nat)   (za : lay_X6 (sk_K s) (sk_r s) a = true) (hm : sk_hp G s h0) (hr : ∀ h1, sk_hp G s9 h1 → sk_fr none s h0 s9 h1 → Q (.inl (some (.int r9))) h1)
    (h : ky_HP) (c : sk_S) (p1 : Int32) (p2 : Int32) (p3 : Int32) (p4 : Int32) (p5 : Int32) (p6 : Int32) (p7 : Int32) (p8 : Int32) (p9 : Int32) (p10 : Int32) (p11 : Int32) (p12 : Int32) (hm1 : sk_hp G c h) (fr : sk_fr none s h0 c h) (e : x6_after_J206 N a c p1 p2 p3 p4 p5 p6 p7 p8 p9 p10 p11 p12 = some (s9, r9)) : ky_V G (d + 2) M_X6_after 206 [(0, .ref a), (1, .int p1), (2, .int p2), (3, .int p3), (4, .int p4), (5, .int p5), (6, .int p6), (7, .int p7), (8, .int p8), (9, .int p9), (10, .int p10), (11, .int p11), (12, .int p12)] [] h Q := by
  unfold x6_after_J206 at e
  refine v_iload (i := 108) (j := 9) rfl rfl (?_ : ky_V _ _ _ 208 _ _ _ _)
  refine v_iload (i := 109) (j := 11) rfl rfl (?_ : ky_V _ _ _ 210 _ _ _ _)
  refine cl_X6_60 (As := [.int p9, .int p11]) rfl (i := 110) rfl rfl rfl (Nat.le_of_ble_eq_true rfl) (k_X6_deeper p9 p11 ⟨_, rfl, (?_ : ky_V _ _ _ 213 _ [.int ((ru_deeper p9 p11))] _ _)⟩)
  refine v_topi (fun x1 ex1 => ?_)
  replace e := ky_letE ex1 e
  refine v_istore (L' := [(0, .ref a), (1, .int p1), (2, .int p2), (3, .int p3), (4, .int p4), (5, .int p5), (6, .int p6), (7, .int p7), (8, .int p8), (9, .int x1), (10, .int p10), (11, .int p11), (12, .int p12)]) [1, 2, 3, 4, 5, 6, 7, 8, 9, 0, 10, 11, 12] (i := 111) rfl (Nat.le_of_ble_eq_true rfl) rfl (?_ : ky_V _ _ _ 215 _ _ _ _)
  refine v_iload (i := 112) (j := 12) rfl rfl (?_ : ky_V _ _ _ 217 _ _ _ _)
  refine v_if_ge (tgt := 224) (i := 113) rfl (by decide) (fun c2 => ?_) (fun c2 => ?_)
  · replace e := ky_ifT c2 e
    refine v_iload (i := 116) (j := 12) rfl rfl (?_ : ky_V _ _ _ 226 _ _ _ _)
    refine v_iconst (v := 5) (i := 117) rfl (by decide) (?_ : ky_V _ _ _ 227 _ _ _ _)
    refine v_icmp_le (tgt := 234) (i := 118) rfl (by decide) (fun c3 => ?_) (fun c3 => ?_)
    · replace e := ky_ifT c3 e
      refine v_iload (i := 121) (j := 12) rfl rfl (?_ : ky_V _ _ _ 236 _ _ _ _)
      refine v_istore (L' := [(0, .ref a), (1, .int p1), (2, .int p2), (3, .int p3), (4, .int p4), (5, .int p5), (6, .int p6), (7, .int p7), (8, .int p8), (9, .int x1), (10, .int p10), (11, .int p11), (12, .int p12)]) [1, 2, 3, 4, 5, 6, 7, 8, 9, 10, 11, 12, 0] (i := 122) rfl (Nat.le_of_ble_eq_true rfl) rfl (?_ : ky_V _ _ _ 238 _ _ _ _)
      exact jv_X6_after_238 N hG a za hm hr h c p1 p2 p3 p4 p5 p6 p7 p8 x1 p10 p11 p12 hm1 fr e
    · replace e := ky_ifF c3 e
      refine v_iconst (v := 5) (i := 119) rfl (by decide) (?_ : ky_V _ _ _ 231 _ _ _ _)
      refine v_goto (tgt := 236) (i := 120) rfl (by decide) (?_ : ky_V _ _ _ 236 _ _ _ _)
      refine v_istore (L' := [(0, .ref a), (1, .int p1), (2, .int p2), (3, .int p3), (4, .int p4), (5, .int p5), (6, .int p6), (7, .int p7), (8, .int p8), (9, .int x1), (10, .int p10), (11, .int p11), (12, .int 5)]) [1, 2, 3, 4, 5, 6, 7, 8, 9, 10, 11, 12, 0] (i := 122) rfl (Nat.le_of_ble_eq_true rfl) rfl (?_ : ky_V _ _ _ 238 _ _ _ _)
      exact jv_X6_after_238 N hG a za hm hr h c p1 p2 p3 p4 p5 p6 p7 p8 x1 p10 p11 5 hm1 fr e
  · replace e := ky_ifF c2 e
    refine v_iconst (v := 0) (i := 114) rfl (by decide) (?_ : ky_V _ _ _ 221 _ _ _ _)
    refine v_goto (tgt := 236) (i := 115) rfl (by decide) (?_ : ky_V _ _ _ 236 _ _ _ _)
    refine v_istore (L' := [(0, .ref a), (1, .int p1), (2, .int p2), (3, .int p3), (4, .int p4), (5, .int p5), (6, .int p6), (7, .int p7), (8, .int p8), (9, .int x1), (10, .int p10), (11, .int p11), (12, .int 0)]) [1, 2, 3, 4, 5, 6, 7, 8, 9, 10, 11, 12, 0] (i := 122) rfl (Nat.le_of_ble_eq_true rfl) rfl (?_ : ky_V _ _ _ 238 _ _ _ _)
    exact jv_X6_after_238 N hG a za hm hr h c p1 p2 p3 p4 p5 p6 p7 p8 x1 p10 p11 0 hm1 fr e

def x6_after_J174 (N : Nat)  (a : Nat) (c : sk_S) (p1 : Int32) (p2 : Int32) (p3 : Int32) (p4 : Int32) (p5 : Int32) (p6 : Int32) (p7 : Int32) (p8 : Int32) (p9 : Int32) (p10 : Int32) (p11 : Int32) (p12 : Int32) : Option (sk_S × Int32) := (ky_let (ru_lessDeep p8 p10) (fun x1 => (if p6 = 0 then (ky_let (ru_deeper x1 p11) (fun x3 => (ky_let (ru_lessDeep p9 p10) (fun x4 => (x6_after_J206 N a c p1 p2 p3 p4 p5 p6 p7 x3 x4 p10 p11 p12))))) else (x6_after_J206 N a c p1 p2 p3 p4 p5 p6 p7 x1 p9 p10 p11 p12))))
set_option maxRecDepth 20000 in
set_option maxHeartbeats 4000000 in
theorem jv_X6_after_174 {G : ky_GW} {d : Nat} {s s9 : sk_S} {h0 : ky_HP} {Q : ky_RS → ky_HP → Prop} {r9 : Int32} (N : Nat) (hG : ky_OK G)  (a : Nat)   (za : lay_X6 (sk_K s) (sk_r s) a = true) (hm : sk_hp G s h0) (hr : ∀ h1, sk_hp G s9 h1 → sk_fr none s h0 s9 h1 → Q (.inl (some (.int r9))) h1)
    (h : ky_HP) (c : sk_S) (p1 : Int32) (p2 : Int32) (p3 : Int32) (p4 : Int32) (p5 : Int32) (p6 : Int32) (p7 : Int32) (p8 : Int32) (p9 : Int32) (p10 : Int32) (p11 : Int32) (p12 : Int32) (hm1 : sk_hp G c h) (fr : sk_fr none s h0 c h) (e : x6_after_J174 N a c p1 p2 p3 p4 p5 p6 p7 p8 p9 p10 p11 p12 = some (s9, r9)) : ky_V G (d + 2) M_X6_after 174 [(0, .ref a), (1, .int p1), (2, .int p2), (3, .int p3), (4, .int p4), (5, .int p5), (6, .int p6), (7, .int p7), (8, .int p8), (9, .int p9), (10, .int p10), (11, .int p11), (12, .int p12)] [] h Q := by
  unfold x6_after_J174 at e
  refine v_iload (i := 94) (j := 8) rfl rfl (?_ : ky_V _ _ _ 176 _ _ _ _)
  refine v_iload (i := 95) (j := 10) rfl rfl (?_ : ky_V _ _ _ 178 _ _ _ _)
  refine cl_X6_56 (As := [.int p8, .int p10]) rfl (i := 96) rfl rfl rfl (Nat.le_of_ble_eq_true rfl) (k_X6_lessDeep p8 p10 ⟨_, rfl, (?_ : ky_V _ _ _ 181 _ [.int ((ru_lessDeep p8 p10))] _ _)⟩)
  refine v_topi (fun x1 ex1 => ?_)
  replace e := ky_letE ex1 e
  refine v_istore (L' := [(0, .ref a), (1, .int p1), (2, .int p2), (3, .int p3), (4, .int p4), (5, .int p5), (6, .int p6), (7, .int p7), (8, .int x1), (9, .int p9), (10, .int p10), (11, .int p11), (12, .int p12)]) [1, 2, 3, 4, 5, 6, 7, 8, 0, 9, 10, 11, 12] (i := 97) rfl (Nat.le_of_ble_eq_true rfl) rfl (?_ : ky_V _ _ _ 183 _ _ _ _)
  refine v_iload (i := 98) (j := 6) rfl rfl (?_ : ky_V _ _ _ 185 _ _ _ _)
  refine v_if_ne (tgt := 206) (i := 99) rfl (by decide) (fun c2 => ?_) (fun c2 => ?_)
  · replace e := ky_ifF c2 e
    exact jv_X6_after_206 N hG a za hm hr h c p1 p2 p3 p4 p5 p6 p7 x1 p9 p10 p11 p12 hm1 fr e
  · replace e := ky_ifT c2 e
    refine v_iload (i := 100) (j := 8) rfl rfl (?_ : ky_V _ _ _ 190 _ _ _ _)
    refine v_iload (i := 101) (j := 11) rfl rfl (?_ : ky_V _ _ _ 192 _ _ _ _)
    refine cl_X6_60 (As := [.int x1, .int p11]) rfl (i := 102) rfl rfl rfl (Nat.le_of_ble_eq_true rfl) (k_X6_deeper x1 p11 ⟨_, rfl, (?_ : ky_V _ _ _ 195 _ [.int ((ru_deeper x1 p11))] _ _)⟩)
    refine v_topi (fun x3 ex3 => ?_)
    replace e := ky_letE ex3 e
    refine v_istore (L' := [(0, .ref a), (1, .int p1), (2, .int p2), (3, .int p3), (4, .int p4), (5, .int p5), (6, .int p6), (7, .int p7), (8, .int x3), (9, .int p9), (10, .int p10), (11, .int p11), (12, .int p12)]) [1, 2, 3, 4, 5, 6, 7, 8, 0, 9, 10, 11, 12] (i := 103) rfl (Nat.le_of_ble_eq_true rfl) rfl (?_ : ky_V _ _ _ 197 _ _ _ _)
    refine v_iload (i := 104) (j := 9) rfl rfl (?_ : ky_V _ _ _ 199 _ _ _ _)
    refine v_iload (i := 105) (j := 10) rfl rfl (?_ : ky_V _ _ _ 201 _ _ _ _)
    refine cl_X6_56 (As := [.int p9, .int p10]) rfl (i := 106) rfl rfl rfl (Nat.le_of_ble_eq_true rfl) (k_X6_lessDeep p9 p10 ⟨_, rfl, (?_ : ky_V _ _ _ 204 _ [.int ((ru_lessDeep p9 p10))] _ _)⟩)
    refine v_topi (fun x4 ex4 => ?_)
    replace e := ky_letE ex4 e
    refine v_istore (L' := [(0, .ref a), (1, .int p1), (2, .int p2), (3, .int p3), (4, .int p4), (5, .int p5), (6, .int p6), (7, .int p7), (8, .int x3), (9, .int x4), (10, .int p10), (11, .int p11), (12, .int p12)]) [1, 2, 3, 4, 5, 6, 7, 8, 9, 0, 10, 11, 12] (i := 107) rfl (Nat.le_of_ble_eq_true rfl) rfl (?_ : ky_V _ _ _ 206 _ _ _ _)
    exact jv_X6_after_206 N hG a za hm hr h c p1 p2 p3 p4 p5 p6 p7 x3 x4 p10 p11 p12 hm1 fr e

def x6_after_J65 (N : Nat)  (a : Nat) (c : sk_S) (p1 : Int32) (p2 : Int32) (p3 : Int32) (p4 : Int32) (p5 : Int32) (p6 : Int32) (p7 : Int32) (p8 : Int32) (p9 : Int32) : Option (sk_S × Int32) := (if ky_inB (4 * p2) 28 = true then (ky_let (sk_c c (a + 1) (Int32.toNatClampNeg (4 * p2))) (fun x2 => (if ky_inB ((4 * p2) + 1) 28 = true then (ky_let (sk_c c (a + 1) (Int32.toNatClampNeg ((4 * p2) + 1))) (fun x4 => (if ky_inB ((4 * p2) + 2) 28 = true then (ky_let ((po_thin p1) + (sk_c c (a + 1) (Int32.toNatClampNeg ((4 * p2) + 2)))) (fun x6 => (ky_om (sk_r c a 1) (x6_after_J174 N a c p1 p2 p3 p4 p5 p6 p7 p8 p9 x2 x4 x6) (fun l8 => (ky_om (sk_r c a 1) none (fun l10 => (if lay_X3 (sk_K c) (sk_r c) l10 = true then (if (sk_c c l10 0) ≤ 0 then (x6_after_J174 N a c p1 p2 p3 p4 p5 p6 p7 p8 p9 x2 x4 x6) else (ky_om (sk_r c a 1) none (fun l14 => (if lay_X3 (sk_K c) (sk_r c) l14 = true then ((x3_weigh N c l14 p1 p2 p8 p9 p4 p5).bind (fun zz => (fun q17 x18 => (ky_om (sk_r q17 a 1) none (fun l21 => (if lay_X3 (sk_K q17) (sk_r q17) l21 = true then (ky_let (x2 + (sk_c q17 l21 7)) (fun x23 => (ky_om (sk_r q17 a 1) none (fun l25 => (if lay_X3 (sk_K q17) (sk_r q17) l25 = true then (ky_let (x4 + (sk_c q17 l25 8)) (fun x27 => (ky_om (sk_r q17 a 1) none (fun l29 => (if lay_X3 (sk_K q17) (sk_r q17) l29 = true then (ky_let (x6 + (sk_c q17 l29 9)) (fun x31 => (x6_after_J174 N a q17 p1 p2 p3 p4 p5 p6 p7 p8 p9 x23 x27 x31))) else none))))) else none))))) else none)))) zz.1 zz.2)) else none)))) else none))))))) else none))) else none))) else none)
set_option maxRecDepth 20000 in
set_option maxHeartbeats 4000000 in
theorem jv_X6_after_65 {G : ky_GW} {d : Nat} {s s9 : sk_S} {h0 : ky_HP} {Q : ky_RS → ky_HP → Prop} {r9 : Int32} (N : Nat) (hG : ky_OK G)  (a : Nat)   (za : lay_X6 (sk_K s) (sk_r s) a = true) (hm : sk_hp G s h0) (hr : ∀ h1, sk_hp G s9 h1 → sk_fr none s h0 s9 h1 → Q (.inl (some (.int r9))) h1)
    (h : ky_HP) (c : sk_S) (p1 : Int32) (p2 : Int32) (p3 : Int32) (p4 : Int32) (p5 : Int32) (p6 : Int32) (p7 : Int32) (p8 : Int32) (p9 : Int32) (hm1 : sk_hp G c h) (fr : sk_fr none s h0 c h) (e : x6_after_J65 N a c p1 p2 p3 p4 p5 p6 p7 p8 p9 = some (s9, r9)) : ky_V G (d + 2) M_X6_after 65 [(0, .ref a), (1, .int p1), (2, .int p2), (3, .int p3), (4, .int p4), (5, .int p5), (6, .int p6), (7, .int p7), (8, .int p8), (9, .int p9)] [] h Q := by
  unfold x6_after_J65 at e
  refine v_aload_n (i := 32) (j := 0) rfl rfl (?_ : ky_V _ _ _ 66 _ _ _ _)
  refine gf_X6_11 rfl (i := 33) rfl (oc_X6 hm1 (ly_X6_c (lt_X6 fr za))) (sk_rf (ly_X6_r0 (lt_X6 fr za))) (?_ : ky_V _ _ _ 69 _ (.ref (a + 1) :: _) _ _)
  refine v_iconst (v := 4) (i := 34) rfl (by decide) (?_ : ky_V _ _ _ 70 _ _ _ _)
  refine v_iload_n (i := 35) (j := 2) rfl rfl (?_ : ky_V _ _ _ 71 _ _ _ _)
  refine v_imul (i := 36) rfl (?_ : ky_V _ _ _ 72 _ _ _ _)
  obtain ⟨z1, e⟩ := ky_chkE e
  refine v_iald (i := 37) rfl (oa_21 hm1 (ly_X6_k0 (lt_X6 fr za))) (ky_inb z1) (?_ : ky_V _ _ _ 73 _ (.int (sk_c c (a + 1) (Int32.toNatClampNeg (4 * p2))) :: _) _ _)
  refine v_topi (fun x2 ex2 => ?_)
  replace e := ky_letE ex2 e
  refine v_istore (L' := [(0, .ref a), (1, .int p1), (2, .int p2), (3, .int p3), (4, .int p4), (5, .int p5), (6, .int p6), (7, .int p7), (8, .int p8), (9, .int p9), (10, .int x2)]) [1, 2, 3, 4, 5, 6, 7, 8, 9, 10, 0] (i := 38) rfl (Nat.le_of_ble_eq_true rfl) rfl (?_ : ky_V _ _ _ 75 _ _ _ _)
  refine v_aload_n (i := 39) (j := 0) rfl rfl (?_ : ky_V _ _ _ 76 _ _ _ _)
  refine gf_X6_11 rfl (i := 40) rfl (oc_X6 hm1 (ly_X6_c (lt_X6 fr za))) (sk_rf (ly_X6_r0 (lt_X6 fr za))) (?_ : ky_V _ _ _ 79 _ (.ref (a + 1) :: _) _ _)
  refine v_iconst (v := 4) (i := 41) rfl (by decide) (?_ : ky_V _ _ _ 80 _ _ _ _)
  refine v_iload_n (i := 42) (j := 2) rfl rfl (?_ : ky_V _ _ _ 81 _ _ _ _)
  refine v_imul (i := 43) rfl (?_ : ky_V _ _ _ 82 _ _ _ _)
  refine v_iconst (v := 1) (i := 44) rfl (by decide) (?_ : ky_V _ _ _ 83 _ _ _ _)
  refine v_iadd (i := 45) rfl (?_ : ky_V _ _ _ 84 _ _ _ _)
  obtain ⟨z3, e⟩ := ky_chkE e
  refine v_iald (i := 46) rfl (oa_21 hm1 (ly_X6_k0 (lt_X6 fr za))) (ky_inb z3) (?_ : ky_V _ _ _ 85 _ (.int (sk_c c (a + 1) (Int32.toNatClampNeg ((4 * p2) + 1))) :: _) _ _)
  refine v_topi (fun x4 ex4 => ?_)
  replace e := ky_letE ex4 e
  refine v_istore (L' := [(0, .ref a), (1, .int p1), (2, .int p2), (3, .int p3), (4, .int p4), (5, .int p5), (6, .int p6), (7, .int p7), (8, .int p8), (9, .int p9), (10, .int x2), (11, .int x4)]) [1, 2, 3, 4, 5, 6, 7, 8, 9, 10, 11, 0] (i := 47) rfl (Nat.le_of_ble_eq_true rfl) rfl (?_ : ky_V _ _ _ 87 _ _ _ _)
  refine v_iload_n (i := 48) (j := 1) rfl rfl (?_ : ky_V _ _ _ 88 _ _ _ _)
  refine cl_X6_34 (As := [.int p1]) rfl (i := 49) rfl rfl rfl (Nat.le_of_ble_eq_true rfl) (k_X5_thin p1 ⟨_, rfl, (?_ : ky_V _ _ _ 91 _ [.int ((po_thin p1))] _ _)⟩)
  refine v_aload_n (i := 50) (j := 0) rfl rfl (?_ : ky_V _ _ _ 92 _ _ _ _)
  refine gf_X6_11 rfl (i := 51) rfl (oc_X6 hm1 (ly_X6_c (lt_X6 fr za))) (sk_rf (ly_X6_r0 (lt_X6 fr za))) (?_ : ky_V _ _ _ 95 _ (.ref (a + 1) :: _) _ _)
  refine v_iconst (v := 4) (i := 52) rfl (by decide) (?_ : ky_V _ _ _ 96 _ _ _ _)
  refine v_iload_n (i := 53) (j := 2) rfl rfl (?_ : ky_V _ _ _ 97 _ _ _ _)
  refine v_imul (i := 54) rfl (?_ : ky_V _ _ _ 98 _ _ _ _)
  refine v_iconst (v := 2) (i := 55) rfl (by decide) (?_ : ky_V _ _ _ 99 _ _ _ _)
  refine v_iadd (i := 56) rfl (?_ : ky_V _ _ _ 100 _ _ _ _)
  obtain ⟨z5, e⟩ := ky_chkE e
  refine v_iald (i := 57) rfl (oa_21 hm1 (ly_X6_k0 (lt_X6 fr za))) (ky_inb z5) (?_ : ky_V _ _ _ 101 _ (.int (sk_c c (a + 1) (Int32.toNatClampNeg ((4 * p2) + 2))) :: _) _ _)
  refine v_iadd (i := 58) rfl (?_ : ky_V _ _ _ 102 _ _ _ _)
  refine v_topi (fun x6 ex6 => ?_)
  replace e := ky_letE ex6 e
  refine v_istore (L' := [(0, .ref a), (1, .int p1), (2, .int p2), (3, .int p3), (4, .int p4), (5, .int p5), (6, .int p6), (7, .int p7), (8, .int p8), (9, .int p9), (10, .int x2), (11, .int x4), (12, .int x6)]) [1, 2, 3, 4, 5, 6, 7, 8, 9, 10, 11, 12, 0] (i := 59) rfl (Nat.le_of_ble_eq_true rfl) rfl (?_ : ky_V _ _ _ 104 _ _ _ _)
  refine v_aload_n (i := 60) (j := 0) rfl rfl (?_ : ky_V _ _ _ 105 _ _ _ _)
  rcases y7 : (sk_r c a 1) with _ | l8
  · replace e := ky_omN y7 e
    refine gf_X6_21 rfl (i := 61) rfl (oc_X6 hm1 (ly_X6_c (lt_X6 fr za))) (sk_rn y7) (?_ : ky_V _ _ _ 108 _ _ _ _)
    refine v_ifnullN (tgt := 174) (i := 62) rfl (by decide) (?_ : ky_V _ _ _ 174 _ _ _ _)
    exact jv_X6_after_174 N hG a za hm hr h c p1 p2 p3 p4 p5 p6 p7 p8 p9 x2 x4 x6 hm1 fr e
  · replace e := ky_omS y7 e
    refine gf_X6_21 rfl (i := 61) rfl (oc_X6 hm1 (ly_X6_c (lt_X6 fr za))) (sk_rf y7) (?_ : ky_V _ _ _ 108 _ _ _ _)
    refine v_ifnull (i := 62) rfl (?_ : ky_V _ _ _ 111 _ _ _ _)
    refine v_aload_n (i := 63) (j := 0) rfl rfl (?_ : ky_V _ _ _ 112 _ _ _ _)
    rcases y9 : (sk_r c a 1) with _ | l10
    · replace e := ky_omN y9 e
      refine gf_X6_21 rfl (i := 64) rfl (oc_X6 hm1 (ly_X6_c (lt_X6 fr za))) (sk_rn y9) (?_ : ky_V _ _ _ 115 _ _ _ _)
      cases e
    · replace e := ky_omS y9 e
      refine gf_X6_21 rfl (i := 64) rfl (oc_X6 hm1 (ly_X6_c (lt_X6 fr za))) (sk_rf y9) (?_ : ky_V _ _ _ 115 _ _ _ _)
      obtain ⟨z11, e⟩ := ky_chkE e
      refine gf_X6_37 rfl (i := 65) rfl (oc_X3 hm1 (ly_X3_c z11)) rfl (?_ : ky_V _ _ _ 118 _ _ _ _)
      refine v_if_le (tgt := 174) (i := 66) rfl (by decide) (fun c12 => ?_) (fun c12 => ?_)
      · replace e := ky_ifT c12 e
        exact jv_X6_after_174 N hG a za hm hr h c p1 p2 p3 p4 p5 p6 p7 p8 p9 x2 x4 x6 hm1 fr e
      · replace e := ky_ifF c12 e
        refine v_aload_n (i := 67) (j := 0) rfl rfl (?_ : ky_V _ _ _ 122 _ _ _ _)
        rcases y13 : (sk_r c a 1) with _ | l14
        · replace e := ky_omN y13 e
          refine gf_X6_21 rfl (i := 68) rfl (oc_X6 hm1 (ly_X6_c (lt_X6 fr za))) (sk_rn y13) (?_ : ky_V _ _ _ 125 _ _ _ _)
          refine v_iload_n (i := 69) (j := 1) rfl rfl (?_ : ky_V _ _ _ 126 _ _ _ _)
          refine v_iload_n (i := 70) (j := 2) rfl rfl (?_ : ky_V _ _ _ 127 _ _ _ _)
          refine v_iload (i := 71) (j := 8) rfl rfl (?_ : ky_V _ _ _ 129 _ _ _ _)
          refine v_iload (i := 72) (j := 9) rfl rfl (?_ : ky_V _ _ _ 131 _ _ _ _)
          refine v_iload (i := 73) (j := 4) rfl rfl (?_ : ky_V _ _ _ 133 _ _ _ _)
          refine v_iload (i := 74) (j := 5) rfl rfl (?_ : ky_V _ _ _ 135 _ _ _ _)
          cases e
        · replace e := ky_omS y13 e
          refine gf_X6_21 rfl (i := 68) rfl (oc_X6 hm1 (ly_X6_c (lt_X6 fr za))) (sk_rf y13) (?_ : ky_V _ _ _ 125 _ _ _ _)
          refine v_iload_n (i := 69) (j := 1) rfl rfl (?_ : ky_V _ _ _ 126 _ _ _ _)
          refine v_iload_n (i := 70) (j := 2) rfl rfl (?_ : ky_V _ _ _ 127 _ _ _ _)
          refine v_iload (i := 71) (j := 8) rfl rfl (?_ : ky_V _ _ _ 129 _ _ _ _)
          refine v_iload (i := 72) (j := 9) rfl rfl (?_ : ky_V _ _ _ 131 _ _ _ _)
          refine v_iload (i := 73) (j := 4) rfl rfl (?_ : ky_V _ _ _ 133 _ _ _ _)
          refine v_iload (i := 74) (j := 5) rfl rfl (?_ : ky_V _ _ _ 135 _ _ _ _)
          obtain ⟨z15, e⟩ := ky_chkE e
          obtain ⟨⟨q17, x18⟩, g19, e⟩ := Option.bind_eq_some_iff.mp e
          refine cl_X6_43 (As := [.int p1, .int p2, .int p8, .int p9, .int p4, .int p5]) rfl (i := 75) rfl (oc_X3 hm1 (ly_X3_c z15)) rfl rfl (Nat.le_of_ble_eq_true rfl) (k_X3_weigh N hG hm1 g19 (fun h16 hmh16 frh16 => ⟨_, rfl, (?_ : ky_V _ _ _ 138 _ [] _ _)⟩))
          have frh16 := fr.tr frh16
          refine v_iload (i := 76) (j := 10) rfl rfl (?_ : ky_V _ _ _ 140 _ _ _ _)
          refine v_aload_n (i := 77) (j := 0) rfl rfl (?_ : ky_V _ _ _ 141 _ _ _ _)
          rcases y20 : (sk_r q17 a 1) with _ | l21
          · replace e := ky_omN y20 e
            refine gf_X6_21 rfl (i := 78) rfl (oc_X6 hmh16 (ly_X6_c (lt_X6 frh16 za))) (sk_rn y20) (?_ : ky_V _ _ _ 144 _ _ _ _)
            cases e
          · replace e := ky_omS y20 e
            refine gf_X6_21 rfl (i := 78) rfl (oc_X6 hmh16 (ly_X6_c (lt_X6 frh16 za))) (sk_rf y20) (?_ : ky_V _ _ _ 144 _ _ _ _)
            obtain ⟨z22, e⟩ := ky_chkE e
            refine gf_X6_47 rfl (i := 79) rfl (oc_X3 hmh16 (ly_X3_c z22)) rfl (?_ : ky_V _ _ _ 147 _ _ _ _)
            refine v_iadd (i := 80) rfl (?_ : ky_V _ _ _ 148 _ _ _ _)
            refine v_topi (fun x23 ex23 => ?_)
            replace e := ky_letE ex23 e
            refine v_istore (L' := [(0, .ref a), (1, .int p1), (2, .int p2), (3, .int p3), (4, .int p4), (5, .int p5), (6, .int p6), (7, .int p7), (8, .int p8), (9, .int p9), (10, .int x23), (11, .int x4), (12, .int x6)]) [1, 2, 3, 4, 5, 6, 7, 8, 9, 10, 0, 11, 12] (i := 81) rfl (Nat.le_of_ble_eq_true rfl) rfl (?_ : ky_V _ _ _ 150 _ _ _ _)
            refine v_iload (i := 82) (j := 11) rfl rfl (?_ : ky_V _ _ _ 152 _ _ _ _)
            refine v_aload_n (i := 83) (j := 0) rfl rfl (?_ : ky_V _ _ _ 153 _ _ _ _)
            rcases y24 : (sk_r q17 a 1) with _ | l25
            · replace e := ky_omN y24 e
              refine gf_X6_21 rfl (i := 84) rfl (oc_X6 hmh16 (ly_X6_c (lt_X6 frh16 za))) (sk_rn y24) (?_ : ky_V _ _ _ 156 _ _ _ _)
              cases e
            · replace e := ky_omS y24 e
              refine gf_X6_21 rfl (i := 84) rfl (oc_X6 hmh16 (ly_X6_c (lt_X6 frh16 za))) (sk_rf y24) (?_ : ky_V _ _ _ 156 _ _ _ _)
              obtain ⟨z26, e⟩ := ky_chkE e
              refine gf_X6_50 rfl (i := 85) rfl (oc_X3 hmh16 (ly_X3_c z26)) rfl (?_ : ky_V _ _ _ 159 _ _ _ _)
              refine v_iadd (i := 86) rfl (?_ : ky_V _ _ _ 160 _ _ _ _)
              refine v_topi (fun x27 ex27 => ?_)
              replace e := ky_letE ex27 e
              refine v_istore (L' := [(0, .ref a), (1, .int p1), (2, .int p2), (3, .int p3), (4, .int p4), (5, .int p5), (6, .int p6), (7, .int p7), (8, .int p8), (9, .int p9), (10, .int x23), (11, .int x27), (12, .int x6)]) [1, 2, 3, 4, 5, 6, 7, 8, 9, 10, 11, 0, 12] (i := 87) rfl (Nat.le_of_ble_eq_true rfl) rfl (?_ : ky_V _ _ _ 162 _ _ _ _)
              refine v_iload (i := 88) (j := 12) rfl rfl (?_ : ky_V _ _ _ 164 _ _ _ _)
              refine v_aload_n (i := 89) (j := 0) rfl rfl (?_ : ky_V _ _ _ 165 _ _ _ _)
              rcases y28 : (sk_r q17 a 1) with _ | l29
              · replace e := ky_omN y28 e
                refine gf_X6_21 rfl (i := 90) rfl (oc_X6 hmh16 (ly_X6_c (lt_X6 frh16 za))) (sk_rn y28) (?_ : ky_V _ _ _ 168 _ _ _ _)
                cases e
              · replace e := ky_omS y28 e
                refine gf_X6_21 rfl (i := 90) rfl (oc_X6 hmh16 (ly_X6_c (lt_X6 frh16 za))) (sk_rf y28) (?_ : ky_V _ _ _ 168 _ _ _ _)
                obtain ⟨z30, e⟩ := ky_chkE e
                refine gf_X6_53 rfl (i := 91) rfl (oc_X3 hmh16 (ly_X3_c z30)) rfl (?_ : ky_V _ _ _ 171 _ _ _ _)
                refine v_iadd (i := 92) rfl (?_ : ky_V _ _ _ 172 _ _ _ _)
                refine v_topi (fun x31 ex31 => ?_)
                replace e := ky_letE ex31 e
                refine v_istore (L' := [(0, .ref a), (1, .int p1), (2, .int p2), (3, .int p3), (4, .int p4), (5, .int p5), (6, .int p6), (7, .int p7), (8, .int p8), (9, .int p9), (10, .int x23), (11, .int x27), (12, .int x31)]) [1, 2, 3, 4, 5, 6, 7, 8, 9, 10, 11, 12, 0] (i := 93) rfl (Nat.le_of_ble_eq_true rfl) rfl (?_ : ky_V _ _ _ 174 _ _ _ _)
                exact jv_X6_after_174 N hG a za hm hr h16 q17 p1 p2 p3 p4 p5 p6 p7 p8 p9 x23 x27 x31 hmh16 frh16 e

def x6_after (N : Nat)  (s : sk_S) (a : Nat) (p1 : Int32) (p2 : Int32) (p3 : Int32) (p4 : Int32) (p5 : Int32) : Option (sk_S × Int32) := (if lay_X6 (sk_K s) (sk_r s) a = true then (if (5 : Int32) ≤ p2 then (ky_let (po_depth0 p1) (fun x2 => (ky_let (po_depth1 p1) (fun x3 => (x6_after_J65 N a s p1 p2 p3 p4 p5 0 0 x2 x3))))) else (if p3 = (1 : Int32) then (ky_let (po_depth1 p1) (fun x7 => (ky_let (po_depth0 p1) (fun x8 => (x6_after_J65 N a s p1 p2 p3 p4 p5 1 1 x7 x8))))) else (ky_let (po_depth0 p1) (fun x5 => (ky_let (po_depth1 p1) (fun x6 => (x6_after_J65 N a s p1 p2 p3 p4 p5 1 0 x5 x6))))))) else none)
set_option maxRecDepth 20000 in
set_option maxHeartbeats 4000000 in
theorem k_X6_after {G : ky_GW} {d : Nat} {h : ky_HP} {Q : ky_RS → ky_HP → Prop} {s s9 : sk_S} {r9 : Int32} {a : Nat} {p1 : Int32} {p2 : Int32} {p3 : Int32} {p4 : Int32} {p5 : Int32} (N : Nat) (hG : ky_OK G)   (hm : sk_hp G s h)  (e : x6_after N  s a p1 p2 p3 p4 p5 = some (s9, r9)) (hr : ∀ h1, sk_hp G s9 h1 → sk_fr none s h s9 h1 → Q (.inl (some (.int r9))) h1) : ky_Call G (d + 2) M_X6_after [.ref a, .int p1, .int p2, .int p3, .int p4, .int p5] h Q := by
  refine ky_ofV (by decide +kernel) rfl ok_X6_after (Nat.le_of_ble_eq_true rfl) ?_
  have fr : sk_fr none s h s h := sk_fr.rf
  unfold x6_after at e
  refine (?_ : ky_V _ _ _ 0 [(0, .ref a), (1, .int p1), (2, .int p2), (3, .int p3), (4, .int p4), (5, .int p5)] [] _ _)
  obtain ⟨za, e⟩ := ky_chkE e
  refine v_iload_n (i := 0) (j := 2) rfl rfl (?_ : ky_V _ _ _ 1 _ _ _ _)
  refine v_iconst (v := 5) (i := 1) rfl (by decide) (?_ : ky_V _ _ _ 2 _ _ _ _)
  refine v_icmp_ge (tgt := 9) (i := 2) rfl (by decide) (fun c1 => ?_) (fun c1 => ?_)
  · replace e := ky_ifT c1 e
    refine v_iconst (v := 0) (i := 5) rfl (by decide) (?_ : ky_V _ _ _ 10 _ _ _ _)
    refine v_istore (L' := [(0, .ref a), (1, .int p1), (2, .int p2), (3, .int p3), (4, .int p4), (5, .int p5), (6, .int 0)]) [1, 2, 3, 4, 5, 6, 0] (i := 6) rfl (Nat.le_of_ble_eq_true rfl) rfl (?_ : ky_V _ _ _ 12 _ _ _ _)
    refine v_iload (i := 7) (j := 6) rfl rfl (?_ : ky_V _ _ _ 14 _ _ _ _)
    refine v_if_eq (tgt := 26) (i := 8) rfl (by decide) (fun _ => ?_) (fun c => absurd c (by decide))
    refine (?_ : ky_V _ _ _ 26 _ _ _ _)
    refine v_iconst (v := 0) (i := 14) rfl (by decide) (?_ : ky_V _ _ _ 27 _ _ _ _)
    refine v_istore (L' := [(0, .ref a), (1, .int p1), (2, .int p2), (3, .int p3), (4, .int p4), (5, .int p5), (6, .int 0), (7, .int 0)]) [1, 2, 3, 4, 5, 6, 7, 0] (i := 15) rfl (Nat.le_of_ble_eq_true rfl) rfl (?_ : ky_V _ _ _ 29 _ _ _ _)
    refine v_iload (i := 16) (j := 7) rfl rfl (?_ : ky_V _ _ _ 31 _ _ _ _)
    refine v_if_eq (tgt := 41) (i := 17) rfl (by decide) (fun _ => ?_) (fun c => absurd c (by decide))
    refine (?_ : ky_V _ _ _ 41 _ _ _ _)
    refine v_iload_n (i := 21) (j := 1) rfl rfl (?_ : ky_V _ _ _ 42 _ _ _ _)
    refine cl_X6_31 (As := [.int p1]) rfl (i := 22) rfl rfl rfl (Nat.le_of_ble_eq_true rfl) (k_X5_depth0 p1 ⟨_, rfl, (?_ : ky_V _ _ _ 45 _ [.int ((po_depth0 p1))] _ _)⟩)
    refine v_topi (fun x2 ex2 => ?_)
    replace e := ky_letE ex2 e
    refine v_istore (L' := [(0, .ref a), (1, .int p1), (2, .int p2), (3, .int p3), (4, .int p4), (5, .int p5), (6, .int 0), (7, .int 0), (8, .int x2)]) [1, 2, 3, 4, 5, 6, 7, 8, 0] (i := 23) rfl (Nat.le_of_ble_eq_true rfl) rfl (?_ : ky_V _ _ _ 47 _ _ _ _)
    refine v_iload (i := 24) (j := 7) rfl rfl (?_ : ky_V _ _ _ 49 _ _ _ _)
    refine v_if_eq (tgt := 59) (i := 25) rfl (by decide) (fun _ => ?_) (fun c => absurd c (by decide))
    refine (?_ : ky_V _ _ _ 59 _ _ _ _)
    refine v_iload_n (i := 29) (j := 1) rfl rfl (?_ : ky_V _ _ _ 60 _ _ _ _)
    refine cl_X6_25 (As := [.int p1]) rfl (i := 30) rfl rfl rfl (Nat.le_of_ble_eq_true rfl) (k_X5_depth1 p1 ⟨_, rfl, (?_ : ky_V _ _ _ 63 _ [.int ((po_depth1 p1))] _ _)⟩)
    refine v_topi (fun x3 ex3 => ?_)
    replace e := ky_letE ex3 e
    refine v_istore (L' := [(0, .ref a), (1, .int p1), (2, .int p2), (3, .int p3), (4, .int p4), (5, .int p5), (6, .int 0), (7, .int 0), (8, .int x2), (9, .int x3)]) [1, 2, 3, 4, 5, 6, 7, 8, 9, 0] (i := 31) rfl (Nat.le_of_ble_eq_true rfl) rfl (?_ : ky_V _ _ _ 65 _ _ _ _)
    exact jv_X6_after_65 N hG a za hm hr h s p1 p2 p3 p4 p5 0 0 x2 x3 hm fr e
  · replace e := ky_ifF c1 e
    refine v_iconst (v := 1) (i := 3) rfl (by decide) (?_ : ky_V _ _ _ 6 _ _ _ _)
    refine v_goto (tgt := 10) (i := 4) rfl (by decide) (?_ : ky_V _ _ _ 10 _ _ _ _)
    refine v_istore (L' := [(0, .ref a), (1, .int p1), (2, .int p2), (3, .int p3), (4, .int p4), (5, .int p5), (6, .int 1)]) [1, 2, 3, 4, 5, 6, 0] (i := 6) rfl (Nat.le_of_ble_eq_true rfl) rfl (?_ : ky_V _ _ _ 12 _ _ _ _)
    refine v_iload (i := 7) (j := 6) rfl rfl (?_ : ky_V _ _ _ 14 _ _ _ _)
    refine v_if_eq (tgt := 26) (i := 8) rfl (by decide) (fun c => absurd c (by decide)) (fun _ => ?_)
    refine (?_ : ky_V _ _ _ 17 _ _ _ _)
    refine v_iload_n (i := 9) (j := 3) rfl rfl (?_ : ky_V _ _ _ 18 _ _ _ _)
    refine v_iconst (v := 1) (i := 10) rfl (by decide) (?_ : ky_V _ _ _ 19 _ _ _ _)
    refine v_icmp_ne (tgt := 26) (i := 11) rfl (by decide) (fun c4 => ?_) (fun c4 => ?_)
    · replace e := ky_ifF c4 e
      refine v_iconst (v := 0) (i := 14) rfl (by decide) (?_ : ky_V _ _ _ 27 _ _ _ _)
      refine v_istore (L' := [(0, .ref a), (1, .int p1), (2, .int p2), (3, .int p3), (4, .int p4), (5, .int p5), (6, .int 1), (7, .int 0)]) [1, 2, 3, 4, 5, 6, 7, 0] (i := 15) rfl (Nat.le_of_ble_eq_true rfl) rfl (?_ : ky_V _ _ _ 29 _ _ _ _)
      refine v_iload (i := 16) (j := 7) rfl rfl (?_ : ky_V _ _ _ 31 _ _ _ _)
      refine v_if_eq (tgt := 41) (i := 17) rfl (by decide) (fun _ => ?_) (fun c => absurd c (by decide))
      refine (?_ : ky_V _ _ _ 41 _ _ _ _)
      refine v_iload_n (i := 21) (j := 1) rfl rfl (?_ : ky_V _ _ _ 42 _ _ _ _)
      refine cl_X6_31 (As := [.int p1]) rfl (i := 22) rfl rfl rfl (Nat.le_of_ble_eq_true rfl) (k_X5_depth0 p1 ⟨_, rfl, (?_ : ky_V _ _ _ 45 _ [.int ((po_depth0 p1))] _ _)⟩)
      refine v_topi (fun x5 ex5 => ?_)
      replace e := ky_letE ex5 e
      refine v_istore (L' := [(0, .ref a), (1, .int p1), (2, .int p2), (3, .int p3), (4, .int p4), (5, .int p5), (6, .int 1), (7, .int 0), (8, .int x5)]) [1, 2, 3, 4, 5, 6, 7, 8, 0] (i := 23) rfl (Nat.le_of_ble_eq_true rfl) rfl (?_ : ky_V _ _ _ 47 _ _ _ _)
      refine v_iload (i := 24) (j := 7) rfl rfl (?_ : ky_V _ _ _ 49 _ _ _ _)
      refine v_if_eq (tgt := 59) (i := 25) rfl (by decide) (fun _ => ?_) (fun c => absurd c (by decide))
      refine (?_ : ky_V _ _ _ 59 _ _ _ _)
      refine v_iload_n (i := 29) (j := 1) rfl rfl (?_ : ky_V _ _ _ 60 _ _ _ _)
      refine cl_X6_25 (As := [.int p1]) rfl (i := 30) rfl rfl rfl (Nat.le_of_ble_eq_true rfl) (k_X5_depth1 p1 ⟨_, rfl, (?_ : ky_V _ _ _ 63 _ [.int ((po_depth1 p1))] _ _)⟩)
      refine v_topi (fun x6 ex6 => ?_)
      replace e := ky_letE ex6 e
      refine v_istore (L' := [(0, .ref a), (1, .int p1), (2, .int p2), (3, .int p3), (4, .int p4), (5, .int p5), (6, .int 1), (7, .int 0), (8, .int x5), (9, .int x6)]) [1, 2, 3, 4, 5, 6, 7, 8, 9, 0] (i := 31) rfl (Nat.le_of_ble_eq_true rfl) rfl (?_ : ky_V _ _ _ 65 _ _ _ _)
      exact jv_X6_after_65 N hG a za hm hr h s p1 p2 p3 p4 p5 1 0 x5 x6 hm fr e
    · replace e := ky_ifT c4 e
      refine v_iconst (v := 1) (i := 12) rfl (by decide) (?_ : ky_V _ _ _ 23 _ _ _ _)
      refine v_goto (tgt := 27) (i := 13) rfl (by decide) (?_ : ky_V _ _ _ 27 _ _ _ _)
      refine v_istore (L' := [(0, .ref a), (1, .int p1), (2, .int p2), (3, .int p3), (4, .int p4), (5, .int p5), (6, .int 1), (7, .int 1)]) [1, 2, 3, 4, 5, 6, 7, 0] (i := 15) rfl (Nat.le_of_ble_eq_true rfl) rfl (?_ : ky_V _ _ _ 29 _ _ _ _)
      refine v_iload (i := 16) (j := 7) rfl rfl (?_ : ky_V _ _ _ 31 _ _ _ _)
      refine v_if_eq (tgt := 41) (i := 17) rfl (by decide) (fun c => absurd c (by decide)) (fun _ => ?_)
      refine (?_ : ky_V _ _ _ 34 _ _ _ _)
      refine v_iload_n (i := 18) (j := 1) rfl rfl (?_ : ky_V _ _ _ 35 _ _ _ _)
      refine cl_X6_25 (As := [.int p1]) rfl (i := 19) rfl rfl rfl (Nat.le_of_ble_eq_true rfl) (k_X5_depth1 p1 ⟨_, rfl, (?_ : ky_V _ _ _ 38 _ [.int ((po_depth1 p1))] _ _)⟩)
      refine v_goto (tgt := 45) (i := 20) rfl (by decide) (?_ : ky_V _ _ _ 45 _ _ _ _)
      refine v_topi (fun x7 ex7 => ?_)
      replace e := ky_letE ex7 e
      refine v_istore (L' := [(0, .ref a), (1, .int p1), (2, .int p2), (3, .int p3), (4, .int p4), (5, .int p5), (6, .int 1), (7, .int 1), (8, .int x7)]) [1, 2, 3, 4, 5, 6, 7, 8, 0] (i := 23) rfl (Nat.le_of_ble_eq_true rfl) rfl (?_ : ky_V _ _ _ 47 _ _ _ _)
      refine v_iload (i := 24) (j := 7) rfl rfl (?_ : ky_V _ _ _ 49 _ _ _ _)
      refine v_if_eq (tgt := 59) (i := 25) rfl (by decide) (fun c => absurd c (by decide)) (fun _ => ?_)
      refine (?_ : ky_V _ _ _ 52 _ _ _ _)
      refine v_iload_n (i := 26) (j := 1) rfl rfl (?_ : ky_V _ _ _ 53 _ _ _ _)
      refine cl_X6_31 (As := [.int p1]) rfl (i := 27) rfl rfl rfl (Nat.le_of_ble_eq_true rfl) (k_X5_depth0 p1 ⟨_, rfl, (?_ : ky_V _ _ _ 56 _ [.int ((po_depth0 p1))] _ _)⟩)
      refine v_goto (tgt := 63) (i := 28) rfl (by decide) (?_ : ky_V _ _ _ 63 _ _ _ _)
      refine v_topi (fun x8 ex8 => ?_)
      replace e := ky_letE ex8 e
      refine v_istore (L' := [(0, .ref a), (1, .int p1), (2, .int p2), (3, .int p3), (4, .int p4), (5, .int p5), (6, .int 1), (7, .int 1), (8, .int x7), (9, .int x8)]) [1, 2, 3, 4, 5, 6, 7, 8, 9, 0] (i := 31) rfl (Nat.le_of_ble_eq_true rfl) rfl (?_ : ky_V _ _ _ 65 _ _ _ _)
      exact jv_X6_after_65 N hG a za hm hr h s p1 p2 p3 p4 p5 1 1 x7 x8 hm fr e

def x8_overladen_L4 (N : Nat)  (a : Nat) (k : sk_S → Int64 → Int32 → Option (sk_S × Int64)) : Nat → sk_S → Int64 → Int32 → Option (sk_S × Int64)
  | 0, _, _, _ => none
  | n + 1, c, p1, p3 => (if (sk_c c a 6) ≤ p3 then (k c p1 p3) else (if ky_inB p3 6 = true then ((x8_laden N c a (sk_c c (a + 3) (Int32.toNatClampNeg p3))).bind (fun zz => (fun q4 x5 => (if ky_inB (sk_c q4 (a + 3) (Int32.toNatClampNeg p3)) 64 = true then (if x5 ≤ (sk_c q4 (a + 1) (Int32.toNatClampNeg (sk_c q4 (a + 3) (Int32.toNatClampNeg p3)))) then (ky_let (p3 + 1) (fun x9 => (x8_overladen_L4 N a k n q4 p1 x9))) else (ky_let (p1 ||| (1 <<< (Int32.toInt64 (sk_c q4 (a + 3) (Int32.toNatClampNeg p3)) &&& 63))) (fun x10 => (ky_let (p3 + 1) (fun x11 => (x8_overladen_L4 N a k n q4 x10 x11)))))) else none)) zz.1 zz.2)) else none))
set_option maxRecDepth 20000 in
set_option maxHeartbeats 4000000 in
theorem lv_X8_overladen_4 {G : ky_GW} {d : Nat} {s s9 : sk_S} {h0 : ky_HP} {Q : ky_RS → ky_HP → Prop} {r9 : Int64} (N : Nat) (hG : ky_OK G)  (a : Nat)   (za : lay_X8 (sk_K s) (sk_r s) a = true) (hm : sk_hp G s h0) (k : sk_S → Int64 → Int32 → Option (sk_S × Int64)) (hr : ∀ h1, sk_hp G s9 h1 → sk_fr none s h0 s9 h1 → Q (.inl (some (.long r9))) h1)
    (hk : ∀ (h : ky_HP) (c : sk_S) (p1 : Int64) (p3 : Int32), sk_hp G c h → sk_fr none s h0 c h → k c p1 p3 = some (s9, r9) → ky_V G (d + 1) M_X8_overladen 53 [(0, .ref a), (1, .long p1), (3, .int p3)] [] h Q) :
    ∀ (n : Nat) (h : ky_HP) (c : sk_S) (p1 : Int64) (p3 : Int32), sk_hp G c h → sk_fr none s h0 c h → x8_overladen_L4 N a k n c p1 p3 = some (s9, r9) → ky_V G (d + 1) M_X8_overladen 4 [(0, .ref a), (1, .long p1), (3, .int p3)] [] h Q := by
  intro n
  induction n with
  | zero => intro h c p1 p3 hm1 fr e; cases e
  | succ n ih =>
    intro h c p1 p3 hm1 fr e
    rw [x8_overladen_L4] at e
    refine v_iload_n (i := 4) (j := 2) rfl rfl (?_ : ky_V _ _ _ 5 _ _ _ _)
    refine v_aload_n (i := 5) (j := 0) rfl rfl (?_ : ky_V _ _ _ 6 _ _ _ _)
    refine gf_X8_44 rfl (i := 6) rfl (oc_X8 hm1 (ly_X8_c (lt_X8 fr za))) rfl (?_ : ky_V _ _ _ 9 _ _ _ _)
    refine v_icmp_ge (tgt := 53) (i := 7) rfl (by decide) (fun c1 => ?_) (fun c1 => ?_)
    · replace e := ky_ifT c1 e
      exact hk h c p1 p3 hm1 fr e
    · replace e := ky_ifF c1 e
      refine v_aload_n (i := 8) (j := 0) rfl rfl (?_ : ky_V _ _ _ 13 _ _ _ _)
      refine v_aload_n (i := 9) (j := 0) rfl rfl (?_ : ky_V _ _ _ 14 _ _ _ _)
      refine gf_X8_18 rfl (i := 10) rfl (oc_X8 hm1 (ly_X8_c (lt_X8 fr za))) (sk_rf (ly_X8_r2 (lt_X8 fr za))) (?_ : ky_V _ _ _ 17 _ (.ref (a + 3) :: _) _ _)
      refine v_iload_n (i := 11) (j := 2) rfl rfl (?_ : ky_V _ _ _ 18 _ _ _ _)
      obtain ⟨z2, e⟩ := ky_chkE e
      refine v_iald (i := 12) rfl (oa_21 hm1 (ly_X8_k2 (lt_X8 fr za))) (ky_inb z2) (?_ : ky_V _ _ _ 19 _ (.int (sk_c c (a + 3) (Int32.toNatClampNeg p3)) :: _) _ _)
      obtain ⟨⟨q4, x5⟩, g6, e⟩ := Option.bind_eq_some_iff.mp e
      refine cl_X8_105 (As := [.int ((sk_c c (a + 3) (Int32.toNatClampNeg p3)))]) rfl (i := 13) rfl (oc_X8 hm1 (ly_X8_c (lt_X8 fr za))) rfl rfl (Nat.le_of_ble_eq_true rfl) (k_X8_laden N hG hm1 g6 (fun h3 hmh3 frh3 => ⟨_, rfl, (?_ : ky_V _ _ _ 22 _ [.int x5] _ _)⟩))
      have frh3 := fr.tr frh3
      refine v_aload_n (i := 14) (j := 0) rfl rfl (?_ : ky_V _ _ _ 23 _ _ _ _)
      refine gf_X8_9 rfl (i := 15) rfl (oc_X8 hmh3 (ly_X8_c (lt_X8 frh3 za))) (sk_rf (ly_X8_r0 (lt_X8 frh3 za))) (?_ : ky_V _ _ _ 26 _ (.ref (a + 1) :: _) _ _)
      refine v_aload_n (i := 16) (j := 0) rfl rfl (?_ : ky_V _ _ _ 27 _ _ _ _)
      refine gf_X8_18 rfl (i := 17) rfl (oc_X8 hmh3 (ly_X8_c (lt_X8 frh3 za))) (sk_rf (ly_X8_r2 (lt_X8 frh3 za))) (?_ : ky_V _ _ _ 30 _ (.ref (a + 3) :: _) _ _)
      refine v_iload_n (i := 18) (j := 2) rfl rfl (?_ : ky_V _ _ _ 31 _ _ _ _)
      refine v_iald (i := 19) rfl (oa_21 hmh3 (ly_X8_k2 (lt_X8 frh3 za))) (ky_inb z2) (?_ : ky_V _ _ _ 32 _ (.int (sk_c q4 (a + 3) (Int32.toNatClampNeg p3)) :: _) _ _)
      obtain ⟨z7, e⟩ := ky_chkE e
      refine v_iald (i := 20) rfl (oa_21 hmh3 (ly_X8_k0 (lt_X8 frh3 za))) (ky_inb z7) (?_ : ky_V _ _ _ 33 _ (.int (sk_c q4 (a + 1) (Int32.toNatClampNeg (sk_c q4 (a + 3) (Int32.toNatClampNeg p3)))) :: _) _ _)
      refine v_icmp_le (tgt := 47) (i := 21) rfl (by decide) (fun c8 => ?_) (fun c8 => ?_)
      · replace e := ky_ifT c8 e
        obtain ⟨x9, ex9⟩ : ∃ z : Int32, z = p3 + 1 := ⟨_, rfl⟩
        replace e := ky_letE ex9 e
        refine v_iinc (v := x9) (j := 2) (L' := [(0, .ref a), (1, .long p1), (3, .int x9)]) [1, 2, 0] (i := 31) rfl rfl (by rw [ex9]; rfl) (Nat.le_of_ble_eq_true rfl) rfl (?_ : ky_V _ _ _ 50 _ _ _ _)
        refine v_goto (tgt := 4) (i := 32) rfl (by decide) (?_ : ky_V _ _ _ 4 _ _ _ _)
        exact ih h3 q4 p1 x9 hmh3 frh3 e
      · replace e := ky_ifF c8 e
        refine v_lload_n (i := 22) (j := 1) rfl rfl (?_ : ky_V _ _ _ 37 _ _ _ _)
        refine v_lconst (v := 1) (i := 23) rfl (by decide) (?_ : ky_V _ _ _ 38 _ _ _ _)
        refine v_aload_n (i := 24) (j := 0) rfl rfl (?_ : ky_V _ _ _ 39 _ _ _ _)
        refine gf_X8_18 rfl (i := 25) rfl (oc_X8 hmh3 (ly_X8_c (lt_X8 frh3 za))) (sk_rf (ly_X8_r2 (lt_X8 frh3 za))) (?_ : ky_V _ _ _ 42 _ (.ref (a + 3) :: _) _ _)
        refine v_iload_n (i := 26) (j := 2) rfl rfl (?_ : ky_V _ _ _ 43 _ _ _ _)
        refine v_iald (i := 27) rfl (oa_21 hmh3 (ly_X8_k2 (lt_X8 frh3 za))) (ky_inb z2) (?_ : ky_V _ _ _ 44 _ (.int (sk_c q4 (a + 3) (Int32.toNatClampNeg p3)) :: _) _ _)
        refine v_lshl (i := 28) rfl rfl (?_ : ky_V _ _ _ 45 _ _ _ _)
        refine v_lor (i := 29) rfl (?_ : ky_V _ _ _ 46 _ _ _ _)
        refine v_topl (fun x10 ex10 => ?_)
        replace e := ky_letE ex10 e
        refine v_lstore_n (L' := [(0, .ref a), (1, .long x10), (3, .int p3)]) [1, 0, 2] (i := 30) rfl (Nat.le_of_ble_eq_true rfl) rfl (?_ : ky_V _ _ _ 47 _ _ _ _)
        obtain ⟨x11, ex11⟩ : ∃ z : Int32, z = p3 + 1 := ⟨_, rfl⟩
        replace e := ky_letE ex11 e
        refine v_iinc (v := x11) (j := 2) (L' := [(0, .ref a), (1, .long x10), (3, .int x11)]) [1, 2, 0] (i := 31) rfl rfl (by rw [ex11]; rfl) (Nat.le_of_ble_eq_true rfl) rfl (?_ : ky_V _ _ _ 50 _ _ _ _)
        refine v_goto (tgt := 4) (i := 32) rfl (by decide) (?_ : ky_V _ _ _ 4 _ _ _ _)
        exact ih h3 q4 x10 x11 hmh3 frh3 e

def x8_overladen (N : Nat)  (s : sk_S) (a : Nat) : Option (sk_S × Int64) := (if lay_X8 (sk_K s) (sk_r s) a = true then (x8_overladen_L4 N a (fun q2 x3 x4 => (some (q2, x3))) N s 0 0) else none)
set_option maxRecDepth 20000 in
set_option maxHeartbeats 4000000 in
theorem k_X8_overladen {G : ky_GW} {d : Nat} {h : ky_HP} {Q : ky_RS → ky_HP → Prop} {s s9 : sk_S} {r9 : Int64} {a : Nat} (N : Nat) (hG : ky_OK G)   (hm : sk_hp G s h)  (e : x8_overladen N  s a = some (s9, r9)) (hr : ∀ h1, sk_hp G s9 h1 → sk_fr none s h s9 h1 → Q (.inl (some (.long r9))) h1) : ky_Call G (d + 1) M_X8_overladen [.ref a] h Q := by
  refine ky_ofV (by decide +kernel) rfl ok_X8_overladen (Nat.le_of_ble_eq_true rfl) ?_
  have fr : sk_fr none s h s h := sk_fr.rf
  unfold x8_overladen at e
  refine (?_ : ky_V _ _ _ 0 [(0, .ref a)] [] _ _)
  obtain ⟨za, e⟩ := ky_chkE e
  refine v_lconst (v := 0) (i := 0) rfl (by decide) (?_ : ky_V _ _ _ 1 _ _ _ _)
  refine v_lstore_n (L' := [(0, .ref a), (1, .long 0)]) [1, 0] (i := 1) rfl (Nat.le_of_ble_eq_true rfl) rfl (?_ : ky_V _ _ _ 2 _ _ _ _)
  refine v_iconst (v := 0) (i := 2) rfl (by decide) (?_ : ky_V _ _ _ 3 _ _ _ _)
  refine v_istore_n (L' := [(0, .ref a), (1, .long 0), (3, .int 0)]) [1, 2, 0] (i := 3) rfl (Nat.le_of_ble_eq_true rfl) rfl (?_ : ky_V _ _ _ 4 _ _ _ _)
  refine lv_X8_overladen_4 N hG a za hm _ hr (fun h1 q2 x3 x4 hmh1 frh1 e => ?_) N h s 0 0 hm fr e
  refine v_lload_n (i := 33) (j := 1) rfl rfl (?_ : ky_V _ _ _ 54 _ _ _ _)
  refine v_lret (v := x3) (i := 34) rfl rfl ?_
  obtain ⟨rfl, rfl⟩ := ky_leaf e
  exact hr _ hmh1 frh1

def x8_mostPlaced_L10 (N : Nat)  (a : Nat) (k : sk_S → Int64 → Int32 → Int32 → Option (sk_S × Int32)) : Nat → sk_S → Int64 → Int32 → Int32 → Option (sk_S × Int32)
  | 0, _, _, _, _ => none
  | n + 1, c, p1, p3, p4 => (if (9 : Int32) < p4 then (k c p1 p3 p4) else ((x8_bearing N c a p4).bind (fun zz => (fun q3 x4 => ((x8_bearing N q3 a (p4 + 1)).bind (fun zz => (fun q7 x8 => (ky_let (jl_bitCount ((p1 &&& x4) &&& (x8 ^^^ (-1)))) (fun x10 => ((x8_notHeavierThan N q7 a p4).bind (fun zz => (fun q12 x13 => (ky_let (p3 + (mt_min x10 (x13 - p3))) (fun x15 => (ky_let (p4 + 1) (fun x16 => (x8_mostPlaced_L10 N a k n q12 p1 x15 x16)))))) zz.1 zz.2))))) zz.1 zz.2))) zz.1 zz.2)))
set_option maxRecDepth 20000 in
set_option maxHeartbeats 4000000 in
theorem lv_X8_mostPlaced_10 {G : ky_GW} {d : Nat} {s s9 : sk_S} {h0 : ky_HP} {Q : ky_RS → ky_HP → Prop} {r9 : Int32} (N : Nat) (hG : ky_OK G)  (a : Nat)   (za : lay_X8 (sk_K s) (sk_r s) a = true) (hm : sk_hp G s h0) (k : sk_S → Int64 → Int32 → Int32 → Option (sk_S × Int32)) (hr : ∀ h1, sk_hp G s9 h1 → sk_fr none s h0 s9 h1 → Q (.inl (some (.int r9))) h1)
    (hk : ∀ (h : ky_HP) (c : sk_S) (p1 : Int64) (p3 : Int32) (p4 : Int32), sk_hp G c h → sk_fr none s h0 c h → k c p1 p3 p4 = some (s9, r9) → ky_V G (d + 2) M_X8_mostPlaced 65 [(0, .ref a), (1, .long p1), (3, .int p3), (4, .int p4)] [] h Q) :
    ∀ (n : Nat) (h : ky_HP) (c : sk_S) (p1 : Int64) (p3 : Int32) (p4 : Int32), sk_hp G c h → sk_fr none s h0 c h → x8_mostPlaced_L10 N a k n c p1 p3 p4 = some (s9, r9) → ky_V G (d + 2) M_X8_mostPlaced 10 [(0, .ref a), (1, .long p1), (3, .int p3), (4, .int p4)] [] h Q := by
  intro n
  induction n with
  | zero => intro h c p1 p3 p4 hm1 fr e; cases e
  | succ n ih =>
    intro h c p1 p3 p4 hm1 fr e
    rw [x8_mostPlaced_L10] at e
    refine v_iload (i := 7) (j := 3) rfl rfl (?_ : ky_V _ _ _ 12 _ _ _ _)
    refine v_bipush (v := 9) (i := 8) rfl (by decide) (?_ : ky_V _ _ _ 14 _ _ _ _)
    refine v_icmp_gt (tgt := 65) (i := 9) rfl (by decide) (fun c1 => ?_) (fun c1 => ?_)
    · replace e := ky_ifT c1 e
      exact hk h c p1 p3 p4 hm1 fr e
    · replace e := ky_ifF c1 e
      refine v_lload_n (i := 10) (j := 1) rfl rfl (?_ : ky_V _ _ _ 18 _ _ _ _)
      refine v_aload_n (i := 11) (j := 0) rfl rfl (?_ : ky_V _ _ _ 19 _ _ _ _)
      refine v_iload (i := 12) (j := 3) rfl rfl (?_ : ky_V _ _ _ 21 _ _ _ _)
      obtain ⟨⟨q3, x4⟩, g5, e⟩ := Option.bind_eq_some_iff.mp e
      refine cl_X8_60 (As := [.int p4]) rfl (i := 13) rfl (oc_X8 hm1 (ly_X8_c (lt_X8 fr za))) rfl rfl (Nat.le_of_ble_eq_true rfl) (k_X8_bearing N hG hm1 g5 (fun h2 hmh2 frh2 => ⟨_, rfl, (?_ : ky_V _ _ _ 24 _ [.long x4, .long p1] _ _)⟩))
      have frh2 := fr.tr frh2
      refine v_land (i := 14) rfl (?_ : ky_V _ _ _ 25 _ _ _ _)
      refine v_aload_n (i := 15) (j := 0) rfl rfl (?_ : ky_V _ _ _ 26 _ _ _ _)
      refine v_iload (i := 16) (j := 3) rfl rfl (?_ : ky_V _ _ _ 28 _ _ _ _)
      refine v_iconst (v := 1) (i := 17) rfl (by decide) (?_ : ky_V _ _ _ 29 _ _ _ _)
      refine v_iadd (i := 18) rfl (?_ : ky_V _ _ _ 30 _ _ _ _)
      obtain ⟨⟨q7, x8⟩, g9, e⟩ := Option.bind_eq_some_iff.mp e
      refine cl_X8_60 (As := [.int ((p4 + 1))]) rfl (i := 19) rfl (oc_X8 hmh2 (ly_X8_c (lt_X8 frh2 za))) rfl rfl (Nat.le_of_ble_eq_true rfl) (k_X8_bearing N hG hmh2 g9 (fun h6 hmh6 frh6 => ⟨_, rfl, (?_ : ky_V _ _ _ 33 _ [.long x8, .long ((p1 &&& x4))] _ _)⟩))
      have frh6 := frh2.tr frh6
      refine v_ldc2 (v := (-1)) (i := 20) rfl (ky_t3 (i := 93) rfl rfl) (?_ : ky_V _ _ _ 36 _ _ _ _)
      refine v_lxor (i := 21) rfl (?_ : ky_V _ _ _ 37 _ _ _ _)
      refine v_land (i := 22) rfl (?_ : ky_V _ _ _ 38 _ _ _ _)
      refine cl_X8_99 (As := [.long (((p1 &&& x4) &&& (x8 ^^^ (-1))))]) rfl (i := 23) rfl rfl rfl (Nat.le_of_ble_eq_true rfl) (k_J13_bitCount_95d88 ((p1 &&& x4) &&& (x8 ^^^ (-1))) ⟨_, rfl, (?_ : ky_V _ _ _ 41 _ [.int ((jl_bitCount ((p1 &&& x4) &&& (x8 ^^^ (-1)))))] _ _)⟩)
      refine v_topi (fun x10 ex10 => ?_)
      replace e := ky_letE ex10 e
      refine v_istore (L' := [(0, .ref a), (1, .long p1), (3, .int p3), (4, .int p4), (5, .int x10)]) [1, 2, 3, 4, 0] (i := 24) rfl (Nat.le_of_ble_eq_true rfl) rfl (?_ : ky_V _ _ _ 43 _ _ _ _)
      refine v_iload_n (i := 25) (j := 2) rfl rfl (?_ : ky_V _ _ _ 44 _ _ _ _)
      refine v_iload (i := 26) (j := 4) rfl rfl (?_ : ky_V _ _ _ 46 _ _ _ _)
      refine v_aload_n (i := 27) (j := 0) rfl rfl (?_ : ky_V _ _ _ 47 _ _ _ _)
      refine v_iload (i := 28) (j := 3) rfl rfl (?_ : ky_V _ _ _ 49 _ _ _ _)
      obtain ⟨⟨q12, x13⟩, g14, e⟩ := Option.bind_eq_some_iff.mp e
      refine cl_X8_112 (As := [.int p4]) rfl (i := 29) rfl (oc_X8 hmh6 (ly_X8_c (lt_X8 frh6 za))) rfl rfl (Nat.le_of_ble_eq_true rfl) (k_X8_notHeavierThan N hG hmh6 g14 (fun h11 hmh11 frh11 => ⟨_, rfl, (?_ : ky_V _ _ _ 52 _ [.int x13, .int x10, .int p3] _ _)⟩))
      have frh11 := frh6.tr frh11
      refine v_iload_n (i := 30) (j := 2) rfl rfl (?_ : ky_V _ _ _ 53 _ _ _ _)
      refine v_isub (i := 31) rfl (?_ : ky_V _ _ _ 54 _ _ _ _)
      refine cl_X8_54 rfl (i := 32) rfl (Nat.le_of_ble_eq_true rfl) (?_ : ky_V _ _ _ 57 _ _ _ _)
      refine v_iadd (i := 33) rfl (?_ : ky_V _ _ _ 58 _ _ _ _)
      refine v_topi (fun x15 ex15 => ?_)
      replace e := ky_letE ex15 e
      refine v_istore_n (L' := [(0, .ref a), (1, .long p1), (3, .int x15), (4, .int p4), (5, .int x10)]) [1, 2, 0, 3, 4] (i := 34) rfl (Nat.le_of_ble_eq_true rfl) rfl (?_ : ky_V _ _ _ 59 _ _ _ _)
      obtain ⟨x16, ex16⟩ : ∃ z : Int32, z = p4 + 1 := ⟨_, rfl⟩
      replace e := ky_letE ex16 e
      refine v_iinc (v := x16) (j := 3) (L' := [(0, .ref a), (1, .long p1), (3, .int x15), (4, .int x16), (5, .int x10)]) [1, 2, 3, 0, 4] (i := 35) rfl rfl (by rw [ex16]; rfl) (Nat.le_of_ble_eq_true rfl) rfl (?_ : ky_V _ _ _ 62 _ _ _ _)
      refine v_goto (tgt := 10) (i := 36) rfl (by decide) (?_ : ky_V _ _ _ 10 _ _ _ _)
      refine ky_loc (L' := [(0, .ref a), (1, .long p1), (3, .int x15), (4, .int x16)]) (by simp) ?_
      exact ih h11 q12 p1 x15 x16 hmh11 frh11 e

def x8_mostPlaced (N : Nat)  (s : sk_S) (a : Nat) : Option (sk_S × Int32) := (if lay_X8 (sk_K s) (sk_r s) a = true then ((x8_ropeCells N s a).bind (fun zz => (fun q2 x3 => (x8_mostPlaced_L10 N a (fun q6 x7 x8 x9 => (some (q6, x8))) N q2 x3 0 1)) zz.1 zz.2)) else none)
set_option maxRecDepth 20000 in
set_option maxHeartbeats 4000000 in
theorem k_X8_mostPlaced {G : ky_GW} {d : Nat} {h : ky_HP} {Q : ky_RS → ky_HP → Prop} {s s9 : sk_S} {r9 : Int32} {a : Nat} (N : Nat) (hG : ky_OK G)   (hm : sk_hp G s h)  (e : x8_mostPlaced N  s a = some (s9, r9)) (hr : ∀ h1, sk_hp G s9 h1 → sk_fr none s h s9 h1 → Q (.inl (some (.int r9))) h1) : ky_Call G (d + 2) M_X8_mostPlaced [.ref a] h Q := by
  refine ky_ofV (by decide +kernel) rfl ok_X8_mostPlaced (Nat.le_of_ble_eq_true rfl) ?_
  have fr : sk_fr none s h s h := sk_fr.rf
  unfold x8_mostPlaced at e
  refine (?_ : ky_V _ _ _ 0 [(0, .ref a)] [] _ _)
  obtain ⟨za, e⟩ := ky_chkE e
  refine v_aload_n (i := 0) (j := 0) rfl rfl (?_ : ky_V _ _ _ 1 _ _ _ _)
  obtain ⟨⟨q2, x3⟩, g4, e⟩ := Option.bind_eq_some_iff.mp e
  refine cl_X8_108 (As := []) rfl (i := 1) rfl (oc_X8 hm (ly_X8_c za)) rfl rfl (Nat.le_of_ble_eq_true rfl) (k_X8_ropeCells N hG hm g4 (fun h1 hmh1 frh1 => ⟨_, rfl, (?_ : ky_V _ _ _ 4 _ [.long x3] _ _)⟩))
  have frh1 := fr.tr frh1
  refine v_lstore_n (L' := [(0, .ref a), (1, .long x3)]) [1, 0] (i := 2) rfl (Nat.le_of_ble_eq_true rfl) rfl (?_ : ky_V _ _ _ 5 _ _ _ _)
  refine v_iconst (v := 0) (i := 3) rfl (by decide) (?_ : ky_V _ _ _ 6 _ _ _ _)
  refine v_istore_n (L' := [(0, .ref a), (1, .long x3), (3, .int 0)]) [1, 2, 0] (i := 4) rfl (Nat.le_of_ble_eq_true rfl) rfl (?_ : ky_V _ _ _ 7 _ _ _ _)
  refine v_iconst (v := 1) (i := 5) rfl (by decide) (?_ : ky_V _ _ _ 8 _ _ _ _)
  refine v_istore (L' := [(0, .ref a), (1, .long x3), (3, .int 0), (4, .int 1)]) [1, 2, 3, 0] (i := 6) rfl (Nat.le_of_ble_eq_true rfl) rfl (?_ : ky_V _ _ _ 10 _ _ _ _)
  refine lv_X8_mostPlaced_10 N hG a za hm _ hr (fun h5 q6 x7 x8 x9 hmh5 frh5 e => ?_) N h1 q2 x3 0 1 hmh1 frh1 e
  refine v_iload_n (i := 37) (j := 2) rfl rfl (?_ : ky_V _ _ _ 66 _ _ _ _)
  refine v_iret (v := x8) (ty := .int) (i := 38) rfl rfl rfl ?_
  obtain ⟨rfl, rfl⟩ := ky_leaf e
  exact hr _ hmh5 frh5

def x8_boardsToCome_L69 (N : Nat)  (a : Nat) (k : sk_S → Int32 → Int64 → Int64 → Int64 → Int64 → Int64 → Int32 → Option (sk_S × Int32)) : Nat → sk_S → Int32 → Int64 → Int64 → Int64 → Int64 → Int64 → Int32 → Option (sk_S × Int32)
  | 0, _, _, _, _, _, _, _, _ => none
  | n + 1, c, p1, p2, p4, p6, p8, p10, p12 => (if (sk_c c a 7) < p12 then (k c p1 p2 p4 p6 p8 p10 p12) else (if (lg_cmp (p10 &&& p4) 0) = 0 then ((x8_flood N c (p10 ||| ((sh_beside p10) &&& p8)) p6).bind (fun zz => (fun q4 x5 => (ky_let (p12 + 1) (fun x7 => (x8_boardsToCome_L69 N a k n q4 p1 p2 p4 p6 p8 x5 x7)))) zz.1 zz.2)) else (some (c, p12))))
set_option maxRecDepth 20000 in
set_option maxHeartbeats 4000000 in
theorem lv_X8_boardsToCome_69 {G : ky_GW} {d : Nat} {s s9 : sk_S} {h0 : ky_HP} {Q : ky_RS → ky_HP → Prop} {r9 : Int32} (N : Nat) (hG : ky_OK G)  (a : Nat)   (za : lay_X8 (sk_K s) (sk_r s) a = true) (hm : sk_hp G s h0) (k : sk_S → Int32 → Int64 → Int64 → Int64 → Int64 → Int64 → Int32 → Option (sk_S × Int32)) (hr : ∀ h1, sk_hp G s9 h1 → sk_fr none s h0 s9 h1 → Q (.inl (some (.int r9))) h1)
    (hk : ∀ (h : ky_HP) (c : sk_S) (p1 : Int32) (p2 : Int64) (p4 : Int64) (p6 : Int64) (p8 : Int64) (p10 : Int64) (p12 : Int32), sk_hp G c h → sk_fr none s h0 c h → k c p1 p2 p4 p6 p8 p10 p12 = some (s9, r9) → ky_V G (d + 2) M_X8_boardsToCome 115 [(0, .ref a), (1, .int p1), (2, .long p2), (4, .long p4), (6, .long p6), (8, .long p8), (10, .long p10), (12, .int p12)] [] h Q) :
    ∀ (n : Nat) (h : ky_HP) (c : sk_S) (p1 : Int32) (p2 : Int64) (p4 : Int64) (p6 : Int64) (p8 : Int64) (p10 : Int64) (p12 : Int32), sk_hp G c h → sk_fr none s h0 c h → x8_boardsToCome_L69 N a k n c p1 p2 p4 p6 p8 p10 p12 = some (s9, r9) → ky_V G (d + 2) M_X8_boardsToCome 69 [(0, .ref a), (1, .int p1), (2, .long p2), (4, .long p4), (6, .long p6), (8, .long p8), (10, .long p10), (12, .int p12)] [] h Q := by
  intro n
  induction n with
  | zero => intro h c p1 p2 p4 p6 p8 p10 p12 hm1 fr e; cases e
  | succ n ih =>
    intro h c p1 p2 p4 p6 p8 p10 p12 hm1 fr e
    rw [x8_boardsToCome_L69] at e
    refine v_iload (i := 43) (j := 7) rfl rfl (?_ : ky_V _ _ _ 71 _ _ _ _)
    refine v_aload_n (i := 44) (j := 0) rfl rfl (?_ : ky_V _ _ _ 72 _ _ _ _)
    refine gf_X8_47 rfl (i := 45) rfl (oc_X8 hm1 (ly_X8_c (lt_X8 fr za))) rfl (?_ : ky_V _ _ _ 75 _ _ _ _)
    refine v_icmp_gt (tgt := 115) (i := 46) rfl (by decide) (fun c1 => ?_) (fun c1 => ?_)
    · replace e := ky_ifT c1 e
      exact hk h c p1 p2 p4 p6 p8 p10 p12 hm1 fr e
    · replace e := ky_ifF c1 e
      refine v_lload (i := 47) (j := 6) rfl rfl (?_ : ky_V _ _ _ 80 _ _ _ _)
      refine v_lload (i := 48) (j := 3) rfl rfl (?_ : ky_V _ _ _ 82 _ _ _ _)
      refine v_land (i := 49) rfl (?_ : ky_V _ _ _ 83 _ _ _ _)
      refine v_lconst (v := 0) (i := 50) rfl (by decide) (?_ : ky_V _ _ _ 84 _ _ _ _)
      refine v_lcmp (i := 51) rfl (?_ : ky_V _ _ _ 85 _ _ _ _)
      refine v_if_eq (tgt := 91) (i := 52) rfl (by decide) (fun c2 => ?_) (fun c2 => ?_)
      · replace e := ky_ifT c2 e
        refine v_lload (i := 55) (j := 6) rfl rfl (?_ : ky_V _ _ _ 93 _ _ _ _)
        refine v_lload (i := 56) (j := 6) rfl rfl (?_ : ky_V _ _ _ 95 _ _ _ _)
        refine cl_X8_68 (As := [.long p10]) rfl (i := 57) rfl rfl rfl (Nat.le_of_ble_eq_true rfl) (k_X8_beside p10 ⟨_, rfl, (?_ : ky_V _ _ _ 98 _ [.long ((sh_beside p10)), .long p10] _ _)⟩)
        refine v_lload (i := 58) (j := 5) rfl rfl (?_ : ky_V _ _ _ 100 _ _ _ _)
        refine v_land (i := 59) rfl (?_ : ky_V _ _ _ 101 _ _ _ _)
        refine v_lor (i := 60) rfl (?_ : ky_V _ _ _ 102 _ _ _ _)
        refine v_lload (i := 61) (j := 4) rfl rfl (?_ : ky_V _ _ _ 104 _ _ _ _)
        obtain ⟨⟨q4, x5⟩, g6, e⟩ := Option.bind_eq_some_iff.mp e
        refine cl_X8_72 (As := [.long ((p10 ||| ((sh_beside p10) &&& p8))), .long p6]) rfl (i := 62) rfl rfl rfl (Nat.le_of_ble_eq_true rfl) (k_X8_flood N hG hm1 g6 (fun h3 hmh3 frh3 => ⟨_, rfl, (?_ : ky_V _ _ _ 107 _ [.long x5] _ _)⟩))
        have frh3 := fr.tr frh3
        refine v_lstore (L' := [(0, .ref a), (1, .int p1), (2, .long p2), (4, .long p4), (6, .long p6), (8, .long p8), (10, .long x5), (12, .int p12)]) [1, 2, 3, 4, 5, 6, 0, 7] (i := 63) rfl (Nat.le_of_ble_eq_true rfl) rfl (?_ : ky_V _ _ _ 109 _ _ _ _)
        obtain ⟨x7, ex7⟩ : ∃ z : Int32, z = p12 + 1 := ⟨_, rfl⟩
        replace e := ky_letE ex7 e
        refine v_iinc (v := x7) (j := 7) (L' := [(0, .ref a), (1, .int p1), (2, .long p2), (4, .long p4), (6, .long p6), (8, .long p8), (10, .long x5), (12, .int x7)]) [1, 2, 3, 4, 5, 6, 7, 0] (i := 64) rfl rfl (by rw [ex7]; rfl) (Nat.le_of_ble_eq_true rfl) rfl (?_ : ky_V _ _ _ 112 _ _ _ _)
        refine v_goto (tgt := 69) (i := 65) rfl (by decide) (?_ : ky_V _ _ _ 69 _ _ _ _)
        exact ih h3 q4 p1 p2 p4 p6 p8 x5 x7 hmh3 frh3 e
      · replace e := ky_ifF c2 e
        refine v_iload (i := 53) (j := 7) rfl rfl (?_ : ky_V _ _ _ 90 _ _ _ _)
        refine v_iret (v := p12) (ty := .int) (i := 54) rfl rfl rfl ?_
        obtain ⟨rfl, rfl⟩ := ky_leaf e
        exact hr _ hm1 fr

def x8_boardsToCome (N : Nat)  (s : sk_S) (a : Nat) (p1 : Int32) : Option (sk_S × Int32) := (if lay_X8 (sk_K s) (sk_r s) a = true then (ky_let (1 <<< (Int32.toInt64 (sk_c s a 5) &&& 63)) (fun x1 => (ky_let (sh_beside x1) (fun x2 => (if ky_inB p1 6 = true then ((x8_bearing N s a (sk_c s (a + 2) (Int32.toNatClampNeg p1))).bind (fun zz => (fun q5 x6 => (ky_let (x6 &&& (x1 ^^^ (-1))) (fun x8 => ((x8_bearing N q5 a ((sk_c q5 (a + 2) (Int32.toNatClampNeg p1)) - 3)).bind (fun zz => (fun q10 x11 => (ky_let (x11 &&& (x1 ^^^ (-1))) (fun x13 => ((x8_flood N q10 (1 <<< (Int32.toInt64 (sk_c q10 (a + 3) (Int32.toNatClampNeg p1)) &&& 63)) x8).bind (fun zz => (fun q15 x16 => (x8_boardsToCome_L69 N a (fun q19 x20 x21 x22 x23 x24 x25 x26 => (some (q19, (-1)))) N q15 p1 x1 x2 x8 x13 x16 0)) zz.1 zz.2))))) zz.1 zz.2))))) zz.1 zz.2)) else none))))) else none)
set_option maxRecDepth 20000 in
set_option maxHeartbeats 4000000 in
theorem k_X8_boardsToCome {G : ky_GW} {d : Nat} {h : ky_HP} {Q : ky_RS → ky_HP → Prop} {s s9 : sk_S} {r9 : Int32} {a : Nat} {p1 : Int32} (N : Nat) (hG : ky_OK G)   (hm : sk_hp G s h)  (e : x8_boardsToCome N  s a p1 = some (s9, r9)) (hr : ∀ h1, sk_hp G s9 h1 → sk_fr none s h s9 h1 → Q (.inl (some (.int r9))) h1) : ky_Call G (d + 2) M_X8_boardsToCome [.ref a, .int p1] h Q := by
  refine ky_ofV (by decide +kernel) rfl ok_X8_boardsToCome (Nat.le_of_ble_eq_true rfl) ?_
  have fr : sk_fr none s h s h := sk_fr.rf
  unfold x8_boardsToCome at e
  refine (?_ : ky_V _ _ _ 0 [(0, .ref a), (1, .int p1)] [] _ _)
  obtain ⟨za, e⟩ := ky_chkE e
  refine v_lconst (v := 1) (i := 0) rfl (by decide) (?_ : ky_V _ _ _ 1 _ _ _ _)
  refine v_aload_n (i := 1) (j := 0) rfl rfl (?_ : ky_V _ _ _ 2 _ _ _ _)
  refine gf_X8_21 rfl (i := 2) rfl (oc_X8 hm (ly_X8_c za)) rfl (?_ : ky_V _ _ _ 5 _ _ _ _)
  refine v_lshl (i := 3) rfl rfl (?_ : ky_V _ _ _ 6 _ _ _ _)
  refine v_topl (fun x1 ex1 => ?_)
  replace e := ky_letE ex1 e
  refine v_lstore_n (L' := [(0, .ref a), (1, .int p1), (2, .long x1)]) [1, 2, 0] (i := 4) rfl (Nat.le_of_ble_eq_true rfl) rfl (?_ : ky_V _ _ _ 7 _ _ _ _)
  refine v_lload_n (i := 5) (j := 2) rfl rfl (?_ : ky_V _ _ _ 8 _ _ _ _)
  refine cl_X8_68 (As := [.long x1]) rfl (i := 6) rfl rfl rfl (Nat.le_of_ble_eq_true rfl) (k_X8_beside x1 ⟨_, rfl, (?_ : ky_V _ _ _ 11 _ [.long ((sh_beside x1))] _ _)⟩)
  refine v_topl (fun x2 ex2 => ?_)
  replace e := ky_letE ex2 e
  refine v_lstore (L' := [(0, .ref a), (1, .int p1), (2, .long x1), (4, .long x2)]) [1, 2, 3, 0] (i := 7) rfl (Nat.le_of_ble_eq_true rfl) rfl (?_ : ky_V _ _ _ 13 _ _ _ _)
  refine v_aload_n (i := 8) (j := 0) rfl rfl (?_ : ky_V _ _ _ 14 _ _ _ _)
  refine v_aload_n (i := 9) (j := 0) rfl rfl (?_ : ky_V _ _ _ 15 _ _ _ _)
  refine gf_X8_15 rfl (i := 10) rfl (oc_X8 hm (ly_X8_c za)) (sk_rf (ly_X8_r1 za)) (?_ : ky_V _ _ _ 18 _ (.ref (a + 2) :: _) _ _)
  refine v_iload_n (i := 11) (j := 1) rfl rfl (?_ : ky_V _ _ _ 19 _ _ _ _)
  obtain ⟨z3, e⟩ := ky_chkE e
  refine v_iald (i := 12) rfl (oa_21 hm (ly_X8_k1 za)) (ky_inb z3) (?_ : ky_V _ _ _ 20 _ (.int (sk_c s (a + 2) (Int32.toNatClampNeg p1)) :: _) _ _)
  obtain ⟨⟨q5, x6⟩, g7, e⟩ := Option.bind_eq_some_iff.mp e
  refine cl_X8_60 (As := [.int ((sk_c s (a + 2) (Int32.toNatClampNeg p1)))]) rfl (i := 13) rfl (oc_X8 hm (ly_X8_c za)) rfl rfl (Nat.le_of_ble_eq_true rfl) (k_X8_bearing N hG hm g7 (fun h4 hmh4 frh4 => ⟨_, rfl, (?_ : ky_V _ _ _ 23 _ [.long x6] _ _)⟩))
  have frh4 := fr.tr frh4
  refine v_lload_n (i := 14) (j := 2) rfl rfl (?_ : ky_V _ _ _ 24 _ _ _ _)
  refine v_ldc2 (v := (-1)) (i := 15) rfl (ky_t3 (i := 93) rfl rfl) (?_ : ky_V _ _ _ 27 _ _ _ _)
  refine v_lxor (i := 16) rfl (?_ : ky_V _ _ _ 28 _ _ _ _)
  refine v_land (i := 17) rfl (?_ : ky_V _ _ _ 29 _ _ _ _)
  refine v_topl (fun x8 ex8 => ?_)
  replace e := ky_letE ex8 e
  refine v_lstore (L' := [(0, .ref a), (1, .int p1), (2, .long x1), (4, .long x2), (6, .long x8)]) [1, 2, 3, 4, 0] (i := 18) rfl (Nat.le_of_ble_eq_true rfl) rfl (?_ : ky_V _ _ _ 31 _ _ _ _)
  refine v_aload_n (i := 19) (j := 0) rfl rfl (?_ : ky_V _ _ _ 32 _ _ _ _)
  refine v_aload_n (i := 20) (j := 0) rfl rfl (?_ : ky_V _ _ _ 33 _ _ _ _)
  refine gf_X8_15 rfl (i := 21) rfl (oc_X8 hmh4 (ly_X8_c (lt_X8 frh4 za))) (sk_rf (ly_X8_r1 (lt_X8 frh4 za))) (?_ : ky_V _ _ _ 36 _ (.ref (a + 2) :: _) _ _)
  refine v_iload_n (i := 22) (j := 1) rfl rfl (?_ : ky_V _ _ _ 37 _ _ _ _)
  refine v_iald (i := 23) rfl (oa_21 hmh4 (ly_X8_k1 (lt_X8 frh4 za))) (ky_inb z3) (?_ : ky_V _ _ _ 38 _ (.int (sk_c q5 (a + 2) (Int32.toNatClampNeg p1)) :: _) _ _)
  refine v_iconst (v := 3) (i := 24) rfl (by decide) (?_ : ky_V _ _ _ 39 _ _ _ _)
  refine v_isub (i := 25) rfl (?_ : ky_V _ _ _ 40 _ _ _ _)
  obtain ⟨⟨q10, x11⟩, g12, e⟩ := Option.bind_eq_some_iff.mp e
  refine cl_X8_60 (As := [.int (((sk_c q5 (a + 2) (Int32.toNatClampNeg p1)) - 3))]) rfl (i := 26) rfl (oc_X8 hmh4 (ly_X8_c (lt_X8 frh4 za))) rfl rfl (Nat.le_of_ble_eq_true rfl) (k_X8_bearing N hG hmh4 g12 (fun h9 hmh9 frh9 => ⟨_, rfl, (?_ : ky_V _ _ _ 43 _ [.long x11] _ _)⟩))
  have frh9 := frh4.tr frh9
  refine v_lload_n (i := 27) (j := 2) rfl rfl (?_ : ky_V _ _ _ 44 _ _ _ _)
  refine v_ldc2 (v := (-1)) (i := 28) rfl (ky_t3 (i := 93) rfl rfl) (?_ : ky_V _ _ _ 47 _ _ _ _)
  refine v_lxor (i := 29) rfl (?_ : ky_V _ _ _ 48 _ _ _ _)
  refine v_land (i := 30) rfl (?_ : ky_V _ _ _ 49 _ _ _ _)
  refine v_topl (fun x13 ex13 => ?_)
  replace e := ky_letE ex13 e
  refine v_lstore (L' := [(0, .ref a), (1, .int p1), (2, .long x1), (4, .long x2), (6, .long x8), (8, .long x13)]) [1, 2, 3, 4, 5, 0] (i := 31) rfl (Nat.le_of_ble_eq_true rfl) rfl (?_ : ky_V _ _ _ 51 _ _ _ _)
  refine v_lconst (v := 1) (i := 32) rfl (by decide) (?_ : ky_V _ _ _ 52 _ _ _ _)
  refine v_aload_n (i := 33) (j := 0) rfl rfl (?_ : ky_V _ _ _ 53 _ _ _ _)
  refine gf_X8_18 rfl (i := 34) rfl (oc_X8 hmh9 (ly_X8_c (lt_X8 frh9 za))) (sk_rf (ly_X8_r2 (lt_X8 frh9 za))) (?_ : ky_V _ _ _ 56 _ (.ref (a + 3) :: _) _ _)
  refine v_iload_n (i := 35) (j := 1) rfl rfl (?_ : ky_V _ _ _ 57 _ _ _ _)
  refine v_iald (i := 36) rfl (oa_21 hmh9 (ly_X8_k2 (lt_X8 frh9 za))) (ky_inb z3) (?_ : ky_V _ _ _ 58 _ (.int (sk_c q10 (a + 3) (Int32.toNatClampNeg p1)) :: _) _ _)
  refine v_lshl (i := 37) rfl rfl (?_ : ky_V _ _ _ 59 _ _ _ _)
  refine v_lload (i := 38) (j := 4) rfl rfl (?_ : ky_V _ _ _ 61 _ _ _ _)
  obtain ⟨⟨q15, x16⟩, g17, e⟩ := Option.bind_eq_some_iff.mp e
  refine cl_X8_72 (As := [.long ((1 <<< (Int32.toInt64 (sk_c q10 (a + 3) (Int32.toNatClampNeg p1)) &&& 63))), .long x8]) rfl (i := 39) rfl rfl rfl (Nat.le_of_ble_eq_true rfl) (k_X8_flood N hG hmh9 g17 (fun h14 hmh14 frh14 => ⟨_, rfl, (?_ : ky_V _ _ _ 64 _ [.long x16] _ _)⟩))
  have frh14 := frh9.tr frh14
  refine v_lstore (L' := [(0, .ref a), (1, .int p1), (2, .long x1), (4, .long x2), (6, .long x8), (8, .long x13), (10, .long x16)]) [1, 2, 3, 4, 5, 6, 0] (i := 40) rfl (Nat.le_of_ble_eq_true rfl) rfl (?_ : ky_V _ _ _ 66 _ _ _ _)
  refine v_iconst (v := 0) (i := 41) rfl (by decide) (?_ : ky_V _ _ _ 67 _ _ _ _)
  refine v_istore (L' := [(0, .ref a), (1, .int p1), (2, .long x1), (4, .long x2), (6, .long x8), (8, .long x13), (10, .long x16), (12, .int 0)]) [1, 2, 3, 4, 5, 6, 7, 0] (i := 42) rfl (Nat.le_of_ble_eq_true rfl) rfl (?_ : ky_V _ _ _ 69 _ _ _ _)
  refine lv_X8_boardsToCome_69 N hG a za hm _ hr (fun h18 q19 x20 x21 x22 x23 x24 x25 x26 hmh18 frh18 e => ?_) N h14 q15 p1 x1 x2 x8 x13 x16 0 hmh14 frh14 e
  refine v_iconst (v := (-1)) (i := 66) rfl (by decide) (?_ : ky_V _ _ _ 116 _ _ _ _)
  refine v_iret (v := (-1)) (ty := .int) (i := 67) rfl rfl rfl ?_
  obtain ⟨rfl, rfl⟩ := ky_leaf e
  exact hr _ hmh18 frh18

def x8_farthest_L13 (N : Nat)  (a : Nat) (k : sk_S → Int32 → Int64 → Int32 → Int32 → Option (sk_S × Int32)) : Nat → sk_S → Int32 → Int64 → Int32 → Int32 → Option (sk_S × Int32)
  | 0, _, _, _, _, _ => none
  | n + 1, c, p1, p2, p4, p5 => (if (64 : Int32) ≤ p5 then (k c p1 p2 p4 p5) else (if (sh_has p2 p5) = 0 then (ky_let (p5 + 1) (fun x3 => (x8_farthest_L13 N a k n c p1 p2 p4 x3))) else (if ky_inB p1 6 = true then (ky_let (mt_max p4 (sh_distance p5 (sk_c c (a + 3) (Int32.toNatClampNeg p1)))) (fun x5 => (ky_let (p5 + 1) (fun x6 => (x8_farthest_L13 N a k n c p1 p2 x5 x6))))) else none)))
set_option maxRecDepth 20000 in
set_option maxHeartbeats 4000000 in
theorem lv_X8_farthest_13 {G : ky_GW} {d : Nat} {s s9 : sk_S} {h0 : ky_HP} {Q : ky_RS → ky_HP → Prop} {r9 : Int32} (N : Nat) (hG : ky_OK G)  (a : Nat)   (za : lay_X8 (sk_K s) (sk_r s) a = true) (hm : sk_hp G s h0) (k : sk_S → Int32 → Int64 → Int32 → Int32 → Option (sk_S × Int32)) (hr : ∀ h1, sk_hp G s9 h1 → sk_fr none s h0 s9 h1 → Q (.inl (some (.int r9))) h1)
    (hk : ∀ (h : ky_HP) (c : sk_S) (p1 : Int32) (p2 : Int64) (p4 : Int32) (p5 : Int32), sk_hp G c h → sk_fr none s h0 c h → k c p1 p2 p4 p5 = some (s9, r9) → ky_V G (d + 3) M_X8_farthest 53 [(0, .ref a), (1, .int p1), (2, .long p2), (4, .int p4), (5, .int p5)] [] h Q) :
    ∀ (n : Nat) (h : ky_HP) (c : sk_S) (p1 : Int32) (p2 : Int64) (p4 : Int32) (p5 : Int32), sk_hp G c h → sk_fr none s h0 c h → x8_farthest_L13 N a k n c p1 p2 p4 p5 = some (s9, r9) → ky_V G (d + 3) M_X8_farthest 13 [(0, .ref a), (1, .int p1), (2, .long p2), (4, .int p4), (5, .int p5)] [] h Q := by
  intro n
  induction n with
  | zero => intro h c p1 p2 p4 p5 hm1 fr e; cases e
  | succ n ih =>
    intro h c p1 p2 p4 p5 hm1 fr e
    rw [x8_farthest_L13] at e
    refine v_iload (i := 9) (j := 4) rfl rfl (?_ : ky_V _ _ _ 15 _ _ _ _)
    refine v_bipush (v := 64) (i := 10) rfl (by decide) (?_ : ky_V _ _ _ 17 _ _ _ _)
    refine v_icmp_ge (tgt := 53) (i := 11) rfl (by decide) (fun c1 => ?_) (fun c1 => ?_)
    · replace e := ky_ifT c1 e
      exact hk h c p1 p2 p4 p5 hm1 fr e
    · replace e := ky_ifF c1 e
      refine v_lload_n (i := 12) (j := 2) rfl rfl (?_ : ky_V _ _ _ 21 _ _ _ _)
      refine v_iload (i := 13) (j := 4) rfl rfl (?_ : ky_V _ _ _ 23 _ _ _ _)
      refine cl_X8_64 (As := [.long p2, .int p5]) rfl (i := 14) rfl rfl rfl (Nat.le_of_ble_eq_true rfl) (k_X8_has p2 p5 ⟨_, rfl, (?_ : ky_V _ _ _ 26 _ [.int ((sh_has p2 p5))] _ _)⟩)
      refine v_if_eq (tgt := 47) (i := 15) rfl (by decide) (fun c2 => ?_) (fun c2 => ?_)
      · replace e := ky_ifT c2 e
        obtain ⟨x3, ex3⟩ : ∃ z : Int32, z = p5 + 1 := ⟨_, rfl⟩
        replace e := ky_letE ex3 e
        refine v_iinc (v := x3) (j := 4) (L' := [(0, .ref a), (1, .int p1), (2, .long p2), (4, .int p4), (5, .int x3)]) [1, 2, 3, 4, 0] (i := 25) rfl rfl (by rw [ex3]; rfl) (Nat.le_of_ble_eq_true rfl) rfl (?_ : ky_V _ _ _ 50 _ _ _ _)
        refine v_goto (tgt := 13) (i := 26) rfl (by decide) (?_ : ky_V _ _ _ 13 _ _ _ _)
        exact ih h c p1 p2 p4 x3 hm1 fr e
      · replace e := ky_ifF c2 e
        refine v_iload (i := 16) (j := 3) rfl rfl (?_ : ky_V _ _ _ 31 _ _ _ _)
        refine v_iload (i := 17) (j := 4) rfl rfl (?_ : ky_V _ _ _ 33 _ _ _ _)
        refine v_aload_n (i := 18) (j := 0) rfl rfl (?_ : ky_V _ _ _ 34 _ _ _ _)
        refine gf_X8_18 rfl (i := 19) rfl (oc_X8 hm1 (ly_X8_c (lt_X8 fr za))) (sk_rf (ly_X8_r2 (lt_X8 fr za))) (?_ : ky_V _ _ _ 37 _ (.ref (a + 3) :: _) _ _)
        refine v_iload_n (i := 20) (j := 1) rfl rfl (?_ : ky_V _ _ _ 38 _ _ _ _)
        obtain ⟨z4, e⟩ := ky_chkE e
        refine v_iald (i := 21) rfl (oa_21 hm1 (ly_X8_k2 (lt_X8 fr za))) (ky_inb z4) (?_ : ky_V _ _ _ 39 _ (.int (sk_c c (a + 3) (Int32.toNatClampNeg p1)) :: _) _ _)
        refine cl_X8_80 (As := [.int p5, .int ((sk_c c (a + 3) (Int32.toNatClampNeg p1)))]) rfl (i := 22) rfl rfl rfl (Nat.le_of_ble_eq_true rfl) (k_X8_distance p5 (sk_c c (a + 3) (Int32.toNatClampNeg p1)) ⟨_, rfl, (?_ : ky_V _ _ _ 42 _ [.int ((sh_distance p5 (sk_c c (a + 3) (Int32.toNatClampNeg p1)))), .int p4] _ _)⟩)
        refine cl_X8_83 rfl (i := 23) rfl (Nat.le_of_ble_eq_true rfl) (?_ : ky_V _ _ _ 45 _ _ _ _)
        refine v_topi (fun x5 ex5 => ?_)
        replace e := ky_letE ex5 e
        refine v_istore (L' := [(0, .ref a), (1, .int p1), (2, .long p2), (4, .int x5), (5, .int p5)]) [1, 2, 3, 0, 4] (i := 24) rfl (Nat.le_of_ble_eq_true rfl) rfl (?_ : ky_V _ _ _ 47 _ _ _ _)
        obtain ⟨x6, ex6⟩ : ∃ z : Int32, z = p5 + 1 := ⟨_, rfl⟩
        replace e := ky_letE ex6 e
        refine v_iinc (v := x6) (j := 4) (L' := [(0, .ref a), (1, .int p1), (2, .long p2), (4, .int x5), (5, .int x6)]) [1, 2, 3, 4, 0] (i := 25) rfl rfl (by rw [ex6]; rfl) (Nat.le_of_ble_eq_true rfl) rfl (?_ : ky_V _ _ _ 50 _ _ _ _)
        refine v_goto (tgt := 13) (i := 26) rfl (by decide) (?_ : ky_V _ _ _ 13 _ _ _ _)
        exact ih h c p1 p2 x5 x6 hm1 fr e

def x8_farthest (N : Nat)  (s : sk_S) (a : Nat) (p1 : Int32) : Option (sk_S × Int32) := (if lay_X8 (sk_K s) (sk_r s) a = true then ((x8_reached N s a p1 0).bind (fun zz => (fun q2 x3 => (x8_farthest_L13 N a (fun q6 x7 x8 x9 x10 => (some (q6, x9))) N q2 p1 x3 0 0)) zz.1 zz.2)) else none)
set_option maxRecDepth 20000 in
set_option maxHeartbeats 4000000 in
theorem k_X8_farthest {G : ky_GW} {d : Nat} {h : ky_HP} {Q : ky_RS → ky_HP → Prop} {s s9 : sk_S} {r9 : Int32} {a : Nat} {p1 : Int32} (N : Nat) (hG : ky_OK G)   (hm : sk_hp G s h)  (e : x8_farthest N  s a p1 = some (s9, r9)) (hr : ∀ h1, sk_hp G s9 h1 → sk_fr none s h s9 h1 → Q (.inl (some (.int r9))) h1) : ky_Call G (d + 3) M_X8_farthest [.ref a, .int p1] h Q := by
  refine ky_ofV (by decide +kernel) rfl ok_X8_farthest (Nat.le_of_ble_eq_true rfl) ?_
  have fr : sk_fr none s h s h := sk_fr.rf
  unfold x8_farthest at e
  refine (?_ : ky_V _ _ _ 0 [(0, .ref a), (1, .int p1)] [] _ _)
  obtain ⟨za, e⟩ := ky_chkE e
  refine v_aload_n (i := 0) (j := 0) rfl rfl (?_ : ky_V _ _ _ 1 _ _ _ _)
  refine v_iload_n (i := 1) (j := 1) rfl rfl (?_ : ky_V _ _ _ 2 _ _ _ _)
  refine v_iconst (v := 0) (i := 2) rfl (by decide) (?_ : ky_V _ _ _ 3 _ _ _ _)
  obtain ⟨⟨q2, x3⟩, g4, e⟩ := Option.bind_eq_some_iff.mp e
  refine cl_X8_76 (As := [.int p1, .int 0]) rfl (i := 3) rfl (oc_X8 hm (ly_X8_c za)) rfl rfl (Nat.le_of_ble_eq_true rfl) (k_X8_reached N hG hm g4 (fun h1 hmh1 frh1 => ⟨_, rfl, (?_ : ky_V _ _ _ 6 _ [.long x3] _ _)⟩))
  have frh1 := fr.tr frh1
  refine v_lstore_n (L' := [(0, .ref a), (1, .int p1), (2, .long x3)]) [1, 2, 0] (i := 4) rfl (Nat.le_of_ble_eq_true rfl) rfl (?_ : ky_V _ _ _ 7 _ _ _ _)
  refine v_iconst (v := 0) (i := 5) rfl (by decide) (?_ : ky_V _ _ _ 8 _ _ _ _)
  refine v_istore (L' := [(0, .ref a), (1, .int p1), (2, .long x3), (4, .int 0)]) [1, 2, 3, 0] (i := 6) rfl (Nat.le_of_ble_eq_true rfl) rfl (?_ : ky_V _ _ _ 10 _ _ _ _)
  refine v_iconst (v := 0) (i := 7) rfl (by decide) (?_ : ky_V _ _ _ 11 _ _ _ _)
  refine v_istore (L' := [(0, .ref a), (1, .int p1), (2, .long x3), (4, .int 0), (5, .int 0)]) [1, 2, 3, 4, 0] (i := 8) rfl (Nat.le_of_ble_eq_true rfl) rfl (?_ : ky_V _ _ _ 13 _ _ _ _)
  refine lv_X8_farthest_13 N hG a za hm _ hr (fun h5 q6 x7 x8 x9 x10 hmh5 frh5 e => ?_) N h1 q2 p1 x3 0 0 hmh1 frh1 e
  refine v_iload (i := 27) (j := 3) rfl rfl (?_ : ky_V _ _ _ 55 _ _ _ _)
  refine v_iret (v := x9) (ty := .int) (i := 28) rfl rfl rfl ?_
  obtain ⟨rfl, rfl⟩ := ky_leaf e
  exact hr _ hmh5 frh5

def x8_shineTells (N : Nat)  (s : sk_S) (a : Nat) (p1 : Int32) : Option (sk_S × Int32) := (if lay_X8 (sk_K s) (sk_r s) a = true then (ky_let ((sk_g s a 4) &&& ((sk_g s a 3) ^^^ (-1))) (fun x1 => ((x8_bearing N s a p1).bind (fun zz => (fun q3 x4 => ((x8_hundredths N q3 (x1 &&& (x4 ^^^ (-1))) x1).bind (fun zz => (fun q7 x8 => (some (q7, x8))) zz.1 zz.2))) zz.1 zz.2)))) else none)
set_option maxRecDepth 20000 in
set_option maxHeartbeats 4000000 in
theorem k_X8_shineTells {G : ky_GW} {d : Nat} {h : ky_HP} {Q : ky_RS → ky_HP → Prop} {s s9 : sk_S} {r9 : Int32} {a : Nat} {p1 : Int32} (N : Nat) (hG : ky_OK G)   (hm : sk_hp G s h)  (e : x8_shineTells N  s a p1 = some (s9, r9)) (hr : ∀ h1, sk_hp G s9 h1 → sk_fr none s h s9 h1 → Q (.inl (some (.int r9))) h1) : ky_Call G (d + 2) M_X8_shineTells [.ref a, .int p1] h Q := by
  refine ky_ofV (by decide +kernel) rfl ok_X8_shineTells (Nat.le_of_ble_eq_true rfl) ?_
  have fr : sk_fr none s h s h := sk_fr.rf
  unfold x8_shineTells at e
  refine (?_ : ky_V _ _ _ 0 [(0, .ref a), (1, .int p1)] [] _ _)
  obtain ⟨za, e⟩ := ky_chkE e
  refine v_aload_n (i := 0) (j := 0) rfl rfl (?_ : ky_V _ _ _ 1 _ _ _ _)
  refine gf_X8_41 rfl (i := 1) rfl (oc_X8 hm (ly_X8_c za)) rfl (?_ : ky_V _ _ _ 4 _ _ _ _)
  refine v_aload_n (i := 2) (j := 0) rfl rfl (?_ : ky_V _ _ _ 5 _ _ _ _)
  refine gf_X8_37 rfl (i := 3) rfl (oc_X8 hm (ly_X8_c za)) rfl (?_ : ky_V _ _ _ 8 _ _ _ _)
  refine v_ldc2 (v := (-1)) (i := 4) rfl (ky_t3 (i := 93) rfl rfl) (?_ : ky_V _ _ _ 11 _ _ _ _)
  refine v_lxor (i := 5) rfl (?_ : ky_V _ _ _ 12 _ _ _ _)
  refine v_land (i := 6) rfl (?_ : ky_V _ _ _ 13 _ _ _ _)
  refine v_topl (fun x1 ex1 => ?_)
  replace e := ky_letE ex1 e
  refine v_lstore_n (L' := [(0, .ref a), (1, .int p1), (2, .long x1)]) [1, 2, 0] (i := 7) rfl (Nat.le_of_ble_eq_true rfl) rfl (?_ : ky_V _ _ _ 14 _ _ _ _)
  refine v_lload_n (i := 8) (j := 2) rfl rfl (?_ : ky_V _ _ _ 15 _ _ _ _)
  refine v_aload_n (i := 9) (j := 0) rfl rfl (?_ : ky_V _ _ _ 16 _ _ _ _)
  refine v_iload_n (i := 10) (j := 1) rfl rfl (?_ : ky_V _ _ _ 17 _ _ _ _)
  obtain ⟨⟨q3, x4⟩, g5, e⟩ := Option.bind_eq_some_iff.mp e
  refine cl_X8_60 (As := [.int p1]) rfl (i := 11) rfl (oc_X8 hm (ly_X8_c za)) rfl rfl (Nat.le_of_ble_eq_true rfl) (k_X8_bearing N hG hm g5 (fun h2 hmh2 frh2 => ⟨_, rfl, (?_ : ky_V _ _ _ 20 _ [.long x4, .long x1] _ _)⟩))
  have frh2 := fr.tr frh2
  refine v_ldc2 (v := (-1)) (i := 12) rfl (ky_t3 (i := 93) rfl rfl) (?_ : ky_V _ _ _ 23 _ _ _ _)
  refine v_lxor (i := 13) rfl (?_ : ky_V _ _ _ 24 _ _ _ _)
  refine v_land (i := 14) rfl (?_ : ky_V _ _ _ 25 _ _ _ _)
  refine v_lload_n (i := 15) (j := 2) rfl rfl (?_ : ky_V _ _ _ 26 _ _ _ _)
  obtain ⟨⟨q7, x8⟩, g9, e⟩ := Option.bind_eq_some_iff.mp e
  refine cl_X8_95 (As := [.long ((x1 &&& (x4 ^^^ (-1)))), .long x1]) rfl (i := 16) rfl rfl rfl (Nat.le_of_ble_eq_true rfl) (k_X8_hundredths N hG hmh2 g9 (fun h6 hmh6 frh6 => ⟨_, rfl, (?_ : ky_V _ _ _ 29 _ [.int x8] _ _)⟩))
  have frh6 := frh2.tr frh6
  refine v_iret (v := x8) (ty := .int) (i := 17) rfl rfl rfl ?_
  obtain ⟨rfl, rfl⟩ := ky_leaf e
  exact hr _ hmh6 frh6

def x1_make (N : Nat)  (s : sk_S) (a : Nat) (a1_ : Nat) (p2 : Int32) (p3 : Int32) : Option (sk_S × Int32) := (if lay_X1 (sk_K s) (sk_r s) a = true then (if lay_X6 (sk_K s) (sk_r s) a1_ = true then ((x6_after N s a1_ (sk_c s a 0) p2 p3 (sk_c s a 1) (sk_c s a 2)).bind (fun zz => (fun q2 x3 => (ky_let (sk_wc q2 a 0 x3) (fun q6 => ((x6_takes N q6 a1_ p2).bind (fun zz => (fun q8 x9 => ((x1_pass N q8 a x9).bind (fun zz => (fun q12 x13 => ((x1_draw N q12 a).bind (fun zz => (fun q16 x17 => (if (sk_c q16 a 6) ≤ (x17 - x17 / 100 * 100) then (some (q16, 0)) else (if (po_isOut (sk_c q16 a 0)) = 0 then (ky_let (po_deeperByOne (sk_c q16 a 0)) (fun x21 => (ky_let (sk_wc q16 a 0 x21) (fun q23 => (some (q23, 0)))))) else (some (q16, 0))))) zz.1 zz.2))) zz.1 zz.2))) zz.1 zz.2))))) zz.1 zz.2)) else none) else none)
set_option maxRecDepth 20000 in
set_option maxHeartbeats 4000000 in
theorem k_X1_make {G : ky_GW} {d : Nat} {h : ky_HP} {Q : ky_RS → ky_HP → Prop} {s s9 : sk_S} {r9 : Int32} {a : Nat} {a1_ : Nat} {p2 : Int32} {p3 : Int32} (N : Nat) (hG : ky_OK G)   (hm : sk_hp G s h)  (e : x1_make N  s a a1_ p2 p3 = some (s9, r9)) (hr : ∀ h1, sk_hp G s9 h1 → sk_fr none s h s9 h1 → Q (.inl none) h1) : ky_Call G (d + 3) M_X1_make [.ref a, .ref a1_, .int p2, .int p3] h Q := by
  refine ky_ofV (by decide +kernel) rfl ok_X1_make (Nat.le_of_ble_eq_true rfl) ?_
  have fr : sk_fr none s h s h := sk_fr.rf
  unfold x1_make at e
  refine (?_ : ky_V _ _ _ 0 [(0, .ref a), (1, .ref a1_), (2, .int p2), (3, .int p3)] [] _ _)
  obtain ⟨za, e⟩ := ky_chkE e
  obtain ⟨za1_, e⟩ := ky_chkE e
  refine v_aload_n (i := 0) (j := 0) rfl rfl (?_ : ky_V _ _ _ 1 _ _ _ _)
  refine v_aload_n (i := 1) (j := 1) rfl rfl (?_ : ky_V _ _ _ 2 _ _ _ _)
  refine v_aload_n (i := 2) (j := 0) rfl rfl (?_ : ky_V _ _ _ 3 _ _ _ _)
  refine gf_X1_18 rfl (i := 3) rfl (oc_X1 hm (ly_X1_c za)) rfl (?_ : ky_V _ _ _ 6 _ _ _ _)
  refine v_iload_n (i := 4) (j := 2) rfl rfl (?_ : ky_V _ _ _ 7 _ _ _ _)
  refine v_iload_n (i := 5) (j := 3) rfl rfl (?_ : ky_V _ _ _ 8 _ _ _ _)
  refine v_aload_n (i := 6) (j := 0) rfl rfl (?_ : ky_V _ _ _ 9 _ _ _ _)
  refine gf_X1_21 rfl (i := 7) rfl (oc_X1 hm (ly_X1_c za)) rfl (?_ : ky_V _ _ _ 12 _ _ _ _)
  refine v_aload_n (i := 8) (j := 0) rfl rfl (?_ : ky_V _ _ _ 13 _ _ _ _)
  refine gf_X1_24 rfl (i := 9) rfl (oc_X1 hm (ly_X1_c za)) rfl (?_ : ky_V _ _ _ 16 _ _ _ _)
  obtain ⟨⟨q2, x3⟩, g4, e⟩ := Option.bind_eq_some_iff.mp e
  refine cl_X1_60 (As := [.int ((sk_c s a 0)), .int p2, .int p3, .int ((sk_c s a 1)), .int ((sk_c s a 2))]) rfl (i := 10) rfl (oc_X6 hm (ly_X6_c za1_)) rfl rfl (Nat.le_of_ble_eq_true rfl) (k_X6_after N hG hm g4 (fun h1 hmh1 frh1 => ⟨_, rfl, (?_ : ky_V _ _ _ 19 _ [.int x3, .ref a] _ _)⟩))
  have frh1 := fr.tr frh1
  refine pf_X1_18 rfl (i := 11) rfl (oc_X1 hmh1 (ly_X1_c (lt_X1 frh1 za))) (Nat.le_of_ble_eq_true rfl) rfl rfl ?_
  refine sk_stc (kd := 1) (n := 0) hmh1 frh1 (ly_X1_c (lt_X1 frh1 za)) 0 x3 (fun h5 hmh5 frh5 => ?_)
  obtain ⟨q6, eq6⟩ : ∃ z, z = (sk_wc q2 a 0 x3) := ⟨_, rfl⟩
  rw [← eq6] at hmh5 frh5
  replace e := ky_letE eq6 e
  refine (?_ : ky_V _ _ _ 22 _ _ _ _)
  refine v_aload_n (i := 12) (j := 0) rfl rfl (?_ : ky_V _ _ _ 23 _ _ _ _)
  refine v_aload_n (i := 13) (j := 1) rfl rfl (?_ : ky_V _ _ _ 24 _ _ _ _)
  refine v_iload_n (i := 14) (j := 2) rfl rfl (?_ : ky_V _ _ _ 25 _ _ _ _)
  obtain ⟨⟨q8, x9⟩, g10, e⟩ := Option.bind_eq_some_iff.mp e
  refine cl_X1_66 (As := [.int p2]) rfl (i := 15) rfl (oc_X6 hmh5 (ly_X6_c (lt_X6 frh5 za1_))) rfl rfl (Nat.le_of_ble_eq_true rfl) (k_X6_takes N hG hmh5 g10 (fun h7 hmh7 frh7 => ⟨_, rfl, (?_ : ky_V _ _ _ 28 _ [.int x9, .ref a] _ _)⟩))
  have frh7 := frh5.tr frh7
  obtain ⟨⟨q12, x13⟩, g14, e⟩ := Option.bind_eq_some_iff.mp e
  refine cl_X1_70 (As := [.int x9]) rfl (i := 16) rfl (oc_X1 hmh7 (ly_X1_c (lt_X1 frh7 za))) rfl rfl (Nat.le_of_ble_eq_true rfl) (k_X1_pass N hG hmh7 g14 (fun h11 hmh11 frh11 => ⟨_, rfl, (?_ : ky_V _ _ _ 31 _ [] _ _)⟩))
  have frh11 := frh7.tr frh11
  refine v_aload_n (i := 17) (j := 0) rfl rfl (?_ : ky_V _ _ _ 32 _ _ _ _)
  obtain ⟨⟨q16, x17⟩, g18, e⟩ := Option.bind_eq_some_iff.mp e
  refine cl_X1_56 (As := []) rfl (i := 18) rfl (oc_X1 hmh11 (ly_X1_c (lt_X1 frh11 za))) rfl rfl (Nat.le_of_ble_eq_true rfl) (k_X1_draw N hG hmh11 g18 (fun h15 hmh15 frh15 => ⟨_, rfl, (?_ : ky_V _ _ _ 35 _ [.int x17] _ _)⟩))
  have frh15 := frh11.tr frh15
  refine v_bipush (v := 100) (i := 19) rfl (by decide) (?_ : ky_V _ _ _ 37 _ _ _ _)
  refine v_irem (i := 20) rfl (by decide) (?_ : ky_V _ _ _ 38 _ _ _ _)
  refine v_aload_n (i := 21) (j := 0) rfl rfl (?_ : ky_V _ _ _ 39 _ _ _ _)
  refine gf_X1_33 rfl (i := 22) rfl (oc_X1 hmh15 (ly_X1_c (lt_X1 frh15 za))) rfl (?_ : ky_V _ _ _ 42 _ _ _ _)
  refine v_icmp_ge (tgt := 49) (i := 23) rfl (by decide) (fun c19 => ?_) (fun c19 => ?_)
  · replace e := ky_ifT c19 e
    refine v_iconst (v := 0) (i := 26) rfl (by decide) (?_ : ky_V _ _ _ 50 _ _ _ _)
    refine v_istore (L' := [(0, .ref a), (1, .ref a1_), (2, .int p2), (3, .int p3), (4, .int 0)]) [1, 2, 3, 4, 0] (i := 27) rfl (Nat.le_of_ble_eq_true rfl) rfl (?_ : ky_V _ _ _ 52 _ _ _ _)
    refine v_iload (i := 28) (j := 4) rfl rfl (?_ : ky_V _ _ _ 54 _ _ _ _)
    refine v_if_eq (tgt := 78) (i := 29) rfl (by decide) (fun _ => ?_) (fun c => absurd c (by decide))
    refine (?_ : ky_V _ _ _ 78 _ _ _ _)
    refine v_vret (i := 39) rfl rfl ?_
    obtain ⟨rfl, rfl⟩ := ky_leaf e
    exact hr _ hmh15 frh15
  · replace e := ky_ifF c19 e
    refine v_iconst (v := 1) (i := 24) rfl (by decide) (?_ : ky_V _ _ _ 46 _ _ _ _)
    refine v_goto (tgt := 50) (i := 25) rfl (by decide) (?_ : ky_V _ _ _ 50 _ _ _ _)
    refine v_istore (L' := [(0, .ref a), (1, .ref a1_), (2, .int p2), (3, .int p3), (4, .int 1)]) [1, 2, 3, 4, 0] (i := 27) rfl (Nat.le_of_ble_eq_true rfl) rfl (?_ : ky_V _ _ _ 52 _ _ _ _)
    refine v_iload (i := 28) (j := 4) rfl rfl (?_ : ky_V _ _ _ 54 _ _ _ _)
    refine v_if_eq (tgt := 78) (i := 29) rfl (by decide) (fun c => absurd c (by decide)) (fun _ => ?_)
    refine (?_ : ky_V _ _ _ 57 _ _ _ _)
    refine v_aload_n (i := 30) (j := 0) rfl rfl (?_ : ky_V _ _ _ 58 _ _ _ _)
    refine gf_X1_18 rfl (i := 31) rfl (oc_X1 hmh15 (ly_X1_c (lt_X1 frh15 za))) rfl (?_ : ky_V _ _ _ 61 _ _ _ _)
    refine cl_X1_36 (As := [.int ((sk_c q16 a 0))]) rfl (i := 32) rfl rfl rfl (Nat.le_of_ble_eq_true rfl) (k_X5_isOut (sk_c q16 a 0) ⟨_, rfl, (?_ : ky_V _ _ _ 64 _ [.int ((po_isOut (sk_c q16 a 0)))] _ _)⟩)
    refine v_if_ne (tgt := 78) (i := 33) rfl (by decide) (fun c20 => ?_) (fun c20 => ?_)
    · replace e := ky_ifF c20 e
      refine v_vret (i := 39) rfl rfl ?_
      obtain ⟨rfl, rfl⟩ := ky_leaf e
      exact hr _ hmh15 frh15
    · replace e := ky_ifT c20 e
      refine v_aload_n (i := 34) (j := 0) rfl rfl (?_ : ky_V _ _ _ 68 _ _ _ _)
      refine v_aload_n (i := 35) (j := 0) rfl rfl (?_ : ky_V _ _ _ 69 _ _ _ _)
      refine gf_X1_18 rfl (i := 36) rfl (oc_X1 hmh15 (ly_X1_c (lt_X1 frh15 za))) rfl (?_ : ky_V _ _ _ 72 _ _ _ _)
      refine cl_X1_74 (As := [.int ((sk_c q16 a 0))]) rfl (i := 37) rfl rfl rfl (Nat.le_of_ble_eq_true rfl) (k_X5_deeperByOne (sk_c q16 a 0) ⟨_, rfl, (?_ : ky_V _ _ _ 75 _ [.int ((po_deeperByOne (sk_c q16 a 0))), .ref a] _ _)⟩)
      refine v_topi (fun x21 ex21 => ?_)
      replace e := ky_letE ex21 e
      refine pf_X1_18 rfl (i := 38) rfl (oc_X1 hmh15 (ly_X1_c (lt_X1 frh15 za))) (Nat.le_of_ble_eq_true rfl) rfl rfl ?_
      refine sk_stc (kd := 1) (n := 0) hmh15 frh15 (ly_X1_c (lt_X1 frh15 za)) 0 x21 (fun h22 hmh22 frh22 => ?_)
      obtain ⟨q23, eq23⟩ : ∃ z, z = (sk_wc q16 a 0 x21) := ⟨_, rfl⟩
      rw [← eq23] at hmh22 frh22
      replace e := ky_letE eq23 e
      refine (?_ : ky_V _ _ _ 78 _ _ _ _)
      refine v_vret (i := 39) rfl rfl ?_
      obtain ⟨rfl, rfl⟩ := ky_leaf e
      exact hr _ hmh22 frh22
