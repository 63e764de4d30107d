def x9_init (N : Nat)  (s : sk_S) (a : Nat) : Option (sk_S × Int32) := (if sk_K s a = (9, 0) then (ky_let (sk_n s) (fun a1 => (ky_let (sk_nw s 20 400 400) (fun q3 => (ky_let (sk_wr q3 a 0 (some a1)) (fun q5 => (some (q5, 0)))))))) else none)
set_option maxRecDepth 20000 in
set_option maxHeartbeats 4000000 in
theorem k_X9_init {G : ky_GW} {d : Nat} {h : ky_HP} {Q : ky_RS → ky_HP → Prop} {s s9 : sk_S} {r9 : Int32} {a : Nat} (N : Nat) (hG : ky_OK G)   (hm : sk_hp G s h)  (e : x9_init N  s a = some (s9, r9)) (hr : ∀ h1, sk_hp G s9 h1 → sk_fr (some a) s h s9 h1 → Q (.inl none) h1) : ky_Call G (d + 1) M_X9_init [.ref a] h Q := by
  refine ky_ofV (by decide +kernel) rfl ok_X9_init (Nat.le_of_ble_eq_true rfl) ?_
  have fr : sk_fr (some a) s h s h := sk_fr.rf
  unfold x9_init at e
  refine (?_ : ky_V _ _ _ 0 [(0, .ref a)] [] _ _)
  obtain ⟨z0, e⟩ := ky_chkE e
  refine v_aload_n (i := 0) (j := 0) rfl rfl (?_ : ky_V _ _ _ 1 _ _ _ _)
  refine v_objInit (by rw [show M_X9_init.1.cls = "WaistSand$Tape" from rfl]; exact ky_t1 (i := 43) rfl rfl) (ky_t1 (i := 36) rfl rfl) (ky_t1 (i := 37) rfl rfl) (i := 1) rfl (Nat.le_of_ble_eq_true rfl) (?_ : ky_V _ _ _ 4 _ _ _ _)
  refine v_aload_n (i := 2) (j := 0) rfl rfl (?_ : ky_V _ _ _ 5 _ _ _ _)
  refine v_sipush (v := 400) (i := 3) rfl (by decide) (?_ : ky_V _ _ _ 8 _ _ _ _)
  refine v_newb (N := 400) (ky_t1 (i := 64) rfl rfl) (i := 4) rfl (by decide) rfl (by decide) ?_
  refine sk_snw hm fr 20 400 rfl (fun a1 h2 ea1 hmh2 frh2 => ?_)
  replace e := ky_letE ea1 e
  obtain ⟨q3, eq3⟩ : ∃ z, z = (sk_nw s 20 400 400) := ⟨_, rfl⟩
  rw [← eq3] at hmh2 frh2
  replace e := ky_letE eq3 e
  refine (?_ : ky_V _ _ _ 10 _ (.ref a1 :: _) _ _)
  refine pf_X9_11 rfl rfl (i := 5) rfl (oc_X9 hmh2 (frh2.K (k := 8) z0)) (Nat.le_of_ble_eq_true rfl) rfl rfl ?_
  refine sk_str (kd := 8) (n := 0) hmh2 frh2 (frh2.K (k := 8) z0) 0 (some a1) (Or.inr rfl) (fun h4 hmh4 frh4 => ?_)
  obtain ⟨q5, eq5⟩ : ∃ z, z = (sk_wr q3 a 0 (some a1)) := ⟨_, rfl⟩
  rw [← eq5] at hmh4 frh4
  replace e := ky_letE eq5 e
  refine (?_ : ky_V _ _ _ 13 _ _ _ _)
  refine v_vret (i := 6) rfl rfl ?_
  obtain ⟨rfl, rfl⟩ := ky_leaf e
  exact hr _ hmh4 frh4

def x9_hasRoom (N : Nat)  (s : sk_S) (a : Nat) : Option (sk_S × Int32) := (if lay_X9 (sk_K s) (sk_r s) a = true then (if (400 : Int32) < ((sk_c s a 1) + 20) then (some (s, 0)) else (some (s, 1))) else none)
set_option maxRecDepth 20000 in
set_option maxHeartbeats 4000000 in
theorem k_X9_hasRoom {G : ky_GW} {d : Nat} {h : ky_HP} {Q : ky_RS → ky_HP → Prop} {s s9 : sk_S} {r9 : Int32} {a : Nat} (N : Nat) (hG : ky_OK G)   (hm : sk_hp G s h)  (e : x9_hasRoom N  s a = some (s9, r9)) (hr : ∀ h1, sk_hp G s9 h1 → sk_fr none s h s9 h1 → Q (.inl (some (.int r9))) h1) : ky_Call G d M_X9_hasRoom [.ref a] h Q := by
  refine ky_ofV (by decide +kernel) rfl ok_X9_hasRoom (Nat.le_of_ble_eq_true rfl) ?_
  have fr : sk_fr none s h s h := sk_fr.rf
  unfold x9_hasRoom at e
  refine (?_ : ky_V _ _ _ 0 [(0, .ref a)] [] _ _)
  obtain ⟨za, e⟩ := ky_chkE e
  refine v_aload_n (i := 0) (j := 0) rfl rfl (?_ : ky_V _ _ _ 1 _ _ _ _)
  refine gf_X9_15 rfl (i := 1) rfl (oc_X9 hm (ly_X9_c za)) rfl (?_ : ky_V _ _ _ 4 _ _ _ _)
  refine v_bipush (v := 20) (i := 2) rfl (by decide) (?_ : ky_V _ _ _ 6 _ _ _ _)
  refine v_iadd (i := 3) rfl (?_ : ky_V _ _ _ 7 _ _ _ _)
  refine v_sipush (v := 400) (i := 4) rfl (by decide) (?_ : ky_V _ _ _ 10 _ _ _ _)
  refine v_icmp_gt (tgt := 17) (i := 5) rfl (by decide) (fun c1 => ?_) (fun c1 => ?_)
  · replace e := ky_ifT c1 e
    refine v_iconst (v := 0) (i := 8) rfl (by decide) (?_ : ky_V _ _ _ 18 _ _ _ _)
    refine v_iret (v := 0) (ty := .boolean) (i := 9) rfl rfl (by decide) ?_
    obtain ⟨rfl, rfl⟩ := ky_leaf e
    exact hr _ hm fr
  · replace e := ky_ifF c1 e
    refine v_iconst (v := 1) (i := 6) rfl (by decide) (?_ : ky_V _ _ _ 14 _ _ _ _)
    refine v_goto (tgt := 18) (i := 7) rfl (by decide) (?_ : ky_V _ _ _ 18 _ _ _ _)
    refine v_iret (v := 1) (ty := .boolean) (i := 9) rfl rfl (by decide) ?_
    obtain ⟨rfl, rfl⟩ := ky_leaf e
    exact hr _ hm fr

def x9_add_L3 (N : Nat)  (a : Nat) (k : sk_S → Int32 → Int32 → Option (sk_S × Int32)) : Nat → sk_S → Int32 → Int32 → Option (sk_S × Int32)
  | 0, _, _, _ => none
  | n + 1, c, p1, p2 => (if p2 < 0 then (k c p1 p2) else (if (400 : Int32) ≤ (sk_c c a 1) then (ky_let (p2 + (-8)) (fun x3 => (x9_add_L3 N a k n c p1 x3))) else (ky_let ((Int32.toInt8 (p1 >>> (p2 &&& 31))).toInt32) (fun x4 => (if ky_inB (sk_c c a 1) 400 = true then (ky_let (sk_wc c (a + 1) (Int32.toNatClampNeg (sk_c c a 1)) ((Int32.toInt8 x4).toInt32)) (fun q7 => (ky_let ((sk_c q7 a 1) + 1) (fun x8 => (ky_let (sk_wc q7 a 1 x8) (fun q10 => (ky_let (p2 + (-8)) (fun x11 => (x9_add_L3 N a k n q10 p1 x11))))))))) else none)))))
set_option maxRecDepth 20000 in
set_option maxHeartbeats 4000000 in
theorem lv_X9_add_3 {G : ky_GW} {d : Nat} {s s9 : sk_S} {h0 : ky_HP} {Q : ky_RS → ky_HP → Prop} {r9 : Int32} (N : Nat) (hG : ky_OK G)  (a : Nat)   (za : lay_X9 (sk_K s) (sk_r s) a = true) (hm : sk_hp G s h0) (k : sk_S → Int32 → Int32 → Option (sk_S × Int32)) (hr : ∀ h1, sk_hp G s9 h1 → sk_fr none s h0 s9 h1 → Q (.inl none) h1)
    (hk : ∀ (h : ky_HP) (c : sk_S) (p1 : Int32) (p2 : Int32), sk_hp G c h → sk_fr none s h0 c h → k c p1 p2 = some (s9, r9) → ky_V G d M_X9_add 46 [(0, .ref a), (1, .int p1), (2, .int p2)] [] h Q) :
    ∀ (n : Nat) (h : ky_HP) (c : sk_S) (p1 : Int32) (p2 : Int32), sk_hp G c h → sk_fr none s h0 c h → x9_add_L3 N a k n c p1 p2 = some (s9, r9) → ky_V G d M_X9_add 3 [(0, .ref a), (1, .int p1), (2, .int p2)] [] h Q := by
  intro n
  induction n with
  | zero => intro h c p1 p2 hm1 fr e; cases e
  | succ n ih =>
    intro h c p1 p2 hm1 fr e
    rw [x9_add_L3] at e
    refine v_iload_n (i := 2) (j := 2) rfl rfl (?_ : ky_V _ _ _ 4 _ _ _ _)
    refine v_if_lt (tgt := 46) (i := 3) rfl (by decide) (fun c1 => ?_) (fun c1 => ?_)
    · replace e := ky_ifT c1 e
      exact hk h c p1 p2 hm1 fr e
    · replace e := ky_ifF c1 e
      refine v_aload_n (i := 4) (j := 0) rfl rfl (?_ : ky_V _ _ _ 8 _ _ _ _)
      refine gf_X9_15 rfl (i := 5) rfl (oc_X9 hm1 (ly_X9_c (lt_X9 fr za))) rfl (?_ : ky_V _ _ _ 11 _ _ _ _)
      refine v_sipush (v := 400) (i := 6) rfl (by decide) (?_ : ky_V _ _ _ 14 _ _ _ _)
      refine v_icmp_ge (tgt := 40) (i := 7) rfl (by decide) (fun c2 => ?_) (fun c2 => ?_)
      · replace e := ky_ifT c2 e
        obtain ⟨x3, ex3⟩ : ∃ z : Int32, z = p2 + (-8) := ⟨_, rfl⟩
        replace e := ky_letE ex3 e
        refine v_iinc (v := x3) (j := 2) (L' := [(0, .ref a), (1, .int p1), (2, .int x3)]) [1, 2, 0] (i := 23) rfl rfl (by rw [ex3]; rfl) (Nat.le_of_ble_eq_true rfl) rfl (?_ : ky_V _ _ _ 43 _ _ _ _)
        refine v_goto (tgt := 3) (i := 24) rfl (by decide) (?_ : ky_V _ _ _ 3 _ _ _ _)
        exact ih h c p1 x3 hm1 fr e
      · replace e := ky_ifF c2 e
        refine v_aload_n (i := 8) (j := 0) rfl rfl (?_ : ky_V _ _ _ 18 _ _ _ _)
        refine gf_X9_11 rfl (i := 9) rfl (oc_X9 hm1 (ly_X9_c (lt_X9 fr za))) (sk_rf (ly_X9_r0 (lt_X9 fr za))) (?_ : ky_V _ _ _ 21 _ (.ref (a + 1) :: _) _ _)
        refine v_aload_n (i := 10) (j := 0) rfl rfl (?_ : ky_V _ _ _ 22 _ _ _ _)
        refine gf_X9_15 rfl (i := 11) rfl (oc_X9 hm1 (ly_X9_c (lt_X9 fr za))) rfl (?_ : ky_V _ _ _ 25 _ _ _ _)
        refine v_iload_n (i := 12) (j := 1) rfl rfl (?_ : ky_V _ _ _ 26 _ _ _ _)
        refine v_iload_n (i := 13) (j := 2) rfl rfl (?_ : ky_V _ _ _ 27 _ _ _ _)
        refine v_ishr (i := 14) rfl (?_ : ky_V _ _ _ 28 _ _ _ _)
        refine v_i2b (i := 15) rfl rfl (?_ : ky_V _ _ _ 29 _ _ _ _)
        refine v_topi (fun x4 ex4 => ?_)
        replace e := ky_letE ex4 e
        obtain ⟨z5, e⟩ := ky_chkE e
        refine v_bast (i := 16) rfl (oa_20 hm1 (ly_X9_k0 (lt_X9 fr za))) (ky_inb z5) ?_
        refine sk_stc (kd := 19) hm1 fr (ly_X9_k0 (lt_X9 fr za)) (Int32.toNatClampNeg (sk_c c a 1)) ((Int32.toInt8 x4).toInt32) (fun h6 hmh6 frh6 => ?_)
        obtain ⟨q7, eq7⟩ : ∃ z, z = (sk_wc c (a + 1) (Int32.toNatClampNeg (sk_c c a 1)) ((Int32.toInt8 x4).toInt32)) := ⟨_, rfl⟩
        rw [← eq7] at hmh6 frh6
        replace e := ky_letE eq7 e
        refine (?_ : ky_V _ _ _ 30 _ _ _ _)
        refine v_aload_n (i := 17) (j := 0) rfl rfl (?_ : ky_V _ _ _ 31 _ _ _ _)
        refine v_dup (i := 18) rfl rfl (?_ : ky_V _ _ _ 32 _ _ _ _)
        refine gf_X9_15 rfl (i := 19) rfl (oc_X9 hmh6 (ly_X9_c (lt_X9 frh6 za))) rfl (?_ : ky_V _ _ _ 35 _ _ _ _)
        refine v_iconst (v := 1) (i := 20) rfl (by decide) (?_ : ky_V _ _ _ 36 _ _ _ _)
        refine v_iadd (i := 21) rfl (?_ : ky_V _ _ _ 37 _ _ _ _)
        refine v_topi (fun x8 ex8 => ?_)
        replace e := ky_letE ex8 e
        refine pf_X9_15 rfl (i := 22) rfl (oc_X9 hmh6 (ly_X9_c (lt_X9 frh6 za))) (Nat.le_of_ble_eq_true rfl) rfl rfl ?_
        refine sk_stc (kd := 8) (n := 0) hmh6 frh6 (ly_X9_c (lt_X9 frh6 za)) 1 x8 (fun h9 hmh9 frh9 => ?_)
        obtain ⟨q10, eq10⟩ : ∃ z, z = (sk_wc q7 a 1 x8) := ⟨_, rfl⟩
        rw [← eq10] at hmh9 frh9
        replace e := ky_letE eq10 e
        refine (?_ : ky_V _ _ _ 40 _ _ _ _)
        obtain ⟨x11, ex11⟩ : ∃ z : Int32, z = p2 + (-8) := ⟨_, rfl⟩
        replace e := ky_letE ex11 e
        refine v_iinc (v := x11) (j := 2) (L' := [(0, .ref a), (1, .int p1), (2, .int x11)]) [1, 2, 0] (i := 23) rfl rfl (by rw [ex11]; rfl) (Nat.le_of_ble_eq_true rfl) rfl (?_ : ky_V _ _ _ 43 _ _ _ _)
        refine v_goto (tgt := 3) (i := 24) rfl (by decide) (?_ : ky_V _ _ _ 3 _ _ _ _)
        exact ih h9 q10 p1 x11 hmh9 frh9 e

def x9_add (N : Nat)  (s : sk_S) (a : Nat) (p1 : Int32) : Option (sk_S × Int32) := (if lay_X9 (sk_K s) (sk_r s) a = true then (x9_add_L3 N a (fun q2 x3 x4 => (some (q2, 0))) N s p1 24) else none)
set_option maxRecDepth 20000 in
set_option maxHeartbeats 4000000 in
theorem k_X9_add {G : ky_GW} {d : Nat} {h : ky_HP} {Q : ky_RS → ky_HP → Prop} {s s9 : sk_S} {r9 : Int32} {a : Nat} {p1 : Int32} (N : Nat) (hG : ky_OK G)   (hm : sk_hp G s h)  (e : x9_add N  s a p1 = some (s9, r9)) (hr : ∀ h1, sk_hp G s9 h1 → sk_fr none s h s9 h1 → Q (.inl none) h1) : ky_Call G d M_X9_add [.ref a, .int p1] h Q := by
  refine ky_ofV (by decide +kernel) rfl ok_X9_add (Nat.le_of_ble_eq_true rfl) ?_
  have fr : sk_fr none s h s h := sk_fr.rf
  unfold x9_add at e
  refine (?_ : ky_V _ _ _ 0 [(0, .ref a), (1, .int p1)] [] _ _)
  obtain ⟨za, e⟩ := ky_chkE e
  refine v_bipush (v := 24) (i := 0) rfl (by decide) (?_ : ky_V _ _ _ 2 _ _ _ _)
  refine v_istore_n (L' := [(0, .ref a), (1, .int p1), (2, .int 24)]) [1, 2, 0] (i := 1) rfl (Nat.le_of_ble_eq_true rfl) rfl (?_ : ky_V _ _ _ 3 _ _ _ _)
  refine lv_X9_add_3 N hG a za hm _ hr (fun h1 q2 x3 x4 hmh1 frh1 e => ?_) N h s p1 24 hm fr e
  refine v_vret (i := 25) rfl rfl ?_
  obtain ⟨rfl, rfl⟩ := ky_leaf e
  exact hr _ hmh1 frh1

def x9_step_L18 (N : Nat)  (a : Nat) (k : sk_S → Int32 → Option (sk_S × Int32)) : Nat → sk_S → Int32 → Option (sk_S × Int32)
  | 0, _, _ => none
  | n + 1, c, p1 => (if (sk_c c a 1) ≤ (sk_c c a 3) then (k c p1) else (if ky_inB (sk_c c a 3) 400 = true then (if (sk_c c (a + 1) (Int32.toNatClampNeg (sk_c c a 3))) = (32 : Int32) then (ky_let ((sk_c c a 3) + 1) (fun x4 => (ky_let (sk_wc c a 3 x4) (fun q6 => (x9_step_L18 N a k n q6 p1))))) else (k c p1)) else none))
set_option maxRecDepth 20000 in
set_option maxHeartbeats 4000000 in
theorem lv_X9_step_18 {G : ky_GW} {d : Nat} {s s9 : sk_S} {h0 : ky_HP} {Q : ky_RS → ky_HP → Prop} {r9 : Int32} (N : Nat) (hG : ky_OK G)  (a : Nat)   (za : lay_X9 (sk_K s) (sk_r s) a = true) (hm : sk_hp G s h0) (k : sk_S → Int32 → Option (sk_S × Int32)) (hr : ∀ h1, sk_hp G s9 h1 → sk_fr none s h0 s9 h1 → Q (.inl none) h1)
    (hk : ∀ (h : ky_HP) (c : sk_S) (p1 : Int32), sk_hp G c h → sk_fr none s h0 c h → k c p1 = some (s9, r9) → ky_V G d M_X9_step 56 [(0, .ref a), (1, .int p1)] [] h Q) :
    ∀ (n : Nat) (h : ky_HP) (c : sk_S) (p1 : Int32), sk_hp G c h → sk_fr none s h0 c h → x9_step_L18 N a k n c p1 = some (s9, r9) → ky_V G d M_X9_step 18 [(0, .ref a), (1, .int p1)] [] h Q := by
  intro n
  induction n with
  | zero => intro h c p1 hm1 fr e; cases e
  | succ n ih =>
    intro h c p1 hm1 fr e
    rw [x9_step_L18] at e
    refine v_aload_n (i := 10) (j := 0) rfl rfl (?_ : ky_V _ _ _ 19 _ _ _ _)
    refine gf_X9_19 rfl (i := 11) rfl (oc_X9 hm1 (ly_X9_c (lt_X9 fr za))) rfl (?_ : ky_V _ _ _ 22 _ _ _ _)
    refine v_aload_n (i := 12) (j := 0) rfl rfl (?_ : ky_V _ _ _ 23 _ _ _ _)
    refine gf_X9_15 rfl (i := 13) rfl (oc_X9 hm1 (ly_X9_c (lt_X9 fr za))) rfl (?_ : ky_V _ _ _ 26 _ _ _ _)
    refine v_icmp_ge (tgt := 56) (i := 14) rfl (by decide) (fun c1 => ?_) (fun c1 => ?_)
    · replace e := ky_ifT c1 e
      exact hk h c p1 hm1 fr e
    · replace e := ky_ifF c1 e
      refine v_aload_n (i := 15) (j := 0) rfl rfl (?_ : ky_V _ _ _ 30 _ _ _ _)
      refine gf_X9_11 rfl (i := 16) rfl (oc_X9 hm1 (ly_X9_c (lt_X9 fr za))) (sk_rf (ly_X9_r0 (lt_X9 fr za))) (?_ : ky_V _ _ _ 33 _ (.ref (a + 1) :: _) _ _)
      refine v_aload_n (i := 17) (j := 0) rfl rfl (?_ : ky_V _ _ _ 34 _ _ _ _)
      refine gf_X9_19 rfl (i := 18) rfl (oc_X9 hm1 (ly_X9_c (lt_X9 fr za))) rfl (?_ : ky_V _ _ _ 37 _ _ _ _)
      obtain ⟨z2, e⟩ := ky_chkE e
      refine v_bald (i := 19) rfl (oa_20 hm1 (ly_X9_k0 (lt_X9 fr za))) (ky_inb z2) (?_ : ky_V _ _ _ 38 _ (.int (sk_c c (a + 1) (Int32.toNatClampNeg (sk_c c a 3))) :: _) _ _)
      refine v_bipush (v := 32) (i := 20) rfl (by decide) (?_ : ky_V _ _ _ 40 _ _ _ _)
      refine v_icmp_ne (tgt := 56) (i := 21) rfl (by decide) (fun c3 => ?_) (fun c3 => ?_)
      · replace e := ky_ifF c3 e
        exact hk h c p1 hm1 fr e
      · replace e := ky_ifT c3 e
        refine v_aload_n (i := 22) (j := 0) rfl rfl (?_ : ky_V _ _ _ 44 _ _ _ _)
        refine v_dup (i := 23) rfl rfl (?_ : ky_V _ _ _ 45 _ _ _ _)
        refine gf_X9_19 rfl (i := 24) rfl (oc_X9 hm1 (ly_X9_c (lt_X9 fr za))) rfl (?_ : ky_V _ _ _ 48 _ _ _ _)
        refine v_iconst (v := 1) (i := 25) rfl (by decide) (?_ : ky_V _ _ _ 49 _ _ _ _)
        refine v_iadd (i := 26) rfl (?_ : ky_V _ _ _ 50 _ _ _ _)
        refine v_topi (fun x4 ex4 => ?_)
        replace e := ky_letE ex4 e
        refine pf_X9_19 rfl (i := 27) rfl (oc_X9 hm1 (ly_X9_c (lt_X9 fr za))) (Nat.le_of_ble_eq_true rfl) rfl rfl ?_
        refine sk_stc (kd := 8) (n := 0) hm1 fr (ly_X9_c (lt_X9 fr za)) 3 x4 (fun h5 hmh5 frh5 => ?_)
        obtain ⟨q6, eq6⟩ : ∃ z, z = (sk_wc c a 3 x4) := ⟨_, rfl⟩
        rw [← eq6] at hmh5 frh5
        replace e := ky_letE eq6 e
        refine (?_ : ky_V _ _ _ 53 _ _ _ _)
        refine v_goto (tgt := 18) (i := 28) rfl (by decide) (?_ : ky_V _ _ _ 18 _ _ _ _)
        exact ih h5 q6 p1 hmh5 frh5 e

def x9_step (N : Nat)  (s : sk_S) (a : Nat) (p1 : Int32) : Option (sk_S × Int32) := (if lay_X9 (sk_K s) (sk_r s) a = true then (ky_let (sk_c s a 3) (fun x1 => (ky_let (sk_wc s a 4 x1) (fun q3 => (ky_let ((sk_c q3 a 3) + p1) (fun x4 => (ky_let (sk_wc q3 a 3 x4) (fun q6 => (x9_step_L18 N a (fun q8 x9 => (some (q8, 0))) N q6 p1))))))))) else none)
set_option maxRecDepth 20000 in
set_option maxHeartbeats 4000000 in
theorem k_X9_step {G : ky_GW} {d : Nat} {h : ky_HP} {Q : ky_RS → ky_HP → Prop} {s s9 : sk_S} {r9 : Int32} {a : Nat} {p1 : Int32} (N : Nat) (hG : ky_OK G)   (hm : sk_hp G s h)  (e : x9_step N  s a p1 = some (s9, r9)) (hr : ∀ h1, sk_hp G s9 h1 → sk_fr none s h s9 h1 → Q (.inl none) h1) : ky_Call G d M_X9_step [.ref a, .int p1] h Q := by
  refine ky_ofV (by decide +kernel) rfl ok_X9_step (Nat.le_of_ble_eq_true rfl) ?_
  have fr : sk_fr none s h s h := sk_fr.rf
  unfold x9_step at e
  refine (?_ : ky_V _ _ _ 0 [(0, .ref a), (1, .int p1)] [] _ _)
  obtain ⟨za, e⟩ := ky_chkE e
  refine v_aload_n (i := 0) (j := 0) rfl rfl (?_ : ky_V _ _ _ 1 _ _ _ _)
  refine v_aload_n (i := 1) (j := 0) rfl rfl (?_ : ky_V _ _ _ 2 _ _ _ _)
  refine gf_X9_19 rfl (i := 2) rfl (oc_X9 hm (ly_X9_c za)) rfl (?_ : ky_V _ _ _ 5 _ _ _ _)
  refine v_topi (fun x1 ex1 => ?_)
  replace e := ky_letE ex1 e
  refine pf_X9_26 rfl (i := 3) rfl (oc_X9 hm (ly_X9_c za)) (Nat.le_of_ble_eq_true rfl) rfl rfl ?_
  refine sk_stc (kd := 8) (n := 0) hm fr (ly_X9_c za) 4 x1 (fun h2 hmh2 frh2 => ?_)
  obtain ⟨q3, eq3⟩ : ∃ z, z = (sk_wc s a 4 x1) := ⟨_, rfl⟩
  rw [← eq3] at hmh2 frh2
  replace e := ky_letE eq3 e
  refine (?_ : ky_V _ _ _ 8 _ _ _ _)
  refine v_aload_n (i := 4) (j := 0) rfl rfl (?_ : ky_V _ _ _ 9 _ _ _ _)
  refine v_dup (i := 5) rfl rfl (?_ : ky_V _ _ _ 10 _ _ _ _)
  refine gf_X9_19 rfl (i := 6) rfl (oc_X9 hmh2 (ly_X9_c (lt_X9 frh2 za))) rfl (?_ : ky_V _ _ _ 13 _ _ _ _)
  refine v_iload_n (i := 7) (j := 1) rfl rfl (?_ : ky_V _ _ _ 14 _ _ _ _)
  refine v_iadd (i := 8) rfl (?_ : ky_V _ _ _ 15 _ _ _ _)
  refine v_topi (fun x4 ex4 => ?_)
  replace e := ky_letE ex4 e
  refine pf_X9_19 rfl (i := 9) rfl (oc_X9 hmh2 (ly_X9_c (lt_X9 frh2 za))) (Nat.le_of_ble_eq_true rfl) rfl rfl ?_
  refine sk_stc (kd := 8) (n := 0) hmh2 frh2 (ly_X9_c (lt_X9 frh2 za)) 3 x4 (fun h5 hmh5 frh5 => ?_)
  obtain ⟨q6, eq6⟩ : ∃ z, z = (sk_wc q3 a 3 x4) := ⟨_, rfl⟩
  rw [← eq6] at hmh5 frh5
  replace e := ky_letE eq6 e
  refine (?_ : ky_V _ _ _ 18 _ _ _ _)
  refine lv_X9_step_18 N hG a za hm _ hr (fun h7 q8 x9 hmh7 frh7 e => ?_) N h5 q6 p1 hmh5 frh5 e
  refine v_vret (i := 29) rfl rfl ?_
  obtain ⟨rfl, rfl⟩ := ky_leaf e
  exact hr _ hmh7 frh7

def x9_isEnded (N : Nat)  (s : sk_S) (a : Nat) : Option (sk_S × Int32) := (if lay_X9 (sk_K s) (sk_r s) a = true then (if (sk_c s a 3) < (sk_c s a 1) then (some (s, 0)) else (some (s, 1))) else none)
set_option maxRecDepth 20000 in
set_option maxHeartbeats 4000000 in
theorem k_X9_isEnded {G : ky_GW} {d : Nat} {h : ky_HP} {Q : ky_RS → ky_HP → Prop} {s s9 : sk_S} {r9 : Int32} {a : Nat} (N : Nat) (hG : ky_OK G)   (hm : sk_hp G s h)  (e : x9_isEnded N  s a = some (s9, r9)) (hr : ∀ h1, sk_hp G s9 h1 → sk_fr none s h s9 h1 → Q (.inl (some (.int r9))) h1) : ky_Call G d M_X9_isEnded [.ref a] h Q := by
  refine ky_ofV (by decide +kernel) rfl ok_X9_isEnded (Nat.le_of_ble_eq_true rfl) ?_
  have fr : sk_fr none s h s h := sk_fr.rf
  unfold x9_isEnded at e
  refine (?_ : ky_V _ _ _ 0 [(0, .ref a)] [] _ _)
  obtain ⟨za, e⟩ := ky_chkE e
  refine v_aload_n (i := 0) (j := 0) rfl rfl (?_ : ky_V _ _ _ 1 _ _ _ _)
  refine gf_X9_19 rfl (i := 1) rfl (oc_X9 hm (ly_X9_c za)) rfl (?_ : ky_V _ _ _ 4 _ _ _ _)
  refine v_aload_n (i := 2) (j := 0) rfl rfl (?_ : ky_V _ _ _ 5 _ _ _ _)
  refine gf_X9_15 rfl (i := 3) rfl (oc_X9 hm (ly_X9_c za)) rfl (?_ : ky_V _ _ _ 8 _ _ _ _)
  refine v_icmp_lt (tgt := 15) (i := 4) rfl (by decide) (fun c1 => ?_) (fun c1 => ?_)
  · replace e := ky_ifT c1 e
    refine v_iconst (v := 0) (i := 7) rfl (by decide) (?_ : ky_V _ _ _ 16 _ _ _ _)
    refine v_iret (v := 0) (ty := .boolean) (i := 8) rfl rfl (by decide) ?_
    obtain ⟨rfl, rfl⟩ := ky_leaf e
    exact hr _ hm fr
  · replace e := ky_ifF c1 e
    refine v_iconst (v := 1) (i := 5) rfl (by decide) (?_ : ky_V _ _ _ 12 _ _ _ _)
    refine v_goto (tgt := 16) (i := 6) rfl (by decide) (?_ : ky_V _ _ _ 16 _ _ _ _)
    refine v_iret (v := 1) (ty := .boolean) (i := 8) rfl rfl (by decide) ?_
    obtain ⟨rfl, rfl⟩ := ky_leaf e
    exact hr _ hm fr

def x9_letters_L5 (N : Nat)  (a : Nat) (k : sk_S → Int32 → Option (sk_S × Int32)) : Nat → sk_S → Int32 → Option (sk_S × Int32)
  | 0, _, _ => none
  | n + 1, c, p1 => (if (sk_c c a 1) ≤ p1 then (k c p1) else (if ky_inB p1 400 = true then (if (sk_c c (a + 1) (Int32.toNatClampNeg p1)) < (97 : Int32) then (k c p1) else (if (122 : Int32) < (sk_c c (a + 1) (Int32.toNatClampNeg p1)) then (k c p1) else (ky_let (p1 + 1) (fun x5 => (x9_letters_L5 N a k n c x5))))) else none))
set_option maxRecDepth 20000 in
set_option maxHeartbeats 4000000 in
theorem lv_X9_letters_5 {G : ky_GW} {d : Nat} {s s9 : sk_S} {h0 : ky_HP} {Q : ky_RS → ky_HP → Prop} {r9 : Int32} (N : Nat) (hG : ky_OK G)  (a : Nat)   (za : lay_X9 (sk_K s) (sk_r s) a = true) (hm : sk_hp G s h0) (k : sk_S → Int32 → Option (sk_S × Int32)) (hr : ∀ h1, sk_hp G s9 h1 → sk_fr none s h0 s9 h1 → Q (.inl (some (.int r9))) h1)
    (hk : ∀ (h : ky_HP) (c : sk_S) (p1 : Int32), sk_hp G c h → sk_fr none s h0 c h → k c p1 = some (s9, r9) → ky_V G d M_X9_letters 41 [(0, .ref a), (1, .int p1)] [] h Q) :
    ∀ (n : Nat) (h : ky_HP) (c : sk_S) (p1 : Int32), sk_hp G c h → sk_fr none s h0 c h → x9_letters_L5 N a k n c p1 = some (s9, r9) → ky_V G d M_X9_letters 5 [(0, .ref a), (1, .int p1)] [] h Q := by
  intro n
  induction n with
  | zero => intro h c p1 hm1 fr e; cases e
  | succ n ih =>
    intro h c p1 hm1 fr e
    rw [x9_letters_L5] at e
    refine v_iload_n (i := 3) (j := 1) rfl rfl (?_ : ky_V _ _ _ 6 _ _ _ _)
    refine v_aload_n (i := 4) (j := 0) rfl rfl (?_ : ky_V _ _ _ 7 _ _ _ _)
    refine gf_X9_15 rfl (i := 5) rfl (oc_X9 hm1 (ly_X9_c (lt_X9 fr za))) rfl (?_ : ky_V _ _ _ 10 _ _ _ _)
    refine v_icmp_ge (tgt := 41) (i := 6) rfl (by decide) (fun c1 => ?_) (fun c1 => ?_)
    · replace e := ky_ifT c1 e
      exact hk h c p1 hm1 fr e
    · replace e := ky_ifF c1 e
      refine v_aload_n (i := 7) (j := 0) rfl rfl (?_ : ky_V _ _ _ 14 _ _ _ _)
      refine gf_X9_11 rfl (i := 8) rfl (oc_X9 hm1 (ly_X9_c (lt_X9 fr za))) (sk_rf (ly_X9_r0 (lt_X9 fr za))) (?_ : ky_V _ _ _ 17 _ (.ref (a + 1) :: _) _ _)
      refine v_iload_n (i := 9) (j := 1) rfl rfl (?_ : ky_V _ _ _ 18 _ _ _ _)
      obtain ⟨z2, e⟩ := ky_chkE e
      refine v_bald (i := 10) rfl (oa_20 hm1 (ly_X9_k0 (lt_X9 fr za))) (ky_inb z2) (?_ : ky_V _ _ _ 19 _ (.int (sk_c c (a + 1) (Int32.toNatClampNeg p1)) :: _) _ _)
      refine v_bipush (v := 97) (i := 11) rfl (by decide) (?_ : ky_V _ _ _ 21 _ _ _ _)
      refine v_icmp_lt (tgt := 41) (i := 12) rfl (by decide) (fun c3 => ?_) (fun c3 => ?_)
      · replace e := ky_ifT c3 e
        exact hk h c p1 hm1 fr e
      · replace e := ky_ifF c3 e
        refine v_aload_n (i := 13) (j := 0) rfl rfl (?_ : ky_V _ _ _ 25 _ _ _ _)
        refine gf_X9_11 rfl (i := 14) rfl (oc_X9 hm1 (ly_X9_c (lt_X9 fr za))) (sk_rf (ly_X9_r0 (lt_X9 fr za))) (?_ : ky_V _ _ _ 28 _ (.ref (a + 1) :: _) _ _)
        refine v_iload_n (i := 15) (j := 1) rfl rfl (?_ : ky_V _ _ _ 29 _ _ _ _)
        refine v_bald (i := 16) rfl (oa_20 hm1 (ly_X9_k0 (lt_X9 fr za))) (ky_inb z2) (?_ : ky_V _ _ _ 30 _ (.int (sk_c c (a + 1) (Int32.toNatClampNeg p1)) :: _) _ _)
        refine v_bipush (v := 122) (i := 17) rfl (by decide) (?_ : ky_V _ _ _ 32 _ _ _ _)
        refine v_icmp_gt (tgt := 41) (i := 18) rfl (by decide) (fun c4 => ?_) (fun c4 => ?_)
        · replace e := ky_ifT c4 e
          exact hk h c p1 hm1 fr e
        · replace e := ky_ifF c4 e
          obtain ⟨x5, ex5⟩ : ∃ z : Int32, z = p1 + 1 := ⟨_, rfl⟩
          replace e := ky_letE ex5 e
          refine v_iinc (v := x5) (j := 1) (L' := [(0, .ref a), (1, .int x5)]) [1, 0] (i := 19) rfl rfl (by rw [ex5]; rfl) (Nat.le_of_ble_eq_true rfl) rfl (?_ : ky_V _ _ _ 38 _ _ _ _)
          refine v_goto (tgt := 5) (i := 20) rfl (by decide) (?_ : ky_V _ _ _ 5 _ _ _ _)
          exact ih h c x5 hm1 fr e

def x9_letters (N : Nat)  (s : sk_S) (a : Nat) : Option (sk_S × Int32) := (if lay_X9 (sk_K s) (sk_r s) a = true then (ky_let (sk_c s a 3) (fun x1 => (x9_letters_L5 N a (fun q3 x4 => (some (q3, (x4 - (sk_c q3 a 3))))) N s x1))) else none)
set_option maxRecDepth 20000 in
set_option maxHeartbeats 4000000 in
theorem k_X9_letters {G : ky_GW} {d : Nat} {h : ky_HP} {Q : ky_RS → ky_HP → Prop} {s s9 : sk_S} {r9 : Int32} {a : Nat} (N : Nat) (hG : ky_OK G)   (hm : sk_hp G s h)  (e : x9_letters N  s a = some (s9, r9)) (hr : ∀ h1, sk_hp G s9 h1 → sk_fr none s h s9 h1 → Q (.inl (some (.int r9))) h1) : ky_Call G d M_X9_letters [.ref a] h Q := by
  refine ky_ofV (by decide +kernel) rfl ok_X9_letters (Nat.le_of_ble_eq_true rfl) ?_
  have fr : sk_fr none s h s h := sk_fr.rf
  unfold x9_letters at e
  refine (?_ : ky_V _ _ _ 0 [(0, .ref a)] [] _ _)
  obtain ⟨za, e⟩ := ky_chkE e
  refine v_aload_n (i := 0) (j := 0) rfl rfl (?_ : ky_V _ _ _ 1 _ _ _ _)
  refine gf_X9_19 rfl (i := 1) rfl (oc_X9 hm (ly_X9_c za)) rfl (?_ : ky_V _ _ _ 4 _ _ _ _)
  refine v_topi (fun x1 ex1 => ?_)
  replace e := ky_letE ex1 e
  refine v_istore_n (L' := [(0, .ref a), (1, .int x1)]) [1, 0] (i := 2) rfl (Nat.le_of_ble_eq_true rfl) rfl (?_ : ky_V _ _ _ 5 _ _ _ _)
  refine lv_X9_letters_5 N hG a za hm _ hr (fun h2 q3 x4 hmh2 frh2 e => ?_) N h s x1 hm fr e
  refine v_iload_n (i := 21) (j := 1) rfl rfl (?_ : ky_V _ _ _ 42 _ _ _ _)
  refine v_aload_n (i := 22) (j := 0) rfl rfl (?_ : ky_V _ _ _ 43 _ _ _ _)
  refine gf_X9_19 rfl (i := 23) rfl (oc_X9 hmh2 (ly_X9_c (lt_X9 frh2 za))) rfl (?_ : ky_V _ _ _ 46 _ _ _ _)
  refine v_isub (i := 24) rfl (?_ : ky_V _ _ _ 47 _ _ _ _)
  refine v_iret (v := (x4 - (sk_c q3 a 3))) (ty := .int) (i := 25) rfl rfl rfl ?_
  obtain ⟨rfl, rfl⟩ := ky_leaf e
  exact hr _ hmh2 frh2

def x9_isHere_L3 (N : Nat)  (a : Nat) (b1 : List Int32) (k : sk_S → Int32 → Int32 → Int32 → Option (sk_S × Int32)) : Nat → sk_S → Int32 → Int32 → Int32 → Option (sk_S × Int32)
  | 0, _, _, _, _ => none
  | n + 1, c, p2, p3, p4 => (if p3 ≤ p4 then (k c p2 p3 p4) else (if ky_inB ((sk_c c a 3) + p4) 400 = true then (if List.length b1 < 2147483648 then (if ky_inB (p2 + p4) (List.length b1) = true then (if (sk_c c (a + 1) (Int32.toNatClampNeg ((sk_c c a 3) + p4))) = (st_ch (List.getD b1 (Int32.toNatClampNeg (p2 + p4)) 0)) then (ky_let (p4 + 1) (fun x6 => (x9_isHere_L3 N a b1 k n c p2 p3 x6))) else (some (c, 0))) else none) else none) else none))
set_option maxRecDepth 20000 in
set_option maxHeartbeats 4000000 in
theorem lv_X9_isHere_3 {G : ky_GW} {d : Nat} {s s9 : sk_S} {h0 : ky_HP} {Q : ky_RS → ky_HP → Prop} {r9 : Int32} (N : Nat) (hG : ky_OK G)  (a : Nat) (b1 : List Int32)  {s1 : Nat} (hs1 : ky_Str G s1 b1) (za : lay_X9 (sk_K s) (sk_r s) a = true) (hm : sk_hp G s h0) (k : sk_S → Int32 → Int32 → Int32 → Option (sk_S × Int32)) (hr : ∀ h1, sk_hp G s9 h1 → sk_fr none s h0 s9 h1 → Q (.inl (some (.int r9))) h1)
    (hk : ∀ (h : ky_HP) (c : sk_S) (p2 : Int32) (p3 : Int32) (p4 : Int32), sk_hp G c h → sk_fr none s h0 c h → k c p2 p3 p4 = some (s9, r9) → ky_V G (d + 4) M_X9_isHere 40 [(0, .ref a), (1, .ref s1), (2, .int p2), (3, .int p3), (4, .int p4)] [] h Q) :
    ∀ (n : Nat) (h : ky_HP) (c : sk_S) (p2 : Int32) (p3 : Int32) (p4 : Int32), sk_hp G c h → sk_fr none s h0 c h → x9_isHere_L3 N a b1 k n c p2 p3 p4 = some (s9, r9) → ky_V G (d + 4) M_X9_isHere 3 [(0, .ref a), (1, .ref s1), (2, .int p2), (3, .int p3), (4, .int p4)] [] h Q := by
  intro n
  induction n with
  | zero => intro h c p2 p3 p4 hm1 fr e; cases e
  | succ n ih =>
    intro h c p2 p3 p4 hm1 fr e
    rw [x9_isHere_L3] at e
    refine v_iload (i := 2) (j := 4) rfl rfl (?_ : ky_V _ _ _ 5 _ _ _ _)
    refine v_iload_n (i := 3) (j := 3) rfl rfl (?_ : ky_V _ _ _ 6 _ _ _ _)
    refine v_icmp_ge (tgt := 40) (i := 4) rfl (by decide) (fun c1 => ?_) (fun c1 => ?_)
    · replace e := ky_ifT c1 e
      exact hk h c p2 p3 p4 hm1 fr e
    · replace e := ky_ifF c1 e
      refine v_aload_n (i := 5) (j := 0) rfl rfl (?_ : ky_V _ _ _ 10 _ _ _ _)
      refine gf_X9_11 rfl (i := 6) rfl (oc_X9 hm1 (ly_X9_c (lt_X9 fr za))) (sk_rf (ly_X9_r0 (lt_X9 fr za))) (?_ : ky_V _ _ _ 13 _ (.ref (a + 1) :: _) _ _)
      refine v_aload_n (i := 7) (j := 0) rfl rfl (?_ : ky_V _ _ _ 14 _ _ _ _)
      refine gf_X9_19 rfl (i := 8) rfl (oc_X9 hm1 (ly_X9_c (lt_X9 fr za))) rfl (?_ : ky_V _ _ _ 17 _ _ _ _)
      refine v_iload (i := 9) (j := 4) rfl rfl (?_ : ky_V _ _ _ 19 _ _ _ _)
      refine v_iadd (i := 10) rfl (?_ : ky_V _ _ _ 20 _ _ _ _)
      obtain ⟨z2, e⟩ := ky_chkE e
      refine v_bald (i := 11) rfl (oa_20 hm1 (ly_X9_k0 (lt_X9 fr za))) (ky_inb z2) (?_ : ky_V _ _ _ 21 _ (.int (sk_c c (a + 1) (Int32.toNatClampNeg ((sk_c c a 3) + p4))) :: _) _ _)
      refine v_aload_n (i := 12) (j := 1) rfl rfl (?_ : ky_V _ _ _ 22 _ _ _ _)
      refine v_iload_n (i := 13) (j := 2) rfl rfl (?_ : ky_V _ _ _ 23 _ _ _ _)
      refine v_iload (i := 14) (j := 4) rfl rfl (?_ : ky_V _ _ _ 25 _ _ _ _)
      refine v_iadd (i := 15) rfl (?_ : ky_V _ _ _ 26 _ _ _ _)
      obtain ⟨z3, e⟩ := ky_chkE e
      obtain ⟨z4, e⟩ := ky_chkE e
      refine cl_X9_41 (As := [.int ((p2 + p4))]) rfl (i := 16) rfl (ky_strO hs1) rfl rfl (Nat.le_of_ble_eq_true rfl) (k_J0_charAt_5068e hG hs1 z3 (ky_inb z4) ⟨_, rfl, (?_ : ky_V _ _ _ 29 _ [.int ((st_ch (List.getD b1 (Int32.toNatClampNeg (p2 + p4)) 0))), .int ((sk_c c (a + 1) (Int32.toNatClampNeg ((sk_c c a 3) + p4))))] _ _)⟩)
      refine v_icmp_eq (tgt := 34) (i := 17) rfl (by decide) (fun c5 => ?_) (fun c5 => ?_)
      · replace e := ky_ifT c5 e
        obtain ⟨x6, ex6⟩ : ∃ z : Int32, z = p4 + 1 := ⟨_, rfl⟩
        replace e := ky_letE ex6 e
        refine v_iinc (v := x6) (j := 4) (L' := [(0, .ref a), (1, .ref s1), (2, .int p2), (3, .int p3), (4, .int x6)]) [1, 2, 3, 4, 0] (i := 20) rfl rfl (by rw [ex6]; rfl) (Nat.le_of_ble_eq_true rfl) rfl (?_ : ky_V _ _ _ 37 _ _ _ _)
        refine v_goto (tgt := 3) (i := 21) rfl (by decide) (?_ : ky_V _ _ _ 3 _ _ _ _)
        exact ih h c p2 p3 x6 hm1 fr e
      · replace e := ky_ifF c5 e
        refine v_iconst (v := 0) (i := 18) rfl (by decide) (?_ : ky_V _ _ _ 33 _ _ _ _)
        refine v_iret (v := 0) (ty := .boolean) (i := 19) rfl rfl (by decide) ?_
        obtain ⟨rfl, rfl⟩ := ky_leaf e
        exact hr _ hm1 fr

def x9_isHere (N : Nat)  (s : sk_S) (a : Nat) (b1 : List Int32) (p2 : Int32) (p3 : Int32) : Option (sk_S × Int32) := (if lay_X9 (sk_K s) (sk_r s) a = true then (x9_isHere_L3 N a b1 (fun q2 x3 x4 x5 => (some (q2, 1))) N s p2 p3 0) else none)
set_option maxRecDepth 20000 in
set_option maxHeartbeats 4000000 in
theorem k_X9_isHere {G : ky_GW} {d : Nat} {h : ky_HP} {Q : ky_RS → ky_HP → Prop} {s s9 : sk_S} {r9 : Int32} {a : Nat} {b1 : List Int32} {p2 : Int32} {p3 : Int32} {s1 : Nat} (N : Nat) (hG : ky_OK G)   (hm : sk_hp G s h) (hs1 : ky_Str G s1 b1) (e : x9_isHere N  s a b1 p2 p3 = some (s9, r9)) (hr : ∀ h1, sk_hp G s9 h1 → sk_fr none s h s9 h1 → Q (.inl (some (.int r9))) h1) : ky_Call G (d + 4) M_X9_isHere [.ref a, .ref s1, .int p2, .int p3] h Q := by
  refine ky_ofV (by decide +kernel) rfl ok_X9_isHere (Nat.le_of_ble_eq_true rfl) ?_
  have fr : sk_fr none s h s h := sk_fr.rf
  unfold x9_isHere at e
  refine (?_ : ky_V _ _ _ 0 [(0, .ref a), (1, .ref s1), (2, .int p2), (3, .int p3)] [] _ _)
  obtain ⟨za, e⟩ := ky_chkE e
  refine v_iconst (v := 0) (i := 0) rfl (by decide) (?_ : ky_V _ _ _ 1 _ _ _ _)
  refine v_istore (L' := [(0, .ref a), (1, .ref s1), (2, .int p2), (3, .int p3), (4, .int 0)]) [1, 2, 3, 4, 0] (i := 1) rfl (Nat.le_of_ble_eq_true rfl) rfl (?_ : ky_V _ _ _ 3 _ _ _ _)
  refine lv_X9_isHere_3 N hG a b1 hs1 za hm _ hr (fun h1 q2 x3 x4 x5 hmh1 frh1 e => ?_) N h s p2 p3 0 hm fr e
  refine v_iconst (v := 1) (i := 22) rfl (by decide) (?_ : ky_V _ _ _ 41 _ _ _ _)
  refine v_iret (v := 1) (ty := .boolean) (i := 23) rfl rfl (by decide) ?_
  obtain ⟨rfl, rfl⟩ := ky_leaf e
  exact hr _ hmh1 frh1

def x9_refuse (N : Nat)  (s : sk_S) (a : Nat) : Option (sk_S × Int32) := (if lay_X9 (sk_K s) (sk_r s) a = true then (ky_let (sk_c s a 4) (fun x1 => (ky_let (sk_wc s a 3 x1) (fun q3 => (some (q3, 0)))))) else none)
set_option maxRecDepth 20000 in
set_option maxHeartbeats 4000000 in
theorem k_X9_refuse {G : ky_GW} {d : Nat} {h : ky_HP} {Q : ky_RS → ky_HP → Prop} {s s9 : sk_S} {r9 : Int32} {a : Nat} (N : Nat) (hG : ky_OK G)   (hm : sk_hp G s h)  (e : x9_refuse N  s a = some (s9, r9)) (hr : ∀ h1, sk_hp G s9 h1 → sk_fr none s h s9 h1 → Q (.inl (some (.int r9))) h1) : ky_Call G d M_X9_refuse [.ref a] h Q := by
  refine ky_ofV (by decide +kernel) rfl ok_X9_refuse (Nat.le_of_ble_eq_true rfl) ?_
  have fr : sk_fr none s h s h := sk_fr.rf
  unfold x9_refuse at e
  refine (?_ : ky_V _ _ _ 0 [(0, .ref a)] [] _ _)
  obtain ⟨za, e⟩ := ky_chkE e
  refine v_aload_n (i := 0) (j := 0) rfl rfl (?_ : ky_V _ _ _ 1 _ _ _ _)
  refine v_aload_n (i := 1) (j := 0) rfl rfl (?_ : ky_V _ _ _ 2 _ _ _ _)
  refine gf_X9_26 rfl (i := 2) rfl (oc_X9 hm (ly_X9_c za)) rfl (?_ : ky_V _ _ _ 5 _ _ _ _)
  refine v_topi (fun x1 ex1 => ?_)
  replace e := ky_letE ex1 e
  refine pf_X9_19 rfl (i := 3) rfl (oc_X9 hm (ly_X9_c za)) (Nat.le_of_ble_eq_true rfl) rfl rfl ?_
  refine sk_stc (kd := 8) (n := 0) hm fr (ly_X9_c za) 3 x1 (fun h2 hmh2 frh2 => ?_)
  obtain ⟨q3, eq3⟩ : ∃ z, z = (sk_wc s a 3 x1) := ⟨_, rfl⟩
  rw [← eq3] at hmh2 frh2
  replace e := ky_letE eq3 e
  refine (?_ : ky_V _ _ _ 8 _ _ _ _)
  refine v_iconst (v := 0) (i := 4) rfl (by decide) (?_ : ky_V _ _ _ 9 _ _ _ _)
  refine v_iret (v := 0) (ty := .boolean) (i := 5) rfl rfl (by decide) ?_
  obtain ⟨rfl, rfl⟩ := ky_leaf e
  exact hr _ hmh2 frh2

def x9_takeNumber_L8 (N : Nat)  (a : Nat) (k : sk_S → Int32 → Int32 → Int32 → Int32 → Option (sk_S × Int32)) : Nat → sk_S → Int32 → Int32 → Int32 → Int32 → Option (sk_S × Int32)
  | 0, _, _, _, _, _ => none
  | n + 1, c, p1, p2, p3, p4 => (if (sk_c c a 1) ≤ p3 then (k c p1 p2 p3 p4) else (if ky_inB p3 400 = true then (if (sk_c c (a + 1) (Int32.toNatClampNeg p3)) < (48 : Int32) then (k c p1 p2 p3 p4) else (if (57 : Int32) < (sk_c c (a + 1) (Int32.toNatClampNeg p3)) then (k c p1 p2 p3 p4) else (if (3 : Int32) < (p3 - (sk_c c a 3)) then (k c p1 p2 p3 p4) else (ky_let (((10 * p4) + (sk_c c (a + 1) (Int32.toNatClampNeg p3))) - 48) (fun x6 => (ky_let (p3 + 1) (fun x7 => (x9_takeNumber_L8 N a k n c p1 p2 x7 x6)))))))) else none))
set_option maxRecDepth 20000 in
set_option maxHeartbeats 4000000 in
theorem lv_X9_takeNumber_8 {G : ky_GW} {d : Nat} {s s9 : sk_S} {h0 : ky_HP} {Q : ky_RS → ky_HP → Prop} {r9 : Int32} (N : Nat) (hG : ky_OK G)  (a : Nat)   (za : lay_X9 (sk_K s) (sk_r s) a = true) (hm : sk_hp G s h0) (k : sk_S → Int32 → Int32 → Int32 → Int32 → Option (sk_S × Int32)) (hr : ∀ h1, sk_hp G s9 h1 → sk_fr none s h0 s9 h1 → Q (.inl (some (.int r9))) h1)
    (hk : ∀ (h : ky_HP) (c : sk_S) (p1 : Int32) (p2 : Int32) (p3 : Int32) (p4 : Int32), sk_hp G c h → sk_fr none s h0 c h → k c p1 p2 p3 p4 = some (s9, r9) → ky_V G (d + 1) M_X9_takeNumber 71 [(0, .ref a), (1, .int p1), (2, .int p2), (3, .int p3), (4, .int p4)] [] h Q) :
    ∀ (n : Nat) (h : ky_HP) (c : sk_S) (p1 : Int32) (p2 : Int32) (p3 : Int32) (p4 : Int32), sk_hp G c h → sk_fr none s h0 c h → x9_takeNumber_L8 N a k n c p1 p2 p3 p4 = some (s9, r9) → ky_V G (d + 1) M_X9_takeNumber 8 [(0, .ref a), (1, .int p1), (2, .int p2), (3, .int p3), (4, .int p4)] [] h Q := by
  intro n
  induction n with
  | zero => intro h c p1 p2 p3 p4 hm1 fr e; cases e
  | succ n ih =>
    intro h c p1 p2 p3 p4 hm1 fr e
    rw [x9_takeNumber_L8] at e
    refine v_iload_n (i := 5) (j := 3) rfl rfl (?_ : ky_V _ _ _ 9 _ _ _ _)
    refine v_aload_n (i := 6) (j := 0) rfl rfl (?_ : ky_V _ _ _ 10 _ _ _ _)
    refine gf_X9_15 rfl (i := 7) rfl (oc_X9 hm1 (ly_X9_c (lt_X9 fr za))) rfl (?_ : ky_V _ _ _ 13 _ _ _ _)
    refine v_icmp_ge (tgt := 71) (i := 8) rfl (by decide) (fun c1 => ?_) (fun c1 => ?_)
    · replace e := ky_ifT c1 e
      exact hk h c p1 p2 p3 p4 hm1 fr e
    · replace e := ky_ifF c1 e
      refine v_aload_n (i := 9) (j := 0) rfl rfl (?_ : ky_V _ _ _ 17 _ _ _ _)
      refine gf_X9_11 rfl (i := 10) rfl (oc_X9 hm1 (ly_X9_c (lt_X9 fr za))) (sk_rf (ly_X9_r0 (lt_X9 fr za))) (?_ : ky_V _ _ _ 20 _ (.ref (a + 1) :: _) _ _)
      refine v_iload_n (i := 11) (j := 3) rfl rfl (?_ : ky_V _ _ _ 21 _ _ _ _)
      obtain ⟨z2, e⟩ := ky_chkE e
      refine v_bald (i := 12) rfl (oa_20 hm1 (ly_X9_k0 (lt_X9 fr za))) (ky_inb z2) (?_ : ky_V _ _ _ 22 _ (.int (sk_c c (a + 1) (Int32.toNatClampNeg p3)) :: _) _ _)
      refine v_bipush (v := 48) (i := 13) rfl (by decide) (?_ : ky_V _ _ _ 24 _ _ _ _)
      refine v_icmp_lt (tgt := 71) (i := 14) rfl (by decide) (fun c3 => ?_) (fun c3 => ?_)
      · replace e := ky_ifT c3 e
        exact hk h c p1 p2 p3 p4 hm1 fr e
      · replace e := ky_ifF c3 e
        refine v_aload_n (i := 15) (j := 0) rfl rfl (?_ : ky_V _ _ _ 28 _ _ _ _)
        refine gf_X9_11 rfl (i := 16) rfl (oc_X9 hm1 (ly_X9_c (lt_X9 fr za))) (sk_rf (ly_X9_r0 (lt_X9 fr za))) (?_ : ky_V _ _ _ 31 _ (.ref (a + 1) :: _) _ _)
        refine v_iload_n (i := 17) (j := 3) rfl rfl (?_ : ky_V _ _ _ 32 _ _ _ _)
        refine v_bald (i := 18) rfl (oa_20 hm1 (ly_X9_k0 (lt_X9 fr za))) (ky_inb z2) (?_ : ky_V _ _ _ 33 _ (.int (sk_c c (a + 1) (Int32.toNatClampNeg p3)) :: _) _ _)
        refine v_bipush (v := 57) (i := 19) rfl (by decide) (?_ : ky_V _ _ _ 35 _ _ _ _)
        refine v_icmp_gt (tgt := 71) (i := 20) rfl (by decide) (fun c4 => ?_) (fun c4 => ?_)
        · replace e := ky_ifT c4 e
          exact hk h c p1 p2 p3 p4 hm1 fr e
        · replace e := ky_ifF c4 e
          refine v_iload_n (i := 21) (j := 3) rfl rfl (?_ : ky_V _ _ _ 39 _ _ _ _)
          refine v_aload_n (i := 22) (j := 0) rfl rfl (?_ : ky_V _ _ _ 40 _ _ _ _)
          refine gf_X9_19 rfl (i := 23) rfl (oc_X9 hm1 (ly_X9_c (lt_X9 fr za))) rfl (?_ : ky_V _ _ _ 43 _ _ _ _)
          refine v_isub (i := 24) rfl (?_ : ky_V _ _ _ 44 _ _ _ _)
          refine v_iconst (v := 3) (i := 25) rfl (by decide) (?_ : ky_V _ _ _ 45 _ _ _ _)
          refine v_icmp_gt (tgt := 71) (i := 26) rfl (by decide) (fun c5 => ?_) (fun c5 => ?_)
          · replace e := ky_ifT c5 e
            exact hk h c p1 p2 p3 p4 hm1 fr e
          · replace e := ky_ifF c5 e
            refine v_bipush (v := 10) (i := 27) rfl (by decide) (?_ : ky_V _ _ _ 50 _ _ _ _)
            refine v_iload (i := 28) (j := 4) rfl rfl (?_ : ky_V _ _ _ 52 _ _ _ _)
            refine v_imul (i := 29) rfl (?_ : ky_V _ _ _ 53 _ _ _ _)
            refine v_aload_n (i := 30) (j := 0) rfl rfl (?_ : ky_V _ _ _ 54 _ _ _ _)
            refine gf_X9_11 rfl (i := 31) rfl (oc_X9 hm1 (ly_X9_c (lt_X9 fr za))) (sk_rf (ly_X9_r0 (lt_X9 fr za))) (?_ : ky_V _ _ _ 57 _ (.ref (a + 1) :: _) _ _)
            refine v_iload_n (i := 32) (j := 3) rfl rfl (?_ : ky_V _ _ _ 58 _ _ _ _)
            refine v_bald (i := 33) rfl (oa_20 hm1 (ly_X9_k0 (lt_X9 fr za))) (ky_inb z2) (?_ : ky_V _ _ _ 59 _ (.int (sk_c c (a + 1) (Int32.toNatClampNeg p3)) :: _) _ _)
            refine v_iadd (i := 34) rfl (?_ : ky_V _ _ _ 60 _ _ _ _)
            refine v_bipush (v := 48) (i := 35) rfl (by decide) (?_ : ky_V _ _ _ 62 _ _ _ _)
            refine v_isub (i := 36) rfl (?_ : ky_V _ _ _ 63 _ _ _ _)
            refine v_topi (fun x6 ex6 => ?_)
            replace e := ky_letE ex6 e
            refine v_istore (L' := [(0, .ref a), (1, .int p1), (2, .int p2), (3, .int p3), (4, .int x6)]) [1, 2, 3, 4, 0] (i := 37) rfl (Nat.le_of_ble_eq_true rfl) rfl (?_ : ky_V _ _ _ 65 _ _ _ _)
            obtain ⟨x7, ex7⟩ : ∃ z : Int32, z = p3 + 1 := ⟨_, rfl⟩
            replace e := ky_letE ex7 e
            refine v_iinc (v := x7) (j := 3) (L' := [(0, .ref a), (1, .int p1), (2, .int p2), (3, .int x7), (4, .int x6)]) [1, 2, 3, 0, 4] (i := 38) rfl rfl (by rw [ex7]; rfl) (Nat.le_of_ble_eq_true rfl) rfl (?_ : ky_V _ _ _ 68 _ _ _ _)
            refine v_goto (tgt := 8) (i := 39) rfl (by decide) (?_ : ky_V _ _ _ 8 _ _ _ _)
            exact ih h c p1 p2 x7 x6 hm1 fr e

def x9_takeNumber (N : Nat)  (s : sk_S) (a : Nat) (p1 : Int32) (p2 : Int32) : Option (sk_S × Int32) := (if lay_X9 (sk_K s) (sk_r s) a = true then (ky_let (sk_c s a 3) (fun x1 => (x9_takeNumber_L8 N a (fun q3 x4 x5 x6 x7 => (if x6 = (sk_c q3 a 3) then (some (q3, 0)) else (if (3 : Int32) < (x6 - (sk_c q3 a 3)) then (some (q3, 0)) else (if x7 < x4 then (some (q3, 0)) else (if x7 ≤ x5 then ((x9_step N q3 a (x6 - (sk_c q3 a 3))).bind (fun zz => (fun q13 x14 => (ky_let (sk_wc q13 a 2 x7) (fun q17 => (some (q17, 1))))) zz.1 zz.2)) else (some (q3, 0))))))) N s p1 p2 x1 0))) else none)
set_option maxRecDepth 20000 in
set_option maxHeartbeats 4000000 in
theorem k_X9_takeNumber {G : ky_GW} {d : Nat} {h : ky_HP} {Q : ky_RS → ky_HP → Prop} {s s9 : sk_S} {r9 : Int32} {a : Nat} {p1 : Int32} {p2 : Int32} (N : Nat) (hG : ky_OK G)   (hm : sk_hp G s h)  (e : x9_takeNumber N  s a p1 p2 = some (s9, r9)) (hr : ∀ h1, sk_hp G s9 h1 → sk_fr none s h s9 h1 → Q (.inl (some (.int r9))) h1) : ky_Call G (d + 1) M_X9_takeNumber [.ref a, .int p1, .int p2] h Q := by
  refine ky_ofV (by decide +kernel) rfl ok_X9_takeNumber (Nat.le_of_ble_eq_true rfl) ?_
  have fr : sk_fr none s h s h := sk_fr.rf
  unfold x9_takeNumber at e
  refine (?_ : ky_V _ _ _ 0 [(0, .ref a), (1, .int p1), (2, .int p2)] [] _ _)
  obtain ⟨za, e⟩ := ky_chkE e
  refine v_aload_n (i := 0) (j := 0) rfl rfl (?_ : ky_V _ _ _ 1 _ _ _ _)
  refine gf_X9_19 rfl (i := 1) rfl (oc_X9 hm (ly_X9_c za)) rfl (?_ : ky_V _ _ _ 4 _ _ _ _)
  refine v_topi (fun x1 ex1 => ?_)
  replace e := ky_letE ex1 e
  refine v_istore_n (L' := [(0, .ref a), (1, .int p1), (2, .int p2), (3, .int x1)]) [1, 2, 3, 0] (i := 2) rfl (Nat.le_of_ble_eq_true rfl) rfl (?_ : ky_V _ _ _ 5 _ _ _ _)
  refine v_iconst (v := 0) (i := 3) rfl (by decide) (?_ : ky_V _ _ _ 6 _ _ _ _)
  refine v_istore (L' := [(0, .ref a), (1, .int p1), (2, .int p2), (3, .int x1), (4, .int 0)]) [1, 2, 3, 4, 0] (i := 4) rfl (Nat.le_of_ble_eq_true rfl) rfl (?_ : ky_V _ _ _ 8 _ _ _ _)
  refine lv_X9_takeNumber_8 N hG a za hm _ hr (fun h2 q3 x4 x5 x6 x7 hmh2 frh2 e => ?_) N h s p1 p2 x1 0 hm fr e
  refine v_iload_n (i := 40) (j := 3) rfl rfl (?_ : ky_V _ _ _ 72 _ _ _ _)
  refine v_aload_n (i := 41) (j := 0) rfl rfl (?_ : ky_V _ _ _ 73 _ _ _ _)
  refine gf_X9_19 rfl (i := 42) rfl (oc_X9 hmh2 (ly_X9_c (lt_X9 frh2 za))) rfl (?_ : ky_V _ _ _ 76 _ _ _ _)
  refine v_icmp_eq (tgt := 101) (i := 43) rfl (by decide) (fun c8 => ?_) (fun c8 => ?_)
  · replace e := ky_ifT c8 e
    refine v_iconst (v := 0) (i := 56) rfl (by decide) (?_ : ky_V _ _ _ 102 _ _ _ _)
    refine v_iret (v := 0) (ty := .boolean) (i := 57) rfl rfl (by decide) ?_
    obtain ⟨rfl, rfl⟩ := ky_leaf e
    exact hr _ hmh2 frh2
  · replace e := ky_ifF c8 e
    refine v_iload_n (i := 44) (j := 3) rfl rfl (?_ : ky_V _ _ _ 80 _ _ _ _)
    refine v_aload_n (i := 45) (j := 0) rfl rfl (?_ : ky_V _ _ _ 81 _ _ _ _)
    refine gf_X9_19 rfl (i := 46) rfl (oc_X9 hmh2 (ly_X9_c (lt_X9 frh2 za))) rfl (?_ : ky_V _ _ _ 84 _ _ _ _)
    refine v_isub (i := 47) rfl (?_ : ky_V _ _ _ 85 _ _ _ _)
    refine v_iconst (v := 3) (i := 48) rfl (by decide) (?_ : ky_V _ _ _ 86 _ _ _ _)
    refine v_icmp_gt (tgt := 101) (i := 49) rfl (by decide) (fun c9 => ?_) (fun c9 => ?_)
    · replace e := ky_ifT c9 e
      refine v_iconst (v := 0) (i := 56) rfl (by decide) (?_ : ky_V _ _ _ 102 _ _ _ _)
      refine v_iret (v := 0) (ty := .boolean) (i := 57) rfl rfl (by decide) ?_
      obtain ⟨rfl, rfl⟩ := ky_leaf e
      exact hr _ hmh2 frh2
    · replace e := ky_ifF c9 e
      refine v_iload (i := 50) (j := 4) rfl rfl (?_ : ky_V _ _ _ 91 _ _ _ _)
      refine v_iload_n (i := 51) (j := 1) rfl rfl (?_ : ky_V _ _ _ 92 _ _ _ _)
      refine v_icmp_lt (tgt := 101) (i := 52) rfl (by decide) (fun c10 => ?_) (fun c10 => ?_)
      · replace e := ky_ifT c10 e
        refine v_iconst (v := 0) (i := 56) rfl (by decide) (?_ : ky_V _ _ _ 102 _ _ _ _)
        refine v_iret (v := 0) (ty := .boolean) (i := 57) rfl rfl (by decide) ?_
        obtain ⟨rfl, rfl⟩ := ky_leaf e
        exact hr _ hmh2 frh2
      · replace e := ky_ifF c10 e
        refine v_iload (i := 53) (j := 4) rfl rfl (?_ : ky_V _ _ _ 97 _ _ _ _)
        refine v_iload_n (i := 54) (j := 2) rfl rfl (?_ : ky_V _ _ _ 98 _ _ _ _)
        refine v_icmp_le (tgt := 103) (i := 55) rfl (by decide) (fun c11 => ?_) (fun c11 => ?_)
        · replace e := ky_ifT c11 e
          refine v_aload_n (i := 58) (j := 0) rfl rfl (?_ : ky_V _ _ _ 104 _ _ _ _)
          refine v_iload_n (i := 59) (j := 3) rfl rfl (?_ : ky_V _ _ _ 105 _ _ _ _)
          refine v_aload_n (i := 60) (j := 0) rfl rfl (?_ : ky_V _ _ _ 106 _ _ _ _)
          refine gf_X9_19 rfl (i := 61) rfl (oc_X9 hmh2 (ly_X9_c (lt_X9 frh2 za))) rfl (?_ : ky_V _ _ _ 109 _ _ _ _)
          refine v_isub (i := 62) rfl (?_ : ky_V _ _ _ 110 _ _ _ _)
          obtain ⟨⟨q13, x14⟩, g15, e⟩ := Option.bind_eq_some_iff.mp e
          refine cl_X9_22 (As := [.int ((x6 - (sk_c q3 a 3)))]) rfl (i := 63) rfl (oc_X9 hmh2 (ly_X9_c (lt_X9 frh2 za))) rfl rfl (Nat.le_of_ble_eq_true rfl) (k_X9_step N hG hmh2 g15 (fun h12 hmh12 frh12 => ⟨_, rfl, (?_ : ky_V _ _ _ 113 _ [] _ _)⟩))
          have frh12 := frh2.tr frh12
          refine v_aload_n (i := 64) (j := 0) rfl rfl (?_ : ky_V _ _ _ 114 _ _ _ _)
          refine v_iload (i := 65) (j := 4) rfl rfl (?_ : ky_V _ _ _ 116 _ _ _ _)
          refine pf_X9_49 rfl (i := 66) rfl (oc_X9 hmh12 (ly_X9_c (lt_X9 frh12 za))) (Nat.le_of_ble_eq_true rfl) rfl rfl ?_
          refine sk_stc (kd := 8) (n := 0) hmh12 frh12 (ly_X9_c (lt_X9 frh12 za)) 2 x7 (fun h16 hmh16 frh16 => ?_)
          obtain ⟨q17, eq17⟩ : ∃ z, z = (sk_wc q13 a 2 x7) := ⟨_, rfl⟩
          rw [← eq17] at hmh16 frh16
          replace e := ky_letE eq17 e
          refine (?_ : ky_V _ _ _ 119 _ _ _ _)
          refine v_iconst (v := 1) (i := 67) rfl (by decide) (?_ : ky_V _ _ _ 120 _ _ _ _)
          refine v_iret (v := 1) (ty := .boolean) (i := 68) rfl rfl (by decide) ?_
          obtain ⟨rfl, rfl⟩ := ky_leaf e
          exact hr _ hmh16 frh16
        · replace e := ky_ifF c11 e
          refine v_iconst (v := 0) (i := 56) rfl (by decide) (?_ : ky_V _ _ _ 102 _ _ _ _)
          refine v_iret (v := 0) (ty := .boolean) (i := 57) rfl rfl (by decide) ?_
          obtain ⟨rfl, rfl⟩ := ky_leaf e
          exact hr _ hmh2 frh2

def x9_takeSign (N : Nat)  (s : sk_S) (a : Nat) (p1 : Int32) : Option (sk_S × Int32) := (if lay_X9 (sk_K s) (sk_r s) a = true then (if (sk_c s a 1) ≤ (sk_c s a 3) then (some (s, 0)) else (if ky_inB (sk_c s a 3) 400 = true then (if (sk_c s (a + 1) (Int32.toNatClampNeg (sk_c s a 3))) = p1 then ((x9_step N s a 1).bind (fun zz => (fun q5 x6 => (some (q5, 1))) zz.1 zz.2)) else (some (s, 0))) else none)) else none)
set_option maxRecDepth 20000 in
set_option maxHeartbeats 4000000 in
theorem k_X9_takeSign {G : ky_GW} {d : Nat} {h : ky_HP} {Q : ky_RS → ky_HP → Prop} {s s9 : sk_S} {r9 : Int32} {a : Nat} {p1 : Int32} (N : Nat) (hG : ky_OK G)   (hm : sk_hp G s h)  (e : x9_takeSign N  s a p1 = some (s9, r9)) (hr : ∀ h1, sk_hp G s9 h1 → sk_fr none s h s9 h1 → Q (.inl (some (.int r9))) h1) : ky_Call G (d + 1) M_X9_takeSign [.ref a, .int p1] h Q := by
  refine ky_ofV (by decide +kernel) rfl ok_X9_takeSign (Nat.le_of_ble_eq_true rfl) ?_
  have fr : sk_fr none s h s h := sk_fr.rf
  unfold x9_takeSign at e
  refine (?_ : ky_V _ _ _ 0 [(0, .ref a), (1, .int p1)] [] _ _)
  obtain ⟨za, e⟩ := ky_chkE e
  refine v_aload_n (i := 0) (j := 0) rfl rfl (?_ : ky_V _ _ _ 1 _ _ _ _)
  refine gf_X9_19 rfl (i := 1) rfl (oc_X9 hm (ly_X9_c za)) rfl (?_ : ky_V _ _ _ 4 _ _ _ _)
  refine v_aload_n (i := 2) (j := 0) rfl rfl (?_ : ky_V _ _ _ 5 _ _ _ _)
  refine gf_X9_15 rfl (i := 3) rfl (oc_X9 hm (ly_X9_c za)) rfl (?_ : ky_V _ _ _ 8 _ _ _ _)
  refine v_icmp_ge (tgt := 24) (i := 4) rfl (by decide) (fun c1 => ?_) (fun c1 => ?_)
  · replace e := ky_ifT c1 e
    refine v_iconst (v := 0) (i := 12) rfl (by decide) (?_ : ky_V _ _ _ 25 _ _ _ _)
    refine v_iret (v := 0) (ty := .boolean) (i := 13) rfl rfl (by decide) ?_
    obtain ⟨rfl, rfl⟩ := ky_leaf e
    exact hr _ hm fr
  · replace e := ky_ifF c1 e
    refine v_aload_n (i := 5) (j := 0) rfl rfl (?_ : ky_V _ _ _ 12 _ _ _ _)
    refine gf_X9_11 rfl (i := 6) rfl (oc_X9 hm (ly_X9_c za)) (sk_rf (ly_X9_r0 za)) (?_ : ky_V _ _ _ 15 _ (.ref (a + 1) :: _) _ _)
    refine v_aload_n (i := 7) (j := 0) rfl rfl (?_ : ky_V _ _ _ 16 _ _ _ _)
    refine gf_X9_19 rfl (i := 8) rfl (oc_X9 hm (ly_X9_c za)) rfl (?_ : ky_V _ _ _ 19 _ _ _ _)
    obtain ⟨z2, e⟩ := ky_chkE e
    refine v_bald (i := 9) rfl (oa_20 hm (ly_X9_k0 za)) (ky_inb z2) (?_ : ky_V _ _ _ 20 _ (.int (sk_c s (a + 1) (Int32.toNatClampNeg (sk_c s a 3))) :: _) _ _)
    refine v_iload_n (i := 10) (j := 1) rfl rfl (?_ : ky_V _ _ _ 21 _ _ _ _)
    refine v_icmp_eq (tgt := 26) (i := 11) rfl (by decide) (fun c3 => ?_) (fun c3 => ?_)
    · replace e := ky_ifT c3 e
      refine v_aload_n (i := 14) (j := 0) rfl rfl (?_ : ky_V _ _ _ 27 _ _ _ _)
      refine v_iconst (v := 1) (i := 15) rfl (by decide) (?_ : ky_V _ _ _ 28 _ _ _ _)
      obtain ⟨⟨q5, x6⟩, g7, e⟩ := Option.bind_eq_some_iff.mp e
      refine cl_X9_22 (As := [.int 1]) rfl (i := 16) rfl (oc_X9 hm (ly_X9_c za)) rfl rfl (Nat.le_of_ble_eq_true rfl) (k_X9_step N hG hm g7 (fun h4 hmh4 frh4 => ⟨_, rfl, (?_ : ky_V _ _ _ 31 _ [] _ _)⟩))
      have frh4 := fr.tr frh4
      refine v_iconst (v := 1) (i := 17) rfl (by decide) (?_ : ky_V _ _ _ 32 _ _ _ _)
      refine v_iret (v := 1) (ty := .boolean) (i := 18) rfl rfl (by decide) ?_
      obtain ⟨rfl, rfl⟩ := ky_leaf e
      exact hr _ hmh4 frh4
    · replace e := ky_ifF c3 e
      refine v_iconst (v := 0) (i := 12) rfl (by decide) (?_ : ky_V _ _ _ 25 _ _ _ _)
      refine v_iret (v := 0) (ty := .boolean) (i := 13) rfl rfl (by decide) ?_
      obtain ⟨rfl, rfl⟩ := ky_leaf e
      exact hr _ hm fr

def x7_init (N : Nat)  (s : sk_S) (a : Nat) : Option (sk_S × Int32) := (if sk_K s a = (7, 0) then (ky_let (sk_n s) (fun a1 => (ky_let (sk_nw s 2 0 8) (fun q3 => ((x1_init N q3 a1).bind (fun zz => (fun q5 x6 => (ky_let (sk_wr q5 a 0 (some a1)) (fun q9 => (ky_let (sk_n q9) (fun a10 => (ky_let (sk_nw q9 6 0 2) (fun q12 => ((x6_init N q12 a10).bind (fun zz => (fun q14 x15 => (ky_let (sk_wr q14 a 1 (some a10)) (fun q18 => (ky_let (sk_n q18) (fun a19 => (ky_let (sk_nw q18 8 0 8) (fun q21 => ((x8_init N q21 a19).bind (fun zz => (fun q23 x24 => (ky_let (sk_wr q23 a 2 (some a19)) (fun q27 => (ky_let (sk_n q27) (fun a28 => (ky_let (sk_nw q27 3 0 3) (fun q30 => ((x2_init N q30 a28).bind (fun zz => (fun q32 x33 => (ky_let (sk_wr q32 a 3 (some a28)) (fun q36 => (some (q36, 0))))) zz.1 zz.2))))))))) zz.1 zz.2))))))))) zz.1 zz.2))))))))) zz.1 zz.2)))))) else none)
set_option maxRecDepth 20000 in
set_option maxHeartbeats 4000000 in
theorem k_X7_init {G : ky_GW} {d : Nat} {h : ky_HP} {Q : ky_RS → ky_HP → Prop} {s s9 : sk_S} {r9 : Int32} {a : Nat} (N : Nat) (hG : ky_OK G)   (hm : sk_hp G s h)  (e : x7_init N  s a = some (s9, r9)) (hr : ∀ h1, sk_hp G s9 h1 → sk_fr (some a) s h s9 h1 → Q (.inl none) h1) : ky_Call G (d + 2) M_X7_init [.ref a] h Q := by
  refine ky_ofV (by decide +kernel) rfl ok_X7_init (Nat.le_of_ble_eq_true rfl) ?_
  have fr : sk_fr (some a) s h s h := sk_fr.rf
  unfold x7_init at e
  refine (?_ : ky_V _ _ _ 0 [(0, .ref a)] [] _ _)
  obtain ⟨z0, e⟩ := ky_chkE e
  refine v_aload_n (i := 0) (j := 0) rfl rfl (?_ : ky_V _ _ _ 1 _ _ _ _)
  refine v_objInit (by rw [show M_X7_init.1.cls = "WaistSand$Scene" from rfl]; exact ky_t1 (i := 121) rfl rfl) (ky_t1 (i := 36) rfl rfl) (ky_t1 (i := 37) rfl rfl) (i := 1) rfl (Nat.le_of_ble_eq_true rfl) (?_ : ky_V _ _ _ 4 _ _ _ _)
  refine v_aload_n (i := 2) (j := 0) rfl rfl (?_ : ky_V _ _ _ 5 _ _ _ _)
  refine nw_X1 (by rw [show M_X7_init.1.cls = "WaistSand$Scene" from rfl]; exact ky_t1 (i := 122) rfl rfl) (i := 3) rfl ?_
  refine sk_snw hm fr 2 0 rfl (fun a1 h2 ea1 hmh2 frh2 => ?_)
  replace e := ky_letE ea1 e
  have hya1 : sk_n s ≤ a1 := by rw [ea1]; exact fr.2.2
  obtain ⟨q3, eq3⟩ : ∃ z, z = (sk_nw s 2 0 8) := ⟨_, rfl⟩
  rw [← eq3] at hmh2 frh2
  replace e := ky_letE eq3 e
  refine (?_ : ky_V _ _ _ 8 _ (.ref a1 :: _) _ _)
  refine v_dup (i := 4) rfl rfl (?_ : ky_V _ _ _ 9 _ _ _ _)
  obtain ⟨⟨q5, x6⟩, g7, e⟩ := Option.bind_eq_some_iff.mp e
  refine cl_X7_11 (As := []) rfl (i := 5) rfl rfl rfl (Nat.le_of_ble_eq_true rfl) (k_X1_init N hG hmh2 g7 (fun h4 hmh4 frh4 => ⟨_, rfl, (?_ : ky_V _ _ _ 12 _ [.ref a1, .ref a] _ _)⟩))
  have frh4 := frh2.ti frh4 hm hya1
  refine pf_X7_12 rfl rfl (i := 6) rfl (oc_X7 hmh4 (frh4.K (k := 6) z0)) (Nat.le_of_ble_eq_true rfl) rfl rfl ?_
  refine sk_str (kd := 6) (n := 0) hmh4 frh4 (frh4.K (k := 6) z0) 0 (some a1) (Or.inr rfl) (fun h8 hmh8 frh8 => ?_)
  obtain ⟨q9, eq9⟩ : ∃ z, z = (sk_wr q5 a 0 (some a1)) := ⟨_, rfl⟩
  rw [← eq9] at hmh8 frh8
  replace e := ky_letE eq9 e
  refine (?_ : ky_V _ _ _ 15 _ _ _ _)
  refine v_aload_n (i := 7) (j := 0) rfl rfl (?_ : ky_V _ _ _ 16 _ _ _ _)
  refine nw_X6 (by rw [show M_X7_init.1.cls = "WaistSand$Scene" from rfl]; exact ky_t1 (i := 168) rfl rfl) (i := 8) rfl ?_
  refine sk_snw hmh8 frh8 6 0 rfl (fun a10 h11 ea10 hmh11 frh11 => ?_)
  replace e := ky_letE ea10 e
  have hya10 : sk_n s ≤ a10 := by rw [ea10]; exact frh8.2.2
  obtain ⟨q12, eq12⟩ : ∃ z, z = (sk_nw q9 6 0 2) := ⟨_, rfl⟩
  rw [← eq12] at hmh11 frh11
  replace e := ky_letE eq12 e
  refine (?_ : ky_V _ _ _ 19 _ (.ref a10 :: _) _ _)
  refine v_dup (i := 9) rfl rfl (?_ : ky_V _ _ _ 20 _ _ _ _)
  obtain ⟨⟨q14, x15⟩, g16, e⟩ := Option.bind_eq_some_iff.mp e
  refine cl_X7_20 (As := []) rfl (i := 10) rfl rfl rfl (Nat.le_of_ble_eq_true rfl) (k_X6_init N hG hmh11 g16 (fun h13 hmh13 frh13 => ⟨_, rfl, (?_ : ky_V _ _ _ 23 _ [.ref a10, .ref a] _ _)⟩))
  have frh13 := frh11.ti frh13 hm hya10
  refine pf_X7_21 rfl rfl (i := 11) rfl (oc_X7 hmh13 (frh13.K (k := 6) z0)) (Nat.le_of_ble_eq_true rfl) rfl rfl ?_
  refine sk_str (kd := 6) (n := 0) hmh13 frh13 (frh13.K (k := 6) z0) 1 (some a10) (Or.inr rfl) (fun h17 hmh17 frh17 => ?_)
  obtain ⟨q18, eq18⟩ : ∃ z, z = (sk_wr q14 a 1 (some a10)) := ⟨_, rfl⟩
  rw [← eq18] at hmh17 frh17
  replace e := ky_letE eq18 e
  refine (?_ : ky_V _ _ _ 26 _ _ _ _)
  refine v_aload_n (i := 12) (j := 0) rfl rfl (?_ : ky_V _ _ _ 27 _ _ _ _)
  refine nw_X8 (by rw [show M_X7_init.1.cls = "WaistSand$Scene" from rfl]; exact ky_t1 (i := 183) rfl rfl) (i := 13) rfl ?_
  refine sk_snw hmh17 frh17 8 0 rfl (fun a19 h20 ea19 hmh20 frh20 => ?_)
  replace e := ky_letE ea19 e
  have hya19 : sk_n s ≤ a19 := by rw [ea19]; exact frh17.2.2
  obtain ⟨q21, eq21⟩ : ∃ z, z = (sk_nw q18 8 0 8) := ⟨_, rfl⟩
  rw [← eq21] at hmh20 frh20
  replace e := ky_letE eq21 e
  refine (?_ : ky_V _ _ _ 30 _ (.ref a19 :: _) _ _)
  refine v_dup (i := 14) rfl rfl (?_ : ky_V _ _ _ 31 _ _ _ _)
  obtain ⟨⟨q23, x24⟩, g25, e⟩ := Option.bind_eq_some_iff.mp e
  refine cl_X7_27 (As := []) rfl (i := 15) rfl rfl rfl (Nat.le_of_ble_eq_true rfl) (k_X8_init N hG hmh20 g25 (fun h22 hmh22 frh22 => ⟨_, rfl, (?_ : ky_V _ _ _ 34 _ [.ref a19, .ref a] _ _)⟩))
  have frh22 := frh20.ti frh22 hm hya19
  refine pf_X7_28 rfl rfl (i := 16) rfl (oc_X7 hmh22 (frh22.K (k := 6) z0)) (Nat.le_of_ble_eq_true rfl) rfl rfl ?_
  refine sk_str (kd := 6) (n := 0) hmh22 frh22 (frh22.K (k := 6) z0) 2 (some a19) (Or.inr rfl) (fun h26 hmh26 frh26 => ?_)
  obtain ⟨q27, eq27⟩ : ∃ z, z = (sk_wr q23 a 2 (some a19)) := ⟨_, rfl⟩
  rw [← eq27] at hmh26 frh26
  replace e := ky_letE eq27 e
  refine (?_ : ky_V _ _ _ 37 _ _ _ _)
  refine v_aload_n (i := 17) (j := 0) rfl rfl (?_ : ky_V _ _ _ 38 _ _ _ _)
  refine nw_X2 (by rw [show M_X7_init.1.cls = "WaistSand$Scene" from rfl]; exact ky_t1 (i := 230) rfl rfl) (i := 18) rfl ?_
  refine sk_snw hmh26 frh26 3 0 rfl (fun a28 h29 ea28 hmh29 frh29 => ?_)
  replace e := ky_letE ea28 e
  have hya28 : sk_n s ≤ a28 := by rw [ea28]; exact frh26.2.2
  obtain ⟨q30, eq30⟩ : ∃ z, z = (sk_nw q27 3 0 3) := ⟨_, rfl⟩
  rw [← eq30] at hmh29 frh29
  replace e := ky_letE eq30 e
  refine (?_ : ky_V _ _ _ 41 _ (.ref a28 :: _) _ _)
  refine v_dup (i := 19) rfl rfl (?_ : ky_V _ _ _ 42 _ _ _ _)
  obtain ⟨⟨q32, x33⟩, g34, e⟩ := Option.bind_eq_some_iff.mp e
  refine cl_X7_34 (As := []) rfl (i := 20) rfl rfl rfl (Nat.le_of_ble_eq_true rfl) (k_X2_init N hG hmh29 g34 (fun h31 hmh31 frh31 => ⟨_, rfl, (?_ : ky_V _ _ _ 45 _ [.ref a28, .ref a] _ _)⟩))
  have frh31 := frh29.ti frh31 hm hya28
  refine pf_X7_35 rfl rfl (i := 21) rfl (oc_X7 hmh31 (frh31.K (k := 6) z0)) (Nat.le_of_ble_eq_true rfl) rfl rfl ?_
  refine sk_str (kd := 6) (n := 0) hmh31 frh31 (frh31.K (k := 6) z0) 3 (some a28) (Or.inr rfl) (fun h35 hmh35 frh35 => ?_)
  obtain ⟨q36, eq36⟩ : ∃ z, z = (sk_wr q32 a 3 (some a28)) := ⟨_, rfl⟩
  rw [← eq36] at hmh35 frh35
  replace e := ky_letE eq36 e
  refine (?_ : ky_V _ _ _ 48 _ _ _ _)
  refine v_vret (i := 22) rfl rfl ?_
  obtain ⟨rfl, rfl⟩ := ky_leaf e
  exact hr _ hmh35 frh35

def x7_become (N : Nat)  (s : sk_S) (a : Nat) (a1_ : Nat) : Option (sk_S × Int32) := (if lay_X7 (sk_K s) (sk_r s) a = true then (if lay_X7 (sk_K s) (sk_r s) a1_ = true then ((x1_become N s (a + 1) (a1_ + 1)).bind (fun zz => (fun q2 x3 => ((x6_become N q2 (a + 2) (a1_ + 2)).bind (fun zz => (fun q6 x7 => ((x8_become N q6 (a + 4) (a1_ + 4)).bind (fun zz => (fun q10 x11 => ((x2_become N q10 (a + 8) (a1_ + 8)).bind (fun zz => (fun q14 x15 => (ky_let (sk_c q14 a1_ 4) (fun x17 => (ky_let (sk_wc q14 a 4 x17) (fun q19 => (some (q19, 0))))))) zz.1 zz.2))) zz.1 zz.2))) zz.1 zz.2))) zz.1 zz.2)) else none) else none)
set_option maxRecDepth 20000 in
set_option maxHeartbeats 4000000 in
theorem k_X7_become {G : ky_GW} {d : Nat} {h : ky_HP} {Q : ky_RS → ky_HP → Prop} {s s9 : sk_S} {r9 : Int32} {a : Nat} {a1_ : Nat} (N : Nat) (hG : ky_OK G)   (hm : sk_hp G s h)  (e : x7_become N  s a a1_ = some (s9, r9)) (hr : ∀ h1, sk_hp G s9 h1 → sk_fr none s h s9 h1 → Q (.inl none) h1) : ky_Call G (d + 2) M_X7_become [.ref a, .ref a1_] h Q := by
  refine ky_ofV (by decide +kernel) rfl ok_X7_become (Nat.le_of_ble_eq_true rfl) ?_
  have fr : sk_fr none s h s h := sk_fr.rf
  unfold x7_become at e
  refine (?_ : ky_V _ _ _ 0 [(0, .ref a), (1, .ref a1_)] [] _ _)
  obtain ⟨za, e⟩ := ky_chkE e
  obtain ⟨za1_, e⟩ := ky_chkE e
  refine v_aload_n (i := 0) (j := 0) rfl rfl (?_ : ky_V _ _ _ 1 _ _ _ _)
  refine gf_X7_12 rfl (i := 1) rfl (oc_X7 hm (ly_X7_c za)) (sk_rf (ly_X7_r0 za)) (?_ : ky_V _ _ _ 4 _ (.ref (a + 1) :: _) _ _)
  refine v_aload_n (i := 2) (j := 1) rfl rfl (?_ : ky_V _ _ _ 5 _ _ _ _)
  refine gf_X7_12 rfl (i := 3) rfl (oc_X7 hm (ly_X7_c za1_)) (sk_rf (ly_X7_r0 za1_)) (?_ : ky_V _ _ _ 8 _ (.ref (a1_ + 1) :: _) _ _)
  obtain ⟨⟨q2, x3⟩, g4, e⟩ := Option.bind_eq_some_iff.mp e
  refine cl_X7_39 (As := [.ref ((a1_ + 1))]) rfl (i := 4) rfl (oc_X1 hm (ly_X1_c (ly_X7_l0 za))) rfl rfl (Nat.le_of_ble_eq_true rfl) (k_X1_become N hG hm g4 (fun h1 hmh1 frh1 => ⟨_, rfl, (?_ : ky_V _ _ _ 11 _ [] _ _)⟩))
  have frh1 := fr.tr frh1
  refine v_aload_n (i := 5) (j := 0) rfl rfl (?_ : ky_V _ _ _ 12 _ _ _ _)
  refine gf_X7_21 rfl (i := 6) rfl (oc_X7 hmh1 (ly_X7_c (lt_X7 frh1 za))) (sk_rf (ly_X7_r1 (lt_X7 frh1 za))) (?_ : ky_V _ _ _ 15 _ (.ref (a + 2) :: _) _ _)
  refine v_aload_n (i := 7) (j := 1) rfl rfl (?_ : ky_V _ _ _ 16 _ _ _ _)
  refine gf_X7_21 rfl (i := 8) rfl (oc_X7 hmh1 (ly_X7_c (lt_X7 frh1 za1_))) (sk_rf (ly_X7_r1 (lt_X7 frh1 za1_))) (?_ : ky_V _ _ _ 19 _ (.ref (a1_ + 2) :: _) _ _)
  obtain ⟨⟨q6, x7⟩, g8, e⟩ := Option.bind_eq_some_iff.mp e
  refine cl_X7_43 (As := [.ref ((a1_ + 2))]) rfl (i := 9) rfl (oc_X6 hmh1 (ly_X6_c (ly_X7_l1 (lt_X7 frh1 za)))) rfl rfl (Nat.le_of_ble_eq_true rfl) (k_X6_become N hG hmh1 g8 (fun h5 hmh5 frh5 => ⟨_, rfl, (?_ : ky_V _ _ _ 22 _ [] _ _)⟩))
  have frh5 := frh1.tr frh5
  refine v_aload_n (i := 10) (j := 0) rfl rfl (?_ : ky_V _ _ _ 23 _ _ _ _)
  refine gf_X7_28 rfl (i := 11) rfl (oc_X7 hmh5 (ly_X7_c (lt_X7 frh5 za))) (sk_rf (ly_X7_r2 (lt_X7 frh5 za))) (?_ : ky_V _ _ _ 26 _ (.ref (a + 4) :: _) _ _)
  refine v_aload_n (i := 12) (j := 1) rfl rfl (?_ : ky_V _ _ _ 27 _ _ _ _)
  refine gf_X7_28 rfl (i := 13) rfl (oc_X7 hmh5 (ly_X7_c (lt_X7 frh5 za1_))) (sk_rf (ly_X7_r2 (lt_X7 frh5 za1_))) (?_ : ky_V _ _ _ 30 _ (.ref (a1_ + 4) :: _) _ _)
  obtain ⟨⟨q10, x11⟩, g12, e⟩ := Option.bind_eq_some_iff.mp e
  refine cl_X7_46 (As := [.ref ((a1_ + 4))]) rfl (i := 14) rfl (oc_X8 hmh5 (ly_X8_c (ly_X7_l2 (lt_X7 frh5 za)))) rfl rfl (Nat.le_of_ble_eq_true rfl) (k_X8_become N hG hmh5 g12 (fun h9 hmh9 frh9 => ⟨_, rfl, (?_ : ky_V _ _ _ 33 _ [] _ _)⟩))
  have frh9 := frh5.tr frh9
  refine v_aload_n (i := 15) (j := 0) rfl rfl (?_ : ky_V _ _ _ 34 _ _ _ _)
  refine gf_X7_35 rfl (i := 16) rfl (oc_X7 hmh9 (ly_X7_c (lt_X7 frh9 za))) (sk_rf (ly_X7_r3 (lt_X7 frh9 za))) (?_ : ky_V _ _ _ 37 _ (.ref (a + 8) :: _) _ _)
  refine v_aload_n (i := 17) (j := 1) rfl rfl (?_ : ky_V _ _ _ 38 _ _ _ _)
  refine gf_X7_35 rfl (i := 18) rfl (oc_X7 hmh9 (ly_X7_c (lt_X7 frh9 za1_))) (sk_rf (ly_X7_r3 (lt_X7 frh9 za1_))) (?_ : ky_V _ _ _ 41 _ (.ref (a1_ + 8) :: _) _ _)
  obtain ⟨⟨q14, x15⟩, g16, e⟩ := Option.bind_eq_some_iff.mp e
  refine cl_X7_49 (As := [.ref ((a1_ + 8))]) rfl (i := 19) rfl (oc_X2 hmh9 (ly_X2_c (ly_X7_l3 (lt_X7 frh9 za)))) rfl rfl (Nat.le_of_ble_eq_true rfl) (k_X2_become N hG hmh9 g16 (fun h13 hmh13 frh13 => ⟨_, rfl, (?_ : ky_V _ _ _ 44 _ [] _ _)⟩))
  have frh13 := frh9.tr frh13
  refine v_aload_n (i := 20) (j := 0) rfl rfl (?_ : ky_V _ _ _ 45 _ _ _ _)
  refine v_aload_n (i := 21) (j := 1) rfl rfl (?_ : ky_V _ _ _ 46 _ _ _ _)
  refine gf_X7_52 rfl (i := 22) rfl (oc_X7 hmh13 (ly_X7_c (lt_X7 frh13 za1_))) rfl (?_ : ky_V _ _ _ 49 _ _ _ _)
  refine v_topi (fun x17 ex17 => ?_)
  replace e := ky_letE ex17 e
  refine pf_X7_52 rfl (i := 23) rfl (oc_X7 hmh13 (ly_X7_c (lt_X7 frh13 za))) (Nat.le_of_ble_eq_true rfl) rfl rfl ?_
  refine sk_stc (kd := 6) (n := 0) hmh13 frh13 (ly_X7_c (lt_X7 frh13 za)) 4 x17 (fun h18 hmh18 frh18 => ?_)
  obtain ⟨q19, eq19⟩ : ∃ z, z = (sk_wc q14 a 4 x17) := ⟨_, rfl⟩
  rw [← eq19] at hmh18 frh18
  replace e := ky_letE eq19 e
  refine (?_ : ky_V _ _ _ 52 _ _ _ _)
  refine v_vret (i := 24) rfl rfl ?_
  obtain ⟨rfl, rfl⟩ := ky_leaf e
  exact hr _ hmh18 frh18

def x7_makeMove (N : Nat)  (s : sk_S) (a : Nat) (p1 : Int32) (p2 : Int32) : Option (sk_S × Int32) := (if lay_X7 (sk_K s) (sk_r s) a = true then (ky_let (sk_c s (a + 1) 4) (fun x1 => ((x1_make N s (a + 1) (a + 2) p1 p2).bind (fun zz => (fun q3 x4 => (if (5 : Int32) ≤ p1 then ((x2_add N q3 (a + 8) x1 p1 2 (sk_c q3 (a + 1) 0)).bind (fun zz => (fun q8 x9 => (some (q8, 0))) zz.1 zz.2)) else ((x2_add N q3 (a + 8) x1 p1 p2 (sk_c q3 (a + 1) 0)).bind (fun zz => (fun q12 x13 => (some (q12, 0))) zz.1 zz.2)))) zz.1 zz.2)))) else none)
set_option maxRecDepth 20000 in
set_option maxHeartbeats 4000000 in
theorem k_X7_makeMove {G : ky_GW} {d : Nat} {h : ky_HP} {Q : ky_RS → ky_HP → Prop} {s s9 : sk_S} {r9 : Int32} {a : Nat} {p1 : Int32} {p2 : Int32} (N : Nat) (hG : ky_OK G)   (hm : sk_hp G s h)  (e : x7_makeMove N  s a p1 p2 = some (s9, r9)) (hr : ∀ h1, sk_hp G s9 h1 → sk_fr none s h s9 h1 → Q (.inl none) h1) : ky_Call G (d + 4) M_X7_makeMove [.ref a, .int p1, .int p2] h Q := by
  refine ky_ofV (by decide +kernel) rfl ok_X7_makeMove (Nat.le_of_ble_eq_true rfl) ?_
  have fr : sk_fr none s h s h := sk_fr.rf
  unfold x7_makeMove at e
  refine (?_ : ky_V _ _ _ 0 [(0, .ref a), (1, .int p1), (2, .int p2)] [] _ _)
  obtain ⟨za, e⟩ := ky_chkE e
  refine v_aload_n (i := 0) (j := 0) rfl rfl (?_ : ky_V _ _ _ 1 _ _ _ _)
  refine gf_X7_12 rfl (i := 1) rfl (oc_X7 hm (ly_X7_c za)) (sk_rf (ly_X7_r0 za)) (?_ : ky_V _ _ _ 4 _ (.ref (a + 1) :: _) _ _)
  refine gf_X7_56 rfl (i := 2) rfl (oc_X1 hm (ly_X1_c (ly_X7_l0 za))) rfl (?_ : ky_V _ _ _ 7 _ _ _ _)
  refine v_topi (fun x1 ex1 => ?_)
  replace e := ky_letE ex1 e
  refine v_istore_n (L' := [(0, .ref a), (1, .int p1), (2, .int p2), (3, .int x1)]) [1, 2, 3, 0] (i := 3) rfl (Nat.le_of_ble_eq_true rfl) rfl (?_ : ky_V _ _ _ 8 _ _ _ _)
  refine v_aload_n (i := 4) (j := 0) rfl rfl (?_ : ky_V _ _ _ 9 _ _ _ _)
  refine gf_X7_12 rfl (i := 5) rfl (oc_X7 hm (ly_X7_c za)) (sk_rf (ly_X7_r0 za)) (?_ : ky_V _ _ _ 12 _ (.ref (a + 1) :: _) _ _)
  refine v_aload_n (i := 6) (j := 0) rfl rfl (?_ : ky_V _ _ _ 13 _ _ _ _)
  refine gf_X7_21 rfl (i := 7) rfl (oc_X7 hm (ly_X7_c za)) (sk_rf (ly_X7_r1 za)) (?_ : ky_V _ _ _ 16 _ (.ref (a + 2) :: _) _ _)
  refine v_iload_n (i := 8) (j := 1) rfl rfl (?_ : ky_V _ _ _ 17 _ _ _ _)
  refine v_iload_n (i := 9) (j := 2) rfl rfl (?_ : ky_V _ _ _ 18 _ _ _ _)
  obtain ⟨⟨q3, x4⟩, g5, e⟩ := Option.bind_eq_some_iff.mp e
  refine cl_X7_59 (As := [.ref ((a + 2)), .int p1, .int p2]) rfl (i := 10) rfl (oc_X1 hm (ly_X1_c (ly_X7_l0 za))) rfl rfl (Nat.le_of_ble_eq_true rfl) (k_X1_make N hG hm g5 (fun h2 hmh2 frh2 => ⟨_, rfl, (?_ : ky_V _ _ _ 21 _ [] _ _)⟩))
  have frh2 := fr.tr frh2
  refine v_aload_n (i := 11) (j := 0) rfl rfl (?_ : ky_V _ _ _ 22 _ _ _ _)
  refine gf_X7_35 rfl (i := 12) rfl (oc_X7 hmh2 (ly_X7_c (lt_X7 frh2 za))) (sk_rf (ly_X7_r3 (lt_X7 frh2 za))) (?_ : ky_V _ _ _ 25 _ (.ref (a + 8) :: _) _ _)
  refine v_iload_n (i := 13) (j := 3) rfl rfl (?_ : ky_V _ _ _ 26 _ _ _ _)
  refine v_iload_n (i := 14) (j := 1) rfl rfl (?_ : ky_V _ _ _ 27 _ _ _ _)
  refine v_iload_n (i := 15) (j := 1) rfl rfl (?_ : ky_V _ _ _ 28 _ _ _ _)
  refine v_iconst (v := 5) (i := 16) rfl (by decide) (?_ : ky_V _ _ _ 29 _ _ _ _)
  refine v_icmp_ge (tgt := 36) (i := 17) rfl (by decide) (fun c6 => ?_) (fun c6 => ?_)
  · replace e := ky_ifT c6 e
    refine v_iconst (v := 2) (i := 20) rfl (by decide) (?_ : ky_V _ _ _ 37 _ _ _ _)
    refine v_aload_n (i := 21) (j := 0) rfl rfl (?_ : ky_V _ _ _ 38 _ _ _ _)
    refine gf_X7_12 rfl (i := 22) rfl (oc_X7 hmh2 (ly_X7_c (lt_X7 frh2 za))) (sk_rf (ly_X7_r0 (lt_X7 frh2 za))) (?_ : ky_V _ _ _ 41 _ (.ref (a + 1) :: _) _ _)
    refine gf_X7_63 rfl (i := 23) rfl (oc_X1 hmh2 (ly_X1_c (ly_X7_l0 (lt_X7 frh2 za)))) rfl (?_ : ky_V _ _ _ 44 _ _ _ _)
    obtain ⟨⟨q8, x9⟩, g10, e⟩ := Option.bind_eq_some_iff.mp e
    refine cl_X7_66 (As := [.int x1, .int p1, .int 2, .int ((sk_c q3 (a + 1) 0))]) rfl (i := 24) rfl (oc_X2 hmh2 (ly_X2_c (ly_X7_l3 (lt_X7 frh2 za)))) rfl rfl (Nat.le_of_ble_eq_true rfl) (k_X2_add N hG hmh2 g10 (fun h7 hmh7 frh7 => ⟨_, rfl, (?_ : ky_V _ _ _ 47 _ [] _ _)⟩))
    have frh7 := frh2.tr frh7
    refine v_vret (i := 25) rfl rfl ?_
    obtain ⟨rfl, rfl⟩ := ky_leaf e
    exact hr _ hmh7 frh7
  · replace e := ky_ifF c6 e
    refine v_iload_n (i := 18) (j := 2) rfl rfl (?_ : ky_V _ _ _ 33 _ _ _ _)
    refine v_goto (tgt := 37) (i := 19) rfl (by decide) (?_ : ky_V _ _ _ 37 _ _ _ _)
    refine v_aload_n (i := 21) (j := 0) rfl rfl (?_ : ky_V _ _ _ 38 _ _ _ _)
    refine gf_X7_12 rfl (i := 22) rfl (oc_X7 hmh2 (ly_X7_c (lt_X7 frh2 za))) (sk_rf (ly_X7_r0 (lt_X7 frh2 za))) (?_ : ky_V _ _ _ 41 _ (.ref (a + 1) :: _) _ _)
    refine gf_X7_63 rfl (i := 23) rfl (oc_X1 hmh2 (ly_X1_c (ly_X7_l0 (lt_X7 frh2 za)))) rfl (?_ : ky_V _ _ _ 44 _ _ _ _)
    obtain ⟨⟨q12, x13⟩, g14, e⟩ := Option.bind_eq_some_iff.mp e
    refine cl_X7_66 (As := [.int x1, .int p1, .int p2, .int ((sk_c q3 (a + 1) 0))]) rfl (i := 24) rfl (oc_X2 hmh2 (ly_X2_c (ly_X7_l3 (lt_X7 frh2 za)))) rfl rfl (Nat.le_of_ble_eq_true rfl) (k_X2_add N hG hmh2 g14 (fun h11 hmh11 frh11 => ⟨_, rfl, (?_ : ky_V _ _ _ 47 _ [] _ _)⟩))
    have frh11 := frh2.tr frh11
    refine v_vret (i := 25) rfl rfl ?_
    obtain ⟨rfl, rfl⟩ := ky_leaf e
    exact hr _ hmh11 frh11

def x7_makePull (N : Nat)  (s : sk_S) (a : Nat) (p1 : Int32) : Option (sk_S × Int32) := (if lay_X7 (sk_K s) (sk_r s) a = true then (ky_let (sk_c s (a + 1) 4) (fun x1 => ((x1_bePulled N s (a + 1) p1).bind (fun zz => (fun q3 x4 => ((x2_add N q3 (a + 8) x1 7 2 (sk_c q3 (a + 1) 0)).bind (fun zz => (fun q7 x8 => (some (q7, 0))) zz.1 zz.2))) zz.1 zz.2)))) else none)
set_option maxRecDepth 20000 in
set_option maxHeartbeats 4000000 in
theorem k_X7_makePull {G : ky_GW} {d : Nat} {h : ky_HP} {Q : ky_RS → ky_HP → Prop} {s s9 : sk_S} {r9 : Int32} {a : Nat} {p1 : Int32} (N : Nat) (hG : ky_OK G)   (hm : sk_hp G s h)  (e : x7_makePull N  s a p1 = some (s9, r9)) (hr : ∀ h1, sk_hp G s9 h1 → sk_fr none s h s9 h1 → Q (.inl none) h1) : ky_Call G (d + 4) M_X7_makePull [.ref a, .int p1] h Q := by
  refine ky_ofV (by decide +kernel) rfl ok_X7_makePull (Nat.le_of_ble_eq_true rfl) ?_
  have fr : sk_fr none s h s h := sk_fr.rf
  unfold x7_makePull at e
  refine (?_ : ky_V _ _ _ 0 [(0, .ref a), (1, .int p1)] [] _ _)
  obtain ⟨za, e⟩ := ky_chkE e
  refine v_aload_n (i := 0) (j := 0) rfl rfl (?_ : ky_V _ _ _ 1 _ _ _ _)
  refine gf_X7_12 rfl (i := 1) rfl (oc_X7 hm (ly_X7_c za)) (sk_rf (ly_X7_r0 za)) (?_ : ky_V _ _ _ 4 _ (.ref (a + 1) :: _) _ _)
  refine gf_X7_56 rfl (i := 2) rfl (oc_X1 hm (ly_X1_c (ly_X7_l0 za))) rfl (?_ : ky_V _ _ _ 7 _ _ _ _)
  refine v_topi (fun x1 ex1 => ?_)
  replace e := ky_letE ex1 e
  refine v_istore_n (L' := [(0, .ref a), (1, .int p1), (2, .int x1)]) [1, 2, 0] (i := 3) rfl (Nat.le_of_ble_eq_true rfl) rfl (?_ : ky_V _ _ _ 8 _ _ _ _)
  refine v_aload_n (i := 4) (j := 0) rfl rfl (?_ : ky_V _ _ _ 9 _ _ _ _)
  refine gf_X7_12 rfl (i := 5) rfl (oc_X7 hm (ly_X7_c za)) (sk_rf (ly_X7_r0 za)) (?_ : ky_V _ _ _ 12 _ (.ref (a + 1) :: _) _ _)
  refine v_iload_n (i := 6) (j := 1) rfl rfl (?_ : ky_V _ _ _ 13 _ _ _ _)
  obtain ⟨⟨q3, x4⟩, g5, e⟩ := Option.bind_eq_some_iff.mp e
  refine cl_X7_70 (As := [.int p1]) rfl (i := 7) rfl (oc_X1 hm (ly_X1_c (ly_X7_l0 za))) rfl rfl (Nat.le_of_ble_eq_true rfl) (k_X1_bePulled N hG hm g5 (fun h2 hmh2 frh2 => ⟨_, rfl, (?_ : ky_V _ _ _ 16 _ [] _ _)⟩))
  have frh2 := fr.tr frh2
  refine v_aload_n (i := 8) (j := 0) rfl rfl (?_ : ky_V _ _ _ 17 _ _ _ _)
  refine gf_X7_35 rfl (i := 9) rfl (oc_X7 hmh2 (ly_X7_c (lt_X7 frh2 za))) (sk_rf (ly_X7_r3 (lt_X7 frh2 za))) (?_ : ky_V _ _ _ 20 _ (.ref (a + 8) :: _) _ _)
  refine v_iload_n (i := 10) (j := 2) rfl rfl (?_ : ky_V _ _ _ 21 _ _ _ _)
  refine v_bipush (v := 7) (i := 11) rfl (by decide) (?_ : ky_V _ _ _ 23 _ _ _ _)
  refine v_iconst (v := 2) (i := 12) rfl (by decide) (?_ : ky_V _ _ _ 24 _ _ _ _)
  refine v_aload_n (i := 13) (j := 0) rfl rfl (?_ : ky_V _ _ _ 25 _ _ _ _)
  refine gf_X7_12 rfl (i := 14) rfl (oc_X7 hmh2 (ly_X7_c (lt_X7 frh2 za))) (sk_rf (ly_X7_r0 (lt_X7 frh2 za))) (?_ : ky_V _ _ _ 28 _ (.ref (a + 1) :: _) _ _)
  refine gf_X7_63 rfl (i := 15) rfl (oc_X1 hmh2 (ly_X1_c (ly_X7_l0 (lt_X7 frh2 za)))) rfl (?_ : ky_V _ _ _ 31 _ _ _ _)
  obtain ⟨⟨q7, x8⟩, g9, e⟩ := Option.bind_eq_some_iff.mp e
  refine cl_X7_66 (As := [.int x1, .int 7, .int 2, .int ((sk_c q3 (a + 1) 0))]) rfl (i := 16) rfl (oc_X2 hmh2 (ly_X2_c (ly_X7_l3 (lt_X7 frh2 za)))) rfl rfl (Nat.le_of_ble_eq_true rfl) (k_X2_add N hG hmh2 g9 (fun h6 hmh6 frh6 => ⟨_, rfl, (?_ : ky_V _ _ _ 34 _ [] _ _)⟩))
  have frh6 := frh2.tr frh6
  refine v_vret (i := 17) rfl rfl ?_
  obtain ⟨rfl, rfl⟩ := ky_leaf e
  exact hr _ hmh6 frh6

def x0_init (N : Nat)  (s : sk_S) (a : Nat) : Option (sk_S × Int32) := (if sk_K s a = (1, 0) then (ky_let (sk_n s) (fun a1 => (ky_let (sk_nw s 21 14 14) (fun q3 => (ky_let (sk_wr q3 a 0 (some a1)) (fun q5 => (ky_let (sk_n q5) (fun a6 => (ky_let (sk_nw q5 21 70 70) (fun q8 => (ky_let (sk_wr q8 a 1 (some a6)) (fun q10 => (some (q10, 0)))))))))))))) else none)
set_option maxRecDepth 20000 in
set_option maxHeartbeats 4000000 in
theorem k_X0_init {G : ky_GW} {d : Nat} {h : ky_HP} {Q : ky_RS → ky_HP → Prop} {s s9 : sk_S} {r9 : Int32} {a : Nat} (N : Nat) (hG : ky_OK G)   (hm : sk_hp G s h)  (e : x0_init N  s a = some (s9, r9)) (hr : ∀ h1, sk_hp G s9 h1 → sk_fr (some a) s h s9 h1 → Q (.inl none) h1) : ky_Call G (d + 1) M_X0_init [.ref a] h Q := by
  refine ky_ofV (by decide +kernel) rfl ok_X0_init (Nat.le_of_ble_eq_true rfl) ?_
  have fr : sk_fr (some a) s h s h := sk_fr.rf
  unfold x0_init at e
  refine (?_ : ky_V _ _ _ 0 [(0, .ref a)] [] _ _)
  obtain ⟨z0, e⟩ := ky_chkE e
  refine v_aload_n (i := 0) (j := 0) rfl rfl (?_ : ky_V _ _ _ 1 _ _ _ _)
  refine v_objInit (by rw [show M_X0_init.1.cls = "WaistSand$BeachReader" from rfl]; exact ky_t1 (i := 70) rfl rfl) (ky_t1 (i := 36) rfl rfl) (ky_t1 (i := 37) rfl rfl) (i := 1) rfl (Nat.le_of_ble_eq_true rfl) (?_ : ky_V _ _ _ 4 _ _ _ _)
  refine v_aload_n (i := 2) (j := 0) rfl rfl (?_ : ky_V _ _ _ 5 _ _ _ _)
  refine v_bipush (v := 14) (i := 3) rfl (by decide) (?_ : ky_V _ _ _ 7 _ _ _ _)
  refine v_newi (N := 14) (ky_t1 (i := 87) rfl rfl) (i := 4) rfl (by decide) rfl (by decide) ?_
  refine sk_snw hm fr 21 14 rfl (fun a1 h2 ea1 hmh2 frh2 => ?_)
  replace e := ky_letE ea1 e
  obtain ⟨q3, eq3⟩ : ∃ z, z = (sk_nw s 21 14 14) := ⟨_, rfl⟩
  rw [← eq3] at hmh2 frh2
  replace e := ky_letE eq3 e
  refine (?_ : ky_V _ _ _ 9 _ (.ref a1 :: _) _ _)
  refine pf_X0_11 rfl rfl (i := 5) rfl (oc_X0 hmh2 (frh2.K (k := 0) z0)) (Nat.le_of_ble_eq_true rfl) rfl rfl ?_
  refine sk_str (kd := 0) (n := 0) hmh2 frh2 (frh2.K (k := 0) z0) 0 (some a1) (Or.inr rfl) (fun h4 hmh4 frh4 => ?_)
  obtain ⟨q5, eq5⟩ : ∃ z, z = (sk_wr q3 a 0 (some a1)) := ⟨_, rfl⟩
  rw [← eq5] at hmh4 frh4
  replace e := ky_letE eq5 e
  refine (?_ : ky_V _ _ _ 12 _ _ _ _)
  refine v_aload_n (i := 6) (j := 0) rfl rfl (?_ : ky_V _ _ _ 13 _ _ _ _)
  refine v_bipush (v := 70) (i := 7) rfl (by decide) (?_ : ky_V _ _ _ 15 _ _ _ _)
  refine v_newi (N := 70) (ky_t1 (i := 87) rfl rfl) (i := 8) rfl (by decide) rfl (by decide) ?_
  refine sk_snw hmh4 frh4 21 70 rfl (fun a6 h7 ea6 hmh7 frh7 => ?_)
  replace e := ky_letE ea6 e
  obtain ⟨q8, eq8⟩ : ∃ z, z = (sk_nw q5 21 70 70) := ⟨_, rfl⟩
  rw [← eq8] at hmh7 frh7
  replace e := ky_letE eq8 e
  refine (?_ : ky_V _ _ _ 17 _ (.ref a6 :: _) _ _)
  refine pf_X0_15 rfl rfl (i := 9) rfl (oc_X0 hmh7 (frh7.K (k := 0) z0)) (Nat.le_of_ble_eq_true rfl) rfl rfl ?_
  refine sk_str (kd := 0) (n := 0) hmh7 frh7 (frh7.K (k := 0) z0) 1 (some a6) (Or.inr rfl) (fun h9 hmh9 frh9 => ?_)
  obtain ⟨q10, eq10⟩ : ∃ z, z = (sk_wr q8 a 1 (some a6)) := ⟨_, rfl⟩
  rw [← eq10] at hmh9 frh9
  replace e := ky_letE eq10 e
  refine (?_ : ky_V _ _ _ 20 _ _ _ _)
  refine v_vret (i := 10) rfl rfl ?_
  obtain ⟨rfl, rfl⟩ := ky_leaf e
  exact hr _ hmh9 frh9

def x0_take (N : Nat)  (s : sk_S) (a : Nat) (a1_ : Nat) (p2 : Int32) (p3 : Int32) : Option (sk_S × Int32) := (if lay_X0 (sk_K s) (sk_r s) a = true then (if lay_X9 (sk_K s) (sk_r s) a1_ = true then (if (5 : Int32) ≤ (sk_c s a 3) then (some (s, 0)) else ((x9_takeNumber N s a1_ p2 p3).bind (fun zz => (fun q3 x4 => (if x4 = 0 then (some (q3, 0)) else (ky_let (sk_c q3 a1_ 2) (fun x7 => (if ky_inB (((sk_c q3 a 2) * 5) + (sk_c q3 a 3)) 70 = true then (ky_let (sk_wc q3 (a + 2) (Int32.toNatClampNeg (((sk_c q3 a 2) * 5) + (sk_c q3 a 3))) x7) (fun q10 => (ky_let ((sk_c q10 a 3) + 1) (fun x11 => (ky_let (sk_wc q10 a 3 x11) (fun q13 => (some (q13, 1)))))))) else none))))) zz.1 zz.2))) else none) else none)
set_option maxRecDepth 20000 in
set_option maxHeartbeats 4000000 in
theorem k_X0_take {G : ky_GW} {d : Nat} {h : ky_HP} {Q : ky_RS → ky_HP → Prop} {s s9 : sk_S} {r9 : Int32} {a : Nat} {a1_ : Nat} {p2 : Int32} {p3 : Int32} (N : Nat) (hG : ky_OK G)   (hm : sk_hp G s h)  (e : x0_take N  s a a1_ p2 p3 = some (s9, r9)) (hr : ∀ h1, sk_hp G s9 h1 → sk_fr none s h s9 h1 → Q (.inl (some (.int r9))) h1) : ky_Call G (d + 2) M_X0_take [.ref a, .ref a1_, .int p2, .int p3] h Q := by
  refine ky_ofV (by decide +kernel) rfl ok_X0_take (Nat.le_of_ble_eq_true rfl) ?_
  have fr : sk_fr none s h s h := sk_fr.rf
  unfold x0_take at e
  refine (?_ : ky_V _ _ _ 0 [(0, .ref a), (1, .ref a1_), (2, .int p2), (3, .int p3)] [] _ _)
  obtain ⟨za, e⟩ := ky_chkE e
  obtain ⟨za1_, e⟩ := ky_chkE e
  refine v_aload_n (i := 0) (j := 0) rfl rfl (?_ : ky_V _ _ _ 1 _ _ _ _)
  refine gf_X0_53 rfl (i := 1) rfl (oc_X0 hm (ly_X0_c za)) rfl (?_ : ky_V _ _ _ 4 _ _ _ _)
  refine v_iconst (v := 5) (i := 2) rfl (by decide) (?_ : ky_V _ _ _ 5 _ _ _ _)
  refine v_icmp_ge (tgt := 17) (i := 3) rfl (by decide) (fun c1 => ?_) (fun c1 => ?_)
  · replace e := ky_ifT c1 e
    refine v_iconst (v := 0) (i := 9) rfl (by decide) (?_ : ky_V _ _ _ 18 _ _ _ _)
    refine v_iret (v := 0) (ty := .boolean) (i := 10) rfl rfl (by decide) ?_
    obtain ⟨rfl, rfl⟩ := ky_leaf e
    exact hr _ hm fr
  · replace e := ky_ifF c1 e
    refine v_aload_n (i := 4) (j := 1) rfl rfl (?_ : ky_V _ _ _ 9 _ _ _ _)
    refine v_iload_n (i := 5) (j := 2) rfl rfl (?_ : ky_V _ _ _ 10 _ _ _ _)
    refine v_iload_n (i := 6) (j := 3) rfl rfl (?_ : ky_V _ _ _ 11 _ _ _ _)
    obtain ⟨⟨q3, x4⟩, g5, e⟩ := Option.bind_eq_some_iff.mp e
    refine cl_X0_81 (As := [.int p2, .int p3]) rfl (i := 7) rfl (oc_X9 hm (ly_X9_c za1_)) rfl rfl (Nat.le_of_ble_eq_true rfl) (k_X9_takeNumber N hG hm g5 (fun h2 hmh2 frh2 => ⟨_, rfl, (?_ : ky_V _ _ _ 14 _ [.int x4] _ _)⟩))
    have frh2 := fr.tr frh2
    refine v_if_ne (tgt := 19) (i := 8) rfl (by decide) (fun c6 => ?_) (fun c6 => ?_)
    · replace e := ky_ifF c6 e
      refine v_aload_n (i := 11) (j := 0) rfl rfl (?_ : ky_V _ _ _ 20 _ _ _ _)
      refine gf_X0_15 rfl (i := 12) rfl (oc_X0 hmh2 (ly_X0_c (lt_X0 frh2 za))) (sk_rf (ly_X0_r1 (lt_X0 frh2 za))) (?_ : ky_V _ _ _ 23 _ (.ref (a + 2) :: _) _ _)
      refine v_aload_n (i := 13) (j := 0) rfl rfl (?_ : ky_V _ _ _ 24 _ _ _ _)
      refine gf_X0_18 rfl (i := 14) rfl (oc_X0 hmh2 (ly_X0_c (lt_X0 frh2 za))) rfl (?_ : ky_V _ _ _ 27 _ _ _ _)
      refine v_iconst (v := 5) (i := 15) rfl (by decide) (?_ : ky_V _ _ _ 28 _ _ _ _)
      refine v_imul (i := 16) rfl (?_ : ky_V _ _ _ 29 _ _ _ _)
      refine v_aload_n (i := 17) (j := 0) rfl rfl (?_ : ky_V _ _ _ 30 _ _ _ _)
      refine gf_X0_53 rfl (i := 18) rfl (oc_X0 hmh2 (ly_X0_c (lt_X0 frh2 za))) rfl (?_ : ky_V _ _ _ 33 _ _ _ _)
      refine v_iadd (i := 19) rfl (?_ : ky_V _ _ _ 34 _ _ _ _)
      refine v_aload_n (i := 20) (j := 1) rfl rfl (?_ : ky_V _ _ _ 35 _ _ _ _)
      refine gf_X0_85 rfl (i := 21) rfl (oc_X9 hmh2 (ly_X9_c (lt_X9 frh2 za1_))) rfl (?_ : ky_V _ _ _ 38 _ _ _ _)
      refine v_topi (fun x7 ex7 => ?_)
      replace e := ky_letE ex7 e
      obtain ⟨z8, e⟩ := ky_chkE e
      refine v_iast (i := 22) rfl (oa_21 hmh2 (ly_X0_k1 (lt_X0 frh2 za))) (ky_inb z8) ?_
      refine sk_stc (kd := 20) hmh2 frh2 (ly_X0_k1 (lt_X0 frh2 za)) (Int32.toNatClampNeg (((sk_c q3 a 2) * 5) + (sk_c q3 a 3))) x7 (fun h9 hmh9 frh9 => ?_)
      obtain ⟨q10, eq10⟩ : ∃ z, z = (sk_wc q3 (a + 2) (Int32.toNatClampNeg (((sk_c q3 a 2) * 5) + (sk_c q3 a 3))) x7) := ⟨_, rfl⟩
      rw [← eq10] at hmh9 frh9
      replace e := ky_letE eq10 e
      refine (?_ : ky_V _ _ _ 39 _ _ _ _)
      refine v_aload_n (i := 23) (j := 0) rfl rfl (?_ : ky_V _ _ _ 40 _ _ _ _)
      refine v_dup (i := 24) rfl rfl (?_ : ky_V _ _ _ 41 _ _ _ _)
      refine gf_X0_53 rfl (i := 25) rfl (oc_X0 hmh9 (ly_X0_c (lt_X0 frh9 za))) rfl (?_ : ky_V _ _ _ 44 _ _ _ _)
      refine v_iconst (v := 1) (i := 26) rfl (by decide) (?_ : ky_V _ _ _ 45 _ _ _ _)
      refine v_iadd (i := 27) rfl (?_ : ky_V _ _ _ 46 _ _ _ _)
      refine v_topi (fun x11 ex11 => ?_)
      replace e := ky_letE ex11 e
      refine pf_X0_53 rfl (i := 28) rfl (oc_X0 hmh9 (ly_X0_c (lt_X0 frh9 za))) (Nat.le_of_ble_eq_true rfl) rfl rfl ?_
      refine sk_stc (kd := 0) (n := 0) hmh9 frh9 (ly_X0_c (lt_X0 frh9 za)) 3 x11 (fun h12 hmh12 frh12 => ?_)
      obtain ⟨q13, eq13⟩ : ∃ z, z = (sk_wc q10 a 3 x11) := ⟨_, rfl⟩
      rw [← eq13] at hmh12 frh12
      replace e := ky_letE eq13 e
      refine (?_ : ky_V _ _ _ 49 _ _ _ _)
      refine v_iconst (v := 1) (i := 29) rfl (by decide) (?_ : ky_V _ _ _ 50 _ _ _ _)
      refine v_iret (v := 1) (ty := .boolean) (i := 30) rfl rfl (by decide) ?_
      obtain ⟨rfl, rfl⟩ := ky_leaf e
      exact hr _ hmh12 frh12
    · replace e := ky_ifT c6 e
      refine v_iconst (v := 0) (i := 9) rfl (by decide) (?_ : ky_V _ _ _ 18 _ _ _ _)
      refine v_iret (v := 0) (ty := .boolean) (i := 10) rfl rfl (by decide) ?_
      obtain ⟨rfl, rfl⟩ := ky_leaf e
      exact hr _ hmh2 frh2

def x0_takePlace (N : Nat)  (s : sk_S) (a : Nat) (a1_ : Nat) : Option (sk_S × Int32) := (if lay_X0 (sk_K s) (sk_r s) a = true then (if lay_X9 (sk_K s) (sk_r s) a1_ = true then ((x0_take N s a a1_ 0 7).bind (fun zz => (fun q2 x3 => (if x3 = 0 then (some (q2, 0)) else ((x0_take N q2 a a1_ 0 7).bind (fun zz => (fun q7 x8 => (if x8 = 0 then (some (q7, 0)) else (some (q7, 1)))) zz.1 zz.2)))) zz.1 zz.2)) else none) else none)
set_option maxRecDepth 20000 in
set_option maxHeartbeats 4000000 in
theorem k_X0_takePlace {G : ky_GW} {d : Nat} {h : ky_HP} {Q : ky_RS → ky_HP → Prop} {s s9 : sk_S} {r9 : Int32} {a : Nat} {a1_ : Nat} (N : Nat) (hG : ky_OK G)   (hm : sk_hp G s h)  (e : x0_takePlace N  s a a1_ = some (s9, r9)) (hr : ∀ h1, sk_hp G s9 h1 → sk_fr none s h s9 h1 → Q (.inl (some (.int r9))) h1) : ky_Call G (d + 3) M_X0_takePlace [.ref a, .ref a1_] h Q := by
  refine ky_ofV (by decide +kernel) rfl ok_X0_takePlace (Nat.le_of_ble_eq_true rfl) ?_
  have fr : sk_fr none s h s h := sk_fr.rf
  unfold x0_takePlace at e
  refine (?_ : ky_V _ _ _ 0 [(0, .ref a), (1, .ref a1_)] [] _ _)
  obtain ⟨za, e⟩ := ky_chkE e
  obtain ⟨za1_, e⟩ := ky_chkE e
  refine v_aload_n (i := 0) (j := 0) rfl rfl (?_ : ky_V _ _ _ 1 _ _ _ _)
  refine v_aload_n (i := 1) (j := 1) rfl rfl (?_ : ky_V _ _ _ 2 _ _ _ _)
  refine v_iconst (v := 0) (i := 2) rfl (by decide) (?_ : ky_V _ _ _ 3 _ _ _ _)
  refine v_bipush (v := 7) (i := 3) rfl (by decide) (?_ : ky_V _ _ _ 5 _ _ _ _)
  obtain ⟨⟨q2, x3⟩, g4, e⟩ := Option.bind_eq_some_iff.mp e
  refine cl_X0_60 (As := [.ref a1_, .int 0, .int 7]) rfl (i := 4) rfl (oc_X0 hm (ly_X0_c za)) rfl rfl (Nat.le_of_ble_eq_true rfl) (k_X0_take N hG hm g4 (fun h1 hmh1 frh1 => ⟨_, rfl, (?_ : ky_V _ _ _ 8 _ [.int x3] _ _)⟩))
  have frh1 := fr.tr frh1
  refine v_if_eq (tgt := 26) (i := 5) rfl (by decide) (fun c5 => ?_) (fun c5 => ?_)
  · replace e := ky_ifT c5 e
    refine v_iconst (v := 0) (i := 14) rfl (by decide) (?_ : ky_V _ _ _ 27 _ _ _ _)
    refine v_iret (v := 0) (ty := .boolean) (i := 15) rfl rfl (by decide) ?_
    obtain ⟨rfl, rfl⟩ := ky_leaf e
    exact hr _ hmh1 frh1
  · replace e := ky_ifF c5 e
    refine v_aload_n (i := 6) (j := 0) rfl rfl (?_ : ky_V _ _ _ 12 _ _ _ _)
    refine v_aload_n (i := 7) (j := 1) rfl rfl (?_ : ky_V _ _ _ 13 _ _ _ _)
    refine v_iconst (v := 0) (i := 8) rfl (by decide) (?_ : ky_V _ _ _ 14 _ _ _ _)
    refine v_bipush (v := 7) (i := 9) rfl (by decide) (?_ : ky_V _ _ _ 16 _ _ _ _)
    obtain ⟨⟨q7, x8⟩, g9, e⟩ := Option.bind_eq_some_iff.mp e
    refine cl_X0_60 (As := [.ref a1_, .int 0, .int 7]) rfl (i := 10) rfl (oc_X0 hmh1 (ly_X0_c (lt_X0 frh1 za))) rfl rfl (Nat.le_of_ble_eq_true rfl) (k_X0_take N hG hmh1 g9 (fun h6 hmh6 frh6 => ⟨_, rfl, (?_ : ky_V _ _ _ 19 _ [.int x8] _ _)⟩))
    have frh6 := frh1.tr frh6
    refine v_if_eq (tgt := 26) (i := 11) rfl (by decide) (fun c10 => ?_) (fun c10 => ?_)
    · replace e := ky_ifT c10 e
      refine v_iconst (v := 0) (i := 14) rfl (by decide) (?_ : ky_V _ _ _ 27 _ _ _ _)
      refine v_iret (v := 0) (ty := .boolean) (i := 15) rfl rfl (by decide) ?_
      obtain ⟨rfl, rfl⟩ := ky_leaf e
      exact hr _ hmh6 frh6
    · replace e := ky_ifF c10 e
      refine v_iconst (v := 1) (i := 12) rfl (by decide) (?_ : ky_V _ _ _ 23 _ _ _ _)
      refine v_goto (tgt := 27) (i := 13) rfl (by decide) (?_ : ky_V _ _ _ 27 _ _ _ _)
      refine v_iret (v := 1) (ty := .boolean) (i := 15) rfl rfl (by decide) ?_
      obtain ⟨rfl, rfl⟩ := ky_leaf e
      exact hr _ hmh6 frh6

def x0_tellBody (N : Nat)  (s : sk_S) (a : Nat) (a1_ : Nat) (p2 : Int32) (p3 : Int32) : Option (sk_S × Int32) := (if lay_X0 (sk_K s) (sk_r s) a = true then (if lay_X1 (sk_K s) (sk_r s) a1_ = true then (if ky_inB p3 70 = true then (ky_let (sk_c s (a + 2) (Int32.toNatClampNeg p3)) (fun x2 => (if p2 = 0 then (if ky_inB (p3 + 1) 70 = true then (ky_let (po_withDepths (sk_c s a1_ 0) x2 (sk_c s (a + 2) (Int32.toNatClampNeg (p3 + 1)))) (fun x5 => (ky_let (sk_wc s a1_ 0 x5) (fun q7 => (some (q7, 0)))))) else none) else (if p2 = 1 then (ky_let (po_withThin (sk_c s a1_ 0) x2) (fun x9 => (ky_let (sk_wc s a1_ 0 x9) (fun q11 => (some (q11, 0)))))) else (if p2 = 2 then (ky_let (sk_wc s a1_ 1 x2) (fun q14 => (some (q14, 0)))) else (if p2 = 3 then (ky_let (sk_wc s a1_ 2 x2) (fun q17 => (some (q17, 0)))) else (if p2 = 4 then (ky_let (sk_wc s a1_ 5 x2) (fun q20 => (some (q20, 0)))) else (ky_let (sk_wc s a1_ 6 x2) (fun q22 => (some (q22, 0))))))))))) else none) else none) else none)
set_option maxRecDepth 20000 in
set_option maxHeartbeats 4000000 in
theorem k_X0_tellBody {G : ky_GW} {d : Nat} {h : ky_HP} {Q : ky_RS → ky_HP → Prop} {s s9 : sk_S} {r9 : Int32} {a : Nat} {a1_ : Nat} {p2 : Int32} {p3 : Int32} (N : Nat) (hG : ky_OK G)   (hm : sk_hp G s h)  (e : x0_tellBody N  s a a1_ p2 p3 = some (s9, r9)) (hr : ∀ h1, sk_hp G s9 h1 → sk_fr none s h s9 h1 → Q (.inl none) h1) : ky_Call G (d + 2) M_X0_tellBody [.ref a, .ref a1_, .int p2, .int p3] h Q := by
  refine ky_ofV (by decide +kernel) rfl ok_X0_tellBody (Nat.le_of_ble_eq_true rfl) ?_
  have fr : sk_fr none s h s h := sk_fr.rf
  unfold x0_tellBody at e
  refine (?_ : ky_V _ _ _ 0 [(0, .ref a), (1, .ref a1_), (2, .int p2), (3, .int p3)] [] _ _)
  obtain ⟨za, e⟩ := ky_chkE e
  obtain ⟨za1_, e⟩ := ky_chkE e
  refine v_aload_n (i := 0) (j := 0) rfl rfl (?_ : ky_V _ _ _ 1 _ _ _ _)
  refine gf_X0_15 rfl (i := 1) rfl (oc_X0 hm (ly_X0_c za)) (sk_rf (ly_X0_r1 za)) (?_ : ky_V _ _ _ 4 _ (.ref (a + 2) :: _) _ _)
  refine v_iload_n (i := 2) (j := 3) rfl rfl (?_ : ky_V _ _ _ 5 _ _ _ _)
  obtain ⟨z1, e⟩ := ky_chkE e
  refine v_iald (i := 3) rfl (oa_21 hm (ly_X0_k1 za)) (ky_inb z1) (?_ : ky_V _ _ _ 6 _ (.int (sk_c s (a + 2) (Int32.toNatClampNeg p3)) :: _) _ _)
  refine v_topi (fun x2 ex2 => ?_)
  replace e := ky_letE ex2 e
  refine v_istore (L' := [(0, .ref a), (1, .ref a1_), (2, .int p2), (3, .int p3), (4, .int x2)]) [1, 2, 3, 4, 0] (i := 4) rfl (Nat.le_of_ble_eq_true rfl) rfl (?_ : ky_V _ _ _ 8 _ _ _ _)
  refine v_iload_n (i := 5) (j := 2) rfl rfl (?_ : ky_V _ _ _ 9 _ _ _ _)
  rcases Classical.em (p2 = 0) with c3 | c3
  · replace e := ky_ifT c3 e
    refine v_tableIn (off := 35) (tgt := 44) (i := 6) rfl (by rw [c3]; decide) (by rw [c3]; decide) (by rw [c3]; rfl) (by decide) ?_
    refine v_aload_n (i := 7) (j := 1) rfl rfl (?_ : ky_V _ _ _ 45 _ _ _ _)
    refine v_aload_n (i := 8) (j := 1) rfl rfl (?_ : ky_V _ _ _ 46 _ _ _ _)
    refine gf_X0_116 rfl (i := 9) rfl (oc_X1 hm (ly_X1_c za1_)) rfl (?_ : ky_V _ _ _ 49 _ _ _ _)
    refine v_iload (i := 10) (j := 4) rfl rfl (?_ : ky_V _ _ _ 51 _ _ _ _)
    refine v_aload_n (i := 11) (j := 0) rfl rfl (?_ : ky_V _ _ _ 52 _ _ _ _)
    refine gf_X0_15 rfl (i := 12) rfl (oc_X0 hm (ly_X0_c za)) (sk_rf (ly_X0_r1 za)) (?_ : ky_V _ _ _ 55 _ (.ref (a + 2) :: _) _ _)
    refine v_iload_n (i := 13) (j := 3) rfl rfl (?_ : ky_V _ _ _ 56 _ _ _ _)
    refine v_iconst (v := 1) (i := 14) rfl (by decide) (?_ : ky_V _ _ _ 57 _ _ _ _)
    refine v_iadd (i := 15) rfl (?_ : ky_V _ _ _ 58 _ _ _ _)
    obtain ⟨z4, e⟩ := ky_chkE e
    refine v_iald (i := 16) rfl (oa_21 hm (ly_X0_k1 za)) (ky_inb z4) (?_ : ky_V _ _ _ 59 _ (.int (sk_c s (a + 2) (Int32.toNatClampNeg (p3 + 1))) :: _) _ _)
    refine cl_X0_121 (As := [.int ((sk_c s a1_ 0)), .int x2, .int ((sk_c s (a + 2) (Int32.toNatClampNeg (p3 + 1))))]) rfl (i := 17) rfl rfl rfl (Nat.le_of_ble_eq_true rfl) (k_X5_withDepths (sk_c s a1_ 0) x2 (sk_c s (a + 2) (Int32.toNatClampNeg (p3 + 1))) ⟨_, rfl, (?_ : ky_V _ _ _ 62 _ [.int ((po_withDepths (sk_c s a1_ 0) x2 (sk_c s (a + 2) (Int32.toNatClampNeg (p3 + 1))))), .ref a1_] _ _)⟩)
    refine v_topi (fun x5 ex5 => ?_)
    replace e := ky_letE ex5 e
    refine pf_X0_116 rfl (i := 18) rfl (oc_X1 hm (ly_X1_c za1_)) (Nat.le_of_ble_eq_true rfl) rfl rfl ?_
    refine sk_stc (kd := 1) (n := 0) hm fr (ly_X1_c za1_) 0 x5 (fun h6 hmh6 frh6 => ?_)
    obtain ⟨q7, eq7⟩ : ∃ z, z = (sk_wc s a1_ 0 x5) := ⟨_, rfl⟩
    rw [← eq7] at hmh6 frh6
    replace e := ky_letE eq7 e
    refine (?_ : ky_V _ _ _ 65 _ _ _ _)
    refine v_goto (tgt := 117) (i := 19) rfl (by decide) (?_ : ky_V _ _ _ 117 _ _ _ _)
    refine v_vret (i := 42) rfl rfl ?_
    obtain ⟨rfl, rfl⟩ := ky_leaf e
    exact hr _ hmh6 frh6
  · replace e := ky_ifF c3 e
    rcases Classical.em (p2 = 1) with c8 | c8
    · replace e := ky_ifT c8 e
      refine v_tableIn (off := 59) (tgt := 68) (i := 6) rfl (by rw [c8]; decide) (by rw [c8]; decide) (by rw [c8]; rfl) (by decide) ?_
      refine v_aload_n (i := 20) (j := 1) rfl rfl (?_ : ky_V _ _ _ 69 _ _ _ _)
      refine v_aload_n (i := 21) (j := 1) rfl rfl (?_ : ky_V _ _ _ 70 _ _ _ _)
      refine gf_X0_116 rfl (i := 22) rfl (oc_X1 hm (ly_X1_c za1_)) rfl (?_ : ky_V _ _ _ 73 _ _ _ _)
      refine v_iload (i := 23) (j := 4) rfl rfl (?_ : ky_V _ _ _ 75 _ _ _ _)
      refine cl_X0_127 (As := [.int ((sk_c s a1_ 0)), .int x2]) rfl (i := 24) rfl rfl rfl (Nat.le_of_ble_eq_true rfl) (k_X5_withThin (sk_c s a1_ 0) x2 ⟨_, rfl, (?_ : ky_V _ _ _ 78 _ [.int ((po_withThin (sk_c s a1_ 0) x2)), .ref a1_] _ _)⟩)
      refine v_topi (fun x9 ex9 => ?_)
      replace e := ky_letE ex9 e
      refine pf_X0_116 rfl (i := 25) rfl (oc_X1 hm (ly_X1_c za1_)) (Nat.le_of_ble_eq_true rfl) rfl rfl ?_
      refine sk_stc (kd := 1) (n := 0) hm fr (ly_X1_c za1_) 0 x9 (fun h10 hmh10 frh10 => ?_)
      obtain ⟨q11, eq11⟩ : ∃ z, z = (sk_wc s a1_ 0 x9) := ⟨_, rfl⟩
      rw [← eq11] at hmh10 frh10
      replace e := ky_letE eq11 e
      refine (?_ : ky_V _ _ _ 81 _ _ _ _)
      refine v_goto (tgt := 117) (i := 26) rfl (by decide) (?_ : ky_V _ _ _ 117 _ _ _ _)
      refine v_vret (i := 42) rfl rfl ?_
      obtain ⟨rfl, rfl⟩ := ky_leaf e
      exact hr _ hmh10 frh10
    · replace e := ky_ifF c8 e
      rcases Classical.em (p2 = 2) with c12 | c12
      · replace e := ky_ifT c12 e
        refine v_tableIn (off := 75) (tgt := 84) (i := 6) rfl (by rw [c12]; decide) (by rw [c12]; decide) (by rw [c12]; rfl) (by decide) ?_
        refine v_aload_n (i := 27) (j := 1) rfl rfl (?_ : ky_V _ _ _ 85 _ _ _ _)
        refine v_iload (i := 28) (j := 4) rfl rfl (?_ : ky_V _ _ _ 87 _ _ _ _)
        refine pf_X0_131 rfl (i := 29) rfl (oc_X1 hm (ly_X1_c za1_)) (Nat.le_of_ble_eq_true rfl) rfl rfl ?_
        refine sk_stc (kd := 1) (n := 0) hm fr (ly_X1_c za1_) 1 x2 (fun h13 hmh13 frh13 => ?_)
        obtain ⟨q14, eq14⟩ : ∃ z, z = (sk_wc s a1_ 1 x2) := ⟨_, rfl⟩
        rw [← eq14] at hmh13 frh13
        replace e := ky_letE eq14 e
        refine (?_ : ky_V _ _ _ 90 _ _ _ _)
        refine v_goto (tgt := 117) (i := 30) rfl (by decide) (?_ : ky_V _ _ _ 117 _ _ _ _)
        refine v_vret (i := 42) rfl rfl ?_
        obtain ⟨rfl, rfl⟩ := ky_leaf e
        exact hr _ hmh13 frh13
      · replace e := ky_ifF c12 e
        rcases Classical.em (p2 = 3) with c15 | c15
        · replace e := ky_ifT c15 e
          refine v_tableIn (off := 84) (tgt := 93) (i := 6) rfl (by rw [c15]; decide) (by rw [c15]; decide) (by rw [c15]; rfl) (by decide) ?_
          refine v_aload_n (i := 31) (j := 1) rfl rfl (?_ : ky_V _ _ _ 94 _ _ _ _)
          refine v_iload (i := 32) (j := 4) rfl rfl (?_ : ky_V _ _ _ 96 _ _ _ _)
          refine pf_X0_134 rfl (i := 33) rfl (oc_X1 hm (ly_X1_c za1_)) (Nat.le_of_ble_eq_true rfl) rfl rfl ?_
          refine sk_stc (kd := 1) (n := 0) hm fr (ly_X1_c za1_) 2 x2 (fun h16 hmh16 frh16 => ?_)
          obtain ⟨q17, eq17⟩ : ∃ z, z = (sk_wc s a1_ 2 x2) := ⟨_, rfl⟩
          rw [← eq17] at hmh16 frh16
          replace e := ky_letE eq17 e
          refine (?_ : ky_V _ _ _ 99 _ _ _ _)
          refine v_goto (tgt := 117) (i := 34) rfl (by decide) (?_ : ky_V _ _ _ 117 _ _ _ _)
          refine v_vret (i := 42) rfl rfl ?_
          obtain ⟨rfl, rfl⟩ := ky_leaf e
          exact hr _ hmh16 frh16
        · replace e := ky_ifF c15 e
          rcases Classical.em (p2 = 4) with c18 | c18
          · replace e := ky_ifT c18 e
            refine v_tableIn (off := 93) (tgt := 102) (i := 6) rfl (by rw [c18]; decide) (by rw [c18]; decide) (by rw [c18]; rfl) (by decide) ?_
            refine v_aload_n (i := 35) (j := 1) rfl rfl (?_ : ky_V _ _ _ 103 _ _ _ _)
            refine v_iload (i := 36) (j := 4) rfl rfl (?_ : ky_V _ _ _ 105 _ _ _ _)
            refine pf_X0_137 rfl (i := 37) rfl (oc_X1 hm (ly_X1_c za1_)) (Nat.le_of_ble_eq_true rfl) rfl rfl ?_
            refine sk_stc (kd := 1) (n := 0) hm fr (ly_X1_c za1_) 5 x2 (fun h19 hmh19 frh19 => ?_)
            obtain ⟨q20, eq20⟩ : ∃ z, z = (sk_wc s a1_ 5 x2) := ⟨_, rfl⟩
            rw [← eq20] at hmh19 frh19
            replace e := ky_letE eq20 e
            refine (?_ : ky_V _ _ _ 108 _ _ _ _)
            refine v_goto (tgt := 117) (i := 38) rfl (by decide) (?_ : ky_V _ _ _ 117 _ _ _ _)
            refine v_vret (i := 42) rfl rfl ?_
            obtain ⟨rfl, rfl⟩ := ky_leaf e
            exact hr _ hmh19 frh19
          · replace e := ky_ifF c18 e
            refine v_tableOut (tgt := 111) (i := 6) rfl (ky_swO (fun z h1 h2 => ?_)) (by decide) ?_
            · intro hz
              have h3 : z = 0 ∨ z = 1 ∨ z = 2 ∨ z = 3 ∨ z = 4 := by omega
              rcases h3 with h3 | h3 | h3 | h3 | h3 <;> subst h3
              · exact c3 (Int32.toInt_inj.mp (hz.trans (by decide)))
              · exact c8 (Int32.toInt_inj.mp (hz.trans (by decide)))
              · exact c12 (Int32.toInt_inj.mp (hz.trans (by decide)))
              · exact c15 (Int32.toInt_inj.mp (hz.trans (by decide)))
              · exact c18 (Int32.toInt_inj.mp (hz.trans (by decide)))
            · refine v_aload_n (i := 39) (j := 1) rfl rfl (?_ : ky_V _ _ _ 112 _ _ _ _)
              refine v_iload (i := 40) (j := 4) rfl rfl (?_ : ky_V _ _ _ 114 _ _ _ _)
              refine pf_X0_140 rfl (i := 41) rfl (oc_X1 hm (ly_X1_c za1_)) (Nat.le_of_ble_eq_true rfl) rfl rfl ?_
              refine sk_stc (kd := 1) (n := 0) hm fr (ly_X1_c za1_) 6 x2 (fun h21 hmh21 frh21 => ?_)
              obtain ⟨q22, eq22⟩ : ∃ z, z = (sk_wc s a1_ 6 x2) := ⟨_, rfl⟩
              rw [← eq22] at hmh21 frh21
              replace e := ky_letE eq22 e
              refine (?_ : ky_V _ _ _ 117 _ _ _ _)
              refine v_vret (i := 42) rfl rfl ?_
              obtain ⟨rfl, rfl⟩ := ky_leaf e
              exact hr _ hmh21 frh21

def x0_placeAt (N : Nat)  (s : sk_S) (a : Nat) (p1 : Int32) : Option (sk_S × Int32) := (if lay_X0 (sk_K s) (sk_r s) a = true then (if ky_inB p1 70 = true then (if ky_inB (p1 + 1) 70 = true then (some (s, (sh_cellAt (sk_c s (a + 2) (Int32.toNatClampNeg p1)) (sk_c s (a + 2) (Int32.toNatClampNeg (p1 + 1)))))) else none) else none) else none)
set_option maxRecDepth 20000 in
set_option maxHeartbeats 4000000 in
theorem k_X0_placeAt {G : ky_GW} {d : Nat} {h : ky_HP} {Q : ky_RS → ky_HP → Prop} {s s9 : sk_S} {r9 : Int32} {a : Nat} {p1 : Int32} (N : Nat) (hG : ky_OK G)   (hm : sk_hp G s h)  (e : x0_placeAt N  s a p1 = some (s9, r9)) (hr : ∀ h1, sk_hp G s9 h1 → sk_fr none s h s9 h1 → Q (.inl (some (.int r9))) h1) : ky_Call G (d + 1) M_X0_placeAt [.ref a, .int p1] h Q := by
  refine ky_ofV (by decide +kernel) rfl ok_X0_placeAt (Nat.le_of_ble_eq_true rfl) ?_
  have fr : sk_fr none s h s h := sk_fr.rf
  unfold x0_placeAt at e
  refine (?_ : ky_V _ _ _ 0 [(0, .ref a), (1, .int p1)] [] _ _)
  obtain ⟨za, e⟩ := ky_chkE e
  refine v_aload_n (i := 0) (j := 0) rfl rfl (?_ : ky_V _ _ _ 1 _ _ _ _)
  refine gf_X0_15 rfl (i := 1) rfl (oc_X0 hm (ly_X0_c za)) (sk_rf (ly_X0_r1 za)) (?_ : ky_V _ _ _ 4 _ (.ref (a + 2) :: _) _ _)
  refine v_iload_n (i := 2) (j := 1) rfl rfl (?_ : ky_V _ _ _ 5 _ _ _ _)
  obtain ⟨z1, e⟩ := ky_chkE e
  refine v_iald (i := 3) rfl (oa_21 hm (ly_X0_k1 za)) (ky_inb z1) (?_ : ky_V _ _ _ 6 _ (.int (sk_c s (a + 2) (Int32.toNatClampNeg p1)) :: _) _ _)
  refine v_aload_n (i := 4) (j := 0) rfl rfl (?_ : ky_V _ _ _ 7 _ _ _ _)
  refine gf_X0_15 rfl (i := 5) rfl (oc_X0 hm (ly_X0_c za)) (sk_rf (ly_X0_r1 za)) (?_ : ky_V _ _ _ 10 _ (.ref (a + 2) :: _) _ _)
  refine v_iload_n (i := 6) (j := 1) rfl rfl (?_ : ky_V _ _ _ 11 _ _ _ _)
  refine v_iconst (v := 1) (i := 7) rfl (by decide) (?_ : ky_V _ _ _ 12 _ _ _ _)
  refine v_iadd (i := 8) rfl (?_ : ky_V _ _ _ 13 _ _ _ _)
  obtain ⟨z2, e⟩ := ky_chkE e
  refine v_iald (i := 9) rfl (oa_21 hm (ly_X0_k1 za)) (ky_inb z2) (?_ : ky_V _ _ _ 14 _ (.int (sk_c s (a + 2) (Int32.toNatClampNeg (p1 + 1))) :: _) _ _)
  refine cl_X0_167 (As := [.int ((sk_c s (a + 2) (Int32.toNatClampNeg p1))), .int ((sk_c s (a + 2) (Int32.toNatClampNeg (p1 + 1))))]) rfl (i := 10) rfl rfl rfl (Nat.le_of_ble_eq_true rfl) (k_X8_cellAt (sk_c s (a + 2) (Int32.toNatClampNeg p1)) (sk_c s (a + 2) (Int32.toNatClampNeg (p1 + 1))) ⟨_, rfl, (?_ : ky_V _ _ _ 17 _ [.int ((sh_cellAt (sk_c s (a + 2) (Int32.toNatClampNeg p1)) (sk_c s (a + 2) (Int32.toNatClampNeg (p1 + 1)))))] _ _)⟩)
  refine v_iret (v := (sh_cellAt (sk_c s (a + 2) (Int32.toNatClampNeg p1)) (sk_c s (a + 2) (Int32.toNatClampNeg (p1 + 1))))) (ty := .int) (i := 11) rfl rfl rfl ?_
  obtain ⟨rfl, rfl⟩ := ky_leaf e
  exact hr _ hm fr

def x9_begin (N : Nat)  (s : sk_S) (a : Nat) : Option (sk_S × Int32) := (if lay_X9 (sk_K s) (sk_r s) a = true then (ky_let (sk_wc s a 3 0) (fun q2 => ((x9_step N q2 a 0).bind (fun zz => (fun q4 x5 => (some (q4, 0))) zz.1 zz.2)))) else none)
set_option maxRecDepth 20000 in
set_option maxHeartbeats 4000000 in
theorem k_X9_begin {G : ky_GW} {d : Nat} {h : ky_HP} {Q : ky_RS → ky_HP → Prop} {s s9 : sk_S} {r9 : Int32} {a : Nat} (N : Nat) (hG : ky_OK G)   (hm : sk_hp G s h)  (e : x9_begin N  s a = some (s9, r9)) (hr : ∀ h1, sk_hp G s9 h1 → sk_fr none s h s9 h1 → Q (.inl none) h1) : ky_Call G (d + 1) M_X9_begin [.ref a] h Q := by
  refine ky_ofV (by decide +kernel) rfl ok_X9_begin (Nat.le_of_ble_eq_true rfl) ?_
  have fr : sk_fr none s h s h := sk_fr.rf
  unfold x9_begin at e
  refine (?_ : ky_V _ _ _ 0 [(0, .ref a)] [] _ _)
  obtain ⟨za, e⟩ := ky_chkE e
  refine v_aload_n (i := 0) (j := 0) rfl rfl (?_ : ky_V _ _ _ 1 _ _ _ _)
  refine v_iconst (v := 0) (i := 1) rfl (by decide) (?_ : ky_V _ _ _ 2 _ _ _ _)
  refine pf_X9_19 rfl (i := 2) rfl (oc_X9 hm (ly_X9_c za)) (Nat.le_of_ble_eq_true rfl) rfl rfl ?_
  refine sk_stc (kd := 8) (n := 0) hm fr (ly_X9_c za) 3 0 (fun h1 hmh1 frh1 => ?_)
  obtain ⟨q2, eq2⟩ : ∃ z, z = (sk_wc s a 3 0) := ⟨_, rfl⟩
  rw [← eq2] at hmh1 frh1
  replace e := ky_letE eq2 e
  refine (?_ : ky_V _ _ _ 5 _ _ _ _)
  refine v_aload_n (i := 3) (j := 0) rfl rfl (?_ : ky_V _ _ _ 6 _ _ _ _)
  refine v_iconst (v := 0) (i := 4) rfl (by decide) (?_ : ky_V _ _ _ 7 _ _ _ _)
  obtain ⟨⟨q4, x5⟩, g6, e⟩ := Option.bind_eq_some_iff.mp e
  refine cl_X9_22 (As := [.int 0]) rfl (i := 5) rfl (oc_X9 hmh1 (ly_X9_c (lt_X9 frh1 za))) rfl rfl (Nat.le_of_ble_eq_true rfl) (k_X9_step N hG hmh1 g6 (fun h3 hmh3 frh3 => ⟨_, rfl, (?_ : ky_V _ _ _ 10 _ [] _ _)⟩))
  have frh3 := frh1.tr frh3
  refine v_vret (i := 6) rfl rfl ?_
  obtain ⟨rfl, rfl⟩ := ky_leaf e
  exact hr _ hmh3 frh3

def x9_takeOneOf_L13 (N : Nat)  (a : Nat) (b1 : List Int32) (k : sk_S → Int32 → Int32 → Int32 → Int32 → Option (sk_S × Int32)) : Nat → sk_S → Int32 → Int32 → Int32 → Int32 → Option (sk_S × Int32)
  | 0, _, _, _, _, _ => none
  | n + 1, c, p2, p3, p4, p5 => (if (Int32.ofNat (List.length b1)) < p5 then (k c p2 p3 p4 p5) else (if p5 = (Int32.ofNat (List.length b1)) then (if (p5 - p4) = p2 then ((x9_isHere N c a b1 p4 p2).bind (fun zz => (fun q8 x9 => (if x9 = 0 then (ky_let (p3 + 1) (fun x12 => (ky_let (p5 + 1) (fun x13 => (ky_let (p5 + 1) (fun x14 => (x9_takeOneOf_L13 N a b1 k n q8 p2 x12 x13 x14))))))) else ((x9_step N q8 a p2).bind (fun zz => (fun q16 x17 => (some (q16, p3))) zz.1 zz.2)))) zz.1 zz.2)) else (ky_let (p3 + 1) (fun x4 => (ky_let (p5 + 1) (fun x5 => (ky_let (p5 + 1) (fun x6 => (x9_takeOneOf_L13 N a b1 k n c p2 x4 x5 x6)))))))) else (if List.length b1 < 2147483648 then (if ky_inB p5 (List.length b1) = true then (if (st_ch (List.getD b1 (Int32.toNatClampNeg p5) 0)) = (32 : Int32) then (if (p5 - p4) = p2 then ((x9_isHere N c a b1 p4 p2).bind (fun zz => (fun q28 x29 => (if x29 = 0 then (ky_let (p3 + 1) (fun x32 => (ky_let (p5 + 1) (fun x33 => (ky_let (p5 + 1) (fun x34 => (x9_takeOneOf_L13 N a b1 k n q28 p2 x32 x33 x34))))))) else ((x9_step N q28 a p2).bind (fun zz => (fun q36 x37 => (some (q36, p3))) zz.1 zz.2)))) zz.1 zz.2)) else (ky_let (p3 + 1) (fun x24 => (ky_let (p5 + 1) (fun x25 => (ky_let (p5 + 1) (fun x26 => (x9_takeOneOf_L13 N a b1 k n c p2 x24 x25 x26)))))))) else (ky_let (p5 + 1) (fun x22 => (x9_takeOneOf_L13 N a b1 k n c p2 p3 p4 x22)))) else none) else none)))
set_option maxRecDepth 20000 in
set_option maxHeartbeats 4000000 in
theorem lv_X9_takeOneOf_13 {G : ky_GW} {d : Nat} {s s9 : sk_S} {h0 : ky_HP} {Q : ky_RS → ky_HP → Prop} {r9 : Int32} (N : Nat) (hG : ky_OK G)  (a : Nat) (b1 : List Int32)  {s1 : Nat} (hs1 : ky_Str G s1 b1) (za : lay_X9 (sk_K s) (sk_r s) a = true) (hm : sk_hp G s h0) (k : sk_S → Int32 → Int32 → Int32 → Int32 → Option (sk_S × Int32)) (hr : ∀ h1, sk_hp G s9 h1 → sk_fr none s h0 s9 h1 → Q (.inl (some (.int r9))) h1)
    (hk : ∀ (h : ky_HP) (c : sk_S) (p2 : Int32) (p3 : Int32) (p4 : Int32) (p5 : Int32), sk_hp G c h → sk_fr none s h0 c h → k c p2 p3 p4 p5 = some (s9, r9) → ky_V G (d + 5) M_X9_takeOneOf 84 [(0, .ref a), (1, .ref s1), (2, .int p2), (3, .int p3), (4, .int p4), (5, .int p5)] [] h Q) :
    ∀ (n : Nat) (h : ky_HP) (c : sk_S) (p2 : Int32) (p3 : Int32) (p4 : Int32) (p5 : Int32), sk_hp G c h → sk_fr none s h0 c h → x9_takeOneOf_L13 N a b1 k n c p2 p3 p4 p5 = some (s9, r9) → ky_V G (d + 5) M_X9_takeOneOf 13 [(0, .ref a), (1, .ref s1), (2, .int p2), (3, .int p3), (4, .int p4), (5, .int p5)] [] h Q := by
  intro n
  induction n with
  | zero => intro h c p2 p3 p4 p5 hm1 fr e; cases e
  | succ n ih =>
    intro h c p2 p3 p4 p5 hm1 fr e
    rw [x9_takeOneOf_L13] at e
    refine v_iload (i := 9) (j := 5) rfl rfl (?_ : ky_V _ _ _ 15 _ _ _ _)
    refine v_aload_n (i := 10) (j := 1) rfl rfl (?_ : ky_V _ _ _ 16 _ _ _ _)
    refine cl_X9_37 (As := []) rfl (i := 11) rfl (ky_strO hs1) rfl rfl (Nat.le_of_ble_eq_true rfl) (k_J0_length_8abf5 hG hs1 ⟨_, rfl, (?_ : ky_V _ _ _ 19 _ [.int ((Int32.ofNat (List.length b1))), .int p5] _ _)⟩)
    refine v_icmp_gt (tgt := 84) (i := 12) rfl (by decide) (fun c1 => ?_) (fun c1 => ?_)
    · replace e := ky_ifT c1 e
      exact hk h c p2 p3 p4 p5 hm1 fr e
    · replace e := ky_ifF c1 e
      refine v_iload (i := 13) (j := 5) rfl rfl (?_ : ky_V _ _ _ 24 _ _ _ _)
      refine v_aload_n (i := 14) (j := 1) rfl rfl (?_ : ky_V _ _ _ 25 _ _ _ _)
      refine cl_X9_37 (As := []) rfl (i := 15) rfl (ky_strO hs1) rfl rfl (Nat.le_of_ble_eq_true rfl) (k_J0_length_8abf5 hG hs1 ⟨_, rfl, (?_ : ky_V _ _ _ 28 _ [.int ((Int32.ofNat (List.length b1))), .int p5] _ _)⟩)
      refine v_icmp_eq (tgt := 42) (i := 16) rfl (by decide) (fun c2 => ?_) (fun c2 => ?_)
      · replace e := ky_ifT c2 e
        refine v_iload (i := 22) (j := 5) rfl rfl (?_ : ky_V _ _ _ 44 _ _ _ _)
        refine v_iload (i := 23) (j := 4) rfl rfl (?_ : ky_V _ _ _ 46 _ _ _ _)
        refine v_isub (i := 24) rfl (?_ : ky_V _ _ _ 47 _ _ _ _)
        refine v_iload_n (i := 25) (j := 2) rfl rfl (?_ : ky_V _ _ _ 48 _ _ _ _)
        refine v_icmp_ne (tgt := 69) (i := 26) rfl (by decide) (fun c3 => ?_) (fun c3 => ?_)
        · replace e := ky_ifF c3 e
          obtain ⟨x4, ex4⟩ : ∃ z : Int32, z = p3 + 1 := ⟨_, rfl⟩
          replace e := ky_letE ex4 e
          refine v_iinc (v := x4) (j := 3) (L' := [(0, .ref a), (1, .ref s1), (2, .int p2), (3, .int x4), (4, .int p4), (5, .int p5)]) [1, 2, 3, 0, 4, 5] (i := 38) rfl rfl (by rw [ex4]; rfl) (Nat.le_of_ble_eq_true rfl) rfl (?_ : ky_V _ _ _ 72 _ _ _ _)
          refine v_iload (i := 39) (j := 5) rfl rfl (?_ : ky_V _ _ _ 74 _ _ _ _)
          refine v_iconst (v := 1) (i := 40) rfl (by decide) (?_ : ky_V _ _ _ 75 _ _ _ _)
          refine v_iadd (i := 41) rfl (?_ : ky_V _ _ _ 76 _ _ _ _)
          refine v_topi (fun x5 ex5 => ?_)
          replace e := ky_letE ex5 e
          refine v_istore (L' := [(0, .ref a), (1, .ref s1), (2, .int p2), (3, .int x4), (4, .int x5), (5, .int p5)]) [1, 2, 3, 4, 0, 5] (i := 42) rfl (Nat.le_of_ble_eq_true rfl) rfl (?_ : ky_V _ _ _ 78 _ _ _ _)
          obtain ⟨x6, ex6⟩ : ∃ z : Int32, z = p5 + 1 := ⟨_, rfl⟩
          replace e := ky_letE ex6 e
          refine v_iinc (v := x6) (j := 5) (L' := [(0, .ref a), (1, .ref s1), (2, .int p2), (3, .int x4), (4, .int x5), (5, .int x6)]) [1, 2, 3, 4, 5, 0] (i := 43) rfl rfl (by rw [ex6]; rfl) (Nat.le_of_ble_eq_true rfl) rfl (?_ : ky_V _ _ _ 81 _ _ _ _)
          refine v_goto (tgt := 13) (i := 44) rfl (by decide) (?_ : ky_V _ _ _ 13 _ _ _ _)
          exact ih h c p2 x4 x5 x6 hm1 fr e
        · replace e := ky_ifT c3 e
          refine v_aload_n (i := 27) (j := 0) rfl rfl (?_ : ky_V _ _ _ 52 _ _ _ _)
          refine v_aload_n (i := 28) (j := 1) rfl rfl (?_ : ky_V _ _ _ 53 _ _ _ _)
          refine v_iload (i := 29) (j := 4) rfl rfl (?_ : ky_V _ _ _ 55 _ _ _ _)
          refine v_iload_n (i := 30) (j := 2) rfl rfl (?_ : ky_V _ _ _ 56 _ _ _ _)
          obtain ⟨⟨q8, x9⟩, g10, e⟩ := Option.bind_eq_some_iff.mp e
          refine cl_X9_45 (As := [.ref s1, .int p4, .int p2]) rfl (i := 31) rfl (oc_X9 hm1 (ly_X9_c (lt_X9 fr za))) rfl rfl (Nat.le_of_ble_eq_true rfl) (k_X9_isHere N hG hm1 hs1 g10 (fun h7 hmh7 frh7 => ⟨_, rfl, (?_ : ky_V _ _ _ 59 _ [.int x9] _ _)⟩))
          have frh7 := fr.tr frh7
          refine v_if_eq (tgt := 69) (i := 32) rfl (by decide) (fun c11 => ?_) (fun c11 => ?_)
          · replace e := ky_ifT c11 e
            obtain ⟨x12, ex12⟩ : ∃ z : Int32, z = p3 + 1 := ⟨_, rfl⟩
            replace e := ky_letE ex12 e
            refine v_iinc (v := x12) (j := 3) (L' := [(0, .ref a), (1, .ref s1), (2, .int p2), (3, .int x12), (4, .int p4), (5, .int p5)]) [1, 2, 3, 0, 4, 5] (i := 38) rfl rfl (by rw [ex12]; rfl) (Nat.le_of_ble_eq_true rfl) rfl (?_ : ky_V _ _ _ 72 _ _ _ _)
            refine v_iload (i := 39) (j := 5) rfl rfl (?_ : ky_V _ _ _ 74 _ _ _ _)
            refine v_iconst (v := 1) (i := 40) rfl (by decide) (?_ : ky_V _ _ _ 75 _ _ _ _)
            refine v_iadd (i := 41) rfl (?_ : ky_V _ _ _ 76 _ _ _ _)
            refine v_topi (fun x13 ex13 => ?_)
            replace e := ky_letE ex13 e
            refine v_istore (L' := [(0, .ref a), (1, .ref s1), (2, .int p2), (3, .int x12), (4, .int x13), (5, .int p5)]) [1, 2, 3, 4, 0, 5] (i := 42) rfl (Nat.le_of_ble_eq_true rfl) rfl (?_ : ky_V _ _ _ 78 _ _ _ _)
            obtain ⟨x14, ex14⟩ : ∃ z : Int32, z = p5 + 1 := ⟨_, rfl⟩
            replace e := ky_letE ex14 e
            refine v_iinc (v := x14) (j := 5) (L' := [(0, .ref a), (1, .ref s1), (2, .int p2), (3, .int x12), (4, .int x13), (5, .int x14)]) [1, 2, 3, 4, 5, 0] (i := 43) rfl rfl (by rw [ex14]; rfl) (Nat.le_of_ble_eq_true rfl) rfl (?_ : ky_V _ _ _ 81 _ _ _ _)
            refine v_goto (tgt := 13) (i := 44) rfl (by decide) (?_ : ky_V _ _ _ 13 _ _ _ _)
            exact ih h7 q8 p2 x12 x13 x14 hmh7 frh7 e
          · replace e := ky_ifF c11 e
            refine v_aload_n (i := 33) (j := 0) rfl rfl (?_ : ky_V _ _ _ 63 _ _ _ _)
            refine v_iload_n (i := 34) (j := 2) rfl rfl (?_ : ky_V _ _ _ 64 _ _ _ _)
            obtain ⟨⟨q16, x17⟩, g18, e⟩ := Option.bind_eq_some_iff.mp e
            refine cl_X9_22 (As := [.int p2]) rfl (i := 35) rfl (oc_X9 hmh7 (ly_X9_c (lt_X9 frh7 za))) rfl rfl (Nat.le_of_ble_eq_true rfl) (k_X9_step N hG hmh7 g18 (fun h15 hmh15 frh15 => ⟨_, rfl, (?_ : ky_V _ _ _ 67 _ [] _ _)⟩))
            have frh15 := frh7.tr frh15
            refine v_iload_n (i := 36) (j := 3) rfl rfl (?_ : ky_V _ _ _ 68 _ _ _ _)
            refine v_iret (v := p3) (ty := .int) (i := 37) rfl rfl rfl ?_
            obtain ⟨rfl, rfl⟩ := ky_leaf e
            exact hr _ hmh15 frh15
      · replace e := ky_ifF c2 e
        refine v_aload_n (i := 17) (j := 1) rfl rfl (?_ : ky_V _ _ _ 32 _ _ _ _)
        refine v_iload (i := 18) (j := 5) rfl rfl (?_ : ky_V _ _ _ 34 _ _ _ _)
        obtain ⟨z19, e⟩ := ky_chkE e
        obtain ⟨z20, e⟩ := ky_chkE e
        refine cl_X9_41 (As := [.int p5]) rfl (i := 19) rfl (ky_strO hs1) rfl rfl (Nat.le_of_ble_eq_true rfl) (k_J0_charAt_5068e hG hs1 z19 (ky_inb z20) ⟨_, rfl, (?_ : ky_V _ _ _ 37 _ [.int ((st_ch (List.getD b1 (Int32.toNatClampNeg p5) 0)))] _ _)⟩)
        refine v_bipush (v := 32) (i := 20) rfl (by decide) (?_ : ky_V _ _ _ 39 _ _ _ _)
        refine v_icmp_ne (tgt := 78) (i := 21) rfl (by decide) (fun c21 => ?_) (fun c21 => ?_)
        · replace e := ky_ifF c21 e
          obtain ⟨x22, ex22⟩ : ∃ z : Int32, z = p5 + 1 := ⟨_, rfl⟩
          replace e := ky_letE ex22 e
          refine v_iinc (v := x22) (j := 5) (L' := [(0, .ref a), (1, .ref s1), (2, .int p2), (3, .int p3), (4, .int p4), (5, .int x22)]) [1, 2, 3, 4, 5, 0] (i := 43) rfl rfl (by rw [ex22]; rfl) (Nat.le_of_ble_eq_true rfl) rfl (?_ : ky_V _ _ _ 81 _ _ _ _)
          refine v_goto (tgt := 13) (i := 44) rfl (by decide) (?_ : ky_V _ _ _ 13 _ _ _ _)
          exact ih h c p2 p3 p4 x22 hm1 fr e
        · replace e := ky_ifT c21 e
          refine v_iload (i := 22) (j := 5) rfl rfl (?_ : ky_V _ _ _ 44 _ _ _ _)
          refine v_iload (i := 23) (j := 4) rfl rfl (?_ : ky_V _ _ _ 46 _ _ _ _)
          refine v_isub (i := 24) rfl (?_ : ky_V _ _ _ 47 _ _ _ _)
          refine v_iload_n (i := 25) (j := 2) rfl rfl (?_ : ky_V _ _ _ 48 _ _ _ _)
          refine v_icmp_ne (tgt := 69) (i := 26) rfl (by decide) (fun c23 => ?_) (fun c23 => ?_)
          · replace e := ky_ifF c23 e
            obtain ⟨x24, ex24⟩ : ∃ z : Int32, z = p3 + 1 := ⟨_, rfl⟩
            replace e := ky_letE ex24 e
            refine v_iinc (v := x24) (j := 3) (L' := [(0, .ref a), (1, .ref s1), (2, .int p2), (3, .int x24), (4, .int p4), (5, .int p5)]) [1, 2, 3, 0, 4, 5] (i := 38) rfl rfl (by rw [ex24]; rfl) (Nat.le_of_ble_eq_true rfl) rfl (?_ : ky_V _ _ _ 72 _ _ _ _)
            refine v_iload (i := 39) (j := 5) rfl rfl (?_ : ky_V _ _ _ 74 _ _ _ _)
            refine v_iconst (v := 1) (i := 40) rfl (by decide) (?_ : ky_V _ _ _ 75 _ _ _ _)
            refine v_iadd (i := 41) rfl (?_ : ky_V _ _ _ 76 _ _ _ _)
            refine v_topi (fun x25 ex25 => ?_)
            replace e := ky_letE ex25 e
            refine v_istore (L' := [(0, .ref a), (1, .ref s1), (2, .int p2), (3, .int x24), (4, .int x25), (5, .int p5)]) [1, 2, 3, 4, 0, 5] (i := 42) rfl (Nat.le_of_ble_eq_true rfl) rfl (?_ : ky_V _ _ _ 78 _ _ _ _)
            obtain ⟨x26, ex26⟩ : ∃ z : Int32, z = p5 + 1 := ⟨_, rfl⟩
            replace e := ky_letE ex26 e
            refine v_iinc (v := x26) (j := 5) (L' := [(0, .ref a), (1, .ref s1), (2, .int p2), (3, .int x24), (4, .int x25), (5, .int x26)]) [1, 2, 3, 4, 5, 0] (i := 43) rfl rfl (by rw [ex26]; rfl) (Nat.le_of_ble_eq_true rfl) rfl (?_ : ky_V _ _ _ 81 _ _ _ _)
            refine v_goto (tgt := 13) (i := 44) rfl (by decide) (?_ : ky_V _ _ _ 13 _ _ _ _)
            exact ih h c p2 x24 x25 x26 hm1 fr e
          · replace e := ky_ifT c23 e
            refine v_aload_n (i := 27) (j := 0) rfl rfl (?_ : ky_V _ _ _ 52 _ _ _ _)
            refine v_aload_n (i := 28) (j := 1) rfl rfl (?_ : ky_V _ _ _ 53 _ _ _ _)
            refine v_iload (i := 29) (j := 4) rfl rfl (?_ : ky_V _ _ _ 55 _ _ _ _)
            refine v_iload_n (i := 30) (j := 2) rfl rfl (?_ : ky_V _ _ _ 56 _ _ _ _)
            obtain ⟨⟨q28, x29⟩, g30, e⟩ := Option.bind_eq_some_iff.mp e
            refine cl_X9_45 (As := [.ref s1, .int p4, .int p2]) rfl (i := 31) rfl (oc_X9 hm1 (ly_X9_c (lt_X9 fr za))) rfl rfl (Nat.le_of_ble_eq_true rfl) (k_X9_isHere N hG hm1 hs1 g30 (fun h27 hmh27 frh27 => ⟨_, rfl, (?_ : ky_V _ _ _ 59 _ [.int x29] _ _)⟩))
            have frh27 := fr.tr frh27
            refine v_if_eq (tgt := 69) (i := 32) rfl (by decide) (fun c31 => ?_) (fun c31 => ?_)
            · replace e := ky_ifT c31 e
              obtain ⟨x32, ex32⟩ : ∃ z : Int32, z = p3 + 1 := ⟨_, rfl⟩
              replace e := ky_letE ex32 e
              refine v_iinc (v := x32) (j := 3) (L' := [(0, .ref a), (1, .ref s1), (2, .int p2), (3, .int x32), (4, .int p4), (5, .int p5)]) [1, 2, 3, 0, 4, 5] (i := 38) rfl rfl (by rw [ex32]; rfl) (Nat.le_of_ble_eq_true rfl) rfl (?_ : ky_V _ _ _ 72 _ _ _ _)
              refine v_iload (i := 39) (j := 5) rfl rfl (?_ : ky_V _ _ _ 74 _ _ _ _)
              refine v_iconst (v := 1) (i := 40) rfl (by decide) (?_ : ky_V _ _ _ 75 _ _ _ _)
              refine v_iadd (i := 41) rfl (?_ : ky_V _ _ _ 76 _ _ _ _)
              refine v_topi (fun x33 ex33 => ?_)
              replace e := ky_letE ex33 e
              refine v_istore (L' := [(0, .ref a), (1, .ref s1), (2, .int p2), (3, .int x32), (4, .int x33), (5, .int p5)]) [1, 2, 3, 4, 0, 5] (i := 42) rfl (Nat.le_of_ble_eq_true rfl) rfl (?_ : ky_V _ _ _ 78 _ _ _ _)
              obtain ⟨x34, ex34⟩ : ∃ z : Int32, z = p5 + 1 := ⟨_, rfl⟩
              replace e := ky_letE ex34 e
              refine v_iinc (v := x34) (j := 5) (L' := [(0, .ref a), (1, .ref s1), (2, .int p2), (3, .int x32), (4, .int x33), (5, .int x34)]) [1, 2, 3, 4, 5, 0] (i := 43) rfl rfl (by rw [ex34]; rfl) (Nat.le_of_ble_eq_true rfl) rfl (?_ : ky_V _ _ _ 81 _ _ _ _)
              refine v_goto (tgt := 13) (i := 44) rfl (by decide) (?_ : ky_V _ _ _ 13 _ _ _ _)
              exact ih h27 q28 p2 x32 x33 x34 hmh27 frh27 e
            · replace e := ky_ifF c31 e
              refine v_aload_n (i := 33) (j := 0) rfl rfl (?_ : ky_V _ _ _ 63 _ _ _ _)
              refine v_iload_n (i := 34) (j := 2) rfl rfl (?_ : ky_V _ _ _ 64 _ _ _ _)
              obtain ⟨⟨q36, x37⟩, g38, e⟩ := Option.bind_eq_some_iff.mp e
              refine cl_X9_22 (As := [.int p2]) rfl (i := 35) rfl (oc_X9 hmh27 (ly_X9_c (lt_X9 frh27 za))) rfl rfl (Nat.le_of_ble_eq_true rfl) (k_X9_step N hG hmh27 g38 (fun h35 hmh35 frh35 => ⟨_, rfl, (?_ : ky_V _ _ _ 67 _ [] _ _)⟩))
              have frh35 := frh27.tr frh35
              refine v_iload_n (i := 36) (j := 3) rfl rfl (?_ : ky_V _ _ _ 68 _ _ _ _)
              refine v_iret (v := p3) (ty := .int) (i := 37) rfl rfl rfl ?_
              obtain ⟨rfl, rfl⟩ := ky_leaf e
              exact hr _ hmh35 frh35

def x9_takeOneOf (N : Nat)  (s : sk_S) (a : Nat) (b1 : List Int32) : Option (sk_S × Int32) := (if lay_X9 (sk_K s) (sk_r s) a = true then ((x9_letters N s a).bind (fun zz => (fun q2 x3 => (x9_takeOneOf_L13 N a b1 (fun q6 x7 x8 x9 x10 => (some (q6, (-1)))) N q2 x3 0 0 0)) zz.1 zz.2)) else none)
set_option maxRecDepth 20000 in
set_option maxHeartbeats 4000000 in
theorem k_X9_takeOneOf {G : ky_GW} {d : Nat} {h : ky_HP} {Q : ky_RS → ky_HP → Prop} {s s9 : sk_S} {r9 : Int32} {a : Nat} {b1 : List Int32} {s1 : Nat} (N : Nat) (hG : ky_OK G)   (hm : sk_hp G s h) (hs1 : ky_Str G s1 b1) (e : x9_takeOneOf N  s a b1 = some (s9, r9)) (hr : ∀ h1, sk_hp G s9 h1 → sk_fr none s h s9 h1 → Q (.inl (some (.int r9))) h1) : ky_Call G (d + 5) M_X9_takeOneOf [.ref a, .ref s1] h Q := by
  refine ky_ofV (by decide +kernel) rfl ok_X9_takeOneOf (Nat.le_of_ble_eq_true rfl) ?_
  have fr : sk_fr none s h s h := sk_fr.rf
  unfold x9_takeOneOf at e
  refine (?_ : ky_V _ _ _ 0 [(0, .ref a), (1, .ref s1)] [] _ _)
  obtain ⟨za, e⟩ := ky_chkE e
  refine v_aload_n (i := 0) (j := 0) rfl rfl (?_ : ky_V _ _ _ 1 _ _ _ _)
  obtain ⟨⟨q2, x3⟩, g4, e⟩ := Option.bind_eq_some_iff.mp e
  refine cl_X9_33 (As := []) rfl (i := 1) rfl (oc_X9 hm (ly_X9_c za)) rfl rfl (Nat.le_of_ble_eq_true rfl) (k_X9_letters N hG hm g4 (fun h1 hmh1 frh1 => ⟨_, rfl, (?_ : ky_V _ _ _ 4 _ [.int x3] _ _)⟩))
  have frh1 := fr.tr frh1
  refine v_istore_n (L' := [(0, .ref a), (1, .ref s1), (2, .int x3)]) [1, 2, 0] (i := 2) rfl (Nat.le_of_ble_eq_true rfl) rfl (?_ : ky_V _ _ _ 5 _ _ _ _)
  refine v_iconst (v := 0) (i := 3) rfl (by decide) (?_ : ky_V _ _ _ 6 _ _ _ _)
  refine v_istore_n (L' := [(0, .ref a), (1, .ref s1), (2, .int x3), (3, .int 0)]) [1, 2, 3, 0] (i := 4) rfl (Nat.le_of_ble_eq_true rfl) rfl (?_ : ky_V _ _ _ 7 _ _ _ _)
  refine v_iconst (v := 0) (i := 5) rfl (by decide) (?_ : ky_V _ _ _ 8 _ _ _ _)
  refine v_istore (L' := [(0, .ref a), (1, .ref s1), (2, .int x3), (3, .int 0), (4, .int 0)]) [1, 2, 3, 4, 0] (i := 6) rfl (Nat.le_of_ble_eq_true rfl) rfl (?_ : ky_V _ _ _ 10 _ _ _ _)
  refine v_iconst (v := 0) (i := 7) rfl (by decide) (?_ : ky_V _ _ _ 11 _ _ _ _)
  refine v_istore (L' := [(0, .ref a), (1, .ref s1), (2, .int x3), (3, .int 0), (4, .int 0), (5, .int 0)]) [1, 2, 3, 4, 5, 0] (i := 8) rfl (Nat.le_of_ble_eq_true rfl) rfl (?_ : ky_V _ _ _ 13 _ _ _ _)
  refine lv_X9_takeOneOf_13 N hG a b1 hs1 za hm _ hr (fun h5 q6 x7 x8 x9 x10 hmh5 frh5 e => ?_) N h1 q2 x3 0 0 0 hmh1 frh1 e
  refine v_iconst (v := (-1)) (i := 45) rfl (by decide) (?_ : ky_V _ _ _ 85 _ _ _ _)
  refine v_iret (v := (-1)) (ty := .int) (i := 46) rfl rfl rfl ?_
  obtain ⟨rfl, rfl⟩ := ky_leaf e
  exact hr _ hmh5 frh5

def x9_takeWord (N : Nat)  (s : sk_S) (a : Nat) (b1 : List Int32) : Option (sk_S × Int32) := (if lay_X9 (sk_K s) (sk_r s) a = true then ((x9_takeOneOf N s a b1).bind (fun zz => (fun q2 x3 => (if x3 = 0 then (some (q2, 1)) else (some (q2, 0)))) zz.1 zz.2)) else none)
set_option maxRecDepth 20000 in
set_option maxHeartbeats 4000000 in
theorem k_X9_takeWord {G : ky_GW} {d : Nat} {h : ky_HP} {Q : ky_RS → ky_HP → Prop} {s s9 : sk_S} {r9 : Int32} {a : Nat} {b1 : List Int32} {s1 : Nat} (N : Nat) (hG : ky_OK G)   (hm : sk_hp G s h) (hs1 : ky_Str G s1 b1) (e : x9_takeWord N  s a b1 = some (s9, r9)) (hr : ∀ h1, sk_hp G s9 h1 → sk_fr none s h s9 h1 → Q (.inl (some (.int r9))) h1) : ky_Call G (d + 6) M_X9_takeWord [.ref a, .ref s1] h Q := by
  refine ky_ofV (by decide +kernel) rfl ok_X9_takeWord (Nat.le_of_ble_eq_true rfl) ?_
  have fr : sk_fr none s h s h := sk_fr.rf
  unfold x9_takeWord at e
  refine (?_ : ky_V _ _ _ 0 [(0, .ref a), (1, .ref s1)] [] _ _)
  obtain ⟨za, e⟩ := ky_chkE e
  refine v_aload_n (i := 0) (j := 0) rfl rfl (?_ : ky_V _ _ _ 1 _ _ _ _)
  refine v_aload_n (i := 1) (j := 1) rfl rfl (?_ : ky_V _ _ _ 2 _ _ _ _)
  obtain ⟨⟨q2, x3⟩, g4, e⟩ := Option.bind_eq_some_iff.mp e
  refine cl_X9_29 (As := [.ref s1]) rfl (i := 2) rfl (oc_X9 hm (ly_X9_c za)) rfl rfl (Nat.le_of_ble_eq_true rfl) (k_X9_takeOneOf N hG hm hs1 g4 (fun h1 hmh1 frh1 => ⟨_, rfl, (?_ : ky_V _ _ _ 5 _ [.int x3] _ _)⟩))
  have frh1 := fr.tr frh1
  refine v_if_ne (tgt := 12) (i := 3) rfl (by decide) (fun c5 => ?_) (fun c5 => ?_)
  · replace e := ky_ifF c5 e
    refine v_iconst (v := 0) (i := 6) rfl (by decide) (?_ : ky_V _ _ _ 13 _ _ _ _)
    refine v_iret (v := 0) (ty := .boolean) (i := 7) rfl rfl (by decide) ?_
    obtain ⟨rfl, rfl⟩ := ky_leaf e
    exact hr _ hmh1 frh1
  · replace e := ky_ifT c5 e
    refine v_iconst (v := 1) (i := 4) rfl (by decide) (?_ : ky_V _ _ _ 9 _ _ _ _)
    refine v_goto (tgt := 13) (i := 5) rfl (by decide) (?_ : ky_V _ _ _ 13 _ _ _ _)
    refine v_iret (v := 1) (ty := .boolean) (i := 7) rfl rfl (by decide) ?_
    obtain ⟨rfl, rfl⟩ := ky_leaf e
    exact hr _ hmh1 frh1

def x0_readRest (N : Nat)  (s : sk_S) (a : Nat) (a1_ : Nat) (p2 : Int32) : Option (sk_S × Int32) := (if lay_X0 (sk_K s) (sk_r s) a = true then (if lay_X9 (sk_K s) (sk_r s) a1_ = true then (if p2 = 0 then ((x0_take N s a a1_ 0 9).bind (fun zz => (fun q3 x4 => (if x4 = 0 then (some (q3, 0)) else ((x0_take N q3 a a1_ 0 9).bind (fun zz => (fun q8 x9 => (if x9 = 0 then (some (q8, 0)) else (some (q8, 1)))) zz.1 zz.2)))) zz.1 zz.2)) else (if p2 = 1 then ((x0_take N s a a1_ 0 5).bind (fun zz => (fun q14 x15 => (if (x15 = 0 ∨ x15 = 1) then (some (q14, x15)) else none)) zz.1 zz.2)) else (if p2 = 2 then ((x0_take N s a a1_ 0 9).bind (fun zz => (fun q20 x21 => (if (x21 = 0 ∨ x21 = 1) then (some (q20, x21)) else none)) zz.1 zz.2)) else (if p2 = 3 then ((x0_take N s a a1_ 0 9).bind (fun zz => (fun q26 x27 => (if (x27 = 0 ∨ x27 = 1) then (some (q26, x27)) else none)) zz.1 zz.2)) else (if p2 = 4 then ((x0_take N s a a1_ 0 999).bind (fun zz => (fun q32 x33 => (if (x33 = 0 ∨ x33 = 1) then (some (q32, x33)) else none)) zz.1 zz.2)) else (if p2 = 5 then ((x0_take N s a a1_ 0 100).bind (fun zz => (fun q38 x39 => (if (x39 = 0 ∨ x39 = 1) then (some (q38, x39)) else none)) zz.1 zz.2)) else (if p2 = 6 then ((x0_take N s a a1_ 0 6).bind (fun zz => (fun q44 x45 => (if x45 = 0 then (some (q44, 0)) else ((x9_takeWord N q44 a1_ ([117, 112] : List Int32)).bind (fun zz => (fun q50 x51 => (if x51 = 0 then (some (q50, 0)) else ((x0_take N q50 a a1_ 0 9).bind (fun zz => (fun q55 x56 => (if x56 = 0 then (some (q55, 0)) else ((x9_takeWord N q55 a1_ ([100, 111, 119, 110] : List Int32)).bind (fun zz => (fun q61 x62 => (if x62 = 0 then (some (q61, 0)) else ((x0_take N q61 a a1_ 0 9).bind (fun zz => (fun q66 x67 => (if x67 = 0 then (some (q66, 0)) else ((x9_takeWord N q66 a1_ ([115, 116, 105, 114, 115] : List Int32)).bind (fun zz => (fun q72 x73 => (if x73 = 0 then (some (q72, 0)) else ((x0_take N q72 a a1_ 0 5).bind (fun zz => (fun q77 x78 => (if x78 = 0 then (some (q77, 0)) else ((x9_takeWord N q77 a1_ ([116, 97, 107, 101, 115] : List Int32)).bind (fun zz => (fun q83 x84 => (if x84 = 0 then (some (q83, 0)) else ((x0_take N q83 a a1_ 1 30).bind (fun zz => (fun q88 x89 => (if x89 = 0 then (some (q88, 0)) else (some (q88, 1)))) zz.1 zz.2)))) zz.1 zz.2)))) zz.1 zz.2)))) zz.1 zz.2)))) zz.1 zz.2)))) zz.1 zz.2)))) zz.1 zz.2)))) zz.1 zz.2)))) zz.1 zz.2)) else (if p2 = 7 then ((x0_takePlace N s a a1_).bind (fun zz => (fun q94 x95 => (if x95 = 0 then (some (q94, 0)) else ((x0_take N q94 a a1_ 0 9).bind (fun zz => (fun q99 x100 => (if x100 = 0 then (some (q99, 0)) else (some (q99, 1)))) zz.1 zz.2)))) zz.1 zz.2)) else (if p2 = 8 then ((x0_takePlace N s a a1_).bind (fun zz => (fun q105 x106 => (if (x106 = 0 ∨ x106 = 1) then (some (q105, x106)) else none)) zz.1 zz.2)) else (if p2 = 9 then ((x0_takePlace N s a a1_).bind (fun zz => (fun q111 x112 => (if (x112 = 0 ∨ x112 = 1) then (some (q111, x112)) else none)) zz.1 zz.2)) else (if p2 = 10 then ((x0_takePlace N s a a1_).bind (fun zz => (fun q117 x118 => (if (x118 = 0 ∨ x118 = 1) then (some (q117, x118)) else none)) zz.1 zz.2)) else (if p2 = 11 then ((x0_take N s a a1_ 0 9).bind (fun zz => (fun q123 x124 => (if (x124 = 0 ∨ x124 = 1) then (some (q123, x124)) else none)) zz.1 zz.2)) else (if p2 = 12 then ((x0_take N s a a1_ 1 9).bind (fun zz => (fun q129 x130 => (if x130 = 0 then (some (q129, 0)) else ((x9_takeWord N q129 a1_ ([97, 116] : List Int32)).bind (fun zz => (fun q135 x136 => (if x136 = 0 then (some (q135, 0)) else ((x0_takePlace N q135 a a1_).bind (fun zz => (fun q140 x141 => (if x141 = 0 then (some (q140, 0)) else (some (q140, 1)))) zz.1 zz.2)))) zz.1 zz.2)))) zz.1 zz.2)) else ((x0_takePlace N s a a1_).bind (fun zz => (fun q145 x146 => (if (x146 = 0 ∨ x146 = 1) then (some (q145, x146)) else none)) zz.1 zz.2))))))))))))))) else none) else none)
set_option maxRecDepth 20000 in
set_option maxHeartbeats 4000000 in
theorem k_X0_readRest {G : ky_GW} {d : Nat} {h : ky_HP} {Q : ky_RS → ky_HP → Prop} {s s9 : sk_S} {r9 : Int32} {a : Nat} {a1_ : Nat} {p2 : Int32} (N : Nat) (hG : ky_OK G)   (hm : sk_hp G s h)  (e : x0_readRest N  s a a1_ p2 = some (s9, r9)) (hr : ∀ h1, sk_hp G s9 h1 → sk_fr none s h s9 h1 → Q (.inl (some (.int r9))) h1) : ky_Call G (d + 7) M_X0_readRest [.ref a, .ref a1_, .int p2] h Q := by
  refine ky_ofV (by decide +kernel) rfl ok_X0_readRest (Nat.le_of_ble_eq_true rfl) ?_
  have fr : sk_fr none s h s h := sk_fr.rf
  unfold x0_readRest at e
  refine (?_ : ky_V _ _ _ 0 [(0, .ref a), (1, .ref a1_), (2, .int p2)] [] _ _)
  obtain ⟨za, e⟩ := ky_chkE e
  obtain ⟨za1_, e⟩ := ky_chkE e
  refine v_iload_n (i := 0) (j := 2) rfl rfl (?_ : ky_V _ _ _ 1 _ _ _ _)
  rcases Classical.em (p2 = 0) with c1 | c1
  · replace e := ky_ifT c1 e
    refine v_tableIn (off := 67) (tgt := 68) (i := 1) rfl (by rw [c1]; decide) (by rw [c1]; decide) (by rw [c1]; rfl) (by decide) ?_
    refine v_aload_n (i := 2) (j := 0) rfl rfl (?_ : ky_V _ _ _ 69 _ _ _ _)
    refine v_aload_n (i := 3) (j := 1) rfl rfl (?_ : ky_V _ _ _ 70 _ _ _ _)
    refine v_iconst (v := 0) (i := 4) rfl (by decide) (?_ : ky_V _ _ _ 71 _ _ _ _)
    refine v_bipush (v := 9) (i := 5) rfl (by decide) (?_ : ky_V _ _ _ 73 _ _ _ _)
    obtain ⟨⟨q3, x4⟩, g5, e⟩ := Option.bind_eq_some_iff.mp e
    refine cl_X0_60 (As := [.ref a1_, .int 0, .int 9]) rfl (i := 6) rfl (oc_X0 hm (ly_X0_c za)) rfl rfl (Nat.le_of_ble_eq_true rfl) (k_X0_take N hG hm g5 (fun h2 hmh2 frh2 => ⟨_, rfl, (?_ : ky_V _ _ _ 76 _ [.int x4] _ _)⟩))
    have frh2 := fr.tr frh2
    refine v_if_eq (tgt := 94) (i := 7) rfl (by decide) (fun c6 => ?_) (fun c6 => ?_)
    · replace e := ky_ifT c6 e
      refine v_iconst (v := 0) (i := 16) rfl (by decide) (?_ : ky_V _ _ _ 95 _ _ _ _)
      refine v_iret (v := 0) (ty := .boolean) (i := 17) rfl rfl (by decide) ?_
      obtain ⟨rfl, rfl⟩ := ky_leaf e
      exact hr _ hmh2 frh2
    · replace e := ky_ifF c6 e
      refine v_aload_n (i := 8) (j := 0) rfl rfl (?_ : ky_V _ _ _ 80 _ _ _ _)
      refine v_aload_n (i := 9) (j := 1) rfl rfl (?_ : ky_V _ _ _ 81 _ _ _ _)
      refine v_iconst (v := 0) (i := 10) rfl (by decide) (?_ : ky_V _ _ _ 82 _ _ _ _)
      refine v_bipush (v := 9) (i := 11) rfl (by decide) (?_ : ky_V _ _ _ 84 _ _ _ _)
      obtain ⟨⟨q8, x9⟩, g10, e⟩ := Option.bind_eq_some_iff.mp e
      refine cl_X0_60 (As := [.ref a1_, .int 0, .int 9]) rfl (i := 12) rfl (oc_X0 hmh2 (ly_X0_c (lt_X0 frh2 za))) rfl rfl (Nat.le_of_ble_eq_true rfl) (k_X0_take N hG hmh2 g10 (fun h7 hmh7 frh7 => ⟨_, rfl, (?_ : ky_V _ _ _ 87 _ [.int x9] _ _)⟩))
      have frh7 := frh2.tr frh7
      refine v_if_eq (tgt := 94) (i := 13) rfl (by decide) (fun c11 => ?_) (fun c11 => ?_)
      · replace e := ky_ifT c11 e
        refine v_iconst (v := 0) (i := 16) rfl (by decide) (?_ : ky_V _ _ _ 95 _ _ _ _)
        refine v_iret (v := 0) (ty := .boolean) (i := 17) rfl rfl (by decide) ?_
        obtain ⟨rfl, rfl⟩ := ky_leaf e
        exact hr _ hmh7 frh7
      · replace e := ky_ifF c11 e
        refine v_iconst (v := 1) (i := 14) rfl (by decide) (?_ : ky_V _ _ _ 91 _ _ _ _)
        refine v_goto (tgt := 95) (i := 15) rfl (by decide) (?_ : ky_V _ _ _ 95 _ _ _ _)
        refine v_iret (v := 1) (ty := .boolean) (i := 17) rfl rfl (by decide) ?_
        obtain ⟨rfl, rfl⟩ := ky_leaf e
        exact hr _ hmh7 frh7
  · replace e := ky_ifF c1 e
    rcases Classical.em (p2 = 1) with c12 | c12
    · replace e := ky_ifT c12 e
      refine v_tableIn (off := 95) (tgt := 96) (i := 1) rfl (by rw [c12]; decide) (by rw [c12]; decide) (by rw [c12]; rfl) (by decide) ?_
      refine v_aload_n (i := 18) (j := 0) rfl rfl (?_ : ky_V _ _ _ 97 _ _ _ _)
      refine v_aload_n (i := 19) (j := 1) rfl rfl (?_ : ky_V _ _ _ 98 _ _ _ _)
      refine v_iconst (v := 0) (i := 20) rfl (by decide) (?_ : ky_V _ _ _ 99 _ _ _ _)
      refine v_iconst (v := 5) (i := 21) rfl (by decide) (?_ : ky_V _ _ _ 100 _ _ _ _)
      obtain ⟨⟨q14, x15⟩, g16, e⟩ := Option.bind_eq_some_iff.mp e
      refine cl_X0_60 (As := [.ref a1_, .int 0, .int 5]) rfl (i := 22) rfl (oc_X0 hm (ly_X0_c za)) rfl rfl (Nat.le_of_ble_eq_true rfl) (k_X0_take N hG hm g16 (fun h13 hmh13 frh13 => ⟨_, rfl, (?_ : ky_V _ _ _ 103 _ [.int x15] _ _)⟩))
      have frh13 := fr.tr frh13
      obtain ⟨z17, e⟩ := ky_chkE e
      refine v_iret (v := x15) (ty := .boolean) (i := 23) rfl rfl (ky_nb z17) ?_
      obtain ⟨rfl, rfl⟩ := ky_leaf e
      exact hr _ hmh13 frh13
    · replace e := ky_ifF c12 e
      rcases Classical.em (p2 = 2) with c18 | c18
      · replace e := ky_ifT c18 e
        refine v_tableIn (off := 103) (tgt := 104) (i := 1) rfl (by rw [c18]; decide) (by rw [c18]; decide) (by rw [c18]; rfl) (by decide) ?_
        refine v_aload_n (i := 24) (j := 0) rfl rfl (?_ : ky_V _ _ _ 105 _ _ _ _)
        refine v_aload_n (i := 25) (j := 1) rfl rfl (?_ : ky_V _ _ _ 106 _ _ _ _)
        refine v_iconst (v := 0) (i := 26) rfl (by decide) (?_ : ky_V _ _ _ 107 _ _ _ _)
        refine v_bipush (v := 9) (i := 27) rfl (by decide) (?_ : ky_V _ _ _ 109 _ _ _ _)
        obtain ⟨⟨q20, x21⟩, g22, e⟩ := Option.bind_eq_some_iff.mp e
        refine cl_X0_60 (As := [.ref a1_, .int 0, .int 9]) rfl (i := 28) rfl (oc_X0 hm (ly_X0_c za)) rfl rfl (Nat.le_of_ble_eq_true rfl) (k_X0_take N hG hm g22 (fun h19 hmh19 frh19 => ⟨_, rfl, (?_ : ky_V _ _ _ 112 _ [.int x21] _ _)⟩))
        have frh19 := fr.tr frh19
        obtain ⟨z23, e⟩ := ky_chkE e
        refine v_iret (v := x21) (ty := .boolean) (i := 29) rfl rfl (ky_nb z23) ?_
        obtain ⟨rfl, rfl⟩ := ky_leaf e
        exact hr _ hmh19 frh19
      · replace e := ky_ifF c18 e
        rcases Classical.em (p2 = 3) with c24 | c24
        · replace e := ky_ifT c24 e
          refine v_tableIn (off := 103) (tgt := 104) (i := 1) rfl (by rw [c24]; decide) (by rw [c24]; decide) (by rw [c24]; rfl) (by decide) ?_
          refine v_aload_n (i := 24) (j := 0) rfl rfl (?_ : ky_V _ _ _ 105 _ _ _ _)
          refine v_aload_n (i := 25) (j := 1) rfl rfl (?_ : ky_V _ _ _ 106 _ _ _ _)
          refine v_iconst (v := 0) (i := 26) rfl (by decide) (?_ : ky_V _ _ _ 107 _ _ _ _)
          refine v_bipush (v := 9) (i := 27) rfl (by decide) (?_ : ky_V _ _ _ 109 _ _ _ _)
          obtain ⟨⟨q26, x27⟩, g28, e⟩ := Option.bind_eq_some_iff.mp e
          refine cl_X0_60 (As := [.ref a1_, .int 0, .int 9]) rfl (i := 28) rfl (oc_X0 hm (ly_X0_c za)) rfl rfl (Nat.le_of_ble_eq_true rfl) (k_X0_take N hG hm g28 (fun h25 hmh25 frh25 => ⟨_, rfl, (?_ : ky_V _ _ _ 112 _ [.int x27] _ _)⟩))
          have frh25 := fr.tr frh25
          obtain ⟨z29, e⟩ := ky_chkE e
          refine v_iret (v := x27) (ty := .boolean) (i := 29) rfl rfl (ky_nb z29) ?_
          obtain ⟨rfl, rfl⟩ := ky_leaf e
          exact hr _ hmh25 frh25
        · replace e := ky_ifF c24 e
          rcases Classical.em (p2 = 4) with c30 | c30
          · replace e := ky_ifT c30 e
            refine v_tableIn (off := 112) (tgt := 113) (i := 1) rfl (by rw [c30]; decide) (by rw [c30]; decide) (by rw [c30]; rfl) (by decide) ?_
            refine v_aload_n (i := 30) (j := 0) rfl rfl (?_ : ky_V _ _ _ 114 _ _ _ _)
            refine v_aload_n (i := 31) (j := 1) rfl rfl (?_ : ky_V _ _ _ 115 _ _ _ _)
            refine v_iconst (v := 0) (i := 32) rfl (by decide) (?_ : ky_V _ _ _ 116 _ _ _ _)
            refine v_sipush (v := 999) (i := 33) rfl (by decide) (?_ : ky_V _ _ _ 119 _ _ _ _)
            obtain ⟨⟨q32, x33⟩, g34, e⟩ := Option.bind_eq_some_iff.mp e
            refine cl_X0_60 (As := [.ref a1_, .int 0, .int 999]) rfl (i := 34) rfl (oc_X0 hm (ly_X0_c za)) rfl rfl (Nat.le_of_ble_eq_true rfl) (k_X0_take N hG hm g34 (fun h31 hmh31 frh31 => ⟨_, rfl, (?_ : ky_V _ _ _ 122 _ [.int x33] _ _)⟩))
            have frh31 := fr.tr frh31
            obtain ⟨z35, e⟩ := ky_chkE e
            refine v_iret (v := x33) (ty := .boolean) (i := 35) rfl rfl (ky_nb z35) ?_
            obtain ⟨rfl, rfl⟩ := ky_leaf e
            exact hr _ hmh31 frh31
          · replace e := ky_ifF c30 e
            rcases Classical.em (p2 = 5) with c36 | c36
            · replace e := ky_ifT c36 e
              refine v_tableIn (off := 218) (tgt := 219) (i := 1) rfl (by rw [c36]; decide) (by rw [c36]; decide) (by rw [c36]; rfl) (by decide) ?_
              refine v_aload_n (i := 86) (j := 0) rfl rfl (?_ : ky_V _ _ _ 220 _ _ _ _)
              refine v_aload_n (i := 87) (j := 1) rfl rfl (?_ : ky_V _ _ _ 221 _ _ _ _)
              refine v_iconst (v := 0) (i := 88) rfl (by decide) (?_ : ky_V _ _ _ 222 _ _ _ _)
              refine v_bipush (v := 100) (i := 89) rfl (by decide) (?_ : ky_V _ _ _ 224 _ _ _ _)
              obtain ⟨⟨q38, x39⟩, g40, e⟩ := Option.bind_eq_some_iff.mp e
              refine cl_X0_60 (As := [.ref a1_, .int 0, .int 100]) rfl (i := 90) rfl (oc_X0 hm (ly_X0_c za)) rfl rfl (Nat.le_of_ble_eq_true rfl) (k_X0_take N hG hm g40 (fun h37 hmh37 frh37 => ⟨_, rfl, (?_ : ky_V _ _ _ 227 _ [.int x39] _ _)⟩))
              have frh37 := fr.tr frh37
              obtain ⟨z41, e⟩ := ky_chkE e
              refine v_iret (v := x39) (ty := .boolean) (i := 91) rfl rfl (ky_nb z41) ?_
              obtain ⟨rfl, rfl⟩ := ky_leaf e
              exact hr _ hmh37 frh37
            · replace e := ky_ifF c36 e
              rcases Classical.em (p2 = 6) with c42 | c42
              · replace e := ky_ifT c42 e
                refine v_tableIn (off := 122) (tgt := 123) (i := 1) rfl (by rw [c42]; decide) (by rw [c42]; decide) (by rw [c42]; rfl) (by decide) ?_
                refine v_aload_n (i := 36) (j := 0) rfl rfl (?_ : ky_V _ _ _ 124 _ _ _ _)
                refine v_aload_n (i := 37) (j := 1) rfl rfl (?_ : ky_V _ _ _ 125 _ _ _ _)
                refine v_iconst (v := 0) (i := 38) rfl (by decide) (?_ : ky_V _ _ _ 126 _ _ _ _)
                refine v_bipush (v := 6) (i := 39) rfl (by decide) (?_ : ky_V _ _ _ 128 _ _ _ _)
                obtain ⟨⟨q44, x45⟩, g46, e⟩ := Option.bind_eq_some_iff.mp e
                refine cl_X0_60 (As := [.ref a1_, .int 0, .int 6]) rfl (i := 40) rfl (oc_X0 hm (ly_X0_c za)) rfl rfl (Nat.le_of_ble_eq_true rfl) (k_X0_take N hG hm g46 (fun h43 hmh43 frh43 => ⟨_, rfl, (?_ : ky_V _ _ _ 131 _ [.int x45] _ _)⟩))
                have frh43 := fr.tr frh43
                refine v_if_eq (tgt := 217) (i := 41) rfl (by decide) (fun c47 => ?_) (fun c47 => ?_)
                · replace e := ky_ifT c47 e
                  refine v_iconst (v := 0) (i := 84) rfl (by decide) (?_ : ky_V _ _ _ 218 _ _ _ _)
                  refine v_iret (v := 0) (ty := .boolean) (i := 85) rfl rfl (by decide) ?_
                  obtain ⟨rfl, rfl⟩ := ky_leaf e
                  exact hr _ hmh43 frh43
                · replace e := ky_ifF c47 e
                  refine v_aload_n (i := 42) (j := 1) rfl rfl (?_ : ky_V _ _ _ 135 _ _ _ _)
                  obtain ⟨s48, hvs48, hss48⟩ := sg_X0_64 hG
                  refine v_ldcS (i := 43) hvs48 rfl (?_ : ky_V _ _ _ 137 _ _ _ _)
                  obtain ⟨⟨q50, x51⟩, g52, e⟩ := Option.bind_eq_some_iff.mp e
                  refine cl_X0_66 (As := [.ref s48]) rfl (i := 44) rfl (oc_X9 hmh43 (ly_X9_c (lt_X9 frh43 za1_))) rfl rfl (Nat.le_of_ble_eq_true rfl) (k_X9_takeWord N hG hmh43 hss48 g52 (fun h49 hmh49 frh49 => ⟨_, rfl, (?_ : ky_V _ _ _ 140 _ [.int x51] _ _)⟩))
                  have frh49 := frh43.tr frh49
                  refine v_if_eq (tgt := 217) (i := 45) rfl (by decide) (fun c53 => ?_) (fun c53 => ?_)
                  · replace e := ky_ifT c53 e
                    refine v_iconst (v := 0) (i := 84) rfl (by decide) (?_ : ky_V _ _ _ 218 _ _ _ _)
                    refine v_iret (v := 0) (ty := .boolean) (i := 85) rfl rfl (by decide) ?_
                    obtain ⟨rfl, rfl⟩ := ky_leaf e
                    exact hr _ hmh49 frh49
                  · replace e := ky_ifF c53 e
                    refine v_aload_n (i := 46) (j := 0) rfl rfl (?_ : ky_V _ _ _ 144 _ _ _ _)
                    refine v_aload_n (i := 47) (j := 1) rfl rfl (?_ : ky_V _ _ _ 145 _ _ _ _)
                    refine v_iconst (v := 0) (i := 48) rfl (by decide) (?_ : ky_V _ _ _ 146 _ _ _ _)
                    refine v_bipush (v := 9) (i := 49) rfl (by decide) (?_ : ky_V _ _ _ 148 _ _ _ _)
                    obtain ⟨⟨q55, x56⟩, g57, e⟩ := Option.bind_eq_some_iff.mp e
                    refine cl_X0_60 (As := [.ref a1_, .int 0, .int 9]) rfl (i := 50) rfl (oc_X0 hmh49 (ly_X0_c (lt_X0 frh49 za))) rfl rfl (Nat.le_of_ble_eq_true rfl) (k_X0_take N hG hmh49 g57 (fun h54 hmh54 frh54 => ⟨_, rfl, (?_ : ky_V _ _ _ 151 _ [.int x56] _ _)⟩))
                    have frh54 := frh49.tr frh54
                    refine v_if_eq (tgt := 217) (i := 51) rfl (by decide) (fun c58 => ?_) (fun c58 => ?_)
                    · replace e := ky_ifT c58 e
                      refine v_iconst (v := 0) (i := 84) rfl (by decide) (?_ : ky_V _ _ _ 218 _ _ _ _)
                      refine v_iret (v := 0) (ty := .boolean) (i := 85) rfl rfl (by decide) ?_
                      obtain ⟨rfl, rfl⟩ := ky_leaf e
                      exact hr _ hmh54 frh54
                    · replace e := ky_ifF c58 e
                      refine v_aload_n (i := 52) (j := 1) rfl rfl (?_ : ky_V _ _ _ 155 _ _ _ _)
                      obtain ⟨s59, hvs59, hss59⟩ := sg_X0_70 hG
                      refine v_ldcS (i := 53) hvs59 rfl (?_ : ky_V _ _ _ 157 _ _ _ _)
                      obtain ⟨⟨q61, x62⟩, g63, e⟩ := Option.bind_eq_some_iff.mp e
                      refine cl_X0_66 (As := [.ref s59]) rfl (i := 54) rfl (oc_X9 hmh54 (ly_X9_c (lt_X9 frh54 za1_))) rfl rfl (Nat.le_of_ble_eq_true rfl) (k_X9_takeWord N hG hmh54 hss59 g63 (fun h60 hmh60 frh60 => ⟨_, rfl, (?_ : ky_V _ _ _ 160 _ [.int x62] _ _)⟩))
                      have frh60 := frh54.tr frh60
                      refine v_if_eq (tgt := 217) (i := 55) rfl (by decide) (fun c64 => ?_) (fun c64 => ?_)
                      · replace e := ky_ifT c64 e
                        refine v_iconst (v := 0) (i := 84) rfl (by decide) (?_ : ky_V _ _ _ 218 _ _ _ _)
                        refine v_iret (v := 0) (ty := .boolean) (i := 85) rfl rfl (by decide) ?_
                        obtain ⟨rfl, rfl⟩ := ky_leaf e
                        exact hr _ hmh60 frh60
                      · replace e := ky_ifF c64 e
                        refine v_aload_n (i := 56) (j := 0) rfl rfl (?_ : ky_V _ _ _ 164 _ _ _ _)
                        refine v_aload_n (i := 57) (j := 1) rfl rfl (?_ : ky_V _ _ _ 165 _ _ _ _)
                        refine v_iconst (v := 0) (i := 58) rfl (by decide) (?_ : ky_V _ _ _ 166 _ _ _ _)
                        refine v_bipush (v := 9) (i := 59) rfl (by decide) (?_ : ky_V _ _ _ 168 _ _ _ _)
                        obtain ⟨⟨q66, x67⟩, g68, e⟩ := Option.bind_eq_some_iff.mp e
                        refine cl_X0_60 (As := [.ref a1_, .int 0, .int 9]) rfl (i := 60) rfl (oc_X0 hmh60 (ly_X0_c (lt_X0 frh60 za))) rfl rfl (Nat.le_of_ble_eq_true rfl) (k_X0_take N hG hmh60 g68 (fun h65 hmh65 frh65 => ⟨_, rfl, (?_ : ky_V _ _ _ 171 _ [.int x67] _ _)⟩))
                        have frh65 := frh60.tr frh65
                        refine v_if_eq (tgt := 217) (i := 61) rfl (by decide) (fun c69 => ?_) (fun c69 => ?_)
                        · replace e := ky_ifT c69 e
                          refine v_iconst (v := 0) (i := 84) rfl (by decide) (?_ : ky_V _ _ _ 218 _ _ _ _)
                          refine v_iret (v := 0) (ty := .boolean) (i := 85) rfl rfl (by decide) ?_
                          obtain ⟨rfl, rfl⟩ := ky_leaf e
                          exact hr _ hmh65 frh65
                        · replace e := ky_ifF c69 e
                          refine v_aload_n (i := 62) (j := 1) rfl rfl (?_ : ky_V _ _ _ 175 _ _ _ _)
                          obtain ⟨s70, hvs70, hss70⟩ := sg_X0_72 hG
                          refine v_ldcS (i := 63) hvs70 rfl (?_ : ky_V _ _ _ 177 _ _ _ _)
                          obtain ⟨⟨q72, x73⟩, g74, e⟩ := Option.bind_eq_some_iff.mp e
                          refine cl_X0_66 (As := [.ref s70]) rfl (i := 64) rfl (oc_X9 hmh65 (ly_X9_c (lt_X9 frh65 za1_))) rfl rfl (Nat.le_of_ble_eq_true rfl) (k_X9_takeWord N hG hmh65 hss70 g74 (fun h71 hmh71 frh71 => ⟨_, rfl, (?_ : ky_V _ _ _ 180 _ [.int x73] _ _)⟩))
                          have frh71 := frh65.tr frh71
                          refine v_if_eq (tgt := 217) (i := 65) rfl (by decide) (fun c75 => ?_) (fun c75 => ?_)
                          · replace e := ky_ifT c75 e
                            refine v_iconst (v := 0) (i := 84) rfl (by decide) (?_ : ky_V _ _ _ 218 _ _ _ _)
                            refine v_iret (v := 0) (ty := .boolean) (i := 85) rfl rfl (by decide) ?_
                            obtain ⟨rfl, rfl⟩ := ky_leaf e
                            exact hr _ hmh71 frh71
                          · replace e := ky_ifF c75 e
                            refine v_aload_n (i := 66) (j := 0) rfl rfl (?_ : ky_V _ _ _ 184 _ _ _ _)
                            refine v_aload_n (i := 67) (j := 1) rfl rfl (?_ : ky_V _ _ _ 185 _ _ _ _)
                            refine v_iconst (v := 0) (i := 68) rfl (by decide) (?_ : ky_V _ _ _ 186 _ _ _ _)
                            refine v_iconst (v := 5) (i := 69) rfl (by decide) (?_ : ky_V _ _ _ 187 _ _ _ _)
                            obtain ⟨⟨q77, x78⟩, g79, e⟩ := Option.bind_eq_some_iff.mp e
                            refine cl_X0_60 (As := [.ref a1_, .int 0, .int 5]) rfl (i := 70) rfl (oc_X0 hmh71 (ly_X0_c (lt_X0 frh71 za))) rfl rfl (Nat.le_of_ble_eq_true rfl) (k_X0_take N hG hmh71 g79 (fun h76 hmh76 frh76 => ⟨_, rfl, (?_ : ky_V _ _ _ 190 _ [.int x78] _ _)⟩))
                            have frh76 := frh71.tr frh76
                            refine v_if_eq (tgt := 217) (i := 71) rfl (by decide) (fun c80 => ?_) (fun c80 => ?_)
                            · replace e := ky_ifT c80 e
                              refine v_iconst (v := 0) (i := 84) rfl (by decide) (?_ : ky_V _ _ _ 218 _ _ _ _)
                              refine v_iret (v := 0) (ty := .boolean) (i := 85) rfl rfl (by decide) ?_
                              obtain ⟨rfl, rfl⟩ := ky_leaf e
                              exact hr _ hmh76 frh76
                            · replace e := ky_ifF c80 e
                              refine v_aload_n (i := 72) (j := 1) rfl rfl (?_ : ky_V _ _ _ 194 _ _ _ _)
                              obtain ⟨s81, hvs81, hss81⟩ := sg_X0_74 hG
                              refine v_ldcS (i := 73) hvs81 rfl (?_ : ky_V _ _ _ 196 _ _ _ _)
                              obtain ⟨⟨q83, x84⟩, g85, e⟩ := Option.bind_eq_some_iff.mp e
                              refine cl_X0_66 (As := [.ref s81]) rfl (i := 74) rfl (oc_X9 hmh76 (ly_X9_c (lt_X9 frh76 za1_))) rfl rfl (Nat.le_of_ble_eq_true rfl) (k_X9_takeWord N hG hmh76 hss81 g85 (fun h82 hmh82 frh82 => ⟨_, rfl, (?_ : ky_V _ _ _ 199 _ [.int x84] _ _)⟩))
                              have frh82 := frh76.tr frh82
                              refine v_if_eq (tgt := 217) (i := 75) rfl (by decide) (fun c86 => ?_) (fun c86 => ?_)
                              · replace e := ky_ifT c86 e
                                refine v_iconst (v := 0) (i := 84) rfl (by decide) (?_ : ky_V _ _ _ 218 _ _ _ _)
                                refine v_iret (v := 0) (ty := .boolean) (i := 85) rfl rfl (by decide) ?_
                                obtain ⟨rfl, rfl⟩ := ky_leaf e
                                exact hr _ hmh82 frh82
                              · replace e := ky_ifF c86 e
                                refine v_aload_n (i := 76) (j := 0) rfl rfl (?_ : ky_V _ _ _ 203 _ _ _ _)
                                refine v_aload_n (i := 77) (j := 1) rfl rfl (?_ : ky_V _ _ _ 204 _ _ _ _)
                                refine v_iconst (v := 1) (i := 78) rfl (by decide) (?_ : ky_V _ _ _ 205 _ _ _ _)
                                refine v_bipush (v := 30) (i := 79) rfl (by decide) (?_ : ky_V _ _ _ 207 _ _ _ _)
                                obtain ⟨⟨q88, x89⟩, g90, e⟩ := Option.bind_eq_some_iff.mp e
                                refine cl_X0_60 (As := [.ref a1_, .int 1, .int 30]) rfl (i := 80) rfl (oc_X0 hmh82 (ly_X0_c (lt_X0 frh82 za))) rfl rfl (Nat.le_of_ble_eq_true rfl) (k_X0_take N hG hmh82 g90 (fun h87 hmh87 frh87 => ⟨_, rfl, (?_ : ky_V _ _ _ 210 _ [.int x89] _ _)⟩))
                                have frh87 := frh82.tr frh87
                                refine v_if_eq (tgt := 217) (i := 81) rfl (by decide) (fun c91 => ?_) (fun c91 => ?_)
                                · replace e := ky_ifT c91 e
                                  refine v_iconst (v := 0) (i := 84) rfl (by decide) (?_ : ky_V _ _ _ 218 _ _ _ _)
                                  refine v_iret (v := 0) (ty := .boolean) (i := 85) rfl rfl (by decide) ?_
                                  obtain ⟨rfl, rfl⟩ := ky_leaf e
                                  exact hr _ hmh87 frh87
                                · replace e := ky_ifF c91 e
                                  refine v_iconst (v := 1) (i := 82) rfl (by decide) (?_ : ky_V _ _ _ 214 _ _ _ _)
                                  refine v_goto (tgt := 218) (i := 83) rfl (by decide) (?_ : ky_V _ _ _ 218 _ _ _ _)
                                  refine v_iret (v := 1) (ty := .boolean) (i := 85) rfl rfl (by decide) ?_
                                  obtain ⟨rfl, rfl⟩ := ky_leaf e
                                  exact hr _ hmh87 frh87
              · replace e := ky_ifF c42 e
                rcases Classical.em (p2 = 7) with c92 | c92
                · replace e := ky_ifT c92 e
                  refine v_tableIn (off := 227) (tgt := 228) (i := 1) rfl (by rw [c92]; decide) (by rw [c92]; decide) (by rw [c92]; rfl) (by decide) ?_
                  refine v_aload_n (i := 92) (j := 0) rfl rfl (?_ : ky_V _ _ _ 229 _ _ _ _)
                  refine v_aload_n (i := 93) (j := 1) rfl rfl (?_ : ky_V _ _ _ 230 _ _ _ _)
                  obtain ⟨⟨q94, x95⟩, g96, e⟩ := Option.bind_eq_some_iff.mp e
                  refine cl_X0_76 (As := [.ref a1_]) rfl (i := 94) rfl (oc_X0 hm (ly_X0_c za)) rfl rfl (Nat.le_of_ble_eq_true rfl) (k_X0_takePlace N hG hm g96 (fun h93 hmh93 frh93 => ⟨_, rfl, (?_ : ky_V _ _ _ 233 _ [.int x95] _ _)⟩))
                  have frh93 := fr.tr frh93
                  refine v_if_eq (tgt := 251) (i := 95) rfl (by decide) (fun c97 => ?_) (fun c97 => ?_)
                  · replace e := ky_ifT c97 e
                    refine v_iconst (v := 0) (i := 104) rfl (by decide) (?_ : ky_V _ _ _ 252 _ _ _ _)
                    refine v_iret (v := 0) (ty := .boolean) (i := 105) rfl rfl (by decide) ?_
                    obtain ⟨rfl, rfl⟩ := ky_leaf e
                    exact hr _ hmh93 frh93
                  · replace e := ky_ifF c97 e
                    refine v_aload_n (i := 96) (j := 0) rfl rfl (?_ : ky_V _ _ _ 237 _ _ _ _)
                    refine v_aload_n (i := 97) (j := 1) rfl rfl (?_ : ky_V _ _ _ 238 _ _ _ _)
                    refine v_iconst (v := 0) (i := 98) rfl (by decide) (?_ : ky_V _ _ _ 239 _ _ _ _)
                    refine v_bipush (v := 9) (i := 99) rfl (by decide) (?_ : ky_V _ _ _ 241 _ _ _ _)
                    obtain ⟨⟨q99, x100⟩, g101, e⟩ := Option.bind_eq_some_iff.mp e
                    refine cl_X0_60 (As := [.ref a1_, .int 0, .int 9]) rfl (i := 100) rfl (oc_X0 hmh93 (ly_X0_c (lt_X0 frh93 za))) rfl rfl (Nat.le_of_ble_eq_true rfl) (k_X0_take N hG hmh93 g101 (fun h98 hmh98 frh98 => ⟨_, rfl, (?_ : ky_V _ _ _ 244 _ [.int x100] _ _)⟩))
                    have frh98 := frh93.tr frh98
                    refine v_if_eq (tgt := 251) (i := 101) rfl (by decide) (fun c102 => ?_) (fun c102 => ?_)
                    · replace e := ky_ifT c102 e
                      refine v_iconst (v := 0) (i := 104) rfl (by decide) (?_ : ky_V _ _ _ 252 _ _ _ _)
                      refine v_iret (v := 0) (ty := .boolean) (i := 105) rfl rfl (by decide) ?_
                      obtain ⟨rfl, rfl⟩ := ky_leaf e
                      exact hr _ hmh98 frh98
                    · replace e := ky_ifF c102 e
                      refine v_iconst (v := 1) (i := 102) rfl (by decide) (?_ : ky_V _ _ _ 248 _ _ _ _)
                      refine v_goto (tgt := 252) (i := 103) rfl (by decide) (?_ : ky_V _ _ _ 252 _ _ _ _)
                      refine v_iret (v := 1) (ty := .boolean) (i := 105) rfl rfl (by decide) ?_
                      obtain ⟨rfl, rfl⟩ := ky_leaf e
                      exact hr _ hmh98 frh98
                · replace e := ky_ifF c92 e
                  rcases Classical.em (p2 = 8) with c103 | c103
                  · replace e := ky_ifT c103 e
                    refine v_tableIn (off := 286) (tgt := 287) (i := 1) rfl (by rw [c103]; decide) (by rw [c103]; decide) (by rw [c103]; rfl) (by decide) ?_
                    refine v_aload_n (i := 124) (j := 0) rfl rfl (?_ : ky_V _ _ _ 288 _ _ _ _)
                    refine v_aload_n (i := 125) (j := 1) rfl rfl (?_ : ky_V _ _ _ 289 _ _ _ _)
                    obtain ⟨⟨q105, x106⟩, g107, e⟩ := Option.bind_eq_some_iff.mp e
                    refine cl_X0_76 (As := [.ref a1_]) rfl (i := 126) rfl (oc_X0 hm (ly_X0_c za)) rfl rfl (Nat.le_of_ble_eq_true rfl) (k_X0_takePlace N hG hm g107 (fun h104 hmh104 frh104 => ⟨_, rfl, (?_ : ky_V _ _ _ 292 _ [.int x106] _ _)⟩))
                    have frh104 := fr.tr frh104
                    obtain ⟨z108, e⟩ := ky_chkE e
                    refine v_iret (v := x106) (ty := .boolean) (i := 127) rfl rfl (ky_nb z108) ?_
                    obtain ⟨rfl, rfl⟩ := ky_leaf e
                    exact hr _ hmh104 frh104
                  · replace e := ky_ifF c103 e
                    rcases Classical.em (p2 = 9) with c109 | c109
                    · replace e := ky_ifT c109 e
                      refine v_tableIn (off := 286) (tgt := 287) (i := 1) rfl (by rw [c109]; decide) (by rw [c109]; decide) (by rw [c109]; rfl) (by decide) ?_
                      refine v_aload_n (i := 124) (j := 0) rfl rfl (?_ : ky_V _ _ _ 288 _ _ _ _)
                      refine v_aload_n (i := 125) (j := 1) rfl rfl (?_ : ky_V _ _ _ 289 _ _ _ _)
                      obtain ⟨⟨q111, x112⟩, g113, e⟩ := Option.bind_eq_some_iff.mp e
                      refine cl_X0_76 (As := [.ref a1_]) rfl (i := 126) rfl (oc_X0 hm (ly_X0_c za)) rfl rfl (Nat.le_of_ble_eq_true rfl) (k_X0_takePlace N hG hm g113 (fun h110 hmh110 frh110 => ⟨_, rfl, (?_ : ky_V _ _ _ 292 _ [.int x112] _ _)⟩))
                      have frh110 := fr.tr frh110
                      obtain ⟨z114, e⟩ := ky_chkE e
                      refine v_iret (v := x112) (ty := .boolean) (i := 127) rfl rfl (ky_nb z114) ?_
                      obtain ⟨rfl, rfl⟩ := ky_leaf e
                      exact hr _ hmh110 frh110
                    · replace e := ky_ifF c109 e
                      rcases Classical.em (p2 = 10) with c115 | c115
                      · replace e := ky_ifT c115 e
                        refine v_tableIn (off := 286) (tgt := 287) (i := 1) rfl (by rw [c115]; decide) (by rw [c115]; decide) (by rw [c115]; rfl) (by decide) ?_
                        refine v_aload_n (i := 124) (j := 0) rfl rfl (?_ : ky_V _ _ _ 288 _ _ _ _)
                        refine v_aload_n (i := 125) (j := 1) rfl rfl (?_ : ky_V _ _ _ 289 _ _ _ _)
                        obtain ⟨⟨q117, x118⟩, g119, e⟩ := Option.bind_eq_some_iff.mp e
                        refine cl_X0_76 (As := [.ref a1_]) rfl (i := 126) rfl (oc_X0 hm (ly_X0_c za)) rfl rfl (Nat.le_of_ble_eq_true rfl) (k_X0_takePlace N hG hm g119 (fun h116 hmh116 frh116 => ⟨_, rfl, (?_ : ky_V _ _ _ 292 _ [.int x118] _ _)⟩))
                        have frh116 := fr.tr frh116
                        obtain ⟨z120, e⟩ := ky_chkE e
                        refine v_iret (v := x118) (ty := .boolean) (i := 127) rfl rfl (ky_nb z120) ?_
                        obtain ⟨rfl, rfl⟩ := ky_leaf e
                        exact hr _ hmh116 frh116
                      · replace e := ky_ifF c115 e
                        rcases Classical.em (p2 = 11) with c121 | c121
                        · replace e := ky_ifT c121 e
                          refine v_tableIn (off := 103) (tgt := 104) (i := 1) rfl (by rw [c121]; decide) (by rw [c121]; decide) (by rw [c121]; rfl) (by decide) ?_
                          refine v_aload_n (i := 24) (j := 0) rfl rfl (?_ : ky_V _ _ _ 105 _ _ _ _)
                          refine v_aload_n (i := 25) (j := 1) rfl rfl (?_ : ky_V _ _ _ 106 _ _ _ _)
                          refine v_iconst (v := 0) (i := 26) rfl (by decide) (?_ : ky_V _ _ _ 107 _ _ _ _)
                          refine v_bipush (v := 9) (i := 27) rfl (by decide) (?_ : ky_V _ _ _ 109 _ _ _ _)
                          obtain ⟨⟨q123, x124⟩, g125, e⟩ := Option.bind_eq_some_iff.mp e
                          refine cl_X0_60 (As := [.ref a1_, .int 0, .int 9]) rfl (i := 28) rfl (oc_X0 hm (ly_X0_c za)) rfl rfl (Nat.le_of_ble_eq_true rfl) (k_X0_take N hG hm g125 (fun h122 hmh122 frh122 => ⟨_, rfl, (?_ : ky_V _ _ _ 112 _ [.int x124] _ _)⟩))
                          have frh122 := fr.tr frh122
                          obtain ⟨z126, e⟩ := ky_chkE e
                          refine v_iret (v := x124) (ty := .boolean) (i := 29) rfl rfl (ky_nb z126) ?_
                          obtain ⟨rfl, rfl⟩ := ky_leaf e
                          exact hr _ hmh122 frh122
                        · replace e := ky_ifF c121 e
                          rcases Classical.em (p2 = 12) with c127 | c127
                          · replace e := ky_ifT c127 e
                            refine v_tableIn (off := 252) (tgt := 253) (i := 1) rfl (by rw [c127]; decide) (by rw [c127]; decide) (by rw [c127]; rfl) (by decide) ?_
                            refine v_aload_n (i := 106) (j := 0) rfl rfl (?_ : ky_V _ _ _ 254 _ _ _ _)
                            refine v_aload_n (i := 107) (j := 1) rfl rfl (?_ : ky_V _ _ _ 255 _ _ _ _)
                            refine v_iconst (v := 1) (i := 108) rfl (by decide) (?_ : ky_V _ _ _ 256 _ _ _ _)
                            refine v_bipush (v := 9) (i := 109) rfl (by decide) (?_ : ky_V _ _ _ 258 _ _ _ _)
                            obtain ⟨⟨q129, x130⟩, g131, e⟩ := Option.bind_eq_some_iff.mp e
                            refine cl_X0_60 (As := [.ref a1_, .int 1, .int 9]) rfl (i := 110) rfl (oc_X0 hm (ly_X0_c za)) rfl rfl (Nat.le_of_ble_eq_true rfl) (k_X0_take N hG hm g131 (fun h128 hmh128 frh128 => ⟨_, rfl, (?_ : ky_V _ _ _ 261 _ [.int x130] _ _)⟩))
                            have frh128 := fr.tr frh128
                            refine v_if_eq (tgt := 285) (i := 111) rfl (by decide) (fun c132 => ?_) (fun c132 => ?_)
                            · replace e := ky_ifT c132 e
                              refine v_iconst (v := 0) (i := 122) rfl (by decide) (?_ : ky_V _ _ _ 286 _ _ _ _)
                              refine v_iret (v := 0) (ty := .boolean) (i := 123) rfl rfl (by decide) ?_
                              obtain ⟨rfl, rfl⟩ := ky_leaf e
                              exact hr _ hmh128 frh128
                            · replace e := ky_ifF c132 e
                              refine v_aload_n (i := 112) (j := 1) rfl rfl (?_ : ky_V _ _ _ 265 _ _ _ _)
                              obtain ⟨s133, hvs133, hss133⟩ := sg_X0_79 hG
                              refine v_ldcS (i := 113) hvs133 rfl (?_ : ky_V _ _ _ 267 _ _ _ _)
                              obtain ⟨⟨q135, x136⟩, g137, e⟩ := Option.bind_eq_some_iff.mp e
                              refine cl_X0_66 (As := [.ref s133]) rfl (i := 114) rfl (oc_X9 hmh128 (ly_X9_c (lt_X9 frh128 za1_))) rfl rfl (Nat.le_of_ble_eq_true rfl) (k_X9_takeWord N hG hmh128 hss133 g137 (fun h134 hmh134 frh134 => ⟨_, rfl, (?_ : ky_V _ _ _ 270 _ [.int x136] _ _)⟩))
                              have frh134 := frh128.tr frh134
                              refine v_if_eq (tgt := 285) (i := 115) rfl (by decide) (fun c138 => ?_) (fun c138 => ?_)
                              · replace e := ky_ifT c138 e
                                refine v_iconst (v := 0) (i := 122) rfl (by decide) (?_ : ky_V _ _ _ 286 _ _ _ _)
                                refine v_iret (v := 0) (ty := .boolean) (i := 123) rfl rfl (by decide) ?_
                                obtain ⟨rfl, rfl⟩ := ky_leaf e
                                exact hr _ hmh134 frh134
                              · replace e := ky_ifF c138 e
                                refine v_aload_n (i := 116) (j := 0) rfl rfl (?_ : ky_V _ _ _ 274 _ _ _ _)
                                refine v_aload_n (i := 117) (j := 1) rfl rfl (?_ : ky_V _ _ _ 275 _ _ _ _)
                                obtain ⟨⟨q140, x141⟩, g142, e⟩ := Option.bind_eq_some_iff.mp e
                                refine cl_X0_76 (As := [.ref a1_]) rfl (i := 118) rfl (oc_X0 hmh134 (ly_X0_c (lt_X0 frh134 za))) rfl rfl (Nat.le_of_ble_eq_true rfl) (k_X0_takePlace N hG hmh134 g142 (fun h139 hmh139 frh139 => ⟨_, rfl, (?_ : ky_V _ _ _ 278 _ [.int x141] _ _)⟩))
                                have frh139 := frh134.tr frh139
                                refine v_if_eq (tgt := 285) (i := 119) rfl (by decide) (fun c143 => ?_) (fun c143 => ?_)
                                · replace e := ky_ifT c143 e
                                  refine v_iconst (v := 0) (i := 122) rfl (by decide) (?_ : ky_V _ _ _ 286 _ _ _ _)
                                  refine v_iret (v := 0) (ty := .boolean) (i := 123) rfl rfl (by decide) ?_
                                  obtain ⟨rfl, rfl⟩ := ky_leaf e
                                  exact hr _ hmh139 frh139
                                · replace e := ky_ifF c143 e
                                  refine v_iconst (v := 1) (i := 120) rfl (by decide) (?_ : ky_V _ _ _ 282 _ _ _ _)
                                  refine v_goto (tgt := 286) (i := 121) rfl (by decide) (?_ : ky_V _ _ _ 286 _ _ _ _)
                                  refine v_iret (v := 1) (ty := .boolean) (i := 123) rfl rfl (by decide) ?_
                                  obtain ⟨rfl, rfl⟩ := ky_leaf e
                                  exact hr _ hmh139 frh139
                          · replace e := ky_ifF c127 e
                            refine v_tableOut (tgt := 287) (i := 1) rfl (ky_swO (fun z h1 h2 => ?_)) (by decide) ?_
                            · intro hz
                              have h3 : z = 0 ∨ z = 1 ∨ z = 2 ∨ z = 3 ∨ z = 4 ∨ z = 5 ∨ z = 6 ∨ z = 7 ∨ z = 8 ∨ z = 9 ∨ z = 10 ∨ z = 11 ∨ z = 12 := by omega
                              rcases h3 with h3 | h3 | h3 | h3 | h3 | h3 | h3 | h3 | h3 | h3 | h3 | h3 | h3 <;> subst h3
                              · exact c1 (Int32.toInt_inj.mp (hz.trans (by decide)))
                              · exact c12 (Int32.toInt_inj.mp (hz.trans (by decide)))
                              · exact c18 (Int32.toInt_inj.mp (hz.trans (by decide)))
                              · exact c24 (Int32.toInt_inj.mp (hz.trans (by decide)))
                              · exact c30 (Int32.toInt_inj.mp (hz.trans (by decide)))
                              · exact c36 (Int32.toInt_inj.mp (hz.trans (by decide)))
                              · exact c42 (Int32.toInt_inj.mp (hz.trans (by decide)))
                              · exact c92 (Int32.toInt_inj.mp (hz.trans (by decide)))
                              · exact c103 (Int32.toInt_inj.mp (hz.trans (by decide)))
                              · exact c109 (Int32.toInt_inj.mp (hz.trans (by decide)))
                              · exact c115 (Int32.toInt_inj.mp (hz.trans (by decide)))
                              · exact c121 (Int32.toInt_inj.mp (hz.trans (by decide)))
                              · exact c127 (Int32.toInt_inj.mp (hz.trans (by decide)))
                            · refine v_aload_n (i := 124) (j := 0) rfl rfl (?_ : ky_V _ _ _ 288 _ _ _ _)
                              refine v_aload_n (i := 125) (j := 1) rfl rfl (?_ : ky_V _ _ _ 289 _ _ _ _)
                              obtain ⟨⟨q145, x146⟩, g147, e⟩ := Option.bind_eq_some_iff.mp e
                              refine cl_X0_76 (As := [.ref a1_]) rfl (i := 126) rfl (oc_X0 hm (ly_X0_c za)) rfl rfl (Nat.le_of_ble_eq_true rfl) (k_X0_takePlace N hG hm g147 (fun h144 hmh144 frh144 => ⟨_, rfl, (?_ : ky_V _ _ _ 292 _ [.int x146] _ _)⟩))
                              have frh144 := fr.tr frh144
                              obtain ⟨z148, e⟩ := ky_chkE e
                              refine v_iret (v := x146) (ty := .boolean) (i := 127) rfl rfl (ky_nb z148) ?_
                              obtain ⟨rfl, rfl⟩ := ky_leaf e
                              exact hr _ hmh144 frh144

def x0_tellShore (N : Nat)  (s : sk_S) (a : Nat) (a1_ : Nat) (p2 : Int32) (p3 : Int32) : Option (sk_S × Int32) := (if lay_X0 (sk_K s) (sk_r s) a = true then (if lay_X8 (sk_K s) (sk_r s) a1_ = true then (if p2 = 7 then ((x0_placeAt N s a p3).bind (fun zz => (fun q3 x4 => (if ky_inB (p3 + 2) 70 = true then (ky_let (sk_c q3 (a + 2) (Int32.toNatClampNeg (p3 + 2))) (fun x7 => (if ky_inB x4 64 = true then (ky_let (sk_wc q3 (a1_ + 1) (Int32.toNatClampNeg x4) x7) (fun q10 => (some (q10, 0)))) else none))) else none)) zz.1 zz.2)) else (if p2 = 8 then ((x0_placeAt N s a p3).bind (fun zz => (fun q13 x14 => (ky_let ((sk_g s a1_ 3) ||| (1 <<< (Int32.toInt64 x14 &&& 63))) (fun x16 => (ky_let (sk_wg q13 a1_ 3 x16) (fun q18 => (some (q18, 0))))))) zz.1 zz.2)) else (if p2 = 9 then ((x0_placeAt N s a p3).bind (fun zz => (fun q21 x22 => (ky_let ((sk_g s a1_ 4) ||| (1 <<< (Int32.toInt64 x22 &&& 63))) (fun x24 => (ky_let (sk_wg q21 a1_ 4 x24) (fun q26 => (some (q26, 0))))))) zz.1 zz.2)) else (if p2 = 10 then ((x0_placeAt N s a p3).bind (fun zz => (fun q29 x30 => (ky_let (sk_wc q29 a1_ 5 x30) (fun q33 => (some (q33, 0))))) zz.1 zz.2)) else (if p2 = 11 then (if ky_inB p3 70 = true then (ky_let (sk_c s (a + 2) (Int32.toNatClampNeg p3)) (fun x36 => (ky_let (sk_wc s a1_ 7 x36) (fun q38 => (some (q38, 0)))))) else none) else (if p2 = 12 then (if ky_inB p3 70 = true then ((x0_placeAt N s a (p3 + 1)).bind (fun zz => (fun q42 x43 => ((x8_addPerson N q42 a1_ (sk_c s (a + 2) (Int32.toNatClampNeg p3)) x43).bind (fun zz => (fun q46 x47 => (some (q46, 0))) zz.1 zz.2))) zz.1 zz.2)) else none) else (if ky_inB p3 70 = true then (ky_let (sk_c s (a + 2) (Int32.toNatClampNeg p3)) (fun x50 => (ky_let (sk_wc s a1_ 7 x50) (fun q52 => (some (q52, 0)))))) else none))))))) else none) else none)
set_option maxRecDepth 20000 in
set_option maxHeartbeats 4000000 in
theorem k_X0_tellShore {G : ky_GW} {d : Nat} {h : ky_HP} {Q : ky_RS → ky_HP → Prop} {s s9 : sk_S} {r9 : Int32} {a : Nat} {a1_ : Nat} {p2 : Int32} {p3 : Int32} (N : Nat) (hG : ky_OK G)   (hm : sk_hp G s h)  (e : x0_tellShore N  s a a1_ p2 p3 = some (s9, r9)) (hr : ∀ h1, sk_hp G s9 h1 → sk_fr none s h s9 h1 → Q (.inl none) h1) : ky_Call G (d + 2) M_X0_tellShore [.ref a, .ref a1_, .int p2, .int p3] h Q := by
  refine ky_ofV (by decide +kernel) rfl ok_X0_tellShore (Nat.le_of_ble_eq_true rfl) ?_
  have fr : sk_fr none s h s h := sk_fr.rf
  unfold x0_tellShore at e
  refine (?_ : ky_V _ _ _ 0 [(0, .ref a), (1, .ref a1_), (2, .int p2), (3, .int p3)] [] _ _)
  obtain ⟨za, e⟩ := ky_chkE e
  obtain ⟨za1_, e⟩ := ky_chkE e
  refine v_iload_n (i := 0) (j := 2) rfl rfl (?_ : ky_V _ _ _ 1 _ _ _ _)
  rcases Classical.em (p2 = 7) with c1 | c1
  · replace e := ky_ifT c1 e
    refine v_tableIn (off := 39) (tgt := 40) (i := 1) rfl (by rw [c1]; decide) (by rw [c1]; decide) (by rw [c1]; rfl) (by decide) ?_
    refine v_aload_n (i := 2) (j := 1) rfl rfl (?_ : ky_V _ _ _ 41 _ _ _ _)
    refine gf_X0_143 rfl (i := 3) rfl (oc_X8 hm (ly_X8_c za1_)) (sk_rf (ly_X8_r0 za1_)) (?_ : ky_V _ _ _ 44 _ (.ref (a1_ + 1) :: _) _ _)
    refine v_aload_n (i := 4) (j := 0) rfl rfl (?_ : ky_V _ _ _ 45 _ _ _ _)
    refine v_iload_n (i := 5) (j := 3) rfl rfl (?_ : ky_V _ _ _ 46 _ _ _ _)
    obtain ⟨⟨q3, x4⟩, g5, e⟩ := Option.bind_eq_some_iff.mp e
    refine cl_X0_146 (As := [.int p3]) rfl (i := 6) rfl (oc_X0 hm (ly_X0_c za)) rfl rfl (Nat.le_of_ble_eq_true rfl) (k_X0_placeAt N hG hm g5 (fun h2 hmh2 frh2 => ⟨_, rfl, (?_ : ky_V _ _ _ 49 _ [.int x4, .ref ((a1_ + 1))] _ _)⟩))
    have frh2 := fr.tr frh2
    refine v_aload_n (i := 7) (j := 0) rfl rfl (?_ : ky_V _ _ _ 50 _ _ _ _)
    refine gf_X0_15 rfl (i := 8) rfl (oc_X0 hmh2 (ly_X0_c (lt_X0 frh2 za))) (sk_rf (ly_X0_r1 (lt_X0 frh2 za))) (?_ : ky_V _ _ _ 53 _ (.ref (a + 2) :: _) _ _)
    refine v_iload_n (i := 9) (j := 3) rfl rfl (?_ : ky_V _ _ _ 54 _ _ _ _)
    refine v_iconst (v := 2) (i := 10) rfl (by decide) (?_ : ky_V _ _ _ 55 _ _ _ _)
    refine v_iadd (i := 11) rfl (?_ : ky_V _ _ _ 56 _ _ _ _)
    obtain ⟨z6, e⟩ := ky_chkE e
    refine v_iald (i := 12) rfl (oa_21 hmh2 (ly_X0_k1 (lt_X0 frh2 za))) (ky_inb z6) (?_ : ky_V _ _ _ 57 _ (.int (sk_c q3 (a + 2) (Int32.toNatClampNeg (p3 + 2))) :: _) _ _)
    refine v_topi (fun x7 ex7 => ?_)
    replace e := ky_letE ex7 e
    obtain ⟨z8, e⟩ := ky_chkE e
    refine v_iast (i := 13) rfl (oa_21 hmh2 (ly_X8_k0 (lt_X8 frh2 za1_))) (ky_inb z8) ?_
    refine sk_stc (kd := 20) hmh2 frh2 (ly_X8_k0 (lt_X8 frh2 za1_)) (Int32.toNatClampNeg x4) x7 (fun h9 hmh9 frh9 => ?_)
    obtain ⟨q10, eq10⟩ : ∃ z, z = (sk_wc q3 (a1_ + 1) (Int32.toNatClampNeg x4) x7) := ⟨_, rfl⟩
    rw [← eq10] at hmh9 frh9
    replace e := ky_letE eq10 e
    refine (?_ : ky_V _ _ _ 58 _ _ _ _)
    refine v_goto (tgt := 141) (i := 14) rfl (by decide) (?_ : ky_V _ _ _ 141 _ _ _ _)
    refine v_vret (i := 61) rfl rfl ?_
    obtain ⟨rfl, rfl⟩ := ky_leaf e
    exact hr _ hmh9 frh9
  · replace e := ky_ifF c1 e
    rcases Classical.em (p2 = 8) with c11 | c11
    · replace e := ky_ifT c11 e
      refine v_tableIn (off := 60) (tgt := 61) (i := 1) rfl (by rw [c11]; decide) (by rw [c11]; decide) (by rw [c11]; rfl) (by decide) ?_
      refine v_aload_n (i := 15) (j := 1) rfl rfl (?_ : ky_V _ _ _ 62 _ _ _ _)
      refine v_dup (i := 16) rfl rfl (?_ : ky_V _ _ _ 63 _ _ _ _)
      refine gf_X0_150 rfl (i := 17) rfl (oc_X8 hm (ly_X8_c za1_)) rfl (?_ : ky_V _ _ _ 66 _ _ _ _)
      refine v_lconst (v := 1) (i := 18) rfl (by decide) (?_ : ky_V _ _ _ 67 _ _ _ _)
      refine v_aload_n (i := 19) (j := 0) rfl rfl (?_ : ky_V _ _ _ 68 _ _ _ _)
      refine v_iload_n (i := 20) (j := 3) rfl rfl (?_ : ky_V _ _ _ 69 _ _ _ _)
      obtain ⟨⟨q13, x14⟩, g15, e⟩ := Option.bind_eq_some_iff.mp e
      refine cl_X0_146 (As := [.int p3]) rfl (i := 21) rfl (oc_X0 hm (ly_X0_c za)) rfl rfl (Nat.le_of_ble_eq_true rfl) (k_X0_placeAt N hG hm g15 (fun h12 hmh12 frh12 => ⟨_, rfl, (?_ : ky_V _ _ _ 72 _ [.int x14, .long 1, .long ((sk_g s a1_ 3)), .ref a1_] _ _)⟩))
      have frh12 := fr.tr frh12
      refine v_lshl (i := 22) rfl rfl (?_ : ky_V _ _ _ 73 _ _ _ _)
      refine v_lor (i := 23) rfl (?_ : ky_V _ _ _ 74 _ _ _ _)
      refine v_topl (fun x16 ex16 => ?_)
      replace e := ky_letE ex16 e
      refine pf_X0_150 rfl (i := 24) rfl (oc_X8 hmh12 (ly_X8_c (lt_X8 frh12 za1_))) (Nat.le_of_ble_eq_true rfl) rfl rfl ?_
      refine sk_stg (kd := 7) (n := 0) hmh12 frh12 (ly_X8_c (lt_X8 frh12 za1_)) 3 x16 (fun h17 hmh17 frh17 => ?_)
      obtain ⟨q18, eq18⟩ : ∃ z, z = (sk_wg q13 a1_ 3 x16) := ⟨_, rfl⟩
      rw [← eq18] at hmh17 frh17
      replace e := ky_letE eq18 e
      refine (?_ : ky_V _ _ _ 77 _ _ _ _)
      refine v_goto (tgt := 141) (i := 25) rfl (by decide) (?_ : ky_V _ _ _ 141 _ _ _ _)
      refine v_vret (i := 61) rfl rfl ?_
      obtain ⟨rfl, rfl⟩ := ky_leaf e
      exact hr _ hmh17 frh17
    · replace e := ky_ifF c11 e
      rcases Classical.em (p2 = 9) with c19 | c19
      · replace e := ky_ifT c19 e
        refine v_tableIn (off := 79) (tgt := 80) (i := 1) rfl (by rw [c19]; decide) (by rw [c19]; decide) (by rw [c19]; rfl) (by decide) ?_
        refine v_aload_n (i := 26) (j := 1) rfl rfl (?_ : ky_V _ _ _ 81 _ _ _ _)
        refine v_dup (i := 27) rfl rfl (?_ : ky_V _ _ _ 82 _ _ _ _)
        refine gf_X0_154 rfl (i := 28) rfl (oc_X8 hm (ly_X8_c za1_)) rfl (?_ : ky_V _ _ _ 85 _ _ _ _)
        refine v_lconst (v := 1) (i := 29) rfl (by decide) (?_ : ky_V _ _ _ 86 _ _ _ _)
        refine v_aload_n (i := 30) (j := 0) rfl rfl (?_ : ky_V _ _ _ 87 _ _ _ _)
        refine v_iload_n (i := 31) (j := 3) rfl rfl (?_ : ky_V _ _ _ 88 _ _ _ _)
        obtain ⟨⟨q21, x22⟩, g23, e⟩ := Option.bind_eq_some_iff.mp e
        refine cl_X0_146 (As := [.int p3]) rfl (i := 32) rfl (oc_X0 hm (ly_X0_c za)) rfl rfl (Nat.le_of_ble_eq_true rfl) (k_X0_placeAt N hG hm g23 (fun h20 hmh20 frh20 => ⟨_, rfl, (?_ : ky_V _ _ _ 91 _ [.int x22, .long 1, .long ((sk_g s a1_ 4)), .ref a1_] _ _)⟩))
        have frh20 := fr.tr frh20
        refine v_lshl (i := 33) rfl rfl (?_ : ky_V _ _ _ 92 _ _ _ _)
        refine v_lor (i := 34) rfl (?_ : ky_V _ _ _ 93 _ _ _ _)
        refine v_topl (fun x24 ex24 => ?_)
        replace e := ky_letE ex24 e
        refine pf_X0_154 rfl (i := 35) rfl (oc_X8 hmh20 (ly_X8_c (lt_X8 frh20 za1_))) (Nat.le_of_ble_eq_true rfl) rfl rfl ?_
        refine sk_stg (kd := 7) (n := 0) hmh20 frh20 (ly_X8_c (lt_X8 frh20 za1_)) 4 x24 (fun h25 hmh25 frh25 => ?_)
        obtain ⟨q26, eq26⟩ : ∃ z, z = (sk_wg q21 a1_ 4 x24) := ⟨_, rfl⟩
        rw [← eq26] at hmh25 frh25
        replace e := ky_letE eq26 e
        refine (?_ : ky_V _ _ _ 96 _ _ _ _)
        refine v_goto (tgt := 141) (i := 36) rfl (by decide) (?_ : ky_V _ _ _ 141 _ _ _ _)
        refine v_vret (i := 61) rfl rfl ?_
        obtain ⟨rfl, rfl⟩ := ky_leaf e
        exact hr _ hmh25 frh25
      · replace e := ky_ifF c19 e
        rcases Classical.em (p2 = 10) with c27 | c27
        · replace e := ky_ifT c27 e
          refine v_tableIn (off := 98) (tgt := 99) (i := 1) rfl (by rw [c27]; decide) (by rw [c27]; decide) (by rw [c27]; rfl) (by decide) ?_
          refine v_aload_n (i := 37) (j := 1) rfl rfl (?_ : ky_V _ _ _ 100 _ _ _ _)
          refine v_aload_n (i := 38) (j := 0) rfl rfl (?_ : ky_V _ _ _ 101 _ _ _ _)
          refine v_iload_n (i := 39) (j := 3) rfl rfl (?_ : ky_V _ _ _ 102 _ _ _ _)
          obtain ⟨⟨q29, x30⟩, g31, e⟩ := Option.bind_eq_some_iff.mp e
          refine cl_X0_146 (As := [.int p3]) rfl (i := 40) rfl (oc_X0 hm (ly_X0_c za)) rfl rfl (Nat.le_of_ble_eq_true rfl) (k_X0_placeAt N hG hm g31 (fun h28 hmh28 frh28 => ⟨_, rfl, (?_ : ky_V _ _ _ 105 _ [.int x30, .ref a1_] _ _)⟩))
          have frh28 := fr.tr frh28
          refine pf_X0_157 rfl (i := 41) rfl (oc_X8 hmh28 (ly_X8_c (lt_X8 frh28 za1_))) (Nat.le_of_ble_eq_true rfl) rfl rfl ?_
          refine sk_stc (kd := 7) (n := 0) hmh28 frh28 (ly_X8_c (lt_X8 frh28 za1_)) 5 x30 (fun h32 hmh32 frh32 => ?_)
          obtain ⟨q33, eq33⟩ : ∃ z, z = (sk_wc q29 a1_ 5 x30) := ⟨_, rfl⟩
          rw [← eq33] at hmh32 frh32
          replace e := ky_letE eq33 e
          refine (?_ : ky_V _ _ _ 108 _ _ _ _)
          refine v_goto (tgt := 141) (i := 42) rfl (by decide) (?_ : ky_V _ _ _ 141 _ _ _ _)
          refine v_vret (i := 61) rfl rfl ?_
          obtain ⟨rfl, rfl⟩ := ky_leaf e
          exact hr _ hmh32 frh32
        · replace e := ky_ifF c27 e
          rcases Classical.em (p2 = 11) with c34 | c34
          · replace e := ky_ifT c34 e
            refine v_tableIn (off := 130) (tgt := 131) (i := 1) rfl (by rw [c34]; decide) (by rw [c34]; decide) (by rw [c34]; rfl) (by decide) ?_
            refine v_aload_n (i := 55) (j := 1) rfl rfl (?_ : ky_V _ _ _ 132 _ _ _ _)
            refine v_aload_n (i := 56) (j := 0) rfl rfl (?_ : ky_V _ _ _ 133 _ _ _ _)
            refine gf_X0_15 rfl (i := 57) rfl (oc_X0 hm (ly_X0_c za)) (sk_rf (ly_X0_r1 za)) (?_ : ky_V _ _ _ 136 _ (.ref (a + 2) :: _) _ _)
            refine v_iload_n (i := 58) (j := 3) rfl rfl (?_ : ky_V _ _ _ 137 _ _ _ _)
            obtain ⟨z35, e⟩ := ky_chkE e
            refine v_iald (i := 59) rfl (oa_21 hm (ly_X0_k1 za)) (ky_inb z35) (?_ : ky_V _ _ _ 138 _ (.int (sk_c s (a + 2) (Int32.toNatClampNeg p3)) :: _) _ _)
            refine v_topi (fun x36 ex36 => ?_)
            replace e := ky_letE ex36 e
            refine pf_X0_164 rfl (i := 60) rfl (oc_X8 hm (ly_X8_c za1_)) (Nat.le_of_ble_eq_true rfl) rfl rfl ?_
            refine sk_stc (kd := 7) (n := 0) hm fr (ly_X8_c za1_) 7 x36 (fun h37 hmh37 frh37 => ?_)
            obtain ⟨q38, eq38⟩ : ∃ z, z = (sk_wc s a1_ 7 x36) := ⟨_, rfl⟩
            rw [← eq38] at hmh37 frh37
            replace e := ky_letE eq38 e
            refine (?_ : ky_V _ _ _ 141 _ _ _ _)
            refine v_vret (i := 61) rfl rfl ?_
            obtain ⟨rfl, rfl⟩ := ky_leaf e
            exact hr _ hmh37 frh37
          · replace e := ky_ifF c34 e
            rcases Classical.em (p2 = 12) with c39 | c39
            · replace e := ky_ifT c39 e
              refine v_tableIn (off := 110) (tgt := 111) (i := 1) rfl (by rw [c39]; decide) (by rw [c39]; decide) (by rw [c39]; rfl) (by decide) ?_
              refine v_aload_n (i := 43) (j := 1) rfl rfl (?_ : ky_V _ _ _ 112 _ _ _ _)
              refine v_aload_n (i := 44) (j := 0) rfl rfl (?_ : ky_V _ _ _ 113 _ _ _ _)
              refine gf_X0_15 rfl (i := 45) rfl (oc_X0 hm (ly_X0_c za)) (sk_rf (ly_X0_r1 za)) (?_ : ky_V _ _ _ 116 _ (.ref (a + 2) :: _) _ _)
              refine v_iload_n (i := 46) (j := 3) rfl rfl (?_ : ky_V _ _ _ 117 _ _ _ _)
              obtain ⟨z40, e⟩ := ky_chkE e
              refine v_iald (i := 47) rfl (oa_21 hm (ly_X0_k1 za)) (ky_inb z40) (?_ : ky_V _ _ _ 118 _ (.int (sk_c s (a + 2) (Int32.toNatClampNeg p3)) :: _) _ _)
              refine v_aload_n (i := 48) (j := 0) rfl rfl (?_ : ky_V _ _ _ 119 _ _ _ _)
              refine v_iload_n (i := 49) (j := 3) rfl rfl (?_ : ky_V _ _ _ 120 _ _ _ _)
              refine v_iconst (v := 1) (i := 50) rfl (by decide) (?_ : ky_V _ _ _ 121 _ _ _ _)
              refine v_iadd (i := 51) rfl (?_ : ky_V _ _ _ 122 _ _ _ _)
              obtain ⟨⟨q42, x43⟩, g44, e⟩ := Option.bind_eq_some_iff.mp e
              refine cl_X0_146 (As := [.int ((p3 + 1))]) rfl (i := 52) rfl (oc_X0 hm (ly_X0_c za)) rfl rfl (Nat.le_of_ble_eq_true rfl) (k_X0_placeAt N hG hm g44 (fun h41 hmh41 frh41 => ⟨_, rfl, (?_ : ky_V _ _ _ 125 _ [.int x43, .int ((sk_c s (a + 2) (Int32.toNatClampNeg p3))), .ref a1_] _ _)⟩))
              have frh41 := fr.tr frh41
              obtain ⟨⟨q46, x47⟩, g48, e⟩ := Option.bind_eq_some_iff.mp e
              refine cl_X0_160 (As := [.int ((sk_c s (a + 2) (Int32.toNatClampNeg p3))), .int x43]) rfl (i := 53) rfl (oc_X8 hmh41 (ly_X8_c (lt_X8 frh41 za1_))) rfl rfl (Nat.le_of_ble_eq_true rfl) (k_X8_addPerson N hG hmh41 g48 (fun h45 hmh45 frh45 => ⟨_, rfl, (?_ : ky_V _ _ _ 128 _ [] _ _)⟩))
              have frh45 := frh41.tr frh45
              refine v_goto (tgt := 141) (i := 54) rfl (by decide) (?_ : ky_V _ _ _ 141 _ _ _ _)
              refine v_vret (i := 61) rfl rfl ?_
              obtain ⟨rfl, rfl⟩ := ky_leaf e
              exact hr _ hmh45 frh45
            · replace e := ky_ifF c39 e
              refine v_tableOut (tgt := 131) (i := 1) rfl (ky_swO (fun z h1 h2 => ?_)) (by decide) ?_
              · intro hz
                have h3 : z = 7 ∨ z = 8 ∨ z = 9 ∨ z = 10 ∨ z = 11 ∨ z = 12 := by omega
                rcases h3 with h3 | h3 | h3 | h3 | h3 | h3 <;> subst h3
                · exact c1 (Int32.toInt_inj.mp (hz.trans (by decide)))
                · exact c11 (Int32.toInt_inj.mp (hz.trans (by decide)))
                · exact c19 (Int32.toInt_inj.mp (hz.trans (by decide)))
                · exact c27 (Int32.toInt_inj.mp (hz.trans (by decide)))
                · exact c34 (Int32.toInt_inj.mp (hz.trans (by decide)))
                · exact c39 (Int32.toInt_inj.mp (hz.trans (by decide)))
              · refine v_aload_n (i := 55) (j := 1) rfl rfl (?_ : ky_V _ _ _ 132 _ _ _ _)
                refine v_aload_n (i := 56) (j := 0) rfl rfl (?_ : ky_V _ _ _ 133 _ _ _ _)
                refine gf_X0_15 rfl (i := 57) rfl (oc_X0 hm (ly_X0_c za)) (sk_rf (ly_X0_r1 za)) (?_ : ky_V _ _ _ 136 _ (.ref (a + 2) :: _) _ _)
                refine v_iload_n (i := 58) (j := 3) rfl rfl (?_ : ky_V _ _ _ 137 _ _ _ _)
                obtain ⟨z49, e⟩ := ky_chkE e
                refine v_iald (i := 59) rfl (oa_21 hm (ly_X0_k1 za)) (ky_inb z49) (?_ : ky_V _ _ _ 138 _ (.int (sk_c s (a + 2) (Int32.toNatClampNeg p3)) :: _) _ _)
                refine v_topi (fun x50 ex50 => ?_)
                replace e := ky_letE ex50 e
                refine pf_X0_164 rfl (i := 60) rfl (oc_X8 hm (ly_X8_c za1_)) (Nat.le_of_ble_eq_true rfl) rfl rfl ?_
                refine sk_stc (kd := 7) (n := 0) hm fr (ly_X8_c za1_) 7 x50 (fun h51 hmh51 frh51 => ?_)
                obtain ⟨q52, eq52⟩ : ∃ z, z = (sk_wc s a1_ 7 x50) := ⟨_, rfl⟩
                rw [← eq52] at hmh51 frh51
                replace e := ky_letE eq52 e
                refine (?_ : ky_V _ _ _ 141 _ _ _ _)
                refine v_vret (i := 61) rfl rfl ?_
                obtain ⟨rfl, rfl⟩ := ky_leaf e
                exact hr _ hmh51 frh51

def x0_readLine (N : Nat)  (s : sk_S) (a : Nat) (a1_ : Nat) : Option (sk_S × Int32) := (if lay_X0 (sk_K s) (sk_r s) a = true then (if lay_X9 (sk_K s) (sk_r s) a1_ = true then (if (sk_c s a 2) < (14 : Int32) then ((x9_takeOneOf N s a1_ ([108, 101, 103, 115, 32, 116, 104, 105, 110, 32, 99, 97, 108, 109, 32, 119, 97, 116, 101, 114, 32, 116, 105, 100, 101, 32, 115, 108, 105, 112, 32, 109, 111, 118, 101, 32, 98, 101, 97, 114, 115, 32, 104, 101, 97, 112, 32, 115, 104, 105, 110, 101, 32, 104, 111, 108, 101, 32, 98, 111, 97, 114, 100, 115, 32, 112, 101, 114, 115, 111, 110] : List Int32)).bind (fun zz => (fun q4 x5 => (if x5 = (-1 : Int32) then (some (q4, 0)) else (if x5 = (12 : Int32) then (if (sk_c q4 a 4) < (6 : Int32) then (if ky_inB (sk_c q4 a 2) 14 = true then (ky_let (sk_wc q4 (a + 1) (Int32.toNatClampNeg (sk_c q4 a 2)) x5) (fun q35 => (ky_let (sk_wc q35 a 3 0) (fun q37 => ((x0_readRest N q37 a a1_ x5).bind (fun zz => (fun q39 x40 => (if x40 = 0 then (some (q39, 0)) else (if x5 = (12 : Int32) then (ky_let ((sk_c q39 a 4) + 1) (fun x50 => (ky_let (sk_wc q39 a 4 x50) (fun q52 => (ky_let ((sk_c q52 a 2) + 1) (fun x53 => (ky_let (sk_wc q52 a 2 x53) (fun q55 => (some (q55, 1)))))))))) else (ky_let ((sk_c q39 a 4) + 0) (fun x44 => (ky_let (sk_wc q39 a 4 x44) (fun q46 => (ky_let ((sk_c q46 a 2) + 1) (fun x47 => (ky_let (sk_wc q46 a 2 x47) (fun q49 => (some (q49, 1))))))))))))) zz.1 zz.2)))))) else none) else ((x9_refuse N q4 a1_).bind (fun zz => (fun q57 x58 => (if (x58 = 0 ∨ x58 = 1) then (some (q57, x58)) else none)) zz.1 zz.2))) else (if ky_inB (sk_c q4 a 2) 14 = true then (ky_let (sk_wc q4 (a + 1) (Int32.toNatClampNeg (sk_c q4 a 2)) x5) (fun q11 => (ky_let (sk_wc q11 a 3 0) (fun q13 => ((x0_readRest N q13 a a1_ x5).bind (fun zz => (fun q15 x16 => (if x16 = 0 then (some (q15, 0)) else (if x5 = (12 : Int32) then (ky_let ((sk_c q15 a 4) + 1) (fun x26 => (ky_let (sk_wc q15 a 4 x26) (fun q28 => (ky_let ((sk_c q28 a 2) + 1) (fun x29 => (ky_let (sk_wc q28 a 2 x29) (fun q31 => (some (q31, 1)))))))))) else (ky_let ((sk_c q15 a 4) + 0) (fun x20 => (ky_let (sk_wc q15 a 4 x20) (fun q22 => (ky_let ((sk_c q22 a 2) + 1) (fun x23 => (ky_let (sk_wc q22 a 2 x23) (fun q25 => (some (q25, 1))))))))))))) zz.1 zz.2)))))) else none)))) zz.1 zz.2)) else (some (s, 0))) else none) else none)
set_option maxRecDepth 20000 in
set_option maxHeartbeats 4000000 in
theorem k_X0_readLine {G : ky_GW} {d : Nat} {h : ky_HP} {Q : ky_RS → ky_HP → Prop} {s s9 : sk_S} {r9 : Int32} {a : Nat} {a1_ : Nat} (N : Nat) (hG : ky_OK G)   (hm : sk_hp G s h)  (e : x0_readLine N  s a a1_ = some (s9, r9)) (hr : ∀ h1, sk_hp G s9 h1 → sk_fr none s h s9 h1 → Q (.inl (some (.int r9))) h1) : ky_Call G (d + 8) M_X0_readLine [.ref a, .ref a1_] h Q := by
  refine ky_ofV (by decide +kernel) rfl ok_X0_readLine (Nat.le_of_ble_eq_true rfl) ?_
  have fr : sk_fr none s h s h := sk_fr.rf
  unfold x0_readLine at e
  refine (?_ : ky_V _ _ _ 0 [(0, .ref a), (1, .ref a1_)] [] _ _)
  obtain ⟨za, e⟩ := ky_chkE e
  obtain ⟨za1_, e⟩ := ky_chkE e
  refine v_aload_n (i := 0) (j := 0) rfl rfl (?_ : ky_V _ _ _ 1 _ _ _ _)
  refine gf_X0_18 rfl (i := 1) rfl (oc_X0 hm (ly_X0_c za)) rfl (?_ : ky_V _ _ _ 4 _ _ _ _)
  refine v_bipush (v := 14) (i := 2) rfl (by decide) (?_ : ky_V _ _ _ 6 _ _ _ _)
  refine v_icmp_lt (tgt := 11) (i := 3) rfl (by decide) (fun c1 => ?_) (fun c1 => ?_)
  · replace e := ky_ifT c1 e
    refine v_aload_n (i := 6) (j := 1) rfl rfl (?_ : ky_V _ _ _ 12 _ _ _ _)
    obtain ⟨s2, hvs2, hss2⟩ := sg_X0_42 hG
    refine v_ldcS (i := 7) hvs2 rfl (?_ : ky_V _ _ _ 14 _ _ _ _)
    obtain ⟨⟨q4, x5⟩, g6, e⟩ := Option.bind_eq_some_iff.mp e
    refine cl_X0_44 (As := [.ref s2]) rfl (i := 8) rfl (oc_X9 hm (ly_X9_c za1_)) rfl rfl (Nat.le_of_ble_eq_true rfl) (k_X9_takeOneOf N hG hm hss2 g6 (fun h3 hmh3 frh3 => ⟨_, rfl, (?_ : ky_V _ _ _ 17 _ [.int x5] _ _)⟩))
    have frh3 := fr.tr frh3
    refine v_istore_n (L' := [(0, .ref a), (1, .ref a1_), (2, .int x5)]) [1, 2, 0] (i := 9) rfl (Nat.le_of_ble_eq_true rfl) rfl (?_ : ky_V _ _ _ 18 _ _ _ _)
    refine v_iload_n (i := 10) (j := 2) rfl rfl (?_ : ky_V _ _ _ 19 _ _ _ _)
    refine v_iconst (v := (-1)) (i := 11) rfl (by decide) (?_ : ky_V _ _ _ 20 _ _ _ _)
    refine v_icmp_ne (tgt := 25) (i := 12) rfl (by decide) (fun c7 => ?_) (fun c7 => ?_)
    · replace e := ky_ifF c7 e
      refine v_iload_n (i := 15) (j := 2) rfl rfl (?_ : ky_V _ _ _ 26 _ _ _ _)
      refine v_bipush (v := 12) (i := 16) rfl (by decide) (?_ : ky_V _ _ _ 28 _ _ _ _)
      refine v_icmp_ne (tgt := 45) (i := 17) rfl (by decide) (fun c8 => ?_) (fun c8 => ?_)
      · replace e := ky_ifF c8 e
        refine v_aload_n (i := 25) (j := 0) rfl rfl (?_ : ky_V _ _ _ 46 _ _ _ _)
        refine gf_X0_11 rfl (i := 26) rfl (oc_X0 hmh3 (ly_X0_c (lt_X0 frh3 za))) (sk_rf (ly_X0_r0 (lt_X0 frh3 za))) (?_ : ky_V _ _ _ 49 _ (.ref (a + 1) :: _) _ _)
        refine v_aload_n (i := 27) (j := 0) rfl rfl (?_ : ky_V _ _ _ 50 _ _ _ _)
        refine gf_X0_18 rfl (i := 28) rfl (oc_X0 hmh3 (ly_X0_c (lt_X0 frh3 za))) rfl (?_ : ky_V _ _ _ 53 _ _ _ _)
        refine v_iload_n (i := 29) (j := 2) rfl rfl (?_ : ky_V _ _ _ 54 _ _ _ _)
        obtain ⟨z9, e⟩ := ky_chkE e
        refine v_iast (i := 30) rfl (oa_21 hmh3 (ly_X0_k0 (lt_X0 frh3 za))) (ky_inb z9) ?_
        refine sk_stc (kd := 20) hmh3 frh3 (ly_X0_k0 (lt_X0 frh3 za)) (Int32.toNatClampNeg (sk_c q4 a 2)) x5 (fun h10 hmh10 frh10 => ?_)
        obtain ⟨q11, eq11⟩ : ∃ z, z = (sk_wc q4 (a + 1) (Int32.toNatClampNeg (sk_c q4 a 2)) x5) := ⟨_, rfl⟩
        rw [← eq11] at hmh10 frh10
        replace e := ky_letE eq11 e
        refine (?_ : ky_V _ _ _ 55 _ _ _ _)
        refine v_aload_n (i := 31) (j := 0) rfl rfl (?_ : ky_V _ _ _ 56 _ _ _ _)
        refine v_iconst (v := 0) (i := 32) rfl (by decide) (?_ : ky_V _ _ _ 57 _ _ _ _)
        refine pf_X0_53 rfl (i := 33) rfl (oc_X0 hmh10 (ly_X0_c (lt_X0 frh10 za))) (Nat.le_of_ble_eq_true rfl) rfl rfl ?_
        refine sk_stc (kd := 0) (n := 0) hmh10 frh10 (ly_X0_c (lt_X0 frh10 za)) 3 0 (fun h12 hmh12 frh12 => ?_)
        obtain ⟨q13, eq13⟩ : ∃ z, z = (sk_wc q11 a 3 0) := ⟨_, rfl⟩
        rw [← eq13] at hmh12 frh12
        replace e := ky_letE eq13 e
        refine (?_ : ky_V _ _ _ 60 _ _ _ _)
        refine v_aload_n (i := 34) (j := 0) rfl rfl (?_ : ky_V _ _ _ 61 _ _ _ _)
        refine v_aload_n (i := 35) (j := 1) rfl rfl (?_ : ky_V _ _ _ 62 _ _ _ _)
        refine v_iload_n (i := 36) (j := 2) rfl rfl (?_ : ky_V _ _ _ 63 _ _ _ _)
        obtain ⟨⟨q15, x16⟩, g17, e⟩ := Option.bind_eq_some_iff.mp e
        refine cl_X0_56 (As := [.ref a1_, .int x5]) rfl (i := 37) rfl (oc_X0 hmh12 (ly_X0_c (lt_X0 frh12 za))) rfl rfl (Nat.le_of_ble_eq_true rfl) (k_X0_readRest N hG hmh12 g17 (fun h14 hmh14 frh14 => ⟨_, rfl, (?_ : ky_V _ _ _ 66 _ [.int x16] _ _)⟩))
        have frh14 := frh12.tr frh14
        refine v_if_ne (tgt := 71) (i := 38) rfl (by decide) (fun c18 => ?_) (fun c18 => ?_)
        · replace e := ky_ifF c18 e
          refine v_aload_n (i := 41) (j := 0) rfl rfl (?_ : ky_V _ _ _ 72 _ _ _ _)
          refine v_dup (i := 42) rfl rfl (?_ : ky_V _ _ _ 73 _ _ _ _)
          refine gf_X0_22 rfl (i := 43) rfl (oc_X0 hmh14 (ly_X0_c (lt_X0 frh14 za))) rfl (?_ : ky_V _ _ _ 76 _ _ _ _)
          refine v_iload_n (i := 44) (j := 2) rfl rfl (?_ : ky_V _ _ _ 77 _ _ _ _)
          refine v_bipush (v := 12) (i := 45) rfl (by decide) (?_ : ky_V _ _ _ 79 _ _ _ _)
          refine v_icmp_ne (tgt := 86) (i := 46) rfl (by decide) (fun c19 => ?_) (fun c19 => ?_)
          · replace e := ky_ifF c19 e
            refine v_iconst (v := 0) (i := 49) rfl (by decide) (?_ : ky_V _ _ _ 87 _ _ _ _)
            refine v_iadd (i := 50) rfl (?_ : ky_V _ _ _ 88 _ _ _ _)
            refine v_topi (fun x20 ex20 => ?_)
            replace e := ky_letE ex20 e
            refine pf_X0_22 rfl (i := 51) rfl (oc_X0 hmh14 (ly_X0_c (lt_X0 frh14 za))) (Nat.le_of_ble_eq_true rfl) rfl rfl ?_
            refine sk_stc (kd := 0) (n := 0) hmh14 frh14 (ly_X0_c (lt_X0 frh14 za)) 4 x20 (fun h21 hmh21 frh21 => ?_)
            obtain ⟨q22, eq22⟩ : ∃ z, z = (sk_wc q15 a 4 x20) := ⟨_, rfl⟩
            rw [← eq22] at hmh21 frh21
            replace e := ky_letE eq22 e
            refine (?_ : ky_V _ _ _ 91 _ _ _ _)
            refine v_aload_n (i := 52) (j := 0) rfl rfl (?_ : ky_V _ _ _ 92 _ _ _ _)
            refine v_dup (i := 53) rfl rfl (?_ : ky_V _ _ _ 93 _ _ _ _)
            refine gf_X0_18 rfl (i := 54) rfl (oc_X0 hmh21 (ly_X0_c (lt_X0 frh21 za))) rfl (?_ : ky_V _ _ _ 96 _ _ _ _)
            refine v_iconst (v := 1) (i := 55) rfl (by decide) (?_ : ky_V _ _ _ 97 _ _ _ _)
            refine v_iadd (i := 56) rfl (?_ : ky_V _ _ _ 98 _ _ _ _)
            refine v_topi (fun x23 ex23 => ?_)
            replace e := ky_letE ex23 e
            refine pf_X0_18 rfl (i := 57) rfl (oc_X0 hmh21 (ly_X0_c (lt_X0 frh21 za))) (Nat.le_of_ble_eq_true rfl) rfl rfl ?_
            refine sk_stc (kd := 0) (n := 0) hmh21 frh21 (ly_X0_c (lt_X0 frh21 za)) 2 x23 (fun h24 hmh24 frh24 => ?_)
            obtain ⟨q25, eq25⟩ : ∃ z, z = (sk_wc q22 a 2 x23) := ⟨_, rfl⟩
            rw [← eq25] at hmh24 frh24
            replace e := ky_letE eq25 e
            refine (?_ : ky_V _ _ _ 101 _ _ _ _)
            refine v_iconst (v := 1) (i := 58) rfl (by decide) (?_ : ky_V _ _ _ 102 _ _ _ _)
            refine v_iret (v := 1) (ty := .boolean) (i := 59) rfl rfl (by decide) ?_
            obtain ⟨rfl, rfl⟩ := ky_leaf e
            exact hr _ hmh24 frh24
          · replace e := ky_ifT c19 e
            refine v_iconst (v := 1) (i := 47) rfl (by decide) (?_ : ky_V _ _ _ 83 _ _ _ _)
            refine v_goto (tgt := 87) (i := 48) rfl (by decide) (?_ : ky_V _ _ _ 87 _ _ _ _)
            refine v_iadd (i := 50) rfl (?_ : ky_V _ _ _ 88 _ _ _ _)
            refine v_topi (fun x26 ex26 => ?_)
            replace e := ky_letE ex26 e
            refine pf_X0_22 rfl (i := 51) rfl (oc_X0 hmh14 (ly_X0_c (lt_X0 frh14 za))) (Nat.le_of_ble_eq_true rfl) rfl rfl ?_
            refine sk_stc (kd := 0) (n := 0) hmh14 frh14 (ly_X0_c (lt_X0 frh14 za)) 4 x26 (fun h27 hmh27 frh27 => ?_)
            obtain ⟨q28, eq28⟩ : ∃ z, z = (sk_wc q15 a 4 x26) := ⟨_, rfl⟩
            rw [← eq28] at hmh27 frh27
            replace e := ky_letE eq28 e
            refine (?_ : ky_V _ _ _ 91 _ _ _ _)
            refine v_aload_n (i := 52) (j := 0) rfl rfl (?_ : ky_V _ _ _ 92 _ _ _ _)
            refine v_dup (i := 53) rfl rfl (?_ : ky_V _ _ _ 93 _ _ _ _)
            refine gf_X0_18 rfl (i := 54) rfl (oc_X0 hmh27 (ly_X0_c (lt_X0 frh27 za))) rfl (?_ : ky_V _ _ _ 96 _ _ _ _)
            refine v_iconst (v := 1) (i := 55) rfl (by decide) (?_ : ky_V _ _ _ 97 _ _ _ _)
            refine v_iadd (i := 56) rfl (?_ : ky_V _ _ _ 98 _ _ _ _)
            refine v_topi (fun x29 ex29 => ?_)
            replace e := ky_letE ex29 e
            refine pf_X0_18 rfl (i := 57) rfl (oc_X0 hmh27 (ly_X0_c (lt_X0 frh27 za))) (Nat.le_of_ble_eq_true rfl) rfl rfl ?_
            refine sk_stc (kd := 0) (n := 0) hmh27 frh27 (ly_X0_c (lt_X0 frh27 za)) 2 x29 (fun h30 hmh30 frh30 => ?_)
            obtain ⟨q31, eq31⟩ : ∃ z, z = (sk_wc q28 a 2 x29) := ⟨_, rfl⟩
            rw [← eq31] at hmh30 frh30
            replace e := ky_letE eq31 e
            refine (?_ : ky_V _ _ _ 101 _ _ _ _)
            refine v_iconst (v := 1) (i := 58) rfl (by decide) (?_ : ky_V _ _ _ 102 _ _ _ _)
            refine v_iret (v := 1) (ty := .boolean) (i := 59) rfl rfl (by decide) ?_
            obtain ⟨rfl, rfl⟩ := ky_leaf e
            exact hr _ hmh30 frh30
        · replace e := ky_ifT c18 e
          refine v_iconst (v := 0) (i := 39) rfl (by decide) (?_ : ky_V _ _ _ 70 _ _ _ _)
          refine v_iret (v := 0) (ty := .boolean) (i := 40) rfl rfl (by decide) ?_
          obtain ⟨rfl, rfl⟩ := ky_leaf e
          exact hr _ hmh14 frh14
      · replace e := ky_ifT c8 e
        refine v_aload_n (i := 18) (j := 0) rfl rfl (?_ : ky_V _ _ _ 32 _ _ _ _)
        refine gf_X0_22 rfl (i := 19) rfl (oc_X0 hmh3 (ly_X0_c (lt_X0 frh3 za))) rfl (?_ : ky_V _ _ _ 35 _ _ _ _)
        refine v_bipush (v := 6) (i := 20) rfl (by decide) (?_ : ky_V _ _ _ 37 _ _ _ _)
        refine v_icmp_lt (tgt := 45) (i := 21) rfl (by decide) (fun c32 => ?_) (fun c32 => ?_)
        · replace e := ky_ifT c32 e
          refine v_aload_n (i := 25) (j := 0) rfl rfl (?_ : ky_V _ _ _ 46 _ _ _ _)
          refine gf_X0_11 rfl (i := 26) rfl (oc_X0 hmh3 (ly_X0_c (lt_X0 frh3 za))) (sk_rf (ly_X0_r0 (lt_X0 frh3 za))) (?_ : ky_V _ _ _ 49 _ (.ref (a + 1) :: _) _ _)
          refine v_aload_n (i := 27) (j := 0) rfl rfl (?_ : ky_V _ _ _ 50 _ _ _ _)
          refine gf_X0_18 rfl (i := 28) rfl (oc_X0 hmh3 (ly_X0_c (lt_X0 frh3 za))) rfl (?_ : ky_V _ _ _ 53 _ _ _ _)
          refine v_iload_n (i := 29) (j := 2) rfl rfl (?_ : ky_V _ _ _ 54 _ _ _ _)
          obtain ⟨z33, e⟩ := ky_chkE e
          refine v_iast (i := 30) rfl (oa_21 hmh3 (ly_X0_k0 (lt_X0 frh3 za))) (ky_inb z33) ?_
          refine sk_stc (kd := 20) hmh3 frh3 (ly_X0_k0 (lt_X0 frh3 za)) (Int32.toNatClampNeg (sk_c q4 a 2)) x5 (fun h34 hmh34 frh34 => ?_)
          obtain ⟨q35, eq35⟩ : ∃ z, z = (sk_wc q4 (a + 1) (Int32.toNatClampNeg (sk_c q4 a 2)) x5) := ⟨_, rfl⟩
          rw [← eq35] at hmh34 frh34
          replace e := ky_letE eq35 e
          refine (?_ : ky_V _ _ _ 55 _ _ _ _)
          refine v_aload_n (i := 31) (j := 0) rfl rfl (?_ : ky_V _ _ _ 56 _ _ _ _)
          refine v_iconst (v := 0) (i := 32) rfl (by decide) (?_ : ky_V _ _ _ 57 _ _ _ _)
          refine pf_X0_53 rfl (i := 33) rfl (oc_X0 hmh34 (ly_X0_c (lt_X0 frh34 za))) (Nat.le_of_ble_eq_true rfl) rfl rfl ?_
          refine sk_stc (kd := 0) (n := 0) hmh34 frh34 (ly_X0_c (lt_X0 frh34 za)) 3 0 (fun h36 hmh36 frh36 => ?_)
          obtain ⟨q37, eq37⟩ : ∃ z, z = (sk_wc q35 a 3 0) := ⟨_, rfl⟩
          rw [← eq37] at hmh36 frh36
          replace e := ky_letE eq37 e
          refine (?_ : ky_V _ _ _ 60 _ _ _ _)
          refine v_aload_n (i := 34) (j := 0) rfl rfl (?_ : ky_V _ _ _ 61 _ _ _ _)
          refine v_aload_n (i := 35) (j := 1) rfl rfl (?_ : ky_V _ _ _ 62 _ _ _ _)
          refine v_iload_n (i := 36) (j := 2) rfl rfl (?_ : ky_V _ _ _ 63 _ _ _ _)
          obtain ⟨⟨q39, x40⟩, g41, e⟩ := Option.bind_eq_some_iff.mp e
          refine cl_X0_56 (As := [.ref a1_, .int x5]) rfl (i := 37) rfl (oc_X0 hmh36 (ly_X0_c (lt_X0 frh36 za))) rfl rfl (Nat.le_of_ble_eq_true rfl) (k_X0_readRest N hG hmh36 g41 (fun h38 hmh38 frh38 => ⟨_, rfl, (?_ : ky_V _ _ _ 66 _ [.int x40] _ _)⟩))
          have frh38 := frh36.tr frh38
          refine v_if_ne (tgt := 71) (i := 38) rfl (by decide) (fun c42 => ?_) (fun c42 => ?_)
          · replace e := ky_ifF c42 e
            refine v_aload_n (i := 41) (j := 0) rfl rfl (?_ : ky_V _ _ _ 72 _ _ _ _)
            refine v_dup (i := 42) rfl rfl (?_ : ky_V _ _ _ 73 _ _ _ _)
            refine gf_X0_22 rfl (i := 43) rfl (oc_X0 hmh38 (ly_X0_c (lt_X0 frh38 za))) rfl (?_ : ky_V _ _ _ 76 _ _ _ _)
            refine v_iload_n (i := 44) (j := 2) rfl rfl (?_ : ky_V _ _ _ 77 _ _ _ _)
            refine v_bipush (v := 12) (i := 45) rfl (by decide) (?_ : ky_V _ _ _ 79 _ _ _ _)
            refine v_icmp_ne (tgt := 86) (i := 46) rfl (by decide) (fun c43 => ?_) (fun c43 => ?_)
            · replace e := ky_ifF c43 e
              refine v_iconst (v := 0) (i := 49) rfl (by decide) (?_ : ky_V _ _ _ 87 _ _ _ _)
              refine v_iadd (i := 50) rfl (?_ : ky_V _ _ _ 88 _ _ _ _)
              refine v_topi (fun x44 ex44 => ?_)
              replace e := ky_letE ex44 e
              refine pf_X0_22 rfl (i := 51) rfl (oc_X0 hmh38 (ly_X0_c (lt_X0 frh38 za))) (Nat.le_of_ble_eq_true rfl) rfl rfl ?_
              refine sk_stc (kd := 0) (n := 0) hmh38 frh38 (ly_X0_c (lt_X0 frh38 za)) 4 x44 (fun h45 hmh45 frh45 => ?_)
              obtain ⟨q46, eq46⟩ : ∃ z, z = (sk_wc q39 a 4 x44) := ⟨_, rfl⟩
              rw [← eq46] at hmh45 frh45
              replace e := ky_letE eq46 e
              refine (?_ : ky_V _ _ _ 91 _ _ _ _)
              refine v_aload_n (i := 52) (j := 0) rfl rfl (?_ : ky_V _ _ _ 92 _ _ _ _)
              refine v_dup (i := 53) rfl rfl (?_ : ky_V _ _ _ 93 _ _ _ _)
              refine gf_X0_18 rfl (i := 54) rfl (oc_X0 hmh45 (ly_X0_c (lt_X0 frh45 za))) rfl (?_ : ky_V _ _ _ 96 _ _ _ _)
              refine v_iconst (v := 1) (i := 55) rfl (by decide) (?_ : ky_V _ _ _ 97 _ _ _ _)
              refine v_iadd (i := 56) rfl (?_ : ky_V _ _ _ 98 _ _ _ _)
              refine v_topi (fun x47 ex47 => ?_)
              replace e := ky_letE ex47 e
              refine pf_X0_18 rfl (i := 57) rfl (oc_X0 hmh45 (ly_X0_c (lt_X0 frh45 za))) (Nat.le_of_ble_eq_true rfl) rfl rfl ?_
              refine sk_stc (kd := 0) (n := 0) hmh45 frh45 (ly_X0_c (lt_X0 frh45 za)) 2 x47 (fun h48 hmh48 frh48 => ?_)
              obtain ⟨q49, eq49⟩ : ∃ z, z = (sk_wc q46 a 2 x47) := ⟨_, rfl⟩
              rw [← eq49] at hmh48 frh48
              replace e := ky_letE eq49 e
              refine (?_ : ky_V _ _ _ 101 _ _ _ _)
              refine v_iconst (v := 1) (i := 58) rfl (by decide) (?_ : ky_V _ _ _ 102 _ _ _ _)
              refine v_iret (v := 1) (ty := .boolean) (i := 59) rfl rfl (by decide) ?_
              obtain ⟨rfl, rfl⟩ := ky_leaf e
              exact hr _ hmh48 frh48
            · replace e := ky_ifT c43 e
              refine v_iconst (v := 1) (i := 47) rfl (by decide) (?_ : ky_V _ _ _ 83 _ _ _ _)
              refine v_goto (tgt := 87) (i := 48) rfl (by decide) (?_ : ky_V _ _ _ 87 _ _ _ _)
              refine v_iadd (i := 50) rfl (?_ : ky_V _ _ _ 88 _ _ _ _)
              refine v_topi (fun x50 ex50 => ?_)
              replace e := ky_letE ex50 e
              refine pf_X0_22 rfl (i := 51) rfl (oc_X0 hmh38 (ly_X0_c (lt_X0 frh38 za))) (Nat.le_of_ble_eq_true rfl) rfl rfl ?_
              refine sk_stc (kd := 0) (n := 0) hmh38 frh38 (ly_X0_c (lt_X0 frh38 za)) 4 x50 (fun h51 hmh51 frh51 => ?_)
              obtain ⟨q52, eq52⟩ : ∃ z, z = (sk_wc q39 a 4 x50) := ⟨_, rfl⟩
              rw [← eq52] at hmh51 frh51
              replace e := ky_letE eq52 e
              refine (?_ : ky_V _ _ _ 91 _ _ _ _)
              refine v_aload_n (i := 52) (j := 0) rfl rfl (?_ : ky_V _ _ _ 92 _ _ _ _)
              refine v_dup (i := 53) rfl rfl (?_ : ky_V _ _ _ 93 _ _ _ _)
              refine gf_X0_18 rfl (i := 54) rfl (oc_X0 hmh51 (ly_X0_c (lt_X0 frh51 za))) rfl (?_ : ky_V _ _ _ 96 _ _ _ _)
              refine v_iconst (v := 1) (i := 55) rfl (by decide) (?_ : ky_V _ _ _ 97 _ _ _ _)
              refine v_iadd (i := 56) rfl (?_ : ky_V _ _ _ 98 _ _ _ _)
              refine v_topi (fun x53 ex53 => ?_)
              replace e := ky_letE ex53 e
              refine pf_X0_18 rfl (i := 57) rfl (oc_X0 hmh51 (ly_X0_c (lt_X0 frh51 za))) (Nat.le_of_ble_eq_true rfl) rfl rfl ?_
              refine sk_stc (kd := 0) (n := 0) hmh51 frh51 (ly_X0_c (lt_X0 frh51 za)) 2 x53 (fun h54 hmh54 frh54 => ?_)
              obtain ⟨q55, eq55⟩ : ∃ z, z = (sk_wc q52 a 2 x53) := ⟨_, rfl⟩
              rw [← eq55] at hmh54 frh54
              replace e := ky_letE eq55 e
              refine (?_ : ky_V _ _ _ 101 _ _ _ _)
              refine v_iconst (v := 1) (i := 58) rfl (by decide) (?_ : ky_V _ _ _ 102 _ _ _ _)
              refine v_iret (v := 1) (ty := .boolean) (i := 59) rfl rfl (by decide) ?_
              obtain ⟨rfl, rfl⟩ := ky_leaf e
              exact hr _ hmh54 frh54
          · replace e := ky_ifT c42 e
            refine v_iconst (v := 0) (i := 39) rfl (by decide) (?_ : ky_V _ _ _ 70 _ _ _ _)
            refine v_iret (v := 0) (ty := .boolean) (i := 40) rfl rfl (by decide) ?_
            obtain ⟨rfl, rfl⟩ := ky_leaf e
            exact hr _ hmh38 frh38
        · replace e := ky_ifF c32 e
          refine v_aload_n (i := 22) (j := 1) rfl rfl (?_ : ky_V _ _ _ 41 _ _ _ _)
          obtain ⟨⟨q57, x58⟩, g59, e⟩ := Option.bind_eq_some_iff.mp e
          refine cl_X0_50 (As := []) rfl (i := 23) rfl (oc_X9 hmh3 (ly_X9_c (lt_X9 frh3 za1_))) rfl rfl (Nat.le_of_ble_eq_true rfl) (k_X9_refuse N hG hmh3 g59 (fun h56 hmh56 frh56 => ⟨_, rfl, (?_ : ky_V _ _ _ 44 _ [.int x58] _ _)⟩))
          have frh56 := frh3.tr frh56
          obtain ⟨z60, e⟩ := ky_chkE e
          refine v_iret (v := x58) (ty := .boolean) (i := 24) rfl rfl (ky_nb z60) ?_
          obtain ⟨rfl, rfl⟩ := ky_leaf e
          exact hr _ hmh56 frh56
    · replace e := ky_ifT c7 e
      refine v_iconst (v := 0) (i := 13) rfl (by decide) (?_ : ky_V _ _ _ 24 _ _ _ _)
      refine v_iret (v := 0) (ty := .boolean) (i := 14) rfl rfl (by decide) ?_
      obtain ⟨rfl, rfl⟩ := ky_leaf e
      exact hr _ hmh3 frh3
  · replace e := ky_ifF c1 e
    refine v_iconst (v := 0) (i := 4) rfl (by decide) (?_ : ky_V _ _ _ 10 _ _ _ _)
    refine v_iret (v := 0) (ty := .boolean) (i := 5) rfl rfl (by decide) ?_
    obtain ⟨rfl, rfl⟩ := ky_leaf e
    exact hr _ hm fr

def x0_tell_L2 (N : Nat)  (a : Nat) (a1_ : Nat) (k : sk_S → Int32 → Option (sk_S × Int32)) : Nat → sk_S → Int32 → Option (sk_S × Int32)
  | 0, _, _ => none
  | n + 1, c, p2 => (if (sk_c c a 2) ≤ p2 then (k c p2) else (ky_let (p2 * 5) (fun x2 => (if ky_inB p2 14 = true then (if (6 : Int32) ≤ (sk_c c (a + 1) (Int32.toNatClampNeg p2)) then (if (sk_c c (a + 1) (Int32.toNatClampNeg p2)) = (6 : Int32) then ((x6_tell N c (a1_ + 2) (a + 2) x2).bind (fun zz => (fun q12 x13 => (ky_let (p2 + 1) (fun x15 => (x0_tell_L2 N a a1_ k n q12 x15)))) zz.1 zz.2)) else ((x0_tellShore N c a (a1_ + 4) (sk_c c (a + 1) (Int32.toNatClampNeg p2)) x2).bind (fun zz => (fun q7 x8 => (ky_let (p2 + 1) (fun x10 => (x0_tell_L2 N a a1_ k n q7 x10)))) zz.1 zz.2))) else ((x0_tellBody N c a (a1_ + 1) (sk_c c (a + 1) (Int32.toNatClampNeg p2)) x2).bind (fun zz => (fun q17 x18 => (ky_let (p2 + 1) (fun x20 => (x0_tell_L2 N a a1_ k n q17 x20)))) zz.1 zz.2))) else none))))
set_option maxRecDepth 20000 in
set_option maxHeartbeats 4000000 in
theorem lv_X0_tell_2 {G : ky_GW} {d : Nat} {s s9 : sk_S} {h0 : ky_HP} {Q : ky_RS → ky_HP → Prop} {r9 : Int32} (N : Nat) (hG : ky_OK G)  (a : Nat) (a1_ : Nat)   (za : lay_X0 (sk_K s) (sk_r s) a = true) (za1_ : lay_X7 (sk_K s) (sk_r s) a1_ = true) (hm : sk_hp G s h0) (k : sk_S → Int32 → Option (sk_S × Int32)) (hr : ∀ h1, sk_hp G s9 h1 → sk_fr none s h0 s9 h1 → Q (.inl none) h1)
    (hk : ∀ (h : ky_HP) (c : sk_S) (p2 : Int32), sk_hp G c h → sk_fr none s h0 c h → k c p2 = some (s9, r9) → ky_V G (d + 3) M_X0_tell 90 [(0, .ref a), (1, .ref a1_), (2, .int p2)] [] h Q) :
    ∀ (n : Nat) (h : ky_HP) (c : sk_S) (p2 : Int32), sk_hp G c h → sk_fr none s h0 c h → x0_tell_L2 N a a1_ k n c p2 = some (s9, r9) → ky_V G (d + 3) M_X0_tell 2 [(0, .ref a), (1, .ref a1_), (2, .int p2)] [] h Q := by
  intro n
  induction n with
  | zero => intro h c p2 hm1 fr e; cases e
  | succ n ih =>
    intro h c p2 hm1 fr e
    rw [x0_tell_L2] at e
    refine v_iload_n (i := 2) (j := 2) rfl rfl (?_ : ky_V _ _ _ 3 _ _ _ _)
    refine v_aload_n (i := 3) (j := 0) rfl rfl (?_ : ky_V _ _ _ 4 _ _ _ _)
    refine gf_X0_18 rfl (i := 4) rfl (oc_X0 hm1 (ly_X0_c (lt_X0 fr za))) rfl (?_ : ky_V _ _ _ 7 _ _ _ _)
    refine v_icmp_ge (tgt := 90) (i := 5) rfl (by decide) (fun c1 => ?_) (fun c1 => ?_)
    · replace e := ky_ifT c1 e
      exact hk h c p2 hm1 fr e
    · replace e := ky_ifF c1 e
      refine v_iload_n (i := 6) (j := 2) rfl rfl (?_ : ky_V _ _ _ 11 _ _ _ _)
      refine v_iconst (v := 5) (i := 7) rfl (by decide) (?_ : ky_V _ _ _ 12 _ _ _ _)
      refine v_imul (i := 8) rfl (?_ : ky_V _ _ _ 13 _ _ _ _)
      refine v_topi (fun x2 ex2 => ?_)
      replace e := ky_letE ex2 e
      refine v_istore_n (L' := [(0, .ref a), (1, .ref a1_), (2, .int p2), (3, .int x2)]) [1, 2, 3, 0] (i := 9) rfl (Nat.le_of_ble_eq_true rfl) rfl (?_ : ky_V _ _ _ 14 _ _ _ _)
      refine v_aload_n (i := 10) (j := 0) rfl rfl (?_ : ky_V _ _ _ 15 _ _ _ _)
      refine gf_X0_11 rfl (i := 11) rfl (oc_X0 hm1 (ly_X0_c (lt_X0 fr za))) (sk_rf (ly_X0_r0 (lt_X0 fr za))) (?_ : ky_V _ _ _ 18 _ (.ref (a + 1) :: _) _ _)
      refine v_iload_n (i := 12) (j := 2) rfl rfl (?_ : ky_V _ _ _ 19 _ _ _ _)
      obtain ⟨z3, e⟩ := ky_chkE e
      refine v_iald (i := 13) rfl (oa_21 hm1 (ly_X0_k0 (lt_X0 fr za))) (ky_inb z3) (?_ : ky_V _ _ _ 20 _ (.int (sk_c c (a + 1) (Int32.toNatClampNeg p2)) :: _) _ _)
      refine v_bipush (v := 6) (i := 14) rfl (by decide) (?_ : ky_V _ _ _ 22 _ _ _ _)
      refine v_icmp_ge (tgt := 43) (i := 15) rfl (by decide) (fun c4 => ?_) (fun c4 => ?_)
      · replace e := ky_ifT c4 e
        refine v_aload_n (i := 26) (j := 0) rfl rfl (?_ : ky_V _ _ _ 44 _ _ _ _)
        refine gf_X0_11 rfl (i := 27) rfl (oc_X0 hm1 (ly_X0_c (lt_X0 fr za))) (sk_rf (ly_X0_r0 (lt_X0 fr za))) (?_ : ky_V _ _ _ 47 _ (.ref (a + 1) :: _) _ _)
        refine v_iload_n (i := 28) (j := 2) rfl rfl (?_ : ky_V _ _ _ 48 _ _ _ _)
        refine v_iald (i := 29) rfl (oa_21 hm1 (ly_X0_k0 (lt_X0 fr za))) (ky_inb z3) (?_ : ky_V _ _ _ 49 _ (.int (sk_c c (a + 1) (Int32.toNatClampNeg p2)) :: _) _ _)
        refine v_bipush (v := 6) (i := 30) rfl (by decide) (?_ : ky_V _ _ _ 51 _ _ _ _)
        refine v_icmp_ne (tgt := 69) (i := 31) rfl (by decide) (fun c5 => ?_) (fun c5 => ?_)
        · replace e := ky_ifF c5 e
          refine v_aload_n (i := 39) (j := 0) rfl rfl (?_ : ky_V _ _ _ 70 _ _ _ _)
          refine v_aload_n (i := 40) (j := 1) rfl rfl (?_ : ky_V _ _ _ 71 _ _ _ _)
          refine gf_X0_108 rfl (i := 41) rfl (oc_X7 hm1 (ly_X7_c (lt_X7 fr za1_))) (sk_rf (ly_X7_r2 (lt_X7 fr za1_))) (?_ : ky_V _ _ _ 74 _ (.ref (a1_ + 4) :: _) _ _)
          refine v_aload_n (i := 42) (j := 0) rfl rfl (?_ : ky_V _ _ _ 75 _ _ _ _)
          refine gf_X0_11 rfl (i := 43) rfl (oc_X0 hm1 (ly_X0_c (lt_X0 fr za))) (sk_rf (ly_X0_r0 (lt_X0 fr za))) (?_ : ky_V _ _ _ 78 _ (.ref (a + 1) :: _) _ _)
          refine v_iload_n (i := 44) (j := 2) rfl rfl (?_ : ky_V _ _ _ 79 _ _ _ _)
          refine v_iald (i := 45) rfl (oa_21 hm1 (ly_X0_k0 (lt_X0 fr za))) (ky_inb z3) (?_ : ky_V _ _ _ 80 _ (.int (sk_c c (a + 1) (Int32.toNatClampNeg p2)) :: _) _ _)
          refine v_iload_n (i := 46) (j := 3) rfl rfl (?_ : ky_V _ _ _ 81 _ _ _ _)
          obtain ⟨⟨q7, x8⟩, g9, e⟩ := Option.bind_eq_some_iff.mp e
          refine cl_X0_112 (As := [.ref ((a1_ + 4)), .int ((sk_c c (a + 1) (Int32.toNatClampNeg p2))), .int x2]) rfl (i := 47) rfl (oc_X0 hm1 (ly_X0_c (lt_X0 fr za))) rfl rfl (Nat.le_of_ble_eq_true rfl) (k_X0_tellShore N hG hm1 g9 (fun h6 hmh6 frh6 => ⟨_, rfl, (?_ : ky_V _ _ _ 84 _ [] _ _)⟩))
          have frh6 := fr.tr frh6
          obtain ⟨x10, ex10⟩ : ∃ z : Int32, z = p2 + 1 := ⟨_, rfl⟩
          replace e := ky_letE ex10 e
          refine v_iinc (v := x10) (j := 2) (L' := [(0, .ref a), (1, .ref a1_), (2, .int x10), (3, .int x2)]) [1, 2, 0, 3] (i := 48) rfl rfl (by rw [ex10]; rfl) (Nat.le_of_ble_eq_true rfl) rfl (?_ : ky_V _ _ _ 87 _ _ _ _)
          refine v_goto (tgt := 2) (i := 49) rfl (by decide) (?_ : ky_V _ _ _ 2 _ _ _ _)
          refine ky_loc (L' := [(0, .ref a), (1, .ref a1_), (2, .int x10)]) (by simp) ?_
          exact ih h6 q7 x10 hmh6 frh6 e
        · replace e := ky_ifT c5 e
          refine v_aload_n (i := 32) (j := 1) rfl rfl (?_ : ky_V _ _ _ 55 _ _ _ _)
          refine gf_X0_98 rfl (i := 33) rfl (oc_X7 hm1 (ly_X7_c (lt_X7 fr za1_))) (sk_rf (ly_X7_r1 (lt_X7 fr za1_))) (?_ : ky_V _ _ _ 58 _ (.ref (a1_ + 2) :: _) _ _)
          refine v_aload_n (i := 34) (j := 0) rfl rfl (?_ : ky_V _ _ _ 59 _ _ _ _)
          refine gf_X0_15 rfl (i := 35) rfl (oc_X0 hm1 (ly_X0_c (lt_X0 fr za))) (sk_rf (ly_X0_r1 (lt_X0 fr za))) (?_ : ky_V _ _ _ 62 _ (.ref (a + 2) :: _) _ _)
          refine v_iload_n (i := 36) (j := 3) rfl rfl (?_ : ky_V _ _ _ 63 _ _ _ _)
          obtain ⟨⟨q12, x13⟩, g14, e⟩ := Option.bind_eq_some_iff.mp e
          refine cl_X0_102 (As := [.ref ((a + 2)), .int x2]) rfl (i := 37) rfl (oc_X6 hm1 (ly_X6_c (ly_X7_l1 (lt_X7 fr za1_)))) rfl rfl (Nat.le_of_ble_eq_true rfl) (k_X6_tell N hG hm1 g14 (fun h11 hmh11 frh11 => ⟨_, rfl, (?_ : ky_V _ _ _ 66 _ [] _ _)⟩))
          have frh11 := fr.tr frh11
          refine v_goto (tgt := 84) (i := 38) rfl (by decide) (?_ : ky_V _ _ _ 84 _ _ _ _)
          obtain ⟨x15, ex15⟩ : ∃ z : Int32, z = p2 + 1 := ⟨_, rfl⟩
          replace e := ky_letE ex15 e
          refine v_iinc (v := x15) (j := 2) (L' := [(0, .ref a), (1, .ref a1_), (2, .int x15), (3, .int x2)]) [1, 2, 0, 3] (i := 48) rfl rfl (by rw [ex15]; rfl) (Nat.le_of_ble_eq_true rfl) rfl (?_ : ky_V _ _ _ 87 _ _ _ _)
          refine v_goto (tgt := 2) (i := 49) rfl (by decide) (?_ : ky_V _ _ _ 2 _ _ _ _)
          refine ky_loc (L' := [(0, .ref a), (1, .ref a1_), (2, .int x15)]) (by simp) ?_
          exact ih h11 q12 x15 hmh11 frh11 e
      · replace e := ky_ifF c4 e
        refine v_aload_n (i := 16) (j := 0) rfl rfl (?_ : ky_V _ _ _ 26 _ _ _ _)
        refine v_aload_n (i := 17) (j := 1) rfl rfl (?_ : ky_V _ _ _ 27 _ _ _ _)
        refine gf_X0_88 rfl (i := 18) rfl (oc_X7 hm1 (ly_X7_c (lt_X7 fr za1_))) (sk_rf (ly_X7_r0 (lt_X7 fr za1_))) (?_ : ky_V _ _ _ 30 _ (.ref (a1_ + 1) :: _) _ _)
        refine v_aload_n (i := 19) (j := 0) rfl rfl (?_ : ky_V _ _ _ 31 _ _ _ _)
        refine gf_X0_11 rfl (i := 20) rfl (oc_X0 hm1 (ly_X0_c (lt_X0 fr za))) (sk_rf (ly_X0_r0 (lt_X0 fr za))) (?_ : ky_V _ _ _ 34 _ (.ref (a + 1) :: _) _ _)
        refine v_iload_n (i := 21) (j := 2) rfl rfl (?_ : ky_V _ _ _ 35 _ _ _ _)
        refine v_iald (i := 22) rfl (oa_21 hm1 (ly_X0_k0 (lt_X0 fr za))) (ky_inb z3) (?_ : ky_V _ _ _ 36 _ (.int (sk_c c (a + 1) (Int32.toNatClampNeg p2)) :: _) _ _)
        refine v_iload_n (i := 23) (j := 3) rfl rfl (?_ : ky_V _ _ _ 37 _ _ _ _)
        obtain ⟨⟨q17, x18⟩, g19, e⟩ := Option.bind_eq_some_iff.mp e
        refine cl_X0_94 (As := [.ref ((a1_ + 1)), .int ((sk_c c (a + 1) (Int32.toNatClampNeg p2))), .int x2]) rfl (i := 24) rfl (oc_X0 hm1 (ly_X0_c (lt_X0 fr za))) rfl rfl (Nat.le_of_ble_eq_true rfl) (k_X0_tellBody N hG hm1 g19 (fun h16 hmh16 frh16 => ⟨_, rfl, (?_ : ky_V _ _ _ 40 _ [] _ _)⟩))
        have frh16 := fr.tr frh16
        refine v_goto (tgt := 84) (i := 25) rfl (by decide) (?_ : ky_V _ _ _ 84 _ _ _ _)
        obtain ⟨x20, ex20⟩ : ∃ z : Int32, z = p2 + 1 := ⟨_, rfl⟩
        replace e := ky_letE ex20 e
        refine v_iinc (v := x20) (j := 2) (L' := [(0, .ref a), (1, .ref a1_), (2, .int x20), (3, .int x2)]) [1, 2, 0, 3] (i := 48) rfl rfl (by rw [ex20]; rfl) (Nat.le_of_ble_eq_true rfl) rfl (?_ : ky_V _ _ _ 87 _ _ _ _)
        refine v_goto (tgt := 2) (i := 49) rfl (by decide) (?_ : ky_V _ _ _ 2 _ _ _ _)
        refine ky_loc (L' := [(0, .ref a), (1, .ref a1_), (2, .int x20)]) (by simp) ?_
        exact ih h16 q17 x20 hmh16 frh16 e

def x0_tell (N : Nat)  (s : sk_S) (a : Nat) (a1_ : Nat) : Option (sk_S × Int32) := (if lay_X0 (sk_K s) (sk_r s) a = true then (if lay_X7 (sk_K s) (sk_r s) a1_ = true then (x0_tell_L2 N a a1_ (fun q2 x3 => (some (q2, 0))) N s 0) else none) else none)
set_option maxRecDepth 20000 in
set_option maxHeartbeats 4000000 in
theorem k_X0_tell {G : ky_GW} {d : Nat} {h : ky_HP} {Q : ky_RS → ky_HP → Prop} {s s9 : sk_S} {r9 : Int32} {a : Nat} {a1_ : Nat} (N : Nat) (hG : ky_OK G)   (hm : sk_hp G s h)  (e : x0_tell N  s a a1_ = some (s9, r9)) (hr : ∀ h1, sk_hp G s9 h1 → sk_fr none s h s9 h1 → Q (.inl none) h1) : ky_Call G (d + 3) M_X0_tell [.ref a, .ref a1_] h Q := by
  refine ky_ofV (by decide +kernel) rfl ok_X0_tell (Nat.le_of_ble_eq_true rfl) ?_
  have fr : sk_fr none s h s h := sk_fr.rf
  unfold x0_tell at e
  refine (?_ : ky_V _ _ _ 0 [(0, .ref a), (1, .ref a1_)] [] _ _)
  obtain ⟨za, e⟩ := ky_chkE e
  obtain ⟨za1_, e⟩ := ky_chkE e
  refine v_iconst (v := 0) (i := 0) rfl (by decide) (?_ : ky_V _ _ _ 1 _ _ _ _)
  refine v_istore_n (L' := [(0, .ref a), (1, .ref a1_), (2, .int 0)]) [1, 2, 0] (i := 1) rfl (Nat.le_of_ble_eq_true rfl) rfl (?_ : ky_V _ _ _ 2 _ _ _ _)
  refine lv_X0_tell_2 N hG a a1_ za za1_ hm _ hr (fun h1 q2 x3 hmh1 frh1 e => ?_) N h s 0 hm fr e
  refine v_vret (i := 50) rfl rfl ?_
  obtain ⟨rfl, rfl⟩ := ky_leaf e
  exact hr _ hmh1 frh1

def x0_reads_L30 (N : Nat)  (a : Nat) (a1_ : Nat) (k : sk_S → Int32 → Int32 → Int32 → Option (sk_S × Int32)) : Nat → sk_S → Int32 → Int32 → Int32 → Option (sk_S × Int32)
  | 0, _, _, _, _ => none
  | n + 1, c, p2, p3, p4 => (if (14 : Int32) < p4 then (k c p2 p3 p4) else (if p3 = 0 then (k c p2 p3 p4) else ((x0_readLine N c a a1_).bind (fun zz => (fun q4 x5 => (if x5 = 0 then (some (q4, 0)) else ((x9_takeSign N q4 a1_ 59).bind (fun zz => (fun q9 x10 => (ky_let (p4 + 1) (fun x12 => (x0_reads_L30 N a a1_ k n q9 p2 x10 x12)))) zz.1 zz.2)))) zz.1 zz.2))))
set_option maxRecDepth 20000 in
set_option maxHeartbeats 4000000 in
theorem lv_X0_reads_30 {G : ky_GW} {d : Nat} {s s9 : sk_S} {h0 : ky_HP} {Q : ky_RS → ky_HP → Prop} {r9 : Int32} (N : Nat) (hG : ky_OK G)  (a : Nat) (a1_ : Nat)   (za : lay_X0 (sk_K s) (sk_r s) a = true) (za1_ : lay_X9 (sk_K s) (sk_r s) a1_ = true) (hm : sk_hp G s h0) (k : sk_S → Int32 → Int32 → Int32 → Option (sk_S × Int32)) (hr : ∀ h1, sk_hp G s9 h1 → sk_fr none s h0 s9 h1 → Q (.inl (some (.int r9))) h1)
    (hk : ∀ (h : ky_HP) (c : sk_S) (p2 : Int32) (p3 : Int32) (p4 : Int32), sk_hp G c h → sk_fr none s h0 c h → k c p2 p3 p4 = some (s9, r9) → ky_V G (d + 9) M_X0_reads 64 [(0, .ref a), (1, .ref a1_), (2, .int p2), (3, .int p3), (4, .int p4)] [] h Q) :
    ∀ (n : Nat) (h : ky_HP) (c : sk_S) (p2 : Int32) (p3 : Int32) (p4 : Int32), sk_hp G c h → sk_fr none s h0 c h → x0_reads_L30 N a a1_ k n c p2 p3 p4 = some (s9, r9) → ky_V G (d + 9) M_X0_reads 30 [(0, .ref a), (1, .ref a1_), (2, .int p2), (3, .int p3), (4, .int p4)] [] h Q := by
  intro n
  induction n with
  | zero => intro h c p2 p3 p4 hm1 fr e; cases e
  | succ n ih =>
    intro h c p2 p3 p4 hm1 fr e
    rw [x0_reads_L30] at e
    refine v_iload (i := 17) (j := 4) rfl rfl (?_ : ky_V _ _ _ 32 _ _ _ _)
    refine v_bipush (v := 14) (i := 18) rfl (by decide) (?_ : ky_V _ _ _ 34 _ _ _ _)
    refine v_icmp_gt (tgt := 64) (i := 19) rfl (by decide) (fun c1 => ?_) (fun c1 => ?_)
    · replace e := ky_ifT c1 e
      exact hk h c p2 p3 p4 hm1 fr e
    · replace e := ky_ifF c1 e
      refine v_iload_n (i := 20) (j := 3) rfl rfl (?_ : ky_V _ _ _ 38 _ _ _ _)
      refine v_if_eq (tgt := 64) (i := 21) rfl (by decide) (fun c2 => ?_) (fun c2 => ?_)
      · replace e := ky_ifT c2 e
        exact hk h c p2 p3 p4 hm1 fr e
      · replace e := ky_ifF c2 e
        refine v_aload_n (i := 22) (j := 0) rfl rfl (?_ : ky_V _ _ _ 42 _ _ _ _)
        refine v_aload_n (i := 23) (j := 1) rfl rfl (?_ : ky_V _ _ _ 43 _ _ _ _)
        obtain ⟨⟨q4, x5⟩, g6, e⟩ := Option.bind_eq_some_iff.mp e
        refine cl_X0_34 (As := [.ref a1_]) rfl (i := 24) rfl (oc_X0 hm1 (ly_X0_c (lt_X0 fr za))) rfl rfl (Nat.le_of_ble_eq_true rfl) (k_X0_readLine N hG hm1 g6 (fun h3 hmh3 frh3 => ⟨_, rfl, (?_ : ky_V _ _ _ 46 _ [.int x5] _ _)⟩))
        have frh3 := fr.tr frh3
        refine v_if_ne (tgt := 51) (i := 25) rfl (by decide) (fun c7 => ?_) (fun c7 => ?_)
        · replace e := ky_ifF c7 e
          refine v_aload_n (i := 28) (j := 1) rfl rfl (?_ : ky_V _ _ _ 52 _ _ _ _)
          refine v_bipush (v := 59) (i := 29) rfl (by decide) (?_ : ky_V _ _ _ 54 _ _ _ _)
          obtain ⟨⟨q9, x10⟩, g11, e⟩ := Option.bind_eq_some_iff.mp e
          refine cl_X0_38 (As := [.int 59]) rfl (i := 30) rfl (oc_X9 hmh3 (ly_X9_c (lt_X9 frh3 za1_))) rfl rfl (Nat.le_of_ble_eq_true rfl) (k_X9_takeSign N hG hmh3 g11 (fun h8 hmh8 frh8 => ⟨_, rfl, (?_ : ky_V _ _ _ 57 _ [.int x10] _ _)⟩))
          have frh8 := frh3.tr frh8
          refine v_istore_n (L' := [(0, .ref a), (1, .ref a1_), (2, .int p2), (3, .int x10), (4, .int p4)]) [1, 2, 3, 0, 4] (i := 31) rfl (Nat.le_of_ble_eq_true rfl) rfl (?_ : ky_V _ _ _ 58 _ _ _ _)
          obtain ⟨x12, ex12⟩ : ∃ z : Int32, z = p4 + 1 := ⟨_, rfl⟩
          replace e := ky_letE ex12 e
          refine v_iinc (v := x12) (j := 4) (L' := [(0, .ref a), (1, .ref a1_), (2, .int p2), (3, .int x10), (4, .int x12)]) [1, 2, 3, 4, 0] (i := 32) rfl rfl (by rw [ex12]; rfl) (Nat.le_of_ble_eq_true rfl) rfl (?_ : ky_V _ _ _ 61 _ _ _ _)
          refine v_goto (tgt := 30) (i := 33) rfl (by decide) (?_ : ky_V _ _ _ 30 _ _ _ _)
          exact ih h8 q9 p2 x10 x12 hmh8 frh8 e
        · replace e := ky_ifT c7 e
          refine v_iconst (v := 0) (i := 26) rfl (by decide) (?_ : ky_V _ _ _ 50 _ _ _ _)
          refine v_iret (v := 0) (ty := .boolean) (i := 27) rfl rfl (by decide) ?_
          obtain ⟨rfl, rfl⟩ := ky_leaf e
          exact hr _ hmh3 frh3

def x0_reads (N : Nat)  (s : sk_S) (a : Nat) (a1_ : Nat) (p2 : Int32) : Option (sk_S × Int32) := (if lay_X0 (sk_K s) (sk_r s) a = true then (if lay_X9 (sk_K s) (sk_r s) a1_ = true then (ky_let (sk_wc s a 2 0) (fun q2 => (ky_let (sk_wc q2 a 4 p2) (fun q4 => ((x9_begin N q4 a1_).bind (fun zz => (fun q6 x7 => ((x9_isEnded N q6 a1_).bind (fun zz => (fun q10 x11 => (if x11 = 0 then (x0_reads_L30 N a a1_ (fun q25 x26 x27 x28 => ((x9_isEnded N q25 a1_).bind (fun zz => (fun q30 x31 => (if (x31 = 0 ∨ x31 = 1) then (some (q30, x31)) else none)) zz.1 zz.2))) N q10 p2 1 0) else (x0_reads_L30 N a a1_ (fun q15 x16 x17 x18 => ((x9_isEnded N q15 a1_).bind (fun zz => (fun q20 x21 => (if (x21 = 0 ∨ x21 = 1) then (some (q20, x21)) else none)) zz.1 zz.2))) N q10 p2 0 0))) zz.1 zz.2))) zz.1 zz.2)))))) else none) else none)
set_option maxRecDepth 20000 in
set_option maxHeartbeats 4000000 in
theorem k_X0_reads {G : ky_GW} {d : Nat} {h : ky_HP} {Q : ky_RS → ky_HP → Prop} {s s9 : sk_S} {r9 : Int32} {a : Nat} {a1_ : Nat} {p2 : Int32} (N : Nat) (hG : ky_OK G)   (hm : sk_hp G s h)  (e : x0_reads N  s a a1_ p2 = some (s9, r9)) (hr : ∀ h1, sk_hp G s9 h1 → sk_fr none s h s9 h1 → Q (.inl (some (.int r9))) h1) : ky_Call G (d + 9) M_X0_reads [.ref a, .ref a1_, .int p2] h Q := by
  refine ky_ofV (by decide +kernel) rfl ok_X0_reads (Nat.le_of_ble_eq_true rfl) ?_
  have fr : sk_fr none s h s h := sk_fr.rf
  unfold x0_reads at e
  refine (?_ : ky_V _ _ _ 0 [(0, .ref a), (1, .ref a1_), (2, .int p2)] [] _ _)
  obtain ⟨za, e⟩ := ky_chkE e
  obtain ⟨za1_, e⟩ := ky_chkE e
  refine v_aload_n (i := 0) (j := 0) rfl rfl (?_ : ky_V _ _ _ 1 _ _ _ _)
  refine v_iconst (v := 0) (i := 1) rfl (by decide) (?_ : ky_V _ _ _ 2 _ _ _ _)
  refine pf_X0_18 rfl (i := 2) rfl (oc_X0 hm (ly_X0_c za)) (Nat.le_of_ble_eq_true rfl) rfl rfl ?_
  refine sk_stc (kd := 0) (n := 0) hm fr (ly_X0_c za) 2 0 (fun h1 hmh1 frh1 => ?_)
  obtain ⟨q2, eq2⟩ : ∃ z, z = (sk_wc s a 2 0) := ⟨_, rfl⟩
  rw [← eq2] at hmh1 frh1
  replace e := ky_letE eq2 e
  refine (?_ : ky_V _ _ _ 5 _ _ _ _)
  refine v_aload_n (i := 3) (j := 0) rfl rfl (?_ : ky_V _ _ _ 6 _ _ _ _)
  refine v_iload_n (i := 4) (j := 2) rfl rfl (?_ : ky_V _ _ _ 7 _ _ _ _)
  refine pf_X0_22 rfl (i := 5) rfl (oc_X0 hmh1 (ly_X0_c (lt_X0 frh1 za))) (Nat.le_of_ble_eq_true rfl) rfl rfl ?_
  refine sk_stc (kd := 0) (n := 0) hmh1 frh1 (ly_X0_c (lt_X0 frh1 za)) 4 p2 (fun h3 hmh3 frh3 => ?_)
  obtain ⟨q4, eq4⟩ : ∃ z, z = (sk_wc q2 a 4 p2) := ⟨_, rfl⟩
  rw [← eq4] at hmh3 frh3
  replace e := ky_letE eq4 e
  refine (?_ : ky_V _ _ _ 10 _ _ _ _)
  refine v_aload_n (i := 6) (j := 1) rfl rfl (?_ : ky_V _ _ _ 11 _ _ _ _)
  obtain ⟨⟨q6, x7⟩, g8, e⟩ := Option.bind_eq_some_iff.mp e
  refine cl_X0_25 (As := []) rfl (i := 7) rfl (oc_X9 hmh3 (ly_X9_c (lt_X9 frh3 za1_))) rfl rfl (Nat.le_of_ble_eq_true rfl) (k_X9_begin N hG hmh3 g8 (fun h5 hmh5 frh5 => ⟨_, rfl, (?_ : ky_V _ _ _ 14 _ [] _ _)⟩))
  have frh5 := frh3.tr frh5
  refine v_aload_n (i := 8) (j := 1) rfl rfl (?_ : ky_V _ _ _ 15 _ _ _ _)
  obtain ⟨⟨q10, x11⟩, g12, e⟩ := Option.bind_eq_some_iff.mp e
  refine cl_X0_30 (As := []) rfl (i := 9) rfl (oc_X9 hmh5 (ly_X9_c (lt_X9 frh5 za1_))) rfl rfl (Nat.le_of_ble_eq_true rfl) (k_X9_isEnded N hG hmh5 g12 (fun h9 hmh9 frh9 => ⟨_, rfl, (?_ : ky_V _ _ _ 18 _ [.int x11] _ _)⟩))
  have frh9 := frh5.tr frh9
  refine v_if_ne (tgt := 25) (i := 10) rfl (by decide) (fun c13 => ?_) (fun c13 => ?_)
  · replace e := ky_ifF c13 e
    refine v_iconst (v := 0) (i := 13) rfl (by decide) (?_ : ky_V _ _ _ 26 _ _ _ _)
    refine v_istore_n (L' := [(0, .ref a), (1, .ref a1_), (2, .int p2), (3, .int 0)]) [1, 2, 3, 0] (i := 14) rfl (Nat.le_of_ble_eq_true rfl) rfl (?_ : ky_V _ _ _ 27 _ _ _ _)
    refine v_iconst (v := 0) (i := 15) rfl (by decide) (?_ : ky_V _ _ _ 28 _ _ _ _)
    refine v_istore (L' := [(0, .ref a), (1, .ref a1_), (2, .int p2), (3, .int 0), (4, .int 0)]) [1, 2, 3, 4, 0] (i := 16) rfl (Nat.le_of_ble_eq_true rfl) rfl (?_ : ky_V _ _ _ 30 _ _ _ _)
    refine lv_X0_reads_30 N hG a a1_ za za1_ hm _ hr (fun h14 q15 x16 x17 x18 hmh14 frh14 e => ?_) N h9 q10 p2 0 0 hmh9 frh9 e
    refine v_aload_n (i := 34) (j := 1) rfl rfl (?_ : ky_V _ _ _ 65 _ _ _ _)
    obtain ⟨⟨q20, x21⟩, g22, e⟩ := Option.bind_eq_some_iff.mp e
    refine cl_X0_30 (As := []) rfl (i := 35) rfl (oc_X9 hmh14 (ly_X9_c (lt_X9 frh14 za1_))) rfl rfl (Nat.le_of_ble_eq_true rfl) (k_X9_isEnded N hG hmh14 g22 (fun h19 hmh19 frh19 => ⟨_, rfl, (?_ : ky_V _ _ _ 68 _ [.int x21] _ _)⟩))
    have frh19 := frh14.tr frh19
    obtain ⟨z23, e⟩ := ky_chkE e
    refine v_iret (v := x21) (ty := .boolean) (i := 36) rfl rfl (ky_nb z23) ?_
    obtain ⟨rfl, rfl⟩ := ky_leaf e
    exact hr _ hmh19 frh19
  · replace e := ky_ifT c13 e
    refine v_iconst (v := 1) (i := 11) rfl (by decide) (?_ : ky_V _ _ _ 22 _ _ _ _)
    refine v_goto (tgt := 26) (i := 12) rfl (by decide) (?_ : ky_V _ _ _ 26 _ _ _ _)
    refine v_istore_n (L' := [(0, .ref a), (1, .ref a1_), (2, .int p2), (3, .int 1)]) [1, 2, 3, 0] (i := 14) rfl (Nat.le_of_ble_eq_true rfl) rfl (?_ : ky_V _ _ _ 27 _ _ _ _)
    refine v_iconst (v := 0) (i := 15) rfl (by decide) (?_ : ky_V _ _ _ 28 _ _ _ _)
    refine v_istore (L' := [(0, .ref a), (1, .ref a1_), (2, .int p2), (3, .int 1), (4, .int 0)]) [1, 2, 3, 4, 0] (i := 16) rfl (Nat.le_of_ble_eq_true rfl) rfl (?_ : ky_V _ _ _ 30 _ _ _ _)
    refine lv_X0_reads_30 N hG a a1_ za za1_ hm _ hr (fun h24 q25 x26 x27 x28 hmh24 frh24 e => ?_) N h9 q10 p2 1 0 hmh9 frh9 e
    refine v_aload_n (i := 34) (j := 1) rfl rfl (?_ : ky_V _ _ _ 65 _ _ _ _)
    obtain ⟨⟨q30, x31⟩, g32, e⟩ := Option.bind_eq_some_iff.mp e
    refine cl_X0_30 (As := []) rfl (i := 35) rfl (oc_X9 hmh24 (ly_X9_c (lt_X9 frh24 za1_))) rfl rfl (Nat.le_of_ble_eq_true rfl) (k_X9_isEnded N hG hmh24 g32 (fun h29 hmh29 frh29 => ⟨_, rfl, (?_ : ky_V _ _ _ 68 _ [.int x31] _ _)⟩))
    have frh29 := frh24.tr frh29
    obtain ⟨z33, e⟩ := ky_chkE e
    refine v_iret (v := x31) (ty := .boolean) (i := 36) rfl rfl (ky_nb z33) ?_
    obtain ⟨rfl, rfl⟩ := ky_leaf e
    exact hr _ hmh29 frh29
