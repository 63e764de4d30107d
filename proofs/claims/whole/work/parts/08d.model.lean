theorem ky_strO {G : ky_GW} {a : Nat} {bs : List Int32} (h : ky_Str G a bs) : va_O "java/lang/String" a (ky_A G) G.2.1 G.2.1.heap := by
  obtain ⟨v, h1, -⟩ := h
  exact h1
def md_isWord_L24 (N : Nat)  (b1 : List Int32) (k : (Nat → Nat → Int32) → Int32 → Int32 → Option ((Nat → Nat → Int32) × Int32)) : Nat → (Nat → Nat → Int32) → Int32 → Int32 → Option ((Nat → Nat → Int32) × Int32)
  | 0, _, _, _ => none
  | n + 1, c, p2, p3 => (if p2 = 0 then (k c p2 p3) else (if (Int32.ofNat (List.length b1)) ≤ p3 then (k c p2 p3) else (if ky_inB ((c 0 12) + p3) 400 = true then (if List.length b1 < 2147483648 then (if ky_inB p3 (List.length b1) = true then (if (c 6 (Int32.toNatClampNeg ((c 0 12) + p3))) = (st_ch (List.getD b1 (Int32.toNatClampNeg p3) 0)) then (ky_let (p3 + 1) (fun x8 => (md_isWord_L24 N b1 k n c 1 x8))) else (ky_let (p3 + 1) (fun x7 => (md_isWord_L24 N b1 k n c 0 x7)))) else none) else none) else none)))
set_option maxRecDepth 20000 in
set_option maxHeartbeats 4000000 in
theorem lv_X12_isWord_24 {G : ky_GW} {d : Nat} {h0 : ky_HP} {Q : ky_RS → ky_HP → Prop} {a : Nat} {c9 : (Nat → Nat → Int32)} {r9 : Int32} (N : Nat) (hG : ky_OK G)  (b1 : List Int32)  {s1 : Nat} (hs1 : ky_Str G s1 b1) (k : (Nat → Nat → Int32) → Int32 → Int32 → Option ((Nat → Nat → Int32) × Int32)) (hr : ∀ h1, md_at G h1 a c9 → bk_fr a 13 h0 h1 → Q (.inl (some (.int r9))) h1)
    (hk : ∀ (h : ky_HP) (c : (Nat → Nat → Int32)) (p2 : Int32) (p3 : Int32), md_at G h a c → bk_fr a 13 h0 h → k c p2 p3 = some (c9, r9) → ky_V G (d + 4) M_X12_isWord 67 [(0, .ref a), (1, .ref s1), (2, .int p2), (3, .int p3)] [] h Q) :
    ∀ (n : Nat) (h : ky_HP) (c : (Nat → Nat → Int32)) (p2 : Int32) (p3 : Int32), md_at G h a c → bk_fr a 13 h0 h → md_isWord_L24 N b1 k n c p2 p3 = some (c9, r9) → ky_V G (d + 4) M_X12_isWord 24 [(0, .ref a), (1, .ref s1), (2, .int p2), (3, .int p3)] [] h Q := by
  intro n
  induction n with
  | zero => intro h c p2 p3 hm fr e; cases e
  | succ n ih =>
    intro h c p2 p3 hm fr e
    rw [md_isWord_L24] at e
    refine v_iload_n (i := 14) (j := 2) rfl rfl (?_ : ky_V _ _ _ 25 _ _ _ _)
    refine v_if_eq (tgt := 67) (i := 15) rfl (by decide) (fun c1 => ?_) (fun c1 => ?_)
    · replace e := ky_ifT c1 e
      exact hk h c p2 p3 hm fr e
    · replace e := ky_ifF c1 e
      refine v_iload_n (i := 16) (j := 3) rfl rfl (?_ : ky_V _ _ _ 29 _ _ _ _)
      refine v_aload_n (i := 17) (j := 1) rfl rfl (?_ : ky_V _ _ _ 30 _ _ _ _)
      refine cl_X12_93 (As := []) rfl (i := 18) rfl (ky_strO hs1) rfl rfl (Nat.le_of_ble_eq_true rfl) (k_J0_length_8abf5 hG hs1 ⟨_, rfl, (?_ : ky_V _ _ _ 33 _ [.int ((Int32.ofNat (List.length b1))), .int p3] _ _)⟩)
      refine v_icmp_ge (tgt := 67) (i := 19) rfl (by decide) (fun c2 => ?_) (fun c2 => ?_)
      · replace e := ky_ifT c2 e
        exact hk h c p2 p3 hm fr e
      · replace e := ky_ifF c2 e
        refine v_aload_n (i := 20) (j := 0) rfl rfl (?_ : ky_V _ _ _ 37 _ _ _ _)
        refine gf_X12_29 rfl (i := 21) rfl (md_0 hm) rfl (?_ : ky_V _ _ _ 40 _ _ _ _)
        refine v_aload_n (i := 22) (j := 0) rfl rfl (?_ : ky_V _ _ _ 41 _ _ _ _)
        refine gf_X12_87 rfl (i := 23) rfl (md_0 hm) rfl (?_ : ky_V _ _ _ 44 _ _ _ _)
        refine v_iload_n (i := 24) (j := 3) rfl rfl (?_ : ky_V _ _ _ 45 _ _ _ _)
        refine v_iadd (i := 25) rfl (?_ : ky_V _ _ _ 46 _ _ _ _)
        obtain ⟨z3, e⟩ := ky_chkE e
        refine v_bald (i := 26) rfl (md_6 hm) (ky_inb z3) (?_ : ky_V _ _ _ 47 _ (.int (c 6 (Int32.toNatClampNeg ((c 0 12) + p3))) :: _) _ _)
        refine v_aload_n (i := 27) (j := 1) rfl rfl (?_ : ky_V _ _ _ 48 _ _ _ _)
        refine v_iload_n (i := 28) (j := 3) rfl rfl (?_ : ky_V _ _ _ 49 _ _ _ _)
        obtain ⟨z4, e⟩ := ky_chkE e
        obtain ⟨z5, e⟩ := ky_chkE e
        refine cl_X12_98 (As := [.int p3]) rfl (i := 29) rfl (ky_strO hs1) rfl rfl (Nat.le_of_ble_eq_true rfl) (k_J0_charAt_5068e hG hs1 z4 (ky_inb z5) ⟨_, rfl, (?_ : ky_V _ _ _ 52 _ [.int ((st_ch (List.getD b1 (Int32.toNatClampNeg p3) 0))), .int ((c 6 (Int32.toNatClampNeg ((c 0 12) + p3))))] _ _)⟩)
        refine v_icmp_ne (tgt := 59) (i := 30) rfl (by decide) (fun c6 => ?_) (fun c6 => ?_)
        · replace e := ky_ifF c6 e
          refine v_iconst (v := 0) (i := 33) rfl (by decide) (?_ : ky_V _ _ _ 60 _ _ _ _)
          refine v_istore_n (L' := [(0, .ref a), (1, .ref s1), (2, .int 0), (3, .int p3)]) [1, 2, 0, 3] (i := 34) rfl (Nat.le_of_ble_eq_true rfl) rfl (?_ : ky_V _ _ _ 61 _ _ _ _)
          obtain ⟨x7, ex7⟩ : ∃ z : Int32, z = p3 + 1 := ⟨_, rfl⟩
          replace e := ky_letE ex7 e
          refine v_iinc (v := x7) (j := 3) (L' := [(0, .ref a), (1, .ref s1), (2, .int 0), (3, .int x7)]) [1, 2, 3, 0] (i := 35) rfl rfl (by rw [ex7]; rfl) (Nat.le_of_ble_eq_true rfl) rfl (?_ : ky_V _ _ _ 64 _ _ _ _)
          refine v_goto (tgt := 24) (i := 36) rfl (by decide) (?_ : ky_V _ _ _ 24 _ _ _ _)
          exact ih h c 0 x7 hm fr e
        · replace e := ky_ifT c6 e
          refine v_iconst (v := 1) (i := 31) rfl (by decide) (?_ : ky_V _ _ _ 56 _ _ _ _)
          refine v_goto (tgt := 60) (i := 32) rfl (by decide) (?_ : ky_V _ _ _ 60 _ _ _ _)
          refine v_istore_n (L' := [(0, .ref a), (1, .ref s1), (2, .int 1), (3, .int p3)]) [1, 2, 0, 3] (i := 34) rfl (Nat.le_of_ble_eq_true rfl) rfl (?_ : ky_V _ _ _ 61 _ _ _ _)
          obtain ⟨x8, ex8⟩ : ∃ z : Int32, z = p3 + 1 := ⟨_, rfl⟩
          replace e := ky_letE ex8 e
          refine v_iinc (v := x8) (j := 3) (L' := [(0, .ref a), (1, .ref s1), (2, .int 1), (3, .int x8)]) [1, 2, 3, 0] (i := 35) rfl rfl (by rw [ex8]; rfl) (Nat.le_of_ble_eq_true rfl) rfl (?_ : ky_V _ _ _ 64 _ _ _ _)
          refine v_goto (tgt := 24) (i := 36) rfl (by decide) (?_ : ky_V _ _ _ 24 _ _ _ _)
          exact ih h c 1 x8 hm fr e

def md_isWord (N : Nat)  (c : (Nat → Nat → Int32)) (b1 : List Int32) : Option ((Nat → Nat → Int32) × Int32) := (if ((c 0 10) - (c 0 12)) = (Int32.ofNat (List.length b1)) then (md_isWord_L24 N b1 (fun q8 x9 x10 => (if (x9 = 0 ∨ x9 = 1) then (some (q8, x9)) else none)) N c 1 0) else (md_isWord_L24 N b1 (fun q3 x4 x5 => (if (x4 = 0 ∨ x4 = 1) then (some (q3, x4)) else none)) N c 0 0))
set_option maxRecDepth 20000 in
set_option maxHeartbeats 4000000 in
theorem k_X12_isWord {G : ky_GW} {d : Nat} {h : ky_HP} {Q : ky_RS → ky_HP → Prop} {a : Nat} {c c9 : (Nat → Nat → Int32)} {r9 : Int32} {b1 : List Int32} {s1 : Nat} (N : Nat) (hG : ky_OK G)   (hm : md_at G h a c) (hs1 : ky_Str G s1 b1) (e : md_isWord N  c b1 = some (c9, r9)) (hr : ∀ h1, md_at G h1 a c9 → bk_fr a 13 h h1 → Q (.inl (some (.int r9))) h1) : ky_Call G (d + 4) M_X12_isWord [.ref a, .ref s1] h Q := by
  refine ky_ofV (by decide +kernel) rfl ok_X12_isWord (Nat.le_of_ble_eq_true rfl) ?_
  have fr : bk_fr a 13 h h := bk_fr.rf
  unfold md_isWord at e
  refine (?_ : ky_V _ _ _ 0 [(0, .ref a), (1, .ref s1)] [] _ _)
  refine v_aload_n (i := 0) (j := 0) rfl rfl (?_ : ky_V _ _ _ 1 _ _ _ _)
  refine gf_X12_77 rfl (i := 1) rfl (md_0 hm) rfl (?_ : ky_V _ _ _ 4 _ _ _ _)
  refine v_aload_n (i := 2) (j := 0) rfl rfl (?_ : ky_V _ _ _ 5 _ _ _ _)
  refine gf_X12_87 rfl (i := 3) rfl (md_0 hm) rfl (?_ : ky_V _ _ _ 8 _ _ _ _)
  refine v_isub (i := 4) rfl (?_ : ky_V _ _ _ 9 _ _ _ _)
  refine v_aload_n (i := 5) (j := 1) rfl rfl (?_ : ky_V _ _ _ 10 _ _ _ _)
  refine cl_X12_93 (As := []) rfl (i := 6) rfl (ky_strO hs1) rfl rfl (Nat.le_of_ble_eq_true rfl) (k_J0_length_8abf5 hG hs1 ⟨_, rfl, (?_ : ky_V _ _ _ 13 _ [.int ((Int32.ofNat (List.length b1))), .int (((c 0 10) - (c 0 12)))] _ _)⟩)
  refine v_icmp_ne (tgt := 20) (i := 7) rfl (by decide) (fun c1 => ?_) (fun c1 => ?_)
  · replace e := ky_ifF c1 e
    refine v_iconst (v := 0) (i := 10) rfl (by decide) (?_ : ky_V _ _ _ 21 _ _ _ _)
    refine v_istore_n (L' := [(0, .ref a), (1, .ref s1), (2, .int 0)]) [1, 2, 0] (i := 11) rfl (Nat.le_of_ble_eq_true rfl) rfl (?_ : ky_V _ _ _ 22 _ _ _ _)
    refine v_iconst (v := 0) (i := 12) rfl (by decide) (?_ : ky_V _ _ _ 23 _ _ _ _)
    refine v_istore_n (L' := [(0, .ref a), (1, .ref s1), (2, .int 0), (3, .int 0)]) [1, 2, 3, 0] (i := 13) rfl (Nat.le_of_ble_eq_true rfl) rfl (?_ : ky_V _ _ _ 24 _ _ _ _)
    refine lv_X12_isWord_24 N hG b1 hs1 _ hr (fun h2 q3 x4 x5 hmh2 frh2 e => ?_) N h c 0 0 hm fr e
    refine v_iload_n (i := 37) (j := 2) rfl rfl (?_ : ky_V _ _ _ 68 _ _ _ _)
    obtain ⟨z6, e⟩ := ky_chkE e
    refine v_iret (v := x4) (ty := .boolean) (i := 38) rfl rfl (ky_nb z6) ?_
    obtain ⟨rfl, rfl⟩ := ky_leaf e
    exact hr _ hmh2 frh2
  · replace e := ky_ifT c1 e
    refine v_iconst (v := 1) (i := 8) rfl (by decide) (?_ : ky_V _ _ _ 17 _ _ _ _)
    refine v_goto (tgt := 21) (i := 9) rfl (by decide) (?_ : ky_V _ _ _ 21 _ _ _ _)
    refine v_istore_n (L' := [(0, .ref a), (1, .ref s1), (2, .int 1)]) [1, 2, 0] (i := 11) rfl (Nat.le_of_ble_eq_true rfl) rfl (?_ : ky_V _ _ _ 22 _ _ _ _)
    refine v_iconst (v := 0) (i := 12) rfl (by decide) (?_ : ky_V _ _ _ 23 _ _ _ _)
    refine v_istore_n (L' := [(0, .ref a), (1, .ref s1), (2, .int 1), (3, .int 0)]) [1, 2, 3, 0] (i := 13) rfl (Nat.le_of_ble_eq_true rfl) rfl (?_ : ky_V _ _ _ 24 _ _ _ _)
    refine lv_X12_isWord_24 N hG b1 hs1 _ hr (fun h7 q8 x9 x10 hmh7 frh7 e => ?_) N h c 1 0 hm fr e
    refine v_iload_n (i := 37) (j := 2) rfl rfl (?_ : ky_V _ _ _ 68 _ _ _ _)
    obtain ⟨z11, e⟩ := ky_chkE e
    refine v_iret (v := x9) (ty := .boolean) (i := 38) rfl rfl (ky_nb z11) ?_
    obtain ⟨rfl, rfl⟩ := ky_leaf e
    exact hr _ hmh7 frh7

def md_passes (N : Nat)  (c : (Nat → Nat → Int32)) (b1 : List Int32) : Option ((Nat → Nat → Int32) × Int32) := ((md_letters N c).bind (fun zz => (fun q2 x3 => ((md_isWord N q2 b1).bind (fun zz => (fun q6 x7 => (if x7 = 0 then (ky_let (q6 0 12) (fun x10 => (ky_let (bk_w q6 0 10 x10) (fun q12 => (some (q12, 0)))))) else (some (q6, 1)))) zz.1 zz.2))) zz.1 zz.2))
set_option maxRecDepth 20000 in
set_option maxHeartbeats 4000000 in
theorem k_X12_passes {G : ky_GW} {d : Nat} {h : ky_HP} {Q : ky_RS → ky_HP → Prop} {a : Nat} {c c9 : (Nat → Nat → Int32)} {r9 : Int32} {b1 : List Int32} {s1 : Nat} (N : Nat) (hG : ky_OK G)   (hm : md_at G h a c) (hs1 : ky_Str G s1 b1) (e : md_passes N  c b1 = some (c9, r9)) (hr : ∀ h1, md_at G h1 a c9 → bk_fr a 13 h h1 → Q (.inl (some (.int r9))) h1) : ky_Call G (d + 5) M_X12_passes [.ref a, .ref s1] h Q := by
  refine ky_ofV (by decide +kernel) rfl ok_X12_passes (Nat.le_of_ble_eq_true rfl) ?_
  have fr : bk_fr a 13 h h := bk_fr.rf
  unfold md_passes at e
  refine (?_ : ky_V _ _ _ 0 [(0, .ref a), (1, .ref s1)] [] _ _)
  refine v_aload_n (i := 0) (j := 0) rfl rfl (?_ : ky_V _ _ _ 1 _ _ _ _)
  obtain ⟨⟨q2, x3⟩, g4, e⟩ := Option.bind_eq_some_iff.mp e
  refine cl_X12_102 (As := []) rfl (i := 1) rfl (md_0 hm) rfl rfl (Nat.le_of_ble_eq_true rfl) (k_X12_letters N hm g4 (fun h1 hmh1 frh1 => ⟨_, rfl, (?_ : ky_V _ _ _ 4 _ [] _ _)⟩))
  have frh1 := fr.tr frh1
  refine v_aload_n (i := 2) (j := 0) rfl rfl (?_ : ky_V _ _ _ 5 _ _ _ _)
  refine v_aload_n (i := 3) (j := 1) rfl rfl (?_ : ky_V _ _ _ 6 _ _ _ _)
  obtain ⟨⟨q6, x7⟩, g8, e⟩ := Option.bind_eq_some_iff.mp e
  refine cl_X12_105 (As := [.ref s1]) rfl (i := 4) rfl (md_0 hmh1) rfl rfl (Nat.le_of_ble_eq_true rfl) (k_X12_isWord N hG hmh1 hs1 g8 (fun h5 hmh5 frh5 => ⟨_, rfl, (?_ : ky_V _ _ _ 9 _ [.int x7] _ _)⟩))
  have frh5 := frh1.tr frh5
  refine v_if_eq (tgt := 14) (i := 5) rfl (by decide) (fun c9 => ?_) (fun c9 => ?_)
  · replace e := ky_ifT c9 e
    refine v_aload_n (i := 8) (j := 0) rfl rfl (?_ : ky_V _ _ _ 15 _ _ _ _)
    refine v_aload_n (i := 9) (j := 0) rfl rfl (?_ : ky_V _ _ _ 16 _ _ _ _)
    refine gf_X12_87 rfl (i := 10) rfl (md_0 hmh5) rfl (?_ : ky_V _ _ _ 19 _ _ _ _)
    refine v_topi (fun x10 ex10 => ?_)
    replace e := ky_letE ex10 e
    refine pf_X12_77 rfl (i := 11) rfl (md_0 hmh5) (Nat.le_of_ble_eq_true rfl) rfl rfl ?_
    refine bk_st (B := md_B G a) hmh5 frh5 0 10 x10 (by decide) (fun h11 hmh11 frh11 => ?_)
    obtain ⟨q12, eq12⟩ : ∃ z, z = (bk_w q6 0 10 x10) := ⟨_, rfl⟩
    rw [← eq12] at hmh11
    replace e := ky_letE eq12 e
    refine (?_ : ky_V _ _ _ 22 _ _ _ _)
    refine v_iconst (v := 0) (i := 12) rfl (by decide) (?_ : ky_V _ _ _ 23 _ _ _ _)
    refine v_iret (v := 0) (ty := .boolean) (i := 13) rfl rfl (by decide) ?_
    obtain ⟨rfl, rfl⟩ := ky_leaf e
    exact hr _ hmh11 frh11
  · replace e := ky_ifF c9 e
    refine v_iconst (v := 1) (i := 6) rfl (by decide) (?_ : ky_V _ _ _ 13 _ _ _ _)
    refine v_iret (v := 1) (ty := .boolean) (i := 7) rfl rfl (by decide) ?_
    obtain ⟨rfl, rfl⟩ := ky_leaf e
    exact hr _ hmh5 frh5

def md_after (N : Nat)  (c : (Nat → Nat → Int32)) (b1 : List Int32) (p2 : Int32) (p3 : Int32) : Option ((Nat → Nat → Int32) × Int32) := ((md_letters N c).bind (fun zz => (fun q2 x3 => ((md_isWord N q2 b1).bind (fun zz => (fun q6 x7 => (if x7 = 0 then (some (q6, (-1))) else ((md_number N q6 p2 p3).bind (fun zz => (fun q11 x12 => (some (q11, x12))) zz.1 zz.2)))) zz.1 zz.2))) zz.1 zz.2))
set_option maxRecDepth 20000 in
set_option maxHeartbeats 4000000 in
theorem k_X12_after {G : ky_GW} {d : Nat} {h : ky_HP} {Q : ky_RS → ky_HP → Prop} {a : Nat} {c c9 : (Nat → Nat → Int32)} {r9 : Int32} {b1 : List Int32} {p2 : Int32} {p3 : Int32} {s1 : Nat} (N : Nat) (hG : ky_OK G)   (hm : md_at G h a c) (hs1 : ky_Str G s1 b1) (e : md_after N  c b1 p2 p3 = some (c9, r9)) (hr : ∀ h1, md_at G h1 a c9 → bk_fr a 13 h h1 → Q (.inl (some (.int r9))) h1) : ky_Call G (d + 5) M_X12_after [.ref a, .ref s1, .int p2, .int p3] h Q := by
  refine ky_ofV (by decide +kernel) rfl ok_X12_after (Nat.le_of_ble_eq_true rfl) ?_
  have fr : bk_fr a 13 h h := bk_fr.rf
  unfold md_after at e
  refine (?_ : ky_V _ _ _ 0 [(0, .ref a), (1, .ref s1), (2, .int p2), (3, .int p3)] [] _ _)
  refine v_aload_n (i := 0) (j := 0) rfl rfl (?_ : ky_V _ _ _ 1 _ _ _ _)
  obtain ⟨⟨q2, x3⟩, g4, e⟩ := Option.bind_eq_some_iff.mp e
  refine cl_X12_102 (As := []) rfl (i := 1) rfl (md_0 hm) rfl rfl (Nat.le_of_ble_eq_true rfl) (k_X12_letters N hm g4 (fun h1 hmh1 frh1 => ⟨_, rfl, (?_ : ky_V _ _ _ 4 _ [] _ _)⟩))
  have frh1 := fr.tr frh1
  refine v_aload_n (i := 2) (j := 0) rfl rfl (?_ : ky_V _ _ _ 5 _ _ _ _)
  refine v_aload_n (i := 3) (j := 1) rfl rfl (?_ : ky_V _ _ _ 6 _ _ _ _)
  obtain ⟨⟨q6, x7⟩, g8, e⟩ := Option.bind_eq_some_iff.mp e
  refine cl_X12_105 (As := [.ref s1]) rfl (i := 4) rfl (md_0 hmh1) rfl rfl (Nat.le_of_ble_eq_true rfl) (k_X12_isWord N hG hmh1 hs1 g8 (fun h5 hmh5 frh5 => ⟨_, rfl, (?_ : ky_V _ _ _ 9 _ [.int x7] _ _)⟩))
  have frh5 := frh1.tr frh5
  refine v_if_eq (tgt := 21) (i := 5) rfl (by decide) (fun c9 => ?_) (fun c9 => ?_)
  · replace e := ky_ifT c9 e
    refine v_iconst (v := (-1)) (i := 11) rfl (by decide) (?_ : ky_V _ _ _ 22 _ _ _ _)
    refine v_iret (v := (-1)) (ty := .int) (i := 12) rfl rfl rfl ?_
    obtain ⟨rfl, rfl⟩ := ky_leaf e
    exact hr _ hmh5 frh5
  · replace e := ky_ifF c9 e
    refine v_aload_n (i := 6) (j := 0) rfl rfl (?_ : ky_V _ _ _ 13 _ _ _ _)
    refine v_iload_n (i := 7) (j := 2) rfl rfl (?_ : ky_V _ _ _ 14 _ _ _ _)
    refine v_iload_n (i := 8) (j := 3) rfl rfl (?_ : ky_V _ _ _ 15 _ _ _ _)
    obtain ⟨⟨q11, x12⟩, g13, e⟩ := Option.bind_eq_some_iff.mp e
    refine cl_X12_109 (As := [.int p2, .int p3]) rfl (i := 9) rfl (md_0 hmh5) rfl rfl (Nat.le_of_ble_eq_true rfl) (k_X12_number N hmh5 g13 (fun h10 hmh10 frh10 => ⟨_, rfl, (?_ : ky_V _ _ _ 18 _ [.int x12] _ _)⟩))
    have frh10 := frh5.tr frh10
    refine v_goto (tgt := 22) (i := 10) rfl (by decide) (?_ : ky_V _ _ _ 22 _ _ _ _)
    refine v_iret (v := x12) (ty := .int) (i := 12) rfl rfl rfl ?_
    obtain ⟨rfl, rfl⟩ := ky_leaf e
    exact hr _ hmh10 frh10

def md_readMove (N : Nat)  (c : (Nat → Nat → Int32))  : Option ((Nat → Nat → Int32) × Int32) := ((md_number N c 0 6).bind (fun zz => (fun q2 x3 => (if 0 ≤ x3 then ((md_after N q2 ([117, 112] : List Int32) 0 9).bind (fun zz => (fun q8 x9 => (if 0 ≤ x9 then ((md_after N q8 ([100, 111, 119, 110] : List Int32) 0 9).bind (fun zz => (fun q14 x15 => (if 0 ≤ x15 then ((md_after N q14 ([115, 116, 105, 114, 115] : List Int32) 0 5).bind (fun zz => (fun q20 x21 => (if 0 ≤ x21 then ((md_after N q20 ([116, 97, 107, 101, 115] : List Int32) 1 30).bind (fun zz => (fun q26 x27 => (if 0 ≤ x27 then (ky_let (17 + (4 * x3)) (fun x30 => (if ky_inB (x30 + 0) 2247 = true then (ky_let (bk_w q26 1 (Int32.toNatClampNeg (x30 + 0)) x9) (fun q33 => (if ky_inB (x30 + 1) 2247 = true then (ky_let (bk_w q33 1 (Int32.toNatClampNeg (x30 + 1)) x15) (fun q36 => (if ky_inB (x30 + 2) 2247 = true then (ky_let (bk_w q36 1 (Int32.toNatClampNeg (x30 + 2)) x21) (fun q39 => (if ky_inB (x30 + 3) 2247 = true then (ky_let (bk_w q39 1 (Int32.toNatClampNeg (x30 + 3)) x27) (fun q42 => (some (q42, 1)))) else none))) else none))) else none))) else none))) else (some (q26, 0)))) zz.1 zz.2)) else (if 0 ≤ (-1 : Int32) then (ky_let (17 + (4 * x3)) (fun x44 => (if ky_inB (x44 + 0) 2247 = true then (ky_let (bk_w q20 1 (Int32.toNatClampNeg (x44 + 0)) x9) (fun q47 => (if ky_inB (x44 + 1) 2247 = true then (ky_let (bk_w q47 1 (Int32.toNatClampNeg (x44 + 1)) x15) (fun q50 => (if ky_inB (x44 + 2) 2247 = true then (ky_let (bk_w q50 1 (Int32.toNatClampNeg (x44 + 2)) x21) (fun q53 => (if ky_inB (x44 + 3) 2247 = true then (ky_let (bk_w q53 1 (Int32.toNatClampNeg (x44 + 3)) (-1)) (fun q56 => (some (q56, 1)))) else none))) else none))) else none))) else none))) else (some (q20, 0))))) zz.1 zz.2)) else (if 0 ≤ (-1 : Int32) then ((md_after N q14 ([116, 97, 107, 101, 115] : List Int32) 1 30).bind (fun zz => (fun q60 x61 => (if 0 ≤ x61 then (ky_let (17 + (4 * x3)) (fun x64 => (if ky_inB (x64 + 0) 2247 = true then (ky_let (bk_w q60 1 (Int32.toNatClampNeg (x64 + 0)) x9) (fun q67 => (if ky_inB (x64 + 1) 2247 = true then (ky_let (bk_w q67 1 (Int32.toNatClampNeg (x64 + 1)) x15) (fun q70 => (if ky_inB (x64 + 2) 2247 = true then (ky_let (bk_w q70 1 (Int32.toNatClampNeg (x64 + 2)) (-1)) (fun q73 => (if ky_inB (x64 + 3) 2247 = true then (ky_let (bk_w q73 1 (Int32.toNatClampNeg (x64 + 3)) x61) (fun q76 => (some (q76, 1)))) else none))) else none))) else none))) else none))) else (some (q60, 0)))) zz.1 zz.2)) else (if 0 ≤ (-1 : Int32) then (ky_let (17 + (4 * x3)) (fun x78 => (if ky_inB (x78 + 0) 2247 = true then (ky_let (bk_w q14 1 (Int32.toNatClampNeg (x78 + 0)) x9) (fun q81 => (if ky_inB (x78 + 1) 2247 = true then (ky_let (bk_w q81 1 (Int32.toNatClampNeg (x78 + 1)) x15) (fun q84 => (if ky_inB (x78 + 2) 2247 = true then (ky_let (bk_w q84 1 (Int32.toNatClampNeg (x78 + 2)) (-1)) (fun q87 => (if ky_inB (x78 + 3) 2247 = true then (ky_let (bk_w q87 1 (Int32.toNatClampNeg (x78 + 3)) (-1)) (fun q90 => (some (q90, 1)))) else none))) else none))) else none))) else none))) else (some (q14, 0)))))) zz.1 zz.2)) else (if 0 ≤ (-1 : Int32) then ((md_after N q8 ([115, 116, 105, 114, 115] : List Int32) 0 5).bind (fun zz => (fun q94 x95 => (if 0 ≤ x95 then ((md_after N q94 ([116, 97, 107, 101, 115] : List Int32) 1 30).bind (fun zz => (fun q100 x101 => (if 0 ≤ x101 then (ky_let (17 + (4 * x3)) (fun x104 => (if ky_inB (x104 + 0) 2247 = true then (ky_let (bk_w q100 1 (Int32.toNatClampNeg (x104 + 0)) x9) (fun q107 => (if ky_inB (x104 + 1) 2247 = true then (ky_let (bk_w q107 1 (Int32.toNatClampNeg (x104 + 1)) (-1)) (fun q110 => (if ky_inB (x104 + 2) 2247 = true then (ky_let (bk_w q110 1 (Int32.toNatClampNeg (x104 + 2)) x95) (fun q113 => (if ky_inB (x104 + 3) 2247 = true then (ky_let (bk_w q113 1 (Int32.toNatClampNeg (x104 + 3)) x101) (fun q116 => (some (q116, 1)))) else none))) else none))) else none))) else none))) else (some (q100, 0)))) zz.1 zz.2)) else (if 0 ≤ (-1 : Int32) then (ky_let (17 + (4 * x3)) (fun x118 => (if ky_inB (x118 + 0) 2247 = true then (ky_let (bk_w q94 1 (Int32.toNatClampNeg (x118 + 0)) x9) (fun q121 => (if ky_inB (x118 + 1) 2247 = true then (ky_let (bk_w q121 1 (Int32.toNatClampNeg (x118 + 1)) (-1)) (fun q124 => (if ky_inB (x118 + 2) 2247 = true then (ky_let (bk_w q124 1 (Int32.toNatClampNeg (x118 + 2)) x95) (fun q127 => (if ky_inB (x118 + 3) 2247 = true then (ky_let (bk_w q127 1 (Int32.toNatClampNeg (x118 + 3)) (-1)) (fun q130 => (some (q130, 1)))) else none))) else none))) else none))) else none))) else (some (q94, 0))))) zz.1 zz.2)) else (if 0 ≤ (-1 : Int32) then ((md_after N q8 ([116, 97, 107, 101, 115] : List Int32) 1 30).bind (fun zz => (fun q134 x135 => (if 0 ≤ x135 then (ky_let (17 + (4 * x3)) (fun x138 => (if ky_inB (x138 + 0) 2247 = true then (ky_let (bk_w q134 1 (Int32.toNatClampNeg (x138 + 0)) x9) (fun q141 => (if ky_inB (x138 + 1) 2247 = true then (ky_let (bk_w q141 1 (Int32.toNatClampNeg (x138 + 1)) (-1)) (fun q144 => (if ky_inB (x138 + 2) 2247 = true then (ky_let (bk_w q144 1 (Int32.toNatClampNeg (x138 + 2)) (-1)) (fun q147 => (if ky_inB (x138 + 3) 2247 = true then (ky_let (bk_w q147 1 (Int32.toNatClampNeg (x138 + 3)) x135) (fun q150 => (some (q150, 1)))) else none))) else none))) else none))) else none))) else (some (q134, 0)))) zz.1 zz.2)) else (if 0 ≤ (-1 : Int32) then (ky_let (17 + (4 * x3)) (fun x152 => (if ky_inB (x152 + 0) 2247 = true then (ky_let (bk_w q8 1 (Int32.toNatClampNeg (x152 + 0)) x9) (fun q155 => (if ky_inB (x152 + 1) 2247 = true then (ky_let (bk_w q155 1 (Int32.toNatClampNeg (x152 + 1)) (-1)) (fun q158 => (if ky_inB (x152 + 2) 2247 = true then (ky_let (bk_w q158 1 (Int32.toNatClampNeg (x152 + 2)) (-1)) (fun q161 => (if ky_inB (x152 + 3) 2247 = true then (ky_let (bk_w q161 1 (Int32.toNatClampNeg (x152 + 3)) (-1)) (fun q164 => (some (q164, 1)))) else none))) else none))) else none))) else none))) else (some (q8, 0))))))) zz.1 zz.2)) else (if 0 ≤ (-1 : Int32) then ((md_after N q2 ([100, 111, 119, 110] : List Int32) 0 9).bind (fun zz => (fun q168 x169 => (if 0 ≤ x169 then ((md_after N q168 ([115, 116, 105, 114, 115] : List Int32) 0 5).bind (fun zz => (fun q174 x175 => (if 0 ≤ x175 then ((md_after N q174 ([116, 97, 107, 101, 115] : List Int32) 1 30).bind (fun zz => (fun q180 x181 => (if 0 ≤ x181 then (ky_let (17 + (4 * x3)) (fun x184 => (if ky_inB (x184 + 0) 2247 = true then (ky_let (bk_w q180 1 (Int32.toNatClampNeg (x184 + 0)) (-1)) (fun q187 => (if ky_inB (x184 + 1) 2247 = true then (ky_let (bk_w q187 1 (Int32.toNatClampNeg (x184 + 1)) x169) (fun q190 => (if ky_inB (x184 + 2) 2247 = true then (ky_let (bk_w q190 1 (Int32.toNatClampNeg (x184 + 2)) x175) (fun q193 => (if ky_inB (x184 + 3) 2247 = true then (ky_let (bk_w q193 1 (Int32.toNatClampNeg (x184 + 3)) x181) (fun q196 => (some (q196, 1)))) else none))) else none))) else none))) else none))) else (some (q180, 0)))) zz.1 zz.2)) else (if 0 ≤ (-1 : Int32) then (ky_let (17 + (4 * x3)) (fun x198 => (if ky_inB (x198 + 0) 2247 = true then (ky_let (bk_w q174 1 (Int32.toNatClampNeg (x198 + 0)) (-1)) (fun q201 => (if ky_inB (x198 + 1) 2247 = true then (ky_let (bk_w q201 1 (Int32.toNatClampNeg (x198 + 1)) x169) (fun q204 => (if ky_inB (x198 + 2) 2247 = true then (ky_let (bk_w q204 1 (Int32.toNatClampNeg (x198 + 2)) x175) (fun q207 => (if ky_inB (x198 + 3) 2247 = true then (ky_let (bk_w q207 1 (Int32.toNatClampNeg (x198 + 3)) (-1)) (fun q210 => (some (q210, 1)))) else none))) else none))) else none))) else none))) else (some (q174, 0))))) zz.1 zz.2)) else (if 0 ≤ (-1 : Int32) then ((md_after N q168 ([116, 97, 107, 101, 115] : List Int32) 1 30).bind (fun zz => (fun q214 x215 => (if 0 ≤ x215 then (ky_let (17 + (4 * x3)) (fun x218 => (if ky_inB (x218 + 0) 2247 = true then (ky_let (bk_w q214 1 (Int32.toNatClampNeg (x218 + 0)) (-1)) (fun q221 => (if ky_inB (x218 + 1) 2247 = true then (ky_let (bk_w q221 1 (Int32.toNatClampNeg (x218 + 1)) x169) (fun q224 => (if ky_inB (x218 + 2) 2247 = true then (ky_let (bk_w q224 1 (Int32.toNatClampNeg (x218 + 2)) (-1)) (fun q227 => (if ky_inB (x218 + 3) 2247 = true then (ky_let (bk_w q227 1 (Int32.toNatClampNeg (x218 + 3)) x215) (fun q230 => (some (q230, 1)))) else none))) else none))) else none))) else none))) else (some (q214, 0)))) zz.1 zz.2)) else (if 0 ≤ (-1 : Int32) then (ky_let (17 + (4 * x3)) (fun x232 => (if ky_inB (x232 + 0) 2247 = true then (ky_let (bk_w q168 1 (Int32.toNatClampNeg (x232 + 0)) (-1)) (fun q235 => (if ky_inB (x232 + 1) 2247 = true then (ky_let (bk_w q235 1 (Int32.toNatClampNeg (x232 + 1)) x169) (fun q238 => (if ky_inB (x232 + 2) 2247 = true then (ky_let (bk_w q238 1 (Int32.toNatClampNeg (x232 + 2)) (-1)) (fun q241 => (if ky_inB (x232 + 3) 2247 = true then (ky_let (bk_w q241 1 (Int32.toNatClampNeg (x232 + 3)) (-1)) (fun q244 => (some (q244, 1)))) else none))) else none))) else none))) else none))) else (some (q168, 0)))))) zz.1 zz.2)) else (if 0 ≤ (-1 : Int32) then ((md_after N q2 ([115, 116, 105, 114, 115] : List Int32) 0 5).bind (fun zz => (fun q248 x249 => (if 0 ≤ x249 then ((md_after N q248 ([116, 97, 107, 101, 115] : List Int32) 1 30).bind (fun zz => (fun q254 x255 => (if 0 ≤ x255 then (ky_let (17 + (4 * x3)) (fun x258 => (if ky_inB (x258 + 0) 2247 = true then (ky_let (bk_w q254 1 (Int32.toNatClampNeg (x258 + 0)) (-1)) (fun q261 => (if ky_inB (x258 + 1) 2247 = true then (ky_let (bk_w q261 1 (Int32.toNatClampNeg (x258 + 1)) (-1)) (fun q264 => (if ky_inB (x258 + 2) 2247 = true then (ky_let (bk_w q264 1 (Int32.toNatClampNeg (x258 + 2)) x249) (fun q267 => (if ky_inB (x258 + 3) 2247 = true then (ky_let (bk_w q267 1 (Int32.toNatClampNeg (x258 + 3)) x255) (fun q270 => (some (q270, 1)))) else none))) else none))) else none))) else none))) else (some (q254, 0)))) zz.1 zz.2)) else (if 0 ≤ (-1 : Int32) then (ky_let (17 + (4 * x3)) (fun x272 => (if ky_inB (x272 + 0) 2247 = true then (ky_let (bk_w q248 1 (Int32.toNatClampNeg (x272 + 0)) (-1)) (fun q275 => (if ky_inB (x272 + 1) 2247 = true then (ky_let (bk_w q275 1 (Int32.toNatClampNeg (x272 + 1)) (-1)) (fun q278 => (if ky_inB (x272 + 2) 2247 = true then (ky_let (bk_w q278 1 (Int32.toNatClampNeg (x272 + 2)) x249) (fun q281 => (if ky_inB (x272 + 3) 2247 = true then (ky_let (bk_w q281 1 (Int32.toNatClampNeg (x272 + 3)) (-1)) (fun q284 => (some (q284, 1)))) else none))) else none))) else none))) else none))) else (some (q248, 0))))) zz.1 zz.2)) else (if 0 ≤ (-1 : Int32) then ((md_after N q2 ([116, 97, 107, 101, 115] : List Int32) 1 30).bind (fun zz => (fun q288 x289 => (if 0 ≤ x289 then (ky_let (17 + (4 * x3)) (fun x292 => (if ky_inB (x292 + 0) 2247 = true then (ky_let (bk_w q288 1 (Int32.toNatClampNeg (x292 + 0)) (-1)) (fun q295 => (if ky_inB (x292 + 1) 2247 = true then (ky_let (bk_w q295 1 (Int32.toNatClampNeg (x292 + 1)) (-1)) (fun q298 => (if ky_inB (x292 + 2) 2247 = true then (ky_let (bk_w q298 1 (Int32.toNatClampNeg (x292 + 2)) (-1)) (fun q301 => (if ky_inB (x292 + 3) 2247 = true then (ky_let (bk_w q301 1 (Int32.toNatClampNeg (x292 + 3)) x289) (fun q304 => (some (q304, 1)))) else none))) else none))) else none))) else none))) else (some (q288, 0)))) zz.1 zz.2)) else (if 0 ≤ (-1 : Int32) then (ky_let (17 + (4 * x3)) (fun x306 => (if ky_inB (x306 + 0) 2247 = true then (ky_let (bk_w q2 1 (Int32.toNatClampNeg (x306 + 0)) (-1)) (fun q309 => (if ky_inB (x306 + 1) 2247 = true then (ky_let (bk_w q309 1 (Int32.toNatClampNeg (x306 + 1)) (-1)) (fun q312 => (if ky_inB (x306 + 2) 2247 = true then (ky_let (bk_w q312 1 (Int32.toNatClampNeg (x306 + 2)) (-1)) (fun q315 => (if ky_inB (x306 + 3) 2247 = true then (ky_let (bk_w q315 1 (Int32.toNatClampNeg (x306 + 3)) (-1)) (fun q318 => (some (q318, 1)))) else none))) else none))) else none))) else none))) else (some (q2, 0)))))))) zz.1 zz.2))
set_option maxRecDepth 20000 in
set_option maxHeartbeats 4000000 in
theorem k_X12_readMove {G : ky_GW} {d : Nat} {h : ky_HP} {Q : ky_RS → ky_HP → Prop} {a : Nat} {c c9 : (Nat → Nat → Int32)} {r9 : Int32}  (N : Nat) (hG : ky_OK G)   (hm : md_at G h a c)  (e : md_readMove N  c = some (c9, r9)) (hr : ∀ h1, md_at G h1 a c9 → bk_fr a 13 h h1 → Q (.inl (some (.int r9))) h1) : ky_Call G (d + 6) M_X12_readMove [.ref a] h Q := by
  refine ky_ofV (by decide +kernel) rfl ok_X12_readMove (Nat.le_of_ble_eq_true rfl) ?_
  have fr : bk_fr a 13 h h := bk_fr.rf
  unfold md_readMove at e
  refine (?_ : ky_V _ _ _ 0 [(0, .ref a)] [] _ _)
  refine v_aload_n (i := 0) (j := 0) rfl rfl (?_ : ky_V _ _ _ 1 _ _ _ _)
  refine v_iconst (v := 0) (i := 1) rfl (by decide) (?_ : ky_V _ _ _ 2 _ _ _ _)
  refine v_bipush (v := 6) (i := 2) rfl (by decide) (?_ : ky_V _ _ _ 4 _ _ _ _)
  obtain ⟨⟨q2, x3⟩, g4, e⟩ := Option.bind_eq_some_iff.mp e
  refine cl_X12_109 (As := [.int 0, .int 6]) rfl (i := 3) rfl (md_0 hm) rfl rfl (Nat.le_of_ble_eq_true rfl) (k_X12_number N hm g4 (fun h1 hmh1 frh1 => ⟨_, rfl, (?_ : ky_V _ _ _ 7 _ [.int x3] _ _)⟩))
  have frh1 := fr.tr frh1
  refine v_istore_n (L' := [(0, .ref a), (1, .int x3)]) [1, 0] (i := 4) rfl (Nat.le_of_ble_eq_true rfl) rfl (?_ : ky_V _ _ _ 8 _ _ _ _)
  refine v_iload_n (i := 5) (j := 1) rfl rfl (?_ : ky_V _ _ _ 9 _ _ _ _)
  refine v_if_ge (tgt := 16) (i := 6) rfl (by decide) (fun c5 => ?_) (fun c5 => ?_)
  · replace e := ky_ifT c5 e
    refine v_aload_n (i := 9) (j := 0) rfl rfl (?_ : ky_V _ _ _ 17 _ _ _ _)
    obtain ⟨s6, hvs6, hss6⟩ := sg_X12_113 hG
    refine v_ldcS (i := 10) hvs6 rfl (?_ : ky_V _ _ _ 19 _ _ _ _)
    refine v_iconst (v := 0) (i := 11) rfl (by decide) (?_ : ky_V _ _ _ 20 _ _ _ _)
    refine v_bipush (v := 9) (i := 12) rfl (by decide) (?_ : ky_V _ _ _ 22 _ _ _ _)
    obtain ⟨⟨q8, x9⟩, g10, e⟩ := Option.bind_eq_some_iff.mp e
    refine cl_X12_115 (As := [.ref s6, .int 0, .int 9]) rfl (i := 13) rfl (md_0 hmh1) rfl rfl (Nat.le_of_ble_eq_true rfl) (k_X12_after N hG hmh1 hss6 g10 (fun h7 hmh7 frh7 => ⟨_, rfl, (?_ : ky_V _ _ _ 25 _ [.int x9] _ _)⟩))
    have frh7 := frh1.tr frh7
    refine v_istore_n (L' := [(0, .ref a), (1, .int x3), (2, .int x9)]) [1, 2, 0] (i := 14) rfl (Nat.le_of_ble_eq_true rfl) rfl (?_ : ky_V _ _ _ 26 _ _ _ _)
    refine v_iload_n (i := 15) (j := 2) rfl rfl (?_ : ky_V _ _ _ 27 _ _ _ _)
    refine v_if_ge (tgt := 34) (i := 16) rfl (by decide) (fun c11 => ?_) (fun c11 => ?_)
    · replace e := ky_ifT c11 e
      refine v_aload_n (i := 19) (j := 0) rfl rfl (?_ : ky_V _ _ _ 35 _ _ _ _)
      obtain ⟨s12, hvs12, hss12⟩ := sg_X12_119 hG
      refine v_ldcS (i := 20) hvs12 rfl (?_ : ky_V _ _ _ 37 _ _ _ _)
      refine v_iconst (v := 0) (i := 21) rfl (by decide) (?_ : ky_V _ _ _ 38 _ _ _ _)
      refine v_bipush (v := 9) (i := 22) rfl (by decide) (?_ : ky_V _ _ _ 40 _ _ _ _)
      obtain ⟨⟨q14, x15⟩, g16, e⟩ := Option.bind_eq_some_iff.mp e
      refine cl_X12_115 (As := [.ref s12, .int 0, .int 9]) rfl (i := 23) rfl (md_0 hmh7) rfl rfl (Nat.le_of_ble_eq_true rfl) (k_X12_after N hG hmh7 hss12 g16 (fun h13 hmh13 frh13 => ⟨_, rfl, (?_ : ky_V _ _ _ 43 _ [.int x15] _ _)⟩))
      have frh13 := frh7.tr frh13
      refine v_istore_n (L' := [(0, .ref a), (1, .int x3), (2, .int x9), (3, .int x15)]) [1, 2, 3, 0] (i := 24) rfl (Nat.le_of_ble_eq_true rfl) rfl (?_ : ky_V _ _ _ 44 _ _ _ _)
      refine v_iload_n (i := 25) (j := 3) rfl rfl (?_ : ky_V _ _ _ 45 _ _ _ _)
      refine v_if_ge (tgt := 52) (i := 26) rfl (by decide) (fun c17 => ?_) (fun c17 => ?_)
      · replace e := ky_ifT c17 e
        refine v_aload_n (i := 29) (j := 0) rfl rfl (?_ : ky_V _ _ _ 53 _ _ _ _)
        obtain ⟨s18, hvs18, hss18⟩ := sg_X12_121 hG
        refine v_ldcS (i := 30) hvs18 rfl (?_ : ky_V _ _ _ 55 _ _ _ _)
        refine v_iconst (v := 0) (i := 31) rfl (by decide) (?_ : ky_V _ _ _ 56 _ _ _ _)
        refine v_iconst (v := 5) (i := 32) rfl (by decide) (?_ : ky_V _ _ _ 57 _ _ _ _)
        obtain ⟨⟨q20, x21⟩, g22, e⟩ := Option.bind_eq_some_iff.mp e
        refine cl_X12_115 (As := [.ref s18, .int 0, .int 5]) rfl (i := 33) rfl (md_0 hmh13) rfl rfl (Nat.le_of_ble_eq_true rfl) (k_X12_after N hG hmh13 hss18 g22 (fun h19 hmh19 frh19 => ⟨_, rfl, (?_ : ky_V _ _ _ 60 _ [.int x21] _ _)⟩))
        have frh19 := frh13.tr frh19
        refine v_istore (L' := [(0, .ref a), (1, .int x3), (2, .int x9), (3, .int x15), (4, .int x21)]) [1, 2, 3, 4, 0] (i := 34) rfl (Nat.le_of_ble_eq_true rfl) rfl (?_ : ky_V _ _ _ 62 _ _ _ _)
        refine v_iload (i := 35) (j := 4) rfl rfl (?_ : ky_V _ _ _ 64 _ _ _ _)
        refine v_if_ge (tgt := 71) (i := 36) rfl (by decide) (fun c23 => ?_) (fun c23 => ?_)
        · replace e := ky_ifT c23 e
          refine v_aload_n (i := 39) (j := 0) rfl rfl (?_ : ky_V _ _ _ 72 _ _ _ _)
          obtain ⟨s24, hvs24, hss24⟩ := sg_X12_123 hG
          refine v_ldcS (i := 40) hvs24 rfl (?_ : ky_V _ _ _ 74 _ _ _ _)
          refine v_iconst (v := 1) (i := 41) rfl (by decide) (?_ : ky_V _ _ _ 75 _ _ _ _)
          refine v_bipush (v := 30) (i := 42) rfl (by decide) (?_ : ky_V _ _ _ 77 _ _ _ _)
          obtain ⟨⟨q26, x27⟩, g28, e⟩ := Option.bind_eq_some_iff.mp e
          refine cl_X12_115 (As := [.ref s24, .int 1, .int 30]) rfl (i := 43) rfl (md_0 hmh19) rfl rfl (Nat.le_of_ble_eq_true rfl) (k_X12_after N hG hmh19 hss24 g28 (fun h25 hmh25 frh25 => ⟨_, rfl, (?_ : ky_V _ _ _ 80 _ [.int x27] _ _)⟩))
          have frh25 := frh19.tr frh25
          refine v_istore (L' := [(0, .ref a), (1, .int x3), (2, .int x9), (3, .int x15), (4, .int x21), (5, .int x27)]) [1, 2, 3, 4, 5, 0] (i := 44) rfl (Nat.le_of_ble_eq_true rfl) rfl (?_ : ky_V _ _ _ 82 _ _ _ _)
          refine v_iload (i := 45) (j := 5) rfl rfl (?_ : ky_V _ _ _ 84 _ _ _ _)
          refine v_if_ge (tgt := 89) (i := 46) rfl (by decide) (fun c29 => ?_) (fun c29 => ?_)
          · replace e := ky_ifT c29 e
            refine v_bipush (v := 17) (i := 49) rfl (by decide) (?_ : ky_V _ _ _ 91 _ _ _ _)
            refine v_iconst (v := 4) (i := 50) rfl (by decide) (?_ : ky_V _ _ _ 92 _ _ _ _)
            refine v_iload_n (i := 51) (j := 1) rfl rfl (?_ : ky_V _ _ _ 93 _ _ _ _)
            refine v_imul (i := 52) rfl (?_ : ky_V _ _ _ 94 _ _ _ _)
            refine v_iadd (i := 53) rfl (?_ : ky_V _ _ _ 95 _ _ _ _)
            refine v_topi (fun x30 ex30 => ?_)
            replace e := ky_letE ex30 e
            refine v_istore (L' := [(0, .ref a), (1, .int x3), (2, .int x9), (3, .int x15), (4, .int x21), (5, .int x27), (6, .int x30)]) [1, 2, 3, 4, 5, 6, 0] (i := 54) rfl (Nat.le_of_ble_eq_true rfl) rfl (?_ : ky_V _ _ _ 97 _ _ _ _)
            refine v_aload_n (i := 55) (j := 0) rfl rfl (?_ : ky_V _ _ _ 98 _ _ _ _)
            refine gf_X12_13 rfl (i := 56) rfl (md_0 hmh25) rfl (?_ : ky_V _ _ _ 101 _ _ _ _)
            refine v_iload (i := 57) (j := 6) rfl rfl (?_ : ky_V _ _ _ 103 _ _ _ _)
            refine v_iconst (v := 0) (i := 58) rfl (by decide) (?_ : ky_V _ _ _ 104 _ _ _ _)
            refine v_iadd (i := 59) rfl (?_ : ky_V _ _ _ 105 _ _ _ _)
            refine v_iload_n (i := 60) (j := 2) rfl rfl (?_ : ky_V _ _ _ 106 _ _ _ _)
            obtain ⟨z31, e⟩ := ky_chkE e
            refine v_iast (i := 61) rfl (md_1 hmh25) (ky_inb z31) ?_
            refine bk_st (B := md_B G a) hmh25 frh25 1 (Int32.toNatClampNeg (x30 + 0)) x9 (by decide) (fun h32 hmh32 frh32 => ?_)
            obtain ⟨q33, eq33⟩ : ∃ z, z = (bk_w q26 1 (Int32.toNatClampNeg (x30 + 0)) x9) := ⟨_, rfl⟩
            rw [← eq33] at hmh32
            replace e := ky_letE eq33 e
            refine (?_ : ky_V _ _ _ 107 _ _ _ _)
            refine v_aload_n (i := 62) (j := 0) rfl rfl (?_ : ky_V _ _ _ 108 _ _ _ _)
            refine gf_X12_13 rfl (i := 63) rfl (md_0 hmh32) rfl (?_ : ky_V _ _ _ 111 _ _ _ _)
            refine v_iload (i := 64) (j := 6) rfl rfl (?_ : ky_V _ _ _ 113 _ _ _ _)
            refine v_iconst (v := 1) (i := 65) rfl (by decide) (?_ : ky_V _ _ _ 114 _ _ _ _)
            refine v_iadd (i := 66) rfl (?_ : ky_V _ _ _ 115 _ _ _ _)
            refine v_iload_n (i := 67) (j := 3) rfl rfl (?_ : ky_V _ _ _ 116 _ _ _ _)
            obtain ⟨z34, e⟩ := ky_chkE e
            refine v_iast (i := 68) rfl (md_1 hmh32) (ky_inb z34) ?_
            refine bk_st (B := md_B G a) hmh32 frh32 1 (Int32.toNatClampNeg (x30 + 1)) x15 (by decide) (fun h35 hmh35 frh35 => ?_)
            obtain ⟨q36, eq36⟩ : ∃ z, z = (bk_w q33 1 (Int32.toNatClampNeg (x30 + 1)) x15) := ⟨_, rfl⟩
            rw [← eq36] at hmh35
            replace e := ky_letE eq36 e
            refine (?_ : ky_V _ _ _ 117 _ _ _ _)
            refine v_aload_n (i := 69) (j := 0) rfl rfl (?_ : ky_V _ _ _ 118 _ _ _ _)
            refine gf_X12_13 rfl (i := 70) rfl (md_0 hmh35) rfl (?_ : ky_V _ _ _ 121 _ _ _ _)
            refine v_iload (i := 71) (j := 6) rfl rfl (?_ : ky_V _ _ _ 123 _ _ _ _)
            refine v_iconst (v := 2) (i := 72) rfl (by decide) (?_ : ky_V _ _ _ 124 _ _ _ _)
            refine v_iadd (i := 73) rfl (?_ : ky_V _ _ _ 125 _ _ _ _)
            refine v_iload (i := 74) (j := 4) rfl rfl (?_ : ky_V _ _ _ 127 _ _ _ _)
            obtain ⟨z37, e⟩ := ky_chkE e
            refine v_iast (i := 75) rfl (md_1 hmh35) (ky_inb z37) ?_
            refine bk_st (B := md_B G a) hmh35 frh35 1 (Int32.toNatClampNeg (x30 + 2)) x21 (by decide) (fun h38 hmh38 frh38 => ?_)
            obtain ⟨q39, eq39⟩ : ∃ z, z = (bk_w q36 1 (Int32.toNatClampNeg (x30 + 2)) x21) := ⟨_, rfl⟩
            rw [← eq39] at hmh38
            replace e := ky_letE eq39 e
            refine (?_ : ky_V _ _ _ 128 _ _ _ _)
            refine v_aload_n (i := 76) (j := 0) rfl rfl (?_ : ky_V _ _ _ 129 _ _ _ _)
            refine gf_X12_13 rfl (i := 77) rfl (md_0 hmh38) rfl (?_ : ky_V _ _ _ 132 _ _ _ _)
            refine v_iload (i := 78) (j := 6) rfl rfl (?_ : ky_V _ _ _ 134 _ _ _ _)
            refine v_iconst (v := 3) (i := 79) rfl (by decide) (?_ : ky_V _ _ _ 135 _ _ _ _)
            refine v_iadd (i := 80) rfl (?_ : ky_V _ _ _ 136 _ _ _ _)
            refine v_iload (i := 81) (j := 5) rfl rfl (?_ : ky_V _ _ _ 138 _ _ _ _)
            obtain ⟨z40, e⟩ := ky_chkE e
            refine v_iast (i := 82) rfl (md_1 hmh38) (ky_inb z40) ?_
            refine bk_st (B := md_B G a) hmh38 frh38 1 (Int32.toNatClampNeg (x30 + 3)) x27 (by decide) (fun h41 hmh41 frh41 => ?_)
            obtain ⟨q42, eq42⟩ : ∃ z, z = (bk_w q39 1 (Int32.toNatClampNeg (x30 + 3)) x27) := ⟨_, rfl⟩
            rw [← eq42] at hmh41
            replace e := ky_letE eq42 e
            refine (?_ : ky_V _ _ _ 139 _ _ _ _)
            refine v_iconst (v := 1) (i := 83) rfl (by decide) (?_ : ky_V _ _ _ 140 _ _ _ _)
            refine v_iret (v := 1) (ty := .boolean) (i := 84) rfl rfl (by decide) ?_
            obtain ⟨rfl, rfl⟩ := ky_leaf e
            exact hr _ hmh41 frh41
          · replace e := ky_ifF c29 e
            refine v_iconst (v := 0) (i := 47) rfl (by decide) (?_ : ky_V _ _ _ 88 _ _ _ _)
            refine v_iret (v := 0) (ty := .boolean) (i := 48) rfl rfl (by decide) ?_
            obtain ⟨rfl, rfl⟩ := ky_leaf e
            exact hr _ hmh25 frh25
        · replace e := ky_ifF c23 e
          refine v_iconst (v := (-1)) (i := 37) rfl (by decide) (?_ : ky_V _ _ _ 68 _ _ _ _)
          refine v_goto (tgt := 80) (i := 38) rfl (by decide) (?_ : ky_V _ _ _ 80 _ _ _ _)
          refine v_istore (L' := [(0, .ref a), (1, .int x3), (2, .int x9), (3, .int x15), (4, .int x21), (5, .int (-1))]) [1, 2, 3, 4, 5, 0] (i := 44) rfl (Nat.le_of_ble_eq_true rfl) rfl (?_ : ky_V _ _ _ 82 _ _ _ _)
          refine v_iload (i := 45) (j := 5) rfl rfl (?_ : ky_V _ _ _ 84 _ _ _ _)
          refine v_if_ge (tgt := 89) (i := 46) rfl (by decide) (fun c43 => ?_) (fun c43 => ?_)
          · replace e := ky_ifT c43 e
            refine v_bipush (v := 17) (i := 49) rfl (by decide) (?_ : ky_V _ _ _ 91 _ _ _ _)
            refine v_iconst (v := 4) (i := 50) rfl (by decide) (?_ : ky_V _ _ _ 92 _ _ _ _)
            refine v_iload_n (i := 51) (j := 1) rfl rfl (?_ : ky_V _ _ _ 93 _ _ _ _)
            refine v_imul (i := 52) rfl (?_ : ky_V _ _ _ 94 _ _ _ _)
            refine v_iadd (i := 53) rfl (?_ : ky_V _ _ _ 95 _ _ _ _)
            refine v_topi (fun x44 ex44 => ?_)
            replace e := ky_letE ex44 e
            refine v_istore (L' := [(0, .ref a), (1, .int x3), (2, .int x9), (3, .int x15), (4, .int x21), (5, .int (-1)), (6, .int x44)]) [1, 2, 3, 4, 5, 6, 0] (i := 54) rfl (Nat.le_of_ble_eq_true rfl) rfl (?_ : ky_V _ _ _ 97 _ _ _ _)
            refine v_aload_n (i := 55) (j := 0) rfl rfl (?_ : ky_V _ _ _ 98 _ _ _ _)
            refine gf_X12_13 rfl (i := 56) rfl (md_0 hmh19) rfl (?_ : ky_V _ _ _ 101 _ _ _ _)
            refine v_iload (i := 57) (j := 6) rfl rfl (?_ : ky_V _ _ _ 103 _ _ _ _)
            refine v_iconst (v := 0) (i := 58) rfl (by decide) (?_ : ky_V _ _ _ 104 _ _ _ _)
            refine v_iadd (i := 59) rfl (?_ : ky_V _ _ _ 105 _ _ _ _)
            refine v_iload_n (i := 60) (j := 2) rfl rfl (?_ : ky_V _ _ _ 106 _ _ _ _)
            obtain ⟨z45, e⟩ := ky_chkE e
            refine v_iast (i := 61) rfl (md_1 hmh19) (ky_inb z45) ?_
            refine bk_st (B := md_B G a) hmh19 frh19 1 (Int32.toNatClampNeg (x44 + 0)) x9 (by decide) (fun h46 hmh46 frh46 => ?_)
            obtain ⟨q47, eq47⟩ : ∃ z, z = (bk_w q20 1 (Int32.toNatClampNeg (x44 + 0)) x9) := ⟨_, rfl⟩
            rw [← eq47] at hmh46
            replace e := ky_letE eq47 e
            refine (?_ : ky_V _ _ _ 107 _ _ _ _)
            refine v_aload_n (i := 62) (j := 0) rfl rfl (?_ : ky_V _ _ _ 108 _ _ _ _)
            refine gf_X12_13 rfl (i := 63) rfl (md_0 hmh46) rfl (?_ : ky_V _ _ _ 111 _ _ _ _)
            refine v_iload (i := 64) (j := 6) rfl rfl (?_ : ky_V _ _ _ 113 _ _ _ _)
            refine v_iconst (v := 1) (i := 65) rfl (by decide) (?_ : ky_V _ _ _ 114 _ _ _ _)
            refine v_iadd (i := 66) rfl (?_ : ky_V _ _ _ 115 _ _ _ _)
            refine v_iload_n (i := 67) (j := 3) rfl rfl (?_ : ky_V _ _ _ 116 _ _ _ _)
            obtain ⟨z48, e⟩ := ky_chkE e
            refine v_iast (i := 68) rfl (md_1 hmh46) (ky_inb z48) ?_
            refine bk_st (B := md_B G a) hmh46 frh46 1 (Int32.toNatClampNeg (x44 + 1)) x15 (by decide) (fun h49 hmh49 frh49 => ?_)
            obtain ⟨q50, eq50⟩ : ∃ z, z = (bk_w q47 1 (Int32.toNatClampNeg (x44 + 1)) x15) := ⟨_, rfl⟩
            rw [← eq50] at hmh49
            replace e := ky_letE eq50 e
            refine (?_ : ky_V _ _ _ 117 _ _ _ _)
            refine v_aload_n (i := 69) (j := 0) rfl rfl (?_ : ky_V _ _ _ 118 _ _ _ _)
            refine gf_X12_13 rfl (i := 70) rfl (md_0 hmh49) rfl (?_ : ky_V _ _ _ 121 _ _ _ _)
            refine v_iload (i := 71) (j := 6) rfl rfl (?_ : ky_V _ _ _ 123 _ _ _ _)
            refine v_iconst (v := 2) (i := 72) rfl (by decide) (?_ : ky_V _ _ _ 124 _ _ _ _)
            refine v_iadd (i := 73) rfl (?_ : ky_V _ _ _ 125 _ _ _ _)
            refine v_iload (i := 74) (j := 4) rfl rfl (?_ : ky_V _ _ _ 127 _ _ _ _)
            obtain ⟨z51, e⟩ := ky_chkE e
            refine v_iast (i := 75) rfl (md_1 hmh49) (ky_inb z51) ?_
            refine bk_st (B := md_B G a) hmh49 frh49 1 (Int32.toNatClampNeg (x44 + 2)) x21 (by decide) (fun h52 hmh52 frh52 => ?_)
            obtain ⟨q53, eq53⟩ : ∃ z, z = (bk_w q50 1 (Int32.toNatClampNeg (x44 + 2)) x21) := ⟨_, rfl⟩
            rw [← eq53] at hmh52
            replace e := ky_letE eq53 e
            refine (?_ : ky_V _ _ _ 128 _ _ _ _)
            refine v_aload_n (i := 76) (j := 0) rfl rfl (?_ : ky_V _ _ _ 129 _ _ _ _)
            refine gf_X12_13 rfl (i := 77) rfl (md_0 hmh52) rfl (?_ : ky_V _ _ _ 132 _ _ _ _)
            refine v_iload (i := 78) (j := 6) rfl rfl (?_ : ky_V _ _ _ 134 _ _ _ _)
            refine v_iconst (v := 3) (i := 79) rfl (by decide) (?_ : ky_V _ _ _ 135 _ _ _ _)
            refine v_iadd (i := 80) rfl (?_ : ky_V _ _ _ 136 _ _ _ _)
            refine v_iload (i := 81) (j := 5) rfl rfl (?_ : ky_V _ _ _ 138 _ _ _ _)
            obtain ⟨z54, e⟩ := ky_chkE e
            refine v_iast (i := 82) rfl (md_1 hmh52) (ky_inb z54) ?_
            refine bk_st (B := md_B G a) hmh52 frh52 1 (Int32.toNatClampNeg (x44 + 3)) (-1) (by decide) (fun h55 hmh55 frh55 => ?_)
            obtain ⟨q56, eq56⟩ : ∃ z, z = (bk_w q53 1 (Int32.toNatClampNeg (x44 + 3)) (-1)) := ⟨_, rfl⟩
            rw [← eq56] at hmh55
            replace e := ky_letE eq56 e
            refine (?_ : ky_V _ _ _ 139 _ _ _ _)
            refine v_iconst (v := 1) (i := 83) rfl (by decide) (?_ : ky_V _ _ _ 140 _ _ _ _)
            refine v_iret (v := 1) (ty := .boolean) (i := 84) rfl rfl (by decide) ?_
            obtain ⟨rfl, rfl⟩ := ky_leaf e
            exact hr _ hmh55 frh55
          · replace e := ky_ifF c43 e
            refine v_iconst (v := 0) (i := 47) rfl (by decide) (?_ : ky_V _ _ _ 88 _ _ _ _)
            refine v_iret (v := 0) (ty := .boolean) (i := 48) rfl rfl (by decide) ?_
            obtain ⟨rfl, rfl⟩ := ky_leaf e
            exact hr _ hmh19 frh19
      · replace e := ky_ifF c17 e
        refine v_iconst (v := (-1)) (i := 27) rfl (by decide) (?_ : ky_V _ _ _ 49 _ _ _ _)
        refine v_goto (tgt := 60) (i := 28) rfl (by decide) (?_ : ky_V _ _ _ 60 _ _ _ _)
        refine v_istore (L' := [(0, .ref a), (1, .int x3), (2, .int x9), (3, .int x15), (4, .int (-1))]) [1, 2, 3, 4, 0] (i := 34) rfl (Nat.le_of_ble_eq_true rfl) rfl (?_ : ky_V _ _ _ 62 _ _ _ _)
        refine v_iload (i := 35) (j := 4) rfl rfl (?_ : ky_V _ _ _ 64 _ _ _ _)
        refine v_if_ge (tgt := 71) (i := 36) rfl (by decide) (fun c57 => ?_) (fun c57 => ?_)
        · replace e := ky_ifT c57 e
          refine v_aload_n (i := 39) (j := 0) rfl rfl (?_ : ky_V _ _ _ 72 _ _ _ _)
          obtain ⟨s58, hvs58, hss58⟩ := sg_X12_123 hG
          refine v_ldcS (i := 40) hvs58 rfl (?_ : ky_V _ _ _ 74 _ _ _ _)
          refine v_iconst (v := 1) (i := 41) rfl (by decide) (?_ : ky_V _ _ _ 75 _ _ _ _)
          refine v_bipush (v := 30) (i := 42) rfl (by decide) (?_ : ky_V _ _ _ 77 _ _ _ _)
          obtain ⟨⟨q60, x61⟩, g62, e⟩ := Option.bind_eq_some_iff.mp e
          refine cl_X12_115 (As := [.ref s58, .int 1, .int 30]) rfl (i := 43) rfl (md_0 hmh13) rfl rfl (Nat.le_of_ble_eq_true rfl) (k_X12_after N hG hmh13 hss58 g62 (fun h59 hmh59 frh59 => ⟨_, rfl, (?_ : ky_V _ _ _ 80 _ [.int x61] _ _)⟩))
          have frh59 := frh13.tr frh59
          refine v_istore (L' := [(0, .ref a), (1, .int x3), (2, .int x9), (3, .int x15), (4, .int (-1)), (5, .int x61)]) [1, 2, 3, 4, 5, 0] (i := 44) rfl (Nat.le_of_ble_eq_true rfl) rfl (?_ : ky_V _ _ _ 82 _ _ _ _)
          refine v_iload (i := 45) (j := 5) rfl rfl (?_ : ky_V _ _ _ 84 _ _ _ _)
          refine v_if_ge (tgt := 89) (i := 46) rfl (by decide) (fun c63 => ?_) (fun c63 => ?_)
          · replace e := ky_ifT c63 e
            refine v_bipush (v := 17) (i := 49) rfl (by decide) (?_ : ky_V _ _ _ 91 _ _ _ _)
            refine v_iconst (v := 4) (i := 50) rfl (by decide) (?_ : ky_V _ _ _ 92 _ _ _ _)
            refine v_iload_n (i := 51) (j := 1) rfl rfl (?_ : ky_V _ _ _ 93 _ _ _ _)
            refine v_imul (i := 52) rfl (?_ : ky_V _ _ _ 94 _ _ _ _)
            refine v_iadd (i := 53) rfl (?_ : ky_V _ _ _ 95 _ _ _ _)
            refine v_topi (fun x64 ex64 => ?_)
            replace e := ky_letE ex64 e
            refine v_istore (L' := [(0, .ref a), (1, .int x3), (2, .int x9), (3, .int x15), (4, .int (-1)), (5, .int x61), (6, .int x64)]) [1, 2, 3, 4, 5, 6, 0] (i := 54) rfl (Nat.le_of_ble_eq_true rfl) rfl (?_ : ky_V _ _ _ 97 _ _ _ _)
            refine v_aload_n (i := 55) (j := 0) rfl rfl (?_ : ky_V _ _ _ 98 _ _ _ _)
            refine gf_X12_13 rfl (i := 56) rfl (md_0 hmh59) rfl (?_ : ky_V _ _ _ 101 _ _ _ _)
            refine v_iload (i := 57) (j := 6) rfl rfl (?_ : ky_V _ _ _ 103 _ _ _ _)
            refine v_iconst (v := 0) (i := 58) rfl (by decide) (?_ : ky_V _ _ _ 104 _ _ _ _)
            refine v_iadd (i := 59) rfl (?_ : ky_V _ _ _ 105 _ _ _ _)
            refine v_iload_n (i := 60) (j := 2) rfl rfl (?_ : ky_V _ _ _ 106 _ _ _ _)
            obtain ⟨z65, e⟩ := ky_chkE e
            refine v_iast (i := 61) rfl (md_1 hmh59) (ky_inb z65) ?_
            refine bk_st (B := md_B G a) hmh59 frh59 1 (Int32.toNatClampNeg (x64 + 0)) x9 (by decide) (fun h66 hmh66 frh66 => ?_)
            obtain ⟨q67, eq67⟩ : ∃ z, z = (bk_w q60 1 (Int32.toNatClampNeg (x64 + 0)) x9) := ⟨_, rfl⟩
            rw [← eq67] at hmh66
            replace e := ky_letE eq67 e
            refine (?_ : ky_V _ _ _ 107 _ _ _ _)
            refine v_aload_n (i := 62) (j := 0) rfl rfl (?_ : ky_V _ _ _ 108 _ _ _ _)
            refine gf_X12_13 rfl (i := 63) rfl (md_0 hmh66) rfl (?_ : ky_V _ _ _ 111 _ _ _ _)
            refine v_iload (i := 64) (j := 6) rfl rfl (?_ : ky_V _ _ _ 113 _ _ _ _)
            refine v_iconst (v := 1) (i := 65) rfl (by decide) (?_ : ky_V _ _ _ 114 _ _ _ _)
            refine v_iadd (i := 66) rfl (?_ : ky_V _ _ _ 115 _ _ _ _)
            refine v_iload_n (i := 67) (j := 3) rfl rfl (?_ : ky_V _ _ _ 116 _ _ _ _)
            obtain ⟨z68, e⟩ := ky_chkE e
            refine v_iast (i := 68) rfl (md_1 hmh66) (ky_inb z68) ?_
            refine bk_st (B := md_B G a) hmh66 frh66 1 (Int32.toNatClampNeg (x64 + 1)) x15 (by decide) (fun h69 hmh69 frh69 => ?_)
            obtain ⟨q70, eq70⟩ : ∃ z, z = (bk_w q67 1 (Int32.toNatClampNeg (x64 + 1)) x15) := ⟨_, rfl⟩
            rw [← eq70] at hmh69
            replace e := ky_letE eq70 e
            refine (?_ : ky_V _ _ _ 117 _ _ _ _)
            refine v_aload_n (i := 69) (j := 0) rfl rfl (?_ : ky_V _ _ _ 118 _ _ _ _)
            refine gf_X12_13 rfl (i := 70) rfl (md_0 hmh69) rfl (?_ : ky_V _ _ _ 121 _ _ _ _)
            refine v_iload (i := 71) (j := 6) rfl rfl (?_ : ky_V _ _ _ 123 _ _ _ _)
            refine v_iconst (v := 2) (i := 72) rfl (by decide) (?_ : ky_V _ _ _ 124 _ _ _ _)
            refine v_iadd (i := 73) rfl (?_ : ky_V _ _ _ 125 _ _ _ _)
            refine v_iload (i := 74) (j := 4) rfl rfl (?_ : ky_V _ _ _ 127 _ _ _ _)
            obtain ⟨z71, e⟩ := ky_chkE e
            refine v_iast (i := 75) rfl (md_1 hmh69) (ky_inb z71) ?_
            refine bk_st (B := md_B G a) hmh69 frh69 1 (Int32.toNatClampNeg (x64 + 2)) (-1) (by decide) (fun h72 hmh72 frh72 => ?_)
            obtain ⟨q73, eq73⟩ : ∃ z, z = (bk_w q70 1 (Int32.toNatClampNeg (x64 + 2)) (-1)) := ⟨_, rfl⟩
            rw [← eq73] at hmh72
            replace e := ky_letE eq73 e
            refine (?_ : ky_V _ _ _ 128 _ _ _ _)
            refine v_aload_n (i := 76) (j := 0) rfl rfl (?_ : ky_V _ _ _ 129 _ _ _ _)
            refine gf_X12_13 rfl (i := 77) rfl (md_0 hmh72) rfl (?_ : ky_V _ _ _ 132 _ _ _ _)
            refine v_iload (i := 78) (j := 6) rfl rfl (?_ : ky_V _ _ _ 134 _ _ _ _)
            refine v_iconst (v := 3) (i := 79) rfl (by decide) (?_ : ky_V _ _ _ 135 _ _ _ _)
            refine v_iadd (i := 80) rfl (?_ : ky_V _ _ _ 136 _ _ _ _)
            refine v_iload (i := 81) (j := 5) rfl rfl (?_ : ky_V _ _ _ 138 _ _ _ _)
            obtain ⟨z74, e⟩ := ky_chkE e
            refine v_iast (i := 82) rfl (md_1 hmh72) (ky_inb z74) ?_
            refine bk_st (B := md_B G a) hmh72 frh72 1 (Int32.toNatClampNeg (x64 + 3)) x61 (by decide) (fun h75 hmh75 frh75 => ?_)
            obtain ⟨q76, eq76⟩ : ∃ z, z = (bk_w q73 1 (Int32.toNatClampNeg (x64 + 3)) x61) := ⟨_, rfl⟩
            rw [← eq76] at hmh75
            replace e := ky_letE eq76 e
            refine (?_ : ky_V _ _ _ 139 _ _ _ _)
            refine v_iconst (v := 1) (i := 83) rfl (by decide) (?_ : ky_V _ _ _ 140 _ _ _ _)
            refine v_iret (v := 1) (ty := .boolean) (i := 84) rfl rfl (by decide) ?_
            obtain ⟨rfl, rfl⟩ := ky_leaf e
            exact hr _ hmh75 frh75
          · replace e := ky_ifF c63 e
            refine v_iconst (v := 0) (i := 47) rfl (by decide) (?_ : ky_V _ _ _ 88 _ _ _ _)
            refine v_iret (v := 0) (ty := .boolean) (i := 48) rfl rfl (by decide) ?_
            obtain ⟨rfl, rfl⟩ := ky_leaf e
            exact hr _ hmh59 frh59
        · replace e := ky_ifF c57 e
          refine v_iconst (v := (-1)) (i := 37) rfl (by decide) (?_ : ky_V _ _ _ 68 _ _ _ _)
          refine v_goto (tgt := 80) (i := 38) rfl (by decide) (?_ : ky_V _ _ _ 80 _ _ _ _)
          refine v_istore (L' := [(0, .ref a), (1, .int x3), (2, .int x9), (3, .int x15), (4, .int (-1)), (5, .int (-1))]) [1, 2, 3, 4, 5, 0] (i := 44) rfl (Nat.le_of_ble_eq_true rfl) rfl (?_ : ky_V _ _ _ 82 _ _ _ _)
          refine v_iload (i := 45) (j := 5) rfl rfl (?_ : ky_V _ _ _ 84 _ _ _ _)
          refine v_if_ge (tgt := 89) (i := 46) rfl (by decide) (fun c77 => ?_) (fun c77 => ?_)
          · replace e := ky_ifT c77 e
            refine v_bipush (v := 17) (i := 49) rfl (by decide) (?_ : ky_V _ _ _ 91 _ _ _ _)
            refine v_iconst (v := 4) (i := 50) rfl (by decide) (?_ : ky_V _ _ _ 92 _ _ _ _)
            refine v_iload_n (i := 51) (j := 1) rfl rfl (?_ : ky_V _ _ _ 93 _ _ _ _)
            refine v_imul (i := 52) rfl (?_ : ky_V _ _ _ 94 _ _ _ _)
            refine v_iadd (i := 53) rfl (?_ : ky_V _ _ _ 95 _ _ _ _)
            refine v_topi (fun x78 ex78 => ?_)
            replace e := ky_letE ex78 e
            refine v_istore (L' := [(0, .ref a), (1, .int x3), (2, .int x9), (3, .int x15), (4, .int (-1)), (5, .int (-1)), (6, .int x78)]) [1, 2, 3, 4, 5, 6, 0] (i := 54) rfl (Nat.le_of_ble_eq_true rfl) rfl (?_ : ky_V _ _ _ 97 _ _ _ _)
            refine v_aload_n (i := 55) (j := 0) rfl rfl (?_ : ky_V _ _ _ 98 _ _ _ _)
            refine gf_X12_13 rfl (i := 56) rfl (md_0 hmh13) rfl (?_ : ky_V _ _ _ 101 _ _ _ _)
            refine v_iload (i := 57) (j := 6) rfl rfl (?_ : ky_V _ _ _ 103 _ _ _ _)
            refine v_iconst (v := 0) (i := 58) rfl (by decide) (?_ : ky_V _ _ _ 104 _ _ _ _)
            refine v_iadd (i := 59) rfl (?_ : ky_V _ _ _ 105 _ _ _ _)
            refine v_iload_n (i := 60) (j := 2) rfl rfl (?_ : ky_V _ _ _ 106 _ _ _ _)
            obtain ⟨z79, e⟩ := ky_chkE e
            refine v_iast (i := 61) rfl (md_1 hmh13) (ky_inb z79) ?_
            refine bk_st (B := md_B G a) hmh13 frh13 1 (Int32.toNatClampNeg (x78 + 0)) x9 (by decide) (fun h80 hmh80 frh80 => ?_)
            obtain ⟨q81, eq81⟩ : ∃ z, z = (bk_w q14 1 (Int32.toNatClampNeg (x78 + 0)) x9) := ⟨_, rfl⟩
            rw [← eq81] at hmh80
            replace e := ky_letE eq81 e
            refine (?_ : ky_V _ _ _ 107 _ _ _ _)
            refine v_aload_n (i := 62) (j := 0) rfl rfl (?_ : ky_V _ _ _ 108 _ _ _ _)
            refine gf_X12_13 rfl (i := 63) rfl (md_0 hmh80) rfl (?_ : ky_V _ _ _ 111 _ _ _ _)
            refine v_iload (i := 64) (j := 6) rfl rfl (?_ : ky_V _ _ _ 113 _ _ _ _)
            refine v_iconst (v := 1) (i := 65) rfl (by decide) (?_ : ky_V _ _ _ 114 _ _ _ _)
            refine v_iadd (i := 66) rfl (?_ : ky_V _ _ _ 115 _ _ _ _)
            refine v_iload_n (i := 67) (j := 3) rfl rfl (?_ : ky_V _ _ _ 116 _ _ _ _)
            obtain ⟨z82, e⟩ := ky_chkE e
            refine v_iast (i := 68) rfl (md_1 hmh80) (ky_inb z82) ?_
            refine bk_st (B := md_B G a) hmh80 frh80 1 (Int32.toNatClampNeg (x78 + 1)) x15 (by decide) (fun h83 hmh83 frh83 => ?_)
            obtain ⟨q84, eq84⟩ : ∃ z, z = (bk_w q81 1 (Int32.toNatClampNeg (x78 + 1)) x15) := ⟨_, rfl⟩
            rw [← eq84] at hmh83
            replace e := ky_letE eq84 e
            refine (?_ : ky_V _ _ _ 117 _ _ _ _)
            refine v_aload_n (i := 69) (j := 0) rfl rfl (?_ : ky_V _ _ _ 118 _ _ _ _)
            refine gf_X12_13 rfl (i := 70) rfl (md_0 hmh83) rfl (?_ : ky_V _ _ _ 121 _ _ _ _)
            refine v_iload (i := 71) (j := 6) rfl rfl (?_ : ky_V _ _ _ 123 _ _ _ _)
            refine v_iconst (v := 2) (i := 72) rfl (by decide) (?_ : ky_V _ _ _ 124 _ _ _ _)
            refine v_iadd (i := 73) rfl (?_ : ky_V _ _ _ 125 _ _ _ _)
            refine v_iload (i := 74) (j := 4) rfl rfl (?_ : ky_V _ _ _ 127 _ _ _ _)
            obtain ⟨z85, e⟩ := ky_chkE e
            refine v_iast (i := 75) rfl (md_1 hmh83) (ky_inb z85) ?_
            refine bk_st (B := md_B G a) hmh83 frh83 1 (Int32.toNatClampNeg (x78 + 2)) (-1) (by decide) (fun h86 hmh86 frh86 => ?_)
            obtain ⟨q87, eq87⟩ : ∃ z, z = (bk_w q84 1 (Int32.toNatClampNeg (x78 + 2)) (-1)) := ⟨_, rfl⟩
            rw [← eq87] at hmh86
            replace e := ky_letE eq87 e
            refine (?_ : ky_V _ _ _ 128 _ _ _ _)
            refine v_aload_n (i := 76) (j := 0) rfl rfl (?_ : ky_V _ _ _ 129 _ _ _ _)
            refine gf_X12_13 rfl (i := 77) rfl (md_0 hmh86) rfl (?_ : ky_V _ _ _ 132 _ _ _ _)
            refine v_iload (i := 78) (j := 6) rfl rfl (?_ : ky_V _ _ _ 134 _ _ _ _)
            refine v_iconst (v := 3) (i := 79) rfl (by decide) (?_ : ky_V _ _ _ 135 _ _ _ _)
            refine v_iadd (i := 80) rfl (?_ : ky_V _ _ _ 136 _ _ _ _)
            refine v_iload (i := 81) (j := 5) rfl rfl (?_ : ky_V _ _ _ 138 _ _ _ _)
            obtain ⟨z88, e⟩ := ky_chkE e
            refine v_iast (i := 82) rfl (md_1 hmh86) (ky_inb z88) ?_
            refine bk_st (B := md_B G a) hmh86 frh86 1 (Int32.toNatClampNeg (x78 + 3)) (-1) (by decide) (fun h89 hmh89 frh89 => ?_)
            obtain ⟨q90, eq90⟩ : ∃ z, z = (bk_w q87 1 (Int32.toNatClampNeg (x78 + 3)) (-1)) := ⟨_, rfl⟩
            rw [← eq90] at hmh89
            replace e := ky_letE eq90 e
            refine (?_ : ky_V _ _ _ 139 _ _ _ _)
            refine v_iconst (v := 1) (i := 83) rfl (by decide) (?_ : ky_V _ _ _ 140 _ _ _ _)
            refine v_iret (v := 1) (ty := .boolean) (i := 84) rfl rfl (by decide) ?_
            obtain ⟨rfl, rfl⟩ := ky_leaf e
            exact hr _ hmh89 frh89
          · replace e := ky_ifF c77 e
            refine v_iconst (v := 0) (i := 47) rfl (by decide) (?_ : ky_V _ _ _ 88 _ _ _ _)
            refine v_iret (v := 0) (ty := .boolean) (i := 48) rfl rfl (by decide) ?_
            obtain ⟨rfl, rfl⟩ := ky_leaf e
            exact hr _ hmh13 frh13
    · replace e := ky_ifF c11 e
      refine v_iconst (v := (-1)) (i := 17) rfl (by decide) (?_ : ky_V _ _ _ 31 _ _ _ _)
      refine v_goto (tgt := 43) (i := 18) rfl (by decide) (?_ : ky_V _ _ _ 43 _ _ _ _)
      refine v_istore_n (L' := [(0, .ref a), (1, .int x3), (2, .int x9), (3, .int (-1))]) [1, 2, 3, 0] (i := 24) rfl (Nat.le_of_ble_eq_true rfl) rfl (?_ : ky_V _ _ _ 44 _ _ _ _)
      refine v_iload_n (i := 25) (j := 3) rfl rfl (?_ : ky_V _ _ _ 45 _ _ _ _)
      refine v_if_ge (tgt := 52) (i := 26) rfl (by decide) (fun c91 => ?_) (fun c91 => ?_)
      · replace e := ky_ifT c91 e
        refine v_aload_n (i := 29) (j := 0) rfl rfl (?_ : ky_V _ _ _ 53 _ _ _ _)
        obtain ⟨s92, hvs92, hss92⟩ := sg_X12_121 hG
        refine v_ldcS (i := 30) hvs92 rfl (?_ : ky_V _ _ _ 55 _ _ _ _)
        refine v_iconst (v := 0) (i := 31) rfl (by decide) (?_ : ky_V _ _ _ 56 _ _ _ _)
        refine v_iconst (v := 5) (i := 32) rfl (by decide) (?_ : ky_V _ _ _ 57 _ _ _ _)
        obtain ⟨⟨q94, x95⟩, g96, e⟩ := Option.bind_eq_some_iff.mp e
        refine cl_X12_115 (As := [.ref s92, .int 0, .int 5]) rfl (i := 33) rfl (md_0 hmh7) rfl rfl (Nat.le_of_ble_eq_true rfl) (k_X12_after N hG hmh7 hss92 g96 (fun h93 hmh93 frh93 => ⟨_, rfl, (?_ : ky_V _ _ _ 60 _ [.int x95] _ _)⟩))
        have frh93 := frh7.tr frh93
        refine v_istore (L' := [(0, .ref a), (1, .int x3), (2, .int x9), (3, .int (-1)), (4, .int x95)]) [1, 2, 3, 4, 0] (i := 34) rfl (Nat.le_of_ble_eq_true rfl) rfl (?_ : ky_V _ _ _ 62 _ _ _ _)
        refine v_iload (i := 35) (j := 4) rfl rfl (?_ : ky_V _ _ _ 64 _ _ _ _)
        refine v_if_ge (tgt := 71) (i := 36) rfl (by decide) (fun c97 => ?_) (fun c97 => ?_)
        · replace e := ky_ifT c97 e
          refine v_aload_n (i := 39) (j := 0) rfl rfl (?_ : ky_V _ _ _ 72 _ _ _ _)
          obtain ⟨s98, hvs98, hss98⟩ := sg_X12_123 hG
          refine v_ldcS (i := 40) hvs98 rfl (?_ : ky_V _ _ _ 74 _ _ _ _)
          refine v_iconst (v := 1) (i := 41) rfl (by decide) (?_ : ky_V _ _ _ 75 _ _ _ _)
          refine v_bipush (v := 30) (i := 42) rfl (by decide) (?_ : ky_V _ _ _ 77 _ _ _ _)
          obtain ⟨⟨q100, x101⟩, g102, e⟩ := Option.bind_eq_some_iff.mp e
          refine cl_X12_115 (As := [.ref s98, .int 1, .int 30]) rfl (i := 43) rfl (md_0 hmh93) rfl rfl (Nat.le_of_ble_eq_true rfl) (k_X12_after N hG hmh93 hss98 g102 (fun h99 hmh99 frh99 => ⟨_, rfl, (?_ : ky_V _ _ _ 80 _ [.int x101] _ _)⟩))
          have frh99 := frh93.tr frh99
          refine v_istore (L' := [(0, .ref a), (1, .int x3), (2, .int x9), (3, .int (-1)), (4, .int x95), (5, .int x101)]) [1, 2, 3, 4, 5, 0] (i := 44) rfl (Nat.le_of_ble_eq_true rfl) rfl (?_ : ky_V _ _ _ 82 _ _ _ _)
          refine v_iload (i := 45) (j := 5) rfl rfl (?_ : ky_V _ _ _ 84 _ _ _ _)
          refine v_if_ge (tgt := 89) (i := 46) rfl (by decide) (fun c103 => ?_) (fun c103 => ?_)
          · replace e := ky_ifT c103 e
            refine v_bipush (v := 17) (i := 49) rfl (by decide) (?_ : ky_V _ _ _ 91 _ _ _ _)
            refine v_iconst (v := 4) (i := 50) rfl (by decide) (?_ : ky_V _ _ _ 92 _ _ _ _)
            refine v_iload_n (i := 51) (j := 1) rfl rfl (?_ : ky_V _ _ _ 93 _ _ _ _)
            refine v_imul (i := 52) rfl (?_ : ky_V _ _ _ 94 _ _ _ _)
            refine v_iadd (i := 53) rfl (?_ : ky_V _ _ _ 95 _ _ _ _)
            refine v_topi (fun x104 ex104 => ?_)
            replace e := ky_letE ex104 e
            refine v_istore (L' := [(0, .ref a), (1, .int x3), (2, .int x9), (3, .int (-1)), (4, .int x95), (5, .int x101), (6, .int x104)]) [1, 2, 3, 4, 5, 6, 0] (i := 54) rfl (Nat.le_of_ble_eq_true rfl) rfl (?_ : ky_V _ _ _ 97 _ _ _ _)
            refine v_aload_n (i := 55) (j := 0) rfl rfl (?_ : ky_V _ _ _ 98 _ _ _ _)
            refine gf_X12_13 rfl (i := 56) rfl (md_0 hmh99) rfl (?_ : ky_V _ _ _ 101 _ _ _ _)
            refine v_iload (i := 57) (j := 6) rfl rfl (?_ : ky_V _ _ _ 103 _ _ _ _)
            refine v_iconst (v := 0) (i := 58) rfl (by decide) (?_ : ky_V _ _ _ 104 _ _ _ _)
            refine v_iadd (i := 59) rfl (?_ : ky_V _ _ _ 105 _ _ _ _)
            refine v_iload_n (i := 60) (j := 2) rfl rfl (?_ : ky_V _ _ _ 106 _ _ _ _)
            obtain ⟨z105, e⟩ := ky_chkE e
            refine v_iast (i := 61) rfl (md_1 hmh99) (ky_inb z105) ?_
            refine bk_st (B := md_B G a) hmh99 frh99 1 (Int32.toNatClampNeg (x104 + 0)) x9 (by decide) (fun h106 hmh106 frh106 => ?_)
            obtain ⟨q107, eq107⟩ : ∃ z, z = (bk_w q100 1 (Int32.toNatClampNeg (x104 + 0)) x9) := ⟨_, rfl⟩
            rw [← eq107] at hmh106
            replace e := ky_letE eq107 e
            refine (?_ : ky_V _ _ _ 107 _ _ _ _)
            refine v_aload_n (i := 62) (j := 0) rfl rfl (?_ : ky_V _ _ _ 108 _ _ _ _)
            refine gf_X12_13 rfl (i := 63) rfl (md_0 hmh106) rfl (?_ : ky_V _ _ _ 111 _ _ _ _)
            refine v_iload (i := 64) (j := 6) rfl rfl (?_ : ky_V _ _ _ 113 _ _ _ _)
            refine v_iconst (v := 1) (i := 65) rfl (by decide) (?_ : ky_V _ _ _ 114 _ _ _ _)
            refine v_iadd (i := 66) rfl (?_ : ky_V _ _ _ 115 _ _ _ _)
            refine v_iload_n (i := 67) (j := 3) rfl rfl (?_ : ky_V _ _ _ 116 _ _ _ _)
            obtain ⟨z108, e⟩ := ky_chkE e
            refine v_iast (i := 68) rfl (md_1 hmh106) (ky_inb z108) ?_
            refine bk_st (B := md_B G a) hmh106 frh106 1 (Int32.toNatClampNeg (x104 + 1)) (-1) (by decide) (fun h109 hmh109 frh109 => ?_)
            obtain ⟨q110, eq110⟩ : ∃ z, z = (bk_w q107 1 (Int32.toNatClampNeg (x104 + 1)) (-1)) := ⟨_, rfl⟩
            rw [← eq110] at hmh109
            replace e := ky_letE eq110 e
            refine (?_ : ky_V _ _ _ 117 _ _ _ _)
            refine v_aload_n (i := 69) (j := 0) rfl rfl (?_ : ky_V _ _ _ 118 _ _ _ _)
            refine gf_X12_13 rfl (i := 70) rfl (md_0 hmh109) rfl (?_ : ky_V _ _ _ 121 _ _ _ _)
            refine v_iload (i := 71) (j := 6) rfl rfl (?_ : ky_V _ _ _ 123 _ _ _ _)
            refine v_iconst (v := 2) (i := 72) rfl (by decide) (?_ : ky_V _ _ _ 124 _ _ _ _)
            refine v_iadd (i := 73) rfl (?_ : ky_V _ _ _ 125 _ _ _ _)
            refine v_iload (i := 74) (j := 4) rfl rfl (?_ : ky_V _ _ _ 127 _ _ _ _)
            obtain ⟨z111, e⟩ := ky_chkE e
            refine v_iast (i := 75) rfl (md_1 hmh109) (ky_inb z111) ?_
            refine bk_st (B := md_B G a) hmh109 frh109 1 (Int32.toNatClampNeg (x104 + 2)) x95 (by decide) (fun h112 hmh112 frh112 => ?_)
            obtain ⟨q113, eq113⟩ : ∃ z, z = (bk_w q110 1 (Int32.toNatClampNeg (x104 + 2)) x95) := ⟨_, rfl⟩
            rw [← eq113] at hmh112
            replace e := ky_letE eq113 e
            refine (?_ : ky_V _ _ _ 128 _ _ _ _)
            refine v_aload_n (i := 76) (j := 0) rfl rfl (?_ : ky_V _ _ _ 129 _ _ _ _)
            refine gf_X12_13 rfl (i := 77) rfl (md_0 hmh112) rfl (?_ : ky_V _ _ _ 132 _ _ _ _)
            refine v_iload (i := 78) (j := 6) rfl rfl (?_ : ky_V _ _ _ 134 _ _ _ _)
            refine v_iconst (v := 3) (i := 79) rfl (by decide) (?_ : ky_V _ _ _ 135 _ _ _ _)
            refine v_iadd (i := 80) rfl (?_ : ky_V _ _ _ 136 _ _ _ _)
            refine v_iload (i := 81) (j := 5) rfl rfl (?_ : ky_V _ _ _ 138 _ _ _ _)
            obtain ⟨z114, e⟩ := ky_chkE e
            refine v_iast (i := 82) rfl (md_1 hmh112) (ky_inb z114) ?_
            refine bk_st (B := md_B G a) hmh112 frh112 1 (Int32.toNatClampNeg (x104 + 3)) x101 (by decide) (fun h115 hmh115 frh115 => ?_)
            obtain ⟨q116, eq116⟩ : ∃ z, z = (bk_w q113 1 (Int32.toNatClampNeg (x104 + 3)) x101) := ⟨_, rfl⟩
            rw [← eq116] at hmh115
            replace e := ky_letE eq116 e
            refine (?_ : ky_V _ _ _ 139 _ _ _ _)
            refine v_iconst (v := 1) (i := 83) rfl (by decide) (?_ : ky_V _ _ _ 140 _ _ _ _)
            refine v_iret (v := 1) (ty := .boolean) (i := 84) rfl rfl (by decide) ?_
            obtain ⟨rfl, rfl⟩ := ky_leaf e
            exact hr _ hmh115 frh115
          · replace e := ky_ifF c103 e
            refine v_iconst (v := 0) (i := 47) rfl (by decide) (?_ : ky_V _ _ _ 88 _ _ _ _)
            refine v_iret (v := 0) (ty := .boolean) (i := 48) rfl rfl (by decide) ?_
            obtain ⟨rfl, rfl⟩ := ky_leaf e
            exact hr _ hmh99 frh99
        · replace e := ky_ifF c97 e
          refine v_iconst (v := (-1)) (i := 37) rfl (by decide) (?_ : ky_V _ _ _ 68 _ _ _ _)
          refine v_goto (tgt := 80) (i := 38) rfl (by decide) (?_ : ky_V _ _ _ 80 _ _ _ _)
          refine v_istore (L' := [(0, .ref a), (1, .int x3), (2, .int x9), (3, .int (-1)), (4, .int x95), (5, .int (-1))]) [1, 2, 3, 4, 5, 0] (i := 44) rfl (Nat.le_of_ble_eq_true rfl) rfl (?_ : ky_V _ _ _ 82 _ _ _ _)
          refine v_iload (i := 45) (j := 5) rfl rfl (?_ : ky_V _ _ _ 84 _ _ _ _)
          refine v_if_ge (tgt := 89) (i := 46) rfl (by decide) (fun c117 => ?_) (fun c117 => ?_)
          · replace e := ky_ifT c117 e
            refine v_bipush (v := 17) (i := 49) rfl (by decide) (?_ : ky_V _ _ _ 91 _ _ _ _)
            refine v_iconst (v := 4) (i := 50) rfl (by decide) (?_ : ky_V _ _ _ 92 _ _ _ _)
            refine v_iload_n (i := 51) (j := 1) rfl rfl (?_ : ky_V _ _ _ 93 _ _ _ _)
            refine v_imul (i := 52) rfl (?_ : ky_V _ _ _ 94 _ _ _ _)
            refine v_iadd (i := 53) rfl (?_ : ky_V _ _ _ 95 _ _ _ _)
            refine v_topi (fun x118 ex118 => ?_)
            replace e := ky_letE ex118 e
            refine v_istore (L' := [(0, .ref a), (1, .int x3), (2, .int x9), (3, .int (-1)), (4, .int x95), (5, .int (-1)), (6, .int x118)]) [1, 2, 3, 4, 5, 6, 0] (i := 54) rfl (Nat.le_of_ble_eq_true rfl) rfl (?_ : ky_V _ _ _ 97 _ _ _ _)
            refine v_aload_n (i := 55) (j := 0) rfl rfl (?_ : ky_V _ _ _ 98 _ _ _ _)
            refine gf_X12_13 rfl (i := 56) rfl (md_0 hmh93) rfl (?_ : ky_V _ _ _ 101 _ _ _ _)
            refine v_iload (i := 57) (j := 6) rfl rfl (?_ : ky_V _ _ _ 103 _ _ _ _)
            refine v_iconst (v := 0) (i := 58) rfl (by decide) (?_ : ky_V _ _ _ 104 _ _ _ _)
            refine v_iadd (i := 59) rfl (?_ : ky_V _ _ _ 105 _ _ _ _)
            refine v_iload_n (i := 60) (j := 2) rfl rfl (?_ : ky_V _ _ _ 106 _ _ _ _)
            obtain ⟨z119, e⟩ := ky_chkE e
            refine v_iast (i := 61) rfl (md_1 hmh93) (ky_inb z119) ?_
            refine bk_st (B := md_B G a) hmh93 frh93 1 (Int32.toNatClampNeg (x118 + 0)) x9 (by decide) (fun h120 hmh120 frh120 => ?_)
            obtain ⟨q121, eq121⟩ : ∃ z, z = (bk_w q94 1 (Int32.toNatClampNeg (x118 + 0)) x9) := ⟨_, rfl⟩
            rw [← eq121] at hmh120
            replace e := ky_letE eq121 e
            refine (?_ : ky_V _ _ _ 107 _ _ _ _)
            refine v_aload_n (i := 62) (j := 0) rfl rfl (?_ : ky_V _ _ _ 108 _ _ _ _)
            refine gf_X12_13 rfl (i := 63) rfl (md_0 hmh120) rfl (?_ : ky_V _ _ _ 111 _ _ _ _)
            refine v_iload (i := 64) (j := 6) rfl rfl (?_ : ky_V _ _ _ 113 _ _ _ _)
            refine v_iconst (v := 1) (i := 65) rfl (by decide) (?_ : ky_V _ _ _ 114 _ _ _ _)
            refine v_iadd (i := 66) rfl (?_ : ky_V _ _ _ 115 _ _ _ _)
            refine v_iload_n (i := 67) (j := 3) rfl rfl (?_ : ky_V _ _ _ 116 _ _ _ _)
            obtain ⟨z122, e⟩ := ky_chkE e
            refine v_iast (i := 68) rfl (md_1 hmh120) (ky_inb z122) ?_
            refine bk_st (B := md_B G a) hmh120 frh120 1 (Int32.toNatClampNeg (x118 + 1)) (-1) (by decide) (fun h123 hmh123 frh123 => ?_)
            obtain ⟨q124, eq124⟩ : ∃ z, z = (bk_w q121 1 (Int32.toNatClampNeg (x118 + 1)) (-1)) := ⟨_, rfl⟩
            rw [← eq124] at hmh123
            replace e := ky_letE eq124 e
            refine (?_ : ky_V _ _ _ 117 _ _ _ _)
            refine v_aload_n (i := 69) (j := 0) rfl rfl (?_ : ky_V _ _ _ 118 _ _ _ _)
            refine gf_X12_13 rfl (i := 70) rfl (md_0 hmh123) rfl (?_ : ky_V _ _ _ 121 _ _ _ _)
            refine v_iload (i := 71) (j := 6) rfl rfl (?_ : ky_V _ _ _ 123 _ _ _ _)
            refine v_iconst (v := 2) (i := 72) rfl (by decide) (?_ : ky_V _ _ _ 124 _ _ _ _)
            refine v_iadd (i := 73) rfl (?_ : ky_V _ _ _ 125 _ _ _ _)
            refine v_iload (i := 74) (j := 4) rfl rfl (?_ : ky_V _ _ _ 127 _ _ _ _)
            obtain ⟨z125, e⟩ := ky_chkE e
            refine v_iast (i := 75) rfl (md_1 hmh123) (ky_inb z125) ?_
            refine bk_st (B := md_B G a) hmh123 frh123 1 (Int32.toNatClampNeg (x118 + 2)) x95 (by decide) (fun h126 hmh126 frh126 => ?_)
            obtain ⟨q127, eq127⟩ : ∃ z, z = (bk_w q124 1 (Int32.toNatClampNeg (x118 + 2)) x95) := ⟨_, rfl⟩
            rw [← eq127] at hmh126
            replace e := ky_letE eq127 e
            refine (?_ : ky_V _ _ _ 128 _ _ _ _)
            refine v_aload_n (i := 76) (j := 0) rfl rfl (?_ : ky_V _ _ _ 129 _ _ _ _)
            refine gf_X12_13 rfl (i := 77) rfl (md_0 hmh126) rfl (?_ : ky_V _ _ _ 132 _ _ _ _)
            refine v_iload (i := 78) (j := 6) rfl rfl (?_ : ky_V _ _ _ 134 _ _ _ _)
            refine v_iconst (v := 3) (i := 79) rfl (by decide) (?_ : ky_V _ _ _ 135 _ _ _ _)
            refine v_iadd (i := 80) rfl (?_ : ky_V _ _ _ 136 _ _ _ _)
            refine v_iload (i := 81) (j := 5) rfl rfl (?_ : ky_V _ _ _ 138 _ _ _ _)
            obtain ⟨z128, e⟩ := ky_chkE e
            refine v_iast (i := 82) rfl (md_1 hmh126) (ky_inb z128) ?_
            refine bk_st (B := md_B G a) hmh126 frh126 1 (Int32.toNatClampNeg (x118 + 3)) (-1) (by decide) (fun h129 hmh129 frh129 => ?_)
            obtain ⟨q130, eq130⟩ : ∃ z, z = (bk_w q127 1 (Int32.toNatClampNeg (x118 + 3)) (-1)) := ⟨_, rfl⟩
            rw [← eq130] at hmh129
            replace e := ky_letE eq130 e
            refine (?_ : ky_V _ _ _ 139 _ _ _ _)
            refine v_iconst (v := 1) (i := 83) rfl (by decide) (?_ : ky_V _ _ _ 140 _ _ _ _)
            refine v_iret (v := 1) (ty := .boolean) (i := 84) rfl rfl (by decide) ?_
            obtain ⟨rfl, rfl⟩ := ky_leaf e
            exact hr _ hmh129 frh129
          · replace e := ky_ifF c117 e
            refine v_iconst (v := 0) (i := 47) rfl (by decide) (?_ : ky_V _ _ _ 88 _ _ _ _)
            refine v_iret (v := 0) (ty := .boolean) (i := 48) rfl rfl (by decide) ?_
            obtain ⟨rfl, rfl⟩ := ky_leaf e
            exact hr _ hmh93 frh93
      · replace e := ky_ifF c91 e
        refine v_iconst (v := (-1)) (i := 27) rfl (by decide) (?_ : ky_V _ _ _ 49 _ _ _ _)
        refine v_goto (tgt := 60) (i := 28) rfl (by decide) (?_ : ky_V _ _ _ 60 _ _ _ _)
        refine v_istore (L' := [(0, .ref a), (1, .int x3), (2, .int x9), (3, .int (-1)), (4, .int (-1))]) [1, 2, 3, 4, 0] (i := 34) rfl (Nat.le_of_ble_eq_true rfl) rfl (?_ : ky_V _ _ _ 62 _ _ _ _)
        refine v_iload (i := 35) (j := 4) rfl rfl (?_ : ky_V _ _ _ 64 _ _ _ _)
        refine v_if_ge (tgt := 71) (i := 36) rfl (by decide) (fun c131 => ?_) (fun c131 => ?_)
        · replace e := ky_ifT c131 e
          refine v_aload_n (i := 39) (j := 0) rfl rfl (?_ : ky_V _ _ _ 72 _ _ _ _)
          obtain ⟨s132, hvs132, hss132⟩ := sg_X12_123 hG
          refine v_ldcS (i := 40) hvs132 rfl (?_ : ky_V _ _ _ 74 _ _ _ _)
          refine v_iconst (v := 1) (i := 41) rfl (by decide) (?_ : ky_V _ _ _ 75 _ _ _ _)
          refine v_bipush (v := 30) (i := 42) rfl (by decide) (?_ : ky_V _ _ _ 77 _ _ _ _)
          obtain ⟨⟨q134, x135⟩, g136, e⟩ := Option.bind_eq_some_iff.mp e
          refine cl_X12_115 (As := [.ref s132, .int 1, .int 30]) rfl (i := 43) rfl (md_0 hmh7) rfl rfl (Nat.le_of_ble_eq_true rfl) (k_X12_after N hG hmh7 hss132 g136 (fun h133 hmh133 frh133 => ⟨_, rfl, (?_ : ky_V _ _ _ 80 _ [.int x135] _ _)⟩))
          have frh133 := frh7.tr frh133
          refine v_istore (L' := [(0, .ref a), (1, .int x3), (2, .int x9), (3, .int (-1)), (4, .int (-1)), (5, .int x135)]) [1, 2, 3, 4, 5, 0] (i := 44) rfl (Nat.le_of_ble_eq_true rfl) rfl (?_ : ky_V _ _ _ 82 _ _ _ _)
          refine v_iload (i := 45) (j := 5) rfl rfl (?_ : ky_V _ _ _ 84 _ _ _ _)
          refine v_if_ge (tgt := 89) (i := 46) rfl (by decide) (fun c137 => ?_) (fun c137 => ?_)
          · replace e := ky_ifT c137 e
            refine v_bipush (v := 17) (i := 49) rfl (by decide) (?_ : ky_V _ _ _ 91 _ _ _ _)
            refine v_iconst (v := 4) (i := 50) rfl (by decide) (?_ : ky_V _ _ _ 92 _ _ _ _)
            refine v_iload_n (i := 51) (j := 1) rfl rfl (?_ : ky_V _ _ _ 93 _ _ _ _)
            refine v_imul (i := 52) rfl (?_ : ky_V _ _ _ 94 _ _ _ _)
            refine v_iadd (i := 53) rfl (?_ : ky_V _ _ _ 95 _ _ _ _)
            refine v_topi (fun x138 ex138 => ?_)
            replace e := ky_letE ex138 e
            refine v_istore (L' := [(0, .ref a), (1, .int x3), (2, .int x9), (3, .int (-1)), (4, .int (-1)), (5, .int x135), (6, .int x138)]) [1, 2, 3, 4, 5, 6, 0] (i := 54) rfl (Nat.le_of_ble_eq_true rfl) rfl (?_ : ky_V _ _ _ 97 _ _ _ _)
            refine v_aload_n (i := 55) (j := 0) rfl rfl (?_ : ky_V _ _ _ 98 _ _ _ _)
            refine gf_X12_13 rfl (i := 56) rfl (md_0 hmh133) rfl (?_ : ky_V _ _ _ 101 _ _ _ _)
            refine v_iload (i := 57) (j := 6) rfl rfl (?_ : ky_V _ _ _ 103 _ _ _ _)
            refine v_iconst (v := 0) (i := 58) rfl (by decide) (?_ : ky_V _ _ _ 104 _ _ _ _)
            refine v_iadd (i := 59) rfl (?_ : ky_V _ _ _ 105 _ _ _ _)
            refine v_iload_n (i := 60) (j := 2) rfl rfl (?_ : ky_V _ _ _ 106 _ _ _ _)
            obtain ⟨z139, e⟩ := ky_chkE e
            refine v_iast (i := 61) rfl (md_1 hmh133) (ky_inb z139) ?_
            refine bk_st (B := md_B G a) hmh133 frh133 1 (Int32.toNatClampNeg (x138 + 0)) x9 (by decide) (fun h140 hmh140 frh140 => ?_)
            obtain ⟨q141, eq141⟩ : ∃ z, z = (bk_w q134 1 (Int32.toNatClampNeg (x138 + 0)) x9) := ⟨_, rfl⟩
            rw [← eq141] at hmh140
            replace e := ky_letE eq141 e
            refine (?_ : ky_V _ _ _ 107 _ _ _ _)
            refine v_aload_n (i := 62) (j := 0) rfl rfl (?_ : ky_V _ _ _ 108 _ _ _ _)
            refine gf_X12_13 rfl (i := 63) rfl (md_0 hmh140) rfl (?_ : ky_V _ _ _ 111 _ _ _ _)
            refine v_iload (i := 64) (j := 6) rfl rfl (?_ : ky_V _ _ _ 113 _ _ _ _)
            refine v_iconst (v := 1) (i := 65) rfl (by decide) (?_ : ky_V _ _ _ 114 _ _ _ _)
            refine v_iadd (i := 66) rfl (?_ : ky_V _ _ _ 115 _ _ _ _)
            refine v_iload_n (i := 67) (j := 3) rfl rfl (?_ : ky_V _ _ _ 116 _ _ _ _)
            obtain ⟨z142, e⟩ := ky_chkE e
            refine v_iast (i := 68) rfl (md_1 hmh140) (ky_inb z142) ?_
            refine bk_st (B := md_B G a) hmh140 frh140 1 (Int32.toNatClampNeg (x138 + 1)) (-1) (by decide) (fun h143 hmh143 frh143 => ?_)
            obtain ⟨q144, eq144⟩ : ∃ z, z = (bk_w q141 1 (Int32.toNatClampNeg (x138 + 1)) (-1)) := ⟨_, rfl⟩
            rw [← eq144] at hmh143
            replace e := ky_letE eq144 e
            refine (?_ : ky_V _ _ _ 117 _ _ _ _)
            refine v_aload_n (i := 69) (j := 0) rfl rfl (?_ : ky_V _ _ _ 118 _ _ _ _)
            refine gf_X12_13 rfl (i := 70) rfl (md_0 hmh143) rfl (?_ : ky_V _ _ _ 121 _ _ _ _)
            refine v_iload (i := 71) (j := 6) rfl rfl (?_ : ky_V _ _ _ 123 _ _ _ _)
            refine v_iconst (v := 2) (i := 72) rfl (by decide) (?_ : ky_V _ _ _ 124 _ _ _ _)
            refine v_iadd (i := 73) rfl (?_ : ky_V _ _ _ 125 _ _ _ _)
            refine v_iload (i := 74) (j := 4) rfl rfl (?_ : ky_V _ _ _ 127 _ _ _ _)
            obtain ⟨z145, e⟩ := ky_chkE e
            refine v_iast (i := 75) rfl (md_1 hmh143) (ky_inb z145) ?_
            refine bk_st (B := md_B G a) hmh143 frh143 1 (Int32.toNatClampNeg (x138 + 2)) (-1) (by decide) (fun h146 hmh146 frh146 => ?_)
            obtain ⟨q147, eq147⟩ : ∃ z, z = (bk_w q144 1 (Int32.toNatClampNeg (x138 + 2)) (-1)) := ⟨_, rfl⟩
            rw [← eq147] at hmh146
            replace e := ky_letE eq147 e
            refine (?_ : ky_V _ _ _ 128 _ _ _ _)
            refine v_aload_n (i := 76) (j := 0) rfl rfl (?_ : ky_V _ _ _ 129 _ _ _ _)
            refine gf_X12_13 rfl (i := 77) rfl (md_0 hmh146) rfl (?_ : ky_V _ _ _ 132 _ _ _ _)
            refine v_iload (i := 78) (j := 6) rfl rfl (?_ : ky_V _ _ _ 134 _ _ _ _)
            refine v_iconst (v := 3) (i := 79) rfl (by decide) (?_ : ky_V _ _ _ 135 _ _ _ _)
            refine v_iadd (i := 80) rfl (?_ : ky_V _ _ _ 136 _ _ _ _)
            refine v_iload (i := 81) (j := 5) rfl rfl (?_ : ky_V _ _ _ 138 _ _ _ _)
            obtain ⟨z148, e⟩ := ky_chkE e
            refine v_iast (i := 82) rfl (md_1 hmh146) (ky_inb z148) ?_
            refine bk_st (B := md_B G a) hmh146 frh146 1 (Int32.toNatClampNeg (x138 + 3)) x135 (by decide) (fun h149 hmh149 frh149 => ?_)
            obtain ⟨q150, eq150⟩ : ∃ z, z = (bk_w q147 1 (Int32.toNatClampNeg (x138 + 3)) x135) := ⟨_, rfl⟩
            rw [← eq150] at hmh149
            replace e := ky_letE eq150 e
            refine (?_ : ky_V _ _ _ 139 _ _ _ _)
            refine v_iconst (v := 1) (i := 83) rfl (by decide) (?_ : ky_V _ _ _ 140 _ _ _ _)
            refine v_iret (v := 1) (ty := .boolean) (i := 84) rfl rfl (by decide) ?_
            obtain ⟨rfl, rfl⟩ := ky_leaf e
            exact hr _ hmh149 frh149
          · replace e := ky_ifF c137 e
            refine v_iconst (v := 0) (i := 47) rfl (by decide) (?_ : ky_V _ _ _ 88 _ _ _ _)
            refine v_iret (v := 0) (ty := .boolean) (i := 48) rfl rfl (by decide) ?_
            obtain ⟨rfl, rfl⟩ := ky_leaf e
            exact hr _ hmh133 frh133
        · replace e := ky_ifF c131 e
          refine v_iconst (v := (-1)) (i := 37) rfl (by decide) (?_ : ky_V _ _ _ 68 _ _ _ _)
          refine v_goto (tgt := 80) (i := 38) rfl (by decide) (?_ : ky_V _ _ _ 80 _ _ _ _)
          refine v_istore (L' := [(0, .ref a), (1, .int x3), (2, .int x9), (3, .int (-1)), (4, .int (-1)), (5, .int (-1))]) [1, 2, 3, 4, 5, 0] (i := 44) rfl (Nat.le_of_ble_eq_true rfl) rfl (?_ : ky_V _ _ _ 82 _ _ _ _)
          refine v_iload (i := 45) (j := 5) rfl rfl (?_ : ky_V _ _ _ 84 _ _ _ _)
          refine v_if_ge (tgt := 89) (i := 46) rfl (by decide) (fun c151 => ?_) (fun c151 => ?_)
          · replace e := ky_ifT c151 e
            refine v_bipush (v := 17) (i := 49) rfl (by decide) (?_ : ky_V _ _ _ 91 _ _ _ _)
            refine v_iconst (v := 4) (i := 50) rfl (by decide) (?_ : ky_V _ _ _ 92 _ _ _ _)
            refine v_iload_n (i := 51) (j := 1) rfl rfl (?_ : ky_V _ _ _ 93 _ _ _ _)
            refine v_imul (i := 52) rfl (?_ : ky_V _ _ _ 94 _ _ _ _)
            refine v_iadd (i := 53) rfl (?_ : ky_V _ _ _ 95 _ _ _ _)
            refine v_topi (fun x152 ex152 => ?_)
            replace e := ky_letE ex152 e
            refine v_istore (L' := [(0, .ref a), (1, .int x3), (2, .int x9), (3, .int (-1)), (4, .int (-1)), (5, .int (-1)), (6, .int x152)]) [1, 2, 3, 4, 5, 6, 0] (i := 54) rfl (Nat.le_of_ble_eq_true rfl) rfl (?_ : ky_V _ _ _ 97 _ _ _ _)
            refine v_aload_n (i := 55) (j := 0) rfl rfl (?_ : ky_V _ _ _ 98 _ _ _ _)
            refine gf_X12_13 rfl (i := 56) rfl (md_0 hmh7) rfl (?_ : ky_V _ _ _ 101 _ _ _ _)
            refine v_iload (i := 57) (j := 6) rfl rfl (?_ : ky_V _ _ _ 103 _ _ _ _)
            refine v_iconst (v := 0) (i := 58) rfl (by decide) (?_ : ky_V _ _ _ 104 _ _ _ _)
            refine v_iadd (i := 59) rfl (?_ : ky_V _ _ _ 105 _ _ _ _)
            refine v_iload_n (i := 60) (j := 2) rfl rfl (?_ : ky_V _ _ _ 106 _ _ _ _)
            obtain ⟨z153, e⟩ := ky_chkE e
            refine v_iast (i := 61) rfl (md_1 hmh7) (ky_inb z153) ?_
            refine bk_st (B := md_B G a) hmh7 frh7 1 (Int32.toNatClampNeg (x152 + 0)) x9 (by decide) (fun h154 hmh154 frh154 => ?_)
            obtain ⟨q155, eq155⟩ : ∃ z, z = (bk_w q8 1 (Int32.toNatClampNeg (x152 + 0)) x9) := ⟨_, rfl⟩
            rw [← eq155] at hmh154
            replace e := ky_letE eq155 e
            refine (?_ : ky_V _ _ _ 107 _ _ _ _)
            refine v_aload_n (i := 62) (j := 0) rfl rfl (?_ : ky_V _ _ _ 108 _ _ _ _)
            refine gf_X12_13 rfl (i := 63) rfl (md_0 hmh154) rfl (?_ : ky_V _ _ _ 111 _ _ _ _)
            refine v_iload (i := 64) (j := 6) rfl rfl (?_ : ky_V _ _ _ 113 _ _ _ _)
            refine v_iconst (v := 1) (i := 65) rfl (by decide) (?_ : ky_V _ _ _ 114 _ _ _ _)
            refine v_iadd (i := 66) rfl (?_ : ky_V _ _ _ 115 _ _ _ _)
            refine v_iload_n (i := 67) (j := 3) rfl rfl (?_ : ky_V _ _ _ 116 _ _ _ _)
            obtain ⟨z156, e⟩ := ky_chkE e
            refine v_iast (i := 68) rfl (md_1 hmh154) (ky_inb z156) ?_
            refine bk_st (B := md_B G a) hmh154 frh154 1 (Int32.toNatClampNeg (x152 + 1)) (-1) (by decide) (fun h157 hmh157 frh157 => ?_)
            obtain ⟨q158, eq158⟩ : ∃ z, z = (bk_w q155 1 (Int32.toNatClampNeg (x152 + 1)) (-1)) := ⟨_, rfl⟩
            rw [← eq158] at hmh157
            replace e := ky_letE eq158 e
            refine (?_ : ky_V _ _ _ 117 _ _ _ _)
            refine v_aload_n (i := 69) (j := 0) rfl rfl (?_ : ky_V _ _ _ 118 _ _ _ _)
            refine gf_X12_13 rfl (i := 70) rfl (md_0 hmh157) rfl (?_ : ky_V _ _ _ 121 _ _ _ _)
            refine v_iload (i := 71) (j := 6) rfl rfl (?_ : ky_V _ _ _ 123 _ _ _ _)
            refine v_iconst (v := 2) (i := 72) rfl (by decide) (?_ : ky_V _ _ _ 124 _ _ _ _)
            refine v_iadd (i := 73) rfl (?_ : ky_V _ _ _ 125 _ _ _ _)
            refine v_iload (i := 74) (j := 4) rfl rfl (?_ : ky_V _ _ _ 127 _ _ _ _)
            obtain ⟨z159, e⟩ := ky_chkE e
            refine v_iast (i := 75) rfl (md_1 hmh157) (ky_inb z159) ?_
            refine bk_st (B := md_B G a) hmh157 frh157 1 (Int32.toNatClampNeg (x152 + 2)) (-1) (by decide) (fun h160 hmh160 frh160 => ?_)
            obtain ⟨q161, eq161⟩ : ∃ z, z = (bk_w q158 1 (Int32.toNatClampNeg (x152 + 2)) (-1)) := ⟨_, rfl⟩
            rw [← eq161] at hmh160
            replace e := ky_letE eq161 e
            refine (?_ : ky_V _ _ _ 128 _ _ _ _)
            refine v_aload_n (i := 76) (j := 0) rfl rfl (?_ : ky_V _ _ _ 129 _ _ _ _)
            refine gf_X12_13 rfl (i := 77) rfl (md_0 hmh160) rfl (?_ : ky_V _ _ _ 132 _ _ _ _)
            refine v_iload (i := 78) (j := 6) rfl rfl (?_ : ky_V _ _ _ 134 _ _ _ _)
            refine v_iconst (v := 3) (i := 79) rfl (by decide) (?_ : ky_V _ _ _ 135 _ _ _ _)
            refine v_iadd (i := 80) rfl (?_ : ky_V _ _ _ 136 _ _ _ _)
            refine v_iload (i := 81) (j := 5) rfl rfl (?_ : ky_V _ _ _ 138 _ _ _ _)
            obtain ⟨z162, e⟩ := ky_chkE e
            refine v_iast (i := 82) rfl (md_1 hmh160) (ky_inb z162) ?_
            refine bk_st (B := md_B G a) hmh160 frh160 1 (Int32.toNatClampNeg (x152 + 3)) (-1) (by decide) (fun h163 hmh163 frh163 => ?_)
            obtain ⟨q164, eq164⟩ : ∃ z, z = (bk_w q161 1 (Int32.toNatClampNeg (x152 + 3)) (-1)) := ⟨_, rfl⟩
            rw [← eq164] at hmh163
            replace e := ky_letE eq164 e
            refine (?_ : ky_V _ _ _ 139 _ _ _ _)
            refine v_iconst (v := 1) (i := 83) rfl (by decide) (?_ : ky_V _ _ _ 140 _ _ _ _)
            refine v_iret (v := 1) (ty := .boolean) (i := 84) rfl rfl (by decide) ?_
            obtain ⟨rfl, rfl⟩ := ky_leaf e
            exact hr _ hmh163 frh163
          · replace e := ky_ifF c151 e
            refine v_iconst (v := 0) (i := 47) rfl (by decide) (?_ : ky_V _ _ _ 88 _ _ _ _)
            refine v_iret (v := 0) (ty := .boolean) (i := 48) rfl rfl (by decide) ?_
            obtain ⟨rfl, rfl⟩ := ky_leaf e
            exact hr _ hmh7 frh7
  · replace e := ky_ifF c5 e
    refine v_iconst (v := (-1)) (i := 7) rfl (by decide) (?_ : ky_V _ _ _ 13 _ _ _ _)
    refine v_goto (tgt := 25) (i := 8) rfl (by decide) (?_ : ky_V _ _ _ 25 _ _ _ _)
    refine v_istore_n (L' := [(0, .ref a), (1, .int x3), (2, .int (-1))]) [1, 2, 0] (i := 14) rfl (Nat.le_of_ble_eq_true rfl) rfl (?_ : ky_V _ _ _ 26 _ _ _ _)
    refine v_iload_n (i := 15) (j := 2) rfl rfl (?_ : ky_V _ _ _ 27 _ _ _ _)
    refine v_if_ge (tgt := 34) (i := 16) rfl (by decide) (fun c165 => ?_) (fun c165 => ?_)
    · replace e := ky_ifT c165 e
      refine v_aload_n (i := 19) (j := 0) rfl rfl (?_ : ky_V _ _ _ 35 _ _ _ _)
      obtain ⟨s166, hvs166, hss166⟩ := sg_X12_119 hG
      refine v_ldcS (i := 20) hvs166 rfl (?_ : ky_V _ _ _ 37 _ _ _ _)
      refine v_iconst (v := 0) (i := 21) rfl (by decide) (?_ : ky_V _ _ _ 38 _ _ _ _)
      refine v_bipush (v := 9) (i := 22) rfl (by decide) (?_ : ky_V _ _ _ 40 _ _ _ _)
      obtain ⟨⟨q168, x169⟩, g170, e⟩ := Option.bind_eq_some_iff.mp e
      refine cl_X12_115 (As := [.ref s166, .int 0, .int 9]) rfl (i := 23) rfl (md_0 hmh1) rfl rfl (Nat.le_of_ble_eq_true rfl) (k_X12_after N hG hmh1 hss166 g170 (fun h167 hmh167 frh167 => ⟨_, rfl, (?_ : ky_V _ _ _ 43 _ [.int x169] _ _)⟩))
      have frh167 := frh1.tr frh167
      refine v_istore_n (L' := [(0, .ref a), (1, .int x3), (2, .int (-1)), (3, .int x169)]) [1, 2, 3, 0] (i := 24) rfl (Nat.le_of_ble_eq_true rfl) rfl (?_ : ky_V _ _ _ 44 _ _ _ _)
      refine v_iload_n (i := 25) (j := 3) rfl rfl (?_ : ky_V _ _ _ 45 _ _ _ _)
      refine v_if_ge (tgt := 52) (i := 26) rfl (by decide) (fun c171 => ?_) (fun c171 => ?_)
      · replace e := ky_ifT c171 e
        refine v_aload_n (i := 29) (j := 0) rfl rfl (?_ : ky_V _ _ _ 53 _ _ _ _)
        obtain ⟨s172, hvs172, hss172⟩ := sg_X12_121 hG
        refine v_ldcS (i := 30) hvs172 rfl (?_ : ky_V _ _ _ 55 _ _ _ _)
        refine v_iconst (v := 0) (i := 31) rfl (by decide) (?_ : ky_V _ _ _ 56 _ _ _ _)
        refine v_iconst (v := 5) (i := 32) rfl (by decide) (?_ : ky_V _ _ _ 57 _ _ _ _)
        obtain ⟨⟨q174, x175⟩, g176, e⟩ := Option.bind_eq_some_iff.mp e
        refine cl_X12_115 (As := [.ref s172, .int 0, .int 5]) rfl (i := 33) rfl (md_0 hmh167) rfl rfl (Nat.le_of_ble_eq_true rfl) (k_X12_after N hG hmh167 hss172 g176 (fun h173 hmh173 frh173 => ⟨_, rfl, (?_ : ky_V _ _ _ 60 _ [.int x175] _ _)⟩))
        have frh173 := frh167.tr frh173
        refine v_istore (L' := [(0, .ref a), (1, .int x3), (2, .int (-1)), (3, .int x169), (4, .int x175)]) [1, 2, 3, 4, 0] (i := 34) rfl (Nat.le_of_ble_eq_true rfl) rfl (?_ : ky_V _ _ _ 62 _ _ _ _)
        refine v_iload (i := 35) (j := 4) rfl rfl (?_ : ky_V _ _ _ 64 _ _ _ _)
        refine v_if_ge (tgt := 71) (i := 36) rfl (by decide) (fun c177 => ?_) (fun c177 => ?_)
        · replace e := ky_ifT c177 e
          refine v_aload_n (i := 39) (j := 0) rfl rfl (?_ : ky_V _ _ _ 72 _ _ _ _)
          obtain ⟨s178, hvs178, hss178⟩ := sg_X12_123 hG
          refine v_ldcS (i := 40) hvs178 rfl (?_ : ky_V _ _ _ 74 _ _ _ _)
          refine v_iconst (v := 1) (i := 41) rfl (by decide) (?_ : ky_V _ _ _ 75 _ _ _ _)
          refine v_bipush (v := 30) (i := 42) rfl (by decide) (?_ : ky_V _ _ _ 77 _ _ _ _)
          obtain ⟨⟨q180, x181⟩, g182, e⟩ := Option.bind_eq_some_iff.mp e
          refine cl_X12_115 (As := [.ref s178, .int 1, .int 30]) rfl (i := 43) rfl (md_0 hmh173) rfl rfl (Nat.le_of_ble_eq_true rfl) (k_X12_after N hG hmh173 hss178 g182 (fun h179 hmh179 frh179 => ⟨_, rfl, (?_ : ky_V _ _ _ 80 _ [.int x181] _ _)⟩))
          have frh179 := frh173.tr frh179
          refine v_istore (L' := [(0, .ref a), (1, .int x3), (2, .int (-1)), (3, .int x169), (4, .int x175), (5, .int x181)]) [1, 2, 3, 4, 5, 0] (i := 44) rfl (Nat.le_of_ble_eq_true rfl) rfl (?_ : ky_V _ _ _ 82 _ _ _ _)
          refine v_iload (i := 45) (j := 5) rfl rfl (?_ : ky_V _ _ _ 84 _ _ _ _)
          refine v_if_ge (tgt := 89) (i := 46) rfl (by decide) (fun c183 => ?_) (fun c183 => ?_)
          · replace e := ky_ifT c183 e
            refine v_bipush (v := 17) (i := 49) rfl (by decide) (?_ : ky_V _ _ _ 91 _ _ _ _)
            refine v_iconst (v := 4) (i := 50) rfl (by decide) (?_ : ky_V _ _ _ 92 _ _ _ _)
            refine v_iload_n (i := 51) (j := 1) rfl rfl (?_ : ky_V _ _ _ 93 _ _ _ _)
            refine v_imul (i := 52) rfl (?_ : ky_V _ _ _ 94 _ _ _ _)
            refine v_iadd (i := 53) rfl (?_ : ky_V _ _ _ 95 _ _ _ _)
            refine v_topi (fun x184 ex184 => ?_)
            replace e := ky_letE ex184 e
            refine v_istore (L' := [(0, .ref a), (1, .int x3), (2, .int (-1)), (3, .int x169), (4, .int x175), (5, .int x181), (6, .int x184)]) [1, 2, 3, 4, 5, 6, 0] (i := 54) rfl (Nat.le_of_ble_eq_true rfl) rfl (?_ : ky_V _ _ _ 97 _ _ _ _)
            refine v_aload_n (i := 55) (j := 0) rfl rfl (?_ : ky_V _ _ _ 98 _ _ _ _)
            refine gf_X12_13 rfl (i := 56) rfl (md_0 hmh179) rfl (?_ : ky_V _ _ _ 101 _ _ _ _)
            refine v_iload (i := 57) (j := 6) rfl rfl (?_ : ky_V _ _ _ 103 _ _ _ _)
            refine v_iconst (v := 0) (i := 58) rfl (by decide) (?_ : ky_V _ _ _ 104 _ _ _ _)
            refine v_iadd (i := 59) rfl (?_ : ky_V _ _ _ 105 _ _ _ _)
            refine v_iload_n (i := 60) (j := 2) rfl rfl (?_ : ky_V _ _ _ 106 _ _ _ _)
            obtain ⟨z185, e⟩ := ky_chkE e
            refine v_iast (i := 61) rfl (md_1 hmh179) (ky_inb z185) ?_
            refine bk_st (B := md_B G a) hmh179 frh179 1 (Int32.toNatClampNeg (x184 + 0)) (-1) (by decide) (fun h186 hmh186 frh186 => ?_)
            obtain ⟨q187, eq187⟩ : ∃ z, z = (bk_w q180 1 (Int32.toNatClampNeg (x184 + 0)) (-1)) := ⟨_, rfl⟩
            rw [← eq187] at hmh186
            replace e := ky_letE eq187 e
            refine (?_ : ky_V _ _ _ 107 _ _ _ _)
            refine v_aload_n (i := 62) (j := 0) rfl rfl (?_ : ky_V _ _ _ 108 _ _ _ _)
            refine gf_X12_13 rfl (i := 63) rfl (md_0 hmh186) rfl (?_ : ky_V _ _ _ 111 _ _ _ _)
            refine v_iload (i := 64) (j := 6) rfl rfl (?_ : ky_V _ _ _ 113 _ _ _ _)
            refine v_iconst (v := 1) (i := 65) rfl (by decide) (?_ : ky_V _ _ _ 114 _ _ _ _)
            refine v_iadd (i := 66) rfl (?_ : ky_V _ _ _ 115 _ _ _ _)
            refine v_iload_n (i := 67) (j := 3) rfl rfl (?_ : ky_V _ _ _ 116 _ _ _ _)
            obtain ⟨z188, e⟩ := ky_chkE e
            refine v_iast (i := 68) rfl (md_1 hmh186) (ky_inb z188) ?_
            refine bk_st (B := md_B G a) hmh186 frh186 1 (Int32.toNatClampNeg (x184 + 1)) x169 (by decide) (fun h189 hmh189 frh189 => ?_)
            obtain ⟨q190, eq190⟩ : ∃ z, z = (bk_w q187 1 (Int32.toNatClampNeg (x184 + 1)) x169) := ⟨_, rfl⟩
            rw [← eq190] at hmh189
            replace e := ky_letE eq190 e
            refine (?_ : ky_V _ _ _ 117 _ _ _ _)
            refine v_aload_n (i := 69) (j := 0) rfl rfl (?_ : ky_V _ _ _ 118 _ _ _ _)
            refine gf_X12_13 rfl (i := 70) rfl (md_0 hmh189) rfl (?_ : ky_V _ _ _ 121 _ _ _ _)
            refine v_iload (i := 71) (j := 6) rfl rfl (?_ : ky_V _ _ _ 123 _ _ _ _)
            refine v_iconst (v := 2) (i := 72) rfl (by decide) (?_ : ky_V _ _ _ 124 _ _ _ _)
            refine v_iadd (i := 73) rfl (?_ : ky_V _ _ _ 125 _ _ _ _)
            refine v_iload (i := 74) (j := 4) rfl rfl (?_ : ky_V _ _ _ 127 _ _ _ _)
            obtain ⟨z191, e⟩ := ky_chkE e
            refine v_iast (i := 75) rfl (md_1 hmh189) (ky_inb z191) ?_
            refine bk_st (B := md_B G a) hmh189 frh189 1 (Int32.toNatClampNeg (x184 + 2)) x175 (by decide) (fun h192 hmh192 frh192 => ?_)
            obtain ⟨q193, eq193⟩ : ∃ z, z = (bk_w q190 1 (Int32.toNatClampNeg (x184 + 2)) x175) := ⟨_, rfl⟩
            rw [← eq193] at hmh192
            replace e := ky_letE eq193 e
            refine (?_ : ky_V _ _ _ 128 _ _ _ _)
            refine v_aload_n (i := 76) (j := 0) rfl rfl (?_ : ky_V _ _ _ 129 _ _ _ _)
            refine gf_X12_13 rfl (i := 77) rfl (md_0 hmh192) rfl (?_ : ky_V _ _ _ 132 _ _ _ _)
            refine v_iload (i := 78) (j := 6) rfl rfl (?_ : ky_V _ _ _ 134 _ _ _ _)
            refine v_iconst (v := 3) (i := 79) rfl (by decide) (?_ : ky_V _ _ _ 135 _ _ _ _)
            refine v_iadd (i := 80) rfl (?_ : ky_V _ _ _ 136 _ _ _ _)
            refine v_iload (i := 81) (j := 5) rfl rfl (?_ : ky_V _ _ _ 138 _ _ _ _)
            obtain ⟨z194, e⟩ := ky_chkE e
            refine v_iast (i := 82) rfl (md_1 hmh192) (ky_inb z194) ?_
            refine bk_st (B := md_B G a) hmh192 frh192 1 (Int32.toNatClampNeg (x184 + 3)) x181 (by decide) (fun h195 hmh195 frh195 => ?_)
            obtain ⟨q196, eq196⟩ : ∃ z, z = (bk_w q193 1 (Int32.toNatClampNeg (x184 + 3)) x181) := ⟨_, rfl⟩
            rw [← eq196] at hmh195
            replace e := ky_letE eq196 e
            refine (?_ : ky_V _ _ _ 139 _ _ _ _)
            refine v_iconst (v := 1) (i := 83) rfl (by decide) (?_ : ky_V _ _ _ 140 _ _ _ _)
            refine v_iret (v := 1) (ty := .boolean) (i := 84) rfl rfl (by decide) ?_
            obtain ⟨rfl, rfl⟩ := ky_leaf e
            exact hr _ hmh195 frh195
          · replace e := ky_ifF c183 e
            refine v_iconst (v := 0) (i := 47) rfl (by decide) (?_ : ky_V _ _ _ 88 _ _ _ _)
            refine v_iret (v := 0) (ty := .boolean) (i := 48) rfl rfl (by decide) ?_
            obtain ⟨rfl, rfl⟩ := ky_leaf e
            exact hr _ hmh179 frh179
        · replace e := ky_ifF c177 e
          refine v_iconst (v := (-1)) (i := 37) rfl (by decide) (?_ : ky_V _ _ _ 68 _ _ _ _)
          refine v_goto (tgt := 80) (i := 38) rfl (by decide) (?_ : ky_V _ _ _ 80 _ _ _ _)
          refine v_istore (L' := [(0, .ref a), (1, .int x3), (2, .int (-1)), (3, .int x169), (4, .int x175), (5, .int (-1))]) [1, 2, 3, 4, 5, 0] (i := 44) rfl (Nat.le_of_ble_eq_true rfl) rfl (?_ : ky_V _ _ _ 82 _ _ _ _)
          refine v_iload (i := 45) (j := 5) rfl rfl (?_ : ky_V _ _ _ 84 _ _ _ _)
          refine v_if_ge (tgt := 89) (i := 46) rfl (by decide) (fun c197 => ?_) (fun c197 => ?_)
          · replace e := ky_ifT c197 e
            refine v_bipush (v := 17) (i := 49) rfl (by decide) (?_ : ky_V _ _ _ 91 _ _ _ _)
            refine v_iconst (v := 4) (i := 50) rfl (by decide) (?_ : ky_V _ _ _ 92 _ _ _ _)
            refine v_iload_n (i := 51) (j := 1) rfl rfl (?_ : ky_V _ _ _ 93 _ _ _ _)
            refine v_imul (i := 52) rfl (?_ : ky_V _ _ _ 94 _ _ _ _)
            refine v_iadd (i := 53) rfl (?_ : ky_V _ _ _ 95 _ _ _ _)
            refine v_topi (fun x198 ex198 => ?_)
            replace e := ky_letE ex198 e
            refine v_istore (L' := [(0, .ref a), (1, .int x3), (2, .int (-1)), (3, .int x169), (4, .int x175), (5, .int (-1)), (6, .int x198)]) [1, 2, 3, 4, 5, 6, 0] (i := 54) rfl (Nat.le_of_ble_eq_true rfl) rfl (?_ : ky_V _ _ _ 97 _ _ _ _)
            refine v_aload_n (i := 55) (j := 0) rfl rfl (?_ : ky_V _ _ _ 98 _ _ _ _)
            refine gf_X12_13 rfl (i := 56) rfl (md_0 hmh173) rfl (?_ : ky_V _ _ _ 101 _ _ _ _)
            refine v_iload (i := 57) (j := 6) rfl rfl (?_ : ky_V _ _ _ 103 _ _ _ _)
            refine v_iconst (v := 0) (i := 58) rfl (by decide) (?_ : ky_V _ _ _ 104 _ _ _ _)
            refine v_iadd (i := 59) rfl (?_ : ky_V _ _ _ 105 _ _ _ _)
            refine v_iload_n (i := 60) (j := 2) rfl rfl (?_ : ky_V _ _ _ 106 _ _ _ _)
            obtain ⟨z199, e⟩ := ky_chkE e
            refine v_iast (i := 61) rfl (md_1 hmh173) (ky_inb z199) ?_
            refine bk_st (B := md_B G a) hmh173 frh173 1 (Int32.toNatClampNeg (x198 + 0)) (-1) (by decide) (fun h200 hmh200 frh200 => ?_)
            obtain ⟨q201, eq201⟩ : ∃ z, z = (bk_w q174 1 (Int32.toNatClampNeg (x198 + 0)) (-1)) := ⟨_, rfl⟩
            rw [← eq201] at hmh200
            replace e := ky_letE eq201 e
            refine (?_ : ky_V _ _ _ 107 _ _ _ _)
            refine v_aload_n (i := 62) (j := 0) rfl rfl (?_ : ky_V _ _ _ 108 _ _ _ _)
            refine gf_X12_13 rfl (i := 63) rfl (md_0 hmh200) rfl (?_ : ky_V _ _ _ 111 _ _ _ _)
            refine v_iload (i := 64) (j := 6) rfl rfl (?_ : ky_V _ _ _ 113 _ _ _ _)
            refine v_iconst (v := 1) (i := 65) rfl (by decide) (?_ : ky_V _ _ _ 114 _ _ _ _)
            refine v_iadd (i := 66) rfl (?_ : ky_V _ _ _ 115 _ _ _ _)
            refine v_iload_n (i := 67) (j := 3) rfl rfl (?_ : ky_V _ _ _ 116 _ _ _ _)
            obtain ⟨z202, e⟩ := ky_chkE e
            refine v_iast (i := 68) rfl (md_1 hmh200) (ky_inb z202) ?_
            refine bk_st (B := md_B G a) hmh200 frh200 1 (Int32.toNatClampNeg (x198 + 1)) x169 (by decide) (fun h203 hmh203 frh203 => ?_)
            obtain ⟨q204, eq204⟩ : ∃ z, z = (bk_w q201 1 (Int32.toNatClampNeg (x198 + 1)) x169) := ⟨_, rfl⟩
            rw [← eq204] at hmh203
            replace e := ky_letE eq204 e
            refine (?_ : ky_V _ _ _ 117 _ _ _ _)
            refine v_aload_n (i := 69) (j := 0) rfl rfl (?_ : ky_V _ _ _ 118 _ _ _ _)
            refine gf_X12_13 rfl (i := 70) rfl (md_0 hmh203) rfl (?_ : ky_V _ _ _ 121 _ _ _ _)
            refine v_iload (i := 71) (j := 6) rfl rfl (?_ : ky_V _ _ _ 123 _ _ _ _)
            refine v_iconst (v := 2) (i := 72) rfl (by decide) (?_ : ky_V _ _ _ 124 _ _ _ _)
            refine v_iadd (i := 73) rfl (?_ : ky_V _ _ _ 125 _ _ _ _)
            refine v_iload (i := 74) (j := 4) rfl rfl (?_ : ky_V _ _ _ 127 _ _ _ _)
            obtain ⟨z205, e⟩ := ky_chkE e
            refine v_iast (i := 75) rfl (md_1 hmh203) (ky_inb z205) ?_
            refine bk_st (B := md_B G a) hmh203 frh203 1 (Int32.toNatClampNeg (x198 + 2)) x175 (by decide) (fun h206 hmh206 frh206 => ?_)
            obtain ⟨q207, eq207⟩ : ∃ z, z = (bk_w q204 1 (Int32.toNatClampNeg (x198 + 2)) x175) := ⟨_, rfl⟩
            rw [← eq207] at hmh206
            replace e := ky_letE eq207 e
            refine (?_ : ky_V _ _ _ 128 _ _ _ _)
            refine v_aload_n (i := 76) (j := 0) rfl rfl (?_ : ky_V _ _ _ 129 _ _ _ _)
            refine gf_X12_13 rfl (i := 77) rfl (md_0 hmh206) rfl (?_ : ky_V _ _ _ 132 _ _ _ _)
            refine v_iload (i := 78) (j := 6) rfl rfl (?_ : ky_V _ _ _ 134 _ _ _ _)
            refine v_iconst (v := 3) (i := 79) rfl (by decide) (?_ : ky_V _ _ _ 135 _ _ _ _)
            refine v_iadd (i := 80) rfl (?_ : ky_V _ _ _ 136 _ _ _ _)
            refine v_iload (i := 81) (j := 5) rfl rfl (?_ : ky_V _ _ _ 138 _ _ _ _)
            obtain ⟨z208, e⟩ := ky_chkE e
            refine v_iast (i := 82) rfl (md_1 hmh206) (ky_inb z208) ?_
            refine bk_st (B := md_B G a) hmh206 frh206 1 (Int32.toNatClampNeg (x198 + 3)) (-1) (by decide) (fun h209 hmh209 frh209 => ?_)
            obtain ⟨q210, eq210⟩ : ∃ z, z = (bk_w q207 1 (Int32.toNatClampNeg (x198 + 3)) (-1)) := ⟨_, rfl⟩
            rw [← eq210] at hmh209
            replace e := ky_letE eq210 e
            refine (?_ : ky_V _ _ _ 139 _ _ _ _)
            refine v_iconst (v := 1) (i := 83) rfl (by decide) (?_ : ky_V _ _ _ 140 _ _ _ _)
            refine v_iret (v := 1) (ty := .boolean) (i := 84) rfl rfl (by decide) ?_
            obtain ⟨rfl, rfl⟩ := ky_leaf e
            exact hr _ hmh209 frh209
          · replace e := ky_ifF c197 e
            refine v_iconst (v := 0) (i := 47) rfl (by decide) (?_ : ky_V _ _ _ 88 _ _ _ _)
            refine v_iret (v := 0) (ty := .boolean) (i := 48) rfl rfl (by decide) ?_
            obtain ⟨rfl, rfl⟩ := ky_leaf e
            exact hr _ hmh173 frh173
      · replace e := ky_ifF c171 e
        refine v_iconst (v := (-1)) (i := 27) rfl (by decide) (?_ : ky_V _ _ _ 49 _ _ _ _)
        refine v_goto (tgt := 60) (i := 28) rfl (by decide) (?_ : ky_V _ _ _ 60 _ _ _ _)
        refine v_istore (L' := [(0, .ref a), (1, .int x3), (2, .int (-1)), (3, .int x169), (4, .int (-1))]) [1, 2, 3, 4, 0] (i := 34) rfl (Nat.le_of_ble_eq_true rfl) rfl (?_ : ky_V _ _ _ 62 _ _ _ _)
        refine v_iload (i := 35) (j := 4) rfl rfl (?_ : ky_V _ _ _ 64 _ _ _ _)
        refine v_if_ge (tgt := 71) (i := 36) rfl (by decide) (fun c211 => ?_) (fun c211 => ?_)
        · replace e := ky_ifT c211 e
          refine v_aload_n (i := 39) (j := 0) rfl rfl (?_ : ky_V _ _ _ 72 _ _ _ _)
          obtain ⟨s212, hvs212, hss212⟩ := sg_X12_123 hG
          refine v_ldcS (i := 40) hvs212 rfl (?_ : ky_V _ _ _ 74 _ _ _ _)
          refine v_iconst (v := 1) (i := 41) rfl (by decide) (?_ : ky_V _ _ _ 75 _ _ _ _)
          refine v_bipush (v := 30) (i := 42) rfl (by decide) (?_ : ky_V _ _ _ 77 _ _ _ _)
          obtain ⟨⟨q214, x215⟩, g216, e⟩ := Option.bind_eq_some_iff.mp e
          refine cl_X12_115 (As := [.ref s212, .int 1, .int 30]) rfl (i := 43) rfl (md_0 hmh167) rfl rfl (Nat.le_of_ble_eq_true rfl) (k_X12_after N hG hmh167 hss212 g216 (fun h213 hmh213 frh213 => ⟨_, rfl, (?_ : ky_V _ _ _ 80 _ [.int x215] _ _)⟩))
          have frh213 := frh167.tr frh213
          refine v_istore (L' := [(0, .ref a), (1, .int x3), (2, .int (-1)), (3, .int x169), (4, .int (-1)), (5, .int x215)]) [1, 2, 3, 4, 5, 0] (i := 44) rfl (Nat.le_of_ble_eq_true rfl) rfl (?_ : ky_V _ _ _ 82 _ _ _ _)
          refine v_iload (i := 45) (j := 5) rfl rfl (?_ : ky_V _ _ _ 84 _ _ _ _)
          refine v_if_ge (tgt := 89) (i := 46) rfl (by decide) (fun c217 => ?_) (fun c217 => ?_)
          · replace e := ky_ifT c217 e
            refine v_bipush (v := 17) (i := 49) rfl (by decide) (?_ : ky_V _ _ _ 91 _ _ _ _)
            refine v_iconst (v := 4) (i := 50) rfl (by decide) (?_ : ky_V _ _ _ 92 _ _ _ _)
            refine v_iload_n (i := 51) (j := 1) rfl rfl (?_ : ky_V _ _ _ 93 _ _ _ _)
            refine v_imul (i := 52) rfl (?_ : ky_V _ _ _ 94 _ _ _ _)
            refine v_iadd (i := 53) rfl (?_ : ky_V _ _ _ 95 _ _ _ _)
            refine v_topi (fun x218 ex218 => ?_)
            replace e := ky_letE ex218 e
            refine v_istore (L' := [(0, .ref a), (1, .int x3), (2, .int (-1)), (3, .int x169), (4, .int (-1)), (5, .int x215), (6, .int x218)]) [1, 2, 3, 4, 5, 6, 0] (i := 54) rfl (Nat.le_of_ble_eq_true rfl) rfl (?_ : ky_V _ _ _ 97 _ _ _ _)
            refine v_aload_n (i := 55) (j := 0) rfl rfl (?_ : ky_V _ _ _ 98 _ _ _ _)
            refine gf_X12_13 rfl (i := 56) rfl (md_0 hmh213) rfl (?_ : ky_V _ _ _ 101 _ _ _ _)
            refine v_iload (i := 57) (j := 6) rfl rfl (?_ : ky_V _ _ _ 103 _ _ _ _)
            refine v_iconst (v := 0) (i := 58) rfl (by decide) (?_ : ky_V _ _ _ 104 _ _ _ _)
            refine v_iadd (i := 59) rfl (?_ : ky_V _ _ _ 105 _ _ _ _)
            refine v_iload_n (i := 60) (j := 2) rfl rfl (?_ : ky_V _ _ _ 106 _ _ _ _)
            obtain ⟨z219, e⟩ := ky_chkE e
            refine v_iast (i := 61) rfl (md_1 hmh213) (ky_inb z219) ?_
            refine bk_st (B := md_B G a) hmh213 frh213 1 (Int32.toNatClampNeg (x218 + 0)) (-1) (by decide) (fun h220 hmh220 frh220 => ?_)
            obtain ⟨q221, eq221⟩ : ∃ z, z = (bk_w q214 1 (Int32.toNatClampNeg (x218 + 0)) (-1)) := ⟨_, rfl⟩
            rw [← eq221] at hmh220
            replace e := ky_letE eq221 e
            refine (?_ : ky_V _ _ _ 107 _ _ _ _)
            refine v_aload_n (i := 62) (j := 0) rfl rfl (?_ : ky_V _ _ _ 108 _ _ _ _)
            refine gf_X12_13 rfl (i := 63) rfl (md_0 hmh220) rfl (?_ : ky_V _ _ _ 111 _ _ _ _)
            refine v_iload (i := 64) (j := 6) rfl rfl (?_ : ky_V _ _ _ 113 _ _ _ _)
            refine v_iconst (v := 1) (i := 65) rfl (by decide) (?_ : ky_V _ _ _ 114 _ _ _ _)
            refine v_iadd (i := 66) rfl (?_ : ky_V _ _ _ 115 _ _ _ _)
            refine v_iload_n (i := 67) (j := 3) rfl rfl (?_ : ky_V _ _ _ 116 _ _ _ _)
            obtain ⟨z222, e⟩ := ky_chkE e
            refine v_iast (i := 68) rfl (md_1 hmh220) (ky_inb z222) ?_
            refine bk_st (B := md_B G a) hmh220 frh220 1 (Int32.toNatClampNeg (x218 + 1)) x169 (by decide) (fun h223 hmh223 frh223 => ?_)
            obtain ⟨q224, eq224⟩ : ∃ z, z = (bk_w q221 1 (Int32.toNatClampNeg (x218 + 1)) x169) := ⟨_, rfl⟩
            rw [← eq224] at hmh223
            replace e := ky_letE eq224 e
            refine (?_ : ky_V _ _ _ 117 _ _ _ _)
            refine v_aload_n (i := 69) (j := 0) rfl rfl (?_ : ky_V _ _ _ 118 _ _ _ _)
            refine gf_X12_13 rfl (i := 70) rfl (md_0 hmh223) rfl (?_ : ky_V _ _ _ 121 _ _ _ _)
            refine v_iload (i := 71) (j := 6) rfl rfl (?_ : ky_V _ _ _ 123 _ _ _ _)
            refine v_iconst (v := 2) (i := 72) rfl (by decide) (?_ : ky_V _ _ _ 124 _ _ _ _)
            refine v_iadd (i := 73) rfl (?_ : ky_V _ _ _ 125 _ _ _ _)
            refine v_iload (i := 74) (j := 4) rfl rfl (?_ : ky_V _ _ _ 127 _ _ _ _)
            obtain ⟨z225, e⟩ := ky_chkE e
            refine v_iast (i := 75) rfl (md_1 hmh223) (ky_inb z225) ?_
            refine bk_st (B := md_B G a) hmh223 frh223 1 (Int32.toNatClampNeg (x218 + 2)) (-1) (by decide) (fun h226 hmh226 frh226 => ?_)
            obtain ⟨q227, eq227⟩ : ∃ z, z = (bk_w q224 1 (Int32.toNatClampNeg (x218 + 2)) (-1)) := ⟨_, rfl⟩
            rw [← eq227] at hmh226
            replace e := ky_letE eq227 e
            refine (?_ : ky_V _ _ _ 128 _ _ _ _)
            refine v_aload_n (i := 76) (j := 0) rfl rfl (?_ : ky_V _ _ _ 129 _ _ _ _)
            refine gf_X12_13 rfl (i := 77) rfl (md_0 hmh226) rfl (?_ : ky_V _ _ _ 132 _ _ _ _)
            refine v_iload (i := 78) (j := 6) rfl rfl (?_ : ky_V _ _ _ 134 _ _ _ _)
            refine v_iconst (v := 3) (i := 79) rfl (by decide) (?_ : ky_V _ _ _ 135 _ _ _ _)
            refine v_iadd (i := 80) rfl (?_ : ky_V _ _ _ 136 _ _ _ _)
            refine v_iload (i := 81) (j := 5) rfl rfl (?_ : ky_V _ _ _ 138 _ _ _ _)
            obtain ⟨z228, e⟩ := ky_chkE e
            refine v_iast (i := 82) rfl (md_1 hmh226) (ky_inb z228) ?_
            refine bk_st (B := md_B G a) hmh226 frh226 1 (Int32.toNatClampNeg (x218 + 3)) x215 (by decide) (fun h229 hmh229 frh229 => ?_)
            obtain ⟨q230, eq230⟩ : ∃ z, z = (bk_w q227 1 (Int32.toNatClampNeg (x218 + 3)) x215) := ⟨_, rfl⟩
            rw [← eq230] at hmh229
            replace e := ky_letE eq230 e
            refine (?_ : ky_V _ _ _ 139 _ _ _ _)
            refine v_iconst (v := 1) (i := 83) rfl (by decide) (?_ : ky_V _ _ _ 140 _ _ _ _)
            refine v_iret (v := 1) (ty := .boolean) (i := 84) rfl rfl (by decide) ?_
            obtain ⟨rfl, rfl⟩ := ky_leaf e
            exact hr _ hmh229 frh229
          · replace e := ky_ifF c217 e
            refine v_iconst (v := 0) (i := 47) rfl (by decide) (?_ : ky_V _ _ _ 88 _ _ _ _)
            refine v_iret (v := 0) (ty := .boolean) (i := 48) rfl rfl (by decide) ?_
            obtain ⟨rfl, rfl⟩ := ky_leaf e
            exact hr _ hmh213 frh213
        · replace e := ky_ifF c211 e
          refine v_iconst (v := (-1)) (i := 37) rfl (by decide) (?_ : ky_V _ _ _ 68 _ _ _ _)
          refine v_goto (tgt := 80) (i := 38) rfl (by decide) (?_ : ky_V _ _ _ 80 _ _ _ _)
          refine v_istore (L' := [(0, .ref a), (1, .int x3), (2, .int (-1)), (3, .int x169), (4, .int (-1)), (5, .int (-1))]) [1, 2, 3, 4, 5, 0] (i := 44) rfl (Nat.le_of_ble_eq_true rfl) rfl (?_ : ky_V _ _ _ 82 _ _ _ _)
          refine v_iload (i := 45) (j := 5) rfl rfl (?_ : ky_V _ _ _ 84 _ _ _ _)
          refine v_if_ge (tgt := 89) (i := 46) rfl (by decide) (fun c231 => ?_) (fun c231 => ?_)
          · replace e := ky_ifT c231 e
            refine v_bipush (v := 17) (i := 49) rfl (by decide) (?_ : ky_V _ _ _ 91 _ _ _ _)
            refine v_iconst (v := 4) (i := 50) rfl (by decide) (?_ : ky_V _ _ _ 92 _ _ _ _)
            refine v_iload_n (i := 51) (j := 1) rfl rfl (?_ : ky_V _ _ _ 93 _ _ _ _)
            refine v_imul (i := 52) rfl (?_ : ky_V _ _ _ 94 _ _ _ _)
            refine v_iadd (i := 53) rfl (?_ : ky_V _ _ _ 95 _ _ _ _)
            refine v_topi (fun x232 ex232 => ?_)
            replace e := ky_letE ex232 e
            refine v_istore (L' := [(0, .ref a), (1, .int x3), (2, .int (-1)), (3, .int x169), (4, .int (-1)), (5, .int (-1)), (6, .int x232)]) [1, 2, 3, 4, 5, 6, 0] (i := 54) rfl (Nat.le_of_ble_eq_true rfl) rfl (?_ : ky_V _ _ _ 97 _ _ _ _)
            refine v_aload_n (i := 55) (j := 0) rfl rfl (?_ : ky_V _ _ _ 98 _ _ _ _)
            refine gf_X12_13 rfl (i := 56) rfl (md_0 hmh167) rfl (?_ : ky_V _ _ _ 101 _ _ _ _)
            refine v_iload (i := 57) (j := 6) rfl rfl (?_ : ky_V _ _ _ 103 _ _ _ _)
            refine v_iconst (v := 0) (i := 58) rfl (by decide) (?_ : ky_V _ _ _ 104 _ _ _ _)
            refine v_iadd (i := 59) rfl (?_ : ky_V _ _ _ 105 _ _ _ _)
            refine v_iload_n (i := 60) (j := 2) rfl rfl (?_ : ky_V _ _ _ 106 _ _ _ _)
            obtain ⟨z233, e⟩ := ky_chkE e
            refine v_iast (i := 61) rfl (md_1 hmh167) (ky_inb z233) ?_
            refine bk_st (B := md_B G a) hmh167 frh167 1 (Int32.toNatClampNeg (x232 + 0)) (-1) (by decide) (fun h234 hmh234 frh234 => ?_)
            obtain ⟨q235, eq235⟩ : ∃ z, z = (bk_w q168 1 (Int32.toNatClampNeg (x232 + 0)) (-1)) := ⟨_, rfl⟩
            rw [← eq235] at hmh234
            replace e := ky_letE eq235 e
            refine (?_ : ky_V _ _ _ 107 _ _ _ _)
            refine v_aload_n (i := 62) (j := 0) rfl rfl (?_ : ky_V _ _ _ 108 _ _ _ _)
            refine gf_X12_13 rfl (i := 63) rfl (md_0 hmh234) rfl (?_ : ky_V _ _ _ 111 _ _ _ _)
            refine v_iload (i := 64) (j := 6) rfl rfl (?_ : ky_V _ _ _ 113 _ _ _ _)
            refine v_iconst (v := 1) (i := 65) rfl (by decide) (?_ : ky_V _ _ _ 114 _ _ _ _)
            refine v_iadd (i := 66) rfl (?_ : ky_V _ _ _ 115 _ _ _ _)
            refine v_iload_n (i := 67) (j := 3) rfl rfl (?_ : ky_V _ _ _ 116 _ _ _ _)
            obtain ⟨z236, e⟩ := ky_chkE e
            refine v_iast (i := 68) rfl (md_1 hmh234) (ky_inb z236) ?_
            refine bk_st (B := md_B G a) hmh234 frh234 1 (Int32.toNatClampNeg (x232 + 1)) x169 (by decide) (fun h237 hmh237 frh237 => ?_)
            obtain ⟨q238, eq238⟩ : ∃ z, z = (bk_w q235 1 (Int32.toNatClampNeg (x232 + 1)) x169) := ⟨_, rfl⟩
            rw [← eq238] at hmh237
            replace e := ky_letE eq238 e
            refine (?_ : ky_V _ _ _ 117 _ _ _ _)
            refine v_aload_n (i := 69) (j := 0) rfl rfl (?_ : ky_V _ _ _ 118 _ _ _ _)
            refine gf_X12_13 rfl (i := 70) rfl (md_0 hmh237) rfl (?_ : ky_V _ _ _ 121 _ _ _ _)
            refine v_iload (i := 71) (j := 6) rfl rfl (?_ : ky_V _ _ _ 123 _ _ _ _)
            refine v_iconst (v := 2) (i := 72) rfl (by decide) (?_ : ky_V _ _ _ 124 _ _ _ _)
            refine v_iadd (i := 73) rfl (?_ : ky_V _ _ _ 125 _ _ _ _)
            refine v_iload (i := 74) (j := 4) rfl rfl (?_ : ky_V _ _ _ 127 _ _ _ _)
            obtain ⟨z239, e⟩ := ky_chkE e
            refine v_iast (i := 75) rfl (md_1 hmh237) (ky_inb z239) ?_
            refine bk_st (B := md_B G a) hmh237 frh237 1 (Int32.toNatClampNeg (x232 + 2)) (-1) (by decide) (fun h240 hmh240 frh240 => ?_)
            obtain ⟨q241, eq241⟩ : ∃ z, z = (bk_w q238 1 (Int32.toNatClampNeg (x232 + 2)) (-1)) := ⟨_, rfl⟩
            rw [← eq241] at hmh240
            replace e := ky_letE eq241 e
            refine (?_ : ky_V _ _ _ 128 _ _ _ _)
            refine v_aload_n (i := 76) (j := 0) rfl rfl (?_ : ky_V _ _ _ 129 _ _ _ _)
            refine gf_X12_13 rfl (i := 77) rfl (md_0 hmh240) rfl (?_ : ky_V _ _ _ 132 _ _ _ _)
            refine v_iload (i := 78) (j := 6) rfl rfl (?_ : ky_V _ _ _ 134 _ _ _ _)
            refine v_iconst (v := 3) (i := 79) rfl (by decide) (?_ : ky_V _ _ _ 135 _ _ _ _)
            refine v_iadd (i := 80) rfl (?_ : ky_V _ _ _ 136 _ _ _ _)
            refine v_iload (i := 81) (j := 5) rfl rfl (?_ : ky_V _ _ _ 138 _ _ _ _)
            obtain ⟨z242, e⟩ := ky_chkE e
            refine v_iast (i := 82) rfl (md_1 hmh240) (ky_inb z242) ?_
            refine bk_st (B := md_B G a) hmh240 frh240 1 (Int32.toNatClampNeg (x232 + 3)) (-1) (by decide) (fun h243 hmh243 frh243 => ?_)
            obtain ⟨q244, eq244⟩ : ∃ z, z = (bk_w q241 1 (Int32.toNatClampNeg (x232 + 3)) (-1)) := ⟨_, rfl⟩
            rw [← eq244] at hmh243
            replace e := ky_letE eq244 e
            refine (?_ : ky_V _ _ _ 139 _ _ _ _)
            refine v_iconst (v := 1) (i := 83) rfl (by decide) (?_ : ky_V _ _ _ 140 _ _ _ _)
            refine v_iret (v := 1) (ty := .boolean) (i := 84) rfl rfl (by decide) ?_
            obtain ⟨rfl, rfl⟩ := ky_leaf e
            exact hr _ hmh243 frh243
          · replace e := ky_ifF c231 e
            refine v_iconst (v := 0) (i := 47) rfl (by decide) (?_ : ky_V _ _ _ 88 _ _ _ _)
            refine v_iret (v := 0) (ty := .boolean) (i := 48) rfl rfl (by decide) ?_
            obtain ⟨rfl, rfl⟩ := ky_leaf e
            exact hr _ hmh167 frh167
    · replace e := ky_ifF c165 e
      refine v_iconst (v := (-1)) (i := 17) rfl (by decide) (?_ : ky_V _ _ _ 31 _ _ _ _)
      refine v_goto (tgt := 43) (i := 18) rfl (by decide) (?_ : ky_V _ _ _ 43 _ _ _ _)
      refine v_istore_n (L' := [(0, .ref a), (1, .int x3), (2, .int (-1)), (3, .int (-1))]) [1, 2, 3, 0] (i := 24) rfl (Nat.le_of_ble_eq_true rfl) rfl (?_ : ky_V _ _ _ 44 _ _ _ _)
      refine v_iload_n (i := 25) (j := 3) rfl rfl (?_ : ky_V _ _ _ 45 _ _ _ _)
      refine v_if_ge (tgt := 52) (i := 26) rfl (by decide) (fun c245 => ?_) (fun c245 => ?_)
      · replace e := ky_ifT c245 e
        refine v_aload_n (i := 29) (j := 0) rfl rfl (?_ : ky_V _ _ _ 53 _ _ _ _)
        obtain ⟨s246, hvs246, hss246⟩ := sg_X12_121 hG
        refine v_ldcS (i := 30) hvs246 rfl (?_ : ky_V _ _ _ 55 _ _ _ _)
        refine v_iconst (v := 0) (i := 31) rfl (by decide) (?_ : ky_V _ _ _ 56 _ _ _ _)
        refine v_iconst (v := 5) (i := 32) rfl (by decide) (?_ : ky_V _ _ _ 57 _ _ _ _)
        obtain ⟨⟨q248, x249⟩, g250, e⟩ := Option.bind_eq_some_iff.mp e
        refine cl_X12_115 (As := [.ref s246, .int 0, .int 5]) rfl (i := 33) rfl (md_0 hmh1) rfl rfl (Nat.le_of_ble_eq_true rfl) (k_X12_after N hG hmh1 hss246 g250 (fun h247 hmh247 frh247 => ⟨_, rfl, (?_ : ky_V _ _ _ 60 _ [.int x249] _ _)⟩))
        have frh247 := frh1.tr frh247
        refine v_istore (L' := [(0, .ref a), (1, .int x3), (2, .int (-1)), (3, .int (-1)), (4, .int x249)]) [1, 2, 3, 4, 0] (i := 34) rfl (Nat.le_of_ble_eq_true rfl) rfl (?_ : ky_V _ _ _ 62 _ _ _ _)
        refine v_iload (i := 35) (j := 4) rfl rfl (?_ : ky_V _ _ _ 64 _ _ _ _)
        refine v_if_ge (tgt := 71) (i := 36) rfl (by decide) (fun c251 => ?_) (fun c251 => ?_)
        · replace e := ky_ifT c251 e
          refine v_aload_n (i := 39) (j := 0) rfl rfl (?_ : ky_V _ _ _ 72 _ _ _ _)
          obtain ⟨s252, hvs252, hss252⟩ := sg_X12_123 hG
          refine v_ldcS (i := 40) hvs252 rfl (?_ : ky_V _ _ _ 74 _ _ _ _)
          refine v_iconst (v := 1) (i := 41) rfl (by decide) (?_ : ky_V _ _ _ 75 _ _ _ _)
          refine v_bipush (v := 30) (i := 42) rfl (by decide) (?_ : ky_V _ _ _ 77 _ _ _ _)
          obtain ⟨⟨q254, x255⟩, g256, e⟩ := Option.bind_eq_some_iff.mp e
          refine cl_X12_115 (As := [.ref s252, .int 1, .int 30]) rfl (i := 43) rfl (md_0 hmh247) rfl rfl (Nat.le_of_ble_eq_true rfl) (k_X12_after N hG hmh247 hss252 g256 (fun h253 hmh253 frh253 => ⟨_, rfl, (?_ : ky_V _ _ _ 80 _ [.int x255] _ _)⟩))
          have frh253 := frh247.tr frh253
          refine v_istore (L' := [(0, .ref a), (1, .int x3), (2, .int (-1)), (3, .int (-1)), (4, .int x249), (5, .int x255)]) [1, 2, 3, 4, 5, 0] (i := 44) rfl (Nat.le_of_ble_eq_true rfl) rfl (?_ : ky_V _ _ _ 82 _ _ _ _)
          refine v_iload (i := 45) (j := 5) rfl rfl (?_ : ky_V _ _ _ 84 _ _ _ _)
          refine v_if_ge (tgt := 89) (i := 46) rfl (by decide) (fun c257 => ?_) (fun c257 => ?_)
          · replace e := ky_ifT c257 e
            refine v_bipush (v := 17) (i := 49) rfl (by decide) (?_ : ky_V _ _ _ 91 _ _ _ _)
            refine v_iconst (v := 4) (i := 50) rfl (by decide) (?_ : ky_V _ _ _ 92 _ _ _ _)
            refine v_iload_n (i := 51) (j := 1) rfl rfl (?_ : ky_V _ _ _ 93 _ _ _ _)
            refine v_imul (i := 52) rfl (?_ : ky_V _ _ _ 94 _ _ _ _)
            refine v_iadd (i := 53) rfl (?_ : ky_V _ _ _ 95 _ _ _ _)
            refine v_topi (fun x258 ex258 => ?_)
            replace e := ky_letE ex258 e
            refine v_istore (L' := [(0, .ref a), (1, .int x3), (2, .int (-1)), (3, .int (-1)), (4, .int x249), (5, .int x255), (6, .int x258)]) [1, 2, 3, 4, 5, 6, 0] (i := 54) rfl (Nat.le_of_ble_eq_true rfl) rfl (?_ : ky_V _ _ _ 97 _ _ _ _)
            refine v_aload_n (i := 55) (j := 0) rfl rfl (?_ : ky_V _ _ _ 98 _ _ _ _)
            refine gf_X12_13 rfl (i := 56) rfl (md_0 hmh253) rfl (?_ : ky_V _ _ _ 101 _ _ _ _)
            refine v_iload (i := 57) (j := 6) rfl rfl (?_ : ky_V _ _ _ 103 _ _ _ _)
            refine v_iconst (v := 0) (i := 58) rfl (by decide) (?_ : ky_V _ _ _ 104 _ _ _ _)
            refine v_iadd (i := 59) rfl (?_ : ky_V _ _ _ 105 _ _ _ _)
            refine v_iload_n (i := 60) (j := 2) rfl rfl (?_ : ky_V _ _ _ 106 _ _ _ _)
            obtain ⟨z259, e⟩ := ky_chkE e
            refine v_iast (i := 61) rfl (md_1 hmh253) (ky_inb z259) ?_
            refine bk_st (B := md_B G a) hmh253 frh253 1 (Int32.toNatClampNeg (x258 + 0)) (-1) (by decide) (fun h260 hmh260 frh260 => ?_)
            obtain ⟨q261, eq261⟩ : ∃ z, z = (bk_w q254 1 (Int32.toNatClampNeg (x258 + 0)) (-1)) := ⟨_, rfl⟩
            rw [← eq261] at hmh260
            replace e := ky_letE eq261 e
            refine (?_ : ky_V _ _ _ 107 _ _ _ _)
            refine v_aload_n (i := 62) (j := 0) rfl rfl (?_ : ky_V _ _ _ 108 _ _ _ _)
            refine gf_X12_13 rfl (i := 63) rfl (md_0 hmh260) rfl (?_ : ky_V _ _ _ 111 _ _ _ _)
            refine v_iload (i := 64) (j := 6) rfl rfl (?_ : ky_V _ _ _ 113 _ _ _ _)
            refine v_iconst (v := 1) (i := 65) rfl (by decide) (?_ : ky_V _ _ _ 114 _ _ _ _)
            refine v_iadd (i := 66) rfl (?_ : ky_V _ _ _ 115 _ _ _ _)
            refine v_iload_n (i := 67) (j := 3) rfl rfl (?_ : ky_V _ _ _ 116 _ _ _ _)
            obtain ⟨z262, e⟩ := ky_chkE e
            refine v_iast (i := 68) rfl (md_1 hmh260) (ky_inb z262) ?_
            refine bk_st (B := md_B G a) hmh260 frh260 1 (Int32.toNatClampNeg (x258 + 1)) (-1) (by decide) (fun h263 hmh263 frh263 => ?_)
            obtain ⟨q264, eq264⟩ : ∃ z, z = (bk_w q261 1 (Int32.toNatClampNeg (x258 + 1)) (-1)) := ⟨_, rfl⟩
            rw [← eq264] at hmh263
            replace e := ky_letE eq264 e
            refine (?_ : ky_V _ _ _ 117 _ _ _ _)
            refine v_aload_n (i := 69) (j := 0) rfl rfl (?_ : ky_V _ _ _ 118 _ _ _ _)
            refine gf_X12_13 rfl (i := 70) rfl (md_0 hmh263) rfl (?_ : ky_V _ _ _ 121 _ _ _ _)
            refine v_iload (i := 71) (j := 6) rfl rfl (?_ : ky_V _ _ _ 123 _ _ _ _)
            refine v_iconst (v := 2) (i := 72) rfl (by decide) (?_ : ky_V _ _ _ 124 _ _ _ _)
            refine v_iadd (i := 73) rfl (?_ : ky_V _ _ _ 125 _ _ _ _)
            refine v_iload (i := 74) (j := 4) rfl rfl (?_ : ky_V _ _ _ 127 _ _ _ _)
            obtain ⟨z265, e⟩ := ky_chkE e
            refine v_iast (i := 75) rfl (md_1 hmh263) (ky_inb z265) ?_
            refine bk_st (B := md_B G a) hmh263 frh263 1 (Int32.toNatClampNeg (x258 + 2)) x249 (by decide) (fun h266 hmh266 frh266 => ?_)
            obtain ⟨q267, eq267⟩ : ∃ z, z = (bk_w q264 1 (Int32.toNatClampNeg (x258 + 2)) x249) := ⟨_, rfl⟩
            rw [← eq267] at hmh266
            replace e := ky_letE eq267 e
            refine (?_ : ky_V _ _ _ 128 _ _ _ _)
            refine v_aload_n (i := 76) (j := 0) rfl rfl (?_ : ky_V _ _ _ 129 _ _ _ _)
            refine gf_X12_13 rfl (i := 77) rfl (md_0 hmh266) rfl (?_ : ky_V _ _ _ 132 _ _ _ _)
            refine v_iload (i := 78) (j := 6) rfl rfl (?_ : ky_V _ _ _ 134 _ _ _ _)
            refine v_iconst (v := 3) (i := 79) rfl (by decide) (?_ : ky_V _ _ _ 135 _ _ _ _)
            refine v_iadd (i := 80) rfl (?_ : ky_V _ _ _ 136 _ _ _ _)
            refine v_iload (i := 81) (j := 5) rfl rfl (?_ : ky_V _ _ _ 138 _ _ _ _)
            obtain ⟨z268, e⟩ := ky_chkE e
            refine v_iast (i := 82) rfl (md_1 hmh266) (ky_inb z268) ?_
            refine bk_st (B := md_B G a) hmh266 frh266 1 (Int32.toNatClampNeg (x258 + 3)) x255 (by decide) (fun h269 hmh269 frh269 => ?_)
            obtain ⟨q270, eq270⟩ : ∃ z, z = (bk_w q267 1 (Int32.toNatClampNeg (x258 + 3)) x255) := ⟨_, rfl⟩
            rw [← eq270] at hmh269
            replace e := ky_letE eq270 e
            refine (?_ : ky_V _ _ _ 139 _ _ _ _)
            refine v_iconst (v := 1) (i := 83) rfl (by decide) (?_ : ky_V _ _ _ 140 _ _ _ _)
            refine v_iret (v := 1) (ty := .boolean) (i := 84) rfl rfl (by decide) ?_
            obtain ⟨rfl, rfl⟩ := ky_leaf e
            exact hr _ hmh269 frh269
          · replace e := ky_ifF c257 e
            refine v_iconst (v := 0) (i := 47) rfl (by decide) (?_ : ky_V _ _ _ 88 _ _ _ _)
            refine v_iret (v := 0) (ty := .boolean) (i := 48) rfl rfl (by decide) ?_
            obtain ⟨rfl, rfl⟩ := ky_leaf e
            exact hr _ hmh253 frh253
        · replace e := ky_ifF c251 e
          refine v_iconst (v := (-1)) (i := 37) rfl (by decide) (?_ : ky_V _ _ _ 68 _ _ _ _)
          refine v_goto (tgt := 80) (i := 38) rfl (by decide) (?_ : ky_V _ _ _ 80 _ _ _ _)
          refine v_istore (L' := [(0, .ref a), (1, .int x3), (2, .int (-1)), (3, .int (-1)), (4, .int x249), (5, .int (-1))]) [1, 2, 3, 4, 5, 0] (i := 44) rfl (Nat.le_of_ble_eq_true rfl) rfl (?_ : ky_V _ _ _ 82 _ _ _ _)
          refine v_iload (i := 45) (j := 5) rfl rfl (?_ : ky_V _ _ _ 84 _ _ _ _)
          refine v_if_ge (tgt := 89) (i := 46) rfl (by decide) (fun c271 => ?_) (fun c271 => ?_)
          · replace e := ky_ifT c271 e
            refine v_bipush (v := 17) (i := 49) rfl (by decide) (?_ : ky_V _ _ _ 91 _ _ _ _)
            refine v_iconst (v := 4) (i := 50) rfl (by decide) (?_ : ky_V _ _ _ 92 _ _ _ _)
            refine v_iload_n (i := 51) (j := 1) rfl rfl (?_ : ky_V _ _ _ 93 _ _ _ _)
            refine v_imul (i := 52) rfl (?_ : ky_V _ _ _ 94 _ _ _ _)
            refine v_iadd (i := 53) rfl (?_ : ky_V _ _ _ 95 _ _ _ _)
            refine v_topi (fun x272 ex272 => ?_)
            replace e := ky_letE ex272 e
            refine v_istore (L' := [(0, .ref a), (1, .int x3), (2, .int (-1)), (3, .int (-1)), (4, .int x249), (5, .int (-1)), (6, .int x272)]) [1, 2, 3, 4, 5, 6, 0] (i := 54) rfl (Nat.le_of_ble_eq_true rfl) rfl (?_ : ky_V _ _ _ 97 _ _ _ _)
            refine v_aload_n (i := 55) (j := 0) rfl rfl (?_ : ky_V _ _ _ 98 _ _ _ _)
            refine gf_X12_13 rfl (i := 56) rfl (md_0 hmh247) rfl (?_ : ky_V _ _ _ 101 _ _ _ _)
            refine v_iload (i := 57) (j := 6) rfl rfl (?_ : ky_V _ _ _ 103 _ _ _ _)
            refine v_iconst (v := 0) (i := 58) rfl (by decide) (?_ : ky_V _ _ _ 104 _ _ _ _)
            refine v_iadd (i := 59) rfl (?_ : ky_V _ _ _ 105 _ _ _ _)
            refine v_iload_n (i := 60) (j := 2) rfl rfl (?_ : ky_V _ _ _ 106 _ _ _ _)
            obtain ⟨z273, e⟩ := ky_chkE e
            refine v_iast (i := 61) rfl (md_1 hmh247) (ky_inb z273) ?_
            refine bk_st (B := md_B G a) hmh247 frh247 1 (Int32.toNatClampNeg (x272 + 0)) (-1) (by decide) (fun h274 hmh274 frh274 => ?_)
            obtain ⟨q275, eq275⟩ : ∃ z, z = (bk_w q248 1 (Int32.toNatClampNeg (x272 + 0)) (-1)) := ⟨_, rfl⟩
            rw [← eq275] at hmh274
            replace e := ky_letE eq275 e
            refine (?_ : ky_V _ _ _ 107 _ _ _ _)
            refine v_aload_n (i := 62) (j := 0) rfl rfl (?_ : ky_V _ _ _ 108 _ _ _ _)
            refine gf_X12_13 rfl (i := 63) rfl (md_0 hmh274) rfl (?_ : ky_V _ _ _ 111 _ _ _ _)
            refine v_iload (i := 64) (j := 6) rfl rfl (?_ : ky_V _ _ _ 113 _ _ _ _)
            refine v_iconst (v := 1) (i := 65) rfl (by decide) (?_ : ky_V _ _ _ 114 _ _ _ _)
            refine v_iadd (i := 66) rfl (?_ : ky_V _ _ _ 115 _ _ _ _)
            refine v_iload_n (i := 67) (j := 3) rfl rfl (?_ : ky_V _ _ _ 116 _ _ _ _)
            obtain ⟨z276, e⟩ := ky_chkE e
            refine v_iast (i := 68) rfl (md_1 hmh274) (ky_inb z276) ?_
            refine bk_st (B := md_B G a) hmh274 frh274 1 (Int32.toNatClampNeg (x272 + 1)) (-1) (by decide) (fun h277 hmh277 frh277 => ?_)
            obtain ⟨q278, eq278⟩ : ∃ z, z = (bk_w q275 1 (Int32.toNatClampNeg (x272 + 1)) (-1)) := ⟨_, rfl⟩
            rw [← eq278] at hmh277
            replace e := ky_letE eq278 e
            refine (?_ : ky_V _ _ _ 117 _ _ _ _)
            refine v_aload_n (i := 69) (j := 0) rfl rfl (?_ : ky_V _ _ _ 118 _ _ _ _)
            refine gf_X12_13 rfl (i := 70) rfl (md_0 hmh277) rfl (?_ : ky_V _ _ _ 121 _ _ _ _)
            refine v_iload (i := 71) (j := 6) rfl rfl (?_ : ky_V _ _ _ 123 _ _ _ _)
            refine v_iconst (v := 2) (i := 72) rfl (by decide) (?_ : ky_V _ _ _ 124 _ _ _ _)
            refine v_iadd (i := 73) rfl (?_ : ky_V _ _ _ 125 _ _ _ _)
            refine v_iload (i := 74) (j := 4) rfl rfl (?_ : ky_V _ _ _ 127 _ _ _ _)
            obtain ⟨z279, e⟩ := ky_chkE e
            refine v_iast (i := 75) rfl (md_1 hmh277) (ky_inb z279) ?_
            refine bk_st (B := md_B G a) hmh277 frh277 1 (Int32.toNatClampNeg (x272 + 2)) x249 (by decide) (fun h280 hmh280 frh280 => ?_)
            obtain ⟨q281, eq281⟩ : ∃ z, z = (bk_w q278 1 (Int32.toNatClampNeg (x272 + 2)) x249) := ⟨_, rfl⟩
            rw [← eq281] at hmh280
            replace e := ky_letE eq281 e
            refine (?_ : ky_V _ _ _ 128 _ _ _ _)
            refine v_aload_n (i := 76) (j := 0) rfl rfl (?_ : ky_V _ _ _ 129 _ _ _ _)
            refine gf_X12_13 rfl (i := 77) rfl (md_0 hmh280) rfl (?_ : ky_V _ _ _ 132 _ _ _ _)
            refine v_iload (i := 78) (j := 6) rfl rfl (?_ : ky_V _ _ _ 134 _ _ _ _)
            refine v_iconst (v := 3) (i := 79) rfl (by decide) (?_ : ky_V _ _ _ 135 _ _ _ _)
            refine v_iadd (i := 80) rfl (?_ : ky_V _ _ _ 136 _ _ _ _)
            refine v_iload (i := 81) (j := 5) rfl rfl (?_ : ky_V _ _ _ 138 _ _ _ _)
            obtain ⟨z282, e⟩ := ky_chkE e
            refine v_iast (i := 82) rfl (md_1 hmh280) (ky_inb z282) ?_
            refine bk_st (B := md_B G a) hmh280 frh280 1 (Int32.toNatClampNeg (x272 + 3)) (-1) (by decide) (fun h283 hmh283 frh283 => ?_)
            obtain ⟨q284, eq284⟩ : ∃ z, z = (bk_w q281 1 (Int32.toNatClampNeg (x272 + 3)) (-1)) := ⟨_, rfl⟩
            rw [← eq284] at hmh283
            replace e := ky_letE eq284 e
            refine (?_ : ky_V _ _ _ 139 _ _ _ _)
            refine v_iconst (v := 1) (i := 83) rfl (by decide) (?_ : ky_V _ _ _ 140 _ _ _ _)
            refine v_iret (v := 1) (ty := .boolean) (i := 84) rfl rfl (by decide) ?_
            obtain ⟨rfl, rfl⟩ := ky_leaf e
            exact hr _ hmh283 frh283
          · replace e := ky_ifF c271 e
            refine v_iconst (v := 0) (i := 47) rfl (by decide) (?_ : ky_V _ _ _ 88 _ _ _ _)
            refine v_iret (v := 0) (ty := .boolean) (i := 48) rfl rfl (by decide) ?_
            obtain ⟨rfl, rfl⟩ := ky_leaf e
            exact hr _ hmh247 frh247
      · replace e := ky_ifF c245 e
        refine v_iconst (v := (-1)) (i := 27) rfl (by decide) (?_ : ky_V _ _ _ 49 _ _ _ _)
        refine v_goto (tgt := 60) (i := 28) rfl (by decide) (?_ : ky_V _ _ _ 60 _ _ _ _)
        refine v_istore (L' := [(0, .ref a), (1, .int x3), (2, .int (-1)), (3, .int (-1)), (4, .int (-1))]) [1, 2, 3, 4, 0] (i := 34) rfl (Nat.le_of_ble_eq_true rfl) rfl (?_ : ky_V _ _ _ 62 _ _ _ _)
        refine v_iload (i := 35) (j := 4) rfl rfl (?_ : ky_V _ _ _ 64 _ _ _ _)
        refine v_if_ge (tgt := 71) (i := 36) rfl (by decide) (fun c285 => ?_) (fun c285 => ?_)
        · replace e := ky_ifT c285 e
          refine v_aload_n (i := 39) (j := 0) rfl rfl (?_ : ky_V _ _ _ 72 _ _ _ _)
          obtain ⟨s286, hvs286, hss286⟩ := sg_X12_123 hG
          refine v_ldcS (i := 40) hvs286 rfl (?_ : ky_V _ _ _ 74 _ _ _ _)
          refine v_iconst (v := 1) (i := 41) rfl (by decide) (?_ : ky_V _ _ _ 75 _ _ _ _)
          refine v_bipush (v := 30) (i := 42) rfl (by decide) (?_ : ky_V _ _ _ 77 _ _ _ _)
          obtain ⟨⟨q288, x289⟩, g290, e⟩ := Option.bind_eq_some_iff.mp e
          refine cl_X12_115 (As := [.ref s286, .int 1, .int 30]) rfl (i := 43) rfl (md_0 hmh1) rfl rfl (Nat.le_of_ble_eq_true rfl) (k_X12_after N hG hmh1 hss286 g290 (fun h287 hmh287 frh287 => ⟨_, rfl, (?_ : ky_V _ _ _ 80 _ [.int x289] _ _)⟩))
          have frh287 := frh1.tr frh287
          refine v_istore (L' := [(0, .ref a), (1, .int x3), (2, .int (-1)), (3, .int (-1)), (4, .int (-1)), (5, .int x289)]) [1, 2, 3, 4, 5, 0] (i := 44) rfl (Nat.le_of_ble_eq_true rfl) rfl (?_ : ky_V _ _ _ 82 _ _ _ _)
          refine v_iload (i := 45) (j := 5) rfl rfl (?_ : ky_V _ _ _ 84 _ _ _ _)
          refine v_if_ge (tgt := 89) (i := 46) rfl (by decide) (fun c291 => ?_) (fun c291 => ?_)
          · replace e := ky_ifT c291 e
            refine v_bipush (v := 17) (i := 49) rfl (by decide) (?_ : ky_V _ _ _ 91 _ _ _ _)
            refine v_iconst (v := 4) (i := 50) rfl (by decide) (?_ : ky_V _ _ _ 92 _ _ _ _)
            refine v_iload_n (i := 51) (j := 1) rfl rfl (?_ : ky_V _ _ _ 93 _ _ _ _)
            refine v_imul (i := 52) rfl (?_ : ky_V _ _ _ 94 _ _ _ _)
            refine v_iadd (i := 53) rfl (?_ : ky_V _ _ _ 95 _ _ _ _)
            refine v_topi (fun x292 ex292 => ?_)
            replace e := ky_letE ex292 e
            refine v_istore (L' := [(0, .ref a), (1, .int x3), (2, .int (-1)), (3, .int (-1)), (4, .int (-1)), (5, .int x289), (6, .int x292)]) [1, 2, 3, 4, 5, 6, 0] (i := 54) rfl (Nat.le_of_ble_eq_true rfl) rfl (?_ : ky_V _ _ _ 97 _ _ _ _)
            refine v_aload_n (i := 55) (j := 0) rfl rfl (?_ : ky_V _ _ _ 98 _ _ _ _)
            refine gf_X12_13 rfl (i := 56) rfl (md_0 hmh287) rfl (?_ : ky_V _ _ _ 101 _ _ _ _)
            refine v_iload (i := 57) (j := 6) rfl rfl (?_ : ky_V _ _ _ 103 _ _ _ _)
            refine v_iconst (v := 0) (i := 58) rfl (by decide) (?_ : ky_V _ _ _ 104 _ _ _ _)
            refine v_iadd (i := 59) rfl (?_ : ky_V _ _ _ 105 _ _ _ _)
            refine v_iload_n (i := 60) (j := 2) rfl rfl (?_ : ky_V _ _ _ 106 _ _ _ _)
            obtain ⟨z293, e⟩ := ky_chkE e
            refine v_iast (i := 61) rfl (md_1 hmh287) (ky_inb z293) ?_
            refine bk_st (B := md_B G a) hmh287 frh287 1 (Int32.toNatClampNeg (x292 + 0)) (-1) (by decide) (fun h294 hmh294 frh294 => ?_)
            obtain ⟨q295, eq295⟩ : ∃ z, z = (bk_w q288 1 (Int32.toNatClampNeg (x292 + 0)) (-1)) := ⟨_, rfl⟩
            rw [← eq295] at hmh294
            replace e := ky_letE eq295 e
            refine (?_ : ky_V _ _ _ 107 _ _ _ _)
            refine v_aload_n (i := 62) (j := 0) rfl rfl (?_ : ky_V _ _ _ 108 _ _ _ _)
            refine gf_X12_13 rfl (i := 63) rfl (md_0 hmh294) rfl (?_ : ky_V _ _ _ 111 _ _ _ _)
            refine v_iload (i := 64) (j := 6) rfl rfl (?_ : ky_V _ _ _ 113 _ _ _ _)
            refine v_iconst (v := 1) (i := 65) rfl (by decide) (?_ : ky_V _ _ _ 114 _ _ _ _)
            refine v_iadd (i := 66) rfl (?_ : ky_V _ _ _ 115 _ _ _ _)
            refine v_iload_n (i := 67) (j := 3) rfl rfl (?_ : ky_V _ _ _ 116 _ _ _ _)
            obtain ⟨z296, e⟩ := ky_chkE e
            refine v_iast (i := 68) rfl (md_1 hmh294) (ky_inb z296) ?_
            refine bk_st (B := md_B G a) hmh294 frh294 1 (Int32.toNatClampNeg (x292 + 1)) (-1) (by decide) (fun h297 hmh297 frh297 => ?_)
            obtain ⟨q298, eq298⟩ : ∃ z, z = (bk_w q295 1 (Int32.toNatClampNeg (x292 + 1)) (-1)) := ⟨_, rfl⟩
            rw [← eq298] at hmh297
            replace e := ky_letE eq298 e
            refine (?_ : ky_V _ _ _ 117 _ _ _ _)
            refine v_aload_n (i := 69) (j := 0) rfl rfl (?_ : ky_V _ _ _ 118 _ _ _ _)
            refine gf_X12_13 rfl (i := 70) rfl (md_0 hmh297) rfl (?_ : ky_V _ _ _ 121 _ _ _ _)
            refine v_iload (i := 71) (j := 6) rfl rfl (?_ : ky_V _ _ _ 123 _ _ _ _)
            refine v_iconst (v := 2) (i := 72) rfl (by decide) (?_ : ky_V _ _ _ 124 _ _ _ _)
            refine v_iadd (i := 73) rfl (?_ : ky_V _ _ _ 125 _ _ _ _)
            refine v_iload (i := 74) (j := 4) rfl rfl (?_ : ky_V _ _ _ 127 _ _ _ _)
            obtain ⟨z299, e⟩ := ky_chkE e
            refine v_iast (i := 75) rfl (md_1 hmh297) (ky_inb z299) ?_
            refine bk_st (B := md_B G a) hmh297 frh297 1 (Int32.toNatClampNeg (x292 + 2)) (-1) (by decide) (fun h300 hmh300 frh300 => ?_)
            obtain ⟨q301, eq301⟩ : ∃ z, z = (bk_w q298 1 (Int32.toNatClampNeg (x292 + 2)) (-1)) := ⟨_, rfl⟩
            rw [← eq301] at hmh300
            replace e := ky_letE eq301 e
            refine (?_ : ky_V _ _ _ 128 _ _ _ _)
            refine v_aload_n (i := 76) (j := 0) rfl rfl (?_ : ky_V _ _ _ 129 _ _ _ _)
            refine gf_X12_13 rfl (i := 77) rfl (md_0 hmh300) rfl (?_ : ky_V _ _ _ 132 _ _ _ _)
            refine v_iload (i := 78) (j := 6) rfl rfl (?_ : ky_V _ _ _ 134 _ _ _ _)
            refine v_iconst (v := 3) (i := 79) rfl (by decide) (?_ : ky_V _ _ _ 135 _ _ _ _)
            refine v_iadd (i := 80) rfl (?_ : ky_V _ _ _ 136 _ _ _ _)
            refine v_iload (i := 81) (j := 5) rfl rfl (?_ : ky_V _ _ _ 138 _ _ _ _)
            obtain ⟨z302, e⟩ := ky_chkE e
            refine v_iast (i := 82) rfl (md_1 hmh300) (ky_inb z302) ?_
            refine bk_st (B := md_B G a) hmh300 frh300 1 (Int32.toNatClampNeg (x292 + 3)) x289 (by decide) (fun h303 hmh303 frh303 => ?_)
            obtain ⟨q304, eq304⟩ : ∃ z, z = (bk_w q301 1 (Int32.toNatClampNeg (x292 + 3)) x289) := ⟨_, rfl⟩
            rw [← eq304] at hmh303
            replace e := ky_letE eq304 e
            refine (?_ : ky_V _ _ _ 139 _ _ _ _)
            refine v_iconst (v := 1) (i := 83) rfl (by decide) (?_ : ky_V _ _ _ 140 _ _ _ _)
            refine v_iret (v := 1) (ty := .boolean) (i := 84) rfl rfl (by decide) ?_
            obtain ⟨rfl, rfl⟩ := ky_leaf e
            exact hr _ hmh303 frh303
          · replace e := ky_ifF c291 e
            refine v_iconst (v := 0) (i := 47) rfl (by decide) (?_ : ky_V _ _ _ 88 _ _ _ _)
            refine v_iret (v := 0) (ty := .boolean) (i := 48) rfl rfl (by decide) ?_
            obtain ⟨rfl, rfl⟩ := ky_leaf e
            exact hr _ hmh287 frh287
        · replace e := ky_ifF c285 e
          refine v_iconst (v := (-1)) (i := 37) rfl (by decide) (?_ : ky_V _ _ _ 68 _ _ _ _)
          refine v_goto (tgt := 80) (i := 38) rfl (by decide) (?_ : ky_V _ _ _ 80 _ _ _ _)
          refine v_istore (L' := [(0, .ref a), (1, .int x3), (2, .int (-1)), (3, .int (-1)), (4, .int (-1)), (5, .int (-1))]) [1, 2, 3, 4, 5, 0] (i := 44) rfl (Nat.le_of_ble_eq_true rfl) rfl (?_ : ky_V _ _ _ 82 _ _ _ _)
          refine v_iload (i := 45) (j := 5) rfl rfl (?_ : ky_V _ _ _ 84 _ _ _ _)
          refine v_if_ge (tgt := 89) (i := 46) rfl (by decide) (fun c305 => ?_) (fun c305 => ?_)
          · replace e := ky_ifT c305 e
            refine v_bipush (v := 17) (i := 49) rfl (by decide) (?_ : ky_V _ _ _ 91 _ _ _ _)
            refine v_iconst (v := 4) (i := 50) rfl (by decide) (?_ : ky_V _ _ _ 92 _ _ _ _)
            refine v_iload_n (i := 51) (j := 1) rfl rfl (?_ : ky_V _ _ _ 93 _ _ _ _)
            refine v_imul (i := 52) rfl (?_ : ky_V _ _ _ 94 _ _ _ _)
            refine v_iadd (i := 53) rfl (?_ : ky_V _ _ _ 95 _ _ _ _)
            refine v_topi (fun x306 ex306 => ?_)
            replace e := ky_letE ex306 e
            refine v_istore (L' := [(0, .ref a), (1, .int x3), (2, .int (-1)), (3, .int (-1)), (4, .int (-1)), (5, .int (-1)), (6, .int x306)]) [1, 2, 3, 4, 5, 6, 0] (i := 54) rfl (Nat.le_of_ble_eq_true rfl) rfl (?_ : ky_V _ _ _ 97 _ _ _ _)
            refine v_aload_n (i := 55) (j := 0) rfl rfl (?_ : ky_V _ _ _ 98 _ _ _ _)
            refine gf_X12_13 rfl (i := 56) rfl (md_0 hmh1) rfl (?_ : ky_V _ _ _ 101 _ _ _ _)
            refine v_iload (i := 57) (j := 6) rfl rfl (?_ : ky_V _ _ _ 103 _ _ _ _)
            refine v_iconst (v := 0) (i := 58) rfl (by decide) (?_ : ky_V _ _ _ 104 _ _ _ _)
            refine v_iadd (i := 59) rfl (?_ : ky_V _ _ _ 105 _ _ _ _)
            refine v_iload_n (i := 60) (j := 2) rfl rfl (?_ : ky_V _ _ _ 106 _ _ _ _)
            obtain ⟨z307, e⟩ := ky_chkE e
            refine v_iast (i := 61) rfl (md_1 hmh1) (ky_inb z307) ?_
            refine bk_st (B := md_B G a) hmh1 frh1 1 (Int32.toNatClampNeg (x306 + 0)) (-1) (by decide) (fun h308 hmh308 frh308 => ?_)
            obtain ⟨q309, eq309⟩ : ∃ z, z = (bk_w q2 1 (Int32.toNatClampNeg (x306 + 0)) (-1)) := ⟨_, rfl⟩
            rw [← eq309] at hmh308
            replace e := ky_letE eq309 e
            refine (?_ : ky_V _ _ _ 107 _ _ _ _)
            refine v_aload_n (i := 62) (j := 0) rfl rfl (?_ : ky_V _ _ _ 108 _ _ _ _)
            refine gf_X12_13 rfl (i := 63) rfl (md_0 hmh308) rfl (?_ : ky_V _ _ _ 111 _ _ _ _)
            refine v_iload (i := 64) (j := 6) rfl rfl (?_ : ky_V _ _ _ 113 _ _ _ _)
            refine v_iconst (v := 1) (i := 65) rfl (by decide) (?_ : ky_V _ _ _ 114 _ _ _ _)
            refine v_iadd (i := 66) rfl (?_ : ky_V _ _ _ 115 _ _ _ _)
            refine v_iload_n (i := 67) (j := 3) rfl rfl (?_ : ky_V _ _ _ 116 _ _ _ _)
            obtain ⟨z310, e⟩ := ky_chkE e
            refine v_iast (i := 68) rfl (md_1 hmh308) (ky_inb z310) ?_
            refine bk_st (B := md_B G a) hmh308 frh308 1 (Int32.toNatClampNeg (x306 + 1)) (-1) (by decide) (fun h311 hmh311 frh311 => ?_)
            obtain ⟨q312, eq312⟩ : ∃ z, z = (bk_w q309 1 (Int32.toNatClampNeg (x306 + 1)) (-1)) := ⟨_, rfl⟩
            rw [← eq312] at hmh311
            replace e := ky_letE eq312 e
            refine (?_ : ky_V _ _ _ 117 _ _ _ _)
            refine v_aload_n (i := 69) (j := 0) rfl rfl (?_ : ky_V _ _ _ 118 _ _ _ _)
            refine gf_X12_13 rfl (i := 70) rfl (md_0 hmh311) rfl (?_ : ky_V _ _ _ 121 _ _ _ _)
            refine v_iload (i := 71) (j := 6) rfl rfl (?_ : ky_V _ _ _ 123 _ _ _ _)
            refine v_iconst (v := 2) (i := 72) rfl (by decide) (?_ : ky_V _ _ _ 124 _ _ _ _)
            refine v_iadd (i := 73) rfl (?_ : ky_V _ _ _ 125 _ _ _ _)
            refine v_iload (i := 74) (j := 4) rfl rfl (?_ : ky_V _ _ _ 127 _ _ _ _)
            obtain ⟨z313, e⟩ := ky_chkE e
            refine v_iast (i := 75) rfl (md_1 hmh311) (ky_inb z313) ?_
            refine bk_st (B := md_B G a) hmh311 frh311 1 (Int32.toNatClampNeg (x306 + 2)) (-1) (by decide) (fun h314 hmh314 frh314 => ?_)
            obtain ⟨q315, eq315⟩ : ∃ z, z = (bk_w q312 1 (Int32.toNatClampNeg (x306 + 2)) (-1)) := ⟨_, rfl⟩
            rw [← eq315] at hmh314
            replace e := ky_letE eq315 e
            refine (?_ : ky_V _ _ _ 128 _ _ _ _)
            refine v_aload_n (i := 76) (j := 0) rfl rfl (?_ : ky_V _ _ _ 129 _ _ _ _)
            refine gf_X12_13 rfl (i := 77) rfl (md_0 hmh314) rfl (?_ : ky_V _ _ _ 132 _ _ _ _)
            refine v_iload (i := 78) (j := 6) rfl rfl (?_ : ky_V _ _ _ 134 _ _ _ _)
            refine v_iconst (v := 3) (i := 79) rfl (by decide) (?_ : ky_V _ _ _ 135 _ _ _ _)
            refine v_iadd (i := 80) rfl (?_ : ky_V _ _ _ 136 _ _ _ _)
            refine v_iload (i := 81) (j := 5) rfl rfl (?_ : ky_V _ _ _ 138 _ _ _ _)
            obtain ⟨z316, e⟩ := ky_chkE e
            refine v_iast (i := 82) rfl (md_1 hmh314) (ky_inb z316) ?_
            refine bk_st (B := md_B G a) hmh314 frh314 1 (Int32.toNatClampNeg (x306 + 3)) (-1) (by decide) (fun h317 hmh317 frh317 => ?_)
            obtain ⟨q318, eq318⟩ : ∃ z, z = (bk_w q315 1 (Int32.toNatClampNeg (x306 + 3)) (-1)) := ⟨_, rfl⟩
            rw [← eq318] at hmh317
            replace e := ky_letE eq318 e
            refine (?_ : ky_V _ _ _ 139 _ _ _ _)
            refine v_iconst (v := 1) (i := 83) rfl (by decide) (?_ : ky_V _ _ _ 140 _ _ _ _)
            refine v_iret (v := 1) (ty := .boolean) (i := 84) rfl rfl (by decide) ?_
            obtain ⟨rfl, rfl⟩ := ky_leaf e
            exact hr _ hmh317 frh317
          · replace e := ky_ifF c305 e
            refine v_iconst (v := 0) (i := 47) rfl (by decide) (?_ : ky_V _ _ _ 88 _ _ _ _)
            refine v_iret (v := 0) (ty := .boolean) (i := 48) rfl rfl (by decide) ?_
            obtain ⟨rfl, rfl⟩ := ky_leaf e
            exact hr _ hmh1 frh1

def md_readPerson (N : Nat)  (c : (Nat → Nat → Int32))  : Option ((Nat → Nat → Int32) × Int32) := (if (md_people_r c) = (6 : Int32) then (some (c, 0)) else ((md_number N c 1 9).bind (fun zz => (fun q3 x4 => (if 0 ≤ x4 then ((md_letters N q3).bind (fun zz => (fun q8 x9 => ((md_isWord N q8 ([97, 116] : List Int32)).bind (fun zz => (fun q13 x14 => (if x14 = 0 then (if 0 ≤ (-1 : Int32) then (ky_let (237 + (2 * (md_people_r q13))) (fun x18 => (if ky_inB (x18 + 0) 2247 = true then (ky_let (bk_w q13 1 (Int32.toNatClampNeg (x18 + 0)) x4) (fun q21 => (if ky_inB (x18 + 1) 2247 = true then (ky_let (bk_w q21 1 (Int32.toNatClampNeg (x18 + 1)) (-1)) (fun q24 => (ky_let ((q24 1 12) + 1) (fun x25 => (ky_let (bk_w q24 1 12 x25) (fun q27 => (some (q27, 1)))))))) else none))) else none))) else (some (q13, 0))) else ((md_cellTold N q13).bind (fun zz => (fun q29 x30 => (if 0 ≤ x30 then (ky_let (237 + (2 * (md_people_r q29))) (fun x33 => (if ky_inB (x33 + 0) 2247 = true then (ky_let (bk_w q29 1 (Int32.toNatClampNeg (x33 + 0)) x4) (fun q36 => (if ky_inB (x33 + 1) 2247 = true then (ky_let (bk_w q36 1 (Int32.toNatClampNeg (x33 + 1)) x30) (fun q39 => (ky_let ((q39 1 12) + 1) (fun x40 => (ky_let (bk_w q39 1 12 x40) (fun q42 => (some (q42, 1)))))))) else none))) else none))) else (some (q29, 0)))) zz.1 zz.2)))) zz.1 zz.2))) zz.1 zz.2)) else (some (q3, 0)))) zz.1 zz.2)))
set_option maxRecDepth 20000 in
set_option maxHeartbeats 4000000 in
theorem k_X12_readPerson {G : ky_GW} {d : Nat} {h : ky_HP} {Q : ky_RS → ky_HP → Prop} {a : Nat} {c c9 : (Nat → Nat → Int32)} {r9 : Int32}  (N : Nat) (hG : ky_OK G)   (hm : md_at G h a c)  (e : md_readPerson N  c = some (c9, r9)) (hr : ∀ h1, md_at G h1 a c9 → bk_fr a 13 h h1 → Q (.inl (some (.int r9))) h1) : ky_Call G (d + 5) M_X12_readPerson [.ref a] h Q := by
  refine ky_ofV (by decide +kernel) rfl ok_X12_readPerson (Nat.le_of_ble_eq_true rfl) ?_
  have fr : bk_fr a 13 h h := bk_fr.rf
  unfold md_readPerson at e
  refine (?_ : ky_V _ _ _ 0 [(0, .ref a)] [] _ _)
  refine v_aload_n (i := 0) (j := 0) rfl rfl (?_ : ky_V _ _ _ 1 _ _ _ _)
  refine cl_X12_69 (As := []) rfl (i := 1) rfl (md_0 hm) rfl rfl (Nat.le_of_ble_eq_true rfl) (k_X12_people hm ⟨_, rfl, (?_ : ky_V _ _ _ 4 _ [.int ((md_people_r c))] _ _)⟩)
  refine v_bipush (v := 6) (i := 2) rfl (by decide) (?_ : ky_V _ _ _ 6 _ _ _ _)
  refine v_icmp_ne (tgt := 11) (i := 3) rfl (by decide) (fun c1 => ?_) (fun c1 => ?_)
  · replace e := ky_ifF c1 e
    refine v_aload_n (i := 6) (j := 0) rfl rfl (?_ : ky_V _ _ _ 12 _ _ _ _)
    refine v_iconst (v := 1) (i := 7) rfl (by decide) (?_ : ky_V _ _ _ 13 _ _ _ _)
    refine v_bipush (v := 9) (i := 8) rfl (by decide) (?_ : ky_V _ _ _ 15 _ _ _ _)
    obtain ⟨⟨q3, x4⟩, g5, e⟩ := Option.bind_eq_some_iff.mp e
    refine cl_X12_109 (As := [.int 1, .int 9]) rfl (i := 9) rfl (md_0 hm) rfl rfl (Nat.le_of_ble_eq_true rfl) (k_X12_number N hm g5 (fun h2 hmh2 frh2 => ⟨_, rfl, (?_ : ky_V _ _ _ 18 _ [.int x4] _ _)⟩))
    have frh2 := fr.tr frh2
    refine v_istore_n (L' := [(0, .ref a), (1, .int x4)]) [1, 0] (i := 10) rfl (Nat.le_of_ble_eq_true rfl) rfl (?_ : ky_V _ _ _ 19 _ _ _ _)
    refine v_iload_n (i := 11) (j := 1) rfl rfl (?_ : ky_V _ _ _ 20 _ _ _ _)
    refine v_if_ge (tgt := 25) (i := 12) rfl (by decide) (fun c6 => ?_) (fun c6 => ?_)
    · replace e := ky_ifT c6 e
      refine v_aload_n (i := 15) (j := 0) rfl rfl (?_ : ky_V _ _ _ 26 _ _ _ _)
      obtain ⟨⟨q8, x9⟩, g10, e⟩ := Option.bind_eq_some_iff.mp e
      refine cl_X12_102 (As := []) rfl (i := 16) rfl (md_0 hmh2) rfl rfl (Nat.le_of_ble_eq_true rfl) (k_X12_letters N hmh2 g10 (fun h7 hmh7 frh7 => ⟨_, rfl, (?_ : ky_V _ _ _ 29 _ [] _ _)⟩))
      have frh7 := frh2.tr frh7
      refine v_aload_n (i := 17) (j := 0) rfl rfl (?_ : ky_V _ _ _ 30 _ _ _ _)
      obtain ⟨s11, hvs11, hss11⟩ := sg_X12_131 hG
      refine v_ldcS (i := 18) hvs11 rfl (?_ : ky_V _ _ _ 32 _ _ _ _)
      obtain ⟨⟨q13, x14⟩, g15, e⟩ := Option.bind_eq_some_iff.mp e
      refine cl_X12_105 (As := [.ref s11]) rfl (i := 19) rfl (md_0 hmh7) rfl rfl (Nat.le_of_ble_eq_true rfl) (k_X12_isWord N hG hmh7 hss11 g15 (fun h12 hmh12 frh12 => ⟨_, rfl, (?_ : ky_V _ _ _ 35 _ [.int x14] _ _)⟩))
      have frh12 := frh7.tr frh12
      refine v_if_eq (tgt := 45) (i := 20) rfl (by decide) (fun c16 => ?_) (fun c16 => ?_)
      · replace e := ky_ifT c16 e
        refine v_iconst (v := (-1)) (i := 24) rfl (by decide) (?_ : ky_V _ _ _ 46 _ _ _ _)
        refine v_istore_n (L' := [(0, .ref a), (1, .int x4), (2, .int (-1))]) [1, 2, 0] (i := 25) rfl (Nat.le_of_ble_eq_true rfl) rfl (?_ : ky_V _ _ _ 47 _ _ _ _)
        refine v_iload_n (i := 26) (j := 2) rfl rfl (?_ : ky_V _ _ _ 48 _ _ _ _)
        refine v_if_ge (tgt := 53) (i := 27) rfl (by decide) (fun c17 => ?_) (fun c17 => ?_)
        · replace e := ky_ifT c17 e
          refine v_sipush (v := 237) (i := 30) rfl (by decide) (?_ : ky_V _ _ _ 56 _ _ _ _)
          refine v_iconst (v := 2) (i := 31) rfl (by decide) (?_ : ky_V _ _ _ 57 _ _ _ _)
          refine v_aload_n (i := 32) (j := 0) rfl rfl (?_ : ky_V _ _ _ 58 _ _ _ _)
          refine cl_X12_69 (As := []) rfl (i := 33) rfl (md_0 hmh12) rfl rfl (Nat.le_of_ble_eq_true rfl) (k_X12_people hmh12 ⟨_, rfl, (?_ : ky_V _ _ _ 61 _ [.int ((md_people_r q13)), .int 2, .int 237] _ _)⟩)
          refine v_imul (i := 34) rfl (?_ : ky_V _ _ _ 62 _ _ _ _)
          refine v_iadd (i := 35) rfl (?_ : ky_V _ _ _ 63 _ _ _ _)
          refine v_topi (fun x18 ex18 => ?_)
          replace e := ky_letE ex18 e
          refine v_istore_n (L' := [(0, .ref a), (1, .int x4), (2, .int (-1)), (3, .int x18)]) [1, 2, 3, 0] (i := 36) rfl (Nat.le_of_ble_eq_true rfl) rfl (?_ : ky_V _ _ _ 64 _ _ _ _)
          refine v_aload_n (i := 37) (j := 0) rfl rfl (?_ : ky_V _ _ _ 65 _ _ _ _)
          refine gf_X12_13 rfl (i := 38) rfl (md_0 hmh12) rfl (?_ : ky_V _ _ _ 68 _ _ _ _)
          refine v_iload_n (i := 39) (j := 3) rfl rfl (?_ : ky_V _ _ _ 69 _ _ _ _)
          refine v_iconst (v := 0) (i := 40) rfl (by decide) (?_ : ky_V _ _ _ 70 _ _ _ _)
          refine v_iadd (i := 41) rfl (?_ : ky_V _ _ _ 71 _ _ _ _)
          refine v_iload_n (i := 42) (j := 1) rfl rfl (?_ : ky_V _ _ _ 72 _ _ _ _)
          obtain ⟨z19, e⟩ := ky_chkE e
          refine v_iast (i := 43) rfl (md_1 hmh12) (ky_inb z19) ?_
          refine bk_st (B := md_B G a) hmh12 frh12 1 (Int32.toNatClampNeg (x18 + 0)) x4 (by decide) (fun h20 hmh20 frh20 => ?_)
          obtain ⟨q21, eq21⟩ : ∃ z, z = (bk_w q13 1 (Int32.toNatClampNeg (x18 + 0)) x4) := ⟨_, rfl⟩
          rw [← eq21] at hmh20
          replace e := ky_letE eq21 e
          refine (?_ : ky_V _ _ _ 73 _ _ _ _)
          refine v_aload_n (i := 44) (j := 0) rfl rfl (?_ : ky_V _ _ _ 74 _ _ _ _)
          refine gf_X12_13 rfl (i := 45) rfl (md_0 hmh20) rfl (?_ : ky_V _ _ _ 77 _ _ _ _)
          refine v_iload_n (i := 46) (j := 3) rfl rfl (?_ : ky_V _ _ _ 78 _ _ _ _)
          refine v_iconst (v := 1) (i := 47) rfl (by decide) (?_ : ky_V _ _ _ 79 _ _ _ _)
          refine v_iadd (i := 48) rfl (?_ : ky_V _ _ _ 80 _ _ _ _)
          refine v_iload_n (i := 49) (j := 2) rfl rfl (?_ : ky_V _ _ _ 81 _ _ _ _)
          obtain ⟨z22, e⟩ := ky_chkE e
          refine v_iast (i := 50) rfl (md_1 hmh20) (ky_inb z22) ?_
          refine bk_st (B := md_B G a) hmh20 frh20 1 (Int32.toNatClampNeg (x18 + 1)) (-1) (by decide) (fun h23 hmh23 frh23 => ?_)
          obtain ⟨q24, eq24⟩ : ∃ z, z = (bk_w q21 1 (Int32.toNatClampNeg (x18 + 1)) (-1)) := ⟨_, rfl⟩
          rw [← eq24] at hmh23
          replace e := ky_letE eq24 e
          refine (?_ : ky_V _ _ _ 82 _ _ _ _)
          refine v_aload_n (i := 51) (j := 0) rfl rfl (?_ : ky_V _ _ _ 83 _ _ _ _)
          refine gf_X12_13 rfl (i := 52) rfl (md_0 hmh23) rfl (?_ : ky_V _ _ _ 86 _ _ _ _)
          refine v_bipush (v := 12) (i := 53) rfl (by decide) (?_ : ky_V _ _ _ 88 _ _ _ _)
          refine v_dup2 (i := 54) rfl rfl rfl (?_ : ky_V _ _ _ 89 _ _ _ _)
          refine v_iald (i := 55) rfl (md_1 hmh23) (ky_inl (by decide)) (?_ : ky_V _ _ _ 90 _ (.int (q24 1 12) :: _) _ _)
          refine v_iconst (v := 1) (i := 56) rfl (by decide) (?_ : ky_V _ _ _ 91 _ _ _ _)
          refine v_iadd (i := 57) rfl (?_ : ky_V _ _ _ 92 _ _ _ _)
          refine v_topi (fun x25 ex25 => ?_)
          replace e := ky_letE ex25 e
          refine v_iast (i := 58) rfl (md_1 hmh23) (ky_inl (by decide)) ?_
          refine bk_st (B := md_B G a) hmh23 frh23 1 12 x25 (by decide) (fun h26 hmh26 frh26 => ?_)
          obtain ⟨q27, eq27⟩ : ∃ z, z = (bk_w q24 1 12 x25) := ⟨_, rfl⟩
          rw [← eq27] at hmh26
          replace e := ky_letE eq27 e
          refine (?_ : ky_V _ _ _ 93 _ _ _ _)
          refine v_iconst (v := 1) (i := 59) rfl (by decide) (?_ : ky_V _ _ _ 94 _ _ _ _)
          refine v_iret (v := 1) (ty := .boolean) (i := 60) rfl rfl (by decide) ?_
          obtain ⟨rfl, rfl⟩ := ky_leaf e
          exact hr _ hmh26 frh26
        · replace e := ky_ifF c17 e
          refine v_iconst (v := 0) (i := 28) rfl (by decide) (?_ : ky_V _ _ _ 52 _ _ _ _)
          refine v_iret (v := 0) (ty := .boolean) (i := 29) rfl rfl (by decide) ?_
          obtain ⟨rfl, rfl⟩ := ky_leaf e
          exact hr _ hmh12 frh12
      · replace e := ky_ifF c16 e
        refine v_aload_n (i := 21) (j := 0) rfl rfl (?_ : ky_V _ _ _ 39 _ _ _ _)
        obtain ⟨⟨q29, x30⟩, g31, e⟩ := Option.bind_eq_some_iff.mp e
        refine cl_X12_125 (As := []) rfl (i := 22) rfl (md_0 hmh12) rfl rfl (Nat.le_of_ble_eq_true rfl) (k_X12_cellTold N hmh12 g31 (fun h28 hmh28 frh28 => ⟨_, rfl, (?_ : ky_V _ _ _ 42 _ [.int x30] _ _)⟩))
        have frh28 := frh12.tr frh28
        refine v_goto (tgt := 46) (i := 23) rfl (by decide) (?_ : ky_V _ _ _ 46 _ _ _ _)
        refine v_istore_n (L' := [(0, .ref a), (1, .int x4), (2, .int x30)]) [1, 2, 0] (i := 25) rfl (Nat.le_of_ble_eq_true rfl) rfl (?_ : ky_V _ _ _ 47 _ _ _ _)
        refine v_iload_n (i := 26) (j := 2) rfl rfl (?_ : ky_V _ _ _ 48 _ _ _ _)
        refine v_if_ge (tgt := 53) (i := 27) rfl (by decide) (fun c32 => ?_) (fun c32 => ?_)
        · replace e := ky_ifT c32 e
          refine v_sipush (v := 237) (i := 30) rfl (by decide) (?_ : ky_V _ _ _ 56 _ _ _ _)
          refine v_iconst (v := 2) (i := 31) rfl (by decide) (?_ : ky_V _ _ _ 57 _ _ _ _)
          refine v_aload_n (i := 32) (j := 0) rfl rfl (?_ : ky_V _ _ _ 58 _ _ _ _)
          refine cl_X12_69 (As := []) rfl (i := 33) rfl (md_0 hmh28) rfl rfl (Nat.le_of_ble_eq_true rfl) (k_X12_people hmh28 ⟨_, rfl, (?_ : ky_V _ _ _ 61 _ [.int ((md_people_r q29)), .int 2, .int 237] _ _)⟩)
          refine v_imul (i := 34) rfl (?_ : ky_V _ _ _ 62 _ _ _ _)
          refine v_iadd (i := 35) rfl (?_ : ky_V _ _ _ 63 _ _ _ _)
          refine v_topi (fun x33 ex33 => ?_)
          replace e := ky_letE ex33 e
          refine v_istore_n (L' := [(0, .ref a), (1, .int x4), (2, .int x30), (3, .int x33)]) [1, 2, 3, 0] (i := 36) rfl (Nat.le_of_ble_eq_true rfl) rfl (?_ : ky_V _ _ _ 64 _ _ _ _)
          refine v_aload_n (i := 37) (j := 0) rfl rfl (?_ : ky_V _ _ _ 65 _ _ _ _)
          refine gf_X12_13 rfl (i := 38) rfl (md_0 hmh28) rfl (?_ : ky_V _ _ _ 68 _ _ _ _)
          refine v_iload_n (i := 39) (j := 3) rfl rfl (?_ : ky_V _ _ _ 69 _ _ _ _)
          refine v_iconst (v := 0) (i := 40) rfl (by decide) (?_ : ky_V _ _ _ 70 _ _ _ _)
          refine v_iadd (i := 41) rfl (?_ : ky_V _ _ _ 71 _ _ _ _)
          refine v_iload_n (i := 42) (j := 1) rfl rfl (?_ : ky_V _ _ _ 72 _ _ _ _)
          obtain ⟨z34, e⟩ := ky_chkE e
          refine v_iast (i := 43) rfl (md_1 hmh28) (ky_inb z34) ?_
          refine bk_st (B := md_B G a) hmh28 frh28 1 (Int32.toNatClampNeg (x33 + 0)) x4 (by decide) (fun h35 hmh35 frh35 => ?_)
          obtain ⟨q36, eq36⟩ : ∃ z, z = (bk_w q29 1 (Int32.toNatClampNeg (x33 + 0)) x4) := ⟨_, rfl⟩
          rw [← eq36] at hmh35
          replace e := ky_letE eq36 e
          refine (?_ : ky_V _ _ _ 73 _ _ _ _)
          refine v_aload_n (i := 44) (j := 0) rfl rfl (?_ : ky_V _ _ _ 74 _ _ _ _)
          refine gf_X12_13 rfl (i := 45) rfl (md_0 hmh35) rfl (?_ : ky_V _ _ _ 77 _ _ _ _)
          refine v_iload_n (i := 46) (j := 3) rfl rfl (?_ : ky_V _ _ _ 78 _ _ _ _)
          refine v_iconst (v := 1) (i := 47) rfl (by decide) (?_ : ky_V _ _ _ 79 _ _ _ _)
          refine v_iadd (i := 48) rfl (?_ : ky_V _ _ _ 80 _ _ _ _)
          refine v_iload_n (i := 49) (j := 2) rfl rfl (?_ : ky_V _ _ _ 81 _ _ _ _)
          obtain ⟨z37, e⟩ := ky_chkE e
          refine v_iast (i := 50) rfl (md_1 hmh35) (ky_inb z37) ?_
          refine bk_st (B := md_B G a) hmh35 frh35 1 (Int32.toNatClampNeg (x33 + 1)) x30 (by decide) (fun h38 hmh38 frh38 => ?_)
          obtain ⟨q39, eq39⟩ : ∃ z, z = (bk_w q36 1 (Int32.toNatClampNeg (x33 + 1)) x30) := ⟨_, rfl⟩
          rw [← eq39] at hmh38
          replace e := ky_letE eq39 e
          refine (?_ : ky_V _ _ _ 82 _ _ _ _)
          refine v_aload_n (i := 51) (j := 0) rfl rfl (?_ : ky_V _ _ _ 83 _ _ _ _)
          refine gf_X12_13 rfl (i := 52) rfl (md_0 hmh38) rfl (?_ : ky_V _ _ _ 86 _ _ _ _)
          refine v_bipush (v := 12) (i := 53) rfl (by decide) (?_ : ky_V _ _ _ 88 _ _ _ _)
          refine v_dup2 (i := 54) rfl rfl rfl (?_ : ky_V _ _ _ 89 _ _ _ _)
          refine v_iald (i := 55) rfl (md_1 hmh38) (ky_inl (by decide)) (?_ : ky_V _ _ _ 90 _ (.int (q39 1 12) :: _) _ _)
          refine v_iconst (v := 1) (i := 56) rfl (by decide) (?_ : ky_V _ _ _ 91 _ _ _ _)
          refine v_iadd (i := 57) rfl (?_ : ky_V _ _ _ 92 _ _ _ _)
          refine v_topi (fun x40 ex40 => ?_)
          replace e := ky_letE ex40 e
          refine v_iast (i := 58) rfl (md_1 hmh38) (ky_inl (by decide)) ?_
          refine bk_st (B := md_B G a) hmh38 frh38 1 12 x40 (by decide) (fun h41 hmh41 frh41 => ?_)
          obtain ⟨q42, eq42⟩ : ∃ z, z = (bk_w q39 1 12 x40) := ⟨_, rfl⟩
          rw [← eq42] at hmh41
          replace e := ky_letE eq42 e
          refine (?_ : ky_V _ _ _ 93 _ _ _ _)
          refine v_iconst (v := 1) (i := 59) rfl (by decide) (?_ : ky_V _ _ _ 94 _ _ _ _)
          refine v_iret (v := 1) (ty := .boolean) (i := 60) rfl rfl (by decide) ?_
          obtain ⟨rfl, rfl⟩ := ky_leaf e
          exact hr _ hmh41 frh41
        · replace e := ky_ifF c32 e
          refine v_iconst (v := 0) (i := 28) rfl (by decide) (?_ : ky_V _ _ _ 52 _ _ _ _)
          refine v_iret (v := 0) (ty := .boolean) (i := 29) rfl rfl (by decide) ?_
          obtain ⟨rfl, rfl⟩ := ky_leaf e
          exact hr _ hmh28 frh28
    · replace e := ky_ifF c6 e
      refine v_iconst (v := 0) (i := 13) rfl (by decide) (?_ : ky_V _ _ _ 24 _ _ _ _)
      refine v_iret (v := 0) (ty := .boolean) (i := 14) rfl rfl (by decide) ?_
      obtain ⟨rfl, rfl⟩ := ky_leaf e
      exact hr _ hmh2 frh2
  · replace e := ky_ifT c1 e
    refine v_iconst (v := 0) (i := 4) rfl (by decide) (?_ : ky_V _ _ _ 10 _ _ _ _)
    refine v_iret (v := 0) (ty := .boolean) (i := 5) rfl rfl (by decide) ?_
    obtain ⟨rfl, rfl⟩ := ky_leaf e
    exact hr _ hm fr

def md_readBeachLine (N : Nat)  (c : (Nat → Nat → Int32))  : Option ((Nat → Nat → Int32) × Int32) := ((md_isWord N c ([108, 101, 103, 115] : List Int32)).bind (fun zz => (fun q3 x4 => (if x4 = 0 then ((md_isWord N q3 ([116, 104, 105, 110] : List Int32)).bind (fun zz => (fun q9 x10 => (if x10 = 0 then ((md_isWord N q9 ([99, 97, 108, 109] : List Int32)).bind (fun zz => (fun q15 x16 => (if x16 = 0 then ((md_isWord N q15 ([119, 97, 116, 101, 114] : List Int32)).bind (fun zz => (fun q21 x22 => (if x22 = 0 then ((md_isWord N q21 ([116, 105, 100, 101] : List Int32)).bind (fun zz => (fun q27 x28 => (if x28 = 0 then ((md_isWord N q27 ([109, 111, 118, 101] : List Int32)).bind (fun zz => (fun q33 x34 => (if x34 = 0 then ((md_isWord N q33 ([115, 108, 105, 112] : List Int32)).bind (fun zz => (fun q39 x40 => (if x40 = 0 then ((md_isWord N q39 ([98, 101, 97, 114, 115] : List Int32)).bind (fun zz => (fun q45 x46 => (if x46 = 0 then ((md_isWord N q45 ([104, 101, 97, 112] : List Int32)).bind (fun zz => (fun q51 x52 => (if x52 = 0 then ((md_isWord N q51 ([115, 104, 105, 110, 101] : List Int32)).bind (fun zz => (fun q57 x58 => (if x58 = 0 then ((md_isWord N q57 ([104, 111, 108, 101] : List Int32)).bind (fun zz => (fun q63 x64 => (if x64 = 0 then ((md_isWord N q63 ([112, 101, 114, 115, 111, 110] : List Int32)).bind (fun zz => (fun q69 x70 => (if x70 = 0 then ((md_isWord N q69 ([98, 111, 97, 114, 100, 115] : List Int32)).bind (fun zz => (fun q75 x76 => (if x76 = 0 then (some (q75, 0)) else ((md_readNumber N q75 11 9).bind (fun zz => (fun q80 x81 => (if x81 = 0 then (some (q80, 0)) else (some (q80, 1)))) zz.1 zz.2)))) zz.1 zz.2)) else ((md_readPerson N q69).bind (fun zz => (fun q85 x86 => (if (x86 = 0 ∨ x86 = 1) then (some (q85, x86)) else none)) zz.1 zz.2)))) zz.1 zz.2)) else ((md_readHole N q63).bind (fun zz => (fun q90 x91 => (if (x91 = 0 ∨ x91 = 1) then (some (q90, x91)) else none)) zz.1 zz.2)))) zz.1 zz.2)) else ((md_readSign N q57 2).bind (fun zz => (fun q95 x96 => (if (x96 = 0 ∨ x96 = 1) then (some (q95, x96)) else none)) zz.1 zz.2)))) zz.1 zz.2)) else ((md_readSign N q51 1).bind (fun zz => (fun q100 x101 => (if (x101 = 0 ∨ x101 = 1) then (some (q100, x101)) else none)) zz.1 zz.2)))) zz.1 zz.2)) else ((md_readBears N q45).bind (fun zz => (fun q105 x106 => (if (x106 = 0 ∨ x106 = 1) then (some (q105, x106)) else none)) zz.1 zz.2)))) zz.1 zz.2)) else ((md_readNumber N q39 9 100).bind (fun zz => (fun q110 x111 => (if (x111 = 0 ∨ x111 = 1) then (some (q110, x111)) else none)) zz.1 zz.2)))) zz.1 zz.2)) else ((md_readMove N q33).bind (fun zz => (fun q115 x116 => (if (x116 = 0 ∨ x116 = 1) then (some (q115, x116)) else none)) zz.1 zz.2)))) zz.1 zz.2)) else ((md_readNumber N q27 8 999).bind (fun zz => (fun q120 x121 => (if (x121 = 0 ∨ x121 = 1) then (some (q120, x121)) else none)) zz.1 zz.2)))) zz.1 zz.2)) else ((md_readNumber N q21 5 9).bind (fun zz => (fun q125 x126 => (if (x126 = 0 ∨ x126 = 1) then (some (q125, x126)) else none)) zz.1 zz.2)))) zz.1 zz.2)) else ((md_readNumber N q15 4 9).bind (fun zz => (fun q130 x131 => (if (x131 = 0 ∨ x131 = 1) then (some (q130, x131)) else none)) zz.1 zz.2)))) zz.1 zz.2)) else ((md_readNumber N q9 2 5).bind (fun zz => (fun q135 x136 => (if (x136 = 0 ∨ x136 = 1) then (some (q135, x136)) else none)) zz.1 zz.2)))) zz.1 zz.2)) else ((md_readNumber N q3 0 9).bind (fun zz => (fun q140 x141 => (if x141 = 0 then (some (q140, 0)) else ((md_readNumber N q140 1 9).bind (fun zz => (fun q145 x146 => (if x146 = 0 then (some (q145, 0)) else (some (q145, 1)))) zz.1 zz.2)))) zz.1 zz.2)))) zz.1 zz.2))
set_option maxRecDepth 20000 in
set_option maxHeartbeats 4000000 in
theorem k_X12_readBeachLine {G : ky_GW} {d : Nat} {h : ky_HP} {Q : ky_RS → ky_HP → Prop} {a : Nat} {c c9 : (Nat → Nat → Int32)} {r9 : Int32}  (N : Nat) (hG : ky_OK G)   (hm : md_at G h a c)  (e : md_readBeachLine N  c = some (c9, r9)) (hr : ∀ h1, md_at G h1 a c9 → bk_fr a 13 h h1 → Q (.inl (some (.int r9))) h1) : ky_Call G (d + 7) M_X12_readBeachLine [.ref a] h Q := by
  refine ky_ofV (by decide +kernel) rfl ok_X12_readBeachLine (Nat.le_of_ble_eq_true rfl) ?_
  have fr : bk_fr a 13 h h := bk_fr.rf
  unfold md_readBeachLine at e
  refine (?_ : ky_V _ _ _ 0 [(0, .ref a)] [] _ _)
  refine v_aload_n (i := 0) (j := 0) rfl rfl (?_ : ky_V _ _ _ 1 _ _ _ _)
  obtain ⟨s1, hvs1, hss1⟩ := sg_X12_133 hG
  refine v_ldcS (i := 1) hvs1 rfl (?_ : ky_V _ _ _ 3 _ _ _ _)
  obtain ⟨⟨q3, x4⟩, g5, e⟩ := Option.bind_eq_some_iff.mp e
  refine cl_X12_105 (As := [.ref s1]) rfl (i := 2) rfl (md_0 hm) rfl rfl (Nat.le_of_ble_eq_true rfl) (k_X12_isWord N hG hm hss1 g5 (fun h2 hmh2 frh2 => ⟨_, rfl, (?_ : ky_V _ _ _ 6 _ [.int x4] _ _)⟩))
  have frh2 := fr.tr frh2
  refine v_if_eq (tgt := 35) (i := 3) rfl (by decide) (fun c6 => ?_) (fun c6 => ?_)
  · replace e := ky_ifT c6 e
    refine v_aload_n (i := 18) (j := 0) rfl rfl (?_ : ky_V _ _ _ 36 _ _ _ _)
    obtain ⟨s7, hvs7, hss7⟩ := sg_X12_135 hG
    refine v_ldcS (i := 19) hvs7 rfl (?_ : ky_V _ _ _ 38 _ _ _ _)
    obtain ⟨⟨q9, x10⟩, g11, e⟩ := Option.bind_eq_some_iff.mp e
    refine cl_X12_105 (As := [.ref s7]) rfl (i := 20) rfl (md_0 hmh2) rfl rfl (Nat.le_of_ble_eq_true rfl) (k_X12_isWord N hG hmh2 hss7 g11 (fun h8 hmh8 frh8 => ⟨_, rfl, (?_ : ky_V _ _ _ 41 _ [.int x10] _ _)⟩))
    have frh8 := frh2.tr frh8
    refine v_if_eq (tgt := 51) (i := 21) rfl (by decide) (fun c12 => ?_) (fun c12 => ?_)
    · replace e := ky_ifT c12 e
      refine v_aload_n (i := 27) (j := 0) rfl rfl (?_ : ky_V _ _ _ 52 _ _ _ _)
      obtain ⟨s13, hvs13, hss13⟩ := sg_X12_137 hG
      refine v_ldcS (i := 28) hvs13 rfl (?_ : ky_V _ _ _ 54 _ _ _ _)
      obtain ⟨⟨q15, x16⟩, g17, e⟩ := Option.bind_eq_some_iff.mp e
      refine cl_X12_105 (As := [.ref s13]) rfl (i := 29) rfl (md_0 hmh8) rfl rfl (Nat.le_of_ble_eq_true rfl) (k_X12_isWord N hG hmh8 hss13 g17 (fun h14 hmh14 frh14 => ⟨_, rfl, (?_ : ky_V _ _ _ 57 _ [.int x16] _ _)⟩))
      have frh14 := frh8.tr frh14
      refine v_if_eq (tgt := 68) (i := 30) rfl (by decide) (fun c18 => ?_) (fun c18 => ?_)
      · replace e := ky_ifT c18 e
        refine v_aload_n (i := 36) (j := 0) rfl rfl (?_ : ky_V _ _ _ 69 _ _ _ _)
        obtain ⟨s19, hvs19, hss19⟩ := sg_X12_139 hG
        refine v_ldcS (i := 37) hvs19 rfl (?_ : ky_V _ _ _ 71 _ _ _ _)
        obtain ⟨⟨q21, x22⟩, g23, e⟩ := Option.bind_eq_some_iff.mp e
        refine cl_X12_105 (As := [.ref s19]) rfl (i := 38) rfl (md_0 hmh14) rfl rfl (Nat.le_of_ble_eq_true rfl) (k_X12_isWord N hG hmh14 hss19 g23 (fun h20 hmh20 frh20 => ⟨_, rfl, (?_ : ky_V _ _ _ 74 _ [.int x22] _ _)⟩))
        have frh20 := frh14.tr frh20
        refine v_if_eq (tgt := 85) (i := 39) rfl (by decide) (fun c24 => ?_) (fun c24 => ?_)
        · replace e := ky_ifT c24 e
          refine v_aload_n (i := 45) (j := 0) rfl rfl (?_ : ky_V _ _ _ 86 _ _ _ _)
          obtain ⟨s25, hvs25, hss25⟩ := sg_X12_141 hG
          refine v_ldcS (i := 46) hvs25 rfl (?_ : ky_V _ _ _ 88 _ _ _ _)
          obtain ⟨⟨q27, x28⟩, g29, e⟩ := Option.bind_eq_some_iff.mp e
          refine cl_X12_105 (As := [.ref s25]) rfl (i := 47) rfl (md_0 hmh20) rfl rfl (Nat.le_of_ble_eq_true rfl) (k_X12_isWord N hG hmh20 hss25 g29 (fun h26 hmh26 frh26 => ⟨_, rfl, (?_ : ky_V _ _ _ 91 _ [.int x28] _ _)⟩))
          have frh26 := frh20.tr frh26
          refine v_if_eq (tgt := 104) (i := 48) rfl (by decide) (fun c30 => ?_) (fun c30 => ?_)
          · replace e := ky_ifT c30 e
            refine v_aload_n (i := 54) (j := 0) rfl rfl (?_ : ky_V _ _ _ 105 _ _ _ _)
            obtain ⟨s31, hvs31, hss31⟩ := sg_X12_143 hG
            refine v_ldcS (i := 55) hvs31 rfl (?_ : ky_V _ _ _ 107 _ _ _ _)
            obtain ⟨⟨q33, x34⟩, g35, e⟩ := Option.bind_eq_some_iff.mp e
            refine cl_X12_105 (As := [.ref s31]) rfl (i := 56) rfl (md_0 hmh26) rfl rfl (Nat.le_of_ble_eq_true rfl) (k_X12_isWord N hG hmh26 hss31 g35 (fun h32 hmh32 frh32 => ⟨_, rfl, (?_ : ky_V _ _ _ 110 _ [.int x34] _ _)⟩))
            have frh32 := frh26.tr frh32
            refine v_if_eq (tgt := 118) (i := 57) rfl (by decide) (fun c36 => ?_) (fun c36 => ?_)
            · replace e := ky_ifT c36 e
              refine v_aload_n (i := 61) (j := 0) rfl rfl (?_ : ky_V _ _ _ 119 _ _ _ _)
              obtain ⟨s37, hvs37, hss37⟩ := sg_X12_148 hG
              refine v_ldcS (i := 62) hvs37 rfl (?_ : ky_V _ _ _ 121 _ _ _ _)
              obtain ⟨⟨q39, x40⟩, g41, e⟩ := Option.bind_eq_some_iff.mp e
              refine cl_X12_105 (As := [.ref s37]) rfl (i := 63) rfl (md_0 hmh32) rfl rfl (Nat.le_of_ble_eq_true rfl) (k_X12_isWord N hG hmh32 hss37 g41 (fun h38 hmh38 frh38 => ⟨_, rfl, (?_ : ky_V _ _ _ 124 _ [.int x40] _ _)⟩))
              have frh38 := frh32.tr frh38
              refine v_if_eq (tgt := 136) (i := 64) rfl (by decide) (fun c42 => ?_) (fun c42 => ?_)
              · replace e := ky_ifT c42 e
                refine v_aload_n (i := 70) (j := 0) rfl rfl (?_ : ky_V _ _ _ 137 _ _ _ _)
                obtain ⟨s43, hvs43, hss43⟩ := sg_X12_150 hG
                refine v_ldcS (i := 71) hvs43 rfl (?_ : ky_V _ _ _ 139 _ _ _ _)
                obtain ⟨⟨q45, x46⟩, g47, e⟩ := Option.bind_eq_some_iff.mp e
                refine cl_X12_105 (As := [.ref s43]) rfl (i := 72) rfl (md_0 hmh38) rfl rfl (Nat.le_of_ble_eq_true rfl) (k_X12_isWord N hG hmh38 hss43 g47 (fun h44 hmh44 frh44 => ⟨_, rfl, (?_ : ky_V _ _ _ 142 _ [.int x46] _ _)⟩))
                have frh44 := frh38.tr frh44
                refine v_if_eq (tgt := 150) (i := 73) rfl (by decide) (fun c48 => ?_) (fun c48 => ?_)
                · replace e := ky_ifT c48 e
                  refine v_aload_n (i := 77) (j := 0) rfl rfl (?_ : ky_V _ _ _ 151 _ _ _ _)
                  obtain ⟨s49, hvs49, hss49⟩ := sg_X12_155 hG
                  refine v_ldcS (i := 78) hvs49 rfl (?_ : ky_V _ _ _ 153 _ _ _ _)
                  obtain ⟨⟨q51, x52⟩, g53, e⟩ := Option.bind_eq_some_iff.mp e
                  refine cl_X12_105 (As := [.ref s49]) rfl (i := 79) rfl (md_0 hmh44) rfl rfl (Nat.le_of_ble_eq_true rfl) (k_X12_isWord N hG hmh44 hss49 g53 (fun h50 hmh50 frh50 => ⟨_, rfl, (?_ : ky_V _ _ _ 156 _ [.int x52] _ _)⟩))
                  have frh50 := frh44.tr frh50
                  refine v_if_eq (tgt := 165) (i := 80) rfl (by decide) (fun c54 => ?_) (fun c54 => ?_)
                  · replace e := ky_ifT c54 e
                    refine v_aload_n (i := 85) (j := 0) rfl rfl (?_ : ky_V _ _ _ 166 _ _ _ _)
                    obtain ⟨s55, hvs55, hss55⟩ := sg_X12_161 hG
                    refine v_ldcS (i := 86) hvs55 rfl (?_ : ky_V _ _ _ 168 _ _ _ _)
                    obtain ⟨⟨q57, x58⟩, g59, e⟩ := Option.bind_eq_some_iff.mp e
                    refine cl_X12_105 (As := [.ref s55]) rfl (i := 87) rfl (md_0 hmh50) rfl rfl (Nat.le_of_ble_eq_true rfl) (k_X12_isWord N hG hmh50 hss55 g59 (fun h56 hmh56 frh56 => ⟨_, rfl, (?_ : ky_V _ _ _ 171 _ [.int x58] _ _)⟩))
                    have frh56 := frh50.tr frh56
                    refine v_if_eq (tgt := 180) (i := 88) rfl (by decide) (fun c60 => ?_) (fun c60 => ?_)
                    · replace e := ky_ifT c60 e
                      refine v_aload_n (i := 93) (j := 0) rfl rfl (?_ : ky_V _ _ _ 181 _ _ _ _)
                      obtain ⟨s61, hvs61, hss61⟩ := sg_X12_163 hG
                      refine v_ldcS (i := 94) hvs61 rfl (?_ : ky_V _ _ _ 183 _ _ _ _)
                      obtain ⟨⟨q63, x64⟩, g65, e⟩ := Option.bind_eq_some_iff.mp e
                      refine cl_X12_105 (As := [.ref s61]) rfl (i := 95) rfl (md_0 hmh56) rfl rfl (Nat.le_of_ble_eq_true rfl) (k_X12_isWord N hG hmh56 hss61 g65 (fun h62 hmh62 frh62 => ⟨_, rfl, (?_ : ky_V _ _ _ 186 _ [.int x64] _ _)⟩))
                      have frh62 := frh56.tr frh62
                      refine v_if_eq (tgt := 194) (i := 96) rfl (by decide) (fun c66 => ?_) (fun c66 => ?_)
                      · replace e := ky_ifT c66 e
                        refine v_aload_n (i := 100) (j := 0) rfl rfl (?_ : ky_V _ _ _ 195 _ _ _ _)
                        obtain ⟨s67, hvs67, hss67⟩ := sg_X12_168 hG
                        refine v_ldcS (i := 101) hvs67 rfl (?_ : ky_V _ _ _ 197 _ _ _ _)
                        obtain ⟨⟨q69, x70⟩, g71, e⟩ := Option.bind_eq_some_iff.mp e
                        refine cl_X12_105 (As := [.ref s67]) rfl (i := 102) rfl (md_0 hmh62) rfl rfl (Nat.le_of_ble_eq_true rfl) (k_X12_isWord N hG hmh62 hss67 g71 (fun h68 hmh68 frh68 => ⟨_, rfl, (?_ : ky_V _ _ _ 200 _ [.int x70] _ _)⟩))
                        have frh68 := frh62.tr frh68
                        refine v_if_eq (tgt := 208) (i := 103) rfl (by decide) (fun c72 => ?_) (fun c72 => ?_)
                        · replace e := ky_ifT c72 e
                          refine v_aload_n (i := 107) (j := 0) rfl rfl (?_ : ky_V _ _ _ 209 _ _ _ _)
                          obtain ⟨s73, hvs73, hss73⟩ := sg_X12_173 hG
                          refine v_ldcS (i := 108) hvs73 rfl (?_ : ky_V _ _ _ 211 _ _ _ _)
                          obtain ⟨⟨q75, x76⟩, g77, e⟩ := Option.bind_eq_some_iff.mp e
                          refine cl_X12_105 (As := [.ref s73]) rfl (i := 109) rfl (md_0 hmh68) rfl rfl (Nat.le_of_ble_eq_true rfl) (k_X12_isWord N hG hmh68 hss73 g77 (fun h74 hmh74 frh74 => ⟨_, rfl, (?_ : ky_V _ _ _ 214 _ [.int x76] _ _)⟩))
                          have frh74 := frh68.tr frh74
                          refine v_if_eq (tgt := 232) (i := 110) rfl (by decide) (fun c78 => ?_) (fun c78 => ?_)
                          · replace e := ky_ifT c78 e
                            refine v_iconst (v := 0) (i := 118) rfl (by decide) (?_ : ky_V _ _ _ 233 _ _ _ _)
                            refine v_iret (v := 0) (ty := .boolean) (i := 119) rfl rfl (by decide) ?_
                            obtain ⟨rfl, rfl⟩ := ky_leaf e
                            exact hr _ hmh74 frh74
                          · replace e := ky_ifF c78 e
                            refine v_aload_n (i := 111) (j := 0) rfl rfl (?_ : ky_V _ _ _ 218 _ _ _ _)
                            refine v_bipush (v := 11) (i := 112) rfl (by decide) (?_ : ky_V _ _ _ 220 _ _ _ _)
                            refine v_bipush (v := 9) (i := 113) rfl (by decide) (?_ : ky_V _ _ _ 222 _ _ _ _)
                            obtain ⟨⟨q80, x81⟩, g82, e⟩ := Option.bind_eq_some_iff.mp e
                            refine cl_X12_128 (As := [.int 11, .int 9]) rfl (i := 114) rfl (md_0 hmh74) rfl rfl (Nat.le_of_ble_eq_true rfl) (k_X12_readNumber N hmh74 g82 (fun h79 hmh79 frh79 => ⟨_, rfl, (?_ : ky_V _ _ _ 225 _ [.int x81] _ _)⟩))
                            have frh79 := frh74.tr frh79
                            refine v_if_eq (tgt := 232) (i := 115) rfl (by decide) (fun c83 => ?_) (fun c83 => ?_)
                            · replace e := ky_ifT c83 e
                              refine v_iconst (v := 0) (i := 118) rfl (by decide) (?_ : ky_V _ _ _ 233 _ _ _ _)
                              refine v_iret (v := 0) (ty := .boolean) (i := 119) rfl rfl (by decide) ?_
                              obtain ⟨rfl, rfl⟩ := ky_leaf e
                              exact hr _ hmh79 frh79
                            · replace e := ky_ifF c83 e
                              refine v_iconst (v := 1) (i := 116) rfl (by decide) (?_ : ky_V _ _ _ 229 _ _ _ _)
                              refine v_goto (tgt := 233) (i := 117) rfl (by decide) (?_ : ky_V _ _ _ 233 _ _ _ _)
                              refine v_iret (v := 1) (ty := .boolean) (i := 119) rfl rfl (by decide) ?_
                              obtain ⟨rfl, rfl⟩ := ky_leaf e
                              exact hr _ hmh79 frh79
                        · replace e := ky_ifF c72 e
                          refine v_aload_n (i := 104) (j := 0) rfl rfl (?_ : ky_V _ _ _ 204 _ _ _ _)
                          obtain ⟨⟨q85, x86⟩, g87, e⟩ := Option.bind_eq_some_iff.mp e
                          refine cl_X12_170 (As := []) rfl (i := 105) rfl (md_0 hmh68) rfl rfl (Nat.le_of_ble_eq_true rfl) (k_X12_readPerson N hG hmh68 g87 (fun h84 hmh84 frh84 => ⟨_, rfl, (?_ : ky_V _ _ _ 207 _ [.int x86] _ _)⟩))
                          have frh84 := frh68.tr frh84
                          obtain ⟨z88, e⟩ := ky_chkE e
                          refine v_iret (v := x86) (ty := .boolean) (i := 106) rfl rfl (ky_nb z88) ?_
                          obtain ⟨rfl, rfl⟩ := ky_leaf e
                          exact hr _ hmh84 frh84
                      · replace e := ky_ifF c66 e
                        refine v_aload_n (i := 97) (j := 0) rfl rfl (?_ : ky_V _ _ _ 190 _ _ _ _)
                        obtain ⟨⟨q90, x91⟩, g92, e⟩ := Option.bind_eq_some_iff.mp e
                        refine cl_X12_165 (As := []) rfl (i := 98) rfl (md_0 hmh62) rfl rfl (Nat.le_of_ble_eq_true rfl) (k_X12_readHole N hmh62 g92 (fun h89 hmh89 frh89 => ⟨_, rfl, (?_ : ky_V _ _ _ 193 _ [.int x91] _ _)⟩))
                        have frh89 := frh62.tr frh89
                        obtain ⟨z93, e⟩ := ky_chkE e
                        refine v_iret (v := x91) (ty := .boolean) (i := 99) rfl rfl (ky_nb z93) ?_
                        obtain ⟨rfl, rfl⟩ := ky_leaf e
                        exact hr _ hmh89 frh89
                    · replace e := ky_ifF c60 e
                      refine v_aload_n (i := 89) (j := 0) rfl rfl (?_ : ky_V _ _ _ 175 _ _ _ _)
                      refine v_iconst (v := 2) (i := 90) rfl (by decide) (?_ : ky_V _ _ _ 176 _ _ _ _)
                      obtain ⟨⟨q95, x96⟩, g97, e⟩ := Option.bind_eq_some_iff.mp e
                      refine cl_X12_157 (As := [.int 2]) rfl (i := 91) rfl (md_0 hmh56) rfl rfl (Nat.le_of_ble_eq_true rfl) (k_X12_readSign N hmh56 g97 (fun h94 hmh94 frh94 => ⟨_, rfl, (?_ : ky_V _ _ _ 179 _ [.int x96] _ _)⟩))
                      have frh94 := frh56.tr frh94
                      obtain ⟨z98, e⟩ := ky_chkE e
                      refine v_iret (v := x96) (ty := .boolean) (i := 92) rfl rfl (ky_nb z98) ?_
                      obtain ⟨rfl, rfl⟩ := ky_leaf e
                      exact hr _ hmh94 frh94
                  · replace e := ky_ifF c54 e
                    refine v_aload_n (i := 81) (j := 0) rfl rfl (?_ : ky_V _ _ _ 160 _ _ _ _)
                    refine v_iconst (v := 1) (i := 82) rfl (by decide) (?_ : ky_V _ _ _ 161 _ _ _ _)
                    obtain ⟨⟨q100, x101⟩, g102, e⟩ := Option.bind_eq_some_iff.mp e
                    refine cl_X12_157 (As := [.int 1]) rfl (i := 83) rfl (md_0 hmh50) rfl rfl (Nat.le_of_ble_eq_true rfl) (k_X12_readSign N hmh50 g102 (fun h99 hmh99 frh99 => ⟨_, rfl, (?_ : ky_V _ _ _ 164 _ [.int x101] _ _)⟩))
                    have frh99 := frh50.tr frh99
                    obtain ⟨z103, e⟩ := ky_chkE e
                    refine v_iret (v := x101) (ty := .boolean) (i := 84) rfl rfl (ky_nb z103) ?_
                    obtain ⟨rfl, rfl⟩ := ky_leaf e
                    exact hr _ hmh99 frh99
                · replace e := ky_ifF c48 e
                  refine v_aload_n (i := 74) (j := 0) rfl rfl (?_ : ky_V _ _ _ 146 _ _ _ _)
                  obtain ⟨⟨q105, x106⟩, g107, e⟩ := Option.bind_eq_some_iff.mp e
                  refine cl_X12_152 (As := []) rfl (i := 75) rfl (md_0 hmh44) rfl rfl (Nat.le_of_ble_eq_true rfl) (k_X12_readBears N hmh44 g107 (fun h104 hmh104 frh104 => ⟨_, rfl, (?_ : ky_V _ _ _ 149 _ [.int x106] _ _)⟩))
                  have frh104 := frh44.tr frh104
                  obtain ⟨z108, e⟩ := ky_chkE e
                  refine v_iret (v := x106) (ty := .boolean) (i := 76) rfl rfl (ky_nb z108) ?_
                  obtain ⟨rfl, rfl⟩ := ky_leaf e
                  exact hr _ hmh104 frh104
              · replace e := ky_ifF c42 e
                refine v_aload_n (i := 65) (j := 0) rfl rfl (?_ : ky_V _ _ _ 128 _ _ _ _)
                refine v_bipush (v := 9) (i := 66) rfl (by decide) (?_ : ky_V _ _ _ 130 _ _ _ _)
                refine v_bipush (v := 100) (i := 67) rfl (by decide) (?_ : ky_V _ _ _ 132 _ _ _ _)
                obtain ⟨⟨q110, x111⟩, g112, e⟩ := Option.bind_eq_some_iff.mp e
                refine cl_X12_128 (As := [.int 9, .int 100]) rfl (i := 68) rfl (md_0 hmh38) rfl rfl (Nat.le_of_ble_eq_true rfl) (k_X12_readNumber N hmh38 g112 (fun h109 hmh109 frh109 => ⟨_, rfl, (?_ : ky_V _ _ _ 135 _ [.int x111] _ _)⟩))
                have frh109 := frh38.tr frh109
                obtain ⟨z113, e⟩ := ky_chkE e
                refine v_iret (v := x111) (ty := .boolean) (i := 69) rfl rfl (ky_nb z113) ?_
                obtain ⟨rfl, rfl⟩ := ky_leaf e
                exact hr _ hmh109 frh109
            · replace e := ky_ifF c36 e
              refine v_aload_n (i := 58) (j := 0) rfl rfl (?_ : ky_V _ _ _ 114 _ _ _ _)
              obtain ⟨⟨q115, x116⟩, g117, e⟩ := Option.bind_eq_some_iff.mp e
              refine cl_X12_145 (As := []) rfl (i := 59) rfl (md_0 hmh32) rfl rfl (Nat.le_of_ble_eq_true rfl) (k_X12_readMove N hG hmh32 g117 (fun h114 hmh114 frh114 => ⟨_, rfl, (?_ : ky_V _ _ _ 117 _ [.int x116] _ _)⟩))
              have frh114 := frh32.tr frh114
              obtain ⟨z118, e⟩ := ky_chkE e
              refine v_iret (v := x116) (ty := .boolean) (i := 60) rfl rfl (ky_nb z118) ?_
              obtain ⟨rfl, rfl⟩ := ky_leaf e
              exact hr _ hmh114 frh114
          · replace e := ky_ifF c30 e
            refine v_aload_n (i := 49) (j := 0) rfl rfl (?_ : ky_V _ _ _ 95 _ _ _ _)
            refine v_bipush (v := 8) (i := 50) rfl (by decide) (?_ : ky_V _ _ _ 97 _ _ _ _)
            refine v_sipush (v := 999) (i := 51) rfl (by decide) (?_ : ky_V _ _ _ 100 _ _ _ _)
            obtain ⟨⟨q120, x121⟩, g122, e⟩ := Option.bind_eq_some_iff.mp e
            refine cl_X12_128 (As := [.int 8, .int 999]) rfl (i := 52) rfl (md_0 hmh26) rfl rfl (Nat.le_of_ble_eq_true rfl) (k_X12_readNumber N hmh26 g122 (fun h119 hmh119 frh119 => ⟨_, rfl, (?_ : ky_V _ _ _ 103 _ [.int x121] _ _)⟩))
            have frh119 := frh26.tr frh119
            obtain ⟨z123, e⟩ := ky_chkE e
            refine v_iret (v := x121) (ty := .boolean) (i := 53) rfl rfl (ky_nb z123) ?_
            obtain ⟨rfl, rfl⟩ := ky_leaf e
            exact hr _ hmh119 frh119
        · replace e := ky_ifF c24 e
          refine v_aload_n (i := 40) (j := 0) rfl rfl (?_ : ky_V _ _ _ 78 _ _ _ _)
          refine v_iconst (v := 5) (i := 41) rfl (by decide) (?_ : ky_V _ _ _ 79 _ _ _ _)
          refine v_bipush (v := 9) (i := 42) rfl (by decide) (?_ : ky_V _ _ _ 81 _ _ _ _)
          obtain ⟨⟨q125, x126⟩, g127, e⟩ := Option.bind_eq_some_iff.mp e
          refine cl_X12_128 (As := [.int 5, .int 9]) rfl (i := 43) rfl (md_0 hmh20) rfl rfl (Nat.le_of_ble_eq_true rfl) (k_X12_readNumber N hmh20 g127 (fun h124 hmh124 frh124 => ⟨_, rfl, (?_ : ky_V _ _ _ 84 _ [.int x126] _ _)⟩))
          have frh124 := frh20.tr frh124
          obtain ⟨z128, e⟩ := ky_chkE e
          refine v_iret (v := x126) (ty := .boolean) (i := 44) rfl rfl (ky_nb z128) ?_
          obtain ⟨rfl, rfl⟩ := ky_leaf e
          exact hr _ hmh124 frh124
      · replace e := ky_ifF c18 e
        refine v_aload_n (i := 31) (j := 0) rfl rfl (?_ : ky_V _ _ _ 61 _ _ _ _)
        refine v_iconst (v := 4) (i := 32) rfl (by decide) (?_ : ky_V _ _ _ 62 _ _ _ _)
        refine v_bipush (v := 9) (i := 33) rfl (by decide) (?_ : ky_V _ _ _ 64 _ _ _ _)
        obtain ⟨⟨q130, x131⟩, g132, e⟩ := Option.bind_eq_some_iff.mp e
        refine cl_X12_128 (As := [.int 4, .int 9]) rfl (i := 34) rfl (md_0 hmh14) rfl rfl (Nat.le_of_ble_eq_true rfl) (k_X12_readNumber N hmh14 g132 (fun h129 hmh129 frh129 => ⟨_, rfl, (?_ : ky_V _ _ _ 67 _ [.int x131] _ _)⟩))
        have frh129 := frh14.tr frh129
        obtain ⟨z133, e⟩ := ky_chkE e
        refine v_iret (v := x131) (ty := .boolean) (i := 35) rfl rfl (ky_nb z133) ?_
        obtain ⟨rfl, rfl⟩ := ky_leaf e
        exact hr _ hmh129 frh129
    · replace e := ky_ifF c12 e
      refine v_aload_n (i := 22) (j := 0) rfl rfl (?_ : ky_V _ _ _ 45 _ _ _ _)
      refine v_iconst (v := 2) (i := 23) rfl (by decide) (?_ : ky_V _ _ _ 46 _ _ _ _)
      refine v_iconst (v := 5) (i := 24) rfl (by decide) (?_ : ky_V _ _ _ 47 _ _ _ _)
      obtain ⟨⟨q135, x136⟩, g137, e⟩ := Option.bind_eq_some_iff.mp e
      refine cl_X12_128 (As := [.int 2, .int 5]) rfl (i := 25) rfl (md_0 hmh8) rfl rfl (Nat.le_of_ble_eq_true rfl) (k_X12_readNumber N hmh8 g137 (fun h134 hmh134 frh134 => ⟨_, rfl, (?_ : ky_V _ _ _ 50 _ [.int x136] _ _)⟩))
      have frh134 := frh8.tr frh134
      obtain ⟨z138, e⟩ := ky_chkE e
      refine v_iret (v := x136) (ty := .boolean) (i := 26) rfl rfl (ky_nb z138) ?_
      obtain ⟨rfl, rfl⟩ := ky_leaf e
      exact hr _ hmh134 frh134
  · replace e := ky_ifF c6 e
    refine v_aload_n (i := 4) (j := 0) rfl rfl (?_ : ky_V _ _ _ 10 _ _ _ _)
    refine v_iconst (v := 0) (i := 5) rfl (by decide) (?_ : ky_V _ _ _ 11 _ _ _ _)
    refine v_bipush (v := 9) (i := 6) rfl (by decide) (?_ : ky_V _ _ _ 13 _ _ _ _)
    obtain ⟨⟨q140, x141⟩, g142, e⟩ := Option.bind_eq_some_iff.mp e
    refine cl_X12_128 (As := [.int 0, .int 9]) rfl (i := 7) rfl (md_0 hmh2) rfl rfl (Nat.le_of_ble_eq_true rfl) (k_X12_readNumber N hmh2 g142 (fun h139 hmh139 frh139 => ⟨_, rfl, (?_ : ky_V _ _ _ 16 _ [.int x141] _ _)⟩))
    have frh139 := frh2.tr frh139
    refine v_if_eq (tgt := 33) (i := 8) rfl (by decide) (fun c143 => ?_) (fun c143 => ?_)
    · replace e := ky_ifT c143 e
      refine v_iconst (v := 0) (i := 16) rfl (by decide) (?_ : ky_V _ _ _ 34 _ _ _ _)
      refine v_iret (v := 0) (ty := .boolean) (i := 17) rfl rfl (by decide) ?_
      obtain ⟨rfl, rfl⟩ := ky_leaf e
      exact hr _ hmh139 frh139
    · replace e := ky_ifF c143 e
      refine v_aload_n (i := 9) (j := 0) rfl rfl (?_ : ky_V _ _ _ 20 _ _ _ _)
      refine v_iconst (v := 1) (i := 10) rfl (by decide) (?_ : ky_V _ _ _ 21 _ _ _ _)
      refine v_bipush (v := 9) (i := 11) rfl (by decide) (?_ : ky_V _ _ _ 23 _ _ _ _)
      obtain ⟨⟨q145, x146⟩, g147, e⟩ := Option.bind_eq_some_iff.mp e
      refine cl_X12_128 (As := [.int 1, .int 9]) rfl (i := 12) rfl (md_0 hmh139) rfl rfl (Nat.le_of_ble_eq_true rfl) (k_X12_readNumber N hmh139 g147 (fun h144 hmh144 frh144 => ⟨_, rfl, (?_ : ky_V _ _ _ 26 _ [.int x146] _ _)⟩))
      have frh144 := frh139.tr frh144
      refine v_if_eq (tgt := 33) (i := 13) rfl (by decide) (fun c148 => ?_) (fun c148 => ?_)
      · replace e := ky_ifT c148 e
        refine v_iconst (v := 0) (i := 16) rfl (by decide) (?_ : ky_V _ _ _ 34 _ _ _ _)
        refine v_iret (v := 0) (ty := .boolean) (i := 17) rfl rfl (by decide) ?_
        obtain ⟨rfl, rfl⟩ := ky_leaf e
        exact hr _ hmh144 frh144
      · replace e := ky_ifF c148 e
        refine v_iconst (v := 1) (i := 14) rfl (by decide) (?_ : ky_V _ _ _ 30 _ _ _ _)
        refine v_goto (tgt := 34) (i := 15) rfl (by decide) (?_ : ky_V _ _ _ 34 _ _ _ _)
        refine v_iret (v := 1) (ty := .boolean) (i := 17) rfl rfl (by decide) ?_
        obtain ⟨rfl, rfl⟩ := ky_leaf e
        exact hr _ hmh144 frh144

def md_readPart (N : Nat)  (c : (Nat → Nat → Int32))  : Option ((Nat → Nat → Int32) × Int32) := ((md_letters N c).bind (fun zz => (fun q2 x3 => (if (q2 0 10) = (q2 0 12) then ((md_number N q2 0 999).bind (fun zz => (fun q78 x79 => (if ky_inB (1447 + (2 * (q78 0 16))) 2247 = true then (if ky_inB ((1447 + (2 * ((bk_w q78 1 (Int32.toNatClampNeg (1447 + (2 * (q78 0 16)))) 7) 0 16))) + 1) 2247 = true then (ky_let (md_emits_c q78 7 x79) (fun q84 => (if x79 < 0 then (some (q84, 0)) else (some (q84, 1))))) else none) else none)) zz.1 zz.2)) else ((md_isWord N q2 ([109, 111, 118, 101] : List Int32)).bind (fun zz => (fun q8 x9 => (if x9 = 0 then ((md_isWord N q8 ([108, 101, 103] : List Int32)).bind (fun zz => (fun q14 x15 => (if x15 = 0 then ((md_isWord N q14 ([111, 116, 104, 101, 114] : List Int32)).bind (fun zz => (fun q20 x21 => (if x21 = 0 then ((md_isWord N q20 ([116, 104, 105, 110] : List Int32)).bind (fun zz => (fun q26 x27 => (if x27 = 0 then ((md_isWord N q26 ([99, 97, 108, 109] : List Int32)).bind (fun zz => (fun q32 x33 => (if x33 = 0 then ((md_isWord N q32 ([119, 97, 116, 101, 114] : List Int32)).bind (fun zz => (fun q38 x39 => (if x39 = 0 then (if ky_inB (1447 + (2 * (q38 0 16))) 2247 = true then (if ky_inB ((1447 + (2 * ((bk_w q38 1 (Int32.toNatClampNeg (1447 + (2 * (q38 0 16)))) (-1)) 0 16))) + 1) 2247 = true then (ky_let (md_emits_c q38 (-1) 0) (fun q45 => (if (-1 : Int32) < 0 then (some (q45, 0)) else (some (q45, 1))))) else none) else none) else (if ky_inB (1447 + (2 * (q38 0 16))) 2247 = true then (if ky_inB ((1447 + (2 * ((bk_w q38 1 (Int32.toNatClampNeg (1447 + (2 * (q38 0 16)))) 5) 0 16))) + 1) 2247 = true then (ky_let (md_emits_c q38 5 0) (fun q50 => (if (5 : Int32) < 0 then (some (q50, 0)) else (some (q50, 1))))) else none) else none))) zz.1 zz.2)) else (if ky_inB (1447 + (2 * (q32 0 16))) 2247 = true then (if ky_inB ((1447 + (2 * ((bk_w q32 1 (Int32.toNatClampNeg (1447 + (2 * (q32 0 16)))) 4) 0 16))) + 1) 2247 = true then (ky_let (md_emits_c q32 4 0) (fun q55 => (if (4 : Int32) < 0 then (some (q55, 0)) else (some (q55, 1))))) else none) else none))) zz.1 zz.2)) else (if ky_inB (1447 + (2 * (q26 0 16))) 2247 = true then (if ky_inB ((1447 + (2 * ((bk_w q26 1 (Int32.toNatClampNeg (1447 + (2 * (q26 0 16)))) 3) 0 16))) + 1) 2247 = true then (ky_let (md_emits_c q26 3 0) (fun q60 => (if (3 : Int32) < 0 then (some (q60, 0)) else (some (q60, 1))))) else none) else none))) zz.1 zz.2)) else (if ky_inB (1447 + (2 * (q20 0 16))) 2247 = true then (if ky_inB ((1447 + (2 * ((bk_w q20 1 (Int32.toNatClampNeg (1447 + (2 * (q20 0 16)))) 2) 0 16))) + 1) 2247 = true then (ky_let (md_emits_c q20 2 0) (fun q65 => (if (2 : Int32) < 0 then (some (q65, 0)) else (some (q65, 1))))) else none) else none))) zz.1 zz.2)) else (if ky_inB (1447 + (2 * (q14 0 16))) 2247 = true then (if ky_inB ((1447 + (2 * ((bk_w q14 1 (Int32.toNatClampNeg (1447 + (2 * (q14 0 16)))) 1) 0 16))) + 1) 2247 = true then (ky_let (md_emits_c q14 1 0) (fun q70 => (if (1 : Int32) < 0 then (some (q70, 0)) else (some (q70, 1))))) else none) else none))) zz.1 zz.2)) else (if ky_inB (1447 + (2 * (q8 0 16))) 2247 = true then (if ky_inB ((1447 + (2 * ((bk_w q8 1 (Int32.toNatClampNeg (1447 + (2 * (q8 0 16)))) 0) 0 16))) + 1) 2247 = true then (ky_let (md_emits_c q8 0 0) (fun q75 => (if (0 : Int32) < 0 then (some (q75, 0)) else (some (q75, 1))))) else none) else none))) zz.1 zz.2)))) zz.1 zz.2))
set_option maxRecDepth 20000 in
set_option maxHeartbeats 4000000 in
theorem k_X12_readPart {G : ky_GW} {d : Nat} {h : ky_HP} {Q : ky_RS → ky_HP → Prop} {a : Nat} {c c9 : (Nat → Nat → Int32)} {r9 : Int32}  (N : Nat) (hG : ky_OK G)   (hm : md_at G h a c)  (e : md_readPart N  c = some (c9, r9)) (hr : ∀ h1, md_at G h1 a c9 → bk_fr a 13 h h1 → Q (.inl (some (.int r9))) h1) : ky_Call G (d + 5) M_X12_readPart [.ref a] h Q := by
  refine ky_ofV (by decide +kernel) rfl ok_X12_readPart (Nat.le_of_ble_eq_true rfl) ?_
  have fr : bk_fr a 13 h h := bk_fr.rf
  unfold md_readPart at e
  refine (?_ : ky_V _ _ _ 0 [(0, .ref a)] [] _ _)
  refine v_aload_n (i := 0) (j := 0) rfl rfl (?_ : ky_V _ _ _ 1 _ _ _ _)
  obtain ⟨⟨q2, x3⟩, g4, e⟩ := Option.bind_eq_some_iff.mp e
  refine cl_X12_102 (As := []) rfl (i := 1) rfl (md_0 hm) rfl rfl (Nat.le_of_ble_eq_true rfl) (k_X12_letters N hm g4 (fun h1 hmh1 frh1 => ⟨_, rfl, (?_ : ky_V _ _ _ 4 _ [] _ _)⟩))
  have frh1 := fr.tr frh1
  refine v_aload_n (i := 2) (j := 0) rfl rfl (?_ : ky_V _ _ _ 5 _ _ _ _)
  refine gf_X12_77 rfl (i := 3) rfl (md_0 hmh1) rfl (?_ : ky_V _ _ _ 8 _ _ _ _)
  refine v_aload_n (i := 4) (j := 0) rfl rfl (?_ : ky_V _ _ _ 9 _ _ _ _)
  refine gf_X12_87 rfl (i := 5) rfl (md_0 hmh1) rfl (?_ : ky_V _ _ _ 12 _ _ _ _)
  refine v_icmp_ne (tgt := 34) (i := 6) rfl (by decide) (fun c5 => ?_) (fun c5 => ?_)
  · replace e := ky_ifF c5 e
    refine v_aload_n (i := 17) (j := 0) rfl rfl (?_ : ky_V _ _ _ 35 _ _ _ _)
    obtain ⟨s6, hvs6, hss6⟩ := sg_X12_143 hG
    refine v_ldcS (i := 18) hvs6 rfl (?_ : ky_V _ _ _ 37 _ _ _ _)
    obtain ⟨⟨q8, x9⟩, g10, e⟩ := Option.bind_eq_some_iff.mp e
    refine cl_X12_105 (As := [.ref s6]) rfl (i := 19) rfl (md_0 hmh1) rfl rfl (Nat.le_of_ble_eq_true rfl) (k_X12_isWord N hG hmh1 hss6 g10 (fun h7 hmh7 frh7 => ⟨_, rfl, (?_ : ky_V _ _ _ 40 _ [.int x9] _ _)⟩))
    have frh7 := frh1.tr frh7
    refine v_if_eq (tgt := 47) (i := 20) rfl (by decide) (fun c11 => ?_) (fun c11 => ?_)
    · replace e := ky_ifT c11 e
      refine v_aload_n (i := 23) (j := 0) rfl rfl (?_ : ky_V _ _ _ 48 _ _ _ _)
      obtain ⟨s12, hvs12, hss12⟩ := sg_X12_182 hG
      refine v_ldcS (i := 24) hvs12 rfl (?_ : ky_V _ _ _ 50 _ _ _ _)
      obtain ⟨⟨q14, x15⟩, g16, e⟩ := Option.bind_eq_some_iff.mp e
      refine cl_X12_105 (As := [.ref s12]) rfl (i := 25) rfl (md_0 hmh7) rfl rfl (Nat.le_of_ble_eq_true rfl) (k_X12_isWord N hG hmh7 hss12 g16 (fun h13 hmh13 frh13 => ⟨_, rfl, (?_ : ky_V _ _ _ 53 _ [.int x15] _ _)⟩))
      have frh13 := frh7.tr frh13
      refine v_if_eq (tgt := 60) (i := 26) rfl (by decide) (fun c17 => ?_) (fun c17 => ?_)
      · replace e := ky_ifT c17 e
        refine v_aload_n (i := 29) (j := 0) rfl rfl (?_ : ky_V _ _ _ 61 _ _ _ _)
        obtain ⟨s18, hvs18, hss18⟩ := sg_X12_184 hG
        refine v_ldcS (i := 30) hvs18 rfl (?_ : ky_V _ _ _ 63 _ _ _ _)
        obtain ⟨⟨q20, x21⟩, g22, e⟩ := Option.bind_eq_some_iff.mp e
        refine cl_X12_105 (As := [.ref s18]) rfl (i := 31) rfl (md_0 hmh13) rfl rfl (Nat.le_of_ble_eq_true rfl) (k_X12_isWord N hG hmh13 hss18 g22 (fun h19 hmh19 frh19 => ⟨_, rfl, (?_ : ky_V _ _ _ 66 _ [.int x21] _ _)⟩))
        have frh19 := frh13.tr frh19
        refine v_if_eq (tgt := 73) (i := 32) rfl (by decide) (fun c23 => ?_) (fun c23 => ?_)
        · replace e := ky_ifT c23 e
          refine v_aload_n (i := 35) (j := 0) rfl rfl (?_ : ky_V _ _ _ 74 _ _ _ _)
          obtain ⟨s24, hvs24, hss24⟩ := sg_X12_135 hG
          refine v_ldcS (i := 36) hvs24 rfl (?_ : ky_V _ _ _ 76 _ _ _ _)
          obtain ⟨⟨q26, x27⟩, g28, e⟩ := Option.bind_eq_some_iff.mp e
          refine cl_X12_105 (As := [.ref s24]) rfl (i := 37) rfl (md_0 hmh19) rfl rfl (Nat.le_of_ble_eq_true rfl) (k_X12_isWord N hG hmh19 hss24 g28 (fun h25 hmh25 frh25 => ⟨_, rfl, (?_ : ky_V _ _ _ 79 _ [.int x27] _ _)⟩))
          have frh25 := frh19.tr frh25
          refine v_if_eq (tgt := 86) (i := 38) rfl (by decide) (fun c29 => ?_) (fun c29 => ?_)
          · replace e := ky_ifT c29 e
            refine v_aload_n (i := 41) (j := 0) rfl rfl (?_ : ky_V _ _ _ 87 _ _ _ _)
            obtain ⟨s30, hvs30, hss30⟩ := sg_X12_137 hG
            refine v_ldcS (i := 42) hvs30 rfl (?_ : ky_V _ _ _ 89 _ _ _ _)
            obtain ⟨⟨q32, x33⟩, g34, e⟩ := Option.bind_eq_some_iff.mp e
            refine cl_X12_105 (As := [.ref s30]) rfl (i := 43) rfl (md_0 hmh25) rfl rfl (Nat.le_of_ble_eq_true rfl) (k_X12_isWord N hG hmh25 hss30 g34 (fun h31 hmh31 frh31 => ⟨_, rfl, (?_ : ky_V _ _ _ 92 _ [.int x33] _ _)⟩))
            have frh31 := frh25.tr frh31
            refine v_if_eq (tgt := 99) (i := 44) rfl (by decide) (fun c35 => ?_) (fun c35 => ?_)
            · replace e := ky_ifT c35 e
              refine v_aload_n (i := 47) (j := 0) rfl rfl (?_ : ky_V _ _ _ 100 _ _ _ _)
              obtain ⟨s36, hvs36, hss36⟩ := sg_X12_139 hG
              refine v_ldcS (i := 48) hvs36 rfl (?_ : ky_V _ _ _ 102 _ _ _ _)
              obtain ⟨⟨q38, x39⟩, g40, e⟩ := Option.bind_eq_some_iff.mp e
              refine cl_X12_105 (As := [.ref s36]) rfl (i := 49) rfl (md_0 hmh31) rfl rfl (Nat.le_of_ble_eq_true rfl) (k_X12_isWord N hG hmh31 hss36 g40 (fun h37 hmh37 frh37 => ⟨_, rfl, (?_ : ky_V _ _ _ 105 _ [.int x39] _ _)⟩))
              have frh37 := frh31.tr frh37
              refine v_if_eq (tgt := 112) (i := 50) rfl (by decide) (fun c41 => ?_) (fun c41 => ?_)
              · replace e := ky_ifT c41 e
                refine v_iconst (v := (-1)) (i := 53) rfl (by decide) (?_ : ky_V _ _ _ 113 _ _ _ _)
                refine v_istore_n (L' := [(0, .ref a), (1, .int (-1))]) [1, 0] (i := 54) rfl (Nat.le_of_ble_eq_true rfl) rfl (?_ : ky_V _ _ _ 114 _ _ _ _)
                refine v_aload_n (i := 55) (j := 0) rfl rfl (?_ : ky_V _ _ _ 115 _ _ _ _)
                refine v_iload_n (i := 56) (j := 1) rfl rfl (?_ : ky_V _ _ _ 116 _ _ _ _)
                refine v_iconst (v := 0) (i := 57) rfl (by decide) (?_ : ky_V _ _ _ 117 _ _ _ _)
                obtain ⟨z42, e⟩ := ky_chkE e
                obtain ⟨z43, e⟩ := ky_chkE e
                refine cl_X12_178 (As := [.int (-1), .int 0]) rfl (i := 58) rfl (md_0 hmh37) rfl rfl (Nat.le_of_ble_eq_true rfl) (k_X12_emits (-1) 0 hmh37 (ky_inb z42) (ky_inb z43) (fun h44 hmh44 frh44 => ⟨_, rfl, (?_ : ky_V _ _ _ 120 _ [] _ _)⟩))
                have frh44 := frh37.tr frh44
                obtain ⟨q45, eq45⟩ : ∃ z, z = (md_emits_c q38 (-1) 0) := ⟨_, rfl⟩
                rw [← eq45] at hmh44
                replace e := ky_letE eq45 e
                refine v_iload_n (i := 59) (j := 1) rfl rfl (?_ : ky_V _ _ _ 121 _ _ _ _)
                refine v_if_lt (tgt := 128) (i := 60) rfl (by decide) (fun c46 => ?_) (fun c46 => ?_)
                · replace e := ky_ifT c46 e
                  refine v_iconst (v := 0) (i := 63) rfl (by decide) (?_ : ky_V _ _ _ 129 _ _ _ _)
                  refine v_iret (v := 0) (ty := .boolean) (i := 64) rfl rfl (by decide) ?_
                  obtain ⟨rfl, rfl⟩ := ky_leaf e
                  exact hr _ hmh44 frh44
                · replace e := ky_ifF c46 e
                  refine v_iconst (v := 1) (i := 61) rfl (by decide) (?_ : ky_V _ _ _ 125 _ _ _ _)
                  refine v_goto (tgt := 129) (i := 62) rfl (by decide) (?_ : ky_V _ _ _ 129 _ _ _ _)
                  refine v_iret (v := 1) (ty := .boolean) (i := 64) rfl rfl (by decide) ?_
                  obtain ⟨rfl, rfl⟩ := ky_leaf e
                  exact hr _ hmh44 frh44
              · replace e := ky_ifF c41 e
                refine v_iconst (v := 5) (i := 51) rfl (by decide) (?_ : ky_V _ _ _ 109 _ _ _ _)
                refine v_goto (tgt := 113) (i := 52) rfl (by decide) (?_ : ky_V _ _ _ 113 _ _ _ _)
                refine v_istore_n (L' := [(0, .ref a), (1, .int 5)]) [1, 0] (i := 54) rfl (Nat.le_of_ble_eq_true rfl) rfl (?_ : ky_V _ _ _ 114 _ _ _ _)
                refine v_aload_n (i := 55) (j := 0) rfl rfl (?_ : ky_V _ _ _ 115 _ _ _ _)
                refine v_iload_n (i := 56) (j := 1) rfl rfl (?_ : ky_V _ _ _ 116 _ _ _ _)
                refine v_iconst (v := 0) (i := 57) rfl (by decide) (?_ : ky_V _ _ _ 117 _ _ _ _)
                obtain ⟨z47, e⟩ := ky_chkE e
                obtain ⟨z48, e⟩ := ky_chkE e
                refine cl_X12_178 (As := [.int 5, .int 0]) rfl (i := 58) rfl (md_0 hmh37) rfl rfl (Nat.le_of_ble_eq_true rfl) (k_X12_emits 5 0 hmh37 (ky_inb z47) (ky_inb z48) (fun h49 hmh49 frh49 => ⟨_, rfl, (?_ : ky_V _ _ _ 120 _ [] _ _)⟩))
                have frh49 := frh37.tr frh49
                obtain ⟨q50, eq50⟩ : ∃ z, z = (md_emits_c q38 5 0) := ⟨_, rfl⟩
                rw [← eq50] at hmh49
                replace e := ky_letE eq50 e
                refine v_iload_n (i := 59) (j := 1) rfl rfl (?_ : ky_V _ _ _ 121 _ _ _ _)
                refine v_if_lt (tgt := 128) (i := 60) rfl (by decide) (fun c51 => ?_) (fun c51 => ?_)
                · replace e := ky_ifT c51 e
                  refine v_iconst (v := 0) (i := 63) rfl (by decide) (?_ : ky_V _ _ _ 129 _ _ _ _)
                  refine v_iret (v := 0) (ty := .boolean) (i := 64) rfl rfl (by decide) ?_
                  obtain ⟨rfl, rfl⟩ := ky_leaf e
                  exact hr _ hmh49 frh49
                · replace e := ky_ifF c51 e
                  refine v_iconst (v := 1) (i := 61) rfl (by decide) (?_ : ky_V _ _ _ 125 _ _ _ _)
                  refine v_goto (tgt := 129) (i := 62) rfl (by decide) (?_ : ky_V _ _ _ 129 _ _ _ _)
                  refine v_iret (v := 1) (ty := .boolean) (i := 64) rfl rfl (by decide) ?_
                  obtain ⟨rfl, rfl⟩ := ky_leaf e
                  exact hr _ hmh49 frh49
            · replace e := ky_ifF c35 e
              refine v_iconst (v := 4) (i := 45) rfl (by decide) (?_ : ky_V _ _ _ 96 _ _ _ _)
              refine v_goto (tgt := 113) (i := 46) rfl (by decide) (?_ : ky_V _ _ _ 113 _ _ _ _)
              refine v_istore_n (L' := [(0, .ref a), (1, .int 4)]) [1, 0] (i := 54) rfl (Nat.le_of_ble_eq_true rfl) rfl (?_ : ky_V _ _ _ 114 _ _ _ _)
              refine v_aload_n (i := 55) (j := 0) rfl rfl (?_ : ky_V _ _ _ 115 _ _ _ _)
              refine v_iload_n (i := 56) (j := 1) rfl rfl (?_ : ky_V _ _ _ 116 _ _ _ _)
              refine v_iconst (v := 0) (i := 57) rfl (by decide) (?_ : ky_V _ _ _ 117 _ _ _ _)
              obtain ⟨z52, e⟩ := ky_chkE e
              obtain ⟨z53, e⟩ := ky_chkE e
              refine cl_X12_178 (As := [.int 4, .int 0]) rfl (i := 58) rfl (md_0 hmh31) rfl rfl (Nat.le_of_ble_eq_true rfl) (k_X12_emits 4 0 hmh31 (ky_inb z52) (ky_inb z53) (fun h54 hmh54 frh54 => ⟨_, rfl, (?_ : ky_V _ _ _ 120 _ [] _ _)⟩))
              have frh54 := frh31.tr frh54
              obtain ⟨q55, eq55⟩ : ∃ z, z = (md_emits_c q32 4 0) := ⟨_, rfl⟩
              rw [← eq55] at hmh54
              replace e := ky_letE eq55 e
              refine v_iload_n (i := 59) (j := 1) rfl rfl (?_ : ky_V _ _ _ 121 _ _ _ _)
              refine v_if_lt (tgt := 128) (i := 60) rfl (by decide) (fun c56 => ?_) (fun c56 => ?_)
              · replace e := ky_ifT c56 e
                refine v_iconst (v := 0) (i := 63) rfl (by decide) (?_ : ky_V _ _ _ 129 _ _ _ _)
                refine v_iret (v := 0) (ty := .boolean) (i := 64) rfl rfl (by decide) ?_
                obtain ⟨rfl, rfl⟩ := ky_leaf e
                exact hr _ hmh54 frh54
              · replace e := ky_ifF c56 e
                refine v_iconst (v := 1) (i := 61) rfl (by decide) (?_ : ky_V _ _ _ 125 _ _ _ _)
                refine v_goto (tgt := 129) (i := 62) rfl (by decide) (?_ : ky_V _ _ _ 129 _ _ _ _)
                refine v_iret (v := 1) (ty := .boolean) (i := 64) rfl rfl (by decide) ?_
                obtain ⟨rfl, rfl⟩ := ky_leaf e
                exact hr _ hmh54 frh54
          · replace e := ky_ifF c29 e
            refine v_iconst (v := 3) (i := 39) rfl (by decide) (?_ : ky_V _ _ _ 83 _ _ _ _)
            refine v_goto (tgt := 113) (i := 40) rfl (by decide) (?_ : ky_V _ _ _ 113 _ _ _ _)
            refine v_istore_n (L' := [(0, .ref a), (1, .int 3)]) [1, 0] (i := 54) rfl (Nat.le_of_ble_eq_true rfl) rfl (?_ : ky_V _ _ _ 114 _ _ _ _)
            refine v_aload_n (i := 55) (j := 0) rfl rfl (?_ : ky_V _ _ _ 115 _ _ _ _)
            refine v_iload_n (i := 56) (j := 1) rfl rfl (?_ : ky_V _ _ _ 116 _ _ _ _)
            refine v_iconst (v := 0) (i := 57) rfl (by decide) (?_ : ky_V _ _ _ 117 _ _ _ _)
            obtain ⟨z57, e⟩ := ky_chkE e
            obtain ⟨z58, e⟩ := ky_chkE e
            refine cl_X12_178 (As := [.int 3, .int 0]) rfl (i := 58) rfl (md_0 hmh25) rfl rfl (Nat.le_of_ble_eq_true rfl) (k_X12_emits 3 0 hmh25 (ky_inb z57) (ky_inb z58) (fun h59 hmh59 frh59 => ⟨_, rfl, (?_ : ky_V _ _ _ 120 _ [] _ _)⟩))
            have frh59 := frh25.tr frh59
            obtain ⟨q60, eq60⟩ : ∃ z, z = (md_emits_c q26 3 0) := ⟨_, rfl⟩
            rw [← eq60] at hmh59
            replace e := ky_letE eq60 e
            refine v_iload_n (i := 59) (j := 1) rfl rfl (?_ : ky_V _ _ _ 121 _ _ _ _)
            refine v_if_lt (tgt := 128) (i := 60) rfl (by decide) (fun c61 => ?_) (fun c61 => ?_)
            · replace e := ky_ifT c61 e
              refine v_iconst (v := 0) (i := 63) rfl (by decide) (?_ : ky_V _ _ _ 129 _ _ _ _)
              refine v_iret (v := 0) (ty := .boolean) (i := 64) rfl rfl (by decide) ?_
              obtain ⟨rfl, rfl⟩ := ky_leaf e
              exact hr _ hmh59 frh59
            · replace e := ky_ifF c61 e
              refine v_iconst (v := 1) (i := 61) rfl (by decide) (?_ : ky_V _ _ _ 125 _ _ _ _)
              refine v_goto (tgt := 129) (i := 62) rfl (by decide) (?_ : ky_V _ _ _ 129 _ _ _ _)
              refine v_iret (v := 1) (ty := .boolean) (i := 64) rfl rfl (by decide) ?_
              obtain ⟨rfl, rfl⟩ := ky_leaf e
              exact hr _ hmh59 frh59
        · replace e := ky_ifF c23 e
          refine v_iconst (v := 2) (i := 33) rfl (by decide) (?_ : ky_V _ _ _ 70 _ _ _ _)
          refine v_goto (tgt := 113) (i := 34) rfl (by decide) (?_ : ky_V _ _ _ 113 _ _ _ _)
          refine v_istore_n (L' := [(0, .ref a), (1, .int 2)]) [1, 0] (i := 54) rfl (Nat.le_of_ble_eq_true rfl) rfl (?_ : ky_V _ _ _ 114 _ _ _ _)
          refine v_aload_n (i := 55) (j := 0) rfl rfl (?_ : ky_V _ _ _ 115 _ _ _ _)
          refine v_iload_n (i := 56) (j := 1) rfl rfl (?_ : ky_V _ _ _ 116 _ _ _ _)
          refine v_iconst (v := 0) (i := 57) rfl (by decide) (?_ : ky_V _ _ _ 117 _ _ _ _)
          obtain ⟨z62, e⟩ := ky_chkE e
          obtain ⟨z63, e⟩ := ky_chkE e
          refine cl_X12_178 (As := [.int 2, .int 0]) rfl (i := 58) rfl (md_0 hmh19) rfl rfl (Nat.le_of_ble_eq_true rfl) (k_X12_emits 2 0 hmh19 (ky_inb z62) (ky_inb z63) (fun h64 hmh64 frh64 => ⟨_, rfl, (?_ : ky_V _ _ _ 120 _ [] _ _)⟩))
          have frh64 := frh19.tr frh64
          obtain ⟨q65, eq65⟩ : ∃ z, z = (md_emits_c q20 2 0) := ⟨_, rfl⟩
          rw [← eq65] at hmh64
          replace e := ky_letE eq65 e
          refine v_iload_n (i := 59) (j := 1) rfl rfl (?_ : ky_V _ _ _ 121 _ _ _ _)
          refine v_if_lt (tgt := 128) (i := 60) rfl (by decide) (fun c66 => ?_) (fun c66 => ?_)
          · replace e := ky_ifT c66 e
            refine v_iconst (v := 0) (i := 63) rfl (by decide) (?_ : ky_V _ _ _ 129 _ _ _ _)
            refine v_iret (v := 0) (ty := .boolean) (i := 64) rfl rfl (by decide) ?_
            obtain ⟨rfl, rfl⟩ := ky_leaf e
            exact hr _ hmh64 frh64
          · replace e := ky_ifF c66 e
            refine v_iconst (v := 1) (i := 61) rfl (by decide) (?_ : ky_V _ _ _ 125 _ _ _ _)
            refine v_goto (tgt := 129) (i := 62) rfl (by decide) (?_ : ky_V _ _ _ 129 _ _ _ _)
            refine v_iret (v := 1) (ty := .boolean) (i := 64) rfl rfl (by decide) ?_
            obtain ⟨rfl, rfl⟩ := ky_leaf e
            exact hr _ hmh64 frh64
      · replace e := ky_ifF c17 e
        refine v_iconst (v := 1) (i := 27) rfl (by decide) (?_ : ky_V _ _ _ 57 _ _ _ _)
        refine v_goto (tgt := 113) (i := 28) rfl (by decide) (?_ : ky_V _ _ _ 113 _ _ _ _)
        refine v_istore_n (L' := [(0, .ref a), (1, .int 1)]) [1, 0] (i := 54) rfl (Nat.le_of_ble_eq_true rfl) rfl (?_ : ky_V _ _ _ 114 _ _ _ _)
        refine v_aload_n (i := 55) (j := 0) rfl rfl (?_ : ky_V _ _ _ 115 _ _ _ _)
        refine v_iload_n (i := 56) (j := 1) rfl rfl (?_ : ky_V _ _ _ 116 _ _ _ _)
        refine v_iconst (v := 0) (i := 57) rfl (by decide) (?_ : ky_V _ _ _ 117 _ _ _ _)
        obtain ⟨z67, e⟩ := ky_chkE e
        obtain ⟨z68, e⟩ := ky_chkE e
        refine cl_X12_178 (As := [.int 1, .int 0]) rfl (i := 58) rfl (md_0 hmh13) rfl rfl (Nat.le_of_ble_eq_true rfl) (k_X12_emits 1 0 hmh13 (ky_inb z67) (ky_inb z68) (fun h69 hmh69 frh69 => ⟨_, rfl, (?_ : ky_V _ _ _ 120 _ [] _ _)⟩))
        have frh69 := frh13.tr frh69
        obtain ⟨q70, eq70⟩ : ∃ z, z = (md_emits_c q14 1 0) := ⟨_, rfl⟩
        rw [← eq70] at hmh69
        replace e := ky_letE eq70 e
        refine v_iload_n (i := 59) (j := 1) rfl rfl (?_ : ky_V _ _ _ 121 _ _ _ _)
        refine v_if_lt (tgt := 128) (i := 60) rfl (by decide) (fun c71 => ?_) (fun c71 => ?_)
        · replace e := ky_ifT c71 e
          refine v_iconst (v := 0) (i := 63) rfl (by decide) (?_ : ky_V _ _ _ 129 _ _ _ _)
          refine v_iret (v := 0) (ty := .boolean) (i := 64) rfl rfl (by decide) ?_
          obtain ⟨rfl, rfl⟩ := ky_leaf e
          exact hr _ hmh69 frh69
        · replace e := ky_ifF c71 e
          refine v_iconst (v := 1) (i := 61) rfl (by decide) (?_ : ky_V _ _ _ 125 _ _ _ _)
          refine v_goto (tgt := 129) (i := 62) rfl (by decide) (?_ : ky_V _ _ _ 129 _ _ _ _)
          refine v_iret (v := 1) (ty := .boolean) (i := 64) rfl rfl (by decide) ?_
          obtain ⟨rfl, rfl⟩ := ky_leaf e
          exact hr _ hmh69 frh69
    · replace e := ky_ifF c11 e
      refine v_iconst (v := 0) (i := 21) rfl (by decide) (?_ : ky_V _ _ _ 44 _ _ _ _)
      refine v_goto (tgt := 113) (i := 22) rfl (by decide) (?_ : ky_V _ _ _ 113 _ _ _ _)
      refine v_istore_n (L' := [(0, .ref a), (1, .int 0)]) [1, 0] (i := 54) rfl (Nat.le_of_ble_eq_true rfl) rfl (?_ : ky_V _ _ _ 114 _ _ _ _)
      refine v_aload_n (i := 55) (j := 0) rfl rfl (?_ : ky_V _ _ _ 115 _ _ _ _)
      refine v_iload_n (i := 56) (j := 1) rfl rfl (?_ : ky_V _ _ _ 116 _ _ _ _)
      refine v_iconst (v := 0) (i := 57) rfl (by decide) (?_ : ky_V _ _ _ 117 _ _ _ _)
      obtain ⟨z72, e⟩ := ky_chkE e
      obtain ⟨z73, e⟩ := ky_chkE e
      refine cl_X12_178 (As := [.int 0, .int 0]) rfl (i := 58) rfl (md_0 hmh7) rfl rfl (Nat.le_of_ble_eq_true rfl) (k_X12_emits 0 0 hmh7 (ky_inb z72) (ky_inb z73) (fun h74 hmh74 frh74 => ⟨_, rfl, (?_ : ky_V _ _ _ 120 _ [] _ _)⟩))
      have frh74 := frh7.tr frh74
      obtain ⟨q75, eq75⟩ : ∃ z, z = (md_emits_c q8 0 0) := ⟨_, rfl⟩
      rw [← eq75] at hmh74
      replace e := ky_letE eq75 e
      refine v_iload_n (i := 59) (j := 1) rfl rfl (?_ : ky_V _ _ _ 121 _ _ _ _)
      refine v_if_lt (tgt := 128) (i := 60) rfl (by decide) (fun c76 => ?_) (fun c76 => ?_)
      · replace e := ky_ifT c76 e
        refine v_iconst (v := 0) (i := 63) rfl (by decide) (?_ : ky_V _ _ _ 129 _ _ _ _)
        refine v_iret (v := 0) (ty := .boolean) (i := 64) rfl rfl (by decide) ?_
        obtain ⟨rfl, rfl⟩ := ky_leaf e
        exact hr _ hmh74 frh74
      · replace e := ky_ifF c76 e
        refine v_iconst (v := 1) (i := 61) rfl (by decide) (?_ : ky_V _ _ _ 125 _ _ _ _)
        refine v_goto (tgt := 129) (i := 62) rfl (by decide) (?_ : ky_V _ _ _ 129 _ _ _ _)
        refine v_iret (v := 1) (ty := .boolean) (i := 64) rfl rfl (by decide) ?_
        obtain ⟨rfl, rfl⟩ := ky_leaf e
        exact hr _ hmh74 frh74
  · replace e := ky_ifT c5 e
    refine v_aload_n (i := 7) (j := 0) rfl rfl (?_ : ky_V _ _ _ 16 _ _ _ _)
    refine v_iconst (v := 0) (i := 8) rfl (by decide) (?_ : ky_V _ _ _ 17 _ _ _ _)
    refine v_sipush (v := 999) (i := 9) rfl (by decide) (?_ : ky_V _ _ _ 20 _ _ _ _)
    obtain ⟨⟨q78, x79⟩, g80, e⟩ := Option.bind_eq_some_iff.mp e
    refine cl_X12_109 (As := [.int 0, .int 999]) rfl (i := 10) rfl (md_0 hmh1) rfl rfl (Nat.le_of_ble_eq_true rfl) (k_X12_number N hmh1 g80 (fun h77 hmh77 frh77 => ⟨_, rfl, (?_ : ky_V _ _ _ 23 _ [.int x79] _ _)⟩))
    have frh77 := frh1.tr frh77
    refine v_istore_n (L' := [(0, .ref a), (1, .int x79)]) [1, 0] (i := 11) rfl (Nat.le_of_ble_eq_true rfl) rfl (?_ : ky_V _ _ _ 24 _ _ _ _)
    refine v_aload_n (i := 12) (j := 0) rfl rfl (?_ : ky_V _ _ _ 25 _ _ _ _)
    refine v_bipush (v := 7) (i := 13) rfl (by decide) (?_ : ky_V _ _ _ 27 _ _ _ _)
    refine v_iload_n (i := 14) (j := 1) rfl rfl (?_ : ky_V _ _ _ 28 _ _ _ _)
    obtain ⟨z81, e⟩ := ky_chkE e
    obtain ⟨z82, e⟩ := ky_chkE e
    refine cl_X12_178 (As := [.int 7, .int x79]) rfl (i := 15) rfl (md_0 hmh77) rfl rfl (Nat.le_of_ble_eq_true rfl) (k_X12_emits 7 x79 hmh77 (ky_inb z81) (ky_inb z82) (fun h83 hmh83 frh83 => ⟨_, rfl, (?_ : ky_V _ _ _ 31 _ [] _ _)⟩))
    have frh83 := frh77.tr frh83
    obtain ⟨q84, eq84⟩ : ∃ z, z = (md_emits_c q78 7 x79) := ⟨_, rfl⟩
    rw [← eq84] at hmh83
    replace e := ky_letE eq84 e
    refine v_goto (tgt := 120) (i := 16) rfl (by decide) (?_ : ky_V _ _ _ 120 _ _ _ _)
    refine v_iload_n (i := 59) (j := 1) rfl rfl (?_ : ky_V _ _ _ 121 _ _ _ _)
    refine v_if_lt (tgt := 128) (i := 60) rfl (by decide) (fun c85 => ?_) (fun c85 => ?_)
    · replace e := ky_ifT c85 e
      refine v_iconst (v := 0) (i := 63) rfl (by decide) (?_ : ky_V _ _ _ 129 _ _ _ _)
      refine v_iret (v := 0) (ty := .boolean) (i := 64) rfl rfl (by decide) ?_
      obtain ⟨rfl, rfl⟩ := ky_leaf e
      exact hr _ hmh83 frh83
    · replace e := ky_ifF c85 e
      refine v_iconst (v := 1) (i := 61) rfl (by decide) (?_ : ky_V _ _ _ 125 _ _ _ _)
      refine v_goto (tgt := 129) (i := 62) rfl (by decide) (?_ : ky_V _ _ _ 129 _ _ _ _)
      refine v_iret (v := 1) (ty := .boolean) (i := 64) rfl rfl (by decide) ?_
      obtain ⟨rfl, rfl⟩ := ky_leaf e
      exact hr _ hmh83 frh83

def md_readSum_L9 (N : Nat)   (k : (Nat → Nat → Int32) → Option ((Nat → Nat → Int32) × Int32)) : Nat → (Nat → Nat → Int32) → Option ((Nat → Nat → Int32) × Int32)
  | 0, _ => none
  | n + 1, c => ((md_sign N c 43).bind (fun zz => (fun q2 x3 => (if x3 = 0 then (k q2 ) else ((md_readPart N q2).bind (fun zz => (fun q7 x8 => (if x8 = 0 then (some (q7, 0)) else (if ky_inB (1447 + (2 * (q7 0 16))) 2247 = true then (if ky_inB ((1447 + (2 * ((bk_w q7 1 (Int32.toNatClampNeg (1447 + (2 * (q7 0 16)))) 8) 0 16))) + 1) 2247 = true then (ky_let (md_emits_c q7 8 0) (fun q14 => (md_readSum_L9 N k n q14 ))) else none) else none))) zz.1 zz.2)))) zz.1 zz.2))
set_option maxRecDepth 20000 in
set_option maxHeartbeats 4000000 in
theorem lv_X12_readSum_9 {G : ky_GW} {d : Nat} {h0 : ky_HP} {Q : ky_RS → ky_HP → Prop} {a : Nat} {c9 : (Nat → Nat → Int32)} {r9 : Int32} (N : Nat) (hG : ky_OK G)     (k : (Nat → Nat → Int32) → Option ((Nat → Nat → Int32) × Int32)) (hr : ∀ h1, md_at G h1 a c9 → bk_fr a 13 h0 h1 → Q (.inl (some (.int r9))) h1)
    (hk : ∀ (h : ky_HP) (c : (Nat → Nat → Int32)) , md_at G h a c → bk_fr a 13 h0 h → k c  = some (c9, r9) → ky_V G (d + 6) M_X12_readSum 37 [(0, .ref a)] [] h Q) :
    ∀ (n : Nat) (h : ky_HP) (c : (Nat → Nat → Int32)) , md_at G h a c → bk_fr a 13 h0 h → md_readSum_L9 N  k n c  = some (c9, r9) → ky_V G (d + 6) M_X12_readSum 9 [(0, .ref a)] [] h Q := by
  intro n
  induction n with
  | zero => intro h c  hm fr e; cases e
  | succ n ih =>
    intro h c  hm fr e
    rw [md_readSum_L9] at e
    refine v_aload_n (i := 5) (j := 0) rfl rfl (?_ : ky_V _ _ _ 10 _ _ _ _)
    refine v_bipush (v := 43) (i := 6) rfl (by decide) (?_ : ky_V _ _ _ 12 _ _ _ _)
    obtain ⟨⟨q2, x3⟩, g4, e⟩ := Option.bind_eq_some_iff.mp e
    refine cl_X12_189 (As := [.int 43]) rfl (i := 7) rfl (md_0 hm) rfl rfl (Nat.le_of_ble_eq_true rfl) (k_X12_sign N hm g4 (fun h1 hmh1 frh1 => ⟨_, rfl, (?_ : ky_V _ _ _ 15 _ [.int x3] _ _)⟩))
    have frh1 := fr.tr frh1
    refine v_if_eq (tgt := 37) (i := 8) rfl (by decide) (fun c5 => ?_) (fun c5 => ?_)
    · replace e := ky_ifT c5 e
      exact hk h1 q2  hmh1 frh1 e
    · replace e := ky_ifF c5 e
      refine v_aload_n (i := 9) (j := 0) rfl rfl (?_ : ky_V _ _ _ 19 _ _ _ _)
      obtain ⟨⟨q7, x8⟩, g9, e⟩ := Option.bind_eq_some_iff.mp e
      refine cl_X12_186 (As := []) rfl (i := 10) rfl (md_0 hmh1) rfl rfl (Nat.le_of_ble_eq_true rfl) (k_X12_readPart N hG hmh1 g9 (fun h6 hmh6 frh6 => ⟨_, rfl, (?_ : ky_V _ _ _ 22 _ [.int x8] _ _)⟩))
      have frh6 := frh1.tr frh6
      refine v_if_ne (tgt := 27) (i := 11) rfl (by decide) (fun c10 => ?_) (fun c10 => ?_)
      · replace e := ky_ifF c10 e
        refine v_aload_n (i := 14) (j := 0) rfl rfl (?_ : ky_V _ _ _ 28 _ _ _ _)
        refine v_bipush (v := 8) (i := 15) rfl (by decide) (?_ : ky_V _ _ _ 30 _ _ _ _)
        refine v_iconst (v := 0) (i := 16) rfl (by decide) (?_ : ky_V _ _ _ 31 _ _ _ _)
        obtain ⟨z11, e⟩ := ky_chkE e
        obtain ⟨z12, e⟩ := ky_chkE e
        refine cl_X12_178 (As := [.int 8, .int 0]) rfl (i := 17) rfl (md_0 hmh6) rfl rfl (Nat.le_of_ble_eq_true rfl) (k_X12_emits 8 0 hmh6 (ky_inb z11) (ky_inb z12) (fun h13 hmh13 frh13 => ⟨_, rfl, (?_ : ky_V _ _ _ 34 _ [] _ _)⟩))
        have frh13 := frh6.tr frh13
        obtain ⟨q14, eq14⟩ : ∃ z, z = (md_emits_c q7 8 0) := ⟨_, rfl⟩
        rw [← eq14] at hmh13
        replace e := ky_letE eq14 e
        refine v_goto (tgt := 9) (i := 18) rfl (by decide) (?_ : ky_V _ _ _ 9 _ _ _ _)
        exact ih h13 q14  hmh13 frh13 e
      · replace e := ky_ifT c10 e
        refine v_iconst (v := 0) (i := 12) rfl (by decide) (?_ : ky_V _ _ _ 26 _ _ _ _)
        refine v_iret (v := 0) (ty := .boolean) (i := 13) rfl rfl (by decide) ?_
        obtain ⟨rfl, rfl⟩ := ky_leaf e
        exact hr _ hmh6 frh6

def md_readSum (N : Nat)  (c : (Nat → Nat → Int32))  : Option ((Nat → Nat → Int32) × Int32) := ((md_readPart N c).bind (fun zz => (fun q2 x3 => (if x3 = 0 then (some (q2, 0)) else (md_readSum_L9 N (fun q7 => (some (q7, 1))) N q2))) zz.1 zz.2))
set_option maxRecDepth 20000 in
set_option maxHeartbeats 4000000 in
theorem k_X12_readSum {G : ky_GW} {d : Nat} {h : ky_HP} {Q : ky_RS → ky_HP → Prop} {a : Nat} {c c9 : (Nat → Nat → Int32)} {r9 : Int32}  (N : Nat) (hG : ky_OK G)   (hm : md_at G h a c)  (e : md_readSum N  c = some (c9, r9)) (hr : ∀ h1, md_at G h1 a c9 → bk_fr a 13 h h1 → Q (.inl (some (.int r9))) h1) : ky_Call G (d + 6) M_X12_readSum [.ref a] h Q := by
  refine ky_ofV (by decide +kernel) rfl ok_X12_readSum (Nat.le_of_ble_eq_true rfl) ?_
  have fr : bk_fr a 13 h h := bk_fr.rf
  unfold md_readSum at e
  refine (?_ : ky_V _ _ _ 0 [(0, .ref a)] [] _ _)
  refine v_aload_n (i := 0) (j := 0) rfl rfl (?_ : ky_V _ _ _ 1 _ _ _ _)
  obtain ⟨⟨q2, x3⟩, g4, e⟩ := Option.bind_eq_some_iff.mp e
  refine cl_X12_186 (As := []) rfl (i := 1) rfl (md_0 hm) rfl rfl (Nat.le_of_ble_eq_true rfl) (k_X12_readPart N hG hm g4 (fun h1 hmh1 frh1 => ⟨_, rfl, (?_ : ky_V _ _ _ 4 _ [.int x3] _ _)⟩))
  have frh1 := fr.tr frh1
  refine v_if_ne (tgt := 9) (i := 2) rfl (by decide) (fun c5 => ?_) (fun c5 => ?_)
  · replace e := ky_ifF c5 e
    refine lv_X12_readSum_9 N hG _ hr (fun h6 q7  hmh6 frh6 e => ?_) N h1 q2  hmh1 frh1 e
    refine v_iconst (v := 1) (i := 19) rfl (by decide) (?_ : ky_V _ _ _ 38 _ _ _ _)
    refine v_iret (v := 1) (ty := .boolean) (i := 20) rfl rfl (by decide) ?_
    obtain ⟨rfl, rfl⟩ := ky_leaf e
    exact hr _ hmh6 frh6
  · replace e := ky_ifT c5 e
    refine v_iconst (v := 0) (i := 3) rfl (by decide) (?_ : ky_V _ _ _ 8 _ _ _ _)
    refine v_iret (v := 0) (ty := .boolean) (i := 4) rfl rfl (by decide) ?_
    obtain ⟨rfl, rfl⟩ := ky_leaf e
    exact hr _ hmh1 frh1

def md_readAllOf_L9 (N : Nat) (A : (Nat → Nat → Int32) → Option ((Nat → Nat → Int32) × Int32))  (k : (Nat → Nat → Int32) → Option ((Nat → Nat → Int32) × Int32)) : Nat → (Nat → Nat → Int32) → Option ((Nat → Nat → Int32) × Int32)
  | 0, _ => none
  | n + 1, c => ((md_passes N c ([97, 110, 100] : List Int32)).bind (fun zz => (fun q3 x4 => (if x4 = 0 then (k q3 ) else ((A q3).bind (fun zz => (fun q8 x9 => (if x9 = 0 then (some (q8, 0)) else (if ky_inB (1447 + (2 * (q8 0 16))) 2247 = true then (if ky_inB ((1447 + (2 * ((bk_w q8 1 (Int32.toNatClampNeg (1447 + (2 * (q8 0 16)))) 12) 0 16))) + 1) 2247 = true then (ky_let (md_emits_c q8 12 0) (fun q15 => (md_readAllOf_L9 N A k n q15 ))) else none) else none))) zz.1 zz.2)))) zz.1 zz.2))
set_option maxRecDepth 20000 in
set_option maxHeartbeats 4000000 in
theorem lv_X12_readAllOf_9 {G : ky_GW} {d : Nat} {h0 : ky_HP} {Q : ky_RS → ky_HP → Prop} {a : Nat} {c9 : (Nat → Nat → Int32)} {r9 : Int32} (N : Nat) (hG : ky_OK G) (A : (Nat → Nat → Int32) → Option ((Nat → Nat → Int32) × Int32))  (hA : ∀ (h : ky_HP) (c c9 : (Nat → Nat → Int32)) (r9 : Int32) (Q : ky_RS → ky_HP → Prop), md_at G h a c → A c = some (c9, r9) → (∀ h1, md_at G h1 a c9 → bk_fr a 13 h h1 → Q (.inl (some (.int r9))) h1) → ky_Call G (d + 20) M_X12_readAtom [.ref a] h Q)  (k : (Nat → Nat → Int32) → Option ((Nat → Nat → Int32) × Int32)) (hr : ∀ h1, md_at G h1 a c9 → bk_fr a 13 h0 h1 → Q (.inl (some (.int r9))) h1)
    (hk : ∀ (h : ky_HP) (c : (Nat → Nat → Int32)) , md_at G h a c → bk_fr a 13 h0 h → k c  = some (c9, r9) → ky_V G (d + 21) M_X12_readAllOf 37 [(0, .ref a)] [] h Q) :
    ∀ (n : Nat) (h : ky_HP) (c : (Nat → Nat → Int32)) , md_at G h a c → bk_fr a 13 h0 h → md_readAllOf_L9 N A k n c  = some (c9, r9) → ky_V G (d + 21) M_X12_readAllOf 9 [(0, .ref a)] [] h Q := by
  intro n
  induction n with
  | zero => intro h c  hm fr e; cases e
  | succ n ih =>
    intro h c  hm fr e
    rw [md_readAllOf_L9] at e
    refine v_aload_n (i := 5) (j := 0) rfl rfl (?_ : ky_V _ _ _ 10 _ _ _ _)
    obtain ⟨s1, hvs1, hss1⟩ := sg_X12_211 hG
    refine v_ldcS (i := 6) hvs1 rfl (?_ : ky_V _ _ _ 12 _ _ _ _)
    obtain ⟨⟨q3, x4⟩, g5, e⟩ := Option.bind_eq_some_iff.mp e
    refine cl_X12_200 (As := [.ref s1]) rfl (i := 7) rfl (md_0 hm) rfl rfl (Nat.le_of_ble_eq_true rfl) (k_X12_passes N hG hm hss1 g5 (fun h2 hmh2 frh2 => ⟨_, rfl, (?_ : ky_V _ _ _ 15 _ [.int x4] _ _)⟩))
    have frh2 := fr.tr frh2
    refine v_if_eq (tgt := 37) (i := 8) rfl (by decide) (fun c6 => ?_) (fun c6 => ?_)
    · replace e := ky_ifT c6 e
      exact hk h2 q3  hmh2 frh2 e
    · replace e := ky_ifF c6 e
      refine v_aload_n (i := 9) (j := 0) rfl rfl (?_ : ky_V _ _ _ 19 _ _ _ _)
      obtain ⟨⟨q8, x9⟩, g10, e⟩ := Option.bind_eq_some_iff.mp e
      refine cl_X12_203 (As := []) rfl (i := 10) rfl (md_0 hmh2) rfl rfl (Nat.le_of_ble_eq_true rfl) (hA _ _ _ _ _ hmh2 g10 (fun h7 hmh7 frh7 => ⟨_, rfl, (?_ : ky_V _ _ _ 22 _ [.int x9] _ _)⟩))
      have frh7 := frh2.tr frh7
      refine v_if_ne (tgt := 27) (i := 11) rfl (by decide) (fun c11 => ?_) (fun c11 => ?_)
      · replace e := ky_ifF c11 e
        refine v_aload_n (i := 14) (j := 0) rfl rfl (?_ : ky_V _ _ _ 28 _ _ _ _)
        refine v_bipush (v := 12) (i := 15) rfl (by decide) (?_ : ky_V _ _ _ 30 _ _ _ _)
        refine v_iconst (v := 0) (i := 16) rfl (by decide) (?_ : ky_V _ _ _ 31 _ _ _ _)
        obtain ⟨z12, e⟩ := ky_chkE e
        obtain ⟨z13, e⟩ := ky_chkE e
        refine cl_X12_178 (As := [.int 12, .int 0]) rfl (i := 17) rfl (md_0 hmh7) rfl rfl (Nat.le_of_ble_eq_true rfl) (k_X12_emits 12 0 hmh7 (ky_inb z12) (ky_inb z13) (fun h14 hmh14 frh14 => ⟨_, rfl, (?_ : ky_V _ _ _ 34 _ [] _ _)⟩))
        have frh14 := frh7.tr frh14
        obtain ⟨q15, eq15⟩ : ∃ z, z = (md_emits_c q8 12 0) := ⟨_, rfl⟩
        rw [← eq15] at hmh14
        replace e := ky_letE eq15 e
        refine v_goto (tgt := 9) (i := 18) rfl (by decide) (?_ : ky_V _ _ _ 9 _ _ _ _)
        exact ih h14 q15  hmh14 frh14 e
      · replace e := ky_ifT c11 e
        refine v_iconst (v := 0) (i := 12) rfl (by decide) (?_ : ky_V _ _ _ 26 _ _ _ _)
        refine v_iret (v := 0) (ty := .boolean) (i := 13) rfl rfl (by decide) ?_
        obtain ⟨rfl, rfl⟩ := ky_leaf e
        exact hr _ hmh7 frh7

def md_readAllOf (N : Nat) (A : (Nat → Nat → Int32) → Option ((Nat → Nat → Int32) × Int32)) (c : (Nat → Nat → Int32))  : Option ((Nat → Nat → Int32) × Int32) := ((A c).bind (fun zz => (fun q2 x3 => (if x3 = 0 then (some (q2, 0)) else (md_readAllOf_L9 N A (fun q7 => (some (q7, 1))) N q2))) zz.1 zz.2))
set_option maxRecDepth 20000 in
set_option maxHeartbeats 4000000 in
theorem k_X12_readAllOf {G : ky_GW} {d : Nat} {h : ky_HP} {Q : ky_RS → ky_HP → Prop} {a : Nat} {c c9 : (Nat → Nat → Int32)} {r9 : Int32}  (N : Nat) (hG : ky_OK G) (A : (Nat → Nat → Int32) → Option ((Nat → Nat → Int32) × Int32)) (hA : ∀ (h : ky_HP) (c c9 : (Nat → Nat → Int32)) (r9 : Int32) (Q : ky_RS → ky_HP → Prop), md_at G h a c → A c = some (c9, r9) → (∀ h1, md_at G h1 a c9 → bk_fr a 13 h h1 → Q (.inl (some (.int r9))) h1) → ky_Call G (d + 20) M_X12_readAtom [.ref a] h Q) (hm : md_at G h a c)  (e : md_readAllOf N A c = some (c9, r9)) (hr : ∀ h1, md_at G h1 a c9 → bk_fr a 13 h h1 → Q (.inl (some (.int r9))) h1) : ky_Call G (d + 21) M_X12_readAllOf [.ref a] h Q := by
  refine ky_ofV (by decide +kernel) rfl ok_X12_readAllOf (Nat.le_of_ble_eq_true rfl) ?_
  have fr : bk_fr a 13 h h := bk_fr.rf
  unfold md_readAllOf at e
  refine (?_ : ky_V _ _ _ 0 [(0, .ref a)] [] _ _)
  refine v_aload_n (i := 0) (j := 0) rfl rfl (?_ : ky_V _ _ _ 1 _ _ _ _)
  obtain ⟨⟨q2, x3⟩, g4, e⟩ := Option.bind_eq_some_iff.mp e
  refine cl_X12_203 (As := []) rfl (i := 1) rfl (md_0 hm) rfl rfl (Nat.le_of_ble_eq_true rfl) (hA _ _ _ _ _ hm g4 (fun h1 hmh1 frh1 => ⟨_, rfl, (?_ : ky_V _ _ _ 4 _ [.int x3] _ _)⟩))
  have frh1 := fr.tr frh1
  refine v_if_ne (tgt := 9) (i := 2) rfl (by decide) (fun c5 => ?_) (fun c5 => ?_)
  · replace e := ky_ifF c5 e
    refine lv_X12_readAllOf_9 N hG A hA _ hr (fun h6 q7  hmh6 frh6 e => ?_) N h1 q2  hmh1 frh1 e
    refine v_iconst (v := 1) (i := 19) rfl (by decide) (?_ : ky_V _ _ _ 38 _ _ _ _)
    refine v_iret (v := 1) (ty := .boolean) (i := 20) rfl rfl (by decide) ?_
    obtain ⟨rfl, rfl⟩ := ky_leaf e
    exact hr _ hmh6 frh6
  · replace e := ky_ifT c5 e
    refine v_iconst (v := 0) (i := 3) rfl (by decide) (?_ : ky_V _ _ _ 8 _ _ _ _)
    refine v_iret (v := 0) (ty := .boolean) (i := 4) rfl rfl (by decide) ?_
    obtain ⟨rfl, rfl⟩ := ky_leaf e
    exact hr _ hmh1 frh1

def md_readCond_L9 (N : Nat) (A : (Nat → Nat → Int32) → Option ((Nat → Nat → Int32) × Int32))  (k : (Nat → Nat → Int32) → Option ((Nat → Nat → Int32) × Int32)) : Nat → (Nat → Nat → Int32) → Option ((Nat → Nat → Int32) × Int32)
  | 0, _ => none
  | n + 1, c => ((md_passes N c ([111, 114] : List Int32)).bind (fun zz => (fun q3 x4 => (if x4 = 0 then (k q3 ) else ((md_readAllOf N A q3).bind (fun zz => (fun q8 x9 => (if x9 = 0 then (some (q8, 0)) else (if ky_inB (1447 + (2 * (q8 0 16))) 2247 = true then (if ky_inB ((1447 + (2 * ((bk_w q8 1 (Int32.toNatClampNeg (1447 + (2 * (q8 0 16)))) 13) 0 16))) + 1) 2247 = true then (ky_let (md_emits_c q8 13 0) (fun q15 => (md_readCond_L9 N A k n q15 ))) else none) else none))) zz.1 zz.2)))) zz.1 zz.2))
set_option maxRecDepth 20000 in
set_option maxHeartbeats 4000000 in
theorem lv_X12_readCond_9 {G : ky_GW} {d : Nat} {h0 : ky_HP} {Q : ky_RS → ky_HP → Prop} {a : Nat} {c9 : (Nat → Nat → Int32)} {r9 : Int32} (N : Nat) (hG : ky_OK G) (A : (Nat → Nat → Int32) → Option ((Nat → Nat → Int32) × Int32))  (hA : ∀ (h : ky_HP) (c c9 : (Nat → Nat → Int32)) (r9 : Int32) (Q : ky_RS → ky_HP → Prop), md_at G h a c → A c = some (c9, r9) → (∀ h1, md_at G h1 a c9 → bk_fr a 13 h h1 → Q (.inl (some (.int r9))) h1) → ky_Call G (d + 20) M_X12_readAtom [.ref a] h Q)  (k : (Nat → Nat → Int32) → Option ((Nat → Nat → Int32) × Int32)) (hr : ∀ h1, md_at G h1 a c9 → bk_fr a 13 h0 h1 → Q (.inl (some (.int r9))) h1)
    (hk : ∀ (h : ky_HP) (c : (Nat → Nat → Int32)) , md_at G h a c → bk_fr a 13 h0 h → k c  = some (c9, r9) → ky_V G (d + 22) M_X12_readCond 37 [(0, .ref a)] [] h Q) :
    ∀ (n : Nat) (h : ky_HP) (c : (Nat → Nat → Int32)) , md_at G h a c → bk_fr a 13 h0 h → md_readCond_L9 N A k n c  = some (c9, r9) → ky_V G (d + 22) M_X12_readCond 9 [(0, .ref a)] [] h Q := by
  intro n
  induction n with
  | zero => intro h c  hm fr e; cases e
  | succ n ih =>
    intro h c  hm fr e
    rw [md_readCond_L9] at e
    refine v_aload_n (i := 5) (j := 0) rfl rfl (?_ : ky_V _ _ _ 10 _ _ _ _)
    obtain ⟨s1, hvs1, hss1⟩ := sg_X12_216 hG
    refine v_ldcS (i := 6) hvs1 rfl (?_ : ky_V _ _ _ 12 _ _ _ _)
    obtain ⟨⟨q3, x4⟩, g5, e⟩ := Option.bind_eq_some_iff.mp e
    refine cl_X12_200 (As := [.ref s1]) rfl (i := 7) rfl (md_0 hm) rfl rfl (Nat.le_of_ble_eq_true rfl) (k_X12_passes N hG hm hss1 g5 (fun h2 hmh2 frh2 => ⟨_, rfl, (?_ : ky_V _ _ _ 15 _ [.int x4] _ _)⟩))
    have frh2 := fr.tr frh2
    refine v_if_eq (tgt := 37) (i := 8) rfl (by decide) (fun c6 => ?_) (fun c6 => ?_)
    · replace e := ky_ifT c6 e
      exact hk h2 q3  hmh2 frh2 e
    · replace e := ky_ifF c6 e
      refine v_aload_n (i := 9) (j := 0) rfl rfl (?_ : ky_V _ _ _ 19 _ _ _ _)
      obtain ⟨⟨q8, x9⟩, g10, e⟩ := Option.bind_eq_some_iff.mp e
      refine cl_X12_213 (As := []) rfl (i := 10) rfl (md_0 hmh2) rfl rfl (Nat.le_of_ble_eq_true rfl) (k_X12_readAllOf N hG A hA hmh2 g10 (fun h7 hmh7 frh7 => ⟨_, rfl, (?_ : ky_V _ _ _ 22 _ [.int x9] _ _)⟩))
      have frh7 := frh2.tr frh7
      refine v_if_ne (tgt := 27) (i := 11) rfl (by decide) (fun c11 => ?_) (fun c11 => ?_)
      · replace e := ky_ifF c11 e
        refine v_aload_n (i := 14) (j := 0) rfl rfl (?_ : ky_V _ _ _ 28 _ _ _ _)
        refine v_bipush (v := 13) (i := 15) rfl (by decide) (?_ : ky_V _ _ _ 30 _ _ _ _)
        refine v_iconst (v := 0) (i := 16) rfl (by decide) (?_ : ky_V _ _ _ 31 _ _ _ _)
        obtain ⟨z12, e⟩ := ky_chkE e
        obtain ⟨z13, e⟩ := ky_chkE e
        refine cl_X12_178 (As := [.int 13, .int 0]) rfl (i := 17) rfl (md_0 hmh7) rfl rfl (Nat.le_of_ble_eq_true rfl) (k_X12_emits 13 0 hmh7 (ky_inb z12) (ky_inb z13) (fun h14 hmh14 frh14 => ⟨_, rfl, (?_ : ky_V _ _ _ 34 _ [] _ _)⟩))
        have frh14 := frh7.tr frh14
        obtain ⟨q15, eq15⟩ : ∃ z, z = (md_emits_c q8 13 0) := ⟨_, rfl⟩
        rw [← eq15] at hmh14
        replace e := ky_letE eq15 e
        refine v_goto (tgt := 9) (i := 18) rfl (by decide) (?_ : ky_V _ _ _ 9 _ _ _ _)
        exact ih h14 q15  hmh14 frh14 e
      · replace e := ky_ifT c11 e
        refine v_iconst (v := 0) (i := 12) rfl (by decide) (?_ : ky_V _ _ _ 26 _ _ _ _)
        refine v_iret (v := 0) (ty := .boolean) (i := 13) rfl rfl (by decide) ?_
        obtain ⟨rfl, rfl⟩ := ky_leaf e
        exact hr _ hmh7 frh7

def md_readCond (N : Nat) (A : (Nat → Nat → Int32) → Option ((Nat → Nat → Int32) × Int32)) (c : (Nat → Nat → Int32))  : Option ((Nat → Nat → Int32) × Int32) := ((md_readAllOf N A c).bind (fun zz => (fun q2 x3 => (if x3 = 0 then (some (q2, 0)) else (md_readCond_L9 N A (fun q7 => (some (q7, 1))) N q2))) zz.1 zz.2))
set_option maxRecDepth 20000 in
set_option maxHeartbeats 4000000 in
theorem k_X12_readCond {G : ky_GW} {d : Nat} {h : ky_HP} {Q : ky_RS → ky_HP → Prop} {a : Nat} {c c9 : (Nat → Nat → Int32)} {r9 : Int32}  (N : Nat) (hG : ky_OK G) (A : (Nat → Nat → Int32) → Option ((Nat → Nat → Int32) × Int32)) (hA : ∀ (h : ky_HP) (c c9 : (Nat → Nat → Int32)) (r9 : Int32) (Q : ky_RS → ky_HP → Prop), md_at G h a c → A c = some (c9, r9) → (∀ h1, md_at G h1 a c9 → bk_fr a 13 h h1 → Q (.inl (some (.int r9))) h1) → ky_Call G (d + 20) M_X12_readAtom [.ref a] h Q) (hm : md_at G h a c)  (e : md_readCond N A c = some (c9, r9)) (hr : ∀ h1, md_at G h1 a c9 → bk_fr a 13 h h1 → Q (.inl (some (.int r9))) h1) : ky_Call G (d + 22) M_X12_readCond [.ref a] h Q := by
  refine ky_ofV (by decide +kernel) rfl ok_X12_readCond (Nat.le_of_ble_eq_true rfl) ?_
  have fr : bk_fr a 13 h h := bk_fr.rf
  unfold md_readCond at e
  refine (?_ : ky_V _ _ _ 0 [(0, .ref a)] [] _ _)
  refine v_aload_n (i := 0) (j := 0) rfl rfl (?_ : ky_V _ _ _ 1 _ _ _ _)
  obtain ⟨⟨q2, x3⟩, g4, e⟩ := Option.bind_eq_some_iff.mp e
  refine cl_X12_213 (As := []) rfl (i := 1) rfl (md_0 hm) rfl rfl (Nat.le_of_ble_eq_true rfl) (k_X12_readAllOf N hG A hA hm g4 (fun h1 hmh1 frh1 => ⟨_, rfl, (?_ : ky_V _ _ _ 4 _ [.int x3] _ _)⟩))
  have frh1 := fr.tr frh1
  refine v_if_ne (tgt := 9) (i := 2) rfl (by decide) (fun c5 => ?_) (fun c5 => ?_)
  · replace e := ky_ifF c5 e
    refine lv_X12_readCond_9 N hG A hA _ hr (fun h6 q7  hmh6 frh6 e => ?_) N h1 q2  hmh1 frh1 e
    refine v_iconst (v := 1) (i := 19) rfl (by decide) (?_ : ky_V _ _ _ 38 _ _ _ _)
    refine v_iret (v := 1) (ty := .boolean) (i := 20) rfl rfl (by decide) ?_
    obtain ⟨rfl, rfl⟩ := ky_leaf e
    exact hr _ hmh6 frh6
  · replace e := ky_ifT c5 e
    refine v_iconst (v := 0) (i := 3) rfl (by decide) (?_ : ky_V _ _ _ 8 _ _ _ _)
    refine v_iret (v := 0) (ty := .boolean) (i := 4) rfl rfl (by decide) ?_
    obtain ⟨rfl, rfl⟩ := ky_leaf e
    exact hr _ hmh1 frh1

def md_readAtom (N : Nat) : Nat → (Nat → Nat → Int32) → Option ((Nat → Nat → Int32) × Int32)
  | 0, _ => none
  | n + 1, c => ((md_sign N c 40).bind (fun zz => (fun q2 x3 => (if x3 = 0 then ((md_passes N q2 ([110, 111, 116] : List Int32)).bind (fun zz => (fun q8 x9 => (if x9 = 0 then ((md_passes N q8 ([108, 121, 105, 110, 103] : List Int32)).bind (fun zz => (fun q14 x15 => (if x15 = 0 then ((md_readSum N q14).bind (fun zz => (fun q19 x20 => (if x20 = 0 then (some (q19, 0)) else ((md_sign N q19 60).bind (fun zz => (fun q24 x25 => (if x25 = 0 then ((md_sign N q24 62).bind (fun zz => (fun q43 x44 => (if x44 = 0 then (some (q43, 0)) else ((md_readSum N q43).bind (fun zz => (fun q48 x49 => (if x49 = 0 then (some (q48, 0)) else (if x25 = 0 then (if ky_inB (1447 + (2 * (q48 0 16))) 2247 = true then (if ky_inB ((1447 + (2 * ((bk_w q48 1 (Int32.toNatClampNeg (1447 + (2 * (q48 0 16)))) 10) 0 16))) + 1) 2247 = true then (ky_let (md_emits_c q48 10 0) (fun q56 => (some (q56, 1)))) else none) else none) else (if ky_inB (1447 + (2 * (q48 0 16))) 2247 = true then (if ky_inB ((1447 + (2 * ((bk_w q48 1 (Int32.toNatClampNeg (1447 + (2 * (q48 0 16)))) 9) 0 16))) + 1) 2247 = true then (ky_let (md_emits_c q48 9 0) (fun q60 => (some (q60, 1)))) else none) else none)))) zz.1 zz.2)))) zz.1 zz.2)) else ((md_readSum N q24).bind (fun zz => (fun q29 x30 => (if x30 = 0 then (some (q29, 0)) else (if x25 = 0 then (if ky_inB (1447 + (2 * (q29 0 16))) 2247 = true then (if ky_inB ((1447 + (2 * ((bk_w q29 1 (Int32.toNatClampNeg (1447 + (2 * (q29 0 16)))) 10) 0 16))) + 1) 2247 = true then (ky_let (md_emits_c q29 10 0) (fun q37 => (some (q37, 1)))) else none) else none) else (if ky_inB (1447 + (2 * (q29 0 16))) 2247 = true then (if ky_inB ((1447 + (2 * ((bk_w q29 1 (Int32.toNatClampNeg (1447 + (2 * (q29 0 16)))) 9) 0 16))) + 1) 2247 = true then (ky_let (md_emits_c q29 9 0) (fun q41 => (some (q41, 1)))) else none) else none)))) zz.1 zz.2)))) zz.1 zz.2)))) zz.1 zz.2)) else (if ky_inB (1447 + (2 * (q14 0 16))) 2247 = true then (if ky_inB ((1447 + (2 * ((bk_w q14 1 (Int32.toNatClampNeg (1447 + (2 * (q14 0 16)))) 6) 0 16))) + 1) 2247 = true then (ky_let (md_emits_c q14 6 0) (fun q64 => (some (q64, 1)))) else none) else none))) zz.1 zz.2)) else (if (q8 0 13) = (6 : Int32) then (some (q8, 0)) else (ky_let ((q8 0 13) + 1) (fun x66 => (ky_let (bk_w q8 0 13 x66) (fun q68 => ((md_readAtom N n q68).bind (fun zz => (fun q70 x71 => (if x71 = 0 then (some (q70, 0)) else (ky_let ((q70 0 13) - 1) (fun x74 => (ky_let (bk_w q70 0 13 x74) (fun q76 => (if ky_inB (1447 + (2 * (q76 0 16))) 2247 = true then (if ky_inB ((1447 + (2 * ((bk_w q76 1 (Int32.toNatClampNeg (1447 + (2 * (q76 0 16)))) 11) 0 16))) + 1) 2247 = true then (ky_let (md_emits_c q76 11 0) (fun q80 => (some (q80, 1)))) else none) else none))))))) zz.1 zz.2))))))))) zz.1 zz.2)) else (if (q2 0 13) = (6 : Int32) then (some (q2, 0)) else (ky_let ((q2 0 13) + 1) (fun x82 => (ky_let (bk_w q2 0 13 x82) (fun q84 => ((md_readCond N (md_readAtom N n) q84).bind (fun zz => (fun q86 x87 => (if x87 = 0 then (some (q86, 0)) else (ky_let ((q86 0 13) - 1) (fun x90 => (ky_let (bk_w q86 0 13 x90) (fun q92 => ((md_sign N q92 41).bind (fun zz => (fun q94 x95 => (if (x95 = 0 ∨ x95 = 1) then (some (q94, x95)) else none)) zz.1 zz.2)))))))) zz.1 zz.2))))))))) zz.1 zz.2))
set_option maxRecDepth 20000 in
set_option maxHeartbeats 4000000 in
theorem k_X12_readAtom {G : ky_GW} {a : Nat} (N : Nat) (hG : ky_OK G) : ∀ (n D : Nat), 3 * n + 20 ≤ D → ∀ (h : ky_HP) (c c9 : (Nat → Nat → Int32)) (r9 : Int32) (Q : ky_RS → ky_HP → Prop), md_at G h a c → md_readAtom N n c = some (c9, r9) → (∀ h1, md_at G h1 a c9 → bk_fr a 13 h h1 → Q (.inl (some (.int r9))) h1) → ky_Call G D M_X12_readAtom [.ref a] h Q := by
  intro n
  induction n with
  | zero => intro D hD h c c9 r9 Q hm e hr; cases e
  | succ n ih =>
    intro D hD h c c9 r9 Q hm e hr
    obtain ⟨d, rfl⟩ : ∃ z, D = z + 23 := ⟨D - 23, by omega⟩
    have ihA := ih (d + 22) (by omega)
    have ihB := ih (d + 20) (by omega)
    refine ky_ofV (by decide +kernel) rfl ok_X12_readAtom (Nat.le_of_ble_eq_true rfl) ?_
    have fr : bk_fr a 13 h h := bk_fr.rf
    rw [md_readAtom] at e
    refine (?_ : ky_V _ _ _ 0 [(0, .ref a)] [] _ _)
    refine v_aload_n (i := 0) (j := 0) rfl rfl (?_ : ky_V _ _ _ 1 _ _ _ _)
    refine v_bipush (v := 40) (i := 1) rfl (by decide) (?_ : ky_V _ _ _ 3 _ _ _ _)
    obtain ⟨⟨q2, x3⟩, g4, e⟩ := Option.bind_eq_some_iff.mp e
    refine cl_X12_189 (As := [.int 40]) rfl (i := 2) rfl (md_0 hm) rfl rfl (Nat.le_of_ble_eq_true rfl) (k_X12_sign N hm g4 (fun h1 hmh1 frh1 => ⟨_, rfl, (?_ : ky_V _ _ _ 6 _ [.int x3] _ _)⟩))
    have frh1 := fr.tr frh1
    refine v_if_eq (tgt := 56) (i := 3) rfl (by decide) (fun c5 => ?_) (fun c5 => ?_)
    · replace e := ky_ifT c5 e
      refine v_aload_n (i := 31) (j := 0) rfl rfl (?_ : ky_V _ _ _ 57 _ _ _ _)
      obtain ⟨s6, hvs6, hss6⟩ := sg_X12_198 hG
      refine v_ldcS (i := 32) hvs6 rfl (?_ : ky_V _ _ _ 59 _ _ _ _)
      obtain ⟨⟨q8, x9⟩, g10, e⟩ := Option.bind_eq_some_iff.mp e
      refine cl_X12_200 (As := [.ref s6]) rfl (i := 33) rfl (md_0 hmh1) rfl rfl (Nat.le_of_ble_eq_true rfl) (k_X12_passes N hG hmh1 hss6 g10 (fun h7 hmh7 frh7 => ⟨_, rfl, (?_ : ky_V _ _ _ 62 _ [.int x9] _ _)⟩))
      have frh7 := frh1.tr frh7
      refine v_if_eq (tgt := 114) (i := 34) rfl (by decide) (fun c11 => ?_) (fun c11 => ?_)
      · replace e := ky_ifT c11 e
        refine v_aload_n (i := 64) (j := 0) rfl rfl (?_ : ky_V _ _ _ 115 _ _ _ _)
        obtain ⟨s12, hvs12, hss12⟩ := sg_X12_206 hG
        refine v_ldcS (i := 65) hvs12 rfl (?_ : ky_V _ _ _ 117 _ _ _ _)
        obtain ⟨⟨q14, x15⟩, g16, e⟩ := Option.bind_eq_some_iff.mp e
        refine cl_X12_200 (As := [.ref s12]) rfl (i := 66) rfl (md_0 hmh7) rfl rfl (Nat.le_of_ble_eq_true rfl) (k_X12_passes N hG hmh7 hss12 g16 (fun h13 hmh13 frh13 => ⟨_, rfl, (?_ : ky_V _ _ _ 120 _ [.int x15] _ _)⟩))
        have frh13 := frh7.tr frh13
        refine v_if_eq (tgt := 132) (i := 67) rfl (by decide) (fun c17 => ?_) (fun c17 => ?_)
        · replace e := ky_ifT c17 e
          refine v_aload_n (i := 74) (j := 0) rfl rfl (?_ : ky_V _ _ _ 133 _ _ _ _)
          obtain ⟨⟨q19, x20⟩, g21, e⟩ := Option.bind_eq_some_iff.mp e
          refine cl_X12_208 (As := []) rfl (i := 75) rfl (md_0 hmh13) rfl rfl (Nat.le_of_ble_eq_true rfl) (k_X12_readSum N hG hmh13 g21 (fun h18 hmh18 frh18 => ⟨_, rfl, (?_ : ky_V _ _ _ 136 _ [.int x20] _ _)⟩))
          have frh18 := frh13.tr frh18
          refine v_if_ne (tgt := 141) (i := 76) rfl (by decide) (fun c22 => ?_) (fun c22 => ?_)
          · replace e := ky_ifF c22 e
            refine v_aload_n (i := 79) (j := 0) rfl rfl (?_ : ky_V _ _ _ 142 _ _ _ _)
            refine v_bipush (v := 60) (i := 80) rfl (by decide) (?_ : ky_V _ _ _ 144 _ _ _ _)
            obtain ⟨⟨q24, x25⟩, g26, e⟩ := Option.bind_eq_some_iff.mp e
            refine cl_X12_189 (As := [.int 60]) rfl (i := 81) rfl (md_0 hmh18) rfl rfl (Nat.le_of_ble_eq_true rfl) (k_X12_sign N hmh18 g26 (fun h23 hmh23 frh23 => ⟨_, rfl, (?_ : ky_V _ _ _ 147 _ [.int x25] _ _)⟩))
            have frh23 := frh18.tr frh23
            refine v_istore_n (L' := [(0, .ref a), (1, .int x25)]) [1, 0] (i := 82) rfl (Nat.le_of_ble_eq_true rfl) rfl (?_ : ky_V _ _ _ 148 _ _ _ _)
            refine v_iload_n (i := 83) (j := 1) rfl rfl (?_ : ky_V _ _ _ 149 _ _ _ _)
            refine v_if_ne (tgt := 161) (i := 84) rfl (by decide) (fun c27 => ?_) (fun c27 => ?_)
            · replace e := ky_ifF c27 e
              refine v_aload_n (i := 89) (j := 0) rfl rfl (?_ : ky_V _ _ _ 162 _ _ _ _)
              obtain ⟨⟨q29, x30⟩, g31, e⟩ := Option.bind_eq_some_iff.mp e
              refine cl_X12_208 (As := []) rfl (i := 90) rfl (md_0 hmh23) rfl rfl (Nat.le_of_ble_eq_true rfl) (k_X12_readSum N hG hmh23 g31 (fun h28 hmh28 frh28 => ⟨_, rfl, (?_ : ky_V _ _ _ 165 _ [.int x30] _ _)⟩))
              have frh28 := frh23.tr frh28
              refine v_if_ne (tgt := 170) (i := 91) rfl (by decide) (fun c32 => ?_) (fun c32 => ?_)
              · replace e := ky_ifF c32 e
                refine v_aload_n (i := 94) (j := 0) rfl rfl (?_ : ky_V _ _ _ 171 _ _ _ _)
                refine v_iload_n (i := 95) (j := 1) rfl rfl (?_ : ky_V _ _ _ 172 _ _ _ _)
                refine v_if_eq (tgt := 180) (i := 96) rfl (by decide) (fun c33 => ?_) (fun c33 => ?_)
                · replace e := ky_ifT c33 e
                  refine v_bipush (v := 10) (i := 99) rfl (by decide) (?_ : ky_V _ _ _ 182 _ _ _ _)
                  refine v_iconst (v := 0) (i := 100) rfl (by decide) (?_ : ky_V _ _ _ 183 _ _ _ _)
                  obtain ⟨z34, e⟩ := ky_chkE e
                  obtain ⟨z35, e⟩ := ky_chkE e
                  refine cl_X12_178 (As := [.int 10, .int 0]) rfl (i := 101) rfl (md_0 hmh28) rfl rfl (Nat.le_of_ble_eq_true rfl) (k_X12_emits 10 0 hmh28 (ky_inb z34) (ky_inb z35) (fun h36 hmh36 frh36 => ⟨_, rfl, (?_ : ky_V _ _ _ 186 _ [] _ _)⟩))
                  have frh36 := frh28.tr frh36
                  obtain ⟨q37, eq37⟩ : ∃ z, z = (md_emits_c q29 10 0) := ⟨_, rfl⟩
                  rw [← eq37] at hmh36
                  replace e := ky_letE eq37 e
                  refine v_iconst (v := 1) (i := 102) rfl (by decide) (?_ : ky_V _ _ _ 187 _ _ _ _)
                  refine v_iret (v := 1) (ty := .boolean) (i := 103) rfl rfl (by decide) ?_
                  obtain ⟨rfl, rfl⟩ := ky_leaf e
                  exact hr _ hmh36 frh36
                · replace e := ky_ifF c33 e
                  refine v_bipush (v := 9) (i := 97) rfl (by decide) (?_ : ky_V _ _ _ 177 _ _ _ _)
                  refine v_goto (tgt := 182) (i := 98) rfl (by decide) (?_ : ky_V _ _ _ 182 _ _ _ _)
                  refine v_iconst (v := 0) (i := 100) rfl (by decide) (?_ : ky_V _ _ _ 183 _ _ _ _)
                  obtain ⟨z38, e⟩ := ky_chkE e
                  obtain ⟨z39, e⟩ := ky_chkE e
                  refine cl_X12_178 (As := [.int 9, .int 0]) rfl (i := 101) rfl (md_0 hmh28) rfl rfl (Nat.le_of_ble_eq_true rfl) (k_X12_emits 9 0 hmh28 (ky_inb z38) (ky_inb z39) (fun h40 hmh40 frh40 => ⟨_, rfl, (?_ : ky_V _ _ _ 186 _ [] _ _)⟩))
                  have frh40 := frh28.tr frh40
                  obtain ⟨q41, eq41⟩ : ∃ z, z = (md_emits_c q29 9 0) := ⟨_, rfl⟩
                  rw [← eq41] at hmh40
                  replace e := ky_letE eq41 e
                  refine v_iconst (v := 1) (i := 102) rfl (by decide) (?_ : ky_V _ _ _ 187 _ _ _ _)
                  refine v_iret (v := 1) (ty := .boolean) (i := 103) rfl rfl (by decide) ?_
                  obtain ⟨rfl, rfl⟩ := ky_leaf e
                  exact hr _ hmh40 frh40
              · replace e := ky_ifT c32 e
                refine v_iconst (v := 0) (i := 92) rfl (by decide) (?_ : ky_V _ _ _ 169 _ _ _ _)
                refine v_iret (v := 0) (ty := .boolean) (i := 93) rfl rfl (by decide) ?_
                obtain ⟨rfl, rfl⟩ := ky_leaf e
                exact hr _ hmh28 frh28
            · replace e := ky_ifT c27 e
              refine v_aload_n (i := 85) (j := 0) rfl rfl (?_ : ky_V _ _ _ 153 _ _ _ _)
              refine v_bipush (v := 62) (i := 86) rfl (by decide) (?_ : ky_V _ _ _ 155 _ _ _ _)
              obtain ⟨⟨q43, x44⟩, g45, e⟩ := Option.bind_eq_some_iff.mp e
              refine cl_X12_189 (As := [.int 62]) rfl (i := 87) rfl (md_0 hmh23) rfl rfl (Nat.le_of_ble_eq_true rfl) (k_X12_sign N hmh23 g45 (fun h42 hmh42 frh42 => ⟨_, rfl, (?_ : ky_V _ _ _ 158 _ [.int x44] _ _)⟩))
              have frh42 := frh23.tr frh42
              refine v_if_eq (tgt := 168) (i := 88) rfl (by decide) (fun c46 => ?_) (fun c46 => ?_)
              · replace e := ky_ifT c46 e
                refine v_iconst (v := 0) (i := 92) rfl (by decide) (?_ : ky_V _ _ _ 169 _ _ _ _)
                refine v_iret (v := 0) (ty := .boolean) (i := 93) rfl rfl (by decide) ?_
                obtain ⟨rfl, rfl⟩ := ky_leaf e
                exact hr _ hmh42 frh42
              · replace e := ky_ifF c46 e
                refine v_aload_n (i := 89) (j := 0) rfl rfl (?_ : ky_V _ _ _ 162 _ _ _ _)
                obtain ⟨⟨q48, x49⟩, g50, e⟩ := Option.bind_eq_some_iff.mp e
                refine cl_X12_208 (As := []) rfl (i := 90) rfl (md_0 hmh42) rfl rfl (Nat.le_of_ble_eq_true rfl) (k_X12_readSum N hG hmh42 g50 (fun h47 hmh47 frh47 => ⟨_, rfl, (?_ : ky_V _ _ _ 165 _ [.int x49] _ _)⟩))
                have frh47 := frh42.tr frh47
                refine v_if_ne (tgt := 170) (i := 91) rfl (by decide) (fun c51 => ?_) (fun c51 => ?_)
                · replace e := ky_ifF c51 e
                  refine v_aload_n (i := 94) (j := 0) rfl rfl (?_ : ky_V _ _ _ 171 _ _ _ _)
                  refine v_iload_n (i := 95) (j := 1) rfl rfl (?_ : ky_V _ _ _ 172 _ _ _ _)
                  refine v_if_eq (tgt := 180) (i := 96) rfl (by decide) (fun c52 => ?_) (fun c52 => ?_)
                  · replace e := ky_ifT c52 e
                    refine v_bipush (v := 10) (i := 99) rfl (by decide) (?_ : ky_V _ _ _ 182 _ _ _ _)
                    refine v_iconst (v := 0) (i := 100) rfl (by decide) (?_ : ky_V _ _ _ 183 _ _ _ _)
                    obtain ⟨z53, e⟩ := ky_chkE e
                    obtain ⟨z54, e⟩ := ky_chkE e
                    refine cl_X12_178 (As := [.int 10, .int 0]) rfl (i := 101) rfl (md_0 hmh47) rfl rfl (Nat.le_of_ble_eq_true rfl) (k_X12_emits 10 0 hmh47 (ky_inb z53) (ky_inb z54) (fun h55 hmh55 frh55 => ⟨_, rfl, (?_ : ky_V _ _ _ 186 _ [] _ _)⟩))
                    have frh55 := frh47.tr frh55
                    obtain ⟨q56, eq56⟩ : ∃ z, z = (md_emits_c q48 10 0) := ⟨_, rfl⟩
                    rw [← eq56] at hmh55
                    replace e := ky_letE eq56 e
                    refine v_iconst (v := 1) (i := 102) rfl (by decide) (?_ : ky_V _ _ _ 187 _ _ _ _)
                    refine v_iret (v := 1) (ty := .boolean) (i := 103) rfl rfl (by decide) ?_
                    obtain ⟨rfl, rfl⟩ := ky_leaf e
                    exact hr _ hmh55 frh55
                  · replace e := ky_ifF c52 e
                    refine v_bipush (v := 9) (i := 97) rfl (by decide) (?_ : ky_V _ _ _ 177 _ _ _ _)
                    refine v_goto (tgt := 182) (i := 98) rfl (by decide) (?_ : ky_V _ _ _ 182 _ _ _ _)
                    refine v_iconst (v := 0) (i := 100) rfl (by decide) (?_ : ky_V _ _ _ 183 _ _ _ _)
                    obtain ⟨z57, e⟩ := ky_chkE e
                    obtain ⟨z58, e⟩ := ky_chkE e
                    refine cl_X12_178 (As := [.int 9, .int 0]) rfl (i := 101) rfl (md_0 hmh47) rfl rfl (Nat.le_of_ble_eq_true rfl) (k_X12_emits 9 0 hmh47 (ky_inb z57) (ky_inb z58) (fun h59 hmh59 frh59 => ⟨_, rfl, (?_ : ky_V _ _ _ 186 _ [] _ _)⟩))
                    have frh59 := frh47.tr frh59
                    obtain ⟨q60, eq60⟩ : ∃ z, z = (md_emits_c q48 9 0) := ⟨_, rfl⟩
                    rw [← eq60] at hmh59
                    replace e := ky_letE eq60 e
                    refine v_iconst (v := 1) (i := 102) rfl (by decide) (?_ : ky_V _ _ _ 187 _ _ _ _)
                    refine v_iret (v := 1) (ty := .boolean) (i := 103) rfl rfl (by decide) ?_
                    obtain ⟨rfl, rfl⟩ := ky_leaf e
                    exact hr _ hmh59 frh59
                · replace e := ky_ifT c51 e
                  refine v_iconst (v := 0) (i := 92) rfl (by decide) (?_ : ky_V _ _ _ 169 _ _ _ _)
                  refine v_iret (v := 0) (ty := .boolean) (i := 93) rfl rfl (by decide) ?_
                  obtain ⟨rfl, rfl⟩ := ky_leaf e
                  exact hr _ hmh47 frh47
          · replace e := ky_ifT c22 e
            refine v_iconst (v := 0) (i := 77) rfl (by decide) (?_ : ky_V _ _ _ 140 _ _ _ _)
            refine v_iret (v := 0) (ty := .boolean) (i := 78) rfl rfl (by decide) ?_
            obtain ⟨rfl, rfl⟩ := ky_leaf e
            exact hr _ hmh18 frh18
        · replace e := ky_ifF c17 e
          refine v_aload_n (i := 68) (j := 0) rfl rfl (?_ : ky_V _ _ _ 124 _ _ _ _)
          refine v_bipush (v := 6) (i := 69) rfl (by decide) (?_ : ky_V _ _ _ 126 _ _ _ _)
          refine v_iconst (v := 0) (i := 70) rfl (by decide) (?_ : ky_V _ _ _ 127 _ _ _ _)
          obtain ⟨z61, e⟩ := ky_chkE e
          obtain ⟨z62, e⟩ := ky_chkE e
          refine cl_X12_178 (As := [.int 6, .int 0]) rfl (i := 71) rfl (md_0 hmh13) rfl rfl (Nat.le_of_ble_eq_true rfl) (k_X12_emits 6 0 hmh13 (ky_inb z61) (ky_inb z62) (fun h63 hmh63 frh63 => ⟨_, rfl, (?_ : ky_V _ _ _ 130 _ [] _ _)⟩))
          have frh63 := frh13.tr frh63
          obtain ⟨q64, eq64⟩ : ∃ z, z = (md_emits_c q14 6 0) := ⟨_, rfl⟩
          rw [← eq64] at hmh63
          replace e := ky_letE eq64 e
          refine v_iconst (v := 1) (i := 72) rfl (by decide) (?_ : ky_V _ _ _ 131 _ _ _ _)
          refine v_iret (v := 1) (ty := .boolean) (i := 73) rfl rfl (by decide) ?_
          obtain ⟨rfl, rfl⟩ := ky_leaf e
          exact hr _ hmh63 frh63
      · replace e := ky_ifF c11 e
        refine v_aload_n (i := 35) (j := 0) rfl rfl (?_ : ky_V _ _ _ 66 _ _ _ _)
        refine gf_X12_192 rfl (i := 36) rfl (md_0 hmh7) rfl (?_ : ky_V _ _ _ 69 _ _ _ _)
        refine v_bipush (v := 6) (i := 37) rfl (by decide) (?_ : ky_V _ _ _ 71 _ _ _ _)
        refine v_icmp_ne (tgt := 76) (i := 38) rfl (by decide) (fun c65 => ?_) (fun c65 => ?_)
        · replace e := ky_ifF c65 e
          refine v_aload_n (i := 41) (j := 0) rfl rfl (?_ : ky_V _ _ _ 77 _ _ _ _)
          refine v_dup (i := 42) rfl rfl (?_ : ky_V _ _ _ 78 _ _ _ _)
          refine gf_X12_192 rfl (i := 43) rfl (md_0 hmh7) rfl (?_ : ky_V _ _ _ 81 _ _ _ _)
          refine v_iconst (v := 1) (i := 44) rfl (by decide) (?_ : ky_V _ _ _ 82 _ _ _ _)
          refine v_iadd (i := 45) rfl (?_ : ky_V _ _ _ 83 _ _ _ _)
          refine v_topi (fun x66 ex66 => ?_)
          replace e := ky_letE ex66 e
          refine pf_X12_192 rfl (i := 46) rfl (md_0 hmh7) (Nat.le_of_ble_eq_true rfl) rfl rfl ?_
          refine bk_st (B := md_B G a) hmh7 frh7 0 13 x66 (by decide) (fun h67 hmh67 frh67 => ?_)
          obtain ⟨q68, eq68⟩ : ∃ z, z = (bk_w q8 0 13 x66) := ⟨_, rfl⟩
          rw [← eq68] at hmh67
          replace e := ky_letE eq68 e
          refine (?_ : ky_V _ _ _ 86 _ _ _ _)
          refine v_aload_n (i := 47) (j := 0) rfl rfl (?_ : ky_V _ _ _ 87 _ _ _ _)
          obtain ⟨⟨q70, x71⟩, g72, e⟩ := Option.bind_eq_some_iff.mp e
          refine cl_X12_203 (As := []) rfl (i := 48) rfl (md_0 hmh67) rfl rfl (Nat.le_of_ble_eq_true rfl) (ihA _ _ _ _ _ hmh67 g72 (fun h69 hmh69 frh69 => ⟨_, rfl, (?_ : ky_V _ _ _ 90 _ [.int x71] _ _)⟩))
          have frh69 := frh67.tr frh69
          refine v_if_ne (tgt := 95) (i := 49) rfl (by decide) (fun c73 => ?_) (fun c73 => ?_)
          · replace e := ky_ifF c73 e
            refine v_aload_n (i := 52) (j := 0) rfl rfl (?_ : ky_V _ _ _ 96 _ _ _ _)
            refine v_dup (i := 53) rfl rfl (?_ : ky_V _ _ _ 97 _ _ _ _)
            refine gf_X12_192 rfl (i := 54) rfl (md_0 hmh69) rfl (?_ : ky_V _ _ _ 100 _ _ _ _)
            refine v_iconst (v := 1) (i := 55) rfl (by decide) (?_ : ky_V _ _ _ 101 _ _ _ _)
            refine v_isub (i := 56) rfl (?_ : ky_V _ _ _ 102 _ _ _ _)
            refine v_topi (fun x74 ex74 => ?_)
            replace e := ky_letE ex74 e
            refine pf_X12_192 rfl (i := 57) rfl (md_0 hmh69) (Nat.le_of_ble_eq_true rfl) rfl rfl ?_
            refine bk_st (B := md_B G a) hmh69 frh69 0 13 x74 (by decide) (fun h75 hmh75 frh75 => ?_)
            obtain ⟨q76, eq76⟩ : ∃ z, z = (bk_w q70 0 13 x74) := ⟨_, rfl⟩
            rw [← eq76] at hmh75
            replace e := ky_letE eq76 e
            refine (?_ : ky_V _ _ _ 105 _ _ _ _)
            refine v_aload_n (i := 58) (j := 0) rfl rfl (?_ : ky_V _ _ _ 106 _ _ _ _)
            refine v_bipush (v := 11) (i := 59) rfl (by decide) (?_ : ky_V _ _ _ 108 _ _ _ _)
            refine v_iconst (v := 0) (i := 60) rfl (by decide) (?_ : ky_V _ _ _ 109 _ _ _ _)
            obtain ⟨z77, e⟩ := ky_chkE e
            obtain ⟨z78, e⟩ := ky_chkE e
            refine cl_X12_178 (As := [.int 11, .int 0]) rfl (i := 61) rfl (md_0 hmh75) rfl rfl (Nat.le_of_ble_eq_true rfl) (k_X12_emits 11 0 hmh75 (ky_inb z77) (ky_inb z78) (fun h79 hmh79 frh79 => ⟨_, rfl, (?_ : ky_V _ _ _ 112 _ [] _ _)⟩))
            have frh79 := frh75.tr frh79
            obtain ⟨q80, eq80⟩ : ∃ z, z = (md_emits_c q76 11 0) := ⟨_, rfl⟩
            rw [← eq80] at hmh79
            replace e := ky_letE eq80 e
            refine v_iconst (v := 1) (i := 62) rfl (by decide) (?_ : ky_V _ _ _ 113 _ _ _ _)
            refine v_iret (v := 1) (ty := .boolean) (i := 63) rfl rfl (by decide) ?_
            obtain ⟨rfl, rfl⟩ := ky_leaf e
            exact hr _ hmh79 frh79
          · replace e := ky_ifT c73 e
            refine v_iconst (v := 0) (i := 50) rfl (by decide) (?_ : ky_V _ _ _ 94 _ _ _ _)
            refine v_iret (v := 0) (ty := .boolean) (i := 51) rfl rfl (by decide) ?_
            obtain ⟨rfl, rfl⟩ := ky_leaf e
            exact hr _ hmh69 frh69
        · replace e := ky_ifT c65 e
          refine v_iconst (v := 0) (i := 39) rfl (by decide) (?_ : ky_V _ _ _ 75 _ _ _ _)
          refine v_iret (v := 0) (ty := .boolean) (i := 40) rfl rfl (by decide) ?_
          obtain ⟨rfl, rfl⟩ := ky_leaf e
          exact hr _ hmh7 frh7
    · replace e := ky_ifF c5 e
      refine v_aload_n (i := 4) (j := 0) rfl rfl (?_ : ky_V _ _ _ 10 _ _ _ _)
      refine gf_X12_192 rfl (i := 5) rfl (md_0 hmh1) rfl (?_ : ky_V _ _ _ 13 _ _ _ _)
      refine v_bipush (v := 6) (i := 6) rfl (by decide) (?_ : ky_V _ _ _ 15 _ _ _ _)
      refine v_icmp_ne (tgt := 20) (i := 7) rfl (by decide) (fun c81 => ?_) (fun c81 => ?_)
      · replace e := ky_ifF c81 e
        refine v_aload_n (i := 10) (j := 0) rfl rfl (?_ : ky_V _ _ _ 21 _ _ _ _)
        refine v_dup (i := 11) rfl rfl (?_ : ky_V _ _ _ 22 _ _ _ _)
        refine gf_X12_192 rfl (i := 12) rfl (md_0 hmh1) rfl (?_ : ky_V _ _ _ 25 _ _ _ _)
        refine v_iconst (v := 1) (i := 13) rfl (by decide) (?_ : ky_V _ _ _ 26 _ _ _ _)
        refine v_iadd (i := 14) rfl (?_ : ky_V _ _ _ 27 _ _ _ _)
        refine v_topi (fun x82 ex82 => ?_)
        replace e := ky_letE ex82 e
        refine pf_X12_192 rfl (i := 15) rfl (md_0 hmh1) (Nat.le_of_ble_eq_true rfl) rfl rfl ?_
        refine bk_st (B := md_B G a) hmh1 frh1 0 13 x82 (by decide) (fun h83 hmh83 frh83 => ?_)
        obtain ⟨q84, eq84⟩ : ∃ z, z = (bk_w q2 0 13 x82) := ⟨_, rfl⟩
        rw [← eq84] at hmh83
        replace e := ky_letE eq84 e
        refine (?_ : ky_V _ _ _ 30 _ _ _ _)
        refine v_aload_n (i := 16) (j := 0) rfl rfl (?_ : ky_V _ _ _ 31 _ _ _ _)
        obtain ⟨⟨q86, x87⟩, g88, e⟩ := Option.bind_eq_some_iff.mp e
        refine cl_X12_195 (As := []) rfl (i := 17) rfl (md_0 hmh83) rfl rfl (Nat.le_of_ble_eq_true rfl) (k_X12_readCond (d := d) N hG (md_readAtom N n) ihB hmh83 g88 (fun h85 hmh85 frh85 => ⟨_, rfl, (?_ : ky_V _ _ _ 34 _ [.int x87] _ _)⟩))
        have frh85 := frh83.tr frh85
        refine v_if_ne (tgt := 39) (i := 18) rfl (by decide) (fun c89 => ?_) (fun c89 => ?_)
        · replace e := ky_ifF c89 e
          refine v_aload_n (i := 21) (j := 0) rfl rfl (?_ : ky_V _ _ _ 40 _ _ _ _)
          refine v_dup (i := 22) rfl rfl (?_ : ky_V _ _ _ 41 _ _ _ _)
          refine gf_X12_192 rfl (i := 23) rfl (md_0 hmh85) rfl (?_ : ky_V _ _ _ 44 _ _ _ _)
          refine v_iconst (v := 1) (i := 24) rfl (by decide) (?_ : ky_V _ _ _ 45 _ _ _ _)
          refine v_isub (i := 25) rfl (?_ : ky_V _ _ _ 46 _ _ _ _)
          refine v_topi (fun x90 ex90 => ?_)
          replace e := ky_letE ex90 e
          refine pf_X12_192 rfl (i := 26) rfl (md_0 hmh85) (Nat.le_of_ble_eq_true rfl) rfl rfl ?_
          refine bk_st (B := md_B G a) hmh85 frh85 0 13 x90 (by decide) (fun h91 hmh91 frh91 => ?_)
          obtain ⟨q92, eq92⟩ : ∃ z, z = (bk_w q86 0 13 x90) := ⟨_, rfl⟩
          rw [← eq92] at hmh91
          replace e := ky_letE eq92 e
          refine (?_ : ky_V _ _ _ 49 _ _ _ _)
          refine v_aload_n (i := 27) (j := 0) rfl rfl (?_ : ky_V _ _ _ 50 _ _ _ _)
          refine v_bipush (v := 41) (i := 28) rfl (by decide) (?_ : ky_V _ _ _ 52 _ _ _ _)
          obtain ⟨⟨q94, x95⟩, g96, e⟩ := Option.bind_eq_some_iff.mp e
          refine cl_X12_189 (As := [.int 41]) rfl (i := 29) rfl (md_0 hmh91) rfl rfl (Nat.le_of_ble_eq_true rfl) (k_X12_sign N hmh91 g96 (fun h93 hmh93 frh93 => ⟨_, rfl, (?_ : ky_V _ _ _ 55 _ [.int x95] _ _)⟩))
          have frh93 := frh91.tr frh93
          obtain ⟨z97, e⟩ := ky_chkE e
          refine v_iret (v := x95) (ty := .boolean) (i := 30) rfl rfl (ky_nb z97) ?_
          obtain ⟨rfl, rfl⟩ := ky_leaf e
          exact hr _ hmh93 frh93
        · replace e := ky_ifT c89 e
          refine v_iconst (v := 0) (i := 19) rfl (by decide) (?_ : ky_V _ _ _ 38 _ _ _ _)
          refine v_iret (v := 0) (ty := .boolean) (i := 20) rfl rfl (by decide) ?_
          obtain ⟨rfl, rfl⟩ := ky_leaf e
          exact hr _ hmh85 frh85
      · replace e := ky_ifT c81 e
        refine v_iconst (v := 0) (i := 8) rfl (by decide) (?_ : ky_V _ _ _ 19 _ _ _ _)
        refine v_iret (v := 0) (ty := .boolean) (i := 9) rfl rfl (by decide) ?_
        obtain ⟨rfl, rfl⟩ := ky_leaf e
        exact hr _ hmh1 frh1

def md_readCondT (N : Nat) (c : (Nat → Nat → Int32)) : Option ((Nat → Nat → Int32) × Int32) := md_readCond N (md_readAtom N 8) c
theorem k_X12_readCondT {G : ky_GW} {d : Nat} {h : ky_HP} {Q : ky_RS → ky_HP → Prop} {a : Nat} {c c9 : (Nat → Nat → Int32)} {r9 : Int32} (N : Nat) (hG : ky_OK G) (hm : md_at G h a c) (e : md_readCondT N c = some (c9, r9)) (hr : ∀ h1, md_at G h1 a c9 → bk_fr a 13 h h1 → Q (.inl (some (.int r9))) h1) : ky_Call G (d + 46) M_X12_readCond [.ref a] h Q :=
  k_X12_readCond (d := d + 24) N hG (md_readAtom N 8) (k_X12_readAtom N hG 8 (d + 24 + 20) (by omega)) hm e hr

def md_readLawLine (N : Nat)  (c : (Nat → Nat → Int32)) (p1 : Int32) : Option ((Nat → Nat → Int32) × Int32) := (ky_let (1399 + (4 * p1)) (fun x1 => ((md_isWord N c ([117, 112] : List Int32)).bind (fun zz => (fun q4 x5 => (if x5 = 0 then ((md_isWord N q4 ([100, 111, 119, 110] : List Int32)).bind (fun zz => (fun q10 x11 => (if x11 = 0 then ((md_isWord N q10 ([115, 116, 105, 114] : List Int32)).bind (fun zz => (fun q16 x17 => (if x17 = 0 then ((md_isWord N q16 ([115, 101, 116, 116, 108, 101] : List Int32)).bind (fun zz => (fun q22 x23 => (if x23 = 0 then (if ky_inB x1 2247 = true then (ky_let (bk_w q22 1 (Int32.toNatClampNeg x1) (-1)) (fun q28 => (if 0 ≤ (q28 1 (Int32.toNatClampNeg x1)) then ((md_number N q28 0 9).bind (fun zz => (fun q31 x32 => (if ky_inB (x1 + 1) 2247 = true then (ky_let (bk_w q31 1 (Int32.toNatClampNeg (x1 + 1)) x32) (fun q36 => (if 0 ≤ (q36 1 (Int32.toNatClampNeg (x1 + 1))) then (ky_let (q36 0 16) (fun x38 => (if ky_inB (x1 + 2) 2247 = true then (ky_let (bk_w q36 1 (Int32.toNatClampNeg (x1 + 2)) x38) (fun q41 => (ky_let (bk_w q41 0 13 0) (fun q43 => ((md_passes N q43 ([105, 102] : List Int32)).bind (fun zz => (fun q46 x47 => (if x47 = 0 then (ky_let (q46 0 16) (fun x50 => (if ky_inB (x1 + 3) 2247 = true then (ky_let (bk_w q46 1 (Int32.toNatClampNeg (x1 + 3)) x50) (fun q53 => (some (q53, 1)))) else none))) else ((md_readCondT N q46).bind (fun zz => (fun q55 x56 => (if x56 = 0 then (some (q55, 0)) else (ky_let (q55 0 16) (fun x59 => (if ky_inB (x1 + 3) 2247 = true then (ky_let (bk_w q55 1 (Int32.toNatClampNeg (x1 + 3)) x59) (fun q62 => (some (q62, 1)))) else none))))) zz.1 zz.2)))) zz.1 zz.2)))))) else none))) else (some (q36, 0))))) else none)) zz.1 zz.2)) else (some (q28, 0))))) else none) else (if ky_inB x1 2247 = true then (ky_let (bk_w q22 1 (Int32.toNatClampNeg x1) 3) (fun q65 => (if 0 ≤ (q65 1 (Int32.toNatClampNeg x1)) then ((md_number N q65 0 9).bind (fun zz => (fun q68 x69 => (if ky_inB (x1 + 1) 2247 = true then (ky_let (bk_w q68 1 (Int32.toNatClampNeg (x1 + 1)) x69) (fun q73 => (if 0 ≤ (q73 1 (Int32.toNatClampNeg (x1 + 1))) then (ky_let (q73 0 16) (fun x75 => (if ky_inB (x1 + 2) 2247 = true then (ky_let (bk_w q73 1 (Int32.toNatClampNeg (x1 + 2)) x75) (fun q78 => (ky_let (bk_w q78 0 13 0) (fun q80 => ((md_passes N q80 ([105, 102] : List Int32)).bind (fun zz => (fun q83 x84 => (if x84 = 0 then (ky_let (q83 0 16) (fun x87 => (if ky_inB (x1 + 3) 2247 = true then (ky_let (bk_w q83 1 (Int32.toNatClampNeg (x1 + 3)) x87) (fun q90 => (some (q90, 1)))) else none))) else ((md_readCondT N q83).bind (fun zz => (fun q92 x93 => (if x93 = 0 then (some (q92, 0)) else (ky_let (q92 0 16) (fun x96 => (if ky_inB (x1 + 3) 2247 = true then (ky_let (bk_w q92 1 (Int32.toNatClampNeg (x1 + 3)) x96) (fun q99 => (some (q99, 1)))) else none))))) zz.1 zz.2)))) zz.1 zz.2)))))) else none))) else (some (q73, 0))))) else none)) zz.1 zz.2)) else (some (q65, 0))))) else none))) zz.1 zz.2)) else (if ky_inB x1 2247 = true then (ky_let (bk_w q16 1 (Int32.toNatClampNeg x1) 2) (fun q102 => (if 0 ≤ (q102 1 (Int32.toNatClampNeg x1)) then ((md_number N q102 0 9).bind (fun zz => (fun q105 x106 => (if ky_inB (x1 + 1) 2247 = true then (ky_let (bk_w q105 1 (Int32.toNatClampNeg (x1 + 1)) x106) (fun q110 => (if 0 ≤ (q110 1 (Int32.toNatClampNeg (x1 + 1))) then (ky_let (q110 0 16) (fun x112 => (if ky_inB (x1 + 2) 2247 = true then (ky_let (bk_w q110 1 (Int32.toNatClampNeg (x1 + 2)) x112) (fun q115 => (ky_let (bk_w q115 0 13 0) (fun q117 => ((md_passes N q117 ([105, 102] : List Int32)).bind (fun zz => (fun q120 x121 => (if x121 = 0 then (ky_let (q120 0 16) (fun x124 => (if ky_inB (x1 + 3) 2247 = true then (ky_let (bk_w q120 1 (Int32.toNatClampNeg (x1 + 3)) x124) (fun q127 => (some (q127, 1)))) else none))) else ((md_readCondT N q120).bind (fun zz => (fun q129 x130 => (if x130 = 0 then (some (q129, 0)) else (ky_let (q129 0 16) (fun x133 => (if ky_inB (x1 + 3) 2247 = true then (ky_let (bk_w q129 1 (Int32.toNatClampNeg (x1 + 3)) x133) (fun q136 => (some (q136, 1)))) else none))))) zz.1 zz.2)))) zz.1 zz.2)))))) else none))) else (some (q110, 0))))) else none)) zz.1 zz.2)) else (some (q102, 0))))) else none))) zz.1 zz.2)) else (if ky_inB x1 2247 = true then (ky_let (bk_w q10 1 (Int32.toNatClampNeg x1) 1) (fun q139 => (if 0 ≤ (q139 1 (Int32.toNatClampNeg x1)) then ((md_number N q139 0 9).bind (fun zz => (fun q142 x143 => (if ky_inB (x1 + 1) 2247 = true then (ky_let (bk_w q142 1 (Int32.toNatClampNeg (x1 + 1)) x143) (fun q147 => (if 0 ≤ (q147 1 (Int32.toNatClampNeg (x1 + 1))) then (ky_let (q147 0 16) (fun x149 => (if ky_inB (x1 + 2) 2247 = true then (ky_let (bk_w q147 1 (Int32.toNatClampNeg (x1 + 2)) x149) (fun q152 => (ky_let (bk_w q152 0 13 0) (fun q154 => ((md_passes N q154 ([105, 102] : List Int32)).bind (fun zz => (fun q157 x158 => (if x158 = 0 then (ky_let (q157 0 16) (fun x161 => (if ky_inB (x1 + 3) 2247 = true then (ky_let (bk_w q157 1 (Int32.toNatClampNeg (x1 + 3)) x161) (fun q164 => (some (q164, 1)))) else none))) else ((md_readCondT N q157).bind (fun zz => (fun q166 x167 => (if x167 = 0 then (some (q166, 0)) else (ky_let (q166 0 16) (fun x170 => (if ky_inB (x1 + 3) 2247 = true then (ky_let (bk_w q166 1 (Int32.toNatClampNeg (x1 + 3)) x170) (fun q173 => (some (q173, 1)))) else none))))) zz.1 zz.2)))) zz.1 zz.2)))))) else none))) else (some (q147, 0))))) else none)) zz.1 zz.2)) else (some (q139, 0))))) else none))) zz.1 zz.2)) else (if ky_inB x1 2247 = true then (ky_let (bk_w q4 1 (Int32.toNatClampNeg x1) 0) (fun q176 => (if 0 ≤ (q176 1 (Int32.toNatClampNeg x1)) then ((md_number N q176 0 9).bind (fun zz => (fun q179 x180 => (if ky_inB (x1 + 1) 2247 = true then (ky_let (bk_w q179 1 (Int32.toNatClampNeg (x1 + 1)) x180) (fun q184 => (if 0 ≤ (q184 1 (Int32.toNatClampNeg (x1 + 1))) then (ky_let (q184 0 16) (fun x186 => (if ky_inB (x1 + 2) 2247 = true then (ky_let (bk_w q184 1 (Int32.toNatClampNeg (x1 + 2)) x186) (fun q189 => (ky_let (bk_w q189 0 13 0) (fun q191 => ((md_passes N q191 ([105, 102] : List Int32)).bind (fun zz => (fun q194 x195 => (if x195 = 0 then (ky_let (q194 0 16) (fun x198 => (if ky_inB (x1 + 3) 2247 = true then (ky_let (bk_w q194 1 (Int32.toNatClampNeg (x1 + 3)) x198) (fun q201 => (some (q201, 1)))) else none))) else ((md_readCondT N q194).bind (fun zz => (fun q203 x204 => (if x204 = 0 then (some (q203, 0)) else (ky_let (q203 0 16) (fun x207 => (if ky_inB (x1 + 3) 2247 = true then (ky_let (bk_w q203 1 (Int32.toNatClampNeg (x1 + 3)) x207) (fun q210 => (some (q210, 1)))) else none))))) zz.1 zz.2)))) zz.1 zz.2)))))) else none))) else (some (q184, 0))))) else none)) zz.1 zz.2)) else (some (q176, 0))))) else none))) zz.1 zz.2))))
set_option maxRecDepth 20000 in
set_option maxHeartbeats 4000000 in
theorem k_X12_readLawLine {G : ky_GW} {d : Nat} {h : ky_HP} {Q : ky_RS → ky_HP → Prop} {a : Nat} {c c9 : (Nat → Nat → Int32)} {r9 : Int32} {p1 : Int32} (N : Nat) (hG : ky_OK G)   (hm : md_at G h a c)  (e : md_readLawLine N  c p1 = some (c9, r9)) (hr : ∀ h1, md_at G h1 a c9 → bk_fr a 13 h h1 → Q (.inl (some (.int r9))) h1) : ky_Call G (d + 47) M_X12_readLawLine [.ref a, .int p1] h Q := by
  refine ky_ofV (by decide +kernel) rfl ok_X12_readLawLine (Nat.le_of_ble_eq_true rfl) ?_
  have fr : bk_fr a 13 h h := bk_fr.rf
  unfold md_readLawLine at e
  refine (?_ : ky_V _ _ _ 0 [(0, .ref a), (1, .int p1)] [] _ _)
  refine v_sipush (v := 1399) (i := 0) rfl (by decide) (?_ : ky_V _ _ _ 3 _ _ _ _)
  refine v_iconst (v := 4) (i := 1) rfl (by decide) (?_ : ky_V _ _ _ 4 _ _ _ _)
  refine v_iload_n (i := 2) (j := 1) rfl rfl (?_ : ky_V _ _ _ 5 _ _ _ _)
  refine v_imul (i := 3) rfl (?_ : ky_V _ _ _ 6 _ _ _ _)
  refine v_iadd (i := 4) rfl (?_ : ky_V _ _ _ 7 _ _ _ _)
  refine v_topi (fun x1 ex1 => ?_)
  replace e := ky_letE ex1 e
  refine v_istore_n (L' := [(0, .ref a), (1, .int p1), (2, .int x1)]) [1, 2, 0] (i := 5) rfl (Nat.le_of_ble_eq_true rfl) rfl (?_ : ky_V _ _ _ 8 _ _ _ _)
  refine v_aload_n (i := 6) (j := 0) rfl rfl (?_ : ky_V _ _ _ 9 _ _ _ _)
  refine gf_X12_13 rfl (i := 7) rfl (md_0 hm) rfl (?_ : ky_V _ _ _ 12 _ _ _ _)
  refine v_iload_n (i := 8) (j := 2) rfl rfl (?_ : ky_V _ _ _ 13 _ _ _ _)
  refine v_aload_n (i := 9) (j := 0) rfl rfl (?_ : ky_V _ _ _ 14 _ _ _ _)
  obtain ⟨s2, hvs2, hss2⟩ := sg_X12_113 hG
  refine v_ldcS (i := 10) hvs2 rfl (?_ : ky_V _ _ _ 16 _ _ _ _)
  obtain ⟨⟨q4, x5⟩, g6, e⟩ := Option.bind_eq_some_iff.mp e
  refine cl_X12_105 (As := [.ref s2]) rfl (i := 11) rfl (md_0 hm) rfl rfl (Nat.le_of_ble_eq_true rfl) (k_X12_isWord N hG hm hss2 g6 (fun h3 hmh3 frh3 => ⟨_, rfl, (?_ : ky_V _ _ _ 19 _ [.int x5, .int x1, .ref ((a + 1))] _ _)⟩))
  have frh3 := fr.tr frh3
  refine v_if_eq (tgt := 26) (i := 12) rfl (by decide) (fun c7 => ?_) (fun c7 => ?_)
  · replace e := ky_ifT c7 e
    refine v_aload_n (i := 15) (j := 0) rfl rfl (?_ : ky_V _ _ _ 27 _ _ _ _)
    obtain ⟨s8, hvs8, hss8⟩ := sg_X12_119 hG
    refine v_ldcS (i := 16) hvs8 rfl (?_ : ky_V _ _ _ 29 _ _ _ _)
    obtain ⟨⟨q10, x11⟩, g12, e⟩ := Option.bind_eq_some_iff.mp e
    refine cl_X12_105 (As := [.ref s8]) rfl (i := 17) rfl (md_0 hmh3) rfl rfl (Nat.le_of_ble_eq_true rfl) (k_X12_isWord N hG hmh3 hss8 g12 (fun h9 hmh9 frh9 => ⟨_, rfl, (?_ : ky_V _ _ _ 32 _ [.int x11, .int x1, .ref ((a + 1))] _ _)⟩))
    have frh9 := frh3.tr frh9
    refine v_if_eq (tgt := 39) (i := 18) rfl (by decide) (fun c13 => ?_) (fun c13 => ?_)
    · replace e := ky_ifT c13 e
      refine v_aload_n (i := 21) (j := 0) rfl rfl (?_ : ky_V _ _ _ 40 _ _ _ _)
      obtain ⟨s14, hvs14, hss14⟩ := sg_X12_218 hG
      refine v_ldcS (i := 22) hvs14 rfl (?_ : ky_V _ _ _ 42 _ _ _ _)
      obtain ⟨⟨q16, x17⟩, g18, e⟩ := Option.bind_eq_some_iff.mp e
      refine cl_X12_105 (As := [.ref s14]) rfl (i := 23) rfl (md_0 hmh9) rfl rfl (Nat.le_of_ble_eq_true rfl) (k_X12_isWord N hG hmh9 hss14 g18 (fun h15 hmh15 frh15 => ⟨_, rfl, (?_ : ky_V _ _ _ 45 _ [.int x17, .int x1, .ref ((a + 1))] _ _)⟩))
      have frh15 := frh9.tr frh15
      refine v_if_eq (tgt := 52) (i := 24) rfl (by decide) (fun c19 => ?_) (fun c19 => ?_)
      · replace e := ky_ifT c19 e
        refine v_aload_n (i := 27) (j := 0) rfl rfl (?_ : ky_V _ _ _ 53 _ _ _ _)
        obtain ⟨s20, hvs20, hss20⟩ := sg_X12_220 hG
        refine v_ldcS (i := 28) hvs20 rfl (?_ : ky_V _ _ _ 55 _ _ _ _)
        obtain ⟨⟨q22, x23⟩, g24, e⟩ := Option.bind_eq_some_iff.mp e
        refine cl_X12_105 (As := [.ref s20]) rfl (i := 29) rfl (md_0 hmh15) rfl rfl (Nat.le_of_ble_eq_true rfl) (k_X12_isWord N hG hmh15 hss20 g24 (fun h21 hmh21 frh21 => ⟨_, rfl, (?_ : ky_V _ _ _ 58 _ [.int x23, .int x1, .ref ((a + 1))] _ _)⟩))
        have frh21 := frh15.tr frh21
        refine v_if_eq (tgt := 65) (i := 30) rfl (by decide) (fun c25 => ?_) (fun c25 => ?_)
        · replace e := ky_ifT c25 e
          refine v_iconst (v := (-1)) (i := 33) rfl (by decide) (?_ : ky_V _ _ _ 66 _ _ _ _)
          obtain ⟨z26, e⟩ := ky_chkE e
          refine v_iast (i := 34) rfl (md_1 hmh21) (ky_inb z26) ?_
          refine bk_st (B := md_B G a) hmh21 frh21 1 (Int32.toNatClampNeg x1) (-1) (by decide) (fun h27 hmh27 frh27 => ?_)
          obtain ⟨q28, eq28⟩ : ∃ z, z = (bk_w q22 1 (Int32.toNatClampNeg x1) (-1)) := ⟨_, rfl⟩
          rw [← eq28] at hmh27
          replace e := ky_letE eq28 e
          refine (?_ : ky_V _ _ _ 67 _ _ _ _)
          refine v_aload_n (i := 35) (j := 0) rfl rfl (?_ : ky_V _ _ _ 68 _ _ _ _)
          refine gf_X12_13 rfl (i := 36) rfl (md_0 hmh27) rfl (?_ : ky_V _ _ _ 71 _ _ _ _)
          refine v_iload_n (i := 37) (j := 2) rfl rfl (?_ : ky_V _ _ _ 72 _ _ _ _)
          refine v_iald (i := 38) rfl (md_1 hmh27) (ky_inb z26) (?_ : ky_V _ _ _ 73 _ (.int (q28 1 (Int32.toNatClampNeg x1)) :: _) _ _)
          refine v_if_ge (tgt := 78) (i := 39) rfl (by decide) (fun c29 => ?_) (fun c29 => ?_)
          · replace e := ky_ifT c29 e
            refine v_aload_n (i := 42) (j := 0) rfl rfl (?_ : ky_V _ _ _ 79 _ _ _ _)
            refine gf_X12_13 rfl (i := 43) rfl (md_0 hmh27) rfl (?_ : ky_V _ _ _ 82 _ _ _ _)
            refine v_iload_n (i := 44) (j := 2) rfl rfl (?_ : ky_V _ _ _ 83 _ _ _ _)
            refine v_iconst (v := 1) (i := 45) rfl (by decide) (?_ : ky_V _ _ _ 84 _ _ _ _)
            refine v_iadd (i := 46) rfl (?_ : ky_V _ _ _ 85 _ _ _ _)
            refine v_aload_n (i := 47) (j := 0) rfl rfl (?_ : ky_V _ _ _ 86 _ _ _ _)
            refine v_iconst (v := 0) (i := 48) rfl (by decide) (?_ : ky_V _ _ _ 87 _ _ _ _)
            refine v_bipush (v := 9) (i := 49) rfl (by decide) (?_ : ky_V _ _ _ 89 _ _ _ _)
            obtain ⟨⟨q31, x32⟩, g33, e⟩ := Option.bind_eq_some_iff.mp e
            refine cl_X12_109 (As := [.int 0, .int 9]) rfl (i := 50) rfl (md_0 hmh27) rfl rfl (Nat.le_of_ble_eq_true rfl) (k_X12_number N hmh27 g33 (fun h30 hmh30 frh30 => ⟨_, rfl, (?_ : ky_V _ _ _ 92 _ [.int x32, .int ((x1 + 1)), .ref ((a + 1))] _ _)⟩))
            have frh30 := frh27.tr frh30
            obtain ⟨z34, e⟩ := ky_chkE e
            refine v_iast (i := 51) rfl (md_1 hmh30) (ky_inb z34) ?_
            refine bk_st (B := md_B G a) hmh30 frh30 1 (Int32.toNatClampNeg (x1 + 1)) x32 (by decide) (fun h35 hmh35 frh35 => ?_)
            obtain ⟨q36, eq36⟩ : ∃ z, z = (bk_w q31 1 (Int32.toNatClampNeg (x1 + 1)) x32) := ⟨_, rfl⟩
            rw [← eq36] at hmh35
            replace e := ky_letE eq36 e
            refine (?_ : ky_V _ _ _ 93 _ _ _ _)
            refine v_aload_n (i := 52) (j := 0) rfl rfl (?_ : ky_V _ _ _ 94 _ _ _ _)
            refine gf_X12_13 rfl (i := 53) rfl (md_0 hmh35) rfl (?_ : ky_V _ _ _ 97 _ _ _ _)
            refine v_iload_n (i := 54) (j := 2) rfl rfl (?_ : ky_V _ _ _ 98 _ _ _ _)
            refine v_iconst (v := 1) (i := 55) rfl (by decide) (?_ : ky_V _ _ _ 99 _ _ _ _)
            refine v_iadd (i := 56) rfl (?_ : ky_V _ _ _ 100 _ _ _ _)
            refine v_iald (i := 57) rfl (md_1 hmh35) (ky_inb z34) (?_ : ky_V _ _ _ 101 _ (.int (q36 1 (Int32.toNatClampNeg (x1 + 1))) :: _) _ _)
            refine v_if_ge (tgt := 106) (i := 58) rfl (by decide) (fun c37 => ?_) (fun c37 => ?_)
            · replace e := ky_ifT c37 e
              refine v_aload_n (i := 61) (j := 0) rfl rfl (?_ : ky_V _ _ _ 107 _ _ _ _)
              refine gf_X12_13 rfl (i := 62) rfl (md_0 hmh35) rfl (?_ : ky_V _ _ _ 110 _ _ _ _)
              refine v_iload_n (i := 63) (j := 2) rfl rfl (?_ : ky_V _ _ _ 111 _ _ _ _)
              refine v_iconst (v := 2) (i := 64) rfl (by decide) (?_ : ky_V _ _ _ 112 _ _ _ _)
              refine v_iadd (i := 65) rfl (?_ : ky_V _ _ _ 113 _ _ _ _)
              refine v_aload_n (i := 66) (j := 0) rfl rfl (?_ : ky_V _ _ _ 114 _ _ _ _)
              refine gf_X12_175 rfl (i := 67) rfl (md_0 hmh35) rfl (?_ : ky_V _ _ _ 117 _ _ _ _)
              refine v_topi (fun x38 ex38 => ?_)
              replace e := ky_letE ex38 e
              obtain ⟨z39, e⟩ := ky_chkE e
              refine v_iast (i := 68) rfl (md_1 hmh35) (ky_inb z39) ?_
              refine bk_st (B := md_B G a) hmh35 frh35 1 (Int32.toNatClampNeg (x1 + 2)) x38 (by decide) (fun h40 hmh40 frh40 => ?_)
              obtain ⟨q41, eq41⟩ : ∃ z, z = (bk_w q36 1 (Int32.toNatClampNeg (x1 + 2)) x38) := ⟨_, rfl⟩
              rw [← eq41] at hmh40
              replace e := ky_letE eq41 e
              refine (?_ : ky_V _ _ _ 118 _ _ _ _)
              refine v_aload_n (i := 69) (j := 0) rfl rfl (?_ : ky_V _ _ _ 119 _ _ _ _)
              refine v_iconst (v := 0) (i := 70) rfl (by decide) (?_ : ky_V _ _ _ 120 _ _ _ _)
              refine pf_X12_192 rfl (i := 71) rfl (md_0 hmh40) (Nat.le_of_ble_eq_true rfl) rfl rfl ?_
              refine bk_st (B := md_B G a) hmh40 frh40 0 13 0 (by decide) (fun h42 hmh42 frh42 => ?_)
              obtain ⟨q43, eq43⟩ : ∃ z, z = (bk_w q41 0 13 0) := ⟨_, rfl⟩
              rw [← eq43] at hmh42
              replace e := ky_letE eq43 e
              refine (?_ : ky_V _ _ _ 123 _ _ _ _)
              refine v_aload_n (i := 72) (j := 0) rfl rfl (?_ : ky_V _ _ _ 124 _ _ _ _)
              obtain ⟨s44, hvs44, hss44⟩ := sg_X12_222 hG
              refine v_ldcS (i := 73) hvs44 rfl (?_ : ky_V _ _ _ 126 _ _ _ _)
              obtain ⟨⟨q46, x47⟩, g48, e⟩ := Option.bind_eq_some_iff.mp e
              refine cl_X12_200 (As := [.ref s44]) rfl (i := 74) rfl (md_0 hmh42) rfl rfl (Nat.le_of_ble_eq_true rfl) (k_X12_passes N hG hmh42 hss44 g48 (fun h45 hmh45 frh45 => ⟨_, rfl, (?_ : ky_V _ _ _ 129 _ [.int x47] _ _)⟩))
              have frh45 := frh42.tr frh45
              refine v_if_eq (tgt := 141) (i := 75) rfl (by decide) (fun c49 => ?_) (fun c49 => ?_)
              · replace e := ky_ifT c49 e
                refine v_aload_n (i := 81) (j := 0) rfl rfl (?_ : ky_V _ _ _ 142 _ _ _ _)
                refine gf_X12_13 rfl (i := 82) rfl (md_0 hmh45) rfl (?_ : ky_V _ _ _ 145 _ _ _ _)
                refine v_iload_n (i := 83) (j := 2) rfl rfl (?_ : ky_V _ _ _ 146 _ _ _ _)
                refine v_iconst (v := 3) (i := 84) rfl (by decide) (?_ : ky_V _ _ _ 147 _ _ _ _)
                refine v_iadd (i := 85) rfl (?_ : ky_V _ _ _ 148 _ _ _ _)
                refine v_aload_n (i := 86) (j := 0) rfl rfl (?_ : ky_V _ _ _ 149 _ _ _ _)
                refine gf_X12_175 rfl (i := 87) rfl (md_0 hmh45) rfl (?_ : ky_V _ _ _ 152 _ _ _ _)
                refine v_topi (fun x50 ex50 => ?_)
                replace e := ky_letE ex50 e
                obtain ⟨z51, e⟩ := ky_chkE e
                refine v_iast (i := 88) rfl (md_1 hmh45) (ky_inb z51) ?_
                refine bk_st (B := md_B G a) hmh45 frh45 1 (Int32.toNatClampNeg (x1 + 3)) x50 (by decide) (fun h52 hmh52 frh52 => ?_)
                obtain ⟨q53, eq53⟩ : ∃ z, z = (bk_w q46 1 (Int32.toNatClampNeg (x1 + 3)) x50) := ⟨_, rfl⟩
                rw [← eq53] at hmh52
                replace e := ky_letE eq53 e
                refine (?_ : ky_V _ _ _ 153 _ _ _ _)
                refine v_iconst (v := 1) (i := 89) rfl (by decide) (?_ : ky_V _ _ _ 154 _ _ _ _)
                refine v_iret (v := 1) (ty := .boolean) (i := 90) rfl rfl (by decide) ?_
                obtain ⟨rfl, rfl⟩ := ky_leaf e
                exact hr _ hmh52 frh52
              · replace e := ky_ifF c49 e
                refine v_aload_n (i := 76) (j := 0) rfl rfl (?_ : ky_V _ _ _ 133 _ _ _ _)
                obtain ⟨⟨q55, x56⟩, g57, e⟩ := Option.bind_eq_some_iff.mp e
                refine cl_X12_195 (As := []) rfl (i := 77) rfl (md_0 hmh45) rfl rfl (Nat.le_of_ble_eq_true rfl) (k_X12_readCondT N hG hmh45 g57 (fun h54 hmh54 frh54 => ⟨_, rfl, (?_ : ky_V _ _ _ 136 _ [.int x56] _ _)⟩))
                have frh54 := frh45.tr frh54
                refine v_if_ne (tgt := 141) (i := 78) rfl (by decide) (fun c58 => ?_) (fun c58 => ?_)
                · replace e := ky_ifF c58 e
                  refine v_aload_n (i := 81) (j := 0) rfl rfl (?_ : ky_V _ _ _ 142 _ _ _ _)
                  refine gf_X12_13 rfl (i := 82) rfl (md_0 hmh54) rfl (?_ : ky_V _ _ _ 145 _ _ _ _)
                  refine v_iload_n (i := 83) (j := 2) rfl rfl (?_ : ky_V _ _ _ 146 _ _ _ _)
                  refine v_iconst (v := 3) (i := 84) rfl (by decide) (?_ : ky_V _ _ _ 147 _ _ _ _)
                  refine v_iadd (i := 85) rfl (?_ : ky_V _ _ _ 148 _ _ _ _)
                  refine v_aload_n (i := 86) (j := 0) rfl rfl (?_ : ky_V _ _ _ 149 _ _ _ _)
                  refine gf_X12_175 rfl (i := 87) rfl (md_0 hmh54) rfl (?_ : ky_V _ _ _ 152 _ _ _ _)
                  refine v_topi (fun x59 ex59 => ?_)
                  replace e := ky_letE ex59 e
                  obtain ⟨z60, e⟩ := ky_chkE e
                  refine v_iast (i := 88) rfl (md_1 hmh54) (ky_inb z60) ?_
                  refine bk_st (B := md_B G a) hmh54 frh54 1 (Int32.toNatClampNeg (x1 + 3)) x59 (by decide) (fun h61 hmh61 frh61 => ?_)
                  obtain ⟨q62, eq62⟩ : ∃ z, z = (bk_w q55 1 (Int32.toNatClampNeg (x1 + 3)) x59) := ⟨_, rfl⟩
                  rw [← eq62] at hmh61
                  replace e := ky_letE eq62 e
                  refine (?_ : ky_V _ _ _ 153 _ _ _ _)
                  refine v_iconst (v := 1) (i := 89) rfl (by decide) (?_ : ky_V _ _ _ 154 _ _ _ _)
                  refine v_iret (v := 1) (ty := .boolean) (i := 90) rfl rfl (by decide) ?_
                  obtain ⟨rfl, rfl⟩ := ky_leaf e
                  exact hr _ hmh61 frh61
                · replace e := ky_ifT c58 e
                  refine v_iconst (v := 0) (i := 79) rfl (by decide) (?_ : ky_V _ _ _ 140 _ _ _ _)
                  refine v_iret (v := 0) (ty := .boolean) (i := 80) rfl rfl (by decide) ?_
                  obtain ⟨rfl, rfl⟩ := ky_leaf e
                  exact hr _ hmh54 frh54
            · replace e := ky_ifF c37 e
              refine v_iconst (v := 0) (i := 59) rfl (by decide) (?_ : ky_V _ _ _ 105 _ _ _ _)
              refine v_iret (v := 0) (ty := .boolean) (i := 60) rfl rfl (by decide) ?_
              obtain ⟨rfl, rfl⟩ := ky_leaf e
              exact hr _ hmh35 frh35
          · replace e := ky_ifF c29 e
            refine v_iconst (v := 0) (i := 40) rfl (by decide) (?_ : ky_V _ _ _ 77 _ _ _ _)
            refine v_iret (v := 0) (ty := .boolean) (i := 41) rfl rfl (by decide) ?_
            obtain ⟨rfl, rfl⟩ := ky_leaf e
            exact hr _ hmh27 frh27
        · replace e := ky_ifF c25 e
          refine v_iconst (v := 3) (i := 31) rfl (by decide) (?_ : ky_V _ _ _ 62 _ _ _ _)
          refine v_goto (tgt := 66) (i := 32) rfl (by decide) (?_ : ky_V _ _ _ 66 _ _ _ _)
          obtain ⟨z63, e⟩ := ky_chkE e
          refine v_iast (i := 34) rfl (md_1 hmh21) (ky_inb z63) ?_
          refine bk_st (B := md_B G a) hmh21 frh21 1 (Int32.toNatClampNeg x1) 3 (by decide) (fun h64 hmh64 frh64 => ?_)
          obtain ⟨q65, eq65⟩ : ∃ z, z = (bk_w q22 1 (Int32.toNatClampNeg x1) 3) := ⟨_, rfl⟩
          rw [← eq65] at hmh64
          replace e := ky_letE eq65 e
          refine (?_ : ky_V _ _ _ 67 _ _ _ _)
          refine v_aload_n (i := 35) (j := 0) rfl rfl (?_ : ky_V _ _ _ 68 _ _ _ _)
          refine gf_X12_13 rfl (i := 36) rfl (md_0 hmh64) rfl (?_ : ky_V _ _ _ 71 _ _ _ _)
          refine v_iload_n (i := 37) (j := 2) rfl rfl (?_ : ky_V _ _ _ 72 _ _ _ _)
          refine v_iald (i := 38) rfl (md_1 hmh64) (ky_inb z63) (?_ : ky_V _ _ _ 73 _ (.int (q65 1 (Int32.toNatClampNeg x1)) :: _) _ _)
          refine v_if_ge (tgt := 78) (i := 39) rfl (by decide) (fun c66 => ?_) (fun c66 => ?_)
          · replace e := ky_ifT c66 e
            refine v_aload_n (i := 42) (j := 0) rfl rfl (?_ : ky_V _ _ _ 79 _ _ _ _)
            refine gf_X12_13 rfl (i := 43) rfl (md_0 hmh64) rfl (?_ : ky_V _ _ _ 82 _ _ _ _)
            refine v_iload_n (i := 44) (j := 2) rfl rfl (?_ : ky_V _ _ _ 83 _ _ _ _)
            refine v_iconst (v := 1) (i := 45) rfl (by decide) (?_ : ky_V _ _ _ 84 _ _ _ _)
            refine v_iadd (i := 46) rfl (?_ : ky_V _ _ _ 85 _ _ _ _)
            refine v_aload_n (i := 47) (j := 0) rfl rfl (?_ : ky_V _ _ _ 86 _ _ _ _)
            refine v_iconst (v := 0) (i := 48) rfl (by decide) (?_ : ky_V _ _ _ 87 _ _ _ _)
            refine v_bipush (v := 9) (i := 49) rfl (by decide) (?_ : ky_V _ _ _ 89 _ _ _ _)
            obtain ⟨⟨q68, x69⟩, g70, e⟩ := Option.bind_eq_some_iff.mp e
            refine cl_X12_109 (As := [.int 0, .int 9]) rfl (i := 50) rfl (md_0 hmh64) rfl rfl (Nat.le_of_ble_eq_true rfl) (k_X12_number N hmh64 g70 (fun h67 hmh67 frh67 => ⟨_, rfl, (?_ : ky_V _ _ _ 92 _ [.int x69, .int ((x1 + 1)), .ref ((a + 1))] _ _)⟩))
            have frh67 := frh64.tr frh67
            obtain ⟨z71, e⟩ := ky_chkE e
            refine v_iast (i := 51) rfl (md_1 hmh67) (ky_inb z71) ?_
            refine bk_st (B := md_B G a) hmh67 frh67 1 (Int32.toNatClampNeg (x1 + 1)) x69 (by decide) (fun h72 hmh72 frh72 => ?_)
            obtain ⟨q73, eq73⟩ : ∃ z, z = (bk_w q68 1 (Int32.toNatClampNeg (x1 + 1)) x69) := ⟨_, rfl⟩
            rw [← eq73] at hmh72
            replace e := ky_letE eq73 e
            refine (?_ : ky_V _ _ _ 93 _ _ _ _)
            refine v_aload_n (i := 52) (j := 0) rfl rfl (?_ : ky_V _ _ _ 94 _ _ _ _)
            refine gf_X12_13 rfl (i := 53) rfl (md_0 hmh72) rfl (?_ : ky_V _ _ _ 97 _ _ _ _)
            refine v_iload_n (i := 54) (j := 2) rfl rfl (?_ : ky_V _ _ _ 98 _ _ _ _)
            refine v_iconst (v := 1) (i := 55) rfl (by decide) (?_ : ky_V _ _ _ 99 _ _ _ _)
            refine v_iadd (i := 56) rfl (?_ : ky_V _ _ _ 100 _ _ _ _)
            refine v_iald (i := 57) rfl (md_1 hmh72) (ky_inb z71) (?_ : ky_V _ _ _ 101 _ (.int (q73 1 (Int32.toNatClampNeg (x1 + 1))) :: _) _ _)
            refine v_if_ge (tgt := 106) (i := 58) rfl (by decide) (fun c74 => ?_) (fun c74 => ?_)
            · replace e := ky_ifT c74 e
              refine v_aload_n (i := 61) (j := 0) rfl rfl (?_ : ky_V _ _ _ 107 _ _ _ _)
              refine gf_X12_13 rfl (i := 62) rfl (md_0 hmh72) rfl (?_ : ky_V _ _ _ 110 _ _ _ _)
              refine v_iload_n (i := 63) (j := 2) rfl rfl (?_ : ky_V _ _ _ 111 _ _ _ _)
              refine v_iconst (v := 2) (i := 64) rfl (by decide) (?_ : ky_V _ _ _ 112 _ _ _ _)
              refine v_iadd (i := 65) rfl (?_ : ky_V _ _ _ 113 _ _ _ _)
              refine v_aload_n (i := 66) (j := 0) rfl rfl (?_ : ky_V _ _ _ 114 _ _ _ _)
              refine gf_X12_175 rfl (i := 67) rfl (md_0 hmh72) rfl (?_ : ky_V _ _ _ 117 _ _ _ _)
              refine v_topi (fun x75 ex75 => ?_)
              replace e := ky_letE ex75 e
              obtain ⟨z76, e⟩ := ky_chkE e
              refine v_iast (i := 68) rfl (md_1 hmh72) (ky_inb z76) ?_
              refine bk_st (B := md_B G a) hmh72 frh72 1 (Int32.toNatClampNeg (x1 + 2)) x75 (by decide) (fun h77 hmh77 frh77 => ?_)
              obtain ⟨q78, eq78⟩ : ∃ z, z = (bk_w q73 1 (Int32.toNatClampNeg (x1 + 2)) x75) := ⟨_, rfl⟩
              rw [← eq78] at hmh77
              replace e := ky_letE eq78 e
              refine (?_ : ky_V _ _ _ 118 _ _ _ _)
              refine v_aload_n (i := 69) (j := 0) rfl rfl (?_ : ky_V _ _ _ 119 _ _ _ _)
              refine v_iconst (v := 0) (i := 70) rfl (by decide) (?_ : ky_V _ _ _ 120 _ _ _ _)
              refine pf_X12_192 rfl (i := 71) rfl (md_0 hmh77) (Nat.le_of_ble_eq_true rfl) rfl rfl ?_
              refine bk_st (B := md_B G a) hmh77 frh77 0 13 0 (by decide) (fun h79 hmh79 frh79 => ?_)
              obtain ⟨q80, eq80⟩ : ∃ z, z = (bk_w q78 0 13 0) := ⟨_, rfl⟩
              rw [← eq80] at hmh79
              replace e := ky_letE eq80 e
              refine (?_ : ky_V _ _ _ 123 _ _ _ _)
              refine v_aload_n (i := 72) (j := 0) rfl rfl (?_ : ky_V _ _ _ 124 _ _ _ _)
              obtain ⟨s81, hvs81, hss81⟩ := sg_X12_222 hG
              refine v_ldcS (i := 73) hvs81 rfl (?_ : ky_V _ _ _ 126 _ _ _ _)
              obtain ⟨⟨q83, x84⟩, g85, e⟩ := Option.bind_eq_some_iff.mp e
              refine cl_X12_200 (As := [.ref s81]) rfl (i := 74) rfl (md_0 hmh79) rfl rfl (Nat.le_of_ble_eq_true rfl) (k_X12_passes N hG hmh79 hss81 g85 (fun h82 hmh82 frh82 => ⟨_, rfl, (?_ : ky_V _ _ _ 129 _ [.int x84] _ _)⟩))
              have frh82 := frh79.tr frh82
              refine v_if_eq (tgt := 141) (i := 75) rfl (by decide) (fun c86 => ?_) (fun c86 => ?_)
              · replace e := ky_ifT c86 e
                refine v_aload_n (i := 81) (j := 0) rfl rfl (?_ : ky_V _ _ _ 142 _ _ _ _)
                refine gf_X12_13 rfl (i := 82) rfl (md_0 hmh82) rfl (?_ : ky_V _ _ _ 145 _ _ _ _)
                refine v_iload_n (i := 83) (j := 2) rfl rfl (?_ : ky_V _ _ _ 146 _ _ _ _)
                refine v_iconst (v := 3) (i := 84) rfl (by decide) (?_ : ky_V _ _ _ 147 _ _ _ _)
                refine v_iadd (i := 85) rfl (?_ : ky_V _ _ _ 148 _ _ _ _)
                refine v_aload_n (i := 86) (j := 0) rfl rfl (?_ : ky_V _ _ _ 149 _ _ _ _)
                refine gf_X12_175 rfl (i := 87) rfl (md_0 hmh82) rfl (?_ : ky_V _ _ _ 152 _ _ _ _)
                refine v_topi (fun x87 ex87 => ?_)
                replace e := ky_letE ex87 e
                obtain ⟨z88, e⟩ := ky_chkE e
                refine v_iast (i := 88) rfl (md_1 hmh82) (ky_inb z88) ?_
                refine bk_st (B := md_B G a) hmh82 frh82 1 (Int32.toNatClampNeg (x1 + 3)) x87 (by decide) (fun h89 hmh89 frh89 => ?_)
                obtain ⟨q90, eq90⟩ : ∃ z, z = (bk_w q83 1 (Int32.toNatClampNeg (x1 + 3)) x87) := ⟨_, rfl⟩
                rw [← eq90] at hmh89
                replace e := ky_letE eq90 e
                refine (?_ : ky_V _ _ _ 153 _ _ _ _)
                refine v_iconst (v := 1) (i := 89) rfl (by decide) (?_ : ky_V _ _ _ 154 _ _ _ _)
                refine v_iret (v := 1) (ty := .boolean) (i := 90) rfl rfl (by decide) ?_
                obtain ⟨rfl, rfl⟩ := ky_leaf e
                exact hr _ hmh89 frh89
              · replace e := ky_ifF c86 e
                refine v_aload_n (i := 76) (j := 0) rfl rfl (?_ : ky_V _ _ _ 133 _ _ _ _)
                obtain ⟨⟨q92, x93⟩, g94, e⟩ := Option.bind_eq_some_iff.mp e
                refine cl_X12_195 (As := []) rfl (i := 77) rfl (md_0 hmh82) rfl rfl (Nat.le_of_ble_eq_true rfl) (k_X12_readCondT N hG hmh82 g94 (fun h91 hmh91 frh91 => ⟨_, rfl, (?_ : ky_V _ _ _ 136 _ [.int x93] _ _)⟩))
                have frh91 := frh82.tr frh91
                refine v_if_ne (tgt := 141) (i := 78) rfl (by decide) (fun c95 => ?_) (fun c95 => ?_)
                · replace e := ky_ifF c95 e
                  refine v_aload_n (i := 81) (j := 0) rfl rfl (?_ : ky_V _ _ _ 142 _ _ _ _)
                  refine gf_X12_13 rfl (i := 82) rfl (md_0 hmh91) rfl (?_ : ky_V _ _ _ 145 _ _ _ _)
                  refine v_iload_n (i := 83) (j := 2) rfl rfl (?_ : ky_V _ _ _ 146 _ _ _ _)
                  refine v_iconst (v := 3) (i := 84) rfl (by decide) (?_ : ky_V _ _ _ 147 _ _ _ _)
                  refine v_iadd (i := 85) rfl (?_ : ky_V _ _ _ 148 _ _ _ _)
                  refine v_aload_n (i := 86) (j := 0) rfl rfl (?_ : ky_V _ _ _ 149 _ _ _ _)
                  refine gf_X12_175 rfl (i := 87) rfl (md_0 hmh91) rfl (?_ : ky_V _ _ _ 152 _ _ _ _)
                  refine v_topi (fun x96 ex96 => ?_)
                  replace e := ky_letE ex96 e
                  obtain ⟨z97, e⟩ := ky_chkE e
                  refine v_iast (i := 88) rfl (md_1 hmh91) (ky_inb z97) ?_
                  refine bk_st (B := md_B G a) hmh91 frh91 1 (Int32.toNatClampNeg (x1 + 3)) x96 (by decide) (fun h98 hmh98 frh98 => ?_)
                  obtain ⟨q99, eq99⟩ : ∃ z, z = (bk_w q92 1 (Int32.toNatClampNeg (x1 + 3)) x96) := ⟨_, rfl⟩
                  rw [← eq99] at hmh98
                  replace e := ky_letE eq99 e
                  refine (?_ : ky_V _ _ _ 153 _ _ _ _)
                  refine v_iconst (v := 1) (i := 89) rfl (by decide) (?_ : ky_V _ _ _ 154 _ _ _ _)
                  refine v_iret (v := 1) (ty := .boolean) (i := 90) rfl rfl (by decide) ?_
                  obtain ⟨rfl, rfl⟩ := ky_leaf e
                  exact hr _ hmh98 frh98
                · replace e := ky_ifT c95 e
                  refine v_iconst (v := 0) (i := 79) rfl (by decide) (?_ : ky_V _ _ _ 140 _ _ _ _)
                  refine v_iret (v := 0) (ty := .boolean) (i := 80) rfl rfl (by decide) ?_
                  obtain ⟨rfl, rfl⟩ := ky_leaf e
                  exact hr _ hmh91 frh91
            · replace e := ky_ifF c74 e
              refine v_iconst (v := 0) (i := 59) rfl (by decide) (?_ : ky_V _ _ _ 105 _ _ _ _)
              refine v_iret (v := 0) (ty := .boolean) (i := 60) rfl rfl (by decide) ?_
              obtain ⟨rfl, rfl⟩ := ky_leaf e
              exact hr _ hmh72 frh72
          · replace e := ky_ifF c66 e
            refine v_iconst (v := 0) (i := 40) rfl (by decide) (?_ : ky_V _ _ _ 77 _ _ _ _)
            refine v_iret (v := 0) (ty := .boolean) (i := 41) rfl rfl (by decide) ?_
            obtain ⟨rfl, rfl⟩ := ky_leaf e
            exact hr _ hmh64 frh64
      · replace e := ky_ifF c19 e
        refine v_iconst (v := 2) (i := 25) rfl (by decide) (?_ : ky_V _ _ _ 49 _ _ _ _)
        refine v_goto (tgt := 66) (i := 26) rfl (by decide) (?_ : ky_V _ _ _ 66 _ _ _ _)
        obtain ⟨z100, e⟩ := ky_chkE e
        refine v_iast (i := 34) rfl (md_1 hmh15) (ky_inb z100) ?_
        refine bk_st (B := md_B G a) hmh15 frh15 1 (Int32.toNatClampNeg x1) 2 (by decide) (fun h101 hmh101 frh101 => ?_)
        obtain ⟨q102, eq102⟩ : ∃ z, z = (bk_w q16 1 (Int32.toNatClampNeg x1) 2) := ⟨_, rfl⟩
        rw [← eq102] at hmh101
        replace e := ky_letE eq102 e
        refine (?_ : ky_V _ _ _ 67 _ _ _ _)
        refine v_aload_n (i := 35) (j := 0) rfl rfl (?_ : ky_V _ _ _ 68 _ _ _ _)
        refine gf_X12_13 rfl (i := 36) rfl (md_0 hmh101) rfl (?_ : ky_V _ _ _ 71 _ _ _ _)
        refine v_iload_n (i := 37) (j := 2) rfl rfl (?_ : ky_V _ _ _ 72 _ _ _ _)
        refine v_iald (i := 38) rfl (md_1 hmh101) (ky_inb z100) (?_ : ky_V _ _ _ 73 _ (.int (q102 1 (Int32.toNatClampNeg x1)) :: _) _ _)
        refine v_if_ge (tgt := 78) (i := 39) rfl (by decide) (fun c103 => ?_) (fun c103 => ?_)
        · replace e := ky_ifT c103 e
          refine v_aload_n (i := 42) (j := 0) rfl rfl (?_ : ky_V _ _ _ 79 _ _ _ _)
          refine gf_X12_13 rfl (i := 43) rfl (md_0 hmh101) rfl (?_ : ky_V _ _ _ 82 _ _ _ _)
          refine v_iload_n (i := 44) (j := 2) rfl rfl (?_ : ky_V _ _ _ 83 _ _ _ _)
          refine v_iconst (v := 1) (i := 45) rfl (by decide) (?_ : ky_V _ _ _ 84 _ _ _ _)
          refine v_iadd (i := 46) rfl (?_ : ky_V _ _ _ 85 _ _ _ _)
          refine v_aload_n (i := 47) (j := 0) rfl rfl (?_ : ky_V _ _ _ 86 _ _ _ _)
          refine v_iconst (v := 0) (i := 48) rfl (by decide) (?_ : ky_V _ _ _ 87 _ _ _ _)
          refine v_bipush (v := 9) (i := 49) rfl (by decide) (?_ : ky_V _ _ _ 89 _ _ _ _)
          obtain ⟨⟨q105, x106⟩, g107, e⟩ := Option.bind_eq_some_iff.mp e
          refine cl_X12_109 (As := [.int 0, .int 9]) rfl (i := 50) rfl (md_0 hmh101) rfl rfl (Nat.le_of_ble_eq_true rfl) (k_X12_number N hmh101 g107 (fun h104 hmh104 frh104 => ⟨_, rfl, (?_ : ky_V _ _ _ 92 _ [.int x106, .int ((x1 + 1)), .ref ((a + 1))] _ _)⟩))
          have frh104 := frh101.tr frh104
          obtain ⟨z108, e⟩ := ky_chkE e
          refine v_iast (i := 51) rfl (md_1 hmh104) (ky_inb z108) ?_
          refine bk_st (B := md_B G a) hmh104 frh104 1 (Int32.toNatClampNeg (x1 + 1)) x106 (by decide) (fun h109 hmh109 frh109 => ?_)
          obtain ⟨q110, eq110⟩ : ∃ z, z = (bk_w q105 1 (Int32.toNatClampNeg (x1 + 1)) x106) := ⟨_, rfl⟩
          rw [← eq110] at hmh109
          replace e := ky_letE eq110 e
          refine (?_ : ky_V _ _ _ 93 _ _ _ _)
          refine v_aload_n (i := 52) (j := 0) rfl rfl (?_ : ky_V _ _ _ 94 _ _ _ _)
          refine gf_X12_13 rfl (i := 53) rfl (md_0 hmh109) rfl (?_ : ky_V _ _ _ 97 _ _ _ _)
          refine v_iload_n (i := 54) (j := 2) rfl rfl (?_ : ky_V _ _ _ 98 _ _ _ _)
          refine v_iconst (v := 1) (i := 55) rfl (by decide) (?_ : ky_V _ _ _ 99 _ _ _ _)
          refine v_iadd (i := 56) rfl (?_ : ky_V _ _ _ 100 _ _ _ _)
          refine v_iald (i := 57) rfl (md_1 hmh109) (ky_inb z108) (?_ : ky_V _ _ _ 101 _ (.int (q110 1 (Int32.toNatClampNeg (x1 + 1))) :: _) _ _)
          refine v_if_ge (tgt := 106) (i := 58) rfl (by decide) (fun c111 => ?_) (fun c111 => ?_)
          · replace e := ky_ifT c111 e
            refine v_aload_n (i := 61) (j := 0) rfl rfl (?_ : ky_V _ _ _ 107 _ _ _ _)
            refine gf_X12_13 rfl (i := 62) rfl (md_0 hmh109) rfl (?_ : ky_V _ _ _ 110 _ _ _ _)
            refine v_iload_n (i := 63) (j := 2) rfl rfl (?_ : ky_V _ _ _ 111 _ _ _ _)
            refine v_iconst (v := 2) (i := 64) rfl (by decide) (?_ : ky_V _ _ _ 112 _ _ _ _)
            refine v_iadd (i := 65) rfl (?_ : ky_V _ _ _ 113 _ _ _ _)
            refine v_aload_n (i := 66) (j := 0) rfl rfl (?_ : ky_V _ _ _ 114 _ _ _ _)
            refine gf_X12_175 rfl (i := 67) rfl (md_0 hmh109) rfl (?_ : ky_V _ _ _ 117 _ _ _ _)
            refine v_topi (fun x112 ex112 => ?_)
            replace e := ky_letE ex112 e
            obtain ⟨z113, e⟩ := ky_chkE e
            refine v_iast (i := 68) rfl (md_1 hmh109) (ky_inb z113) ?_
            refine bk_st (B := md_B G a) hmh109 frh109 1 (Int32.toNatClampNeg (x1 + 2)) x112 (by decide) (fun h114 hmh114 frh114 => ?_)
            obtain ⟨q115, eq115⟩ : ∃ z, z = (bk_w q110 1 (Int32.toNatClampNeg (x1 + 2)) x112) := ⟨_, rfl⟩
            rw [← eq115] at hmh114
            replace e := ky_letE eq115 e
            refine (?_ : ky_V _ _ _ 118 _ _ _ _)
            refine v_aload_n (i := 69) (j := 0) rfl rfl (?_ : ky_V _ _ _ 119 _ _ _ _)
            refine v_iconst (v := 0) (i := 70) rfl (by decide) (?_ : ky_V _ _ _ 120 _ _ _ _)
            refine pf_X12_192 rfl (i := 71) rfl (md_0 hmh114) (Nat.le_of_ble_eq_true rfl) rfl rfl ?_
            refine bk_st (B := md_B G a) hmh114 frh114 0 13 0 (by decide) (fun h116 hmh116 frh116 => ?_)
            obtain ⟨q117, eq117⟩ : ∃ z, z = (bk_w q115 0 13 0) := ⟨_, rfl⟩
            rw [← eq117] at hmh116
            replace e := ky_letE eq117 e
            refine (?_ : ky_V _ _ _ 123 _ _ _ _)
            refine v_aload_n (i := 72) (j := 0) rfl rfl (?_ : ky_V _ _ _ 124 _ _ _ _)
            obtain ⟨s118, hvs118, hss118⟩ := sg_X12_222 hG
            refine v_ldcS (i := 73) hvs118 rfl (?_ : ky_V _ _ _ 126 _ _ _ _)
            obtain ⟨⟨q120, x121⟩, g122, e⟩ := Option.bind_eq_some_iff.mp e
            refine cl_X12_200 (As := [.ref s118]) rfl (i := 74) rfl (md_0 hmh116) rfl rfl (Nat.le_of_ble_eq_true rfl) (k_X12_passes N hG hmh116 hss118 g122 (fun h119 hmh119 frh119 => ⟨_, rfl, (?_ : ky_V _ _ _ 129 _ [.int x121] _ _)⟩))
            have frh119 := frh116.tr frh119
            refine v_if_eq (tgt := 141) (i := 75) rfl (by decide) (fun c123 => ?_) (fun c123 => ?_)
            · replace e := ky_ifT c123 e
              refine v_aload_n (i := 81) (j := 0) rfl rfl (?_ : ky_V _ _ _ 142 _ _ _ _)
              refine gf_X12_13 rfl (i := 82) rfl (md_0 hmh119) rfl (?_ : ky_V _ _ _ 145 _ _ _ _)
              refine v_iload_n (i := 83) (j := 2) rfl rfl (?_ : ky_V _ _ _ 146 _ _ _ _)
              refine v_iconst (v := 3) (i := 84) rfl (by decide) (?_ : ky_V _ _ _ 147 _ _ _ _)
              refine v_iadd (i := 85) rfl (?_ : ky_V _ _ _ 148 _ _ _ _)
              refine v_aload_n (i := 86) (j := 0) rfl rfl (?_ : ky_V _ _ _ 149 _ _ _ _)
              refine gf_X12_175 rfl (i := 87) rfl (md_0 hmh119) rfl (?_ : ky_V _ _ _ 152 _ _ _ _)
              refine v_topi (fun x124 ex124 => ?_)
              replace e := ky_letE ex124 e
              obtain ⟨z125, e⟩ := ky_chkE e
              refine v_iast (i := 88) rfl (md_1 hmh119) (ky_inb z125) ?_
              refine bk_st (B := md_B G a) hmh119 frh119 1 (Int32.toNatClampNeg (x1 + 3)) x124 (by decide) (fun h126 hmh126 frh126 => ?_)
              obtain ⟨q127, eq127⟩ : ∃ z, z = (bk_w q120 1 (Int32.toNatClampNeg (x1 + 3)) x124) := ⟨_, rfl⟩
              rw [← eq127] at hmh126
              replace e := ky_letE eq127 e
              refine (?_ : ky_V _ _ _ 153 _ _ _ _)
              refine v_iconst (v := 1) (i := 89) rfl (by decide) (?_ : ky_V _ _ _ 154 _ _ _ _)
              refine v_iret (v := 1) (ty := .boolean) (i := 90) rfl rfl (by decide) ?_
              obtain ⟨rfl, rfl⟩ := ky_leaf e
              exact hr _ hmh126 frh126
            · replace e := ky_ifF c123 e
              refine v_aload_n (i := 76) (j := 0) rfl rfl (?_ : ky_V _ _ _ 133 _ _ _ _)
              obtain ⟨⟨q129, x130⟩, g131, e⟩ := Option.bind_eq_some_iff.mp e
              refine cl_X12_195 (As := []) rfl (i := 77) rfl (md_0 hmh119) rfl rfl (Nat.le_of_ble_eq_true rfl) (k_X12_readCondT N hG hmh119 g131 (fun h128 hmh128 frh128 => ⟨_, rfl, (?_ : ky_V _ _ _ 136 _ [.int x130] _ _)⟩))
              have frh128 := frh119.tr frh128
              refine v_if_ne (tgt := 141) (i := 78) rfl (by decide) (fun c132 => ?_) (fun c132 => ?_)
              · replace e := ky_ifF c132 e
                refine v_aload_n (i := 81) (j := 0) rfl rfl (?_ : ky_V _ _ _ 142 _ _ _ _)
                refine gf_X12_13 rfl (i := 82) rfl (md_0 hmh128) rfl (?_ : ky_V _ _ _ 145 _ _ _ _)
                refine v_iload_n (i := 83) (j := 2) rfl rfl (?_ : ky_V _ _ _ 146 _ _ _ _)
                refine v_iconst (v := 3) (i := 84) rfl (by decide) (?_ : ky_V _ _ _ 147 _ _ _ _)
                refine v_iadd (i := 85) rfl (?_ : ky_V _ _ _ 148 _ _ _ _)
                refine v_aload_n (i := 86) (j := 0) rfl rfl (?_ : ky_V _ _ _ 149 _ _ _ _)
                refine gf_X12_175 rfl (i := 87) rfl (md_0 hmh128) rfl (?_ : ky_V _ _ _ 152 _ _ _ _)
                refine v_topi (fun x133 ex133 => ?_)
                replace e := ky_letE ex133 e
                obtain ⟨z134, e⟩ := ky_chkE e
                refine v_iast (i := 88) rfl (md_1 hmh128) (ky_inb z134) ?_
                refine bk_st (B := md_B G a) hmh128 frh128 1 (Int32.toNatClampNeg (x1 + 3)) x133 (by decide) (fun h135 hmh135 frh135 => ?_)
                obtain ⟨q136, eq136⟩ : ∃ z, z = (bk_w q129 1 (Int32.toNatClampNeg (x1 + 3)) x133) := ⟨_, rfl⟩
                rw [← eq136] at hmh135
                replace e := ky_letE eq136 e
                refine (?_ : ky_V _ _ _ 153 _ _ _ _)
                refine v_iconst (v := 1) (i := 89) rfl (by decide) (?_ : ky_V _ _ _ 154 _ _ _ _)
                refine v_iret (v := 1) (ty := .boolean) (i := 90) rfl rfl (by decide) ?_
                obtain ⟨rfl, rfl⟩ := ky_leaf e
                exact hr _ hmh135 frh135
              · replace e := ky_ifT c132 e
                refine v_iconst (v := 0) (i := 79) rfl (by decide) (?_ : ky_V _ _ _ 140 _ _ _ _)
                refine v_iret (v := 0) (ty := .boolean) (i := 80) rfl rfl (by decide) ?_
                obtain ⟨rfl, rfl⟩ := ky_leaf e
                exact hr _ hmh128 frh128
          · replace e := ky_ifF c111 e
            refine v_iconst (v := 0) (i := 59) rfl (by decide) (?_ : ky_V _ _ _ 105 _ _ _ _)
            refine v_iret (v := 0) (ty := .boolean) (i := 60) rfl rfl (by decide) ?_
            obtain ⟨rfl, rfl⟩ := ky_leaf e
            exact hr _ hmh109 frh109
        · replace e := ky_ifF c103 e
          refine v_iconst (v := 0) (i := 40) rfl (by decide) (?_ : ky_V _ _ _ 77 _ _ _ _)
          refine v_iret (v := 0) (ty := .boolean) (i := 41) rfl rfl (by decide) ?_
          obtain ⟨rfl, rfl⟩ := ky_leaf e
          exact hr _ hmh101 frh101
    · replace e := ky_ifF c13 e
      refine v_iconst (v := 1) (i := 19) rfl (by decide) (?_ : ky_V _ _ _ 36 _ _ _ _)
      refine v_goto (tgt := 66) (i := 20) rfl (by decide) (?_ : ky_V _ _ _ 66 _ _ _ _)
      obtain ⟨z137, e⟩ := ky_chkE e
      refine v_iast (i := 34) rfl (md_1 hmh9) (ky_inb z137) ?_
      refine bk_st (B := md_B G a) hmh9 frh9 1 (Int32.toNatClampNeg x1) 1 (by decide) (fun h138 hmh138 frh138 => ?_)
      obtain ⟨q139, eq139⟩ : ∃ z, z = (bk_w q10 1 (Int32.toNatClampNeg x1) 1) := ⟨_, rfl⟩
      rw [← eq139] at hmh138
      replace e := ky_letE eq139 e
      refine (?_ : ky_V _ _ _ 67 _ _ _ _)
      refine v_aload_n (i := 35) (j := 0) rfl rfl (?_ : ky_V _ _ _ 68 _ _ _ _)
      refine gf_X12_13 rfl (i := 36) rfl (md_0 hmh138) rfl (?_ : ky_V _ _ _ 71 _ _ _ _)
      refine v_iload_n (i := 37) (j := 2) rfl rfl (?_ : ky_V _ _ _ 72 _ _ _ _)
      refine v_iald (i := 38) rfl (md_1 hmh138) (ky_inb z137) (?_ : ky_V _ _ _ 73 _ (.int (q139 1 (Int32.toNatClampNeg x1)) :: _) _ _)
      refine v_if_ge (tgt := 78) (i := 39) rfl (by decide) (fun c140 => ?_) (fun c140 => ?_)
      · replace e := ky_ifT c140 e
        refine v_aload_n (i := 42) (j := 0) rfl rfl (?_ : ky_V _ _ _ 79 _ _ _ _)
        refine gf_X12_13 rfl (i := 43) rfl (md_0 hmh138) rfl (?_ : ky_V _ _ _ 82 _ _ _ _)
        refine v_iload_n (i := 44) (j := 2) rfl rfl (?_ : ky_V _ _ _ 83 _ _ _ _)
        refine v_iconst (v := 1) (i := 45) rfl (by decide) (?_ : ky_V _ _ _ 84 _ _ _ _)
        refine v_iadd (i := 46) rfl (?_ : ky_V _ _ _ 85 _ _ _ _)
        refine v_aload_n (i := 47) (j := 0) rfl rfl (?_ : ky_V _ _ _ 86 _ _ _ _)
        refine v_iconst (v := 0) (i := 48) rfl (by decide) (?_ : ky_V _ _ _ 87 _ _ _ _)
        refine v_bipush (v := 9) (i := 49) rfl (by decide) (?_ : ky_V _ _ _ 89 _ _ _ _)
        obtain ⟨⟨q142, x143⟩, g144, e⟩ := Option.bind_eq_some_iff.mp e
        refine cl_X12_109 (As := [.int 0, .int 9]) rfl (i := 50) rfl (md_0 hmh138) rfl rfl (Nat.le_of_ble_eq_true rfl) (k_X12_number N hmh138 g144 (fun h141 hmh141 frh141 => ⟨_, rfl, (?_ : ky_V _ _ _ 92 _ [.int x143, .int ((x1 + 1)), .ref ((a + 1))] _ _)⟩))
        have frh141 := frh138.tr frh141
        obtain ⟨z145, e⟩ := ky_chkE e
        refine v_iast (i := 51) rfl (md_1 hmh141) (ky_inb z145) ?_
        refine bk_st (B := md_B G a) hmh141 frh141 1 (Int32.toNatClampNeg (x1 + 1)) x143 (by decide) (fun h146 hmh146 frh146 => ?_)
        obtain ⟨q147, eq147⟩ : ∃ z, z = (bk_w q142 1 (Int32.toNatClampNeg (x1 + 1)) x143) := ⟨_, rfl⟩
        rw [← eq147] at hmh146
        replace e := ky_letE eq147 e
        refine (?_ : ky_V _ _ _ 93 _ _ _ _)
        refine v_aload_n (i := 52) (j := 0) rfl rfl (?_ : ky_V _ _ _ 94 _ _ _ _)
        refine gf_X12_13 rfl (i := 53) rfl (md_0 hmh146) rfl (?_ : ky_V _ _ _ 97 _ _ _ _)
        refine v_iload_n (i := 54) (j := 2) rfl rfl (?_ : ky_V _ _ _ 98 _ _ _ _)
        refine v_iconst (v := 1) (i := 55) rfl (by decide) (?_ : ky_V _ _ _ 99 _ _ _ _)
        refine v_iadd (i := 56) rfl (?_ : ky_V _ _ _ 100 _ _ _ _)
        refine v_iald (i := 57) rfl (md_1 hmh146) (ky_inb z145) (?_ : ky_V _ _ _ 101 _ (.int (q147 1 (Int32.toNatClampNeg (x1 + 1))) :: _) _ _)
        refine v_if_ge (tgt := 106) (i := 58) rfl (by decide) (fun c148 => ?_) (fun c148 => ?_)
        · replace e := ky_ifT c148 e
          refine v_aload_n (i := 61) (j := 0) rfl rfl (?_ : ky_V _ _ _ 107 _ _ _ _)
          refine gf_X12_13 rfl (i := 62) rfl (md_0 hmh146) rfl (?_ : ky_V _ _ _ 110 _ _ _ _)
          refine v_iload_n (i := 63) (j := 2) rfl rfl (?_ : ky_V _ _ _ 111 _ _ _ _)
          refine v_iconst (v := 2) (i := 64) rfl (by decide) (?_ : ky_V _ _ _ 112 _ _ _ _)
          refine v_iadd (i := 65) rfl (?_ : ky_V _ _ _ 113 _ _ _ _)
          refine v_aload_n (i := 66) (j := 0) rfl rfl (?_ : ky_V _ _ _ 114 _ _ _ _)
          refine gf_X12_175 rfl (i := 67) rfl (md_0 hmh146) rfl (?_ : ky_V _ _ _ 117 _ _ _ _)
          refine v_topi (fun x149 ex149 => ?_)
          replace e := ky_letE ex149 e
          obtain ⟨z150, e⟩ := ky_chkE e
          refine v_iast (i := 68) rfl (md_1 hmh146) (ky_inb z150) ?_
          refine bk_st (B := md_B G a) hmh146 frh146 1 (Int32.toNatClampNeg (x1 + 2)) x149 (by decide) (fun h151 hmh151 frh151 => ?_)
          obtain ⟨q152, eq152⟩ : ∃ z, z = (bk_w q147 1 (Int32.toNatClampNeg (x1 + 2)) x149) := ⟨_, rfl⟩
          rw [← eq152] at hmh151
          replace e := ky_letE eq152 e
          refine (?_ : ky_V _ _ _ 118 _ _ _ _)
          refine v_aload_n (i := 69) (j := 0) rfl rfl (?_ : ky_V _ _ _ 119 _ _ _ _)
          refine v_iconst (v := 0) (i := 70) rfl (by decide) (?_ : ky_V _ _ _ 120 _ _ _ _)
          refine pf_X12_192 rfl (i := 71) rfl (md_0 hmh151) (Nat.le_of_ble_eq_true rfl) rfl rfl ?_
          refine bk_st (B := md_B G a) hmh151 frh151 0 13 0 (by decide) (fun h153 hmh153 frh153 => ?_)
          obtain ⟨q154, eq154⟩ : ∃ z, z = (bk_w q152 0 13 0) := ⟨_, rfl⟩
          rw [← eq154] at hmh153
          replace e := ky_letE eq154 e
          refine (?_ : ky_V _ _ _ 123 _ _ _ _)
          refine v_aload_n (i := 72) (j := 0) rfl rfl (?_ : ky_V _ _ _ 124 _ _ _ _)
          obtain ⟨s155, hvs155, hss155⟩ := sg_X12_222 hG
          refine v_ldcS (i := 73) hvs155 rfl (?_ : ky_V _ _ _ 126 _ _ _ _)
          obtain ⟨⟨q157, x158⟩, g159, e⟩ := Option.bind_eq_some_iff.mp e
          refine cl_X12_200 (As := [.ref s155]) rfl (i := 74) rfl (md_0 hmh153) rfl rfl (Nat.le_of_ble_eq_true rfl) (k_X12_passes N hG hmh153 hss155 g159 (fun h156 hmh156 frh156 => ⟨_, rfl, (?_ : ky_V _ _ _ 129 _ [.int x158] _ _)⟩))
          have frh156 := frh153.tr frh156
          refine v_if_eq (tgt := 141) (i := 75) rfl (by decide) (fun c160 => ?_) (fun c160 => ?_)
          · replace e := ky_ifT c160 e
            refine v_aload_n (i := 81) (j := 0) rfl rfl (?_ : ky_V _ _ _ 142 _ _ _ _)
            refine gf_X12_13 rfl (i := 82) rfl (md_0 hmh156) rfl (?_ : ky_V _ _ _ 145 _ _ _ _)
            refine v_iload_n (i := 83) (j := 2) rfl rfl (?_ : ky_V _ _ _ 146 _ _ _ _)
            refine v_iconst (v := 3) (i := 84) rfl (by decide) (?_ : ky_V _ _ _ 147 _ _ _ _)
            refine v_iadd (i := 85) rfl (?_ : ky_V _ _ _ 148 _ _ _ _)
            refine v_aload_n (i := 86) (j := 0) rfl rfl (?_ : ky_V _ _ _ 149 _ _ _ _)
            refine gf_X12_175 rfl (i := 87) rfl (md_0 hmh156) rfl (?_ : ky_V _ _ _ 152 _ _ _ _)
            refine v_topi (fun x161 ex161 => ?_)
            replace e := ky_letE ex161 e
            obtain ⟨z162, e⟩ := ky_chkE e
            refine v_iast (i := 88) rfl (md_1 hmh156) (ky_inb z162) ?_
            refine bk_st (B := md_B G a) hmh156 frh156 1 (Int32.toNatClampNeg (x1 + 3)) x161 (by decide) (fun h163 hmh163 frh163 => ?_)
            obtain ⟨q164, eq164⟩ : ∃ z, z = (bk_w q157 1 (Int32.toNatClampNeg (x1 + 3)) x161) := ⟨_, rfl⟩
            rw [← eq164] at hmh163
            replace e := ky_letE eq164 e
            refine (?_ : ky_V _ _ _ 153 _ _ _ _)
            refine v_iconst (v := 1) (i := 89) rfl (by decide) (?_ : ky_V _ _ _ 154 _ _ _ _)
            refine v_iret (v := 1) (ty := .boolean) (i := 90) rfl rfl (by decide) ?_
            obtain ⟨rfl, rfl⟩ := ky_leaf e
            exact hr _ hmh163 frh163
          · replace e := ky_ifF c160 e
            refine v_aload_n (i := 76) (j := 0) rfl rfl (?_ : ky_V _ _ _ 133 _ _ _ _)
            obtain ⟨⟨q166, x167⟩, g168, e⟩ := Option.bind_eq_some_iff.mp e
            refine cl_X12_195 (As := []) rfl (i := 77) rfl (md_0 hmh156) rfl rfl (Nat.le_of_ble_eq_true rfl) (k_X12_readCondT N hG hmh156 g168 (fun h165 hmh165 frh165 => ⟨_, rfl, (?_ : ky_V _ _ _ 136 _ [.int x167] _ _)⟩))
            have frh165 := frh156.tr frh165
            refine v_if_ne (tgt := 141) (i := 78) rfl (by decide) (fun c169 => ?_) (fun c169 => ?_)
            · replace e := ky_ifF c169 e
              refine v_aload_n (i := 81) (j := 0) rfl rfl (?_ : ky_V _ _ _ 142 _ _ _ _)
              refine gf_X12_13 rfl (i := 82) rfl (md_0 hmh165) rfl (?_ : ky_V _ _ _ 145 _ _ _ _)
              refine v_iload_n (i := 83) (j := 2) rfl rfl (?_ : ky_V _ _ _ 146 _ _ _ _)
              refine v_iconst (v := 3) (i := 84) rfl (by decide) (?_ : ky_V _ _ _ 147 _ _ _ _)
              refine v_iadd (i := 85) rfl (?_ : ky_V _ _ _ 148 _ _ _ _)
              refine v_aload_n (i := 86) (j := 0) rfl rfl (?_ : ky_V _ _ _ 149 _ _ _ _)
              refine gf_X12_175 rfl (i := 87) rfl (md_0 hmh165) rfl (?_ : ky_V _ _ _ 152 _ _ _ _)
              refine v_topi (fun x170 ex170 => ?_)
              replace e := ky_letE ex170 e
              obtain ⟨z171, e⟩ := ky_chkE e
              refine v_iast (i := 88) rfl (md_1 hmh165) (ky_inb z171) ?_
              refine bk_st (B := md_B G a) hmh165 frh165 1 (Int32.toNatClampNeg (x1 + 3)) x170 (by decide) (fun h172 hmh172 frh172 => ?_)
              obtain ⟨q173, eq173⟩ : ∃ z, z = (bk_w q166 1 (Int32.toNatClampNeg (x1 + 3)) x170) := ⟨_, rfl⟩
              rw [← eq173] at hmh172
              replace e := ky_letE eq173 e
              refine (?_ : ky_V _ _ _ 153 _ _ _ _)
              refine v_iconst (v := 1) (i := 89) rfl (by decide) (?_ : ky_V _ _ _ 154 _ _ _ _)
              refine v_iret (v := 1) (ty := .boolean) (i := 90) rfl rfl (by decide) ?_
              obtain ⟨rfl, rfl⟩ := ky_leaf e
              exact hr _ hmh172 frh172
            · replace e := ky_ifT c169 e
              refine v_iconst (v := 0) (i := 79) rfl (by decide) (?_ : ky_V _ _ _ 140 _ _ _ _)
              refine v_iret (v := 0) (ty := .boolean) (i := 80) rfl rfl (by decide) ?_
              obtain ⟨rfl, rfl⟩ := ky_leaf e
              exact hr _ hmh165 frh165
        · replace e := ky_ifF c148 e
          refine v_iconst (v := 0) (i := 59) rfl (by decide) (?_ : ky_V _ _ _ 105 _ _ _ _)
          refine v_iret (v := 0) (ty := .boolean) (i := 60) rfl rfl (by decide) ?_
          obtain ⟨rfl, rfl⟩ := ky_leaf e
          exact hr _ hmh146 frh146
      · replace e := ky_ifF c140 e
        refine v_iconst (v := 0) (i := 40) rfl (by decide) (?_ : ky_V _ _ _ 77 _ _ _ _)
        refine v_iret (v := 0) (ty := .boolean) (i := 41) rfl rfl (by decide) ?_
        obtain ⟨rfl, rfl⟩ := ky_leaf e
        exact hr _ hmh138 frh138
  · replace e := ky_ifF c7 e
    refine v_iconst (v := 0) (i := 13) rfl (by decide) (?_ : ky_V _ _ _ 23 _ _ _ _)
    refine v_goto (tgt := 66) (i := 14) rfl (by decide) (?_ : ky_V _ _ _ 66 _ _ _ _)
    obtain ⟨z174, e⟩ := ky_chkE e
    refine v_iast (i := 34) rfl (md_1 hmh3) (ky_inb z174) ?_
    refine bk_st (B := md_B G a) hmh3 frh3 1 (Int32.toNatClampNeg x1) 0 (by decide) (fun h175 hmh175 frh175 => ?_)
    obtain ⟨q176, eq176⟩ : ∃ z, z = (bk_w q4 1 (Int32.toNatClampNeg x1) 0) := ⟨_, rfl⟩
    rw [← eq176] at hmh175
    replace e := ky_letE eq176 e
    refine (?_ : ky_V _ _ _ 67 _ _ _ _)
    refine v_aload_n (i := 35) (j := 0) rfl rfl (?_ : ky_V _ _ _ 68 _ _ _ _)
    refine gf_X12_13 rfl (i := 36) rfl (md_0 hmh175) rfl (?_ : ky_V _ _ _ 71 _ _ _ _)
    refine v_iload_n (i := 37) (j := 2) rfl rfl (?_ : ky_V _ _ _ 72 _ _ _ _)
    refine v_iald (i := 38) rfl (md_1 hmh175) (ky_inb z174) (?_ : ky_V _ _ _ 73 _ (.int (q176 1 (Int32.toNatClampNeg x1)) :: _) _ _)
    refine v_if_ge (tgt := 78) (i := 39) rfl (by decide) (fun c177 => ?_) (fun c177 => ?_)
    · replace e := ky_ifT c177 e
      refine v_aload_n (i := 42) (j := 0) rfl rfl (?_ : ky_V _ _ _ 79 _ _ _ _)
      refine gf_X12_13 rfl (i := 43) rfl (md_0 hmh175) rfl (?_ : ky_V _ _ _ 82 _ _ _ _)
      refine v_iload_n (i := 44) (j := 2) rfl rfl (?_ : ky_V _ _ _ 83 _ _ _ _)
      refine v_iconst (v := 1) (i := 45) rfl (by decide) (?_ : ky_V _ _ _ 84 _ _ _ _)
      refine v_iadd (i := 46) rfl (?_ : ky_V _ _ _ 85 _ _ _ _)
      refine v_aload_n (i := 47) (j := 0) rfl rfl (?_ : ky_V _ _ _ 86 _ _ _ _)
      refine v_iconst (v := 0) (i := 48) rfl (by decide) (?_ : ky_V _ _ _ 87 _ _ _ _)
      refine v_bipush (v := 9) (i := 49) rfl (by decide) (?_ : ky_V _ _ _ 89 _ _ _ _)
      obtain ⟨⟨q179, x180⟩, g181, e⟩ := Option.bind_eq_some_iff.mp e
      refine cl_X12_109 (As := [.int 0, .int 9]) rfl (i := 50) rfl (md_0 hmh175) rfl rfl (Nat.le_of_ble_eq_true rfl) (k_X12_number N hmh175 g181 (fun h178 hmh178 frh178 => ⟨_, rfl, (?_ : ky_V _ _ _ 92 _ [.int x180, .int ((x1 + 1)), .ref ((a + 1))] _ _)⟩))
      have frh178 := frh175.tr frh178
      obtain ⟨z182, e⟩ := ky_chkE e
      refine v_iast (i := 51) rfl (md_1 hmh178) (ky_inb z182) ?_
      refine bk_st (B := md_B G a) hmh178 frh178 1 (Int32.toNatClampNeg (x1 + 1)) x180 (by decide) (fun h183 hmh183 frh183 => ?_)
      obtain ⟨q184, eq184⟩ : ∃ z, z = (bk_w q179 1 (Int32.toNatClampNeg (x1 + 1)) x180) := ⟨_, rfl⟩
      rw [← eq184] at hmh183
      replace e := ky_letE eq184 e
      refine (?_ : ky_V _ _ _ 93 _ _ _ _)
      refine v_aload_n (i := 52) (j := 0) rfl rfl (?_ : ky_V _ _ _ 94 _ _ _ _)
      refine gf_X12_13 rfl (i := 53) rfl (md_0 hmh183) rfl (?_ : ky_V _ _ _ 97 _ _ _ _)
      refine v_iload_n (i := 54) (j := 2) rfl rfl (?_ : ky_V _ _ _ 98 _ _ _ _)
      refine v_iconst (v := 1) (i := 55) rfl (by decide) (?_ : ky_V _ _ _ 99 _ _ _ _)
      refine v_iadd (i := 56) rfl (?_ : ky_V _ _ _ 100 _ _ _ _)
      refine v_iald (i := 57) rfl (md_1 hmh183) (ky_inb z182) (?_ : ky_V _ _ _ 101 _ (.int (q184 1 (Int32.toNatClampNeg (x1 + 1))) :: _) _ _)
      refine v_if_ge (tgt := 106) (i := 58) rfl (by decide) (fun c185 => ?_) (fun c185 => ?_)
      · replace e := ky_ifT c185 e
        refine v_aload_n (i := 61) (j := 0) rfl rfl (?_ : ky_V _ _ _ 107 _ _ _ _)
        refine gf_X12_13 rfl (i := 62) rfl (md_0 hmh183) rfl (?_ : ky_V _ _ _ 110 _ _ _ _)
        refine v_iload_n (i := 63) (j := 2) rfl rfl (?_ : ky_V _ _ _ 111 _ _ _ _)
        refine v_iconst (v := 2) (i := 64) rfl (by decide) (?_ : ky_V _ _ _ 112 _ _ _ _)
        refine v_iadd (i := 65) rfl (?_ : ky_V _ _ _ 113 _ _ _ _)
        refine v_aload_n (i := 66) (j := 0) rfl rfl (?_ : ky_V _ _ _ 114 _ _ _ _)
        refine gf_X12_175 rfl (i := 67) rfl (md_0 hmh183) rfl (?_ : ky_V _ _ _ 117 _ _ _ _)
        refine v_topi (fun x186 ex186 => ?_)
        replace e := ky_letE ex186 e
        obtain ⟨z187, e⟩ := ky_chkE e
        refine v_iast (i := 68) rfl (md_1 hmh183) (ky_inb z187) ?_
        refine bk_st (B := md_B G a) hmh183 frh183 1 (Int32.toNatClampNeg (x1 + 2)) x186 (by decide) (fun h188 hmh188 frh188 => ?_)
        obtain ⟨q189, eq189⟩ : ∃ z, z = (bk_w q184 1 (Int32.toNatClampNeg (x1 + 2)) x186) := ⟨_, rfl⟩
        rw [← eq189] at hmh188
        replace e := ky_letE eq189 e
        refine (?_ : ky_V _ _ _ 118 _ _ _ _)
        refine v_aload_n (i := 69) (j := 0) rfl rfl (?_ : ky_V _ _ _ 119 _ _ _ _)
        refine v_iconst (v := 0) (i := 70) rfl (by decide) (?_ : ky_V _ _ _ 120 _ _ _ _)
        refine pf_X12_192 rfl (i := 71) rfl (md_0 hmh188) (Nat.le_of_ble_eq_true rfl) rfl rfl ?_
        refine bk_st (B := md_B G a) hmh188 frh188 0 13 0 (by decide) (fun h190 hmh190 frh190 => ?_)
        obtain ⟨q191, eq191⟩ : ∃ z, z = (bk_w q189 0 13 0) := ⟨_, rfl⟩
        rw [← eq191] at hmh190
        replace e := ky_letE eq191 e
        refine (?_ : ky_V _ _ _ 123 _ _ _ _)
        refine v_aload_n (i := 72) (j := 0) rfl rfl (?_ : ky_V _ _ _ 124 _ _ _ _)
        obtain ⟨s192, hvs192, hss192⟩ := sg_X12_222 hG
        refine v_ldcS (i := 73) hvs192 rfl (?_ : ky_V _ _ _ 126 _ _ _ _)
        obtain ⟨⟨q194, x195⟩, g196, e⟩ := Option.bind_eq_some_iff.mp e
        refine cl_X12_200 (As := [.ref s192]) rfl (i := 74) rfl (md_0 hmh190) rfl rfl (Nat.le_of_ble_eq_true rfl) (k_X12_passes N hG hmh190 hss192 g196 (fun h193 hmh193 frh193 => ⟨_, rfl, (?_ : ky_V _ _ _ 129 _ [.int x195] _ _)⟩))
        have frh193 := frh190.tr frh193
        refine v_if_eq (tgt := 141) (i := 75) rfl (by decide) (fun c197 => ?_) (fun c197 => ?_)
        · replace e := ky_ifT c197 e
          refine v_aload_n (i := 81) (j := 0) rfl rfl (?_ : ky_V _ _ _ 142 _ _ _ _)
          refine gf_X12_13 rfl (i := 82) rfl (md_0 hmh193) rfl (?_ : ky_V _ _ _ 145 _ _ _ _)
          refine v_iload_n (i := 83) (j := 2) rfl rfl (?_ : ky_V _ _ _ 146 _ _ _ _)
          refine v_iconst (v := 3) (i := 84) rfl (by decide) (?_ : ky_V _ _ _ 147 _ _ _ _)
          refine v_iadd (i := 85) rfl (?_ : ky_V _ _ _ 148 _ _ _ _)
          refine v_aload_n (i := 86) (j := 0) rfl rfl (?_ : ky_V _ _ _ 149 _ _ _ _)
          refine gf_X12_175 rfl (i := 87) rfl (md_0 hmh193) rfl (?_ : ky_V _ _ _ 152 _ _ _ _)
          refine v_topi (fun x198 ex198 => ?_)
          replace e := ky_letE ex198 e
          obtain ⟨z199, e⟩ := ky_chkE e
          refine v_iast (i := 88) rfl (md_1 hmh193) (ky_inb z199) ?_
          refine bk_st (B := md_B G a) hmh193 frh193 1 (Int32.toNatClampNeg (x1 + 3)) x198 (by decide) (fun h200 hmh200 frh200 => ?_)
          obtain ⟨q201, eq201⟩ : ∃ z, z = (bk_w q194 1 (Int32.toNatClampNeg (x1 + 3)) x198) := ⟨_, rfl⟩
          rw [← eq201] at hmh200
          replace e := ky_letE eq201 e
          refine (?_ : ky_V _ _ _ 153 _ _ _ _)
          refine v_iconst (v := 1) (i := 89) rfl (by decide) (?_ : ky_V _ _ _ 154 _ _ _ _)
          refine v_iret (v := 1) (ty := .boolean) (i := 90) rfl rfl (by decide) ?_
          obtain ⟨rfl, rfl⟩ := ky_leaf e
          exact hr _ hmh200 frh200
        · replace e := ky_ifF c197 e
          refine v_aload_n (i := 76) (j := 0) rfl rfl (?_ : ky_V _ _ _ 133 _ _ _ _)
          obtain ⟨⟨q203, x204⟩, g205, e⟩ := Option.bind_eq_some_iff.mp e
          refine cl_X12_195 (As := []) rfl (i := 77) rfl (md_0 hmh193) rfl rfl (Nat.le_of_ble_eq_true rfl) (k_X12_readCondT N hG hmh193 g205 (fun h202 hmh202 frh202 => ⟨_, rfl, (?_ : ky_V _ _ _ 136 _ [.int x204] _ _)⟩))
          have frh202 := frh193.tr frh202
          refine v_if_ne (tgt := 141) (i := 78) rfl (by decide) (fun c206 => ?_) (fun c206 => ?_)
          · replace e := ky_ifF c206 e
            refine v_aload_n (i := 81) (j := 0) rfl rfl (?_ : ky_V _ _ _ 142 _ _ _ _)
            refine gf_X12_13 rfl (i := 82) rfl (md_0 hmh202) rfl (?_ : ky_V _ _ _ 145 _ _ _ _)
            refine v_iload_n (i := 83) (j := 2) rfl rfl (?_ : ky_V _ _ _ 146 _ _ _ _)
            refine v_iconst (v := 3) (i := 84) rfl (by decide) (?_ : ky_V _ _ _ 147 _ _ _ _)
            refine v_iadd (i := 85) rfl (?_ : ky_V _ _ _ 148 _ _ _ _)
            refine v_aload_n (i := 86) (j := 0) rfl rfl (?_ : ky_V _ _ _ 149 _ _ _ _)
            refine gf_X12_175 rfl (i := 87) rfl (md_0 hmh202) rfl (?_ : ky_V _ _ _ 152 _ _ _ _)
            refine v_topi (fun x207 ex207 => ?_)
            replace e := ky_letE ex207 e
            obtain ⟨z208, e⟩ := ky_chkE e
            refine v_iast (i := 88) rfl (md_1 hmh202) (ky_inb z208) ?_
            refine bk_st (B := md_B G a) hmh202 frh202 1 (Int32.toNatClampNeg (x1 + 3)) x207 (by decide) (fun h209 hmh209 frh209 => ?_)
            obtain ⟨q210, eq210⟩ : ∃ z, z = (bk_w q203 1 (Int32.toNatClampNeg (x1 + 3)) x207) := ⟨_, rfl⟩
            rw [← eq210] at hmh209
            replace e := ky_letE eq210 e
            refine (?_ : ky_V _ _ _ 153 _ _ _ _)
            refine v_iconst (v := 1) (i := 89) rfl (by decide) (?_ : ky_V _ _ _ 154 _ _ _ _)
            refine v_iret (v := 1) (ty := .boolean) (i := 90) rfl rfl (by decide) ?_
            obtain ⟨rfl, rfl⟩ := ky_leaf e
            exact hr _ hmh209 frh209
          · replace e := ky_ifT c206 e
            refine v_iconst (v := 0) (i := 79) rfl (by decide) (?_ : ky_V _ _ _ 140 _ _ _ _)
            refine v_iret (v := 0) (ty := .boolean) (i := 80) rfl rfl (by decide) ?_
            obtain ⟨rfl, rfl⟩ := ky_leaf e
            exact hr _ hmh202 frh202
      · replace e := ky_ifF c185 e
        refine v_iconst (v := 0) (i := 59) rfl (by decide) (?_ : ky_V _ _ _ 105 _ _ _ _)
        refine v_iret (v := 0) (ty := .boolean) (i := 60) rfl rfl (by decide) ?_
        obtain ⟨rfl, rfl⟩ := ky_leaf e
        exact hr _ hmh183 frh183
    · replace e := ky_ifF c177 e
      refine v_iconst (v := 0) (i := 40) rfl (by decide) (?_ : ky_V _ _ _ 77 _ _ _ _)
      refine v_iret (v := 0) (ty := .boolean) (i := 41) rfl rfl (by decide) ?_
      obtain ⟨rfl, rfl⟩ := ky_leaf e
      exact hr _ hmh175 frh175

def md_readLine (N : Nat)  (c : (Nat → Nat → Int32)) (p1 : Int32) (p2 : Int32) : Option ((Nat → Nat → Int32) × Int32) := ((md_letters N c).bind (fun zz => (fun q2 x3 => (if p1 = 0 then (if (12 : Int32) ≤ p2 then (some (q2, 0)) else (if p1 = 0 then ((md_readLawLine N q2 p2).bind (fun zz => (fun q9 x10 => (if x10 = 0 then (some (q9, 0)) else (some (q9, 1)))) zz.1 zz.2)) else ((md_readBeachLine N q2).bind (fun zz => (fun q14 x15 => (if x15 = 0 then (some (q14, 0)) else (some (q14, 1)))) zz.1 zz.2)))) else (if (14 : Int32) ≤ p2 then (some (q2, 0)) else (if p1 = 0 then ((md_readLawLine N q2 p2).bind (fun zz => (fun q21 x22 => (if x22 = 0 then (some (q21, 0)) else (some (q21, 1)))) zz.1 zz.2)) else ((md_readBeachLine N q2).bind (fun zz => (fun q26 x27 => (if x27 = 0 then (some (q26, 0)) else (some (q26, 1)))) zz.1 zz.2)))))) zz.1 zz.2))
set_option maxRecDepth 20000 in
set_option maxHeartbeats 4000000 in
theorem k_X12_readLine {G : ky_GW} {d : Nat} {h : ky_HP} {Q : ky_RS → ky_HP → Prop} {a : Nat} {c c9 : (Nat → Nat → Int32)} {r9 : Int32} {p1 : Int32} {p2 : Int32} (N : Nat) (hG : ky_OK G)   (hm : md_at G h a c)  (e : md_readLine N  c p1 p2 = some (c9, r9)) (hr : ∀ h1, md_at G h1 a c9 → bk_fr a 13 h h1 → Q (.inl (some (.int r9))) h1) : ky_Call G (d + 48) M_X12_readLine [.ref a, .int p1, .int p2] h Q := by
  refine ky_ofV (by decide +kernel) rfl ok_X12_readLine (Nat.le_of_ble_eq_true rfl) ?_
  have fr : bk_fr a 13 h h := bk_fr.rf
  unfold md_readLine at e
  refine (?_ : ky_V _ _ _ 0 [(0, .ref a), (1, .int p1), (2, .int p2)] [] _ _)
  refine v_aload_n (i := 0) (j := 0) rfl rfl (?_ : ky_V _ _ _ 1 _ _ _ _)
  obtain ⟨⟨q2, x3⟩, g4, e⟩ := Option.bind_eq_some_iff.mp e
  refine cl_X12_102 (As := []) rfl (i := 1) rfl (md_0 hm) rfl rfl (Nat.le_of_ble_eq_true rfl) (k_X12_letters N hm g4 (fun h1 hmh1 frh1 => ⟨_, rfl, (?_ : ky_V _ _ _ 4 _ [] _ _)⟩))
  have frh1 := fr.tr frh1
  refine v_iload_n (i := 2) (j := 2) rfl rfl (?_ : ky_V _ _ _ 5 _ _ _ _)
  refine v_iload_n (i := 3) (j := 1) rfl rfl (?_ : ky_V _ _ _ 6 _ _ _ _)
  refine v_if_eq (tgt := 14) (i := 4) rfl (by decide) (fun c5 => ?_) (fun c5 => ?_)
  · replace e := ky_ifT c5 e
    refine v_bipush (v := 12) (i := 7) rfl (by decide) (?_ : ky_V _ _ _ 16 _ _ _ _)
    refine v_icmp_ge (tgt := 45) (i := 8) rfl (by decide) (fun c6 => ?_) (fun c6 => ?_)
    · replace e := ky_ifT c6 e
      refine v_iconst (v := 0) (i := 21) rfl (by decide) (?_ : ky_V _ _ _ 46 _ _ _ _)
      refine v_iret (v := 0) (ty := .boolean) (i := 22) rfl rfl (by decide) ?_
      obtain ⟨rfl, rfl⟩ := ky_leaf e
      exact hr _ hmh1 frh1
    · replace e := ky_ifF c6 e
      refine v_iload_n (i := 9) (j := 1) rfl rfl (?_ : ky_V _ _ _ 20 _ _ _ _)
      refine v_if_eq (tgt := 33) (i := 10) rfl (by decide) (fun c7 => ?_) (fun c7 => ?_)
      · replace e := ky_ifT c7 e
        refine v_aload_n (i := 15) (j := 0) rfl rfl (?_ : ky_V _ _ _ 34 _ _ _ _)
        refine v_iload_n (i := 16) (j := 2) rfl rfl (?_ : ky_V _ _ _ 35 _ _ _ _)
        obtain ⟨⟨q9, x10⟩, g11, e⟩ := Option.bind_eq_some_iff.mp e
        refine cl_X12_227 (As := [.int p2]) rfl (i := 17) rfl (md_0 hmh1) rfl rfl (Nat.le_of_ble_eq_true rfl) (k_X12_readLawLine N hG hmh1 g11 (fun h8 hmh8 frh8 => ⟨_, rfl, (?_ : ky_V _ _ _ 38 _ [.int x10] _ _)⟩))
        have frh8 := frh1.tr frh8
        refine v_if_eq (tgt := 45) (i := 18) rfl (by decide) (fun c12 => ?_) (fun c12 => ?_)
        · replace e := ky_ifT c12 e
          refine v_iconst (v := 0) (i := 21) rfl (by decide) (?_ : ky_V _ _ _ 46 _ _ _ _)
          refine v_iret (v := 0) (ty := .boolean) (i := 22) rfl rfl (by decide) ?_
          obtain ⟨rfl, rfl⟩ := ky_leaf e
          exact hr _ hmh8 frh8
        · replace e := ky_ifF c12 e
          refine v_iconst (v := 1) (i := 19) rfl (by decide) (?_ : ky_V _ _ _ 42 _ _ _ _)
          refine v_goto (tgt := 46) (i := 20) rfl (by decide) (?_ : ky_V _ _ _ 46 _ _ _ _)
          refine v_iret (v := 1) (ty := .boolean) (i := 22) rfl rfl (by decide) ?_
          obtain ⟨rfl, rfl⟩ := ky_leaf e
          exact hr _ hmh8 frh8
      · replace e := ky_ifF c7 e
        refine v_aload_n (i := 11) (j := 0) rfl rfl (?_ : ky_V _ _ _ 24 _ _ _ _)
        obtain ⟨⟨q14, x15⟩, g16, e⟩ := Option.bind_eq_some_iff.mp e
        refine cl_X12_224 (As := []) rfl (i := 12) rfl (md_0 hmh1) rfl rfl (Nat.le_of_ble_eq_true rfl) (k_X12_readBeachLine N hG hmh1 g16 (fun h13 hmh13 frh13 => ⟨_, rfl, (?_ : ky_V _ _ _ 27 _ [.int x15] _ _)⟩))
        have frh13 := frh1.tr frh13
        refine v_if_eq (tgt := 45) (i := 13) rfl (by decide) (fun c17 => ?_) (fun c17 => ?_)
        · replace e := ky_ifT c17 e
          refine v_iconst (v := 0) (i := 21) rfl (by decide) (?_ : ky_V _ _ _ 46 _ _ _ _)
          refine v_iret (v := 0) (ty := .boolean) (i := 22) rfl rfl (by decide) ?_
          obtain ⟨rfl, rfl⟩ := ky_leaf e
          exact hr _ hmh13 frh13
        · replace e := ky_ifF c17 e
          refine v_goto (tgt := 41) (i := 14) rfl (by decide) (?_ : ky_V _ _ _ 41 _ _ _ _)
          refine v_iconst (v := 1) (i := 19) rfl (by decide) (?_ : ky_V _ _ _ 42 _ _ _ _)
          refine v_goto (tgt := 46) (i := 20) rfl (by decide) (?_ : ky_V _ _ _ 46 _ _ _ _)
          refine v_iret (v := 1) (ty := .boolean) (i := 22) rfl rfl (by decide) ?_
          obtain ⟨rfl, rfl⟩ := ky_leaf e
          exact hr _ hmh13 frh13
  · replace e := ky_ifF c5 e
    refine v_bipush (v := 14) (i := 5) rfl (by decide) (?_ : ky_V _ _ _ 11 _ _ _ _)
    refine v_goto (tgt := 16) (i := 6) rfl (by decide) (?_ : ky_V _ _ _ 16 _ _ _ _)
    refine v_icmp_ge (tgt := 45) (i := 8) rfl (by decide) (fun c18 => ?_) (fun c18 => ?_)
    · replace e := ky_ifT c18 e
      refine v_iconst (v := 0) (i := 21) rfl (by decide) (?_ : ky_V _ _ _ 46 _ _ _ _)
      refine v_iret (v := 0) (ty := .boolean) (i := 22) rfl rfl (by decide) ?_
      obtain ⟨rfl, rfl⟩ := ky_leaf e
      exact hr _ hmh1 frh1
    · replace e := ky_ifF c18 e
      refine v_iload_n (i := 9) (j := 1) rfl rfl (?_ : ky_V _ _ _ 20 _ _ _ _)
      refine v_if_eq (tgt := 33) (i := 10) rfl (by decide) (fun c19 => ?_) (fun c19 => ?_)
      · replace e := ky_ifT c19 e
        refine v_aload_n (i := 15) (j := 0) rfl rfl (?_ : ky_V _ _ _ 34 _ _ _ _)
        refine v_iload_n (i := 16) (j := 2) rfl rfl (?_ : ky_V _ _ _ 35 _ _ _ _)
        obtain ⟨⟨q21, x22⟩, g23, e⟩ := Option.bind_eq_some_iff.mp e
        refine cl_X12_227 (As := [.int p2]) rfl (i := 17) rfl (md_0 hmh1) rfl rfl (Nat.le_of_ble_eq_true rfl) (k_X12_readLawLine N hG hmh1 g23 (fun h20 hmh20 frh20 => ⟨_, rfl, (?_ : ky_V _ _ _ 38 _ [.int x22] _ _)⟩))
        have frh20 := frh1.tr frh20
        refine v_if_eq (tgt := 45) (i := 18) rfl (by decide) (fun c24 => ?_) (fun c24 => ?_)
        · replace e := ky_ifT c24 e
          refine v_iconst (v := 0) (i := 21) rfl (by decide) (?_ : ky_V _ _ _ 46 _ _ _ _)
          refine v_iret (v := 0) (ty := .boolean) (i := 22) rfl rfl (by decide) ?_
          obtain ⟨rfl, rfl⟩ := ky_leaf e
          exact hr _ hmh20 frh20
        · replace e := ky_ifF c24 e
          refine v_iconst (v := 1) (i := 19) rfl (by decide) (?_ : ky_V _ _ _ 42 _ _ _ _)
          refine v_goto (tgt := 46) (i := 20) rfl (by decide) (?_ : ky_V _ _ _ 46 _ _ _ _)
          refine v_iret (v := 1) (ty := .boolean) (i := 22) rfl rfl (by decide) ?_
          obtain ⟨rfl, rfl⟩ := ky_leaf e
          exact hr _ hmh20 frh20
      · replace e := ky_ifF c19 e
        refine v_aload_n (i := 11) (j := 0) rfl rfl (?_ : ky_V _ _ _ 24 _ _ _ _)
        obtain ⟨⟨q26, x27⟩, g28, e⟩ := Option.bind_eq_some_iff.mp e
        refine cl_X12_224 (As := []) rfl (i := 12) rfl (md_0 hmh1) rfl rfl (Nat.le_of_ble_eq_true rfl) (k_X12_readBeachLine N hG hmh1 g28 (fun h25 hmh25 frh25 => ⟨_, rfl, (?_ : ky_V _ _ _ 27 _ [.int x27] _ _)⟩))
        have frh25 := frh1.tr frh25
        refine v_if_eq (tgt := 45) (i := 13) rfl (by decide) (fun c29 => ?_) (fun c29 => ?_)
        · replace e := ky_ifT c29 e
          refine v_iconst (v := 0) (i := 21) rfl (by decide) (?_ : ky_V _ _ _ 46 _ _ _ _)
          refine v_iret (v := 0) (ty := .boolean) (i := 22) rfl rfl (by decide) ?_
          obtain ⟨rfl, rfl⟩ := ky_leaf e
          exact hr _ hmh25 frh25
        · replace e := ky_ifF c29 e
          refine v_goto (tgt := 41) (i := 14) rfl (by decide) (?_ : ky_V _ _ _ 41 _ _ _ _)
          refine v_iconst (v := 1) (i := 19) rfl (by decide) (?_ : ky_V _ _ _ 42 _ _ _ _)
          refine v_goto (tgt := 46) (i := 20) rfl (by decide) (?_ : ky_V _ _ _ 46 _ _ _ _)
          refine v_iret (v := 1) (ty := .boolean) (i := 22) rfl rfl (by decide) ?_
          obtain ⟨rfl, rfl⟩ := ky_leaf e
          exact hr _ hmh25 frh25

def md_readAll_L28 (N : Nat)   (k : (Nat → Nat → Int32) → Int32 → Int32 → Option ((Nat → Nat → Int32) × Int32)) : Nat → (Nat → Nat → Int32) → Int32 → Int32 → Option ((Nat → Nat → Int32) × Int32)
  | 0, _, _, _ => none
  | n + 1, c, p1, p2 => ((md_readLine N c p1 p2).bind (fun zz => (fun q2 x3 => (if x3 = 0 then (some (q2, (-1))) else ((md_blanks N q2).bind (fun zz => (fun q7 x8 => (if (q7 0 10) = (q7 0 11) then (some (q7, (p2 + 1))) else (if ((¬ ((q7 0 11) ≤ (q7 0 10))) → ky_inB (q7 0 10) 400 = true) then (if ((¬ ((q7 0 11) ≤ (q7 0 10))) → (¬ ((q7 6 (Int32.toNatClampNeg (q7 0 10))) < 59)) → ky_inB (q7 0 10) 400 = true) then (if (md_isAt_r q7 59 59) = 0 then (k q7 p1 p2) else (ky_let ((q7 0 10) + 1) (fun x14 => (ky_let (bk_w q7 0 10 x14) (fun q16 => (ky_let (p2 + 1) (fun x17 => (md_readAll_L28 N k n q16 p1 x17)))))))) else none) else none))) zz.1 zz.2)))) zz.1 zz.2))
set_option maxRecDepth 20000 in
set_option maxHeartbeats 4000000 in
theorem lv_X12_readAll_28 {G : ky_GW} {d : Nat} {h0 : ky_HP} {Q : ky_RS → ky_HP → Prop} {a : Nat} {c9 : (Nat → Nat → Int32)} {r9 : Int32} (N : Nat) (hG : ky_OK G)     (k : (Nat → Nat → Int32) → Int32 → Int32 → Option ((Nat → Nat → Int32) × Int32)) (hr : ∀ h1, md_at G h1 a c9 → bk_fr a 13 h0 h1 → Q (.inl (some (.int r9))) h1)
    (hk : ∀ (h : ky_HP) (c : (Nat → Nat → Int32)) (p1 : Int32) (p2 : Int32), md_at G h a c → bk_fr a 13 h0 h → k c p1 p2 = some (c9, r9) → ky_V G (d + 49) M_X12_readAll 69 [(0, .ref a), (1, .int p1), (2, .int p2)] [] h Q) :
    ∀ (n : Nat) (h : ky_HP) (c : (Nat → Nat → Int32)) (p1 : Int32) (p2 : Int32), md_at G h a c → bk_fr a 13 h0 h → md_readAll_L28 N  k n c p1 p2 = some (c9, r9) → ky_V G (d + 49) M_X12_readAll 28 [(0, .ref a), (1, .int p1), (2, .int p2)] [] h Q := by
  intro n
  induction n with
  | zero => intro h c p1 p2 hm fr e; cases e
  | succ n ih =>
    intro h c p1 p2 hm fr e
    rw [md_readAll_L28] at e
    refine v_aload_n (i := 16) (j := 0) rfl rfl (?_ : ky_V _ _ _ 29 _ _ _ _)
    refine v_iload_n (i := 17) (j := 1) rfl rfl (?_ : ky_V _ _ _ 30 _ _ _ _)
    refine v_iload_n (i := 18) (j := 2) rfl rfl (?_ : ky_V _ _ _ 31 _ _ _ _)
    obtain ⟨⟨q2, x3⟩, g4, e⟩ := Option.bind_eq_some_iff.mp e
    refine cl_X12_233 (As := [.int p1, .int p2]) rfl (i := 19) rfl (md_0 hm) rfl rfl (Nat.le_of_ble_eq_true rfl) (k_X12_readLine N hG hm g4 (fun h1 hmh1 frh1 => ⟨_, rfl, (?_ : ky_V _ _ _ 34 _ [.int x3] _ _)⟩))
    have frh1 := fr.tr frh1
    refine v_if_ne (tgt := 39) (i := 20) rfl (by decide) (fun c5 => ?_) (fun c5 => ?_)
    · replace e := ky_ifF c5 e
      refine v_aload_n (i := 23) (j := 0) rfl rfl (?_ : ky_V _ _ _ 40 _ _ _ _)
      obtain ⟨⟨q7, x8⟩, g9, e⟩ := Option.bind_eq_some_iff.mp e
      refine cl_X12_90 (As := []) rfl (i := 24) rfl (md_0 hmh1) rfl rfl (Nat.le_of_ble_eq_true rfl) (k_X12_blanks N hmh1 g9 (fun h6 hmh6 frh6 => ⟨_, rfl, (?_ : ky_V _ _ _ 43 _ [] _ _)⟩))
      have frh6 := frh1.tr frh6
      refine v_aload_n (i := 25) (j := 0) rfl rfl (?_ : ky_V _ _ _ 44 _ _ _ _)
      refine gf_X12_77 rfl (i := 26) rfl (md_0 hmh6) rfl (?_ : ky_V _ _ _ 47 _ _ _ _)
      refine v_aload_n (i := 27) (j := 0) rfl rfl (?_ : ky_V _ _ _ 48 _ _ _ _)
      refine gf_X12_80 rfl (i := 28) rfl (md_0 hmh6) rfl (?_ : ky_V _ _ _ 51 _ _ _ _)
      refine v_icmp_ne (tgt := 58) (i := 29) rfl (by decide) (fun c10 => ?_) (fun c10 => ?_)
      · replace e := ky_ifF c10 e
        refine v_aload_n (i := 34) (j := 0) rfl rfl (?_ : ky_V _ _ _ 59 _ _ _ _)
        refine v_bipush (v := 59) (i := 35) rfl (by decide) (?_ : ky_V _ _ _ 61 _ _ _ _)
        refine v_bipush (v := 59) (i := 36) rfl (by decide) (?_ : ky_V _ _ _ 63 _ _ _ _)
        obtain ⟨z11, e⟩ := ky_chkE e
        obtain ⟨z12, e⟩ := ky_chkE e
        refine cl_X12_83 (As := [.int 59, .int 59]) rfl (i := 37) rfl (md_0 hmh6) rfl rfl (Nat.le_of_ble_eq_true rfl) (k_X12_isAt 59 59 hmh6 (fun y0 => ky_inb (z11 y0)) (fun y0 y1 => ky_inb (z12 y0 y1)) ⟨_, rfl, (?_ : ky_V _ _ _ 66 _ [.int ((md_isAt_r q7 59 59))] _ _)⟩)
        refine v_if_ne (tgt := 71) (i := 38) rfl (by decide) (fun c13 => ?_) (fun c13 => ?_)
        · replace e := ky_ifF c13 e
          refine v_aload_n (i := 41) (j := 0) rfl rfl (?_ : ky_V _ _ _ 72 _ _ _ _)
          refine v_dup (i := 42) rfl rfl (?_ : ky_V _ _ _ 73 _ _ _ _)
          refine gf_X12_77 rfl (i := 43) rfl (md_0 hmh6) rfl (?_ : ky_V _ _ _ 76 _ _ _ _)
          refine v_iconst (v := 1) (i := 44) rfl (by decide) (?_ : ky_V _ _ _ 77 _ _ _ _)
          refine v_iadd (i := 45) rfl (?_ : ky_V _ _ _ 78 _ _ _ _)
          refine v_topi (fun x14 ex14 => ?_)
          replace e := ky_letE ex14 e
          refine pf_X12_77 rfl (i := 46) rfl (md_0 hmh6) (Nat.le_of_ble_eq_true rfl) rfl rfl ?_
          refine bk_st (B := md_B G a) hmh6 frh6 0 10 x14 (by decide) (fun h15 hmh15 frh15 => ?_)
          obtain ⟨q16, eq16⟩ : ∃ z, z = (bk_w q7 0 10 x14) := ⟨_, rfl⟩
          rw [← eq16] at hmh15
          replace e := ky_letE eq16 e
          refine (?_ : ky_V _ _ _ 81 _ _ _ _)
          obtain ⟨x17, ex17⟩ : ∃ z : Int32, z = p2 + 1 := ⟨_, rfl⟩
          replace e := ky_letE ex17 e
          refine v_iinc (v := x17) (j := 2) (L' := [(0, .ref a), (1, .int p1), (2, .int x17)]) [1, 2, 0] (i := 47) rfl rfl (by rw [ex17]; rfl) (Nat.le_of_ble_eq_true rfl) rfl (?_ : ky_V _ _ _ 84 _ _ _ _)
          refine v_goto (tgt := 28) (i := 48) rfl (by decide) (?_ : ky_V _ _ _ 28 _ _ _ _)
          exact ih h15 q16 p1 x17 hmh15 frh15 e
        · replace e := ky_ifT c13 e
          exact hk h6 q7 p1 p2 hmh6 frh6 e
      · replace e := ky_ifT c10 e
        refine v_iload_n (i := 30) (j := 2) rfl rfl (?_ : ky_V _ _ _ 55 _ _ _ _)
        refine v_iconst (v := 1) (i := 31) rfl (by decide) (?_ : ky_V _ _ _ 56 _ _ _ _)
        refine v_iadd (i := 32) rfl (?_ : ky_V _ _ _ 57 _ _ _ _)
        refine v_iret (v := (p2 + 1)) (ty := .int) (i := 33) rfl rfl rfl ?_
        obtain ⟨rfl, rfl⟩ := ky_leaf e
        exact hr _ hmh6 frh6
    · replace e := ky_ifT c5 e
      refine v_iconst (v := (-1)) (i := 21) rfl (by decide) (?_ : ky_V _ _ _ 38 _ _ _ _)
      refine v_iret (v := (-1)) (ty := .int) (i := 22) rfl rfl rfl ?_
      obtain ⟨rfl, rfl⟩ := ky_leaf e
      exact hr _ hmh1 frh1

def md_readAll (N : Nat)  (c : (Nat → Nat → Int32)) (p1 : Int32) : Option ((Nat → Nat → Int32) × Int32) := (ky_let (md_uses_c c) (fun q2 => (ky_let (bk_w q2 0 16 0) (fun q4 => ((md_blanks N q4).bind (fun zz => (fun q6 x7 => (if (q6 0 10) = (q6 0 11) then (some (q6, 0)) else (md_readAll_L28 N (fun q11 x12 x13 => (some (q11, (-1)))) N q6 p1 0))) zz.1 zz.2))))))
set_option maxRecDepth 20000 in
set_option maxHeartbeats 4000000 in
theorem k_X12_readAll {G : ky_GW} {d : Nat} {h : ky_HP} {Q : ky_RS → ky_HP → Prop} {a : Nat} {c c9 : (Nat → Nat → Int32)} {r9 : Int32} {p1 : Int32} (N : Nat) (hG : ky_OK G)   (hm : md_at G h a c)  (e : md_readAll N  c p1 = some (c9, r9)) (hr : ∀ h1, md_at G h1 a c9 → bk_fr a 13 h h1 → Q (.inl (some (.int r9))) h1) : ky_Call G (d + 49) M_X12_readAll [.ref a, .int p1] h Q := by
  refine ky_ofV (by decide +kernel) rfl ok_X12_readAll (Nat.le_of_ble_eq_true rfl) ?_
  have fr : bk_fr a 13 h h := bk_fr.rf
  unfold md_readAll at e
  refine (?_ : ky_V _ _ _ 0 [(0, .ref a), (1, .int p1)] [] _ _)
  refine v_aload_n (i := 0) (j := 0) rfl rfl (?_ : ky_V _ _ _ 1 _ _ _ _)
  refine cl_X12_230 (As := []) rfl (i := 1) rfl (md_0 hm) rfl rfl (Nat.le_of_ble_eq_true rfl) (k_X12_uses hm (fun h1 hmh1 frh1 => ⟨_, rfl, (?_ : ky_V _ _ _ 4 _ [] _ _)⟩))
  have frh1 := fr.tr frh1
  obtain ⟨q2, eq2⟩ : ∃ z, z = (md_uses_c c) := ⟨_, rfl⟩
  rw [← eq2] at hmh1
  replace e := ky_letE eq2 e
  refine v_aload_n (i := 2) (j := 0) rfl rfl (?_ : ky_V _ _ _ 5 _ _ _ _)
  refine v_iconst (v := 0) (i := 3) rfl (by decide) (?_ : ky_V _ _ _ 6 _ _ _ _)
  refine pf_X12_175 rfl (i := 4) rfl (md_0 hmh1) (Nat.le_of_ble_eq_true rfl) rfl rfl ?_
  refine bk_st (B := md_B G a) hmh1 frh1 0 16 0 (by decide) (fun h3 hmh3 frh3 => ?_)
  obtain ⟨q4, eq4⟩ : ∃ z, z = (bk_w q2 0 16 0) := ⟨_, rfl⟩
  rw [← eq4] at hmh3
  replace e := ky_letE eq4 e
  refine (?_ : ky_V _ _ _ 9 _ _ _ _)
  refine v_aload_n (i := 5) (j := 0) rfl rfl (?_ : ky_V _ _ _ 10 _ _ _ _)
  obtain ⟨⟨q6, x7⟩, g8, e⟩ := Option.bind_eq_some_iff.mp e
  refine cl_X12_90 (As := []) rfl (i := 6) rfl (md_0 hmh3) rfl rfl (Nat.le_of_ble_eq_true rfl) (k_X12_blanks N hmh3 g8 (fun h5 hmh5 frh5 => ⟨_, rfl, (?_ : ky_V _ _ _ 13 _ [] _ _)⟩))
  have frh5 := frh3.tr frh5
  refine v_aload_n (i := 7) (j := 0) rfl rfl (?_ : ky_V _ _ _ 14 _ _ _ _)
  refine gf_X12_77 rfl (i := 8) rfl (md_0 hmh5) rfl (?_ : ky_V _ _ _ 17 _ _ _ _)
  refine v_aload_n (i := 9) (j := 0) rfl rfl (?_ : ky_V _ _ _ 18 _ _ _ _)
  refine gf_X12_80 rfl (i := 10) rfl (md_0 hmh5) rfl (?_ : ky_V _ _ _ 21 _ _ _ _)
  refine v_icmp_ne (tgt := 26) (i := 11) rfl (by decide) (fun c9 => ?_) (fun c9 => ?_)
  · replace e := ky_ifF c9 e
    refine v_iconst (v := 0) (i := 14) rfl (by decide) (?_ : ky_V _ _ _ 27 _ _ _ _)
    refine v_istore_n (L' := [(0, .ref a), (1, .int p1), (2, .int 0)]) [1, 2, 0] (i := 15) rfl (Nat.le_of_ble_eq_true rfl) rfl (?_ : ky_V _ _ _ 28 _ _ _ _)
    refine lv_X12_readAll_28 N hG _ hr (fun h10 q11 x12 x13 hmh10 frh10 e => ?_) N h5 q6 p1 0 hmh5 frh5 e
    refine v_iconst (v := (-1)) (i := 39) rfl (by decide) (?_ : ky_V _ _ _ 70 _ _ _ _)
    refine v_iret (v := (-1)) (ty := .int) (i := 40) rfl rfl rfl ?_
    obtain ⟨rfl, rfl⟩ := ky_leaf e
    exact hr _ hmh10 frh10
  · replace e := ky_ifT c9 e
    refine v_iconst (v := 0) (i := 12) rfl (by decide) (?_ : ky_V _ _ _ 25 _ _ _ _)
    refine v_iret (v := 0) (ty := .int) (i := 13) rfl rfl rfl ?_
    obtain ⟨rfl, rfl⟩ := ky_leaf e
    exact hr _ hmh5 frh5

def md_beach_L2 (N : Nat)   (k : (Nat → Nat → Int32) → Int32 → Option ((Nat → Nat → Int32) × Int32)) : Nat → (Nat → Nat → Int32) → Int32 → Option ((Nat → Nat → Int32) × Int32)
  | 0, _, _ => none
  | n + 1, c, p1 => (if (1398 : Int32) ≤ p1 then (k c p1) else (if ky_inB p1 2247 = true then (ky_let (c 1 (Int32.toNatClampNeg p1)) (fun x3 => (if ky_inB p1 1398 = true then (ky_let (bk_w c 3 (Int32.toNatClampNeg p1) x3) (fun q6 => (ky_let (p1 + 1) (fun x7 => (md_beach_L2 N k n q6 x7))))) else none))) else none))
set_option maxRecDepth 20000 in
set_option maxHeartbeats 4000000 in
theorem lv_X12_beach_2 {G : ky_GW} {d : Nat} {h0 : ky_HP} {Q : ky_RS → ky_HP → Prop} {a : Nat} {c9 : (Nat → Nat → Int32)} {r9 : Int32} (N : Nat) (hG : ky_OK G)     (k : (Nat → Nat → Int32) → Int32 → Option ((Nat → Nat → Int32) × Int32)) (hr : ∀ h1, md_at G h1 a c9 → bk_fr a 13 h0 h1 → Q (.inl (some (.int r9))) h1)
    (hk : ∀ (h : ky_HP) (c : (Nat → Nat → Int32)) (p1 : Int32), md_at G h a c → bk_fr a 13 h0 h → k c p1 = some (c9, r9) → ky_V G (d + 50) M_X12_beach 27 [(0, .ref a), (1, .int p1)] [] h Q) :
    ∀ (n : Nat) (h : ky_HP) (c : (Nat → Nat → Int32)) (p1 : Int32), md_at G h a c → bk_fr a 13 h0 h → md_beach_L2 N  k n c p1 = some (c9, r9) → ky_V G (d + 50) M_X12_beach 2 [(0, .ref a), (1, .int p1)] [] h Q := by
  intro n
  induction n with
  | zero => intro h c p1 hm fr e; cases e
  | succ n ih =>
    intro h c p1 hm fr e
    rw [md_beach_L2] at e
    refine v_iload_n (i := 2) (j := 1) rfl rfl (?_ : ky_V _ _ _ 3 _ _ _ _)
    refine v_sipush (v := 1398) (i := 3) rfl (by decide) (?_ : ky_V _ _ _ 6 _ _ _ _)
    refine v_icmp_ge (tgt := 27) (i := 4) rfl (by decide) (fun c1 => ?_) (fun c1 => ?_)
    · replace e := ky_ifT c1 e
      exact hk h c p1 hm fr e
    · replace e := ky_ifF c1 e
      refine v_aload_n (i := 5) (j := 0) rfl rfl (?_ : ky_V _ _ _ 10 _ _ _ _)
      refine gf_X12_20 rfl (i := 6) rfl (md_0 hm) rfl (?_ : ky_V _ _ _ 13 _ _ _ _)
      refine v_iload_n (i := 7) (j := 1) rfl rfl (?_ : ky_V _ _ _ 14 _ _ _ _)
      refine v_aload_n (i := 8) (j := 0) rfl rfl (?_ : ky_V _ _ _ 15 _ _ _ _)
      refine gf_X12_13 rfl (i := 9) rfl (md_0 hm) rfl (?_ : ky_V _ _ _ 18 _ _ _ _)
      refine v_iload_n (i := 10) (j := 1) rfl rfl (?_ : ky_V _ _ _ 19 _ _ _ _)
      obtain ⟨z2, e⟩ := ky_chkE e
      refine v_iald (i := 11) rfl (md_1 hm) (ky_inb z2) (?_ : ky_V _ _ _ 20 _ (.int (c 1 (Int32.toNatClampNeg p1)) :: _) _ _)
      refine v_topi (fun x3 ex3 => ?_)
      replace e := ky_letE ex3 e
      obtain ⟨z4, e⟩ := ky_chkE e
      refine v_iast (i := 12) rfl (md_3 hm) (ky_inb z4) ?_
      refine bk_st (B := md_B G a) hm fr 3 (Int32.toNatClampNeg p1) x3 (by decide) (fun h5 hmh5 frh5 => ?_)
      obtain ⟨q6, eq6⟩ : ∃ z, z = (bk_w c 3 (Int32.toNatClampNeg p1) x3) := ⟨_, rfl⟩
      rw [← eq6] at hmh5
      replace e := ky_letE eq6 e
      refine (?_ : ky_V _ _ _ 21 _ _ _ _)
      obtain ⟨x7, ex7⟩ : ∃ z : Int32, z = p1 + 1 := ⟨_, rfl⟩
      replace e := ky_letE ex7 e
      refine v_iinc (v := x7) (j := 1) (L' := [(0, .ref a), (1, .int x7)]) [1, 0] (i := 13) rfl rfl (by rw [ex7]; rfl) (Nat.le_of_ble_eq_true rfl) rfl (?_ : ky_V _ _ _ 24 _ _ _ _)
      refine v_goto (tgt := 2) (i := 14) rfl (by decide) (?_ : ky_V _ _ _ 2 _ _ _ _)
      exact ih h5 q6 x7 hmh5 frh5 e

def md_beach_L93 (N : Nat)   (k : (Nat → Nat → Int32) → Int32 → Int32 → Option ((Nat → Nat → Int32) × Int32)) : Nat → (Nat → Nat → Int32) → Int32 → Int32 → Option ((Nat → Nat → Int32) × Int32)
  | 0, _, _, _ => none
  | n + 1, c, p1, p2 => (if (1398 : Int32) ≤ p2 then (k c p1 p2) else (if ky_inB p2 1398 = true then (ky_let (c 3 (Int32.toNatClampNeg p2)) (fun x3 => (if ky_inB p2 2247 = true then (ky_let (bk_w c 1 (Int32.toNatClampNeg p2) x3) (fun q6 => (ky_let (p2 + 1) (fun x7 => (md_beach_L93 N k n q6 p1 x7))))) else none))) else none))
set_option maxRecDepth 20000 in
set_option maxHeartbeats 4000000 in
theorem lv_X12_beach_93 {G : ky_GW} {d : Nat} {h0 : ky_HP} {Q : ky_RS → ky_HP → Prop} {a : Nat} {c9 : (Nat → Nat → Int32)} {r9 : Int32} (N : Nat) (hG : ky_OK G)     (k : (Nat → Nat → Int32) → Int32 → Int32 → Option ((Nat → Nat → Int32) × Int32)) (hr : ∀ h1, md_at G h1 a c9 → bk_fr a 13 h0 h1 → Q (.inl (some (.int r9))) h1)
    (hk : ∀ (h : ky_HP) (c : (Nat → Nat → Int32)) (p1 : Int32) (p2 : Int32), md_at G h a c → bk_fr a 13 h0 h → k c p1 p2 = some (c9, r9) → ky_V G (d + 50) M_X12_beach 118 [(0, .ref a), (1, .int p1), (2, .int p2)] [] h Q) :
    ∀ (n : Nat) (h : ky_HP) (c : (Nat → Nat → Int32)) (p1 : Int32) (p2 : Int32), md_at G h a c → bk_fr a 13 h0 h → md_beach_L93 N  k n c p1 p2 = some (c9, r9) → ky_V G (d + 50) M_X12_beach 93 [(0, .ref a), (1, .int p1), (2, .int p2)] [] h Q := by
  intro n
  induction n with
  | zero => intro h c p1 p2 hm fr e; cases e
  | succ n ih =>
    intro h c p1 p2 hm fr e
    rw [md_beach_L93] at e
    refine v_iload_n (i := 51) (j := 2) rfl rfl (?_ : ky_V _ _ _ 94 _ _ _ _)
    refine v_sipush (v := 1398) (i := 52) rfl (by decide) (?_ : ky_V _ _ _ 97 _ _ _ _)
    refine v_icmp_ge (tgt := 118) (i := 53) rfl (by decide) (fun c1 => ?_) (fun c1 => ?_)
    · replace e := ky_ifT c1 e
      exact hk h c p1 p2 hm fr e
    · replace e := ky_ifF c1 e
      refine v_aload_n (i := 54) (j := 0) rfl rfl (?_ : ky_V _ _ _ 101 _ _ _ _)
      refine gf_X12_13 rfl (i := 55) rfl (md_0 hm) rfl (?_ : ky_V _ _ _ 104 _ _ _ _)
      refine v_iload_n (i := 56) (j := 2) rfl rfl (?_ : ky_V _ _ _ 105 _ _ _ _)
      refine v_aload_n (i := 57) (j := 0) rfl rfl (?_ : ky_V _ _ _ 106 _ _ _ _)
      refine gf_X12_20 rfl (i := 58) rfl (md_0 hm) rfl (?_ : ky_V _ _ _ 109 _ _ _ _)
      refine v_iload_n (i := 59) (j := 2) rfl rfl (?_ : ky_V _ _ _ 110 _ _ _ _)
      obtain ⟨z2, e⟩ := ky_chkE e
      refine v_iald (i := 60) rfl (md_3 hm) (ky_inb z2) (?_ : ky_V _ _ _ 111 _ (.int (c 3 (Int32.toNatClampNeg p2)) :: _) _ _)
      refine v_topi (fun x3 ex3 => ?_)
      replace e := ky_letE ex3 e
      obtain ⟨z4, e⟩ := ky_chkE e
      refine v_iast (i := 61) rfl (md_1 hm) (ky_inb z4) ?_
      refine bk_st (B := md_B G a) hm fr 1 (Int32.toNatClampNeg p2) x3 (by decide) (fun h5 hmh5 frh5 => ?_)
      obtain ⟨q6, eq6⟩ : ∃ z, z = (bk_w c 1 (Int32.toNatClampNeg p2) x3) := ⟨_, rfl⟩
      rw [← eq6] at hmh5
      replace e := ky_letE eq6 e
      refine (?_ : ky_V _ _ _ 112 _ _ _ _)
      obtain ⟨x7, ex7⟩ : ∃ z : Int32, z = p2 + 1 := ⟨_, rfl⟩
      replace e := ky_letE ex7 e
      refine v_iinc (v := x7) (j := 2) (L' := [(0, .ref a), (1, .int p1), (2, .int x7)]) [1, 2, 0] (i := 62) rfl rfl (by rw [ex7]; rfl) (Nat.le_of_ble_eq_true rfl) rfl (?_ : ky_V _ _ _ 115 _ _ _ _)
      refine v_goto (tgt := 93) (i := 63) rfl (by decide) (?_ : ky_V _ _ _ 93 _ _ _ _)
      exact ih h5 q6 p1 x7 hmh5 frh5 e

def md_beach (N : Nat)  (c : (Nat → Nat → Int32))  : Option ((Nat → Nat → Int32) × Int32) := (md_beach_L2 N (fun q2 x3 => ((md_readAll N q2 1).bind (fun zz => (fun q5 x6 => (if 0 ≤ x6 then (ky_let (bk_w q5 0 14 (-1)) (fun q10 => (if 0 ≤ x6 then (ky_let (md_throwsIf_r q10 0 1) (fun x14 => (ky_let (md_throwsIf_c q10 0 1) (fun q13 => (if x14 = 0 then (if (q13 1 13) = (12 : Int32) then (ky_let (md_throwsIf_r q13 1 2) (fun x36 => (ky_let (md_throwsIf_c q13 1 2) (fun q35 => (if x36 = 0 then (ky_let ((q35 1 13) + 1) (fun x38 => (ky_let (bk_w q35 1 13 x38) (fun q40 => (ky_let (bk_w q40 0 7 0) (fun q42 => (some (q42, (q42 1 13))))))))) else (md_beach_L93 N (fun q44 x45 x46 => (some (q44, 0))) N q35 x6 0)))))) else (ky_let (md_throwsIf_r q13 0 2) (fun x23 => (ky_let (md_throwsIf_c q13 0 2) (fun q22 => (if x23 = 0 then (ky_let ((q22 1 13) + 1) (fun x25 => (ky_let (bk_w q22 1 13 x25) (fun q27 => (ky_let (bk_w q27 0 7 0) (fun q29 => (some (q29, (q29 1 13))))))))) else (md_beach_L93 N (fun q31 x32 x33 => (some (q31, 0))) N q22 x6 0))))))) else (md_beach_L93 N (fun q17 x18 x19 => (some (q17, 0))) N q13 x6 0)))))) else (ky_let (md_throwsIf_r q10 1 1) (fun x49 => (ky_let (md_throwsIf_c q10 1 1) (fun q48 => (if x49 = 0 then (if (q48 1 13) = (12 : Int32) then (ky_let (md_throwsIf_r q48 1 2) (fun x71 => (ky_let (md_throwsIf_c q48 1 2) (fun q70 => (if x71 = 0 then (ky_let ((q70 1 13) + 1) (fun x73 => (ky_let (bk_w q70 1 13 x73) (fun q75 => (ky_let (bk_w q75 0 7 0) (fun q77 => (some (q77, (q77 1 13))))))))) else (md_beach_L93 N (fun q79 x80 x81 => (some (q79, 0))) N q70 x6 0)))))) else (ky_let (md_throwsIf_r q48 0 2) (fun x58 => (ky_let (md_throwsIf_c q48 0 2) (fun q57 => (if x58 = 0 then (ky_let ((q57 1 13) + 1) (fun x60 => (ky_let (bk_w q57 1 13 x60) (fun q62 => (ky_let (bk_w q62 0 7 0) (fun q64 => (some (q64, (q64 1 13))))))))) else (md_beach_L93 N (fun q66 x67 x68 => (some (q66, 0))) N q57 x6 0))))))) else (md_beach_L93 N (fun q52 x53 x54 => (some (q52, 0))) N q48 x6 0))))))))) else (ky_let (q5 0 12) (fun x82 => (ky_let (bk_w q5 0 14 x82) (fun q84 => (if 0 ≤ x6 then (ky_let (md_throwsIf_r q84 0 1) (fun x88 => (ky_let (md_throwsIf_c q84 0 1) (fun q87 => (if x88 = 0 then (if (q87 1 13) = (12 : Int32) then (ky_let (md_throwsIf_r q87 1 2) (fun x110 => (ky_let (md_throwsIf_c q87 1 2) (fun q109 => (if x110 = 0 then (ky_let ((q109 1 13) + 1) (fun x112 => (ky_let (bk_w q109 1 13 x112) (fun q114 => (ky_let (bk_w q114 0 7 0) (fun q116 => (some (q116, (q116 1 13))))))))) else (md_beach_L93 N (fun q118 x119 x120 => (some (q118, 0))) N q109 x6 0)))))) else (ky_let (md_throwsIf_r q87 0 2) (fun x97 => (ky_let (md_throwsIf_c q87 0 2) (fun q96 => (if x97 = 0 then (ky_let ((q96 1 13) + 1) (fun x99 => (ky_let (bk_w q96 1 13 x99) (fun q101 => (ky_let (bk_w q101 0 7 0) (fun q103 => (some (q103, (q103 1 13))))))))) else (md_beach_L93 N (fun q105 x106 x107 => (some (q105, 0))) N q96 x6 0))))))) else (md_beach_L93 N (fun q91 x92 x93 => (some (q91, 0))) N q87 x6 0)))))) else (ky_let (md_throwsIf_r q84 1 1) (fun x123 => (ky_let (md_throwsIf_c q84 1 1) (fun q122 => (if x123 = 0 then (if (q122 1 13) = (12 : Int32) then (ky_let (md_throwsIf_r q122 1 2) (fun x145 => (ky_let (md_throwsIf_c q122 1 2) (fun q144 => (if x145 = 0 then (ky_let ((q144 1 13) + 1) (fun x147 => (ky_let (bk_w q144 1 13 x147) (fun q149 => (ky_let (bk_w q149 0 7 0) (fun q151 => (some (q151, (q151 1 13))))))))) else (md_beach_L93 N (fun q153 x154 x155 => (some (q153, 0))) N q144 x6 0)))))) else (ky_let (md_throwsIf_r q122 0 2) (fun x132 => (ky_let (md_throwsIf_c q122 0 2) (fun q131 => (if x132 = 0 then (ky_let ((q131 1 13) + 1) (fun x134 => (ky_let (bk_w q131 1 13 x134) (fun q136 => (ky_let (bk_w q136 0 7 0) (fun q138 => (some (q138, (q138 1 13))))))))) else (md_beach_L93 N (fun q140 x141 x142 => (some (q140, 0))) N q131 x6 0))))))) else (md_beach_L93 N (fun q126 x127 x128 => (some (q126, 0))) N q122 x6 0))))))))))))) zz.1 zz.2))) N c 0)
set_option maxRecDepth 20000 in
set_option maxHeartbeats 4000000 in
theorem k_X12_beach {G : ky_GW} {d : Nat} {h : ky_HP} {Q : ky_RS → ky_HP → Prop} {a : Nat} {c c9 : (Nat → Nat → Int32)} {r9 : Int32}  (N : Nat) (hG : ky_OK G)   (hm : md_at G h a c)  (e : md_beach N  c = some (c9, r9)) (hr : ∀ h1, md_at G h1 a c9 → bk_fr a 13 h h1 → Q (.inl (some (.int r9))) h1) : ky_Call G (d + 50) M_X12_beach [.ref a] h Q := by
  refine ky_ofV (by decide +kernel) rfl ok_X12_beach (Nat.le_of_ble_eq_true rfl) ?_
  have fr : bk_fr a 13 h h := bk_fr.rf
  unfold md_beach at e
  refine (?_ : ky_V _ _ _ 0 [(0, .ref a)] [] _ _)
  refine v_iconst (v := 0) (i := 0) rfl (by decide) (?_ : ky_V _ _ _ 1 _ _ _ _)
  refine v_istore_n (L' := [(0, .ref a), (1, .int 0)]) [1, 0] (i := 1) rfl (Nat.le_of_ble_eq_true rfl) rfl (?_ : ky_V _ _ _ 2 _ _ _ _)
  refine lv_X12_beach_2 N hG _ hr (fun h1 q2 x3 hmh1 frh1 e => ?_) N h c 0 hm fr e
  refine v_aload_n (i := 15) (j := 0) rfl rfl (?_ : ky_V _ _ _ 28 _ _ _ _)
  refine v_iconst (v := 1) (i := 16) rfl (by decide) (?_ : ky_V _ _ _ 29 _ _ _ _)
  obtain ⟨⟨q5, x6⟩, g7, e⟩ := Option.bind_eq_some_iff.mp e
  refine cl_X12_237 (As := [.int 1]) rfl (i := 17) rfl (md_0 hmh1) rfl rfl (Nat.le_of_ble_eq_true rfl) (k_X12_readAll N hG hmh1 g7 (fun h4 hmh4 frh4 => ⟨_, rfl, (?_ : ky_V _ _ _ 32 _ [.int x6] _ _)⟩))
  have frh4 := frh1.tr frh4
  refine v_istore_n (L' := [(0, .ref a), (1, .int x6)]) [1, 0] (i := 18) rfl (Nat.le_of_ble_eq_true rfl) rfl (?_ : ky_V _ _ _ 33 _ _ _ _)
  refine v_aload_n (i := 19) (j := 0) rfl rfl (?_ : ky_V _ _ _ 34 _ _ _ _)
  refine v_iload_n (i := 20) (j := 1) rfl rfl (?_ : ky_V _ _ _ 35 _ _ _ _)
  refine v_if_ge (tgt := 45) (i := 21) rfl (by decide) (fun c8 => ?_) (fun c8 => ?_)
  · replace e := ky_ifT c8 e
    refine v_iconst (v := (-1)) (i := 25) rfl (by decide) (?_ : ky_V _ _ _ 46 _ _ _ _)
    refine pf_X12_33 rfl (i := 26) rfl (md_0 hmh4) (Nat.le_of_ble_eq_true rfl) rfl rfl ?_
    refine bk_st (B := md_B G a) hmh4 frh4 0 14 (-1) (by decide) (fun h9 hmh9 frh9 => ?_)
    obtain ⟨q10, eq10⟩ : ∃ z, z = (bk_w q5 0 14 (-1)) := ⟨_, rfl⟩
    rw [← eq10] at hmh9
    replace e := ky_letE eq10 e
    refine (?_ : ky_V _ _ _ 49 _ _ _ _)
    refine v_aload_n (i := 27) (j := 0) rfl rfl (?_ : ky_V _ _ _ 50 _ _ _ _)
    refine v_iload_n (i := 28) (j := 1) rfl rfl (?_ : ky_V _ _ _ 51 _ _ _ _)
    refine v_if_ge (tgt := 58) (i := 29) rfl (by decide) (fun c11 => ?_) (fun c11 => ?_)
    · replace e := ky_ifT c11 e
      refine v_iconst (v := 0) (i := 32) rfl (by decide) (?_ : ky_V _ _ _ 59 _ _ _ _)
      refine v_iconst (v := 1) (i := 33) rfl (by decide) (?_ : ky_V _ _ _ 60 _ _ _ _)
      refine cl_X12_241 (As := [.int 0, .int 1]) rfl (i := 34) rfl (md_0 hmh9) rfl rfl (Nat.le_of_ble_eq_true rfl) (k_X12_throwsIf 0 1 hmh9 (by decide) (fun h12 hmh12 frh12 => ⟨_, rfl, (?_ : ky_V _ _ _ 63 _ [.int ((md_throwsIf_r q10 0 1))] _ _)⟩))
      have frh12 := frh9.tr frh12
      refine v_topi (fun x14 ex14 => ?_)
      replace e := ky_letE ex14 e
      obtain ⟨q13, eq13⟩ : ∃ z, z = (md_throwsIf_c q10 0 1) := ⟨_, rfl⟩
      rw [← eq13] at hmh12
      replace e := ky_letE eq13 e
      refine v_if_ne (tgt := 91) (i := 35) rfl (by decide) (fun c15 => ?_) (fun c15 => ?_)
      · replace e := ky_ifF c15 e
        refine v_iconst (v := 0) (i := 49) rfl (by decide) (?_ : ky_V _ _ _ 92 _ _ _ _)
        refine v_istore_n (L' := [(0, .ref a), (1, .int x6), (2, .int 0)]) [1, 2, 0] (i := 50) rfl (Nat.le_of_ble_eq_true rfl) rfl (?_ : ky_V _ _ _ 93 _ _ _ _)
        refine lv_X12_beach_93 N hG _ hr (fun h16 q17 x18 x19 hmh16 frh16 e => ?_) N h12 q13 x6 0 hmh12 frh12 e
        refine v_iconst (v := 0) (i := 64) rfl (by decide) (?_ : ky_V _ _ _ 119 _ _ _ _)
        refine v_iret (v := 0) (ty := .int) (i := 65) rfl rfl rfl ?_
        obtain ⟨rfl, rfl⟩ := ky_leaf e
        exact hr _ hmh16 frh16
      · replace e := ky_ifT c15 e
        refine v_aload_n (i := 36) (j := 0) rfl rfl (?_ : ky_V _ _ _ 67 _ _ _ _)
        refine v_aload_n (i := 37) (j := 0) rfl rfl (?_ : ky_V _ _ _ 68 _ _ _ _)
        refine gf_X12_13 rfl (i := 38) rfl (md_0 hmh12) rfl (?_ : ky_V _ _ _ 71 _ _ _ _)
        refine v_bipush (v := 13) (i := 39) rfl (by decide) (?_ : ky_V _ _ _ 73 _ _ _ _)
        refine v_iald (i := 40) rfl (md_1 hmh12) (ky_inl (by decide)) (?_ : ky_V _ _ _ 74 _ (.int (q13 1 13) :: _) _ _)
        refine v_bipush (v := 12) (i := 41) rfl (by decide) (?_ : ky_V _ _ _ 76 _ _ _ _)
        refine v_icmp_ne (tgt := 83) (i := 42) rfl (by decide) (fun c20 => ?_) (fun c20 => ?_)
        · replace e := ky_ifF c20 e
          refine v_iconst (v := 0) (i := 45) rfl (by decide) (?_ : ky_V _ _ _ 84 _ _ _ _)
          refine v_iconst (v := 2) (i := 46) rfl (by decide) (?_ : ky_V _ _ _ 85 _ _ _ _)
          refine cl_X12_241 (As := [.int 0, .int 2]) rfl (i := 47) rfl (md_0 hmh12) rfl rfl (Nat.le_of_ble_eq_true rfl) (k_X12_throwsIf 0 2 hmh12 (by decide) (fun h21 hmh21 frh21 => ⟨_, rfl, (?_ : ky_V _ _ _ 88 _ [.int ((md_throwsIf_r q13 0 2))] _ _)⟩))
          have frh21 := frh12.tr frh21
          refine v_topi (fun x23 ex23 => ?_)
          replace e := ky_letE ex23 e
          obtain ⟨q22, eq22⟩ : ∃ z, z = (md_throwsIf_c q13 0 2) := ⟨_, rfl⟩
          rw [← eq22] at hmh21
          replace e := ky_letE eq22 e
          refine v_if_eq (tgt := 120) (i := 48) rfl (by decide) (fun c24 => ?_) (fun c24 => ?_)
          · replace e := ky_ifT c24 e
            refine v_aload_n (i := 66) (j := 0) rfl rfl (?_ : ky_V _ _ _ 121 _ _ _ _)
            refine gf_X12_13 rfl (i := 67) rfl (md_0 hmh21) rfl (?_ : ky_V _ _ _ 124 _ _ _ _)
            refine v_bipush (v := 13) (i := 68) rfl (by decide) (?_ : ky_V _ _ _ 126 _ _ _ _)
            refine v_dup2 (i := 69) rfl rfl rfl (?_ : ky_V _ _ _ 127 _ _ _ _)
            refine v_iald (i := 70) rfl (md_1 hmh21) (ky_inl (by decide)) (?_ : ky_V _ _ _ 128 _ (.int (q22 1 13) :: _) _ _)
            refine v_iconst (v := 1) (i := 71) rfl (by decide) (?_ : ky_V _ _ _ 129 _ _ _ _)
            refine v_iadd (i := 72) rfl (?_ : ky_V _ _ _ 130 _ _ _ _)
            refine v_topi (fun x25 ex25 => ?_)
            replace e := ky_letE ex25 e
            refine v_iast (i := 73) rfl (md_1 hmh21) (ky_inl (by decide)) ?_
            refine bk_st (B := md_B G a) hmh21 frh21 1 13 x25 (by decide) (fun h26 hmh26 frh26 => ?_)
            obtain ⟨q27, eq27⟩ : ∃ z, z = (bk_w q22 1 13 x25) := ⟨_, rfl⟩
            rw [← eq27] at hmh26
            replace e := ky_letE eq27 e
            refine (?_ : ky_V _ _ _ 131 _ _ _ _)
            refine v_aload_n (i := 74) (j := 0) rfl rfl (?_ : ky_V _ _ _ 132 _ _ _ _)
            refine v_iconst (v := 0) (i := 75) rfl (by decide) (?_ : ky_V _ _ _ 133 _ _ _ _)
            refine pf_X12_58 rfl (i := 76) rfl (md_0 hmh26) (Nat.le_of_ble_eq_true rfl) rfl rfl ?_
            refine bk_st (B := md_B G a) hmh26 frh26 0 7 0 (by decide) (fun h28 hmh28 frh28 => ?_)
            obtain ⟨q29, eq29⟩ : ∃ z, z = (bk_w q27 0 7 0) := ⟨_, rfl⟩
            rw [← eq29] at hmh28
            replace e := ky_letE eq29 e
            refine (?_ : ky_V _ _ _ 136 _ _ _ _)
            refine v_aload_n (i := 77) (j := 0) rfl rfl (?_ : ky_V _ _ _ 137 _ _ _ _)
            refine gf_X12_13 rfl (i := 78) rfl (md_0 hmh28) rfl (?_ : ky_V _ _ _ 140 _ _ _ _)
            refine v_bipush (v := 13) (i := 79) rfl (by decide) (?_ : ky_V _ _ _ 142 _ _ _ _)
            refine v_iald (i := 80) rfl (md_1 hmh28) (ky_inl (by decide)) (?_ : ky_V _ _ _ 143 _ (.int (q29 1 13) :: _) _ _)
            refine v_iret (v := (q29 1 13)) (ty := .int) (i := 81) rfl rfl rfl ?_
            obtain ⟨rfl, rfl⟩ := ky_leaf e
            exact hr _ hmh28 frh28
          · replace e := ky_ifF c24 e
            refine v_iconst (v := 0) (i := 49) rfl (by decide) (?_ : ky_V _ _ _ 92 _ _ _ _)
            refine v_istore_n (L' := [(0, .ref a), (1, .int x6), (2, .int 0)]) [1, 2, 0] (i := 50) rfl (Nat.le_of_ble_eq_true rfl) rfl (?_ : ky_V _ _ _ 93 _ _ _ _)
            refine lv_X12_beach_93 N hG _ hr (fun h30 q31 x32 x33 hmh30 frh30 e => ?_) N h21 q22 x6 0 hmh21 frh21 e
            refine v_iconst (v := 0) (i := 64) rfl (by decide) (?_ : ky_V _ _ _ 119 _ _ _ _)
            refine v_iret (v := 0) (ty := .int) (i := 65) rfl rfl rfl ?_
            obtain ⟨rfl, rfl⟩ := ky_leaf e
            exact hr _ hmh30 frh30
        · replace e := ky_ifT c20 e
          refine v_iconst (v := 1) (i := 43) rfl (by decide) (?_ : ky_V _ _ _ 80 _ _ _ _)
          refine v_goto (tgt := 84) (i := 44) rfl (by decide) (?_ : ky_V _ _ _ 84 _ _ _ _)
          refine v_iconst (v := 2) (i := 46) rfl (by decide) (?_ : ky_V _ _ _ 85 _ _ _ _)
          refine cl_X12_241 (As := [.int 1, .int 2]) rfl (i := 47) rfl (md_0 hmh12) rfl rfl (Nat.le_of_ble_eq_true rfl) (k_X12_throwsIf 1 2 hmh12 (by decide) (fun h34 hmh34 frh34 => ⟨_, rfl, (?_ : ky_V _ _ _ 88 _ [.int ((md_throwsIf_r q13 1 2))] _ _)⟩))
          have frh34 := frh12.tr frh34
          refine v_topi (fun x36 ex36 => ?_)
          replace e := ky_letE ex36 e
          obtain ⟨q35, eq35⟩ : ∃ z, z = (md_throwsIf_c q13 1 2) := ⟨_, rfl⟩
          rw [← eq35] at hmh34
          replace e := ky_letE eq35 e
          refine v_if_eq (tgt := 120) (i := 48) rfl (by decide) (fun c37 => ?_) (fun c37 => ?_)
          · replace e := ky_ifT c37 e
            refine v_aload_n (i := 66) (j := 0) rfl rfl (?_ : ky_V _ _ _ 121 _ _ _ _)
            refine gf_X12_13 rfl (i := 67) rfl (md_0 hmh34) rfl (?_ : ky_V _ _ _ 124 _ _ _ _)
            refine v_bipush (v := 13) (i := 68) rfl (by decide) (?_ : ky_V _ _ _ 126 _ _ _ _)
            refine v_dup2 (i := 69) rfl rfl rfl (?_ : ky_V _ _ _ 127 _ _ _ _)
            refine v_iald (i := 70) rfl (md_1 hmh34) (ky_inl (by decide)) (?_ : ky_V _ _ _ 128 _ (.int (q35 1 13) :: _) _ _)
            refine v_iconst (v := 1) (i := 71) rfl (by decide) (?_ : ky_V _ _ _ 129 _ _ _ _)
            refine v_iadd (i := 72) rfl (?_ : ky_V _ _ _ 130 _ _ _ _)
            refine v_topi (fun x38 ex38 => ?_)
            replace e := ky_letE ex38 e
            refine v_iast (i := 73) rfl (md_1 hmh34) (ky_inl (by decide)) ?_
            refine bk_st (B := md_B G a) hmh34 frh34 1 13 x38 (by decide) (fun h39 hmh39 frh39 => ?_)
            obtain ⟨q40, eq40⟩ : ∃ z, z = (bk_w q35 1 13 x38) := ⟨_, rfl⟩
            rw [← eq40] at hmh39
            replace e := ky_letE eq40 e
            refine (?_ : ky_V _ _ _ 131 _ _ _ _)
            refine v_aload_n (i := 74) (j := 0) rfl rfl (?_ : ky_V _ _ _ 132 _ _ _ _)
            refine v_iconst (v := 0) (i := 75) rfl (by decide) (?_ : ky_V _ _ _ 133 _ _ _ _)
            refine pf_X12_58 rfl (i := 76) rfl (md_0 hmh39) (Nat.le_of_ble_eq_true rfl) rfl rfl ?_
            refine bk_st (B := md_B G a) hmh39 frh39 0 7 0 (by decide) (fun h41 hmh41 frh41 => ?_)
            obtain ⟨q42, eq42⟩ : ∃ z, z = (bk_w q40 0 7 0) := ⟨_, rfl⟩
            rw [← eq42] at hmh41
            replace e := ky_letE eq42 e
            refine (?_ : ky_V _ _ _ 136 _ _ _ _)
            refine v_aload_n (i := 77) (j := 0) rfl rfl (?_ : ky_V _ _ _ 137 _ _ _ _)
            refine gf_X12_13 rfl (i := 78) rfl (md_0 hmh41) rfl (?_ : ky_V _ _ _ 140 _ _ _ _)
            refine v_bipush (v := 13) (i := 79) rfl (by decide) (?_ : ky_V _ _ _ 142 _ _ _ _)
            refine v_iald (i := 80) rfl (md_1 hmh41) (ky_inl (by decide)) (?_ : ky_V _ _ _ 143 _ (.int (q42 1 13) :: _) _ _)
            refine v_iret (v := (q42 1 13)) (ty := .int) (i := 81) rfl rfl rfl ?_
            obtain ⟨rfl, rfl⟩ := ky_leaf e
            exact hr _ hmh41 frh41
          · replace e := ky_ifF c37 e
            refine v_iconst (v := 0) (i := 49) rfl (by decide) (?_ : ky_V _ _ _ 92 _ _ _ _)
            refine v_istore_n (L' := [(0, .ref a), (1, .int x6), (2, .int 0)]) [1, 2, 0] (i := 50) rfl (Nat.le_of_ble_eq_true rfl) rfl (?_ : ky_V _ _ _ 93 _ _ _ _)
            refine lv_X12_beach_93 N hG _ hr (fun h43 q44 x45 x46 hmh43 frh43 e => ?_) N h34 q35 x6 0 hmh34 frh34 e
            refine v_iconst (v := 0) (i := 64) rfl (by decide) (?_ : ky_V _ _ _ 119 _ _ _ _)
            refine v_iret (v := 0) (ty := .int) (i := 65) rfl rfl rfl ?_
            obtain ⟨rfl, rfl⟩ := ky_leaf e
            exact hr _ hmh43 frh43
    · replace e := ky_ifF c11 e
      refine v_iconst (v := 1) (i := 30) rfl (by decide) (?_ : ky_V _ _ _ 55 _ _ _ _)
      refine v_goto (tgt := 59) (i := 31) rfl (by decide) (?_ : ky_V _ _ _ 59 _ _ _ _)
      refine v_iconst (v := 1) (i := 33) rfl (by decide) (?_ : ky_V _ _ _ 60 _ _ _ _)
      refine cl_X12_241 (As := [.int 1, .int 1]) rfl (i := 34) rfl (md_0 hmh9) rfl rfl (Nat.le_of_ble_eq_true rfl) (k_X12_throwsIf 1 1 hmh9 (by decide) (fun h47 hmh47 frh47 => ⟨_, rfl, (?_ : ky_V _ _ _ 63 _ [.int ((md_throwsIf_r q10 1 1))] _ _)⟩))
      have frh47 := frh9.tr frh47
      refine v_topi (fun x49 ex49 => ?_)
      replace e := ky_letE ex49 e
      obtain ⟨q48, eq48⟩ : ∃ z, z = (md_throwsIf_c q10 1 1) := ⟨_, rfl⟩
      rw [← eq48] at hmh47
      replace e := ky_letE eq48 e
      refine v_if_ne (tgt := 91) (i := 35) rfl (by decide) (fun c50 => ?_) (fun c50 => ?_)
      · replace e := ky_ifF c50 e
        refine v_iconst (v := 0) (i := 49) rfl (by decide) (?_ : ky_V _ _ _ 92 _ _ _ _)
        refine v_istore_n (L' := [(0, .ref a), (1, .int x6), (2, .int 0)]) [1, 2, 0] (i := 50) rfl (Nat.le_of_ble_eq_true rfl) rfl (?_ : ky_V _ _ _ 93 _ _ _ _)
        refine lv_X12_beach_93 N hG _ hr (fun h51 q52 x53 x54 hmh51 frh51 e => ?_) N h47 q48 x6 0 hmh47 frh47 e
        refine v_iconst (v := 0) (i := 64) rfl (by decide) (?_ : ky_V _ _ _ 119 _ _ _ _)
        refine v_iret (v := 0) (ty := .int) (i := 65) rfl rfl rfl ?_
        obtain ⟨rfl, rfl⟩ := ky_leaf e
        exact hr _ hmh51 frh51
      · replace e := ky_ifT c50 e
        refine v_aload_n (i := 36) (j := 0) rfl rfl (?_ : ky_V _ _ _ 67 _ _ _ _)
        refine v_aload_n (i := 37) (j := 0) rfl rfl (?_ : ky_V _ _ _ 68 _ _ _ _)
        refine gf_X12_13 rfl (i := 38) rfl (md_0 hmh47) rfl (?_ : ky_V _ _ _ 71 _ _ _ _)
        refine v_bipush (v := 13) (i := 39) rfl (by decide) (?_ : ky_V _ _ _ 73 _ _ _ _)
        refine v_iald (i := 40) rfl (md_1 hmh47) (ky_inl (by decide)) (?_ : ky_V _ _ _ 74 _ (.int (q48 1 13) :: _) _ _)
        refine v_bipush (v := 12) (i := 41) rfl (by decide) (?_ : ky_V _ _ _ 76 _ _ _ _)
        refine v_icmp_ne (tgt := 83) (i := 42) rfl (by decide) (fun c55 => ?_) (fun c55 => ?_)
        · replace e := ky_ifF c55 e
          refine v_iconst (v := 0) (i := 45) rfl (by decide) (?_ : ky_V _ _ _ 84 _ _ _ _)
          refine v_iconst (v := 2) (i := 46) rfl (by decide) (?_ : ky_V _ _ _ 85 _ _ _ _)
          refine cl_X12_241 (As := [.int 0, .int 2]) rfl (i := 47) rfl (md_0 hmh47) rfl rfl (Nat.le_of_ble_eq_true rfl) (k_X12_throwsIf 0 2 hmh47 (by decide) (fun h56 hmh56 frh56 => ⟨_, rfl, (?_ : ky_V _ _ _ 88 _ [.int ((md_throwsIf_r q48 0 2))] _ _)⟩))
          have frh56 := frh47.tr frh56
          refine v_topi (fun x58 ex58 => ?_)
          replace e := ky_letE ex58 e
          obtain ⟨q57, eq57⟩ : ∃ z, z = (md_throwsIf_c q48 0 2) := ⟨_, rfl⟩
          rw [← eq57] at hmh56
          replace e := ky_letE eq57 e
          refine v_if_eq (tgt := 120) (i := 48) rfl (by decide) (fun c59 => ?_) (fun c59 => ?_)
          · replace e := ky_ifT c59 e
            refine v_aload_n (i := 66) (j := 0) rfl rfl (?_ : ky_V _ _ _ 121 _ _ _ _)
            refine gf_X12_13 rfl (i := 67) rfl (md_0 hmh56) rfl (?_ : ky_V _ _ _ 124 _ _ _ _)
            refine v_bipush (v := 13) (i := 68) rfl (by decide) (?_ : ky_V _ _ _ 126 _ _ _ _)
            refine v_dup2 (i := 69) rfl rfl rfl (?_ : ky_V _ _ _ 127 _ _ _ _)
            refine v_iald (i := 70) rfl (md_1 hmh56) (ky_inl (by decide)) (?_ : ky_V _ _ _ 128 _ (.int (q57 1 13) :: _) _ _)
            refine v_iconst (v := 1) (i := 71) rfl (by decide) (?_ : ky_V _ _ _ 129 _ _ _ _)
            refine v_iadd (i := 72) rfl (?_ : ky_V _ _ _ 130 _ _ _ _)
            refine v_topi (fun x60 ex60 => ?_)
            replace e := ky_letE ex60 e
            refine v_iast (i := 73) rfl (md_1 hmh56) (ky_inl (by decide)) ?_
            refine bk_st (B := md_B G a) hmh56 frh56 1 13 x60 (by decide) (fun h61 hmh61 frh61 => ?_)
            obtain ⟨q62, eq62⟩ : ∃ z, z = (bk_w q57 1 13 x60) := ⟨_, rfl⟩
            rw [← eq62] at hmh61
            replace e := ky_letE eq62 e
            refine (?_ : ky_V _ _ _ 131 _ _ _ _)
            refine v_aload_n (i := 74) (j := 0) rfl rfl (?_ : ky_V _ _ _ 132 _ _ _ _)
            refine v_iconst (v := 0) (i := 75) rfl (by decide) (?_ : ky_V _ _ _ 133 _ _ _ _)
            refine pf_X12_58 rfl (i := 76) rfl (md_0 hmh61) (Nat.le_of_ble_eq_true rfl) rfl rfl ?_
            refine bk_st (B := md_B G a) hmh61 frh61 0 7 0 (by decide) (fun h63 hmh63 frh63 => ?_)
            obtain ⟨q64, eq64⟩ : ∃ z, z = (bk_w q62 0 7 0) := ⟨_, rfl⟩
            rw [← eq64] at hmh63
            replace e := ky_letE eq64 e
            refine (?_ : ky_V _ _ _ 136 _ _ _ _)
            refine v_aload_n (i := 77) (j := 0) rfl rfl (?_ : ky_V _ _ _ 137 _ _ _ _)
            refine gf_X12_13 rfl (i := 78) rfl (md_0 hmh63) rfl (?_ : ky_V _ _ _ 140 _ _ _ _)
            refine v_bipush (v := 13) (i := 79) rfl (by decide) (?_ : ky_V _ _ _ 142 _ _ _ _)
            refine v_iald (i := 80) rfl (md_1 hmh63) (ky_inl (by decide)) (?_ : ky_V _ _ _ 143 _ (.int (q64 1 13) :: _) _ _)
            refine v_iret (v := (q64 1 13)) (ty := .int) (i := 81) rfl rfl rfl ?_
            obtain ⟨rfl, rfl⟩ := ky_leaf e
            exact hr _ hmh63 frh63
          · replace e := ky_ifF c59 e
            refine v_iconst (v := 0) (i := 49) rfl (by decide) (?_ : ky_V _ _ _ 92 _ _ _ _)
            refine v_istore_n (L' := [(0, .ref a), (1, .int x6), (2, .int 0)]) [1, 2, 0] (i := 50) rfl (Nat.le_of_ble_eq_true rfl) rfl (?_ : ky_V _ _ _ 93 _ _ _ _)
            refine lv_X12_beach_93 N hG _ hr (fun h65 q66 x67 x68 hmh65 frh65 e => ?_) N h56 q57 x6 0 hmh56 frh56 e
            refine v_iconst (v := 0) (i := 64) rfl (by decide) (?_ : ky_V _ _ _ 119 _ _ _ _)
            refine v_iret (v := 0) (ty := .int) (i := 65) rfl rfl rfl ?_
            obtain ⟨rfl, rfl⟩ := ky_leaf e
            exact hr _ hmh65 frh65
        · replace e := ky_ifT c55 e
          refine v_iconst (v := 1) (i := 43) rfl (by decide) (?_ : ky_V _ _ _ 80 _ _ _ _)
          refine v_goto (tgt := 84) (i := 44) rfl (by decide) (?_ : ky_V _ _ _ 84 _ _ _ _)
          refine v_iconst (v := 2) (i := 46) rfl (by decide) (?_ : ky_V _ _ _ 85 _ _ _ _)
          refine cl_X12_241 (As := [.int 1, .int 2]) rfl (i := 47) rfl (md_0 hmh47) rfl rfl (Nat.le_of_ble_eq_true rfl) (k_X12_throwsIf 1 2 hmh47 (by decide) (fun h69 hmh69 frh69 => ⟨_, rfl, (?_ : ky_V _ _ _ 88 _ [.int ((md_throwsIf_r q48 1 2))] _ _)⟩))
          have frh69 := frh47.tr frh69
          refine v_topi (fun x71 ex71 => ?_)
          replace e := ky_letE ex71 e
          obtain ⟨q70, eq70⟩ : ∃ z, z = (md_throwsIf_c q48 1 2) := ⟨_, rfl⟩
          rw [← eq70] at hmh69
          replace e := ky_letE eq70 e
          refine v_if_eq (tgt := 120) (i := 48) rfl (by decide) (fun c72 => ?_) (fun c72 => ?_)
          · replace e := ky_ifT c72 e
            refine v_aload_n (i := 66) (j := 0) rfl rfl (?_ : ky_V _ _ _ 121 _ _ _ _)
            refine gf_X12_13 rfl (i := 67) rfl (md_0 hmh69) rfl (?_ : ky_V _ _ _ 124 _ _ _ _)
            refine v_bipush (v := 13) (i := 68) rfl (by decide) (?_ : ky_V _ _ _ 126 _ _ _ _)
            refine v_dup2 (i := 69) rfl rfl rfl (?_ : ky_V _ _ _ 127 _ _ _ _)
            refine v_iald (i := 70) rfl (md_1 hmh69) (ky_inl (by decide)) (?_ : ky_V _ _ _ 128 _ (.int (q70 1 13) :: _) _ _)
            refine v_iconst (v := 1) (i := 71) rfl (by decide) (?_ : ky_V _ _ _ 129 _ _ _ _)
            refine v_iadd (i := 72) rfl (?_ : ky_V _ _ _ 130 _ _ _ _)
            refine v_topi (fun x73 ex73 => ?_)
            replace e := ky_letE ex73 e
            refine v_iast (i := 73) rfl (md_1 hmh69) (ky_inl (by decide)) ?_
            refine bk_st (B := md_B G a) hmh69 frh69 1 13 x73 (by decide) (fun h74 hmh74 frh74 => ?_)
            obtain ⟨q75, eq75⟩ : ∃ z, z = (bk_w q70 1 13 x73) := ⟨_, rfl⟩
            rw [← eq75] at hmh74
            replace e := ky_letE eq75 e
            refine (?_ : ky_V _ _ _ 131 _ _ _ _)
            refine v_aload_n (i := 74) (j := 0) rfl rfl (?_ : ky_V _ _ _ 132 _ _ _ _)
            refine v_iconst (v := 0) (i := 75) rfl (by decide) (?_ : ky_V _ _ _ 133 _ _ _ _)
            refine pf_X12_58 rfl (i := 76) rfl (md_0 hmh74) (Nat.le_of_ble_eq_true rfl) rfl rfl ?_
            refine bk_st (B := md_B G a) hmh74 frh74 0 7 0 (by decide) (fun h76 hmh76 frh76 => ?_)
            obtain ⟨q77, eq77⟩ : ∃ z, z = (bk_w q75 0 7 0) := ⟨_, rfl⟩
            rw [← eq77] at hmh76
            replace e := ky_letE eq77 e
            refine (?_ : ky_V _ _ _ 136 _ _ _ _)
            refine v_aload_n (i := 77) (j := 0) rfl rfl (?_ : ky_V _ _ _ 137 _ _ _ _)
            refine gf_X12_13 rfl (i := 78) rfl (md_0 hmh76) rfl (?_ : ky_V _ _ _ 140 _ _ _ _)
            refine v_bipush (v := 13) (i := 79) rfl (by decide) (?_ : ky_V _ _ _ 142 _ _ _ _)
            refine v_iald (i := 80) rfl (md_1 hmh76) (ky_inl (by decide)) (?_ : ky_V _ _ _ 143 _ (.int (q77 1 13) :: _) _ _)
            refine v_iret (v := (q77 1 13)) (ty := .int) (i := 81) rfl rfl rfl ?_
            obtain ⟨rfl, rfl⟩ := ky_leaf e
            exact hr _ hmh76 frh76
          · replace e := ky_ifF c72 e
            refine v_iconst (v := 0) (i := 49) rfl (by decide) (?_ : ky_V _ _ _ 92 _ _ _ _)
            refine v_istore_n (L' := [(0, .ref a), (1, .int x6), (2, .int 0)]) [1, 2, 0] (i := 50) rfl (Nat.le_of_ble_eq_true rfl) rfl (?_ : ky_V _ _ _ 93 _ _ _ _)
            refine lv_X12_beach_93 N hG _ hr (fun h78 q79 x80 x81 hmh78 frh78 e => ?_) N h69 q70 x6 0 hmh69 frh69 e
            refine v_iconst (v := 0) (i := 64) rfl (by decide) (?_ : ky_V _ _ _ 119 _ _ _ _)
            refine v_iret (v := 0) (ty := .int) (i := 65) rfl rfl rfl ?_
            obtain ⟨rfl, rfl⟩ := ky_leaf e
            exact hr _ hmh78 frh78
  · replace e := ky_ifF c8 e
    refine v_aload_n (i := 22) (j := 0) rfl rfl (?_ : ky_V _ _ _ 39 _ _ _ _)
    refine gf_X12_87 rfl (i := 23) rfl (md_0 hmh4) rfl (?_ : ky_V _ _ _ 42 _ _ _ _)
    refine v_goto (tgt := 46) (i := 24) rfl (by decide) (?_ : ky_V _ _ _ 46 _ _ _ _)
    refine v_topi (fun x82 ex82 => ?_)
    replace e := ky_letE ex82 e
    refine pf_X12_33 rfl (i := 26) rfl (md_0 hmh4) (Nat.le_of_ble_eq_true rfl) rfl rfl ?_
    refine bk_st (B := md_B G a) hmh4 frh4 0 14 x82 (by decide) (fun h83 hmh83 frh83 => ?_)
    obtain ⟨q84, eq84⟩ : ∃ z, z = (bk_w q5 0 14 x82) := ⟨_, rfl⟩
    rw [← eq84] at hmh83
    replace e := ky_letE eq84 e
    refine (?_ : ky_V _ _ _ 49 _ _ _ _)
    refine v_aload_n (i := 27) (j := 0) rfl rfl (?_ : ky_V _ _ _ 50 _ _ _ _)
    refine v_iload_n (i := 28) (j := 1) rfl rfl (?_ : ky_V _ _ _ 51 _ _ _ _)
    refine v_if_ge (tgt := 58) (i := 29) rfl (by decide) (fun c85 => ?_) (fun c85 => ?_)
    · replace e := ky_ifT c85 e
      refine v_iconst (v := 0) (i := 32) rfl (by decide) (?_ : ky_V _ _ _ 59 _ _ _ _)
      refine v_iconst (v := 1) (i := 33) rfl (by decide) (?_ : ky_V _ _ _ 60 _ _ _ _)
      refine cl_X12_241 (As := [.int 0, .int 1]) rfl (i := 34) rfl (md_0 hmh83) rfl rfl (Nat.le_of_ble_eq_true rfl) (k_X12_throwsIf 0 1 hmh83 (by decide) (fun h86 hmh86 frh86 => ⟨_, rfl, (?_ : ky_V _ _ _ 63 _ [.int ((md_throwsIf_r q84 0 1))] _ _)⟩))
      have frh86 := frh83.tr frh86
      refine v_topi (fun x88 ex88 => ?_)
      replace e := ky_letE ex88 e
      obtain ⟨q87, eq87⟩ : ∃ z, z = (md_throwsIf_c q84 0 1) := ⟨_, rfl⟩
      rw [← eq87] at hmh86
      replace e := ky_letE eq87 e
      refine v_if_ne (tgt := 91) (i := 35) rfl (by decide) (fun c89 => ?_) (fun c89 => ?_)
      · replace e := ky_ifF c89 e
        refine v_iconst (v := 0) (i := 49) rfl (by decide) (?_ : ky_V _ _ _ 92 _ _ _ _)
        refine v_istore_n (L' := [(0, .ref a), (1, .int x6), (2, .int 0)]) [1, 2, 0] (i := 50) rfl (Nat.le_of_ble_eq_true rfl) rfl (?_ : ky_V _ _ _ 93 _ _ _ _)
        refine lv_X12_beach_93 N hG _ hr (fun h90 q91 x92 x93 hmh90 frh90 e => ?_) N h86 q87 x6 0 hmh86 frh86 e
        refine v_iconst (v := 0) (i := 64) rfl (by decide) (?_ : ky_V _ _ _ 119 _ _ _ _)
        refine v_iret (v := 0) (ty := .int) (i := 65) rfl rfl rfl ?_
        obtain ⟨rfl, rfl⟩ := ky_leaf e
        exact hr _ hmh90 frh90
      · replace e := ky_ifT c89 e
        refine v_aload_n (i := 36) (j := 0) rfl rfl (?_ : ky_V _ _ _ 67 _ _ _ _)
        refine v_aload_n (i := 37) (j := 0) rfl rfl (?_ : ky_V _ _ _ 68 _ _ _ _)
        refine gf_X12_13 rfl (i := 38) rfl (md_0 hmh86) rfl (?_ : ky_V _ _ _ 71 _ _ _ _)
        refine v_bipush (v := 13) (i := 39) rfl (by decide) (?_ : ky_V _ _ _ 73 _ _ _ _)
        refine v_iald (i := 40) rfl (md_1 hmh86) (ky_inl (by decide)) (?_ : ky_V _ _ _ 74 _ (.int (q87 1 13) :: _) _ _)
        refine v_bipush (v := 12) (i := 41) rfl (by decide) (?_ : ky_V _ _ _ 76 _ _ _ _)
        refine v_icmp_ne (tgt := 83) (i := 42) rfl (by decide) (fun c94 => ?_) (fun c94 => ?_)
        · replace e := ky_ifF c94 e
          refine v_iconst (v := 0) (i := 45) rfl (by decide) (?_ : ky_V _ _ _ 84 _ _ _ _)
          refine v_iconst (v := 2) (i := 46) rfl (by decide) (?_ : ky_V _ _ _ 85 _ _ _ _)
          refine cl_X12_241 (As := [.int 0, .int 2]) rfl (i := 47) rfl (md_0 hmh86) rfl rfl (Nat.le_of_ble_eq_true rfl) (k_X12_throwsIf 0 2 hmh86 (by decide) (fun h95 hmh95 frh95 => ⟨_, rfl, (?_ : ky_V _ _ _ 88 _ [.int ((md_throwsIf_r q87 0 2))] _ _)⟩))
          have frh95 := frh86.tr frh95
          refine v_topi (fun x97 ex97 => ?_)
          replace e := ky_letE ex97 e
          obtain ⟨q96, eq96⟩ : ∃ z, z = (md_throwsIf_c q87 0 2) := ⟨_, rfl⟩
          rw [← eq96] at hmh95
          replace e := ky_letE eq96 e
          refine v_if_eq (tgt := 120) (i := 48) rfl (by decide) (fun c98 => ?_) (fun c98 => ?_)
          · replace e := ky_ifT c98 e
            refine v_aload_n (i := 66) (j := 0) rfl rfl (?_ : ky_V _ _ _ 121 _ _ _ _)
            refine gf_X12_13 rfl (i := 67) rfl (md_0 hmh95) rfl (?_ : ky_V _ _ _ 124 _ _ _ _)
            refine v_bipush (v := 13) (i := 68) rfl (by decide) (?_ : ky_V _ _ _ 126 _ _ _ _)
            refine v_dup2 (i := 69) rfl rfl rfl (?_ : ky_V _ _ _ 127 _ _ _ _)
            refine v_iald (i := 70) rfl (md_1 hmh95) (ky_inl (by decide)) (?_ : ky_V _ _ _ 128 _ (.int (q96 1 13) :: _) _ _)
            refine v_iconst (v := 1) (i := 71) rfl (by decide) (?_ : ky_V _ _ _ 129 _ _ _ _)
            refine v_iadd (i := 72) rfl (?_ : ky_V _ _ _ 130 _ _ _ _)
            refine v_topi (fun x99 ex99 => ?_)
            replace e := ky_letE ex99 e
            refine v_iast (i := 73) rfl (md_1 hmh95) (ky_inl (by decide)) ?_
            refine bk_st (B := md_B G a) hmh95 frh95 1 13 x99 (by decide) (fun h100 hmh100 frh100 => ?_)
            obtain ⟨q101, eq101⟩ : ∃ z, z = (bk_w q96 1 13 x99) := ⟨_, rfl⟩
            rw [← eq101] at hmh100
            replace e := ky_letE eq101 e
            refine (?_ : ky_V _ _ _ 131 _ _ _ _)
            refine v_aload_n (i := 74) (j := 0) rfl rfl (?_ : ky_V _ _ _ 132 _ _ _ _)
            refine v_iconst (v := 0) (i := 75) rfl (by decide) (?_ : ky_V _ _ _ 133 _ _ _ _)
            refine pf_X12_58 rfl (i := 76) rfl (md_0 hmh100) (Nat.le_of_ble_eq_true rfl) rfl rfl ?_
            refine bk_st (B := md_B G a) hmh100 frh100 0 7 0 (by decide) (fun h102 hmh102 frh102 => ?_)
            obtain ⟨q103, eq103⟩ : ∃ z, z = (bk_w q101 0 7 0) := ⟨_, rfl⟩
            rw [← eq103] at hmh102
            replace e := ky_letE eq103 e
            refine (?_ : ky_V _ _ _ 136 _ _ _ _)
            refine v_aload_n (i := 77) (j := 0) rfl rfl (?_ : ky_V _ _ _ 137 _ _ _ _)
            refine gf_X12_13 rfl (i := 78) rfl (md_0 hmh102) rfl (?_ : ky_V _ _ _ 140 _ _ _ _)
            refine v_bipush (v := 13) (i := 79) rfl (by decide) (?_ : ky_V _ _ _ 142 _ _ _ _)
            refine v_iald (i := 80) rfl (md_1 hmh102) (ky_inl (by decide)) (?_ : ky_V _ _ _ 143 _ (.int (q103 1 13) :: _) _ _)
            refine v_iret (v := (q103 1 13)) (ty := .int) (i := 81) rfl rfl rfl ?_
            obtain ⟨rfl, rfl⟩ := ky_leaf e
            exact hr _ hmh102 frh102
          · replace e := ky_ifF c98 e
            refine v_iconst (v := 0) (i := 49) rfl (by decide) (?_ : ky_V _ _ _ 92 _ _ _ _)
            refine v_istore_n (L' := [(0, .ref a), (1, .int x6), (2, .int 0)]) [1, 2, 0] (i := 50) rfl (Nat.le_of_ble_eq_true rfl) rfl (?_ : ky_V _ _ _ 93 _ _ _ _)
            refine lv_X12_beach_93 N hG _ hr (fun h104 q105 x106 x107 hmh104 frh104 e => ?_) N h95 q96 x6 0 hmh95 frh95 e
            refine v_iconst (v := 0) (i := 64) rfl (by decide) (?_ : ky_V _ _ _ 119 _ _ _ _)
            refine v_iret (v := 0) (ty := .int) (i := 65) rfl rfl rfl ?_
            obtain ⟨rfl, rfl⟩ := ky_leaf e
            exact hr _ hmh104 frh104
        · replace e := ky_ifT c94 e
          refine v_iconst (v := 1) (i := 43) rfl (by decide) (?_ : ky_V _ _ _ 80 _ _ _ _)
          refine v_goto (tgt := 84) (i := 44) rfl (by decide) (?_ : ky_V _ _ _ 84 _ _ _ _)
          refine v_iconst (v := 2) (i := 46) rfl (by decide) (?_ : ky_V _ _ _ 85 _ _ _ _)
          refine cl_X12_241 (As := [.int 1, .int 2]) rfl (i := 47) rfl (md_0 hmh86) rfl rfl (Nat.le_of_ble_eq_true rfl) (k_X12_throwsIf 1 2 hmh86 (by decide) (fun h108 hmh108 frh108 => ⟨_, rfl, (?_ : ky_V _ _ _ 88 _ [.int ((md_throwsIf_r q87 1 2))] _ _)⟩))
          have frh108 := frh86.tr frh108
          refine v_topi (fun x110 ex110 => ?_)
          replace e := ky_letE ex110 e
          obtain ⟨q109, eq109⟩ : ∃ z, z = (md_throwsIf_c q87 1 2) := ⟨_, rfl⟩
          rw [← eq109] at hmh108
          replace e := ky_letE eq109 e
          refine v_if_eq (tgt := 120) (i := 48) rfl (by decide) (fun c111 => ?_) (fun c111 => ?_)
          · replace e := ky_ifT c111 e
            refine v_aload_n (i := 66) (j := 0) rfl rfl (?_ : ky_V _ _ _ 121 _ _ _ _)
            refine gf_X12_13 rfl (i := 67) rfl (md_0 hmh108) rfl (?_ : ky_V _ _ _ 124 _ _ _ _)
            refine v_bipush (v := 13) (i := 68) rfl (by decide) (?_ : ky_V _ _ _ 126 _ _ _ _)
            refine v_dup2 (i := 69) rfl rfl rfl (?_ : ky_V _ _ _ 127 _ _ _ _)
            refine v_iald (i := 70) rfl (md_1 hmh108) (ky_inl (by decide)) (?_ : ky_V _ _ _ 128 _ (.int (q109 1 13) :: _) _ _)
            refine v_iconst (v := 1) (i := 71) rfl (by decide) (?_ : ky_V _ _ _ 129 _ _ _ _)
            refine v_iadd (i := 72) rfl (?_ : ky_V _ _ _ 130 _ _ _ _)
            refine v_topi (fun x112 ex112 => ?_)
            replace e := ky_letE ex112 e
            refine v_iast (i := 73) rfl (md_1 hmh108) (ky_inl (by decide)) ?_
            refine bk_st (B := md_B G a) hmh108 frh108 1 13 x112 (by decide) (fun h113 hmh113 frh113 => ?_)
            obtain ⟨q114, eq114⟩ : ∃ z, z = (bk_w q109 1 13 x112) := ⟨_, rfl⟩
            rw [← eq114] at hmh113
            replace e := ky_letE eq114 e
            refine (?_ : ky_V _ _ _ 131 _ _ _ _)
            refine v_aload_n (i := 74) (j := 0) rfl rfl (?_ : ky_V _ _ _ 132 _ _ _ _)
            refine v_iconst (v := 0) (i := 75) rfl (by decide) (?_ : ky_V _ _ _ 133 _ _ _ _)
            refine pf_X12_58 rfl (i := 76) rfl (md_0 hmh113) (Nat.le_of_ble_eq_true rfl) rfl rfl ?_
            refine bk_st (B := md_B G a) hmh113 frh113 0 7 0 (by decide) (fun h115 hmh115 frh115 => ?_)
            obtain ⟨q116, eq116⟩ : ∃ z, z = (bk_w q114 0 7 0) := ⟨_, rfl⟩
            rw [← eq116] at hmh115
            replace e := ky_letE eq116 e
            refine (?_ : ky_V _ _ _ 136 _ _ _ _)
            refine v_aload_n (i := 77) (j := 0) rfl rfl (?_ : ky_V _ _ _ 137 _ _ _ _)
            refine gf_X12_13 rfl (i := 78) rfl (md_0 hmh115) rfl (?_ : ky_V _ _ _ 140 _ _ _ _)
            refine v_bipush (v := 13) (i := 79) rfl (by decide) (?_ : ky_V _ _ _ 142 _ _ _ _)
            refine v_iald (i := 80) rfl (md_1 hmh115) (ky_inl (by decide)) (?_ : ky_V _ _ _ 143 _ (.int (q116 1 13) :: _) _ _)
            refine v_iret (v := (q116 1 13)) (ty := .int) (i := 81) rfl rfl rfl ?_
            obtain ⟨rfl, rfl⟩ := ky_leaf e
            exact hr _ hmh115 frh115
          · replace e := ky_ifF c111 e
            refine v_iconst (v := 0) (i := 49) rfl (by decide) (?_ : ky_V _ _ _ 92 _ _ _ _)
            refine v_istore_n (L' := [(0, .ref a), (1, .int x6), (2, .int 0)]) [1, 2, 0] (i := 50) rfl (Nat.le_of_ble_eq_true rfl) rfl (?_ : ky_V _ _ _ 93 _ _ _ _)
            refine lv_X12_beach_93 N hG _ hr (fun h117 q118 x119 x120 hmh117 frh117 e => ?_) N h108 q109 x6 0 hmh108 frh108 e
            refine v_iconst (v := 0) (i := 64) rfl (by decide) (?_ : ky_V _ _ _ 119 _ _ _ _)
            refine v_iret (v := 0) (ty := .int) (i := 65) rfl rfl rfl ?_
            obtain ⟨rfl, rfl⟩ := ky_leaf e
            exact hr _ hmh117 frh117
    · replace e := ky_ifF c85 e
      refine v_iconst (v := 1) (i := 30) rfl (by decide) (?_ : ky_V _ _ _ 55 _ _ _ _)
      refine v_goto (tgt := 59) (i := 31) rfl (by decide) (?_ : ky_V _ _ _ 59 _ _ _ _)
      refine v_iconst (v := 1) (i := 33) rfl (by decide) (?_ : ky_V _ _ _ 60 _ _ _ _)
      refine cl_X12_241 (As := [.int 1, .int 1]) rfl (i := 34) rfl (md_0 hmh83) rfl rfl (Nat.le_of_ble_eq_true rfl) (k_X12_throwsIf 1 1 hmh83 (by decide) (fun h121 hmh121 frh121 => ⟨_, rfl, (?_ : ky_V _ _ _ 63 _ [.int ((md_throwsIf_r q84 1 1))] _ _)⟩))
      have frh121 := frh83.tr frh121
      refine v_topi (fun x123 ex123 => ?_)
      replace e := ky_letE ex123 e
      obtain ⟨q122, eq122⟩ : ∃ z, z = (md_throwsIf_c q84 1 1) := ⟨_, rfl⟩
      rw [← eq122] at hmh121
      replace e := ky_letE eq122 e
      refine v_if_ne (tgt := 91) (i := 35) rfl (by decide) (fun c124 => ?_) (fun c124 => ?_)
      · replace e := ky_ifF c124 e
        refine v_iconst (v := 0) (i := 49) rfl (by decide) (?_ : ky_V _ _ _ 92 _ _ _ _)
        refine v_istore_n (L' := [(0, .ref a), (1, .int x6), (2, .int 0)]) [1, 2, 0] (i := 50) rfl (Nat.le_of_ble_eq_true rfl) rfl (?_ : ky_V _ _ _ 93 _ _ _ _)
        refine lv_X12_beach_93 N hG _ hr (fun h125 q126 x127 x128 hmh125 frh125 e => ?_) N h121 q122 x6 0 hmh121 frh121 e
        refine v_iconst (v := 0) (i := 64) rfl (by decide) (?_ : ky_V _ _ _ 119 _ _ _ _)
        refine v_iret (v := 0) (ty := .int) (i := 65) rfl rfl rfl ?_
        obtain ⟨rfl, rfl⟩ := ky_leaf e
        exact hr _ hmh125 frh125
      · replace e := ky_ifT c124 e
        refine v_aload_n (i := 36) (j := 0) rfl rfl (?_ : ky_V _ _ _ 67 _ _ _ _)
        refine v_aload_n (i := 37) (j := 0) rfl rfl (?_ : ky_V _ _ _ 68 _ _ _ _)
        refine gf_X12_13 rfl (i := 38) rfl (md_0 hmh121) rfl (?_ : ky_V _ _ _ 71 _ _ _ _)
        refine v_bipush (v := 13) (i := 39) rfl (by decide) (?_ : ky_V _ _ _ 73 _ _ _ _)
        refine v_iald (i := 40) rfl (md_1 hmh121) (ky_inl (by decide)) (?_ : ky_V _ _ _ 74 _ (.int (q122 1 13) :: _) _ _)
        refine v_bipush (v := 12) (i := 41) rfl (by decide) (?_ : ky_V _ _ _ 76 _ _ _ _)
        refine v_icmp_ne (tgt := 83) (i := 42) rfl (by decide) (fun c129 => ?_) (fun c129 => ?_)
        · replace e := ky_ifF c129 e
          refine v_iconst (v := 0) (i := 45) rfl (by decide) (?_ : ky_V _ _ _ 84 _ _ _ _)
          refine v_iconst (v := 2) (i := 46) rfl (by decide) (?_ : ky_V _ _ _ 85 _ _ _ _)
          refine cl_X12_241 (As := [.int 0, .int 2]) rfl (i := 47) rfl (md_0 hmh121) rfl rfl (Nat.le_of_ble_eq_true rfl) (k_X12_throwsIf 0 2 hmh121 (by decide) (fun h130 hmh130 frh130 => ⟨_, rfl, (?_ : ky_V _ _ _ 88 _ [.int ((md_throwsIf_r q122 0 2))] _ _)⟩))
          have frh130 := frh121.tr frh130
          refine v_topi (fun x132 ex132 => ?_)
          replace e := ky_letE ex132 e
          obtain ⟨q131, eq131⟩ : ∃ z, z = (md_throwsIf_c q122 0 2) := ⟨_, rfl⟩
          rw [← eq131] at hmh130
          replace e := ky_letE eq131 e
          refine v_if_eq (tgt := 120) (i := 48) rfl (by decide) (fun c133 => ?_) (fun c133 => ?_)
          · replace e := ky_ifT c133 e
            refine v_aload_n (i := 66) (j := 0) rfl rfl (?_ : ky_V _ _ _ 121 _ _ _ _)
            refine gf_X12_13 rfl (i := 67) rfl (md_0 hmh130) rfl (?_ : ky_V _ _ _ 124 _ _ _ _)
            refine v_bipush (v := 13) (i := 68) rfl (by decide) (?_ : ky_V _ _ _ 126 _ _ _ _)
            refine v_dup2 (i := 69) rfl rfl rfl (?_ : ky_V _ _ _ 127 _ _ _ _)
            refine v_iald (i := 70) rfl (md_1 hmh130) (ky_inl (by decide)) (?_ : ky_V _ _ _ 128 _ (.int (q131 1 13) :: _) _ _)
            refine v_iconst (v := 1) (i := 71) rfl (by decide) (?_ : ky_V _ _ _ 129 _ _ _ _)
            refine v_iadd (i := 72) rfl (?_ : ky_V _ _ _ 130 _ _ _ _)
            refine v_topi (fun x134 ex134 => ?_)
            replace e := ky_letE ex134 e
            refine v_iast (i := 73) rfl (md_1 hmh130) (ky_inl (by decide)) ?_
            refine bk_st (B := md_B G a) hmh130 frh130 1 13 x134 (by decide) (fun h135 hmh135 frh135 => ?_)
            obtain ⟨q136, eq136⟩ : ∃ z, z = (bk_w q131 1 13 x134) := ⟨_, rfl⟩
            rw [← eq136] at hmh135
            replace e := ky_letE eq136 e
            refine (?_ : ky_V _ _ _ 131 _ _ _ _)
            refine v_aload_n (i := 74) (j := 0) rfl rfl (?_ : ky_V _ _ _ 132 _ _ _ _)
            refine v_iconst (v := 0) (i := 75) rfl (by decide) (?_ : ky_V _ _ _ 133 _ _ _ _)
            refine pf_X12_58 rfl (i := 76) rfl (md_0 hmh135) (Nat.le_of_ble_eq_true rfl) rfl rfl ?_
            refine bk_st (B := md_B G a) hmh135 frh135 0 7 0 (by decide) (fun h137 hmh137 frh137 => ?_)
            obtain ⟨q138, eq138⟩ : ∃ z, z = (bk_w q136 0 7 0) := ⟨_, rfl⟩
            rw [← eq138] at hmh137
            replace e := ky_letE eq138 e
            refine (?_ : ky_V _ _ _ 136 _ _ _ _)
            refine v_aload_n (i := 77) (j := 0) rfl rfl (?_ : ky_V _ _ _ 137 _ _ _ _)
            refine gf_X12_13 rfl (i := 78) rfl (md_0 hmh137) rfl (?_ : ky_V _ _ _ 140 _ _ _ _)
            refine v_bipush (v := 13) (i := 79) rfl (by decide) (?_ : ky_V _ _ _ 142 _ _ _ _)
            refine v_iald (i := 80) rfl (md_1 hmh137) (ky_inl (by decide)) (?_ : ky_V _ _ _ 143 _ (.int (q138 1 13) :: _) _ _)
            refine v_iret (v := (q138 1 13)) (ty := .int) (i := 81) rfl rfl rfl ?_
            obtain ⟨rfl, rfl⟩ := ky_leaf e
            exact hr _ hmh137 frh137
          · replace e := ky_ifF c133 e
            refine v_iconst (v := 0) (i := 49) rfl (by decide) (?_ : ky_V _ _ _ 92 _ _ _ _)
            refine v_istore_n (L' := [(0, .ref a), (1, .int x6), (2, .int 0)]) [1, 2, 0] (i := 50) rfl (Nat.le_of_ble_eq_true rfl) rfl (?_ : ky_V _ _ _ 93 _ _ _ _)
            refine lv_X12_beach_93 N hG _ hr (fun h139 q140 x141 x142 hmh139 frh139 e => ?_) N h130 q131 x6 0 hmh130 frh130 e
            refine v_iconst (v := 0) (i := 64) rfl (by decide) (?_ : ky_V _ _ _ 119 _ _ _ _)
            refine v_iret (v := 0) (ty := .int) (i := 65) rfl rfl rfl ?_
            obtain ⟨rfl, rfl⟩ := ky_leaf e
            exact hr _ hmh139 frh139
        · replace e := ky_ifT c129 e
          refine v_iconst (v := 1) (i := 43) rfl (by decide) (?_ : ky_V _ _ _ 80 _ _ _ _)
          refine v_goto (tgt := 84) (i := 44) rfl (by decide) (?_ : ky_V _ _ _ 84 _ _ _ _)
          refine v_iconst (v := 2) (i := 46) rfl (by decide) (?_ : ky_V _ _ _ 85 _ _ _ _)
          refine cl_X12_241 (As := [.int 1, .int 2]) rfl (i := 47) rfl (md_0 hmh121) rfl rfl (Nat.le_of_ble_eq_true rfl) (k_X12_throwsIf 1 2 hmh121 (by decide) (fun h143 hmh143 frh143 => ⟨_, rfl, (?_ : ky_V _ _ _ 88 _ [.int ((md_throwsIf_r q122 1 2))] _ _)⟩))
          have frh143 := frh121.tr frh143
          refine v_topi (fun x145 ex145 => ?_)
          replace e := ky_letE ex145 e
          obtain ⟨q144, eq144⟩ : ∃ z, z = (md_throwsIf_c q122 1 2) := ⟨_, rfl⟩
          rw [← eq144] at hmh143
          replace e := ky_letE eq144 e
          refine v_if_eq (tgt := 120) (i := 48) rfl (by decide) (fun c146 => ?_) (fun c146 => ?_)
          · replace e := ky_ifT c146 e
            refine v_aload_n (i := 66) (j := 0) rfl rfl (?_ : ky_V _ _ _ 121 _ _ _ _)
            refine gf_X12_13 rfl (i := 67) rfl (md_0 hmh143) rfl (?_ : ky_V _ _ _ 124 _ _ _ _)
            refine v_bipush (v := 13) (i := 68) rfl (by decide) (?_ : ky_V _ _ _ 126 _ _ _ _)
            refine v_dup2 (i := 69) rfl rfl rfl (?_ : ky_V _ _ _ 127 _ _ _ _)
            refine v_iald (i := 70) rfl (md_1 hmh143) (ky_inl (by decide)) (?_ : ky_V _ _ _ 128 _ (.int (q144 1 13) :: _) _ _)
            refine v_iconst (v := 1) (i := 71) rfl (by decide) (?_ : ky_V _ _ _ 129 _ _ _ _)
            refine v_iadd (i := 72) rfl (?_ : ky_V _ _ _ 130 _ _ _ _)
            refine v_topi (fun x147 ex147 => ?_)
            replace e := ky_letE ex147 e
            refine v_iast (i := 73) rfl (md_1 hmh143) (ky_inl (by decide)) ?_
            refine bk_st (B := md_B G a) hmh143 frh143 1 13 x147 (by decide) (fun h148 hmh148 frh148 => ?_)
            obtain ⟨q149, eq149⟩ : ∃ z, z = (bk_w q144 1 13 x147) := ⟨_, rfl⟩
            rw [← eq149] at hmh148
            replace e := ky_letE eq149 e
            refine (?_ : ky_V _ _ _ 131 _ _ _ _)
            refine v_aload_n (i := 74) (j := 0) rfl rfl (?_ : ky_V _ _ _ 132 _ _ _ _)
            refine v_iconst (v := 0) (i := 75) rfl (by decide) (?_ : ky_V _ _ _ 133 _ _ _ _)
            refine pf_X12_58 rfl (i := 76) rfl (md_0 hmh148) (Nat.le_of_ble_eq_true rfl) rfl rfl ?_
            refine bk_st (B := md_B G a) hmh148 frh148 0 7 0 (by decide) (fun h150 hmh150 frh150 => ?_)
            obtain ⟨q151, eq151⟩ : ∃ z, z = (bk_w q149 0 7 0) := ⟨_, rfl⟩
            rw [← eq151] at hmh150
            replace e := ky_letE eq151 e
            refine (?_ : ky_V _ _ _ 136 _ _ _ _)
            refine v_aload_n (i := 77) (j := 0) rfl rfl (?_ : ky_V _ _ _ 137 _ _ _ _)
            refine gf_X12_13 rfl (i := 78) rfl (md_0 hmh150) rfl (?_ : ky_V _ _ _ 140 _ _ _ _)
            refine v_bipush (v := 13) (i := 79) rfl (by decide) (?_ : ky_V _ _ _ 142 _ _ _ _)
            refine v_iald (i := 80) rfl (md_1 hmh150) (ky_inl (by decide)) (?_ : ky_V _ _ _ 143 _ (.int (q151 1 13) :: _) _ _)
            refine v_iret (v := (q151 1 13)) (ty := .int) (i := 81) rfl rfl rfl ?_
            obtain ⟨rfl, rfl⟩ := ky_leaf e
            exact hr _ hmh150 frh150
          · replace e := ky_ifF c146 e
            refine v_iconst (v := 0) (i := 49) rfl (by decide) (?_ : ky_V _ _ _ 92 _ _ _ _)
            refine v_istore_n (L' := [(0, .ref a), (1, .int x6), (2, .int 0)]) [1, 2, 0] (i := 50) rfl (Nat.le_of_ble_eq_true rfl) rfl (?_ : ky_V _ _ _ 93 _ _ _ _)
            refine lv_X12_beach_93 N hG _ hr (fun h152 q153 x154 x155 hmh152 frh152 e => ?_) N h143 q144 x6 0 hmh143 frh143 e
            refine v_iconst (v := 0) (i := 64) rfl (by decide) (?_ : ky_V _ _ _ 119 _ _ _ _)
            refine v_iret (v := 0) (ty := .int) (i := 65) rfl rfl rfl ?_
            obtain ⟨rfl, rfl⟩ := ky_leaf e
            exact hr _ hmh152 frh152

def md_law_L52 (N : Nat)   (k : (Nat → Nat → Int32) → Int32 → Int32 → Option ((Nat → Nat → Int32) × Int32)) : Nat → (Nat → Nat → Int32) → Int32 → Int32 → Option ((Nat → Nat → Int32) × Int32)
  | 0, _, _, _ => none
  | n + 1, c, p1, p2 => (if (849 : Int32) ≤ p2 then (k c p1 p2) else (if ky_inB (1398 + p2) 2247 = true then (ky_let (c 1 (Int32.toNatClampNeg (1398 + p2))) (fun x3 => (if ky_inB (549 + p2) 2247 = true then (ky_let (bk_w c 1 (Int32.toNatClampNeg (549 + p2)) x3) (fun q6 => (ky_let (p2 + 1) (fun x7 => (md_law_L52 N k n q6 p1 x7))))) else none))) else none))
set_option maxRecDepth 20000 in
set_option maxHeartbeats 4000000 in
theorem lv_X12_law_52 {G : ky_GW} {d : Nat} {h0 : ky_HP} {Q : ky_RS → ky_HP → Prop} {a : Nat} {c9 : (Nat → Nat → Int32)} {r9 : Int32} (N : Nat) (hG : ky_OK G)     (k : (Nat → Nat → Int32) → Int32 → Int32 → Option ((Nat → Nat → Int32) × Int32)) (hr : ∀ h1, md_at G h1 a c9 → bk_fr a 13 h0 h1 → Q (.inl (some (.int r9))) h1)
    (hk : ∀ (h : ky_HP) (c : (Nat → Nat → Int32)) (p1 : Int32) (p2 : Int32), md_at G h a c → bk_fr a 13 h0 h → k c p1 p2 = some (c9, r9) → ky_V G (d + 50) M_X12_law 85 [(0, .ref a), (1, .int p1), (2, .int p2)] [] h Q) :
    ∀ (n : Nat) (h : ky_HP) (c : (Nat → Nat → Int32)) (p1 : Int32) (p2 : Int32), md_at G h a c → bk_fr a 13 h0 h → md_law_L52 N  k n c p1 p2 = some (c9, r9) → ky_V G (d + 50) M_X12_law 52 [(0, .ref a), (1, .int p1), (2, .int p2)] [] h Q := by
  intro n
  induction n with
  | zero => intro h c p1 p2 hm fr e; cases e
  | succ n ih =>
    intro h c p1 p2 hm fr e
    rw [md_law_L52] at e
    refine v_iload_n (i := 30) (j := 2) rfl rfl (?_ : ky_V _ _ _ 53 _ _ _ _)
    refine v_sipush (v := 849) (i := 31) rfl (by decide) (?_ : ky_V _ _ _ 56 _ _ _ _)
    refine v_icmp_ge (tgt := 85) (i := 32) rfl (by decide) (fun c1 => ?_) (fun c1 => ?_)
    · replace e := ky_ifT c1 e
      exact hk h c p1 p2 hm fr e
    · replace e := ky_ifF c1 e
      refine v_aload_n (i := 33) (j := 0) rfl rfl (?_ : ky_V _ _ _ 60 _ _ _ _)
      refine gf_X12_13 rfl (i := 34) rfl (md_0 hm) rfl (?_ : ky_V _ _ _ 63 _ _ _ _)
      refine v_sipush (v := 549) (i := 35) rfl (by decide) (?_ : ky_V _ _ _ 66 _ _ _ _)
      refine v_iload_n (i := 36) (j := 2) rfl rfl (?_ : ky_V _ _ _ 67 _ _ _ _)
      refine v_iadd (i := 37) rfl (?_ : ky_V _ _ _ 68 _ _ _ _)
      refine v_aload_n (i := 38) (j := 0) rfl rfl (?_ : ky_V _ _ _ 69 _ _ _ _)
      refine gf_X12_13 rfl (i := 39) rfl (md_0 hm) rfl (?_ : ky_V _ _ _ 72 _ _ _ _)
      refine v_sipush (v := 1398) (i := 40) rfl (by decide) (?_ : ky_V _ _ _ 75 _ _ _ _)
      refine v_iload_n (i := 41) (j := 2) rfl rfl (?_ : ky_V _ _ _ 76 _ _ _ _)
      refine v_iadd (i := 42) rfl (?_ : ky_V _ _ _ 77 _ _ _ _)
      obtain ⟨z2, e⟩ := ky_chkE e
      refine v_iald (i := 43) rfl (md_1 hm) (ky_inb z2) (?_ : ky_V _ _ _ 78 _ (.int (c 1 (Int32.toNatClampNeg (1398 + p2))) :: _) _ _)
      refine v_topi (fun x3 ex3 => ?_)
      replace e := ky_letE ex3 e
      obtain ⟨z4, e⟩ := ky_chkE e
      refine v_iast (i := 44) rfl (md_1 hm) (ky_inb z4) ?_
      refine bk_st (B := md_B G a) hm fr 1 (Int32.toNatClampNeg (549 + p2)) x3 (by decide) (fun h5 hmh5 frh5 => ?_)
      obtain ⟨q6, eq6⟩ : ∃ z, z = (bk_w c 1 (Int32.toNatClampNeg (549 + p2)) x3) := ⟨_, rfl⟩
      rw [← eq6] at hmh5
      replace e := ky_letE eq6 e
      refine (?_ : ky_V _ _ _ 79 _ _ _ _)
      obtain ⟨x7, ex7⟩ : ∃ z : Int32, z = p2 + 1 := ⟨_, rfl⟩
      replace e := ky_letE ex7 e
      refine v_iinc (v := x7) (j := 2) (L' := [(0, .ref a), (1, .int p1), (2, .int x7)]) [1, 2, 0] (i := 45) rfl rfl (by rw [ex7]; rfl) (Nat.le_of_ble_eq_true rfl) rfl (?_ : ky_V _ _ _ 82 _ _ _ _)
      refine v_goto (tgt := 52) (i := 46) rfl (by decide) (?_ : ky_V _ _ _ 52 _ _ _ _)
      exact ih h5 q6 p1 x7 hmh5 frh5 e

def md_law (N : Nat)  (c : (Nat → Nat → Int32))  : Option ((Nat → Nat → Int32) × Int32) := ((md_readAll N c 0).bind (fun zz => (fun q2 x3 => (if 0 ≤ x3 then (ky_let (bk_w q2 0 14 (-1)) (fun q7 => (if 0 ≤ x3 then (ky_let (md_throwsIf_r q7 0 1) (fun x11 => (ky_let (md_throwsIf_c q7 0 1) (fun q10 => (if x11 = 0 then (ky_let (bk_w q10 1 1398 x3) (fun q14 => (md_law_L52 N (fun q16 x17 x18 => (ky_let (bk_w q16 1 14 1) (fun q20 => (ky_let (bk_w q20 0 7 0) (fun q22 => (some (q22, x17))))))) N q14 x3 0))) else (some (q10, 0))))))) else (ky_let (md_throwsIf_r q7 1 1) (fun x25 => (ky_let (md_throwsIf_c q7 1 1) (fun q24 => (if x25 = 0 then (ky_let (bk_w q24 1 1398 x3) (fun q28 => (md_law_L52 N (fun q30 x31 x32 => (ky_let (bk_w q30 1 14 1) (fun q34 => (ky_let (bk_w q34 0 7 0) (fun q36 => (some (q36, x31))))))) N q28 x3 0))) else (some (q24, 0)))))))))) else (ky_let (q2 0 12) (fun x37 => (ky_let (bk_w q2 0 14 x37) (fun q39 => (if 0 ≤ x3 then (ky_let (md_throwsIf_r q39 0 1) (fun x43 => (ky_let (md_throwsIf_c q39 0 1) (fun q42 => (if x43 = 0 then (ky_let (bk_w q42 1 1398 x3) (fun q46 => (md_law_L52 N (fun q48 x49 x50 => (ky_let (bk_w q48 1 14 1) (fun q52 => (ky_let (bk_w q52 0 7 0) (fun q54 => (some (q54, x49))))))) N q46 x3 0))) else (some (q42, 0))))))) else (ky_let (md_throwsIf_r q39 1 1) (fun x57 => (ky_let (md_throwsIf_c q39 1 1) (fun q56 => (if x57 = 0 then (ky_let (bk_w q56 1 1398 x3) (fun q60 => (md_law_L52 N (fun q62 x63 x64 => (ky_let (bk_w q62 1 14 1) (fun q66 => (ky_let (bk_w q66 0 7 0) (fun q68 => (some (q68, x63))))))) N q60 x3 0))) else (some (q56, 0)))))))))))))) zz.1 zz.2))
set_option maxRecDepth 20000 in
set_option maxHeartbeats 4000000 in
theorem k_X12_law {G : ky_GW} {d : Nat} {h : ky_HP} {Q : ky_RS → ky_HP → Prop} {a : Nat} {c c9 : (Nat → Nat → Int32)} {r9 : Int32}  (N : Nat) (hG : ky_OK G)   (hm : md_at G h a c)  (e : md_law N  c = some (c9, r9)) (hr : ∀ h1, md_at G h1 a c9 → bk_fr a 13 h h1 → Q (.inl (some (.int r9))) h1) : ky_Call G (d + 50) M_X12_law [.ref a] h Q := by
  refine ky_ofV (by decide +kernel) rfl ok_X12_law (Nat.le_of_ble_eq_true rfl) ?_
  have fr : bk_fr a 13 h h := bk_fr.rf
  unfold md_law at e
  refine (?_ : ky_V _ _ _ 0 [(0, .ref a)] [] _ _)
  refine v_aload_n (i := 0) (j := 0) rfl rfl (?_ : ky_V _ _ _ 1 _ _ _ _)
  refine v_iconst (v := 0) (i := 1) rfl (by decide) (?_ : ky_V _ _ _ 2 _ _ _ _)
  obtain ⟨⟨q2, x3⟩, g4, e⟩ := Option.bind_eq_some_iff.mp e
  refine cl_X12_237 (As := [.int 0]) rfl (i := 2) rfl (md_0 hm) rfl rfl (Nat.le_of_ble_eq_true rfl) (k_X12_readAll N hG hm g4 (fun h1 hmh1 frh1 => ⟨_, rfl, (?_ : ky_V _ _ _ 5 _ [.int x3] _ _)⟩))
  have frh1 := fr.tr frh1
  refine v_istore_n (L' := [(0, .ref a), (1, .int x3)]) [1, 0] (i := 3) rfl (Nat.le_of_ble_eq_true rfl) rfl (?_ : ky_V _ _ _ 6 _ _ _ _)
  refine v_aload_n (i := 4) (j := 0) rfl rfl (?_ : ky_V _ _ _ 7 _ _ _ _)
  refine v_iload_n (i := 5) (j := 1) rfl rfl (?_ : ky_V _ _ _ 8 _ _ _ _)
  refine v_if_ge (tgt := 18) (i := 6) rfl (by decide) (fun c5 => ?_) (fun c5 => ?_)
  · replace e := ky_ifT c5 e
    refine v_iconst (v := (-1)) (i := 10) rfl (by decide) (?_ : ky_V _ _ _ 19 _ _ _ _)
    refine pf_X12_33 rfl (i := 11) rfl (md_0 hmh1) (Nat.le_of_ble_eq_true rfl) rfl rfl ?_
    refine bk_st (B := md_B G a) hmh1 frh1 0 14 (-1) (by decide) (fun h6 hmh6 frh6 => ?_)
    obtain ⟨q7, eq7⟩ : ∃ z, z = (bk_w q2 0 14 (-1)) := ⟨_, rfl⟩
    rw [← eq7] at hmh6
    replace e := ky_letE eq7 e
    refine (?_ : ky_V _ _ _ 22 _ _ _ _)
    refine v_aload_n (i := 12) (j := 0) rfl rfl (?_ : ky_V _ _ _ 23 _ _ _ _)
    refine v_iload_n (i := 13) (j := 1) rfl rfl (?_ : ky_V _ _ _ 24 _ _ _ _)
    refine v_if_ge (tgt := 31) (i := 14) rfl (by decide) (fun c8 => ?_) (fun c8 => ?_)
    · replace e := ky_ifT c8 e
      refine v_iconst (v := 0) (i := 17) rfl (by decide) (?_ : ky_V _ _ _ 32 _ _ _ _)
      refine v_iconst (v := 1) (i := 18) rfl (by decide) (?_ : ky_V _ _ _ 33 _ _ _ _)
      refine cl_X12_241 (As := [.int 0, .int 1]) rfl (i := 19) rfl (md_0 hmh6) rfl rfl (Nat.le_of_ble_eq_true rfl) (k_X12_throwsIf 0 1 hmh6 (by decide) (fun h9 hmh9 frh9 => ⟨_, rfl, (?_ : ky_V _ _ _ 36 _ [.int ((md_throwsIf_r q7 0 1))] _ _)⟩))
      have frh9 := frh6.tr frh9
      refine v_topi (fun x11 ex11 => ?_)
      replace e := ky_letE ex11 e
      obtain ⟨q10, eq10⟩ : ∃ z, z = (md_throwsIf_c q7 0 1) := ⟨_, rfl⟩
      rw [← eq10] at hmh9
      replace e := ky_letE eq10 e
      refine v_if_eq (tgt := 41) (i := 20) rfl (by decide) (fun c12 => ?_) (fun c12 => ?_)
      · replace e := ky_ifT c12 e
        refine v_aload_n (i := 23) (j := 0) rfl rfl (?_ : ky_V _ _ _ 42 _ _ _ _)
        refine gf_X12_13 rfl (i := 24) rfl (md_0 hmh9) rfl (?_ : ky_V _ _ _ 45 _ _ _ _)
        refine v_sipush (v := 1398) (i := 25) rfl (by decide) (?_ : ky_V _ _ _ 48 _ _ _ _)
        refine v_iload_n (i := 26) (j := 1) rfl rfl (?_ : ky_V _ _ _ 49 _ _ _ _)
        refine v_iast (i := 27) rfl (md_1 hmh9) (ky_inl (by decide)) ?_
        refine bk_st (B := md_B G a) hmh9 frh9 1 1398 x3 (by decide) (fun h13 hmh13 frh13 => ?_)
        obtain ⟨q14, eq14⟩ : ∃ z, z = (bk_w q10 1 1398 x3) := ⟨_, rfl⟩
        rw [← eq14] at hmh13
        replace e := ky_letE eq14 e
        refine (?_ : ky_V _ _ _ 50 _ _ _ _)
        refine v_iconst (v := 0) (i := 28) rfl (by decide) (?_ : ky_V _ _ _ 51 _ _ _ _)
        refine v_istore_n (L' := [(0, .ref a), (1, .int x3), (2, .int 0)]) [1, 2, 0] (i := 29) rfl (Nat.le_of_ble_eq_true rfl) rfl (?_ : ky_V _ _ _ 52 _ _ _ _)
        refine lv_X12_law_52 N hG _ hr (fun h15 q16 x17 x18 hmh15 frh15 e => ?_) N h13 q14 x3 0 hmh13 frh13 e
        refine v_aload_n (i := 47) (j := 0) rfl rfl (?_ : ky_V _ _ _ 86 _ _ _ _)
        refine gf_X12_13 rfl (i := 48) rfl (md_0 hmh15) rfl (?_ : ky_V _ _ _ 89 _ _ _ _)
        refine v_bipush (v := 14) (i := 49) rfl (by decide) (?_ : ky_V _ _ _ 91 _ _ _ _)
        refine v_iconst (v := 1) (i := 50) rfl (by decide) (?_ : ky_V _ _ _ 92 _ _ _ _)
        refine v_iast (i := 51) rfl (md_1 hmh15) (ky_inl (by decide)) ?_
        refine bk_st (B := md_B G a) hmh15 frh15 1 14 1 (by decide) (fun h19 hmh19 frh19 => ?_)
        obtain ⟨q20, eq20⟩ : ∃ z, z = (bk_w q16 1 14 1) := ⟨_, rfl⟩
        rw [← eq20] at hmh19
        replace e := ky_letE eq20 e
        refine (?_ : ky_V _ _ _ 93 _ _ _ _)
        refine v_aload_n (i := 52) (j := 0) rfl rfl (?_ : ky_V _ _ _ 94 _ _ _ _)
        refine v_iconst (v := 0) (i := 53) rfl (by decide) (?_ : ky_V _ _ _ 95 _ _ _ _)
        refine pf_X12_58 rfl (i := 54) rfl (md_0 hmh19) (Nat.le_of_ble_eq_true rfl) rfl rfl ?_
        refine bk_st (B := md_B G a) hmh19 frh19 0 7 0 (by decide) (fun h21 hmh21 frh21 => ?_)
        obtain ⟨q22, eq22⟩ : ∃ z, z = (bk_w q20 0 7 0) := ⟨_, rfl⟩
        rw [← eq22] at hmh21
        replace e := ky_letE eq22 e
        refine (?_ : ky_V _ _ _ 98 _ _ _ _)
        refine v_iload_n (i := 55) (j := 1) rfl rfl (?_ : ky_V _ _ _ 99 _ _ _ _)
        refine v_iret (v := x17) (ty := .int) (i := 56) rfl rfl rfl ?_
        obtain ⟨rfl, rfl⟩ := ky_leaf e
        exact hr _ hmh21 frh21
      · replace e := ky_ifF c12 e
        refine v_iconst (v := 0) (i := 21) rfl (by decide) (?_ : ky_V _ _ _ 40 _ _ _ _)
        refine v_iret (v := 0) (ty := .int) (i := 22) rfl rfl rfl ?_
        obtain ⟨rfl, rfl⟩ := ky_leaf e
        exact hr _ hmh9 frh9
    · replace e := ky_ifF c8 e
      refine v_iconst (v := 1) (i := 15) rfl (by decide) (?_ : ky_V _ _ _ 28 _ _ _ _)
      refine v_goto (tgt := 32) (i := 16) rfl (by decide) (?_ : ky_V _ _ _ 32 _ _ _ _)
      refine v_iconst (v := 1) (i := 18) rfl (by decide) (?_ : ky_V _ _ _ 33 _ _ _ _)
      refine cl_X12_241 (As := [.int 1, .int 1]) rfl (i := 19) rfl (md_0 hmh6) rfl rfl (Nat.le_of_ble_eq_true rfl) (k_X12_throwsIf 1 1 hmh6 (by decide) (fun h23 hmh23 frh23 => ⟨_, rfl, (?_ : ky_V _ _ _ 36 _ [.int ((md_throwsIf_r q7 1 1))] _ _)⟩))
      have frh23 := frh6.tr frh23
      refine v_topi (fun x25 ex25 => ?_)
      replace e := ky_letE ex25 e
      obtain ⟨q24, eq24⟩ : ∃ z, z = (md_throwsIf_c q7 1 1) := ⟨_, rfl⟩
      rw [← eq24] at hmh23
      replace e := ky_letE eq24 e
      refine v_if_eq (tgt := 41) (i := 20) rfl (by decide) (fun c26 => ?_) (fun c26 => ?_)
      · replace e := ky_ifT c26 e
        refine v_aload_n (i := 23) (j := 0) rfl rfl (?_ : ky_V _ _ _ 42 _ _ _ _)
        refine gf_X12_13 rfl (i := 24) rfl (md_0 hmh23) rfl (?_ : ky_V _ _ _ 45 _ _ _ _)
        refine v_sipush (v := 1398) (i := 25) rfl (by decide) (?_ : ky_V _ _ _ 48 _ _ _ _)
        refine v_iload_n (i := 26) (j := 1) rfl rfl (?_ : ky_V _ _ _ 49 _ _ _ _)
        refine v_iast (i := 27) rfl (md_1 hmh23) (ky_inl (by decide)) ?_
        refine bk_st (B := md_B G a) hmh23 frh23 1 1398 x3 (by decide) (fun h27 hmh27 frh27 => ?_)
        obtain ⟨q28, eq28⟩ : ∃ z, z = (bk_w q24 1 1398 x3) := ⟨_, rfl⟩
        rw [← eq28] at hmh27
        replace e := ky_letE eq28 e
        refine (?_ : ky_V _ _ _ 50 _ _ _ _)
        refine v_iconst (v := 0) (i := 28) rfl (by decide) (?_ : ky_V _ _ _ 51 _ _ _ _)
        refine v_istore_n (L' := [(0, .ref a), (1, .int x3), (2, .int 0)]) [1, 2, 0] (i := 29) rfl (Nat.le_of_ble_eq_true rfl) rfl (?_ : ky_V _ _ _ 52 _ _ _ _)
        refine lv_X12_law_52 N hG _ hr (fun h29 q30 x31 x32 hmh29 frh29 e => ?_) N h27 q28 x3 0 hmh27 frh27 e
        refine v_aload_n (i := 47) (j := 0) rfl rfl (?_ : ky_V _ _ _ 86 _ _ _ _)
        refine gf_X12_13 rfl (i := 48) rfl (md_0 hmh29) rfl (?_ : ky_V _ _ _ 89 _ _ _ _)
        refine v_bipush (v := 14) (i := 49) rfl (by decide) (?_ : ky_V _ _ _ 91 _ _ _ _)
        refine v_iconst (v := 1) (i := 50) rfl (by decide) (?_ : ky_V _ _ _ 92 _ _ _ _)
        refine v_iast (i := 51) rfl (md_1 hmh29) (ky_inl (by decide)) ?_
        refine bk_st (B := md_B G a) hmh29 frh29 1 14 1 (by decide) (fun h33 hmh33 frh33 => ?_)
        obtain ⟨q34, eq34⟩ : ∃ z, z = (bk_w q30 1 14 1) := ⟨_, rfl⟩
        rw [← eq34] at hmh33
        replace e := ky_letE eq34 e
        refine (?_ : ky_V _ _ _ 93 _ _ _ _)
        refine v_aload_n (i := 52) (j := 0) rfl rfl (?_ : ky_V _ _ _ 94 _ _ _ _)
        refine v_iconst (v := 0) (i := 53) rfl (by decide) (?_ : ky_V _ _ _ 95 _ _ _ _)
        refine pf_X12_58 rfl (i := 54) rfl (md_0 hmh33) (Nat.le_of_ble_eq_true rfl) rfl rfl ?_
        refine bk_st (B := md_B G a) hmh33 frh33 0 7 0 (by decide) (fun h35 hmh35 frh35 => ?_)
        obtain ⟨q36, eq36⟩ : ∃ z, z = (bk_w q34 0 7 0) := ⟨_, rfl⟩
        rw [← eq36] at hmh35
        replace e := ky_letE eq36 e
        refine (?_ : ky_V _ _ _ 98 _ _ _ _)
        refine v_iload_n (i := 55) (j := 1) rfl rfl (?_ : ky_V _ _ _ 99 _ _ _ _)
        refine v_iret (v := x31) (ty := .int) (i := 56) rfl rfl rfl ?_
        obtain ⟨rfl, rfl⟩ := ky_leaf e
        exact hr _ hmh35 frh35
      · replace e := ky_ifF c26 e
        refine v_iconst (v := 0) (i := 21) rfl (by decide) (?_ : ky_V _ _ _ 40 _ _ _ _)
        refine v_iret (v := 0) (ty := .int) (i := 22) rfl rfl rfl ?_
        obtain ⟨rfl, rfl⟩ := ky_leaf e
        exact hr _ hmh23 frh23
  · replace e := ky_ifF c5 e
    refine v_aload_n (i := 7) (j := 0) rfl rfl (?_ : ky_V _ _ _ 12 _ _ _ _)
    refine gf_X12_87 rfl (i := 8) rfl (md_0 hmh1) rfl (?_ : ky_V _ _ _ 15 _ _ _ _)
    refine v_goto (tgt := 19) (i := 9) rfl (by decide) (?_ : ky_V _ _ _ 19 _ _ _ _)
    refine v_topi (fun x37 ex37 => ?_)
    replace e := ky_letE ex37 e
    refine pf_X12_33 rfl (i := 11) rfl (md_0 hmh1) (Nat.le_of_ble_eq_true rfl) rfl rfl ?_
    refine bk_st (B := md_B G a) hmh1 frh1 0 14 x37 (by decide) (fun h38 hmh38 frh38 => ?_)
    obtain ⟨q39, eq39⟩ : ∃ z, z = (bk_w q2 0 14 x37) := ⟨_, rfl⟩
    rw [← eq39] at hmh38
    replace e := ky_letE eq39 e
    refine (?_ : ky_V _ _ _ 22 _ _ _ _)
    refine v_aload_n (i := 12) (j := 0) rfl rfl (?_ : ky_V _ _ _ 23 _ _ _ _)
    refine v_iload_n (i := 13) (j := 1) rfl rfl (?_ : ky_V _ _ _ 24 _ _ _ _)
    refine v_if_ge (tgt := 31) (i := 14) rfl (by decide) (fun c40 => ?_) (fun c40 => ?_)
    · replace e := ky_ifT c40 e
      refine v_iconst (v := 0) (i := 17) rfl (by decide) (?_ : ky_V _ _ _ 32 _ _ _ _)
      refine v_iconst (v := 1) (i := 18) rfl (by decide) (?_ : ky_V _ _ _ 33 _ _ _ _)
      refine cl_X12_241 (As := [.int 0, .int 1]) rfl (i := 19) rfl (md_0 hmh38) rfl rfl (Nat.le_of_ble_eq_true rfl) (k_X12_throwsIf 0 1 hmh38 (by decide) (fun h41 hmh41 frh41 => ⟨_, rfl, (?_ : ky_V _ _ _ 36 _ [.int ((md_throwsIf_r q39 0 1))] _ _)⟩))
      have frh41 := frh38.tr frh41
      refine v_topi (fun x43 ex43 => ?_)
      replace e := ky_letE ex43 e
      obtain ⟨q42, eq42⟩ : ∃ z, z = (md_throwsIf_c q39 0 1) := ⟨_, rfl⟩
      rw [← eq42] at hmh41
      replace e := ky_letE eq42 e
      refine v_if_eq (tgt := 41) (i := 20) rfl (by decide) (fun c44 => ?_) (fun c44 => ?_)
      · replace e := ky_ifT c44 e
        refine v_aload_n (i := 23) (j := 0) rfl rfl (?_ : ky_V _ _ _ 42 _ _ _ _)
        refine gf_X12_13 rfl (i := 24) rfl (md_0 hmh41) rfl (?_ : ky_V _ _ _ 45 _ _ _ _)
        refine v_sipush (v := 1398) (i := 25) rfl (by decide) (?_ : ky_V _ _ _ 48 _ _ _ _)
        refine v_iload_n (i := 26) (j := 1) rfl rfl (?_ : ky_V _ _ _ 49 _ _ _ _)
        refine v_iast (i := 27) rfl (md_1 hmh41) (ky_inl (by decide)) ?_
        refine bk_st (B := md_B G a) hmh41 frh41 1 1398 x3 (by decide) (fun h45 hmh45 frh45 => ?_)
        obtain ⟨q46, eq46⟩ : ∃ z, z = (bk_w q42 1 1398 x3) := ⟨_, rfl⟩
        rw [← eq46] at hmh45
        replace e := ky_letE eq46 e
        refine (?_ : ky_V _ _ _ 50 _ _ _ _)
        refine v_iconst (v := 0) (i := 28) rfl (by decide) (?_ : ky_V _ _ _ 51 _ _ _ _)
        refine v_istore_n (L' := [(0, .ref a), (1, .int x3), (2, .int 0)]) [1, 2, 0] (i := 29) rfl (Nat.le_of_ble_eq_true rfl) rfl (?_ : ky_V _ _ _ 52 _ _ _ _)
        refine lv_X12_law_52 N hG _ hr (fun h47 q48 x49 x50 hmh47 frh47 e => ?_) N h45 q46 x3 0 hmh45 frh45 e
        refine v_aload_n (i := 47) (j := 0) rfl rfl (?_ : ky_V _ _ _ 86 _ _ _ _)
        refine gf_X12_13 rfl (i := 48) rfl (md_0 hmh47) rfl (?_ : ky_V _ _ _ 89 _ _ _ _)
        refine v_bipush (v := 14) (i := 49) rfl (by decide) (?_ : ky_V _ _ _ 91 _ _ _ _)
        refine v_iconst (v := 1) (i := 50) rfl (by decide) (?_ : ky_V _ _ _ 92 _ _ _ _)
        refine v_iast (i := 51) rfl (md_1 hmh47) (ky_inl (by decide)) ?_
        refine bk_st (B := md_B G a) hmh47 frh47 1 14 1 (by decide) (fun h51 hmh51 frh51 => ?_)
        obtain ⟨q52, eq52⟩ : ∃ z, z = (bk_w q48 1 14 1) := ⟨_, rfl⟩
        rw [← eq52] at hmh51
        replace e := ky_letE eq52 e
        refine (?_ : ky_V _ _ _ 93 _ _ _ _)
        refine v_aload_n (i := 52) (j := 0) rfl rfl (?_ : ky_V _ _ _ 94 _ _ _ _)
        refine v_iconst (v := 0) (i := 53) rfl (by decide) (?_ : ky_V _ _ _ 95 _ _ _ _)
        refine pf_X12_58 rfl (i := 54) rfl (md_0 hmh51) (Nat.le_of_ble_eq_true rfl) rfl rfl ?_
        refine bk_st (B := md_B G a) hmh51 frh51 0 7 0 (by decide) (fun h53 hmh53 frh53 => ?_)
        obtain ⟨q54, eq54⟩ : ∃ z, z = (bk_w q52 0 7 0) := ⟨_, rfl⟩
        rw [← eq54] at hmh53
        replace e := ky_letE eq54 e
        refine (?_ : ky_V _ _ _ 98 _ _ _ _)
        refine v_iload_n (i := 55) (j := 1) rfl rfl (?_ : ky_V _ _ _ 99 _ _ _ _)
        refine v_iret (v := x49) (ty := .int) (i := 56) rfl rfl rfl ?_
        obtain ⟨rfl, rfl⟩ := ky_leaf e
        exact hr _ hmh53 frh53
      · replace e := ky_ifF c44 e
        refine v_iconst (v := 0) (i := 21) rfl (by decide) (?_ : ky_V _ _ _ 40 _ _ _ _)
        refine v_iret (v := 0) (ty := .int) (i := 22) rfl rfl rfl ?_
        obtain ⟨rfl, rfl⟩ := ky_leaf e
        exact hr _ hmh41 frh41
    · replace e := ky_ifF c40 e
      refine v_iconst (v := 1) (i := 15) rfl (by decide) (?_ : ky_V _ _ _ 28 _ _ _ _)
      refine v_goto (tgt := 32) (i := 16) rfl (by decide) (?_ : ky_V _ _ _ 32 _ _ _ _)
      refine v_iconst (v := 1) (i := 18) rfl (by decide) (?_ : ky_V _ _ _ 33 _ _ _ _)
      refine cl_X12_241 (As := [.int 1, .int 1]) rfl (i := 19) rfl (md_0 hmh38) rfl rfl (Nat.le_of_ble_eq_true rfl) (k_X12_throwsIf 1 1 hmh38 (by decide) (fun h55 hmh55 frh55 => ⟨_, rfl, (?_ : ky_V _ _ _ 36 _ [.int ((md_throwsIf_r q39 1 1))] _ _)⟩))
      have frh55 := frh38.tr frh55
      refine v_topi (fun x57 ex57 => ?_)
      replace e := ky_letE ex57 e
      obtain ⟨q56, eq56⟩ : ∃ z, z = (md_throwsIf_c q39 1 1) := ⟨_, rfl⟩
      rw [← eq56] at hmh55
      replace e := ky_letE eq56 e
      refine v_if_eq (tgt := 41) (i := 20) rfl (by decide) (fun c58 => ?_) (fun c58 => ?_)
      · replace e := ky_ifT c58 e
        refine v_aload_n (i := 23) (j := 0) rfl rfl (?_ : ky_V _ _ _ 42 _ _ _ _)
        refine gf_X12_13 rfl (i := 24) rfl (md_0 hmh55) rfl (?_ : ky_V _ _ _ 45 _ _ _ _)
        refine v_sipush (v := 1398) (i := 25) rfl (by decide) (?_ : ky_V _ _ _ 48 _ _ _ _)
        refine v_iload_n (i := 26) (j := 1) rfl rfl (?_ : ky_V _ _ _ 49 _ _ _ _)
        refine v_iast (i := 27) rfl (md_1 hmh55) (ky_inl (by decide)) ?_
        refine bk_st (B := md_B G a) hmh55 frh55 1 1398 x3 (by decide) (fun h59 hmh59 frh59 => ?_)
        obtain ⟨q60, eq60⟩ : ∃ z, z = (bk_w q56 1 1398 x3) := ⟨_, rfl⟩
        rw [← eq60] at hmh59
        replace e := ky_letE eq60 e
        refine (?_ : ky_V _ _ _ 50 _ _ _ _)
        refine v_iconst (v := 0) (i := 28) rfl (by decide) (?_ : ky_V _ _ _ 51 _ _ _ _)
        refine v_istore_n (L' := [(0, .ref a), (1, .int x3), (2, .int 0)]) [1, 2, 0] (i := 29) rfl (Nat.le_of_ble_eq_true rfl) rfl (?_ : ky_V _ _ _ 52 _ _ _ _)
        refine lv_X12_law_52 N hG _ hr (fun h61 q62 x63 x64 hmh61 frh61 e => ?_) N h59 q60 x3 0 hmh59 frh59 e
        refine v_aload_n (i := 47) (j := 0) rfl rfl (?_ : ky_V _ _ _ 86 _ _ _ _)
        refine gf_X12_13 rfl (i := 48) rfl (md_0 hmh61) rfl (?_ : ky_V _ _ _ 89 _ _ _ _)
        refine v_bipush (v := 14) (i := 49) rfl (by decide) (?_ : ky_V _ _ _ 91 _ _ _ _)
        refine v_iconst (v := 1) (i := 50) rfl (by decide) (?_ : ky_V _ _ _ 92 _ _ _ _)
        refine v_iast (i := 51) rfl (md_1 hmh61) (ky_inl (by decide)) ?_
        refine bk_st (B := md_B G a) hmh61 frh61 1 14 1 (by decide) (fun h65 hmh65 frh65 => ?_)
        obtain ⟨q66, eq66⟩ : ∃ z, z = (bk_w q62 1 14 1) := ⟨_, rfl⟩
        rw [← eq66] at hmh65
        replace e := ky_letE eq66 e
        refine (?_ : ky_V _ _ _ 93 _ _ _ _)
        refine v_aload_n (i := 52) (j := 0) rfl rfl (?_ : ky_V _ _ _ 94 _ _ _ _)
        refine v_iconst (v := 0) (i := 53) rfl (by decide) (?_ : ky_V _ _ _ 95 _ _ _ _)
        refine pf_X12_58 rfl (i := 54) rfl (md_0 hmh65) (Nat.le_of_ble_eq_true rfl) rfl rfl ?_
        refine bk_st (B := md_B G a) hmh65 frh65 0 7 0 (by decide) (fun h67 hmh67 frh67 => ?_)
        obtain ⟨q68, eq68⟩ : ∃ z, z = (bk_w q66 0 7 0) := ⟨_, rfl⟩
        rw [← eq68] at hmh67
        replace e := ky_letE eq68 e
        refine (?_ : ky_V _ _ _ 98 _ _ _ _)
        refine v_iload_n (i := 55) (j := 1) rfl rfl (?_ : ky_V _ _ _ 99 _ _ _ _)
        refine v_iret (v := x63) (ty := .int) (i := 56) rfl rfl rfl ?_
        obtain ⟨rfl, rfl⟩ := ky_leaf e
        exact hr _ hmh67 frh67
      · replace e := ky_ifF c58 e
        refine v_iconst (v := 0) (i := 21) rfl (by decide) (?_ : ky_V _ _ _ 40 _ _ _ _)
        refine v_iret (v := 0) (ty := .int) (i := 22) rfl rfl rfl ?_
        obtain ⟨rfl, rfl⟩ := ky_leaf e
        exact hr _ hmh55 frh55
