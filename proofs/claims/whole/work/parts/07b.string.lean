/-! the JDK's String.length and charAt over constants -/
theorem k_J3_checkIndex {G : ky_GW} {d : Nat} {h : ky_HP} {Q : ky_RS → ky_HP → Prop} {x n : Int32} {v : Value} (h0 : ¬ x < 0) (h1 : x < n) (hv : v = .null ∨ ∃ t, v = .ref t) (K : Q (.inl (some (.int x))) h) : ky_Call G d M_J3_checkIndex_8e157 [.int x, .int n, v] h Q := by
  rcases hv with rfl | ⟨t, rfl⟩
  · refine ky_ofV (by decide +kernel) rfl ok_J3_checkIndex_8e157 (Nat.le_of_ble_eq_true rfl) ?_
    refine (?_ : ky_V _ _ _ 0 [(0, .int x), (1, .int n), (2, .null)] [] _ _)
    refine v_iload_n (i := 0) (j := 0) rfl rfl (?_ : ky_V _ _ _ 1 _ _ _ _)
    refine v_if_lt (tgt := 9) (i := 1) rfl (by decide) (fun c => absurd c h0) (fun _ => (?_ : ky_V _ _ _ 4 _ _ _ _))
    refine v_iload_n (i := 2) (j := 0) rfl rfl (?_ : ky_V _ _ _ 5 _ _ _ _)
    refine v_iload_n (i := 3) (j := 1) rfl rfl (?_ : ky_V _ _ _ 6 _ _ _ _)
    refine v_icmp_lt (tgt := 16) (i := 4) rfl (by decide) (fun _ => ?_) (fun c => absurd h1 c)
    refine v_iload_n (i := 10) (j := 0) rfl rfl (?_ : ky_V _ _ _ 17 _ _ _ _)
    exact v_iret (v := x) (ty := .int) (i := 11) rfl rfl rfl K
  · refine ky_ofV (by decide +kernel) rfl ok_J3_checkIndex_8e157 (Nat.le_of_ble_eq_true rfl) ?_
    refine (?_ : ky_V _ _ _ 0 [(0, .int x), (1, .int n), (2, .ref t)] [] _ _)
    refine v_iload_n (i := 0) (j := 0) rfl rfl (?_ : ky_V _ _ _ 1 _ _ _ _)
    refine v_if_lt (tgt := 9) (i := 1) rfl (by decide) (fun c => absurd c h0) (fun _ => (?_ : ky_V _ _ _ 4 _ _ _ _))
    refine v_iload_n (i := 2) (j := 0) rfl rfl (?_ : ky_V _ _ _ 5 _ _ _ _)
    refine v_iload_n (i := 3) (j := 1) rfl rfl (?_ : ky_V _ _ _ 6 _ _ _ _)
    refine v_icmp_lt (tgt := 16) (i := 4) rfl (by decide) (fun _ => ?_) (fun c => absurd h1 c)
    refine v_iload_n (i := 10) (j := 0) rfl rfl (?_ : ky_V _ _ _ 17 _ _ _ _)
    exact v_iret (v := x) (ty := .int) (i := 11) rfl rfl rfl K
theorem k_J0_checkIndex {G : ky_GW} {d : Nat} {h : ky_HP} {Q : ky_RS → ky_HP → Prop} {x n : Int32} (hG : ky_OK G) (h0 : ¬ x < 0) (h1 : x < n) (K : Q (.inl none) h) : ky_Call G (d + 1) M_J0_checkIndex_df160 [.int x, .int n] h Q := by
  refine ky_ofV (by decide +kernel) rfl ok_J0_checkIndex_df160 (Nat.le_of_ble_eq_true rfl) ?_
  refine (?_ : ky_V _ _ _ 0 [(0, .int x), (1, .int n)] [] _ _)
  refine v_iload_n (i := 0) (j := 0) rfl rfl (?_ : ky_V _ _ _ 1 _ _ _ _)
  refine v_iload_n (i := 1) (j := 1) rfl rfl (?_ : ky_V _ _ _ 2 _ _ _ _)
  have hl : ky_T (.fieldLink M_J0_checkIndex_df160.1.cls 1053 "jdk/internal/util/Preconditions" "SIOOBE_FORMATTER" "Ljava/util/function/BiFunction;") := (ky_t3 (i := 232) rfl rfl)
  have go : ∀ v : Value, (v = .null ∨ ∃ t, v = .ref t) → ky_V G (d + 1) M_J0_checkIndex_df160 5 [(0, .int x), (1, .int n)] [v, .int n, .int x] h Q := fun v hv => by
    refine cl_J0_1059 (As := [.int x, .int n, v]) rfl (i := 3) rfl rfl rfl (Nat.le_of_ble_eq_true rfl) (k_J3_checkIndex h0 h1 hv ⟨_, rfl, (?_ : ky_V _ _ _ 8 _ [.int x] _ _)⟩)
    refine v_pop (i := 4) rfl rfl (?_ : ky_V _ _ _ 9 _ _ _ _)
    exact v_vret (i := 5) rfl rfl K
  rcases sz_SIOOBE hG with hz | ⟨t, hz⟩
  · exact v_gets (i := 2) hz hl rfl (go _ (Or.inl rfl))
  · exact v_gets (i := 2) hz hl rfl (go _ (Or.inr ⟨t, rfl⟩))
def st_ch (b : Int32) : Int32 := (Int32.toUInt32 (b &&& 255) % 65536).toInt32
theorem st_ch_nar (b : Int32) : narrow .char (.int (st_ch b)) = .int (st_ch b) := pk_nc _
theorem k_J1_charAt {G : ky_GW} {d : Nat} {h : ky_HP} {Q : ky_RS → ky_HP → Prop} {t : Nat} {bs : List Int32} {x : Int32} (hG : ky_OK G) (hT : va_T .byte t bs.length (fun j => .int (bs.getD j 0)) (ky_A G) G.2.1 G.2.1.heap) (h0 : ¬ x < 0) (h1 : x < Int32.ofNat bs.length) (hin : vp_in x bs.length) (K : Q (.inl (some (.int (st_ch (bs.getD x.toNatClampNeg 0))))) h) : ky_Call G (d + 2) M_J1_charAt_3b067 [.ref t, .int x] h Q := by
  refine ky_ofV (by decide +kernel) rfl ok_J1_charAt_3b067 (Nat.le_of_ble_eq_true rfl) ?_
  refine (?_ : ky_V _ _ _ 0 [(0, .ref t), (1, .int x)] [] _ _)
  refine v_iload_n (i := 0) (j := 1) rfl rfl (?_ : ky_V _ _ _ 1 _ _ _ _)
  refine v_aload_n (i := 1) (j := 0) rfl rfl (?_ : ky_V _ _ _ 2 _ _ _ _)
  refine v_alenO (i := 2) hT rfl rfl (?_ : ky_V _ _ _ 3 _ _ _ _)
  refine cl_J1_9 (As := [.int x, .int (Int32.ofNat bs.length)]) rfl (i := 3) rfl rfl rfl (Nat.le_of_ble_eq_true rfl) (k_J0_checkIndex hG h0 h1 ⟨_, rfl, (?_ : ky_V _ _ _ 6 _ [] _ _)⟩)
  refine v_aload_n (i := 4) (j := 0) rfl rfl (?_ : ky_V _ _ _ 7 _ _ _ _)
  refine v_iload_n (i := 5) (j := 1) rfl rfl (?_ : ky_V _ _ _ 8 _ _ _ _)
  refine v_baldO (i := 6) hT hin rfl (?_ : ky_V _ _ _ 9 _ _ _ _)
  refine v_sipush (v := 255) (i := 7) rfl (by decide) (?_ : ky_V _ _ _ 12 _ _ _ _)
  refine v_iand (i := 8) rfl (?_ : ky_V _ _ _ 13 _ _ _ _)
  refine v_i2c (v := st_ch (bs.getD x.toNatClampNeg 0)) (i := 9) rfl rfl (?_ : ky_V _ _ _ 14 _ _ _ _)
  exact v_iret (ty := .char) (i := 10) rfl rfl (st_ch_nar _) K
theorem k_J0_isLatin1 {G : ky_GW} {d : Nat} {h : ky_HP} {Q : ky_RS → ky_HP → Prop} {s : Nat} {bs : List Int32} (hG : ky_OK G) (hs : ky_Str G s bs) (K : Q (.inl (some (.int 1))) h) : ky_Call G d M_J0_isLatin1_aae02 [.ref s] h Q := by
  obtain ⟨v, hO, hC, hV, hT⟩ := hs
  refine ky_ofV (by decide +kernel) rfl ok_J0_isLatin1_aae02 (Nat.le_of_ble_eq_true rfl) ?_
  refine (?_ : ky_V _ _ _ 0 [(0, .ref s)] [] _ _)
  refine v_gets (i := 0) (sz_COMPACT_STRINGS hG) (ky_t3 (i := 216) rfl rfl) rfl (?_ : ky_V _ _ _ 3 _ _ _ _)
  refine v_if_eq (tgt := 17) (i := 1) rfl (by decide) (fun c => absurd c (by decide)) (fun _ => (?_ : ky_V _ _ _ 6 _ _ _ _))
  refine v_aload_n (i := 2) (j := 0) rfl rfl (?_ : ky_V _ _ _ 7 _ _ _ _)
  refine v_getO (i := 3) hC (ky_t9 (i := 196) rfl rfl) rfl (?_ : ky_V _ _ _ 10 _ _ _ _)
  refine v_if_ne (tgt := 17) (i := 4) rfl (by decide) (fun c => absurd rfl c) (fun _ => (?_ : ky_V _ _ _ 13 _ _ _ _))
  refine v_iconst (v := 1) (i := 5) rfl (by decide) (?_ : ky_V _ _ _ 14 _ _ _ _)
  refine v_goto (tgt := 18) (i := 6) rfl (by decide) (?_ : ky_V _ _ _ 18 _ _ _ _)
  exact v_iret (ty := .boolean) (i := 8) rfl rfl (by decide) K
theorem k_J0_coder {G : ky_GW} {d : Nat} {h : ky_HP} {Q : ky_RS → ky_HP → Prop} {s : Nat} {bs : List Int32} (hG : ky_OK G) (hs : ky_Str G s bs) (K : Q (.inl (some (.int 0))) h) : ky_Call G d M_J0_coder_7d493 [.ref s] h Q := by
  obtain ⟨v, hO, hC, hV, hT⟩ := hs
  refine ky_ofV (by decide +kernel) rfl ok_J0_coder_7d493 (Nat.le_of_ble_eq_true rfl) ?_
  refine (?_ : ky_V _ _ _ 0 [(0, .ref s)] [] _ _)
  refine v_gets (i := 0) (sz_COMPACT_STRINGS hG) (ky_t3 (i := 216) rfl rfl) rfl (?_ : ky_V _ _ _ 3 _ _ _ _)
  refine v_if_eq (tgt := 13) (i := 1) rfl (by decide) (fun c => absurd c (by decide)) (fun _ => (?_ : ky_V _ _ _ 6 _ _ _ _))
  refine v_aload_n (i := 2) (j := 0) rfl rfl (?_ : ky_V _ _ _ 7 _ _ _ _)
  refine v_getO (i := 3) hC (ky_t9 (i := 196) rfl rfl) rfl (?_ : ky_V _ _ _ 10 _ _ _ _)
  refine v_goto (tgt := 14) (i := 4) rfl (by decide) (?_ : ky_V _ _ _ 14 _ _ _ _)
  exact v_iret (ty := .byte) (i := 6) rfl rfl (by decide) K
theorem k_J0_length_8abf5 {G : ky_GW} {d : Nat} {h : ky_HP} {Q : ky_RS → ky_HP → Prop} {s : Nat} {bs : List Int32} (hG : ky_OK G) (hs : ky_Str G s bs) (K : Q (.inl (some (.int (Int32.ofNat bs.length)))) h) : ky_Call G (d + 1) M_J0_length_8abf5 [.ref s] h Q := by
  have hs' := hs
  obtain ⟨v, hO, hC, hV, hT⟩ := hs
  refine ky_ofV (by decide +kernel) rfl ok_J0_length_8abf5 (Nat.le_of_ble_eq_true rfl) ?_
  refine (?_ : ky_V _ _ _ 0 [(0, .ref s)] [] _ _)
  refine v_aload_n (i := 0) (j := 0) rfl rfl (?_ : ky_V _ _ _ 1 _ _ _ _)
  refine v_getO (i := 1) hV (ky_t9 (i := 195) rfl rfl) rfl (?_ : ky_V _ _ _ 4 _ _ _ _)
  refine v_alenO (i := 2) hT rfl rfl (?_ : ky_V _ _ _ 5 _ _ _ _)
  refine v_aload_n (i := 3) (j := 0) rfl rfl (?_ : ky_V _ _ _ 6 _ _ _ _)
  refine cl_J0_335 (As := []) rfl (i := 4) rfl hO rfl rfl (Nat.le_of_ble_eq_true rfl) (k_J0_coder hG hs' ⟨_, rfl, (?_ : ky_V _ _ _ 9 _ [.int 0, .int (Int32.ofNat bs.length)] _ _)⟩)
  refine v_ishr (i := 5) rfl (?_ : ky_V _ _ _ 10 _ _ _ _)
  refine v_iret (ty := .int) (i := 6) rfl rfl rfl ?_
  rw [sb_shr0]
  exact K
theorem k_J0_charAt_5068e {G : ky_GW} {d : Nat} {h : ky_HP} {Q : ky_RS → ky_HP → Prop} {s : Nat} {bs : List Int32} {x : Int32} (hG : ky_OK G) (hs : ky_Str G s bs) (hb : bs.length < 2 ^ 31) (hin : vp_in x bs.length) (K : Q (.inl (some (.int (st_ch (bs.getD x.toNatClampNeg 0))))) h) : ky_Call G (d + 3) M_J0_charAt_5068e [.ref s, .int x] h Q := by
  have hs' := hs
  obtain ⟨v, hO, hC, hV, hT⟩ := hs
  obtain ⟨j, hj, rfl⟩ := vp_in_of hin hb
  refine ky_ofV (by decide +kernel) rfl ok_J0_charAt_5068e (Nat.le_of_ble_eq_true rfl) ?_
  refine (?_ : ky_V _ _ _ 0 [(0, .ref s), (1, .int (nI j))] [] _ _)
  refine v_aload_n (i := 0) (j := 0) rfl rfl (?_ : ky_V _ _ _ 1 _ _ _ _)
  refine cl_J0_492 (As := []) rfl (i := 1) rfl hO rfl rfl (Nat.le_of_ble_eq_true rfl) (k_J0_isLatin1 hG hs' ⟨_, rfl, (?_ : ky_V _ _ _ 4 _ [.int 1] _ _)⟩)
  refine v_if_eq (tgt := 16) (i := 2) rfl (by decide) (fun c => absurd c (by decide)) (fun _ => (?_ : ky_V _ _ _ 7 _ _ _ _))
  refine v_aload_n (i := 3) (j := 0) rfl rfl (?_ : ky_V _ _ _ 8 _ _ _ _)
  refine v_getO (i := 4) hV (ky_t9 (i := 195) rfl rfl) rfl (?_ : ky_V _ _ _ 11 _ _ _ _)
  refine v_iload_n (i := 5) (j := 1) rfl rfl (?_ : ky_V _ _ _ 12 _ _ _ _)
  refine cl_J0_495 (As := [.ref v, .int (nI j)]) rfl (i := 6) rfl rfl rfl (Nat.le_of_ble_eq_true rfl) (k_J1_charAt (d := d) hG hT (nI_pos (by omega)) (nI_lt hj hb) hin ⟨_, rfl, (?_ : ky_V _ _ _ 15 _ [.int (st_ch (bs.getD (nI j).toNatClampNeg 0))] _ _)⟩)
  exact v_iret (ty := .char) (i := 7) rfl rfl (st_ch_nar _) K
