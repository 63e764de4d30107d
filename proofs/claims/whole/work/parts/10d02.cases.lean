def tb_lc_moved : List (Nat × Instr × Nat) := [(635, .aload_n 1, 1), (636, .aload_n 0, 1), (637, .iload 4, 2), (639, .iconst 1, 1), (640, .iadd, 1), (641, .iaload, 1), (642, .aload_n 0, 1), (643, .iload 4, 2), (645, .iconst 2, 1), (646, .iadd, 1), (647, .iaload, 1), (648, .aload_n 3, 1), (649, .invokestatic 149, 3), (652, .istore 5, 2), (654, .aload_n 2, 1), (655, .aload_n 0, 1), (656, .iload 4, 2), (658, .iconst 1, 1), (659, .iadd, 1), (660, .iaload, 1), (661, .aload_n 0, 1), (662, .iload 4, 2), (664, .iconst 2, 1), (665, .iadd, 1), (666, .iaload, 1), (667, .invokevirtual 151, 3), (670, .istore 6, 2), (672, .aload_n 2, 1), (673, .invokevirtual 129, 3), (676, .iload 5, 2), (678, .if_icmp .eq 5, 3), (681, .iconst 0, 1), (682, .ireturn, 1), (683, .iload 5, 2), (685, .ifCond .ne 15, 3), (688, .aload_n 3, 1), (689, .iconst 0, 1), (690, .laload, 1), (691, .iload 6, 2), (693, .i2l, 1), (694, .lcmp, 1), (695, .ifCond .eq 5, 3), (698, .iconst 0, 1), (699, .ireturn, 1), (700, .goto 1705, 3)]
def M_lc_moved : ky_MT := (x, code, 8, ret, tb_lc_moved, [])
set_option maxRecDepth 100000 in
set_option maxHeartbeats 4000000 in
theorem ok_lc_moved : ky_ok code tb_lc_moved = true := by decide +kernel
set_option maxRecDepth 20000 in
set_option maxHeartbeats 4000000 in
theorem lc_moved {G : ky_GW} {b Ln : Nat} {xs : Nat → Int32} {h : ky_HP} {Q : ky_RS → ky_HP → Prop} {s s9 : sk_S} {c c9 : Nat → Nat → Int32} {f : Nat → Int64} {i : Int32} {r9 : ky_RS} {r : Int32} (N : Nat) (hG : ky_OK G) (hX : va_X b Ln xs G.2.1 G.2.1.heap) (hb : b < ky_B G) (b1 : vp_in (i + 1) Ln) (b2 : vp_in (i + 2) Ln) (b3 : vp_in (i + 3) Ln) (b4 : vp_in (i + 4) Ln) (b5 : vp_in (i + 5) Ln) (I : lw_I G s c f h) (hx : lw_X G s) (e1 : x11_moved N s (ky_B G) (xs (Int32.toNatClampNeg (i + 1))) (xs (Int32.toNatClampNeg (i + 2))) = some (s9, r9)) (e2 : md_moved N c (xs (Int32.toNatClampNeg (i + 1))) (xs (Int32.toNatClampNeg (i + 2))) = some (c9, r)) (hc : (r9 = .inl (some (.int r)) ∧ c9 0 0 = 0) ∨ (r9 = .inr "java/lang/IndexOutOfBoundsException" ∧ c9 0 0 = 1) ∨ (r9 = .inr "java/lang/IllegalStateException" ∧ c9 0 0 = 2)) (K : ∀ f9 h9, lw_I G s9 c9 f9 h9 → ky_V G 61 M_law 2405 [(0, .ref b), (1, .ref ((ky_B G))), (2, .ref ((ky_B G + 24))), (3, .ref ((ky_B G + 37))), (4, .int i)] [] h9 Q) : ky_V G 61 M_law 635 [(0, .ref b), (1, .ref ((ky_B G))), (2, .ref ((ky_B G + 24))), (3, .ref ((ky_B G + 37))), (4, .int i)] [] h Q := by
  refine ky_sub (M := M_law) (M' := M_lc_moved) rfl rfl rfl rfl rfl ok_lc_moved ?_
  rcases hc with ⟨rfl, ht⟩ | ⟨rfl, ht⟩ | ⟨rfl, ht⟩
  · refine v_aload_n (i := 0) (j := 1) rfl rfl (?_ : ky_V _ _ _ 636 _ _ _ _)
    refine v_aload_n (i := 1) (j := 0) rfl rfl (?_ : ky_V _ _ _ 637 _ _ _ _)
    refine v_iload (i := 2) (j := 4) rfl rfl (?_ : ky_V _ _ _ 639 _ _ _ _)
    refine v_iconst (v := 1) (i := 3) rfl (by decide) (?_ : ky_V _ _ _ 640 _ _ _ _)
    refine v_iadd (i := 4) rfl (?_ : ky_V _ _ _ 641 _ _ _ _)
    refine v_sld hX hb b1 (i := 5) rfl (?_ : ky_V _ _ _ 642 _ (.int (xs (Int32.toNatClampNeg (i + 1))) :: _) _ _)
    refine v_aload_n (i := 6) (j := 0) rfl rfl (?_ : ky_V _ _ _ 643 _ _ _ _)
    refine v_iload (i := 7) (j := 4) rfl rfl (?_ : ky_V _ _ _ 645 _ _ _ _)
    refine v_iconst (v := 2) (i := 8) rfl (by decide) (?_ : ky_V _ _ _ 646 _ _ _ _)
    refine v_iadd (i := 9) rfl (?_ : ky_V _ _ _ 647 _ _ _ _)
    refine v_sld hX hb b2 (i := 10) rfl (?_ : ky_V _ _ _ 648 _ (.int (xs (Int32.toNatClampNeg (i + 2))) :: _) _ _)
    refine v_aload_n (i := 11) (j := 3) rfl rfl (?_ : ky_V _ _ _ 649 _ _ _ _)
    refine v_callSH (As := [.ref ((ky_B G)), .int ((xs (Int32.toNatClampNeg (i + 1)))), .int ((xs (Int32.toNatClampNeg (i + 2)))), .ref ((ky_B G + 37))]) ch_L_moved (ky_t5 (i := 151) rfl rfl) (ky_t5 (i := 150) rfl rfl) (i := 12) rfl rfl rfl (Nat.le_of_ble_eq_true rfl) (k_L_moved N hG I hx e1 (Or.inl ⟨r, rfl⟩) (fun v h1 f1 z I1 hf => ?_) (fun h1 z I1 => by cases z) (fun h1 z I1 => by cases z))
    cases z
    refine ⟨_, rfl, (?_ : ky_V _ _ _ 652 _ [.int 0] _ _)⟩
    refine v_istore (L' := [(0, .ref b), (1, .ref ((ky_B G))), (2, .ref ((ky_B G + 24))), (3, .ref ((ky_B G + 37))), (4, .int i), (5, .int 0)]) [1, 2, 3, 4, 5, 0] (i := 13) rfl (Nat.le_of_ble_eq_true rfl) rfl (?_ : ky_V _ _ _ 654 _ _ _ _)
    refine v_aload_n (i := 14) (j := 2) rfl rfl (?_ : ky_V _ _ _ 655 _ _ _ _)
    refine v_aload_n (i := 15) (j := 0) rfl rfl (?_ : ky_V _ _ _ 656 _ _ _ _)
    refine v_iload (i := 16) (j := 4) rfl rfl (?_ : ky_V _ _ _ 658 _ _ _ _)
    refine v_iconst (v := 1) (i := 17) rfl (by decide) (?_ : ky_V _ _ _ 659 _ _ _ _)
    refine v_iadd (i := 18) rfl (?_ : ky_V _ _ _ 660 _ _ _ _)
    refine v_sld hX hb b1 (i := 19) rfl (?_ : ky_V _ _ _ 661 _ (.int (xs (Int32.toNatClampNeg (i + 1))) :: _) _ _)
    refine v_aload_n (i := 20) (j := 0) rfl rfl (?_ : ky_V _ _ _ 662 _ _ _ _)
    refine v_iload (i := 21) (j := 4) rfl rfl (?_ : ky_V _ _ _ 664 _ _ _ _)
    refine v_iconst (v := 2) (i := 22) rfl (by decide) (?_ : ky_V _ _ _ 665 _ _ _ _)
    refine v_iadd (i := 23) rfl (?_ : ky_V _ _ _ 666 _ _ _ _)
    refine v_sld hX hb b2 (i := 24) rfl (?_ : ky_V _ _ _ 667 _ (.int (xs (Int32.toNatClampNeg (i + 2))) :: _) _ _)
    refine cl_L_151 (As := [.int ((xs (Int32.toNatClampNeg (i + 1)))), .int ((xs (Int32.toNatClampNeg (i + 2))))]) rfl (i := 25) rfl (md_0 I1.2.1) rfl rfl (Nat.le_of_ble_eq_true rfl) (k_X12_moved N I1.2.1 e2 (fun h2 hm2 fr2 => ⟨_, rfl, (?_ : ky_V _ _ _ 670 _ [.int r] _ _)⟩))
    have I2 := I1.mdl hm2 fr2
    refine v_istore (L' := [(0, .ref b), (1, .ref ((ky_B G))), (2, .ref ((ky_B G + 24))), (3, .ref ((ky_B G + 37))), (4, .int i), (5, .int 0), (6, .int r)]) [1, 2, 3, 4, 5, 6, 0] (i := 26) rfl (Nat.le_of_ble_eq_true rfl) rfl (?_ : ky_V _ _ _ 672 _ _ _ _)
    refine v_aload_n (i := 27) (j := 2) rfl rfl (?_ : ky_V _ _ _ 673 _ _ _ _)
    refine cl_L_129 (As := []) rfl (i := 28) rfl (md_0 I2.2.1) rfl rfl (Nat.le_of_ble_eq_true rfl) (k_X12_thrown I2.2.1 ⟨_, rfl, (?_ : ky_V _ _ _ 676 _ [.int ((md_thrown_r c9))] _ _)⟩)
    refine v_iload (i := 29) (j := 5) rfl rfl (?_ : ky_V _ _ _ 678 _ _ _ _)
    refine v_icmp_eq (tgt := 683) (i := 30) rfl (by decide) (fun _ => ?_) (fun c => absurd ht c)
    refine (?_ : ky_V _ _ _ 683 _ _ _ _)
    refine v_iload (i := 33) (j := 5) rfl rfl (?_ : ky_V _ _ _ 685 _ _ _ _)
    refine v_if_ne (tgt := 700) (i := 34) rfl (by decide) (fun c => absurd c (by decide)) (fun _ => ?_)
    refine (?_ : ky_V _ _ _ 688 _ _ _ _)
    refine v_aload_n (i := 35) (j := 3) rfl rfl (?_ : ky_V _ _ _ 689 _ _ _ _)
    refine v_iconst (v := 0) (i := 36) rfl (by decide) (?_ : ky_V _ _ _ 690 _ _ _ _)
    refine v_lald (i := 37) rfl I2.2.2.1 (ky_inl (by decide)) (?_ : ky_V _ _ _ 691 _ (.long (f1 0) :: _) _ _)
    refine v_iload (i := 38) (j := 6) rfl rfl (?_ : ky_V _ _ _ 693 _ _ _ _)
    refine v_i2l (i := 39) rfl rfl (?_ : ky_V _ _ _ 694 _ _ _ _)
    refine v_lcmp (i := 40) rfl (?_ : ky_V _ _ _ 695 _ _ _ _)
    refine v_if_eq (tgt := 700) (i := 41) rfl (by decide) (fun _ => ?_) (fun c => absurd (by rw [hf]; exact lg_self _) c)
    refine (?_ : ky_V _ _ _ 700 _ _ _ _)
    refine v_goto (tgt := 2405) (i := 44) rfl (by decide) (?_ : ky_V _ _ _ 2405 _ _ _ _)
    refine ky_loc (L' := [(0, .ref b), (1, .ref ((ky_B G))), (2, .ref ((ky_B G + 24))), (3, .ref ((ky_B G + 37))), (4, .int i)]) (by simp) ?_
    refine ky_sub (M := M_lc_moved) (M' := M_law) rfl rfl rfl rfl rfl ok_law ?_
    exact K _ _ I2
  · refine v_aload_n (i := 0) (j := 1) rfl rfl (?_ : ky_V _ _ _ 636 _ _ _ _)
    refine v_aload_n (i := 1) (j := 0) rfl rfl (?_ : ky_V _ _ _ 637 _ _ _ _)
    refine v_iload (i := 2) (j := 4) rfl rfl (?_ : ky_V _ _ _ 639 _ _ _ _)
    refine v_iconst (v := 1) (i := 3) rfl (by decide) (?_ : ky_V _ _ _ 640 _ _ _ _)
    refine v_iadd (i := 4) rfl (?_ : ky_V _ _ _ 641 _ _ _ _)
    refine v_sld hX hb b1 (i := 5) rfl (?_ : ky_V _ _ _ 642 _ (.int (xs (Int32.toNatClampNeg (i + 1))) :: _) _ _)
    refine v_aload_n (i := 6) (j := 0) rfl rfl (?_ : ky_V _ _ _ 643 _ _ _ _)
    refine v_iload (i := 7) (j := 4) rfl rfl (?_ : ky_V _ _ _ 645 _ _ _ _)
    refine v_iconst (v := 2) (i := 8) rfl (by decide) (?_ : ky_V _ _ _ 646 _ _ _ _)
    refine v_iadd (i := 9) rfl (?_ : ky_V _ _ _ 647 _ _ _ _)
    refine v_sld hX hb b2 (i := 10) rfl (?_ : ky_V _ _ _ 648 _ (.int (xs (Int32.toNatClampNeg (i + 2))) :: _) _ _)
    refine v_aload_n (i := 11) (j := 3) rfl rfl (?_ : ky_V _ _ _ 649 _ _ _ _)
    refine v_callSH (As := [.ref ((ky_B G)), .int ((xs (Int32.toNatClampNeg (i + 1)))), .int ((xs (Int32.toNatClampNeg (i + 2)))), .ref ((ky_B G + 37))]) ch_L_moved (ky_t5 (i := 151) rfl rfl) (ky_t5 (i := 150) rfl rfl) (i := 12) rfl rfl rfl (Nat.le_of_ble_eq_true rfl) (k_L_moved N hG I hx e1 (Or.inr (Or.inl rfl)) (fun v h1 f1 z I1 hf => by cases z) (fun h1 z I1 => ⟨_, rfl, (?_ : ky_V _ _ _ 652 _ [.int 1] _ _)⟩) (fun h1 z I1 => absurd (Sum.inr.inj z) (by decide)))
    refine v_istore (L' := [(0, .ref b), (1, .ref ((ky_B G))), (2, .ref ((ky_B G + 24))), (3, .ref ((ky_B G + 37))), (4, .int i), (5, .int 1)]) [1, 2, 3, 4, 5, 0] (i := 13) rfl (Nat.le_of_ble_eq_true rfl) rfl (?_ : ky_V _ _ _ 654 _ _ _ _)
    refine v_aload_n (i := 14) (j := 2) rfl rfl (?_ : ky_V _ _ _ 655 _ _ _ _)
    refine v_aload_n (i := 15) (j := 0) rfl rfl (?_ : ky_V _ _ _ 656 _ _ _ _)
    refine v_iload (i := 16) (j := 4) rfl rfl (?_ : ky_V _ _ _ 658 _ _ _ _)
    refine v_iconst (v := 1) (i := 17) rfl (by decide) (?_ : ky_V _ _ _ 659 _ _ _ _)
    refine v_iadd (i := 18) rfl (?_ : ky_V _ _ _ 660 _ _ _ _)
    refine v_sld hX hb b1 (i := 19) rfl (?_ : ky_V _ _ _ 661 _ (.int (xs (Int32.toNatClampNeg (i + 1))) :: _) _ _)
    refine v_aload_n (i := 20) (j := 0) rfl rfl (?_ : ky_V _ _ _ 662 _ _ _ _)
    refine v_iload (i := 21) (j := 4) rfl rfl (?_ : ky_V _ _ _ 664 _ _ _ _)
    refine v_iconst (v := 2) (i := 22) rfl (by decide) (?_ : ky_V _ _ _ 665 _ _ _ _)
    refine v_iadd (i := 23) rfl (?_ : ky_V _ _ _ 666 _ _ _ _)
    refine v_sld hX hb b2 (i := 24) rfl (?_ : ky_V _ _ _ 667 _ (.int (xs (Int32.toNatClampNeg (i + 2))) :: _) _ _)
    refine cl_L_151 (As := [.int ((xs (Int32.toNatClampNeg (i + 1)))), .int ((xs (Int32.toNatClampNeg (i + 2))))]) rfl (i := 25) rfl (md_0 I1.2.1) rfl rfl (Nat.le_of_ble_eq_true rfl) (k_X12_moved N I1.2.1 e2 (fun h2 hm2 fr2 => ⟨_, rfl, (?_ : ky_V _ _ _ 670 _ [.int r] _ _)⟩))
    have I2 := I1.mdl hm2 fr2
    refine v_istore (L' := [(0, .ref b), (1, .ref ((ky_B G))), (2, .ref ((ky_B G + 24))), (3, .ref ((ky_B G + 37))), (4, .int i), (5, .int 1), (6, .int r)]) [1, 2, 3, 4, 5, 6, 0] (i := 26) rfl (Nat.le_of_ble_eq_true rfl) rfl (?_ : ky_V _ _ _ 672 _ _ _ _)
    refine v_aload_n (i := 27) (j := 2) rfl rfl (?_ : ky_V _ _ _ 673 _ _ _ _)
    refine cl_L_129 (As := []) rfl (i := 28) rfl (md_0 I2.2.1) rfl rfl (Nat.le_of_ble_eq_true rfl) (k_X12_thrown I2.2.1 ⟨_, rfl, (?_ : ky_V _ _ _ 676 _ [.int ((md_thrown_r c9))] _ _)⟩)
    refine v_iload (i := 29) (j := 5) rfl rfl (?_ : ky_V _ _ _ 678 _ _ _ _)
    refine v_icmp_eq (tgt := 683) (i := 30) rfl (by decide) (fun _ => ?_) (fun c => absurd ht c)
    refine (?_ : ky_V _ _ _ 683 _ _ _ _)
    refine v_iload (i := 33) (j := 5) rfl rfl (?_ : ky_V _ _ _ 685 _ _ _ _)
    refine v_if_ne (tgt := 700) (i := 34) rfl (by decide) (fun _ => ?_) (fun c => absurd c (by decide))
    refine (?_ : ky_V _ _ _ 700 _ _ _ _)
    refine v_goto (tgt := 2405) (i := 44) rfl (by decide) (?_ : ky_V _ _ _ 2405 _ _ _ _)
    refine ky_loc (L' := [(0, .ref b), (1, .ref ((ky_B G))), (2, .ref ((ky_B G + 24))), (3, .ref ((ky_B G + 37))), (4, .int i)]) (by simp) ?_
    refine ky_sub (M := M_lc_moved) (M' := M_law) rfl rfl rfl rfl rfl ok_law ?_
    exact K _ _ I2
  · refine v_aload_n (i := 0) (j := 1) rfl rfl (?_ : ky_V _ _ _ 636 _ _ _ _)
    refine v_aload_n (i := 1) (j := 0) rfl rfl (?_ : ky_V _ _ _ 637 _ _ _ _)
    refine v_iload (i := 2) (j := 4) rfl rfl (?_ : ky_V _ _ _ 639 _ _ _ _)
    refine v_iconst (v := 1) (i := 3) rfl (by decide) (?_ : ky_V _ _ _ 640 _ _ _ _)
    refine v_iadd (i := 4) rfl (?_ : ky_V _ _ _ 641 _ _ _ _)
    refine v_sld hX hb b1 (i := 5) rfl (?_ : ky_V _ _ _ 642 _ (.int (xs (Int32.toNatClampNeg (i + 1))) :: _) _ _)
    refine v_aload_n (i := 6) (j := 0) rfl rfl (?_ : ky_V _ _ _ 643 _ _ _ _)
    refine v_iload (i := 7) (j := 4) rfl rfl (?_ : ky_V _ _ _ 645 _ _ _ _)
    refine v_iconst (v := 2) (i := 8) rfl (by decide) (?_ : ky_V _ _ _ 646 _ _ _ _)
    refine v_iadd (i := 9) rfl (?_ : ky_V _ _ _ 647 _ _ _ _)
    refine v_sld hX hb b2 (i := 10) rfl (?_ : ky_V _ _ _ 648 _ (.int (xs (Int32.toNatClampNeg (i + 2))) :: _) _ _)
    refine v_aload_n (i := 11) (j := 3) rfl rfl (?_ : ky_V _ _ _ 649 _ _ _ _)
    refine v_callSH (As := [.ref ((ky_B G)), .int ((xs (Int32.toNatClampNeg (i + 1)))), .int ((xs (Int32.toNatClampNeg (i + 2)))), .ref ((ky_B G + 37))]) ch_L_moved (ky_t5 (i := 151) rfl rfl) (ky_t5 (i := 150) rfl rfl) (i := 12) rfl rfl rfl (Nat.le_of_ble_eq_true rfl) (k_L_moved N hG I hx e1 (Or.inr (Or.inr rfl)) (fun v h1 f1 z I1 hf => by cases z) (fun h1 z I1 => absurd (Sum.inr.inj z) (by decide)) (fun h1 z I1 => ⟨_, rfl, (?_ : ky_V _ _ _ 652 _ [.int 2] _ _)⟩))
    refine v_istore (L' := [(0, .ref b), (1, .ref ((ky_B G))), (2, .ref ((ky_B G + 24))), (3, .ref ((ky_B G + 37))), (4, .int i), (5, .int 2)]) [1, 2, 3, 4, 5, 0] (i := 13) rfl (Nat.le_of_ble_eq_true rfl) rfl (?_ : ky_V _ _ _ 654 _ _ _ _)
    refine v_aload_n (i := 14) (j := 2) rfl rfl (?_ : ky_V _ _ _ 655 _ _ _ _)
    refine v_aload_n (i := 15) (j := 0) rfl rfl (?_ : ky_V _ _ _ 656 _ _ _ _)
    refine v_iload (i := 16) (j := 4) rfl rfl (?_ : ky_V _ _ _ 658 _ _ _ _)
    refine v_iconst (v := 1) (i := 17) rfl (by decide) (?_ : ky_V _ _ _ 659 _ _ _ _)
    refine v_iadd (i := 18) rfl (?_ : ky_V _ _ _ 660 _ _ _ _)
    refine v_sld hX hb b1 (i := 19) rfl (?_ : ky_V _ _ _ 661 _ (.int (xs (Int32.toNatClampNeg (i + 1))) :: _) _ _)
    refine v_aload_n (i := 20) (j := 0) rfl rfl (?_ : ky_V _ _ _ 662 _ _ _ _)
    refine v_iload (i := 21) (j := 4) rfl rfl (?_ : ky_V _ _ _ 664 _ _ _ _)
    refine v_iconst (v := 2) (i := 22) rfl (by decide) (?_ : ky_V _ _ _ 665 _ _ _ _)
    refine v_iadd (i := 23) rfl (?_ : ky_V _ _ _ 666 _ _ _ _)
    refine v_sld hX hb b2 (i := 24) rfl (?_ : ky_V _ _ _ 667 _ (.int (xs (Int32.toNatClampNeg (i + 2))) :: _) _ _)
    refine cl_L_151 (As := [.int ((xs (Int32.toNatClampNeg (i + 1)))), .int ((xs (Int32.toNatClampNeg (i + 2))))]) rfl (i := 25) rfl (md_0 I1.2.1) rfl rfl (Nat.le_of_ble_eq_true rfl) (k_X12_moved N I1.2.1 e2 (fun h2 hm2 fr2 => ⟨_, rfl, (?_ : ky_V _ _ _ 670 _ [.int r] _ _)⟩))
    have I2 := I1.mdl hm2 fr2
    refine v_istore (L' := [(0, .ref b), (1, .ref ((ky_B G))), (2, .ref ((ky_B G + 24))), (3, .ref ((ky_B G + 37))), (4, .int i), (5, .int 2), (6, .int r)]) [1, 2, 3, 4, 5, 6, 0] (i := 26) rfl (Nat.le_of_ble_eq_true rfl) rfl (?_ : ky_V _ _ _ 672 _ _ _ _)
    refine v_aload_n (i := 27) (j := 2) rfl rfl (?_ : ky_V _ _ _ 673 _ _ _ _)
    refine cl_L_129 (As := []) rfl (i := 28) rfl (md_0 I2.2.1) rfl rfl (Nat.le_of_ble_eq_true rfl) (k_X12_thrown I2.2.1 ⟨_, rfl, (?_ : ky_V _ _ _ 676 _ [.int ((md_thrown_r c9))] _ _)⟩)
    refine v_iload (i := 29) (j := 5) rfl rfl (?_ : ky_V _ _ _ 678 _ _ _ _)
    refine v_icmp_eq (tgt := 683) (i := 30) rfl (by decide) (fun _ => ?_) (fun c => absurd ht c)
    refine (?_ : ky_V _ _ _ 683 _ _ _ _)
    refine v_iload (i := 33) (j := 5) rfl rfl (?_ : ky_V _ _ _ 685 _ _ _ _)
    refine v_if_ne (tgt := 700) (i := 34) rfl (by decide) (fun _ => ?_) (fun c => absurd c (by decide))
    refine (?_ : ky_V _ _ _ 700 _ _ _ _)
    refine v_goto (tgt := 2405) (i := 44) rfl (by decide) (?_ : ky_V _ _ _ 2405 _ _ _ _)
    refine ky_loc (L' := [(0, .ref b), (1, .ref ((ky_B G))), (2, .ref ((ky_B G + 24))), (3, .ref ((ky_B G + 37))), (4, .int i)]) (by simp) ?_
    refine ky_sub (M := M_lc_moved) (M' := M_law) rfl rfl rfl rfl rfl ok_law ?_
    exact K _ _ I2
def tb_lc_pull : List (Nat × Instr × Nat) := [(703, .aload_n 1, 1), (704, .aload_n 0, 1), (705, .iload 4, 2), (707, .iconst 1, 1), (708, .iadd, 1), (709, .iaload, 1), (710, .aload_n 3, 1), (711, .invokestatic 152, 3), (714, .istore 5, 2), (716, .aload_n 2, 1), (717, .aload_n 0, 1), (718, .iload 4, 2), (720, .iconst 1, 1), (721, .iadd, 1), (722, .iaload, 1), (723, .invokevirtual 155, 3), (726, .istore 6, 2), (728, .aload_n 2, 1), (729, .invokevirtual 129, 3), (732, .iload 5, 2), (734, .if_icmp .eq 5, 3), (737, .iconst 0, 1), (738, .ireturn, 1), (739, .iload 5, 2), (741, .ifCond .ne 15, 3), (744, .aload_n 3, 1), (745, .iconst 0, 1), (746, .laload, 1), (747, .iload 6, 2), (749, .i2l, 1), (750, .lcmp, 1), (751, .ifCond .eq 5, 3), (754, .iconst 0, 1), (755, .ireturn, 1), (756, .goto 1649, 3)]
def M_lc_pull : ky_MT := (x, code, 8, ret, tb_lc_pull, [])
set_option maxRecDepth 100000 in
set_option maxHeartbeats 4000000 in
theorem ok_lc_pull : ky_ok code tb_lc_pull = true := by decide +kernel
set_option maxRecDepth 20000 in
set_option maxHeartbeats 4000000 in
theorem lc_pull {G : ky_GW} {b Ln : Nat} {xs : Nat → Int32} {h : ky_HP} {Q : ky_RS → ky_HP → Prop} {s s9 : sk_S} {c c9 : Nat → Nat → Int32} {f : Nat → Int64} {i : Int32} {r9 : ky_RS} {r : Int32} (N : Nat) (hG : ky_OK G) (hX : va_X b Ln xs G.2.1 G.2.1.heap) (hb : b < ky_B G) (b1 : vp_in (i + 1) Ln) (b2 : vp_in (i + 2) Ln) (b3 : vp_in (i + 3) Ln) (b4 : vp_in (i + 4) Ln) (b5 : vp_in (i + 5) Ln) (I : lw_I G s c f h) (hx : lw_X G s) (e1 : x11_pull N s (ky_B G) (xs (Int32.toNatClampNeg (i + 1))) = some (s9, r9)) (e2 : md_pull N c (xs (Int32.toNatClampNeg (i + 1))) = some (c9, r)) (hc : (r9 = .inl (some (.int r)) ∧ c9 0 0 = 0) ∨ (r9 = .inr "java/lang/IllegalArgumentException" ∧ c9 0 0 = 1) ∨ (r9 = .inr "java/lang/IllegalStateException" ∧ c9 0 0 = 2)) (K : ∀ f9 h9, lw_I G s9 c9 f9 h9 → ky_V G 61 M_law 2405 [(0, .ref b), (1, .ref ((ky_B G))), (2, .ref ((ky_B G + 24))), (3, .ref ((ky_B G + 37))), (4, .int i)] [] h9 Q) : ky_V G 61 M_law 703 [(0, .ref b), (1, .ref ((ky_B G))), (2, .ref ((ky_B G + 24))), (3, .ref ((ky_B G + 37))), (4, .int i)] [] h Q := by
  refine ky_sub (M := M_law) (M' := M_lc_pull) rfl rfl rfl rfl rfl ok_lc_pull ?_
  rcases hc with ⟨rfl, ht⟩ | ⟨rfl, ht⟩ | ⟨rfl, ht⟩
  · refine v_aload_n (i := 0) (j := 1) rfl rfl (?_ : ky_V _ _ _ 704 _ _ _ _)
    refine v_aload_n (i := 1) (j := 0) rfl rfl (?_ : ky_V _ _ _ 705 _ _ _ _)
    refine v_iload (i := 2) (j := 4) rfl rfl (?_ : ky_V _ _ _ 707 _ _ _ _)
    refine v_iconst (v := 1) (i := 3) rfl (by decide) (?_ : ky_V _ _ _ 708 _ _ _ _)
    refine v_iadd (i := 4) rfl (?_ : ky_V _ _ _ 709 _ _ _ _)
    refine v_sld hX hb b1 (i := 5) rfl (?_ : ky_V _ _ _ 710 _ (.int (xs (Int32.toNatClampNeg (i + 1))) :: _) _ _)
    refine v_aload_n (i := 6) (j := 3) rfl rfl (?_ : ky_V _ _ _ 711 _ _ _ _)
    refine v_callSH (As := [.ref ((ky_B G)), .int ((xs (Int32.toNatClampNeg (i + 1)))), .ref ((ky_B G + 37))]) ch_L_pull (ky_t5 (i := 224) rfl rfl) (ky_t5 (i := 223) rfl rfl) (i := 7) rfl rfl rfl (Nat.le_of_ble_eq_true rfl) (k_L_pull N hG I hx e1 (Or.inl ⟨r, rfl⟩) (fun v h1 f1 z I1 hf => ?_) (fun h1 z I1 => by cases z) (fun h1 z I1 => by cases z))
    cases z
    refine ⟨_, rfl, (?_ : ky_V _ _ _ 714 _ [.int 0] _ _)⟩
    refine v_istore (L' := [(0, .ref b), (1, .ref ((ky_B G))), (2, .ref ((ky_B G + 24))), (3, .ref ((ky_B G + 37))), (4, .int i), (5, .int 0)]) [1, 2, 3, 4, 5, 0] (i := 8) rfl (Nat.le_of_ble_eq_true rfl) rfl (?_ : ky_V _ _ _ 716 _ _ _ _)
    refine v_aload_n (i := 9) (j := 2) rfl rfl (?_ : ky_V _ _ _ 717 _ _ _ _)
    refine v_aload_n (i := 10) (j := 0) rfl rfl (?_ : ky_V _ _ _ 718 _ _ _ _)
    refine v_iload (i := 11) (j := 4) rfl rfl (?_ : ky_V _ _ _ 720 _ _ _ _)
    refine v_iconst (v := 1) (i := 12) rfl (by decide) (?_ : ky_V _ _ _ 721 _ _ _ _)
    refine v_iadd (i := 13) rfl (?_ : ky_V _ _ _ 722 _ _ _ _)
    refine v_sld hX hb b1 (i := 14) rfl (?_ : ky_V _ _ _ 723 _ (.int (xs (Int32.toNatClampNeg (i + 1))) :: _) _ _)
    refine cl_L_155 (As := [.int ((xs (Int32.toNatClampNeg (i + 1))))]) rfl (i := 15) rfl (md_0 I1.2.1) rfl rfl (Nat.le_of_ble_eq_true rfl) (k_X12_pull N I1.2.1 e2 (fun h2 hm2 fr2 => ⟨_, rfl, (?_ : ky_V _ _ _ 726 _ [.int r] _ _)⟩))
    have I2 := I1.mdl hm2 fr2
    refine v_istore (L' := [(0, .ref b), (1, .ref ((ky_B G))), (2, .ref ((ky_B G + 24))), (3, .ref ((ky_B G + 37))), (4, .int i), (5, .int 0), (6, .int r)]) [1, 2, 3, 4, 5, 6, 0] (i := 16) rfl (Nat.le_of_ble_eq_true rfl) rfl (?_ : ky_V _ _ _ 728 _ _ _ _)
    refine v_aload_n (i := 17) (j := 2) rfl rfl (?_ : ky_V _ _ _ 729 _ _ _ _)
    refine cl_L_129 (As := []) rfl (i := 18) rfl (md_0 I2.2.1) rfl rfl (Nat.le_of_ble_eq_true rfl) (k_X12_thrown I2.2.1 ⟨_, rfl, (?_ : ky_V _ _ _ 732 _ [.int ((md_thrown_r c9))] _ _)⟩)
    refine v_iload (i := 19) (j := 5) rfl rfl (?_ : ky_V _ _ _ 734 _ _ _ _)
    refine v_icmp_eq (tgt := 739) (i := 20) rfl (by decide) (fun _ => ?_) (fun c => absurd ht c)
    refine (?_ : ky_V _ _ _ 739 _ _ _ _)
    refine v_iload (i := 23) (j := 5) rfl rfl (?_ : ky_V _ _ _ 741 _ _ _ _)
    refine v_if_ne (tgt := 756) (i := 24) rfl (by decide) (fun c => absurd c (by decide)) (fun _ => ?_)
    refine (?_ : ky_V _ _ _ 744 _ _ _ _)
    refine v_aload_n (i := 25) (j := 3) rfl rfl (?_ : ky_V _ _ _ 745 _ _ _ _)
    refine v_iconst (v := 0) (i := 26) rfl (by decide) (?_ : ky_V _ _ _ 746 _ _ _ _)
    refine v_lald (i := 27) rfl I2.2.2.1 (ky_inl (by decide)) (?_ : ky_V _ _ _ 747 _ (.long (f1 0) :: _) _ _)
    refine v_iload (i := 28) (j := 6) rfl rfl (?_ : ky_V _ _ _ 749 _ _ _ _)
    refine v_i2l (i := 29) rfl rfl (?_ : ky_V _ _ _ 750 _ _ _ _)
    refine v_lcmp (i := 30) rfl (?_ : ky_V _ _ _ 751 _ _ _ _)
    refine v_if_eq (tgt := 756) (i := 31) rfl (by decide) (fun _ => ?_) (fun c => absurd (by rw [hf]; exact lg_self _) c)
    refine (?_ : ky_V _ _ _ 756 _ _ _ _)
    refine v_goto (tgt := 2405) (i := 34) rfl (by decide) (?_ : ky_V _ _ _ 2405 _ _ _ _)
    refine ky_loc (L' := [(0, .ref b), (1, .ref ((ky_B G))), (2, .ref ((ky_B G + 24))), (3, .ref ((ky_B G + 37))), (4, .int i)]) (by simp) ?_
    refine ky_sub (M := M_lc_pull) (M' := M_law) rfl rfl rfl rfl rfl ok_law ?_
    exact K _ _ I2
  · refine v_aload_n (i := 0) (j := 1) rfl rfl (?_ : ky_V _ _ _ 704 _ _ _ _)
    refine v_aload_n (i := 1) (j := 0) rfl rfl (?_ : ky_V _ _ _ 705 _ _ _ _)
    refine v_iload (i := 2) (j := 4) rfl rfl (?_ : ky_V _ _ _ 707 _ _ _ _)
    refine v_iconst (v := 1) (i := 3) rfl (by decide) (?_ : ky_V _ _ _ 708 _ _ _ _)
    refine v_iadd (i := 4) rfl (?_ : ky_V _ _ _ 709 _ _ _ _)
    refine v_sld hX hb b1 (i := 5) rfl (?_ : ky_V _ _ _ 710 _ (.int (xs (Int32.toNatClampNeg (i + 1))) :: _) _ _)
    refine v_aload_n (i := 6) (j := 3) rfl rfl (?_ : ky_V _ _ _ 711 _ _ _ _)
    refine v_callSH (As := [.ref ((ky_B G)), .int ((xs (Int32.toNatClampNeg (i + 1)))), .ref ((ky_B G + 37))]) ch_L_pull (ky_t5 (i := 224) rfl rfl) (ky_t5 (i := 223) rfl rfl) (i := 7) rfl rfl rfl (Nat.le_of_ble_eq_true rfl) (k_L_pull N hG I hx e1 (Or.inr (Or.inl rfl)) (fun v h1 f1 z I1 hf => by cases z) (fun h1 z I1 => ⟨_, rfl, (?_ : ky_V _ _ _ 714 _ [.int 1] _ _)⟩) (fun h1 z I1 => absurd (Sum.inr.inj z) (by decide)))
    refine v_istore (L' := [(0, .ref b), (1, .ref ((ky_B G))), (2, .ref ((ky_B G + 24))), (3, .ref ((ky_B G + 37))), (4, .int i), (5, .int 1)]) [1, 2, 3, 4, 5, 0] (i := 8) rfl (Nat.le_of_ble_eq_true rfl) rfl (?_ : ky_V _ _ _ 716 _ _ _ _)
    refine v_aload_n (i := 9) (j := 2) rfl rfl (?_ : ky_V _ _ _ 717 _ _ _ _)
    refine v_aload_n (i := 10) (j := 0) rfl rfl (?_ : ky_V _ _ _ 718 _ _ _ _)
    refine v_iload (i := 11) (j := 4) rfl rfl (?_ : ky_V _ _ _ 720 _ _ _ _)
    refine v_iconst (v := 1) (i := 12) rfl (by decide) (?_ : ky_V _ _ _ 721 _ _ _ _)
    refine v_iadd (i := 13) rfl (?_ : ky_V _ _ _ 722 _ _ _ _)
    refine v_sld hX hb b1 (i := 14) rfl (?_ : ky_V _ _ _ 723 _ (.int (xs (Int32.toNatClampNeg (i + 1))) :: _) _ _)
    refine cl_L_155 (As := [.int ((xs (Int32.toNatClampNeg (i + 1))))]) rfl (i := 15) rfl (md_0 I1.2.1) rfl rfl (Nat.le_of_ble_eq_true rfl) (k_X12_pull N I1.2.1 e2 (fun h2 hm2 fr2 => ⟨_, rfl, (?_ : ky_V _ _ _ 726 _ [.int r] _ _)⟩))
    have I2 := I1.mdl hm2 fr2
    refine v_istore (L' := [(0, .ref b), (1, .ref ((ky_B G))), (2, .ref ((ky_B G + 24))), (3, .ref ((ky_B G + 37))), (4, .int i), (5, .int 1), (6, .int r)]) [1, 2, 3, 4, 5, 6, 0] (i := 16) rfl (Nat.le_of_ble_eq_true rfl) rfl (?_ : ky_V _ _ _ 728 _ _ _ _)
    refine v_aload_n (i := 17) (j := 2) rfl rfl (?_ : ky_V _ _ _ 729 _ _ _ _)
    refine cl_L_129 (As := []) rfl (i := 18) rfl (md_0 I2.2.1) rfl rfl (Nat.le_of_ble_eq_true rfl) (k_X12_thrown I2.2.1 ⟨_, rfl, (?_ : ky_V _ _ _ 732 _ [.int ((md_thrown_r c9))] _ _)⟩)
    refine v_iload (i := 19) (j := 5) rfl rfl (?_ : ky_V _ _ _ 734 _ _ _ _)
    refine v_icmp_eq (tgt := 739) (i := 20) rfl (by decide) (fun _ => ?_) (fun c => absurd ht c)
    refine (?_ : ky_V _ _ _ 739 _ _ _ _)
    refine v_iload (i := 23) (j := 5) rfl rfl (?_ : ky_V _ _ _ 741 _ _ _ _)
    refine v_if_ne (tgt := 756) (i := 24) rfl (by decide) (fun _ => ?_) (fun c => absurd c (by decide))
    refine (?_ : ky_V _ _ _ 756 _ _ _ _)
    refine v_goto (tgt := 2405) (i := 34) rfl (by decide) (?_ : ky_V _ _ _ 2405 _ _ _ _)
    refine ky_loc (L' := [(0, .ref b), (1, .ref ((ky_B G))), (2, .ref ((ky_B G + 24))), (3, .ref ((ky_B G + 37))), (4, .int i)]) (by simp) ?_
    refine ky_sub (M := M_lc_pull) (M' := M_law) rfl rfl rfl rfl rfl ok_law ?_
    exact K _ _ I2
  · refine v_aload_n (i := 0) (j := 1) rfl rfl (?_ : ky_V _ _ _ 704 _ _ _ _)
    refine v_aload_n (i := 1) (j := 0) rfl rfl (?_ : ky_V _ _ _ 705 _ _ _ _)
    refine v_iload (i := 2) (j := 4) rfl rfl (?_ : ky_V _ _ _ 707 _ _ _ _)
    refine v_iconst (v := 1) (i := 3) rfl (by decide) (?_ : ky_V _ _ _ 708 _ _ _ _)
    refine v_iadd (i := 4) rfl (?_ : ky_V _ _ _ 709 _ _ _ _)
    refine v_sld hX hb b1 (i := 5) rfl (?_ : ky_V _ _ _ 710 _ (.int (xs (Int32.toNatClampNeg (i + 1))) :: _) _ _)
    refine v_aload_n (i := 6) (j := 3) rfl rfl (?_ : ky_V _ _ _ 711 _ _ _ _)
    refine v_callSH (As := [.ref ((ky_B G)), .int ((xs (Int32.toNatClampNeg (i + 1)))), .ref ((ky_B G + 37))]) ch_L_pull (ky_t5 (i := 224) rfl rfl) (ky_t5 (i := 223) rfl rfl) (i := 7) rfl rfl rfl (Nat.le_of_ble_eq_true rfl) (k_L_pull N hG I hx e1 (Or.inr (Or.inr rfl)) (fun v h1 f1 z I1 hf => by cases z) (fun h1 z I1 => absurd (Sum.inr.inj z) (by decide)) (fun h1 z I1 => ⟨_, rfl, (?_ : ky_V _ _ _ 714 _ [.int 2] _ _)⟩))
    refine v_istore (L' := [(0, .ref b), (1, .ref ((ky_B G))), (2, .ref ((ky_B G + 24))), (3, .ref ((ky_B G + 37))), (4, .int i), (5, .int 2)]) [1, 2, 3, 4, 5, 0] (i := 8) rfl (Nat.le_of_ble_eq_true rfl) rfl (?_ : ky_V _ _ _ 716 _ _ _ _)
    refine v_aload_n (i := 9) (j := 2) rfl rfl (?_ : ky_V _ _ _ 717 _ _ _ _)
    refine v_aload_n (i := 10) (j := 0) rfl rfl (?_ : ky_V _ _ _ 718 _ _ _ _)
    refine v_iload (i := 11) (j := 4) rfl rfl (?_ : ky_V _ _ _ 720 _ _ _ _)
    refine v_iconst (v := 1) (i := 12) rfl (by decide) (?_ : ky_V _ _ _ 721 _ _ _ _)
    refine v_iadd (i := 13) rfl (?_ : ky_V _ _ _ 722 _ _ _ _)
    refine v_sld hX hb b1 (i := 14) rfl (?_ : ky_V _ _ _ 723 _ (.int (xs (Int32.toNatClampNeg (i + 1))) :: _) _ _)
    refine cl_L_155 (As := [.int ((xs (Int32.toNatClampNeg (i + 1))))]) rfl (i := 15) rfl (md_0 I1.2.1) rfl rfl (Nat.le_of_ble_eq_true rfl) (k_X12_pull N I1.2.1 e2 (fun h2 hm2 fr2 => ⟨_, rfl, (?_ : ky_V _ _ _ 726 _ [.int r] _ _)⟩))
    have I2 := I1.mdl hm2 fr2
    refine v_istore (L' := [(0, .ref b), (1, .ref ((ky_B G))), (2, .ref ((ky_B G + 24))), (3, .ref ((ky_B G + 37))), (4, .int i), (5, .int 2), (6, .int r)]) [1, 2, 3, 4, 5, 6, 0] (i := 16) rfl (Nat.le_of_ble_eq_true rfl) rfl (?_ : ky_V _ _ _ 728 _ _ _ _)
    refine v_aload_n (i := 17) (j := 2) rfl rfl (?_ : ky_V _ _ _ 729 _ _ _ _)
    refine cl_L_129 (As := []) rfl (i := 18) rfl (md_0 I2.2.1) rfl rfl (Nat.le_of_ble_eq_true rfl) (k_X12_thrown I2.2.1 ⟨_, rfl, (?_ : ky_V _ _ _ 732 _ [.int ((md_thrown_r c9))] _ _)⟩)
    refine v_iload (i := 19) (j := 5) rfl rfl (?_ : ky_V _ _ _ 734 _ _ _ _)
    refine v_icmp_eq (tgt := 739) (i := 20) rfl (by decide) (fun _ => ?_) (fun c => absurd ht c)
    refine (?_ : ky_V _ _ _ 739 _ _ _ _)
    refine v_iload (i := 23) (j := 5) rfl rfl (?_ : ky_V _ _ _ 741 _ _ _ _)
    refine v_if_ne (tgt := 756) (i := 24) rfl (by decide) (fun _ => ?_) (fun c => absurd c (by decide))
    refine (?_ : ky_V _ _ _ 756 _ _ _ _)
    refine v_goto (tgt := 2405) (i := 34) rfl (by decide) (?_ : ky_V _ _ _ 2405 _ _ _ _)
    refine ky_loc (L' := [(0, .ref b), (1, .ref ((ky_B G))), (2, .ref ((ky_B G + 24))), (3, .ref ((ky_B G + 37))), (4, .int i)]) (by simp) ?_
    refine ky_sub (M := M_lc_pull) (M' := M_law) rfl rfl rfl rfl rfl ok_law ?_
    exact K _ _ I2
def tb_lc_talk : List (Nat × Instr × Nat) := [(759, .aload_n 1, 1), (760, .aload_n 3, 1), (761, .invokestatic 156, 3), (764, .istore 5, 2), (766, .aload_n 2, 1), (767, .invokevirtual 158, 3), (770, .istore 6, 2), (772, .aload_n 2, 1), (773, .invokevirtual 129, 3), (776, .iload 5, 2), (778, .if_icmp .eq 5, 3), (781, .iconst 0, 1), (782, .ireturn, 1), (783, .iload 5, 2), (785, .ifCond .ne 15, 3), (788, .aload_n 3, 1), (789, .iconst 0, 1), (790, .laload, 1), (791, .iload 6, 2), (793, .i2l, 1), (794, .lcmp, 1), (795, .ifCond .eq 5, 3), (798, .iconst 0, 1), (799, .ireturn, 1), (800, .goto 1605, 3)]
def M_lc_talk : ky_MT := (x, code, 8, ret, tb_lc_talk, [])
set_option maxRecDepth 100000 in
set_option maxHeartbeats 4000000 in
theorem ok_lc_talk : ky_ok code tb_lc_talk = true := by decide +kernel
set_option maxRecDepth 20000 in
set_option maxHeartbeats 4000000 in
theorem lc_talk {G : ky_GW} {b Ln : Nat} {xs : Nat → Int32} {h : ky_HP} {Q : ky_RS → ky_HP → Prop} {s s9 : sk_S} {c c9 : Nat → Nat → Int32} {f : Nat → Int64} {i : Int32} {r9 : ky_RS} {r : Int32} (N : Nat) (hG : ky_OK G) (hX : va_X b Ln xs G.2.1 G.2.1.heap) (hb : b < ky_B G) (b1 : vp_in (i + 1) Ln) (b2 : vp_in (i + 2) Ln) (b3 : vp_in (i + 3) Ln) (b4 : vp_in (i + 4) Ln) (b5 : vp_in (i + 5) Ln) (I : lw_I G s c f h) (hx : lw_X G s) (e1 : x11_talk N s (ky_B G) = some (s9, r9)) (e2 : md_talk N c = some (c9, r)) (hc : (r9 = .inl (some (.int r)) ∧ c9 0 0 = 0) ∨ (r9 = .inr "java/lang/IllegalStateException" ∧ c9 0 0 = 1)) (K : ∀ f9 h9, lw_I G s9 c9 f9 h9 → ky_V G 61 M_law 2405 [(0, .ref b), (1, .ref ((ky_B G))), (2, .ref ((ky_B G + 24))), (3, .ref ((ky_B G + 37))), (4, .int i)] [] h9 Q) : ky_V G 61 M_law 759 [(0, .ref b), (1, .ref ((ky_B G))), (2, .ref ((ky_B G + 24))), (3, .ref ((ky_B G + 37))), (4, .int i)] [] h Q := by
  refine ky_sub (M := M_law) (M' := M_lc_talk) rfl rfl rfl rfl rfl ok_lc_talk ?_
  rcases hc with ⟨rfl, ht⟩ | ⟨rfl, ht⟩
  · refine v_aload_n (i := 0) (j := 1) rfl rfl (?_ : ky_V _ _ _ 760 _ _ _ _)
    refine v_aload_n (i := 1) (j := 3) rfl rfl (?_ : ky_V _ _ _ 761 _ _ _ _)
    refine v_callSH (As := [.ref ((ky_B G)), .ref ((ky_B G + 37))]) ch_L_talk (ky_t6 (i := 14) rfl rfl) (ky_t6 (i := 13) rfl rfl) (i := 2) rfl rfl rfl (Nat.le_of_ble_eq_true rfl) (k_L_talk N hG I hx e1 (Or.inl ⟨r, rfl⟩) (fun v h1 f1 z I1 hf => ?_) (fun h1 z I1 => by cases z))
    cases z
    refine ⟨_, rfl, (?_ : ky_V _ _ _ 764 _ [.int 0] _ _)⟩
    refine v_istore (L' := [(0, .ref b), (1, .ref ((ky_B G))), (2, .ref ((ky_B G + 24))), (3, .ref ((ky_B G + 37))), (4, .int i), (5, .int 0)]) [1, 2, 3, 4, 5, 0] (i := 3) rfl (Nat.le_of_ble_eq_true rfl) rfl (?_ : ky_V _ _ _ 766 _ _ _ _)
    refine v_aload_n (i := 4) (j := 2) rfl rfl (?_ : ky_V _ _ _ 767 _ _ _ _)
    refine cl_L_158 (As := []) rfl (i := 5) rfl (md_0 I1.2.1) rfl rfl (Nat.le_of_ble_eq_true rfl) (k_X12_talk N I1.2.1 e2 (fun h2 hm2 fr2 => ⟨_, rfl, (?_ : ky_V _ _ _ 770 _ [.int r] _ _)⟩))
    have I2 := I1.mdl hm2 fr2
    refine v_istore (L' := [(0, .ref b), (1, .ref ((ky_B G))), (2, .ref ((ky_B G + 24))), (3, .ref ((ky_B G + 37))), (4, .int i), (5, .int 0), (6, .int r)]) [1, 2, 3, 4, 5, 6, 0] (i := 6) rfl (Nat.le_of_ble_eq_true rfl) rfl (?_ : ky_V _ _ _ 772 _ _ _ _)
    refine v_aload_n (i := 7) (j := 2) rfl rfl (?_ : ky_V _ _ _ 773 _ _ _ _)
    refine cl_L_129 (As := []) rfl (i := 8) rfl (md_0 I2.2.1) rfl rfl (Nat.le_of_ble_eq_true rfl) (k_X12_thrown I2.2.1 ⟨_, rfl, (?_ : ky_V _ _ _ 776 _ [.int ((md_thrown_r c9))] _ _)⟩)
    refine v_iload (i := 9) (j := 5) rfl rfl (?_ : ky_V _ _ _ 778 _ _ _ _)
    refine v_icmp_eq (tgt := 783) (i := 10) rfl (by decide) (fun _ => ?_) (fun c => absurd ht c)
    refine (?_ : ky_V _ _ _ 783 _ _ _ _)
    refine v_iload (i := 13) (j := 5) rfl rfl (?_ : ky_V _ _ _ 785 _ _ _ _)
    refine v_if_ne (tgt := 800) (i := 14) rfl (by decide) (fun c => absurd c (by decide)) (fun _ => ?_)
    refine (?_ : ky_V _ _ _ 788 _ _ _ _)
    refine v_aload_n (i := 15) (j := 3) rfl rfl (?_ : ky_V _ _ _ 789 _ _ _ _)
    refine v_iconst (v := 0) (i := 16) rfl (by decide) (?_ : ky_V _ _ _ 790 _ _ _ _)
    refine v_lald (i := 17) rfl I2.2.2.1 (ky_inl (by decide)) (?_ : ky_V _ _ _ 791 _ (.long (f1 0) :: _) _ _)
    refine v_iload (i := 18) (j := 6) rfl rfl (?_ : ky_V _ _ _ 793 _ _ _ _)
    refine v_i2l (i := 19) rfl rfl (?_ : ky_V _ _ _ 794 _ _ _ _)
    refine v_lcmp (i := 20) rfl (?_ : ky_V _ _ _ 795 _ _ _ _)
    refine v_if_eq (tgt := 800) (i := 21) rfl (by decide) (fun _ => ?_) (fun c => absurd (by rw [hf]; exact lg_self _) c)
    refine (?_ : ky_V _ _ _ 800 _ _ _ _)
    refine v_goto (tgt := 2405) (i := 24) rfl (by decide) (?_ : ky_V _ _ _ 2405 _ _ _ _)
    refine ky_loc (L' := [(0, .ref b), (1, .ref ((ky_B G))), (2, .ref ((ky_B G + 24))), (3, .ref ((ky_B G + 37))), (4, .int i)]) (by simp) ?_
    refine ky_sub (M := M_lc_talk) (M' := M_law) rfl rfl rfl rfl rfl ok_law ?_
    exact K _ _ I2
  · refine v_aload_n (i := 0) (j := 1) rfl rfl (?_ : ky_V _ _ _ 760 _ _ _ _)
    refine v_aload_n (i := 1) (j := 3) rfl rfl (?_ : ky_V _ _ _ 761 _ _ _ _)
    refine v_callSH (As := [.ref ((ky_B G)), .ref ((ky_B G + 37))]) ch_L_talk (ky_t6 (i := 14) rfl rfl) (ky_t6 (i := 13) rfl rfl) (i := 2) rfl rfl rfl (Nat.le_of_ble_eq_true rfl) (k_L_talk N hG I hx e1 (Or.inr rfl) (fun v h1 f1 z I1 hf => by cases z) (fun h1 z I1 => ⟨_, rfl, (?_ : ky_V _ _ _ 764 _ [.int 1] _ _)⟩))
    refine v_istore (L' := [(0, .ref b), (1, .ref ((ky_B G))), (2, .ref ((ky_B G + 24))), (3, .ref ((ky_B G + 37))), (4, .int i), (5, .int 1)]) [1, 2, 3, 4, 5, 0] (i := 3) rfl (Nat.le_of_ble_eq_true rfl) rfl (?_ : ky_V _ _ _ 766 _ _ _ _)
    refine v_aload_n (i := 4) (j := 2) rfl rfl (?_ : ky_V _ _ _ 767 _ _ _ _)
    refine cl_L_158 (As := []) rfl (i := 5) rfl (md_0 I1.2.1) rfl rfl (Nat.le_of_ble_eq_true rfl) (k_X12_talk N I1.2.1 e2 (fun h2 hm2 fr2 => ⟨_, rfl, (?_ : ky_V _ _ _ 770 _ [.int r] _ _)⟩))
    have I2 := I1.mdl hm2 fr2
    refine v_istore (L' := [(0, .ref b), (1, .ref ((ky_B G))), (2, .ref ((ky_B G + 24))), (3, .ref ((ky_B G + 37))), (4, .int i), (5, .int 1), (6, .int r)]) [1, 2, 3, 4, 5, 6, 0] (i := 6) rfl (Nat.le_of_ble_eq_true rfl) rfl (?_ : ky_V _ _ _ 772 _ _ _ _)
    refine v_aload_n (i := 7) (j := 2) rfl rfl (?_ : ky_V _ _ _ 773 _ _ _ _)
    refine cl_L_129 (As := []) rfl (i := 8) rfl (md_0 I2.2.1) rfl rfl (Nat.le_of_ble_eq_true rfl) (k_X12_thrown I2.2.1 ⟨_, rfl, (?_ : ky_V _ _ _ 776 _ [.int ((md_thrown_r c9))] _ _)⟩)
    refine v_iload (i := 9) (j := 5) rfl rfl (?_ : ky_V _ _ _ 778 _ _ _ _)
    refine v_icmp_eq (tgt := 783) (i := 10) rfl (by decide) (fun _ => ?_) (fun c => absurd ht c)
    refine (?_ : ky_V _ _ _ 783 _ _ _ _)
    refine v_iload (i := 13) (j := 5) rfl rfl (?_ : ky_V _ _ _ 785 _ _ _ _)
    refine v_if_ne (tgt := 800) (i := 14) rfl (by decide) (fun _ => ?_) (fun c => absurd c (by decide))
    refine (?_ : ky_V _ _ _ 800 _ _ _ _)
    refine v_goto (tgt := 2405) (i := 24) rfl (by decide) (?_ : ky_V _ _ _ 2405 _ _ _ _)
    refine ky_loc (L' := [(0, .ref b), (1, .ref ((ky_B G))), (2, .ref ((ky_B G + 24))), (3, .ref ((ky_B G + 37))), (4, .int i)]) (by simp) ?_
    refine ky_sub (M := M_lc_talk) (M' := M_law) rfl rfl rfl rfl rfl ok_law ?_
    exact K _ _ I2
def tb_lc_pour : List (Nat × Instr × Nat) := [(803, .aload_n 1, 1), (804, .aload_n 3, 1), (805, .invokestatic 159, 3), (808, .istore 5, 2), (810, .aload_n 2, 1), (811, .invokevirtual 161, 3), (814, .istore 6, 2), (816, .aload_n 2, 1), (817, .invokevirtual 129, 3), (820, .iload 5, 2), (822, .if_icmp .eq 5, 3), (825, .iconst 0, 1), (826, .ireturn, 1), (827, .iload 5, 2), (829, .ifCond .ne 15, 3), (832, .aload_n 3, 1), (833, .iconst 0, 1), (834, .laload, 1), (835, .iload 6, 2), (837, .i2l, 1), (838, .lcmp, 1), (839, .ifCond .eq 5, 3), (842, .iconst 0, 1), (843, .ireturn, 1), (844, .goto 1561, 3)]
def M_lc_pour : ky_MT := (x, code, 8, ret, tb_lc_pour, [])
set_option maxRecDepth 100000 in
set_option maxHeartbeats 4000000 in
theorem ok_lc_pour : ky_ok code tb_lc_pour = true := by decide +kernel
set_option maxRecDepth 20000 in
set_option maxHeartbeats 4000000 in
theorem lc_pour {G : ky_GW} {b Ln : Nat} {xs : Nat → Int32} {h : ky_HP} {Q : ky_RS → ky_HP → Prop} {s s9 : sk_S} {c c9 : Nat → Nat → Int32} {f : Nat → Int64} {i : Int32} {r9 : ky_RS} {r : Int32} (N : Nat) (hG : ky_OK G) (hX : va_X b Ln xs G.2.1 G.2.1.heap) (hb : b < ky_B G) (b1 : vp_in (i + 1) Ln) (b2 : vp_in (i + 2) Ln) (b3 : vp_in (i + 3) Ln) (b4 : vp_in (i + 4) Ln) (b5 : vp_in (i + 5) Ln) (I : lw_I G s c f h) (hx : lw_X G s) (e1 : x11_pour N s (ky_B G) = some (s9, r9)) (e2 : md_pour N c = some (c9, r)) (hc : (r9 = .inl (some (.int r)) ∧ c9 0 0 = 0) ∨ (r9 = .inr "java/lang/IllegalStateException" ∧ c9 0 0 = 1)) (K : ∀ f9 h9, lw_I G s9 c9 f9 h9 → ky_V G 61 M_law 2405 [(0, .ref b), (1, .ref ((ky_B G))), (2, .ref ((ky_B G + 24))), (3, .ref ((ky_B G + 37))), (4, .int i)] [] h9 Q) : ky_V G 61 M_law 803 [(0, .ref b), (1, .ref ((ky_B G))), (2, .ref ((ky_B G + 24))), (3, .ref ((ky_B G + 37))), (4, .int i)] [] h Q := by
  refine ky_sub (M := M_law) (M' := M_lc_pour) rfl rfl rfl rfl rfl ok_lc_pour ?_
  rcases hc with ⟨rfl, ht⟩ | ⟨rfl, ht⟩
  · refine v_aload_n (i := 0) (j := 1) rfl rfl (?_ : ky_V _ _ _ 804 _ _ _ _)
    refine v_aload_n (i := 1) (j := 3) rfl rfl (?_ : ky_V _ _ _ 805 _ _ _ _)
    refine v_callSH (As := [.ref ((ky_B G)), .ref ((ky_B G + 37))]) ch_L_pour (ky_t6 (i := 26) rfl rfl) (ky_t6 (i := 25) rfl rfl) (i := 2) rfl rfl rfl (Nat.le_of_ble_eq_true rfl) (k_L_pour N hG I hx e1 (Or.inl ⟨r, rfl⟩) (fun v h1 f1 z I1 hf => ?_) (fun h1 z I1 => by cases z))
    cases z
    refine ⟨_, rfl, (?_ : ky_V _ _ _ 808 _ [.int 0] _ _)⟩
    refine v_istore (L' := [(0, .ref b), (1, .ref ((ky_B G))), (2, .ref ((ky_B G + 24))), (3, .ref ((ky_B G + 37))), (4, .int i), (5, .int 0)]) [1, 2, 3, 4, 5, 0] (i := 3) rfl (Nat.le_of_ble_eq_true rfl) rfl (?_ : ky_V _ _ _ 810 _ _ _ _)
    refine v_aload_n (i := 4) (j := 2) rfl rfl (?_ : ky_V _ _ _ 811 _ _ _ _)
    refine cl_L_161 (As := []) rfl (i := 5) rfl (md_0 I1.2.1) rfl rfl (Nat.le_of_ble_eq_true rfl) (k_X12_pour N I1.2.1 e2 (fun h2 hm2 fr2 => ⟨_, rfl, (?_ : ky_V _ _ _ 814 _ [.int r] _ _)⟩))
    have I2 := I1.mdl hm2 fr2
    refine v_istore (L' := [(0, .ref b), (1, .ref ((ky_B G))), (2, .ref ((ky_B G + 24))), (3, .ref ((ky_B G + 37))), (4, .int i), (5, .int 0), (6, .int r)]) [1, 2, 3, 4, 5, 6, 0] (i := 6) rfl (Nat.le_of_ble_eq_true rfl) rfl (?_ : ky_V _ _ _ 816 _ _ _ _)
    refine v_aload_n (i := 7) (j := 2) rfl rfl (?_ : ky_V _ _ _ 817 _ _ _ _)
    refine cl_L_129 (As := []) rfl (i := 8) rfl (md_0 I2.2.1) rfl rfl (Nat.le_of_ble_eq_true rfl) (k_X12_thrown I2.2.1 ⟨_, rfl, (?_ : ky_V _ _ _ 820 _ [.int ((md_thrown_r c9))] _ _)⟩)
    refine v_iload (i := 9) (j := 5) rfl rfl (?_ : ky_V _ _ _ 822 _ _ _ _)
    refine v_icmp_eq (tgt := 827) (i := 10) rfl (by decide) (fun _ => ?_) (fun c => absurd ht c)
    refine (?_ : ky_V _ _ _ 827 _ _ _ _)
    refine v_iload (i := 13) (j := 5) rfl rfl (?_ : ky_V _ _ _ 829 _ _ _ _)
    refine v_if_ne (tgt := 844) (i := 14) rfl (by decide) (fun c => absurd c (by decide)) (fun _ => ?_)
    refine (?_ : ky_V _ _ _ 832 _ _ _ _)
    refine v_aload_n (i := 15) (j := 3) rfl rfl (?_ : ky_V _ _ _ 833 _ _ _ _)
    refine v_iconst (v := 0) (i := 16) rfl (by decide) (?_ : ky_V _ _ _ 834 _ _ _ _)
    refine v_lald (i := 17) rfl I2.2.2.1 (ky_inl (by decide)) (?_ : ky_V _ _ _ 835 _ (.long (f1 0) :: _) _ _)
    refine v_iload (i := 18) (j := 6) rfl rfl (?_ : ky_V _ _ _ 837 _ _ _ _)
    refine v_i2l (i := 19) rfl rfl (?_ : ky_V _ _ _ 838 _ _ _ _)
    refine v_lcmp (i := 20) rfl (?_ : ky_V _ _ _ 839 _ _ _ _)
    refine v_if_eq (tgt := 844) (i := 21) rfl (by decide) (fun _ => ?_) (fun c => absurd (by rw [hf]; exact lg_self _) c)
    refine (?_ : ky_V _ _ _ 844 _ _ _ _)
    refine v_goto (tgt := 2405) (i := 24) rfl (by decide) (?_ : ky_V _ _ _ 2405 _ _ _ _)
    refine ky_loc (L' := [(0, .ref b), (1, .ref ((ky_B G))), (2, .ref ((ky_B G + 24))), (3, .ref ((ky_B G + 37))), (4, .int i)]) (by simp) ?_
    refine ky_sub (M := M_lc_pour) (M' := M_law) rfl rfl rfl rfl rfl ok_law ?_
    exact K _ _ I2
  · refine v_aload_n (i := 0) (j := 1) rfl rfl (?_ : ky_V _ _ _ 804 _ _ _ _)
    refine v_aload_n (i := 1) (j := 3) rfl rfl (?_ : ky_V _ _ _ 805 _ _ _ _)
    refine v_callSH (As := [.ref ((ky_B G)), .ref ((ky_B G + 37))]) ch_L_pour (ky_t6 (i := 26) rfl rfl) (ky_t6 (i := 25) rfl rfl) (i := 2) rfl rfl rfl (Nat.le_of_ble_eq_true rfl) (k_L_pour N hG I hx e1 (Or.inr rfl) (fun v h1 f1 z I1 hf => by cases z) (fun h1 z I1 => ⟨_, rfl, (?_ : ky_V _ _ _ 808 _ [.int 1] _ _)⟩))
    refine v_istore (L' := [(0, .ref b), (1, .ref ((ky_B G))), (2, .ref ((ky_B G + 24))), (3, .ref ((ky_B G + 37))), (4, .int i), (5, .int 1)]) [1, 2, 3, 4, 5, 0] (i := 3) rfl (Nat.le_of_ble_eq_true rfl) rfl (?_ : ky_V _ _ _ 810 _ _ _ _)
    refine v_aload_n (i := 4) (j := 2) rfl rfl (?_ : ky_V _ _ _ 811 _ _ _ _)
    refine cl_L_161 (As := []) rfl (i := 5) rfl (md_0 I1.2.1) rfl rfl (Nat.le_of_ble_eq_true rfl) (k_X12_pour N I1.2.1 e2 (fun h2 hm2 fr2 => ⟨_, rfl, (?_ : ky_V _ _ _ 814 _ [.int r] _ _)⟩))
    have I2 := I1.mdl hm2 fr2
    refine v_istore (L' := [(0, .ref b), (1, .ref ((ky_B G))), (2, .ref ((ky_B G + 24))), (3, .ref ((ky_B G + 37))), (4, .int i), (5, .int 1), (6, .int r)]) [1, 2, 3, 4, 5, 6, 0] (i := 6) rfl (Nat.le_of_ble_eq_true rfl) rfl (?_ : ky_V _ _ _ 816 _ _ _ _)
    refine v_aload_n (i := 7) (j := 2) rfl rfl (?_ : ky_V _ _ _ 817 _ _ _ _)
    refine cl_L_129 (As := []) rfl (i := 8) rfl (md_0 I2.2.1) rfl rfl (Nat.le_of_ble_eq_true rfl) (k_X12_thrown I2.2.1 ⟨_, rfl, (?_ : ky_V _ _ _ 820 _ [.int ((md_thrown_r c9))] _ _)⟩)
    refine v_iload (i := 9) (j := 5) rfl rfl (?_ : ky_V _ _ _ 822 _ _ _ _)
    refine v_icmp_eq (tgt := 827) (i := 10) rfl (by decide) (fun _ => ?_) (fun c => absurd ht c)
    refine (?_ : ky_V _ _ _ 827 _ _ _ _)
    refine v_iload (i := 13) (j := 5) rfl rfl (?_ : ky_V _ _ _ 829 _ _ _ _)
    refine v_if_ne (tgt := 844) (i := 14) rfl (by decide) (fun _ => ?_) (fun c => absurd c (by decide))
    refine (?_ : ky_V _ _ _ 844 _ _ _ _)
    refine v_goto (tgt := 2405) (i := 24) rfl (by decide) (?_ : ky_V _ _ _ 2405 _ _ _ _)
    refine ky_loc (L' := [(0, .ref b), (1, .ref ((ky_B G))), (2, .ref ((ky_B G + 24))), (3, .ref ((ky_B G + 37))), (4, .int i)]) (by simp) ?_
    refine ky_sub (M := M_lc_pour) (M' := M_law) rfl rfl rfl rfl rfl ok_law ?_
    exact K _ _ I2
