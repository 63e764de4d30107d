def tb_lc_holes : List (Nat × Instr × Nat) := [(1862, .aload_n 1, 1), (1863, .aload_n 0, 1), (1864, .iload 4, 2), (1866, .iconst 1, 1), (1867, .iadd, 1), (1868, .iaload, 1), (1869, .aload_n 0, 1), (1870, .iload 4, 2), (1872, .iconst 2, 1), (1873, .iadd, 1), (1874, .iaload, 1), (1875, .aload_n 3, 1), (1876, .invokestatic 234, 3), (1879, .istore 5, 2), (1881, .aload_n 2, 1), (1882, .aload_n 0, 1), (1883, .iload 4, 2), (1885, .iconst 1, 1), (1886, .iadd, 1), (1887, .iaload, 1), (1888, .aload_n 0, 1), (1889, .iload 4, 2), (1891, .iconst 2, 1), (1892, .iadd, 1), (1893, .iaload, 1), (1894, .invokevirtual 236, 3), (1897, .istore 6, 2), (1899, .aload_n 2, 1), (1900, .invokevirtual 129, 3), (1903, .iload 5, 2), (1905, .if_icmp .eq 5, 3), (1908, .iconst 0, 1), (1909, .ireturn, 1), (1910, .iload 5, 2), (1912, .ifCond .ne 15, 3), (1915, .aload_n 3, 1), (1916, .iconst 0, 1), (1917, .laload, 1), (1918, .iload 6, 2), (1920, .i2l, 1), (1921, .lcmp, 1), (1922, .ifCond .eq 5, 3), (1925, .iconst 0, 1), (1926, .ireturn, 1), (1927, .goto 478, 3)]
def M_lc_holes : ky_MT := (x, code, 8, ret, tb_lc_holes, [])
set_option maxRecDepth 100000 in
set_option maxHeartbeats 4000000 in
theorem ok_lc_holes : ky_ok code tb_lc_holes = true := by decide +kernel
set_option maxRecDepth 20000 in
set_option maxHeartbeats 4000000 in
theorem lc_holes {G : ky_GW} {b Ln : Nat} {xs : Nat → Int32} {h : ky_HP} {Q : ky_RS → ky_HP → Prop} {s s9 : sk_S} {c c9 : Nat → Nat → Int32} {f : Nat → Int64} {i : Int32} {r9 : ky_RS} {r : Int32} (N : Nat) (hG : ky_OK G) (hX : va_X b Ln xs G.2.1 G.2.1.heap) (hb : b < ky_B G) (b1 : vp_in (i + 1) Ln) (b2 : vp_in (i + 2) Ln) (b3 : vp_in (i + 3) Ln) (b4 : vp_in (i + 4) Ln) (b5 : vp_in (i + 5) Ln) (I : lw_I G s c f h) (hx : lw_X G s) (e1 : x11_holes N s (ky_B G) (xs (Int32.toNatClampNeg (i + 1))) (xs (Int32.toNatClampNeg (i + 2))) = some (s9, r9)) (e2 : md_holes N c (xs (Int32.toNatClampNeg (i + 1))) (xs (Int32.toNatClampNeg (i + 2))) = some (c9, r)) (hc : (r9 = .inl (some (.int r)) ∧ c9 0 0 = 0) ∨ (r9 = .inr "java/lang/IndexOutOfBoundsException" ∧ c9 0 0 = 1) ∨ (r9 = .inr "java/lang/IllegalArgumentException" ∧ c9 0 0 = 2)) (K : ∀ f9 h9, lw_I G s9 c9 f9 h9 → ky_V G 61 M_law 2405 [(0, .ref b), (1, .ref ((ky_B G))), (2, .ref ((ky_B G + 24))), (3, .ref ((ky_B G + 37))), (4, .int i)] [] h9 Q) : ky_V G 61 M_law 1862 [(0, .ref b), (1, .ref ((ky_B G))), (2, .ref ((ky_B G + 24))), (3, .ref ((ky_B G + 37))), (4, .int i)] [] h Q := by
  refine ky_sub (M := M_law) (M' := M_lc_holes) rfl rfl rfl rfl rfl ok_lc_holes ?_
  rcases hc with ⟨rfl, ht⟩ | ⟨rfl, ht⟩ | ⟨rfl, ht⟩
  · refine v_aload_n (i := 0) (j := 1) rfl rfl (?_ : ky_V _ _ _ 1863 _ _ _ _)
    refine v_aload_n (i := 1) (j := 0) rfl rfl (?_ : ky_V _ _ _ 1864 _ _ _ _)
    refine v_iload (i := 2) (j := 4) rfl rfl (?_ : ky_V _ _ _ 1866 _ _ _ _)
    refine v_iconst (v := 1) (i := 3) rfl (by decide) (?_ : ky_V _ _ _ 1867 _ _ _ _)
    refine v_iadd (i := 4) rfl (?_ : ky_V _ _ _ 1868 _ _ _ _)
    refine v_sld hX hb b1 (i := 5) rfl (?_ : ky_V _ _ _ 1869 _ (.int (xs (Int32.toNatClampNeg (i + 1))) :: _) _ _)
    refine v_aload_n (i := 6) (j := 0) rfl rfl (?_ : ky_V _ _ _ 1870 _ _ _ _)
    refine v_iload (i := 7) (j := 4) rfl rfl (?_ : ky_V _ _ _ 1872 _ _ _ _)
    refine v_iconst (v := 2) (i := 8) rfl (by decide) (?_ : ky_V _ _ _ 1873 _ _ _ _)
    refine v_iadd (i := 9) rfl (?_ : ky_V _ _ _ 1874 _ _ _ _)
    refine v_sld hX hb b2 (i := 10) rfl (?_ : ky_V _ _ _ 1875 _ (.int (xs (Int32.toNatClampNeg (i + 2))) :: _) _ _)
    refine v_aload_n (i := 11) (j := 3) rfl rfl (?_ : ky_V _ _ _ 1876 _ _ _ _)
    refine v_callSH (As := [.ref ((ky_B G)), .int ((xs (Int32.toNatClampNeg (i + 1)))), .int ((xs (Int32.toNatClampNeg (i + 2)))), .ref ((ky_B G + 37))]) ch_L_holes (ky_t6 (i := 183) rfl rfl) (ky_t6 (i := 182) rfl rfl) (i := 12) rfl rfl rfl (Nat.le_of_ble_eq_true rfl) (k_L_holes N hG I hx e1 (Or.inl ⟨r, rfl⟩) (fun v h1 f1 z I1 hf => ?_) (fun h1 z I1 => by cases z) (fun h1 z I1 => by cases z))
    cases z
    refine ⟨_, rfl, (?_ : ky_V _ _ _ 1879 _ [.int 0] _ _)⟩
    refine v_istore (L' := [(0, .ref b), (1, .ref ((ky_B G))), (2, .ref ((ky_B G + 24))), (3, .ref ((ky_B G + 37))), (4, .int i), (5, .int 0)]) [1, 2, 3, 4, 5, 0] (i := 13) rfl (Nat.le_of_ble_eq_true rfl) rfl (?_ : ky_V _ _ _ 1881 _ _ _ _)
    refine v_aload_n (i := 14) (j := 2) rfl rfl (?_ : ky_V _ _ _ 1882 _ _ _ _)
    refine v_aload_n (i := 15) (j := 0) rfl rfl (?_ : ky_V _ _ _ 1883 _ _ _ _)
    refine v_iload (i := 16) (j := 4) rfl rfl (?_ : ky_V _ _ _ 1885 _ _ _ _)
    refine v_iconst (v := 1) (i := 17) rfl (by decide) (?_ : ky_V _ _ _ 1886 _ _ _ _)
    refine v_iadd (i := 18) rfl (?_ : ky_V _ _ _ 1887 _ _ _ _)
    refine v_sld hX hb b1 (i := 19) rfl (?_ : ky_V _ _ _ 1888 _ (.int (xs (Int32.toNatClampNeg (i + 1))) :: _) _ _)
    refine v_aload_n (i := 20) (j := 0) rfl rfl (?_ : ky_V _ _ _ 1889 _ _ _ _)
    refine v_iload (i := 21) (j := 4) rfl rfl (?_ : ky_V _ _ _ 1891 _ _ _ _)
    refine v_iconst (v := 2) (i := 22) rfl (by decide) (?_ : ky_V _ _ _ 1892 _ _ _ _)
    refine v_iadd (i := 23) rfl (?_ : ky_V _ _ _ 1893 _ _ _ _)
    refine v_sld hX hb b2 (i := 24) rfl (?_ : ky_V _ _ _ 1894 _ (.int (xs (Int32.toNatClampNeg (i + 2))) :: _) _ _)
    refine cl_L_236 (As := [.int ((xs (Int32.toNatClampNeg (i + 1)))), .int ((xs (Int32.toNatClampNeg (i + 2))))]) rfl (i := 25) rfl (md_0 I1.2.1) rfl rfl (Nat.le_of_ble_eq_true rfl) (k_X12_holes N I1.2.1 e2 (fun h2 hm2 fr2 => ⟨_, rfl, (?_ : ky_V _ _ _ 1897 _ [.int r] _ _)⟩))
    have I2 := I1.mdl hm2 fr2
    refine v_istore (L' := [(0, .ref b), (1, .ref ((ky_B G))), (2, .ref ((ky_B G + 24))), (3, .ref ((ky_B G + 37))), (4, .int i), (5, .int 0), (6, .int r)]) [1, 2, 3, 4, 5, 6, 0] (i := 26) rfl (Nat.le_of_ble_eq_true rfl) rfl (?_ : ky_V _ _ _ 1899 _ _ _ _)
    refine v_aload_n (i := 27) (j := 2) rfl rfl (?_ : ky_V _ _ _ 1900 _ _ _ _)
    refine cl_L_129 (As := []) rfl (i := 28) rfl (md_0 I2.2.1) rfl rfl (Nat.le_of_ble_eq_true rfl) (k_X12_thrown I2.2.1 ⟨_, rfl, (?_ : ky_V _ _ _ 1903 _ [.int ((md_thrown_r c9))] _ _)⟩)
    refine v_iload (i := 29) (j := 5) rfl rfl (?_ : ky_V _ _ _ 1905 _ _ _ _)
    refine v_icmp_eq (tgt := 1910) (i := 30) rfl (by decide) (fun _ => ?_) (fun c => absurd ht c)
    refine (?_ : ky_V _ _ _ 1910 _ _ _ _)
    refine v_iload (i := 33) (j := 5) rfl rfl (?_ : ky_V _ _ _ 1912 _ _ _ _)
    refine v_if_ne (tgt := 1927) (i := 34) rfl (by decide) (fun c => absurd c (by decide)) (fun _ => ?_)
    refine (?_ : ky_V _ _ _ 1915 _ _ _ _)
    refine v_aload_n (i := 35) (j := 3) rfl rfl (?_ : ky_V _ _ _ 1916 _ _ _ _)
    refine v_iconst (v := 0) (i := 36) rfl (by decide) (?_ : ky_V _ _ _ 1917 _ _ _ _)
    refine v_lald (i := 37) rfl I2.2.2.1 (ky_inl (by decide)) (?_ : ky_V _ _ _ 1918 _ (.long (f1 0) :: _) _ _)
    refine v_iload (i := 38) (j := 6) rfl rfl (?_ : ky_V _ _ _ 1920 _ _ _ _)
    refine v_i2l (i := 39) rfl rfl (?_ : ky_V _ _ _ 1921 _ _ _ _)
    refine v_lcmp (i := 40) rfl (?_ : ky_V _ _ _ 1922 _ _ _ _)
    refine v_if_eq (tgt := 1927) (i := 41) rfl (by decide) (fun _ => ?_) (fun c => absurd (by rw [hf]; exact lg_self _) c)
    refine (?_ : ky_V _ _ _ 1927 _ _ _ _)
    refine v_goto (tgt := 2405) (i := 44) rfl (by decide) (?_ : ky_V _ _ _ 2405 _ _ _ _)
    refine ky_loc (L' := [(0, .ref b), (1, .ref ((ky_B G))), (2, .ref ((ky_B G + 24))), (3, .ref ((ky_B G + 37))), (4, .int i)]) (by simp) ?_
    refine ky_sub (M := M_lc_holes) (M' := M_law) rfl rfl rfl rfl rfl ok_law ?_
    exact K _ _ I2
  · refine v_aload_n (i := 0) (j := 1) rfl rfl (?_ : ky_V _ _ _ 1863 _ _ _ _)
    refine v_aload_n (i := 1) (j := 0) rfl rfl (?_ : ky_V _ _ _ 1864 _ _ _ _)
    refine v_iload (i := 2) (j := 4) rfl rfl (?_ : ky_V _ _ _ 1866 _ _ _ _)
    refine v_iconst (v := 1) (i := 3) rfl (by decide) (?_ : ky_V _ _ _ 1867 _ _ _ _)
    refine v_iadd (i := 4) rfl (?_ : ky_V _ _ _ 1868 _ _ _ _)
    refine v_sld hX hb b1 (i := 5) rfl (?_ : ky_V _ _ _ 1869 _ (.int (xs (Int32.toNatClampNeg (i + 1))) :: _) _ _)
    refine v_aload_n (i := 6) (j := 0) rfl rfl (?_ : ky_V _ _ _ 1870 _ _ _ _)
    refine v_iload (i := 7) (j := 4) rfl rfl (?_ : ky_V _ _ _ 1872 _ _ _ _)
    refine v_iconst (v := 2) (i := 8) rfl (by decide) (?_ : ky_V _ _ _ 1873 _ _ _ _)
    refine v_iadd (i := 9) rfl (?_ : ky_V _ _ _ 1874 _ _ _ _)
    refine v_sld hX hb b2 (i := 10) rfl (?_ : ky_V _ _ _ 1875 _ (.int (xs (Int32.toNatClampNeg (i + 2))) :: _) _ _)
    refine v_aload_n (i := 11) (j := 3) rfl rfl (?_ : ky_V _ _ _ 1876 _ _ _ _)
    refine v_callSH (As := [.ref ((ky_B G)), .int ((xs (Int32.toNatClampNeg (i + 1)))), .int ((xs (Int32.toNatClampNeg (i + 2)))), .ref ((ky_B G + 37))]) ch_L_holes (ky_t6 (i := 183) rfl rfl) (ky_t6 (i := 182) rfl rfl) (i := 12) rfl rfl rfl (Nat.le_of_ble_eq_true rfl) (k_L_holes N hG I hx e1 (Or.inr (Or.inl rfl)) (fun v h1 f1 z I1 hf => by cases z) (fun h1 z I1 => ⟨_, rfl, (?_ : ky_V _ _ _ 1879 _ [.int 1] _ _)⟩) (fun h1 z I1 => absurd (Sum.inr.inj z) (by decide)))
    refine v_istore (L' := [(0, .ref b), (1, .ref ((ky_B G))), (2, .ref ((ky_B G + 24))), (3, .ref ((ky_B G + 37))), (4, .int i), (5, .int 1)]) [1, 2, 3, 4, 5, 0] (i := 13) rfl (Nat.le_of_ble_eq_true rfl) rfl (?_ : ky_V _ _ _ 1881 _ _ _ _)
    refine v_aload_n (i := 14) (j := 2) rfl rfl (?_ : ky_V _ _ _ 1882 _ _ _ _)
    refine v_aload_n (i := 15) (j := 0) rfl rfl (?_ : ky_V _ _ _ 1883 _ _ _ _)
    refine v_iload (i := 16) (j := 4) rfl rfl (?_ : ky_V _ _ _ 1885 _ _ _ _)
    refine v_iconst (v := 1) (i := 17) rfl (by decide) (?_ : ky_V _ _ _ 1886 _ _ _ _)
    refine v_iadd (i := 18) rfl (?_ : ky_V _ _ _ 1887 _ _ _ _)
    refine v_sld hX hb b1 (i := 19) rfl (?_ : ky_V _ _ _ 1888 _ (.int (xs (Int32.toNatClampNeg (i + 1))) :: _) _ _)
    refine v_aload_n (i := 20) (j := 0) rfl rfl (?_ : ky_V _ _ _ 1889 _ _ _ _)
    refine v_iload (i := 21) (j := 4) rfl rfl (?_ : ky_V _ _ _ 1891 _ _ _ _)
    refine v_iconst (v := 2) (i := 22) rfl (by decide) (?_ : ky_V _ _ _ 1892 _ _ _ _)
    refine v_iadd (i := 23) rfl (?_ : ky_V _ _ _ 1893 _ _ _ _)
    refine v_sld hX hb b2 (i := 24) rfl (?_ : ky_V _ _ _ 1894 _ (.int (xs (Int32.toNatClampNeg (i + 2))) :: _) _ _)
    refine cl_L_236 (As := [.int ((xs (Int32.toNatClampNeg (i + 1)))), .int ((xs (Int32.toNatClampNeg (i + 2))))]) rfl (i := 25) rfl (md_0 I1.2.1) rfl rfl (Nat.le_of_ble_eq_true rfl) (k_X12_holes N I1.2.1 e2 (fun h2 hm2 fr2 => ⟨_, rfl, (?_ : ky_V _ _ _ 1897 _ [.int r] _ _)⟩))
    have I2 := I1.mdl hm2 fr2
    refine v_istore (L' := [(0, .ref b), (1, .ref ((ky_B G))), (2, .ref ((ky_B G + 24))), (3, .ref ((ky_B G + 37))), (4, .int i), (5, .int 1), (6, .int r)]) [1, 2, 3, 4, 5, 6, 0] (i := 26) rfl (Nat.le_of_ble_eq_true rfl) rfl (?_ : ky_V _ _ _ 1899 _ _ _ _)
    refine v_aload_n (i := 27) (j := 2) rfl rfl (?_ : ky_V _ _ _ 1900 _ _ _ _)
    refine cl_L_129 (As := []) rfl (i := 28) rfl (md_0 I2.2.1) rfl rfl (Nat.le_of_ble_eq_true rfl) (k_X12_thrown I2.2.1 ⟨_, rfl, (?_ : ky_V _ _ _ 1903 _ [.int ((md_thrown_r c9))] _ _)⟩)
    refine v_iload (i := 29) (j := 5) rfl rfl (?_ : ky_V _ _ _ 1905 _ _ _ _)
    refine v_icmp_eq (tgt := 1910) (i := 30) rfl (by decide) (fun _ => ?_) (fun c => absurd ht c)
    refine (?_ : ky_V _ _ _ 1910 _ _ _ _)
    refine v_iload (i := 33) (j := 5) rfl rfl (?_ : ky_V _ _ _ 1912 _ _ _ _)
    refine v_if_ne (tgt := 1927) (i := 34) rfl (by decide) (fun _ => ?_) (fun c => absurd c (by decide))
    refine (?_ : ky_V _ _ _ 1927 _ _ _ _)
    refine v_goto (tgt := 2405) (i := 44) rfl (by decide) (?_ : ky_V _ _ _ 2405 _ _ _ _)
    refine ky_loc (L' := [(0, .ref b), (1, .ref ((ky_B G))), (2, .ref ((ky_B G + 24))), (3, .ref ((ky_B G + 37))), (4, .int i)]) (by simp) ?_
    refine ky_sub (M := M_lc_holes) (M' := M_law) rfl rfl rfl rfl rfl ok_law ?_
    exact K _ _ I2
  · refine v_aload_n (i := 0) (j := 1) rfl rfl (?_ : ky_V _ _ _ 1863 _ _ _ _)
    refine v_aload_n (i := 1) (j := 0) rfl rfl (?_ : ky_V _ _ _ 1864 _ _ _ _)
    refine v_iload (i := 2) (j := 4) rfl rfl (?_ : ky_V _ _ _ 1866 _ _ _ _)
    refine v_iconst (v := 1) (i := 3) rfl (by decide) (?_ : ky_V _ _ _ 1867 _ _ _ _)
    refine v_iadd (i := 4) rfl (?_ : ky_V _ _ _ 1868 _ _ _ _)
    refine v_sld hX hb b1 (i := 5) rfl (?_ : ky_V _ _ _ 1869 _ (.int (xs (Int32.toNatClampNeg (i + 1))) :: _) _ _)
    refine v_aload_n (i := 6) (j := 0) rfl rfl (?_ : ky_V _ _ _ 1870 _ _ _ _)
    refine v_iload (i := 7) (j := 4) rfl rfl (?_ : ky_V _ _ _ 1872 _ _ _ _)
    refine v_iconst (v := 2) (i := 8) rfl (by decide) (?_ : ky_V _ _ _ 1873 _ _ _ _)
    refine v_iadd (i := 9) rfl (?_ : ky_V _ _ _ 1874 _ _ _ _)
    refine v_sld hX hb b2 (i := 10) rfl (?_ : ky_V _ _ _ 1875 _ (.int (xs (Int32.toNatClampNeg (i + 2))) :: _) _ _)
    refine v_aload_n (i := 11) (j := 3) rfl rfl (?_ : ky_V _ _ _ 1876 _ _ _ _)
    refine v_callSH (As := [.ref ((ky_B G)), .int ((xs (Int32.toNatClampNeg (i + 1)))), .int ((xs (Int32.toNatClampNeg (i + 2)))), .ref ((ky_B G + 37))]) ch_L_holes (ky_t6 (i := 183) rfl rfl) (ky_t6 (i := 182) rfl rfl) (i := 12) rfl rfl rfl (Nat.le_of_ble_eq_true rfl) (k_L_holes N hG I hx e1 (Or.inr (Or.inr rfl)) (fun v h1 f1 z I1 hf => by cases z) (fun h1 z I1 => absurd (Sum.inr.inj z) (by decide)) (fun h1 z I1 => ⟨_, rfl, (?_ : ky_V _ _ _ 1879 _ [.int 2] _ _)⟩))
    refine v_istore (L' := [(0, .ref b), (1, .ref ((ky_B G))), (2, .ref ((ky_B G + 24))), (3, .ref ((ky_B G + 37))), (4, .int i), (5, .int 2)]) [1, 2, 3, 4, 5, 0] (i := 13) rfl (Nat.le_of_ble_eq_true rfl) rfl (?_ : ky_V _ _ _ 1881 _ _ _ _)
    refine v_aload_n (i := 14) (j := 2) rfl rfl (?_ : ky_V _ _ _ 1882 _ _ _ _)
    refine v_aload_n (i := 15) (j := 0) rfl rfl (?_ : ky_V _ _ _ 1883 _ _ _ _)
    refine v_iload (i := 16) (j := 4) rfl rfl (?_ : ky_V _ _ _ 1885 _ _ _ _)
    refine v_iconst (v := 1) (i := 17) rfl (by decide) (?_ : ky_V _ _ _ 1886 _ _ _ _)
    refine v_iadd (i := 18) rfl (?_ : ky_V _ _ _ 1887 _ _ _ _)
    refine v_sld hX hb b1 (i := 19) rfl (?_ : ky_V _ _ _ 1888 _ (.int (xs (Int32.toNatClampNeg (i + 1))) :: _) _ _)
    refine v_aload_n (i := 20) (j := 0) rfl rfl (?_ : ky_V _ _ _ 1889 _ _ _ _)
    refine v_iload (i := 21) (j := 4) rfl rfl (?_ : ky_V _ _ _ 1891 _ _ _ _)
    refine v_iconst (v := 2) (i := 22) rfl (by decide) (?_ : ky_V _ _ _ 1892 _ _ _ _)
    refine v_iadd (i := 23) rfl (?_ : ky_V _ _ _ 1893 _ _ _ _)
    refine v_sld hX hb b2 (i := 24) rfl (?_ : ky_V _ _ _ 1894 _ (.int (xs (Int32.toNatClampNeg (i + 2))) :: _) _ _)
    refine cl_L_236 (As := [.int ((xs (Int32.toNatClampNeg (i + 1)))), .int ((xs (Int32.toNatClampNeg (i + 2))))]) rfl (i := 25) rfl (md_0 I1.2.1) rfl rfl (Nat.le_of_ble_eq_true rfl) (k_X12_holes N I1.2.1 e2 (fun h2 hm2 fr2 => ⟨_, rfl, (?_ : ky_V _ _ _ 1897 _ [.int r] _ _)⟩))
    have I2 := I1.mdl hm2 fr2
    refine v_istore (L' := [(0, .ref b), (1, .ref ((ky_B G))), (2, .ref ((ky_B G + 24))), (3, .ref ((ky_B G + 37))), (4, .int i), (5, .int 2), (6, .int r)]) [1, 2, 3, 4, 5, 6, 0] (i := 26) rfl (Nat.le_of_ble_eq_true rfl) rfl (?_ : ky_V _ _ _ 1899 _ _ _ _)
    refine v_aload_n (i := 27) (j := 2) rfl rfl (?_ : ky_V _ _ _ 1900 _ _ _ _)
    refine cl_L_129 (As := []) rfl (i := 28) rfl (md_0 I2.2.1) rfl rfl (Nat.le_of_ble_eq_true rfl) (k_X12_thrown I2.2.1 ⟨_, rfl, (?_ : ky_V _ _ _ 1903 _ [.int ((md_thrown_r c9))] _ _)⟩)
    refine v_iload (i := 29) (j := 5) rfl rfl (?_ : ky_V _ _ _ 1905 _ _ _ _)
    refine v_icmp_eq (tgt := 1910) (i := 30) rfl (by decide) (fun _ => ?_) (fun c => absurd ht c)
    refine (?_ : ky_V _ _ _ 1910 _ _ _ _)
    refine v_iload (i := 33) (j := 5) rfl rfl (?_ : ky_V _ _ _ 1912 _ _ _ _)
    refine v_if_ne (tgt := 1927) (i := 34) rfl (by decide) (fun _ => ?_) (fun c => absurd c (by decide))
    refine (?_ : ky_V _ _ _ 1927 _ _ _ _)
    refine v_goto (tgt := 2405) (i := 44) rfl (by decide) (?_ : ky_V _ _ _ 2405 _ _ _ _)
    refine ky_loc (L' := [(0, .ref b), (1, .ref ((ky_B G))), (2, .ref ((ky_B G + 24))), (3, .ref ((ky_B G + 37))), (4, .int i)]) (by simp) ?_
    refine ky_sub (M := M_lc_holes) (M' := M_law) rfl rfl rfl rfl rfl ok_law ?_
    exact K _ _ I2
def tb_lc_rope : List (Nat × Instr × Nat) := [(1930, .aload_n 1, 1), (1931, .aload_n 0, 1), (1932, .iload 4, 2), (1934, .iconst 1, 1), (1935, .iadd, 1), (1936, .iaload, 1), (1937, .aload_n 3, 1), (1938, .invokestatic 237, 3), (1941, .istore 5, 2), (1943, .aload_n 2, 1), (1944, .aload_n 0, 1), (1945, .iload 4, 2), (1947, .iconst 1, 1), (1948, .iadd, 1), (1949, .iaload, 1), (1950, .invokevirtual 239, 3), (1953, .lstore 6, 2), (1955, .aload_n 2, 1), (1956, .invokevirtual 129, 3), (1959, .iload 5, 2), (1961, .if_icmp .eq 5, 3), (1964, .iconst 0, 1), (1965, .ireturn, 1), (1966, .iload 5, 2), (1968, .ifCond .ne 14, 3), (1971, .aload_n 3, 1), (1972, .iconst 0, 1), (1973, .laload, 1), (1974, .lload 6, 2), (1976, .lcmp, 1), (1977, .ifCond .eq 5, 3), (1980, .iconst 0, 1), (1981, .ireturn, 1), (1982, .goto 423, 3)]
def M_lc_rope : ky_MT := (x, code, 8, ret, tb_lc_rope, [])
set_option maxRecDepth 100000 in
set_option maxHeartbeats 4000000 in
theorem ok_lc_rope : ky_ok code tb_lc_rope = true := by decide +kernel
set_option maxRecDepth 20000 in
set_option maxHeartbeats 4000000 in
theorem lc_rope {G : ky_GW} {b Ln : Nat} {xs : Nat → Int32} {h : ky_HP} {Q : ky_RS → ky_HP → Prop} {s s9 : sk_S} {c c9 : Nat → Nat → Int32} {f : Nat → Int64} {i : Int32} {r9 : ky_RS} {r : Int64} (N : Nat) (hG : ky_OK G) (hX : va_X b Ln xs G.2.1 G.2.1.heap) (hb : b < ky_B G) (b1 : vp_in (i + 1) Ln) (b2 : vp_in (i + 2) Ln) (b3 : vp_in (i + 3) Ln) (b4 : vp_in (i + 4) Ln) (b5 : vp_in (i + 5) Ln) (I : lw_I G s c f h) (hx : lw_X G s) (e1 : x11_rope N s (ky_B G) (xs (Int32.toNatClampNeg (i + 1))) = some (s9, r9)) (e2 : md_rope N c (xs (Int32.toNatClampNeg (i + 1))) = some (c9, r)) (hc : (r9 = .inl (some (.long r)) ∧ c9 0 0 = 0) ∨ (r9 = .inr "java/lang/IllegalArgumentException" ∧ c9 0 0 = 1)) (K : ∀ f9 h9, lw_I G s9 c9 f9 h9 → ky_V G 61 M_law 2405 [(0, .ref b), (1, .ref ((ky_B G))), (2, .ref ((ky_B G + 24))), (3, .ref ((ky_B G + 37))), (4, .int i)] [] h9 Q) : ky_V G 61 M_law 1930 [(0, .ref b), (1, .ref ((ky_B G))), (2, .ref ((ky_B G + 24))), (3, .ref ((ky_B G + 37))), (4, .int i)] [] h Q := by
  refine ky_sub (M := M_law) (M' := M_lc_rope) rfl rfl rfl rfl rfl ok_lc_rope ?_
  rcases hc with ⟨rfl, ht⟩ | ⟨rfl, ht⟩
  · refine v_aload_n (i := 0) (j := 1) rfl rfl (?_ : ky_V _ _ _ 1931 _ _ _ _)
    refine v_aload_n (i := 1) (j := 0) rfl rfl (?_ : ky_V _ _ _ 1932 _ _ _ _)
    refine v_iload (i := 2) (j := 4) rfl rfl (?_ : ky_V _ _ _ 1934 _ _ _ _)
    refine v_iconst (v := 1) (i := 3) rfl (by decide) (?_ : ky_V _ _ _ 1935 _ _ _ _)
    refine v_iadd (i := 4) rfl (?_ : ky_V _ _ _ 1936 _ _ _ _)
    refine v_sld hX hb b1 (i := 5) rfl (?_ : ky_V _ _ _ 1937 _ (.int (xs (Int32.toNatClampNeg (i + 1))) :: _) _ _)
    refine v_aload_n (i := 6) (j := 3) rfl rfl (?_ : ky_V _ _ _ 1938 _ _ _ _)
    refine v_callSH (As := [.ref ((ky_B G)), .int ((xs (Int32.toNatClampNeg (i + 1)))), .ref ((ky_B G + 37))]) ch_L_rope (ky_t6 (i := 195) rfl rfl) (ky_t6 (i := 194) rfl rfl) (i := 7) rfl rfl rfl (Nat.le_of_ble_eq_true rfl) (k_L_rope N hG I hx e1 (Or.inl ⟨r, rfl⟩) (fun v h1 f1 z I1 hf => ?_) (fun h1 z I1 => by cases z))
    cases z
    refine ⟨_, rfl, (?_ : ky_V _ _ _ 1941 _ [.int 0] _ _)⟩
    refine v_istore (L' := [(0, .ref b), (1, .ref ((ky_B G))), (2, .ref ((ky_B G + 24))), (3, .ref ((ky_B G + 37))), (4, .int i), (5, .int 0)]) [1, 2, 3, 4, 5, 0] (i := 8) rfl (Nat.le_of_ble_eq_true rfl) rfl (?_ : ky_V _ _ _ 1943 _ _ _ _)
    refine v_aload_n (i := 9) (j := 2) rfl rfl (?_ : ky_V _ _ _ 1944 _ _ _ _)
    refine v_aload_n (i := 10) (j := 0) rfl rfl (?_ : ky_V _ _ _ 1945 _ _ _ _)
    refine v_iload (i := 11) (j := 4) rfl rfl (?_ : ky_V _ _ _ 1947 _ _ _ _)
    refine v_iconst (v := 1) (i := 12) rfl (by decide) (?_ : ky_V _ _ _ 1948 _ _ _ _)
    refine v_iadd (i := 13) rfl (?_ : ky_V _ _ _ 1949 _ _ _ _)
    refine v_sld hX hb b1 (i := 14) rfl (?_ : ky_V _ _ _ 1950 _ (.int (xs (Int32.toNatClampNeg (i + 1))) :: _) _ _)
    refine cl_L_239 (As := [.int ((xs (Int32.toNatClampNeg (i + 1))))]) rfl (i := 15) rfl (md_0 I1.2.1) rfl rfl (Nat.le_of_ble_eq_true rfl) (k_X12_rope N I1.2.1 e2 (fun h2 hm2 fr2 => ⟨_, rfl, (?_ : ky_V _ _ _ 1953 _ [.long r] _ _)⟩))
    have I2 := I1.mdl hm2 fr2
    refine v_lstore (L' := [(0, .ref b), (1, .ref ((ky_B G))), (2, .ref ((ky_B G + 24))), (3, .ref ((ky_B G + 37))), (4, .int i), (5, .int 0), (6, .long r)]) [1, 2, 3, 4, 5, 6, 0] (i := 16) rfl (Nat.le_of_ble_eq_true rfl) rfl (?_ : ky_V _ _ _ 1955 _ _ _ _)
    refine v_aload_n (i := 17) (j := 2) rfl rfl (?_ : ky_V _ _ _ 1956 _ _ _ _)
    refine cl_L_129 (As := []) rfl (i := 18) rfl (md_0 I2.2.1) rfl rfl (Nat.le_of_ble_eq_true rfl) (k_X12_thrown I2.2.1 ⟨_, rfl, (?_ : ky_V _ _ _ 1959 _ [.int ((md_thrown_r c9))] _ _)⟩)
    refine v_iload (i := 19) (j := 5) rfl rfl (?_ : ky_V _ _ _ 1961 _ _ _ _)
    refine v_icmp_eq (tgt := 1966) (i := 20) rfl (by decide) (fun _ => ?_) (fun c => absurd ht c)
    refine (?_ : ky_V _ _ _ 1966 _ _ _ _)
    refine v_iload (i := 23) (j := 5) rfl rfl (?_ : ky_V _ _ _ 1968 _ _ _ _)
    refine v_if_ne (tgt := 1982) (i := 24) rfl (by decide) (fun c => absurd c (by decide)) (fun _ => ?_)
    refine (?_ : ky_V _ _ _ 1971 _ _ _ _)
    refine v_aload_n (i := 25) (j := 3) rfl rfl (?_ : ky_V _ _ _ 1972 _ _ _ _)
    refine v_iconst (v := 0) (i := 26) rfl (by decide) (?_ : ky_V _ _ _ 1973 _ _ _ _)
    refine v_lald (i := 27) rfl I2.2.2.1 (ky_inl (by decide)) (?_ : ky_V _ _ _ 1974 _ (.long (f1 0) :: _) _ _)
    refine v_lload (i := 28) (j := 6) rfl rfl (?_ : ky_V _ _ _ 1976 _ _ _ _)
    refine v_lcmp (i := 29) rfl (?_ : ky_V _ _ _ 1977 _ _ _ _)
    refine v_if_eq (tgt := 1982) (i := 30) rfl (by decide) (fun _ => ?_) (fun c => absurd (by rw [hf]; exact lg_self _) c)
    refine (?_ : ky_V _ _ _ 1982 _ _ _ _)
    refine v_goto (tgt := 2405) (i := 33) rfl (by decide) (?_ : ky_V _ _ _ 2405 _ _ _ _)
    refine ky_loc (L' := [(0, .ref b), (1, .ref ((ky_B G))), (2, .ref ((ky_B G + 24))), (3, .ref ((ky_B G + 37))), (4, .int i)]) (by simp) ?_
    refine ky_sub (M := M_lc_rope) (M' := M_law) rfl rfl rfl rfl rfl ok_law ?_
    exact K _ _ I2
  · refine v_aload_n (i := 0) (j := 1) rfl rfl (?_ : ky_V _ _ _ 1931 _ _ _ _)
    refine v_aload_n (i := 1) (j := 0) rfl rfl (?_ : ky_V _ _ _ 1932 _ _ _ _)
    refine v_iload (i := 2) (j := 4) rfl rfl (?_ : ky_V _ _ _ 1934 _ _ _ _)
    refine v_iconst (v := 1) (i := 3) rfl (by decide) (?_ : ky_V _ _ _ 1935 _ _ _ _)
    refine v_iadd (i := 4) rfl (?_ : ky_V _ _ _ 1936 _ _ _ _)
    refine v_sld hX hb b1 (i := 5) rfl (?_ : ky_V _ _ _ 1937 _ (.int (xs (Int32.toNatClampNeg (i + 1))) :: _) _ _)
    refine v_aload_n (i := 6) (j := 3) rfl rfl (?_ : ky_V _ _ _ 1938 _ _ _ _)
    refine v_callSH (As := [.ref ((ky_B G)), .int ((xs (Int32.toNatClampNeg (i + 1)))), .ref ((ky_B G + 37))]) ch_L_rope (ky_t6 (i := 195) rfl rfl) (ky_t6 (i := 194) rfl rfl) (i := 7) rfl rfl rfl (Nat.le_of_ble_eq_true rfl) (k_L_rope N hG I hx e1 (Or.inr rfl) (fun v h1 f1 z I1 hf => by cases z) (fun h1 z I1 => ⟨_, rfl, (?_ : ky_V _ _ _ 1941 _ [.int 1] _ _)⟩))
    refine v_istore (L' := [(0, .ref b), (1, .ref ((ky_B G))), (2, .ref ((ky_B G + 24))), (3, .ref ((ky_B G + 37))), (4, .int i), (5, .int 1)]) [1, 2, 3, 4, 5, 0] (i := 8) rfl (Nat.le_of_ble_eq_true rfl) rfl (?_ : ky_V _ _ _ 1943 _ _ _ _)
    refine v_aload_n (i := 9) (j := 2) rfl rfl (?_ : ky_V _ _ _ 1944 _ _ _ _)
    refine v_aload_n (i := 10) (j := 0) rfl rfl (?_ : ky_V _ _ _ 1945 _ _ _ _)
    refine v_iload (i := 11) (j := 4) rfl rfl (?_ : ky_V _ _ _ 1947 _ _ _ _)
    refine v_iconst (v := 1) (i := 12) rfl (by decide) (?_ : ky_V _ _ _ 1948 _ _ _ _)
    refine v_iadd (i := 13) rfl (?_ : ky_V _ _ _ 1949 _ _ _ _)
    refine v_sld hX hb b1 (i := 14) rfl (?_ : ky_V _ _ _ 1950 _ (.int (xs (Int32.toNatClampNeg (i + 1))) :: _) _ _)
    refine cl_L_239 (As := [.int ((xs (Int32.toNatClampNeg (i + 1))))]) rfl (i := 15) rfl (md_0 I1.2.1) rfl rfl (Nat.le_of_ble_eq_true rfl) (k_X12_rope N I1.2.1 e2 (fun h2 hm2 fr2 => ⟨_, rfl, (?_ : ky_V _ _ _ 1953 _ [.long r] _ _)⟩))
    have I2 := I1.mdl hm2 fr2
    refine v_lstore (L' := [(0, .ref b), (1, .ref ((ky_B G))), (2, .ref ((ky_B G + 24))), (3, .ref ((ky_B G + 37))), (4, .int i), (5, .int 1), (6, .long r)]) [1, 2, 3, 4, 5, 6, 0] (i := 16) rfl (Nat.le_of_ble_eq_true rfl) rfl (?_ : ky_V _ _ _ 1955 _ _ _ _)
    refine v_aload_n (i := 17) (j := 2) rfl rfl (?_ : ky_V _ _ _ 1956 _ _ _ _)
    refine cl_L_129 (As := []) rfl (i := 18) rfl (md_0 I2.2.1) rfl rfl (Nat.le_of_ble_eq_true rfl) (k_X12_thrown I2.2.1 ⟨_, rfl, (?_ : ky_V _ _ _ 1959 _ [.int ((md_thrown_r c9))] _ _)⟩)
    refine v_iload (i := 19) (j := 5) rfl rfl (?_ : ky_V _ _ _ 1961 _ _ _ _)
    refine v_icmp_eq (tgt := 1966) (i := 20) rfl (by decide) (fun _ => ?_) (fun c => absurd ht c)
    refine (?_ : ky_V _ _ _ 1966 _ _ _ _)
    refine v_iload (i := 23) (j := 5) rfl rfl (?_ : ky_V _ _ _ 1968 _ _ _ _)
    refine v_if_ne (tgt := 1982) (i := 24) rfl (by decide) (fun _ => ?_) (fun c => absurd c (by decide))
    refine (?_ : ky_V _ _ _ 1982 _ _ _ _)
    refine v_goto (tgt := 2405) (i := 33) rfl (by decide) (?_ : ky_V _ _ _ 2405 _ _ _ _)
    refine ky_loc (L' := [(0, .ref b), (1, .ref ((ky_B G))), (2, .ref ((ky_B G + 24))), (3, .ref ((ky_B G + 37))), (4, .int i)]) (by simp) ?_
    refine ky_sub (M := M_lc_rope) (M' := M_law) rfl rfl rfl rfl rfl ok_law ?_
    exact K _ _ I2
def tb_lc_placed : List (Nat × Instr × Nat) := [(1985, .aload_n 1, 1), (1986, .invokevirtual 240, 3), (1989, .aload_n 2, 1), (1990, .invokevirtual 243, 3), (1993, .if_icmp .eq 412, 3), (1996, .iconst 0, 1), (1997, .ireturn, 1)]
def M_lc_placed : ky_MT := (x, code, 8, ret, tb_lc_placed, [])
set_option maxRecDepth 100000 in
set_option maxHeartbeats 4000000 in
theorem ok_lc_placed : ky_ok code tb_lc_placed = true := by decide +kernel
set_option maxRecDepth 20000 in
set_option maxHeartbeats 4000000 in
theorem lc_placed {G : ky_GW} {b Ln : Nat} {xs : Nat → Int32} {h : ky_HP} {Q : ky_RS → ky_HP → Prop} {s s9 : sk_S} {c c9 : Nat → Nat → Int32} {f : Nat → Int64} {i : Int32} {r : Int32} (N : Nat) (hG : ky_OK G) (hX : va_X b Ln xs G.2.1 G.2.1.heap) (hb : b < ky_B G) (b1 : vp_in (i + 1) Ln) (b2 : vp_in (i + 2) Ln) (b3 : vp_in (i + 3) Ln) (b4 : vp_in (i + 4) Ln) (b5 : vp_in (i + 5) Ln) (I : lw_I G s c f h) (hx : lw_X G s) (e1 : x11_placed N s (ky_B G) = some (s9, r)) (e2 : md_placed N c = some (c9, r)) (K : ∀ f9 h9, lw_I G s9 c9 f9 h9 → ky_V G 61 M_law 2405 [(0, .ref b), (1, .ref ((ky_B G))), (2, .ref ((ky_B G + 24))), (3, .ref ((ky_B G + 37))), (4, .int i)] [] h9 Q) : ky_V G 61 M_law 1985 [(0, .ref b), (1, .ref ((ky_B G))), (2, .ref ((ky_B G + 24))), (3, .ref ((ky_B G + 37))), (4, .int i)] [] h Q := by
  refine ky_sub (M := M_law) (M' := M_lc_placed) rfl rfl rfl rfl rfl ok_lc_placed ?_
  refine v_aload_n (i := 0) (j := 1) rfl rfl (?_ : ky_V _ _ _ 1986 _ _ _ _)
  refine cl_L_240 (As := []) rfl (i := 1) rfl (oc_X11 I.1 hx) rfl rfl (Nat.le_of_ble_eq_true rfl) (k_X11_placed N hG I.1 e1 (fun h1 hm1 fr1 => ⟨_, rfl, (?_ : ky_V _ _ _ 1989 _ [.int r] _ _)⟩))
  have I1 := I.cls hm1 fr1
  refine v_aload_n (i := 2) (j := 2) rfl rfl (?_ : ky_V _ _ _ 1990 _ _ _ _)
  refine cl_L_243 (As := []) rfl (i := 3) rfl (md_0 I1.2.1) rfl rfl (Nat.le_of_ble_eq_true rfl) (k_X12_placed N I1.2.1 e2 (fun h2 hm2 fr2 => ⟨_, rfl, (?_ : ky_V _ _ _ 1993 _ [.int r, .int r] _ _)⟩))
  have I2 := I1.mdl hm2 fr2
  refine v_icmp_eq (tgt := 2405) (i := 4) rfl (by decide) (fun _ => ?_) (fun c => absurd rfl c)
  refine (?_ : ky_V _ _ _ 2405 _ _ _ _)
  refine ky_sub (M := M_lc_placed) (M' := M_law) rfl rfl rfl rfl rfl ok_law ?_
  exact K _ _ I2
def tb_lc_trial : List (Nat × Instr × Nat) := [(1998, .aload_n 1, 1), (1999, .aload_n 0, 1), (2000, .iload 4, 2), (2002, .iconst 1, 1), (2003, .iadd, 1), (2004, .iaload, 1), (2005, .aload_n 0, 1), (2006, .iload 4, 2), (2008, .iconst 2, 1), (2009, .iadd, 1), (2010, .iaload, 1), (2011, .ifCond .eq 7, 3), (2014, .iconst 1, 1), (2015, .goto 4, 3), (2018, .iconst 0, 1), (2019, .aload_n 3, 1), (2020, .invokestatic 244, 3), (2023, .istore 5, 2), (2025, .aload_n 2, 1), (2026, .aload_n 0, 1), (2027, .iload 4, 2), (2029, .iconst 1, 1), (2030, .iadd, 1), (2031, .iaload, 1), (2032, .aload_n 0, 1), (2033, .iload 4, 2), (2035, .iconst 2, 1), (2036, .iadd, 1), (2037, .iaload, 1), (2038, .ifCond .eq 7, 3), (2041, .iconst 1, 1), (2042, .goto 4, 3), (2045, .iconst 0, 1), (2046, .invokevirtual 246, 3), (2049, .istore 6, 2), (2051, .aload_n 2, 1), (2052, .invokevirtual 129, 3), (2055, .iload 5, 2), (2057, .if_icmp .eq 5, 3), (2060, .iconst 0, 1), (2061, .ireturn, 1), (2062, .iload 5, 2), (2064, .ifCond .ne 15, 3), (2067, .aload_n 3, 1), (2068, .iconst 0, 1), (2069, .laload, 1), (2070, .iload 6, 2), (2072, .i2l, 1), (2073, .lcmp, 1), (2074, .ifCond .eq 5, 3), (2077, .iconst 0, 1), (2078, .ireturn, 1), (2079, .goto 326, 3)]
def M_lc_trial : ky_MT := (x, code, 8, ret, tb_lc_trial, [])
set_option maxRecDepth 100000 in
set_option maxHeartbeats 4000000 in
theorem ok_lc_trial : ky_ok code tb_lc_trial = true := by decide +kernel
set_option maxRecDepth 20000 in
set_option maxHeartbeats 4000000 in
theorem lc_trial {G : ky_GW} {b Ln : Nat} {xs : Nat → Int32} {h : ky_HP} {Q : ky_RS → ky_HP → Prop} {s s9 : sk_S} {c c9 : Nat → Nat → Int32} {f : Nat → Int64} {i : Int32} {r9 : ky_RS} {r : Int32} (N : Nat) (hG : ky_OK G) (hX : va_X b Ln xs G.2.1 G.2.1.heap) (hb : b < ky_B G) (b1 : vp_in (i + 1) Ln) (b2 : vp_in (i + 2) Ln) (b3 : vp_in (i + 3) Ln) (b4 : vp_in (i + 4) Ln) (b5 : vp_in (i + 5) Ln) (I : lw_I G s c f h) (hx : lw_X G s) (e1 : x11_trial N s (ky_B G) (xs (Int32.toNatClampNeg (i + 1))) (if (xs (Int32.toNatClampNeg (i + 2))) = 0 then 0 else 1) = some (s9, r9)) (e2 : md_trial N c (xs (Int32.toNatClampNeg (i + 1))) (if (xs (Int32.toNatClampNeg (i + 2))) = 0 then 0 else 1) = some (c9, r)) (hc : (r9 = .inl (some (.int r)) ∧ c9 0 0 = 0) ∨ (r9 = .inr "java/lang/IllegalArgumentException" ∧ c9 0 0 = 1)) (K : ∀ f9 h9, lw_I G s9 c9 f9 h9 → ky_V G 61 M_law 2405 [(0, .ref b), (1, .ref ((ky_B G))), (2, .ref ((ky_B G + 24))), (3, .ref ((ky_B G + 37))), (4, .int i)] [] h9 Q) : ky_V G 61 M_law 1998 [(0, .ref b), (1, .ref ((ky_B G))), (2, .ref ((ky_B G + 24))), (3, .ref ((ky_B G + 37))), (4, .int i)] [] h Q := by
  refine ky_sub (M := M_law) (M' := M_lc_trial) rfl rfl rfl rfl rfl ok_lc_trial ?_
  rcases hc with ⟨rfl, ht⟩ | ⟨rfl, ht⟩
  · refine v_aload_n (i := 0) (j := 1) rfl rfl (?_ : ky_V _ _ _ 1999 _ _ _ _)
    refine v_aload_n (i := 1) (j := 0) rfl rfl (?_ : ky_V _ _ _ 2000 _ _ _ _)
    refine v_iload (i := 2) (j := 4) rfl rfl (?_ : ky_V _ _ _ 2002 _ _ _ _)
    refine v_iconst (v := 1) (i := 3) rfl (by decide) (?_ : ky_V _ _ _ 2003 _ _ _ _)
    refine v_iadd (i := 4) rfl (?_ : ky_V _ _ _ 2004 _ _ _ _)
    refine v_sld hX hb b1 (i := 5) rfl (?_ : ky_V _ _ _ 2005 _ (.int (xs (Int32.toNatClampNeg (i + 1))) :: _) _ _)
    refine v_aload_n (i := 6) (j := 0) rfl rfl (?_ : ky_V _ _ _ 2006 _ _ _ _)
    refine v_iload (i := 7) (j := 4) rfl rfl (?_ : ky_V _ _ _ 2008 _ _ _ _)
    refine v_iconst (v := 2) (i := 8) rfl (by decide) (?_ : ky_V _ _ _ 2009 _ _ _ _)
    refine v_iadd (i := 9) rfl (?_ : ky_V _ _ _ 2010 _ _ _ _)
    refine v_sld hX hb b2 (i := 10) rfl (?_ : ky_V _ _ _ 2011 _ (.int (xs (Int32.toNatClampNeg (i + 2))) :: _) _ _)
    refine v_if_eq (tgt := 2018) (i := 11) rfl (by decide) (fun c1 => ?_) (fun c1 => ?_)
    · rw [if_pos c1] at e1 e2
      refine v_iconst (v := 0) (i := 14) rfl (by decide) (?_ : ky_V _ _ _ 2019 _ _ _ _)
      refine v_aload_n (i := 15) (j := 3) rfl rfl (?_ : ky_V _ _ _ 2020 _ _ _ _)
      refine v_callSH (As := [.ref ((ky_B G)), .int ((xs (Int32.toNatClampNeg (i + 1)))), .int 0, .ref ((ky_B G + 37))]) ch_L_trial (ky_t6 (i := 204) rfl rfl) (ky_t6 (i := 203) rfl rfl) (i := 16) rfl rfl rfl (Nat.le_of_ble_eq_true rfl) (k_L_trial N hG I hx e1 (Or.inl ⟨r, rfl⟩) (fun v h1 f1 z I1 hf => ?_) (fun h1 z I1 => by cases z))
      cases z
      refine ⟨_, rfl, (?_ : ky_V _ _ _ 2023 _ [.int 0] _ _)⟩
      refine v_istore (L' := [(0, .ref b), (1, .ref ((ky_B G))), (2, .ref ((ky_B G + 24))), (3, .ref ((ky_B G + 37))), (4, .int i), (5, .int 0)]) [1, 2, 3, 4, 5, 0] (i := 17) rfl (Nat.le_of_ble_eq_true rfl) rfl (?_ : ky_V _ _ _ 2025 _ _ _ _)
      refine v_aload_n (i := 18) (j := 2) rfl rfl (?_ : ky_V _ _ _ 2026 _ _ _ _)
      refine v_aload_n (i := 19) (j := 0) rfl rfl (?_ : ky_V _ _ _ 2027 _ _ _ _)
      refine v_iload (i := 20) (j := 4) rfl rfl (?_ : ky_V _ _ _ 2029 _ _ _ _)
      refine v_iconst (v := 1) (i := 21) rfl (by decide) (?_ : ky_V _ _ _ 2030 _ _ _ _)
      refine v_iadd (i := 22) rfl (?_ : ky_V _ _ _ 2031 _ _ _ _)
      refine v_sld hX hb b1 (i := 23) rfl (?_ : ky_V _ _ _ 2032 _ (.int (xs (Int32.toNatClampNeg (i + 1))) :: _) _ _)
      refine v_aload_n (i := 24) (j := 0) rfl rfl (?_ : ky_V _ _ _ 2033 _ _ _ _)
      refine v_iload (i := 25) (j := 4) rfl rfl (?_ : ky_V _ _ _ 2035 _ _ _ _)
      refine v_iconst (v := 2) (i := 26) rfl (by decide) (?_ : ky_V _ _ _ 2036 _ _ _ _)
      refine v_iadd (i := 27) rfl (?_ : ky_V _ _ _ 2037 _ _ _ _)
      refine v_sld hX hb b2 (i := 28) rfl (?_ : ky_V _ _ _ 2038 _ (.int (xs (Int32.toNatClampNeg (i + 2))) :: _) _ _)
      refine v_if_eq (tgt := 2045) (i := 29) rfl (by decide) (fun _ => ?_) (fun c => absurd c1 c)
      refine (?_ : ky_V _ _ _ 2045 _ _ _ _)
      refine v_iconst (v := 0) (i := 32) rfl (by decide) (?_ : ky_V _ _ _ 2046 _ _ _ _)
      refine cl_L_246 (As := [.int ((xs (Int32.toNatClampNeg (i + 1)))), .int 0]) rfl (i := 33) rfl (md_0 I1.2.1) rfl rfl (Nat.le_of_ble_eq_true rfl) (k_X12_trial N I1.2.1 e2 (fun h2 hm2 fr2 => ⟨_, rfl, (?_ : ky_V _ _ _ 2049 _ [.int r] _ _)⟩))
      have I2 := I1.mdl hm2 fr2
      refine v_istore (L' := [(0, .ref b), (1, .ref ((ky_B G))), (2, .ref ((ky_B G + 24))), (3, .ref ((ky_B G + 37))), (4, .int i), (5, .int 0), (6, .int r)]) [1, 2, 3, 4, 5, 6, 0] (i := 34) rfl (Nat.le_of_ble_eq_true rfl) rfl (?_ : ky_V _ _ _ 2051 _ _ _ _)
      refine v_aload_n (i := 35) (j := 2) rfl rfl (?_ : ky_V _ _ _ 2052 _ _ _ _)
      refine cl_L_129 (As := []) rfl (i := 36) rfl (md_0 I2.2.1) rfl rfl (Nat.le_of_ble_eq_true rfl) (k_X12_thrown I2.2.1 ⟨_, rfl, (?_ : ky_V _ _ _ 2055 _ [.int ((md_thrown_r c9))] _ _)⟩)
      refine v_iload (i := 37) (j := 5) rfl rfl (?_ : ky_V _ _ _ 2057 _ _ _ _)
      refine v_icmp_eq (tgt := 2062) (i := 38) rfl (by decide) (fun _ => ?_) (fun c => absurd ht c)
      refine (?_ : ky_V _ _ _ 2062 _ _ _ _)
      refine v_iload (i := 41) (j := 5) rfl rfl (?_ : ky_V _ _ _ 2064 _ _ _ _)
      refine v_if_ne (tgt := 2079) (i := 42) rfl (by decide) (fun c => absurd c (by decide)) (fun _ => ?_)
      refine (?_ : ky_V _ _ _ 2067 _ _ _ _)
      refine v_aload_n (i := 43) (j := 3) rfl rfl (?_ : ky_V _ _ _ 2068 _ _ _ _)
      refine v_iconst (v := 0) (i := 44) rfl (by decide) (?_ : ky_V _ _ _ 2069 _ _ _ _)
      refine v_lald (i := 45) rfl I2.2.2.1 (ky_inl (by decide)) (?_ : ky_V _ _ _ 2070 _ (.long (f1 0) :: _) _ _)
      refine v_iload (i := 46) (j := 6) rfl rfl (?_ : ky_V _ _ _ 2072 _ _ _ _)
      refine v_i2l (i := 47) rfl rfl (?_ : ky_V _ _ _ 2073 _ _ _ _)
      refine v_lcmp (i := 48) rfl (?_ : ky_V _ _ _ 2074 _ _ _ _)
      refine v_if_eq (tgt := 2079) (i := 49) rfl (by decide) (fun _ => ?_) (fun c => absurd (by rw [hf]; exact lg_self _) c)
      refine (?_ : ky_V _ _ _ 2079 _ _ _ _)
      refine v_goto (tgt := 2405) (i := 52) rfl (by decide) (?_ : ky_V _ _ _ 2405 _ _ _ _)
      refine ky_loc (L' := [(0, .ref b), (1, .ref ((ky_B G))), (2, .ref ((ky_B G + 24))), (3, .ref ((ky_B G + 37))), (4, .int i)]) (by simp) ?_
      refine ky_sub (M := M_lc_trial) (M' := M_law) rfl rfl rfl rfl rfl ok_law ?_
      exact K _ _ I2
    · rw [if_neg c1] at e1 e2
      refine v_iconst (v := 1) (i := 12) rfl (by decide) (?_ : ky_V _ _ _ 2015 _ _ _ _)
      refine v_goto (tgt := 2019) (i := 13) rfl (by decide) (?_ : ky_V _ _ _ 2019 _ _ _ _)
      refine v_aload_n (i := 15) (j := 3) rfl rfl (?_ : ky_V _ _ _ 2020 _ _ _ _)
      refine v_callSH (As := [.ref ((ky_B G)), .int ((xs (Int32.toNatClampNeg (i + 1)))), .int 1, .ref ((ky_B G + 37))]) ch_L_trial (ky_t6 (i := 204) rfl rfl) (ky_t6 (i := 203) rfl rfl) (i := 16) rfl rfl rfl (Nat.le_of_ble_eq_true rfl) (k_L_trial N hG I hx e1 (Or.inl ⟨r, rfl⟩) (fun v h1 f1 z I1 hf => ?_) (fun h1 z I1 => by cases z))
      cases z
      refine ⟨_, rfl, (?_ : ky_V _ _ _ 2023 _ [.int 0] _ _)⟩
      refine v_istore (L' := [(0, .ref b), (1, .ref ((ky_B G))), (2, .ref ((ky_B G + 24))), (3, .ref ((ky_B G + 37))), (4, .int i), (5, .int 0)]) [1, 2, 3, 4, 5, 0] (i := 17) rfl (Nat.le_of_ble_eq_true rfl) rfl (?_ : ky_V _ _ _ 2025 _ _ _ _)
      refine v_aload_n (i := 18) (j := 2) rfl rfl (?_ : ky_V _ _ _ 2026 _ _ _ _)
      refine v_aload_n (i := 19) (j := 0) rfl rfl (?_ : ky_V _ _ _ 2027 _ _ _ _)
      refine v_iload (i := 20) (j := 4) rfl rfl (?_ : ky_V _ _ _ 2029 _ _ _ _)
      refine v_iconst (v := 1) (i := 21) rfl (by decide) (?_ : ky_V _ _ _ 2030 _ _ _ _)
      refine v_iadd (i := 22) rfl (?_ : ky_V _ _ _ 2031 _ _ _ _)
      refine v_sld hX hb b1 (i := 23) rfl (?_ : ky_V _ _ _ 2032 _ (.int (xs (Int32.toNatClampNeg (i + 1))) :: _) _ _)
      refine v_aload_n (i := 24) (j := 0) rfl rfl (?_ : ky_V _ _ _ 2033 _ _ _ _)
      refine v_iload (i := 25) (j := 4) rfl rfl (?_ : ky_V _ _ _ 2035 _ _ _ _)
      refine v_iconst (v := 2) (i := 26) rfl (by decide) (?_ : ky_V _ _ _ 2036 _ _ _ _)
      refine v_iadd (i := 27) rfl (?_ : ky_V _ _ _ 2037 _ _ _ _)
      refine v_sld hX hb b2 (i := 28) rfl (?_ : ky_V _ _ _ 2038 _ (.int (xs (Int32.toNatClampNeg (i + 2))) :: _) _ _)
      refine v_if_eq (tgt := 2045) (i := 29) rfl (by decide) (fun c => absurd c c1) (fun _ => ?_)
      refine (?_ : ky_V _ _ _ 2041 _ _ _ _)
      refine v_iconst (v := 1) (i := 30) rfl (by decide) (?_ : ky_V _ _ _ 2042 _ _ _ _)
      refine v_goto (tgt := 2046) (i := 31) rfl (by decide) (?_ : ky_V _ _ _ 2046 _ _ _ _)
      refine cl_L_246 (As := [.int ((xs (Int32.toNatClampNeg (i + 1)))), .int 1]) rfl (i := 33) rfl (md_0 I1.2.1) rfl rfl (Nat.le_of_ble_eq_true rfl) (k_X12_trial N I1.2.1 e2 (fun h2 hm2 fr2 => ⟨_, rfl, (?_ : ky_V _ _ _ 2049 _ [.int r] _ _)⟩))
      have I2 := I1.mdl hm2 fr2
      refine v_istore (L' := [(0, .ref b), (1, .ref ((ky_B G))), (2, .ref ((ky_B G + 24))), (3, .ref ((ky_B G + 37))), (4, .int i), (5, .int 0), (6, .int r)]) [1, 2, 3, 4, 5, 6, 0] (i := 34) rfl (Nat.le_of_ble_eq_true rfl) rfl (?_ : ky_V _ _ _ 2051 _ _ _ _)
      refine v_aload_n (i := 35) (j := 2) rfl rfl (?_ : ky_V _ _ _ 2052 _ _ _ _)
      refine cl_L_129 (As := []) rfl (i := 36) rfl (md_0 I2.2.1) rfl rfl (Nat.le_of_ble_eq_true rfl) (k_X12_thrown I2.2.1 ⟨_, rfl, (?_ : ky_V _ _ _ 2055 _ [.int ((md_thrown_r c9))] _ _)⟩)
      refine v_iload (i := 37) (j := 5) rfl rfl (?_ : ky_V _ _ _ 2057 _ _ _ _)
      refine v_icmp_eq (tgt := 2062) (i := 38) rfl (by decide) (fun _ => ?_) (fun c => absurd ht c)
      refine (?_ : ky_V _ _ _ 2062 _ _ _ _)
      refine v_iload (i := 41) (j := 5) rfl rfl (?_ : ky_V _ _ _ 2064 _ _ _ _)
      refine v_if_ne (tgt := 2079) (i := 42) rfl (by decide) (fun c => absurd c (by decide)) (fun _ => ?_)
      refine (?_ : ky_V _ _ _ 2067 _ _ _ _)
      refine v_aload_n (i := 43) (j := 3) rfl rfl (?_ : ky_V _ _ _ 2068 _ _ _ _)
      refine v_iconst (v := 0) (i := 44) rfl (by decide) (?_ : ky_V _ _ _ 2069 _ _ _ _)
      refine v_lald (i := 45) rfl I2.2.2.1 (ky_inl (by decide)) (?_ : ky_V _ _ _ 2070 _ (.long (f1 0) :: _) _ _)
      refine v_iload (i := 46) (j := 6) rfl rfl (?_ : ky_V _ _ _ 2072 _ _ _ _)
      refine v_i2l (i := 47) rfl rfl (?_ : ky_V _ _ _ 2073 _ _ _ _)
      refine v_lcmp (i := 48) rfl (?_ : ky_V _ _ _ 2074 _ _ _ _)
      refine v_if_eq (tgt := 2079) (i := 49) rfl (by decide) (fun _ => ?_) (fun c => absurd (by rw [hf]; exact lg_self _) c)
      refine (?_ : ky_V _ _ _ 2079 _ _ _ _)
      refine v_goto (tgt := 2405) (i := 52) rfl (by decide) (?_ : ky_V _ _ _ 2405 _ _ _ _)
      refine ky_loc (L' := [(0, .ref b), (1, .ref ((ky_B G))), (2, .ref ((ky_B G + 24))), (3, .ref ((ky_B G + 37))), (4, .int i)]) (by simp) ?_
      refine ky_sub (M := M_lc_trial) (M' := M_law) rfl rfl rfl rfl rfl ok_law ?_
      exact K _ _ I2
  · refine v_aload_n (i := 0) (j := 1) rfl rfl (?_ : ky_V _ _ _ 1999 _ _ _ _)
    refine v_aload_n (i := 1) (j := 0) rfl rfl (?_ : ky_V _ _ _ 2000 _ _ _ _)
    refine v_iload (i := 2) (j := 4) rfl rfl (?_ : ky_V _ _ _ 2002 _ _ _ _)
    refine v_iconst (v := 1) (i := 3) rfl (by decide) (?_ : ky_V _ _ _ 2003 _ _ _ _)
    refine v_iadd (i := 4) rfl (?_ : ky_V _ _ _ 2004 _ _ _ _)
    refine v_sld hX hb b1 (i := 5) rfl (?_ : ky_V _ _ _ 2005 _ (.int (xs (Int32.toNatClampNeg (i + 1))) :: _) _ _)
    refine v_aload_n (i := 6) (j := 0) rfl rfl (?_ : ky_V _ _ _ 2006 _ _ _ _)
    refine v_iload (i := 7) (j := 4) rfl rfl (?_ : ky_V _ _ _ 2008 _ _ _ _)
    refine v_iconst (v := 2) (i := 8) rfl (by decide) (?_ : ky_V _ _ _ 2009 _ _ _ _)
    refine v_iadd (i := 9) rfl (?_ : ky_V _ _ _ 2010 _ _ _ _)
    refine v_sld hX hb b2 (i := 10) rfl (?_ : ky_V _ _ _ 2011 _ (.int (xs (Int32.toNatClampNeg (i + 2))) :: _) _ _)
    refine v_if_eq (tgt := 2018) (i := 11) rfl (by decide) (fun c1 => ?_) (fun c1 => ?_)
    · rw [if_pos c1] at e1 e2
      refine v_iconst (v := 0) (i := 14) rfl (by decide) (?_ : ky_V _ _ _ 2019 _ _ _ _)
      refine v_aload_n (i := 15) (j := 3) rfl rfl (?_ : ky_V _ _ _ 2020 _ _ _ _)
      refine v_callSH (As := [.ref ((ky_B G)), .int ((xs (Int32.toNatClampNeg (i + 1)))), .int 0, .ref ((ky_B G + 37))]) ch_L_trial (ky_t6 (i := 204) rfl rfl) (ky_t6 (i := 203) rfl rfl) (i := 16) rfl rfl rfl (Nat.le_of_ble_eq_true rfl) (k_L_trial N hG I hx e1 (Or.inr rfl) (fun v h1 f1 z I1 hf => by cases z) (fun h1 z I1 => ⟨_, rfl, (?_ : ky_V _ _ _ 2023 _ [.int 1] _ _)⟩))
      refine v_istore (L' := [(0, .ref b), (1, .ref ((ky_B G))), (2, .ref ((ky_B G + 24))), (3, .ref ((ky_B G + 37))), (4, .int i), (5, .int 1)]) [1, 2, 3, 4, 5, 0] (i := 17) rfl (Nat.le_of_ble_eq_true rfl) rfl (?_ : ky_V _ _ _ 2025 _ _ _ _)
      refine v_aload_n (i := 18) (j := 2) rfl rfl (?_ : ky_V _ _ _ 2026 _ _ _ _)
      refine v_aload_n (i := 19) (j := 0) rfl rfl (?_ : ky_V _ _ _ 2027 _ _ _ _)
      refine v_iload (i := 20) (j := 4) rfl rfl (?_ : ky_V _ _ _ 2029 _ _ _ _)
      refine v_iconst (v := 1) (i := 21) rfl (by decide) (?_ : ky_V _ _ _ 2030 _ _ _ _)
      refine v_iadd (i := 22) rfl (?_ : ky_V _ _ _ 2031 _ _ _ _)
      refine v_sld hX hb b1 (i := 23) rfl (?_ : ky_V _ _ _ 2032 _ (.int (xs (Int32.toNatClampNeg (i + 1))) :: _) _ _)
      refine v_aload_n (i := 24) (j := 0) rfl rfl (?_ : ky_V _ _ _ 2033 _ _ _ _)
      refine v_iload (i := 25) (j := 4) rfl rfl (?_ : ky_V _ _ _ 2035 _ _ _ _)
      refine v_iconst (v := 2) (i := 26) rfl (by decide) (?_ : ky_V _ _ _ 2036 _ _ _ _)
      refine v_iadd (i := 27) rfl (?_ : ky_V _ _ _ 2037 _ _ _ _)
      refine v_sld hX hb b2 (i := 28) rfl (?_ : ky_V _ _ _ 2038 _ (.int (xs (Int32.toNatClampNeg (i + 2))) :: _) _ _)
      refine v_if_eq (tgt := 2045) (i := 29) rfl (by decide) (fun _ => ?_) (fun c => absurd c1 c)
      refine (?_ : ky_V _ _ _ 2045 _ _ _ _)
      refine v_iconst (v := 0) (i := 32) rfl (by decide) (?_ : ky_V _ _ _ 2046 _ _ _ _)
      refine cl_L_246 (As := [.int ((xs (Int32.toNatClampNeg (i + 1)))), .int 0]) rfl (i := 33) rfl (md_0 I1.2.1) rfl rfl (Nat.le_of_ble_eq_true rfl) (k_X12_trial N I1.2.1 e2 (fun h2 hm2 fr2 => ⟨_, rfl, (?_ : ky_V _ _ _ 2049 _ [.int r] _ _)⟩))
      have I2 := I1.mdl hm2 fr2
      refine v_istore (L' := [(0, .ref b), (1, .ref ((ky_B G))), (2, .ref ((ky_B G + 24))), (3, .ref ((ky_B G + 37))), (4, .int i), (5, .int 1), (6, .int r)]) [1, 2, 3, 4, 5, 6, 0] (i := 34) rfl (Nat.le_of_ble_eq_true rfl) rfl (?_ : ky_V _ _ _ 2051 _ _ _ _)
      refine v_aload_n (i := 35) (j := 2) rfl rfl (?_ : ky_V _ _ _ 2052 _ _ _ _)
      refine cl_L_129 (As := []) rfl (i := 36) rfl (md_0 I2.2.1) rfl rfl (Nat.le_of_ble_eq_true rfl) (k_X12_thrown I2.2.1 ⟨_, rfl, (?_ : ky_V _ _ _ 2055 _ [.int ((md_thrown_r c9))] _ _)⟩)
      refine v_iload (i := 37) (j := 5) rfl rfl (?_ : ky_V _ _ _ 2057 _ _ _ _)
      refine v_icmp_eq (tgt := 2062) (i := 38) rfl (by decide) (fun _ => ?_) (fun c => absurd ht c)
      refine (?_ : ky_V _ _ _ 2062 _ _ _ _)
      refine v_iload (i := 41) (j := 5) rfl rfl (?_ : ky_V _ _ _ 2064 _ _ _ _)
      refine v_if_ne (tgt := 2079) (i := 42) rfl (by decide) (fun _ => ?_) (fun c => absurd c (by decide))
      refine (?_ : ky_V _ _ _ 2079 _ _ _ _)
      refine v_goto (tgt := 2405) (i := 52) rfl (by decide) (?_ : ky_V _ _ _ 2405 _ _ _ _)
      refine ky_loc (L' := [(0, .ref b), (1, .ref ((ky_B G))), (2, .ref ((ky_B G + 24))), (3, .ref ((ky_B G + 37))), (4, .int i)]) (by simp) ?_
      refine ky_sub (M := M_lc_trial) (M' := M_law) rfl rfl rfl rfl rfl ok_law ?_
      exact K _ _ I2
    · rw [if_neg c1] at e1 e2
      refine v_iconst (v := 1) (i := 12) rfl (by decide) (?_ : ky_V _ _ _ 2015 _ _ _ _)
      refine v_goto (tgt := 2019) (i := 13) rfl (by decide) (?_ : ky_V _ _ _ 2019 _ _ _ _)
      refine v_aload_n (i := 15) (j := 3) rfl rfl (?_ : ky_V _ _ _ 2020 _ _ _ _)
      refine v_callSH (As := [.ref ((ky_B G)), .int ((xs (Int32.toNatClampNeg (i + 1)))), .int 1, .ref ((ky_B G + 37))]) ch_L_trial (ky_t6 (i := 204) rfl rfl) (ky_t6 (i := 203) rfl rfl) (i := 16) rfl rfl rfl (Nat.le_of_ble_eq_true rfl) (k_L_trial N hG I hx e1 (Or.inr rfl) (fun v h1 f1 z I1 hf => by cases z) (fun h1 z I1 => ⟨_, rfl, (?_ : ky_V _ _ _ 2023 _ [.int 1] _ _)⟩))
      refine v_istore (L' := [(0, .ref b), (1, .ref ((ky_B G))), (2, .ref ((ky_B G + 24))), (3, .ref ((ky_B G + 37))), (4, .int i), (5, .int 1)]) [1, 2, 3, 4, 5, 0] (i := 17) rfl (Nat.le_of_ble_eq_true rfl) rfl (?_ : ky_V _ _ _ 2025 _ _ _ _)
      refine v_aload_n (i := 18) (j := 2) rfl rfl (?_ : ky_V _ _ _ 2026 _ _ _ _)
      refine v_aload_n (i := 19) (j := 0) rfl rfl (?_ : ky_V _ _ _ 2027 _ _ _ _)
      refine v_iload (i := 20) (j := 4) rfl rfl (?_ : ky_V _ _ _ 2029 _ _ _ _)
      refine v_iconst (v := 1) (i := 21) rfl (by decide) (?_ : ky_V _ _ _ 2030 _ _ _ _)
      refine v_iadd (i := 22) rfl (?_ : ky_V _ _ _ 2031 _ _ _ _)
      refine v_sld hX hb b1 (i := 23) rfl (?_ : ky_V _ _ _ 2032 _ (.int (xs (Int32.toNatClampNeg (i + 1))) :: _) _ _)
      refine v_aload_n (i := 24) (j := 0) rfl rfl (?_ : ky_V _ _ _ 2033 _ _ _ _)
      refine v_iload (i := 25) (j := 4) rfl rfl (?_ : ky_V _ _ _ 2035 _ _ _ _)
      refine v_iconst (v := 2) (i := 26) rfl (by decide) (?_ : ky_V _ _ _ 2036 _ _ _ _)
      refine v_iadd (i := 27) rfl (?_ : ky_V _ _ _ 2037 _ _ _ _)
      refine v_sld hX hb b2 (i := 28) rfl (?_ : ky_V _ _ _ 2038 _ (.int (xs (Int32.toNatClampNeg (i + 2))) :: _) _ _)
      refine v_if_eq (tgt := 2045) (i := 29) rfl (by decide) (fun c => absurd c c1) (fun _ => ?_)
      refine (?_ : ky_V _ _ _ 2041 _ _ _ _)
      refine v_iconst (v := 1) (i := 30) rfl (by decide) (?_ : ky_V _ _ _ 2042 _ _ _ _)
      refine v_goto (tgt := 2046) (i := 31) rfl (by decide) (?_ : ky_V _ _ _ 2046 _ _ _ _)
      refine cl_L_246 (As := [.int ((xs (Int32.toNatClampNeg (i + 1)))), .int 1]) rfl (i := 33) rfl (md_0 I1.2.1) rfl rfl (Nat.le_of_ble_eq_true rfl) (k_X12_trial N I1.2.1 e2 (fun h2 hm2 fr2 => ⟨_, rfl, (?_ : ky_V _ _ _ 2049 _ [.int r] _ _)⟩))
      have I2 := I1.mdl hm2 fr2
      refine v_istore (L' := [(0, .ref b), (1, .ref ((ky_B G))), (2, .ref ((ky_B G + 24))), (3, .ref ((ky_B G + 37))), (4, .int i), (5, .int 1), (6, .int r)]) [1, 2, 3, 4, 5, 6, 0] (i := 34) rfl (Nat.le_of_ble_eq_true rfl) rfl (?_ : ky_V _ _ _ 2051 _ _ _ _)
      refine v_aload_n (i := 35) (j := 2) rfl rfl (?_ : ky_V _ _ _ 2052 _ _ _ _)
      refine cl_L_129 (As := []) rfl (i := 36) rfl (md_0 I2.2.1) rfl rfl (Nat.le_of_ble_eq_true rfl) (k_X12_thrown I2.2.1 ⟨_, rfl, (?_ : ky_V _ _ _ 2055 _ [.int ((md_thrown_r c9))] _ _)⟩)
      refine v_iload (i := 37) (j := 5) rfl rfl (?_ : ky_V _ _ _ 2057 _ _ _ _)
      refine v_icmp_eq (tgt := 2062) (i := 38) rfl (by decide) (fun _ => ?_) (fun c => absurd ht c)
      refine (?_ : ky_V _ _ _ 2062 _ _ _ _)
      refine v_iload (i := 41) (j := 5) rfl rfl (?_ : ky_V _ _ _ 2064 _ _ _ _)
      refine v_if_ne (tgt := 2079) (i := 42) rfl (by decide) (fun _ => ?_) (fun c => absurd c (by decide))
      refine (?_ : ky_V _ _ _ 2079 _ _ _ _)
      refine v_goto (tgt := 2405) (i := 52) rfl (by decide) (?_ : ky_V _ _ _ 2405 _ _ _ _)
      refine ky_loc (L' := [(0, .ref b), (1, .ref ((ky_B G))), (2, .ref ((ky_B G + 24))), (3, .ref ((ky_B G + 37))), (4, .int i)]) (by simp) ?_
      refine ky_sub (M := M_lc_trial) (M' := M_law) rfl rfl rfl rfl rfl ok_law ?_
      exact K _ _ I2
