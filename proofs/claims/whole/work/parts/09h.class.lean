def x11_init (N : Nat)  (s : sk_S) (a : Nat) : Option (sk_S × Int32) := (if sk_K s a = (11, 0) then (ky_let (sk_n s) (fun a1 => (ky_let (sk_nw s 9 0 5) (fun q3 => ((x9_init N q3 a1).bind (fun zz => (fun q5 x6 => (ky_let (sk_wr q5 a 0 (some a1)) (fun q9 => (ky_let (sk_n q9) (fun a10 => (ky_let (sk_nw q9 1 0 5) (fun q12 => ((x0_init N q12 a10).bind (fun zz => (fun q14 x15 => (ky_let (sk_wr q14 a 1 (some a10)) (fun q18 => (ky_let (sk_n q18) (fun a19 => (ky_let (sk_nw q18 5 0 7) (fun q21 => ((x4_init N q21 a19).bind (fun zz => (fun q23 x24 => (ky_let (sk_wr q23 a 2 (some a19)) (fun q27 => (ky_let (sk_n q27) (fun a28 => (ky_let (sk_nw q27 7 0 5) (fun q30 => ((x7_init N q30 a28).bind (fun zz => (fun q32 x33 => (ky_let (sk_wr q32 a 3 (some a28)) (fun q36 => (ky_let (sk_n q36) (fun a37 => (ky_let (sk_nw q36 23 12 12) (fun q39 => (ky_let (sk_wr q39 a 4 (some a37)) (fun q41 => (ky_let (sk_n q41) (fun a42 => (ky_let (sk_nw q41 2 0 8) (fun q44 => ((x1_init N q44 a42).bind (fun zz => (fun q46 x47 => (ky_let (sk_wr q46 a 5 (some a42)) (fun q50 => (ky_let (sk_wc q50 a 10 (-1)) (fun q52 => (some (q52, 0))))))) zz.1 zz.2))))))))))))))) zz.1 zz.2))))))))) zz.1 zz.2))))))))) zz.1 zz.2))))))))) zz.1 zz.2)))))) else none)
set_option maxRecDepth 20000 in
set_option maxHeartbeats 4000000 in
theorem k_X11_init {G : ky_GW} {d : Nat} {h : ky_HP} {Q : ky_RS → ky_HP → Prop} {s s9 : sk_S} {r9 : Int32} {a : Nat} (N : Nat) (hG : ky_OK G)   (hm : sk_hp G s h)  (e : x11_init N  s a = some (s9, r9)) (hr : ∀ h1, sk_hp G s9 h1 → sk_fr (some a) s h s9 h1 → Q (.inl none) h1) : ky_Call G (d + 3) M_X11_init [.ref a] h Q := by
  refine ky_ofV (by decide +kernel) rfl ok_X11_init (Nat.le_of_ble_eq_true rfl) ?_
  have fr : sk_fr (some a) s h s h := sk_fr.rf
  unfold x11_init at e
  refine (?_ : ky_V _ _ _ 0 [(0, .ref a)] [] _ _)
  obtain ⟨z0, e⟩ := ky_chkE e
  refine v_aload_n (i := 0) (j := 0) rfl rfl (?_ : ky_V _ _ _ 1 _ _ _ _)
  refine v_objInit (by rw [show M_X11_init.1.cls = "WaistSand" from rfl]; exact ky_t1 (i := 35) rfl rfl) (ky_t1 (i := 36) rfl rfl) (ky_t1 (i := 37) rfl rfl) (i := 1) rfl (Nat.le_of_ble_eq_true rfl) (?_ : ky_V _ _ _ 4 _ _ _ _)
  refine v_aload_n (i := 2) (j := 0) rfl rfl (?_ : ky_V _ _ _ 5 _ _ _ _)
  refine nw_X9 (by rw [show M_X11_init.1.cls = "WaistSand" from rfl]; exact ky_t1 (i := 38) rfl rfl) (i := 3) rfl ?_
  refine sk_snw hm fr 9 0 rfl (fun a1 h2 ea1 hmh2 frh2 => ?_)
  replace e := ky_letE ea1 e
  have hya1 : sk_n s ≤ a1 := by rw [ea1]; exact fr.2.2
  obtain ⟨q3, eq3⟩ : ∃ z, z = (sk_nw s 9 0 5) := ⟨_, rfl⟩
  rw [← eq3] at hmh2 frh2
  replace e := ky_letE eq3 e
  refine (?_ : ky_V _ _ _ 8 _ (.ref a1 :: _) _ _)
  refine v_dup (i := 4) rfl rfl (?_ : ky_V _ _ _ 9 _ _ _ _)
  obtain ⟨⟨q5, x6⟩, g7, e⟩ := Option.bind_eq_some_iff.mp e
  refine cl_X11_9 (As := []) rfl (i := 5) rfl rfl rfl (Nat.le_of_ble_eq_true rfl) (k_X9_init N hG hmh2 g7 (fun h4 hmh4 frh4 => ⟨_, rfl, (?_ : ky_V _ _ _ 12 _ [.ref a1, .ref a] _ _)⟩))
  have frh4 := frh2.ti frh4 hm hya1
  refine pf_X11_10 rfl rfl (i := 6) rfl (oc_X11 hmh4 (frh4.K (k := 10) z0)) (Nat.le_of_ble_eq_true rfl) rfl rfl ?_
  refine sk_str (kd := 10) (n := 0) hmh4 frh4 (frh4.K (k := 10) z0) 0 (some a1) (Or.inr rfl) (fun h8 hmh8 frh8 => ?_)
  obtain ⟨q9, eq9⟩ : ∃ z, z = (sk_wr q5 a 0 (some a1)) := ⟨_, rfl⟩
  rw [← eq9] at hmh8 frh8
  replace e := ky_letE eq9 e
  refine (?_ : ky_V _ _ _ 15 _ _ _ _)
  refine v_aload_n (i := 7) (j := 0) rfl rfl (?_ : ky_V _ _ _ 16 _ _ _ _)
  refine nw_X0 (by rw [show M_X11_init.1.cls = "WaistSand" from rfl]; exact ky_t1 (i := 65) rfl rfl) (i := 8) rfl ?_
  refine sk_snw hmh8 frh8 1 0 rfl (fun a10 h11 ea10 hmh11 frh11 => ?_)
  replace e := ky_letE ea10 e
  have hya10 : sk_n s ≤ a10 := by rw [ea10]; exact frh8.2.2
  obtain ⟨q12, eq12⟩ : ∃ z, z = (sk_nw q9 1 0 5) := ⟨_, rfl⟩
  rw [← eq12] at hmh11 frh11
  replace e := ky_letE eq12 e
  refine (?_ : ky_V _ _ _ 19 _ (.ref a10 :: _) _ _)
  refine v_dup (i := 9) rfl rfl (?_ : ky_V _ _ _ 20 _ _ _ _)
  obtain ⟨⟨q14, x15⟩, g16, e⟩ := Option.bind_eq_some_iff.mp e
  refine cl_X11_18 (As := []) rfl (i := 10) rfl rfl rfl (Nat.le_of_ble_eq_true rfl) (k_X0_init N hG hmh11 g16 (fun h13 hmh13 frh13 => ⟨_, rfl, (?_ : ky_V _ _ _ 23 _ [.ref a10, .ref a] _ _)⟩))
  have frh13 := frh11.ti frh13 hm hya10
  refine pf_X11_19 rfl rfl (i := 11) rfl (oc_X11 hmh13 (frh13.K (k := 10) z0)) (Nat.le_of_ble_eq_true rfl) rfl rfl ?_
  refine sk_str (kd := 10) (n := 0) hmh13 frh13 (frh13.K (k := 10) z0) 1 (some a10) (Or.inr rfl) (fun h17 hmh17 frh17 => ?_)
  obtain ⟨q18, eq18⟩ : ∃ z, z = (sk_wr q14 a 1 (some a10)) := ⟨_, rfl⟩
  rw [← eq18] at hmh17 frh17
  replace e := ky_letE eq18 e
  refine (?_ : ky_V _ _ _ 26 _ _ _ _)
  refine v_aload_n (i := 12) (j := 0) rfl rfl (?_ : ky_V _ _ _ 27 _ _ _ _)
  refine nw_X4 (by rw [show M_X11_init.1.cls = "WaistSand" from rfl]; exact ky_t1 (i := 88) rfl rfl) (i := 13) rfl ?_
  refine sk_snw hmh17 frh17 5 0 rfl (fun a19 h20 ea19 hmh20 frh20 => ?_)
  replace e := ky_letE ea19 e
  have hya19 : sk_n s ≤ a19 := by rw [ea19]; exact frh17.2.2
  obtain ⟨q21, eq21⟩ : ∃ z, z = (sk_nw q18 5 0 7) := ⟨_, rfl⟩
  rw [← eq21] at hmh20 frh20
  replace e := ky_letE eq21 e
  refine (?_ : ky_V _ _ _ 30 _ (.ref a19 :: _) _ _)
  refine v_dup (i := 14) rfl rfl (?_ : ky_V _ _ _ 31 _ _ _ _)
  obtain ⟨⟨q23, x24⟩, g25, e⟩ := Option.bind_eq_some_iff.mp e
  refine cl_X11_25 (As := []) rfl (i := 15) rfl rfl rfl (Nat.le_of_ble_eq_true rfl) (k_X4_init N hG hmh20 g25 (fun h22 hmh22 frh22 => ⟨_, rfl, (?_ : ky_V _ _ _ 34 _ [.ref a19, .ref a] _ _)⟩))
  have frh22 := frh20.ti frh22 hm hya19
  refine pf_X11_26 rfl rfl (i := 16) rfl (oc_X11 hmh22 (frh22.K (k := 10) z0)) (Nat.le_of_ble_eq_true rfl) rfl rfl ?_
  refine sk_str (kd := 10) (n := 0) hmh22 frh22 (frh22.K (k := 10) z0) 2 (some a19) (Or.inr rfl) (fun h26 hmh26 frh26 => ?_)
  obtain ⟨q27, eq27⟩ : ∃ z, z = (sk_wr q23 a 2 (some a19)) := ⟨_, rfl⟩
  rw [← eq27] at hmh26 frh26
  replace e := ky_letE eq27 e
  refine (?_ : ky_V _ _ _ 37 _ _ _ _)
  refine v_aload_n (i := 17) (j := 0) rfl rfl (?_ : ky_V _ _ _ 38 _ _ _ _)
  refine nw_X7 (by rw [show M_X11_init.1.cls = "WaistSand" from rfl]; exact ky_t1 (i := 116) rfl rfl) (i := 18) rfl ?_
  refine sk_snw hmh26 frh26 7 0 rfl (fun a28 h29 ea28 hmh29 frh29 => ?_)
  replace e := ky_letE ea28 e
  have hya28 : sk_n s ≤ a28 := by rw [ea28]; exact frh26.2.2
  obtain ⟨q30, eq30⟩ : ∃ z, z = (sk_nw q27 7 0 5) := ⟨_, rfl⟩
  rw [← eq30] at hmh29 frh29
  replace e := ky_letE eq30 e
  refine (?_ : ky_V _ _ _ 41 _ (.ref a28 :: _) _ _)
  refine v_dup (i := 19) rfl rfl (?_ : ky_V _ _ _ 42 _ _ _ _)
  obtain ⟨⟨q32, x33⟩, g34, e⟩ := Option.bind_eq_some_iff.mp e
  refine cl_X11_32 (As := []) rfl (i := 20) rfl rfl rfl (Nat.le_of_ble_eq_true rfl) (k_X7_init N hG hmh29 g34 (fun h31 hmh31 frh31 => ⟨_, rfl, (?_ : ky_V _ _ _ 45 _ [.ref a28, .ref a] _ _)⟩))
  have frh31 := frh29.ti frh31 hm hya28
  refine pf_X11_33 rfl rfl (i := 21) rfl (oc_X11 hmh31 (frh31.K (k := 10) z0)) (Nat.le_of_ble_eq_true rfl) rfl rfl ?_
  refine sk_str (kd := 10) (n := 0) hmh31 frh31 (frh31.K (k := 10) z0) 3 (some a28) (Or.inr rfl) (fun h35 hmh35 frh35 => ?_)
  obtain ⟨q36, eq36⟩ : ∃ z, z = (sk_wr q32 a 3 (some a28)) := ⟨_, rfl⟩
  rw [← eq36] at hmh35 frh35
  replace e := ky_letE eq36 e
  refine (?_ : ky_V _ _ _ 48 _ _ _ _)
  refine v_aload_n (i := 22) (j := 0) rfl rfl (?_ : ky_V _ _ _ 49 _ _ _ _)
  refine v_bipush (v := 12) (i := 23) rfl (by decide) (?_ : ky_V _ _ _ 51 _ _ _ _)
  refine v_newA2 (N := 12) (by rw [show M_X11_init.1.cls = "WaistSand" from rfl]; exact ky_t1 (i := 116) rfl rfl) (ky_m2 (i := 31) rfl) (i := 24) rfl (by decide) rfl (by decide) ?_
  refine sk_snw hmh35 frh35 23 12 rfl (fun a37 h38 ea37 hmh38 frh38 => ?_)
  replace e := ky_letE ea37 e
  obtain ⟨q39, eq39⟩ : ∃ z, z = (sk_nw q36 23 12 12) := ⟨_, rfl⟩
  rw [← eq39] at hmh38 frh38
  replace e := ky_letE eq39 e
  refine (?_ : ky_V _ _ _ 54 _ (.ref a37 :: _) _ _)
  refine pf_X11_37 rfl rfl (i := 25) rfl (oc_X11 hmh38 (frh38.K (k := 10) z0)) (Nat.le_of_ble_eq_true rfl) rfl rfl ?_
  refine sk_str (kd := 10) (n := 0) hmh38 frh38 (frh38.K (k := 10) z0) 4 (some a37) (Or.inr rfl) (fun h40 hmh40 frh40 => ?_)
  obtain ⟨q41, eq41⟩ : ∃ z, z = (sk_wr q39 a 4 (some a37)) := ⟨_, rfl⟩
  rw [← eq41] at hmh40 frh40
  replace e := ky_letE eq41 e
  refine (?_ : ky_V _ _ _ 57 _ _ _ _)
  refine v_aload_n (i := 26) (j := 0) rfl rfl (?_ : ky_V _ _ _ 58 _ _ _ _)
  refine nw_X1 (by rw [show M_X11_init.1.cls = "WaistSand" from rfl]; exact ky_t2 (i := 32) rfl rfl) (i := 27) rfl ?_
  refine sk_snw hmh40 frh40 2 0 rfl (fun a42 h43 ea42 hmh43 frh43 => ?_)
  replace e := ky_letE ea42 e
  have hya42 : sk_n s ≤ a42 := by rw [ea42]; exact frh40.2.2
  obtain ⟨q44, eq44⟩ : ∃ z, z = (sk_nw q41 2 0 8) := ⟨_, rfl⟩
  rw [← eq44] at hmh43 frh43
  replace e := ky_letE eq44 e
  refine (?_ : ky_V _ _ _ 61 _ (.ref a42 :: _) _ _)
  refine v_dup (i := 28) rfl rfl (?_ : ky_V _ _ _ 62 _ _ _ _)
  obtain ⟨⟨q46, x47⟩, g48, e⟩ := Option.bind_eq_some_iff.mp e
  refine cl_X11_43 (As := []) rfl (i := 29) rfl rfl rfl (Nat.le_of_ble_eq_true rfl) (k_X1_init N hG hmh43 g48 (fun h45 hmh45 frh45 => ⟨_, rfl, (?_ : ky_V _ _ _ 65 _ [.ref a42, .ref a] _ _)⟩))
  have frh45 := frh43.ti frh45 hm hya42
  refine pf_X11_44 rfl rfl (i := 30) rfl (oc_X11 hmh45 (frh45.K (k := 10) z0)) (Nat.le_of_ble_eq_true rfl) rfl rfl ?_
  refine sk_str (kd := 10) (n := 0) hmh45 frh45 (frh45.K (k := 10) z0) 5 (some a42) (Or.inr rfl) (fun h49 hmh49 frh49 => ?_)
  obtain ⟨q50, eq50⟩ : ∃ z, z = (sk_wr q46 a 5 (some a42)) := ⟨_, rfl⟩
  rw [← eq50] at hmh49 frh49
  replace e := ky_letE eq50 e
  refine (?_ : ky_V _ _ _ 68 _ _ _ _)
  refine v_aload_n (i := 31) (j := 0) rfl rfl (?_ : ky_V _ _ _ 69 _ _ _ _)
  refine v_iconst (v := (-1)) (i := 32) rfl (by decide) (?_ : ky_V _ _ _ 70 _ _ _ _)
  refine pf_X11_48 rfl (i := 33) rfl (oc_X11 hmh49 (frh49.K (k := 10) z0)) (Nat.le_of_ble_eq_true rfl) rfl rfl ?_
  refine sk_stc (kd := 10) (n := 0) hmh49 frh49 (frh49.K (k := 10) z0) 10 (-1) (fun h51 hmh51 frh51 => ?_)
  obtain ⟨q52, eq52⟩ : ∃ z, z = (sk_wc q50 a 10 (-1)) := ⟨_, rfl⟩
  rw [← eq52] at hmh51 frh51
  replace e := ky_letE eq52 e
  refine (?_ : ky_V _ _ _ 73 _ _ _ _)
  refine v_vret (i := 34) rfl rfl ?_
  obtain ⟨rfl, rfl⟩ := ky_leaf e
  exact hr _ hmh51 frh51

def x11_feed (N : Nat)  (s : sk_S) (a : Nat) (p1 : Int32) (p2 : Int32) (p3 : Int32) (p4 : Int32) (p5 : Int32) : Option (sk_S × Int32) := (if lay_X11 (sk_K s) (sk_r s) a = true then ((x9_hasRoom N s (a + 1)).bind (fun zz => (fun q2 x3 => (if x3 = 0 then (some (q2, (-1))) else ((x9_add N q2 (a + 1) p1).bind (fun zz => (fun q7 x8 => ((x9_add N q7 (a + 1) p2).bind (fun zz => (fun q11 x12 => ((x9_add N q11 (a + 1) p3).bind (fun zz => (fun q15 x16 => ((x9_add N q15 (a + 1) p4).bind (fun zz => (fun q19 x20 => ((x9_add N q19 (a + 1) p5).bind (fun zz => (fun q23 x24 => (some (q23, (sk_c q23 (a + 1) 1)))) zz.1 zz.2))) zz.1 zz.2))) zz.1 zz.2))) zz.1 zz.2))) zz.1 zz.2)))) zz.1 zz.2)) else none)
set_option maxRecDepth 20000 in
set_option maxHeartbeats 4000000 in
theorem k_X11_feed {G : ky_GW} {d : Nat} {h : ky_HP} {Q : ky_RS → ky_HP → Prop} {s s9 : sk_S} {r9 : Int32} {a : Nat} {p1 : Int32} {p2 : Int32} {p3 : Int32} {p4 : Int32} {p5 : Int32} (N : Nat) (hG : ky_OK G)   (hm : sk_hp G s h)  (e : x11_feed N  s a p1 p2 p3 p4 p5 = some (s9, r9)) (hr : ∀ h1, sk_hp G s9 h1 → sk_fr none s h s9 h1 → Q (.inl (some (.int r9))) h1) : ky_Call G (d + 1) M_X11_feed [.ref a, .int p1, .int p2, .int p3, .int p4, .int p5] h Q := by
  refine ky_ofV (by decide +kernel) rfl ok_X11_feed (Nat.le_of_ble_eq_true rfl) ?_
  have fr : sk_fr none s h s h := sk_fr.rf
  unfold x11_feed at e
  refine (?_ : ky_V _ _ _ 0 [(0, .ref a), (1, .int p1), (2, .int p2), (3, .int p3), (4, .int p4), (5, .int p5)] [] _ _)
  obtain ⟨za, e⟩ := ky_chkE e
  refine v_aload_n (i := 0) (j := 0) rfl rfl (?_ : ky_V _ _ _ 1 _ _ _ _)
  refine gf_X11_10 rfl (i := 1) rfl (oc_X11 hm (ly_X11_c za)) (sk_rf (ly_X11_r0 za)) (?_ : ky_V _ _ _ 4 _ (.ref (a + 1) :: _) _ _)
  obtain ⟨⟨q2, x3⟩, g4, e⟩ := Option.bind_eq_some_iff.mp e
  refine cl_X11_52 (As := []) rfl (i := 2) rfl (oc_X9 hm (ly_X9_c (ly_X11_l0 za))) rfl rfl (Nat.le_of_ble_eq_true rfl) (k_X9_hasRoom N hG hm g4 (fun h1 hmh1 frh1 => ⟨_, rfl, (?_ : ky_V _ _ _ 7 _ [.int x3] _ _)⟩))
  have frh1 := fr.tr frh1
  refine v_if_ne (tgt := 12) (i := 3) rfl (by decide) (fun c5 => ?_) (fun c5 => ?_)
  · replace e := ky_ifF c5 e
    refine v_aload_n (i := 6) (j := 0) rfl rfl (?_ : ky_V _ _ _ 13 _ _ _ _)
    refine gf_X11_10 rfl (i := 7) rfl (oc_X11 hmh1 (ly_X11_c (lt_X11 frh1 za))) (sk_rf (ly_X11_r0 (lt_X11 frh1 za))) (?_ : ky_V _ _ _ 16 _ (.ref (a + 1) :: _) _ _)
    refine v_iload_n (i := 8) (j := 1) rfl rfl (?_ : ky_V _ _ _ 17 _ _ _ _)
    obtain ⟨⟨q7, x8⟩, g9, e⟩ := Option.bind_eq_some_iff.mp e
    refine cl_X11_56 (As := [.int p1]) rfl (i := 9) rfl (oc_X9 hmh1 (ly_X9_c (ly_X11_l0 (lt_X11 frh1 za)))) rfl rfl (Nat.le_of_ble_eq_true rfl) (k_X9_add N hG hmh1 g9 (fun h6 hmh6 frh6 => ⟨_, rfl, (?_ : ky_V _ _ _ 20 _ [] _ _)⟩))
    have frh6 := frh1.tr frh6
    refine v_aload_n (i := 10) (j := 0) rfl rfl (?_ : ky_V _ _ _ 21 _ _ _ _)
    refine gf_X11_10 rfl (i := 11) rfl (oc_X11 hmh6 (ly_X11_c (lt_X11 frh6 za))) (sk_rf (ly_X11_r0 (lt_X11 frh6 za))) (?_ : ky_V _ _ _ 24 _ (.ref (a + 1) :: _) _ _)
    refine v_iload_n (i := 12) (j := 2) rfl rfl (?_ : ky_V _ _ _ 25 _ _ _ _)
    obtain ⟨⟨q11, x12⟩, g13, e⟩ := Option.bind_eq_some_iff.mp e
    refine cl_X11_56 (As := [.int p2]) rfl (i := 13) rfl (oc_X9 hmh6 (ly_X9_c (ly_X11_l0 (lt_X11 frh6 za)))) rfl rfl (Nat.le_of_ble_eq_true rfl) (k_X9_add N hG hmh6 g13 (fun h10 hmh10 frh10 => ⟨_, rfl, (?_ : ky_V _ _ _ 28 _ [] _ _)⟩))
    have frh10 := frh6.tr frh10
    refine v_aload_n (i := 14) (j := 0) rfl rfl (?_ : ky_V _ _ _ 29 _ _ _ _)
    refine gf_X11_10 rfl (i := 15) rfl (oc_X11 hmh10 (ly_X11_c (lt_X11 frh10 za))) (sk_rf (ly_X11_r0 (lt_X11 frh10 za))) (?_ : ky_V _ _ _ 32 _ (.ref (a + 1) :: _) _ _)
    refine v_iload_n (i := 16) (j := 3) rfl rfl (?_ : ky_V _ _ _ 33 _ _ _ _)
    obtain ⟨⟨q15, x16⟩, g17, e⟩ := Option.bind_eq_some_iff.mp e
    refine cl_X11_56 (As := [.int p3]) rfl (i := 17) rfl (oc_X9 hmh10 (ly_X9_c (ly_X11_l0 (lt_X11 frh10 za)))) rfl rfl (Nat.le_of_ble_eq_true rfl) (k_X9_add N hG hmh10 g17 (fun h14 hmh14 frh14 => ⟨_, rfl, (?_ : ky_V _ _ _ 36 _ [] _ _)⟩))
    have frh14 := frh10.tr frh14
    refine v_aload_n (i := 18) (j := 0) rfl rfl (?_ : ky_V _ _ _ 37 _ _ _ _)
    refine gf_X11_10 rfl (i := 19) rfl (oc_X11 hmh14 (ly_X11_c (lt_X11 frh14 za))) (sk_rf (ly_X11_r0 (lt_X11 frh14 za))) (?_ : ky_V _ _ _ 40 _ (.ref (a + 1) :: _) _ _)
    refine v_iload (i := 20) (j := 4) rfl rfl (?_ : ky_V _ _ _ 42 _ _ _ _)
    obtain ⟨⟨q19, x20⟩, g21, e⟩ := Option.bind_eq_some_iff.mp e
    refine cl_X11_56 (As := [.int p4]) rfl (i := 21) rfl (oc_X9 hmh14 (ly_X9_c (ly_X11_l0 (lt_X11 frh14 za)))) rfl rfl (Nat.le_of_ble_eq_true rfl) (k_X9_add N hG hmh14 g21 (fun h18 hmh18 frh18 => ⟨_, rfl, (?_ : ky_V _ _ _ 45 _ [] _ _)⟩))
    have frh18 := frh14.tr frh18
    refine v_aload_n (i := 22) (j := 0) rfl rfl (?_ : ky_V _ _ _ 46 _ _ _ _)
    refine gf_X11_10 rfl (i := 23) rfl (oc_X11 hmh18 (ly_X11_c (lt_X11 frh18 za))) (sk_rf (ly_X11_r0 (lt_X11 frh18 za))) (?_ : ky_V _ _ _ 49 _ (.ref (a + 1) :: _) _ _)
    refine v_iload (i := 24) (j := 5) rfl rfl (?_ : ky_V _ _ _ 51 _ _ _ _)
    obtain ⟨⟨q23, x24⟩, g25, e⟩ := Option.bind_eq_some_iff.mp e
    refine cl_X11_56 (As := [.int p5]) rfl (i := 25) rfl (oc_X9 hmh18 (ly_X9_c (ly_X11_l0 (lt_X11 frh18 za)))) rfl rfl (Nat.le_of_ble_eq_true rfl) (k_X9_add N hG hmh18 g25 (fun h22 hmh22 frh22 => ⟨_, rfl, (?_ : ky_V _ _ _ 54 _ [] _ _)⟩))
    have frh22 := frh18.tr frh22
    refine v_aload_n (i := 26) (j := 0) rfl rfl (?_ : ky_V _ _ _ 55 _ _ _ _)
    refine gf_X11_10 rfl (i := 27) rfl (oc_X11 hmh22 (ly_X11_c (lt_X11 frh22 za))) (sk_rf (ly_X11_r0 (lt_X11 frh22 za))) (?_ : ky_V _ _ _ 58 _ (.ref (a + 1) :: _) _ _)
    refine gf_X11_60 rfl (i := 28) rfl (oc_X9 hmh22 (ly_X9_c (ly_X11_l0 (lt_X11 frh22 za)))) rfl (?_ : ky_V _ _ _ 61 _ _ _ _)
    refine v_iret (v := (sk_c q23 (a + 1) 1)) (ty := .int) (i := 29) rfl rfl rfl ?_
    obtain ⟨rfl, rfl⟩ := ky_leaf e
    exact hr _ hmh22 frh22
  · replace e := ky_ifT c5 e
    refine v_iconst (v := (-1)) (i := 4) rfl (by decide) (?_ : ky_V _ _ _ 11 _ _ _ _)
    refine v_iret (v := (-1)) (ty := .int) (i := 5) rfl rfl rfl ?_
    obtain ⟨rfl, rfl⟩ := ky_leaf e
    exact hr _ hmh1 frh1

def x11_end (N : Nat)  (s : sk_S) (a : Nat) (p1 : Int32) : Option (sk_S × Int32) := (if lay_X11 (sk_K s) (sk_r s) a = true then (if p1 < 0 then (some (s, 0)) else (if p1 ≤ (sk_c s (a + 1) 1) then (ky_let (sk_wc s (a + 1) 1 p1) (fun q4 => (some (q4, 1)))) else (some (s, 0)))) else none)
set_option maxRecDepth 20000 in
set_option maxHeartbeats 4000000 in
theorem k_X11_end {G : ky_GW} {d : Nat} {h : ky_HP} {Q : ky_RS → ky_HP → Prop} {s s9 : sk_S} {r9 : Int32} {a : Nat} {p1 : Int32} (N : Nat) (hG : ky_OK G)   (hm : sk_hp G s h)  (e : x11_end N  s a p1 = some (s9, r9)) (hr : ∀ h1, sk_hp G s9 h1 → sk_fr none s h s9 h1 → Q (.inl (some (.int r9))) h1) : ky_Call G d M_X11_end [.ref a, .int p1] h Q := by
  refine ky_ofV (by decide +kernel) rfl ok_X11_end (Nat.le_of_ble_eq_true rfl) ?_
  have fr : sk_fr none s h s h := sk_fr.rf
  unfold x11_end at e
  refine (?_ : ky_V _ _ _ 0 [(0, .ref a), (1, .int p1)] [] _ _)
  obtain ⟨za, e⟩ := ky_chkE e
  refine v_iload_n (i := 0) (j := 1) rfl rfl (?_ : ky_V _ _ _ 1 _ _ _ _)
  refine v_if_lt (tgt := 15) (i := 1) rfl (by decide) (fun c1 => ?_) (fun c1 => ?_)
  · replace e := ky_ifT c1 e
    refine v_iconst (v := 0) (i := 7) rfl (by decide) (?_ : ky_V _ _ _ 16 _ _ _ _)
    refine v_iret (v := 0) (ty := .boolean) (i := 8) rfl rfl (by decide) ?_
    obtain ⟨rfl, rfl⟩ := ky_leaf e
    exact hr _ hm fr
  · replace e := ky_ifF c1 e
    refine v_iload_n (i := 2) (j := 1) rfl rfl (?_ : ky_V _ _ _ 5 _ _ _ _)
    refine v_aload_n (i := 3) (j := 0) rfl rfl (?_ : ky_V _ _ _ 6 _ _ _ _)
    refine gf_X11_10 rfl (i := 4) rfl (oc_X11 hm (ly_X11_c za)) (sk_rf (ly_X11_r0 za)) (?_ : ky_V _ _ _ 9 _ (.ref (a + 1) :: _) _ _)
    refine gf_X11_60 rfl (i := 5) rfl (oc_X9 hm (ly_X9_c (ly_X11_l0 za))) rfl (?_ : ky_V _ _ _ 12 _ _ _ _)
    refine v_icmp_le (tgt := 17) (i := 6) rfl (by decide) (fun c2 => ?_) (fun c2 => ?_)
    · replace e := ky_ifT c2 e
      refine v_aload_n (i := 9) (j := 0) rfl rfl (?_ : ky_V _ _ _ 18 _ _ _ _)
      refine gf_X11_10 rfl (i := 10) rfl (oc_X11 hm (ly_X11_c za)) (sk_rf (ly_X11_r0 za)) (?_ : ky_V _ _ _ 21 _ (.ref (a + 1) :: _) _ _)
      refine v_iload_n (i := 11) (j := 1) rfl rfl (?_ : ky_V _ _ _ 22 _ _ _ _)
      refine pf_X11_60 rfl (i := 12) rfl (oc_X9 hm (ly_X9_c (ly_X11_l0 za))) (Nat.le_of_ble_eq_true rfl) rfl rfl ?_
      refine sk_stc (kd := 8) (n := 0) hm fr (ly_X9_c (ly_X11_l0 za)) 1 p1 (fun h3 hmh3 frh3 => ?_)
      obtain ⟨q4, eq4⟩ : ∃ z, z = (sk_wc s (a + 1) 1 p1) := ⟨_, rfl⟩
      rw [← eq4] at hmh3 frh3
      replace e := ky_letE eq4 e
      refine (?_ : ky_V _ _ _ 25 _ _ _ _)
      refine v_iconst (v := 1) (i := 13) rfl (by decide) (?_ : ky_V _ _ _ 26 _ _ _ _)
      refine v_iret (v := 1) (ty := .boolean) (i := 14) rfl rfl (by decide) ?_
      obtain ⟨rfl, rfl⟩ := ky_leaf e
      exact hr _ hmh3 frh3
    · replace e := ky_ifF c2 e
      refine v_iconst (v := 0) (i := 7) rfl (by decide) (?_ : ky_V _ _ _ 16 _ _ _ _)
      refine v_iret (v := 0) (ty := .boolean) (i := 8) rfl rfl (by decide) ?_
      obtain ⟨rfl, rfl⟩ := ky_leaf e
      exact hr _ hm fr

def x11_fault (N : Nat)  (s : sk_S) (a : Nat) : Option (sk_S × Int32) := (if lay_X11 (sk_K s) (sk_r s) a = true then (some (s, (sk_c s a 10))) else none)
set_option maxRecDepth 20000 in
set_option maxHeartbeats 4000000 in
theorem k_X11_fault {G : ky_GW} {d : Nat} {h : ky_HP} {Q : ky_RS → ky_HP → Prop} {s s9 : sk_S} {r9 : Int32} {a : Nat} (N : Nat) (hG : ky_OK G)   (hm : sk_hp G s h)  (e : x11_fault N  s a = some (s9, r9)) (hr : ∀ h1, sk_hp G s9 h1 → sk_fr none s h s9 h1 → Q (.inl (some (.int r9))) h1) : ky_Call G d M_X11_fault [.ref a] h Q := by
  refine ky_ofV (by decide +kernel) rfl ok_X11_fault (Nat.le_of_ble_eq_true rfl) ?_
  have fr : sk_fr none s h s h := sk_fr.rf
  unfold x11_fault at e
  refine (?_ : ky_V _ _ _ 0 [(0, .ref a)] [] _ _)
  obtain ⟨za, e⟩ := ky_chkE e
  refine v_aload_n (i := 0) (j := 0) rfl rfl (?_ : ky_V _ _ _ 1 _ _ _ _)
  refine gf_X11_48 rfl (i := 1) rfl (oc_X11 hm (ly_X11_c za)) rfl (?_ : ky_V _ _ _ 4 _ _ _ _)
  refine v_iret (v := (sk_c s a 10)) (ty := .int) (i := 2) rfl rfl rfl ?_
  obtain ⟨rfl, rfl⟩ := ky_leaf e
  exact hr _ hm fr

def x11_waysWith (N : Nat)  (s : sk_S) (a : Nat) (p1 : Int32) (p2 : Int32) : Option (sk_S × Nat) := (if lay_X11 (sk_K s) (sk_r s) a = true then (ky_om (sk_r s a 9) (ky_let (sk_n s) (fun a3 => (ky_let (sk_nw s 10 0 13) (fun q5 => ((x10_init N q5 a3).bind (fun zz => (fun q7 x8 => (ky_let (sk_wr q7 a 9 (some a3)) (fun q11 => (ky_om (sk_r q11 a 9) none (fun l13 => (if lay_X10 (sk_K q11) (sk_r q11) l13 = true then ((x10_lookAt N q11 l13 (a + 14) p1 p2).bind (fun zz => (fun q16 x17 => (ky_om (sk_r q16 a 9) none (fun l20 => (some (q16, l20))))) zz.1 zz.2)) else none)))))) zz.1 zz.2)))))) (fun l2 => (ky_om (sk_r s a 9) none (fun l22 => (if lay_X10 (sk_K s) (sk_r s) l22 = true then ((x10_lookAt N s l22 (a + 14) p1 p2).bind (fun zz => (fun q25 x26 => (ky_om (sk_r q25 a 9) none (fun l29 => (some (q25, l29))))) zz.1 zz.2)) else none))))) else none)
set_option maxRecDepth 20000 in
set_option maxHeartbeats 4000000 in
theorem k_X11_waysWith {G : ky_GW} {d : Nat} {h : ky_HP} {Q : ky_RS → ky_HP → Prop} {s s9 : sk_S} {r9 : Nat} {a : Nat} {p1 : Int32} {p2 : Int32} (N : Nat) (hG : ky_OK G)   (hm : sk_hp G s h)  (e : x11_waysWith N  s a p1 p2 = some (s9, r9)) (hr : ∀ h1, sk_hp G s9 h1 → sk_fr none s h s9 h1 → Q (.inl (some (.ref r9))) h1) : ky_Call G (d + 2) M_X11_waysWith [.ref a, .int p1, .int p2] h Q := by
  refine ky_ofV (by decide +kernel) rfl ok_X11_waysWith (Nat.le_of_ble_eq_true rfl) ?_
  have fr : sk_fr none s h s h := sk_fr.rf
  unfold x11_waysWith at e
  refine (?_ : ky_V _ _ _ 0 [(0, .ref a), (1, .int p1), (2, .int p2)] [] _ _)
  obtain ⟨za, e⟩ := ky_chkE e
  refine v_aload_n (i := 0) (j := 0) rfl rfl (?_ : ky_V _ _ _ 1 _ _ _ _)
  rcases y1 : (sk_r s a 9) with _ | l2
  · replace e := ky_omN y1 e
    refine gf_X11_435 rfl (i := 1) rfl (oc_X11 hm (ly_X11_c za)) (sk_rn y1) (?_ : ky_V _ _ _ 4 _ _ _ _)
    refine v_ifnonnullN (i := 2) rfl (?_ : ky_V _ _ _ 7 _ _ _ _)
    refine v_aload_n (i := 3) (j := 0) rfl rfl (?_ : ky_V _ _ _ 8 _ _ _ _)
    refine nw_X10 (by rw [show M_X11_waysWith.1.cls = "WaistSand" from rfl]; exact ky_t2 (i := 104) rfl rfl) (i := 4) rfl ?_
    refine sk_snw hm fr 10 0 rfl (fun a3 h4 ea3 hmh4 frh4 => ?_)
    replace e := ky_letE ea3 e
    have hya3 : sk_n s ≤ a3 := by rw [ea3]; exact fr.2.2
    obtain ⟨q5, eq5⟩ : ∃ z, z = (sk_nw s 10 0 13) := ⟨_, rfl⟩
    rw [← eq5] at hmh4 frh4
    replace e := ky_letE eq5 e
    refine (?_ : ky_V _ _ _ 11 _ (.ref a3 :: _) _ _)
    refine v_dup (i := 5) rfl rfl (?_ : ky_V _ _ _ 12 _ _ _ _)
    obtain ⟨⟨q7, x8⟩, g9, e⟩ := Option.bind_eq_some_iff.mp e
    refine cl_X11_442 (As := []) rfl (i := 6) rfl rfl rfl (Nat.le_of_ble_eq_true rfl) (k_X10_init N hG hmh4 g9 (fun h6 hmh6 frh6 => ⟨_, rfl, (?_ : ky_V _ _ _ 15 _ [.ref a3, .ref a] _ _)⟩))
    have frh6 := frh4.ti frh6 hm hya3
    refine pf_X11_435 rfl (i := 7) rfl (oc_X11 hmh6 (ly_X11_c (lt_X11 frh6 za))) (Nat.le_of_ble_eq_true rfl) rfl rfl ?_
    refine sk_str (kd := 10) (n := 0) hmh6 frh6 (ly_X11_c (lt_X11 frh6 za)) 9 (some a3) (Or.inl rfl) (fun h10 hmh10 frh10 => ?_)
    obtain ⟨q11, eq11⟩ : ∃ z, z = (sk_wr q7 a 9 (some a3)) := ⟨_, rfl⟩
    rw [← eq11] at hmh10 frh10
    replace e := ky_letE eq11 e
    refine (?_ : ky_V _ _ _ 18 _ _ _ _)
    refine v_aload_n (i := 8) (j := 0) rfl rfl (?_ : ky_V _ _ _ 19 _ _ _ _)
    rcases y12 : (sk_r q11 a 9) with _ | l13
    · replace e := ky_omN y12 e
      refine gf_X11_435 rfl (i := 9) rfl (oc_X11 hmh10 (ly_X11_c (lt_X11 frh10 za))) (sk_rn y12) (?_ : ky_V _ _ _ 22 _ _ _ _)
      refine v_aload_n (i := 10) (j := 0) rfl rfl (?_ : ky_V _ _ _ 23 _ _ _ _)
      refine gf_X11_33 rfl (i := 11) rfl (oc_X11 hmh10 (ly_X11_c (lt_X11 frh10 za))) (sk_rf (ly_X11_r3 (lt_X11 frh10 za))) (?_ : ky_V _ _ _ 26 _ (.ref (a + 12) :: _) _ _)
      refine gf_X11_105 rfl (i := 12) rfl (oc_X7 hmh10 (ly_X7_c (ly_X11_l3 (lt_X11 frh10 za)))) (sk_rf (ly_X7_r1 (ly_X11_l3 (lt_X11 frh10 za)))) (?_ : ky_V _ _ _ 29 _ (.ref (a + 14) :: _) _ _)
      refine v_iload_n (i := 13) (j := 1) rfl rfl (?_ : ky_V _ _ _ 30 _ _ _ _)
      refine v_iload_n (i := 14) (j := 2) rfl rfl (?_ : ky_V _ _ _ 31 _ _ _ _)
      cases e
    · replace e := ky_omS y12 e
      refine gf_X11_435 rfl (i := 9) rfl (oc_X11 hmh10 (ly_X11_c (lt_X11 frh10 za))) (sk_rf y12) (?_ : ky_V _ _ _ 22 _ _ _ _)
      refine v_aload_n (i := 10) (j := 0) rfl rfl (?_ : ky_V _ _ _ 23 _ _ _ _)
      refine gf_X11_33 rfl (i := 11) rfl (oc_X11 hmh10 (ly_X11_c (lt_X11 frh10 za))) (sk_rf (ly_X11_r3 (lt_X11 frh10 za))) (?_ : ky_V _ _ _ 26 _ (.ref (a + 12) :: _) _ _)
      refine gf_X11_105 rfl (i := 12) rfl (oc_X7 hmh10 (ly_X7_c (ly_X11_l3 (lt_X11 frh10 za)))) (sk_rf (ly_X7_r1 (ly_X11_l3 (lt_X11 frh10 za)))) (?_ : ky_V _ _ _ 29 _ (.ref (a + 14) :: _) _ _)
      refine v_iload_n (i := 13) (j := 1) rfl rfl (?_ : ky_V _ _ _ 30 _ _ _ _)
      refine v_iload_n (i := 14) (j := 2) rfl rfl (?_ : ky_V _ _ _ 31 _ _ _ _)
      obtain ⟨z14, e⟩ := ky_chkE e
      obtain ⟨⟨q16, x17⟩, g18, e⟩ := Option.bind_eq_some_iff.mp e
      refine cl_X11_443 (As := [.ref ((a + 14)), .int p1, .int p2]) rfl (i := 15) rfl (oc_X10 hmh10 (ly_X10_c z14)) rfl rfl (Nat.le_of_ble_eq_true rfl) (k_X10_lookAt N hG hmh10 g18 (fun h15 hmh15 frh15 => ⟨_, rfl, (?_ : ky_V _ _ _ 34 _ [] _ _)⟩))
      have frh15 := frh10.tr frh15
      refine v_aload_n (i := 16) (j := 0) rfl rfl (?_ : ky_V _ _ _ 35 _ _ _ _)
      rcases y19 : (sk_r q16 a 9) with _ | l20
      · replace e := ky_omN y19 e
        refine gf_X11_435 rfl (i := 17) rfl (oc_X11 hmh15 (ly_X11_c (lt_X11 frh15 za))) (sk_rn y19) (?_ : ky_V _ _ _ 38 _ _ _ _)
        cases e
      · replace e := ky_omS y19 e
        refine gf_X11_435 rfl (i := 17) rfl (oc_X11 hmh15 (ly_X11_c (lt_X11 frh15 za))) (sk_rf y19) (?_ : ky_V _ _ _ 38 _ _ _ _)
        refine v_aret (v := .ref l20) (i := 18) rfl rfl (by first | exact Or.inl ⟨_, rfl⟩ | exact Or.inr ⟨_, rfl⟩) (by first | exact Or.inl rfl | exact Or.inr ⟨_, rfl⟩) ?_
        obtain ⟨rfl, rfl⟩ := ky_leaf e
        exact hr _ hmh15 frh15
  · replace e := ky_omS y1 e
    refine gf_X11_435 rfl (i := 1) rfl (oc_X11 hm (ly_X11_c za)) (sk_rf y1) (?_ : ky_V _ _ _ 4 _ _ _ _)
    refine v_ifnonnull (tgt := 18) (i := 2) rfl (by decide) (?_ : ky_V _ _ _ 18 _ _ _ _)
    refine v_aload_n (i := 8) (j := 0) rfl rfl (?_ : ky_V _ _ _ 19 _ _ _ _)
    rcases y21 : (sk_r s a 9) with _ | l22
    · replace e := ky_omN y21 e
      refine gf_X11_435 rfl (i := 9) rfl (oc_X11 hm (ly_X11_c za)) (sk_rn y21) (?_ : ky_V _ _ _ 22 _ _ _ _)
      refine v_aload_n (i := 10) (j := 0) rfl rfl (?_ : ky_V _ _ _ 23 _ _ _ _)
      refine gf_X11_33 rfl (i := 11) rfl (oc_X11 hm (ly_X11_c za)) (sk_rf (ly_X11_r3 za)) (?_ : ky_V _ _ _ 26 _ (.ref (a + 12) :: _) _ _)
      refine gf_X11_105 rfl (i := 12) rfl (oc_X7 hm (ly_X7_c (ly_X11_l3 za))) (sk_rf (ly_X7_r1 (ly_X11_l3 za))) (?_ : ky_V _ _ _ 29 _ (.ref (a + 14) :: _) _ _)
      refine v_iload_n (i := 13) (j := 1) rfl rfl (?_ : ky_V _ _ _ 30 _ _ _ _)
      refine v_iload_n (i := 14) (j := 2) rfl rfl (?_ : ky_V _ _ _ 31 _ _ _ _)
      cases e
    · replace e := ky_omS y21 e
      refine gf_X11_435 rfl (i := 9) rfl (oc_X11 hm (ly_X11_c za)) (sk_rf y21) (?_ : ky_V _ _ _ 22 _ _ _ _)
      refine v_aload_n (i := 10) (j := 0) rfl rfl (?_ : ky_V _ _ _ 23 _ _ _ _)
      refine gf_X11_33 rfl (i := 11) rfl (oc_X11 hm (ly_X11_c za)) (sk_rf (ly_X11_r3 za)) (?_ : ky_V _ _ _ 26 _ (.ref (a + 12) :: _) _ _)
      refine gf_X11_105 rfl (i := 12) rfl (oc_X7 hm (ly_X7_c (ly_X11_l3 za))) (sk_rf (ly_X7_r1 (ly_X11_l3 za))) (?_ : ky_V _ _ _ 29 _ (.ref (a + 14) :: _) _ _)
      refine v_iload_n (i := 13) (j := 1) rfl rfl (?_ : ky_V _ _ _ 30 _ _ _ _)
      refine v_iload_n (i := 14) (j := 2) rfl rfl (?_ : ky_V _ _ _ 31 _ _ _ _)
      obtain ⟨z23, e⟩ := ky_chkE e
      obtain ⟨⟨q25, x26⟩, g27, e⟩ := Option.bind_eq_some_iff.mp e
      refine cl_X11_443 (As := [.ref ((a + 14)), .int p1, .int p2]) rfl (i := 15) rfl (oc_X10 hm (ly_X10_c z23)) rfl rfl (Nat.le_of_ble_eq_true rfl) (k_X10_lookAt N hG hm g27 (fun h24 hmh24 frh24 => ⟨_, rfl, (?_ : ky_V _ _ _ 34 _ [] _ _)⟩))
      have frh24 := fr.tr frh24
      refine v_aload_n (i := 16) (j := 0) rfl rfl (?_ : ky_V _ _ _ 35 _ _ _ _)
      rcases y28 : (sk_r q25 a 9) with _ | l29
      · replace e := ky_omN y28 e
        refine gf_X11_435 rfl (i := 17) rfl (oc_X11 hmh24 (ly_X11_c (lt_X11 frh24 za))) (sk_rn y28) (?_ : ky_V _ _ _ 38 _ _ _ _)
        cases e
      · replace e := ky_omS y28 e
        refine gf_X11_435 rfl (i := 17) rfl (oc_X11 hmh24 (ly_X11_c (lt_X11 frh24 za))) (sk_rf y28) (?_ : ky_V _ _ _ 38 _ _ _ _)
        refine v_aret (v := .ref l29) (i := 18) rfl rfl (by first | exact Or.inl ⟨_, rfl⟩ | exact Or.inr ⟨_, rfl⟩) (by first | exact Or.inl rfl | exact Or.inr ⟨_, rfl⟩) ?_
        obtain ⟨rfl, rfl⟩ := ky_leaf e
        exact hr _ hmh24 frh24

def x11_sinking (N : Nat)  (s : sk_S) (a : Nat) : Option (sk_S × Int64) := (if lay_X11 (sk_K s) (sk_r s) a = true then ((x8_overladen N s (a + 16)).bind (fun zz => (fun q2 x3 => (some (q2, x3))) zz.1 zz.2)) else none)
set_option maxRecDepth 20000 in
set_option maxHeartbeats 4000000 in
theorem k_X11_sinking {G : ky_GW} {d : Nat} {h : ky_HP} {Q : ky_RS → ky_HP → Prop} {s s9 : sk_S} {r9 : Int64} {a : Nat} (N : Nat) (hG : ky_OK G)   (hm : sk_hp G s h)  (e : x11_sinking N  s a = some (s9, r9)) (hr : ∀ h1, sk_hp G s9 h1 → sk_fr none s h s9 h1 → Q (.inl (some (.long r9))) h1) : ky_Call G (d + 2) M_X11_sinking [.ref a] h Q := by
  refine ky_ofV (by decide +kernel) rfl ok_X11_sinking (Nat.le_of_ble_eq_true rfl) ?_
  have fr : sk_fr none s h s h := sk_fr.rf
  unfold x11_sinking at e
  refine (?_ : ky_V _ _ _ 0 [(0, .ref a)] [] _ _)
  obtain ⟨za, e⟩ := ky_chkE e
  refine v_aload_n (i := 0) (j := 0) rfl rfl (?_ : ky_V _ _ _ 1 _ _ _ _)
  refine gf_X11_33 rfl (i := 1) rfl (oc_X11 hm (ly_X11_c za)) (sk_rf (ly_X11_r3 za)) (?_ : ky_V _ _ _ 4 _ (.ref (a + 12) :: _) _ _)
  refine gf_X11_63 rfl (i := 2) rfl (oc_X7 hm (ly_X7_c (ly_X11_l3 za))) (sk_rf (ly_X7_r2 (ly_X11_l3 za))) (?_ : ky_V _ _ _ 7 _ (.ref (a + 16) :: _) _ _)
  obtain ⟨⟨q2, x3⟩, g4, e⟩ := Option.bind_eq_some_iff.mp e
  refine cl_X11_354 (As := []) rfl (i := 3) rfl (oc_X8 hm (ly_X8_c (ly_X7_l2 (ly_X11_l3 za)))) rfl rfl (Nat.le_of_ble_eq_true rfl) (k_X8_overladen N hG hm g4 (fun h1 hmh1 frh1 => ⟨_, rfl, (?_ : ky_V _ _ _ 10 _ [.long x3] _ _)⟩))
  have frh1 := fr.tr frh1
  refine v_lret (v := x3) (i := 4) rfl rfl ?_
  obtain ⟨rfl, rfl⟩ := ky_leaf e
  exact hr _ hmh1 frh1

def x11_placed (N : Nat)  (s : sk_S) (a : Nat) : Option (sk_S × Int32) := (if lay_X11 (sk_K s) (sk_r s) a = true then ((x8_mostPlaced N s (a + 16)).bind (fun zz => (fun q2 x3 => (some (q2, x3))) zz.1 zz.2)) else none)
set_option maxRecDepth 20000 in
set_option maxHeartbeats 4000000 in
theorem k_X11_placed {G : ky_GW} {d : Nat} {h : ky_HP} {Q : ky_RS → ky_HP → Prop} {s s9 : sk_S} {r9 : Int32} {a : Nat} (N : Nat) (hG : ky_OK G)   (hm : sk_hp G s h)  (e : x11_placed N  s a = some (s9, r9)) (hr : ∀ h1, sk_hp G s9 h1 → sk_fr none s h s9 h1 → Q (.inl (some (.int r9))) h1) : ky_Call G (d + 3) M_X11_placed [.ref a] h Q := by
  refine ky_ofV (by decide +kernel) rfl ok_X11_placed (Nat.le_of_ble_eq_true rfl) ?_
  have fr : sk_fr none s h s h := sk_fr.rf
  unfold x11_placed at e
  refine (?_ : ky_V _ _ _ 0 [(0, .ref a)] [] _ _)
  obtain ⟨za, e⟩ := ky_chkE e
  refine v_aload_n (i := 0) (j := 0) rfl rfl (?_ : ky_V _ _ _ 1 _ _ _ _)
  refine gf_X11_33 rfl (i := 1) rfl (oc_X11 hm (ly_X11_c za)) (sk_rf (ly_X11_r3 za)) (?_ : ky_V _ _ _ 4 _ (.ref (a + 12) :: _) _ _)
  refine gf_X11_63 rfl (i := 2) rfl (oc_X7 hm (ly_X7_c (ly_X11_l3 za))) (sk_rf (ly_X7_r2 (ly_X11_l3 za))) (?_ : ky_V _ _ _ 7 _ (.ref (a + 16) :: _) _ _)
  obtain ⟨⟨q2, x3⟩, g4, e⟩ := Option.bind_eq_some_iff.mp e
  refine cl_X11_370 (As := []) rfl (i := 3) rfl (oc_X8 hm (ly_X8_c (ly_X7_l2 (ly_X11_l3 za)))) rfl rfl (Nat.le_of_ble_eq_true rfl) (k_X8_mostPlaced N hG hm g4 (fun h1 hmh1 frh1 => ⟨_, rfl, (?_ : ky_V _ _ _ 10 _ [.int x3] _ _)⟩))
  have frh1 := fr.tr frh1
  refine v_iret (v := x3) (ty := .int) (i := 4) rfl rfl rfl ?_
  obtain ⟨rfl, rfl⟩ := ky_leaf e
  exact hr _ hmh1 frh1

def x11_seed (N : Nat)  (s : sk_S) (a : Nat) (p1 : Int32) : Option (sk_S × Int32) := (if lay_X11 (sk_K s) (sk_r s) a = true then (ky_let (sk_c s (a + 13) 7) (fun x1 => (ky_let (sk_wc s (a + 13) 7 p1) (fun q3 => (some (q3, x1)))))) else none)
set_option maxRecDepth 20000 in
set_option maxHeartbeats 4000000 in
theorem k_X11_seed {G : ky_GW} {d : Nat} {h : ky_HP} {Q : ky_RS → ky_HP → Prop} {s s9 : sk_S} {r9 : Int32} {a : Nat} {p1 : Int32} (N : Nat) (hG : ky_OK G)   (hm : sk_hp G s h)  (e : x11_seed N  s a p1 = some (s9, r9)) (hr : ∀ h1, sk_hp G s9 h1 → sk_fr none s h s9 h1 → Q (.inl (some (.int r9))) h1) : ky_Call G d M_X11_seed [.ref a, .int p1] h Q := by
  refine ky_ofV (by decide +kernel) rfl ok_X11_seed (Nat.le_of_ble_eq_true rfl) ?_
  have fr : sk_fr none s h s h := sk_fr.rf
  unfold x11_seed at e
  refine (?_ : ky_V _ _ _ 0 [(0, .ref a), (1, .int p1)] [] _ _)
  obtain ⟨za, e⟩ := ky_chkE e
  refine v_aload_n (i := 0) (j := 0) rfl rfl (?_ : ky_V _ _ _ 1 _ _ _ _)
  refine gf_X11_33 rfl (i := 1) rfl (oc_X11 hm (ly_X11_c za)) (sk_rf (ly_X11_r3 za)) (?_ : ky_V _ _ _ 4 _ (.ref (a + 12) :: _) _ _)
  refine gf_X11_191 rfl (i := 2) rfl (oc_X7 hm (ly_X7_c (ly_X11_l3 za))) (sk_rf (ly_X7_r0 (ly_X11_l3 za))) (?_ : ky_V _ _ _ 7 _ (.ref (a + 13) :: _) _ _)
  refine gf_X11_376 rfl (i := 3) rfl (oc_X1 hm (ly_X1_c (ly_X7_l0 (ly_X11_l3 za)))) rfl (?_ : ky_V _ _ _ 10 _ _ _ _)
  refine v_topi (fun x1 ex1 => ?_)
  replace e := ky_letE ex1 e
  refine v_istore_n (L' := [(0, .ref a), (1, .int p1), (2, .int x1)]) [1, 2, 0] (i := 4) rfl (Nat.le_of_ble_eq_true rfl) rfl (?_ : ky_V _ _ _ 11 _ _ _ _)
  refine v_aload_n (i := 5) (j := 0) rfl rfl (?_ : ky_V _ _ _ 12 _ _ _ _)
  refine gf_X11_33 rfl (i := 6) rfl (oc_X11 hm (ly_X11_c za)) (sk_rf (ly_X11_r3 za)) (?_ : ky_V _ _ _ 15 _ (.ref (a + 12) :: _) _ _)
  refine gf_X11_191 rfl (i := 7) rfl (oc_X7 hm (ly_X7_c (ly_X11_l3 za))) (sk_rf (ly_X7_r0 (ly_X11_l3 za))) (?_ : ky_V _ _ _ 18 _ (.ref (a + 13) :: _) _ _)
  refine v_iload_n (i := 8) (j := 1) rfl rfl (?_ : ky_V _ _ _ 19 _ _ _ _)
  refine pf_X11_376 rfl (i := 9) rfl (oc_X1 hm (ly_X1_c (ly_X7_l0 (ly_X11_l3 za)))) (Nat.le_of_ble_eq_true rfl) rfl rfl ?_
  refine sk_stc (kd := 1) (n := 0) hm fr (ly_X1_c (ly_X7_l0 (ly_X11_l3 za))) 7 p1 (fun h2 hmh2 frh2 => ?_)
  obtain ⟨q3, eq3⟩ : ∃ z, z = (sk_wc s (a + 13) 7 p1) := ⟨_, rfl⟩
  rw [← eq3] at hmh2 frh2
  replace e := ky_letE eq3 e
  refine (?_ : ky_V _ _ _ 22 _ _ _ _)
  refine v_iload_n (i := 10) (j := 2) rfl rfl (?_ : ky_V _ _ _ 23 _ _ _ _)
  refine v_iret (v := x1) (ty := .int) (i := 11) rfl rfl rfl ?_
  obtain ⟨rfl, rfl⟩ := ky_leaf e
  exact hr _ hmh2 frh2

def x11_undo (N : Nat)  (s : sk_S) (a : Nat) : Option (sk_S × Int32) := (if lay_X11 (sk_K s) (sk_r s) a = true then (if (sk_c s a 6) ≤ 0 then (if (sk_c s a 7) < (1 : Int32) then (some (s, 0)) else (ky_om (sk_r s (a + 22) 11) (some (s, 0)) (fun l4 => (ky_om (sk_r s (a + 22) 11) none (fun l6 => ((x7_become N s (a + 12) l6).bind (fun zz => (fun q8 x9 => (ky_let (sk_wc q8 a 6 11) (fun q12 => (ky_let ((sk_c q12 a 7) - 1) (fun x13 => (ky_let (sk_wc q12 a 7 x13) (fun q15 => (some (q15, 1))))))))) zz.1 zz.2))))))) else (ky_let ((sk_c s a 6) - 1) (fun x16 => (if (sk_c s a 7) < (1 : Int32) then (some (s, 0)) else (if ky_inB x16 12 = true then (ky_om (sk_r s (a + 22) (Int32.toNatClampNeg x16)) (some (s, 0)) (fun l20 => (ky_om (sk_r s (a + 22) (Int32.toNatClampNeg x16)) none (fun l22 => ((x7_become N s (a + 12) l22).bind (fun zz => (fun q24 x25 => (ky_let (sk_wc q24 a 6 x16) (fun q28 => (ky_let ((sk_c q28 a 7) - 1) (fun x29 => (ky_let (sk_wc q28 a 7 x29) (fun q31 => (some (q31, 1))))))))) zz.1 zz.2)))))) else none))))) else none)
set_option maxRecDepth 20000 in
set_option maxHeartbeats 4000000 in
theorem k_X11_undo {G : ky_GW} {d : Nat} {h : ky_HP} {Q : ky_RS → ky_HP → Prop} {s s9 : sk_S} {r9 : Int32} {a : Nat} (N : Nat) (hG : ky_OK G)   (hm : sk_hp G s h)  (e : x11_undo N  s a = some (s9, r9)) (hr : ∀ h1, sk_hp G s9 h1 → sk_fr none s h s9 h1 → Q (.inl (some (.int r9))) h1) : ky_Call G (d + 3) M_X11_undo [.ref a] h Q := by
  refine ky_ofV (by decide +kernel) rfl ok_X11_undo (Nat.le_of_ble_eq_true rfl) ?_
  have fr : sk_fr none s h s h := sk_fr.rf
  unfold x11_undo at e
  refine (?_ : ky_V _ _ _ 0 [(0, .ref a)] [] _ _)
  obtain ⟨za, e⟩ := ky_chkE e
  refine v_aload_n (i := 0) (j := 0) rfl rfl (?_ : ky_V _ _ _ 1 _ _ _ _)
  refine gf_X11_411 rfl (i := 1) rfl (oc_X11 hm (ly_X11_c za)) rfl (?_ : ky_V _ _ _ 4 _ _ _ _)
  refine v_if_le (tgt := 16) (i := 2) rfl (by decide) (fun c1 => ?_) (fun c1 => ?_)
  · replace e := ky_ifT c1 e
    refine v_bipush (v := 11) (i := 8) rfl (by decide) (?_ : ky_V _ _ _ 18 _ _ _ _)
    refine v_istore_n (L' := [(0, .ref a), (1, .int 11)]) [1, 0] (i := 9) rfl (Nat.le_of_ble_eq_true rfl) rfl (?_ : ky_V _ _ _ 19 _ _ _ _)
    refine v_aload_n (i := 10) (j := 0) rfl rfl (?_ : ky_V _ _ _ 20 _ _ _ _)
    refine gf_X11_414 rfl (i := 11) rfl (oc_X11 hm (ly_X11_c za)) rfl (?_ : ky_V _ _ _ 23 _ _ _ _)
    refine v_iconst (v := 1) (i := 12) rfl (by decide) (?_ : ky_V _ _ _ 24 _ _ _ _)
    refine v_icmp_lt (tgt := 36) (i := 13) rfl (by decide) (fun c2 => ?_) (fun c2 => ?_)
    · replace e := ky_ifT c2 e
      refine v_iconst (v := 0) (i := 19) rfl (by decide) (?_ : ky_V _ _ _ 37 _ _ _ _)
      refine v_iret (v := 0) (ty := .boolean) (i := 20) rfl rfl (by decide) ?_
      obtain ⟨rfl, rfl⟩ := ky_leaf e
      exact hr _ hm fr
    · replace e := ky_ifF c2 e
      refine v_aload_n (i := 14) (j := 0) rfl rfl (?_ : ky_V _ _ _ 28 _ _ _ _)
      refine gf_X11_37 rfl (i := 15) rfl (oc_X11 hm (ly_X11_c za)) (sk_rf (ly_X11_r4 za)) (?_ : ky_V _ _ _ 31 _ (.ref (a + 22) :: _) _ _)
      refine v_iload_n (i := 16) (j := 1) rfl rfl (?_ : ky_V _ _ _ 32 _ _ _ _)
      rcases y3 : (sk_r s (a + 22) 11) with _ | l4
      · replace e := ky_omN y3 e
        refine v_aald (i := 17) rfl (oa_23 hm (ly_X11_k4 za)) (ky_inl (by decide)) ?_
        refine (?_ : ky_V _ _ _ 33 _ (va_rf (sk_r s (a + 22) 11) :: _) _ _)
        rw [y3]
        refine (?_ : ky_V _ _ _ 33 _ (.null :: _) _ _)
        refine v_ifnonnullN (i := 18) rfl (?_ : ky_V _ _ _ 36 _ _ _ _)
        refine v_iconst (v := 0) (i := 19) rfl (by decide) (?_ : ky_V _ _ _ 37 _ _ _ _)
        refine v_iret (v := 0) (ty := .boolean) (i := 20) rfl rfl (by decide) ?_
        obtain ⟨rfl, rfl⟩ := ky_leaf e
        exact hr _ hm fr
      · replace e := ky_omS y3 e
        refine v_aald (i := 17) rfl (oa_23 hm (ly_X11_k4 za)) (ky_inl (by decide)) ?_
        refine (?_ : ky_V _ _ _ 33 _ (va_rf (sk_r s (a + 22) 11) :: _) _ _)
        rw [y3]
        refine (?_ : ky_V _ _ _ 33 _ (.ref l4 :: _) _ _)
        refine v_ifnonnull (tgt := 38) (i := 18) rfl (by decide) (?_ : ky_V _ _ _ 38 _ _ _ _)
        refine v_aload_n (i := 21) (j := 0) rfl rfl (?_ : ky_V _ _ _ 39 _ _ _ _)
        refine gf_X11_33 rfl (i := 22) rfl (oc_X11 hm (ly_X11_c za)) (sk_rf (ly_X11_r3 za)) (?_ : ky_V _ _ _ 42 _ (.ref (a + 12) :: _) _ _)
        refine v_aload_n (i := 23) (j := 0) rfl rfl (?_ : ky_V _ _ _ 43 _ _ _ _)
        refine gf_X11_37 rfl (i := 24) rfl (oc_X11 hm (ly_X11_c za)) (sk_rf (ly_X11_r4 za)) (?_ : ky_V _ _ _ 46 _ (.ref (a + 22) :: _) _ _)
        refine v_iload_n (i := 25) (j := 1) rfl rfl (?_ : ky_V _ _ _ 47 _ _ _ _)
        rcases y5 : (sk_r s (a + 22) 11) with _ | l6
        · replace e := ky_omN y5 e
          refine v_aald (i := 26) rfl (oa_23 hm (ly_X11_k4 za)) (ky_inl (by decide)) ?_
          refine (?_ : ky_V _ _ _ 48 _ (va_rf (sk_r s (a + 22) 11) :: _) _ _)
          rw [y5]
          refine (?_ : ky_V _ _ _ 48 _ (.null :: _) _ _)
          cases e
        · replace e := ky_omS y5 e
          refine v_aald (i := 26) rfl (oa_23 hm (ly_X11_k4 za)) (ky_inl (by decide)) ?_
          refine (?_ : ky_V _ _ _ 48 _ (va_rf (sk_r s (a + 22) 11) :: _) _ _)
          rw [y5]
          refine (?_ : ky_V _ _ _ 48 _ (.ref l6 :: _) _ _)
          obtain ⟨⟨q8, x9⟩, g10, e⟩ := Option.bind_eq_some_iff.mp e
          refine cl_X11_417 (As := [.ref l6]) rfl (i := 27) rfl (oc_X7 hm (ly_X7_c (ly_X11_l3 za))) rfl rfl (Nat.le_of_ble_eq_true rfl) (k_X7_become N hG hm g10 (fun h7 hmh7 frh7 => ⟨_, rfl, (?_ : ky_V _ _ _ 51 _ [] _ _)⟩))
          have frh7 := fr.tr frh7
          refine v_aload_n (i := 28) (j := 0) rfl rfl (?_ : ky_V _ _ _ 52 _ _ _ _)
          refine v_iload_n (i := 29) (j := 1) rfl rfl (?_ : ky_V _ _ _ 53 _ _ _ _)
          refine pf_X11_411 rfl (i := 30) rfl (oc_X11 hmh7 (ly_X11_c (lt_X11 frh7 za))) (Nat.le_of_ble_eq_true rfl) rfl rfl ?_
          refine sk_stc (kd := 10) (n := 0) hmh7 frh7 (ly_X11_c (lt_X11 frh7 za)) 6 11 (fun h11 hmh11 frh11 => ?_)
          obtain ⟨q12, eq12⟩ : ∃ z, z = (sk_wc q8 a 6 11) := ⟨_, rfl⟩
          rw [← eq12] at hmh11 frh11
          replace e := ky_letE eq12 e
          refine (?_ : ky_V _ _ _ 56 _ _ _ _)
          refine v_aload_n (i := 31) (j := 0) rfl rfl (?_ : ky_V _ _ _ 57 _ _ _ _)
          refine v_dup (i := 32) rfl rfl (?_ : ky_V _ _ _ 58 _ _ _ _)
          refine gf_X11_414 rfl (i := 33) rfl (oc_X11 hmh11 (ly_X11_c (lt_X11 frh11 za))) rfl (?_ : ky_V _ _ _ 61 _ _ _ _)
          refine v_iconst (v := 1) (i := 34) rfl (by decide) (?_ : ky_V _ _ _ 62 _ _ _ _)
          refine v_isub (i := 35) rfl (?_ : ky_V _ _ _ 63 _ _ _ _)
          refine v_topi (fun x13 ex13 => ?_)
          replace e := ky_letE ex13 e
          refine pf_X11_414 rfl (i := 36) rfl (oc_X11 hmh11 (ly_X11_c (lt_X11 frh11 za))) (Nat.le_of_ble_eq_true rfl) rfl rfl ?_
          refine sk_stc (kd := 10) (n := 0) hmh11 frh11 (ly_X11_c (lt_X11 frh11 za)) 7 x13 (fun h14 hmh14 frh14 => ?_)
          obtain ⟨q15, eq15⟩ : ∃ z, z = (sk_wc q12 a 7 x13) := ⟨_, rfl⟩
          rw [← eq15] at hmh14 frh14
          replace e := ky_letE eq15 e
          refine (?_ : ky_V _ _ _ 66 _ _ _ _)
          refine v_iconst (v := 1) (i := 37) rfl (by decide) (?_ : ky_V _ _ _ 67 _ _ _ _)
          refine v_iret (v := 1) (ty := .boolean) (i := 38) rfl rfl (by decide) ?_
          obtain ⟨rfl, rfl⟩ := ky_leaf e
          exact hr _ hmh14 frh14
  · replace e := ky_ifF c1 e
    refine v_aload_n (i := 3) (j := 0) rfl rfl (?_ : ky_V _ _ _ 8 _ _ _ _)
    refine gf_X11_411 rfl (i := 4) rfl (oc_X11 hm (ly_X11_c za)) rfl (?_ : ky_V _ _ _ 11 _ _ _ _)
    refine v_iconst (v := 1) (i := 5) rfl (by decide) (?_ : ky_V _ _ _ 12 _ _ _ _)
    refine v_isub (i := 6) rfl (?_ : ky_V _ _ _ 13 _ _ _ _)
    refine v_goto (tgt := 18) (i := 7) rfl (by decide) (?_ : ky_V _ _ _ 18 _ _ _ _)
    refine v_topi (fun x16 ex16 => ?_)
    replace e := ky_letE ex16 e
    refine v_istore_n (L' := [(0, .ref a), (1, .int x16)]) [1, 0] (i := 9) rfl (Nat.le_of_ble_eq_true rfl) rfl (?_ : ky_V _ _ _ 19 _ _ _ _)
    refine v_aload_n (i := 10) (j := 0) rfl rfl (?_ : ky_V _ _ _ 20 _ _ _ _)
    refine gf_X11_414 rfl (i := 11) rfl (oc_X11 hm (ly_X11_c za)) rfl (?_ : ky_V _ _ _ 23 _ _ _ _)
    refine v_iconst (v := 1) (i := 12) rfl (by decide) (?_ : ky_V _ _ _ 24 _ _ _ _)
    refine v_icmp_lt (tgt := 36) (i := 13) rfl (by decide) (fun c17 => ?_) (fun c17 => ?_)
    · replace e := ky_ifT c17 e
      refine v_iconst (v := 0) (i := 19) rfl (by decide) (?_ : ky_V _ _ _ 37 _ _ _ _)
      refine v_iret (v := 0) (ty := .boolean) (i := 20) rfl rfl (by decide) ?_
      obtain ⟨rfl, rfl⟩ := ky_leaf e
      exact hr _ hm fr
    · replace e := ky_ifF c17 e
      refine v_aload_n (i := 14) (j := 0) rfl rfl (?_ : ky_V _ _ _ 28 _ _ _ _)
      refine gf_X11_37 rfl (i := 15) rfl (oc_X11 hm (ly_X11_c za)) (sk_rf (ly_X11_r4 za)) (?_ : ky_V _ _ _ 31 _ (.ref (a + 22) :: _) _ _)
      refine v_iload_n (i := 16) (j := 1) rfl rfl (?_ : ky_V _ _ _ 32 _ _ _ _)
      obtain ⟨z18, e⟩ := ky_chkE e
      rcases y19 : (sk_r s (a + 22) (Int32.toNatClampNeg x16)) with _ | l20
      · replace e := ky_omN y19 e
        refine v_aald (i := 17) rfl (oa_23 hm (ly_X11_k4 za)) (ky_inb z18) ?_
        refine (?_ : ky_V _ _ _ 33 _ (va_rf (sk_r s (a + 22) (Int32.toNatClampNeg x16)) :: _) _ _)
        rw [y19]
        refine (?_ : ky_V _ _ _ 33 _ (.null :: _) _ _)
        refine v_ifnonnullN (i := 18) rfl (?_ : ky_V _ _ _ 36 _ _ _ _)
        refine v_iconst (v := 0) (i := 19) rfl (by decide) (?_ : ky_V _ _ _ 37 _ _ _ _)
        refine v_iret (v := 0) (ty := .boolean) (i := 20) rfl rfl (by decide) ?_
        obtain ⟨rfl, rfl⟩ := ky_leaf e
        exact hr _ hm fr
      · replace e := ky_omS y19 e
        refine v_aald (i := 17) rfl (oa_23 hm (ly_X11_k4 za)) (ky_inb z18) ?_
        refine (?_ : ky_V _ _ _ 33 _ (va_rf (sk_r s (a + 22) (Int32.toNatClampNeg x16)) :: _) _ _)
        rw [y19]
        refine (?_ : ky_V _ _ _ 33 _ (.ref l20 :: _) _ _)
        refine v_ifnonnull (tgt := 38) (i := 18) rfl (by decide) (?_ : ky_V _ _ _ 38 _ _ _ _)
        refine v_aload_n (i := 21) (j := 0) rfl rfl (?_ : ky_V _ _ _ 39 _ _ _ _)
        refine gf_X11_33 rfl (i := 22) rfl (oc_X11 hm (ly_X11_c za)) (sk_rf (ly_X11_r3 za)) (?_ : ky_V _ _ _ 42 _ (.ref (a + 12) :: _) _ _)
        refine v_aload_n (i := 23) (j := 0) rfl rfl (?_ : ky_V _ _ _ 43 _ _ _ _)
        refine gf_X11_37 rfl (i := 24) rfl (oc_X11 hm (ly_X11_c za)) (sk_rf (ly_X11_r4 za)) (?_ : ky_V _ _ _ 46 _ (.ref (a + 22) :: _) _ _)
        refine v_iload_n (i := 25) (j := 1) rfl rfl (?_ : ky_V _ _ _ 47 _ _ _ _)
        rcases y21 : (sk_r s (a + 22) (Int32.toNatClampNeg x16)) with _ | l22
        · replace e := ky_omN y21 e
          refine v_aald (i := 26) rfl (oa_23 hm (ly_X11_k4 za)) (ky_inb z18) ?_
          refine (?_ : ky_V _ _ _ 48 _ (va_rf (sk_r s (a + 22) (Int32.toNatClampNeg x16)) :: _) _ _)
          rw [y21]
          refine (?_ : ky_V _ _ _ 48 _ (.null :: _) _ _)
          cases e
        · replace e := ky_omS y21 e
          refine v_aald (i := 26) rfl (oa_23 hm (ly_X11_k4 za)) (ky_inb z18) ?_
          refine (?_ : ky_V _ _ _ 48 _ (va_rf (sk_r s (a + 22) (Int32.toNatClampNeg x16)) :: _) _ _)
          rw [y21]
          refine (?_ : ky_V _ _ _ 48 _ (.ref l22 :: _) _ _)
          obtain ⟨⟨q24, x25⟩, g26, e⟩ := Option.bind_eq_some_iff.mp e
          refine cl_X11_417 (As := [.ref l22]) rfl (i := 27) rfl (oc_X7 hm (ly_X7_c (ly_X11_l3 za))) rfl rfl (Nat.le_of_ble_eq_true rfl) (k_X7_become N hG hm g26 (fun h23 hmh23 frh23 => ⟨_, rfl, (?_ : ky_V _ _ _ 51 _ [] _ _)⟩))
          have frh23 := fr.tr frh23
          refine v_aload_n (i := 28) (j := 0) rfl rfl (?_ : ky_V _ _ _ 52 _ _ _ _)
          refine v_iload_n (i := 29) (j := 1) rfl rfl (?_ : ky_V _ _ _ 53 _ _ _ _)
          refine pf_X11_411 rfl (i := 30) rfl (oc_X11 hmh23 (ly_X11_c (lt_X11 frh23 za))) (Nat.le_of_ble_eq_true rfl) rfl rfl ?_
          refine sk_stc (kd := 10) (n := 0) hmh23 frh23 (ly_X11_c (lt_X11 frh23 za)) 6 x16 (fun h27 hmh27 frh27 => ?_)
          obtain ⟨q28, eq28⟩ : ∃ z, z = (sk_wc q24 a 6 x16) := ⟨_, rfl⟩
          rw [← eq28] at hmh27 frh27
          replace e := ky_letE eq28 e
          refine (?_ : ky_V _ _ _ 56 _ _ _ _)
          refine v_aload_n (i := 31) (j := 0) rfl rfl (?_ : ky_V _ _ _ 57 _ _ _ _)
          refine v_dup (i := 32) rfl rfl (?_ : ky_V _ _ _ 58 _ _ _ _)
          refine gf_X11_414 rfl (i := 33) rfl (oc_X11 hmh27 (ly_X11_c (lt_X11 frh27 za))) rfl (?_ : ky_V _ _ _ 61 _ _ _ _)
          refine v_iconst (v := 1) (i := 34) rfl (by decide) (?_ : ky_V _ _ _ 62 _ _ _ _)
          refine v_isub (i := 35) rfl (?_ : ky_V _ _ _ 63 _ _ _ _)
          refine v_topi (fun x29 ex29 => ?_)
          replace e := ky_letE ex29 e
          refine pf_X11_414 rfl (i := 36) rfl (oc_X11 hmh27 (ly_X11_c (lt_X11 frh27 za))) (Nat.le_of_ble_eq_true rfl) rfl rfl ?_
          refine sk_stc (kd := 10) (n := 0) hmh27 frh27 (ly_X11_c (lt_X11 frh27 za)) 7 x29 (fun h30 hmh30 frh30 => ?_)
          obtain ⟨q31, eq31⟩ : ∃ z, z = (sk_wc q28 a 7 x29) := ⟨_, rfl⟩
          rw [← eq31] at hmh30 frh30
          replace e := ky_letE eq31 e
          refine (?_ : ky_V _ _ _ 66 _ _ _ _)
          refine v_iconst (v := 1) (i := 37) rfl (by decide) (?_ : ky_V _ _ _ 67 _ _ _ _)
          refine v_iret (v := 1) (ty := .boolean) (i := 38) rfl rfl (by decide) ?_
          obtain ⟨rfl, rfl⟩ := ky_leaf e
          exact hr _ hmh30 frh30

def x11_image (N : Nat)  (s : sk_S) (a : Nat) : Option (sk_S × Int32) := (if lay_X11 (sk_K s) (sk_r s) a = true then (ky_om (sk_r s a 8) (ky_let (sk_n s) (fun a3 => (ky_let (sk_nw s 7 0 5) (fun q5 => ((x7_init N q5 a3).bind (fun zz => (fun q7 x8 => (ky_let (sk_wr q7 a 8 (some a3)) (fun q11 => (ky_om (sk_r q11 a 8) none (fun l13 => (if lay_X7 (sk_K q11) (sk_r q11) l13 = true then ((x7_become N q11 l13 (a + 12)).bind (fun zz => (fun q16 x17 => (some (q16, 0))) zz.1 zz.2)) else none)))))) zz.1 zz.2)))))) (fun l2 => (ky_om (sk_r s a 8) none (fun l20 => (if lay_X7 (sk_K s) (sk_r s) l20 = true then ((x7_become N s l20 (a + 12)).bind (fun zz => (fun q23 x24 => (some (q23, 0))) zz.1 zz.2)) else none))))) else none)
set_option maxRecDepth 20000 in
set_option maxHeartbeats 4000000 in
theorem k_X11_image {G : ky_GW} {d : Nat} {h : ky_HP} {Q : ky_RS → ky_HP → Prop} {s s9 : sk_S} {r9 : Int32} {a : Nat} (N : Nat) (hG : ky_OK G)   (hm : sk_hp G s h)  (e : x11_image N  s a = some (s9, r9)) (hr : ∀ h1, sk_hp G s9 h1 → sk_fr none s h s9 h1 → Q (.inl none) h1) : ky_Call G (d + 3) M_X11_image [.ref a] h Q := by
  refine ky_ofV (by decide +kernel) rfl ok_X11_image (Nat.le_of_ble_eq_true rfl) ?_
  have fr : sk_fr none s h s h := sk_fr.rf
  unfold x11_image at e
  refine (?_ : ky_V _ _ _ 0 [(0, .ref a)] [] _ _)
  obtain ⟨za, e⟩ := ky_chkE e
  refine v_aload_n (i := 0) (j := 0) rfl rfl (?_ : ky_V _ _ _ 1 _ _ _ _)
  rcases y1 : (sk_r s a 8) with _ | l2
  · replace e := ky_omN y1 e
    refine gf_X11_420 rfl (i := 1) rfl (oc_X11 hm (ly_X11_c za)) (sk_rn y1) (?_ : ky_V _ _ _ 4 _ _ _ _)
    refine v_ifnonnullN (i := 2) rfl (?_ : ky_V _ _ _ 7 _ _ _ _)
    refine v_aload_n (i := 3) (j := 0) rfl rfl (?_ : ky_V _ _ _ 8 _ _ _ _)
    refine nw_X7 (by rw [show M_X11_image.1.cls = "WaistSand" from rfl]; exact ky_t1 (i := 116) rfl rfl) (i := 4) rfl ?_
    refine sk_snw hm fr 7 0 rfl (fun a3 h4 ea3 hmh4 frh4 => ?_)
    replace e := ky_letE ea3 e
    have hya3 : sk_n s ≤ a3 := by rw [ea3]; exact fr.2.2
    obtain ⟨q5, eq5⟩ : ∃ z, z = (sk_nw s 7 0 5) := ⟨_, rfl⟩
    rw [← eq5] at hmh4 frh4
    replace e := ky_letE eq5 e
    refine (?_ : ky_V _ _ _ 11 _ (.ref a3 :: _) _ _)
    refine v_dup (i := 5) rfl rfl (?_ : ky_V _ _ _ 12 _ _ _ _)
    obtain ⟨⟨q7, x8⟩, g9, e⟩ := Option.bind_eq_some_iff.mp e
    refine cl_X11_32 (As := []) rfl (i := 6) rfl rfl rfl (Nat.le_of_ble_eq_true rfl) (k_X7_init N hG hmh4 g9 (fun h6 hmh6 frh6 => ⟨_, rfl, (?_ : ky_V _ _ _ 15 _ [.ref a3, .ref a] _ _)⟩))
    have frh6 := frh4.ti frh6 hm hya3
    refine pf_X11_420 rfl (i := 7) rfl (oc_X11 hmh6 (ly_X11_c (lt_X11 frh6 za))) (Nat.le_of_ble_eq_true rfl) rfl rfl ?_
    refine sk_str (kd := 10) (n := 0) hmh6 frh6 (ly_X11_c (lt_X11 frh6 za)) 8 (some a3) (Or.inl rfl) (fun h10 hmh10 frh10 => ?_)
    obtain ⟨q11, eq11⟩ : ∃ z, z = (sk_wr q7 a 8 (some a3)) := ⟨_, rfl⟩
    rw [← eq11] at hmh10 frh10
    replace e := ky_letE eq11 e
    refine (?_ : ky_V _ _ _ 18 _ _ _ _)
    refine v_aload_n (i := 8) (j := 0) rfl rfl (?_ : ky_V _ _ _ 19 _ _ _ _)
    rcases y12 : (sk_r q11 a 8) with _ | l13
    · replace e := ky_omN y12 e
      refine gf_X11_420 rfl (i := 9) rfl (oc_X11 hmh10 (ly_X11_c (lt_X11 frh10 za))) (sk_rn y12) (?_ : ky_V _ _ _ 22 _ _ _ _)
      refine v_aload_n (i := 10) (j := 0) rfl rfl (?_ : ky_V _ _ _ 23 _ _ _ _)
      refine gf_X11_33 rfl (i := 11) rfl (oc_X11 hmh10 (ly_X11_c (lt_X11 frh10 za))) (sk_rf (ly_X11_r3 (lt_X11 frh10 za))) (?_ : ky_V _ _ _ 26 _ (.ref (a + 12) :: _) _ _)
      cases e
    · replace e := ky_omS y12 e
      refine gf_X11_420 rfl (i := 9) rfl (oc_X11 hmh10 (ly_X11_c (lt_X11 frh10 za))) (sk_rf y12) (?_ : ky_V _ _ _ 22 _ _ _ _)
      refine v_aload_n (i := 10) (j := 0) rfl rfl (?_ : ky_V _ _ _ 23 _ _ _ _)
      refine gf_X11_33 rfl (i := 11) rfl (oc_X11 hmh10 (ly_X11_c (lt_X11 frh10 za))) (sk_rf (ly_X11_r3 (lt_X11 frh10 za))) (?_ : ky_V _ _ _ 26 _ (.ref (a + 12) :: _) _ _)
      obtain ⟨z14, e⟩ := ky_chkE e
      obtain ⟨⟨q16, x17⟩, g18, e⟩ := Option.bind_eq_some_iff.mp e
      refine cl_X11_417 (As := [.ref ((a + 12))]) rfl (i := 12) rfl (oc_X7 hmh10 (ly_X7_c z14)) rfl rfl (Nat.le_of_ble_eq_true rfl) (k_X7_become N hG hmh10 g18 (fun h15 hmh15 frh15 => ⟨_, rfl, (?_ : ky_V _ _ _ 29 _ [] _ _)⟩))
      have frh15 := frh10.tr frh15
      refine v_vret (i := 13) rfl rfl ?_
      obtain ⟨rfl, rfl⟩ := ky_leaf e
      exact hr _ hmh15 frh15
  · replace e := ky_omS y1 e
    refine gf_X11_420 rfl (i := 1) rfl (oc_X11 hm (ly_X11_c za)) (sk_rf y1) (?_ : ky_V _ _ _ 4 _ _ _ _)
    refine v_ifnonnull (tgt := 18) (i := 2) rfl (by decide) (?_ : ky_V _ _ _ 18 _ _ _ _)
    refine v_aload_n (i := 8) (j := 0) rfl rfl (?_ : ky_V _ _ _ 19 _ _ _ _)
    rcases y19 : (sk_r s a 8) with _ | l20
    · replace e := ky_omN y19 e
      refine gf_X11_420 rfl (i := 9) rfl (oc_X11 hm (ly_X11_c za)) (sk_rn y19) (?_ : ky_V _ _ _ 22 _ _ _ _)
      refine v_aload_n (i := 10) (j := 0) rfl rfl (?_ : ky_V _ _ _ 23 _ _ _ _)
      refine gf_X11_33 rfl (i := 11) rfl (oc_X11 hm (ly_X11_c za)) (sk_rf (ly_X11_r3 za)) (?_ : ky_V _ _ _ 26 _ (.ref (a + 12) :: _) _ _)
      cases e
    · replace e := ky_omS y19 e
      refine gf_X11_420 rfl (i := 9) rfl (oc_X11 hm (ly_X11_c za)) (sk_rf y19) (?_ : ky_V _ _ _ 22 _ _ _ _)
      refine v_aload_n (i := 10) (j := 0) rfl rfl (?_ : ky_V _ _ _ 23 _ _ _ _)
      refine gf_X11_33 rfl (i := 11) rfl (oc_X11 hm (ly_X11_c za)) (sk_rf (ly_X11_r3 za)) (?_ : ky_V _ _ _ 26 _ (.ref (a + 12) :: _) _ _)
      obtain ⟨z21, e⟩ := ky_chkE e
      obtain ⟨⟨q23, x24⟩, g25, e⟩ := Option.bind_eq_some_iff.mp e
      refine cl_X11_417 (As := [.ref ((a + 12))]) rfl (i := 12) rfl (oc_X7 hm (ly_X7_c z21)) rfl rfl (Nat.le_of_ble_eq_true rfl) (k_X7_become N hG hm g25 (fun h22 hmh22 frh22 => ⟨_, rfl, (?_ : ky_V _ _ _ 29 _ [] _ _)⟩))
      have frh22 := fr.tr frh22
      refine v_vret (i := 13) rfl rfl ?_
      obtain ⟨rfl, rfl⟩ := ky_leaf e
      exact hr _ hmh22 frh22

def x11_forgetPast (N : Nat)  (s : sk_S) (a : Nat) : Option (sk_S × Int32) := (if lay_X11 (sk_K s) (sk_r s) a = true then (ky_let (sk_wc s a 7 0) (fun q2 => (ky_om (sk_r q2 a 9) (some (q2, 0)) (fun l4 => (ky_om (sk_r q2 a 9) none (fun l6 => (if lay_X10 (sk_K q2) (sk_r q2) l6 = true then ((x10_forget N q2 l6).bind (fun zz => (fun q9 x10 => (some (q9, 0))) zz.1 zz.2)) else none))))))) else none)
set_option maxRecDepth 20000 in
set_option maxHeartbeats 4000000 in
theorem k_X11_forgetPast {G : ky_GW} {d : Nat} {h : ky_HP} {Q : ky_RS → ky_HP → Prop} {s s9 : sk_S} {r9 : Int32} {a : Nat} (N : Nat) (hG : ky_OK G)   (hm : sk_hp G s h)  (e : x11_forgetPast N  s a = some (s9, r9)) (hr : ∀ h1, sk_hp G s9 h1 → sk_fr none s h s9 h1 → Q (.inl none) h1) : ky_Call G (d + 1) M_X11_forgetPast [.ref a] h Q := by
  refine ky_ofV (by decide +kernel) rfl ok_X11_forgetPast (Nat.le_of_ble_eq_true rfl) ?_
  have fr : sk_fr none s h s h := sk_fr.rf
  unfold x11_forgetPast at e
  refine (?_ : ky_V _ _ _ 0 [(0, .ref a)] [] _ _)
  obtain ⟨za, e⟩ := ky_chkE e
  refine v_aload_n (i := 0) (j := 0) rfl rfl (?_ : ky_V _ _ _ 1 _ _ _ _)
  refine v_iconst (v := 0) (i := 1) rfl (by decide) (?_ : ky_V _ _ _ 2 _ _ _ _)
  refine pf_X11_414 rfl (i := 2) rfl (oc_X11 hm (ly_X11_c za)) (Nat.le_of_ble_eq_true rfl) rfl rfl ?_
  refine sk_stc (kd := 10) (n := 0) hm fr (ly_X11_c za) 7 0 (fun h1 hmh1 frh1 => ?_)
  obtain ⟨q2, eq2⟩ : ∃ z, z = (sk_wc s a 7 0) := ⟨_, rfl⟩
  rw [← eq2] at hmh1 frh1
  replace e := ky_letE eq2 e
  refine (?_ : ky_V _ _ _ 5 _ _ _ _)
  refine v_aload_n (i := 3) (j := 0) rfl rfl (?_ : ky_V _ _ _ 6 _ _ _ _)
  rcases y3 : (sk_r q2 a 9) with _ | l4
  · replace e := ky_omN y3 e
    refine gf_X11_435 rfl (i := 4) rfl (oc_X11 hmh1 (ly_X11_c (lt_X11 frh1 za))) (sk_rn y3) (?_ : ky_V _ _ _ 9 _ _ _ _)
    refine v_ifnullN (tgt := 19) (i := 5) rfl (by decide) (?_ : ky_V _ _ _ 19 _ _ _ _)
    refine v_vret (i := 9) rfl rfl ?_
    obtain ⟨rfl, rfl⟩ := ky_leaf e
    exact hr _ hmh1 frh1
  · replace e := ky_omS y3 e
    refine gf_X11_435 rfl (i := 4) rfl (oc_X11 hmh1 (ly_X11_c (lt_X11 frh1 za))) (sk_rf y3) (?_ : ky_V _ _ _ 9 _ _ _ _)
    refine v_ifnull (i := 5) rfl (?_ : ky_V _ _ _ 12 _ _ _ _)
    refine v_aload_n (i := 6) (j := 0) rfl rfl (?_ : ky_V _ _ _ 13 _ _ _ _)
    rcases y5 : (sk_r q2 a 9) with _ | l6
    · replace e := ky_omN y5 e
      refine gf_X11_435 rfl (i := 7) rfl (oc_X11 hmh1 (ly_X11_c (lt_X11 frh1 za))) (sk_rn y5) (?_ : ky_V _ _ _ 16 _ _ _ _)
      cases e
    · replace e := ky_omS y5 e
      refine gf_X11_435 rfl (i := 7) rfl (oc_X11 hmh1 (ly_X11_c (lt_X11 frh1 za))) (sk_rf y5) (?_ : ky_V _ _ _ 16 _ _ _ _)
      obtain ⟨z7, e⟩ := ky_chkE e
      obtain ⟨⟨q9, x10⟩, g11, e⟩ := Option.bind_eq_some_iff.mp e
      refine cl_X11_439 (As := []) rfl (i := 8) rfl (oc_X10 hmh1 (ly_X10_c z7)) rfl rfl (Nat.le_of_ble_eq_true rfl) (k_X10_forget N hG hmh1 g11 (fun h8 hmh8 frh8 => ⟨_, rfl, (?_ : ky_V _ _ _ 19 _ [] _ _)⟩))
      have frh8 := frh1.tr frh8
      refine v_vret (i := 9) rfl rfl ?_
      obtain ⟨rfl, rfl⟩ := ky_leaf e
      exact hr _ hmh8 frh8

def x11_count (N : Nat)  (s : sk_S) (a : Nat) (p1 : Int32) : Option (sk_S × Int32) := (if lay_X11 (sk_K s) (sk_r s) a = true then (if p1 = 0 then ((x5_part N s (sk_c s (a + 13) 0) p1).bind (fun zz => (fun q3 x4 => (some (q3, x4))) zz.1 zz.2)) else (if p1 = 1 then ((x5_part N s (sk_c s (a + 13) 0) p1).bind (fun zz => (fun q8 x9 => (some (q8, x9))) zz.1 zz.2)) else (if p1 = 2 then ((x5_part N s (sk_c s (a + 13) 0) p1).bind (fun zz => (fun q13 x14 => (some (q13, x14))) zz.1 zz.2)) else (if p1 = 3 then ((x5_part N s (sk_c s (a + 13) 0) p1).bind (fun zz => (fun q18 x19 => (some (q18, x19))) zz.1 zz.2)) else (if p1 = 4 then (some (s, (sk_c s (a + 13) 1))) else (if p1 = 5 then (some (s, (sk_c s (a + 13) 2))) else (if p1 = 6 then (some (s, (sk_c s (a + 13) 3))) else (if p1 = 7 then (some (s, (sk_c s (a + 13) 4))) else (if p1 = 8 then (some (s, (sk_c s (a + 13) 5))) else (if p1 = 9 then (if (po_isOut (sk_c s (a + 13) 0)) = 0 then (some (s, 0)) else (some (s, 1))) else (if p1 = 10 then ((x1_isDrowned N s (a + 13)).bind (fun zz => (fun q30 x31 => (if x31 = 0 then (some (q30, 0)) else (some (q30, 1)))) zz.1 zz.2)) else (if p1 = 11 then (some (s, (sk_c s (a + 13) 6))) else (if p1 = 12 then (some (s, (sk_c s (a + 16) 5))) else (if p1 = 13 then (some (s, (sk_c s (a + 16) 6))) else (if p1 = 14 then (some (s, (sk_c s (a + 16) 7))) else (if p1 = 15 then (some (s, (sk_c s (a + 12) 4))) else (if p1 = 16 then (ky_om (sk_r s (a + 14) 1) (some (s, (-1))) (fun l41 => (ky_om (sk_r s (a + 14) 1) none (fun l43 => (if lay_X3 (sk_K s) (sk_r s) l43 = true then (some (s, (sk_c s l43 0))) else none))))) else (if p1 = 17 then (some (s, (sk_c s (a + 20) 2))) else (if p1 = 18 then (some (s, (sk_c s a 7))) else (some (s, (-1)))))))))))))))))))))) else none)
set_option maxRecDepth 20000 in
set_option maxHeartbeats 4000000 in
theorem k_X11_count {G : ky_GW} {d : Nat} {h : ky_HP} {Q : ky_RS → ky_HP → Prop} {s s9 : sk_S} {r9 : Int32} {a : Nat} {p1 : Int32} (N : Nat) (hG : ky_OK G)   (hm : sk_hp G s h)  (e : x11_count N  s a p1 = some (s9, r9)) (hr : ∀ h1, sk_hp G s9 h1 → sk_fr none s h s9 h1 → Q (.inl (some (.int r9))) h1) : ky_Call G (d + 2) M_X11_count [.ref a, .int p1] h Q := by
  refine ky_ofV (by decide +kernel) rfl ok_X11_count (Nat.le_of_ble_eq_true rfl) ?_
  have fr : sk_fr none s h s h := sk_fr.rf
  unfold x11_count at e
  refine (?_ : ky_V _ _ _ 0 [(0, .ref a), (1, .int p1)] [] _ _)
  obtain ⟨za, e⟩ := ky_chkE e
  refine v_iload_n (i := 0) (j := 1) rfl rfl (?_ : ky_V _ _ _ 1 _ _ _ _)
  rcases Classical.em (p1 = 0) with c1 | c1
  · replace e := ky_ifT c1 e
    refine v_tableIn (off := 91) (tgt := 92) (i := 1) rfl (by rw [c1]; decide) (by rw [c1]; decide) (by rw [c1]; rfl) (by decide) ?_
    refine v_aload_n (i := 2) (j := 0) rfl rfl (?_ : ky_V _ _ _ 93 _ _ _ _)
    refine gf_X11_33 rfl (i := 3) rfl (oc_X11 hm (ly_X11_c za)) (sk_rf (ly_X11_r3 za)) (?_ : ky_V _ _ _ 96 _ (.ref (a + 12) :: _) _ _)
    refine gf_X11_191 rfl (i := 4) rfl (oc_X7 hm (ly_X7_c (ly_X11_l3 za))) (sk_rf (ly_X7_r0 (ly_X11_l3 za))) (?_ : ky_V _ _ _ 99 _ (.ref (a + 13) :: _) _ _)
    refine gf_X11_209 rfl (i := 5) rfl (oc_X1 hm (ly_X1_c (ly_X7_l0 (ly_X11_l3 za)))) rfl (?_ : ky_V _ _ _ 102 _ _ _ _)
    refine v_iload_n (i := 6) (j := 1) rfl rfl (?_ : ky_V _ _ _ 103 _ _ _ _)
    obtain ⟨⟨q3, x4⟩, g5, e⟩ := Option.bind_eq_some_iff.mp e
    refine cl_X11_274 (As := [.int ((sk_c s (a + 13) 0)), .int p1]) rfl (i := 7) rfl rfl rfl (Nat.le_of_ble_eq_true rfl) (k_X5_part N hG hm g5 (fun h2 hmh2 frh2 => ⟨_, rfl, (?_ : ky_V _ _ _ 106 _ [.int x4] _ _)⟩))
    have frh2 := fr.tr frh2
    refine v_iret (v := x4) (ty := .int) (i := 8) rfl rfl rfl ?_
    obtain ⟨rfl, rfl⟩ := ky_leaf e
    exact hr _ hmh2 frh2
  · replace e := ky_ifF c1 e
    rcases Classical.em (p1 = 1) with c6 | c6
    · replace e := ky_ifT c6 e
      refine v_tableIn (off := 91) (tgt := 92) (i := 1) rfl (by rw [c6]; decide) (by rw [c6]; decide) (by rw [c6]; rfl) (by decide) ?_
      refine v_aload_n (i := 2) (j := 0) rfl rfl (?_ : ky_V _ _ _ 93 _ _ _ _)
      refine gf_X11_33 rfl (i := 3) rfl (oc_X11 hm (ly_X11_c za)) (sk_rf (ly_X11_r3 za)) (?_ : ky_V _ _ _ 96 _ (.ref (a + 12) :: _) _ _)
      refine gf_X11_191 rfl (i := 4) rfl (oc_X7 hm (ly_X7_c (ly_X11_l3 za))) (sk_rf (ly_X7_r0 (ly_X11_l3 za))) (?_ : ky_V _ _ _ 99 _ (.ref (a + 13) :: _) _ _)
      refine gf_X11_209 rfl (i := 5) rfl (oc_X1 hm (ly_X1_c (ly_X7_l0 (ly_X11_l3 za)))) rfl (?_ : ky_V _ _ _ 102 _ _ _ _)
      refine v_iload_n (i := 6) (j := 1) rfl rfl (?_ : ky_V _ _ _ 103 _ _ _ _)
      obtain ⟨⟨q8, x9⟩, g10, e⟩ := Option.bind_eq_some_iff.mp e
      refine cl_X11_274 (As := [.int ((sk_c s (a + 13) 0)), .int p1]) rfl (i := 7) rfl rfl rfl (Nat.le_of_ble_eq_true rfl) (k_X5_part N hG hm g10 (fun h7 hmh7 frh7 => ⟨_, rfl, (?_ : ky_V _ _ _ 106 _ [.int x9] _ _)⟩))
      have frh7 := fr.tr frh7
      refine v_iret (v := x9) (ty := .int) (i := 8) rfl rfl rfl ?_
      obtain ⟨rfl, rfl⟩ := ky_leaf e
      exact hr _ hmh7 frh7
    · replace e := ky_ifF c6 e
      rcases Classical.em (p1 = 2) with c11 | c11
      · replace e := ky_ifT c11 e
        refine v_tableIn (off := 91) (tgt := 92) (i := 1) rfl (by rw [c11]; decide) (by rw [c11]; decide) (by rw [c11]; rfl) (by decide) ?_
        refine v_aload_n (i := 2) (j := 0) rfl rfl (?_ : ky_V _ _ _ 93 _ _ _ _)
        refine gf_X11_33 rfl (i := 3) rfl (oc_X11 hm (ly_X11_c za)) (sk_rf (ly_X11_r3 za)) (?_ : ky_V _ _ _ 96 _ (.ref (a + 12) :: _) _ _)
        refine gf_X11_191 rfl (i := 4) rfl (oc_X7 hm (ly_X7_c (ly_X11_l3 za))) (sk_rf (ly_X7_r0 (ly_X11_l3 za))) (?_ : ky_V _ _ _ 99 _ (.ref (a + 13) :: _) _ _)
        refine gf_X11_209 rfl (i := 5) rfl (oc_X1 hm (ly_X1_c (ly_X7_l0 (ly_X11_l3 za)))) rfl (?_ : ky_V _ _ _ 102 _ _ _ _)
        refine v_iload_n (i := 6) (j := 1) rfl rfl (?_ : ky_V _ _ _ 103 _ _ _ _)
        obtain ⟨⟨q13, x14⟩, g15, e⟩ := Option.bind_eq_some_iff.mp e
        refine cl_X11_274 (As := [.int ((sk_c s (a + 13) 0)), .int p1]) rfl (i := 7) rfl rfl rfl (Nat.le_of_ble_eq_true rfl) (k_X5_part N hG hm g15 (fun h12 hmh12 frh12 => ⟨_, rfl, (?_ : ky_V _ _ _ 106 _ [.int x14] _ _)⟩))
        have frh12 := fr.tr frh12
        refine v_iret (v := x14) (ty := .int) (i := 8) rfl rfl rfl ?_
        obtain ⟨rfl, rfl⟩ := ky_leaf e
        exact hr _ hmh12 frh12
      · replace e := ky_ifF c11 e
        rcases Classical.em (p1 = 3) with c16 | c16
        · replace e := ky_ifT c16 e
          refine v_tableIn (off := 91) (tgt := 92) (i := 1) rfl (by rw [c16]; decide) (by rw [c16]; decide) (by rw [c16]; rfl) (by decide) ?_
          refine v_aload_n (i := 2) (j := 0) rfl rfl (?_ : ky_V _ _ _ 93 _ _ _ _)
          refine gf_X11_33 rfl (i := 3) rfl (oc_X11 hm (ly_X11_c za)) (sk_rf (ly_X11_r3 za)) (?_ : ky_V _ _ _ 96 _ (.ref (a + 12) :: _) _ _)
          refine gf_X11_191 rfl (i := 4) rfl (oc_X7 hm (ly_X7_c (ly_X11_l3 za))) (sk_rf (ly_X7_r0 (ly_X11_l3 za))) (?_ : ky_V _ _ _ 99 _ (.ref (a + 13) :: _) _ _)
          refine gf_X11_209 rfl (i := 5) rfl (oc_X1 hm (ly_X1_c (ly_X7_l0 (ly_X11_l3 za)))) rfl (?_ : ky_V _ _ _ 102 _ _ _ _)
          refine v_iload_n (i := 6) (j := 1) rfl rfl (?_ : ky_V _ _ _ 103 _ _ _ _)
          obtain ⟨⟨q18, x19⟩, g20, e⟩ := Option.bind_eq_some_iff.mp e
          refine cl_X11_274 (As := [.int ((sk_c s (a + 13) 0)), .int p1]) rfl (i := 7) rfl rfl rfl (Nat.le_of_ble_eq_true rfl) (k_X5_part N hG hm g20 (fun h17 hmh17 frh17 => ⟨_, rfl, (?_ : ky_V _ _ _ 106 _ [.int x19] _ _)⟩))
          have frh17 := fr.tr frh17
          refine v_iret (v := x19) (ty := .int) (i := 8) rfl rfl rfl ?_
          obtain ⟨rfl, rfl⟩ := ky_leaf e
          exact hr _ hmh17 frh17
        · replace e := ky_ifF c16 e
          rcases Classical.em (p1 = 4) with c21 | c21
          · replace e := ky_ifT c21 e
            refine v_tableIn (off := 106) (tgt := 107) (i := 1) rfl (by rw [c21]; decide) (by rw [c21]; decide) (by rw [c21]; rfl) (by decide) ?_
            refine v_aload_n (i := 9) (j := 0) rfl rfl (?_ : ky_V _ _ _ 108 _ _ _ _)
            refine gf_X11_33 rfl (i := 10) rfl (oc_X11 hm (ly_X11_c za)) (sk_rf (ly_X11_r3 za)) (?_ : ky_V _ _ _ 111 _ (.ref (a + 12) :: _) _ _)
            refine gf_X11_191 rfl (i := 11) rfl (oc_X7 hm (ly_X7_c (ly_X11_l3 za))) (sk_rf (ly_X7_r0 (ly_X11_l3 za))) (?_ : ky_V _ _ _ 114 _ (.ref (a + 13) :: _) _ _)
            refine gf_X11_233 rfl (i := 12) rfl (oc_X1 hm (ly_X1_c (ly_X7_l0 (ly_X11_l3 za)))) rfl (?_ : ky_V _ _ _ 117 _ _ _ _)
            refine v_iret (v := (sk_c s (a + 13) 1)) (ty := .int) (i := 13) rfl rfl rfl ?_
            obtain ⟨rfl, rfl⟩ := ky_leaf e
            exact hr _ hm fr
          · replace e := ky_ifF c21 e
            rcases Classical.em (p1 = 5) with c22 | c22
            · replace e := ky_ifT c22 e
              refine v_tableIn (off := 117) (tgt := 118) (i := 1) rfl (by rw [c22]; decide) (by rw [c22]; decide) (by rw [c22]; rfl) (by decide) ?_
              refine v_aload_n (i := 14) (j := 0) rfl rfl (?_ : ky_V _ _ _ 119 _ _ _ _)
              refine gf_X11_33 rfl (i := 15) rfl (oc_X11 hm (ly_X11_c za)) (sk_rf (ly_X11_r3 za)) (?_ : ky_V _ _ _ 122 _ (.ref (a + 12) :: _) _ _)
              refine gf_X11_191 rfl (i := 16) rfl (oc_X7 hm (ly_X7_c (ly_X11_l3 za))) (sk_rf (ly_X7_r0 (ly_X11_l3 za))) (?_ : ky_V _ _ _ 125 _ (.ref (a + 13) :: _) _ _)
              refine gf_X11_242 rfl (i := 17) rfl (oc_X1 hm (ly_X1_c (ly_X7_l0 (ly_X11_l3 za)))) rfl (?_ : ky_V _ _ _ 128 _ _ _ _)
              refine v_iret (v := (sk_c s (a + 13) 2)) (ty := .int) (i := 18) rfl rfl rfl ?_
              obtain ⟨rfl, rfl⟩ := ky_leaf e
              exact hr _ hm fr
            · replace e := ky_ifF c22 e
              rcases Classical.em (p1 = 6) with c23 | c23
              · replace e := ky_ifT c23 e
                refine v_tableIn (off := 128) (tgt := 129) (i := 1) rfl (by rw [c23]; decide) (by rw [c23]; decide) (by rw [c23]; rfl) (by decide) ?_
                refine v_aload_n (i := 19) (j := 0) rfl rfl (?_ : ky_V _ _ _ 130 _ _ _ _)
                refine gf_X11_33 rfl (i := 20) rfl (oc_X11 hm (ly_X11_c za)) (sk_rf (ly_X11_r3 za)) (?_ : ky_V _ _ _ 133 _ (.ref (a + 12) :: _) _ _)
                refine gf_X11_191 rfl (i := 21) rfl (oc_X7 hm (ly_X7_c (ly_X11_l3 za))) (sk_rf (ly_X7_r0 (ly_X11_l3 za))) (?_ : ky_V _ _ _ 136 _ (.ref (a + 13) :: _) _ _)
                refine gf_X11_225 rfl (i := 22) rfl (oc_X1 hm (ly_X1_c (ly_X7_l0 (ly_X11_l3 za)))) rfl (?_ : ky_V _ _ _ 139 _ _ _ _)
                refine v_iret (v := (sk_c s (a + 13) 3)) (ty := .int) (i := 23) rfl rfl rfl ?_
                obtain ⟨rfl, rfl⟩ := ky_leaf e
                exact hr _ hm fr
              · replace e := ky_ifF c23 e
                rcases Classical.em (p1 = 7) with c24 | c24
                · replace e := ky_ifT c24 e
                  refine v_tableIn (off := 139) (tgt := 140) (i := 1) rfl (by rw [c24]; decide) (by rw [c24]; decide) (by rw [c24]; rfl) (by decide) ?_
                  refine v_aload_n (i := 24) (j := 0) rfl rfl (?_ : ky_V _ _ _ 141 _ _ _ _)
                  refine gf_X11_33 rfl (i := 25) rfl (oc_X11 hm (ly_X11_c za)) (sk_rf (ly_X11_r3 za)) (?_ : ky_V _ _ _ 144 _ (.ref (a + 12) :: _) _ _)
                  refine gf_X11_191 rfl (i := 26) rfl (oc_X7 hm (ly_X7_c (ly_X11_l3 za))) (sk_rf (ly_X7_r0 (ly_X11_l3 za))) (?_ : ky_V _ _ _ 147 _ (.ref (a + 13) :: _) _ _)
                  refine gf_X11_319 rfl (i := 27) rfl (oc_X1 hm (ly_X1_c (ly_X7_l0 (ly_X11_l3 za)))) rfl (?_ : ky_V _ _ _ 150 _ _ _ _)
                  refine v_iret (v := (sk_c s (a + 13) 4)) (ty := .int) (i := 28) rfl rfl rfl ?_
                  obtain ⟨rfl, rfl⟩ := ky_leaf e
                  exact hr _ hm fr
                · replace e := ky_ifF c24 e
                  rcases Classical.em (p1 = 8) with c25 | c25
                  · replace e := ky_ifT c25 e
                    refine v_tableIn (off := 150) (tgt := 151) (i := 1) rfl (by rw [c25]; decide) (by rw [c25]; decide) (by rw [c25]; rfl) (by decide) ?_
                    refine v_aload_n (i := 29) (j := 0) rfl rfl (?_ : ky_V _ _ _ 152 _ _ _ _)
                    refine gf_X11_33 rfl (i := 30) rfl (oc_X11 hm (ly_X11_c za)) (sk_rf (ly_X11_r3 za)) (?_ : ky_V _ _ _ 155 _ (.ref (a + 12) :: _) _ _)
                    refine gf_X11_191 rfl (i := 31) rfl (oc_X7 hm (ly_X7_c (ly_X11_l3 za))) (sk_rf (ly_X7_r0 (ly_X11_l3 za))) (?_ : ky_V _ _ _ 158 _ (.ref (a + 13) :: _) _ _)
                    refine gf_X11_290 rfl (i := 32) rfl (oc_X1 hm (ly_X1_c (ly_X7_l0 (ly_X11_l3 za)))) rfl (?_ : ky_V _ _ _ 161 _ _ _ _)
                    refine v_iret (v := (sk_c s (a + 13) 5)) (ty := .int) (i := 33) rfl rfl rfl ?_
                    obtain ⟨rfl, rfl⟩ := ky_leaf e
                    exact hr _ hm fr
                  · replace e := ky_ifF c25 e
                    rcases Classical.em (p1 = 9) with c26 | c26
                    · replace e := ky_ifT c26 e
                      refine v_tableIn (off := 161) (tgt := 162) (i := 1) rfl (by rw [c26]; decide) (by rw [c26]; decide) (by rw [c26]; rfl) (by decide) ?_
                      refine v_aload_n (i := 34) (j := 0) rfl rfl (?_ : ky_V _ _ _ 163 _ _ _ _)
                      refine gf_X11_33 rfl (i := 35) rfl (oc_X11 hm (ly_X11_c za)) (sk_rf (ly_X11_r3 za)) (?_ : ky_V _ _ _ 166 _ (.ref (a + 12) :: _) _ _)
                      refine gf_X11_191 rfl (i := 36) rfl (oc_X7 hm (ly_X7_c (ly_X11_l3 za))) (sk_rf (ly_X7_r0 (ly_X11_l3 za))) (?_ : ky_V _ _ _ 169 _ (.ref (a + 13) :: _) _ _)
                      refine gf_X11_209 rfl (i := 37) rfl (oc_X1 hm (ly_X1_c (ly_X7_l0 (ly_X11_l3 za)))) rfl (?_ : ky_V _ _ _ 172 _ _ _ _)
                      refine cl_X11_423 (As := [.int ((sk_c s (a + 13) 0))]) rfl (i := 38) rfl rfl rfl (Nat.le_of_ble_eq_true rfl) (k_X5_isOut (sk_c s (a + 13) 0) ⟨_, rfl, (?_ : ky_V _ _ _ 175 _ [.int ((po_isOut (sk_c s (a + 13) 0)))] _ _)⟩)
                      refine v_if_eq (tgt := 182) (i := 39) rfl (by decide) (fun c27 => ?_) (fun c27 => ?_)
                      · replace e := ky_ifT c27 e
                        refine v_iconst (v := 0) (i := 42) rfl (by decide) (?_ : ky_V _ _ _ 183 _ _ _ _)
                        refine v_iret (v := 0) (ty := .int) (i := 43) rfl rfl rfl ?_
                        obtain ⟨rfl, rfl⟩ := ky_leaf e
                        exact hr _ hm fr
                      · replace e := ky_ifF c27 e
                        refine v_iconst (v := 1) (i := 40) rfl (by decide) (?_ : ky_V _ _ _ 179 _ _ _ _)
                        refine v_goto (tgt := 183) (i := 41) rfl (by decide) (?_ : ky_V _ _ _ 183 _ _ _ _)
                        refine v_iret (v := 1) (ty := .int) (i := 43) rfl rfl rfl ?_
                        obtain ⟨rfl, rfl⟩ := ky_leaf e
                        exact hr _ hm fr
                    · replace e := ky_ifF c26 e
                      rcases Classical.em (p1 = 10) with c28 | c28
                      · replace e := ky_ifT c28 e
                        refine v_tableIn (off := 183) (tgt := 184) (i := 1) rfl (by rw [c28]; decide) (by rw [c28]; decide) (by rw [c28]; rfl) (by decide) ?_
                        refine v_aload_n (i := 44) (j := 0) rfl rfl (?_ : ky_V _ _ _ 185 _ _ _ _)
                        refine gf_X11_33 rfl (i := 45) rfl (oc_X11 hm (ly_X11_c za)) (sk_rf (ly_X11_r3 za)) (?_ : ky_V _ _ _ 188 _ (.ref (a + 12) :: _) _ _)
                        refine gf_X11_191 rfl (i := 46) rfl (oc_X7 hm (ly_X7_c (ly_X11_l3 za))) (sk_rf (ly_X7_r0 (ly_X11_l3 za))) (?_ : ky_V _ _ _ 191 _ (.ref (a + 13) :: _) _ _)
                        obtain ⟨⟨q30, x31⟩, g32, e⟩ := Option.bind_eq_some_iff.mp e
                        refine cl_X11_228 (As := []) rfl (i := 47) rfl (oc_X1 hm (ly_X1_c (ly_X7_l0 (ly_X11_l3 za)))) rfl rfl (Nat.le_of_ble_eq_true rfl) (k_X1_isDrowned N hG hm g32 (fun h29 hmh29 frh29 => ⟨_, rfl, (?_ : ky_V _ _ _ 194 _ [.int x31] _ _)⟩))
                        have frh29 := fr.tr frh29
                        refine v_if_eq (tgt := 201) (i := 48) rfl (by decide) (fun c33 => ?_) (fun c33 => ?_)
                        · replace e := ky_ifT c33 e
                          refine v_iconst (v := 0) (i := 51) rfl (by decide) (?_ : ky_V _ _ _ 202 _ _ _ _)
                          refine v_iret (v := 0) (ty := .int) (i := 52) rfl rfl rfl ?_
                          obtain ⟨rfl, rfl⟩ := ky_leaf e
                          exact hr _ hmh29 frh29
                        · replace e := ky_ifF c33 e
                          refine v_iconst (v := 1) (i := 49) rfl (by decide) (?_ : ky_V _ _ _ 198 _ _ _ _)
                          refine v_goto (tgt := 202) (i := 50) rfl (by decide) (?_ : ky_V _ _ _ 202 _ _ _ _)
                          refine v_iret (v := 1) (ty := .int) (i := 52) rfl rfl rfl ?_
                          obtain ⟨rfl, rfl⟩ := ky_leaf e
                          exact hr _ hmh29 frh29
                      · replace e := ky_ifF c28 e
                        rcases Classical.em (p1 = 11) with c34 | c34
                        · replace e := ky_ifT c34 e
                          refine v_tableIn (off := 202) (tgt := 203) (i := 1) rfl (by rw [c34]; decide) (by rw [c34]; decide) (by rw [c34]; rfl) (by decide) ?_
                          refine v_aload_n (i := 53) (j := 0) rfl rfl (?_ : ky_V _ _ _ 204 _ _ _ _)
                          refine gf_X11_33 rfl (i := 54) rfl (oc_X11 hm (ly_X11_c za)) (sk_rf (ly_X11_r3 za)) (?_ : ky_V _ _ _ 207 _ (.ref (a + 12) :: _) _ _)
                          refine gf_X11_191 rfl (i := 55) rfl (oc_X7 hm (ly_X7_c (ly_X11_l3 za))) (sk_rf (ly_X7_r0 (ly_X11_l3 za))) (?_ : ky_V _ _ _ 210 _ (.ref (a + 13) :: _) _ _)
                          refine gf_X11_426 rfl (i := 56) rfl (oc_X1 hm (ly_X1_c (ly_X7_l0 (ly_X11_l3 za)))) rfl (?_ : ky_V _ _ _ 213 _ _ _ _)
                          refine v_iret (v := (sk_c s (a + 13) 6)) (ty := .int) (i := 57) rfl rfl rfl ?_
                          obtain ⟨rfl, rfl⟩ := ky_leaf e
                          exact hr _ hm fr
                        · replace e := ky_ifF c34 e
                          rcases Classical.em (p1 = 12) with c35 | c35
                          · replace e := ky_ifT c35 e
                            refine v_tableIn (off := 213) (tgt := 214) (i := 1) rfl (by rw [c35]; decide) (by rw [c35]; decide) (by rw [c35]; rfl) (by decide) ?_
                            refine v_aload_n (i := 58) (j := 0) rfl rfl (?_ : ky_V _ _ _ 215 _ _ _ _)
                            refine gf_X11_33 rfl (i := 59) rfl (oc_X11 hm (ly_X11_c za)) (sk_rf (ly_X11_r3 za)) (?_ : ky_V _ _ _ 218 _ (.ref (a + 12) :: _) _ _)
                            refine gf_X11_63 rfl (i := 60) rfl (oc_X7 hm (ly_X7_c (ly_X11_l3 za))) (sk_rf (ly_X7_r2 (ly_X11_l3 za))) (?_ : ky_V _ _ _ 221 _ (.ref (a + 16) :: _) _ _)
                            refine gf_X11_429 rfl (i := 61) rfl (oc_X8 hm (ly_X8_c (ly_X7_l2 (ly_X11_l3 za)))) rfl (?_ : ky_V _ _ _ 224 _ _ _ _)
                            refine v_iret (v := (sk_c s (a + 16) 5)) (ty := .int) (i := 62) rfl rfl rfl ?_
                            obtain ⟨rfl, rfl⟩ := ky_leaf e
                            exact hr _ hm fr
                          · replace e := ky_ifF c35 e
                            rcases Classical.em (p1 = 13) with c36 | c36
                            · replace e := ky_ifT c36 e
                              refine v_tableIn (off := 224) (tgt := 225) (i := 1) rfl (by rw [c36]; decide) (by rw [c36]; decide) (by rw [c36]; rfl) (by decide) ?_
                              refine v_aload_n (i := 63) (j := 0) rfl rfl (?_ : ky_V _ _ _ 226 _ _ _ _)
                              refine gf_X11_33 rfl (i := 64) rfl (oc_X11 hm (ly_X11_c za)) (sk_rf (ly_X11_r3 za)) (?_ : ky_V _ _ _ 229 _ (.ref (a + 12) :: _) _ _)
                              refine gf_X11_63 rfl (i := 65) rfl (oc_X7 hm (ly_X7_c (ly_X11_l3 za))) (sk_rf (ly_X7_r2 (ly_X11_l3 za))) (?_ : ky_V _ _ _ 232 _ (.ref (a + 16) :: _) _ _)
                              refine gf_X11_67 rfl (i := 66) rfl (oc_X8 hm (ly_X8_c (ly_X7_l2 (ly_X11_l3 za)))) rfl (?_ : ky_V _ _ _ 235 _ _ _ _)
                              refine v_iret (v := (sk_c s (a + 16) 6)) (ty := .int) (i := 67) rfl rfl rfl ?_
                              obtain ⟨rfl, rfl⟩ := ky_leaf e
                              exact hr _ hm fr
                            · replace e := ky_ifF c36 e
                              rcases Classical.em (p1 = 14) with c37 | c37
                              · replace e := ky_ifT c37 e
                                refine v_tableIn (off := 235) (tgt := 236) (i := 1) rfl (by rw [c37]; decide) (by rw [c37]; decide) (by rw [c37]; rfl) (by decide) ?_
                                refine v_aload_n (i := 68) (j := 0) rfl rfl (?_ : ky_V _ _ _ 237 _ _ _ _)
                                refine gf_X11_33 rfl (i := 69) rfl (oc_X11 hm (ly_X11_c za)) (sk_rf (ly_X11_r3 za)) (?_ : ky_V _ _ _ 240 _ (.ref (a + 12) :: _) _ _)
                                refine gf_X11_63 rfl (i := 70) rfl (oc_X7 hm (ly_X7_c (ly_X11_l3 za))) (sk_rf (ly_X7_r2 (ly_X11_l3 za))) (?_ : ky_V _ _ _ 243 _ (.ref (a + 16) :: _) _ _)
                                refine gf_X11_253 rfl (i := 71) rfl (oc_X8 hm (ly_X8_c (ly_X7_l2 (ly_X11_l3 za)))) rfl (?_ : ky_V _ _ _ 246 _ _ _ _)
                                refine v_iret (v := (sk_c s (a + 16) 7)) (ty := .int) (i := 72) rfl rfl rfl ?_
                                obtain ⟨rfl, rfl⟩ := ky_leaf e
                                exact hr _ hm fr
                              · replace e := ky_ifF c37 e
                                rcases Classical.em (p1 = 15) with c38 | c38
                                · replace e := ky_ifT c38 e
                                  refine v_tableIn (off := 246) (tgt := 247) (i := 1) rfl (by rw [c38]; decide) (by rw [c38]; decide) (by rw [c38]; rfl) (by decide) ?_
                                  refine v_aload_n (i := 73) (j := 0) rfl rfl (?_ : ky_V _ _ _ 248 _ _ _ _)
                                  refine gf_X11_33 rfl (i := 74) rfl (oc_X11 hm (ly_X11_c za)) (sk_rf (ly_X11_r3 za)) (?_ : ky_V _ _ _ 251 _ (.ref (a + 12) :: _) _ _)
                                  refine gf_X11_87 rfl (i := 75) rfl (oc_X7 hm (ly_X7_c (ly_X11_l3 za))) rfl (?_ : ky_V _ _ _ 254 _ _ _ _)
                                  refine v_iret (v := (sk_c s (a + 12) 4)) (ty := .int) (i := 76) rfl rfl rfl ?_
                                  obtain ⟨rfl, rfl⟩ := ky_leaf e
                                  exact hr _ hm fr
                                · replace e := ky_ifF c38 e
                                  rcases Classical.em (p1 = 16) with c39 | c39
                                  · replace e := ky_ifT c39 e
                                    refine v_tableIn (off := 254) (tgt := 255) (i := 1) rfl (by rw [c39]; decide) (by rw [c39]; decide) (by rw [c39]; rfl) (by decide) ?_
                                    refine v_aload_n (i := 77) (j := 0) rfl rfl (?_ : ky_V _ _ _ 256 _ _ _ _)
                                    refine gf_X11_33 rfl (i := 78) rfl (oc_X11 hm (ly_X11_c za)) (sk_rf (ly_X11_r3 za)) (?_ : ky_V _ _ _ 259 _ (.ref (a + 12) :: _) _ _)
                                    refine gf_X11_105 rfl (i := 79) rfl (oc_X7 hm (ly_X7_c (ly_X11_l3 za))) (sk_rf (ly_X7_r1 (ly_X11_l3 za))) (?_ : ky_V _ _ _ 262 _ (.ref (a + 14) :: _) _ _)
                                    rcases y40 : (sk_r s (a + 14) 1) with _ | l41
                                    · replace e := ky_omN y40 e
                                      refine gf_X11_113 rfl (i := 80) rfl (oc_X6 hm (ly_X6_c (ly_X7_l1 (ly_X11_l3 za)))) (sk_rn y40) (?_ : ky_V _ _ _ 265 _ _ _ _)
                                      refine v_ifnonnullN (i := 81) rfl (?_ : ky_V _ _ _ 268 _ _ _ _)
                                      refine v_iconst (v := (-1)) (i := 82) rfl (by decide) (?_ : ky_V _ _ _ 269 _ _ _ _)
                                      refine v_goto (tgt := 285) (i := 83) rfl (by decide) (?_ : ky_V _ _ _ 285 _ _ _ _)
                                      refine v_iret (v := (-1)) (ty := .int) (i := 89) rfl rfl rfl ?_
                                      obtain ⟨rfl, rfl⟩ := ky_leaf e
                                      exact hr _ hm fr
                                    · replace e := ky_omS y40 e
                                      refine gf_X11_113 rfl (i := 80) rfl (oc_X6 hm (ly_X6_c (ly_X7_l1 (ly_X11_l3 za)))) (sk_rf y40) (?_ : ky_V _ _ _ 265 _ _ _ _)
                                      refine v_ifnonnull (tgt := 272) (i := 81) rfl (by decide) (?_ : ky_V _ _ _ 272 _ _ _ _)
                                      refine v_aload_n (i := 84) (j := 0) rfl rfl (?_ : ky_V _ _ _ 273 _ _ _ _)
                                      refine gf_X11_33 rfl (i := 85) rfl (oc_X11 hm (ly_X11_c za)) (sk_rf (ly_X11_r3 za)) (?_ : ky_V _ _ _ 276 _ (.ref (a + 12) :: _) _ _)
                                      refine gf_X11_105 rfl (i := 86) rfl (oc_X7 hm (ly_X7_c (ly_X11_l3 za))) (sk_rf (ly_X7_r1 (ly_X11_l3 za))) (?_ : ky_V _ _ _ 279 _ (.ref (a + 14) :: _) _ _)
                                      rcases y42 : (sk_r s (a + 14) 1) with _ | l43
                                      · replace e := ky_omN y42 e
                                        refine gf_X11_113 rfl (i := 87) rfl (oc_X6 hm (ly_X6_c (ly_X7_l1 (ly_X11_l3 za)))) (sk_rn y42) (?_ : ky_V _ _ _ 282 _ _ _ _)
                                        cases e
                                      · replace e := ky_omS y42 e
                                        refine gf_X11_113 rfl (i := 87) rfl (oc_X6 hm (ly_X6_c (ly_X7_l1 (ly_X11_l3 za)))) (sk_rf y42) (?_ : ky_V _ _ _ 282 _ _ _ _)
                                        obtain ⟨z44, e⟩ := ky_chkE e
                                        refine gf_X11_119 rfl (i := 88) rfl (oc_X3 hm (ly_X3_c z44)) rfl (?_ : ky_V _ _ _ 285 _ _ _ _)
                                        refine v_iret (v := (sk_c s l43 0)) (ty := .int) (i := 89) rfl rfl rfl ?_
                                        obtain ⟨rfl, rfl⟩ := ky_leaf e
                                        exact hr _ hm fr
                                  · replace e := ky_ifF c39 e
                                    rcases Classical.em (p1 = 17) with c45 | c45
                                    · replace e := ky_ifT c45 e
                                      refine v_tableIn (off := 285) (tgt := 286) (i := 1) rfl (by rw [c45]; decide) (by rw [c45]; decide) (by rw [c45]; rfl) (by decide) ?_
                                      refine v_aload_n (i := 90) (j := 0) rfl rfl (?_ : ky_V _ _ _ 287 _ _ _ _)
                                      refine gf_X11_33 rfl (i := 91) rfl (oc_X11 hm (ly_X11_c za)) (sk_rf (ly_X11_r3 za)) (?_ : ky_V _ _ _ 290 _ (.ref (a + 12) :: _) _ _)
                                      refine gf_X11_392 rfl (i := 92) rfl (oc_X7 hm (ly_X7_c (ly_X11_l3 za))) (sk_rf (ly_X7_r3 (ly_X11_l3 za))) (?_ : ky_V _ _ _ 293 _ (.ref (a + 20) :: _) _ _)
                                      refine gf_X11_404 rfl (i := 93) rfl (oc_X2 hm (ly_X2_c (ly_X7_l3 (ly_X11_l3 za)))) rfl (?_ : ky_V _ _ _ 296 _ _ _ _)
                                      refine v_iret (v := (sk_c s (a + 20) 2)) (ty := .int) (i := 94) rfl rfl rfl ?_
                                      obtain ⟨rfl, rfl⟩ := ky_leaf e
                                      exact hr _ hm fr
                                    · replace e := ky_ifF c45 e
                                      rcases Classical.em (p1 = 18) with c46 | c46
                                      · replace e := ky_ifT c46 e
                                        refine v_tableIn (off := 296) (tgt := 297) (i := 1) rfl (by rw [c46]; decide) (by rw [c46]; decide) (by rw [c46]; rfl) (by decide) ?_
                                        refine v_aload_n (i := 95) (j := 0) rfl rfl (?_ : ky_V _ _ _ 298 _ _ _ _)
                                        refine gf_X11_414 rfl (i := 96) rfl (oc_X11 hm (ly_X11_c za)) rfl (?_ : ky_V _ _ _ 301 _ _ _ _)
                                        refine v_iret (v := (sk_c s a 7)) (ty := .int) (i := 97) rfl rfl rfl ?_
                                        obtain ⟨rfl, rfl⟩ := ky_leaf e
                                        exact hr _ hm fr
                                      · replace e := ky_ifF c46 e
                                        refine v_tableOut (tgt := 302) (i := 1) rfl (ky_swO (fun z h1 h2 => ?_)) (by decide) ?_
                                        · intro hz
                                          have h3 : z = 0 ∨ z = 1 ∨ z = 2 ∨ z = 3 ∨ z = 4 ∨ z = 5 ∨ z = 6 ∨ z = 7 ∨ z = 8 ∨ z = 9 ∨ z = 10 ∨ z = 11 ∨ z = 12 ∨ z = 13 ∨ z = 14 ∨ z = 15 ∨ z = 16 ∨ z = 17 ∨ z = 18 := by omega
                                          rcases h3 with h3 | h3 | h3 | h3 | h3 | h3 | h3 | h3 | h3 | h3 | h3 | h3 | h3 | h3 | h3 | h3 | h3 | h3 | h3 <;> subst h3
                                          · exact c1 (Int32.toInt_inj.mp (hz.trans (by decide)))
                                          · exact c6 (Int32.toInt_inj.mp (hz.trans (by decide)))
                                          · exact c11 (Int32.toInt_inj.mp (hz.trans (by decide)))
                                          · exact c16 (Int32.toInt_inj.mp (hz.trans (by decide)))
                                          · exact c21 (Int32.toInt_inj.mp (hz.trans (by decide)))
                                          · exact c22 (Int32.toInt_inj.mp (hz.trans (by decide)))
                                          · exact c23 (Int32.toInt_inj.mp (hz.trans (by decide)))
                                          · exact c24 (Int32.toInt_inj.mp (hz.trans (by decide)))
                                          · exact c25 (Int32.toInt_inj.mp (hz.trans (by decide)))
                                          · exact c26 (Int32.toInt_inj.mp (hz.trans (by decide)))
                                          · exact c28 (Int32.toInt_inj.mp (hz.trans (by decide)))
                                          · exact c34 (Int32.toInt_inj.mp (hz.trans (by decide)))
                                          · exact c35 (Int32.toInt_inj.mp (hz.trans (by decide)))
                                          · exact c36 (Int32.toInt_inj.mp (hz.trans (by decide)))
                                          · exact c37 (Int32.toInt_inj.mp (hz.trans (by decide)))
                                          · exact c38 (Int32.toInt_inj.mp (hz.trans (by decide)))
                                          · exact c39 (Int32.toInt_inj.mp (hz.trans (by decide)))
                                          · exact c45 (Int32.toInt_inj.mp (hz.trans (by decide)))
                                          · exact c46 (Int32.toInt_inj.mp (hz.trans (by decide)))
                                        · refine v_iconst (v := (-1)) (i := 98) rfl (by decide) (?_ : ky_V _ _ _ 303 _ _ _ _)
                                          refine v_iret (v := (-1)) (ty := .int) (i := 99) rfl rfl rfl ?_
                                          obtain ⟨rfl, rfl⟩ := ky_leaf e
                                          exact hr _ hm fr

def x11_useTapeUp (N : Nat)  (s : sk_S) (a : Nat) (p1 : Int32) : Option (sk_S × Int32) := (if lay_X11 (sk_K s) (sk_r s) a = true then (if p1 = 0 then (ky_let (sk_c s (a + 1) 3) (fun x2 => (ky_let (sk_wc s a 10 x2) (fun q4 => (ky_let (sk_wc q4 (a + 1) 1 0) (fun q6 => (some (q6, 0)))))))) else (ky_let (sk_wc s a 10 (-1)) (fun q8 => (ky_let (sk_wc q8 (a + 1) 1 0) (fun q10 => (some (q10, 0))))))) else none)
set_option maxRecDepth 20000 in
set_option maxHeartbeats 4000000 in
theorem k_X11_useTapeUp {G : ky_GW} {d : Nat} {h : ky_HP} {Q : ky_RS → ky_HP → Prop} {s s9 : sk_S} {r9 : Int32} {a : Nat} {p1 : Int32} (N : Nat) (hG : ky_OK G)   (hm : sk_hp G s h)  (e : x11_useTapeUp N  s a p1 = some (s9, r9)) (hr : ∀ h1, sk_hp G s9 h1 → sk_fr none s h s9 h1 → Q (.inl none) h1) : ky_Call G d M_X11_useTapeUp [.ref a, .int p1] h Q := by
  refine ky_ofV (by decide +kernel) rfl ok_X11_useTapeUp (Nat.le_of_ble_eq_true rfl) ?_
  have fr : sk_fr none s h s h := sk_fr.rf
  unfold x11_useTapeUp at e
  refine (?_ : ky_V _ _ _ 0 [(0, .ref a), (1, .int p1)] [] _ _)
  obtain ⟨za, e⟩ := ky_chkE e
  refine v_aload_n (i := 0) (j := 0) rfl rfl (?_ : ky_V _ _ _ 1 _ _ _ _)
  refine v_iload_n (i := 1) (j := 1) rfl rfl (?_ : ky_V _ _ _ 2 _ _ _ _)
  refine v_if_eq (tgt := 9) (i := 2) rfl (by decide) (fun c1 => ?_) (fun c1 => ?_)
  · replace e := ky_ifT c1 e
    refine v_aload_n (i := 5) (j := 0) rfl rfl (?_ : ky_V _ _ _ 10 _ _ _ _)
    refine gf_X11_10 rfl (i := 6) rfl (oc_X11 hm (ly_X11_c za)) (sk_rf (ly_X11_r0 za)) (?_ : ky_V _ _ _ 13 _ (.ref (a + 1) :: _) _ _)
    refine gf_X11_432 rfl (i := 7) rfl (oc_X9 hm (ly_X9_c (ly_X11_l0 za))) rfl (?_ : ky_V _ _ _ 16 _ _ _ _)
    refine v_topi (fun x2 ex2 => ?_)
    replace e := ky_letE ex2 e
    refine pf_X11_48 rfl (i := 8) rfl (oc_X11 hm (ly_X11_c za)) (Nat.le_of_ble_eq_true rfl) rfl rfl ?_
    refine sk_stc (kd := 10) (n := 0) hm fr (ly_X11_c za) 10 x2 (fun h3 hmh3 frh3 => ?_)
    obtain ⟨q4, eq4⟩ : ∃ z, z = (sk_wc s a 10 x2) := ⟨_, rfl⟩
    rw [← eq4] at hmh3 frh3
    replace e := ky_letE eq4 e
    refine (?_ : ky_V _ _ _ 19 _ _ _ _)
    refine v_aload_n (i := 9) (j := 0) rfl rfl (?_ : ky_V _ _ _ 20 _ _ _ _)
    refine gf_X11_10 rfl (i := 10) rfl (oc_X11 hmh3 (ly_X11_c (lt_X11 frh3 za))) (sk_rf (ly_X11_r0 (lt_X11 frh3 za))) (?_ : ky_V _ _ _ 23 _ (.ref (a + 1) :: _) _ _)
    refine v_iconst (v := 0) (i := 11) rfl (by decide) (?_ : ky_V _ _ _ 24 _ _ _ _)
    refine pf_X11_60 rfl (i := 12) rfl (oc_X9 hmh3 (ly_X9_c (ly_X11_l0 (lt_X11 frh3 za)))) (Nat.le_of_ble_eq_true rfl) rfl rfl ?_
    refine sk_stc (kd := 8) (n := 0) hmh3 frh3 (ly_X9_c (ly_X11_l0 (lt_X11 frh3 za))) 1 0 (fun h5 hmh5 frh5 => ?_)
    obtain ⟨q6, eq6⟩ : ∃ z, z = (sk_wc q4 (a + 1) 1 0) := ⟨_, rfl⟩
    rw [← eq6] at hmh5 frh5
    replace e := ky_letE eq6 e
    refine (?_ : ky_V _ _ _ 27 _ _ _ _)
    refine v_vret (i := 13) rfl rfl ?_
    obtain ⟨rfl, rfl⟩ := ky_leaf e
    exact hr _ hmh5 frh5
  · replace e := ky_ifF c1 e
    refine v_iconst (v := (-1)) (i := 3) rfl (by decide) (?_ : ky_V _ _ _ 6 _ _ _ _)
    refine v_goto (tgt := 16) (i := 4) rfl (by decide) (?_ : ky_V _ _ _ 16 _ _ _ _)
    refine pf_X11_48 rfl (i := 8) rfl (oc_X11 hm (ly_X11_c za)) (Nat.le_of_ble_eq_true rfl) rfl rfl ?_
    refine sk_stc (kd := 10) (n := 0) hm fr (ly_X11_c za) 10 (-1) (fun h7 hmh7 frh7 => ?_)
    obtain ⟨q8, eq8⟩ : ∃ z, z = (sk_wc s a 10 (-1)) := ⟨_, rfl⟩
    rw [← eq8] at hmh7 frh7
    replace e := ky_letE eq8 e
    refine (?_ : ky_V _ _ _ 19 _ _ _ _)
    refine v_aload_n (i := 9) (j := 0) rfl rfl (?_ : ky_V _ _ _ 20 _ _ _ _)
    refine gf_X11_10 rfl (i := 10) rfl (oc_X11 hmh7 (ly_X11_c (lt_X11 frh7 za))) (sk_rf (ly_X11_r0 (lt_X11 frh7 za))) (?_ : ky_V _ _ _ 23 _ (.ref (a + 1) :: _) _ _)
    refine v_iconst (v := 0) (i := 11) rfl (by decide) (?_ : ky_V _ _ _ 24 _ _ _ _)
    refine pf_X11_60 rfl (i := 12) rfl (oc_X9 hmh7 (ly_X9_c (ly_X11_l0 (lt_X11 frh7 za)))) (Nat.le_of_ble_eq_true rfl) rfl rfl ?_
    refine sk_stc (kd := 8) (n := 0) hmh7 frh7 (ly_X9_c (ly_X11_l0 (lt_X11 frh7 za))) 1 0 (fun h9 hmh9 frh9 => ?_)
    obtain ⟨q10, eq10⟩ : ∃ z, z = (sk_wc q8 (a + 1) 1 0) := ⟨_, rfl⟩
    rw [← eq10] at hmh9 frh9
    replace e := ky_letE eq10 e
    refine (?_ : ky_V _ _ _ 27 _ _ _ _)
    refine v_vret (i := 13) rfl rfl ?_
    obtain ⟨rfl, rfl⟩ := ky_leaf e
    exact hr _ hmh9 frh9

def x11_law (N : Nat)  (s : sk_S) (a : Nat) : Option (sk_S × ky_RS) := (if lay_X11 (sk_K s) (sk_r s) a = true then ((x4_reads N s (a + 6) (a + 1)).bind (fun zz => (fun q2 x3 => ((x11_useTapeUp N q2 a x3).bind (fun zz => (fun q6 x7 => (if x3 = 0 then (some ((sk_rs q6 6), (.inr "java/lang/IllegalArgumentException"))) else ((x4_made N q6 (a + 6)).bind (fun zz => (fun q11 l12 => (ky_let (sk_wr q11 (a + 14) 1 (some l12)) (fun q15 => ((x11_forgetPast N q15 a).bind (fun zz => (fun q17 x18 => (ky_om (sk_r q17 (a + 14) 1) none (fun l21 => (if lay_X3 (sk_K q17) (sk_r q17) l21 = true then (some (q17, (.inl (some (.int (sk_c q17 l21 0)))))) else none)))) zz.1 zz.2))))) zz.1 zz.2)))) zz.1 zz.2))) zz.1 zz.2)) else none)
set_option maxRecDepth 20000 in
set_option maxHeartbeats 4000000 in
theorem k_X11_law {G : ky_GW} {d : Nat} {h : ky_HP} {Q : ky_RS → ky_HP → Prop} {s s9 : sk_S} {r9 : ky_RS} {a : Nat} (N : Nat) (hG : ky_OK G)   (hm : sk_hp G s h)  (e : x11_law N  s a = some (s9, r9)) (hr : ∀ h1, sk_hp G s9 h1 → sk_fr none s h s9 h1 → Q r9 h1) : ky_Call G (d + 49) M_X11_law [.ref a] h Q := by
  refine ky_ofV (by decide +kernel) rfl ok_X11_law (Nat.le_of_ble_eq_true rfl) ?_
  have fr : sk_fr none s h s h := sk_fr.rf
  unfold x11_law at e
  refine (?_ : ky_V _ _ _ 0 [(0, .ref a)] [] _ _)
  obtain ⟨za, e⟩ := ky_chkE e
  refine v_aload_n (i := 0) (j := 0) rfl rfl (?_ : ky_V _ _ _ 1 _ _ _ _)
  refine gf_X11_26 rfl (i := 1) rfl (oc_X11 hm (ly_X11_c za)) (sk_rf (ly_X11_r2 za)) (?_ : ky_V _ _ _ 4 _ (.ref (a + 6) :: _) _ _)
  refine v_aload_n (i := 2) (j := 0) rfl rfl (?_ : ky_V _ _ _ 5 _ _ _ _)
  refine gf_X11_10 rfl (i := 3) rfl (oc_X11 hm (ly_X11_c za)) (sk_rf (ly_X11_r0 za)) (?_ : ky_V _ _ _ 8 _ (.ref (a + 1) :: _) _ _)
  obtain ⟨⟨q2, x3⟩, g4, e⟩ := Option.bind_eq_some_iff.mp e
  refine cl_X11_102 (As := [.ref ((a + 1))]) rfl (i := 4) rfl (oc_X4 hm (ly_X4_c (ly_X11_l2 za))) rfl rfl (Nat.le_of_ble_eq_true rfl) (k_X4_reads N hG hm g4 (fun h1 hmh1 frh1 => ⟨_, rfl, (?_ : ky_V _ _ _ 11 _ [.int x3] _ _)⟩))
  have frh1 := fr.tr frh1
  refine v_istore_n (L' := [(0, .ref a), (1, .int x3)]) [1, 0] (i := 5) rfl (Nat.le_of_ble_eq_true rfl) rfl (?_ : ky_V _ _ _ 12 _ _ _ _)
  refine v_aload_n (i := 6) (j := 0) rfl rfl (?_ : ky_V _ _ _ 13 _ _ _ _)
  refine v_iload_n (i := 7) (j := 1) rfl rfl (?_ : ky_V _ _ _ 14 _ _ _ _)
  obtain ⟨⟨q6, x7⟩, g8, e⟩ := Option.bind_eq_some_iff.mp e
  refine cl_X11_76 (As := [.int x3]) rfl (i := 8) rfl (oc_X11 hmh1 (ly_X11_c (lt_X11 frh1 za))) rfl rfl (Nat.le_of_ble_eq_true rfl) (k_X11_useTapeUp N hG hmh1 g8 (fun h5 hmh5 frh5 => ⟨_, rfl, (?_ : ky_V _ _ _ 17 _ [] _ _)⟩))
  have frh5 := frh1.tr frh5
  refine v_iload_n (i := 9) (j := 1) rfl rfl (?_ : ky_V _ _ _ 18 _ _ _ _)
  refine v_if_ne (tgt := 31) (i := 10) rfl (by decide) (fun c9 => ?_) (fun c9 => ?_)
  · replace e := ky_ifF c9 e
    refine v_aload_n (i := 16) (j := 0) rfl rfl (?_ : ky_V _ _ _ 32 _ _ _ _)
    refine gf_X11_33 rfl (i := 17) rfl (oc_X11 hmh5 (ly_X11_c (lt_X11 frh5 za))) (sk_rf (ly_X11_r3 (lt_X11 frh5 za))) (?_ : ky_V _ _ _ 35 _ (.ref (a + 12) :: _) _ _)
    refine gf_X11_105 rfl (i := 18) rfl (oc_X7 hmh5 (ly_X7_c (ly_X11_l3 (lt_X11 frh5 za)))) (sk_rf (ly_X7_r1 (ly_X11_l3 (lt_X11 frh5 za)))) (?_ : ky_V _ _ _ 38 _ (.ref (a + 14) :: _) _ _)
    refine v_aload_n (i := 19) (j := 0) rfl rfl (?_ : ky_V _ _ _ 39 _ _ _ _)
    refine gf_X11_26 rfl (i := 20) rfl (oc_X11 hmh5 (ly_X11_c (lt_X11 frh5 za))) (sk_rf (ly_X11_r2 (lt_X11 frh5 za))) (?_ : ky_V _ _ _ 42 _ (.ref (a + 6) :: _) _ _)
    obtain ⟨⟨q11, l12⟩, g13, e⟩ := Option.bind_eq_some_iff.mp e
    refine cl_X11_109 (As := []) rfl (i := 21) rfl (oc_X4 hmh5 (ly_X4_c (ly_X11_l2 (lt_X11 frh5 za)))) rfl rfl (Nat.le_of_ble_eq_true rfl) (k_X4_made N hG hmh5 g13 (fun h10 hmh10 frh10 => ⟨_, rfl, (?_ : ky_V _ _ _ 45 _ [.ref l12, .ref ((a + 14))] _ _)⟩))
    have frh10 := frh5.tr frh10
    refine pf_X11_113 rfl (i := 22) rfl (oc_X6 hmh10 (ly_X6_c (ly_X7_l1 (ly_X11_l3 (lt_X11 frh10 za))))) (Nat.le_of_ble_eq_true rfl) rfl rfl ?_
    refine sk_str (kd := 5) (n := 0) hmh10 frh10 (ly_X6_c (ly_X7_l1 (ly_X11_l3 (lt_X11 frh10 za)))) 1 (some l12) (Or.inl rfl) (fun h14 hmh14 frh14 => ?_)
    obtain ⟨q15, eq15⟩ : ∃ z, z = (sk_wr q11 (a + 14) 1 (some l12)) := ⟨_, rfl⟩
    rw [← eq15] at hmh14 frh14
    replace e := ky_letE eq15 e
    refine (?_ : ky_V _ _ _ 48 _ _ _ _)
    refine v_aload_n (i := 23) (j := 0) rfl rfl (?_ : ky_V _ _ _ 49 _ _ _ _)
    obtain ⟨⟨q17, x18⟩, g19, e⟩ := Option.bind_eq_some_iff.mp e
    refine cl_X11_99 (As := []) rfl (i := 24) rfl (oc_X11 hmh14 (ly_X11_c (lt_X11 frh14 za))) rfl rfl (Nat.le_of_ble_eq_true rfl) (k_X11_forgetPast N hG hmh14 g19 (fun h16 hmh16 frh16 => ⟨_, rfl, (?_ : ky_V _ _ _ 52 _ [] _ _)⟩))
    have frh16 := frh14.tr frh16
    refine v_aload_n (i := 25) (j := 0) rfl rfl (?_ : ky_V _ _ _ 53 _ _ _ _)
    refine gf_X11_33 rfl (i := 26) rfl (oc_X11 hmh16 (ly_X11_c (lt_X11 frh16 za))) (sk_rf (ly_X11_r3 (lt_X11 frh16 za))) (?_ : ky_V _ _ _ 56 _ (.ref (a + 12) :: _) _ _)
    refine gf_X11_105 rfl (i := 27) rfl (oc_X7 hmh16 (ly_X7_c (ly_X11_l3 (lt_X11 frh16 za)))) (sk_rf (ly_X7_r1 (ly_X11_l3 (lt_X11 frh16 za)))) (?_ : ky_V _ _ _ 59 _ (.ref (a + 14) :: _) _ _)
    rcases y20 : (sk_r q17 (a + 14) 1) with _ | l21
    · replace e := ky_omN y20 e
      refine gf_X11_113 rfl (i := 28) rfl (oc_X6 hmh16 (ly_X6_c (ly_X7_l1 (ly_X11_l3 (lt_X11 frh16 za))))) (sk_rn y20) (?_ : ky_V _ _ _ 62 _ _ _ _)
      cases e
    · replace e := ky_omS y20 e
      refine gf_X11_113 rfl (i := 28) rfl (oc_X6 hmh16 (ly_X6_c (ly_X7_l1 (ly_X11_l3 (lt_X11 frh16 za))))) (sk_rf y20) (?_ : ky_V _ _ _ 62 _ _ _ _)
      obtain ⟨z22, e⟩ := ky_chkE e
      refine gf_X11_119 rfl (i := 29) rfl (oc_X3 hmh16 (ly_X3_c z22)) rfl (?_ : ky_V _ _ _ 65 _ _ _ _)
      refine v_iret (v := (sk_c q17 l21 0)) (ty := .int) (i := 30) rfl rfl rfl ?_
      obtain ⟨rfl, rfl⟩ := ky_leaf e
      exact hr _ hmh16 frh16
  · replace e := ky_ifT c9 e
    obtain ⟨s23, hvs23, -⟩ := sg_X11_82 hG
    refine v_throwS (i0 := 11) (i1 := 12) (i2 := 13) (i3 := 14) (i4 := 15) te_X11_80_84 ky_ts hG hvs23 rfl rfl rfl rfl rfl rfl (Nat.le_of_ble_eq_true rfl) ?_
    obtain ⟨rfl, rfl⟩ := ky_leaf e
    exact hr _ (sk_hpJ hmh5) (sk_frJ hmh5 frh5)

def x11_cell (N : Nat)  (s : sk_S) (a : Nat) (p1 : Int32) (p2 : Int32) : Option (sk_S × ky_RS) := (if lay_X11 (sk_K s) (sk_r s) a = true then (if (ws_isCell p1) = 0 then (some ((sk_rs s 6), (.inr "java/lang/IndexOutOfBoundsException"))) else (if p2 = 0 then (if ky_inB p1 64 = true then (some (s, (.inl (some (.int (sk_c s (a + 17) (Int32.toNatClampNeg p1))))))) else none) else (if p2 = 1 then (if (sh_has (sk_g s (a + 16) 3) p1) = 0 then (some (s, (.inl (some (.int 0))))) else (some (s, (.inl (some (.int 1)))))) else (if p2 = 2 then (if (sh_has (sk_g s (a + 16) 4) p1) = 0 then (some (s, (.inl (some (.int 0))))) else (some (s, (.inl (some (.int 1)))))) else (if p2 = 3 then ((x8_peopleOn N s (a + 16) p1).bind (fun zz => (fun q10 x11 => (some (q10, (.inl (some (.int x11)))))) zz.1 zz.2)) else (some ((sk_rs s 6), (.inr "java/util/NoSuchElementException")))))))) else none)
set_option maxRecDepth 20000 in
set_option maxHeartbeats 4000000 in
theorem k_X11_cell {G : ky_GW} {d : Nat} {h : ky_HP} {Q : ky_RS → ky_HP → Prop} {s s9 : sk_S} {r9 : ky_RS} {a : Nat} {p1 : Int32} {p2 : Int32} (N : Nat) (hG : ky_OK G)   (hm : sk_hp G s h)  (e : x11_cell N  s a p1 p2 = some (s9, r9)) (hr : ∀ h1, sk_hp G s9 h1 → sk_fr none s h s9 h1 → Q r9 h1) : ky_Call G (d + 6) M_X11_cell [.ref a, .int p1, .int p2] h Q := by
  refine ky_ofV (by decide +kernel) rfl ok_X11_cell (Nat.le_of_ble_eq_true rfl) ?_
  have fr : sk_fr none s h s h := sk_fr.rf
  unfold x11_cell at e
  refine (?_ : ky_V _ _ _ 0 [(0, .ref a), (1, .int p1), (2, .int p2)] [] _ _)
  obtain ⟨za, e⟩ := ky_chkE e
  refine v_iload_n (i := 0) (j := 1) rfl rfl (?_ : ky_V _ _ _ 1 _ _ _ _)
  refine cl_X11_146 (As := [.int p1]) rfl (i := 1) rfl rfl rfl (Nat.le_of_ble_eq_true rfl) (k_X11_isCell p1 ⟨_, rfl, (?_ : ky_V _ _ _ 4 _ [.int ((ws_isCell p1))] _ _)⟩)
  refine v_if_ne (tgt := 17) (i := 2) rfl (by decide) (fun c1 => ?_) (fun c1 => ?_)
  · replace e := ky_ifF c1 e
    refine v_iload_n (i := 8) (j := 2) rfl rfl (?_ : ky_V _ _ _ 18 _ _ _ _)
    rcases Classical.em (p2 = 0) with c2 | c2
    · replace e := ky_ifT c2 e
      refine v_tableIn (off := 30) (tgt := 48) (i := 9) rfl (by rw [c2]; decide) (by rw [c2]; decide) (by rw [c2]; rfl) (by decide) ?_
      refine v_aload_n (i := 10) (j := 0) rfl rfl (?_ : ky_V _ _ _ 49 _ _ _ _)
      refine gf_X11_33 rfl (i := 11) rfl (oc_X11 hm (ly_X11_c za)) (sk_rf (ly_X11_r3 za)) (?_ : ky_V _ _ _ 52 _ (.ref (a + 12) :: _) _ _)
      refine gf_X11_63 rfl (i := 12) rfl (oc_X7 hm (ly_X7_c (ly_X11_l3 za))) (sk_rf (ly_X7_r2 (ly_X11_l3 za))) (?_ : ky_V _ _ _ 55 _ (.ref (a + 16) :: _) _ _)
      refine gf_X11_151 rfl (i := 13) rfl (oc_X8 hm (ly_X8_c (ly_X7_l2 (ly_X11_l3 za)))) (sk_rf (ly_X8_r0 (ly_X7_l2 (ly_X11_l3 za)))) (?_ : ky_V _ _ _ 58 _ (.ref (a + 17) :: _) _ _)
      refine v_iload_n (i := 14) (j := 1) rfl rfl (?_ : ky_V _ _ _ 59 _ _ _ _)
      obtain ⟨z3, e⟩ := ky_chkE e
      refine v_iald (i := 15) rfl (oa_21 hm (ly_X8_k0 (ly_X7_l2 (ly_X11_l3 za)))) (ky_inb z3) (?_ : ky_V _ _ _ 60 _ (.int (sk_c s (a + 17) (Int32.toNatClampNeg p1)) :: _) _ _)
      refine v_iret (v := (sk_c s (a + 17) (Int32.toNatClampNeg p1))) (ty := .int) (i := 16) rfl rfl rfl ?_
      obtain ⟨rfl, rfl⟩ := ky_leaf e
      exact hr _ hm fr
    · replace e := ky_ifF c2 e
      rcases Classical.em (p2 = 1) with c4 | c4
      · replace e := ky_ifT c4 e
        refine v_tableIn (off := 43) (tgt := 61) (i := 9) rfl (by rw [c4]; decide) (by rw [c4]; decide) (by rw [c4]; rfl) (by decide) ?_
        refine v_aload_n (i := 17) (j := 0) rfl rfl (?_ : ky_V _ _ _ 62 _ _ _ _)
        refine gf_X11_33 rfl (i := 18) rfl (oc_X11 hm (ly_X11_c za)) (sk_rf (ly_X11_r3 za)) (?_ : ky_V _ _ _ 65 _ (.ref (a + 12) :: _) _ _)
        refine gf_X11_63 rfl (i := 19) rfl (oc_X7 hm (ly_X7_c (ly_X11_l3 za))) (sk_rf (ly_X7_r2 (ly_X11_l3 za))) (?_ : ky_V _ _ _ 68 _ (.ref (a + 16) :: _) _ _)
        refine gf_X11_155 rfl (i := 20) rfl (oc_X8 hm (ly_X8_c (ly_X7_l2 (ly_X11_l3 za)))) rfl (?_ : ky_V _ _ _ 71 _ _ _ _)
        refine v_iload_n (i := 21) (j := 1) rfl rfl (?_ : ky_V _ _ _ 72 _ _ _ _)
        refine cl_X11_159 (As := [.long ((sk_g s (a + 16) 3)), .int p1]) rfl (i := 22) rfl rfl rfl (Nat.le_of_ble_eq_true rfl) (k_X8_has (sk_g s (a + 16) 3) p1 ⟨_, rfl, (?_ : ky_V _ _ _ 75 _ [.int ((sh_has (sk_g s (a + 16) 3) p1))] _ _)⟩)
        refine v_if_eq (tgt := 82) (i := 23) rfl (by decide) (fun c5 => ?_) (fun c5 => ?_)
        · replace e := ky_ifT c5 e
          refine v_iconst (v := 0) (i := 26) rfl (by decide) (?_ : ky_V _ _ _ 83 _ _ _ _)
          refine v_iret (v := 0) (ty := .int) (i := 27) rfl rfl rfl ?_
          obtain ⟨rfl, rfl⟩ := ky_leaf e
          exact hr _ hm fr
        · replace e := ky_ifF c5 e
          refine v_iconst (v := 1) (i := 24) rfl (by decide) (?_ : ky_V _ _ _ 79 _ _ _ _)
          refine v_goto (tgt := 83) (i := 25) rfl (by decide) (?_ : ky_V _ _ _ 83 _ _ _ _)
          refine v_iret (v := 1) (ty := .int) (i := 27) rfl rfl rfl ?_
          obtain ⟨rfl, rfl⟩ := ky_leaf e
          exact hr _ hm fr
      · replace e := ky_ifF c4 e
        rcases Classical.em (p2 = 2) with c6 | c6
        · replace e := ky_ifT c6 e
          refine v_tableIn (off := 66) (tgt := 84) (i := 9) rfl (by rw [c6]; decide) (by rw [c6]; decide) (by rw [c6]; rfl) (by decide) ?_
          refine v_aload_n (i := 28) (j := 0) rfl rfl (?_ : ky_V _ _ _ 85 _ _ _ _)
          refine gf_X11_33 rfl (i := 29) rfl (oc_X11 hm (ly_X11_c za)) (sk_rf (ly_X11_r3 za)) (?_ : ky_V _ _ _ 88 _ (.ref (a + 12) :: _) _ _)
          refine gf_X11_63 rfl (i := 30) rfl (oc_X7 hm (ly_X7_c (ly_X11_l3 za))) (sk_rf (ly_X7_r2 (ly_X11_l3 za))) (?_ : ky_V _ _ _ 91 _ (.ref (a + 16) :: _) _ _)
          refine gf_X11_163 rfl (i := 31) rfl (oc_X8 hm (ly_X8_c (ly_X7_l2 (ly_X11_l3 za)))) rfl (?_ : ky_V _ _ _ 94 _ _ _ _)
          refine v_iload_n (i := 32) (j := 1) rfl rfl (?_ : ky_V _ _ _ 95 _ _ _ _)
          refine cl_X11_159 (As := [.long ((sk_g s (a + 16) 4)), .int p1]) rfl (i := 33) rfl rfl rfl (Nat.le_of_ble_eq_true rfl) (k_X8_has (sk_g s (a + 16) 4) p1 ⟨_, rfl, (?_ : ky_V _ _ _ 98 _ [.int ((sh_has (sk_g s (a + 16) 4) p1))] _ _)⟩)
          refine v_if_eq (tgt := 105) (i := 34) rfl (by decide) (fun c7 => ?_) (fun c7 => ?_)
          · replace e := ky_ifT c7 e
            refine v_iconst (v := 0) (i := 37) rfl (by decide) (?_ : ky_V _ _ _ 106 _ _ _ _)
            refine v_iret (v := 0) (ty := .int) (i := 38) rfl rfl rfl ?_
            obtain ⟨rfl, rfl⟩ := ky_leaf e
            exact hr _ hm fr
          · replace e := ky_ifF c7 e
            refine v_iconst (v := 1) (i := 35) rfl (by decide) (?_ : ky_V _ _ _ 102 _ _ _ _)
            refine v_goto (tgt := 106) (i := 36) rfl (by decide) (?_ : ky_V _ _ _ 106 _ _ _ _)
            refine v_iret (v := 1) (ty := .int) (i := 38) rfl rfl rfl ?_
            obtain ⟨rfl, rfl⟩ := ky_leaf e
            exact hr _ hm fr
        · replace e := ky_ifF c6 e
          rcases Classical.em (p2 = 3) with c8 | c8
          · replace e := ky_ifT c8 e
            refine v_tableIn (off := 89) (tgt := 107) (i := 9) rfl (by rw [c8]; decide) (by rw [c8]; decide) (by rw [c8]; rfl) (by decide) ?_
            refine v_aload_n (i := 39) (j := 0) rfl rfl (?_ : ky_V _ _ _ 108 _ _ _ _)
            refine gf_X11_33 rfl (i := 40) rfl (oc_X11 hm (ly_X11_c za)) (sk_rf (ly_X11_r3 za)) (?_ : ky_V _ _ _ 111 _ (.ref (a + 12) :: _) _ _)
            refine gf_X11_63 rfl (i := 41) rfl (oc_X7 hm (ly_X7_c (ly_X11_l3 za))) (sk_rf (ly_X7_r2 (ly_X11_l3 za))) (?_ : ky_V _ _ _ 114 _ (.ref (a + 16) :: _) _ _)
            refine v_iload_n (i := 42) (j := 1) rfl rfl (?_ : ky_V _ _ _ 115 _ _ _ _)
            obtain ⟨⟨q10, x11⟩, g12, e⟩ := Option.bind_eq_some_iff.mp e
            refine cl_X11_166 (As := [.int p1]) rfl (i := 43) rfl (oc_X8 hm (ly_X8_c (ly_X7_l2 (ly_X11_l3 za)))) rfl rfl (Nat.le_of_ble_eq_true rfl) (k_X8_peopleOn N hG hm g12 (fun h9 hmh9 frh9 => ⟨_, rfl, (?_ : ky_V _ _ _ 118 _ [.int x11] _ _)⟩))
            have frh9 := fr.tr frh9
            refine v_iret (v := x11) (ty := .int) (i := 44) rfl rfl rfl ?_
            obtain ⟨rfl, rfl⟩ := ky_leaf e
            exact hr _ hmh9 frh9
          · replace e := ky_ifF c8 e
            refine v_tableOut (tgt := 119) (i := 9) rfl (ky_swO (fun z h1 h2 => ?_)) (by decide) ?_
            · intro hz
              have h3 : z = 0 ∨ z = 1 ∨ z = 2 ∨ z = 3 := by omega
              rcases h3 with h3 | h3 | h3 | h3 <;> subst h3
              · exact c2 (Int32.toInt_inj.mp (hz.trans (by decide)))
              · exact c4 (Int32.toInt_inj.mp (hz.trans (by decide)))
              · exact c6 (Int32.toInt_inj.mp (hz.trans (by decide)))
              · exact c8 (Int32.toInt_inj.mp (hz.trans (by decide)))
            · obtain ⟨s13, hvs13, -⟩ := sg_X11_135 hG
              refine v_throwN (rx := prog_35_method_4_code) (i0 := 45) (i1 := 46) (i2 := 47) (i3 := 48) (i4 := 49) (by decide +kernel) (by decide +kernel) (by decide +kernel) (by decide +kernel) tn_X11_133_137 ky_ts hG hvs13 rfl rfl rfl rfl rfl rfl (Nat.le_of_ble_eq_true rfl) ?_
              obtain ⟨rfl, rfl⟩ := ky_leaf e
              exact hr _ (sk_hpJ hm) (sk_frJ hm fr)
  · replace e := ky_ifT c1 e
    obtain ⟨s14, hvs14, -⟩ := sg_X11_149 hG
    refine v_throwS (i0 := 3) (i1 := 4) (i2 := 5) (i3 := 6) (i4 := 7) te_X11_128_132 ky_ts hG hvs14 rfl rfl rfl rfl rfl rfl (Nat.le_of_ble_eq_true rfl) ?_
    obtain ⟨rfl, rfl⟩ := ky_leaf e
    exact hr _ (sk_hpJ hm) (sk_frJ hm fr)

def x11_isPerson (N : Nat)  (s : sk_S) (a : Nat) (p1 : Int32) : Option (sk_S × Int32) := (if lay_X11 (sk_K s) (sk_r s) a = true then (if p1 < 0 then (some (s, 0)) else (if (sk_c s (a + 16) 6) ≤ p1 then (some (s, 0)) else (some (s, 1)))) else none)
set_option maxRecDepth 20000 in
set_option maxHeartbeats 4000000 in
theorem k_X11_isPerson {G : ky_GW} {d : Nat} {h : ky_HP} {Q : ky_RS → ky_HP → Prop} {s s9 : sk_S} {r9 : Int32} {a : Nat} {p1 : Int32} (N : Nat) (hG : ky_OK G)   (hm : sk_hp G s h)  (e : x11_isPerson N  s a p1 = some (s9, r9)) (hr : ∀ h1, sk_hp G s9 h1 → sk_fr none s h s9 h1 → Q (.inl (some (.int r9))) h1) : ky_Call G d M_X11_isPerson [.ref a, .int p1] h Q := by
  refine ky_ofV (by decide +kernel) rfl ok_X11_isPerson (Nat.le_of_ble_eq_true rfl) ?_
  have fr : sk_fr none s h s h := sk_fr.rf
  unfold x11_isPerson at e
  refine (?_ : ky_V _ _ _ 0 [(0, .ref a), (1, .int p1)] [] _ _)
  obtain ⟨za, e⟩ := ky_chkE e
  refine v_iload_n (i := 0) (j := 1) rfl rfl (?_ : ky_V _ _ _ 1 _ _ _ _)
  refine v_if_lt (tgt := 22) (i := 1) rfl (by decide) (fun c1 => ?_) (fun c1 => ?_)
  · replace e := ky_ifT c1 e
    refine v_iconst (v := 0) (i := 10) rfl (by decide) (?_ : ky_V _ _ _ 23 _ _ _ _)
    refine v_iret (v := 0) (ty := .boolean) (i := 11) rfl rfl (by decide) ?_
    obtain ⟨rfl, rfl⟩ := ky_leaf e
    exact hr _ hm fr
  · replace e := ky_ifF c1 e
    refine v_iload_n (i := 2) (j := 1) rfl rfl (?_ : ky_V _ _ _ 5 _ _ _ _)
    refine v_aload_n (i := 3) (j := 0) rfl rfl (?_ : ky_V _ _ _ 6 _ _ _ _)
    refine gf_X11_33 rfl (i := 4) rfl (oc_X11 hm (ly_X11_c za)) (sk_rf (ly_X11_r3 za)) (?_ : ky_V _ _ _ 9 _ (.ref (a + 12) :: _) _ _)
    refine gf_X11_63 rfl (i := 5) rfl (oc_X7 hm (ly_X7_c (ly_X11_l3 za))) (sk_rf (ly_X7_r2 (ly_X11_l3 za))) (?_ : ky_V _ _ _ 12 _ (.ref (a + 16) :: _) _ _)
    refine gf_X11_67 rfl (i := 6) rfl (oc_X8 hm (ly_X8_c (ly_X7_l2 (ly_X11_l3 za)))) rfl (?_ : ky_V _ _ _ 15 _ _ _ _)
    refine v_icmp_ge (tgt := 22) (i := 7) rfl (by decide) (fun c2 => ?_) (fun c2 => ?_)
    · replace e := ky_ifT c2 e
      refine v_iconst (v := 0) (i := 10) rfl (by decide) (?_ : ky_V _ _ _ 23 _ _ _ _)
      refine v_iret (v := 0) (ty := .boolean) (i := 11) rfl rfl (by decide) ?_
      obtain ⟨rfl, rfl⟩ := ky_leaf e
      exact hr _ hm fr
    · replace e := ky_ifF c2 e
      refine v_iconst (v := 1) (i := 8) rfl (by decide) (?_ : ky_V _ _ _ 19 _ _ _ _)
      refine v_goto (tgt := 23) (i := 9) rfl (by decide) (?_ : ky_V _ _ _ 23 _ _ _ _)
      refine v_iret (v := 1) (ty := .boolean) (i := 11) rfl rfl (by decide) ?_
      obtain ⟨rfl, rfl⟩ := ky_leaf e
      exact hr _ hm fr

def x11_remember (N : Nat)  (s : sk_S) (a : Nat) : Option (sk_S × Int32) := (if lay_X11 (sk_K s) (sk_r s) a = true then (if ky_inB (sk_c s a 6) 12 = true then (ky_om (sk_r s (a + 22) (Int32.toNatClampNeg (sk_c s a 6))) (ky_let (sk_n s) (fun a4 => (ky_let (sk_nw s 7 0 5) (fun q6 => ((x7_init N q6 a4).bind (fun zz => (fun q8 x9 => (if lay_X7 (sk_K q8) (sk_r q8) a4 = true then (ky_let (sk_wr q8 (a + 22) (Int32.toNatClampNeg (sk_c s a 6)) (some a4)) (fun q13 => (if ky_inB (sk_c q13 a 6) 12 = true then (ky_om (sk_r q13 (a + 22) (Int32.toNatClampNeg (sk_c q13 a 6))) none (fun l16 => (if lay_X7 (sk_K q13) (sk_r q13) l16 = true then ((x7_become N q13 l16 (a + 12)).bind (fun zz => (fun q19 x20 => (if (12 : Int32) ≤ ((sk_c q19 a 6) + 1) then (ky_let (sk_wc q19 a 6 0) (fun q24 => (ky_let (mt_min 12 ((sk_c q24 a 7) + 1)) (fun x25 => (ky_let (sk_wc q24 a 7 x25) (fun q27 => (some (q27, 0)))))))) else (ky_let ((sk_c q19 a 6) + 1) (fun x28 => (ky_let (sk_wc q19 a 6 x28) (fun q30 => (ky_let (mt_min 12 ((sk_c q30 a 7) + 1)) (fun x31 => (ky_let (sk_wc q30 a 7 x31) (fun q33 => (some (q33, 0)))))))))))) zz.1 zz.2)) else none))) else none))) else none)) zz.1 zz.2)))))) (fun l3 => (ky_om (sk_r s (a + 22) (Int32.toNatClampNeg (sk_c s a 6))) none (fun l35 => (if lay_X7 (sk_K s) (sk_r s) l35 = true then ((x7_become N s l35 (a + 12)).bind (fun zz => (fun q38 x39 => (if (12 : Int32) ≤ ((sk_c q38 a 6) + 1) then (ky_let (sk_wc q38 a 6 0) (fun q43 => (ky_let (mt_min 12 ((sk_c q43 a 7) + 1)) (fun x44 => (ky_let (sk_wc q43 a 7 x44) (fun q46 => (some (q46, 0)))))))) else (ky_let ((sk_c q38 a 6) + 1) (fun x47 => (ky_let (sk_wc q38 a 6 x47) (fun q49 => (ky_let (mt_min 12 ((sk_c q49 a 7) + 1)) (fun x50 => (ky_let (sk_wc q49 a 7 x50) (fun q52 => (some (q52, 0)))))))))))) zz.1 zz.2)) else none))))) else none) else none)
set_option maxRecDepth 20000 in
set_option maxHeartbeats 4000000 in
theorem k_X11_remember {G : ky_GW} {d : Nat} {h : ky_HP} {Q : ky_RS → ky_HP → Prop} {s s9 : sk_S} {r9 : Int32} {a : Nat} (N : Nat) (hG : ky_OK G)   (hm : sk_hp G s h)  (e : x11_remember N  s a = some (s9, r9)) (hr : ∀ h1, sk_hp G s9 h1 → sk_fr none s h s9 h1 → Q (.inl none) h1) : ky_Call G (d + 3) M_X11_remember [.ref a] h Q := by
  refine ky_ofV (by decide +kernel) rfl ok_X11_remember (Nat.le_of_ble_eq_true rfl) ?_
  have fr : sk_fr none s h s h := sk_fr.rf
  unfold x11_remember at e
  refine (?_ : ky_V _ _ _ 0 [(0, .ref a)] [] _ _)
  obtain ⟨za, e⟩ := ky_chkE e
  refine v_aload_n (i := 0) (j := 0) rfl rfl (?_ : ky_V _ _ _ 1 _ _ _ _)
  refine gf_X11_37 rfl (i := 1) rfl (oc_X11 hm (ly_X11_c za)) (sk_rf (ly_X11_r4 za)) (?_ : ky_V _ _ _ 4 _ (.ref (a + 22) :: _) _ _)
  refine v_aload_n (i := 2) (j := 0) rfl rfl (?_ : ky_V _ _ _ 5 _ _ _ _)
  refine gf_X11_411 rfl (i := 3) rfl (oc_X11 hm (ly_X11_c za)) rfl (?_ : ky_V _ _ _ 8 _ _ _ _)
  obtain ⟨z1, e⟩ := ky_chkE e
  rcases y2 : (sk_r s (a + 22) (Int32.toNatClampNeg (sk_c s a 6))) with _ | l3
  · replace e := ky_omN y2 e
    refine v_aald (i := 4) rfl (oa_23 hm (ly_X11_k4 za)) (ky_inb z1) ?_
    refine (?_ : ky_V _ _ _ 9 _ (va_rf (sk_r s (a + 22) (Int32.toNatClampNeg (sk_c s a 6))) :: _) _ _)
    rw [y2]
    refine (?_ : ky_V _ _ _ 9 _ (.null :: _) _ _)
    refine v_ifnonnullN (i := 5) rfl (?_ : ky_V _ _ _ 12 _ _ _ _)
    refine v_aload_n (i := 6) (j := 0) rfl rfl (?_ : ky_V _ _ _ 13 _ _ _ _)
    refine gf_X11_37 rfl (i := 7) rfl (oc_X11 hm (ly_X11_c za)) (sk_rf (ly_X11_r4 za)) (?_ : ky_V _ _ _ 16 _ (.ref (a + 22) :: _) _ _)
    refine v_aload_n (i := 8) (j := 0) rfl rfl (?_ : ky_V _ _ _ 17 _ _ _ _)
    refine gf_X11_411 rfl (i := 9) rfl (oc_X11 hm (ly_X11_c za)) rfl (?_ : ky_V _ _ _ 20 _ _ _ _)
    refine nw_X7 (by rw [show M_X11_remember.1.cls = "WaistSand" from rfl]; exact ky_t1 (i := 116) rfl rfl) (i := 10) rfl ?_
    refine sk_snw hm fr 7 0 rfl (fun a4 h5 ea4 hmh5 frh5 => ?_)
    replace e := ky_letE ea4 e
    have hya4 : sk_n s ≤ a4 := by rw [ea4]; exact fr.2.2
    obtain ⟨q6, eq6⟩ : ∃ z, z = (sk_nw s 7 0 5) := ⟨_, rfl⟩
    rw [← eq6] at hmh5 frh5
    replace e := ky_letE eq6 e
    refine (?_ : ky_V _ _ _ 23 _ (.ref a4 :: _) _ _)
    refine v_dup (i := 11) rfl rfl (?_ : ky_V _ _ _ 24 _ _ _ _)
    obtain ⟨⟨q8, x9⟩, g10, e⟩ := Option.bind_eq_some_iff.mp e
    refine cl_X11_32 (As := []) rfl (i := 12) rfl rfl rfl (Nat.le_of_ble_eq_true rfl) (k_X7_init N hG hmh5 g10 (fun h7 hmh7 frh7 => ⟨_, rfl, (?_ : ky_V _ _ _ 27 _ [.ref a4, .int ((sk_c s a 6)), .ref ((a + 22))] _ _)⟩))
    have frh7 := frh5.ti frh7 hm hya4
    obtain ⟨z12, e⟩ := ky_chkE e
    refine v_aast (i := 13) rfl (oa_23 hmh7 (ly_X11_k4 (lt_X11 frh7 za))) (oc_X7 hmh7 (ly_X7_c z12)) rfl (ky_inb z1) ?_
    refine sk_str (kd := 22) hmh7 frh7 (ly_X11_k4 (lt_X11 frh7 za)) (Int32.toNatClampNeg (sk_c s a 6)) (some a4) (Or.inl rfl) (fun h11 hmh11 frh11 => ?_)
    obtain ⟨q13, eq13⟩ : ∃ z, z = (sk_wr q8 (a + 22) (Int32.toNatClampNeg (sk_c s a 6)) (some a4)) := ⟨_, rfl⟩
    rw [← eq13] at hmh11 frh11
    replace e := ky_letE eq13 e
    refine (?_ : ky_V _ _ _ 28 _ _ _ _)
    refine v_aload_n (i := 14) (j := 0) rfl rfl (?_ : ky_V _ _ _ 29 _ _ _ _)
    refine gf_X11_37 rfl (i := 15) rfl (oc_X11 hmh11 (ly_X11_c (lt_X11 frh11 za))) (sk_rf (ly_X11_r4 (lt_X11 frh11 za))) (?_ : ky_V _ _ _ 32 _ (.ref (a + 22) :: _) _ _)
    refine v_aload_n (i := 16) (j := 0) rfl rfl (?_ : ky_V _ _ _ 33 _ _ _ _)
    refine gf_X11_411 rfl (i := 17) rfl (oc_X11 hmh11 (ly_X11_c (lt_X11 frh11 za))) rfl (?_ : ky_V _ _ _ 36 _ _ _ _)
    obtain ⟨z14, e⟩ := ky_chkE e
    rcases y15 : (sk_r q13 (a + 22) (Int32.toNatClampNeg (sk_c q13 a 6))) with _ | l16
    · replace e := ky_omN y15 e
      refine v_aald (i := 18) rfl (oa_23 hmh11 (ly_X11_k4 (lt_X11 frh11 za))) (ky_inb z14) ?_
      refine (?_ : ky_V _ _ _ 37 _ (va_rf (sk_r q13 (a + 22) (Int32.toNatClampNeg (sk_c q13 a 6))) :: _) _ _)
      rw [y15]
      refine (?_ : ky_V _ _ _ 37 _ (.null :: _) _ _)
      refine v_aload_n (i := 19) (j := 0) rfl rfl (?_ : ky_V _ _ _ 38 _ _ _ _)
      refine gf_X11_33 rfl (i := 20) rfl (oc_X11 hmh11 (ly_X11_c (lt_X11 frh11 za))) (sk_rf (ly_X11_r3 (lt_X11 frh11 za))) (?_ : ky_V _ _ _ 41 _ (.ref (a + 12) :: _) _ _)
      cases e
    · replace e := ky_omS y15 e
      refine v_aald (i := 18) rfl (oa_23 hmh11 (ly_X11_k4 (lt_X11 frh11 za))) (ky_inb z14) ?_
      refine (?_ : ky_V _ _ _ 37 _ (va_rf (sk_r q13 (a + 22) (Int32.toNatClampNeg (sk_c q13 a 6))) :: _) _ _)
      rw [y15]
      refine (?_ : ky_V _ _ _ 37 _ (.ref l16 :: _) _ _)
      refine v_aload_n (i := 19) (j := 0) rfl rfl (?_ : ky_V _ _ _ 38 _ _ _ _)
      refine gf_X11_33 rfl (i := 20) rfl (oc_X11 hmh11 (ly_X11_c (lt_X11 frh11 za))) (sk_rf (ly_X11_r3 (lt_X11 frh11 za))) (?_ : ky_V _ _ _ 41 _ (.ref (a + 12) :: _) _ _)
      obtain ⟨z17, e⟩ := ky_chkE e
      obtain ⟨⟨q19, x20⟩, g21, e⟩ := Option.bind_eq_some_iff.mp e
      refine cl_X11_417 (As := [.ref ((a + 12))]) rfl (i := 21) rfl (oc_X7 hmh11 (ly_X7_c z17)) rfl rfl (Nat.le_of_ble_eq_true rfl) (k_X7_become N hG hmh11 g21 (fun h18 hmh18 frh18 => ⟨_, rfl, (?_ : ky_V _ _ _ 44 _ [] _ _)⟩))
      have frh18 := frh11.tr frh18
      refine v_aload_n (i := 22) (j := 0) rfl rfl (?_ : ky_V _ _ _ 45 _ _ _ _)
      refine v_aload_n (i := 23) (j := 0) rfl rfl (?_ : ky_V _ _ _ 46 _ _ _ _)
      refine gf_X11_411 rfl (i := 24) rfl (oc_X11 hmh18 (ly_X11_c (lt_X11 frh18 za))) rfl (?_ : ky_V _ _ _ 49 _ _ _ _)
      refine v_iconst (v := 1) (i := 25) rfl (by decide) (?_ : ky_V _ _ _ 50 _ _ _ _)
      refine v_iadd (i := 26) rfl (?_ : ky_V _ _ _ 51 _ _ _ _)
      refine v_bipush (v := 12) (i := 27) rfl (by decide) (?_ : ky_V _ _ _ 53 _ _ _ _)
      refine v_icmp_ge (tgt := 65) (i := 28) rfl (by decide) (fun c22 => ?_) (fun c22 => ?_)
      · replace e := ky_ifT c22 e
        refine v_iconst (v := 0) (i := 34) rfl (by decide) (?_ : ky_V _ _ _ 66 _ _ _ _)
        refine pf_X11_411 rfl (i := 35) rfl (oc_X11 hmh18 (ly_X11_c (lt_X11 frh18 za))) (Nat.le_of_ble_eq_true rfl) rfl rfl ?_
        refine sk_stc (kd := 10) (n := 0) hmh18 frh18 (ly_X11_c (lt_X11 frh18 za)) 6 0 (fun h23 hmh23 frh23 => ?_)
        obtain ⟨q24, eq24⟩ : ∃ z, z = (sk_wc q19 a 6 0) := ⟨_, rfl⟩
        rw [← eq24] at hmh23 frh23
        replace e := ky_letE eq24 e
        refine (?_ : ky_V _ _ _ 69 _ _ _ _)
        refine v_aload_n (i := 36) (j := 0) rfl rfl (?_ : ky_V _ _ _ 70 _ _ _ _)
        refine v_bipush (v := 12) (i := 37) rfl (by decide) (?_ : ky_V _ _ _ 72 _ _ _ _)
        refine v_aload_n (i := 38) (j := 0) rfl rfl (?_ : ky_V _ _ _ 73 _ _ _ _)
        refine gf_X11_414 rfl (i := 39) rfl (oc_X11 hmh23 (ly_X11_c (lt_X11 frh23 za))) rfl (?_ : ky_V _ _ _ 76 _ _ _ _)
        refine v_iconst (v := 1) (i := 40) rfl (by decide) (?_ : ky_V _ _ _ 77 _ _ _ _)
        refine v_iadd (i := 41) rfl (?_ : ky_V _ _ _ 78 _ _ _ _)
        refine cl_X11_387 rfl (i := 42) rfl (Nat.le_of_ble_eq_true rfl) (?_ : ky_V _ _ _ 81 _ _ _ _)
        refine v_topi (fun x25 ex25 => ?_)
        replace e := ky_letE ex25 e
        refine pf_X11_414 rfl (i := 43) rfl (oc_X11 hmh23 (ly_X11_c (lt_X11 frh23 za))) (Nat.le_of_ble_eq_true rfl) rfl rfl ?_
        refine sk_stc (kd := 10) (n := 0) hmh23 frh23 (ly_X11_c (lt_X11 frh23 za)) 7 x25 (fun h26 hmh26 frh26 => ?_)
        obtain ⟨q27, eq27⟩ : ∃ z, z = (sk_wc q24 a 7 x25) := ⟨_, rfl⟩
        rw [← eq27] at hmh26 frh26
        replace e := ky_letE eq27 e
        refine (?_ : ky_V _ _ _ 84 _ _ _ _)
        refine v_vret (i := 44) rfl rfl ?_
        obtain ⟨rfl, rfl⟩ := ky_leaf e
        exact hr _ hmh26 frh26
      · replace e := ky_ifF c22 e
        refine v_aload_n (i := 29) (j := 0) rfl rfl (?_ : ky_V _ _ _ 57 _ _ _ _)
        refine gf_X11_411 rfl (i := 30) rfl (oc_X11 hmh18 (ly_X11_c (lt_X11 frh18 za))) rfl (?_ : ky_V _ _ _ 60 _ _ _ _)
        refine v_iconst (v := 1) (i := 31) rfl (by decide) (?_ : ky_V _ _ _ 61 _ _ _ _)
        refine v_iadd (i := 32) rfl (?_ : ky_V _ _ _ 62 _ _ _ _)
        refine v_goto (tgt := 66) (i := 33) rfl (by decide) (?_ : ky_V _ _ _ 66 _ _ _ _)
        refine v_topi (fun x28 ex28 => ?_)
        replace e := ky_letE ex28 e
        refine pf_X11_411 rfl (i := 35) rfl (oc_X11 hmh18 (ly_X11_c (lt_X11 frh18 za))) (Nat.le_of_ble_eq_true rfl) rfl rfl ?_
        refine sk_stc (kd := 10) (n := 0) hmh18 frh18 (ly_X11_c (lt_X11 frh18 za)) 6 x28 (fun h29 hmh29 frh29 => ?_)
        obtain ⟨q30, eq30⟩ : ∃ z, z = (sk_wc q19 a 6 x28) := ⟨_, rfl⟩
        rw [← eq30] at hmh29 frh29
        replace e := ky_letE eq30 e
        refine (?_ : ky_V _ _ _ 69 _ _ _ _)
        refine v_aload_n (i := 36) (j := 0) rfl rfl (?_ : ky_V _ _ _ 70 _ _ _ _)
        refine v_bipush (v := 12) (i := 37) rfl (by decide) (?_ : ky_V _ _ _ 72 _ _ _ _)
        refine v_aload_n (i := 38) (j := 0) rfl rfl (?_ : ky_V _ _ _ 73 _ _ _ _)
        refine gf_X11_414 rfl (i := 39) rfl (oc_X11 hmh29 (ly_X11_c (lt_X11 frh29 za))) rfl (?_ : ky_V _ _ _ 76 _ _ _ _)
        refine v_iconst (v := 1) (i := 40) rfl (by decide) (?_ : ky_V _ _ _ 77 _ _ _ _)
        refine v_iadd (i := 41) rfl (?_ : ky_V _ _ _ 78 _ _ _ _)
        refine cl_X11_387 rfl (i := 42) rfl (Nat.le_of_ble_eq_true rfl) (?_ : ky_V _ _ _ 81 _ _ _ _)
        refine v_topi (fun x31 ex31 => ?_)
        replace e := ky_letE ex31 e
        refine pf_X11_414 rfl (i := 43) rfl (oc_X11 hmh29 (ly_X11_c (lt_X11 frh29 za))) (Nat.le_of_ble_eq_true rfl) rfl rfl ?_
        refine sk_stc (kd := 10) (n := 0) hmh29 frh29 (ly_X11_c (lt_X11 frh29 za)) 7 x31 (fun h32 hmh32 frh32 => ?_)
        obtain ⟨q33, eq33⟩ : ∃ z, z = (sk_wc q30 a 7 x31) := ⟨_, rfl⟩
        rw [← eq33] at hmh32 frh32
        replace e := ky_letE eq33 e
        refine (?_ : ky_V _ _ _ 84 _ _ _ _)
        refine v_vret (i := 44) rfl rfl ?_
        obtain ⟨rfl, rfl⟩ := ky_leaf e
        exact hr _ hmh32 frh32
  · replace e := ky_omS y2 e
    refine v_aald (i := 4) rfl (oa_23 hm (ly_X11_k4 za)) (ky_inb z1) ?_
    refine (?_ : ky_V _ _ _ 9 _ (va_rf (sk_r s (a + 22) (Int32.toNatClampNeg (sk_c s a 6))) :: _) _ _)
    rw [y2]
    refine (?_ : ky_V _ _ _ 9 _ (.ref l3 :: _) _ _)
    refine v_ifnonnull (tgt := 28) (i := 5) rfl (by decide) (?_ : ky_V _ _ _ 28 _ _ _ _)
    refine v_aload_n (i := 14) (j := 0) rfl rfl (?_ : ky_V _ _ _ 29 _ _ _ _)
    refine gf_X11_37 rfl (i := 15) rfl (oc_X11 hm (ly_X11_c za)) (sk_rf (ly_X11_r4 za)) (?_ : ky_V _ _ _ 32 _ (.ref (a + 22) :: _) _ _)
    refine v_aload_n (i := 16) (j := 0) rfl rfl (?_ : ky_V _ _ _ 33 _ _ _ _)
    refine gf_X11_411 rfl (i := 17) rfl (oc_X11 hm (ly_X11_c za)) rfl (?_ : ky_V _ _ _ 36 _ _ _ _)
    rcases y34 : (sk_r s (a + 22) (Int32.toNatClampNeg (sk_c s a 6))) with _ | l35
    · replace e := ky_omN y34 e
      refine v_aald (i := 18) rfl (oa_23 hm (ly_X11_k4 za)) (ky_inb z1) ?_
      refine (?_ : ky_V _ _ _ 37 _ (va_rf (sk_r s (a + 22) (Int32.toNatClampNeg (sk_c s a 6))) :: _) _ _)
      rw [y34]
      refine (?_ : ky_V _ _ _ 37 _ (.null :: _) _ _)
      refine v_aload_n (i := 19) (j := 0) rfl rfl (?_ : ky_V _ _ _ 38 _ _ _ _)
      refine gf_X11_33 rfl (i := 20) rfl (oc_X11 hm (ly_X11_c za)) (sk_rf (ly_X11_r3 za)) (?_ : ky_V _ _ _ 41 _ (.ref (a + 12) :: _) _ _)
      cases e
    · replace e := ky_omS y34 e
      refine v_aald (i := 18) rfl (oa_23 hm (ly_X11_k4 za)) (ky_inb z1) ?_
      refine (?_ : ky_V _ _ _ 37 _ (va_rf (sk_r s (a + 22) (Int32.toNatClampNeg (sk_c s a 6))) :: _) _ _)
      rw [y34]
      refine (?_ : ky_V _ _ _ 37 _ (.ref l35 :: _) _ _)
      refine v_aload_n (i := 19) (j := 0) rfl rfl (?_ : ky_V _ _ _ 38 _ _ _ _)
      refine gf_X11_33 rfl (i := 20) rfl (oc_X11 hm (ly_X11_c za)) (sk_rf (ly_X11_r3 za)) (?_ : ky_V _ _ _ 41 _ (.ref (a + 12) :: _) _ _)
      obtain ⟨z36, e⟩ := ky_chkE e
      obtain ⟨⟨q38, x39⟩, g40, e⟩ := Option.bind_eq_some_iff.mp e
      refine cl_X11_417 (As := [.ref ((a + 12))]) rfl (i := 21) rfl (oc_X7 hm (ly_X7_c z36)) rfl rfl (Nat.le_of_ble_eq_true rfl) (k_X7_become N hG hm g40 (fun h37 hmh37 frh37 => ⟨_, rfl, (?_ : ky_V _ _ _ 44 _ [] _ _)⟩))
      have frh37 := fr.tr frh37
      refine v_aload_n (i := 22) (j := 0) rfl rfl (?_ : ky_V _ _ _ 45 _ _ _ _)
      refine v_aload_n (i := 23) (j := 0) rfl rfl (?_ : ky_V _ _ _ 46 _ _ _ _)
      refine gf_X11_411 rfl (i := 24) rfl (oc_X11 hmh37 (ly_X11_c (lt_X11 frh37 za))) rfl (?_ : ky_V _ _ _ 49 _ _ _ _)
      refine v_iconst (v := 1) (i := 25) rfl (by decide) (?_ : ky_V _ _ _ 50 _ _ _ _)
      refine v_iadd (i := 26) rfl (?_ : ky_V _ _ _ 51 _ _ _ _)
      refine v_bipush (v := 12) (i := 27) rfl (by decide) (?_ : ky_V _ _ _ 53 _ _ _ _)
      refine v_icmp_ge (tgt := 65) (i := 28) rfl (by decide) (fun c41 => ?_) (fun c41 => ?_)
      · replace e := ky_ifT c41 e
        refine v_iconst (v := 0) (i := 34) rfl (by decide) (?_ : ky_V _ _ _ 66 _ _ _ _)
        refine pf_X11_411 rfl (i := 35) rfl (oc_X11 hmh37 (ly_X11_c (lt_X11 frh37 za))) (Nat.le_of_ble_eq_true rfl) rfl rfl ?_
        refine sk_stc (kd := 10) (n := 0) hmh37 frh37 (ly_X11_c (lt_X11 frh37 za)) 6 0 (fun h42 hmh42 frh42 => ?_)
        obtain ⟨q43, eq43⟩ : ∃ z, z = (sk_wc q38 a 6 0) := ⟨_, rfl⟩
        rw [← eq43] at hmh42 frh42
        replace e := ky_letE eq43 e
        refine (?_ : ky_V _ _ _ 69 _ _ _ _)
        refine v_aload_n (i := 36) (j := 0) rfl rfl (?_ : ky_V _ _ _ 70 _ _ _ _)
        refine v_bipush (v := 12) (i := 37) rfl (by decide) (?_ : ky_V _ _ _ 72 _ _ _ _)
        refine v_aload_n (i := 38) (j := 0) rfl rfl (?_ : ky_V _ _ _ 73 _ _ _ _)
        refine gf_X11_414 rfl (i := 39) rfl (oc_X11 hmh42 (ly_X11_c (lt_X11 frh42 za))) rfl (?_ : ky_V _ _ _ 76 _ _ _ _)
        refine v_iconst (v := 1) (i := 40) rfl (by decide) (?_ : ky_V _ _ _ 77 _ _ _ _)
        refine v_iadd (i := 41) rfl (?_ : ky_V _ _ _ 78 _ _ _ _)
        refine cl_X11_387 rfl (i := 42) rfl (Nat.le_of_ble_eq_true rfl) (?_ : ky_V _ _ _ 81 _ _ _ _)
        refine v_topi (fun x44 ex44 => ?_)
        replace e := ky_letE ex44 e
        refine pf_X11_414 rfl (i := 43) rfl (oc_X11 hmh42 (ly_X11_c (lt_X11 frh42 za))) (Nat.le_of_ble_eq_true rfl) rfl rfl ?_
        refine sk_stc (kd := 10) (n := 0) hmh42 frh42 (ly_X11_c (lt_X11 frh42 za)) 7 x44 (fun h45 hmh45 frh45 => ?_)
        obtain ⟨q46, eq46⟩ : ∃ z, z = (sk_wc q43 a 7 x44) := ⟨_, rfl⟩
        rw [← eq46] at hmh45 frh45
        replace e := ky_letE eq46 e
        refine (?_ : ky_V _ _ _ 84 _ _ _ _)
        refine v_vret (i := 44) rfl rfl ?_
        obtain ⟨rfl, rfl⟩ := ky_leaf e
        exact hr _ hmh45 frh45
      · replace e := ky_ifF c41 e
        refine v_aload_n (i := 29) (j := 0) rfl rfl (?_ : ky_V _ _ _ 57 _ _ _ _)
        refine gf_X11_411 rfl (i := 30) rfl (oc_X11 hmh37 (ly_X11_c (lt_X11 frh37 za))) rfl (?_ : ky_V _ _ _ 60 _ _ _ _)
        refine v_iconst (v := 1) (i := 31) rfl (by decide) (?_ : ky_V _ _ _ 61 _ _ _ _)
        refine v_iadd (i := 32) rfl (?_ : ky_V _ _ _ 62 _ _ _ _)
        refine v_goto (tgt := 66) (i := 33) rfl (by decide) (?_ : ky_V _ _ _ 66 _ _ _ _)
        refine v_topi (fun x47 ex47 => ?_)
        replace e := ky_letE ex47 e
        refine pf_X11_411 rfl (i := 35) rfl (oc_X11 hmh37 (ly_X11_c (lt_X11 frh37 za))) (Nat.le_of_ble_eq_true rfl) rfl rfl ?_
        refine sk_stc (kd := 10) (n := 0) hmh37 frh37 (ly_X11_c (lt_X11 frh37 za)) 6 x47 (fun h48 hmh48 frh48 => ?_)
        obtain ⟨q49, eq49⟩ : ∃ z, z = (sk_wc q38 a 6 x47) := ⟨_, rfl⟩
        rw [← eq49] at hmh48 frh48
        replace e := ky_letE eq49 e
        refine (?_ : ky_V _ _ _ 69 _ _ _ _)
        refine v_aload_n (i := 36) (j := 0) rfl rfl (?_ : ky_V _ _ _ 70 _ _ _ _)
        refine v_bipush (v := 12) (i := 37) rfl (by decide) (?_ : ky_V _ _ _ 72 _ _ _ _)
        refine v_aload_n (i := 38) (j := 0) rfl rfl (?_ : ky_V _ _ _ 73 _ _ _ _)
        refine gf_X11_414 rfl (i := 39) rfl (oc_X11 hmh48 (ly_X11_c (lt_X11 frh48 za))) rfl (?_ : ky_V _ _ _ 76 _ _ _ _)
        refine v_iconst (v := 1) (i := 40) rfl (by decide) (?_ : ky_V _ _ _ 77 _ _ _ _)
        refine v_iadd (i := 41) rfl (?_ : ky_V _ _ _ 78 _ _ _ _)
        refine cl_X11_387 rfl (i := 42) rfl (Nat.le_of_ble_eq_true rfl) (?_ : ky_V _ _ _ 81 _ _ _ _)
        refine v_topi (fun x50 ex50 => ?_)
        replace e := ky_letE ex50 e
        refine pf_X11_414 rfl (i := 43) rfl (oc_X11 hmh48 (ly_X11_c (lt_X11 frh48 za))) (Nat.le_of_ble_eq_true rfl) rfl rfl ?_
        refine sk_stc (kd := 10) (n := 0) hmh48 frh48 (ly_X11_c (lt_X11 frh48 za)) 7 x50 (fun h51 hmh51 frh51 => ?_)
        obtain ⟨q52, eq52⟩ : ∃ z, z = (sk_wc q49 a 7 x50) := ⟨_, rfl⟩
        rw [← eq52] at hmh51 frh51
        replace e := ky_letE eq52 e
        refine (?_ : ky_V _ _ _ 84 _ _ _ _)
        refine v_vret (i := 44) rfl rfl ?_
        obtain ⟨rfl, rfl⟩ := ky_leaf e
        exact hr _ hmh51 frh51

def x11_pull (N : Nat)  (s : sk_S) (a : Nat) (p1 : Int32) : Option (sk_S × ky_RS) := (if lay_X11 (sk_K s) (sk_r s) a = true then (if (ws_isForce p1) = 0 then (some ((sk_rs s 6), (.inr "java/lang/IllegalArgumentException"))) else ((x1_isStill N s (a + 13)).bind (fun zz => (fun q3 x4 => (if x4 = 0 then ((x11_remember N q3 a).bind (fun zz => (fun q8 x9 => ((x7_makePull N q8 (a + 12) p1).bind (fun zz => (fun q12 x13 => (some (q12, (.inl (some (.int (sk_c q12 (a + 13) 3))))))) zz.1 zz.2))) zz.1 zz.2)) else (some ((sk_rs q3 6), (.inr "java/lang/IllegalStateException"))))) zz.1 zz.2))) else none)
set_option maxRecDepth 20000 in
set_option maxHeartbeats 4000000 in
theorem k_X11_pull {G : ky_GW} {d : Nat} {h : ky_HP} {Q : ky_RS → ky_HP → Prop} {s s9 : sk_S} {r9 : ky_RS} {a : Nat} {p1 : Int32} (N : Nat) (hG : ky_OK G)   (hm : sk_hp G s h)  (e : x11_pull N  s a p1 = some (s9, r9)) (hr : ∀ h1, sk_hp G s9 h1 → sk_fr none s h s9 h1 → Q r9 h1) : ky_Call G (d + 6) M_X11_pull [.ref a, .int p1] h Q := by
  refine ky_ofV (by decide +kernel) rfl ok_X11_pull (Nat.le_of_ble_eq_true rfl) ?_
  have fr : sk_fr none s h s h := sk_fr.rf
  unfold x11_pull at e
  refine (?_ : ky_V _ _ _ 0 [(0, .ref a), (1, .int p1)] [] _ _)
  obtain ⟨za, e⟩ := ky_chkE e
  refine v_iload_n (i := 0) (j := 1) rfl rfl (?_ : ky_V _ _ _ 1 _ _ _ _)
  refine cl_X11_217 (As := [.int p1]) rfl (i := 1) rfl rfl rfl (Nat.le_of_ble_eq_true rfl) (k_X11_isForce p1 ⟨_, rfl, (?_ : ky_V _ _ _ 4 _ [.int ((ws_isForce p1))] _ _)⟩)
  refine v_if_ne (tgt := 17) (i := 2) rfl (by decide) (fun c1 => ?_) (fun c1 => ?_)
  · replace e := ky_ifF c1 e
    refine v_aload_n (i := 8) (j := 0) rfl rfl (?_ : ky_V _ _ _ 18 _ _ _ _)
    refine gf_X11_33 rfl (i := 9) rfl (oc_X11 hm (ly_X11_c za)) (sk_rf (ly_X11_r3 za)) (?_ : ky_V _ _ _ 21 _ (.ref (a + 12) :: _) _ _)
    refine gf_X11_191 rfl (i := 10) rfl (oc_X7 hm (ly_X7_c (ly_X11_l3 za))) (sk_rf (ly_X7_r0 (ly_X11_l3 za))) (?_ : ky_V _ _ _ 24 _ (.ref (a + 13) :: _) _ _)
    obtain ⟨⟨q3, x4⟩, g5, e⟩ := Option.bind_eq_some_iff.mp e
    refine cl_X11_194 (As := []) rfl (i := 11) rfl (oc_X1 hm (ly_X1_c (ly_X7_l0 (ly_X11_l3 za)))) rfl rfl (Nat.le_of_ble_eq_true rfl) (k_X1_isStill N hG hm g5 (fun h2 hmh2 frh2 => ⟨_, rfl, (?_ : ky_V _ _ _ 27 _ [.int x4] _ _)⟩))
    have frh2 := fr.tr frh2
    refine v_if_eq (tgt := 40) (i := 12) rfl (by decide) (fun c6 => ?_) (fun c6 => ?_)
    · replace e := ky_ifT c6 e
      refine v_aload_n (i := 18) (j := 0) rfl rfl (?_ : ky_V _ _ _ 41 _ _ _ _)
      obtain ⟨⟨q8, x9⟩, g10, e⟩ := Option.bind_eq_some_iff.mp e
      refine cl_X11_202 (As := []) rfl (i := 19) rfl (oc_X11 hmh2 (ly_X11_c (lt_X11 frh2 za))) rfl rfl (Nat.le_of_ble_eq_true rfl) (k_X11_remember N hG hmh2 g10 (fun h7 hmh7 frh7 => ⟨_, rfl, (?_ : ky_V _ _ _ 44 _ [] _ _)⟩))
      have frh7 := frh2.tr frh7
      refine v_aload_n (i := 20) (j := 0) rfl rfl (?_ : ky_V _ _ _ 45 _ _ _ _)
      refine gf_X11_33 rfl (i := 21) rfl (oc_X11 hmh7 (ly_X11_c (lt_X11 frh7 za))) (sk_rf (ly_X11_r3 (lt_X11 frh7 za))) (?_ : ky_V _ _ _ 48 _ (.ref (a + 12) :: _) _ _)
      refine v_iload_n (i := 22) (j := 1) rfl rfl (?_ : ky_V _ _ _ 49 _ _ _ _)
      obtain ⟨⟨q12, x13⟩, g14, e⟩ := Option.bind_eq_some_iff.mp e
      refine cl_X11_222 (As := [.int p1]) rfl (i := 23) rfl (oc_X7 hmh7 (ly_X7_c (ly_X11_l3 (lt_X11 frh7 za)))) rfl rfl (Nat.le_of_ble_eq_true rfl) (k_X7_makePull N hG hmh7 g14 (fun h11 hmh11 frh11 => ⟨_, rfl, (?_ : ky_V _ _ _ 52 _ [] _ _)⟩))
      have frh11 := frh7.tr frh11
      refine v_aload_n (i := 24) (j := 0) rfl rfl (?_ : ky_V _ _ _ 53 _ _ _ _)
      refine gf_X11_33 rfl (i := 25) rfl (oc_X11 hmh11 (ly_X11_c (lt_X11 frh11 za))) (sk_rf (ly_X11_r3 (lt_X11 frh11 za))) (?_ : ky_V _ _ _ 56 _ (.ref (a + 12) :: _) _ _)
      refine gf_X11_191 rfl (i := 26) rfl (oc_X7 hmh11 (ly_X7_c (ly_X11_l3 (lt_X11 frh11 za)))) (sk_rf (ly_X7_r0 (ly_X11_l3 (lt_X11 frh11 za)))) (?_ : ky_V _ _ _ 59 _ (.ref (a + 13) :: _) _ _)
      refine gf_X11_225 rfl (i := 27) rfl (oc_X1 hmh11 (ly_X1_c (ly_X7_l0 (ly_X11_l3 (lt_X11 frh11 za))))) rfl (?_ : ky_V _ _ _ 62 _ _ _ _)
      refine v_iret (v := (sk_c q12 (a + 13) 3)) (ty := .int) (i := 28) rfl rfl rfl ?_
      obtain ⟨rfl, rfl⟩ := ky_leaf e
      exact hr _ hmh11 frh11
    · replace e := ky_ifF c6 e
      obtain ⟨s15, hvs15, -⟩ := sg_X11_199 hG
      refine v_throwS (i0 := 13) (i1 := 14) (i2 := 15) (i3 := 16) (i4 := 17) te_X11_197_201 ky_ts hG hvs15 rfl rfl rfl rfl rfl rfl (Nat.le_of_ble_eq_true rfl) ?_
      obtain ⟨rfl, rfl⟩ := ky_leaf e
      exact hr _ (sk_hpJ hmh2) (sk_frJ hmh2 frh2)
  · replace e := ky_ifT c1 e
    obtain ⟨s16, hvs16, -⟩ := sg_X11_220 hG
    refine v_throwS (i0 := 3) (i1 := 4) (i2 := 5) (i3 := 6) (i4 := 7) te_X11_80_84 ky_ts hG hvs16 rfl rfl rfl rfl rfl rfl (Nat.le_of_ble_eq_true rfl) ?_
    obtain ⟨rfl, rfl⟩ := ky_leaf e
    exact hr _ (sk_hpJ hm) (sk_frJ hm fr)

def x11_talk (N : Nat)  (s : sk_S) (a : Nat) : Option (sk_S × ky_RS) := (if lay_X11 (sk_K s) (sk_r s) a = true then ((x1_isDrowned N s (a + 13)).bind (fun zz => (fun q2 x3 => (if x3 = 0 then ((x11_remember N q2 a).bind (fun zz => (fun q7 x8 => (ky_let (bo_oneMore (sk_c q7 (a + 13) 1)) (fun x10 => (ky_let (sk_wc q7 (a + 13) 1 x10) (fun q12 => ((x1_pass N q12 (a + 13) 1).bind (fun zz => (fun q14 x15 => (some (q14, (.inl (some (.int (sk_c q14 (a + 13) 1))))))) zz.1 zz.2))))))) zz.1 zz.2)) else (some ((sk_rs q2 6), (.inr "java/lang/IllegalStateException"))))) zz.1 zz.2)) else none)
set_option maxRecDepth 20000 in
set_option maxHeartbeats 4000000 in
theorem k_X11_talk {G : ky_GW} {d : Nat} {h : ky_HP} {Q : ky_RS → ky_HP → Prop} {s s9 : sk_S} {r9 : ky_RS} {a : Nat} (N : Nat) (hG : ky_OK G)   (hm : sk_hp G s h)  (e : x11_talk N  s a = some (s9, r9)) (hr : ∀ h1, sk_hp G s9 h1 → sk_fr none s h s9 h1 → Q r9 h1) : ky_Call G (d + 6) M_X11_talk [.ref a] h Q := by
  refine ky_ofV (by decide +kernel) rfl ok_X11_talk (Nat.le_of_ble_eq_true rfl) ?_
  have fr : sk_fr none s h s h := sk_fr.rf
  unfold x11_talk at e
  refine (?_ : ky_V _ _ _ 0 [(0, .ref a)] [] _ _)
  obtain ⟨za, e⟩ := ky_chkE e
  refine v_aload_n (i := 0) (j := 0) rfl rfl (?_ : ky_V _ _ _ 1 _ _ _ _)
  refine gf_X11_33 rfl (i := 1) rfl (oc_X11 hm (ly_X11_c za)) (sk_rf (ly_X11_r3 za)) (?_ : ky_V _ _ _ 4 _ (.ref (a + 12) :: _) _ _)
  refine gf_X11_191 rfl (i := 2) rfl (oc_X7 hm (ly_X7_c (ly_X11_l3 za))) (sk_rf (ly_X7_r0 (ly_X11_l3 za))) (?_ : ky_V _ _ _ 7 _ (.ref (a + 13) :: _) _ _)
  obtain ⟨⟨q2, x3⟩, g4, e⟩ := Option.bind_eq_some_iff.mp e
  refine cl_X11_228 (As := []) rfl (i := 3) rfl (oc_X1 hm (ly_X1_c (ly_X7_l0 (ly_X11_l3 za)))) rfl rfl (Nat.le_of_ble_eq_true rfl) (k_X1_isDrowned N hG hm g4 (fun h1 hmh1 frh1 => ⟨_, rfl, (?_ : ky_V _ _ _ 10 _ [.int x3] _ _)⟩))
  have frh1 := fr.tr frh1
  refine v_if_eq (tgt := 23) (i := 4) rfl (by decide) (fun c5 => ?_) (fun c5 => ?_)
  · replace e := ky_ifT c5 e
    refine v_aload_n (i := 10) (j := 0) rfl rfl (?_ : ky_V _ _ _ 24 _ _ _ _)
    obtain ⟨⟨q7, x8⟩, g9, e⟩ := Option.bind_eq_some_iff.mp e
    refine cl_X11_202 (As := []) rfl (i := 11) rfl (oc_X11 hmh1 (ly_X11_c (lt_X11 frh1 za))) rfl rfl (Nat.le_of_ble_eq_true rfl) (k_X11_remember N hG hmh1 g9 (fun h6 hmh6 frh6 => ⟨_, rfl, (?_ : ky_V _ _ _ 27 _ [] _ _)⟩))
    have frh6 := frh1.tr frh6
    refine v_aload_n (i := 12) (j := 0) rfl rfl (?_ : ky_V _ _ _ 28 _ _ _ _)
    refine gf_X11_33 rfl (i := 13) rfl (oc_X11 hmh6 (ly_X11_c (lt_X11 frh6 za))) (sk_rf (ly_X11_r3 (lt_X11 frh6 za))) (?_ : ky_V _ _ _ 31 _ (.ref (a + 12) :: _) _ _)
    refine gf_X11_191 rfl (i := 14) rfl (oc_X7 hmh6 (ly_X7_c (ly_X11_l3 (lt_X11 frh6 za)))) (sk_rf (ly_X7_r0 (ly_X11_l3 (lt_X11 frh6 za)))) (?_ : ky_V _ _ _ 34 _ (.ref (a + 13) :: _) _ _)
    refine v_aload_n (i := 15) (j := 0) rfl rfl (?_ : ky_V _ _ _ 35 _ _ _ _)
    refine gf_X11_33 rfl (i := 16) rfl (oc_X11 hmh6 (ly_X11_c (lt_X11 frh6 za))) (sk_rf (ly_X11_r3 (lt_X11 frh6 za))) (?_ : ky_V _ _ _ 38 _ (.ref (a + 12) :: _) _ _)
    refine gf_X11_191 rfl (i := 17) rfl (oc_X7 hmh6 (ly_X7_c (ly_X11_l3 (lt_X11 frh6 za)))) (sk_rf (ly_X7_r0 (ly_X11_l3 (lt_X11 frh6 za)))) (?_ : ky_V _ _ _ 41 _ (.ref (a + 13) :: _) _ _)
    refine gf_X11_233 rfl (i := 18) rfl (oc_X1 hmh6 (ly_X1_c (ly_X7_l0 (ly_X11_l3 (lt_X11 frh6 za))))) rfl (?_ : ky_V _ _ _ 44 _ _ _ _)
    refine cl_X11_236 (As := [.int ((sk_c q7 (a + 13) 1))]) rfl (i := 19) rfl rfl rfl (Nat.le_of_ble_eq_true rfl) (k_X1_oneMore (sk_c q7 (a + 13) 1) ⟨_, rfl, (?_ : ky_V _ _ _ 47 _ [.int ((bo_oneMore (sk_c q7 (a + 13) 1))), .ref ((a + 13))] _ _)⟩)
    refine v_topi (fun x10 ex10 => ?_)
    replace e := ky_letE ex10 e
    refine pf_X11_233 rfl (i := 20) rfl (oc_X1 hmh6 (ly_X1_c (ly_X7_l0 (ly_X11_l3 (lt_X11 frh6 za))))) (Nat.le_of_ble_eq_true rfl) rfl rfl ?_
    refine sk_stc (kd := 1) (n := 0) hmh6 frh6 (ly_X1_c (ly_X7_l0 (ly_X11_l3 (lt_X11 frh6 za)))) 1 x10 (fun h11 hmh11 frh11 => ?_)
    obtain ⟨q12, eq12⟩ : ∃ z, z = (sk_wc q7 (a + 13) 1 x10) := ⟨_, rfl⟩
    rw [← eq12] at hmh11 frh11
    replace e := ky_letE eq12 e
    refine (?_ : ky_V _ _ _ 50 _ _ _ _)
    refine v_aload_n (i := 21) (j := 0) rfl rfl (?_ : ky_V _ _ _ 51 _ _ _ _)
    refine gf_X11_33 rfl (i := 22) rfl (oc_X11 hmh11 (ly_X11_c (lt_X11 frh11 za))) (sk_rf (ly_X11_r3 (lt_X11 frh11 za))) (?_ : ky_V _ _ _ 54 _ (.ref (a + 12) :: _) _ _)
    refine gf_X11_191 rfl (i := 23) rfl (oc_X7 hmh11 (ly_X7_c (ly_X11_l3 (lt_X11 frh11 za)))) (sk_rf (ly_X7_r0 (ly_X11_l3 (lt_X11 frh11 za)))) (?_ : ky_V _ _ _ 57 _ (.ref (a + 13) :: _) _ _)
    refine v_iconst (v := 1) (i := 24) rfl (by decide) (?_ : ky_V _ _ _ 58 _ _ _ _)
    obtain ⟨⟨q14, x15⟩, g16, e⟩ := Option.bind_eq_some_iff.mp e
    refine cl_X11_239 (As := [.int 1]) rfl (i := 25) rfl (oc_X1 hmh11 (ly_X1_c (ly_X7_l0 (ly_X11_l3 (lt_X11 frh11 za))))) rfl rfl (Nat.le_of_ble_eq_true rfl) (k_X1_pass N hG hmh11 g16 (fun h13 hmh13 frh13 => ⟨_, rfl, (?_ : ky_V _ _ _ 61 _ [] _ _)⟩))
    have frh13 := frh11.tr frh13
    refine v_aload_n (i := 26) (j := 0) rfl rfl (?_ : ky_V _ _ _ 62 _ _ _ _)
    refine gf_X11_33 rfl (i := 27) rfl (oc_X11 hmh13 (ly_X11_c (lt_X11 frh13 za))) (sk_rf (ly_X11_r3 (lt_X11 frh13 za))) (?_ : ky_V _ _ _ 65 _ (.ref (a + 12) :: _) _ _)
    refine gf_X11_191 rfl (i := 28) rfl (oc_X7 hmh13 (ly_X7_c (ly_X11_l3 (lt_X11 frh13 za)))) (sk_rf (ly_X7_r0 (ly_X11_l3 (lt_X11 frh13 za)))) (?_ : ky_V _ _ _ 68 _ (.ref (a + 13) :: _) _ _)
    refine gf_X11_233 rfl (i := 29) rfl (oc_X1 hmh13 (ly_X1_c (ly_X7_l0 (ly_X11_l3 (lt_X11 frh13 za))))) rfl (?_ : ky_V _ _ _ 71 _ _ _ _)
    refine v_iret (v := (sk_c q14 (a + 13) 1)) (ty := .int) (i := 30) rfl rfl rfl ?_
    obtain ⟨rfl, rfl⟩ := ky_leaf e
    exact hr _ hmh13 frh13
  · replace e := ky_ifF c5 e
    obtain ⟨s17, hvs17, -⟩ := sg_X11_231 hG
    refine v_throwS (i0 := 5) (i1 := 6) (i2 := 7) (i3 := 8) (i4 := 9) te_X11_197_201 ky_ts hG hvs17 rfl rfl rfl rfl rfl rfl (Nat.le_of_ble_eq_true rfl) ?_
    obtain ⟨rfl, rfl⟩ := ky_leaf e
    exact hr _ (sk_hpJ hmh1) (sk_frJ hmh1 frh1)

def x11_pour (N : Nat)  (s : sk_S) (a : Nat) : Option (sk_S × ky_RS) := (if lay_X11 (sk_K s) (sk_r s) a = true then ((x1_isDrowned N s (a + 13)).bind (fun zz => (fun q2 x3 => (if x3 = 0 then ((x11_remember N q2 a).bind (fun zz => (fun q7 x8 => (ky_let (bo_oneMore (sk_c q7 (a + 13) 2)) (fun x10 => (ky_let (sk_wc q7 (a + 13) 2 x10) (fun q12 => ((x1_pass N q12 (a + 13) 1).bind (fun zz => (fun q14 x15 => (some (q14, (.inl (some (.int (sk_c q14 (a + 13) 2))))))) zz.1 zz.2))))))) zz.1 zz.2)) else (some ((sk_rs q2 6), (.inr "java/lang/IllegalStateException"))))) zz.1 zz.2)) else none)
set_option maxRecDepth 20000 in
set_option maxHeartbeats 4000000 in
theorem k_X11_pour {G : ky_GW} {d : Nat} {h : ky_HP} {Q : ky_RS → ky_HP → Prop} {s s9 : sk_S} {r9 : ky_RS} {a : Nat} (N : Nat) (hG : ky_OK G)   (hm : sk_hp G s h)  (e : x11_pour N  s a = some (s9, r9)) (hr : ∀ h1, sk_hp G s9 h1 → sk_fr none s h s9 h1 → Q r9 h1) : ky_Call G (d + 6) M_X11_pour [.ref a] h Q := by
  refine ky_ofV (by decide +kernel) rfl ok_X11_pour (Nat.le_of_ble_eq_true rfl) ?_
  have fr : sk_fr none s h s h := sk_fr.rf
  unfold x11_pour at e
  refine (?_ : ky_V _ _ _ 0 [(0, .ref a)] [] _ _)
  obtain ⟨za, e⟩ := ky_chkE e
  refine v_aload_n (i := 0) (j := 0) rfl rfl (?_ : ky_V _ _ _ 1 _ _ _ _)
  refine gf_X11_33 rfl (i := 1) rfl (oc_X11 hm (ly_X11_c za)) (sk_rf (ly_X11_r3 za)) (?_ : ky_V _ _ _ 4 _ (.ref (a + 12) :: _) _ _)
  refine gf_X11_191 rfl (i := 2) rfl (oc_X7 hm (ly_X7_c (ly_X11_l3 za))) (sk_rf (ly_X7_r0 (ly_X11_l3 za))) (?_ : ky_V _ _ _ 7 _ (.ref (a + 13) :: _) _ _)
  obtain ⟨⟨q2, x3⟩, g4, e⟩ := Option.bind_eq_some_iff.mp e
  refine cl_X11_228 (As := []) rfl (i := 3) rfl (oc_X1 hm (ly_X1_c (ly_X7_l0 (ly_X11_l3 za)))) rfl rfl (Nat.le_of_ble_eq_true rfl) (k_X1_isDrowned N hG hm g4 (fun h1 hmh1 frh1 => ⟨_, rfl, (?_ : ky_V _ _ _ 10 _ [.int x3] _ _)⟩))
  have frh1 := fr.tr frh1
  refine v_if_eq (tgt := 23) (i := 4) rfl (by decide) (fun c5 => ?_) (fun c5 => ?_)
  · replace e := ky_ifT c5 e
    refine v_aload_n (i := 10) (j := 0) rfl rfl (?_ : ky_V _ _ _ 24 _ _ _ _)
    obtain ⟨⟨q7, x8⟩, g9, e⟩ := Option.bind_eq_some_iff.mp e
    refine cl_X11_202 (As := []) rfl (i := 11) rfl (oc_X11 hmh1 (ly_X11_c (lt_X11 frh1 za))) rfl rfl (Nat.le_of_ble_eq_true rfl) (k_X11_remember N hG hmh1 g9 (fun h6 hmh6 frh6 => ⟨_, rfl, (?_ : ky_V _ _ _ 27 _ [] _ _)⟩))
    have frh6 := frh1.tr frh6
    refine v_aload_n (i := 12) (j := 0) rfl rfl (?_ : ky_V _ _ _ 28 _ _ _ _)
    refine gf_X11_33 rfl (i := 13) rfl (oc_X11 hmh6 (ly_X11_c (lt_X11 frh6 za))) (sk_rf (ly_X11_r3 (lt_X11 frh6 za))) (?_ : ky_V _ _ _ 31 _ (.ref (a + 12) :: _) _ _)
    refine gf_X11_191 rfl (i := 14) rfl (oc_X7 hmh6 (ly_X7_c (ly_X11_l3 (lt_X11 frh6 za)))) (sk_rf (ly_X7_r0 (ly_X11_l3 (lt_X11 frh6 za)))) (?_ : ky_V _ _ _ 34 _ (.ref (a + 13) :: _) _ _)
    refine v_aload_n (i := 15) (j := 0) rfl rfl (?_ : ky_V _ _ _ 35 _ _ _ _)
    refine gf_X11_33 rfl (i := 16) rfl (oc_X11 hmh6 (ly_X11_c (lt_X11 frh6 za))) (sk_rf (ly_X11_r3 (lt_X11 frh6 za))) (?_ : ky_V _ _ _ 38 _ (.ref (a + 12) :: _) _ _)
    refine gf_X11_191 rfl (i := 17) rfl (oc_X7 hmh6 (ly_X7_c (ly_X11_l3 (lt_X11 frh6 za)))) (sk_rf (ly_X7_r0 (ly_X11_l3 (lt_X11 frh6 za)))) (?_ : ky_V _ _ _ 41 _ (.ref (a + 13) :: _) _ _)
    refine gf_X11_242 rfl (i := 18) rfl (oc_X1 hmh6 (ly_X1_c (ly_X7_l0 (ly_X11_l3 (lt_X11 frh6 za))))) rfl (?_ : ky_V _ _ _ 44 _ _ _ _)
    refine cl_X11_236 (As := [.int ((sk_c q7 (a + 13) 2))]) rfl (i := 19) rfl rfl rfl (Nat.le_of_ble_eq_true rfl) (k_X1_oneMore (sk_c q7 (a + 13) 2) ⟨_, rfl, (?_ : ky_V _ _ _ 47 _ [.int ((bo_oneMore (sk_c q7 (a + 13) 2))), .ref ((a + 13))] _ _)⟩)
    refine v_topi (fun x10 ex10 => ?_)
    replace e := ky_letE ex10 e
    refine pf_X11_242 rfl (i := 20) rfl (oc_X1 hmh6 (ly_X1_c (ly_X7_l0 (ly_X11_l3 (lt_X11 frh6 za))))) (Nat.le_of_ble_eq_true rfl) rfl rfl ?_
    refine sk_stc (kd := 1) (n := 0) hmh6 frh6 (ly_X1_c (ly_X7_l0 (ly_X11_l3 (lt_X11 frh6 za)))) 2 x10 (fun h11 hmh11 frh11 => ?_)
    obtain ⟨q12, eq12⟩ : ∃ z, z = (sk_wc q7 (a + 13) 2 x10) := ⟨_, rfl⟩
    rw [← eq12] at hmh11 frh11
    replace e := ky_letE eq12 e
    refine (?_ : ky_V _ _ _ 50 _ _ _ _)
    refine v_aload_n (i := 21) (j := 0) rfl rfl (?_ : ky_V _ _ _ 51 _ _ _ _)
    refine gf_X11_33 rfl (i := 22) rfl (oc_X11 hmh11 (ly_X11_c (lt_X11 frh11 za))) (sk_rf (ly_X11_r3 (lt_X11 frh11 za))) (?_ : ky_V _ _ _ 54 _ (.ref (a + 12) :: _) _ _)
    refine gf_X11_191 rfl (i := 23) rfl (oc_X7 hmh11 (ly_X7_c (ly_X11_l3 (lt_X11 frh11 za)))) (sk_rf (ly_X7_r0 (ly_X11_l3 (lt_X11 frh11 za)))) (?_ : ky_V _ _ _ 57 _ (.ref (a + 13) :: _) _ _)
    refine v_iconst (v := 1) (i := 24) rfl (by decide) (?_ : ky_V _ _ _ 58 _ _ _ _)
    obtain ⟨⟨q14, x15⟩, g16, e⟩ := Option.bind_eq_some_iff.mp e
    refine cl_X11_239 (As := [.int 1]) rfl (i := 25) rfl (oc_X1 hmh11 (ly_X1_c (ly_X7_l0 (ly_X11_l3 (lt_X11 frh11 za))))) rfl rfl (Nat.le_of_ble_eq_true rfl) (k_X1_pass N hG hmh11 g16 (fun h13 hmh13 frh13 => ⟨_, rfl, (?_ : ky_V _ _ _ 61 _ [] _ _)⟩))
    have frh13 := frh11.tr frh13
    refine v_aload_n (i := 26) (j := 0) rfl rfl (?_ : ky_V _ _ _ 62 _ _ _ _)
    refine gf_X11_33 rfl (i := 27) rfl (oc_X11 hmh13 (ly_X11_c (lt_X11 frh13 za))) (sk_rf (ly_X11_r3 (lt_X11 frh13 za))) (?_ : ky_V _ _ _ 65 _ (.ref (a + 12) :: _) _ _)
    refine gf_X11_191 rfl (i := 28) rfl (oc_X7 hmh13 (ly_X7_c (ly_X11_l3 (lt_X11 frh13 za)))) (sk_rf (ly_X7_r0 (ly_X11_l3 (lt_X11 frh13 za)))) (?_ : ky_V _ _ _ 68 _ (.ref (a + 13) :: _) _ _)
    refine gf_X11_242 rfl (i := 29) rfl (oc_X1 hmh13 (ly_X1_c (ly_X7_l0 (ly_X11_l3 (lt_X11 frh13 za))))) rfl (?_ : ky_V _ _ _ 71 _ _ _ _)
    refine v_iret (v := (sk_c q14 (a + 13) 2)) (ty := .int) (i := 30) rfl rfl rfl ?_
    obtain ⟨rfl, rfl⟩ := ky_leaf e
    exact hr _ hmh13 frh13
  · replace e := ky_ifF c5 e
    obtain ⟨s17, hvs17, -⟩ := sg_X11_231 hG
    refine v_throwS (i0 := 5) (i1 := 6) (i2 := 7) (i3 := 8) (i4 := 9) te_X11_197_201 ky_ts hG hvs17 rfl rfl rfl rfl rfl rfl (Nat.le_of_ble_eq_true rfl) ?_
    obtain ⟨rfl, rfl⟩ := ky_leaf e
    exact hr _ (sk_hpJ hmh1) (sk_frJ hmh1 frh1)

def x11_walk (N : Nat)  (s : sk_S) (a : Nat) (p1 : Int32) (p2 : Int32) : Option (sk_S × ky_RS) := (if lay_X11 (sk_K s) (sk_r s) a = true then ((x11_isPerson N s a p1).bind (fun zz => (fun q2 x3 => (if x3 = 0 then (some ((sk_rs q2 6), (.inr "java/lang/IndexOutOfBoundsException"))) else (if (ws_isCell p2) = 0 then (some ((sk_rs q2 6), (.inr "java/lang/IndexOutOfBoundsException"))) else (if ky_inB p1 6 = true then (if (sh_has (sh_beside (1 <<< (Int32.toInt64 (sk_c q2 (a + 19) (Int32.toNatClampNeg p1)) &&& 63))) p2) = 0 then (some ((sk_rs q2 6), (.inr "java/lang/IllegalStateException"))) else ((x11_remember N q2 a).bind (fun zz => (fun q11 x12 => (ky_let (sk_wc q11 (a + 19) (Int32.toNatClampNeg p1) p2) (fun q15 => (if ky_inB p2 64 = true then (some (q15, (.inl (some (.int (sk_c q15 (a + 17) (Int32.toNatClampNeg p2))))))) else none)))) zz.1 zz.2))) else none)))) zz.1 zz.2)) else none)
set_option maxRecDepth 20000 in
set_option maxHeartbeats 4000000 in
theorem k_X11_walk {G : ky_GW} {d : Nat} {h : ky_HP} {Q : ky_RS → ky_HP → Prop} {s s9 : sk_S} {r9 : ky_RS} {a : Nat} {p1 : Int32} {p2 : Int32} (N : Nat) (hG : ky_OK G)   (hm : sk_hp G s h)  (e : x11_walk N  s a p1 p2 = some (s9, r9)) (hr : ∀ h1, sk_hp G s9 h1 → sk_fr none s h s9 h1 → Q r9 h1) : ky_Call G (d + 6) M_X11_walk [.ref a, .int p1, .int p2] h Q := by
  refine ky_ofV (by decide +kernel) rfl ok_X11_walk (Nat.le_of_ble_eq_true rfl) ?_
  have fr : sk_fr none s h s h := sk_fr.rf
  unfold x11_walk at e
  refine (?_ : ky_V _ _ _ 0 [(0, .ref a), (1, .int p1), (2, .int p2)] [] _ _)
  obtain ⟨za, e⟩ := ky_chkE e
  refine v_aload_n (i := 0) (j := 0) rfl rfl (?_ : ky_V _ _ _ 1 _ _ _ _)
  refine v_iload_n (i := 1) (j := 1) rfl rfl (?_ : ky_V _ _ _ 2 _ _ _ _)
  obtain ⟨⟨q2, x3⟩, g4, e⟩ := Option.bind_eq_some_iff.mp e
  refine cl_X11_169 (As := [.int p1]) rfl (i := 2) rfl (oc_X11 hm (ly_X11_c za)) rfl rfl (Nat.le_of_ble_eq_true rfl) (k_X11_isPerson N hG hm g4 (fun h1 hmh1 frh1 => ⟨_, rfl, (?_ : ky_V _ _ _ 5 _ [.int x3] _ _)⟩))
  have frh1 := fr.tr frh1
  refine v_if_eq (tgt := 15) (i := 3) rfl (by decide) (fun c5 => ?_) (fun c5 => ?_)
  · replace e := ky_ifT c5 e
    obtain ⟨s6, hvs6, -⟩ := sg_X11_245 hG
    refine v_throwS (i0 := 7) (i1 := 8) (i2 := 9) (i3 := 10) (i4 := 11) te_X11_128_132 ky_ts hG hvs6 rfl rfl rfl rfl rfl rfl (Nat.le_of_ble_eq_true rfl) ?_
    obtain ⟨rfl, rfl⟩ := ky_leaf e
    exact hr _ (sk_hpJ hmh1) (sk_frJ hmh1 frh1)
  · replace e := ky_ifF c5 e
    refine v_iload_n (i := 4) (j := 2) rfl rfl (?_ : ky_V _ _ _ 9 _ _ _ _)
    refine cl_X11_146 (As := [.int p2]) rfl (i := 5) rfl rfl rfl (Nat.le_of_ble_eq_true rfl) (k_X11_isCell p2 ⟨_, rfl, (?_ : ky_V _ _ _ 12 _ [.int ((ws_isCell p2))] _ _)⟩)
    refine v_if_ne (tgt := 25) (i := 6) rfl (by decide) (fun c7 => ?_) (fun c7 => ?_)
    · replace e := ky_ifF c7 e
      refine v_lconst (v := 1) (i := 12) rfl (by decide) (?_ : ky_V _ _ _ 26 _ _ _ _)
      refine v_aload_n (i := 13) (j := 0) rfl rfl (?_ : ky_V _ _ _ 27 _ _ _ _)
      refine gf_X11_33 rfl (i := 14) rfl (oc_X11 hmh1 (ly_X11_c (lt_X11 frh1 za))) (sk_rf (ly_X11_r3 (lt_X11 frh1 za))) (?_ : ky_V _ _ _ 30 _ (.ref (a + 12) :: _) _ _)
      refine gf_X11_63 rfl (i := 15) rfl (oc_X7 hmh1 (ly_X7_c (ly_X11_l3 (lt_X11 frh1 za)))) (sk_rf (ly_X7_r2 (ly_X11_l3 (lt_X11 frh1 za)))) (?_ : ky_V _ _ _ 33 _ (.ref (a + 16) :: _) _ _)
      refine gf_X11_177 rfl (i := 16) rfl (oc_X8 hmh1 (ly_X8_c (ly_X7_l2 (ly_X11_l3 (lt_X11 frh1 za))))) (sk_rf (ly_X8_r2 (ly_X7_l2 (ly_X11_l3 (lt_X11 frh1 za))))) (?_ : ky_V _ _ _ 36 _ (.ref (a + 19) :: _) _ _)
      refine v_iload_n (i := 17) (j := 1) rfl rfl (?_ : ky_V _ _ _ 37 _ _ _ _)
      obtain ⟨z8, e⟩ := ky_chkE e
      refine v_iald (i := 18) rfl (oa_21 hmh1 (ly_X8_k2 (ly_X7_l2 (ly_X11_l3 (lt_X11 frh1 za))))) (ky_inb z8) (?_ : ky_V _ _ _ 38 _ (.int (sk_c q2 (a + 19) (Int32.toNatClampNeg p1)) :: _) _ _)
      refine v_lshl (i := 19) rfl rfl (?_ : ky_V _ _ _ 39 _ _ _ _)
      refine cl_X11_247 (As := [.long ((1 <<< (Int32.toInt64 (sk_c q2 (a + 19) (Int32.toNatClampNeg p1)) &&& 63)))]) rfl (i := 20) rfl rfl rfl (Nat.le_of_ble_eq_true rfl) (k_X8_beside (1 <<< (Int32.toInt64 (sk_c q2 (a + 19) (Int32.toNatClampNeg p1)) &&& 63)) ⟨_, rfl, (?_ : ky_V _ _ _ 42 _ [.long ((sh_beside (1 <<< (Int32.toInt64 (sk_c q2 (a + 19) (Int32.toNatClampNeg p1)) &&& 63))))] _ _)⟩)
      refine v_iload_n (i := 21) (j := 2) rfl rfl (?_ : ky_V _ _ _ 43 _ _ _ _)
      refine cl_X11_159 (As := [.long ((sh_beside (1 <<< (Int32.toInt64 (sk_c q2 (a + 19) (Int32.toNatClampNeg p1)) &&& 63)))), .int p2]) rfl (i := 22) rfl rfl rfl (Nat.le_of_ble_eq_true rfl) (k_X8_has (sh_beside (1 <<< (Int32.toInt64 (sk_c q2 (a + 19) (Int32.toNatClampNeg p1)) &&& 63))) p2 ⟨_, rfl, (?_ : ky_V _ _ _ 46 _ [.int ((sh_has (sh_beside (1 <<< (Int32.toInt64 (sk_c q2 (a + 19) (Int32.toNatClampNeg p1)) &&& 63))) p2))] _ _)⟩)
      refine v_if_ne (tgt := 59) (i := 23) rfl (by decide) (fun c9 => ?_) (fun c9 => ?_)
      · replace e := ky_ifF c9 e
        refine v_aload_n (i := 29) (j := 0) rfl rfl (?_ : ky_V _ _ _ 60 _ _ _ _)
        obtain ⟨⟨q11, x12⟩, g13, e⟩ := Option.bind_eq_some_iff.mp e
        refine cl_X11_202 (As := []) rfl (i := 30) rfl (oc_X11 hmh1 (ly_X11_c (lt_X11 frh1 za))) rfl rfl (Nat.le_of_ble_eq_true rfl) (k_X11_remember N hG hmh1 g13 (fun h10 hmh10 frh10 => ⟨_, rfl, (?_ : ky_V _ _ _ 63 _ [] _ _)⟩))
        have frh10 := frh1.tr frh10
        refine v_aload_n (i := 31) (j := 0) rfl rfl (?_ : ky_V _ _ _ 64 _ _ _ _)
        refine gf_X11_33 rfl (i := 32) rfl (oc_X11 hmh10 (ly_X11_c (lt_X11 frh10 za))) (sk_rf (ly_X11_r3 (lt_X11 frh10 za))) (?_ : ky_V _ _ _ 67 _ (.ref (a + 12) :: _) _ _)
        refine gf_X11_63 rfl (i := 33) rfl (oc_X7 hmh10 (ly_X7_c (ly_X11_l3 (lt_X11 frh10 za)))) (sk_rf (ly_X7_r2 (ly_X11_l3 (lt_X11 frh10 za)))) (?_ : ky_V _ _ _ 70 _ (.ref (a + 16) :: _) _ _)
        refine gf_X11_177 rfl (i := 34) rfl (oc_X8 hmh10 (ly_X8_c (ly_X7_l2 (ly_X11_l3 (lt_X11 frh10 za))))) (sk_rf (ly_X8_r2 (ly_X7_l2 (ly_X11_l3 (lt_X11 frh10 za))))) (?_ : ky_V _ _ _ 73 _ (.ref (a + 19) :: _) _ _)
        refine v_iload_n (i := 35) (j := 1) rfl rfl (?_ : ky_V _ _ _ 74 _ _ _ _)
        refine v_iload_n (i := 36) (j := 2) rfl rfl (?_ : ky_V _ _ _ 75 _ _ _ _)
        refine v_iast (i := 37) rfl (oa_21 hmh10 (ly_X8_k2 (ly_X7_l2 (ly_X11_l3 (lt_X11 frh10 za))))) (ky_inb z8) ?_
        refine sk_stc (kd := 20) hmh10 frh10 (ly_X8_k2 (ly_X7_l2 (ly_X11_l3 (lt_X11 frh10 za)))) (Int32.toNatClampNeg p1) p2 (fun h14 hmh14 frh14 => ?_)
        obtain ⟨q15, eq15⟩ : ∃ z, z = (sk_wc q11 (a + 19) (Int32.toNatClampNeg p1) p2) := ⟨_, rfl⟩
        rw [← eq15] at hmh14 frh14
        replace e := ky_letE eq15 e
        refine (?_ : ky_V _ _ _ 76 _ _ _ _)
        refine v_aload_n (i := 38) (j := 0) rfl rfl (?_ : ky_V _ _ _ 77 _ _ _ _)
        refine gf_X11_33 rfl (i := 39) rfl (oc_X11 hmh14 (ly_X11_c (lt_X11 frh14 za))) (sk_rf (ly_X11_r3 (lt_X11 frh14 za))) (?_ : ky_V _ _ _ 80 _ (.ref (a + 12) :: _) _ _)
        refine gf_X11_63 rfl (i := 40) rfl (oc_X7 hmh14 (ly_X7_c (ly_X11_l3 (lt_X11 frh14 za)))) (sk_rf (ly_X7_r2 (ly_X11_l3 (lt_X11 frh14 za)))) (?_ : ky_V _ _ _ 83 _ (.ref (a + 16) :: _) _ _)
        refine gf_X11_151 rfl (i := 41) rfl (oc_X8 hmh14 (ly_X8_c (ly_X7_l2 (ly_X11_l3 (lt_X11 frh14 za))))) (sk_rf (ly_X8_r0 (ly_X7_l2 (ly_X11_l3 (lt_X11 frh14 za))))) (?_ : ky_V _ _ _ 86 _ (.ref (a + 17) :: _) _ _)
        refine v_iload_n (i := 42) (j := 2) rfl rfl (?_ : ky_V _ _ _ 87 _ _ _ _)
        obtain ⟨z16, e⟩ := ky_chkE e
        refine v_iald (i := 43) rfl (oa_21 hmh14 (ly_X8_k0 (ly_X7_l2 (ly_X11_l3 (lt_X11 frh14 za))))) (ky_inb z16) (?_ : ky_V _ _ _ 88 _ (.int (sk_c q15 (a + 17) (Int32.toNatClampNeg p2)) :: _) _ _)
        refine v_iret (v := (sk_c q15 (a + 17) (Int32.toNatClampNeg p2))) (ty := .int) (i := 44) rfl rfl rfl ?_
        obtain ⟨rfl, rfl⟩ := ky_leaf e
        exact hr _ hmh14 frh14
      · replace e := ky_ifT c9 e
        obtain ⟨s17, hvs17, -⟩ := sg_X11_251 hG
        refine v_throwS (i0 := 24) (i1 := 25) (i2 := 26) (i3 := 27) (i4 := 28) te_X11_197_201 ky_ts hG hvs17 rfl rfl rfl rfl rfl rfl (Nat.le_of_ble_eq_true rfl) ?_
        obtain ⟨rfl, rfl⟩ := ky_leaf e
        exact hr _ (sk_hpJ hmh1) (sk_frJ hmh1 frh1)
    · replace e := ky_ifT c7 e
      obtain ⟨s18, hvs18, -⟩ := sg_X11_245 hG
      refine v_throwS (i0 := 7) (i1 := 8) (i2 := 9) (i3 := 10) (i4 := 11) te_X11_128_132 ky_ts hG hvs18 rfl rfl rfl rfl rfl rfl (Nat.le_of_ble_eq_true rfl) ?_
      obtain ⟨rfl, rfl⟩ := ky_leaf e
      exact hr _ (sk_hpJ hmh1) (sk_frJ hmh1 frh1)

def x11_board (N : Nat)  (s : sk_S) (a : Nat) (p1 : Int32) : Option (sk_S × ky_RS) := (if lay_X11 (sk_K s) (sk_r s) a = true then (if (ws_isCell p1) = 0 then (some ((sk_rs s 6), (.inr "java/lang/IndexOutOfBoundsException"))) else (if (1 : Int32) ≤ (sk_c s (a + 16) 7) then ((x11_remember N s a).bind (fun zz => (fun q4 x5 => ((x8_layBoard N q4 (a + 16) p1).bind (fun zz => (fun q8 x9 => (if ky_inB p1 64 = true then (some (q8, (.inl (some (.int (sk_c q8 (a + 17) (Int32.toNatClampNeg p1))))))) else none)) zz.1 zz.2))) zz.1 zz.2)) else (some ((sk_rs s 6), (.inr "java/lang/IllegalStateException"))))) else none)
set_option maxRecDepth 20000 in
set_option maxHeartbeats 4000000 in
theorem k_X11_board {G : ky_GW} {d : Nat} {h : ky_HP} {Q : ky_RS → ky_HP → Prop} {s s9 : sk_S} {r9 : ky_RS} {a : Nat} {p1 : Int32} (N : Nat) (hG : ky_OK G)   (hm : sk_hp G s h)  (e : x11_board N  s a p1 = some (s9, r9)) (hr : ∀ h1, sk_hp G s9 h1 → sk_fr none s h s9 h1 → Q r9 h1) : ky_Call G (d + 6) M_X11_board [.ref a, .int p1] h Q := by
  refine ky_ofV (by decide +kernel) rfl ok_X11_board (Nat.le_of_ble_eq_true rfl) ?_
  have fr : sk_fr none s h s h := sk_fr.rf
  unfold x11_board at e
  refine (?_ : ky_V _ _ _ 0 [(0, .ref a), (1, .int p1)] [] _ _)
  obtain ⟨za, e⟩ := ky_chkE e
  refine v_iload_n (i := 0) (j := 1) rfl rfl (?_ : ky_V _ _ _ 1 _ _ _ _)
  refine cl_X11_146 (As := [.int p1]) rfl (i := 1) rfl rfl rfl (Nat.le_of_ble_eq_true rfl) (k_X11_isCell p1 ⟨_, rfl, (?_ : ky_V _ _ _ 4 _ [.int ((ws_isCell p1))] _ _)⟩)
  refine v_if_ne (tgt := 17) (i := 2) rfl (by decide) (fun c1 => ?_) (fun c1 => ?_)
  · replace e := ky_ifF c1 e
    refine v_aload_n (i := 8) (j := 0) rfl rfl (?_ : ky_V _ _ _ 18 _ _ _ _)
    refine gf_X11_33 rfl (i := 9) rfl (oc_X11 hm (ly_X11_c za)) (sk_rf (ly_X11_r3 za)) (?_ : ky_V _ _ _ 21 _ (.ref (a + 12) :: _) _ _)
    refine gf_X11_63 rfl (i := 10) rfl (oc_X7 hm (ly_X7_c (ly_X11_l3 za))) (sk_rf (ly_X7_r2 (ly_X11_l3 za))) (?_ : ky_V _ _ _ 24 _ (.ref (a + 16) :: _) _ _)
    refine gf_X11_253 rfl (i := 11) rfl (oc_X8 hm (ly_X8_c (ly_X7_l2 (ly_X11_l3 za)))) rfl (?_ : ky_V _ _ _ 27 _ _ _ _)
    refine v_iconst (v := 1) (i := 12) rfl (by decide) (?_ : ky_V _ _ _ 28 _ _ _ _)
    refine v_icmp_ge (tgt := 42) (i := 13) rfl (by decide) (fun c2 => ?_) (fun c2 => ?_)
    · replace e := ky_ifT c2 e
      refine v_aload_n (i := 19) (j := 0) rfl rfl (?_ : ky_V _ _ _ 43 _ _ _ _)
      obtain ⟨⟨q4, x5⟩, g6, e⟩ := Option.bind_eq_some_iff.mp e
      refine cl_X11_202 (As := []) rfl (i := 20) rfl (oc_X11 hm (ly_X11_c za)) rfl rfl (Nat.le_of_ble_eq_true rfl) (k_X11_remember N hG hm g6 (fun h3 hmh3 frh3 => ⟨_, rfl, (?_ : ky_V _ _ _ 46 _ [] _ _)⟩))
      have frh3 := fr.tr frh3
      refine v_aload_n (i := 21) (j := 0) rfl rfl (?_ : ky_V _ _ _ 47 _ _ _ _)
      refine gf_X11_33 rfl (i := 22) rfl (oc_X11 hmh3 (ly_X11_c (lt_X11 frh3 za))) (sk_rf (ly_X11_r3 (lt_X11 frh3 za))) (?_ : ky_V _ _ _ 50 _ (.ref (a + 12) :: _) _ _)
      refine gf_X11_63 rfl (i := 23) rfl (oc_X7 hmh3 (ly_X7_c (ly_X11_l3 (lt_X11 frh3 za)))) (sk_rf (ly_X7_r2 (ly_X11_l3 (lt_X11 frh3 za)))) (?_ : ky_V _ _ _ 53 _ (.ref (a + 16) :: _) _ _)
      refine v_iload_n (i := 24) (j := 1) rfl rfl (?_ : ky_V _ _ _ 54 _ _ _ _)
      obtain ⟨⟨q8, x9⟩, g10, e⟩ := Option.bind_eq_some_iff.mp e
      refine cl_X11_258 (As := [.int p1]) rfl (i := 25) rfl (oc_X8 hmh3 (ly_X8_c (ly_X7_l2 (ly_X11_l3 (lt_X11 frh3 za))))) rfl rfl (Nat.le_of_ble_eq_true rfl) (k_X8_layBoard N hG hmh3 g10 (fun h7 hmh7 frh7 => ⟨_, rfl, (?_ : ky_V _ _ _ 57 _ [] _ _)⟩))
      have frh7 := frh3.tr frh7
      refine v_aload_n (i := 26) (j := 0) rfl rfl (?_ : ky_V _ _ _ 58 _ _ _ _)
      refine gf_X11_33 rfl (i := 27) rfl (oc_X11 hmh7 (ly_X11_c (lt_X11 frh7 za))) (sk_rf (ly_X11_r3 (lt_X11 frh7 za))) (?_ : ky_V _ _ _ 61 _ (.ref (a + 12) :: _) _ _)
      refine gf_X11_63 rfl (i := 28) rfl (oc_X7 hmh7 (ly_X7_c (ly_X11_l3 (lt_X11 frh7 za)))) (sk_rf (ly_X7_r2 (ly_X11_l3 (lt_X11 frh7 za)))) (?_ : ky_V _ _ _ 64 _ (.ref (a + 16) :: _) _ _)
      refine gf_X11_151 rfl (i := 29) rfl (oc_X8 hmh7 (ly_X8_c (ly_X7_l2 (ly_X11_l3 (lt_X11 frh7 za))))) (sk_rf (ly_X8_r0 (ly_X7_l2 (ly_X11_l3 (lt_X11 frh7 za))))) (?_ : ky_V _ _ _ 67 _ (.ref (a + 17) :: _) _ _)
      refine v_iload_n (i := 30) (j := 1) rfl rfl (?_ : ky_V _ _ _ 68 _ _ _ _)
      obtain ⟨z11, e⟩ := ky_chkE e
      refine v_iald (i := 31) rfl (oa_21 hmh7 (ly_X8_k0 (ly_X7_l2 (ly_X11_l3 (lt_X11 frh7 za))))) (ky_inb z11) (?_ : ky_V _ _ _ 69 _ (.int (sk_c q8 (a + 17) (Int32.toNatClampNeg p1)) :: _) _ _)
      refine v_iret (v := (sk_c q8 (a + 17) (Int32.toNatClampNeg p1))) (ty := .int) (i := 32) rfl rfl rfl ?_
      obtain ⟨rfl, rfl⟩ := ky_leaf e
      exact hr _ hmh7 frh7
    · replace e := ky_ifF c2 e
      obtain ⟨s12, hvs12, -⟩ := sg_X11_256 hG
      refine v_throwSW (i0 := 14) (i1 := 15) (i2 := 16) (i3 := 17) (i4 := 18) te_X11_197_201 ky_ts hG hvs12 rfl rfl rfl rfl rfl rfl (Nat.le_of_ble_eq_true rfl) ?_
      obtain ⟨rfl, rfl⟩ := ky_leaf e
      exact hr _ (sk_hpJ hm) (sk_frJ hm fr)
  · replace e := ky_ifT c1 e
    obtain ⟨s13, hvs13, -⟩ := sg_X11_149 hG
    refine v_throwS (i0 := 3) (i1 := 4) (i2 := 5) (i3 := 6) (i4 := 7) te_X11_128_132 ky_ts hG hvs13 rfl rfl rfl rfl rfl rfl (Nat.le_of_ble_eq_true rfl) ?_
    obtain ⟨rfl, rfl⟩ := ky_leaf e
    exact hr _ (sk_hpJ hm) (sk_frJ hm fr)

def x11_moves_L28 (N : Nat)  (a : Nat) (k : sk_S → Int32 → Int32 → Option (sk_S × ky_RS)) : Nat → sk_S → Int32 → Int32 → Option (sk_S × ky_RS)
  | 0, _, _, _ => none
  | n + 1, c, p1, p2 => (if p1 ≤ p2 then (k c p1 p2) else ((x1_isStill N c (a + 13)).bind (fun zz => (fun q3 x4 => (if x4 = 0 then ((x1_drawMove N q3 (a + 13)).bind (fun zz => (fun q8 x9 => ((x1_drawLeg N q8 (a + 13)).bind (fun zz => (fun q12 x13 => ((x7_makeMove N q12 (a + 12) x9 x13).bind (fun zz => (fun q16 x17 => (ky_let (p2 + 1) (fun x19 => (x11_moves_L28 N a k n q16 p1 x19)))) zz.1 zz.2))) zz.1 zz.2))) zz.1 zz.2)) else (k q3 p1 p2))) zz.1 zz.2)))
set_option maxRecDepth 20000 in
set_option maxHeartbeats 4000000 in
theorem lv_X11_moves_28 {G : ky_GW} {d : Nat} {s s9 : sk_S} {h0 : ky_HP} {Q : ky_RS → ky_HP → Prop} {r9 : ky_RS} (N : Nat) (hG : ky_OK G)  (a : Nat)   (za : lay_X11 (sk_K s) (sk_r s) a = true) (hm : sk_hp G s h0) (k : sk_S → Int32 → Int32 → Option (sk_S × ky_RS)) (hr : ∀ h1, sk_hp G s9 h1 → sk_fr none s h0 s9 h1 → Q r9 h1)
    (hk : ∀ (h : ky_HP) (c : sk_S) (p1 : Int32) (p2 : Int32), sk_hp G c h → sk_fr none s h0 c h → k c p1 p2 = some (s9, r9) → ky_V G (d + 6) M_X11_moves 81 [(0, .ref a), (1, .int p1), (2, .int p2)] [] h Q) :
    ∀ (n : Nat) (h : ky_HP) (c : sk_S) (p1 : Int32) (p2 : Int32), sk_hp G c h → sk_fr none s h0 c h → x11_moves_L28 N a k n c p1 p2 = some (s9, r9) → ky_V G (d + 6) M_X11_moves 28 [(0, .ref a), (1, .int p1), (2, .int p2)] [] h Q := by
  intro n
  induction n with
  | zero => intro h c p1 p2 hm1 fr e; cases e
  | succ n ih =>
    intro h c p1 p2 hm1 fr e
    rw [x11_moves_L28] at e
    refine v_iload_n (i := 15) (j := 2) rfl rfl (?_ : ky_V _ _ _ 29 _ _ _ _)
    refine v_iload_n (i := 16) (j := 1) rfl rfl (?_ : ky_V _ _ _ 30 _ _ _ _)
    refine v_icmp_ge (tgt := 81) (i := 17) rfl (by decide) (fun c1 => ?_) (fun c1 => ?_)
    · replace e := ky_ifT c1 e
      exact hk h c p1 p2 hm1 fr e
    · replace e := ky_ifF c1 e
      refine v_aload_n (i := 18) (j := 0) rfl rfl (?_ : ky_V _ _ _ 34 _ _ _ _)
      refine gf_X11_33 rfl (i := 19) rfl (oc_X11 hm1 (ly_X11_c (lt_X11 fr za))) (sk_rf (ly_X11_r3 (lt_X11 fr za))) (?_ : ky_V _ _ _ 37 _ (.ref (a + 12) :: _) _ _)
      refine gf_X11_191 rfl (i := 20) rfl (oc_X7 hm1 (ly_X7_c (ly_X11_l3 (lt_X11 fr za)))) (sk_rf (ly_X7_r0 (ly_X11_l3 (lt_X11 fr za)))) (?_ : ky_V _ _ _ 40 _ (.ref (a + 13) :: _) _ _)
      obtain ⟨⟨q3, x4⟩, g5, e⟩ := Option.bind_eq_some_iff.mp e
      refine cl_X11_194 (As := []) rfl (i := 21) rfl (oc_X1 hm1 (ly_X1_c (ly_X7_l0 (ly_X11_l3 (lt_X11 fr za))))) rfl rfl (Nat.le_of_ble_eq_true rfl) (k_X1_isStill N hG hm1 g5 (fun h2 hmh2 frh2 => ⟨_, rfl, (?_ : ky_V _ _ _ 43 _ [.int x4] _ _)⟩))
      have frh2 := fr.tr frh2
      refine v_if_ne (tgt := 81) (i := 22) rfl (by decide) (fun c6 => ?_) (fun c6 => ?_)
      · replace e := ky_ifF c6 e
        exact hk h2 q3 p1 p2 hmh2 frh2 e
      · replace e := ky_ifT c6 e
        refine v_aload_n (i := 23) (j := 0) rfl rfl (?_ : ky_V _ _ _ 47 _ _ _ _)
        refine gf_X11_33 rfl (i := 24) rfl (oc_X11 hmh2 (ly_X11_c (lt_X11 frh2 za))) (sk_rf (ly_X11_r3 (lt_X11 frh2 za))) (?_ : ky_V _ _ _ 50 _ (.ref (a + 12) :: _) _ _)
        refine gf_X11_191 rfl (i := 25) rfl (oc_X7 hmh2 (ly_X7_c (ly_X11_l3 (lt_X11 frh2 za)))) (sk_rf (ly_X7_r0 (ly_X11_l3 (lt_X11 frh2 za)))) (?_ : ky_V _ _ _ 53 _ (.ref (a + 13) :: _) _ _)
        obtain ⟨⟨q8, x9⟩, g10, e⟩ := Option.bind_eq_some_iff.mp e
        refine cl_X11_263 (As := []) rfl (i := 26) rfl (oc_X1 hmh2 (ly_X1_c (ly_X7_l0 (ly_X11_l3 (lt_X11 frh2 za))))) rfl rfl (Nat.le_of_ble_eq_true rfl) (k_X1_drawMove N hG hmh2 g10 (fun h7 hmh7 frh7 => ⟨_, rfl, (?_ : ky_V _ _ _ 56 _ [.int x9] _ _)⟩))
        have frh7 := frh2.tr frh7
        refine v_istore_n (L' := [(0, .ref a), (1, .int p1), (2, .int p2), (3, .int x9)]) [1, 2, 3, 0] (i := 27) rfl (Nat.le_of_ble_eq_true rfl) rfl (?_ : ky_V _ _ _ 57 _ _ _ _)
        refine v_aload_n (i := 28) (j := 0) rfl rfl (?_ : ky_V _ _ _ 58 _ _ _ _)
        refine gf_X11_33 rfl (i := 29) rfl (oc_X11 hmh7 (ly_X11_c (lt_X11 frh7 za))) (sk_rf (ly_X11_r3 (lt_X11 frh7 za))) (?_ : ky_V _ _ _ 61 _ (.ref (a + 12) :: _) _ _)
        refine v_iload_n (i := 30) (j := 3) rfl rfl (?_ : ky_V _ _ _ 62 _ _ _ _)
        refine v_aload_n (i := 31) (j := 0) rfl rfl (?_ : ky_V _ _ _ 63 _ _ _ _)
        refine gf_X11_33 rfl (i := 32) rfl (oc_X11 hmh7 (ly_X11_c (lt_X11 frh7 za))) (sk_rf (ly_X11_r3 (lt_X11 frh7 za))) (?_ : ky_V _ _ _ 66 _ (.ref (a + 12) :: _) _ _)
        refine gf_X11_191 rfl (i := 33) rfl (oc_X7 hmh7 (ly_X7_c (ly_X11_l3 (lt_X11 frh7 za)))) (sk_rf (ly_X7_r0 (ly_X11_l3 (lt_X11 frh7 za)))) (?_ : ky_V _ _ _ 69 _ (.ref (a + 13) :: _) _ _)
        obtain ⟨⟨q12, x13⟩, g14, e⟩ := Option.bind_eq_some_iff.mp e
        refine cl_X11_267 (As := []) rfl (i := 34) rfl (oc_X1 hmh7 (ly_X1_c (ly_X7_l0 (ly_X11_l3 (lt_X11 frh7 za))))) rfl rfl (Nat.le_of_ble_eq_true rfl) (k_X1_drawLeg N hG hmh7 g14 (fun h11 hmh11 frh11 => ⟨_, rfl, (?_ : ky_V _ _ _ 72 _ [.int x13, .int x9, .ref ((a + 12))] _ _)⟩))
        have frh11 := frh7.tr frh11
        obtain ⟨⟨q16, x17⟩, g18, e⟩ := Option.bind_eq_some_iff.mp e
        refine cl_X11_205 (As := [.int x9, .int x13]) rfl (i := 35) rfl (oc_X7 hmh11 (ly_X7_c (ly_X11_l3 (lt_X11 frh11 za)))) rfl rfl (Nat.le_of_ble_eq_true rfl) (k_X7_makeMove N hG hmh11 g18 (fun h15 hmh15 frh15 => ⟨_, rfl, (?_ : ky_V _ _ _ 75 _ [] _ _)⟩))
        have frh15 := frh11.tr frh15
        obtain ⟨x19, ex19⟩ : ∃ z : Int32, z = p2 + 1 := ⟨_, rfl⟩
        replace e := ky_letE ex19 e
        refine v_iinc (v := x19) (j := 2) (L' := [(0, .ref a), (1, .int p1), (2, .int x19), (3, .int x9)]) [1, 2, 0, 3] (i := 36) rfl rfl (by rw [ex19]; rfl) (Nat.le_of_ble_eq_true rfl) rfl (?_ : ky_V _ _ _ 78 _ _ _ _)
        refine v_goto (tgt := 28) (i := 37) rfl (by decide) (?_ : ky_V _ _ _ 28 _ _ _ _)
        refine ky_loc (L' := [(0, .ref a), (1, .int p1), (2, .int x19)]) (by simp) ?_
        exact ih h15 q16 p1 x19 hmh15 frh15 e

def x11_moves (N : Nat)  (s : sk_S) (a : Nat) (p1 : Int32) : Option (sk_S × ky_RS) := (if lay_X11 (sk_K s) (sk_r s) a = true then (if p1 < (1 : Int32) then (some ((sk_rs s 6), (.inr "java/lang/IllegalArgumentException"))) else (if p1 ≤ (60 : Int32) then ((x11_remember N s a).bind (fun zz => (fun q5 x6 => (x11_moves_L28 N a (fun q9 x10 x11 => (some (q9, (.inl (some (.int x11)))))) N q5 p1 0)) zz.1 zz.2)) else (some ((sk_rs s 6), (.inr "java/lang/IllegalArgumentException"))))) else none)
set_option maxRecDepth 20000 in
set_option maxHeartbeats 4000000 in
theorem k_X11_moves {G : ky_GW} {d : Nat} {h : ky_HP} {Q : ky_RS → ky_HP → Prop} {s s9 : sk_S} {r9 : ky_RS} {a : Nat} {p1 : Int32} (N : Nat) (hG : ky_OK G)   (hm : sk_hp G s h)  (e : x11_moves N  s a p1 = some (s9, r9)) (hr : ∀ h1, sk_hp G s9 h1 → sk_fr none s h s9 h1 → Q r9 h1) : ky_Call G (d + 6) M_X11_moves [.ref a, .int p1] h Q := by
  refine ky_ofV (by decide +kernel) rfl ok_X11_moves (Nat.le_of_ble_eq_true rfl) ?_
  have fr : sk_fr none s h s h := sk_fr.rf
  unfold x11_moves at e
  refine (?_ : ky_V _ _ _ 0 [(0, .ref a), (1, .int p1)] [] _ _)
  obtain ⟨za, e⟩ := ky_chkE e
  refine v_iload_n (i := 0) (j := 1) rfl rfl (?_ : ky_V _ _ _ 1 _ _ _ _)
  refine v_iconst (v := 1) (i := 1) rfl (by decide) (?_ : ky_V _ _ _ 2 _ _ _ _)
  refine v_icmp_lt (tgt := 11) (i := 2) rfl (by decide) (fun c1 => ?_) (fun c1 => ?_)
  · replace e := ky_ifT c1 e
    obtain ⟨s2, hvs2, -⟩ := sg_X11_261 hG
    refine v_throwSW (i0 := 6) (i1 := 7) (i2 := 8) (i3 := 9) (i4 := 10) te_X11_80_84 ky_ts hG hvs2 rfl rfl rfl rfl rfl rfl (Nat.le_of_ble_eq_true rfl) ?_
    obtain ⟨rfl, rfl⟩ := ky_leaf e
    exact hr _ (sk_hpJ hm) (sk_frJ hm fr)
  · replace e := ky_ifF c1 e
    refine v_iload_n (i := 3) (j := 1) rfl rfl (?_ : ky_V _ _ _ 6 _ _ _ _)
    refine v_bipush (v := 60) (i := 4) rfl (by decide) (?_ : ky_V _ _ _ 8 _ _ _ _)
    refine v_icmp_le (tgt := 22) (i := 5) rfl (by decide) (fun c3 => ?_) (fun c3 => ?_)
    · replace e := ky_ifT c3 e
      refine v_aload_n (i := 11) (j := 0) rfl rfl (?_ : ky_V _ _ _ 23 _ _ _ _)
      obtain ⟨⟨q5, x6⟩, g7, e⟩ := Option.bind_eq_some_iff.mp e
      refine cl_X11_202 (As := []) rfl (i := 12) rfl (oc_X11 hm (ly_X11_c za)) rfl rfl (Nat.le_of_ble_eq_true rfl) (k_X11_remember N hG hm g7 (fun h4 hmh4 frh4 => ⟨_, rfl, (?_ : ky_V _ _ _ 26 _ [] _ _)⟩))
      have frh4 := fr.tr frh4
      refine v_iconst (v := 0) (i := 13) rfl (by decide) (?_ : ky_V _ _ _ 27 _ _ _ _)
      refine v_istore_n (L' := [(0, .ref a), (1, .int p1), (2, .int 0)]) [1, 2, 0] (i := 14) rfl (Nat.le_of_ble_eq_true rfl) rfl (?_ : ky_V _ _ _ 28 _ _ _ _)
      refine lv_X11_moves_28 N hG a za hm _ hr (fun h8 q9 x10 x11 hmh8 frh8 e => ?_) N h4 q5 p1 0 hmh4 frh4 e
      refine v_iload_n (i := 38) (j := 2) rfl rfl (?_ : ky_V _ _ _ 82 _ _ _ _)
      refine v_iret (v := x11) (ty := .int) (i := 39) rfl rfl rfl ?_
      obtain ⟨rfl, rfl⟩ := ky_leaf e
      exact hr _ hmh8 frh8
    · replace e := ky_ifF c3 e
      obtain ⟨s12, hvs12, -⟩ := sg_X11_261 hG
      refine v_throwSW (i0 := 6) (i1 := 7) (i2 := 8) (i3 := 9) (i4 := 10) te_X11_80_84 ky_ts hG hvs12 rfl rfl rfl rfl rfl rfl (Nat.le_of_ble_eq_true rfl) ?_
      obtain ⟨rfl, rfl⟩ := ky_leaf e
      exact hr _ (sk_hpJ hm) (sk_frJ hm fr)

def x11_would (N : Nat)  (s : sk_S) (a : Nat) (p1 : Int32) (p2 : Int32) (p3 : Int32) : Option (sk_S × ky_RS) := (if lay_X11 (sk_K s) (sk_r s) a = true then (if (ws_isMove p1) = 0 then (some ((sk_rs s 6), (.inr "java/lang/IndexOutOfBoundsException"))) else (if (ws_isLeg p2) = 0 then (some ((sk_rs s 6), (.inr "java/lang/IndexOutOfBoundsException"))) else (if p3 < 0 then (some ((sk_rs s 6), (.inr "java/util/NoSuchElementException"))) else (if p3 ≤ (3 : Int32) then ((x6_after N s (a + 14) (sk_c s (a + 13) 0) p1 p2 (sk_c s (a + 13) 1) (sk_c s (a + 13) 2)).bind (fun zz => (fun q8 x9 => ((x5_part N q8 x9 p3).bind (fun zz => (fun q12 x13 => (some (q12, (.inl (some (.int x13)))))) zz.1 zz.2))) zz.1 zz.2)) else (some ((sk_rs s 6), (.inr "java/util/NoSuchElementException"))))))) else none)
set_option maxRecDepth 20000 in
set_option maxHeartbeats 4000000 in
theorem k_X11_would {G : ky_GW} {d : Nat} {h : ky_HP} {Q : ky_RS → ky_HP → Prop} {s s9 : sk_S} {r9 : ky_RS} {a : Nat} {p1 : Int32} {p2 : Int32} {p3 : Int32} (N : Nat) (hG : ky_OK G)   (hm : sk_hp G s h)  (e : x11_would N  s a p1 p2 p3 = some (s9, r9)) (hr : ∀ h1, sk_hp G s9 h1 → sk_fr none s h s9 h1 → Q r9 h1) : ky_Call G (d + 6) M_X11_would [.ref a, .int p1, .int p2, .int p3] h Q := by
  refine ky_ofV (by decide +kernel) rfl ok_X11_would (Nat.le_of_ble_eq_true rfl) ?_
  have fr : sk_fr none s h s h := sk_fr.rf
  unfold x11_would at e
  refine (?_ : ky_V _ _ _ 0 [(0, .ref a), (1, .int p1), (2, .int p2), (3, .int p3)] [] _ _)
  obtain ⟨za, e⟩ := ky_chkE e
  refine v_iload_n (i := 0) (j := 1) rfl rfl (?_ : ky_V _ _ _ 1 _ _ _ _)
  refine cl_X11_124 (As := [.int p1]) rfl (i := 1) rfl rfl rfl (Nat.le_of_ble_eq_true rfl) (k_X11_isMove p1 ⟨_, rfl, (?_ : ky_V _ _ _ 4 _ [.int ((ws_isMove p1))] _ _)⟩)
  refine v_if_eq (tgt := 14) (i := 2) rfl (by decide) (fun c1 => ?_) (fun c1 => ?_)
  · replace e := ky_ifT c1 e
    obtain ⟨s2, hvs2, -⟩ := sg_X11_189 hG
    refine v_throwS (i0 := 6) (i1 := 7) (i2 := 8) (i3 := 9) (i4 := 10) te_X11_128_132 ky_ts hG hvs2 rfl rfl rfl rfl rfl rfl (Nat.le_of_ble_eq_true rfl) ?_
    obtain ⟨rfl, rfl⟩ := ky_leaf e
    exact hr _ (sk_hpJ hm) (sk_frJ hm fr)
  · replace e := ky_ifF c1 e
    refine v_iload_n (i := 3) (j := 2) rfl rfl (?_ : ky_V _ _ _ 8 _ _ _ _)
    refine cl_X11_186 (As := [.int p2]) rfl (i := 4) rfl rfl rfl (Nat.le_of_ble_eq_true rfl) (k_X11_isLeg p2 ⟨_, rfl, (?_ : ky_V _ _ _ 11 _ [.int ((ws_isLeg p2))] _ _)⟩)
    refine v_if_ne (tgt := 24) (i := 5) rfl (by decide) (fun c3 => ?_) (fun c3 => ?_)
    · replace e := ky_ifF c3 e
      refine v_iload_n (i := 11) (j := 3) rfl rfl (?_ : ky_V _ _ _ 25 _ _ _ _)
      refine v_if_lt (tgt := 33) (i := 12) rfl (by decide) (fun c4 => ?_) (fun c4 => ?_)
      · replace e := ky_ifT c4 e
        obtain ⟨s5, hvs5, -⟩ := sg_X11_135 hG
        refine v_throwN (rx := prog_35_method_4_code) (i0 := 16) (i1 := 17) (i2 := 18) (i3 := 19) (i4 := 20) (by decide +kernel) (by decide +kernel) (by decide +kernel) (by decide +kernel) tn_X11_133_137 ky_ts hG hvs5 rfl rfl rfl rfl rfl rfl (Nat.le_of_ble_eq_true rfl) ?_
        obtain ⟨rfl, rfl⟩ := ky_leaf e
        exact hr _ (sk_hpJ hm) (sk_frJ hm fr)
      · replace e := ky_ifF c4 e
        refine v_iload_n (i := 13) (j := 3) rfl rfl (?_ : ky_V _ _ _ 29 _ _ _ _)
        refine v_iconst (v := 3) (i := 14) rfl (by decide) (?_ : ky_V _ _ _ 30 _ _ _ _)
        refine v_icmp_le (tgt := 43) (i := 15) rfl (by decide) (fun c6 => ?_) (fun c6 => ?_)
        · replace e := ky_ifT c6 e
          refine v_aload_n (i := 21) (j := 0) rfl rfl (?_ : ky_V _ _ _ 44 _ _ _ _)
          refine gf_X11_33 rfl (i := 22) rfl (oc_X11 hm (ly_X11_c za)) (sk_rf (ly_X11_r3 za)) (?_ : ky_V _ _ _ 47 _ (.ref (a + 12) :: _) _ _)
          refine gf_X11_105 rfl (i := 23) rfl (oc_X7 hm (ly_X7_c (ly_X11_l3 za))) (sk_rf (ly_X7_r1 (ly_X11_l3 za))) (?_ : ky_V _ _ _ 50 _ (.ref (a + 14) :: _) _ _)
          refine v_aload_n (i := 24) (j := 0) rfl rfl (?_ : ky_V _ _ _ 51 _ _ _ _)
          refine gf_X11_33 rfl (i := 25) rfl (oc_X11 hm (ly_X11_c za)) (sk_rf (ly_X11_r3 za)) (?_ : ky_V _ _ _ 54 _ (.ref (a + 12) :: _) _ _)
          refine gf_X11_191 rfl (i := 26) rfl (oc_X7 hm (ly_X7_c (ly_X11_l3 za))) (sk_rf (ly_X7_r0 (ly_X11_l3 za))) (?_ : ky_V _ _ _ 57 _ (.ref (a + 13) :: _) _ _)
          refine gf_X11_209 rfl (i := 27) rfl (oc_X1 hm (ly_X1_c (ly_X7_l0 (ly_X11_l3 za)))) rfl (?_ : ky_V _ _ _ 60 _ _ _ _)
          refine v_iload_n (i := 28) (j := 1) rfl rfl (?_ : ky_V _ _ _ 61 _ _ _ _)
          refine v_iload_n (i := 29) (j := 2) rfl rfl (?_ : ky_V _ _ _ 62 _ _ _ _)
          refine v_aload_n (i := 30) (j := 0) rfl rfl (?_ : ky_V _ _ _ 63 _ _ _ _)
          refine gf_X11_33 rfl (i := 31) rfl (oc_X11 hm (ly_X11_c za)) (sk_rf (ly_X11_r3 za)) (?_ : ky_V _ _ _ 66 _ (.ref (a + 12) :: _) _ _)
          refine gf_X11_191 rfl (i := 32) rfl (oc_X7 hm (ly_X7_c (ly_X11_l3 za))) (sk_rf (ly_X7_r0 (ly_X11_l3 za))) (?_ : ky_V _ _ _ 69 _ (.ref (a + 13) :: _) _ _)
          refine gf_X11_233 rfl (i := 33) rfl (oc_X1 hm (ly_X1_c (ly_X7_l0 (ly_X11_l3 za)))) rfl (?_ : ky_V _ _ _ 72 _ _ _ _)
          refine v_aload_n (i := 34) (j := 0) rfl rfl (?_ : ky_V _ _ _ 73 _ _ _ _)
          refine gf_X11_33 rfl (i := 35) rfl (oc_X11 hm (ly_X11_c za)) (sk_rf (ly_X11_r3 za)) (?_ : ky_V _ _ _ 76 _ (.ref (a + 12) :: _) _ _)
          refine gf_X11_191 rfl (i := 36) rfl (oc_X7 hm (ly_X7_c (ly_X11_l3 za))) (sk_rf (ly_X7_r0 (ly_X11_l3 za))) (?_ : ky_V _ _ _ 79 _ (.ref (a + 13) :: _) _ _)
          refine gf_X11_242 rfl (i := 37) rfl (oc_X1 hm (ly_X1_c (ly_X7_l0 (ly_X11_l3 za)))) rfl (?_ : ky_V _ _ _ 82 _ _ _ _)
          obtain ⟨⟨q8, x9⟩, g10, e⟩ := Option.bind_eq_some_iff.mp e
          refine cl_X11_270 (As := [.int ((sk_c s (a + 13) 0)), .int p1, .int p2, .int ((sk_c s (a + 13) 1)), .int ((sk_c s (a + 13) 2))]) rfl (i := 38) rfl (oc_X6 hm (ly_X6_c (ly_X7_l1 (ly_X11_l3 za)))) rfl rfl (Nat.le_of_ble_eq_true rfl) (k_X6_after N hG hm g10 (fun h7 hmh7 frh7 => ⟨_, rfl, (?_ : ky_V _ _ _ 85 _ [.int x9] _ _)⟩))
          have frh7 := fr.tr frh7
          refine v_istore (L' := [(0, .ref a), (1, .int p1), (2, .int p2), (3, .int p3), (4, .int x9)]) [1, 2, 3, 4, 0] (i := 39) rfl (Nat.le_of_ble_eq_true rfl) rfl (?_ : ky_V _ _ _ 87 _ _ _ _)
          refine v_iload (i := 40) (j := 4) rfl rfl (?_ : ky_V _ _ _ 89 _ _ _ _)
          refine v_iload_n (i := 41) (j := 3) rfl rfl (?_ : ky_V _ _ _ 90 _ _ _ _)
          obtain ⟨⟨q12, x13⟩, g14, e⟩ := Option.bind_eq_some_iff.mp e
          refine cl_X11_274 (As := [.int x9, .int p3]) rfl (i := 42) rfl rfl rfl (Nat.le_of_ble_eq_true rfl) (k_X5_part N hG hmh7 g14 (fun h11 hmh11 frh11 => ⟨_, rfl, (?_ : ky_V _ _ _ 93 _ [.int x13] _ _)⟩))
          have frh11 := frh7.tr frh11
          refine v_iret (v := x13) (ty := .int) (i := 43) rfl rfl rfl ?_
          obtain ⟨rfl, rfl⟩ := ky_leaf e
          exact hr _ hmh11 frh11
        · replace e := ky_ifF c6 e
          obtain ⟨s15, hvs15, -⟩ := sg_X11_135 hG
          refine v_throwN (rx := prog_35_method_4_code) (i0 := 16) (i1 := 17) (i2 := 18) (i3 := 19) (i4 := 20) (by decide +kernel) (by decide +kernel) (by decide +kernel) (by decide +kernel) tn_X11_133_137 ky_ts hG hvs15 rfl rfl rfl rfl rfl rfl (Nat.le_of_ble_eq_true rfl) ?_
          obtain ⟨rfl, rfl⟩ := ky_leaf e
          exact hr _ (sk_hpJ hm) (sk_frJ hm fr)
    · replace e := ky_ifT c3 e
      obtain ⟨s16, hvs16, -⟩ := sg_X11_189 hG
      refine v_throwS (i0 := 6) (i1 := 7) (i2 := 8) (i3 := 9) (i4 := 10) te_X11_128_132 ky_ts hG hvs16 rfl rfl rfl rfl rfl rfl (Nat.le_of_ble_eq_true rfl) ?_
      obtain ⟨rfl, rfl⟩ := ky_leaf e
      exact hr _ (sk_hpJ hm) (sk_frJ hm fr)

def x11_minutesOutWith (N : Nat)  (s : sk_S) (a : Nat) (p1 : Int32) (p2 : Int32) : Option (sk_S × Int32) := (if lay_X11 (sk_K s) (sk_r s) a = true then ((x11_waysWith N s a p1 p2).bind (fun zz => (fun q2 l3 => (if lay_X10 (sk_K q2) (sk_r q2) l3 = true then ((x10_search N q2 l3 (sk_c q2 (a + 13) 0) 127 1).bind (fun zz => (fun q7 x8 => (some (q7, x8))) zz.1 zz.2)) else none)) zz.1 zz.2)) else none)
set_option maxRecDepth 20000 in
set_option maxHeartbeats 4000000 in
theorem k_X11_minutesOutWith {G : ky_GW} {d : Nat} {h : ky_HP} {Q : ky_RS → ky_HP → Prop} {s s9 : sk_S} {r9 : Int32} {a : Nat} {p1 : Int32} {p2 : Int32} (N : Nat) (hG : ky_OK G)   (hm : sk_hp G s h)  (e : x11_minutesOutWith N  s a p1 p2 = some (s9, r9)) (hr : ∀ h1, sk_hp G s9 h1 → sk_fr none s h s9 h1 → Q (.inl (some (.int r9))) h1) : ky_Call G (d + 6) M_X11_minutesOutWith [.ref a, .int p1, .int p2] h Q := by
  refine ky_ofV (by decide +kernel) rfl ok_X11_minutesOutWith (Nat.le_of_ble_eq_true rfl) ?_
  have fr : sk_fr none s h s h := sk_fr.rf
  unfold x11_minutesOutWith at e
  refine (?_ : ky_V _ _ _ 0 [(0, .ref a), (1, .int p1), (2, .int p2)] [] _ _)
  obtain ⟨za, e⟩ := ky_chkE e
  refine v_aload_n (i := 0) (j := 0) rfl rfl (?_ : ky_V _ _ _ 1 _ _ _ _)
  refine v_iload_n (i := 1) (j := 1) rfl rfl (?_ : ky_V _ _ _ 2 _ _ _ _)
  refine v_iload_n (i := 2) (j := 2) rfl rfl (?_ : ky_V _ _ _ 3 _ _ _ _)
  obtain ⟨⟨q2, l3⟩, g4, e⟩ := Option.bind_eq_some_iff.mp e
  refine cl_X11_447 (As := [.int p1, .int p2]) rfl (i := 3) rfl (oc_X11 hm (ly_X11_c za)) rfl rfl (Nat.le_of_ble_eq_true rfl) (k_X11_waysWith N hG hm g4 (fun h1 hmh1 frh1 => ⟨_, rfl, (?_ : ky_V _ _ _ 6 _ [.ref l3] _ _)⟩))
  have frh1 := fr.tr frh1
  refine v_aload_n (i := 4) (j := 0) rfl rfl (?_ : ky_V _ _ _ 7 _ _ _ _)
  refine gf_X11_33 rfl (i := 5) rfl (oc_X11 hmh1 (ly_X11_c (lt_X11 frh1 za))) (sk_rf (ly_X11_r3 (lt_X11 frh1 za))) (?_ : ky_V _ _ _ 10 _ (.ref (a + 12) :: _) _ _)
  refine gf_X11_191 rfl (i := 6) rfl (oc_X7 hmh1 (ly_X7_c (ly_X11_l3 (lt_X11 frh1 za)))) (sk_rf (ly_X7_r0 (ly_X11_l3 (lt_X11 frh1 za)))) (?_ : ky_V _ _ _ 13 _ (.ref (a + 13) :: _) _ _)
  refine gf_X11_209 rfl (i := 7) rfl (oc_X1 hmh1 (ly_X1_c (ly_X7_l0 (ly_X11_l3 (lt_X11 frh1 za))))) rfl (?_ : ky_V _ _ _ 16 _ _ _ _)
  refine v_bipush (v := 127) (i := 8) rfl (by decide) (?_ : ky_V _ _ _ 18 _ _ _ _)
  refine v_iconst (v := 1) (i := 9) rfl (by decide) (?_ : ky_V _ _ _ 19 _ _ _ _)
  obtain ⟨z5, e⟩ := ky_chkE e
  obtain ⟨⟨q7, x8⟩, g9, e⟩ := Option.bind_eq_some_iff.mp e
  refine cl_X11_451 (As := [.int ((sk_c q2 (a + 13) 0)), .int 127, .int 1]) rfl (i := 10) rfl (oc_X10 hmh1 (ly_X10_c z5)) rfl rfl (Nat.le_of_ble_eq_true rfl) (k_X10_search N hG hmh1 g9 (fun h6 hmh6 frh6 => ⟨_, rfl, (?_ : ky_V _ _ _ 22 _ [.int x8] _ _)⟩))
  have frh6 := frh1.tr frh6
  refine v_iret (v := x8) (ty := .int) (i := 11) rfl rfl rfl ?_
  obtain ⟨rfl, rfl⟩ := ky_leaf e
  exact hr _ hmh6 frh6

def x11_minuteByHelp_L59 (N : Nat)  (a : Nat) (k : sk_S → Int32 → Int32 → Int32 → Int32 → Int32 → Int32 → Option (sk_S × Int32)) : Nat → sk_S → Int32 → Int32 → Int32 → Int32 → Int32 → Int32 → Option (sk_S × Int32)
  | 0, _, _, _, _, _, _, _ => none
  | n + 1, c, p1, p2, p4, p5, p6, p7 => (if p6 < p7 then (k c p1 p2 p4 p5 p6 p7) else ((x6_after N c (a + 14) p4 5 0 (sk_c c (a + 13) 1) (sk_c c (a + 13) 2)).bind (fun zz => (fun q3 x4 => (if (po_isOut x4) = 0 then (ky_let (p7 + 1) (fun x7 => (x11_minuteByHelp_L59 N a k n q3 p1 p2 x4 p5 p6 x7))) else (some (q3, ((sk_c q3 (a + 13) 4) + (p7 * p5)))))) zz.1 zz.2)))
set_option maxRecDepth 20000 in
set_option maxHeartbeats 4000000 in
theorem lv_X11_minuteByHelp_59 {G : ky_GW} {d : Nat} {s s9 : sk_S} {h0 : ky_HP} {Q : ky_RS → ky_HP → Prop} {r9 : Int32} (N : Nat) (hG : ky_OK G)  (a : Nat)   (za : lay_X11 (sk_K s) (sk_r s) a = true) (hm : sk_hp G s h0) (k : sk_S → Int32 → Int32 → Int32 → Int32 → Int32 → Int32 → Option (sk_S × Int32)) (hr : ∀ h1, sk_hp G s9 h1 → sk_fr none s h0 s9 h1 → Q (.inl (some (.int r9))) h1)
    (hk : ∀ (h : ky_HP) (c : sk_S) (p1 : Int32) (p2 : Int32) (p4 : Int32) (p5 : Int32) (p6 : Int32) (p7 : Int32), sk_hp G c h → sk_fr none s h0 c h → k c p1 p2 p4 p5 p6 p7 = some (s9, r9) → ky_V G (d + 3) M_X11_minuteByHelp 115 [(0, .ref a), (1, .int p1), (2, .int p2), (3, .ref ((a + 13))), (4, .int p4), (5, .int p5), (6, .int p6), (7, .int p7)] [] h Q) :
    ∀ (n : Nat) (h : ky_HP) (c : sk_S) (p1 : Int32) (p2 : Int32) (p4 : Int32) (p5 : Int32) (p6 : Int32) (p7 : Int32), sk_hp G c h → sk_fr none s h0 c h → x11_minuteByHelp_L59 N a k n c p1 p2 p4 p5 p6 p7 = some (s9, r9) → ky_V G (d + 3) M_X11_minuteByHelp 59 [(0, .ref a), (1, .int p1), (2, .int p2), (3, .ref ((a + 13))), (4, .int p4), (5, .int p5), (6, .int p6), (7, .int p7)] [] h Q := by
  intro n
  induction n with
  | zero => intro h c p1 p2 p4 p5 p6 p7 hm1 fr e; cases e
  | succ n ih =>
    intro h c p1 p2 p4 p5 p6 p7 hm1 fr e
    rw [x11_minuteByHelp_L59] at e
    refine v_iload (i := 30) (j := 7) rfl rfl (?_ : ky_V _ _ _ 61 _ _ _ _)
    refine v_iload (i := 31) (j := 6) rfl rfl (?_ : ky_V _ _ _ 63 _ _ _ _)
    refine v_icmp_gt (tgt := 115) (i := 32) rfl (by decide) (fun c1 => ?_) (fun c1 => ?_)
    · replace e := ky_ifT c1 e
      exact hk h c p1 p2 p4 p5 p6 p7 hm1 fr e
    · replace e := ky_ifF c1 e
      refine v_aload_n (i := 33) (j := 0) rfl rfl (?_ : ky_V _ _ _ 67 _ _ _ _)
      refine gf_X11_33 rfl (i := 34) rfl (oc_X11 hm1 (ly_X11_c (lt_X11 fr za))) (sk_rf (ly_X11_r3 (lt_X11 fr za))) (?_ : ky_V _ _ _ 70 _ (.ref (a + 12) :: _) _ _)
      refine gf_X11_105 rfl (i := 35) rfl (oc_X7 hm1 (ly_X7_c (ly_X11_l3 (lt_X11 fr za)))) (sk_rf (ly_X7_r1 (ly_X11_l3 (lt_X11 fr za)))) (?_ : ky_V _ _ _ 73 _ (.ref (a + 14) :: _) _ _)
      refine v_iload (i := 36) (j := 4) rfl rfl (?_ : ky_V _ _ _ 75 _ _ _ _)
      refine v_iconst (v := 5) (i := 37) rfl (by decide) (?_ : ky_V _ _ _ 76 _ _ _ _)
      refine v_iconst (v := 0) (i := 38) rfl (by decide) (?_ : ky_V _ _ _ 77 _ _ _ _)
      refine v_aload_n (i := 39) (j := 3) rfl rfl (?_ : ky_V _ _ _ 78 _ _ _ _)
      refine gf_X11_233 rfl (i := 40) rfl (oc_X1 hm1 (ly_X1_c (ly_X7_l0 (ly_X11_l3 (lt_X11 fr za))))) rfl (?_ : ky_V _ _ _ 81 _ _ _ _)
      refine v_aload_n (i := 41) (j := 3) rfl rfl (?_ : ky_V _ _ _ 82 _ _ _ _)
      refine gf_X11_242 rfl (i := 42) rfl (oc_X1 hm1 (ly_X1_c (ly_X7_l0 (ly_X11_l3 (lt_X11 fr za))))) rfl (?_ : ky_V _ _ _ 85 _ _ _ _)
      obtain ⟨⟨q3, x4⟩, g5, e⟩ := Option.bind_eq_some_iff.mp e
      refine cl_X11_270 (As := [.int p4, .int 5, .int 0, .int ((sk_c c (a + 13) 1)), .int ((sk_c c (a + 13) 2))]) rfl (i := 43) rfl (oc_X6 hm1 (ly_X6_c (ly_X7_l1 (ly_X11_l3 (lt_X11 fr za))))) rfl rfl (Nat.le_of_ble_eq_true rfl) (k_X6_after N hG hm1 g5 (fun h2 hmh2 frh2 => ⟨_, rfl, (?_ : ky_V _ _ _ 88 _ [.int x4] _ _)⟩))
      have frh2 := fr.tr frh2
      refine v_istore (L' := [(0, .ref a), (1, .int p1), (2, .int p2), (3, .ref ((a + 13))), (4, .int x4), (5, .int p5), (6, .int p6), (7, .int p7)]) [1, 2, 3, 4, 0, 5, 6, 7] (i := 44) rfl (Nat.le_of_ble_eq_true rfl) rfl (?_ : ky_V _ _ _ 90 _ _ _ _)
      refine v_iload (i := 45) (j := 4) rfl rfl (?_ : ky_V _ _ _ 92 _ _ _ _)
      refine cl_X11_423 (As := [.int x4]) rfl (i := 46) rfl rfl rfl (Nat.le_of_ble_eq_true rfl) (k_X5_isOut x4 ⟨_, rfl, (?_ : ky_V _ _ _ 95 _ [.int ((po_isOut x4))] _ _)⟩)
      refine v_if_eq (tgt := 109) (i := 47) rfl (by decide) (fun c6 => ?_) (fun c6 => ?_)
      · replace e := ky_ifT c6 e
        obtain ⟨x7, ex7⟩ : ∃ z : Int32, z = p7 + 1 := ⟨_, rfl⟩
        replace e := ky_letE ex7 e
        refine v_iinc (v := x7) (j := 7) (L' := [(0, .ref a), (1, .int p1), (2, .int p2), (3, .ref ((a + 13))), (4, .int x4), (5, .int p5), (6, .int p6), (7, .int x7)]) [1, 2, 3, 4, 5, 6, 7, 0] (i := 55) rfl rfl (by rw [ex7]; rfl) (Nat.le_of_ble_eq_true rfl) rfl (?_ : ky_V _ _ _ 112 _ _ _ _)
        refine v_goto (tgt := 59) (i := 56) rfl (by decide) (?_ : ky_V _ _ _ 59 _ _ _ _)
        exact ih h2 q3 p1 p2 x4 p5 p6 x7 hmh2 frh2 e
      · replace e := ky_ifF c6 e
        refine v_aload_n (i := 48) (j := 3) rfl rfl (?_ : ky_V _ _ _ 99 _ _ _ _)
        refine gf_X11_319 rfl (i := 49) rfl (oc_X1 hmh2 (ly_X1_c (ly_X7_l0 (ly_X11_l3 (lt_X11 frh2 za))))) rfl (?_ : ky_V _ _ _ 102 _ _ _ _)
        refine v_iload (i := 50) (j := 7) rfl rfl (?_ : ky_V _ _ _ 104 _ _ _ _)
        refine v_iload (i := 51) (j := 5) rfl rfl (?_ : ky_V _ _ _ 106 _ _ _ _)
        refine v_imul (i := 52) rfl (?_ : ky_V _ _ _ 107 _ _ _ _)
        refine v_iadd (i := 53) rfl (?_ : ky_V _ _ _ 108 _ _ _ _)
        refine v_iret (v := ((sk_c q3 (a + 13) 4) + (p7 * p5))) (ty := .int) (i := 54) rfl rfl rfl ?_
        obtain ⟨rfl, rfl⟩ := ky_leaf e
        exact hr _ hmh2 frh2

def x11_minuteByHelp (N : Nat)  (s : sk_S) (a : Nat) (p1 : Int32) (p2 : Int32) : Option (sk_S × Int32) := (if lay_X11 (sk_K s) (sk_r s) a = true then (ky_let (sk_c s (a + 13) 0) (fun x1 => (if (po_isOut x1) = 0 then ((x6_takes N s (a + 14) 5).bind (fun zz => (fun q4 x5 => (if (1 : Int32) ≤ x5 then (if ¬ x5 = 0 then (ky_let (p1 / x5) (fun x9 => (x11_minuteByHelp_L59 N a (fun q11 x12 x13 x14 x15 x16 x17 => ((x5_pullsOut N q11 x14 x13).bind (fun zz => (fun q19 x20 => (if x20 = (-1 : Int32) then (some (q19, (-1))) else (if x20 ≤ (60 : Int32) then (some (q19, (((sk_c q19 (a + 13) 4) + x12) + (2 * x20)))) else (some (q19, (-1)))))) zz.1 zz.2))) N q4 p1 p2 x1 x5 x9 1))) else none) else (x11_minuteByHelp_L59 N a (fun q25 x26 x27 x28 x29 x30 x31 => ((x5_pullsOut N q25 x28 x27).bind (fun zz => (fun q33 x34 => (if x34 = (-1 : Int32) then (some (q33, (-1))) else (if x34 ≤ (60 : Int32) then (some (q33, (((sk_c q33 (a + 13) 4) + x26) + (2 * x34)))) else (some (q33, (-1)))))) zz.1 zz.2))) N q4 p1 p2 x1 x5 0 1))) zz.1 zz.2)) else (some (s, (sk_c s (a + 13) 4)))))) else none)
set_option maxRecDepth 20000 in
set_option maxHeartbeats 4000000 in
theorem k_X11_minuteByHelp {G : ky_GW} {d : Nat} {h : ky_HP} {Q : ky_RS → ky_HP → Prop} {s s9 : sk_S} {r9 : Int32} {a : Nat} {p1 : Int32} {p2 : Int32} (N : Nat) (hG : ky_OK G)   (hm : sk_hp G s h)  (e : x11_minuteByHelp N  s a p1 p2 = some (s9, r9)) (hr : ∀ h1, sk_hp G s9 h1 → sk_fr none s h s9 h1 → Q (.inl (some (.int r9))) h1) : ky_Call G (d + 3) M_X11_minuteByHelp [.ref a, .int p1, .int p2] h Q := by
  refine ky_ofV (by decide +kernel) rfl ok_X11_minuteByHelp (Nat.le_of_ble_eq_true rfl) ?_
  have fr : sk_fr none s h s h := sk_fr.rf
  unfold x11_minuteByHelp at e
  refine (?_ : ky_V _ _ _ 0 [(0, .ref a), (1, .int p1), (2, .int p2)] [] _ _)
  obtain ⟨za, e⟩ := ky_chkE e
  refine v_aload_n (i := 0) (j := 0) rfl rfl (?_ : ky_V _ _ _ 1 _ _ _ _)
  refine gf_X11_33 rfl (i := 1) rfl (oc_X11 hm (ly_X11_c za)) (sk_rf (ly_X11_r3 za)) (?_ : ky_V _ _ _ 4 _ (.ref (a + 12) :: _) _ _)
  refine gf_X11_191 rfl (i := 2) rfl (oc_X7 hm (ly_X7_c (ly_X11_l3 za))) (sk_rf (ly_X7_r0 (ly_X11_l3 za))) (?_ : ky_V _ _ _ 7 _ (.ref (a + 13) :: _) _ _)
  refine v_astore_n (L' := [(0, .ref a), (1, .int p1), (2, .int p2), (3, .ref ((a + 13)))]) [1, 2, 3, 0] (i := 3) rfl (Nat.le_of_ble_eq_true rfl) rfl (?_ : ky_V _ _ _ 8 _ _ _ _)
  refine v_aload_n (i := 4) (j := 3) rfl rfl (?_ : ky_V _ _ _ 9 _ _ _ _)
  refine gf_X11_209 rfl (i := 5) rfl (oc_X1 hm (ly_X1_c (ly_X7_l0 (ly_X11_l3 za)))) rfl (?_ : ky_V _ _ _ 12 _ _ _ _)
  refine v_topi (fun x1 ex1 => ?_)
  replace e := ky_letE ex1 e
  refine v_istore (L' := [(0, .ref a), (1, .int p1), (2, .int p2), (3, .ref ((a + 13))), (4, .int x1)]) [1, 2, 3, 4, 0] (i := 6) rfl (Nat.le_of_ble_eq_true rfl) rfl (?_ : ky_V _ _ _ 14 _ _ _ _)
  refine v_iload (i := 7) (j := 4) rfl rfl (?_ : ky_V _ _ _ 16 _ _ _ _)
  refine cl_X11_423 (As := [.int x1]) rfl (i := 8) rfl rfl rfl (Nat.le_of_ble_eq_true rfl) (k_X5_isOut x1 ⟨_, rfl, (?_ : ky_V _ _ _ 19 _ [.int ((po_isOut x1))] _ _)⟩)
  refine v_if_eq (tgt := 27) (i := 9) rfl (by decide) (fun c2 => ?_) (fun c2 => ?_)
  · replace e := ky_ifT c2 e
    refine v_aload_n (i := 13) (j := 0) rfl rfl (?_ : ky_V _ _ _ 28 _ _ _ _)
    refine gf_X11_33 rfl (i := 14) rfl (oc_X11 hm (ly_X11_c za)) (sk_rf (ly_X11_r3 za)) (?_ : ky_V _ _ _ 31 _ (.ref (a + 12) :: _) _ _)
    refine gf_X11_105 rfl (i := 15) rfl (oc_X7 hm (ly_X7_c (ly_X11_l3 za))) (sk_rf (ly_X7_r1 (ly_X11_l3 za))) (?_ : ky_V _ _ _ 34 _ (.ref (a + 14) :: _) _ _)
    refine v_iconst (v := 5) (i := 16) rfl (by decide) (?_ : ky_V _ _ _ 35 _ _ _ _)
    obtain ⟨⟨q4, x5⟩, g6, e⟩ := Option.bind_eq_some_iff.mp e
    refine cl_X11_454 (As := [.int 5]) rfl (i := 17) rfl (oc_X6 hm (ly_X6_c (ly_X7_l1 (ly_X11_l3 za)))) rfl rfl (Nat.le_of_ble_eq_true rfl) (k_X6_takes N hG hm g6 (fun h3 hmh3 frh3 => ⟨_, rfl, (?_ : ky_V _ _ _ 38 _ [.int x5] _ _)⟩))
    have frh3 := fr.tr frh3
    refine v_istore (L' := [(0, .ref a), (1, .int p1), (2, .int p2), (3, .ref ((a + 13))), (4, .int x1), (5, .int x5)]) [1, 2, 3, 4, 5, 0] (i := 18) rfl (Nat.le_of_ble_eq_true rfl) rfl (?_ : ky_V _ _ _ 40 _ _ _ _)
    refine v_iload (i := 19) (j := 5) rfl rfl (?_ : ky_V _ _ _ 42 _ _ _ _)
    refine v_iconst (v := 1) (i := 20) rfl (by decide) (?_ : ky_V _ _ _ 43 _ _ _ _)
    refine v_icmp_ge (tgt := 50) (i := 21) rfl (by decide) (fun c7 => ?_) (fun c7 => ?_)
    · replace e := ky_ifT c7 e
      refine v_iload_n (i := 24) (j := 1) rfl rfl (?_ : ky_V _ _ _ 51 _ _ _ _)
      refine v_iload (i := 25) (j := 5) rfl rfl (?_ : ky_V _ _ _ 53 _ _ _ _)
      obtain ⟨z8, e⟩ := ky_chkE e
      refine v_idiv (i := 26) rfl z8 (?_ : ky_V _ _ _ 54 _ _ _ _)
      refine v_topi (fun x9 ex9 => ?_)
      replace e := ky_letE ex9 e
      refine v_istore (L' := [(0, .ref a), (1, .int p1), (2, .int p2), (3, .ref ((a + 13))), (4, .int x1), (5, .int x5), (6, .int x9)]) [1, 2, 3, 4, 5, 6, 0] (i := 27) rfl (Nat.le_of_ble_eq_true rfl) rfl (?_ : ky_V _ _ _ 56 _ _ _ _)
      refine v_iconst (v := 1) (i := 28) rfl (by decide) (?_ : ky_V _ _ _ 57 _ _ _ _)
      refine v_istore (L' := [(0, .ref a), (1, .int p1), (2, .int p2), (3, .ref ((a + 13))), (4, .int x1), (5, .int x5), (6, .int x9), (7, .int 1)]) [1, 2, 3, 4, 5, 6, 7, 0] (i := 29) rfl (Nat.le_of_ble_eq_true rfl) rfl (?_ : ky_V _ _ _ 59 _ _ _ _)
      refine lv_X11_minuteByHelp_59 N hG a za hm _ hr (fun h10 q11 x12 x13 x14 x15 x16 x17 hmh10 frh10 e => ?_) N h3 q4 p1 p2 x1 x5 x9 1 hmh3 frh3 e
      refine v_iload (i := 57) (j := 4) rfl rfl (?_ : ky_V _ _ _ 117 _ _ _ _)
      refine v_iload_n (i := 58) (j := 2) rfl rfl (?_ : ky_V _ _ _ 118 _ _ _ _)
      obtain ⟨⟨q19, x20⟩, g21, e⟩ := Option.bind_eq_some_iff.mp e
      refine cl_X11_324 (As := [.int x14, .int x13]) rfl (i := 59) rfl rfl rfl (Nat.le_of_ble_eq_true rfl) (k_X5_pullsOut N hG hmh10 g21 (fun h18 hmh18 frh18 => ⟨_, rfl, (?_ : ky_V _ _ _ 121 _ [.int x20] _ _)⟩))
      have frh18 := frh10.tr frh18
      refine v_istore (L' := [(0, .ref a), (1, .int x12), (2, .int x13), (3, .ref ((a + 13))), (4, .int x14), (5, .int x15), (6, .int x16), (7, .int x20)]) [1, 2, 3, 4, 5, 6, 7, 0] (i := 60) rfl (Nat.le_of_ble_eq_true rfl) rfl (?_ : ky_V _ _ _ 123 _ _ _ _)
      refine v_iload (i := 61) (j := 7) rfl rfl (?_ : ky_V _ _ _ 125 _ _ _ _)
      refine v_iconst (v := (-1)) (i := 62) rfl (by decide) (?_ : ky_V _ _ _ 126 _ _ _ _)
      refine v_icmp_eq (tgt := 136) (i := 63) rfl (by decide) (fun c22 => ?_) (fun c22 => ?_)
      · replace e := ky_ifT c22 e
        refine v_iconst (v := (-1)) (i := 67) rfl (by decide) (?_ : ky_V _ _ _ 137 _ _ _ _)
        refine v_goto (tgt := 151) (i := 68) rfl (by decide) (?_ : ky_V _ _ _ 151 _ _ _ _)
        refine v_iret (v := (-1)) (ty := .int) (i := 77) rfl rfl rfl ?_
        obtain ⟨rfl, rfl⟩ := ky_leaf e
        exact hr _ hmh18 frh18
      · replace e := ky_ifF c22 e
        refine v_iload (i := 64) (j := 7) rfl rfl (?_ : ky_V _ _ _ 131 _ _ _ _)
        refine v_bipush (v := 60) (i := 65) rfl (by decide) (?_ : ky_V _ _ _ 133 _ _ _ _)
        refine v_icmp_le (tgt := 140) (i := 66) rfl (by decide) (fun c23 => ?_) (fun c23 => ?_)
        · replace e := ky_ifT c23 e
          refine v_aload_n (i := 69) (j := 3) rfl rfl (?_ : ky_V _ _ _ 141 _ _ _ _)
          refine gf_X11_319 rfl (i := 70) rfl (oc_X1 hmh18 (ly_X1_c (ly_X7_l0 (ly_X11_l3 (lt_X11 frh18 za))))) rfl (?_ : ky_V _ _ _ 144 _ _ _ _)
          refine v_iload_n (i := 71) (j := 1) rfl rfl (?_ : ky_V _ _ _ 145 _ _ _ _)
          refine v_iadd (i := 72) rfl (?_ : ky_V _ _ _ 146 _ _ _ _)
          refine v_iconst (v := 2) (i := 73) rfl (by decide) (?_ : ky_V _ _ _ 147 _ _ _ _)
          refine v_iload (i := 74) (j := 7) rfl rfl (?_ : ky_V _ _ _ 149 _ _ _ _)
          refine v_imul (i := 75) rfl (?_ : ky_V _ _ _ 150 _ _ _ _)
          refine v_iadd (i := 76) rfl (?_ : ky_V _ _ _ 151 _ _ _ _)
          refine v_iret (v := (((sk_c q19 (a + 13) 4) + x12) + (2 * x20))) (ty := .int) (i := 77) rfl rfl rfl ?_
          obtain ⟨rfl, rfl⟩ := ky_leaf e
          exact hr _ hmh18 frh18
        · replace e := ky_ifF c23 e
          refine v_iconst (v := (-1)) (i := 67) rfl (by decide) (?_ : ky_V _ _ _ 137 _ _ _ _)
          refine v_goto (tgt := 151) (i := 68) rfl (by decide) (?_ : ky_V _ _ _ 151 _ _ _ _)
          refine v_iret (v := (-1)) (ty := .int) (i := 77) rfl rfl rfl ?_
          obtain ⟨rfl, rfl⟩ := ky_leaf e
          exact hr _ hmh18 frh18
    · replace e := ky_ifF c7 e
      refine v_iconst (v := 0) (i := 22) rfl (by decide) (?_ : ky_V _ _ _ 47 _ _ _ _)
      refine v_goto (tgt := 54) (i := 23) rfl (by decide) (?_ : ky_V _ _ _ 54 _ _ _ _)
      refine v_istore (L' := [(0, .ref a), (1, .int p1), (2, .int p2), (3, .ref ((a + 13))), (4, .int x1), (5, .int x5), (6, .int 0)]) [1, 2, 3, 4, 5, 6, 0] (i := 27) rfl (Nat.le_of_ble_eq_true rfl) rfl (?_ : ky_V _ _ _ 56 _ _ _ _)
      refine v_iconst (v := 1) (i := 28) rfl (by decide) (?_ : ky_V _ _ _ 57 _ _ _ _)
      refine v_istore (L' := [(0, .ref a), (1, .int p1), (2, .int p2), (3, .ref ((a + 13))), (4, .int x1), (5, .int x5), (6, .int 0), (7, .int 1)]) [1, 2, 3, 4, 5, 6, 7, 0] (i := 29) rfl (Nat.le_of_ble_eq_true rfl) rfl (?_ : ky_V _ _ _ 59 _ _ _ _)
      refine lv_X11_minuteByHelp_59 N hG a za hm _ hr (fun h24 q25 x26 x27 x28 x29 x30 x31 hmh24 frh24 e => ?_) N h3 q4 p1 p2 x1 x5 0 1 hmh3 frh3 e
      refine v_iload (i := 57) (j := 4) rfl rfl (?_ : ky_V _ _ _ 117 _ _ _ _)
      refine v_iload_n (i := 58) (j := 2) rfl rfl (?_ : ky_V _ _ _ 118 _ _ _ _)
      obtain ⟨⟨q33, x34⟩, g35, e⟩ := Option.bind_eq_some_iff.mp e
      refine cl_X11_324 (As := [.int x28, .int x27]) rfl (i := 59) rfl rfl rfl (Nat.le_of_ble_eq_true rfl) (k_X5_pullsOut N hG hmh24 g35 (fun h32 hmh32 frh32 => ⟨_, rfl, (?_ : ky_V _ _ _ 121 _ [.int x34] _ _)⟩))
      have frh32 := frh24.tr frh32
      refine v_istore (L' := [(0, .ref a), (1, .int x26), (2, .int x27), (3, .ref ((a + 13))), (4, .int x28), (5, .int x29), (6, .int x30), (7, .int x34)]) [1, 2, 3, 4, 5, 6, 7, 0] (i := 60) rfl (Nat.le_of_ble_eq_true rfl) rfl (?_ : ky_V _ _ _ 123 _ _ _ _)
      refine v_iload (i := 61) (j := 7) rfl rfl (?_ : ky_V _ _ _ 125 _ _ _ _)
      refine v_iconst (v := (-1)) (i := 62) rfl (by decide) (?_ : ky_V _ _ _ 126 _ _ _ _)
      refine v_icmp_eq (tgt := 136) (i := 63) rfl (by decide) (fun c36 => ?_) (fun c36 => ?_)
      · replace e := ky_ifT c36 e
        refine v_iconst (v := (-1)) (i := 67) rfl (by decide) (?_ : ky_V _ _ _ 137 _ _ _ _)
        refine v_goto (tgt := 151) (i := 68) rfl (by decide) (?_ : ky_V _ _ _ 151 _ _ _ _)
        refine v_iret (v := (-1)) (ty := .int) (i := 77) rfl rfl rfl ?_
        obtain ⟨rfl, rfl⟩ := ky_leaf e
        exact hr _ hmh32 frh32
      · replace e := ky_ifF c36 e
        refine v_iload (i := 64) (j := 7) rfl rfl (?_ : ky_V _ _ _ 131 _ _ _ _)
        refine v_bipush (v := 60) (i := 65) rfl (by decide) (?_ : ky_V _ _ _ 133 _ _ _ _)
        refine v_icmp_le (tgt := 140) (i := 66) rfl (by decide) (fun c37 => ?_) (fun c37 => ?_)
        · replace e := ky_ifT c37 e
          refine v_aload_n (i := 69) (j := 3) rfl rfl (?_ : ky_V _ _ _ 141 _ _ _ _)
          refine gf_X11_319 rfl (i := 70) rfl (oc_X1 hmh32 (ly_X1_c (ly_X7_l0 (ly_X11_l3 (lt_X11 frh32 za))))) rfl (?_ : ky_V _ _ _ 144 _ _ _ _)
          refine v_iload_n (i := 71) (j := 1) rfl rfl (?_ : ky_V _ _ _ 145 _ _ _ _)
          refine v_iadd (i := 72) rfl (?_ : ky_V _ _ _ 146 _ _ _ _)
          refine v_iconst (v := 2) (i := 73) rfl (by decide) (?_ : ky_V _ _ _ 147 _ _ _ _)
          refine v_iload (i := 74) (j := 7) rfl rfl (?_ : ky_V _ _ _ 149 _ _ _ _)
          refine v_imul (i := 75) rfl (?_ : ky_V _ _ _ 150 _ _ _ _)
          refine v_iadd (i := 76) rfl (?_ : ky_V _ _ _ 151 _ _ _ _)
          refine v_iret (v := (((sk_c q33 (a + 13) 4) + x26) + (2 * x34))) (ty := .int) (i := 77) rfl rfl rfl ?_
          obtain ⟨rfl, rfl⟩ := ky_leaf e
          exact hr _ hmh32 frh32
        · replace e := ky_ifF c37 e
          refine v_iconst (v := (-1)) (i := 67) rfl (by decide) (?_ : ky_V _ _ _ 137 _ _ _ _)
          refine v_goto (tgt := 151) (i := 68) rfl (by decide) (?_ : ky_V _ _ _ 151 _ _ _ _)
          refine v_iret (v := (-1)) (ty := .int) (i := 77) rfl rfl rfl ?_
          obtain ⟨rfl, rfl⟩ := ky_leaf e
          exact hr _ hmh32 frh32
  · replace e := ky_ifF c2 e
    refine v_aload_n (i := 10) (j := 3) rfl rfl (?_ : ky_V _ _ _ 23 _ _ _ _)
    refine gf_X11_319 rfl (i := 11) rfl (oc_X1 hm (ly_X1_c (ly_X7_l0 (ly_X11_l3 za)))) rfl (?_ : ky_V _ _ _ 26 _ _ _ _)
    refine v_iret (v := (sk_c s (a + 13) 4)) (ty := .int) (i := 12) rfl rfl rfl ?_
    obtain ⟨rfl, rfl⟩ := ky_leaf e
    exact hr _ hm fr

def x11_force_L24 (N : Nat)  (a : Nat) (k : sk_S → Int32 → Int32 → Int32 → Option (sk_S × ky_RS)) : Nat → sk_S → Int32 → Int32 → Int32 → Option (sk_S × ky_RS)
  | 0, _, _, _, _ => none
  | n + 1, c, p1, p2, p3 => (if (20 : Int32) < p3 then (k c p1 p2 p3) else ((x5_pullsOut N c (sk_c c (a + 13) 0) p3).bind (fun zz => (fun q3 x4 => (if x4 = (-1 : Int32) then (ky_let (p3 + 1) (fun x7 => (x11_force_L24 N a k n q3 p1 p2 x7))) else (if p1 < x4 then (ky_let (p3 + 1) (fun x9 => (x11_force_L24 N a k n q3 p1 p2 x9))) else (if p2 = 0 then (some (q3, (.inl (some (.int p3))))) else (some (q3, (.inl (some (.int (x4 * (bo_harmOf p3))))))))))) zz.1 zz.2)))
set_option maxRecDepth 20000 in
set_option maxHeartbeats 4000000 in
theorem lv_X11_force_24 {G : ky_GW} {d : Nat} {s s9 : sk_S} {h0 : ky_HP} {Q : ky_RS → ky_HP → Prop} {r9 : ky_RS} (N : Nat) (hG : ky_OK G)  (a : Nat)   (za : lay_X11 (sk_K s) (sk_r s) a = true) (hm : sk_hp G s h0) (k : sk_S → Int32 → Int32 → Int32 → Option (sk_S × ky_RS)) (hr : ∀ h1, sk_hp G s9 h1 → sk_fr none s h0 s9 h1 → Q r9 h1)
    (hk : ∀ (h : ky_HP) (c : sk_S) (p1 : Int32) (p2 : Int32) (p3 : Int32), sk_hp G c h → sk_fr none s h0 c h → k c p1 p2 p3 = some (s9, r9) → ky_V G (d + 6) M_X11_force 80 [(0, .ref a), (1, .int p1), (2, .int p2), (3, .int p3)] [] h Q) :
    ∀ (n : Nat) (h : ky_HP) (c : sk_S) (p1 : Int32) (p2 : Int32) (p3 : Int32), sk_hp G c h → sk_fr none s h0 c h → x11_force_L24 N a k n c p1 p2 p3 = some (s9, r9) → ky_V G (d + 6) M_X11_force 24 [(0, .ref a), (1, .int p1), (2, .int p2), (3, .int p3)] [] h Q := by
  intro n
  induction n with
  | zero => intro h c p1 p2 p3 hm1 fr e; cases e
  | succ n ih =>
    intro h c p1 p2 p3 hm1 fr e
    rw [x11_force_L24] at e
    refine v_iload_n (i := 13) (j := 3) rfl rfl (?_ : ky_V _ _ _ 25 _ _ _ _)
    refine v_bipush (v := 20) (i := 14) rfl (by decide) (?_ : ky_V _ _ _ 27 _ _ _ _)
    refine v_icmp_gt (tgt := 80) (i := 15) rfl (by decide) (fun c1 => ?_) (fun c1 => ?_)
    · replace e := ky_ifT c1 e
      exact hk h c p1 p2 p3 hm1 fr e
    · replace e := ky_ifF c1 e
      refine v_aload_n (i := 16) (j := 0) rfl rfl (?_ : ky_V _ _ _ 31 _ _ _ _)
      refine gf_X11_33 rfl (i := 17) rfl (oc_X11 hm1 (ly_X11_c (lt_X11 fr za))) (sk_rf (ly_X11_r3 (lt_X11 fr za))) (?_ : ky_V _ _ _ 34 _ (.ref (a + 12) :: _) _ _)
      refine gf_X11_191 rfl (i := 18) rfl (oc_X7 hm1 (ly_X7_c (ly_X11_l3 (lt_X11 fr za)))) (sk_rf (ly_X7_r0 (ly_X11_l3 (lt_X11 fr za)))) (?_ : ky_V _ _ _ 37 _ (.ref (a + 13) :: _) _ _)
      refine gf_X11_209 rfl (i := 19) rfl (oc_X1 hm1 (ly_X1_c (ly_X7_l0 (ly_X11_l3 (lt_X11 fr za))))) rfl (?_ : ky_V _ _ _ 40 _ _ _ _)
      refine v_iload_n (i := 20) (j := 3) rfl rfl (?_ : ky_V _ _ _ 41 _ _ _ _)
      obtain ⟨⟨q3, x4⟩, g5, e⟩ := Option.bind_eq_some_iff.mp e
      refine cl_X11_324 (As := [.int ((sk_c c (a + 13) 0)), .int p3]) rfl (i := 21) rfl rfl rfl (Nat.le_of_ble_eq_true rfl) (k_X5_pullsOut N hG hm1 g5 (fun h2 hmh2 frh2 => ⟨_, rfl, (?_ : ky_V _ _ _ 44 _ [.int x4] _ _)⟩))
      have frh2 := fr.tr frh2
      refine v_istore (L' := [(0, .ref a), (1, .int p1), (2, .int p2), (3, .int p3), (4, .int x4)]) [1, 2, 3, 4, 0] (i := 22) rfl (Nat.le_of_ble_eq_true rfl) rfl (?_ : ky_V _ _ _ 46 _ _ _ _)
      refine v_iload (i := 23) (j := 4) rfl rfl (?_ : ky_V _ _ _ 48 _ _ _ _)
      refine v_iconst (v := (-1)) (i := 24) rfl (by decide) (?_ : ky_V _ _ _ 49 _ _ _ _)
      refine v_icmp_eq (tgt := 74) (i := 25) rfl (by decide) (fun c6 => ?_) (fun c6 => ?_)
      · replace e := ky_ifT c6 e
        obtain ⟨x7, ex7⟩ : ∃ z : Int32, z = p3 + 1 := ⟨_, rfl⟩
        replace e := ky_letE ex7 e
        refine v_iinc (v := x7) (j := 3) (L' := [(0, .ref a), (1, .int p1), (2, .int p2), (3, .int x7), (4, .int x4)]) [1, 2, 3, 0, 4] (i := 38) rfl rfl (by rw [ex7]; rfl) (Nat.le_of_ble_eq_true rfl) rfl (?_ : ky_V _ _ _ 77 _ _ _ _)
        refine v_goto (tgt := 24) (i := 39) rfl (by decide) (?_ : ky_V _ _ _ 24 _ _ _ _)
        refine ky_loc (L' := [(0, .ref a), (1, .int p1), (2, .int p2), (3, .int x7)]) (by simp) ?_
        exact ih h2 q3 p1 p2 x7 hmh2 frh2 e
      · replace e := ky_ifF c6 e
        refine v_iload (i := 26) (j := 4) rfl rfl (?_ : ky_V _ _ _ 54 _ _ _ _)
        refine v_iload_n (i := 27) (j := 1) rfl rfl (?_ : ky_V _ _ _ 55 _ _ _ _)
        refine v_icmp_gt (tgt := 74) (i := 28) rfl (by decide) (fun c8 => ?_) (fun c8 => ?_)
        · replace e := ky_ifT c8 e
          obtain ⟨x9, ex9⟩ : ∃ z : Int32, z = p3 + 1 := ⟨_, rfl⟩
          replace e := ky_letE ex9 e
          refine v_iinc (v := x9) (j := 3) (L' := [(0, .ref a), (1, .int p1), (2, .int p2), (3, .int x9), (4, .int x4)]) [1, 2, 3, 0, 4] (i := 38) rfl rfl (by rw [ex9]; rfl) (Nat.le_of_ble_eq_true rfl) rfl (?_ : ky_V _ _ _ 77 _ _ _ _)
          refine v_goto (tgt := 24) (i := 39) rfl (by decide) (?_ : ky_V _ _ _ 24 _ _ _ _)
          refine ky_loc (L' := [(0, .ref a), (1, .int p1), (2, .int p2), (3, .int x9)]) (by simp) ?_
          exact ih h2 q3 p1 p2 x9 hmh2 frh2 e
        · replace e := ky_ifF c8 e
          refine v_iload_n (i := 29) (j := 2) rfl rfl (?_ : ky_V _ _ _ 59 _ _ _ _)
          refine v_if_eq (tgt := 72) (i := 30) rfl (by decide) (fun c10 => ?_) (fun c10 => ?_)
          · replace e := ky_ifT c10 e
            refine v_iload_n (i := 36) (j := 3) rfl rfl (?_ : ky_V _ _ _ 73 _ _ _ _)
            refine v_iret (v := p3) (ty := .int) (i := 37) rfl rfl rfl ?_
            obtain ⟨rfl, rfl⟩ := ky_leaf e
            exact hr _ hmh2 frh2
          · replace e := ky_ifF c10 e
            refine v_iload (i := 31) (j := 4) rfl rfl (?_ : ky_V _ _ _ 64 _ _ _ _)
            refine v_iload_n (i := 32) (j := 3) rfl rfl (?_ : ky_V _ _ _ 65 _ _ _ _)
            refine cl_X11_327 (As := [.int p3]) rfl (i := 33) rfl rfl rfl (Nat.le_of_ble_eq_true rfl) (k_X1_harmOf p3 ⟨_, rfl, (?_ : ky_V _ _ _ 68 _ [.int ((bo_harmOf p3)), .int x4] _ _)⟩)
            refine v_imul (i := 34) rfl (?_ : ky_V _ _ _ 69 _ _ _ _)
            refine v_goto (tgt := 73) (i := 35) rfl (by decide) (?_ : ky_V _ _ _ 73 _ _ _ _)
            refine v_iret (v := (x4 * (bo_harmOf p3))) (ty := .int) (i := 37) rfl rfl rfl ?_
            obtain ⟨rfl, rfl⟩ := ky_leaf e
            exact hr _ hmh2 frh2

def x11_force (N : Nat)  (s : sk_S) (a : Nat) (p1 : Int32) (p2 : Int32) : Option (sk_S × ky_RS) := (if lay_X11 (sk_K s) (sk_r s) a = true then (if p1 < (1 : Int32) then (some ((sk_rs s 6), (.inr "java/lang/IllegalArgumentException"))) else (if p1 ≤ (30 : Int32) then (x11_force_L24 N a (fun q5 x6 x7 x8 => (some (q5, (.inl (some (.int (-1))))))) N s p1 p2 1) else (some ((sk_rs s 6), (.inr "java/lang/IllegalArgumentException"))))) else none)
set_option maxRecDepth 20000 in
set_option maxHeartbeats 4000000 in
theorem k_X11_force {G : ky_GW} {d : Nat} {h : ky_HP} {Q : ky_RS → ky_HP → Prop} {s s9 : sk_S} {r9 : ky_RS} {a : Nat} {p1 : Int32} {p2 : Int32} (N : Nat) (hG : ky_OK G)   (hm : sk_hp G s h)  (e : x11_force N  s a p1 p2 = some (s9, r9)) (hr : ∀ h1, sk_hp G s9 h1 → sk_fr none s h s9 h1 → Q r9 h1) : ky_Call G (d + 6) M_X11_force [.ref a, .int p1, .int p2] h Q := by
  refine ky_ofV (by decide +kernel) rfl ok_X11_force (Nat.le_of_ble_eq_true rfl) ?_
  have fr : sk_fr none s h s h := sk_fr.rf
  unfold x11_force at e
  refine (?_ : ky_V _ _ _ 0 [(0, .ref a), (1, .int p1), (2, .int p2)] [] _ _)
  obtain ⟨za, e⟩ := ky_chkE e
  refine v_iload_n (i := 0) (j := 1) rfl rfl (?_ : ky_V _ _ _ 1 _ _ _ _)
  refine v_iconst (v := 1) (i := 1) rfl (by decide) (?_ : ky_V _ _ _ 2 _ _ _ _)
  refine v_icmp_lt (tgt := 11) (i := 2) rfl (by decide) (fun c1 => ?_) (fun c1 => ?_)
  · replace e := ky_ifT c1 e
    obtain ⟨s2, hvs2, -⟩ := sg_X11_322 hG
    refine v_throwSW (i0 := 6) (i1 := 7) (i2 := 8) (i3 := 9) (i4 := 10) te_X11_80_84 ky_ts hG hvs2 rfl rfl rfl rfl rfl rfl (Nat.le_of_ble_eq_true rfl) ?_
    obtain ⟨rfl, rfl⟩ := ky_leaf e
    exact hr _ (sk_hpJ hm) (sk_frJ hm fr)
  · replace e := ky_ifF c1 e
    refine v_iload_n (i := 3) (j := 1) rfl rfl (?_ : ky_V _ _ _ 6 _ _ _ _)
    refine v_bipush (v := 30) (i := 4) rfl (by decide) (?_ : ky_V _ _ _ 8 _ _ _ _)
    refine v_icmp_le (tgt := 22) (i := 5) rfl (by decide) (fun c3 => ?_) (fun c3 => ?_)
    · replace e := ky_ifT c3 e
      refine v_iconst (v := 1) (i := 11) rfl (by decide) (?_ : ky_V _ _ _ 23 _ _ _ _)
      refine v_istore_n (L' := [(0, .ref a), (1, .int p1), (2, .int p2), (3, .int 1)]) [1, 2, 3, 0] (i := 12) rfl (Nat.le_of_ble_eq_true rfl) rfl (?_ : ky_V _ _ _ 24 _ _ _ _)
      refine lv_X11_force_24 N hG a za hm _ hr (fun h4 q5 x6 x7 x8 hmh4 frh4 e => ?_) N h s p1 p2 1 hm fr e
      refine v_iconst (v := (-1)) (i := 40) rfl (by decide) (?_ : ky_V _ _ _ 81 _ _ _ _)
      refine v_iret (v := (-1)) (ty := .int) (i := 41) rfl rfl rfl ?_
      obtain ⟨rfl, rfl⟩ := ky_leaf e
      exact hr _ hmh4 frh4
    · replace e := ky_ifF c3 e
      obtain ⟨s9, hvs9, -⟩ := sg_X11_322 hG
      refine v_throwSW (i0 := 6) (i1 := 7) (i2 := 8) (i3 := 9) (i4 := 10) te_X11_80_84 ky_ts hG hvs9 rfl rfl rfl rfl rfl rfl (Nat.le_of_ble_eq_true rfl) ?_
      obtain ⟨rfl, rfl⟩ := ky_leaf e
      exact hr _ (sk_hpJ hm) (sk_frJ hm fr)

def x11_way (N : Nat)  (s : sk_S) (a : Nat) (p1 : Int32) (p2 : Int32) (p3 : Int32) : Option (sk_S × ky_RS) := (if lay_X11 (sk_K s) (sk_r s) a = true then ((x11_isPerson N s a p1).bind (fun zz => (fun q2 x3 => (if x3 = 0 then (some ((sk_rs q2 6), (.inr "java/lang/IndexOutOfBoundsException"))) else (if (ws_isCell p2) = 0 then (some ((sk_rs q2 6), (.inr "java/lang/IndexOutOfBoundsException"))) else ((x8_steps N q2 (a + 16) p1 p2 p3).bind (fun zz => (fun q9 x10 => (some (q9, (.inl (some (.int x10)))))) zz.1 zz.2))))) zz.1 zz.2)) else none)
set_option maxRecDepth 20000 in
set_option maxHeartbeats 4000000 in
theorem k_X11_way {G : ky_GW} {d : Nat} {h : ky_HP} {Q : ky_RS → ky_HP → Prop} {s s9 : sk_S} {r9 : ky_RS} {a : Nat} {p1 : Int32} {p2 : Int32} {p3 : Int32} (N : Nat) (hG : ky_OK G)   (hm : sk_hp G s h)  (e : x11_way N  s a p1 p2 p3 = some (s9, r9)) (hr : ∀ h1, sk_hp G s9 h1 → sk_fr none s h s9 h1 → Q r9 h1) : ky_Call G (d + 6) M_X11_way [.ref a, .int p1, .int p2, .int p3] h Q := by
  refine ky_ofV (by decide +kernel) rfl ok_X11_way (Nat.le_of_ble_eq_true rfl) ?_
  have fr : sk_fr none s h s h := sk_fr.rf
  unfold x11_way at e
  refine (?_ : ky_V _ _ _ 0 [(0, .ref a), (1, .int p1), (2, .int p2), (3, .int p3)] [] _ _)
  obtain ⟨za, e⟩ := ky_chkE e
  refine v_aload_n (i := 0) (j := 0) rfl rfl (?_ : ky_V _ _ _ 1 _ _ _ _)
  refine v_iload_n (i := 1) (j := 1) rfl rfl (?_ : ky_V _ _ _ 2 _ _ _ _)
  obtain ⟨⟨q2, x3⟩, g4, e⟩ := Option.bind_eq_some_iff.mp e
  refine cl_X11_169 (As := [.int p1]) rfl (i := 2) rfl (oc_X11 hm (ly_X11_c za)) rfl rfl (Nat.le_of_ble_eq_true rfl) (k_X11_isPerson N hG hm g4 (fun h1 hmh1 frh1 => ⟨_, rfl, (?_ : ky_V _ _ _ 5 _ [.int x3] _ _)⟩))
  have frh1 := fr.tr frh1
  refine v_if_eq (tgt := 15) (i := 3) rfl (by decide) (fun c5 => ?_) (fun c5 => ?_)
  · replace e := ky_ifT c5 e
    obtain ⟨s6, hvs6, -⟩ := sg_X11_245 hG
    refine v_throwS (i0 := 7) (i1 := 8) (i2 := 9) (i3 := 10) (i4 := 11) te_X11_128_132 ky_ts hG hvs6 rfl rfl rfl rfl rfl rfl (Nat.le_of_ble_eq_true rfl) ?_
    obtain ⟨rfl, rfl⟩ := ky_leaf e
    exact hr _ (sk_hpJ hmh1) (sk_frJ hmh1 frh1)
  · replace e := ky_ifF c5 e
    refine v_iload_n (i := 4) (j := 2) rfl rfl (?_ : ky_V _ _ _ 9 _ _ _ _)
    refine cl_X11_146 (As := [.int p2]) rfl (i := 5) rfl rfl rfl (Nat.le_of_ble_eq_true rfl) (k_X11_isCell p2 ⟨_, rfl, (?_ : ky_V _ _ _ 12 _ [.int ((ws_isCell p2))] _ _)⟩)
    refine v_if_ne (tgt := 25) (i := 6) rfl (by decide) (fun c7 => ?_) (fun c7 => ?_)
    · replace e := ky_ifF c7 e
      refine v_aload_n (i := 12) (j := 0) rfl rfl (?_ : ky_V _ _ _ 26 _ _ _ _)
      refine gf_X11_33 rfl (i := 13) rfl (oc_X11 hmh1 (ly_X11_c (lt_X11 frh1 za))) (sk_rf (ly_X11_r3 (lt_X11 frh1 za))) (?_ : ky_V _ _ _ 29 _ (.ref (a + 12) :: _) _ _)
      refine gf_X11_63 rfl (i := 14) rfl (oc_X7 hmh1 (ly_X7_c (ly_X11_l3 (lt_X11 frh1 za)))) (sk_rf (ly_X7_r2 (ly_X11_l3 (lt_X11 frh1 za)))) (?_ : ky_V _ _ _ 32 _ (.ref (a + 16) :: _) _ _)
      refine v_iload_n (i := 15) (j := 1) rfl rfl (?_ : ky_V _ _ _ 33 _ _ _ _)
      refine v_iload_n (i := 16) (j := 2) rfl rfl (?_ : ky_V _ _ _ 34 _ _ _ _)
      refine v_iload_n (i := 17) (j := 3) rfl rfl (?_ : ky_V _ _ _ 35 _ _ _ _)
      obtain ⟨⟨q9, x10⟩, g11, e⟩ := Option.bind_eq_some_iff.mp e
      refine cl_X11_330 (As := [.int p1, .int p2, .int p3]) rfl (i := 18) rfl (oc_X8 hmh1 (ly_X8_c (ly_X7_l2 (ly_X11_l3 (lt_X11 frh1 za))))) rfl rfl (Nat.le_of_ble_eq_true rfl) (k_X8_steps N hG hmh1 g11 (fun h8 hmh8 frh8 => ⟨_, rfl, (?_ : ky_V _ _ _ 38 _ [.int x10] _ _)⟩))
      have frh8 := frh1.tr frh8
      refine v_iret (v := x10) (ty := .int) (i := 19) rfl rfl rfl ?_
      obtain ⟨rfl, rfl⟩ := ky_leaf e
      exact hr _ hmh8 frh8
    · replace e := ky_ifT c7 e
      obtain ⟨s12, hvs12, -⟩ := sg_X11_245 hG
      refine v_throwS (i0 := 7) (i1 := 8) (i2 := 9) (i3 := 10) (i4 := 11) te_X11_128_132 ky_ts hG hvs12 rfl rfl rfl rfl rfl rfl (Nat.le_of_ble_eq_true rfl) ?_
      obtain ⟨rfl, rfl⟩ := ky_leaf e
      exact hr _ (sk_hpJ hmh1) (sk_frJ hmh1 frh1)

def x11_reach (N : Nat)  (s : sk_S) (a : Nat) (p1 : Int32) (p2 : Int32) : Option (sk_S × ky_RS) := (if lay_X11 (sk_K s) (sk_r s) a = true then ((x11_isPerson N s a p1).bind (fun zz => (fun q2 x3 => (if x3 = 0 then (some ((sk_rs q2 6), (.inr "java/lang/IndexOutOfBoundsException"))) else ((x8_reached N q2 (a + 16) p1 p2).bind (fun zz => (fun q7 x8 => (some (q7, (.inl (some (.long x8)))))) zz.1 zz.2)))) zz.1 zz.2)) else none)
set_option maxRecDepth 20000 in
set_option maxHeartbeats 4000000 in
theorem k_X11_reach {G : ky_GW} {d : Nat} {h : ky_HP} {Q : ky_RS → ky_HP → Prop} {s s9 : sk_S} {r9 : ky_RS} {a : Nat} {p1 : Int32} {p2 : Int32} (N : Nat) (hG : ky_OK G)   (hm : sk_hp G s h)  (e : x11_reach N  s a p1 p2 = some (s9, r9)) (hr : ∀ h1, sk_hp G s9 h1 → sk_fr none s h s9 h1 → Q r9 h1) : ky_Call G (d + 6) M_X11_reach [.ref a, .int p1, .int p2] h Q := by
  refine ky_ofV (by decide +kernel) rfl ok_X11_reach (Nat.le_of_ble_eq_true rfl) ?_
  have fr : sk_fr none s h s h := sk_fr.rf
  unfold x11_reach at e
  refine (?_ : ky_V _ _ _ 0 [(0, .ref a), (1, .int p1), (2, .int p2)] [] _ _)
  obtain ⟨za, e⟩ := ky_chkE e
  refine v_aload_n (i := 0) (j := 0) rfl rfl (?_ : ky_V _ _ _ 1 _ _ _ _)
  refine v_iload_n (i := 1) (j := 1) rfl rfl (?_ : ky_V _ _ _ 2 _ _ _ _)
  obtain ⟨⟨q2, x3⟩, g4, e⟩ := Option.bind_eq_some_iff.mp e
  refine cl_X11_169 (As := [.int p1]) rfl (i := 2) rfl (oc_X11 hm (ly_X11_c za)) rfl rfl (Nat.le_of_ble_eq_true rfl) (k_X11_isPerson N hG hm g4 (fun h1 hmh1 frh1 => ⟨_, rfl, (?_ : ky_V _ _ _ 5 _ [.int x3] _ _)⟩))
  have frh1 := fr.tr frh1
  refine v_if_ne (tgt := 18) (i := 3) rfl (by decide) (fun c5 => ?_) (fun c5 => ?_)
  · replace e := ky_ifF c5 e
    refine v_aload_n (i := 9) (j := 0) rfl rfl (?_ : ky_V _ _ _ 19 _ _ _ _)
    refine gf_X11_33 rfl (i := 10) rfl (oc_X11 hmh1 (ly_X11_c (lt_X11 frh1 za))) (sk_rf (ly_X11_r3 (lt_X11 frh1 za))) (?_ : ky_V _ _ _ 22 _ (.ref (a + 12) :: _) _ _)
    refine gf_X11_63 rfl (i := 11) rfl (oc_X7 hmh1 (ly_X7_c (ly_X11_l3 (lt_X11 frh1 za)))) (sk_rf (ly_X7_r2 (ly_X11_l3 (lt_X11 frh1 za)))) (?_ : ky_V _ _ _ 25 _ (.ref (a + 16) :: _) _ _)
    refine v_iload_n (i := 12) (j := 1) rfl rfl (?_ : ky_V _ _ _ 26 _ _ _ _)
    refine v_iload_n (i := 13) (j := 2) rfl rfl (?_ : ky_V _ _ _ 27 _ _ _ _)
    obtain ⟨⟨q7, x8⟩, g9, e⟩ := Option.bind_eq_some_iff.mp e
    refine cl_X11_334 (As := [.int p1, .int p2]) rfl (i := 14) rfl (oc_X8 hmh1 (ly_X8_c (ly_X7_l2 (ly_X11_l3 (lt_X11 frh1 za))))) rfl rfl (Nat.le_of_ble_eq_true rfl) (k_X8_reached N hG hmh1 g9 (fun h6 hmh6 frh6 => ⟨_, rfl, (?_ : ky_V _ _ _ 30 _ [.long x8] _ _)⟩))
    have frh6 := frh1.tr frh6
    refine v_lret (v := x8) (i := 15) rfl rfl ?_
    obtain ⟨rfl, rfl⟩ := ky_leaf e
    exact hr _ hmh6 frh6
  · replace e := ky_ifT c5 e
    obtain ⟨s10, hvs10, -⟩ := sg_X11_172 hG
    refine v_throwS (i0 := 4) (i1 := 5) (i2 := 6) (i3 := 7) (i4 := 8) te_X11_128_132 ky_ts hG hvs10 rfl rfl rfl rfl rfl rfl (Nat.le_of_ble_eq_true rfl) ?_
    obtain ⟨rfl, rfl⟩ := ky_leaf e
    exact hr _ (sk_hpJ hmh1) (sk_frJ hmh1 frh1)

def x11_edge (N : Nat)  (s : sk_S) (a : Nat) (p1 : Int32) (p2 : Int32) : Option (sk_S × ky_RS) := (if lay_X11 (sk_K s) (sk_r s) a = true then (if p1 < 0 then (some ((sk_rs s 6), (.inr "java/lang/IllegalArgumentException"))) else (if (7 : Int32) < p1 then (some ((sk_rs s 6), (.inr "java/lang/IllegalArgumentException"))) else (if (ws_isWeight p2) = 0 then (some ((sk_rs s 6), (.inr "java/lang/IllegalArgumentException"))) else ((x8_heldTo N s (a + 16) p1 p2).bind (fun zz => (fun q7 x8 => (some (q7, (.inl (some (.int x8)))))) zz.1 zz.2))))) else none)
set_option maxRecDepth 20000 in
set_option maxHeartbeats 4000000 in
theorem k_X11_edge {G : ky_GW} {d : Nat} {h : ky_HP} {Q : ky_RS → ky_HP → Prop} {s s9 : sk_S} {r9 : ky_RS} {a : Nat} {p1 : Int32} {p2 : Int32} (N : Nat) (hG : ky_OK G)   (hm : sk_hp G s h)  (e : x11_edge N  s a p1 p2 = some (s9, r9)) (hr : ∀ h1, sk_hp G s9 h1 → sk_fr none s h s9 h1 → Q r9 h1) : ky_Call G (d + 6) M_X11_edge [.ref a, .int p1, .int p2] h Q := by
  refine ky_ofV (by decide +kernel) rfl ok_X11_edge (Nat.le_of_ble_eq_true rfl) ?_
  have fr : sk_fr none s h s h := sk_fr.rf
  unfold x11_edge at e
  refine (?_ : ky_V _ _ _ 0 [(0, .ref a), (1, .int p1), (2, .int p2)] [] _ _)
  obtain ⟨za, e⟩ := ky_chkE e
  refine v_iload_n (i := 0) (j := 1) rfl rfl (?_ : ky_V _ _ _ 1 _ _ _ _)
  refine v_if_lt (tgt := 17) (i := 1) rfl (by decide) (fun c1 => ?_) (fun c1 => ?_)
  · replace e := ky_ifT c1 e
    obtain ⟨s2, hvs2, -⟩ := sg_X11_341 hG
    refine v_throwSW (i0 := 8) (i1 := 9) (i2 := 10) (i3 := 11) (i4 := 12) te_X11_80_84 ky_ts hG hvs2 rfl rfl rfl rfl rfl rfl (Nat.le_of_ble_eq_true rfl) ?_
    obtain ⟨rfl, rfl⟩ := ky_leaf e
    exact hr _ (sk_hpJ hm) (sk_frJ hm fr)
  · replace e := ky_ifF c1 e
    refine v_iload_n (i := 2) (j := 1) rfl rfl (?_ : ky_V _ _ _ 5 _ _ _ _)
    refine v_bipush (v := 7) (i := 3) rfl (by decide) (?_ : ky_V _ _ _ 7 _ _ _ _)
    refine v_icmp_gt (tgt := 17) (i := 4) rfl (by decide) (fun c3 => ?_) (fun c3 => ?_)
    · replace e := ky_ifT c3 e
      obtain ⟨s4, hvs4, -⟩ := sg_X11_341 hG
      refine v_throwSW (i0 := 8) (i1 := 9) (i2 := 10) (i3 := 11) (i4 := 12) te_X11_80_84 ky_ts hG hvs4 rfl rfl rfl rfl rfl rfl (Nat.le_of_ble_eq_true rfl) ?_
      obtain ⟨rfl, rfl⟩ := ky_leaf e
      exact hr _ (sk_hpJ hm) (sk_frJ hm fr)
    · replace e := ky_ifF c3 e
      refine v_iload_n (i := 5) (j := 2) rfl rfl (?_ : ky_V _ _ _ 11 _ _ _ _)
      refine cl_X11_338 (As := [.int p2]) rfl (i := 6) rfl rfl rfl (Nat.le_of_ble_eq_true rfl) (k_X11_isWeight p2 ⟨_, rfl, (?_ : ky_V _ _ _ 14 _ [.int ((ws_isWeight p2))] _ _)⟩)
      refine v_if_ne (tgt := 28) (i := 7) rfl (by decide) (fun c5 => ?_) (fun c5 => ?_)
      · replace e := ky_ifF c5 e
        refine v_aload_n (i := 13) (j := 0) rfl rfl (?_ : ky_V _ _ _ 29 _ _ _ _)
        refine gf_X11_33 rfl (i := 14) rfl (oc_X11 hm (ly_X11_c za)) (sk_rf (ly_X11_r3 za)) (?_ : ky_V _ _ _ 32 _ (.ref (a + 12) :: _) _ _)
        refine gf_X11_63 rfl (i := 15) rfl (oc_X7 hm (ly_X7_c (ly_X11_l3 za))) (sk_rf (ly_X7_r2 (ly_X11_l3 za))) (?_ : ky_V _ _ _ 35 _ (.ref (a + 16) :: _) _ _)
        refine v_iload_n (i := 16) (j := 1) rfl rfl (?_ : ky_V _ _ _ 36 _ _ _ _)
        refine v_iload_n (i := 17) (j := 2) rfl rfl (?_ : ky_V _ _ _ 37 _ _ _ _)
        obtain ⟨⟨q7, x8⟩, g9, e⟩ := Option.bind_eq_some_iff.mp e
        refine cl_X11_343 (As := [.int p1, .int p2]) rfl (i := 18) rfl (oc_X8 hm (ly_X8_c (ly_X7_l2 (ly_X11_l3 za)))) rfl rfl (Nat.le_of_ble_eq_true rfl) (k_X8_heldTo N hG hm g9 (fun h6 hmh6 frh6 => ⟨_, rfl, (?_ : ky_V _ _ _ 40 _ [.int x8] _ _)⟩))
        have frh6 := fr.tr frh6
        refine v_iret (v := x8) (ty := .int) (i := 19) rfl rfl rfl ?_
        obtain ⟨rfl, rfl⟩ := ky_leaf e
        exact hr _ hmh6 frh6
      · replace e := ky_ifT c5 e
        obtain ⟨s10, hvs10, -⟩ := sg_X11_341 hG
        refine v_throwSW (i0 := 8) (i1 := 9) (i2 := 10) (i3 := 11) (i4 := 12) te_X11_80_84 ky_ts hG hvs10 rfl rfl rfl rfl rfl rfl (Nat.le_of_ble_eq_true rfl) ?_
        obtain ⟨rfl, rfl⟩ := ky_leaf e
        exact hr _ (sk_hpJ hm) (sk_frJ hm fr)

def x11_signs (N : Nat)  (s : sk_S) (a : Nat) (p1 : Int32) (p2 : Int32) : Option (sk_S × ky_RS) := (if lay_X11 (sk_K s) (sk_r s) a = true then (if (ws_isWeight p1) = 0 then (some ((sk_rs s 6), (.inr "java/lang/IllegalArgumentException"))) else (if p2 = 0 then ((x8_heapTells N s (a + 16) p1).bind (fun zz => (fun q4 x5 => (some (q4, (.inl (some (.int x5)))))) zz.1 zz.2)) else ((x8_shineTells N s (a + 16) p1).bind (fun zz => (fun q8 x9 => (some (q8, (.inl (some (.int x9)))))) zz.1 zz.2)))) else none)
set_option maxRecDepth 20000 in
set_option maxHeartbeats 4000000 in
theorem k_X11_signs {G : ky_GW} {d : Nat} {h : ky_HP} {Q : ky_RS → ky_HP → Prop} {s s9 : sk_S} {r9 : ky_RS} {a : Nat} {p1 : Int32} {p2 : Int32} (N : Nat) (hG : ky_OK G)   (hm : sk_hp G s h)  (e : x11_signs N  s a p1 p2 = some (s9, r9)) (hr : ∀ h1, sk_hp G s9 h1 → sk_fr none s h s9 h1 → Q r9 h1) : ky_Call G (d + 6) M_X11_signs [.ref a, .int p1, .int p2] h Q := by
  refine ky_ofV (by decide +kernel) rfl ok_X11_signs (Nat.le_of_ble_eq_true rfl) ?_
  have fr : sk_fr none s h s h := sk_fr.rf
  unfold x11_signs at e
  refine (?_ : ky_V _ _ _ 0 [(0, .ref a), (1, .int p1), (2, .int p2)] [] _ _)
  obtain ⟨za, e⟩ := ky_chkE e
  refine v_iload_n (i := 0) (j := 1) rfl rfl (?_ : ky_V _ _ _ 1 _ _ _ _)
  refine cl_X11_338 (As := [.int p1]) rfl (i := 1) rfl rfl rfl (Nat.le_of_ble_eq_true rfl) (k_X11_isWeight p1 ⟨_, rfl, (?_ : ky_V _ _ _ 4 _ [.int ((ws_isWeight p1))] _ _)⟩)
  refine v_if_ne (tgt := 18) (i := 2) rfl (by decide) (fun c1 => ?_) (fun c1 => ?_)
  · replace e := ky_ifF c1 e
    refine v_iload_n (i := 8) (j := 2) rfl rfl (?_ : ky_V _ _ _ 19 _ _ _ _)
    refine v_if_eq (tgt := 36) (i := 9) rfl (by decide) (fun c2 => ?_) (fun c2 => ?_)
    · replace e := ky_ifT c2 e
      refine v_aload_n (i := 16) (j := 0) rfl rfl (?_ : ky_V _ _ _ 37 _ _ _ _)
      refine gf_X11_33 rfl (i := 17) rfl (oc_X11 hm (ly_X11_c za)) (sk_rf (ly_X11_r3 za)) (?_ : ky_V _ _ _ 40 _ (.ref (a + 12) :: _) _ _)
      refine gf_X11_63 rfl (i := 18) rfl (oc_X7 hm (ly_X7_c (ly_X11_l3 za))) (sk_rf (ly_X7_r2 (ly_X11_l3 za))) (?_ : ky_V _ _ _ 43 _ (.ref (a + 16) :: _) _ _)
      refine v_iload_n (i := 19) (j := 1) rfl rfl (?_ : ky_V _ _ _ 44 _ _ _ _)
      obtain ⟨⟨q4, x5⟩, g6, e⟩ := Option.bind_eq_some_iff.mp e
      refine cl_X11_351 (As := [.int p1]) rfl (i := 20) rfl (oc_X8 hm (ly_X8_c (ly_X7_l2 (ly_X11_l3 za)))) rfl rfl (Nat.le_of_ble_eq_true rfl) (k_X8_heapTells N hG hm g6 (fun h3 hmh3 frh3 => ⟨_, rfl, (?_ : ky_V _ _ _ 47 _ [.int x5] _ _)⟩))
      have frh3 := fr.tr frh3
      refine v_iret (v := x5) (ty := .int) (i := 21) rfl rfl rfl ?_
      obtain ⟨rfl, rfl⟩ := ky_leaf e
      exact hr _ hmh3 frh3
    · replace e := ky_ifF c2 e
      refine v_aload_n (i := 10) (j := 0) rfl rfl (?_ : ky_V _ _ _ 23 _ _ _ _)
      refine gf_X11_33 rfl (i := 11) rfl (oc_X11 hm (ly_X11_c za)) (sk_rf (ly_X11_r3 za)) (?_ : ky_V _ _ _ 26 _ (.ref (a + 12) :: _) _ _)
      refine gf_X11_63 rfl (i := 12) rfl (oc_X7 hm (ly_X7_c (ly_X11_l3 za))) (sk_rf (ly_X7_r2 (ly_X11_l3 za))) (?_ : ky_V _ _ _ 29 _ (.ref (a + 16) :: _) _ _)
      refine v_iload_n (i := 13) (j := 1) rfl rfl (?_ : ky_V _ _ _ 30 _ _ _ _)
      obtain ⟨⟨q8, x9⟩, g10, e⟩ := Option.bind_eq_some_iff.mp e
      refine cl_X11_348 (As := [.int p1]) rfl (i := 14) rfl (oc_X8 hm (ly_X8_c (ly_X7_l2 (ly_X11_l3 za)))) rfl rfl (Nat.le_of_ble_eq_true rfl) (k_X8_shineTells N hG hm g10 (fun h7 hmh7 frh7 => ⟨_, rfl, (?_ : ky_V _ _ _ 33 _ [.int x9] _ _)⟩))
      have frh7 := fr.tr frh7
      refine v_goto (tgt := 47) (i := 15) rfl (by decide) (?_ : ky_V _ _ _ 47 _ _ _ _)
      refine v_iret (v := x9) (ty := .int) (i := 21) rfl rfl rfl ?_
      obtain ⟨rfl, rfl⟩ := ky_leaf e
      exact hr _ hmh7 frh7
  · replace e := ky_ifT c1 e
    obtain ⟨s11, hvs11, -⟩ := sg_X11_346 hG
    refine v_throwSW (i0 := 3) (i1 := 4) (i2 := 5) (i3 := 6) (i4 := 7) te_X11_80_84 ky_ts hG hvs11 rfl rfl rfl rfl rfl rfl (Nat.le_of_ble_eq_true rfl) ?_
    obtain ⟨rfl, rfl⟩ := ky_leaf e
    exact hr _ (sk_hpJ hm) (sk_frJ hm fr)

def x11_holes (N : Nat)  (s : sk_S) (a : Nat) (p1 : Int32) (p2 : Int32) : Option (sk_S × ky_RS) := (if lay_X11 (sk_K s) (sk_r s) a = true then (if (ws_isCell p1) = 0 then (some ((sk_rs s 6), (.inr "java/lang/IndexOutOfBoundsException"))) else (if p2 < (1 : Int32) then (some ((sk_rs s 6), (.inr "java/lang/IllegalArgumentException"))) else (if p2 ≤ (9 : Int32) then ((x8_heavierBy N s (a + 16) p1 p2).bind (fun zz => (fun q6 x7 => (some (q6, (.inl (some (.int x7)))))) zz.1 zz.2)) else (some ((sk_rs s 6), (.inr "java/lang/IllegalArgumentException")))))) else none)
set_option maxRecDepth 20000 in
set_option maxHeartbeats 4000000 in
theorem k_X11_holes {G : ky_GW} {d : Nat} {h : ky_HP} {Q : ky_RS → ky_HP → Prop} {s s9 : sk_S} {r9 : ky_RS} {a : Nat} {p1 : Int32} {p2 : Int32} (N : Nat) (hG : ky_OK G)   (hm : sk_hp G s h)  (e : x11_holes N  s a p1 p2 = some (s9, r9)) (hr : ∀ h1, sk_hp G s9 h1 → sk_fr none s h s9 h1 → Q r9 h1) : ky_Call G (d + 6) M_X11_holes [.ref a, .int p1, .int p2] h Q := by
  refine ky_ofV (by decide +kernel) rfl ok_X11_holes (Nat.le_of_ble_eq_true rfl) ?_
  have fr : sk_fr none s h s h := sk_fr.rf
  unfold x11_holes at e
  refine (?_ : ky_V _ _ _ 0 [(0, .ref a), (1, .int p1), (2, .int p2)] [] _ _)
  obtain ⟨za, e⟩ := ky_chkE e
  refine v_iload_n (i := 0) (j := 1) rfl rfl (?_ : ky_V _ _ _ 1 _ _ _ _)
  refine cl_X11_146 (As := [.int p1]) rfl (i := 1) rfl rfl rfl (Nat.le_of_ble_eq_true rfl) (k_X11_isCell p1 ⟨_, rfl, (?_ : ky_V _ _ _ 4 _ [.int ((ws_isCell p1))] _ _)⟩)
  refine v_if_ne (tgt := 17) (i := 2) rfl (by decide) (fun c1 => ?_) (fun c1 => ?_)
  · replace e := ky_ifF c1 e
    refine v_iload_n (i := 8) (j := 2) rfl rfl (?_ : ky_V _ _ _ 18 _ _ _ _)
    refine v_iconst (v := 1) (i := 9) rfl (by decide) (?_ : ky_V _ _ _ 19 _ _ _ _)
    refine v_icmp_lt (tgt := 28) (i := 10) rfl (by decide) (fun c2 => ?_) (fun c2 => ?_)
    · replace e := ky_ifT c2 e
      obtain ⟨s3, hvs3, -⟩ := sg_X11_358 hG
      refine v_throwSW (i0 := 14) (i1 := 15) (i2 := 16) (i3 := 17) (i4 := 18) te_X11_80_84 ky_ts hG hvs3 rfl rfl rfl rfl rfl rfl (Nat.le_of_ble_eq_true rfl) ?_
      obtain ⟨rfl, rfl⟩ := ky_leaf e
      exact hr _ (sk_hpJ hm) (sk_frJ hm fr)
    · replace e := ky_ifF c2 e
      refine v_iload_n (i := 11) (j := 2) rfl rfl (?_ : ky_V _ _ _ 23 _ _ _ _)
      refine v_bipush (v := 9) (i := 12) rfl (by decide) (?_ : ky_V _ _ _ 25 _ _ _ _)
      refine v_icmp_le (tgt := 39) (i := 13) rfl (by decide) (fun c4 => ?_) (fun c4 => ?_)
      · replace e := ky_ifT c4 e
        refine v_aload_n (i := 19) (j := 0) rfl rfl (?_ : ky_V _ _ _ 40 _ _ _ _)
        refine gf_X11_33 rfl (i := 20) rfl (oc_X11 hm (ly_X11_c za)) (sk_rf (ly_X11_r3 za)) (?_ : ky_V _ _ _ 43 _ (.ref (a + 12) :: _) _ _)
        refine gf_X11_63 rfl (i := 21) rfl (oc_X7 hm (ly_X7_c (ly_X11_l3 za))) (sk_rf (ly_X7_r2 (ly_X11_l3 za))) (?_ : ky_V _ _ _ 46 _ (.ref (a + 16) :: _) _ _)
        refine v_iload_n (i := 22) (j := 1) rfl rfl (?_ : ky_V _ _ _ 47 _ _ _ _)
        refine v_iload_n (i := 23) (j := 2) rfl rfl (?_ : ky_V _ _ _ 48 _ _ _ _)
        obtain ⟨⟨q6, x7⟩, g8, e⟩ := Option.bind_eq_some_iff.mp e
        refine cl_X11_360 (As := [.int p1, .int p2]) rfl (i := 24) rfl (oc_X8 hm (ly_X8_c (ly_X7_l2 (ly_X11_l3 za)))) rfl rfl (Nat.le_of_ble_eq_true rfl) (k_X8_heavierBy N hG hm g8 (fun h5 hmh5 frh5 => ⟨_, rfl, (?_ : ky_V _ _ _ 51 _ [.int x7] _ _)⟩))
        have frh5 := fr.tr frh5
        refine v_iret (v := x7) (ty := .int) (i := 25) rfl rfl rfl ?_
        obtain ⟨rfl, rfl⟩ := ky_leaf e
        exact hr _ hmh5 frh5
      · replace e := ky_ifF c4 e
        obtain ⟨s9, hvs9, -⟩ := sg_X11_358 hG
        refine v_throwSW (i0 := 14) (i1 := 15) (i2 := 16) (i3 := 17) (i4 := 18) te_X11_80_84 ky_ts hG hvs9 rfl rfl rfl rfl rfl rfl (Nat.le_of_ble_eq_true rfl) ?_
        obtain ⟨rfl, rfl⟩ := ky_leaf e
        exact hr _ (sk_hpJ hm) (sk_frJ hm fr)
  · replace e := ky_ifT c1 e
    obtain ⟨s10, hvs10, -⟩ := sg_X11_149 hG
    refine v_throwS (i0 := 3) (i1 := 4) (i2 := 5) (i3 := 6) (i4 := 7) te_X11_128_132 ky_ts hG hvs10 rfl rfl rfl rfl rfl rfl (Nat.le_of_ble_eq_true rfl) ?_
    obtain ⟨rfl, rfl⟩ := ky_leaf e
    exact hr _ (sk_hpJ hm) (sk_frJ hm fr)

def x11_rope (N : Nat)  (s : sk_S) (a : Nat) (p1 : Int32) : Option (sk_S × ky_RS) := (if lay_X11 (sk_K s) (sk_r s) a = true then (if (ws_isWeight p1) = 0 then (some ((sk_rs s 6), (.inr "java/lang/IllegalArgumentException"))) else ((x8_ropeCells N s (a + 16)).bind (fun zz => (fun q3 x4 => ((x8_bearing N q3 (a + 16) p1).bind (fun zz => (fun q7 x8 => (some (q7, (.inl (some (.long (x4 &&& x8))))))) zz.1 zz.2))) zz.1 zz.2))) else none)
set_option maxRecDepth 20000 in
set_option maxHeartbeats 4000000 in
theorem k_X11_rope {G : ky_GW} {d : Nat} {h : ky_HP} {Q : ky_RS → ky_HP → Prop} {s s9 : sk_S} {r9 : ky_RS} {a : Nat} {p1 : Int32} (N : Nat) (hG : ky_OK G)   (hm : sk_hp G s h)  (e : x11_rope N  s a p1 = some (s9, r9)) (hr : ∀ h1, sk_hp G s9 h1 → sk_fr none s h s9 h1 → Q r9 h1) : ky_Call G (d + 6) M_X11_rope [.ref a, .int p1] h Q := by
  refine ky_ofV (by decide +kernel) rfl ok_X11_rope (Nat.le_of_ble_eq_true rfl) ?_
  have fr : sk_fr none s h s h := sk_fr.rf
  unfold x11_rope at e
  refine (?_ : ky_V _ _ _ 0 [(0, .ref a), (1, .int p1)] [] _ _)
  obtain ⟨za, e⟩ := ky_chkE e
  refine v_iload_n (i := 0) (j := 1) rfl rfl (?_ : ky_V _ _ _ 1 _ _ _ _)
  refine cl_X11_338 (As := [.int p1]) rfl (i := 1) rfl rfl rfl (Nat.le_of_ble_eq_true rfl) (k_X11_isWeight p1 ⟨_, rfl, (?_ : ky_V _ _ _ 4 _ [.int ((ws_isWeight p1))] _ _)⟩)
  refine v_if_ne (tgt := 18) (i := 2) rfl (by decide) (fun c1 => ?_) (fun c1 => ?_)
  · replace e := ky_ifF c1 e
    refine v_aload_n (i := 8) (j := 0) rfl rfl (?_ : ky_V _ _ _ 19 _ _ _ _)
    refine gf_X11_33 rfl (i := 9) rfl (oc_X11 hm (ly_X11_c za)) (sk_rf (ly_X11_r3 za)) (?_ : ky_V _ _ _ 22 _ (.ref (a + 12) :: _) _ _)
    refine gf_X11_63 rfl (i := 10) rfl (oc_X7 hm (ly_X7_c (ly_X11_l3 za))) (sk_rf (ly_X7_r2 (ly_X11_l3 za))) (?_ : ky_V _ _ _ 25 _ (.ref (a + 16) :: _) _ _)
    obtain ⟨⟨q3, x4⟩, g5, e⟩ := Option.bind_eq_some_iff.mp e
    refine cl_X11_363 (As := []) rfl (i := 11) rfl (oc_X8 hm (ly_X8_c (ly_X7_l2 (ly_X11_l3 za)))) rfl rfl (Nat.le_of_ble_eq_true rfl) (k_X8_ropeCells N hG hm g5 (fun h2 hmh2 frh2 => ⟨_, rfl, (?_ : ky_V _ _ _ 28 _ [.long x4] _ _)⟩))
    have frh2 := fr.tr frh2
    refine v_aload_n (i := 12) (j := 0) rfl rfl (?_ : ky_V _ _ _ 29 _ _ _ _)
    refine gf_X11_33 rfl (i := 13) rfl (oc_X11 hmh2 (ly_X11_c (lt_X11 frh2 za))) (sk_rf (ly_X11_r3 (lt_X11 frh2 za))) (?_ : ky_V _ _ _ 32 _ (.ref (a + 12) :: _) _ _)
    refine gf_X11_63 rfl (i := 14) rfl (oc_X7 hmh2 (ly_X7_c (ly_X11_l3 (lt_X11 frh2 za)))) (sk_rf (ly_X7_r2 (ly_X11_l3 (lt_X11 frh2 za)))) (?_ : ky_V _ _ _ 35 _ (.ref (a + 16) :: _) _ _)
    refine v_iload_n (i := 15) (j := 1) rfl rfl (?_ : ky_V _ _ _ 36 _ _ _ _)
    obtain ⟨⟨q7, x8⟩, g9, e⟩ := Option.bind_eq_some_iff.mp e
    refine cl_X11_366 (As := [.int p1]) rfl (i := 16) rfl (oc_X8 hmh2 (ly_X8_c (ly_X7_l2 (ly_X11_l3 (lt_X11 frh2 za))))) rfl rfl (Nat.le_of_ble_eq_true rfl) (k_X8_bearing N hG hmh2 g9 (fun h6 hmh6 frh6 => ⟨_, rfl, (?_ : ky_V _ _ _ 39 _ [.long x8, .long x4] _ _)⟩))
    have frh6 := frh2.tr frh6
    refine v_land (i := 17) rfl (?_ : ky_V _ _ _ 40 _ _ _ _)
    refine v_lret (v := (x4 &&& x8)) (i := 18) rfl rfl ?_
    obtain ⟨rfl, rfl⟩ := ky_leaf e
    exact hr _ hmh6 frh6
  · replace e := ky_ifT c1 e
    obtain ⟨s10, hvs10, -⟩ := sg_X11_346 hG
    refine v_throwSW (i0 := 3) (i1 := 4) (i2 := 5) (i3 := 6) (i4 := 7) te_X11_80_84 ky_ts hG hvs10 rfl rfl rfl rfl rfl rfl (Nat.le_of_ble_eq_true rfl) ?_
    obtain ⟨rfl, rfl⟩ := ky_leaf e
    exact hr _ (sk_hpJ hm) (sk_frJ hm fr)

def x11_tryOut_L24 (N : Nat)  (a : Nat) (k : sk_S → Int32 → Int32 → Int32 → Option (sk_S × Int32)) : Nat → sk_S → Int32 → Int32 → Int32 → Option (sk_S × Int32)
  | 0, _, _, _, _ => none
  | n + 1, c, p1, p2, p3 => (if p1 ≤ p3 then (k c p1 p2 p3) else ((x1_isStill N c (a + 23)).bind (fun zz => (fun q3 x4 => (if x4 = 0 then ((x1_drawMove N q3 (a + 23)).bind (fun zz => (fun q8 x9 => ((x1_drawLeg N q8 (a + 23)).bind (fun zz => (fun q12 x13 => ((x1_make N q12 (a + 23) (a + 14) x9 x13).bind (fun zz => (fun q16 x17 => (ky_let (p3 + 1) (fun x19 => (x11_tryOut_L24 N a k n q16 p1 p2 x19)))) zz.1 zz.2))) zz.1 zz.2))) zz.1 zz.2)) else (k q3 p1 p2 p3))) zz.1 zz.2)))
set_option maxRecDepth 20000 in
set_option maxHeartbeats 4000000 in
theorem lv_X11_tryOut_24 {G : ky_GW} {d : Nat} {s s9 : sk_S} {h0 : ky_HP} {Q : ky_RS → ky_HP → Prop} {r9 : Int32} (N : Nat) (hG : ky_OK G)  (a : Nat)   (za : lay_X11 (sk_K s) (sk_r s) a = true) (hm : sk_hp G s h0) (k : sk_S → Int32 → Int32 → Int32 → Option (sk_S × Int32)) (hr : ∀ h1, sk_hp G s9 h1 → sk_fr none s h0 s9 h1 → Q (.inl none) h1)
    (hk : ∀ (h : ky_HP) (c : sk_S) (p1 : Int32) (p2 : Int32) (p3 : Int32), sk_hp G c h → sk_fr none s h0 c h → k c p1 p2 p3 = some (s9, r9) → ky_V G (d + 4) M_X11_tryOut 77 [(0, .ref a), (1, .int p1), (2, .int p2), (3, .int p3)] [] h Q) :
    ∀ (n : Nat) (h : ky_HP) (c : sk_S) (p1 : Int32) (p2 : Int32) (p3 : Int32), sk_hp G c h → sk_fr none s h0 c h → x11_tryOut_L24 N a k n c p1 p2 p3 = some (s9, r9) → ky_V G (d + 4) M_X11_tryOut 24 [(0, .ref a), (1, .int p1), (2, .int p2), (3, .int p3)] [] h Q := by
  intro n
  induction n with
  | zero => intro h c p1 p2 p3 hm1 fr e; cases e
  | succ n ih =>
    intro h c p1 p2 p3 hm1 fr e
    rw [x11_tryOut_L24] at e
    refine v_iload_n (i := 12) (j := 3) rfl rfl (?_ : ky_V _ _ _ 25 _ _ _ _)
    refine v_iload_n (i := 13) (j := 1) rfl rfl (?_ : ky_V _ _ _ 26 _ _ _ _)
    refine v_icmp_ge (tgt := 77) (i := 14) rfl (by decide) (fun c1 => ?_) (fun c1 => ?_)
    · replace e := ky_ifT c1 e
      exact hk h c p1 p2 p3 hm1 fr e
    · replace e := ky_ifF c1 e
      refine v_aload_n (i := 15) (j := 0) rfl rfl (?_ : ky_V _ _ _ 30 _ _ _ _)
      refine gf_X11_44 rfl (i := 16) rfl (oc_X11 hm1 (ly_X11_c (lt_X11 fr za))) (sk_rf (ly_X11_r5 (lt_X11 fr za))) (?_ : ky_V _ _ _ 33 _ (.ref (a + 23) :: _) _ _)
      obtain ⟨⟨q3, x4⟩, g5, e⟩ := Option.bind_eq_some_iff.mp e
      refine cl_X11_194 (As := []) rfl (i := 17) rfl (oc_X1 hm1 (ly_X1_c (ly_X11_l5 (lt_X11 fr za)))) rfl rfl (Nat.le_of_ble_eq_true rfl) (k_X1_isStill N hG hm1 g5 (fun h2 hmh2 frh2 => ⟨_, rfl, (?_ : ky_V _ _ _ 36 _ [.int x4] _ _)⟩))
      have frh2 := fr.tr frh2
      refine v_if_ne (tgt := 77) (i := 18) rfl (by decide) (fun c6 => ?_) (fun c6 => ?_)
      · replace e := ky_ifF c6 e
        exact hk h2 q3 p1 p2 p3 hmh2 frh2 e
      · replace e := ky_ifT c6 e
        refine v_aload_n (i := 19) (j := 0) rfl rfl (?_ : ky_V _ _ _ 40 _ _ _ _)
        refine gf_X11_44 rfl (i := 20) rfl (oc_X11 hmh2 (ly_X11_c (lt_X11 frh2 za))) (sk_rf (ly_X11_r5 (lt_X11 frh2 za))) (?_ : ky_V _ _ _ 43 _ (.ref (a + 23) :: _) _ _)
        obtain ⟨⟨q8, x9⟩, g10, e⟩ := Option.bind_eq_some_iff.mp e
        refine cl_X11_263 (As := []) rfl (i := 21) rfl (oc_X1 hmh2 (ly_X1_c (ly_X11_l5 (lt_X11 frh2 za)))) rfl rfl (Nat.le_of_ble_eq_true rfl) (k_X1_drawMove N hG hmh2 g10 (fun h7 hmh7 frh7 => ⟨_, rfl, (?_ : ky_V _ _ _ 46 _ [.int x9] _ _)⟩))
        have frh7 := frh2.tr frh7
        refine v_istore (L' := [(0, .ref a), (1, .int p1), (2, .int p2), (3, .int p3), (4, .int x9)]) [1, 2, 3, 4, 0] (i := 22) rfl (Nat.le_of_ble_eq_true rfl) rfl (?_ : ky_V _ _ _ 48 _ _ _ _)
        refine v_aload_n (i := 23) (j := 0) rfl rfl (?_ : ky_V _ _ _ 49 _ _ _ _)
        refine gf_X11_44 rfl (i := 24) rfl (oc_X11 hmh7 (ly_X11_c (lt_X11 frh7 za))) (sk_rf (ly_X11_r5 (lt_X11 frh7 za))) (?_ : ky_V _ _ _ 52 _ (.ref (a + 23) :: _) _ _)
        refine v_aload_n (i := 25) (j := 0) rfl rfl (?_ : ky_V _ _ _ 53 _ _ _ _)
        refine gf_X11_33 rfl (i := 26) rfl (oc_X11 hmh7 (ly_X11_c (lt_X11 frh7 za))) (sk_rf (ly_X11_r3 (lt_X11 frh7 za))) (?_ : ky_V _ _ _ 56 _ (.ref (a + 12) :: _) _ _)
        refine gf_X11_105 rfl (i := 27) rfl (oc_X7 hmh7 (ly_X7_c (ly_X11_l3 (lt_X11 frh7 za)))) (sk_rf (ly_X7_r1 (ly_X11_l3 (lt_X11 frh7 za)))) (?_ : ky_V _ _ _ 59 _ (.ref (a + 14) :: _) _ _)
        refine v_iload (i := 28) (j := 4) rfl rfl (?_ : ky_V _ _ _ 61 _ _ _ _)
        refine v_aload_n (i := 29) (j := 0) rfl rfl (?_ : ky_V _ _ _ 62 _ _ _ _)
        refine gf_X11_44 rfl (i := 30) rfl (oc_X11 hmh7 (ly_X11_c (lt_X11 frh7 za))) (sk_rf (ly_X11_r5 (lt_X11 frh7 za))) (?_ : ky_V _ _ _ 65 _ (.ref (a + 23) :: _) _ _)
        obtain ⟨⟨q12, x13⟩, g14, e⟩ := Option.bind_eq_some_iff.mp e
        refine cl_X11_267 (As := []) rfl (i := 31) rfl (oc_X1 hmh7 (ly_X1_c (ly_X11_l5 (lt_X11 frh7 za)))) rfl rfl (Nat.le_of_ble_eq_true rfl) (k_X1_drawLeg N hG hmh7 g14 (fun h11 hmh11 frh11 => ⟨_, rfl, (?_ : ky_V _ _ _ 68 _ [.int x13, .int x9, .ref ((a + 14)), .ref ((a + 23))] _ _)⟩))
        have frh11 := frh7.tr frh11
        obtain ⟨⟨q16, x17⟩, g18, e⟩ := Option.bind_eq_some_iff.mp e
        refine cl_X11_460 (As := [.ref ((a + 14)), .int x9, .int x13]) rfl (i := 32) rfl (oc_X1 hmh11 (ly_X1_c (ly_X11_l5 (lt_X11 frh11 za)))) rfl rfl (Nat.le_of_ble_eq_true rfl) (k_X1_make N hG hmh11 g18 (fun h15 hmh15 frh15 => ⟨_, rfl, (?_ : ky_V _ _ _ 71 _ [] _ _)⟩))
        have frh15 := frh11.tr frh15
        obtain ⟨x19, ex19⟩ : ∃ z : Int32, z = p3 + 1 := ⟨_, rfl⟩
        replace e := ky_letE ex19 e
        refine v_iinc (v := x19) (j := 3) (L' := [(0, .ref a), (1, .int p1), (2, .int p2), (3, .int x19), (4, .int x9)]) [1, 2, 3, 0, 4] (i := 33) rfl rfl (by rw [ex19]; rfl) (Nat.le_of_ble_eq_true rfl) rfl (?_ : ky_V _ _ _ 74 _ _ _ _)
        refine v_goto (tgt := 24) (i := 34) rfl (by decide) (?_ : ky_V _ _ _ 24 _ _ _ _)
        refine ky_loc (L' := [(0, .ref a), (1, .int p1), (2, .int p2), (3, .int x19)]) (by simp) ?_
        exact ih h15 q16 p1 p2 x19 hmh15 frh15 e

def x11_tryOut (N : Nat)  (s : sk_S) (a : Nat) (p1 : Int32) (p2 : Int32) : Option (sk_S × Int32) := (if lay_X11 (sk_K s) (sk_r s) a = true then ((x1_become N s (a + 23) (a + 13)).bind (fun zz => (fun q2 x3 => (ky_let (sk_wc q2 (a + 23) 7 p2) (fun q6 => (x11_tryOut_L24 N a (fun q8 x9 x10 x11 => (some (q8, 0))) N q6 p1 p2 0)))) zz.1 zz.2)) else none)
set_option maxRecDepth 20000 in
set_option maxHeartbeats 4000000 in
theorem k_X11_tryOut {G : ky_GW} {d : Nat} {h : ky_HP} {Q : ky_RS → ky_HP → Prop} {s s9 : sk_S} {r9 : Int32} {a : Nat} {p1 : Int32} {p2 : Int32} (N : Nat) (hG : ky_OK G)   (hm : sk_hp G s h)  (e : x11_tryOut N  s a p1 p2 = some (s9, r9)) (hr : ∀ h1, sk_hp G s9 h1 → sk_fr none s h s9 h1 → Q (.inl none) h1) : ky_Call G (d + 4) M_X11_tryOut [.ref a, .int p1, .int p2] h Q := by
  refine ky_ofV (by decide +kernel) rfl ok_X11_tryOut (Nat.le_of_ble_eq_true rfl) ?_
  have fr : sk_fr none s h s h := sk_fr.rf
  unfold x11_tryOut at e
  refine (?_ : ky_V _ _ _ 0 [(0, .ref a), (1, .int p1), (2, .int p2)] [] _ _)
  obtain ⟨za, e⟩ := ky_chkE e
  refine v_aload_n (i := 0) (j := 0) rfl rfl (?_ : ky_V _ _ _ 1 _ _ _ _)
  refine gf_X11_44 rfl (i := 1) rfl (oc_X11 hm (ly_X11_c za)) (sk_rf (ly_X11_r5 za)) (?_ : ky_V _ _ _ 4 _ (.ref (a + 23) :: _) _ _)
  refine v_aload_n (i := 2) (j := 0) rfl rfl (?_ : ky_V _ _ _ 5 _ _ _ _)
  refine gf_X11_33 rfl (i := 3) rfl (oc_X11 hm (ly_X11_c za)) (sk_rf (ly_X11_r3 za)) (?_ : ky_V _ _ _ 8 _ (.ref (a + 12) :: _) _ _)
  refine gf_X11_191 rfl (i := 4) rfl (oc_X7 hm (ly_X7_c (ly_X11_l3 za))) (sk_rf (ly_X7_r0 (ly_X11_l3 za))) (?_ : ky_V _ _ _ 11 _ (.ref (a + 13) :: _) _ _)
  obtain ⟨⟨q2, x3⟩, g4, e⟩ := Option.bind_eq_some_iff.mp e
  refine cl_X11_457 (As := [.ref ((a + 13))]) rfl (i := 5) rfl (oc_X1 hm (ly_X1_c (ly_X11_l5 za))) rfl rfl (Nat.le_of_ble_eq_true rfl) (k_X1_become N hG hm g4 (fun h1 hmh1 frh1 => ⟨_, rfl, (?_ : ky_V _ _ _ 14 _ [] _ _)⟩))
  have frh1 := fr.tr frh1
  refine v_aload_n (i := 6) (j := 0) rfl rfl (?_ : ky_V _ _ _ 15 _ _ _ _)
  refine gf_X11_44 rfl (i := 7) rfl (oc_X11 hmh1 (ly_X11_c (lt_X11 frh1 za))) (sk_rf (ly_X11_r5 (lt_X11 frh1 za))) (?_ : ky_V _ _ _ 18 _ (.ref (a + 23) :: _) _ _)
  refine v_iload_n (i := 8) (j := 2) rfl rfl (?_ : ky_V _ _ _ 19 _ _ _ _)
  refine pf_X11_376 rfl (i := 9) rfl (oc_X1 hmh1 (ly_X1_c (ly_X11_l5 (lt_X11 frh1 za)))) (Nat.le_of_ble_eq_true rfl) rfl rfl ?_
  refine sk_stc (kd := 1) (n := 0) hmh1 frh1 (ly_X1_c (ly_X11_l5 (lt_X11 frh1 za))) 7 p2 (fun h5 hmh5 frh5 => ?_)
  obtain ⟨q6, eq6⟩ : ∃ z, z = (sk_wc q2 (a + 23) 7 p2) := ⟨_, rfl⟩
  rw [← eq6] at hmh5 frh5
  replace e := ky_letE eq6 e
  refine (?_ : ky_V _ _ _ 22 _ _ _ _)
  refine v_iconst (v := 0) (i := 10) rfl (by decide) (?_ : ky_V _ _ _ 23 _ _ _ _)
  refine v_istore_n (L' := [(0, .ref a), (1, .int p1), (2, .int p2), (3, .int 0)]) [1, 2, 3, 0] (i := 11) rfl (Nat.le_of_ble_eq_true rfl) rfl (?_ : ky_V _ _ _ 24 _ _ _ _)
  refine lv_X11_tryOut_24 N hG a za hm _ hr (fun h7 q8 x9 x10 x11 hmh7 frh7 e => ?_) N h5 q6 p1 p2 0 hmh5 frh5 e
  refine v_vret (i := 35) rfl rfl ?_
  obtain ⟨rfl, rfl⟩ := ky_leaf e
  exact hr _ hmh7 frh7

def x11_span_L38 (N : Nat)  (a : Nat) (k : sk_S → Int32 → Int32 → Int32 → Int32 → Option (sk_S × ky_RS)) : Nat → sk_S → Int32 → Int32 → Int32 → Int32 → Option (sk_S × ky_RS)
  | 0, _, _, _, _, _ => none
  | n + 1, c, p1, p2, p3, p4 => (if (6 : Int32) < p4 then (k c p1 p2 p3 p4) else ((x11_tryOut N c a p1 p4).bind (fun zz => (fun q3 x4 => (ky_let (po_together (sk_c q3 (a + 23) 0)) (fun x6 => (if p2 = 0 then (ky_let (mt_min p3 x6) (fun x8 => (ky_let (p4 + 1) (fun x9 => (x11_span_L38 N a k n q3 p1 p2 x8 x9))))) else (ky_let (mt_max p3 x6) (fun x10 => (ky_let (p4 + 1) (fun x11 => (x11_span_L38 N a k n q3 p1 p2 x10 x11))))))))) zz.1 zz.2)))
set_option maxRecDepth 20000 in
set_option maxHeartbeats 4000000 in
theorem lv_X11_span_38 {G : ky_GW} {d : Nat} {s s9 : sk_S} {h0 : ky_HP} {Q : ky_RS → ky_HP → Prop} {r9 : ky_RS} (N : Nat) (hG : ky_OK G)  (a : Nat)   (za : lay_X11 (sk_K s) (sk_r s) a = true) (hm : sk_hp G s h0) (k : sk_S → Int32 → Int32 → Int32 → Int32 → Option (sk_S × ky_RS)) (hr : ∀ h1, sk_hp G s9 h1 → sk_fr none s h0 s9 h1 → Q r9 h1)
    (hk : ∀ (h : ky_HP) (c : sk_S) (p1 : Int32) (p2 : Int32) (p3 : Int32) (p4 : Int32), sk_hp G c h → sk_fr none s h0 c h → k c p1 p2 p3 p4 = some (s9, r9) → ky_V G (d + 6) M_X11_span 90 [(0, .ref a), (1, .int p1), (2, .int p2), (3, .int p3), (4, .int p4)] [] h Q) :
    ∀ (n : Nat) (h : ky_HP) (c : sk_S) (p1 : Int32) (p2 : Int32) (p3 : Int32) (p4 : Int32), sk_hp G c h → sk_fr none s h0 c h → x11_span_L38 N a k n c p1 p2 p3 p4 = some (s9, r9) → ky_V G (d + 6) M_X11_span 38 [(0, .ref a), (1, .int p1), (2, .int p2), (3, .int p3), (4, .int p4)] [] h Q := by
  intro n
  induction n with
  | zero => intro h c p1 p2 p3 p4 hm1 fr e; cases e
  | succ n ih =>
    intro h c p1 p2 p3 p4 hm1 fr e
    rw [x11_span_L38] at e
    refine v_iload (i := 19) (j := 4) rfl rfl (?_ : ky_V _ _ _ 40 _ _ _ _)
    refine v_bipush (v := 6) (i := 20) rfl (by decide) (?_ : ky_V _ _ _ 42 _ _ _ _)
    refine v_icmp_gt (tgt := 90) (i := 21) rfl (by decide) (fun c1 => ?_) (fun c1 => ?_)
    · replace e := ky_ifT c1 e
      exact hk h c p1 p2 p3 p4 hm1 fr e
    · replace e := ky_ifF c1 e
      refine v_aload_n (i := 22) (j := 0) rfl rfl (?_ : ky_V _ _ _ 46 _ _ _ _)
      refine v_iload_n (i := 23) (j := 1) rfl rfl (?_ : ky_V _ _ _ 47 _ _ _ _)
      refine v_iload (i := 24) (j := 4) rfl rfl (?_ : ky_V _ _ _ 49 _ _ _ _)
      obtain ⟨⟨q3, x4⟩, g5, e⟩ := Option.bind_eq_some_iff.mp e
      refine cl_X11_379 (As := [.int p1, .int p4]) rfl (i := 25) rfl (oc_X11 hm1 (ly_X11_c (lt_X11 fr za))) rfl rfl (Nat.le_of_ble_eq_true rfl) (k_X11_tryOut N hG hm1 g5 (fun h2 hmh2 frh2 => ⟨_, rfl, (?_ : ky_V _ _ _ 52 _ [] _ _)⟩))
      have frh2 := fr.tr frh2
      refine v_aload_n (i := 26) (j := 0) rfl rfl (?_ : ky_V _ _ _ 53 _ _ _ _)
      refine gf_X11_44 rfl (i := 27) rfl (oc_X11 hmh2 (ly_X11_c (lt_X11 frh2 za))) (sk_rf (ly_X11_r5 (lt_X11 frh2 za))) (?_ : ky_V _ _ _ 56 _ (.ref (a + 23) :: _) _ _)
      refine gf_X11_209 rfl (i := 28) rfl (oc_X1 hmh2 (ly_X1_c (ly_X11_l5 (lt_X11 frh2 za)))) rfl (?_ : ky_V _ _ _ 59 _ _ _ _)
      refine cl_X11_212 (As := [.int ((sk_c q3 (a + 23) 0))]) rfl (i := 29) rfl rfl rfl (Nat.le_of_ble_eq_true rfl) (k_X5_together (sk_c q3 (a + 23) 0) ⟨_, rfl, (?_ : ky_V _ _ _ 62 _ [.int ((po_together (sk_c q3 (a + 23) 0)))] _ _)⟩)
      refine v_topi (fun x6 ex6 => ?_)
      replace e := ky_letE ex6 e
      refine v_istore (L' := [(0, .ref a), (1, .int p1), (2, .int p2), (3, .int p3), (4, .int p4), (5, .int x6)]) [1, 2, 3, 4, 5, 0] (i := 30) rfl (Nat.le_of_ble_eq_true rfl) rfl (?_ : ky_V _ _ _ 64 _ _ _ _)
      refine v_iload_n (i := 31) (j := 2) rfl rfl (?_ : ky_V _ _ _ 65 _ _ _ _)
      refine v_if_eq (tgt := 77) (i := 32) rfl (by decide) (fun c7 => ?_) (fun c7 => ?_)
      · replace e := ky_ifT c7 e
        refine v_iload_n (i := 37) (j := 3) rfl rfl (?_ : ky_V _ _ _ 78 _ _ _ _)
        refine v_iload (i := 38) (j := 5) rfl rfl (?_ : ky_V _ _ _ 80 _ _ _ _)
        refine cl_X11_387 rfl (i := 39) rfl (Nat.le_of_ble_eq_true rfl) (?_ : ky_V _ _ _ 83 _ _ _ _)
        refine v_topi (fun x8 ex8 => ?_)
        replace e := ky_letE ex8 e
        refine v_istore_n (L' := [(0, .ref a), (1, .int p1), (2, .int p2), (3, .int x8), (4, .int p4), (5, .int x6)]) [1, 2, 3, 0, 4, 5] (i := 40) rfl (Nat.le_of_ble_eq_true rfl) rfl (?_ : ky_V _ _ _ 84 _ _ _ _)
        obtain ⟨x9, ex9⟩ : ∃ z : Int32, z = p4 + 1 := ⟨_, rfl⟩
        replace e := ky_letE ex9 e
        refine v_iinc (v := x9) (j := 4) (L' := [(0, .ref a), (1, .int p1), (2, .int p2), (3, .int x8), (4, .int x9), (5, .int x6)]) [1, 2, 3, 4, 0, 5] (i := 41) rfl rfl (by rw [ex9]; rfl) (Nat.le_of_ble_eq_true rfl) rfl (?_ : ky_V _ _ _ 87 _ _ _ _)
        refine v_goto (tgt := 38) (i := 42) rfl (by decide) (?_ : ky_V _ _ _ 38 _ _ _ _)
        refine ky_loc (L' := [(0, .ref a), (1, .int p1), (2, .int p2), (3, .int x8), (4, .int x9)]) (by simp) ?_
        exact ih h2 q3 p1 p2 x8 x9 hmh2 frh2 e
      · replace e := ky_ifF c7 e
        refine v_iload_n (i := 33) (j := 3) rfl rfl (?_ : ky_V _ _ _ 69 _ _ _ _)
        refine v_iload (i := 34) (j := 5) rfl rfl (?_ : ky_V _ _ _ 71 _ _ _ _)
        refine cl_X11_382 rfl (i := 35) rfl (Nat.le_of_ble_eq_true rfl) (?_ : ky_V _ _ _ 74 _ _ _ _)
        refine v_goto (tgt := 83) (i := 36) rfl (by decide) (?_ : ky_V _ _ _ 83 _ _ _ _)
        refine v_topi (fun x10 ex10 => ?_)
        replace e := ky_letE ex10 e
        refine v_istore_n (L' := [(0, .ref a), (1, .int p1), (2, .int p2), (3, .int x10), (4, .int p4), (5, .int x6)]) [1, 2, 3, 0, 4, 5] (i := 40) rfl (Nat.le_of_ble_eq_true rfl) rfl (?_ : ky_V _ _ _ 84 _ _ _ _)
        obtain ⟨x11, ex11⟩ : ∃ z : Int32, z = p4 + 1 := ⟨_, rfl⟩
        replace e := ky_letE ex11 e
        refine v_iinc (v := x11) (j := 4) (L' := [(0, .ref a), (1, .int p1), (2, .int p2), (3, .int x10), (4, .int x11), (5, .int x6)]) [1, 2, 3, 4, 0, 5] (i := 41) rfl rfl (by rw [ex11]; rfl) (Nat.le_of_ble_eq_true rfl) rfl (?_ : ky_V _ _ _ 87 _ _ _ _)
        refine v_goto (tgt := 38) (i := 42) rfl (by decide) (?_ : ky_V _ _ _ 38 _ _ _ _)
        refine ky_loc (L' := [(0, .ref a), (1, .int p1), (2, .int p2), (3, .int x10), (4, .int x11)]) (by simp) ?_
        exact ih h2 q3 p1 p2 x10 x11 hmh2 frh2 e

def x11_span (N : Nat)  (s : sk_S) (a : Nat) (p1 : Int32) (p2 : Int32) : Option (sk_S × ky_RS) := (if lay_X11 (sk_K s) (sk_r s) a = true then (if (ws_isTrial p1) = 0 then (some ((sk_rs s 6), (.inr "java/lang/IllegalArgumentException"))) else ((x11_tryOut N s a p1 1).bind (fun zz => (fun q3 x4 => (ky_let (po_together (sk_c q3 (a + 23) 0)) (fun x6 => (x11_span_L38 N a (fun q8 x9 x10 x11 x12 => (some (q8, (.inl (some (.int x11)))))) N q3 p1 p2 x6 2)))) zz.1 zz.2))) else none)
set_option maxRecDepth 20000 in
set_option maxHeartbeats 4000000 in
theorem k_X11_span {G : ky_GW} {d : Nat} {h : ky_HP} {Q : ky_RS → ky_HP → Prop} {s s9 : sk_S} {r9 : ky_RS} {a : Nat} {p1 : Int32} {p2 : Int32} (N : Nat) (hG : ky_OK G)   (hm : sk_hp G s h)  (e : x11_span N  s a p1 p2 = some (s9, r9)) (hr : ∀ h1, sk_hp G s9 h1 → sk_fr none s h s9 h1 → Q r9 h1) : ky_Call G (d + 6) M_X11_span [.ref a, .int p1, .int p2] h Q := by
  refine ky_ofV (by decide +kernel) rfl ok_X11_span (Nat.le_of_ble_eq_true rfl) ?_
  have fr : sk_fr none s h s h := sk_fr.rf
  unfold x11_span at e
  refine (?_ : ky_V _ _ _ 0 [(0, .ref a), (1, .int p1), (2, .int p2)] [] _ _)
  obtain ⟨za, e⟩ := ky_chkE e
  refine v_iload_n (i := 0) (j := 1) rfl rfl (?_ : ky_V _ _ _ 1 _ _ _ _)
  refine cl_X11_373 (As := [.int p1]) rfl (i := 1) rfl rfl rfl (Nat.le_of_ble_eq_true rfl) (k_X11_isTrial p1 ⟨_, rfl, (?_ : ky_V _ _ _ 4 _ [.int ((ws_isTrial p1))] _ _)⟩)
  refine v_if_ne (tgt := 18) (i := 2) rfl (by decide) (fun c1 => ?_) (fun c1 => ?_)
  · replace e := ky_ifF c1 e
    refine v_aload_n (i := 8) (j := 0) rfl rfl (?_ : ky_V _ _ _ 19 _ _ _ _)
    refine v_iload_n (i := 9) (j := 1) rfl rfl (?_ : ky_V _ _ _ 20 _ _ _ _)
    refine v_iconst (v := 1) (i := 10) rfl (by decide) (?_ : ky_V _ _ _ 21 _ _ _ _)
    obtain ⟨⟨q3, x4⟩, g5, e⟩ := Option.bind_eq_some_iff.mp e
    refine cl_X11_379 (As := [.int p1, .int 1]) rfl (i := 11) rfl (oc_X11 hm (ly_X11_c za)) rfl rfl (Nat.le_of_ble_eq_true rfl) (k_X11_tryOut N hG hm g5 (fun h2 hmh2 frh2 => ⟨_, rfl, (?_ : ky_V _ _ _ 24 _ [] _ _)⟩))
    have frh2 := fr.tr frh2
    refine v_aload_n (i := 12) (j := 0) rfl rfl (?_ : ky_V _ _ _ 25 _ _ _ _)
    refine gf_X11_44 rfl (i := 13) rfl (oc_X11 hmh2 (ly_X11_c (lt_X11 frh2 za))) (sk_rf (ly_X11_r5 (lt_X11 frh2 za))) (?_ : ky_V _ _ _ 28 _ (.ref (a + 23) :: _) _ _)
    refine gf_X11_209 rfl (i := 14) rfl (oc_X1 hmh2 (ly_X1_c (ly_X11_l5 (lt_X11 frh2 za)))) rfl (?_ : ky_V _ _ _ 31 _ _ _ _)
    refine cl_X11_212 (As := [.int ((sk_c q3 (a + 23) 0))]) rfl (i := 15) rfl rfl rfl (Nat.le_of_ble_eq_true rfl) (k_X5_together (sk_c q3 (a + 23) 0) ⟨_, rfl, (?_ : ky_V _ _ _ 34 _ [.int ((po_together (sk_c q3 (a + 23) 0)))] _ _)⟩)
    refine v_topi (fun x6 ex6 => ?_)
    replace e := ky_letE ex6 e
    refine v_istore_n (L' := [(0, .ref a), (1, .int p1), (2, .int p2), (3, .int x6)]) [1, 2, 3, 0] (i := 16) rfl (Nat.le_of_ble_eq_true rfl) rfl (?_ : ky_V _ _ _ 35 _ _ _ _)
    refine v_iconst (v := 2) (i := 17) rfl (by decide) (?_ : ky_V _ _ _ 36 _ _ _ _)
    refine v_istore (L' := [(0, .ref a), (1, .int p1), (2, .int p2), (3, .int x6), (4, .int 2)]) [1, 2, 3, 4, 0] (i := 18) rfl (Nat.le_of_ble_eq_true rfl) rfl (?_ : ky_V _ _ _ 38 _ _ _ _)
    refine lv_X11_span_38 N hG a za hm _ hr (fun h7 q8 x9 x10 x11 x12 hmh7 frh7 e => ?_) N h2 q3 p1 p2 x6 2 hmh2 frh2 e
    refine v_iload_n (i := 43) (j := 3) rfl rfl (?_ : ky_V _ _ _ 91 _ _ _ _)
    refine v_iret (v := x11) (ty := .int) (i := 44) rfl rfl rfl ?_
    obtain ⟨rfl, rfl⟩ := ky_leaf e
    exact hr _ hmh7 frh7
  · replace e := ky_ifT c1 e
    obtain ⟨s13, hvs13, -⟩ := sg_X11_261 hG
    refine v_throwSW (i0 := 3) (i1 := 4) (i2 := 5) (i3 := 6) (i4 := 7) te_X11_80_84 ky_ts hG hvs13 rfl rfl rfl rfl rfl rfl (Nat.le_of_ble_eq_true rfl) ?_
    obtain ⟨rfl, rfl⟩ := ky_leaf e
    exact hr _ (sk_hpJ hm) (sk_frJ hm fr)

def x11_led (N : Nat)  (s : sk_S) (a : Nat) (p1 : Int32) (p2 : Int32) : Option (sk_S × ky_RS) := (if lay_X11 (sk_K s) (sk_r s) a = true then (if p1 < 0 then (some ((sk_rs s 6), (.inr "java/lang/IndexOutOfBoundsException"))) else (if p1 ≤ (2 : Int32) then (if p2 = 0 then ((x2_rowsOf N s (a + 20) p1).bind (fun zz => (fun q6 x7 => (some (q6, (.inl (some (.int x7)))))) zz.1 zz.2)) else ((x2_latestMoveOf N s (a + 20) p1).bind (fun zz => (fun q10 x11 => (some (q10, (.inl (some (.int x11)))))) zz.1 zz.2))) else (some ((sk_rs s 6), (.inr "java/lang/IndexOutOfBoundsException"))))) else none)
set_option maxRecDepth 20000 in
set_option maxHeartbeats 4000000 in
theorem k_X11_led {G : ky_GW} {d : Nat} {h : ky_HP} {Q : ky_RS → ky_HP → Prop} {s s9 : sk_S} {r9 : ky_RS} {a : Nat} {p1 : Int32} {p2 : Int32} (N : Nat) (hG : ky_OK G)   (hm : sk_hp G s h)  (e : x11_led N  s a p1 p2 = some (s9, r9)) (hr : ∀ h1, sk_hp G s9 h1 → sk_fr none s h s9 h1 → Q r9 h1) : ky_Call G (d + 6) M_X11_led [.ref a, .int p1, .int p2] h Q := by
  refine ky_ofV (by decide +kernel) rfl ok_X11_led (Nat.le_of_ble_eq_true rfl) ?_
  have fr : sk_fr none s h s h := sk_fr.rf
  unfold x11_led at e
  refine (?_ : ky_V _ _ _ 0 [(0, .ref a), (1, .int p1), (2, .int p2)] [] _ _)
  obtain ⟨za, e⟩ := ky_chkE e
  refine v_iload_n (i := 0) (j := 1) rfl rfl (?_ : ky_V _ _ _ 1 _ _ _ _)
  refine v_if_lt (tgt := 9) (i := 1) rfl (by decide) (fun c1 => ?_) (fun c1 => ?_)
  · replace e := ky_ifT c1 e
    obtain ⟨s2, hvs2, -⟩ := sg_X11_390 hG
    refine v_throwSW (i0 := 5) (i1 := 6) (i2 := 7) (i3 := 8) (i4 := 9) te_X11_128_132 ky_ts hG hvs2 rfl rfl rfl rfl rfl rfl (Nat.le_of_ble_eq_true rfl) ?_
    obtain ⟨rfl, rfl⟩ := ky_leaf e
    exact hr _ (sk_hpJ hm) (sk_frJ hm fr)
  · replace e := ky_ifF c1 e
    refine v_iload_n (i := 2) (j := 1) rfl rfl (?_ : ky_V _ _ _ 5 _ _ _ _)
    refine v_iconst (v := 2) (i := 3) rfl (by decide) (?_ : ky_V _ _ _ 6 _ _ _ _)
    refine v_icmp_le (tgt := 20) (i := 4) rfl (by decide) (fun c3 => ?_) (fun c3 => ?_)
    · replace e := ky_ifT c3 e
      refine v_iload_n (i := 10) (j := 2) rfl rfl (?_ : ky_V _ _ _ 21 _ _ _ _)
      refine v_if_eq (tgt := 38) (i := 11) rfl (by decide) (fun c4 => ?_) (fun c4 => ?_)
      · replace e := ky_ifT c4 e
        refine v_aload_n (i := 18) (j := 0) rfl rfl (?_ : ky_V _ _ _ 39 _ _ _ _)
        refine gf_X11_33 rfl (i := 19) rfl (oc_X11 hm (ly_X11_c za)) (sk_rf (ly_X11_r3 za)) (?_ : ky_V _ _ _ 42 _ (.ref (a + 12) :: _) _ _)
        refine gf_X11_392 rfl (i := 20) rfl (oc_X7 hm (ly_X7_c (ly_X11_l3 za))) (sk_rf (ly_X7_r3 (ly_X11_l3 za))) (?_ : ky_V _ _ _ 45 _ (.ref (a + 20) :: _) _ _)
        refine v_iload_n (i := 21) (j := 1) rfl rfl (?_ : ky_V _ _ _ 46 _ _ _ _)
        obtain ⟨⟨q6, x7⟩, g8, e⟩ := Option.bind_eq_some_iff.mp e
        refine cl_X11_401 (As := [.int p1]) rfl (i := 22) rfl (oc_X2 hm (ly_X2_c (ly_X7_l3 (ly_X11_l3 za)))) rfl rfl (Nat.le_of_ble_eq_true rfl) (k_X2_rowsOf N hG hm g8 (fun h5 hmh5 frh5 => ⟨_, rfl, (?_ : ky_V _ _ _ 49 _ [.int x7] _ _)⟩))
        have frh5 := fr.tr frh5
        refine v_iret (v := x7) (ty := .int) (i := 23) rfl rfl rfl ?_
        obtain ⟨rfl, rfl⟩ := ky_leaf e
        exact hr _ hmh5 frh5
      · replace e := ky_ifF c4 e
        refine v_aload_n (i := 12) (j := 0) rfl rfl (?_ : ky_V _ _ _ 25 _ _ _ _)
        refine gf_X11_33 rfl (i := 13) rfl (oc_X11 hm (ly_X11_c za)) (sk_rf (ly_X11_r3 za)) (?_ : ky_V _ _ _ 28 _ (.ref (a + 12) :: _) _ _)
        refine gf_X11_392 rfl (i := 14) rfl (oc_X7 hm (ly_X7_c (ly_X11_l3 za))) (sk_rf (ly_X7_r3 (ly_X11_l3 za))) (?_ : ky_V _ _ _ 31 _ (.ref (a + 20) :: _) _ _)
        refine v_iload_n (i := 15) (j := 1) rfl rfl (?_ : ky_V _ _ _ 32 _ _ _ _)
        obtain ⟨⟨q10, x11⟩, g12, e⟩ := Option.bind_eq_some_iff.mp e
        refine cl_X11_396 (As := [.int p1]) rfl (i := 16) rfl (oc_X2 hm (ly_X2_c (ly_X7_l3 (ly_X11_l3 za)))) rfl rfl (Nat.le_of_ble_eq_true rfl) (k_X2_latestMoveOf N hG hm g12 (fun h9 hmh9 frh9 => ⟨_, rfl, (?_ : ky_V _ _ _ 35 _ [.int x11] _ _)⟩))
        have frh9 := fr.tr frh9
        refine v_goto (tgt := 49) (i := 17) rfl (by decide) (?_ : ky_V _ _ _ 49 _ _ _ _)
        refine v_iret (v := x11) (ty := .int) (i := 23) rfl rfl rfl ?_
        obtain ⟨rfl, rfl⟩ := ky_leaf e
        exact hr _ hmh9 frh9
    · replace e := ky_ifF c3 e
      obtain ⟨s13, hvs13, -⟩ := sg_X11_390 hG
      refine v_throwSW (i0 := 5) (i1 := 6) (i2 := 7) (i3 := 8) (i4 := 9) te_X11_128_132 ky_ts hG hvs13 rfl rfl rfl rfl rfl rfl (Nat.le_of_ble_eq_true rfl) ?_
      obtain ⟨rfl, rfl⟩ := ky_leaf e
      exact hr _ (sk_hpJ hm) (sk_frJ hm fr)

def x11_log (N : Nat)  (s : sk_S) (a : Nat) (p1 : Int32) (p2 : Int32) : Option (sk_S × ky_RS) := (if lay_X11 (sk_K s) (sk_r s) a = true then (if p2 < 0 then (some ((sk_rs s 6), (.inr "java/util/NoSuchElementException"))) else (if p2 ≤ (4 : Int32) then (if p1 < 0 then (some (s, (.inl (some (.int (-1)))))) else (if p1 < (sk_c s (a + 20) 2) then ((x2_row N s (a + 20) p1).bind (fun zz => (fun q7 x8 => ((x2_part N q7 x8 p2).bind (fun zz => (fun q11 x12 => (some (q11, (.inl (some (.int x12)))))) zz.1 zz.2))) zz.1 zz.2)) else (some (s, (.inl (some (.int (-1)))))))) else (some ((sk_rs s 6), (.inr "java/util/NoSuchElementException"))))) else none)
set_option maxRecDepth 20000 in
set_option maxHeartbeats 4000000 in
theorem k_X11_log {G : ky_GW} {d : Nat} {h : ky_HP} {Q : ky_RS → ky_HP → Prop} {s s9 : sk_S} {r9 : ky_RS} {a : Nat} {p1 : Int32} {p2 : Int32} (N : Nat) (hG : ky_OK G)   (hm : sk_hp G s h)  (e : x11_log N  s a p1 p2 = some (s9, r9)) (hr : ∀ h1, sk_hp G s9 h1 → sk_fr none s h s9 h1 → Q r9 h1) : ky_Call G (d + 6) M_X11_log [.ref a, .int p1, .int p2] h Q := by
  refine ky_ofV (by decide +kernel) rfl ok_X11_log (Nat.le_of_ble_eq_true rfl) ?_
  have fr : sk_fr none s h s h := sk_fr.rf
  unfold x11_log at e
  refine (?_ : ky_V _ _ _ 0 [(0, .ref a), (1, .int p1), (2, .int p2)] [] _ _)
  obtain ⟨za, e⟩ := ky_chkE e
  refine v_iload_n (i := 0) (j := 2) rfl rfl (?_ : ky_V _ _ _ 1 _ _ _ _)
  refine v_if_lt (tgt := 9) (i := 1) rfl (by decide) (fun c1 => ?_) (fun c1 => ?_)
  · replace e := ky_ifT c1 e
    obtain ⟨s2, hvs2, -⟩ := sg_X11_135 hG
    refine v_throwN (rx := prog_35_method_4_code) (i0 := 5) (i1 := 6) (i2 := 7) (i3 := 8) (i4 := 9) (by decide +kernel) (by decide +kernel) (by decide +kernel) (by decide +kernel) tn_X11_133_137 ky_ts hG hvs2 rfl rfl rfl rfl rfl rfl (Nat.le_of_ble_eq_true rfl) ?_
    obtain ⟨rfl, rfl⟩ := ky_leaf e
    exact hr _ (sk_hpJ hm) (sk_frJ hm fr)
  · replace e := ky_ifF c1 e
    refine v_iload_n (i := 2) (j := 2) rfl rfl (?_ : ky_V _ _ _ 5 _ _ _ _)
    refine v_iconst (v := 4) (i := 3) rfl (by decide) (?_ : ky_V _ _ _ 6 _ _ _ _)
    refine v_icmp_le (tgt := 19) (i := 4) rfl (by decide) (fun c3 => ?_) (fun c3 => ?_)
    · replace e := ky_ifT c3 e
      refine v_iload_n (i := 10) (j := 1) rfl rfl (?_ : ky_V _ _ _ 20 _ _ _ _)
      refine v_if_lt (tgt := 37) (i := 11) rfl (by decide) (fun c4 => ?_) (fun c4 => ?_)
      · replace e := ky_ifT c4 e
        refine v_iconst (v := (-1)) (i := 18) rfl (by decide) (?_ : ky_V _ _ _ 38 _ _ _ _)
        refine v_iret (v := (-1)) (ty := .int) (i := 19) rfl rfl rfl ?_
        obtain ⟨rfl, rfl⟩ := ky_leaf e
        exact hr _ hm fr
      · replace e := ky_ifF c4 e
        refine v_iload_n (i := 12) (j := 1) rfl rfl (?_ : ky_V _ _ _ 24 _ _ _ _)
        refine v_aload_n (i := 13) (j := 0) rfl rfl (?_ : ky_V _ _ _ 25 _ _ _ _)
        refine gf_X11_33 rfl (i := 14) rfl (oc_X11 hm (ly_X11_c za)) (sk_rf (ly_X11_r3 za)) (?_ : ky_V _ _ _ 28 _ (.ref (a + 12) :: _) _ _)
        refine gf_X11_392 rfl (i := 15) rfl (oc_X7 hm (ly_X7_c (ly_X11_l3 za))) (sk_rf (ly_X7_r3 (ly_X11_l3 za))) (?_ : ky_V _ _ _ 31 _ (.ref (a + 20) :: _) _ _)
        refine gf_X11_404 rfl (i := 16) rfl (oc_X2 hm (ly_X2_c (ly_X7_l3 (ly_X11_l3 za)))) rfl (?_ : ky_V _ _ _ 34 _ _ _ _)
        refine v_icmp_lt (tgt := 39) (i := 17) rfl (by decide) (fun c5 => ?_) (fun c5 => ?_)
        · replace e := ky_ifT c5 e
          refine v_aload_n (i := 20) (j := 0) rfl rfl (?_ : ky_V _ _ _ 40 _ _ _ _)
          refine gf_X11_33 rfl (i := 21) rfl (oc_X11 hm (ly_X11_c za)) (sk_rf (ly_X11_r3 za)) (?_ : ky_V _ _ _ 43 _ (.ref (a + 12) :: _) _ _)
          refine gf_X11_392 rfl (i := 22) rfl (oc_X7 hm (ly_X7_c (ly_X11_l3 za))) (sk_rf (ly_X7_r3 (ly_X11_l3 za))) (?_ : ky_V _ _ _ 46 _ (.ref (a + 20) :: _) _ _)
          refine v_iload_n (i := 23) (j := 1) rfl rfl (?_ : ky_V _ _ _ 47 _ _ _ _)
          obtain ⟨⟨q7, x8⟩, g9, e⟩ := Option.bind_eq_some_iff.mp e
          refine cl_X11_407 (As := [.int p1]) rfl (i := 24) rfl (oc_X2 hm (ly_X2_c (ly_X7_l3 (ly_X11_l3 za)))) rfl rfl (Nat.le_of_ble_eq_true rfl) (k_X2_row N hG hm g9 (fun h6 hmh6 frh6 => ⟨_, rfl, (?_ : ky_V _ _ _ 50 _ [.int x8] _ _)⟩))
          have frh6 := fr.tr frh6
          refine v_iload_n (i := 25) (j := 2) rfl rfl (?_ : ky_V _ _ _ 51 _ _ _ _)
          obtain ⟨⟨q11, x12⟩, g13, e⟩ := Option.bind_eq_some_iff.mp e
          refine cl_X11_410 (As := [.int x8, .int p2]) rfl (i := 26) rfl rfl rfl (Nat.le_of_ble_eq_true rfl) (k_X2_part N hG hmh6 g13 (fun h10 hmh10 frh10 => ⟨_, rfl, (?_ : ky_V _ _ _ 54 _ [.int x12] _ _)⟩))
          have frh10 := frh6.tr frh10
          refine v_iret (v := x12) (ty := .int) (i := 27) rfl rfl rfl ?_
          obtain ⟨rfl, rfl⟩ := ky_leaf e
          exact hr _ hmh10 frh10
        · replace e := ky_ifF c5 e
          refine v_iconst (v := (-1)) (i := 18) rfl (by decide) (?_ : ky_V _ _ _ 38 _ _ _ _)
          refine v_iret (v := (-1)) (ty := .int) (i := 19) rfl rfl rfl ?_
          obtain ⟨rfl, rfl⟩ := ky_leaf e
          exact hr _ hm fr
    · replace e := ky_ifF c3 e
      obtain ⟨s14, hvs14, -⟩ := sg_X11_135 hG
      refine v_throwN (rx := prog_35_method_4_code) (i0 := 5) (i1 := 6) (i2 := 7) (i3 := 8) (i4 := 9) (by decide +kernel) (by decide +kernel) (by decide +kernel) (by decide +kernel) tn_X11_133_137 ky_ts hG hvs14 rfl rfl rfl rfl rfl rfl (Nat.le_of_ble_eq_true rfl) ?_
      obtain ⟨rfl, rfl⟩ := ky_leaf e
      exact hr _ (sk_hpJ hm) (sk_frJ hm fr)

def x12_init_L141 (N : Nat)  (a : Nat) (k : sk_S → Int32 → Option (sk_S × Int32)) : Nat → sk_S → Int32 → Option (sk_S × Int32)
  | 0, _, _ => none
  | n + 1, c, p1 => (if (7 : Int32) ≤ p1 then (k c p1) else (ky_om (sk_r c a 1) none (fun l2 => (if (sk_K c l2).1 = 21 then (if ky_inB ((17 + (4 * p1)) + 3) (sk_K c l2).2 = true then (ky_let (sk_wc c l2 (Int32.toNatClampNeg ((17 + (4 * p1)) + 3)) 1) (fun q7 => (ky_let (p1 + 1) (fun x8 => (x12_init_L141 N a k n q7 x8))))) else none) else none))))
set_option maxRecDepth 20000 in
set_option maxHeartbeats 4000000 in
theorem lv_X12_init_141 {G : ky_GW} {d : Nat} {s s9 : sk_S} {h0 : ky_HP} {Q : ky_RS → ky_HP → Prop} {r9 : Int32} (N : Nat) (hG : ky_OK G)  (a : Nat)   (z0 : sk_K s a = (12, 0)) (hm : sk_hp G s h0) (k : sk_S → Int32 → Option (sk_S × Int32)) (hr : ∀ h1, sk_hp G s9 h1 → sk_fr (some a) s h0 s9 h1 → Q (.inl none) h1)
    (hk : ∀ (h : ky_HP) (c : sk_S) (p1 : Int32), sk_hp G c h → sk_fr (some a) s h0 c h → k c p1 = some (s9, r9) → ky_V G (d + 1) M_X12_init 167 [(0, .ref a), (1, .int p1)] [] h Q) :
    ∀ (n : Nat) (h : ky_HP) (c : sk_S) (p1 : Int32), sk_hp G c h → sk_fr (some a) s h0 c h → x12_init_L141 N a k n c p1 = some (s9, r9) → ky_V G (d + 1) M_X12_init 141 [(0, .ref a), (1, .int p1)] [] h Q := by
  intro n
  induction n with
  | zero => intro h c p1 hm1 fr e; cases e
  | succ n ih =>
    intro h c p1 hm1 fr e
    rw [x12_init_L141] at e
    refine v_iload_n (i := 70) (j := 1) rfl rfl (?_ : ky_V _ _ _ 142 _ _ _ _)
    refine v_bipush (v := 7) (i := 71) rfl (by decide) (?_ : ky_V _ _ _ 144 _ _ _ _)
    refine v_icmp_ge (tgt := 167) (i := 72) rfl (by decide) (fun c1 => ?_) (fun c1 => ?_)
    · replace e := ky_ifT c1 e
      exact hk h c p1 hm1 fr e
    · replace e := ky_ifF c1 e
      refine v_aload_n (i := 73) (j := 0) rfl rfl (?_ : ky_V _ _ _ 148 _ _ _ _)
      obtain ⟨l2, y3, e⟩ := ky_omE e
      refine gf_X12_13 rfl (i := 74) rfl (oc_X12 hm1 (fr.K (k := 11) z0)) (sk_rf y3) (?_ : ky_V _ _ _ 151 _ _ _ _)
      refine v_bipush (v := 17) (i := 75) rfl (by decide) (?_ : ky_V _ _ _ 153 _ _ _ _)
      refine v_iconst (v := 4) (i := 76) rfl (by decide) (?_ : ky_V _ _ _ 154 _ _ _ _)
      refine v_iload_n (i := 77) (j := 1) rfl rfl (?_ : ky_V _ _ _ 155 _ _ _ _)
      refine v_imul (i := 78) rfl (?_ : ky_V _ _ _ 156 _ _ _ _)
      refine v_iadd (i := 79) rfl (?_ : ky_V _ _ _ 157 _ _ _ _)
      refine v_iconst (v := 3) (i := 80) rfl (by decide) (?_ : ky_V _ _ _ 158 _ _ _ _)
      refine v_iadd (i := 81) rfl (?_ : ky_V _ _ _ 159 _ _ _ _)
      refine v_iconst (v := 1) (i := 82) rfl (by decide) (?_ : ky_V _ _ _ 160 _ _ _ _)
      obtain ⟨z4, e⟩ := ky_chkE e
      obtain ⟨z5, e⟩ := ky_chkE e
      refine v_iast (i := 83) rfl (ox_21 hm1 z4) (ky_inb z5) ?_
      refine sk_stc (kd := 20) hm1 fr (sk_pr z4) (Int32.toNatClampNeg ((17 + (4 * p1)) + 3)) 1 (fun h6 hmh6 frh6 => ?_)
      obtain ⟨q7, eq7⟩ : ∃ z, z = (sk_wc c l2 (Int32.toNatClampNeg ((17 + (4 * p1)) + 3)) 1) := ⟨_, rfl⟩
      rw [← eq7] at hmh6 frh6
      replace e := ky_letE eq7 e
      refine (?_ : ky_V _ _ _ 161 _ _ _ _)
      obtain ⟨x8, ex8⟩ : ∃ z : Int32, z = p1 + 1 := ⟨_, rfl⟩
      replace e := ky_letE ex8 e
      refine v_iinc (v := x8) (j := 1) (L' := [(0, .ref a), (1, .int x8)]) [1, 0] (i := 84) rfl rfl (by rw [ex8]; rfl) (Nat.le_of_ble_eq_true rfl) rfl (?_ : ky_V _ _ _ 164 _ _ _ _)
      refine v_goto (tgt := 141) (i := 85) rfl (by decide) (?_ : ky_V _ _ _ 141 _ _ _ _)
      exact ih h6 q7 x8 hmh6 frh6 e

def x12_init_L169 (N : Nat)  (a : Nat) (k : sk_S → Int32 → Option (sk_S × Int32)) : Nat → sk_S → Int32 → Option (sk_S × Int32)
  | 0, _, _ => none
  | n + 1, c, p1 => (if (64 : Int32) ≤ p1 then (k c p1) else (ky_om (sk_r c a 1) none (fun l2 => (if (sk_K c l2).1 = 21 then (if ky_inB ((45 + (3 * p1)) + 0) (sk_K c l2).2 = true then (ky_let (sk_wc c l2 (Int32.toNatClampNeg ((45 + (3 * p1)) + 0)) 5) (fun q7 => (ky_let (p1 + 1) (fun x8 => (x12_init_L169 N a k n q7 x8))))) else none) else none))))
set_option maxRecDepth 20000 in
set_option maxHeartbeats 4000000 in
theorem lv_X12_init_169 {G : ky_GW} {d : Nat} {s s9 : sk_S} {h0 : ky_HP} {Q : ky_RS → ky_HP → Prop} {r9 : Int32} (N : Nat) (hG : ky_OK G)  (a : Nat)   (z0 : sk_K s a = (12, 0)) (hm : sk_hp G s h0) (k : sk_S → Int32 → Option (sk_S × Int32)) (hr : ∀ h1, sk_hp G s9 h1 → sk_fr (some a) s h0 s9 h1 → Q (.inl none) h1)
    (hk : ∀ (h : ky_HP) (c : sk_S) (p1 : Int32), sk_hp G c h → sk_fr (some a) s h0 c h → k c p1 = some (s9, r9) → ky_V G (d + 1) M_X12_init 195 [(0, .ref a), (1, .int p1)] [] h Q) :
    ∀ (n : Nat) (h : ky_HP) (c : sk_S) (p1 : Int32), sk_hp G c h → sk_fr (some a) s h0 c h → x12_init_L169 N a k n c p1 = some (s9, r9) → ky_V G (d + 1) M_X12_init 169 [(0, .ref a), (1, .int p1)] [] h Q := by
  intro n
  induction n with
  | zero => intro h c p1 hm1 fr e; cases e
  | succ n ih =>
    intro h c p1 hm1 fr e
    rw [x12_init_L169] at e
    refine v_iload_n (i := 88) (j := 1) rfl rfl (?_ : ky_V _ _ _ 170 _ _ _ _)
    refine v_bipush (v := 64) (i := 89) rfl (by decide) (?_ : ky_V _ _ _ 172 _ _ _ _)
    refine v_icmp_ge (tgt := 195) (i := 90) rfl (by decide) (fun c1 => ?_) (fun c1 => ?_)
    · replace e := ky_ifT c1 e
      exact hk h c p1 hm1 fr e
    · replace e := ky_ifF c1 e
      refine v_aload_n (i := 91) (j := 0) rfl rfl (?_ : ky_V _ _ _ 176 _ _ _ _)
      obtain ⟨l2, y3, e⟩ := ky_omE e
      refine gf_X12_13 rfl (i := 92) rfl (oc_X12 hm1 (fr.K (k := 11) z0)) (sk_rf y3) (?_ : ky_V _ _ _ 179 _ _ _ _)
      refine v_bipush (v := 45) (i := 93) rfl (by decide) (?_ : ky_V _ _ _ 181 _ _ _ _)
      refine v_iconst (v := 3) (i := 94) rfl (by decide) (?_ : ky_V _ _ _ 182 _ _ _ _)
      refine v_iload_n (i := 95) (j := 1) rfl rfl (?_ : ky_V _ _ _ 183 _ _ _ _)
      refine v_imul (i := 96) rfl (?_ : ky_V _ _ _ 184 _ _ _ _)
      refine v_iadd (i := 97) rfl (?_ : ky_V _ _ _ 185 _ _ _ _)
      refine v_iconst (v := 0) (i := 98) rfl (by decide) (?_ : ky_V _ _ _ 186 _ _ _ _)
      refine v_iadd (i := 99) rfl (?_ : ky_V _ _ _ 187 _ _ _ _)
      refine v_iconst (v := 5) (i := 100) rfl (by decide) (?_ : ky_V _ _ _ 188 _ _ _ _)
      obtain ⟨z4, e⟩ := ky_chkE e
      obtain ⟨z5, e⟩ := ky_chkE e
      refine v_iast (i := 101) rfl (ox_21 hm1 z4) (ky_inb z5) ?_
      refine sk_stc (kd := 20) hm1 fr (sk_pr z4) (Int32.toNatClampNeg ((45 + (3 * p1)) + 0)) 5 (fun h6 hmh6 frh6 => ?_)
      obtain ⟨q7, eq7⟩ : ∃ z, z = (sk_wc c l2 (Int32.toNatClampNeg ((45 + (3 * p1)) + 0)) 5) := ⟨_, rfl⟩
      rw [← eq7] at hmh6 frh6
      replace e := ky_letE eq7 e
      refine (?_ : ky_V _ _ _ 189 _ _ _ _)
      obtain ⟨x8, ex8⟩ : ∃ z : Int32, z = p1 + 1 := ⟨_, rfl⟩
      replace e := ky_letE ex8 e
      refine v_iinc (v := x8) (j := 1) (L' := [(0, .ref a), (1, .int x8)]) [1, 0] (i := 102) rfl rfl (by rw [ex8]; rfl) (Nat.le_of_ble_eq_true rfl) rfl (?_ : ky_V _ _ _ 192 _ _ _ _)
      refine v_goto (tgt := 169) (i := 103) rfl (by decide) (?_ : ky_V _ _ _ 169 _ _ _ _)
      exact ih h6 q7 x8 hmh6 frh6 e

def x12_init (N : Nat)  (s : sk_S) (a : Nat) : Option (sk_S × Int32) := (if sk_K s a = (12, 0) then (ky_let (sk_n s) (fun a1 => (ky_let (sk_nw s 21 2247 2247) (fun q3 => (ky_let (sk_wr q3 a 1 (some a1)) (fun q5 => (ky_let (sk_n q5) (fun a6 => (ky_let (sk_nw q5 21 1398 1398) (fun q8 => (ky_let (sk_wr q8 a 2 (some a6)) (fun q10 => (ky_let (sk_n q10) (fun a11 => (ky_let (sk_nw q10 21 1398 1398) (fun q13 => (ky_let (sk_wr q13 a 3 (some a11)) (fun q15 => (ky_let (sk_n q15) (fun a16 => (ky_let (sk_nw q15 21 549 549) (fun q18 => (ky_let (sk_wr q18 a 4 (some a16)) (fun q20 => (ky_let (sk_n q20) (fun a21 => (ky_let (sk_nw q20 21 6588 6588) (fun q23 => (ky_let (sk_wr q23 a 5 (some a21)) (fun q25 => (ky_let (sk_n q25) (fun a26 => (ky_let (sk_nw q25 20 400 400) (fun q28 => (ky_let (sk_wr q28 a 8 (some a26)) (fun q30 => (ky_let (sk_wc q30 a 14 (-1)) (fun q32 => (ky_let (sk_n q32) (fun a33 => (ky_let (sk_nw q32 21 5 5) (fun q35 => (ky_let (sk_wr q35 a 15 (some a33)) (fun q37 => (ky_let (sk_n q37) (fun a38 => (ky_let (sk_nw q37 21 400 400) (fun q40 => (ky_let (sk_wr q40 a 17 (some a38)) (fun q42 => (ky_let (sk_n q42) (fun a43 => (ky_let (sk_nw q42 21 2 2) (fun q45 => (ky_let (sk_wr q45 a 18 (some a43)) (fun q47 => (ky_let (sk_n q47) (fun a48 => (ky_let (sk_nw q47 21 14400 14400) (fun q50 => (ky_let (sk_wr q50 a 21 (some a48)) (fun q52 => (ky_let (sk_n q52) (fun a53 => (ky_let (sk_nw q52 21 1200 1200) (fun q55 => (ky_let (sk_wr q55 a 22 (some a53)) (fun q57 => (ky_let (sk_n q57) (fun a58 => (ky_let (sk_nw q57 21 64 64) (fun q60 => (ky_let (sk_wr q60 a 23 (some a58)) (fun q62 => (ky_om (sk_r q62 a 1) none (fun l63 => (if (sk_K q62 l63).1 = 21 then (if ky_inB 8 (sk_K q62 l63).2 = true then (ky_let (sk_wc q62 l63 8 999) (fun q68 => (ky_om (sk_r q68 a 1) none (fun l69 => (if (sk_K q68 l69).1 = 21 then (if ky_inB 10 (sk_K q68 l69).2 = true then (ky_let (sk_wc q68 l69 10 27) (fun q74 => (ky_om (sk_r q74 a 1) none (fun l75 => (if (sk_K q74 l75).1 = 21 then (if ky_inB 16 (sk_K q74 l75).2 = true then (ky_let (sk_wc q74 l75 16 1) (fun q80 => (x12_init_L141 N a (fun q82 x83 => (x12_init_L169 N a (fun q85 x86 => (some (q85, 0))) N q82 0)) N q80 0))) else none) else none))))) else none) else none))))) else none) else none))))))))))))))))))))))))))))))))))))))))))))))))))))))))))))))))))))))))))))) else none)
set_option maxRecDepth 20000 in
set_option maxHeartbeats 4000000 in
theorem k_X12_init {G : ky_GW} {d : Nat} {h : ky_HP} {Q : ky_RS → ky_HP → Prop} {s s9 : sk_S} {r9 : Int32} {a : Nat} (N : Nat) (hG : ky_OK G)   (hm : sk_hp G s h)  (e : x12_init N  s a = some (s9, r9)) (hr : ∀ h1, sk_hp G s9 h1 → sk_fr (some a) s h s9 h1 → Q (.inl none) h1) : ky_Call G (d + 1) M_X12_init [.ref a] h Q := by
  refine ky_ofV (by decide +kernel) rfl ok_X12_init (Nat.le_of_ble_eq_true rfl) ?_
  have fr : sk_fr (some a) s h s h := sk_fr.rf
  unfold x12_init at e
  refine (?_ : ky_V _ _ _ 0 [(0, .ref a)] [] _ _)
  obtain ⟨z0, e⟩ := ky_chkE e
  refine v_aload_n (i := 0) (j := 0) rfl rfl (?_ : ky_V _ _ _ 1 _ _ _ _)
  refine v_objInit (by rw [show M_X12_init.1.cls = "WaistSandModel" from rfl]; exact ky_t7 (i := 28) rfl rfl) (ky_t1 (i := 36) rfl rfl) (ky_t1 (i := 37) rfl rfl) (i := 1) rfl (Nat.le_of_ble_eq_true rfl) (?_ : ky_V _ _ _ 4 _ _ _ _)
  refine v_aload_n (i := 2) (j := 0) rfl rfl (?_ : ky_V _ _ _ 5 _ _ _ _)
  refine v_sipush (v := 2247) (i := 3) rfl (by decide) (?_ : ky_V _ _ _ 8 _ _ _ _)
  refine v_newi (N := 2247) (ky_t1 (i := 87) rfl rfl) (i := 4) rfl (by decide) rfl (by decide) ?_
  refine sk_snw hm fr 21 2247 rfl (fun a1 h2 ea1 hmh2 frh2 => ?_)
  replace e := ky_letE ea1 e
  obtain ⟨q3, eq3⟩ : ∃ z, z = (sk_nw s 21 2247 2247) := ⟨_, rfl⟩
  rw [← eq3] at hmh2 frh2
  replace e := ky_letE eq3 e
  refine (?_ : ky_V _ _ _ 10 _ (.ref a1 :: _) _ _)
  refine pf_X12_13 rfl rfl (i := 5) rfl (oc_X12 hmh2 (frh2.K (k := 11) z0)) (Nat.le_of_ble_eq_true rfl) rfl rfl ?_
  refine sk_str (kd := 11) (n := 0) hmh2 frh2 (frh2.K (k := 11) z0) 1 (some a1) (Or.inr rfl) (fun h4 hmh4 frh4 => ?_)
  obtain ⟨q5, eq5⟩ : ∃ z, z = (sk_wr q3 a 1 (some a1)) := ⟨_, rfl⟩
  rw [← eq5] at hmh4 frh4
  replace e := ky_letE eq5 e
  refine (?_ : ky_V _ _ _ 13 _ _ _ _)
  refine v_aload_n (i := 6) (j := 0) rfl rfl (?_ : ky_V _ _ _ 14 _ _ _ _)
  refine v_sipush (v := 1398) (i := 7) rfl (by decide) (?_ : ky_V _ _ _ 17 _ _ _ _)
  refine v_newi (N := 1398) (ky_t1 (i := 87) rfl rfl) (i := 8) rfl (by decide) rfl (by decide) ?_
  refine sk_snw hmh4 frh4 21 1398 rfl (fun a6 h7 ea6 hmh7 frh7 => ?_)
  replace e := ky_letE ea6 e
  obtain ⟨q8, eq8⟩ : ∃ z, z = (sk_nw q5 21 1398 1398) := ⟨_, rfl⟩
  rw [← eq8] at hmh7 frh7
  replace e := ky_letE eq8 e
  refine (?_ : ky_V _ _ _ 19 _ (.ref a6 :: _) _ _)
  refine pf_X12_17 rfl rfl (i := 9) rfl (oc_X12 hmh7 (frh7.K (k := 11) z0)) (Nat.le_of_ble_eq_true rfl) rfl rfl ?_
  refine sk_str (kd := 11) (n := 0) hmh7 frh7 (frh7.K (k := 11) z0) 2 (some a6) (Or.inr rfl) (fun h9 hmh9 frh9 => ?_)
  obtain ⟨q10, eq10⟩ : ∃ z, z = (sk_wr q8 a 2 (some a6)) := ⟨_, rfl⟩
  rw [← eq10] at hmh9 frh9
  replace e := ky_letE eq10 e
  refine (?_ : ky_V _ _ _ 22 _ _ _ _)
  refine v_aload_n (i := 10) (j := 0) rfl rfl (?_ : ky_V _ _ _ 23 _ _ _ _)
  refine v_sipush (v := 1398) (i := 11) rfl (by decide) (?_ : ky_V _ _ _ 26 _ _ _ _)
  refine v_newi (N := 1398) (ky_t1 (i := 87) rfl rfl) (i := 12) rfl (by decide) rfl (by decide) ?_
  refine sk_snw hmh9 frh9 21 1398 rfl (fun a11 h12 ea11 hmh12 frh12 => ?_)
  replace e := ky_letE ea11 e
  obtain ⟨q13, eq13⟩ : ∃ z, z = (sk_nw q10 21 1398 1398) := ⟨_, rfl⟩
  rw [← eq13] at hmh12 frh12
  replace e := ky_letE eq13 e
  refine (?_ : ky_V _ _ _ 28 _ (.ref a11 :: _) _ _)
  refine pf_X12_20 rfl rfl (i := 13) rfl (oc_X12 hmh12 (frh12.K (k := 11) z0)) (Nat.le_of_ble_eq_true rfl) rfl rfl ?_
  refine sk_str (kd := 11) (n := 0) hmh12 frh12 (frh12.K (k := 11) z0) 3 (some a11) (Or.inr rfl) (fun h14 hmh14 frh14 => ?_)
  obtain ⟨q15, eq15⟩ : ∃ z, z = (sk_wr q13 a 3 (some a11)) := ⟨_, rfl⟩
  rw [← eq15] at hmh14 frh14
  replace e := ky_letE eq15 e
  refine (?_ : ky_V _ _ _ 31 _ _ _ _)
  refine v_aload_n (i := 14) (j := 0) rfl rfl (?_ : ky_V _ _ _ 32 _ _ _ _)
  refine v_sipush (v := 549) (i := 15) rfl (by decide) (?_ : ky_V _ _ _ 35 _ _ _ _)
  refine v_newi (N := 549) (ky_t1 (i := 87) rfl rfl) (i := 16) rfl (by decide) rfl (by decide) ?_
  refine sk_snw hmh14 frh14 21 549 rfl (fun a16 h17 ea16 hmh17 frh17 => ?_)
  replace e := ky_letE ea16 e
  obtain ⟨q18, eq18⟩ : ∃ z, z = (sk_nw q15 21 549 549) := ⟨_, rfl⟩
  rw [← eq18] at hmh17 frh17
  replace e := ky_letE eq18 e
  refine (?_ : ky_V _ _ _ 37 _ (.ref a16 :: _) _ _)
  refine pf_X12_23 rfl rfl (i := 17) rfl (oc_X12 hmh17 (frh17.K (k := 11) z0)) (Nat.le_of_ble_eq_true rfl) rfl rfl ?_
  refine sk_str (kd := 11) (n := 0) hmh17 frh17 (frh17.K (k := 11) z0) 4 (some a16) (Or.inr rfl) (fun h19 hmh19 frh19 => ?_)
  obtain ⟨q20, eq20⟩ : ∃ z, z = (sk_wr q18 a 4 (some a16)) := ⟨_, rfl⟩
  rw [← eq20] at hmh19 frh19
  replace e := ky_letE eq20 e
  refine (?_ : ky_V _ _ _ 40 _ _ _ _)
  refine v_aload_n (i := 18) (j := 0) rfl rfl (?_ : ky_V _ _ _ 41 _ _ _ _)
  refine v_sipush (v := 6588) (i := 19) rfl (by decide) (?_ : ky_V _ _ _ 44 _ _ _ _)
  refine v_newi (N := 6588) (ky_t1 (i := 87) rfl rfl) (i := 20) rfl (by decide) rfl (by decide) ?_
  refine sk_snw hmh19 frh19 21 6588 rfl (fun a21 h22 ea21 hmh22 frh22 => ?_)
  replace e := ky_letE ea21 e
  obtain ⟨q23, eq23⟩ : ∃ z, z = (sk_nw q20 21 6588 6588) := ⟨_, rfl⟩
  rw [← eq23] at hmh22 frh22
  replace e := ky_letE eq23 e
  refine (?_ : ky_V _ _ _ 46 _ (.ref a21 :: _) _ _)
  refine pf_X12_26 rfl rfl (i := 21) rfl (oc_X12 hmh22 (frh22.K (k := 11) z0)) (Nat.le_of_ble_eq_true rfl) rfl rfl ?_
  refine sk_str (kd := 11) (n := 0) hmh22 frh22 (frh22.K (k := 11) z0) 5 (some a21) (Or.inr rfl) (fun h24 hmh24 frh24 => ?_)
  obtain ⟨q25, eq25⟩ : ∃ z, z = (sk_wr q23 a 5 (some a21)) := ⟨_, rfl⟩
  rw [← eq25] at hmh24 frh24
  replace e := ky_letE eq25 e
  refine (?_ : ky_V _ _ _ 49 _ _ _ _)
  refine v_aload_n (i := 22) (j := 0) rfl rfl (?_ : ky_V _ _ _ 50 _ _ _ _)
  refine v_sipush (v := 400) (i := 23) rfl (by decide) (?_ : ky_V _ _ _ 53 _ _ _ _)
  refine v_newb (N := 400) (ky_t1 (i := 64) rfl rfl) (i := 24) rfl (by decide) rfl (by decide) ?_
  refine sk_snw hmh24 frh24 20 400 rfl (fun a26 h27 ea26 hmh27 frh27 => ?_)
  replace e := ky_letE ea26 e
  obtain ⟨q28, eq28⟩ : ∃ z, z = (sk_nw q25 20 400 400) := ⟨_, rfl⟩
  rw [← eq28] at hmh27 frh27
  replace e := ky_letE eq28 e
  refine (?_ : ky_V _ _ _ 55 _ (.ref a26 :: _) _ _)
  refine pf_X12_29 rfl rfl (i := 25) rfl (oc_X12 hmh27 (frh27.K (k := 11) z0)) (Nat.le_of_ble_eq_true rfl) rfl rfl ?_
  refine sk_str (kd := 11) (n := 0) hmh27 frh27 (frh27.K (k := 11) z0) 8 (some a26) (Or.inr rfl) (fun h29 hmh29 frh29 => ?_)
  obtain ⟨q30, eq30⟩ : ∃ z, z = (sk_wr q28 a 8 (some a26)) := ⟨_, rfl⟩
  rw [← eq30] at hmh29 frh29
  replace e := ky_letE eq30 e
  refine (?_ : ky_V _ _ _ 58 _ _ _ _)
  refine v_aload_n (i := 26) (j := 0) rfl rfl (?_ : ky_V _ _ _ 59 _ _ _ _)
  refine v_iconst (v := (-1)) (i := 27) rfl (by decide) (?_ : ky_V _ _ _ 60 _ _ _ _)
  refine pf_X12_33 rfl (i := 28) rfl (oc_X12 hmh29 (frh29.K (k := 11) z0)) (Nat.le_of_ble_eq_true rfl) rfl rfl ?_
  refine sk_stc (kd := 11) (n := 0) hmh29 frh29 (frh29.K (k := 11) z0) 14 (-1) (fun h31 hmh31 frh31 => ?_)
  obtain ⟨q32, eq32⟩ : ∃ z, z = (sk_wc q30 a 14 (-1)) := ⟨_, rfl⟩
  rw [← eq32] at hmh31 frh31
  replace e := ky_letE eq32 e
  refine (?_ : ky_V _ _ _ 63 _ _ _ _)
  refine v_aload_n (i := 29) (j := 0) rfl rfl (?_ : ky_V _ _ _ 64 _ _ _ _)
  refine v_iconst (v := 5) (i := 30) rfl (by decide) (?_ : ky_V _ _ _ 65 _ _ _ _)
  refine v_newi (N := 5) (ky_t1 (i := 87) rfl rfl) (i := 31) rfl (by decide) rfl (by decide) ?_
  refine sk_snw hmh31 frh31 21 5 rfl (fun a33 h34 ea33 hmh34 frh34 => ?_)
  replace e := ky_letE ea33 e
  obtain ⟨q35, eq35⟩ : ∃ z, z = (sk_nw q32 21 5 5) := ⟨_, rfl⟩
  rw [← eq35] at hmh34 frh34
  replace e := ky_letE eq35 e
  refine (?_ : ky_V _ _ _ 67 _ (.ref a33 :: _) _ _)
  refine pf_X12_36 rfl rfl (i := 32) rfl (oc_X12 hmh34 (frh34.K (k := 11) z0)) (Nat.le_of_ble_eq_true rfl) rfl rfl ?_
  refine sk_str (kd := 11) (n := 0) hmh34 frh34 (frh34.K (k := 11) z0) 15 (some a33) (Or.inr rfl) (fun h36 hmh36 frh36 => ?_)
  obtain ⟨q37, eq37⟩ : ∃ z, z = (sk_wr q35 a 15 (some a33)) := ⟨_, rfl⟩
  rw [← eq37] at hmh36 frh36
  replace e := ky_letE eq37 e
  refine (?_ : ky_V _ _ _ 70 _ _ _ _)
  refine v_aload_n (i := 33) (j := 0) rfl rfl (?_ : ky_V _ _ _ 71 _ _ _ _)
  refine v_sipush (v := 400) (i := 34) rfl (by decide) (?_ : ky_V _ _ _ 74 _ _ _ _)
  refine v_newi (N := 400) (ky_t1 (i := 87) rfl rfl) (i := 35) rfl (by decide) rfl (by decide) ?_
  refine sk_snw hmh36 frh36 21 400 rfl (fun a38 h39 ea38 hmh39 frh39 => ?_)
  replace e := ky_letE ea38 e
  obtain ⟨q40, eq40⟩ : ∃ z, z = (sk_nw q37 21 400 400) := ⟨_, rfl⟩
  rw [← eq40] at hmh39 frh39
  replace e := ky_letE eq40 e
  refine (?_ : ky_V _ _ _ 76 _ (.ref a38 :: _) _ _)
  refine pf_X12_39 rfl rfl (i := 36) rfl (oc_X12 hmh39 (frh39.K (k := 11) z0)) (Nat.le_of_ble_eq_true rfl) rfl rfl ?_
  refine sk_str (kd := 11) (n := 0) hmh39 frh39 (frh39.K (k := 11) z0) 17 (some a38) (Or.inr rfl) (fun h41 hmh41 frh41 => ?_)
  obtain ⟨q42, eq42⟩ : ∃ z, z = (sk_wr q40 a 17 (some a38)) := ⟨_, rfl⟩
  rw [← eq42] at hmh41 frh41
  replace e := ky_letE eq42 e
  refine (?_ : ky_V _ _ _ 79 _ _ _ _)
  refine v_aload_n (i := 37) (j := 0) rfl rfl (?_ : ky_V _ _ _ 80 _ _ _ _)
  refine v_iconst (v := 2) (i := 38) rfl (by decide) (?_ : ky_V _ _ _ 81 _ _ _ _)
  refine v_newi (N := 2) (ky_t1 (i := 87) rfl rfl) (i := 39) rfl (by decide) rfl (by decide) ?_
  refine sk_snw hmh41 frh41 21 2 rfl (fun a43 h44 ea43 hmh44 frh44 => ?_)
  replace e := ky_letE ea43 e
  obtain ⟨q45, eq45⟩ : ∃ z, z = (sk_nw q42 21 2 2) := ⟨_, rfl⟩
  rw [← eq45] at hmh44 frh44
  replace e := ky_letE eq45 e
  refine (?_ : ky_V _ _ _ 83 _ (.ref a43 :: _) _ _)
  refine pf_X12_42 rfl rfl (i := 40) rfl (oc_X12 hmh44 (frh44.K (k := 11) z0)) (Nat.le_of_ble_eq_true rfl) rfl rfl ?_
  refine sk_str (kd := 11) (n := 0) hmh44 frh44 (frh44.K (k := 11) z0) 18 (some a43) (Or.inr rfl) (fun h46 hmh46 frh46 => ?_)
  obtain ⟨q47, eq47⟩ : ∃ z, z = (sk_wr q45 a 18 (some a43)) := ⟨_, rfl⟩
  rw [← eq47] at hmh46 frh46
  replace e := ky_letE eq47 e
  refine (?_ : ky_V _ _ _ 86 _ _ _ _)
  refine v_aload_n (i := 41) (j := 0) rfl rfl (?_ : ky_V _ _ _ 87 _ _ _ _)
  refine v_sipush (v := 14400) (i := 42) rfl (by decide) (?_ : ky_V _ _ _ 90 _ _ _ _)
  refine v_newi (N := 14400) (ky_t1 (i := 87) rfl rfl) (i := 43) rfl (by decide) rfl (by decide) ?_
  refine sk_snw hmh46 frh46 21 14400 rfl (fun a48 h49 ea48 hmh49 frh49 => ?_)
  replace e := ky_letE ea48 e
  obtain ⟨q50, eq50⟩ : ∃ z, z = (sk_nw q47 21 14400 14400) := ⟨_, rfl⟩
  rw [← eq50] at hmh49 frh49
  replace e := ky_letE eq50 e
  refine (?_ : ky_V _ _ _ 92 _ (.ref a48 :: _) _ _)
  refine pf_X12_45 rfl rfl (i := 44) rfl (oc_X12 hmh49 (frh49.K (k := 11) z0)) (Nat.le_of_ble_eq_true rfl) rfl rfl ?_
  refine sk_str (kd := 11) (n := 0) hmh49 frh49 (frh49.K (k := 11) z0) 21 (some a48) (Or.inr rfl) (fun h51 hmh51 frh51 => ?_)
  obtain ⟨q52, eq52⟩ : ∃ z, z = (sk_wr q50 a 21 (some a48)) := ⟨_, rfl⟩
  rw [← eq52] at hmh51 frh51
  replace e := ky_letE eq52 e
  refine (?_ : ky_V _ _ _ 95 _ _ _ _)
  refine v_aload_n (i := 45) (j := 0) rfl rfl (?_ : ky_V _ _ _ 96 _ _ _ _)
  refine v_sipush (v := 1200) (i := 46) rfl (by decide) (?_ : ky_V _ _ _ 99 _ _ _ _)
  refine v_newi (N := 1200) (ky_t1 (i := 87) rfl rfl) (i := 47) rfl (by decide) rfl (by decide) ?_
  refine sk_snw hmh51 frh51 21 1200 rfl (fun a53 h54 ea53 hmh54 frh54 => ?_)
  replace e := ky_letE ea53 e
  obtain ⟨q55, eq55⟩ : ∃ z, z = (sk_nw q52 21 1200 1200) := ⟨_, rfl⟩
  rw [← eq55] at hmh54 frh54
  replace e := ky_letE eq55 e
  refine (?_ : ky_V _ _ _ 101 _ (.ref a53 :: _) _ _)
  refine pf_X12_48 rfl rfl (i := 48) rfl (oc_X12 hmh54 (frh54.K (k := 11) z0)) (Nat.le_of_ble_eq_true rfl) rfl rfl ?_
  refine sk_str (kd := 11) (n := 0) hmh54 frh54 (frh54.K (k := 11) z0) 22 (some a53) (Or.inr rfl) (fun h56 hmh56 frh56 => ?_)
  obtain ⟨q57, eq57⟩ : ∃ z, z = (sk_wr q55 a 22 (some a53)) := ⟨_, rfl⟩
  rw [← eq57] at hmh56 frh56
  replace e := ky_letE eq57 e
  refine (?_ : ky_V _ _ _ 104 _ _ _ _)
  refine v_aload_n (i := 49) (j := 0) rfl rfl (?_ : ky_V _ _ _ 105 _ _ _ _)
  refine v_bipush (v := 64) (i := 50) rfl (by decide) (?_ : ky_V _ _ _ 107 _ _ _ _)
  refine v_newi (N := 64) (ky_t1 (i := 87) rfl rfl) (i := 51) rfl (by decide) rfl (by decide) ?_
  refine sk_snw hmh56 frh56 21 64 rfl (fun a58 h59 ea58 hmh59 frh59 => ?_)
  replace e := ky_letE ea58 e
  obtain ⟨q60, eq60⟩ : ∃ z, z = (sk_nw q57 21 64 64) := ⟨_, rfl⟩
  rw [← eq60] at hmh59 frh59
  replace e := ky_letE eq60 e
  refine (?_ : ky_V _ _ _ 109 _ (.ref a58 :: _) _ _)
  refine pf_X12_51 rfl rfl (i := 52) rfl (oc_X12 hmh59 (frh59.K (k := 11) z0)) (Nat.le_of_ble_eq_true rfl) rfl rfl ?_
  refine sk_str (kd := 11) (n := 0) hmh59 frh59 (frh59.K (k := 11) z0) 23 (some a58) (Or.inr rfl) (fun h61 hmh61 frh61 => ?_)
  obtain ⟨q62, eq62⟩ : ∃ z, z = (sk_wr q60 a 23 (some a58)) := ⟨_, rfl⟩
  rw [← eq62] at hmh61 frh61
  replace e := ky_letE eq62 e
  refine (?_ : ky_V _ _ _ 112 _ _ _ _)
  refine v_aload_n (i := 53) (j := 0) rfl rfl (?_ : ky_V _ _ _ 113 _ _ _ _)
  obtain ⟨l63, y64, e⟩ := ky_omE e
  refine gf_X12_13 rfl (i := 54) rfl (oc_X12 hmh61 (frh61.K (k := 11) z0)) (sk_rf y64) (?_ : ky_V _ _ _ 116 _ _ _ _)
  refine v_bipush (v := 8) (i := 55) rfl (by decide) (?_ : ky_V _ _ _ 118 _ _ _ _)
  refine v_sipush (v := 999) (i := 56) rfl (by decide) (?_ : ky_V _ _ _ 121 _ _ _ _)
  obtain ⟨z65, e⟩ := ky_chkE e
  obtain ⟨z66, e⟩ := ky_chkE e
  refine v_iast (i := 57) rfl (ox_21 hmh61 z65) (ky_inb z66) ?_
  refine sk_stc (kd := 20) hmh61 frh61 (sk_pr z65) 8 999 (fun h67 hmh67 frh67 => ?_)
  obtain ⟨q68, eq68⟩ : ∃ z, z = (sk_wc q62 l63 8 999) := ⟨_, rfl⟩
  rw [← eq68] at hmh67 frh67
  replace e := ky_letE eq68 e
  refine (?_ : ky_V _ _ _ 122 _ _ _ _)
  refine v_aload_n (i := 58) (j := 0) rfl rfl (?_ : ky_V _ _ _ 123 _ _ _ _)
  obtain ⟨l69, y70, e⟩ := ky_omE e
  refine gf_X12_13 rfl (i := 59) rfl (oc_X12 hmh67 (frh67.K (k := 11) z0)) (sk_rf y70) (?_ : ky_V _ _ _ 126 _ _ _ _)
  refine v_bipush (v := 10) (i := 60) rfl (by decide) (?_ : ky_V _ _ _ 128 _ _ _ _)
  refine v_bipush (v := 27) (i := 61) rfl (by decide) (?_ : ky_V _ _ _ 130 _ _ _ _)
  obtain ⟨z71, e⟩ := ky_chkE e
  obtain ⟨z72, e⟩ := ky_chkE e
  refine v_iast (i := 62) rfl (ox_21 hmh67 z71) (ky_inb z72) ?_
  refine sk_stc (kd := 20) hmh67 frh67 (sk_pr z71) 10 27 (fun h73 hmh73 frh73 => ?_)
  obtain ⟨q74, eq74⟩ : ∃ z, z = (sk_wc q68 l69 10 27) := ⟨_, rfl⟩
  rw [← eq74] at hmh73 frh73
  replace e := ky_letE eq74 e
  refine (?_ : ky_V _ _ _ 131 _ _ _ _)
  refine v_aload_n (i := 63) (j := 0) rfl rfl (?_ : ky_V _ _ _ 132 _ _ _ _)
  obtain ⟨l75, y76, e⟩ := ky_omE e
  refine gf_X12_13 rfl (i := 64) rfl (oc_X12 hmh73 (frh73.K (k := 11) z0)) (sk_rf y76) (?_ : ky_V _ _ _ 135 _ _ _ _)
  refine v_bipush (v := 16) (i := 65) rfl (by decide) (?_ : ky_V _ _ _ 137 _ _ _ _)
  refine v_iconst (v := 1) (i := 66) rfl (by decide) (?_ : ky_V _ _ _ 138 _ _ _ _)
  obtain ⟨z77, e⟩ := ky_chkE e
  obtain ⟨z78, e⟩ := ky_chkE e
  refine v_iast (i := 67) rfl (ox_21 hmh73 z77) (ky_inb z78) ?_
  refine sk_stc (kd := 20) hmh73 frh73 (sk_pr z77) 16 1 (fun h79 hmh79 frh79 => ?_)
  obtain ⟨q80, eq80⟩ : ∃ z, z = (sk_wc q74 l75 16 1) := ⟨_, rfl⟩
  rw [← eq80] at hmh79 frh79
  replace e := ky_letE eq80 e
  refine (?_ : ky_V _ _ _ 139 _ _ _ _)
  refine v_iconst (v := 0) (i := 68) rfl (by decide) (?_ : ky_V _ _ _ 140 _ _ _ _)
  refine v_istore_n (L' := [(0, .ref a), (1, .int 0)]) [1, 0] (i := 69) rfl (Nat.le_of_ble_eq_true rfl) rfl (?_ : ky_V _ _ _ 141 _ _ _ _)
  refine lv_X12_init_141 N hG a z0 hm _ hr (fun h81 q82 x83 hmh81 frh81 e => ?_) N h79 q80 0 hmh79 frh79 e
  refine v_iconst (v := 0) (i := 86) rfl (by decide) (?_ : ky_V _ _ _ 168 _ _ _ _)
  refine v_istore_n (L' := [(0, .ref a), (1, .int 0)]) [1, 0] (i := 87) rfl (Nat.le_of_ble_eq_true rfl) rfl (?_ : ky_V _ _ _ 169 _ _ _ _)
  refine lv_X12_init_169 N hG a z0 hm _ hr (fun h84 q85 x86 hmh84 frh84 e => ?_) N h81 q82 0 hmh81 frh81 e
  refine v_vret (i := 104) rfl rfl ?_
  obtain ⟨rfl, rfl⟩ := ky_leaf e
  exact hr _ hmh84 frh84

def x11_waysAsItIs (N : Nat)  (s : sk_S) (a : Nat) : Option (sk_S × Nat) := (if lay_X11 (sk_K s) (sk_r s) a = true then ((x11_waysWith N s a (sk_c s (a + 13) 1) (sk_c s (a + 13) 2)).bind (fun zz => (fun q2 l3 => (some (q2, l3))) zz.1 zz.2)) else none)
set_option maxRecDepth 20000 in
set_option maxHeartbeats 4000000 in
theorem k_X11_waysAsItIs {G : ky_GW} {d : Nat} {h : ky_HP} {Q : ky_RS → ky_HP → Prop} {s s9 : sk_S} {r9 : Nat} {a : Nat} (N : Nat) (hG : ky_OK G)   (hm : sk_hp G s h)  (e : x11_waysAsItIs N  s a = some (s9, r9)) (hr : ∀ h1, sk_hp G s9 h1 → sk_fr none s h s9 h1 → Q (.inl (some (.ref r9))) h1) : ky_Call G (d + 3) M_X11_waysAsItIs [.ref a] h Q := by
  refine ky_ofV (by decide +kernel) rfl ok_X11_waysAsItIs (Nat.le_of_ble_eq_true rfl) ?_
  have fr : sk_fr none s h s h := sk_fr.rf
  unfold x11_waysAsItIs at e
  refine (?_ : ky_V _ _ _ 0 [(0, .ref a)] [] _ _)
  obtain ⟨za, e⟩ := ky_chkE e
  refine v_aload_n (i := 0) (j := 0) rfl rfl (?_ : ky_V _ _ _ 1 _ _ _ _)
  refine v_aload_n (i := 1) (j := 0) rfl rfl (?_ : ky_V _ _ _ 2 _ _ _ _)
  refine gf_X11_33 rfl (i := 2) rfl (oc_X11 hm (ly_X11_c za)) (sk_rf (ly_X11_r3 za)) (?_ : ky_V _ _ _ 5 _ (.ref (a + 12) :: _) _ _)
  refine gf_X11_191 rfl (i := 3) rfl (oc_X7 hm (ly_X7_c (ly_X11_l3 za))) (sk_rf (ly_X7_r0 (ly_X11_l3 za))) (?_ : ky_V _ _ _ 8 _ (.ref (a + 13) :: _) _ _)
  refine gf_X11_233 rfl (i := 4) rfl (oc_X1 hm (ly_X1_c (ly_X7_l0 (ly_X11_l3 za)))) rfl (?_ : ky_V _ _ _ 11 _ _ _ _)
  refine v_aload_n (i := 5) (j := 0) rfl rfl (?_ : ky_V _ _ _ 12 _ _ _ _)
  refine gf_X11_33 rfl (i := 6) rfl (oc_X11 hm (ly_X11_c za)) (sk_rf (ly_X11_r3 za)) (?_ : ky_V _ _ _ 15 _ (.ref (a + 12) :: _) _ _)
  refine gf_X11_191 rfl (i := 7) rfl (oc_X7 hm (ly_X7_c (ly_X11_l3 za))) (sk_rf (ly_X7_r0 (ly_X11_l3 za))) (?_ : ky_V _ _ _ 18 _ (.ref (a + 13) :: _) _ _)
  refine gf_X11_242 rfl (i := 8) rfl (oc_X1 hm (ly_X1_c (ly_X7_l0 (ly_X11_l3 za)))) rfl (?_ : ky_V _ _ _ 21 _ _ _ _)
  obtain ⟨⟨q2, l3⟩, g4, e⟩ := Option.bind_eq_some_iff.mp e
  refine cl_X11_447 (As := [.int ((sk_c s (a + 13) 1)), .int ((sk_c s (a + 13) 2))]) rfl (i := 9) rfl (oc_X11 hm (ly_X11_c za)) rfl rfl (Nat.le_of_ble_eq_true rfl) (k_X11_waysWith N hG hm g4 (fun h1 hmh1 frh1 => ⟨_, rfl, (?_ : ky_V _ _ _ 24 _ [.ref l3] _ _)⟩))
  have frh1 := fr.tr frh1
  refine v_aret (v := .ref l3) (i := 10) rfl rfl (by first | exact Or.inl ⟨_, rfl⟩ | exact Or.inr ⟨_, rfl⟩) (by first | exact Or.inl rfl | exact Or.inr ⟨_, rfl⟩) ?_
  obtain ⟨rfl, rfl⟩ := ky_leaf e
  exact hr _ hmh1 frh1

def x11_best (N : Nat)  (s : sk_S) (a : Nat) (p1 : Int32) (p2 : Int32) : Option (sk_S × Int32) := (if lay_X11 (sk_K s) (sk_r s) a = true then ((x11_waysAsItIs N s a).bind (fun zz => (fun q2 l3 => (if lay_X10 (sk_K q2) (sk_r q2) l3 = true then ((x10_bestStep N q2 l3 (sk_c q2 (a + 13) 0) p1 p2).bind (fun zz => (fun q7 x8 => (some (q7, x8))) zz.1 zz.2)) else none)) zz.1 zz.2)) else none)
set_option maxRecDepth 20000 in
set_option maxHeartbeats 4000000 in
theorem k_X11_best {G : ky_GW} {d : Nat} {h : ky_HP} {Q : ky_RS → ky_HP → Prop} {s s9 : sk_S} {r9 : Int32} {a : Nat} {p1 : Int32} {p2 : Int32} (N : Nat) (hG : ky_OK G)   (hm : sk_hp G s h)  (e : x11_best N  s a p1 p2 = some (s9, r9)) (hr : ∀ h1, sk_hp G s9 h1 → sk_fr none s h s9 h1 → Q (.inl (some (.int r9))) h1) : ky_Call G (d + 7) M_X11_best [.ref a, .int p1, .int p2] h Q := by
  refine ky_ofV (by decide +kernel) rfl ok_X11_best (Nat.le_of_ble_eq_true rfl) ?_
  have fr : sk_fr none s h s h := sk_fr.rf
  unfold x11_best at e
  refine (?_ : ky_V _ _ _ 0 [(0, .ref a), (1, .int p1), (2, .int p2)] [] _ _)
  obtain ⟨za, e⟩ := ky_chkE e
  refine v_aload_n (i := 0) (j := 0) rfl rfl (?_ : ky_V _ _ _ 1 _ _ _ _)
  obtain ⟨⟨q2, l3⟩, g4, e⟩ := Option.bind_eq_some_iff.mp e
  refine cl_X11_280 (As := []) rfl (i := 1) rfl (oc_X11 hm (ly_X11_c za)) rfl rfl (Nat.le_of_ble_eq_true rfl) (k_X11_waysAsItIs N hG hm g4 (fun h1 hmh1 frh1 => ⟨_, rfl, (?_ : ky_V _ _ _ 4 _ [.ref l3] _ _)⟩))
  have frh1 := fr.tr frh1
  refine v_aload_n (i := 2) (j := 0) rfl rfl (?_ : ky_V _ _ _ 5 _ _ _ _)
  refine gf_X11_33 rfl (i := 3) rfl (oc_X11 hmh1 (ly_X11_c (lt_X11 frh1 za))) (sk_rf (ly_X11_r3 (lt_X11 frh1 za))) (?_ : ky_V _ _ _ 8 _ (.ref (a + 12) :: _) _ _)
  refine gf_X11_191 rfl (i := 4) rfl (oc_X7 hmh1 (ly_X7_c (ly_X11_l3 (lt_X11 frh1 za)))) (sk_rf (ly_X7_r0 (ly_X11_l3 (lt_X11 frh1 za)))) (?_ : ky_V _ _ _ 11 _ (.ref (a + 13) :: _) _ _)
  refine gf_X11_209 rfl (i := 5) rfl (oc_X1 hmh1 (ly_X1_c (ly_X7_l0 (ly_X11_l3 (lt_X11 frh1 za))))) rfl (?_ : ky_V _ _ _ 14 _ _ _ _)
  refine v_iload_n (i := 6) (j := 1) rfl rfl (?_ : ky_V _ _ _ 15 _ _ _ _)
  refine v_iload_n (i := 7) (j := 2) rfl rfl (?_ : ky_V _ _ _ 16 _ _ _ _)
  obtain ⟨z5, e⟩ := ky_chkE e
  obtain ⟨⟨q7, x8⟩, g9, e⟩ := Option.bind_eq_some_iff.mp e
  refine cl_X11_284 (As := [.int ((sk_c q2 (a + 13) 0)), .int p1, .int p2]) rfl (i := 8) rfl (oc_X10 hmh1 (ly_X10_c z5)) rfl rfl (Nat.le_of_ble_eq_true rfl) (k_X10_bestStep N hG hmh1 g9 (fun h6 hmh6 frh6 => ⟨_, rfl, (?_ : ky_V _ _ _ 19 _ [.int x8] _ _)⟩))
  have frh6 := frh1.tr frh6
  refine v_iret (v := x8) (ty := .int) (i := 9) rfl rfl rfl ?_
  obtain ⟨rfl, rfl⟩ := ky_leaf e
  exact hr _ hmh6 frh6

def x11_round (N : Nat)  (s : sk_S) (a : Nat) : Option (sk_S × Int32) := (if lay_X11 (sk_K s) (sk_r s) a = true then ((x11_waysAsItIs N s a).bind (fun zz => (fun q2 l3 => (if lay_X10 (sk_K q2) (sk_r q2) l3 = true then ((x10_minutesRound N q2 l3 (sk_c q2 (a + 13) 0)).bind (fun zz => (fun q7 x8 => (some (q7, x8))) zz.1 zz.2)) else none)) zz.1 zz.2)) else none)
set_option maxRecDepth 20000 in
set_option maxHeartbeats 4000000 in
theorem k_X11_round {G : ky_GW} {d : Nat} {h : ky_HP} {Q : ky_RS → ky_HP → Prop} {s s9 : sk_S} {r9 : Int32} {a : Nat} (N : Nat) (hG : ky_OK G)   (hm : sk_hp G s h)  (e : x11_round N  s a = some (s9, r9)) (hr : ∀ h1, sk_hp G s9 h1 → sk_fr none s h s9 h1 → Q (.inl (some (.int r9))) h1) : ky_Call G (d + 7) M_X11_round [.ref a] h Q := by
  refine ky_ofV (by decide +kernel) rfl ok_X11_round (Nat.le_of_ble_eq_true rfl) ?_
  have fr : sk_fr none s h s h := sk_fr.rf
  unfold x11_round at e
  refine (?_ : ky_V _ _ _ 0 [(0, .ref a)] [] _ _)
  obtain ⟨za, e⟩ := ky_chkE e
  refine v_aload_n (i := 0) (j := 0) rfl rfl (?_ : ky_V _ _ _ 1 _ _ _ _)
  obtain ⟨⟨q2, l3⟩, g4, e⟩ := Option.bind_eq_some_iff.mp e
  refine cl_X11_280 (As := []) rfl (i := 1) rfl (oc_X11 hm (ly_X11_c za)) rfl rfl (Nat.le_of_ble_eq_true rfl) (k_X11_waysAsItIs N hG hm g4 (fun h1 hmh1 frh1 => ⟨_, rfl, (?_ : ky_V _ _ _ 4 _ [.ref l3] _ _)⟩))
  have frh1 := fr.tr frh1
  refine v_aload_n (i := 2) (j := 0) rfl rfl (?_ : ky_V _ _ _ 5 _ _ _ _)
  refine gf_X11_33 rfl (i := 3) rfl (oc_X11 hmh1 (ly_X11_c (lt_X11 frh1 za))) (sk_rf (ly_X11_r3 (lt_X11 frh1 za))) (?_ : ky_V _ _ _ 8 _ (.ref (a + 12) :: _) _ _)
  refine gf_X11_191 rfl (i := 4) rfl (oc_X7 hmh1 (ly_X7_c (ly_X11_l3 (lt_X11 frh1 za)))) (sk_rf (ly_X7_r0 (ly_X11_l3 (lt_X11 frh1 za)))) (?_ : ky_V _ _ _ 11 _ (.ref (a + 13) :: _) _ _)
  refine gf_X11_209 rfl (i := 5) rfl (oc_X1 hmh1 (ly_X1_c (ly_X7_l0 (ly_X11_l3 (lt_X11 frh1 za))))) rfl (?_ : ky_V _ _ _ 14 _ _ _ _)
  obtain ⟨z5, e⟩ := ky_chkE e
  obtain ⟨⟨q7, x8⟩, g9, e⟩ := Option.bind_eq_some_iff.mp e
  refine cl_X11_305 (As := [.int ((sk_c q2 (a + 13) 0))]) rfl (i := 6) rfl (oc_X10 hmh1 (ly_X10_c z5)) rfl rfl (Nat.le_of_ble_eq_true rfl) (k_X10_minutesRound N hG hmh1 g9 (fun h6 hmh6 frh6 => ⟨_, rfl, (?_ : ky_V _ _ _ 17 _ [.int x8] _ _)⟩))
  have frh6 := frh1.tr frh6
  refine v_iret (v := x8) (ty := .int) (i := 7) rfl rfl rfl ?_
  obtain ⟨rfl, rfl⟩ := ky_leaf e
  exact hr _ hmh6 frh6

def x11_more (N : Nat)  (s : sk_S) (a : Nat) : Option (sk_S × Int32) := (if lay_X11 (sk_K s) (sk_r s) a = true then ((x11_waysAsItIs N s a).bind (fun zz => (fun q2 l3 => (if lay_X10 (sk_K q2) (sk_r q2) l3 = true then ((x10_statesFrom N q2 l3 (sk_c q2 (a + 13) 0)).bind (fun zz => (fun q7 x8 => (some (q7, x8))) zz.1 zz.2)) else none)) zz.1 zz.2)) else none)
set_option maxRecDepth 20000 in
set_option maxHeartbeats 4000000 in
theorem k_X11_more {G : ky_GW} {d : Nat} {h : ky_HP} {Q : ky_RS → ky_HP → Prop} {s s9 : sk_S} {r9 : Int32} {a : Nat} (N : Nat) (hG : ky_OK G)   (hm : sk_hp G s h)  (e : x11_more N  s a = some (s9, r9)) (hr : ∀ h1, sk_hp G s9 h1 → sk_fr none s h s9 h1 → Q (.inl (some (.int r9))) h1) : ky_Call G (d + 7) M_X11_more [.ref a] h Q := by
  refine ky_ofV (by decide +kernel) rfl ok_X11_more (Nat.le_of_ble_eq_true rfl) ?_
  have fr : sk_fr none s h s h := sk_fr.rf
  unfold x11_more at e
  refine (?_ : ky_V _ _ _ 0 [(0, .ref a)] [] _ _)
  obtain ⟨za, e⟩ := ky_chkE e
  refine v_aload_n (i := 0) (j := 0) rfl rfl (?_ : ky_V _ _ _ 1 _ _ _ _)
  obtain ⟨⟨q2, l3⟩, g4, e⟩ := Option.bind_eq_some_iff.mp e
  refine cl_X11_280 (As := []) rfl (i := 1) rfl (oc_X11 hm (ly_X11_c za)) rfl rfl (Nat.le_of_ble_eq_true rfl) (k_X11_waysAsItIs N hG hm g4 (fun h1 hmh1 frh1 => ⟨_, rfl, (?_ : ky_V _ _ _ 4 _ [.ref l3] _ _)⟩))
  have frh1 := fr.tr frh1
  refine v_aload_n (i := 2) (j := 0) rfl rfl (?_ : ky_V _ _ _ 5 _ _ _ _)
  refine gf_X11_33 rfl (i := 3) rfl (oc_X11 hmh1 (ly_X11_c (lt_X11 frh1 za))) (sk_rf (ly_X11_r3 (lt_X11 frh1 za))) (?_ : ky_V _ _ _ 8 _ (.ref (a + 12) :: _) _ _)
  refine gf_X11_191 rfl (i := 4) rfl (oc_X7 hmh1 (ly_X7_c (ly_X11_l3 (lt_X11 frh1 za)))) (sk_rf (ly_X7_r0 (ly_X11_l3 (lt_X11 frh1 za)))) (?_ : ky_V _ _ _ 11 _ (.ref (a + 13) :: _) _ _)
  refine gf_X11_209 rfl (i := 5) rfl (oc_X1 hmh1 (ly_X1_c (ly_X7_l0 (ly_X11_l3 (lt_X11 frh1 za))))) rfl (?_ : ky_V _ _ _ 14 _ _ _ _)
  obtain ⟨z5, e⟩ := ky_chkE e
  obtain ⟨⟨q7, x8⟩, g9, e⟩ := Option.bind_eq_some_iff.mp e
  refine cl_X11_308 (As := [.int ((sk_c q2 (a + 13) 0))]) rfl (i := 6) rfl (oc_X10 hmh1 (ly_X10_c z5)) rfl rfl (Nat.le_of_ble_eq_true rfl) (k_X10_statesFrom N hG hmh1 g9 (fun h6 hmh6 frh6 => ⟨_, rfl, (?_ : ky_V _ _ _ 17 _ [.int x8] _ _)⟩))
  have frh6 := frh1.tr frh6
  refine v_iret (v := x8) (ty := .int) (i := 7) rfl rfl rfl ?_
  obtain ⟨rfl, rfl⟩ := ky_leaf e
  exact hr _ hmh6 frh6

def x11_back (N : Nat)  (s : sk_S) (a : Nat) : Option (sk_S × Int32) := (if lay_X11 (sk_K s) (sk_r s) a = true then (ky_om (sk_r s a 8) (some (s, 0)) (fun l2 => (ky_om (sk_r s a 8) none (fun l4 => ((x7_become N s (a + 12) l4).bind (fun zz => (fun q6 x7 => ((x11_forgetPast N q6 a).bind (fun zz => (fun q10 x11 => (some (q10, 1))) zz.1 zz.2))) zz.1 zz.2)))))) else none)
set_option maxRecDepth 20000 in
set_option maxHeartbeats 4000000 in
theorem k_X11_back {G : ky_GW} {d : Nat} {h : ky_HP} {Q : ky_RS → ky_HP → Prop} {s s9 : sk_S} {r9 : Int32} {a : Nat} (N : Nat) (hG : ky_OK G)   (hm : sk_hp G s h)  (e : x11_back N  s a = some (s9, r9)) (hr : ∀ h1, sk_hp G s9 h1 → sk_fr none s h s9 h1 → Q (.inl (some (.int r9))) h1) : ky_Call G (d + 3) M_X11_back [.ref a] h Q := by
  refine ky_ofV (by decide +kernel) rfl ok_X11_back (Nat.le_of_ble_eq_true rfl) ?_
  have fr : sk_fr none s h s h := sk_fr.rf
  unfold x11_back at e
  refine (?_ : ky_V _ _ _ 0 [(0, .ref a)] [] _ _)
  obtain ⟨za, e⟩ := ky_chkE e
  refine v_aload_n (i := 0) (j := 0) rfl rfl (?_ : ky_V _ _ _ 1 _ _ _ _)
  rcases y1 : (sk_r s a 8) with _ | l2
  · replace e := ky_omN y1 e
    refine gf_X11_420 rfl (i := 1) rfl (oc_X11 hm (ly_X11_c za)) (sk_rn y1) (?_ : ky_V _ _ _ 4 _ _ _ _)
    refine v_ifnonnullN (i := 2) rfl (?_ : ky_V _ _ _ 7 _ _ _ _)
    refine v_iconst (v := 0) (i := 3) rfl (by decide) (?_ : ky_V _ _ _ 8 _ _ _ _)
    refine v_iret (v := 0) (ty := .boolean) (i := 4) rfl rfl (by decide) ?_
    obtain ⟨rfl, rfl⟩ := ky_leaf e
    exact hr _ hm fr
  · replace e := ky_omS y1 e
    refine gf_X11_420 rfl (i := 1) rfl (oc_X11 hm (ly_X11_c za)) (sk_rf y1) (?_ : ky_V _ _ _ 4 _ _ _ _)
    refine v_ifnonnull (tgt := 9) (i := 2) rfl (by decide) (?_ : ky_V _ _ _ 9 _ _ _ _)
    refine v_aload_n (i := 5) (j := 0) rfl rfl (?_ : ky_V _ _ _ 10 _ _ _ _)
    refine gf_X11_33 rfl (i := 6) rfl (oc_X11 hm (ly_X11_c za)) (sk_rf (ly_X11_r3 za)) (?_ : ky_V _ _ _ 13 _ (.ref (a + 12) :: _) _ _)
    refine v_aload_n (i := 7) (j := 0) rfl rfl (?_ : ky_V _ _ _ 14 _ _ _ _)
    rcases y3 : (sk_r s a 8) with _ | l4
    · replace e := ky_omN y3 e
      refine gf_X11_420 rfl (i := 8) rfl (oc_X11 hm (ly_X11_c za)) (sk_rn y3) (?_ : ky_V _ _ _ 17 _ _ _ _)
      cases e
    · replace e := ky_omS y3 e
      refine gf_X11_420 rfl (i := 8) rfl (oc_X11 hm (ly_X11_c za)) (sk_rf y3) (?_ : ky_V _ _ _ 17 _ _ _ _)
      obtain ⟨⟨q6, x7⟩, g8, e⟩ := Option.bind_eq_some_iff.mp e
      refine cl_X11_417 (As := [.ref l4]) rfl (i := 9) rfl (oc_X7 hm (ly_X7_c (ly_X11_l3 za))) rfl rfl (Nat.le_of_ble_eq_true rfl) (k_X7_become N hG hm g8 (fun h5 hmh5 frh5 => ⟨_, rfl, (?_ : ky_V _ _ _ 20 _ [] _ _)⟩))
      have frh5 := fr.tr frh5
      refine v_aload_n (i := 10) (j := 0) rfl rfl (?_ : ky_V _ _ _ 21 _ _ _ _)
      obtain ⟨⟨q10, x11⟩, g12, e⟩ := Option.bind_eq_some_iff.mp e
      refine cl_X11_99 (As := []) rfl (i := 11) rfl (oc_X11 hmh5 (ly_X11_c (lt_X11 frh5 za))) rfl rfl (Nat.le_of_ble_eq_true rfl) (k_X11_forgetPast N hG hmh5 g12 (fun h9 hmh9 frh9 => ⟨_, rfl, (?_ : ky_V _ _ _ 24 _ [] _ _)⟩))
      have frh9 := frh5.tr frh9
      refine v_iconst (v := 1) (i := 12) rfl (by decide) (?_ : ky_V _ _ _ 25 _ _ _ _)
      refine v_iret (v := 1) (ty := .boolean) (i := 13) rfl rfl (by decide) ?_
      obtain ⟨rfl, rfl⟩ := ky_leaf e
      exact hr _ hmh9 frh9

def x11_beach (N : Nat)  (s : sk_S) (a : Nat) : Option (sk_S × ky_RS) := (if lay_X11 (sk_K s) (sk_r s) a = true then ((x0_reads N s (a + 3) (a + 1) (sk_c s (a + 16) 6)).bind (fun zz => (fun q2 x3 => ((x11_useTapeUp N q2 a x3).bind (fun zz => (fun q6 x7 => (if x3 = 0 then (some ((sk_rs q6 6), (.inr "java/lang/IllegalArgumentException"))) else (if (sk_c q6 (a + 12) 4) < (12 : Int32) then ((x0_tell N q6 (a + 3) (a + 12)).bind (fun zz => (fun q12 x13 => (ky_let ((sk_c q12 (a + 12) 4) + 1) (fun x15 => (ky_let (sk_wc q12 (a + 12) 4 x15) (fun q17 => ((x11_forgetPast N q17 a).bind (fun zz => (fun q19 x20 => (some (q19, (.inl (some (.int (sk_c q19 (a + 12) 4))))))) zz.1 zz.2))))))) zz.1 zz.2)) else (some ((sk_rs q6 6), (.inr "java/lang/UnsupportedOperationException")))))) zz.1 zz.2))) zz.1 zz.2)) else none)
set_option maxRecDepth 20000 in
set_option maxHeartbeats 4000000 in
theorem k_X11_beach {G : ky_GW} {d : Nat} {h : ky_HP} {Q : ky_RS → ky_HP → Prop} {s s9 : sk_S} {r9 : ky_RS} {a : Nat} (N : Nat) (hG : ky_OK G)   (hm : sk_hp G s h)  (e : x11_beach N  s a = some (s9, r9)) (hr : ∀ h1, sk_hp G s9 h1 → sk_fr none s h s9 h1 → Q r9 h1) : ky_Call G (d + 10) M_X11_beach [.ref a] h Q := by
  refine ky_ofV (by decide +kernel) rfl ok_X11_beach (Nat.le_of_ble_eq_true rfl) ?_
  have fr : sk_fr none s h s h := sk_fr.rf
  unfold x11_beach at e
  refine (?_ : ky_V _ _ _ 0 [(0, .ref a)] [] _ _)
  obtain ⟨za, e⟩ := ky_chkE e
  refine v_aload_n (i := 0) (j := 0) rfl rfl (?_ : ky_V _ _ _ 1 _ _ _ _)
  refine gf_X11_19 rfl (i := 1) rfl (oc_X11 hm (ly_X11_c za)) (sk_rf (ly_X11_r1 za)) (?_ : ky_V _ _ _ 4 _ (.ref (a + 3) :: _) _ _)
  refine v_aload_n (i := 2) (j := 0) rfl rfl (?_ : ky_V _ _ _ 5 _ _ _ _)
  refine gf_X11_10 rfl (i := 3) rfl (oc_X11 hm (ly_X11_c za)) (sk_rf (ly_X11_r0 za)) (?_ : ky_V _ _ _ 8 _ (.ref (a + 1) :: _) _ _)
  refine v_aload_n (i := 4) (j := 0) rfl rfl (?_ : ky_V _ _ _ 9 _ _ _ _)
  refine gf_X11_33 rfl (i := 5) rfl (oc_X11 hm (ly_X11_c za)) (sk_rf (ly_X11_r3 za)) (?_ : ky_V _ _ _ 12 _ (.ref (a + 12) :: _) _ _)
  refine gf_X11_63 rfl (i := 6) rfl (oc_X7 hm (ly_X7_c (ly_X11_l3 za))) (sk_rf (ly_X7_r2 (ly_X11_l3 za))) (?_ : ky_V _ _ _ 15 _ (.ref (a + 16) :: _) _ _)
  refine gf_X11_67 rfl (i := 7) rfl (oc_X8 hm (ly_X8_c (ly_X7_l2 (ly_X11_l3 za)))) rfl (?_ : ky_V _ _ _ 18 _ _ _ _)
  obtain ⟨⟨q2, x3⟩, g4, e⟩ := Option.bind_eq_some_iff.mp e
  refine cl_X11_72 (As := [.ref ((a + 1)), .int ((sk_c s (a + 16) 6))]) rfl (i := 8) rfl (oc_X0 hm (ly_X0_c (ly_X11_l1 za))) rfl rfl (Nat.le_of_ble_eq_true rfl) (k_X0_reads N hG hm g4 (fun h1 hmh1 frh1 => ⟨_, rfl, (?_ : ky_V _ _ _ 21 _ [.int x3] _ _)⟩))
  have frh1 := fr.tr frh1
  refine v_istore_n (L' := [(0, .ref a), (1, .int x3)]) [1, 0] (i := 9) rfl (Nat.le_of_ble_eq_true rfl) rfl (?_ : ky_V _ _ _ 22 _ _ _ _)
  refine v_aload_n (i := 10) (j := 0) rfl rfl (?_ : ky_V _ _ _ 23 _ _ _ _)
  refine v_iload_n (i := 11) (j := 1) rfl rfl (?_ : ky_V _ _ _ 24 _ _ _ _)
  obtain ⟨⟨q6, x7⟩, g8, e⟩ := Option.bind_eq_some_iff.mp e
  refine cl_X11_76 (As := [.int x3]) rfl (i := 12) rfl (oc_X11 hmh1 (ly_X11_c (lt_X11 frh1 za))) rfl rfl (Nat.le_of_ble_eq_true rfl) (k_X11_useTapeUp N hG hmh1 g8 (fun h5 hmh5 frh5 => ⟨_, rfl, (?_ : ky_V _ _ _ 27 _ [] _ _)⟩))
  have frh5 := frh1.tr frh5
  refine v_iload_n (i := 13) (j := 1) rfl rfl (?_ : ky_V _ _ _ 28 _ _ _ _)
  refine v_if_ne (tgt := 41) (i := 14) rfl (by decide) (fun c9 => ?_) (fun c9 => ?_)
  · replace e := ky_ifF c9 e
    refine v_aload_n (i := 20) (j := 0) rfl rfl (?_ : ky_V _ _ _ 42 _ _ _ _)
    refine gf_X11_33 rfl (i := 21) rfl (oc_X11 hmh5 (ly_X11_c (lt_X11 frh5 za))) (sk_rf (ly_X11_r3 (lt_X11 frh5 za))) (?_ : ky_V _ _ _ 45 _ (.ref (a + 12) :: _) _ _)
    refine gf_X11_87 rfl (i := 22) rfl (oc_X7 hmh5 (ly_X7_c (ly_X11_l3 (lt_X11 frh5 za)))) rfl (?_ : ky_V _ _ _ 48 _ _ _ _)
    refine v_bipush (v := 12) (i := 23) rfl (by decide) (?_ : ky_V _ _ _ 50 _ _ _ _)
    refine v_icmp_lt (tgt := 63) (i := 24) rfl (by decide) (fun c10 => ?_) (fun c10 => ?_)
    · replace e := ky_ifT c10 e
      refine v_aload_n (i := 30) (j := 0) rfl rfl (?_ : ky_V _ _ _ 64 _ _ _ _)
      refine gf_X11_19 rfl (i := 31) rfl (oc_X11 hmh5 (ly_X11_c (lt_X11 frh5 za))) (sk_rf (ly_X11_r1 (lt_X11 frh5 za))) (?_ : ky_V _ _ _ 67 _ (.ref (a + 3) :: _) _ _)
      refine v_aload_n (i := 32) (j := 0) rfl rfl (?_ : ky_V _ _ _ 68 _ _ _ _)
      refine gf_X11_33 rfl (i := 33) rfl (oc_X11 hmh5 (ly_X11_c (lt_X11 frh5 za))) (sk_rf (ly_X11_r3 (lt_X11 frh5 za))) (?_ : ky_V _ _ _ 71 _ (.ref (a + 12) :: _) _ _)
      obtain ⟨⟨q12, x13⟩, g14, e⟩ := Option.bind_eq_some_iff.mp e
      refine cl_X11_95 (As := [.ref ((a + 12))]) rfl (i := 34) rfl (oc_X0 hmh5 (ly_X0_c (ly_X11_l1 (lt_X11 frh5 za)))) rfl rfl (Nat.le_of_ble_eq_true rfl) (k_X0_tell N hG hmh5 g14 (fun h11 hmh11 frh11 => ⟨_, rfl, (?_ : ky_V _ _ _ 74 _ [] _ _)⟩))
      have frh11 := frh5.tr frh11
      refine v_aload_n (i := 35) (j := 0) rfl rfl (?_ : ky_V _ _ _ 75 _ _ _ _)
      refine gf_X11_33 rfl (i := 36) rfl (oc_X11 hmh11 (ly_X11_c (lt_X11 frh11 za))) (sk_rf (ly_X11_r3 (lt_X11 frh11 za))) (?_ : ky_V _ _ _ 78 _ (.ref (a + 12) :: _) _ _)
      refine v_dup (i := 37) rfl rfl (?_ : ky_V _ _ _ 79 _ _ _ _)
      refine gf_X11_87 rfl (i := 38) rfl (oc_X7 hmh11 (ly_X7_c (ly_X11_l3 (lt_X11 frh11 za)))) rfl (?_ : ky_V _ _ _ 82 _ _ _ _)
      refine v_iconst (v := 1) (i := 39) rfl (by decide) (?_ : ky_V _ _ _ 83 _ _ _ _)
      refine v_iadd (i := 40) rfl (?_ : ky_V _ _ _ 84 _ _ _ _)
      refine v_topi (fun x15 ex15 => ?_)
      replace e := ky_letE ex15 e
      refine pf_X11_87 rfl (i := 41) rfl (oc_X7 hmh11 (ly_X7_c (ly_X11_l3 (lt_X11 frh11 za)))) (Nat.le_of_ble_eq_true rfl) rfl rfl ?_
      refine sk_stc (kd := 6) (n := 0) hmh11 frh11 (ly_X7_c (ly_X11_l3 (lt_X11 frh11 za))) 4 x15 (fun h16 hmh16 frh16 => ?_)
      obtain ⟨q17, eq17⟩ : ∃ z, z = (sk_wc q12 (a + 12) 4 x15) := ⟨_, rfl⟩
      rw [← eq17] at hmh16 frh16
      replace e := ky_letE eq17 e
      refine (?_ : ky_V _ _ _ 87 _ _ _ _)
      refine v_aload_n (i := 42) (j := 0) rfl rfl (?_ : ky_V _ _ _ 88 _ _ _ _)
      obtain ⟨⟨q19, x20⟩, g21, e⟩ := Option.bind_eq_some_iff.mp e
      refine cl_X11_99 (As := []) rfl (i := 43) rfl (oc_X11 hmh16 (ly_X11_c (lt_X11 frh16 za))) rfl rfl (Nat.le_of_ble_eq_true rfl) (k_X11_forgetPast N hG hmh16 g21 (fun h18 hmh18 frh18 => ⟨_, rfl, (?_ : ky_V _ _ _ 91 _ [] _ _)⟩))
      have frh18 := frh16.tr frh18
      refine v_aload_n (i := 44) (j := 0) rfl rfl (?_ : ky_V _ _ _ 92 _ _ _ _)
      refine gf_X11_33 rfl (i := 45) rfl (oc_X11 hmh18 (ly_X11_c (lt_X11 frh18 za))) (sk_rf (ly_X11_r3 (lt_X11 frh18 za))) (?_ : ky_V _ _ _ 95 _ (.ref (a + 12) :: _) _ _)
      refine gf_X11_87 rfl (i := 46) rfl (oc_X7 hmh18 (ly_X7_c (ly_X11_l3 (lt_X11 frh18 za)))) rfl (?_ : ky_V _ _ _ 98 _ _ _ _)
      refine v_iret (v := (sk_c q19 (a + 12) 4)) (ty := .int) (i := 47) rfl rfl rfl ?_
      obtain ⟨rfl, rfl⟩ := ky_leaf e
      exact hr _ hmh18 frh18
    · replace e := ky_ifF c10 e
      obtain ⟨s22, hvs22, -⟩ := sg_X11_92 hG
      refine v_throwS (i0 := 25) (i1 := 26) (i2 := 27) (i3 := 28) (i4 := 29) te_X11_90_94 ky_ts hG hvs22 rfl rfl rfl rfl rfl rfl (Nat.le_of_ble_eq_true rfl) ?_
      obtain ⟨rfl, rfl⟩ := ky_leaf e
      exact hr _ (sk_hpJ hmh5) (sk_frJ hmh5 frh5)
  · replace e := ky_ifT c9 e
    obtain ⟨s23, hvs23, -⟩ := sg_X11_82 hG
    refine v_throwS (i0 := 15) (i1 := 16) (i2 := 17) (i3 := 18) (i4 := 19) te_X11_80_84 ky_ts hG hvs23 rfl rfl rfl rfl rfl rfl (Nat.le_of_ble_eq_true rfl) ?_
    obtain ⟨rfl, rfl⟩ := ky_leaf e
    exact hr _ (sk_hpJ hmh5) (sk_frJ hmh5 frh5)

def x11_helps (N : Nat)  (s : sk_S) (a : Nat) (p1 : Int32) : Option (sk_S × Int32) := (if lay_X11 (sk_K s) (sk_r s) a = true then ((x11_waysAsItIs N s a).bind (fun zz => (fun q2 l3 => (if lay_X10 (sk_K q2) (sk_r q2) l3 = true then ((x10_search N q2 l3 (sk_c q2 (a + 13) 0) 127 1).bind (fun zz => (fun q7 x8 => (if x8 = (-1 : Int32) then (some (q7, (-1))) else (if lay_X10 (sk_K q7) (sk_r q7) l3 = true then ((x10_search N q7 l3 (sk_c q7 (a + 13) 0) ((127 : Int32) &&& (((1 : Int32) <<< (p1 &&& 31)) ^^^ (-1))) 1).bind (fun zz => (fun q13 x14 => (if x14 = (-1 : Int32) then (some (q13, (-3))) else (some (q13, (x14 - x8))))) zz.1 zz.2)) else none))) zz.1 zz.2)) else none)) zz.1 zz.2)) else none)
set_option maxRecDepth 20000 in
set_option maxHeartbeats 4000000 in
theorem k_X11_helps {G : ky_GW} {d : Nat} {h : ky_HP} {Q : ky_RS → ky_HP → Prop} {s s9 : sk_S} {r9 : Int32} {a : Nat} {p1 : Int32} (N : Nat) (hG : ky_OK G)   (hm : sk_hp G s h)  (e : x11_helps N  s a p1 = some (s9, r9)) (hr : ∀ h1, sk_hp G s9 h1 → sk_fr none s h s9 h1 → Q (.inl (some (.int r9))) h1) : ky_Call G (d + 6) M_X11_helps [.ref a, .int p1] h Q := by
  refine ky_ofV (by decide +kernel) rfl ok_X11_helps (Nat.le_of_ble_eq_true rfl) ?_
  have fr : sk_fr none s h s h := sk_fr.rf
  unfold x11_helps at e
  refine (?_ : ky_V _ _ _ 0 [(0, .ref a), (1, .int p1)] [] _ _)
  obtain ⟨za, e⟩ := ky_chkE e
  refine v_aload_n (i := 0) (j := 0) rfl rfl (?_ : ky_V _ _ _ 1 _ _ _ _)
  obtain ⟨⟨q2, l3⟩, g4, e⟩ := Option.bind_eq_some_iff.mp e
  refine cl_X11_280 (As := []) rfl (i := 1) rfl (oc_X11 hm (ly_X11_c za)) rfl rfl (Nat.le_of_ble_eq_true rfl) (k_X11_waysAsItIs N hG hm g4 (fun h1 hmh1 frh1 => ⟨_, rfl, (?_ : ky_V _ _ _ 4 _ [.ref l3] _ _)⟩))
  have frh1 := fr.tr frh1
  refine v_astore_n (L' := [(0, .ref a), (1, .int p1), (2, .ref l3)]) [1, 2, 0] (i := 2) rfl (Nat.le_of_ble_eq_true rfl) rfl (?_ : ky_V _ _ _ 5 _ _ _ _)
  refine v_aload_n (i := 3) (j := 2) rfl rfl (?_ : ky_V _ _ _ 6 _ _ _ _)
  refine v_aload_n (i := 4) (j := 0) rfl rfl (?_ : ky_V _ _ _ 7 _ _ _ _)
  refine gf_X11_33 rfl (i := 5) rfl (oc_X11 hmh1 (ly_X11_c (lt_X11 frh1 za))) (sk_rf (ly_X11_r3 (lt_X11 frh1 za))) (?_ : ky_V _ _ _ 10 _ (.ref (a + 12) :: _) _ _)
  refine gf_X11_191 rfl (i := 6) rfl (oc_X7 hmh1 (ly_X7_c (ly_X11_l3 (lt_X11 frh1 za)))) (sk_rf (ly_X7_r0 (ly_X11_l3 (lt_X11 frh1 za)))) (?_ : ky_V _ _ _ 13 _ (.ref (a + 13) :: _) _ _)
  refine gf_X11_209 rfl (i := 7) rfl (oc_X1 hmh1 (ly_X1_c (ly_X7_l0 (ly_X11_l3 (lt_X11 frh1 za))))) rfl (?_ : ky_V _ _ _ 16 _ _ _ _)
  refine v_bipush (v := 127) (i := 8) rfl (by decide) (?_ : ky_V _ _ _ 18 _ _ _ _)
  refine v_iconst (v := 1) (i := 9) rfl (by decide) (?_ : ky_V _ _ _ 19 _ _ _ _)
  obtain ⟨z5, e⟩ := ky_chkE e
  obtain ⟨⟨q7, x8⟩, g9, e⟩ := Option.bind_eq_some_iff.mp e
  refine cl_X11_451 (As := [.int ((sk_c q2 (a + 13) 0)), .int 127, .int 1]) rfl (i := 10) rfl (oc_X10 hmh1 (ly_X10_c z5)) rfl rfl (Nat.le_of_ble_eq_true rfl) (k_X10_search N hG hmh1 g9 (fun h6 hmh6 frh6 => ⟨_, rfl, (?_ : ky_V _ _ _ 22 _ [.int x8] _ _)⟩))
  have frh6 := frh1.tr frh6
  refine v_istore_n (L' := [(0, .ref a), (1, .int p1), (2, .ref l3), (3, .int x8)]) [1, 2, 3, 0] (i := 11) rfl (Nat.le_of_ble_eq_true rfl) rfl (?_ : ky_V _ _ _ 23 _ _ _ _)
  refine v_iload_n (i := 12) (j := 3) rfl rfl (?_ : ky_V _ _ _ 24 _ _ _ _)
  refine v_iconst (v := (-1)) (i := 13) rfl (by decide) (?_ : ky_V _ _ _ 25 _ _ _ _)
  refine v_icmp_ne (tgt := 30) (i := 14) rfl (by decide) (fun c10 => ?_) (fun c10 => ?_)
  · replace e := ky_ifF c10 e
    refine v_aload_n (i := 17) (j := 2) rfl rfl (?_ : ky_V _ _ _ 31 _ _ _ _)
    refine v_aload_n (i := 18) (j := 0) rfl rfl (?_ : ky_V _ _ _ 32 _ _ _ _)
    refine gf_X11_33 rfl (i := 19) rfl (oc_X11 hmh6 (ly_X11_c (lt_X11 frh6 za))) (sk_rf (ly_X11_r3 (lt_X11 frh6 za))) (?_ : ky_V _ _ _ 35 _ (.ref (a + 12) :: _) _ _)
    refine gf_X11_191 rfl (i := 20) rfl (oc_X7 hmh6 (ly_X7_c (ly_X11_l3 (lt_X11 frh6 za)))) (sk_rf (ly_X7_r0 (ly_X11_l3 (lt_X11 frh6 za)))) (?_ : ky_V _ _ _ 38 _ (.ref (a + 13) :: _) _ _)
    refine gf_X11_209 rfl (i := 21) rfl (oc_X1 hmh6 (ly_X1_c (ly_X7_l0 (ly_X11_l3 (lt_X11 frh6 za))))) rfl (?_ : ky_V _ _ _ 41 _ _ _ _)
    refine v_bipush (v := 127) (i := 22) rfl (by decide) (?_ : ky_V _ _ _ 43 _ _ _ _)
    refine v_iconst (v := 1) (i := 23) rfl (by decide) (?_ : ky_V _ _ _ 44 _ _ _ _)
    refine v_iload_n (i := 24) (j := 1) rfl rfl (?_ : ky_V _ _ _ 45 _ _ _ _)
    refine v_ishl (i := 25) rfl (?_ : ky_V _ _ _ 46 _ _ _ _)
    refine v_iconst (v := (-1)) (i := 26) rfl (by decide) (?_ : ky_V _ _ _ 47 _ _ _ _)
    refine v_ixor (i := 27) rfl (?_ : ky_V _ _ _ 48 _ _ _ _)
    refine v_iand (i := 28) rfl (?_ : ky_V _ _ _ 49 _ _ _ _)
    refine v_iconst (v := 1) (i := 29) rfl (by decide) (?_ : ky_V _ _ _ 50 _ _ _ _)
    obtain ⟨z11, e⟩ := ky_chkE e
    obtain ⟨⟨q13, x14⟩, g15, e⟩ := Option.bind_eq_some_iff.mp e
    refine cl_X11_451 (As := [.int ((sk_c q7 (a + 13) 0)), .int (((127 : Int32) &&& (((1 : Int32) <<< (p1 &&& 31)) ^^^ (-1)))), .int 1]) rfl (i := 30) rfl (oc_X10 hmh6 (ly_X10_c z11)) rfl rfl (Nat.le_of_ble_eq_true rfl) (k_X10_search N hG hmh6 g15 (fun h12 hmh12 frh12 => ⟨_, rfl, (?_ : ky_V _ _ _ 53 _ [.int x14] _ _)⟩))
    have frh12 := frh6.tr frh12
    refine v_istore (L' := [(0, .ref a), (1, .int p1), (2, .ref l3), (3, .int x8), (4, .int x14)]) [1, 2, 3, 4, 0] (i := 31) rfl (Nat.le_of_ble_eq_true rfl) rfl (?_ : ky_V _ _ _ 55 _ _ _ _)
    refine v_iload (i := 32) (j := 4) rfl rfl (?_ : ky_V _ _ _ 57 _ _ _ _)
    refine v_iconst (v := (-1)) (i := 33) rfl (by decide) (?_ : ky_V _ _ _ 58 _ _ _ _)
    refine v_icmp_ne (tgt := 66) (i := 34) rfl (by decide) (fun c16 => ?_) (fun c16 => ?_)
    · replace e := ky_ifF c16 e
      refine v_iload (i := 37) (j := 4) rfl rfl (?_ : ky_V _ _ _ 68 _ _ _ _)
      refine v_iload_n (i := 38) (j := 3) rfl rfl (?_ : ky_V _ _ _ 69 _ _ _ _)
      refine v_isub (i := 39) rfl (?_ : ky_V _ _ _ 70 _ _ _ _)
      refine v_iret (v := (x14 - x8)) (ty := .int) (i := 40) rfl rfl rfl ?_
      obtain ⟨rfl, rfl⟩ := ky_leaf e
      exact hr _ hmh12 frh12
    · replace e := ky_ifT c16 e
      refine v_bipush (v := (-3)) (i := 35) rfl (by decide) (?_ : ky_V _ _ _ 63 _ _ _ _)
      refine v_goto (tgt := 70) (i := 36) rfl (by decide) (?_ : ky_V _ _ _ 70 _ _ _ _)
      refine v_iret (v := (-3)) (ty := .int) (i := 40) rfl rfl rfl ?_
      obtain ⟨rfl, rfl⟩ := ky_leaf e
      exact hr _ hmh12 frh12
  · replace e := ky_ifT c10 e
    refine v_iconst (v := (-1)) (i := 15) rfl (by decide) (?_ : ky_V _ _ _ 29 _ _ _ _)
    refine v_iret (v := (-1)) (ty := .int) (i := 16) rfl rfl rfl ?_
    obtain ⟨rfl, rfl⟩ := ky_leaf e
    exact hr _ hmh6 frh6

def x11_person (N : Nat)  (s : sk_S) (a : Nat) (p1 : Int32) (p2 : Int32) : Option (sk_S × ky_RS) := (if lay_X11 (sk_K s) (sk_r s) a = true then ((x11_isPerson N s a p1).bind (fun zz => (fun q2 x3 => (if x3 = 0 then (some ((sk_rs q2 6), (.inr "java/lang/IndexOutOfBoundsException"))) else (if p2 = 0 then (if ky_inB p1 6 = true then (some (q2, (.inl (some (.int (sk_c q2 (a + 18) (Int32.toNatClampNeg p1))))))) else none) else (if p2 = 1 then (if ky_inB p1 6 = true then (some (q2, (.inl (some (.int (sk_c q2 (a + 19) (Int32.toNatClampNeg p1))))))) else none) else (if p2 = 2 then ((x8_boardsToCome N q2 (a + 16) p1).bind (fun zz => (fun q12 x13 => (some (q12, (.inl (some (.int x13)))))) zz.1 zz.2)) else (if p2 = 3 then ((x8_farthest N q2 (a + 16) p1).bind (fun zz => (fun q17 x18 => (some (q17, (.inl (some (.int x18)))))) zz.1 zz.2)) else (some ((sk_rs q2 6), (.inr "java/util/NoSuchElementException"))))))))) zz.1 zz.2)) else none)
set_option maxRecDepth 20000 in
set_option maxHeartbeats 4000000 in
theorem k_X11_person {G : ky_GW} {d : Nat} {h : ky_HP} {Q : ky_RS → ky_HP → Prop} {s s9 : sk_S} {r9 : ky_RS} {a : Nat} {p1 : Int32} {p2 : Int32} (N : Nat) (hG : ky_OK G)   (hm : sk_hp G s h)  (e : x11_person N  s a p1 p2 = some (s9, r9)) (hr : ∀ h1, sk_hp G s9 h1 → sk_fr none s h s9 h1 → Q r9 h1) : ky_Call G (d + 6) M_X11_person [.ref a, .int p1, .int p2] h Q := by
  refine ky_ofV (by decide +kernel) rfl ok_X11_person (Nat.le_of_ble_eq_true rfl) ?_
  have fr : sk_fr none s h s h := sk_fr.rf
  unfold x11_person at e
  refine (?_ : ky_V _ _ _ 0 [(0, .ref a), (1, .int p1), (2, .int p2)] [] _ _)
  obtain ⟨za, e⟩ := ky_chkE e
  refine v_aload_n (i := 0) (j := 0) rfl rfl (?_ : ky_V _ _ _ 1 _ _ _ _)
  refine v_iload_n (i := 1) (j := 1) rfl rfl (?_ : ky_V _ _ _ 2 _ _ _ _)
  obtain ⟨⟨q2, x3⟩, g4, e⟩ := Option.bind_eq_some_iff.mp e
  refine cl_X11_169 (As := [.int p1]) rfl (i := 2) rfl (oc_X11 hm (ly_X11_c za)) rfl rfl (Nat.le_of_ble_eq_true rfl) (k_X11_isPerson N hG hm g4 (fun h1 hmh1 frh1 => ⟨_, rfl, (?_ : ky_V _ _ _ 5 _ [.int x3] _ _)⟩))
  have frh1 := fr.tr frh1
  refine v_if_ne (tgt := 18) (i := 3) rfl (by decide) (fun c5 => ?_) (fun c5 => ?_)
  · replace e := ky_ifF c5 e
    refine v_iload_n (i := 9) (j := 2) rfl rfl (?_ : ky_V _ _ _ 19 _ _ _ _)
    rcases Classical.em (p2 = 0) with c6 | c6
    · replace e := ky_ifT c6 e
      refine v_tableIn (off := 29) (tgt := 48) (i := 10) rfl (by rw [c6]; decide) (by rw [c6]; decide) (by rw [c6]; rfl) (by decide) ?_
      refine v_aload_n (i := 11) (j := 0) rfl rfl (?_ : ky_V _ _ _ 49 _ _ _ _)
      refine gf_X11_33 rfl (i := 12) rfl (oc_X11 hmh1 (ly_X11_c (lt_X11 frh1 za))) (sk_rf (ly_X11_r3 (lt_X11 frh1 za))) (?_ : ky_V _ _ _ 52 _ (.ref (a + 12) :: _) _ _)
      refine gf_X11_63 rfl (i := 13) rfl (oc_X7 hmh1 (ly_X7_c (ly_X11_l3 (lt_X11 frh1 za)))) (sk_rf (ly_X7_r2 (ly_X11_l3 (lt_X11 frh1 za)))) (?_ : ky_V _ _ _ 55 _ (.ref (a + 16) :: _) _ _)
      refine gf_X11_174 rfl (i := 14) rfl (oc_X8 hmh1 (ly_X8_c (ly_X7_l2 (ly_X11_l3 (lt_X11 frh1 za))))) (sk_rf (ly_X8_r1 (ly_X7_l2 (ly_X11_l3 (lt_X11 frh1 za))))) (?_ : ky_V _ _ _ 58 _ (.ref (a + 18) :: _) _ _)
      refine v_iload_n (i := 15) (j := 1) rfl rfl (?_ : ky_V _ _ _ 59 _ _ _ _)
      obtain ⟨z7, e⟩ := ky_chkE e
      refine v_iald (i := 16) rfl (oa_21 hmh1 (ly_X8_k1 (ly_X7_l2 (ly_X11_l3 (lt_X11 frh1 za))))) (ky_inb z7) (?_ : ky_V _ _ _ 60 _ (.int (sk_c q2 (a + 18) (Int32.toNatClampNeg p1)) :: _) _ _)
      refine v_iret (v := (sk_c q2 (a + 18) (Int32.toNatClampNeg p1))) (ty := .int) (i := 17) rfl rfl rfl ?_
      obtain ⟨rfl, rfl⟩ := ky_leaf e
      exact hr _ hmh1 frh1
    · replace e := ky_ifF c6 e
      rcases Classical.em (p2 = 1) with c8 | c8
      · replace e := ky_ifT c8 e
        refine v_tableIn (off := 42) (tgt := 61) (i := 10) rfl (by rw [c8]; decide) (by rw [c8]; decide) (by rw [c8]; rfl) (by decide) ?_
        refine v_aload_n (i := 18) (j := 0) rfl rfl (?_ : ky_V _ _ _ 62 _ _ _ _)
        refine gf_X11_33 rfl (i := 19) rfl (oc_X11 hmh1 (ly_X11_c (lt_X11 frh1 za))) (sk_rf (ly_X11_r3 (lt_X11 frh1 za))) (?_ : ky_V _ _ _ 65 _ (.ref (a + 12) :: _) _ _)
        refine gf_X11_63 rfl (i := 20) rfl (oc_X7 hmh1 (ly_X7_c (ly_X11_l3 (lt_X11 frh1 za)))) (sk_rf (ly_X7_r2 (ly_X11_l3 (lt_X11 frh1 za)))) (?_ : ky_V _ _ _ 68 _ (.ref (a + 16) :: _) _ _)
        refine gf_X11_177 rfl (i := 21) rfl (oc_X8 hmh1 (ly_X8_c (ly_X7_l2 (ly_X11_l3 (lt_X11 frh1 za))))) (sk_rf (ly_X8_r2 (ly_X7_l2 (ly_X11_l3 (lt_X11 frh1 za))))) (?_ : ky_V _ _ _ 71 _ (.ref (a + 19) :: _) _ _)
        refine v_iload_n (i := 22) (j := 1) rfl rfl (?_ : ky_V _ _ _ 72 _ _ _ _)
        obtain ⟨z9, e⟩ := ky_chkE e
        refine v_iald (i := 23) rfl (oa_21 hmh1 (ly_X8_k2 (ly_X7_l2 (ly_X11_l3 (lt_X11 frh1 za))))) (ky_inb z9) (?_ : ky_V _ _ _ 73 _ (.int (sk_c q2 (a + 19) (Int32.toNatClampNeg p1)) :: _) _ _)
        refine v_iret (v := (sk_c q2 (a + 19) (Int32.toNatClampNeg p1))) (ty := .int) (i := 24) rfl rfl rfl ?_
        obtain ⟨rfl, rfl⟩ := ky_leaf e
        exact hr _ hmh1 frh1
      · replace e := ky_ifF c8 e
        rcases Classical.em (p2 = 2) with c10 | c10
        · replace e := ky_ifT c10 e
          refine v_tableIn (off := 55) (tgt := 74) (i := 10) rfl (by rw [c10]; decide) (by rw [c10]; decide) (by rw [c10]; rfl) (by decide) ?_
          refine v_aload_n (i := 25) (j := 0) rfl rfl (?_ : ky_V _ _ _ 75 _ _ _ _)
          refine gf_X11_33 rfl (i := 26) rfl (oc_X11 hmh1 (ly_X11_c (lt_X11 frh1 za))) (sk_rf (ly_X11_r3 (lt_X11 frh1 za))) (?_ : ky_V _ _ _ 78 _ (.ref (a + 12) :: _) _ _)
          refine gf_X11_63 rfl (i := 27) rfl (oc_X7 hmh1 (ly_X7_c (ly_X11_l3 (lt_X11 frh1 za)))) (sk_rf (ly_X7_r2 (ly_X11_l3 (lt_X11 frh1 za)))) (?_ : ky_V _ _ _ 81 _ (.ref (a + 16) :: _) _ _)
          refine v_iload_n (i := 28) (j := 1) rfl rfl (?_ : ky_V _ _ _ 82 _ _ _ _)
          obtain ⟨⟨q12, x13⟩, g14, e⟩ := Option.bind_eq_some_iff.mp e
          refine cl_X11_180 (As := [.int p1]) rfl (i := 29) rfl (oc_X8 hmh1 (ly_X8_c (ly_X7_l2 (ly_X11_l3 (lt_X11 frh1 za))))) rfl rfl (Nat.le_of_ble_eq_true rfl) (k_X8_boardsToCome N hG hmh1 g14 (fun h11 hmh11 frh11 => ⟨_, rfl, (?_ : ky_V _ _ _ 85 _ [.int x13] _ _)⟩))
          have frh11 := frh1.tr frh11
          refine v_iret (v := x13) (ty := .int) (i := 30) rfl rfl rfl ?_
          obtain ⟨rfl, rfl⟩ := ky_leaf e
          exact hr _ hmh11 frh11
        · replace e := ky_ifF c10 e
          rcases Classical.em (p2 = 3) with c15 | c15
          · replace e := ky_ifT c15 e
            refine v_tableIn (off := 67) (tgt := 86) (i := 10) rfl (by rw [c15]; decide) (by rw [c15]; decide) (by rw [c15]; rfl) (by decide) ?_
            refine v_aload_n (i := 31) (j := 0) rfl rfl (?_ : ky_V _ _ _ 87 _ _ _ _)
            refine gf_X11_33 rfl (i := 32) rfl (oc_X11 hmh1 (ly_X11_c (lt_X11 frh1 za))) (sk_rf (ly_X11_r3 (lt_X11 frh1 za))) (?_ : ky_V _ _ _ 90 _ (.ref (a + 12) :: _) _ _)
            refine gf_X11_63 rfl (i := 33) rfl (oc_X7 hmh1 (ly_X7_c (ly_X11_l3 (lt_X11 frh1 za)))) (sk_rf (ly_X7_r2 (ly_X11_l3 (lt_X11 frh1 za)))) (?_ : ky_V _ _ _ 93 _ (.ref (a + 16) :: _) _ _)
            refine v_iload_n (i := 34) (j := 1) rfl rfl (?_ : ky_V _ _ _ 94 _ _ _ _)
            obtain ⟨⟨q17, x18⟩, g19, e⟩ := Option.bind_eq_some_iff.mp e
            refine cl_X11_183 (As := [.int p1]) rfl (i := 35) rfl (oc_X8 hmh1 (ly_X8_c (ly_X7_l2 (ly_X11_l3 (lt_X11 frh1 za))))) rfl rfl (Nat.le_of_ble_eq_true rfl) (k_X8_farthest N hG hmh1 g19 (fun h16 hmh16 frh16 => ⟨_, rfl, (?_ : ky_V _ _ _ 97 _ [.int x18] _ _)⟩))
            have frh16 := frh1.tr frh16
            refine v_iret (v := x18) (ty := .int) (i := 36) rfl rfl rfl ?_
            obtain ⟨rfl, rfl⟩ := ky_leaf e
            exact hr _ hmh16 frh16
          · replace e := ky_ifF c15 e
            refine v_tableOut (tgt := 98) (i := 10) rfl (ky_swO (fun z h1 h2 => ?_)) (by decide) ?_
            · intro hz
              have h3 : z = 0 ∨ z = 1 ∨ z = 2 ∨ z = 3 := by omega
              rcases h3 with h3 | h3 | h3 | h3 <;> subst h3
              · exact c6 (Int32.toInt_inj.mp (hz.trans (by decide)))
              · exact c8 (Int32.toInt_inj.mp (hz.trans (by decide)))
              · exact c10 (Int32.toInt_inj.mp (hz.trans (by decide)))
              · exact c15 (Int32.toInt_inj.mp (hz.trans (by decide)))
            · obtain ⟨s20, hvs20, -⟩ := sg_X11_135 hG
              refine v_throwN (rx := prog_35_method_4_code) (i0 := 37) (i1 := 38) (i2 := 39) (i3 := 40) (i4 := 41) (by decide +kernel) (by decide +kernel) (by decide +kernel) (by decide +kernel) tn_X11_133_137 ky_ts hG hvs20 rfl rfl rfl rfl rfl rfl (Nat.le_of_ble_eq_true rfl) ?_
              obtain ⟨rfl, rfl⟩ := ky_leaf e
              exact hr _ (sk_hpJ hmh1) (sk_frJ hmh1 frh1)
  · replace e := ky_ifT c5 e
    obtain ⟨s21, hvs21, -⟩ := sg_X11_172 hG
    refine v_throwS (i0 := 4) (i1 := 5) (i2 := 6) (i3 := 7) (i4 := 8) te_X11_128_132 ky_ts hG hvs21 rfl rfl rfl rfl rfl rfl (Nat.le_of_ble_eq_true rfl) ?_
    obtain ⟨rfl, rfl⟩ := ky_leaf e
    exact hr _ (sk_hpJ hmh1) (sk_frJ hmh1 frh1)

def x11_moved (N : Nat)  (s : sk_S) (a : Nat) (p1 : Int32) (p2 : Int32) : Option (sk_S × ky_RS) := (if lay_X11 (sk_K s) (sk_r s) a = true then (if (ws_isMove p1) = 0 then (some ((sk_rs s 6), (.inr "java/lang/IndexOutOfBoundsException"))) else (if (ws_isLeg p2) = 0 then (some ((sk_rs s 6), (.inr "java/lang/IndexOutOfBoundsException"))) else ((x1_isStill N s (a + 13)).bind (fun zz => (fun q5 x6 => (if x6 = 0 then ((x11_remember N q5 a).bind (fun zz => (fun q10 x11 => ((x7_makeMove N q10 (a + 12) p1 p2).bind (fun zz => (fun q14 x15 => (some (q14, (.inl (some (.int (po_together (sk_c q14 (a + 13) 0)))))))) zz.1 zz.2))) zz.1 zz.2)) else (some ((sk_rs q5 6), (.inr "java/lang/IllegalStateException"))))) zz.1 zz.2)))) else none)
set_option maxRecDepth 20000 in
set_option maxHeartbeats 4000000 in
theorem k_X11_moved {G : ky_GW} {d : Nat} {h : ky_HP} {Q : ky_RS → ky_HP → Prop} {s s9 : sk_S} {r9 : ky_RS} {a : Nat} {p1 : Int32} {p2 : Int32} (N : Nat) (hG : ky_OK G)   (hm : sk_hp G s h)  (e : x11_moved N  s a p1 p2 = some (s9, r9)) (hr : ∀ h1, sk_hp G s9 h1 → sk_fr none s h s9 h1 → Q r9 h1) : ky_Call G (d + 6) M_X11_moved [.ref a, .int p1, .int p2] h Q := by
  refine ky_ofV (by decide +kernel) rfl ok_X11_moved (Nat.le_of_ble_eq_true rfl) ?_
  have fr : sk_fr none s h s h := sk_fr.rf
  unfold x11_moved at e
  refine (?_ : ky_V _ _ _ 0 [(0, .ref a), (1, .int p1), (2, .int p2)] [] _ _)
  obtain ⟨za, e⟩ := ky_chkE e
  refine v_iload_n (i := 0) (j := 1) rfl rfl (?_ : ky_V _ _ _ 1 _ _ _ _)
  refine cl_X11_124 (As := [.int p1]) rfl (i := 1) rfl rfl rfl (Nat.le_of_ble_eq_true rfl) (k_X11_isMove p1 ⟨_, rfl, (?_ : ky_V _ _ _ 4 _ [.int ((ws_isMove p1))] _ _)⟩)
  refine v_if_eq (tgt := 14) (i := 2) rfl (by decide) (fun c1 => ?_) (fun c1 => ?_)
  · replace e := ky_ifT c1 e
    obtain ⟨s2, hvs2, -⟩ := sg_X11_189 hG
    refine v_throwS (i0 := 6) (i1 := 7) (i2 := 8) (i3 := 9) (i4 := 10) te_X11_128_132 ky_ts hG hvs2 rfl rfl rfl rfl rfl rfl (Nat.le_of_ble_eq_true rfl) ?_
    obtain ⟨rfl, rfl⟩ := ky_leaf e
    exact hr _ (sk_hpJ hm) (sk_frJ hm fr)
  · replace e := ky_ifF c1 e
    refine v_iload_n (i := 3) (j := 2) rfl rfl (?_ : ky_V _ _ _ 8 _ _ _ _)
    refine cl_X11_186 (As := [.int p2]) rfl (i := 4) rfl rfl rfl (Nat.le_of_ble_eq_true rfl) (k_X11_isLeg p2 ⟨_, rfl, (?_ : ky_V _ _ _ 11 _ [.int ((ws_isLeg p2))] _ _)⟩)
    refine v_if_ne (tgt := 24) (i := 5) rfl (by decide) (fun c3 => ?_) (fun c3 => ?_)
    · replace e := ky_ifF c3 e
      refine v_aload_n (i := 11) (j := 0) rfl rfl (?_ : ky_V _ _ _ 25 _ _ _ _)
      refine gf_X11_33 rfl (i := 12) rfl (oc_X11 hm (ly_X11_c za)) (sk_rf (ly_X11_r3 za)) (?_ : ky_V _ _ _ 28 _ (.ref (a + 12) :: _) _ _)
      refine gf_X11_191 rfl (i := 13) rfl (oc_X7 hm (ly_X7_c (ly_X11_l3 za))) (sk_rf (ly_X7_r0 (ly_X11_l3 za))) (?_ : ky_V _ _ _ 31 _ (.ref (a + 13) :: _) _ _)
      obtain ⟨⟨q5, x6⟩, g7, e⟩ := Option.bind_eq_some_iff.mp e
      refine cl_X11_194 (As := []) rfl (i := 14) rfl (oc_X1 hm (ly_X1_c (ly_X7_l0 (ly_X11_l3 za)))) rfl rfl (Nat.le_of_ble_eq_true rfl) (k_X1_isStill N hG hm g7 (fun h4 hmh4 frh4 => ⟨_, rfl, (?_ : ky_V _ _ _ 34 _ [.int x6] _ _)⟩))
      have frh4 := fr.tr frh4
      refine v_if_eq (tgt := 47) (i := 15) rfl (by decide) (fun c8 => ?_) (fun c8 => ?_)
      · replace e := ky_ifT c8 e
        refine v_aload_n (i := 21) (j := 0) rfl rfl (?_ : ky_V _ _ _ 48 _ _ _ _)
        obtain ⟨⟨q10, x11⟩, g12, e⟩ := Option.bind_eq_some_iff.mp e
        refine cl_X11_202 (As := []) rfl (i := 22) rfl (oc_X11 hmh4 (ly_X11_c (lt_X11 frh4 za))) rfl rfl (Nat.le_of_ble_eq_true rfl) (k_X11_remember N hG hmh4 g12 (fun h9 hmh9 frh9 => ⟨_, rfl, (?_ : ky_V _ _ _ 51 _ [] _ _)⟩))
        have frh9 := frh4.tr frh9
        refine v_aload_n (i := 23) (j := 0) rfl rfl (?_ : ky_V _ _ _ 52 _ _ _ _)
        refine gf_X11_33 rfl (i := 24) rfl (oc_X11 hmh9 (ly_X11_c (lt_X11 frh9 za))) (sk_rf (ly_X11_r3 (lt_X11 frh9 za))) (?_ : ky_V _ _ _ 55 _ (.ref (a + 12) :: _) _ _)
        refine v_iload_n (i := 25) (j := 1) rfl rfl (?_ : ky_V _ _ _ 56 _ _ _ _)
        refine v_iload_n (i := 26) (j := 2) rfl rfl (?_ : ky_V _ _ _ 57 _ _ _ _)
        obtain ⟨⟨q14, x15⟩, g16, e⟩ := Option.bind_eq_some_iff.mp e
        refine cl_X11_205 (As := [.int p1, .int p2]) rfl (i := 27) rfl (oc_X7 hmh9 (ly_X7_c (ly_X11_l3 (lt_X11 frh9 za)))) rfl rfl (Nat.le_of_ble_eq_true rfl) (k_X7_makeMove N hG hmh9 g16 (fun h13 hmh13 frh13 => ⟨_, rfl, (?_ : ky_V _ _ _ 60 _ [] _ _)⟩))
        have frh13 := frh9.tr frh13
        refine v_aload_n (i := 28) (j := 0) rfl rfl (?_ : ky_V _ _ _ 61 _ _ _ _)
        refine gf_X11_33 rfl (i := 29) rfl (oc_X11 hmh13 (ly_X11_c (lt_X11 frh13 za))) (sk_rf (ly_X11_r3 (lt_X11 frh13 za))) (?_ : ky_V _ _ _ 64 _ (.ref (a + 12) :: _) _ _)
        refine gf_X11_191 rfl (i := 30) rfl (oc_X7 hmh13 (ly_X7_c (ly_X11_l3 (lt_X11 frh13 za)))) (sk_rf (ly_X7_r0 (ly_X11_l3 (lt_X11 frh13 za)))) (?_ : ky_V _ _ _ 67 _ (.ref (a + 13) :: _) _ _)
        refine gf_X11_209 rfl (i := 31) rfl (oc_X1 hmh13 (ly_X1_c (ly_X7_l0 (ly_X11_l3 (lt_X11 frh13 za))))) rfl (?_ : ky_V _ _ _ 70 _ _ _ _)
        refine cl_X11_212 (As := [.int ((sk_c q14 (a + 13) 0))]) rfl (i := 32) rfl rfl rfl (Nat.le_of_ble_eq_true rfl) (k_X5_together (sk_c q14 (a + 13) 0) ⟨_, rfl, (?_ : ky_V _ _ _ 73 _ [.int ((po_together (sk_c q14 (a + 13) 0)))] _ _)⟩)
        refine v_iret (v := (po_together (sk_c q14 (a + 13) 0))) (ty := .int) (i := 33) rfl rfl rfl ?_
        obtain ⟨rfl, rfl⟩ := ky_leaf e
        exact hr _ hmh13 frh13
      · replace e := ky_ifF c8 e
        obtain ⟨s17, hvs17, -⟩ := sg_X11_199 hG
        refine v_throwS (i0 := 16) (i1 := 17) (i2 := 18) (i3 := 19) (i4 := 20) te_X11_197_201 ky_ts hG hvs17 rfl rfl rfl rfl rfl rfl (Nat.le_of_ble_eq_true rfl) ?_
        obtain ⟨rfl, rfl⟩ := ky_leaf e
        exact hr _ (sk_hpJ hmh4) (sk_frJ hmh4 frh4)
    · replace e := ky_ifT c3 e
      obtain ⟨s18, hvs18, -⟩ := sg_X11_189 hG
      refine v_throwS (i0 := 6) (i1 := 7) (i2 := 8) (i3 := 9) (i4 := 10) te_X11_128_132 ky_ts hG hvs18 rfl rfl rfl rfl rfl rfl (Nat.le_of_ble_eq_true rfl) ?_
      obtain ⟨rfl, rfl⟩ := ky_leaf e
      exact hr _ (sk_hpJ hm) (sk_frJ hm fr)

def x11_run (N : Nat)  (s : sk_S) (a : Nat) (p1 : Int32) (p2 : Int32) : Option (sk_S × ky_RS) := (if lay_X11 (sk_K s) (sk_r s) a = true then (if (ws_isRun p1) = 0 then (some ((sk_rs s 6), (.inr "java/lang/IllegalArgumentException"))) else (if (ws_isForce p2) = 0 then (some ((sk_rs s 6), (.inr "java/lang/IllegalArgumentException"))) else ((x11_minuteByHelp N s a p1 p2).bind (fun zz => (fun q5 x6 => (some (q5, (.inl (some (.int x6)))))) zz.1 zz.2)))) else none)
set_option maxRecDepth 20000 in
set_option maxHeartbeats 4000000 in
theorem k_X11_run {G : ky_GW} {d : Nat} {h : ky_HP} {Q : ky_RS → ky_HP → Prop} {s s9 : sk_S} {r9 : ky_RS} {a : Nat} {p1 : Int32} {p2 : Int32} (N : Nat) (hG : ky_OK G)   (hm : sk_hp G s h)  (e : x11_run N  s a p1 p2 = some (s9, r9)) (hr : ∀ h1, sk_hp G s9 h1 → sk_fr none s h s9 h1 → Q r9 h1) : ky_Call G (d + 6) M_X11_run [.ref a, .int p1, .int p2] h Q := by
  refine ky_ofV (by decide +kernel) rfl ok_X11_run (Nat.le_of_ble_eq_true rfl) ?_
  have fr : sk_fr none s h s h := sk_fr.rf
  unfold x11_run at e
  refine (?_ : ky_V _ _ _ 0 [(0, .ref a), (1, .int p1), (2, .int p2)] [] _ _)
  obtain ⟨za, e⟩ := ky_chkE e
  refine v_iload_n (i := 0) (j := 1) rfl rfl (?_ : ky_V _ _ _ 1 _ _ _ _)
  refine cl_X11_311 (As := [.int p1]) rfl (i := 1) rfl rfl rfl (Nat.le_of_ble_eq_true rfl) (k_X11_isRun p1 ⟨_, rfl, (?_ : ky_V _ _ _ 4 _ [.int ((ws_isRun p1))] _ _)⟩)
  refine v_if_eq (tgt := 14) (i := 2) rfl (by decide) (fun c1 => ?_) (fun c1 => ?_)
  · replace e := ky_ifT c1 e
    obtain ⟨s2, hvs2, -⟩ := sg_X11_314 hG
    refine v_throwSW (i0 := 6) (i1 := 7) (i2 := 8) (i3 := 9) (i4 := 10) te_X11_80_84 ky_ts hG hvs2 rfl rfl rfl rfl rfl rfl (Nat.le_of_ble_eq_true rfl) ?_
    obtain ⟨rfl, rfl⟩ := ky_leaf e
    exact hr _ (sk_hpJ hm) (sk_frJ hm fr)
  · replace e := ky_ifF c1 e
    refine v_iload_n (i := 3) (j := 2) rfl rfl (?_ : ky_V _ _ _ 8 _ _ _ _)
    refine cl_X11_217 (As := [.int p2]) rfl (i := 4) rfl rfl rfl (Nat.le_of_ble_eq_true rfl) (k_X11_isForce p2 ⟨_, rfl, (?_ : ky_V _ _ _ 11 _ [.int ((ws_isForce p2))] _ _)⟩)
    refine v_if_ne (tgt := 25) (i := 5) rfl (by decide) (fun c3 => ?_) (fun c3 => ?_)
    · replace e := ky_ifF c3 e
      refine v_aload_n (i := 11) (j := 0) rfl rfl (?_ : ky_V _ _ _ 26 _ _ _ _)
      refine v_iload_n (i := 12) (j := 1) rfl rfl (?_ : ky_V _ _ _ 27 _ _ _ _)
      refine v_iload_n (i := 13) (j := 2) rfl rfl (?_ : ky_V _ _ _ 28 _ _ _ _)
      obtain ⟨⟨q5, x6⟩, g7, e⟩ := Option.bind_eq_some_iff.mp e
      refine cl_X11_316 (As := [.int p1, .int p2]) rfl (i := 14) rfl (oc_X11 hm (ly_X11_c za)) rfl rfl (Nat.le_of_ble_eq_true rfl) (k_X11_minuteByHelp N hG hm g7 (fun h4 hmh4 frh4 => ⟨_, rfl, (?_ : ky_V _ _ _ 31 _ [.int x6] _ _)⟩))
      have frh4 := fr.tr frh4
      refine v_iret (v := x6) (ty := .int) (i := 15) rfl rfl rfl ?_
      obtain ⟨rfl, rfl⟩ := ky_leaf e
      exact hr _ hmh4 frh4
    · replace e := ky_ifT c3 e
      obtain ⟨s8, hvs8, -⟩ := sg_X11_314 hG
      refine v_throwSW (i0 := 6) (i1 := 7) (i2 := 8) (i3 := 9) (i4 := 10) te_X11_80_84 ky_ts hG hvs8 rfl rfl rfl rfl rfl rfl (Nat.le_of_ble_eq_true rfl) ?_
      obtain ⟨rfl, rfl⟩ := ky_leaf e
      exact hr _ (sk_hpJ hm) (sk_frJ hm fr)

def x11_trial (N : Nat)  (s : sk_S) (a : Nat) (p1 : Int32) (p2 : Int32) : Option (sk_S × ky_RS) := (if lay_X11 (sk_K s) (sk_r s) a = true then (if (ws_isTrial p1) = 0 then (some ((sk_rs s 6), (.inr "java/lang/IllegalArgumentException"))) else ((x11_tryOut N s a p1 (sk_c s (a + 13) 7)).bind (fun zz => (fun q3 x4 => (if p2 = 0 then (some (q3, (.inl (some (.int (po_together (sk_c q3 (a + 23) 0))))))) else (some (q3, (.inl (some (.int (sk_c q3 (a + 23) 4)))))))) zz.1 zz.2))) else none)
set_option maxRecDepth 20000 in
set_option maxHeartbeats 4000000 in
theorem k_X11_trial {G : ky_GW} {d : Nat} {h : ky_HP} {Q : ky_RS → ky_HP → Prop} {s s9 : sk_S} {r9 : ky_RS} {a : Nat} {p1 : Int32} {p2 : Int32} (N : Nat) (hG : ky_OK G)   (hm : sk_hp G s h)  (e : x11_trial N  s a p1 p2 = some (s9, r9)) (hr : ∀ h1, sk_hp G s9 h1 → sk_fr none s h s9 h1 → Q r9 h1) : ky_Call G (d + 6) M_X11_trial [.ref a, .int p1, .int p2] h Q := by
  refine ky_ofV (by decide +kernel) rfl ok_X11_trial (Nat.le_of_ble_eq_true rfl) ?_
  have fr : sk_fr none s h s h := sk_fr.rf
  unfold x11_trial at e
  refine (?_ : ky_V _ _ _ 0 [(0, .ref a), (1, .int p1), (2, .int p2)] [] _ _)
  obtain ⟨za, e⟩ := ky_chkE e
  refine v_iload_n (i := 0) (j := 1) rfl rfl (?_ : ky_V _ _ _ 1 _ _ _ _)
  refine cl_X11_373 (As := [.int p1]) rfl (i := 1) rfl rfl rfl (Nat.le_of_ble_eq_true rfl) (k_X11_isTrial p1 ⟨_, rfl, (?_ : ky_V _ _ _ 4 _ [.int ((ws_isTrial p1))] _ _)⟩)
  refine v_if_ne (tgt := 18) (i := 2) rfl (by decide) (fun c1 => ?_) (fun c1 => ?_)
  · replace e := ky_ifF c1 e
    refine v_aload_n (i := 8) (j := 0) rfl rfl (?_ : ky_V _ _ _ 19 _ _ _ _)
    refine v_iload_n (i := 9) (j := 1) rfl rfl (?_ : ky_V _ _ _ 20 _ _ _ _)
    refine v_aload_n (i := 10) (j := 0) rfl rfl (?_ : ky_V _ _ _ 21 _ _ _ _)
    refine gf_X11_33 rfl (i := 11) rfl (oc_X11 hm (ly_X11_c za)) (sk_rf (ly_X11_r3 za)) (?_ : ky_V _ _ _ 24 _ (.ref (a + 12) :: _) _ _)
    refine gf_X11_191 rfl (i := 12) rfl (oc_X7 hm (ly_X7_c (ly_X11_l3 za))) (sk_rf (ly_X7_r0 (ly_X11_l3 za))) (?_ : ky_V _ _ _ 27 _ (.ref (a + 13) :: _) _ _)
    refine gf_X11_376 rfl (i := 13) rfl (oc_X1 hm (ly_X1_c (ly_X7_l0 (ly_X11_l3 za)))) rfl (?_ : ky_V _ _ _ 30 _ _ _ _)
    obtain ⟨⟨q3, x4⟩, g5, e⟩ := Option.bind_eq_some_iff.mp e
    refine cl_X11_379 (As := [.int p1, .int ((sk_c s (a + 13) 7))]) rfl (i := 14) rfl (oc_X11 hm (ly_X11_c za)) rfl rfl (Nat.le_of_ble_eq_true rfl) (k_X11_tryOut N hG hm g5 (fun h2 hmh2 frh2 => ⟨_, rfl, (?_ : ky_V _ _ _ 33 _ [] _ _)⟩))
    have frh2 := fr.tr frh2
    refine v_iload_n (i := 15) (j := 2) rfl rfl (?_ : ky_V _ _ _ 34 _ _ _ _)
    refine v_if_eq (tgt := 47) (i := 16) rfl (by decide) (fun c6 => ?_) (fun c6 => ?_)
    · replace e := ky_ifT c6 e
      refine v_aload_n (i := 21) (j := 0) rfl rfl (?_ : ky_V _ _ _ 48 _ _ _ _)
      refine gf_X11_44 rfl (i := 22) rfl (oc_X11 hmh2 (ly_X11_c (lt_X11 frh2 za))) (sk_rf (ly_X11_r5 (lt_X11 frh2 za))) (?_ : ky_V _ _ _ 51 _ (.ref (a + 23) :: _) _ _)
      refine gf_X11_209 rfl (i := 23) rfl (oc_X1 hmh2 (ly_X1_c (ly_X11_l5 (lt_X11 frh2 za)))) rfl (?_ : ky_V _ _ _ 54 _ _ _ _)
      refine cl_X11_212 (As := [.int ((sk_c q3 (a + 23) 0))]) rfl (i := 24) rfl rfl rfl (Nat.le_of_ble_eq_true rfl) (k_X5_together (sk_c q3 (a + 23) 0) ⟨_, rfl, (?_ : ky_V _ _ _ 57 _ [.int ((po_together (sk_c q3 (a + 23) 0)))] _ _)⟩)
      refine v_iret (v := (po_together (sk_c q3 (a + 23) 0))) (ty := .int) (i := 25) rfl rfl rfl ?_
      obtain ⟨rfl, rfl⟩ := ky_leaf e
      exact hr _ hmh2 frh2
    · replace e := ky_ifF c6 e
      refine v_aload_n (i := 17) (j := 0) rfl rfl (?_ : ky_V _ _ _ 38 _ _ _ _)
      refine gf_X11_44 rfl (i := 18) rfl (oc_X11 hmh2 (ly_X11_c (lt_X11 frh2 za))) (sk_rf (ly_X11_r5 (lt_X11 frh2 za))) (?_ : ky_V _ _ _ 41 _ (.ref (a + 23) :: _) _ _)
      refine gf_X11_319 rfl (i := 19) rfl (oc_X1 hmh2 (ly_X1_c (ly_X11_l5 (lt_X11 frh2 za)))) rfl (?_ : ky_V _ _ _ 44 _ _ _ _)
      refine v_goto (tgt := 57) (i := 20) rfl (by decide) (?_ : ky_V _ _ _ 57 _ _ _ _)
      refine v_iret (v := (sk_c q3 (a + 23) 4)) (ty := .int) (i := 25) rfl rfl rfl ?_
      obtain ⟨rfl, rfl⟩ := ky_leaf e
      exact hr _ hmh2 frh2
  · replace e := ky_ifT c1 e
    obtain ⟨s7, hvs7, -⟩ := sg_X11_261 hG
    refine v_throwSW (i0 := 3) (i1 := 4) (i2 := 5) (i3 := 6) (i4 := 7) te_X11_80_84 ky_ts hG hvs7 rfl rfl rfl rfl rfl rfl (Nat.le_of_ble_eq_true rfl) ?_
    obtain ⟨rfl, rfl⟩ := ky_leaf e
    exact hr _ (sk_hpJ hm) (sk_frJ hm fr)

def x11_minutesOut (N : Nat)  (s : sk_S) (a : Nat) (p1 : Int32) (p2 : Int32) : Option (sk_S × Int32) := (if lay_X11 (sk_K s) (sk_r s) a = true then ((x11_waysAsItIs N s a).bind (fun zz => (fun q2 l3 => (if lay_X10 (sk_K q2) (sk_r q2) l3 = true then ((x10_search N q2 l3 p1 p2 1).bind (fun zz => (fun q7 x8 => (some (q7, x8))) zz.1 zz.2)) else none)) zz.1 zz.2)) else none)
set_option maxRecDepth 20000 in
set_option maxHeartbeats 4000000 in
theorem k_X11_minutesOut {G : ky_GW} {d : Nat} {h : ky_HP} {Q : ky_RS → ky_HP → Prop} {s s9 : sk_S} {r9 : Int32} {a : Nat} {p1 : Int32} {p2 : Int32} (N : Nat) (hG : ky_OK G)   (hm : sk_hp G s h)  (e : x11_minutesOut N  s a p1 p2 = some (s9, r9)) (hr : ∀ h1, sk_hp G s9 h1 → sk_fr none s h s9 h1 → Q (.inl (some (.int r9))) h1) : ky_Call G (d + 6) M_X11_minutesOut [.ref a, .int p1, .int p2] h Q := by
  refine ky_ofV (by decide +kernel) rfl ok_X11_minutesOut (Nat.le_of_ble_eq_true rfl) ?_
  have fr : sk_fr none s h s h := sk_fr.rf
  unfold x11_minutesOut at e
  refine (?_ : ky_V _ _ _ 0 [(0, .ref a), (1, .int p1), (2, .int p2)] [] _ _)
  obtain ⟨za, e⟩ := ky_chkE e
  refine v_aload_n (i := 0) (j := 0) rfl rfl (?_ : ky_V _ _ _ 1 _ _ _ _)
  obtain ⟨⟨q2, l3⟩, g4, e⟩ := Option.bind_eq_some_iff.mp e
  refine cl_X11_280 (As := []) rfl (i := 1) rfl (oc_X11 hm (ly_X11_c za)) rfl rfl (Nat.le_of_ble_eq_true rfl) (k_X11_waysAsItIs N hG hm g4 (fun h1 hmh1 frh1 => ⟨_, rfl, (?_ : ky_V _ _ _ 4 _ [.ref l3] _ _)⟩))
  have frh1 := fr.tr frh1
  refine v_iload_n (i := 2) (j := 1) rfl rfl (?_ : ky_V _ _ _ 5 _ _ _ _)
  refine v_iload_n (i := 3) (j := 2) rfl rfl (?_ : ky_V _ _ _ 6 _ _ _ _)
  refine v_iconst (v := 1) (i := 4) rfl (by decide) (?_ : ky_V _ _ _ 7 _ _ _ _)
  obtain ⟨z5, e⟩ := ky_chkE e
  obtain ⟨⟨q7, x8⟩, g9, e⟩ := Option.bind_eq_some_iff.mp e
  refine cl_X11_451 (As := [.int p1, .int p2, .int 1]) rfl (i := 5) rfl (oc_X10 hmh1 (ly_X10_c z5)) rfl rfl (Nat.le_of_ble_eq_true rfl) (k_X10_search N hG hmh1 g9 (fun h6 hmh6 frh6 => ⟨_, rfl, (?_ : ky_V _ _ _ 10 _ [.int x8] _ _)⟩))
  have frh6 := frh1.tr frh6
  refine v_iret (v := x8) (ty := .int) (i := 6) rfl rfl rfl ?_
  obtain ⟨rfl, rfl⟩ := ky_leaf e
  exact hr _ hmh6 frh6

def x11_latest (N : Nat)  (s : sk_S) (a : Nat) : Option (sk_S × Int32) := (if lay_X11 (sk_K s) (sk_r s) a = true then ((x11_minutesOut N s a (sk_c s (a + 13) 0) 127).bind (fun zz => (fun q2 x3 => (if x3 = (-1 : Int32) then (some (q2, (-1))) else (if 0 ≤ (((sk_c q2 (a + 13) 5) - x3) - 1) then (some (q2, (((sk_c q2 (a + 13) 5) - x3) - 1))) else (some (q2, (-1)))))) zz.1 zz.2)) else none)
set_option maxRecDepth 20000 in
set_option maxHeartbeats 4000000 in
theorem k_X11_latest {G : ky_GW} {d : Nat} {h : ky_HP} {Q : ky_RS → ky_HP → Prop} {s s9 : sk_S} {r9 : Int32} {a : Nat} (N : Nat) (hG : ky_OK G)   (hm : sk_hp G s h)  (e : x11_latest N  s a = some (s9, r9)) (hr : ∀ h1, sk_hp G s9 h1 → sk_fr none s h s9 h1 → Q (.inl (some (.int r9))) h1) : ky_Call G (d + 7) M_X11_latest [.ref a] h Q := by
  refine ky_ofV (by decide +kernel) rfl ok_X11_latest (Nat.le_of_ble_eq_true rfl) ?_
  have fr : sk_fr none s h s h := sk_fr.rf
  unfold x11_latest at e
  refine (?_ : ky_V _ _ _ 0 [(0, .ref a)] [] _ _)
  obtain ⟨za, e⟩ := ky_chkE e
  refine v_aload_n (i := 0) (j := 0) rfl rfl (?_ : ky_V _ _ _ 1 _ _ _ _)
  refine v_aload_n (i := 1) (j := 0) rfl rfl (?_ : ky_V _ _ _ 2 _ _ _ _)
  refine gf_X11_33 rfl (i := 2) rfl (oc_X11 hm (ly_X11_c za)) (sk_rf (ly_X11_r3 za)) (?_ : ky_V _ _ _ 5 _ (.ref (a + 12) :: _) _ _)
  refine gf_X11_191 rfl (i := 3) rfl (oc_X7 hm (ly_X7_c (ly_X11_l3 za))) (sk_rf (ly_X7_r0 (ly_X11_l3 za))) (?_ : ky_V _ _ _ 8 _ (.ref (a + 13) :: _) _ _)
  refine gf_X11_209 rfl (i := 4) rfl (oc_X1 hm (ly_X1_c (ly_X7_l0 (ly_X11_l3 za)))) rfl (?_ : ky_V _ _ _ 11 _ _ _ _)
  refine v_bipush (v := 127) (i := 5) rfl (by decide) (?_ : ky_V _ _ _ 13 _ _ _ _)
  obtain ⟨⟨q2, x3⟩, g4, e⟩ := Option.bind_eq_some_iff.mp e
  refine cl_X11_277 (As := [.int ((sk_c s (a + 13) 0)), .int 127]) rfl (i := 6) rfl (oc_X11 hm (ly_X11_c za)) rfl rfl (Nat.le_of_ble_eq_true rfl) (k_X11_minutesOut N hG hm g4 (fun h1 hmh1 frh1 => ⟨_, rfl, (?_ : ky_V _ _ _ 16 _ [.int x3] _ _)⟩))
  have frh1 := fr.tr frh1
  refine v_istore_n (L' := [(0, .ref a), (1, .int x3)]) [1, 0] (i := 7) rfl (Nat.le_of_ble_eq_true rfl) rfl (?_ : ky_V _ _ _ 17 _ _ _ _)
  refine v_iload_n (i := 8) (j := 1) rfl rfl (?_ : ky_V _ _ _ 18 _ _ _ _)
  refine v_iconst (v := (-1)) (i := 9) rfl (by decide) (?_ : ky_V _ _ _ 19 _ _ _ _)
  refine v_icmp_eq (tgt := 39) (i := 10) rfl (by decide) (fun c5 => ?_) (fun c5 => ?_)
  · replace e := ky_ifT c5 e
    refine v_iconst (v := (-1)) (i := 20) rfl (by decide) (?_ : ky_V _ _ _ 40 _ _ _ _)
    refine v_iret (v := (-1)) (ty := .int) (i := 21) rfl rfl rfl ?_
    obtain ⟨rfl, rfl⟩ := ky_leaf e
    exact hr _ hmh1 frh1
  · replace e := ky_ifF c5 e
    refine v_aload_n (i := 11) (j := 0) rfl rfl (?_ : ky_V _ _ _ 23 _ _ _ _)
    refine gf_X11_33 rfl (i := 12) rfl (oc_X11 hmh1 (ly_X11_c (lt_X11 frh1 za))) (sk_rf (ly_X11_r3 (lt_X11 frh1 za))) (?_ : ky_V _ _ _ 26 _ (.ref (a + 12) :: _) _ _)
    refine gf_X11_191 rfl (i := 13) rfl (oc_X7 hmh1 (ly_X7_c (ly_X11_l3 (lt_X11 frh1 za)))) (sk_rf (ly_X7_r0 (ly_X11_l3 (lt_X11 frh1 za)))) (?_ : ky_V _ _ _ 29 _ (.ref (a + 13) :: _) _ _)
    refine gf_X11_290 rfl (i := 14) rfl (oc_X1 hmh1 (ly_X1_c (ly_X7_l0 (ly_X11_l3 (lt_X11 frh1 za))))) rfl (?_ : ky_V _ _ _ 32 _ _ _ _)
    refine v_iload_n (i := 15) (j := 1) rfl rfl (?_ : ky_V _ _ _ 33 _ _ _ _)
    refine v_isub (i := 16) rfl (?_ : ky_V _ _ _ 34 _ _ _ _)
    refine v_iconst (v := 1) (i := 17) rfl (by decide) (?_ : ky_V _ _ _ 35 _ _ _ _)
    refine v_isub (i := 18) rfl (?_ : ky_V _ _ _ 36 _ _ _ _)
    refine v_if_ge (tgt := 41) (i := 19) rfl (by decide) (fun c6 => ?_) (fun c6 => ?_)
    · replace e := ky_ifT c6 e
      refine v_aload_n (i := 22) (j := 0) rfl rfl (?_ : ky_V _ _ _ 42 _ _ _ _)
      refine gf_X11_33 rfl (i := 23) rfl (oc_X11 hmh1 (ly_X11_c (lt_X11 frh1 za))) (sk_rf (ly_X11_r3 (lt_X11 frh1 za))) (?_ : ky_V _ _ _ 45 _ (.ref (a + 12) :: _) _ _)
      refine gf_X11_191 rfl (i := 24) rfl (oc_X7 hmh1 (ly_X7_c (ly_X11_l3 (lt_X11 frh1 za)))) (sk_rf (ly_X7_r0 (ly_X11_l3 (lt_X11 frh1 za)))) (?_ : ky_V _ _ _ 48 _ (.ref (a + 13) :: _) _ _)
      refine gf_X11_290 rfl (i := 25) rfl (oc_X1 hmh1 (ly_X1_c (ly_X7_l0 (ly_X11_l3 (lt_X11 frh1 za))))) rfl (?_ : ky_V _ _ _ 51 _ _ _ _)
      refine v_iload_n (i := 26) (j := 1) rfl rfl (?_ : ky_V _ _ _ 52 _ _ _ _)
      refine v_isub (i := 27) rfl (?_ : ky_V _ _ _ 53 _ _ _ _)
      refine v_iconst (v := 1) (i := 28) rfl (by decide) (?_ : ky_V _ _ _ 54 _ _ _ _)
      refine v_isub (i := 29) rfl (?_ : ky_V _ _ _ 55 _ _ _ _)
      refine v_iret (v := (((sk_c q2 (a + 13) 5) - x3) - 1)) (ty := .int) (i := 30) rfl rfl rfl ?_
      obtain ⟨rfl, rfl⟩ := ky_leaf e
      exact hr _ hmh1 frh1
    · replace e := ky_ifF c6 e
      refine v_iconst (v := (-1)) (i := 20) rfl (by decide) (?_ : ky_V _ _ _ 40 _ _ _ _)
      refine v_iret (v := (-1)) (ty := .int) (i := 21) rfl rfl rfl ?_
      obtain ⟨rfl, rfl⟩ := ky_leaf e
      exact hr _ hmh1 frh1

def x11_stuck_L4 (N : Nat)  (a : Nat) (k : sk_S → Int32 → Int32 → Option (sk_S × Int32)) : Nat → sk_S → Int32 → Int32 → Option (sk_S × Int32)
  | 0, _, _, _ => none
  | n + 1, c, p1, p2 => (if (5 : Int32) < p2 then (k c p1 p2) else ((x11_minutesOut N c a (po_withThin (sk_c c (a + 13) 0) p2) 127).bind (fun zz => (fun q3 x4 => (if x4 = (-1 : Int32) then (ky_let (p1 ||| ((1 : Int32) <<< (p2 &&& 31))) (fun x8 => (ky_let (p2 + 1) (fun x9 => (x11_stuck_L4 N a k n q3 x8 x9))))) else (ky_let (p2 + 1) (fun x7 => (x11_stuck_L4 N a k n q3 p1 x7))))) zz.1 zz.2)))
set_option maxRecDepth 20000 in
set_option maxHeartbeats 4000000 in
theorem lv_X11_stuck_4 {G : ky_GW} {d : Nat} {s s9 : sk_S} {h0 : ky_HP} {Q : ky_RS → ky_HP → Prop} {r9 : Int32} (N : Nat) (hG : ky_OK G)  (a : Nat)   (za : lay_X11 (sk_K s) (sk_r s) a = true) (hm : sk_hp G s h0) (k : sk_S → Int32 → Int32 → Option (sk_S × Int32)) (hr : ∀ h1, sk_hp G s9 h1 → sk_fr none s h0 s9 h1 → Q (.inl (some (.int r9))) h1)
    (hk : ∀ (h : ky_HP) (c : sk_S) (p1 : Int32) (p2 : Int32), sk_hp G c h → sk_fr none s h0 c h → k c p1 p2 = some (s9, r9) → ky_V G (d + 7) M_X11_stuck 45 [(0, .ref a), (1, .int p1), (2, .int p2)] [] h Q) :
    ∀ (n : Nat) (h : ky_HP) (c : sk_S) (p1 : Int32) (p2 : Int32), sk_hp G c h → sk_fr none s h0 c h → x11_stuck_L4 N a k n c p1 p2 = some (s9, r9) → ky_V G (d + 7) M_X11_stuck 4 [(0, .ref a), (1, .int p1), (2, .int p2)] [] h Q := by
  intro n
  induction n with
  | zero => intro h c p1 p2 hm1 fr e; cases e
  | succ n ih =>
    intro h c p1 p2 hm1 fr e
    rw [x11_stuck_L4] at e
    refine v_iload_n (i := 4) (j := 2) rfl rfl (?_ : ky_V _ _ _ 5 _ _ _ _)
    refine v_iconst (v := 5) (i := 5) rfl (by decide) (?_ : ky_V _ _ _ 6 _ _ _ _)
    refine v_icmp_gt (tgt := 45) (i := 6) rfl (by decide) (fun c1 => ?_) (fun c1 => ?_)
    · replace e := ky_ifT c1 e
      exact hk h c p1 p2 hm1 fr e
    · replace e := ky_ifF c1 e
      refine v_aload_n (i := 7) (j := 0) rfl rfl (?_ : ky_V _ _ _ 10 _ _ _ _)
      refine v_aload_n (i := 8) (j := 0) rfl rfl (?_ : ky_V _ _ _ 11 _ _ _ _)
      refine gf_X11_33 rfl (i := 9) rfl (oc_X11 hm1 (ly_X11_c (lt_X11 fr za))) (sk_rf (ly_X11_r3 (lt_X11 fr za))) (?_ : ky_V _ _ _ 14 _ (.ref (a + 12) :: _) _ _)
      refine gf_X11_191 rfl (i := 10) rfl (oc_X7 hm1 (ly_X7_c (ly_X11_l3 (lt_X11 fr za)))) (sk_rf (ly_X7_r0 (ly_X11_l3 (lt_X11 fr za)))) (?_ : ky_V _ _ _ 17 _ (.ref (a + 13) :: _) _ _)
      refine gf_X11_209 rfl (i := 11) rfl (oc_X1 hm1 (ly_X1_c (ly_X7_l0 (ly_X11_l3 (lt_X11 fr za))))) rfl (?_ : ky_V _ _ _ 20 _ _ _ _)
      refine v_iload_n (i := 12) (j := 2) rfl rfl (?_ : ky_V _ _ _ 21 _ _ _ _)
      refine cl_X11_299 (As := [.int ((sk_c c (a + 13) 0)), .int p2]) rfl (i := 13) rfl rfl rfl (Nat.le_of_ble_eq_true rfl) (k_X5_withThin (sk_c c (a + 13) 0) p2 ⟨_, rfl, (?_ : ky_V _ _ _ 24 _ [.int ((po_withThin (sk_c c (a + 13) 0) p2)), .ref a] _ _)⟩)
      refine v_bipush (v := 127) (i := 14) rfl (by decide) (?_ : ky_V _ _ _ 26 _ _ _ _)
      obtain ⟨⟨q3, x4⟩, g5, e⟩ := Option.bind_eq_some_iff.mp e
      refine cl_X11_277 (As := [.int ((po_withThin (sk_c c (a + 13) 0) p2)), .int 127]) rfl (i := 15) rfl (oc_X11 hm1 (ly_X11_c (lt_X11 fr za))) rfl rfl (Nat.le_of_ble_eq_true rfl) (k_X11_minutesOut N hG hm1 g5 (fun h2 hmh2 frh2 => ⟨_, rfl, (?_ : ky_V _ _ _ 29 _ [.int x4] _ _)⟩))
      have frh2 := fr.tr frh2
      refine v_iconst (v := (-1)) (i := 16) rfl (by decide) (?_ : ky_V _ _ _ 30 _ _ _ _)
      refine v_icmp_ne (tgt := 39) (i := 17) rfl (by decide) (fun c6 => ?_) (fun c6 => ?_)
      · replace e := ky_ifF c6 e
        obtain ⟨x7, ex7⟩ : ∃ z : Int32, z = p2 + 1 := ⟨_, rfl⟩
        replace e := ky_letE ex7 e
        refine v_iinc (v := x7) (j := 2) (L' := [(0, .ref a), (1, .int p1), (2, .int x7)]) [1, 2, 0] (i := 24) rfl rfl (by rw [ex7]; rfl) (Nat.le_of_ble_eq_true rfl) rfl (?_ : ky_V _ _ _ 42 _ _ _ _)
        refine v_goto (tgt := 4) (i := 25) rfl (by decide) (?_ : ky_V _ _ _ 4 _ _ _ _)
        exact ih h2 q3 p1 x7 hmh2 frh2 e
      · replace e := ky_ifT c6 e
        refine v_iload_n (i := 18) (j := 1) rfl rfl (?_ : ky_V _ _ _ 34 _ _ _ _)
        refine v_iconst (v := 1) (i := 19) rfl (by decide) (?_ : ky_V _ _ _ 35 _ _ _ _)
        refine v_iload_n (i := 20) (j := 2) rfl rfl (?_ : ky_V _ _ _ 36 _ _ _ _)
        refine v_ishl (i := 21) rfl (?_ : ky_V _ _ _ 37 _ _ _ _)
        refine v_ior (i := 22) rfl (?_ : ky_V _ _ _ 38 _ _ _ _)
        refine v_topi (fun x8 ex8 => ?_)
        replace e := ky_letE ex8 e
        refine v_istore_n (L' := [(0, .ref a), (1, .int x8), (2, .int p2)]) [1, 0, 2] (i := 23) rfl (Nat.le_of_ble_eq_true rfl) rfl (?_ : ky_V _ _ _ 39 _ _ _ _)
        obtain ⟨x9, ex9⟩ : ∃ z : Int32, z = p2 + 1 := ⟨_, rfl⟩
        replace e := ky_letE ex9 e
        refine v_iinc (v := x9) (j := 2) (L' := [(0, .ref a), (1, .int x8), (2, .int x9)]) [1, 2, 0] (i := 24) rfl rfl (by rw [ex9]; rfl) (Nat.le_of_ble_eq_true rfl) rfl (?_ : ky_V _ _ _ 42 _ _ _ _)
        refine v_goto (tgt := 4) (i := 25) rfl (by decide) (?_ : ky_V _ _ _ 4 _ _ _ _)
        exact ih h2 q3 x8 x9 hmh2 frh2 e

def x11_stuck (N : Nat)  (s : sk_S) (a : Nat) : Option (sk_S × Int32) := (if lay_X11 (sk_K s) (sk_r s) a = true then (x11_stuck_L4 N a (fun q2 x3 x4 => (some (q2, x3))) N s 0 0) else none)
set_option maxRecDepth 20000 in
set_option maxHeartbeats 4000000 in
theorem k_X11_stuck {G : ky_GW} {d : Nat} {h : ky_HP} {Q : ky_RS → ky_HP → Prop} {s s9 : sk_S} {r9 : Int32} {a : Nat} (N : Nat) (hG : ky_OK G)   (hm : sk_hp G s h)  (e : x11_stuck N  s a = some (s9, r9)) (hr : ∀ h1, sk_hp G s9 h1 → sk_fr none s h s9 h1 → Q (.inl (some (.int r9))) h1) : ky_Call G (d + 7) M_X11_stuck [.ref a] h Q := by
  refine ky_ofV (by decide +kernel) rfl ok_X11_stuck (Nat.le_of_ble_eq_true rfl) ?_
  have fr : sk_fr none s h s h := sk_fr.rf
  unfold x11_stuck at e
  refine (?_ : ky_V _ _ _ 0 [(0, .ref a)] [] _ _)
  obtain ⟨za, e⟩ := ky_chkE e
  refine v_iconst (v := 0) (i := 0) rfl (by decide) (?_ : ky_V _ _ _ 1 _ _ _ _)
  refine v_istore_n (L' := [(0, .ref a), (1, .int 0)]) [1, 0] (i := 1) rfl (Nat.le_of_ble_eq_true rfl) rfl (?_ : ky_V _ _ _ 2 _ _ _ _)
  refine v_iconst (v := 0) (i := 2) rfl (by decide) (?_ : ky_V _ _ _ 3 _ _ _ _)
  refine v_istore_n (L' := [(0, .ref a), (1, .int 0), (2, .int 0)]) [1, 2, 0] (i := 3) rfl (Nat.le_of_ble_eq_true rfl) rfl (?_ : ky_V _ _ _ 4 _ _ _ _)
  refine lv_X11_stuck_4 N hG a za hm _ hr (fun h1 q2 x3 x4 hmh1 frh1 e => ?_) N h s 0 0 hm fr e
  refine v_iload_n (i := 26) (j := 1) rfl rfl (?_ : ky_V _ _ _ 46 _ _ _ _)
  refine v_iret (v := x3) (ty := .int) (i := 27) rfl rfl rfl ?_
  obtain ⟨rfl, rfl⟩ := ky_leaf e
  exact hr _ hmh1 frh1

def x11_deepest_L3 (N : Nat)  (a : Nat) (k : sk_S → Int32 → Option (sk_S × Int32)) : Nat → sk_S → Int32 → Option (sk_S × Int32)
  | 0, _, _ => none
  | n + 1, c, p1 => (if p1 ≤ 0 then (k c p1) else ((x11_minutesOut N c a (po_withDepths (sk_c c (a + 13) 0) p1 p1) 127).bind (fun zz => (fun q3 x4 => (if x4 = (-1 : Int32) then (ky_let (p1 + (-1)) (fun x7 => (x11_deepest_L3 N a k n q3 x7))) else (k q3 p1))) zz.1 zz.2)))
set_option maxRecDepth 20000 in
set_option maxHeartbeats 4000000 in
theorem lv_X11_deepest_3 {G : ky_GW} {d : Nat} {s s9 : sk_S} {h0 : ky_HP} {Q : ky_RS → ky_HP → Prop} {r9 : Int32} (N : Nat) (hG : ky_OK G)  (a : Nat)   (za : lay_X11 (sk_K s) (sk_r s) a = true) (hm : sk_hp G s h0) (k : sk_S → Int32 → Option (sk_S × Int32)) (hr : ∀ h1, sk_hp G s9 h1 → sk_fr none s h0 s9 h1 → Q (.inl (some (.int r9))) h1)
    (hk : ∀ (h : ky_HP) (c : sk_S) (p1 : Int32), sk_hp G c h → sk_fr none s h0 c h → k c p1 = some (s9, r9) → ky_V G (d + 7) M_X11_deepest 38 [(0, .ref a), (1, .int p1)] [] h Q) :
    ∀ (n : Nat) (h : ky_HP) (c : sk_S) (p1 : Int32), sk_hp G c h → sk_fr none s h0 c h → x11_deepest_L3 N a k n c p1 = some (s9, r9) → ky_V G (d + 7) M_X11_deepest 3 [(0, .ref a), (1, .int p1)] [] h Q := by
  intro n
  induction n with
  | zero => intro h c p1 hm1 fr e; cases e
  | succ n ih =>
    intro h c p1 hm1 fr e
    rw [x11_deepest_L3] at e
    refine v_iload_n (i := 2) (j := 1) rfl rfl (?_ : ky_V _ _ _ 4 _ _ _ _)
    refine v_if_le (tgt := 38) (i := 3) rfl (by decide) (fun c1 => ?_) (fun c1 => ?_)
    · replace e := ky_ifT c1 e
      exact hk h c p1 hm1 fr e
    · replace e := ky_ifF c1 e
      refine v_aload_n (i := 4) (j := 0) rfl rfl (?_ : ky_V _ _ _ 8 _ _ _ _)
      refine v_aload_n (i := 5) (j := 0) rfl rfl (?_ : ky_V _ _ _ 9 _ _ _ _)
      refine gf_X11_33 rfl (i := 6) rfl (oc_X11 hm1 (ly_X11_c (lt_X11 fr za))) (sk_rf (ly_X11_r3 (lt_X11 fr za))) (?_ : ky_V _ _ _ 12 _ (.ref (a + 12) :: _) _ _)
      refine gf_X11_191 rfl (i := 7) rfl (oc_X7 hm1 (ly_X7_c (ly_X11_l3 (lt_X11 fr za)))) (sk_rf (ly_X7_r0 (ly_X11_l3 (lt_X11 fr za)))) (?_ : ky_V _ _ _ 15 _ (.ref (a + 13) :: _) _ _)
      refine gf_X11_209 rfl (i := 8) rfl (oc_X1 hm1 (ly_X1_c (ly_X7_l0 (ly_X11_l3 (lt_X11 fr za))))) rfl (?_ : ky_V _ _ _ 18 _ _ _ _)
      refine v_iload_n (i := 9) (j := 1) rfl rfl (?_ : ky_V _ _ _ 19 _ _ _ _)
      refine v_iload_n (i := 10) (j := 1) rfl rfl (?_ : ky_V _ _ _ 20 _ _ _ _)
      refine cl_X11_302 (As := [.int ((sk_c c (a + 13) 0)), .int p1, .int p1]) rfl (i := 11) rfl rfl rfl (Nat.le_of_ble_eq_true rfl) (k_X5_withDepths (sk_c c (a + 13) 0) p1 p1 ⟨_, rfl, (?_ : ky_V _ _ _ 23 _ [.int ((po_withDepths (sk_c c (a + 13) 0) p1 p1)), .ref a] _ _)⟩)
      refine v_bipush (v := 127) (i := 12) rfl (by decide) (?_ : ky_V _ _ _ 25 _ _ _ _)
      obtain ⟨⟨q3, x4⟩, g5, e⟩ := Option.bind_eq_some_iff.mp e
      refine cl_X11_277 (As := [.int ((po_withDepths (sk_c c (a + 13) 0) p1 p1)), .int 127]) rfl (i := 13) rfl (oc_X11 hm1 (ly_X11_c (lt_X11 fr za))) rfl rfl (Nat.le_of_ble_eq_true rfl) (k_X11_minutesOut N hG hm1 g5 (fun h2 hmh2 frh2 => ⟨_, rfl, (?_ : ky_V _ _ _ 28 _ [.int x4] _ _)⟩))
      have frh2 := fr.tr frh2
      refine v_iconst (v := (-1)) (i := 14) rfl (by decide) (?_ : ky_V _ _ _ 29 _ _ _ _)
      refine v_icmp_ne (tgt := 38) (i := 15) rfl (by decide) (fun c6 => ?_) (fun c6 => ?_)
      · replace e := ky_ifF c6 e
        exact hk h2 q3 p1 hmh2 frh2 e
      · replace e := ky_ifT c6 e
        obtain ⟨x7, ex7⟩ : ∃ z : Int32, z = p1 + (-1) := ⟨_, rfl⟩
        replace e := ky_letE ex7 e
        refine v_iinc (v := x7) (j := 1) (L' := [(0, .ref a), (1, .int x7)]) [1, 0] (i := 16) rfl rfl (by rw [ex7]; rfl) (Nat.le_of_ble_eq_true rfl) rfl (?_ : ky_V _ _ _ 35 _ _ _ _)
        refine v_goto (tgt := 3) (i := 17) rfl (by decide) (?_ : ky_V _ _ _ 3 _ _ _ _)
        exact ih h2 q3 x7 hmh2 frh2 e

def x11_deepest (N : Nat)  (s : sk_S) (a : Nat) : Option (sk_S × Int32) := (if lay_X11 (sk_K s) (sk_r s) a = true then (x11_deepest_L3 N a (fun q2 x3 => (some (q2, x3))) N s 9) else none)
set_option maxRecDepth 20000 in
set_option maxHeartbeats 4000000 in
theorem k_X11_deepest {G : ky_GW} {d : Nat} {h : ky_HP} {Q : ky_RS → ky_HP → Prop} {s s9 : sk_S} {r9 : Int32} {a : Nat} (N : Nat) (hG : ky_OK G)   (hm : sk_hp G s h)  (e : x11_deepest N  s a = some (s9, r9)) (hr : ∀ h1, sk_hp G s9 h1 → sk_fr none s h s9 h1 → Q (.inl (some (.int r9))) h1) : ky_Call G (d + 7) M_X11_deepest [.ref a] h Q := by
  refine ky_ofV (by decide +kernel) rfl ok_X11_deepest (Nat.le_of_ble_eq_true rfl) ?_
  have fr : sk_fr none s h s h := sk_fr.rf
  unfold x11_deepest at e
  refine (?_ : ky_V _ _ _ 0 [(0, .ref a)] [] _ _)
  obtain ⟨za, e⟩ := ky_chkE e
  refine v_bipush (v := 9) (i := 0) rfl (by decide) (?_ : ky_V _ _ _ 2 _ _ _ _)
  refine v_istore_n (L' := [(0, .ref a), (1, .int 9)]) [1, 0] (i := 1) rfl (Nat.le_of_ble_eq_true rfl) rfl (?_ : ky_V _ _ _ 3 _ _ _ _)
  refine lv_X11_deepest_3 N hG a za hm _ hr (fun h1 q2 x3 hmh1 frh1 e => ?_) N h s 9 hm fr e
  refine v_iload_n (i := 18) (j := 1) rfl rfl (?_ : ky_V _ _ _ 39 _ _ _ _)
  refine v_iret (v := x3) (ty := .int) (i := 19) rfl rfl rfl ?_
  obtain ⟨rfl, rfl⟩ := ky_leaf e
  exact hr _ hmh1 frh1

def x11_move (N : Nat)  (s : sk_S) (a : Nat) (p1 : Int32) (p2 : Int32) : Option (sk_S × ky_RS) := (if lay_X11 (sk_K s) (sk_r s) a = true then (if (ws_isMove p1) = 0 then (some ((sk_rs s 6), (.inr "java/lang/IndexOutOfBoundsException"))) else (if p2 < 0 then (some ((sk_rs s 6), (.inr "java/util/NoSuchElementException"))) else (if p2 ≤ (4 : Int32) then (if p2 = (4 : Int32) then ((x11_helps N s a p1).bind (fun zz => (fun q11 x12 => (some (q11, (.inl (some (.int x12)))))) zz.1 zz.2)) else ((x6_number N s (a + 14) p1 p2).bind (fun zz => (fun q7 x8 => (some (q7, (.inl (some (.int x8)))))) zz.1 zz.2))) else (some ((sk_rs s 6), (.inr "java/util/NoSuchElementException")))))) else none)
set_option maxRecDepth 20000 in
set_option maxHeartbeats 4000000 in
theorem k_X11_move {G : ky_GW} {d : Nat} {h : ky_HP} {Q : ky_RS → ky_HP → Prop} {s s9 : sk_S} {r9 : ky_RS} {a : Nat} {p1 : Int32} {p2 : Int32} (N : Nat) (hG : ky_OK G)   (hm : sk_hp G s h)  (e : x11_move N  s a p1 p2 = some (s9, r9)) (hr : ∀ h1, sk_hp G s9 h1 → sk_fr none s h s9 h1 → Q r9 h1) : ky_Call G (d + 7) M_X11_move [.ref a, .int p1, .int p2] h Q := by
  refine ky_ofV (by decide +kernel) rfl ok_X11_move (Nat.le_of_ble_eq_true rfl) ?_
  have fr : sk_fr none s h s h := sk_fr.rf
  unfold x11_move at e
  refine (?_ : ky_V _ _ _ 0 [(0, .ref a), (1, .int p1), (2, .int p2)] [] _ _)
  obtain ⟨za, e⟩ := ky_chkE e
  refine v_iload_n (i := 0) (j := 1) rfl rfl (?_ : ky_V _ _ _ 1 _ _ _ _)
  refine cl_X11_124 (As := [.int p1]) rfl (i := 1) rfl rfl rfl (Nat.le_of_ble_eq_true rfl) (k_X11_isMove p1 ⟨_, rfl, (?_ : ky_V _ _ _ 4 _ [.int ((ws_isMove p1))] _ _)⟩)
  refine v_if_ne (tgt := 17) (i := 2) rfl (by decide) (fun c1 => ?_) (fun c1 => ?_)
  · replace e := ky_ifF c1 e
    refine v_iload_n (i := 8) (j := 2) rfl rfl (?_ : ky_V _ _ _ 18 _ _ _ _)
    refine v_if_lt (tgt := 26) (i := 9) rfl (by decide) (fun c2 => ?_) (fun c2 => ?_)
    · replace e := ky_ifT c2 e
      obtain ⟨s3, hvs3, -⟩ := sg_X11_135 hG
      refine v_throwN (rx := prog_35_method_4_code) (i0 := 13) (i1 := 14) (i2 := 15) (i3 := 16) (i4 := 17) (by decide +kernel) (by decide +kernel) (by decide +kernel) (by decide +kernel) tn_X11_133_137 ky_ts hG hvs3 rfl rfl rfl rfl rfl rfl (Nat.le_of_ble_eq_true rfl) ?_
      obtain ⟨rfl, rfl⟩ := ky_leaf e
      exact hr _ (sk_hpJ hm) (sk_frJ hm fr)
    · replace e := ky_ifF c2 e
      refine v_iload_n (i := 10) (j := 2) rfl rfl (?_ : ky_V _ _ _ 22 _ _ _ _)
      refine v_iconst (v := 4) (i := 11) rfl (by decide) (?_ : ky_V _ _ _ 23 _ _ _ _)
      refine v_icmp_le (tgt := 36) (i := 12) rfl (by decide) (fun c4 => ?_) (fun c4 => ?_)
      · replace e := ky_ifT c4 e
        refine v_iload_n (i := 18) (j := 2) rfl rfl (?_ : ky_V _ _ _ 37 _ _ _ _)
        refine v_iconst (v := 4) (i := 19) rfl (by decide) (?_ : ky_V _ _ _ 38 _ _ _ _)
        refine v_icmp_ne (tgt := 49) (i := 20) rfl (by decide) (fun c5 => ?_) (fun c5 => ?_)
        · replace e := ky_ifF c5 e
          refine v_aload_n (i := 25) (j := 0) rfl rfl (?_ : ky_V _ _ _ 50 _ _ _ _)
          refine gf_X11_33 rfl (i := 26) rfl (oc_X11 hm (ly_X11_c za)) (sk_rf (ly_X11_r3 za)) (?_ : ky_V _ _ _ 53 _ (.ref (a + 12) :: _) _ _)
          refine gf_X11_105 rfl (i := 27) rfl (oc_X7 hm (ly_X7_c (ly_X11_l3 za))) (sk_rf (ly_X7_r1 (ly_X11_l3 za))) (?_ : ky_V _ _ _ 56 _ (.ref (a + 14) :: _) _ _)
          refine v_iload_n (i := 28) (j := 1) rfl rfl (?_ : ky_V _ _ _ 57 _ _ _ _)
          refine v_iload_n (i := 29) (j := 2) rfl rfl (?_ : ky_V _ _ _ 58 _ _ _ _)
          obtain ⟨⟨q7, x8⟩, g9, e⟩ := Option.bind_eq_some_iff.mp e
          refine cl_X11_142 (As := [.int p1, .int p2]) rfl (i := 30) rfl (oc_X6 hm (ly_X6_c (ly_X7_l1 (ly_X11_l3 za)))) rfl rfl (Nat.le_of_ble_eq_true rfl) (k_X6_number N hG hm g9 (fun h6 hmh6 frh6 => ⟨_, rfl, (?_ : ky_V _ _ _ 61 _ [.int x8] _ _)⟩))
          have frh6 := fr.tr frh6
          refine v_iret (v := x8) (ty := .int) (i := 31) rfl rfl rfl ?_
          obtain ⟨rfl, rfl⟩ := ky_leaf e
          exact hr _ hmh6 frh6
        · replace e := ky_ifT c5 e
          refine v_aload_n (i := 21) (j := 0) rfl rfl (?_ : ky_V _ _ _ 42 _ _ _ _)
          refine v_iload_n (i := 22) (j := 1) rfl rfl (?_ : ky_V _ _ _ 43 _ _ _ _)
          obtain ⟨⟨q11, x12⟩, g13, e⟩ := Option.bind_eq_some_iff.mp e
          refine cl_X11_138 (As := [.int p1]) rfl (i := 23) rfl (oc_X11 hm (ly_X11_c za)) rfl rfl (Nat.le_of_ble_eq_true rfl) (k_X11_helps N hG hm g13 (fun h10 hmh10 frh10 => ⟨_, rfl, (?_ : ky_V _ _ _ 46 _ [.int x12] _ _)⟩))
          have frh10 := fr.tr frh10
          refine v_goto (tgt := 61) (i := 24) rfl (by decide) (?_ : ky_V _ _ _ 61 _ _ _ _)
          refine v_iret (v := x12) (ty := .int) (i := 31) rfl rfl rfl ?_
          obtain ⟨rfl, rfl⟩ := ky_leaf e
          exact hr _ hmh10 frh10
      · replace e := ky_ifF c4 e
        obtain ⟨s14, hvs14, -⟩ := sg_X11_135 hG
        refine v_throwN (rx := prog_35_method_4_code) (i0 := 13) (i1 := 14) (i2 := 15) (i3 := 16) (i4 := 17) (by decide +kernel) (by decide +kernel) (by decide +kernel) (by decide +kernel) tn_X11_133_137 ky_ts hG hvs14 rfl rfl rfl rfl rfl rfl (Nat.le_of_ble_eq_true rfl) ?_
        obtain ⟨rfl, rfl⟩ := ky_leaf e
        exact hr _ (sk_hpJ hm) (sk_frJ hm fr)
  · replace e := ky_ifT c1 e
    obtain ⟨s15, hvs15, -⟩ := sg_X11_130 hG
    refine v_throwS (i0 := 3) (i1 := 4) (i2 := 5) (i3 := 6) (i4 := 7) te_X11_128_132 ky_ts hG hvs15 rfl rfl rfl rfl rfl rfl (Nat.le_of_ble_eq_true rfl) ?_
    obtain ⟨rfl, rfl⟩ := ky_leaf e
    exact hr _ (sk_hpJ hm) (sk_frJ hm fr)

def x11_worth (N : Nat)  (s : sk_S) (a : Nat) (p1 : Int32) : Option (sk_S × ky_RS) := (if lay_X11 (sk_K s) (sk_r s) a = true then (if p1 < 0 then (some ((sk_rs s 6), (.inr "java/util/NoSuchElementException"))) else (if p1 ≤ (2 : Int32) then ((x11_minutesOut N s a (sk_c s (a + 13) 0) 127).bind (fun zz => (fun q5 x6 => (if p1 = 0 then ((x11_minutesOut N q5 a (po_lyingBack (sk_c q5 (a + 13) 0)) 127).bind (fun zz => (fun q23 x24 => (if x6 = (-1 : Int32) then (some (q23, (.inl (some (.int (-99)))))) else (if x24 = (-1 : Int32) then (some (q23, (.inl (some (.int (-99)))))) else (some (q23, (.inl (some (.int (x6 - x24))))))))) zz.1 zz.2)) else (if p1 = (1 : Int32) then ((x11_minutesOutWith N q5 a (bo_oneMore (sk_c q5 (a + 13) 1)) (sk_c q5 (a + 13) 2)).bind (fun zz => (fun q17 x18 => (if x6 = (-1 : Int32) then (some (q17, (.inl (some (.int (-99)))))) else (if x18 = (-1 : Int32) then (some (q17, (.inl (some (.int (-99)))))) else (some (q17, (.inl (some (.int (x6 - x18))))))))) zz.1 zz.2)) else ((x11_minutesOutWith N q5 a (sk_c q5 (a + 13) 1) (bo_oneMore (sk_c q5 (a + 13) 2))).bind (fun zz => (fun q11 x12 => (if x6 = (-1 : Int32) then (some (q11, (.inl (some (.int (-99)))))) else (if x12 = (-1 : Int32) then (some (q11, (.inl (some (.int (-99)))))) else (some (q11, (.inl (some (.int (x6 - x12))))))))) zz.1 zz.2))))) zz.1 zz.2)) else (some ((sk_rs s 6), (.inr "java/util/NoSuchElementException"))))) else none)
set_option maxRecDepth 20000 in
set_option maxHeartbeats 4000000 in
theorem k_X11_worth {G : ky_GW} {d : Nat} {h : ky_HP} {Q : ky_RS → ky_HP → Prop} {s s9 : sk_S} {r9 : ky_RS} {a : Nat} {p1 : Int32} (N : Nat) (hG : ky_OK G)   (hm : sk_hp G s h)  (e : x11_worth N  s a p1 = some (s9, r9)) (hr : ∀ h1, sk_hp G s9 h1 → sk_fr none s h s9 h1 → Q r9 h1) : ky_Call G (d + 7) M_X11_worth [.ref a, .int p1] h Q := by
  refine ky_ofV (by decide +kernel) rfl ok_X11_worth (Nat.le_of_ble_eq_true rfl) ?_
  have fr : sk_fr none s h s h := sk_fr.rf
  unfold x11_worth at e
  refine (?_ : ky_V _ _ _ 0 [(0, .ref a), (1, .int p1)] [] _ _)
  obtain ⟨za, e⟩ := ky_chkE e
  refine v_iload_n (i := 0) (j := 1) rfl rfl (?_ : ky_V _ _ _ 1 _ _ _ _)
  refine v_if_lt (tgt := 9) (i := 1) rfl (by decide) (fun c1 => ?_) (fun c1 => ?_)
  · replace e := ky_ifT c1 e
    obtain ⟨s2, hvs2, -⟩ := sg_X11_135 hG
    refine v_throwN (rx := prog_35_method_4_code) (i0 := 5) (i1 := 6) (i2 := 7) (i3 := 8) (i4 := 9) (by decide +kernel) (by decide +kernel) (by decide +kernel) (by decide +kernel) tn_X11_133_137 ky_ts hG hvs2 rfl rfl rfl rfl rfl rfl (Nat.le_of_ble_eq_true rfl) ?_
    obtain ⟨rfl, rfl⟩ := ky_leaf e
    exact hr _ (sk_hpJ hm) (sk_frJ hm fr)
  · replace e := ky_ifF c1 e
    refine v_iload_n (i := 2) (j := 1) rfl rfl (?_ : ky_V _ _ _ 5 _ _ _ _)
    refine v_iconst (v := 2) (i := 3) rfl (by decide) (?_ : ky_V _ _ _ 6 _ _ _ _)
    refine v_icmp_le (tgt := 19) (i := 4) rfl (by decide) (fun c3 => ?_) (fun c3 => ?_)
    · replace e := ky_ifT c3 e
      refine v_aload_n (i := 10) (j := 0) rfl rfl (?_ : ky_V _ _ _ 20 _ _ _ _)
      refine v_aload_n (i := 11) (j := 0) rfl rfl (?_ : ky_V _ _ _ 21 _ _ _ _)
      refine gf_X11_33 rfl (i := 12) rfl (oc_X11 hm (ly_X11_c za)) (sk_rf (ly_X11_r3 za)) (?_ : ky_V _ _ _ 24 _ (.ref (a + 12) :: _) _ _)
      refine gf_X11_191 rfl (i := 13) rfl (oc_X7 hm (ly_X7_c (ly_X11_l3 za))) (sk_rf (ly_X7_r0 (ly_X11_l3 za))) (?_ : ky_V _ _ _ 27 _ (.ref (a + 13) :: _) _ _)
      refine gf_X11_209 rfl (i := 14) rfl (oc_X1 hm (ly_X1_c (ly_X7_l0 (ly_X11_l3 za)))) rfl (?_ : ky_V _ _ _ 30 _ _ _ _)
      refine v_bipush (v := 127) (i := 15) rfl (by decide) (?_ : ky_V _ _ _ 32 _ _ _ _)
      obtain ⟨⟨q5, x6⟩, g7, e⟩ := Option.bind_eq_some_iff.mp e
      refine cl_X11_277 (As := [.int ((sk_c s (a + 13) 0)), .int 127]) rfl (i := 16) rfl (oc_X11 hm (ly_X11_c za)) rfl rfl (Nat.le_of_ble_eq_true rfl) (k_X11_minutesOut N hG hm g7 (fun h4 hmh4 frh4 => ⟨_, rfl, (?_ : ky_V _ _ _ 35 _ [.int x6] _ _)⟩))
      have frh4 := fr.tr frh4
      refine v_istore_n (L' := [(0, .ref a), (1, .int p1), (2, .int x6)]) [1, 2, 0] (i := 17) rfl (Nat.le_of_ble_eq_true rfl) rfl (?_ : ky_V _ _ _ 36 _ _ _ _)
      refine v_iload_n (i := 18) (j := 1) rfl rfl (?_ : ky_V _ _ _ 37 _ _ _ _)
      refine v_if_ne (tgt := 62) (i := 19) rfl (by decide) (fun c8 => ?_) (fun c8 => ?_)
      · replace e := ky_ifF c8 e
        refine v_iload_n (i := 29) (j := 1) rfl rfl (?_ : ky_V _ _ _ 63 _ _ _ _)
        refine v_iconst (v := 1) (i := 30) rfl (by decide) (?_ : ky_V _ _ _ 64 _ _ _ _)
        refine v_icmp_ne (tgt := 97) (i := 31) rfl (by decide) (fun c9 => ?_) (fun c9 => ?_)
        · replace e := ky_ifF c9 e
          refine v_aload_n (i := 44) (j := 0) rfl rfl (?_ : ky_V _ _ _ 98 _ _ _ _)
          refine v_aload_n (i := 45) (j := 0) rfl rfl (?_ : ky_V _ _ _ 99 _ _ _ _)
          refine gf_X11_33 rfl (i := 46) rfl (oc_X11 hmh4 (ly_X11_c (lt_X11 frh4 za))) (sk_rf (ly_X11_r3 (lt_X11 frh4 za))) (?_ : ky_V _ _ _ 102 _ (.ref (a + 12) :: _) _ _)
          refine gf_X11_191 rfl (i := 47) rfl (oc_X7 hmh4 (ly_X7_c (ly_X11_l3 (lt_X11 frh4 za)))) (sk_rf (ly_X7_r0 (ly_X11_l3 (lt_X11 frh4 za)))) (?_ : ky_V _ _ _ 105 _ (.ref (a + 13) :: _) _ _)
          refine gf_X11_233 rfl (i := 48) rfl (oc_X1 hmh4 (ly_X1_c (ly_X7_l0 (ly_X11_l3 (lt_X11 frh4 za))))) rfl (?_ : ky_V _ _ _ 108 _ _ _ _)
          refine v_aload_n (i := 49) (j := 0) rfl rfl (?_ : ky_V _ _ _ 109 _ _ _ _)
          refine gf_X11_33 rfl (i := 50) rfl (oc_X11 hmh4 (ly_X11_c (lt_X11 frh4 za))) (sk_rf (ly_X11_r3 (lt_X11 frh4 za))) (?_ : ky_V _ _ _ 112 _ (.ref (a + 12) :: _) _ _)
          refine gf_X11_191 rfl (i := 51) rfl (oc_X7 hmh4 (ly_X7_c (ly_X11_l3 (lt_X11 frh4 za)))) (sk_rf (ly_X7_r0 (ly_X11_l3 (lt_X11 frh4 za)))) (?_ : ky_V _ _ _ 115 _ (.ref (a + 13) :: _) _ _)
          refine gf_X11_242 rfl (i := 52) rfl (oc_X1 hmh4 (ly_X1_c (ly_X7_l0 (ly_X11_l3 (lt_X11 frh4 za))))) rfl (?_ : ky_V _ _ _ 118 _ _ _ _)
          refine cl_X11_236 (As := [.int ((sk_c q5 (a + 13) 2))]) rfl (i := 53) rfl rfl rfl (Nat.le_of_ble_eq_true rfl) (k_X1_oneMore (sk_c q5 (a + 13) 2) ⟨_, rfl, (?_ : ky_V _ _ _ 121 _ [.int ((bo_oneMore (sk_c q5 (a + 13) 2))), .int ((sk_c q5 (a + 13) 1)), .ref a] _ _)⟩)
          obtain ⟨⟨q11, x12⟩, g13, e⟩ := Option.bind_eq_some_iff.mp e
          refine cl_X11_296 (As := [.int ((sk_c q5 (a + 13) 1)), .int ((bo_oneMore (sk_c q5 (a + 13) 2)))]) rfl (i := 54) rfl (oc_X11 hmh4 (ly_X11_c (lt_X11 frh4 za))) rfl rfl (Nat.le_of_ble_eq_true rfl) (k_X11_minutesOutWith N hG hmh4 g13 (fun h10 hmh10 frh10 => ⟨_, rfl, (?_ : ky_V _ _ _ 124 _ [.int x12] _ _)⟩))
          have frh10 := frh4.tr frh10
          refine v_istore_n (L' := [(0, .ref a), (1, .int p1), (2, .int x6), (3, .int x12)]) [1, 2, 3, 0] (i := 55) rfl (Nat.le_of_ble_eq_true rfl) rfl (?_ : ky_V _ _ _ 125 _ _ _ _)
          refine v_iload_n (i := 56) (j := 2) rfl rfl (?_ : ky_V _ _ _ 126 _ _ _ _)
          refine v_iconst (v := (-1)) (i := 57) rfl (by decide) (?_ : ky_V _ _ _ 127 _ _ _ _)
          refine v_icmp_eq (tgt := 135) (i := 58) rfl (by decide) (fun c14 => ?_) (fun c14 => ?_)
          · replace e := ky_ifT c14 e
            refine v_bipush (v := (-99)) (i := 62) rfl (by decide) (?_ : ky_V _ _ _ 137 _ _ _ _)
            refine v_goto (tgt := 143) (i := 63) rfl (by decide) (?_ : ky_V _ _ _ 143 _ _ _ _)
            refine v_iret (v := (-99)) (ty := .int) (i := 67) rfl rfl rfl ?_
            obtain ⟨rfl, rfl⟩ := ky_leaf e
            exact hr _ hmh10 frh10
          · replace e := ky_ifF c14 e
            refine v_iload_n (i := 59) (j := 3) rfl rfl (?_ : ky_V _ _ _ 131 _ _ _ _)
            refine v_iconst (v := (-1)) (i := 60) rfl (by decide) (?_ : ky_V _ _ _ 132 _ _ _ _)
            refine v_icmp_ne (tgt := 140) (i := 61) rfl (by decide) (fun c15 => ?_) (fun c15 => ?_)
            · replace e := ky_ifF c15 e
              refine v_iload_n (i := 64) (j := 2) rfl rfl (?_ : ky_V _ _ _ 141 _ _ _ _)
              refine v_iload_n (i := 65) (j := 3) rfl rfl (?_ : ky_V _ _ _ 142 _ _ _ _)
              refine v_isub (i := 66) rfl (?_ : ky_V _ _ _ 143 _ _ _ _)
              refine v_iret (v := (x6 - x12)) (ty := .int) (i := 67) rfl rfl rfl ?_
              obtain ⟨rfl, rfl⟩ := ky_leaf e
              exact hr _ hmh10 frh10
            · replace e := ky_ifT c15 e
              refine v_bipush (v := (-99)) (i := 62) rfl (by decide) (?_ : ky_V _ _ _ 137 _ _ _ _)
              refine v_goto (tgt := 143) (i := 63) rfl (by decide) (?_ : ky_V _ _ _ 143 _ _ _ _)
              refine v_iret (v := (-99)) (ty := .int) (i := 67) rfl rfl rfl ?_
              obtain ⟨rfl, rfl⟩ := ky_leaf e
              exact hr _ hmh10 frh10
        · replace e := ky_ifT c9 e
          refine v_aload_n (i := 32) (j := 0) rfl rfl (?_ : ky_V _ _ _ 68 _ _ _ _)
          refine v_aload_n (i := 33) (j := 0) rfl rfl (?_ : ky_V _ _ _ 69 _ _ _ _)
          refine gf_X11_33 rfl (i := 34) rfl (oc_X11 hmh4 (ly_X11_c (lt_X11 frh4 za))) (sk_rf (ly_X11_r3 (lt_X11 frh4 za))) (?_ : ky_V _ _ _ 72 _ (.ref (a + 12) :: _) _ _)
          refine gf_X11_191 rfl (i := 35) rfl (oc_X7 hmh4 (ly_X7_c (ly_X11_l3 (lt_X11 frh4 za)))) (sk_rf (ly_X7_r0 (ly_X11_l3 (lt_X11 frh4 za)))) (?_ : ky_V _ _ _ 75 _ (.ref (a + 13) :: _) _ _)
          refine gf_X11_233 rfl (i := 36) rfl (oc_X1 hmh4 (ly_X1_c (ly_X7_l0 (ly_X11_l3 (lt_X11 frh4 za))))) rfl (?_ : ky_V _ _ _ 78 _ _ _ _)
          refine cl_X11_236 (As := [.int ((sk_c q5 (a + 13) 1))]) rfl (i := 37) rfl rfl rfl (Nat.le_of_ble_eq_true rfl) (k_X1_oneMore (sk_c q5 (a + 13) 1) ⟨_, rfl, (?_ : ky_V _ _ _ 81 _ [.int ((bo_oneMore (sk_c q5 (a + 13) 1))), .ref a] _ _)⟩)
          refine v_aload_n (i := 38) (j := 0) rfl rfl (?_ : ky_V _ _ _ 82 _ _ _ _)
          refine gf_X11_33 rfl (i := 39) rfl (oc_X11 hmh4 (ly_X11_c (lt_X11 frh4 za))) (sk_rf (ly_X11_r3 (lt_X11 frh4 za))) (?_ : ky_V _ _ _ 85 _ (.ref (a + 12) :: _) _ _)
          refine gf_X11_191 rfl (i := 40) rfl (oc_X7 hmh4 (ly_X7_c (ly_X11_l3 (lt_X11 frh4 za)))) (sk_rf (ly_X7_r0 (ly_X11_l3 (lt_X11 frh4 za)))) (?_ : ky_V _ _ _ 88 _ (.ref (a + 13) :: _) _ _)
          refine gf_X11_242 rfl (i := 41) rfl (oc_X1 hmh4 (ly_X1_c (ly_X7_l0 (ly_X11_l3 (lt_X11 frh4 za))))) rfl (?_ : ky_V _ _ _ 91 _ _ _ _)
          obtain ⟨⟨q17, x18⟩, g19, e⟩ := Option.bind_eq_some_iff.mp e
          refine cl_X11_296 (As := [.int ((bo_oneMore (sk_c q5 (a + 13) 1))), .int ((sk_c q5 (a + 13) 2))]) rfl (i := 42) rfl (oc_X11 hmh4 (ly_X11_c (lt_X11 frh4 za))) rfl rfl (Nat.le_of_ble_eq_true rfl) (k_X11_minutesOutWith N hG hmh4 g19 (fun h16 hmh16 frh16 => ⟨_, rfl, (?_ : ky_V _ _ _ 94 _ [.int x18] _ _)⟩))
          have frh16 := frh4.tr frh16
          refine v_goto (tgt := 124) (i := 43) rfl (by decide) (?_ : ky_V _ _ _ 124 _ _ _ _)
          refine v_istore_n (L' := [(0, .ref a), (1, .int p1), (2, .int x6), (3, .int x18)]) [1, 2, 3, 0] (i := 55) rfl (Nat.le_of_ble_eq_true rfl) rfl (?_ : ky_V _ _ _ 125 _ _ _ _)
          refine v_iload_n (i := 56) (j := 2) rfl rfl (?_ : ky_V _ _ _ 126 _ _ _ _)
          refine v_iconst (v := (-1)) (i := 57) rfl (by decide) (?_ : ky_V _ _ _ 127 _ _ _ _)
          refine v_icmp_eq (tgt := 135) (i := 58) rfl (by decide) (fun c20 => ?_) (fun c20 => ?_)
          · replace e := ky_ifT c20 e
            refine v_bipush (v := (-99)) (i := 62) rfl (by decide) (?_ : ky_V _ _ _ 137 _ _ _ _)
            refine v_goto (tgt := 143) (i := 63) rfl (by decide) (?_ : ky_V _ _ _ 143 _ _ _ _)
            refine v_iret (v := (-99)) (ty := .int) (i := 67) rfl rfl rfl ?_
            obtain ⟨rfl, rfl⟩ := ky_leaf e
            exact hr _ hmh16 frh16
          · replace e := ky_ifF c20 e
            refine v_iload_n (i := 59) (j := 3) rfl rfl (?_ : ky_V _ _ _ 131 _ _ _ _)
            refine v_iconst (v := (-1)) (i := 60) rfl (by decide) (?_ : ky_V _ _ _ 132 _ _ _ _)
            refine v_icmp_ne (tgt := 140) (i := 61) rfl (by decide) (fun c21 => ?_) (fun c21 => ?_)
            · replace e := ky_ifF c21 e
              refine v_iload_n (i := 64) (j := 2) rfl rfl (?_ : ky_V _ _ _ 141 _ _ _ _)
              refine v_iload_n (i := 65) (j := 3) rfl rfl (?_ : ky_V _ _ _ 142 _ _ _ _)
              refine v_isub (i := 66) rfl (?_ : ky_V _ _ _ 143 _ _ _ _)
              refine v_iret (v := (x6 - x18)) (ty := .int) (i := 67) rfl rfl rfl ?_
              obtain ⟨rfl, rfl⟩ := ky_leaf e
              exact hr _ hmh16 frh16
            · replace e := ky_ifT c21 e
              refine v_bipush (v := (-99)) (i := 62) rfl (by decide) (?_ : ky_V _ _ _ 137 _ _ _ _)
              refine v_goto (tgt := 143) (i := 63) rfl (by decide) (?_ : ky_V _ _ _ 143 _ _ _ _)
              refine v_iret (v := (-99)) (ty := .int) (i := 67) rfl rfl rfl ?_
              obtain ⟨rfl, rfl⟩ := ky_leaf e
              exact hr _ hmh16 frh16
      · replace e := ky_ifT c8 e
        refine v_aload_n (i := 20) (j := 0) rfl rfl (?_ : ky_V _ _ _ 41 _ _ _ _)
        refine v_aload_n (i := 21) (j := 0) rfl rfl (?_ : ky_V _ _ _ 42 _ _ _ _)
        refine gf_X11_33 rfl (i := 22) rfl (oc_X11 hmh4 (ly_X11_c (lt_X11 frh4 za))) (sk_rf (ly_X11_r3 (lt_X11 frh4 za))) (?_ : ky_V _ _ _ 45 _ (.ref (a + 12) :: _) _ _)
        refine gf_X11_191 rfl (i := 23) rfl (oc_X7 hmh4 (ly_X7_c (ly_X11_l3 (lt_X11 frh4 za)))) (sk_rf (ly_X7_r0 (ly_X11_l3 (lt_X11 frh4 za)))) (?_ : ky_V _ _ _ 48 _ (.ref (a + 13) :: _) _ _)
        refine gf_X11_209 rfl (i := 24) rfl (oc_X1 hmh4 (ly_X1_c (ly_X7_l0 (ly_X11_l3 (lt_X11 frh4 za))))) rfl (?_ : ky_V _ _ _ 51 _ _ _ _)
        refine cl_X11_293 (As := [.int ((sk_c q5 (a + 13) 0))]) rfl (i := 25) rfl rfl rfl (Nat.le_of_ble_eq_true rfl) (k_X5_lyingBack (sk_c q5 (a + 13) 0) ⟨_, rfl, (?_ : ky_V _ _ _ 54 _ [.int ((po_lyingBack (sk_c q5 (a + 13) 0))), .ref a] _ _)⟩)
        refine v_bipush (v := 127) (i := 26) rfl (by decide) (?_ : ky_V _ _ _ 56 _ _ _ _)
        obtain ⟨⟨q23, x24⟩, g25, e⟩ := Option.bind_eq_some_iff.mp e
        refine cl_X11_277 (As := [.int ((po_lyingBack (sk_c q5 (a + 13) 0))), .int 127]) rfl (i := 27) rfl (oc_X11 hmh4 (ly_X11_c (lt_X11 frh4 za))) rfl rfl (Nat.le_of_ble_eq_true rfl) (k_X11_minutesOut N hG hmh4 g25 (fun h22 hmh22 frh22 => ⟨_, rfl, (?_ : ky_V _ _ _ 59 _ [.int x24] _ _)⟩))
        have frh22 := frh4.tr frh22
        refine v_goto (tgt := 124) (i := 28) rfl (by decide) (?_ : ky_V _ _ _ 124 _ _ _ _)
        refine v_istore_n (L' := [(0, .ref a), (1, .int p1), (2, .int x6), (3, .int x24)]) [1, 2, 3, 0] (i := 55) rfl (Nat.le_of_ble_eq_true rfl) rfl (?_ : ky_V _ _ _ 125 _ _ _ _)
        refine v_iload_n (i := 56) (j := 2) rfl rfl (?_ : ky_V _ _ _ 126 _ _ _ _)
        refine v_iconst (v := (-1)) (i := 57) rfl (by decide) (?_ : ky_V _ _ _ 127 _ _ _ _)
        refine v_icmp_eq (tgt := 135) (i := 58) rfl (by decide) (fun c26 => ?_) (fun c26 => ?_)
        · replace e := ky_ifT c26 e
          refine v_bipush (v := (-99)) (i := 62) rfl (by decide) (?_ : ky_V _ _ _ 137 _ _ _ _)
          refine v_goto (tgt := 143) (i := 63) rfl (by decide) (?_ : ky_V _ _ _ 143 _ _ _ _)
          refine v_iret (v := (-99)) (ty := .int) (i := 67) rfl rfl rfl ?_
          obtain ⟨rfl, rfl⟩ := ky_leaf e
          exact hr _ hmh22 frh22
        · replace e := ky_ifF c26 e
          refine v_iload_n (i := 59) (j := 3) rfl rfl (?_ : ky_V _ _ _ 131 _ _ _ _)
          refine v_iconst (v := (-1)) (i := 60) rfl (by decide) (?_ : ky_V _ _ _ 132 _ _ _ _)
          refine v_icmp_ne (tgt := 140) (i := 61) rfl (by decide) (fun c27 => ?_) (fun c27 => ?_)
          · replace e := ky_ifF c27 e
            refine v_iload_n (i := 64) (j := 2) rfl rfl (?_ : ky_V _ _ _ 141 _ _ _ _)
            refine v_iload_n (i := 65) (j := 3) rfl rfl (?_ : ky_V _ _ _ 142 _ _ _ _)
            refine v_isub (i := 66) rfl (?_ : ky_V _ _ _ 143 _ _ _ _)
            refine v_iret (v := (x6 - x24)) (ty := .int) (i := 67) rfl rfl rfl ?_
            obtain ⟨rfl, rfl⟩ := ky_leaf e
            exact hr _ hmh22 frh22
          · replace e := ky_ifT c27 e
            refine v_bipush (v := (-99)) (i := 62) rfl (by decide) (?_ : ky_V _ _ _ 137 _ _ _ _)
            refine v_goto (tgt := 143) (i := 63) rfl (by decide) (?_ : ky_V _ _ _ 143 _ _ _ _)
            refine v_iret (v := (-99)) (ty := .int) (i := 67) rfl rfl rfl ?_
            obtain ⟨rfl, rfl⟩ := ky_leaf e
            exact hr _ hmh22 frh22
    · replace e := ky_ifF c3 e
      obtain ⟨s28, hvs28, -⟩ := sg_X11_135 hG
      refine v_throwN (rx := prog_35_method_4_code) (i0 := 5) (i1 := 6) (i2 := 7) (i3 := 8) (i4 := 9) (by decide +kernel) (by decide +kernel) (by decide +kernel) (by decide +kernel) tn_X11_133_137 ky_ts hG hvs28 rfl rfl rfl rfl rfl rfl (Nat.le_of_ble_eq_true rfl) ?_
      obtain ⟨rfl, rfl⟩ := ky_leaf e
      exact hr _ (sk_hpJ hm) (sk_frJ hm fr)

def x11_better (N : Nat)  (s : sk_S) (a : Nat) (p1 : Int32) (p2 : Int32) : Option (sk_S × ky_RS) := (if lay_X11 (sk_K s) (sk_r s) a = true then (if (ws_isRun p1) = 0 then (some ((sk_rs s 6), (.inr "java/lang/IllegalArgumentException"))) else (if (ws_isForce p2) = 0 then (some ((sk_rs s 6), (.inr "java/lang/IllegalArgumentException"))) else ((x11_minuteByHelp N s a p1 p2).bind (fun zz => (fun q5 x6 => (if x6 = (-1 : Int32) then (some (q5, (.inl (some (.int 0))))) else ((x11_minutesOut N q5 a (sk_c q5 (a + 13) 0) 127).bind (fun zz => (fun q10 x11 => (if x11 = (-1 : Int32) then (some (q10, (.inl (some (.int 1))))) else (if ((sk_c q10 (a + 13) 4) + x11) ≤ x6 then (some (q10, (.inl (some (.int 0))))) else (some (q10, (.inl (some (.int 1)))))))) zz.1 zz.2)))) zz.1 zz.2)))) else none)
set_option maxRecDepth 20000 in
set_option maxHeartbeats 4000000 in
theorem k_X11_better {G : ky_GW} {d : Nat} {h : ky_HP} {Q : ky_RS → ky_HP → Prop} {s s9 : sk_S} {r9 : ky_RS} {a : Nat} {p1 : Int32} {p2 : Int32} (N : Nat) (hG : ky_OK G)   (hm : sk_hp G s h)  (e : x11_better N  s a p1 p2 = some (s9, r9)) (hr : ∀ h1, sk_hp G s9 h1 → sk_fr none s h s9 h1 → Q r9 h1) : ky_Call G (d + 7) M_X11_better [.ref a, .int p1, .int p2] h Q := by
  refine ky_ofV (by decide +kernel) rfl ok_X11_better (Nat.le_of_ble_eq_true rfl) ?_
  have fr : sk_fr none s h s h := sk_fr.rf
  unfold x11_better at e
  refine (?_ : ky_V _ _ _ 0 [(0, .ref a), (1, .int p1), (2, .int p2)] [] _ _)
  obtain ⟨za, e⟩ := ky_chkE e
  refine v_iload_n (i := 0) (j := 1) rfl rfl (?_ : ky_V _ _ _ 1 _ _ _ _)
  refine cl_X11_311 (As := [.int p1]) rfl (i := 1) rfl rfl rfl (Nat.le_of_ble_eq_true rfl) (k_X11_isRun p1 ⟨_, rfl, (?_ : ky_V _ _ _ 4 _ [.int ((ws_isRun p1))] _ _)⟩)
  refine v_if_eq (tgt := 14) (i := 2) rfl (by decide) (fun c1 => ?_) (fun c1 => ?_)
  · replace e := ky_ifT c1 e
    obtain ⟨s2, hvs2, -⟩ := sg_X11_314 hG
    refine v_throwSW (i0 := 6) (i1 := 7) (i2 := 8) (i3 := 9) (i4 := 10) te_X11_80_84 ky_ts hG hvs2 rfl rfl rfl rfl rfl rfl (Nat.le_of_ble_eq_true rfl) ?_
    obtain ⟨rfl, rfl⟩ := ky_leaf e
    exact hr _ (sk_hpJ hm) (sk_frJ hm fr)
  · replace e := ky_ifF c1 e
    refine v_iload_n (i := 3) (j := 2) rfl rfl (?_ : ky_V _ _ _ 8 _ _ _ _)
    refine cl_X11_217 (As := [.int p2]) rfl (i := 4) rfl rfl rfl (Nat.le_of_ble_eq_true rfl) (k_X11_isForce p2 ⟨_, rfl, (?_ : ky_V _ _ _ 11 _ [.int ((ws_isForce p2))] _ _)⟩)
    refine v_if_ne (tgt := 25) (i := 5) rfl (by decide) (fun c3 => ?_) (fun c3 => ?_)
    · replace e := ky_ifF c3 e
      refine v_aload_n (i := 11) (j := 0) rfl rfl (?_ : ky_V _ _ _ 26 _ _ _ _)
      refine v_iload_n (i := 12) (j := 1) rfl rfl (?_ : ky_V _ _ _ 27 _ _ _ _)
      refine v_iload_n (i := 13) (j := 2) rfl rfl (?_ : ky_V _ _ _ 28 _ _ _ _)
      obtain ⟨⟨q5, x6⟩, g7, e⟩ := Option.bind_eq_some_iff.mp e
      refine cl_X11_316 (As := [.int p1, .int p2]) rfl (i := 14) rfl (oc_X11 hm (ly_X11_c za)) rfl rfl (Nat.le_of_ble_eq_true rfl) (k_X11_minuteByHelp N hG hm g7 (fun h4 hmh4 frh4 => ⟨_, rfl, (?_ : ky_V _ _ _ 31 _ [.int x6] _ _)⟩))
      have frh4 := fr.tr frh4
      refine v_istore_n (L' := [(0, .ref a), (1, .int p1), (2, .int p2), (3, .int x6)]) [1, 2, 3, 0] (i := 15) rfl (Nat.le_of_ble_eq_true rfl) rfl (?_ : ky_V _ _ _ 32 _ _ _ _)
      refine v_iload_n (i := 16) (j := 3) rfl rfl (?_ : ky_V _ _ _ 33 _ _ _ _)
      refine v_iconst (v := (-1)) (i := 17) rfl (by decide) (?_ : ky_V _ _ _ 34 _ _ _ _)
      refine v_icmp_ne (tgt := 39) (i := 18) rfl (by decide) (fun c8 => ?_) (fun c8 => ?_)
      · replace e := ky_ifF c8 e
        refine v_aload_n (i := 21) (j := 0) rfl rfl (?_ : ky_V _ _ _ 40 _ _ _ _)
        refine v_aload_n (i := 22) (j := 0) rfl rfl (?_ : ky_V _ _ _ 41 _ _ _ _)
        refine gf_X11_33 rfl (i := 23) rfl (oc_X11 hmh4 (ly_X11_c (lt_X11 frh4 za))) (sk_rf (ly_X11_r3 (lt_X11 frh4 za))) (?_ : ky_V _ _ _ 44 _ (.ref (a + 12) :: _) _ _)
        refine gf_X11_191 rfl (i := 24) rfl (oc_X7 hmh4 (ly_X7_c (ly_X11_l3 (lt_X11 frh4 za)))) (sk_rf (ly_X7_r0 (ly_X11_l3 (lt_X11 frh4 za)))) (?_ : ky_V _ _ _ 47 _ (.ref (a + 13) :: _) _ _)
        refine gf_X11_209 rfl (i := 25) rfl (oc_X1 hmh4 (ly_X1_c (ly_X7_l0 (ly_X11_l3 (lt_X11 frh4 za))))) rfl (?_ : ky_V _ _ _ 50 _ _ _ _)
        refine v_bipush (v := 127) (i := 26) rfl (by decide) (?_ : ky_V _ _ _ 52 _ _ _ _)
        obtain ⟨⟨q10, x11⟩, g12, e⟩ := Option.bind_eq_some_iff.mp e
        refine cl_X11_277 (As := [.int ((sk_c q5 (a + 13) 0)), .int 127]) rfl (i := 27) rfl (oc_X11 hmh4 (ly_X11_c (lt_X11 frh4 za))) rfl rfl (Nat.le_of_ble_eq_true rfl) (k_X11_minutesOut N hG hmh4 g12 (fun h9 hmh9 frh9 => ⟨_, rfl, (?_ : ky_V _ _ _ 55 _ [.int x11] _ _)⟩))
        have frh9 := frh4.tr frh9
        refine v_istore (L' := [(0, .ref a), (1, .int p1), (2, .int p2), (3, .int x6), (4, .int x11)]) [1, 2, 3, 4, 0] (i := 28) rfl (Nat.le_of_ble_eq_true rfl) rfl (?_ : ky_V _ _ _ 57 _ _ _ _)
        refine v_iload (i := 29) (j := 4) rfl rfl (?_ : ky_V _ _ _ 59 _ _ _ _)
        refine v_iconst (v := (-1)) (i := 30) rfl (by decide) (?_ : ky_V _ _ _ 60 _ _ _ _)
        refine v_icmp_eq (tgt := 80) (i := 31) rfl (by decide) (fun c13 => ?_) (fun c13 => ?_)
        · replace e := ky_ifT c13 e
          refine v_iconst (v := 1) (i := 40) rfl (by decide) (?_ : ky_V _ _ _ 81 _ _ _ _)
          refine v_goto (tgt := 85) (i := 41) rfl (by decide) (?_ : ky_V _ _ _ 85 _ _ _ _)
          refine v_iret (v := 1) (ty := .boolean) (i := 43) rfl rfl (by decide) ?_
          obtain ⟨rfl, rfl⟩ := ky_leaf e
          exact hr _ hmh9 frh9
        · replace e := ky_ifF c13 e
          refine v_iload_n (i := 32) (j := 3) rfl rfl (?_ : ky_V _ _ _ 64 _ _ _ _)
          refine v_aload_n (i := 33) (j := 0) rfl rfl (?_ : ky_V _ _ _ 65 _ _ _ _)
          refine gf_X11_33 rfl (i := 34) rfl (oc_X11 hmh9 (ly_X11_c (lt_X11 frh9 za))) (sk_rf (ly_X11_r3 (lt_X11 frh9 za))) (?_ : ky_V _ _ _ 68 _ (.ref (a + 12) :: _) _ _)
          refine gf_X11_191 rfl (i := 35) rfl (oc_X7 hmh9 (ly_X7_c (ly_X11_l3 (lt_X11 frh9 za)))) (sk_rf (ly_X7_r0 (ly_X11_l3 (lt_X11 frh9 za)))) (?_ : ky_V _ _ _ 71 _ (.ref (a + 13) :: _) _ _)
          refine gf_X11_319 rfl (i := 36) rfl (oc_X1 hmh9 (ly_X1_c (ly_X7_l0 (ly_X11_l3 (lt_X11 frh9 za))))) rfl (?_ : ky_V _ _ _ 74 _ _ _ _)
          refine v_iload (i := 37) (j := 4) rfl rfl (?_ : ky_V _ _ _ 76 _ _ _ _)
          refine v_iadd (i := 38) rfl (?_ : ky_V _ _ _ 77 _ _ _ _)
          refine v_icmp_ge (tgt := 84) (i := 39) rfl (by decide) (fun c14 => ?_) (fun c14 => ?_)
          · replace e := ky_ifT c14 e
            refine v_iconst (v := 0) (i := 42) rfl (by decide) (?_ : ky_V _ _ _ 85 _ _ _ _)
            refine v_iret (v := 0) (ty := .boolean) (i := 43) rfl rfl (by decide) ?_
            obtain ⟨rfl, rfl⟩ := ky_leaf e
            exact hr _ hmh9 frh9
          · replace e := ky_ifF c14 e
            refine v_iconst (v := 1) (i := 40) rfl (by decide) (?_ : ky_V _ _ _ 81 _ _ _ _)
            refine v_goto (tgt := 85) (i := 41) rfl (by decide) (?_ : ky_V _ _ _ 85 _ _ _ _)
            refine v_iret (v := 1) (ty := .boolean) (i := 43) rfl rfl (by decide) ?_
            obtain ⟨rfl, rfl⟩ := ky_leaf e
            exact hr _ hmh9 frh9
      · replace e := ky_ifT c8 e
        refine v_iconst (v := 0) (i := 19) rfl (by decide) (?_ : ky_V _ _ _ 38 _ _ _ _)
        refine v_iret (v := 0) (ty := .boolean) (i := 20) rfl rfl (by decide) ?_
        obtain ⟨rfl, rfl⟩ := ky_leaf e
        exact hr _ hmh4 frh4
    · replace e := ky_ifT c3 e
      obtain ⟨s15, hvs15, -⟩ := sg_X11_314 hG
      refine v_throwSW (i0 := 6) (i1 := 7) (i2 := 8) (i3 := 9) (i4 := 10) te_X11_80_84 ky_ts hG hvs15 rfl rfl rfl rfl rfl rfl (Nat.le_of_ble_eq_true rfl) ?_
      obtain ⟨rfl, rfl⟩ := ky_leaf e
      exact hr _ (sk_hpJ hm) (sk_frJ hm fr)

def x11_soonest (N : Nat)  (s : sk_S) (a : Nat) (p1 : Int32) : Option (sk_S × Int32) := (if lay_X11 (sk_K s) (sk_r s) a = true then ((x11_minutesOut N s a (sk_c s (a + 13) 0) p1).bind (fun zz => (fun q2 x3 => (some (q2, x3))) zz.1 zz.2)) else none)
set_option maxRecDepth 20000 in
set_option maxHeartbeats 4000000 in
theorem k_X11_soonest {G : ky_GW} {d : Nat} {h : ky_HP} {Q : ky_RS → ky_HP → Prop} {s s9 : sk_S} {r9 : Int32} {a : Nat} {p1 : Int32} (N : Nat) (hG : ky_OK G)   (hm : sk_hp G s h)  (e : x11_soonest N  s a p1 = some (s9, r9)) (hr : ∀ h1, sk_hp G s9 h1 → sk_fr none s h s9 h1 → Q (.inl (some (.int r9))) h1) : ky_Call G (d + 7) M_X11_soonest [.ref a, .int p1] h Q := by
  refine ky_ofV (by decide +kernel) rfl ok_X11_soonest (Nat.le_of_ble_eq_true rfl) ?_
  have fr : sk_fr none s h s h := sk_fr.rf
  unfold x11_soonest at e
  refine (?_ : ky_V _ _ _ 0 [(0, .ref a), (1, .int p1)] [] _ _)
  obtain ⟨za, e⟩ := ky_chkE e
  refine v_aload_n (i := 0) (j := 0) rfl rfl (?_ : ky_V _ _ _ 1 _ _ _ _)
  refine v_aload_n (i := 1) (j := 0) rfl rfl (?_ : ky_V _ _ _ 2 _ _ _ _)
  refine gf_X11_33 rfl (i := 2) rfl (oc_X11 hm (ly_X11_c za)) (sk_rf (ly_X11_r3 za)) (?_ : ky_V _ _ _ 5 _ (.ref (a + 12) :: _) _ _)
  refine gf_X11_191 rfl (i := 3) rfl (oc_X7 hm (ly_X7_c (ly_X11_l3 za))) (sk_rf (ly_X7_r0 (ly_X11_l3 za))) (?_ : ky_V _ _ _ 8 _ (.ref (a + 13) :: _) _ _)
  refine gf_X11_209 rfl (i := 4) rfl (oc_X1 hm (ly_X1_c (ly_X7_l0 (ly_X11_l3 za)))) rfl (?_ : ky_V _ _ _ 11 _ _ _ _)
  refine v_iload_n (i := 5) (j := 1) rfl rfl (?_ : ky_V _ _ _ 12 _ _ _ _)
  obtain ⟨⟨q2, x3⟩, g4, e⟩ := Option.bind_eq_some_iff.mp e
  refine cl_X11_277 (As := [.int ((sk_c s (a + 13) 0)), .int p1]) rfl (i := 6) rfl (oc_X11 hm (ly_X11_c za)) rfl rfl (Nat.le_of_ble_eq_true rfl) (k_X11_minutesOut N hG hm g4 (fun h1 hmh1 frh1 => ⟨_, rfl, (?_ : ky_V _ _ _ 15 _ [.int x3] _ _)⟩))
  have frh1 := fr.tr frh1
  refine v_iret (v := x3) (ty := .int) (i := 7) rfl rfl rfl ?_
  obtain ⟨rfl, rfl⟩ := ky_leaf e
  exact hr _ hmh1 frh1
