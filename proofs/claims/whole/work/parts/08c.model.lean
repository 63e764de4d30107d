def ky_let {α β : Type} (v : α) (f : α → β) : β := f v
theorem ky_letE {α β : Type} {v x : α} {f : α → β} {r : β} (h : x = v) (e : ky_let v f = r) : f x = r := by subst h; exact e
theorem ky_ifT {α : Type} {c : Prop} [Decidable c] {A B r : α} (h : c) (e : (if c then A else B) = r) : A = r := by rw [if_pos h] at e; exact e
theorem ky_ifF {α : Type} {c : Prop} [Decidable c] {A B r : α} (h : ¬ c) (e : (if c then A else B) = r) : B = r := by rw [if_neg h] at e; exact e
theorem ky_chkE {α : Type} {c : Prop} [Decidable c] {A : Option α} {r : α} (e : (if c then A else none) = some r) : c ∧ A = some r := by
  by_cases h : c
  · rw [if_pos h] at e; exact ⟨h, e⟩
  · rw [if_neg h] at e; cases e
theorem ky_leaf {α β : Type} {a a' : α} {b b' : β} (e : some (a, b) = some (a', b')) : a = a' ∧ b = b' := by cases e; exact ⟨rfl, rfl⟩
def ky_inB (x : Int32) (n : Nat) : Bool := decide (0 ≤ x) && decide (x.toNatClampNeg < n)
theorem ky_inb {x : Int32} {n : Nat} (h : ky_inB x n = true) : vp_in x n := by
  unfold ky_inB at h
  rw [Bool.and_eq_true, decide_eq_true_eq, decide_eq_true_eq] at h
  exact ky_inl h
theorem ky_swO {x : Int32} {lo hi : Int} (h : ∀ k : Int, lo ≤ k → k ≤ hi → x.toInt ≠ k) : x.toInt < lo ∨ hi < x.toInt := by
  rcases Classical.em (x.toInt < lo) with h1 | h1
  · exact Or.inl h1
  · rcases Classical.em (hi < x.toInt) with h2 | h2
    · exact Or.inr h2
    · exact absurd rfl (h _ (by omega) (by omega))
def md_image_L7 (N : Nat) (k : (Nat → Nat → Int32) → Int32 → Option ((Nat → Nat → Int32) × Int32)) : Nat → (Nat → Nat → Int32) → Int32 → Option ((Nat → Nat → Int32) × Int32)
  | 0, _, _ => none
  | n + 1, c, p1 => (if (1398 : Int32) ≤ p1 then (k c p1) else (if ky_inB p1 2247 = true then (ky_let (c 1 (Int32.toNatClampNeg p1)) (fun x3 => (if ky_inB p1 1398 = true then (ky_let (bk_w c 2 (Int32.toNatClampNeg p1) x3) (fun q6 => (ky_let (p1 + 1) (fun x7 => (md_image_L7 N k n q6 x7))))) else none))) else none))
set_option maxRecDepth 20000 in
set_option maxHeartbeats 4000000 in
theorem lv_X12_image_7 {G : ky_GW} {d : Nat} {h0 : ky_HP} {Q : ky_RS → ky_HP → Prop} {a : Nat} {c9 : (Nat → Nat → Int32)} {r9 : Int32} (N : Nat) (k : (Nat → Nat → Int32) → Int32 → Option ((Nat → Nat → Int32) × Int32)) (hr : ∀ h1, md_at G h1 a c9 → bk_fr a 13 h0 h1 → Q (.inl none) h1)
    (hk : ∀ (h : ky_HP) (c : (Nat → Nat → Int32)) (p1 : Int32), md_at G h a c → bk_fr a 13 h0 h → k c p1 = some (c9, r9) → ky_V G d M_X12_image 32 [(0, .ref a), (1, .int p1)] [] h Q) :
    ∀ (n : Nat) (h : ky_HP) (c : (Nat → Nat → Int32)) (p1 : Int32), md_at G h a c → bk_fr a 13 h0 h → md_image_L7 N k n c p1 = some (c9, r9) → ky_V G d M_X12_image 7 [(0, .ref a), (1, .int p1)] [] h Q := by
  intro n
  induction n with
  | zero => intro h c p1 hm fr e; cases e
  | succ n ih =>
    intro h c p1 hm fr e
    rw [md_image_L7] at e
    refine v_iload_n (i := 5) (j := 1) rfl rfl (?_ : ky_V _ _ _ 8 _ _ _ _)
    refine v_sipush (v := 1398) (i := 6) rfl (by decide) (?_ : ky_V _ _ _ 11 _ _ _ _)
    refine v_icmp_ge (tgt := 32) (i := 7) rfl (by decide) (fun c1 => ?_) (fun c1 => ?_)
    · replace e := ky_ifT c1 e
      exact hk h c p1 hm fr e
    · replace e := ky_ifF c1 e
      refine v_aload_n (i := 8) (j := 0) rfl rfl (?_ : ky_V _ _ _ 15 _ _ _ _)
      refine gf_X12_17 rfl (i := 9) rfl (md_0 hm) rfl (?_ : ky_V _ _ _ 18 _ _ _ _)
      refine v_iload_n (i := 10) (j := 1) rfl rfl (?_ : ky_V _ _ _ 19 _ _ _ _)
      refine v_aload_n (i := 11) (j := 0) rfl rfl (?_ : ky_V _ _ _ 20 _ _ _ _)
      refine gf_X12_13 rfl (i := 12) rfl (md_0 hm) rfl (?_ : ky_V _ _ _ 23 _ _ _ _)
      refine v_iload_n (i := 13) (j := 1) rfl rfl (?_ : ky_V _ _ _ 24 _ _ _ _)
      obtain ⟨z2, e⟩ := ky_chkE e
      refine v_iald (i := 14) rfl (md_1 hm) (ky_inb z2) (?_ : ky_V _ _ _ 25 _ (.int (c 1 (Int32.toNatClampNeg p1)) :: _) _ _)
      refine v_topi (fun x3 ex3 => ?_)
      replace e := ky_letE ex3 e
      obtain ⟨z4, e⟩ := ky_chkE e
      refine v_iast (i := 15) rfl (md_2 hm) (ky_inb z4) ?_
      refine bk_st (B := md_B G a) hm fr 2 (Int32.toNatClampNeg p1) x3 (by decide) (fun h5 hmh5 frh5 => ?_)
      obtain ⟨q6, eq6⟩ : ∃ z, z = (bk_w c 2 (Int32.toNatClampNeg p1) x3) := ⟨_, rfl⟩
      rw [← eq6] at hmh5
      replace e := ky_letE eq6 e
      refine (?_ : ky_V _ _ _ 26 _ _ _ _)
      obtain ⟨x7, ex7⟩ : ∃ z : Int32, z = p1 + 1 := ⟨_, rfl⟩
      replace e := ky_letE ex7 e
      refine v_iinc (v := x7) (j := 1) (L' := [(0, .ref a), (1, .int x7)]) [1, 0] (i := 16) rfl rfl (by rw [ex7]; rfl) (Nat.le_of_ble_eq_true rfl) rfl (?_ : ky_V _ _ _ 29 _ _ _ _)
      refine v_goto (tgt := 7) (i := 17) rfl (by decide) (?_ : ky_V _ _ _ 7 _ _ _ _)
      exact ih h5 q6 x7 hmh5 frh5 e

def md_image (N : Nat) (c : (Nat → Nat → Int32))  : Option ((Nat → Nat → Int32) × Int32) := (ky_let (bk_w c 0 0 0) (fun q2 => (md_image_L7 N (fun q4 x5 => (ky_let (bk_w q4 0 6 1) (fun q7 => (some (q7, 0))))) N q2 0)))
set_option maxRecDepth 20000 in
set_option maxHeartbeats 4000000 in
theorem k_X12_image {G : ky_GW} {d : Nat} {h : ky_HP} {Q : ky_RS → ky_HP → Prop} {a : Nat} {c c9 : (Nat → Nat → Int32)} {r9 : Int32}  (N : Nat) (hm : md_at G h a c) (e : md_image N c = some (c9, r9)) (hr : ∀ h1, md_at G h1 a c9 → bk_fr a 13 h h1 → Q (.inl none) h1) : ky_Call G d M_X12_image [.ref a] h Q := by
  refine ky_ofV (by decide +kernel) rfl ok_X12_image (Nat.le_of_ble_eq_true rfl) ?_
  have fr : bk_fr a 13 h h := bk_fr.rf
  unfold md_image at e
  refine (?_ : ky_V _ _ _ 0 [(0, .ref a)] [] _ _)
  refine v_aload_n (i := 0) (j := 0) rfl rfl (?_ : ky_V _ _ _ 1 _ _ _ _)
  refine v_iconst (v := 0) (i := 1) rfl (by decide) (?_ : ky_V _ _ _ 2 _ _ _ _)
  refine pf_X12_3 rfl (i := 2) rfl (md_0 hm) (Nat.le_of_ble_eq_true rfl) rfl rfl ?_
  refine bk_st (B := md_B G a) hm fr 0 0 0 (by decide) (fun h1 hmh1 frh1 => ?_)
  obtain ⟨q2, eq2⟩ : ∃ z, z = (bk_w c 0 0 0) := ⟨_, rfl⟩
  rw [← eq2] at hmh1
  replace e := ky_letE eq2 e
  refine (?_ : ky_V _ _ _ 5 _ _ _ _)
  refine v_iconst (v := 0) (i := 3) rfl (by decide) (?_ : ky_V _ _ _ 6 _ _ _ _)
  refine v_istore_n (L' := [(0, .ref a), (1, .int 0)]) [1, 0] (i := 4) rfl (Nat.le_of_ble_eq_true rfl) rfl (?_ : ky_V _ _ _ 7 _ _ _ _)
  refine lv_X12_image_7 N _ hr (fun h3 q4 x5 hmh3 frh3 e => ?_) N h1 q2 0 hmh1 frh1 e
  refine v_aload_n (i := 18) (j := 0) rfl rfl (?_ : ky_V _ _ _ 33 _ _ _ _)
  refine v_iconst (v := 1) (i := 19) rfl (by decide) (?_ : ky_V _ _ _ 34 _ _ _ _)
  refine pf_X12_54 rfl (i := 20) rfl (md_0 hmh3) (Nat.le_of_ble_eq_true rfl) (by decide) (by decide) ?_
  refine bk_st (B := md_B G a) hmh3 frh3 0 6 1 (by decide) (fun h6 hmh6 frh6 => ?_)
  obtain ⟨q7, eq7⟩ : ∃ z, z = (bk_w q4 0 6 1) := ⟨_, rfl⟩
  rw [← eq7] at hmh6
  replace e := ky_letE eq7 e
  refine (?_ : ky_V _ _ _ 37 _ _ _ _)
  refine v_vret (i := 21) rfl rfl ?_
  obtain ⟨rfl, rfl⟩ := ky_leaf e
  exact hr _ hmh6 frh6

def md_back_L16 (N : Nat) (k : (Nat → Nat → Int32) → Int32 → Option ((Nat → Nat → Int32) × Int32)) : Nat → (Nat → Nat → Int32) → Int32 → Option ((Nat → Nat → Int32) × Int32)
  | 0, _, _ => none
  | n + 1, c, p1 => (if (1398 : Int32) ≤ p1 then (k c p1) else (if ky_inB p1 1398 = true then (ky_let (c 2 (Int32.toNatClampNeg p1)) (fun x3 => (if ky_inB p1 2247 = true then (ky_let (bk_w c 1 (Int32.toNatClampNeg p1) x3) (fun q6 => (ky_let (p1 + 1) (fun x7 => (md_back_L16 N k n q6 x7))))) else none))) else none))
set_option maxRecDepth 20000 in
set_option maxHeartbeats 4000000 in
theorem lv_X12_back_16 {G : ky_GW} {d : Nat} {h0 : ky_HP} {Q : ky_RS → ky_HP → Prop} {a : Nat} {c9 : (Nat → Nat → Int32)} {r9 : Int32} (N : Nat) (k : (Nat → Nat → Int32) → Int32 → Option ((Nat → Nat → Int32) × Int32)) (hr : ∀ h1, md_at G h1 a c9 → bk_fr a 13 h0 h1 → Q (.inl (some (.int r9))) h1)
    (hk : ∀ (h : ky_HP) (c : (Nat → Nat → Int32)) (p1 : Int32), md_at G h a c → bk_fr a 13 h0 h → k c p1 = some (c9, r9) → ky_V G d M_X12_back 41 [(0, .ref a), (1, .int p1)] [] h Q) :
    ∀ (n : Nat) (h : ky_HP) (c : (Nat → Nat → Int32)) (p1 : Int32), md_at G h a c → bk_fr a 13 h0 h → md_back_L16 N k n c p1 = some (c9, r9) → ky_V G d M_X12_back 16 [(0, .ref a), (1, .int p1)] [] h Q := by
  intro n
  induction n with
  | zero => intro h c p1 hm fr e; cases e
  | succ n ih =>
    intro h c p1 hm fr e
    rw [md_back_L16] at e
    refine v_iload_n (i := 10) (j := 1) rfl rfl (?_ : ky_V _ _ _ 17 _ _ _ _)
    refine v_sipush (v := 1398) (i := 11) rfl (by decide) (?_ : ky_V _ _ _ 20 _ _ _ _)
    refine v_icmp_ge (tgt := 41) (i := 12) rfl (by decide) (fun c1 => ?_) (fun c1 => ?_)
    · replace e := ky_ifT c1 e
      exact hk h c p1 hm fr e
    · replace e := ky_ifF c1 e
      refine v_aload_n (i := 13) (j := 0) rfl rfl (?_ : ky_V _ _ _ 24 _ _ _ _)
      refine gf_X12_13 rfl (i := 14) rfl (md_0 hm) rfl (?_ : ky_V _ _ _ 27 _ _ _ _)
      refine v_iload_n (i := 15) (j := 1) rfl rfl (?_ : ky_V _ _ _ 28 _ _ _ _)
      refine v_aload_n (i := 16) (j := 0) rfl rfl (?_ : ky_V _ _ _ 29 _ _ _ _)
      refine gf_X12_17 rfl (i := 17) rfl (md_0 hm) rfl (?_ : ky_V _ _ _ 32 _ _ _ _)
      refine v_iload_n (i := 18) (j := 1) rfl rfl (?_ : ky_V _ _ _ 33 _ _ _ _)
      obtain ⟨z2, e⟩ := ky_chkE e
      refine v_iald (i := 19) rfl (md_2 hm) (ky_inb z2) (?_ : ky_V _ _ _ 34 _ (.int (c 2 (Int32.toNatClampNeg p1)) :: _) _ _)
      refine v_topi (fun x3 ex3 => ?_)
      replace e := ky_letE ex3 e
      obtain ⟨z4, e⟩ := ky_chkE e
      refine v_iast (i := 20) rfl (md_1 hm) (ky_inb z4) ?_
      refine bk_st (B := md_B G a) hm fr 1 (Int32.toNatClampNeg p1) x3 (by decide) (fun h5 hmh5 frh5 => ?_)
      obtain ⟨q6, eq6⟩ : ∃ z, z = (bk_w c 1 (Int32.toNatClampNeg p1) x3) := ⟨_, rfl⟩
      rw [← eq6] at hmh5
      replace e := ky_letE eq6 e
      refine (?_ : ky_V _ _ _ 35 _ _ _ _)
      obtain ⟨x7, ex7⟩ : ∃ z : Int32, z = p1 + 1 := ⟨_, rfl⟩
      replace e := ky_letE ex7 e
      refine v_iinc (v := x7) (j := 1) (L' := [(0, .ref a), (1, .int x7)]) [1, 0] (i := 21) rfl rfl (by rw [ex7]; rfl) (Nat.le_of_ble_eq_true rfl) rfl (?_ : ky_V _ _ _ 38 _ _ _ _)
      refine v_goto (tgt := 16) (i := 22) rfl (by decide) (?_ : ky_V _ _ _ 16 _ _ _ _)
      exact ih h5 q6 x7 hmh5 frh5 e

def md_back (N : Nat) (c : (Nat → Nat → Int32))  : Option ((Nat → Nat → Int32) × Int32) := (ky_let (bk_w c 0 0 0) (fun q2 => (if (q2 0 6) = 0 then (some (q2, 0)) else (md_back_L16 N (fun q5 x6 => (ky_let (bk_w q5 0 7 0) (fun q8 => (some (q8, 1))))) N q2 0))))
set_option maxRecDepth 20000 in
set_option maxHeartbeats 4000000 in
theorem k_X12_back {G : ky_GW} {d : Nat} {h : ky_HP} {Q : ky_RS → ky_HP → Prop} {a : Nat} {c c9 : (Nat → Nat → Int32)} {r9 : Int32}  (N : Nat) (hm : md_at G h a c) (e : md_back N c = some (c9, r9)) (hr : ∀ h1, md_at G h1 a c9 → bk_fr a 13 h h1 → Q (.inl (some (.int r9))) h1) : ky_Call G d M_X12_back [.ref a] h Q := by
  refine ky_ofV (by decide +kernel) rfl ok_X12_back (Nat.le_of_ble_eq_true rfl) ?_
  have fr : bk_fr a 13 h h := bk_fr.rf
  unfold md_back at e
  refine (?_ : ky_V _ _ _ 0 [(0, .ref a)] [] _ _)
  refine v_aload_n (i := 0) (j := 0) rfl rfl (?_ : ky_V _ _ _ 1 _ _ _ _)
  refine v_iconst (v := 0) (i := 1) rfl (by decide) (?_ : ky_V _ _ _ 2 _ _ _ _)
  refine pf_X12_3 rfl (i := 2) rfl (md_0 hm) (Nat.le_of_ble_eq_true rfl) rfl rfl ?_
  refine bk_st (B := md_B G a) hm fr 0 0 0 (by decide) (fun h1 hmh1 frh1 => ?_)
  obtain ⟨q2, eq2⟩ : ∃ z, z = (bk_w c 0 0 0) := ⟨_, rfl⟩
  rw [← eq2] at hmh1
  replace e := ky_letE eq2 e
  refine (?_ : ky_V _ _ _ 5 _ _ _ _)
  refine v_aload_n (i := 3) (j := 0) rfl rfl (?_ : ky_V _ _ _ 6 _ _ _ _)
  refine gf_X12_54 rfl (i := 4) rfl (md_0 hmh1) rfl (?_ : ky_V _ _ _ 9 _ _ _ _)
  refine v_if_ne (tgt := 14) (i := 5) rfl (by decide) (fun c3 => ?_) (fun c3 => ?_)
  · replace e := ky_ifF c3 e
    refine v_iconst (v := 0) (i := 8) rfl (by decide) (?_ : ky_V _ _ _ 15 _ _ _ _)
    refine v_istore_n (L' := [(0, .ref a), (1, .int 0)]) [1, 0] (i := 9) rfl (Nat.le_of_ble_eq_true rfl) rfl (?_ : ky_V _ _ _ 16 _ _ _ _)
    refine lv_X12_back_16 N _ hr (fun h4 q5 x6 hmh4 frh4 e => ?_) N h1 q2 0 hmh1 frh1 e
    refine v_aload_n (i := 23) (j := 0) rfl rfl (?_ : ky_V _ _ _ 42 _ _ _ _)
    refine v_iconst (v := 0) (i := 24) rfl (by decide) (?_ : ky_V _ _ _ 43 _ _ _ _)
    refine pf_X12_58 rfl (i := 25) rfl (md_0 hmh4) (Nat.le_of_ble_eq_true rfl) rfl rfl ?_
    refine bk_st (B := md_B G a) hmh4 frh4 0 7 0 (by decide) (fun h7 hmh7 frh7 => ?_)
    obtain ⟨q8, eq8⟩ : ∃ z, z = (bk_w q5 0 7 0) := ⟨_, rfl⟩
    rw [← eq8] at hmh7
    replace e := ky_letE eq8 e
    refine (?_ : ky_V _ _ _ 46 _ _ _ _)
    refine v_iconst (v := 1) (i := 26) rfl (by decide) (?_ : ky_V _ _ _ 47 _ _ _ _)
    refine v_iret (v := 1) (ty := .boolean) (i := 27) rfl rfl (by decide) ?_
    obtain ⟨rfl, rfl⟩ := ky_leaf e
    exact hr _ hmh7 frh7
  · replace e := ky_ifT c3 e
    refine v_iconst (v := 0) (i := 6) rfl (by decide) (?_ : ky_V _ _ _ 13 _ _ _ _)
    refine v_iret (v := 0) (ty := .boolean) (i := 7) rfl rfl (by decide) ?_
    obtain ⟨rfl, rfl⟩ := ky_leaf e
    exact hr _ hmh1 frh1

def md_undo_L26 (N : Nat) (k : (Nat → Nat → Int32) → Int32 → Option ((Nat → Nat → Int32) × Int32)) : Nat → (Nat → Nat → Int32) → Int32 → Option ((Nat → Nat → Int32) × Int32)
  | 0, _, _ => none
  | n + 1, c, p1 => (if (549 : Int32) ≤ p1 then (k c p1) else (if ky_inB ((549 * (c 0 7)) + p1) 6588 = true then (ky_let (c 5 (Int32.toNatClampNeg ((549 * (c 0 7)) + p1))) (fun x3 => (if ky_inB p1 2247 = true then (ky_let (bk_w c 1 (Int32.toNatClampNeg p1) x3) (fun q6 => (ky_let (p1 + 1) (fun x7 => (md_undo_L26 N k n q6 x7))))) else none))) else none))
set_option maxRecDepth 20000 in
set_option maxHeartbeats 4000000 in
theorem lv_X12_undo_26 {G : ky_GW} {d : Nat} {h0 : ky_HP} {Q : ky_RS → ky_HP → Prop} {a : Nat} {c9 : (Nat → Nat → Int32)} {r9 : Int32} (N : Nat) (k : (Nat → Nat → Int32) → Int32 → Option ((Nat → Nat → Int32) × Int32)) (hr : ∀ h1, md_at G h1 a c9 → bk_fr a 13 h0 h1 → Q (.inl (some (.int r9))) h1)
    (hk : ∀ (h : ky_HP) (c : (Nat → Nat → Int32)) (p1 : Int32), md_at G h a c → bk_fr a 13 h0 h → k c p1 = some (c9, r9) → ky_V G d M_X12_undo 60 [(0, .ref a), (1, .int p1)] [] h Q) :
    ∀ (n : Nat) (h : ky_HP) (c : (Nat → Nat → Int32)) (p1 : Int32), md_at G h a c → bk_fr a 13 h0 h → md_undo_L26 N k n c p1 = some (c9, r9) → ky_V G d M_X12_undo 26 [(0, .ref a), (1, .int p1)] [] h Q := by
  intro n
  induction n with
  | zero => intro h c p1 hm fr e; cases e
  | succ n ih =>
    intro h c p1 hm fr e
    rw [md_undo_L26] at e
    refine v_iload_n (i := 16) (j := 1) rfl rfl (?_ : ky_V _ _ _ 27 _ _ _ _)
    refine v_sipush (v := 549) (i := 17) rfl (by decide) (?_ : ky_V _ _ _ 30 _ _ _ _)
    refine v_icmp_ge (tgt := 60) (i := 18) rfl (by decide) (fun c1 => ?_) (fun c1 => ?_)
    · replace e := ky_ifT c1 e
      exact hk h c p1 hm fr e
    · replace e := ky_ifF c1 e
      refine v_aload_n (i := 19) (j := 0) rfl rfl (?_ : ky_V _ _ _ 34 _ _ _ _)
      refine gf_X12_13 rfl (i := 20) rfl (md_0 hm) rfl (?_ : ky_V _ _ _ 37 _ _ _ _)
      refine v_iload_n (i := 21) (j := 1) rfl rfl (?_ : ky_V _ _ _ 38 _ _ _ _)
      refine v_aload_n (i := 22) (j := 0) rfl rfl (?_ : ky_V _ _ _ 39 _ _ _ _)
      refine gf_X12_26 rfl (i := 23) rfl (md_0 hm) rfl (?_ : ky_V _ _ _ 42 _ _ _ _)
      refine v_sipush (v := 549) (i := 24) rfl (by decide) (?_ : ky_V _ _ _ 45 _ _ _ _)
      refine v_aload_n (i := 25) (j := 0) rfl rfl (?_ : ky_V _ _ _ 46 _ _ _ _)
      refine gf_X12_58 rfl (i := 26) rfl (md_0 hm) rfl (?_ : ky_V _ _ _ 49 _ _ _ _)
      refine v_imul (i := 27) rfl (?_ : ky_V _ _ _ 50 _ _ _ _)
      refine v_iload_n (i := 28) (j := 1) rfl rfl (?_ : ky_V _ _ _ 51 _ _ _ _)
      refine v_iadd (i := 29) rfl (?_ : ky_V _ _ _ 52 _ _ _ _)
      obtain ⟨z2, e⟩ := ky_chkE e
      refine v_iald (i := 30) rfl (md_5 hm) (ky_inb z2) (?_ : ky_V _ _ _ 53 _ (.int (c 5 (Int32.toNatClampNeg ((549 * (c 0 7)) + p1))) :: _) _ _)
      refine v_topi (fun x3 ex3 => ?_)
      replace e := ky_letE ex3 e
      obtain ⟨z4, e⟩ := ky_chkE e
      refine v_iast (i := 31) rfl (md_1 hm) (ky_inb z4) ?_
      refine bk_st (B := md_B G a) hm fr 1 (Int32.toNatClampNeg p1) x3 (by decide) (fun h5 hmh5 frh5 => ?_)
      obtain ⟨q6, eq6⟩ : ∃ z, z = (bk_w c 1 (Int32.toNatClampNeg p1) x3) := ⟨_, rfl⟩
      rw [← eq6] at hmh5
      replace e := ky_letE eq6 e
      refine (?_ : ky_V _ _ _ 54 _ _ _ _)
      obtain ⟨x7, ex7⟩ : ∃ z : Int32, z = p1 + 1 := ⟨_, rfl⟩
      replace e := ky_letE ex7 e
      refine v_iinc (v := x7) (j := 1) (L' := [(0, .ref a), (1, .int x7)]) [1, 0] (i := 32) rfl rfl (by rw [ex7]; rfl) (Nat.le_of_ble_eq_true rfl) rfl (?_ : ky_V _ _ _ 57 _ _ _ _)
      refine v_goto (tgt := 26) (i := 33) rfl (by decide) (?_ : ky_V _ _ _ 26 _ _ _ _)
      exact ih h5 q6 x7 hmh5 frh5 e

def md_undo (N : Nat) (c : (Nat → Nat → Int32))  : Option ((Nat → Nat → Int32) × Int32) := (ky_let (bk_w c 0 0 0) (fun q2 => (if (q2 0 7) = 0 then (some (q2, 0)) else (ky_let ((q2 0 7) - 1) (fun x4 => (ky_let (bk_w q2 0 7 x4) (fun q6 => (md_undo_L26 N (fun q8 x9 => (some (q8, 1))) N q6 0))))))))
set_option maxRecDepth 20000 in
set_option maxHeartbeats 4000000 in
theorem k_X12_undo {G : ky_GW} {d : Nat} {h : ky_HP} {Q : ky_RS → ky_HP → Prop} {a : Nat} {c c9 : (Nat → Nat → Int32)} {r9 : Int32}  (N : Nat) (hm : md_at G h a c) (e : md_undo N c = some (c9, r9)) (hr : ∀ h1, md_at G h1 a c9 → bk_fr a 13 h h1 → Q (.inl (some (.int r9))) h1) : ky_Call G d M_X12_undo [.ref a] h Q := by
  refine ky_ofV (by decide +kernel) rfl ok_X12_undo (Nat.le_of_ble_eq_true rfl) ?_
  have fr : bk_fr a 13 h h := bk_fr.rf
  unfold md_undo at e
  refine (?_ : ky_V _ _ _ 0 [(0, .ref a)] [] _ _)
  refine v_aload_n (i := 0) (j := 0) rfl rfl (?_ : ky_V _ _ _ 1 _ _ _ _)
  refine v_iconst (v := 0) (i := 1) rfl (by decide) (?_ : ky_V _ _ _ 2 _ _ _ _)
  refine pf_X12_3 rfl (i := 2) rfl (md_0 hm) (Nat.le_of_ble_eq_true rfl) rfl rfl ?_
  refine bk_st (B := md_B G a) hm fr 0 0 0 (by decide) (fun h1 hmh1 frh1 => ?_)
  obtain ⟨q2, eq2⟩ : ∃ z, z = (bk_w c 0 0 0) := ⟨_, rfl⟩
  rw [← eq2] at hmh1
  replace e := ky_letE eq2 e
  refine (?_ : ky_V _ _ _ 5 _ _ _ _)
  refine v_aload_n (i := 3) (j := 0) rfl rfl (?_ : ky_V _ _ _ 6 _ _ _ _)
  refine gf_X12_58 rfl (i := 4) rfl (md_0 hmh1) rfl (?_ : ky_V _ _ _ 9 _ _ _ _)
  refine v_if_ne (tgt := 14) (i := 5) rfl (by decide) (fun c3 => ?_) (fun c3 => ?_)
  · replace e := ky_ifF c3 e
    refine v_aload_n (i := 8) (j := 0) rfl rfl (?_ : ky_V _ _ _ 15 _ _ _ _)
    refine v_dup (i := 9) rfl rfl (?_ : ky_V _ _ _ 16 _ _ _ _)
    refine gf_X12_58 rfl (i := 10) rfl (md_0 hmh1) rfl (?_ : ky_V _ _ _ 19 _ _ _ _)
    refine v_iconst (v := 1) (i := 11) rfl (by decide) (?_ : ky_V _ _ _ 20 _ _ _ _)
    refine v_isub (i := 12) rfl (?_ : ky_V _ _ _ 21 _ _ _ _)
    refine v_topi (fun x4 ex4 => ?_)
    replace e := ky_letE ex4 e
    refine pf_X12_58 rfl (i := 13) rfl (md_0 hmh1) (Nat.le_of_ble_eq_true rfl) rfl rfl ?_
    refine bk_st (B := md_B G a) hmh1 frh1 0 7 x4 (by decide) (fun h5 hmh5 frh5 => ?_)
    obtain ⟨q6, eq6⟩ : ∃ z, z = (bk_w q2 0 7 x4) := ⟨_, rfl⟩
    rw [← eq6] at hmh5
    replace e := ky_letE eq6 e
    refine (?_ : ky_V _ _ _ 24 _ _ _ _)
    refine v_iconst (v := 0) (i := 14) rfl (by decide) (?_ : ky_V _ _ _ 25 _ _ _ _)
    refine v_istore_n (L' := [(0, .ref a), (1, .int 0)]) [1, 0] (i := 15) rfl (Nat.le_of_ble_eq_true rfl) rfl (?_ : ky_V _ _ _ 26 _ _ _ _)
    refine lv_X12_undo_26 N _ hr (fun h7 q8 x9 hmh7 frh7 e => ?_) N h5 q6 0 hmh5 frh5 e
    refine v_iconst (v := 1) (i := 34) rfl (by decide) (?_ : ky_V _ _ _ 61 _ _ _ _)
    refine v_iret (v := 1) (ty := .boolean) (i := 35) rfl rfl (by decide) ?_
    obtain ⟨rfl, rfl⟩ := ky_leaf e
    exact hr _ hmh7 frh7
  · replace e := ky_ifT c3 e
    refine v_iconst (v := 0) (i := 6) rfl (by decide) (?_ : ky_V _ _ _ 13 _ _ _ _)
    refine v_iret (v := 0) (ty := .boolean) (i := 7) rfl rfl (by decide) ?_
    obtain ⟨rfl, rfl⟩ := ky_leaf e
    exact hr _ hmh1 frh1

def md_feed_L60 (N : Nat) (k : (Nat → Nat → Int32) → Int32 → Int32 → Int32 → Int32 → Int32 → Int32 → Option ((Nat → Nat → Int32) × Int32)) : Nat → (Nat → Nat → Int32) → Int32 → Int32 → Int32 → Int32 → Int32 → Int32 → Option ((Nat → Nat → Int32) × Int32)
  | 0, _, _, _, _, _, _, _ => none
  | n + 1, c, p1, p2, p3, p4, p5, p6 => (if (20 : Int32) ≤ p6 then (k c p1 p2 p3 p4 p5 p6) else (if ky_inB (p6 / 4) 5 = true then (ky_let ((Int32.toInt8 ((c 7 (Int32.toNatClampNeg (p6 / 4))) >>> ((24 - (8 * (p6 - p6 / 4 * 4))) &&& 31))).toInt32) (fun x3 => (if ky_inB ((c 0 9) + p6) 400 = true then (ky_let (bk_w c 6 (Int32.toNatClampNeg ((c 0 9) + p6)) ((Int32.toInt8 x3).toInt32)) (fun q6 => (ky_let (p6 + 1) (fun x7 => (md_feed_L60 N k n q6 p1 p2 p3 p4 p5 x7))))) else none))) else none))
set_option maxRecDepth 20000 in
set_option maxHeartbeats 4000000 in
theorem lv_X12_feed_60 {G : ky_GW} {d : Nat} {h0 : ky_HP} {Q : ky_RS → ky_HP → Prop} {a : Nat} {c9 : (Nat → Nat → Int32)} {r9 : Int32} (N : Nat) (k : (Nat → Nat → Int32) → Int32 → Int32 → Int32 → Int32 → Int32 → Int32 → Option ((Nat → Nat → Int32) × Int32)) (hr : ∀ h1, md_at G h1 a c9 → bk_fr a 13 h0 h1 → Q (.inl (some (.int r9))) h1)
    (hk : ∀ (h : ky_HP) (c : (Nat → Nat → Int32)) (p1 : Int32) (p2 : Int32) (p3 : Int32) (p4 : Int32) (p5 : Int32) (p6 : Int32), md_at G h a c → bk_fr a 13 h0 h → k c p1 p2 p3 p4 p5 p6 = some (c9, r9) → ky_V G d M_X12_feed 106 [(0, .ref a), (1, .int p1), (2, .int p2), (3, .int p3), (4, .int p4), (5, .int p5), (6, .int p6)] [] h Q) :
    ∀ (n : Nat) (h : ky_HP) (c : (Nat → Nat → Int32)) (p1 : Int32) (p2 : Int32) (p3 : Int32) (p4 : Int32) (p5 : Int32) (p6 : Int32), md_at G h a c → bk_fr a 13 h0 h → md_feed_L60 N k n c p1 p2 p3 p4 p5 p6 = some (c9, r9) → ky_V G d M_X12_feed 60 [(0, .ref a), (1, .int p1), (2, .int p2), (3, .int p3), (4, .int p4), (5, .int p5), (6, .int p6)] [] h Q := by
  intro n
  induction n with
  | zero => intro h c p1 p2 p3 p4 p5 p6 hm fr e; cases e
  | succ n ih =>
    intro h c p1 p2 p3 p4 p5 p6 hm fr e
    rw [md_feed_L60] at e
    refine v_iload (i := 38) (j := 6) rfl rfl (?_ : ky_V _ _ _ 62 _ _ _ _)
    refine v_bipush (v := 20) (i := 39) rfl (by decide) (?_ : ky_V _ _ _ 64 _ _ _ _)
    refine v_icmp_ge (tgt := 106) (i := 40) rfl (by decide) (fun c1 => ?_) (fun c1 => ?_)
    · replace e := ky_ifT c1 e
      exact hk h c p1 p2 p3 p4 p5 p6 hm fr e
    · replace e := ky_ifF c1 e
      refine v_aload_n (i := 41) (j := 0) rfl rfl (?_ : ky_V _ _ _ 68 _ _ _ _)
      refine gf_X12_29 rfl (i := 42) rfl (md_0 hm) rfl (?_ : ky_V _ _ _ 71 _ _ _ _)
      refine v_aload_n (i := 43) (j := 0) rfl rfl (?_ : ky_V _ _ _ 72 _ _ _ _)
      refine gf_X12_74 rfl (i := 44) rfl (md_0 hm) rfl (?_ : ky_V _ _ _ 75 _ _ _ _)
      refine v_iload (i := 45) (j := 6) rfl rfl (?_ : ky_V _ _ _ 77 _ _ _ _)
      refine v_iadd (i := 46) rfl (?_ : ky_V _ _ _ 78 _ _ _ _)
      refine v_aload_n (i := 47) (j := 0) rfl rfl (?_ : ky_V _ _ _ 79 _ _ _ _)
      refine gf_X12_36 rfl (i := 48) rfl (md_0 hm) rfl (?_ : ky_V _ _ _ 82 _ _ _ _)
      refine v_iload (i := 49) (j := 6) rfl rfl (?_ : ky_V _ _ _ 84 _ _ _ _)
      refine v_iconst (v := 4) (i := 50) rfl (by decide) (?_ : ky_V _ _ _ 85 _ _ _ _)
      refine v_idiv (i := 51) rfl (by decide) (?_ : ky_V _ _ _ 86 _ _ _ _)
      obtain ⟨z2, e⟩ := ky_chkE e
      refine v_iald (i := 52) rfl (md_7 hm) (ky_inb z2) (?_ : ky_V _ _ _ 87 _ (.int (c 7 (Int32.toNatClampNeg (p6 / 4))) :: _) _ _)
      refine v_bipush (v := 24) (i := 53) rfl (by decide) (?_ : ky_V _ _ _ 89 _ _ _ _)
      refine v_bipush (v := 8) (i := 54) rfl (by decide) (?_ : ky_V _ _ _ 91 _ _ _ _)
      refine v_iload (i := 55) (j := 6) rfl rfl (?_ : ky_V _ _ _ 93 _ _ _ _)
      refine v_iconst (v := 4) (i := 56) rfl (by decide) (?_ : ky_V _ _ _ 94 _ _ _ _)
      refine v_irem (i := 57) rfl (by decide) (?_ : ky_V _ _ _ 95 _ _ _ _)
      refine v_imul (i := 58) rfl (?_ : ky_V _ _ _ 96 _ _ _ _)
      refine v_isub (i := 59) rfl (?_ : ky_V _ _ _ 97 _ _ _ _)
      refine v_ishr (i := 60) rfl (?_ : ky_V _ _ _ 98 _ _ _ _)
      refine v_i2b (i := 61) rfl rfl (?_ : ky_V _ _ _ 99 _ _ _ _)
      refine v_topi (fun x3 ex3 => ?_)
      replace e := ky_letE ex3 e
      obtain ⟨z4, e⟩ := ky_chkE e
      refine v_bast (i := 62) rfl (md_6 hm) (ky_inb z4) ?_
      refine bk_st (B := md_B G a) hm fr 6 (Int32.toNatClampNeg ((c 0 9) + p6)) ((Int32.toInt8 x3).toInt32) (by decide) (fun h5 hmh5 frh5 => ?_)
      obtain ⟨q6, eq6⟩ : ∃ z, z = (bk_w c 6 (Int32.toNatClampNeg ((c 0 9) + p6)) ((Int32.toInt8 x3).toInt32)) := ⟨_, rfl⟩
      rw [← eq6] at hmh5
      replace e := ky_letE eq6 e
      refine (?_ : ky_V _ _ _ 100 _ _ _ _)
      obtain ⟨x7, ex7⟩ : ∃ z : Int32, z = p6 + 1 := ⟨_, rfl⟩
      replace e := ky_letE ex7 e
      refine v_iinc (v := x7) (j := 6) (L' := [(0, .ref a), (1, .int p1), (2, .int p2), (3, .int p3), (4, .int p4), (5, .int p5), (6, .int x7)]) [1, 2, 3, 4, 5, 6, 0] (i := 63) rfl rfl (by rw [ex7]; rfl) (Nat.le_of_ble_eq_true rfl) rfl (?_ : ky_V _ _ _ 103 _ _ _ _)
      refine v_goto (tgt := 60) (i := 64) rfl (by decide) (?_ : ky_V _ _ _ 60 _ _ _ _)
      exact ih h5 q6 p1 p2 p3 p4 p5 x7 hmh5 frh5 e

def md_feed (N : Nat) (c : (Nat → Nat → Int32)) (p1 : Int32) (p2 : Int32) (p3 : Int32) (p4 : Int32) (p5 : Int32) : Option ((Nat → Nat → Int32) × Int32) := (ky_let (bk_w c 0 0 0) (fun q2 => (if ((q2 0 9) + 20) ≤ (400 : Int32) then (ky_let (bk_w q2 7 0 p1) (fun q5 => (ky_let (bk_w q5 7 1 p2) (fun q7 => (ky_let (bk_w q7 7 2 p3) (fun q9 => (ky_let (bk_w q9 7 3 p4) (fun q11 => (ky_let (bk_w q11 7 4 p5) (fun q13 => (md_feed_L60 N (fun q15 x16 x17 x18 x19 x20 x21 => (ky_let ((q15 0 9) + 20) (fun x22 => (ky_let (bk_w q15 0 9 x22) (fun q24 => (some (q24, (q24 0 9)))))))) N q13 p1 p2 p3 p4 p5 0))))))))))) else (some (q2, (-1))))))
set_option maxRecDepth 20000 in
set_option maxHeartbeats 4000000 in
theorem k_X12_feed {G : ky_GW} {d : Nat} {h : ky_HP} {Q : ky_RS → ky_HP → Prop} {a : Nat} {c c9 : (Nat → Nat → Int32)} {r9 : Int32} {p1 : Int32} {p2 : Int32} {p3 : Int32} {p4 : Int32} {p5 : Int32} (N : Nat) (hm : md_at G h a c) (e : md_feed N c p1 p2 p3 p4 p5 = some (c9, r9)) (hr : ∀ h1, md_at G h1 a c9 → bk_fr a 13 h h1 → Q (.inl (some (.int r9))) h1) : ky_Call G d M_X12_feed [.ref a, .int p1, .int p2, .int p3, .int p4, .int p5] h Q := by
  refine ky_ofV (by decide +kernel) rfl ok_X12_feed (Nat.le_of_ble_eq_true rfl) ?_
  have fr : bk_fr a 13 h h := bk_fr.rf
  unfold md_feed at e
  refine (?_ : ky_V _ _ _ 0 [(0, .ref a), (1, .int p1), (2, .int p2), (3, .int p3), (4, .int p4), (5, .int p5)] [] _ _)
  refine v_aload_n (i := 0) (j := 0) rfl rfl (?_ : ky_V _ _ _ 1 _ _ _ _)
  refine v_iconst (v := 0) (i := 1) rfl (by decide) (?_ : ky_V _ _ _ 2 _ _ _ _)
  refine pf_X12_3 rfl (i := 2) rfl (md_0 hm) (Nat.le_of_ble_eq_true rfl) rfl rfl ?_
  refine bk_st (B := md_B G a) hm fr 0 0 0 (by decide) (fun h1 hmh1 frh1 => ?_)
  obtain ⟨q2, eq2⟩ : ∃ z, z = (bk_w c 0 0 0) := ⟨_, rfl⟩
  rw [← eq2] at hmh1
  replace e := ky_letE eq2 e
  refine (?_ : ky_V _ _ _ 5 _ _ _ _)
  refine v_aload_n (i := 3) (j := 0) rfl rfl (?_ : ky_V _ _ _ 6 _ _ _ _)
  refine gf_X12_74 rfl (i := 4) rfl (md_0 hmh1) rfl (?_ : ky_V _ _ _ 9 _ _ _ _)
  refine v_bipush (v := 20) (i := 5) rfl (by decide) (?_ : ky_V _ _ _ 11 _ _ _ _)
  refine v_iadd (i := 6) rfl (?_ : ky_V _ _ _ 12 _ _ _ _)
  refine v_sipush (v := 400) (i := 7) rfl (by decide) (?_ : ky_V _ _ _ 15 _ _ _ _)
  refine v_icmp_le (tgt := 20) (i := 8) rfl (by decide) (fun c3 => ?_) (fun c3 => ?_)
  · replace e := ky_ifT c3 e
    refine v_aload_n (i := 11) (j := 0) rfl rfl (?_ : ky_V _ _ _ 21 _ _ _ _)
    refine gf_X12_36 rfl (i := 12) rfl (md_0 hmh1) rfl (?_ : ky_V _ _ _ 24 _ _ _ _)
    refine v_iconst (v := 0) (i := 13) rfl (by decide) (?_ : ky_V _ _ _ 25 _ _ _ _)
    refine v_iload_n (i := 14) (j := 1) rfl rfl (?_ : ky_V _ _ _ 26 _ _ _ _)
    refine v_iast (i := 15) rfl (md_7 hmh1) (ky_inl (by decide)) ?_
    refine bk_st (B := md_B G a) hmh1 frh1 7 0 p1 (by decide) (fun h4 hmh4 frh4 => ?_)
    obtain ⟨q5, eq5⟩ : ∃ z, z = (bk_w q2 7 0 p1) := ⟨_, rfl⟩
    rw [← eq5] at hmh4
    replace e := ky_letE eq5 e
    refine (?_ : ky_V _ _ _ 27 _ _ _ _)
    refine v_aload_n (i := 16) (j := 0) rfl rfl (?_ : ky_V _ _ _ 28 _ _ _ _)
    refine gf_X12_36 rfl (i := 17) rfl (md_0 hmh4) rfl (?_ : ky_V _ _ _ 31 _ _ _ _)
    refine v_iconst (v := 1) (i := 18) rfl (by decide) (?_ : ky_V _ _ _ 32 _ _ _ _)
    refine v_iload_n (i := 19) (j := 2) rfl rfl (?_ : ky_V _ _ _ 33 _ _ _ _)
    refine v_iast (i := 20) rfl (md_7 hmh4) (ky_inl (by decide)) ?_
    refine bk_st (B := md_B G a) hmh4 frh4 7 1 p2 (by decide) (fun h6 hmh6 frh6 => ?_)
    obtain ⟨q7, eq7⟩ : ∃ z, z = (bk_w q5 7 1 p2) := ⟨_, rfl⟩
    rw [← eq7] at hmh6
    replace e := ky_letE eq7 e
    refine (?_ : ky_V _ _ _ 34 _ _ _ _)
    refine v_aload_n (i := 21) (j := 0) rfl rfl (?_ : ky_V _ _ _ 35 _ _ _ _)
    refine gf_X12_36 rfl (i := 22) rfl (md_0 hmh6) rfl (?_ : ky_V _ _ _ 38 _ _ _ _)
    refine v_iconst (v := 2) (i := 23) rfl (by decide) (?_ : ky_V _ _ _ 39 _ _ _ _)
    refine v_iload_n (i := 24) (j := 3) rfl rfl (?_ : ky_V _ _ _ 40 _ _ _ _)
    refine v_iast (i := 25) rfl (md_7 hmh6) (ky_inl (by decide)) ?_
    refine bk_st (B := md_B G a) hmh6 frh6 7 2 p3 (by decide) (fun h8 hmh8 frh8 => ?_)
    obtain ⟨q9, eq9⟩ : ∃ z, z = (bk_w q7 7 2 p3) := ⟨_, rfl⟩
    rw [← eq9] at hmh8
    replace e := ky_letE eq9 e
    refine (?_ : ky_V _ _ _ 41 _ _ _ _)
    refine v_aload_n (i := 26) (j := 0) rfl rfl (?_ : ky_V _ _ _ 42 _ _ _ _)
    refine gf_X12_36 rfl (i := 27) rfl (md_0 hmh8) rfl (?_ : ky_V _ _ _ 45 _ _ _ _)
    refine v_iconst (v := 3) (i := 28) rfl (by decide) (?_ : ky_V _ _ _ 46 _ _ _ _)
    refine v_iload (i := 29) (j := 4) rfl rfl (?_ : ky_V _ _ _ 48 _ _ _ _)
    refine v_iast (i := 30) rfl (md_7 hmh8) (ky_inl (by decide)) ?_
    refine bk_st (B := md_B G a) hmh8 frh8 7 3 p4 (by decide) (fun h10 hmh10 frh10 => ?_)
    obtain ⟨q11, eq11⟩ : ∃ z, z = (bk_w q9 7 3 p4) := ⟨_, rfl⟩
    rw [← eq11] at hmh10
    replace e := ky_letE eq11 e
    refine (?_ : ky_V _ _ _ 49 _ _ _ _)
    refine v_aload_n (i := 31) (j := 0) rfl rfl (?_ : ky_V _ _ _ 50 _ _ _ _)
    refine gf_X12_36 rfl (i := 32) rfl (md_0 hmh10) rfl (?_ : ky_V _ _ _ 53 _ _ _ _)
    refine v_iconst (v := 4) (i := 33) rfl (by decide) (?_ : ky_V _ _ _ 54 _ _ _ _)
    refine v_iload (i := 34) (j := 5) rfl rfl (?_ : ky_V _ _ _ 56 _ _ _ _)
    refine v_iast (i := 35) rfl (md_7 hmh10) (ky_inl (by decide)) ?_
    refine bk_st (B := md_B G a) hmh10 frh10 7 4 p5 (by decide) (fun h12 hmh12 frh12 => ?_)
    obtain ⟨q13, eq13⟩ : ∃ z, z = (bk_w q11 7 4 p5) := ⟨_, rfl⟩
    rw [← eq13] at hmh12
    replace e := ky_letE eq13 e
    refine (?_ : ky_V _ _ _ 57 _ _ _ _)
    refine v_iconst (v := 0) (i := 36) rfl (by decide) (?_ : ky_V _ _ _ 58 _ _ _ _)
    refine v_istore (L' := [(0, .ref a), (1, .int p1), (2, .int p2), (3, .int p3), (4, .int p4), (5, .int p5), (6, .int 0)]) [1, 2, 3, 4, 5, 6, 0] (i := 37) rfl (Nat.le_of_ble_eq_true rfl) rfl (?_ : ky_V _ _ _ 60 _ _ _ _)
    refine lv_X12_feed_60 N _ hr (fun h14 q15 x16 x17 x18 x19 x20 x21 hmh14 frh14 e => ?_) N h12 q13 p1 p2 p3 p4 p5 0 hmh12 frh12 e
    refine v_aload_n (i := 65) (j := 0) rfl rfl (?_ : ky_V _ _ _ 107 _ _ _ _)
    refine v_dup (i := 66) rfl rfl (?_ : ky_V _ _ _ 108 _ _ _ _)
    refine gf_X12_74 rfl (i := 67) rfl (md_0 hmh14) rfl (?_ : ky_V _ _ _ 111 _ _ _ _)
    refine v_bipush (v := 20) (i := 68) rfl (by decide) (?_ : ky_V _ _ _ 113 _ _ _ _)
    refine v_iadd (i := 69) rfl (?_ : ky_V _ _ _ 114 _ _ _ _)
    refine v_topi (fun x22 ex22 => ?_)
    replace e := ky_letE ex22 e
    refine pf_X12_74 rfl (i := 70) rfl (md_0 hmh14) (Nat.le_of_ble_eq_true rfl) rfl rfl ?_
    refine bk_st (B := md_B G a) hmh14 frh14 0 9 x22 (by decide) (fun h23 hmh23 frh23 => ?_)
    obtain ⟨q24, eq24⟩ : ∃ z, z = (bk_w q15 0 9 x22) := ⟨_, rfl⟩
    rw [← eq24] at hmh23
    replace e := ky_letE eq24 e
    refine (?_ : ky_V _ _ _ 117 _ _ _ _)
    refine v_aload_n (i := 71) (j := 0) rfl rfl (?_ : ky_V _ _ _ 118 _ _ _ _)
    refine gf_X12_74 rfl (i := 72) rfl (md_0 hmh23) rfl (?_ : ky_V _ _ _ 121 _ _ _ _)
    refine v_iret (v := (q24 0 9)) (ty := .int) (i := 73) rfl rfl rfl ?_
    obtain ⟨rfl, rfl⟩ := ky_leaf e
    exact hr _ hmh23 frh23
  · replace e := ky_ifF c3 e
    refine v_iconst (v := (-1)) (i := 9) rfl (by decide) (?_ : ky_V _ _ _ 19 _ _ _ _)
    refine v_iret (v := (-1)) (ty := .int) (i := 10) rfl rfl rfl ?_
    obtain ⟨rfl, rfl⟩ := ky_leaf e
    exact hr _ hmh1 frh1

def md_blanks_L0 (N : Nat) (k : (Nat → Nat → Int32) → Option ((Nat → Nat → Int32) × Int32)) : Nat → (Nat → Nat → Int32) → Option ((Nat → Nat → Int32) × Int32)
  | 0, _ => none
  | n + 1, c => (if ((¬ ((c 0 11) ≤ (c 0 10))) → ky_inB (c 0 10) 400 = true) then (if ((¬ ((c 0 11) ≤ (c 0 10))) → (¬ ((c 6 (Int32.toNatClampNeg (c 0 10))) < 32)) → ky_inB (c 0 10) 400 = true) then (if (md_isAt_r c 32 32) = 0 then (k c ) else (ky_let ((c 0 10) + 1) (fun x4 => (ky_let (bk_w c 0 10 x4) (fun q6 => (md_blanks_L0 N k n q6 )))))) else none) else none)
set_option maxRecDepth 20000 in
set_option maxHeartbeats 4000000 in
theorem lv_X12_blanks_0 {G : ky_GW} {d : Nat} {h0 : ky_HP} {Q : ky_RS → ky_HP → Prop} {a : Nat} {c9 : (Nat → Nat → Int32)} {r9 : Int32} (N : Nat) (k : (Nat → Nat → Int32) → Option ((Nat → Nat → Int32) × Int32)) (hr : ∀ h1, md_at G h1 a c9 → bk_fr a 13 h0 h1 → Q (.inl none) h1)
    (hk : ∀ (h : ky_HP) (c : (Nat → Nat → Int32)) , md_at G h a c → bk_fr a 13 h0 h → k c  = some (c9, r9) → ky_V G (d + 1) M_X12_blanks 24 [(0, .ref a)] [] h Q) :
    ∀ (n : Nat) (h : ky_HP) (c : (Nat → Nat → Int32)) , md_at G h a c → bk_fr a 13 h0 h → md_blanks_L0 N k n c  = some (c9, r9) → ky_V G (d + 1) M_X12_blanks 0 [(0, .ref a)] [] h Q := by
  intro n
  induction n with
  | zero => intro h c  hm fr e; cases e
  | succ n ih =>
    intro h c  hm fr e
    rw [md_blanks_L0] at e
    refine v_aload_n (i := 0) (j := 0) rfl rfl (?_ : ky_V _ _ _ 1 _ _ _ _)
    refine v_bipush (v := 32) (i := 1) rfl (by decide) (?_ : ky_V _ _ _ 3 _ _ _ _)
    refine v_bipush (v := 32) (i := 2) rfl (by decide) (?_ : ky_V _ _ _ 5 _ _ _ _)
    obtain ⟨z1, e⟩ := ky_chkE e
    obtain ⟨z2, e⟩ := ky_chkE e
    refine cl_X12_83 (As := [.int 32, .int 32]) rfl (i := 3) rfl (md_0 hm) rfl rfl (Nat.le_of_ble_eq_true rfl) (k_X12_isAt 32 32 hm (fun y0 => ky_inb (z1 y0)) (fun y0 y1 => ky_inb (z2 y0 y1)) ⟨_, rfl, (?_ : ky_V _ _ _ 8 _ [.int ((md_isAt_r c 32 32))] _ _)⟩)
    refine v_if_eq (tgt := 24) (i := 4) rfl (by decide) (fun c3 => ?_) (fun c3 => ?_)
    · replace e := ky_ifT c3 e
      exact hk h c  hm fr e
    · replace e := ky_ifF c3 e
      refine v_aload_n (i := 5) (j := 0) rfl rfl (?_ : ky_V _ _ _ 12 _ _ _ _)
      refine v_dup (i := 6) rfl rfl (?_ : ky_V _ _ _ 13 _ _ _ _)
      refine gf_X12_77 rfl (i := 7) rfl (md_0 hm) rfl (?_ : ky_V _ _ _ 16 _ _ _ _)
      refine v_iconst (v := 1) (i := 8) rfl (by decide) (?_ : ky_V _ _ _ 17 _ _ _ _)
      refine v_iadd (i := 9) rfl (?_ : ky_V _ _ _ 18 _ _ _ _)
      refine v_topi (fun x4 ex4 => ?_)
      replace e := ky_letE ex4 e
      refine pf_X12_77 rfl (i := 10) rfl (md_0 hm) (Nat.le_of_ble_eq_true rfl) rfl rfl ?_
      refine bk_st (B := md_B G a) hm fr 0 10 x4 (by decide) (fun h5 hmh5 frh5 => ?_)
      obtain ⟨q6, eq6⟩ : ∃ z, z = (bk_w c 0 10 x4) := ⟨_, rfl⟩
      rw [← eq6] at hmh5
      replace e := ky_letE eq6 e
      refine (?_ : ky_V _ _ _ 21 _ _ _ _)
      refine v_goto (tgt := 0) (i := 11) rfl (by decide) (?_ : ky_V _ _ _ 0 _ _ _ _)
      exact ih h5 q6  hmh5 frh5 e

def md_blanks (N : Nat) (c : (Nat → Nat → Int32))  : Option ((Nat → Nat → Int32) × Int32) := (if ((¬ ((c 0 11) ≤ (c 0 10))) → ky_inB (c 0 10) 400 = true) then (if ((¬ ((c 0 11) ≤ (c 0 10))) → (¬ ((c 6 (Int32.toNatClampNeg (c 0 10))) < 32)) → ky_inB (c 0 10) 400 = true) then (if (md_isAt_r c 32 32) = 0 then (ky_let (c 0 10) (fun x4 => (ky_let (bk_w c 0 12 x4) (fun q6 => (some (q6, 0)))))) else (ky_let ((c 0 10) + 1) (fun x7 => (ky_let (bk_w c 0 10 x7) (fun q9 => (md_blanks_L0 N (fun q11 => (ky_let (q11 0 10) (fun x12 => (ky_let (bk_w q11 0 12 x12) (fun q14 => (some (q14, 0))))))) N q9)))))) else none) else none)
set_option maxRecDepth 20000 in
set_option maxHeartbeats 4000000 in
theorem k_X12_blanks {G : ky_GW} {d : Nat} {h : ky_HP} {Q : ky_RS → ky_HP → Prop} {a : Nat} {c c9 : (Nat → Nat → Int32)} {r9 : Int32}  (N : Nat) (hm : md_at G h a c) (e : md_blanks N c = some (c9, r9)) (hr : ∀ h1, md_at G h1 a c9 → bk_fr a 13 h h1 → Q (.inl none) h1) : ky_Call G (d + 1) M_X12_blanks [.ref a] h Q := by
  refine ky_ofV (by decide +kernel) rfl ok_X12_blanks (Nat.le_of_ble_eq_true rfl) ?_
  have fr : bk_fr a 13 h h := bk_fr.rf
  unfold md_blanks at e
  refine (?_ : ky_V _ _ _ 0 [(0, .ref a)] [] _ _)
  refine v_aload_n (i := 0) (j := 0) rfl rfl (?_ : ky_V _ _ _ 1 _ _ _ _)
  refine v_bipush (v := 32) (i := 1) rfl (by decide) (?_ : ky_V _ _ _ 3 _ _ _ _)
  refine v_bipush (v := 32) (i := 2) rfl (by decide) (?_ : ky_V _ _ _ 5 _ _ _ _)
  obtain ⟨z1, e⟩ := ky_chkE e
  obtain ⟨z2, e⟩ := ky_chkE e
  refine cl_X12_83 (As := [.int 32, .int 32]) rfl (i := 3) rfl (md_0 hm) rfl rfl (Nat.le_of_ble_eq_true rfl) (k_X12_isAt 32 32 hm (fun y0 => ky_inb (z1 y0)) (fun y0 y1 => ky_inb (z2 y0 y1)) ⟨_, rfl, (?_ : ky_V _ _ _ 8 _ [.int ((md_isAt_r c 32 32))] _ _)⟩)
  refine v_if_eq (tgt := 24) (i := 4) rfl (by decide) (fun c3 => ?_) (fun c3 => ?_)
  · replace e := ky_ifT c3 e
    refine v_aload_n (i := 12) (j := 0) rfl rfl (?_ : ky_V _ _ _ 25 _ _ _ _)
    refine v_aload_n (i := 13) (j := 0) rfl rfl (?_ : ky_V _ _ _ 26 _ _ _ _)
    refine gf_X12_77 rfl (i := 14) rfl (md_0 hm) rfl (?_ : ky_V _ _ _ 29 _ _ _ _)
    refine v_topi (fun x4 ex4 => ?_)
    replace e := ky_letE ex4 e
    refine pf_X12_87 rfl (i := 15) rfl (md_0 hm) (Nat.le_of_ble_eq_true rfl) rfl rfl ?_
    refine bk_st (B := md_B G a) hm fr 0 12 x4 (by decide) (fun h5 hmh5 frh5 => ?_)
    obtain ⟨q6, eq6⟩ : ∃ z, z = (bk_w c 0 12 x4) := ⟨_, rfl⟩
    rw [← eq6] at hmh5
    replace e := ky_letE eq6 e
    refine (?_ : ky_V _ _ _ 32 _ _ _ _)
    refine v_vret (i := 16) rfl rfl ?_
    obtain ⟨rfl, rfl⟩ := ky_leaf e
    exact hr _ hmh5 frh5
  · replace e := ky_ifF c3 e
    refine v_aload_n (i := 5) (j := 0) rfl rfl (?_ : ky_V _ _ _ 12 _ _ _ _)
    refine v_dup (i := 6) rfl rfl (?_ : ky_V _ _ _ 13 _ _ _ _)
    refine gf_X12_77 rfl (i := 7) rfl (md_0 hm) rfl (?_ : ky_V _ _ _ 16 _ _ _ _)
    refine v_iconst (v := 1) (i := 8) rfl (by decide) (?_ : ky_V _ _ _ 17 _ _ _ _)
    refine v_iadd (i := 9) rfl (?_ : ky_V _ _ _ 18 _ _ _ _)
    refine v_topi (fun x7 ex7 => ?_)
    replace e := ky_letE ex7 e
    refine pf_X12_77 rfl (i := 10) rfl (md_0 hm) (Nat.le_of_ble_eq_true rfl) rfl rfl ?_
    refine bk_st (B := md_B G a) hm fr 0 10 x7 (by decide) (fun h8 hmh8 frh8 => ?_)
    obtain ⟨q9, eq9⟩ : ∃ z, z = (bk_w c 0 10 x7) := ⟨_, rfl⟩
    rw [← eq9] at hmh8
    replace e := ky_letE eq9 e
    refine (?_ : ky_V _ _ _ 21 _ _ _ _)
    refine v_goto (tgt := 0) (i := 11) rfl (by decide) (?_ : ky_V _ _ _ 0 _ _ _ _)
    refine lv_X12_blanks_0 N _ hr (fun h10 q11  hmh10 frh10 e => ?_) N h8 q9  hmh8 frh8 e
    refine v_aload_n (i := 12) (j := 0) rfl rfl (?_ : ky_V _ _ _ 25 _ _ _ _)
    refine v_aload_n (i := 13) (j := 0) rfl rfl (?_ : ky_V _ _ _ 26 _ _ _ _)
    refine gf_X12_77 rfl (i := 14) rfl (md_0 hmh10) rfl (?_ : ky_V _ _ _ 29 _ _ _ _)
    refine v_topi (fun x12 ex12 => ?_)
    replace e := ky_letE ex12 e
    refine pf_X12_87 rfl (i := 15) rfl (md_0 hmh10) (Nat.le_of_ble_eq_true rfl) rfl rfl ?_
    refine bk_st (B := md_B G a) hmh10 frh10 0 12 x12 (by decide) (fun h13 hmh13 frh13 => ?_)
    obtain ⟨q14, eq14⟩ : ∃ z, z = (bk_w q11 0 12 x12) := ⟨_, rfl⟩
    rw [← eq14] at hmh13
    replace e := ky_letE eq14 e
    refine (?_ : ky_V _ _ _ 32 _ _ _ _)
    refine v_vret (i := 16) rfl rfl ?_
    obtain ⟨rfl, rfl⟩ := ky_leaf e
    exact hr _ hmh13 frh13

def md_letters_L4 (N : Nat) (k : (Nat → Nat → Int32) → Option ((Nat → Nat → Int32) × Int32)) : Nat → (Nat → Nat → Int32) → Option ((Nat → Nat → Int32) × Int32)
  | 0, _ => none
  | n + 1, c => (if ((¬ ((c 0 11) ≤ (c 0 10))) → ky_inB (c 0 10) 400 = true) then (if ((¬ ((c 0 11) ≤ (c 0 10))) → (¬ ((c 6 (Int32.toNatClampNeg (c 0 10))) < 97)) → ky_inB (c 0 10) 400 = true) then (if (md_isAt_r c 97 122) = 0 then (k c ) else (ky_let ((c 0 10) + 1) (fun x4 => (ky_let (bk_w c 0 10 x4) (fun q6 => (md_letters_L4 N k n q6 )))))) else none) else none)
set_option maxRecDepth 20000 in
set_option maxHeartbeats 4000000 in
theorem lv_X12_letters_4 {G : ky_GW} {d : Nat} {h0 : ky_HP} {Q : ky_RS → ky_HP → Prop} {a : Nat} {c9 : (Nat → Nat → Int32)} {r9 : Int32} (N : Nat) (k : (Nat → Nat → Int32) → Option ((Nat → Nat → Int32) × Int32)) (hr : ∀ h1, md_at G h1 a c9 → bk_fr a 13 h0 h1 → Q (.inl none) h1)
    (hk : ∀ (h : ky_HP) (c : (Nat → Nat → Int32)) , md_at G h a c → bk_fr a 13 h0 h → k c  = some (c9, r9) → ky_V G (d + 2) M_X12_letters 28 [(0, .ref a)] [] h Q) :
    ∀ (n : Nat) (h : ky_HP) (c : (Nat → Nat → Int32)) , md_at G h a c → bk_fr a 13 h0 h → md_letters_L4 N k n c  = some (c9, r9) → ky_V G (d + 2) M_X12_letters 4 [(0, .ref a)] [] h Q := by
  intro n
  induction n with
  | zero => intro h c  hm fr e; cases e
  | succ n ih =>
    intro h c  hm fr e
    rw [md_letters_L4] at e
    refine v_aload_n (i := 2) (j := 0) rfl rfl (?_ : ky_V _ _ _ 5 _ _ _ _)
    refine v_bipush (v := 97) (i := 3) rfl (by decide) (?_ : ky_V _ _ _ 7 _ _ _ _)
    refine v_bipush (v := 122) (i := 4) rfl (by decide) (?_ : ky_V _ _ _ 9 _ _ _ _)
    obtain ⟨z1, e⟩ := ky_chkE e
    obtain ⟨z2, e⟩ := ky_chkE e
    refine cl_X12_83 (As := [.int 97, .int 122]) rfl (i := 5) rfl (md_0 hm) rfl rfl (Nat.le_of_ble_eq_true rfl) (k_X12_isAt 97 122 hm (fun y0 => ky_inb (z1 y0)) (fun y0 y1 => ky_inb (z2 y0 y1)) ⟨_, rfl, (?_ : ky_V _ _ _ 12 _ [.int ((md_isAt_r c 97 122))] _ _)⟩)
    refine v_if_eq (tgt := 28) (i := 6) rfl (by decide) (fun c3 => ?_) (fun c3 => ?_)
    · replace e := ky_ifT c3 e
      exact hk h c  hm fr e
    · replace e := ky_ifF c3 e
      refine v_aload_n (i := 7) (j := 0) rfl rfl (?_ : ky_V _ _ _ 16 _ _ _ _)
      refine v_dup (i := 8) rfl rfl (?_ : ky_V _ _ _ 17 _ _ _ _)
      refine gf_X12_77 rfl (i := 9) rfl (md_0 hm) rfl (?_ : ky_V _ _ _ 20 _ _ _ _)
      refine v_iconst (v := 1) (i := 10) rfl (by decide) (?_ : ky_V _ _ _ 21 _ _ _ _)
      refine v_iadd (i := 11) rfl (?_ : ky_V _ _ _ 22 _ _ _ _)
      refine v_topi (fun x4 ex4 => ?_)
      replace e := ky_letE ex4 e
      refine pf_X12_77 rfl (i := 12) rfl (md_0 hm) (Nat.le_of_ble_eq_true rfl) rfl rfl ?_
      refine bk_st (B := md_B G a) hm fr 0 10 x4 (by decide) (fun h5 hmh5 frh5 => ?_)
      obtain ⟨q6, eq6⟩ : ∃ z, z = (bk_w c 0 10 x4) := ⟨_, rfl⟩
      rw [← eq6] at hmh5
      replace e := ky_letE eq6 e
      refine (?_ : ky_V _ _ _ 25 _ _ _ _)
      refine v_goto (tgt := 4) (i := 13) rfl (by decide) (?_ : ky_V _ _ _ 4 _ _ _ _)
      exact ih h5 q6  hmh5 frh5 e

def md_letters (N : Nat) (c : (Nat → Nat → Int32))  : Option ((Nat → Nat → Int32) × Int32) := ((md_blanks N c).bind (fun zz => (fun q2 x3 => (md_letters_L4 N (fun q6 => (some (q6, 0))) N q2)) zz.1 zz.2))
set_option maxRecDepth 20000 in
set_option maxHeartbeats 4000000 in
theorem k_X12_letters {G : ky_GW} {d : Nat} {h : ky_HP} {Q : ky_RS → ky_HP → Prop} {a : Nat} {c c9 : (Nat → Nat → Int32)} {r9 : Int32}  (N : Nat) (hm : md_at G h a c) (e : md_letters N c = some (c9, r9)) (hr : ∀ h1, md_at G h1 a c9 → bk_fr a 13 h h1 → Q (.inl none) h1) : ky_Call G (d + 2) M_X12_letters [.ref a] h Q := by
  refine ky_ofV (by decide +kernel) rfl ok_X12_letters (Nat.le_of_ble_eq_true rfl) ?_
  have fr : bk_fr a 13 h h := bk_fr.rf
  unfold md_letters at e
  refine (?_ : ky_V _ _ _ 0 [(0, .ref a)] [] _ _)
  refine v_aload_n (i := 0) (j := 0) rfl rfl (?_ : ky_V _ _ _ 1 _ _ _ _)
  obtain ⟨⟨q2, x3⟩, g4, e⟩ := Option.bind_eq_some_iff.mp e
  refine cl_X12_90 (As := []) rfl (i := 1) rfl (md_0 hm) rfl rfl (Nat.le_of_ble_eq_true rfl) (k_X12_blanks N hm g4 (fun h1 hmh1 frh1 => ⟨_, rfl, (?_ : ky_V _ _ _ 4 _ [] _ _)⟩))
  have frh1 := fr.tr frh1
  refine lv_X12_letters_4 N _ hr (fun h5 q6  hmh5 frh5 e => ?_) N h1 q2  hmh1 frh1 e
  refine v_vret (i := 14) rfl rfl ?_
  obtain ⟨rfl, rfl⟩ := ky_leaf e
  exact hr _ hmh5 frh5

def md_number_L6 (N : Nat) (k : (Nat → Nat → Int32) → Int32 → Int32 → Int32 → Option ((Nat → Nat → Int32) × Int32)) : Nat → (Nat → Nat → Int32) → Int32 → Int32 → Int32 → Option ((Nat → Nat → Int32) × Int32)
  | 0, _, _, _, _ => none
  | n + 1, c, p1, p2, p3 => (if ((¬ ((c 0 11) ≤ (c 0 10))) → ky_inB (c 0 10) 400 = true) then (if ((¬ ((c 0 11) ≤ (c 0 10))) → (¬ ((c 6 (Int32.toNatClampNeg (c 0 10))) < 48)) → ky_inB (c 0 10) 400 = true) then (if (md_isAt_r c 48 57) = 0 then (k c p1 p2 p3) else (if (3 : Int32) ≤ ((c 0 10) - (c 0 12)) then (ky_let ((c 0 10) + 1) (fun x5 => (ky_let (bk_w c 0 10 x5) (fun q7 => (md_number_L6 N k n q7 p1 p2 p3))))) else (if ky_inB (c 0 10) 400 = true then (ky_let (((10 * p3) + (c 6 (Int32.toNatClampNeg (c 0 10)))) - 48) (fun x9 => (ky_let ((c 0 10) + 1) (fun x10 => (ky_let (bk_w c 0 10 x10) (fun q12 => (md_number_L6 N k n q12 p1 p2 x9))))))) else none))) else none) else none)
set_option maxRecDepth 20000 in
set_option maxHeartbeats 4000000 in
theorem lv_X12_number_6 {G : ky_GW} {d : Nat} {h0 : ky_HP} {Q : ky_RS → ky_HP → Prop} {a : Nat} {c9 : (Nat → Nat → Int32)} {r9 : Int32} (N : Nat) (k : (Nat → Nat → Int32) → Int32 → Int32 → Int32 → Option ((Nat → Nat → Int32) × Int32)) (hr : ∀ h1, md_at G h1 a c9 → bk_fr a 13 h0 h1 → Q (.inl (some (.int r9))) h1)
    (hk : ∀ (h : ky_HP) (c : (Nat → Nat → Int32)) (p1 : Int32) (p2 : Int32) (p3 : Int32), md_at G h a c → bk_fr a 13 h0 h → k c p1 p2 p3 = some (c9, r9) → ky_V G (d + 2) M_X12_number 65 [(0, .ref a), (1, .int p1), (2, .int p2), (3, .int p3)] [] h Q) :
    ∀ (n : Nat) (h : ky_HP) (c : (Nat → Nat → Int32)) (p1 : Int32) (p2 : Int32) (p3 : Int32), md_at G h a c → bk_fr a 13 h0 h → md_number_L6 N k n c p1 p2 p3 = some (c9, r9) → ky_V G (d + 2) M_X12_number 6 [(0, .ref a), (1, .int p1), (2, .int p2), (3, .int p3)] [] h Q := by
  intro n
  induction n with
  | zero => intro h c p1 p2 p3 hm fr e; cases e
  | succ n ih =>
    intro h c p1 p2 p3 hm fr e
    rw [md_number_L6] at e
    refine v_aload_n (i := 4) (j := 0) rfl rfl (?_ : ky_V _ _ _ 7 _ _ _ _)
    refine v_bipush (v := 48) (i := 5) rfl (by decide) (?_ : ky_V _ _ _ 9 _ _ _ _)
    refine v_bipush (v := 57) (i := 6) rfl (by decide) (?_ : ky_V _ _ _ 11 _ _ _ _)
    obtain ⟨z1, e⟩ := ky_chkE e
    obtain ⟨z2, e⟩ := ky_chkE e
    refine cl_X12_83 (As := [.int 48, .int 57]) rfl (i := 7) rfl (md_0 hm) rfl rfl (Nat.le_of_ble_eq_true rfl) (k_X12_isAt 48 57 hm (fun y0 => ky_inb (z1 y0)) (fun y0 y1 => ky_inb (z2 y0 y1)) ⟨_, rfl, (?_ : ky_V _ _ _ 14 _ [.int ((md_isAt_r c 48 57))] _ _)⟩)
    refine v_if_eq (tgt := 65) (i := 8) rfl (by decide) (fun c3 => ?_) (fun c3 => ?_)
    · replace e := ky_ifT c3 e
      exact hk h c p1 p2 p3 hm fr e
    · replace e := ky_ifF c3 e
      refine v_aload_n (i := 9) (j := 0) rfl rfl (?_ : ky_V _ _ _ 18 _ _ _ _)
      refine gf_X12_77 rfl (i := 10) rfl (md_0 hm) rfl (?_ : ky_V _ _ _ 21 _ _ _ _)
      refine v_aload_n (i := 11) (j := 0) rfl rfl (?_ : ky_V _ _ _ 22 _ _ _ _)
      refine gf_X12_87 rfl (i := 12) rfl (md_0 hm) rfl (?_ : ky_V _ _ _ 25 _ _ _ _)
      refine v_isub (i := 13) rfl (?_ : ky_V _ _ _ 26 _ _ _ _)
      refine v_iconst (v := 3) (i := 14) rfl (by decide) (?_ : ky_V _ _ _ 27 _ _ _ _)
      refine v_icmp_ge (tgt := 50) (i := 15) rfl (by decide) (fun c4 => ?_) (fun c4 => ?_)
      · replace e := ky_ifT c4 e
        refine v_iload_n (i := 28) (j := 3) rfl rfl (?_ : ky_V _ _ _ 51 _ _ _ _)
        refine v_istore_n (L' := [(0, .ref a), (1, .int p1), (2, .int p2), (3, .int p3)]) [1, 2, 3, 0] (i := 29) rfl (Nat.le_of_ble_eq_true rfl) rfl (?_ : ky_V _ _ _ 52 _ _ _ _)
        refine v_aload_n (i := 30) (j := 0) rfl rfl (?_ : ky_V _ _ _ 53 _ _ _ _)
        refine v_dup (i := 31) rfl rfl (?_ : ky_V _ _ _ 54 _ _ _ _)
        refine gf_X12_77 rfl (i := 32) rfl (md_0 hm) rfl (?_ : ky_V _ _ _ 57 _ _ _ _)
        refine v_iconst (v := 1) (i := 33) rfl (by decide) (?_ : ky_V _ _ _ 58 _ _ _ _)
        refine v_iadd (i := 34) rfl (?_ : ky_V _ _ _ 59 _ _ _ _)
        refine v_topi (fun x5 ex5 => ?_)
        replace e := ky_letE ex5 e
        refine pf_X12_77 rfl (i := 35) rfl (md_0 hm) (Nat.le_of_ble_eq_true rfl) rfl rfl ?_
        refine bk_st (B := md_B G a) hm fr 0 10 x5 (by decide) (fun h6 hmh6 frh6 => ?_)
        obtain ⟨q7, eq7⟩ : ∃ z, z = (bk_w c 0 10 x5) := ⟨_, rfl⟩
        rw [← eq7] at hmh6
        replace e := ky_letE eq7 e
        refine (?_ : ky_V _ _ _ 62 _ _ _ _)
        refine v_goto (tgt := 6) (i := 36) rfl (by decide) (?_ : ky_V _ _ _ 6 _ _ _ _)
        exact ih h6 q7 p1 p2 p3 hmh6 frh6 e
      · replace e := ky_ifF c4 e
        refine v_bipush (v := 10) (i := 16) rfl (by decide) (?_ : ky_V _ _ _ 32 _ _ _ _)
        refine v_iload_n (i := 17) (j := 3) rfl rfl (?_ : ky_V _ _ _ 33 _ _ _ _)
        refine v_imul (i := 18) rfl (?_ : ky_V _ _ _ 34 _ _ _ _)
        refine v_aload_n (i := 19) (j := 0) rfl rfl (?_ : ky_V _ _ _ 35 _ _ _ _)
        refine gf_X12_29 rfl (i := 20) rfl (md_0 hm) rfl (?_ : ky_V _ _ _ 38 _ _ _ _)
        refine v_aload_n (i := 21) (j := 0) rfl rfl (?_ : ky_V _ _ _ 39 _ _ _ _)
        refine gf_X12_77 rfl (i := 22) rfl (md_0 hm) rfl (?_ : ky_V _ _ _ 42 _ _ _ _)
        obtain ⟨z8, e⟩ := ky_chkE e
        refine v_bald (i := 23) rfl (md_6 hm) (ky_inb z8) (?_ : ky_V _ _ _ 43 _ (.int (c 6 (Int32.toNatClampNeg (c 0 10))) :: _) _ _)
        refine v_iadd (i := 24) rfl (?_ : ky_V _ _ _ 44 _ _ _ _)
        refine v_bipush (v := 48) (i := 25) rfl (by decide) (?_ : ky_V _ _ _ 46 _ _ _ _)
        refine v_isub (i := 26) rfl (?_ : ky_V _ _ _ 47 _ _ _ _)
        refine v_goto (tgt := 51) (i := 27) rfl (by decide) (?_ : ky_V _ _ _ 51 _ _ _ _)
        refine v_topi (fun x9 ex9 => ?_)
        replace e := ky_letE ex9 e
        refine v_istore_n (L' := [(0, .ref a), (1, .int p1), (2, .int p2), (3, .int x9)]) [1, 2, 3, 0] (i := 29) rfl (Nat.le_of_ble_eq_true rfl) rfl (?_ : ky_V _ _ _ 52 _ _ _ _)
        refine v_aload_n (i := 30) (j := 0) rfl rfl (?_ : ky_V _ _ _ 53 _ _ _ _)
        refine v_dup (i := 31) rfl rfl (?_ : ky_V _ _ _ 54 _ _ _ _)
        refine gf_X12_77 rfl (i := 32) rfl (md_0 hm) rfl (?_ : ky_V _ _ _ 57 _ _ _ _)
        refine v_iconst (v := 1) (i := 33) rfl (by decide) (?_ : ky_V _ _ _ 58 _ _ _ _)
        refine v_iadd (i := 34) rfl (?_ : ky_V _ _ _ 59 _ _ _ _)
        refine v_topi (fun x10 ex10 => ?_)
        replace e := ky_letE ex10 e
        refine pf_X12_77 rfl (i := 35) rfl (md_0 hm) (Nat.le_of_ble_eq_true rfl) rfl rfl ?_
        refine bk_st (B := md_B G a) hm fr 0 10 x10 (by decide) (fun h11 hmh11 frh11 => ?_)
        obtain ⟨q12, eq12⟩ : ∃ z, z = (bk_w c 0 10 x10) := ⟨_, rfl⟩
        rw [← eq12] at hmh11
        replace e := ky_letE eq12 e
        refine (?_ : ky_V _ _ _ 62 _ _ _ _)
        refine v_goto (tgt := 6) (i := 36) rfl (by decide) (?_ : ky_V _ _ _ 6 _ _ _ _)
        exact ih h11 q12 p1 p2 x9 hmh11 frh11 e

def md_number (N : Nat) (c : (Nat → Nat → Int32)) (p1 : Int32) (p2 : Int32) : Option ((Nat → Nat → Int32) × Int32) := ((md_blanks N c).bind (fun zz => (fun q2 x3 => (md_number_L6 N (fun q6 x7 x8 x9 => (if (q6 0 10) = (q6 0 12) then (some (q6, (-1))) else (if (3 : Int32) < ((q6 0 10) - (q6 0 12)) then (some (q6, (-1))) else (if x9 < x7 then (some (q6, (-1))) else (if x9 ≤ x8 then (some (q6, x9)) else (some (q6, (-1)))))))) N q2 p1 p2 0)) zz.1 zz.2))
set_option maxRecDepth 20000 in
set_option maxHeartbeats 4000000 in
theorem k_X12_number {G : ky_GW} {d : Nat} {h : ky_HP} {Q : ky_RS → ky_HP → Prop} {a : Nat} {c c9 : (Nat → Nat → Int32)} {r9 : Int32} {p1 : Int32} {p2 : Int32} (N : Nat) (hm : md_at G h a c) (e : md_number N c p1 p2 = some (c9, r9)) (hr : ∀ h1, md_at G h1 a c9 → bk_fr a 13 h h1 → Q (.inl (some (.int r9))) h1) : ky_Call G (d + 2) M_X12_number [.ref a, .int p1, .int p2] h Q := by
  refine ky_ofV (by decide +kernel) rfl ok_X12_number (Nat.le_of_ble_eq_true rfl) ?_
  have fr : bk_fr a 13 h h := bk_fr.rf
  unfold md_number at e
  refine (?_ : ky_V _ _ _ 0 [(0, .ref a), (1, .int p1), (2, .int p2)] [] _ _)
  refine v_aload_n (i := 0) (j := 0) rfl rfl (?_ : ky_V _ _ _ 1 _ _ _ _)
  obtain ⟨⟨q2, x3⟩, g4, e⟩ := Option.bind_eq_some_iff.mp e
  refine cl_X12_90 (As := []) rfl (i := 1) rfl (md_0 hm) rfl rfl (Nat.le_of_ble_eq_true rfl) (k_X12_blanks N hm g4 (fun h1 hmh1 frh1 => ⟨_, rfl, (?_ : ky_V _ _ _ 4 _ [] _ _)⟩))
  have frh1 := fr.tr frh1
  refine v_iconst (v := 0) (i := 2) rfl (by decide) (?_ : ky_V _ _ _ 5 _ _ _ _)
  refine v_istore_n (L' := [(0, .ref a), (1, .int p1), (2, .int p2), (3, .int 0)]) [1, 2, 3, 0] (i := 3) rfl (Nat.le_of_ble_eq_true rfl) rfl (?_ : ky_V _ _ _ 6 _ _ _ _)
  refine lv_X12_number_6 N _ hr (fun h5 q6 x7 x8 x9 hmh5 frh5 e => ?_) N h1 q2 p1 p2 0 hmh1 frh1 e
  refine v_aload_n (i := 37) (j := 0) rfl rfl (?_ : ky_V _ _ _ 66 _ _ _ _)
  refine gf_X12_77 rfl (i := 38) rfl (md_0 hmh5) rfl (?_ : ky_V _ _ _ 69 _ _ _ _)
  refine v_aload_n (i := 39) (j := 0) rfl rfl (?_ : ky_V _ _ _ 70 _ _ _ _)
  refine gf_X12_87 rfl (i := 40) rfl (md_0 hmh5) rfl (?_ : ky_V _ _ _ 73 _ _ _ _)
  refine v_icmp_eq (tgt := 99) (i := 41) rfl (by decide) (fun c10 => ?_) (fun c10 => ?_)
  · replace e := ky_ifT c10 e
    refine v_iconst (v := (-1)) (i := 55) rfl (by decide) (?_ : ky_V _ _ _ 100 _ _ _ _)
    refine v_goto (tgt := 104) (i := 56) rfl (by decide) (?_ : ky_V _ _ _ 104 _ _ _ _)
    refine v_iret (v := (-1)) (ty := .int) (i := 58) rfl rfl rfl ?_
    obtain ⟨rfl, rfl⟩ := ky_leaf e
    exact hr _ hmh5 frh5
  · replace e := ky_ifF c10 e
    refine v_aload_n (i := 42) (j := 0) rfl rfl (?_ : ky_V _ _ _ 77 _ _ _ _)
    refine gf_X12_77 rfl (i := 43) rfl (md_0 hmh5) rfl (?_ : ky_V _ _ _ 80 _ _ _ _)
    refine v_aload_n (i := 44) (j := 0) rfl rfl (?_ : ky_V _ _ _ 81 _ _ _ _)
    refine gf_X12_87 rfl (i := 45) rfl (md_0 hmh5) rfl (?_ : ky_V _ _ _ 84 _ _ _ _)
    refine v_isub (i := 46) rfl (?_ : ky_V _ _ _ 85 _ _ _ _)
    refine v_iconst (v := 3) (i := 47) rfl (by decide) (?_ : ky_V _ _ _ 86 _ _ _ _)
    refine v_icmp_gt (tgt := 99) (i := 48) rfl (by decide) (fun c11 => ?_) (fun c11 => ?_)
    · replace e := ky_ifT c11 e
      refine v_iconst (v := (-1)) (i := 55) rfl (by decide) (?_ : ky_V _ _ _ 100 _ _ _ _)
      refine v_goto (tgt := 104) (i := 56) rfl (by decide) (?_ : ky_V _ _ _ 104 _ _ _ _)
      refine v_iret (v := (-1)) (ty := .int) (i := 58) rfl rfl rfl ?_
      obtain ⟨rfl, rfl⟩ := ky_leaf e
      exact hr _ hmh5 frh5
    · replace e := ky_ifF c11 e
      refine v_iload_n (i := 49) (j := 3) rfl rfl (?_ : ky_V _ _ _ 90 _ _ _ _)
      refine v_iload_n (i := 50) (j := 1) rfl rfl (?_ : ky_V _ _ _ 91 _ _ _ _)
      refine v_icmp_lt (tgt := 99) (i := 51) rfl (by decide) (fun c12 => ?_) (fun c12 => ?_)
      · replace e := ky_ifT c12 e
        refine v_iconst (v := (-1)) (i := 55) rfl (by decide) (?_ : ky_V _ _ _ 100 _ _ _ _)
        refine v_goto (tgt := 104) (i := 56) rfl (by decide) (?_ : ky_V _ _ _ 104 _ _ _ _)
        refine v_iret (v := (-1)) (ty := .int) (i := 58) rfl rfl rfl ?_
        obtain ⟨rfl, rfl⟩ := ky_leaf e
        exact hr _ hmh5 frh5
      · replace e := ky_ifF c12 e
        refine v_iload_n (i := 52) (j := 3) rfl rfl (?_ : ky_V _ _ _ 95 _ _ _ _)
        refine v_iload_n (i := 53) (j := 2) rfl rfl (?_ : ky_V _ _ _ 96 _ _ _ _)
        refine v_icmp_le (tgt := 103) (i := 54) rfl (by decide) (fun c13 => ?_) (fun c13 => ?_)
        · replace e := ky_ifT c13 e
          refine v_iload_n (i := 57) (j := 3) rfl rfl (?_ : ky_V _ _ _ 104 _ _ _ _)
          refine v_iret (v := x9) (ty := .int) (i := 58) rfl rfl rfl ?_
          obtain ⟨rfl, rfl⟩ := ky_leaf e
          exact hr _ hmh5 frh5
        · replace e := ky_ifF c13 e
          refine v_iconst (v := (-1)) (i := 55) rfl (by decide) (?_ : ky_V _ _ _ 100 _ _ _ _)
          refine v_goto (tgt := 104) (i := 56) rfl (by decide) (?_ : ky_V _ _ _ 104 _ _ _ _)
          refine v_iret (v := (-1)) (ty := .int) (i := 58) rfl rfl rfl ?_
          obtain ⟨rfl, rfl⟩ := ky_leaf e
          exact hr _ hmh5 frh5

def md_cellTold (N : Nat) (c : (Nat → Nat → Int32))  : Option ((Nat → Nat → Int32) × Int32) := ((md_number N c 0 7).bind (fun zz => (fun q2 x3 => (if 0 ≤ x3 then ((md_number N q2 0 7).bind (fun zz => (fun q7 x8 => (if 0 ≤ x8 then (some (q7, ((8 * x8) + x3))) else (some (q7, (-1))))) zz.1 zz.2)) else (if 0 ≤ (-1 : Int32) then (some (q2, ((8 * (-1)) + x3))) else (some (q2, (-1)))))) zz.1 zz.2))
set_option maxRecDepth 20000 in
set_option maxHeartbeats 4000000 in
theorem k_X12_cellTold {G : ky_GW} {d : Nat} {h : ky_HP} {Q : ky_RS → ky_HP → Prop} {a : Nat} {c c9 : (Nat → Nat → Int32)} {r9 : Int32}  (N : Nat) (hm : md_at G h a c) (e : md_cellTold N c = some (c9, r9)) (hr : ∀ h1, md_at G h1 a c9 → bk_fr a 13 h h1 → Q (.inl (some (.int r9))) h1) : ky_Call G (d + 3) M_X12_cellTold [.ref a] h Q := by
  refine ky_ofV (by decide +kernel) rfl ok_X12_cellTold (Nat.le_of_ble_eq_true rfl) ?_
  have fr : bk_fr a 13 h h := bk_fr.rf
  unfold md_cellTold at e
  refine (?_ : ky_V _ _ _ 0 [(0, .ref a)] [] _ _)
  refine v_aload_n (i := 0) (j := 0) rfl rfl (?_ : ky_V _ _ _ 1 _ _ _ _)
  refine v_iconst (v := 0) (i := 1) rfl (by decide) (?_ : ky_V _ _ _ 2 _ _ _ _)
  refine v_bipush (v := 7) (i := 2) rfl (by decide) (?_ : ky_V _ _ _ 4 _ _ _ _)
  obtain ⟨⟨q2, x3⟩, g4, e⟩ := Option.bind_eq_some_iff.mp e
  refine cl_X12_109 (As := [.int 0, .int 7]) rfl (i := 3) rfl (md_0 hm) rfl rfl (Nat.le_of_ble_eq_true rfl) (k_X12_number N hm g4 (fun h1 hmh1 frh1 => ⟨_, rfl, (?_ : ky_V _ _ _ 7 _ [.int x3] _ _)⟩))
  have frh1 := fr.tr frh1
  refine v_istore_n (L' := [(0, .ref a), (1, .int x3)]) [1, 0] (i := 4) rfl (Nat.le_of_ble_eq_true rfl) rfl (?_ : ky_V _ _ _ 8 _ _ _ _)
  refine v_iload_n (i := 5) (j := 1) rfl rfl (?_ : ky_V _ _ _ 9 _ _ _ _)
  refine v_if_ge (tgt := 16) (i := 6) rfl (by decide) (fun c5 => ?_) (fun c5 => ?_)
  · replace e := ky_ifT c5 e
    refine v_aload_n (i := 9) (j := 0) rfl rfl (?_ : ky_V _ _ _ 17 _ _ _ _)
    refine v_iconst (v := 0) (i := 10) rfl (by decide) (?_ : ky_V _ _ _ 18 _ _ _ _)
    refine v_bipush (v := 7) (i := 11) rfl (by decide) (?_ : ky_V _ _ _ 20 _ _ _ _)
    obtain ⟨⟨q7, x8⟩, g9, e⟩ := Option.bind_eq_some_iff.mp e
    refine cl_X12_109 (As := [.int 0, .int 7]) rfl (i := 12) rfl (md_0 hmh1) rfl rfl (Nat.le_of_ble_eq_true rfl) (k_X12_number N hmh1 g9 (fun h6 hmh6 frh6 => ⟨_, rfl, (?_ : ky_V _ _ _ 23 _ [.int x8] _ _)⟩))
    have frh6 := frh1.tr frh6
    refine v_istore_n (L' := [(0, .ref a), (1, .int x3), (2, .int x8)]) [1, 2, 0] (i := 13) rfl (Nat.le_of_ble_eq_true rfl) rfl (?_ : ky_V _ _ _ 24 _ _ _ _)
    refine v_iload_n (i := 14) (j := 2) rfl rfl (?_ : ky_V _ _ _ 25 _ _ _ _)
    refine v_if_ge (tgt := 32) (i := 15) rfl (by decide) (fun c10 => ?_) (fun c10 => ?_)
    · replace e := ky_ifT c10 e
      refine v_bipush (v := 8) (i := 18) rfl (by decide) (?_ : ky_V _ _ _ 34 _ _ _ _)
      refine v_iload_n (i := 19) (j := 2) rfl rfl (?_ : ky_V _ _ _ 35 _ _ _ _)
      refine v_imul (i := 20) rfl (?_ : ky_V _ _ _ 36 _ _ _ _)
      refine v_iload_n (i := 21) (j := 1) rfl rfl (?_ : ky_V _ _ _ 37 _ _ _ _)
      refine v_iadd (i := 22) rfl (?_ : ky_V _ _ _ 38 _ _ _ _)
      refine v_iret (v := ((8 * x8) + x3)) (ty := .int) (i := 23) rfl rfl rfl ?_
      obtain ⟨rfl, rfl⟩ := ky_leaf e
      exact hr _ hmh6 frh6
    · replace e := ky_ifF c10 e
      refine v_iconst (v := (-1)) (i := 16) rfl (by decide) (?_ : ky_V _ _ _ 29 _ _ _ _)
      refine v_goto (tgt := 38) (i := 17) rfl (by decide) (?_ : ky_V _ _ _ 38 _ _ _ _)
      refine v_iret (v := (-1)) (ty := .int) (i := 23) rfl rfl rfl ?_
      obtain ⟨rfl, rfl⟩ := ky_leaf e
      exact hr _ hmh6 frh6
  · replace e := ky_ifF c5 e
    refine v_iconst (v := (-1)) (i := 7) rfl (by decide) (?_ : ky_V _ _ _ 13 _ _ _ _)
    refine v_goto (tgt := 23) (i := 8) rfl (by decide) (?_ : ky_V _ _ _ 23 _ _ _ _)
    refine v_istore_n (L' := [(0, .ref a), (1, .int x3), (2, .int (-1))]) [1, 2, 0] (i := 13) rfl (Nat.le_of_ble_eq_true rfl) rfl (?_ : ky_V _ _ _ 24 _ _ _ _)
    refine v_iload_n (i := 14) (j := 2) rfl rfl (?_ : ky_V _ _ _ 25 _ _ _ _)
    refine v_if_ge (tgt := 32) (i := 15) rfl (by decide) (fun c11 => ?_) (fun c11 => ?_)
    · replace e := ky_ifT c11 e
      refine v_bipush (v := 8) (i := 18) rfl (by decide) (?_ : ky_V _ _ _ 34 _ _ _ _)
      refine v_iload_n (i := 19) (j := 2) rfl rfl (?_ : ky_V _ _ _ 35 _ _ _ _)
      refine v_imul (i := 20) rfl (?_ : ky_V _ _ _ 36 _ _ _ _)
      refine v_iload_n (i := 21) (j := 1) rfl rfl (?_ : ky_V _ _ _ 37 _ _ _ _)
      refine v_iadd (i := 22) rfl (?_ : ky_V _ _ _ 38 _ _ _ _)
      refine v_iret (v := ((8 * (-1)) + x3)) (ty := .int) (i := 23) rfl rfl rfl ?_
      obtain ⟨rfl, rfl⟩ := ky_leaf e
      exact hr _ hmh1 frh1
    · replace e := ky_ifF c11 e
      refine v_iconst (v := (-1)) (i := 16) rfl (by decide) (?_ : ky_V _ _ _ 29 _ _ _ _)
      refine v_goto (tgt := 38) (i := 17) rfl (by decide) (?_ : ky_V _ _ _ 38 _ _ _ _)
      refine v_iret (v := (-1)) (ty := .int) (i := 23) rfl rfl rfl ?_
      obtain ⟨rfl, rfl⟩ := ky_leaf e
      exact hr _ hmh1 frh1

def md_readSign (N : Nat) (c : (Nat → Nat → Int32)) (p1 : Int32) : Option ((Nat → Nat → Int32) × Int32) := ((md_cellTold N c).bind (fun zz => (fun q2 x3 => (if x3 < 0 then (if x3 < 0 then (some (q2, 0)) else (some (q2, 1))) else (if ky_inB ((45 + (3 * x3)) + p1) 2247 = true then (ky_let (bk_w q2 1 (Int32.toNatClampNeg ((45 + (3 * x3)) + p1)) 1) (fun q9 => (if x3 < 0 then (some (q9, 0)) else (some (q9, 1))))) else none))) zz.1 zz.2))
set_option maxRecDepth 20000 in
set_option maxHeartbeats 4000000 in
theorem k_X12_readSign {G : ky_GW} {d : Nat} {h : ky_HP} {Q : ky_RS → ky_HP → Prop} {a : Nat} {c c9 : (Nat → Nat → Int32)} {r9 : Int32} {p1 : Int32} (N : Nat) (hm : md_at G h a c) (e : md_readSign N c p1 = some (c9, r9)) (hr : ∀ h1, md_at G h1 a c9 → bk_fr a 13 h h1 → Q (.inl (some (.int r9))) h1) : ky_Call G (d + 4) M_X12_readSign [.ref a, .int p1] h Q := by
  refine ky_ofV (by decide +kernel) rfl ok_X12_readSign (Nat.le_of_ble_eq_true rfl) ?_
  have fr : bk_fr a 13 h h := bk_fr.rf
  unfold md_readSign at e
  refine (?_ : ky_V _ _ _ 0 [(0, .ref a), (1, .int p1)] [] _ _)
  refine v_aload_n (i := 0) (j := 0) rfl rfl (?_ : ky_V _ _ _ 1 _ _ _ _)
  obtain ⟨⟨q2, x3⟩, g4, e⟩ := Option.bind_eq_some_iff.mp e
  refine cl_X12_125 (As := []) rfl (i := 1) rfl (md_0 hm) rfl rfl (Nat.le_of_ble_eq_true rfl) (k_X12_cellTold N hm g4 (fun h1 hmh1 frh1 => ⟨_, rfl, (?_ : ky_V _ _ _ 4 _ [.int x3] _ _)⟩))
  have frh1 := fr.tr frh1
  refine v_istore_n (L' := [(0, .ref a), (1, .int p1), (2, .int x3)]) [1, 2, 0] (i := 2) rfl (Nat.le_of_ble_eq_true rfl) rfl (?_ : ky_V _ _ _ 5 _ _ _ _)
  refine v_iload_n (i := 3) (j := 2) rfl rfl (?_ : ky_V _ _ _ 6 _ _ _ _)
  refine v_if_lt (tgt := 23) (i := 4) rfl (by decide) (fun c5 => ?_) (fun c5 => ?_)
  · replace e := ky_ifT c5 e
    refine v_iload_n (i := 16) (j := 2) rfl rfl (?_ : ky_V _ _ _ 24 _ _ _ _)
    refine v_if_lt (tgt := 31) (i := 17) rfl (by decide) (fun c6 => ?_) (fun c6 => ?_)
    · replace e := ky_ifT c6 e
      refine v_iconst (v := 0) (i := 20) rfl (by decide) (?_ : ky_V _ _ _ 32 _ _ _ _)
      refine v_iret (v := 0) (ty := .boolean) (i := 21) rfl rfl (by decide) ?_
      obtain ⟨rfl, rfl⟩ := ky_leaf e
      exact hr _ hmh1 frh1
    · replace e := ky_ifF c6 e
      refine v_iconst (v := 1) (i := 18) rfl (by decide) (?_ : ky_V _ _ _ 28 _ _ _ _)
      refine v_goto (tgt := 32) (i := 19) rfl (by decide) (?_ : ky_V _ _ _ 32 _ _ _ _)
      refine v_iret (v := 1) (ty := .boolean) (i := 21) rfl rfl (by decide) ?_
      obtain ⟨rfl, rfl⟩ := ky_leaf e
      exact hr _ hmh1 frh1
  · replace e := ky_ifF c5 e
    refine v_aload_n (i := 5) (j := 0) rfl rfl (?_ : ky_V _ _ _ 10 _ _ _ _)
    refine gf_X12_13 rfl (i := 6) rfl (md_0 hmh1) rfl (?_ : ky_V _ _ _ 13 _ _ _ _)
    refine v_bipush (v := 45) (i := 7) rfl (by decide) (?_ : ky_V _ _ _ 15 _ _ _ _)
    refine v_iconst (v := 3) (i := 8) rfl (by decide) (?_ : ky_V _ _ _ 16 _ _ _ _)
    refine v_iload_n (i := 9) (j := 2) rfl rfl (?_ : ky_V _ _ _ 17 _ _ _ _)
    refine v_imul (i := 10) rfl (?_ : ky_V _ _ _ 18 _ _ _ _)
    refine v_iadd (i := 11) rfl (?_ : ky_V _ _ _ 19 _ _ _ _)
    refine v_iload_n (i := 12) (j := 1) rfl rfl (?_ : ky_V _ _ _ 20 _ _ _ _)
    refine v_iadd (i := 13) rfl (?_ : ky_V _ _ _ 21 _ _ _ _)
    refine v_iconst (v := 1) (i := 14) rfl (by decide) (?_ : ky_V _ _ _ 22 _ _ _ _)
    obtain ⟨z7, e⟩ := ky_chkE e
    refine v_iast (i := 15) rfl (md_1 hmh1) (ky_inb z7) ?_
    refine bk_st (B := md_B G a) hmh1 frh1 1 (Int32.toNatClampNeg ((45 + (3 * x3)) + p1)) 1 (by decide) (fun h8 hmh8 frh8 => ?_)
    obtain ⟨q9, eq9⟩ : ∃ z, z = (bk_w q2 1 (Int32.toNatClampNeg ((45 + (3 * x3)) + p1)) 1) := ⟨_, rfl⟩
    rw [← eq9] at hmh8
    replace e := ky_letE eq9 e
    refine (?_ : ky_V _ _ _ 23 _ _ _ _)
    refine v_iload_n (i := 16) (j := 2) rfl rfl (?_ : ky_V _ _ _ 24 _ _ _ _)
    refine v_if_lt (tgt := 31) (i := 17) rfl (by decide) (fun c10 => ?_) (fun c10 => ?_)
    · replace e := ky_ifT c10 e
      refine v_iconst (v := 0) (i := 20) rfl (by decide) (?_ : ky_V _ _ _ 32 _ _ _ _)
      refine v_iret (v := 0) (ty := .boolean) (i := 21) rfl rfl (by decide) ?_
      obtain ⟨rfl, rfl⟩ := ky_leaf e
      exact hr _ hmh8 frh8
    · replace e := ky_ifF c10 e
      refine v_iconst (v := 1) (i := 18) rfl (by decide) (?_ : ky_V _ _ _ 28 _ _ _ _)
      refine v_goto (tgt := 32) (i := 19) rfl (by decide) (?_ : ky_V _ _ _ 32 _ _ _ _)
      refine v_iret (v := 1) (ty := .boolean) (i := 21) rfl rfl (by decide) ?_
      obtain ⟨rfl, rfl⟩ := ky_leaf e
      exact hr _ hmh8 frh8

def md_readHole (N : Nat) (c : (Nat → Nat → Int32))  : Option ((Nat → Nat → Int32) × Int32) := ((md_cellTold N c).bind (fun zz => (fun q2 x3 => (if x3 < 0 then (if x3 < 0 then (some (q2, 0)) else (some (q2, 1))) else (ky_let (bk_w q2 1 10 x3) (fun q8 => (if x3 < 0 then (some (q8, 0)) else (some (q8, 1))))))) zz.1 zz.2))
set_option maxRecDepth 20000 in
set_option maxHeartbeats 4000000 in
theorem k_X12_readHole {G : ky_GW} {d : Nat} {h : ky_HP} {Q : ky_RS → ky_HP → Prop} {a : Nat} {c c9 : (Nat → Nat → Int32)} {r9 : Int32}  (N : Nat) (hm : md_at G h a c) (e : md_readHole N c = some (c9, r9)) (hr : ∀ h1, md_at G h1 a c9 → bk_fr a 13 h h1 → Q (.inl (some (.int r9))) h1) : ky_Call G (d + 4) M_X12_readHole [.ref a] h Q := by
  refine ky_ofV (by decide +kernel) rfl ok_X12_readHole (Nat.le_of_ble_eq_true rfl) ?_
  have fr : bk_fr a 13 h h := bk_fr.rf
  unfold md_readHole at e
  refine (?_ : ky_V _ _ _ 0 [(0, .ref a)] [] _ _)
  refine v_aload_n (i := 0) (j := 0) rfl rfl (?_ : ky_V _ _ _ 1 _ _ _ _)
  obtain ⟨⟨q2, x3⟩, g4, e⟩ := Option.bind_eq_some_iff.mp e
  refine cl_X12_125 (As := []) rfl (i := 1) rfl (md_0 hm) rfl rfl (Nat.le_of_ble_eq_true rfl) (k_X12_cellTold N hm g4 (fun h1 hmh1 frh1 => ⟨_, rfl, (?_ : ky_V _ _ _ 4 _ [.int x3] _ _)⟩))
  have frh1 := fr.tr frh1
  refine v_istore_n (L' := [(0, .ref a), (1, .int x3)]) [1, 0] (i := 2) rfl (Nat.le_of_ble_eq_true rfl) rfl (?_ : ky_V _ _ _ 5 _ _ _ _)
  refine v_iload_n (i := 3) (j := 1) rfl rfl (?_ : ky_V _ _ _ 6 _ _ _ _)
  refine v_if_lt (tgt := 17) (i := 4) rfl (by decide) (fun c5 => ?_) (fun c5 => ?_)
  · replace e := ky_ifT c5 e
    refine v_iload_n (i := 10) (j := 1) rfl rfl (?_ : ky_V _ _ _ 18 _ _ _ _)
    refine v_if_lt (tgt := 25) (i := 11) rfl (by decide) (fun c6 => ?_) (fun c6 => ?_)
    · replace e := ky_ifT c6 e
      refine v_iconst (v := 0) (i := 14) rfl (by decide) (?_ : ky_V _ _ _ 26 _ _ _ _)
      refine v_iret (v := 0) (ty := .boolean) (i := 15) rfl rfl (by decide) ?_
      obtain ⟨rfl, rfl⟩ := ky_leaf e
      exact hr _ hmh1 frh1
    · replace e := ky_ifF c6 e
      refine v_iconst (v := 1) (i := 12) rfl (by decide) (?_ : ky_V _ _ _ 22 _ _ _ _)
      refine v_goto (tgt := 26) (i := 13) rfl (by decide) (?_ : ky_V _ _ _ 26 _ _ _ _)
      refine v_iret (v := 1) (ty := .boolean) (i := 15) rfl rfl (by decide) ?_
      obtain ⟨rfl, rfl⟩ := ky_leaf e
      exact hr _ hmh1 frh1
  · replace e := ky_ifF c5 e
    refine v_aload_n (i := 5) (j := 0) rfl rfl (?_ : ky_V _ _ _ 10 _ _ _ _)
    refine gf_X12_13 rfl (i := 6) rfl (md_0 hmh1) rfl (?_ : ky_V _ _ _ 13 _ _ _ _)
    refine v_bipush (v := 10) (i := 7) rfl (by decide) (?_ : ky_V _ _ _ 15 _ _ _ _)
    refine v_iload_n (i := 8) (j := 1) rfl rfl (?_ : ky_V _ _ _ 16 _ _ _ _)
    refine v_iast (i := 9) rfl (md_1 hmh1) (ky_inl (by decide)) ?_
    refine bk_st (B := md_B G a) hmh1 frh1 1 10 x3 (by decide) (fun h7 hmh7 frh7 => ?_)
    obtain ⟨q8, eq8⟩ : ∃ z, z = (bk_w q2 1 10 x3) := ⟨_, rfl⟩
    rw [← eq8] at hmh7
    replace e := ky_letE eq8 e
    refine (?_ : ky_V _ _ _ 17 _ _ _ _)
    refine v_iload_n (i := 10) (j := 1) rfl rfl (?_ : ky_V _ _ _ 18 _ _ _ _)
    refine v_if_lt (tgt := 25) (i := 11) rfl (by decide) (fun c9 => ?_) (fun c9 => ?_)
    · replace e := ky_ifT c9 e
      refine v_iconst (v := 0) (i := 14) rfl (by decide) (?_ : ky_V _ _ _ 26 _ _ _ _)
      refine v_iret (v := 0) (ty := .boolean) (i := 15) rfl rfl (by decide) ?_
      obtain ⟨rfl, rfl⟩ := ky_leaf e
      exact hr _ hmh7 frh7
    · replace e := ky_ifF c9 e
      refine v_iconst (v := 1) (i := 12) rfl (by decide) (?_ : ky_V _ _ _ 22 _ _ _ _)
      refine v_goto (tgt := 26) (i := 13) rfl (by decide) (?_ : ky_V _ _ _ 26 _ _ _ _)
      refine v_iret (v := 1) (ty := .boolean) (i := 15) rfl rfl (by decide) ?_
      obtain ⟨rfl, rfl⟩ := ky_leaf e
      exact hr _ hmh7 frh7

def md_sign (N : Nat) (c : (Nat → Nat → Int32)) (p1 : Int32) : Option ((Nat → Nat → Int32) × Int32) := ((md_blanks N c).bind (fun zz => (fun q2 x3 => (if ((¬ ((q2 0 11) ≤ (q2 0 10))) → ky_inB (q2 0 10) 400 = true) then (if ((¬ ((q2 0 11) ≤ (q2 0 10))) → (¬ ((q2 6 (Int32.toNatClampNeg (q2 0 10))) < p1)) → ky_inB (q2 0 10) 400 = true) then (if (md_isAt_r q2 p1 p1) = 0 then (some (q2, 0)) else (ky_let ((q2 0 10) + 1) (fun x8 => (ky_let (bk_w q2 0 10 x8) (fun q10 => (some (q10, 1))))))) else none) else none)) zz.1 zz.2))
set_option maxRecDepth 20000 in
set_option maxHeartbeats 4000000 in
theorem k_X12_sign {G : ky_GW} {d : Nat} {h : ky_HP} {Q : ky_RS → ky_HP → Prop} {a : Nat} {c c9 : (Nat → Nat → Int32)} {r9 : Int32} {p1 : Int32} (N : Nat) (hm : md_at G h a c) (e : md_sign N c p1 = some (c9, r9)) (hr : ∀ h1, md_at G h1 a c9 → bk_fr a 13 h h1 → Q (.inl (some (.int r9))) h1) : ky_Call G (d + 2) M_X12_sign [.ref a, .int p1] h Q := by
  refine ky_ofV (by decide +kernel) rfl ok_X12_sign (Nat.le_of_ble_eq_true rfl) ?_
  have fr : bk_fr a 13 h h := bk_fr.rf
  unfold md_sign at e
  refine (?_ : ky_V _ _ _ 0 [(0, .ref a), (1, .int p1)] [] _ _)
  refine v_aload_n (i := 0) (j := 0) rfl rfl (?_ : ky_V _ _ _ 1 _ _ _ _)
  obtain ⟨⟨q2, x3⟩, g4, e⟩ := Option.bind_eq_some_iff.mp e
  refine cl_X12_90 (As := []) rfl (i := 1) rfl (md_0 hm) rfl rfl (Nat.le_of_ble_eq_true rfl) (k_X12_blanks N hm g4 (fun h1 hmh1 frh1 => ⟨_, rfl, (?_ : ky_V _ _ _ 4 _ [] _ _)⟩))
  have frh1 := fr.tr frh1
  refine v_aload_n (i := 2) (j := 0) rfl rfl (?_ : ky_V _ _ _ 5 _ _ _ _)
  refine v_iload_n (i := 3) (j := 1) rfl rfl (?_ : ky_V _ _ _ 6 _ _ _ _)
  refine v_iload_n (i := 4) (j := 1) rfl rfl (?_ : ky_V _ _ _ 7 _ _ _ _)
  obtain ⟨z5, e⟩ := ky_chkE e
  obtain ⟨z6, e⟩ := ky_chkE e
  refine cl_X12_83 (As := [.int p1, .int p1]) rfl (i := 5) rfl (md_0 hmh1) rfl rfl (Nat.le_of_ble_eq_true rfl) (k_X12_isAt p1 p1 hmh1 (fun y0 => ky_inb (z5 y0)) (fun y0 y1 => ky_inb (z6 y0 y1)) ⟨_, rfl, (?_ : ky_V _ _ _ 10 _ [.int ((md_isAt_r q2 p1 p1))] _ _)⟩)
  refine v_if_ne (tgt := 15) (i := 6) rfl (by decide) (fun c7 => ?_) (fun c7 => ?_)
  · replace e := ky_ifF c7 e
    refine v_aload_n (i := 9) (j := 0) rfl rfl (?_ : ky_V _ _ _ 16 _ _ _ _)
    refine v_dup (i := 10) rfl rfl (?_ : ky_V _ _ _ 17 _ _ _ _)
    refine gf_X12_77 rfl (i := 11) rfl (md_0 hmh1) rfl (?_ : ky_V _ _ _ 20 _ _ _ _)
    refine v_iconst (v := 1) (i := 12) rfl (by decide) (?_ : ky_V _ _ _ 21 _ _ _ _)
    refine v_iadd (i := 13) rfl (?_ : ky_V _ _ _ 22 _ _ _ _)
    refine v_topi (fun x8 ex8 => ?_)
    replace e := ky_letE ex8 e
    refine pf_X12_77 rfl (i := 14) rfl (md_0 hmh1) (Nat.le_of_ble_eq_true rfl) rfl rfl ?_
    refine bk_st (B := md_B G a) hmh1 frh1 0 10 x8 (by decide) (fun h9 hmh9 frh9 => ?_)
    obtain ⟨q10, eq10⟩ : ∃ z, z = (bk_w q2 0 10 x8) := ⟨_, rfl⟩
    rw [← eq10] at hmh9
    replace e := ky_letE eq10 e
    refine (?_ : ky_V _ _ _ 25 _ _ _ _)
    refine v_iconst (v := 1) (i := 15) rfl (by decide) (?_ : ky_V _ _ _ 26 _ _ _ _)
    refine v_iret (v := 1) (ty := .boolean) (i := 16) rfl rfl (by decide) ?_
    obtain ⟨rfl, rfl⟩ := ky_leaf e
    exact hr _ hmh9 frh9
  · replace e := ky_ifT c7 e
    refine v_iconst (v := 0) (i := 7) rfl (by decide) (?_ : ky_V _ _ _ 14 _ _ _ _)
    refine v_iret (v := 0) (ty := .boolean) (i := 8) rfl rfl (by decide) ?_
    obtain ⟨rfl, rfl⟩ := ky_leaf e
    exact hr _ hmh1 frh1

def md_factOf (N : Nat) (c : (Nat → Nat → Int32)) (p1 : Int32) (p2 : Int32) (p3 : Int32) (p4 : Int32) : Option ((Nat → Nat → Int32) × Int32) := (if p1 = 0 then (some (c, p3)) else (if p1 = 1 then (if ky_inB p4 2 = true then (some (c, (c 9 (Int32.toNatClampNeg p4)))) else none) else (if p1 = 2 then (if ky_inB (1 - p4) 2 = true then (some (c, (c 9 (Int32.toNatClampNeg (1 - p4))))) else none) else (if p1 = 3 then (some (c, (c 0 19))) else (if p1 = 4 then (some (c, (c 1 4))) else (if p1 = 5 then (some (c, (c 1 5))) else (if p1 = 6 then (if (c 0 20) = 0 then (some (c, 0)) else (some (c, 1))) else (some (c, p2)))))))))
set_option maxRecDepth 20000 in
set_option maxHeartbeats 4000000 in
theorem k_X12_factOf {G : ky_GW} {d : Nat} {h : ky_HP} {Q : ky_RS → ky_HP → Prop} {a : Nat} {c c9 : (Nat → Nat → Int32)} {r9 : Int32} {p1 : Int32} {p2 : Int32} {p3 : Int32} {p4 : Int32} (N : Nat) (hm : md_at G h a c) (e : md_factOf N c p1 p2 p3 p4 = some (c9, r9)) (hr : ∀ h1, md_at G h1 a c9 → bk_fr a 13 h h1 → Q (.inl (some (.int r9))) h1) : ky_Call G d M_X12_factOf [.ref a, .int p1, .int p2, .int p3, .int p4] h Q := by
  refine ky_ofV (by decide +kernel) rfl ok_X12_factOf (Nat.le_of_ble_eq_true rfl) ?_
  have fr : bk_fr a 13 h h := bk_fr.rf
  unfold md_factOf at e
  refine (?_ : ky_V _ _ _ 0 [(0, .ref a), (1, .int p1), (2, .int p2), (3, .int p3), (4, .int p4)] [] _ _)
  refine v_iload_n (i := 0) (j := 1) rfl rfl (?_ : ky_V _ _ _ 1 _ _ _ _)
  rcases Classical.em (p1 = 0) with c1 | c1
  · replace e := ky_ifT c1 e
    refine v_tableIn (off := 43) (tgt := 44) (i := 1) rfl (by rw [c1]; decide) (by rw [c1]; decide) (by rw [c1]; rfl) (by decide) ?_
    refine v_iload_n (i := 2) (j := 3) rfl rfl (?_ : ky_V _ _ _ 45 _ _ _ _)
    refine v_iret (v := p3) (ty := .int) (i := 3) rfl rfl rfl ?_
    obtain ⟨rfl, rfl⟩ := ky_leaf e
    exact hr _ hm fr
  · replace e := ky_ifF c1 e
    rcases Classical.em (p1 = 1) with c2 | c2
    · replace e := ky_ifT c2 e
      refine v_tableIn (off := 45) (tgt := 46) (i := 1) rfl (by rw [c2]; decide) (by rw [c2]; decide) (by rw [c2]; rfl) (by decide) ?_
      refine v_aload_n (i := 4) (j := 0) rfl rfl (?_ : ky_V _ _ _ 47 _ _ _ _)
      refine gf_X12_42 rfl (i := 5) rfl (md_0 hm) rfl (?_ : ky_V _ _ _ 50 _ _ _ _)
      refine v_iload (i := 6) (j := 4) rfl rfl (?_ : ky_V _ _ _ 52 _ _ _ _)
      obtain ⟨z3, e⟩ := ky_chkE e
      refine v_iald (i := 7) rfl (md_9 hm) (ky_inb z3) (?_ : ky_V _ _ _ 53 _ (.int (c 9 (Int32.toNatClampNeg p4)) :: _) _ _)
      refine v_iret (v := (c 9 (Int32.toNatClampNeg p4))) (ty := .int) (i := 8) rfl rfl rfl ?_
      obtain ⟨rfl, rfl⟩ := ky_leaf e
      exact hr _ hm fr
    · replace e := ky_ifF c2 e
      rcases Classical.em (p1 = 2) with c4 | c4
      · replace e := ky_ifT c4 e
        refine v_tableIn (off := 53) (tgt := 54) (i := 1) rfl (by rw [c4]; decide) (by rw [c4]; decide) (by rw [c4]; rfl) (by decide) ?_
        refine v_aload_n (i := 9) (j := 0) rfl rfl (?_ : ky_V _ _ _ 55 _ _ _ _)
        refine gf_X12_42 rfl (i := 10) rfl (md_0 hm) rfl (?_ : ky_V _ _ _ 58 _ _ _ _)
        refine v_iconst (v := 1) (i := 11) rfl (by decide) (?_ : ky_V _ _ _ 59 _ _ _ _)
        refine v_iload (i := 12) (j := 4) rfl rfl (?_ : ky_V _ _ _ 61 _ _ _ _)
        refine v_isub (i := 13) rfl (?_ : ky_V _ _ _ 62 _ _ _ _)
        obtain ⟨z5, e⟩ := ky_chkE e
        refine v_iald (i := 14) rfl (md_9 hm) (ky_inb z5) (?_ : ky_V _ _ _ 63 _ (.int (c 9 (Int32.toNatClampNeg (1 - p4))) :: _) _ _)
        refine v_iret (v := (c 9 (Int32.toNatClampNeg (1 - p4)))) (ty := .int) (i := 15) rfl rfl rfl ?_
        obtain ⟨rfl, rfl⟩ := ky_leaf e
        exact hr _ hm fr
      · replace e := ky_ifF c4 e
        rcases Classical.em (p1 = 3) with c6 | c6
        · replace e := ky_ifT c6 e
          refine v_tableIn (off := 63) (tgt := 64) (i := 1) rfl (by rw [c6]; decide) (by rw [c6]; decide) (by rw [c6]; rfl) (by decide) ?_
          refine v_aload_n (i := 16) (j := 0) rfl rfl (?_ : ky_V _ _ _ 65 _ _ _ _)
          refine gf_X12_244 rfl (i := 17) rfl (md_0 hm) rfl (?_ : ky_V _ _ _ 68 _ _ _ _)
          refine v_iret (v := (c 0 19)) (ty := .int) (i := 18) rfl rfl rfl ?_
          obtain ⟨rfl, rfl⟩ := ky_leaf e
          exact hr _ hm fr
        · replace e := ky_ifF c6 e
          rcases Classical.em (p1 = 4) with c7 | c7
          · replace e := ky_ifT c7 e
            refine v_tableIn (off := 68) (tgt := 69) (i := 1) rfl (by rw [c7]; decide) (by rw [c7]; decide) (by rw [c7]; rfl) (by decide) ?_
            refine v_aload_n (i := 19) (j := 0) rfl rfl (?_ : ky_V _ _ _ 70 _ _ _ _)
            refine gf_X12_13 rfl (i := 20) rfl (md_0 hm) rfl (?_ : ky_V _ _ _ 73 _ _ _ _)
            refine v_iconst (v := 4) (i := 21) rfl (by decide) (?_ : ky_V _ _ _ 74 _ _ _ _)
            refine v_iald (i := 22) rfl (md_1 hm) (ky_inl (by decide)) (?_ : ky_V _ _ _ 75 _ (.int (c 1 4) :: _) _ _)
            refine v_iret (v := (c 1 4)) (ty := .int) (i := 23) rfl rfl rfl ?_
            obtain ⟨rfl, rfl⟩ := ky_leaf e
            exact hr _ hm fr
          · replace e := ky_ifF c7 e
            rcases Classical.em (p1 = 5) with c8 | c8
            · replace e := ky_ifT c8 e
              refine v_tableIn (off := 75) (tgt := 76) (i := 1) rfl (by rw [c8]; decide) (by rw [c8]; decide) (by rw [c8]; rfl) (by decide) ?_
              refine v_aload_n (i := 24) (j := 0) rfl rfl (?_ : ky_V _ _ _ 77 _ _ _ _)
              refine gf_X12_13 rfl (i := 25) rfl (md_0 hm) rfl (?_ : ky_V _ _ _ 80 _ _ _ _)
              refine v_iconst (v := 5) (i := 26) rfl (by decide) (?_ : ky_V _ _ _ 81 _ _ _ _)
              refine v_iald (i := 27) rfl (md_1 hm) (ky_inl (by decide)) (?_ : ky_V _ _ _ 82 _ (.int (c 1 5) :: _) _ _)
              refine v_iret (v := (c 1 5)) (ty := .int) (i := 28) rfl rfl rfl ?_
              obtain ⟨rfl, rfl⟩ := ky_leaf e
              exact hr _ hm fr
            · replace e := ky_ifF c8 e
              rcases Classical.em (p1 = 6) with c9 | c9
              · replace e := ky_ifT c9 e
                refine v_tableIn (off := 82) (tgt := 83) (i := 1) rfl (by rw [c9]; decide) (by rw [c9]; decide) (by rw [c9]; rfl) (by decide) ?_
                refine v_aload_n (i := 29) (j := 0) rfl rfl (?_ : ky_V _ _ _ 84 _ _ _ _)
                refine gf_X12_246 rfl (i := 30) rfl (md_0 hm) rfl (?_ : ky_V _ _ _ 87 _ _ _ _)
                refine v_if_eq (tgt := 94) (i := 31) rfl (by decide) (fun c10 => ?_) (fun c10 => ?_)
                · replace e := ky_ifT c10 e
                  refine v_iconst (v := 0) (i := 34) rfl (by decide) (?_ : ky_V _ _ _ 95 _ _ _ _)
                  refine v_iret (v := 0) (ty := .int) (i := 35) rfl rfl rfl ?_
                  obtain ⟨rfl, rfl⟩ := ky_leaf e
                  exact hr _ hm fr
                · replace e := ky_ifF c10 e
                  refine v_iconst (v := 1) (i := 32) rfl (by decide) (?_ : ky_V _ _ _ 91 _ _ _ _)
                  refine v_goto (tgt := 95) (i := 33) rfl (by decide) (?_ : ky_V _ _ _ 95 _ _ _ _)
                  refine v_iret (v := 1) (ty := .int) (i := 35) rfl rfl rfl ?_
                  obtain ⟨rfl, rfl⟩ := ky_leaf e
                  exact hr _ hm fr
              · replace e := ky_ifF c9 e
                refine v_tableOut (tgt := 96) (i := 1) rfl (ky_swO (fun z h1 h2 => ?_)) (by decide) ?_
                · intro hz
                  have h3 : z = 0 ∨ z = 1 ∨ z = 2 ∨ z = 3 ∨ z = 4 ∨ z = 5 ∨ z = 6 := by omega
                  rcases h3 with h3 | h3 | h3 | h3 | h3 | h3 | h3 <;> subst h3
                  · exact c1 (Int32.toInt_inj.mp (hz.trans (by decide)))
                  · exact c2 (Int32.toInt_inj.mp (hz.trans (by decide)))
                  · exact c4 (Int32.toInt_inj.mp (hz.trans (by decide)))
                  · exact c6 (Int32.toInt_inj.mp (hz.trans (by decide)))
                  · exact c7 (Int32.toInt_inj.mp (hz.trans (by decide)))
                  · exact c8 (Int32.toInt_inj.mp (hz.trans (by decide)))
                  · exact c9 (Int32.toInt_inj.mp (hz.trans (by decide)))
                · refine v_iload_n (i := 36) (j := 2) rfl rfl (?_ : ky_V _ _ _ 97 _ _ _ _)
                  refine v_iret (v := p2) (ty := .int) (i := 37) rfl rfl rfl ?_
                  obtain ⟨rfl, rfl⟩ := ky_leaf e
                  exact hr _ hm fr

def md_bestOf_L10 (N : Nat) (k : (Nat → Nat → Int32) → Int32 → Int32 → Int32 → Int32 → Option ((Nat → Nat → Int32) × Int32)) : Nat → (Nat → Nat → Int32) → Int32 → Int32 → Int32 → Int32 → Option ((Nat → Nat → Int32) × Int32)
  | 0, _, _, _, _, _ => none
  | n + 1, c, p1, p2, p3, p4 => (if (12 : Int32) ≤ p4 then (k c p1 p2 p3 p4) else (if (md_has p2 (md_moveOf p4)) = 0 then (ky_let (p4 + 1) (fun x3 => (md_bestOf_L10 N k n c p1 p2 p3 x3))) else (if ky_inB ((17 + (4 * (md_moveOf p4))) + 3) 2247 = true then (if ky_inB ((12 * p1) + p4) 14400 = true then (if ky_inB (c 10 (Int32.toNatClampNeg ((12 * p1) + p4))) 1200 = true then (ky_let (mt_min p3 ((md_takesOf_r c p4) + (c 11 (Int32.toNatClampNeg (c 10 (Int32.toNatClampNeg ((12 * p1) + p4))))))) (fun x7 => (ky_let (p4 + 1) (fun x8 => (md_bestOf_L10 N k n c p1 p2 x7 x8))))) else none) else none) else none)))
set_option maxRecDepth 20000 in
set_option maxHeartbeats 4000000 in
theorem lv_X12_bestOf_10 {G : ky_GW} {d : Nat} {h0 : ky_HP} {Q : ky_RS → ky_HP → Prop} {a : Nat} {c9 : (Nat → Nat → Int32)} {r9 : Int32} (N : Nat) (k : (Nat → Nat → Int32) → Int32 → Int32 → Int32 → Int32 → Option ((Nat → Nat → Int32) × Int32)) (hr : ∀ h1, md_at G h1 a c9 → bk_fr a 13 h0 h1 → Q (.inl (some (.int r9))) h1)
    (hk : ∀ (h : ky_HP) (c : (Nat → Nat → Int32)) (p1 : Int32) (p2 : Int32) (p3 : Int32) (p4 : Int32), md_at G h a c → bk_fr a 13 h0 h → k c p1 p2 p3 p4 = some (c9, r9) → ky_V G (d + 2) M_X12_bestOf 64 [(0, .ref a), (1, .int p1), (2, .int p2), (3, .int p3), (4, .int p4)] [] h Q) :
    ∀ (n : Nat) (h : ky_HP) (c : (Nat → Nat → Int32)) (p1 : Int32) (p2 : Int32) (p3 : Int32) (p4 : Int32), md_at G h a c → bk_fr a 13 h0 h → md_bestOf_L10 N k n c p1 p2 p3 p4 = some (c9, r9) → ky_V G (d + 2) M_X12_bestOf 10 [(0, .ref a), (1, .int p1), (2, .int p2), (3, .int p3), (4, .int p4)] [] h Q := by
  intro n
  induction n with
  | zero => intro h c p1 p2 p3 p4 hm fr e; cases e
  | succ n ih =>
    intro h c p1 p2 p3 p4 hm fr e
    rw [md_bestOf_L10] at e
    refine v_iload (i := 7) (j := 4) rfl rfl (?_ : ky_V _ _ _ 12 _ _ _ _)
    refine v_bipush (v := 12) (i := 8) rfl (by decide) (?_ : ky_V _ _ _ 14 _ _ _ _)
    refine v_icmp_ge (tgt := 64) (i := 9) rfl (by decide) (fun c1 => ?_) (fun c1 => ?_)
    · replace e := ky_ifT c1 e
      exact hk h c p1 p2 p3 p4 hm fr e
    · replace e := ky_ifF c1 e
      refine v_iload_n (i := 10) (j := 2) rfl rfl (?_ : ky_V _ _ _ 18 _ _ _ _)
      refine v_iload (i := 11) (j := 4) rfl rfl (?_ : ky_V _ _ _ 20 _ _ _ _)
      refine cl_X12_295 (As := [.int p4]) rfl (i := 12) rfl rfl rfl (Nat.le_of_ble_eq_true rfl) (k_X12_moveOf p4 ⟨_, rfl, (?_ : ky_V _ _ _ 23 _ [.int ((md_moveOf p4)), .int p2] _ _)⟩)
      refine cl_X12_305 (As := [.int p2, .int ((md_moveOf p4))]) rfl (i := 13) rfl rfl rfl (Nat.le_of_ble_eq_true rfl) (k_X12_has p2 (md_moveOf p4) ⟨_, rfl, (?_ : ky_V _ _ _ 26 _ [.int ((md_has p2 (md_moveOf p4)))] _ _)⟩)
      refine v_if_eq (tgt := 58) (i := 14) rfl (by decide) (fun c2 => ?_) (fun c2 => ?_)
      · replace e := ky_ifT c2 e
        obtain ⟨x3, ex3⟩ : ∃ z : Int32, z = p4 + 1 := ⟨_, rfl⟩
        replace e := ky_letE ex3 e
        refine v_iinc (v := x3) (j := 4) (L' := [(0, .ref a), (1, .int p1), (2, .int p2), (3, .int p3), (4, .int x3)]) [1, 2, 3, 4, 0] (i := 33) rfl rfl (by rw [ex3]; rfl) (Nat.le_of_ble_eq_true rfl) rfl (?_ : ky_V _ _ _ 61 _ _ _ _)
        refine v_goto (tgt := 10) (i := 34) rfl (by decide) (?_ : ky_V _ _ _ 10 _ _ _ _)
        exact ih h c p1 p2 p3 x3 hm fr e
      · replace e := ky_ifF c2 e
        refine v_iload_n (i := 15) (j := 3) rfl rfl (?_ : ky_V _ _ _ 30 _ _ _ _)
        refine v_aload_n (i := 16) (j := 0) rfl rfl (?_ : ky_V _ _ _ 31 _ _ _ _)
        refine v_iload (i := 17) (j := 4) rfl rfl (?_ : ky_V _ _ _ 33 _ _ _ _)
        obtain ⟨z4, e⟩ := ky_chkE e
        refine cl_X12_308 (As := [.int p4]) rfl (i := 18) rfl (md_0 hm) rfl rfl (Nat.le_of_ble_eq_true rfl) (k_X12_takesOf p4 hm (ky_inb z4) ⟨_, rfl, (?_ : ky_V _ _ _ 36 _ [.int ((md_takesOf_r c p4)), .int p3] _ _)⟩)
        refine v_aload_n (i := 19) (j := 0) rfl rfl (?_ : ky_V _ _ _ 37 _ _ _ _)
        refine gf_X12_48 rfl (i := 20) rfl (md_0 hm) rfl (?_ : ky_V _ _ _ 40 _ _ _ _)
        refine v_aload_n (i := 21) (j := 0) rfl rfl (?_ : ky_V _ _ _ 41 _ _ _ _)
        refine gf_X12_45 rfl (i := 22) rfl (md_0 hm) rfl (?_ : ky_V _ _ _ 44 _ _ _ _)
        refine v_bipush (v := 12) (i := 23) rfl (by decide) (?_ : ky_V _ _ _ 46 _ _ _ _)
        refine v_iload_n (i := 24) (j := 1) rfl rfl (?_ : ky_V _ _ _ 47 _ _ _ _)
        refine v_imul (i := 25) rfl (?_ : ky_V _ _ _ 48 _ _ _ _)
        refine v_iload (i := 26) (j := 4) rfl rfl (?_ : ky_V _ _ _ 50 _ _ _ _)
        refine v_iadd (i := 27) rfl (?_ : ky_V _ _ _ 51 _ _ _ _)
        obtain ⟨z5, e⟩ := ky_chkE e
        refine v_iald (i := 28) rfl (md_10 hm) (ky_inb z5) (?_ : ky_V _ _ _ 52 _ (.int (c 10 (Int32.toNatClampNeg ((12 * p1) + p4))) :: _) _ _)
        obtain ⟨z6, e⟩ := ky_chkE e
        refine v_iald (i := 29) rfl (md_11 hm) (ky_inb z6) (?_ : ky_V _ _ _ 53 _ (.int (c 11 (Int32.toNatClampNeg (c 10 (Int32.toNatClampNeg ((12 * p1) + p4))))) :: _) _ _)
        refine v_iadd (i := 30) rfl (?_ : ky_V _ _ _ 54 _ _ _ _)
        refine cl_X12_260 rfl (i := 31) rfl (Nat.le_of_ble_eq_true rfl) (?_ : ky_V _ _ _ 57 _ _ _ _)
        refine v_topi (fun x7 ex7 => ?_)
        replace e := ky_letE ex7 e
        refine v_istore_n (L' := [(0, .ref a), (1, .int p1), (2, .int p2), (3, .int x7), (4, .int p4)]) [1, 2, 3, 0, 4] (i := 32) rfl (Nat.le_of_ble_eq_true rfl) rfl (?_ : ky_V _ _ _ 58 _ _ _ _)
        obtain ⟨x8, ex8⟩ : ∃ z : Int32, z = p4 + 1 := ⟨_, rfl⟩
        replace e := ky_letE ex8 e
        refine v_iinc (v := x8) (j := 4) (L' := [(0, .ref a), (1, .int p1), (2, .int p2), (3, .int x7), (4, .int x8)]) [1, 2, 3, 4, 0] (i := 33) rfl rfl (by rw [ex8]; rfl) (Nat.le_of_ble_eq_true rfl) rfl (?_ : ky_V _ _ _ 61 _ _ _ _)
        refine v_goto (tgt := 10) (i := 34) rfl (by decide) (?_ : ky_V _ _ _ 10 _ _ _ _)
        exact ih h c p1 p2 x7 x8 hm fr e

def md_bestOf (N : Nat) (c : (Nat → Nat → Int32)) (p1 : Int32) (p2 : Int32) : Option ((Nat → Nat → Int32) × Int32) := (if ky_inB p1 1200 = true then (ky_let (c 11 (Int32.toNatClampNeg p1)) (fun x2 => (md_bestOf_L10 N (fun q4 x5 x6 x7 x8 => (some (q4, x7))) N c p1 p2 x2 0))) else none)
set_option maxRecDepth 20000 in
set_option maxHeartbeats 4000000 in
theorem k_X12_bestOf {G : ky_GW} {d : Nat} {h : ky_HP} {Q : ky_RS → ky_HP → Prop} {a : Nat} {c c9 : (Nat → Nat → Int32)} {r9 : Int32} {p1 : Int32} {p2 : Int32} (N : Nat) (hm : md_at G h a c) (e : md_bestOf N c p1 p2 = some (c9, r9)) (hr : ∀ h1, md_at G h1 a c9 → bk_fr a 13 h h1 → Q (.inl (some (.int r9))) h1) : ky_Call G (d + 2) M_X12_bestOf [.ref a, .int p1, .int p2] h Q := by
  refine ky_ofV (by decide +kernel) rfl ok_X12_bestOf (Nat.le_of_ble_eq_true rfl) ?_
  have fr : bk_fr a 13 h h := bk_fr.rf
  unfold md_bestOf at e
  refine (?_ : ky_V _ _ _ 0 [(0, .ref a), (1, .int p1), (2, .int p2)] [] _ _)
  refine v_aload_n (i := 0) (j := 0) rfl rfl (?_ : ky_V _ _ _ 1 _ _ _ _)
  refine gf_X12_48 rfl (i := 1) rfl (md_0 hm) rfl (?_ : ky_V _ _ _ 4 _ _ _ _)
  refine v_iload_n (i := 2) (j := 1) rfl rfl (?_ : ky_V _ _ _ 5 _ _ _ _)
  obtain ⟨z1, e⟩ := ky_chkE e
  refine v_iald (i := 3) rfl (md_11 hm) (ky_inb z1) (?_ : ky_V _ _ _ 6 _ (.int (c 11 (Int32.toNatClampNeg p1)) :: _) _ _)
  refine v_topi (fun x2 ex2 => ?_)
  replace e := ky_letE ex2 e
  refine v_istore_n (L' := [(0, .ref a), (1, .int p1), (2, .int p2), (3, .int x2)]) [1, 2, 3, 0] (i := 4) rfl (Nat.le_of_ble_eq_true rfl) rfl (?_ : ky_V _ _ _ 7 _ _ _ _)
  refine v_iconst (v := 0) (i := 5) rfl (by decide) (?_ : ky_V _ _ _ 8 _ _ _ _)
  refine v_istore (L' := [(0, .ref a), (1, .int p1), (2, .int p2), (3, .int x2), (4, .int 0)]) [1, 2, 3, 4, 0] (i := 6) rfl (Nat.le_of_ble_eq_true rfl) rfl (?_ : ky_V _ _ _ 10 _ _ _ _)
  refine lv_X12_bestOf_10 N _ hr (fun h3 q4 x5 x6 x7 x8 hmh3 frh3 e => ?_) N h c p1 p2 x2 0 hm fr e
  refine v_iload_n (i := 35) (j := 3) rfl rfl (?_ : ky_V _ _ _ 65 _ _ _ _)
  refine v_iret (v := x7) (ty := .int) (i := 36) rfl rfl rfl ?_
  obtain ⟨rfl, rfl⟩ := ky_leaf e
  exact hr _ hmh3 frh3

def md_laysRound_L2 (N : Nat) (k : (Nat → Nat → Int32) → Int32 → Int32 → Option ((Nat → Nat → Int32) × Int32)) : Nat → (Nat → Nat → Int32) → Int32 → Int32 → Option ((Nat → Nat → Int32) × Int32)
  | 0, _, _, _ => none
  | n + 1, c, p1, p2 => (if (1200 : Int32) ≤ p2 then (k c p1 p2) else (if ky_inB p2 1200 = true then (ky_let (bk_w c 11 (Int32.toNatClampNeg p2) 1000000) (fun q4 => (ky_let (p2 + 1) (fun x5 => (md_laysRound_L2 N k n q4 p1 x5))))) else none))
set_option maxRecDepth 20000 in
set_option maxHeartbeats 4000000 in
theorem lv_X12_laysRound_2 {G : ky_GW} {d : Nat} {h0 : ky_HP} {Q : ky_RS → ky_HP → Prop} {a : Nat} {c9 : (Nat → Nat → Int32)} {r9 : Int32} (N : Nat) (k : (Nat → Nat → Int32) → Int32 → Int32 → Option ((Nat → Nat → Int32) × Int32)) (hr : ∀ h1, md_at G h1 a c9 → bk_fr a 13 h0 h1 → Q (.inl none) h1)
    (hk : ∀ (h : ky_HP) (c : (Nat → Nat → Int32)) (p1 : Int32) (p2 : Int32), md_at G h a c → bk_fr a 13 h0 h → k c p1 p2 = some (c9, r9) → ky_V G (d + 2) M_X12_laysRound 24 [(0, .ref a), (1, .int p1), (2, .int p2)] [] h Q) :
    ∀ (n : Nat) (h : ky_HP) (c : (Nat → Nat → Int32)) (p1 : Int32) (p2 : Int32), md_at G h a c → bk_fr a 13 h0 h → md_laysRound_L2 N k n c p1 p2 = some (c9, r9) → ky_V G (d + 2) M_X12_laysRound 2 [(0, .ref a), (1, .int p1), (2, .int p2)] [] h Q := by
  intro n
  induction n with
  | zero => intro h c p1 p2 hm fr e; cases e
  | succ n ih =>
    intro h c p1 p2 hm fr e
    rw [md_laysRound_L2] at e
    refine v_iload_n (i := 2) (j := 2) rfl rfl (?_ : ky_V _ _ _ 3 _ _ _ _)
    refine v_sipush (v := 1200) (i := 3) rfl (by decide) (?_ : ky_V _ _ _ 6 _ _ _ _)
    refine v_icmp_ge (tgt := 24) (i := 4) rfl (by decide) (fun c1 => ?_) (fun c1 => ?_)
    · replace e := ky_ifT c1 e
      exact hk h c p1 p2 hm fr e
    · replace e := ky_ifF c1 e
      refine v_aload_n (i := 5) (j := 0) rfl rfl (?_ : ky_V _ _ _ 10 _ _ _ _)
      refine gf_X12_48 rfl (i := 6) rfl (md_0 hm) rfl (?_ : ky_V _ _ _ 13 _ _ _ _)
      refine v_iload_n (i := 7) (j := 2) rfl rfl (?_ : ky_V _ _ _ 14 _ _ _ _)
      refine v_ldcw (v := 1000000) (i := 8) rfl (ky_t8 (i := 116) rfl rfl) (?_ : ky_V _ _ _ 17 _ _ _ _)
      obtain ⟨z2, e⟩ := ky_chkE e
      refine v_iast (i := 9) rfl (md_11 hm) (ky_inb z2) ?_
      refine bk_st (B := md_B G a) hm fr 11 (Int32.toNatClampNeg p2) 1000000 (by decide) (fun h3 hmh3 frh3 => ?_)
      obtain ⟨q4, eq4⟩ : ∃ z, z = (bk_w c 11 (Int32.toNatClampNeg p2) 1000000) := ⟨_, rfl⟩
      rw [← eq4] at hmh3
      replace e := ky_letE eq4 e
      refine (?_ : ky_V _ _ _ 18 _ _ _ _)
      obtain ⟨x5, ex5⟩ : ∃ z : Int32, z = p2 + 1 := ⟨_, rfl⟩
      replace e := ky_letE ex5 e
      refine v_iinc (v := x5) (j := 2) (L' := [(0, .ref a), (1, .int p1), (2, .int x5)]) [1, 2, 0] (i := 10) rfl rfl (by rw [ex5]; rfl) (Nat.le_of_ble_eq_true rfl) rfl (?_ : ky_V _ _ _ 21 _ _ _ _)
      refine v_goto (tgt := 2) (i := 11) rfl (by decide) (?_ : ky_V _ _ _ 2 _ _ _ _)
      exact ih h3 q4 p1 x5 hmh3 frh3 e

def md_laysRound_L26 (N : Nat) (k : (Nat → Nat → Int32) → Int32 → Int32 → Option ((Nat → Nat → Int32) × Int32)) : Nat → (Nat → Nat → Int32) → Int32 → Int32 → Option ((Nat → Nat → Int32) × Int32)
  | 0, _, _, _ => none
  | n + 1, c, p1, p2 => (if (12 : Int32) ≤ p2 then (k c p1 p2) else (if (md_isOutAt p1) = 0 then (if ky_inB ((12 * p1) + p2) 14400 = true then (ky_let (c 10 (Int32.toNatClampNeg ((12 * p1) + p2))) (fun x4 => (if ky_inB x4 1200 = true then (if ky_inB ((17 + (4 * (md_moveOf p2))) + 3) 2247 = true then (ky_let (mt_min (c 11 (Int32.toNatClampNeg x4)) (md_takesOf_r c p2)) (fun x7 => (ky_let (bk_w c 11 (Int32.toNatClampNeg x4) x7) (fun q9 => (ky_let (p2 + 1) (fun x10 => (md_laysRound_L26 N k n q9 p1 x10))))))) else none) else none))) else none) else (k c p1 p2)))
set_option maxRecDepth 20000 in
set_option maxHeartbeats 4000000 in
theorem lv_X12_laysRound_26 {G : ky_GW} {d : Nat} {h0 : ky_HP} {Q : ky_RS → ky_HP → Prop} {a : Nat} {c9 : (Nat → Nat → Int32)} {r9 : Int32} (N : Nat) (k : (Nat → Nat → Int32) → Int32 → Int32 → Option ((Nat → Nat → Int32) × Int32)) (hr : ∀ h1, md_at G h1 a c9 → bk_fr a 13 h0 h1 → Q (.inl none) h1)
    (hk : ∀ (h : ky_HP) (c : (Nat → Nat → Int32)) (p1 : Int32) (p2 : Int32), md_at G h a c → bk_fr a 13 h0 h → k c p1 p2 = some (c9, r9) → ky_V G (d + 2) M_X12_laysRound 77 [(0, .ref a), (1, .int p1), (2, .int p2)] [] h Q) :
    ∀ (n : Nat) (h : ky_HP) (c : (Nat → Nat → Int32)) (p1 : Int32) (p2 : Int32), md_at G h a c → bk_fr a 13 h0 h → md_laysRound_L26 N k n c p1 p2 = some (c9, r9) → ky_V G (d + 2) M_X12_laysRound 26 [(0, .ref a), (1, .int p1), (2, .int p2)] [] h Q := by
  intro n
  induction n with
  | zero => intro h c p1 p2 hm fr e; cases e
  | succ n ih =>
    intro h c p1 p2 hm fr e
    rw [md_laysRound_L26] at e
    refine v_iload_n (i := 14) (j := 2) rfl rfl (?_ : ky_V _ _ _ 27 _ _ _ _)
    refine v_bipush (v := 12) (i := 15) rfl (by decide) (?_ : ky_V _ _ _ 29 _ _ _ _)
    refine v_icmp_ge (tgt := 77) (i := 16) rfl (by decide) (fun c1 => ?_) (fun c1 => ?_)
    · replace e := ky_ifT c1 e
      exact hk h c p1 p2 hm fr e
    · replace e := ky_ifF c1 e
      refine v_iload_n (i := 17) (j := 1) rfl rfl (?_ : ky_V _ _ _ 33 _ _ _ _)
      refine cl_X12_311 (As := [.int p1]) rfl (i := 18) rfl rfl rfl (Nat.le_of_ble_eq_true rfl) (k_X12_isOutAt p1 ⟨_, rfl, (?_ : ky_V _ _ _ 36 _ [.int ((md_isOutAt p1))] _ _)⟩)
      refine v_if_ne (tgt := 77) (i := 19) rfl (by decide) (fun c2 => ?_) (fun c2 => ?_)
      · replace e := ky_ifF c2 e
        exact hk h c p1 p2 hm fr e
      · replace e := ky_ifT c2 e
        refine v_aload_n (i := 20) (j := 0) rfl rfl (?_ : ky_V _ _ _ 40 _ _ _ _)
        refine gf_X12_45 rfl (i := 21) rfl (md_0 hm) rfl (?_ : ky_V _ _ _ 43 _ _ _ _)
        refine v_bipush (v := 12) (i := 22) rfl (by decide) (?_ : ky_V _ _ _ 45 _ _ _ _)
        refine v_iload_n (i := 23) (j := 1) rfl rfl (?_ : ky_V _ _ _ 46 _ _ _ _)
        refine v_imul (i := 24) rfl (?_ : ky_V _ _ _ 47 _ _ _ _)
        refine v_iload_n (i := 25) (j := 2) rfl rfl (?_ : ky_V _ _ _ 48 _ _ _ _)
        refine v_iadd (i := 26) rfl (?_ : ky_V _ _ _ 49 _ _ _ _)
        obtain ⟨z3, e⟩ := ky_chkE e
        refine v_iald (i := 27) rfl (md_10 hm) (ky_inb z3) (?_ : ky_V _ _ _ 50 _ (.int (c 10 (Int32.toNatClampNeg ((12 * p1) + p2))) :: _) _ _)
        refine v_topi (fun x4 ex4 => ?_)
        replace e := ky_letE ex4 e
        refine v_istore_n (L' := [(0, .ref a), (1, .int p1), (2, .int p2), (3, .int x4)]) [1, 2, 3, 0] (i := 28) rfl (Nat.le_of_ble_eq_true rfl) rfl (?_ : ky_V _ _ _ 51 _ _ _ _)
        refine v_aload_n (i := 29) (j := 0) rfl rfl (?_ : ky_V _ _ _ 52 _ _ _ _)
        refine gf_X12_48 rfl (i := 30) rfl (md_0 hm) rfl (?_ : ky_V _ _ _ 55 _ _ _ _)
        refine v_iload_n (i := 31) (j := 3) rfl rfl (?_ : ky_V _ _ _ 56 _ _ _ _)
        refine v_aload_n (i := 32) (j := 0) rfl rfl (?_ : ky_V _ _ _ 57 _ _ _ _)
        refine gf_X12_48 rfl (i := 33) rfl (md_0 hm) rfl (?_ : ky_V _ _ _ 60 _ _ _ _)
        refine v_iload_n (i := 34) (j := 3) rfl rfl (?_ : ky_V _ _ _ 61 _ _ _ _)
        obtain ⟨z5, e⟩ := ky_chkE e
        refine v_iald (i := 35) rfl (md_11 hm) (ky_inb z5) (?_ : ky_V _ _ _ 62 _ (.int (c 11 (Int32.toNatClampNeg x4)) :: _) _ _)
        refine v_aload_n (i := 36) (j := 0) rfl rfl (?_ : ky_V _ _ _ 63 _ _ _ _)
        refine v_iload_n (i := 37) (j := 2) rfl rfl (?_ : ky_V _ _ _ 64 _ _ _ _)
        obtain ⟨z6, e⟩ := ky_chkE e
        refine cl_X12_308 (As := [.int p2]) rfl (i := 38) rfl (md_0 hm) rfl rfl (Nat.le_of_ble_eq_true rfl) (k_X12_takesOf p2 hm (ky_inb z6) ⟨_, rfl, (?_ : ky_V _ _ _ 67 _ [.int ((md_takesOf_r c p2)), .int ((c 11 (Int32.toNatClampNeg x4))), .int x4, .ref ((a + 11))] _ _)⟩)
        refine cl_X12_260 rfl (i := 39) rfl (Nat.le_of_ble_eq_true rfl) (?_ : ky_V _ _ _ 70 _ _ _ _)
        refine v_topi (fun x7 ex7 => ?_)
        replace e := ky_letE ex7 e
        refine v_iast (i := 40) rfl (md_11 hm) (ky_inb z5) ?_
        refine bk_st (B := md_B G a) hm fr 11 (Int32.toNatClampNeg x4) x7 (by decide) (fun h8 hmh8 frh8 => ?_)
        obtain ⟨q9, eq9⟩ : ∃ z, z = (bk_w c 11 (Int32.toNatClampNeg x4) x7) := ⟨_, rfl⟩
        rw [← eq9] at hmh8
        replace e := ky_letE eq9 e
        refine (?_ : ky_V _ _ _ 71 _ _ _ _)
        obtain ⟨x10, ex10⟩ : ∃ z : Int32, z = p2 + 1 := ⟨_, rfl⟩
        replace e := ky_letE ex10 e
        refine v_iinc (v := x10) (j := 2) (L' := [(0, .ref a), (1, .int p1), (2, .int x10), (3, .int x4)]) [1, 2, 0, 3] (i := 41) rfl rfl (by rw [ex10]; rfl) (Nat.le_of_ble_eq_true rfl) rfl (?_ : ky_V _ _ _ 74 _ _ _ _)
        refine v_goto (tgt := 26) (i := 42) rfl (by decide) (?_ : ky_V _ _ _ 26 _ _ _ _)
        refine ky_loc (L' := [(0, .ref a), (1, .int p1), (2, .int x10)]) (by simp) ?_
        exact ih h8 q9 p1 x10 hmh8 frh8 e

def md_laysRound_L97 (N : Nat) (k : (Nat → Nat → Int32) → Int32 → Int32 → Int32 → Int32 → Option ((Nat → Nat → Int32) × Int32)) : Nat → (Nat → Nat → Int32) → Int32 → Int32 → Int32 → Int32 → Option ((Nat → Nat → Int32) × Int32)
  | 0, _, _, _, _, _ => none
  | n + 1, c, p1, p2, p3, p4 => (if (12 : Int32) ≤ p4 then (k c p1 p2 p3 p4) else (if ky_inB p3 1200 = true then (if (1000000 : Int32) ≤ (c 11 (Int32.toNatClampNeg p3)) then (k c p1 p2 p3 p4) else (if (md_isOutAt p3) = 0 then (if ky_inB ((12 * p3) + p4) 14400 = true then (ky_let (c 10 (Int32.toNatClampNeg ((12 * p3) + p4))) (fun x6 => (if ky_inB ((17 + (4 * (md_moveOf p4))) + 3) 2247 = true then (ky_let ((c 11 (Int32.toNatClampNeg p3)) + (md_takesOf_r c p4)) (fun x8 => (if p2 = 0 then (if ky_inB x6 1200 = true then (if (c 11 (Int32.toNatClampNeg x6)) ≤ x8 then (ky_let (mt_min (c 11 (Int32.toNatClampNeg x6)) x8) (fun x17 => (ky_let (bk_w c 11 (Int32.toNatClampNeg x6) x17) (fun q19 => (ky_let (p4 + 1) (fun x20 => (md_laysRound_L97 N k n q19 p1 0 p3 x20))))))) else (ky_let (mt_min (c 11 (Int32.toNatClampNeg x6)) x8) (fun x21 => (ky_let (bk_w c 11 (Int32.toNatClampNeg x6) x21) (fun q23 => (ky_let (p4 + 1) (fun x24 => (md_laysRound_L97 N k n q23 p1 1 p3 x24)))))))) else none) else (if ky_inB x6 1200 = true then (ky_let (mt_min (c 11 (Int32.toNatClampNeg x6)) x8) (fun x11 => (ky_let (bk_w c 11 (Int32.toNatClampNeg x6) x11) (fun q13 => (ky_let (p4 + 1) (fun x14 => (md_laysRound_L97 N k n q13 p1 1 p3 x14))))))) else none)))) else none))) else none) else (k c p1 p2 p3 p4))) else none))
set_option maxRecDepth 20000 in
set_option maxHeartbeats 4000000 in
theorem lv_X12_laysRound_97 {G : ky_GW} {d : Nat} {h0 : ky_HP} {Q : ky_RS → ky_HP → Prop} {a : Nat} {c9 : (Nat → Nat → Int32)} {r9 : Int32} (N : Nat) (k : (Nat → Nat → Int32) → Int32 → Int32 → Int32 → Int32 → Option ((Nat → Nat → Int32) × Int32)) (hr : ∀ h1, md_at G h1 a c9 → bk_fr a 13 h0 h1 → Q (.inl none) h1)
    (hk : ∀ (h : ky_HP) (c : (Nat → Nat → Int32)) (p1 : Int32) (p2 : Int32) (p3 : Int32) (p4 : Int32), md_at G h a c → bk_fr a 13 h0 h → k c p1 p2 p3 p4 = some (c9, r9) → ky_V G (d + 2) M_X12_laysRound 199 [(0, .ref a), (1, .int p1), (2, .int p2), (3, .int p3), (4, .int p4)] [] h Q) :
    ∀ (n : Nat) (h : ky_HP) (c : (Nat → Nat → Int32)) (p1 : Int32) (p2 : Int32) (p3 : Int32) (p4 : Int32), md_at G h a c → bk_fr a 13 h0 h → md_laysRound_L97 N k n c p1 p2 p3 p4 = some (c9, r9) → ky_V G (d + 2) M_X12_laysRound 97 [(0, .ref a), (1, .int p1), (2, .int p2), (3, .int p3), (4, .int p4)] [] h Q := by
  intro n
  induction n with
  | zero => intro h c p1 p2 p3 p4 hm fr e; cases e
  | succ n ih =>
    intro h c p1 p2 p3 p4 hm fr e
    rw [md_laysRound_L97] at e
    refine v_iload (i := 56) (j := 4) rfl rfl (?_ : ky_V _ _ _ 99 _ _ _ _)
    refine v_bipush (v := 12) (i := 57) rfl (by decide) (?_ : ky_V _ _ _ 101 _ _ _ _)
    refine v_icmp_ge (tgt := 199) (i := 58) rfl (by decide) (fun c1 => ?_) (fun c1 => ?_)
    · replace e := ky_ifT c1 e
      exact hk h c p1 p2 p3 p4 hm fr e
    · replace e := ky_ifF c1 e
      refine v_aload_n (i := 59) (j := 0) rfl rfl (?_ : ky_V _ _ _ 105 _ _ _ _)
      refine gf_X12_48 rfl (i := 60) rfl (md_0 hm) rfl (?_ : ky_V _ _ _ 108 _ _ _ _)
      refine v_iload_n (i := 61) (j := 3) rfl rfl (?_ : ky_V _ _ _ 109 _ _ _ _)
      obtain ⟨z2, e⟩ := ky_chkE e
      refine v_iald (i := 62) rfl (md_11 hm) (ky_inb z2) (?_ : ky_V _ _ _ 110 _ (.int (c 11 (Int32.toNatClampNeg p3)) :: _) _ _)
      refine v_ldcw (v := 1000000) (i := 63) rfl (ky_t8 (i := 116) rfl rfl) (?_ : ky_V _ _ _ 113 _ _ _ _)
      refine v_icmp_ge (tgt := 199) (i := 64) rfl (by decide) (fun c3 => ?_) (fun c3 => ?_)
      · replace e := ky_ifT c3 e
        exact hk h c p1 p2 p3 p4 hm fr e
      · replace e := ky_ifF c3 e
        refine v_iload_n (i := 65) (j := 3) rfl rfl (?_ : ky_V _ _ _ 117 _ _ _ _)
        refine cl_X12_311 (As := [.int p3]) rfl (i := 66) rfl rfl rfl (Nat.le_of_ble_eq_true rfl) (k_X12_isOutAt p3 ⟨_, rfl, (?_ : ky_V _ _ _ 120 _ [.int ((md_isOutAt p3))] _ _)⟩)
        refine v_if_ne (tgt := 199) (i := 67) rfl (by decide) (fun c4 => ?_) (fun c4 => ?_)
        · replace e := ky_ifF c4 e
          exact hk h c p1 p2 p3 p4 hm fr e
        · replace e := ky_ifT c4 e
          refine v_aload_n (i := 68) (j := 0) rfl rfl (?_ : ky_V _ _ _ 124 _ _ _ _)
          refine gf_X12_45 rfl (i := 69) rfl (md_0 hm) rfl (?_ : ky_V _ _ _ 127 _ _ _ _)
          refine v_bipush (v := 12) (i := 70) rfl (by decide) (?_ : ky_V _ _ _ 129 _ _ _ _)
          refine v_iload_n (i := 71) (j := 3) rfl rfl (?_ : ky_V _ _ _ 130 _ _ _ _)
          refine v_imul (i := 72) rfl (?_ : ky_V _ _ _ 131 _ _ _ _)
          refine v_iload (i := 73) (j := 4) rfl rfl (?_ : ky_V _ _ _ 133 _ _ _ _)
          refine v_iadd (i := 74) rfl (?_ : ky_V _ _ _ 134 _ _ _ _)
          obtain ⟨z5, e⟩ := ky_chkE e
          refine v_iald (i := 75) rfl (md_10 hm) (ky_inb z5) (?_ : ky_V _ _ _ 135 _ (.int (c 10 (Int32.toNatClampNeg ((12 * p3) + p4))) :: _) _ _)
          refine v_topi (fun x6 ex6 => ?_)
          replace e := ky_letE ex6 e
          refine v_istore (L' := [(0, .ref a), (1, .int p1), (2, .int p2), (3, .int p3), (4, .int p4), (5, .int x6)]) [1, 2, 3, 4, 5, 0] (i := 76) rfl (Nat.le_of_ble_eq_true rfl) rfl (?_ : ky_V _ _ _ 137 _ _ _ _)
          refine v_aload_n (i := 77) (j := 0) rfl rfl (?_ : ky_V _ _ _ 138 _ _ _ _)
          refine gf_X12_48 rfl (i := 78) rfl (md_0 hm) rfl (?_ : ky_V _ _ _ 141 _ _ _ _)
          refine v_iload_n (i := 79) (j := 3) rfl rfl (?_ : ky_V _ _ _ 142 _ _ _ _)
          refine v_iald (i := 80) rfl (md_11 hm) (ky_inb z2) (?_ : ky_V _ _ _ 143 _ (.int (c 11 (Int32.toNatClampNeg p3)) :: _) _ _)
          refine v_aload_n (i := 81) (j := 0) rfl rfl (?_ : ky_V _ _ _ 144 _ _ _ _)
          refine v_iload (i := 82) (j := 4) rfl rfl (?_ : ky_V _ _ _ 146 _ _ _ _)
          obtain ⟨z7, e⟩ := ky_chkE e
          refine cl_X12_308 (As := [.int p4]) rfl (i := 83) rfl (md_0 hm) rfl rfl (Nat.le_of_ble_eq_true rfl) (k_X12_takesOf p4 hm (ky_inb z7) ⟨_, rfl, (?_ : ky_V _ _ _ 149 _ [.int ((md_takesOf_r c p4)), .int ((c 11 (Int32.toNatClampNeg p3)))] _ _)⟩)
          refine v_iadd (i := 84) rfl (?_ : ky_V _ _ _ 150 _ _ _ _)
          refine v_topi (fun x8 ex8 => ?_)
          replace e := ky_letE ex8 e
          refine v_istore (L' := [(0, .ref a), (1, .int p1), (2, .int p2), (3, .int p3), (4, .int p4), (5, .int x6), (6, .int x8)]) [1, 2, 3, 4, 5, 6, 0] (i := 85) rfl (Nat.le_of_ble_eq_true rfl) rfl (?_ : ky_V _ _ _ 152 _ _ _ _)
          refine v_iload_n (i := 86) (j := 2) rfl rfl (?_ : ky_V _ _ _ 153 _ _ _ _)
          refine v_if_ne (tgt := 168) (i := 87) rfl (by decide) (fun c9 => ?_) (fun c9 => ?_)
          · replace e := ky_ifF c9 e
            refine v_iconst (v := 1) (i := 94) rfl (by decide) (?_ : ky_V _ _ _ 169 _ _ _ _)
            refine v_goto (tgt := 173) (i := 95) rfl (by decide) (?_ : ky_V _ _ _ 173 _ _ _ _)
            refine v_istore_n (L' := [(0, .ref a), (1, .int p1), (2, .int 1), (3, .int p3), (4, .int p4), (5, .int x6), (6, .int x8)]) [1, 2, 0, 3, 4, 5, 6] (i := 97) rfl (Nat.le_of_ble_eq_true rfl) rfl (?_ : ky_V _ _ _ 174 _ _ _ _)
            refine v_aload_n (i := 98) (j := 0) rfl rfl (?_ : ky_V _ _ _ 175 _ _ _ _)
            refine gf_X12_48 rfl (i := 99) rfl (md_0 hm) rfl (?_ : ky_V _ _ _ 178 _ _ _ _)
            refine v_iload (i := 100) (j := 5) rfl rfl (?_ : ky_V _ _ _ 180 _ _ _ _)
            refine v_aload_n (i := 101) (j := 0) rfl rfl (?_ : ky_V _ _ _ 181 _ _ _ _)
            refine gf_X12_48 rfl (i := 102) rfl (md_0 hm) rfl (?_ : ky_V _ _ _ 184 _ _ _ _)
            refine v_iload (i := 103) (j := 5) rfl rfl (?_ : ky_V _ _ _ 186 _ _ _ _)
            obtain ⟨z10, e⟩ := ky_chkE e
            refine v_iald (i := 104) rfl (md_11 hm) (ky_inb z10) (?_ : ky_V _ _ _ 187 _ (.int (c 11 (Int32.toNatClampNeg x6)) :: _) _ _)
            refine v_iload (i := 105) (j := 6) rfl rfl (?_ : ky_V _ _ _ 189 _ _ _ _)
            refine cl_X12_260 rfl (i := 106) rfl (Nat.le_of_ble_eq_true rfl) (?_ : ky_V _ _ _ 192 _ _ _ _)
            refine v_topi (fun x11 ex11 => ?_)
            replace e := ky_letE ex11 e
            refine v_iast (i := 107) rfl (md_11 hm) (ky_inb z10) ?_
            refine bk_st (B := md_B G a) hm fr 11 (Int32.toNatClampNeg x6) x11 (by decide) (fun h12 hmh12 frh12 => ?_)
            obtain ⟨q13, eq13⟩ : ∃ z, z = (bk_w c 11 (Int32.toNatClampNeg x6) x11) := ⟨_, rfl⟩
            rw [← eq13] at hmh12
            replace e := ky_letE eq13 e
            refine (?_ : ky_V _ _ _ 193 _ _ _ _)
            obtain ⟨x14, ex14⟩ : ∃ z : Int32, z = p4 + 1 := ⟨_, rfl⟩
            replace e := ky_letE ex14 e
            refine v_iinc (v := x14) (j := 4) (L' := [(0, .ref a), (1, .int p1), (2, .int 1), (3, .int p3), (4, .int x14), (5, .int x6), (6, .int x8)]) [1, 2, 3, 4, 0, 5, 6] (i := 108) rfl rfl (by rw [ex14]; rfl) (Nat.le_of_ble_eq_true rfl) rfl (?_ : ky_V _ _ _ 196 _ _ _ _)
            refine v_goto (tgt := 97) (i := 109) rfl (by decide) (?_ : ky_V _ _ _ 97 _ _ _ _)
            refine ky_loc (L' := [(0, .ref a), (1, .int p1), (2, .int 1), (3, .int p3), (4, .int x14)]) (by simp) ?_
            exact ih h12 q13 p1 1 p3 x14 hmh12 frh12 e
          · replace e := ky_ifT c9 e
            refine v_iload (i := 88) (j := 6) rfl rfl (?_ : ky_V _ _ _ 158 _ _ _ _)
            refine v_aload_n (i := 89) (j := 0) rfl rfl (?_ : ky_V _ _ _ 159 _ _ _ _)
            refine gf_X12_48 rfl (i := 90) rfl (md_0 hm) rfl (?_ : ky_V _ _ _ 162 _ _ _ _)
            refine v_iload (i := 91) (j := 5) rfl rfl (?_ : ky_V _ _ _ 164 _ _ _ _)
            obtain ⟨z15, e⟩ := ky_chkE e
            refine v_iald (i := 92) rfl (md_11 hm) (ky_inb z15) (?_ : ky_V _ _ _ 165 _ (.int (c 11 (Int32.toNatClampNeg x6)) :: _) _ _)
            refine v_icmp_ge (tgt := 172) (i := 93) rfl (by decide) (fun c16 => ?_) (fun c16 => ?_)
            · replace e := ky_ifT c16 e
              refine v_iconst (v := 0) (i := 96) rfl (by decide) (?_ : ky_V _ _ _ 173 _ _ _ _)
              refine v_istore_n (L' := [(0, .ref a), (1, .int p1), (2, .int 0), (3, .int p3), (4, .int p4), (5, .int x6), (6, .int x8)]) [1, 2, 0, 3, 4, 5, 6] (i := 97) rfl (Nat.le_of_ble_eq_true rfl) rfl (?_ : ky_V _ _ _ 174 _ _ _ _)
              refine v_aload_n (i := 98) (j := 0) rfl rfl (?_ : ky_V _ _ _ 175 _ _ _ _)
              refine gf_X12_48 rfl (i := 99) rfl (md_0 hm) rfl (?_ : ky_V _ _ _ 178 _ _ _ _)
              refine v_iload (i := 100) (j := 5) rfl rfl (?_ : ky_V _ _ _ 180 _ _ _ _)
              refine v_aload_n (i := 101) (j := 0) rfl rfl (?_ : ky_V _ _ _ 181 _ _ _ _)
              refine gf_X12_48 rfl (i := 102) rfl (md_0 hm) rfl (?_ : ky_V _ _ _ 184 _ _ _ _)
              refine v_iload (i := 103) (j := 5) rfl rfl (?_ : ky_V _ _ _ 186 _ _ _ _)
              refine v_iald (i := 104) rfl (md_11 hm) (ky_inb z15) (?_ : ky_V _ _ _ 187 _ (.int (c 11 (Int32.toNatClampNeg x6)) :: _) _ _)
              refine v_iload (i := 105) (j := 6) rfl rfl (?_ : ky_V _ _ _ 189 _ _ _ _)
              refine cl_X12_260 rfl (i := 106) rfl (Nat.le_of_ble_eq_true rfl) (?_ : ky_V _ _ _ 192 _ _ _ _)
              refine v_topi (fun x17 ex17 => ?_)
              replace e := ky_letE ex17 e
              refine v_iast (i := 107) rfl (md_11 hm) (ky_inb z15) ?_
              refine bk_st (B := md_B G a) hm fr 11 (Int32.toNatClampNeg x6) x17 (by decide) (fun h18 hmh18 frh18 => ?_)
              obtain ⟨q19, eq19⟩ : ∃ z, z = (bk_w c 11 (Int32.toNatClampNeg x6) x17) := ⟨_, rfl⟩
              rw [← eq19] at hmh18
              replace e := ky_letE eq19 e
              refine (?_ : ky_V _ _ _ 193 _ _ _ _)
              obtain ⟨x20, ex20⟩ : ∃ z : Int32, z = p4 + 1 := ⟨_, rfl⟩
              replace e := ky_letE ex20 e
              refine v_iinc (v := x20) (j := 4) (L' := [(0, .ref a), (1, .int p1), (2, .int 0), (3, .int p3), (4, .int x20), (5, .int x6), (6, .int x8)]) [1, 2, 3, 4, 0, 5, 6] (i := 108) rfl rfl (by rw [ex20]; rfl) (Nat.le_of_ble_eq_true rfl) rfl (?_ : ky_V _ _ _ 196 _ _ _ _)
              refine v_goto (tgt := 97) (i := 109) rfl (by decide) (?_ : ky_V _ _ _ 97 _ _ _ _)
              refine ky_loc (L' := [(0, .ref a), (1, .int p1), (2, .int 0), (3, .int p3), (4, .int x20)]) (by simp) ?_
              exact ih h18 q19 p1 0 p3 x20 hmh18 frh18 e
            · replace e := ky_ifF c16 e
              refine v_iconst (v := 1) (i := 94) rfl (by decide) (?_ : ky_V _ _ _ 169 _ _ _ _)
              refine v_goto (tgt := 173) (i := 95) rfl (by decide) (?_ : ky_V _ _ _ 173 _ _ _ _)
              refine v_istore_n (L' := [(0, .ref a), (1, .int p1), (2, .int 1), (3, .int p3), (4, .int p4), (5, .int x6), (6, .int x8)]) [1, 2, 0, 3, 4, 5, 6] (i := 97) rfl (Nat.le_of_ble_eq_true rfl) rfl (?_ : ky_V _ _ _ 174 _ _ _ _)
              refine v_aload_n (i := 98) (j := 0) rfl rfl (?_ : ky_V _ _ _ 175 _ _ _ _)
              refine gf_X12_48 rfl (i := 99) rfl (md_0 hm) rfl (?_ : ky_V _ _ _ 178 _ _ _ _)
              refine v_iload (i := 100) (j := 5) rfl rfl (?_ : ky_V _ _ _ 180 _ _ _ _)
              refine v_aload_n (i := 101) (j := 0) rfl rfl (?_ : ky_V _ _ _ 181 _ _ _ _)
              refine gf_X12_48 rfl (i := 102) rfl (md_0 hm) rfl (?_ : ky_V _ _ _ 184 _ _ _ _)
              refine v_iload (i := 103) (j := 5) rfl rfl (?_ : ky_V _ _ _ 186 _ _ _ _)
              refine v_iald (i := 104) rfl (md_11 hm) (ky_inb z15) (?_ : ky_V _ _ _ 187 _ (.int (c 11 (Int32.toNatClampNeg x6)) :: _) _ _)
              refine v_iload (i := 105) (j := 6) rfl rfl (?_ : ky_V _ _ _ 189 _ _ _ _)
              refine cl_X12_260 rfl (i := 106) rfl (Nat.le_of_ble_eq_true rfl) (?_ : ky_V _ _ _ 192 _ _ _ _)
              refine v_topi (fun x21 ex21 => ?_)
              replace e := ky_letE ex21 e
              refine v_iast (i := 107) rfl (md_11 hm) (ky_inb z15) ?_
              refine bk_st (B := md_B G a) hm fr 11 (Int32.toNatClampNeg x6) x21 (by decide) (fun h22 hmh22 frh22 => ?_)
              obtain ⟨q23, eq23⟩ : ∃ z, z = (bk_w c 11 (Int32.toNatClampNeg x6) x21) := ⟨_, rfl⟩
              rw [← eq23] at hmh22
              replace e := ky_letE eq23 e
              refine (?_ : ky_V _ _ _ 193 _ _ _ _)
              obtain ⟨x24, ex24⟩ : ∃ z : Int32, z = p4 + 1 := ⟨_, rfl⟩
              replace e := ky_letE ex24 e
              refine v_iinc (v := x24) (j := 4) (L' := [(0, .ref a), (1, .int p1), (2, .int 1), (3, .int p3), (4, .int x24), (5, .int x6), (6, .int x8)]) [1, 2, 3, 4, 0, 5, 6] (i := 108) rfl rfl (by rw [ex24]; rfl) (Nat.le_of_ble_eq_true rfl) rfl (?_ : ky_V _ _ _ 196 _ _ _ _)
              refine v_goto (tgt := 97) (i := 109) rfl (by decide) (?_ : ky_V _ _ _ 97 _ _ _ _)
              refine ky_loc (L' := [(0, .ref a), (1, .int p1), (2, .int 1), (3, .int p3), (4, .int x24)]) (by simp) ?_
              exact ih h22 q23 p1 1 p3 x24 hmh22 frh22 e

def md_laysRound_L87 (N : Nat) (k : (Nat → Nat → Int32) → Int32 → Int32 → Int32 → Option ((Nat → Nat → Int32) × Int32)) : Nat → (Nat → Nat → Int32) → Int32 → Int32 → Int32 → Option ((Nat → Nat → Int32) × Int32)
  | 0, _, _, _, _ => none
  | n + 1, c, p1, p2, p3 => (if (1200 : Int32) ≤ p3 then (k c p1 p2 p3) else (md_laysRound_L97 N (fun q3 x4 x5 x6 x7 => (ky_let (x6 + 1) (fun x8 => (md_laysRound_L87 N k n q3 x4 x5 x8)))) N c p1 p2 p3 0))
set_option maxRecDepth 20000 in
set_option maxHeartbeats 4000000 in
theorem lv_X12_laysRound_87 {G : ky_GW} {d : Nat} {h0 : ky_HP} {Q : ky_RS → ky_HP → Prop} {a : Nat} {c9 : (Nat → Nat → Int32)} {r9 : Int32} (N : Nat) (k : (Nat → Nat → Int32) → Int32 → Int32 → Int32 → Option ((Nat → Nat → Int32) × Int32)) (hr : ∀ h1, md_at G h1 a c9 → bk_fr a 13 h0 h1 → Q (.inl none) h1)
    (hk : ∀ (h : ky_HP) (c : (Nat → Nat → Int32)) (p1 : Int32) (p2 : Int32) (p3 : Int32), md_at G h a c → bk_fr a 13 h0 h → k c p1 p2 p3 = some (c9, r9) → ky_V G (d + 2) M_X12_laysRound 205 [(0, .ref a), (1, .int p1), (2, .int p2), (3, .int p3)] [] h Q) :
    ∀ (n : Nat) (h : ky_HP) (c : (Nat → Nat → Int32)) (p1 : Int32) (p2 : Int32) (p3 : Int32), md_at G h a c → bk_fr a 13 h0 h → md_laysRound_L87 N k n c p1 p2 p3 = some (c9, r9) → ky_V G (d + 2) M_X12_laysRound 87 [(0, .ref a), (1, .int p1), (2, .int p2), (3, .int p3)] [] h Q := by
  intro n
  induction n with
  | zero => intro h c p1 p2 p3 hm fr e; cases e
  | succ n ih =>
    intro h c p1 p2 p3 hm fr e
    rw [md_laysRound_L87] at e
    refine v_iload_n (i := 51) (j := 3) rfl rfl (?_ : ky_V _ _ _ 88 _ _ _ _)
    refine v_sipush (v := 1200) (i := 52) rfl (by decide) (?_ : ky_V _ _ _ 91 _ _ _ _)
    refine v_icmp_ge (tgt := 205) (i := 53) rfl (by decide) (fun c1 => ?_) (fun c1 => ?_)
    · replace e := ky_ifT c1 e
      exact hk h c p1 p2 p3 hm fr e
    · replace e := ky_ifF c1 e
      refine v_iconst (v := 0) (i := 54) rfl (by decide) (?_ : ky_V _ _ _ 95 _ _ _ _)
      refine v_istore (L' := [(0, .ref a), (1, .int p1), (2, .int p2), (3, .int p3), (4, .int 0)]) [1, 2, 3, 4, 0] (i := 55) rfl (Nat.le_of_ble_eq_true rfl) rfl (?_ : ky_V _ _ _ 97 _ _ _ _)
      refine lv_X12_laysRound_97 N _ hr (fun h2 q3 x4 x5 x6 x7 hmh2 frh2 e => ?_) N h c p1 p2 p3 0 hm fr e
      obtain ⟨x8, ex8⟩ : ∃ z : Int32, z = x6 + 1 := ⟨_, rfl⟩
      replace e := ky_letE ex8 e
      refine v_iinc (v := x8) (j := 3) (L' := [(0, .ref a), (1, .int x4), (2, .int x5), (3, .int x8), (4, .int x7)]) [1, 2, 3, 0, 4] (i := 110) rfl rfl (by rw [ex8]; rfl) (Nat.le_of_ble_eq_true rfl) rfl (?_ : ky_V _ _ _ 202 _ _ _ _)
      refine v_goto (tgt := 87) (i := 111) rfl (by decide) (?_ : ky_V _ _ _ 87 _ _ _ _)
      refine ky_loc (L' := [(0, .ref a), (1, .int x4), (2, .int x5), (3, .int x8)]) (by simp) ?_
      exact ih h2 q3 x4 x5 x8 hmh2 frh2 e

def md_laysRound_L79 (N : Nat) (k : (Nat → Nat → Int32) → Int32 → Int32 → Option ((Nat → Nat → Int32) × Int32)) : Nat → (Nat → Nat → Int32) → Int32 → Int32 → Option ((Nat → Nat → Int32) × Int32)
  | 0, _, _, _ => none
  | n + 1, c, p1, p2 => (if p2 = 0 then (k c p1 p2) else (md_laysRound_L87 N (fun q3 x4 x5 x6 => (md_laysRound_L79 N k n q3 x4 x5)) N c p1 0 0))
set_option maxRecDepth 20000 in
set_option maxHeartbeats 4000000 in
theorem lv_X12_laysRound_79 {G : ky_GW} {d : Nat} {h0 : ky_HP} {Q : ky_RS → ky_HP → Prop} {a : Nat} {c9 : (Nat → Nat → Int32)} {r9 : Int32} (N : Nat) (k : (Nat → Nat → Int32) → Int32 → Int32 → Option ((Nat → Nat → Int32) × Int32)) (hr : ∀ h1, md_at G h1 a c9 → bk_fr a 13 h0 h1 → Q (.inl none) h1)
    (hk : ∀ (h : ky_HP) (c : (Nat → Nat → Int32)) (p1 : Int32) (p2 : Int32), md_at G h a c → bk_fr a 13 h0 h → k c p1 p2 = some (c9, r9) → ky_V G (d + 2) M_X12_laysRound 208 [(0, .ref a), (1, .int p1), (2, .int p2)] [] h Q) :
    ∀ (n : Nat) (h : ky_HP) (c : (Nat → Nat → Int32)) (p1 : Int32) (p2 : Int32), md_at G h a c → bk_fr a 13 h0 h → md_laysRound_L79 N k n c p1 p2 = some (c9, r9) → ky_V G (d + 2) M_X12_laysRound 79 [(0, .ref a), (1, .int p1), (2, .int p2)] [] h Q := by
  intro n
  induction n with
  | zero => intro h c p1 p2 hm fr e; cases e
  | succ n ih =>
    intro h c p1 p2 hm fr e
    rw [md_laysRound_L79] at e
    refine v_iload_n (i := 45) (j := 2) rfl rfl (?_ : ky_V _ _ _ 80 _ _ _ _)
    refine v_if_eq (tgt := 208) (i := 46) rfl (by decide) (fun c1 => ?_) (fun c1 => ?_)
    · replace e := ky_ifT c1 e
      exact hk h c p1 p2 hm fr e
    · replace e := ky_ifF c1 e
      refine v_iconst (v := 0) (i := 47) rfl (by decide) (?_ : ky_V _ _ _ 84 _ _ _ _)
      refine v_istore_n (L' := [(0, .ref a), (1, .int p1), (2, .int 0)]) [1, 2, 0] (i := 48) rfl (Nat.le_of_ble_eq_true rfl) rfl (?_ : ky_V _ _ _ 85 _ _ _ _)
      refine v_iconst (v := 0) (i := 49) rfl (by decide) (?_ : ky_V _ _ _ 86 _ _ _ _)
      refine v_istore_n (L' := [(0, .ref a), (1, .int p1), (2, .int 0), (3, .int 0)]) [1, 2, 3, 0] (i := 50) rfl (Nat.le_of_ble_eq_true rfl) rfl (?_ : ky_V _ _ _ 87 _ _ _ _)
      refine lv_X12_laysRound_87 N _ hr (fun h2 q3 x4 x5 x6 hmh2 frh2 e => ?_) N h c p1 0 0 hm fr e
      refine v_goto (tgt := 79) (i := 112) rfl (by decide) (?_ : ky_V _ _ _ 79 _ _ _ _)
      refine ky_loc (L' := [(0, .ref a), (1, .int x4), (2, .int x5)]) (by simp) ?_
      exact ih h2 q3 x4 x5 hmh2 frh2 e

def md_laysRound (N : Nat) (c : (Nat → Nat → Int32)) (p1 : Int32) : Option ((Nat → Nat → Int32) × Int32) := (md_laysRound_L2 N (fun q2 x3 x4 => (md_laysRound_L26 N (fun q6 x7 x8 => (md_laysRound_L79 N (fun q10 x11 x12 => (some (q10, 0))) N q6 x7 1)) N q2 x3 0)) N c p1 0)
set_option maxRecDepth 20000 in
set_option maxHeartbeats 4000000 in
theorem k_X12_laysRound {G : ky_GW} {d : Nat} {h : ky_HP} {Q : ky_RS → ky_HP → Prop} {a : Nat} {c c9 : (Nat → Nat → Int32)} {r9 : Int32} {p1 : Int32} (N : Nat) (hm : md_at G h a c) (e : md_laysRound N c p1 = some (c9, r9)) (hr : ∀ h1, md_at G h1 a c9 → bk_fr a 13 h h1 → Q (.inl none) h1) : ky_Call G (d + 2) M_X12_laysRound [.ref a, .int p1] h Q := by
  refine ky_ofV (by decide +kernel) rfl ok_X12_laysRound (Nat.le_of_ble_eq_true rfl) ?_
  have fr : bk_fr a 13 h h := bk_fr.rf
  unfold md_laysRound at e
  refine (?_ : ky_V _ _ _ 0 [(0, .ref a), (1, .int p1)] [] _ _)
  refine v_iconst (v := 0) (i := 0) rfl (by decide) (?_ : ky_V _ _ _ 1 _ _ _ _)
  refine v_istore_n (L' := [(0, .ref a), (1, .int p1), (2, .int 0)]) [1, 2, 0] (i := 1) rfl (Nat.le_of_ble_eq_true rfl) rfl (?_ : ky_V _ _ _ 2 _ _ _ _)
  refine lv_X12_laysRound_2 N _ hr (fun h1 q2 x3 x4 hmh1 frh1 e => ?_) N h c p1 0 hm fr e
  refine v_iconst (v := 0) (i := 12) rfl (by decide) (?_ : ky_V _ _ _ 25 _ _ _ _)
  refine v_istore_n (L' := [(0, .ref a), (1, .int x3), (2, .int 0)]) [1, 2, 0] (i := 13) rfl (Nat.le_of_ble_eq_true rfl) rfl (?_ : ky_V _ _ _ 26 _ _ _ _)
  refine lv_X12_laysRound_26 N _ hr (fun h5 q6 x7 x8 hmh5 frh5 e => ?_) N h1 q2 x3 0 hmh1 frh1 e
  refine v_iconst (v := 1) (i := 43) rfl (by decide) (?_ : ky_V _ _ _ 78 _ _ _ _)
  refine v_istore_n (L' := [(0, .ref a), (1, .int x7), (2, .int 1)]) [1, 2, 0] (i := 44) rfl (Nat.le_of_ble_eq_true rfl) rfl (?_ : ky_V _ _ _ 79 _ _ _ _)
  refine lv_X12_laysRound_79 N _ hr (fun h9 q10 x11 x12 hmh9 frh9 e => ?_) N h5 q6 x7 1 hmh5 frh5 e
  refine v_vret (i := 113) rfl rfl ?_
  obtain ⟨rfl, rfl⟩ := ky_leaf e
  exact hr _ hmh9 frh9

def md_force_L36 (N : Nat) (k : (Nat → Nat → Int32) → Int32 → Int32 → Int32 → Option ((Nat → Nat → Int32) × Int32)) : Nat → (Nat → Nat → Int32) → Int32 → Int32 → Int32 → Option ((Nat → Nat → Int32) × Int32)
  | 0, _, _, _, _ => none
  | n + 1, c, p1, p2, p3 => (if (20 : Int32) < p3 then (k c p1 p2 p3) else (if ((¬ ((mt_max (c 9 0) (c 9 1)) = 0)) → (¬ ((md_pulledBy_r c p3) = 0)) → ¬ (md_pulledBy_r c p3) = 0) then (if p1 < (md_pullsBy_r c p3 p1) then (ky_let (p3 + 1) (fun x4 => (md_force_L36 N k n c p1 p2 x4))) else (if p2 = 0 then (some (c, p3)) else (some (c, ((md_pullsBy_r c p3 p1) * (mt_max 0 (p3 - 8))))))) else none))
set_option maxRecDepth 20000 in
set_option maxHeartbeats 4000000 in
theorem lv_X12_force_36 {G : ky_GW} {d : Nat} {h0 : ky_HP} {Q : ky_RS → ky_HP → Prop} {a : Nat} {c9 : (Nat → Nat → Int32)} {r9 : Int32} (N : Nat) (k : (Nat → Nat → Int32) → Int32 → Int32 → Int32 → Option ((Nat → Nat → Int32) × Int32)) (hr : ∀ h1, md_at G h1 a c9 → bk_fr a 13 h0 h1 → Q (.inl (some (.int r9))) h1)
    (hk : ∀ (h : ky_HP) (c : (Nat → Nat → Int32)) (p1 : Int32) (p2 : Int32) (p3 : Int32), md_at G h a c → bk_fr a 13 h0 h → k c p1 p2 p3 = some (c9, r9) → ky_V G (d + 3) M_X12_force 82 [(0, .ref a), (1, .int p1), (2, .int p2), (3, .int p3)] [] h Q) :
    ∀ (n : Nat) (h : ky_HP) (c : (Nat → Nat → Int32)) (p1 : Int32) (p2 : Int32) (p3 : Int32), md_at G h a c → bk_fr a 13 h0 h → md_force_L36 N k n c p1 p2 p3 = some (c9, r9) → ky_V G (d + 3) M_X12_force 36 [(0, .ref a), (1, .int p1), (2, .int p2), (3, .int p3)] [] h Q := by
  intro n
  induction n with
  | zero => intro h c p1 p2 p3 hm fr e; cases e
  | succ n ih =>
    intro h c p1 p2 p3 hm fr e
    rw [md_force_L36] at e
    refine v_iload_n (i := 21) (j := 3) rfl rfl (?_ : ky_V _ _ _ 37 _ _ _ _)
    refine v_bipush (v := 20) (i := 22) rfl (by decide) (?_ : ky_V _ _ _ 39 _ _ _ _)
    refine v_icmp_gt (tgt := 82) (i := 23) rfl (by decide) (fun c1 => ?_) (fun c1 => ?_)
    · replace e := ky_ifT c1 e
      exact hk h c p1 p2 p3 hm fr e
    · replace e := ky_ifF c1 e
      refine v_aload_n (i := 24) (j := 0) rfl rfl (?_ : ky_V _ _ _ 43 _ _ _ _)
      refine v_iload_n (i := 25) (j := 3) rfl rfl (?_ : ky_V _ _ _ 44 _ _ _ _)
      refine v_iload_n (i := 26) (j := 1) rfl rfl (?_ : ky_V _ _ _ 45 _ _ _ _)
      obtain ⟨z2, e⟩ := ky_chkE e
      refine cl_X12_345 (As := [.int p3, .int p1]) rfl (i := 27) rfl (md_0 hm) rfl rfl (Nat.le_of_ble_eq_true rfl) (k_X12_pullsBy p3 p1 hm z2 ⟨_, rfl, (?_ : ky_V _ _ _ 48 _ [.int ((md_pullsBy_r c p3 p1))] _ _)⟩)
      refine v_iload_n (i := 28) (j := 1) rfl rfl (?_ : ky_V _ _ _ 49 _ _ _ _)
      refine v_icmp_gt (tgt := 76) (i := 29) rfl (by decide) (fun c3 => ?_) (fun c3 => ?_)
      · replace e := ky_ifT c3 e
        obtain ⟨x4, ex4⟩ : ∃ z : Int32, z = p3 + 1 := ⟨_, rfl⟩
        replace e := ky_letE ex4 e
        refine v_iinc (v := x4) (j := 3) (L' := [(0, .ref a), (1, .int p1), (2, .int p2), (3, .int x4)]) [1, 2, 3, 0] (i := 45) rfl rfl (by rw [ex4]; rfl) (Nat.le_of_ble_eq_true rfl) rfl (?_ : ky_V _ _ _ 79 _ _ _ _)
        refine v_goto (tgt := 36) (i := 46) rfl (by decide) (?_ : ky_V _ _ _ 36 _ _ _ _)
        exact ih h c p1 p2 x4 hm fr e
      · replace e := ky_ifF c3 e
        refine v_iload_n (i := 30) (j := 2) rfl rfl (?_ : ky_V _ _ _ 53 _ _ _ _)
        refine v_if_eq (tgt := 74) (i := 31) rfl (by decide) (fun c5 => ?_) (fun c5 => ?_)
        · replace e := ky_ifT c5 e
          refine v_iload_n (i := 43) (j := 3) rfl rfl (?_ : ky_V _ _ _ 75 _ _ _ _)
          refine v_iret (v := p3) (ty := .int) (i := 44) rfl rfl rfl ?_
          obtain ⟨rfl, rfl⟩ := ky_leaf e
          exact hr _ hm fr
        · replace e := ky_ifF c5 e
          refine v_aload_n (i := 32) (j := 0) rfl rfl (?_ : ky_V _ _ _ 57 _ _ _ _)
          refine v_iload_n (i := 33) (j := 3) rfl rfl (?_ : ky_V _ _ _ 58 _ _ _ _)
          refine v_iload_n (i := 34) (j := 1) rfl rfl (?_ : ky_V _ _ _ 59 _ _ _ _)
          refine cl_X12_345 (As := [.int p3, .int p1]) rfl (i := 35) rfl (md_0 hm) rfl rfl (Nat.le_of_ble_eq_true rfl) (k_X12_pullsBy p3 p1 hm z2 ⟨_, rfl, (?_ : ky_V _ _ _ 62 _ [.int ((md_pullsBy_r c p3 p1))] _ _)⟩)
          refine v_iconst (v := 0) (i := 36) rfl (by decide) (?_ : ky_V _ _ _ 63 _ _ _ _)
          refine v_iload_n (i := 37) (j := 3) rfl rfl (?_ : ky_V _ _ _ 64 _ _ _ _)
          refine v_bipush (v := 8) (i := 38) rfl (by decide) (?_ : ky_V _ _ _ 66 _ _ _ _)
          refine v_isub (i := 39) rfl (?_ : ky_V _ _ _ 67 _ _ _ _)
          refine cl_X12_255 rfl (i := 40) rfl (Nat.le_of_ble_eq_true rfl) (?_ : ky_V _ _ _ 70 _ _ _ _)
          refine v_imul (i := 41) rfl (?_ : ky_V _ _ _ 71 _ _ _ _)
          refine v_goto (tgt := 75) (i := 42) rfl (by decide) (?_ : ky_V _ _ _ 75 _ _ _ _)
          refine v_iret (v := ((md_pullsBy_r c p3 p1) * (mt_max 0 (p3 - 8)))) (ty := .int) (i := 44) rfl rfl rfl ?_
          obtain ⟨rfl, rfl⟩ := ky_leaf e
          exact hr _ hm fr

def md_force (N : Nat) (c : (Nat → Nat → Int32)) (p1 : Int32) (p2 : Int32) : Option ((Nat → Nat → Int32) × Int32) := (ky_let (bk_w c 0 0 0) (fun q2 => (if (md_in p1 1 30) = 0 then (ky_let (md_throwsIf_r q2 1 1) (fun x17 => (ky_let (md_throwsIf_c q2 1 1) (fun q16 => (if x17 = 0 then (ky_let (md_looks_c q16) (fun q20 => (md_force_L36 N (fun q22 x23 x24 x25 => (some (q22, (-1)))) N q20 p1 p2 1))) else (some (q16, 0))))))) else (ky_let (md_throwsIf_r q2 0 1) (fun x6 => (ky_let (md_throwsIf_c q2 0 1) (fun q5 => (if x6 = 0 then (ky_let (md_looks_c q5) (fun q9 => (md_force_L36 N (fun q11 x12 x13 x14 => (some (q11, (-1)))) N q9 p1 p2 1))) else (some (q5, 0))))))))))
set_option maxRecDepth 20000 in
set_option maxHeartbeats 4000000 in
theorem k_X12_force {G : ky_GW} {d : Nat} {h : ky_HP} {Q : ky_RS → ky_HP → Prop} {a : Nat} {c c9 : (Nat → Nat → Int32)} {r9 : Int32} {p1 : Int32} {p2 : Int32} (N : Nat) (hm : md_at G h a c) (e : md_force N c p1 p2 = some (c9, r9)) (hr : ∀ h1, md_at G h1 a c9 → bk_fr a 13 h h1 → Q (.inl (some (.int r9))) h1) : ky_Call G (d + 3) M_X12_force [.ref a, .int p1, .int p2] h Q := by
  refine ky_ofV (by decide +kernel) rfl ok_X12_force (Nat.le_of_ble_eq_true rfl) ?_
  have fr : bk_fr a 13 h h := bk_fr.rf
  unfold md_force at e
  refine (?_ : ky_V _ _ _ 0 [(0, .ref a), (1, .int p1), (2, .int p2)] [] _ _)
  refine v_aload_n (i := 0) (j := 0) rfl rfl (?_ : ky_V _ _ _ 1 _ _ _ _)
  refine v_iconst (v := 0) (i := 1) rfl (by decide) (?_ : ky_V _ _ _ 2 _ _ _ _)
  refine pf_X12_3 rfl (i := 2) rfl (md_0 hm) (Nat.le_of_ble_eq_true rfl) rfl rfl ?_
  refine bk_st (B := md_B G a) hm fr 0 0 0 (by decide) (fun h1 hmh1 frh1 => ?_)
  obtain ⟨q2, eq2⟩ : ∃ z, z = (bk_w c 0 0 0) := ⟨_, rfl⟩
  rw [← eq2] at hmh1
  replace e := ky_letE eq2 e
  refine (?_ : ky_V _ _ _ 5 _ _ _ _)
  refine v_aload_n (i := 3) (j := 0) rfl rfl (?_ : ky_V _ _ _ 6 _ _ _ _)
  refine v_iload_n (i := 4) (j := 1) rfl rfl (?_ : ky_V _ _ _ 7 _ _ _ _)
  refine v_iconst (v := 1) (i := 5) rfl (by decide) (?_ : ky_V _ _ _ 8 _ _ _ _)
  refine v_bipush (v := 30) (i := 6) rfl (by decide) (?_ : ky_V _ _ _ 10 _ _ _ _)
  refine cl_X12_65 (As := [.int p1, .int 1, .int 30]) rfl (i := 7) rfl rfl rfl (Nat.le_of_ble_eq_true rfl) (k_X12_in p1 1 30 ⟨_, rfl, (?_ : ky_V _ _ _ 13 _ [.int ((md_in p1 1 30)), .ref a] _ _)⟩)
  refine v_if_ne (tgt := 20) (i := 8) rfl (by decide) (fun c3 => ?_) (fun c3 => ?_)
  · replace e := ky_ifF c3 e
    refine v_iconst (v := 0) (i := 11) rfl (by decide) (?_ : ky_V _ _ _ 21 _ _ _ _)
    refine v_iconst (v := 1) (i := 12) rfl (by decide) (?_ : ky_V _ _ _ 22 _ _ _ _)
    refine cl_X12_241 (As := [.int 0, .int 1]) rfl (i := 13) rfl (md_0 hmh1) rfl rfl (Nat.le_of_ble_eq_true rfl) (k_X12_throwsIf 0 1 hmh1 (by decide) (fun h4 hmh4 frh4 => ⟨_, rfl, (?_ : ky_V _ _ _ 25 _ [.int ((md_throwsIf_r q2 0 1))] _ _)⟩))
    have frh4 := frh1.tr frh4
    refine v_topi (fun x6 ex6 => ?_)
    replace e := ky_letE ex6 e
    obtain ⟨q5, eq5⟩ : ∃ z, z = (md_throwsIf_c q2 0 1) := ⟨_, rfl⟩
    rw [← eq5] at hmh4
    replace e := ky_letE eq5 e
    refine v_if_eq (tgt := 30) (i := 14) rfl (by decide) (fun c7 => ?_) (fun c7 => ?_)
    · replace e := ky_ifT c7 e
      refine v_aload_n (i := 17) (j := 0) rfl rfl (?_ : ky_V _ _ _ 31 _ _ _ _)
      refine cl_X12_285 (As := []) rfl (i := 18) rfl (md_0 hmh4) rfl rfl (Nat.le_of_ble_eq_true rfl) (k_X12_looks hmh4 (fun h8 hmh8 frh8 => ⟨_, rfl, (?_ : ky_V _ _ _ 34 _ [] _ _)⟩))
      have frh8 := frh4.tr frh8
      obtain ⟨q9, eq9⟩ : ∃ z, z = (md_looks_c q5) := ⟨_, rfl⟩
      rw [← eq9] at hmh8
      replace e := ky_letE eq9 e
      refine v_iconst (v := 1) (i := 19) rfl (by decide) (?_ : ky_V _ _ _ 35 _ _ _ _)
      refine v_istore_n (L' := [(0, .ref a), (1, .int p1), (2, .int p2), (3, .int 1)]) [1, 2, 3, 0] (i := 20) rfl (Nat.le_of_ble_eq_true rfl) rfl (?_ : ky_V _ _ _ 36 _ _ _ _)
      refine lv_X12_force_36 N _ hr (fun h10 q11 x12 x13 x14 hmh10 frh10 e => ?_) N h8 q9 p1 p2 1 hmh8 frh8 e
      refine v_iconst (v := (-1)) (i := 47) rfl (by decide) (?_ : ky_V _ _ _ 83 _ _ _ _)
      refine v_iret (v := (-1)) (ty := .int) (i := 48) rfl rfl rfl ?_
      obtain ⟨rfl, rfl⟩ := ky_leaf e
      exact hr _ hmh10 frh10
    · replace e := ky_ifF c7 e
      refine v_iconst (v := 0) (i := 15) rfl (by decide) (?_ : ky_V _ _ _ 29 _ _ _ _)
      refine v_iret (v := 0) (ty := .int) (i := 16) rfl rfl rfl ?_
      obtain ⟨rfl, rfl⟩ := ky_leaf e
      exact hr _ hmh4 frh4
  · replace e := ky_ifT c3 e
    refine v_iconst (v := 1) (i := 9) rfl (by decide) (?_ : ky_V _ _ _ 17 _ _ _ _)
    refine v_goto (tgt := 21) (i := 10) rfl (by decide) (?_ : ky_V _ _ _ 21 _ _ _ _)
    refine v_iconst (v := 1) (i := 12) rfl (by decide) (?_ : ky_V _ _ _ 22 _ _ _ _)
    refine cl_X12_241 (As := [.int 1, .int 1]) rfl (i := 13) rfl (md_0 hmh1) rfl rfl (Nat.le_of_ble_eq_true rfl) (k_X12_throwsIf 1 1 hmh1 (by decide) (fun h15 hmh15 frh15 => ⟨_, rfl, (?_ : ky_V _ _ _ 25 _ [.int ((md_throwsIf_r q2 1 1))] _ _)⟩))
    have frh15 := frh1.tr frh15
    refine v_topi (fun x17 ex17 => ?_)
    replace e := ky_letE ex17 e
    obtain ⟨q16, eq16⟩ : ∃ z, z = (md_throwsIf_c q2 1 1) := ⟨_, rfl⟩
    rw [← eq16] at hmh15
    replace e := ky_letE eq16 e
    refine v_if_eq (tgt := 30) (i := 14) rfl (by decide) (fun c18 => ?_) (fun c18 => ?_)
    · replace e := ky_ifT c18 e
      refine v_aload_n (i := 17) (j := 0) rfl rfl (?_ : ky_V _ _ _ 31 _ _ _ _)
      refine cl_X12_285 (As := []) rfl (i := 18) rfl (md_0 hmh15) rfl rfl (Nat.le_of_ble_eq_true rfl) (k_X12_looks hmh15 (fun h19 hmh19 frh19 => ⟨_, rfl, (?_ : ky_V _ _ _ 34 _ [] _ _)⟩))
      have frh19 := frh15.tr frh19
      obtain ⟨q20, eq20⟩ : ∃ z, z = (md_looks_c q16) := ⟨_, rfl⟩
      rw [← eq20] at hmh19
      replace e := ky_letE eq20 e
      refine v_iconst (v := 1) (i := 19) rfl (by decide) (?_ : ky_V _ _ _ 35 _ _ _ _)
      refine v_istore_n (L' := [(0, .ref a), (1, .int p1), (2, .int p2), (3, .int 1)]) [1, 2, 3, 0] (i := 20) rfl (Nat.le_of_ble_eq_true rfl) rfl (?_ : ky_V _ _ _ 36 _ _ _ _)
      refine lv_X12_force_36 N _ hr (fun h21 q22 x23 x24 x25 hmh21 frh21 e => ?_) N h19 q20 p1 p2 1 hmh19 frh19 e
      refine v_iconst (v := (-1)) (i := 47) rfl (by decide) (?_ : ky_V _ _ _ 83 _ _ _ _)
      refine v_iret (v := (-1)) (ty := .int) (i := 48) rfl rfl rfl ?_
      obtain ⟨rfl, rfl⟩ := ky_leaf e
      exact hr _ hmh21 frh21
    · replace e := ky_ifF c18 e
      refine v_iconst (v := 0) (i := 15) rfl (by decide) (?_ : ky_V _ _ _ 29 _ _ _ _)
      refine v_iret (v := 0) (ty := .int) (i := 16) rfl rfl rfl ?_
      obtain ⟨rfl, rfl⟩ := ky_leaf e
      exact hr _ hmh15 frh15

def md_remembers_L55 (N : Nat) (k : (Nat → Nat → Int32) → Int32 → Option ((Nat → Nat → Int32) × Int32)) : Nat → (Nat → Nat → Int32) → Int32 → Option ((Nat → Nat → Int32) × Int32)
  | 0, _, _ => none
  | n + 1, c, p1 => (if (549 : Int32) ≤ p1 then (k c p1) else (if ky_inB p1 2247 = true then (ky_let (c 1 (Int32.toNatClampNeg p1)) (fun x3 => (if ky_inB ((549 * ((c 0 7) - 1)) + p1) 6588 = true then (ky_let (bk_w c 5 (Int32.toNatClampNeg ((549 * ((c 0 7) - 1)) + p1)) x3) (fun q6 => (ky_let (p1 + 1) (fun x7 => (md_remembers_L55 N k n q6 x7))))) else none))) else none))
set_option maxRecDepth 20000 in
set_option maxHeartbeats 4000000 in
theorem lv_X12_remembers_55 {G : ky_GW} {d : Nat} {h0 : ky_HP} {Q : ky_RS → ky_HP → Prop} {a : Nat} {c9 : (Nat → Nat → Int32)} {r9 : Int32} (N : Nat) (k : (Nat → Nat → Int32) → Int32 → Option ((Nat → Nat → Int32) × Int32)) (hr : ∀ h1, md_at G h1 a c9 → bk_fr a 13 h0 h1 → Q (.inl none) h1)
    (hk : ∀ (h : ky_HP) (c : (Nat → Nat → Int32)) (p1 : Int32), md_at G h a c → bk_fr a 13 h0 h → k c p1 = some (c9, r9) → ky_V G d M_X12_remembers 91 [(0, .ref a), (1, .int p1)] [] h Q) :
    ∀ (n : Nat) (h : ky_HP) (c : (Nat → Nat → Int32)) (p1 : Int32), md_at G h a c → bk_fr a 13 h0 h → md_remembers_L55 N k n c p1 = some (c9, r9) → ky_V G d M_X12_remembers 55 [(0, .ref a), (1, .int p1)] [] h Q := by
  intro n
  induction n with
  | zero => intro h c p1 hm fr e; cases e
  | succ n ih =>
    intro h c p1 hm fr e
    rw [md_remembers_L55] at e
    refine v_iload_n (i := 30) (j := 1) rfl rfl (?_ : ky_V _ _ _ 56 _ _ _ _)
    refine v_sipush (v := 549) (i := 31) rfl (by decide) (?_ : ky_V _ _ _ 59 _ _ _ _)
    refine v_icmp_ge (tgt := 91) (i := 32) rfl (by decide) (fun c1 => ?_) (fun c1 => ?_)
    · replace e := ky_ifT c1 e
      exact hk h c p1 hm fr e
    · replace e := ky_ifF c1 e
      refine v_aload_n (i := 33) (j := 0) rfl rfl (?_ : ky_V _ _ _ 63 _ _ _ _)
      refine gf_X12_26 rfl (i := 34) rfl (md_0 hm) rfl (?_ : ky_V _ _ _ 66 _ _ _ _)
      refine v_sipush (v := 549) (i := 35) rfl (by decide) (?_ : ky_V _ _ _ 69 _ _ _ _)
      refine v_aload_n (i := 36) (j := 0) rfl rfl (?_ : ky_V _ _ _ 70 _ _ _ _)
      refine gf_X12_58 rfl (i := 37) rfl (md_0 hm) rfl (?_ : ky_V _ _ _ 73 _ _ _ _)
      refine v_iconst (v := 1) (i := 38) rfl (by decide) (?_ : ky_V _ _ _ 74 _ _ _ _)
      refine v_isub (i := 39) rfl (?_ : ky_V _ _ _ 75 _ _ _ _)
      refine v_imul (i := 40) rfl (?_ : ky_V _ _ _ 76 _ _ _ _)
      refine v_iload_n (i := 41) (j := 1) rfl rfl (?_ : ky_V _ _ _ 77 _ _ _ _)
      refine v_iadd (i := 42) rfl (?_ : ky_V _ _ _ 78 _ _ _ _)
      refine v_aload_n (i := 43) (j := 0) rfl rfl (?_ : ky_V _ _ _ 79 _ _ _ _)
      refine gf_X12_13 rfl (i := 44) rfl (md_0 hm) rfl (?_ : ky_V _ _ _ 82 _ _ _ _)
      refine v_iload_n (i := 45) (j := 1) rfl rfl (?_ : ky_V _ _ _ 83 _ _ _ _)
      obtain ⟨z2, e⟩ := ky_chkE e
      refine v_iald (i := 46) rfl (md_1 hm) (ky_inb z2) (?_ : ky_V _ _ _ 84 _ (.int (c 1 (Int32.toNatClampNeg p1)) :: _) _ _)
      refine v_topi (fun x3 ex3 => ?_)
      replace e := ky_letE ex3 e
      obtain ⟨z4, e⟩ := ky_chkE e
      refine v_iast (i := 47) rfl (md_5 hm) (ky_inb z4) ?_
      refine bk_st (B := md_B G a) hm fr 5 (Int32.toNatClampNeg ((549 * ((c 0 7) - 1)) + p1)) x3 (by decide) (fun h5 hmh5 frh5 => ?_)
      obtain ⟨q6, eq6⟩ : ∃ z, z = (bk_w c 5 (Int32.toNatClampNeg ((549 * ((c 0 7) - 1)) + p1)) x3) := ⟨_, rfl⟩
      rw [← eq6] at hmh5
      replace e := ky_letE eq6 e
      refine (?_ : ky_V _ _ _ 85 _ _ _ _)
      obtain ⟨x7, ex7⟩ : ∃ z : Int32, z = p1 + 1 := ⟨_, rfl⟩
      replace e := ky_letE ex7 e
      refine v_iinc (v := x7) (j := 1) (L' := [(0, .ref a), (1, .int x7)]) [1, 0] (i := 48) rfl rfl (by rw [ex7]; rfl) (Nat.le_of_ble_eq_true rfl) rfl (?_ : ky_V _ _ _ 88 _ _ _ _)
      refine v_goto (tgt := 55) (i := 49) rfl (by decide) (?_ : ky_V _ _ _ 55 _ _ _ _)
      exact ih h5 q6 x7 hmh5 frh5 e

def md_remembers_L11 (N : Nat) (k : (Nat → Nat → Int32) → Int32 → Option ((Nat → Nat → Int32) × Int32)) : Nat → (Nat → Nat → Int32) → Int32 → Option ((Nat → Nat → Int32) × Int32)
  | 0, _, _ => none
  | n + 1, c, p1 => (if (6039 : Int32) ≤ p1 then (k c p1) else (if ky_inB (p1 + 549) 6588 = true then (ky_let (c 5 (Int32.toNatClampNeg (p1 + 549))) (fun x3 => (if ky_inB p1 6588 = true then (ky_let (bk_w c 5 (Int32.toNatClampNeg p1) x3) (fun q6 => (ky_let (p1 + 1) (fun x7 => (md_remembers_L11 N k n q6 x7))))) else none))) else none))
set_option maxRecDepth 20000 in
set_option maxHeartbeats 4000000 in
theorem lv_X12_remembers_11 {G : ky_GW} {d : Nat} {h0 : ky_HP} {Q : ky_RS → ky_HP → Prop} {a : Nat} {c9 : (Nat → Nat → Int32)} {r9 : Int32} (N : Nat) (k : (Nat → Nat → Int32) → Int32 → Option ((Nat → Nat → Int32) × Int32)) (hr : ∀ h1, md_at G h1 a c9 → bk_fr a 13 h0 h1 → Q (.inl none) h1)
    (hk : ∀ (h : ky_HP) (c : (Nat → Nat → Int32)) (p1 : Int32), md_at G h a c → bk_fr a 13 h0 h → k c p1 = some (c9, r9) → ky_V G d M_X12_remembers 40 [(0, .ref a), (1, .int p1)] [] h Q) :
    ∀ (n : Nat) (h : ky_HP) (c : (Nat → Nat → Int32)) (p1 : Int32), md_at G h a c → bk_fr a 13 h0 h → md_remembers_L11 N k n c p1 = some (c9, r9) → ky_V G d M_X12_remembers 11 [(0, .ref a), (1, .int p1)] [] h Q := by
  intro n
  induction n with
  | zero => intro h c p1 hm fr e; cases e
  | succ n ih =>
    intro h c p1 hm fr e
    rw [md_remembers_L11] at e
    refine v_iload_n (i := 6) (j := 1) rfl rfl (?_ : ky_V _ _ _ 12 _ _ _ _)
    refine v_sipush (v := 6039) (i := 7) rfl (by decide) (?_ : ky_V _ _ _ 15 _ _ _ _)
    refine v_icmp_ge (tgt := 40) (i := 8) rfl (by decide) (fun c1 => ?_) (fun c1 => ?_)
    · replace e := ky_ifT c1 e
      exact hk h c p1 hm fr e
    · replace e := ky_ifF c1 e
      refine v_aload_n (i := 9) (j := 0) rfl rfl (?_ : ky_V _ _ _ 19 _ _ _ _)
      refine gf_X12_26 rfl (i := 10) rfl (md_0 hm) rfl (?_ : ky_V _ _ _ 22 _ _ _ _)
      refine v_iload_n (i := 11) (j := 1) rfl rfl (?_ : ky_V _ _ _ 23 _ _ _ _)
      refine v_aload_n (i := 12) (j := 0) rfl rfl (?_ : ky_V _ _ _ 24 _ _ _ _)
      refine gf_X12_26 rfl (i := 13) rfl (md_0 hm) rfl (?_ : ky_V _ _ _ 27 _ _ _ _)
      refine v_iload_n (i := 14) (j := 1) rfl rfl (?_ : ky_V _ _ _ 28 _ _ _ _)
      refine v_sipush (v := 549) (i := 15) rfl (by decide) (?_ : ky_V _ _ _ 31 _ _ _ _)
      refine v_iadd (i := 16) rfl (?_ : ky_V _ _ _ 32 _ _ _ _)
      obtain ⟨z2, e⟩ := ky_chkE e
      refine v_iald (i := 17) rfl (md_5 hm) (ky_inb z2) (?_ : ky_V _ _ _ 33 _ (.int (c 5 (Int32.toNatClampNeg (p1 + 549))) :: _) _ _)
      refine v_topi (fun x3 ex3 => ?_)
      replace e := ky_letE ex3 e
      obtain ⟨z4, e⟩ := ky_chkE e
      refine v_iast (i := 18) rfl (md_5 hm) (ky_inb z4) ?_
      refine bk_st (B := md_B G a) hm fr 5 (Int32.toNatClampNeg p1) x3 (by decide) (fun h5 hmh5 frh5 => ?_)
      obtain ⟨q6, eq6⟩ : ∃ z, z = (bk_w c 5 (Int32.toNatClampNeg p1) x3) := ⟨_, rfl⟩
      rw [← eq6] at hmh5
      replace e := ky_letE eq6 e
      refine (?_ : ky_V _ _ _ 34 _ _ _ _)
      obtain ⟨x7, ex7⟩ : ∃ z : Int32, z = p1 + 1 := ⟨_, rfl⟩
      replace e := ky_letE ex7 e
      refine v_iinc (v := x7) (j := 1) (L' := [(0, .ref a), (1, .int x7)]) [1, 0] (i := 19) rfl rfl (by rw [ex7]; rfl) (Nat.le_of_ble_eq_true rfl) rfl (?_ : ky_V _ _ _ 37 _ _ _ _)
      refine v_goto (tgt := 11) (i := 20) rfl (by decide) (?_ : ky_V _ _ _ 11 _ _ _ _)
      exact ih h5 q6 x7 hmh5 frh5 e

def md_remembers (N : Nat) (c : (Nat → Nat → Int32))  : Option ((Nat → Nat → Int32) × Int32) := (if (c 0 7) = (12 : Int32) then (md_remembers_L11 N (fun q9 x10 => (md_remembers_L55 N (fun q12 x13 => (some (q12, 0))) N q9 0)) N c 0) else (ky_let ((c 0 7) + 1) (fun x2 => (ky_let (bk_w c 0 7 x2) (fun q4 => (md_remembers_L55 N (fun q6 x7 => (some (q6, 0))) N q4 0))))))
set_option maxRecDepth 20000 in
set_option maxHeartbeats 4000000 in
theorem k_X12_remembers {G : ky_GW} {d : Nat} {h : ky_HP} {Q : ky_RS → ky_HP → Prop} {a : Nat} {c c9 : (Nat → Nat → Int32)} {r9 : Int32}  (N : Nat) (hm : md_at G h a c) (e : md_remembers N c = some (c9, r9)) (hr : ∀ h1, md_at G h1 a c9 → bk_fr a 13 h h1 → Q (.inl none) h1) : ky_Call G d M_X12_remembers [.ref a] h Q := by
  refine ky_ofV (by decide +kernel) rfl ok_X12_remembers (Nat.le_of_ble_eq_true rfl) ?_
  have fr : bk_fr a 13 h h := bk_fr.rf
  unfold md_remembers at e
  refine (?_ : ky_V _ _ _ 0 [(0, .ref a)] [] _ _)
  refine v_aload_n (i := 0) (j := 0) rfl rfl (?_ : ky_V _ _ _ 1 _ _ _ _)
  refine gf_X12_58 rfl (i := 1) rfl (md_0 hm) rfl (?_ : ky_V _ _ _ 4 _ _ _ _)
  refine v_bipush (v := 12) (i := 2) rfl (by decide) (?_ : ky_V _ _ _ 6 _ _ _ _)
  refine v_icmp_ne (tgt := 43) (i := 3) rfl (by decide) (fun c1 => ?_) (fun c1 => ?_)
  · replace e := ky_ifF c1 e
    refine v_aload_n (i := 22) (j := 0) rfl rfl (?_ : ky_V _ _ _ 44 _ _ _ _)
    refine v_dup (i := 23) rfl rfl (?_ : ky_V _ _ _ 45 _ _ _ _)
    refine gf_X12_58 rfl (i := 24) rfl (md_0 hm) rfl (?_ : ky_V _ _ _ 48 _ _ _ _)
    refine v_iconst (v := 1) (i := 25) rfl (by decide) (?_ : ky_V _ _ _ 49 _ _ _ _)
    refine v_iadd (i := 26) rfl (?_ : ky_V _ _ _ 50 _ _ _ _)
    refine v_topi (fun x2 ex2 => ?_)
    replace e := ky_letE ex2 e
    refine pf_X12_58 rfl (i := 27) rfl (md_0 hm) (Nat.le_of_ble_eq_true rfl) rfl rfl ?_
    refine bk_st (B := md_B G a) hm fr 0 7 x2 (by decide) (fun h3 hmh3 frh3 => ?_)
    obtain ⟨q4, eq4⟩ : ∃ z, z = (bk_w c 0 7 x2) := ⟨_, rfl⟩
    rw [← eq4] at hmh3
    replace e := ky_letE eq4 e
    refine (?_ : ky_V _ _ _ 53 _ _ _ _)
    refine v_iconst (v := 0) (i := 28) rfl (by decide) (?_ : ky_V _ _ _ 54 _ _ _ _)
    refine v_istore_n (L' := [(0, .ref a), (1, .int 0)]) [1, 0] (i := 29) rfl (Nat.le_of_ble_eq_true rfl) rfl (?_ : ky_V _ _ _ 55 _ _ _ _)
    refine lv_X12_remembers_55 N _ hr (fun h5 q6 x7 hmh5 frh5 e => ?_) N h3 q4 0 hmh3 frh3 e
    refine v_vret (i := 50) rfl rfl ?_
    obtain ⟨rfl, rfl⟩ := ky_leaf e
    exact hr _ hmh5 frh5
  · replace e := ky_ifT c1 e
    refine v_iconst (v := 0) (i := 4) rfl (by decide) (?_ : ky_V _ _ _ 10 _ _ _ _)
    refine v_istore_n (L' := [(0, .ref a), (1, .int 0)]) [1, 0] (i := 5) rfl (Nat.le_of_ble_eq_true rfl) rfl (?_ : ky_V _ _ _ 11 _ _ _ _)
    refine lv_X12_remembers_11 N _ hr (fun h8 q9 x10 hmh8 frh8 e => ?_) N h c 0 hm fr e
    refine v_goto (tgt := 53) (i := 21) rfl (by decide) (?_ : ky_V _ _ _ 53 _ _ _ _)
    refine v_iconst (v := 0) (i := 28) rfl (by decide) (?_ : ky_V _ _ _ 54 _ _ _ _)
    refine v_istore_n (L' := [(0, .ref a), (1, .int 0)]) [1, 0] (i := 29) rfl (Nat.le_of_ble_eq_true rfl) rfl (?_ : ky_V _ _ _ 55 _ _ _ _)
    refine lv_X12_remembers_55 N _ hr (fun h11 q12 x13 hmh11 frh11 e => ?_) N h8 q9 0 hmh8 frh8 e
    refine v_vret (i := 50) rfl rfl ?_
    obtain ⟨rfl, rfl⟩ := ky_leaf e
    exact hr _ hmh11 frh11

def md_tells_L5 (N : Nat) (k : (Nat → Nat → Int32) → Int32 → Int32 → Int32 → Int32 → Option ((Nat → Nat → Int32) × Int32)) : Nat → (Nat → Nat → Int32) → Int32 → Int32 → Int32 → Int32 → Option ((Nat → Nat → Int32) × Int32)
  | 0, _, _, _, _, _ => none
  | n + 1, c, p1, p2, p3, p4 => (if p4 < (5 : Int32) then (k c p1 p2 p3 p4) else (if ky_inB ((249 + p4) - 5) 2247 = true then (ky_let (c 1 (Int32.toNatClampNeg ((249 + p4) - 5))) (fun x3 => (if ky_inB (249 + p4) 2247 = true then (ky_let (bk_w c 1 (Int32.toNatClampNeg (249 + p4)) x3) (fun q6 => (ky_let (p4 + (-1)) (fun x7 => (md_tells_L5 N k n q6 p1 p2 p3 x7))))) else none))) else none))
set_option maxRecDepth 20000 in
set_option maxHeartbeats 4000000 in
theorem lv_X12_tells_5 {G : ky_GW} {d : Nat} {h0 : ky_HP} {Q : ky_RS → ky_HP → Prop} {a : Nat} {c9 : (Nat → Nat → Int32)} {r9 : Int32} (N : Nat) (k : (Nat → Nat → Int32) → Int32 → Int32 → Int32 → Int32 → Option ((Nat → Nat → Int32) × Int32)) (hr : ∀ h1, md_at G h1 a c9 → bk_fr a 13 h0 h1 → Q (.inl none) h1)
    (hk : ∀ (h : ky_HP) (c : (Nat → Nat → Int32)) (p1 : Int32) (p2 : Int32) (p3 : Int32) (p4 : Int32), md_at G h a c → bk_fr a 13 h0 h → k c p1 p2 p3 p4 = some (c9, r9) → ky_V G (d + 1) M_X12_tells 41 [(0, .ref a), (1, .int p1), (2, .int p2), (3, .int p3), (4, .int p4)] [] h Q) :
    ∀ (n : Nat) (h : ky_HP) (c : (Nat → Nat → Int32)) (p1 : Int32) (p2 : Int32) (p3 : Int32) (p4 : Int32), md_at G h a c → bk_fr a 13 h0 h → md_tells_L5 N k n c p1 p2 p3 p4 = some (c9, r9) → ky_V G (d + 1) M_X12_tells 5 [(0, .ref a), (1, .int p1), (2, .int p2), (3, .int p3), (4, .int p4)] [] h Q := by
  intro n
  induction n with
  | zero => intro h c p1 p2 p3 p4 hm fr e; cases e
  | succ n ih =>
    intro h c p1 p2 p3 p4 hm fr e
    rw [md_tells_L5] at e
    refine v_iload (i := 2) (j := 4) rfl rfl (?_ : ky_V _ _ _ 7 _ _ _ _)
    refine v_iconst (v := 5) (i := 3) rfl (by decide) (?_ : ky_V _ _ _ 8 _ _ _ _)
    refine v_icmp_lt (tgt := 41) (i := 4) rfl (by decide) (fun c1 => ?_) (fun c1 => ?_)
    · replace e := ky_ifT c1 e
      exact hk h c p1 p2 p3 p4 hm fr e
    · replace e := ky_ifF c1 e
      refine v_aload_n (i := 5) (j := 0) rfl rfl (?_ : ky_V _ _ _ 12 _ _ _ _)
      refine gf_X12_13 rfl (i := 6) rfl (md_0 hm) rfl (?_ : ky_V _ _ _ 15 _ _ _ _)
      refine v_sipush (v := 249) (i := 7) rfl (by decide) (?_ : ky_V _ _ _ 18 _ _ _ _)
      refine v_iload (i := 8) (j := 4) rfl rfl (?_ : ky_V _ _ _ 20 _ _ _ _)
      refine v_iadd (i := 9) rfl (?_ : ky_V _ _ _ 21 _ _ _ _)
      refine v_aload_n (i := 10) (j := 0) rfl rfl (?_ : ky_V _ _ _ 22 _ _ _ _)
      refine gf_X12_13 rfl (i := 11) rfl (md_0 hm) rfl (?_ : ky_V _ _ _ 25 _ _ _ _)
      refine v_sipush (v := 249) (i := 12) rfl (by decide) (?_ : ky_V _ _ _ 28 _ _ _ _)
      refine v_iload (i := 13) (j := 4) rfl rfl (?_ : ky_V _ _ _ 30 _ _ _ _)
      refine v_iadd (i := 14) rfl (?_ : ky_V _ _ _ 31 _ _ _ _)
      refine v_iconst (v := 5) (i := 15) rfl (by decide) (?_ : ky_V _ _ _ 32 _ _ _ _)
      refine v_isub (i := 16) rfl (?_ : ky_V _ _ _ 33 _ _ _ _)
      obtain ⟨z2, e⟩ := ky_chkE e
      refine v_iald (i := 17) rfl (md_1 hm) (ky_inb z2) (?_ : ky_V _ _ _ 34 _ (.int (c 1 (Int32.toNatClampNeg ((249 + p4) - 5))) :: _) _ _)
      refine v_topi (fun x3 ex3 => ?_)
      replace e := ky_letE ex3 e
      obtain ⟨z4, e⟩ := ky_chkE e
      refine v_iast (i := 18) rfl (md_1 hm) (ky_inb z4) ?_
      refine bk_st (B := md_B G a) hm fr 1 (Int32.toNatClampNeg (249 + p4)) x3 (by decide) (fun h5 hmh5 frh5 => ?_)
      obtain ⟨q6, eq6⟩ : ∃ z, z = (bk_w c 1 (Int32.toNatClampNeg (249 + p4)) x3) := ⟨_, rfl⟩
      rw [← eq6] at hmh5
      replace e := ky_letE eq6 e
      refine (?_ : ky_V _ _ _ 35 _ _ _ _)
      obtain ⟨x7, ex7⟩ : ∃ z : Int32, z = p4 + (-1) := ⟨_, rfl⟩
      replace e := ky_letE ex7 e
      refine v_iinc (v := x7) (j := 4) (L' := [(0, .ref a), (1, .int p1), (2, .int p2), (3, .int p3), (4, .int x7)]) [1, 2, 3, 4, 0] (i := 19) rfl rfl (by rw [ex7]; rfl) (Nat.le_of_ble_eq_true rfl) rfl (?_ : ky_V _ _ _ 38 _ _ _ _)
      refine v_goto (tgt := 5) (i := 20) rfl (by decide) (?_ : ky_V _ _ _ 5 _ _ _ _)
      exact ih h5 q6 p1 p2 p3 x7 hmh5 frh5 e

def md_tells (N : Nat) (c : (Nat → Nat → Int32)) (p1 : Int32) (p2 : Int32) (p3 : Int32) : Option ((Nat → Nat → Int32) × Int32) := (md_tells_L5 N (fun q2 x3 x4 x5 x6 => (ky_let (bk_w q2 1 249 x3) (fun q8 => (ky_let (bk_w q8 1 250 x4) (fun q10 => (ky_let (bk_w q10 1 251 x5) (fun q12 => (ky_let (q12 1 0) (fun x13 => (ky_let (bk_w q12 1 252 x13) (fun q15 => (ky_let (q15 1 1) (fun x16 => (ky_let (bk_w q15 1 253 x16) (fun q18 => (ky_let (mt_min 60 ((q18 1 15) + 1)) (fun x19 => (ky_let (bk_w q18 1 15 x19) (fun q21 => (some (q21, 0))))))))))))))))))))) N c p1 p2 p3 299)
set_option maxRecDepth 20000 in
set_option maxHeartbeats 4000000 in
theorem k_X12_tells {G : ky_GW} {d : Nat} {h : ky_HP} {Q : ky_RS → ky_HP → Prop} {a : Nat} {c c9 : (Nat → Nat → Int32)} {r9 : Int32} {p1 : Int32} {p2 : Int32} {p3 : Int32} (N : Nat) (hm : md_at G h a c) (e : md_tells N c p1 p2 p3 = some (c9, r9)) (hr : ∀ h1, md_at G h1 a c9 → bk_fr a 13 h h1 → Q (.inl none) h1) : ky_Call G (d + 1) M_X12_tells [.ref a, .int p1, .int p2, .int p3] h Q := by
  refine ky_ofV (by decide +kernel) rfl ok_X12_tells (Nat.le_of_ble_eq_true rfl) ?_
  have fr : bk_fr a 13 h h := bk_fr.rf
  unfold md_tells at e
  refine (?_ : ky_V _ _ _ 0 [(0, .ref a), (1, .int p1), (2, .int p2), (3, .int p3)] [] _ _)
  refine v_sipush (v := 299) (i := 0) rfl (by decide) (?_ : ky_V _ _ _ 3 _ _ _ _)
  refine v_istore (L' := [(0, .ref a), (1, .int p1), (2, .int p2), (3, .int p3), (4, .int 299)]) [1, 2, 3, 4, 0] (i := 1) rfl (Nat.le_of_ble_eq_true rfl) rfl (?_ : ky_V _ _ _ 5 _ _ _ _)
  refine lv_X12_tells_5 N _ hr (fun h1 q2 x3 x4 x5 x6 hmh1 frh1 e => ?_) N h c p1 p2 p3 299 hm fr e
  refine v_aload_n (i := 21) (j := 0) rfl rfl (?_ : ky_V _ _ _ 42 _ _ _ _)
  refine gf_X12_13 rfl (i := 22) rfl (md_0 hmh1) rfl (?_ : ky_V _ _ _ 45 _ _ _ _)
  refine v_sipush (v := 249) (i := 23) rfl (by decide) (?_ : ky_V _ _ _ 48 _ _ _ _)
  refine v_iload_n (i := 24) (j := 1) rfl rfl (?_ : ky_V _ _ _ 49 _ _ _ _)
  refine v_iast (i := 25) rfl (md_1 hmh1) (ky_inl (by decide)) ?_
  refine bk_st (B := md_B G a) hmh1 frh1 1 249 x3 (by decide) (fun h7 hmh7 frh7 => ?_)
  obtain ⟨q8, eq8⟩ : ∃ z, z = (bk_w q2 1 249 x3) := ⟨_, rfl⟩
  rw [← eq8] at hmh7
  replace e := ky_letE eq8 e
  refine (?_ : ky_V _ _ _ 50 _ _ _ _)
  refine v_aload_n (i := 26) (j := 0) rfl rfl (?_ : ky_V _ _ _ 51 _ _ _ _)
  refine gf_X12_13 rfl (i := 27) rfl (md_0 hmh7) rfl (?_ : ky_V _ _ _ 54 _ _ _ _)
  refine v_sipush (v := 250) (i := 28) rfl (by decide) (?_ : ky_V _ _ _ 57 _ _ _ _)
  refine v_iload_n (i := 29) (j := 2) rfl rfl (?_ : ky_V _ _ _ 58 _ _ _ _)
  refine v_iast (i := 30) rfl (md_1 hmh7) (ky_inl (by decide)) ?_
  refine bk_st (B := md_B G a) hmh7 frh7 1 250 x4 (by decide) (fun h9 hmh9 frh9 => ?_)
  obtain ⟨q10, eq10⟩ : ∃ z, z = (bk_w q8 1 250 x4) := ⟨_, rfl⟩
  rw [← eq10] at hmh9
  replace e := ky_letE eq10 e
  refine (?_ : ky_V _ _ _ 59 _ _ _ _)
  refine v_aload_n (i := 31) (j := 0) rfl rfl (?_ : ky_V _ _ _ 60 _ _ _ _)
  refine gf_X12_13 rfl (i := 32) rfl (md_0 hmh9) rfl (?_ : ky_V _ _ _ 63 _ _ _ _)
  refine v_sipush (v := 251) (i := 33) rfl (by decide) (?_ : ky_V _ _ _ 66 _ _ _ _)
  refine v_iload_n (i := 34) (j := 3) rfl rfl (?_ : ky_V _ _ _ 67 _ _ _ _)
  refine v_iast (i := 35) rfl (md_1 hmh9) (ky_inl (by decide)) ?_
  refine bk_st (B := md_B G a) hmh9 frh9 1 251 x5 (by decide) (fun h11 hmh11 frh11 => ?_)
  obtain ⟨q12, eq12⟩ : ∃ z, z = (bk_w q10 1 251 x5) := ⟨_, rfl⟩
  rw [← eq12] at hmh11
  replace e := ky_letE eq12 e
  refine (?_ : ky_V _ _ _ 68 _ _ _ _)
  refine v_aload_n (i := 36) (j := 0) rfl rfl (?_ : ky_V _ _ _ 69 _ _ _ _)
  refine gf_X12_13 rfl (i := 37) rfl (md_0 hmh11) rfl (?_ : ky_V _ _ _ 72 _ _ _ _)
  refine v_sipush (v := 252) (i := 38) rfl (by decide) (?_ : ky_V _ _ _ 75 _ _ _ _)
  refine v_aload_n (i := 39) (j := 0) rfl rfl (?_ : ky_V _ _ _ 76 _ _ _ _)
  refine gf_X12_13 rfl (i := 40) rfl (md_0 hmh11) rfl (?_ : ky_V _ _ _ 79 _ _ _ _)
  refine v_iconst (v := 0) (i := 41) rfl (by decide) (?_ : ky_V _ _ _ 80 _ _ _ _)
  refine v_iald (i := 42) rfl (md_1 hmh11) (ky_inl (by decide)) (?_ : ky_V _ _ _ 81 _ (.int (q12 1 0) :: _) _ _)
  refine v_topi (fun x13 ex13 => ?_)
  replace e := ky_letE ex13 e
  refine v_iast (i := 43) rfl (md_1 hmh11) (ky_inl (by decide)) ?_
  refine bk_st (B := md_B G a) hmh11 frh11 1 252 x13 (by decide) (fun h14 hmh14 frh14 => ?_)
  obtain ⟨q15, eq15⟩ : ∃ z, z = (bk_w q12 1 252 x13) := ⟨_, rfl⟩
  rw [← eq15] at hmh14
  replace e := ky_letE eq15 e
  refine (?_ : ky_V _ _ _ 82 _ _ _ _)
  refine v_aload_n (i := 44) (j := 0) rfl rfl (?_ : ky_V _ _ _ 83 _ _ _ _)
  refine gf_X12_13 rfl (i := 45) rfl (md_0 hmh14) rfl (?_ : ky_V _ _ _ 86 _ _ _ _)
  refine v_sipush (v := 253) (i := 46) rfl (by decide) (?_ : ky_V _ _ _ 89 _ _ _ _)
  refine v_aload_n (i := 47) (j := 0) rfl rfl (?_ : ky_V _ _ _ 90 _ _ _ _)
  refine gf_X12_13 rfl (i := 48) rfl (md_0 hmh14) rfl (?_ : ky_V _ _ _ 93 _ _ _ _)
  refine v_iconst (v := 1) (i := 49) rfl (by decide) (?_ : ky_V _ _ _ 94 _ _ _ _)
  refine v_iald (i := 50) rfl (md_1 hmh14) (ky_inl (by decide)) (?_ : ky_V _ _ _ 95 _ (.int (q15 1 1) :: _) _ _)
  refine v_topi (fun x16 ex16 => ?_)
  replace e := ky_letE ex16 e
  refine v_iast (i := 51) rfl (md_1 hmh14) (ky_inl (by decide)) ?_
  refine bk_st (B := md_B G a) hmh14 frh14 1 253 x16 (by decide) (fun h17 hmh17 frh17 => ?_)
  obtain ⟨q18, eq18⟩ : ∃ z, z = (bk_w q15 1 253 x16) := ⟨_, rfl⟩
  rw [← eq18] at hmh17
  replace e := ky_letE eq18 e
  refine (?_ : ky_V _ _ _ 96 _ _ _ _)
  refine v_aload_n (i := 52) (j := 0) rfl rfl (?_ : ky_V _ _ _ 97 _ _ _ _)
  refine gf_X12_13 rfl (i := 53) rfl (md_0 hmh17) rfl (?_ : ky_V _ _ _ 100 _ _ _ _)
  refine v_bipush (v := 15) (i := 54) rfl (by decide) (?_ : ky_V _ _ _ 102 _ _ _ _)
  refine v_bipush (v := 60) (i := 55) rfl (by decide) (?_ : ky_V _ _ _ 104 _ _ _ _)
  refine v_aload_n (i := 56) (j := 0) rfl rfl (?_ : ky_V _ _ _ 105 _ _ _ _)
  refine gf_X12_13 rfl (i := 57) rfl (md_0 hmh17) rfl (?_ : ky_V _ _ _ 108 _ _ _ _)
  refine v_bipush (v := 15) (i := 58) rfl (by decide) (?_ : ky_V _ _ _ 110 _ _ _ _)
  refine v_iald (i := 59) rfl (md_1 hmh17) (ky_inl (by decide)) (?_ : ky_V _ _ _ 111 _ (.int (q18 1 15) :: _) _ _)
  refine v_iconst (v := 1) (i := 60) rfl (by decide) (?_ : ky_V _ _ _ 112 _ _ _ _)
  refine v_iadd (i := 61) rfl (?_ : ky_V _ _ _ 113 _ _ _ _)
  refine cl_X12_260 rfl (i := 62) rfl (Nat.le_of_ble_eq_true rfl) (?_ : ky_V _ _ _ 116 _ _ _ _)
  refine v_topi (fun x19 ex19 => ?_)
  replace e := ky_letE ex19 e
  refine v_iast (i := 63) rfl (md_1 hmh17) (ky_inl (by decide)) ?_
  refine bk_st (B := md_B G a) hmh17 frh17 1 15 x19 (by decide) (fun h20 hmh20 frh20 => ?_)
  obtain ⟨q21, eq21⟩ : ∃ z, z = (bk_w q18 1 15 x19) := ⟨_, rfl⟩
  rw [← eq21] at hmh20
  replace e := ky_letE eq21 e
  refine (?_ : ky_V _ _ _ 117 _ _ _ _)
  refine v_vret (i := 64) rfl rfl ?_
  obtain ⟨rfl, rfl⟩ := ky_leaf e
  exact hr _ hmh20 frh20

def md_pull (N : Nat) (c : (Nat → Nat → Int32)) (p1 : Int32) : Option ((Nat → Nat → Int32) × Int32) := (ky_let (bk_w c 0 0 0) (fun q2 => (if (md_in p1 1 20) = 0 then (ky_let (md_throwsIf_r q2 1 1) (fun x40 => (ky_let (md_throwsIf_c q2 1 1) (fun q39 => (if x40 = 0 then (if (md_isOver_r q39) = 0 ∨ (md_isOver_r q39) = 1 then (ky_let (md_throwsIf_r q39 (md_isOver_r q39) 2) (fun x45 => (ky_let (md_throwsIf_c q39 (md_isOver_r q39) 2) (fun q44 => (if x45 = 0 then ((md_remembers N q44).bind (fun zz => (fun q48 x49 => (ky_let (q48 1 7) (fun x51 => (ky_let (md_looks_c q48) (fun q53 => (ky_let (md_pulledBy_r q53 p1) (fun x54 => (ky_let (md_less (q53 9 0) x54) (fun x55 => (ky_let (bk_w q53 9 0 x55) (fun q57 => (ky_let (md_less (q57 9 1) x54) (fun x58 => (ky_let (bk_w q57 9 1 x58) (fun q60 => (ky_let (md_isNow_c q60) (fun q62 => (ky_let (md_goesBy_c q62 2) (fun q64 => (ky_let (mt_min 999 ((q64 1 6) + (mt_max 0 (p1 - 8)))) (fun x65 => (ky_let (bk_w q64 1 6 x65) (fun q67 => ((md_tells N q67 x51 7 2).bind (fun zz => (fun q69 x70 => (some (q69, (q69 1 6)))) zz.1 zz.2))))))))))))))))))))))))) zz.1 zz.2)) else (some (q44, 0))))))) else none) else (some (q39, 0))))))) else (ky_let (md_throwsIf_r q2 0 1) (fun x6 => (ky_let (md_throwsIf_c q2 0 1) (fun q5 => (if x6 = 0 then (if (md_isOver_r q5) = 0 ∨ (md_isOver_r q5) = 1 then (ky_let (md_throwsIf_r q5 (md_isOver_r q5) 2) (fun x11 => (ky_let (md_throwsIf_c q5 (md_isOver_r q5) 2) (fun q10 => (if x11 = 0 then ((md_remembers N q10).bind (fun zz => (fun q14 x15 => (ky_let (q14 1 7) (fun x17 => (ky_let (md_looks_c q14) (fun q19 => (ky_let (md_pulledBy_r q19 p1) (fun x20 => (ky_let (md_less (q19 9 0) x20) (fun x21 => (ky_let (bk_w q19 9 0 x21) (fun q23 => (ky_let (md_less (q23 9 1) x20) (fun x24 => (ky_let (bk_w q23 9 1 x24) (fun q26 => (ky_let (md_isNow_c q26) (fun q28 => (ky_let (md_goesBy_c q28 2) (fun q30 => (ky_let (mt_min 999 ((q30 1 6) + (mt_max 0 (p1 - 8)))) (fun x31 => (ky_let (bk_w q30 1 6 x31) (fun q33 => ((md_tells N q33 x17 7 2).bind (fun zz => (fun q35 x36 => (some (q35, (q35 1 6)))) zz.1 zz.2))))))))))))))))))))))))) zz.1 zz.2)) else (some (q10, 0))))))) else none) else (some (q5, 0))))))))))
set_option maxRecDepth 20000 in
set_option maxHeartbeats 4000000 in
theorem k_X12_pull {G : ky_GW} {d : Nat} {h : ky_HP} {Q : ky_RS → ky_HP → Prop} {a : Nat} {c c9 : (Nat → Nat → Int32)} {r9 : Int32} {p1 : Int32} (N : Nat) (hm : md_at G h a c) (e : md_pull N c p1 = some (c9, r9)) (hr : ∀ h1, md_at G h1 a c9 → bk_fr a 13 h h1 → Q (.inl (some (.int r9))) h1) : ky_Call G (d + 3) M_X12_pull [.ref a, .int p1] h Q := by
  refine ky_ofV (by decide +kernel) rfl ok_X12_pull (Nat.le_of_ble_eq_true rfl) ?_
  have fr : bk_fr a 13 h h := bk_fr.rf
  unfold md_pull at e
  refine (?_ : ky_V _ _ _ 0 [(0, .ref a), (1, .int p1)] [] _ _)
  refine v_aload_n (i := 0) (j := 0) rfl rfl (?_ : ky_V _ _ _ 1 _ _ _ _)
  refine v_iconst (v := 0) (i := 1) rfl (by decide) (?_ : ky_V _ _ _ 2 _ _ _ _)
  refine pf_X12_3 rfl (i := 2) rfl (md_0 hm) (Nat.le_of_ble_eq_true rfl) rfl rfl ?_
  refine bk_st (B := md_B G a) hm fr 0 0 0 (by decide) (fun h1 hmh1 frh1 => ?_)
  obtain ⟨q2, eq2⟩ : ∃ z, z = (bk_w c 0 0 0) := ⟨_, rfl⟩
  rw [← eq2] at hmh1
  replace e := ky_letE eq2 e
  refine (?_ : ky_V _ _ _ 5 _ _ _ _)
  refine v_aload_n (i := 3) (j := 0) rfl rfl (?_ : ky_V _ _ _ 6 _ _ _ _)
  refine v_iload_n (i := 4) (j := 1) rfl rfl (?_ : ky_V _ _ _ 7 _ _ _ _)
  refine v_iconst (v := 1) (i := 5) rfl (by decide) (?_ : ky_V _ _ _ 8 _ _ _ _)
  refine v_bipush (v := 20) (i := 6) rfl (by decide) (?_ : ky_V _ _ _ 10 _ _ _ _)
  refine cl_X12_65 (As := [.int p1, .int 1, .int 20]) rfl (i := 7) rfl rfl rfl (Nat.le_of_ble_eq_true rfl) (k_X12_in p1 1 20 ⟨_, rfl, (?_ : ky_V _ _ _ 13 _ [.int ((md_in p1 1 20)), .ref a] _ _)⟩)
  refine v_if_ne (tgt := 20) (i := 8) rfl (by decide) (fun c3 => ?_) (fun c3 => ?_)
  · replace e := ky_ifF c3 e
    refine v_iconst (v := 0) (i := 11) rfl (by decide) (?_ : ky_V _ _ _ 21 _ _ _ _)
    refine v_iconst (v := 1) (i := 12) rfl (by decide) (?_ : ky_V _ _ _ 22 _ _ _ _)
    refine cl_X12_241 (As := [.int 0, .int 1]) rfl (i := 13) rfl (md_0 hmh1) rfl rfl (Nat.le_of_ble_eq_true rfl) (k_X12_throwsIf 0 1 hmh1 (by decide) (fun h4 hmh4 frh4 => ⟨_, rfl, (?_ : ky_V _ _ _ 25 _ [.int ((md_throwsIf_r q2 0 1))] _ _)⟩))
    have frh4 := frh1.tr frh4
    refine v_topi (fun x6 ex6 => ?_)
    replace e := ky_letE ex6 e
    obtain ⟨q5, eq5⟩ : ∃ z, z = (md_throwsIf_c q2 0 1) := ⟨_, rfl⟩
    rw [← eq5] at hmh4
    replace e := ky_letE eq5 e
    refine v_if_ne (tgt := 40) (i := 14) rfl (by decide) (fun c7 => ?_) (fun c7 => ?_)
    · replace e := ky_ifF c7 e
      refine v_iconst (v := 0) (i := 21) rfl (by decide) (?_ : ky_V _ _ _ 41 _ _ _ _)
      refine v_iret (v := 0) (ty := .int) (i := 22) rfl rfl rfl ?_
      obtain ⟨rfl, rfl⟩ := ky_leaf e
      exact hr _ hmh4 frh4
    · replace e := ky_ifT c7 e
      refine v_aload_n (i := 15) (j := 0) rfl rfl (?_ : ky_V _ _ _ 29 _ _ _ _)
      refine v_aload_n (i := 16) (j := 0) rfl rfl (?_ : ky_V _ _ _ 30 _ _ _ _)
      refine cl_X12_370 (As := []) rfl (i := 17) rfl (md_0 hmh4) rfl rfl (Nat.le_of_ble_eq_true rfl) (k_X12_isOver hmh4 ⟨_, rfl, (?_ : ky_V _ _ _ 33 _ [.int ((md_isOver_r q5)), .ref a] _ _)⟩)
      refine v_iconst (v := 2) (i := 18) rfl (by decide) (?_ : ky_V _ _ _ 34 _ _ _ _)
      obtain ⟨z8, e⟩ := ky_chkE e
      refine cl_X12_241 (As := [.int ((md_isOver_r q5)), .int 2]) rfl (i := 19) rfl (md_0 hmh4) rfl rfl (Nat.le_of_ble_eq_true rfl) (k_X12_throwsIf (md_isOver_r q5) 2 hmh4 z8 (fun h9 hmh9 frh9 => ⟨_, rfl, (?_ : ky_V _ _ _ 37 _ [.int ((md_throwsIf_r q5 (md_isOver_r q5) 2))] _ _)⟩))
      have frh9 := frh4.tr frh9
      refine v_topi (fun x11 ex11 => ?_)
      replace e := ky_letE ex11 e
      obtain ⟨q10, eq10⟩ : ∃ z, z = (md_throwsIf_c q5 (md_isOver_r q5) 2) := ⟨_, rfl⟩
      rw [← eq10] at hmh9
      replace e := ky_letE eq10 e
      refine v_if_eq (tgt := 42) (i := 20) rfl (by decide) (fun c12 => ?_) (fun c12 => ?_)
      · replace e := ky_ifT c12 e
        refine v_aload_n (i := 23) (j := 0) rfl rfl (?_ : ky_V _ _ _ 43 _ _ _ _)
        obtain ⟨⟨q14, x15⟩, g16, e⟩ := Option.bind_eq_some_iff.mp e
        refine cl_X12_373 (As := []) rfl (i := 24) rfl (md_0 hmh9) rfl rfl (Nat.le_of_ble_eq_true rfl) (k_X12_remembers N hmh9 g16 (fun h13 hmh13 frh13 => ⟨_, rfl, (?_ : ky_V _ _ _ 46 _ [] _ _)⟩))
        have frh13 := frh9.tr frh13
        refine v_aload_n (i := 25) (j := 0) rfl rfl (?_ : ky_V _ _ _ 47 _ _ _ _)
        refine gf_X12_13 rfl (i := 26) rfl (md_0 hmh13) rfl (?_ : ky_V _ _ _ 50 _ _ _ _)
        refine v_bipush (v := 7) (i := 27) rfl (by decide) (?_ : ky_V _ _ _ 52 _ _ _ _)
        refine v_iald (i := 28) rfl (md_1 hmh13) (ky_inl (by decide)) (?_ : ky_V _ _ _ 53 _ (.int (q14 1 7) :: _) _ _)
        refine v_topi (fun x17 ex17 => ?_)
        replace e := ky_letE ex17 e
        refine v_istore_n (L' := [(0, .ref a), (1, .int p1), (2, .int x17)]) [1, 2, 0] (i := 29) rfl (Nat.le_of_ble_eq_true rfl) rfl (?_ : ky_V _ _ _ 54 _ _ _ _)
        refine v_aload_n (i := 30) (j := 0) rfl rfl (?_ : ky_V _ _ _ 55 _ _ _ _)
        refine cl_X12_285 (As := []) rfl (i := 31) rfl (md_0 hmh13) rfl rfl (Nat.le_of_ble_eq_true rfl) (k_X12_looks hmh13 (fun h18 hmh18 frh18 => ⟨_, rfl, (?_ : ky_V _ _ _ 58 _ [] _ _)⟩))
        have frh18 := frh13.tr frh18
        obtain ⟨q19, eq19⟩ : ∃ z, z = (md_looks_c q14) := ⟨_, rfl⟩
        rw [← eq19] at hmh18
        replace e := ky_letE eq19 e
        refine v_aload_n (i := 32) (j := 0) rfl rfl (?_ : ky_V _ _ _ 59 _ _ _ _)
        refine v_iload_n (i := 33) (j := 1) rfl rfl (?_ : ky_V _ _ _ 60 _ _ _ _)
        refine cl_X12_339 (As := [.int p1]) rfl (i := 34) rfl (md_0 hmh18) rfl rfl (Nat.le_of_ble_eq_true rfl) (k_X12_pulledBy p1 hmh18 ⟨_, rfl, (?_ : ky_V _ _ _ 63 _ [.int ((md_pulledBy_r q19 p1))] _ _)⟩)
        refine v_topi (fun x20 ex20 => ?_)
        replace e := ky_letE ex20 e
        refine v_istore_n (L' := [(0, .ref a), (1, .int p1), (2, .int x17), (3, .int x20)]) [1, 2, 3, 0] (i := 35) rfl (Nat.le_of_ble_eq_true rfl) rfl (?_ : ky_V _ _ _ 64 _ _ _ _)
        refine v_aload_n (i := 36) (j := 0) rfl rfl (?_ : ky_V _ _ _ 65 _ _ _ _)
        refine gf_X12_42 rfl (i := 37) rfl (md_0 hmh18) rfl (?_ : ky_V _ _ _ 68 _ _ _ _)
        refine v_iconst (v := 0) (i := 38) rfl (by decide) (?_ : ky_V _ _ _ 69 _ _ _ _)
        refine v_aload_n (i := 39) (j := 0) rfl rfl (?_ : ky_V _ _ _ 70 _ _ _ _)
        refine gf_X12_42 rfl (i := 40) rfl (md_0 hmh18) rfl (?_ : ky_V _ _ _ 73 _ _ _ _)
        refine v_iconst (v := 0) (i := 41) rfl (by decide) (?_ : ky_V _ _ _ 74 _ _ _ _)
        refine v_iald (i := 42) rfl (md_9 hmh18) (ky_inl (by decide)) (?_ : ky_V _ _ _ 75 _ (.int (q19 9 0) :: _) _ _)
        refine v_iload_n (i := 43) (j := 3) rfl rfl (?_ : ky_V _ _ _ 76 _ _ _ _)
        refine cl_X12_273 (As := [.int ((q19 9 0)), .int x20]) rfl (i := 44) rfl rfl rfl (Nat.le_of_ble_eq_true rfl) (k_X12_less (q19 9 0) x20 ⟨_, rfl, (?_ : ky_V _ _ _ 79 _ [.int ((md_less (q19 9 0) x20)), .int 0, .ref ((a + 9))] _ _)⟩)
        refine v_topi (fun x21 ex21 => ?_)
        replace e := ky_letE ex21 e
        refine v_iast (i := 45) rfl (md_9 hmh18) (ky_inl (by decide)) ?_
        refine bk_st (B := md_B G a) hmh18 frh18 9 0 x21 (by decide) (fun h22 hmh22 frh22 => ?_)
        obtain ⟨q23, eq23⟩ : ∃ z, z = (bk_w q19 9 0 x21) := ⟨_, rfl⟩
        rw [← eq23] at hmh22
        replace e := ky_letE eq23 e
        refine (?_ : ky_V _ _ _ 80 _ _ _ _)
        refine v_aload_n (i := 46) (j := 0) rfl rfl (?_ : ky_V _ _ _ 81 _ _ _ _)
        refine gf_X12_42 rfl (i := 47) rfl (md_0 hmh22) rfl (?_ : ky_V _ _ _ 84 _ _ _ _)
        refine v_iconst (v := 1) (i := 48) rfl (by decide) (?_ : ky_V _ _ _ 85 _ _ _ _)
        refine v_aload_n (i := 49) (j := 0) rfl rfl (?_ : ky_V _ _ _ 86 _ _ _ _)
        refine gf_X12_42 rfl (i := 50) rfl (md_0 hmh22) rfl (?_ : ky_V _ _ _ 89 _ _ _ _)
        refine v_iconst (v := 1) (i := 51) rfl (by decide) (?_ : ky_V _ _ _ 90 _ _ _ _)
        refine v_iald (i := 52) rfl (md_9 hmh22) (ky_inl (by decide)) (?_ : ky_V _ _ _ 91 _ (.int (q23 9 1) :: _) _ _)
        refine v_iload_n (i := 53) (j := 3) rfl rfl (?_ : ky_V _ _ _ 92 _ _ _ _)
        refine cl_X12_273 (As := [.int ((q23 9 1)), .int x20]) rfl (i := 54) rfl rfl rfl (Nat.le_of_ble_eq_true rfl) (k_X12_less (q23 9 1) x20 ⟨_, rfl, (?_ : ky_V _ _ _ 95 _ [.int ((md_less (q23 9 1) x20)), .int 1, .ref ((a + 9))] _ _)⟩)
        refine v_topi (fun x24 ex24 => ?_)
        replace e := ky_letE ex24 e
        refine v_iast (i := 55) rfl (md_9 hmh22) (ky_inl (by decide)) ?_
        refine bk_st (B := md_B G a) hmh22 frh22 9 1 x24 (by decide) (fun h25 hmh25 frh25 => ?_)
        obtain ⟨q26, eq26⟩ : ∃ z, z = (bk_w q23 9 1 x24) := ⟨_, rfl⟩
        rw [← eq26] at hmh25
        replace e := ky_letE eq26 e
        refine (?_ : ky_V _ _ _ 96 _ _ _ _)
        refine v_aload_n (i := 56) (j := 0) rfl rfl (?_ : ky_V _ _ _ 97 _ _ _ _)
        refine cl_X12_357 (As := []) rfl (i := 57) rfl (md_0 hmh25) rfl rfl (Nat.le_of_ble_eq_true rfl) (k_X12_isNow hmh25 (fun h27 hmh27 frh27 => ⟨_, rfl, (?_ : ky_V _ _ _ 100 _ [] _ _)⟩))
        have frh27 := frh25.tr frh27
        obtain ⟨q28, eq28⟩ : ∃ z, z = (md_isNow_c q26) := ⟨_, rfl⟩
        rw [← eq28] at hmh27
        replace e := ky_letE eq28 e
        refine v_aload_n (i := 58) (j := 0) rfl rfl (?_ : ky_V _ _ _ 101 _ _ _ _)
        refine v_iconst (v := 2) (i := 59) rfl (by decide) (?_ : ky_V _ _ _ 102 _ _ _ _)
        refine cl_X12_360 (As := [.int 2]) rfl (i := 60) rfl (md_0 hmh27) rfl rfl (Nat.le_of_ble_eq_true rfl) (k_X12_goesBy 2 hmh27 (fun h29 hmh29 frh29 => ⟨_, rfl, (?_ : ky_V _ _ _ 105 _ [] _ _)⟩))
        have frh29 := frh27.tr frh29
        obtain ⟨q30, eq30⟩ : ∃ z, z = (md_goesBy_c q28 2) := ⟨_, rfl⟩
        rw [← eq30] at hmh29
        replace e := ky_letE eq30 e
        refine v_aload_n (i := 61) (j := 0) rfl rfl (?_ : ky_V _ _ _ 106 _ _ _ _)
        refine gf_X12_13 rfl (i := 62) rfl (md_0 hmh29) rfl (?_ : ky_V _ _ _ 109 _ _ _ _)
        refine v_bipush (v := 6) (i := 63) rfl (by decide) (?_ : ky_V _ _ _ 111 _ _ _ _)
        refine v_sipush (v := 999) (i := 64) rfl (by decide) (?_ : ky_V _ _ _ 114 _ _ _ _)
        refine v_aload_n (i := 65) (j := 0) rfl rfl (?_ : ky_V _ _ _ 115 _ _ _ _)
        refine gf_X12_13 rfl (i := 66) rfl (md_0 hmh29) rfl (?_ : ky_V _ _ _ 118 _ _ _ _)
        refine v_bipush (v := 6) (i := 67) rfl (by decide) (?_ : ky_V _ _ _ 120 _ _ _ _)
        refine v_iald (i := 68) rfl (md_1 hmh29) (ky_inl (by decide)) (?_ : ky_V _ _ _ 121 _ (.int (q30 1 6) :: _) _ _)
        refine v_iconst (v := 0) (i := 69) rfl (by decide) (?_ : ky_V _ _ _ 122 _ _ _ _)
        refine v_iload_n (i := 70) (j := 1) rfl rfl (?_ : ky_V _ _ _ 123 _ _ _ _)
        refine v_bipush (v := 8) (i := 71) rfl (by decide) (?_ : ky_V _ _ _ 125 _ _ _ _)
        refine v_isub (i := 72) rfl (?_ : ky_V _ _ _ 126 _ _ _ _)
        refine cl_X12_255 rfl (i := 73) rfl (Nat.le_of_ble_eq_true rfl) (?_ : ky_V _ _ _ 129 _ _ _ _)
        refine v_iadd (i := 74) rfl (?_ : ky_V _ _ _ 130 _ _ _ _)
        refine cl_X12_260 rfl (i := 75) rfl (Nat.le_of_ble_eq_true rfl) (?_ : ky_V _ _ _ 133 _ _ _ _)
        refine v_topi (fun x31 ex31 => ?_)
        replace e := ky_letE ex31 e
        refine v_iast (i := 76) rfl (md_1 hmh29) (ky_inl (by decide)) ?_
        refine bk_st (B := md_B G a) hmh29 frh29 1 6 x31 (by decide) (fun h32 hmh32 frh32 => ?_)
        obtain ⟨q33, eq33⟩ : ∃ z, z = (bk_w q30 1 6 x31) := ⟨_, rfl⟩
        rw [← eq33] at hmh32
        replace e := ky_letE eq33 e
        refine (?_ : ky_V _ _ _ 134 _ _ _ _)
        refine v_aload_n (i := 77) (j := 0) rfl rfl (?_ : ky_V _ _ _ 135 _ _ _ _)
        refine v_iload_n (i := 78) (j := 2) rfl rfl (?_ : ky_V _ _ _ 136 _ _ _ _)
        refine v_bipush (v := 7) (i := 79) rfl (by decide) (?_ : ky_V _ _ _ 138 _ _ _ _)
        refine v_iconst (v := 2) (i := 80) rfl (by decide) (?_ : ky_V _ _ _ 139 _ _ _ _)
        obtain ⟨⟨q35, x36⟩, g37, e⟩ := Option.bind_eq_some_iff.mp e
        refine cl_X12_363 (As := [.int x17, .int 7, .int 2]) rfl (i := 81) rfl (md_0 hmh32) rfl rfl (Nat.le_of_ble_eq_true rfl) (k_X12_tells N hmh32 g37 (fun h34 hmh34 frh34 => ⟨_, rfl, (?_ : ky_V _ _ _ 142 _ [] _ _)⟩))
        have frh34 := frh32.tr frh34
        refine v_aload_n (i := 82) (j := 0) rfl rfl (?_ : ky_V _ _ _ 143 _ _ _ _)
        refine gf_X12_13 rfl (i := 83) rfl (md_0 hmh34) rfl (?_ : ky_V _ _ _ 146 _ _ _ _)
        refine v_bipush (v := 6) (i := 84) rfl (by decide) (?_ : ky_V _ _ _ 148 _ _ _ _)
        refine v_iald (i := 85) rfl (md_1 hmh34) (ky_inl (by decide)) (?_ : ky_V _ _ _ 149 _ (.int (q35 1 6) :: _) _ _)
        refine v_iret (v := (q35 1 6)) (ty := .int) (i := 86) rfl rfl rfl ?_
        obtain ⟨rfl, rfl⟩ := ky_leaf e
        exact hr _ hmh34 frh34
      · replace e := ky_ifF c12 e
        refine v_iconst (v := 0) (i := 21) rfl (by decide) (?_ : ky_V _ _ _ 41 _ _ _ _)
        refine v_iret (v := 0) (ty := .int) (i := 22) rfl rfl rfl ?_
        obtain ⟨rfl, rfl⟩ := ky_leaf e
        exact hr _ hmh9 frh9
  · replace e := ky_ifT c3 e
    refine v_iconst (v := 1) (i := 9) rfl (by decide) (?_ : ky_V _ _ _ 17 _ _ _ _)
    refine v_goto (tgt := 21) (i := 10) rfl (by decide) (?_ : ky_V _ _ _ 21 _ _ _ _)
    refine v_iconst (v := 1) (i := 12) rfl (by decide) (?_ : ky_V _ _ _ 22 _ _ _ _)
    refine cl_X12_241 (As := [.int 1, .int 1]) rfl (i := 13) rfl (md_0 hmh1) rfl rfl (Nat.le_of_ble_eq_true rfl) (k_X12_throwsIf 1 1 hmh1 (by decide) (fun h38 hmh38 frh38 => ⟨_, rfl, (?_ : ky_V _ _ _ 25 _ [.int ((md_throwsIf_r q2 1 1))] _ _)⟩))
    have frh38 := frh1.tr frh38
    refine v_topi (fun x40 ex40 => ?_)
    replace e := ky_letE ex40 e
    obtain ⟨q39, eq39⟩ : ∃ z, z = (md_throwsIf_c q2 1 1) := ⟨_, rfl⟩
    rw [← eq39] at hmh38
    replace e := ky_letE eq39 e
    refine v_if_ne (tgt := 40) (i := 14) rfl (by decide) (fun c41 => ?_) (fun c41 => ?_)
    · replace e := ky_ifF c41 e
      refine v_iconst (v := 0) (i := 21) rfl (by decide) (?_ : ky_V _ _ _ 41 _ _ _ _)
      refine v_iret (v := 0) (ty := .int) (i := 22) rfl rfl rfl ?_
      obtain ⟨rfl, rfl⟩ := ky_leaf e
      exact hr _ hmh38 frh38
    · replace e := ky_ifT c41 e
      refine v_aload_n (i := 15) (j := 0) rfl rfl (?_ : ky_V _ _ _ 29 _ _ _ _)
      refine v_aload_n (i := 16) (j := 0) rfl rfl (?_ : ky_V _ _ _ 30 _ _ _ _)
      refine cl_X12_370 (As := []) rfl (i := 17) rfl (md_0 hmh38) rfl rfl (Nat.le_of_ble_eq_true rfl) (k_X12_isOver hmh38 ⟨_, rfl, (?_ : ky_V _ _ _ 33 _ [.int ((md_isOver_r q39)), .ref a] _ _)⟩)
      refine v_iconst (v := 2) (i := 18) rfl (by decide) (?_ : ky_V _ _ _ 34 _ _ _ _)
      obtain ⟨z42, e⟩ := ky_chkE e
      refine cl_X12_241 (As := [.int ((md_isOver_r q39)), .int 2]) rfl (i := 19) rfl (md_0 hmh38) rfl rfl (Nat.le_of_ble_eq_true rfl) (k_X12_throwsIf (md_isOver_r q39) 2 hmh38 z42 (fun h43 hmh43 frh43 => ⟨_, rfl, (?_ : ky_V _ _ _ 37 _ [.int ((md_throwsIf_r q39 (md_isOver_r q39) 2))] _ _)⟩))
      have frh43 := frh38.tr frh43
      refine v_topi (fun x45 ex45 => ?_)
      replace e := ky_letE ex45 e
      obtain ⟨q44, eq44⟩ : ∃ z, z = (md_throwsIf_c q39 (md_isOver_r q39) 2) := ⟨_, rfl⟩
      rw [← eq44] at hmh43
      replace e := ky_letE eq44 e
      refine v_if_eq (tgt := 42) (i := 20) rfl (by decide) (fun c46 => ?_) (fun c46 => ?_)
      · replace e := ky_ifT c46 e
        refine v_aload_n (i := 23) (j := 0) rfl rfl (?_ : ky_V _ _ _ 43 _ _ _ _)
        obtain ⟨⟨q48, x49⟩, g50, e⟩ := Option.bind_eq_some_iff.mp e
        refine cl_X12_373 (As := []) rfl (i := 24) rfl (md_0 hmh43) rfl rfl (Nat.le_of_ble_eq_true rfl) (k_X12_remembers N hmh43 g50 (fun h47 hmh47 frh47 => ⟨_, rfl, (?_ : ky_V _ _ _ 46 _ [] _ _)⟩))
        have frh47 := frh43.tr frh47
        refine v_aload_n (i := 25) (j := 0) rfl rfl (?_ : ky_V _ _ _ 47 _ _ _ _)
        refine gf_X12_13 rfl (i := 26) rfl (md_0 hmh47) rfl (?_ : ky_V _ _ _ 50 _ _ _ _)
        refine v_bipush (v := 7) (i := 27) rfl (by decide) (?_ : ky_V _ _ _ 52 _ _ _ _)
        refine v_iald (i := 28) rfl (md_1 hmh47) (ky_inl (by decide)) (?_ : ky_V _ _ _ 53 _ (.int (q48 1 7) :: _) _ _)
        refine v_topi (fun x51 ex51 => ?_)
        replace e := ky_letE ex51 e
        refine v_istore_n (L' := [(0, .ref a), (1, .int p1), (2, .int x51)]) [1, 2, 0] (i := 29) rfl (Nat.le_of_ble_eq_true rfl) rfl (?_ : ky_V _ _ _ 54 _ _ _ _)
        refine v_aload_n (i := 30) (j := 0) rfl rfl (?_ : ky_V _ _ _ 55 _ _ _ _)
        refine cl_X12_285 (As := []) rfl (i := 31) rfl (md_0 hmh47) rfl rfl (Nat.le_of_ble_eq_true rfl) (k_X12_looks hmh47 (fun h52 hmh52 frh52 => ⟨_, rfl, (?_ : ky_V _ _ _ 58 _ [] _ _)⟩))
        have frh52 := frh47.tr frh52
        obtain ⟨q53, eq53⟩ : ∃ z, z = (md_looks_c q48) := ⟨_, rfl⟩
        rw [← eq53] at hmh52
        replace e := ky_letE eq53 e
        refine v_aload_n (i := 32) (j := 0) rfl rfl (?_ : ky_V _ _ _ 59 _ _ _ _)
        refine v_iload_n (i := 33) (j := 1) rfl rfl (?_ : ky_V _ _ _ 60 _ _ _ _)
        refine cl_X12_339 (As := [.int p1]) rfl (i := 34) rfl (md_0 hmh52) rfl rfl (Nat.le_of_ble_eq_true rfl) (k_X12_pulledBy p1 hmh52 ⟨_, rfl, (?_ : ky_V _ _ _ 63 _ [.int ((md_pulledBy_r q53 p1))] _ _)⟩)
        refine v_topi (fun x54 ex54 => ?_)
        replace e := ky_letE ex54 e
        refine v_istore_n (L' := [(0, .ref a), (1, .int p1), (2, .int x51), (3, .int x54)]) [1, 2, 3, 0] (i := 35) rfl (Nat.le_of_ble_eq_true rfl) rfl (?_ : ky_V _ _ _ 64 _ _ _ _)
        refine v_aload_n (i := 36) (j := 0) rfl rfl (?_ : ky_V _ _ _ 65 _ _ _ _)
        refine gf_X12_42 rfl (i := 37) rfl (md_0 hmh52) rfl (?_ : ky_V _ _ _ 68 _ _ _ _)
        refine v_iconst (v := 0) (i := 38) rfl (by decide) (?_ : ky_V _ _ _ 69 _ _ _ _)
        refine v_aload_n (i := 39) (j := 0) rfl rfl (?_ : ky_V _ _ _ 70 _ _ _ _)
        refine gf_X12_42 rfl (i := 40) rfl (md_0 hmh52) rfl (?_ : ky_V _ _ _ 73 _ _ _ _)
        refine v_iconst (v := 0) (i := 41) rfl (by decide) (?_ : ky_V _ _ _ 74 _ _ _ _)
        refine v_iald (i := 42) rfl (md_9 hmh52) (ky_inl (by decide)) (?_ : ky_V _ _ _ 75 _ (.int (q53 9 0) :: _) _ _)
        refine v_iload_n (i := 43) (j := 3) rfl rfl (?_ : ky_V _ _ _ 76 _ _ _ _)
        refine cl_X12_273 (As := [.int ((q53 9 0)), .int x54]) rfl (i := 44) rfl rfl rfl (Nat.le_of_ble_eq_true rfl) (k_X12_less (q53 9 0) x54 ⟨_, rfl, (?_ : ky_V _ _ _ 79 _ [.int ((md_less (q53 9 0) x54)), .int 0, .ref ((a + 9))] _ _)⟩)
        refine v_topi (fun x55 ex55 => ?_)
        replace e := ky_letE ex55 e
        refine v_iast (i := 45) rfl (md_9 hmh52) (ky_inl (by decide)) ?_
        refine bk_st (B := md_B G a) hmh52 frh52 9 0 x55 (by decide) (fun h56 hmh56 frh56 => ?_)
        obtain ⟨q57, eq57⟩ : ∃ z, z = (bk_w q53 9 0 x55) := ⟨_, rfl⟩
        rw [← eq57] at hmh56
        replace e := ky_letE eq57 e
        refine (?_ : ky_V _ _ _ 80 _ _ _ _)
        refine v_aload_n (i := 46) (j := 0) rfl rfl (?_ : ky_V _ _ _ 81 _ _ _ _)
        refine gf_X12_42 rfl (i := 47) rfl (md_0 hmh56) rfl (?_ : ky_V _ _ _ 84 _ _ _ _)
        refine v_iconst (v := 1) (i := 48) rfl (by decide) (?_ : ky_V _ _ _ 85 _ _ _ _)
        refine v_aload_n (i := 49) (j := 0) rfl rfl (?_ : ky_V _ _ _ 86 _ _ _ _)
        refine gf_X12_42 rfl (i := 50) rfl (md_0 hmh56) rfl (?_ : ky_V _ _ _ 89 _ _ _ _)
        refine v_iconst (v := 1) (i := 51) rfl (by decide) (?_ : ky_V _ _ _ 90 _ _ _ _)
        refine v_iald (i := 52) rfl (md_9 hmh56) (ky_inl (by decide)) (?_ : ky_V _ _ _ 91 _ (.int (q57 9 1) :: _) _ _)
        refine v_iload_n (i := 53) (j := 3) rfl rfl (?_ : ky_V _ _ _ 92 _ _ _ _)
        refine cl_X12_273 (As := [.int ((q57 9 1)), .int x54]) rfl (i := 54) rfl rfl rfl (Nat.le_of_ble_eq_true rfl) (k_X12_less (q57 9 1) x54 ⟨_, rfl, (?_ : ky_V _ _ _ 95 _ [.int ((md_less (q57 9 1) x54)), .int 1, .ref ((a + 9))] _ _)⟩)
        refine v_topi (fun x58 ex58 => ?_)
        replace e := ky_letE ex58 e
        refine v_iast (i := 55) rfl (md_9 hmh56) (ky_inl (by decide)) ?_
        refine bk_st (B := md_B G a) hmh56 frh56 9 1 x58 (by decide) (fun h59 hmh59 frh59 => ?_)
        obtain ⟨q60, eq60⟩ : ∃ z, z = (bk_w q57 9 1 x58) := ⟨_, rfl⟩
        rw [← eq60] at hmh59
        replace e := ky_letE eq60 e
        refine (?_ : ky_V _ _ _ 96 _ _ _ _)
        refine v_aload_n (i := 56) (j := 0) rfl rfl (?_ : ky_V _ _ _ 97 _ _ _ _)
        refine cl_X12_357 (As := []) rfl (i := 57) rfl (md_0 hmh59) rfl rfl (Nat.le_of_ble_eq_true rfl) (k_X12_isNow hmh59 (fun h61 hmh61 frh61 => ⟨_, rfl, (?_ : ky_V _ _ _ 100 _ [] _ _)⟩))
        have frh61 := frh59.tr frh61
        obtain ⟨q62, eq62⟩ : ∃ z, z = (md_isNow_c q60) := ⟨_, rfl⟩
        rw [← eq62] at hmh61
        replace e := ky_letE eq62 e
        refine v_aload_n (i := 58) (j := 0) rfl rfl (?_ : ky_V _ _ _ 101 _ _ _ _)
        refine v_iconst (v := 2) (i := 59) rfl (by decide) (?_ : ky_V _ _ _ 102 _ _ _ _)
        refine cl_X12_360 (As := [.int 2]) rfl (i := 60) rfl (md_0 hmh61) rfl rfl (Nat.le_of_ble_eq_true rfl) (k_X12_goesBy 2 hmh61 (fun h63 hmh63 frh63 => ⟨_, rfl, (?_ : ky_V _ _ _ 105 _ [] _ _)⟩))
        have frh63 := frh61.tr frh63
        obtain ⟨q64, eq64⟩ : ∃ z, z = (md_goesBy_c q62 2) := ⟨_, rfl⟩
        rw [← eq64] at hmh63
        replace e := ky_letE eq64 e
        refine v_aload_n (i := 61) (j := 0) rfl rfl (?_ : ky_V _ _ _ 106 _ _ _ _)
        refine gf_X12_13 rfl (i := 62) rfl (md_0 hmh63) rfl (?_ : ky_V _ _ _ 109 _ _ _ _)
        refine v_bipush (v := 6) (i := 63) rfl (by decide) (?_ : ky_V _ _ _ 111 _ _ _ _)
        refine v_sipush (v := 999) (i := 64) rfl (by decide) (?_ : ky_V _ _ _ 114 _ _ _ _)
        refine v_aload_n (i := 65) (j := 0) rfl rfl (?_ : ky_V _ _ _ 115 _ _ _ _)
        refine gf_X12_13 rfl (i := 66) rfl (md_0 hmh63) rfl (?_ : ky_V _ _ _ 118 _ _ _ _)
        refine v_bipush (v := 6) (i := 67) rfl (by decide) (?_ : ky_V _ _ _ 120 _ _ _ _)
        refine v_iald (i := 68) rfl (md_1 hmh63) (ky_inl (by decide)) (?_ : ky_V _ _ _ 121 _ (.int (q64 1 6) :: _) _ _)
        refine v_iconst (v := 0) (i := 69) rfl (by decide) (?_ : ky_V _ _ _ 122 _ _ _ _)
        refine v_iload_n (i := 70) (j := 1) rfl rfl (?_ : ky_V _ _ _ 123 _ _ _ _)
        refine v_bipush (v := 8) (i := 71) rfl (by decide) (?_ : ky_V _ _ _ 125 _ _ _ _)
        refine v_isub (i := 72) rfl (?_ : ky_V _ _ _ 126 _ _ _ _)
        refine cl_X12_255 rfl (i := 73) rfl (Nat.le_of_ble_eq_true rfl) (?_ : ky_V _ _ _ 129 _ _ _ _)
        refine v_iadd (i := 74) rfl (?_ : ky_V _ _ _ 130 _ _ _ _)
        refine cl_X12_260 rfl (i := 75) rfl (Nat.le_of_ble_eq_true rfl) (?_ : ky_V _ _ _ 133 _ _ _ _)
        refine v_topi (fun x65 ex65 => ?_)
        replace e := ky_letE ex65 e
        refine v_iast (i := 76) rfl (md_1 hmh63) (ky_inl (by decide)) ?_
        refine bk_st (B := md_B G a) hmh63 frh63 1 6 x65 (by decide) (fun h66 hmh66 frh66 => ?_)
        obtain ⟨q67, eq67⟩ : ∃ z, z = (bk_w q64 1 6 x65) := ⟨_, rfl⟩
        rw [← eq67] at hmh66
        replace e := ky_letE eq67 e
        refine (?_ : ky_V _ _ _ 134 _ _ _ _)
        refine v_aload_n (i := 77) (j := 0) rfl rfl (?_ : ky_V _ _ _ 135 _ _ _ _)
        refine v_iload_n (i := 78) (j := 2) rfl rfl (?_ : ky_V _ _ _ 136 _ _ _ _)
        refine v_bipush (v := 7) (i := 79) rfl (by decide) (?_ : ky_V _ _ _ 138 _ _ _ _)
        refine v_iconst (v := 2) (i := 80) rfl (by decide) (?_ : ky_V _ _ _ 139 _ _ _ _)
        obtain ⟨⟨q69, x70⟩, g71, e⟩ := Option.bind_eq_some_iff.mp e
        refine cl_X12_363 (As := [.int x51, .int 7, .int 2]) rfl (i := 81) rfl (md_0 hmh66) rfl rfl (Nat.le_of_ble_eq_true rfl) (k_X12_tells N hmh66 g71 (fun h68 hmh68 frh68 => ⟨_, rfl, (?_ : ky_V _ _ _ 142 _ [] _ _)⟩))
        have frh68 := frh66.tr frh68
        refine v_aload_n (i := 82) (j := 0) rfl rfl (?_ : ky_V _ _ _ 143 _ _ _ _)
        refine gf_X12_13 rfl (i := 83) rfl (md_0 hmh68) rfl (?_ : ky_V _ _ _ 146 _ _ _ _)
        refine v_bipush (v := 6) (i := 84) rfl (by decide) (?_ : ky_V _ _ _ 148 _ _ _ _)
        refine v_iald (i := 85) rfl (md_1 hmh68) (ky_inl (by decide)) (?_ : ky_V _ _ _ 149 _ (.int (q69 1 6) :: _) _ _)
        refine v_iret (v := (q69 1 6)) (ty := .int) (i := 86) rfl rfl rfl ?_
        obtain ⟨rfl, rfl⟩ := ky_leaf e
        exact hr _ hmh68 frh68
      · replace e := ky_ifF c46 e
        refine v_iconst (v := 0) (i := 21) rfl (by decide) (?_ : ky_V _ _ _ 41 _ _ _ _)
        refine v_iret (v := 0) (ty := .int) (i := 22) rfl rfl rfl ?_
        obtain ⟨rfl, rfl⟩ := ky_leaf e
        exact hr _ hmh43 frh43

def md_takesMinute (N : Nat) (c : (Nat → Nat → Int32)) (p1 : Int32) : Option ((Nat → Nat → Int32) × Int32) := ((md_remembers N c).bind (fun zz => (fun q2 x3 => (if ky_inB p1 2247 = true then (ky_let (mt_min 9 ((q2 1 (Int32.toNatClampNeg p1)) + 1)) (fun x6 => (ky_let (bk_w q2 1 (Int32.toNatClampNeg p1) x6) (fun q8 => (ky_let (md_goesBy_c q8 1) (fun q10 => (some (q10, (q10 1 (Int32.toNatClampNeg p1)))))))))) else none)) zz.1 zz.2))
set_option maxRecDepth 20000 in
set_option maxHeartbeats 4000000 in
theorem k_X12_takesMinute {G : ky_GW} {d : Nat} {h : ky_HP} {Q : ky_RS → ky_HP → Prop} {a : Nat} {c c9 : (Nat → Nat → Int32)} {r9 : Int32} {p1 : Int32} (N : Nat) (hm : md_at G h a c) (e : md_takesMinute N c p1 = some (c9, r9)) (hr : ∀ h1, md_at G h1 a c9 → bk_fr a 13 h h1 → Q (.inl (some (.int r9))) h1) : ky_Call G (d + 2) M_X12_takesMinute [.ref a, .int p1] h Q := by
  refine ky_ofV (by decide +kernel) rfl ok_X12_takesMinute (Nat.le_of_ble_eq_true rfl) ?_
  have fr : bk_fr a 13 h h := bk_fr.rf
  unfold md_takesMinute at e
  refine (?_ : ky_V _ _ _ 0 [(0, .ref a), (1, .int p1)] [] _ _)
  refine v_aload_n (i := 0) (j := 0) rfl rfl (?_ : ky_V _ _ _ 1 _ _ _ _)
  obtain ⟨⟨q2, x3⟩, g4, e⟩ := Option.bind_eq_some_iff.mp e
  refine cl_X12_373 (As := []) rfl (i := 1) rfl (md_0 hm) rfl rfl (Nat.le_of_ble_eq_true rfl) (k_X12_remembers N hm g4 (fun h1 hmh1 frh1 => ⟨_, rfl, (?_ : ky_V _ _ _ 4 _ [] _ _)⟩))
  have frh1 := fr.tr frh1
  refine v_aload_n (i := 2) (j := 0) rfl rfl (?_ : ky_V _ _ _ 5 _ _ _ _)
  refine gf_X12_13 rfl (i := 3) rfl (md_0 hmh1) rfl (?_ : ky_V _ _ _ 8 _ _ _ _)
  refine v_iload_n (i := 4) (j := 1) rfl rfl (?_ : ky_V _ _ _ 9 _ _ _ _)
  refine v_bipush (v := 9) (i := 5) rfl (by decide) (?_ : ky_V _ _ _ 11 _ _ _ _)
  refine v_aload_n (i := 6) (j := 0) rfl rfl (?_ : ky_V _ _ _ 12 _ _ _ _)
  refine gf_X12_13 rfl (i := 7) rfl (md_0 hmh1) rfl (?_ : ky_V _ _ _ 15 _ _ _ _)
  refine v_iload_n (i := 8) (j := 1) rfl rfl (?_ : ky_V _ _ _ 16 _ _ _ _)
  obtain ⟨z5, e⟩ := ky_chkE e
  refine v_iald (i := 9) rfl (md_1 hmh1) (ky_inb z5) (?_ : ky_V _ _ _ 17 _ (.int (q2 1 (Int32.toNatClampNeg p1)) :: _) _ _)
  refine v_iconst (v := 1) (i := 10) rfl (by decide) (?_ : ky_V _ _ _ 18 _ _ _ _)
  refine v_iadd (i := 11) rfl (?_ : ky_V _ _ _ 19 _ _ _ _)
  refine cl_X12_260 rfl (i := 12) rfl (Nat.le_of_ble_eq_true rfl) (?_ : ky_V _ _ _ 22 _ _ _ _)
  refine v_topi (fun x6 ex6 => ?_)
  replace e := ky_letE ex6 e
  refine v_iast (i := 13) rfl (md_1 hmh1) (ky_inb z5) ?_
  refine bk_st (B := md_B G a) hmh1 frh1 1 (Int32.toNatClampNeg p1) x6 (by decide) (fun h7 hmh7 frh7 => ?_)
  obtain ⟨q8, eq8⟩ : ∃ z, z = (bk_w q2 1 (Int32.toNatClampNeg p1) x6) := ⟨_, rfl⟩
  rw [← eq8] at hmh7
  replace e := ky_letE eq8 e
  refine (?_ : ky_V _ _ _ 23 _ _ _ _)
  refine v_aload_n (i := 14) (j := 0) rfl rfl (?_ : ky_V _ _ _ 24 _ _ _ _)
  refine v_iconst (v := 1) (i := 15) rfl (by decide) (?_ : ky_V _ _ _ 25 _ _ _ _)
  refine cl_X12_360 (As := [.int 1]) rfl (i := 16) rfl (md_0 hmh7) rfl rfl (Nat.le_of_ble_eq_true rfl) (k_X12_goesBy 1 hmh7 (fun h9 hmh9 frh9 => ⟨_, rfl, (?_ : ky_V _ _ _ 28 _ [] _ _)⟩))
  have frh9 := frh7.tr frh9
  obtain ⟨q10, eq10⟩ : ∃ z, z = (md_goesBy_c q8 1) := ⟨_, rfl⟩
  rw [← eq10] at hmh9
  replace e := ky_letE eq10 e
  refine v_aload_n (i := 17) (j := 0) rfl rfl (?_ : ky_V _ _ _ 29 _ _ _ _)
  refine gf_X12_13 rfl (i := 18) rfl (md_0 hmh9) rfl (?_ : ky_V _ _ _ 32 _ _ _ _)
  refine v_iload_n (i := 19) (j := 1) rfl rfl (?_ : ky_V _ _ _ 33 _ _ _ _)
  refine v_iald (i := 20) rfl (md_1 hmh9) (ky_inb z5) (?_ : ky_V _ _ _ 34 _ (.int (q10 1 (Int32.toNatClampNeg p1)) :: _) _ _)
  refine v_iret (v := (q10 1 (Int32.toNatClampNeg p1))) (ty := .int) (i := 21) rfl rfl rfl ?_
  obtain ⟨rfl, rfl⟩ := ky_leaf e
  exact hr _ hmh9 frh9

def md_pour (N : Nat) (c : (Nat → Nat → Int32))  : Option ((Nat → Nat → Int32) × Int32) := (ky_let (bk_w c 0 0 0) (fun q2 => (if (md_isDrowned_r q2) = 0 ∨ (md_isDrowned_r q2) = 1 then (ky_let (md_throwsIf_r q2 (md_isDrowned_r q2) 1) (fun x6 => (ky_let (md_throwsIf_c q2 (md_isDrowned_r q2) 1) (fun q5 => (if x6 = 0 then ((md_takesMinute N q5 5).bind (fun zz => (fun q9 x10 => (some (q9, x10))) zz.1 zz.2)) else (some (q5, 0))))))) else none)))
set_option maxRecDepth 20000 in
set_option maxHeartbeats 4000000 in
theorem k_X12_pour {G : ky_GW} {d : Nat} {h : ky_HP} {Q : ky_RS → ky_HP → Prop} {a : Nat} {c c9 : (Nat → Nat → Int32)} {r9 : Int32}  (N : Nat) (hm : md_at G h a c) (e : md_pour N c = some (c9, r9)) (hr : ∀ h1, md_at G h1 a c9 → bk_fr a 13 h h1 → Q (.inl (some (.int r9))) h1) : ky_Call G (d + 3) M_X12_pour [.ref a] h Q := by
  refine ky_ofV (by decide +kernel) rfl ok_X12_pour (Nat.le_of_ble_eq_true rfl) ?_
  have fr : bk_fr a 13 h h := bk_fr.rf
  unfold md_pour at e
  refine (?_ : ky_V _ _ _ 0 [(0, .ref a)] [] _ _)
  refine v_aload_n (i := 0) (j := 0) rfl rfl (?_ : ky_V _ _ _ 1 _ _ _ _)
  refine v_iconst (v := 0) (i := 1) rfl (by decide) (?_ : ky_V _ _ _ 2 _ _ _ _)
  refine pf_X12_3 rfl (i := 2) rfl (md_0 hm) (Nat.le_of_ble_eq_true rfl) rfl rfl ?_
  refine bk_st (B := md_B G a) hm fr 0 0 0 (by decide) (fun h1 hmh1 frh1 => ?_)
  obtain ⟨q2, eq2⟩ : ∃ z, z = (bk_w c 0 0 0) := ⟨_, rfl⟩
  rw [← eq2] at hmh1
  replace e := ky_letE eq2 e
  refine (?_ : ky_V _ _ _ 5 _ _ _ _)
  refine v_aload_n (i := 3) (j := 0) rfl rfl (?_ : ky_V _ _ _ 6 _ _ _ _)
  refine v_aload_n (i := 4) (j := 0) rfl rfl (?_ : ky_V _ _ _ 7 _ _ _ _)
  refine cl_X12_367 (As := []) rfl (i := 5) rfl (md_0 hmh1) rfl rfl (Nat.le_of_ble_eq_true rfl) (k_X12_isDrowned hmh1 ⟨_, rfl, (?_ : ky_V _ _ _ 10 _ [.int ((md_isDrowned_r q2)), .ref a] _ _)⟩)
  refine v_iconst (v := 1) (i := 6) rfl (by decide) (?_ : ky_V _ _ _ 11 _ _ _ _)
  obtain ⟨z3, e⟩ := ky_chkE e
  refine cl_X12_241 (As := [.int ((md_isDrowned_r q2)), .int 1]) rfl (i := 7) rfl (md_0 hmh1) rfl rfl (Nat.le_of_ble_eq_true rfl) (k_X12_throwsIf (md_isDrowned_r q2) 1 hmh1 z3 (fun h4 hmh4 frh4 => ⟨_, rfl, (?_ : ky_V _ _ _ 14 _ [.int ((md_throwsIf_r q2 (md_isDrowned_r q2) 1))] _ _)⟩))
  have frh4 := frh1.tr frh4
  refine v_topi (fun x6 ex6 => ?_)
  replace e := ky_letE ex6 e
  obtain ⟨q5, eq5⟩ : ∃ z, z = (md_throwsIf_c q2 (md_isDrowned_r q2) 1) := ⟨_, rfl⟩
  rw [← eq5] at hmh4
  replace e := ky_letE eq5 e
  refine v_if_eq (tgt := 21) (i := 8) rfl (by decide) (fun c7 => ?_) (fun c7 => ?_)
  · replace e := ky_ifT c7 e
    refine v_aload_n (i := 11) (j := 0) rfl rfl (?_ : ky_V _ _ _ 22 _ _ _ _)
    refine v_iconst (v := 5) (i := 12) rfl (by decide) (?_ : ky_V _ _ _ 23 _ _ _ _)
    obtain ⟨⟨q9, x10⟩, g11, e⟩ := Option.bind_eq_some_iff.mp e
    refine cl_X12_379 (As := [.int 5]) rfl (i := 13) rfl (md_0 hmh4) rfl rfl (Nat.le_of_ble_eq_true rfl) (k_X12_takesMinute N hmh4 g11 (fun h8 hmh8 frh8 => ⟨_, rfl, (?_ : ky_V _ _ _ 26 _ [.int x10] _ _)⟩))
    have frh8 := frh4.tr frh8
    refine v_iret (v := x10) (ty := .int) (i := 14) rfl rfl rfl ?_
    obtain ⟨rfl, rfl⟩ := ky_leaf e
    exact hr _ hmh8 frh8
  · replace e := ky_ifF c7 e
    refine v_iconst (v := 0) (i := 9) rfl (by decide) (?_ : ky_V _ _ _ 18 _ _ _ _)
    refine v_goto (tgt := 26) (i := 10) rfl (by decide) (?_ : ky_V _ _ _ 26 _ _ _ _)
    refine v_iret (v := 0) (ty := .int) (i := 14) rfl rfl rfl ?_
    obtain ⟨rfl, rfl⟩ := ky_leaf e
    exact hr _ hmh4 frh4

def md_walk (N : Nat) (c : (Nat → Nat → Int32)) (p1 : Int32) (p2 : Int32) : Option ((Nat → Nat → Int32) × Int32) := (ky_let (bk_w c 0 0 0) (fun q2 => (if (md_noPerson_r q2 p1) = 0 then (if (md_noCell p2) = 0 then (ky_let (md_throwsIf_r q2 0 1) (fun x35 => (ky_let (md_throwsIf_c q2 0 1) (fun q34 => (if x35 = 0 then (if ky_inB ((237 + (2 * p1)) + 1) 2247 = true then (if (md_apart (md_ofPerson_r q34 p1 1) p2) = (1 : Int32) then (ky_let (md_throwsIf_r q34 0 2) (fun x41 => (ky_let (md_throwsIf_c q34 0 2) (fun q40 => (if x41 = 0 then ((md_remembers N q40).bind (fun zz => (fun q44 x45 => (ky_let (bk_w q44 1 (Int32.toNatClampNeg ((237 + (2 * p1)) + 1)) p2) (fun q48 => (if ky_inB ((45 + (3 * p2)) + 0) 2247 = true then (some (q48, (md_of_r q48 p2 0))) else none)))) zz.1 zz.2)) else (some (q40, 0))))))) else (ky_let (md_throwsIf_r q34 1 2) (fun x52 => (ky_let (md_throwsIf_c q34 1 2) (fun q51 => (if x52 = 0 then ((md_remembers N q51).bind (fun zz => (fun q55 x56 => (ky_let (bk_w q55 1 (Int32.toNatClampNeg ((237 + (2 * p1)) + 1)) p2) (fun q59 => (if ky_inB ((45 + (3 * p2)) + 0) 2247 = true then (some (q59, (md_of_r q59 p2 0))) else none)))) zz.1 zz.2)) else (some (q51, 0)))))))) else none) else (some (q34, 0))))))) else (ky_let (md_throwsIf_r q2 1 1) (fun x63 => (ky_let (md_throwsIf_c q2 1 1) (fun q62 => (if x63 = 0 then (if ky_inB ((237 + (2 * p1)) + 1) 2247 = true then (if (md_apart (md_ofPerson_r q62 p1 1) p2) = (1 : Int32) then (ky_let (md_throwsIf_r q62 0 2) (fun x69 => (ky_let (md_throwsIf_c q62 0 2) (fun q68 => (if x69 = 0 then ((md_remembers N q68).bind (fun zz => (fun q72 x73 => (ky_let (bk_w q72 1 (Int32.toNatClampNeg ((237 + (2 * p1)) + 1)) p2) (fun q76 => (if ky_inB ((45 + (3 * p2)) + 0) 2247 = true then (some (q76, (md_of_r q76 p2 0))) else none)))) zz.1 zz.2)) else (some (q68, 0))))))) else (ky_let (md_throwsIf_r q62 1 2) (fun x80 => (ky_let (md_throwsIf_c q62 1 2) (fun q79 => (if x80 = 0 then ((md_remembers N q79).bind (fun zz => (fun q83 x84 => (ky_let (bk_w q83 1 (Int32.toNatClampNeg ((237 + (2 * p1)) + 1)) p2) (fun q87 => (if ky_inB ((45 + (3 * p2)) + 0) 2247 = true then (some (q87, (md_of_r q87 p2 0))) else none)))) zz.1 zz.2)) else (some (q79, 0)))))))) else none) else (some (q62, 0)))))))) else (ky_let (md_throwsIf_r q2 1 1) (fun x6 => (ky_let (md_throwsIf_c q2 1 1) (fun q5 => (if x6 = 0 then (if ky_inB ((237 + (2 * p1)) + 1) 2247 = true then (if (md_apart (md_ofPerson_r q5 p1 1) p2) = (1 : Int32) then (ky_let (md_throwsIf_r q5 0 2) (fun x12 => (ky_let (md_throwsIf_c q5 0 2) (fun q11 => (if x12 = 0 then ((md_remembers N q11).bind (fun zz => (fun q15 x16 => (ky_let (bk_w q15 1 (Int32.toNatClampNeg ((237 + (2 * p1)) + 1)) p2) (fun q19 => (if ky_inB ((45 + (3 * p2)) + 0) 2247 = true then (some (q19, (md_of_r q19 p2 0))) else none)))) zz.1 zz.2)) else (some (q11, 0))))))) else (ky_let (md_throwsIf_r q5 1 2) (fun x23 => (ky_let (md_throwsIf_c q5 1 2) (fun q22 => (if x23 = 0 then ((md_remembers N q22).bind (fun zz => (fun q26 x27 => (ky_let (bk_w q26 1 (Int32.toNatClampNeg ((237 + (2 * p1)) + 1)) p2) (fun q30 => (if ky_inB ((45 + (3 * p2)) + 0) 2247 = true then (some (q30, (md_of_r q30 p2 0))) else none)))) zz.1 zz.2)) else (some (q22, 0)))))))) else none) else (some (q5, 0))))))))))
set_option maxRecDepth 20000 in
set_option maxHeartbeats 4000000 in
theorem k_X12_walk {G : ky_GW} {d : Nat} {h : ky_HP} {Q : ky_RS → ky_HP → Prop} {a : Nat} {c c9 : (Nat → Nat → Int32)} {r9 : Int32} {p1 : Int32} {p2 : Int32} (N : Nat) (hm : md_at G h a c) (e : md_walk N c p1 p2 = some (c9, r9)) (hr : ∀ h1, md_at G h1 a c9 → bk_fr a 13 h h1 → Q (.inl (some (.int r9))) h1) : ky_Call G (d + 2) M_X12_walk [.ref a, .int p1, .int p2] h Q := by
  refine ky_ofV (by decide +kernel) rfl ok_X12_walk (Nat.le_of_ble_eq_true rfl) ?_
  have fr : bk_fr a 13 h h := bk_fr.rf
  unfold md_walk at e
  refine (?_ : ky_V _ _ _ 0 [(0, .ref a), (1, .int p1), (2, .int p2)] [] _ _)
  refine v_aload_n (i := 0) (j := 0) rfl rfl (?_ : ky_V _ _ _ 1 _ _ _ _)
  refine v_iconst (v := 0) (i := 1) rfl (by decide) (?_ : ky_V _ _ _ 2 _ _ _ _)
  refine pf_X12_3 rfl (i := 2) rfl (md_0 hm) (Nat.le_of_ble_eq_true rfl) rfl rfl ?_
  refine bk_st (B := md_B G a) hm fr 0 0 0 (by decide) (fun h1 hmh1 frh1 => ?_)
  obtain ⟨q2, eq2⟩ : ∃ z, z = (bk_w c 0 0 0) := ⟨_, rfl⟩
  rw [← eq2] at hmh1
  replace e := ky_letE eq2 e
  refine (?_ : ky_V _ _ _ 5 _ _ _ _)
  refine v_aload_n (i := 3) (j := 0) rfl rfl (?_ : ky_V _ _ _ 6 _ _ _ _)
  refine v_aload_n (i := 4) (j := 0) rfl rfl (?_ : ky_V _ _ _ 7 _ _ _ _)
  refine v_iload_n (i := 5) (j := 1) rfl rfl (?_ : ky_V _ _ _ 8 _ _ _ _)
  refine cl_X12_385 (As := [.int p1]) rfl (i := 6) rfl (md_0 hmh1) rfl rfl (Nat.le_of_ble_eq_true rfl) (k_X12_noPerson p1 hmh1 ⟨_, rfl, (?_ : ky_V _ _ _ 11 _ [.int ((md_noPerson_r q2 p1)), .ref a] _ _)⟩)
  refine v_if_ne (tgt := 21) (i := 7) rfl (by decide) (fun c3 => ?_) (fun c3 => ?_)
  · replace e := ky_ifF c3 e
    refine v_iconst (v := 1) (i := 11) rfl (by decide) (?_ : ky_V _ _ _ 22 _ _ _ _)
    refine v_goto (tgt := 26) (i := 12) rfl (by decide) (?_ : ky_V _ _ _ 26 _ _ _ _)
    refine v_iconst (v := 1) (i := 14) rfl (by decide) (?_ : ky_V _ _ _ 27 _ _ _ _)
    refine cl_X12_241 (As := [.int 1, .int 1]) rfl (i := 15) rfl (md_0 hmh1) rfl rfl (Nat.le_of_ble_eq_true rfl) (k_X12_throwsIf 1 1 hmh1 (by decide) (fun h4 hmh4 frh4 => ⟨_, rfl, (?_ : ky_V _ _ _ 30 _ [.int ((md_throwsIf_r q2 1 1))] _ _)⟩))
    have frh4 := frh1.tr frh4
    refine v_topi (fun x6 ex6 => ?_)
    replace e := ky_letE ex6 e
    obtain ⟨q5, eq5⟩ : ∃ z, z = (md_throwsIf_c q2 1 1) := ⟨_, rfl⟩
    rw [← eq5] at hmh4
    replace e := ky_letE eq5 e
    refine v_if_ne (tgt := 60) (i := 16) rfl (by decide) (fun c7 => ?_) (fun c7 => ?_)
    · replace e := ky_ifF c7 e
      refine v_iconst (v := 0) (i := 32) rfl (by decide) (?_ : ky_V _ _ _ 61 _ _ _ _)
      refine v_iret (v := 0) (ty := .int) (i := 33) rfl rfl rfl ?_
      obtain ⟨rfl, rfl⟩ := ky_leaf e
      exact hr _ hmh4 frh4
    · replace e := ky_ifT c7 e
      refine v_aload_n (i := 17) (j := 0) rfl rfl (?_ : ky_V _ _ _ 34 _ _ _ _)
      refine v_aload_n (i := 18) (j := 0) rfl rfl (?_ : ky_V _ _ _ 35 _ _ _ _)
      refine v_iload_n (i := 19) (j := 1) rfl rfl (?_ : ky_V _ _ _ 36 _ _ _ _)
      refine v_iconst (v := 1) (i := 20) rfl (by decide) (?_ : ky_V _ _ _ 37 _ _ _ _)
      obtain ⟨z8, e⟩ := ky_chkE e
      refine cl_X12_391 (As := [.int p1, .int 1]) rfl (i := 21) rfl (md_0 hmh4) rfl rfl (Nat.le_of_ble_eq_true rfl) (k_X12_ofPerson p1 1 hmh4 (ky_inb z8) ⟨_, rfl, (?_ : ky_V _ _ _ 40 _ [.int ((md_ofPerson_r q5 p1 1)), .ref a] _ _)⟩)
      refine v_iload_n (i := 22) (j := 2) rfl rfl (?_ : ky_V _ _ _ 41 _ _ _ _)
      refine cl_X12_394 (As := [.int ((md_ofPerson_r q5 p1 1)), .int p2]) rfl (i := 23) rfl rfl rfl (Nat.le_of_ble_eq_true rfl) (k_X12_apart (md_ofPerson_r q5 p1 1) p2 ⟨_, rfl, (?_ : ky_V _ _ _ 44 _ [.int ((md_apart (md_ofPerson_r q5 p1 1) p2)), .ref a] _ _)⟩)
      refine v_iconst (v := 1) (i := 24) rfl (by decide) (?_ : ky_V _ _ _ 45 _ _ _ _)
      refine v_icmp_eq (tgt := 52) (i := 25) rfl (by decide) (fun c9 => ?_) (fun c9 => ?_)
      · replace e := ky_ifT c9 e
        refine v_iconst (v := 0) (i := 28) rfl (by decide) (?_ : ky_V _ _ _ 53 _ _ _ _)
        refine v_iconst (v := 2) (i := 29) rfl (by decide) (?_ : ky_V _ _ _ 54 _ _ _ _)
        refine cl_X12_241 (As := [.int 0, .int 2]) rfl (i := 30) rfl (md_0 hmh4) rfl rfl (Nat.le_of_ble_eq_true rfl) (k_X12_throwsIf 0 2 hmh4 (by decide) (fun h10 hmh10 frh10 => ⟨_, rfl, (?_ : ky_V _ _ _ 57 _ [.int ((md_throwsIf_r q5 0 2))] _ _)⟩))
        have frh10 := frh4.tr frh10
        refine v_topi (fun x12 ex12 => ?_)
        replace e := ky_letE ex12 e
        obtain ⟨q11, eq11⟩ : ∃ z, z = (md_throwsIf_c q5 0 2) := ⟨_, rfl⟩
        rw [← eq11] at hmh10
        replace e := ky_letE eq11 e
        refine v_if_eq (tgt := 62) (i := 31) rfl (by decide) (fun c13 => ?_) (fun c13 => ?_)
        · replace e := ky_ifT c13 e
          refine v_aload_n (i := 34) (j := 0) rfl rfl (?_ : ky_V _ _ _ 63 _ _ _ _)
          obtain ⟨⟨q15, x16⟩, g17, e⟩ := Option.bind_eq_some_iff.mp e
          refine cl_X12_373 (As := []) rfl (i := 35) rfl (md_0 hmh10) rfl rfl (Nat.le_of_ble_eq_true rfl) (k_X12_remembers N hmh10 g17 (fun h14 hmh14 frh14 => ⟨_, rfl, (?_ : ky_V _ _ _ 66 _ [] _ _)⟩))
          have frh14 := frh10.tr frh14
          refine v_aload_n (i := 36) (j := 0) rfl rfl (?_ : ky_V _ _ _ 67 _ _ _ _)
          refine gf_X12_13 rfl (i := 37) rfl (md_0 hmh14) rfl (?_ : ky_V _ _ _ 70 _ _ _ _)
          refine v_sipush (v := 237) (i := 38) rfl (by decide) (?_ : ky_V _ _ _ 73 _ _ _ _)
          refine v_iconst (v := 2) (i := 39) rfl (by decide) (?_ : ky_V _ _ _ 74 _ _ _ _)
          refine v_iload_n (i := 40) (j := 1) rfl rfl (?_ : ky_V _ _ _ 75 _ _ _ _)
          refine v_imul (i := 41) rfl (?_ : ky_V _ _ _ 76 _ _ _ _)
          refine v_iadd (i := 42) rfl (?_ : ky_V _ _ _ 77 _ _ _ _)
          refine v_iconst (v := 1) (i := 43) rfl (by decide) (?_ : ky_V _ _ _ 78 _ _ _ _)
          refine v_iadd (i := 44) rfl (?_ : ky_V _ _ _ 79 _ _ _ _)
          refine v_iload_n (i := 45) (j := 2) rfl rfl (?_ : ky_V _ _ _ 80 _ _ _ _)
          refine v_iast (i := 46) rfl (md_1 hmh14) (ky_inb z8) ?_
          refine bk_st (B := md_B G a) hmh14 frh14 1 (Int32.toNatClampNeg ((237 + (2 * p1)) + 1)) p2 (by decide) (fun h18 hmh18 frh18 => ?_)
          obtain ⟨q19, eq19⟩ : ∃ z, z = (bk_w q15 1 (Int32.toNatClampNeg ((237 + (2 * p1)) + 1)) p2) := ⟨_, rfl⟩
          rw [← eq19] at hmh18
          replace e := ky_letE eq19 e
          refine (?_ : ky_V _ _ _ 81 _ _ _ _)
          refine v_aload_n (i := 47) (j := 0) rfl rfl (?_ : ky_V _ _ _ 82 _ _ _ _)
          refine v_iload_n (i := 48) (j := 2) rfl rfl (?_ : ky_V _ _ _ 83 _ _ _ _)
          refine v_iconst (v := 0) (i := 49) rfl (by decide) (?_ : ky_V _ _ _ 84 _ _ _ _)
          obtain ⟨z20, e⟩ := ky_chkE e
          refine cl_X12_397 (As := [.int p2, .int 0]) rfl (i := 50) rfl (md_0 hmh18) rfl rfl (Nat.le_of_ble_eq_true rfl) (k_X12_of p2 0 hmh18 (ky_inb z20) ⟨_, rfl, (?_ : ky_V _ _ _ 87 _ [.int ((md_of_r q19 p2 0))] _ _)⟩)
          refine v_iret (v := (md_of_r q19 p2 0)) (ty := .int) (i := 51) rfl rfl rfl ?_
          obtain ⟨rfl, rfl⟩ := ky_leaf e
          exact hr _ hmh18 frh18
        · replace e := ky_ifF c13 e
          refine v_iconst (v := 0) (i := 32) rfl (by decide) (?_ : ky_V _ _ _ 61 _ _ _ _)
          refine v_iret (v := 0) (ty := .int) (i := 33) rfl rfl rfl ?_
          obtain ⟨rfl, rfl⟩ := ky_leaf e
          exact hr _ hmh10 frh10
      · replace e := ky_ifF c9 e
        refine v_iconst (v := 1) (i := 26) rfl (by decide) (?_ : ky_V _ _ _ 49 _ _ _ _)
        refine v_goto (tgt := 53) (i := 27) rfl (by decide) (?_ : ky_V _ _ _ 53 _ _ _ _)
        refine v_iconst (v := 2) (i := 29) rfl (by decide) (?_ : ky_V _ _ _ 54 _ _ _ _)
        refine cl_X12_241 (As := [.int 1, .int 2]) rfl (i := 30) rfl (md_0 hmh4) rfl rfl (Nat.le_of_ble_eq_true rfl) (k_X12_throwsIf 1 2 hmh4 (by decide) (fun h21 hmh21 frh21 => ⟨_, rfl, (?_ : ky_V _ _ _ 57 _ [.int ((md_throwsIf_r q5 1 2))] _ _)⟩))
        have frh21 := frh4.tr frh21
        refine v_topi (fun x23 ex23 => ?_)
        replace e := ky_letE ex23 e
        obtain ⟨q22, eq22⟩ : ∃ z, z = (md_throwsIf_c q5 1 2) := ⟨_, rfl⟩
        rw [← eq22] at hmh21
        replace e := ky_letE eq22 e
        refine v_if_eq (tgt := 62) (i := 31) rfl (by decide) (fun c24 => ?_) (fun c24 => ?_)
        · replace e := ky_ifT c24 e
          refine v_aload_n (i := 34) (j := 0) rfl rfl (?_ : ky_V _ _ _ 63 _ _ _ _)
          obtain ⟨⟨q26, x27⟩, g28, e⟩ := Option.bind_eq_some_iff.mp e
          refine cl_X12_373 (As := []) rfl (i := 35) rfl (md_0 hmh21) rfl rfl (Nat.le_of_ble_eq_true rfl) (k_X12_remembers N hmh21 g28 (fun h25 hmh25 frh25 => ⟨_, rfl, (?_ : ky_V _ _ _ 66 _ [] _ _)⟩))
          have frh25 := frh21.tr frh25
          refine v_aload_n (i := 36) (j := 0) rfl rfl (?_ : ky_V _ _ _ 67 _ _ _ _)
          refine gf_X12_13 rfl (i := 37) rfl (md_0 hmh25) rfl (?_ : ky_V _ _ _ 70 _ _ _ _)
          refine v_sipush (v := 237) (i := 38) rfl (by decide) (?_ : ky_V _ _ _ 73 _ _ _ _)
          refine v_iconst (v := 2) (i := 39) rfl (by decide) (?_ : ky_V _ _ _ 74 _ _ _ _)
          refine v_iload_n (i := 40) (j := 1) rfl rfl (?_ : ky_V _ _ _ 75 _ _ _ _)
          refine v_imul (i := 41) rfl (?_ : ky_V _ _ _ 76 _ _ _ _)
          refine v_iadd (i := 42) rfl (?_ : ky_V _ _ _ 77 _ _ _ _)
          refine v_iconst (v := 1) (i := 43) rfl (by decide) (?_ : ky_V _ _ _ 78 _ _ _ _)
          refine v_iadd (i := 44) rfl (?_ : ky_V _ _ _ 79 _ _ _ _)
          refine v_iload_n (i := 45) (j := 2) rfl rfl (?_ : ky_V _ _ _ 80 _ _ _ _)
          refine v_iast (i := 46) rfl (md_1 hmh25) (ky_inb z8) ?_
          refine bk_st (B := md_B G a) hmh25 frh25 1 (Int32.toNatClampNeg ((237 + (2 * p1)) + 1)) p2 (by decide) (fun h29 hmh29 frh29 => ?_)
          obtain ⟨q30, eq30⟩ : ∃ z, z = (bk_w q26 1 (Int32.toNatClampNeg ((237 + (2 * p1)) + 1)) p2) := ⟨_, rfl⟩
          rw [← eq30] at hmh29
          replace e := ky_letE eq30 e
          refine (?_ : ky_V _ _ _ 81 _ _ _ _)
          refine v_aload_n (i := 47) (j := 0) rfl rfl (?_ : ky_V _ _ _ 82 _ _ _ _)
          refine v_iload_n (i := 48) (j := 2) rfl rfl (?_ : ky_V _ _ _ 83 _ _ _ _)
          refine v_iconst (v := 0) (i := 49) rfl (by decide) (?_ : ky_V _ _ _ 84 _ _ _ _)
          obtain ⟨z31, e⟩ := ky_chkE e
          refine cl_X12_397 (As := [.int p2, .int 0]) rfl (i := 50) rfl (md_0 hmh29) rfl rfl (Nat.le_of_ble_eq_true rfl) (k_X12_of p2 0 hmh29 (ky_inb z31) ⟨_, rfl, (?_ : ky_V _ _ _ 87 _ [.int ((md_of_r q30 p2 0))] _ _)⟩)
          refine v_iret (v := (md_of_r q30 p2 0)) (ty := .int) (i := 51) rfl rfl rfl ?_
          obtain ⟨rfl, rfl⟩ := ky_leaf e
          exact hr _ hmh29 frh29
        · replace e := ky_ifF c24 e
          refine v_iconst (v := 0) (i := 32) rfl (by decide) (?_ : ky_V _ _ _ 61 _ _ _ _)
          refine v_iret (v := 0) (ty := .int) (i := 33) rfl rfl rfl ?_
          obtain ⟨rfl, rfl⟩ := ky_leaf e
          exact hr _ hmh21 frh21
  · replace e := ky_ifT c3 e
    refine v_iload_n (i := 8) (j := 2) rfl rfl (?_ : ky_V _ _ _ 15 _ _ _ _)
    refine cl_X12_388 (As := [.int p2]) rfl (i := 9) rfl rfl rfl (Nat.le_of_ble_eq_true rfl) (k_X12_noCell p2 ⟨_, rfl, (?_ : ky_V _ _ _ 18 _ [.int ((md_noCell p2)), .ref a] _ _)⟩)
    refine v_if_eq (tgt := 25) (i := 10) rfl (by decide) (fun c32 => ?_) (fun c32 => ?_)
    · replace e := ky_ifT c32 e
      refine v_iconst (v := 0) (i := 13) rfl (by decide) (?_ : ky_V _ _ _ 26 _ _ _ _)
      refine v_iconst (v := 1) (i := 14) rfl (by decide) (?_ : ky_V _ _ _ 27 _ _ _ _)
      refine cl_X12_241 (As := [.int 0, .int 1]) rfl (i := 15) rfl (md_0 hmh1) rfl rfl (Nat.le_of_ble_eq_true rfl) (k_X12_throwsIf 0 1 hmh1 (by decide) (fun h33 hmh33 frh33 => ⟨_, rfl, (?_ : ky_V _ _ _ 30 _ [.int ((md_throwsIf_r q2 0 1))] _ _)⟩))
      have frh33 := frh1.tr frh33
      refine v_topi (fun x35 ex35 => ?_)
      replace e := ky_letE ex35 e
      obtain ⟨q34, eq34⟩ : ∃ z, z = (md_throwsIf_c q2 0 1) := ⟨_, rfl⟩
      rw [← eq34] at hmh33
      replace e := ky_letE eq34 e
      refine v_if_ne (tgt := 60) (i := 16) rfl (by decide) (fun c36 => ?_) (fun c36 => ?_)
      · replace e := ky_ifF c36 e
        refine v_iconst (v := 0) (i := 32) rfl (by decide) (?_ : ky_V _ _ _ 61 _ _ _ _)
        refine v_iret (v := 0) (ty := .int) (i := 33) rfl rfl rfl ?_
        obtain ⟨rfl, rfl⟩ := ky_leaf e
        exact hr _ hmh33 frh33
      · replace e := ky_ifT c36 e
        refine v_aload_n (i := 17) (j := 0) rfl rfl (?_ : ky_V _ _ _ 34 _ _ _ _)
        refine v_aload_n (i := 18) (j := 0) rfl rfl (?_ : ky_V _ _ _ 35 _ _ _ _)
        refine v_iload_n (i := 19) (j := 1) rfl rfl (?_ : ky_V _ _ _ 36 _ _ _ _)
        refine v_iconst (v := 1) (i := 20) rfl (by decide) (?_ : ky_V _ _ _ 37 _ _ _ _)
        obtain ⟨z37, e⟩ := ky_chkE e
        refine cl_X12_391 (As := [.int p1, .int 1]) rfl (i := 21) rfl (md_0 hmh33) rfl rfl (Nat.le_of_ble_eq_true rfl) (k_X12_ofPerson p1 1 hmh33 (ky_inb z37) ⟨_, rfl, (?_ : ky_V _ _ _ 40 _ [.int ((md_ofPerson_r q34 p1 1)), .ref a] _ _)⟩)
        refine v_iload_n (i := 22) (j := 2) rfl rfl (?_ : ky_V _ _ _ 41 _ _ _ _)
        refine cl_X12_394 (As := [.int ((md_ofPerson_r q34 p1 1)), .int p2]) rfl (i := 23) rfl rfl rfl (Nat.le_of_ble_eq_true rfl) (k_X12_apart (md_ofPerson_r q34 p1 1) p2 ⟨_, rfl, (?_ : ky_V _ _ _ 44 _ [.int ((md_apart (md_ofPerson_r q34 p1 1) p2)), .ref a] _ _)⟩)
        refine v_iconst (v := 1) (i := 24) rfl (by decide) (?_ : ky_V _ _ _ 45 _ _ _ _)
        refine v_icmp_eq (tgt := 52) (i := 25) rfl (by decide) (fun c38 => ?_) (fun c38 => ?_)
        · replace e := ky_ifT c38 e
          refine v_iconst (v := 0) (i := 28) rfl (by decide) (?_ : ky_V _ _ _ 53 _ _ _ _)
          refine v_iconst (v := 2) (i := 29) rfl (by decide) (?_ : ky_V _ _ _ 54 _ _ _ _)
          refine cl_X12_241 (As := [.int 0, .int 2]) rfl (i := 30) rfl (md_0 hmh33) rfl rfl (Nat.le_of_ble_eq_true rfl) (k_X12_throwsIf 0 2 hmh33 (by decide) (fun h39 hmh39 frh39 => ⟨_, rfl, (?_ : ky_V _ _ _ 57 _ [.int ((md_throwsIf_r q34 0 2))] _ _)⟩))
          have frh39 := frh33.tr frh39
          refine v_topi (fun x41 ex41 => ?_)
          replace e := ky_letE ex41 e
          obtain ⟨q40, eq40⟩ : ∃ z, z = (md_throwsIf_c q34 0 2) := ⟨_, rfl⟩
          rw [← eq40] at hmh39
          replace e := ky_letE eq40 e
          refine v_if_eq (tgt := 62) (i := 31) rfl (by decide) (fun c42 => ?_) (fun c42 => ?_)
          · replace e := ky_ifT c42 e
            refine v_aload_n (i := 34) (j := 0) rfl rfl (?_ : ky_V _ _ _ 63 _ _ _ _)
            obtain ⟨⟨q44, x45⟩, g46, e⟩ := Option.bind_eq_some_iff.mp e
            refine cl_X12_373 (As := []) rfl (i := 35) rfl (md_0 hmh39) rfl rfl (Nat.le_of_ble_eq_true rfl) (k_X12_remembers N hmh39 g46 (fun h43 hmh43 frh43 => ⟨_, rfl, (?_ : ky_V _ _ _ 66 _ [] _ _)⟩))
            have frh43 := frh39.tr frh43
            refine v_aload_n (i := 36) (j := 0) rfl rfl (?_ : ky_V _ _ _ 67 _ _ _ _)
            refine gf_X12_13 rfl (i := 37) rfl (md_0 hmh43) rfl (?_ : ky_V _ _ _ 70 _ _ _ _)
            refine v_sipush (v := 237) (i := 38) rfl (by decide) (?_ : ky_V _ _ _ 73 _ _ _ _)
            refine v_iconst (v := 2) (i := 39) rfl (by decide) (?_ : ky_V _ _ _ 74 _ _ _ _)
            refine v_iload_n (i := 40) (j := 1) rfl rfl (?_ : ky_V _ _ _ 75 _ _ _ _)
            refine v_imul (i := 41) rfl (?_ : ky_V _ _ _ 76 _ _ _ _)
            refine v_iadd (i := 42) rfl (?_ : ky_V _ _ _ 77 _ _ _ _)
            refine v_iconst (v := 1) (i := 43) rfl (by decide) (?_ : ky_V _ _ _ 78 _ _ _ _)
            refine v_iadd (i := 44) rfl (?_ : ky_V _ _ _ 79 _ _ _ _)
            refine v_iload_n (i := 45) (j := 2) rfl rfl (?_ : ky_V _ _ _ 80 _ _ _ _)
            refine v_iast (i := 46) rfl (md_1 hmh43) (ky_inb z37) ?_
            refine bk_st (B := md_B G a) hmh43 frh43 1 (Int32.toNatClampNeg ((237 + (2 * p1)) + 1)) p2 (by decide) (fun h47 hmh47 frh47 => ?_)
            obtain ⟨q48, eq48⟩ : ∃ z, z = (bk_w q44 1 (Int32.toNatClampNeg ((237 + (2 * p1)) + 1)) p2) := ⟨_, rfl⟩
            rw [← eq48] at hmh47
            replace e := ky_letE eq48 e
            refine (?_ : ky_V _ _ _ 81 _ _ _ _)
            refine v_aload_n (i := 47) (j := 0) rfl rfl (?_ : ky_V _ _ _ 82 _ _ _ _)
            refine v_iload_n (i := 48) (j := 2) rfl rfl (?_ : ky_V _ _ _ 83 _ _ _ _)
            refine v_iconst (v := 0) (i := 49) rfl (by decide) (?_ : ky_V _ _ _ 84 _ _ _ _)
            obtain ⟨z49, e⟩ := ky_chkE e
            refine cl_X12_397 (As := [.int p2, .int 0]) rfl (i := 50) rfl (md_0 hmh47) rfl rfl (Nat.le_of_ble_eq_true rfl) (k_X12_of p2 0 hmh47 (ky_inb z49) ⟨_, rfl, (?_ : ky_V _ _ _ 87 _ [.int ((md_of_r q48 p2 0))] _ _)⟩)
            refine v_iret (v := (md_of_r q48 p2 0)) (ty := .int) (i := 51) rfl rfl rfl ?_
            obtain ⟨rfl, rfl⟩ := ky_leaf e
            exact hr _ hmh47 frh47
          · replace e := ky_ifF c42 e
            refine v_iconst (v := 0) (i := 32) rfl (by decide) (?_ : ky_V _ _ _ 61 _ _ _ _)
            refine v_iret (v := 0) (ty := .int) (i := 33) rfl rfl rfl ?_
            obtain ⟨rfl, rfl⟩ := ky_leaf e
            exact hr _ hmh39 frh39
        · replace e := ky_ifF c38 e
          refine v_iconst (v := 1) (i := 26) rfl (by decide) (?_ : ky_V _ _ _ 49 _ _ _ _)
          refine v_goto (tgt := 53) (i := 27) rfl (by decide) (?_ : ky_V _ _ _ 53 _ _ _ _)
          refine v_iconst (v := 2) (i := 29) rfl (by decide) (?_ : ky_V _ _ _ 54 _ _ _ _)
          refine cl_X12_241 (As := [.int 1, .int 2]) rfl (i := 30) rfl (md_0 hmh33) rfl rfl (Nat.le_of_ble_eq_true rfl) (k_X12_throwsIf 1 2 hmh33 (by decide) (fun h50 hmh50 frh50 => ⟨_, rfl, (?_ : ky_V _ _ _ 57 _ [.int ((md_throwsIf_r q34 1 2))] _ _)⟩))
          have frh50 := frh33.tr frh50
          refine v_topi (fun x52 ex52 => ?_)
          replace e := ky_letE ex52 e
          obtain ⟨q51, eq51⟩ : ∃ z, z = (md_throwsIf_c q34 1 2) := ⟨_, rfl⟩
          rw [← eq51] at hmh50
          replace e := ky_letE eq51 e
          refine v_if_eq (tgt := 62) (i := 31) rfl (by decide) (fun c53 => ?_) (fun c53 => ?_)
          · replace e := ky_ifT c53 e
            refine v_aload_n (i := 34) (j := 0) rfl rfl (?_ : ky_V _ _ _ 63 _ _ _ _)
            obtain ⟨⟨q55, x56⟩, g57, e⟩ := Option.bind_eq_some_iff.mp e
            refine cl_X12_373 (As := []) rfl (i := 35) rfl (md_0 hmh50) rfl rfl (Nat.le_of_ble_eq_true rfl) (k_X12_remembers N hmh50 g57 (fun h54 hmh54 frh54 => ⟨_, rfl, (?_ : ky_V _ _ _ 66 _ [] _ _)⟩))
            have frh54 := frh50.tr frh54
            refine v_aload_n (i := 36) (j := 0) rfl rfl (?_ : ky_V _ _ _ 67 _ _ _ _)
            refine gf_X12_13 rfl (i := 37) rfl (md_0 hmh54) rfl (?_ : ky_V _ _ _ 70 _ _ _ _)
            refine v_sipush (v := 237) (i := 38) rfl (by decide) (?_ : ky_V _ _ _ 73 _ _ _ _)
            refine v_iconst (v := 2) (i := 39) rfl (by decide) (?_ : ky_V _ _ _ 74 _ _ _ _)
            refine v_iload_n (i := 40) (j := 1) rfl rfl (?_ : ky_V _ _ _ 75 _ _ _ _)
            refine v_imul (i := 41) rfl (?_ : ky_V _ _ _ 76 _ _ _ _)
            refine v_iadd (i := 42) rfl (?_ : ky_V _ _ _ 77 _ _ _ _)
            refine v_iconst (v := 1) (i := 43) rfl (by decide) (?_ : ky_V _ _ _ 78 _ _ _ _)
            refine v_iadd (i := 44) rfl (?_ : ky_V _ _ _ 79 _ _ _ _)
            refine v_iload_n (i := 45) (j := 2) rfl rfl (?_ : ky_V _ _ _ 80 _ _ _ _)
            refine v_iast (i := 46) rfl (md_1 hmh54) (ky_inb z37) ?_
            refine bk_st (B := md_B G a) hmh54 frh54 1 (Int32.toNatClampNeg ((237 + (2 * p1)) + 1)) p2 (by decide) (fun h58 hmh58 frh58 => ?_)
            obtain ⟨q59, eq59⟩ : ∃ z, z = (bk_w q55 1 (Int32.toNatClampNeg ((237 + (2 * p1)) + 1)) p2) := ⟨_, rfl⟩
            rw [← eq59] at hmh58
            replace e := ky_letE eq59 e
            refine (?_ : ky_V _ _ _ 81 _ _ _ _)
            refine v_aload_n (i := 47) (j := 0) rfl rfl (?_ : ky_V _ _ _ 82 _ _ _ _)
            refine v_iload_n (i := 48) (j := 2) rfl rfl (?_ : ky_V _ _ _ 83 _ _ _ _)
            refine v_iconst (v := 0) (i := 49) rfl (by decide) (?_ : ky_V _ _ _ 84 _ _ _ _)
            obtain ⟨z60, e⟩ := ky_chkE e
            refine cl_X12_397 (As := [.int p2, .int 0]) rfl (i := 50) rfl (md_0 hmh58) rfl rfl (Nat.le_of_ble_eq_true rfl) (k_X12_of p2 0 hmh58 (ky_inb z60) ⟨_, rfl, (?_ : ky_V _ _ _ 87 _ [.int ((md_of_r q59 p2 0))] _ _)⟩)
            refine v_iret (v := (md_of_r q59 p2 0)) (ty := .int) (i := 51) rfl rfl rfl ?_
            obtain ⟨rfl, rfl⟩ := ky_leaf e
            exact hr _ hmh58 frh58
          · replace e := ky_ifF c53 e
            refine v_iconst (v := 0) (i := 32) rfl (by decide) (?_ : ky_V _ _ _ 61 _ _ _ _)
            refine v_iret (v := 0) (ty := .int) (i := 33) rfl rfl rfl ?_
            obtain ⟨rfl, rfl⟩ := ky_leaf e
            exact hr _ hmh50 frh50
    · replace e := ky_ifF c32 e
      refine v_iconst (v := 1) (i := 11) rfl (by decide) (?_ : ky_V _ _ _ 22 _ _ _ _)
      refine v_goto (tgt := 26) (i := 12) rfl (by decide) (?_ : ky_V _ _ _ 26 _ _ _ _)
      refine v_iconst (v := 1) (i := 14) rfl (by decide) (?_ : ky_V _ _ _ 27 _ _ _ _)
      refine cl_X12_241 (As := [.int 1, .int 1]) rfl (i := 15) rfl (md_0 hmh1) rfl rfl (Nat.le_of_ble_eq_true rfl) (k_X12_throwsIf 1 1 hmh1 (by decide) (fun h61 hmh61 frh61 => ⟨_, rfl, (?_ : ky_V _ _ _ 30 _ [.int ((md_throwsIf_r q2 1 1))] _ _)⟩))
      have frh61 := frh1.tr frh61
      refine v_topi (fun x63 ex63 => ?_)
      replace e := ky_letE ex63 e
      obtain ⟨q62, eq62⟩ : ∃ z, z = (md_throwsIf_c q2 1 1) := ⟨_, rfl⟩
      rw [← eq62] at hmh61
      replace e := ky_letE eq62 e
      refine v_if_ne (tgt := 60) (i := 16) rfl (by decide) (fun c64 => ?_) (fun c64 => ?_)
      · replace e := ky_ifF c64 e
        refine v_iconst (v := 0) (i := 32) rfl (by decide) (?_ : ky_V _ _ _ 61 _ _ _ _)
        refine v_iret (v := 0) (ty := .int) (i := 33) rfl rfl rfl ?_
        obtain ⟨rfl, rfl⟩ := ky_leaf e
        exact hr _ hmh61 frh61
      · replace e := ky_ifT c64 e
        refine v_aload_n (i := 17) (j := 0) rfl rfl (?_ : ky_V _ _ _ 34 _ _ _ _)
        refine v_aload_n (i := 18) (j := 0) rfl rfl (?_ : ky_V _ _ _ 35 _ _ _ _)
        refine v_iload_n (i := 19) (j := 1) rfl rfl (?_ : ky_V _ _ _ 36 _ _ _ _)
        refine v_iconst (v := 1) (i := 20) rfl (by decide) (?_ : ky_V _ _ _ 37 _ _ _ _)
        obtain ⟨z65, e⟩ := ky_chkE e
        refine cl_X12_391 (As := [.int p1, .int 1]) rfl (i := 21) rfl (md_0 hmh61) rfl rfl (Nat.le_of_ble_eq_true rfl) (k_X12_ofPerson p1 1 hmh61 (ky_inb z65) ⟨_, rfl, (?_ : ky_V _ _ _ 40 _ [.int ((md_ofPerson_r q62 p1 1)), .ref a] _ _)⟩)
        refine v_iload_n (i := 22) (j := 2) rfl rfl (?_ : ky_V _ _ _ 41 _ _ _ _)
        refine cl_X12_394 (As := [.int ((md_ofPerson_r q62 p1 1)), .int p2]) rfl (i := 23) rfl rfl rfl (Nat.le_of_ble_eq_true rfl) (k_X12_apart (md_ofPerson_r q62 p1 1) p2 ⟨_, rfl, (?_ : ky_V _ _ _ 44 _ [.int ((md_apart (md_ofPerson_r q62 p1 1) p2)), .ref a] _ _)⟩)
        refine v_iconst (v := 1) (i := 24) rfl (by decide) (?_ : ky_V _ _ _ 45 _ _ _ _)
        refine v_icmp_eq (tgt := 52) (i := 25) rfl (by decide) (fun c66 => ?_) (fun c66 => ?_)
        · replace e := ky_ifT c66 e
          refine v_iconst (v := 0) (i := 28) rfl (by decide) (?_ : ky_V _ _ _ 53 _ _ _ _)
          refine v_iconst (v := 2) (i := 29) rfl (by decide) (?_ : ky_V _ _ _ 54 _ _ _ _)
          refine cl_X12_241 (As := [.int 0, .int 2]) rfl (i := 30) rfl (md_0 hmh61) rfl rfl (Nat.le_of_ble_eq_true rfl) (k_X12_throwsIf 0 2 hmh61 (by decide) (fun h67 hmh67 frh67 => ⟨_, rfl, (?_ : ky_V _ _ _ 57 _ [.int ((md_throwsIf_r q62 0 2))] _ _)⟩))
          have frh67 := frh61.tr frh67
          refine v_topi (fun x69 ex69 => ?_)
          replace e := ky_letE ex69 e
          obtain ⟨q68, eq68⟩ : ∃ z, z = (md_throwsIf_c q62 0 2) := ⟨_, rfl⟩
          rw [← eq68] at hmh67
          replace e := ky_letE eq68 e
          refine v_if_eq (tgt := 62) (i := 31) rfl (by decide) (fun c70 => ?_) (fun c70 => ?_)
          · replace e := ky_ifT c70 e
            refine v_aload_n (i := 34) (j := 0) rfl rfl (?_ : ky_V _ _ _ 63 _ _ _ _)
            obtain ⟨⟨q72, x73⟩, g74, e⟩ := Option.bind_eq_some_iff.mp e
            refine cl_X12_373 (As := []) rfl (i := 35) rfl (md_0 hmh67) rfl rfl (Nat.le_of_ble_eq_true rfl) (k_X12_remembers N hmh67 g74 (fun h71 hmh71 frh71 => ⟨_, rfl, (?_ : ky_V _ _ _ 66 _ [] _ _)⟩))
            have frh71 := frh67.tr frh71
            refine v_aload_n (i := 36) (j := 0) rfl rfl (?_ : ky_V _ _ _ 67 _ _ _ _)
            refine gf_X12_13 rfl (i := 37) rfl (md_0 hmh71) rfl (?_ : ky_V _ _ _ 70 _ _ _ _)
            refine v_sipush (v := 237) (i := 38) rfl (by decide) (?_ : ky_V _ _ _ 73 _ _ _ _)
            refine v_iconst (v := 2) (i := 39) rfl (by decide) (?_ : ky_V _ _ _ 74 _ _ _ _)
            refine v_iload_n (i := 40) (j := 1) rfl rfl (?_ : ky_V _ _ _ 75 _ _ _ _)
            refine v_imul (i := 41) rfl (?_ : ky_V _ _ _ 76 _ _ _ _)
            refine v_iadd (i := 42) rfl (?_ : ky_V _ _ _ 77 _ _ _ _)
            refine v_iconst (v := 1) (i := 43) rfl (by decide) (?_ : ky_V _ _ _ 78 _ _ _ _)
            refine v_iadd (i := 44) rfl (?_ : ky_V _ _ _ 79 _ _ _ _)
            refine v_iload_n (i := 45) (j := 2) rfl rfl (?_ : ky_V _ _ _ 80 _ _ _ _)
            refine v_iast (i := 46) rfl (md_1 hmh71) (ky_inb z65) ?_
            refine bk_st (B := md_B G a) hmh71 frh71 1 (Int32.toNatClampNeg ((237 + (2 * p1)) + 1)) p2 (by decide) (fun h75 hmh75 frh75 => ?_)
            obtain ⟨q76, eq76⟩ : ∃ z, z = (bk_w q72 1 (Int32.toNatClampNeg ((237 + (2 * p1)) + 1)) p2) := ⟨_, rfl⟩
            rw [← eq76] at hmh75
            replace e := ky_letE eq76 e
            refine (?_ : ky_V _ _ _ 81 _ _ _ _)
            refine v_aload_n (i := 47) (j := 0) rfl rfl (?_ : ky_V _ _ _ 82 _ _ _ _)
            refine v_iload_n (i := 48) (j := 2) rfl rfl (?_ : ky_V _ _ _ 83 _ _ _ _)
            refine v_iconst (v := 0) (i := 49) rfl (by decide) (?_ : ky_V _ _ _ 84 _ _ _ _)
            obtain ⟨z77, e⟩ := ky_chkE e
            refine cl_X12_397 (As := [.int p2, .int 0]) rfl (i := 50) rfl (md_0 hmh75) rfl rfl (Nat.le_of_ble_eq_true rfl) (k_X12_of p2 0 hmh75 (ky_inb z77) ⟨_, rfl, (?_ : ky_V _ _ _ 87 _ [.int ((md_of_r q76 p2 0))] _ _)⟩)
            refine v_iret (v := (md_of_r q76 p2 0)) (ty := .int) (i := 51) rfl rfl rfl ?_
            obtain ⟨rfl, rfl⟩ := ky_leaf e
            exact hr _ hmh75 frh75
          · replace e := ky_ifF c70 e
            refine v_iconst (v := 0) (i := 32) rfl (by decide) (?_ : ky_V _ _ _ 61 _ _ _ _)
            refine v_iret (v := 0) (ty := .int) (i := 33) rfl rfl rfl ?_
            obtain ⟨rfl, rfl⟩ := ky_leaf e
            exact hr _ hmh67 frh67
        · replace e := ky_ifF c66 e
          refine v_iconst (v := 1) (i := 26) rfl (by decide) (?_ : ky_V _ _ _ 49 _ _ _ _)
          refine v_goto (tgt := 53) (i := 27) rfl (by decide) (?_ : ky_V _ _ _ 53 _ _ _ _)
          refine v_iconst (v := 2) (i := 29) rfl (by decide) (?_ : ky_V _ _ _ 54 _ _ _ _)
          refine cl_X12_241 (As := [.int 1, .int 2]) rfl (i := 30) rfl (md_0 hmh61) rfl rfl (Nat.le_of_ble_eq_true rfl) (k_X12_throwsIf 1 2 hmh61 (by decide) (fun h78 hmh78 frh78 => ⟨_, rfl, (?_ : ky_V _ _ _ 57 _ [.int ((md_throwsIf_r q62 1 2))] _ _)⟩))
          have frh78 := frh61.tr frh78
          refine v_topi (fun x80 ex80 => ?_)
          replace e := ky_letE ex80 e
          obtain ⟨q79, eq79⟩ : ∃ z, z = (md_throwsIf_c q62 1 2) := ⟨_, rfl⟩
          rw [← eq79] at hmh78
          replace e := ky_letE eq79 e
          refine v_if_eq (tgt := 62) (i := 31) rfl (by decide) (fun c81 => ?_) (fun c81 => ?_)
          · replace e := ky_ifT c81 e
            refine v_aload_n (i := 34) (j := 0) rfl rfl (?_ : ky_V _ _ _ 63 _ _ _ _)
            obtain ⟨⟨q83, x84⟩, g85, e⟩ := Option.bind_eq_some_iff.mp e
            refine cl_X12_373 (As := []) rfl (i := 35) rfl (md_0 hmh78) rfl rfl (Nat.le_of_ble_eq_true rfl) (k_X12_remembers N hmh78 g85 (fun h82 hmh82 frh82 => ⟨_, rfl, (?_ : ky_V _ _ _ 66 _ [] _ _)⟩))
            have frh82 := frh78.tr frh82
            refine v_aload_n (i := 36) (j := 0) rfl rfl (?_ : ky_V _ _ _ 67 _ _ _ _)
            refine gf_X12_13 rfl (i := 37) rfl (md_0 hmh82) rfl (?_ : ky_V _ _ _ 70 _ _ _ _)
            refine v_sipush (v := 237) (i := 38) rfl (by decide) (?_ : ky_V _ _ _ 73 _ _ _ _)
            refine v_iconst (v := 2) (i := 39) rfl (by decide) (?_ : ky_V _ _ _ 74 _ _ _ _)
            refine v_iload_n (i := 40) (j := 1) rfl rfl (?_ : ky_V _ _ _ 75 _ _ _ _)
            refine v_imul (i := 41) rfl (?_ : ky_V _ _ _ 76 _ _ _ _)
            refine v_iadd (i := 42) rfl (?_ : ky_V _ _ _ 77 _ _ _ _)
            refine v_iconst (v := 1) (i := 43) rfl (by decide) (?_ : ky_V _ _ _ 78 _ _ _ _)
            refine v_iadd (i := 44) rfl (?_ : ky_V _ _ _ 79 _ _ _ _)
            refine v_iload_n (i := 45) (j := 2) rfl rfl (?_ : ky_V _ _ _ 80 _ _ _ _)
            refine v_iast (i := 46) rfl (md_1 hmh82) (ky_inb z65) ?_
            refine bk_st (B := md_B G a) hmh82 frh82 1 (Int32.toNatClampNeg ((237 + (2 * p1)) + 1)) p2 (by decide) (fun h86 hmh86 frh86 => ?_)
            obtain ⟨q87, eq87⟩ : ∃ z, z = (bk_w q83 1 (Int32.toNatClampNeg ((237 + (2 * p1)) + 1)) p2) := ⟨_, rfl⟩
            rw [← eq87] at hmh86
            replace e := ky_letE eq87 e
            refine (?_ : ky_V _ _ _ 81 _ _ _ _)
            refine v_aload_n (i := 47) (j := 0) rfl rfl (?_ : ky_V _ _ _ 82 _ _ _ _)
            refine v_iload_n (i := 48) (j := 2) rfl rfl (?_ : ky_V _ _ _ 83 _ _ _ _)
            refine v_iconst (v := 0) (i := 49) rfl (by decide) (?_ : ky_V _ _ _ 84 _ _ _ _)
            obtain ⟨z88, e⟩ := ky_chkE e
            refine cl_X12_397 (As := [.int p2, .int 0]) rfl (i := 50) rfl (md_0 hmh86) rfl rfl (Nat.le_of_ble_eq_true rfl) (k_X12_of p2 0 hmh86 (ky_inb z88) ⟨_, rfl, (?_ : ky_V _ _ _ 87 _ [.int ((md_of_r q87 p2 0))] _ _)⟩)
            refine v_iret (v := (md_of_r q87 p2 0)) (ty := .int) (i := 51) rfl rfl rfl ?_
            obtain ⟨rfl, rfl⟩ := ky_leaf e
            exact hr _ hmh86 frh86
          · replace e := ky_ifF c81 e
            refine v_iconst (v := 0) (i := 32) rfl (by decide) (?_ : ky_V _ _ _ 61 _ _ _ _)
            refine v_iret (v := 0) (ty := .int) (i := 33) rfl rfl rfl ?_
            obtain ⟨rfl, rfl⟩ := ky_leaf e
            exact hr _ hmh78 frh78

def md_board (N : Nat) (c : (Nat → Nat → Int32)) (p1 : Int32) : Option ((Nat → Nat → Int32) × Int32) := (ky_let (bk_w c 0 0 0) (fun q2 => (if (md_noCell p1) = 0 ∨ (md_noCell p1) = 1 then (ky_let (md_throwsIf_r q2 (md_noCell p1) 1) (fun x6 => (ky_let (md_throwsIf_c q2 (md_noCell p1) 1) (fun q5 => (if x6 = 0 then (if (q5 1 11) = 0 then (ky_let (md_throwsIf_r q5 1 2) (fun x26 => (ky_let (md_throwsIf_c q5 1 2) (fun q25 => (if x26 = 0 then ((md_remembers N q25).bind (fun zz => (fun q29 x30 => (if ky_inB ((45 + (3 * p1)) + 0) 2247 = true then (ky_let (md_deeper (md_of_r q29 p1 0) 3) (fun x33 => (ky_let (bk_w q29 1 (Int32.toNatClampNeg ((45 + (3 * p1)) + 0)) x33) (fun q35 => (ky_let ((q35 1 11) - 1) (fun x36 => (ky_let (bk_w q35 1 11 x36) (fun q38 => (some (q38, (md_of_r q38 p1 0))))))))))) else none)) zz.1 zz.2)) else (some (q25, 0))))))) else (ky_let (md_throwsIf_r q5 0 2) (fun x11 => (ky_let (md_throwsIf_c q5 0 2) (fun q10 => (if x11 = 0 then ((md_remembers N q10).bind (fun zz => (fun q14 x15 => (if ky_inB ((45 + (3 * p1)) + 0) 2247 = true then (ky_let (md_deeper (md_of_r q14 p1 0) 3) (fun x18 => (ky_let (bk_w q14 1 (Int32.toNatClampNeg ((45 + (3 * p1)) + 0)) x18) (fun q20 => (ky_let ((q20 1 11) - 1) (fun x21 => (ky_let (bk_w q20 1 11 x21) (fun q23 => (some (q23, (md_of_r q23 p1 0))))))))))) else none)) zz.1 zz.2)) else (some (q10, 0)))))))) else (some (q5, 0))))))) else none)))
set_option maxRecDepth 20000 in
set_option maxHeartbeats 4000000 in
theorem k_X12_board {G : ky_GW} {d : Nat} {h : ky_HP} {Q : ky_RS → ky_HP → Prop} {a : Nat} {c c9 : (Nat → Nat → Int32)} {r9 : Int32} {p1 : Int32} (N : Nat) (hm : md_at G h a c) (e : md_board N c p1 = some (c9, r9)) (hr : ∀ h1, md_at G h1 a c9 → bk_fr a 13 h h1 → Q (.inl (some (.int r9))) h1) : ky_Call G (d + 2) M_X12_board [.ref a, .int p1] h Q := by
  refine ky_ofV (by decide +kernel) rfl ok_X12_board (Nat.le_of_ble_eq_true rfl) ?_
  have fr : bk_fr a 13 h h := bk_fr.rf
  unfold md_board at e
  refine (?_ : ky_V _ _ _ 0 [(0, .ref a), (1, .int p1)] [] _ _)
  refine v_aload_n (i := 0) (j := 0) rfl rfl (?_ : ky_V _ _ _ 1 _ _ _ _)
  refine v_iconst (v := 0) (i := 1) rfl (by decide) (?_ : ky_V _ _ _ 2 _ _ _ _)
  refine pf_X12_3 rfl (i := 2) rfl (md_0 hm) (Nat.le_of_ble_eq_true rfl) rfl rfl ?_
  refine bk_st (B := md_B G a) hm fr 0 0 0 (by decide) (fun h1 hmh1 frh1 => ?_)
  obtain ⟨q2, eq2⟩ : ∃ z, z = (bk_w c 0 0 0) := ⟨_, rfl⟩
  rw [← eq2] at hmh1
  replace e := ky_letE eq2 e
  refine (?_ : ky_V _ _ _ 5 _ _ _ _)
  refine v_aload_n (i := 3) (j := 0) rfl rfl (?_ : ky_V _ _ _ 6 _ _ _ _)
  refine v_iload_n (i := 4) (j := 1) rfl rfl (?_ : ky_V _ _ _ 7 _ _ _ _)
  refine cl_X12_388 (As := [.int p1]) rfl (i := 5) rfl rfl rfl (Nat.le_of_ble_eq_true rfl) (k_X12_noCell p1 ⟨_, rfl, (?_ : ky_V _ _ _ 10 _ [.int ((md_noCell p1)), .ref a] _ _)⟩)
  refine v_iconst (v := 1) (i := 6) rfl (by decide) (?_ : ky_V _ _ _ 11 _ _ _ _)
  obtain ⟨z3, e⟩ := ky_chkE e
  refine cl_X12_241 (As := [.int ((md_noCell p1)), .int 1]) rfl (i := 7) rfl (md_0 hmh1) rfl rfl (Nat.le_of_ble_eq_true rfl) (k_X12_throwsIf (md_noCell p1) 1 hmh1 z3 (fun h4 hmh4 frh4 => ⟨_, rfl, (?_ : ky_V _ _ _ 14 _ [.int ((md_throwsIf_r q2 (md_noCell p1) 1))] _ _)⟩))
  have frh4 := frh1.tr frh4
  refine v_topi (fun x6 ex6 => ?_)
  replace e := ky_letE ex6 e
  obtain ⟨q5, eq5⟩ : ∃ z, z = (md_throwsIf_c q2 (md_noCell p1) 1) := ⟨_, rfl⟩
  rw [← eq5] at hmh4
  replace e := ky_letE eq5 e
  refine v_if_ne (tgt := 40) (i := 8) rfl (by decide) (fun c7 => ?_) (fun c7 => ?_)
  · replace e := ky_ifF c7 e
    refine v_iconst (v := 0) (i := 21) rfl (by decide) (?_ : ky_V _ _ _ 41 _ _ _ _)
    refine v_iret (v := 0) (ty := .int) (i := 22) rfl rfl rfl ?_
    obtain ⟨rfl, rfl⟩ := ky_leaf e
    exact hr _ hmh4 frh4
  · replace e := ky_ifT c7 e
    refine v_aload_n (i := 9) (j := 0) rfl rfl (?_ : ky_V _ _ _ 18 _ _ _ _)
    refine v_aload_n (i := 10) (j := 0) rfl rfl (?_ : ky_V _ _ _ 19 _ _ _ _)
    refine gf_X12_13 rfl (i := 11) rfl (md_0 hmh4) rfl (?_ : ky_V _ _ _ 22 _ _ _ _)
    refine v_bipush (v := 11) (i := 12) rfl (by decide) (?_ : ky_V _ _ _ 24 _ _ _ _)
    refine v_iald (i := 13) rfl (md_1 hmh4) (ky_inl (by decide)) (?_ : ky_V _ _ _ 25 _ (.int (q5 1 11) :: _) _ _)
    refine v_if_ne (tgt := 32) (i := 14) rfl (by decide) (fun c8 => ?_) (fun c8 => ?_)
    · replace e := ky_ifF c8 e
      refine v_iconst (v := 0) (i := 17) rfl (by decide) (?_ : ky_V _ _ _ 33 _ _ _ _)
      refine v_iconst (v := 2) (i := 18) rfl (by decide) (?_ : ky_V _ _ _ 34 _ _ _ _)
      refine cl_X12_241 (As := [.int 0, .int 2]) rfl (i := 19) rfl (md_0 hmh4) rfl rfl (Nat.le_of_ble_eq_true rfl) (k_X12_throwsIf 0 2 hmh4 (by decide) (fun h9 hmh9 frh9 => ⟨_, rfl, (?_ : ky_V _ _ _ 37 _ [.int ((md_throwsIf_r q5 0 2))] _ _)⟩))
      have frh9 := frh4.tr frh9
      refine v_topi (fun x11 ex11 => ?_)
      replace e := ky_letE ex11 e
      obtain ⟨q10, eq10⟩ : ∃ z, z = (md_throwsIf_c q5 0 2) := ⟨_, rfl⟩
      rw [← eq10] at hmh9
      replace e := ky_letE eq10 e
      refine v_if_eq (tgt := 42) (i := 20) rfl (by decide) (fun c12 => ?_) (fun c12 => ?_)
      · replace e := ky_ifT c12 e
        refine v_aload_n (i := 23) (j := 0) rfl rfl (?_ : ky_V _ _ _ 43 _ _ _ _)
        obtain ⟨⟨q14, x15⟩, g16, e⟩ := Option.bind_eq_some_iff.mp e
        refine cl_X12_373 (As := []) rfl (i := 24) rfl (md_0 hmh9) rfl rfl (Nat.le_of_ble_eq_true rfl) (k_X12_remembers N hmh9 g16 (fun h13 hmh13 frh13 => ⟨_, rfl, (?_ : ky_V _ _ _ 46 _ [] _ _)⟩))
        have frh13 := frh9.tr frh13
        refine v_aload_n (i := 25) (j := 0) rfl rfl (?_ : ky_V _ _ _ 47 _ _ _ _)
        refine gf_X12_13 rfl (i := 26) rfl (md_0 hmh13) rfl (?_ : ky_V _ _ _ 50 _ _ _ _)
        refine v_bipush (v := 45) (i := 27) rfl (by decide) (?_ : ky_V _ _ _ 52 _ _ _ _)
        refine v_iconst (v := 3) (i := 28) rfl (by decide) (?_ : ky_V _ _ _ 53 _ _ _ _)
        refine v_iload_n (i := 29) (j := 1) rfl rfl (?_ : ky_V _ _ _ 54 _ _ _ _)
        refine v_imul (i := 30) rfl (?_ : ky_V _ _ _ 55 _ _ _ _)
        refine v_iadd (i := 31) rfl (?_ : ky_V _ _ _ 56 _ _ _ _)
        refine v_iconst (v := 0) (i := 32) rfl (by decide) (?_ : ky_V _ _ _ 57 _ _ _ _)
        refine v_iadd (i := 33) rfl (?_ : ky_V _ _ _ 58 _ _ _ _)
        refine v_aload_n (i := 34) (j := 0) rfl rfl (?_ : ky_V _ _ _ 59 _ _ _ _)
        refine v_iload_n (i := 35) (j := 1) rfl rfl (?_ : ky_V _ _ _ 60 _ _ _ _)
        refine v_iconst (v := 0) (i := 36) rfl (by decide) (?_ : ky_V _ _ _ 61 _ _ _ _)
        obtain ⟨z17, e⟩ := ky_chkE e
        refine cl_X12_397 (As := [.int p1, .int 0]) rfl (i := 37) rfl (md_0 hmh13) rfl rfl (Nat.le_of_ble_eq_true rfl) (k_X12_of p1 0 hmh13 (ky_inb z17) ⟨_, rfl, (?_ : ky_V _ _ _ 64 _ [.int ((md_of_r q14 p1 0)), .int (((45 + (3 * p1)) + 0)), .ref ((a + 1))] _ _)⟩)
        refine v_iconst (v := 3) (i := 38) rfl (by decide) (?_ : ky_V _ _ _ 65 _ _ _ _)
        refine cl_X12_276 (As := [.int ((md_of_r q14 p1 0)), .int 3]) rfl (i := 39) rfl rfl rfl (Nat.le_of_ble_eq_true rfl) (k_X12_deeper (md_of_r q14 p1 0) 3 ⟨_, rfl, (?_ : ky_V _ _ _ 68 _ [.int ((md_deeper (md_of_r q14 p1 0) 3)), .int (((45 + (3 * p1)) + 0)), .ref ((a + 1))] _ _)⟩)
        refine v_topi (fun x18 ex18 => ?_)
        replace e := ky_letE ex18 e
        refine v_iast (i := 40) rfl (md_1 hmh13) (ky_inb z17) ?_
        refine bk_st (B := md_B G a) hmh13 frh13 1 (Int32.toNatClampNeg ((45 + (3 * p1)) + 0)) x18 (by decide) (fun h19 hmh19 frh19 => ?_)
        obtain ⟨q20, eq20⟩ : ∃ z, z = (bk_w q14 1 (Int32.toNatClampNeg ((45 + (3 * p1)) + 0)) x18) := ⟨_, rfl⟩
        rw [← eq20] at hmh19
        replace e := ky_letE eq20 e
        refine (?_ : ky_V _ _ _ 69 _ _ _ _)
        refine v_aload_n (i := 41) (j := 0) rfl rfl (?_ : ky_V _ _ _ 70 _ _ _ _)
        refine gf_X12_13 rfl (i := 42) rfl (md_0 hmh19) rfl (?_ : ky_V _ _ _ 73 _ _ _ _)
        refine v_bipush (v := 11) (i := 43) rfl (by decide) (?_ : ky_V _ _ _ 75 _ _ _ _)
        refine v_dup2 (i := 44) rfl rfl rfl (?_ : ky_V _ _ _ 76 _ _ _ _)
        refine v_iald (i := 45) rfl (md_1 hmh19) (ky_inl (by decide)) (?_ : ky_V _ _ _ 77 _ (.int (q20 1 11) :: _) _ _)
        refine v_iconst (v := 1) (i := 46) rfl (by decide) (?_ : ky_V _ _ _ 78 _ _ _ _)
        refine v_isub (i := 47) rfl (?_ : ky_V _ _ _ 79 _ _ _ _)
        refine v_topi (fun x21 ex21 => ?_)
        replace e := ky_letE ex21 e
        refine v_iast (i := 48) rfl (md_1 hmh19) (ky_inl (by decide)) ?_
        refine bk_st (B := md_B G a) hmh19 frh19 1 11 x21 (by decide) (fun h22 hmh22 frh22 => ?_)
        obtain ⟨q23, eq23⟩ : ∃ z, z = (bk_w q20 1 11 x21) := ⟨_, rfl⟩
        rw [← eq23] at hmh22
        replace e := ky_letE eq23 e
        refine (?_ : ky_V _ _ _ 80 _ _ _ _)
        refine v_aload_n (i := 49) (j := 0) rfl rfl (?_ : ky_V _ _ _ 81 _ _ _ _)
        refine v_iload_n (i := 50) (j := 1) rfl rfl (?_ : ky_V _ _ _ 82 _ _ _ _)
        refine v_iconst (v := 0) (i := 51) rfl (by decide) (?_ : ky_V _ _ _ 83 _ _ _ _)
        refine cl_X12_397 (As := [.int p1, .int 0]) rfl (i := 52) rfl (md_0 hmh22) rfl rfl (Nat.le_of_ble_eq_true rfl) (k_X12_of p1 0 hmh22 (ky_inb z17) ⟨_, rfl, (?_ : ky_V _ _ _ 86 _ [.int ((md_of_r q23 p1 0))] _ _)⟩)
        refine v_iret (v := (md_of_r q23 p1 0)) (ty := .int) (i := 53) rfl rfl rfl ?_
        obtain ⟨rfl, rfl⟩ := ky_leaf e
        exact hr _ hmh22 frh22
      · replace e := ky_ifF c12 e
        refine v_iconst (v := 0) (i := 21) rfl (by decide) (?_ : ky_V _ _ _ 41 _ _ _ _)
        refine v_iret (v := 0) (ty := .int) (i := 22) rfl rfl rfl ?_
        obtain ⟨rfl, rfl⟩ := ky_leaf e
        exact hr _ hmh9 frh9
    · replace e := ky_ifT c8 e
      refine v_iconst (v := 1) (i := 15) rfl (by decide) (?_ : ky_V _ _ _ 29 _ _ _ _)
      refine v_goto (tgt := 33) (i := 16) rfl (by decide) (?_ : ky_V _ _ _ 33 _ _ _ _)
      refine v_iconst (v := 2) (i := 18) rfl (by decide) (?_ : ky_V _ _ _ 34 _ _ _ _)
      refine cl_X12_241 (As := [.int 1, .int 2]) rfl (i := 19) rfl (md_0 hmh4) rfl rfl (Nat.le_of_ble_eq_true rfl) (k_X12_throwsIf 1 2 hmh4 (by decide) (fun h24 hmh24 frh24 => ⟨_, rfl, (?_ : ky_V _ _ _ 37 _ [.int ((md_throwsIf_r q5 1 2))] _ _)⟩))
      have frh24 := frh4.tr frh24
      refine v_topi (fun x26 ex26 => ?_)
      replace e := ky_letE ex26 e
      obtain ⟨q25, eq25⟩ : ∃ z, z = (md_throwsIf_c q5 1 2) := ⟨_, rfl⟩
      rw [← eq25] at hmh24
      replace e := ky_letE eq25 e
      refine v_if_eq (tgt := 42) (i := 20) rfl (by decide) (fun c27 => ?_) (fun c27 => ?_)
      · replace e := ky_ifT c27 e
        refine v_aload_n (i := 23) (j := 0) rfl rfl (?_ : ky_V _ _ _ 43 _ _ _ _)
        obtain ⟨⟨q29, x30⟩, g31, e⟩ := Option.bind_eq_some_iff.mp e
        refine cl_X12_373 (As := []) rfl (i := 24) rfl (md_0 hmh24) rfl rfl (Nat.le_of_ble_eq_true rfl) (k_X12_remembers N hmh24 g31 (fun h28 hmh28 frh28 => ⟨_, rfl, (?_ : ky_V _ _ _ 46 _ [] _ _)⟩))
        have frh28 := frh24.tr frh28
        refine v_aload_n (i := 25) (j := 0) rfl rfl (?_ : ky_V _ _ _ 47 _ _ _ _)
        refine gf_X12_13 rfl (i := 26) rfl (md_0 hmh28) rfl (?_ : ky_V _ _ _ 50 _ _ _ _)
        refine v_bipush (v := 45) (i := 27) rfl (by decide) (?_ : ky_V _ _ _ 52 _ _ _ _)
        refine v_iconst (v := 3) (i := 28) rfl (by decide) (?_ : ky_V _ _ _ 53 _ _ _ _)
        refine v_iload_n (i := 29) (j := 1) rfl rfl (?_ : ky_V _ _ _ 54 _ _ _ _)
        refine v_imul (i := 30) rfl (?_ : ky_V _ _ _ 55 _ _ _ _)
        refine v_iadd (i := 31) rfl (?_ : ky_V _ _ _ 56 _ _ _ _)
        refine v_iconst (v := 0) (i := 32) rfl (by decide) (?_ : ky_V _ _ _ 57 _ _ _ _)
        refine v_iadd (i := 33) rfl (?_ : ky_V _ _ _ 58 _ _ _ _)
        refine v_aload_n (i := 34) (j := 0) rfl rfl (?_ : ky_V _ _ _ 59 _ _ _ _)
        refine v_iload_n (i := 35) (j := 1) rfl rfl (?_ : ky_V _ _ _ 60 _ _ _ _)
        refine v_iconst (v := 0) (i := 36) rfl (by decide) (?_ : ky_V _ _ _ 61 _ _ _ _)
        obtain ⟨z32, e⟩ := ky_chkE e
        refine cl_X12_397 (As := [.int p1, .int 0]) rfl (i := 37) rfl (md_0 hmh28) rfl rfl (Nat.le_of_ble_eq_true rfl) (k_X12_of p1 0 hmh28 (ky_inb z32) ⟨_, rfl, (?_ : ky_V _ _ _ 64 _ [.int ((md_of_r q29 p1 0)), .int (((45 + (3 * p1)) + 0)), .ref ((a + 1))] _ _)⟩)
        refine v_iconst (v := 3) (i := 38) rfl (by decide) (?_ : ky_V _ _ _ 65 _ _ _ _)
        refine cl_X12_276 (As := [.int ((md_of_r q29 p1 0)), .int 3]) rfl (i := 39) rfl rfl rfl (Nat.le_of_ble_eq_true rfl) (k_X12_deeper (md_of_r q29 p1 0) 3 ⟨_, rfl, (?_ : ky_V _ _ _ 68 _ [.int ((md_deeper (md_of_r q29 p1 0) 3)), .int (((45 + (3 * p1)) + 0)), .ref ((a + 1))] _ _)⟩)
        refine v_topi (fun x33 ex33 => ?_)
        replace e := ky_letE ex33 e
        refine v_iast (i := 40) rfl (md_1 hmh28) (ky_inb z32) ?_
        refine bk_st (B := md_B G a) hmh28 frh28 1 (Int32.toNatClampNeg ((45 + (3 * p1)) + 0)) x33 (by decide) (fun h34 hmh34 frh34 => ?_)
        obtain ⟨q35, eq35⟩ : ∃ z, z = (bk_w q29 1 (Int32.toNatClampNeg ((45 + (3 * p1)) + 0)) x33) := ⟨_, rfl⟩
        rw [← eq35] at hmh34
        replace e := ky_letE eq35 e
        refine (?_ : ky_V _ _ _ 69 _ _ _ _)
        refine v_aload_n (i := 41) (j := 0) rfl rfl (?_ : ky_V _ _ _ 70 _ _ _ _)
        refine gf_X12_13 rfl (i := 42) rfl (md_0 hmh34) rfl (?_ : ky_V _ _ _ 73 _ _ _ _)
        refine v_bipush (v := 11) (i := 43) rfl (by decide) (?_ : ky_V _ _ _ 75 _ _ _ _)
        refine v_dup2 (i := 44) rfl rfl rfl (?_ : ky_V _ _ _ 76 _ _ _ _)
        refine v_iald (i := 45) rfl (md_1 hmh34) (ky_inl (by decide)) (?_ : ky_V _ _ _ 77 _ (.int (q35 1 11) :: _) _ _)
        refine v_iconst (v := 1) (i := 46) rfl (by decide) (?_ : ky_V _ _ _ 78 _ _ _ _)
        refine v_isub (i := 47) rfl (?_ : ky_V _ _ _ 79 _ _ _ _)
        refine v_topi (fun x36 ex36 => ?_)
        replace e := ky_letE ex36 e
        refine v_iast (i := 48) rfl (md_1 hmh34) (ky_inl (by decide)) ?_
        refine bk_st (B := md_B G a) hmh34 frh34 1 11 x36 (by decide) (fun h37 hmh37 frh37 => ?_)
        obtain ⟨q38, eq38⟩ : ∃ z, z = (bk_w q35 1 11 x36) := ⟨_, rfl⟩
        rw [← eq38] at hmh37
        replace e := ky_letE eq38 e
        refine (?_ : ky_V _ _ _ 80 _ _ _ _)
        refine v_aload_n (i := 49) (j := 0) rfl rfl (?_ : ky_V _ _ _ 81 _ _ _ _)
        refine v_iload_n (i := 50) (j := 1) rfl rfl (?_ : ky_V _ _ _ 82 _ _ _ _)
        refine v_iconst (v := 0) (i := 51) rfl (by decide) (?_ : ky_V _ _ _ 83 _ _ _ _)
        refine cl_X12_397 (As := [.int p1, .int 0]) rfl (i := 52) rfl (md_0 hmh37) rfl rfl (Nat.le_of_ble_eq_true rfl) (k_X12_of p1 0 hmh37 (ky_inb z32) ⟨_, rfl, (?_ : ky_V _ _ _ 86 _ [.int ((md_of_r q38 p1 0))] _ _)⟩)
        refine v_iret (v := (md_of_r q38 p1 0)) (ty := .int) (i := 53) rfl rfl rfl ?_
        obtain ⟨rfl, rfl⟩ := ky_leaf e
        exact hr _ hmh37 frh37
      · replace e := ky_ifF c27 e
        refine v_iconst (v := 0) (i := 21) rfl (by decide) (?_ : ky_V _ _ _ 41 _ _ _ _)
        refine v_iret (v := 0) (ty := .int) (i := 22) rfl rfl rfl ?_
        obtain ⟨rfl, rfl⟩ := ky_leaf e
        exact hr _ hmh24 frh24

def md_leastBeside_L6 (N : Nat) (k : (Nat → Nat → Int32) → Int32 → Int32 → Int32 → Option ((Nat → Nat → Int32) × Int32)) : Nat → (Nat → Nat → Int32) → Int32 → Int32 → Int32 → Option ((Nat → Nat → Int32) × Int32)
  | 0, _, _, _, _ => none
  | n + 1, c, p1, p2, p3 => (if (64 : Int32) ≤ p3 then (k c p1 p2 p3) else (if (md_apart p1 p3) = (1 : Int32) then (if ky_inB p3 64 = true then (ky_let (mt_min p2 (c 12 (Int32.toNatClampNeg p3))) (fun x5 => (ky_let (p3 + 1) (fun x6 => (md_leastBeside_L6 N k n c p1 x5 x6))))) else none) else (ky_let (p3 + 1) (fun x3 => (md_leastBeside_L6 N k n c p1 p2 x3)))))
set_option maxRecDepth 20000 in
set_option maxHeartbeats 4000000 in
theorem lv_X12_leastBeside_6 {G : ky_GW} {d : Nat} {h0 : ky_HP} {Q : ky_RS → ky_HP → Prop} {a : Nat} {c9 : (Nat → Nat → Int32)} {r9 : Int32} (N : Nat) (k : (Nat → Nat → Int32) → Int32 → Int32 → Int32 → Option ((Nat → Nat → Int32) × Int32)) (hr : ∀ h1, md_at G h1 a c9 → bk_fr a 13 h0 h1 → Q (.inl (some (.int r9))) h1)
    (hk : ∀ (h : ky_HP) (c : (Nat → Nat → Int32)) (p1 : Int32) (p2 : Int32) (p3 : Int32), md_at G h a c → bk_fr a 13 h0 h → k c p1 p2 p3 = some (c9, r9) → ky_V G (d + 2) M_X12_leastBeside 42 [(0, .ref a), (1, .int p1), (2, .int p2), (3, .int p3)] [] h Q) :
    ∀ (n : Nat) (h : ky_HP) (c : (Nat → Nat → Int32)) (p1 : Int32) (p2 : Int32) (p3 : Int32), md_at G h a c → bk_fr a 13 h0 h → md_leastBeside_L6 N k n c p1 p2 p3 = some (c9, r9) → ky_V G (d + 2) M_X12_leastBeside 6 [(0, .ref a), (1, .int p1), (2, .int p2), (3, .int p3)] [] h Q := by
  intro n
  induction n with
  | zero => intro h c p1 p2 p3 hm fr e; cases e
  | succ n ih =>
    intro h c p1 p2 p3 hm fr e
    rw [md_leastBeside_L6] at e
    refine v_iload_n (i := 4) (j := 3) rfl rfl (?_ : ky_V _ _ _ 7 _ _ _ _)
    refine v_bipush (v := 64) (i := 5) rfl (by decide) (?_ : ky_V _ _ _ 9 _ _ _ _)
    refine v_icmp_ge (tgt := 42) (i := 6) rfl (by decide) (fun c1 => ?_) (fun c1 => ?_)
    · replace e := ky_ifT c1 e
      exact hk h c p1 p2 p3 hm fr e
    · replace e := ky_ifF c1 e
      refine v_iload_n (i := 7) (j := 1) rfl rfl (?_ : ky_V _ _ _ 13 _ _ _ _)
      refine v_iload_n (i := 8) (j := 3) rfl rfl (?_ : ky_V _ _ _ 14 _ _ _ _)
      refine cl_X12_394 (As := [.int p1, .int p3]) rfl (i := 9) rfl rfl rfl (Nat.le_of_ble_eq_true rfl) (k_X12_apart p1 p3 ⟨_, rfl, (?_ : ky_V _ _ _ 17 _ [.int ((md_apart p1 p3))] _ _)⟩)
      refine v_iconst (v := 1) (i := 10) rfl (by decide) (?_ : ky_V _ _ _ 18 _ _ _ _)
      refine v_icmp_ne (tgt := 34) (i := 11) rfl (by decide) (fun c2 => ?_) (fun c2 => ?_)
      · replace e := ky_ifF c2 e
        refine v_iload_n (i := 19) (j := 2) rfl rfl (?_ : ky_V _ _ _ 35 _ _ _ _)
        refine v_istore_n (L' := [(0, .ref a), (1, .int p1), (2, .int p2), (3, .int p3)]) [1, 2, 0, 3] (i := 20) rfl (Nat.le_of_ble_eq_true rfl) rfl (?_ : ky_V _ _ _ 36 _ _ _ _)
        obtain ⟨x3, ex3⟩ : ∃ z : Int32, z = p3 + 1 := ⟨_, rfl⟩
        replace e := ky_letE ex3 e
        refine v_iinc (v := x3) (j := 3) (L' := [(0, .ref a), (1, .int p1), (2, .int p2), (3, .int x3)]) [1, 2, 3, 0] (i := 21) rfl rfl (by rw [ex3]; rfl) (Nat.le_of_ble_eq_true rfl) rfl (?_ : ky_V _ _ _ 39 _ _ _ _)
        refine v_goto (tgt := 6) (i := 22) rfl (by decide) (?_ : ky_V _ _ _ 6 _ _ _ _)
        exact ih h c p1 p2 x3 hm fr e
      · replace e := ky_ifT c2 e
        refine v_iload_n (i := 12) (j := 2) rfl rfl (?_ : ky_V _ _ _ 22 _ _ _ _)
        refine v_aload_n (i := 13) (j := 0) rfl rfl (?_ : ky_V _ _ _ 23 _ _ _ _)
        refine gf_X12_51 rfl (i := 14) rfl (md_0 hm) rfl (?_ : ky_V _ _ _ 26 _ _ _ _)
        refine v_iload_n (i := 15) (j := 3) rfl rfl (?_ : ky_V _ _ _ 27 _ _ _ _)
        obtain ⟨z4, e⟩ := ky_chkE e
        refine v_iald (i := 16) rfl (md_12 hm) (ky_inb z4) (?_ : ky_V _ _ _ 28 _ (.int (c 12 (Int32.toNatClampNeg p3)) :: _) _ _)
        refine cl_X12_260 rfl (i := 17) rfl (Nat.le_of_ble_eq_true rfl) (?_ : ky_V _ _ _ 31 _ _ _ _)
        refine v_goto (tgt := 35) (i := 18) rfl (by decide) (?_ : ky_V _ _ _ 35 _ _ _ _)
        refine v_topi (fun x5 ex5 => ?_)
        replace e := ky_letE ex5 e
        refine v_istore_n (L' := [(0, .ref a), (1, .int p1), (2, .int x5), (3, .int p3)]) [1, 2, 0, 3] (i := 20) rfl (Nat.le_of_ble_eq_true rfl) rfl (?_ : ky_V _ _ _ 36 _ _ _ _)
        obtain ⟨x6, ex6⟩ : ∃ z : Int32, z = p3 + 1 := ⟨_, rfl⟩
        replace e := ky_letE ex6 e
        refine v_iinc (v := x6) (j := 3) (L' := [(0, .ref a), (1, .int p1), (2, .int x5), (3, .int x6)]) [1, 2, 3, 0] (i := 21) rfl rfl (by rw [ex6]; rfl) (Nat.le_of_ble_eq_true rfl) rfl (?_ : ky_V _ _ _ 39 _ _ _ _)
        refine v_goto (tgt := 6) (i := 22) rfl (by decide) (?_ : ky_V _ _ _ 6 _ _ _ _)
        exact ih h c p1 x5 x6 hm fr e

def md_leastBeside (N : Nat) (c : (Nat → Nat → Int32)) (p1 : Int32) : Option ((Nat → Nat → Int32) × Int32) := (md_leastBeside_L6 N (fun q2 x3 x4 x5 => (some (q2, x4))) N c p1 1000000 0)
set_option maxRecDepth 20000 in
set_option maxHeartbeats 4000000 in
theorem k_X12_leastBeside {G : ky_GW} {d : Nat} {h : ky_HP} {Q : ky_RS → ky_HP → Prop} {a : Nat} {c c9 : (Nat → Nat → Int32)} {r9 : Int32} {p1 : Int32} (N : Nat) (hm : md_at G h a c) (e : md_leastBeside N c p1 = some (c9, r9)) (hr : ∀ h1, md_at G h1 a c9 → bk_fr a 13 h h1 → Q (.inl (some (.int r9))) h1) : ky_Call G (d + 2) M_X12_leastBeside [.ref a, .int p1] h Q := by
  refine ky_ofV (by decide +kernel) rfl ok_X12_leastBeside (Nat.le_of_ble_eq_true rfl) ?_
  have fr : bk_fr a 13 h h := bk_fr.rf
  unfold md_leastBeside at e
  refine (?_ : ky_V _ _ _ 0 [(0, .ref a), (1, .int p1)] [] _ _)
  refine v_ldcw (v := 1000000) (i := 0) rfl (ky_t8 (i := 116) rfl rfl) (?_ : ky_V _ _ _ 3 _ _ _ _)
  refine v_istore_n (L' := [(0, .ref a), (1, .int p1), (2, .int 1000000)]) [1, 2, 0] (i := 1) rfl (Nat.le_of_ble_eq_true rfl) rfl (?_ : ky_V _ _ _ 4 _ _ _ _)
  refine v_iconst (v := 0) (i := 2) rfl (by decide) (?_ : ky_V _ _ _ 5 _ _ _ _)
  refine v_istore_n (L' := [(0, .ref a), (1, .int p1), (2, .int 1000000), (3, .int 0)]) [1, 2, 3, 0] (i := 3) rfl (Nat.le_of_ble_eq_true rfl) rfl (?_ : ky_V _ _ _ 6 _ _ _ _)
  refine lv_X12_leastBeside_6 N _ hr (fun h1 q2 x3 x4 x5 hmh1 frh1 e => ?_) N h c p1 1000000 0 hm fr e
  refine v_iload_n (i := 23) (j := 2) rfl rfl (?_ : ky_V _ _ _ 43 _ _ _ _)
  refine v_iret (v := x4) (ty := .int) (i := 24) rfl rfl rfl ?_
  obtain ⟨rfl, rfl⟩ := ky_leaf e
  exact hr _ hmh1 frh1

def md_peopleOn_L4 (N : Nat) (k : (Nat → Nat → Int32) → Int32 → Int32 → Int32 → Option ((Nat → Nat → Int32) × Int32)) : Nat → (Nat → Nat → Int32) → Int32 → Int32 → Int32 → Option ((Nat → Nat → Int32) × Int32)
  | 0, _, _, _, _ => none
  | n + 1, c, p1, p2, p3 => (if (md_people_r c) ≤ p3 then (k c p1 p2 p3) else (if ky_inB ((237 + (2 * p3)) + 1) 2247 = true then (if (md_ofPerson_r c p3 1) = p1 then (ky_let (p2 ||| ((1 : Int32) <<< (p3 &&& 31))) (fun x6 => (ky_let (p3 + 1) (fun x7 => (md_peopleOn_L4 N k n c p1 x6 x7))))) else (ky_let (p2 ||| 0) (fun x4 => (ky_let (p3 + 1) (fun x5 => (md_peopleOn_L4 N k n c p1 x4 x5)))))) else none))
set_option maxRecDepth 20000 in
set_option maxHeartbeats 4000000 in
theorem lv_X12_peopleOn_4 {G : ky_GW} {d : Nat} {h0 : ky_HP} {Q : ky_RS → ky_HP → Prop} {a : Nat} {c9 : (Nat → Nat → Int32)} {r9 : Int32} (N : Nat) (k : (Nat → Nat → Int32) → Int32 → Int32 → Int32 → Option ((Nat → Nat → Int32) × Int32)) (hr : ∀ h1, md_at G h1 a c9 → bk_fr a 13 h0 h1 → Q (.inl (some (.int r9))) h1)
    (hk : ∀ (h : ky_HP) (c : (Nat → Nat → Int32)) (p1 : Int32) (p2 : Int32) (p3 : Int32), md_at G h a c → bk_fr a 13 h0 h → k c p1 p2 p3 = some (c9, r9) → ky_V G (d + 1) M_X12_peopleOn 38 [(0, .ref a), (1, .int p1), (2, .int p2), (3, .int p3)] [] h Q) :
    ∀ (n : Nat) (h : ky_HP) (c : (Nat → Nat → Int32)) (p1 : Int32) (p2 : Int32) (p3 : Int32), md_at G h a c → bk_fr a 13 h0 h → md_peopleOn_L4 N k n c p1 p2 p3 = some (c9, r9) → ky_V G (d + 1) M_X12_peopleOn 4 [(0, .ref a), (1, .int p1), (2, .int p2), (3, .int p3)] [] h Q := by
  intro n
  induction n with
  | zero => intro h c p1 p2 p3 hm fr e; cases e
  | succ n ih =>
    intro h c p1 p2 p3 hm fr e
    rw [md_peopleOn_L4] at e
    refine v_iload_n (i := 4) (j := 3) rfl rfl (?_ : ky_V _ _ _ 5 _ _ _ _)
    refine v_aload_n (i := 5) (j := 0) rfl rfl (?_ : ky_V _ _ _ 6 _ _ _ _)
    refine cl_X12_69 (As := []) rfl (i := 6) rfl (md_0 hm) rfl rfl (Nat.le_of_ble_eq_true rfl) (k_X12_people hm ⟨_, rfl, (?_ : ky_V _ _ _ 9 _ [.int ((md_people_r c)), .int p3] _ _)⟩)
    refine v_icmp_ge (tgt := 38) (i := 7) rfl (by decide) (fun c1 => ?_) (fun c1 => ?_)
    · replace e := ky_ifT c1 e
      exact hk h c p1 p2 p3 hm fr e
    · replace e := ky_ifF c1 e
      refine v_iload_n (i := 8) (j := 2) rfl rfl (?_ : ky_V _ _ _ 13 _ _ _ _)
      refine v_aload_n (i := 9) (j := 0) rfl rfl (?_ : ky_V _ _ _ 14 _ _ _ _)
      refine v_iload_n (i := 10) (j := 3) rfl rfl (?_ : ky_V _ _ _ 15 _ _ _ _)
      refine v_iconst (v := 1) (i := 11) rfl (by decide) (?_ : ky_V _ _ _ 16 _ _ _ _)
      obtain ⟨z2, e⟩ := ky_chkE e
      refine cl_X12_391 (As := [.int p3, .int 1]) rfl (i := 12) rfl (md_0 hm) rfl rfl (Nat.le_of_ble_eq_true rfl) (k_X12_ofPerson p3 1 hm (ky_inb z2) ⟨_, rfl, (?_ : ky_V _ _ _ 19 _ [.int ((md_ofPerson_r c p3 1)), .int p2] _ _)⟩)
      refine v_iload_n (i := 13) (j := 1) rfl rfl (?_ : ky_V _ _ _ 20 _ _ _ _)
      refine v_icmp_ne (tgt := 29) (i := 14) rfl (by decide) (fun c3 => ?_) (fun c3 => ?_)
      · replace e := ky_ifF c3 e
        refine v_iconst (v := 0) (i := 19) rfl (by decide) (?_ : ky_V _ _ _ 30 _ _ _ _)
        refine v_ior (i := 20) rfl (?_ : ky_V _ _ _ 31 _ _ _ _)
        refine v_topi (fun x4 ex4 => ?_)
        replace e := ky_letE ex4 e
        refine v_istore_n (L' := [(0, .ref a), (1, .int p1), (2, .int x4), (3, .int p3)]) [1, 2, 0, 3] (i := 21) rfl (Nat.le_of_ble_eq_true rfl) rfl (?_ : ky_V _ _ _ 32 _ _ _ _)
        obtain ⟨x5, ex5⟩ : ∃ z : Int32, z = p3 + 1 := ⟨_, rfl⟩
        replace e := ky_letE ex5 e
        refine v_iinc (v := x5) (j := 3) (L' := [(0, .ref a), (1, .int p1), (2, .int x4), (3, .int x5)]) [1, 2, 3, 0] (i := 22) rfl rfl (by rw [ex5]; rfl) (Nat.le_of_ble_eq_true rfl) rfl (?_ : ky_V _ _ _ 35 _ _ _ _)
        refine v_goto (tgt := 4) (i := 23) rfl (by decide) (?_ : ky_V _ _ _ 4 _ _ _ _)
        exact ih h c p1 x4 x5 hm fr e
      · replace e := ky_ifT c3 e
        refine v_iconst (v := 1) (i := 15) rfl (by decide) (?_ : ky_V _ _ _ 24 _ _ _ _)
        refine v_iload_n (i := 16) (j := 3) rfl rfl (?_ : ky_V _ _ _ 25 _ _ _ _)
        refine v_ishl (i := 17) rfl (?_ : ky_V _ _ _ 26 _ _ _ _)
        refine v_goto (tgt := 30) (i := 18) rfl (by decide) (?_ : ky_V _ _ _ 30 _ _ _ _)
        refine v_ior (i := 20) rfl (?_ : ky_V _ _ _ 31 _ _ _ _)
        refine v_topi (fun x6 ex6 => ?_)
        replace e := ky_letE ex6 e
        refine v_istore_n (L' := [(0, .ref a), (1, .int p1), (2, .int x6), (3, .int p3)]) [1, 2, 0, 3] (i := 21) rfl (Nat.le_of_ble_eq_true rfl) rfl (?_ : ky_V _ _ _ 32 _ _ _ _)
        obtain ⟨x7, ex7⟩ : ∃ z : Int32, z = p3 + 1 := ⟨_, rfl⟩
        replace e := ky_letE ex7 e
        refine v_iinc (v := x7) (j := 3) (L' := [(0, .ref a), (1, .int p1), (2, .int x6), (3, .int x7)]) [1, 2, 3, 0] (i := 22) rfl rfl (by rw [ex7]; rfl) (Nat.le_of_ble_eq_true rfl) rfl (?_ : ky_V _ _ _ 35 _ _ _ _)
        refine v_goto (tgt := 4) (i := 23) rfl (by decide) (?_ : ky_V _ _ _ 4 _ _ _ _)
        exact ih h c p1 x6 x7 hm fr e

def md_peopleOn (N : Nat) (c : (Nat → Nat → Int32)) (p1 : Int32) : Option ((Nat → Nat → Int32) × Int32) := (md_peopleOn_L4 N (fun q2 x3 x4 x5 => (some (q2, x4))) N c p1 0 0)
set_option maxRecDepth 20000 in
set_option maxHeartbeats 4000000 in
theorem k_X12_peopleOn {G : ky_GW} {d : Nat} {h : ky_HP} {Q : ky_RS → ky_HP → Prop} {a : Nat} {c c9 : (Nat → Nat → Int32)} {r9 : Int32} {p1 : Int32} (N : Nat) (hm : md_at G h a c) (e : md_peopleOn N c p1 = some (c9, r9)) (hr : ∀ h1, md_at G h1 a c9 → bk_fr a 13 h h1 → Q (.inl (some (.int r9))) h1) : ky_Call G (d + 1) M_X12_peopleOn [.ref a, .int p1] h Q := by
  refine ky_ofV (by decide +kernel) rfl ok_X12_peopleOn (Nat.le_of_ble_eq_true rfl) ?_
  have fr : bk_fr a 13 h h := bk_fr.rf
  unfold md_peopleOn at e
  refine (?_ : ky_V _ _ _ 0 [(0, .ref a), (1, .int p1)] [] _ _)
  refine v_iconst (v := 0) (i := 0) rfl (by decide) (?_ : ky_V _ _ _ 1 _ _ _ _)
  refine v_istore_n (L' := [(0, .ref a), (1, .int p1), (2, .int 0)]) [1, 2, 0] (i := 1) rfl (Nat.le_of_ble_eq_true rfl) rfl (?_ : ky_V _ _ _ 2 _ _ _ _)
  refine v_iconst (v := 0) (i := 2) rfl (by decide) (?_ : ky_V _ _ _ 3 _ _ _ _)
  refine v_istore_n (L' := [(0, .ref a), (1, .int p1), (2, .int 0), (3, .int 0)]) [1, 2, 3, 0] (i := 3) rfl (Nat.le_of_ble_eq_true rfl) rfl (?_ : ky_V _ _ _ 4 _ _ _ _)
  refine lv_X12_peopleOn_4 N _ hr (fun h1 q2 x3 x4 x5 hmh1 frh1 e => ?_) N h c p1 0 0 hm fr e
  refine v_iload_n (i := 24) (j := 2) rfl rfl (?_ : ky_V _ _ _ 39 _ _ _ _)
  refine v_iret (v := x4) (ty := .int) (i := 25) rfl rfl rfl ?_
  obtain ⟨rfl, rfl⟩ := ky_leaf e
  exact hr _ hmh1 frh1

def md_edge_L39 (N : Nat) (k : (Nat → Nat → Int32) → Int32 → Int32 → Int32 → Option ((Nat → Nat → Int32) × Int32)) : Nat → (Nat → Nat → Int32) → Int32 → Int32 → Int32 → Option ((Nat → Nat → Int32) × Int32)
  | 0, _, _, _, _ => none
  | n + 1, c, p1, p2, p3 => (if (8 : Int32) ≤ p3 then (k c p1 p2 p3) else (if ky_inB ((45 + (3 * ((8 * p1) + p3))) + 0) 2247 = true then (if (md_of_r c ((8 * p1) + p3) 0) < p2 then (k c p1 p2 p3) else (ky_let (p3 + 1) (fun x4 => (md_edge_L39 N k n c p1 p2 x4)))) else none))
set_option maxRecDepth 20000 in
set_option maxHeartbeats 4000000 in
theorem lv_X12_edge_39 {G : ky_GW} {d : Nat} {h0 : ky_HP} {Q : ky_RS → ky_HP → Prop} {a : Nat} {c9 : (Nat → Nat → Int32)} {r9 : Int32} (N : Nat) (k : (Nat → Nat → Int32) → Int32 → Int32 → Int32 → Option ((Nat → Nat → Int32) × Int32)) (hr : ∀ h1, md_at G h1 a c9 → bk_fr a 13 h0 h1 → Q (.inl (some (.int r9))) h1)
    (hk : ∀ (h : ky_HP) (c : (Nat → Nat → Int32)) (p1 : Int32) (p2 : Int32) (p3 : Int32), md_at G h a c → bk_fr a 13 h0 h → k c p1 p2 p3 = some (c9, r9) → ky_V G (d + 2) M_X12_edge 66 [(0, .ref a), (1, .int p1), (2, .int p2), (3, .int p3)] [] h Q) :
    ∀ (n : Nat) (h : ky_HP) (c : (Nat → Nat → Int32)) (p1 : Int32) (p2 : Int32) (p3 : Int32), md_at G h a c → bk_fr a 13 h0 h → md_edge_L39 N k n c p1 p2 p3 = some (c9, r9) → ky_V G (d + 2) M_X12_edge 39 [(0, .ref a), (1, .int p1), (2, .int p2), (3, .int p3)] [] h Q := by
  intro n
  induction n with
  | zero => intro h c p1 p2 p3 hm fr e; cases e
  | succ n ih =>
    intro h c p1 p2 p3 hm fr e
    rw [md_edge_L39] at e
    refine v_iload_n (i := 22) (j := 3) rfl rfl (?_ : ky_V _ _ _ 40 _ _ _ _)
    refine v_bipush (v := 8) (i := 23) rfl (by decide) (?_ : ky_V _ _ _ 42 _ _ _ _)
    refine v_icmp_ge (tgt := 66) (i := 24) rfl (by decide) (fun c1 => ?_) (fun c1 => ?_)
    · replace e := ky_ifT c1 e
      exact hk h c p1 p2 p3 hm fr e
    · replace e := ky_ifF c1 e
      refine v_aload_n (i := 25) (j := 0) rfl rfl (?_ : ky_V _ _ _ 46 _ _ _ _)
      refine v_bipush (v := 8) (i := 26) rfl (by decide) (?_ : ky_V _ _ _ 48 _ _ _ _)
      refine v_iload_n (i := 27) (j := 1) rfl rfl (?_ : ky_V _ _ _ 49 _ _ _ _)
      refine v_imul (i := 28) rfl (?_ : ky_V _ _ _ 50 _ _ _ _)
      refine v_iload_n (i := 29) (j := 3) rfl rfl (?_ : ky_V _ _ _ 51 _ _ _ _)
      refine v_iadd (i := 30) rfl (?_ : ky_V _ _ _ 52 _ _ _ _)
      refine v_iconst (v := 0) (i := 31) rfl (by decide) (?_ : ky_V _ _ _ 53 _ _ _ _)
      obtain ⟨z2, e⟩ := ky_chkE e
      refine cl_X12_397 (As := [.int (((8 * p1) + p3)), .int 0]) rfl (i := 32) rfl (md_0 hm) rfl rfl (Nat.le_of_ble_eq_true rfl) (k_X12_of ((8 * p1) + p3) 0 hm (ky_inb z2) ⟨_, rfl, (?_ : ky_V _ _ _ 56 _ [.int ((md_of_r c ((8 * p1) + p3) 0))] _ _)⟩)
      refine v_iload_n (i := 33) (j := 2) rfl rfl (?_ : ky_V _ _ _ 57 _ _ _ _)
      refine v_icmp_lt (tgt := 66) (i := 34) rfl (by decide) (fun c3 => ?_) (fun c3 => ?_)
      · replace e := ky_ifT c3 e
        exact hk h c p1 p2 p3 hm fr e
      · replace e := ky_ifF c3 e
        obtain ⟨x4, ex4⟩ : ∃ z : Int32, z = p3 + 1 := ⟨_, rfl⟩
        replace e := ky_letE ex4 e
        refine v_iinc (v := x4) (j := 3) (L' := [(0, .ref a), (1, .int p1), (2, .int p2), (3, .int x4)]) [1, 2, 3, 0] (i := 35) rfl rfl (by rw [ex4]; rfl) (Nat.le_of_ble_eq_true rfl) rfl (?_ : ky_V _ _ _ 63 _ _ _ _)
        refine v_goto (tgt := 39) (i := 36) rfl (by decide) (?_ : ky_V _ _ _ 39 _ _ _ _)
        exact ih h c p1 p2 x4 hm fr e

def md_edge (N : Nat) (c : (Nat → Nat → Int32)) (p1 : Int32) (p2 : Int32) : Option ((Nat → Nat → Int32) × Int32) := (ky_let (bk_w c 0 0 0) (fun q2 => (if (md_in p1 0 7) = 0 then (ky_let (md_throwsIf_r q2 1 1) (fun x6 => (ky_let (md_throwsIf_c q2 1 1) (fun q5 => (if x6 = 0 then (md_edge_L39 N (fun q9 x10 x11 x12 => (some (q9, (x12 - 1)))) N q5 p1 p2 0) else (some (q5, 0))))))) else (if (md_noWeight p2) = 0 then (ky_let (md_throwsIf_r q2 0 1) (fun x16 => (ky_let (md_throwsIf_c q2 0 1) (fun q15 => (if x16 = 0 then (md_edge_L39 N (fun q19 x20 x21 x22 => (some (q19, (x22 - 1)))) N q15 p1 p2 0) else (some (q15, 0))))))) else (ky_let (md_throwsIf_r q2 1 1) (fun x25 => (ky_let (md_throwsIf_c q2 1 1) (fun q24 => (if x25 = 0 then (md_edge_L39 N (fun q28 x29 x30 x31 => (some (q28, (x31 - 1)))) N q24 p1 p2 0) else (some (q24, 0)))))))))))
set_option maxRecDepth 20000 in
set_option maxHeartbeats 4000000 in
theorem k_X12_edge {G : ky_GW} {d : Nat} {h : ky_HP} {Q : ky_RS → ky_HP → Prop} {a : Nat} {c c9 : (Nat → Nat → Int32)} {r9 : Int32} {p1 : Int32} {p2 : Int32} (N : Nat) (hm : md_at G h a c) (e : md_edge N c p1 p2 = some (c9, r9)) (hr : ∀ h1, md_at G h1 a c9 → bk_fr a 13 h h1 → Q (.inl (some (.int r9))) h1) : ky_Call G (d + 2) M_X12_edge [.ref a, .int p1, .int p2] h Q := by
  refine ky_ofV (by decide +kernel) rfl ok_X12_edge (Nat.le_of_ble_eq_true rfl) ?_
  have fr : bk_fr a 13 h h := bk_fr.rf
  unfold md_edge at e
  refine (?_ : ky_V _ _ _ 0 [(0, .ref a), (1, .int p1), (2, .int p2)] [] _ _)
  refine v_aload_n (i := 0) (j := 0) rfl rfl (?_ : ky_V _ _ _ 1 _ _ _ _)
  refine v_iconst (v := 0) (i := 1) rfl (by decide) (?_ : ky_V _ _ _ 2 _ _ _ _)
  refine pf_X12_3 rfl (i := 2) rfl (md_0 hm) (Nat.le_of_ble_eq_true rfl) rfl rfl ?_
  refine bk_st (B := md_B G a) hm fr 0 0 0 (by decide) (fun h1 hmh1 frh1 => ?_)
  obtain ⟨q2, eq2⟩ : ∃ z, z = (bk_w c 0 0 0) := ⟨_, rfl⟩
  rw [← eq2] at hmh1
  replace e := ky_letE eq2 e
  refine (?_ : ky_V _ _ _ 5 _ _ _ _)
  refine v_aload_n (i := 3) (j := 0) rfl rfl (?_ : ky_V _ _ _ 6 _ _ _ _)
  refine v_iload_n (i := 4) (j := 1) rfl rfl (?_ : ky_V _ _ _ 7 _ _ _ _)
  refine v_iconst (v := 0) (i := 5) rfl (by decide) (?_ : ky_V _ _ _ 8 _ _ _ _)
  refine v_bipush (v := 7) (i := 6) rfl (by decide) (?_ : ky_V _ _ _ 10 _ _ _ _)
  refine cl_X12_65 (As := [.int p1, .int 0, .int 7]) rfl (i := 7) rfl rfl rfl (Nat.le_of_ble_eq_true rfl) (k_X12_in p1 0 7 ⟨_, rfl, (?_ : ky_V _ _ _ 13 _ [.int ((md_in p1 0 7)), .ref a] _ _)⟩)
  refine v_if_eq (tgt := 23) (i := 8) rfl (by decide) (fun c3 => ?_) (fun c3 => ?_)
  · replace e := ky_ifT c3 e
    refine v_iconst (v := 1) (i := 12) rfl (by decide) (?_ : ky_V _ _ _ 24 _ _ _ _)
    refine v_goto (tgt := 28) (i := 13) rfl (by decide) (?_ : ky_V _ _ _ 28 _ _ _ _)
    refine v_iconst (v := 1) (i := 15) rfl (by decide) (?_ : ky_V _ _ _ 29 _ _ _ _)
    refine cl_X12_241 (As := [.int 1, .int 1]) rfl (i := 16) rfl (md_0 hmh1) rfl rfl (Nat.le_of_ble_eq_true rfl) (k_X12_throwsIf 1 1 hmh1 (by decide) (fun h4 hmh4 frh4 => ⟨_, rfl, (?_ : ky_V _ _ _ 32 _ [.int ((md_throwsIf_r q2 1 1))] _ _)⟩))
    have frh4 := frh1.tr frh4
    refine v_topi (fun x6 ex6 => ?_)
    replace e := ky_letE ex6 e
    obtain ⟨q5, eq5⟩ : ∃ z, z = (md_throwsIf_c q2 1 1) := ⟨_, rfl⟩
    rw [← eq5] at hmh4
    replace e := ky_letE eq5 e
    refine v_if_eq (tgt := 37) (i := 17) rfl (by decide) (fun c7 => ?_) (fun c7 => ?_)
    · replace e := ky_ifT c7 e
      refine v_iconst (v := 0) (i := 20) rfl (by decide) (?_ : ky_V _ _ _ 38 _ _ _ _)
      refine v_istore_n (L' := [(0, .ref a), (1, .int p1), (2, .int p2), (3, .int 0)]) [1, 2, 3, 0] (i := 21) rfl (Nat.le_of_ble_eq_true rfl) rfl (?_ : ky_V _ _ _ 39 _ _ _ _)
      refine lv_X12_edge_39 N _ hr (fun h8 q9 x10 x11 x12 hmh8 frh8 e => ?_) N h4 q5 p1 p2 0 hmh4 frh4 e
      refine v_iload_n (i := 37) (j := 3) rfl rfl (?_ : ky_V _ _ _ 67 _ _ _ _)
      refine v_iconst (v := 1) (i := 38) rfl (by decide) (?_ : ky_V _ _ _ 68 _ _ _ _)
      refine v_isub (i := 39) rfl (?_ : ky_V _ _ _ 69 _ _ _ _)
      refine v_iret (v := (x12 - 1)) (ty := .int) (i := 40) rfl rfl rfl ?_
      obtain ⟨rfl, rfl⟩ := ky_leaf e
      exact hr _ hmh8 frh8
    · replace e := ky_ifF c7 e
      refine v_iconst (v := 0) (i := 18) rfl (by decide) (?_ : ky_V _ _ _ 36 _ _ _ _)
      refine v_iret (v := 0) (ty := .int) (i := 19) rfl rfl rfl ?_
      obtain ⟨rfl, rfl⟩ := ky_leaf e
      exact hr _ hmh4 frh4
  · replace e := ky_ifF c3 e
    refine v_iload_n (i := 9) (j := 2) rfl rfl (?_ : ky_V _ _ _ 17 _ _ _ _)
    refine cl_X12_427 (As := [.int p2]) rfl (i := 10) rfl rfl rfl (Nat.le_of_ble_eq_true rfl) (k_X12_noWeight p2 ⟨_, rfl, (?_ : ky_V _ _ _ 20 _ [.int ((md_noWeight p2)), .ref a] _ _)⟩)
    refine v_if_eq (tgt := 27) (i := 11) rfl (by decide) (fun c13 => ?_) (fun c13 => ?_)
    · replace e := ky_ifT c13 e
      refine v_iconst (v := 0) (i := 14) rfl (by decide) (?_ : ky_V _ _ _ 28 _ _ _ _)
      refine v_iconst (v := 1) (i := 15) rfl (by decide) (?_ : ky_V _ _ _ 29 _ _ _ _)
      refine cl_X12_241 (As := [.int 0, .int 1]) rfl (i := 16) rfl (md_0 hmh1) rfl rfl (Nat.le_of_ble_eq_true rfl) (k_X12_throwsIf 0 1 hmh1 (by decide) (fun h14 hmh14 frh14 => ⟨_, rfl, (?_ : ky_V _ _ _ 32 _ [.int ((md_throwsIf_r q2 0 1))] _ _)⟩))
      have frh14 := frh1.tr frh14
      refine v_topi (fun x16 ex16 => ?_)
      replace e := ky_letE ex16 e
      obtain ⟨q15, eq15⟩ : ∃ z, z = (md_throwsIf_c q2 0 1) := ⟨_, rfl⟩
      rw [← eq15] at hmh14
      replace e := ky_letE eq15 e
      refine v_if_eq (tgt := 37) (i := 17) rfl (by decide) (fun c17 => ?_) (fun c17 => ?_)
      · replace e := ky_ifT c17 e
        refine v_iconst (v := 0) (i := 20) rfl (by decide) (?_ : ky_V _ _ _ 38 _ _ _ _)
        refine v_istore_n (L' := [(0, .ref a), (1, .int p1), (2, .int p2), (3, .int 0)]) [1, 2, 3, 0] (i := 21) rfl (Nat.le_of_ble_eq_true rfl) rfl (?_ : ky_V _ _ _ 39 _ _ _ _)
        refine lv_X12_edge_39 N _ hr (fun h18 q19 x20 x21 x22 hmh18 frh18 e => ?_) N h14 q15 p1 p2 0 hmh14 frh14 e
        refine v_iload_n (i := 37) (j := 3) rfl rfl (?_ : ky_V _ _ _ 67 _ _ _ _)
        refine v_iconst (v := 1) (i := 38) rfl (by decide) (?_ : ky_V _ _ _ 68 _ _ _ _)
        refine v_isub (i := 39) rfl (?_ : ky_V _ _ _ 69 _ _ _ _)
        refine v_iret (v := (x22 - 1)) (ty := .int) (i := 40) rfl rfl rfl ?_
        obtain ⟨rfl, rfl⟩ := ky_leaf e
        exact hr _ hmh18 frh18
      · replace e := ky_ifF c17 e
        refine v_iconst (v := 0) (i := 18) rfl (by decide) (?_ : ky_V _ _ _ 36 _ _ _ _)
        refine v_iret (v := 0) (ty := .int) (i := 19) rfl rfl rfl ?_
        obtain ⟨rfl, rfl⟩ := ky_leaf e
        exact hr _ hmh14 frh14
    · replace e := ky_ifF c13 e
      refine v_iconst (v := 1) (i := 12) rfl (by decide) (?_ : ky_V _ _ _ 24 _ _ _ _)
      refine v_goto (tgt := 28) (i := 13) rfl (by decide) (?_ : ky_V _ _ _ 28 _ _ _ _)
      refine v_iconst (v := 1) (i := 15) rfl (by decide) (?_ : ky_V _ _ _ 29 _ _ _ _)
      refine cl_X12_241 (As := [.int 1, .int 1]) rfl (i := 16) rfl (md_0 hmh1) rfl rfl (Nat.le_of_ble_eq_true rfl) (k_X12_throwsIf 1 1 hmh1 (by decide) (fun h23 hmh23 frh23 => ⟨_, rfl, (?_ : ky_V _ _ _ 32 _ [.int ((md_throwsIf_r q2 1 1))] _ _)⟩))
      have frh23 := frh1.tr frh23
      refine v_topi (fun x25 ex25 => ?_)
      replace e := ky_letE ex25 e
      obtain ⟨q24, eq24⟩ : ∃ z, z = (md_throwsIf_c q2 1 1) := ⟨_, rfl⟩
      rw [← eq24] at hmh23
      replace e := ky_letE eq24 e
      refine v_if_eq (tgt := 37) (i := 17) rfl (by decide) (fun c26 => ?_) (fun c26 => ?_)
      · replace e := ky_ifT c26 e
        refine v_iconst (v := 0) (i := 20) rfl (by decide) (?_ : ky_V _ _ _ 38 _ _ _ _)
        refine v_istore_n (L' := [(0, .ref a), (1, .int p1), (2, .int p2), (3, .int 0)]) [1, 2, 3, 0] (i := 21) rfl (Nat.le_of_ble_eq_true rfl) rfl (?_ : ky_V _ _ _ 39 _ _ _ _)
        refine lv_X12_edge_39 N _ hr (fun h27 q28 x29 x30 x31 hmh27 frh27 e => ?_) N h23 q24 p1 p2 0 hmh23 frh23 e
        refine v_iload_n (i := 37) (j := 3) rfl rfl (?_ : ky_V _ _ _ 67 _ _ _ _)
        refine v_iconst (v := 1) (i := 38) rfl (by decide) (?_ : ky_V _ _ _ 68 _ _ _ _)
        refine v_isub (i := 39) rfl (?_ : ky_V _ _ _ 69 _ _ _ _)
        refine v_iret (v := (x31 - 1)) (ty := .int) (i := 40) rfl rfl rfl ?_
        obtain ⟨rfl, rfl⟩ := ky_leaf e
        exact hr _ hmh27 frh27
      · replace e := ky_ifF c26 e
        refine v_iconst (v := 0) (i := 18) rfl (by decide) (?_ : ky_V _ _ _ 36 _ _ _ _)
        refine v_iret (v := 0) (ty := .int) (i := 19) rfl rfl rfl ?_
        obtain ⟨rfl, rfl⟩ := ky_leaf e
        exact hr _ hmh23 frh23

def md_signs_L27 (N : Nat) (k : (Nat → Nat → Int32) → Int32 → Int32 → Int32 → Int32 → Int32 → Option ((Nat → Nat → Int32) × Int32)) : Nat → (Nat → Nat → Int32) → Int32 → Int32 → Int32 → Int32 → Int32 → Option ((Nat → Nat → Int32) × Int32)
  | 0, _, _, _, _, _, _ => none
  | n + 1, c, p1, p2, p3, p4, p5 => (if (64 : Int32) ≤ p5 then (k c p1 p2 p3 p4 p5) else (if ky_inB ((45 + (3 * p5)) + 1) 2247 = true then (if p2 = 0 then (if (md_of_r c p5 1) = (1 : Int32) then (if ky_inB ((45 + (3 * p5)) + 2) 2247 = true then (if p2 = 0 then (if (md_of_r c p5 2) = (0 : Int32) then (ky_let (p3 + 1) (fun x9 => (if ky_inB ((45 + (3 * p5)) + 0) 2247 = true then (if (md_of_r c p5 0) < p1 then (if (0 : Int32) = p2 then (ky_let (p4 + 0) (fun x13 => (ky_let (p5 + 1) (fun x14 => (md_signs_L27 N k n c p1 p2 x9 x13 x14))))) else (ky_let (p4 + 1) (fun x15 => (ky_let (p5 + 1) (fun x16 => (md_signs_L27 N k n c p1 p2 x9 x15 x16)))))) else (if (1 : Int32) = p2 then (ky_let (p4 + 0) (fun x18 => (ky_let (p5 + 1) (fun x19 => (md_signs_L27 N k n c p1 p2 x9 x18 x19))))) else (ky_let (p4 + 1) (fun x20 => (ky_let (p5 + 1) (fun x21 => (md_signs_L27 N k n c p1 p2 x9 x20 x21))))))) else none))) else (ky_let (p5 + 1) (fun x22 => (md_signs_L27 N k n c p1 p2 p3 p4 x22)))) else (if (md_of_r c p5 2) = (1 : Int32) then (ky_let (p3 + 1) (fun x24 => (if ky_inB ((45 + (3 * p5)) + 0) 2247 = true then (if (md_of_r c p5 0) < p1 then (if (0 : Int32) = p2 then (ky_let (p4 + 0) (fun x28 => (ky_let (p5 + 1) (fun x29 => (md_signs_L27 N k n c p1 p2 x24 x28 x29))))) else (ky_let (p4 + 1) (fun x30 => (ky_let (p5 + 1) (fun x31 => (md_signs_L27 N k n c p1 p2 x24 x30 x31)))))) else (if (1 : Int32) = p2 then (ky_let (p4 + 0) (fun x33 => (ky_let (p5 + 1) (fun x34 => (md_signs_L27 N k n c p1 p2 x24 x33 x34))))) else (ky_let (p4 + 1) (fun x35 => (ky_let (p5 + 1) (fun x36 => (md_signs_L27 N k n c p1 p2 x24 x35 x36))))))) else none))) else (ky_let (p5 + 1) (fun x37 => (md_signs_L27 N k n c p1 p2 p3 p4 x37))))) else none) else (ky_let (p5 + 1) (fun x5 => (md_signs_L27 N k n c p1 p2 p3 p4 x5)))) else (if (md_of_r c p5 1) = (0 : Int32) then (if ky_inB ((45 + (3 * p5)) + 2) 2247 = true then (if p2 = 0 then (if (md_of_r c p5 2) = (0 : Int32) then (ky_let (p3 + 1) (fun x43 => (if ky_inB ((45 + (3 * p5)) + 0) 2247 = true then (if (md_of_r c p5 0) < p1 then (if (0 : Int32) = p2 then (ky_let (p4 + 0) (fun x47 => (ky_let (p5 + 1) (fun x48 => (md_signs_L27 N k n c p1 p2 x43 x47 x48))))) else (ky_let (p4 + 1) (fun x49 => (ky_let (p5 + 1) (fun x50 => (md_signs_L27 N k n c p1 p2 x43 x49 x50)))))) else (if (1 : Int32) = p2 then (ky_let (p4 + 0) (fun x52 => (ky_let (p5 + 1) (fun x53 => (md_signs_L27 N k n c p1 p2 x43 x52 x53))))) else (ky_let (p4 + 1) (fun x54 => (ky_let (p5 + 1) (fun x55 => (md_signs_L27 N k n c p1 p2 x43 x54 x55))))))) else none))) else (ky_let (p5 + 1) (fun x56 => (md_signs_L27 N k n c p1 p2 p3 p4 x56)))) else (if (md_of_r c p5 2) = (1 : Int32) then (ky_let (p3 + 1) (fun x58 => (if ky_inB ((45 + (3 * p5)) + 0) 2247 = true then (if (md_of_r c p5 0) < p1 then (if (0 : Int32) = p2 then (ky_let (p4 + 0) (fun x62 => (ky_let (p5 + 1) (fun x63 => (md_signs_L27 N k n c p1 p2 x58 x62 x63))))) else (ky_let (p4 + 1) (fun x64 => (ky_let (p5 + 1) (fun x65 => (md_signs_L27 N k n c p1 p2 x58 x64 x65)))))) else (if (1 : Int32) = p2 then (ky_let (p4 + 0) (fun x67 => (ky_let (p5 + 1) (fun x68 => (md_signs_L27 N k n c p1 p2 x58 x67 x68))))) else (ky_let (p4 + 1) (fun x69 => (ky_let (p5 + 1) (fun x70 => (md_signs_L27 N k n c p1 p2 x58 x69 x70))))))) else none))) else (ky_let (p5 + 1) (fun x71 => (md_signs_L27 N k n c p1 p2 p3 p4 x71))))) else none) else (ky_let (p5 + 1) (fun x39 => (md_signs_L27 N k n c p1 p2 p3 p4 x39))))) else none))
set_option maxRecDepth 20000 in
set_option maxHeartbeats 4000000 in
theorem lv_X12_signs_27 {G : ky_GW} {d : Nat} {h0 : ky_HP} {Q : ky_RS → ky_HP → Prop} {a : Nat} {c9 : (Nat → Nat → Int32)} {r9 : Int32} (N : Nat) (k : (Nat → Nat → Int32) → Int32 → Int32 → Int32 → Int32 → Int32 → Option ((Nat → Nat → Int32) × Int32)) (hr : ∀ h1, md_at G h1 a c9 → bk_fr a 13 h0 h1 → Q (.inl (some (.int r9))) h1)
    (hk : ∀ (h : ky_HP) (c : (Nat → Nat → Int32)) (p1 : Int32) (p2 : Int32) (p3 : Int32) (p4 : Int32) (p5 : Int32), md_at G h a c → bk_fr a 13 h0 h → k c p1 p2 p3 p4 p5 = some (c9, r9) → ky_V G (d + 2) M_X12_signs 114 [(0, .ref a), (1, .int p1), (2, .int p2), (3, .int p3), (4, .int p4), (5, .int p5)] [] h Q) :
    ∀ (n : Nat) (h : ky_HP) (c : (Nat → Nat → Int32)) (p1 : Int32) (p2 : Int32) (p3 : Int32) (p4 : Int32) (p5 : Int32), md_at G h a c → bk_fr a 13 h0 h → md_signs_L27 N k n c p1 p2 p3 p4 p5 = some (c9, r9) → ky_V G (d + 2) M_X12_signs 27 [(0, .ref a), (1, .int p1), (2, .int p2), (3, .int p3), (4, .int p4), (5, .int p5)] [] h Q := by
  intro n
  induction n with
  | zero => intro h c p1 p2 p3 p4 p5 hm fr e; cases e
  | succ n ih =>
    intro h c p1 p2 p3 p4 p5 hm fr e
    rw [md_signs_L27] at e
    refine v_iload (i := 17) (j := 5) rfl rfl (?_ : ky_V _ _ _ 29 _ _ _ _)
    refine v_bipush (v := 64) (i := 18) rfl (by decide) (?_ : ky_V _ _ _ 31 _ _ _ _)
    refine v_icmp_ge (tgt := 114) (i := 19) rfl (by decide) (fun c1 => ?_) (fun c1 => ?_)
    · replace e := ky_ifT c1 e
      exact hk h c p1 p2 p3 p4 p5 hm fr e
    · replace e := ky_ifF c1 e
      refine v_aload_n (i := 20) (j := 0) rfl rfl (?_ : ky_V _ _ _ 35 _ _ _ _)
      refine v_iload (i := 21) (j := 5) rfl rfl (?_ : ky_V _ _ _ 37 _ _ _ _)
      refine v_iconst (v := 1) (i := 22) rfl (by decide) (?_ : ky_V _ _ _ 38 _ _ _ _)
      obtain ⟨z2, e⟩ := ky_chkE e
      refine cl_X12_397 (As := [.int p5, .int 1]) rfl (i := 23) rfl (md_0 hm) rfl rfl (Nat.le_of_ble_eq_true rfl) (k_X12_of p5 1 hm (ky_inb z2) ⟨_, rfl, (?_ : ky_V _ _ _ 41 _ [.int ((md_of_r c p5 1))] _ _)⟩)
      refine v_iload_n (i := 24) (j := 2) rfl rfl (?_ : ky_V _ _ _ 42 _ _ _ _)
      refine v_if_eq (tgt := 49) (i := 25) rfl (by decide) (fun c3 => ?_) (fun c3 => ?_)
      · replace e := ky_ifT c3 e
        refine v_iconst (v := 1) (i := 28) rfl (by decide) (?_ : ky_V _ _ _ 50 _ _ _ _)
        refine v_icmp_ne (tgt := 108) (i := 29) rfl (by decide) (fun c4 => ?_) (fun c4 => ?_)
        · replace e := ky_ifF c4 e
          obtain ⟨x5, ex5⟩ : ∃ z : Int32, z = p5 + 1 := ⟨_, rfl⟩
          replace e := ky_letE ex5 e
          refine v_iinc (v := x5) (j := 5) (L' := [(0, .ref a), (1, .int p1), (2, .int p2), (3, .int p3), (4, .int p4), (5, .int x5)]) [1, 2, 3, 4, 5, 0] (i := 59) rfl rfl (by rw [ex5]; rfl) (Nat.le_of_ble_eq_true rfl) rfl (?_ : ky_V _ _ _ 111 _ _ _ _)
          refine v_goto (tgt := 27) (i := 60) rfl (by decide) (?_ : ky_V _ _ _ 27 _ _ _ _)
          exact ih h c p1 p2 p3 p4 x5 hm fr e
        · replace e := ky_ifT c4 e
          refine v_aload_n (i := 30) (j := 0) rfl rfl (?_ : ky_V _ _ _ 54 _ _ _ _)
          refine v_iload (i := 31) (j := 5) rfl rfl (?_ : ky_V _ _ _ 56 _ _ _ _)
          refine v_iconst (v := 2) (i := 32) rfl (by decide) (?_ : ky_V _ _ _ 57 _ _ _ _)
          obtain ⟨z6, e⟩ := ky_chkE e
          refine cl_X12_397 (As := [.int p5, .int 2]) rfl (i := 33) rfl (md_0 hm) rfl rfl (Nat.le_of_ble_eq_true rfl) (k_X12_of p5 2 hm (ky_inb z6) ⟨_, rfl, (?_ : ky_V _ _ _ 60 _ [.int ((md_of_r c p5 2))] _ _)⟩)
          refine v_iload_n (i := 34) (j := 2) rfl rfl (?_ : ky_V _ _ _ 61 _ _ _ _)
          refine v_if_eq (tgt := 68) (i := 35) rfl (by decide) (fun c7 => ?_) (fun c7 => ?_)
          · replace e := ky_ifT c7 e
            refine v_iconst (v := 0) (i := 38) rfl (by decide) (?_ : ky_V _ _ _ 69 _ _ _ _)
            refine v_icmp_eq (tgt := 75) (i := 39) rfl (by decide) (fun c8 => ?_) (fun c8 => ?_)
            · replace e := ky_ifT c8 e
              obtain ⟨x9, ex9⟩ : ∃ z : Int32, z = p3 + 1 := ⟨_, rfl⟩
              replace e := ky_letE ex9 e
              refine v_iinc (v := x9) (j := 3) (L' := [(0, .ref a), (1, .int p1), (2, .int p2), (3, .int x9), (4, .int p4), (5, .int p5)]) [1, 2, 3, 0, 4, 5] (i := 41) rfl rfl (by rw [ex9]; rfl) (Nat.le_of_ble_eq_true rfl) rfl (?_ : ky_V _ _ _ 78 _ _ _ _)
              refine v_iload (i := 42) (j := 4) rfl rfl (?_ : ky_V _ _ _ 80 _ _ _ _)
              refine v_aload_n (i := 43) (j := 0) rfl rfl (?_ : ky_V _ _ _ 81 _ _ _ _)
              refine v_iload (i := 44) (j := 5) rfl rfl (?_ : ky_V _ _ _ 83 _ _ _ _)
              refine v_iconst (v := 0) (i := 45) rfl (by decide) (?_ : ky_V _ _ _ 84 _ _ _ _)
              obtain ⟨z10, e⟩ := ky_chkE e
              refine cl_X12_397 (As := [.int p5, .int 0]) rfl (i := 46) rfl (md_0 hm) rfl rfl (Nat.le_of_ble_eq_true rfl) (k_X12_of p5 0 hm (ky_inb z10) ⟨_, rfl, (?_ : ky_V _ _ _ 87 _ [.int ((md_of_r c p5 0)), .int p4] _ _)⟩)
              refine v_iload_n (i := 47) (j := 1) rfl rfl (?_ : ky_V _ _ _ 88 _ _ _ _)
              refine v_icmp_lt (tgt := 95) (i := 48) rfl (by decide) (fun c11 => ?_) (fun c11 => ?_)
              · replace e := ky_ifT c11 e
                refine v_iconst (v := 0) (i := 51) rfl (by decide) (?_ : ky_V _ _ _ 96 _ _ _ _)
                refine v_iload_n (i := 52) (j := 2) rfl rfl (?_ : ky_V _ _ _ 97 _ _ _ _)
                refine v_icmp_eq (tgt := 104) (i := 53) rfl (by decide) (fun c12 => ?_) (fun c12 => ?_)
                · replace e := ky_ifT c12 e
                  refine v_iconst (v := 0) (i := 56) rfl (by decide) (?_ : ky_V _ _ _ 105 _ _ _ _)
                  refine v_iadd (i := 57) rfl (?_ : ky_V _ _ _ 106 _ _ _ _)
                  refine v_topi (fun x13 ex13 => ?_)
                  replace e := ky_letE ex13 e
                  refine v_istore (L' := [(0, .ref a), (1, .int p1), (2, .int p2), (3, .int x9), (4, .int x13), (5, .int p5)]) [1, 2, 3, 4, 0, 5] (i := 58) rfl (Nat.le_of_ble_eq_true rfl) rfl (?_ : ky_V _ _ _ 108 _ _ _ _)
                  obtain ⟨x14, ex14⟩ : ∃ z : Int32, z = p5 + 1 := ⟨_, rfl⟩
                  replace e := ky_letE ex14 e
                  refine v_iinc (v := x14) (j := 5) (L' := [(0, .ref a), (1, .int p1), (2, .int p2), (3, .int x9), (4, .int x13), (5, .int x14)]) [1, 2, 3, 4, 5, 0] (i := 59) rfl rfl (by rw [ex14]; rfl) (Nat.le_of_ble_eq_true rfl) rfl (?_ : ky_V _ _ _ 111 _ _ _ _)
                  refine v_goto (tgt := 27) (i := 60) rfl (by decide) (?_ : ky_V _ _ _ 27 _ _ _ _)
                  exact ih h c p1 p2 x9 x13 x14 hm fr e
                · replace e := ky_ifF c12 e
                  refine v_iconst (v := 1) (i := 54) rfl (by decide) (?_ : ky_V _ _ _ 101 _ _ _ _)
                  refine v_goto (tgt := 105) (i := 55) rfl (by decide) (?_ : ky_V _ _ _ 105 _ _ _ _)
                  refine v_iadd (i := 57) rfl (?_ : ky_V _ _ _ 106 _ _ _ _)
                  refine v_topi (fun x15 ex15 => ?_)
                  replace e := ky_letE ex15 e
                  refine v_istore (L' := [(0, .ref a), (1, .int p1), (2, .int p2), (3, .int x9), (4, .int x15), (5, .int p5)]) [1, 2, 3, 4, 0, 5] (i := 58) rfl (Nat.le_of_ble_eq_true rfl) rfl (?_ : ky_V _ _ _ 108 _ _ _ _)
                  obtain ⟨x16, ex16⟩ : ∃ z : Int32, z = p5 + 1 := ⟨_, rfl⟩
                  replace e := ky_letE ex16 e
                  refine v_iinc (v := x16) (j := 5) (L' := [(0, .ref a), (1, .int p1), (2, .int p2), (3, .int x9), (4, .int x15), (5, .int x16)]) [1, 2, 3, 4, 5, 0] (i := 59) rfl rfl (by rw [ex16]; rfl) (Nat.le_of_ble_eq_true rfl) rfl (?_ : ky_V _ _ _ 111 _ _ _ _)
                  refine v_goto (tgt := 27) (i := 60) rfl (by decide) (?_ : ky_V _ _ _ 27 _ _ _ _)
                  exact ih h c p1 p2 x9 x15 x16 hm fr e
              · replace e := ky_ifF c11 e
                refine v_iconst (v := 1) (i := 49) rfl (by decide) (?_ : ky_V _ _ _ 92 _ _ _ _)
                refine v_goto (tgt := 96) (i := 50) rfl (by decide) (?_ : ky_V _ _ _ 96 _ _ _ _)
                refine v_iload_n (i := 52) (j := 2) rfl rfl (?_ : ky_V _ _ _ 97 _ _ _ _)
                refine v_icmp_eq (tgt := 104) (i := 53) rfl (by decide) (fun c17 => ?_) (fun c17 => ?_)
                · replace e := ky_ifT c17 e
                  refine v_iconst (v := 0) (i := 56) rfl (by decide) (?_ : ky_V _ _ _ 105 _ _ _ _)
                  refine v_iadd (i := 57) rfl (?_ : ky_V _ _ _ 106 _ _ _ _)
                  refine v_topi (fun x18 ex18 => ?_)
                  replace e := ky_letE ex18 e
                  refine v_istore (L' := [(0, .ref a), (1, .int p1), (2, .int p2), (3, .int x9), (4, .int x18), (5, .int p5)]) [1, 2, 3, 4, 0, 5] (i := 58) rfl (Nat.le_of_ble_eq_true rfl) rfl (?_ : ky_V _ _ _ 108 _ _ _ _)
                  obtain ⟨x19, ex19⟩ : ∃ z : Int32, z = p5 + 1 := ⟨_, rfl⟩
                  replace e := ky_letE ex19 e
                  refine v_iinc (v := x19) (j := 5) (L' := [(0, .ref a), (1, .int p1), (2, .int p2), (3, .int x9), (4, .int x18), (5, .int x19)]) [1, 2, 3, 4, 5, 0] (i := 59) rfl rfl (by rw [ex19]; rfl) (Nat.le_of_ble_eq_true rfl) rfl (?_ : ky_V _ _ _ 111 _ _ _ _)
                  refine v_goto (tgt := 27) (i := 60) rfl (by decide) (?_ : ky_V _ _ _ 27 _ _ _ _)
                  exact ih h c p1 p2 x9 x18 x19 hm fr e
                · replace e := ky_ifF c17 e
                  refine v_iconst (v := 1) (i := 54) rfl (by decide) (?_ : ky_V _ _ _ 101 _ _ _ _)
                  refine v_goto (tgt := 105) (i := 55) rfl (by decide) (?_ : ky_V _ _ _ 105 _ _ _ _)
                  refine v_iadd (i := 57) rfl (?_ : ky_V _ _ _ 106 _ _ _ _)
                  refine v_topi (fun x20 ex20 => ?_)
                  replace e := ky_letE ex20 e
                  refine v_istore (L' := [(0, .ref a), (1, .int p1), (2, .int p2), (3, .int x9), (4, .int x20), (5, .int p5)]) [1, 2, 3, 4, 0, 5] (i := 58) rfl (Nat.le_of_ble_eq_true rfl) rfl (?_ : ky_V _ _ _ 108 _ _ _ _)
                  obtain ⟨x21, ex21⟩ : ∃ z : Int32, z = p5 + 1 := ⟨_, rfl⟩
                  replace e := ky_letE ex21 e
                  refine v_iinc (v := x21) (j := 5) (L' := [(0, .ref a), (1, .int p1), (2, .int p2), (3, .int x9), (4, .int x20), (5, .int x21)]) [1, 2, 3, 4, 5, 0] (i := 59) rfl rfl (by rw [ex21]; rfl) (Nat.le_of_ble_eq_true rfl) rfl (?_ : ky_V _ _ _ 111 _ _ _ _)
                  refine v_goto (tgt := 27) (i := 60) rfl (by decide) (?_ : ky_V _ _ _ 27 _ _ _ _)
                  exact ih h c p1 p2 x9 x20 x21 hm fr e
            · replace e := ky_ifF c8 e
              refine v_goto (tgt := 108) (i := 40) rfl (by decide) (?_ : ky_V _ _ _ 108 _ _ _ _)
              obtain ⟨x22, ex22⟩ : ∃ z : Int32, z = p5 + 1 := ⟨_, rfl⟩
              replace e := ky_letE ex22 e
              refine v_iinc (v := x22) (j := 5) (L' := [(0, .ref a), (1, .int p1), (2, .int p2), (3, .int p3), (4, .int p4), (5, .int x22)]) [1, 2, 3, 4, 5, 0] (i := 59) rfl rfl (by rw [ex22]; rfl) (Nat.le_of_ble_eq_true rfl) rfl (?_ : ky_V _ _ _ 111 _ _ _ _)
              refine v_goto (tgt := 27) (i := 60) rfl (by decide) (?_ : ky_V _ _ _ 27 _ _ _ _)
              exact ih h c p1 p2 p3 p4 x22 hm fr e
          · replace e := ky_ifF c7 e
            refine v_iconst (v := 1) (i := 36) rfl (by decide) (?_ : ky_V _ _ _ 65 _ _ _ _)
            refine v_goto (tgt := 69) (i := 37) rfl (by decide) (?_ : ky_V _ _ _ 69 _ _ _ _)
            refine v_icmp_eq (tgt := 75) (i := 39) rfl (by decide) (fun c23 => ?_) (fun c23 => ?_)
            · replace e := ky_ifT c23 e
              obtain ⟨x24, ex24⟩ : ∃ z : Int32, z = p3 + 1 := ⟨_, rfl⟩
              replace e := ky_letE ex24 e
              refine v_iinc (v := x24) (j := 3) (L' := [(0, .ref a), (1, .int p1), (2, .int p2), (3, .int x24), (4, .int p4), (5, .int p5)]) [1, 2, 3, 0, 4, 5] (i := 41) rfl rfl (by rw [ex24]; rfl) (Nat.le_of_ble_eq_true rfl) rfl (?_ : ky_V _ _ _ 78 _ _ _ _)
              refine v_iload (i := 42) (j := 4) rfl rfl (?_ : ky_V _ _ _ 80 _ _ _ _)
              refine v_aload_n (i := 43) (j := 0) rfl rfl (?_ : ky_V _ _ _ 81 _ _ _ _)
              refine v_iload (i := 44) (j := 5) rfl rfl (?_ : ky_V _ _ _ 83 _ _ _ _)
              refine v_iconst (v := 0) (i := 45) rfl (by decide) (?_ : ky_V _ _ _ 84 _ _ _ _)
              obtain ⟨z25, e⟩ := ky_chkE e
              refine cl_X12_397 (As := [.int p5, .int 0]) rfl (i := 46) rfl (md_0 hm) rfl rfl (Nat.le_of_ble_eq_true rfl) (k_X12_of p5 0 hm (ky_inb z25) ⟨_, rfl, (?_ : ky_V _ _ _ 87 _ [.int ((md_of_r c p5 0)), .int p4] _ _)⟩)
              refine v_iload_n (i := 47) (j := 1) rfl rfl (?_ : ky_V _ _ _ 88 _ _ _ _)
              refine v_icmp_lt (tgt := 95) (i := 48) rfl (by decide) (fun c26 => ?_) (fun c26 => ?_)
              · replace e := ky_ifT c26 e
                refine v_iconst (v := 0) (i := 51) rfl (by decide) (?_ : ky_V _ _ _ 96 _ _ _ _)
                refine v_iload_n (i := 52) (j := 2) rfl rfl (?_ : ky_V _ _ _ 97 _ _ _ _)
                refine v_icmp_eq (tgt := 104) (i := 53) rfl (by decide) (fun c27 => ?_) (fun c27 => ?_)
                · replace e := ky_ifT c27 e
                  refine v_iconst (v := 0) (i := 56) rfl (by decide) (?_ : ky_V _ _ _ 105 _ _ _ _)
                  refine v_iadd (i := 57) rfl (?_ : ky_V _ _ _ 106 _ _ _ _)
                  refine v_topi (fun x28 ex28 => ?_)
                  replace e := ky_letE ex28 e
                  refine v_istore (L' := [(0, .ref a), (1, .int p1), (2, .int p2), (3, .int x24), (4, .int x28), (5, .int p5)]) [1, 2, 3, 4, 0, 5] (i := 58) rfl (Nat.le_of_ble_eq_true rfl) rfl (?_ : ky_V _ _ _ 108 _ _ _ _)
                  obtain ⟨x29, ex29⟩ : ∃ z : Int32, z = p5 + 1 := ⟨_, rfl⟩
                  replace e := ky_letE ex29 e
                  refine v_iinc (v := x29) (j := 5) (L' := [(0, .ref a), (1, .int p1), (2, .int p2), (3, .int x24), (4, .int x28), (5, .int x29)]) [1, 2, 3, 4, 5, 0] (i := 59) rfl rfl (by rw [ex29]; rfl) (Nat.le_of_ble_eq_true rfl) rfl (?_ : ky_V _ _ _ 111 _ _ _ _)
                  refine v_goto (tgt := 27) (i := 60) rfl (by decide) (?_ : ky_V _ _ _ 27 _ _ _ _)
                  exact ih h c p1 p2 x24 x28 x29 hm fr e
                · replace e := ky_ifF c27 e
                  refine v_iconst (v := 1) (i := 54) rfl (by decide) (?_ : ky_V _ _ _ 101 _ _ _ _)
                  refine v_goto (tgt := 105) (i := 55) rfl (by decide) (?_ : ky_V _ _ _ 105 _ _ _ _)
                  refine v_iadd (i := 57) rfl (?_ : ky_V _ _ _ 106 _ _ _ _)
                  refine v_topi (fun x30 ex30 => ?_)
                  replace e := ky_letE ex30 e
                  refine v_istore (L' := [(0, .ref a), (1, .int p1), (2, .int p2), (3, .int x24), (4, .int x30), (5, .int p5)]) [1, 2, 3, 4, 0, 5] (i := 58) rfl (Nat.le_of_ble_eq_true rfl) rfl (?_ : ky_V _ _ _ 108 _ _ _ _)
                  obtain ⟨x31, ex31⟩ : ∃ z : Int32, z = p5 + 1 := ⟨_, rfl⟩
                  replace e := ky_letE ex31 e
                  refine v_iinc (v := x31) (j := 5) (L' := [(0, .ref a), (1, .int p1), (2, .int p2), (3, .int x24), (4, .int x30), (5, .int x31)]) [1, 2, 3, 4, 5, 0] (i := 59) rfl rfl (by rw [ex31]; rfl) (Nat.le_of_ble_eq_true rfl) rfl (?_ : ky_V _ _ _ 111 _ _ _ _)
                  refine v_goto (tgt := 27) (i := 60) rfl (by decide) (?_ : ky_V _ _ _ 27 _ _ _ _)
                  exact ih h c p1 p2 x24 x30 x31 hm fr e
              · replace e := ky_ifF c26 e
                refine v_iconst (v := 1) (i := 49) rfl (by decide) (?_ : ky_V _ _ _ 92 _ _ _ _)
                refine v_goto (tgt := 96) (i := 50) rfl (by decide) (?_ : ky_V _ _ _ 96 _ _ _ _)
                refine v_iload_n (i := 52) (j := 2) rfl rfl (?_ : ky_V _ _ _ 97 _ _ _ _)
                refine v_icmp_eq (tgt := 104) (i := 53) rfl (by decide) (fun c32 => ?_) (fun c32 => ?_)
                · replace e := ky_ifT c32 e
                  refine v_iconst (v := 0) (i := 56) rfl (by decide) (?_ : ky_V _ _ _ 105 _ _ _ _)
                  refine v_iadd (i := 57) rfl (?_ : ky_V _ _ _ 106 _ _ _ _)
                  refine v_topi (fun x33 ex33 => ?_)
                  replace e := ky_letE ex33 e
                  refine v_istore (L' := [(0, .ref a), (1, .int p1), (2, .int p2), (3, .int x24), (4, .int x33), (5, .int p5)]) [1, 2, 3, 4, 0, 5] (i := 58) rfl (Nat.le_of_ble_eq_true rfl) rfl (?_ : ky_V _ _ _ 108 _ _ _ _)
                  obtain ⟨x34, ex34⟩ : ∃ z : Int32, z = p5 + 1 := ⟨_, rfl⟩
                  replace e := ky_letE ex34 e
                  refine v_iinc (v := x34) (j := 5) (L' := [(0, .ref a), (1, .int p1), (2, .int p2), (3, .int x24), (4, .int x33), (5, .int x34)]) [1, 2, 3, 4, 5, 0] (i := 59) rfl rfl (by rw [ex34]; rfl) (Nat.le_of_ble_eq_true rfl) rfl (?_ : ky_V _ _ _ 111 _ _ _ _)
                  refine v_goto (tgt := 27) (i := 60) rfl (by decide) (?_ : ky_V _ _ _ 27 _ _ _ _)
                  exact ih h c p1 p2 x24 x33 x34 hm fr e
                · replace e := ky_ifF c32 e
                  refine v_iconst (v := 1) (i := 54) rfl (by decide) (?_ : ky_V _ _ _ 101 _ _ _ _)
                  refine v_goto (tgt := 105) (i := 55) rfl (by decide) (?_ : ky_V _ _ _ 105 _ _ _ _)
                  refine v_iadd (i := 57) rfl (?_ : ky_V _ _ _ 106 _ _ _ _)
                  refine v_topi (fun x35 ex35 => ?_)
                  replace e := ky_letE ex35 e
                  refine v_istore (L' := [(0, .ref a), (1, .int p1), (2, .int p2), (3, .int x24), (4, .int x35), (5, .int p5)]) [1, 2, 3, 4, 0, 5] (i := 58) rfl (Nat.le_of_ble_eq_true rfl) rfl (?_ : ky_V _ _ _ 108 _ _ _ _)
                  obtain ⟨x36, ex36⟩ : ∃ z : Int32, z = p5 + 1 := ⟨_, rfl⟩
                  replace e := ky_letE ex36 e
                  refine v_iinc (v := x36) (j := 5) (L' := [(0, .ref a), (1, .int p1), (2, .int p2), (3, .int x24), (4, .int x35), (5, .int x36)]) [1, 2, 3, 4, 5, 0] (i := 59) rfl rfl (by rw [ex36]; rfl) (Nat.le_of_ble_eq_true rfl) rfl (?_ : ky_V _ _ _ 111 _ _ _ _)
                  refine v_goto (tgt := 27) (i := 60) rfl (by decide) (?_ : ky_V _ _ _ 27 _ _ _ _)
                  exact ih h c p1 p2 x24 x35 x36 hm fr e
            · replace e := ky_ifF c23 e
              refine v_goto (tgt := 108) (i := 40) rfl (by decide) (?_ : ky_V _ _ _ 108 _ _ _ _)
              obtain ⟨x37, ex37⟩ : ∃ z : Int32, z = p5 + 1 := ⟨_, rfl⟩
              replace e := ky_letE ex37 e
              refine v_iinc (v := x37) (j := 5) (L' := [(0, .ref a), (1, .int p1), (2, .int p2), (3, .int p3), (4, .int p4), (5, .int x37)]) [1, 2, 3, 4, 5, 0] (i := 59) rfl rfl (by rw [ex37]; rfl) (Nat.le_of_ble_eq_true rfl) rfl (?_ : ky_V _ _ _ 111 _ _ _ _)
              refine v_goto (tgt := 27) (i := 60) rfl (by decide) (?_ : ky_V _ _ _ 27 _ _ _ _)
              exact ih h c p1 p2 p3 p4 x37 hm fr e
      · replace e := ky_ifF c3 e
        refine v_iconst (v := 0) (i := 26) rfl (by decide) (?_ : ky_V _ _ _ 46 _ _ _ _)
        refine v_goto (tgt := 50) (i := 27) rfl (by decide) (?_ : ky_V _ _ _ 50 _ _ _ _)
        refine v_icmp_ne (tgt := 108) (i := 29) rfl (by decide) (fun c38 => ?_) (fun c38 => ?_)
        · replace e := ky_ifF c38 e
          obtain ⟨x39, ex39⟩ : ∃ z : Int32, z = p5 + 1 := ⟨_, rfl⟩
          replace e := ky_letE ex39 e
          refine v_iinc (v := x39) (j := 5) (L' := [(0, .ref a), (1, .int p1), (2, .int p2), (3, .int p3), (4, .int p4), (5, .int x39)]) [1, 2, 3, 4, 5, 0] (i := 59) rfl rfl (by rw [ex39]; rfl) (Nat.le_of_ble_eq_true rfl) rfl (?_ : ky_V _ _ _ 111 _ _ _ _)
          refine v_goto (tgt := 27) (i := 60) rfl (by decide) (?_ : ky_V _ _ _ 27 _ _ _ _)
          exact ih h c p1 p2 p3 p4 x39 hm fr e
        · replace e := ky_ifT c38 e
          refine v_aload_n (i := 30) (j := 0) rfl rfl (?_ : ky_V _ _ _ 54 _ _ _ _)
          refine v_iload (i := 31) (j := 5) rfl rfl (?_ : ky_V _ _ _ 56 _ _ _ _)
          refine v_iconst (v := 2) (i := 32) rfl (by decide) (?_ : ky_V _ _ _ 57 _ _ _ _)
          obtain ⟨z40, e⟩ := ky_chkE e
          refine cl_X12_397 (As := [.int p5, .int 2]) rfl (i := 33) rfl (md_0 hm) rfl rfl (Nat.le_of_ble_eq_true rfl) (k_X12_of p5 2 hm (ky_inb z40) ⟨_, rfl, (?_ : ky_V _ _ _ 60 _ [.int ((md_of_r c p5 2))] _ _)⟩)
          refine v_iload_n (i := 34) (j := 2) rfl rfl (?_ : ky_V _ _ _ 61 _ _ _ _)
          refine v_if_eq (tgt := 68) (i := 35) rfl (by decide) (fun c41 => ?_) (fun c41 => ?_)
          · replace e := ky_ifT c41 e
            refine v_iconst (v := 0) (i := 38) rfl (by decide) (?_ : ky_V _ _ _ 69 _ _ _ _)
            refine v_icmp_eq (tgt := 75) (i := 39) rfl (by decide) (fun c42 => ?_) (fun c42 => ?_)
            · replace e := ky_ifT c42 e
              obtain ⟨x43, ex43⟩ : ∃ z : Int32, z = p3 + 1 := ⟨_, rfl⟩
              replace e := ky_letE ex43 e
              refine v_iinc (v := x43) (j := 3) (L' := [(0, .ref a), (1, .int p1), (2, .int p2), (3, .int x43), (4, .int p4), (5, .int p5)]) [1, 2, 3, 0, 4, 5] (i := 41) rfl rfl (by rw [ex43]; rfl) (Nat.le_of_ble_eq_true rfl) rfl (?_ : ky_V _ _ _ 78 _ _ _ _)
              refine v_iload (i := 42) (j := 4) rfl rfl (?_ : ky_V _ _ _ 80 _ _ _ _)
              refine v_aload_n (i := 43) (j := 0) rfl rfl (?_ : ky_V _ _ _ 81 _ _ _ _)
              refine v_iload (i := 44) (j := 5) rfl rfl (?_ : ky_V _ _ _ 83 _ _ _ _)
              refine v_iconst (v := 0) (i := 45) rfl (by decide) (?_ : ky_V _ _ _ 84 _ _ _ _)
              obtain ⟨z44, e⟩ := ky_chkE e
              refine cl_X12_397 (As := [.int p5, .int 0]) rfl (i := 46) rfl (md_0 hm) rfl rfl (Nat.le_of_ble_eq_true rfl) (k_X12_of p5 0 hm (ky_inb z44) ⟨_, rfl, (?_ : ky_V _ _ _ 87 _ [.int ((md_of_r c p5 0)), .int p4] _ _)⟩)
              refine v_iload_n (i := 47) (j := 1) rfl rfl (?_ : ky_V _ _ _ 88 _ _ _ _)
              refine v_icmp_lt (tgt := 95) (i := 48) rfl (by decide) (fun c45 => ?_) (fun c45 => ?_)
              · replace e := ky_ifT c45 e
                refine v_iconst (v := 0) (i := 51) rfl (by decide) (?_ : ky_V _ _ _ 96 _ _ _ _)
                refine v_iload_n (i := 52) (j := 2) rfl rfl (?_ : ky_V _ _ _ 97 _ _ _ _)
                refine v_icmp_eq (tgt := 104) (i := 53) rfl (by decide) (fun c46 => ?_) (fun c46 => ?_)
                · replace e := ky_ifT c46 e
                  refine v_iconst (v := 0) (i := 56) rfl (by decide) (?_ : ky_V _ _ _ 105 _ _ _ _)
                  refine v_iadd (i := 57) rfl (?_ : ky_V _ _ _ 106 _ _ _ _)
                  refine v_topi (fun x47 ex47 => ?_)
                  replace e := ky_letE ex47 e
                  refine v_istore (L' := [(0, .ref a), (1, .int p1), (2, .int p2), (3, .int x43), (4, .int x47), (5, .int p5)]) [1, 2, 3, 4, 0, 5] (i := 58) rfl (Nat.le_of_ble_eq_true rfl) rfl (?_ : ky_V _ _ _ 108 _ _ _ _)
                  obtain ⟨x48, ex48⟩ : ∃ z : Int32, z = p5 + 1 := ⟨_, rfl⟩
                  replace e := ky_letE ex48 e
                  refine v_iinc (v := x48) (j := 5) (L' := [(0, .ref a), (1, .int p1), (2, .int p2), (3, .int x43), (4, .int x47), (5, .int x48)]) [1, 2, 3, 4, 5, 0] (i := 59) rfl rfl (by rw [ex48]; rfl) (Nat.le_of_ble_eq_true rfl) rfl (?_ : ky_V _ _ _ 111 _ _ _ _)
                  refine v_goto (tgt := 27) (i := 60) rfl (by decide) (?_ : ky_V _ _ _ 27 _ _ _ _)
                  exact ih h c p1 p2 x43 x47 x48 hm fr e
                · replace e := ky_ifF c46 e
                  refine v_iconst (v := 1) (i := 54) rfl (by decide) (?_ : ky_V _ _ _ 101 _ _ _ _)
                  refine v_goto (tgt := 105) (i := 55) rfl (by decide) (?_ : ky_V _ _ _ 105 _ _ _ _)
                  refine v_iadd (i := 57) rfl (?_ : ky_V _ _ _ 106 _ _ _ _)
                  refine v_topi (fun x49 ex49 => ?_)
                  replace e := ky_letE ex49 e
                  refine v_istore (L' := [(0, .ref a), (1, .int p1), (2, .int p2), (3, .int x43), (4, .int x49), (5, .int p5)]) [1, 2, 3, 4, 0, 5] (i := 58) rfl (Nat.le_of_ble_eq_true rfl) rfl (?_ : ky_V _ _ _ 108 _ _ _ _)
                  obtain ⟨x50, ex50⟩ : ∃ z : Int32, z = p5 + 1 := ⟨_, rfl⟩
                  replace e := ky_letE ex50 e
                  refine v_iinc (v := x50) (j := 5) (L' := [(0, .ref a), (1, .int p1), (2, .int p2), (3, .int x43), (4, .int x49), (5, .int x50)]) [1, 2, 3, 4, 5, 0] (i := 59) rfl rfl (by rw [ex50]; rfl) (Nat.le_of_ble_eq_true rfl) rfl (?_ : ky_V _ _ _ 111 _ _ _ _)
                  refine v_goto (tgt := 27) (i := 60) rfl (by decide) (?_ : ky_V _ _ _ 27 _ _ _ _)
                  exact ih h c p1 p2 x43 x49 x50 hm fr e
              · replace e := ky_ifF c45 e
                refine v_iconst (v := 1) (i := 49) rfl (by decide) (?_ : ky_V _ _ _ 92 _ _ _ _)
                refine v_goto (tgt := 96) (i := 50) rfl (by decide) (?_ : ky_V _ _ _ 96 _ _ _ _)
                refine v_iload_n (i := 52) (j := 2) rfl rfl (?_ : ky_V _ _ _ 97 _ _ _ _)
                refine v_icmp_eq (tgt := 104) (i := 53) rfl (by decide) (fun c51 => ?_) (fun c51 => ?_)
                · replace e := ky_ifT c51 e
                  refine v_iconst (v := 0) (i := 56) rfl (by decide) (?_ : ky_V _ _ _ 105 _ _ _ _)
                  refine v_iadd (i := 57) rfl (?_ : ky_V _ _ _ 106 _ _ _ _)
                  refine v_topi (fun x52 ex52 => ?_)
                  replace e := ky_letE ex52 e
                  refine v_istore (L' := [(0, .ref a), (1, .int p1), (2, .int p2), (3, .int x43), (4, .int x52), (5, .int p5)]) [1, 2, 3, 4, 0, 5] (i := 58) rfl (Nat.le_of_ble_eq_true rfl) rfl (?_ : ky_V _ _ _ 108 _ _ _ _)
                  obtain ⟨x53, ex53⟩ : ∃ z : Int32, z = p5 + 1 := ⟨_, rfl⟩
                  replace e := ky_letE ex53 e
                  refine v_iinc (v := x53) (j := 5) (L' := [(0, .ref a), (1, .int p1), (2, .int p2), (3, .int x43), (4, .int x52), (5, .int x53)]) [1, 2, 3, 4, 5, 0] (i := 59) rfl rfl (by rw [ex53]; rfl) (Nat.le_of_ble_eq_true rfl) rfl (?_ : ky_V _ _ _ 111 _ _ _ _)
                  refine v_goto (tgt := 27) (i := 60) rfl (by decide) (?_ : ky_V _ _ _ 27 _ _ _ _)
                  exact ih h c p1 p2 x43 x52 x53 hm fr e
                · replace e := ky_ifF c51 e
                  refine v_iconst (v := 1) (i := 54) rfl (by decide) (?_ : ky_V _ _ _ 101 _ _ _ _)
                  refine v_goto (tgt := 105) (i := 55) rfl (by decide) (?_ : ky_V _ _ _ 105 _ _ _ _)
                  refine v_iadd (i := 57) rfl (?_ : ky_V _ _ _ 106 _ _ _ _)
                  refine v_topi (fun x54 ex54 => ?_)
                  replace e := ky_letE ex54 e
                  refine v_istore (L' := [(0, .ref a), (1, .int p1), (2, .int p2), (3, .int x43), (4, .int x54), (5, .int p5)]) [1, 2, 3, 4, 0, 5] (i := 58) rfl (Nat.le_of_ble_eq_true rfl) rfl (?_ : ky_V _ _ _ 108 _ _ _ _)
                  obtain ⟨x55, ex55⟩ : ∃ z : Int32, z = p5 + 1 := ⟨_, rfl⟩
                  replace e := ky_letE ex55 e
                  refine v_iinc (v := x55) (j := 5) (L' := [(0, .ref a), (1, .int p1), (2, .int p2), (3, .int x43), (4, .int x54), (5, .int x55)]) [1, 2, 3, 4, 5, 0] (i := 59) rfl rfl (by rw [ex55]; rfl) (Nat.le_of_ble_eq_true rfl) rfl (?_ : ky_V _ _ _ 111 _ _ _ _)
                  refine v_goto (tgt := 27) (i := 60) rfl (by decide) (?_ : ky_V _ _ _ 27 _ _ _ _)
                  exact ih h c p1 p2 x43 x54 x55 hm fr e
            · replace e := ky_ifF c42 e
              refine v_goto (tgt := 108) (i := 40) rfl (by decide) (?_ : ky_V _ _ _ 108 _ _ _ _)
              obtain ⟨x56, ex56⟩ : ∃ z : Int32, z = p5 + 1 := ⟨_, rfl⟩
              replace e := ky_letE ex56 e
              refine v_iinc (v := x56) (j := 5) (L' := [(0, .ref a), (1, .int p1), (2, .int p2), (3, .int p3), (4, .int p4), (5, .int x56)]) [1, 2, 3, 4, 5, 0] (i := 59) rfl rfl (by rw [ex56]; rfl) (Nat.le_of_ble_eq_true rfl) rfl (?_ : ky_V _ _ _ 111 _ _ _ _)
              refine v_goto (tgt := 27) (i := 60) rfl (by decide) (?_ : ky_V _ _ _ 27 _ _ _ _)
              exact ih h c p1 p2 p3 p4 x56 hm fr e
          · replace e := ky_ifF c41 e
            refine v_iconst (v := 1) (i := 36) rfl (by decide) (?_ : ky_V _ _ _ 65 _ _ _ _)
            refine v_goto (tgt := 69) (i := 37) rfl (by decide) (?_ : ky_V _ _ _ 69 _ _ _ _)
            refine v_icmp_eq (tgt := 75) (i := 39) rfl (by decide) (fun c57 => ?_) (fun c57 => ?_)
            · replace e := ky_ifT c57 e
              obtain ⟨x58, ex58⟩ : ∃ z : Int32, z = p3 + 1 := ⟨_, rfl⟩
              replace e := ky_letE ex58 e
              refine v_iinc (v := x58) (j := 3) (L' := [(0, .ref a), (1, .int p1), (2, .int p2), (3, .int x58), (4, .int p4), (5, .int p5)]) [1, 2, 3, 0, 4, 5] (i := 41) rfl rfl (by rw [ex58]; rfl) (Nat.le_of_ble_eq_true rfl) rfl (?_ : ky_V _ _ _ 78 _ _ _ _)
              refine v_iload (i := 42) (j := 4) rfl rfl (?_ : ky_V _ _ _ 80 _ _ _ _)
              refine v_aload_n (i := 43) (j := 0) rfl rfl (?_ : ky_V _ _ _ 81 _ _ _ _)
              refine v_iload (i := 44) (j := 5) rfl rfl (?_ : ky_V _ _ _ 83 _ _ _ _)
              refine v_iconst (v := 0) (i := 45) rfl (by decide) (?_ : ky_V _ _ _ 84 _ _ _ _)
              obtain ⟨z59, e⟩ := ky_chkE e
              refine cl_X12_397 (As := [.int p5, .int 0]) rfl (i := 46) rfl (md_0 hm) rfl rfl (Nat.le_of_ble_eq_true rfl) (k_X12_of p5 0 hm (ky_inb z59) ⟨_, rfl, (?_ : ky_V _ _ _ 87 _ [.int ((md_of_r c p5 0)), .int p4] _ _)⟩)
              refine v_iload_n (i := 47) (j := 1) rfl rfl (?_ : ky_V _ _ _ 88 _ _ _ _)
              refine v_icmp_lt (tgt := 95) (i := 48) rfl (by decide) (fun c60 => ?_) (fun c60 => ?_)
              · replace e := ky_ifT c60 e
                refine v_iconst (v := 0) (i := 51) rfl (by decide) (?_ : ky_V _ _ _ 96 _ _ _ _)
                refine v_iload_n (i := 52) (j := 2) rfl rfl (?_ : ky_V _ _ _ 97 _ _ _ _)
                refine v_icmp_eq (tgt := 104) (i := 53) rfl (by decide) (fun c61 => ?_) (fun c61 => ?_)
                · replace e := ky_ifT c61 e
                  refine v_iconst (v := 0) (i := 56) rfl (by decide) (?_ : ky_V _ _ _ 105 _ _ _ _)
                  refine v_iadd (i := 57) rfl (?_ : ky_V _ _ _ 106 _ _ _ _)
                  refine v_topi (fun x62 ex62 => ?_)
                  replace e := ky_letE ex62 e
                  refine v_istore (L' := [(0, .ref a), (1, .int p1), (2, .int p2), (3, .int x58), (4, .int x62), (5, .int p5)]) [1, 2, 3, 4, 0, 5] (i := 58) rfl (Nat.le_of_ble_eq_true rfl) rfl (?_ : ky_V _ _ _ 108 _ _ _ _)
                  obtain ⟨x63, ex63⟩ : ∃ z : Int32, z = p5 + 1 := ⟨_, rfl⟩
                  replace e := ky_letE ex63 e
                  refine v_iinc (v := x63) (j := 5) (L' := [(0, .ref a), (1, .int p1), (2, .int p2), (3, .int x58), (4, .int x62), (5, .int x63)]) [1, 2, 3, 4, 5, 0] (i := 59) rfl rfl (by rw [ex63]; rfl) (Nat.le_of_ble_eq_true rfl) rfl (?_ : ky_V _ _ _ 111 _ _ _ _)
                  refine v_goto (tgt := 27) (i := 60) rfl (by decide) (?_ : ky_V _ _ _ 27 _ _ _ _)
                  exact ih h c p1 p2 x58 x62 x63 hm fr e
                · replace e := ky_ifF c61 e
                  refine v_iconst (v := 1) (i := 54) rfl (by decide) (?_ : ky_V _ _ _ 101 _ _ _ _)
                  refine v_goto (tgt := 105) (i := 55) rfl (by decide) (?_ : ky_V _ _ _ 105 _ _ _ _)
                  refine v_iadd (i := 57) rfl (?_ : ky_V _ _ _ 106 _ _ _ _)
                  refine v_topi (fun x64 ex64 => ?_)
                  replace e := ky_letE ex64 e
                  refine v_istore (L' := [(0, .ref a), (1, .int p1), (2, .int p2), (3, .int x58), (4, .int x64), (5, .int p5)]) [1, 2, 3, 4, 0, 5] (i := 58) rfl (Nat.le_of_ble_eq_true rfl) rfl (?_ : ky_V _ _ _ 108 _ _ _ _)
                  obtain ⟨x65, ex65⟩ : ∃ z : Int32, z = p5 + 1 := ⟨_, rfl⟩
                  replace e := ky_letE ex65 e
                  refine v_iinc (v := x65) (j := 5) (L' := [(0, .ref a), (1, .int p1), (2, .int p2), (3, .int x58), (4, .int x64), (5, .int x65)]) [1, 2, 3, 4, 5, 0] (i := 59) rfl rfl (by rw [ex65]; rfl) (Nat.le_of_ble_eq_true rfl) rfl (?_ : ky_V _ _ _ 111 _ _ _ _)
                  refine v_goto (tgt := 27) (i := 60) rfl (by decide) (?_ : ky_V _ _ _ 27 _ _ _ _)
                  exact ih h c p1 p2 x58 x64 x65 hm fr e
              · replace e := ky_ifF c60 e
                refine v_iconst (v := 1) (i := 49) rfl (by decide) (?_ : ky_V _ _ _ 92 _ _ _ _)
                refine v_goto (tgt := 96) (i := 50) rfl (by decide) (?_ : ky_V _ _ _ 96 _ _ _ _)
                refine v_iload_n (i := 52) (j := 2) rfl rfl (?_ : ky_V _ _ _ 97 _ _ _ _)
                refine v_icmp_eq (tgt := 104) (i := 53) rfl (by decide) (fun c66 => ?_) (fun c66 => ?_)
                · replace e := ky_ifT c66 e
                  refine v_iconst (v := 0) (i := 56) rfl (by decide) (?_ : ky_V _ _ _ 105 _ _ _ _)
                  refine v_iadd (i := 57) rfl (?_ : ky_V _ _ _ 106 _ _ _ _)
                  refine v_topi (fun x67 ex67 => ?_)
                  replace e := ky_letE ex67 e
                  refine v_istore (L' := [(0, .ref a), (1, .int p1), (2, .int p2), (3, .int x58), (4, .int x67), (5, .int p5)]) [1, 2, 3, 4, 0, 5] (i := 58) rfl (Nat.le_of_ble_eq_true rfl) rfl (?_ : ky_V _ _ _ 108 _ _ _ _)
                  obtain ⟨x68, ex68⟩ : ∃ z : Int32, z = p5 + 1 := ⟨_, rfl⟩
                  replace e := ky_letE ex68 e
                  refine v_iinc (v := x68) (j := 5) (L' := [(0, .ref a), (1, .int p1), (2, .int p2), (3, .int x58), (4, .int x67), (5, .int x68)]) [1, 2, 3, 4, 5, 0] (i := 59) rfl rfl (by rw [ex68]; rfl) (Nat.le_of_ble_eq_true rfl) rfl (?_ : ky_V _ _ _ 111 _ _ _ _)
                  refine v_goto (tgt := 27) (i := 60) rfl (by decide) (?_ : ky_V _ _ _ 27 _ _ _ _)
                  exact ih h c p1 p2 x58 x67 x68 hm fr e
                · replace e := ky_ifF c66 e
                  refine v_iconst (v := 1) (i := 54) rfl (by decide) (?_ : ky_V _ _ _ 101 _ _ _ _)
                  refine v_goto (tgt := 105) (i := 55) rfl (by decide) (?_ : ky_V _ _ _ 105 _ _ _ _)
                  refine v_iadd (i := 57) rfl (?_ : ky_V _ _ _ 106 _ _ _ _)
                  refine v_topi (fun x69 ex69 => ?_)
                  replace e := ky_letE ex69 e
                  refine v_istore (L' := [(0, .ref a), (1, .int p1), (2, .int p2), (3, .int x58), (4, .int x69), (5, .int p5)]) [1, 2, 3, 4, 0, 5] (i := 58) rfl (Nat.le_of_ble_eq_true rfl) rfl (?_ : ky_V _ _ _ 108 _ _ _ _)
                  obtain ⟨x70, ex70⟩ : ∃ z : Int32, z = p5 + 1 := ⟨_, rfl⟩
                  replace e := ky_letE ex70 e
                  refine v_iinc (v := x70) (j := 5) (L' := [(0, .ref a), (1, .int p1), (2, .int p2), (3, .int x58), (4, .int x69), (5, .int x70)]) [1, 2, 3, 4, 5, 0] (i := 59) rfl rfl (by rw [ex70]; rfl) (Nat.le_of_ble_eq_true rfl) rfl (?_ : ky_V _ _ _ 111 _ _ _ _)
                  refine v_goto (tgt := 27) (i := 60) rfl (by decide) (?_ : ky_V _ _ _ 27 _ _ _ _)
                  exact ih h c p1 p2 x58 x69 x70 hm fr e
            · replace e := ky_ifF c57 e
              refine v_goto (tgt := 108) (i := 40) rfl (by decide) (?_ : ky_V _ _ _ 108 _ _ _ _)
              obtain ⟨x71, ex71⟩ : ∃ z : Int32, z = p5 + 1 := ⟨_, rfl⟩
              replace e := ky_letE ex71 e
              refine v_iinc (v := x71) (j := 5) (L' := [(0, .ref a), (1, .int p1), (2, .int p2), (3, .int p3), (4, .int p4), (5, .int x71)]) [1, 2, 3, 4, 5, 0] (i := 59) rfl rfl (by rw [ex71]; rfl) (Nat.le_of_ble_eq_true rfl) rfl (?_ : ky_V _ _ _ 111 _ _ _ _)
              refine v_goto (tgt := 27) (i := 60) rfl (by decide) (?_ : ky_V _ _ _ 27 _ _ _ _)
              exact ih h c p1 p2 p3 p4 x71 hm fr e

def md_signs (N : Nat) (c : (Nat → Nat → Int32)) (p1 : Int32) (p2 : Int32) : Option ((Nat → Nat → Int32) × Int32) := (ky_let (bk_w c 0 0 0) (fun q2 => (if (md_noWeight p1) = 0 ∨ (md_noWeight p1) = 1 then (ky_let (md_throwsIf_r q2 (md_noWeight p1) 1) (fun x6 => (ky_let (md_throwsIf_c q2 (md_noWeight p1) 1) (fun q5 => (if x6 = 0 then (md_signs_L27 N (fun q9 x10 x11 x12 x13 x14 => (if x12 = 0 then (some (q9, 0)) else (if ¬ x12 = 0 then (some (q9, ((100 * x13) / x12))) else none))) N q5 p1 p2 0 0 0) else (some (q5, 0))))))) else none)))
set_option maxRecDepth 20000 in
set_option maxHeartbeats 4000000 in
theorem k_X12_signs {G : ky_GW} {d : Nat} {h : ky_HP} {Q : ky_RS → ky_HP → Prop} {a : Nat} {c c9 : (Nat → Nat → Int32)} {r9 : Int32} {p1 : Int32} {p2 : Int32} (N : Nat) (hm : md_at G h a c) (e : md_signs N c p1 p2 = some (c9, r9)) (hr : ∀ h1, md_at G h1 a c9 → bk_fr a 13 h h1 → Q (.inl (some (.int r9))) h1) : ky_Call G (d + 2) M_X12_signs [.ref a, .int p1, .int p2] h Q := by
  refine ky_ofV (by decide +kernel) rfl ok_X12_signs (Nat.le_of_ble_eq_true rfl) ?_
  have fr : bk_fr a 13 h h := bk_fr.rf
  unfold md_signs at e
  refine (?_ : ky_V _ _ _ 0 [(0, .ref a), (1, .int p1), (2, .int p2)] [] _ _)
  refine v_aload_n (i := 0) (j := 0) rfl rfl (?_ : ky_V _ _ _ 1 _ _ _ _)
  refine v_iconst (v := 0) (i := 1) rfl (by decide) (?_ : ky_V _ _ _ 2 _ _ _ _)
  refine pf_X12_3 rfl (i := 2) rfl (md_0 hm) (Nat.le_of_ble_eq_true rfl) rfl rfl ?_
  refine bk_st (B := md_B G a) hm fr 0 0 0 (by decide) (fun h1 hmh1 frh1 => ?_)
  obtain ⟨q2, eq2⟩ : ∃ z, z = (bk_w c 0 0 0) := ⟨_, rfl⟩
  rw [← eq2] at hmh1
  replace e := ky_letE eq2 e
  refine (?_ : ky_V _ _ _ 5 _ _ _ _)
  refine v_aload_n (i := 3) (j := 0) rfl rfl (?_ : ky_V _ _ _ 6 _ _ _ _)
  refine v_iload_n (i := 4) (j := 1) rfl rfl (?_ : ky_V _ _ _ 7 _ _ _ _)
  refine cl_X12_427 (As := [.int p1]) rfl (i := 5) rfl rfl rfl (Nat.le_of_ble_eq_true rfl) (k_X12_noWeight p1 ⟨_, rfl, (?_ : ky_V _ _ _ 10 _ [.int ((md_noWeight p1)), .ref a] _ _)⟩)
  refine v_iconst (v := 1) (i := 6) rfl (by decide) (?_ : ky_V _ _ _ 11 _ _ _ _)
  obtain ⟨z3, e⟩ := ky_chkE e
  refine cl_X12_241 (As := [.int ((md_noWeight p1)), .int 1]) rfl (i := 7) rfl (md_0 hmh1) rfl rfl (Nat.le_of_ble_eq_true rfl) (k_X12_throwsIf (md_noWeight p1) 1 hmh1 z3 (fun h4 hmh4 frh4 => ⟨_, rfl, (?_ : ky_V _ _ _ 14 _ [.int ((md_throwsIf_r q2 (md_noWeight p1) 1))] _ _)⟩))
  have frh4 := frh1.tr frh4
  refine v_topi (fun x6 ex6 => ?_)
  replace e := ky_letE ex6 e
  obtain ⟨q5, eq5⟩ : ∃ z, z = (md_throwsIf_c q2 (md_noWeight p1) 1) := ⟨_, rfl⟩
  rw [← eq5] at hmh4
  replace e := ky_letE eq5 e
  refine v_if_eq (tgt := 19) (i := 8) rfl (by decide) (fun c7 => ?_) (fun c7 => ?_)
  · replace e := ky_ifT c7 e
    refine v_iconst (v := 0) (i := 11) rfl (by decide) (?_ : ky_V _ _ _ 20 _ _ _ _)
    refine v_istore_n (L' := [(0, .ref a), (1, .int p1), (2, .int p2), (3, .int 0)]) [1, 2, 3, 0] (i := 12) rfl (Nat.le_of_ble_eq_true rfl) rfl (?_ : ky_V _ _ _ 21 _ _ _ _)
    refine v_iconst (v := 0) (i := 13) rfl (by decide) (?_ : ky_V _ _ _ 22 _ _ _ _)
    refine v_istore (L' := [(0, .ref a), (1, .int p1), (2, .int p2), (3, .int 0), (4, .int 0)]) [1, 2, 3, 4, 0] (i := 14) rfl (Nat.le_of_ble_eq_true rfl) rfl (?_ : ky_V _ _ _ 24 _ _ _ _)
    refine v_iconst (v := 0) (i := 15) rfl (by decide) (?_ : ky_V _ _ _ 25 _ _ _ _)
    refine v_istore (L' := [(0, .ref a), (1, .int p1), (2, .int p2), (3, .int 0), (4, .int 0), (5, .int 0)]) [1, 2, 3, 4, 5, 0] (i := 16) rfl (Nat.le_of_ble_eq_true rfl) rfl (?_ : ky_V _ _ _ 27 _ _ _ _)
    refine lv_X12_signs_27 N _ hr (fun h8 q9 x10 x11 x12 x13 x14 hmh8 frh8 e => ?_) N h4 q5 p1 p2 0 0 0 hmh4 frh4 e
    refine v_iload_n (i := 61) (j := 3) rfl rfl (?_ : ky_V _ _ _ 115 _ _ _ _)
    refine v_if_ne (tgt := 122) (i := 62) rfl (by decide) (fun c15 => ?_) (fun c15 => ?_)
    · replace e := ky_ifF c15 e
      refine v_bipush (v := 100) (i := 65) rfl (by decide) (?_ : ky_V _ _ _ 124 _ _ _ _)
      refine v_iload (i := 66) (j := 4) rfl rfl (?_ : ky_V _ _ _ 126 _ _ _ _)
      refine v_imul (i := 67) rfl (?_ : ky_V _ _ _ 127 _ _ _ _)
      refine v_iload_n (i := 68) (j := 3) rfl rfl (?_ : ky_V _ _ _ 128 _ _ _ _)
      obtain ⟨z16, e⟩ := ky_chkE e
      refine v_idiv (i := 69) rfl z16 (?_ : ky_V _ _ _ 129 _ _ _ _)
      refine v_iret (v := ((100 * x13) / x12)) (ty := .int) (i := 70) rfl rfl rfl ?_
      obtain ⟨rfl, rfl⟩ := ky_leaf e
      exact hr _ hmh8 frh8
    · replace e := ky_ifT c15 e
      refine v_iconst (v := 0) (i := 63) rfl (by decide) (?_ : ky_V _ _ _ 119 _ _ _ _)
      refine v_goto (tgt := 129) (i := 64) rfl (by decide) (?_ : ky_V _ _ _ 129 _ _ _ _)
      refine v_iret (v := 0) (ty := .int) (i := 70) rfl rfl rfl ?_
      obtain ⟨rfl, rfl⟩ := ky_leaf e
      exact hr _ hmh8 frh8
  · replace e := ky_ifF c7 e
    refine v_iconst (v := 0) (i := 9) rfl (by decide) (?_ : ky_V _ _ _ 18 _ _ _ _)
    refine v_iret (v := 0) (ty := .int) (i := 10) rfl rfl rfl ?_
    obtain ⟨rfl, rfl⟩ := ky_leaf e
    exact hr _ hmh4 frh4

def md_weightOn_L4 (N : Nat) (k : (Nat → Nat → Int32) → Int32 → Int32 → Int32 → Option ((Nat → Nat → Int32) × Int32)) : Nat → (Nat → Nat → Int32) → Int32 → Int32 → Int32 → Option ((Nat → Nat → Int32) × Int32)
  | 0, _, _, _, _ => none
  | n + 1, c, p1, p2, p3 => (if (md_people_r c) ≤ p3 then (k c p1 p2 p3) else (if ky_inB ((237 + (2 * p3)) + 1) 2247 = true then (if (md_ofPerson_r c p3 1) = p1 then (if ky_inB ((237 + (2 * p3)) + 0) 2247 = true then (ky_let (p2 + (md_ofPerson_r c p3 0)) (fun x7 => (ky_let (p3 + 1) (fun x8 => (md_weightOn_L4 N k n c p1 x7 x8))))) else none) else (ky_let (p2 + 0) (fun x4 => (ky_let (p3 + 1) (fun x5 => (md_weightOn_L4 N k n c p1 x4 x5)))))) else none))
set_option maxRecDepth 20000 in
set_option maxHeartbeats 4000000 in
theorem lv_X12_weightOn_4 {G : ky_GW} {d : Nat} {h0 : ky_HP} {Q : ky_RS → ky_HP → Prop} {a : Nat} {c9 : (Nat → Nat → Int32)} {r9 : Int32} (N : Nat) (k : (Nat → Nat → Int32) → Int32 → Int32 → Int32 → Option ((Nat → Nat → Int32) × Int32)) (hr : ∀ h1, md_at G h1 a c9 → bk_fr a 13 h0 h1 → Q (.inl (some (.int r9))) h1)
    (hk : ∀ (h : ky_HP) (c : (Nat → Nat → Int32)) (p1 : Int32) (p2 : Int32) (p3 : Int32), md_at G h a c → bk_fr a 13 h0 h → k c p1 p2 p3 = some (c9, r9) → ky_V G (d + 1) M_X12_weightOn 41 [(0, .ref a), (1, .int p1), (2, .int p2), (3, .int p3)] [] h Q) :
    ∀ (n : Nat) (h : ky_HP) (c : (Nat → Nat → Int32)) (p1 : Int32) (p2 : Int32) (p3 : Int32), md_at G h a c → bk_fr a 13 h0 h → md_weightOn_L4 N k n c p1 p2 p3 = some (c9, r9) → ky_V G (d + 1) M_X12_weightOn 4 [(0, .ref a), (1, .int p1), (2, .int p2), (3, .int p3)] [] h Q := by
  intro n
  induction n with
  | zero => intro h c p1 p2 p3 hm fr e; cases e
  | succ n ih =>
    intro h c p1 p2 p3 hm fr e
    rw [md_weightOn_L4] at e
    refine v_iload_n (i := 4) (j := 3) rfl rfl (?_ : ky_V _ _ _ 5 _ _ _ _)
    refine v_aload_n (i := 5) (j := 0) rfl rfl (?_ : ky_V _ _ _ 6 _ _ _ _)
    refine cl_X12_69 (As := []) rfl (i := 6) rfl (md_0 hm) rfl rfl (Nat.le_of_ble_eq_true rfl) (k_X12_people hm ⟨_, rfl, (?_ : ky_V _ _ _ 9 _ [.int ((md_people_r c)), .int p3] _ _)⟩)
    refine v_icmp_ge (tgt := 41) (i := 7) rfl (by decide) (fun c1 => ?_) (fun c1 => ?_)
    · replace e := ky_ifT c1 e
      exact hk h c p1 p2 p3 hm fr e
    · replace e := ky_ifF c1 e
      refine v_iload_n (i := 8) (j := 2) rfl rfl (?_ : ky_V _ _ _ 13 _ _ _ _)
      refine v_aload_n (i := 9) (j := 0) rfl rfl (?_ : ky_V _ _ _ 14 _ _ _ _)
      refine v_iload_n (i := 10) (j := 3) rfl rfl (?_ : ky_V _ _ _ 15 _ _ _ _)
      refine v_iconst (v := 1) (i := 11) rfl (by decide) (?_ : ky_V _ _ _ 16 _ _ _ _)
      obtain ⟨z2, e⟩ := ky_chkE e
      refine cl_X12_391 (As := [.int p3, .int 1]) rfl (i := 12) rfl (md_0 hm) rfl rfl (Nat.le_of_ble_eq_true rfl) (k_X12_ofPerson p3 1 hm (ky_inb z2) ⟨_, rfl, (?_ : ky_V _ _ _ 19 _ [.int ((md_ofPerson_r c p3 1)), .int p2] _ _)⟩)
      refine v_iload_n (i := 13) (j := 1) rfl rfl (?_ : ky_V _ _ _ 20 _ _ _ _)
      refine v_icmp_ne (tgt := 32) (i := 14) rfl (by decide) (fun c3 => ?_) (fun c3 => ?_)
      · replace e := ky_ifF c3 e
        refine v_iconst (v := 0) (i := 20) rfl (by decide) (?_ : ky_V _ _ _ 33 _ _ _ _)
        refine v_iadd (i := 21) rfl (?_ : ky_V _ _ _ 34 _ _ _ _)
        refine v_topi (fun x4 ex4 => ?_)
        replace e := ky_letE ex4 e
        refine v_istore_n (L' := [(0, .ref a), (1, .int p1), (2, .int x4), (3, .int p3)]) [1, 2, 0, 3] (i := 22) rfl (Nat.le_of_ble_eq_true rfl) rfl (?_ : ky_V _ _ _ 35 _ _ _ _)
        obtain ⟨x5, ex5⟩ : ∃ z : Int32, z = p3 + 1 := ⟨_, rfl⟩
        replace e := ky_letE ex5 e
        refine v_iinc (v := x5) (j := 3) (L' := [(0, .ref a), (1, .int p1), (2, .int x4), (3, .int x5)]) [1, 2, 3, 0] (i := 23) rfl rfl (by rw [ex5]; rfl) (Nat.le_of_ble_eq_true rfl) rfl (?_ : ky_V _ _ _ 38 _ _ _ _)
        refine v_goto (tgt := 4) (i := 24) rfl (by decide) (?_ : ky_V _ _ _ 4 _ _ _ _)
        exact ih h c p1 x4 x5 hm fr e
      · replace e := ky_ifT c3 e
        refine v_aload_n (i := 15) (j := 0) rfl rfl (?_ : ky_V _ _ _ 24 _ _ _ _)
        refine v_iload_n (i := 16) (j := 3) rfl rfl (?_ : ky_V _ _ _ 25 _ _ _ _)
        refine v_iconst (v := 0) (i := 17) rfl (by decide) (?_ : ky_V _ _ _ 26 _ _ _ _)
        obtain ⟨z6, e⟩ := ky_chkE e
        refine cl_X12_391 (As := [.int p3, .int 0]) rfl (i := 18) rfl (md_0 hm) rfl rfl (Nat.le_of_ble_eq_true rfl) (k_X12_ofPerson p3 0 hm (ky_inb z6) ⟨_, rfl, (?_ : ky_V _ _ _ 29 _ [.int ((md_ofPerson_r c p3 0)), .int p2] _ _)⟩)
        refine v_goto (tgt := 33) (i := 19) rfl (by decide) (?_ : ky_V _ _ _ 33 _ _ _ _)
        refine v_iadd (i := 21) rfl (?_ : ky_V _ _ _ 34 _ _ _ _)
        refine v_topi (fun x7 ex7 => ?_)
        replace e := ky_letE ex7 e
        refine v_istore_n (L' := [(0, .ref a), (1, .int p1), (2, .int x7), (3, .int p3)]) [1, 2, 0, 3] (i := 22) rfl (Nat.le_of_ble_eq_true rfl) rfl (?_ : ky_V _ _ _ 35 _ _ _ _)
        obtain ⟨x8, ex8⟩ : ∃ z : Int32, z = p3 + 1 := ⟨_, rfl⟩
        replace e := ky_letE ex8 e
        refine v_iinc (v := x8) (j := 3) (L' := [(0, .ref a), (1, .int p1), (2, .int x7), (3, .int x8)]) [1, 2, 3, 0] (i := 23) rfl rfl (by rw [ex8]; rfl) (Nat.le_of_ble_eq_true rfl) rfl (?_ : ky_V _ _ _ 38 _ _ _ _)
        refine v_goto (tgt := 4) (i := 24) rfl (by decide) (?_ : ky_V _ _ _ 4 _ _ _ _)
        exact ih h c p1 x7 x8 hm fr e

def md_weightOn (N : Nat) (c : (Nat → Nat → Int32)) (p1 : Int32) : Option ((Nat → Nat → Int32) × Int32) := (md_weightOn_L4 N (fun q2 x3 x4 x5 => (some (q2, x4))) N c p1 0 0)
set_option maxRecDepth 20000 in
set_option maxHeartbeats 4000000 in
theorem k_X12_weightOn {G : ky_GW} {d : Nat} {h : ky_HP} {Q : ky_RS → ky_HP → Prop} {a : Nat} {c c9 : (Nat → Nat → Int32)} {r9 : Int32} {p1 : Int32} (N : Nat) (hm : md_at G h a c) (e : md_weightOn N c p1 = some (c9, r9)) (hr : ∀ h1, md_at G h1 a c9 → bk_fr a 13 h h1 → Q (.inl (some (.int r9))) h1) : ky_Call G (d + 1) M_X12_weightOn [.ref a, .int p1] h Q := by
  refine ky_ofV (by decide +kernel) rfl ok_X12_weightOn (Nat.le_of_ble_eq_true rfl) ?_
  have fr : bk_fr a 13 h h := bk_fr.rf
  unfold md_weightOn at e
  refine (?_ : ky_V _ _ _ 0 [(0, .ref a), (1, .int p1)] [] _ _)
  refine v_iconst (v := 0) (i := 0) rfl (by decide) (?_ : ky_V _ _ _ 1 _ _ _ _)
  refine v_istore_n (L' := [(0, .ref a), (1, .int p1), (2, .int 0)]) [1, 2, 0] (i := 1) rfl (Nat.le_of_ble_eq_true rfl) rfl (?_ : ky_V _ _ _ 2 _ _ _ _)
  refine v_iconst (v := 0) (i := 2) rfl (by decide) (?_ : ky_V _ _ _ 3 _ _ _ _)
  refine v_istore_n (L' := [(0, .ref a), (1, .int p1), (2, .int 0), (3, .int 0)]) [1, 2, 3, 0] (i := 3) rfl (Nat.le_of_ble_eq_true rfl) rfl (?_ : ky_V _ _ _ 4 _ _ _ _)
  refine lv_X12_weightOn_4 N _ hr (fun h1 q2 x3 x4 x5 hmh1 frh1 e => ?_) N h c p1 0 0 hm fr e
  refine v_iload_n (i := 25) (j := 2) rfl rfl (?_ : ky_V _ _ _ 42 _ _ _ _)
  refine v_iret (v := x4) (ty := .int) (i := 26) rfl rfl rfl ?_
  obtain ⟨rfl, rfl⟩ := ky_leaf e
  exact hr _ hmh1 frh1

def md_holes_L47 (N : Nat) (k : (Nat → Nat → Int32) → Int32 → Int32 → Int32 → Int32 → Option ((Nat → Nat → Int32) × Int32)) : Nat → (Nat → Nat → Int32) → Int32 → Int32 → Int32 → Int32 → Option ((Nat → Nat → Int32) × Int32)
  | 0, _, _, _, _, _ => none
  | n + 1, c, p1, p2, p3, p4 => (if (md_people_r c) ≤ p4 then (k c p1 p2 p3 p4) else (if ky_inB ((237 + (2 * p4)) + 0) 2247 = true then (if ky_inB ((45 + (3 * p1)) + 0) 2247 = true then (if (md_ofPerson_r c p4 0) = ((md_of_r c p1 0) + p2) then (ky_let (p3 ||| ((1 : Int32) <<< (p4 &&& 31))) (fun x7 => (ky_let (p4 + 1) (fun x8 => (md_holes_L47 N k n c p1 p2 x7 x8))))) else (ky_let (p3 ||| 0) (fun x5 => (ky_let (p4 + 1) (fun x6 => (md_holes_L47 N k n c p1 p2 x5 x6)))))) else none) else none))
set_option maxRecDepth 20000 in
set_option maxHeartbeats 4000000 in
theorem lv_X12_holes_47 {G : ky_GW} {d : Nat} {h0 : ky_HP} {Q : ky_RS → ky_HP → Prop} {a : Nat} {c9 : (Nat → Nat → Int32)} {r9 : Int32} (N : Nat) (k : (Nat → Nat → Int32) → Int32 → Int32 → Int32 → Int32 → Option ((Nat → Nat → Int32) × Int32)) (hr : ∀ h1, md_at G h1 a c9 → bk_fr a 13 h0 h1 → Q (.inl (some (.int r9))) h1)
    (hk : ∀ (h : ky_HP) (c : (Nat → Nat → Int32)) (p1 : Int32) (p2 : Int32) (p3 : Int32) (p4 : Int32), md_at G h a c → bk_fr a 13 h0 h → k c p1 p2 p3 p4 = some (c9, r9) → ky_V G (d + 2) M_X12_holes 91 [(0, .ref a), (1, .int p1), (2, .int p2), (3, .int p3), (4, .int p4)] [] h Q) :
    ∀ (n : Nat) (h : ky_HP) (c : (Nat → Nat → Int32)) (p1 : Int32) (p2 : Int32) (p3 : Int32) (p4 : Int32), md_at G h a c → bk_fr a 13 h0 h → md_holes_L47 N k n c p1 p2 p3 p4 = some (c9, r9) → ky_V G (d + 2) M_X12_holes 47 [(0, .ref a), (1, .int p1), (2, .int p2), (3, .int p3), (4, .int p4)] [] h Q := by
  intro n
  induction n with
  | zero => intro h c p1 p2 p3 p4 hm fr e; cases e
  | succ n ih =>
    intro h c p1 p2 p3 p4 hm fr e
    rw [md_holes_L47] at e
    refine v_iload (i := 27) (j := 4) rfl rfl (?_ : ky_V _ _ _ 49 _ _ _ _)
    refine v_aload_n (i := 28) (j := 0) rfl rfl (?_ : ky_V _ _ _ 50 _ _ _ _)
    refine cl_X12_69 (As := []) rfl (i := 29) rfl (md_0 hm) rfl rfl (Nat.le_of_ble_eq_true rfl) (k_X12_people hm ⟨_, rfl, (?_ : ky_V _ _ _ 53 _ [.int ((md_people_r c)), .int p4] _ _)⟩)
    refine v_icmp_ge (tgt := 91) (i := 30) rfl (by decide) (fun c1 => ?_) (fun c1 => ?_)
    · replace e := ky_ifT c1 e
      exact hk h c p1 p2 p3 p4 hm fr e
    · replace e := ky_ifF c1 e
      refine v_iload_n (i := 31) (j := 3) rfl rfl (?_ : ky_V _ _ _ 57 _ _ _ _)
      refine v_aload_n (i := 32) (j := 0) rfl rfl (?_ : ky_V _ _ _ 58 _ _ _ _)
      refine v_iload (i := 33) (j := 4) rfl rfl (?_ : ky_V _ _ _ 60 _ _ _ _)
      refine v_iconst (v := 0) (i := 34) rfl (by decide) (?_ : ky_V _ _ _ 61 _ _ _ _)
      obtain ⟨z2, e⟩ := ky_chkE e
      refine cl_X12_391 (As := [.int p4, .int 0]) rfl (i := 35) rfl (md_0 hm) rfl rfl (Nat.le_of_ble_eq_true rfl) (k_X12_ofPerson p4 0 hm (ky_inb z2) ⟨_, rfl, (?_ : ky_V _ _ _ 64 _ [.int ((md_ofPerson_r c p4 0)), .int p3] _ _)⟩)
      refine v_aload_n (i := 36) (j := 0) rfl rfl (?_ : ky_V _ _ _ 65 _ _ _ _)
      refine v_iload_n (i := 37) (j := 1) rfl rfl (?_ : ky_V _ _ _ 66 _ _ _ _)
      refine v_iconst (v := 0) (i := 38) rfl (by decide) (?_ : ky_V _ _ _ 67 _ _ _ _)
      obtain ⟨z3, e⟩ := ky_chkE e
      refine cl_X12_397 (As := [.int p1, .int 0]) rfl (i := 39) rfl (md_0 hm) rfl rfl (Nat.le_of_ble_eq_true rfl) (k_X12_of p1 0 hm (ky_inb z3) ⟨_, rfl, (?_ : ky_V _ _ _ 70 _ [.int ((md_of_r c p1 0)), .int ((md_ofPerson_r c p4 0)), .int p3] _ _)⟩)
      refine v_iload_n (i := 40) (j := 2) rfl rfl (?_ : ky_V _ _ _ 71 _ _ _ _)
      refine v_iadd (i := 41) rfl (?_ : ky_V _ _ _ 72 _ _ _ _)
      refine v_icmp_ne (tgt := 82) (i := 42) rfl (by decide) (fun c4 => ?_) (fun c4 => ?_)
      · replace e := ky_ifF c4 e
        refine v_iconst (v := 0) (i := 47) rfl (by decide) (?_ : ky_V _ _ _ 83 _ _ _ _)
        refine v_ior (i := 48) rfl (?_ : ky_V _ _ _ 84 _ _ _ _)
        refine v_topi (fun x5 ex5 => ?_)
        replace e := ky_letE ex5 e
        refine v_istore_n (L' := [(0, .ref a), (1, .int p1), (2, .int p2), (3, .int x5), (4, .int p4)]) [1, 2, 3, 0, 4] (i := 49) rfl (Nat.le_of_ble_eq_true rfl) rfl (?_ : ky_V _ _ _ 85 _ _ _ _)
        obtain ⟨x6, ex6⟩ : ∃ z : Int32, z = p4 + 1 := ⟨_, rfl⟩
        replace e := ky_letE ex6 e
        refine v_iinc (v := x6) (j := 4) (L' := [(0, .ref a), (1, .int p1), (2, .int p2), (3, .int x5), (4, .int x6)]) [1, 2, 3, 4, 0] (i := 50) rfl rfl (by rw [ex6]; rfl) (Nat.le_of_ble_eq_true rfl) rfl (?_ : ky_V _ _ _ 88 _ _ _ _)
        refine v_goto (tgt := 47) (i := 51) rfl (by decide) (?_ : ky_V _ _ _ 47 _ _ _ _)
        exact ih h c p1 p2 x5 x6 hm fr e
      · replace e := ky_ifT c4 e
        refine v_iconst (v := 1) (i := 43) rfl (by decide) (?_ : ky_V _ _ _ 76 _ _ _ _)
        refine v_iload (i := 44) (j := 4) rfl rfl (?_ : ky_V _ _ _ 78 _ _ _ _)
        refine v_ishl (i := 45) rfl (?_ : ky_V _ _ _ 79 _ _ _ _)
        refine v_goto (tgt := 83) (i := 46) rfl (by decide) (?_ : ky_V _ _ _ 83 _ _ _ _)
        refine v_ior (i := 48) rfl (?_ : ky_V _ _ _ 84 _ _ _ _)
        refine v_topi (fun x7 ex7 => ?_)
        replace e := ky_letE ex7 e
        refine v_istore_n (L' := [(0, .ref a), (1, .int p1), (2, .int p2), (3, .int x7), (4, .int p4)]) [1, 2, 3, 0, 4] (i := 49) rfl (Nat.le_of_ble_eq_true rfl) rfl (?_ : ky_V _ _ _ 85 _ _ _ _)
        obtain ⟨x8, ex8⟩ : ∃ z : Int32, z = p4 + 1 := ⟨_, rfl⟩
        replace e := ky_letE ex8 e
        refine v_iinc (v := x8) (j := 4) (L' := [(0, .ref a), (1, .int p1), (2, .int p2), (3, .int x7), (4, .int x8)]) [1, 2, 3, 4, 0] (i := 50) rfl rfl (by rw [ex8]; rfl) (Nat.le_of_ble_eq_true rfl) rfl (?_ : ky_V _ _ _ 88 _ _ _ _)
        refine v_goto (tgt := 47) (i := 51) rfl (by decide) (?_ : ky_V _ _ _ 47 _ _ _ _)
        exact ih h c p1 p2 x7 x8 hm fr e

def md_holes (N : Nat) (c : (Nat → Nat → Int32)) (p1 : Int32) (p2 : Int32) : Option ((Nat → Nat → Int32) × Int32) := (ky_let (bk_w c 0 0 0) (fun q2 => (if (md_noCell p1) = 0 ∨ (md_noCell p1) = 1 then (ky_let (md_throwsIf_r q2 (md_noCell p1) 1) (fun x6 => (ky_let (md_throwsIf_c q2 (md_noCell p1) 1) (fun q5 => (if x6 = 0 then (if (md_in p2 1 9) = 0 then (ky_let (md_throwsIf_r q5 1 2) (fun x21 => (ky_let (md_throwsIf_c q5 1 2) (fun q20 => (if x21 = 0 then (md_holes_L47 N (fun q24 x25 x26 x27 x28 => (some (q24, x27))) N q20 p1 p2 0 0) else (some (q20, 0))))))) else (ky_let (md_throwsIf_r q5 0 2) (fun x11 => (ky_let (md_throwsIf_c q5 0 2) (fun q10 => (if x11 = 0 then (md_holes_L47 N (fun q14 x15 x16 x17 x18 => (some (q14, x17))) N q10 p1 p2 0 0) else (some (q10, 0)))))))) else (some (q5, 0))))))) else none)))
set_option maxRecDepth 20000 in
set_option maxHeartbeats 4000000 in
theorem k_X12_holes {G : ky_GW} {d : Nat} {h : ky_HP} {Q : ky_RS → ky_HP → Prop} {a : Nat} {c c9 : (Nat → Nat → Int32)} {r9 : Int32} {p1 : Int32} {p2 : Int32} (N : Nat) (hm : md_at G h a c) (e : md_holes N c p1 p2 = some (c9, r9)) (hr : ∀ h1, md_at G h1 a c9 → bk_fr a 13 h h1 → Q (.inl (some (.int r9))) h1) : ky_Call G (d + 2) M_X12_holes [.ref a, .int p1, .int p2] h Q := by
  refine ky_ofV (by decide +kernel) rfl ok_X12_holes (Nat.le_of_ble_eq_true rfl) ?_
  have fr : bk_fr a 13 h h := bk_fr.rf
  unfold md_holes at e
  refine (?_ : ky_V _ _ _ 0 [(0, .ref a), (1, .int p1), (2, .int p2)] [] _ _)
  refine v_aload_n (i := 0) (j := 0) rfl rfl (?_ : ky_V _ _ _ 1 _ _ _ _)
  refine v_iconst (v := 0) (i := 1) rfl (by decide) (?_ : ky_V _ _ _ 2 _ _ _ _)
  refine pf_X12_3 rfl (i := 2) rfl (md_0 hm) (Nat.le_of_ble_eq_true rfl) rfl rfl ?_
  refine bk_st (B := md_B G a) hm fr 0 0 0 (by decide) (fun h1 hmh1 frh1 => ?_)
  obtain ⟨q2, eq2⟩ : ∃ z, z = (bk_w c 0 0 0) := ⟨_, rfl⟩
  rw [← eq2] at hmh1
  replace e := ky_letE eq2 e
  refine (?_ : ky_V _ _ _ 5 _ _ _ _)
  refine v_aload_n (i := 3) (j := 0) rfl rfl (?_ : ky_V _ _ _ 6 _ _ _ _)
  refine v_iload_n (i := 4) (j := 1) rfl rfl (?_ : ky_V _ _ _ 7 _ _ _ _)
  refine cl_X12_388 (As := [.int p1]) rfl (i := 5) rfl rfl rfl (Nat.le_of_ble_eq_true rfl) (k_X12_noCell p1 ⟨_, rfl, (?_ : ky_V _ _ _ 10 _ [.int ((md_noCell p1)), .ref a] _ _)⟩)
  refine v_iconst (v := 1) (i := 6) rfl (by decide) (?_ : ky_V _ _ _ 11 _ _ _ _)
  obtain ⟨z3, e⟩ := ky_chkE e
  refine cl_X12_241 (As := [.int ((md_noCell p1)), .int 1]) rfl (i := 7) rfl (md_0 hmh1) rfl rfl (Nat.le_of_ble_eq_true rfl) (k_X12_throwsIf (md_noCell p1) 1 hmh1 z3 (fun h4 hmh4 frh4 => ⟨_, rfl, (?_ : ky_V _ _ _ 14 _ [.int ((md_throwsIf_r q2 (md_noCell p1) 1))] _ _)⟩))
  have frh4 := frh1.tr frh4
  refine v_topi (fun x6 ex6 => ?_)
  replace e := ky_letE ex6 e
  obtain ⟨q5, eq5⟩ : ∃ z, z = (md_throwsIf_c q2 (md_noCell p1) 1) := ⟨_, rfl⟩
  rw [← eq5] at hmh4
  replace e := ky_letE eq5 e
  refine v_if_ne (tgt := 40) (i := 8) rfl (by decide) (fun c7 => ?_) (fun c7 => ?_)
  · replace e := ky_ifF c7 e
    refine v_iconst (v := 0) (i := 21) rfl (by decide) (?_ : ky_V _ _ _ 41 _ _ _ _)
    refine v_iret (v := 0) (ty := .int) (i := 22) rfl rfl rfl ?_
    obtain ⟨rfl, rfl⟩ := ky_leaf e
    exact hr _ hmh4 frh4
  · replace e := ky_ifT c7 e
    refine v_aload_n (i := 9) (j := 0) rfl rfl (?_ : ky_V _ _ _ 18 _ _ _ _)
    refine v_iload_n (i := 10) (j := 2) rfl rfl (?_ : ky_V _ _ _ 19 _ _ _ _)
    refine v_iconst (v := 1) (i := 11) rfl (by decide) (?_ : ky_V _ _ _ 20 _ _ _ _)
    refine v_bipush (v := 9) (i := 12) rfl (by decide) (?_ : ky_V _ _ _ 22 _ _ _ _)
    refine cl_X12_65 (As := [.int p2, .int 1, .int 9]) rfl (i := 13) rfl rfl rfl (Nat.le_of_ble_eq_true rfl) (k_X12_in p2 1 9 ⟨_, rfl, (?_ : ky_V _ _ _ 25 _ [.int ((md_in p2 1 9)), .ref a] _ _)⟩)
    refine v_if_ne (tgt := 32) (i := 14) rfl (by decide) (fun c8 => ?_) (fun c8 => ?_)
    · replace e := ky_ifF c8 e
      refine v_iconst (v := 0) (i := 17) rfl (by decide) (?_ : ky_V _ _ _ 33 _ _ _ _)
      refine v_iconst (v := 2) (i := 18) rfl (by decide) (?_ : ky_V _ _ _ 34 _ _ _ _)
      refine cl_X12_241 (As := [.int 0, .int 2]) rfl (i := 19) rfl (md_0 hmh4) rfl rfl (Nat.le_of_ble_eq_true rfl) (k_X12_throwsIf 0 2 hmh4 (by decide) (fun h9 hmh9 frh9 => ⟨_, rfl, (?_ : ky_V _ _ _ 37 _ [.int ((md_throwsIf_r q5 0 2))] _ _)⟩))
      have frh9 := frh4.tr frh9
      refine v_topi (fun x11 ex11 => ?_)
      replace e := ky_letE ex11 e
      obtain ⟨q10, eq10⟩ : ∃ z, z = (md_throwsIf_c q5 0 2) := ⟨_, rfl⟩
      rw [← eq10] at hmh9
      replace e := ky_letE eq10 e
      refine v_if_eq (tgt := 42) (i := 20) rfl (by decide) (fun c12 => ?_) (fun c12 => ?_)
      · replace e := ky_ifT c12 e
        refine v_iconst (v := 0) (i := 23) rfl (by decide) (?_ : ky_V _ _ _ 43 _ _ _ _)
        refine v_istore_n (L' := [(0, .ref a), (1, .int p1), (2, .int p2), (3, .int 0)]) [1, 2, 3, 0] (i := 24) rfl (Nat.le_of_ble_eq_true rfl) rfl (?_ : ky_V _ _ _ 44 _ _ _ _)
        refine v_iconst (v := 0) (i := 25) rfl (by decide) (?_ : ky_V _ _ _ 45 _ _ _ _)
        refine v_istore (L' := [(0, .ref a), (1, .int p1), (2, .int p2), (3, .int 0), (4, .int 0)]) [1, 2, 3, 4, 0] (i := 26) rfl (Nat.le_of_ble_eq_true rfl) rfl (?_ : ky_V _ _ _ 47 _ _ _ _)
        refine lv_X12_holes_47 N _ hr (fun h13 q14 x15 x16 x17 x18 hmh13 frh13 e => ?_) N h9 q10 p1 p2 0 0 hmh9 frh9 e
        refine v_iload_n (i := 52) (j := 3) rfl rfl (?_ : ky_V _ _ _ 92 _ _ _ _)
        refine v_iret (v := x17) (ty := .int) (i := 53) rfl rfl rfl ?_
        obtain ⟨rfl, rfl⟩ := ky_leaf e
        exact hr _ hmh13 frh13
      · replace e := ky_ifF c12 e
        refine v_iconst (v := 0) (i := 21) rfl (by decide) (?_ : ky_V _ _ _ 41 _ _ _ _)
        refine v_iret (v := 0) (ty := .int) (i := 22) rfl rfl rfl ?_
        obtain ⟨rfl, rfl⟩ := ky_leaf e
        exact hr _ hmh9 frh9
    · replace e := ky_ifT c8 e
      refine v_iconst (v := 1) (i := 15) rfl (by decide) (?_ : ky_V _ _ _ 29 _ _ _ _)
      refine v_goto (tgt := 33) (i := 16) rfl (by decide) (?_ : ky_V _ _ _ 33 _ _ _ _)
      refine v_iconst (v := 2) (i := 18) rfl (by decide) (?_ : ky_V _ _ _ 34 _ _ _ _)
      refine cl_X12_241 (As := [.int 1, .int 2]) rfl (i := 19) rfl (md_0 hmh4) rfl rfl (Nat.le_of_ble_eq_true rfl) (k_X12_throwsIf 1 2 hmh4 (by decide) (fun h19 hmh19 frh19 => ⟨_, rfl, (?_ : ky_V _ _ _ 37 _ [.int ((md_throwsIf_r q5 1 2))] _ _)⟩))
      have frh19 := frh4.tr frh19
      refine v_topi (fun x21 ex21 => ?_)
      replace e := ky_letE ex21 e
      obtain ⟨q20, eq20⟩ : ∃ z, z = (md_throwsIf_c q5 1 2) := ⟨_, rfl⟩
      rw [← eq20] at hmh19
      replace e := ky_letE eq20 e
      refine v_if_eq (tgt := 42) (i := 20) rfl (by decide) (fun c22 => ?_) (fun c22 => ?_)
      · replace e := ky_ifT c22 e
        refine v_iconst (v := 0) (i := 23) rfl (by decide) (?_ : ky_V _ _ _ 43 _ _ _ _)
        refine v_istore_n (L' := [(0, .ref a), (1, .int p1), (2, .int p2), (3, .int 0)]) [1, 2, 3, 0] (i := 24) rfl (Nat.le_of_ble_eq_true rfl) rfl (?_ : ky_V _ _ _ 44 _ _ _ _)
        refine v_iconst (v := 0) (i := 25) rfl (by decide) (?_ : ky_V _ _ _ 45 _ _ _ _)
        refine v_istore (L' := [(0, .ref a), (1, .int p1), (2, .int p2), (3, .int 0), (4, .int 0)]) [1, 2, 3, 4, 0] (i := 26) rfl (Nat.le_of_ble_eq_true rfl) rfl (?_ : ky_V _ _ _ 47 _ _ _ _)
        refine lv_X12_holes_47 N _ hr (fun h23 q24 x25 x26 x27 x28 hmh23 frh23 e => ?_) N h19 q20 p1 p2 0 0 hmh19 frh19 e
        refine v_iload_n (i := 52) (j := 3) rfl rfl (?_ : ky_V _ _ _ 92 _ _ _ _)
        refine v_iret (v := x27) (ty := .int) (i := 53) rfl rfl rfl ?_
        obtain ⟨rfl, rfl⟩ := ky_leaf e
        exact hr _ hmh23 frh23
      · replace e := ky_ifF c22 e
        refine v_iconst (v := 0) (i := 21) rfl (by decide) (?_ : ky_V _ _ _ 41 _ _ _ _)
        refine v_iret (v := 0) (ty := .int) (i := 22) rfl rfl rfl ?_
        obtain ⟨rfl, rfl⟩ := ky_leaf e
        exact hr _ hmh19 frh19

def md_ropeFor_L5 (N : Nat) (k : (Nat → Nat → Int32) → Int32 → Int64 → Int32 → Option ((Nat → Nat → Int32) × Int64)) : Nat → (Nat → Nat → Int32) → Int32 → Int64 → Int32 → Option ((Nat → Nat → Int32) × Int64)
  | 0, _, _, _, _ => none
  | n + 1, c, p1, p2, p4 => (if (64 : Int32) ≤ p4 then (k c p1 p2 p4) else (if (md_in (md_apart p4 (c 1 10)) 1 2) = 0 then (ky_let (p2 ||| 0) (fun x3 => (ky_let (p4 + 1) (fun x4 => (md_ropeFor_L5 N k n c p1 x3 x4))))) else (if ky_inB ((45 + (3 * p4)) + 0) 2247 = true then (if (md_of_r c p4 0) < p1 then (ky_let (p2 ||| 0) (fun x7 => (ky_let (p4 + 1) (fun x8 => (md_ropeFor_L5 N k n c p1 x7 x8))))) else (ky_let (p2 ||| (1 <<< (Int32.toInt64 p4 &&& 63))) (fun x9 => (ky_let (p4 + 1) (fun x10 => (md_ropeFor_L5 N k n c p1 x9 x10)))))) else none)))
set_option maxRecDepth 20000 in
set_option maxHeartbeats 4000000 in
theorem lv_X12_ropeFor_5 {G : ky_GW} {d : Nat} {h0 : ky_HP} {Q : ky_RS → ky_HP → Prop} {a : Nat} {c9 : (Nat → Nat → Int32)} {r9 : Int64} (N : Nat) (k : (Nat → Nat → Int32) → Int32 → Int64 → Int32 → Option ((Nat → Nat → Int32) × Int64)) (hr : ∀ h1, md_at G h1 a c9 → bk_fr a 13 h0 h1 → Q (.inl (some (.long r9))) h1)
    (hk : ∀ (h : ky_HP) (c : (Nat → Nat → Int32)) (p1 : Int32) (p2 : Int64) (p4 : Int32), md_at G h a c → bk_fr a 13 h0 h → k c p1 p2 p4 = some (c9, r9) → ky_V G (d + 2) M_X12_ropeFor 60 [(0, .ref a), (1, .int p1), (2, .long p2), (4, .int p4)] [] h Q) :
    ∀ (n : Nat) (h : ky_HP) (c : (Nat → Nat → Int32)) (p1 : Int32) (p2 : Int64) (p4 : Int32), md_at G h a c → bk_fr a 13 h0 h → md_ropeFor_L5 N k n c p1 p2 p4 = some (c9, r9) → ky_V G (d + 2) M_X12_ropeFor 5 [(0, .ref a), (1, .int p1), (2, .long p2), (4, .int p4)] [] h Q := by
  intro n
  induction n with
  | zero => intro h c p1 p2 p4 hm fr e; cases e
  | succ n ih =>
    intro h c p1 p2 p4 hm fr e
    rw [md_ropeFor_L5] at e
    refine v_iload (i := 4) (j := 3) rfl rfl (?_ : ky_V _ _ _ 7 _ _ _ _)
    refine v_bipush (v := 64) (i := 5) rfl (by decide) (?_ : ky_V _ _ _ 9 _ _ _ _)
    refine v_icmp_ge (tgt := 60) (i := 6) rfl (by decide) (fun c1 => ?_) (fun c1 => ?_)
    · replace e := ky_ifT c1 e
      exact hk h c p1 p2 p4 hm fr e
    · replace e := ky_ifF c1 e
      refine v_lload_n (i := 7) (j := 2) rfl rfl (?_ : ky_V _ _ _ 13 _ _ _ _)
      refine v_iload (i := 8) (j := 3) rfl rfl (?_ : ky_V _ _ _ 15 _ _ _ _)
      refine v_aload_n (i := 9) (j := 0) rfl rfl (?_ : ky_V _ _ _ 16 _ _ _ _)
      refine gf_X12_13 rfl (i := 10) rfl (md_0 hm) rfl (?_ : ky_V _ _ _ 19 _ _ _ _)
      refine v_bipush (v := 10) (i := 11) rfl (by decide) (?_ : ky_V _ _ _ 21 _ _ _ _)
      refine v_iald (i := 12) rfl (md_1 hm) (ky_inl (by decide)) (?_ : ky_V _ _ _ 22 _ (.int (c 1 10) :: _) _ _)
      refine cl_X12_394 (As := [.int p4, .int ((c 1 10))]) rfl (i := 13) rfl rfl rfl (Nat.le_of_ble_eq_true rfl) (k_X12_apart p4 (c 1 10) ⟨_, rfl, (?_ : ky_V _ _ _ 25 _ [.int ((md_apart p4 (c 1 10))), .long p2] _ _)⟩)
      refine v_iconst (v := 1) (i := 14) rfl (by decide) (?_ : ky_V _ _ _ 26 _ _ _ _)
      refine v_iconst (v := 2) (i := 15) rfl (by decide) (?_ : ky_V _ _ _ 27 _ _ _ _)
      refine cl_X12_65 (As := [.int ((md_apart p4 (c 1 10))), .int 1, .int 2]) rfl (i := 16) rfl rfl rfl (Nat.le_of_ble_eq_true rfl) (k_X12_in (md_apart p4 (c 1 10)) 1 2 ⟨_, rfl, (?_ : ky_V _ _ _ 30 _ [.int ((md_in (md_apart p4 (c 1 10)) 1 2)), .long p2] _ _)⟩)
      refine v_if_eq (tgt := 51) (i := 17) rfl (by decide) (fun c2 => ?_) (fun c2 => ?_)
      · replace e := ky_ifT c2 e
        refine v_lconst (v := 0) (i := 28) rfl (by decide) (?_ : ky_V _ _ _ 52 _ _ _ _)
        refine v_lor (i := 29) rfl (?_ : ky_V _ _ _ 53 _ _ _ _)
        refine v_topl (fun x3 ex3 => ?_)
        replace e := ky_letE ex3 e
        refine v_lstore_n (L' := [(0, .ref a), (1, .int p1), (2, .long x3), (4, .int p4)]) [1, 2, 0, 3] (i := 30) rfl (Nat.le_of_ble_eq_true rfl) rfl (?_ : ky_V _ _ _ 54 _ _ _ _)
        obtain ⟨x4, ex4⟩ : ∃ z : Int32, z = p4 + 1 := ⟨_, rfl⟩
        replace e := ky_letE ex4 e
        refine v_iinc (v := x4) (j := 3) (L' := [(0, .ref a), (1, .int p1), (2, .long x3), (4, .int x4)]) [1, 2, 3, 0] (i := 31) rfl rfl (by rw [ex4]; rfl) (Nat.le_of_ble_eq_true rfl) rfl (?_ : ky_V _ _ _ 57 _ _ _ _)
        refine v_goto (tgt := 5) (i := 32) rfl (by decide) (?_ : ky_V _ _ _ 5 _ _ _ _)
        exact ih h c p1 x3 x4 hm fr e
      · replace e := ky_ifF c2 e
        refine v_aload_n (i := 18) (j := 0) rfl rfl (?_ : ky_V _ _ _ 34 _ _ _ _)
        refine v_iload (i := 19) (j := 3) rfl rfl (?_ : ky_V _ _ _ 36 _ _ _ _)
        refine v_iconst (v := 0) (i := 20) rfl (by decide) (?_ : ky_V _ _ _ 37 _ _ _ _)
        obtain ⟨z5, e⟩ := ky_chkE e
        refine cl_X12_397 (As := [.int p4, .int 0]) rfl (i := 21) rfl (md_0 hm) rfl rfl (Nat.le_of_ble_eq_true rfl) (k_X12_of p4 0 hm (ky_inb z5) ⟨_, rfl, (?_ : ky_V _ _ _ 40 _ [.int ((md_of_r c p4 0)), .long p2] _ _)⟩)
        refine v_iload_n (i := 22) (j := 1) rfl rfl (?_ : ky_V _ _ _ 41 _ _ _ _)
        refine v_icmp_lt (tgt := 51) (i := 23) rfl (by decide) (fun c6 => ?_) (fun c6 => ?_)
        · replace e := ky_ifT c6 e
          refine v_lconst (v := 0) (i := 28) rfl (by decide) (?_ : ky_V _ _ _ 52 _ _ _ _)
          refine v_lor (i := 29) rfl (?_ : ky_V _ _ _ 53 _ _ _ _)
          refine v_topl (fun x7 ex7 => ?_)
          replace e := ky_letE ex7 e
          refine v_lstore_n (L' := [(0, .ref a), (1, .int p1), (2, .long x7), (4, .int p4)]) [1, 2, 0, 3] (i := 30) rfl (Nat.le_of_ble_eq_true rfl) rfl (?_ : ky_V _ _ _ 54 _ _ _ _)
          obtain ⟨x8, ex8⟩ : ∃ z : Int32, z = p4 + 1 := ⟨_, rfl⟩
          replace e := ky_letE ex8 e
          refine v_iinc (v := x8) (j := 3) (L' := [(0, .ref a), (1, .int p1), (2, .long x7), (4, .int x8)]) [1, 2, 3, 0] (i := 31) rfl rfl (by rw [ex8]; rfl) (Nat.le_of_ble_eq_true rfl) rfl (?_ : ky_V _ _ _ 57 _ _ _ _)
          refine v_goto (tgt := 5) (i := 32) rfl (by decide) (?_ : ky_V _ _ _ 5 _ _ _ _)
          exact ih h c p1 x7 x8 hm fr e
        · replace e := ky_ifF c6 e
          refine v_lconst (v := 1) (i := 24) rfl (by decide) (?_ : ky_V _ _ _ 45 _ _ _ _)
          refine v_iload (i := 25) (j := 3) rfl rfl (?_ : ky_V _ _ _ 47 _ _ _ _)
          refine v_lshl (i := 26) rfl rfl (?_ : ky_V _ _ _ 48 _ _ _ _)
          refine v_goto (tgt := 52) (i := 27) rfl (by decide) (?_ : ky_V _ _ _ 52 _ _ _ _)
          refine v_lor (i := 29) rfl (?_ : ky_V _ _ _ 53 _ _ _ _)
          refine v_topl (fun x9 ex9 => ?_)
          replace e := ky_letE ex9 e
          refine v_lstore_n (L' := [(0, .ref a), (1, .int p1), (2, .long x9), (4, .int p4)]) [1, 2, 0, 3] (i := 30) rfl (Nat.le_of_ble_eq_true rfl) rfl (?_ : ky_V _ _ _ 54 _ _ _ _)
          obtain ⟨x10, ex10⟩ : ∃ z : Int32, z = p4 + 1 := ⟨_, rfl⟩
          replace e := ky_letE ex10 e
          refine v_iinc (v := x10) (j := 3) (L' := [(0, .ref a), (1, .int p1), (2, .long x9), (4, .int x10)]) [1, 2, 3, 0] (i := 31) rfl rfl (by rw [ex10]; rfl) (Nat.le_of_ble_eq_true rfl) rfl (?_ : ky_V _ _ _ 57 _ _ _ _)
          refine v_goto (tgt := 5) (i := 32) rfl (by decide) (?_ : ky_V _ _ _ 5 _ _ _ _)
          exact ih h c p1 x9 x10 hm fr e

def md_ropeFor (N : Nat) (c : (Nat → Nat → Int32)) (p1 : Int32) : Option ((Nat → Nat → Int32) × Int64) := (md_ropeFor_L5 N (fun q2 x3 x4 x5 => (some (q2, x4))) N c p1 0 0)
set_option maxRecDepth 20000 in
set_option maxHeartbeats 4000000 in
theorem k_X12_ropeFor {G : ky_GW} {d : Nat} {h : ky_HP} {Q : ky_RS → ky_HP → Prop} {a : Nat} {c c9 : (Nat → Nat → Int32)} {r9 : Int64} {p1 : Int32} (N : Nat) (hm : md_at G h a c) (e : md_ropeFor N c p1 = some (c9, r9)) (hr : ∀ h1, md_at G h1 a c9 → bk_fr a 13 h h1 → Q (.inl (some (.long r9))) h1) : ky_Call G (d + 2) M_X12_ropeFor [.ref a, .int p1] h Q := by
  refine ky_ofV (by decide +kernel) rfl ok_X12_ropeFor (Nat.le_of_ble_eq_true rfl) ?_
  have fr : bk_fr a 13 h h := bk_fr.rf
  unfold md_ropeFor at e
  refine (?_ : ky_V _ _ _ 0 [(0, .ref a), (1, .int p1)] [] _ _)
  refine v_lconst (v := 0) (i := 0) rfl (by decide) (?_ : ky_V _ _ _ 1 _ _ _ _)
  refine v_lstore_n (L' := [(0, .ref a), (1, .int p1), (2, .long 0)]) [1, 2, 0] (i := 1) rfl (Nat.le_of_ble_eq_true rfl) rfl (?_ : ky_V _ _ _ 2 _ _ _ _)
  refine v_iconst (v := 0) (i := 2) rfl (by decide) (?_ : ky_V _ _ _ 3 _ _ _ _)
  refine v_istore (L' := [(0, .ref a), (1, .int p1), (2, .long 0), (4, .int 0)]) [1, 2, 3, 0] (i := 3) rfl (Nat.le_of_ble_eq_true rfl) rfl (?_ : ky_V _ _ _ 5 _ _ _ _)
  refine lv_X12_ropeFor_5 N _ hr (fun h1 q2 x3 x4 x5 hmh1 frh1 e => ?_) N h c p1 0 0 hm fr e
  refine v_lload_n (i := 33) (j := 2) rfl rfl (?_ : ky_V _ _ _ 61 _ _ _ _)
  refine v_lret (v := x4) (i := 34) rfl rfl ?_
  obtain ⟨rfl, rfl⟩ := ky_leaf e
  exact hr _ hmh1 frh1

def md_placed_L26 (N : Nat) (k : (Nat → Nat → Int32) → Int32 → Int32 → Int32 → Int32 → Option ((Nat → Nat → Int32) × Int32)) : Nat → (Nat → Nat → Int32) → Int32 → Int32 → Int32 → Int32 → Option ((Nat → Nat → Int32) × Int32)
  | 0, _, _, _, _, _ => none
  | n + 1, c, p1, p2, p3, p4 => (if (md_people_r c) ≤ p4 then (k c p1 p2 p3 p4) else (if ky_inB ((237 + (2 * p4)) + 0) 2247 = true then (if (md_ofPerson_r c p4 0) = p2 then (if p3 ≤ p1 then (ky_let (p1 + 0) (fun x7 => (ky_let (p4 + 1) (fun x8 => (md_placed_L26 N k n c x7 p2 p3 x8))))) else (ky_let (p1 + 1) (fun x9 => (ky_let (p4 + 1) (fun x10 => (md_placed_L26 N k n c x9 p2 p3 x10)))))) else (ky_let (p1 + 0) (fun x4 => (ky_let (p4 + 1) (fun x5 => (md_placed_L26 N k n c x4 p2 p3 x5)))))) else none))
set_option maxRecDepth 20000 in
set_option maxHeartbeats 4000000 in
theorem lv_X12_placed_26 {G : ky_GW} {d : Nat} {h0 : ky_HP} {Q : ky_RS → ky_HP → Prop} {a : Nat} {c9 : (Nat → Nat → Int32)} {r9 : Int32} (N : Nat) (k : (Nat → Nat → Int32) → Int32 → Int32 → Int32 → Int32 → Option ((Nat → Nat → Int32) × Int32)) (hr : ∀ h1, md_at G h1 a c9 → bk_fr a 13 h0 h1 → Q (.inl (some (.int r9))) h1)
    (hk : ∀ (h : ky_HP) (c : (Nat → Nat → Int32)) (p1 : Int32) (p2 : Int32) (p3 : Int32) (p4 : Int32), md_at G h a c → bk_fr a 13 h0 h → k c p1 p2 p3 p4 = some (c9, r9) → ky_V G (d + 3) M_X12_placed 65 [(0, .ref a), (1, .int p1), (2, .int p2), (3, .int p3), (4, .int p4)] [] h Q) :
    ∀ (n : Nat) (h : ky_HP) (c : (Nat → Nat → Int32)) (p1 : Int32) (p2 : Int32) (p3 : Int32) (p4 : Int32), md_at G h a c → bk_fr a 13 h0 h → md_placed_L26 N k n c p1 p2 p3 p4 = some (c9, r9) → ky_V G (d + 3) M_X12_placed 26 [(0, .ref a), (1, .int p1), (2, .int p2), (3, .int p3), (4, .int p4)] [] h Q := by
  intro n
  induction n with
  | zero => intro h c p1 p2 p3 p4 hm fr e; cases e
  | succ n ih =>
    intro h c p1 p2 p3 p4 hm fr e
    rw [md_placed_L26] at e
    refine v_iload (i := 16) (j := 4) rfl rfl (?_ : ky_V _ _ _ 28 _ _ _ _)
    refine v_aload_n (i := 17) (j := 0) rfl rfl (?_ : ky_V _ _ _ 29 _ _ _ _)
    refine cl_X12_69 (As := []) rfl (i := 18) rfl (md_0 hm) rfl rfl (Nat.le_of_ble_eq_true rfl) (k_X12_people hm ⟨_, rfl, (?_ : ky_V _ _ _ 32 _ [.int ((md_people_r c)), .int p4] _ _)⟩)
    refine v_icmp_ge (tgt := 65) (i := 19) rfl (by decide) (fun c1 => ?_) (fun c1 => ?_)
    · replace e := ky_ifT c1 e
      exact hk h c p1 p2 p3 p4 hm fr e
    · replace e := ky_ifF c1 e
      refine v_iload_n (i := 20) (j := 1) rfl rfl (?_ : ky_V _ _ _ 36 _ _ _ _)
      refine v_aload_n (i := 21) (j := 0) rfl rfl (?_ : ky_V _ _ _ 37 _ _ _ _)
      refine v_iload (i := 22) (j := 4) rfl rfl (?_ : ky_V _ _ _ 39 _ _ _ _)
      refine v_iconst (v := 0) (i := 23) rfl (by decide) (?_ : ky_V _ _ _ 40 _ _ _ _)
      obtain ⟨z2, e⟩ := ky_chkE e
      refine cl_X12_391 (As := [.int p4, .int 0]) rfl (i := 24) rfl (md_0 hm) rfl rfl (Nat.le_of_ble_eq_true rfl) (k_X12_ofPerson p4 0 hm (ky_inb z2) ⟨_, rfl, (?_ : ky_V _ _ _ 43 _ [.int ((md_ofPerson_r c p4 0)), .int p1] _ _)⟩)
      refine v_iload_n (i := 25) (j := 2) rfl rfl (?_ : ky_V _ _ _ 44 _ _ _ _)
      refine v_icmp_ne (tgt := 56) (i := 26) rfl (by decide) (fun c3 => ?_) (fun c3 => ?_)
      · replace e := ky_ifF c3 e
        refine v_iconst (v := 0) (i := 32) rfl (by decide) (?_ : ky_V _ _ _ 57 _ _ _ _)
        refine v_iadd (i := 33) rfl (?_ : ky_V _ _ _ 58 _ _ _ _)
        refine v_topi (fun x4 ex4 => ?_)
        replace e := ky_letE ex4 e
        refine v_istore_n (L' := [(0, .ref a), (1, .int x4), (2, .int p2), (3, .int p3), (4, .int p4)]) [1, 0, 2, 3, 4] (i := 34) rfl (Nat.le_of_ble_eq_true rfl) rfl (?_ : ky_V _ _ _ 59 _ _ _ _)
        obtain ⟨x5, ex5⟩ : ∃ z : Int32, z = p4 + 1 := ⟨_, rfl⟩
        replace e := ky_letE ex5 e
        refine v_iinc (v := x5) (j := 4) (L' := [(0, .ref a), (1, .int x4), (2, .int p2), (3, .int p3), (4, .int x5)]) [1, 2, 3, 4, 0] (i := 35) rfl rfl (by rw [ex5]; rfl) (Nat.le_of_ble_eq_true rfl) rfl (?_ : ky_V _ _ _ 62 _ _ _ _)
        refine v_goto (tgt := 26) (i := 36) rfl (by decide) (?_ : ky_V _ _ _ 26 _ _ _ _)
        exact ih h c x4 p2 p3 x5 hm fr e
      · replace e := ky_ifT c3 e
        refine v_iload_n (i := 27) (j := 1) rfl rfl (?_ : ky_V _ _ _ 48 _ _ _ _)
        refine v_iload_n (i := 28) (j := 3) rfl rfl (?_ : ky_V _ _ _ 49 _ _ _ _)
        refine v_icmp_ge (tgt := 56) (i := 29) rfl (by decide) (fun c6 => ?_) (fun c6 => ?_)
        · replace e := ky_ifT c6 e
          refine v_iconst (v := 0) (i := 32) rfl (by decide) (?_ : ky_V _ _ _ 57 _ _ _ _)
          refine v_iadd (i := 33) rfl (?_ : ky_V _ _ _ 58 _ _ _ _)
          refine v_topi (fun x7 ex7 => ?_)
          replace e := ky_letE ex7 e
          refine v_istore_n (L' := [(0, .ref a), (1, .int x7), (2, .int p2), (3, .int p3), (4, .int p4)]) [1, 0, 2, 3, 4] (i := 34) rfl (Nat.le_of_ble_eq_true rfl) rfl (?_ : ky_V _ _ _ 59 _ _ _ _)
          obtain ⟨x8, ex8⟩ : ∃ z : Int32, z = p4 + 1 := ⟨_, rfl⟩
          replace e := ky_letE ex8 e
          refine v_iinc (v := x8) (j := 4) (L' := [(0, .ref a), (1, .int x7), (2, .int p2), (3, .int p3), (4, .int x8)]) [1, 2, 3, 4, 0] (i := 35) rfl rfl (by rw [ex8]; rfl) (Nat.le_of_ble_eq_true rfl) rfl (?_ : ky_V _ _ _ 62 _ _ _ _)
          refine v_goto (tgt := 26) (i := 36) rfl (by decide) (?_ : ky_V _ _ _ 26 _ _ _ _)
          exact ih h c x7 p2 p3 x8 hm fr e
        · replace e := ky_ifF c6 e
          refine v_iconst (v := 1) (i := 30) rfl (by decide) (?_ : ky_V _ _ _ 53 _ _ _ _)
          refine v_goto (tgt := 57) (i := 31) rfl (by decide) (?_ : ky_V _ _ _ 57 _ _ _ _)
          refine v_iadd (i := 33) rfl (?_ : ky_V _ _ _ 58 _ _ _ _)
          refine v_topi (fun x9 ex9 => ?_)
          replace e := ky_letE ex9 e
          refine v_istore_n (L' := [(0, .ref a), (1, .int x9), (2, .int p2), (3, .int p3), (4, .int p4)]) [1, 0, 2, 3, 4] (i := 34) rfl (Nat.le_of_ble_eq_true rfl) rfl (?_ : ky_V _ _ _ 59 _ _ _ _)
          obtain ⟨x10, ex10⟩ : ∃ z : Int32, z = p4 + 1 := ⟨_, rfl⟩
          replace e := ky_letE ex10 e
          refine v_iinc (v := x10) (j := 4) (L' := [(0, .ref a), (1, .int x9), (2, .int p2), (3, .int p3), (4, .int x10)]) [1, 2, 3, 4, 0] (i := 35) rfl rfl (by rw [ex10]; rfl) (Nat.le_of_ble_eq_true rfl) rfl (?_ : ky_V _ _ _ 62 _ _ _ _)
          refine v_goto (tgt := 26) (i := 36) rfl (by decide) (?_ : ky_V _ _ _ 26 _ _ _ _)
          exact ih h c x9 p2 p3 x10 hm fr e

def md_placed_L10 (N : Nat) (k : (Nat → Nat → Int32) → Int32 → Int32 → Option ((Nat → Nat → Int32) × Int32)) : Nat → (Nat → Nat → Int32) → Int32 → Int32 → Option ((Nat → Nat → Int32) × Int32)
  | 0, _, _, _ => none
  | n + 1, c, p1, p2 => (if p2 ≤ 0 then (k c p1 p2) else ((md_ropeFor N c p2).bind (fun zz => (fun q3 x4 => (ky_let (jl_bitCount x4) (fun x6 => (md_placed_L26 N (fun q8 x9 x10 x11 x12 => (ky_let (x10 + (-1)) (fun x13 => (md_placed_L10 N k n q8 x9 x13)))) N q3 p1 p2 x6 0)))) zz.1 zz.2)))
set_option maxRecDepth 20000 in
set_option maxHeartbeats 4000000 in
theorem lv_X12_placed_10 {G : ky_GW} {d : Nat} {h0 : ky_HP} {Q : ky_RS → ky_HP → Prop} {a : Nat} {c9 : (Nat → Nat → Int32)} {r9 : Int32} (N : Nat) (k : (Nat → Nat → Int32) → Int32 → Int32 → Option ((Nat → Nat → Int32) × Int32)) (hr : ∀ h1, md_at G h1 a c9 → bk_fr a 13 h0 h1 → Q (.inl (some (.int r9))) h1)
    (hk : ∀ (h : ky_HP) (c : (Nat → Nat → Int32)) (p1 : Int32) (p2 : Int32), md_at G h a c → bk_fr a 13 h0 h → k c p1 p2 = some (c9, r9) → ky_V G (d + 3) M_X12_placed 71 [(0, .ref a), (1, .int p1), (2, .int p2)] [] h Q) :
    ∀ (n : Nat) (h : ky_HP) (c : (Nat → Nat → Int32)) (p1 : Int32) (p2 : Int32), md_at G h a c → bk_fr a 13 h0 h → md_placed_L10 N k n c p1 p2 = some (c9, r9) → ky_V G (d + 3) M_X12_placed 10 [(0, .ref a), (1, .int p1), (2, .int p2)] [] h Q := by
  intro n
  induction n with
  | zero => intro h c p1 p2 hm fr e; cases e
  | succ n ih =>
    intro h c p1 p2 hm fr e
    rw [md_placed_L10] at e
    refine v_iload_n (i := 7) (j := 2) rfl rfl (?_ : ky_V _ _ _ 11 _ _ _ _)
    refine v_if_le (tgt := 71) (i := 8) rfl (by decide) (fun c1 => ?_) (fun c1 => ?_)
    · replace e := ky_ifT c1 e
      exact hk h c p1 p2 hm fr e
    · replace e := ky_ifF c1 e
      refine v_aload_n (i := 9) (j := 0) rfl rfl (?_ : ky_V _ _ _ 15 _ _ _ _)
      refine v_iload_n (i := 10) (j := 2) rfl rfl (?_ : ky_V _ _ _ 16 _ _ _ _)
      obtain ⟨⟨q3, x4⟩, g5, e⟩ := Option.bind_eq_some_iff.mp e
      refine cl_X12_433 (As := [.int p2]) rfl (i := 11) rfl (md_0 hm) rfl rfl (Nat.le_of_ble_eq_true rfl) (k_X12_ropeFor N hm g5 (fun h2 hmh2 frh2 => ⟨_, rfl, (?_ : ky_V _ _ _ 19 _ [.long x4] _ _)⟩))
      have frh2 := fr.tr frh2
      refine cl_X12_437 (As := [.long x4]) rfl (i := 12) rfl rfl rfl (Nat.le_of_ble_eq_true rfl) (k_J13_bitCount_95d88 x4 ⟨_, rfl, (?_ : ky_V _ _ _ 22 _ [.int ((jl_bitCount x4))] _ _)⟩)
      refine v_topi (fun x6 ex6 => ?_)
      replace e := ky_letE ex6 e
      refine v_istore_n (L' := [(0, .ref a), (1, .int p1), (2, .int p2), (3, .int x6)]) [1, 2, 3, 0] (i := 13) rfl (Nat.le_of_ble_eq_true rfl) rfl (?_ : ky_V _ _ _ 23 _ _ _ _)
      refine v_iconst (v := 0) (i := 14) rfl (by decide) (?_ : ky_V _ _ _ 24 _ _ _ _)
      refine v_istore (L' := [(0, .ref a), (1, .int p1), (2, .int p2), (3, .int x6), (4, .int 0)]) [1, 2, 3, 4, 0] (i := 15) rfl (Nat.le_of_ble_eq_true rfl) rfl (?_ : ky_V _ _ _ 26 _ _ _ _)
      refine lv_X12_placed_26 N _ hr (fun h7 q8 x9 x10 x11 x12 hmh7 frh7 e => ?_) N h2 q3 p1 p2 x6 0 hmh2 frh2 e
      obtain ⟨x13, ex13⟩ : ∃ z : Int32, z = x10 + (-1) := ⟨_, rfl⟩
      replace e := ky_letE ex13 e
      refine v_iinc (v := x13) (j := 2) (L' := [(0, .ref a), (1, .int x9), (2, .int x13), (3, .int x11), (4, .int x12)]) [1, 2, 0, 3, 4] (i := 37) rfl rfl (by rw [ex13]; rfl) (Nat.le_of_ble_eq_true rfl) rfl (?_ : ky_V _ _ _ 68 _ _ _ _)
      refine v_goto (tgt := 10) (i := 38) rfl (by decide) (?_ : ky_V _ _ _ 10 _ _ _ _)
      refine ky_loc (L' := [(0, .ref a), (1, .int x9), (2, .int x13)]) (by simp) ?_
      exact ih h7 q8 x9 x13 hmh7 frh7 e

def md_placed (N : Nat) (c : (Nat → Nat → Int32))  : Option ((Nat → Nat → Int32) × Int32) := (ky_let (bk_w c 0 0 0) (fun q2 => (md_placed_L10 N (fun q4 x5 x6 => (some (q4, x5))) N q2 0 9)))
set_option maxRecDepth 20000 in
set_option maxHeartbeats 4000000 in
theorem k_X12_placed {G : ky_GW} {d : Nat} {h : ky_HP} {Q : ky_RS → ky_HP → Prop} {a : Nat} {c c9 : (Nat → Nat → Int32)} {r9 : Int32}  (N : Nat) (hm : md_at G h a c) (e : md_placed N c = some (c9, r9)) (hr : ∀ h1, md_at G h1 a c9 → bk_fr a 13 h h1 → Q (.inl (some (.int r9))) h1) : ky_Call G (d + 3) M_X12_placed [.ref a] h Q := by
  refine ky_ofV (by decide +kernel) rfl ok_X12_placed (Nat.le_of_ble_eq_true rfl) ?_
  have fr : bk_fr a 13 h h := bk_fr.rf
  unfold md_placed at e
  refine (?_ : ky_V _ _ _ 0 [(0, .ref a)] [] _ _)
  refine v_aload_n (i := 0) (j := 0) rfl rfl (?_ : ky_V _ _ _ 1 _ _ _ _)
  refine v_iconst (v := 0) (i := 1) rfl (by decide) (?_ : ky_V _ _ _ 2 _ _ _ _)
  refine pf_X12_3 rfl (i := 2) rfl (md_0 hm) (Nat.le_of_ble_eq_true rfl) rfl rfl ?_
  refine bk_st (B := md_B G a) hm fr 0 0 0 (by decide) (fun h1 hmh1 frh1 => ?_)
  obtain ⟨q2, eq2⟩ : ∃ z, z = (bk_w c 0 0 0) := ⟨_, rfl⟩
  rw [← eq2] at hmh1
  replace e := ky_letE eq2 e
  refine (?_ : ky_V _ _ _ 5 _ _ _ _)
  refine v_iconst (v := 0) (i := 3) rfl (by decide) (?_ : ky_V _ _ _ 6 _ _ _ _)
  refine v_istore_n (L' := [(0, .ref a), (1, .int 0)]) [1, 0] (i := 4) rfl (Nat.le_of_ble_eq_true rfl) rfl (?_ : ky_V _ _ _ 7 _ _ _ _)
  refine v_bipush (v := 9) (i := 5) rfl (by decide) (?_ : ky_V _ _ _ 9 _ _ _ _)
  refine v_istore_n (L' := [(0, .ref a), (1, .int 0), (2, .int 9)]) [1, 2, 0] (i := 6) rfl (Nat.le_of_ble_eq_true rfl) rfl (?_ : ky_V _ _ _ 10 _ _ _ _)
  refine lv_X12_placed_10 N _ hr (fun h3 q4 x5 x6 hmh3 frh3 e => ?_) N h1 q2 0 9 hmh1 frh1 e
  refine v_iload_n (i := 39) (j := 1) rfl rfl (?_ : ky_V _ _ _ 72 _ _ _ _)
  refine v_iret (v := x5) (ty := .int) (i := 40) rfl rfl rfl ?_
  obtain ⟨rfl, rfl⟩ := ky_leaf e
  exact hr _ hmh3 frh3

def md_keepsAll_L2 (N : Nat) (k : (Nat → Nat → Int32) → Int32 → Option ((Nat → Nat → Int32) × Int32)) : Nat → (Nat → Nat → Int32) → Int32 → Option ((Nat → Nat → Int32) × Int32)
  | 0, _, _ => none
  | n + 1, c, p1 => (if (549 : Int32) ≤ p1 then (k c p1) else (if ky_inB p1 2247 = true then (ky_let (c 1 (Int32.toNatClampNeg p1)) (fun x3 => (if ky_inB p1 549 = true then (ky_let (bk_w c 4 (Int32.toNatClampNeg p1) x3) (fun q6 => (ky_let (p1 + 1) (fun x7 => (md_keepsAll_L2 N k n q6 x7))))) else none))) else none))
set_option maxRecDepth 20000 in
set_option maxHeartbeats 4000000 in
theorem lv_X12_keepsAll_2 {G : ky_GW} {d : Nat} {h0 : ky_HP} {Q : ky_RS → ky_HP → Prop} {a : Nat} {c9 : (Nat → Nat → Int32)} {r9 : Int32} (N : Nat) (k : (Nat → Nat → Int32) → Int32 → Option ((Nat → Nat → Int32) × Int32)) (hr : ∀ h1, md_at G h1 a c9 → bk_fr a 13 h0 h1 → Q (.inl none) h1)
    (hk : ∀ (h : ky_HP) (c : (Nat → Nat → Int32)) (p1 : Int32), md_at G h a c → bk_fr a 13 h0 h → k c p1 = some (c9, r9) → ky_V G d M_X12_keepsAll 27 [(0, .ref a), (1, .int p1)] [] h Q) :
    ∀ (n : Nat) (h : ky_HP) (c : (Nat → Nat → Int32)) (p1 : Int32), md_at G h a c → bk_fr a 13 h0 h → md_keepsAll_L2 N k n c p1 = some (c9, r9) → ky_V G d M_X12_keepsAll 2 [(0, .ref a), (1, .int p1)] [] h Q := by
  intro n
  induction n with
  | zero => intro h c p1 hm fr e; cases e
  | succ n ih =>
    intro h c p1 hm fr e
    rw [md_keepsAll_L2] at e
    refine v_iload_n (i := 2) (j := 1) rfl rfl (?_ : ky_V _ _ _ 3 _ _ _ _)
    refine v_sipush (v := 549) (i := 3) rfl (by decide) (?_ : ky_V _ _ _ 6 _ _ _ _)
    refine v_icmp_ge (tgt := 27) (i := 4) rfl (by decide) (fun c1 => ?_) (fun c1 => ?_)
    · replace e := ky_ifT c1 e
      exact hk h c p1 hm fr e
    · replace e := ky_ifF c1 e
      refine v_aload_n (i := 5) (j := 0) rfl rfl (?_ : ky_V _ _ _ 10 _ _ _ _)
      refine gf_X12_23 rfl (i := 6) rfl (md_0 hm) rfl (?_ : ky_V _ _ _ 13 _ _ _ _)
      refine v_iload_n (i := 7) (j := 1) rfl rfl (?_ : ky_V _ _ _ 14 _ _ _ _)
      refine v_aload_n (i := 8) (j := 0) rfl rfl (?_ : ky_V _ _ _ 15 _ _ _ _)
      refine gf_X12_13 rfl (i := 9) rfl (md_0 hm) rfl (?_ : ky_V _ _ _ 18 _ _ _ _)
      refine v_iload_n (i := 10) (j := 1) rfl rfl (?_ : ky_V _ _ _ 19 _ _ _ _)
      obtain ⟨z2, e⟩ := ky_chkE e
      refine v_iald (i := 11) rfl (md_1 hm) (ky_inb z2) (?_ : ky_V _ _ _ 20 _ (.int (c 1 (Int32.toNatClampNeg p1)) :: _) _ _)
      refine v_topi (fun x3 ex3 => ?_)
      replace e := ky_letE ex3 e
      obtain ⟨z4, e⟩ := ky_chkE e
      refine v_iast (i := 12) rfl (md_4 hm) (ky_inb z4) ?_
      refine bk_st (B := md_B G a) hm fr 4 (Int32.toNatClampNeg p1) x3 (by decide) (fun h5 hmh5 frh5 => ?_)
      obtain ⟨q6, eq6⟩ : ∃ z, z = (bk_w c 4 (Int32.toNatClampNeg p1) x3) := ⟨_, rfl⟩
      rw [← eq6] at hmh5
      replace e := ky_letE eq6 e
      refine (?_ : ky_V _ _ _ 21 _ _ _ _)
      obtain ⟨x7, ex7⟩ : ∃ z : Int32, z = p1 + 1 := ⟨_, rfl⟩
      replace e := ky_letE ex7 e
      refine v_iinc (v := x7) (j := 1) (L' := [(0, .ref a), (1, .int x7)]) [1, 0] (i := 13) rfl rfl (by rw [ex7]; rfl) (Nat.le_of_ble_eq_true rfl) rfl (?_ : ky_V _ _ _ 24 _ _ _ _)
      refine v_goto (tgt := 2) (i := 14) rfl (by decide) (?_ : ky_V _ _ _ 2 _ _ _ _)
      exact ih h5 q6 x7 hmh5 frh5 e

def md_keepsAll (N : Nat) (c : (Nat → Nat → Int32))  : Option ((Nat → Nat → Int32) × Int32) := (md_keepsAll_L2 N (fun q2 x3 => (some (q2, 0))) N c 0)
set_option maxRecDepth 20000 in
set_option maxHeartbeats 4000000 in
theorem k_X12_keepsAll {G : ky_GW} {d : Nat} {h : ky_HP} {Q : ky_RS → ky_HP → Prop} {a : Nat} {c c9 : (Nat → Nat → Int32)} {r9 : Int32}  (N : Nat) (hm : md_at G h a c) (e : md_keepsAll N c = some (c9, r9)) (hr : ∀ h1, md_at G h1 a c9 → bk_fr a 13 h h1 → Q (.inl none) h1) : ky_Call G d M_X12_keepsAll [.ref a] h Q := by
  refine ky_ofV (by decide +kernel) rfl ok_X12_keepsAll (Nat.le_of_ble_eq_true rfl) ?_
  have fr : bk_fr a 13 h h := bk_fr.rf
  unfold md_keepsAll at e
  refine (?_ : ky_V _ _ _ 0 [(0, .ref a)] [] _ _)
  refine v_iconst (v := 0) (i := 0) rfl (by decide) (?_ : ky_V _ _ _ 1 _ _ _ _)
  refine v_istore_n (L' := [(0, .ref a), (1, .int 0)]) [1, 0] (i := 1) rfl (Nat.le_of_ble_eq_true rfl) rfl (?_ : ky_V _ _ _ 2 _ _ _ _)
  refine lv_X12_keepsAll_2 N _ hr (fun h1 q2 x3 hmh1 frh1 e => ?_) N h c 0 hm fr e
  refine v_vret (i := 15) rfl rfl ?_
  obtain ⟨rfl, rfl⟩ := ky_leaf e
  exact hr _ hmh1 frh1

def md_bringsBack_L2 (N : Nat) (k : (Nat → Nat → Int32) → Int32 → Option ((Nat → Nat → Int32) × Int32)) : Nat → (Nat → Nat → Int32) → Int32 → Option ((Nat → Nat → Int32) × Int32)
  | 0, _, _ => none
  | n + 1, c, p1 => (if (549 : Int32) ≤ p1 then (k c p1) else (if ky_inB p1 549 = true then (ky_let (c 4 (Int32.toNatClampNeg p1)) (fun x3 => (if ky_inB p1 2247 = true then (ky_let (bk_w c 1 (Int32.toNatClampNeg p1) x3) (fun q6 => (ky_let (p1 + 1) (fun x7 => (md_bringsBack_L2 N k n q6 x7))))) else none))) else none))
set_option maxRecDepth 20000 in
set_option maxHeartbeats 4000000 in
theorem lv_X12_bringsBack_2 {G : ky_GW} {d : Nat} {h0 : ky_HP} {Q : ky_RS → ky_HP → Prop} {a : Nat} {c9 : (Nat → Nat → Int32)} {r9 : Int32} (N : Nat) (k : (Nat → Nat → Int32) → Int32 → Option ((Nat → Nat → Int32) × Int32)) (hr : ∀ h1, md_at G h1 a c9 → bk_fr a 13 h0 h1 → Q (.inl none) h1)
    (hk : ∀ (h : ky_HP) (c : (Nat → Nat → Int32)) (p1 : Int32), md_at G h a c → bk_fr a 13 h0 h → k c p1 = some (c9, r9) → ky_V G d M_X12_bringsBack 27 [(0, .ref a), (1, .int p1)] [] h Q) :
    ∀ (n : Nat) (h : ky_HP) (c : (Nat → Nat → Int32)) (p1 : Int32), md_at G h a c → bk_fr a 13 h0 h → md_bringsBack_L2 N k n c p1 = some (c9, r9) → ky_V G d M_X12_bringsBack 2 [(0, .ref a), (1, .int p1)] [] h Q := by
  intro n
  induction n with
  | zero => intro h c p1 hm fr e; cases e
  | succ n ih =>
    intro h c p1 hm fr e
    rw [md_bringsBack_L2] at e
    refine v_iload_n (i := 2) (j := 1) rfl rfl (?_ : ky_V _ _ _ 3 _ _ _ _)
    refine v_sipush (v := 549) (i := 3) rfl (by decide) (?_ : ky_V _ _ _ 6 _ _ _ _)
    refine v_icmp_ge (tgt := 27) (i := 4) rfl (by decide) (fun c1 => ?_) (fun c1 => ?_)
    · replace e := ky_ifT c1 e
      exact hk h c p1 hm fr e
    · replace e := ky_ifF c1 e
      refine v_aload_n (i := 5) (j := 0) rfl rfl (?_ : ky_V _ _ _ 10 _ _ _ _)
      refine gf_X12_13 rfl (i := 6) rfl (md_0 hm) rfl (?_ : ky_V _ _ _ 13 _ _ _ _)
      refine v_iload_n (i := 7) (j := 1) rfl rfl (?_ : ky_V _ _ _ 14 _ _ _ _)
      refine v_aload_n (i := 8) (j := 0) rfl rfl (?_ : ky_V _ _ _ 15 _ _ _ _)
      refine gf_X12_23 rfl (i := 9) rfl (md_0 hm) rfl (?_ : ky_V _ _ _ 18 _ _ _ _)
      refine v_iload_n (i := 10) (j := 1) rfl rfl (?_ : ky_V _ _ _ 19 _ _ _ _)
      obtain ⟨z2, e⟩ := ky_chkE e
      refine v_iald (i := 11) rfl (md_4 hm) (ky_inb z2) (?_ : ky_V _ _ _ 20 _ (.int (c 4 (Int32.toNatClampNeg p1)) :: _) _ _)
      refine v_topi (fun x3 ex3 => ?_)
      replace e := ky_letE ex3 e
      obtain ⟨z4, e⟩ := ky_chkE e
      refine v_iast (i := 12) rfl (md_1 hm) (ky_inb z4) ?_
      refine bk_st (B := md_B G a) hm fr 1 (Int32.toNatClampNeg p1) x3 (by decide) (fun h5 hmh5 frh5 => ?_)
      obtain ⟨q6, eq6⟩ : ∃ z, z = (bk_w c 1 (Int32.toNatClampNeg p1) x3) := ⟨_, rfl⟩
      rw [← eq6] at hmh5
      replace e := ky_letE eq6 e
      refine (?_ : ky_V _ _ _ 21 _ _ _ _)
      obtain ⟨x7, ex7⟩ : ∃ z : Int32, z = p1 + 1 := ⟨_, rfl⟩
      replace e := ky_letE ex7 e
      refine v_iinc (v := x7) (j := 1) (L' := [(0, .ref a), (1, .int x7)]) [1, 0] (i := 13) rfl rfl (by rw [ex7]; rfl) (Nat.le_of_ble_eq_true rfl) rfl (?_ : ky_V _ _ _ 24 _ _ _ _)
      refine v_goto (tgt := 2) (i := 14) rfl (by decide) (?_ : ky_V _ _ _ 2 _ _ _ _)
      exact ih h5 q6 x7 hmh5 frh5 e

def md_bringsBack (N : Nat) (c : (Nat → Nat → Int32))  : Option ((Nat → Nat → Int32) × Int32) := (md_bringsBack_L2 N (fun q2 x3 => (some (q2, 0))) N c 0)
set_option maxRecDepth 20000 in
set_option maxHeartbeats 4000000 in
theorem k_X12_bringsBack {G : ky_GW} {d : Nat} {h : ky_HP} {Q : ky_RS → ky_HP → Prop} {a : Nat} {c c9 : (Nat → Nat → Int32)} {r9 : Int32}  (N : Nat) (hm : md_at G h a c) (e : md_bringsBack N c = some (c9, r9)) (hr : ∀ h1, md_at G h1 a c9 → bk_fr a 13 h h1 → Q (.inl none) h1) : ky_Call G d M_X12_bringsBack [.ref a] h Q := by
  refine ky_ofV (by decide +kernel) rfl ok_X12_bringsBack (Nat.le_of_ble_eq_true rfl) ?_
  have fr : bk_fr a 13 h h := bk_fr.rf
  unfold md_bringsBack at e
  refine (?_ : ky_V _ _ _ 0 [(0, .ref a)] [] _ _)
  refine v_iconst (v := 0) (i := 0) rfl (by decide) (?_ : ky_V _ _ _ 1 _ _ _ _)
  refine v_istore_n (L' := [(0, .ref a), (1, .int 0)]) [1, 0] (i := 1) rfl (Nat.le_of_ble_eq_true rfl) rfl (?_ : ky_V _ _ _ 2 _ _ _ _)
  refine lv_X12_bringsBack_2 N _ hr (fun h1 q2 x3 hmh1 frh1 e => ?_) N h c 0 hm fr e
  refine v_vret (i := 15) rfl rfl ?_
  obtain ⟨rfl, rfl⟩ := ky_leaf e
  exact hr _ hmh1 frh1

def md_led_L45 (N : Nat) (k : (Nat → Nat → Int32) → Int32 → Int32 → Int32 → Int32 → Int32 → Option ((Nat → Nat → Int32) × Int32)) : Nat → (Nat → Nat → Int32) → Int32 → Int32 → Int32 → Int32 → Int32 → Option ((Nat → Nat → Int32) × Int32)
  | 0, _, _, _, _, _, _ => none
  | n + 1, c, p1, p2, p3, p4, p5 => (if p5 < 0 then (k c p1 p2 p3 p4 p5) else (if ky_inB ((249 + (5 * p5)) + 2) 2247 = true then (if (md_ofLog_r c p5 2) = p1 then (ky_let (p3 + 1) (fun x4 => (if ky_inB ((249 + (5 * p5)) + 1) 2247 = true then (ky_let (md_ofLog_r c p5 1) (fun x6 => (ky_let (p5 + (-1)) (fun x7 => (md_led_L45 N k n c p1 p2 x4 x6 x7))))) else none))) else (ky_let (p5 + (-1)) (fun x8 => (md_led_L45 N k n c p1 p2 p3 p4 x8)))) else none))
set_option maxRecDepth 20000 in
set_option maxHeartbeats 4000000 in
theorem lv_X12_led_45 {G : ky_GW} {d : Nat} {h0 : ky_HP} {Q : ky_RS → ky_HP → Prop} {a : Nat} {c9 : (Nat → Nat → Int32)} {r9 : Int32} (N : Nat) (k : (Nat → Nat → Int32) → Int32 → Int32 → Int32 → Int32 → Int32 → Option ((Nat → Nat → Int32) × Int32)) (hr : ∀ h1, md_at G h1 a c9 → bk_fr a 13 h0 h1 → Q (.inl (some (.int r9))) h1)
    (hk : ∀ (h : ky_HP) (c : (Nat → Nat → Int32)) (p1 : Int32) (p2 : Int32) (p3 : Int32) (p4 : Int32) (p5 : Int32), md_at G h a c → bk_fr a 13 h0 h → k c p1 p2 p3 p4 p5 = some (c9, r9) → ky_V G (d + 1) M_X12_led 82 [(0, .ref a), (1, .int p1), (2, .int p2), (3, .int p3), (4, .int p4), (5, .int p5)] [] h Q) :
    ∀ (n : Nat) (h : ky_HP) (c : (Nat → Nat → Int32)) (p1 : Int32) (p2 : Int32) (p3 : Int32) (p4 : Int32) (p5 : Int32), md_at G h a c → bk_fr a 13 h0 h → md_led_L45 N k n c p1 p2 p3 p4 p5 = some (c9, r9) → ky_V G (d + 1) M_X12_led 45 [(0, .ref a), (1, .int p1), (2, .int p2), (3, .int p3), (4, .int p4), (5, .int p5)] [] h Q := by
  intro n
  induction n with
  | zero => intro h c p1 p2 p3 p4 p5 hm fr e; cases e
  | succ n ih =>
    intro h c p1 p2 p3 p4 p5 hm fr e
    rw [md_led_L45] at e
    refine v_iload (i := 28) (j := 5) rfl rfl (?_ : ky_V _ _ _ 47 _ _ _ _)
    refine v_if_lt (tgt := 82) (i := 29) rfl (by decide) (fun c1 => ?_) (fun c1 => ?_)
    · replace e := ky_ifT c1 e
      exact hk h c p1 p2 p3 p4 p5 hm fr e
    · replace e := ky_ifF c1 e
      refine v_aload_n (i := 30) (j := 0) rfl rfl (?_ : ky_V _ _ _ 51 _ _ _ _)
      refine v_iload (i := 31) (j := 5) rfl rfl (?_ : ky_V _ _ _ 53 _ _ _ _)
      refine v_iconst (v := 2) (i := 32) rfl (by decide) (?_ : ky_V _ _ _ 54 _ _ _ _)
      obtain ⟨z2, e⟩ := ky_chkE e
      refine cl_X12_449 (As := [.int p5, .int 2]) rfl (i := 33) rfl (md_0 hm) rfl rfl (Nat.le_of_ble_eq_true rfl) (k_X12_ofLog p5 2 hm (ky_inb z2) ⟨_, rfl, (?_ : ky_V _ _ _ 57 _ [.int ((md_ofLog_r c p5 2))] _ _)⟩)
      refine v_iload_n (i := 34) (j := 1) rfl rfl (?_ : ky_V _ _ _ 58 _ _ _ _)
      refine v_icmp_eq (tgt := 64) (i := 35) rfl (by decide) (fun c3 => ?_) (fun c3 => ?_)
      · replace e := ky_ifT c3 e
        obtain ⟨x4, ex4⟩ : ∃ z : Int32, z = p3 + 1 := ⟨_, rfl⟩
        replace e := ky_letE ex4 e
        refine v_iinc (v := x4) (j := 3) (L' := [(0, .ref a), (1, .int p1), (2, .int p2), (3, .int x4), (4, .int p4), (5, .int p5)]) [1, 2, 3, 0, 4, 5] (i := 37) rfl rfl (by rw [ex4]; rfl) (Nat.le_of_ble_eq_true rfl) rfl (?_ : ky_V _ _ _ 67 _ _ _ _)
        refine v_aload_n (i := 38) (j := 0) rfl rfl (?_ : ky_V _ _ _ 68 _ _ _ _)
        refine v_iload (i := 39) (j := 5) rfl rfl (?_ : ky_V _ _ _ 70 _ _ _ _)
        refine v_iconst (v := 1) (i := 40) rfl (by decide) (?_ : ky_V _ _ _ 71 _ _ _ _)
        obtain ⟨z5, e⟩ := ky_chkE e
        refine cl_X12_449 (As := [.int p5, .int 1]) rfl (i := 41) rfl (md_0 hm) rfl rfl (Nat.le_of_ble_eq_true rfl) (k_X12_ofLog p5 1 hm (ky_inb z5) ⟨_, rfl, (?_ : ky_V _ _ _ 74 _ [.int ((md_ofLog_r c p5 1))] _ _)⟩)
        refine v_topi (fun x6 ex6 => ?_)
        replace e := ky_letE ex6 e
        refine v_istore (L' := [(0, .ref a), (1, .int p1), (2, .int p2), (3, .int x4), (4, .int x6), (5, .int p5)]) [1, 2, 3, 4, 0, 5] (i := 42) rfl (Nat.le_of_ble_eq_true rfl) rfl (?_ : ky_V _ _ _ 76 _ _ _ _)
        obtain ⟨x7, ex7⟩ : ∃ z : Int32, z = p5 + (-1) := ⟨_, rfl⟩
        replace e := ky_letE ex7 e
        refine v_iinc (v := x7) (j := 5) (L' := [(0, .ref a), (1, .int p1), (2, .int p2), (3, .int x4), (4, .int x6), (5, .int x7)]) [1, 2, 3, 4, 5, 0] (i := 43) rfl rfl (by rw [ex7]; rfl) (Nat.le_of_ble_eq_true rfl) rfl (?_ : ky_V _ _ _ 79 _ _ _ _)
        refine v_goto (tgt := 45) (i := 44) rfl (by decide) (?_ : ky_V _ _ _ 45 _ _ _ _)
        exact ih h c p1 p2 x4 x6 x7 hm fr e
      · replace e := ky_ifF c3 e
        refine v_goto (tgt := 76) (i := 36) rfl (by decide) (?_ : ky_V _ _ _ 76 _ _ _ _)
        obtain ⟨x8, ex8⟩ : ∃ z : Int32, z = p5 + (-1) := ⟨_, rfl⟩
        replace e := ky_letE ex8 e
        refine v_iinc (v := x8) (j := 5) (L' := [(0, .ref a), (1, .int p1), (2, .int p2), (3, .int p3), (4, .int p4), (5, .int x8)]) [1, 2, 3, 4, 5, 0] (i := 43) rfl rfl (by rw [ex8]; rfl) (Nat.le_of_ble_eq_true rfl) rfl (?_ : ky_V _ _ _ 79 _ _ _ _)
        refine v_goto (tgt := 45) (i := 44) rfl (by decide) (?_ : ky_V _ _ _ 45 _ _ _ _)
        exact ih h c p1 p2 p3 p4 x8 hm fr e

def md_led (N : Nat) (c : (Nat → Nat → Int32)) (p1 : Int32) (p2 : Int32) : Option ((Nat → Nat → Int32) × Int32) := (ky_let (bk_w c 0 0 0) (fun q2 => (if (md_in p1 0 2) = 0 then (ky_let (md_throwsIf_r q2 1 1) (fun x19 => (ky_let (md_throwsIf_c q2 1 1) (fun q18 => (if x19 = 0 then (ky_let ((q18 1 15) - 1) (fun x21 => (md_led_L45 N (fun q23 x24 x25 x26 x27 x28 => (if x25 = 0 then (some (q23, x26)) else (some (q23, x27)))) N q18 p1 p2 0 (-1) x21))) else (some (q18, 0))))))) else (ky_let (md_throwsIf_r q2 0 1) (fun x6 => (ky_let (md_throwsIf_c q2 0 1) (fun q5 => (if x6 = 0 then (ky_let ((q5 1 15) - 1) (fun x8 => (md_led_L45 N (fun q10 x11 x12 x13 x14 x15 => (if x12 = 0 then (some (q10, x13)) else (some (q10, x14)))) N q5 p1 p2 0 (-1) x8))) else (some (q5, 0))))))))))
set_option maxRecDepth 20000 in
set_option maxHeartbeats 4000000 in
theorem k_X12_led {G : ky_GW} {d : Nat} {h : ky_HP} {Q : ky_RS → ky_HP → Prop} {a : Nat} {c c9 : (Nat → Nat → Int32)} {r9 : Int32} {p1 : Int32} {p2 : Int32} (N : Nat) (hm : md_at G h a c) (e : md_led N c p1 p2 = some (c9, r9)) (hr : ∀ h1, md_at G h1 a c9 → bk_fr a 13 h h1 → Q (.inl (some (.int r9))) h1) : ky_Call G (d + 1) M_X12_led [.ref a, .int p1, .int p2] h Q := by
  refine ky_ofV (by decide +kernel) rfl ok_X12_led (Nat.le_of_ble_eq_true rfl) ?_
  have fr : bk_fr a 13 h h := bk_fr.rf
  unfold md_led at e
  refine (?_ : ky_V _ _ _ 0 [(0, .ref a), (1, .int p1), (2, .int p2)] [] _ _)
  refine v_aload_n (i := 0) (j := 0) rfl rfl (?_ : ky_V _ _ _ 1 _ _ _ _)
  refine v_iconst (v := 0) (i := 1) rfl (by decide) (?_ : ky_V _ _ _ 2 _ _ _ _)
  refine pf_X12_3 rfl (i := 2) rfl (md_0 hm) (Nat.le_of_ble_eq_true rfl) rfl rfl ?_
  refine bk_st (B := md_B G a) hm fr 0 0 0 (by decide) (fun h1 hmh1 frh1 => ?_)
  obtain ⟨q2, eq2⟩ : ∃ z, z = (bk_w c 0 0 0) := ⟨_, rfl⟩
  rw [← eq2] at hmh1
  replace e := ky_letE eq2 e
  refine (?_ : ky_V _ _ _ 5 _ _ _ _)
  refine v_aload_n (i := 3) (j := 0) rfl rfl (?_ : ky_V _ _ _ 6 _ _ _ _)
  refine v_iload_n (i := 4) (j := 1) rfl rfl (?_ : ky_V _ _ _ 7 _ _ _ _)
  refine v_iconst (v := 0) (i := 5) rfl (by decide) (?_ : ky_V _ _ _ 8 _ _ _ _)
  refine v_iconst (v := 2) (i := 6) rfl (by decide) (?_ : ky_V _ _ _ 9 _ _ _ _)
  refine cl_X12_65 (As := [.int p1, .int 0, .int 2]) rfl (i := 7) rfl rfl rfl (Nat.le_of_ble_eq_true rfl) (k_X12_in p1 0 2 ⟨_, rfl, (?_ : ky_V _ _ _ 12 _ [.int ((md_in p1 0 2)), .ref a] _ _)⟩)
  refine v_if_ne (tgt := 19) (i := 8) rfl (by decide) (fun c3 => ?_) (fun c3 => ?_)
  · replace e := ky_ifF c3 e
    refine v_iconst (v := 0) (i := 11) rfl (by decide) (?_ : ky_V _ _ _ 20 _ _ _ _)
    refine v_iconst (v := 1) (i := 12) rfl (by decide) (?_ : ky_V _ _ _ 21 _ _ _ _)
    refine cl_X12_241 (As := [.int 0, .int 1]) rfl (i := 13) rfl (md_0 hmh1) rfl rfl (Nat.le_of_ble_eq_true rfl) (k_X12_throwsIf 0 1 hmh1 (by decide) (fun h4 hmh4 frh4 => ⟨_, rfl, (?_ : ky_V _ _ _ 24 _ [.int ((md_throwsIf_r q2 0 1))] _ _)⟩))
    have frh4 := frh1.tr frh4
    refine v_topi (fun x6 ex6 => ?_)
    replace e := ky_letE ex6 e
    obtain ⟨q5, eq5⟩ : ∃ z, z = (md_throwsIf_c q2 0 1) := ⟨_, rfl⟩
    rw [← eq5] at hmh4
    replace e := ky_letE eq5 e
    refine v_if_eq (tgt := 29) (i := 14) rfl (by decide) (fun c7 => ?_) (fun c7 => ?_)
    · replace e := ky_ifT c7 e
      refine v_iconst (v := 0) (i := 17) rfl (by decide) (?_ : ky_V _ _ _ 30 _ _ _ _)
      refine v_istore_n (L' := [(0, .ref a), (1, .int p1), (2, .int p2), (3, .int 0)]) [1, 2, 3, 0] (i := 18) rfl (Nat.le_of_ble_eq_true rfl) rfl (?_ : ky_V _ _ _ 31 _ _ _ _)
      refine v_iconst (v := (-1)) (i := 19) rfl (by decide) (?_ : ky_V _ _ _ 32 _ _ _ _)
      refine v_istore (L' := [(0, .ref a), (1, .int p1), (2, .int p2), (3, .int 0), (4, .int (-1))]) [1, 2, 3, 4, 0] (i := 20) rfl (Nat.le_of_ble_eq_true rfl) rfl (?_ : ky_V _ _ _ 34 _ _ _ _)
      refine v_aload_n (i := 21) (j := 0) rfl rfl (?_ : ky_V _ _ _ 35 _ _ _ _)
      refine gf_X12_13 rfl (i := 22) rfl (md_0 hmh4) rfl (?_ : ky_V _ _ _ 38 _ _ _ _)
      refine v_bipush (v := 15) (i := 23) rfl (by decide) (?_ : ky_V _ _ _ 40 _ _ _ _)
      refine v_iald (i := 24) rfl (md_1 hmh4) (ky_inl (by decide)) (?_ : ky_V _ _ _ 41 _ (.int (q5 1 15) :: _) _ _)
      refine v_iconst (v := 1) (i := 25) rfl (by decide) (?_ : ky_V _ _ _ 42 _ _ _ _)
      refine v_isub (i := 26) rfl (?_ : ky_V _ _ _ 43 _ _ _ _)
      refine v_topi (fun x8 ex8 => ?_)
      replace e := ky_letE ex8 e
      refine v_istore (L' := [(0, .ref a), (1, .int p1), (2, .int p2), (3, .int 0), (4, .int (-1)), (5, .int x8)]) [1, 2, 3, 4, 5, 0] (i := 27) rfl (Nat.le_of_ble_eq_true rfl) rfl (?_ : ky_V _ _ _ 45 _ _ _ _)
      refine lv_X12_led_45 N _ hr (fun h9 q10 x11 x12 x13 x14 x15 hmh9 frh9 e => ?_) N h4 q5 p1 p2 0 (-1) x8 hmh4 frh4 e
      refine v_iload_n (i := 45) (j := 2) rfl rfl (?_ : ky_V _ _ _ 83 _ _ _ _)
      refine v_if_eq (tgt := 91) (i := 46) rfl (by decide) (fun c16 => ?_) (fun c16 => ?_)
      · replace e := ky_ifT c16 e
        refine v_iload_n (i := 49) (j := 3) rfl rfl (?_ : ky_V _ _ _ 92 _ _ _ _)
        refine v_iret (v := x13) (ty := .int) (i := 50) rfl rfl rfl ?_
        obtain ⟨rfl, rfl⟩ := ky_leaf e
        exact hr _ hmh9 frh9
      · replace e := ky_ifF c16 e
        refine v_iload (i := 47) (j := 4) rfl rfl (?_ : ky_V _ _ _ 88 _ _ _ _)
        refine v_goto (tgt := 92) (i := 48) rfl (by decide) (?_ : ky_V _ _ _ 92 _ _ _ _)
        refine v_iret (v := x14) (ty := .int) (i := 50) rfl rfl rfl ?_
        obtain ⟨rfl, rfl⟩ := ky_leaf e
        exact hr _ hmh9 frh9
    · replace e := ky_ifF c7 e
      refine v_iconst (v := 0) (i := 15) rfl (by decide) (?_ : ky_V _ _ _ 28 _ _ _ _)
      refine v_iret (v := 0) (ty := .int) (i := 16) rfl rfl rfl ?_
      obtain ⟨rfl, rfl⟩ := ky_leaf e
      exact hr _ hmh4 frh4
  · replace e := ky_ifT c3 e
    refine v_iconst (v := 1) (i := 9) rfl (by decide) (?_ : ky_V _ _ _ 16 _ _ _ _)
    refine v_goto (tgt := 20) (i := 10) rfl (by decide) (?_ : ky_V _ _ _ 20 _ _ _ _)
    refine v_iconst (v := 1) (i := 12) rfl (by decide) (?_ : ky_V _ _ _ 21 _ _ _ _)
    refine cl_X12_241 (As := [.int 1, .int 1]) rfl (i := 13) rfl (md_0 hmh1) rfl rfl (Nat.le_of_ble_eq_true rfl) (k_X12_throwsIf 1 1 hmh1 (by decide) (fun h17 hmh17 frh17 => ⟨_, rfl, (?_ : ky_V _ _ _ 24 _ [.int ((md_throwsIf_r q2 1 1))] _ _)⟩))
    have frh17 := frh1.tr frh17
    refine v_topi (fun x19 ex19 => ?_)
    replace e := ky_letE ex19 e
    obtain ⟨q18, eq18⟩ : ∃ z, z = (md_throwsIf_c q2 1 1) := ⟨_, rfl⟩
    rw [← eq18] at hmh17
    replace e := ky_letE eq18 e
    refine v_if_eq (tgt := 29) (i := 14) rfl (by decide) (fun c20 => ?_) (fun c20 => ?_)
    · replace e := ky_ifT c20 e
      refine v_iconst (v := 0) (i := 17) rfl (by decide) (?_ : ky_V _ _ _ 30 _ _ _ _)
      refine v_istore_n (L' := [(0, .ref a), (1, .int p1), (2, .int p2), (3, .int 0)]) [1, 2, 3, 0] (i := 18) rfl (Nat.le_of_ble_eq_true rfl) rfl (?_ : ky_V _ _ _ 31 _ _ _ _)
      refine v_iconst (v := (-1)) (i := 19) rfl (by decide) (?_ : ky_V _ _ _ 32 _ _ _ _)
      refine v_istore (L' := [(0, .ref a), (1, .int p1), (2, .int p2), (3, .int 0), (4, .int (-1))]) [1, 2, 3, 4, 0] (i := 20) rfl (Nat.le_of_ble_eq_true rfl) rfl (?_ : ky_V _ _ _ 34 _ _ _ _)
      refine v_aload_n (i := 21) (j := 0) rfl rfl (?_ : ky_V _ _ _ 35 _ _ _ _)
      refine gf_X12_13 rfl (i := 22) rfl (md_0 hmh17) rfl (?_ : ky_V _ _ _ 38 _ _ _ _)
      refine v_bipush (v := 15) (i := 23) rfl (by decide) (?_ : ky_V _ _ _ 40 _ _ _ _)
      refine v_iald (i := 24) rfl (md_1 hmh17) (ky_inl (by decide)) (?_ : ky_V _ _ _ 41 _ (.int (q18 1 15) :: _) _ _)
      refine v_iconst (v := 1) (i := 25) rfl (by decide) (?_ : ky_V _ _ _ 42 _ _ _ _)
      refine v_isub (i := 26) rfl (?_ : ky_V _ _ _ 43 _ _ _ _)
      refine v_topi (fun x21 ex21 => ?_)
      replace e := ky_letE ex21 e
      refine v_istore (L' := [(0, .ref a), (1, .int p1), (2, .int p2), (3, .int 0), (4, .int (-1)), (5, .int x21)]) [1, 2, 3, 4, 5, 0] (i := 27) rfl (Nat.le_of_ble_eq_true rfl) rfl (?_ : ky_V _ _ _ 45 _ _ _ _)
      refine lv_X12_led_45 N _ hr (fun h22 q23 x24 x25 x26 x27 x28 hmh22 frh22 e => ?_) N h17 q18 p1 p2 0 (-1) x21 hmh17 frh17 e
      refine v_iload_n (i := 45) (j := 2) rfl rfl (?_ : ky_V _ _ _ 83 _ _ _ _)
      refine v_if_eq (tgt := 91) (i := 46) rfl (by decide) (fun c29 => ?_) (fun c29 => ?_)
      · replace e := ky_ifT c29 e
        refine v_iload_n (i := 49) (j := 3) rfl rfl (?_ : ky_V _ _ _ 92 _ _ _ _)
        refine v_iret (v := x26) (ty := .int) (i := 50) rfl rfl rfl ?_
        obtain ⟨rfl, rfl⟩ := ky_leaf e
        exact hr _ hmh22 frh22
      · replace e := ky_ifF c29 e
        refine v_iload (i := 47) (j := 4) rfl rfl (?_ : ky_V _ _ _ 88 _ _ _ _)
        refine v_goto (tgt := 92) (i := 48) rfl (by decide) (?_ : ky_V _ _ _ 92 _ _ _ _)
        refine v_iret (v := x27) (ty := .int) (i := 50) rfl rfl rfl ?_
        obtain ⟨rfl, rfl⟩ := ky_leaf e
        exact hr _ hmh22 frh22
    · replace e := ky_ifF c20 e
      refine v_iconst (v := 0) (i := 15) rfl (by decide) (?_ : ky_V _ _ _ 28 _ _ _ _)
      refine v_iret (v := 0) (ty := .int) (i := 16) rfl rfl rfl ?_
      obtain ⟨rfl, rfl⟩ := ky_leaf e
      exact hr _ hmh17 frh17

def md_count (N : Nat) (c : (Nat → Nat → Int32)) (p1 : Int32) : Option ((Nat → Nat → Int32) × Int32) := (ky_let (bk_w c 0 0 0) (fun q2 => (if p1 = 9 then (if (md_isOut_r q2) = 0 then (some (q2, 0)) else (some (q2, 1))) else (if p1 = 10 then (if (md_isDrowned_r q2) = 0 then (some (q2, 0)) else (some (q2, 1))) else (if p1 = 11 then (some (q2, (q2 1 9))) else (if p1 = 12 then (some (q2, (q2 1 10))) else (if p1 = 13 then (some (q2, (md_people_r q2))) else (if p1 = 14 then (some (q2, (q2 1 11))) else (if p1 = 15 then (some (q2, (q2 1 13))) else (if p1 = 16 then (if (q2 1 14) = (1 : Int32) then (some (q2, (q2 1 549))) else (some (q2, (-1)))) else (if p1 = 17 then (some (q2, (q2 1 15))) else (if p1 = 18 then (some (q2, (q2 0 7))) else (if (md_in p1 0 8) = 0 then (some (q2, (-1))) else (if ky_inB p1 2247 = true then (some (q2, (q2 1 (Int32.toNatClampNeg p1)))) else none))))))))))))))
set_option maxRecDepth 20000 in
set_option maxHeartbeats 4000000 in
theorem k_X12_count {G : ky_GW} {d : Nat} {h : ky_HP} {Q : ky_RS → ky_HP → Prop} {a : Nat} {c c9 : (Nat → Nat → Int32)} {r9 : Int32} {p1 : Int32} (N : Nat) (hm : md_at G h a c) (e : md_count N c p1 = some (c9, r9)) (hr : ∀ h1, md_at G h1 a c9 → bk_fr a 13 h h1 → Q (.inl (some (.int r9))) h1) : ky_Call G (d + 2) M_X12_count [.ref a, .int p1] h Q := by
  refine ky_ofV (by decide +kernel) rfl ok_X12_count (Nat.le_of_ble_eq_true rfl) ?_
  have fr : bk_fr a 13 h h := bk_fr.rf
  unfold md_count at e
  refine (?_ : ky_V _ _ _ 0 [(0, .ref a), (1, .int p1)] [] _ _)
  refine v_aload_n (i := 0) (j := 0) rfl rfl (?_ : ky_V _ _ _ 1 _ _ _ _)
  refine v_iconst (v := 0) (i := 1) rfl (by decide) (?_ : ky_V _ _ _ 2 _ _ _ _)
  refine pf_X12_3 rfl (i := 2) rfl (md_0 hm) (Nat.le_of_ble_eq_true rfl) rfl rfl ?_
  refine bk_st (B := md_B G a) hm fr 0 0 0 (by decide) (fun h1 hmh1 frh1 => ?_)
  obtain ⟨q2, eq2⟩ : ∃ z, z = (bk_w c 0 0 0) := ⟨_, rfl⟩
  rw [← eq2] at hmh1
  replace e := ky_letE eq2 e
  refine (?_ : ky_V _ _ _ 5 _ _ _ _)
  refine v_iload_n (i := 3) (j := 1) rfl rfl (?_ : ky_V _ _ _ 6 _ _ _ _)
  rcases Classical.em (p1 = 9) with c3 | c3
  · replace e := ky_ifT c3 e
    refine v_tableIn (off := 54) (tgt := 60) (i := 4) rfl (by rw [c3]; decide) (by rw [c3]; decide) (by rw [c3]; rfl) (by decide) ?_
    refine v_aload_n (i := 5) (j := 0) rfl rfl (?_ : ky_V _ _ _ 61 _ _ _ _)
    refine cl_X12_61 (As := []) rfl (i := 6) rfl (md_0 hmh1) rfl rfl (Nat.le_of_ble_eq_true rfl) (k_X12_isOut hmh1 ⟨_, rfl, (?_ : ky_V _ _ _ 64 _ [.int ((md_isOut_r q2))] _ _)⟩)
    refine v_if_eq (tgt := 71) (i := 7) rfl (by decide) (fun c4 => ?_) (fun c4 => ?_)
    · replace e := ky_ifT c4 e
      refine v_iconst (v := 0) (i := 10) rfl (by decide) (?_ : ky_V _ _ _ 72 _ _ _ _)
      refine v_iret (v := 0) (ty := .int) (i := 11) rfl rfl rfl ?_
      obtain ⟨rfl, rfl⟩ := ky_leaf e
      exact hr _ hmh1 frh1
    · replace e := ky_ifF c4 e
      refine v_iconst (v := 1) (i := 8) rfl (by decide) (?_ : ky_V _ _ _ 68 _ _ _ _)
      refine v_goto (tgt := 72) (i := 9) rfl (by decide) (?_ : ky_V _ _ _ 72 _ _ _ _)
      refine v_iret (v := 1) (ty := .int) (i := 11) rfl rfl rfl ?_
      obtain ⟨rfl, rfl⟩ := ky_leaf e
      exact hr _ hmh1 frh1
  · replace e := ky_ifF c3 e
    rcases Classical.em (p1 = 10) with c5 | c5
    · replace e := ky_ifT c5 e
      refine v_tableIn (off := 67) (tgt := 73) (i := 4) rfl (by rw [c5]; decide) (by rw [c5]; decide) (by rw [c5]; rfl) (by decide) ?_
      refine v_aload_n (i := 12) (j := 0) rfl rfl (?_ : ky_V _ _ _ 74 _ _ _ _)
      refine cl_X12_367 (As := []) rfl (i := 13) rfl (md_0 hmh1) rfl rfl (Nat.le_of_ble_eq_true rfl) (k_X12_isDrowned hmh1 ⟨_, rfl, (?_ : ky_V _ _ _ 77 _ [.int ((md_isDrowned_r q2))] _ _)⟩)
      refine v_if_eq (tgt := 84) (i := 14) rfl (by decide) (fun c6 => ?_) (fun c6 => ?_)
      · replace e := ky_ifT c6 e
        refine v_iconst (v := 0) (i := 17) rfl (by decide) (?_ : ky_V _ _ _ 85 _ _ _ _)
        refine v_iret (v := 0) (ty := .int) (i := 18) rfl rfl rfl ?_
        obtain ⟨rfl, rfl⟩ := ky_leaf e
        exact hr _ hmh1 frh1
      · replace e := ky_ifF c6 e
        refine v_iconst (v := 1) (i := 15) rfl (by decide) (?_ : ky_V _ _ _ 81 _ _ _ _)
        refine v_goto (tgt := 85) (i := 16) rfl (by decide) (?_ : ky_V _ _ _ 85 _ _ _ _)
        refine v_iret (v := 1) (ty := .int) (i := 18) rfl rfl rfl ?_
        obtain ⟨rfl, rfl⟩ := ky_leaf e
        exact hr _ hmh1 frh1
    · replace e := ky_ifF c5 e
      rcases Classical.em (p1 = 11) with c7 | c7
      · replace e := ky_ifT c7 e
        refine v_tableIn (off := 80) (tgt := 86) (i := 4) rfl (by rw [c7]; decide) (by rw [c7]; decide) (by rw [c7]; rfl) (by decide) ?_
        refine v_aload_n (i := 19) (j := 0) rfl rfl (?_ : ky_V _ _ _ 87 _ _ _ _)
        refine gf_X12_13 rfl (i := 20) rfl (md_0 hmh1) rfl (?_ : ky_V _ _ _ 90 _ _ _ _)
        refine v_bipush (v := 9) (i := 21) rfl (by decide) (?_ : ky_V _ _ _ 92 _ _ _ _)
        refine v_iald (i := 22) rfl (md_1 hmh1) (ky_inl (by decide)) (?_ : ky_V _ _ _ 93 _ (.int (q2 1 9) :: _) _ _)
        refine v_iret (v := (q2 1 9)) (ty := .int) (i := 23) rfl rfl rfl ?_
        obtain ⟨rfl, rfl⟩ := ky_leaf e
        exact hr _ hmh1 frh1
      · replace e := ky_ifF c7 e
        rcases Classical.em (p1 = 12) with c8 | c8
        · replace e := ky_ifT c8 e
          refine v_tableIn (off := 88) (tgt := 94) (i := 4) rfl (by rw [c8]; decide) (by rw [c8]; decide) (by rw [c8]; rfl) (by decide) ?_
          refine v_aload_n (i := 24) (j := 0) rfl rfl (?_ : ky_V _ _ _ 95 _ _ _ _)
          refine gf_X12_13 rfl (i := 25) rfl (md_0 hmh1) rfl (?_ : ky_V _ _ _ 98 _ _ _ _)
          refine v_bipush (v := 10) (i := 26) rfl (by decide) (?_ : ky_V _ _ _ 100 _ _ _ _)
          refine v_iald (i := 27) rfl (md_1 hmh1) (ky_inl (by decide)) (?_ : ky_V _ _ _ 101 _ (.int (q2 1 10) :: _) _ _)
          refine v_iret (v := (q2 1 10)) (ty := .int) (i := 28) rfl rfl rfl ?_
          obtain ⟨rfl, rfl⟩ := ky_leaf e
          exact hr _ hmh1 frh1
        · replace e := ky_ifF c8 e
          rcases Classical.em (p1 = 13) with c9 | c9
          · replace e := ky_ifT c9 e
            refine v_tableIn (off := 96) (tgt := 102) (i := 4) rfl (by rw [c9]; decide) (by rw [c9]; decide) (by rw [c9]; rfl) (by decide) ?_
            refine v_aload_n (i := 29) (j := 0) rfl rfl (?_ : ky_V _ _ _ 103 _ _ _ _)
            refine cl_X12_69 (As := []) rfl (i := 30) rfl (md_0 hmh1) rfl rfl (Nat.le_of_ble_eq_true rfl) (k_X12_people hmh1 ⟨_, rfl, (?_ : ky_V _ _ _ 106 _ [.int ((md_people_r q2))] _ _)⟩)
            refine v_iret (v := (md_people_r q2)) (ty := .int) (i := 31) rfl rfl rfl ?_
            obtain ⟨rfl, rfl⟩ := ky_leaf e
            exact hr _ hmh1 frh1
          · replace e := ky_ifF c9 e
            rcases Classical.em (p1 = 14) with c10 | c10
            · replace e := ky_ifT c10 e
              refine v_tableIn (off := 101) (tgt := 107) (i := 4) rfl (by rw [c10]; decide) (by rw [c10]; decide) (by rw [c10]; rfl) (by decide) ?_
              refine v_aload_n (i := 32) (j := 0) rfl rfl (?_ : ky_V _ _ _ 108 _ _ _ _)
              refine gf_X12_13 rfl (i := 33) rfl (md_0 hmh1) rfl (?_ : ky_V _ _ _ 111 _ _ _ _)
              refine v_bipush (v := 11) (i := 34) rfl (by decide) (?_ : ky_V _ _ _ 113 _ _ _ _)
              refine v_iald (i := 35) rfl (md_1 hmh1) (ky_inl (by decide)) (?_ : ky_V _ _ _ 114 _ (.int (q2 1 11) :: _) _ _)
              refine v_iret (v := (q2 1 11)) (ty := .int) (i := 36) rfl rfl rfl ?_
              obtain ⟨rfl, rfl⟩ := ky_leaf e
              exact hr _ hmh1 frh1
            · replace e := ky_ifF c10 e
              rcases Classical.em (p1 = 15) with c11 | c11
              · replace e := ky_ifT c11 e
                refine v_tableIn (off := 109) (tgt := 115) (i := 4) rfl (by rw [c11]; decide) (by rw [c11]; decide) (by rw [c11]; rfl) (by decide) ?_
                refine v_aload_n (i := 37) (j := 0) rfl rfl (?_ : ky_V _ _ _ 116 _ _ _ _)
                refine gf_X12_13 rfl (i := 38) rfl (md_0 hmh1) rfl (?_ : ky_V _ _ _ 119 _ _ _ _)
                refine v_bipush (v := 13) (i := 39) rfl (by decide) (?_ : ky_V _ _ _ 121 _ _ _ _)
                refine v_iald (i := 40) rfl (md_1 hmh1) (ky_inl (by decide)) (?_ : ky_V _ _ _ 122 _ (.int (q2 1 13) :: _) _ _)
                refine v_iret (v := (q2 1 13)) (ty := .int) (i := 41) rfl rfl rfl ?_
                obtain ⟨rfl, rfl⟩ := ky_leaf e
                exact hr _ hmh1 frh1
              · replace e := ky_ifF c11 e
                rcases Classical.em (p1 = 16) with c12 | c12
                · replace e := ky_ifT c12 e
                  refine v_tableIn (off := 117) (tgt := 123) (i := 4) rfl (by rw [c12]; decide) (by rw [c12]; decide) (by rw [c12]; rfl) (by decide) ?_
                  refine v_aload_n (i := 42) (j := 0) rfl rfl (?_ : ky_V _ _ _ 124 _ _ _ _)
                  refine gf_X12_13 rfl (i := 43) rfl (md_0 hmh1) rfl (?_ : ky_V _ _ _ 127 _ _ _ _)
                  refine v_bipush (v := 14) (i := 44) rfl (by decide) (?_ : ky_V _ _ _ 129 _ _ _ _)
                  refine v_iald (i := 45) rfl (md_1 hmh1) (ky_inl (by decide)) (?_ : ky_V _ _ _ 130 _ (.int (q2 1 14) :: _) _ _)
                  refine v_iconst (v := 1) (i := 46) rfl (by decide) (?_ : ky_V _ _ _ 131 _ _ _ _)
                  refine v_icmp_ne (tgt := 145) (i := 47) rfl (by decide) (fun c13 => ?_) (fun c13 => ?_)
                  · replace e := ky_ifF c13 e
                    refine v_iconst (v := (-1)) (i := 53) rfl (by decide) (?_ : ky_V _ _ _ 146 _ _ _ _)
                    refine v_iret (v := (-1)) (ty := .int) (i := 54) rfl rfl rfl ?_
                    obtain ⟨rfl, rfl⟩ := ky_leaf e
                    exact hr _ hmh1 frh1
                  · replace e := ky_ifT c13 e
                    refine v_aload_n (i := 48) (j := 0) rfl rfl (?_ : ky_V _ _ _ 135 _ _ _ _)
                    refine gf_X12_13 rfl (i := 49) rfl (md_0 hmh1) rfl (?_ : ky_V _ _ _ 138 _ _ _ _)
                    refine v_sipush (v := 549) (i := 50) rfl (by decide) (?_ : ky_V _ _ _ 141 _ _ _ _)
                    refine v_iald (i := 51) rfl (md_1 hmh1) (ky_inl (by decide)) (?_ : ky_V _ _ _ 142 _ (.int (q2 1 549) :: _) _ _)
                    refine v_goto (tgt := 146) (i := 52) rfl (by decide) (?_ : ky_V _ _ _ 146 _ _ _ _)
                    refine v_iret (v := (q2 1 549)) (ty := .int) (i := 54) rfl rfl rfl ?_
                    obtain ⟨rfl, rfl⟩ := ky_leaf e
                    exact hr _ hmh1 frh1
                · replace e := ky_ifF c12 e
                  rcases Classical.em (p1 = 17) with c14 | c14
                  · replace e := ky_ifT c14 e
                    refine v_tableIn (off := 141) (tgt := 147) (i := 4) rfl (by rw [c14]; decide) (by rw [c14]; decide) (by rw [c14]; rfl) (by decide) ?_
                    refine v_aload_n (i := 55) (j := 0) rfl rfl (?_ : ky_V _ _ _ 148 _ _ _ _)
                    refine gf_X12_13 rfl (i := 56) rfl (md_0 hmh1) rfl (?_ : ky_V _ _ _ 151 _ _ _ _)
                    refine v_bipush (v := 15) (i := 57) rfl (by decide) (?_ : ky_V _ _ _ 153 _ _ _ _)
                    refine v_iald (i := 58) rfl (md_1 hmh1) (ky_inl (by decide)) (?_ : ky_V _ _ _ 154 _ (.int (q2 1 15) :: _) _ _)
                    refine v_iret (v := (q2 1 15)) (ty := .int) (i := 59) rfl rfl rfl ?_
                    obtain ⟨rfl, rfl⟩ := ky_leaf e
                    exact hr _ hmh1 frh1
                  · replace e := ky_ifF c14 e
                    rcases Classical.em (p1 = 18) with c15 | c15
                    · replace e := ky_ifT c15 e
                      refine v_tableIn (off := 149) (tgt := 155) (i := 4) rfl (by rw [c15]; decide) (by rw [c15]; decide) (by rw [c15]; rfl) (by decide) ?_
                      refine v_aload_n (i := 60) (j := 0) rfl rfl (?_ : ky_V _ _ _ 156 _ _ _ _)
                      refine gf_X12_58 rfl (i := 61) rfl (md_0 hmh1) rfl (?_ : ky_V _ _ _ 159 _ _ _ _)
                      refine v_iret (v := (q2 0 7)) (ty := .int) (i := 62) rfl rfl rfl ?_
                      obtain ⟨rfl, rfl⟩ := ky_leaf e
                      exact hr _ hmh1 frh1
                    · replace e := ky_ifF c15 e
                      refine v_tableOut (tgt := 160) (i := 4) rfl (ky_swO (fun z h1 h2 => ?_)) (by decide) ?_
                      · intro hz
                        have h3 : z = 9 ∨ z = 10 ∨ z = 11 ∨ z = 12 ∨ z = 13 ∨ z = 14 ∨ z = 15 ∨ z = 16 ∨ z = 17 ∨ z = 18 := by omega
                        rcases h3 with h3 | h3 | h3 | h3 | h3 | h3 | h3 | h3 | h3 | h3 <;> subst h3
                        · exact c3 (Int32.toInt_inj.mp (hz.trans (by decide)))
                        · exact c5 (Int32.toInt_inj.mp (hz.trans (by decide)))
                        · exact c7 (Int32.toInt_inj.mp (hz.trans (by decide)))
                        · exact c8 (Int32.toInt_inj.mp (hz.trans (by decide)))
                        · exact c9 (Int32.toInt_inj.mp (hz.trans (by decide)))
                        · exact c10 (Int32.toInt_inj.mp (hz.trans (by decide)))
                        · exact c11 (Int32.toInt_inj.mp (hz.trans (by decide)))
                        · exact c12 (Int32.toInt_inj.mp (hz.trans (by decide)))
                        · exact c14 (Int32.toInt_inj.mp (hz.trans (by decide)))
                        · exact c15 (Int32.toInt_inj.mp (hz.trans (by decide)))
                      · refine v_iload_n (i := 63) (j := 1) rfl rfl (?_ : ky_V _ _ _ 161 _ _ _ _)
                        refine v_iconst (v := 0) (i := 64) rfl (by decide) (?_ : ky_V _ _ _ 162 _ _ _ _)
                        refine v_bipush (v := 8) (i := 65) rfl (by decide) (?_ : ky_V _ _ _ 164 _ _ _ _)
                        refine cl_X12_65 (As := [.int p1, .int 0, .int 8]) rfl (i := 66) rfl rfl rfl (Nat.le_of_ble_eq_true rfl) (k_X12_in p1 0 8 ⟨_, rfl, (?_ : ky_V _ _ _ 167 _ [.int ((md_in p1 0 8))] _ _)⟩)
                        refine v_if_eq (tgt := 179) (i := 67) rfl (by decide) (fun c16 => ?_) (fun c16 => ?_)
                        · replace e := ky_ifT c16 e
                          refine v_iconst (v := (-1)) (i := 73) rfl (by decide) (?_ : ky_V _ _ _ 180 _ _ _ _)
                          refine v_iret (v := (-1)) (ty := .int) (i := 74) rfl rfl rfl ?_
                          obtain ⟨rfl, rfl⟩ := ky_leaf e
                          exact hr _ hmh1 frh1
                        · replace e := ky_ifF c16 e
                          refine v_aload_n (i := 68) (j := 0) rfl rfl (?_ : ky_V _ _ _ 171 _ _ _ _)
                          refine gf_X12_13 rfl (i := 69) rfl (md_0 hmh1) rfl (?_ : ky_V _ _ _ 174 _ _ _ _)
                          refine v_iload_n (i := 70) (j := 1) rfl rfl (?_ : ky_V _ _ _ 175 _ _ _ _)
                          obtain ⟨z17, e⟩ := ky_chkE e
                          refine v_iald (i := 71) rfl (md_1 hmh1) (ky_inb z17) (?_ : ky_V _ _ _ 176 _ (.int (q2 1 (Int32.toNatClampNeg p1)) :: _) _ _)
                          refine v_goto (tgt := 180) (i := 72) rfl (by decide) (?_ : ky_V _ _ _ 180 _ _ _ _)
                          refine v_iret (v := (q2 1 (Int32.toNatClampNeg p1))) (ty := .int) (i := 74) rfl rfl rfl ?_
                          obtain ⟨rfl, rfl⟩ := ky_leaf e
                          exact hr _ hmh1 frh1

def md_readNumber (N : Nat) (c : (Nat → Nat → Int32)) (p1 : Int32) (p2 : Int32) : Option ((Nat → Nat → Int32) × Int32) := ((md_number N c 0 p2).bind (fun zz => (fun q2 x3 => (if 0 ≤ x3 then (if ky_inB p1 2247 = true then (ky_let (bk_w q2 1 (Int32.toNatClampNeg p1) x3) (fun q8 => (if x3 < 0 then (some (q8, 0)) else (some (q8, 1))))) else none) else (if ky_inB p1 2247 = true then (ky_let (q2 1 (Int32.toNatClampNeg p1)) (fun x11 => (ky_let (bk_w q2 1 (Int32.toNatClampNeg p1) x11) (fun q13 => (if x3 < 0 then (some (q13, 0)) else (some (q13, 1))))))) else none))) zz.1 zz.2))
set_option maxRecDepth 20000 in
set_option maxHeartbeats 4000000 in
theorem k_X12_readNumber {G : ky_GW} {d : Nat} {h : ky_HP} {Q : ky_RS → ky_HP → Prop} {a : Nat} {c c9 : (Nat → Nat → Int32)} {r9 : Int32} {p1 : Int32} {p2 : Int32} (N : Nat) (hm : md_at G h a c) (e : md_readNumber N c p1 p2 = some (c9, r9)) (hr : ∀ h1, md_at G h1 a c9 → bk_fr a 13 h h1 → Q (.inl (some (.int r9))) h1) : ky_Call G (d + 3) M_X12_readNumber [.ref a, .int p1, .int p2] h Q := by
  refine ky_ofV (by decide +kernel) rfl ok_X12_readNumber (Nat.le_of_ble_eq_true rfl) ?_
  have fr : bk_fr a 13 h h := bk_fr.rf
  unfold md_readNumber at e
  refine (?_ : ky_V _ _ _ 0 [(0, .ref a), (1, .int p1), (2, .int p2)] [] _ _)
  refine v_aload_n (i := 0) (j := 0) rfl rfl (?_ : ky_V _ _ _ 1 _ _ _ _)
  refine v_iconst (v := 0) (i := 1) rfl (by decide) (?_ : ky_V _ _ _ 2 _ _ _ _)
  refine v_iload_n (i := 2) (j := 2) rfl rfl (?_ : ky_V _ _ _ 3 _ _ _ _)
  obtain ⟨⟨q2, x3⟩, g4, e⟩ := Option.bind_eq_some_iff.mp e
  refine cl_X12_109 (As := [.int 0, .int p2]) rfl (i := 3) rfl (md_0 hm) rfl rfl (Nat.le_of_ble_eq_true rfl) (k_X12_number N hm g4 (fun h1 hmh1 frh1 => ⟨_, rfl, (?_ : ky_V _ _ _ 6 _ [.int x3] _ _)⟩))
  have frh1 := fr.tr frh1
  refine v_istore_n (L' := [(0, .ref a), (1, .int p1), (2, .int p2), (3, .int x3)]) [1, 2, 3, 0] (i := 4) rfl (Nat.le_of_ble_eq_true rfl) rfl (?_ : ky_V _ _ _ 7 _ _ _ _)
  refine v_aload_n (i := 5) (j := 0) rfl rfl (?_ : ky_V _ _ _ 8 _ _ _ _)
  refine gf_X12_13 rfl (i := 6) rfl (md_0 hmh1) rfl (?_ : ky_V _ _ _ 11 _ _ _ _)
  refine v_iload_n (i := 7) (j := 1) rfl rfl (?_ : ky_V _ _ _ 12 _ _ _ _)
  refine v_iload_n (i := 8) (j := 3) rfl rfl (?_ : ky_V _ _ _ 13 _ _ _ _)
  refine v_if_ge (tgt := 25) (i := 9) rfl (by decide) (fun c5 => ?_) (fun c5 => ?_)
  · replace e := ky_ifT c5 e
    refine v_iload_n (i := 15) (j := 3) rfl rfl (?_ : ky_V _ _ _ 26 _ _ _ _)
    obtain ⟨z6, e⟩ := ky_chkE e
    refine v_iast (i := 16) rfl (md_1 hmh1) (ky_inb z6) ?_
    refine bk_st (B := md_B G a) hmh1 frh1 1 (Int32.toNatClampNeg p1) x3 (by decide) (fun h7 hmh7 frh7 => ?_)
    obtain ⟨q8, eq8⟩ : ∃ z, z = (bk_w q2 1 (Int32.toNatClampNeg p1) x3) := ⟨_, rfl⟩
    rw [← eq8] at hmh7
    replace e := ky_letE eq8 e
    refine (?_ : ky_V _ _ _ 27 _ _ _ _)
    refine v_iload_n (i := 17) (j := 3) rfl rfl (?_ : ky_V _ _ _ 28 _ _ _ _)
    refine v_if_lt (tgt := 35) (i := 18) rfl (by decide) (fun c9 => ?_) (fun c9 => ?_)
    · replace e := ky_ifT c9 e
      refine v_iconst (v := 0) (i := 21) rfl (by decide) (?_ : ky_V _ _ _ 36 _ _ _ _)
      refine v_iret (v := 0) (ty := .boolean) (i := 22) rfl rfl (by decide) ?_
      obtain ⟨rfl, rfl⟩ := ky_leaf e
      exact hr _ hmh7 frh7
    · replace e := ky_ifF c9 e
      refine v_iconst (v := 1) (i := 19) rfl (by decide) (?_ : ky_V _ _ _ 32 _ _ _ _)
      refine v_goto (tgt := 36) (i := 20) rfl (by decide) (?_ : ky_V _ _ _ 36 _ _ _ _)
      refine v_iret (v := 1) (ty := .boolean) (i := 22) rfl rfl (by decide) ?_
      obtain ⟨rfl, rfl⟩ := ky_leaf e
      exact hr _ hmh7 frh7
  · replace e := ky_ifF c5 e
    refine v_aload_n (i := 10) (j := 0) rfl rfl (?_ : ky_V _ _ _ 17 _ _ _ _)
    refine gf_X12_13 rfl (i := 11) rfl (md_0 hmh1) rfl (?_ : ky_V _ _ _ 20 _ _ _ _)
    refine v_iload_n (i := 12) (j := 1) rfl rfl (?_ : ky_V _ _ _ 21 _ _ _ _)
    obtain ⟨z10, e⟩ := ky_chkE e
    refine v_iald (i := 13) rfl (md_1 hmh1) (ky_inb z10) (?_ : ky_V _ _ _ 22 _ (.int (q2 1 (Int32.toNatClampNeg p1)) :: _) _ _)
    refine v_goto (tgt := 26) (i := 14) rfl (by decide) (?_ : ky_V _ _ _ 26 _ _ _ _)
    refine v_topi (fun x11 ex11 => ?_)
    replace e := ky_letE ex11 e
    refine v_iast (i := 16) rfl (md_1 hmh1) (ky_inb z10) ?_
    refine bk_st (B := md_B G a) hmh1 frh1 1 (Int32.toNatClampNeg p1) x11 (by decide) (fun h12 hmh12 frh12 => ?_)
    obtain ⟨q13, eq13⟩ : ∃ z, z = (bk_w q2 1 (Int32.toNatClampNeg p1) x11) := ⟨_, rfl⟩
    rw [← eq13] at hmh12
    replace e := ky_letE eq13 e
    refine (?_ : ky_V _ _ _ 27 _ _ _ _)
    refine v_iload_n (i := 17) (j := 3) rfl rfl (?_ : ky_V _ _ _ 28 _ _ _ _)
    refine v_if_lt (tgt := 35) (i := 18) rfl (by decide) (fun c14 => ?_) (fun c14 => ?_)
    · replace e := ky_ifT c14 e
      refine v_iconst (v := 0) (i := 21) rfl (by decide) (?_ : ky_V _ _ _ 36 _ _ _ _)
      refine v_iret (v := 0) (ty := .boolean) (i := 22) rfl rfl (by decide) ?_
      obtain ⟨rfl, rfl⟩ := ky_leaf e
      exact hr _ hmh12 frh12
    · replace e := ky_ifF c14 e
      refine v_iconst (v := 1) (i := 19) rfl (by decide) (?_ : ky_V _ _ _ 32 _ _ _ _)
      refine v_goto (tgt := 36) (i := 20) rfl (by decide) (?_ : ky_V _ _ _ 36 _ _ _ _)
      refine v_iret (v := 1) (ty := .boolean) (i := 22) rfl rfl (by decide) ?_
      obtain ⟨rfl, rfl⟩ := ky_leaf e
      exact hr _ hmh12 frh12

def md_readBears (N : Nat) (c : (Nat → Nat → Int32))  : Option ((Nat → Nat → Int32) × Int32) := ((md_cellTold N c).bind (fun zz => (fun q2 x3 => (if x3 < 0 then (some (q2, 0)) else ((md_readNumber N q2 ((45 + (3 * x3)) + 0) 9).bind (fun zz => (fun q7 x8 => (if x8 = 0 then (some (q7, 0)) else (some (q7, 1)))) zz.1 zz.2)))) zz.1 zz.2))
set_option maxRecDepth 20000 in
set_option maxHeartbeats 4000000 in
theorem k_X12_readBears {G : ky_GW} {d : Nat} {h : ky_HP} {Q : ky_RS → ky_HP → Prop} {a : Nat} {c c9 : (Nat → Nat → Int32)} {r9 : Int32}  (N : Nat) (hm : md_at G h a c) (e : md_readBears N c = some (c9, r9)) (hr : ∀ h1, md_at G h1 a c9 → bk_fr a 13 h h1 → Q (.inl (some (.int r9))) h1) : ky_Call G (d + 4) M_X12_readBears [.ref a] h Q := by
  refine ky_ofV (by decide +kernel) rfl ok_X12_readBears (Nat.le_of_ble_eq_true rfl) ?_
  have fr : bk_fr a 13 h h := bk_fr.rf
  unfold md_readBears at e
  refine (?_ : ky_V _ _ _ 0 [(0, .ref a)] [] _ _)
  refine v_aload_n (i := 0) (j := 0) rfl rfl (?_ : ky_V _ _ _ 1 _ _ _ _)
  obtain ⟨⟨q2, x3⟩, g4, e⟩ := Option.bind_eq_some_iff.mp e
  refine cl_X12_125 (As := []) rfl (i := 1) rfl (md_0 hm) rfl rfl (Nat.le_of_ble_eq_true rfl) (k_X12_cellTold N hm g4 (fun h1 hmh1 frh1 => ⟨_, rfl, (?_ : ky_V _ _ _ 4 _ [.int x3] _ _)⟩))
  have frh1 := fr.tr frh1
  refine v_istore_n (L' := [(0, .ref a), (1, .int x3)]) [1, 0] (i := 2) rfl (Nat.le_of_ble_eq_true rfl) rfl (?_ : ky_V _ _ _ 5 _ _ _ _)
  refine v_iload_n (i := 3) (j := 1) rfl rfl (?_ : ky_V _ _ _ 6 _ _ _ _)
  refine v_if_lt (tgt := 30) (i := 4) rfl (by decide) (fun c5 => ?_) (fun c5 => ?_)
  · replace e := ky_ifT c5 e
    refine v_iconst (v := 0) (i := 18) rfl (by decide) (?_ : ky_V _ _ _ 31 _ _ _ _)
    refine v_iret (v := 0) (ty := .boolean) (i := 19) rfl rfl (by decide) ?_
    obtain ⟨rfl, rfl⟩ := ky_leaf e
    exact hr _ hmh1 frh1
  · replace e := ky_ifF c5 e
    refine v_aload_n (i := 5) (j := 0) rfl rfl (?_ : ky_V _ _ _ 10 _ _ _ _)
    refine v_bipush (v := 45) (i := 6) rfl (by decide) (?_ : ky_V _ _ _ 12 _ _ _ _)
    refine v_iconst (v := 3) (i := 7) rfl (by decide) (?_ : ky_V _ _ _ 13 _ _ _ _)
    refine v_iload_n (i := 8) (j := 1) rfl rfl (?_ : ky_V _ _ _ 14 _ _ _ _)
    refine v_imul (i := 9) rfl (?_ : ky_V _ _ _ 15 _ _ _ _)
    refine v_iadd (i := 10) rfl (?_ : ky_V _ _ _ 16 _ _ _ _)
    refine v_iconst (v := 0) (i := 11) rfl (by decide) (?_ : ky_V _ _ _ 17 _ _ _ _)
    refine v_iadd (i := 12) rfl (?_ : ky_V _ _ _ 18 _ _ _ _)
    refine v_bipush (v := 9) (i := 13) rfl (by decide) (?_ : ky_V _ _ _ 20 _ _ _ _)
    obtain ⟨⟨q7, x8⟩, g9, e⟩ := Option.bind_eq_some_iff.mp e
    refine cl_X12_128 (As := [.int (((45 + (3 * x3)) + 0)), .int 9]) rfl (i := 14) rfl (md_0 hmh1) rfl rfl (Nat.le_of_ble_eq_true rfl) (k_X12_readNumber N hmh1 g9 (fun h6 hmh6 frh6 => ⟨_, rfl, (?_ : ky_V _ _ _ 23 _ [.int x8] _ _)⟩))
    have frh6 := frh1.tr frh6
    refine v_if_eq (tgt := 30) (i := 15) rfl (by decide) (fun c10 => ?_) (fun c10 => ?_)
    · replace e := ky_ifT c10 e
      refine v_iconst (v := 0) (i := 18) rfl (by decide) (?_ : ky_V _ _ _ 31 _ _ _ _)
      refine v_iret (v := 0) (ty := .boolean) (i := 19) rfl rfl (by decide) ?_
      obtain ⟨rfl, rfl⟩ := ky_leaf e
      exact hr _ hmh6 frh6
    · replace e := ky_ifF c10 e
      refine v_iconst (v := 1) (i := 16) rfl (by decide) (?_ : ky_V _ _ _ 27 _ _ _ _)
      refine v_goto (tgt := 31) (i := 17) rfl (by decide) (?_ : ky_V _ _ _ 31 _ _ _ _)
      refine v_iret (v := 1) (ty := .boolean) (i := 19) rfl rfl (by decide) ?_
      obtain ⟨rfl, rfl⟩ := ky_leaf e
      exact hr _ hmh6 frh6

def md_holdsLine_L23 (N : Nat) (k : (Nat → Nat → Int32) → Int32 → Int32 → Int32 → Int32 → Int32 → Int32 → Option ((Nat → Nat → Int32) × Int32)) : Nat → (Nat → Nat → Int32) → Int32 → Int32 → Int32 → Int32 → Int32 → Int32 → Option ((Nat → Nat → Int32) × Int32)
  | 0, _, _, _, _, _, _, _ => none
  | n + 1, c, p1, p2, p3, p4, p5, p6 => (if ky_inB (p5 + 3) 2247 = true then (if (c 1 (Int32.toNatClampNeg (p5 + 3))) ≤ p6 then (k c p1 p2 p3 p4 p5 p6) else (if ky_inB (598 + (2 * p6)) 2247 = true then (ky_let (c 1 (Int32.toNatClampNeg (598 + (2 * p6)))) (fun x4 => (if (7 : Int32) < x4 then (if x4 = (11 : Int32) then (if ky_inB (p4 - 1) 400 = true then (ky_let (1 - (c 8 (Int32.toNatClampNeg (p4 - 1)))) (fun x116 => (ky_let (bk_w c 8 (Int32.toNatClampNeg (p4 - 1)) x116) (fun q118 => (ky_let (p6 + 1) (fun x119 => (md_holdsLine_L23 N k n q118 p1 p2 p3 p4 p5 x119))))))) else none) else (ky_let (p4 + (-1)) (fun x7 => (if ky_inB (x7 - 1) 400 = true then (ky_let (c 8 (Int32.toNatClampNeg (x7 - 1))) (fun x9 => (if ky_inB x7 400 = true then (ky_let (c 8 (Int32.toNatClampNeg x7)) (fun x11 => (if x4 = (9 : Int32) then (if x11 ≤ x9 then (if x4 = (8 : Int32) then (ky_let (x9 + x11) (fun x99 => (ky_let (bk_w c 8 (Int32.toNatClampNeg (x7 - 1)) x99) (fun q101 => (ky_let (p6 + 1) (fun x102 => (md_holdsLine_L23 N k n q101 p1 p2 p3 x7 p5 x102))))))) else (if (0 : Int32) = 0 then (ky_let (bk_w c 8 (Int32.toNatClampNeg (x7 - 1)) 0) (fun q94 => (ky_let (p6 + 1) (fun x95 => (md_holdsLine_L23 N k n q94 p1 p2 p3 x7 p5 x95))))) else (ky_let (bk_w c 8 (Int32.toNatClampNeg (x7 - 1)) 1) (fun q97 => (ky_let (p6 + 1) (fun x98 => (md_holdsLine_L23 N k n q97 p1 p2 p3 x7 p5 x98))))))) else (if x4 = (8 : Int32) then (ky_let (x9 + x11) (fun x111 => (ky_let (bk_w c 8 (Int32.toNatClampNeg (x7 - 1)) x111) (fun q113 => (ky_let (p6 + 1) (fun x114 => (md_holdsLine_L23 N k n q113 p1 p2 p3 x7 p5 x114))))))) else (if (1 : Int32) = 0 then (ky_let (bk_w c 8 (Int32.toNatClampNeg (x7 - 1)) 0) (fun q106 => (ky_let (p6 + 1) (fun x107 => (md_holdsLine_L23 N k n q106 p1 p2 p3 x7 p5 x107))))) else (ky_let (bk_w c 8 (Int32.toNatClampNeg (x7 - 1)) 1) (fun q109 => (ky_let (p6 + 1) (fun x110 => (md_holdsLine_L23 N k n q109 p1 p2 p3 x7 p5 x110)))))))) else (if x4 = (10 : Int32) then (if x9 ≤ x11 then (if x4 = (8 : Int32) then (ky_let (x9 + x11) (fun x74 => (ky_let (bk_w c 8 (Int32.toNatClampNeg (x7 - 1)) x74) (fun q76 => (ky_let (p6 + 1) (fun x77 => (md_holdsLine_L23 N k n q76 p1 p2 p3 x7 p5 x77))))))) else (if (0 : Int32) = 0 then (ky_let (bk_w c 8 (Int32.toNatClampNeg (x7 - 1)) 0) (fun q69 => (ky_let (p6 + 1) (fun x70 => (md_holdsLine_L23 N k n q69 p1 p2 p3 x7 p5 x70))))) else (ky_let (bk_w c 8 (Int32.toNatClampNeg (x7 - 1)) 1) (fun q72 => (ky_let (p6 + 1) (fun x73 => (md_holdsLine_L23 N k n q72 p1 p2 p3 x7 p5 x73))))))) else (if x4 = (8 : Int32) then (ky_let (x9 + x11) (fun x86 => (ky_let (bk_w c 8 (Int32.toNatClampNeg (x7 - 1)) x86) (fun q88 => (ky_let (p6 + 1) (fun x89 => (md_holdsLine_L23 N k n q88 p1 p2 p3 x7 p5 x89))))))) else (if (1 : Int32) = 0 then (ky_let (bk_w c 8 (Int32.toNatClampNeg (x7 - 1)) 0) (fun q81 => (ky_let (p6 + 1) (fun x82 => (md_holdsLine_L23 N k n q81 p1 p2 p3 x7 p5 x82))))) else (ky_let (bk_w c 8 (Int32.toNatClampNeg (x7 - 1)) 1) (fun q84 => (ky_let (p6 + 1) (fun x85 => (md_holdsLine_L23 N k n q84 p1 p2 p3 x7 p5 x85)))))))) else (if x4 = (12 : Int32) then (if (x9 + x11) = (2 : Int32) then (if x4 = (8 : Int32) then (ky_let (x9 + x11) (fun x61 => (ky_let (bk_w c 8 (Int32.toNatClampNeg (x7 - 1)) x61) (fun q63 => (ky_let (p6 + 1) (fun x64 => (md_holdsLine_L23 N k n q63 p1 p2 p3 x7 p5 x64))))))) else (if (1 : Int32) = 0 then (ky_let (bk_w c 8 (Int32.toNatClampNeg (x7 - 1)) 0) (fun q56 => (ky_let (p6 + 1) (fun x57 => (md_holdsLine_L23 N k n q56 p1 p2 p3 x7 p5 x57))))) else (ky_let (bk_w c 8 (Int32.toNatClampNeg (x7 - 1)) 1) (fun q59 => (ky_let (p6 + 1) (fun x60 => (md_holdsLine_L23 N k n q59 p1 p2 p3 x7 p5 x60))))))) else (if x4 = (8 : Int32) then (ky_let (x9 + x11) (fun x49 => (ky_let (bk_w c 8 (Int32.toNatClampNeg (x7 - 1)) x49) (fun q51 => (ky_let (p6 + 1) (fun x52 => (md_holdsLine_L23 N k n q51 p1 p2 p3 x7 p5 x52))))))) else (if (0 : Int32) = 0 then (ky_let (bk_w c 8 (Int32.toNatClampNeg (x7 - 1)) 0) (fun q44 => (ky_let (p6 + 1) (fun x45 => (md_holdsLine_L23 N k n q44 p1 p2 p3 x7 p5 x45))))) else (ky_let (bk_w c 8 (Int32.toNatClampNeg (x7 - 1)) 1) (fun q47 => (ky_let (p6 + 1) (fun x48 => (md_holdsLine_L23 N k n q47 p1 p2 p3 x7 p5 x48)))))))) else (if (x9 + x11) ≤ 0 then (if x4 = (8 : Int32) then (ky_let (x9 + x11) (fun x24 => (ky_let (bk_w c 8 (Int32.toNatClampNeg (x7 - 1)) x24) (fun q26 => (ky_let (p6 + 1) (fun x27 => (md_holdsLine_L23 N k n q26 p1 p2 p3 x7 p5 x27))))))) else (if (0 : Int32) = 0 then (ky_let (bk_w c 8 (Int32.toNatClampNeg (x7 - 1)) 0) (fun q19 => (ky_let (p6 + 1) (fun x20 => (md_holdsLine_L23 N k n q19 p1 p2 p3 x7 p5 x20))))) else (ky_let (bk_w c 8 (Int32.toNatClampNeg (x7 - 1)) 1) (fun q22 => (ky_let (p6 + 1) (fun x23 => (md_holdsLine_L23 N k n q22 p1 p2 p3 x7 p5 x23))))))) else (if x4 = (8 : Int32) then (ky_let (x9 + x11) (fun x36 => (ky_let (bk_w c 8 (Int32.toNatClampNeg (x7 - 1)) x36) (fun q38 => (ky_let (p6 + 1) (fun x39 => (md_holdsLine_L23 N k n q38 p1 p2 p3 x7 p5 x39))))))) else (if (1 : Int32) = 0 then (ky_let (bk_w c 8 (Int32.toNatClampNeg (x7 - 1)) 0) (fun q31 => (ky_let (p6 + 1) (fun x32 => (md_holdsLine_L23 N k n q31 p1 p2 p3 x7 p5 x32))))) else (ky_let (bk_w c 8 (Int32.toNatClampNeg (x7 - 1)) 1) (fun q34 => (ky_let (p6 + 1) (fun x35 => (md_holdsLine_L23 N k n q34 p1 p2 p3 x7 p5 x35))))))))))))) else none))) else none)))) else (if ky_inB ((598 + (2 * p6)) + 1) 2247 = true then ((md_factOf N c x4 (c 1 (Int32.toNatClampNeg ((598 + (2 * p6)) + 1))) p2 p3).bind (fun zz => (fun q122 x123 => (if ky_inB p4 400 = true then (ky_let (bk_w q122 8 (Int32.toNatClampNeg p4) x123) (fun q127 => (ky_let (p4 + 1) (fun x128 => (ky_let (p6 + 1) (fun x129 => (md_holdsLine_L23 N k n q127 p1 p2 p3 x128 p5 x129))))))) else none)) zz.1 zz.2)) else none)))) else none)) else none)
set_option maxRecDepth 20000 in
set_option maxHeartbeats 4000000 in
theorem lv_X12_holdsLine_23 {G : ky_GW} {d : Nat} {h0 : ky_HP} {Q : ky_RS → ky_HP → Prop} {a : Nat} {c9 : (Nat → Nat → Int32)} {r9 : Int32} (N : Nat) (k : (Nat → Nat → Int32) → Int32 → Int32 → Int32 → Int32 → Int32 → Int32 → Option ((Nat → Nat → Int32) × Int32)) (hr : ∀ h1, md_at G h1 a c9 → bk_fr a 13 h0 h1 → Q (.inl (some (.int r9))) h1)
    (hk : ∀ (h : ky_HP) (c : (Nat → Nat → Int32)) (p1 : Int32) (p2 : Int32) (p3 : Int32) (p4 : Int32) (p5 : Int32) (p6 : Int32), md_at G h a c → bk_fr a 13 h0 h → k c p1 p2 p3 p4 p5 p6 = some (c9, r9) → ky_V G (d + 1) M_X12_holdsLine 271 [(0, .ref a), (1, .int p1), (2, .int p2), (3, .int p3), (4, .int p4), (5, .int p5), (6, .int p6)] [] h Q) :
    ∀ (n : Nat) (h : ky_HP) (c : (Nat → Nat → Int32)) (p1 : Int32) (p2 : Int32) (p3 : Int32) (p4 : Int32) (p5 : Int32) (p6 : Int32), md_at G h a c → bk_fr a 13 h0 h → md_holdsLine_L23 N k n c p1 p2 p3 p4 p5 p6 = some (c9, r9) → ky_V G (d + 1) M_X12_holdsLine 23 [(0, .ref a), (1, .int p1), (2, .int p2), (3, .int p3), (4, .int p4), (5, .int p5), (6, .int p6)] [] h Q := by
  intro n
  induction n with
  | zero => intro h c p1 p2 p3 p4 p5 p6 hm fr e; cases e
  | succ n ih =>
    intro h c p1 p2 p3 p4 p5 p6 hm fr e
    rw [md_holdsLine_L23] at e
    refine v_iload (i := 15) (j := 6) rfl rfl (?_ : ky_V _ _ _ 25 _ _ _ _)
    refine v_aload_n (i := 16) (j := 0) rfl rfl (?_ : ky_V _ _ _ 26 _ _ _ _)
    refine gf_X12_13 rfl (i := 17) rfl (md_0 hm) rfl (?_ : ky_V _ _ _ 29 _ _ _ _)
    refine v_iload (i := 18) (j := 5) rfl rfl (?_ : ky_V _ _ _ 31 _ _ _ _)
    refine v_iconst (v := 3) (i := 19) rfl (by decide) (?_ : ky_V _ _ _ 32 _ _ _ _)
    refine v_iadd (i := 20) rfl (?_ : ky_V _ _ _ 33 _ _ _ _)
    obtain ⟨z1, e⟩ := ky_chkE e
    refine v_iald (i := 21) rfl (md_1 hm) (ky_inb z1) (?_ : ky_V _ _ _ 34 _ (.int (c 1 (Int32.toNatClampNeg (p5 + 3))) :: _) _ _)
    refine v_icmp_ge (tgt := 271) (i := 22) rfl (by decide) (fun c2 => ?_) (fun c2 => ?_)
    · replace e := ky_ifT c2 e
      exact hk h c p1 p2 p3 p4 p5 p6 hm fr e
    · replace e := ky_ifF c2 e
      refine v_aload_n (i := 23) (j := 0) rfl rfl (?_ : ky_V _ _ _ 38 _ _ _ _)
      refine gf_X12_13 rfl (i := 24) rfl (md_0 hm) rfl (?_ : ky_V _ _ _ 41 _ _ _ _)
      refine v_sipush (v := 598) (i := 25) rfl (by decide) (?_ : ky_V _ _ _ 44 _ _ _ _)
      refine v_iconst (v := 2) (i := 26) rfl (by decide) (?_ : ky_V _ _ _ 45 _ _ _ _)
      refine v_iload (i := 27) (j := 6) rfl rfl (?_ : ky_V _ _ _ 47 _ _ _ _)
      refine v_imul (i := 28) rfl (?_ : ky_V _ _ _ 48 _ _ _ _)
      refine v_iadd (i := 29) rfl (?_ : ky_V _ _ _ 49 _ _ _ _)
      obtain ⟨z3, e⟩ := ky_chkE e
      refine v_iald (i := 30) rfl (md_1 hm) (ky_inb z3) (?_ : ky_V _ _ _ 50 _ (.int (c 1 (Int32.toNatClampNeg (598 + (2 * p6)))) :: _) _ _)
      refine v_topi (fun x4 ex4 => ?_)
      replace e := ky_letE ex4 e
      refine v_istore (L' := [(0, .ref a), (1, .int p1), (2, .int p2), (3, .int p3), (4, .int p4), (5, .int p5), (6, .int p6), (7, .int x4)]) [1, 2, 3, 4, 5, 6, 7, 0] (i := 31) rfl (Nat.le_of_ble_eq_true rfl) rfl (?_ : ky_V _ _ _ 52 _ _ _ _)
      refine v_iload (i := 32) (j := 7) rfl rfl (?_ : ky_V _ _ _ 54 _ _ _ _)
      refine v_bipush (v := 7) (i := 33) rfl (by decide) (?_ : ky_V _ _ _ 56 _ _ _ _)
      refine v_icmp_gt (tgt := 95) (i := 34) rfl (by decide) (fun c5 => ?_) (fun c5 => ?_)
      · replace e := ky_ifT c5 e
        refine v_iload (i := 56) (j := 7) rfl rfl (?_ : ky_V _ _ _ 97 _ _ _ _)
        refine v_bipush (v := 11) (i := 57) rfl (by decide) (?_ : ky_V _ _ _ 99 _ _ _ _)
        refine v_icmp_ne (tgt := 125) (i := 58) rfl (by decide) (fun c6 => ?_) (fun c6 => ?_)
        · replace e := ky_ifF c6 e
          obtain ⟨x7, ex7⟩ : ∃ z : Int32, z = p4 + (-1) := ⟨_, rfl⟩
          replace e := ky_letE ex7 e
          refine v_iinc (v := x7) (j := 4) (L' := [(0, .ref a), (1, .int p1), (2, .int p2), (3, .int p3), (4, .int x7), (5, .int p5), (6, .int p6), (7, .int x4)]) [1, 2, 3, 4, 0, 5, 6, 7] (i := 74) rfl rfl (by rw [ex7]; rfl) (Nat.le_of_ble_eq_true rfl) rfl (?_ : ky_V _ _ _ 128 _ _ _ _)
          refine v_aload_n (i := 75) (j := 0) rfl rfl (?_ : ky_V _ _ _ 129 _ _ _ _)
          refine gf_X12_39 rfl (i := 76) rfl (md_0 hm) rfl (?_ : ky_V _ _ _ 132 _ _ _ _)
          refine v_iload (i := 77) (j := 4) rfl rfl (?_ : ky_V _ _ _ 134 _ _ _ _)
          refine v_iconst (v := 1) (i := 78) rfl (by decide) (?_ : ky_V _ _ _ 135 _ _ _ _)
          refine v_isub (i := 79) rfl (?_ : ky_V _ _ _ 136 _ _ _ _)
          obtain ⟨z8, e⟩ := ky_chkE e
          refine v_iald (i := 80) rfl (md_8 hm) (ky_inb z8) (?_ : ky_V _ _ _ 137 _ (.int (c 8 (Int32.toNatClampNeg (x7 - 1))) :: _) _ _)
          refine v_topi (fun x9 ex9 => ?_)
          replace e := ky_letE ex9 e
          refine v_istore (L' := [(0, .ref a), (1, .int p1), (2, .int p2), (3, .int p3), (4, .int x7), (5, .int p5), (6, .int p6), (7, .int x4), (8, .int x9)]) [1, 2, 3, 4, 5, 6, 7, 8, 0] (i := 81) rfl (Nat.le_of_ble_eq_true rfl) rfl (?_ : ky_V _ _ _ 139 _ _ _ _)
          refine v_aload_n (i := 82) (j := 0) rfl rfl (?_ : ky_V _ _ _ 140 _ _ _ _)
          refine gf_X12_39 rfl (i := 83) rfl (md_0 hm) rfl (?_ : ky_V _ _ _ 143 _ _ _ _)
          refine v_iload (i := 84) (j := 4) rfl rfl (?_ : ky_V _ _ _ 145 _ _ _ _)
          obtain ⟨z10, e⟩ := ky_chkE e
          refine v_iald (i := 85) rfl (md_8 hm) (ky_inb z10) (?_ : ky_V _ _ _ 146 _ (.int (c 8 (Int32.toNatClampNeg x7)) :: _) _ _)
          refine v_topi (fun x11 ex11 => ?_)
          replace e := ky_letE ex11 e
          refine v_istore (L' := [(0, .ref a), (1, .int p1), (2, .int p2), (3, .int p3), (4, .int x7), (5, .int p5), (6, .int p6), (7, .int x4), (8, .int x9), (9, .int x11)]) [1, 2, 3, 4, 5, 6, 7, 8, 9, 0] (i := 86) rfl (Nat.le_of_ble_eq_true rfl) rfl (?_ : ky_V _ _ _ 148 _ _ _ _)
          refine v_iload (i := 87) (j := 7) rfl rfl (?_ : ky_V _ _ _ 150 _ _ _ _)
          refine v_bipush (v := 9) (i := 88) rfl (by decide) (?_ : ky_V _ _ _ 152 _ _ _ _)
          refine v_icmp_ne (tgt := 170) (i := 89) rfl (by decide) (fun c12 => ?_) (fun c12 => ?_)
          · replace e := ky_ifF c12 e
            refine v_iload (i := 97) (j := 7) rfl rfl (?_ : ky_V _ _ _ 172 _ _ _ _)
            refine v_bipush (v := 10) (i := 98) rfl (by decide) (?_ : ky_V _ _ _ 174 _ _ _ _)
            refine v_icmp_ne (tgt := 192) (i := 99) rfl (by decide) (fun c13 => ?_) (fun c13 => ?_)
            · replace e := ky_ifF c13 e
              refine v_iload (i := 107) (j := 7) rfl rfl (?_ : ky_V _ _ _ 194 _ _ _ _)
              refine v_bipush (v := 12) (i := 108) rfl (by decide) (?_ : ky_V _ _ _ 196 _ _ _ _)
              refine v_icmp_ne (tgt := 216) (i := 109) rfl (by decide) (fun c14 => ?_) (fun c14 => ?_)
              · replace e := ky_ifF c14 e
                refine v_iload (i := 119) (j := 8) rfl rfl (?_ : ky_V _ _ _ 218 _ _ _ _)
                refine v_iload (i := 120) (j := 9) rfl rfl (?_ : ky_V _ _ _ 220 _ _ _ _)
                refine v_iadd (i := 121) rfl (?_ : ky_V _ _ _ 221 _ _ _ _)
                refine v_if_le (tgt := 228) (i := 122) rfl (by decide) (fun c15 => ?_) (fun c15 => ?_)
                · replace e := ky_ifT c15 e
                  refine v_iconst (v := 0) (i := 125) rfl (by decide) (?_ : ky_V _ _ _ 229 _ _ _ _)
                  refine v_istore (L' := [(0, .ref a), (1, .int p1), (2, .int p2), (3, .int p3), (4, .int x7), (5, .int p5), (6, .int p6), (7, .int x4), (8, .int x9), (9, .int x11), (10, .int 0)]) [1, 2, 3, 4, 5, 6, 7, 8, 9, 10, 0] (i := 126) rfl (Nat.le_of_ble_eq_true rfl) rfl (?_ : ky_V _ _ _ 231 _ _ _ _)
                  refine v_aload_n (i := 127) (j := 0) rfl rfl (?_ : ky_V _ _ _ 232 _ _ _ _)
                  refine gf_X12_39 rfl (i := 128) rfl (md_0 hm) rfl (?_ : ky_V _ _ _ 235 _ _ _ _)
                  refine v_iload (i := 129) (j := 4) rfl rfl (?_ : ky_V _ _ _ 237 _ _ _ _)
                  refine v_iconst (v := 1) (i := 130) rfl (by decide) (?_ : ky_V _ _ _ 238 _ _ _ _)
                  refine v_isub (i := 131) rfl (?_ : ky_V _ _ _ 239 _ _ _ _)
                  refine v_iload (i := 132) (j := 7) rfl rfl (?_ : ky_V _ _ _ 241 _ _ _ _)
                  refine v_bipush (v := 8) (i := 133) rfl (by decide) (?_ : ky_V _ _ _ 243 _ _ _ _)
                  refine v_icmp_ne (tgt := 254) (i := 134) rfl (by decide) (fun c16 => ?_) (fun c16 => ?_)
                  · replace e := ky_ifF c16 e
                    refine v_iload (i := 139) (j := 10) rfl rfl (?_ : ky_V _ _ _ 256 _ _ _ _)
                    refine v_if_eq (tgt := 263) (i := 140) rfl (by decide) (fun c17 => ?_) (fun c17 => ?_)
                    · replace e := ky_ifT c17 e
                      refine v_iconst (v := 0) (i := 143) rfl (by decide) (?_ : ky_V _ _ _ 264 _ _ _ _)
                      refine v_iast (i := 144) rfl (md_8 hm) (ky_inb z8) ?_
                      refine bk_st (B := md_B G a) hm fr 8 (Int32.toNatClampNeg (x7 - 1)) 0 (by decide) (fun h18 hmh18 frh18 => ?_)
                      obtain ⟨q19, eq19⟩ : ∃ z, z = (bk_w c 8 (Int32.toNatClampNeg (x7 - 1)) 0) := ⟨_, rfl⟩
                      rw [← eq19] at hmh18
                      replace e := ky_letE eq19 e
                      refine (?_ : ky_V _ _ _ 265 _ _ _ _)
                      obtain ⟨x20, ex20⟩ : ∃ z : Int32, z = p6 + 1 := ⟨_, rfl⟩
                      replace e := ky_letE ex20 e
                      refine v_iinc (v := x20) (j := 6) (L' := [(0, .ref a), (1, .int p1), (2, .int p2), (3, .int p3), (4, .int x7), (5, .int p5), (6, .int x20), (7, .int x4), (8, .int x9), (9, .int x11), (10, .int 0)]) [1, 2, 3, 4, 5, 6, 0, 7, 8, 9, 10] (i := 145) rfl rfl (by rw [ex20]; rfl) (Nat.le_of_ble_eq_true rfl) rfl (?_ : ky_V _ _ _ 268 _ _ _ _)
                      refine v_goto (tgt := 23) (i := 146) rfl (by decide) (?_ : ky_V _ _ _ 23 _ _ _ _)
                      refine ky_loc (L' := [(0, .ref a), (1, .int p1), (2, .int p2), (3, .int p3), (4, .int x7), (5, .int p5), (6, .int x20)]) (by simp) ?_
                      exact ih h18 q19 p1 p2 p3 x7 p5 x20 hmh18 frh18 e
                    · replace e := ky_ifF c17 e
                      refine v_iconst (v := 1) (i := 141) rfl (by decide) (?_ : ky_V _ _ _ 260 _ _ _ _)
                      refine v_goto (tgt := 264) (i := 142) rfl (by decide) (?_ : ky_V _ _ _ 264 _ _ _ _)
                      refine v_iast (i := 144) rfl (md_8 hm) (ky_inb z8) ?_
                      refine bk_st (B := md_B G a) hm fr 8 (Int32.toNatClampNeg (x7 - 1)) 1 (by decide) (fun h21 hmh21 frh21 => ?_)
                      obtain ⟨q22, eq22⟩ : ∃ z, z = (bk_w c 8 (Int32.toNatClampNeg (x7 - 1)) 1) := ⟨_, rfl⟩
                      rw [← eq22] at hmh21
                      replace e := ky_letE eq22 e
                      refine (?_ : ky_V _ _ _ 265 _ _ _ _)
                      obtain ⟨x23, ex23⟩ : ∃ z : Int32, z = p6 + 1 := ⟨_, rfl⟩
                      replace e := ky_letE ex23 e
                      refine v_iinc (v := x23) (j := 6) (L' := [(0, .ref a), (1, .int p1), (2, .int p2), (3, .int p3), (4, .int x7), (5, .int p5), (6, .int x23), (7, .int x4), (8, .int x9), (9, .int x11), (10, .int 0)]) [1, 2, 3, 4, 5, 6, 0, 7, 8, 9, 10] (i := 145) rfl rfl (by rw [ex23]; rfl) (Nat.le_of_ble_eq_true rfl) rfl (?_ : ky_V _ _ _ 268 _ _ _ _)
                      refine v_goto (tgt := 23) (i := 146) rfl (by decide) (?_ : ky_V _ _ _ 23 _ _ _ _)
                      refine ky_loc (L' := [(0, .ref a), (1, .int p1), (2, .int p2), (3, .int p3), (4, .int x7), (5, .int p5), (6, .int x23)]) (by simp) ?_
                      exact ih h21 q22 p1 p2 p3 x7 p5 x23 hmh21 frh21 e
                  · replace e := ky_ifT c16 e
                    refine v_iload (i := 135) (j := 8) rfl rfl (?_ : ky_V _ _ _ 248 _ _ _ _)
                    refine v_iload (i := 136) (j := 9) rfl rfl (?_ : ky_V _ _ _ 250 _ _ _ _)
                    refine v_iadd (i := 137) rfl (?_ : ky_V _ _ _ 251 _ _ _ _)
                    refine v_goto (tgt := 264) (i := 138) rfl (by decide) (?_ : ky_V _ _ _ 264 _ _ _ _)
                    refine v_topi (fun x24 ex24 => ?_)
                    replace e := ky_letE ex24 e
                    refine v_iast (i := 144) rfl (md_8 hm) (ky_inb z8) ?_
                    refine bk_st (B := md_B G a) hm fr 8 (Int32.toNatClampNeg (x7 - 1)) x24 (by decide) (fun h25 hmh25 frh25 => ?_)
                    obtain ⟨q26, eq26⟩ : ∃ z, z = (bk_w c 8 (Int32.toNatClampNeg (x7 - 1)) x24) := ⟨_, rfl⟩
                    rw [← eq26] at hmh25
                    replace e := ky_letE eq26 e
                    refine (?_ : ky_V _ _ _ 265 _ _ _ _)
                    obtain ⟨x27, ex27⟩ : ∃ z : Int32, z = p6 + 1 := ⟨_, rfl⟩
                    replace e := ky_letE ex27 e
                    refine v_iinc (v := x27) (j := 6) (L' := [(0, .ref a), (1, .int p1), (2, .int p2), (3, .int p3), (4, .int x7), (5, .int p5), (6, .int x27), (7, .int x4), (8, .int x9), (9, .int x11), (10, .int 0)]) [1, 2, 3, 4, 5, 6, 0, 7, 8, 9, 10] (i := 145) rfl rfl (by rw [ex27]; rfl) (Nat.le_of_ble_eq_true rfl) rfl (?_ : ky_V _ _ _ 268 _ _ _ _)
                    refine v_goto (tgt := 23) (i := 146) rfl (by decide) (?_ : ky_V _ _ _ 23 _ _ _ _)
                    refine ky_loc (L' := [(0, .ref a), (1, .int p1), (2, .int p2), (3, .int p3), (4, .int x7), (5, .int p5), (6, .int x27)]) (by simp) ?_
                    exact ih h25 q26 p1 p2 p3 x7 p5 x27 hmh25 frh25 e
                · replace e := ky_ifF c15 e
                  refine v_iconst (v := 1) (i := 123) rfl (by decide) (?_ : ky_V _ _ _ 225 _ _ _ _)
                  refine v_goto (tgt := 229) (i := 124) rfl (by decide) (?_ : ky_V _ _ _ 229 _ _ _ _)
                  refine v_istore (L' := [(0, .ref a), (1, .int p1), (2, .int p2), (3, .int p3), (4, .int x7), (5, .int p5), (6, .int p6), (7, .int x4), (8, .int x9), (9, .int x11), (10, .int 1)]) [1, 2, 3, 4, 5, 6, 7, 8, 9, 10, 0] (i := 126) rfl (Nat.le_of_ble_eq_true rfl) rfl (?_ : ky_V _ _ _ 231 _ _ _ _)
                  refine v_aload_n (i := 127) (j := 0) rfl rfl (?_ : ky_V _ _ _ 232 _ _ _ _)
                  refine gf_X12_39 rfl (i := 128) rfl (md_0 hm) rfl (?_ : ky_V _ _ _ 235 _ _ _ _)
                  refine v_iload (i := 129) (j := 4) rfl rfl (?_ : ky_V _ _ _ 237 _ _ _ _)
                  refine v_iconst (v := 1) (i := 130) rfl (by decide) (?_ : ky_V _ _ _ 238 _ _ _ _)
                  refine v_isub (i := 131) rfl (?_ : ky_V _ _ _ 239 _ _ _ _)
                  refine v_iload (i := 132) (j := 7) rfl rfl (?_ : ky_V _ _ _ 241 _ _ _ _)
                  refine v_bipush (v := 8) (i := 133) rfl (by decide) (?_ : ky_V _ _ _ 243 _ _ _ _)
                  refine v_icmp_ne (tgt := 254) (i := 134) rfl (by decide) (fun c28 => ?_) (fun c28 => ?_)
                  · replace e := ky_ifF c28 e
                    refine v_iload (i := 139) (j := 10) rfl rfl (?_ : ky_V _ _ _ 256 _ _ _ _)
                    refine v_if_eq (tgt := 263) (i := 140) rfl (by decide) (fun c29 => ?_) (fun c29 => ?_)
                    · replace e := ky_ifT c29 e
                      refine v_iconst (v := 0) (i := 143) rfl (by decide) (?_ : ky_V _ _ _ 264 _ _ _ _)
                      refine v_iast (i := 144) rfl (md_8 hm) (ky_inb z8) ?_
                      refine bk_st (B := md_B G a) hm fr 8 (Int32.toNatClampNeg (x7 - 1)) 0 (by decide) (fun h30 hmh30 frh30 => ?_)
                      obtain ⟨q31, eq31⟩ : ∃ z, z = (bk_w c 8 (Int32.toNatClampNeg (x7 - 1)) 0) := ⟨_, rfl⟩
                      rw [← eq31] at hmh30
                      replace e := ky_letE eq31 e
                      refine (?_ : ky_V _ _ _ 265 _ _ _ _)
                      obtain ⟨x32, ex32⟩ : ∃ z : Int32, z = p6 + 1 := ⟨_, rfl⟩
                      replace e := ky_letE ex32 e
                      refine v_iinc (v := x32) (j := 6) (L' := [(0, .ref a), (1, .int p1), (2, .int p2), (3, .int p3), (4, .int x7), (5, .int p5), (6, .int x32), (7, .int x4), (8, .int x9), (9, .int x11), (10, .int 1)]) [1, 2, 3, 4, 5, 6, 0, 7, 8, 9, 10] (i := 145) rfl rfl (by rw [ex32]; rfl) (Nat.le_of_ble_eq_true rfl) rfl (?_ : ky_V _ _ _ 268 _ _ _ _)
                      refine v_goto (tgt := 23) (i := 146) rfl (by decide) (?_ : ky_V _ _ _ 23 _ _ _ _)
                      refine ky_loc (L' := [(0, .ref a), (1, .int p1), (2, .int p2), (3, .int p3), (4, .int x7), (5, .int p5), (6, .int x32)]) (by simp) ?_
                      exact ih h30 q31 p1 p2 p3 x7 p5 x32 hmh30 frh30 e
                    · replace e := ky_ifF c29 e
                      refine v_iconst (v := 1) (i := 141) rfl (by decide) (?_ : ky_V _ _ _ 260 _ _ _ _)
                      refine v_goto (tgt := 264) (i := 142) rfl (by decide) (?_ : ky_V _ _ _ 264 _ _ _ _)
                      refine v_iast (i := 144) rfl (md_8 hm) (ky_inb z8) ?_
                      refine bk_st (B := md_B G a) hm fr 8 (Int32.toNatClampNeg (x7 - 1)) 1 (by decide) (fun h33 hmh33 frh33 => ?_)
                      obtain ⟨q34, eq34⟩ : ∃ z, z = (bk_w c 8 (Int32.toNatClampNeg (x7 - 1)) 1) := ⟨_, rfl⟩
                      rw [← eq34] at hmh33
                      replace e := ky_letE eq34 e
                      refine (?_ : ky_V _ _ _ 265 _ _ _ _)
                      obtain ⟨x35, ex35⟩ : ∃ z : Int32, z = p6 + 1 := ⟨_, rfl⟩
                      replace e := ky_letE ex35 e
                      refine v_iinc (v := x35) (j := 6) (L' := [(0, .ref a), (1, .int p1), (2, .int p2), (3, .int p3), (4, .int x7), (5, .int p5), (6, .int x35), (7, .int x4), (8, .int x9), (9, .int x11), (10, .int 1)]) [1, 2, 3, 4, 5, 6, 0, 7, 8, 9, 10] (i := 145) rfl rfl (by rw [ex35]; rfl) (Nat.le_of_ble_eq_true rfl) rfl (?_ : ky_V _ _ _ 268 _ _ _ _)
                      refine v_goto (tgt := 23) (i := 146) rfl (by decide) (?_ : ky_V _ _ _ 23 _ _ _ _)
                      refine ky_loc (L' := [(0, .ref a), (1, .int p1), (2, .int p2), (3, .int p3), (4, .int x7), (5, .int p5), (6, .int x35)]) (by simp) ?_
                      exact ih h33 q34 p1 p2 p3 x7 p5 x35 hmh33 frh33 e
                  · replace e := ky_ifT c28 e
                    refine v_iload (i := 135) (j := 8) rfl rfl (?_ : ky_V _ _ _ 248 _ _ _ _)
                    refine v_iload (i := 136) (j := 9) rfl rfl (?_ : ky_V _ _ _ 250 _ _ _ _)
                    refine v_iadd (i := 137) rfl (?_ : ky_V _ _ _ 251 _ _ _ _)
                    refine v_goto (tgt := 264) (i := 138) rfl (by decide) (?_ : ky_V _ _ _ 264 _ _ _ _)
                    refine v_topi (fun x36 ex36 => ?_)
                    replace e := ky_letE ex36 e
                    refine v_iast (i := 144) rfl (md_8 hm) (ky_inb z8) ?_
                    refine bk_st (B := md_B G a) hm fr 8 (Int32.toNatClampNeg (x7 - 1)) x36 (by decide) (fun h37 hmh37 frh37 => ?_)
                    obtain ⟨q38, eq38⟩ : ∃ z, z = (bk_w c 8 (Int32.toNatClampNeg (x7 - 1)) x36) := ⟨_, rfl⟩
                    rw [← eq38] at hmh37
                    replace e := ky_letE eq38 e
                    refine (?_ : ky_V _ _ _ 265 _ _ _ _)
                    obtain ⟨x39, ex39⟩ : ∃ z : Int32, z = p6 + 1 := ⟨_, rfl⟩
                    replace e := ky_letE ex39 e
                    refine v_iinc (v := x39) (j := 6) (L' := [(0, .ref a), (1, .int p1), (2, .int p2), (3, .int p3), (4, .int x7), (5, .int p5), (6, .int x39), (7, .int x4), (8, .int x9), (9, .int x11), (10, .int 1)]) [1, 2, 3, 4, 5, 6, 0, 7, 8, 9, 10] (i := 145) rfl rfl (by rw [ex39]; rfl) (Nat.le_of_ble_eq_true rfl) rfl (?_ : ky_V _ _ _ 268 _ _ _ _)
                    refine v_goto (tgt := 23) (i := 146) rfl (by decide) (?_ : ky_V _ _ _ 23 _ _ _ _)
                    refine ky_loc (L' := [(0, .ref a), (1, .int p1), (2, .int p2), (3, .int p3), (4, .int x7), (5, .int p5), (6, .int x39)]) (by simp) ?_
                    exact ih h37 q38 p1 p2 p3 x7 p5 x39 hmh37 frh37 e
              · replace e := ky_ifT c14 e
                refine v_iload (i := 110) (j := 8) rfl rfl (?_ : ky_V _ _ _ 201 _ _ _ _)
                refine v_iload (i := 111) (j := 9) rfl rfl (?_ : ky_V _ _ _ 203 _ _ _ _)
                refine v_iadd (i := 112) rfl (?_ : ky_V _ _ _ 204 _ _ _ _)
                refine v_iconst (v := 2) (i := 113) rfl (by decide) (?_ : ky_V _ _ _ 205 _ _ _ _)
                refine v_icmp_ne (tgt := 212) (i := 114) rfl (by decide) (fun c40 => ?_) (fun c40 => ?_)
                · replace e := ky_ifF c40 e
                  refine v_iconst (v := 0) (i := 117) rfl (by decide) (?_ : ky_V _ _ _ 213 _ _ _ _)
                  refine v_goto (tgt := 229) (i := 118) rfl (by decide) (?_ : ky_V _ _ _ 229 _ _ _ _)
                  refine v_istore (L' := [(0, .ref a), (1, .int p1), (2, .int p2), (3, .int p3), (4, .int x7), (5, .int p5), (6, .int p6), (7, .int x4), (8, .int x9), (9, .int x11), (10, .int 0)]) [1, 2, 3, 4, 5, 6, 7, 8, 9, 10, 0] (i := 126) rfl (Nat.le_of_ble_eq_true rfl) rfl (?_ : ky_V _ _ _ 231 _ _ _ _)
                  refine v_aload_n (i := 127) (j := 0) rfl rfl (?_ : ky_V _ _ _ 232 _ _ _ _)
                  refine gf_X12_39 rfl (i := 128) rfl (md_0 hm) rfl (?_ : ky_V _ _ _ 235 _ _ _ _)
                  refine v_iload (i := 129) (j := 4) rfl rfl (?_ : ky_V _ _ _ 237 _ _ _ _)
                  refine v_iconst (v := 1) (i := 130) rfl (by decide) (?_ : ky_V _ _ _ 238 _ _ _ _)
                  refine v_isub (i := 131) rfl (?_ : ky_V _ _ _ 239 _ _ _ _)
                  refine v_iload (i := 132) (j := 7) rfl rfl (?_ : ky_V _ _ _ 241 _ _ _ _)
                  refine v_bipush (v := 8) (i := 133) rfl (by decide) (?_ : ky_V _ _ _ 243 _ _ _ _)
                  refine v_icmp_ne (tgt := 254) (i := 134) rfl (by decide) (fun c41 => ?_) (fun c41 => ?_)
                  · replace e := ky_ifF c41 e
                    refine v_iload (i := 139) (j := 10) rfl rfl (?_ : ky_V _ _ _ 256 _ _ _ _)
                    refine v_if_eq (tgt := 263) (i := 140) rfl (by decide) (fun c42 => ?_) (fun c42 => ?_)
                    · replace e := ky_ifT c42 e
                      refine v_iconst (v := 0) (i := 143) rfl (by decide) (?_ : ky_V _ _ _ 264 _ _ _ _)
                      refine v_iast (i := 144) rfl (md_8 hm) (ky_inb z8) ?_
                      refine bk_st (B := md_B G a) hm fr 8 (Int32.toNatClampNeg (x7 - 1)) 0 (by decide) (fun h43 hmh43 frh43 => ?_)
                      obtain ⟨q44, eq44⟩ : ∃ z, z = (bk_w c 8 (Int32.toNatClampNeg (x7 - 1)) 0) := ⟨_, rfl⟩
                      rw [← eq44] at hmh43
                      replace e := ky_letE eq44 e
                      refine (?_ : ky_V _ _ _ 265 _ _ _ _)
                      obtain ⟨x45, ex45⟩ : ∃ z : Int32, z = p6 + 1 := ⟨_, rfl⟩
                      replace e := ky_letE ex45 e
                      refine v_iinc (v := x45) (j := 6) (L' := [(0, .ref a), (1, .int p1), (2, .int p2), (3, .int p3), (4, .int x7), (5, .int p5), (6, .int x45), (7, .int x4), (8, .int x9), (9, .int x11), (10, .int 0)]) [1, 2, 3, 4, 5, 6, 0, 7, 8, 9, 10] (i := 145) rfl rfl (by rw [ex45]; rfl) (Nat.le_of_ble_eq_true rfl) rfl (?_ : ky_V _ _ _ 268 _ _ _ _)
                      refine v_goto (tgt := 23) (i := 146) rfl (by decide) (?_ : ky_V _ _ _ 23 _ _ _ _)
                      refine ky_loc (L' := [(0, .ref a), (1, .int p1), (2, .int p2), (3, .int p3), (4, .int x7), (5, .int p5), (6, .int x45)]) (by simp) ?_
                      exact ih h43 q44 p1 p2 p3 x7 p5 x45 hmh43 frh43 e
                    · replace e := ky_ifF c42 e
                      refine v_iconst (v := 1) (i := 141) rfl (by decide) (?_ : ky_V _ _ _ 260 _ _ _ _)
                      refine v_goto (tgt := 264) (i := 142) rfl (by decide) (?_ : ky_V _ _ _ 264 _ _ _ _)
                      refine v_iast (i := 144) rfl (md_8 hm) (ky_inb z8) ?_
                      refine bk_st (B := md_B G a) hm fr 8 (Int32.toNatClampNeg (x7 - 1)) 1 (by decide) (fun h46 hmh46 frh46 => ?_)
                      obtain ⟨q47, eq47⟩ : ∃ z, z = (bk_w c 8 (Int32.toNatClampNeg (x7 - 1)) 1) := ⟨_, rfl⟩
                      rw [← eq47] at hmh46
                      replace e := ky_letE eq47 e
                      refine (?_ : ky_V _ _ _ 265 _ _ _ _)
                      obtain ⟨x48, ex48⟩ : ∃ z : Int32, z = p6 + 1 := ⟨_, rfl⟩
                      replace e := ky_letE ex48 e
                      refine v_iinc (v := x48) (j := 6) (L' := [(0, .ref a), (1, .int p1), (2, .int p2), (3, .int p3), (4, .int x7), (5, .int p5), (6, .int x48), (7, .int x4), (8, .int x9), (9, .int x11), (10, .int 0)]) [1, 2, 3, 4, 5, 6, 0, 7, 8, 9, 10] (i := 145) rfl rfl (by rw [ex48]; rfl) (Nat.le_of_ble_eq_true rfl) rfl (?_ : ky_V _ _ _ 268 _ _ _ _)
                      refine v_goto (tgt := 23) (i := 146) rfl (by decide) (?_ : ky_V _ _ _ 23 _ _ _ _)
                      refine ky_loc (L' := [(0, .ref a), (1, .int p1), (2, .int p2), (3, .int p3), (4, .int x7), (5, .int p5), (6, .int x48)]) (by simp) ?_
                      exact ih h46 q47 p1 p2 p3 x7 p5 x48 hmh46 frh46 e
                  · replace e := ky_ifT c41 e
                    refine v_iload (i := 135) (j := 8) rfl rfl (?_ : ky_V _ _ _ 248 _ _ _ _)
                    refine v_iload (i := 136) (j := 9) rfl rfl (?_ : ky_V _ _ _ 250 _ _ _ _)
                    refine v_iadd (i := 137) rfl (?_ : ky_V _ _ _ 251 _ _ _ _)
                    refine v_goto (tgt := 264) (i := 138) rfl (by decide) (?_ : ky_V _ _ _ 264 _ _ _ _)
                    refine v_topi (fun x49 ex49 => ?_)
                    replace e := ky_letE ex49 e
                    refine v_iast (i := 144) rfl (md_8 hm) (ky_inb z8) ?_
                    refine bk_st (B := md_B G a) hm fr 8 (Int32.toNatClampNeg (x7 - 1)) x49 (by decide) (fun h50 hmh50 frh50 => ?_)
                    obtain ⟨q51, eq51⟩ : ∃ z, z = (bk_w c 8 (Int32.toNatClampNeg (x7 - 1)) x49) := ⟨_, rfl⟩
                    rw [← eq51] at hmh50
                    replace e := ky_letE eq51 e
                    refine (?_ : ky_V _ _ _ 265 _ _ _ _)
                    obtain ⟨x52, ex52⟩ : ∃ z : Int32, z = p6 + 1 := ⟨_, rfl⟩
                    replace e := ky_letE ex52 e
                    refine v_iinc (v := x52) (j := 6) (L' := [(0, .ref a), (1, .int p1), (2, .int p2), (3, .int p3), (4, .int x7), (5, .int p5), (6, .int x52), (7, .int x4), (8, .int x9), (9, .int x11), (10, .int 0)]) [1, 2, 3, 4, 5, 6, 0, 7, 8, 9, 10] (i := 145) rfl rfl (by rw [ex52]; rfl) (Nat.le_of_ble_eq_true rfl) rfl (?_ : ky_V _ _ _ 268 _ _ _ _)
                    refine v_goto (tgt := 23) (i := 146) rfl (by decide) (?_ : ky_V _ _ _ 23 _ _ _ _)
                    refine ky_loc (L' := [(0, .ref a), (1, .int p1), (2, .int p2), (3, .int p3), (4, .int x7), (5, .int p5), (6, .int x52)]) (by simp) ?_
                    exact ih h50 q51 p1 p2 p3 x7 p5 x52 hmh50 frh50 e
                · replace e := ky_ifT c40 e
                  refine v_iconst (v := 1) (i := 115) rfl (by decide) (?_ : ky_V _ _ _ 209 _ _ _ _)
                  refine v_goto (tgt := 229) (i := 116) rfl (by decide) (?_ : ky_V _ _ _ 229 _ _ _ _)
                  refine v_istore (L' := [(0, .ref a), (1, .int p1), (2, .int p2), (3, .int p3), (4, .int x7), (5, .int p5), (6, .int p6), (7, .int x4), (8, .int x9), (9, .int x11), (10, .int 1)]) [1, 2, 3, 4, 5, 6, 7, 8, 9, 10, 0] (i := 126) rfl (Nat.le_of_ble_eq_true rfl) rfl (?_ : ky_V _ _ _ 231 _ _ _ _)
                  refine v_aload_n (i := 127) (j := 0) rfl rfl (?_ : ky_V _ _ _ 232 _ _ _ _)
                  refine gf_X12_39 rfl (i := 128) rfl (md_0 hm) rfl (?_ : ky_V _ _ _ 235 _ _ _ _)
                  refine v_iload (i := 129) (j := 4) rfl rfl (?_ : ky_V _ _ _ 237 _ _ _ _)
                  refine v_iconst (v := 1) (i := 130) rfl (by decide) (?_ : ky_V _ _ _ 238 _ _ _ _)
                  refine v_isub (i := 131) rfl (?_ : ky_V _ _ _ 239 _ _ _ _)
                  refine v_iload (i := 132) (j := 7) rfl rfl (?_ : ky_V _ _ _ 241 _ _ _ _)
                  refine v_bipush (v := 8) (i := 133) rfl (by decide) (?_ : ky_V _ _ _ 243 _ _ _ _)
                  refine v_icmp_ne (tgt := 254) (i := 134) rfl (by decide) (fun c53 => ?_) (fun c53 => ?_)
                  · replace e := ky_ifF c53 e
                    refine v_iload (i := 139) (j := 10) rfl rfl (?_ : ky_V _ _ _ 256 _ _ _ _)
                    refine v_if_eq (tgt := 263) (i := 140) rfl (by decide) (fun c54 => ?_) (fun c54 => ?_)
                    · replace e := ky_ifT c54 e
                      refine v_iconst (v := 0) (i := 143) rfl (by decide) (?_ : ky_V _ _ _ 264 _ _ _ _)
                      refine v_iast (i := 144) rfl (md_8 hm) (ky_inb z8) ?_
                      refine bk_st (B := md_B G a) hm fr 8 (Int32.toNatClampNeg (x7 - 1)) 0 (by decide) (fun h55 hmh55 frh55 => ?_)
                      obtain ⟨q56, eq56⟩ : ∃ z, z = (bk_w c 8 (Int32.toNatClampNeg (x7 - 1)) 0) := ⟨_, rfl⟩
                      rw [← eq56] at hmh55
                      replace e := ky_letE eq56 e
                      refine (?_ : ky_V _ _ _ 265 _ _ _ _)
                      obtain ⟨x57, ex57⟩ : ∃ z : Int32, z = p6 + 1 := ⟨_, rfl⟩
                      replace e := ky_letE ex57 e
                      refine v_iinc (v := x57) (j := 6) (L' := [(0, .ref a), (1, .int p1), (2, .int p2), (3, .int p3), (4, .int x7), (5, .int p5), (6, .int x57), (7, .int x4), (8, .int x9), (9, .int x11), (10, .int 1)]) [1, 2, 3, 4, 5, 6, 0, 7, 8, 9, 10] (i := 145) rfl rfl (by rw [ex57]; rfl) (Nat.le_of_ble_eq_true rfl) rfl (?_ : ky_V _ _ _ 268 _ _ _ _)
                      refine v_goto (tgt := 23) (i := 146) rfl (by decide) (?_ : ky_V _ _ _ 23 _ _ _ _)
                      refine ky_loc (L' := [(0, .ref a), (1, .int p1), (2, .int p2), (3, .int p3), (4, .int x7), (5, .int p5), (6, .int x57)]) (by simp) ?_
                      exact ih h55 q56 p1 p2 p3 x7 p5 x57 hmh55 frh55 e
                    · replace e := ky_ifF c54 e
                      refine v_iconst (v := 1) (i := 141) rfl (by decide) (?_ : ky_V _ _ _ 260 _ _ _ _)
                      refine v_goto (tgt := 264) (i := 142) rfl (by decide) (?_ : ky_V _ _ _ 264 _ _ _ _)
                      refine v_iast (i := 144) rfl (md_8 hm) (ky_inb z8) ?_
                      refine bk_st (B := md_B G a) hm fr 8 (Int32.toNatClampNeg (x7 - 1)) 1 (by decide) (fun h58 hmh58 frh58 => ?_)
                      obtain ⟨q59, eq59⟩ : ∃ z, z = (bk_w c 8 (Int32.toNatClampNeg (x7 - 1)) 1) := ⟨_, rfl⟩
                      rw [← eq59] at hmh58
                      replace e := ky_letE eq59 e
                      refine (?_ : ky_V _ _ _ 265 _ _ _ _)
                      obtain ⟨x60, ex60⟩ : ∃ z : Int32, z = p6 + 1 := ⟨_, rfl⟩
                      replace e := ky_letE ex60 e
                      refine v_iinc (v := x60) (j := 6) (L' := [(0, .ref a), (1, .int p1), (2, .int p2), (3, .int p3), (4, .int x7), (5, .int p5), (6, .int x60), (7, .int x4), (8, .int x9), (9, .int x11), (10, .int 1)]) [1, 2, 3, 4, 5, 6, 0, 7, 8, 9, 10] (i := 145) rfl rfl (by rw [ex60]; rfl) (Nat.le_of_ble_eq_true rfl) rfl (?_ : ky_V _ _ _ 268 _ _ _ _)
                      refine v_goto (tgt := 23) (i := 146) rfl (by decide) (?_ : ky_V _ _ _ 23 _ _ _ _)
                      refine ky_loc (L' := [(0, .ref a), (1, .int p1), (2, .int p2), (3, .int p3), (4, .int x7), (5, .int p5), (6, .int x60)]) (by simp) ?_
                      exact ih h58 q59 p1 p2 p3 x7 p5 x60 hmh58 frh58 e
                  · replace e := ky_ifT c53 e
                    refine v_iload (i := 135) (j := 8) rfl rfl (?_ : ky_V _ _ _ 248 _ _ _ _)
                    refine v_iload (i := 136) (j := 9) rfl rfl (?_ : ky_V _ _ _ 250 _ _ _ _)
                    refine v_iadd (i := 137) rfl (?_ : ky_V _ _ _ 251 _ _ _ _)
                    refine v_goto (tgt := 264) (i := 138) rfl (by decide) (?_ : ky_V _ _ _ 264 _ _ _ _)
                    refine v_topi (fun x61 ex61 => ?_)
                    replace e := ky_letE ex61 e
                    refine v_iast (i := 144) rfl (md_8 hm) (ky_inb z8) ?_
                    refine bk_st (B := md_B G a) hm fr 8 (Int32.toNatClampNeg (x7 - 1)) x61 (by decide) (fun h62 hmh62 frh62 => ?_)
                    obtain ⟨q63, eq63⟩ : ∃ z, z = (bk_w c 8 (Int32.toNatClampNeg (x7 - 1)) x61) := ⟨_, rfl⟩
                    rw [← eq63] at hmh62
                    replace e := ky_letE eq63 e
                    refine (?_ : ky_V _ _ _ 265 _ _ _ _)
                    obtain ⟨x64, ex64⟩ : ∃ z : Int32, z = p6 + 1 := ⟨_, rfl⟩
                    replace e := ky_letE ex64 e
                    refine v_iinc (v := x64) (j := 6) (L' := [(0, .ref a), (1, .int p1), (2, .int p2), (3, .int p3), (4, .int x7), (5, .int p5), (6, .int x64), (7, .int x4), (8, .int x9), (9, .int x11), (10, .int 1)]) [1, 2, 3, 4, 5, 6, 0, 7, 8, 9, 10] (i := 145) rfl rfl (by rw [ex64]; rfl) (Nat.le_of_ble_eq_true rfl) rfl (?_ : ky_V _ _ _ 268 _ _ _ _)
                    refine v_goto (tgt := 23) (i := 146) rfl (by decide) (?_ : ky_V _ _ _ 23 _ _ _ _)
                    refine ky_loc (L' := [(0, .ref a), (1, .int p1), (2, .int p2), (3, .int p3), (4, .int x7), (5, .int p5), (6, .int x64)]) (by simp) ?_
                    exact ih h62 q63 p1 p2 p3 x7 p5 x64 hmh62 frh62 e
            · replace e := ky_ifT c13 e
              refine v_iload (i := 100) (j := 8) rfl rfl (?_ : ky_V _ _ _ 179 _ _ _ _)
              refine v_iload (i := 101) (j := 9) rfl rfl (?_ : ky_V _ _ _ 181 _ _ _ _)
              refine v_icmp_le (tgt := 188) (i := 102) rfl (by decide) (fun c65 => ?_) (fun c65 => ?_)
              · replace e := ky_ifT c65 e
                refine v_iconst (v := 0) (i := 105) rfl (by decide) (?_ : ky_V _ _ _ 189 _ _ _ _)
                refine v_goto (tgt := 229) (i := 106) rfl (by decide) (?_ : ky_V _ _ _ 229 _ _ _ _)
                refine v_istore (L' := [(0, .ref a), (1, .int p1), (2, .int p2), (3, .int p3), (4, .int x7), (5, .int p5), (6, .int p6), (7, .int x4), (8, .int x9), (9, .int x11), (10, .int 0)]) [1, 2, 3, 4, 5, 6, 7, 8, 9, 10, 0] (i := 126) rfl (Nat.le_of_ble_eq_true rfl) rfl (?_ : ky_V _ _ _ 231 _ _ _ _)
                refine v_aload_n (i := 127) (j := 0) rfl rfl (?_ : ky_V _ _ _ 232 _ _ _ _)
                refine gf_X12_39 rfl (i := 128) rfl (md_0 hm) rfl (?_ : ky_V _ _ _ 235 _ _ _ _)
                refine v_iload (i := 129) (j := 4) rfl rfl (?_ : ky_V _ _ _ 237 _ _ _ _)
                refine v_iconst (v := 1) (i := 130) rfl (by decide) (?_ : ky_V _ _ _ 238 _ _ _ _)
                refine v_isub (i := 131) rfl (?_ : ky_V _ _ _ 239 _ _ _ _)
                refine v_iload (i := 132) (j := 7) rfl rfl (?_ : ky_V _ _ _ 241 _ _ _ _)
                refine v_bipush (v := 8) (i := 133) rfl (by decide) (?_ : ky_V _ _ _ 243 _ _ _ _)
                refine v_icmp_ne (tgt := 254) (i := 134) rfl (by decide) (fun c66 => ?_) (fun c66 => ?_)
                · replace e := ky_ifF c66 e
                  refine v_iload (i := 139) (j := 10) rfl rfl (?_ : ky_V _ _ _ 256 _ _ _ _)
                  refine v_if_eq (tgt := 263) (i := 140) rfl (by decide) (fun c67 => ?_) (fun c67 => ?_)
                  · replace e := ky_ifT c67 e
                    refine v_iconst (v := 0) (i := 143) rfl (by decide) (?_ : ky_V _ _ _ 264 _ _ _ _)
                    refine v_iast (i := 144) rfl (md_8 hm) (ky_inb z8) ?_
                    refine bk_st (B := md_B G a) hm fr 8 (Int32.toNatClampNeg (x7 - 1)) 0 (by decide) (fun h68 hmh68 frh68 => ?_)
                    obtain ⟨q69, eq69⟩ : ∃ z, z = (bk_w c 8 (Int32.toNatClampNeg (x7 - 1)) 0) := ⟨_, rfl⟩
                    rw [← eq69] at hmh68
                    replace e := ky_letE eq69 e
                    refine (?_ : ky_V _ _ _ 265 _ _ _ _)
                    obtain ⟨x70, ex70⟩ : ∃ z : Int32, z = p6 + 1 := ⟨_, rfl⟩
                    replace e := ky_letE ex70 e
                    refine v_iinc (v := x70) (j := 6) (L' := [(0, .ref a), (1, .int p1), (2, .int p2), (3, .int p3), (4, .int x7), (5, .int p5), (6, .int x70), (7, .int x4), (8, .int x9), (9, .int x11), (10, .int 0)]) [1, 2, 3, 4, 5, 6, 0, 7, 8, 9, 10] (i := 145) rfl rfl (by rw [ex70]; rfl) (Nat.le_of_ble_eq_true rfl) rfl (?_ : ky_V _ _ _ 268 _ _ _ _)
                    refine v_goto (tgt := 23) (i := 146) rfl (by decide) (?_ : ky_V _ _ _ 23 _ _ _ _)
                    refine ky_loc (L' := [(0, .ref a), (1, .int p1), (2, .int p2), (3, .int p3), (4, .int x7), (5, .int p5), (6, .int x70)]) (by simp) ?_
                    exact ih h68 q69 p1 p2 p3 x7 p5 x70 hmh68 frh68 e
                  · replace e := ky_ifF c67 e
                    refine v_iconst (v := 1) (i := 141) rfl (by decide) (?_ : ky_V _ _ _ 260 _ _ _ _)
                    refine v_goto (tgt := 264) (i := 142) rfl (by decide) (?_ : ky_V _ _ _ 264 _ _ _ _)
                    refine v_iast (i := 144) rfl (md_8 hm) (ky_inb z8) ?_
                    refine bk_st (B := md_B G a) hm fr 8 (Int32.toNatClampNeg (x7 - 1)) 1 (by decide) (fun h71 hmh71 frh71 => ?_)
                    obtain ⟨q72, eq72⟩ : ∃ z, z = (bk_w c 8 (Int32.toNatClampNeg (x7 - 1)) 1) := ⟨_, rfl⟩
                    rw [← eq72] at hmh71
                    replace e := ky_letE eq72 e
                    refine (?_ : ky_V _ _ _ 265 _ _ _ _)
                    obtain ⟨x73, ex73⟩ : ∃ z : Int32, z = p6 + 1 := ⟨_, rfl⟩
                    replace e := ky_letE ex73 e
                    refine v_iinc (v := x73) (j := 6) (L' := [(0, .ref a), (1, .int p1), (2, .int p2), (3, .int p3), (4, .int x7), (5, .int p5), (6, .int x73), (7, .int x4), (8, .int x9), (9, .int x11), (10, .int 0)]) [1, 2, 3, 4, 5, 6, 0, 7, 8, 9, 10] (i := 145) rfl rfl (by rw [ex73]; rfl) (Nat.le_of_ble_eq_true rfl) rfl (?_ : ky_V _ _ _ 268 _ _ _ _)
                    refine v_goto (tgt := 23) (i := 146) rfl (by decide) (?_ : ky_V _ _ _ 23 _ _ _ _)
                    refine ky_loc (L' := [(0, .ref a), (1, .int p1), (2, .int p2), (3, .int p3), (4, .int x7), (5, .int p5), (6, .int x73)]) (by simp) ?_
                    exact ih h71 q72 p1 p2 p3 x7 p5 x73 hmh71 frh71 e
                · replace e := ky_ifT c66 e
                  refine v_iload (i := 135) (j := 8) rfl rfl (?_ : ky_V _ _ _ 248 _ _ _ _)
                  refine v_iload (i := 136) (j := 9) rfl rfl (?_ : ky_V _ _ _ 250 _ _ _ _)
                  refine v_iadd (i := 137) rfl (?_ : ky_V _ _ _ 251 _ _ _ _)
                  refine v_goto (tgt := 264) (i := 138) rfl (by decide) (?_ : ky_V _ _ _ 264 _ _ _ _)
                  refine v_topi (fun x74 ex74 => ?_)
                  replace e := ky_letE ex74 e
                  refine v_iast (i := 144) rfl (md_8 hm) (ky_inb z8) ?_
                  refine bk_st (B := md_B G a) hm fr 8 (Int32.toNatClampNeg (x7 - 1)) x74 (by decide) (fun h75 hmh75 frh75 => ?_)
                  obtain ⟨q76, eq76⟩ : ∃ z, z = (bk_w c 8 (Int32.toNatClampNeg (x7 - 1)) x74) := ⟨_, rfl⟩
                  rw [← eq76] at hmh75
                  replace e := ky_letE eq76 e
                  refine (?_ : ky_V _ _ _ 265 _ _ _ _)
                  obtain ⟨x77, ex77⟩ : ∃ z : Int32, z = p6 + 1 := ⟨_, rfl⟩
                  replace e := ky_letE ex77 e
                  refine v_iinc (v := x77) (j := 6) (L' := [(0, .ref a), (1, .int p1), (2, .int p2), (3, .int p3), (4, .int x7), (5, .int p5), (6, .int x77), (7, .int x4), (8, .int x9), (9, .int x11), (10, .int 0)]) [1, 2, 3, 4, 5, 6, 0, 7, 8, 9, 10] (i := 145) rfl rfl (by rw [ex77]; rfl) (Nat.le_of_ble_eq_true rfl) rfl (?_ : ky_V _ _ _ 268 _ _ _ _)
                  refine v_goto (tgt := 23) (i := 146) rfl (by decide) (?_ : ky_V _ _ _ 23 _ _ _ _)
                  refine ky_loc (L' := [(0, .ref a), (1, .int p1), (2, .int p2), (3, .int p3), (4, .int x7), (5, .int p5), (6, .int x77)]) (by simp) ?_
                  exact ih h75 q76 p1 p2 p3 x7 p5 x77 hmh75 frh75 e
              · replace e := ky_ifF c65 e
                refine v_iconst (v := 1) (i := 103) rfl (by decide) (?_ : ky_V _ _ _ 185 _ _ _ _)
                refine v_goto (tgt := 229) (i := 104) rfl (by decide) (?_ : ky_V _ _ _ 229 _ _ _ _)
                refine v_istore (L' := [(0, .ref a), (1, .int p1), (2, .int p2), (3, .int p3), (4, .int x7), (5, .int p5), (6, .int p6), (7, .int x4), (8, .int x9), (9, .int x11), (10, .int 1)]) [1, 2, 3, 4, 5, 6, 7, 8, 9, 10, 0] (i := 126) rfl (Nat.le_of_ble_eq_true rfl) rfl (?_ : ky_V _ _ _ 231 _ _ _ _)
                refine v_aload_n (i := 127) (j := 0) rfl rfl (?_ : ky_V _ _ _ 232 _ _ _ _)
                refine gf_X12_39 rfl (i := 128) rfl (md_0 hm) rfl (?_ : ky_V _ _ _ 235 _ _ _ _)
                refine v_iload (i := 129) (j := 4) rfl rfl (?_ : ky_V _ _ _ 237 _ _ _ _)
                refine v_iconst (v := 1) (i := 130) rfl (by decide) (?_ : ky_V _ _ _ 238 _ _ _ _)
                refine v_isub (i := 131) rfl (?_ : ky_V _ _ _ 239 _ _ _ _)
                refine v_iload (i := 132) (j := 7) rfl rfl (?_ : ky_V _ _ _ 241 _ _ _ _)
                refine v_bipush (v := 8) (i := 133) rfl (by decide) (?_ : ky_V _ _ _ 243 _ _ _ _)
                refine v_icmp_ne (tgt := 254) (i := 134) rfl (by decide) (fun c78 => ?_) (fun c78 => ?_)
                · replace e := ky_ifF c78 e
                  refine v_iload (i := 139) (j := 10) rfl rfl (?_ : ky_V _ _ _ 256 _ _ _ _)
                  refine v_if_eq (tgt := 263) (i := 140) rfl (by decide) (fun c79 => ?_) (fun c79 => ?_)
                  · replace e := ky_ifT c79 e
                    refine v_iconst (v := 0) (i := 143) rfl (by decide) (?_ : ky_V _ _ _ 264 _ _ _ _)
                    refine v_iast (i := 144) rfl (md_8 hm) (ky_inb z8) ?_
                    refine bk_st (B := md_B G a) hm fr 8 (Int32.toNatClampNeg (x7 - 1)) 0 (by decide) (fun h80 hmh80 frh80 => ?_)
                    obtain ⟨q81, eq81⟩ : ∃ z, z = (bk_w c 8 (Int32.toNatClampNeg (x7 - 1)) 0) := ⟨_, rfl⟩
                    rw [← eq81] at hmh80
                    replace e := ky_letE eq81 e
                    refine (?_ : ky_V _ _ _ 265 _ _ _ _)
                    obtain ⟨x82, ex82⟩ : ∃ z : Int32, z = p6 + 1 := ⟨_, rfl⟩
                    replace e := ky_letE ex82 e
                    refine v_iinc (v := x82) (j := 6) (L' := [(0, .ref a), (1, .int p1), (2, .int p2), (3, .int p3), (4, .int x7), (5, .int p5), (6, .int x82), (7, .int x4), (8, .int x9), (9, .int x11), (10, .int 1)]) [1, 2, 3, 4, 5, 6, 0, 7, 8, 9, 10] (i := 145) rfl rfl (by rw [ex82]; rfl) (Nat.le_of_ble_eq_true rfl) rfl (?_ : ky_V _ _ _ 268 _ _ _ _)
                    refine v_goto (tgt := 23) (i := 146) rfl (by decide) (?_ : ky_V _ _ _ 23 _ _ _ _)
                    refine ky_loc (L' := [(0, .ref a), (1, .int p1), (2, .int p2), (3, .int p3), (4, .int x7), (5, .int p5), (6, .int x82)]) (by simp) ?_
                    exact ih h80 q81 p1 p2 p3 x7 p5 x82 hmh80 frh80 e
                  · replace e := ky_ifF c79 e
                    refine v_iconst (v := 1) (i := 141) rfl (by decide) (?_ : ky_V _ _ _ 260 _ _ _ _)
                    refine v_goto (tgt := 264) (i := 142) rfl (by decide) (?_ : ky_V _ _ _ 264 _ _ _ _)
                    refine v_iast (i := 144) rfl (md_8 hm) (ky_inb z8) ?_
                    refine bk_st (B := md_B G a) hm fr 8 (Int32.toNatClampNeg (x7 - 1)) 1 (by decide) (fun h83 hmh83 frh83 => ?_)
                    obtain ⟨q84, eq84⟩ : ∃ z, z = (bk_w c 8 (Int32.toNatClampNeg (x7 - 1)) 1) := ⟨_, rfl⟩
                    rw [← eq84] at hmh83
                    replace e := ky_letE eq84 e
                    refine (?_ : ky_V _ _ _ 265 _ _ _ _)
                    obtain ⟨x85, ex85⟩ : ∃ z : Int32, z = p6 + 1 := ⟨_, rfl⟩
                    replace e := ky_letE ex85 e
                    refine v_iinc (v := x85) (j := 6) (L' := [(0, .ref a), (1, .int p1), (2, .int p2), (3, .int p3), (4, .int x7), (5, .int p5), (6, .int x85), (7, .int x4), (8, .int x9), (9, .int x11), (10, .int 1)]) [1, 2, 3, 4, 5, 6, 0, 7, 8, 9, 10] (i := 145) rfl rfl (by rw [ex85]; rfl) (Nat.le_of_ble_eq_true rfl) rfl (?_ : ky_V _ _ _ 268 _ _ _ _)
                    refine v_goto (tgt := 23) (i := 146) rfl (by decide) (?_ : ky_V _ _ _ 23 _ _ _ _)
                    refine ky_loc (L' := [(0, .ref a), (1, .int p1), (2, .int p2), (3, .int p3), (4, .int x7), (5, .int p5), (6, .int x85)]) (by simp) ?_
                    exact ih h83 q84 p1 p2 p3 x7 p5 x85 hmh83 frh83 e
                · replace e := ky_ifT c78 e
                  refine v_iload (i := 135) (j := 8) rfl rfl (?_ : ky_V _ _ _ 248 _ _ _ _)
                  refine v_iload (i := 136) (j := 9) rfl rfl (?_ : ky_V _ _ _ 250 _ _ _ _)
                  refine v_iadd (i := 137) rfl (?_ : ky_V _ _ _ 251 _ _ _ _)
                  refine v_goto (tgt := 264) (i := 138) rfl (by decide) (?_ : ky_V _ _ _ 264 _ _ _ _)
                  refine v_topi (fun x86 ex86 => ?_)
                  replace e := ky_letE ex86 e
                  refine v_iast (i := 144) rfl (md_8 hm) (ky_inb z8) ?_
                  refine bk_st (B := md_B G a) hm fr 8 (Int32.toNatClampNeg (x7 - 1)) x86 (by decide) (fun h87 hmh87 frh87 => ?_)
                  obtain ⟨q88, eq88⟩ : ∃ z, z = (bk_w c 8 (Int32.toNatClampNeg (x7 - 1)) x86) := ⟨_, rfl⟩
                  rw [← eq88] at hmh87
                  replace e := ky_letE eq88 e
                  refine (?_ : ky_V _ _ _ 265 _ _ _ _)
                  obtain ⟨x89, ex89⟩ : ∃ z : Int32, z = p6 + 1 := ⟨_, rfl⟩
                  replace e := ky_letE ex89 e
                  refine v_iinc (v := x89) (j := 6) (L' := [(0, .ref a), (1, .int p1), (2, .int p2), (3, .int p3), (4, .int x7), (5, .int p5), (6, .int x89), (7, .int x4), (8, .int x9), (9, .int x11), (10, .int 1)]) [1, 2, 3, 4, 5, 6, 0, 7, 8, 9, 10] (i := 145) rfl rfl (by rw [ex89]; rfl) (Nat.le_of_ble_eq_true rfl) rfl (?_ : ky_V _ _ _ 268 _ _ _ _)
                  refine v_goto (tgt := 23) (i := 146) rfl (by decide) (?_ : ky_V _ _ _ 23 _ _ _ _)
                  refine ky_loc (L' := [(0, .ref a), (1, .int p1), (2, .int p2), (3, .int p3), (4, .int x7), (5, .int p5), (6, .int x89)]) (by simp) ?_
                  exact ih h87 q88 p1 p2 p3 x7 p5 x89 hmh87 frh87 e
          · replace e := ky_ifT c12 e
            refine v_iload (i := 90) (j := 8) rfl rfl (?_ : ky_V _ _ _ 157 _ _ _ _)
            refine v_iload (i := 91) (j := 9) rfl rfl (?_ : ky_V _ _ _ 159 _ _ _ _)
            refine v_icmp_ge (tgt := 166) (i := 92) rfl (by decide) (fun c90 => ?_) (fun c90 => ?_)
            · replace e := ky_ifT c90 e
              refine v_iconst (v := 0) (i := 95) rfl (by decide) (?_ : ky_V _ _ _ 167 _ _ _ _)
              refine v_goto (tgt := 229) (i := 96) rfl (by decide) (?_ : ky_V _ _ _ 229 _ _ _ _)
              refine v_istore (L' := [(0, .ref a), (1, .int p1), (2, .int p2), (3, .int p3), (4, .int x7), (5, .int p5), (6, .int p6), (7, .int x4), (8, .int x9), (9, .int x11), (10, .int 0)]) [1, 2, 3, 4, 5, 6, 7, 8, 9, 10, 0] (i := 126) rfl (Nat.le_of_ble_eq_true rfl) rfl (?_ : ky_V _ _ _ 231 _ _ _ _)
              refine v_aload_n (i := 127) (j := 0) rfl rfl (?_ : ky_V _ _ _ 232 _ _ _ _)
              refine gf_X12_39 rfl (i := 128) rfl (md_0 hm) rfl (?_ : ky_V _ _ _ 235 _ _ _ _)
              refine v_iload (i := 129) (j := 4) rfl rfl (?_ : ky_V _ _ _ 237 _ _ _ _)
              refine v_iconst (v := 1) (i := 130) rfl (by decide) (?_ : ky_V _ _ _ 238 _ _ _ _)
              refine v_isub (i := 131) rfl (?_ : ky_V _ _ _ 239 _ _ _ _)
              refine v_iload (i := 132) (j := 7) rfl rfl (?_ : ky_V _ _ _ 241 _ _ _ _)
              refine v_bipush (v := 8) (i := 133) rfl (by decide) (?_ : ky_V _ _ _ 243 _ _ _ _)
              refine v_icmp_ne (tgt := 254) (i := 134) rfl (by decide) (fun c91 => ?_) (fun c91 => ?_)
              · replace e := ky_ifF c91 e
                refine v_iload (i := 139) (j := 10) rfl rfl (?_ : ky_V _ _ _ 256 _ _ _ _)
                refine v_if_eq (tgt := 263) (i := 140) rfl (by decide) (fun c92 => ?_) (fun c92 => ?_)
                · replace e := ky_ifT c92 e
                  refine v_iconst (v := 0) (i := 143) rfl (by decide) (?_ : ky_V _ _ _ 264 _ _ _ _)
                  refine v_iast (i := 144) rfl (md_8 hm) (ky_inb z8) ?_
                  refine bk_st (B := md_B G a) hm fr 8 (Int32.toNatClampNeg (x7 - 1)) 0 (by decide) (fun h93 hmh93 frh93 => ?_)
                  obtain ⟨q94, eq94⟩ : ∃ z, z = (bk_w c 8 (Int32.toNatClampNeg (x7 - 1)) 0) := ⟨_, rfl⟩
                  rw [← eq94] at hmh93
                  replace e := ky_letE eq94 e
                  refine (?_ : ky_V _ _ _ 265 _ _ _ _)
                  obtain ⟨x95, ex95⟩ : ∃ z : Int32, z = p6 + 1 := ⟨_, rfl⟩
                  replace e := ky_letE ex95 e
                  refine v_iinc (v := x95) (j := 6) (L' := [(0, .ref a), (1, .int p1), (2, .int p2), (3, .int p3), (4, .int x7), (5, .int p5), (6, .int x95), (7, .int x4), (8, .int x9), (9, .int x11), (10, .int 0)]) [1, 2, 3, 4, 5, 6, 0, 7, 8, 9, 10] (i := 145) rfl rfl (by rw [ex95]; rfl) (Nat.le_of_ble_eq_true rfl) rfl (?_ : ky_V _ _ _ 268 _ _ _ _)
                  refine v_goto (tgt := 23) (i := 146) rfl (by decide) (?_ : ky_V _ _ _ 23 _ _ _ _)
                  refine ky_loc (L' := [(0, .ref a), (1, .int p1), (2, .int p2), (3, .int p3), (4, .int x7), (5, .int p5), (6, .int x95)]) (by simp) ?_
                  exact ih h93 q94 p1 p2 p3 x7 p5 x95 hmh93 frh93 e
                · replace e := ky_ifF c92 e
                  refine v_iconst (v := 1) (i := 141) rfl (by decide) (?_ : ky_V _ _ _ 260 _ _ _ _)
                  refine v_goto (tgt := 264) (i := 142) rfl (by decide) (?_ : ky_V _ _ _ 264 _ _ _ _)
                  refine v_iast (i := 144) rfl (md_8 hm) (ky_inb z8) ?_
                  refine bk_st (B := md_B G a) hm fr 8 (Int32.toNatClampNeg (x7 - 1)) 1 (by decide) (fun h96 hmh96 frh96 => ?_)
                  obtain ⟨q97, eq97⟩ : ∃ z, z = (bk_w c 8 (Int32.toNatClampNeg (x7 - 1)) 1) := ⟨_, rfl⟩
                  rw [← eq97] at hmh96
                  replace e := ky_letE eq97 e
                  refine (?_ : ky_V _ _ _ 265 _ _ _ _)
                  obtain ⟨x98, ex98⟩ : ∃ z : Int32, z = p6 + 1 := ⟨_, rfl⟩
                  replace e := ky_letE ex98 e
                  refine v_iinc (v := x98) (j := 6) (L' := [(0, .ref a), (1, .int p1), (2, .int p2), (3, .int p3), (4, .int x7), (5, .int p5), (6, .int x98), (7, .int x4), (8, .int x9), (9, .int x11), (10, .int 0)]) [1, 2, 3, 4, 5, 6, 0, 7, 8, 9, 10] (i := 145) rfl rfl (by rw [ex98]; rfl) (Nat.le_of_ble_eq_true rfl) rfl (?_ : ky_V _ _ _ 268 _ _ _ _)
                  refine v_goto (tgt := 23) (i := 146) rfl (by decide) (?_ : ky_V _ _ _ 23 _ _ _ _)
                  refine ky_loc (L' := [(0, .ref a), (1, .int p1), (2, .int p2), (3, .int p3), (4, .int x7), (5, .int p5), (6, .int x98)]) (by simp) ?_
                  exact ih h96 q97 p1 p2 p3 x7 p5 x98 hmh96 frh96 e
              · replace e := ky_ifT c91 e
                refine v_iload (i := 135) (j := 8) rfl rfl (?_ : ky_V _ _ _ 248 _ _ _ _)
                refine v_iload (i := 136) (j := 9) rfl rfl (?_ : ky_V _ _ _ 250 _ _ _ _)
                refine v_iadd (i := 137) rfl (?_ : ky_V _ _ _ 251 _ _ _ _)
                refine v_goto (tgt := 264) (i := 138) rfl (by decide) (?_ : ky_V _ _ _ 264 _ _ _ _)
                refine v_topi (fun x99 ex99 => ?_)
                replace e := ky_letE ex99 e
                refine v_iast (i := 144) rfl (md_8 hm) (ky_inb z8) ?_
                refine bk_st (B := md_B G a) hm fr 8 (Int32.toNatClampNeg (x7 - 1)) x99 (by decide) (fun h100 hmh100 frh100 => ?_)
                obtain ⟨q101, eq101⟩ : ∃ z, z = (bk_w c 8 (Int32.toNatClampNeg (x7 - 1)) x99) := ⟨_, rfl⟩
                rw [← eq101] at hmh100
                replace e := ky_letE eq101 e
                refine (?_ : ky_V _ _ _ 265 _ _ _ _)
                obtain ⟨x102, ex102⟩ : ∃ z : Int32, z = p6 + 1 := ⟨_, rfl⟩
                replace e := ky_letE ex102 e
                refine v_iinc (v := x102) (j := 6) (L' := [(0, .ref a), (1, .int p1), (2, .int p2), (3, .int p3), (4, .int x7), (5, .int p5), (6, .int x102), (7, .int x4), (8, .int x9), (9, .int x11), (10, .int 0)]) [1, 2, 3, 4, 5, 6, 0, 7, 8, 9, 10] (i := 145) rfl rfl (by rw [ex102]; rfl) (Nat.le_of_ble_eq_true rfl) rfl (?_ : ky_V _ _ _ 268 _ _ _ _)
                refine v_goto (tgt := 23) (i := 146) rfl (by decide) (?_ : ky_V _ _ _ 23 _ _ _ _)
                refine ky_loc (L' := [(0, .ref a), (1, .int p1), (2, .int p2), (3, .int p3), (4, .int x7), (5, .int p5), (6, .int x102)]) (by simp) ?_
                exact ih h100 q101 p1 p2 p3 x7 p5 x102 hmh100 frh100 e
            · replace e := ky_ifF c90 e
              refine v_iconst (v := 1) (i := 93) rfl (by decide) (?_ : ky_V _ _ _ 163 _ _ _ _)
              refine v_goto (tgt := 229) (i := 94) rfl (by decide) (?_ : ky_V _ _ _ 229 _ _ _ _)
              refine v_istore (L' := [(0, .ref a), (1, .int p1), (2, .int p2), (3, .int p3), (4, .int x7), (5, .int p5), (6, .int p6), (7, .int x4), (8, .int x9), (9, .int x11), (10, .int 1)]) [1, 2, 3, 4, 5, 6, 7, 8, 9, 10, 0] (i := 126) rfl (Nat.le_of_ble_eq_true rfl) rfl (?_ : ky_V _ _ _ 231 _ _ _ _)
              refine v_aload_n (i := 127) (j := 0) rfl rfl (?_ : ky_V _ _ _ 232 _ _ _ _)
              refine gf_X12_39 rfl (i := 128) rfl (md_0 hm) rfl (?_ : ky_V _ _ _ 235 _ _ _ _)
              refine v_iload (i := 129) (j := 4) rfl rfl (?_ : ky_V _ _ _ 237 _ _ _ _)
              refine v_iconst (v := 1) (i := 130) rfl (by decide) (?_ : ky_V _ _ _ 238 _ _ _ _)
              refine v_isub (i := 131) rfl (?_ : ky_V _ _ _ 239 _ _ _ _)
              refine v_iload (i := 132) (j := 7) rfl rfl (?_ : ky_V _ _ _ 241 _ _ _ _)
              refine v_bipush (v := 8) (i := 133) rfl (by decide) (?_ : ky_V _ _ _ 243 _ _ _ _)
              refine v_icmp_ne (tgt := 254) (i := 134) rfl (by decide) (fun c103 => ?_) (fun c103 => ?_)
              · replace e := ky_ifF c103 e
                refine v_iload (i := 139) (j := 10) rfl rfl (?_ : ky_V _ _ _ 256 _ _ _ _)
                refine v_if_eq (tgt := 263) (i := 140) rfl (by decide) (fun c104 => ?_) (fun c104 => ?_)
                · replace e := ky_ifT c104 e
                  refine v_iconst (v := 0) (i := 143) rfl (by decide) (?_ : ky_V _ _ _ 264 _ _ _ _)
                  refine v_iast (i := 144) rfl (md_8 hm) (ky_inb z8) ?_
                  refine bk_st (B := md_B G a) hm fr 8 (Int32.toNatClampNeg (x7 - 1)) 0 (by decide) (fun h105 hmh105 frh105 => ?_)
                  obtain ⟨q106, eq106⟩ : ∃ z, z = (bk_w c 8 (Int32.toNatClampNeg (x7 - 1)) 0) := ⟨_, rfl⟩
                  rw [← eq106] at hmh105
                  replace e := ky_letE eq106 e
                  refine (?_ : ky_V _ _ _ 265 _ _ _ _)
                  obtain ⟨x107, ex107⟩ : ∃ z : Int32, z = p6 + 1 := ⟨_, rfl⟩
                  replace e := ky_letE ex107 e
                  refine v_iinc (v := x107) (j := 6) (L' := [(0, .ref a), (1, .int p1), (2, .int p2), (3, .int p3), (4, .int x7), (5, .int p5), (6, .int x107), (7, .int x4), (8, .int x9), (9, .int x11), (10, .int 1)]) [1, 2, 3, 4, 5, 6, 0, 7, 8, 9, 10] (i := 145) rfl rfl (by rw [ex107]; rfl) (Nat.le_of_ble_eq_true rfl) rfl (?_ : ky_V _ _ _ 268 _ _ _ _)
                  refine v_goto (tgt := 23) (i := 146) rfl (by decide) (?_ : ky_V _ _ _ 23 _ _ _ _)
                  refine ky_loc (L' := [(0, .ref a), (1, .int p1), (2, .int p2), (3, .int p3), (4, .int x7), (5, .int p5), (6, .int x107)]) (by simp) ?_
                  exact ih h105 q106 p1 p2 p3 x7 p5 x107 hmh105 frh105 e
                · replace e := ky_ifF c104 e
                  refine v_iconst (v := 1) (i := 141) rfl (by decide) (?_ : ky_V _ _ _ 260 _ _ _ _)
                  refine v_goto (tgt := 264) (i := 142) rfl (by decide) (?_ : ky_V _ _ _ 264 _ _ _ _)
                  refine v_iast (i := 144) rfl (md_8 hm) (ky_inb z8) ?_
                  refine bk_st (B := md_B G a) hm fr 8 (Int32.toNatClampNeg (x7 - 1)) 1 (by decide) (fun h108 hmh108 frh108 => ?_)
                  obtain ⟨q109, eq109⟩ : ∃ z, z = (bk_w c 8 (Int32.toNatClampNeg (x7 - 1)) 1) := ⟨_, rfl⟩
                  rw [← eq109] at hmh108
                  replace e := ky_letE eq109 e
                  refine (?_ : ky_V _ _ _ 265 _ _ _ _)
                  obtain ⟨x110, ex110⟩ : ∃ z : Int32, z = p6 + 1 := ⟨_, rfl⟩
                  replace e := ky_letE ex110 e
                  refine v_iinc (v := x110) (j := 6) (L' := [(0, .ref a), (1, .int p1), (2, .int p2), (3, .int p3), (4, .int x7), (5, .int p5), (6, .int x110), (7, .int x4), (8, .int x9), (9, .int x11), (10, .int 1)]) [1, 2, 3, 4, 5, 6, 0, 7, 8, 9, 10] (i := 145) rfl rfl (by rw [ex110]; rfl) (Nat.le_of_ble_eq_true rfl) rfl (?_ : ky_V _ _ _ 268 _ _ _ _)
                  refine v_goto (tgt := 23) (i := 146) rfl (by decide) (?_ : ky_V _ _ _ 23 _ _ _ _)
                  refine ky_loc (L' := [(0, .ref a), (1, .int p1), (2, .int p2), (3, .int p3), (4, .int x7), (5, .int p5), (6, .int x110)]) (by simp) ?_
                  exact ih h108 q109 p1 p2 p3 x7 p5 x110 hmh108 frh108 e
              · replace e := ky_ifT c103 e
                refine v_iload (i := 135) (j := 8) rfl rfl (?_ : ky_V _ _ _ 248 _ _ _ _)
                refine v_iload (i := 136) (j := 9) rfl rfl (?_ : ky_V _ _ _ 250 _ _ _ _)
                refine v_iadd (i := 137) rfl (?_ : ky_V _ _ _ 251 _ _ _ _)
                refine v_goto (tgt := 264) (i := 138) rfl (by decide) (?_ : ky_V _ _ _ 264 _ _ _ _)
                refine v_topi (fun x111 ex111 => ?_)
                replace e := ky_letE ex111 e
                refine v_iast (i := 144) rfl (md_8 hm) (ky_inb z8) ?_
                refine bk_st (B := md_B G a) hm fr 8 (Int32.toNatClampNeg (x7 - 1)) x111 (by decide) (fun h112 hmh112 frh112 => ?_)
                obtain ⟨q113, eq113⟩ : ∃ z, z = (bk_w c 8 (Int32.toNatClampNeg (x7 - 1)) x111) := ⟨_, rfl⟩
                rw [← eq113] at hmh112
                replace e := ky_letE eq113 e
                refine (?_ : ky_V _ _ _ 265 _ _ _ _)
                obtain ⟨x114, ex114⟩ : ∃ z : Int32, z = p6 + 1 := ⟨_, rfl⟩
                replace e := ky_letE ex114 e
                refine v_iinc (v := x114) (j := 6) (L' := [(0, .ref a), (1, .int p1), (2, .int p2), (3, .int p3), (4, .int x7), (5, .int p5), (6, .int x114), (7, .int x4), (8, .int x9), (9, .int x11), (10, .int 1)]) [1, 2, 3, 4, 5, 6, 0, 7, 8, 9, 10] (i := 145) rfl rfl (by rw [ex114]; rfl) (Nat.le_of_ble_eq_true rfl) rfl (?_ : ky_V _ _ _ 268 _ _ _ _)
                refine v_goto (tgt := 23) (i := 146) rfl (by decide) (?_ : ky_V _ _ _ 23 _ _ _ _)
                refine ky_loc (L' := [(0, .ref a), (1, .int p1), (2, .int p2), (3, .int p3), (4, .int x7), (5, .int p5), (6, .int x114)]) (by simp) ?_
                exact ih h112 q113 p1 p2 p3 x7 p5 x114 hmh112 frh112 e
        · replace e := ky_ifT c6 e
          refine v_aload_n (i := 59) (j := 0) rfl rfl (?_ : ky_V _ _ _ 103 _ _ _ _)
          refine gf_X12_39 rfl (i := 60) rfl (md_0 hm) rfl (?_ : ky_V _ _ _ 106 _ _ _ _)
          refine v_iload (i := 61) (j := 4) rfl rfl (?_ : ky_V _ _ _ 108 _ _ _ _)
          refine v_iconst (v := 1) (i := 62) rfl (by decide) (?_ : ky_V _ _ _ 109 _ _ _ _)
          refine v_isub (i := 63) rfl (?_ : ky_V _ _ _ 110 _ _ _ _)
          refine v_iconst (v := 1) (i := 64) rfl (by decide) (?_ : ky_V _ _ _ 111 _ _ _ _)
          refine v_aload_n (i := 65) (j := 0) rfl rfl (?_ : ky_V _ _ _ 112 _ _ _ _)
          refine gf_X12_39 rfl (i := 66) rfl (md_0 hm) rfl (?_ : ky_V _ _ _ 115 _ _ _ _)
          refine v_iload (i := 67) (j := 4) rfl rfl (?_ : ky_V _ _ _ 117 _ _ _ _)
          refine v_iconst (v := 1) (i := 68) rfl (by decide) (?_ : ky_V _ _ _ 118 _ _ _ _)
          refine v_isub (i := 69) rfl (?_ : ky_V _ _ _ 119 _ _ _ _)
          obtain ⟨z115, e⟩ := ky_chkE e
          refine v_iald (i := 70) rfl (md_8 hm) (ky_inb z115) (?_ : ky_V _ _ _ 120 _ (.int (c 8 (Int32.toNatClampNeg (p4 - 1))) :: _) _ _)
          refine v_isub (i := 71) rfl (?_ : ky_V _ _ _ 121 _ _ _ _)
          refine v_topi (fun x116 ex116 => ?_)
          replace e := ky_letE ex116 e
          refine v_iast (i := 72) rfl (md_8 hm) (ky_inb z115) ?_
          refine bk_st (B := md_B G a) hm fr 8 (Int32.toNatClampNeg (p4 - 1)) x116 (by decide) (fun h117 hmh117 frh117 => ?_)
          obtain ⟨q118, eq118⟩ : ∃ z, z = (bk_w c 8 (Int32.toNatClampNeg (p4 - 1)) x116) := ⟨_, rfl⟩
          rw [← eq118] at hmh117
          replace e := ky_letE eq118 e
          refine (?_ : ky_V _ _ _ 122 _ _ _ _)
          refine v_goto (tgt := 265) (i := 73) rfl (by decide) (?_ : ky_V _ _ _ 265 _ _ _ _)
          obtain ⟨x119, ex119⟩ : ∃ z : Int32, z = p6 + 1 := ⟨_, rfl⟩
          replace e := ky_letE ex119 e
          refine v_iinc (v := x119) (j := 6) (L' := [(0, .ref a), (1, .int p1), (2, .int p2), (3, .int p3), (4, .int p4), (5, .int p5), (6, .int x119), (7, .int x4)]) [1, 2, 3, 4, 5, 6, 0, 7] (i := 145) rfl rfl (by rw [ex119]; rfl) (Nat.le_of_ble_eq_true rfl) rfl (?_ : ky_V _ _ _ 268 _ _ _ _)
          refine v_goto (tgt := 23) (i := 146) rfl (by decide) (?_ : ky_V _ _ _ 23 _ _ _ _)
          refine ky_loc (L' := [(0, .ref a), (1, .int p1), (2, .int p2), (3, .int p3), (4, .int p4), (5, .int p5), (6, .int x119)]) (by simp) ?_
          exact ih h117 q118 p1 p2 p3 p4 p5 x119 hmh117 frh117 e
      · replace e := ky_ifF c5 e
        refine v_aload_n (i := 35) (j := 0) rfl rfl (?_ : ky_V _ _ _ 60 _ _ _ _)
        refine gf_X12_39 rfl (i := 36) rfl (md_0 hm) rfl (?_ : ky_V _ _ _ 63 _ _ _ _)
        refine v_iload (i := 37) (j := 4) rfl rfl (?_ : ky_V _ _ _ 65 _ _ _ _)
        refine v_aload_n (i := 38) (j := 0) rfl rfl (?_ : ky_V _ _ _ 66 _ _ _ _)
        refine v_iload (i := 39) (j := 7) rfl rfl (?_ : ky_V _ _ _ 68 _ _ _ _)
        refine v_aload_n (i := 40) (j := 0) rfl rfl (?_ : ky_V _ _ _ 69 _ _ _ _)
        refine gf_X12_13 rfl (i := 41) rfl (md_0 hm) rfl (?_ : ky_V _ _ _ 72 _ _ _ _)
        refine v_sipush (v := 598) (i := 42) rfl (by decide) (?_ : ky_V _ _ _ 75 _ _ _ _)
        refine v_iconst (v := 2) (i := 43) rfl (by decide) (?_ : ky_V _ _ _ 76 _ _ _ _)
        refine v_iload (i := 44) (j := 6) rfl rfl (?_ : ky_V _ _ _ 78 _ _ _ _)
        refine v_imul (i := 45) rfl (?_ : ky_V _ _ _ 79 _ _ _ _)
        refine v_iadd (i := 46) rfl (?_ : ky_V _ _ _ 80 _ _ _ _)
        refine v_iconst (v := 1) (i := 47) rfl (by decide) (?_ : ky_V _ _ _ 81 _ _ _ _)
        refine v_iadd (i := 48) rfl (?_ : ky_V _ _ _ 82 _ _ _ _)
        obtain ⟨z120, e⟩ := ky_chkE e
        refine v_iald (i := 49) rfl (md_1 hm) (ky_inb z120) (?_ : ky_V _ _ _ 83 _ (.int (c 1 (Int32.toNatClampNeg ((598 + (2 * p6)) + 1))) :: _) _ _)
        refine v_iload_n (i := 50) (j := 2) rfl rfl (?_ : ky_V _ _ _ 84 _ _ _ _)
        refine v_iload_n (i := 51) (j := 3) rfl rfl (?_ : ky_V _ _ _ 85 _ _ _ _)
        obtain ⟨⟨q122, x123⟩, g124, e⟩ := Option.bind_eq_some_iff.mp e
        refine cl_X12_248 (As := [.int x4, .int ((c 1 (Int32.toNatClampNeg ((598 + (2 * p6)) + 1)))), .int p2, .int p3]) rfl (i := 52) rfl (md_0 hm) rfl rfl (Nat.le_of_ble_eq_true rfl) (k_X12_factOf N hm g124 (fun h121 hmh121 frh121 => ⟨_, rfl, (?_ : ky_V _ _ _ 88 _ [.int x123, .int p4, .ref ((a + 8))] _ _)⟩))
        have frh121 := fr.tr frh121
        obtain ⟨z125, e⟩ := ky_chkE e
        refine v_iast (i := 53) rfl (md_8 hmh121) (ky_inb z125) ?_
        refine bk_st (B := md_B G a) hmh121 frh121 8 (Int32.toNatClampNeg p4) x123 (by decide) (fun h126 hmh126 frh126 => ?_)
        obtain ⟨q127, eq127⟩ : ∃ z, z = (bk_w q122 8 (Int32.toNatClampNeg p4) x123) := ⟨_, rfl⟩
        rw [← eq127] at hmh126
        replace e := ky_letE eq127 e
        refine (?_ : ky_V _ _ _ 89 _ _ _ _)
        obtain ⟨x128, ex128⟩ : ∃ z : Int32, z = p4 + 1 := ⟨_, rfl⟩
        replace e := ky_letE ex128 e
        refine v_iinc (v := x128) (j := 4) (L' := [(0, .ref a), (1, .int p1), (2, .int p2), (3, .int p3), (4, .int x128), (5, .int p5), (6, .int p6), (7, .int x4)]) [1, 2, 3, 4, 0, 5, 6, 7] (i := 54) rfl rfl (by rw [ex128]; rfl) (Nat.le_of_ble_eq_true rfl) rfl (?_ : ky_V _ _ _ 92 _ _ _ _)
        refine v_goto (tgt := 265) (i := 55) rfl (by decide) (?_ : ky_V _ _ _ 265 _ _ _ _)
        obtain ⟨x129, ex129⟩ : ∃ z : Int32, z = p6 + 1 := ⟨_, rfl⟩
        replace e := ky_letE ex129 e
        refine v_iinc (v := x129) (j := 6) (L' := [(0, .ref a), (1, .int p1), (2, .int p2), (3, .int p3), (4, .int x128), (5, .int p5), (6, .int x129), (7, .int x4)]) [1, 2, 3, 4, 5, 6, 0, 7] (i := 145) rfl rfl (by rw [ex129]; rfl) (Nat.le_of_ble_eq_true rfl) rfl (?_ : ky_V _ _ _ 268 _ _ _ _)
        refine v_goto (tgt := 23) (i := 146) rfl (by decide) (?_ : ky_V _ _ _ 23 _ _ _ _)
        refine ky_loc (L' := [(0, .ref a), (1, .int p1), (2, .int p2), (3, .int p3), (4, .int x128), (5, .int p5), (6, .int x129)]) (by simp) ?_
        exact ih h126 q127 p1 p2 p3 x128 p5 x129 hmh126 frh126 e

def md_holdsLine (N : Nat) (c : (Nat → Nat → Int32)) (p1 : Int32) (p2 : Int32) (p3 : Int32) : Option ((Nat → Nat → Int32) × Int32) := (ky_let (550 + (4 * p1)) (fun x1 => (if ky_inB (x1 + 2) 2247 = true then (ky_let (c 1 (Int32.toNatClampNeg (x1 + 2))) (fun x3 => (md_holdsLine_L23 N (fun q5 x6 x7 x8 x9 x10 x11 => (if x9 = 0 then (some (q5, 1)) else (if (q5 8 0) = (1 : Int32) then (some (q5, 1)) else (some (q5, 0))))) N c p1 p2 p3 0 x1 x3))) else none)))
set_option maxRecDepth 20000 in
set_option maxHeartbeats 4000000 in
theorem k_X12_holdsLine {G : ky_GW} {d : Nat} {h : ky_HP} {Q : ky_RS → ky_HP → Prop} {a : Nat} {c c9 : (Nat → Nat → Int32)} {r9 : Int32} {p1 : Int32} {p2 : Int32} {p3 : Int32} (N : Nat) (hm : md_at G h a c) (e : md_holdsLine N c p1 p2 p3 = some (c9, r9)) (hr : ∀ h1, md_at G h1 a c9 → bk_fr a 13 h h1 → Q (.inl (some (.int r9))) h1) : ky_Call G (d + 1) M_X12_holdsLine [.ref a, .int p1, .int p2, .int p3] h Q := by
  refine ky_ofV (by decide +kernel) rfl ok_X12_holdsLine (Nat.le_of_ble_eq_true rfl) ?_
  have fr : bk_fr a 13 h h := bk_fr.rf
  unfold md_holdsLine at e
  refine (?_ : ky_V _ _ _ 0 [(0, .ref a), (1, .int p1), (2, .int p2), (3, .int p3)] [] _ _)
  refine v_iconst (v := 0) (i := 0) rfl (by decide) (?_ : ky_V _ _ _ 1 _ _ _ _)
  refine v_istore (L' := [(0, .ref a), (1, .int p1), (2, .int p2), (3, .int p3), (4, .int 0)]) [1, 2, 3, 4, 0] (i := 1) rfl (Nat.le_of_ble_eq_true rfl) rfl (?_ : ky_V _ _ _ 3 _ _ _ _)
  refine v_sipush (v := 550) (i := 2) rfl (by decide) (?_ : ky_V _ _ _ 6 _ _ _ _)
  refine v_iconst (v := 4) (i := 3) rfl (by decide) (?_ : ky_V _ _ _ 7 _ _ _ _)
  refine v_iload_n (i := 4) (j := 1) rfl rfl (?_ : ky_V _ _ _ 8 _ _ _ _)
  refine v_imul (i := 5) rfl (?_ : ky_V _ _ _ 9 _ _ _ _)
  refine v_iadd (i := 6) rfl (?_ : ky_V _ _ _ 10 _ _ _ _)
  refine v_topi (fun x1 ex1 => ?_)
  replace e := ky_letE ex1 e
  refine v_istore (L' := [(0, .ref a), (1, .int p1), (2, .int p2), (3, .int p3), (4, .int 0), (5, .int x1)]) [1, 2, 3, 4, 5, 0] (i := 7) rfl (Nat.le_of_ble_eq_true rfl) rfl (?_ : ky_V _ _ _ 12 _ _ _ _)
  refine v_aload_n (i := 8) (j := 0) rfl rfl (?_ : ky_V _ _ _ 13 _ _ _ _)
  refine gf_X12_13 rfl (i := 9) rfl (md_0 hm) rfl (?_ : ky_V _ _ _ 16 _ _ _ _)
  refine v_iload (i := 10) (j := 5) rfl rfl (?_ : ky_V _ _ _ 18 _ _ _ _)
  refine v_iconst (v := 2) (i := 11) rfl (by decide) (?_ : ky_V _ _ _ 19 _ _ _ _)
  refine v_iadd (i := 12) rfl (?_ : ky_V _ _ _ 20 _ _ _ _)
  obtain ⟨z2, e⟩ := ky_chkE e
  refine v_iald (i := 13) rfl (md_1 hm) (ky_inb z2) (?_ : ky_V _ _ _ 21 _ (.int (c 1 (Int32.toNatClampNeg (x1 + 2))) :: _) _ _)
  refine v_topi (fun x3 ex3 => ?_)
  replace e := ky_letE ex3 e
  refine v_istore (L' := [(0, .ref a), (1, .int p1), (2, .int p2), (3, .int p3), (4, .int 0), (5, .int x1), (6, .int x3)]) [1, 2, 3, 4, 5, 6, 0] (i := 14) rfl (Nat.le_of_ble_eq_true rfl) rfl (?_ : ky_V _ _ _ 23 _ _ _ _)
  refine lv_X12_holdsLine_23 N _ hr (fun h4 q5 x6 x7 x8 x9 x10 x11 hmh4 frh4 e => ?_) N h c p1 p2 p3 0 x1 x3 hm fr e
  refine v_iload (i := 147) (j := 4) rfl rfl (?_ : ky_V _ _ _ 273 _ _ _ _)
  refine v_if_eq (tgt := 286) (i := 148) rfl (by decide) (fun c12 => ?_) (fun c12 => ?_)
  · replace e := ky_ifT c12 e
    refine v_iconst (v := 1) (i := 155) rfl (by decide) (?_ : ky_V _ _ _ 287 _ _ _ _)
    refine v_goto (tgt := 291) (i := 156) rfl (by decide) (?_ : ky_V _ _ _ 291 _ _ _ _)
    refine v_iret (v := 1) (ty := .boolean) (i := 158) rfl rfl (by decide) ?_
    obtain ⟨rfl, rfl⟩ := ky_leaf e
    exact hr _ hmh4 frh4
  · replace e := ky_ifF c12 e
    refine v_aload_n (i := 149) (j := 0) rfl rfl (?_ : ky_V _ _ _ 277 _ _ _ _)
    refine gf_X12_39 rfl (i := 150) rfl (md_0 hmh4) rfl (?_ : ky_V _ _ _ 280 _ _ _ _)
    refine v_iconst (v := 0) (i := 151) rfl (by decide) (?_ : ky_V _ _ _ 281 _ _ _ _)
    refine v_iald (i := 152) rfl (md_8 hmh4) (ky_inl (by decide)) (?_ : ky_V _ _ _ 282 _ (.int (q5 8 0) :: _) _ _)
    refine v_iconst (v := 1) (i := 153) rfl (by decide) (?_ : ky_V _ _ _ 283 _ _ _ _)
    refine v_icmp_ne (tgt := 290) (i := 154) rfl (by decide) (fun c13 => ?_) (fun c13 => ?_)
    · replace e := ky_ifF c13 e
      refine v_iconst (v := 0) (i := 157) rfl (by decide) (?_ : ky_V _ _ _ 291 _ _ _ _)
      refine v_iret (v := 0) (ty := .boolean) (i := 158) rfl rfl (by decide) ?_
      obtain ⟨rfl, rfl⟩ := ky_leaf e
      exact hr _ hmh4 frh4
    · replace e := ky_ifT c13 e
      refine v_iconst (v := 1) (i := 155) rfl (by decide) (?_ : ky_V _ _ _ 287 _ _ _ _)
      refine v_goto (tgt := 291) (i := 156) rfl (by decide) (?_ : ky_V _ _ _ 291 _ _ _ _)
      refine v_iret (v := 1) (ty := .boolean) (i := 158) rfl rfl (by decide) ?_
      obtain ⟨rfl, rfl⟩ := ky_leaf e
      exact hr _ hmh4 frh4

def md_laysNeed_L2 (N : Nat) (k : (Nat → Nat → Int32) → Int32 → Int32 → Option ((Nat → Nat → Int32) × Int32)) : Nat → (Nat → Nat → Int32) → Int32 → Int32 → Option ((Nat → Nat → Int32) × Int32)
  | 0, _, _, _ => none
  | n + 1, c, p1, p2 => (if (1200 : Int32) ≤ p2 then (k c p1 p2) else (if (md_isOutAt p2) = 0 then (if ky_inB p2 1200 = true then (ky_let (bk_w c 11 (Int32.toNatClampNeg p2) 1000000) (fun q5 => (ky_let (p2 + 1) (fun x6 => (md_laysNeed_L2 N k n q5 p1 x6))))) else none) else (if ky_inB p2 1200 = true then (ky_let (bk_w c 11 (Int32.toNatClampNeg p2) 0) (fun q9 => (ky_let (p2 + 1) (fun x10 => (md_laysNeed_L2 N k n q9 p1 x10))))) else none)))
set_option maxRecDepth 20000 in
set_option maxHeartbeats 4000000 in
theorem lv_X12_laysNeed_2 {G : ky_GW} {d : Nat} {h0 : ky_HP} {Q : ky_RS → ky_HP → Prop} {a : Nat} {c9 : (Nat → Nat → Int32)} {r9 : Int32} (N : Nat) (k : (Nat → Nat → Int32) → Int32 → Int32 → Option ((Nat → Nat → Int32) × Int32)) (hr : ∀ h1, md_at G h1 a c9 → bk_fr a 13 h0 h1 → Q (.inl none) h1)
    (hk : ∀ (h : ky_HP) (c : (Nat → Nat → Int32)) (p1 : Int32) (p2 : Int32), md_at G h a c → bk_fr a 13 h0 h → k c p1 p2 = some (c9, r9) → ky_V G (d + 3) M_X12_laysNeed 35 [(0, .ref a), (1, .int p1), (2, .int p2)] [] h Q) :
    ∀ (n : Nat) (h : ky_HP) (c : (Nat → Nat → Int32)) (p1 : Int32) (p2 : Int32), md_at G h a c → bk_fr a 13 h0 h → md_laysNeed_L2 N k n c p1 p2 = some (c9, r9) → ky_V G (d + 3) M_X12_laysNeed 2 [(0, .ref a), (1, .int p1), (2, .int p2)] [] h Q := by
  intro n
  induction n with
  | zero => intro h c p1 p2 hm fr e; cases e
  | succ n ih =>
    intro h c p1 p2 hm fr e
    rw [md_laysNeed_L2] at e
    refine v_iload_n (i := 2) (j := 2) rfl rfl (?_ : ky_V _ _ _ 3 _ _ _ _)
    refine v_sipush (v := 1200) (i := 3) rfl (by decide) (?_ : ky_V _ _ _ 6 _ _ _ _)
    refine v_icmp_ge (tgt := 35) (i := 4) rfl (by decide) (fun c1 => ?_) (fun c1 => ?_)
    · replace e := ky_ifT c1 e
      exact hk h c p1 p2 hm fr e
    · replace e := ky_ifF c1 e
      refine v_aload_n (i := 5) (j := 0) rfl rfl (?_ : ky_V _ _ _ 10 _ _ _ _)
      refine gf_X12_48 rfl (i := 6) rfl (md_0 hm) rfl (?_ : ky_V _ _ _ 13 _ _ _ _)
      refine v_iload_n (i := 7) (j := 2) rfl rfl (?_ : ky_V _ _ _ 14 _ _ _ _)
      refine v_iload_n (i := 8) (j := 2) rfl rfl (?_ : ky_V _ _ _ 15 _ _ _ _)
      refine cl_X12_311 (As := [.int p2]) rfl (i := 9) rfl rfl rfl (Nat.le_of_ble_eq_true rfl) (k_X12_isOutAt p2 ⟨_, rfl, (?_ : ky_V _ _ _ 18 _ [.int ((md_isOutAt p2)), .int p2, .ref ((a + 11))] _ _)⟩)
      refine v_if_eq (tgt := 25) (i := 10) rfl (by decide) (fun c2 => ?_) (fun c2 => ?_)
      · replace e := ky_ifT c2 e
        refine v_ldcw (v := 1000000) (i := 13) rfl (ky_t8 (i := 116) rfl rfl) (?_ : ky_V _ _ _ 28 _ _ _ _)
        obtain ⟨z3, e⟩ := ky_chkE e
        refine v_iast (i := 14) rfl (md_11 hm) (ky_inb z3) ?_
        refine bk_st (B := md_B G a) hm fr 11 (Int32.toNatClampNeg p2) 1000000 (by decide) (fun h4 hmh4 frh4 => ?_)
        obtain ⟨q5, eq5⟩ : ∃ z, z = (bk_w c 11 (Int32.toNatClampNeg p2) 1000000) := ⟨_, rfl⟩
        rw [← eq5] at hmh4
        replace e := ky_letE eq5 e
        refine (?_ : ky_V _ _ _ 29 _ _ _ _)
        obtain ⟨x6, ex6⟩ : ∃ z : Int32, z = p2 + 1 := ⟨_, rfl⟩
        replace e := ky_letE ex6 e
        refine v_iinc (v := x6) (j := 2) (L' := [(0, .ref a), (1, .int p1), (2, .int x6)]) [1, 2, 0] (i := 15) rfl rfl (by rw [ex6]; rfl) (Nat.le_of_ble_eq_true rfl) rfl (?_ : ky_V _ _ _ 32 _ _ _ _)
        refine v_goto (tgt := 2) (i := 16) rfl (by decide) (?_ : ky_V _ _ _ 2 _ _ _ _)
        exact ih h4 q5 p1 x6 hmh4 frh4 e
      · replace e := ky_ifF c2 e
        refine v_iconst (v := 0) (i := 11) rfl (by decide) (?_ : ky_V _ _ _ 22 _ _ _ _)
        refine v_goto (tgt := 28) (i := 12) rfl (by decide) (?_ : ky_V _ _ _ 28 _ _ _ _)
        obtain ⟨z7, e⟩ := ky_chkE e
        refine v_iast (i := 14) rfl (md_11 hm) (ky_inb z7) ?_
        refine bk_st (B := md_B G a) hm fr 11 (Int32.toNatClampNeg p2) 0 (by decide) (fun h8 hmh8 frh8 => ?_)
        obtain ⟨q9, eq9⟩ : ∃ z, z = (bk_w c 11 (Int32.toNatClampNeg p2) 0) := ⟨_, rfl⟩
        rw [← eq9] at hmh8
        replace e := ky_letE eq9 e
        refine (?_ : ky_V _ _ _ 29 _ _ _ _)
        obtain ⟨x10, ex10⟩ : ∃ z : Int32, z = p2 + 1 := ⟨_, rfl⟩
        replace e := ky_letE ex10 e
        refine v_iinc (v := x10) (j := 2) (L' := [(0, .ref a), (1, .int p1), (2, .int x10)]) [1, 2, 0] (i := 15) rfl rfl (by rw [ex10]; rfl) (Nat.le_of_ble_eq_true rfl) rfl (?_ : ky_V _ _ _ 32 _ _ _ _)
        refine v_goto (tgt := 2) (i := 16) rfl (by decide) (?_ : ky_V _ _ _ 2 _ _ _ _)
        exact ih h8 q9 p1 x10 hmh8 frh8 e

def md_laysNeed_L45 (N : Nat) (k : (Nat → Nat → Int32) → Int32 → Int32 → Int32 → Option ((Nat → Nat → Int32) × Int32)) : Nat → (Nat → Nat → Int32) → Int32 → Int32 → Int32 → Option ((Nat → Nat → Int32) × Int32)
  | 0, _, _, _, _ => none
  | n + 1, c, p1, p2, p3 => (if (1200 : Int32) ≤ p3 then (k c p1 p2 p3) else ((md_bestOf N c p3 p1).bind (fun zz => (fun q3 x4 => (if p2 = 0 then (if ky_inB p3 1200 = true then (if (q3 11 (Int32.toNatClampNeg p3)) ≤ x4 then (ky_let (bk_w q3 11 (Int32.toNatClampNeg p3) x4) (fun q14 => (ky_let (p3 + 1) (fun x15 => (md_laysNeed_L45 N k n q14 p1 0 x15))))) else (ky_let (bk_w q3 11 (Int32.toNatClampNeg p3) x4) (fun q17 => (ky_let (p3 + 1) (fun x18 => (md_laysNeed_L45 N k n q17 p1 1 x18)))))) else none) else (if ky_inB p3 1200 = true then (ky_let (bk_w q3 11 (Int32.toNatClampNeg p3) x4) (fun q9 => (ky_let (p3 + 1) (fun x10 => (md_laysNeed_L45 N k n q9 p1 1 x10))))) else none))) zz.1 zz.2)))
set_option maxRecDepth 20000 in
set_option maxHeartbeats 4000000 in
theorem lv_X12_laysNeed_45 {G : ky_GW} {d : Nat} {h0 : ky_HP} {Q : ky_RS → ky_HP → Prop} {a : Nat} {c9 : (Nat → Nat → Int32)} {r9 : Int32} (N : Nat) (k : (Nat → Nat → Int32) → Int32 → Int32 → Int32 → Option ((Nat → Nat → Int32) × Int32)) (hr : ∀ h1, md_at G h1 a c9 → bk_fr a 13 h0 h1 → Q (.inl none) h1)
    (hk : ∀ (h : ky_HP) (c : (Nat → Nat → Int32)) (p1 : Int32) (p2 : Int32) (p3 : Int32), md_at G h a c → bk_fr a 13 h0 h → k c p1 p2 p3 = some (c9, r9) → ky_V G (d + 3) M_X12_laysNeed 95 [(0, .ref a), (1, .int p1), (2, .int p2), (3, .int p3)] [] h Q) :
    ∀ (n : Nat) (h : ky_HP) (c : (Nat → Nat → Int32)) (p1 : Int32) (p2 : Int32) (p3 : Int32), md_at G h a c → bk_fr a 13 h0 h → md_laysNeed_L45 N k n c p1 p2 p3 = some (c9, r9) → ky_V G (d + 3) M_X12_laysNeed 45 [(0, .ref a), (1, .int p1), (2, .int p2), (3, .int p3)] [] h Q := by
  intro n
  induction n with
  | zero => intro h c p1 p2 p3 hm fr e; cases e
  | succ n ih =>
    intro h c p1 p2 p3 hm fr e
    rw [md_laysNeed_L45] at e
    refine v_iload_n (i := 25) (j := 3) rfl rfl (?_ : ky_V _ _ _ 46 _ _ _ _)
    refine v_sipush (v := 1200) (i := 26) rfl (by decide) (?_ : ky_V _ _ _ 49 _ _ _ _)
    refine v_icmp_ge (tgt := 95) (i := 27) rfl (by decide) (fun c1 => ?_) (fun c1 => ?_)
    · replace e := ky_ifT c1 e
      exact hk h c p1 p2 p3 hm fr e
    · replace e := ky_ifF c1 e
      refine v_aload_n (i := 28) (j := 0) rfl rfl (?_ : ky_V _ _ _ 53 _ _ _ _)
      refine v_iload_n (i := 29) (j := 3) rfl rfl (?_ : ky_V _ _ _ 54 _ _ _ _)
      refine v_iload_n (i := 30) (j := 1) rfl rfl (?_ : ky_V _ _ _ 55 _ _ _ _)
      obtain ⟨⟨q3, x4⟩, g5, e⟩ := Option.bind_eq_some_iff.mp e
      refine cl_X12_315 (As := [.int p3, .int p1]) rfl (i := 31) rfl (md_0 hm) rfl rfl (Nat.le_of_ble_eq_true rfl) (k_X12_bestOf N hm g5 (fun h2 hmh2 frh2 => ⟨_, rfl, (?_ : ky_V _ _ _ 58 _ [.int x4] _ _)⟩))
      have frh2 := fr.tr frh2
      refine v_istore (L' := [(0, .ref a), (1, .int p1), (2, .int p2), (3, .int p3), (4, .int x4)]) [1, 2, 3, 4, 0] (i := 32) rfl (Nat.le_of_ble_eq_true rfl) rfl (?_ : ky_V _ _ _ 60 _ _ _ _)
      refine v_iload_n (i := 33) (j := 2) rfl rfl (?_ : ky_V _ _ _ 61 _ _ _ _)
      refine v_if_ne (tgt := 75) (i := 34) rfl (by decide) (fun c6 => ?_) (fun c6 => ?_)
      · replace e := ky_ifF c6 e
        refine v_iconst (v := 1) (i := 41) rfl (by decide) (?_ : ky_V _ _ _ 76 _ _ _ _)
        refine v_goto (tgt := 80) (i := 42) rfl (by decide) (?_ : ky_V _ _ _ 80 _ _ _ _)
        refine v_istore_n (L' := [(0, .ref a), (1, .int p1), (2, .int 1), (3, .int p3), (4, .int x4)]) [1, 2, 0, 3, 4] (i := 44) rfl (Nat.le_of_ble_eq_true rfl) rfl (?_ : ky_V _ _ _ 81 _ _ _ _)
        refine v_aload_n (i := 45) (j := 0) rfl rfl (?_ : ky_V _ _ _ 82 _ _ _ _)
        refine gf_X12_48 rfl (i := 46) rfl (md_0 hmh2) rfl (?_ : ky_V _ _ _ 85 _ _ _ _)
        refine v_iload_n (i := 47) (j := 3) rfl rfl (?_ : ky_V _ _ _ 86 _ _ _ _)
        refine v_iload (i := 48) (j := 4) rfl rfl (?_ : ky_V _ _ _ 88 _ _ _ _)
        obtain ⟨z7, e⟩ := ky_chkE e
        refine v_iast (i := 49) rfl (md_11 hmh2) (ky_inb z7) ?_
        refine bk_st (B := md_B G a) hmh2 frh2 11 (Int32.toNatClampNeg p3) x4 (by decide) (fun h8 hmh8 frh8 => ?_)
        obtain ⟨q9, eq9⟩ : ∃ z, z = (bk_w q3 11 (Int32.toNatClampNeg p3) x4) := ⟨_, rfl⟩
        rw [← eq9] at hmh8
        replace e := ky_letE eq9 e
        refine (?_ : ky_V _ _ _ 89 _ _ _ _)
        obtain ⟨x10, ex10⟩ : ∃ z : Int32, z = p3 + 1 := ⟨_, rfl⟩
        replace e := ky_letE ex10 e
        refine v_iinc (v := x10) (j := 3) (L' := [(0, .ref a), (1, .int p1), (2, .int 1), (3, .int x10), (4, .int x4)]) [1, 2, 3, 0, 4] (i := 50) rfl rfl (by rw [ex10]; rfl) (Nat.le_of_ble_eq_true rfl) rfl (?_ : ky_V _ _ _ 92 _ _ _ _)
        refine v_goto (tgt := 45) (i := 51) rfl (by decide) (?_ : ky_V _ _ _ 45 _ _ _ _)
        refine ky_loc (L' := [(0, .ref a), (1, .int p1), (2, .int 1), (3, .int x10)]) (by simp) ?_
        exact ih h8 q9 p1 1 x10 hmh8 frh8 e
      · replace e := ky_ifT c6 e
        refine v_iload (i := 35) (j := 4) rfl rfl (?_ : ky_V _ _ _ 66 _ _ _ _)
        refine v_aload_n (i := 36) (j := 0) rfl rfl (?_ : ky_V _ _ _ 67 _ _ _ _)
        refine gf_X12_48 rfl (i := 37) rfl (md_0 hmh2) rfl (?_ : ky_V _ _ _ 70 _ _ _ _)
        refine v_iload_n (i := 38) (j := 3) rfl rfl (?_ : ky_V _ _ _ 71 _ _ _ _)
        obtain ⟨z11, e⟩ := ky_chkE e
        refine v_iald (i := 39) rfl (md_11 hmh2) (ky_inb z11) (?_ : ky_V _ _ _ 72 _ (.int (q3 11 (Int32.toNatClampNeg p3)) :: _) _ _)
        refine v_icmp_ge (tgt := 79) (i := 40) rfl (by decide) (fun c12 => ?_) (fun c12 => ?_)
        · replace e := ky_ifT c12 e
          refine v_iconst (v := 0) (i := 43) rfl (by decide) (?_ : ky_V _ _ _ 80 _ _ _ _)
          refine v_istore_n (L' := [(0, .ref a), (1, .int p1), (2, .int 0), (3, .int p3), (4, .int x4)]) [1, 2, 0, 3, 4] (i := 44) rfl (Nat.le_of_ble_eq_true rfl) rfl (?_ : ky_V _ _ _ 81 _ _ _ _)
          refine v_aload_n (i := 45) (j := 0) rfl rfl (?_ : ky_V _ _ _ 82 _ _ _ _)
          refine gf_X12_48 rfl (i := 46) rfl (md_0 hmh2) rfl (?_ : ky_V _ _ _ 85 _ _ _ _)
          refine v_iload_n (i := 47) (j := 3) rfl rfl (?_ : ky_V _ _ _ 86 _ _ _ _)
          refine v_iload (i := 48) (j := 4) rfl rfl (?_ : ky_V _ _ _ 88 _ _ _ _)
          refine v_iast (i := 49) rfl (md_11 hmh2) (ky_inb z11) ?_
          refine bk_st (B := md_B G a) hmh2 frh2 11 (Int32.toNatClampNeg p3) x4 (by decide) (fun h13 hmh13 frh13 => ?_)
          obtain ⟨q14, eq14⟩ : ∃ z, z = (bk_w q3 11 (Int32.toNatClampNeg p3) x4) := ⟨_, rfl⟩
          rw [← eq14] at hmh13
          replace e := ky_letE eq14 e
          refine (?_ : ky_V _ _ _ 89 _ _ _ _)
          obtain ⟨x15, ex15⟩ : ∃ z : Int32, z = p3 + 1 := ⟨_, rfl⟩
          replace e := ky_letE ex15 e
          refine v_iinc (v := x15) (j := 3) (L' := [(0, .ref a), (1, .int p1), (2, .int 0), (3, .int x15), (4, .int x4)]) [1, 2, 3, 0, 4] (i := 50) rfl rfl (by rw [ex15]; rfl) (Nat.le_of_ble_eq_true rfl) rfl (?_ : ky_V _ _ _ 92 _ _ _ _)
          refine v_goto (tgt := 45) (i := 51) rfl (by decide) (?_ : ky_V _ _ _ 45 _ _ _ _)
          refine ky_loc (L' := [(0, .ref a), (1, .int p1), (2, .int 0), (3, .int x15)]) (by simp) ?_
          exact ih h13 q14 p1 0 x15 hmh13 frh13 e
        · replace e := ky_ifF c12 e
          refine v_iconst (v := 1) (i := 41) rfl (by decide) (?_ : ky_V _ _ _ 76 _ _ _ _)
          refine v_goto (tgt := 80) (i := 42) rfl (by decide) (?_ : ky_V _ _ _ 80 _ _ _ _)
          refine v_istore_n (L' := [(0, .ref a), (1, .int p1), (2, .int 1), (3, .int p3), (4, .int x4)]) [1, 2, 0, 3, 4] (i := 44) rfl (Nat.le_of_ble_eq_true rfl) rfl (?_ : ky_V _ _ _ 81 _ _ _ _)
          refine v_aload_n (i := 45) (j := 0) rfl rfl (?_ : ky_V _ _ _ 82 _ _ _ _)
          refine gf_X12_48 rfl (i := 46) rfl (md_0 hmh2) rfl (?_ : ky_V _ _ _ 85 _ _ _ _)
          refine v_iload_n (i := 47) (j := 3) rfl rfl (?_ : ky_V _ _ _ 86 _ _ _ _)
          refine v_iload (i := 48) (j := 4) rfl rfl (?_ : ky_V _ _ _ 88 _ _ _ _)
          refine v_iast (i := 49) rfl (md_11 hmh2) (ky_inb z11) ?_
          refine bk_st (B := md_B G a) hmh2 frh2 11 (Int32.toNatClampNeg p3) x4 (by decide) (fun h16 hmh16 frh16 => ?_)
          obtain ⟨q17, eq17⟩ : ∃ z, z = (bk_w q3 11 (Int32.toNatClampNeg p3) x4) := ⟨_, rfl⟩
          rw [← eq17] at hmh16
          replace e := ky_letE eq17 e
          refine (?_ : ky_V _ _ _ 89 _ _ _ _)
          obtain ⟨x18, ex18⟩ : ∃ z : Int32, z = p3 + 1 := ⟨_, rfl⟩
          replace e := ky_letE ex18 e
          refine v_iinc (v := x18) (j := 3) (L' := [(0, .ref a), (1, .int p1), (2, .int 1), (3, .int x18), (4, .int x4)]) [1, 2, 3, 0, 4] (i := 50) rfl rfl (by rw [ex18]; rfl) (Nat.le_of_ble_eq_true rfl) rfl (?_ : ky_V _ _ _ 92 _ _ _ _)
          refine v_goto (tgt := 45) (i := 51) rfl (by decide) (?_ : ky_V _ _ _ 45 _ _ _ _)
          refine ky_loc (L' := [(0, .ref a), (1, .int p1), (2, .int 1), (3, .int x18)]) (by simp) ?_
          exact ih h16 q17 p1 1 x18 hmh16 frh16 e

def md_laysNeed_L37 (N : Nat) (k : (Nat → Nat → Int32) → Int32 → Int32 → Option ((Nat → Nat → Int32) × Int32)) : Nat → (Nat → Nat → Int32) → Int32 → Int32 → Option ((Nat → Nat → Int32) × Int32)
  | 0, _, _, _ => none
  | n + 1, c, p1, p2 => (if p2 = 0 then (k c p1 p2) else (md_laysNeed_L45 N (fun q3 x4 x5 x6 => (md_laysNeed_L37 N k n q3 x4 x5)) N c p1 0 0))
set_option maxRecDepth 20000 in
set_option maxHeartbeats 4000000 in
theorem lv_X12_laysNeed_37 {G : ky_GW} {d : Nat} {h0 : ky_HP} {Q : ky_RS → ky_HP → Prop} {a : Nat} {c9 : (Nat → Nat → Int32)} {r9 : Int32} (N : Nat) (k : (Nat → Nat → Int32) → Int32 → Int32 → Option ((Nat → Nat → Int32) × Int32)) (hr : ∀ h1, md_at G h1 a c9 → bk_fr a 13 h0 h1 → Q (.inl none) h1)
    (hk : ∀ (h : ky_HP) (c : (Nat → Nat → Int32)) (p1 : Int32) (p2 : Int32), md_at G h a c → bk_fr a 13 h0 h → k c p1 p2 = some (c9, r9) → ky_V G (d + 3) M_X12_laysNeed 98 [(0, .ref a), (1, .int p1), (2, .int p2)] [] h Q) :
    ∀ (n : Nat) (h : ky_HP) (c : (Nat → Nat → Int32)) (p1 : Int32) (p2 : Int32), md_at G h a c → bk_fr a 13 h0 h → md_laysNeed_L37 N k n c p1 p2 = some (c9, r9) → ky_V G (d + 3) M_X12_laysNeed 37 [(0, .ref a), (1, .int p1), (2, .int p2)] [] h Q := by
  intro n
  induction n with
  | zero => intro h c p1 p2 hm fr e; cases e
  | succ n ih =>
    intro h c p1 p2 hm fr e
    rw [md_laysNeed_L37] at e
    refine v_iload_n (i := 19) (j := 2) rfl rfl (?_ : ky_V _ _ _ 38 _ _ _ _)
    refine v_if_eq (tgt := 98) (i := 20) rfl (by decide) (fun c1 => ?_) (fun c1 => ?_)
    · replace e := ky_ifT c1 e
      exact hk h c p1 p2 hm fr e
    · replace e := ky_ifF c1 e
      refine v_iconst (v := 0) (i := 21) rfl (by decide) (?_ : ky_V _ _ _ 42 _ _ _ _)
      refine v_istore_n (L' := [(0, .ref a), (1, .int p1), (2, .int 0)]) [1, 2, 0] (i := 22) rfl (Nat.le_of_ble_eq_true rfl) rfl (?_ : ky_V _ _ _ 43 _ _ _ _)
      refine v_iconst (v := 0) (i := 23) rfl (by decide) (?_ : ky_V _ _ _ 44 _ _ _ _)
      refine v_istore_n (L' := [(0, .ref a), (1, .int p1), (2, .int 0), (3, .int 0)]) [1, 2, 3, 0] (i := 24) rfl (Nat.le_of_ble_eq_true rfl) rfl (?_ : ky_V _ _ _ 45 _ _ _ _)
      refine lv_X12_laysNeed_45 N _ hr (fun h2 q3 x4 x5 x6 hmh2 frh2 e => ?_) N h c p1 0 0 hm fr e
      refine v_goto (tgt := 37) (i := 52) rfl (by decide) (?_ : ky_V _ _ _ 37 _ _ _ _)
      refine ky_loc (L' := [(0, .ref a), (1, .int x4), (2, .int x5)]) (by simp) ?_
      exact ih h2 q3 x4 x5 hmh2 frh2 e

def md_laysNeed (N : Nat) (c : (Nat → Nat → Int32)) (p1 : Int32) : Option ((Nat → Nat → Int32) × Int32) := (md_laysNeed_L2 N (fun q2 x3 x4 => (md_laysNeed_L37 N (fun q6 x7 x8 => (some (q6, 0))) N q2 x3 1)) N c p1 0)
set_option maxRecDepth 20000 in
set_option maxHeartbeats 4000000 in
theorem k_X12_laysNeed {G : ky_GW} {d : Nat} {h : ky_HP} {Q : ky_RS → ky_HP → Prop} {a : Nat} {c c9 : (Nat → Nat → Int32)} {r9 : Int32} {p1 : Int32} (N : Nat) (hm : md_at G h a c) (e : md_laysNeed N c p1 = some (c9, r9)) (hr : ∀ h1, md_at G h1 a c9 → bk_fr a 13 h h1 → Q (.inl none) h1) : ky_Call G (d + 3) M_X12_laysNeed [.ref a, .int p1] h Q := by
  refine ky_ofV (by decide +kernel) rfl ok_X12_laysNeed (Nat.le_of_ble_eq_true rfl) ?_
  have fr : bk_fr a 13 h h := bk_fr.rf
  unfold md_laysNeed at e
  refine (?_ : ky_V _ _ _ 0 [(0, .ref a), (1, .int p1)] [] _ _)
  refine v_iconst (v := 0) (i := 0) rfl (by decide) (?_ : ky_V _ _ _ 1 _ _ _ _)
  refine v_istore_n (L' := [(0, .ref a), (1, .int p1), (2, .int 0)]) [1, 2, 0] (i := 1) rfl (Nat.le_of_ble_eq_true rfl) rfl (?_ : ky_V _ _ _ 2 _ _ _ _)
  refine lv_X12_laysNeed_2 N _ hr (fun h1 q2 x3 x4 hmh1 frh1 e => ?_) N h c p1 0 hm fr e
  refine v_iconst (v := 1) (i := 17) rfl (by decide) (?_ : ky_V _ _ _ 36 _ _ _ _)
  refine v_istore_n (L' := [(0, .ref a), (1, .int x3), (2, .int 1)]) [1, 2, 0] (i := 18) rfl (Nat.le_of_ble_eq_true rfl) rfl (?_ : ky_V _ _ _ 37 _ _ _ _)
  refine lv_X12_laysNeed_37 N _ hr (fun h5 q6 x7 x8 hmh5 frh5 e => ?_) N h1 q2 x3 1 hmh1 frh1 e
  refine v_vret (i := 53) rfl rfl ?_
  obtain ⟨rfl, rfl⟩ := ky_leaf e
  exact hr _ hmh5 frh5

def md_talk (N : Nat) (c : (Nat → Nat → Int32))  : Option ((Nat → Nat → Int32) × Int32) := (ky_let (bk_w c 0 0 0) (fun q2 => (if (md_isDrowned_r q2) = 0 ∨ (md_isDrowned_r q2) = 1 then (ky_let (md_throwsIf_r q2 (md_isDrowned_r q2) 1) (fun x6 => (ky_let (md_throwsIf_c q2 (md_isDrowned_r q2) 1) (fun q5 => (if x6 = 0 then ((md_takesMinute N q5 4).bind (fun zz => (fun q9 x10 => (some (q9, x10))) zz.1 zz.2)) else (some (q5, 0))))))) else none)))
set_option maxRecDepth 20000 in
set_option maxHeartbeats 4000000 in
theorem k_X12_talk {G : ky_GW} {d : Nat} {h : ky_HP} {Q : ky_RS → ky_HP → Prop} {a : Nat} {c c9 : (Nat → Nat → Int32)} {r9 : Int32}  (N : Nat) (hm : md_at G h a c) (e : md_talk N c = some (c9, r9)) (hr : ∀ h1, md_at G h1 a c9 → bk_fr a 13 h h1 → Q (.inl (some (.int r9))) h1) : ky_Call G (d + 3) M_X12_talk [.ref a] h Q := by
  refine ky_ofV (by decide +kernel) rfl ok_X12_talk (Nat.le_of_ble_eq_true rfl) ?_
  have fr : bk_fr a 13 h h := bk_fr.rf
  unfold md_talk at e
  refine (?_ : ky_V _ _ _ 0 [(0, .ref a)] [] _ _)
  refine v_aload_n (i := 0) (j := 0) rfl rfl (?_ : ky_V _ _ _ 1 _ _ _ _)
  refine v_iconst (v := 0) (i := 1) rfl (by decide) (?_ : ky_V _ _ _ 2 _ _ _ _)
  refine pf_X12_3 rfl (i := 2) rfl (md_0 hm) (Nat.le_of_ble_eq_true rfl) rfl rfl ?_
  refine bk_st (B := md_B G a) hm fr 0 0 0 (by decide) (fun h1 hmh1 frh1 => ?_)
  obtain ⟨q2, eq2⟩ : ∃ z, z = (bk_w c 0 0 0) := ⟨_, rfl⟩
  rw [← eq2] at hmh1
  replace e := ky_letE eq2 e
  refine (?_ : ky_V _ _ _ 5 _ _ _ _)
  refine v_aload_n (i := 3) (j := 0) rfl rfl (?_ : ky_V _ _ _ 6 _ _ _ _)
  refine v_aload_n (i := 4) (j := 0) rfl rfl (?_ : ky_V _ _ _ 7 _ _ _ _)
  refine cl_X12_367 (As := []) rfl (i := 5) rfl (md_0 hmh1) rfl rfl (Nat.le_of_ble_eq_true rfl) (k_X12_isDrowned hmh1 ⟨_, rfl, (?_ : ky_V _ _ _ 10 _ [.int ((md_isDrowned_r q2)), .ref a] _ _)⟩)
  refine v_iconst (v := 1) (i := 6) rfl (by decide) (?_ : ky_V _ _ _ 11 _ _ _ _)
  obtain ⟨z3, e⟩ := ky_chkE e
  refine cl_X12_241 (As := [.int ((md_isDrowned_r q2)), .int 1]) rfl (i := 7) rfl (md_0 hmh1) rfl rfl (Nat.le_of_ble_eq_true rfl) (k_X12_throwsIf (md_isDrowned_r q2) 1 hmh1 z3 (fun h4 hmh4 frh4 => ⟨_, rfl, (?_ : ky_V _ _ _ 14 _ [.int ((md_throwsIf_r q2 (md_isDrowned_r q2) 1))] _ _)⟩))
  have frh4 := frh1.tr frh4
  refine v_topi (fun x6 ex6 => ?_)
  replace e := ky_letE ex6 e
  obtain ⟨q5, eq5⟩ : ∃ z, z = (md_throwsIf_c q2 (md_isDrowned_r q2) 1) := ⟨_, rfl⟩
  rw [← eq5] at hmh4
  replace e := ky_letE eq5 e
  refine v_if_eq (tgt := 21) (i := 8) rfl (by decide) (fun c7 => ?_) (fun c7 => ?_)
  · replace e := ky_ifT c7 e
    refine v_aload_n (i := 11) (j := 0) rfl rfl (?_ : ky_V _ _ _ 22 _ _ _ _)
    refine v_iconst (v := 4) (i := 12) rfl (by decide) (?_ : ky_V _ _ _ 23 _ _ _ _)
    obtain ⟨⟨q9, x10⟩, g11, e⟩ := Option.bind_eq_some_iff.mp e
    refine cl_X12_379 (As := [.int 4]) rfl (i := 13) rfl (md_0 hmh4) rfl rfl (Nat.le_of_ble_eq_true rfl) (k_X12_takesMinute N hmh4 g11 (fun h8 hmh8 frh8 => ⟨_, rfl, (?_ : ky_V _ _ _ 26 _ [.int x10] _ _)⟩))
    have frh8 := frh4.tr frh8
    refine v_iret (v := x10) (ty := .int) (i := 14) rfl rfl rfl ?_
    obtain ⟨rfl, rfl⟩ := ky_leaf e
    exact hr _ hmh8 frh8
  · replace e := ky_ifF c7 e
    refine v_iconst (v := 0) (i := 9) rfl (by decide) (?_ : ky_V _ _ _ 18 _ _ _ _)
    refine v_goto (tgt := 26) (i := 10) rfl (by decide) (?_ : ky_V _ _ _ 26 _ _ _ _)
    refine v_iret (v := 0) (ty := .int) (i := 14) rfl rfl rfl ?_
    obtain ⟨rfl, rfl⟩ := ky_leaf e
    exact hr _ hmh4 frh4

def md_laysTill_L3 (N : Nat) (k : (Nat → Nat → Int32) → Int32 → Int32 → Int32 → Int32 → Option ((Nat → Nat → Int32) × Int32)) : Nat → (Nat → Nat → Int32) → Int32 → Int32 → Int32 → Int32 → Option ((Nat → Nat → Int32) × Int32)
  | 0, _, _, _, _, _ => none
  | n + 1, c, p1, p2, p3, p4 => (if (64 : Int32) ≤ p4 then (k c p1 p2 p3 p4) else (if p4 = p1 then (if ky_inB p4 64 = true then (ky_let (bk_w c 12 (Int32.toNatClampNeg p4) 0) (fun q9 => (ky_let (p4 + 1) (fun x10 => (md_laysTill_L3 N k n q9 p1 p2 p3 x10))))) else none) else (if ky_inB p4 64 = true then (ky_let (bk_w c 12 (Int32.toNatClampNeg p4) 1000000) (fun q5 => (ky_let (p4 + 1) (fun x6 => (md_laysTill_L3 N k n q5 p1 p2 p3 x6))))) else none)))
set_option maxRecDepth 20000 in
set_option maxHeartbeats 4000000 in
theorem lv_X12_laysTill_3 {G : ky_GW} {d : Nat} {h0 : ky_HP} {Q : ky_RS → ky_HP → Prop} {a : Nat} {c9 : (Nat → Nat → Int32)} {r9 : Int32} (N : Nat) (k : (Nat → Nat → Int32) → Int32 → Int32 → Int32 → Int32 → Option ((Nat → Nat → Int32) × Int32)) (hr : ∀ h1, md_at G h1 a c9 → bk_fr a 13 h0 h1 → Q (.inl none) h1)
    (hk : ∀ (h : ky_HP) (c : (Nat → Nat → Int32)) (p1 : Int32) (p2 : Int32) (p3 : Int32) (p4 : Int32), md_at G h a c → bk_fr a 13 h0 h → k c p1 p2 p3 p4 = some (c9, r9) → ky_V G (d + 3) M_X12_laysTill 36 [(0, .ref a), (1, .int p1), (2, .int p2), (3, .int p3), (4, .int p4)] [] h Q) :
    ∀ (n : Nat) (h : ky_HP) (c : (Nat → Nat → Int32)) (p1 : Int32) (p2 : Int32) (p3 : Int32) (p4 : Int32), md_at G h a c → bk_fr a 13 h0 h → md_laysTill_L3 N k n c p1 p2 p3 p4 = some (c9, r9) → ky_V G (d + 3) M_X12_laysTill 3 [(0, .ref a), (1, .int p1), (2, .int p2), (3, .int p3), (4, .int p4)] [] h Q := by
  intro n
  induction n with
  | zero => intro h c p1 p2 p3 p4 hm fr e; cases e
  | succ n ih =>
    intro h c p1 p2 p3 p4 hm fr e
    rw [md_laysTill_L3] at e
    refine v_iload (i := 2) (j := 4) rfl rfl (?_ : ky_V _ _ _ 5 _ _ _ _)
    refine v_bipush (v := 64) (i := 3) rfl (by decide) (?_ : ky_V _ _ _ 7 _ _ _ _)
    refine v_icmp_ge (tgt := 36) (i := 4) rfl (by decide) (fun c1 => ?_) (fun c1 => ?_)
    · replace e := ky_ifT c1 e
      exact hk h c p1 p2 p3 p4 hm fr e
    · replace e := ky_ifF c1 e
      refine v_aload_n (i := 5) (j := 0) rfl rfl (?_ : ky_V _ _ _ 11 _ _ _ _)
      refine gf_X12_51 rfl (i := 6) rfl (md_0 hm) rfl (?_ : ky_V _ _ _ 14 _ _ _ _)
      refine v_iload (i := 7) (j := 4) rfl rfl (?_ : ky_V _ _ _ 16 _ _ _ _)
      refine v_iload (i := 8) (j := 4) rfl rfl (?_ : ky_V _ _ _ 18 _ _ _ _)
      refine v_iload_n (i := 9) (j := 1) rfl rfl (?_ : ky_V _ _ _ 19 _ _ _ _)
      refine v_icmp_ne (tgt := 26) (i := 10) rfl (by decide) (fun c2 => ?_) (fun c2 => ?_)
      · replace e := ky_ifF c2 e
        refine v_ldcw (v := 1000000) (i := 13) rfl (ky_t8 (i := 116) rfl rfl) (?_ : ky_V _ _ _ 29 _ _ _ _)
        obtain ⟨z3, e⟩ := ky_chkE e
        refine v_iast (i := 14) rfl (md_12 hm) (ky_inb z3) ?_
        refine bk_st (B := md_B G a) hm fr 12 (Int32.toNatClampNeg p4) 1000000 (by decide) (fun h4 hmh4 frh4 => ?_)
        obtain ⟨q5, eq5⟩ : ∃ z, z = (bk_w c 12 (Int32.toNatClampNeg p4) 1000000) := ⟨_, rfl⟩
        rw [← eq5] at hmh4
        replace e := ky_letE eq5 e
        refine (?_ : ky_V _ _ _ 30 _ _ _ _)
        obtain ⟨x6, ex6⟩ : ∃ z : Int32, z = p4 + 1 := ⟨_, rfl⟩
        replace e := ky_letE ex6 e
        refine v_iinc (v := x6) (j := 4) (L' := [(0, .ref a), (1, .int p1), (2, .int p2), (3, .int p3), (4, .int x6)]) [1, 2, 3, 4, 0] (i := 15) rfl rfl (by rw [ex6]; rfl) (Nat.le_of_ble_eq_true rfl) rfl (?_ : ky_V _ _ _ 33 _ _ _ _)
        refine v_goto (tgt := 3) (i := 16) rfl (by decide) (?_ : ky_V _ _ _ 3 _ _ _ _)
        exact ih h4 q5 p1 p2 p3 x6 hmh4 frh4 e
      · replace e := ky_ifT c2 e
        refine v_iconst (v := 0) (i := 11) rfl (by decide) (?_ : ky_V _ _ _ 23 _ _ _ _)
        refine v_goto (tgt := 29) (i := 12) rfl (by decide) (?_ : ky_V _ _ _ 29 _ _ _ _)
        obtain ⟨z7, e⟩ := ky_chkE e
        refine v_iast (i := 14) rfl (md_12 hm) (ky_inb z7) ?_
        refine bk_st (B := md_B G a) hm fr 12 (Int32.toNatClampNeg p4) 0 (by decide) (fun h8 hmh8 frh8 => ?_)
        obtain ⟨q9, eq9⟩ : ∃ z, z = (bk_w c 12 (Int32.toNatClampNeg p4) 0) := ⟨_, rfl⟩
        rw [← eq9] at hmh8
        replace e := ky_letE eq9 e
        refine (?_ : ky_V _ _ _ 30 _ _ _ _)
        obtain ⟨x10, ex10⟩ : ∃ z : Int32, z = p4 + 1 := ⟨_, rfl⟩
        replace e := ky_letE ex10 e
        refine v_iinc (v := x10) (j := 4) (L' := [(0, .ref a), (1, .int p1), (2, .int p2), (3, .int p3), (4, .int x10)]) [1, 2, 3, 4, 0] (i := 15) rfl rfl (by rw [ex10]; rfl) (Nat.le_of_ble_eq_true rfl) rfl (?_ : ky_V _ _ _ 33 _ _ _ _)
        refine v_goto (tgt := 3) (i := 16) rfl (by decide) (?_ : ky_V _ _ _ 3 _ _ _ _)
        exact ih h8 q9 p1 p2 p3 x10 hmh8 frh8 e

def md_laysTill_L50 (N : Nat) (k : (Nat → Nat → Int32) → Int32 → Int32 → Int32 → Int32 → Int32 → Option ((Nat → Nat → Int32) × Int32)) : Nat → (Nat → Nat → Int32) → Int32 → Int32 → Int32 → Int32 → Int32 → Option ((Nat → Nat → Int32) × Int32)
  | 0, _, _, _, _, _, _ => none
  | n + 1, c, p1, p2, p3, p4, p5 => (if (64 : Int32) ≤ p5 then (k c p1 p2 p3 p4 p5) else ((md_leastBeside N c p5).bind (fun zz => (fun q3 x4 => (if ((¬ (p3 = 0)) → (¬ (p5 = (q3 1 10))) → ky_inB ((45 + (3 * p5)) + 0) 2247 = true) then (if ((¬ (p3 = 0)) → (¬ (p5 = (q3 1 10))) → ((md_of_r q3 p5 0) < p2) → ky_inB ((45 + (3 * p5)) + 0) 2247 = true) then (if ((p3 = 0) → ky_inB ((45 + (3 * p5)) + 0) 2247 = true) then (ky_let (mt_min 1000000 (x4 + (md_costOf_r q3 p5 p2 p3))) (fun x9 => (if p4 = 0 then (if ky_inB p5 64 = true then (if (q3 12 (Int32.toNatClampNeg p5)) ≤ x9 then (ky_let (mt_min (q3 12 (Int32.toNatClampNeg p5)) x9) (fun x18 => (ky_let (bk_w q3 12 (Int32.toNatClampNeg p5) x18) (fun q20 => (ky_let (p5 + 1) (fun x21 => (md_laysTill_L50 N k n q20 p1 p2 p3 0 x21))))))) else (ky_let (mt_min (q3 12 (Int32.toNatClampNeg p5)) x9) (fun x22 => (ky_let (bk_w q3 12 (Int32.toNatClampNeg p5) x22) (fun q24 => (ky_let (p5 + 1) (fun x25 => (md_laysTill_L50 N k n q24 p1 p2 p3 1 x25)))))))) else none) else (if ky_inB p5 64 = true then (ky_let (mt_min (q3 12 (Int32.toNatClampNeg p5)) x9) (fun x12 => (ky_let (bk_w q3 12 (Int32.toNatClampNeg p5) x12) (fun q14 => (ky_let (p5 + 1) (fun x15 => (md_laysTill_L50 N k n q14 p1 p2 p3 1 x15))))))) else none)))) else none) else none) else none)) zz.1 zz.2)))
set_option maxRecDepth 20000 in
set_option maxHeartbeats 4000000 in
theorem lv_X12_laysTill_50 {G : ky_GW} {d : Nat} {h0 : ky_HP} {Q : ky_RS → ky_HP → Prop} {a : Nat} {c9 : (Nat → Nat → Int32)} {r9 : Int32} (N : Nat) (k : (Nat → Nat → Int32) → Int32 → Int32 → Int32 → Int32 → Int32 → Option ((Nat → Nat → Int32) × Int32)) (hr : ∀ h1, md_at G h1 a c9 → bk_fr a 13 h0 h1 → Q (.inl none) h1)
    (hk : ∀ (h : ky_HP) (c : (Nat → Nat → Int32)) (p1 : Int32) (p2 : Int32) (p3 : Int32) (p4 : Int32) (p5 : Int32), md_at G h a c → bk_fr a 13 h0 h → k c p1 p2 p3 p4 p5 = some (c9, r9) → ky_V G (d + 3) M_X12_laysTill 129 [(0, .ref a), (1, .int p1), (2, .int p2), (3, .int p3), (4, .int p4), (5, .int p5)] [] h Q) :
    ∀ (n : Nat) (h : ky_HP) (c : (Nat → Nat → Int32)) (p1 : Int32) (p2 : Int32) (p3 : Int32) (p4 : Int32) (p5 : Int32), md_at G h a c → bk_fr a 13 h0 h → md_laysTill_L50 N k n c p1 p2 p3 p4 p5 = some (c9, r9) → ky_V G (d + 3) M_X12_laysTill 50 [(0, .ref a), (1, .int p1), (2, .int p2), (3, .int p3), (4, .int p4), (5, .int p5)] [] h Q := by
  intro n
  induction n with
  | zero => intro h c p1 p2 p3 p4 p5 hm fr e; cases e
  | succ n ih =>
    intro h c p1 p2 p3 p4 p5 hm fr e
    rw [md_laysTill_L50] at e
    refine v_iload (i := 25) (j := 5) rfl rfl (?_ : ky_V _ _ _ 52 _ _ _ _)
    refine v_bipush (v := 64) (i := 26) rfl (by decide) (?_ : ky_V _ _ _ 54 _ _ _ _)
    refine v_icmp_ge (tgt := 129) (i := 27) rfl (by decide) (fun c1 => ?_) (fun c1 => ?_)
    · replace e := ky_ifT c1 e
      exact hk h c p1 p2 p3 p4 p5 hm fr e
    · replace e := ky_ifF c1 e
      refine v_ldcw (v := 1000000) (i := 28) rfl (ky_t8 (i := 116) rfl rfl) (?_ : ky_V _ _ _ 60 _ _ _ _)
      refine v_aload_n (i := 29) (j := 0) rfl rfl (?_ : ky_V _ _ _ 61 _ _ _ _)
      refine v_iload (i := 30) (j := 5) rfl rfl (?_ : ky_V _ _ _ 63 _ _ _ _)
      obtain ⟨⟨q3, x4⟩, g5, e⟩ := Option.bind_eq_some_iff.mp e
      refine cl_X12_403 (As := [.int p5]) rfl (i := 31) rfl (md_0 hm) rfl rfl (Nat.le_of_ble_eq_true rfl) (k_X12_leastBeside N hm g5 (fun h2 hmh2 frh2 => ⟨_, rfl, (?_ : ky_V _ _ _ 66 _ [.int x4, .int 1000000] _ _)⟩))
      have frh2 := fr.tr frh2
      refine v_aload_n (i := 32) (j := 0) rfl rfl (?_ : ky_V _ _ _ 67 _ _ _ _)
      refine v_iload (i := 33) (j := 5) rfl rfl (?_ : ky_V _ _ _ 69 _ _ _ _)
      refine v_iload_n (i := 34) (j := 2) rfl rfl (?_ : ky_V _ _ _ 70 _ _ _ _)
      refine v_iload_n (i := 35) (j := 3) rfl rfl (?_ : ky_V _ _ _ 71 _ _ _ _)
      obtain ⟨z6, e⟩ := ky_chkE e
      obtain ⟨z7, e⟩ := ky_chkE e
      obtain ⟨z8, e⟩ := ky_chkE e
      refine cl_X12_406 (As := [.int p5, .int p2, .int p3]) rfl (i := 36) rfl (md_0 hmh2) rfl rfl (Nat.le_of_ble_eq_true rfl) (k_X12_costOf p5 p2 p3 hmh2 (fun y0 y1 => ky_inb (z6 y0 y1)) (fun y0 y1 y2 => ky_inb (z7 y0 y1 y2)) (fun y0 => ky_inb (z8 y0)) ⟨_, rfl, (?_ : ky_V _ _ _ 74 _ [.int ((md_costOf_r q3 p5 p2 p3)), .int x4, .int 1000000] _ _)⟩)
      refine v_iadd (i := 37) rfl (?_ : ky_V _ _ _ 75 _ _ _ _)
      refine cl_X12_260 rfl (i := 38) rfl (Nat.le_of_ble_eq_true rfl) (?_ : ky_V _ _ _ 78 _ _ _ _)
      refine v_topi (fun x9 ex9 => ?_)
      replace e := ky_letE ex9 e
      refine v_istore (L' := [(0, .ref a), (1, .int p1), (2, .int p2), (3, .int p3), (4, .int p4), (5, .int p5), (6, .int x9)]) [1, 2, 3, 4, 5, 6, 0] (i := 39) rfl (Nat.le_of_ble_eq_true rfl) rfl (?_ : ky_V _ _ _ 80 _ _ _ _)
      refine v_iload (i := 40) (j := 4) rfl rfl (?_ : ky_V _ _ _ 82 _ _ _ _)
      refine v_if_ne (tgt := 97) (i := 41) rfl (by decide) (fun c10 => ?_) (fun c10 => ?_)
      · replace e := ky_ifF c10 e
        refine v_iconst (v := 1) (i := 48) rfl (by decide) (?_ : ky_V _ _ _ 98 _ _ _ _)
        refine v_goto (tgt := 102) (i := 49) rfl (by decide) (?_ : ky_V _ _ _ 102 _ _ _ _)
        refine v_istore (L' := [(0, .ref a), (1, .int p1), (2, .int p2), (3, .int p3), (4, .int 1), (5, .int p5), (6, .int x9)]) [1, 2, 3, 4, 0, 5, 6] (i := 51) rfl (Nat.le_of_ble_eq_true rfl) rfl (?_ : ky_V _ _ _ 104 _ _ _ _)
        refine v_aload_n (i := 52) (j := 0) rfl rfl (?_ : ky_V _ _ _ 105 _ _ _ _)
        refine gf_X12_51 rfl (i := 53) rfl (md_0 hmh2) rfl (?_ : ky_V _ _ _ 108 _ _ _ _)
        refine v_iload (i := 54) (j := 5) rfl rfl (?_ : ky_V _ _ _ 110 _ _ _ _)
        refine v_aload_n (i := 55) (j := 0) rfl rfl (?_ : ky_V _ _ _ 111 _ _ _ _)
        refine gf_X12_51 rfl (i := 56) rfl (md_0 hmh2) rfl (?_ : ky_V _ _ _ 114 _ _ _ _)
        refine v_iload (i := 57) (j := 5) rfl rfl (?_ : ky_V _ _ _ 116 _ _ _ _)
        obtain ⟨z11, e⟩ := ky_chkE e
        refine v_iald (i := 58) rfl (md_12 hmh2) (ky_inb z11) (?_ : ky_V _ _ _ 117 _ (.int (q3 12 (Int32.toNatClampNeg p5)) :: _) _ _)
        refine v_iload (i := 59) (j := 6) rfl rfl (?_ : ky_V _ _ _ 119 _ _ _ _)
        refine cl_X12_260 rfl (i := 60) rfl (Nat.le_of_ble_eq_true rfl) (?_ : ky_V _ _ _ 122 _ _ _ _)
        refine v_topi (fun x12 ex12 => ?_)
        replace e := ky_letE ex12 e
        refine v_iast (i := 61) rfl (md_12 hmh2) (ky_inb z11) ?_
        refine bk_st (B := md_B G a) hmh2 frh2 12 (Int32.toNatClampNeg p5) x12 (by decide) (fun h13 hmh13 frh13 => ?_)
        obtain ⟨q14, eq14⟩ : ∃ z, z = (bk_w q3 12 (Int32.toNatClampNeg p5) x12) := ⟨_, rfl⟩
        rw [← eq14] at hmh13
        replace e := ky_letE eq14 e
        refine (?_ : ky_V _ _ _ 123 _ _ _ _)
        obtain ⟨x15, ex15⟩ : ∃ z : Int32, z = p5 + 1 := ⟨_, rfl⟩
        replace e := ky_letE ex15 e
        refine v_iinc (v := x15) (j := 5) (L' := [(0, .ref a), (1, .int p1), (2, .int p2), (3, .int p3), (4, .int 1), (5, .int x15), (6, .int x9)]) [1, 2, 3, 4, 5, 0, 6] (i := 62) rfl rfl (by rw [ex15]; rfl) (Nat.le_of_ble_eq_true rfl) rfl (?_ : ky_V _ _ _ 126 _ _ _ _)
        refine v_goto (tgt := 50) (i := 63) rfl (by decide) (?_ : ky_V _ _ _ 50 _ _ _ _)
        refine ky_loc (L' := [(0, .ref a), (1, .int p1), (2, .int p2), (3, .int p3), (4, .int 1), (5, .int x15)]) (by simp) ?_
        exact ih h13 q14 p1 p2 p3 1 x15 hmh13 frh13 e
      · replace e := ky_ifT c10 e
        refine v_iload (i := 42) (j := 6) rfl rfl (?_ : ky_V _ _ _ 87 _ _ _ _)
        refine v_aload_n (i := 43) (j := 0) rfl rfl (?_ : ky_V _ _ _ 88 _ _ _ _)
        refine gf_X12_51 rfl (i := 44) rfl (md_0 hmh2) rfl (?_ : ky_V _ _ _ 91 _ _ _ _)
        refine v_iload (i := 45) (j := 5) rfl rfl (?_ : ky_V _ _ _ 93 _ _ _ _)
        obtain ⟨z16, e⟩ := ky_chkE e
        refine v_iald (i := 46) rfl (md_12 hmh2) (ky_inb z16) (?_ : ky_V _ _ _ 94 _ (.int (q3 12 (Int32.toNatClampNeg p5)) :: _) _ _)
        refine v_icmp_ge (tgt := 101) (i := 47) rfl (by decide) (fun c17 => ?_) (fun c17 => ?_)
        · replace e := ky_ifT c17 e
          refine v_iconst (v := 0) (i := 50) rfl (by decide) (?_ : ky_V _ _ _ 102 _ _ _ _)
          refine v_istore (L' := [(0, .ref a), (1, .int p1), (2, .int p2), (3, .int p3), (4, .int 0), (5, .int p5), (6, .int x9)]) [1, 2, 3, 4, 0, 5, 6] (i := 51) rfl (Nat.le_of_ble_eq_true rfl) rfl (?_ : ky_V _ _ _ 104 _ _ _ _)
          refine v_aload_n (i := 52) (j := 0) rfl rfl (?_ : ky_V _ _ _ 105 _ _ _ _)
          refine gf_X12_51 rfl (i := 53) rfl (md_0 hmh2) rfl (?_ : ky_V _ _ _ 108 _ _ _ _)
          refine v_iload (i := 54) (j := 5) rfl rfl (?_ : ky_V _ _ _ 110 _ _ _ _)
          refine v_aload_n (i := 55) (j := 0) rfl rfl (?_ : ky_V _ _ _ 111 _ _ _ _)
          refine gf_X12_51 rfl (i := 56) rfl (md_0 hmh2) rfl (?_ : ky_V _ _ _ 114 _ _ _ _)
          refine v_iload (i := 57) (j := 5) rfl rfl (?_ : ky_V _ _ _ 116 _ _ _ _)
          refine v_iald (i := 58) rfl (md_12 hmh2) (ky_inb z16) (?_ : ky_V _ _ _ 117 _ (.int (q3 12 (Int32.toNatClampNeg p5)) :: _) _ _)
          refine v_iload (i := 59) (j := 6) rfl rfl (?_ : ky_V _ _ _ 119 _ _ _ _)
          refine cl_X12_260 rfl (i := 60) rfl (Nat.le_of_ble_eq_true rfl) (?_ : ky_V _ _ _ 122 _ _ _ _)
          refine v_topi (fun x18 ex18 => ?_)
          replace e := ky_letE ex18 e
          refine v_iast (i := 61) rfl (md_12 hmh2) (ky_inb z16) ?_
          refine bk_st (B := md_B G a) hmh2 frh2 12 (Int32.toNatClampNeg p5) x18 (by decide) (fun h19 hmh19 frh19 => ?_)
          obtain ⟨q20, eq20⟩ : ∃ z, z = (bk_w q3 12 (Int32.toNatClampNeg p5) x18) := ⟨_, rfl⟩
          rw [← eq20] at hmh19
          replace e := ky_letE eq20 e
          refine (?_ : ky_V _ _ _ 123 _ _ _ _)
          obtain ⟨x21, ex21⟩ : ∃ z : Int32, z = p5 + 1 := ⟨_, rfl⟩
          replace e := ky_letE ex21 e
          refine v_iinc (v := x21) (j := 5) (L' := [(0, .ref a), (1, .int p1), (2, .int p2), (3, .int p3), (4, .int 0), (5, .int x21), (6, .int x9)]) [1, 2, 3, 4, 5, 0, 6] (i := 62) rfl rfl (by rw [ex21]; rfl) (Nat.le_of_ble_eq_true rfl) rfl (?_ : ky_V _ _ _ 126 _ _ _ _)
          refine v_goto (tgt := 50) (i := 63) rfl (by decide) (?_ : ky_V _ _ _ 50 _ _ _ _)
          refine ky_loc (L' := [(0, .ref a), (1, .int p1), (2, .int p2), (3, .int p3), (4, .int 0), (5, .int x21)]) (by simp) ?_
          exact ih h19 q20 p1 p2 p3 0 x21 hmh19 frh19 e
        · replace e := ky_ifF c17 e
          refine v_iconst (v := 1) (i := 48) rfl (by decide) (?_ : ky_V _ _ _ 98 _ _ _ _)
          refine v_goto (tgt := 102) (i := 49) rfl (by decide) (?_ : ky_V _ _ _ 102 _ _ _ _)
          refine v_istore (L' := [(0, .ref a), (1, .int p1), (2, .int p2), (3, .int p3), (4, .int 1), (5, .int p5), (6, .int x9)]) [1, 2, 3, 4, 0, 5, 6] (i := 51) rfl (Nat.le_of_ble_eq_true rfl) rfl (?_ : ky_V _ _ _ 104 _ _ _ _)
          refine v_aload_n (i := 52) (j := 0) rfl rfl (?_ : ky_V _ _ _ 105 _ _ _ _)
          refine gf_X12_51 rfl (i := 53) rfl (md_0 hmh2) rfl (?_ : ky_V _ _ _ 108 _ _ _ _)
          refine v_iload (i := 54) (j := 5) rfl rfl (?_ : ky_V _ _ _ 110 _ _ _ _)
          refine v_aload_n (i := 55) (j := 0) rfl rfl (?_ : ky_V _ _ _ 111 _ _ _ _)
          refine gf_X12_51 rfl (i := 56) rfl (md_0 hmh2) rfl (?_ : ky_V _ _ _ 114 _ _ _ _)
          refine v_iload (i := 57) (j := 5) rfl rfl (?_ : ky_V _ _ _ 116 _ _ _ _)
          refine v_iald (i := 58) rfl (md_12 hmh2) (ky_inb z16) (?_ : ky_V _ _ _ 117 _ (.int (q3 12 (Int32.toNatClampNeg p5)) :: _) _ _)
          refine v_iload (i := 59) (j := 6) rfl rfl (?_ : ky_V _ _ _ 119 _ _ _ _)
          refine cl_X12_260 rfl (i := 60) rfl (Nat.le_of_ble_eq_true rfl) (?_ : ky_V _ _ _ 122 _ _ _ _)
          refine v_topi (fun x22 ex22 => ?_)
          replace e := ky_letE ex22 e
          refine v_iast (i := 61) rfl (md_12 hmh2) (ky_inb z16) ?_
          refine bk_st (B := md_B G a) hmh2 frh2 12 (Int32.toNatClampNeg p5) x22 (by decide) (fun h23 hmh23 frh23 => ?_)
          obtain ⟨q24, eq24⟩ : ∃ z, z = (bk_w q3 12 (Int32.toNatClampNeg p5) x22) := ⟨_, rfl⟩
          rw [← eq24] at hmh23
          replace e := ky_letE eq24 e
          refine (?_ : ky_V _ _ _ 123 _ _ _ _)
          obtain ⟨x25, ex25⟩ : ∃ z : Int32, z = p5 + 1 := ⟨_, rfl⟩
          replace e := ky_letE ex25 e
          refine v_iinc (v := x25) (j := 5) (L' := [(0, .ref a), (1, .int p1), (2, .int p2), (3, .int p3), (4, .int 1), (5, .int x25), (6, .int x9)]) [1, 2, 3, 4, 5, 0, 6] (i := 62) rfl rfl (by rw [ex25]; rfl) (Nat.le_of_ble_eq_true rfl) rfl (?_ : ky_V _ _ _ 126 _ _ _ _)
          refine v_goto (tgt := 50) (i := 63) rfl (by decide) (?_ : ky_V _ _ _ 50 _ _ _ _)
          refine ky_loc (L' := [(0, .ref a), (1, .int p1), (2, .int p2), (3, .int p3), (4, .int 1), (5, .int x25)]) (by simp) ?_
          exact ih h23 q24 p1 p2 p3 1 x25 hmh23 frh23 e

def md_laysTill_L39 (N : Nat) (k : (Nat → Nat → Int32) → Int32 → Int32 → Int32 → Int32 → Option ((Nat → Nat → Int32) × Int32)) : Nat → (Nat → Nat → Int32) → Int32 → Int32 → Int32 → Int32 → Option ((Nat → Nat → Int32) × Int32)
  | 0, _, _, _, _, _ => none
  | n + 1, c, p1, p2, p3, p4 => (if p4 = 0 then (k c p1 p2 p3 p4) else (md_laysTill_L50 N (fun q3 x4 x5 x6 x7 x8 => (md_laysTill_L39 N k n q3 x4 x5 x6 x7)) N c p1 p2 p3 0 0))
set_option maxRecDepth 20000 in
set_option maxHeartbeats 4000000 in
theorem lv_X12_laysTill_39 {G : ky_GW} {d : Nat} {h0 : ky_HP} {Q : ky_RS → ky_HP → Prop} {a : Nat} {c9 : (Nat → Nat → Int32)} {r9 : Int32} (N : Nat) (k : (Nat → Nat → Int32) → Int32 → Int32 → Int32 → Int32 → Option ((Nat → Nat → Int32) × Int32)) (hr : ∀ h1, md_at G h1 a c9 → bk_fr a 13 h0 h1 → Q (.inl none) h1)
    (hk : ∀ (h : ky_HP) (c : (Nat → Nat → Int32)) (p1 : Int32) (p2 : Int32) (p3 : Int32) (p4 : Int32), md_at G h a c → bk_fr a 13 h0 h → k c p1 p2 p3 p4 = some (c9, r9) → ky_V G (d + 3) M_X12_laysTill 132 [(0, .ref a), (1, .int p1), (2, .int p2), (3, .int p3), (4, .int p4)] [] h Q) :
    ∀ (n : Nat) (h : ky_HP) (c : (Nat → Nat → Int32)) (p1 : Int32) (p2 : Int32) (p3 : Int32) (p4 : Int32), md_at G h a c → bk_fr a 13 h0 h → md_laysTill_L39 N k n c p1 p2 p3 p4 = some (c9, r9) → ky_V G (d + 3) M_X12_laysTill 39 [(0, .ref a), (1, .int p1), (2, .int p2), (3, .int p3), (4, .int p4)] [] h Q := by
  intro n
  induction n with
  | zero => intro h c p1 p2 p3 p4 hm fr e; cases e
  | succ n ih =>
    intro h c p1 p2 p3 p4 hm fr e
    rw [md_laysTill_L39] at e
    refine v_iload (i := 19) (j := 4) rfl rfl (?_ : ky_V _ _ _ 41 _ _ _ _)
    refine v_if_eq (tgt := 132) (i := 20) rfl (by decide) (fun c1 => ?_) (fun c1 => ?_)
    · replace e := ky_ifT c1 e
      exact hk h c p1 p2 p3 p4 hm fr e
    · replace e := ky_ifF c1 e
      refine v_iconst (v := 0) (i := 21) rfl (by decide) (?_ : ky_V _ _ _ 45 _ _ _ _)
      refine v_istore (L' := [(0, .ref a), (1, .int p1), (2, .int p2), (3, .int p3), (4, .int 0)]) [1, 2, 3, 4, 0] (i := 22) rfl (Nat.le_of_ble_eq_true rfl) rfl (?_ : ky_V _ _ _ 47 _ _ _ _)
      refine v_iconst (v := 0) (i := 23) rfl (by decide) (?_ : ky_V _ _ _ 48 _ _ _ _)
      refine v_istore (L' := [(0, .ref a), (1, .int p1), (2, .int p2), (3, .int p3), (4, .int 0), (5, .int 0)]) [1, 2, 3, 4, 5, 0] (i := 24) rfl (Nat.le_of_ble_eq_true rfl) rfl (?_ : ky_V _ _ _ 50 _ _ _ _)
      refine lv_X12_laysTill_50 N _ hr (fun h2 q3 x4 x5 x6 x7 x8 hmh2 frh2 e => ?_) N h c p1 p2 p3 0 0 hm fr e
      refine v_goto (tgt := 39) (i := 64) rfl (by decide) (?_ : ky_V _ _ _ 39 _ _ _ _)
      refine ky_loc (L' := [(0, .ref a), (1, .int x4), (2, .int x5), (3, .int x6), (4, .int x7)]) (by simp) ?_
      exact ih h2 q3 x4 x5 x6 x7 hmh2 frh2 e

def md_laysTill (N : Nat) (c : (Nat → Nat → Int32)) (p1 : Int32) (p2 : Int32) (p3 : Int32) : Option ((Nat → Nat → Int32) × Int32) := (md_laysTill_L3 N (fun q2 x3 x4 x5 x6 => (md_laysTill_L39 N (fun q8 x9 x10 x11 x12 => (some (q8, 0))) N q2 x3 x4 x5 1)) N c p1 p2 p3 0)
set_option maxRecDepth 20000 in
set_option maxHeartbeats 4000000 in
theorem k_X12_laysTill {G : ky_GW} {d : Nat} {h : ky_HP} {Q : ky_RS → ky_HP → Prop} {a : Nat} {c c9 : (Nat → Nat → Int32)} {r9 : Int32} {p1 : Int32} {p2 : Int32} {p3 : Int32} (N : Nat) (hm : md_at G h a c) (e : md_laysTill N c p1 p2 p3 = some (c9, r9)) (hr : ∀ h1, md_at G h1 a c9 → bk_fr a 13 h h1 → Q (.inl none) h1) : ky_Call G (d + 3) M_X12_laysTill [.ref a, .int p1, .int p2, .int p3] h Q := by
  refine ky_ofV (by decide +kernel) rfl ok_X12_laysTill (Nat.le_of_ble_eq_true rfl) ?_
  have fr : bk_fr a 13 h h := bk_fr.rf
  unfold md_laysTill at e
  refine (?_ : ky_V _ _ _ 0 [(0, .ref a), (1, .int p1), (2, .int p2), (3, .int p3)] [] _ _)
  refine v_iconst (v := 0) (i := 0) rfl (by decide) (?_ : ky_V _ _ _ 1 _ _ _ _)
  refine v_istore (L' := [(0, .ref a), (1, .int p1), (2, .int p2), (3, .int p3), (4, .int 0)]) [1, 2, 3, 4, 0] (i := 1) rfl (Nat.le_of_ble_eq_true rfl) rfl (?_ : ky_V _ _ _ 3 _ _ _ _)
  refine lv_X12_laysTill_3 N _ hr (fun h1 q2 x3 x4 x5 x6 hmh1 frh1 e => ?_) N h c p1 p2 p3 0 hm fr e
  refine v_iconst (v := 1) (i := 17) rfl (by decide) (?_ : ky_V _ _ _ 37 _ _ _ _)
  refine v_istore (L' := [(0, .ref a), (1, .int x3), (2, .int x4), (3, .int x5), (4, .int 1)]) [1, 2, 3, 4, 0] (i := 18) rfl (Nat.le_of_ble_eq_true rfl) rfl (?_ : ky_V _ _ _ 39 _ _ _ _)
  refine lv_X12_laysTill_39 N _ hr (fun h7 q8 x9 x10 x11 x12 hmh7 frh7 e => ?_) N h1 q2 x3 x4 x5 1 hmh1 frh1 e
  refine v_vret (i := 65) rfl rfl ?_
  obtain ⟨rfl, rfl⟩ := ky_leaf e
  exact hr _ hmh7 frh7

def md_laysWays (N : Nat) (c : (Nat → Nat → Int32)) (p1 : Int32) (p2 : Int32) : Option ((Nat → Nat → Int32) × Int32) := (if ky_inB ((237 + (2 * p1)) + 1) 2247 = true then (if ky_inB ((237 + (2 * p1)) + 0) 2247 = true then (if p2 = 0 then ((md_laysTill N c (md_ofPerson_r c p1 1) ((md_ofPerson_r c p1 0) - 0) 0).bind (fun zz => (fun q5 x6 => (some (q5, 0))) zz.1 zz.2)) else ((md_laysTill N c (md_ofPerson_r c p1 1) ((md_ofPerson_r c p1 0) - 1) 0).bind (fun zz => (fun q9 x10 => (some (q9, 0))) zz.1 zz.2))) else none) else none)
set_option maxRecDepth 20000 in
set_option maxHeartbeats 4000000 in
theorem k_X12_laysWays {G : ky_GW} {d : Nat} {h : ky_HP} {Q : ky_RS → ky_HP → Prop} {a : Nat} {c c9 : (Nat → Nat → Int32)} {r9 : Int32} {p1 : Int32} {p2 : Int32} (N : Nat) (hm : md_at G h a c) (e : md_laysWays N c p1 p2 = some (c9, r9)) (hr : ∀ h1, md_at G h1 a c9 → bk_fr a 13 h h1 → Q (.inl none) h1) : ky_Call G (d + 4) M_X12_laysWays [.ref a, .int p1, .int p2] h Q := by
  refine ky_ofV (by decide +kernel) rfl ok_X12_laysWays (Nat.le_of_ble_eq_true rfl) ?_
  have fr : bk_fr a 13 h h := bk_fr.rf
  unfold md_laysWays at e
  refine (?_ : ky_V _ _ _ 0 [(0, .ref a), (1, .int p1), (2, .int p2)] [] _ _)
  refine v_aload_n (i := 0) (j := 0) rfl rfl (?_ : ky_V _ _ _ 1 _ _ _ _)
  refine v_aload_n (i := 1) (j := 0) rfl rfl (?_ : ky_V _ _ _ 2 _ _ _ _)
  refine v_iload_n (i := 2) (j := 1) rfl rfl (?_ : ky_V _ _ _ 3 _ _ _ _)
  refine v_iconst (v := 1) (i := 3) rfl (by decide) (?_ : ky_V _ _ _ 4 _ _ _ _)
  obtain ⟨z1, e⟩ := ky_chkE e
  refine cl_X12_391 (As := [.int p1, .int 1]) rfl (i := 4) rfl (md_0 hm) rfl rfl (Nat.le_of_ble_eq_true rfl) (k_X12_ofPerson p1 1 hm (ky_inb z1) ⟨_, rfl, (?_ : ky_V _ _ _ 7 _ [.int ((md_ofPerson_r c p1 1)), .ref a] _ _)⟩)
  refine v_aload_n (i := 5) (j := 0) rfl rfl (?_ : ky_V _ _ _ 8 _ _ _ _)
  refine v_iload_n (i := 6) (j := 1) rfl rfl (?_ : ky_V _ _ _ 9 _ _ _ _)
  refine v_iconst (v := 0) (i := 7) rfl (by decide) (?_ : ky_V _ _ _ 10 _ _ _ _)
  obtain ⟨z2, e⟩ := ky_chkE e
  refine cl_X12_391 (As := [.int p1, .int 0]) rfl (i := 8) rfl (md_0 hm) rfl rfl (Nat.le_of_ble_eq_true rfl) (k_X12_ofPerson p1 0 hm (ky_inb z2) ⟨_, rfl, (?_ : ky_V _ _ _ 13 _ [.int ((md_ofPerson_r c p1 0)), .int ((md_ofPerson_r c p1 1)), .ref a] _ _)⟩)
  refine v_iload_n (i := 9) (j := 2) rfl rfl (?_ : ky_V _ _ _ 14 _ _ _ _)
  refine v_if_eq (tgt := 21) (i := 10) rfl (by decide) (fun c3 => ?_) (fun c3 => ?_)
  · replace e := ky_ifT c3 e
    refine v_iconst (v := 0) (i := 13) rfl (by decide) (?_ : ky_V _ _ _ 22 _ _ _ _)
    refine v_isub (i := 14) rfl (?_ : ky_V _ _ _ 23 _ _ _ _)
    refine v_iconst (v := 0) (i := 15) rfl (by decide) (?_ : ky_V _ _ _ 24 _ _ _ _)
    obtain ⟨⟨q5, x6⟩, g7, e⟩ := Option.bind_eq_some_iff.mp e
    refine cl_X12_410 (As := [.int ((md_ofPerson_r c p1 1)), .int (((md_ofPerson_r c p1 0) - 0)), .int 0]) rfl (i := 16) rfl (md_0 hm) rfl rfl (Nat.le_of_ble_eq_true rfl) (k_X12_laysTill N hm g7 (fun h4 hmh4 frh4 => ⟨_, rfl, (?_ : ky_V _ _ _ 27 _ [] _ _)⟩))
    have frh4 := fr.tr frh4
    refine v_vret (i := 17) rfl rfl ?_
    obtain ⟨rfl, rfl⟩ := ky_leaf e
    exact hr _ hmh4 frh4
  · replace e := ky_ifF c3 e
    refine v_iconst (v := 1) (i := 11) rfl (by decide) (?_ : ky_V _ _ _ 18 _ _ _ _)
    refine v_goto (tgt := 22) (i := 12) rfl (by decide) (?_ : ky_V _ _ _ 22 _ _ _ _)
    refine v_isub (i := 14) rfl (?_ : ky_V _ _ _ 23 _ _ _ _)
    refine v_iconst (v := 0) (i := 15) rfl (by decide) (?_ : ky_V _ _ _ 24 _ _ _ _)
    obtain ⟨⟨q9, x10⟩, g11, e⟩ := Option.bind_eq_some_iff.mp e
    refine cl_X12_410 (As := [.int ((md_ofPerson_r c p1 1)), .int (((md_ofPerson_r c p1 0) - 1)), .int 0]) rfl (i := 16) rfl (md_0 hm) rfl rfl (Nat.le_of_ble_eq_true rfl) (k_X12_laysTill N hm g11 (fun h8 hmh8 frh8 => ⟨_, rfl, (?_ : ky_V _ _ _ 27 _ [] _ _)⟩))
    have frh8 := fr.tr frh8
    refine v_vret (i := 17) rfl rfl ?_
    obtain ⟨rfl, rfl⟩ := ky_leaf e
    exact hr _ hmh8 frh8

def md_cell (N : Nat) (c : (Nat → Nat → Int32)) (p1 : Int32) (p2 : Int32) : Option ((Nat → Nat → Int32) × Int32) := (ky_let (bk_w c 0 0 0) (fun q2 => (if (md_noCell p1) = 0 ∨ (md_noCell p1) = 1 then (ky_let (md_throwsIf_r q2 (md_noCell p1) 1) (fun x6 => (ky_let (md_throwsIf_c q2 (md_noCell p1) 1) (fun q5 => (if x6 = 0 then (if (md_in p2 0 3) = 0 then (ky_let (md_throwsIf_r q5 1 2) (fun x21 => (ky_let (md_throwsIf_c q5 1 2) (fun q20 => (if x21 = 0 then (if p2 = (3 : Int32) then ((md_peopleOn N q20 p1).bind (fun zz => (fun q26 x27 => (some (q26, x27))) zz.1 zz.2)) else (if ky_inB ((45 + (3 * p1)) + p2) 2247 = true then (some (q20, (md_of_r q20 p1 p2))) else none)) else (some (q20, 0))))))) else (ky_let (md_throwsIf_r q5 0 2) (fun x11 => (ky_let (md_throwsIf_c q5 0 2) (fun q10 => (if x11 = 0 then (if p2 = (3 : Int32) then ((md_peopleOn N q10 p1).bind (fun zz => (fun q16 x17 => (some (q16, x17))) zz.1 zz.2)) else (if ky_inB ((45 + (3 * p1)) + p2) 2247 = true then (some (q10, (md_of_r q10 p1 p2))) else none)) else (some (q10, 0)))))))) else (some (q5, 0))))))) else none)))
set_option maxRecDepth 20000 in
set_option maxHeartbeats 4000000 in
theorem k_X12_cell {G : ky_GW} {d : Nat} {h : ky_HP} {Q : ky_RS → ky_HP → Prop} {a : Nat} {c c9 : (Nat → Nat → Int32)} {r9 : Int32} {p1 : Int32} {p2 : Int32} (N : Nat) (hm : md_at G h a c) (e : md_cell N c p1 p2 = some (c9, r9)) (hr : ∀ h1, md_at G h1 a c9 → bk_fr a 13 h h1 → Q (.inl (some (.int r9))) h1) : ky_Call G (d + 2) M_X12_cell [.ref a, .int p1, .int p2] h Q := by
  refine ky_ofV (by decide +kernel) rfl ok_X12_cell (Nat.le_of_ble_eq_true rfl) ?_
  have fr : bk_fr a 13 h h := bk_fr.rf
  unfold md_cell at e
  refine (?_ : ky_V _ _ _ 0 [(0, .ref a), (1, .int p1), (2, .int p2)] [] _ _)
  refine v_aload_n (i := 0) (j := 0) rfl rfl (?_ : ky_V _ _ _ 1 _ _ _ _)
  refine v_iconst (v := 0) (i := 1) rfl (by decide) (?_ : ky_V _ _ _ 2 _ _ _ _)
  refine pf_X12_3 rfl (i := 2) rfl (md_0 hm) (Nat.le_of_ble_eq_true rfl) rfl rfl ?_
  refine bk_st (B := md_B G a) hm fr 0 0 0 (by decide) (fun h1 hmh1 frh1 => ?_)
  obtain ⟨q2, eq2⟩ : ∃ z, z = (bk_w c 0 0 0) := ⟨_, rfl⟩
  rw [← eq2] at hmh1
  replace e := ky_letE eq2 e
  refine (?_ : ky_V _ _ _ 5 _ _ _ _)
  refine v_aload_n (i := 3) (j := 0) rfl rfl (?_ : ky_V _ _ _ 6 _ _ _ _)
  refine v_iload_n (i := 4) (j := 1) rfl rfl (?_ : ky_V _ _ _ 7 _ _ _ _)
  refine cl_X12_388 (As := [.int p1]) rfl (i := 5) rfl rfl rfl (Nat.le_of_ble_eq_true rfl) (k_X12_noCell p1 ⟨_, rfl, (?_ : ky_V _ _ _ 10 _ [.int ((md_noCell p1)), .ref a] _ _)⟩)
  refine v_iconst (v := 1) (i := 6) rfl (by decide) (?_ : ky_V _ _ _ 11 _ _ _ _)
  obtain ⟨z3, e⟩ := ky_chkE e
  refine cl_X12_241 (As := [.int ((md_noCell p1)), .int 1]) rfl (i := 7) rfl (md_0 hmh1) rfl rfl (Nat.le_of_ble_eq_true rfl) (k_X12_throwsIf (md_noCell p1) 1 hmh1 z3 (fun h4 hmh4 frh4 => ⟨_, rfl, (?_ : ky_V _ _ _ 14 _ [.int ((md_throwsIf_r q2 (md_noCell p1) 1))] _ _)⟩))
  have frh4 := frh1.tr frh4
  refine v_topi (fun x6 ex6 => ?_)
  replace e := ky_letE ex6 e
  obtain ⟨q5, eq5⟩ : ∃ z, z = (md_throwsIf_c q2 (md_noCell p1) 1) := ⟨_, rfl⟩
  rw [← eq5] at hmh4
  replace e := ky_letE eq5 e
  refine v_if_ne (tgt := 39) (i := 8) rfl (by decide) (fun c7 => ?_) (fun c7 => ?_)
  · replace e := ky_ifF c7 e
    refine v_iconst (v := 0) (i := 21) rfl (by decide) (?_ : ky_V _ _ _ 40 _ _ _ _)
    refine v_iret (v := 0) (ty := .int) (i := 22) rfl rfl rfl ?_
    obtain ⟨rfl, rfl⟩ := ky_leaf e
    exact hr _ hmh4 frh4
  · replace e := ky_ifT c7 e
    refine v_aload_n (i := 9) (j := 0) rfl rfl (?_ : ky_V _ _ _ 18 _ _ _ _)
    refine v_iload_n (i := 10) (j := 2) rfl rfl (?_ : ky_V _ _ _ 19 _ _ _ _)
    refine v_iconst (v := 0) (i := 11) rfl (by decide) (?_ : ky_V _ _ _ 20 _ _ _ _)
    refine v_iconst (v := 3) (i := 12) rfl (by decide) (?_ : ky_V _ _ _ 21 _ _ _ _)
    refine cl_X12_65 (As := [.int p2, .int 0, .int 3]) rfl (i := 13) rfl rfl rfl (Nat.le_of_ble_eq_true rfl) (k_X12_in p2 0 3 ⟨_, rfl, (?_ : ky_V _ _ _ 24 _ [.int ((md_in p2 0 3)), .ref a] _ _)⟩)
    refine v_if_ne (tgt := 31) (i := 14) rfl (by decide) (fun c8 => ?_) (fun c8 => ?_)
    · replace e := ky_ifF c8 e
      refine v_iconst (v := 0) (i := 17) rfl (by decide) (?_ : ky_V _ _ _ 32 _ _ _ _)
      refine v_iconst (v := 2) (i := 18) rfl (by decide) (?_ : ky_V _ _ _ 33 _ _ _ _)
      refine cl_X12_241 (As := [.int 0, .int 2]) rfl (i := 19) rfl (md_0 hmh4) rfl rfl (Nat.le_of_ble_eq_true rfl) (k_X12_throwsIf 0 2 hmh4 (by decide) (fun h9 hmh9 frh9 => ⟨_, rfl, (?_ : ky_V _ _ _ 36 _ [.int ((md_throwsIf_r q5 0 2))] _ _)⟩))
      have frh9 := frh4.tr frh9
      refine v_topi (fun x11 ex11 => ?_)
      replace e := ky_letE ex11 e
      obtain ⟨q10, eq10⟩ : ∃ z, z = (md_throwsIf_c q5 0 2) := ⟨_, rfl⟩
      rw [← eq10] at hmh9
      replace e := ky_letE eq10 e
      refine v_if_eq (tgt := 41) (i := 20) rfl (by decide) (fun c12 => ?_) (fun c12 => ?_)
      · replace e := ky_ifT c12 e
        refine v_iload_n (i := 23) (j := 2) rfl rfl (?_ : ky_V _ _ _ 42 _ _ _ _)
        refine v_iconst (v := 3) (i := 24) rfl (by decide) (?_ : ky_V _ _ _ 43 _ _ _ _)
        refine v_icmp_ne (tgt := 54) (i := 25) rfl (by decide) (fun c13 => ?_) (fun c13 => ?_)
        · replace e := ky_ifF c13 e
          refine v_aload_n (i := 30) (j := 0) rfl rfl (?_ : ky_V _ _ _ 55 _ _ _ _)
          refine v_iload_n (i := 31) (j := 1) rfl rfl (?_ : ky_V _ _ _ 56 _ _ _ _)
          refine v_iload_n (i := 32) (j := 2) rfl rfl (?_ : ky_V _ _ _ 57 _ _ _ _)
          obtain ⟨z14, e⟩ := ky_chkE e
          refine cl_X12_397 (As := [.int p1, .int p2]) rfl (i := 33) rfl (md_0 hmh9) rfl rfl (Nat.le_of_ble_eq_true rfl) (k_X12_of p1 p2 hmh9 (ky_inb z14) ⟨_, rfl, (?_ : ky_V _ _ _ 60 _ [.int ((md_of_r q10 p1 p2))] _ _)⟩)
          refine v_iret (v := (md_of_r q10 p1 p2)) (ty := .int) (i := 34) rfl rfl rfl ?_
          obtain ⟨rfl, rfl⟩ := ky_leaf e
          exact hr _ hmh9 frh9
        · replace e := ky_ifT c13 e
          refine v_aload_n (i := 26) (j := 0) rfl rfl (?_ : ky_V _ _ _ 47 _ _ _ _)
          refine v_iload_n (i := 27) (j := 1) rfl rfl (?_ : ky_V _ _ _ 48 _ _ _ _)
          obtain ⟨⟨q16, x17⟩, g18, e⟩ := Option.bind_eq_some_iff.mp e
          refine cl_X12_424 (As := [.int p1]) rfl (i := 28) rfl (md_0 hmh9) rfl rfl (Nat.le_of_ble_eq_true rfl) (k_X12_peopleOn N hmh9 g18 (fun h15 hmh15 frh15 => ⟨_, rfl, (?_ : ky_V _ _ _ 51 _ [.int x17] _ _)⟩))
          have frh15 := frh9.tr frh15
          refine v_goto (tgt := 60) (i := 29) rfl (by decide) (?_ : ky_V _ _ _ 60 _ _ _ _)
          refine v_iret (v := x17) (ty := .int) (i := 34) rfl rfl rfl ?_
          obtain ⟨rfl, rfl⟩ := ky_leaf e
          exact hr _ hmh15 frh15
      · replace e := ky_ifF c12 e
        refine v_iconst (v := 0) (i := 21) rfl (by decide) (?_ : ky_V _ _ _ 40 _ _ _ _)
        refine v_iret (v := 0) (ty := .int) (i := 22) rfl rfl rfl ?_
        obtain ⟨rfl, rfl⟩ := ky_leaf e
        exact hr _ hmh9 frh9
    · replace e := ky_ifT c8 e
      refine v_iconst (v := 1) (i := 15) rfl (by decide) (?_ : ky_V _ _ _ 28 _ _ _ _)
      refine v_goto (tgt := 32) (i := 16) rfl (by decide) (?_ : ky_V _ _ _ 32 _ _ _ _)
      refine v_iconst (v := 2) (i := 18) rfl (by decide) (?_ : ky_V _ _ _ 33 _ _ _ _)
      refine cl_X12_241 (As := [.int 1, .int 2]) rfl (i := 19) rfl (md_0 hmh4) rfl rfl (Nat.le_of_ble_eq_true rfl) (k_X12_throwsIf 1 2 hmh4 (by decide) (fun h19 hmh19 frh19 => ⟨_, rfl, (?_ : ky_V _ _ _ 36 _ [.int ((md_throwsIf_r q5 1 2))] _ _)⟩))
      have frh19 := frh4.tr frh19
      refine v_topi (fun x21 ex21 => ?_)
      replace e := ky_letE ex21 e
      obtain ⟨q20, eq20⟩ : ∃ z, z = (md_throwsIf_c q5 1 2) := ⟨_, rfl⟩
      rw [← eq20] at hmh19
      replace e := ky_letE eq20 e
      refine v_if_eq (tgt := 41) (i := 20) rfl (by decide) (fun c22 => ?_) (fun c22 => ?_)
      · replace e := ky_ifT c22 e
        refine v_iload_n (i := 23) (j := 2) rfl rfl (?_ : ky_V _ _ _ 42 _ _ _ _)
        refine v_iconst (v := 3) (i := 24) rfl (by decide) (?_ : ky_V _ _ _ 43 _ _ _ _)
        refine v_icmp_ne (tgt := 54) (i := 25) rfl (by decide) (fun c23 => ?_) (fun c23 => ?_)
        · replace e := ky_ifF c23 e
          refine v_aload_n (i := 30) (j := 0) rfl rfl (?_ : ky_V _ _ _ 55 _ _ _ _)
          refine v_iload_n (i := 31) (j := 1) rfl rfl (?_ : ky_V _ _ _ 56 _ _ _ _)
          refine v_iload_n (i := 32) (j := 2) rfl rfl (?_ : ky_V _ _ _ 57 _ _ _ _)
          obtain ⟨z24, e⟩ := ky_chkE e
          refine cl_X12_397 (As := [.int p1, .int p2]) rfl (i := 33) rfl (md_0 hmh19) rfl rfl (Nat.le_of_ble_eq_true rfl) (k_X12_of p1 p2 hmh19 (ky_inb z24) ⟨_, rfl, (?_ : ky_V _ _ _ 60 _ [.int ((md_of_r q20 p1 p2))] _ _)⟩)
          refine v_iret (v := (md_of_r q20 p1 p2)) (ty := .int) (i := 34) rfl rfl rfl ?_
          obtain ⟨rfl, rfl⟩ := ky_leaf e
          exact hr _ hmh19 frh19
        · replace e := ky_ifT c23 e
          refine v_aload_n (i := 26) (j := 0) rfl rfl (?_ : ky_V _ _ _ 47 _ _ _ _)
          refine v_iload_n (i := 27) (j := 1) rfl rfl (?_ : ky_V _ _ _ 48 _ _ _ _)
          obtain ⟨⟨q26, x27⟩, g28, e⟩ := Option.bind_eq_some_iff.mp e
          refine cl_X12_424 (As := [.int p1]) rfl (i := 28) rfl (md_0 hmh19) rfl rfl (Nat.le_of_ble_eq_true rfl) (k_X12_peopleOn N hmh19 g28 (fun h25 hmh25 frh25 => ⟨_, rfl, (?_ : ky_V _ _ _ 51 _ [.int x27] _ _)⟩))
          have frh25 := frh19.tr frh25
          refine v_goto (tgt := 60) (i := 29) rfl (by decide) (?_ : ky_V _ _ _ 60 _ _ _ _)
          refine v_iret (v := x27) (ty := .int) (i := 34) rfl rfl rfl ?_
          obtain ⟨rfl, rfl⟩ := ky_leaf e
          exact hr _ hmh25 frh25
      · replace e := ky_ifF c22 e
        refine v_iconst (v := 0) (i := 21) rfl (by decide) (?_ : ky_V _ _ _ 40 _ _ _ _)
        refine v_iret (v := 0) (ty := .int) (i := 22) rfl rfl rfl ?_
        obtain ⟨rfl, rfl⟩ := ky_leaf e
        exact hr _ hmh19 frh19

def md_way (N : Nat) (c : (Nat → Nat → Int32)) (p1 : Int32) (p2 : Int32) (p3 : Int32) : Option ((Nat → Nat → Int32) × Int32) := (ky_let (bk_w c 0 0 0) (fun q2 => (if (md_noPerson_r q2 p1) = 0 then (if (md_noCell p2) = 0 then (ky_let (md_throwsIf_r q2 0 1) (fun x17 => (ky_let (md_throwsIf_c q2 0 1) (fun q16 => (if x17 = 0 then ((md_laysWays N q16 p1 p3).bind (fun zz => (fun q20 x21 => (if ky_inB p2 64 = true then (if (q20 12 (Int32.toNatClampNeg p2)) < (1000000 : Int32) then (some (q20, (q20 12 (Int32.toNatClampNeg p2)))) else (some (q20, (-1)))) else none)) zz.1 zz.2)) else (some (q16, 0))))))) else (ky_let (md_throwsIf_r q2 1 1) (fun x27 => (ky_let (md_throwsIf_c q2 1 1) (fun q26 => (if x27 = 0 then ((md_laysWays N q26 p1 p3).bind (fun zz => (fun q30 x31 => (if ky_inB p2 64 = true then (if (q30 12 (Int32.toNatClampNeg p2)) < (1000000 : Int32) then (some (q30, (q30 12 (Int32.toNatClampNeg p2)))) else (some (q30, (-1)))) else none)) zz.1 zz.2)) else (some (q26, 0)))))))) else (ky_let (md_throwsIf_r q2 1 1) (fun x6 => (ky_let (md_throwsIf_c q2 1 1) (fun q5 => (if x6 = 0 then ((md_laysWays N q5 p1 p3).bind (fun zz => (fun q9 x10 => (if ky_inB p2 64 = true then (if (q9 12 (Int32.toNatClampNeg p2)) < (1000000 : Int32) then (some (q9, (q9 12 (Int32.toNatClampNeg p2)))) else (some (q9, (-1)))) else none)) zz.1 zz.2)) else (some (q5, 0))))))))))
set_option maxRecDepth 20000 in
set_option maxHeartbeats 4000000 in
theorem k_X12_way {G : ky_GW} {d : Nat} {h : ky_HP} {Q : ky_RS → ky_HP → Prop} {a : Nat} {c c9 : (Nat → Nat → Int32)} {r9 : Int32} {p1 : Int32} {p2 : Int32} {p3 : Int32} (N : Nat) (hm : md_at G h a c) (e : md_way N c p1 p2 p3 = some (c9, r9)) (hr : ∀ h1, md_at G h1 a c9 → bk_fr a 13 h h1 → Q (.inl (some (.int r9))) h1) : ky_Call G (d + 5) M_X12_way [.ref a, .int p1, .int p2, .int p3] h Q := by
  refine ky_ofV (by decide +kernel) rfl ok_X12_way (Nat.le_of_ble_eq_true rfl) ?_
  have fr : bk_fr a 13 h h := bk_fr.rf
  unfold md_way at e
  refine (?_ : ky_V _ _ _ 0 [(0, .ref a), (1, .int p1), (2, .int p2), (3, .int p3)] [] _ _)
  refine v_aload_n (i := 0) (j := 0) rfl rfl (?_ : ky_V _ _ _ 1 _ _ _ _)
  refine v_iconst (v := 0) (i := 1) rfl (by decide) (?_ : ky_V _ _ _ 2 _ _ _ _)
  refine pf_X12_3 rfl (i := 2) rfl (md_0 hm) (Nat.le_of_ble_eq_true rfl) rfl rfl ?_
  refine bk_st (B := md_B G a) hm fr 0 0 0 (by decide) (fun h1 hmh1 frh1 => ?_)
  obtain ⟨q2, eq2⟩ : ∃ z, z = (bk_w c 0 0 0) := ⟨_, rfl⟩
  rw [← eq2] at hmh1
  replace e := ky_letE eq2 e
  refine (?_ : ky_V _ _ _ 5 _ _ _ _)
  refine v_aload_n (i := 3) (j := 0) rfl rfl (?_ : ky_V _ _ _ 6 _ _ _ _)
  refine v_aload_n (i := 4) (j := 0) rfl rfl (?_ : ky_V _ _ _ 7 _ _ _ _)
  refine v_iload_n (i := 5) (j := 1) rfl rfl (?_ : ky_V _ _ _ 8 _ _ _ _)
  refine cl_X12_385 (As := [.int p1]) rfl (i := 6) rfl (md_0 hmh1) rfl rfl (Nat.le_of_ble_eq_true rfl) (k_X12_noPerson p1 hmh1 ⟨_, rfl, (?_ : ky_V _ _ _ 11 _ [.int ((md_noPerson_r q2 p1)), .ref a] _ _)⟩)
  refine v_if_ne (tgt := 21) (i := 7) rfl (by decide) (fun c3 => ?_) (fun c3 => ?_)
  · replace e := ky_ifF c3 e
    refine v_iconst (v := 1) (i := 11) rfl (by decide) (?_ : ky_V _ _ _ 22 _ _ _ _)
    refine v_goto (tgt := 26) (i := 12) rfl (by decide) (?_ : ky_V _ _ _ 26 _ _ _ _)
    refine v_iconst (v := 1) (i := 14) rfl (by decide) (?_ : ky_V _ _ _ 27 _ _ _ _)
    refine cl_X12_241 (As := [.int 1, .int 1]) rfl (i := 15) rfl (md_0 hmh1) rfl rfl (Nat.le_of_ble_eq_true rfl) (k_X12_throwsIf 1 1 hmh1 (by decide) (fun h4 hmh4 frh4 => ⟨_, rfl, (?_ : ky_V _ _ _ 30 _ [.int ((md_throwsIf_r q2 1 1))] _ _)⟩))
    have frh4 := frh1.tr frh4
    refine v_topi (fun x6 ex6 => ?_)
    replace e := ky_letE ex6 e
    obtain ⟨q5, eq5⟩ : ∃ z, z = (md_throwsIf_c q2 1 1) := ⟨_, rfl⟩
    rw [← eq5] at hmh4
    replace e := ky_letE eq5 e
    refine v_if_eq (tgt := 35) (i := 16) rfl (by decide) (fun c7 => ?_) (fun c7 => ?_)
    · replace e := ky_ifT c7 e
      refine v_aload_n (i := 19) (j := 0) rfl rfl (?_ : ky_V _ _ _ 36 _ _ _ _)
      refine v_iload_n (i := 20) (j := 1) rfl rfl (?_ : ky_V _ _ _ 37 _ _ _ _)
      refine v_iload_n (i := 21) (j := 3) rfl rfl (?_ : ky_V _ _ _ 38 _ _ _ _)
      obtain ⟨⟨q9, x10⟩, g11, e⟩ := Option.bind_eq_some_iff.mp e
      refine cl_X12_414 (As := [.int p1, .int p3]) rfl (i := 22) rfl (md_0 hmh4) rfl rfl (Nat.le_of_ble_eq_true rfl) (k_X12_laysWays N hmh4 g11 (fun h8 hmh8 frh8 => ⟨_, rfl, (?_ : ky_V _ _ _ 41 _ [] _ _)⟩))
      have frh8 := frh4.tr frh8
      refine v_aload_n (i := 23) (j := 0) rfl rfl (?_ : ky_V _ _ _ 42 _ _ _ _)
      refine gf_X12_51 rfl (i := 24) rfl (md_0 hmh8) rfl (?_ : ky_V _ _ _ 45 _ _ _ _)
      refine v_iload_n (i := 25) (j := 2) rfl rfl (?_ : ky_V _ _ _ 46 _ _ _ _)
      obtain ⟨z12, e⟩ := ky_chkE e
      refine v_iald (i := 26) rfl (md_12 hmh8) (ky_inb z12) (?_ : ky_V _ _ _ 47 _ (.int (q9 12 (Int32.toNatClampNeg p2)) :: _) _ _)
      refine v_ldcw (v := 1000000) (i := 27) rfl (ky_t8 (i := 116) rfl rfl) (?_ : ky_V _ _ _ 50 _ _ _ _)
      refine v_icmp_lt (tgt := 57) (i := 28) rfl (by decide) (fun c13 => ?_) (fun c13 => ?_)
      · replace e := ky_ifT c13 e
        refine v_aload_n (i := 31) (j := 0) rfl rfl (?_ : ky_V _ _ _ 58 _ _ _ _)
        refine gf_X12_51 rfl (i := 32) rfl (md_0 hmh8) rfl (?_ : ky_V _ _ _ 61 _ _ _ _)
        refine v_iload_n (i := 33) (j := 2) rfl rfl (?_ : ky_V _ _ _ 62 _ _ _ _)
        refine v_iald (i := 34) rfl (md_12 hmh8) (ky_inb z12) (?_ : ky_V _ _ _ 63 _ (.int (q9 12 (Int32.toNatClampNeg p2)) :: _) _ _)
        refine v_iret (v := (q9 12 (Int32.toNatClampNeg p2))) (ty := .int) (i := 35) rfl rfl rfl ?_
        obtain ⟨rfl, rfl⟩ := ky_leaf e
        exact hr _ hmh8 frh8
      · replace e := ky_ifF c13 e
        refine v_iconst (v := (-1)) (i := 29) rfl (by decide) (?_ : ky_V _ _ _ 54 _ _ _ _)
        refine v_goto (tgt := 63) (i := 30) rfl (by decide) (?_ : ky_V _ _ _ 63 _ _ _ _)
        refine v_iret (v := (-1)) (ty := .int) (i := 35) rfl rfl rfl ?_
        obtain ⟨rfl, rfl⟩ := ky_leaf e
        exact hr _ hmh8 frh8
    · replace e := ky_ifF c7 e
      refine v_iconst (v := 0) (i := 17) rfl (by decide) (?_ : ky_V _ _ _ 34 _ _ _ _)
      refine v_iret (v := 0) (ty := .int) (i := 18) rfl rfl rfl ?_
      obtain ⟨rfl, rfl⟩ := ky_leaf e
      exact hr _ hmh4 frh4
  · replace e := ky_ifT c3 e
    refine v_iload_n (i := 8) (j := 2) rfl rfl (?_ : ky_V _ _ _ 15 _ _ _ _)
    refine cl_X12_388 (As := [.int p2]) rfl (i := 9) rfl rfl rfl (Nat.le_of_ble_eq_true rfl) (k_X12_noCell p2 ⟨_, rfl, (?_ : ky_V _ _ _ 18 _ [.int ((md_noCell p2)), .ref a] _ _)⟩)
    refine v_if_eq (tgt := 25) (i := 10) rfl (by decide) (fun c14 => ?_) (fun c14 => ?_)
    · replace e := ky_ifT c14 e
      refine v_iconst (v := 0) (i := 13) rfl (by decide) (?_ : ky_V _ _ _ 26 _ _ _ _)
      refine v_iconst (v := 1) (i := 14) rfl (by decide) (?_ : ky_V _ _ _ 27 _ _ _ _)
      refine cl_X12_241 (As := [.int 0, .int 1]) rfl (i := 15) rfl (md_0 hmh1) rfl rfl (Nat.le_of_ble_eq_true rfl) (k_X12_throwsIf 0 1 hmh1 (by decide) (fun h15 hmh15 frh15 => ⟨_, rfl, (?_ : ky_V _ _ _ 30 _ [.int ((md_throwsIf_r q2 0 1))] _ _)⟩))
      have frh15 := frh1.tr frh15
      refine v_topi (fun x17 ex17 => ?_)
      replace e := ky_letE ex17 e
      obtain ⟨q16, eq16⟩ : ∃ z, z = (md_throwsIf_c q2 0 1) := ⟨_, rfl⟩
      rw [← eq16] at hmh15
      replace e := ky_letE eq16 e
      refine v_if_eq (tgt := 35) (i := 16) rfl (by decide) (fun c18 => ?_) (fun c18 => ?_)
      · replace e := ky_ifT c18 e
        refine v_aload_n (i := 19) (j := 0) rfl rfl (?_ : ky_V _ _ _ 36 _ _ _ _)
        refine v_iload_n (i := 20) (j := 1) rfl rfl (?_ : ky_V _ _ _ 37 _ _ _ _)
        refine v_iload_n (i := 21) (j := 3) rfl rfl (?_ : ky_V _ _ _ 38 _ _ _ _)
        obtain ⟨⟨q20, x21⟩, g22, e⟩ := Option.bind_eq_some_iff.mp e
        refine cl_X12_414 (As := [.int p1, .int p3]) rfl (i := 22) rfl (md_0 hmh15) rfl rfl (Nat.le_of_ble_eq_true rfl) (k_X12_laysWays N hmh15 g22 (fun h19 hmh19 frh19 => ⟨_, rfl, (?_ : ky_V _ _ _ 41 _ [] _ _)⟩))
        have frh19 := frh15.tr frh19
        refine v_aload_n (i := 23) (j := 0) rfl rfl (?_ : ky_V _ _ _ 42 _ _ _ _)
        refine gf_X12_51 rfl (i := 24) rfl (md_0 hmh19) rfl (?_ : ky_V _ _ _ 45 _ _ _ _)
        refine v_iload_n (i := 25) (j := 2) rfl rfl (?_ : ky_V _ _ _ 46 _ _ _ _)
        obtain ⟨z23, e⟩ := ky_chkE e
        refine v_iald (i := 26) rfl (md_12 hmh19) (ky_inb z23) (?_ : ky_V _ _ _ 47 _ (.int (q20 12 (Int32.toNatClampNeg p2)) :: _) _ _)
        refine v_ldcw (v := 1000000) (i := 27) rfl (ky_t8 (i := 116) rfl rfl) (?_ : ky_V _ _ _ 50 _ _ _ _)
        refine v_icmp_lt (tgt := 57) (i := 28) rfl (by decide) (fun c24 => ?_) (fun c24 => ?_)
        · replace e := ky_ifT c24 e
          refine v_aload_n (i := 31) (j := 0) rfl rfl (?_ : ky_V _ _ _ 58 _ _ _ _)
          refine gf_X12_51 rfl (i := 32) rfl (md_0 hmh19) rfl (?_ : ky_V _ _ _ 61 _ _ _ _)
          refine v_iload_n (i := 33) (j := 2) rfl rfl (?_ : ky_V _ _ _ 62 _ _ _ _)
          refine v_iald (i := 34) rfl (md_12 hmh19) (ky_inb z23) (?_ : ky_V _ _ _ 63 _ (.int (q20 12 (Int32.toNatClampNeg p2)) :: _) _ _)
          refine v_iret (v := (q20 12 (Int32.toNatClampNeg p2))) (ty := .int) (i := 35) rfl rfl rfl ?_
          obtain ⟨rfl, rfl⟩ := ky_leaf e
          exact hr _ hmh19 frh19
        · replace e := ky_ifF c24 e
          refine v_iconst (v := (-1)) (i := 29) rfl (by decide) (?_ : ky_V _ _ _ 54 _ _ _ _)
          refine v_goto (tgt := 63) (i := 30) rfl (by decide) (?_ : ky_V _ _ _ 63 _ _ _ _)
          refine v_iret (v := (-1)) (ty := .int) (i := 35) rfl rfl rfl ?_
          obtain ⟨rfl, rfl⟩ := ky_leaf e
          exact hr _ hmh19 frh19
      · replace e := ky_ifF c18 e
        refine v_iconst (v := 0) (i := 17) rfl (by decide) (?_ : ky_V _ _ _ 34 _ _ _ _)
        refine v_iret (v := 0) (ty := .int) (i := 18) rfl rfl rfl ?_
        obtain ⟨rfl, rfl⟩ := ky_leaf e
        exact hr _ hmh15 frh15
    · replace e := ky_ifF c14 e
      refine v_iconst (v := 1) (i := 11) rfl (by decide) (?_ : ky_V _ _ _ 22 _ _ _ _)
      refine v_goto (tgt := 26) (i := 12) rfl (by decide) (?_ : ky_V _ _ _ 26 _ _ _ _)
      refine v_iconst (v := 1) (i := 14) rfl (by decide) (?_ : ky_V _ _ _ 27 _ _ _ _)
      refine cl_X12_241 (As := [.int 1, .int 1]) rfl (i := 15) rfl (md_0 hmh1) rfl rfl (Nat.le_of_ble_eq_true rfl) (k_X12_throwsIf 1 1 hmh1 (by decide) (fun h25 hmh25 frh25 => ⟨_, rfl, (?_ : ky_V _ _ _ 30 _ [.int ((md_throwsIf_r q2 1 1))] _ _)⟩))
      have frh25 := frh1.tr frh25
      refine v_topi (fun x27 ex27 => ?_)
      replace e := ky_letE ex27 e
      obtain ⟨q26, eq26⟩ : ∃ z, z = (md_throwsIf_c q2 1 1) := ⟨_, rfl⟩
      rw [← eq26] at hmh25
      replace e := ky_letE eq26 e
      refine v_if_eq (tgt := 35) (i := 16) rfl (by decide) (fun c28 => ?_) (fun c28 => ?_)
      · replace e := ky_ifT c28 e
        refine v_aload_n (i := 19) (j := 0) rfl rfl (?_ : ky_V _ _ _ 36 _ _ _ _)
        refine v_iload_n (i := 20) (j := 1) rfl rfl (?_ : ky_V _ _ _ 37 _ _ _ _)
        refine v_iload_n (i := 21) (j := 3) rfl rfl (?_ : ky_V _ _ _ 38 _ _ _ _)
        obtain ⟨⟨q30, x31⟩, g32, e⟩ := Option.bind_eq_some_iff.mp e
        refine cl_X12_414 (As := [.int p1, .int p3]) rfl (i := 22) rfl (md_0 hmh25) rfl rfl (Nat.le_of_ble_eq_true rfl) (k_X12_laysWays N hmh25 g32 (fun h29 hmh29 frh29 => ⟨_, rfl, (?_ : ky_V _ _ _ 41 _ [] _ _)⟩))
        have frh29 := frh25.tr frh29
        refine v_aload_n (i := 23) (j := 0) rfl rfl (?_ : ky_V _ _ _ 42 _ _ _ _)
        refine gf_X12_51 rfl (i := 24) rfl (md_0 hmh29) rfl (?_ : ky_V _ _ _ 45 _ _ _ _)
        refine v_iload_n (i := 25) (j := 2) rfl rfl (?_ : ky_V _ _ _ 46 _ _ _ _)
        obtain ⟨z33, e⟩ := ky_chkE e
        refine v_iald (i := 26) rfl (md_12 hmh29) (ky_inb z33) (?_ : ky_V _ _ _ 47 _ (.int (q30 12 (Int32.toNatClampNeg p2)) :: _) _ _)
        refine v_ldcw (v := 1000000) (i := 27) rfl (ky_t8 (i := 116) rfl rfl) (?_ : ky_V _ _ _ 50 _ _ _ _)
        refine v_icmp_lt (tgt := 57) (i := 28) rfl (by decide) (fun c34 => ?_) (fun c34 => ?_)
        · replace e := ky_ifT c34 e
          refine v_aload_n (i := 31) (j := 0) rfl rfl (?_ : ky_V _ _ _ 58 _ _ _ _)
          refine gf_X12_51 rfl (i := 32) rfl (md_0 hmh29) rfl (?_ : ky_V _ _ _ 61 _ _ _ _)
          refine v_iload_n (i := 33) (j := 2) rfl rfl (?_ : ky_V _ _ _ 62 _ _ _ _)
          refine v_iald (i := 34) rfl (md_12 hmh29) (ky_inb z33) (?_ : ky_V _ _ _ 63 _ (.int (q30 12 (Int32.toNatClampNeg p2)) :: _) _ _)
          refine v_iret (v := (q30 12 (Int32.toNatClampNeg p2))) (ty := .int) (i := 35) rfl rfl rfl ?_
          obtain ⟨rfl, rfl⟩ := ky_leaf e
          exact hr _ hmh29 frh29
        · replace e := ky_ifF c34 e
          refine v_iconst (v := (-1)) (i := 29) rfl (by decide) (?_ : ky_V _ _ _ 54 _ _ _ _)
          refine v_goto (tgt := 63) (i := 30) rfl (by decide) (?_ : ky_V _ _ _ 63 _ _ _ _)
          refine v_iret (v := (-1)) (ty := .int) (i := 35) rfl rfl rfl ?_
          obtain ⟨rfl, rfl⟩ := ky_leaf e
          exact hr _ hmh29 frh29
      · replace e := ky_ifF c28 e
        refine v_iconst (v := 0) (i := 17) rfl (by decide) (?_ : ky_V _ _ _ 34 _ _ _ _)
        refine v_iret (v := 0) (ty := .int) (i := 18) rfl rfl rfl ?_
        obtain ⟨rfl, rfl⟩ := ky_leaf e
        exact hr _ hmh25 frh25

def md_reach_L31 (N : Nat) (k : (Nat → Nat → Int32) → Int32 → Int32 → Int64 → Int32 → Option ((Nat → Nat → Int32) × Int64)) : Nat → (Nat → Nat → Int32) → Int32 → Int32 → Int64 → Int32 → Option ((Nat → Nat → Int32) × Int64)
  | 0, _, _, _, _, _ => none
  | n + 1, c, p1, p2, p3, p5 => (if (64 : Int32) ≤ p5 then (k c p1 p2 p3 p5) else (if ky_inB p5 64 = true then (if (1000000 : Int32) ≤ (c 12 (Int32.toNatClampNeg p5)) then (ky_let (p3 ||| 0) (fun x4 => (ky_let (p5 + 1) (fun x5 => (md_reach_L31 N k n c p1 p2 x4 x5))))) else (ky_let (p3 ||| (1 <<< (Int32.toInt64 p5 &&& 63))) (fun x6 => (ky_let (p5 + 1) (fun x7 => (md_reach_L31 N k n c p1 p2 x6 x7)))))) else none))
set_option maxRecDepth 20000 in
set_option maxHeartbeats 4000000 in
theorem lv_X12_reach_31 {G : ky_GW} {d : Nat} {h0 : ky_HP} {Q : ky_RS → ky_HP → Prop} {a : Nat} {c9 : (Nat → Nat → Int32)} {r9 : Int64} (N : Nat) (k : (Nat → Nat → Int32) → Int32 → Int32 → Int64 → Int32 → Option ((Nat → Nat → Int32) × Int64)) (hr : ∀ h1, md_at G h1 a c9 → bk_fr a 13 h0 h1 → Q (.inl (some (.long r9))) h1)
    (hk : ∀ (h : ky_HP) (c : (Nat → Nat → Int32)) (p1 : Int32) (p2 : Int32) (p3 : Int64) (p5 : Int32), md_at G h a c → bk_fr a 13 h0 h → k c p1 p2 p3 p5 = some (c9, r9) → ky_V G (d + 5) M_X12_reach 68 [(0, .ref a), (1, .int p1), (2, .int p2), (3, .long p3), (5, .int p5)] [] h Q) :
    ∀ (n : Nat) (h : ky_HP) (c : (Nat → Nat → Int32)) (p1 : Int32) (p2 : Int32) (p3 : Int64) (p5 : Int32), md_at G h a c → bk_fr a 13 h0 h → md_reach_L31 N k n c p1 p2 p3 p5 = some (c9, r9) → ky_V G (d + 5) M_X12_reach 31 [(0, .ref a), (1, .int p1), (2, .int p2), (3, .long p3), (5, .int p5)] [] h Q := by
  intro n
  induction n with
  | zero => intro h c p1 p2 p3 p5 hm fr e; cases e
  | succ n ih =>
    intro h c p1 p2 p3 p5 hm fr e
    rw [md_reach_L31] at e
    refine v_iload (i := 20) (j := 4) rfl rfl (?_ : ky_V _ _ _ 33 _ _ _ _)
    refine v_bipush (v := 64) (i := 21) rfl (by decide) (?_ : ky_V _ _ _ 35 _ _ _ _)
    refine v_icmp_ge (tgt := 68) (i := 22) rfl (by decide) (fun c1 => ?_) (fun c1 => ?_)
    · replace e := ky_ifT c1 e
      exact hk h c p1 p2 p3 p5 hm fr e
    · replace e := ky_ifF c1 e
      refine v_lload_n (i := 23) (j := 3) rfl rfl (?_ : ky_V _ _ _ 39 _ _ _ _)
      refine v_aload_n (i := 24) (j := 0) rfl rfl (?_ : ky_V _ _ _ 40 _ _ _ _)
      refine gf_X12_51 rfl (i := 25) rfl (md_0 hm) rfl (?_ : ky_V _ _ _ 43 _ _ _ _)
      refine v_iload (i := 26) (j := 4) rfl rfl (?_ : ky_V _ _ _ 45 _ _ _ _)
      obtain ⟨z2, e⟩ := ky_chkE e
      refine v_iald (i := 27) rfl (md_12 hm) (ky_inb z2) (?_ : ky_V _ _ _ 46 _ (.int (c 12 (Int32.toNatClampNeg p5)) :: _) _ _)
      refine v_ldcw (v := 1000000) (i := 28) rfl (ky_t8 (i := 116) rfl rfl) (?_ : ky_V _ _ _ 49 _ _ _ _)
      refine v_icmp_ge (tgt := 59) (i := 29) rfl (by decide) (fun c3 => ?_) (fun c3 => ?_)
      · replace e := ky_ifT c3 e
        refine v_lconst (v := 0) (i := 34) rfl (by decide) (?_ : ky_V _ _ _ 60 _ _ _ _)
        refine v_lor (i := 35) rfl (?_ : ky_V _ _ _ 61 _ _ _ _)
        refine v_topl (fun x4 ex4 => ?_)
        replace e := ky_letE ex4 e
        refine v_lstore_n (L' := [(0, .ref a), (1, .int p1), (2, .int p2), (3, .long x4), (5, .int p5)]) [1, 2, 3, 0, 4] (i := 36) rfl (Nat.le_of_ble_eq_true rfl) rfl (?_ : ky_V _ _ _ 62 _ _ _ _)
        obtain ⟨x5, ex5⟩ : ∃ z : Int32, z = p5 + 1 := ⟨_, rfl⟩
        replace e := ky_letE ex5 e
        refine v_iinc (v := x5) (j := 4) (L' := [(0, .ref a), (1, .int p1), (2, .int p2), (3, .long x4), (5, .int x5)]) [1, 2, 3, 4, 0] (i := 37) rfl rfl (by rw [ex5]; rfl) (Nat.le_of_ble_eq_true rfl) rfl (?_ : ky_V _ _ _ 65 _ _ _ _)
        refine v_goto (tgt := 31) (i := 38) rfl (by decide) (?_ : ky_V _ _ _ 31 _ _ _ _)
        exact ih h c p1 p2 x4 x5 hm fr e
      · replace e := ky_ifF c3 e
        refine v_lconst (v := 1) (i := 30) rfl (by decide) (?_ : ky_V _ _ _ 53 _ _ _ _)
        refine v_iload (i := 31) (j := 4) rfl rfl (?_ : ky_V _ _ _ 55 _ _ _ _)
        refine v_lshl (i := 32) rfl rfl (?_ : ky_V _ _ _ 56 _ _ _ _)
        refine v_goto (tgt := 60) (i := 33) rfl (by decide) (?_ : ky_V _ _ _ 60 _ _ _ _)
        refine v_lor (i := 35) rfl (?_ : ky_V _ _ _ 61 _ _ _ _)
        refine v_topl (fun x6 ex6 => ?_)
        replace e := ky_letE ex6 e
        refine v_lstore_n (L' := [(0, .ref a), (1, .int p1), (2, .int p2), (3, .long x6), (5, .int p5)]) [1, 2, 3, 0, 4] (i := 36) rfl (Nat.le_of_ble_eq_true rfl) rfl (?_ : ky_V _ _ _ 62 _ _ _ _)
        obtain ⟨x7, ex7⟩ : ∃ z : Int32, z = p5 + 1 := ⟨_, rfl⟩
        replace e := ky_letE ex7 e
        refine v_iinc (v := x7) (j := 4) (L' := [(0, .ref a), (1, .int p1), (2, .int p2), (3, .long x6), (5, .int x7)]) [1, 2, 3, 4, 0] (i := 37) rfl rfl (by rw [ex7]; rfl) (Nat.le_of_ble_eq_true rfl) rfl (?_ : ky_V _ _ _ 65 _ _ _ _)
        refine v_goto (tgt := 31) (i := 38) rfl (by decide) (?_ : ky_V _ _ _ 31 _ _ _ _)
        exact ih h c p1 p2 x6 x7 hm fr e

def md_reach (N : Nat) (c : (Nat → Nat → Int32)) (p1 : Int32) (p2 : Int32) : Option ((Nat → Nat → Int32) × Int64) := (ky_let (bk_w c 0 0 0) (fun q2 => (if (md_noPerson_r q2 p1) = 0 ∨ (md_noPerson_r q2 p1) = 1 then (ky_let (md_throwsIf_r q2 (md_noPerson_r q2 p1) 1) (fun x6 => (ky_let (md_throwsIf_c q2 (md_noPerson_r q2 p1) 1) (fun q5 => (if x6 = 0 then ((md_laysWays N q5 p1 p2).bind (fun zz => (fun q9 x10 => (md_reach_L31 N (fun q13 x14 x15 x16 x17 => (some (q13, x16))) N q9 p1 p2 0 0)) zz.1 zz.2)) else (some (q5, 0))))))) else none)))
set_option maxRecDepth 20000 in
set_option maxHeartbeats 4000000 in
theorem k_X12_reach {G : ky_GW} {d : Nat} {h : ky_HP} {Q : ky_RS → ky_HP → Prop} {a : Nat} {c c9 : (Nat → Nat → Int32)} {r9 : Int64} {p1 : Int32} {p2 : Int32} (N : Nat) (hm : md_at G h a c) (e : md_reach N c p1 p2 = some (c9, r9)) (hr : ∀ h1, md_at G h1 a c9 → bk_fr a 13 h h1 → Q (.inl (some (.long r9))) h1) : ky_Call G (d + 5) M_X12_reach [.ref a, .int p1, .int p2] h Q := by
  refine ky_ofV (by decide +kernel) rfl ok_X12_reach (Nat.le_of_ble_eq_true rfl) ?_
  have fr : bk_fr a 13 h h := bk_fr.rf
  unfold md_reach at e
  refine (?_ : ky_V _ _ _ 0 [(0, .ref a), (1, .int p1), (2, .int p2)] [] _ _)
  refine v_aload_n (i := 0) (j := 0) rfl rfl (?_ : ky_V _ _ _ 1 _ _ _ _)
  refine v_iconst (v := 0) (i := 1) rfl (by decide) (?_ : ky_V _ _ _ 2 _ _ _ _)
  refine pf_X12_3 rfl (i := 2) rfl (md_0 hm) (Nat.le_of_ble_eq_true rfl) rfl rfl ?_
  refine bk_st (B := md_B G a) hm fr 0 0 0 (by decide) (fun h1 hmh1 frh1 => ?_)
  obtain ⟨q2, eq2⟩ : ∃ z, z = (bk_w c 0 0 0) := ⟨_, rfl⟩
  rw [← eq2] at hmh1
  replace e := ky_letE eq2 e
  refine (?_ : ky_V _ _ _ 5 _ _ _ _)
  refine v_aload_n (i := 3) (j := 0) rfl rfl (?_ : ky_V _ _ _ 6 _ _ _ _)
  refine v_aload_n (i := 4) (j := 0) rfl rfl (?_ : ky_V _ _ _ 7 _ _ _ _)
  refine v_iload_n (i := 5) (j := 1) rfl rfl (?_ : ky_V _ _ _ 8 _ _ _ _)
  refine cl_X12_385 (As := [.int p1]) rfl (i := 6) rfl (md_0 hmh1) rfl rfl (Nat.le_of_ble_eq_true rfl) (k_X12_noPerson p1 hmh1 ⟨_, rfl, (?_ : ky_V _ _ _ 11 _ [.int ((md_noPerson_r q2 p1)), .ref a] _ _)⟩)
  refine v_iconst (v := 1) (i := 7) rfl (by decide) (?_ : ky_V _ _ _ 12 _ _ _ _)
  obtain ⟨z3, e⟩ := ky_chkE e
  refine cl_X12_241 (As := [.int ((md_noPerson_r q2 p1)), .int 1]) rfl (i := 8) rfl (md_0 hmh1) rfl rfl (Nat.le_of_ble_eq_true rfl) (k_X12_throwsIf (md_noPerson_r q2 p1) 1 hmh1 z3 (fun h4 hmh4 frh4 => ⟨_, rfl, (?_ : ky_V _ _ _ 15 _ [.int ((md_throwsIf_r q2 (md_noPerson_r q2 p1) 1))] _ _)⟩))
  have frh4 := frh1.tr frh4
  refine v_topi (fun x6 ex6 => ?_)
  replace e := ky_letE ex6 e
  obtain ⟨q5, eq5⟩ : ∃ z, z = (md_throwsIf_c q2 (md_noPerson_r q2 p1) 1) := ⟨_, rfl⟩
  rw [← eq5] at hmh4
  replace e := ky_letE eq5 e
  refine v_if_eq (tgt := 20) (i := 9) rfl (by decide) (fun c7 => ?_) (fun c7 => ?_)
  · replace e := ky_ifT c7 e
    refine v_aload_n (i := 12) (j := 0) rfl rfl (?_ : ky_V _ _ _ 21 _ _ _ _)
    refine v_iload_n (i := 13) (j := 1) rfl rfl (?_ : ky_V _ _ _ 22 _ _ _ _)
    refine v_iload_n (i := 14) (j := 2) rfl rfl (?_ : ky_V _ _ _ 23 _ _ _ _)
    obtain ⟨⟨q9, x10⟩, g11, e⟩ := Option.bind_eq_some_iff.mp e
    refine cl_X12_414 (As := [.int p1, .int p2]) rfl (i := 15) rfl (md_0 hmh4) rfl rfl (Nat.le_of_ble_eq_true rfl) (k_X12_laysWays N hmh4 g11 (fun h8 hmh8 frh8 => ⟨_, rfl, (?_ : ky_V _ _ _ 26 _ [] _ _)⟩))
    have frh8 := frh4.tr frh8
    refine v_lconst (v := 0) (i := 16) rfl (by decide) (?_ : ky_V _ _ _ 27 _ _ _ _)
    refine v_lstore_n (L' := [(0, .ref a), (1, .int p1), (2, .int p2), (3, .long 0)]) [1, 2, 3, 0] (i := 17) rfl (Nat.le_of_ble_eq_true rfl) rfl (?_ : ky_V _ _ _ 28 _ _ _ _)
    refine v_iconst (v := 0) (i := 18) rfl (by decide) (?_ : ky_V _ _ _ 29 _ _ _ _)
    refine v_istore (L' := [(0, .ref a), (1, .int p1), (2, .int p2), (3, .long 0), (5, .int 0)]) [1, 2, 3, 4, 0] (i := 19) rfl (Nat.le_of_ble_eq_true rfl) rfl (?_ : ky_V _ _ _ 31 _ _ _ _)
    refine lv_X12_reach_31 N _ hr (fun h12 q13 x14 x15 x16 x17 hmh12 frh12 e => ?_) N h8 q9 p1 p2 0 0 hmh8 frh8 e
    refine v_lload_n (i := 39) (j := 3) rfl rfl (?_ : ky_V _ _ _ 69 _ _ _ _)
    refine v_lret (v := x16) (i := 40) rfl rfl ?_
    obtain ⟨rfl, rfl⟩ := ky_leaf e
    exact hr _ hmh12 frh12
  · replace e := ky_ifF c7 e
    refine v_lconst (v := 0) (i := 10) rfl (by decide) (?_ : ky_V _ _ _ 19 _ _ _ _)
    refine v_lret (v := 0) (i := 11) rfl rfl ?_
    obtain ⟨rfl, rfl⟩ := ky_leaf e
    exact hr _ hmh4 frh4

def md_sinking_L9 (N : Nat) (k : (Nat → Nat → Int32) → Int64 → Int32 → Option ((Nat → Nat → Int32) × Int64)) : Nat → (Nat → Nat → Int32) → Int64 → Int32 → Option ((Nat → Nat → Int32) × Int64)
  | 0, _, _, _ => none
  | n + 1, c, p1, p3 => (if (64 : Int32) ≤ p3 then (k c p1 p3) else ((md_weightOn N c p3).bind (fun zz => (fun q3 x4 => (if ky_inB ((45 + (3 * p3)) + 0) 2247 = true then (if x4 ≤ (md_of_r q3 p3 0) then (ky_let (p1 ||| 0) (fun x8 => (ky_let (p3 + 1) (fun x9 => (md_sinking_L9 N k n q3 x8 x9))))) else (ky_let (p1 ||| (1 <<< (Int32.toInt64 p3 &&& 63))) (fun x10 => (ky_let (p3 + 1) (fun x11 => (md_sinking_L9 N k n q3 x10 x11)))))) else none)) zz.1 zz.2)))
set_option maxRecDepth 20000 in
set_option maxHeartbeats 4000000 in
theorem lv_X12_sinking_9 {G : ky_GW} {d : Nat} {h0 : ky_HP} {Q : ky_RS → ky_HP → Prop} {a : Nat} {c9 : (Nat → Nat → Int32)} {r9 : Int64} (N : Nat) (k : (Nat → Nat → Int32) → Int64 → Int32 → Option ((Nat → Nat → Int32) × Int64)) (hr : ∀ h1, md_at G h1 a c9 → bk_fr a 13 h0 h1 → Q (.inl (some (.long r9))) h1)
    (hk : ∀ (h : ky_HP) (c : (Nat → Nat → Int32)) (p1 : Int64) (p3 : Int32), md_at G h a c → bk_fr a 13 h0 h → k c p1 p3 = some (c9, r9) → ky_V G (d + 2) M_X12_sinking 45 [(0, .ref a), (1, .long p1), (3, .int p3)] [] h Q) :
    ∀ (n : Nat) (h : ky_HP) (c : (Nat → Nat → Int32)) (p1 : Int64) (p3 : Int32), md_at G h a c → bk_fr a 13 h0 h → md_sinking_L9 N k n c p1 p3 = some (c9, r9) → ky_V G (d + 2) M_X12_sinking 9 [(0, .ref a), (1, .long p1), (3, .int p3)] [] h Q := by
  intro n
  induction n with
  | zero => intro h c p1 p3 hm fr e; cases e
  | succ n ih =>
    intro h c p1 p3 hm fr e
    rw [md_sinking_L9] at e
    refine v_iload_n (i := 7) (j := 2) rfl rfl (?_ : ky_V _ _ _ 10 _ _ _ _)
    refine v_bipush (v := 64) (i := 8) rfl (by decide) (?_ : ky_V _ _ _ 12 _ _ _ _)
    refine v_icmp_ge (tgt := 45) (i := 9) rfl (by decide) (fun c1 => ?_) (fun c1 => ?_)
    · replace e := ky_ifT c1 e
      exact hk h c p1 p3 hm fr e
    · replace e := ky_ifF c1 e
      refine v_lload_n (i := 10) (j := 1) rfl rfl (?_ : ky_V _ _ _ 16 _ _ _ _)
      refine v_aload_n (i := 11) (j := 0) rfl rfl (?_ : ky_V _ _ _ 17 _ _ _ _)
      refine v_iload_n (i := 12) (j := 2) rfl rfl (?_ : ky_V _ _ _ 18 _ _ _ _)
      obtain ⟨⟨q3, x4⟩, g5, e⟩ := Option.bind_eq_some_iff.mp e
      refine cl_X12_430 (As := [.int p3]) rfl (i := 13) rfl (md_0 hm) rfl rfl (Nat.le_of_ble_eq_true rfl) (k_X12_weightOn N hm g5 (fun h2 hmh2 frh2 => ⟨_, rfl, (?_ : ky_V _ _ _ 21 _ [.int x4, .long p1] _ _)⟩))
      have frh2 := fr.tr frh2
      refine v_aload_n (i := 14) (j := 0) rfl rfl (?_ : ky_V _ _ _ 22 _ _ _ _)
      refine v_iload_n (i := 15) (j := 2) rfl rfl (?_ : ky_V _ _ _ 23 _ _ _ _)
      refine v_iconst (v := 0) (i := 16) rfl (by decide) (?_ : ky_V _ _ _ 24 _ _ _ _)
      obtain ⟨z6, e⟩ := ky_chkE e
      refine cl_X12_397 (As := [.int p3, .int 0]) rfl (i := 17) rfl (md_0 hmh2) rfl rfl (Nat.le_of_ble_eq_true rfl) (k_X12_of p3 0 hmh2 (ky_inb z6) ⟨_, rfl, (?_ : ky_V _ _ _ 27 _ [.int ((md_of_r q3 p3 0)), .int x4, .long p1] _ _)⟩)
      refine v_icmp_le (tgt := 36) (i := 18) rfl (by decide) (fun c7 => ?_) (fun c7 => ?_)
      · replace e := ky_ifT c7 e
        refine v_lconst (v := 0) (i := 23) rfl (by decide) (?_ : ky_V _ _ _ 37 _ _ _ _)
        refine v_lor (i := 24) rfl (?_ : ky_V _ _ _ 38 _ _ _ _)
        refine v_topl (fun x8 ex8 => ?_)
        replace e := ky_letE ex8 e
        refine v_lstore_n (L' := [(0, .ref a), (1, .long x8), (3, .int p3)]) [1, 0, 2] (i := 25) rfl (Nat.le_of_ble_eq_true rfl) rfl (?_ : ky_V _ _ _ 39 _ _ _ _)
        obtain ⟨x9, ex9⟩ : ∃ z : Int32, z = p3 + 1 := ⟨_, rfl⟩
        replace e := ky_letE ex9 e
        refine v_iinc (v := x9) (j := 2) (L' := [(0, .ref a), (1, .long x8), (3, .int x9)]) [1, 2, 0] (i := 26) rfl rfl (by rw [ex9]; rfl) (Nat.le_of_ble_eq_true rfl) rfl (?_ : ky_V _ _ _ 42 _ _ _ _)
        refine v_goto (tgt := 9) (i := 27) rfl (by decide) (?_ : ky_V _ _ _ 9 _ _ _ _)
        exact ih h2 q3 x8 x9 hmh2 frh2 e
      · replace e := ky_ifF c7 e
        refine v_lconst (v := 1) (i := 19) rfl (by decide) (?_ : ky_V _ _ _ 31 _ _ _ _)
        refine v_iload_n (i := 20) (j := 2) rfl rfl (?_ : ky_V _ _ _ 32 _ _ _ _)
        refine v_lshl (i := 21) rfl rfl (?_ : ky_V _ _ _ 33 _ _ _ _)
        refine v_goto (tgt := 37) (i := 22) rfl (by decide) (?_ : ky_V _ _ _ 37 _ _ _ _)
        refine v_lor (i := 24) rfl (?_ : ky_V _ _ _ 38 _ _ _ _)
        refine v_topl (fun x10 ex10 => ?_)
        replace e := ky_letE ex10 e
        refine v_lstore_n (L' := [(0, .ref a), (1, .long x10), (3, .int p3)]) [1, 0, 2] (i := 25) rfl (Nat.le_of_ble_eq_true rfl) rfl (?_ : ky_V _ _ _ 39 _ _ _ _)
        obtain ⟨x11, ex11⟩ : ∃ z : Int32, z = p3 + 1 := ⟨_, rfl⟩
        replace e := ky_letE ex11 e
        refine v_iinc (v := x11) (j := 2) (L' := [(0, .ref a), (1, .long x10), (3, .int x11)]) [1, 2, 0] (i := 26) rfl rfl (by rw [ex11]; rfl) (Nat.le_of_ble_eq_true rfl) rfl (?_ : ky_V _ _ _ 42 _ _ _ _)
        refine v_goto (tgt := 9) (i := 27) rfl (by decide) (?_ : ky_V _ _ _ 9 _ _ _ _)
        exact ih h2 q3 x10 x11 hmh2 frh2 e

def md_sinking (N : Nat) (c : (Nat → Nat → Int32))  : Option ((Nat → Nat → Int32) × Int64) := (ky_let (bk_w c 0 0 0) (fun q2 => (md_sinking_L9 N (fun q4 x5 x6 => (some (q4, x5))) N q2 0 0)))
set_option maxRecDepth 20000 in
set_option maxHeartbeats 4000000 in
theorem k_X12_sinking {G : ky_GW} {d : Nat} {h : ky_HP} {Q : ky_RS → ky_HP → Prop} {a : Nat} {c c9 : (Nat → Nat → Int32)} {r9 : Int64}  (N : Nat) (hm : md_at G h a c) (e : md_sinking N c = some (c9, r9)) (hr : ∀ h1, md_at G h1 a c9 → bk_fr a 13 h h1 → Q (.inl (some (.long r9))) h1) : ky_Call G (d + 2) M_X12_sinking [.ref a] h Q := by
  refine ky_ofV (by decide +kernel) rfl ok_X12_sinking (Nat.le_of_ble_eq_true rfl) ?_
  have fr : bk_fr a 13 h h := bk_fr.rf
  unfold md_sinking at e
  refine (?_ : ky_V _ _ _ 0 [(0, .ref a)] [] _ _)
  refine v_aload_n (i := 0) (j := 0) rfl rfl (?_ : ky_V _ _ _ 1 _ _ _ _)
  refine v_iconst (v := 0) (i := 1) rfl (by decide) (?_ : ky_V _ _ _ 2 _ _ _ _)
  refine pf_X12_3 rfl (i := 2) rfl (md_0 hm) (Nat.le_of_ble_eq_true rfl) rfl rfl ?_
  refine bk_st (B := md_B G a) hm fr 0 0 0 (by decide) (fun h1 hmh1 frh1 => ?_)
  obtain ⟨q2, eq2⟩ : ∃ z, z = (bk_w c 0 0 0) := ⟨_, rfl⟩
  rw [← eq2] at hmh1
  replace e := ky_letE eq2 e
  refine (?_ : ky_V _ _ _ 5 _ _ _ _)
  refine v_lconst (v := 0) (i := 3) rfl (by decide) (?_ : ky_V _ _ _ 6 _ _ _ _)
  refine v_lstore_n (L' := [(0, .ref a), (1, .long 0)]) [1, 0] (i := 4) rfl (Nat.le_of_ble_eq_true rfl) rfl (?_ : ky_V _ _ _ 7 _ _ _ _)
  refine v_iconst (v := 0) (i := 5) rfl (by decide) (?_ : ky_V _ _ _ 8 _ _ _ _)
  refine v_istore_n (L' := [(0, .ref a), (1, .long 0), (3, .int 0)]) [1, 2, 0] (i := 6) rfl (Nat.le_of_ble_eq_true rfl) rfl (?_ : ky_V _ _ _ 9 _ _ _ _)
  refine lv_X12_sinking_9 N _ hr (fun h3 q4 x5 x6 hmh3 frh3 e => ?_) N h1 q2 0 0 hmh1 frh1 e
  refine v_lload_n (i := 28) (j := 1) rfl rfl (?_ : ky_V _ _ _ 46 _ _ _ _)
  refine v_lret (v := x5) (i := 29) rfl rfl ?_
  obtain ⟨rfl, rfl⟩ := ky_leaf e
  exact hr _ hmh3 frh3

def md_rope (N : Nat) (c : (Nat → Nat → Int32)) (p1 : Int32) : Option ((Nat → Nat → Int32) × Int64) := (ky_let (bk_w c 0 0 0) (fun q2 => (if (md_noWeight p1) = 0 ∨ (md_noWeight p1) = 1 then (ky_let (md_throwsIf_r q2 (md_noWeight p1) 1) (fun x6 => (ky_let (md_throwsIf_c q2 (md_noWeight p1) 1) (fun q5 => (if x6 = 0 then ((md_ropeFor N q5 p1).bind (fun zz => (fun q9 x10 => (some (q9, x10))) zz.1 zz.2)) else (some (q5, 0))))))) else none)))
set_option maxRecDepth 20000 in
set_option maxHeartbeats 4000000 in
theorem k_X12_rope {G : ky_GW} {d : Nat} {h : ky_HP} {Q : ky_RS → ky_HP → Prop} {a : Nat} {c c9 : (Nat → Nat → Int32)} {r9 : Int64} {p1 : Int32} (N : Nat) (hm : md_at G h a c) (e : md_rope N c p1 = some (c9, r9)) (hr : ∀ h1, md_at G h1 a c9 → bk_fr a 13 h h1 → Q (.inl (some (.long r9))) h1) : ky_Call G (d + 3) M_X12_rope [.ref a, .int p1] h Q := by
  refine ky_ofV (by decide +kernel) rfl ok_X12_rope (Nat.le_of_ble_eq_true rfl) ?_
  have fr : bk_fr a 13 h h := bk_fr.rf
  unfold md_rope at e
  refine (?_ : ky_V _ _ _ 0 [(0, .ref a), (1, .int p1)] [] _ _)
  refine v_aload_n (i := 0) (j := 0) rfl rfl (?_ : ky_V _ _ _ 1 _ _ _ _)
  refine v_iconst (v := 0) (i := 1) rfl (by decide) (?_ : ky_V _ _ _ 2 _ _ _ _)
  refine pf_X12_3 rfl (i := 2) rfl (md_0 hm) (Nat.le_of_ble_eq_true rfl) rfl rfl ?_
  refine bk_st (B := md_B G a) hm fr 0 0 0 (by decide) (fun h1 hmh1 frh1 => ?_)
  obtain ⟨q2, eq2⟩ : ∃ z, z = (bk_w c 0 0 0) := ⟨_, rfl⟩
  rw [← eq2] at hmh1
  replace e := ky_letE eq2 e
  refine (?_ : ky_V _ _ _ 5 _ _ _ _)
  refine v_aload_n (i := 3) (j := 0) rfl rfl (?_ : ky_V _ _ _ 6 _ _ _ _)
  refine v_iload_n (i := 4) (j := 1) rfl rfl (?_ : ky_V _ _ _ 7 _ _ _ _)
  refine cl_X12_427 (As := [.int p1]) rfl (i := 5) rfl rfl rfl (Nat.le_of_ble_eq_true rfl) (k_X12_noWeight p1 ⟨_, rfl, (?_ : ky_V _ _ _ 10 _ [.int ((md_noWeight p1)), .ref a] _ _)⟩)
  refine v_iconst (v := 1) (i := 6) rfl (by decide) (?_ : ky_V _ _ _ 11 _ _ _ _)
  obtain ⟨z3, e⟩ := ky_chkE e
  refine cl_X12_241 (As := [.int ((md_noWeight p1)), .int 1]) rfl (i := 7) rfl (md_0 hmh1) rfl rfl (Nat.le_of_ble_eq_true rfl) (k_X12_throwsIf (md_noWeight p1) 1 hmh1 z3 (fun h4 hmh4 frh4 => ⟨_, rfl, (?_ : ky_V _ _ _ 14 _ [.int ((md_throwsIf_r q2 (md_noWeight p1) 1))] _ _)⟩))
  have frh4 := frh1.tr frh4
  refine v_topi (fun x6 ex6 => ?_)
  replace e := ky_letE ex6 e
  obtain ⟨q5, eq5⟩ : ∃ z, z = (md_throwsIf_c q2 (md_noWeight p1) 1) := ⟨_, rfl⟩
  rw [← eq5] at hmh4
  replace e := ky_letE eq5 e
  refine v_if_eq (tgt := 21) (i := 8) rfl (by decide) (fun c7 => ?_) (fun c7 => ?_)
  · replace e := ky_ifT c7 e
    refine v_aload_n (i := 11) (j := 0) rfl rfl (?_ : ky_V _ _ _ 22 _ _ _ _)
    refine v_iload_n (i := 12) (j := 1) rfl rfl (?_ : ky_V _ _ _ 23 _ _ _ _)
    obtain ⟨⟨q9, x10⟩, g11, e⟩ := Option.bind_eq_some_iff.mp e
    refine cl_X12_433 (As := [.int p1]) rfl (i := 13) rfl (md_0 hmh4) rfl rfl (Nat.le_of_ble_eq_true rfl) (k_X12_ropeFor N hmh4 g11 (fun h8 hmh8 frh8 => ⟨_, rfl, (?_ : ky_V _ _ _ 26 _ [.long x10] _ _)⟩))
    have frh8 := frh4.tr frh8
    refine v_lret (v := x10) (i := 14) rfl rfl ?_
    obtain ⟨rfl, rfl⟩ := ky_leaf e
    exact hr _ hmh8 frh8
  · replace e := ky_ifF c7 e
    refine v_lconst (v := 0) (i := 9) rfl (by decide) (?_ : ky_V _ _ _ 18 _ _ _ _)
    refine v_goto (tgt := 26) (i := 10) rfl (by decide) (?_ : ky_V _ _ _ 26 _ _ _ _)
    refine v_lret (v := 0) (i := 14) rfl rfl ?_
    obtain ⟨rfl, rfl⟩ := ky_leaf e
    exact hr _ hmh4 frh4

def md_sumOf_L6 (N : Nat) (k : (Nat → Nat → Int32) → Int32 → Int32 → Int32 → Int32 → Int32 → Option ((Nat → Nat → Int32) × Int32)) : Nat → (Nat → Nat → Int32) → Int32 → Int32 → Int32 → Int32 → Int32 → Option ((Nat → Nat → Int32) × Int32)
  | 0, _, _, _, _, _, _ => none
  | n + 1, c, p1, p2, p3, p4, p5 => (if (c 1 14) = (1 : Int32) then (if (c 1 549) ≤ p5 then (k c p1 p2 p3 p4 p5) else (if ky_inB (550 + (4 * p5)) 2247 = true then (if (c 1 (Int32.toNatClampNeg (550 + (4 * p5)))) = p1 then ((md_holdsLine N c p5 p2 p3).bind (fun zz => (fun q7 x8 => (if x8 = 0 then (ky_let (p5 + 1) (fun x11 => (md_sumOf_L6 N k n q7 p1 p2 p3 p4 x11))) else (if ky_inB ((550 + (4 * p5)) + 1) 2247 = true then (ky_let (p4 + (q7 1 (Int32.toNatClampNeg ((550 + (4 * p5)) + 1)))) (fun x13 => (ky_let (p5 + 1) (fun x14 => (md_sumOf_L6 N k n q7 p1 p2 p3 x13 x14))))) else none))) zz.1 zz.2)) else (ky_let (p5 + 1) (fun x5 => (md_sumOf_L6 N k n c p1 p2 p3 p4 x5)))) else none)) else (k c p1 p2 p3 p4 p5))
set_option maxRecDepth 20000 in
set_option maxHeartbeats 4000000 in
theorem lv_X12_sumOf_6 {G : ky_GW} {d : Nat} {h0 : ky_HP} {Q : ky_RS → ky_HP → Prop} {a : Nat} {c9 : (Nat → Nat → Int32)} {r9 : Int32} (N : Nat) (k : (Nat → Nat → Int32) → Int32 → Int32 → Int32 → Int32 → Int32 → Option ((Nat → Nat → Int32) × Int32)) (hr : ∀ h1, md_at G h1 a c9 → bk_fr a 13 h0 h1 → Q (.inl (some (.int r9))) h1)
    (hk : ∀ (h : ky_HP) (c : (Nat → Nat → Int32)) (p1 : Int32) (p2 : Int32) (p3 : Int32) (p4 : Int32) (p5 : Int32), md_at G h a c → bk_fr a 13 h0 h → k c p1 p2 p3 p4 p5 = some (c9, r9) → ky_V G (d + 2) M_X12_sumOf 84 [(0, .ref a), (1, .int p1), (2, .int p2), (3, .int p3), (4, .int p4), (5, .int p5)] [] h Q) :
    ∀ (n : Nat) (h : ky_HP) (c : (Nat → Nat → Int32)) (p1 : Int32) (p2 : Int32) (p3 : Int32) (p4 : Int32) (p5 : Int32), md_at G h a c → bk_fr a 13 h0 h → md_sumOf_L6 N k n c p1 p2 p3 p4 p5 = some (c9, r9) → ky_V G (d + 2) M_X12_sumOf 6 [(0, .ref a), (1, .int p1), (2, .int p2), (3, .int p3), (4, .int p4), (5, .int p5)] [] h Q := by
  intro n
  induction n with
  | zero => intro h c p1 p2 p3 p4 p5 hm fr e; cases e
  | succ n ih =>
    intro h c p1 p2 p3 p4 p5 hm fr e
    rw [md_sumOf_L6] at e
    refine v_aload_n (i := 4) (j := 0) rfl rfl (?_ : ky_V _ _ _ 7 _ _ _ _)
    refine gf_X12_13 rfl (i := 5) rfl (md_0 hm) rfl (?_ : ky_V _ _ _ 10 _ _ _ _)
    refine v_bipush (v := 14) (i := 6) rfl (by decide) (?_ : ky_V _ _ _ 12 _ _ _ _)
    refine v_iald (i := 7) rfl (md_1 hm) (ky_inl (by decide)) (?_ : ky_V _ _ _ 13 _ (.int (c 1 14) :: _) _ _)
    refine v_iconst (v := 1) (i := 8) rfl (by decide) (?_ : ky_V _ _ _ 14 _ _ _ _)
    refine v_icmp_ne (tgt := 84) (i := 9) rfl (by decide) (fun c1 => ?_) (fun c1 => ?_)
    · replace e := ky_ifF c1 e
      exact hk h c p1 p2 p3 p4 p5 hm fr e
    · replace e := ky_ifT c1 e
      refine v_iload (i := 10) (j := 5) rfl rfl (?_ : ky_V _ _ _ 19 _ _ _ _)
      refine v_aload_n (i := 11) (j := 0) rfl rfl (?_ : ky_V _ _ _ 20 _ _ _ _)
      refine gf_X12_13 rfl (i := 12) rfl (md_0 hm) rfl (?_ : ky_V _ _ _ 23 _ _ _ _)
      refine v_sipush (v := 549) (i := 13) rfl (by decide) (?_ : ky_V _ _ _ 26 _ _ _ _)
      refine v_iald (i := 14) rfl (md_1 hm) (ky_inl (by decide)) (?_ : ky_V _ _ _ 27 _ (.int (c 1 549) :: _) _ _)
      refine v_icmp_ge (tgt := 84) (i := 15) rfl (by decide) (fun c2 => ?_) (fun c2 => ?_)
      · replace e := ky_ifT c2 e
        exact hk h c p1 p2 p3 p4 p5 hm fr e
      · replace e := ky_ifF c2 e
        refine v_aload_n (i := 16) (j := 0) rfl rfl (?_ : ky_V _ _ _ 31 _ _ _ _)
        refine gf_X12_13 rfl (i := 17) rfl (md_0 hm) rfl (?_ : ky_V _ _ _ 34 _ _ _ _)
        refine v_sipush (v := 550) (i := 18) rfl (by decide) (?_ : ky_V _ _ _ 37 _ _ _ _)
        refine v_iconst (v := 4) (i := 19) rfl (by decide) (?_ : ky_V _ _ _ 38 _ _ _ _)
        refine v_iload (i := 20) (j := 5) rfl rfl (?_ : ky_V _ _ _ 40 _ _ _ _)
        refine v_imul (i := 21) rfl (?_ : ky_V _ _ _ 41 _ _ _ _)
        refine v_iadd (i := 22) rfl (?_ : ky_V _ _ _ 42 _ _ _ _)
        obtain ⟨z3, e⟩ := ky_chkE e
        refine v_iald (i := 23) rfl (md_1 hm) (ky_inb z3) (?_ : ky_V _ _ _ 43 _ (.int (c 1 (Int32.toNatClampNeg (550 + (4 * p5)))) :: _) _ _)
        refine v_iload_n (i := 24) (j := 1) rfl rfl (?_ : ky_V _ _ _ 44 _ _ _ _)
        refine v_icmp_ne (tgt := 78) (i := 25) rfl (by decide) (fun c4 => ?_) (fun c4 => ?_)
        · replace e := ky_ifF c4 e
          obtain ⟨x5, ex5⟩ : ∃ z : Int32, z = p5 + 1 := ⟨_, rfl⟩
          replace e := ky_letE ex5 e
          refine v_iinc (v := x5) (j := 5) (L' := [(0, .ref a), (1, .int p1), (2, .int p2), (3, .int p3), (4, .int p4), (5, .int x5)]) [1, 2, 3, 4, 5, 0] (i := 45) rfl rfl (by rw [ex5]; rfl) (Nat.le_of_ble_eq_true rfl) rfl (?_ : ky_V _ _ _ 81 _ _ _ _)
          refine v_goto (tgt := 6) (i := 46) rfl (by decide) (?_ : ky_V _ _ _ 6 _ _ _ _)
          exact ih h c p1 p2 p3 p4 x5 hm fr e
        · replace e := ky_ifT c4 e
          refine v_aload_n (i := 26) (j := 0) rfl rfl (?_ : ky_V _ _ _ 48 _ _ _ _)
          refine v_iload (i := 27) (j := 5) rfl rfl (?_ : ky_V _ _ _ 50 _ _ _ _)
          refine v_iload_n (i := 28) (j := 2) rfl rfl (?_ : ky_V _ _ _ 51 _ _ _ _)
          refine v_iload_n (i := 29) (j := 3) rfl rfl (?_ : ky_V _ _ _ 52 _ _ _ _)
          obtain ⟨⟨q7, x8⟩, g9, e⟩ := Option.bind_eq_some_iff.mp e
          refine cl_X12_252 (As := [.int p5, .int p2, .int p3]) rfl (i := 30) rfl (md_0 hm) rfl rfl (Nat.le_of_ble_eq_true rfl) (k_X12_holdsLine N hm g9 (fun h6 hmh6 frh6 => ⟨_, rfl, (?_ : ky_V _ _ _ 55 _ [.int x8] _ _)⟩))
          have frh6 := fr.tr frh6
          refine v_if_eq (tgt := 78) (i := 31) rfl (by decide) (fun c10 => ?_) (fun c10 => ?_)
          · replace e := ky_ifT c10 e
            obtain ⟨x11, ex11⟩ : ∃ z : Int32, z = p5 + 1 := ⟨_, rfl⟩
            replace e := ky_letE ex11 e
            refine v_iinc (v := x11) (j := 5) (L' := [(0, .ref a), (1, .int p1), (2, .int p2), (3, .int p3), (4, .int p4), (5, .int x11)]) [1, 2, 3, 4, 5, 0] (i := 45) rfl rfl (by rw [ex11]; rfl) (Nat.le_of_ble_eq_true rfl) rfl (?_ : ky_V _ _ _ 81 _ _ _ _)
            refine v_goto (tgt := 6) (i := 46) rfl (by decide) (?_ : ky_V _ _ _ 6 _ _ _ _)
            exact ih h6 q7 p1 p2 p3 p4 x11 hmh6 frh6 e
          · replace e := ky_ifF c10 e
            refine v_iload (i := 32) (j := 4) rfl rfl (?_ : ky_V _ _ _ 60 _ _ _ _)
            refine v_aload_n (i := 33) (j := 0) rfl rfl (?_ : ky_V _ _ _ 61 _ _ _ _)
            refine gf_X12_13 rfl (i := 34) rfl (md_0 hmh6) rfl (?_ : ky_V _ _ _ 64 _ _ _ _)
            refine v_sipush (v := 550) (i := 35) rfl (by decide) (?_ : ky_V _ _ _ 67 _ _ _ _)
            refine v_iconst (v := 4) (i := 36) rfl (by decide) (?_ : ky_V _ _ _ 68 _ _ _ _)
            refine v_iload (i := 37) (j := 5) rfl rfl (?_ : ky_V _ _ _ 70 _ _ _ _)
            refine v_imul (i := 38) rfl (?_ : ky_V _ _ _ 71 _ _ _ _)
            refine v_iadd (i := 39) rfl (?_ : ky_V _ _ _ 72 _ _ _ _)
            refine v_iconst (v := 1) (i := 40) rfl (by decide) (?_ : ky_V _ _ _ 73 _ _ _ _)
            refine v_iadd (i := 41) rfl (?_ : ky_V _ _ _ 74 _ _ _ _)
            obtain ⟨z12, e⟩ := ky_chkE e
            refine v_iald (i := 42) rfl (md_1 hmh6) (ky_inb z12) (?_ : ky_V _ _ _ 75 _ (.int (q7 1 (Int32.toNatClampNeg ((550 + (4 * p5)) + 1))) :: _) _ _)
            refine v_iadd (i := 43) rfl (?_ : ky_V _ _ _ 76 _ _ _ _)
            refine v_topi (fun x13 ex13 => ?_)
            replace e := ky_letE ex13 e
            refine v_istore (L' := [(0, .ref a), (1, .int p1), (2, .int p2), (3, .int p3), (4, .int x13), (5, .int p5)]) [1, 2, 3, 4, 0, 5] (i := 44) rfl (Nat.le_of_ble_eq_true rfl) rfl (?_ : ky_V _ _ _ 78 _ _ _ _)
            obtain ⟨x14, ex14⟩ : ∃ z : Int32, z = p5 + 1 := ⟨_, rfl⟩
            replace e := ky_letE ex14 e
            refine v_iinc (v := x14) (j := 5) (L' := [(0, .ref a), (1, .int p1), (2, .int p2), (3, .int p3), (4, .int x13), (5, .int x14)]) [1, 2, 3, 4, 5, 0] (i := 45) rfl rfl (by rw [ex14]; rfl) (Nat.le_of_ble_eq_true rfl) rfl (?_ : ky_V _ _ _ 81 _ _ _ _)
            refine v_goto (tgt := 6) (i := 46) rfl (by decide) (?_ : ky_V _ _ _ 6 _ _ _ _)
            exact ih h6 q7 p1 p2 p3 x13 x14 hmh6 frh6 e

def md_sumOf (N : Nat) (c : (Nat → Nat → Int32)) (p1 : Int32) (p2 : Int32) (p3 : Int32) : Option ((Nat → Nat → Int32) × Int32) := (md_sumOf_L6 N (fun q2 x3 x4 x5 x6 x7 => (some (q2, x6))) N c p1 p2 p3 0 0)
set_option maxRecDepth 20000 in
set_option maxHeartbeats 4000000 in
theorem k_X12_sumOf {G : ky_GW} {d : Nat} {h : ky_HP} {Q : ky_RS → ky_HP → Prop} {a : Nat} {c c9 : (Nat → Nat → Int32)} {r9 : Int32} {p1 : Int32} {p2 : Int32} {p3 : Int32} (N : Nat) (hm : md_at G h a c) (e : md_sumOf N c p1 p2 p3 = some (c9, r9)) (hr : ∀ h1, md_at G h1 a c9 → bk_fr a 13 h h1 → Q (.inl (some (.int r9))) h1) : ky_Call G (d + 2) M_X12_sumOf [.ref a, .int p1, .int p2, .int p3] h Q := by
  refine ky_ofV (by decide +kernel) rfl ok_X12_sumOf (Nat.le_of_ble_eq_true rfl) ?_
  have fr : bk_fr a 13 h h := bk_fr.rf
  unfold md_sumOf at e
  refine (?_ : ky_V _ _ _ 0 [(0, .ref a), (1, .int p1), (2, .int p2), (3, .int p3)] [] _ _)
  refine v_iconst (v := 0) (i := 0) rfl (by decide) (?_ : ky_V _ _ _ 1 _ _ _ _)
  refine v_istore (L' := [(0, .ref a), (1, .int p1), (2, .int p2), (3, .int p3), (4, .int 0)]) [1, 2, 3, 4, 0] (i := 1) rfl (Nat.le_of_ble_eq_true rfl) rfl (?_ : ky_V _ _ _ 3 _ _ _ _)
  refine v_iconst (v := 0) (i := 2) rfl (by decide) (?_ : ky_V _ _ _ 4 _ _ _ _)
  refine v_istore (L' := [(0, .ref a), (1, .int p1), (2, .int p2), (3, .int p3), (4, .int 0), (5, .int 0)]) [1, 2, 3, 4, 5, 0] (i := 3) rfl (Nat.le_of_ble_eq_true rfl) rfl (?_ : ky_V _ _ _ 6 _ _ _ _)
  refine lv_X12_sumOf_6 N _ hr (fun h1 q2 x3 x4 x5 x6 x7 hmh1 frh1 e => ?_) N h c p1 p2 p3 0 0 hm fr e
  refine v_iload (i := 47) (j := 4) rfl rfl (?_ : ky_V _ _ _ 86 _ _ _ _)
  refine v_iret (v := x6) (ty := .int) (i := 48) rfl rfl rfl ?_
  obtain ⟨rfl, rfl⟩ := ky_leaf e
  exact hr _ hmh1 frh1

def md_boardedOf (N : Nat) (c : (Nat → Nat → Int32)) (p1 : Int32) : Option ((Nat → Nat → Int32) × Int32) := (if ky_inB ((237 + (2 * p1)) + 1) 2247 = true then (if ky_inB ((237 + (2 * p1)) + 0) 2247 = true then ((md_laysTill N c (md_ofPerson_r c p1 1) (md_ofPerson_r c p1 0) 1).bind (fun zz => (fun q4 x5 => ((md_leastBeside N q4 (q4 1 10)).bind (fun zz => (fun q8 x9 => (if x9 ≤ (q8 1 11) then (some (q8, x9)) else (some (q8, (-1))))) zz.1 zz.2))) zz.1 zz.2)) else none) else none)
set_option maxRecDepth 20000 in
set_option maxHeartbeats 4000000 in
theorem k_X12_boardedOf {G : ky_GW} {d : Nat} {h : ky_HP} {Q : ky_RS → ky_HP → Prop} {a : Nat} {c c9 : (Nat → Nat → Int32)} {r9 : Int32} {p1 : Int32} (N : Nat) (hm : md_at G h a c) (e : md_boardedOf N c p1 = some (c9, r9)) (hr : ∀ h1, md_at G h1 a c9 → bk_fr a 13 h h1 → Q (.inl (some (.int r9))) h1) : ky_Call G (d + 4) M_X12_boardedOf [.ref a, .int p1] h Q := by
  refine ky_ofV (by decide +kernel) rfl ok_X12_boardedOf (Nat.le_of_ble_eq_true rfl) ?_
  have fr : bk_fr a 13 h h := bk_fr.rf
  unfold md_boardedOf at e
  refine (?_ : ky_V _ _ _ 0 [(0, .ref a), (1, .int p1)] [] _ _)
  refine v_aload_n (i := 0) (j := 0) rfl rfl (?_ : ky_V _ _ _ 1 _ _ _ _)
  refine v_aload_n (i := 1) (j := 0) rfl rfl (?_ : ky_V _ _ _ 2 _ _ _ _)
  refine v_iload_n (i := 2) (j := 1) rfl rfl (?_ : ky_V _ _ _ 3 _ _ _ _)
  refine v_iconst (v := 1) (i := 3) rfl (by decide) (?_ : ky_V _ _ _ 4 _ _ _ _)
  obtain ⟨z1, e⟩ := ky_chkE e
  refine cl_X12_391 (As := [.int p1, .int 1]) rfl (i := 4) rfl (md_0 hm) rfl rfl (Nat.le_of_ble_eq_true rfl) (k_X12_ofPerson p1 1 hm (ky_inb z1) ⟨_, rfl, (?_ : ky_V _ _ _ 7 _ [.int ((md_ofPerson_r c p1 1)), .ref a] _ _)⟩)
  refine v_aload_n (i := 5) (j := 0) rfl rfl (?_ : ky_V _ _ _ 8 _ _ _ _)
  refine v_iload_n (i := 6) (j := 1) rfl rfl (?_ : ky_V _ _ _ 9 _ _ _ _)
  refine v_iconst (v := 0) (i := 7) rfl (by decide) (?_ : ky_V _ _ _ 10 _ _ _ _)
  obtain ⟨z2, e⟩ := ky_chkE e
  refine cl_X12_391 (As := [.int p1, .int 0]) rfl (i := 8) rfl (md_0 hm) rfl rfl (Nat.le_of_ble_eq_true rfl) (k_X12_ofPerson p1 0 hm (ky_inb z2) ⟨_, rfl, (?_ : ky_V _ _ _ 13 _ [.int ((md_ofPerson_r c p1 0)), .int ((md_ofPerson_r c p1 1)), .ref a] _ _)⟩)
  refine v_iconst (v := 1) (i := 9) rfl (by decide) (?_ : ky_V _ _ _ 14 _ _ _ _)
  obtain ⟨⟨q4, x5⟩, g6, e⟩ := Option.bind_eq_some_iff.mp e
  refine cl_X12_410 (As := [.int ((md_ofPerson_r c p1 1)), .int ((md_ofPerson_r c p1 0)), .int 1]) rfl (i := 10) rfl (md_0 hm) rfl rfl (Nat.le_of_ble_eq_true rfl) (k_X12_laysTill N hm g6 (fun h3 hmh3 frh3 => ⟨_, rfl, (?_ : ky_V _ _ _ 17 _ [] _ _)⟩))
  have frh3 := fr.tr frh3
  refine v_aload_n (i := 11) (j := 0) rfl rfl (?_ : ky_V _ _ _ 18 _ _ _ _)
  refine v_aload_n (i := 12) (j := 0) rfl rfl (?_ : ky_V _ _ _ 19 _ _ _ _)
  refine gf_X12_13 rfl (i := 13) rfl (md_0 hmh3) rfl (?_ : ky_V _ _ _ 22 _ _ _ _)
  refine v_bipush (v := 10) (i := 14) rfl (by decide) (?_ : ky_V _ _ _ 24 _ _ _ _)
  refine v_iald (i := 15) rfl (md_1 hmh3) (ky_inl (by decide)) (?_ : ky_V _ _ _ 25 _ (.int (q4 1 10) :: _) _ _)
  obtain ⟨⟨q8, x9⟩, g10, e⟩ := Option.bind_eq_some_iff.mp e
  refine cl_X12_403 (As := [.int ((q4 1 10))]) rfl (i := 16) rfl (md_0 hmh3) rfl rfl (Nat.le_of_ble_eq_true rfl) (k_X12_leastBeside N hmh3 g10 (fun h7 hmh7 frh7 => ⟨_, rfl, (?_ : ky_V _ _ _ 28 _ [.int x9] _ _)⟩))
  have frh7 := frh3.tr frh7
  refine v_istore_n (L' := [(0, .ref a), (1, .int p1), (2, .int x9)]) [1, 2, 0] (i := 17) rfl (Nat.le_of_ble_eq_true rfl) rfl (?_ : ky_V _ _ _ 29 _ _ _ _)
  refine v_iload_n (i := 18) (j := 2) rfl rfl (?_ : ky_V _ _ _ 30 _ _ _ _)
  refine v_aload_n (i := 19) (j := 0) rfl rfl (?_ : ky_V _ _ _ 31 _ _ _ _)
  refine gf_X12_13 rfl (i := 20) rfl (md_0 hmh7) rfl (?_ : ky_V _ _ _ 34 _ _ _ _)
  refine v_bipush (v := 11) (i := 21) rfl (by decide) (?_ : ky_V _ _ _ 36 _ _ _ _)
  refine v_iald (i := 22) rfl (md_1 hmh7) (ky_inl (by decide)) (?_ : ky_V _ _ _ 37 _ (.int (q8 1 11) :: _) _ _)
  refine v_icmp_le (tgt := 44) (i := 23) rfl (by decide) (fun c11 => ?_) (fun c11 => ?_)
  · replace e := ky_ifT c11 e
    refine v_iload_n (i := 26) (j := 2) rfl rfl (?_ : ky_V _ _ _ 45 _ _ _ _)
    refine v_iret (v := x9) (ty := .int) (i := 27) rfl rfl rfl ?_
    obtain ⟨rfl, rfl⟩ := ky_leaf e
    exact hr _ hmh7 frh7
  · replace e := ky_ifF c11 e
    refine v_iconst (v := (-1)) (i := 24) rfl (by decide) (?_ : ky_V _ _ _ 41 _ _ _ _)
    refine v_goto (tgt := 45) (i := 25) rfl (by decide) (?_ : ky_V _ _ _ 45 _ _ _ _)
    refine v_iret (v := (-1)) (ty := .int) (i := 27) rfl rfl rfl ?_
    obtain ⟨rfl, rfl⟩ := ky_leaf e
    exact hr _ hmh7 frh7

def md_farOf_L10 (N : Nat) (k : (Nat → Nat → Int32) → Int32 → Int32 → Int32 → Option ((Nat → Nat → Int32) × Int32)) : Nat → (Nat → Nat → Int32) → Int32 → Int32 → Int32 → Option ((Nat → Nat → Int32) × Int32)
  | 0, _, _, _, _ => none
  | n + 1, c, p1, p2, p3 => (if (64 : Int32) ≤ p3 then (k c p1 p2 p3) else (if ky_inB p3 64 = true then (if (1000000 : Int32) ≤ (c 12 (Int32.toNatClampNeg p3)) then (ky_let (p3 + 1) (fun x4 => (md_farOf_L10 N k n c p1 p2 x4))) else (if ky_inB ((237 + (2 * p1)) + 1) 2247 = true then (ky_let (mt_max p2 (md_apart p3 (md_ofPerson_r c p1 1))) (fun x6 => (ky_let (p3 + 1) (fun x7 => (md_farOf_L10 N k n c p1 x6 x7))))) else none)) else none))
set_option maxRecDepth 20000 in
set_option maxHeartbeats 4000000 in
theorem lv_X12_farOf_10 {G : ky_GW} {d : Nat} {h0 : ky_HP} {Q : ky_RS → ky_HP → Prop} {a : Nat} {c9 : (Nat → Nat → Int32)} {r9 : Int32} (N : Nat) (k : (Nat → Nat → Int32) → Int32 → Int32 → Int32 → Option ((Nat → Nat → Int32) × Int32)) (hr : ∀ h1, md_at G h1 a c9 → bk_fr a 13 h0 h1 → Q (.inl (some (.int r9))) h1)
    (hk : ∀ (h : ky_HP) (c : (Nat → Nat → Int32)) (p1 : Int32) (p2 : Int32) (p3 : Int32), md_at G h a c → bk_fr a 13 h0 h → k c p1 p2 p3 = some (c9, r9) → ky_V G (d + 5) M_X12_farOf 53 [(0, .ref a), (1, .int p1), (2, .int p2), (3, .int p3)] [] h Q) :
    ∀ (n : Nat) (h : ky_HP) (c : (Nat → Nat → Int32)) (p1 : Int32) (p2 : Int32) (p3 : Int32), md_at G h a c → bk_fr a 13 h0 h → md_farOf_L10 N k n c p1 p2 p3 = some (c9, r9) → ky_V G (d + 5) M_X12_farOf 10 [(0, .ref a), (1, .int p1), (2, .int p2), (3, .int p3)] [] h Q := by
  intro n
  induction n with
  | zero => intro h c p1 p2 p3 hm fr e; cases e
  | succ n ih =>
    intro h c p1 p2 p3 hm fr e
    rw [md_farOf_L10] at e
    refine v_iload_n (i := 8) (j := 3) rfl rfl (?_ : ky_V _ _ _ 11 _ _ _ _)
    refine v_bipush (v := 64) (i := 9) rfl (by decide) (?_ : ky_V _ _ _ 13 _ _ _ _)
    refine v_icmp_ge (tgt := 53) (i := 10) rfl (by decide) (fun c1 => ?_) (fun c1 => ?_)
    · replace e := ky_ifT c1 e
      exact hk h c p1 p2 p3 hm fr e
    · replace e := ky_ifF c1 e
      refine v_aload_n (i := 11) (j := 0) rfl rfl (?_ : ky_V _ _ _ 17 _ _ _ _)
      refine gf_X12_51 rfl (i := 12) rfl (md_0 hm) rfl (?_ : ky_V _ _ _ 20 _ _ _ _)
      refine v_iload_n (i := 13) (j := 3) rfl rfl (?_ : ky_V _ _ _ 21 _ _ _ _)
      obtain ⟨z2, e⟩ := ky_chkE e
      refine v_iald (i := 14) rfl (md_12 hm) (ky_inb z2) (?_ : ky_V _ _ _ 22 _ (.int (c 12 (Int32.toNatClampNeg p3)) :: _) _ _)
      refine v_ldcw (v := 1000000) (i := 15) rfl (ky_t8 (i := 116) rfl rfl) (?_ : ky_V _ _ _ 25 _ _ _ _)
      refine v_icmp_ge (tgt := 45) (i := 16) rfl (by decide) (fun c3 => ?_) (fun c3 => ?_)
      · replace e := ky_ifT c3 e
        refine v_iload_n (i := 26) (j := 2) rfl rfl (?_ : ky_V _ _ _ 46 _ _ _ _)
        refine v_istore_n (L' := [(0, .ref a), (1, .int p1), (2, .int p2), (3, .int p3)]) [1, 2, 0, 3] (i := 27) rfl (Nat.le_of_ble_eq_true rfl) rfl (?_ : ky_V _ _ _ 47 _ _ _ _)
        obtain ⟨x4, ex4⟩ : ∃ z : Int32, z = p3 + 1 := ⟨_, rfl⟩
        replace e := ky_letE ex4 e
        refine v_iinc (v := x4) (j := 3) (L' := [(0, .ref a), (1, .int p1), (2, .int p2), (3, .int x4)]) [1, 2, 3, 0] (i := 28) rfl rfl (by rw [ex4]; rfl) (Nat.le_of_ble_eq_true rfl) rfl (?_ : ky_V _ _ _ 50 _ _ _ _)
        refine v_goto (tgt := 10) (i := 29) rfl (by decide) (?_ : ky_V _ _ _ 10 _ _ _ _)
        exact ih h c p1 p2 x4 hm fr e
      · replace e := ky_ifF c3 e
        refine v_iload_n (i := 17) (j := 2) rfl rfl (?_ : ky_V _ _ _ 29 _ _ _ _)
        refine v_iload_n (i := 18) (j := 3) rfl rfl (?_ : ky_V _ _ _ 30 _ _ _ _)
        refine v_aload_n (i := 19) (j := 0) rfl rfl (?_ : ky_V _ _ _ 31 _ _ _ _)
        refine v_iload_n (i := 20) (j := 1) rfl rfl (?_ : ky_V _ _ _ 32 _ _ _ _)
        refine v_iconst (v := 1) (i := 21) rfl (by decide) (?_ : ky_V _ _ _ 33 _ _ _ _)
        obtain ⟨z5, e⟩ := ky_chkE e
        refine cl_X12_391 (As := [.int p1, .int 1]) rfl (i := 22) rfl (md_0 hm) rfl rfl (Nat.le_of_ble_eq_true rfl) (k_X12_ofPerson p1 1 hm (ky_inb z5) ⟨_, rfl, (?_ : ky_V _ _ _ 36 _ [.int ((md_ofPerson_r c p1 1)), .int p3, .int p2] _ _)⟩)
        refine cl_X12_394 (As := [.int p3, .int ((md_ofPerson_r c p1 1))]) rfl (i := 23) rfl rfl rfl (Nat.le_of_ble_eq_true rfl) (k_X12_apart p3 (md_ofPerson_r c p1 1) ⟨_, rfl, (?_ : ky_V _ _ _ 39 _ [.int ((md_apart p3 (md_ofPerson_r c p1 1))), .int p2] _ _)⟩)
        refine cl_X12_255 rfl (i := 24) rfl (Nat.le_of_ble_eq_true rfl) (?_ : ky_V _ _ _ 42 _ _ _ _)
        refine v_goto (tgt := 46) (i := 25) rfl (by decide) (?_ : ky_V _ _ _ 46 _ _ _ _)
        refine v_topi (fun x6 ex6 => ?_)
        replace e := ky_letE ex6 e
        refine v_istore_n (L' := [(0, .ref a), (1, .int p1), (2, .int x6), (3, .int p3)]) [1, 2, 0, 3] (i := 27) rfl (Nat.le_of_ble_eq_true rfl) rfl (?_ : ky_V _ _ _ 47 _ _ _ _)
        obtain ⟨x7, ex7⟩ : ∃ z : Int32, z = p3 + 1 := ⟨_, rfl⟩
        replace e := ky_letE ex7 e
        refine v_iinc (v := x7) (j := 3) (L' := [(0, .ref a), (1, .int p1), (2, .int x6), (3, .int x7)]) [1, 2, 3, 0] (i := 28) rfl rfl (by rw [ex7]; rfl) (Nat.le_of_ble_eq_true rfl) rfl (?_ : ky_V _ _ _ 50 _ _ _ _)
        refine v_goto (tgt := 10) (i := 29) rfl (by decide) (?_ : ky_V _ _ _ 10 _ _ _ _)
        exact ih h c p1 x6 x7 hm fr e

def md_farOf (N : Nat) (c : (Nat → Nat → Int32)) (p1 : Int32) : Option ((Nat → Nat → Int32) × Int32) := ((md_laysWays N c p1 0).bind (fun zz => (fun q2 x3 => (md_farOf_L10 N (fun q6 x7 x8 x9 => (some (q6, x8))) N q2 p1 0 0)) zz.1 zz.2))
set_option maxRecDepth 20000 in
set_option maxHeartbeats 4000000 in
theorem k_X12_farOf {G : ky_GW} {d : Nat} {h : ky_HP} {Q : ky_RS → ky_HP → Prop} {a : Nat} {c c9 : (Nat → Nat → Int32)} {r9 : Int32} {p1 : Int32} (N : Nat) (hm : md_at G h a c) (e : md_farOf N c p1 = some (c9, r9)) (hr : ∀ h1, md_at G h1 a c9 → bk_fr a 13 h h1 → Q (.inl (some (.int r9))) h1) : ky_Call G (d + 5) M_X12_farOf [.ref a, .int p1] h Q := by
  refine ky_ofV (by decide +kernel) rfl ok_X12_farOf (Nat.le_of_ble_eq_true rfl) ?_
  have fr : bk_fr a 13 h h := bk_fr.rf
  unfold md_farOf at e
  refine (?_ : ky_V _ _ _ 0 [(0, .ref a), (1, .int p1)] [] _ _)
  refine v_aload_n (i := 0) (j := 0) rfl rfl (?_ : ky_V _ _ _ 1 _ _ _ _)
  refine v_iload_n (i := 1) (j := 1) rfl rfl (?_ : ky_V _ _ _ 2 _ _ _ _)
  refine v_iconst (v := 0) (i := 2) rfl (by decide) (?_ : ky_V _ _ _ 3 _ _ _ _)
  obtain ⟨⟨q2, x3⟩, g4, e⟩ := Option.bind_eq_some_iff.mp e
  refine cl_X12_414 (As := [.int p1, .int 0]) rfl (i := 3) rfl (md_0 hm) rfl rfl (Nat.le_of_ble_eq_true rfl) (k_X12_laysWays N hm g4 (fun h1 hmh1 frh1 => ⟨_, rfl, (?_ : ky_V _ _ _ 6 _ [] _ _)⟩))
  have frh1 := fr.tr frh1
  refine v_iconst (v := 0) (i := 4) rfl (by decide) (?_ : ky_V _ _ _ 7 _ _ _ _)
  refine v_istore_n (L' := [(0, .ref a), (1, .int p1), (2, .int 0)]) [1, 2, 0] (i := 5) rfl (Nat.le_of_ble_eq_true rfl) rfl (?_ : ky_V _ _ _ 8 _ _ _ _)
  refine v_iconst (v := 0) (i := 6) rfl (by decide) (?_ : ky_V _ _ _ 9 _ _ _ _)
  refine v_istore_n (L' := [(0, .ref a), (1, .int p1), (2, .int 0), (3, .int 0)]) [1, 2, 3, 0] (i := 7) rfl (Nat.le_of_ble_eq_true rfl) rfl (?_ : ky_V _ _ _ 10 _ _ _ _)
  refine lv_X12_farOf_10 N _ hr (fun h5 q6 x7 x8 x9 hmh5 frh5 e => ?_) N h1 q2 p1 0 0 hmh1 frh1 e
  refine v_iload_n (i := 30) (j := 2) rfl rfl (?_ : ky_V _ _ _ 54 _ _ _ _)
  refine v_iret (v := x8) (ty := .int) (i := 31) rfl rfl rfl ?_
  obtain ⟨rfl, rfl⟩ := ky_leaf e
  exact hr _ hmh5 frh5

def md_movesBy (N : Nat) (c : (Nat → Nat → Int32)) (p1 : Int32) (p2 : Int32) : Option ((Nat → Nat → Int32) × Int32) := (if (md_isOfNone p1) = 0 then (if ky_inB ((17 + (4 * p1)) + 0) 2247 = true then ((md_sumOf N c 0 p1 p2).bind (fun zz => (fun q4 x5 => (ky_let ((md_ofMove_r c p1 0) + x5) (fun x7 => (if ky_inB ((17 + (4 * p1)) + 1) 2247 = true then ((md_sumOf N q4 1 p1 p2).bind (fun zz => (fun q10 x11 => (ky_let ((md_ofMove_r q4 p1 1) + x11) (fun x13 => (if ky_inB ((17 + (4 * p1)) + 2) 2247 = true then ((md_sumOf N q10 2 p1 p2).bind (fun zz => (fun q16 x17 => ((md_sumOf N q16 3 p1 p2).bind (fun zz => (fun q20 x21 => (ky_let ((((q10 0 19) + (md_ofMove_r q10 p1 2)) + x17) - x21) (fun x23 => (if ky_inB p2 2 = true then (ky_let (md_less (q20 9 (Int32.toNatClampNeg p2)) x7) (fun x25 => (ky_let (bk_w q20 9 (Int32.toNatClampNeg p2) x25) (fun q27 => (if (md_isOfNone p1) = 0 then (if ky_inB (1 - p2) 2 = true then (ky_let (md_deeper (q27 9 (Int32.toNatClampNeg (1 - p2))) x13) (fun x30 => (ky_let (bk_w q27 9 (Int32.toNatClampNeg (1 - p2)) x30) (fun q32 => (ky_let (mt_max 0 (mt_min 5 x23)) (fun x33 => (ky_let (bk_w q32 0 19 x33) (fun q35 => (if p1 = (6 : Int32) then (ky_let (bk_w q35 0 20 1) (fun q38 => (some (q38, 0)))) else (if (q35 0 20) = 0 then (ky_let (bk_w q35 0 20 0) (fun q41 => (some (q41, 0)))) else (if p1 = (1 : Int32) then (ky_let (bk_w q35 0 20 1) (fun q44 => (some (q44, 0)))) else (if p1 = (2 : Int32) then (ky_let (bk_w q35 0 20 1) (fun q47 => (some (q47, 0)))) else (if p1 = (5 : Int32) then (ky_let (bk_w q35 0 20 1) (fun q52 => (some (q52, 0)))) else (ky_let (bk_w q35 0 20 0) (fun q50 => (some (q50, 0))))))))))))))))) else none) else (ky_let (md_deeper (q27 9 0) x13) (fun x53 => (ky_let (bk_w q27 9 0 x53) (fun q55 => (ky_let (md_less (q55 9 1) x7) (fun x56 => (ky_let (bk_w q55 9 1 x56) (fun q58 => (if ky_inB (1 - p2) 2 = true then (ky_let (md_deeper (q58 9 (Int32.toNatClampNeg (1 - p2))) x13) (fun x60 => (ky_let (bk_w q58 9 (Int32.toNatClampNeg (1 - p2)) x60) (fun q62 => (ky_let (mt_max 0 (mt_min 5 x23)) (fun x63 => (ky_let (bk_w q62 0 19 x63) (fun q65 => (if p1 = (6 : Int32) then (ky_let (bk_w q65 0 20 1) (fun q68 => (some (q68, 0)))) else (if (q65 0 20) = 0 then (ky_let (bk_w q65 0 20 0) (fun q71 => (some (q71, 0)))) else (if p1 = (1 : Int32) then (ky_let (bk_w q65 0 20 1) (fun q74 => (some (q74, 0)))) else (if p1 = (2 : Int32) then (ky_let (bk_w q65 0 20 1) (fun q77 => (some (q77, 0)))) else (if p1 = (5 : Int32) then (ky_let (bk_w q65 0 20 1) (fun q82 => (some (q82, 0)))) else (ky_let (bk_w q65 0 20 0) (fun q80 => (some (q80, 0))))))))))))))))) else none)))))))))))))) else none)))) zz.1 zz.2))) zz.1 zz.2)) else none)))) zz.1 zz.2)) else none)))) zz.1 zz.2)) else none) else (if ky_inB ((17 + (4 * p1)) + 0) 2247 = true then ((md_sumOf N c 0 p1 0).bind (fun zz => (fun q85 x86 => (ky_let ((md_ofMove_r c p1 0) + x86) (fun x88 => (if ky_inB ((17 + (4 * p1)) + 1) 2247 = true then ((md_sumOf N q85 1 p1 0).bind (fun zz => (fun q91 x92 => (ky_let ((md_ofMove_r q85 p1 1) + x92) (fun x94 => (if ky_inB ((17 + (4 * p1)) + 2) 2247 = true then ((md_sumOf N q91 2 p1 0).bind (fun zz => (fun q97 x98 => ((md_sumOf N q97 3 p1 0).bind (fun zz => (fun q101 x102 => (ky_let ((((q91 0 19) + (md_ofMove_r q91 p1 2)) + x98) - x102) (fun x104 => (ky_let (md_less (q101 9 0) x88) (fun x105 => (ky_let (bk_w q101 9 0 x105) (fun q107 => (if (md_isOfNone p1) = 0 then (if ky_inB (1 - 0) 2 = true then (ky_let (md_deeper (q107 9 (Int32.toNatClampNeg (1 - 0))) x94) (fun x110 => (ky_let (bk_w q107 9 (Int32.toNatClampNeg (1 - 0)) x110) (fun q112 => (ky_let (mt_max 0 (mt_min 5 x104)) (fun x113 => (ky_let (bk_w q112 0 19 x113) (fun q115 => (if p1 = (6 : Int32) then (ky_let (bk_w q115 0 20 1) (fun q118 => (some (q118, 0)))) else (if (q115 0 20) = 0 then (ky_let (bk_w q115 0 20 0) (fun q121 => (some (q121, 0)))) else (if p1 = (1 : Int32) then (ky_let (bk_w q115 0 20 1) (fun q124 => (some (q124, 0)))) else (if p1 = (2 : Int32) then (ky_let (bk_w q115 0 20 1) (fun q127 => (some (q127, 0)))) else (if p1 = (5 : Int32) then (ky_let (bk_w q115 0 20 1) (fun q132 => (some (q132, 0)))) else (ky_let (bk_w q115 0 20 0) (fun q130 => (some (q130, 0))))))))))))))))) else none) else (ky_let (md_deeper (q107 9 0) x94) (fun x133 => (ky_let (bk_w q107 9 0 x133) (fun q135 => (ky_let (md_less (q135 9 1) x88) (fun x136 => (ky_let (bk_w q135 9 1 x136) (fun q138 => (if ky_inB (1 - 0) 2 = true then (ky_let (md_deeper (q138 9 (Int32.toNatClampNeg (1 - 0))) x94) (fun x140 => (ky_let (bk_w q138 9 (Int32.toNatClampNeg (1 - 0)) x140) (fun q142 => (ky_let (mt_max 0 (mt_min 5 x104)) (fun x143 => (ky_let (bk_w q142 0 19 x143) (fun q145 => (if p1 = (6 : Int32) then (ky_let (bk_w q145 0 20 1) (fun q148 => (some (q148, 0)))) else (if (q145 0 20) = 0 then (ky_let (bk_w q145 0 20 0) (fun q151 => (some (q151, 0)))) else (if p1 = (1 : Int32) then (ky_let (bk_w q145 0 20 1) (fun q154 => (some (q154, 0)))) else (if p1 = (2 : Int32) then (ky_let (bk_w q145 0 20 1) (fun q157 => (some (q157, 0)))) else (if p1 = (5 : Int32) then (ky_let (bk_w q145 0 20 1) (fun q162 => (some (q162, 0)))) else (ky_let (bk_w q145 0 20 0) (fun q160 => (some (q160, 0))))))))))))))))) else none))))))))))))))))) zz.1 zz.2))) zz.1 zz.2)) else none)))) zz.1 zz.2)) else none)))) zz.1 zz.2)) else none))
set_option maxRecDepth 20000 in
set_option maxHeartbeats 4000000 in
theorem k_X12_movesBy {G : ky_GW} {d : Nat} {h : ky_HP} {Q : ky_RS → ky_HP → Prop} {a : Nat} {c c9 : (Nat → Nat → Int32)} {r9 : Int32} {p1 : Int32} {p2 : Int32} (N : Nat) (hm : md_at G h a c) (e : md_movesBy N c p1 p2 = some (c9, r9)) (hr : ∀ h1, md_at G h1 a c9 → bk_fr a 13 h h1 → Q (.inl none) h1) : ky_Call G (d + 3) M_X12_movesBy [.ref a, .int p1, .int p2] h Q := by
  refine ky_ofV (by decide +kernel) rfl ok_X12_movesBy (Nat.le_of_ble_eq_true rfl) ?_
  have fr : bk_fr a 13 h h := bk_fr.rf
  unfold md_movesBy at e
  refine (?_ : ky_V _ _ _ 0 [(0, .ref a), (1, .int p1), (2, .int p2)] [] _ _)
  refine v_iload_n (i := 0) (j := 1) rfl rfl (?_ : ky_V _ _ _ 1 _ _ _ _)
  refine cl_X12_263 (As := [.int p1]) rfl (i := 1) rfl rfl rfl (Nat.le_of_ble_eq_true rfl) (k_X12_isOfNone p1 ⟨_, rfl, (?_ : ky_V _ _ _ 4 _ [.int ((md_isOfNone p1))] _ _)⟩)
  refine v_if_eq (tgt := 11) (i := 2) rfl (by decide) (fun c1 => ?_) (fun c1 => ?_)
  · replace e := ky_ifT c1 e
    refine v_iload_n (i := 5) (j := 2) rfl rfl (?_ : ky_V _ _ _ 12 _ _ _ _)
    refine v_istore_n (L' := [(0, .ref a), (1, .int p1), (2, .int p2), (3, .int p2)]) [1, 2, 3, 0] (i := 6) rfl (Nat.le_of_ble_eq_true rfl) rfl (?_ : ky_V _ _ _ 13 _ _ _ _)
    refine v_aload_n (i := 7) (j := 0) rfl rfl (?_ : ky_V _ _ _ 14 _ _ _ _)
    refine v_iload_n (i := 8) (j := 1) rfl rfl (?_ : ky_V _ _ _ 15 _ _ _ _)
    refine v_iconst (v := 0) (i := 9) rfl (by decide) (?_ : ky_V _ _ _ 16 _ _ _ _)
    obtain ⟨z2, e⟩ := ky_chkE e
    refine cl_X12_266 (As := [.int p1, .int 0]) rfl (i := 10) rfl (md_0 hm) rfl rfl (Nat.le_of_ble_eq_true rfl) (k_X12_ofMove p1 0 hm (ky_inb z2) ⟨_, rfl, (?_ : ky_V _ _ _ 19 _ [.int ((md_ofMove_r c p1 0))] _ _)⟩)
    refine v_aload_n (i := 11) (j := 0) rfl rfl (?_ : ky_V _ _ _ 20 _ _ _ _)
    refine v_iconst (v := 0) (i := 12) rfl (by decide) (?_ : ky_V _ _ _ 21 _ _ _ _)
    refine v_iload_n (i := 13) (j := 1) rfl rfl (?_ : ky_V _ _ _ 22 _ _ _ _)
    refine v_iload_n (i := 14) (j := 3) rfl rfl (?_ : ky_V _ _ _ 23 _ _ _ _)
    obtain ⟨⟨q4, x5⟩, g6, e⟩ := Option.bind_eq_some_iff.mp e
    refine cl_X12_269 (As := [.int 0, .int p1, .int p2]) rfl (i := 15) rfl (md_0 hm) rfl rfl (Nat.le_of_ble_eq_true rfl) (k_X12_sumOf N hm g6 (fun h3 hmh3 frh3 => ⟨_, rfl, (?_ : ky_V _ _ _ 26 _ [.int x5, .int ((md_ofMove_r c p1 0))] _ _)⟩))
    have frh3 := fr.tr frh3
    refine v_iadd (i := 16) rfl (?_ : ky_V _ _ _ 27 _ _ _ _)
    refine v_topi (fun x7 ex7 => ?_)
    replace e := ky_letE ex7 e
    refine v_istore (L' := [(0, .ref a), (1, .int p1), (2, .int p2), (3, .int p2), (4, .int x7)]) [1, 2, 3, 4, 0] (i := 17) rfl (Nat.le_of_ble_eq_true rfl) rfl (?_ : ky_V _ _ _ 29 _ _ _ _)
    refine v_aload_n (i := 18) (j := 0) rfl rfl (?_ : ky_V _ _ _ 30 _ _ _ _)
    refine v_iload_n (i := 19) (j := 1) rfl rfl (?_ : ky_V _ _ _ 31 _ _ _ _)
    refine v_iconst (v := 1) (i := 20) rfl (by decide) (?_ : ky_V _ _ _ 32 _ _ _ _)
    obtain ⟨z8, e⟩ := ky_chkE e
    refine cl_X12_266 (As := [.int p1, .int 1]) rfl (i := 21) rfl (md_0 hmh3) rfl rfl (Nat.le_of_ble_eq_true rfl) (k_X12_ofMove p1 1 hmh3 (ky_inb z8) ⟨_, rfl, (?_ : ky_V _ _ _ 35 _ [.int ((md_ofMove_r q4 p1 1))] _ _)⟩)
    refine v_aload_n (i := 22) (j := 0) rfl rfl (?_ : ky_V _ _ _ 36 _ _ _ _)
    refine v_iconst (v := 1) (i := 23) rfl (by decide) (?_ : ky_V _ _ _ 37 _ _ _ _)
    refine v_iload_n (i := 24) (j := 1) rfl rfl (?_ : ky_V _ _ _ 38 _ _ _ _)
    refine v_iload_n (i := 25) (j := 3) rfl rfl (?_ : ky_V _ _ _ 39 _ _ _ _)
    obtain ⟨⟨q10, x11⟩, g12, e⟩ := Option.bind_eq_some_iff.mp e
    refine cl_X12_269 (As := [.int 1, .int p1, .int p2]) rfl (i := 26) rfl (md_0 hmh3) rfl rfl (Nat.le_of_ble_eq_true rfl) (k_X12_sumOf N hmh3 g12 (fun h9 hmh9 frh9 => ⟨_, rfl, (?_ : ky_V _ _ _ 42 _ [.int x11, .int ((md_ofMove_r q4 p1 1))] _ _)⟩))
    have frh9 := frh3.tr frh9
    refine v_iadd (i := 27) rfl (?_ : ky_V _ _ _ 43 _ _ _ _)
    refine v_topi (fun x13 ex13 => ?_)
    replace e := ky_letE ex13 e
    refine v_istore (L' := [(0, .ref a), (1, .int p1), (2, .int p2), (3, .int p2), (4, .int x7), (5, .int x13)]) [1, 2, 3, 4, 5, 0] (i := 28) rfl (Nat.le_of_ble_eq_true rfl) rfl (?_ : ky_V _ _ _ 45 _ _ _ _)
    refine v_aload_n (i := 29) (j := 0) rfl rfl (?_ : ky_V _ _ _ 46 _ _ _ _)
    refine gf_X12_244 rfl (i := 30) rfl (md_0 hmh9) rfl (?_ : ky_V _ _ _ 49 _ _ _ _)
    refine v_aload_n (i := 31) (j := 0) rfl rfl (?_ : ky_V _ _ _ 50 _ _ _ _)
    refine v_iload_n (i := 32) (j := 1) rfl rfl (?_ : ky_V _ _ _ 51 _ _ _ _)
    refine v_iconst (v := 2) (i := 33) rfl (by decide) (?_ : ky_V _ _ _ 52 _ _ _ _)
    obtain ⟨z14, e⟩ := ky_chkE e
    refine cl_X12_266 (As := [.int p1, .int 2]) rfl (i := 34) rfl (md_0 hmh9) rfl rfl (Nat.le_of_ble_eq_true rfl) (k_X12_ofMove p1 2 hmh9 (ky_inb z14) ⟨_, rfl, (?_ : ky_V _ _ _ 55 _ [.int ((md_ofMove_r q10 p1 2)), .int ((q10 0 19))] _ _)⟩)
    refine v_iadd (i := 35) rfl (?_ : ky_V _ _ _ 56 _ _ _ _)
    refine v_aload_n (i := 36) (j := 0) rfl rfl (?_ : ky_V _ _ _ 57 _ _ _ _)
    refine v_iconst (v := 2) (i := 37) rfl (by decide) (?_ : ky_V _ _ _ 58 _ _ _ _)
    refine v_iload_n (i := 38) (j := 1) rfl rfl (?_ : ky_V _ _ _ 59 _ _ _ _)
    refine v_iload_n (i := 39) (j := 3) rfl rfl (?_ : ky_V _ _ _ 60 _ _ _ _)
    obtain ⟨⟨q16, x17⟩, g18, e⟩ := Option.bind_eq_some_iff.mp e
    refine cl_X12_269 (As := [.int 2, .int p1, .int p2]) rfl (i := 40) rfl (md_0 hmh9) rfl rfl (Nat.le_of_ble_eq_true rfl) (k_X12_sumOf N hmh9 g18 (fun h15 hmh15 frh15 => ⟨_, rfl, (?_ : ky_V _ _ _ 63 _ [.int x17, .int (((q10 0 19) + (md_ofMove_r q10 p1 2)))] _ _)⟩))
    have frh15 := frh9.tr frh15
    refine v_iadd (i := 41) rfl (?_ : ky_V _ _ _ 64 _ _ _ _)
    refine v_aload_n (i := 42) (j := 0) rfl rfl (?_ : ky_V _ _ _ 65 _ _ _ _)
    refine v_iconst (v := 3) (i := 43) rfl (by decide) (?_ : ky_V _ _ _ 66 _ _ _ _)
    refine v_iload_n (i := 44) (j := 1) rfl rfl (?_ : ky_V _ _ _ 67 _ _ _ _)
    refine v_iload_n (i := 45) (j := 3) rfl rfl (?_ : ky_V _ _ _ 68 _ _ _ _)
    obtain ⟨⟨q20, x21⟩, g22, e⟩ := Option.bind_eq_some_iff.mp e
    refine cl_X12_269 (As := [.int 3, .int p1, .int p2]) rfl (i := 46) rfl (md_0 hmh15) rfl rfl (Nat.le_of_ble_eq_true rfl) (k_X12_sumOf N hmh15 g22 (fun h19 hmh19 frh19 => ⟨_, rfl, (?_ : ky_V _ _ _ 71 _ [.int x21, .int ((((q10 0 19) + (md_ofMove_r q10 p1 2)) + x17))] _ _)⟩))
    have frh19 := frh15.tr frh19
    refine v_isub (i := 47) rfl (?_ : ky_V _ _ _ 72 _ _ _ _)
    refine v_topi (fun x23 ex23 => ?_)
    replace e := ky_letE ex23 e
    refine v_istore (L' := [(0, .ref a), (1, .int p1), (2, .int p2), (3, .int p2), (4, .int x7), (5, .int x13), (6, .int x23)]) [1, 2, 3, 4, 5, 6, 0] (i := 48) rfl (Nat.le_of_ble_eq_true rfl) rfl (?_ : ky_V _ _ _ 74 _ _ _ _)
    refine v_aload_n (i := 49) (j := 0) rfl rfl (?_ : ky_V _ _ _ 75 _ _ _ _)
    refine gf_X12_42 rfl (i := 50) rfl (md_0 hmh19) rfl (?_ : ky_V _ _ _ 78 _ _ _ _)
    refine v_iload_n (i := 51) (j := 3) rfl rfl (?_ : ky_V _ _ _ 79 _ _ _ _)
    refine v_aload_n (i := 52) (j := 0) rfl rfl (?_ : ky_V _ _ _ 80 _ _ _ _)
    refine gf_X12_42 rfl (i := 53) rfl (md_0 hmh19) rfl (?_ : ky_V _ _ _ 83 _ _ _ _)
    refine v_iload_n (i := 54) (j := 3) rfl rfl (?_ : ky_V _ _ _ 84 _ _ _ _)
    obtain ⟨z24, e⟩ := ky_chkE e
    refine v_iald (i := 55) rfl (md_9 hmh19) (ky_inb z24) (?_ : ky_V _ _ _ 85 _ (.int (q20 9 (Int32.toNatClampNeg p2)) :: _) _ _)
    refine v_iload (i := 56) (j := 4) rfl rfl (?_ : ky_V _ _ _ 87 _ _ _ _)
    refine cl_X12_273 (As := [.int ((q20 9 (Int32.toNatClampNeg p2))), .int x7]) rfl (i := 57) rfl rfl rfl (Nat.le_of_ble_eq_true rfl) (k_X12_less (q20 9 (Int32.toNatClampNeg p2)) x7 ⟨_, rfl, (?_ : ky_V _ _ _ 90 _ [.int ((md_less (q20 9 (Int32.toNatClampNeg p2)) x7)), .int p2, .ref ((a + 9))] _ _)⟩)
    refine v_topi (fun x25 ex25 => ?_)
    replace e := ky_letE ex25 e
    refine v_iast (i := 58) rfl (md_9 hmh19) (ky_inb z24) ?_
    refine bk_st (B := md_B G a) hmh19 frh19 9 (Int32.toNatClampNeg p2) x25 (by decide) (fun h26 hmh26 frh26 => ?_)
    obtain ⟨q27, eq27⟩ : ∃ z, z = (bk_w q20 9 (Int32.toNatClampNeg p2) x25) := ⟨_, rfl⟩
    rw [← eq27] at hmh26
    replace e := ky_letE eq27 e
    refine (?_ : ky_V _ _ _ 91 _ _ _ _)
    refine v_iload_n (i := 59) (j := 1) rfl rfl (?_ : ky_V _ _ _ 92 _ _ _ _)
    refine cl_X12_263 (As := [.int p1]) rfl (i := 60) rfl rfl rfl (Nat.le_of_ble_eq_true rfl) (k_X12_isOfNone p1 ⟨_, rfl, (?_ : ky_V _ _ _ 95 _ [.int ((md_isOfNone p1))] _ _)⟩)
    refine v_if_eq (tgt := 132) (i := 61) rfl (by decide) (fun c28 => ?_) (fun c28 => ?_)
    · replace e := ky_ifT c28 e
      refine v_aload_n (i := 82) (j := 0) rfl rfl (?_ : ky_V _ _ _ 133 _ _ _ _)
      refine gf_X12_42 rfl (i := 83) rfl (md_0 hmh26) rfl (?_ : ky_V _ _ _ 136 _ _ _ _)
      refine v_iconst (v := 1) (i := 84) rfl (by decide) (?_ : ky_V _ _ _ 137 _ _ _ _)
      refine v_iload_n (i := 85) (j := 3) rfl rfl (?_ : ky_V _ _ _ 138 _ _ _ _)
      refine v_isub (i := 86) rfl (?_ : ky_V _ _ _ 139 _ _ _ _)
      refine v_aload_n (i := 87) (j := 0) rfl rfl (?_ : ky_V _ _ _ 140 _ _ _ _)
      refine gf_X12_42 rfl (i := 88) rfl (md_0 hmh26) rfl (?_ : ky_V _ _ _ 143 _ _ _ _)
      refine v_iconst (v := 1) (i := 89) rfl (by decide) (?_ : ky_V _ _ _ 144 _ _ _ _)
      refine v_iload_n (i := 90) (j := 3) rfl rfl (?_ : ky_V _ _ _ 145 _ _ _ _)
      refine v_isub (i := 91) rfl (?_ : ky_V _ _ _ 146 _ _ _ _)
      obtain ⟨z29, e⟩ := ky_chkE e
      refine v_iald (i := 92) rfl (md_9 hmh26) (ky_inb z29) (?_ : ky_V _ _ _ 147 _ (.int (q27 9 (Int32.toNatClampNeg (1 - p2))) :: _) _ _)
      refine v_iload (i := 93) (j := 5) rfl rfl (?_ : ky_V _ _ _ 149 _ _ _ _)
      refine cl_X12_276 (As := [.int ((q27 9 (Int32.toNatClampNeg (1 - p2)))), .int x13]) rfl (i := 94) rfl rfl rfl (Nat.le_of_ble_eq_true rfl) (k_X12_deeper (q27 9 (Int32.toNatClampNeg (1 - p2))) x13 ⟨_, rfl, (?_ : ky_V _ _ _ 152 _ [.int ((md_deeper (q27 9 (Int32.toNatClampNeg (1 - p2))) x13)), .int ((1 - p2)), .ref ((a + 9))] _ _)⟩)
      refine v_topi (fun x30 ex30 => ?_)
      replace e := ky_letE ex30 e
      refine v_iast (i := 95) rfl (md_9 hmh26) (ky_inb z29) ?_
      refine bk_st (B := md_B G a) hmh26 frh26 9 (Int32.toNatClampNeg (1 - p2)) x30 (by decide) (fun h31 hmh31 frh31 => ?_)
      obtain ⟨q32, eq32⟩ : ∃ z, z = (bk_w q27 9 (Int32.toNatClampNeg (1 - p2)) x30) := ⟨_, rfl⟩
      rw [← eq32] at hmh31
      replace e := ky_letE eq32 e
      refine (?_ : ky_V _ _ _ 153 _ _ _ _)
      refine v_aload_n (i := 96) (j := 0) rfl rfl (?_ : ky_V _ _ _ 154 _ _ _ _)
      refine v_iconst (v := 0) (i := 97) rfl (by decide) (?_ : ky_V _ _ _ 155 _ _ _ _)
      refine v_iconst (v := 5) (i := 98) rfl (by decide) (?_ : ky_V _ _ _ 156 _ _ _ _)
      refine v_iload (i := 99) (j := 6) rfl rfl (?_ : ky_V _ _ _ 158 _ _ _ _)
      refine cl_X12_260 rfl (i := 100) rfl (Nat.le_of_ble_eq_true rfl) (?_ : ky_V _ _ _ 161 _ _ _ _)
      refine cl_X12_255 rfl (i := 101) rfl (Nat.le_of_ble_eq_true rfl) (?_ : ky_V _ _ _ 164 _ _ _ _)
      refine v_topi (fun x33 ex33 => ?_)
      replace e := ky_letE ex33 e
      refine pf_X12_244 rfl (i := 102) rfl (md_0 hmh31) (Nat.le_of_ble_eq_true rfl) rfl rfl ?_
      refine bk_st (B := md_B G a) hmh31 frh31 0 19 x33 (by decide) (fun h34 hmh34 frh34 => ?_)
      obtain ⟨q35, eq35⟩ : ∃ z, z = (bk_w q32 0 19 x33) := ⟨_, rfl⟩
      rw [← eq35] at hmh34
      replace e := ky_letE eq35 e
      refine (?_ : ky_V _ _ _ 167 _ _ _ _)
      refine v_aload_n (i := 103) (j := 0) rfl rfl (?_ : ky_V _ _ _ 168 _ _ _ _)
      refine v_iload_n (i := 104) (j := 1) rfl rfl (?_ : ky_V _ _ _ 169 _ _ _ _)
      refine v_bipush (v := 6) (i := 105) rfl (by decide) (?_ : ky_V _ _ _ 171 _ _ _ _)
      refine v_icmp_eq (tgt := 196) (i := 106) rfl (by decide) (fun c36 => ?_) (fun c36 => ?_)
      · replace e := ky_ifT c36 e
        refine v_iconst (v := 1) (i := 119) rfl (by decide) (?_ : ky_V _ _ _ 197 _ _ _ _)
        refine v_goto (tgt := 201) (i := 120) rfl (by decide) (?_ : ky_V _ _ _ 201 _ _ _ _)
        refine pf_X12_246 rfl (i := 122) rfl (md_0 hmh34) (Nat.le_of_ble_eq_true rfl) (by decide) (by decide) ?_
        refine bk_st (B := md_B G a) hmh34 frh34 0 20 1 (by decide) (fun h37 hmh37 frh37 => ?_)
        obtain ⟨q38, eq38⟩ : ∃ z, z = (bk_w q35 0 20 1) := ⟨_, rfl⟩
        rw [← eq38] at hmh37
        replace e := ky_letE eq38 e
        refine (?_ : ky_V _ _ _ 204 _ _ _ _)
        refine v_vret (i := 123) rfl rfl ?_
        obtain ⟨rfl, rfl⟩ := ky_leaf e
        exact hr _ hmh37 frh37
      · replace e := ky_ifF c36 e
        refine v_aload_n (i := 107) (j := 0) rfl rfl (?_ : ky_V _ _ _ 175 _ _ _ _)
        refine gf_X12_246 rfl (i := 108) rfl (md_0 hmh34) rfl (?_ : ky_V _ _ _ 178 _ _ _ _)
        refine v_if_eq (tgt := 200) (i := 109) rfl (by decide) (fun c39 => ?_) (fun c39 => ?_)
        · replace e := ky_ifT c39 e
          refine v_iconst (v := 0) (i := 121) rfl (by decide) (?_ : ky_V _ _ _ 201 _ _ _ _)
          refine pf_X12_246 rfl (i := 122) rfl (md_0 hmh34) (Nat.le_of_ble_eq_true rfl) (by decide) (by decide) ?_
          refine bk_st (B := md_B G a) hmh34 frh34 0 20 0 (by decide) (fun h40 hmh40 frh40 => ?_)
          obtain ⟨q41, eq41⟩ : ∃ z, z = (bk_w q35 0 20 0) := ⟨_, rfl⟩
          rw [← eq41] at hmh40
          replace e := ky_letE eq41 e
          refine (?_ : ky_V _ _ _ 204 _ _ _ _)
          refine v_vret (i := 123) rfl rfl ?_
          obtain ⟨rfl, rfl⟩ := ky_leaf e
          exact hr _ hmh40 frh40
        · replace e := ky_ifF c39 e
          refine v_iload_n (i := 110) (j := 1) rfl rfl (?_ : ky_V _ _ _ 182 _ _ _ _)
          refine v_iconst (v := 1) (i := 111) rfl (by decide) (?_ : ky_V _ _ _ 183 _ _ _ _)
          refine v_icmp_eq (tgt := 196) (i := 112) rfl (by decide) (fun c42 => ?_) (fun c42 => ?_)
          · replace e := ky_ifT c42 e
            refine v_iconst (v := 1) (i := 119) rfl (by decide) (?_ : ky_V _ _ _ 197 _ _ _ _)
            refine v_goto (tgt := 201) (i := 120) rfl (by decide) (?_ : ky_V _ _ _ 201 _ _ _ _)
            refine pf_X12_246 rfl (i := 122) rfl (md_0 hmh34) (Nat.le_of_ble_eq_true rfl) (by decide) (by decide) ?_
            refine bk_st (B := md_B G a) hmh34 frh34 0 20 1 (by decide) (fun h43 hmh43 frh43 => ?_)
            obtain ⟨q44, eq44⟩ : ∃ z, z = (bk_w q35 0 20 1) := ⟨_, rfl⟩
            rw [← eq44] at hmh43
            replace e := ky_letE eq44 e
            refine (?_ : ky_V _ _ _ 204 _ _ _ _)
            refine v_vret (i := 123) rfl rfl ?_
            obtain ⟨rfl, rfl⟩ := ky_leaf e
            exact hr _ hmh43 frh43
          · replace e := ky_ifF c42 e
            refine v_iload_n (i := 113) (j := 1) rfl rfl (?_ : ky_V _ _ _ 187 _ _ _ _)
            refine v_iconst (v := 2) (i := 114) rfl (by decide) (?_ : ky_V _ _ _ 188 _ _ _ _)
            refine v_icmp_eq (tgt := 196) (i := 115) rfl (by decide) (fun c45 => ?_) (fun c45 => ?_)
            · replace e := ky_ifT c45 e
              refine v_iconst (v := 1) (i := 119) rfl (by decide) (?_ : ky_V _ _ _ 197 _ _ _ _)
              refine v_goto (tgt := 201) (i := 120) rfl (by decide) (?_ : ky_V _ _ _ 201 _ _ _ _)
              refine pf_X12_246 rfl (i := 122) rfl (md_0 hmh34) (Nat.le_of_ble_eq_true rfl) (by decide) (by decide) ?_
              refine bk_st (B := md_B G a) hmh34 frh34 0 20 1 (by decide) (fun h46 hmh46 frh46 => ?_)
              obtain ⟨q47, eq47⟩ : ∃ z, z = (bk_w q35 0 20 1) := ⟨_, rfl⟩
              rw [← eq47] at hmh46
              replace e := ky_letE eq47 e
              refine (?_ : ky_V _ _ _ 204 _ _ _ _)
              refine v_vret (i := 123) rfl rfl ?_
              obtain ⟨rfl, rfl⟩ := ky_leaf e
              exact hr _ hmh46 frh46
            · replace e := ky_ifF c45 e
              refine v_iload_n (i := 116) (j := 1) rfl rfl (?_ : ky_V _ _ _ 192 _ _ _ _)
              refine v_iconst (v := 5) (i := 117) rfl (by decide) (?_ : ky_V _ _ _ 193 _ _ _ _)
              refine v_icmp_ne (tgt := 200) (i := 118) rfl (by decide) (fun c48 => ?_) (fun c48 => ?_)
              · replace e := ky_ifF c48 e
                refine v_iconst (v := 0) (i := 121) rfl (by decide) (?_ : ky_V _ _ _ 201 _ _ _ _)
                refine pf_X12_246 rfl (i := 122) rfl (md_0 hmh34) (Nat.le_of_ble_eq_true rfl) (by decide) (by decide) ?_
                refine bk_st (B := md_B G a) hmh34 frh34 0 20 0 (by decide) (fun h49 hmh49 frh49 => ?_)
                obtain ⟨q50, eq50⟩ : ∃ z, z = (bk_w q35 0 20 0) := ⟨_, rfl⟩
                rw [← eq50] at hmh49
                replace e := ky_letE eq50 e
                refine (?_ : ky_V _ _ _ 204 _ _ _ _)
                refine v_vret (i := 123) rfl rfl ?_
                obtain ⟨rfl, rfl⟩ := ky_leaf e
                exact hr _ hmh49 frh49
              · replace e := ky_ifT c48 e
                refine v_iconst (v := 1) (i := 119) rfl (by decide) (?_ : ky_V _ _ _ 197 _ _ _ _)
                refine v_goto (tgt := 201) (i := 120) rfl (by decide) (?_ : ky_V _ _ _ 201 _ _ _ _)
                refine pf_X12_246 rfl (i := 122) rfl (md_0 hmh34) (Nat.le_of_ble_eq_true rfl) (by decide) (by decide) ?_
                refine bk_st (B := md_B G a) hmh34 frh34 0 20 1 (by decide) (fun h51 hmh51 frh51 => ?_)
                obtain ⟨q52, eq52⟩ : ∃ z, z = (bk_w q35 0 20 1) := ⟨_, rfl⟩
                rw [← eq52] at hmh51
                replace e := ky_letE eq52 e
                refine (?_ : ky_V _ _ _ 204 _ _ _ _)
                refine v_vret (i := 123) rfl rfl ?_
                obtain ⟨rfl, rfl⟩ := ky_leaf e
                exact hr _ hmh51 frh51
    · replace e := ky_ifF c28 e
      refine v_aload_n (i := 62) (j := 0) rfl rfl (?_ : ky_V _ _ _ 99 _ _ _ _)
      refine gf_X12_42 rfl (i := 63) rfl (md_0 hmh26) rfl (?_ : ky_V _ _ _ 102 _ _ _ _)
      refine v_iconst (v := 0) (i := 64) rfl (by decide) (?_ : ky_V _ _ _ 103 _ _ _ _)
      refine v_aload_n (i := 65) (j := 0) rfl rfl (?_ : ky_V _ _ _ 104 _ _ _ _)
      refine gf_X12_42 rfl (i := 66) rfl (md_0 hmh26) rfl (?_ : ky_V _ _ _ 107 _ _ _ _)
      refine v_iconst (v := 0) (i := 67) rfl (by decide) (?_ : ky_V _ _ _ 108 _ _ _ _)
      refine v_iald (i := 68) rfl (md_9 hmh26) (ky_inl (by decide)) (?_ : ky_V _ _ _ 109 _ (.int (q27 9 0) :: _) _ _)
      refine v_iload (i := 69) (j := 5) rfl rfl (?_ : ky_V _ _ _ 111 _ _ _ _)
      refine cl_X12_276 (As := [.int ((q27 9 0)), .int x13]) rfl (i := 70) rfl rfl rfl (Nat.le_of_ble_eq_true rfl) (k_X12_deeper (q27 9 0) x13 ⟨_, rfl, (?_ : ky_V _ _ _ 114 _ [.int ((md_deeper (q27 9 0) x13)), .int 0, .ref ((a + 9))] _ _)⟩)
      refine v_topi (fun x53 ex53 => ?_)
      replace e := ky_letE ex53 e
      refine v_iast (i := 71) rfl (md_9 hmh26) (ky_inl (by decide)) ?_
      refine bk_st (B := md_B G a) hmh26 frh26 9 0 x53 (by decide) (fun h54 hmh54 frh54 => ?_)
      obtain ⟨q55, eq55⟩ : ∃ z, z = (bk_w q27 9 0 x53) := ⟨_, rfl⟩
      rw [← eq55] at hmh54
      replace e := ky_letE eq55 e
      refine (?_ : ky_V _ _ _ 115 _ _ _ _)
      refine v_aload_n (i := 72) (j := 0) rfl rfl (?_ : ky_V _ _ _ 116 _ _ _ _)
      refine gf_X12_42 rfl (i := 73) rfl (md_0 hmh54) rfl (?_ : ky_V _ _ _ 119 _ _ _ _)
      refine v_iconst (v := 1) (i := 74) rfl (by decide) (?_ : ky_V _ _ _ 120 _ _ _ _)
      refine v_aload_n (i := 75) (j := 0) rfl rfl (?_ : ky_V _ _ _ 121 _ _ _ _)
      refine gf_X12_42 rfl (i := 76) rfl (md_0 hmh54) rfl (?_ : ky_V _ _ _ 124 _ _ _ _)
      refine v_iconst (v := 1) (i := 77) rfl (by decide) (?_ : ky_V _ _ _ 125 _ _ _ _)
      refine v_iald (i := 78) rfl (md_9 hmh54) (ky_inl (by decide)) (?_ : ky_V _ _ _ 126 _ (.int (q55 9 1) :: _) _ _)
      refine v_iload (i := 79) (j := 4) rfl rfl (?_ : ky_V _ _ _ 128 _ _ _ _)
      refine cl_X12_273 (As := [.int ((q55 9 1)), .int x7]) rfl (i := 80) rfl rfl rfl (Nat.le_of_ble_eq_true rfl) (k_X12_less (q55 9 1) x7 ⟨_, rfl, (?_ : ky_V _ _ _ 131 _ [.int ((md_less (q55 9 1) x7)), .int 1, .ref ((a + 9))] _ _)⟩)
      refine v_topi (fun x56 ex56 => ?_)
      replace e := ky_letE ex56 e
      refine v_iast (i := 81) rfl (md_9 hmh54) (ky_inl (by decide)) ?_
      refine bk_st (B := md_B G a) hmh54 frh54 9 1 x56 (by decide) (fun h57 hmh57 frh57 => ?_)
      obtain ⟨q58, eq58⟩ : ∃ z, z = (bk_w q55 9 1 x56) := ⟨_, rfl⟩
      rw [← eq58] at hmh57
      replace e := ky_letE eq58 e
      refine (?_ : ky_V _ _ _ 132 _ _ _ _)
      refine v_aload_n (i := 82) (j := 0) rfl rfl (?_ : ky_V _ _ _ 133 _ _ _ _)
      refine gf_X12_42 rfl (i := 83) rfl (md_0 hmh57) rfl (?_ : ky_V _ _ _ 136 _ _ _ _)
      refine v_iconst (v := 1) (i := 84) rfl (by decide) (?_ : ky_V _ _ _ 137 _ _ _ _)
      refine v_iload_n (i := 85) (j := 3) rfl rfl (?_ : ky_V _ _ _ 138 _ _ _ _)
      refine v_isub (i := 86) rfl (?_ : ky_V _ _ _ 139 _ _ _ _)
      refine v_aload_n (i := 87) (j := 0) rfl rfl (?_ : ky_V _ _ _ 140 _ _ _ _)
      refine gf_X12_42 rfl (i := 88) rfl (md_0 hmh57) rfl (?_ : ky_V _ _ _ 143 _ _ _ _)
      refine v_iconst (v := 1) (i := 89) rfl (by decide) (?_ : ky_V _ _ _ 144 _ _ _ _)
      refine v_iload_n (i := 90) (j := 3) rfl rfl (?_ : ky_V _ _ _ 145 _ _ _ _)
      refine v_isub (i := 91) rfl (?_ : ky_V _ _ _ 146 _ _ _ _)
      obtain ⟨z59, e⟩ := ky_chkE e
      refine v_iald (i := 92) rfl (md_9 hmh57) (ky_inb z59) (?_ : ky_V _ _ _ 147 _ (.int (q58 9 (Int32.toNatClampNeg (1 - p2))) :: _) _ _)
      refine v_iload (i := 93) (j := 5) rfl rfl (?_ : ky_V _ _ _ 149 _ _ _ _)
      refine cl_X12_276 (As := [.int ((q58 9 (Int32.toNatClampNeg (1 - p2)))), .int x13]) rfl (i := 94) rfl rfl rfl (Nat.le_of_ble_eq_true rfl) (k_X12_deeper (q58 9 (Int32.toNatClampNeg (1 - p2))) x13 ⟨_, rfl, (?_ : ky_V _ _ _ 152 _ [.int ((md_deeper (q58 9 (Int32.toNatClampNeg (1 - p2))) x13)), .int ((1 - p2)), .ref ((a + 9))] _ _)⟩)
      refine v_topi (fun x60 ex60 => ?_)
      replace e := ky_letE ex60 e
      refine v_iast (i := 95) rfl (md_9 hmh57) (ky_inb z59) ?_
      refine bk_st (B := md_B G a) hmh57 frh57 9 (Int32.toNatClampNeg (1 - p2)) x60 (by decide) (fun h61 hmh61 frh61 => ?_)
      obtain ⟨q62, eq62⟩ : ∃ z, z = (bk_w q58 9 (Int32.toNatClampNeg (1 - p2)) x60) := ⟨_, rfl⟩
      rw [← eq62] at hmh61
      replace e := ky_letE eq62 e
      refine (?_ : ky_V _ _ _ 153 _ _ _ _)
      refine v_aload_n (i := 96) (j := 0) rfl rfl (?_ : ky_V _ _ _ 154 _ _ _ _)
      refine v_iconst (v := 0) (i := 97) rfl (by decide) (?_ : ky_V _ _ _ 155 _ _ _ _)
      refine v_iconst (v := 5) (i := 98) rfl (by decide) (?_ : ky_V _ _ _ 156 _ _ _ _)
      refine v_iload (i := 99) (j := 6) rfl rfl (?_ : ky_V _ _ _ 158 _ _ _ _)
      refine cl_X12_260 rfl (i := 100) rfl (Nat.le_of_ble_eq_true rfl) (?_ : ky_V _ _ _ 161 _ _ _ _)
      refine cl_X12_255 rfl (i := 101) rfl (Nat.le_of_ble_eq_true rfl) (?_ : ky_V _ _ _ 164 _ _ _ _)
      refine v_topi (fun x63 ex63 => ?_)
      replace e := ky_letE ex63 e
      refine pf_X12_244 rfl (i := 102) rfl (md_0 hmh61) (Nat.le_of_ble_eq_true rfl) rfl rfl ?_
      refine bk_st (B := md_B G a) hmh61 frh61 0 19 x63 (by decide) (fun h64 hmh64 frh64 => ?_)
      obtain ⟨q65, eq65⟩ : ∃ z, z = (bk_w q62 0 19 x63) := ⟨_, rfl⟩
      rw [← eq65] at hmh64
      replace e := ky_letE eq65 e
      refine (?_ : ky_V _ _ _ 167 _ _ _ _)
      refine v_aload_n (i := 103) (j := 0) rfl rfl (?_ : ky_V _ _ _ 168 _ _ _ _)
      refine v_iload_n (i := 104) (j := 1) rfl rfl (?_ : ky_V _ _ _ 169 _ _ _ _)
      refine v_bipush (v := 6) (i := 105) rfl (by decide) (?_ : ky_V _ _ _ 171 _ _ _ _)
      refine v_icmp_eq (tgt := 196) (i := 106) rfl (by decide) (fun c66 => ?_) (fun c66 => ?_)
      · replace e := ky_ifT c66 e
        refine v_iconst (v := 1) (i := 119) rfl (by decide) (?_ : ky_V _ _ _ 197 _ _ _ _)
        refine v_goto (tgt := 201) (i := 120) rfl (by decide) (?_ : ky_V _ _ _ 201 _ _ _ _)
        refine pf_X12_246 rfl (i := 122) rfl (md_0 hmh64) (Nat.le_of_ble_eq_true rfl) (by decide) (by decide) ?_
        refine bk_st (B := md_B G a) hmh64 frh64 0 20 1 (by decide) (fun h67 hmh67 frh67 => ?_)
        obtain ⟨q68, eq68⟩ : ∃ z, z = (bk_w q65 0 20 1) := ⟨_, rfl⟩
        rw [← eq68] at hmh67
        replace e := ky_letE eq68 e
        refine (?_ : ky_V _ _ _ 204 _ _ _ _)
        refine v_vret (i := 123) rfl rfl ?_
        obtain ⟨rfl, rfl⟩ := ky_leaf e
        exact hr _ hmh67 frh67
      · replace e := ky_ifF c66 e
        refine v_aload_n (i := 107) (j := 0) rfl rfl (?_ : ky_V _ _ _ 175 _ _ _ _)
        refine gf_X12_246 rfl (i := 108) rfl (md_0 hmh64) rfl (?_ : ky_V _ _ _ 178 _ _ _ _)
        refine v_if_eq (tgt := 200) (i := 109) rfl (by decide) (fun c69 => ?_) (fun c69 => ?_)
        · replace e := ky_ifT c69 e
          refine v_iconst (v := 0) (i := 121) rfl (by decide) (?_ : ky_V _ _ _ 201 _ _ _ _)
          refine pf_X12_246 rfl (i := 122) rfl (md_0 hmh64) (Nat.le_of_ble_eq_true rfl) (by decide) (by decide) ?_
          refine bk_st (B := md_B G a) hmh64 frh64 0 20 0 (by decide) (fun h70 hmh70 frh70 => ?_)
          obtain ⟨q71, eq71⟩ : ∃ z, z = (bk_w q65 0 20 0) := ⟨_, rfl⟩
          rw [← eq71] at hmh70
          replace e := ky_letE eq71 e
          refine (?_ : ky_V _ _ _ 204 _ _ _ _)
          refine v_vret (i := 123) rfl rfl ?_
          obtain ⟨rfl, rfl⟩ := ky_leaf e
          exact hr _ hmh70 frh70
        · replace e := ky_ifF c69 e
          refine v_iload_n (i := 110) (j := 1) rfl rfl (?_ : ky_V _ _ _ 182 _ _ _ _)
          refine v_iconst (v := 1) (i := 111) rfl (by decide) (?_ : ky_V _ _ _ 183 _ _ _ _)
          refine v_icmp_eq (tgt := 196) (i := 112) rfl (by decide) (fun c72 => ?_) (fun c72 => ?_)
          · replace e := ky_ifT c72 e
            refine v_iconst (v := 1) (i := 119) rfl (by decide) (?_ : ky_V _ _ _ 197 _ _ _ _)
            refine v_goto (tgt := 201) (i := 120) rfl (by decide) (?_ : ky_V _ _ _ 201 _ _ _ _)
            refine pf_X12_246 rfl (i := 122) rfl (md_0 hmh64) (Nat.le_of_ble_eq_true rfl) (by decide) (by decide) ?_
            refine bk_st (B := md_B G a) hmh64 frh64 0 20 1 (by decide) (fun h73 hmh73 frh73 => ?_)
            obtain ⟨q74, eq74⟩ : ∃ z, z = (bk_w q65 0 20 1) := ⟨_, rfl⟩
            rw [← eq74] at hmh73
            replace e := ky_letE eq74 e
            refine (?_ : ky_V _ _ _ 204 _ _ _ _)
            refine v_vret (i := 123) rfl rfl ?_
            obtain ⟨rfl, rfl⟩ := ky_leaf e
            exact hr _ hmh73 frh73
          · replace e := ky_ifF c72 e
            refine v_iload_n (i := 113) (j := 1) rfl rfl (?_ : ky_V _ _ _ 187 _ _ _ _)
            refine v_iconst (v := 2) (i := 114) rfl (by decide) (?_ : ky_V _ _ _ 188 _ _ _ _)
            refine v_icmp_eq (tgt := 196) (i := 115) rfl (by decide) (fun c75 => ?_) (fun c75 => ?_)
            · replace e := ky_ifT c75 e
              refine v_iconst (v := 1) (i := 119) rfl (by decide) (?_ : ky_V _ _ _ 197 _ _ _ _)
              refine v_goto (tgt := 201) (i := 120) rfl (by decide) (?_ : ky_V _ _ _ 201 _ _ _ _)
              refine pf_X12_246 rfl (i := 122) rfl (md_0 hmh64) (Nat.le_of_ble_eq_true rfl) (by decide) (by decide) ?_
              refine bk_st (B := md_B G a) hmh64 frh64 0 20 1 (by decide) (fun h76 hmh76 frh76 => ?_)
              obtain ⟨q77, eq77⟩ : ∃ z, z = (bk_w q65 0 20 1) := ⟨_, rfl⟩
              rw [← eq77] at hmh76
              replace e := ky_letE eq77 e
              refine (?_ : ky_V _ _ _ 204 _ _ _ _)
              refine v_vret (i := 123) rfl rfl ?_
              obtain ⟨rfl, rfl⟩ := ky_leaf e
              exact hr _ hmh76 frh76
            · replace e := ky_ifF c75 e
              refine v_iload_n (i := 116) (j := 1) rfl rfl (?_ : ky_V _ _ _ 192 _ _ _ _)
              refine v_iconst (v := 5) (i := 117) rfl (by decide) (?_ : ky_V _ _ _ 193 _ _ _ _)
              refine v_icmp_ne (tgt := 200) (i := 118) rfl (by decide) (fun c78 => ?_) (fun c78 => ?_)
              · replace e := ky_ifF c78 e
                refine v_iconst (v := 0) (i := 121) rfl (by decide) (?_ : ky_V _ _ _ 201 _ _ _ _)
                refine pf_X12_246 rfl (i := 122) rfl (md_0 hmh64) (Nat.le_of_ble_eq_true rfl) (by decide) (by decide) ?_
                refine bk_st (B := md_B G a) hmh64 frh64 0 20 0 (by decide) (fun h79 hmh79 frh79 => ?_)
                obtain ⟨q80, eq80⟩ : ∃ z, z = (bk_w q65 0 20 0) := ⟨_, rfl⟩
                rw [← eq80] at hmh79
                replace e := ky_letE eq80 e
                refine (?_ : ky_V _ _ _ 204 _ _ _ _)
                refine v_vret (i := 123) rfl rfl ?_
                obtain ⟨rfl, rfl⟩ := ky_leaf e
                exact hr _ hmh79 frh79
              · replace e := ky_ifT c78 e
                refine v_iconst (v := 1) (i := 119) rfl (by decide) (?_ : ky_V _ _ _ 197 _ _ _ _)
                refine v_goto (tgt := 201) (i := 120) rfl (by decide) (?_ : ky_V _ _ _ 201 _ _ _ _)
                refine pf_X12_246 rfl (i := 122) rfl (md_0 hmh64) (Nat.le_of_ble_eq_true rfl) (by decide) (by decide) ?_
                refine bk_st (B := md_B G a) hmh64 frh64 0 20 1 (by decide) (fun h81 hmh81 frh81 => ?_)
                obtain ⟨q82, eq82⟩ : ∃ z, z = (bk_w q65 0 20 1) := ⟨_, rfl⟩
                rw [← eq82] at hmh81
                replace e := ky_letE eq82 e
                refine (?_ : ky_V _ _ _ 204 _ _ _ _)
                refine v_vret (i := 123) rfl rfl ?_
                obtain ⟨rfl, rfl⟩ := ky_leaf e
                exact hr _ hmh81 frh81
  · replace e := ky_ifF c1 e
    refine v_iconst (v := 0) (i := 3) rfl (by decide) (?_ : ky_V _ _ _ 8 _ _ _ _)
    refine v_goto (tgt := 12) (i := 4) rfl (by decide) (?_ : ky_V _ _ _ 12 _ _ _ _)
    refine v_istore_n (L' := [(0, .ref a), (1, .int p1), (2, .int p2), (3, .int 0)]) [1, 2, 3, 0] (i := 6) rfl (Nat.le_of_ble_eq_true rfl) rfl (?_ : ky_V _ _ _ 13 _ _ _ _)
    refine v_aload_n (i := 7) (j := 0) rfl rfl (?_ : ky_V _ _ _ 14 _ _ _ _)
    refine v_iload_n (i := 8) (j := 1) rfl rfl (?_ : ky_V _ _ _ 15 _ _ _ _)
    refine v_iconst (v := 0) (i := 9) rfl (by decide) (?_ : ky_V _ _ _ 16 _ _ _ _)
    obtain ⟨z83, e⟩ := ky_chkE e
    refine cl_X12_266 (As := [.int p1, .int 0]) rfl (i := 10) rfl (md_0 hm) rfl rfl (Nat.le_of_ble_eq_true rfl) (k_X12_ofMove p1 0 hm (ky_inb z83) ⟨_, rfl, (?_ : ky_V _ _ _ 19 _ [.int ((md_ofMove_r c p1 0))] _ _)⟩)
    refine v_aload_n (i := 11) (j := 0) rfl rfl (?_ : ky_V _ _ _ 20 _ _ _ _)
    refine v_iconst (v := 0) (i := 12) rfl (by decide) (?_ : ky_V _ _ _ 21 _ _ _ _)
    refine v_iload_n (i := 13) (j := 1) rfl rfl (?_ : ky_V _ _ _ 22 _ _ _ _)
    refine v_iload_n (i := 14) (j := 3) rfl rfl (?_ : ky_V _ _ _ 23 _ _ _ _)
    obtain ⟨⟨q85, x86⟩, g87, e⟩ := Option.bind_eq_some_iff.mp e
    refine cl_X12_269 (As := [.int 0, .int p1, .int 0]) rfl (i := 15) rfl (md_0 hm) rfl rfl (Nat.le_of_ble_eq_true rfl) (k_X12_sumOf N hm g87 (fun h84 hmh84 frh84 => ⟨_, rfl, (?_ : ky_V _ _ _ 26 _ [.int x86, .int ((md_ofMove_r c p1 0))] _ _)⟩))
    have frh84 := fr.tr frh84
    refine v_iadd (i := 16) rfl (?_ : ky_V _ _ _ 27 _ _ _ _)
    refine v_topi (fun x88 ex88 => ?_)
    replace e := ky_letE ex88 e
    refine v_istore (L' := [(0, .ref a), (1, .int p1), (2, .int p2), (3, .int 0), (4, .int x88)]) [1, 2, 3, 4, 0] (i := 17) rfl (Nat.le_of_ble_eq_true rfl) rfl (?_ : ky_V _ _ _ 29 _ _ _ _)
    refine v_aload_n (i := 18) (j := 0) rfl rfl (?_ : ky_V _ _ _ 30 _ _ _ _)
    refine v_iload_n (i := 19) (j := 1) rfl rfl (?_ : ky_V _ _ _ 31 _ _ _ _)
    refine v_iconst (v := 1) (i := 20) rfl (by decide) (?_ : ky_V _ _ _ 32 _ _ _ _)
    obtain ⟨z89, e⟩ := ky_chkE e
    refine cl_X12_266 (As := [.int p1, .int 1]) rfl (i := 21) rfl (md_0 hmh84) rfl rfl (Nat.le_of_ble_eq_true rfl) (k_X12_ofMove p1 1 hmh84 (ky_inb z89) ⟨_, rfl, (?_ : ky_V _ _ _ 35 _ [.int ((md_ofMove_r q85 p1 1))] _ _)⟩)
    refine v_aload_n (i := 22) (j := 0) rfl rfl (?_ : ky_V _ _ _ 36 _ _ _ _)
    refine v_iconst (v := 1) (i := 23) rfl (by decide) (?_ : ky_V _ _ _ 37 _ _ _ _)
    refine v_iload_n (i := 24) (j := 1) rfl rfl (?_ : ky_V _ _ _ 38 _ _ _ _)
    refine v_iload_n (i := 25) (j := 3) rfl rfl (?_ : ky_V _ _ _ 39 _ _ _ _)
    obtain ⟨⟨q91, x92⟩, g93, e⟩ := Option.bind_eq_some_iff.mp e
    refine cl_X12_269 (As := [.int 1, .int p1, .int 0]) rfl (i := 26) rfl (md_0 hmh84) rfl rfl (Nat.le_of_ble_eq_true rfl) (k_X12_sumOf N hmh84 g93 (fun h90 hmh90 frh90 => ⟨_, rfl, (?_ : ky_V _ _ _ 42 _ [.int x92, .int ((md_ofMove_r q85 p1 1))] _ _)⟩))
    have frh90 := frh84.tr frh90
    refine v_iadd (i := 27) rfl (?_ : ky_V _ _ _ 43 _ _ _ _)
    refine v_topi (fun x94 ex94 => ?_)
    replace e := ky_letE ex94 e
    refine v_istore (L' := [(0, .ref a), (1, .int p1), (2, .int p2), (3, .int 0), (4, .int x88), (5, .int x94)]) [1, 2, 3, 4, 5, 0] (i := 28) rfl (Nat.le_of_ble_eq_true rfl) rfl (?_ : ky_V _ _ _ 45 _ _ _ _)
    refine v_aload_n (i := 29) (j := 0) rfl rfl (?_ : ky_V _ _ _ 46 _ _ _ _)
    refine gf_X12_244 rfl (i := 30) rfl (md_0 hmh90) rfl (?_ : ky_V _ _ _ 49 _ _ _ _)
    refine v_aload_n (i := 31) (j := 0) rfl rfl (?_ : ky_V _ _ _ 50 _ _ _ _)
    refine v_iload_n (i := 32) (j := 1) rfl rfl (?_ : ky_V _ _ _ 51 _ _ _ _)
    refine v_iconst (v := 2) (i := 33) rfl (by decide) (?_ : ky_V _ _ _ 52 _ _ _ _)
    obtain ⟨z95, e⟩ := ky_chkE e
    refine cl_X12_266 (As := [.int p1, .int 2]) rfl (i := 34) rfl (md_0 hmh90) rfl rfl (Nat.le_of_ble_eq_true rfl) (k_X12_ofMove p1 2 hmh90 (ky_inb z95) ⟨_, rfl, (?_ : ky_V _ _ _ 55 _ [.int ((md_ofMove_r q91 p1 2)), .int ((q91 0 19))] _ _)⟩)
    refine v_iadd (i := 35) rfl (?_ : ky_V _ _ _ 56 _ _ _ _)
    refine v_aload_n (i := 36) (j := 0) rfl rfl (?_ : ky_V _ _ _ 57 _ _ _ _)
    refine v_iconst (v := 2) (i := 37) rfl (by decide) (?_ : ky_V _ _ _ 58 _ _ _ _)
    refine v_iload_n (i := 38) (j := 1) rfl rfl (?_ : ky_V _ _ _ 59 _ _ _ _)
    refine v_iload_n (i := 39) (j := 3) rfl rfl (?_ : ky_V _ _ _ 60 _ _ _ _)
    obtain ⟨⟨q97, x98⟩, g99, e⟩ := Option.bind_eq_some_iff.mp e
    refine cl_X12_269 (As := [.int 2, .int p1, .int 0]) rfl (i := 40) rfl (md_0 hmh90) rfl rfl (Nat.le_of_ble_eq_true rfl) (k_X12_sumOf N hmh90 g99 (fun h96 hmh96 frh96 => ⟨_, rfl, (?_ : ky_V _ _ _ 63 _ [.int x98, .int (((q91 0 19) + (md_ofMove_r q91 p1 2)))] _ _)⟩))
    have frh96 := frh90.tr frh96
    refine v_iadd (i := 41) rfl (?_ : ky_V _ _ _ 64 _ _ _ _)
    refine v_aload_n (i := 42) (j := 0) rfl rfl (?_ : ky_V _ _ _ 65 _ _ _ _)
    refine v_iconst (v := 3) (i := 43) rfl (by decide) (?_ : ky_V _ _ _ 66 _ _ _ _)
    refine v_iload_n (i := 44) (j := 1) rfl rfl (?_ : ky_V _ _ _ 67 _ _ _ _)
    refine v_iload_n (i := 45) (j := 3) rfl rfl (?_ : ky_V _ _ _ 68 _ _ _ _)
    obtain ⟨⟨q101, x102⟩, g103, e⟩ := Option.bind_eq_some_iff.mp e
    refine cl_X12_269 (As := [.int 3, .int p1, .int 0]) rfl (i := 46) rfl (md_0 hmh96) rfl rfl (Nat.le_of_ble_eq_true rfl) (k_X12_sumOf N hmh96 g103 (fun h100 hmh100 frh100 => ⟨_, rfl, (?_ : ky_V _ _ _ 71 _ [.int x102, .int ((((q91 0 19) + (md_ofMove_r q91 p1 2)) + x98))] _ _)⟩))
    have frh100 := frh96.tr frh100
    refine v_isub (i := 47) rfl (?_ : ky_V _ _ _ 72 _ _ _ _)
    refine v_topi (fun x104 ex104 => ?_)
    replace e := ky_letE ex104 e
    refine v_istore (L' := [(0, .ref a), (1, .int p1), (2, .int p2), (3, .int 0), (4, .int x88), (5, .int x94), (6, .int x104)]) [1, 2, 3, 4, 5, 6, 0] (i := 48) rfl (Nat.le_of_ble_eq_true rfl) rfl (?_ : ky_V _ _ _ 74 _ _ _ _)
    refine v_aload_n (i := 49) (j := 0) rfl rfl (?_ : ky_V _ _ _ 75 _ _ _ _)
    refine gf_X12_42 rfl (i := 50) rfl (md_0 hmh100) rfl (?_ : ky_V _ _ _ 78 _ _ _ _)
    refine v_iload_n (i := 51) (j := 3) rfl rfl (?_ : ky_V _ _ _ 79 _ _ _ _)
    refine v_aload_n (i := 52) (j := 0) rfl rfl (?_ : ky_V _ _ _ 80 _ _ _ _)
    refine gf_X12_42 rfl (i := 53) rfl (md_0 hmh100) rfl (?_ : ky_V _ _ _ 83 _ _ _ _)
    refine v_iload_n (i := 54) (j := 3) rfl rfl (?_ : ky_V _ _ _ 84 _ _ _ _)
    refine v_iald (i := 55) rfl (md_9 hmh100) (ky_inl (by decide)) (?_ : ky_V _ _ _ 85 _ (.int (q101 9 0) :: _) _ _)
    refine v_iload (i := 56) (j := 4) rfl rfl (?_ : ky_V _ _ _ 87 _ _ _ _)
    refine cl_X12_273 (As := [.int ((q101 9 0)), .int x88]) rfl (i := 57) rfl rfl rfl (Nat.le_of_ble_eq_true rfl) (k_X12_less (q101 9 0) x88 ⟨_, rfl, (?_ : ky_V _ _ _ 90 _ [.int ((md_less (q101 9 0) x88)), .int 0, .ref ((a + 9))] _ _)⟩)
    refine v_topi (fun x105 ex105 => ?_)
    replace e := ky_letE ex105 e
    refine v_iast (i := 58) rfl (md_9 hmh100) (ky_inl (by decide)) ?_
    refine bk_st (B := md_B G a) hmh100 frh100 9 0 x105 (by decide) (fun h106 hmh106 frh106 => ?_)
    obtain ⟨q107, eq107⟩ : ∃ z, z = (bk_w q101 9 0 x105) := ⟨_, rfl⟩
    rw [← eq107] at hmh106
    replace e := ky_letE eq107 e
    refine (?_ : ky_V _ _ _ 91 _ _ _ _)
    refine v_iload_n (i := 59) (j := 1) rfl rfl (?_ : ky_V _ _ _ 92 _ _ _ _)
    refine cl_X12_263 (As := [.int p1]) rfl (i := 60) rfl rfl rfl (Nat.le_of_ble_eq_true rfl) (k_X12_isOfNone p1 ⟨_, rfl, (?_ : ky_V _ _ _ 95 _ [.int ((md_isOfNone p1))] _ _)⟩)
    refine v_if_eq (tgt := 132) (i := 61) rfl (by decide) (fun c108 => ?_) (fun c108 => ?_)
    · replace e := ky_ifT c108 e
      refine v_aload_n (i := 82) (j := 0) rfl rfl (?_ : ky_V _ _ _ 133 _ _ _ _)
      refine gf_X12_42 rfl (i := 83) rfl (md_0 hmh106) rfl (?_ : ky_V _ _ _ 136 _ _ _ _)
      refine v_iconst (v := 1) (i := 84) rfl (by decide) (?_ : ky_V _ _ _ 137 _ _ _ _)
      refine v_iload_n (i := 85) (j := 3) rfl rfl (?_ : ky_V _ _ _ 138 _ _ _ _)
      refine v_isub (i := 86) rfl (?_ : ky_V _ _ _ 139 _ _ _ _)
      refine v_aload_n (i := 87) (j := 0) rfl rfl (?_ : ky_V _ _ _ 140 _ _ _ _)
      refine gf_X12_42 rfl (i := 88) rfl (md_0 hmh106) rfl (?_ : ky_V _ _ _ 143 _ _ _ _)
      refine v_iconst (v := 1) (i := 89) rfl (by decide) (?_ : ky_V _ _ _ 144 _ _ _ _)
      refine v_iload_n (i := 90) (j := 3) rfl rfl (?_ : ky_V _ _ _ 145 _ _ _ _)
      refine v_isub (i := 91) rfl (?_ : ky_V _ _ _ 146 _ _ _ _)
      obtain ⟨z109, e⟩ := ky_chkE e
      refine v_iald (i := 92) rfl (md_9 hmh106) (ky_inb z109) (?_ : ky_V _ _ _ 147 _ (.int (q107 9 (Int32.toNatClampNeg (1 - 0))) :: _) _ _)
      refine v_iload (i := 93) (j := 5) rfl rfl (?_ : ky_V _ _ _ 149 _ _ _ _)
      refine cl_X12_276 (As := [.int ((q107 9 (Int32.toNatClampNeg (1 - 0)))), .int x94]) rfl (i := 94) rfl rfl rfl (Nat.le_of_ble_eq_true rfl) (k_X12_deeper (q107 9 (Int32.toNatClampNeg (1 - 0))) x94 ⟨_, rfl, (?_ : ky_V _ _ _ 152 _ [.int ((md_deeper (q107 9 (Int32.toNatClampNeg (1 - 0))) x94)), .int ((1 - 0)), .ref ((a + 9))] _ _)⟩)
      refine v_topi (fun x110 ex110 => ?_)
      replace e := ky_letE ex110 e
      refine v_iast (i := 95) rfl (md_9 hmh106) (ky_inb z109) ?_
      refine bk_st (B := md_B G a) hmh106 frh106 9 (Int32.toNatClampNeg (1 - 0)) x110 (by decide) (fun h111 hmh111 frh111 => ?_)
      obtain ⟨q112, eq112⟩ : ∃ z, z = (bk_w q107 9 (Int32.toNatClampNeg (1 - 0)) x110) := ⟨_, rfl⟩
      rw [← eq112] at hmh111
      replace e := ky_letE eq112 e
      refine (?_ : ky_V _ _ _ 153 _ _ _ _)
      refine v_aload_n (i := 96) (j := 0) rfl rfl (?_ : ky_V _ _ _ 154 _ _ _ _)
      refine v_iconst (v := 0) (i := 97) rfl (by decide) (?_ : ky_V _ _ _ 155 _ _ _ _)
      refine v_iconst (v := 5) (i := 98) rfl (by decide) (?_ : ky_V _ _ _ 156 _ _ _ _)
      refine v_iload (i := 99) (j := 6) rfl rfl (?_ : ky_V _ _ _ 158 _ _ _ _)
      refine cl_X12_260 rfl (i := 100) rfl (Nat.le_of_ble_eq_true rfl) (?_ : ky_V _ _ _ 161 _ _ _ _)
      refine cl_X12_255 rfl (i := 101) rfl (Nat.le_of_ble_eq_true rfl) (?_ : ky_V _ _ _ 164 _ _ _ _)
      refine v_topi (fun x113 ex113 => ?_)
      replace e := ky_letE ex113 e
      refine pf_X12_244 rfl (i := 102) rfl (md_0 hmh111) (Nat.le_of_ble_eq_true rfl) rfl rfl ?_
      refine bk_st (B := md_B G a) hmh111 frh111 0 19 x113 (by decide) (fun h114 hmh114 frh114 => ?_)
      obtain ⟨q115, eq115⟩ : ∃ z, z = (bk_w q112 0 19 x113) := ⟨_, rfl⟩
      rw [← eq115] at hmh114
      replace e := ky_letE eq115 e
      refine (?_ : ky_V _ _ _ 167 _ _ _ _)
      refine v_aload_n (i := 103) (j := 0) rfl rfl (?_ : ky_V _ _ _ 168 _ _ _ _)
      refine v_iload_n (i := 104) (j := 1) rfl rfl (?_ : ky_V _ _ _ 169 _ _ _ _)
      refine v_bipush (v := 6) (i := 105) rfl (by decide) (?_ : ky_V _ _ _ 171 _ _ _ _)
      refine v_icmp_eq (tgt := 196) (i := 106) rfl (by decide) (fun c116 => ?_) (fun c116 => ?_)
      · replace e := ky_ifT c116 e
        refine v_iconst (v := 1) (i := 119) rfl (by decide) (?_ : ky_V _ _ _ 197 _ _ _ _)
        refine v_goto (tgt := 201) (i := 120) rfl (by decide) (?_ : ky_V _ _ _ 201 _ _ _ _)
        refine pf_X12_246 rfl (i := 122) rfl (md_0 hmh114) (Nat.le_of_ble_eq_true rfl) (by decide) (by decide) ?_
        refine bk_st (B := md_B G a) hmh114 frh114 0 20 1 (by decide) (fun h117 hmh117 frh117 => ?_)
        obtain ⟨q118, eq118⟩ : ∃ z, z = (bk_w q115 0 20 1) := ⟨_, rfl⟩
        rw [← eq118] at hmh117
        replace e := ky_letE eq118 e
        refine (?_ : ky_V _ _ _ 204 _ _ _ _)
        refine v_vret (i := 123) rfl rfl ?_
        obtain ⟨rfl, rfl⟩ := ky_leaf e
        exact hr _ hmh117 frh117
      · replace e := ky_ifF c116 e
        refine v_aload_n (i := 107) (j := 0) rfl rfl (?_ : ky_V _ _ _ 175 _ _ _ _)
        refine gf_X12_246 rfl (i := 108) rfl (md_0 hmh114) rfl (?_ : ky_V _ _ _ 178 _ _ _ _)
        refine v_if_eq (tgt := 200) (i := 109) rfl (by decide) (fun c119 => ?_) (fun c119 => ?_)
        · replace e := ky_ifT c119 e
          refine v_iconst (v := 0) (i := 121) rfl (by decide) (?_ : ky_V _ _ _ 201 _ _ _ _)
          refine pf_X12_246 rfl (i := 122) rfl (md_0 hmh114) (Nat.le_of_ble_eq_true rfl) (by decide) (by decide) ?_
          refine bk_st (B := md_B G a) hmh114 frh114 0 20 0 (by decide) (fun h120 hmh120 frh120 => ?_)
          obtain ⟨q121, eq121⟩ : ∃ z, z = (bk_w q115 0 20 0) := ⟨_, rfl⟩
          rw [← eq121] at hmh120
          replace e := ky_letE eq121 e
          refine (?_ : ky_V _ _ _ 204 _ _ _ _)
          refine v_vret (i := 123) rfl rfl ?_
          obtain ⟨rfl, rfl⟩ := ky_leaf e
          exact hr _ hmh120 frh120
        · replace e := ky_ifF c119 e
          refine v_iload_n (i := 110) (j := 1) rfl rfl (?_ : ky_V _ _ _ 182 _ _ _ _)
          refine v_iconst (v := 1) (i := 111) rfl (by decide) (?_ : ky_V _ _ _ 183 _ _ _ _)
          refine v_icmp_eq (tgt := 196) (i := 112) rfl (by decide) (fun c122 => ?_) (fun c122 => ?_)
          · replace e := ky_ifT c122 e
            refine v_iconst (v := 1) (i := 119) rfl (by decide) (?_ : ky_V _ _ _ 197 _ _ _ _)
            refine v_goto (tgt := 201) (i := 120) rfl (by decide) (?_ : ky_V _ _ _ 201 _ _ _ _)
            refine pf_X12_246 rfl (i := 122) rfl (md_0 hmh114) (Nat.le_of_ble_eq_true rfl) (by decide) (by decide) ?_
            refine bk_st (B := md_B G a) hmh114 frh114 0 20 1 (by decide) (fun h123 hmh123 frh123 => ?_)
            obtain ⟨q124, eq124⟩ : ∃ z, z = (bk_w q115 0 20 1) := ⟨_, rfl⟩
            rw [← eq124] at hmh123
            replace e := ky_letE eq124 e
            refine (?_ : ky_V _ _ _ 204 _ _ _ _)
            refine v_vret (i := 123) rfl rfl ?_
            obtain ⟨rfl, rfl⟩ := ky_leaf e
            exact hr _ hmh123 frh123
          · replace e := ky_ifF c122 e
            refine v_iload_n (i := 113) (j := 1) rfl rfl (?_ : ky_V _ _ _ 187 _ _ _ _)
            refine v_iconst (v := 2) (i := 114) rfl (by decide) (?_ : ky_V _ _ _ 188 _ _ _ _)
            refine v_icmp_eq (tgt := 196) (i := 115) rfl (by decide) (fun c125 => ?_) (fun c125 => ?_)
            · replace e := ky_ifT c125 e
              refine v_iconst (v := 1) (i := 119) rfl (by decide) (?_ : ky_V _ _ _ 197 _ _ _ _)
              refine v_goto (tgt := 201) (i := 120) rfl (by decide) (?_ : ky_V _ _ _ 201 _ _ _ _)
              refine pf_X12_246 rfl (i := 122) rfl (md_0 hmh114) (Nat.le_of_ble_eq_true rfl) (by decide) (by decide) ?_
              refine bk_st (B := md_B G a) hmh114 frh114 0 20 1 (by decide) (fun h126 hmh126 frh126 => ?_)
              obtain ⟨q127, eq127⟩ : ∃ z, z = (bk_w q115 0 20 1) := ⟨_, rfl⟩
              rw [← eq127] at hmh126
              replace e := ky_letE eq127 e
              refine (?_ : ky_V _ _ _ 204 _ _ _ _)
              refine v_vret (i := 123) rfl rfl ?_
              obtain ⟨rfl, rfl⟩ := ky_leaf e
              exact hr _ hmh126 frh126
            · replace e := ky_ifF c125 e
              refine v_iload_n (i := 116) (j := 1) rfl rfl (?_ : ky_V _ _ _ 192 _ _ _ _)
              refine v_iconst (v := 5) (i := 117) rfl (by decide) (?_ : ky_V _ _ _ 193 _ _ _ _)
              refine v_icmp_ne (tgt := 200) (i := 118) rfl (by decide) (fun c128 => ?_) (fun c128 => ?_)
              · replace e := ky_ifF c128 e
                refine v_iconst (v := 0) (i := 121) rfl (by decide) (?_ : ky_V _ _ _ 201 _ _ _ _)
                refine pf_X12_246 rfl (i := 122) rfl (md_0 hmh114) (Nat.le_of_ble_eq_true rfl) (by decide) (by decide) ?_
                refine bk_st (B := md_B G a) hmh114 frh114 0 20 0 (by decide) (fun h129 hmh129 frh129 => ?_)
                obtain ⟨q130, eq130⟩ : ∃ z, z = (bk_w q115 0 20 0) := ⟨_, rfl⟩
                rw [← eq130] at hmh129
                replace e := ky_letE eq130 e
                refine (?_ : ky_V _ _ _ 204 _ _ _ _)
                refine v_vret (i := 123) rfl rfl ?_
                obtain ⟨rfl, rfl⟩ := ky_leaf e
                exact hr _ hmh129 frh129
              · replace e := ky_ifT c128 e
                refine v_iconst (v := 1) (i := 119) rfl (by decide) (?_ : ky_V _ _ _ 197 _ _ _ _)
                refine v_goto (tgt := 201) (i := 120) rfl (by decide) (?_ : ky_V _ _ _ 201 _ _ _ _)
                refine pf_X12_246 rfl (i := 122) rfl (md_0 hmh114) (Nat.le_of_ble_eq_true rfl) (by decide) (by decide) ?_
                refine bk_st (B := md_B G a) hmh114 frh114 0 20 1 (by decide) (fun h131 hmh131 frh131 => ?_)
                obtain ⟨q132, eq132⟩ : ∃ z, z = (bk_w q115 0 20 1) := ⟨_, rfl⟩
                rw [← eq132] at hmh131
                replace e := ky_letE eq132 e
                refine (?_ : ky_V _ _ _ 204 _ _ _ _)
                refine v_vret (i := 123) rfl rfl ?_
                obtain ⟨rfl, rfl⟩ := ky_leaf e
                exact hr _ hmh131 frh131
    · replace e := ky_ifF c108 e
      refine v_aload_n (i := 62) (j := 0) rfl rfl (?_ : ky_V _ _ _ 99 _ _ _ _)
      refine gf_X12_42 rfl (i := 63) rfl (md_0 hmh106) rfl (?_ : ky_V _ _ _ 102 _ _ _ _)
      refine v_iconst (v := 0) (i := 64) rfl (by decide) (?_ : ky_V _ _ _ 103 _ _ _ _)
      refine v_aload_n (i := 65) (j := 0) rfl rfl (?_ : ky_V _ _ _ 104 _ _ _ _)
      refine gf_X12_42 rfl (i := 66) rfl (md_0 hmh106) rfl (?_ : ky_V _ _ _ 107 _ _ _ _)
      refine v_iconst (v := 0) (i := 67) rfl (by decide) (?_ : ky_V _ _ _ 108 _ _ _ _)
      refine v_iald (i := 68) rfl (md_9 hmh106) (ky_inl (by decide)) (?_ : ky_V _ _ _ 109 _ (.int (q107 9 0) :: _) _ _)
      refine v_iload (i := 69) (j := 5) rfl rfl (?_ : ky_V _ _ _ 111 _ _ _ _)
      refine cl_X12_276 (As := [.int ((q107 9 0)), .int x94]) rfl (i := 70) rfl rfl rfl (Nat.le_of_ble_eq_true rfl) (k_X12_deeper (q107 9 0) x94 ⟨_, rfl, (?_ : ky_V _ _ _ 114 _ [.int ((md_deeper (q107 9 0) x94)), .int 0, .ref ((a + 9))] _ _)⟩)
      refine v_topi (fun x133 ex133 => ?_)
      replace e := ky_letE ex133 e
      refine v_iast (i := 71) rfl (md_9 hmh106) (ky_inl (by decide)) ?_
      refine bk_st (B := md_B G a) hmh106 frh106 9 0 x133 (by decide) (fun h134 hmh134 frh134 => ?_)
      obtain ⟨q135, eq135⟩ : ∃ z, z = (bk_w q107 9 0 x133) := ⟨_, rfl⟩
      rw [← eq135] at hmh134
      replace e := ky_letE eq135 e
      refine (?_ : ky_V _ _ _ 115 _ _ _ _)
      refine v_aload_n (i := 72) (j := 0) rfl rfl (?_ : ky_V _ _ _ 116 _ _ _ _)
      refine gf_X12_42 rfl (i := 73) rfl (md_0 hmh134) rfl (?_ : ky_V _ _ _ 119 _ _ _ _)
      refine v_iconst (v := 1) (i := 74) rfl (by decide) (?_ : ky_V _ _ _ 120 _ _ _ _)
      refine v_aload_n (i := 75) (j := 0) rfl rfl (?_ : ky_V _ _ _ 121 _ _ _ _)
      refine gf_X12_42 rfl (i := 76) rfl (md_0 hmh134) rfl (?_ : ky_V _ _ _ 124 _ _ _ _)
      refine v_iconst (v := 1) (i := 77) rfl (by decide) (?_ : ky_V _ _ _ 125 _ _ _ _)
      refine v_iald (i := 78) rfl (md_9 hmh134) (ky_inl (by decide)) (?_ : ky_V _ _ _ 126 _ (.int (q135 9 1) :: _) _ _)
      refine v_iload (i := 79) (j := 4) rfl rfl (?_ : ky_V _ _ _ 128 _ _ _ _)
      refine cl_X12_273 (As := [.int ((q135 9 1)), .int x88]) rfl (i := 80) rfl rfl rfl (Nat.le_of_ble_eq_true rfl) (k_X12_less (q135 9 1) x88 ⟨_, rfl, (?_ : ky_V _ _ _ 131 _ [.int ((md_less (q135 9 1) x88)), .int 1, .ref ((a + 9))] _ _)⟩)
      refine v_topi (fun x136 ex136 => ?_)
      replace e := ky_letE ex136 e
      refine v_iast (i := 81) rfl (md_9 hmh134) (ky_inl (by decide)) ?_
      refine bk_st (B := md_B G a) hmh134 frh134 9 1 x136 (by decide) (fun h137 hmh137 frh137 => ?_)
      obtain ⟨q138, eq138⟩ : ∃ z, z = (bk_w q135 9 1 x136) := ⟨_, rfl⟩
      rw [← eq138] at hmh137
      replace e := ky_letE eq138 e
      refine (?_ : ky_V _ _ _ 132 _ _ _ _)
      refine v_aload_n (i := 82) (j := 0) rfl rfl (?_ : ky_V _ _ _ 133 _ _ _ _)
      refine gf_X12_42 rfl (i := 83) rfl (md_0 hmh137) rfl (?_ : ky_V _ _ _ 136 _ _ _ _)
      refine v_iconst (v := 1) (i := 84) rfl (by decide) (?_ : ky_V _ _ _ 137 _ _ _ _)
      refine v_iload_n (i := 85) (j := 3) rfl rfl (?_ : ky_V _ _ _ 138 _ _ _ _)
      refine v_isub (i := 86) rfl (?_ : ky_V _ _ _ 139 _ _ _ _)
      refine v_aload_n (i := 87) (j := 0) rfl rfl (?_ : ky_V _ _ _ 140 _ _ _ _)
      refine gf_X12_42 rfl (i := 88) rfl (md_0 hmh137) rfl (?_ : ky_V _ _ _ 143 _ _ _ _)
      refine v_iconst (v := 1) (i := 89) rfl (by decide) (?_ : ky_V _ _ _ 144 _ _ _ _)
      refine v_iload_n (i := 90) (j := 3) rfl rfl (?_ : ky_V _ _ _ 145 _ _ _ _)
      refine v_isub (i := 91) rfl (?_ : ky_V _ _ _ 146 _ _ _ _)
      obtain ⟨z139, e⟩ := ky_chkE e
      refine v_iald (i := 92) rfl (md_9 hmh137) (ky_inb z139) (?_ : ky_V _ _ _ 147 _ (.int (q138 9 (Int32.toNatClampNeg (1 - 0))) :: _) _ _)
      refine v_iload (i := 93) (j := 5) rfl rfl (?_ : ky_V _ _ _ 149 _ _ _ _)
      refine cl_X12_276 (As := [.int ((q138 9 (Int32.toNatClampNeg (1 - 0)))), .int x94]) rfl (i := 94) rfl rfl rfl (Nat.le_of_ble_eq_true rfl) (k_X12_deeper (q138 9 (Int32.toNatClampNeg (1 - 0))) x94 ⟨_, rfl, (?_ : ky_V _ _ _ 152 _ [.int ((md_deeper (q138 9 (Int32.toNatClampNeg (1 - 0))) x94)), .int ((1 - 0)), .ref ((a + 9))] _ _)⟩)
      refine v_topi (fun x140 ex140 => ?_)
      replace e := ky_letE ex140 e
      refine v_iast (i := 95) rfl (md_9 hmh137) (ky_inb z139) ?_
      refine bk_st (B := md_B G a) hmh137 frh137 9 (Int32.toNatClampNeg (1 - 0)) x140 (by decide) (fun h141 hmh141 frh141 => ?_)
      obtain ⟨q142, eq142⟩ : ∃ z, z = (bk_w q138 9 (Int32.toNatClampNeg (1 - 0)) x140) := ⟨_, rfl⟩
      rw [← eq142] at hmh141
      replace e := ky_letE eq142 e
      refine (?_ : ky_V _ _ _ 153 _ _ _ _)
      refine v_aload_n (i := 96) (j := 0) rfl rfl (?_ : ky_V _ _ _ 154 _ _ _ _)
      refine v_iconst (v := 0) (i := 97) rfl (by decide) (?_ : ky_V _ _ _ 155 _ _ _ _)
      refine v_iconst (v := 5) (i := 98) rfl (by decide) (?_ : ky_V _ _ _ 156 _ _ _ _)
      refine v_iload (i := 99) (j := 6) rfl rfl (?_ : ky_V _ _ _ 158 _ _ _ _)
      refine cl_X12_260 rfl (i := 100) rfl (Nat.le_of_ble_eq_true rfl) (?_ : ky_V _ _ _ 161 _ _ _ _)
      refine cl_X12_255 rfl (i := 101) rfl (Nat.le_of_ble_eq_true rfl) (?_ : ky_V _ _ _ 164 _ _ _ _)
      refine v_topi (fun x143 ex143 => ?_)
      replace e := ky_letE ex143 e
      refine pf_X12_244 rfl (i := 102) rfl (md_0 hmh141) (Nat.le_of_ble_eq_true rfl) rfl rfl ?_
      refine bk_st (B := md_B G a) hmh141 frh141 0 19 x143 (by decide) (fun h144 hmh144 frh144 => ?_)
      obtain ⟨q145, eq145⟩ : ∃ z, z = (bk_w q142 0 19 x143) := ⟨_, rfl⟩
      rw [← eq145] at hmh144
      replace e := ky_letE eq145 e
      refine (?_ : ky_V _ _ _ 167 _ _ _ _)
      refine v_aload_n (i := 103) (j := 0) rfl rfl (?_ : ky_V _ _ _ 168 _ _ _ _)
      refine v_iload_n (i := 104) (j := 1) rfl rfl (?_ : ky_V _ _ _ 169 _ _ _ _)
      refine v_bipush (v := 6) (i := 105) rfl (by decide) (?_ : ky_V _ _ _ 171 _ _ _ _)
      refine v_icmp_eq (tgt := 196) (i := 106) rfl (by decide) (fun c146 => ?_) (fun c146 => ?_)
      · replace e := ky_ifT c146 e
        refine v_iconst (v := 1) (i := 119) rfl (by decide) (?_ : ky_V _ _ _ 197 _ _ _ _)
        refine v_goto (tgt := 201) (i := 120) rfl (by decide) (?_ : ky_V _ _ _ 201 _ _ _ _)
        refine pf_X12_246 rfl (i := 122) rfl (md_0 hmh144) (Nat.le_of_ble_eq_true rfl) (by decide) (by decide) ?_
        refine bk_st (B := md_B G a) hmh144 frh144 0 20 1 (by decide) (fun h147 hmh147 frh147 => ?_)
        obtain ⟨q148, eq148⟩ : ∃ z, z = (bk_w q145 0 20 1) := ⟨_, rfl⟩
        rw [← eq148] at hmh147
        replace e := ky_letE eq148 e
        refine (?_ : ky_V _ _ _ 204 _ _ _ _)
        refine v_vret (i := 123) rfl rfl ?_
        obtain ⟨rfl, rfl⟩ := ky_leaf e
        exact hr _ hmh147 frh147
      · replace e := ky_ifF c146 e
        refine v_aload_n (i := 107) (j := 0) rfl rfl (?_ : ky_V _ _ _ 175 _ _ _ _)
        refine gf_X12_246 rfl (i := 108) rfl (md_0 hmh144) rfl (?_ : ky_V _ _ _ 178 _ _ _ _)
        refine v_if_eq (tgt := 200) (i := 109) rfl (by decide) (fun c149 => ?_) (fun c149 => ?_)
        · replace e := ky_ifT c149 e
          refine v_iconst (v := 0) (i := 121) rfl (by decide) (?_ : ky_V _ _ _ 201 _ _ _ _)
          refine pf_X12_246 rfl (i := 122) rfl (md_0 hmh144) (Nat.le_of_ble_eq_true rfl) (by decide) (by decide) ?_
          refine bk_st (B := md_B G a) hmh144 frh144 0 20 0 (by decide) (fun h150 hmh150 frh150 => ?_)
          obtain ⟨q151, eq151⟩ : ∃ z, z = (bk_w q145 0 20 0) := ⟨_, rfl⟩
          rw [← eq151] at hmh150
          replace e := ky_letE eq151 e
          refine (?_ : ky_V _ _ _ 204 _ _ _ _)
          refine v_vret (i := 123) rfl rfl ?_
          obtain ⟨rfl, rfl⟩ := ky_leaf e
          exact hr _ hmh150 frh150
        · replace e := ky_ifF c149 e
          refine v_iload_n (i := 110) (j := 1) rfl rfl (?_ : ky_V _ _ _ 182 _ _ _ _)
          refine v_iconst (v := 1) (i := 111) rfl (by decide) (?_ : ky_V _ _ _ 183 _ _ _ _)
          refine v_icmp_eq (tgt := 196) (i := 112) rfl (by decide) (fun c152 => ?_) (fun c152 => ?_)
          · replace e := ky_ifT c152 e
            refine v_iconst (v := 1) (i := 119) rfl (by decide) (?_ : ky_V _ _ _ 197 _ _ _ _)
            refine v_goto (tgt := 201) (i := 120) rfl (by decide) (?_ : ky_V _ _ _ 201 _ _ _ _)
            refine pf_X12_246 rfl (i := 122) rfl (md_0 hmh144) (Nat.le_of_ble_eq_true rfl) (by decide) (by decide) ?_
            refine bk_st (B := md_B G a) hmh144 frh144 0 20 1 (by decide) (fun h153 hmh153 frh153 => ?_)
            obtain ⟨q154, eq154⟩ : ∃ z, z = (bk_w q145 0 20 1) := ⟨_, rfl⟩
            rw [← eq154] at hmh153
            replace e := ky_letE eq154 e
            refine (?_ : ky_V _ _ _ 204 _ _ _ _)
            refine v_vret (i := 123) rfl rfl ?_
            obtain ⟨rfl, rfl⟩ := ky_leaf e
            exact hr _ hmh153 frh153
          · replace e := ky_ifF c152 e
            refine v_iload_n (i := 113) (j := 1) rfl rfl (?_ : ky_V _ _ _ 187 _ _ _ _)
            refine v_iconst (v := 2) (i := 114) rfl (by decide) (?_ : ky_V _ _ _ 188 _ _ _ _)
            refine v_icmp_eq (tgt := 196) (i := 115) rfl (by decide) (fun c155 => ?_) (fun c155 => ?_)
            · replace e := ky_ifT c155 e
              refine v_iconst (v := 1) (i := 119) rfl (by decide) (?_ : ky_V _ _ _ 197 _ _ _ _)
              refine v_goto (tgt := 201) (i := 120) rfl (by decide) (?_ : ky_V _ _ _ 201 _ _ _ _)
              refine pf_X12_246 rfl (i := 122) rfl (md_0 hmh144) (Nat.le_of_ble_eq_true rfl) (by decide) (by decide) ?_
              refine bk_st (B := md_B G a) hmh144 frh144 0 20 1 (by decide) (fun h156 hmh156 frh156 => ?_)
              obtain ⟨q157, eq157⟩ : ∃ z, z = (bk_w q145 0 20 1) := ⟨_, rfl⟩
              rw [← eq157] at hmh156
              replace e := ky_letE eq157 e
              refine (?_ : ky_V _ _ _ 204 _ _ _ _)
              refine v_vret (i := 123) rfl rfl ?_
              obtain ⟨rfl, rfl⟩ := ky_leaf e
              exact hr _ hmh156 frh156
            · replace e := ky_ifF c155 e
              refine v_iload_n (i := 116) (j := 1) rfl rfl (?_ : ky_V _ _ _ 192 _ _ _ _)
              refine v_iconst (v := 5) (i := 117) rfl (by decide) (?_ : ky_V _ _ _ 193 _ _ _ _)
              refine v_icmp_ne (tgt := 200) (i := 118) rfl (by decide) (fun c158 => ?_) (fun c158 => ?_)
              · replace e := ky_ifF c158 e
                refine v_iconst (v := 0) (i := 121) rfl (by decide) (?_ : ky_V _ _ _ 201 _ _ _ _)
                refine pf_X12_246 rfl (i := 122) rfl (md_0 hmh144) (Nat.le_of_ble_eq_true rfl) (by decide) (by decide) ?_
                refine bk_st (B := md_B G a) hmh144 frh144 0 20 0 (by decide) (fun h159 hmh159 frh159 => ?_)
                obtain ⟨q160, eq160⟩ : ∃ z, z = (bk_w q145 0 20 0) := ⟨_, rfl⟩
                rw [← eq160] at hmh159
                replace e := ky_letE eq160 e
                refine (?_ : ky_V _ _ _ 204 _ _ _ _)
                refine v_vret (i := 123) rfl rfl ?_
                obtain ⟨rfl, rfl⟩ := ky_leaf e
                exact hr _ hmh159 frh159
              · replace e := ky_ifT c158 e
                refine v_iconst (v := 1) (i := 119) rfl (by decide) (?_ : ky_V _ _ _ 197 _ _ _ _)
                refine v_goto (tgt := 201) (i := 120) rfl (by decide) (?_ : ky_V _ _ _ 201 _ _ _ _)
                refine pf_X12_246 rfl (i := 122) rfl (md_0 hmh144) (Nat.le_of_ble_eq_true rfl) (by decide) (by decide) ?_
                refine bk_st (B := md_B G a) hmh144 frh144 0 20 1 (by decide) (fun h161 hmh161 frh161 => ?_)
                obtain ⟨q162, eq162⟩ : ∃ z, z = (bk_w q145 0 20 1) := ⟨_, rfl⟩
                rw [← eq162] at hmh161
                replace e := ky_letE eq162 e
                refine (?_ : ky_V _ _ _ 204 _ _ _ _)
                refine v_vret (i := 123) rfl rfl ?_
                obtain ⟨rfl, rfl⟩ := ky_leaf e
                exact hr _ hmh161 frh161

def md_laysNext_L11 (N : Nat) (k : (Nat → Nat → Int32) → Int32 → Int32 → Option ((Nat → Nat → Int32) × Int32)) : Nat → (Nat → Nat → Int32) → Int32 → Int32 → Option ((Nat → Nat → Int32) × Int32)
  | 0, _, _, _ => none
  | n + 1, c, p1, p2 => (if (12 : Int32) ≤ p2 then (k c p1 p2) else (ky_let (md_looksAt_c c p1) (fun q3 => ((md_movesBy N q3 (md_moveOf p2) (md_legOf p2)).bind (fun zz => (fun q5 x6 => (ky_let (md_state_r q5) (fun x8 => (if ky_inB ((12 * p1) + p2) 14400 = true then (ky_let (bk_w q5 10 (Int32.toNatClampNeg ((12 * p1) + p2)) x8) (fun q11 => (ky_let (p2 + 1) (fun x12 => (md_laysNext_L11 N k n q11 p1 x12))))) else none)))) zz.1 zz.2)))))
set_option maxRecDepth 20000 in
set_option maxHeartbeats 4000000 in
theorem lv_X12_laysNext_11 {G : ky_GW} {d : Nat} {h0 : ky_HP} {Q : ky_RS → ky_HP → Prop} {a : Nat} {c9 : (Nat → Nat → Int32)} {r9 : Int32} (N : Nat) (k : (Nat → Nat → Int32) → Int32 → Int32 → Option ((Nat → Nat → Int32) × Int32)) (hr : ∀ h1, md_at G h1 a c9 → bk_fr a 13 h0 h1 → Q (.inl none) h1)
    (hk : ∀ (h : ky_HP) (c : (Nat → Nat → Int32)) (p1 : Int32) (p2 : Int32), md_at G h a c → bk_fr a 13 h0 h → k c p1 p2 = some (c9, r9) → ky_V G (d + 4) M_X12_laysNext 55 [(0, .ref a), (1, .int p1), (2, .int p2)] [] h Q) :
    ∀ (n : Nat) (h : ky_HP) (c : (Nat → Nat → Int32)) (p1 : Int32) (p2 : Int32), md_at G h a c → bk_fr a 13 h0 h → md_laysNext_L11 N k n c p1 p2 = some (c9, r9) → ky_V G (d + 4) M_X12_laysNext 11 [(0, .ref a), (1, .int p1), (2, .int p2)] [] h Q := by
  intro n
  induction n with
  | zero => intro h c p1 p2 hm fr e; cases e
  | succ n ih =>
    intro h c p1 p2 hm fr e
    rw [md_laysNext_L11] at e
    refine v_iload_n (i := 7) (j := 2) rfl rfl (?_ : ky_V _ _ _ 12 _ _ _ _)
    refine v_bipush (v := 12) (i := 8) rfl (by decide) (?_ : ky_V _ _ _ 14 _ _ _ _)
    refine v_icmp_ge (tgt := 55) (i := 9) rfl (by decide) (fun c1 => ?_) (fun c1 => ?_)
    · replace e := ky_ifT c1 e
      exact hk h c p1 p2 hm fr e
    · replace e := ky_ifF c1 e
      refine v_aload_n (i := 10) (j := 0) rfl rfl (?_ : ky_V _ _ _ 18 _ _ _ _)
      refine v_iload_n (i := 11) (j := 1) rfl rfl (?_ : ky_V _ _ _ 19 _ _ _ _)
      refine cl_X12_291 (As := [.int p1]) rfl (i := 12) rfl (md_0 hm) rfl rfl (Nat.le_of_ble_eq_true rfl) (k_X12_looksAt p1 hm (fun h2 hmh2 frh2 => ⟨_, rfl, (?_ : ky_V _ _ _ 22 _ [] _ _)⟩))
      have frh2 := fr.tr frh2
      obtain ⟨q3, eq3⟩ : ∃ z, z = (md_looksAt_c c p1) := ⟨_, rfl⟩
      rw [← eq3] at hmh2
      replace e := ky_letE eq3 e
      refine v_aload_n (i := 13) (j := 0) rfl rfl (?_ : ky_V _ _ _ 23 _ _ _ _)
      refine v_iload_n (i := 14) (j := 2) rfl rfl (?_ : ky_V _ _ _ 24 _ _ _ _)
      refine cl_X12_295 (As := [.int p2]) rfl (i := 15) rfl rfl rfl (Nat.le_of_ble_eq_true rfl) (k_X12_moveOf p2 ⟨_, rfl, (?_ : ky_V _ _ _ 27 _ [.int ((md_moveOf p2)), .ref a] _ _)⟩)
      refine v_iload_n (i := 16) (j := 2) rfl rfl (?_ : ky_V _ _ _ 28 _ _ _ _)
      refine cl_X12_299 (As := [.int p2]) rfl (i := 17) rfl rfl rfl (Nat.le_of_ble_eq_true rfl) (k_X12_legOf p2 ⟨_, rfl, (?_ : ky_V _ _ _ 31 _ [.int ((md_legOf p2)), .int ((md_moveOf p2)), .ref a] _ _)⟩)
      obtain ⟨⟨q5, x6⟩, g7, e⟩ := Option.bind_eq_some_iff.mp e
      refine cl_X12_288 (As := [.int ((md_moveOf p2)), .int ((md_legOf p2))]) rfl (i := 18) rfl (md_0 hmh2) rfl rfl (Nat.le_of_ble_eq_true rfl) (k_X12_movesBy N hmh2 g7 (fun h4 hmh4 frh4 => ⟨_, rfl, (?_ : ky_V _ _ _ 34 _ [] _ _)⟩))
      have frh4 := frh2.tr frh4
      refine v_aload_n (i := 19) (j := 0) rfl rfl (?_ : ky_V _ _ _ 35 _ _ _ _)
      refine gf_X12_45 rfl (i := 20) rfl (md_0 hmh4) rfl (?_ : ky_V _ _ _ 38 _ _ _ _)
      refine v_bipush (v := 12) (i := 21) rfl (by decide) (?_ : ky_V _ _ _ 40 _ _ _ _)
      refine v_iload_n (i := 22) (j := 1) rfl rfl (?_ : ky_V _ _ _ 41 _ _ _ _)
      refine v_imul (i := 23) rfl (?_ : ky_V _ _ _ 42 _ _ _ _)
      refine v_iload_n (i := 24) (j := 2) rfl rfl (?_ : ky_V _ _ _ 43 _ _ _ _)
      refine v_iadd (i := 25) rfl (?_ : ky_V _ _ _ 44 _ _ _ _)
      refine v_aload_n (i := 26) (j := 0) rfl rfl (?_ : ky_V _ _ _ 45 _ _ _ _)
      refine cl_X12_302 (As := []) rfl (i := 27) rfl (md_0 hmh4) rfl rfl (Nat.le_of_ble_eq_true rfl) (k_X12_state hmh4 ⟨_, rfl, (?_ : ky_V _ _ _ 48 _ [.int ((md_state_r q5)), .int (((12 * p1) + p2)), .ref ((a + 10))] _ _)⟩)
      refine v_topi (fun x8 ex8 => ?_)
      replace e := ky_letE ex8 e
      obtain ⟨z9, e⟩ := ky_chkE e
      refine v_iast (i := 28) rfl (md_10 hmh4) (ky_inb z9) ?_
      refine bk_st (B := md_B G a) hmh4 frh4 10 (Int32.toNatClampNeg ((12 * p1) + p2)) x8 (by decide) (fun h10 hmh10 frh10 => ?_)
      obtain ⟨q11, eq11⟩ : ∃ z, z = (bk_w q5 10 (Int32.toNatClampNeg ((12 * p1) + p2)) x8) := ⟨_, rfl⟩
      rw [← eq11] at hmh10
      replace e := ky_letE eq11 e
      refine (?_ : ky_V _ _ _ 49 _ _ _ _)
      obtain ⟨x12, ex12⟩ : ∃ z : Int32, z = p2 + 1 := ⟨_, rfl⟩
      replace e := ky_letE ex12 e
      refine v_iinc (v := x12) (j := 2) (L' := [(0, .ref a), (1, .int p1), (2, .int x12)]) [1, 2, 0] (i := 29) rfl rfl (by rw [ex12]; rfl) (Nat.le_of_ble_eq_true rfl) rfl (?_ : ky_V _ _ _ 52 _ _ _ _)
      refine v_goto (tgt := 11) (i := 30) rfl (by decide) (?_ : ky_V _ _ _ 11 _ _ _ _)
      exact ih h10 q11 p1 x12 hmh10 frh10 e

def md_laysNext_L2 (N : Nat) (k : (Nat → Nat → Int32) → Int32 → Option ((Nat → Nat → Int32) × Int32)) : Nat → (Nat → Nat → Int32) → Int32 → Option ((Nat → Nat → Int32) × Int32)
  | 0, _, _ => none
  | n + 1, c, p1 => (if (1200 : Int32) ≤ p1 then (k c p1) else (md_laysNext_L11 N (fun q3 x4 x5 => (ky_let (x4 + 1) (fun x6 => (md_laysNext_L2 N k n q3 x6)))) N c p1 0))
set_option maxRecDepth 20000 in
set_option maxHeartbeats 4000000 in
theorem lv_X12_laysNext_2 {G : ky_GW} {d : Nat} {h0 : ky_HP} {Q : ky_RS → ky_HP → Prop} {a : Nat} {c9 : (Nat → Nat → Int32)} {r9 : Int32} (N : Nat) (k : (Nat → Nat → Int32) → Int32 → Option ((Nat → Nat → Int32) × Int32)) (hr : ∀ h1, md_at G h1 a c9 → bk_fr a 13 h0 h1 → Q (.inl none) h1)
    (hk : ∀ (h : ky_HP) (c : (Nat → Nat → Int32)) (p1 : Int32), md_at G h a c → bk_fr a 13 h0 h → k c p1 = some (c9, r9) → ky_V G (d + 4) M_X12_laysNext 61 [(0, .ref a), (1, .int p1)] [] h Q) :
    ∀ (n : Nat) (h : ky_HP) (c : (Nat → Nat → Int32)) (p1 : Int32), md_at G h a c → bk_fr a 13 h0 h → md_laysNext_L2 N k n c p1 = some (c9, r9) → ky_V G (d + 4) M_X12_laysNext 2 [(0, .ref a), (1, .int p1)] [] h Q := by
  intro n
  induction n with
  | zero => intro h c p1 hm fr e; cases e
  | succ n ih =>
    intro h c p1 hm fr e
    rw [md_laysNext_L2] at e
    refine v_iload_n (i := 2) (j := 1) rfl rfl (?_ : ky_V _ _ _ 3 _ _ _ _)
    refine v_sipush (v := 1200) (i := 3) rfl (by decide) (?_ : ky_V _ _ _ 6 _ _ _ _)
    refine v_icmp_ge (tgt := 61) (i := 4) rfl (by decide) (fun c1 => ?_) (fun c1 => ?_)
    · replace e := ky_ifT c1 e
      exact hk h c p1 hm fr e
    · replace e := ky_ifF c1 e
      refine v_iconst (v := 0) (i := 5) rfl (by decide) (?_ : ky_V _ _ _ 10 _ _ _ _)
      refine v_istore_n (L' := [(0, .ref a), (1, .int p1), (2, .int 0)]) [1, 2, 0] (i := 6) rfl (Nat.le_of_ble_eq_true rfl) rfl (?_ : ky_V _ _ _ 11 _ _ _ _)
      refine lv_X12_laysNext_11 N _ hr (fun h2 q3 x4 x5 hmh2 frh2 e => ?_) N h c p1 0 hm fr e
      obtain ⟨x6, ex6⟩ : ∃ z : Int32, z = x4 + 1 := ⟨_, rfl⟩
      replace e := ky_letE ex6 e
      refine v_iinc (v := x6) (j := 1) (L' := [(0, .ref a), (1, .int x6), (2, .int x5)]) [1, 0, 2] (i := 31) rfl rfl (by rw [ex6]; rfl) (Nat.le_of_ble_eq_true rfl) rfl (?_ : ky_V _ _ _ 58 _ _ _ _)
      refine v_goto (tgt := 2) (i := 32) rfl (by decide) (?_ : ky_V _ _ _ 2 _ _ _ _)
      refine ky_loc (L' := [(0, .ref a), (1, .int x6)]) (by simp) ?_
      exact ih h2 q3 x6 hmh2 frh2 e

def md_laysNext (N : Nat) (c : (Nat → Nat → Int32))  : Option ((Nat → Nat → Int32) × Int32) := (md_laysNext_L2 N (fun q2 x3 => (some (q2, 0))) N c 0)
set_option maxRecDepth 20000 in
set_option maxHeartbeats 4000000 in
theorem k_X12_laysNext {G : ky_GW} {d : Nat} {h : ky_HP} {Q : ky_RS → ky_HP → Prop} {a : Nat} {c c9 : (Nat → Nat → Int32)} {r9 : Int32}  (N : Nat) (hm : md_at G h a c) (e : md_laysNext N c = some (c9, r9)) (hr : ∀ h1, md_at G h1 a c9 → bk_fr a 13 h h1 → Q (.inl none) h1) : ky_Call G (d + 4) M_X12_laysNext [.ref a] h Q := by
  refine ky_ofV (by decide +kernel) rfl ok_X12_laysNext (Nat.le_of_ble_eq_true rfl) ?_
  have fr : bk_fr a 13 h h := bk_fr.rf
  unfold md_laysNext at e
  refine (?_ : ky_V _ _ _ 0 [(0, .ref a)] [] _ _)
  refine v_iconst (v := 0) (i := 0) rfl (by decide) (?_ : ky_V _ _ _ 1 _ _ _ _)
  refine v_istore_n (L' := [(0, .ref a), (1, .int 0)]) [1, 0] (i := 1) rfl (Nat.le_of_ble_eq_true rfl) rfl (?_ : ky_V _ _ _ 2 _ _ _ _)
  refine lv_X12_laysNext_2 N _ hr (fun h1 q2 x3 hmh1 frh1 e => ?_) N h c 0 hm fr e
  refine v_vret (i := 33) rfl rfl ?_
  obtain ⟨rfl, rfl⟩ := ky_leaf e
  exact hr _ hmh1 frh1

def md_round (N : Nat) (c : (Nat → Nat → Int32))  : Option ((Nat → Nat → Int32) × Int32) := (ky_let (bk_w c 0 0 0) (fun q2 => ((md_laysNext N q2).bind (fun zz => (fun q4 x5 => (ky_let (md_stateNow_r q4) (fun x9 => (ky_let (md_stateNow_c q4) (fun q8 => ((md_laysRound N q8 x9).bind (fun zz => (fun q11 x12 => (if ky_inB x9 1200 = true then (if (q11 11 (Int32.toNatClampNeg x9)) < (1000000 : Int32) then (some (q11, (q11 11 (Int32.toNatClampNeg x9)))) else (some (q11, (-1)))) else none)) zz.1 zz.2))))))) zz.1 zz.2))))
set_option maxRecDepth 20000 in
set_option maxHeartbeats 4000000 in
theorem k_X12_round {G : ky_GW} {d : Nat} {h : ky_HP} {Q : ky_RS → ky_HP → Prop} {a : Nat} {c c9 : (Nat → Nat → Int32)} {r9 : Int32}  (N : Nat) (hm : md_at G h a c) (e : md_round N c = some (c9, r9)) (hr : ∀ h1, md_at G h1 a c9 → bk_fr a 13 h h1 → Q (.inl (some (.int r9))) h1) : ky_Call G (d + 5) M_X12_round [.ref a] h Q := by
  refine ky_ofV (by decide +kernel) rfl ok_X12_round (Nat.le_of_ble_eq_true rfl) ?_
  have fr : bk_fr a 13 h h := bk_fr.rf
  unfold md_round at e
  refine (?_ : ky_V _ _ _ 0 [(0, .ref a)] [] _ _)
  refine v_aload_n (i := 0) (j := 0) rfl rfl (?_ : ky_V _ _ _ 1 _ _ _ _)
  refine v_iconst (v := 0) (i := 1) rfl (by decide) (?_ : ky_V _ _ _ 2 _ _ _ _)
  refine pf_X12_3 rfl (i := 2) rfl (md_0 hm) (Nat.le_of_ble_eq_true rfl) rfl rfl ?_
  refine bk_st (B := md_B G a) hm fr 0 0 0 (by decide) (fun h1 hmh1 frh1 => ?_)
  obtain ⟨q2, eq2⟩ : ∃ z, z = (bk_w c 0 0 0) := ⟨_, rfl⟩
  rw [← eq2] at hmh1
  replace e := ky_letE eq2 e
  refine (?_ : ky_V _ _ _ 5 _ _ _ _)
  refine v_aload_n (i := 3) (j := 0) rfl rfl (?_ : ky_V _ _ _ 6 _ _ _ _)
  obtain ⟨⟨q4, x5⟩, g6, e⟩ := Option.bind_eq_some_iff.mp e
  refine cl_X12_318 (As := []) rfl (i := 4) rfl (md_0 hmh1) rfl rfl (Nat.le_of_ble_eq_true rfl) (k_X12_laysNext N hmh1 g6 (fun h3 hmh3 frh3 => ⟨_, rfl, (?_ : ky_V _ _ _ 9 _ [] _ _)⟩))
  have frh3 := frh1.tr frh3
  refine v_aload_n (i := 5) (j := 0) rfl rfl (?_ : ky_V _ _ _ 10 _ _ _ _)
  refine cl_X12_324 (As := []) rfl (i := 6) rfl (md_0 hmh3) rfl rfl (Nat.le_of_ble_eq_true rfl) (k_X12_stateNow hmh3 (fun h7 hmh7 frh7 => ⟨_, rfl, (?_ : ky_V _ _ _ 13 _ [.int ((md_stateNow_r q4))] _ _)⟩))
  have frh7 := frh3.tr frh7
  refine v_topi (fun x9 ex9 => ?_)
  replace e := ky_letE ex9 e
  obtain ⟨q8, eq8⟩ : ∃ z, z = (md_stateNow_c q4) := ⟨_, rfl⟩
  rw [← eq8] at hmh7
  replace e := ky_letE eq8 e
  refine v_istore_n (L' := [(0, .ref a), (1, .int x9)]) [1, 0] (i := 7) rfl (Nat.le_of_ble_eq_true rfl) rfl (?_ : ky_V _ _ _ 14 _ _ _ _)
  refine v_aload_n (i := 8) (j := 0) rfl rfl (?_ : ky_V _ _ _ 15 _ _ _ _)
  refine v_iload_n (i := 9) (j := 1) rfl rfl (?_ : ky_V _ _ _ 16 _ _ _ _)
  obtain ⟨⟨q11, x12⟩, g13, e⟩ := Option.bind_eq_some_iff.mp e
  refine cl_X12_336 (As := [.int x9]) rfl (i := 10) rfl (md_0 hmh7) rfl rfl (Nat.le_of_ble_eq_true rfl) (k_X12_laysRound N hmh7 g13 (fun h10 hmh10 frh10 => ⟨_, rfl, (?_ : ky_V _ _ _ 19 _ [] _ _)⟩))
  have frh10 := frh7.tr frh10
  refine v_aload_n (i := 11) (j := 0) rfl rfl (?_ : ky_V _ _ _ 20 _ _ _ _)
  refine gf_X12_48 rfl (i := 12) rfl (md_0 hmh10) rfl (?_ : ky_V _ _ _ 23 _ _ _ _)
  refine v_iload_n (i := 13) (j := 1) rfl rfl (?_ : ky_V _ _ _ 24 _ _ _ _)
  obtain ⟨z14, e⟩ := ky_chkE e
  refine v_iald (i := 14) rfl (md_11 hmh10) (ky_inb z14) (?_ : ky_V _ _ _ 25 _ (.int (q11 11 (Int32.toNatClampNeg x9)) :: _) _ _)
  refine v_ldcw (v := 1000000) (i := 15) rfl (ky_t8 (i := 116) rfl rfl) (?_ : ky_V _ _ _ 28 _ _ _ _)
  refine v_icmp_lt (tgt := 35) (i := 16) rfl (by decide) (fun c15 => ?_) (fun c15 => ?_)
  · replace e := ky_ifT c15 e
    refine v_aload_n (i := 19) (j := 0) rfl rfl (?_ : ky_V _ _ _ 36 _ _ _ _)
    refine gf_X12_48 rfl (i := 20) rfl (md_0 hmh10) rfl (?_ : ky_V _ _ _ 39 _ _ _ _)
    refine v_iload_n (i := 21) (j := 1) rfl rfl (?_ : ky_V _ _ _ 40 _ _ _ _)
    refine v_iald (i := 22) rfl (md_11 hmh10) (ky_inb z14) (?_ : ky_V _ _ _ 41 _ (.int (q11 11 (Int32.toNatClampNeg x9)) :: _) _ _)
    refine v_iret (v := (q11 11 (Int32.toNatClampNeg x9))) (ty := .int) (i := 23) rfl rfl rfl ?_
    obtain ⟨rfl, rfl⟩ := ky_leaf e
    exact hr _ hmh10 frh10
  · replace e := ky_ifF c15 e
    refine v_iconst (v := (-1)) (i := 17) rfl (by decide) (?_ : ky_V _ _ _ 32 _ _ _ _)
    refine v_goto (tgt := 41) (i := 18) rfl (by decide) (?_ : ky_V _ _ _ 41 _ _ _ _)
    refine v_iret (v := (-1)) (ty := .int) (i := 23) rfl rfl rfl ?_
    obtain ⟨rfl, rfl⟩ := ky_leaf e
    exact hr _ hmh10 frh10

def md_more_L23 (N : Nat) (k : (Nat → Nat → Int32) → Int32 → Int32 → Int32 → Option ((Nat → Nat → Int32) × Int32)) : Nat → (Nat → Nat → Int32) → Int32 → Int32 → Int32 → Option ((Nat → Nat → Int32) × Int32)
  | 0, _, _, _, _ => none
  | n + 1, c, p1, p2, p3 => (if (1200 : Int32) ≤ p3 then (k c p1 p2 p3) else (if p3 = p1 then (ky_let (p2 + 1) (fun x3 => (ky_let (p3 + 1) (fun x4 => (md_more_L23 N k n c p1 x3 x4))))) else (if ky_inB p3 1200 = true then (if (1000000 : Int32) ≤ (c 11 (Int32.toNatClampNeg p3)) then (ky_let (p2 + 0) (fun x7 => (ky_let (p3 + 1) (fun x8 => (md_more_L23 N k n c p1 x7 x8))))) else (ky_let (p2 + 1) (fun x9 => (ky_let (p3 + 1) (fun x10 => (md_more_L23 N k n c p1 x9 x10)))))) else none)))
set_option maxRecDepth 20000 in
set_option maxHeartbeats 4000000 in
theorem lv_X12_more_23 {G : ky_GW} {d : Nat} {h0 : ky_HP} {Q : ky_RS → ky_HP → Prop} {a : Nat} {c9 : (Nat → Nat → Int32)} {r9 : Int32} (N : Nat) (k : (Nat → Nat → Int32) → Int32 → Int32 → Int32 → Option ((Nat → Nat → Int32) × Int32)) (hr : ∀ h1, md_at G h1 a c9 → bk_fr a 13 h0 h1 → Q (.inl (some (.int r9))) h1)
    (hk : ∀ (h : ky_HP) (c : (Nat → Nat → Int32)) (p1 : Int32) (p2 : Int32) (p3 : Int32), md_at G h a c → bk_fr a 13 h0 h → k c p1 p2 p3 = some (c9, r9) → ky_V G (d + 5) M_X12_more 61 [(0, .ref a), (1, .int p1), (2, .int p2), (3, .int p3)] [] h Q) :
    ∀ (n : Nat) (h : ky_HP) (c : (Nat → Nat → Int32)) (p1 : Int32) (p2 : Int32) (p3 : Int32), md_at G h a c → bk_fr a 13 h0 h → md_more_L23 N k n c p1 p2 p3 = some (c9, r9) → ky_V G (d + 5) M_X12_more 23 [(0, .ref a), (1, .int p1), (2, .int p2), (3, .int p3)] [] h Q := by
  intro n
  induction n with
  | zero => intro h c p1 p2 p3 hm fr e; cases e
  | succ n ih =>
    intro h c p1 p2 p3 hm fr e
    rw [md_more_L23] at e
    refine v_iload_n (i := 15) (j := 3) rfl rfl (?_ : ky_V _ _ _ 24 _ _ _ _)
    refine v_sipush (v := 1200) (i := 16) rfl (by decide) (?_ : ky_V _ _ _ 27 _ _ _ _)
    refine v_icmp_ge (tgt := 61) (i := 17) rfl (by decide) (fun c1 => ?_) (fun c1 => ?_)
    · replace e := ky_ifT c1 e
      exact hk h c p1 p2 p3 hm fr e
    · replace e := ky_ifF c1 e
      refine v_iload_n (i := 18) (j := 2) rfl rfl (?_ : ky_V _ _ _ 31 _ _ _ _)
      refine v_iload_n (i := 19) (j := 3) rfl rfl (?_ : ky_V _ _ _ 32 _ _ _ _)
      refine v_iload_n (i := 20) (j := 1) rfl rfl (?_ : ky_V _ _ _ 33 _ _ _ _)
      refine v_icmp_eq (tgt := 48) (i := 21) rfl (by decide) (fun c2 => ?_) (fun c2 => ?_)
      · replace e := ky_ifT c2 e
        refine v_iconst (v := 1) (i := 28) rfl (by decide) (?_ : ky_V _ _ _ 49 _ _ _ _)
        refine v_goto (tgt := 53) (i := 29) rfl (by decide) (?_ : ky_V _ _ _ 53 _ _ _ _)
        refine v_iadd (i := 31) rfl (?_ : ky_V _ _ _ 54 _ _ _ _)
        refine v_topi (fun x3 ex3 => ?_)
        replace e := ky_letE ex3 e
        refine v_istore_n (L' := [(0, .ref a), (1, .int p1), (2, .int x3), (3, .int p3)]) [1, 2, 0, 3] (i := 32) rfl (Nat.le_of_ble_eq_true rfl) rfl (?_ : ky_V _ _ _ 55 _ _ _ _)
        obtain ⟨x4, ex4⟩ : ∃ z : Int32, z = p3 + 1 := ⟨_, rfl⟩
        replace e := ky_letE ex4 e
        refine v_iinc (v := x4) (j := 3) (L' := [(0, .ref a), (1, .int p1), (2, .int x3), (3, .int x4)]) [1, 2, 3, 0] (i := 33) rfl rfl (by rw [ex4]; rfl) (Nat.le_of_ble_eq_true rfl) rfl (?_ : ky_V _ _ _ 58 _ _ _ _)
        refine v_goto (tgt := 23) (i := 34) rfl (by decide) (?_ : ky_V _ _ _ 23 _ _ _ _)
        exact ih h c p1 x3 x4 hm fr e
      · replace e := ky_ifF c2 e
        refine v_aload_n (i := 22) (j := 0) rfl rfl (?_ : ky_V _ _ _ 37 _ _ _ _)
        refine gf_X12_48 rfl (i := 23) rfl (md_0 hm) rfl (?_ : ky_V _ _ _ 40 _ _ _ _)
        refine v_iload_n (i := 24) (j := 3) rfl rfl (?_ : ky_V _ _ _ 41 _ _ _ _)
        obtain ⟨z5, e⟩ := ky_chkE e
        refine v_iald (i := 25) rfl (md_11 hm) (ky_inb z5) (?_ : ky_V _ _ _ 42 _ (.int (c 11 (Int32.toNatClampNeg p3)) :: _) _ _)
        refine v_ldcw (v := 1000000) (i := 26) rfl (ky_t8 (i := 116) rfl rfl) (?_ : ky_V _ _ _ 45 _ _ _ _)
        refine v_icmp_ge (tgt := 52) (i := 27) rfl (by decide) (fun c6 => ?_) (fun c6 => ?_)
        · replace e := ky_ifT c6 e
          refine v_iconst (v := 0) (i := 30) rfl (by decide) (?_ : ky_V _ _ _ 53 _ _ _ _)
          refine v_iadd (i := 31) rfl (?_ : ky_V _ _ _ 54 _ _ _ _)
          refine v_topi (fun x7 ex7 => ?_)
          replace e := ky_letE ex7 e
          refine v_istore_n (L' := [(0, .ref a), (1, .int p1), (2, .int x7), (3, .int p3)]) [1, 2, 0, 3] (i := 32) rfl (Nat.le_of_ble_eq_true rfl) rfl (?_ : ky_V _ _ _ 55 _ _ _ _)
          obtain ⟨x8, ex8⟩ : ∃ z : Int32, z = p3 + 1 := ⟨_, rfl⟩
          replace e := ky_letE ex8 e
          refine v_iinc (v := x8) (j := 3) (L' := [(0, .ref a), (1, .int p1), (2, .int x7), (3, .int x8)]) [1, 2, 3, 0] (i := 33) rfl rfl (by rw [ex8]; rfl) (Nat.le_of_ble_eq_true rfl) rfl (?_ : ky_V _ _ _ 58 _ _ _ _)
          refine v_goto (tgt := 23) (i := 34) rfl (by decide) (?_ : ky_V _ _ _ 23 _ _ _ _)
          exact ih h c p1 x7 x8 hm fr e
        · replace e := ky_ifF c6 e
          refine v_iconst (v := 1) (i := 28) rfl (by decide) (?_ : ky_V _ _ _ 49 _ _ _ _)
          refine v_goto (tgt := 53) (i := 29) rfl (by decide) (?_ : ky_V _ _ _ 53 _ _ _ _)
          refine v_iadd (i := 31) rfl (?_ : ky_V _ _ _ 54 _ _ _ _)
          refine v_topi (fun x9 ex9 => ?_)
          replace e := ky_letE ex9 e
          refine v_istore_n (L' := [(0, .ref a), (1, .int p1), (2, .int x9), (3, .int p3)]) [1, 2, 0, 3] (i := 32) rfl (Nat.le_of_ble_eq_true rfl) rfl (?_ : ky_V _ _ _ 55 _ _ _ _)
          obtain ⟨x10, ex10⟩ : ∃ z : Int32, z = p3 + 1 := ⟨_, rfl⟩
          replace e := ky_letE ex10 e
          refine v_iinc (v := x10) (j := 3) (L' := [(0, .ref a), (1, .int p1), (2, .int x9), (3, .int x10)]) [1, 2, 3, 0] (i := 33) rfl rfl (by rw [ex10]; rfl) (Nat.le_of_ble_eq_true rfl) rfl (?_ : ky_V _ _ _ 58 _ _ _ _)
          refine v_goto (tgt := 23) (i := 34) rfl (by decide) (?_ : ky_V _ _ _ 23 _ _ _ _)
          exact ih h c p1 x9 x10 hm fr e

def md_more (N : Nat) (c : (Nat → Nat → Int32))  : Option ((Nat → Nat → Int32) × Int32) := (ky_let (bk_w c 0 0 0) (fun q2 => ((md_laysNext N q2).bind (fun zz => (fun q4 x5 => (ky_let (md_stateNow_r q4) (fun x9 => (ky_let (md_stateNow_c q4) (fun q8 => ((md_laysRound N q8 x9).bind (fun zz => (fun q11 x12 => (md_more_L23 N (fun q15 x16 x17 x18 => (some (q15, x17))) N q11 x9 0 0)) zz.1 zz.2))))))) zz.1 zz.2))))
set_option maxRecDepth 20000 in
set_option maxHeartbeats 4000000 in
theorem k_X12_more {G : ky_GW} {d : Nat} {h : ky_HP} {Q : ky_RS → ky_HP → Prop} {a : Nat} {c c9 : (Nat → Nat → Int32)} {r9 : Int32}  (N : Nat) (hm : md_at G h a c) (e : md_more N c = some (c9, r9)) (hr : ∀ h1, md_at G h1 a c9 → bk_fr a 13 h h1 → Q (.inl (some (.int r9))) h1) : ky_Call G (d + 5) M_X12_more [.ref a] h Q := by
  refine ky_ofV (by decide +kernel) rfl ok_X12_more (Nat.le_of_ble_eq_true rfl) ?_
  have fr : bk_fr a 13 h h := bk_fr.rf
  unfold md_more at e
  refine (?_ : ky_V _ _ _ 0 [(0, .ref a)] [] _ _)
  refine v_aload_n (i := 0) (j := 0) rfl rfl (?_ : ky_V _ _ _ 1 _ _ _ _)
  refine v_iconst (v := 0) (i := 1) rfl (by decide) (?_ : ky_V _ _ _ 2 _ _ _ _)
  refine pf_X12_3 rfl (i := 2) rfl (md_0 hm) (Nat.le_of_ble_eq_true rfl) rfl rfl ?_
  refine bk_st (B := md_B G a) hm fr 0 0 0 (by decide) (fun h1 hmh1 frh1 => ?_)
  obtain ⟨q2, eq2⟩ : ∃ z, z = (bk_w c 0 0 0) := ⟨_, rfl⟩
  rw [← eq2] at hmh1
  replace e := ky_letE eq2 e
  refine (?_ : ky_V _ _ _ 5 _ _ _ _)
  refine v_aload_n (i := 3) (j := 0) rfl rfl (?_ : ky_V _ _ _ 6 _ _ _ _)
  obtain ⟨⟨q4, x5⟩, g6, e⟩ := Option.bind_eq_some_iff.mp e
  refine cl_X12_318 (As := []) rfl (i := 4) rfl (md_0 hmh1) rfl rfl (Nat.le_of_ble_eq_true rfl) (k_X12_laysNext N hmh1 g6 (fun h3 hmh3 frh3 => ⟨_, rfl, (?_ : ky_V _ _ _ 9 _ [] _ _)⟩))
  have frh3 := frh1.tr frh3
  refine v_aload_n (i := 5) (j := 0) rfl rfl (?_ : ky_V _ _ _ 10 _ _ _ _)
  refine cl_X12_324 (As := []) rfl (i := 6) rfl (md_0 hmh3) rfl rfl (Nat.le_of_ble_eq_true rfl) (k_X12_stateNow hmh3 (fun h7 hmh7 frh7 => ⟨_, rfl, (?_ : ky_V _ _ _ 13 _ [.int ((md_stateNow_r q4))] _ _)⟩))
  have frh7 := frh3.tr frh7
  refine v_topi (fun x9 ex9 => ?_)
  replace e := ky_letE ex9 e
  obtain ⟨q8, eq8⟩ : ∃ z, z = (md_stateNow_c q4) := ⟨_, rfl⟩
  rw [← eq8] at hmh7
  replace e := ky_letE eq8 e
  refine v_istore_n (L' := [(0, .ref a), (1, .int x9)]) [1, 0] (i := 7) rfl (Nat.le_of_ble_eq_true rfl) rfl (?_ : ky_V _ _ _ 14 _ _ _ _)
  refine v_aload_n (i := 8) (j := 0) rfl rfl (?_ : ky_V _ _ _ 15 _ _ _ _)
  refine v_iload_n (i := 9) (j := 1) rfl rfl (?_ : ky_V _ _ _ 16 _ _ _ _)
  obtain ⟨⟨q11, x12⟩, g13, e⟩ := Option.bind_eq_some_iff.mp e
  refine cl_X12_336 (As := [.int x9]) rfl (i := 10) rfl (md_0 hmh7) rfl rfl (Nat.le_of_ble_eq_true rfl) (k_X12_laysRound N hmh7 g13 (fun h10 hmh10 frh10 => ⟨_, rfl, (?_ : ky_V _ _ _ 19 _ [] _ _)⟩))
  have frh10 := frh7.tr frh10
  refine v_iconst (v := 0) (i := 11) rfl (by decide) (?_ : ky_V _ _ _ 20 _ _ _ _)
  refine v_istore_n (L' := [(0, .ref a), (1, .int x9), (2, .int 0)]) [1, 2, 0] (i := 12) rfl (Nat.le_of_ble_eq_true rfl) rfl (?_ : ky_V _ _ _ 21 _ _ _ _)
  refine v_iconst (v := 0) (i := 13) rfl (by decide) (?_ : ky_V _ _ _ 22 _ _ _ _)
  refine v_istore_n (L' := [(0, .ref a), (1, .int x9), (2, .int 0), (3, .int 0)]) [1, 2, 3, 0] (i := 14) rfl (Nat.le_of_ble_eq_true rfl) rfl (?_ : ky_V _ _ _ 23 _ _ _ _)
  refine lv_X12_more_23 N _ hr (fun h14 q15 x16 x17 x18 hmh14 frh14 e => ?_) N h10 q11 x9 0 0 hmh10 frh10 e
  refine v_iload_n (i := 35) (j := 2) rfl rfl (?_ : ky_V _ _ _ 62 _ _ _ _)
  refine v_iret (v := x17) (ty := .int) (i := 36) rfl rfl rfl ?_
  obtain ⟨rfl, rfl⟩ := ky_leaf e
  exact hr _ hmh14 frh14

def md_runOf_L16 (N : Nat) (k : (Nat → Nat → Int32) → Int32 → Int32 → Int32 → Int32 → Option ((Nat → Nat → Int32) × Int32)) : Nat → (Nat → Nat → Int32) → Int32 → Int32 → Int32 → Int32 → Option ((Nat → Nat → Int32) × Int32)
  | 0, _, _, _, _, _ => none
  | n + 1, c, p1, p2, p3, p4 => (if p3 < p4 then (k c p1 p2 p3 p4) else (if (md_isOutNow_r c) = 0 then (if p3 ≤ p4 then (ky_let (p4 + 1) (fun x4 => (md_runOf_L16 N k n c p1 p2 p3 x4))) else ((md_movesBy N c 5 0).bind (fun zz => (fun q6 x7 => (ky_let (p4 + 1) (fun x9 => (md_runOf_L16 N k n q6 p1 p2 p3 x9)))) zz.1 zz.2))) else (some (c, ((c 1 7) + (p4 * (md_ofMove_r c 5 3)))))))
set_option maxRecDepth 20000 in
set_option maxHeartbeats 4000000 in
theorem lv_X12_runOf_16 {G : ky_GW} {d : Nat} {h0 : ky_HP} {Q : ky_RS → ky_HP → Prop} {a : Nat} {c9 : (Nat → Nat → Int32)} {r9 : Int32} (N : Nat) (k : (Nat → Nat → Int32) → Int32 → Int32 → Int32 → Int32 → Option ((Nat → Nat → Int32) × Int32)) (hr : ∀ h1, md_at G h1 a c9 → bk_fr a 13 h0 h1 → Q (.inl (some (.int r9))) h1)
    (hk : ∀ (h : ky_HP) (c : (Nat → Nat → Int32)) (p1 : Int32) (p2 : Int32) (p3 : Int32) (p4 : Int32), md_at G h a c → bk_fr a 13 h0 h → k c p1 p2 p3 p4 = some (c9, r9) → ky_V G (d + 4) M_X12_runOf 65 [(0, .ref a), (1, .int p1), (2, .int p2), (3, .int p3), (4, .int p4)] [] h Q) :
    ∀ (n : Nat) (h : ky_HP) (c : (Nat → Nat → Int32)) (p1 : Int32) (p2 : Int32) (p3 : Int32) (p4 : Int32), md_at G h a c → bk_fr a 13 h0 h → md_runOf_L16 N k n c p1 p2 p3 p4 = some (c9, r9) → ky_V G (d + 4) M_X12_runOf 16 [(0, .ref a), (1, .int p1), (2, .int p2), (3, .int p3), (4, .int p4)] [] h Q := by
  intro n
  induction n with
  | zero => intro h c p1 p2 p3 p4 hm fr e; cases e
  | succ n ih =>
    intro h c p1 p2 p3 p4 hm fr e
    rw [md_runOf_L16] at e
    refine v_iload (i := 11) (j := 4) rfl rfl (?_ : ky_V _ _ _ 18 _ _ _ _)
    refine v_iload_n (i := 12) (j := 3) rfl rfl (?_ : ky_V _ _ _ 19 _ _ _ _)
    refine v_icmp_gt (tgt := 65) (i := 13) rfl (by decide) (fun c1 => ?_) (fun c1 => ?_)
    · replace e := ky_ifT c1 e
      exact hk h c p1 p2 p3 p4 hm fr e
    · replace e := ky_ifF c1 e
      refine v_aload_n (i := 14) (j := 0) rfl rfl (?_ : ky_V _ _ _ 23 _ _ _ _)
      refine cl_X12_342 (As := []) rfl (i := 15) rfl (md_0 hm) rfl rfl (Nat.le_of_ble_eq_true rfl) (k_X12_isOutNow hm ⟨_, rfl, (?_ : ky_V _ _ _ 26 _ [.int ((md_isOutNow_r c))] _ _)⟩)
      refine v_if_eq (tgt := 47) (i := 16) rfl (by decide) (fun c2 => ?_) (fun c2 => ?_)
      · replace e := ky_ifT c2 e
        refine v_iload (i := 29) (j := 4) rfl rfl (?_ : ky_V _ _ _ 49 _ _ _ _)
        refine v_iload_n (i := 30) (j := 3) rfl rfl (?_ : ky_V _ _ _ 50 _ _ _ _)
        refine v_icmp_ge (tgt := 59) (i := 31) rfl (by decide) (fun c3 => ?_) (fun c3 => ?_)
        · replace e := ky_ifT c3 e
          obtain ⟨x4, ex4⟩ : ∃ z : Int32, z = p4 + 1 := ⟨_, rfl⟩
          replace e := ky_letE ex4 e
          refine v_iinc (v := x4) (j := 4) (L' := [(0, .ref a), (1, .int p1), (2, .int p2), (3, .int p3), (4, .int x4)]) [1, 2, 3, 4, 0] (i := 36) rfl rfl (by rw [ex4]; rfl) (Nat.le_of_ble_eq_true rfl) rfl (?_ : ky_V _ _ _ 62 _ _ _ _)
          refine v_goto (tgt := 16) (i := 37) rfl (by decide) (?_ : ky_V _ _ _ 16 _ _ _ _)
          exact ih h c p1 p2 p3 x4 hm fr e
        · replace e := ky_ifF c3 e
          refine v_aload_n (i := 32) (j := 0) rfl rfl (?_ : ky_V _ _ _ 54 _ _ _ _)
          refine v_iconst (v := 5) (i := 33) rfl (by decide) (?_ : ky_V _ _ _ 55 _ _ _ _)
          refine v_iconst (v := 0) (i := 34) rfl (by decide) (?_ : ky_V _ _ _ 56 _ _ _ _)
          obtain ⟨⟨q6, x7⟩, g8, e⟩ := Option.bind_eq_some_iff.mp e
          refine cl_X12_288 (As := [.int 5, .int 0]) rfl (i := 35) rfl (md_0 hm) rfl rfl (Nat.le_of_ble_eq_true rfl) (k_X12_movesBy N hm g8 (fun h5 hmh5 frh5 => ⟨_, rfl, (?_ : ky_V _ _ _ 59 _ [] _ _)⟩))
          have frh5 := fr.tr frh5
          obtain ⟨x9, ex9⟩ : ∃ z : Int32, z = p4 + 1 := ⟨_, rfl⟩
          replace e := ky_letE ex9 e
          refine v_iinc (v := x9) (j := 4) (L' := [(0, .ref a), (1, .int p1), (2, .int p2), (3, .int p3), (4, .int x9)]) [1, 2, 3, 4, 0] (i := 36) rfl rfl (by rw [ex9]; rfl) (Nat.le_of_ble_eq_true rfl) rfl (?_ : ky_V _ _ _ 62 _ _ _ _)
          refine v_goto (tgt := 16) (i := 37) rfl (by decide) (?_ : ky_V _ _ _ 16 _ _ _ _)
          exact ih h5 q6 p1 p2 p3 x9 hmh5 frh5 e
      · replace e := ky_ifF c2 e
        refine v_aload_n (i := 17) (j := 0) rfl rfl (?_ : ky_V _ _ _ 30 _ _ _ _)
        refine gf_X12_13 rfl (i := 18) rfl (md_0 hm) rfl (?_ : ky_V _ _ _ 33 _ _ _ _)
        refine v_bipush (v := 7) (i := 19) rfl (by decide) (?_ : ky_V _ _ _ 35 _ _ _ _)
        refine v_iald (i := 20) rfl (md_1 hm) (ky_inl (by decide)) (?_ : ky_V _ _ _ 36 _ (.int (c 1 7) :: _) _ _)
        refine v_iload (i := 21) (j := 4) rfl rfl (?_ : ky_V _ _ _ 38 _ _ _ _)
        refine v_aload_n (i := 22) (j := 0) rfl rfl (?_ : ky_V _ _ _ 39 _ _ _ _)
        refine v_iconst (v := 5) (i := 23) rfl (by decide) (?_ : ky_V _ _ _ 40 _ _ _ _)
        refine v_iconst (v := 3) (i := 24) rfl (by decide) (?_ : ky_V _ _ _ 41 _ _ _ _)
        refine cl_X12_266 (As := [.int 5, .int 3]) rfl (i := 25) rfl (md_0 hm) rfl rfl (Nat.le_of_ble_eq_true rfl) (k_X12_ofMove 5 3 hm (ky_inl (by decide)) ⟨_, rfl, (?_ : ky_V _ _ _ 44 _ [.int ((md_ofMove_r c 5 3)), .int p4, .int ((c 1 7))] _ _)⟩)
        refine v_imul (i := 26) rfl (?_ : ky_V _ _ _ 45 _ _ _ _)
        refine v_iadd (i := 27) rfl (?_ : ky_V _ _ _ 46 _ _ _ _)
        refine v_iret (v := ((c 1 7) + (p4 * (md_ofMove_r c 5 3)))) (ty := .int) (i := 28) rfl rfl rfl ?_
        obtain ⟨rfl, rfl⟩ := ky_leaf e
        exact hr _ hm fr

def md_runOf (N : Nat) (c : (Nat → Nat → Int32)) (p1 : Int32) (p2 : Int32) : Option ((Nat → Nat → Int32) × Int32) := (ky_let (md_looks_c c) (fun q2 => (if ¬ (md_ofMove_r q2 5 3) = 0 then (ky_let (p1 / (md_ofMove_r q2 5 3)) (fun x4 => (md_runOf_L16 N (fun q6 x7 x8 x9 x10 => (if ((¬ ((mt_max (q6 9 0) (q6 9 1)) = 0)) → (¬ ((md_pulledBy_r q6 x8) = 0)) → ¬ (md_pulledBy_r q6 x8) = 0) then (ky_let (md_pullsBy_r q6 x8 60) (fun x12 => (if x12 ≤ (60 : Int32) then (some (q6, (((q6 1 7) + x7) + (2 * x12)))) else (some (q6, (-1)))))) else none)) N q2 p1 p2 x4 0))) else none)))
set_option maxRecDepth 20000 in
set_option maxHeartbeats 4000000 in
theorem k_X12_runOf {G : ky_GW} {d : Nat} {h : ky_HP} {Q : ky_RS → ky_HP → Prop} {a : Nat} {c c9 : (Nat → Nat → Int32)} {r9 : Int32} {p1 : Int32} {p2 : Int32} (N : Nat) (hm : md_at G h a c) (e : md_runOf N c p1 p2 = some (c9, r9)) (hr : ∀ h1, md_at G h1 a c9 → bk_fr a 13 h h1 → Q (.inl (some (.int r9))) h1) : ky_Call G (d + 4) M_X12_runOf [.ref a, .int p1, .int p2] h Q := by
  refine ky_ofV (by decide +kernel) rfl ok_X12_runOf (Nat.le_of_ble_eq_true rfl) ?_
  have fr : bk_fr a 13 h h := bk_fr.rf
  unfold md_runOf at e
  refine (?_ : ky_V _ _ _ 0 [(0, .ref a), (1, .int p1), (2, .int p2)] [] _ _)
  refine v_aload_n (i := 0) (j := 0) rfl rfl (?_ : ky_V _ _ _ 1 _ _ _ _)
  refine cl_X12_285 (As := []) rfl (i := 1) rfl (md_0 hm) rfl rfl (Nat.le_of_ble_eq_true rfl) (k_X12_looks hm (fun h1 hmh1 frh1 => ⟨_, rfl, (?_ : ky_V _ _ _ 4 _ [] _ _)⟩))
  have frh1 := fr.tr frh1
  obtain ⟨q2, eq2⟩ : ∃ z, z = (md_looks_c c) := ⟨_, rfl⟩
  rw [← eq2] at hmh1
  replace e := ky_letE eq2 e
  refine v_iload_n (i := 2) (j := 1) rfl rfl (?_ : ky_V _ _ _ 5 _ _ _ _)
  refine v_aload_n (i := 3) (j := 0) rfl rfl (?_ : ky_V _ _ _ 6 _ _ _ _)
  refine v_iconst (v := 5) (i := 4) rfl (by decide) (?_ : ky_V _ _ _ 7 _ _ _ _)
  refine v_iconst (v := 3) (i := 5) rfl (by decide) (?_ : ky_V _ _ _ 8 _ _ _ _)
  refine cl_X12_266 (As := [.int 5, .int 3]) rfl (i := 6) rfl (md_0 hmh1) rfl rfl (Nat.le_of_ble_eq_true rfl) (k_X12_ofMove 5 3 hmh1 (ky_inl (by decide)) ⟨_, rfl, (?_ : ky_V _ _ _ 11 _ [.int ((md_ofMove_r q2 5 3)), .int p1] _ _)⟩)
  obtain ⟨z3, e⟩ := ky_chkE e
  refine v_idiv (i := 7) rfl z3 (?_ : ky_V _ _ _ 12 _ _ _ _)
  refine v_topi (fun x4 ex4 => ?_)
  replace e := ky_letE ex4 e
  refine v_istore_n (L' := [(0, .ref a), (1, .int p1), (2, .int p2), (3, .int x4)]) [1, 2, 3, 0] (i := 8) rfl (Nat.le_of_ble_eq_true rfl) rfl (?_ : ky_V _ _ _ 13 _ _ _ _)
  refine v_iconst (v := 0) (i := 9) rfl (by decide) (?_ : ky_V _ _ _ 14 _ _ _ _)
  refine v_istore (L' := [(0, .ref a), (1, .int p1), (2, .int p2), (3, .int x4), (4, .int 0)]) [1, 2, 3, 4, 0] (i := 10) rfl (Nat.le_of_ble_eq_true rfl) rfl (?_ : ky_V _ _ _ 16 _ _ _ _)
  refine lv_X12_runOf_16 N _ hr (fun h5 q6 x7 x8 x9 x10 hmh5 frh5 e => ?_) N h1 q2 p1 p2 x4 0 hmh1 frh1 e
  refine v_aload_n (i := 38) (j := 0) rfl rfl (?_ : ky_V _ _ _ 66 _ _ _ _)
  refine v_iload_n (i := 39) (j := 2) rfl rfl (?_ : ky_V _ _ _ 67 _ _ _ _)
  refine v_bipush (v := 60) (i := 40) rfl (by decide) (?_ : ky_V _ _ _ 69 _ _ _ _)
  obtain ⟨z11, e⟩ := ky_chkE e
  refine cl_X12_345 (As := [.int x8, .int 60]) rfl (i := 41) rfl (md_0 hmh5) rfl rfl (Nat.le_of_ble_eq_true rfl) (k_X12_pullsBy x8 60 hmh5 z11 ⟨_, rfl, (?_ : ky_V _ _ _ 72 _ [.int ((md_pullsBy_r q6 x8 60))] _ _)⟩)
  refine v_topi (fun x12 ex12 => ?_)
  replace e := ky_letE ex12 e
  refine v_istore (L' := [(0, .ref a), (1, .int x7), (2, .int x8), (3, .int x9), (4, .int x12)]) [1, 2, 3, 4, 0] (i := 42) rfl (Nat.le_of_ble_eq_true rfl) rfl (?_ : ky_V _ _ _ 74 _ _ _ _)
  refine v_iload (i := 43) (j := 4) rfl rfl (?_ : ky_V _ _ _ 76 _ _ _ _)
  refine v_bipush (v := 60) (i := 44) rfl (by decide) (?_ : ky_V _ _ _ 78 _ _ _ _)
  refine v_icmp_le (tgt := 85) (i := 45) rfl (by decide) (fun c13 => ?_) (fun c13 => ?_)
  · replace e := ky_ifT c13 e
    refine v_aload_n (i := 48) (j := 0) rfl rfl (?_ : ky_V _ _ _ 86 _ _ _ _)
    refine gf_X12_13 rfl (i := 49) rfl (md_0 hmh5) rfl (?_ : ky_V _ _ _ 89 _ _ _ _)
    refine v_bipush (v := 7) (i := 50) rfl (by decide) (?_ : ky_V _ _ _ 91 _ _ _ _)
    refine v_iald (i := 51) rfl (md_1 hmh5) (ky_inl (by decide)) (?_ : ky_V _ _ _ 92 _ (.int (q6 1 7) :: _) _ _)
    refine v_iload_n (i := 52) (j := 1) rfl rfl (?_ : ky_V _ _ _ 93 _ _ _ _)
    refine v_iadd (i := 53) rfl (?_ : ky_V _ _ _ 94 _ _ _ _)
    refine v_iconst (v := 2) (i := 54) rfl (by decide) (?_ : ky_V _ _ _ 95 _ _ _ _)
    refine v_iload (i := 55) (j := 4) rfl rfl (?_ : ky_V _ _ _ 97 _ _ _ _)
    refine v_imul (i := 56) rfl (?_ : ky_V _ _ _ 98 _ _ _ _)
    refine v_iadd (i := 57) rfl (?_ : ky_V _ _ _ 99 _ _ _ _)
    refine v_iret (v := (((q6 1 7) + x7) + (2 * x12))) (ty := .int) (i := 58) rfl rfl rfl ?_
    obtain ⟨rfl, rfl⟩ := ky_leaf e
    exact hr _ hmh5 frh5
  · replace e := ky_ifF c13 e
    refine v_iconst (v := (-1)) (i := 46) rfl (by decide) (?_ : ky_V _ _ _ 82 _ _ _ _)
    refine v_goto (tgt := 99) (i := 47) rfl (by decide) (?_ : ky_V _ _ _ 99 _ _ _ _)
    refine v_iret (v := (-1)) (ty := .int) (i := 58) rfl rfl rfl ?_
    obtain ⟨rfl, rfl⟩ := ky_leaf e
    exact hr _ hmh5 frh5

def md_makes (N : Nat) (c : (Nat → Nat → Int32)) (p1 : Int32) (p2 : Int32) : Option ((Nat → Nat → Int32) × Int32) := (ky_let (c 1 7) (fun x1 => (ky_let (md_looks_c c) (fun q3 => ((md_movesBy N q3 p1 p2).bind (fun zz => (fun q5 x6 => (ky_let (md_draw_r q5 100) (fun x10 => (ky_let (md_draw_c q5 100) (fun q9 => (if (q9 1 9) ≤ x10 then (if (0 : Int32) = 0 then (ky_let (md_isNow_c q9) (fun q14 => (if ky_inB ((17 + (4 * p1)) + 3) 2247 = true then (ky_let (md_goesBy_c q14 (md_ofMove_r q14 p1 3)) (fun q17 => (if (md_isOfNone p1) = 0 then ((md_tells N q17 x1 p1 p2).bind (fun zz => (fun q20 x21 => (some (q20, 0))) zz.1 zz.2)) else ((md_tells N q17 x1 p1 2).bind (fun zz => (fun q24 x25 => (some (q24, 0))) zz.1 zz.2))))) else none))) else (if (md_isOutNow_r q9) = 0 then (ky_let (md_deeper (q9 9 0) 1) (fun x42 => (ky_let (bk_w q9 9 0 x42) (fun q44 => (ky_let (md_deeper (q44 9 1) 1) (fun x45 => (ky_let (bk_w q44 9 1 x45) (fun q47 => (ky_let (md_isNow_c q47) (fun q49 => (if ky_inB ((17 + (4 * p1)) + 3) 2247 = true then (ky_let (md_goesBy_c q49 (md_ofMove_r q49 p1 3)) (fun q52 => (if (md_isOfNone p1) = 0 then ((md_tells N q52 x1 p1 p2).bind (fun zz => (fun q55 x56 => (some (q55, 0))) zz.1 zz.2)) else ((md_tells N q52 x1 p1 2).bind (fun zz => (fun q59 x60 => (some (q59, 0))) zz.1 zz.2))))) else none))))))))))) else (ky_let (md_isNow_c q9) (fun q29 => (if ky_inB ((17 + (4 * p1)) + 3) 2247 = true then (ky_let (md_goesBy_c q29 (md_ofMove_r q29 p1 3)) (fun q32 => (if (md_isOfNone p1) = 0 then ((md_tells N q32 x1 p1 p2).bind (fun zz => (fun q35 x36 => (some (q35, 0))) zz.1 zz.2)) else ((md_tells N q32 x1 p1 2).bind (fun zz => (fun q39 x40 => (some (q39, 0))) zz.1 zz.2))))) else none))))) else (if (1 : Int32) = 0 then (ky_let (md_isNow_c q9) (fun q64 => (if ky_inB ((17 + (4 * p1)) + 3) 2247 = true then (ky_let (md_goesBy_c q64 (md_ofMove_r q64 p1 3)) (fun q67 => (if (md_isOfNone p1) = 0 then ((md_tells N q67 x1 p1 p2).bind (fun zz => (fun q70 x71 => (some (q70, 0))) zz.1 zz.2)) else ((md_tells N q67 x1 p1 2).bind (fun zz => (fun q74 x75 => (some (q74, 0))) zz.1 zz.2))))) else none))) else (if (md_isOutNow_r q9) = 0 then (ky_let (md_deeper (q9 9 0) 1) (fun x92 => (ky_let (bk_w q9 9 0 x92) (fun q94 => (ky_let (md_deeper (q94 9 1) 1) (fun x95 => (ky_let (bk_w q94 9 1 x95) (fun q97 => (ky_let (md_isNow_c q97) (fun q99 => (if ky_inB ((17 + (4 * p1)) + 3) 2247 = true then (ky_let (md_goesBy_c q99 (md_ofMove_r q99 p1 3)) (fun q102 => (if (md_isOfNone p1) = 0 then ((md_tells N q102 x1 p1 p2).bind (fun zz => (fun q105 x106 => (some (q105, 0))) zz.1 zz.2)) else ((md_tells N q102 x1 p1 2).bind (fun zz => (fun q109 x110 => (some (q109, 0))) zz.1 zz.2))))) else none))))))))))) else (ky_let (md_isNow_c q9) (fun q79 => (if ky_inB ((17 + (4 * p1)) + 3) 2247 = true then (ky_let (md_goesBy_c q79 (md_ofMove_r q79 p1 3)) (fun q82 => (if (md_isOfNone p1) = 0 then ((md_tells N q82 x1 p1 p2).bind (fun zz => (fun q85 x86 => (some (q85, 0))) zz.1 zz.2)) else ((md_tells N q82 x1 p1 2).bind (fun zz => (fun q89 x90 => (some (q89, 0))) zz.1 zz.2))))) else none))))))))))) zz.1 zz.2))))))
set_option maxRecDepth 20000 in
set_option maxHeartbeats 4000000 in
theorem k_X12_makes {G : ky_GW} {d : Nat} {h : ky_HP} {Q : ky_RS → ky_HP → Prop} {a : Nat} {c c9 : (Nat → Nat → Int32)} {r9 : Int32} {p1 : Int32} {p2 : Int32} (N : Nat) (hm : md_at G h a c) (e : md_makes N c p1 p2 = some (c9, r9)) (hr : ∀ h1, md_at G h1 a c9 → bk_fr a 13 h h1 → Q (.inl none) h1) : ky_Call G (d + 4) M_X12_makes [.ref a, .int p1, .int p2] h Q := by
  refine ky_ofV (by decide +kernel) rfl ok_X12_makes (Nat.le_of_ble_eq_true rfl) ?_
  have fr : bk_fr a 13 h h := bk_fr.rf
  unfold md_makes at e
  refine (?_ : ky_V _ _ _ 0 [(0, .ref a), (1, .int p1), (2, .int p2)] [] _ _)
  refine v_aload_n (i := 0) (j := 0) rfl rfl (?_ : ky_V _ _ _ 1 _ _ _ _)
  refine gf_X12_13 rfl (i := 1) rfl (md_0 hm) rfl (?_ : ky_V _ _ _ 4 _ _ _ _)
  refine v_bipush (v := 7) (i := 2) rfl (by decide) (?_ : ky_V _ _ _ 6 _ _ _ _)
  refine v_iald (i := 3) rfl (md_1 hm) (ky_inl (by decide)) (?_ : ky_V _ _ _ 7 _ (.int (c 1 7) :: _) _ _)
  refine v_topi (fun x1 ex1 => ?_)
  replace e := ky_letE ex1 e
  refine v_istore_n (L' := [(0, .ref a), (1, .int p1), (2, .int p2), (3, .int x1)]) [1, 2, 3, 0] (i := 4) rfl (Nat.le_of_ble_eq_true rfl) rfl (?_ : ky_V _ _ _ 8 _ _ _ _)
  refine v_aload_n (i := 5) (j := 0) rfl rfl (?_ : ky_V _ _ _ 9 _ _ _ _)
  refine cl_X12_285 (As := []) rfl (i := 6) rfl (md_0 hm) rfl rfl (Nat.le_of_ble_eq_true rfl) (k_X12_looks hm (fun h2 hmh2 frh2 => ⟨_, rfl, (?_ : ky_V _ _ _ 12 _ [] _ _)⟩))
  have frh2 := fr.tr frh2
  obtain ⟨q3, eq3⟩ : ∃ z, z = (md_looks_c c) := ⟨_, rfl⟩
  rw [← eq3] at hmh2
  replace e := ky_letE eq3 e
  refine v_aload_n (i := 7) (j := 0) rfl rfl (?_ : ky_V _ _ _ 13 _ _ _ _)
  refine v_iload_n (i := 8) (j := 1) rfl rfl (?_ : ky_V _ _ _ 14 _ _ _ _)
  refine v_iload_n (i := 9) (j := 2) rfl rfl (?_ : ky_V _ _ _ 15 _ _ _ _)
  obtain ⟨⟨q5, x6⟩, g7, e⟩ := Option.bind_eq_some_iff.mp e
  refine cl_X12_288 (As := [.int p1, .int p2]) rfl (i := 10) rfl (md_0 hmh2) rfl rfl (Nat.le_of_ble_eq_true rfl) (k_X12_movesBy N hmh2 g7 (fun h4 hmh4 frh4 => ⟨_, rfl, (?_ : ky_V _ _ _ 18 _ [] _ _)⟩))
  have frh4 := frh2.tr frh4
  refine v_aload_n (i := 11) (j := 0) rfl rfl (?_ : ky_V _ _ _ 19 _ _ _ _)
  refine v_bipush (v := 100) (i := 12) rfl (by decide) (?_ : ky_V _ _ _ 21 _ _ _ _)
  refine cl_X12_354 (As := [.int 100]) rfl (i := 13) rfl (md_0 hmh4) rfl rfl (Nat.le_of_ble_eq_true rfl) (k_X12_draw 100 hmh4 (by decide) (fun h8 hmh8 frh8 => ⟨_, rfl, (?_ : ky_V _ _ _ 24 _ [.int ((md_draw_r q5 100))] _ _)⟩))
  have frh8 := frh4.tr frh8
  refine v_topi (fun x10 ex10 => ?_)
  replace e := ky_letE ex10 e
  obtain ⟨q9, eq9⟩ : ∃ z, z = (md_draw_c q5 100) := ⟨_, rfl⟩
  rw [← eq9] at hmh8
  replace e := ky_letE eq9 e
  refine v_aload_n (i := 14) (j := 0) rfl rfl (?_ : ky_V _ _ _ 25 _ _ _ _)
  refine gf_X12_13 rfl (i := 15) rfl (md_0 hmh8) rfl (?_ : ky_V _ _ _ 28 _ _ _ _)
  refine v_bipush (v := 9) (i := 16) rfl (by decide) (?_ : ky_V _ _ _ 30 _ _ _ _)
  refine v_iald (i := 17) rfl (md_1 hmh8) (ky_inl (by decide)) (?_ : ky_V _ _ _ 31 _ (.int (q9 1 9) :: _) _ _)
  refine v_icmp_ge (tgt := 38) (i := 18) rfl (by decide) (fun c11 => ?_) (fun c11 => ?_)
  · replace e := ky_ifT c11 e
    refine v_iconst (v := 0) (i := 21) rfl (by decide) (?_ : ky_V _ _ _ 39 _ _ _ _)
    refine v_istore (L' := [(0, .ref a), (1, .int p1), (2, .int p2), (3, .int x1), (4, .int 0)]) [1, 2, 3, 4, 0] (i := 22) rfl (Nat.le_of_ble_eq_true rfl) rfl (?_ : ky_V _ _ _ 41 _ _ _ _)
    refine v_iload (i := 23) (j := 4) rfl rfl (?_ : ky_V _ _ _ 43 _ _ _ _)
    refine v_if_eq (tgt := 85) (i := 24) rfl (by decide) (fun c12 => ?_) (fun c12 => ?_)
    · replace e := ky_ifT c12 e
      refine v_aload_n (i := 48) (j := 0) rfl rfl (?_ : ky_V _ _ _ 86 _ _ _ _)
      refine cl_X12_357 (As := []) rfl (i := 49) rfl (md_0 hmh8) rfl rfl (Nat.le_of_ble_eq_true rfl) (k_X12_isNow hmh8 (fun h13 hmh13 frh13 => ⟨_, rfl, (?_ : ky_V _ _ _ 89 _ [] _ _)⟩))
      have frh13 := frh8.tr frh13
      obtain ⟨q14, eq14⟩ : ∃ z, z = (md_isNow_c q9) := ⟨_, rfl⟩
      rw [← eq14] at hmh13
      replace e := ky_letE eq14 e
      refine v_aload_n (i := 50) (j := 0) rfl rfl (?_ : ky_V _ _ _ 90 _ _ _ _)
      refine v_aload_n (i := 51) (j := 0) rfl rfl (?_ : ky_V _ _ _ 91 _ _ _ _)
      refine v_iload_n (i := 52) (j := 1) rfl rfl (?_ : ky_V _ _ _ 92 _ _ _ _)
      refine v_iconst (v := 3) (i := 53) rfl (by decide) (?_ : ky_V _ _ _ 93 _ _ _ _)
      obtain ⟨z15, e⟩ := ky_chkE e
      refine cl_X12_266 (As := [.int p1, .int 3]) rfl (i := 54) rfl (md_0 hmh13) rfl rfl (Nat.le_of_ble_eq_true rfl) (k_X12_ofMove p1 3 hmh13 (ky_inb z15) ⟨_, rfl, (?_ : ky_V _ _ _ 96 _ [.int ((md_ofMove_r q14 p1 3)), .ref a] _ _)⟩)
      refine cl_X12_360 (As := [.int ((md_ofMove_r q14 p1 3))]) rfl (i := 55) rfl (md_0 hmh13) rfl rfl (Nat.le_of_ble_eq_true rfl) (k_X12_goesBy (md_ofMove_r q14 p1 3) hmh13 (fun h16 hmh16 frh16 => ⟨_, rfl, (?_ : ky_V _ _ _ 99 _ [] _ _)⟩))
      have frh16 := frh13.tr frh16
      obtain ⟨q17, eq17⟩ : ∃ z, z = (md_goesBy_c q14 (md_ofMove_r q14 p1 3)) := ⟨_, rfl⟩
      rw [← eq17] at hmh16
      replace e := ky_letE eq17 e
      refine v_aload_n (i := 56) (j := 0) rfl rfl (?_ : ky_V _ _ _ 100 _ _ _ _)
      refine v_iload_n (i := 57) (j := 3) rfl rfl (?_ : ky_V _ _ _ 101 _ _ _ _)
      refine v_iload_n (i := 58) (j := 1) rfl rfl (?_ : ky_V _ _ _ 102 _ _ _ _)
      refine v_iload_n (i := 59) (j := 1) rfl rfl (?_ : ky_V _ _ _ 103 _ _ _ _)
      refine cl_X12_263 (As := [.int p1]) rfl (i := 60) rfl rfl rfl (Nat.le_of_ble_eq_true rfl) (k_X12_isOfNone p1 ⟨_, rfl, (?_ : ky_V _ _ _ 106 _ [.int ((md_isOfNone p1)), .int p1, .int x1, .ref a] _ _)⟩)
      refine v_if_eq (tgt := 113) (i := 61) rfl (by decide) (fun c18 => ?_) (fun c18 => ?_)
      · replace e := ky_ifT c18 e
        refine v_iload_n (i := 64) (j := 2) rfl rfl (?_ : ky_V _ _ _ 114 _ _ _ _)
        obtain ⟨⟨q20, x21⟩, g22, e⟩ := Option.bind_eq_some_iff.mp e
        refine cl_X12_363 (As := [.int x1, .int p1, .int p2]) rfl (i := 65) rfl (md_0 hmh16) rfl rfl (Nat.le_of_ble_eq_true rfl) (k_X12_tells N hmh16 g22 (fun h19 hmh19 frh19 => ⟨_, rfl, (?_ : ky_V _ _ _ 117 _ [] _ _)⟩))
        have frh19 := frh16.tr frh19
        refine v_vret (i := 66) rfl rfl ?_
        obtain ⟨rfl, rfl⟩ := ky_leaf e
        exact hr _ hmh19 frh19
      · replace e := ky_ifF c18 e
        refine v_iconst (v := 2) (i := 62) rfl (by decide) (?_ : ky_V _ _ _ 110 _ _ _ _)
        refine v_goto (tgt := 114) (i := 63) rfl (by decide) (?_ : ky_V _ _ _ 114 _ _ _ _)
        obtain ⟨⟨q24, x25⟩, g26, e⟩ := Option.bind_eq_some_iff.mp e
        refine cl_X12_363 (As := [.int x1, .int p1, .int 2]) rfl (i := 65) rfl (md_0 hmh16) rfl rfl (Nat.le_of_ble_eq_true rfl) (k_X12_tells N hmh16 g26 (fun h23 hmh23 frh23 => ⟨_, rfl, (?_ : ky_V _ _ _ 117 _ [] _ _)⟩))
        have frh23 := frh16.tr frh23
        refine v_vret (i := 66) rfl rfl ?_
        obtain ⟨rfl, rfl⟩ := ky_leaf e
        exact hr _ hmh23 frh23
    · replace e := ky_ifF c12 e
      refine v_aload_n (i := 25) (j := 0) rfl rfl (?_ : ky_V _ _ _ 47 _ _ _ _)
      refine cl_X12_342 (As := []) rfl (i := 26) rfl (md_0 hmh8) rfl rfl (Nat.le_of_ble_eq_true rfl) (k_X12_isOutNow hmh8 ⟨_, rfl, (?_ : ky_V _ _ _ 50 _ [.int ((md_isOutNow_r q9))] _ _)⟩)
      refine v_if_ne (tgt := 85) (i := 27) rfl (by decide) (fun c27 => ?_) (fun c27 => ?_)
      · replace e := ky_ifF c27 e
        refine v_aload_n (i := 48) (j := 0) rfl rfl (?_ : ky_V _ _ _ 86 _ _ _ _)
        refine cl_X12_357 (As := []) rfl (i := 49) rfl (md_0 hmh8) rfl rfl (Nat.le_of_ble_eq_true rfl) (k_X12_isNow hmh8 (fun h28 hmh28 frh28 => ⟨_, rfl, (?_ : ky_V _ _ _ 89 _ [] _ _)⟩))
        have frh28 := frh8.tr frh28
        obtain ⟨q29, eq29⟩ : ∃ z, z = (md_isNow_c q9) := ⟨_, rfl⟩
        rw [← eq29] at hmh28
        replace e := ky_letE eq29 e
        refine v_aload_n (i := 50) (j := 0) rfl rfl (?_ : ky_V _ _ _ 90 _ _ _ _)
        refine v_aload_n (i := 51) (j := 0) rfl rfl (?_ : ky_V _ _ _ 91 _ _ _ _)
        refine v_iload_n (i := 52) (j := 1) rfl rfl (?_ : ky_V _ _ _ 92 _ _ _ _)
        refine v_iconst (v := 3) (i := 53) rfl (by decide) (?_ : ky_V _ _ _ 93 _ _ _ _)
        obtain ⟨z30, e⟩ := ky_chkE e
        refine cl_X12_266 (As := [.int p1, .int 3]) rfl (i := 54) rfl (md_0 hmh28) rfl rfl (Nat.le_of_ble_eq_true rfl) (k_X12_ofMove p1 3 hmh28 (ky_inb z30) ⟨_, rfl, (?_ : ky_V _ _ _ 96 _ [.int ((md_ofMove_r q29 p1 3)), .ref a] _ _)⟩)
        refine cl_X12_360 (As := [.int ((md_ofMove_r q29 p1 3))]) rfl (i := 55) rfl (md_0 hmh28) rfl rfl (Nat.le_of_ble_eq_true rfl) (k_X12_goesBy (md_ofMove_r q29 p1 3) hmh28 (fun h31 hmh31 frh31 => ⟨_, rfl, (?_ : ky_V _ _ _ 99 _ [] _ _)⟩))
        have frh31 := frh28.tr frh31
        obtain ⟨q32, eq32⟩ : ∃ z, z = (md_goesBy_c q29 (md_ofMove_r q29 p1 3)) := ⟨_, rfl⟩
        rw [← eq32] at hmh31
        replace e := ky_letE eq32 e
        refine v_aload_n (i := 56) (j := 0) rfl rfl (?_ : ky_V _ _ _ 100 _ _ _ _)
        refine v_iload_n (i := 57) (j := 3) rfl rfl (?_ : ky_V _ _ _ 101 _ _ _ _)
        refine v_iload_n (i := 58) (j := 1) rfl rfl (?_ : ky_V _ _ _ 102 _ _ _ _)
        refine v_iload_n (i := 59) (j := 1) rfl rfl (?_ : ky_V _ _ _ 103 _ _ _ _)
        refine cl_X12_263 (As := [.int p1]) rfl (i := 60) rfl rfl rfl (Nat.le_of_ble_eq_true rfl) (k_X12_isOfNone p1 ⟨_, rfl, (?_ : ky_V _ _ _ 106 _ [.int ((md_isOfNone p1)), .int p1, .int x1, .ref a] _ _)⟩)
        refine v_if_eq (tgt := 113) (i := 61) rfl (by decide) (fun c33 => ?_) (fun c33 => ?_)
        · replace e := ky_ifT c33 e
          refine v_iload_n (i := 64) (j := 2) rfl rfl (?_ : ky_V _ _ _ 114 _ _ _ _)
          obtain ⟨⟨q35, x36⟩, g37, e⟩ := Option.bind_eq_some_iff.mp e
          refine cl_X12_363 (As := [.int x1, .int p1, .int p2]) rfl (i := 65) rfl (md_0 hmh31) rfl rfl (Nat.le_of_ble_eq_true rfl) (k_X12_tells N hmh31 g37 (fun h34 hmh34 frh34 => ⟨_, rfl, (?_ : ky_V _ _ _ 117 _ [] _ _)⟩))
          have frh34 := frh31.tr frh34
          refine v_vret (i := 66) rfl rfl ?_
          obtain ⟨rfl, rfl⟩ := ky_leaf e
          exact hr _ hmh34 frh34
        · replace e := ky_ifF c33 e
          refine v_iconst (v := 2) (i := 62) rfl (by decide) (?_ : ky_V _ _ _ 110 _ _ _ _)
          refine v_goto (tgt := 114) (i := 63) rfl (by decide) (?_ : ky_V _ _ _ 114 _ _ _ _)
          obtain ⟨⟨q39, x40⟩, g41, e⟩ := Option.bind_eq_some_iff.mp e
          refine cl_X12_363 (As := [.int x1, .int p1, .int 2]) rfl (i := 65) rfl (md_0 hmh31) rfl rfl (Nat.le_of_ble_eq_true rfl) (k_X12_tells N hmh31 g41 (fun h38 hmh38 frh38 => ⟨_, rfl, (?_ : ky_V _ _ _ 117 _ [] _ _)⟩))
          have frh38 := frh31.tr frh38
          refine v_vret (i := 66) rfl rfl ?_
          obtain ⟨rfl, rfl⟩ := ky_leaf e
          exact hr _ hmh38 frh38
      · replace e := ky_ifT c27 e
        refine v_aload_n (i := 28) (j := 0) rfl rfl (?_ : ky_V _ _ _ 54 _ _ _ _)
        refine gf_X12_42 rfl (i := 29) rfl (md_0 hmh8) rfl (?_ : ky_V _ _ _ 57 _ _ _ _)
        refine v_iconst (v := 0) (i := 30) rfl (by decide) (?_ : ky_V _ _ _ 58 _ _ _ _)
        refine v_aload_n (i := 31) (j := 0) rfl rfl (?_ : ky_V _ _ _ 59 _ _ _ _)
        refine gf_X12_42 rfl (i := 32) rfl (md_0 hmh8) rfl (?_ : ky_V _ _ _ 62 _ _ _ _)
        refine v_iconst (v := 0) (i := 33) rfl (by decide) (?_ : ky_V _ _ _ 63 _ _ _ _)
        refine v_iald (i := 34) rfl (md_9 hmh8) (ky_inl (by decide)) (?_ : ky_V _ _ _ 64 _ (.int (q9 9 0) :: _) _ _)
        refine v_iconst (v := 1) (i := 35) rfl (by decide) (?_ : ky_V _ _ _ 65 _ _ _ _)
        refine cl_X12_276 (As := [.int ((q9 9 0)), .int 1]) rfl (i := 36) rfl rfl rfl (Nat.le_of_ble_eq_true rfl) (k_X12_deeper (q9 9 0) 1 ⟨_, rfl, (?_ : ky_V _ _ _ 68 _ [.int ((md_deeper (q9 9 0) 1)), .int 0, .ref ((a + 9))] _ _)⟩)
        refine v_topi (fun x42 ex42 => ?_)
        replace e := ky_letE ex42 e
        refine v_iast (i := 37) rfl (md_9 hmh8) (ky_inl (by decide)) ?_
        refine bk_st (B := md_B G a) hmh8 frh8 9 0 x42 (by decide) (fun h43 hmh43 frh43 => ?_)
        obtain ⟨q44, eq44⟩ : ∃ z, z = (bk_w q9 9 0 x42) := ⟨_, rfl⟩
        rw [← eq44] at hmh43
        replace e := ky_letE eq44 e
        refine (?_ : ky_V _ _ _ 69 _ _ _ _)
        refine v_aload_n (i := 38) (j := 0) rfl rfl (?_ : ky_V _ _ _ 70 _ _ _ _)
        refine gf_X12_42 rfl (i := 39) rfl (md_0 hmh43) rfl (?_ : ky_V _ _ _ 73 _ _ _ _)
        refine v_iconst (v := 1) (i := 40) rfl (by decide) (?_ : ky_V _ _ _ 74 _ _ _ _)
        refine v_aload_n (i := 41) (j := 0) rfl rfl (?_ : ky_V _ _ _ 75 _ _ _ _)
        refine gf_X12_42 rfl (i := 42) rfl (md_0 hmh43) rfl (?_ : ky_V _ _ _ 78 _ _ _ _)
        refine v_iconst (v := 1) (i := 43) rfl (by decide) (?_ : ky_V _ _ _ 79 _ _ _ _)
        refine v_iald (i := 44) rfl (md_9 hmh43) (ky_inl (by decide)) (?_ : ky_V _ _ _ 80 _ (.int (q44 9 1) :: _) _ _)
        refine v_iconst (v := 1) (i := 45) rfl (by decide) (?_ : ky_V _ _ _ 81 _ _ _ _)
        refine cl_X12_276 (As := [.int ((q44 9 1)), .int 1]) rfl (i := 46) rfl rfl rfl (Nat.le_of_ble_eq_true rfl) (k_X12_deeper (q44 9 1) 1 ⟨_, rfl, (?_ : ky_V _ _ _ 84 _ [.int ((md_deeper (q44 9 1) 1)), .int 1, .ref ((a + 9))] _ _)⟩)
        refine v_topi (fun x45 ex45 => ?_)
        replace e := ky_letE ex45 e
        refine v_iast (i := 47) rfl (md_9 hmh43) (ky_inl (by decide)) ?_
        refine bk_st (B := md_B G a) hmh43 frh43 9 1 x45 (by decide) (fun h46 hmh46 frh46 => ?_)
        obtain ⟨q47, eq47⟩ : ∃ z, z = (bk_w q44 9 1 x45) := ⟨_, rfl⟩
        rw [← eq47] at hmh46
        replace e := ky_letE eq47 e
        refine (?_ : ky_V _ _ _ 85 _ _ _ _)
        refine v_aload_n (i := 48) (j := 0) rfl rfl (?_ : ky_V _ _ _ 86 _ _ _ _)
        refine cl_X12_357 (As := []) rfl (i := 49) rfl (md_0 hmh46) rfl rfl (Nat.le_of_ble_eq_true rfl) (k_X12_isNow hmh46 (fun h48 hmh48 frh48 => ⟨_, rfl, (?_ : ky_V _ _ _ 89 _ [] _ _)⟩))
        have frh48 := frh46.tr frh48
        obtain ⟨q49, eq49⟩ : ∃ z, z = (md_isNow_c q47) := ⟨_, rfl⟩
        rw [← eq49] at hmh48
        replace e := ky_letE eq49 e
        refine v_aload_n (i := 50) (j := 0) rfl rfl (?_ : ky_V _ _ _ 90 _ _ _ _)
        refine v_aload_n (i := 51) (j := 0) rfl rfl (?_ : ky_V _ _ _ 91 _ _ _ _)
        refine v_iload_n (i := 52) (j := 1) rfl rfl (?_ : ky_V _ _ _ 92 _ _ _ _)
        refine v_iconst (v := 3) (i := 53) rfl (by decide) (?_ : ky_V _ _ _ 93 _ _ _ _)
        obtain ⟨z50, e⟩ := ky_chkE e
        refine cl_X12_266 (As := [.int p1, .int 3]) rfl (i := 54) rfl (md_0 hmh48) rfl rfl (Nat.le_of_ble_eq_true rfl) (k_X12_ofMove p1 3 hmh48 (ky_inb z50) ⟨_, rfl, (?_ : ky_V _ _ _ 96 _ [.int ((md_ofMove_r q49 p1 3)), .ref a] _ _)⟩)
        refine cl_X12_360 (As := [.int ((md_ofMove_r q49 p1 3))]) rfl (i := 55) rfl (md_0 hmh48) rfl rfl (Nat.le_of_ble_eq_true rfl) (k_X12_goesBy (md_ofMove_r q49 p1 3) hmh48 (fun h51 hmh51 frh51 => ⟨_, rfl, (?_ : ky_V _ _ _ 99 _ [] _ _)⟩))
        have frh51 := frh48.tr frh51
        obtain ⟨q52, eq52⟩ : ∃ z, z = (md_goesBy_c q49 (md_ofMove_r q49 p1 3)) := ⟨_, rfl⟩
        rw [← eq52] at hmh51
        replace e := ky_letE eq52 e
        refine v_aload_n (i := 56) (j := 0) rfl rfl (?_ : ky_V _ _ _ 100 _ _ _ _)
        refine v_iload_n (i := 57) (j := 3) rfl rfl (?_ : ky_V _ _ _ 101 _ _ _ _)
        refine v_iload_n (i := 58) (j := 1) rfl rfl (?_ : ky_V _ _ _ 102 _ _ _ _)
        refine v_iload_n (i := 59) (j := 1) rfl rfl (?_ : ky_V _ _ _ 103 _ _ _ _)
        refine cl_X12_263 (As := [.int p1]) rfl (i := 60) rfl rfl rfl (Nat.le_of_ble_eq_true rfl) (k_X12_isOfNone p1 ⟨_, rfl, (?_ : ky_V _ _ _ 106 _ [.int ((md_isOfNone p1)), .int p1, .int x1, .ref a] _ _)⟩)
        refine v_if_eq (tgt := 113) (i := 61) rfl (by decide) (fun c53 => ?_) (fun c53 => ?_)
        · replace e := ky_ifT c53 e
          refine v_iload_n (i := 64) (j := 2) rfl rfl (?_ : ky_V _ _ _ 114 _ _ _ _)
          obtain ⟨⟨q55, x56⟩, g57, e⟩ := Option.bind_eq_some_iff.mp e
          refine cl_X12_363 (As := [.int x1, .int p1, .int p2]) rfl (i := 65) rfl (md_0 hmh51) rfl rfl (Nat.le_of_ble_eq_true rfl) (k_X12_tells N hmh51 g57 (fun h54 hmh54 frh54 => ⟨_, rfl, (?_ : ky_V _ _ _ 117 _ [] _ _)⟩))
          have frh54 := frh51.tr frh54
          refine v_vret (i := 66) rfl rfl ?_
          obtain ⟨rfl, rfl⟩ := ky_leaf e
          exact hr _ hmh54 frh54
        · replace e := ky_ifF c53 e
          refine v_iconst (v := 2) (i := 62) rfl (by decide) (?_ : ky_V _ _ _ 110 _ _ _ _)
          refine v_goto (tgt := 114) (i := 63) rfl (by decide) (?_ : ky_V _ _ _ 114 _ _ _ _)
          obtain ⟨⟨q59, x60⟩, g61, e⟩ := Option.bind_eq_some_iff.mp e
          refine cl_X12_363 (As := [.int x1, .int p1, .int 2]) rfl (i := 65) rfl (md_0 hmh51) rfl rfl (Nat.le_of_ble_eq_true rfl) (k_X12_tells N hmh51 g61 (fun h58 hmh58 frh58 => ⟨_, rfl, (?_ : ky_V _ _ _ 117 _ [] _ _)⟩))
          have frh58 := frh51.tr frh58
          refine v_vret (i := 66) rfl rfl ?_
          obtain ⟨rfl, rfl⟩ := ky_leaf e
          exact hr _ hmh58 frh58
  · replace e := ky_ifF c11 e
    refine v_iconst (v := 1) (i := 19) rfl (by decide) (?_ : ky_V _ _ _ 35 _ _ _ _)
    refine v_goto (tgt := 39) (i := 20) rfl (by decide) (?_ : ky_V _ _ _ 39 _ _ _ _)
    refine v_istore (L' := [(0, .ref a), (1, .int p1), (2, .int p2), (3, .int x1), (4, .int 1)]) [1, 2, 3, 4, 0] (i := 22) rfl (Nat.le_of_ble_eq_true rfl) rfl (?_ : ky_V _ _ _ 41 _ _ _ _)
    refine v_iload (i := 23) (j := 4) rfl rfl (?_ : ky_V _ _ _ 43 _ _ _ _)
    refine v_if_eq (tgt := 85) (i := 24) rfl (by decide) (fun c62 => ?_) (fun c62 => ?_)
    · replace e := ky_ifT c62 e
      refine v_aload_n (i := 48) (j := 0) rfl rfl (?_ : ky_V _ _ _ 86 _ _ _ _)
      refine cl_X12_357 (As := []) rfl (i := 49) rfl (md_0 hmh8) rfl rfl (Nat.le_of_ble_eq_true rfl) (k_X12_isNow hmh8 (fun h63 hmh63 frh63 => ⟨_, rfl, (?_ : ky_V _ _ _ 89 _ [] _ _)⟩))
      have frh63 := frh8.tr frh63
      obtain ⟨q64, eq64⟩ : ∃ z, z = (md_isNow_c q9) := ⟨_, rfl⟩
      rw [← eq64] at hmh63
      replace e := ky_letE eq64 e
      refine v_aload_n (i := 50) (j := 0) rfl rfl (?_ : ky_V _ _ _ 90 _ _ _ _)
      refine v_aload_n (i := 51) (j := 0) rfl rfl (?_ : ky_V _ _ _ 91 _ _ _ _)
      refine v_iload_n (i := 52) (j := 1) rfl rfl (?_ : ky_V _ _ _ 92 _ _ _ _)
      refine v_iconst (v := 3) (i := 53) rfl (by decide) (?_ : ky_V _ _ _ 93 _ _ _ _)
      obtain ⟨z65, e⟩ := ky_chkE e
      refine cl_X12_266 (As := [.int p1, .int 3]) rfl (i := 54) rfl (md_0 hmh63) rfl rfl (Nat.le_of_ble_eq_true rfl) (k_X12_ofMove p1 3 hmh63 (ky_inb z65) ⟨_, rfl, (?_ : ky_V _ _ _ 96 _ [.int ((md_ofMove_r q64 p1 3)), .ref a] _ _)⟩)
      refine cl_X12_360 (As := [.int ((md_ofMove_r q64 p1 3))]) rfl (i := 55) rfl (md_0 hmh63) rfl rfl (Nat.le_of_ble_eq_true rfl) (k_X12_goesBy (md_ofMove_r q64 p1 3) hmh63 (fun h66 hmh66 frh66 => ⟨_, rfl, (?_ : ky_V _ _ _ 99 _ [] _ _)⟩))
      have frh66 := frh63.tr frh66
      obtain ⟨q67, eq67⟩ : ∃ z, z = (md_goesBy_c q64 (md_ofMove_r q64 p1 3)) := ⟨_, rfl⟩
      rw [← eq67] at hmh66
      replace e := ky_letE eq67 e
      refine v_aload_n (i := 56) (j := 0) rfl rfl (?_ : ky_V _ _ _ 100 _ _ _ _)
      refine v_iload_n (i := 57) (j := 3) rfl rfl (?_ : ky_V _ _ _ 101 _ _ _ _)
      refine v_iload_n (i := 58) (j := 1) rfl rfl (?_ : ky_V _ _ _ 102 _ _ _ _)
      refine v_iload_n (i := 59) (j := 1) rfl rfl (?_ : ky_V _ _ _ 103 _ _ _ _)
      refine cl_X12_263 (As := [.int p1]) rfl (i := 60) rfl rfl rfl (Nat.le_of_ble_eq_true rfl) (k_X12_isOfNone p1 ⟨_, rfl, (?_ : ky_V _ _ _ 106 _ [.int ((md_isOfNone p1)), .int p1, .int x1, .ref a] _ _)⟩)
      refine v_if_eq (tgt := 113) (i := 61) rfl (by decide) (fun c68 => ?_) (fun c68 => ?_)
      · replace e := ky_ifT c68 e
        refine v_iload_n (i := 64) (j := 2) rfl rfl (?_ : ky_V _ _ _ 114 _ _ _ _)
        obtain ⟨⟨q70, x71⟩, g72, e⟩ := Option.bind_eq_some_iff.mp e
        refine cl_X12_363 (As := [.int x1, .int p1, .int p2]) rfl (i := 65) rfl (md_0 hmh66) rfl rfl (Nat.le_of_ble_eq_true rfl) (k_X12_tells N hmh66 g72 (fun h69 hmh69 frh69 => ⟨_, rfl, (?_ : ky_V _ _ _ 117 _ [] _ _)⟩))
        have frh69 := frh66.tr frh69
        refine v_vret (i := 66) rfl rfl ?_
        obtain ⟨rfl, rfl⟩ := ky_leaf e
        exact hr _ hmh69 frh69
      · replace e := ky_ifF c68 e
        refine v_iconst (v := 2) (i := 62) rfl (by decide) (?_ : ky_V _ _ _ 110 _ _ _ _)
        refine v_goto (tgt := 114) (i := 63) rfl (by decide) (?_ : ky_V _ _ _ 114 _ _ _ _)
        obtain ⟨⟨q74, x75⟩, g76, e⟩ := Option.bind_eq_some_iff.mp e
        refine cl_X12_363 (As := [.int x1, .int p1, .int 2]) rfl (i := 65) rfl (md_0 hmh66) rfl rfl (Nat.le_of_ble_eq_true rfl) (k_X12_tells N hmh66 g76 (fun h73 hmh73 frh73 => ⟨_, rfl, (?_ : ky_V _ _ _ 117 _ [] _ _)⟩))
        have frh73 := frh66.tr frh73
        refine v_vret (i := 66) rfl rfl ?_
        obtain ⟨rfl, rfl⟩ := ky_leaf e
        exact hr _ hmh73 frh73
    · replace e := ky_ifF c62 e
      refine v_aload_n (i := 25) (j := 0) rfl rfl (?_ : ky_V _ _ _ 47 _ _ _ _)
      refine cl_X12_342 (As := []) rfl (i := 26) rfl (md_0 hmh8) rfl rfl (Nat.le_of_ble_eq_true rfl) (k_X12_isOutNow hmh8 ⟨_, rfl, (?_ : ky_V _ _ _ 50 _ [.int ((md_isOutNow_r q9))] _ _)⟩)
      refine v_if_ne (tgt := 85) (i := 27) rfl (by decide) (fun c77 => ?_) (fun c77 => ?_)
      · replace e := ky_ifF c77 e
        refine v_aload_n (i := 48) (j := 0) rfl rfl (?_ : ky_V _ _ _ 86 _ _ _ _)
        refine cl_X12_357 (As := []) rfl (i := 49) rfl (md_0 hmh8) rfl rfl (Nat.le_of_ble_eq_true rfl) (k_X12_isNow hmh8 (fun h78 hmh78 frh78 => ⟨_, rfl, (?_ : ky_V _ _ _ 89 _ [] _ _)⟩))
        have frh78 := frh8.tr frh78
        obtain ⟨q79, eq79⟩ : ∃ z, z = (md_isNow_c q9) := ⟨_, rfl⟩
        rw [← eq79] at hmh78
        replace e := ky_letE eq79 e
        refine v_aload_n (i := 50) (j := 0) rfl rfl (?_ : ky_V _ _ _ 90 _ _ _ _)
        refine v_aload_n (i := 51) (j := 0) rfl rfl (?_ : ky_V _ _ _ 91 _ _ _ _)
        refine v_iload_n (i := 52) (j := 1) rfl rfl (?_ : ky_V _ _ _ 92 _ _ _ _)
        refine v_iconst (v := 3) (i := 53) rfl (by decide) (?_ : ky_V _ _ _ 93 _ _ _ _)
        obtain ⟨z80, e⟩ := ky_chkE e
        refine cl_X12_266 (As := [.int p1, .int 3]) rfl (i := 54) rfl (md_0 hmh78) rfl rfl (Nat.le_of_ble_eq_true rfl) (k_X12_ofMove p1 3 hmh78 (ky_inb z80) ⟨_, rfl, (?_ : ky_V _ _ _ 96 _ [.int ((md_ofMove_r q79 p1 3)), .ref a] _ _)⟩)
        refine cl_X12_360 (As := [.int ((md_ofMove_r q79 p1 3))]) rfl (i := 55) rfl (md_0 hmh78) rfl rfl (Nat.le_of_ble_eq_true rfl) (k_X12_goesBy (md_ofMove_r q79 p1 3) hmh78 (fun h81 hmh81 frh81 => ⟨_, rfl, (?_ : ky_V _ _ _ 99 _ [] _ _)⟩))
        have frh81 := frh78.tr frh81
        obtain ⟨q82, eq82⟩ : ∃ z, z = (md_goesBy_c q79 (md_ofMove_r q79 p1 3)) := ⟨_, rfl⟩
        rw [← eq82] at hmh81
        replace e := ky_letE eq82 e
        refine v_aload_n (i := 56) (j := 0) rfl rfl (?_ : ky_V _ _ _ 100 _ _ _ _)
        refine v_iload_n (i := 57) (j := 3) rfl rfl (?_ : ky_V _ _ _ 101 _ _ _ _)
        refine v_iload_n (i := 58) (j := 1) rfl rfl (?_ : ky_V _ _ _ 102 _ _ _ _)
        refine v_iload_n (i := 59) (j := 1) rfl rfl (?_ : ky_V _ _ _ 103 _ _ _ _)
        refine cl_X12_263 (As := [.int p1]) rfl (i := 60) rfl rfl rfl (Nat.le_of_ble_eq_true rfl) (k_X12_isOfNone p1 ⟨_, rfl, (?_ : ky_V _ _ _ 106 _ [.int ((md_isOfNone p1)), .int p1, .int x1, .ref a] _ _)⟩)
        refine v_if_eq (tgt := 113) (i := 61) rfl (by decide) (fun c83 => ?_) (fun c83 => ?_)
        · replace e := ky_ifT c83 e
          refine v_iload_n (i := 64) (j := 2) rfl rfl (?_ : ky_V _ _ _ 114 _ _ _ _)
          obtain ⟨⟨q85, x86⟩, g87, e⟩ := Option.bind_eq_some_iff.mp e
          refine cl_X12_363 (As := [.int x1, .int p1, .int p2]) rfl (i := 65) rfl (md_0 hmh81) rfl rfl (Nat.le_of_ble_eq_true rfl) (k_X12_tells N hmh81 g87 (fun h84 hmh84 frh84 => ⟨_, rfl, (?_ : ky_V _ _ _ 117 _ [] _ _)⟩))
          have frh84 := frh81.tr frh84
          refine v_vret (i := 66) rfl rfl ?_
          obtain ⟨rfl, rfl⟩ := ky_leaf e
          exact hr _ hmh84 frh84
        · replace e := ky_ifF c83 e
          refine v_iconst (v := 2) (i := 62) rfl (by decide) (?_ : ky_V _ _ _ 110 _ _ _ _)
          refine v_goto (tgt := 114) (i := 63) rfl (by decide) (?_ : ky_V _ _ _ 114 _ _ _ _)
          obtain ⟨⟨q89, x90⟩, g91, e⟩ := Option.bind_eq_some_iff.mp e
          refine cl_X12_363 (As := [.int x1, .int p1, .int 2]) rfl (i := 65) rfl (md_0 hmh81) rfl rfl (Nat.le_of_ble_eq_true rfl) (k_X12_tells N hmh81 g91 (fun h88 hmh88 frh88 => ⟨_, rfl, (?_ : ky_V _ _ _ 117 _ [] _ _)⟩))
          have frh88 := frh81.tr frh88
          refine v_vret (i := 66) rfl rfl ?_
          obtain ⟨rfl, rfl⟩ := ky_leaf e
          exact hr _ hmh88 frh88
      · replace e := ky_ifT c77 e
        refine v_aload_n (i := 28) (j := 0) rfl rfl (?_ : ky_V _ _ _ 54 _ _ _ _)
        refine gf_X12_42 rfl (i := 29) rfl (md_0 hmh8) rfl (?_ : ky_V _ _ _ 57 _ _ _ _)
        refine v_iconst (v := 0) (i := 30) rfl (by decide) (?_ : ky_V _ _ _ 58 _ _ _ _)
        refine v_aload_n (i := 31) (j := 0) rfl rfl (?_ : ky_V _ _ _ 59 _ _ _ _)
        refine gf_X12_42 rfl (i := 32) rfl (md_0 hmh8) rfl (?_ : ky_V _ _ _ 62 _ _ _ _)
        refine v_iconst (v := 0) (i := 33) rfl (by decide) (?_ : ky_V _ _ _ 63 _ _ _ _)
        refine v_iald (i := 34) rfl (md_9 hmh8) (ky_inl (by decide)) (?_ : ky_V _ _ _ 64 _ (.int (q9 9 0) :: _) _ _)
        refine v_iconst (v := 1) (i := 35) rfl (by decide) (?_ : ky_V _ _ _ 65 _ _ _ _)
        refine cl_X12_276 (As := [.int ((q9 9 0)), .int 1]) rfl (i := 36) rfl rfl rfl (Nat.le_of_ble_eq_true rfl) (k_X12_deeper (q9 9 0) 1 ⟨_, rfl, (?_ : ky_V _ _ _ 68 _ [.int ((md_deeper (q9 9 0) 1)), .int 0, .ref ((a + 9))] _ _)⟩)
        refine v_topi (fun x92 ex92 => ?_)
        replace e := ky_letE ex92 e
        refine v_iast (i := 37) rfl (md_9 hmh8) (ky_inl (by decide)) ?_
        refine bk_st (B := md_B G a) hmh8 frh8 9 0 x92 (by decide) (fun h93 hmh93 frh93 => ?_)
        obtain ⟨q94, eq94⟩ : ∃ z, z = (bk_w q9 9 0 x92) := ⟨_, rfl⟩
        rw [← eq94] at hmh93
        replace e := ky_letE eq94 e
        refine (?_ : ky_V _ _ _ 69 _ _ _ _)
        refine v_aload_n (i := 38) (j := 0) rfl rfl (?_ : ky_V _ _ _ 70 _ _ _ _)
        refine gf_X12_42 rfl (i := 39) rfl (md_0 hmh93) rfl (?_ : ky_V _ _ _ 73 _ _ _ _)
        refine v_iconst (v := 1) (i := 40) rfl (by decide) (?_ : ky_V _ _ _ 74 _ _ _ _)
        refine v_aload_n (i := 41) (j := 0) rfl rfl (?_ : ky_V _ _ _ 75 _ _ _ _)
        refine gf_X12_42 rfl (i := 42) rfl (md_0 hmh93) rfl (?_ : ky_V _ _ _ 78 _ _ _ _)
        refine v_iconst (v := 1) (i := 43) rfl (by decide) (?_ : ky_V _ _ _ 79 _ _ _ _)
        refine v_iald (i := 44) rfl (md_9 hmh93) (ky_inl (by decide)) (?_ : ky_V _ _ _ 80 _ (.int (q94 9 1) :: _) _ _)
        refine v_iconst (v := 1) (i := 45) rfl (by decide) (?_ : ky_V _ _ _ 81 _ _ _ _)
        refine cl_X12_276 (As := [.int ((q94 9 1)), .int 1]) rfl (i := 46) rfl rfl rfl (Nat.le_of_ble_eq_true rfl) (k_X12_deeper (q94 9 1) 1 ⟨_, rfl, (?_ : ky_V _ _ _ 84 _ [.int ((md_deeper (q94 9 1) 1)), .int 1, .ref ((a + 9))] _ _)⟩)
        refine v_topi (fun x95 ex95 => ?_)
        replace e := ky_letE ex95 e
        refine v_iast (i := 47) rfl (md_9 hmh93) (ky_inl (by decide)) ?_
        refine bk_st (B := md_B G a) hmh93 frh93 9 1 x95 (by decide) (fun h96 hmh96 frh96 => ?_)
        obtain ⟨q97, eq97⟩ : ∃ z, z = (bk_w q94 9 1 x95) := ⟨_, rfl⟩
        rw [← eq97] at hmh96
        replace e := ky_letE eq97 e
        refine (?_ : ky_V _ _ _ 85 _ _ _ _)
        refine v_aload_n (i := 48) (j := 0) rfl rfl (?_ : ky_V _ _ _ 86 _ _ _ _)
        refine cl_X12_357 (As := []) rfl (i := 49) rfl (md_0 hmh96) rfl rfl (Nat.le_of_ble_eq_true rfl) (k_X12_isNow hmh96 (fun h98 hmh98 frh98 => ⟨_, rfl, (?_ : ky_V _ _ _ 89 _ [] _ _)⟩))
        have frh98 := frh96.tr frh98
        obtain ⟨q99, eq99⟩ : ∃ z, z = (md_isNow_c q97) := ⟨_, rfl⟩
        rw [← eq99] at hmh98
        replace e := ky_letE eq99 e
        refine v_aload_n (i := 50) (j := 0) rfl rfl (?_ : ky_V _ _ _ 90 _ _ _ _)
        refine v_aload_n (i := 51) (j := 0) rfl rfl (?_ : ky_V _ _ _ 91 _ _ _ _)
        refine v_iload_n (i := 52) (j := 1) rfl rfl (?_ : ky_V _ _ _ 92 _ _ _ _)
        refine v_iconst (v := 3) (i := 53) rfl (by decide) (?_ : ky_V _ _ _ 93 _ _ _ _)
        obtain ⟨z100, e⟩ := ky_chkE e
        refine cl_X12_266 (As := [.int p1, .int 3]) rfl (i := 54) rfl (md_0 hmh98) rfl rfl (Nat.le_of_ble_eq_true rfl) (k_X12_ofMove p1 3 hmh98 (ky_inb z100) ⟨_, rfl, (?_ : ky_V _ _ _ 96 _ [.int ((md_ofMove_r q99 p1 3)), .ref a] _ _)⟩)
        refine cl_X12_360 (As := [.int ((md_ofMove_r q99 p1 3))]) rfl (i := 55) rfl (md_0 hmh98) rfl rfl (Nat.le_of_ble_eq_true rfl) (k_X12_goesBy (md_ofMove_r q99 p1 3) hmh98 (fun h101 hmh101 frh101 => ⟨_, rfl, (?_ : ky_V _ _ _ 99 _ [] _ _)⟩))
        have frh101 := frh98.tr frh101
        obtain ⟨q102, eq102⟩ : ∃ z, z = (md_goesBy_c q99 (md_ofMove_r q99 p1 3)) := ⟨_, rfl⟩
        rw [← eq102] at hmh101
        replace e := ky_letE eq102 e
        refine v_aload_n (i := 56) (j := 0) rfl rfl (?_ : ky_V _ _ _ 100 _ _ _ _)
        refine v_iload_n (i := 57) (j := 3) rfl rfl (?_ : ky_V _ _ _ 101 _ _ _ _)
        refine v_iload_n (i := 58) (j := 1) rfl rfl (?_ : ky_V _ _ _ 102 _ _ _ _)
        refine v_iload_n (i := 59) (j := 1) rfl rfl (?_ : ky_V _ _ _ 103 _ _ _ _)
        refine cl_X12_263 (As := [.int p1]) rfl (i := 60) rfl rfl rfl (Nat.le_of_ble_eq_true rfl) (k_X12_isOfNone p1 ⟨_, rfl, (?_ : ky_V _ _ _ 106 _ [.int ((md_isOfNone p1)), .int p1, .int x1, .ref a] _ _)⟩)
        refine v_if_eq (tgt := 113) (i := 61) rfl (by decide) (fun c103 => ?_) (fun c103 => ?_)
        · replace e := ky_ifT c103 e
          refine v_iload_n (i := 64) (j := 2) rfl rfl (?_ : ky_V _ _ _ 114 _ _ _ _)
          obtain ⟨⟨q105, x106⟩, g107, e⟩ := Option.bind_eq_some_iff.mp e
          refine cl_X12_363 (As := [.int x1, .int p1, .int p2]) rfl (i := 65) rfl (md_0 hmh101) rfl rfl (Nat.le_of_ble_eq_true rfl) (k_X12_tells N hmh101 g107 (fun h104 hmh104 frh104 => ⟨_, rfl, (?_ : ky_V _ _ _ 117 _ [] _ _)⟩))
          have frh104 := frh101.tr frh104
          refine v_vret (i := 66) rfl rfl ?_
          obtain ⟨rfl, rfl⟩ := ky_leaf e
          exact hr _ hmh104 frh104
        · replace e := ky_ifF c103 e
          refine v_iconst (v := 2) (i := 62) rfl (by decide) (?_ : ky_V _ _ _ 110 _ _ _ _)
          refine v_goto (tgt := 114) (i := 63) rfl (by decide) (?_ : ky_V _ _ _ 114 _ _ _ _)
          obtain ⟨⟨q109, x110⟩, g111, e⟩ := Option.bind_eq_some_iff.mp e
          refine cl_X12_363 (As := [.int x1, .int p1, .int 2]) rfl (i := 65) rfl (md_0 hmh101) rfl rfl (Nat.le_of_ble_eq_true rfl) (k_X12_tells N hmh101 g111 (fun h108 hmh108 frh108 => ⟨_, rfl, (?_ : ky_V _ _ _ 117 _ [] _ _)⟩))
          have frh108 := frh101.tr frh108
          refine v_vret (i := 66) rfl rfl ?_
          obtain ⟨rfl, rfl⟩ := ky_leaf e
          exact hr _ hmh108 frh108

def md_makesByDraws_L4 (N : Nat) (k : (Nat → Nat → Int32) → Int32 → Int32 → Int32 → Option ((Nat → Nat → Int32) × Int32)) : Nat → (Nat → Nat → Int32) → Int32 → Int32 → Int32 → Option ((Nat → Nat → Int32) × Int32)
  | 0, _, _, _, _ => none
  | n + 1, c, p1, p2, p3 => (if p1 ≤ p3 then (k c p1 p2 p3) else (if (md_isOver_r c) = 0 then (ky_let (md_draw_r c 7) (fun x5 => (ky_let (md_draw_c c 7) (fun q4 => (ky_let (md_draw_r q4 2) (fun x8 => (ky_let (md_draw_c q4 2) (fun q7 => ((md_makes N q7 x5 x8).bind (fun zz => (fun q10 x11 => (ky_let (p2 + 1) (fun x13 => (ky_let (p3 + 1) (fun x14 => (md_makesByDraws_L4 N k n q10 p1 x13 x14)))))) zz.1 zz.2)))))))))) else (k c p1 p2 p3)))
set_option maxRecDepth 20000 in
set_option maxHeartbeats 4000000 in
theorem lv_X12_makesByDraws_4 {G : ky_GW} {d : Nat} {h0 : ky_HP} {Q : ky_RS → ky_HP → Prop} {a : Nat} {c9 : (Nat → Nat → Int32)} {r9 : Int32} (N : Nat) (k : (Nat → Nat → Int32) → Int32 → Int32 → Int32 → Option ((Nat → Nat → Int32) × Int32)) (hr : ∀ h1, md_at G h1 a c9 → bk_fr a 13 h0 h1 → Q (.inl (some (.int r9))) h1)
    (hk : ∀ (h : ky_HP) (c : (Nat → Nat → Int32)) (p1 : Int32) (p2 : Int32) (p3 : Int32), md_at G h a c → bk_fr a 13 h0 h → k c p1 p2 p3 = some (c9, r9) → ky_V G (d + 5) M_X12_makesByDraws 44 [(0, .ref a), (1, .int p1), (2, .int p2), (3, .int p3)] [] h Q) :
    ∀ (n : Nat) (h : ky_HP) (c : (Nat → Nat → Int32)) (p1 : Int32) (p2 : Int32) (p3 : Int32), md_at G h a c → bk_fr a 13 h0 h → md_makesByDraws_L4 N k n c p1 p2 p3 = some (c9, r9) → ky_V G (d + 5) M_X12_makesByDraws 4 [(0, .ref a), (1, .int p1), (2, .int p2), (3, .int p3)] [] h Q := by
  intro n
  induction n with
  | zero => intro h c p1 p2 p3 hm fr e; cases e
  | succ n ih =>
    intro h c p1 p2 p3 hm fr e
    rw [md_makesByDraws_L4] at e
    refine v_iload_n (i := 4) (j := 3) rfl rfl (?_ : ky_V _ _ _ 5 _ _ _ _)
    refine v_iload_n (i := 5) (j := 1) rfl rfl (?_ : ky_V _ _ _ 6 _ _ _ _)
    refine v_icmp_ge (tgt := 44) (i := 6) rfl (by decide) (fun c1 => ?_) (fun c1 => ?_)
    · replace e := ky_ifT c1 e
      exact hk h c p1 p2 p3 hm fr e
    · replace e := ky_ifF c1 e
      refine v_aload_n (i := 7) (j := 0) rfl rfl (?_ : ky_V _ _ _ 10 _ _ _ _)
      refine cl_X12_370 (As := []) rfl (i := 8) rfl (md_0 hm) rfl rfl (Nat.le_of_ble_eq_true rfl) (k_X12_isOver hm ⟨_, rfl, (?_ : ky_V _ _ _ 13 _ [.int ((md_isOver_r c))] _ _)⟩)
      refine v_if_ne (tgt := 44) (i := 9) rfl (by decide) (fun c2 => ?_) (fun c2 => ?_)
      · replace e := ky_ifF c2 e
        exact hk h c p1 p2 p3 hm fr e
      · replace e := ky_ifT c2 e
        refine v_aload_n (i := 10) (j := 0) rfl rfl (?_ : ky_V _ _ _ 17 _ _ _ _)
        refine v_bipush (v := 7) (i := 11) rfl (by decide) (?_ : ky_V _ _ _ 19 _ _ _ _)
        refine cl_X12_354 (As := [.int 7]) rfl (i := 12) rfl (md_0 hm) rfl rfl (Nat.le_of_ble_eq_true rfl) (k_X12_draw 7 hm (by decide) (fun h3 hmh3 frh3 => ⟨_, rfl, (?_ : ky_V _ _ _ 22 _ [.int ((md_draw_r c 7))] _ _)⟩))
        have frh3 := fr.tr frh3
        refine v_topi (fun x5 ex5 => ?_)
        replace e := ky_letE ex5 e
        obtain ⟨q4, eq4⟩ : ∃ z, z = (md_draw_c c 7) := ⟨_, rfl⟩
        rw [← eq4] at hmh3
        replace e := ky_letE eq4 e
        refine v_istore (L' := [(0, .ref a), (1, .int p1), (2, .int p2), (3, .int p3), (4, .int x5)]) [1, 2, 3, 4, 0] (i := 13) rfl (Nat.le_of_ble_eq_true rfl) rfl (?_ : ky_V _ _ _ 24 _ _ _ _)
        refine v_aload_n (i := 14) (j := 0) rfl rfl (?_ : ky_V _ _ _ 25 _ _ _ _)
        refine v_iload (i := 15) (j := 4) rfl rfl (?_ : ky_V _ _ _ 27 _ _ _ _)
        refine v_aload_n (i := 16) (j := 0) rfl rfl (?_ : ky_V _ _ _ 28 _ _ _ _)
        refine v_iconst (v := 2) (i := 17) rfl (by decide) (?_ : ky_V _ _ _ 29 _ _ _ _)
        refine cl_X12_354 (As := [.int 2]) rfl (i := 18) rfl (md_0 hmh3) rfl rfl (Nat.le_of_ble_eq_true rfl) (k_X12_draw 2 hmh3 (by decide) (fun h6 hmh6 frh6 => ⟨_, rfl, (?_ : ky_V _ _ _ 32 _ [.int ((md_draw_r q4 2)), .int x5, .ref a] _ _)⟩))
        have frh6 := frh3.tr frh6
        refine v_topi (fun x8 ex8 => ?_)
        replace e := ky_letE ex8 e
        obtain ⟨q7, eq7⟩ : ∃ z, z = (md_draw_c q4 2) := ⟨_, rfl⟩
        rw [← eq7] at hmh6
        replace e := ky_letE eq7 e
        obtain ⟨⟨q10, x11⟩, g12, e⟩ := Option.bind_eq_some_iff.mp e
        refine cl_X12_376 (As := [.int x5, .int x8]) rfl (i := 19) rfl (md_0 hmh6) rfl rfl (Nat.le_of_ble_eq_true rfl) (k_X12_makes N hmh6 g12 (fun h9 hmh9 frh9 => ⟨_, rfl, (?_ : ky_V _ _ _ 35 _ [] _ _)⟩))
        have frh9 := frh6.tr frh9
        obtain ⟨x13, ex13⟩ : ∃ z : Int32, z = p2 + 1 := ⟨_, rfl⟩
        replace e := ky_letE ex13 e
        refine v_iinc (v := x13) (j := 2) (L' := [(0, .ref a), (1, .int p1), (2, .int x13), (3, .int p3), (4, .int x5)]) [1, 2, 0, 3, 4] (i := 20) rfl rfl (by rw [ex13]; rfl) (Nat.le_of_ble_eq_true rfl) rfl (?_ : ky_V _ _ _ 38 _ _ _ _)
        obtain ⟨x14, ex14⟩ : ∃ z : Int32, z = p3 + 1 := ⟨_, rfl⟩
        replace e := ky_letE ex14 e
        refine v_iinc (v := x14) (j := 3) (L' := [(0, .ref a), (1, .int p1), (2, .int x13), (3, .int x14), (4, .int x5)]) [1, 2, 3, 0, 4] (i := 21) rfl rfl (by rw [ex14]; rfl) (Nat.le_of_ble_eq_true rfl) rfl (?_ : ky_V _ _ _ 41 _ _ _ _)
        refine v_goto (tgt := 4) (i := 22) rfl (by decide) (?_ : ky_V _ _ _ 4 _ _ _ _)
        refine ky_loc (L' := [(0, .ref a), (1, .int p1), (2, .int x13), (3, .int x14)]) (by simp) ?_
        exact ih h9 q10 p1 x13 x14 hmh9 frh9 e

def md_makesByDraws (N : Nat) (c : (Nat → Nat → Int32)) (p1 : Int32) : Option ((Nat → Nat → Int32) × Int32) := (md_makesByDraws_L4 N (fun q2 x3 x4 x5 => (some (q2, x4))) N c p1 0 0)
set_option maxRecDepth 20000 in
set_option maxHeartbeats 4000000 in
theorem k_X12_makesByDraws {G : ky_GW} {d : Nat} {h : ky_HP} {Q : ky_RS → ky_HP → Prop} {a : Nat} {c c9 : (Nat → Nat → Int32)} {r9 : Int32} {p1 : Int32} (N : Nat) (hm : md_at G h a c) (e : md_makesByDraws N c p1 = some (c9, r9)) (hr : ∀ h1, md_at G h1 a c9 → bk_fr a 13 h h1 → Q (.inl (some (.int r9))) h1) : ky_Call G (d + 5) M_X12_makesByDraws [.ref a, .int p1] h Q := by
  refine ky_ofV (by decide +kernel) rfl ok_X12_makesByDraws (Nat.le_of_ble_eq_true rfl) ?_
  have fr : bk_fr a 13 h h := bk_fr.rf
  unfold md_makesByDraws at e
  refine (?_ : ky_V _ _ _ 0 [(0, .ref a), (1, .int p1)] [] _ _)
  refine v_iconst (v := 0) (i := 0) rfl (by decide) (?_ : ky_V _ _ _ 1 _ _ _ _)
  refine v_istore_n (L' := [(0, .ref a), (1, .int p1), (2, .int 0)]) [1, 2, 0] (i := 1) rfl (Nat.le_of_ble_eq_true rfl) rfl (?_ : ky_V _ _ _ 2 _ _ _ _)
  refine v_iconst (v := 0) (i := 2) rfl (by decide) (?_ : ky_V _ _ _ 3 _ _ _ _)
  refine v_istore_n (L' := [(0, .ref a), (1, .int p1), (2, .int 0), (3, .int 0)]) [1, 2, 3, 0] (i := 3) rfl (Nat.le_of_ble_eq_true rfl) rfl (?_ : ky_V _ _ _ 4 _ _ _ _)
  refine lv_X12_makesByDraws_4 N _ hr (fun h1 q2 x3 x4 x5 hmh1 frh1 e => ?_) N h c p1 0 0 hm fr e
  refine v_iload_n (i := 23) (j := 2) rfl rfl (?_ : ky_V _ _ _ 45 _ _ _ _)
  refine v_iret (v := x4) (ty := .int) (i := 24) rfl rfl rfl ?_
  obtain ⟨rfl, rfl⟩ := ky_leaf e
  exact hr _ hmh1 frh1

def md_person (N : Nat) (c : (Nat → Nat → Int32)) (p1 : Int32) (p2 : Int32) : Option ((Nat → Nat → Int32) × Int32) := (ky_let (bk_w c 0 0 0) (fun q2 => (if (md_noPerson_r q2 p1) = 0 ∨ (md_noPerson_r q2 p1) = 1 then (ky_let (md_throwsIf_r q2 (md_noPerson_r q2 p1) 1) (fun x6 => (ky_let (md_throwsIf_c q2 (md_noPerson_r q2 p1) 1) (fun q5 => (if x6 = 0 then (if (md_in p2 0 3) = 0 then (ky_let (md_throwsIf_r q5 1 2) (fun x26 => (ky_let (md_throwsIf_c q5 1 2) (fun q25 => (if x26 = 0 then (if (2 : Int32) ≤ p2 then (if p2 = (2 : Int32) then ((md_boardedOf N q25 p1).bind (fun zz => (fun q35 x36 => (some (q35, x36))) zz.1 zz.2)) else ((md_farOf N q25 p1).bind (fun zz => (fun q31 x32 => (some (q31, x32))) zz.1 zz.2))) else (if ky_inB ((237 + (2 * p1)) + p2) 2247 = true then (some (q25, (md_ofPerson_r q25 p1 p2))) else none)) else (some (q25, 0))))))) else (ky_let (md_throwsIf_r q5 0 2) (fun x11 => (ky_let (md_throwsIf_c q5 0 2) (fun q10 => (if x11 = 0 then (if (2 : Int32) ≤ p2 then (if p2 = (2 : Int32) then ((md_boardedOf N q10 p1).bind (fun zz => (fun q20 x21 => (some (q20, x21))) zz.1 zz.2)) else ((md_farOf N q10 p1).bind (fun zz => (fun q16 x17 => (some (q16, x17))) zz.1 zz.2))) else (if ky_inB ((237 + (2 * p1)) + p2) 2247 = true then (some (q10, (md_ofPerson_r q10 p1 p2))) else none)) else (some (q10, 0)))))))) else (some (q5, 0))))))) else none)))
set_option maxRecDepth 20000 in
set_option maxHeartbeats 4000000 in
theorem k_X12_person {G : ky_GW} {d : Nat} {h : ky_HP} {Q : ky_RS → ky_HP → Prop} {a : Nat} {c c9 : (Nat → Nat → Int32)} {r9 : Int32} {p1 : Int32} {p2 : Int32} (N : Nat) (hm : md_at G h a c) (e : md_person N c p1 p2 = some (c9, r9)) (hr : ∀ h1, md_at G h1 a c9 → bk_fr a 13 h h1 → Q (.inl (some (.int r9))) h1) : ky_Call G (d + 6) M_X12_person [.ref a, .int p1, .int p2] h Q := by
  refine ky_ofV (by decide +kernel) rfl ok_X12_person (Nat.le_of_ble_eq_true rfl) ?_
  have fr : bk_fr a 13 h h := bk_fr.rf
  unfold md_person at e
  refine (?_ : ky_V _ _ _ 0 [(0, .ref a), (1, .int p1), (2, .int p2)] [] _ _)
  refine v_aload_n (i := 0) (j := 0) rfl rfl (?_ : ky_V _ _ _ 1 _ _ _ _)
  refine v_iconst (v := 0) (i := 1) rfl (by decide) (?_ : ky_V _ _ _ 2 _ _ _ _)
  refine pf_X12_3 rfl (i := 2) rfl (md_0 hm) (Nat.le_of_ble_eq_true rfl) rfl rfl ?_
  refine bk_st (B := md_B G a) hm fr 0 0 0 (by decide) (fun h1 hmh1 frh1 => ?_)
  obtain ⟨q2, eq2⟩ : ∃ z, z = (bk_w c 0 0 0) := ⟨_, rfl⟩
  rw [← eq2] at hmh1
  replace e := ky_letE eq2 e
  refine (?_ : ky_V _ _ _ 5 _ _ _ _)
  refine v_aload_n (i := 3) (j := 0) rfl rfl (?_ : ky_V _ _ _ 6 _ _ _ _)
  refine v_aload_n (i := 4) (j := 0) rfl rfl (?_ : ky_V _ _ _ 7 _ _ _ _)
  refine v_iload_n (i := 5) (j := 1) rfl rfl (?_ : ky_V _ _ _ 8 _ _ _ _)
  refine cl_X12_385 (As := [.int p1]) rfl (i := 6) rfl (md_0 hmh1) rfl rfl (Nat.le_of_ble_eq_true rfl) (k_X12_noPerson p1 hmh1 ⟨_, rfl, (?_ : ky_V _ _ _ 11 _ [.int ((md_noPerson_r q2 p1)), .ref a] _ _)⟩)
  refine v_iconst (v := 1) (i := 7) rfl (by decide) (?_ : ky_V _ _ _ 12 _ _ _ _)
  obtain ⟨z3, e⟩ := ky_chkE e
  refine cl_X12_241 (As := [.int ((md_noPerson_r q2 p1)), .int 1]) rfl (i := 8) rfl (md_0 hmh1) rfl rfl (Nat.le_of_ble_eq_true rfl) (k_X12_throwsIf (md_noPerson_r q2 p1) 1 hmh1 z3 (fun h4 hmh4 frh4 => ⟨_, rfl, (?_ : ky_V _ _ _ 15 _ [.int ((md_throwsIf_r q2 (md_noPerson_r q2 p1) 1))] _ _)⟩))
  have frh4 := frh1.tr frh4
  refine v_topi (fun x6 ex6 => ?_)
  replace e := ky_letE ex6 e
  obtain ⟨q5, eq5⟩ : ∃ z, z = (md_throwsIf_c q2 (md_noPerson_r q2 p1) 1) := ⟨_, rfl⟩
  rw [← eq5] at hmh4
  replace e := ky_letE eq5 e
  refine v_if_ne (tgt := 40) (i := 9) rfl (by decide) (fun c7 => ?_) (fun c7 => ?_)
  · replace e := ky_ifF c7 e
    refine v_iconst (v := 0) (i := 22) rfl (by decide) (?_ : ky_V _ _ _ 41 _ _ _ _)
    refine v_iret (v := 0) (ty := .int) (i := 23) rfl rfl rfl ?_
    obtain ⟨rfl, rfl⟩ := ky_leaf e
    exact hr _ hmh4 frh4
  · replace e := ky_ifT c7 e
    refine v_aload_n (i := 10) (j := 0) rfl rfl (?_ : ky_V _ _ _ 19 _ _ _ _)
    refine v_iload_n (i := 11) (j := 2) rfl rfl (?_ : ky_V _ _ _ 20 _ _ _ _)
    refine v_iconst (v := 0) (i := 12) rfl (by decide) (?_ : ky_V _ _ _ 21 _ _ _ _)
    refine v_iconst (v := 3) (i := 13) rfl (by decide) (?_ : ky_V _ _ _ 22 _ _ _ _)
    refine cl_X12_65 (As := [.int p2, .int 0, .int 3]) rfl (i := 14) rfl rfl rfl (Nat.le_of_ble_eq_true rfl) (k_X12_in p2 0 3 ⟨_, rfl, (?_ : ky_V _ _ _ 25 _ [.int ((md_in p2 0 3)), .ref a] _ _)⟩)
    refine v_if_ne (tgt := 32) (i := 15) rfl (by decide) (fun c8 => ?_) (fun c8 => ?_)
    · replace e := ky_ifF c8 e
      refine v_iconst (v := 0) (i := 18) rfl (by decide) (?_ : ky_V _ _ _ 33 _ _ _ _)
      refine v_iconst (v := 2) (i := 19) rfl (by decide) (?_ : ky_V _ _ _ 34 _ _ _ _)
      refine cl_X12_241 (As := [.int 0, .int 2]) rfl (i := 20) rfl (md_0 hmh4) rfl rfl (Nat.le_of_ble_eq_true rfl) (k_X12_throwsIf 0 2 hmh4 (by decide) (fun h9 hmh9 frh9 => ⟨_, rfl, (?_ : ky_V _ _ _ 37 _ [.int ((md_throwsIf_r q5 0 2))] _ _)⟩))
      have frh9 := frh4.tr frh9
      refine v_topi (fun x11 ex11 => ?_)
      replace e := ky_letE ex11 e
      obtain ⟨q10, eq10⟩ : ∃ z, z = (md_throwsIf_c q5 0 2) := ⟨_, rfl⟩
      rw [← eq10] at hmh9
      replace e := ky_letE eq10 e
      refine v_if_eq (tgt := 42) (i := 21) rfl (by decide) (fun c12 => ?_) (fun c12 => ?_)
      · replace e := ky_ifT c12 e
        refine v_iload_n (i := 24) (j := 2) rfl rfl (?_ : ky_V _ _ _ 43 _ _ _ _)
        refine v_iconst (v := 2) (i := 25) rfl (by decide) (?_ : ky_V _ _ _ 44 _ _ _ _)
        refine v_icmp_ge (tgt := 56) (i := 26) rfl (by decide) (fun c13 => ?_) (fun c13 => ?_)
        · replace e := ky_ifT c13 e
          refine v_iload_n (i := 32) (j := 2) rfl rfl (?_ : ky_V _ _ _ 57 _ _ _ _)
          refine v_iconst (v := 2) (i := 33) rfl (by decide) (?_ : ky_V _ _ _ 58 _ _ _ _)
          refine v_icmp_ne (tgt := 69) (i := 34) rfl (by decide) (fun c14 => ?_) (fun c14 => ?_)
          · replace e := ky_ifF c14 e
            refine v_aload_n (i := 39) (j := 0) rfl rfl (?_ : ky_V _ _ _ 70 _ _ _ _)
            refine v_iload_n (i := 40) (j := 1) rfl rfl (?_ : ky_V _ _ _ 71 _ _ _ _)
            obtain ⟨⟨q16, x17⟩, g18, e⟩ := Option.bind_eq_some_iff.mp e
            refine cl_X12_421 (As := [.int p1]) rfl (i := 41) rfl (md_0 hmh9) rfl rfl (Nat.le_of_ble_eq_true rfl) (k_X12_farOf N hmh9 g18 (fun h15 hmh15 frh15 => ⟨_, rfl, (?_ : ky_V _ _ _ 74 _ [.int x17] _ _)⟩))
            have frh15 := frh9.tr frh15
            refine v_iret (v := x17) (ty := .int) (i := 42) rfl rfl rfl ?_
            obtain ⟨rfl, rfl⟩ := ky_leaf e
            exact hr _ hmh15 frh15
          · replace e := ky_ifT c14 e
            refine v_aload_n (i := 35) (j := 0) rfl rfl (?_ : ky_V _ _ _ 62 _ _ _ _)
            refine v_iload_n (i := 36) (j := 1) rfl rfl (?_ : ky_V _ _ _ 63 _ _ _ _)
            obtain ⟨⟨q20, x21⟩, g22, e⟩ := Option.bind_eq_some_iff.mp e
            refine cl_X12_418 (As := [.int p1]) rfl (i := 37) rfl (md_0 hmh9) rfl rfl (Nat.le_of_ble_eq_true rfl) (k_X12_boardedOf N hmh9 g22 (fun h19 hmh19 frh19 => ⟨_, rfl, (?_ : ky_V _ _ _ 66 _ [.int x21] _ _)⟩))
            have frh19 := frh9.tr frh19
            refine v_goto (tgt := 74) (i := 38) rfl (by decide) (?_ : ky_V _ _ _ 74 _ _ _ _)
            refine v_iret (v := x21) (ty := .int) (i := 42) rfl rfl rfl ?_
            obtain ⟨rfl, rfl⟩ := ky_leaf e
            exact hr _ hmh19 frh19
        · replace e := ky_ifF c13 e
          refine v_aload_n (i := 27) (j := 0) rfl rfl (?_ : ky_V _ _ _ 48 _ _ _ _)
          refine v_iload_n (i := 28) (j := 1) rfl rfl (?_ : ky_V _ _ _ 49 _ _ _ _)
          refine v_iload_n (i := 29) (j := 2) rfl rfl (?_ : ky_V _ _ _ 50 _ _ _ _)
          obtain ⟨z23, e⟩ := ky_chkE e
          refine cl_X12_391 (As := [.int p1, .int p2]) rfl (i := 30) rfl (md_0 hmh9) rfl rfl (Nat.le_of_ble_eq_true rfl) (k_X12_ofPerson p1 p2 hmh9 (ky_inb z23) ⟨_, rfl, (?_ : ky_V _ _ _ 53 _ [.int ((md_ofPerson_r q10 p1 p2))] _ _)⟩)
          refine v_goto (tgt := 74) (i := 31) rfl (by decide) (?_ : ky_V _ _ _ 74 _ _ _ _)
          refine v_iret (v := (md_ofPerson_r q10 p1 p2)) (ty := .int) (i := 42) rfl rfl rfl ?_
          obtain ⟨rfl, rfl⟩ := ky_leaf e
          exact hr _ hmh9 frh9
      · replace e := ky_ifF c12 e
        refine v_iconst (v := 0) (i := 22) rfl (by decide) (?_ : ky_V _ _ _ 41 _ _ _ _)
        refine v_iret (v := 0) (ty := .int) (i := 23) rfl rfl rfl ?_
        obtain ⟨rfl, rfl⟩ := ky_leaf e
        exact hr _ hmh9 frh9
    · replace e := ky_ifT c8 e
      refine v_iconst (v := 1) (i := 16) rfl (by decide) (?_ : ky_V _ _ _ 29 _ _ _ _)
      refine v_goto (tgt := 33) (i := 17) rfl (by decide) (?_ : ky_V _ _ _ 33 _ _ _ _)
      refine v_iconst (v := 2) (i := 19) rfl (by decide) (?_ : ky_V _ _ _ 34 _ _ _ _)
      refine cl_X12_241 (As := [.int 1, .int 2]) rfl (i := 20) rfl (md_0 hmh4) rfl rfl (Nat.le_of_ble_eq_true rfl) (k_X12_throwsIf 1 2 hmh4 (by decide) (fun h24 hmh24 frh24 => ⟨_, rfl, (?_ : ky_V _ _ _ 37 _ [.int ((md_throwsIf_r q5 1 2))] _ _)⟩))
      have frh24 := frh4.tr frh24
      refine v_topi (fun x26 ex26 => ?_)
      replace e := ky_letE ex26 e
      obtain ⟨q25, eq25⟩ : ∃ z, z = (md_throwsIf_c q5 1 2) := ⟨_, rfl⟩
      rw [← eq25] at hmh24
      replace e := ky_letE eq25 e
      refine v_if_eq (tgt := 42) (i := 21) rfl (by decide) (fun c27 => ?_) (fun c27 => ?_)
      · replace e := ky_ifT c27 e
        refine v_iload_n (i := 24) (j := 2) rfl rfl (?_ : ky_V _ _ _ 43 _ _ _ _)
        refine v_iconst (v := 2) (i := 25) rfl (by decide) (?_ : ky_V _ _ _ 44 _ _ _ _)
        refine v_icmp_ge (tgt := 56) (i := 26) rfl (by decide) (fun c28 => ?_) (fun c28 => ?_)
        · replace e := ky_ifT c28 e
          refine v_iload_n (i := 32) (j := 2) rfl rfl (?_ : ky_V _ _ _ 57 _ _ _ _)
          refine v_iconst (v := 2) (i := 33) rfl (by decide) (?_ : ky_V _ _ _ 58 _ _ _ _)
          refine v_icmp_ne (tgt := 69) (i := 34) rfl (by decide) (fun c29 => ?_) (fun c29 => ?_)
          · replace e := ky_ifF c29 e
            refine v_aload_n (i := 39) (j := 0) rfl rfl (?_ : ky_V _ _ _ 70 _ _ _ _)
            refine v_iload_n (i := 40) (j := 1) rfl rfl (?_ : ky_V _ _ _ 71 _ _ _ _)
            obtain ⟨⟨q31, x32⟩, g33, e⟩ := Option.bind_eq_some_iff.mp e
            refine cl_X12_421 (As := [.int p1]) rfl (i := 41) rfl (md_0 hmh24) rfl rfl (Nat.le_of_ble_eq_true rfl) (k_X12_farOf N hmh24 g33 (fun h30 hmh30 frh30 => ⟨_, rfl, (?_ : ky_V _ _ _ 74 _ [.int x32] _ _)⟩))
            have frh30 := frh24.tr frh30
            refine v_iret (v := x32) (ty := .int) (i := 42) rfl rfl rfl ?_
            obtain ⟨rfl, rfl⟩ := ky_leaf e
            exact hr _ hmh30 frh30
          · replace e := ky_ifT c29 e
            refine v_aload_n (i := 35) (j := 0) rfl rfl (?_ : ky_V _ _ _ 62 _ _ _ _)
            refine v_iload_n (i := 36) (j := 1) rfl rfl (?_ : ky_V _ _ _ 63 _ _ _ _)
            obtain ⟨⟨q35, x36⟩, g37, e⟩ := Option.bind_eq_some_iff.mp e
            refine cl_X12_418 (As := [.int p1]) rfl (i := 37) rfl (md_0 hmh24) rfl rfl (Nat.le_of_ble_eq_true rfl) (k_X12_boardedOf N hmh24 g37 (fun h34 hmh34 frh34 => ⟨_, rfl, (?_ : ky_V _ _ _ 66 _ [.int x36] _ _)⟩))
            have frh34 := frh24.tr frh34
            refine v_goto (tgt := 74) (i := 38) rfl (by decide) (?_ : ky_V _ _ _ 74 _ _ _ _)
            refine v_iret (v := x36) (ty := .int) (i := 42) rfl rfl rfl ?_
            obtain ⟨rfl, rfl⟩ := ky_leaf e
            exact hr _ hmh34 frh34
        · replace e := ky_ifF c28 e
          refine v_aload_n (i := 27) (j := 0) rfl rfl (?_ : ky_V _ _ _ 48 _ _ _ _)
          refine v_iload_n (i := 28) (j := 1) rfl rfl (?_ : ky_V _ _ _ 49 _ _ _ _)
          refine v_iload_n (i := 29) (j := 2) rfl rfl (?_ : ky_V _ _ _ 50 _ _ _ _)
          obtain ⟨z38, e⟩ := ky_chkE e
          refine cl_X12_391 (As := [.int p1, .int p2]) rfl (i := 30) rfl (md_0 hmh24) rfl rfl (Nat.le_of_ble_eq_true rfl) (k_X12_ofPerson p1 p2 hmh24 (ky_inb z38) ⟨_, rfl, (?_ : ky_V _ _ _ 53 _ [.int ((md_ofPerson_r q25 p1 p2))] _ _)⟩)
          refine v_goto (tgt := 74) (i := 31) rfl (by decide) (?_ : ky_V _ _ _ 74 _ _ _ _)
          refine v_iret (v := (md_ofPerson_r q25 p1 p2)) (ty := .int) (i := 42) rfl rfl rfl ?_
          obtain ⟨rfl, rfl⟩ := ky_leaf e
          exact hr _ hmh24 frh24
      · replace e := ky_ifF c27 e
        refine v_iconst (v := 0) (i := 22) rfl (by decide) (?_ : ky_V _ _ _ 41 _ _ _ _)
        refine v_iret (v := 0) (ty := .int) (i := 23) rfl rfl rfl ?_
        obtain ⟨rfl, rfl⟩ := ky_leaf e
        exact hr _ hmh24 frh24

def md_trial (N : Nat) (c : (Nat → Nat → Int32)) (p1 : Int32) (p2 : Int32) : Option ((Nat → Nat → Int32) × Int32) := (ky_let (bk_w c 0 0 0) (fun q2 => (if (md_in p1 0 40) = 0 then (ky_let (md_throwsIf_r q2 1 1) (fun x29 => (ky_let (md_throwsIf_c q2 1 1) (fun q28 => (if x29 = 0 then ((md_keepsAll N q28).bind (fun zz => (fun q32 x33 => ((md_makesByDraws N q32 p1).bind (fun zz => (fun q36 x37 => (if p2 = 0 then (ky_let ((q36 1 0) + (q36 1 1)) (fun x40 => ((md_bringsBack N q36).bind (fun zz => (fun q42 x43 => (some (q42, x40))) zz.1 zz.2)))) else (ky_let (q36 1 7) (fun x45 => ((md_bringsBack N q36).bind (fun zz => (fun q47 x48 => (some (q47, x45))) zz.1 zz.2)))))) zz.1 zz.2))) zz.1 zz.2)) else (some (q28, 0))))))) else (ky_let (md_throwsIf_r q2 0 1) (fun x6 => (ky_let (md_throwsIf_c q2 0 1) (fun q5 => (if x6 = 0 then ((md_keepsAll N q5).bind (fun zz => (fun q9 x10 => ((md_makesByDraws N q9 p1).bind (fun zz => (fun q13 x14 => (if p2 = 0 then (ky_let ((q13 1 0) + (q13 1 1)) (fun x17 => ((md_bringsBack N q13).bind (fun zz => (fun q19 x20 => (some (q19, x17))) zz.1 zz.2)))) else (ky_let (q13 1 7) (fun x22 => ((md_bringsBack N q13).bind (fun zz => (fun q24 x25 => (some (q24, x22))) zz.1 zz.2)))))) zz.1 zz.2))) zz.1 zz.2)) else (some (q5, 0))))))))))
set_option maxRecDepth 20000 in
set_option maxHeartbeats 4000000 in
theorem k_X12_trial {G : ky_GW} {d : Nat} {h : ky_HP} {Q : ky_RS → ky_HP → Prop} {a : Nat} {c c9 : (Nat → Nat → Int32)} {r9 : Int32} {p1 : Int32} {p2 : Int32} (N : Nat) (hm : md_at G h a c) (e : md_trial N c p1 p2 = some (c9, r9)) (hr : ∀ h1, md_at G h1 a c9 → bk_fr a 13 h h1 → Q (.inl (some (.int r9))) h1) : ky_Call G (d + 6) M_X12_trial [.ref a, .int p1, .int p2] h Q := by
  refine ky_ofV (by decide +kernel) rfl ok_X12_trial (Nat.le_of_ble_eq_true rfl) ?_
  have fr : bk_fr a 13 h h := bk_fr.rf
  unfold md_trial at e
  refine (?_ : ky_V _ _ _ 0 [(0, .ref a), (1, .int p1), (2, .int p2)] [] _ _)
  refine v_aload_n (i := 0) (j := 0) rfl rfl (?_ : ky_V _ _ _ 1 _ _ _ _)
  refine v_iconst (v := 0) (i := 1) rfl (by decide) (?_ : ky_V _ _ _ 2 _ _ _ _)
  refine pf_X12_3 rfl (i := 2) rfl (md_0 hm) (Nat.le_of_ble_eq_true rfl) rfl rfl ?_
  refine bk_st (B := md_B G a) hm fr 0 0 0 (by decide) (fun h1 hmh1 frh1 => ?_)
  obtain ⟨q2, eq2⟩ : ∃ z, z = (bk_w c 0 0 0) := ⟨_, rfl⟩
  rw [← eq2] at hmh1
  replace e := ky_letE eq2 e
  refine (?_ : ky_V _ _ _ 5 _ _ _ _)
  refine v_aload_n (i := 3) (j := 0) rfl rfl (?_ : ky_V _ _ _ 6 _ _ _ _)
  refine v_iload_n (i := 4) (j := 1) rfl rfl (?_ : ky_V _ _ _ 7 _ _ _ _)
  refine v_iconst (v := 0) (i := 5) rfl (by decide) (?_ : ky_V _ _ _ 8 _ _ _ _)
  refine v_bipush (v := 40) (i := 6) rfl (by decide) (?_ : ky_V _ _ _ 10 _ _ _ _)
  refine cl_X12_65 (As := [.int p1, .int 0, .int 40]) rfl (i := 7) rfl rfl rfl (Nat.le_of_ble_eq_true rfl) (k_X12_in p1 0 40 ⟨_, rfl, (?_ : ky_V _ _ _ 13 _ [.int ((md_in p1 0 40)), .ref a] _ _)⟩)
  refine v_if_ne (tgt := 20) (i := 8) rfl (by decide) (fun c3 => ?_) (fun c3 => ?_)
  · replace e := ky_ifF c3 e
    refine v_iconst (v := 0) (i := 11) rfl (by decide) (?_ : ky_V _ _ _ 21 _ _ _ _)
    refine v_iconst (v := 1) (i := 12) rfl (by decide) (?_ : ky_V _ _ _ 22 _ _ _ _)
    refine cl_X12_241 (As := [.int 0, .int 1]) rfl (i := 13) rfl (md_0 hmh1) rfl rfl (Nat.le_of_ble_eq_true rfl) (k_X12_throwsIf 0 1 hmh1 (by decide) (fun h4 hmh4 frh4 => ⟨_, rfl, (?_ : ky_V _ _ _ 25 _ [.int ((md_throwsIf_r q2 0 1))] _ _)⟩))
    have frh4 := frh1.tr frh4
    refine v_topi (fun x6 ex6 => ?_)
    replace e := ky_letE ex6 e
    obtain ⟨q5, eq5⟩ : ∃ z, z = (md_throwsIf_c q2 0 1) := ⟨_, rfl⟩
    rw [← eq5] at hmh4
    replace e := ky_letE eq5 e
    refine v_if_eq (tgt := 30) (i := 14) rfl (by decide) (fun c7 => ?_) (fun c7 => ?_)
    · replace e := ky_ifT c7 e
      refine v_aload_n (i := 17) (j := 0) rfl rfl (?_ : ky_V _ _ _ 31 _ _ _ _)
      obtain ⟨⟨q9, x10⟩, g11, e⟩ := Option.bind_eq_some_iff.mp e
      refine cl_X12_443 (As := []) rfl (i := 18) rfl (md_0 hmh4) rfl rfl (Nat.le_of_ble_eq_true rfl) (k_X12_keepsAll N hmh4 g11 (fun h8 hmh8 frh8 => ⟨_, rfl, (?_ : ky_V _ _ _ 34 _ [] _ _)⟩))
      have frh8 := frh4.tr frh8
      refine v_aload_n (i := 19) (j := 0) rfl rfl (?_ : ky_V _ _ _ 35 _ _ _ _)
      refine v_iload_n (i := 20) (j := 1) rfl rfl (?_ : ky_V _ _ _ 36 _ _ _ _)
      obtain ⟨⟨q13, x14⟩, g15, e⟩ := Option.bind_eq_some_iff.mp e
      refine cl_X12_400 (As := [.int p1]) rfl (i := 21) rfl (md_0 hmh8) rfl rfl (Nat.le_of_ble_eq_true rfl) (k_X12_makesByDraws N hmh8 g15 (fun h12 hmh12 frh12 => ⟨_, rfl, (?_ : ky_V _ _ _ 39 _ [.int x14] _ _)⟩))
      have frh12 := frh8.tr frh12
      refine v_pop (i := 22) rfl rfl (?_ : ky_V _ _ _ 40 _ _ _ _)
      refine v_iload_n (i := 23) (j := 2) rfl rfl (?_ : ky_V _ _ _ 41 _ _ _ _)
      refine v_if_eq (tgt := 54) (i := 24) rfl (by decide) (fun c16 => ?_) (fun c16 => ?_)
      · replace e := ky_ifT c16 e
        refine v_aload_n (i := 30) (j := 0) rfl rfl (?_ : ky_V _ _ _ 55 _ _ _ _)
        refine gf_X12_13 rfl (i := 31) rfl (md_0 hmh12) rfl (?_ : ky_V _ _ _ 58 _ _ _ _)
        refine v_iconst (v := 0) (i := 32) rfl (by decide) (?_ : ky_V _ _ _ 59 _ _ _ _)
        refine v_iald (i := 33) rfl (md_1 hmh12) (ky_inl (by decide)) (?_ : ky_V _ _ _ 60 _ (.int (q13 1 0) :: _) _ _)
        refine v_aload_n (i := 34) (j := 0) rfl rfl (?_ : ky_V _ _ _ 61 _ _ _ _)
        refine gf_X12_13 rfl (i := 35) rfl (md_0 hmh12) rfl (?_ : ky_V _ _ _ 64 _ _ _ _)
        refine v_iconst (v := 1) (i := 36) rfl (by decide) (?_ : ky_V _ _ _ 65 _ _ _ _)
        refine v_iald (i := 37) rfl (md_1 hmh12) (ky_inl (by decide)) (?_ : ky_V _ _ _ 66 _ (.int (q13 1 1) :: _) _ _)
        refine v_iadd (i := 38) rfl (?_ : ky_V _ _ _ 67 _ _ _ _)
        refine v_topi (fun x17 ex17 => ?_)
        replace e := ky_letE ex17 e
        refine v_istore_n (L' := [(0, .ref a), (1, .int p1), (2, .int p2), (3, .int x17)]) [1, 2, 3, 0] (i := 39) rfl (Nat.le_of_ble_eq_true rfl) rfl (?_ : ky_V _ _ _ 68 _ _ _ _)
        refine v_aload_n (i := 40) (j := 0) rfl rfl (?_ : ky_V _ _ _ 69 _ _ _ _)
        obtain ⟨⟨q19, x20⟩, g21, e⟩ := Option.bind_eq_some_iff.mp e
        refine cl_X12_446 (As := []) rfl (i := 41) rfl (md_0 hmh12) rfl rfl (Nat.le_of_ble_eq_true rfl) (k_X12_bringsBack N hmh12 g21 (fun h18 hmh18 frh18 => ⟨_, rfl, (?_ : ky_V _ _ _ 72 _ [] _ _)⟩))
        have frh18 := frh12.tr frh18
        refine v_iload_n (i := 42) (j := 3) rfl rfl (?_ : ky_V _ _ _ 73 _ _ _ _)
        refine v_iret (v := x17) (ty := .int) (i := 43) rfl rfl rfl ?_
        obtain ⟨rfl, rfl⟩ := ky_leaf e
        exact hr _ hmh18 frh18
      · replace e := ky_ifF c16 e
        refine v_aload_n (i := 25) (j := 0) rfl rfl (?_ : ky_V _ _ _ 45 _ _ _ _)
        refine gf_X12_13 rfl (i := 26) rfl (md_0 hmh12) rfl (?_ : ky_V _ _ _ 48 _ _ _ _)
        refine v_bipush (v := 7) (i := 27) rfl (by decide) (?_ : ky_V _ _ _ 50 _ _ _ _)
        refine v_iald (i := 28) rfl (md_1 hmh12) (ky_inl (by decide)) (?_ : ky_V _ _ _ 51 _ (.int (q13 1 7) :: _) _ _)
        refine v_goto (tgt := 67) (i := 29) rfl (by decide) (?_ : ky_V _ _ _ 67 _ _ _ _)
        refine v_topi (fun x22 ex22 => ?_)
        replace e := ky_letE ex22 e
        refine v_istore_n (L' := [(0, .ref a), (1, .int p1), (2, .int p2), (3, .int x22)]) [1, 2, 3, 0] (i := 39) rfl (Nat.le_of_ble_eq_true rfl) rfl (?_ : ky_V _ _ _ 68 _ _ _ _)
        refine v_aload_n (i := 40) (j := 0) rfl rfl (?_ : ky_V _ _ _ 69 _ _ _ _)
        obtain ⟨⟨q24, x25⟩, g26, e⟩ := Option.bind_eq_some_iff.mp e
        refine cl_X12_446 (As := []) rfl (i := 41) rfl (md_0 hmh12) rfl rfl (Nat.le_of_ble_eq_true rfl) (k_X12_bringsBack N hmh12 g26 (fun h23 hmh23 frh23 => ⟨_, rfl, (?_ : ky_V _ _ _ 72 _ [] _ _)⟩))
        have frh23 := frh12.tr frh23
        refine v_iload_n (i := 42) (j := 3) rfl rfl (?_ : ky_V _ _ _ 73 _ _ _ _)
        refine v_iret (v := x22) (ty := .int) (i := 43) rfl rfl rfl ?_
        obtain ⟨rfl, rfl⟩ := ky_leaf e
        exact hr _ hmh23 frh23
    · replace e := ky_ifF c7 e
      refine v_iconst (v := 0) (i := 15) rfl (by decide) (?_ : ky_V _ _ _ 29 _ _ _ _)
      refine v_iret (v := 0) (ty := .int) (i := 16) rfl rfl rfl ?_
      obtain ⟨rfl, rfl⟩ := ky_leaf e
      exact hr _ hmh4 frh4
  · replace e := ky_ifT c3 e
    refine v_iconst (v := 1) (i := 9) rfl (by decide) (?_ : ky_V _ _ _ 17 _ _ _ _)
    refine v_goto (tgt := 21) (i := 10) rfl (by decide) (?_ : ky_V _ _ _ 21 _ _ _ _)
    refine v_iconst (v := 1) (i := 12) rfl (by decide) (?_ : ky_V _ _ _ 22 _ _ _ _)
    refine cl_X12_241 (As := [.int 1, .int 1]) rfl (i := 13) rfl (md_0 hmh1) rfl rfl (Nat.le_of_ble_eq_true rfl) (k_X12_throwsIf 1 1 hmh1 (by decide) (fun h27 hmh27 frh27 => ⟨_, rfl, (?_ : ky_V _ _ _ 25 _ [.int ((md_throwsIf_r q2 1 1))] _ _)⟩))
    have frh27 := frh1.tr frh27
    refine v_topi (fun x29 ex29 => ?_)
    replace e := ky_letE ex29 e
    obtain ⟨q28, eq28⟩ : ∃ z, z = (md_throwsIf_c q2 1 1) := ⟨_, rfl⟩
    rw [← eq28] at hmh27
    replace e := ky_letE eq28 e
    refine v_if_eq (tgt := 30) (i := 14) rfl (by decide) (fun c30 => ?_) (fun c30 => ?_)
    · replace e := ky_ifT c30 e
      refine v_aload_n (i := 17) (j := 0) rfl rfl (?_ : ky_V _ _ _ 31 _ _ _ _)
      obtain ⟨⟨q32, x33⟩, g34, e⟩ := Option.bind_eq_some_iff.mp e
      refine cl_X12_443 (As := []) rfl (i := 18) rfl (md_0 hmh27) rfl rfl (Nat.le_of_ble_eq_true rfl) (k_X12_keepsAll N hmh27 g34 (fun h31 hmh31 frh31 => ⟨_, rfl, (?_ : ky_V _ _ _ 34 _ [] _ _)⟩))
      have frh31 := frh27.tr frh31
      refine v_aload_n (i := 19) (j := 0) rfl rfl (?_ : ky_V _ _ _ 35 _ _ _ _)
      refine v_iload_n (i := 20) (j := 1) rfl rfl (?_ : ky_V _ _ _ 36 _ _ _ _)
      obtain ⟨⟨q36, x37⟩, g38, e⟩ := Option.bind_eq_some_iff.mp e
      refine cl_X12_400 (As := [.int p1]) rfl (i := 21) rfl (md_0 hmh31) rfl rfl (Nat.le_of_ble_eq_true rfl) (k_X12_makesByDraws N hmh31 g38 (fun h35 hmh35 frh35 => ⟨_, rfl, (?_ : ky_V _ _ _ 39 _ [.int x37] _ _)⟩))
      have frh35 := frh31.tr frh35
      refine v_pop (i := 22) rfl rfl (?_ : ky_V _ _ _ 40 _ _ _ _)
      refine v_iload_n (i := 23) (j := 2) rfl rfl (?_ : ky_V _ _ _ 41 _ _ _ _)
      refine v_if_eq (tgt := 54) (i := 24) rfl (by decide) (fun c39 => ?_) (fun c39 => ?_)
      · replace e := ky_ifT c39 e
        refine v_aload_n (i := 30) (j := 0) rfl rfl (?_ : ky_V _ _ _ 55 _ _ _ _)
        refine gf_X12_13 rfl (i := 31) rfl (md_0 hmh35) rfl (?_ : ky_V _ _ _ 58 _ _ _ _)
        refine v_iconst (v := 0) (i := 32) rfl (by decide) (?_ : ky_V _ _ _ 59 _ _ _ _)
        refine v_iald (i := 33) rfl (md_1 hmh35) (ky_inl (by decide)) (?_ : ky_V _ _ _ 60 _ (.int (q36 1 0) :: _) _ _)
        refine v_aload_n (i := 34) (j := 0) rfl rfl (?_ : ky_V _ _ _ 61 _ _ _ _)
        refine gf_X12_13 rfl (i := 35) rfl (md_0 hmh35) rfl (?_ : ky_V _ _ _ 64 _ _ _ _)
        refine v_iconst (v := 1) (i := 36) rfl (by decide) (?_ : ky_V _ _ _ 65 _ _ _ _)
        refine v_iald (i := 37) rfl (md_1 hmh35) (ky_inl (by decide)) (?_ : ky_V _ _ _ 66 _ (.int (q36 1 1) :: _) _ _)
        refine v_iadd (i := 38) rfl (?_ : ky_V _ _ _ 67 _ _ _ _)
        refine v_topi (fun x40 ex40 => ?_)
        replace e := ky_letE ex40 e
        refine v_istore_n (L' := [(0, .ref a), (1, .int p1), (2, .int p2), (3, .int x40)]) [1, 2, 3, 0] (i := 39) rfl (Nat.le_of_ble_eq_true rfl) rfl (?_ : ky_V _ _ _ 68 _ _ _ _)
        refine v_aload_n (i := 40) (j := 0) rfl rfl (?_ : ky_V _ _ _ 69 _ _ _ _)
        obtain ⟨⟨q42, x43⟩, g44, e⟩ := Option.bind_eq_some_iff.mp e
        refine cl_X12_446 (As := []) rfl (i := 41) rfl (md_0 hmh35) rfl rfl (Nat.le_of_ble_eq_true rfl) (k_X12_bringsBack N hmh35 g44 (fun h41 hmh41 frh41 => ⟨_, rfl, (?_ : ky_V _ _ _ 72 _ [] _ _)⟩))
        have frh41 := frh35.tr frh41
        refine v_iload_n (i := 42) (j := 3) rfl rfl (?_ : ky_V _ _ _ 73 _ _ _ _)
        refine v_iret (v := x40) (ty := .int) (i := 43) rfl rfl rfl ?_
        obtain ⟨rfl, rfl⟩ := ky_leaf e
        exact hr _ hmh41 frh41
      · replace e := ky_ifF c39 e
        refine v_aload_n (i := 25) (j := 0) rfl rfl (?_ : ky_V _ _ _ 45 _ _ _ _)
        refine gf_X12_13 rfl (i := 26) rfl (md_0 hmh35) rfl (?_ : ky_V _ _ _ 48 _ _ _ _)
        refine v_bipush (v := 7) (i := 27) rfl (by decide) (?_ : ky_V _ _ _ 50 _ _ _ _)
        refine v_iald (i := 28) rfl (md_1 hmh35) (ky_inl (by decide)) (?_ : ky_V _ _ _ 51 _ (.int (q36 1 7) :: _) _ _)
        refine v_goto (tgt := 67) (i := 29) rfl (by decide) (?_ : ky_V _ _ _ 67 _ _ _ _)
        refine v_topi (fun x45 ex45 => ?_)
        replace e := ky_letE ex45 e
        refine v_istore_n (L' := [(0, .ref a), (1, .int p1), (2, .int p2), (3, .int x45)]) [1, 2, 3, 0] (i := 39) rfl (Nat.le_of_ble_eq_true rfl) rfl (?_ : ky_V _ _ _ 68 _ _ _ _)
        refine v_aload_n (i := 40) (j := 0) rfl rfl (?_ : ky_V _ _ _ 69 _ _ _ _)
        obtain ⟨⟨q47, x48⟩, g49, e⟩ := Option.bind_eq_some_iff.mp e
        refine cl_X12_446 (As := []) rfl (i := 41) rfl (md_0 hmh35) rfl rfl (Nat.le_of_ble_eq_true rfl) (k_X12_bringsBack N hmh35 g49 (fun h46 hmh46 frh46 => ⟨_, rfl, (?_ : ky_V _ _ _ 72 _ [] _ _)⟩))
        have frh46 := frh35.tr frh46
        refine v_iload_n (i := 42) (j := 3) rfl rfl (?_ : ky_V _ _ _ 73 _ _ _ _)
        refine v_iret (v := x45) (ty := .int) (i := 43) rfl rfl rfl ?_
        obtain ⟨rfl, rfl⟩ := ky_leaf e
        exact hr _ hmh46 frh46
    · replace e := ky_ifF c30 e
      refine v_iconst (v := 0) (i := 15) rfl (by decide) (?_ : ky_V _ _ _ 29 _ _ _ _)
      refine v_iret (v := 0) (ty := .int) (i := 16) rfl rfl rfl ?_
      obtain ⟨rfl, rfl⟩ := ky_leaf e
      exact hr _ hmh27 frh27

def md_span_L39 (N : Nat) (k : (Nat → Nat → Int32) → Int32 → Int32 → Int32 → Int32 → Option ((Nat → Nat → Int32) × Int32)) : Nat → (Nat → Nat → Int32) → Int32 → Int32 → Int32 → Int32 → Option ((Nat → Nat → Int32) × Int32)
  | 0, _, _, _, _, _ => none
  | n + 1, c, p1, p2, p3, p4 => (if (6 : Int32) < p4 then (k c p1 p2 p3 p4) else (ky_let (bk_w c 1 16 p4) (fun q3 => ((md_makesByDraws N q3 p1).bind (fun zz => (fun q5 x6 => (ky_let ((q5 1 0) + (q5 1 1)) (fun x8 => ((md_bringsBack N q5).bind (fun zz => (fun q10 x11 => (if 0 ≤ p3 then (if p2 = 0 then (ky_let (mt_min p3 x8) (fun x15 => (ky_let (p4 + 1) (fun x16 => (md_span_L39 N k n q10 p1 p2 x15 x16))))) else (ky_let (mt_max p3 x8) (fun x17 => (ky_let (p4 + 1) (fun x18 => (md_span_L39 N k n q10 p1 p2 x17 x18)))))) else (ky_let (p4 + 1) (fun x19 => (md_span_L39 N k n q10 p1 p2 x8 x19))))) zz.1 zz.2))))) zz.1 zz.2)))))
set_option maxRecDepth 20000 in
set_option maxHeartbeats 4000000 in
theorem lv_X12_span_39 {G : ky_GW} {d : Nat} {h0 : ky_HP} {Q : ky_RS → ky_HP → Prop} {a : Nat} {c9 : (Nat → Nat → Int32)} {r9 : Int32} (N : Nat) (k : (Nat → Nat → Int32) → Int32 → Int32 → Int32 → Int32 → Option ((Nat → Nat → Int32) × Int32)) (hr : ∀ h1, md_at G h1 a c9 → bk_fr a 13 h0 h1 → Q (.inl (some (.int r9))) h1)
    (hk : ∀ (h : ky_HP) (c : (Nat → Nat → Int32)) (p1 : Int32) (p2 : Int32) (p3 : Int32) (p4 : Int32), md_at G h a c → bk_fr a 13 h0 h → k c p1 p2 p3 p4 = some (c9, r9) → ky_V G (d + 6) M_X12_span 115 [(0, .ref a), (1, .int p1), (2, .int p2), (3, .int p3), (4, .int p4)] [] h Q) :
    ∀ (n : Nat) (h : ky_HP) (c : (Nat → Nat → Int32)) (p1 : Int32) (p2 : Int32) (p3 : Int32) (p4 : Int32), md_at G h a c → bk_fr a 13 h0 h → md_span_L39 N k n c p1 p2 p3 p4 = some (c9, r9) → ky_V G (d + 6) M_X12_span 39 [(0, .ref a), (1, .int p1), (2, .int p2), (3, .int p3), (4, .int p4)] [] h Q := by
  intro n
  induction n with
  | zero => intro h c p1 p2 p3 p4 hm fr e; cases e
  | succ n ih =>
    intro h c p1 p2 p3 p4 hm fr e
    rw [md_span_L39] at e
    refine v_iload (i := 23) (j := 4) rfl rfl (?_ : ky_V _ _ _ 41 _ _ _ _)
    refine v_bipush (v := 6) (i := 24) rfl (by decide) (?_ : ky_V _ _ _ 43 _ _ _ _)
    refine v_icmp_gt (tgt := 115) (i := 25) rfl (by decide) (fun c1 => ?_) (fun c1 => ?_)
    · replace e := ky_ifT c1 e
      exact hk h c p1 p2 p3 p4 hm fr e
    · replace e := ky_ifF c1 e
      refine v_aload_n (i := 26) (j := 0) rfl rfl (?_ : ky_V _ _ _ 47 _ _ _ _)
      refine gf_X12_13 rfl (i := 27) rfl (md_0 hm) rfl (?_ : ky_V _ _ _ 50 _ _ _ _)
      refine v_bipush (v := 16) (i := 28) rfl (by decide) (?_ : ky_V _ _ _ 52 _ _ _ _)
      refine v_iload (i := 29) (j := 4) rfl rfl (?_ : ky_V _ _ _ 54 _ _ _ _)
      refine v_iast (i := 30) rfl (md_1 hm) (ky_inl (by decide)) ?_
      refine bk_st (B := md_B G a) hm fr 1 16 p4 (by decide) (fun h2 hmh2 frh2 => ?_)
      obtain ⟨q3, eq3⟩ : ∃ z, z = (bk_w c 1 16 p4) := ⟨_, rfl⟩
      rw [← eq3] at hmh2
      replace e := ky_letE eq3 e
      refine (?_ : ky_V _ _ _ 55 _ _ _ _)
      refine v_aload_n (i := 31) (j := 0) rfl rfl (?_ : ky_V _ _ _ 56 _ _ _ _)
      refine v_iload_n (i := 32) (j := 1) rfl rfl (?_ : ky_V _ _ _ 57 _ _ _ _)
      obtain ⟨⟨q5, x6⟩, g7, e⟩ := Option.bind_eq_some_iff.mp e
      refine cl_X12_400 (As := [.int p1]) rfl (i := 33) rfl (md_0 hmh2) rfl rfl (Nat.le_of_ble_eq_true rfl) (k_X12_makesByDraws N hmh2 g7 (fun h4 hmh4 frh4 => ⟨_, rfl, (?_ : ky_V _ _ _ 60 _ [.int x6] _ _)⟩))
      have frh4 := frh2.tr frh4
      refine v_pop (i := 34) rfl rfl (?_ : ky_V _ _ _ 61 _ _ _ _)
      refine v_aload_n (i := 35) (j := 0) rfl rfl (?_ : ky_V _ _ _ 62 _ _ _ _)
      refine gf_X12_13 rfl (i := 36) rfl (md_0 hmh4) rfl (?_ : ky_V _ _ _ 65 _ _ _ _)
      refine v_iconst (v := 0) (i := 37) rfl (by decide) (?_ : ky_V _ _ _ 66 _ _ _ _)
      refine v_iald (i := 38) rfl (md_1 hmh4) (ky_inl (by decide)) (?_ : ky_V _ _ _ 67 _ (.int (q5 1 0) :: _) _ _)
      refine v_aload_n (i := 39) (j := 0) rfl rfl (?_ : ky_V _ _ _ 68 _ _ _ _)
      refine gf_X12_13 rfl (i := 40) rfl (md_0 hmh4) rfl (?_ : ky_V _ _ _ 71 _ _ _ _)
      refine v_iconst (v := 1) (i := 41) rfl (by decide) (?_ : ky_V _ _ _ 72 _ _ _ _)
      refine v_iald (i := 42) rfl (md_1 hmh4) (ky_inl (by decide)) (?_ : ky_V _ _ _ 73 _ (.int (q5 1 1) :: _) _ _)
      refine v_iadd (i := 43) rfl (?_ : ky_V _ _ _ 74 _ _ _ _)
      refine v_topi (fun x8 ex8 => ?_)
      replace e := ky_letE ex8 e
      refine v_istore (L' := [(0, .ref a), (1, .int p1), (2, .int p2), (3, .int p3), (4, .int p4), (5, .int x8)]) [1, 2, 3, 4, 5, 0] (i := 44) rfl (Nat.le_of_ble_eq_true rfl) rfl (?_ : ky_V _ _ _ 76 _ _ _ _)
      refine v_aload_n (i := 45) (j := 0) rfl rfl (?_ : ky_V _ _ _ 77 _ _ _ _)
      obtain ⟨⟨q10, x11⟩, g12, e⟩ := Option.bind_eq_some_iff.mp e
      refine cl_X12_446 (As := []) rfl (i := 46) rfl (md_0 hmh4) rfl rfl (Nat.le_of_ble_eq_true rfl) (k_X12_bringsBack N hmh4 g12 (fun h9 hmh9 frh9 => ⟨_, rfl, (?_ : ky_V _ _ _ 80 _ [] _ _)⟩))
      have frh9 := frh4.tr frh9
      refine v_iload_n (i := 47) (j := 3) rfl rfl (?_ : ky_V _ _ _ 81 _ _ _ _)
      refine v_if_ge (tgt := 89) (i := 48) rfl (by decide) (fun c13 => ?_) (fun c13 => ?_)
      · replace e := ky_ifT c13 e
        refine v_iload_n (i := 51) (j := 2) rfl rfl (?_ : ky_V _ _ _ 90 _ _ _ _)
        refine v_if_eq (tgt := 102) (i := 52) rfl (by decide) (fun c14 => ?_) (fun c14 => ?_)
        · replace e := ky_ifT c14 e
          refine v_iload_n (i := 57) (j := 3) rfl rfl (?_ : ky_V _ _ _ 103 _ _ _ _)
          refine v_iload (i := 58) (j := 5) rfl rfl (?_ : ky_V _ _ _ 105 _ _ _ _)
          refine cl_X12_260 rfl (i := 59) rfl (Nat.le_of_ble_eq_true rfl) (?_ : ky_V _ _ _ 108 _ _ _ _)
          refine v_topi (fun x15 ex15 => ?_)
          replace e := ky_letE ex15 e
          refine v_istore_n (L' := [(0, .ref a), (1, .int p1), (2, .int p2), (3, .int x15), (4, .int p4), (5, .int x8)]) [1, 2, 3, 0, 4, 5] (i := 60) rfl (Nat.le_of_ble_eq_true rfl) rfl (?_ : ky_V _ _ _ 109 _ _ _ _)
          obtain ⟨x16, ex16⟩ : ∃ z : Int32, z = p4 + 1 := ⟨_, rfl⟩
          replace e := ky_letE ex16 e
          refine v_iinc (v := x16) (j := 4) (L' := [(0, .ref a), (1, .int p1), (2, .int p2), (3, .int x15), (4, .int x16), (5, .int x8)]) [1, 2, 3, 4, 0, 5] (i := 61) rfl rfl (by rw [ex16]; rfl) (Nat.le_of_ble_eq_true rfl) rfl (?_ : ky_V _ _ _ 112 _ _ _ _)
          refine v_goto (tgt := 39) (i := 62) rfl (by decide) (?_ : ky_V _ _ _ 39 _ _ _ _)
          refine ky_loc (L' := [(0, .ref a), (1, .int p1), (2, .int p2), (3, .int x15), (4, .int x16)]) (by simp) ?_
          exact ih h9 q10 p1 p2 x15 x16 hmh9 frh9 e
        · replace e := ky_ifF c14 e
          refine v_iload_n (i := 53) (j := 3) rfl rfl (?_ : ky_V _ _ _ 94 _ _ _ _)
          refine v_iload (i := 54) (j := 5) rfl rfl (?_ : ky_V _ _ _ 96 _ _ _ _)
          refine cl_X12_255 rfl (i := 55) rfl (Nat.le_of_ble_eq_true rfl) (?_ : ky_V _ _ _ 99 _ _ _ _)
          refine v_goto (tgt := 108) (i := 56) rfl (by decide) (?_ : ky_V _ _ _ 108 _ _ _ _)
          refine v_topi (fun x17 ex17 => ?_)
          replace e := ky_letE ex17 e
          refine v_istore_n (L' := [(0, .ref a), (1, .int p1), (2, .int p2), (3, .int x17), (4, .int p4), (5, .int x8)]) [1, 2, 3, 0, 4, 5] (i := 60) rfl (Nat.le_of_ble_eq_true rfl) rfl (?_ : ky_V _ _ _ 109 _ _ _ _)
          obtain ⟨x18, ex18⟩ : ∃ z : Int32, z = p4 + 1 := ⟨_, rfl⟩
          replace e := ky_letE ex18 e
          refine v_iinc (v := x18) (j := 4) (L' := [(0, .ref a), (1, .int p1), (2, .int p2), (3, .int x17), (4, .int x18), (5, .int x8)]) [1, 2, 3, 4, 0, 5] (i := 61) rfl rfl (by rw [ex18]; rfl) (Nat.le_of_ble_eq_true rfl) rfl (?_ : ky_V _ _ _ 112 _ _ _ _)
          refine v_goto (tgt := 39) (i := 62) rfl (by decide) (?_ : ky_V _ _ _ 39 _ _ _ _)
          refine ky_loc (L' := [(0, .ref a), (1, .int p1), (2, .int p2), (3, .int x17), (4, .int x18)]) (by simp) ?_
          exact ih h9 q10 p1 p2 x17 x18 hmh9 frh9 e
      · replace e := ky_ifF c13 e
        refine v_iload (i := 49) (j := 5) rfl rfl (?_ : ky_V _ _ _ 86 _ _ _ _)
        refine v_goto (tgt := 108) (i := 50) rfl (by decide) (?_ : ky_V _ _ _ 108 _ _ _ _)
        refine v_istore_n (L' := [(0, .ref a), (1, .int p1), (2, .int p2), (3, .int x8), (4, .int p4), (5, .int x8)]) [1, 2, 3, 0, 4, 5] (i := 60) rfl (Nat.le_of_ble_eq_true rfl) rfl (?_ : ky_V _ _ _ 109 _ _ _ _)
        obtain ⟨x19, ex19⟩ : ∃ z : Int32, z = p4 + 1 := ⟨_, rfl⟩
        replace e := ky_letE ex19 e
        refine v_iinc (v := x19) (j := 4) (L' := [(0, .ref a), (1, .int p1), (2, .int p2), (3, .int x8), (4, .int x19), (5, .int x8)]) [1, 2, 3, 4, 0, 5] (i := 61) rfl rfl (by rw [ex19]; rfl) (Nat.le_of_ble_eq_true rfl) rfl (?_ : ky_V _ _ _ 112 _ _ _ _)
        refine v_goto (tgt := 39) (i := 62) rfl (by decide) (?_ : ky_V _ _ _ 39 _ _ _ _)
        refine ky_loc (L' := [(0, .ref a), (1, .int p1), (2, .int p2), (3, .int x8), (4, .int x19)]) (by simp) ?_
        exact ih h9 q10 p1 p2 x8 x19 hmh9 frh9 e

def md_span (N : Nat) (c : (Nat → Nat → Int32)) (p1 : Int32) (p2 : Int32) : Option ((Nat → Nat → Int32) × Int32) := (ky_let (bk_w c 0 0 0) (fun q2 => (if (md_in p1 0 40) = 0 then (ky_let (md_throwsIf_r q2 1 1) (fun x20 => (ky_let (md_throwsIf_c q2 1 1) (fun q19 => (if x20 = 0 then ((md_keepsAll N q19).bind (fun zz => (fun q23 x24 => (md_span_L39 N (fun q27 x28 x29 x30 x31 => (some (q27, x30))) N q23 p1 p2 (-1) 1)) zz.1 zz.2)) else (some (q19, 0))))))) else (ky_let (md_throwsIf_r q2 0 1) (fun x6 => (ky_let (md_throwsIf_c q2 0 1) (fun q5 => (if x6 = 0 then ((md_keepsAll N q5).bind (fun zz => (fun q9 x10 => (md_span_L39 N (fun q13 x14 x15 x16 x17 => (some (q13, x16))) N q9 p1 p2 (-1) 1)) zz.1 zz.2)) else (some (q5, 0))))))))))
set_option maxRecDepth 20000 in
set_option maxHeartbeats 4000000 in
theorem k_X12_span {G : ky_GW} {d : Nat} {h : ky_HP} {Q : ky_RS → ky_HP → Prop} {a : Nat} {c c9 : (Nat → Nat → Int32)} {r9 : Int32} {p1 : Int32} {p2 : Int32} (N : Nat) (hm : md_at G h a c) (e : md_span N c p1 p2 = some (c9, r9)) (hr : ∀ h1, md_at G h1 a c9 → bk_fr a 13 h h1 → Q (.inl (some (.int r9))) h1) : ky_Call G (d + 6) M_X12_span [.ref a, .int p1, .int p2] h Q := by
  refine ky_ofV (by decide +kernel) rfl ok_X12_span (Nat.le_of_ble_eq_true rfl) ?_
  have fr : bk_fr a 13 h h := bk_fr.rf
  unfold md_span at e
  refine (?_ : ky_V _ _ _ 0 [(0, .ref a), (1, .int p1), (2, .int p2)] [] _ _)
  refine v_aload_n (i := 0) (j := 0) rfl rfl (?_ : ky_V _ _ _ 1 _ _ _ _)
  refine v_iconst (v := 0) (i := 1) rfl (by decide) (?_ : ky_V _ _ _ 2 _ _ _ _)
  refine pf_X12_3 rfl (i := 2) rfl (md_0 hm) (Nat.le_of_ble_eq_true rfl) rfl rfl ?_
  refine bk_st (B := md_B G a) hm fr 0 0 0 (by decide) (fun h1 hmh1 frh1 => ?_)
  obtain ⟨q2, eq2⟩ : ∃ z, z = (bk_w c 0 0 0) := ⟨_, rfl⟩
  rw [← eq2] at hmh1
  replace e := ky_letE eq2 e
  refine (?_ : ky_V _ _ _ 5 _ _ _ _)
  refine v_aload_n (i := 3) (j := 0) rfl rfl (?_ : ky_V _ _ _ 6 _ _ _ _)
  refine v_iload_n (i := 4) (j := 1) rfl rfl (?_ : ky_V _ _ _ 7 _ _ _ _)
  refine v_iconst (v := 0) (i := 5) rfl (by decide) (?_ : ky_V _ _ _ 8 _ _ _ _)
  refine v_bipush (v := 40) (i := 6) rfl (by decide) (?_ : ky_V _ _ _ 10 _ _ _ _)
  refine cl_X12_65 (As := [.int p1, .int 0, .int 40]) rfl (i := 7) rfl rfl rfl (Nat.le_of_ble_eq_true rfl) (k_X12_in p1 0 40 ⟨_, rfl, (?_ : ky_V _ _ _ 13 _ [.int ((md_in p1 0 40)), .ref a] _ _)⟩)
  refine v_if_ne (tgt := 20) (i := 8) rfl (by decide) (fun c3 => ?_) (fun c3 => ?_)
  · replace e := ky_ifF c3 e
    refine v_iconst (v := 0) (i := 11) rfl (by decide) (?_ : ky_V _ _ _ 21 _ _ _ _)
    refine v_iconst (v := 1) (i := 12) rfl (by decide) (?_ : ky_V _ _ _ 22 _ _ _ _)
    refine cl_X12_241 (As := [.int 0, .int 1]) rfl (i := 13) rfl (md_0 hmh1) rfl rfl (Nat.le_of_ble_eq_true rfl) (k_X12_throwsIf 0 1 hmh1 (by decide) (fun h4 hmh4 frh4 => ⟨_, rfl, (?_ : ky_V _ _ _ 25 _ [.int ((md_throwsIf_r q2 0 1))] _ _)⟩))
    have frh4 := frh1.tr frh4
    refine v_topi (fun x6 ex6 => ?_)
    replace e := ky_letE ex6 e
    obtain ⟨q5, eq5⟩ : ∃ z, z = (md_throwsIf_c q2 0 1) := ⟨_, rfl⟩
    rw [← eq5] at hmh4
    replace e := ky_letE eq5 e
    refine v_if_eq (tgt := 30) (i := 14) rfl (by decide) (fun c7 => ?_) (fun c7 => ?_)
    · replace e := ky_ifT c7 e
      refine v_aload_n (i := 17) (j := 0) rfl rfl (?_ : ky_V _ _ _ 31 _ _ _ _)
      obtain ⟨⟨q9, x10⟩, g11, e⟩ := Option.bind_eq_some_iff.mp e
      refine cl_X12_443 (As := []) rfl (i := 18) rfl (md_0 hmh4) rfl rfl (Nat.le_of_ble_eq_true rfl) (k_X12_keepsAll N hmh4 g11 (fun h8 hmh8 frh8 => ⟨_, rfl, (?_ : ky_V _ _ _ 34 _ [] _ _)⟩))
      have frh8 := frh4.tr frh8
      refine v_iconst (v := (-1)) (i := 19) rfl (by decide) (?_ : ky_V _ _ _ 35 _ _ _ _)
      refine v_istore_n (L' := [(0, .ref a), (1, .int p1), (2, .int p2), (3, .int (-1))]) [1, 2, 3, 0] (i := 20) rfl (Nat.le_of_ble_eq_true rfl) rfl (?_ : ky_V _ _ _ 36 _ _ _ _)
      refine v_iconst (v := 1) (i := 21) rfl (by decide) (?_ : ky_V _ _ _ 37 _ _ _ _)
      refine v_istore (L' := [(0, .ref a), (1, .int p1), (2, .int p2), (3, .int (-1)), (4, .int 1)]) [1, 2, 3, 4, 0] (i := 22) rfl (Nat.le_of_ble_eq_true rfl) rfl (?_ : ky_V _ _ _ 39 _ _ _ _)
      refine lv_X12_span_39 N _ hr (fun h12 q13 x14 x15 x16 x17 hmh12 frh12 e => ?_) N h8 q9 p1 p2 (-1) 1 hmh8 frh8 e
      refine v_iload_n (i := 63) (j := 3) rfl rfl (?_ : ky_V _ _ _ 116 _ _ _ _)
      refine v_iret (v := x16) (ty := .int) (i := 64) rfl rfl rfl ?_
      obtain ⟨rfl, rfl⟩ := ky_leaf e
      exact hr _ hmh12 frh12
    · replace e := ky_ifF c7 e
      refine v_iconst (v := 0) (i := 15) rfl (by decide) (?_ : ky_V _ _ _ 29 _ _ _ _)
      refine v_iret (v := 0) (ty := .int) (i := 16) rfl rfl rfl ?_
      obtain ⟨rfl, rfl⟩ := ky_leaf e
      exact hr _ hmh4 frh4
  · replace e := ky_ifT c3 e
    refine v_iconst (v := 1) (i := 9) rfl (by decide) (?_ : ky_V _ _ _ 17 _ _ _ _)
    refine v_goto (tgt := 21) (i := 10) rfl (by decide) (?_ : ky_V _ _ _ 21 _ _ _ _)
    refine v_iconst (v := 1) (i := 12) rfl (by decide) (?_ : ky_V _ _ _ 22 _ _ _ _)
    refine cl_X12_241 (As := [.int 1, .int 1]) rfl (i := 13) rfl (md_0 hmh1) rfl rfl (Nat.le_of_ble_eq_true rfl) (k_X12_throwsIf 1 1 hmh1 (by decide) (fun h18 hmh18 frh18 => ⟨_, rfl, (?_ : ky_V _ _ _ 25 _ [.int ((md_throwsIf_r q2 1 1))] _ _)⟩))
    have frh18 := frh1.tr frh18
    refine v_topi (fun x20 ex20 => ?_)
    replace e := ky_letE ex20 e
    obtain ⟨q19, eq19⟩ : ∃ z, z = (md_throwsIf_c q2 1 1) := ⟨_, rfl⟩
    rw [← eq19] at hmh18
    replace e := ky_letE eq19 e
    refine v_if_eq (tgt := 30) (i := 14) rfl (by decide) (fun c21 => ?_) (fun c21 => ?_)
    · replace e := ky_ifT c21 e
      refine v_aload_n (i := 17) (j := 0) rfl rfl (?_ : ky_V _ _ _ 31 _ _ _ _)
      obtain ⟨⟨q23, x24⟩, g25, e⟩ := Option.bind_eq_some_iff.mp e
      refine cl_X12_443 (As := []) rfl (i := 18) rfl (md_0 hmh18) rfl rfl (Nat.le_of_ble_eq_true rfl) (k_X12_keepsAll N hmh18 g25 (fun h22 hmh22 frh22 => ⟨_, rfl, (?_ : ky_V _ _ _ 34 _ [] _ _)⟩))
      have frh22 := frh18.tr frh22
      refine v_iconst (v := (-1)) (i := 19) rfl (by decide) (?_ : ky_V _ _ _ 35 _ _ _ _)
      refine v_istore_n (L' := [(0, .ref a), (1, .int p1), (2, .int p2), (3, .int (-1))]) [1, 2, 3, 0] (i := 20) rfl (Nat.le_of_ble_eq_true rfl) rfl (?_ : ky_V _ _ _ 36 _ _ _ _)
      refine v_iconst (v := 1) (i := 21) rfl (by decide) (?_ : ky_V _ _ _ 37 _ _ _ _)
      refine v_istore (L' := [(0, .ref a), (1, .int p1), (2, .int p2), (3, .int (-1)), (4, .int 1)]) [1, 2, 3, 4, 0] (i := 22) rfl (Nat.le_of_ble_eq_true rfl) rfl (?_ : ky_V _ _ _ 39 _ _ _ _)
      refine lv_X12_span_39 N _ hr (fun h26 q27 x28 x29 x30 x31 hmh26 frh26 e => ?_) N h22 q23 p1 p2 (-1) 1 hmh22 frh22 e
      refine v_iload_n (i := 63) (j := 3) rfl rfl (?_ : ky_V _ _ _ 116 _ _ _ _)
      refine v_iret (v := x30) (ty := .int) (i := 64) rfl rfl rfl ?_
      obtain ⟨rfl, rfl⟩ := ky_leaf e
      exact hr _ hmh26 frh26
    · replace e := ky_ifF c21 e
      refine v_iconst (v := 0) (i := 15) rfl (by decide) (?_ : ky_V _ _ _ 29 _ _ _ _)
      refine v_iret (v := 0) (ty := .int) (i := 16) rfl rfl rfl ?_
      obtain ⟨rfl, rfl⟩ := ky_leaf e
      exact hr _ hmh18 frh18

def md_would (N : Nat) (c : (Nat → Nat → Int32)) (p1 : Int32) (p2 : Int32) (p3 : Int32) : Option ((Nat → Nat → Int32) × Int32) := (ky_let (bk_w c 0 0 0) (fun q2 => (if (md_noMove p1) = 0 then (if (md_noLeg p2) = 0 then (ky_let (md_throwsIf_r q2 0 1) (fun x40 => (ky_let (md_throwsIf_c q2 0 1) (fun q39 => (if x40 = 0 then (if (md_in p3 0 3) = 0 then (ky_let (md_throwsIf_r q39 1 2) (fun x59 => (ky_let (md_throwsIf_c q39 1 2) (fun q58 => (if x59 = 0 then (ky_let (md_looks_c q58) (fun q62 => ((md_movesBy N q62 p1 p2).bind (fun zz => (fun q64 x65 => (if (2 : Int32) ≤ p3 then (if p3 = (2 : Int32) then (some (q64, (q64 0 19))) else (if (q64 0 20) = 0 then (some (q64, 0)) else (some (q64, 1)))) else (if ky_inB p3 2 = true then (some (q64, (q64 9 (Int32.toNatClampNeg p3)))) else none))) zz.1 zz.2)))) else (some (q58, 0))))))) else (ky_let (md_throwsIf_r q39 0 2) (fun x45 => (ky_let (md_throwsIf_c q39 0 2) (fun q44 => (if x45 = 0 then (ky_let (md_looks_c q44) (fun q48 => ((md_movesBy N q48 p1 p2).bind (fun zz => (fun q50 x51 => (if (2 : Int32) ≤ p3 then (if p3 = (2 : Int32) then (some (q50, (q50 0 19))) else (if (q50 0 20) = 0 then (some (q50, 0)) else (some (q50, 1)))) else (if ky_inB p3 2 = true then (some (q50, (q50 9 (Int32.toNatClampNeg p3)))) else none))) zz.1 zz.2)))) else (some (q44, 0)))))))) else (some (q39, 0))))))) else (ky_let (md_throwsIf_r q2 1 1) (fun x73 => (ky_let (md_throwsIf_c q2 1 1) (fun q72 => (if x73 = 0 then (if (md_in p3 0 3) = 0 then (ky_let (md_throwsIf_r q72 1 2) (fun x92 => (ky_let (md_throwsIf_c q72 1 2) (fun q91 => (if x92 = 0 then (ky_let (md_looks_c q91) (fun q95 => ((md_movesBy N q95 p1 p2).bind (fun zz => (fun q97 x98 => (if (2 : Int32) ≤ p3 then (if p3 = (2 : Int32) then (some (q97, (q97 0 19))) else (if (q97 0 20) = 0 then (some (q97, 0)) else (some (q97, 1)))) else (if ky_inB p3 2 = true then (some (q97, (q97 9 (Int32.toNatClampNeg p3)))) else none))) zz.1 zz.2)))) else (some (q91, 0))))))) else (ky_let (md_throwsIf_r q72 0 2) (fun x78 => (ky_let (md_throwsIf_c q72 0 2) (fun q77 => (if x78 = 0 then (ky_let (md_looks_c q77) (fun q81 => ((md_movesBy N q81 p1 p2).bind (fun zz => (fun q83 x84 => (if (2 : Int32) ≤ p3 then (if p3 = (2 : Int32) then (some (q83, (q83 0 19))) else (if (q83 0 20) = 0 then (some (q83, 0)) else (some (q83, 1)))) else (if ky_inB p3 2 = true then (some (q83, (q83 9 (Int32.toNatClampNeg p3)))) else none))) zz.1 zz.2)))) else (some (q77, 0)))))))) else (some (q72, 0)))))))) else (ky_let (md_throwsIf_r q2 1 1) (fun x6 => (ky_let (md_throwsIf_c q2 1 1) (fun q5 => (if x6 = 0 then (if (md_in p3 0 3) = 0 then (ky_let (md_throwsIf_r q5 1 2) (fun x25 => (ky_let (md_throwsIf_c q5 1 2) (fun q24 => (if x25 = 0 then (ky_let (md_looks_c q24) (fun q28 => ((md_movesBy N q28 p1 p2).bind (fun zz => (fun q30 x31 => (if (2 : Int32) ≤ p3 then (if p3 = (2 : Int32) then (some (q30, (q30 0 19))) else (if (q30 0 20) = 0 then (some (q30, 0)) else (some (q30, 1)))) else (if ky_inB p3 2 = true then (some (q30, (q30 9 (Int32.toNatClampNeg p3)))) else none))) zz.1 zz.2)))) else (some (q24, 0))))))) else (ky_let (md_throwsIf_r q5 0 2) (fun x11 => (ky_let (md_throwsIf_c q5 0 2) (fun q10 => (if x11 = 0 then (ky_let (md_looks_c q10) (fun q14 => ((md_movesBy N q14 p1 p2).bind (fun zz => (fun q16 x17 => (if (2 : Int32) ≤ p3 then (if p3 = (2 : Int32) then (some (q16, (q16 0 19))) else (if (q16 0 20) = 0 then (some (q16, 0)) else (some (q16, 1)))) else (if ky_inB p3 2 = true then (some (q16, (q16 9 (Int32.toNatClampNeg p3)))) else none))) zz.1 zz.2)))) else (some (q10, 0)))))))) else (some (q5, 0))))))))))
set_option maxRecDepth 20000 in
set_option maxHeartbeats 4000000 in
theorem k_X12_would {G : ky_GW} {d : Nat} {h : ky_HP} {Q : ky_RS → ky_HP → Prop} {a : Nat} {c c9 : (Nat → Nat → Int32)} {r9 : Int32} {p1 : Int32} {p2 : Int32} {p3 : Int32} (N : Nat) (hm : md_at G h a c) (e : md_would N c p1 p2 p3 = some (c9, r9)) (hr : ∀ h1, md_at G h1 a c9 → bk_fr a 13 h h1 → Q (.inl (some (.int r9))) h1) : ky_Call G (d + 4) M_X12_would [.ref a, .int p1, .int p2, .int p3] h Q := by
  refine ky_ofV (by decide +kernel) rfl ok_X12_would (Nat.le_of_ble_eq_true rfl) ?_
  have fr : bk_fr a 13 h h := bk_fr.rf
  unfold md_would at e
  refine (?_ : ky_V _ _ _ 0 [(0, .ref a), (1, .int p1), (2, .int p2), (3, .int p3)] [] _ _)
  refine v_aload_n (i := 0) (j := 0) rfl rfl (?_ : ky_V _ _ _ 1 _ _ _ _)
  refine v_iconst (v := 0) (i := 1) rfl (by decide) (?_ : ky_V _ _ _ 2 _ _ _ _)
  refine pf_X12_3 rfl (i := 2) rfl (md_0 hm) (Nat.le_of_ble_eq_true rfl) rfl rfl ?_
  refine bk_st (B := md_B G a) hm fr 0 0 0 (by decide) (fun h1 hmh1 frh1 => ?_)
  obtain ⟨q2, eq2⟩ : ∃ z, z = (bk_w c 0 0 0) := ⟨_, rfl⟩
  rw [← eq2] at hmh1
  replace e := ky_letE eq2 e
  refine (?_ : ky_V _ _ _ 5 _ _ _ _)
  refine v_aload_n (i := 3) (j := 0) rfl rfl (?_ : ky_V _ _ _ 6 _ _ _ _)
  refine v_iload_n (i := 4) (j := 1) rfl rfl (?_ : ky_V _ _ _ 7 _ _ _ _)
  refine cl_X12_279 (As := [.int p1]) rfl (i := 5) rfl rfl rfl (Nat.le_of_ble_eq_true rfl) (k_X12_noMove p1 ⟨_, rfl, (?_ : ky_V _ _ _ 10 _ [.int ((md_noMove p1)), .ref a] _ _)⟩)
  refine v_if_ne (tgt := 20) (i := 6) rfl (by decide) (fun c3 => ?_) (fun c3 => ?_)
  · replace e := ky_ifF c3 e
    refine v_iconst (v := 1) (i := 10) rfl (by decide) (?_ : ky_V _ _ _ 21 _ _ _ _)
    refine v_goto (tgt := 25) (i := 11) rfl (by decide) (?_ : ky_V _ _ _ 25 _ _ _ _)
    refine v_iconst (v := 1) (i := 13) rfl (by decide) (?_ : ky_V _ _ _ 26 _ _ _ _)
    refine cl_X12_241 (As := [.int 1, .int 1]) rfl (i := 14) rfl (md_0 hmh1) rfl rfl (Nat.le_of_ble_eq_true rfl) (k_X12_throwsIf 1 1 hmh1 (by decide) (fun h4 hmh4 frh4 => ⟨_, rfl, (?_ : ky_V _ _ _ 29 _ [.int ((md_throwsIf_r q2 1 1))] _ _)⟩))
    have frh4 := frh1.tr frh4
    refine v_topi (fun x6 ex6 => ?_)
    replace e := ky_letE ex6 e
    obtain ⟨q5, eq5⟩ : ∃ z, z = (md_throwsIf_c q2 1 1) := ⟨_, rfl⟩
    rw [← eq5] at hmh4
    replace e := ky_letE eq5 e
    refine v_if_ne (tgt := 54) (i := 15) rfl (by decide) (fun c7 => ?_) (fun c7 => ?_)
    · replace e := ky_ifF c7 e
      refine v_iconst (v := 0) (i := 28) rfl (by decide) (?_ : ky_V _ _ _ 55 _ _ _ _)
      refine v_iret (v := 0) (ty := .int) (i := 29) rfl rfl rfl ?_
      obtain ⟨rfl, rfl⟩ := ky_leaf e
      exact hr _ hmh4 frh4
    · replace e := ky_ifT c7 e
      refine v_aload_n (i := 16) (j := 0) rfl rfl (?_ : ky_V _ _ _ 33 _ _ _ _)
      refine v_iload_n (i := 17) (j := 3) rfl rfl (?_ : ky_V _ _ _ 34 _ _ _ _)
      refine v_iconst (v := 0) (i := 18) rfl (by decide) (?_ : ky_V _ _ _ 35 _ _ _ _)
      refine v_iconst (v := 3) (i := 19) rfl (by decide) (?_ : ky_V _ _ _ 36 _ _ _ _)
      refine cl_X12_65 (As := [.int p3, .int 0, .int 3]) rfl (i := 20) rfl rfl rfl (Nat.le_of_ble_eq_true rfl) (k_X12_in p3 0 3 ⟨_, rfl, (?_ : ky_V _ _ _ 39 _ [.int ((md_in p3 0 3)), .ref a] _ _)⟩)
      refine v_if_ne (tgt := 46) (i := 21) rfl (by decide) (fun c8 => ?_) (fun c8 => ?_)
      · replace e := ky_ifF c8 e
        refine v_iconst (v := 0) (i := 24) rfl (by decide) (?_ : ky_V _ _ _ 47 _ _ _ _)
        refine v_iconst (v := 2) (i := 25) rfl (by decide) (?_ : ky_V _ _ _ 48 _ _ _ _)
        refine cl_X12_241 (As := [.int 0, .int 2]) rfl (i := 26) rfl (md_0 hmh4) rfl rfl (Nat.le_of_ble_eq_true rfl) (k_X12_throwsIf 0 2 hmh4 (by decide) (fun h9 hmh9 frh9 => ⟨_, rfl, (?_ : ky_V _ _ _ 51 _ [.int ((md_throwsIf_r q5 0 2))] _ _)⟩))
        have frh9 := frh4.tr frh9
        refine v_topi (fun x11 ex11 => ?_)
        replace e := ky_letE ex11 e
        obtain ⟨q10, eq10⟩ : ∃ z, z = (md_throwsIf_c q5 0 2) := ⟨_, rfl⟩
        rw [← eq10] at hmh9
        replace e := ky_letE eq10 e
        refine v_if_eq (tgt := 56) (i := 27) rfl (by decide) (fun c12 => ?_) (fun c12 => ?_)
        · replace e := ky_ifT c12 e
          refine v_aload_n (i := 30) (j := 0) rfl rfl (?_ : ky_V _ _ _ 57 _ _ _ _)
          refine cl_X12_285 (As := []) rfl (i := 31) rfl (md_0 hmh9) rfl rfl (Nat.le_of_ble_eq_true rfl) (k_X12_looks hmh9 (fun h13 hmh13 frh13 => ⟨_, rfl, (?_ : ky_V _ _ _ 60 _ [] _ _)⟩))
          have frh13 := frh9.tr frh13
          obtain ⟨q14, eq14⟩ : ∃ z, z = (md_looks_c q10) := ⟨_, rfl⟩
          rw [← eq14] at hmh13
          replace e := ky_letE eq14 e
          refine v_aload_n (i := 32) (j := 0) rfl rfl (?_ : ky_V _ _ _ 61 _ _ _ _)
          refine v_iload_n (i := 33) (j := 1) rfl rfl (?_ : ky_V _ _ _ 62 _ _ _ _)
          refine v_iload_n (i := 34) (j := 2) rfl rfl (?_ : ky_V _ _ _ 63 _ _ _ _)
          obtain ⟨⟨q16, x17⟩, g18, e⟩ := Option.bind_eq_some_iff.mp e
          refine cl_X12_288 (As := [.int p1, .int p2]) rfl (i := 35) rfl (md_0 hmh13) rfl rfl (Nat.le_of_ble_eq_true rfl) (k_X12_movesBy N hmh13 g18 (fun h15 hmh15 frh15 => ⟨_, rfl, (?_ : ky_V _ _ _ 66 _ [] _ _)⟩))
          have frh15 := frh13.tr frh15
          refine v_iload_n (i := 36) (j := 3) rfl rfl (?_ : ky_V _ _ _ 67 _ _ _ _)
          refine v_iconst (v := 2) (i := 37) rfl (by decide) (?_ : ky_V _ _ _ 68 _ _ _ _)
          refine v_icmp_ge (tgt := 80) (i := 38) rfl (by decide) (fun c19 => ?_) (fun c19 => ?_)
          · replace e := ky_ifT c19 e
            refine v_iload_n (i := 44) (j := 3) rfl rfl (?_ : ky_V _ _ _ 81 _ _ _ _)
            refine v_iconst (v := 2) (i := 45) rfl (by decide) (?_ : ky_V _ _ _ 82 _ _ _ _)
            refine v_icmp_ne (tgt := 92) (i := 46) rfl (by decide) (fun c20 => ?_) (fun c20 => ?_)
            · replace e := ky_ifF c20 e
              refine v_aload_n (i := 50) (j := 0) rfl rfl (?_ : ky_V _ _ _ 93 _ _ _ _)
              refine gf_X12_246 rfl (i := 51) rfl (md_0 hmh15) rfl (?_ : ky_V _ _ _ 96 _ _ _ _)
              refine v_if_eq (tgt := 103) (i := 52) rfl (by decide) (fun c21 => ?_) (fun c21 => ?_)
              · replace e := ky_ifT c21 e
                refine v_iconst (v := 0) (i := 55) rfl (by decide) (?_ : ky_V _ _ _ 104 _ _ _ _)
                refine v_iret (v := 0) (ty := .int) (i := 56) rfl rfl rfl ?_
                obtain ⟨rfl, rfl⟩ := ky_leaf e
                exact hr _ hmh15 frh15
              · replace e := ky_ifF c21 e
                refine v_iconst (v := 1) (i := 53) rfl (by decide) (?_ : ky_V _ _ _ 100 _ _ _ _)
                refine v_goto (tgt := 104) (i := 54) rfl (by decide) (?_ : ky_V _ _ _ 104 _ _ _ _)
                refine v_iret (v := 1) (ty := .int) (i := 56) rfl rfl rfl ?_
                obtain ⟨rfl, rfl⟩ := ky_leaf e
                exact hr _ hmh15 frh15
            · replace e := ky_ifT c20 e
              refine v_aload_n (i := 47) (j := 0) rfl rfl (?_ : ky_V _ _ _ 86 _ _ _ _)
              refine gf_X12_244 rfl (i := 48) rfl (md_0 hmh15) rfl (?_ : ky_V _ _ _ 89 _ _ _ _)
              refine v_goto (tgt := 104) (i := 49) rfl (by decide) (?_ : ky_V _ _ _ 104 _ _ _ _)
              refine v_iret (v := (q16 0 19)) (ty := .int) (i := 56) rfl rfl rfl ?_
              obtain ⟨rfl, rfl⟩ := ky_leaf e
              exact hr _ hmh15 frh15
          · replace e := ky_ifF c19 e
            refine v_aload_n (i := 39) (j := 0) rfl rfl (?_ : ky_V _ _ _ 72 _ _ _ _)
            refine gf_X12_42 rfl (i := 40) rfl (md_0 hmh15) rfl (?_ : ky_V _ _ _ 75 _ _ _ _)
            refine v_iload_n (i := 41) (j := 3) rfl rfl (?_ : ky_V _ _ _ 76 _ _ _ _)
            obtain ⟨z22, e⟩ := ky_chkE e
            refine v_iald (i := 42) rfl (md_9 hmh15) (ky_inb z22) (?_ : ky_V _ _ _ 77 _ (.int (q16 9 (Int32.toNatClampNeg p3)) :: _) _ _)
            refine v_goto (tgt := 104) (i := 43) rfl (by decide) (?_ : ky_V _ _ _ 104 _ _ _ _)
            refine v_iret (v := (q16 9 (Int32.toNatClampNeg p3))) (ty := .int) (i := 56) rfl rfl rfl ?_
            obtain ⟨rfl, rfl⟩ := ky_leaf e
            exact hr _ hmh15 frh15
        · replace e := ky_ifF c12 e
          refine v_iconst (v := 0) (i := 28) rfl (by decide) (?_ : ky_V _ _ _ 55 _ _ _ _)
          refine v_iret (v := 0) (ty := .int) (i := 29) rfl rfl rfl ?_
          obtain ⟨rfl, rfl⟩ := ky_leaf e
          exact hr _ hmh9 frh9
      · replace e := ky_ifT c8 e
        refine v_iconst (v := 1) (i := 22) rfl (by decide) (?_ : ky_V _ _ _ 43 _ _ _ _)
        refine v_goto (tgt := 47) (i := 23) rfl (by decide) (?_ : ky_V _ _ _ 47 _ _ _ _)
        refine v_iconst (v := 2) (i := 25) rfl (by decide) (?_ : ky_V _ _ _ 48 _ _ _ _)
        refine cl_X12_241 (As := [.int 1, .int 2]) rfl (i := 26) rfl (md_0 hmh4) rfl rfl (Nat.le_of_ble_eq_true rfl) (k_X12_throwsIf 1 2 hmh4 (by decide) (fun h23 hmh23 frh23 => ⟨_, rfl, (?_ : ky_V _ _ _ 51 _ [.int ((md_throwsIf_r q5 1 2))] _ _)⟩))
        have frh23 := frh4.tr frh23
        refine v_topi (fun x25 ex25 => ?_)
        replace e := ky_letE ex25 e
        obtain ⟨q24, eq24⟩ : ∃ z, z = (md_throwsIf_c q5 1 2) := ⟨_, rfl⟩
        rw [← eq24] at hmh23
        replace e := ky_letE eq24 e
        refine v_if_eq (tgt := 56) (i := 27) rfl (by decide) (fun c26 => ?_) (fun c26 => ?_)
        · replace e := ky_ifT c26 e
          refine v_aload_n (i := 30) (j := 0) rfl rfl (?_ : ky_V _ _ _ 57 _ _ _ _)
          refine cl_X12_285 (As := []) rfl (i := 31) rfl (md_0 hmh23) rfl rfl (Nat.le_of_ble_eq_true rfl) (k_X12_looks hmh23 (fun h27 hmh27 frh27 => ⟨_, rfl, (?_ : ky_V _ _ _ 60 _ [] _ _)⟩))
          have frh27 := frh23.tr frh27
          obtain ⟨q28, eq28⟩ : ∃ z, z = (md_looks_c q24) := ⟨_, rfl⟩
          rw [← eq28] at hmh27
          replace e := ky_letE eq28 e
          refine v_aload_n (i := 32) (j := 0) rfl rfl (?_ : ky_V _ _ _ 61 _ _ _ _)
          refine v_iload_n (i := 33) (j := 1) rfl rfl (?_ : ky_V _ _ _ 62 _ _ _ _)
          refine v_iload_n (i := 34) (j := 2) rfl rfl (?_ : ky_V _ _ _ 63 _ _ _ _)
          obtain ⟨⟨q30, x31⟩, g32, e⟩ := Option.bind_eq_some_iff.mp e
          refine cl_X12_288 (As := [.int p1, .int p2]) rfl (i := 35) rfl (md_0 hmh27) rfl rfl (Nat.le_of_ble_eq_true rfl) (k_X12_movesBy N hmh27 g32 (fun h29 hmh29 frh29 => ⟨_, rfl, (?_ : ky_V _ _ _ 66 _ [] _ _)⟩))
          have frh29 := frh27.tr frh29
          refine v_iload_n (i := 36) (j := 3) rfl rfl (?_ : ky_V _ _ _ 67 _ _ _ _)
          refine v_iconst (v := 2) (i := 37) rfl (by decide) (?_ : ky_V _ _ _ 68 _ _ _ _)
          refine v_icmp_ge (tgt := 80) (i := 38) rfl (by decide) (fun c33 => ?_) (fun c33 => ?_)
          · replace e := ky_ifT c33 e
            refine v_iload_n (i := 44) (j := 3) rfl rfl (?_ : ky_V _ _ _ 81 _ _ _ _)
            refine v_iconst (v := 2) (i := 45) rfl (by decide) (?_ : ky_V _ _ _ 82 _ _ _ _)
            refine v_icmp_ne (tgt := 92) (i := 46) rfl (by decide) (fun c34 => ?_) (fun c34 => ?_)
            · replace e := ky_ifF c34 e
              refine v_aload_n (i := 50) (j := 0) rfl rfl (?_ : ky_V _ _ _ 93 _ _ _ _)
              refine gf_X12_246 rfl (i := 51) rfl (md_0 hmh29) rfl (?_ : ky_V _ _ _ 96 _ _ _ _)
              refine v_if_eq (tgt := 103) (i := 52) rfl (by decide) (fun c35 => ?_) (fun c35 => ?_)
              · replace e := ky_ifT c35 e
                refine v_iconst (v := 0) (i := 55) rfl (by decide) (?_ : ky_V _ _ _ 104 _ _ _ _)
                refine v_iret (v := 0) (ty := .int) (i := 56) rfl rfl rfl ?_
                obtain ⟨rfl, rfl⟩ := ky_leaf e
                exact hr _ hmh29 frh29
              · replace e := ky_ifF c35 e
                refine v_iconst (v := 1) (i := 53) rfl (by decide) (?_ : ky_V _ _ _ 100 _ _ _ _)
                refine v_goto (tgt := 104) (i := 54) rfl (by decide) (?_ : ky_V _ _ _ 104 _ _ _ _)
                refine v_iret (v := 1) (ty := .int) (i := 56) rfl rfl rfl ?_
                obtain ⟨rfl, rfl⟩ := ky_leaf e
                exact hr _ hmh29 frh29
            · replace e := ky_ifT c34 e
              refine v_aload_n (i := 47) (j := 0) rfl rfl (?_ : ky_V _ _ _ 86 _ _ _ _)
              refine gf_X12_244 rfl (i := 48) rfl (md_0 hmh29) rfl (?_ : ky_V _ _ _ 89 _ _ _ _)
              refine v_goto (tgt := 104) (i := 49) rfl (by decide) (?_ : ky_V _ _ _ 104 _ _ _ _)
              refine v_iret (v := (q30 0 19)) (ty := .int) (i := 56) rfl rfl rfl ?_
              obtain ⟨rfl, rfl⟩ := ky_leaf e
              exact hr _ hmh29 frh29
          · replace e := ky_ifF c33 e
            refine v_aload_n (i := 39) (j := 0) rfl rfl (?_ : ky_V _ _ _ 72 _ _ _ _)
            refine gf_X12_42 rfl (i := 40) rfl (md_0 hmh29) rfl (?_ : ky_V _ _ _ 75 _ _ _ _)
            refine v_iload_n (i := 41) (j := 3) rfl rfl (?_ : ky_V _ _ _ 76 _ _ _ _)
            obtain ⟨z36, e⟩ := ky_chkE e
            refine v_iald (i := 42) rfl (md_9 hmh29) (ky_inb z36) (?_ : ky_V _ _ _ 77 _ (.int (q30 9 (Int32.toNatClampNeg p3)) :: _) _ _)
            refine v_goto (tgt := 104) (i := 43) rfl (by decide) (?_ : ky_V _ _ _ 104 _ _ _ _)
            refine v_iret (v := (q30 9 (Int32.toNatClampNeg p3))) (ty := .int) (i := 56) rfl rfl rfl ?_
            obtain ⟨rfl, rfl⟩ := ky_leaf e
            exact hr _ hmh29 frh29
        · replace e := ky_ifF c26 e
          refine v_iconst (v := 0) (i := 28) rfl (by decide) (?_ : ky_V _ _ _ 55 _ _ _ _)
          refine v_iret (v := 0) (ty := .int) (i := 29) rfl rfl rfl ?_
          obtain ⟨rfl, rfl⟩ := ky_leaf e
          exact hr _ hmh23 frh23
  · replace e := ky_ifT c3 e
    refine v_iload_n (i := 7) (j := 2) rfl rfl (?_ : ky_V _ _ _ 14 _ _ _ _)
    refine cl_X12_282 (As := [.int p2]) rfl (i := 8) rfl rfl rfl (Nat.le_of_ble_eq_true rfl) (k_X12_noLeg p2 ⟨_, rfl, (?_ : ky_V _ _ _ 17 _ [.int ((md_noLeg p2)), .ref a] _ _)⟩)
    refine v_if_eq (tgt := 24) (i := 9) rfl (by decide) (fun c37 => ?_) (fun c37 => ?_)
    · replace e := ky_ifT c37 e
      refine v_iconst (v := 0) (i := 12) rfl (by decide) (?_ : ky_V _ _ _ 25 _ _ _ _)
      refine v_iconst (v := 1) (i := 13) rfl (by decide) (?_ : ky_V _ _ _ 26 _ _ _ _)
      refine cl_X12_241 (As := [.int 0, .int 1]) rfl (i := 14) rfl (md_0 hmh1) rfl rfl (Nat.le_of_ble_eq_true rfl) (k_X12_throwsIf 0 1 hmh1 (by decide) (fun h38 hmh38 frh38 => ⟨_, rfl, (?_ : ky_V _ _ _ 29 _ [.int ((md_throwsIf_r q2 0 1))] _ _)⟩))
      have frh38 := frh1.tr frh38
      refine v_topi (fun x40 ex40 => ?_)
      replace e := ky_letE ex40 e
      obtain ⟨q39, eq39⟩ : ∃ z, z = (md_throwsIf_c q2 0 1) := ⟨_, rfl⟩
      rw [← eq39] at hmh38
      replace e := ky_letE eq39 e
      refine v_if_ne (tgt := 54) (i := 15) rfl (by decide) (fun c41 => ?_) (fun c41 => ?_)
      · replace e := ky_ifF c41 e
        refine v_iconst (v := 0) (i := 28) rfl (by decide) (?_ : ky_V _ _ _ 55 _ _ _ _)
        refine v_iret (v := 0) (ty := .int) (i := 29) rfl rfl rfl ?_
        obtain ⟨rfl, rfl⟩ := ky_leaf e
        exact hr _ hmh38 frh38
      · replace e := ky_ifT c41 e
        refine v_aload_n (i := 16) (j := 0) rfl rfl (?_ : ky_V _ _ _ 33 _ _ _ _)
        refine v_iload_n (i := 17) (j := 3) rfl rfl (?_ : ky_V _ _ _ 34 _ _ _ _)
        refine v_iconst (v := 0) (i := 18) rfl (by decide) (?_ : ky_V _ _ _ 35 _ _ _ _)
        refine v_iconst (v := 3) (i := 19) rfl (by decide) (?_ : ky_V _ _ _ 36 _ _ _ _)
        refine cl_X12_65 (As := [.int p3, .int 0, .int 3]) rfl (i := 20) rfl rfl rfl (Nat.le_of_ble_eq_true rfl) (k_X12_in p3 0 3 ⟨_, rfl, (?_ : ky_V _ _ _ 39 _ [.int ((md_in p3 0 3)), .ref a] _ _)⟩)
        refine v_if_ne (tgt := 46) (i := 21) rfl (by decide) (fun c42 => ?_) (fun c42 => ?_)
        · replace e := ky_ifF c42 e
          refine v_iconst (v := 0) (i := 24) rfl (by decide) (?_ : ky_V _ _ _ 47 _ _ _ _)
          refine v_iconst (v := 2) (i := 25) rfl (by decide) (?_ : ky_V _ _ _ 48 _ _ _ _)
          refine cl_X12_241 (As := [.int 0, .int 2]) rfl (i := 26) rfl (md_0 hmh38) rfl rfl (Nat.le_of_ble_eq_true rfl) (k_X12_throwsIf 0 2 hmh38 (by decide) (fun h43 hmh43 frh43 => ⟨_, rfl, (?_ : ky_V _ _ _ 51 _ [.int ((md_throwsIf_r q39 0 2))] _ _)⟩))
          have frh43 := frh38.tr frh43
          refine v_topi (fun x45 ex45 => ?_)
          replace e := ky_letE ex45 e
          obtain ⟨q44, eq44⟩ : ∃ z, z = (md_throwsIf_c q39 0 2) := ⟨_, rfl⟩
          rw [← eq44] at hmh43
          replace e := ky_letE eq44 e
          refine v_if_eq (tgt := 56) (i := 27) rfl (by decide) (fun c46 => ?_) (fun c46 => ?_)
          · replace e := ky_ifT c46 e
            refine v_aload_n (i := 30) (j := 0) rfl rfl (?_ : ky_V _ _ _ 57 _ _ _ _)
            refine cl_X12_285 (As := []) rfl (i := 31) rfl (md_0 hmh43) rfl rfl (Nat.le_of_ble_eq_true rfl) (k_X12_looks hmh43 (fun h47 hmh47 frh47 => ⟨_, rfl, (?_ : ky_V _ _ _ 60 _ [] _ _)⟩))
            have frh47 := frh43.tr frh47
            obtain ⟨q48, eq48⟩ : ∃ z, z = (md_looks_c q44) := ⟨_, rfl⟩
            rw [← eq48] at hmh47
            replace e := ky_letE eq48 e
            refine v_aload_n (i := 32) (j := 0) rfl rfl (?_ : ky_V _ _ _ 61 _ _ _ _)
            refine v_iload_n (i := 33) (j := 1) rfl rfl (?_ : ky_V _ _ _ 62 _ _ _ _)
            refine v_iload_n (i := 34) (j := 2) rfl rfl (?_ : ky_V _ _ _ 63 _ _ _ _)
            obtain ⟨⟨q50, x51⟩, g52, e⟩ := Option.bind_eq_some_iff.mp e
            refine cl_X12_288 (As := [.int p1, .int p2]) rfl (i := 35) rfl (md_0 hmh47) rfl rfl (Nat.le_of_ble_eq_true rfl) (k_X12_movesBy N hmh47 g52 (fun h49 hmh49 frh49 => ⟨_, rfl, (?_ : ky_V _ _ _ 66 _ [] _ _)⟩))
            have frh49 := frh47.tr frh49
            refine v_iload_n (i := 36) (j := 3) rfl rfl (?_ : ky_V _ _ _ 67 _ _ _ _)
            refine v_iconst (v := 2) (i := 37) rfl (by decide) (?_ : ky_V _ _ _ 68 _ _ _ _)
            refine v_icmp_ge (tgt := 80) (i := 38) rfl (by decide) (fun c53 => ?_) (fun c53 => ?_)
            · replace e := ky_ifT c53 e
              refine v_iload_n (i := 44) (j := 3) rfl rfl (?_ : ky_V _ _ _ 81 _ _ _ _)
              refine v_iconst (v := 2) (i := 45) rfl (by decide) (?_ : ky_V _ _ _ 82 _ _ _ _)
              refine v_icmp_ne (tgt := 92) (i := 46) rfl (by decide) (fun c54 => ?_) (fun c54 => ?_)
              · replace e := ky_ifF c54 e
                refine v_aload_n (i := 50) (j := 0) rfl rfl (?_ : ky_V _ _ _ 93 _ _ _ _)
                refine gf_X12_246 rfl (i := 51) rfl (md_0 hmh49) rfl (?_ : ky_V _ _ _ 96 _ _ _ _)
                refine v_if_eq (tgt := 103) (i := 52) rfl (by decide) (fun c55 => ?_) (fun c55 => ?_)
                · replace e := ky_ifT c55 e
                  refine v_iconst (v := 0) (i := 55) rfl (by decide) (?_ : ky_V _ _ _ 104 _ _ _ _)
                  refine v_iret (v := 0) (ty := .int) (i := 56) rfl rfl rfl ?_
                  obtain ⟨rfl, rfl⟩ := ky_leaf e
                  exact hr _ hmh49 frh49
                · replace e := ky_ifF c55 e
                  refine v_iconst (v := 1) (i := 53) rfl (by decide) (?_ : ky_V _ _ _ 100 _ _ _ _)
                  refine v_goto (tgt := 104) (i := 54) rfl (by decide) (?_ : ky_V _ _ _ 104 _ _ _ _)
                  refine v_iret (v := 1) (ty := .int) (i := 56) rfl rfl rfl ?_
                  obtain ⟨rfl, rfl⟩ := ky_leaf e
                  exact hr _ hmh49 frh49
              · replace e := ky_ifT c54 e
                refine v_aload_n (i := 47) (j := 0) rfl rfl (?_ : ky_V _ _ _ 86 _ _ _ _)
                refine gf_X12_244 rfl (i := 48) rfl (md_0 hmh49) rfl (?_ : ky_V _ _ _ 89 _ _ _ _)
                refine v_goto (tgt := 104) (i := 49) rfl (by decide) (?_ : ky_V _ _ _ 104 _ _ _ _)
                refine v_iret (v := (q50 0 19)) (ty := .int) (i := 56) rfl rfl rfl ?_
                obtain ⟨rfl, rfl⟩ := ky_leaf e
                exact hr _ hmh49 frh49
            · replace e := ky_ifF c53 e
              refine v_aload_n (i := 39) (j := 0) rfl rfl (?_ : ky_V _ _ _ 72 _ _ _ _)
              refine gf_X12_42 rfl (i := 40) rfl (md_0 hmh49) rfl (?_ : ky_V _ _ _ 75 _ _ _ _)
              refine v_iload_n (i := 41) (j := 3) rfl rfl (?_ : ky_V _ _ _ 76 _ _ _ _)
              obtain ⟨z56, e⟩ := ky_chkE e
              refine v_iald (i := 42) rfl (md_9 hmh49) (ky_inb z56) (?_ : ky_V _ _ _ 77 _ (.int (q50 9 (Int32.toNatClampNeg p3)) :: _) _ _)
              refine v_goto (tgt := 104) (i := 43) rfl (by decide) (?_ : ky_V _ _ _ 104 _ _ _ _)
              refine v_iret (v := (q50 9 (Int32.toNatClampNeg p3))) (ty := .int) (i := 56) rfl rfl rfl ?_
              obtain ⟨rfl, rfl⟩ := ky_leaf e
              exact hr _ hmh49 frh49
          · replace e := ky_ifF c46 e
            refine v_iconst (v := 0) (i := 28) rfl (by decide) (?_ : ky_V _ _ _ 55 _ _ _ _)
            refine v_iret (v := 0) (ty := .int) (i := 29) rfl rfl rfl ?_
            obtain ⟨rfl, rfl⟩ := ky_leaf e
            exact hr _ hmh43 frh43
        · replace e := ky_ifT c42 e
          refine v_iconst (v := 1) (i := 22) rfl (by decide) (?_ : ky_V _ _ _ 43 _ _ _ _)
          refine v_goto (tgt := 47) (i := 23) rfl (by decide) (?_ : ky_V _ _ _ 47 _ _ _ _)
          refine v_iconst (v := 2) (i := 25) rfl (by decide) (?_ : ky_V _ _ _ 48 _ _ _ _)
          refine cl_X12_241 (As := [.int 1, .int 2]) rfl (i := 26) rfl (md_0 hmh38) rfl rfl (Nat.le_of_ble_eq_true rfl) (k_X12_throwsIf 1 2 hmh38 (by decide) (fun h57 hmh57 frh57 => ⟨_, rfl, (?_ : ky_V _ _ _ 51 _ [.int ((md_throwsIf_r q39 1 2))] _ _)⟩))
          have frh57 := frh38.tr frh57
          refine v_topi (fun x59 ex59 => ?_)
          replace e := ky_letE ex59 e
          obtain ⟨q58, eq58⟩ : ∃ z, z = (md_throwsIf_c q39 1 2) := ⟨_, rfl⟩
          rw [← eq58] at hmh57
          replace e := ky_letE eq58 e
          refine v_if_eq (tgt := 56) (i := 27) rfl (by decide) (fun c60 => ?_) (fun c60 => ?_)
          · replace e := ky_ifT c60 e
            refine v_aload_n (i := 30) (j := 0) rfl rfl (?_ : ky_V _ _ _ 57 _ _ _ _)
            refine cl_X12_285 (As := []) rfl (i := 31) rfl (md_0 hmh57) rfl rfl (Nat.le_of_ble_eq_true rfl) (k_X12_looks hmh57 (fun h61 hmh61 frh61 => ⟨_, rfl, (?_ : ky_V _ _ _ 60 _ [] _ _)⟩))
            have frh61 := frh57.tr frh61
            obtain ⟨q62, eq62⟩ : ∃ z, z = (md_looks_c q58) := ⟨_, rfl⟩
            rw [← eq62] at hmh61
            replace e := ky_letE eq62 e
            refine v_aload_n (i := 32) (j := 0) rfl rfl (?_ : ky_V _ _ _ 61 _ _ _ _)
            refine v_iload_n (i := 33) (j := 1) rfl rfl (?_ : ky_V _ _ _ 62 _ _ _ _)
            refine v_iload_n (i := 34) (j := 2) rfl rfl (?_ : ky_V _ _ _ 63 _ _ _ _)
            obtain ⟨⟨q64, x65⟩, g66, e⟩ := Option.bind_eq_some_iff.mp e
            refine cl_X12_288 (As := [.int p1, .int p2]) rfl (i := 35) rfl (md_0 hmh61) rfl rfl (Nat.le_of_ble_eq_true rfl) (k_X12_movesBy N hmh61 g66 (fun h63 hmh63 frh63 => ⟨_, rfl, (?_ : ky_V _ _ _ 66 _ [] _ _)⟩))
            have frh63 := frh61.tr frh63
            refine v_iload_n (i := 36) (j := 3) rfl rfl (?_ : ky_V _ _ _ 67 _ _ _ _)
            refine v_iconst (v := 2) (i := 37) rfl (by decide) (?_ : ky_V _ _ _ 68 _ _ _ _)
            refine v_icmp_ge (tgt := 80) (i := 38) rfl (by decide) (fun c67 => ?_) (fun c67 => ?_)
            · replace e := ky_ifT c67 e
              refine v_iload_n (i := 44) (j := 3) rfl rfl (?_ : ky_V _ _ _ 81 _ _ _ _)
              refine v_iconst (v := 2) (i := 45) rfl (by decide) (?_ : ky_V _ _ _ 82 _ _ _ _)
              refine v_icmp_ne (tgt := 92) (i := 46) rfl (by decide) (fun c68 => ?_) (fun c68 => ?_)
              · replace e := ky_ifF c68 e
                refine v_aload_n (i := 50) (j := 0) rfl rfl (?_ : ky_V _ _ _ 93 _ _ _ _)
                refine gf_X12_246 rfl (i := 51) rfl (md_0 hmh63) rfl (?_ : ky_V _ _ _ 96 _ _ _ _)
                refine v_if_eq (tgt := 103) (i := 52) rfl (by decide) (fun c69 => ?_) (fun c69 => ?_)
                · replace e := ky_ifT c69 e
                  refine v_iconst (v := 0) (i := 55) rfl (by decide) (?_ : ky_V _ _ _ 104 _ _ _ _)
                  refine v_iret (v := 0) (ty := .int) (i := 56) rfl rfl rfl ?_
                  obtain ⟨rfl, rfl⟩ := ky_leaf e
                  exact hr _ hmh63 frh63
                · replace e := ky_ifF c69 e
                  refine v_iconst (v := 1) (i := 53) rfl (by decide) (?_ : ky_V _ _ _ 100 _ _ _ _)
                  refine v_goto (tgt := 104) (i := 54) rfl (by decide) (?_ : ky_V _ _ _ 104 _ _ _ _)
                  refine v_iret (v := 1) (ty := .int) (i := 56) rfl rfl rfl ?_
                  obtain ⟨rfl, rfl⟩ := ky_leaf e
                  exact hr _ hmh63 frh63
              · replace e := ky_ifT c68 e
                refine v_aload_n (i := 47) (j := 0) rfl rfl (?_ : ky_V _ _ _ 86 _ _ _ _)
                refine gf_X12_244 rfl (i := 48) rfl (md_0 hmh63) rfl (?_ : ky_V _ _ _ 89 _ _ _ _)
                refine v_goto (tgt := 104) (i := 49) rfl (by decide) (?_ : ky_V _ _ _ 104 _ _ _ _)
                refine v_iret (v := (q64 0 19)) (ty := .int) (i := 56) rfl rfl rfl ?_
                obtain ⟨rfl, rfl⟩ := ky_leaf e
                exact hr _ hmh63 frh63
            · replace e := ky_ifF c67 e
              refine v_aload_n (i := 39) (j := 0) rfl rfl (?_ : ky_V _ _ _ 72 _ _ _ _)
              refine gf_X12_42 rfl (i := 40) rfl (md_0 hmh63) rfl (?_ : ky_V _ _ _ 75 _ _ _ _)
              refine v_iload_n (i := 41) (j := 3) rfl rfl (?_ : ky_V _ _ _ 76 _ _ _ _)
              obtain ⟨z70, e⟩ := ky_chkE e
              refine v_iald (i := 42) rfl (md_9 hmh63) (ky_inb z70) (?_ : ky_V _ _ _ 77 _ (.int (q64 9 (Int32.toNatClampNeg p3)) :: _) _ _)
              refine v_goto (tgt := 104) (i := 43) rfl (by decide) (?_ : ky_V _ _ _ 104 _ _ _ _)
              refine v_iret (v := (q64 9 (Int32.toNatClampNeg p3))) (ty := .int) (i := 56) rfl rfl rfl ?_
              obtain ⟨rfl, rfl⟩ := ky_leaf e
              exact hr _ hmh63 frh63
          · replace e := ky_ifF c60 e
            refine v_iconst (v := 0) (i := 28) rfl (by decide) (?_ : ky_V _ _ _ 55 _ _ _ _)
            refine v_iret (v := 0) (ty := .int) (i := 29) rfl rfl rfl ?_
            obtain ⟨rfl, rfl⟩ := ky_leaf e
            exact hr _ hmh57 frh57
    · replace e := ky_ifF c37 e
      refine v_iconst (v := 1) (i := 10) rfl (by decide) (?_ : ky_V _ _ _ 21 _ _ _ _)
      refine v_goto (tgt := 25) (i := 11) rfl (by decide) (?_ : ky_V _ _ _ 25 _ _ _ _)
      refine v_iconst (v := 1) (i := 13) rfl (by decide) (?_ : ky_V _ _ _ 26 _ _ _ _)
      refine cl_X12_241 (As := [.int 1, .int 1]) rfl (i := 14) rfl (md_0 hmh1) rfl rfl (Nat.le_of_ble_eq_true rfl) (k_X12_throwsIf 1 1 hmh1 (by decide) (fun h71 hmh71 frh71 => ⟨_, rfl, (?_ : ky_V _ _ _ 29 _ [.int ((md_throwsIf_r q2 1 1))] _ _)⟩))
      have frh71 := frh1.tr frh71
      refine v_topi (fun x73 ex73 => ?_)
      replace e := ky_letE ex73 e
      obtain ⟨q72, eq72⟩ : ∃ z, z = (md_throwsIf_c q2 1 1) := ⟨_, rfl⟩
      rw [← eq72] at hmh71
      replace e := ky_letE eq72 e
      refine v_if_ne (tgt := 54) (i := 15) rfl (by decide) (fun c74 => ?_) (fun c74 => ?_)
      · replace e := ky_ifF c74 e
        refine v_iconst (v := 0) (i := 28) rfl (by decide) (?_ : ky_V _ _ _ 55 _ _ _ _)
        refine v_iret (v := 0) (ty := .int) (i := 29) rfl rfl rfl ?_
        obtain ⟨rfl, rfl⟩ := ky_leaf e
        exact hr _ hmh71 frh71
      · replace e := ky_ifT c74 e
        refine v_aload_n (i := 16) (j := 0) rfl rfl (?_ : ky_V _ _ _ 33 _ _ _ _)
        refine v_iload_n (i := 17) (j := 3) rfl rfl (?_ : ky_V _ _ _ 34 _ _ _ _)
        refine v_iconst (v := 0) (i := 18) rfl (by decide) (?_ : ky_V _ _ _ 35 _ _ _ _)
        refine v_iconst (v := 3) (i := 19) rfl (by decide) (?_ : ky_V _ _ _ 36 _ _ _ _)
        refine cl_X12_65 (As := [.int p3, .int 0, .int 3]) rfl (i := 20) rfl rfl rfl (Nat.le_of_ble_eq_true rfl) (k_X12_in p3 0 3 ⟨_, rfl, (?_ : ky_V _ _ _ 39 _ [.int ((md_in p3 0 3)), .ref a] _ _)⟩)
        refine v_if_ne (tgt := 46) (i := 21) rfl (by decide) (fun c75 => ?_) (fun c75 => ?_)
        · replace e := ky_ifF c75 e
          refine v_iconst (v := 0) (i := 24) rfl (by decide) (?_ : ky_V _ _ _ 47 _ _ _ _)
          refine v_iconst (v := 2) (i := 25) rfl (by decide) (?_ : ky_V _ _ _ 48 _ _ _ _)
          refine cl_X12_241 (As := [.int 0, .int 2]) rfl (i := 26) rfl (md_0 hmh71) rfl rfl (Nat.le_of_ble_eq_true rfl) (k_X12_throwsIf 0 2 hmh71 (by decide) (fun h76 hmh76 frh76 => ⟨_, rfl, (?_ : ky_V _ _ _ 51 _ [.int ((md_throwsIf_r q72 0 2))] _ _)⟩))
          have frh76 := frh71.tr frh76
          refine v_topi (fun x78 ex78 => ?_)
          replace e := ky_letE ex78 e
          obtain ⟨q77, eq77⟩ : ∃ z, z = (md_throwsIf_c q72 0 2) := ⟨_, rfl⟩
          rw [← eq77] at hmh76
          replace e := ky_letE eq77 e
          refine v_if_eq (tgt := 56) (i := 27) rfl (by decide) (fun c79 => ?_) (fun c79 => ?_)
          · replace e := ky_ifT c79 e
            refine v_aload_n (i := 30) (j := 0) rfl rfl (?_ : ky_V _ _ _ 57 _ _ _ _)
            refine cl_X12_285 (As := []) rfl (i := 31) rfl (md_0 hmh76) rfl rfl (Nat.le_of_ble_eq_true rfl) (k_X12_looks hmh76 (fun h80 hmh80 frh80 => ⟨_, rfl, (?_ : ky_V _ _ _ 60 _ [] _ _)⟩))
            have frh80 := frh76.tr frh80
            obtain ⟨q81, eq81⟩ : ∃ z, z = (md_looks_c q77) := ⟨_, rfl⟩
            rw [← eq81] at hmh80
            replace e := ky_letE eq81 e
            refine v_aload_n (i := 32) (j := 0) rfl rfl (?_ : ky_V _ _ _ 61 _ _ _ _)
            refine v_iload_n (i := 33) (j := 1) rfl rfl (?_ : ky_V _ _ _ 62 _ _ _ _)
            refine v_iload_n (i := 34) (j := 2) rfl rfl (?_ : ky_V _ _ _ 63 _ _ _ _)
            obtain ⟨⟨q83, x84⟩, g85, e⟩ := Option.bind_eq_some_iff.mp e
            refine cl_X12_288 (As := [.int p1, .int p2]) rfl (i := 35) rfl (md_0 hmh80) rfl rfl (Nat.le_of_ble_eq_true rfl) (k_X12_movesBy N hmh80 g85 (fun h82 hmh82 frh82 => ⟨_, rfl, (?_ : ky_V _ _ _ 66 _ [] _ _)⟩))
            have frh82 := frh80.tr frh82
            refine v_iload_n (i := 36) (j := 3) rfl rfl (?_ : ky_V _ _ _ 67 _ _ _ _)
            refine v_iconst (v := 2) (i := 37) rfl (by decide) (?_ : ky_V _ _ _ 68 _ _ _ _)
            refine v_icmp_ge (tgt := 80) (i := 38) rfl (by decide) (fun c86 => ?_) (fun c86 => ?_)
            · replace e := ky_ifT c86 e
              refine v_iload_n (i := 44) (j := 3) rfl rfl (?_ : ky_V _ _ _ 81 _ _ _ _)
              refine v_iconst (v := 2) (i := 45) rfl (by decide) (?_ : ky_V _ _ _ 82 _ _ _ _)
              refine v_icmp_ne (tgt := 92) (i := 46) rfl (by decide) (fun c87 => ?_) (fun c87 => ?_)
              · replace e := ky_ifF c87 e
                refine v_aload_n (i := 50) (j := 0) rfl rfl (?_ : ky_V _ _ _ 93 _ _ _ _)
                refine gf_X12_246 rfl (i := 51) rfl (md_0 hmh82) rfl (?_ : ky_V _ _ _ 96 _ _ _ _)
                refine v_if_eq (tgt := 103) (i := 52) rfl (by decide) (fun c88 => ?_) (fun c88 => ?_)
                · replace e := ky_ifT c88 e
                  refine v_iconst (v := 0) (i := 55) rfl (by decide) (?_ : ky_V _ _ _ 104 _ _ _ _)
                  refine v_iret (v := 0) (ty := .int) (i := 56) rfl rfl rfl ?_
                  obtain ⟨rfl, rfl⟩ := ky_leaf e
                  exact hr _ hmh82 frh82
                · replace e := ky_ifF c88 e
                  refine v_iconst (v := 1) (i := 53) rfl (by decide) (?_ : ky_V _ _ _ 100 _ _ _ _)
                  refine v_goto (tgt := 104) (i := 54) rfl (by decide) (?_ : ky_V _ _ _ 104 _ _ _ _)
                  refine v_iret (v := 1) (ty := .int) (i := 56) rfl rfl rfl ?_
                  obtain ⟨rfl, rfl⟩ := ky_leaf e
                  exact hr _ hmh82 frh82
              · replace e := ky_ifT c87 e
                refine v_aload_n (i := 47) (j := 0) rfl rfl (?_ : ky_V _ _ _ 86 _ _ _ _)
                refine gf_X12_244 rfl (i := 48) rfl (md_0 hmh82) rfl (?_ : ky_V _ _ _ 89 _ _ _ _)
                refine v_goto (tgt := 104) (i := 49) rfl (by decide) (?_ : ky_V _ _ _ 104 _ _ _ _)
                refine v_iret (v := (q83 0 19)) (ty := .int) (i := 56) rfl rfl rfl ?_
                obtain ⟨rfl, rfl⟩ := ky_leaf e
                exact hr _ hmh82 frh82
            · replace e := ky_ifF c86 e
              refine v_aload_n (i := 39) (j := 0) rfl rfl (?_ : ky_V _ _ _ 72 _ _ _ _)
              refine gf_X12_42 rfl (i := 40) rfl (md_0 hmh82) rfl (?_ : ky_V _ _ _ 75 _ _ _ _)
              refine v_iload_n (i := 41) (j := 3) rfl rfl (?_ : ky_V _ _ _ 76 _ _ _ _)
              obtain ⟨z89, e⟩ := ky_chkE e
              refine v_iald (i := 42) rfl (md_9 hmh82) (ky_inb z89) (?_ : ky_V _ _ _ 77 _ (.int (q83 9 (Int32.toNatClampNeg p3)) :: _) _ _)
              refine v_goto (tgt := 104) (i := 43) rfl (by decide) (?_ : ky_V _ _ _ 104 _ _ _ _)
              refine v_iret (v := (q83 9 (Int32.toNatClampNeg p3))) (ty := .int) (i := 56) rfl rfl rfl ?_
              obtain ⟨rfl, rfl⟩ := ky_leaf e
              exact hr _ hmh82 frh82
          · replace e := ky_ifF c79 e
            refine v_iconst (v := 0) (i := 28) rfl (by decide) (?_ : ky_V _ _ _ 55 _ _ _ _)
            refine v_iret (v := 0) (ty := .int) (i := 29) rfl rfl rfl ?_
            obtain ⟨rfl, rfl⟩ := ky_leaf e
            exact hr _ hmh76 frh76
        · replace e := ky_ifT c75 e
          refine v_iconst (v := 1) (i := 22) rfl (by decide) (?_ : ky_V _ _ _ 43 _ _ _ _)
          refine v_goto (tgt := 47) (i := 23) rfl (by decide) (?_ : ky_V _ _ _ 47 _ _ _ _)
          refine v_iconst (v := 2) (i := 25) rfl (by decide) (?_ : ky_V _ _ _ 48 _ _ _ _)
          refine cl_X12_241 (As := [.int 1, .int 2]) rfl (i := 26) rfl (md_0 hmh71) rfl rfl (Nat.le_of_ble_eq_true rfl) (k_X12_throwsIf 1 2 hmh71 (by decide) (fun h90 hmh90 frh90 => ⟨_, rfl, (?_ : ky_V _ _ _ 51 _ [.int ((md_throwsIf_r q72 1 2))] _ _)⟩))
          have frh90 := frh71.tr frh90
          refine v_topi (fun x92 ex92 => ?_)
          replace e := ky_letE ex92 e
          obtain ⟨q91, eq91⟩ : ∃ z, z = (md_throwsIf_c q72 1 2) := ⟨_, rfl⟩
          rw [← eq91] at hmh90
          replace e := ky_letE eq91 e
          refine v_if_eq (tgt := 56) (i := 27) rfl (by decide) (fun c93 => ?_) (fun c93 => ?_)
          · replace e := ky_ifT c93 e
            refine v_aload_n (i := 30) (j := 0) rfl rfl (?_ : ky_V _ _ _ 57 _ _ _ _)
            refine cl_X12_285 (As := []) rfl (i := 31) rfl (md_0 hmh90) rfl rfl (Nat.le_of_ble_eq_true rfl) (k_X12_looks hmh90 (fun h94 hmh94 frh94 => ⟨_, rfl, (?_ : ky_V _ _ _ 60 _ [] _ _)⟩))
            have frh94 := frh90.tr frh94
            obtain ⟨q95, eq95⟩ : ∃ z, z = (md_looks_c q91) := ⟨_, rfl⟩
            rw [← eq95] at hmh94
            replace e := ky_letE eq95 e
            refine v_aload_n (i := 32) (j := 0) rfl rfl (?_ : ky_V _ _ _ 61 _ _ _ _)
            refine v_iload_n (i := 33) (j := 1) rfl rfl (?_ : ky_V _ _ _ 62 _ _ _ _)
            refine v_iload_n (i := 34) (j := 2) rfl rfl (?_ : ky_V _ _ _ 63 _ _ _ _)
            obtain ⟨⟨q97, x98⟩, g99, e⟩ := Option.bind_eq_some_iff.mp e
            refine cl_X12_288 (As := [.int p1, .int p2]) rfl (i := 35) rfl (md_0 hmh94) rfl rfl (Nat.le_of_ble_eq_true rfl) (k_X12_movesBy N hmh94 g99 (fun h96 hmh96 frh96 => ⟨_, rfl, (?_ : ky_V _ _ _ 66 _ [] _ _)⟩))
            have frh96 := frh94.tr frh96
            refine v_iload_n (i := 36) (j := 3) rfl rfl (?_ : ky_V _ _ _ 67 _ _ _ _)
            refine v_iconst (v := 2) (i := 37) rfl (by decide) (?_ : ky_V _ _ _ 68 _ _ _ _)
            refine v_icmp_ge (tgt := 80) (i := 38) rfl (by decide) (fun c100 => ?_) (fun c100 => ?_)
            · replace e := ky_ifT c100 e
              refine v_iload_n (i := 44) (j := 3) rfl rfl (?_ : ky_V _ _ _ 81 _ _ _ _)
              refine v_iconst (v := 2) (i := 45) rfl (by decide) (?_ : ky_V _ _ _ 82 _ _ _ _)
              refine v_icmp_ne (tgt := 92) (i := 46) rfl (by decide) (fun c101 => ?_) (fun c101 => ?_)
              · replace e := ky_ifF c101 e
                refine v_aload_n (i := 50) (j := 0) rfl rfl (?_ : ky_V _ _ _ 93 _ _ _ _)
                refine gf_X12_246 rfl (i := 51) rfl (md_0 hmh96) rfl (?_ : ky_V _ _ _ 96 _ _ _ _)
                refine v_if_eq (tgt := 103) (i := 52) rfl (by decide) (fun c102 => ?_) (fun c102 => ?_)
                · replace e := ky_ifT c102 e
                  refine v_iconst (v := 0) (i := 55) rfl (by decide) (?_ : ky_V _ _ _ 104 _ _ _ _)
                  refine v_iret (v := 0) (ty := .int) (i := 56) rfl rfl rfl ?_
                  obtain ⟨rfl, rfl⟩ := ky_leaf e
                  exact hr _ hmh96 frh96
                · replace e := ky_ifF c102 e
                  refine v_iconst (v := 1) (i := 53) rfl (by decide) (?_ : ky_V _ _ _ 100 _ _ _ _)
                  refine v_goto (tgt := 104) (i := 54) rfl (by decide) (?_ : ky_V _ _ _ 104 _ _ _ _)
                  refine v_iret (v := 1) (ty := .int) (i := 56) rfl rfl rfl ?_
                  obtain ⟨rfl, rfl⟩ := ky_leaf e
                  exact hr _ hmh96 frh96
              · replace e := ky_ifT c101 e
                refine v_aload_n (i := 47) (j := 0) rfl rfl (?_ : ky_V _ _ _ 86 _ _ _ _)
                refine gf_X12_244 rfl (i := 48) rfl (md_0 hmh96) rfl (?_ : ky_V _ _ _ 89 _ _ _ _)
                refine v_goto (tgt := 104) (i := 49) rfl (by decide) (?_ : ky_V _ _ _ 104 _ _ _ _)
                refine v_iret (v := (q97 0 19)) (ty := .int) (i := 56) rfl rfl rfl ?_
                obtain ⟨rfl, rfl⟩ := ky_leaf e
                exact hr _ hmh96 frh96
            · replace e := ky_ifF c100 e
              refine v_aload_n (i := 39) (j := 0) rfl rfl (?_ : ky_V _ _ _ 72 _ _ _ _)
              refine gf_X12_42 rfl (i := 40) rfl (md_0 hmh96) rfl (?_ : ky_V _ _ _ 75 _ _ _ _)
              refine v_iload_n (i := 41) (j := 3) rfl rfl (?_ : ky_V _ _ _ 76 _ _ _ _)
              obtain ⟨z103, e⟩ := ky_chkE e
              refine v_iald (i := 42) rfl (md_9 hmh96) (ky_inb z103) (?_ : ky_V _ _ _ 77 _ (.int (q97 9 (Int32.toNatClampNeg p3)) :: _) _ _)
              refine v_goto (tgt := 104) (i := 43) rfl (by decide) (?_ : ky_V _ _ _ 104 _ _ _ _)
              refine v_iret (v := (q97 9 (Int32.toNatClampNeg p3))) (ty := .int) (i := 56) rfl rfl rfl ?_
              obtain ⟨rfl, rfl⟩ := ky_leaf e
              exact hr _ hmh96 frh96
          · replace e := ky_ifF c93 e
            refine v_iconst (v := 0) (i := 28) rfl (by decide) (?_ : ky_V _ _ _ 55 _ _ _ _)
            refine v_iret (v := 0) (ty := .int) (i := 29) rfl rfl rfl ?_
            obtain ⟨rfl, rfl⟩ := ky_leaf e
            exact hr _ hmh90 frh90

def md_soonestBy (N : Nat) (c : (Nat → Nat → Int32)) (p1 : Int32) : Option ((Nat → Nat → Int32) × Int32) := ((md_laysNext N c).bind (fun zz => (fun q2 x3 => ((md_laysNeed N q2 p1).bind (fun zz => (fun q6 x7 => (ky_let (md_stateNow_r q6) (fun x11 => (ky_let (md_stateNow_c q6) (fun q10 => (if ky_inB x11 1200 = true then (some (q10, (q10 11 (Int32.toNatClampNeg x11)))) else none)))))) zz.1 zz.2))) zz.1 zz.2))
set_option maxRecDepth 20000 in
set_option maxHeartbeats 4000000 in
theorem k_X12_soonestBy {G : ky_GW} {d : Nat} {h : ky_HP} {Q : ky_RS → ky_HP → Prop} {a : Nat} {c c9 : (Nat → Nat → Int32)} {r9 : Int32} {p1 : Int32} (N : Nat) (hm : md_at G h a c) (e : md_soonestBy N c p1 = some (c9, r9)) (hr : ∀ h1, md_at G h1 a c9 → bk_fr a 13 h h1 → Q (.inl (some (.int r9))) h1) : ky_Call G (d + 5) M_X12_soonestBy [.ref a, .int p1] h Q := by
  refine ky_ofV (by decide +kernel) rfl ok_X12_soonestBy (Nat.le_of_ble_eq_true rfl) ?_
  have fr : bk_fr a 13 h h := bk_fr.rf
  unfold md_soonestBy at e
  refine (?_ : ky_V _ _ _ 0 [(0, .ref a), (1, .int p1)] [] _ _)
  refine v_aload_n (i := 0) (j := 0) rfl rfl (?_ : ky_V _ _ _ 1 _ _ _ _)
  obtain ⟨⟨q2, x3⟩, g4, e⟩ := Option.bind_eq_some_iff.mp e
  refine cl_X12_318 (As := []) rfl (i := 1) rfl (md_0 hm) rfl rfl (Nat.le_of_ble_eq_true rfl) (k_X12_laysNext N hm g4 (fun h1 hmh1 frh1 => ⟨_, rfl, (?_ : ky_V _ _ _ 4 _ [] _ _)⟩))
  have frh1 := fr.tr frh1
  refine v_aload_n (i := 2) (j := 0) rfl rfl (?_ : ky_V _ _ _ 5 _ _ _ _)
  refine v_iload_n (i := 3) (j := 1) rfl rfl (?_ : ky_V _ _ _ 6 _ _ _ _)
  obtain ⟨⟨q6, x7⟩, g8, e⟩ := Option.bind_eq_some_iff.mp e
  refine cl_X12_321 (As := [.int p1]) rfl (i := 4) rfl (md_0 hmh1) rfl rfl (Nat.le_of_ble_eq_true rfl) (k_X12_laysNeed N hmh1 g8 (fun h5 hmh5 frh5 => ⟨_, rfl, (?_ : ky_V _ _ _ 9 _ [] _ _)⟩))
  have frh5 := frh1.tr frh5
  refine v_aload_n (i := 5) (j := 0) rfl rfl (?_ : ky_V _ _ _ 10 _ _ _ _)
  refine gf_X12_48 rfl (i := 6) rfl (md_0 hmh5) rfl (?_ : ky_V _ _ _ 13 _ _ _ _)
  refine v_aload_n (i := 7) (j := 0) rfl rfl (?_ : ky_V _ _ _ 14 _ _ _ _)
  refine cl_X12_324 (As := []) rfl (i := 8) rfl (md_0 hmh5) rfl rfl (Nat.le_of_ble_eq_true rfl) (k_X12_stateNow hmh5 (fun h9 hmh9 frh9 => ⟨_, rfl, (?_ : ky_V _ _ _ 17 _ [.int ((md_stateNow_r q6)), .ref ((a + 11))] _ _)⟩))
  have frh9 := frh5.tr frh9
  refine v_topi (fun x11 ex11 => ?_)
  replace e := ky_letE ex11 e
  obtain ⟨q10, eq10⟩ : ∃ z, z = (md_stateNow_c q6) := ⟨_, rfl⟩
  rw [← eq10] at hmh9
  replace e := ky_letE eq10 e
  obtain ⟨z12, e⟩ := ky_chkE e
  refine v_iald (i := 9) rfl (md_11 hmh9) (ky_inb z12) (?_ : ky_V _ _ _ 18 _ (.int (q10 11 (Int32.toNatClampNeg x11)) :: _) _ _)
  refine v_iret (v := (q10 11 (Int32.toNatClampNeg x11))) (ty := .int) (i := 10) rfl rfl rfl ?_
  obtain ⟨rfl, rfl⟩ := ky_leaf e
  exact hr _ hmh9 frh9

def md_best_L54 (N : Nat) (k : (Nat → Nat → Int32) → Int32 → Int32 → Int32 → Int32 → Int32 → Int32 → Option ((Nat → Nat → Int32) × Int32)) : Nat → (Nat → Nat → Int32) → Int32 → Int32 → Int32 → Int32 → Int32 → Int32 → Option ((Nat → Nat → Int32) × Int32)
  | 0, _, _, _, _, _, _, _ => none
  | n + 1, c, p1, p2, p3, p4, p5, p6 => (if (md_has p1 (md_moveOf p6)) = 0 then (ky_let (p6 + 1) (fun x2 => (md_best_L54 N k n c p1 p2 p3 p4 p5 x2))) else (if ky_inB ((17 + (4 * (md_moveOf p6))) + 3) 2247 = true then (if ky_inB ((12 * p3) + p6) 14400 = true then (if ky_inB (c 10 (Int32.toNatClampNeg ((12 * p3) + p6))) 1200 = true then (if ky_inB p3 1200 = true then (if ((md_takesOf_r c p6) + (c 11 (Int32.toNatClampNeg (c 10 (Int32.toNatClampNeg ((12 * p3) + p6)))))) = (c 11 (Int32.toNatClampNeg p3)) then (k c p1 p2 p3 p4 p5 p6) else (ky_let (p6 + 1) (fun x8 => (md_best_L54 N k n c p1 p2 p3 p4 p5 x8)))) else none) else none) else none) else none))
set_option maxRecDepth 20000 in
set_option maxHeartbeats 4000000 in
theorem lv_X12_best_54 {G : ky_GW} {d : Nat} {h0 : ky_HP} {Q : ky_RS → ky_HP → Prop} {a : Nat} {c9 : (Nat → Nat → Int32)} {r9 : Int32} (N : Nat) (k : (Nat → Nat → Int32) → Int32 → Int32 → Int32 → Int32 → Int32 → Int32 → Option ((Nat → Nat → Int32) × Int32)) (hr : ∀ h1, md_at G h1 a c9 → bk_fr a 13 h0 h1 → Q (.inl (some (.int r9))) h1)
    (hk : ∀ (h : ky_HP) (c : (Nat → Nat → Int32)) (p1 : Int32) (p2 : Int32) (p3 : Int32) (p4 : Int32) (p5 : Int32) (p6 : Int32), md_at G h a c → bk_fr a 13 h0 h → k c p1 p2 p3 p4 p5 p6 = some (c9, r9) → ky_V G (d + 6) M_X12_best 105 [(0, .ref a), (1, .int p1), (2, .int p2), (3, .int p3), (4, .int p4), (5, .int p5), (6, .int p6)] [] h Q) :
    ∀ (n : Nat) (h : ky_HP) (c : (Nat → Nat → Int32)) (p1 : Int32) (p2 : Int32) (p3 : Int32) (p4 : Int32) (p5 : Int32) (p6 : Int32), md_at G h a c → bk_fr a 13 h0 h → md_best_L54 N k n c p1 p2 p3 p4 p5 p6 = some (c9, r9) → ky_V G (d + 6) M_X12_best 54 [(0, .ref a), (1, .int p1), (2, .int p2), (3, .int p3), (4, .int p4), (5, .int p5), (6, .int p6)] [] h Q := by
  intro n
  induction n with
  | zero => intro h c p1 p2 p3 p4 p5 p6 hm fr e; cases e
  | succ n ih =>
    intro h c p1 p2 p3 p4 p5 p6 hm fr e
    rw [md_best_L54] at e
    refine v_iload_n (i := 31) (j := 1) rfl rfl (?_ : ky_V _ _ _ 55 _ _ _ _)
    refine v_iload (i := 32) (j := 6) rfl rfl (?_ : ky_V _ _ _ 57 _ _ _ _)
    refine cl_X12_295 (As := [.int p6]) rfl (i := 33) rfl rfl rfl (Nat.le_of_ble_eq_true rfl) (k_X12_moveOf p6 ⟨_, rfl, (?_ : ky_V _ _ _ 60 _ [.int ((md_moveOf p6)), .int p1] _ _)⟩)
    refine cl_X12_305 (As := [.int p1, .int ((md_moveOf p6))]) rfl (i := 34) rfl rfl rfl (Nat.le_of_ble_eq_true rfl) (k_X12_has p1 (md_moveOf p6) ⟨_, rfl, (?_ : ky_V _ _ _ 63 _ [.int ((md_has p1 (md_moveOf p6)))] _ _)⟩)
    refine v_if_eq (tgt := 99) (i := 35) rfl (by decide) (fun c1 => ?_) (fun c1 => ?_)
    · replace e := ky_ifT c1 e
      obtain ⟨x2, ex2⟩ : ∃ z : Int32, z = p6 + 1 := ⟨_, rfl⟩
      replace e := ky_letE ex2 e
      refine v_iinc (v := x2) (j := 6) (L' := [(0, .ref a), (1, .int p1), (2, .int p2), (3, .int p3), (4, .int p4), (5, .int p5), (6, .int x2)]) [1, 2, 3, 4, 5, 6, 0] (i := 56) rfl rfl (by rw [ex2]; rfl) (Nat.le_of_ble_eq_true rfl) rfl (?_ : ky_V _ _ _ 102 _ _ _ _)
      refine v_goto (tgt := 54) (i := 57) rfl (by decide) (?_ : ky_V _ _ _ 54 _ _ _ _)
      exact ih h c p1 p2 p3 p4 p5 x2 hm fr e
    · replace e := ky_ifF c1 e
      refine v_aload_n (i := 36) (j := 0) rfl rfl (?_ : ky_V _ _ _ 67 _ _ _ _)
      refine v_iload (i := 37) (j := 6) rfl rfl (?_ : ky_V _ _ _ 69 _ _ _ _)
      obtain ⟨z3, e⟩ := ky_chkE e
      refine cl_X12_308 (As := [.int p6]) rfl (i := 38) rfl (md_0 hm) rfl rfl (Nat.le_of_ble_eq_true rfl) (k_X12_takesOf p6 hm (ky_inb z3) ⟨_, rfl, (?_ : ky_V _ _ _ 72 _ [.int ((md_takesOf_r c p6))] _ _)⟩)
      refine v_aload_n (i := 39) (j := 0) rfl rfl (?_ : ky_V _ _ _ 73 _ _ _ _)
      refine gf_X12_48 rfl (i := 40) rfl (md_0 hm) rfl (?_ : ky_V _ _ _ 76 _ _ _ _)
      refine v_aload_n (i := 41) (j := 0) rfl rfl (?_ : ky_V _ _ _ 77 _ _ _ _)
      refine gf_X12_45 rfl (i := 42) rfl (md_0 hm) rfl (?_ : ky_V _ _ _ 80 _ _ _ _)
      refine v_bipush (v := 12) (i := 43) rfl (by decide) (?_ : ky_V _ _ _ 82 _ _ _ _)
      refine v_iload_n (i := 44) (j := 3) rfl rfl (?_ : ky_V _ _ _ 83 _ _ _ _)
      refine v_imul (i := 45) rfl (?_ : ky_V _ _ _ 84 _ _ _ _)
      refine v_iload (i := 46) (j := 6) rfl rfl (?_ : ky_V _ _ _ 86 _ _ _ _)
      refine v_iadd (i := 47) rfl (?_ : ky_V _ _ _ 87 _ _ _ _)
      obtain ⟨z4, e⟩ := ky_chkE e
      refine v_iald (i := 48) rfl (md_10 hm) (ky_inb z4) (?_ : ky_V _ _ _ 88 _ (.int (c 10 (Int32.toNatClampNeg ((12 * p3) + p6))) :: _) _ _)
      obtain ⟨z5, e⟩ := ky_chkE e
      refine v_iald (i := 49) rfl (md_11 hm) (ky_inb z5) (?_ : ky_V _ _ _ 89 _ (.int (c 11 (Int32.toNatClampNeg (c 10 (Int32.toNatClampNeg ((12 * p3) + p6))))) :: _) _ _)
      refine v_iadd (i := 50) rfl (?_ : ky_V _ _ _ 90 _ _ _ _)
      refine v_aload_n (i := 51) (j := 0) rfl rfl (?_ : ky_V _ _ _ 91 _ _ _ _)
      refine gf_X12_48 rfl (i := 52) rfl (md_0 hm) rfl (?_ : ky_V _ _ _ 94 _ _ _ _)
      refine v_iload_n (i := 53) (j := 3) rfl rfl (?_ : ky_V _ _ _ 95 _ _ _ _)
      obtain ⟨z6, e⟩ := ky_chkE e
      refine v_iald (i := 54) rfl (md_11 hm) (ky_inb z6) (?_ : ky_V _ _ _ 96 _ (.int (c 11 (Int32.toNatClampNeg p3)) :: _) _ _)
      refine v_icmp_eq (tgt := 105) (i := 55) rfl (by decide) (fun c7 => ?_) (fun c7 => ?_)
      · replace e := ky_ifT c7 e
        exact hk h c p1 p2 p3 p4 p5 p6 hm fr e
      · replace e := ky_ifF c7 e
        obtain ⟨x8, ex8⟩ : ∃ z : Int32, z = p6 + 1 := ⟨_, rfl⟩
        replace e := ky_letE ex8 e
        refine v_iinc (v := x8) (j := 6) (L' := [(0, .ref a), (1, .int p1), (2, .int p2), (3, .int p3), (4, .int p4), (5, .int p5), (6, .int x8)]) [1, 2, 3, 4, 5, 6, 0] (i := 56) rfl rfl (by rw [ex8]; rfl) (Nat.le_of_ble_eq_true rfl) rfl (?_ : ky_V _ _ _ 102 _ _ _ _)
        refine v_goto (tgt := 54) (i := 57) rfl (by decide) (?_ : ky_V _ _ _ 54 _ _ _ _)
        exact ih h c p1 p2 p3 p4 p5 x8 hm fr e

def md_best_L36 (N : Nat) (k : (Nat → Nat → Int32) → Int32 → Int32 → Int32 → Int32 → Int32 → Option ((Nat → Nat → Int32) × Int32)) : Nat → (Nat → Nat → Int32) → Int32 → Int32 → Int32 → Int32 → Int32 → Option ((Nat → Nat → Int32) × Int32)
  | 0, _, _, _, _, _, _ => none
  | n + 1, c, p1, p2, p3, p4, p5 => (if p2 < p5 then (k c p1 p2 p3 p4 p5) else (if (md_isOutAt p3) = 0 then (md_best_L54 N (fun q4 x5 x6 x7 x8 x9 x10 => (ky_let (md_nameOf x10) (fun x11 => (if ky_inB ((12 * x7) + x10) 14400 = true then (ky_let (q4 10 (Int32.toNatClampNeg ((12 * x7) + x10))) (fun x13 => (ky_let (x9 + 1) (fun x14 => (md_best_L36 N k n q4 x5 x6 x13 x11 x14))))) else none)))) N c p1 p2 p3 p4 p5 0) else (some (c, (-1)))))
set_option maxRecDepth 20000 in
set_option maxHeartbeats 4000000 in
theorem lv_X12_best_36 {G : ky_GW} {d : Nat} {h0 : ky_HP} {Q : ky_RS → ky_HP → Prop} {a : Nat} {c9 : (Nat → Nat → Int32)} {r9 : Int32} (N : Nat) (k : (Nat → Nat → Int32) → Int32 → Int32 → Int32 → Int32 → Int32 → Option ((Nat → Nat → Int32) × Int32)) (hr : ∀ h1, md_at G h1 a c9 → bk_fr a 13 h0 h1 → Q (.inl (some (.int r9))) h1)
    (hk : ∀ (h : ky_HP) (c : (Nat → Nat → Int32)) (p1 : Int32) (p2 : Int32) (p3 : Int32) (p4 : Int32) (p5 : Int32), md_at G h a c → bk_fr a 13 h0 h → k c p1 p2 p3 p4 p5 = some (c9, r9) → ky_V G (d + 6) M_X12_best 131 [(0, .ref a), (1, .int p1), (2, .int p2), (3, .int p3), (4, .int p4), (5, .int p5)] [] h Q) :
    ∀ (n : Nat) (h : ky_HP) (c : (Nat → Nat → Int32)) (p1 : Int32) (p2 : Int32) (p3 : Int32) (p4 : Int32) (p5 : Int32), md_at G h a c → bk_fr a 13 h0 h → md_best_L36 N k n c p1 p2 p3 p4 p5 = some (c9, r9) → ky_V G (d + 6) M_X12_best 36 [(0, .ref a), (1, .int p1), (2, .int p2), (3, .int p3), (4, .int p4), (5, .int p5)] [] h Q := by
  intro n
  induction n with
  | zero => intro h c p1 p2 p3 p4 p5 hm fr e; cases e
  | succ n ih =>
    intro h c p1 p2 p3 p4 p5 hm fr e
    rw [md_best_L36] at e
    refine v_iload (i := 21) (j := 5) rfl rfl (?_ : ky_V _ _ _ 38 _ _ _ _)
    refine v_iload_n (i := 22) (j := 2) rfl rfl (?_ : ky_V _ _ _ 39 _ _ _ _)
    refine v_icmp_gt (tgt := 131) (i := 23) rfl (by decide) (fun c1 => ?_) (fun c1 => ?_)
    · replace e := ky_ifT c1 e
      exact hk h c p1 p2 p3 p4 p5 hm fr e
    · replace e := ky_ifF c1 e
      refine v_iload_n (i := 24) (j := 3) rfl rfl (?_ : ky_V _ _ _ 43 _ _ _ _)
      refine cl_X12_311 (As := [.int p3]) rfl (i := 25) rfl rfl rfl (Nat.le_of_ble_eq_true rfl) (k_X12_isOutAt p3 ⟨_, rfl, (?_ : ky_V _ _ _ 46 _ [.int ((md_isOutAt p3))] _ _)⟩)
      refine v_if_eq (tgt := 51) (i := 26) rfl (by decide) (fun c2 => ?_) (fun c2 => ?_)
      · replace e := ky_ifT c2 e
        refine v_iconst (v := 0) (i := 29) rfl (by decide) (?_ : ky_V _ _ _ 52 _ _ _ _)
        refine v_istore (L' := [(0, .ref a), (1, .int p1), (2, .int p2), (3, .int p3), (4, .int p4), (5, .int p5), (6, .int 0)]) [1, 2, 3, 4, 5, 6, 0] (i := 30) rfl (Nat.le_of_ble_eq_true rfl) rfl (?_ : ky_V _ _ _ 54 _ _ _ _)
        refine lv_X12_best_54 N _ hr (fun h3 q4 x5 x6 x7 x8 x9 x10 hmh3 frh3 e => ?_) N h c p1 p2 p3 p4 p5 0 hm fr e
        refine v_iload (i := 58) (j := 6) rfl rfl (?_ : ky_V _ _ _ 107 _ _ _ _)
        refine cl_X12_330 (As := [.int x10]) rfl (i := 59) rfl rfl rfl (Nat.le_of_ble_eq_true rfl) (k_X12_nameOf x10 ⟨_, rfl, (?_ : ky_V _ _ _ 110 _ [.int ((md_nameOf x10))] _ _)⟩)
        refine v_topi (fun x11 ex11 => ?_)
        replace e := ky_letE ex11 e
        refine v_istore (L' := [(0, .ref a), (1, .int x5), (2, .int x6), (3, .int x7), (4, .int x11), (5, .int x9), (6, .int x10)]) [1, 2, 3, 4, 0, 5, 6] (i := 60) rfl (Nat.le_of_ble_eq_true rfl) rfl (?_ : ky_V _ _ _ 112 _ _ _ _)
        refine v_aload_n (i := 61) (j := 0) rfl rfl (?_ : ky_V _ _ _ 113 _ _ _ _)
        refine gf_X12_45 rfl (i := 62) rfl (md_0 hmh3) rfl (?_ : ky_V _ _ _ 116 _ _ _ _)
        refine v_bipush (v := 12) (i := 63) rfl (by decide) (?_ : ky_V _ _ _ 118 _ _ _ _)
        refine v_iload_n (i := 64) (j := 3) rfl rfl (?_ : ky_V _ _ _ 119 _ _ _ _)
        refine v_imul (i := 65) rfl (?_ : ky_V _ _ _ 120 _ _ _ _)
        refine v_iload (i := 66) (j := 6) rfl rfl (?_ : ky_V _ _ _ 122 _ _ _ _)
        refine v_iadd (i := 67) rfl (?_ : ky_V _ _ _ 123 _ _ _ _)
        obtain ⟨z12, e⟩ := ky_chkE e
        refine v_iald (i := 68) rfl (md_10 hmh3) (ky_inb z12) (?_ : ky_V _ _ _ 124 _ (.int (q4 10 (Int32.toNatClampNeg ((12 * x7) + x10))) :: _) _ _)
        refine v_topi (fun x13 ex13 => ?_)
        replace e := ky_letE ex13 e
        refine v_istore_n (L' := [(0, .ref a), (1, .int x5), (2, .int x6), (3, .int x13), (4, .int x11), (5, .int x9), (6, .int x10)]) [1, 2, 3, 0, 4, 5, 6] (i := 69) rfl (Nat.le_of_ble_eq_true rfl) rfl (?_ : ky_V _ _ _ 125 _ _ _ _)
        obtain ⟨x14, ex14⟩ : ∃ z : Int32, z = x9 + 1 := ⟨_, rfl⟩
        replace e := ky_letE ex14 e
        refine v_iinc (v := x14) (j := 5) (L' := [(0, .ref a), (1, .int x5), (2, .int x6), (3, .int x13), (4, .int x11), (5, .int x14), (6, .int x10)]) [1, 2, 3, 4, 5, 0, 6] (i := 70) rfl rfl (by rw [ex14]; rfl) (Nat.le_of_ble_eq_true rfl) rfl (?_ : ky_V _ _ _ 128 _ _ _ _)
        refine v_goto (tgt := 36) (i := 71) rfl (by decide) (?_ : ky_V _ _ _ 36 _ _ _ _)
        refine ky_loc (L' := [(0, .ref a), (1, .int x5), (2, .int x6), (3, .int x13), (4, .int x11), (5, .int x14)]) (by simp) ?_
        exact ih h3 q4 x5 x6 x13 x11 x14 hmh3 frh3 e
      · replace e := ky_ifF c2 e
        refine v_iconst (v := (-1)) (i := 27) rfl (by decide) (?_ : ky_V _ _ _ 50 _ _ _ _)
        refine v_iret (v := (-1)) (ty := .int) (i := 28) rfl rfl rfl ?_
        obtain ⟨rfl, rfl⟩ := ky_leaf e
        exact hr _ hm fr

def md_best (N : Nat) (c : (Nat → Nat → Int32)) (p1 : Int32) (p2 : Int32) : Option ((Nat → Nat → Int32) × Int32) := (ky_let (bk_w c 0 0 0) (fun q2 => ((md_soonestBy N q2 (p1 &&& 127)).bind (fun zz => (fun q4 x5 => (if (1000000 : Int32) ≤ x5 then (some (q4, (-1))) else (if 0 ≤ p2 then (ky_let (md_stateNow_r q4) (fun x11 => (ky_let (md_stateNow_c q4) (fun q10 => (md_best_L36 N (fun q13 x14 x15 x16 x17 x18 => (some (q13, x17))) N q10 p1 p2 x11 (-1) 0))))) else (some (q4, (-1)))))) zz.1 zz.2))))
set_option maxRecDepth 20000 in
set_option maxHeartbeats 4000000 in
theorem k_X12_best {G : ky_GW} {d : Nat} {h : ky_HP} {Q : ky_RS → ky_HP → Prop} {a : Nat} {c c9 : (Nat → Nat → Int32)} {r9 : Int32} {p1 : Int32} {p2 : Int32} (N : Nat) (hm : md_at G h a c) (e : md_best N c p1 p2 = some (c9, r9)) (hr : ∀ h1, md_at G h1 a c9 → bk_fr a 13 h h1 → Q (.inl (some (.int r9))) h1) : ky_Call G (d + 6) M_X12_best [.ref a, .int p1, .int p2] h Q := by
  refine ky_ofV (by decide +kernel) rfl ok_X12_best (Nat.le_of_ble_eq_true rfl) ?_
  have fr : bk_fr a 13 h h := bk_fr.rf
  unfold md_best at e
  refine (?_ : ky_V _ _ _ 0 [(0, .ref a), (1, .int p1), (2, .int p2)] [] _ _)
  refine v_aload_n (i := 0) (j := 0) rfl rfl (?_ : ky_V _ _ _ 1 _ _ _ _)
  refine v_iconst (v := 0) (i := 1) rfl (by decide) (?_ : ky_V _ _ _ 2 _ _ _ _)
  refine pf_X12_3 rfl (i := 2) rfl (md_0 hm) (Nat.le_of_ble_eq_true rfl) rfl rfl ?_
  refine bk_st (B := md_B G a) hm fr 0 0 0 (by decide) (fun h1 hmh1 frh1 => ?_)
  obtain ⟨q2, eq2⟩ : ∃ z, z = (bk_w c 0 0 0) := ⟨_, rfl⟩
  rw [← eq2] at hmh1
  replace e := ky_letE eq2 e
  refine (?_ : ky_V _ _ _ 5 _ _ _ _)
  refine v_aload_n (i := 3) (j := 0) rfl rfl (?_ : ky_V _ _ _ 6 _ _ _ _)
  refine v_iload_n (i := 4) (j := 1) rfl rfl (?_ : ky_V _ _ _ 7 _ _ _ _)
  refine v_bipush (v := 127) (i := 5) rfl (by decide) (?_ : ky_V _ _ _ 9 _ _ _ _)
  refine v_iand (i := 6) rfl (?_ : ky_V _ _ _ 10 _ _ _ _)
  obtain ⟨⟨q4, x5⟩, g6, e⟩ := Option.bind_eq_some_iff.mp e
  refine cl_X12_327 (As := [.int ((p1 &&& 127))]) rfl (i := 7) rfl (md_0 hmh1) rfl rfl (Nat.le_of_ble_eq_true rfl) (k_X12_soonestBy N hmh1 g6 (fun h3 hmh3 frh3 => ⟨_, rfl, (?_ : ky_V _ _ _ 13 _ [.int x5] _ _)⟩))
  have frh3 := frh1.tr frh3
  refine v_ldcw (v := 1000000) (i := 8) rfl (ky_t8 (i := 116) rfl rfl) (?_ : ky_V _ _ _ 16 _ _ _ _)
  refine v_icmp_ge (tgt := 23) (i := 9) rfl (by decide) (fun c7 => ?_) (fun c7 => ?_)
  · replace e := ky_ifT c7 e
    refine v_iconst (v := (-1)) (i := 12) rfl (by decide) (?_ : ky_V _ _ _ 24 _ _ _ _)
    refine v_iret (v := (-1)) (ty := .int) (i := 13) rfl rfl rfl ?_
    obtain ⟨rfl, rfl⟩ := ky_leaf e
    exact hr _ hmh3 frh3
  · replace e := ky_ifF c7 e
    refine v_iload_n (i := 10) (j := 2) rfl rfl (?_ : ky_V _ _ _ 20 _ _ _ _)
    refine v_if_ge (tgt := 25) (i := 11) rfl (by decide) (fun c8 => ?_) (fun c8 => ?_)
    · replace e := ky_ifT c8 e
      refine v_aload_n (i := 14) (j := 0) rfl rfl (?_ : ky_V _ _ _ 26 _ _ _ _)
      refine cl_X12_324 (As := []) rfl (i := 15) rfl (md_0 hmh3) rfl rfl (Nat.le_of_ble_eq_true rfl) (k_X12_stateNow hmh3 (fun h9 hmh9 frh9 => ⟨_, rfl, (?_ : ky_V _ _ _ 29 _ [.int ((md_stateNow_r q4))] _ _)⟩))
      have frh9 := frh3.tr frh9
      refine v_topi (fun x11 ex11 => ?_)
      replace e := ky_letE ex11 e
      obtain ⟨q10, eq10⟩ : ∃ z, z = (md_stateNow_c q4) := ⟨_, rfl⟩
      rw [← eq10] at hmh9
      replace e := ky_letE eq10 e
      refine v_istore_n (L' := [(0, .ref a), (1, .int p1), (2, .int p2), (3, .int x11)]) [1, 2, 3, 0] (i := 16) rfl (Nat.le_of_ble_eq_true rfl) rfl (?_ : ky_V _ _ _ 30 _ _ _ _)
      refine v_iconst (v := (-1)) (i := 17) rfl (by decide) (?_ : ky_V _ _ _ 31 _ _ _ _)
      refine v_istore (L' := [(0, .ref a), (1, .int p1), (2, .int p2), (3, .int x11), (4, .int (-1))]) [1, 2, 3, 4, 0] (i := 18) rfl (Nat.le_of_ble_eq_true rfl) rfl (?_ : ky_V _ _ _ 33 _ _ _ _)
      refine v_iconst (v := 0) (i := 19) rfl (by decide) (?_ : ky_V _ _ _ 34 _ _ _ _)
      refine v_istore (L' := [(0, .ref a), (1, .int p1), (2, .int p2), (3, .int x11), (4, .int (-1)), (5, .int 0)]) [1, 2, 3, 4, 5, 0] (i := 20) rfl (Nat.le_of_ble_eq_true rfl) rfl (?_ : ky_V _ _ _ 36 _ _ _ _)
      refine lv_X12_best_36 N _ hr (fun h12 q13 x14 x15 x16 x17 x18 hmh12 frh12 e => ?_) N h9 q10 p1 p2 x11 (-1) 0 hmh9 frh9 e
      refine v_iload (i := 72) (j := 4) rfl rfl (?_ : ky_V _ _ _ 133 _ _ _ _)
      refine v_iret (v := x17) (ty := .int) (i := 73) rfl rfl rfl ?_
      obtain ⟨rfl, rfl⟩ := ky_leaf e
      exact hr _ hmh12 frh12
    · replace e := ky_ifF c8 e
      refine v_iconst (v := (-1)) (i := 12) rfl (by decide) (?_ : ky_V _ _ _ 24 _ _ _ _)
      refine v_iret (v := (-1)) (ty := .int) (i := 13) rfl rfl rfl ?_
      obtain ⟨rfl, rfl⟩ := ky_leaf e
      exact hr _ hmh3 frh3

def md_latest (N : Nat) (c : (Nat → Nat → Int32))  : Option ((Nat → Nat → Int32) × Int32) := (ky_let (bk_w c 0 0 0) (fun q2 => ((md_soonestBy N q2 127).bind (fun zz => (fun q4 x5 => (if x5 < (1000000 : Int32) then (some (q4, (mt_max (-1) (((q4 1 8) - x5) - 1)))) else (some (q4, (-1))))) zz.1 zz.2))))
set_option maxRecDepth 20000 in
set_option maxHeartbeats 4000000 in
theorem k_X12_latest {G : ky_GW} {d : Nat} {h : ky_HP} {Q : ky_RS → ky_HP → Prop} {a : Nat} {c c9 : (Nat → Nat → Int32)} {r9 : Int32}  (N : Nat) (hm : md_at G h a c) (e : md_latest N c = some (c9, r9)) (hr : ∀ h1, md_at G h1 a c9 → bk_fr a 13 h h1 → Q (.inl (some (.int r9))) h1) : ky_Call G (d + 6) M_X12_latest [.ref a] h Q := by
  refine ky_ofV (by decide +kernel) rfl ok_X12_latest (Nat.le_of_ble_eq_true rfl) ?_
  have fr : bk_fr a 13 h h := bk_fr.rf
  unfold md_latest at e
  refine (?_ : ky_V _ _ _ 0 [(0, .ref a)] [] _ _)
  refine v_aload_n (i := 0) (j := 0) rfl rfl (?_ : ky_V _ _ _ 1 _ _ _ _)
  refine v_iconst (v := 0) (i := 1) rfl (by decide) (?_ : ky_V _ _ _ 2 _ _ _ _)
  refine pf_X12_3 rfl (i := 2) rfl (md_0 hm) (Nat.le_of_ble_eq_true rfl) rfl rfl ?_
  refine bk_st (B := md_B G a) hm fr 0 0 0 (by decide) (fun h1 hmh1 frh1 => ?_)
  obtain ⟨q2, eq2⟩ : ∃ z, z = (bk_w c 0 0 0) := ⟨_, rfl⟩
  rw [← eq2] at hmh1
  replace e := ky_letE eq2 e
  refine (?_ : ky_V _ _ _ 5 _ _ _ _)
  refine v_aload_n (i := 3) (j := 0) rfl rfl (?_ : ky_V _ _ _ 6 _ _ _ _)
  refine v_bipush (v := 127) (i := 4) rfl (by decide) (?_ : ky_V _ _ _ 8 _ _ _ _)
  obtain ⟨⟨q4, x5⟩, g6, e⟩ := Option.bind_eq_some_iff.mp e
  refine cl_X12_327 (As := [.int 127]) rfl (i := 5) rfl (md_0 hmh1) rfl rfl (Nat.le_of_ble_eq_true rfl) (k_X12_soonestBy N hmh1 g6 (fun h3 hmh3 frh3 => ⟨_, rfl, (?_ : ky_V _ _ _ 11 _ [.int x5] _ _)⟩))
  have frh3 := frh1.tr frh3
  refine v_istore_n (L' := [(0, .ref a), (1, .int x5)]) [1, 0] (i := 6) rfl (Nat.le_of_ble_eq_true rfl) rfl (?_ : ky_V _ _ _ 12 _ _ _ _)
  refine v_iload_n (i := 7) (j := 1) rfl rfl (?_ : ky_V _ _ _ 13 _ _ _ _)
  refine v_ldcw (v := 1000000) (i := 8) rfl (ky_t8 (i := 116) rfl rfl) (?_ : ky_V _ _ _ 16 _ _ _ _)
  refine v_icmp_lt (tgt := 23) (i := 9) rfl (by decide) (fun c7 => ?_) (fun c7 => ?_)
  · replace e := ky_ifT c7 e
    refine v_iconst (v := (-1)) (i := 12) rfl (by decide) (?_ : ky_V _ _ _ 24 _ _ _ _)
    refine v_aload_n (i := 13) (j := 0) rfl rfl (?_ : ky_V _ _ _ 25 _ _ _ _)
    refine gf_X12_13 rfl (i := 14) rfl (md_0 hmh3) rfl (?_ : ky_V _ _ _ 28 _ _ _ _)
    refine v_bipush (v := 8) (i := 15) rfl (by decide) (?_ : ky_V _ _ _ 30 _ _ _ _)
    refine v_iald (i := 16) rfl (md_1 hmh3) (ky_inl (by decide)) (?_ : ky_V _ _ _ 31 _ (.int (q4 1 8) :: _) _ _)
    refine v_iload_n (i := 17) (j := 1) rfl rfl (?_ : ky_V _ _ _ 32 _ _ _ _)
    refine v_isub (i := 18) rfl (?_ : ky_V _ _ _ 33 _ _ _ _)
    refine v_iconst (v := 1) (i := 19) rfl (by decide) (?_ : ky_V _ _ _ 34 _ _ _ _)
    refine v_isub (i := 20) rfl (?_ : ky_V _ _ _ 35 _ _ _ _)
    refine cl_X12_255 rfl (i := 21) rfl (Nat.le_of_ble_eq_true rfl) (?_ : ky_V _ _ _ 38 _ _ _ _)
    refine v_iret (v := (mt_max (-1) (((q4 1 8) - x5) - 1))) (ty := .int) (i := 22) rfl rfl rfl ?_
    obtain ⟨rfl, rfl⟩ := ky_leaf e
    exact hr _ hmh3 frh3
  · replace e := ky_ifF c7 e
    refine v_iconst (v := (-1)) (i := 10) rfl (by decide) (?_ : ky_V _ _ _ 20 _ _ _ _)
    refine v_goto (tgt := 38) (i := 11) rfl (by decide) (?_ : ky_V _ _ _ 38 _ _ _ _)
    refine v_iret (v := (-1)) (ty := .int) (i := 22) rfl rfl rfl ?_
    obtain ⟨rfl, rfl⟩ := ky_leaf e
    exact hr _ hmh3 frh3

def md_helpsOf (N : Nat) (c : (Nat → Nat → Int32)) (p1 : Int32) : Option ((Nat → Nat → Int32) × Int32) := ((md_soonestBy N c 127).bind (fun zz => (fun q2 x3 => ((md_soonestBy N q2 ((127 : Int32) &&& (((1 : Int32) <<< (p1 &&& 31)) ^^^ (-1)))).bind (fun zz => (fun q6 x7 => (if x3 < (1000000 : Int32) then (if x7 < (1000000 : Int32) then (some (q6, (x7 - x3))) else (some (q6, (-3)))) else (some (q6, (-1))))) zz.1 zz.2))) zz.1 zz.2))
set_option maxRecDepth 20000 in
set_option maxHeartbeats 4000000 in
theorem k_X12_helpsOf {G : ky_GW} {d : Nat} {h : ky_HP} {Q : ky_RS → ky_HP → Prop} {a : Nat} {c c9 : (Nat → Nat → Int32)} {r9 : Int32} {p1 : Int32} (N : Nat) (hm : md_at G h a c) (e : md_helpsOf N c p1 = some (c9, r9)) (hr : ∀ h1, md_at G h1 a c9 → bk_fr a 13 h h1 → Q (.inl (some (.int r9))) h1) : ky_Call G (d + 6) M_X12_helpsOf [.ref a, .int p1] h Q := by
  refine ky_ofV (by decide +kernel) rfl ok_X12_helpsOf (Nat.le_of_ble_eq_true rfl) ?_
  have fr : bk_fr a 13 h h := bk_fr.rf
  unfold md_helpsOf at e
  refine (?_ : ky_V _ _ _ 0 [(0, .ref a), (1, .int p1)] [] _ _)
  refine v_aload_n (i := 0) (j := 0) rfl rfl (?_ : ky_V _ _ _ 1 _ _ _ _)
  refine v_bipush (v := 127) (i := 1) rfl (by decide) (?_ : ky_V _ _ _ 3 _ _ _ _)
  obtain ⟨⟨q2, x3⟩, g4, e⟩ := Option.bind_eq_some_iff.mp e
  refine cl_X12_327 (As := [.int 127]) rfl (i := 2) rfl (md_0 hm) rfl rfl (Nat.le_of_ble_eq_true rfl) (k_X12_soonestBy N hm g4 (fun h1 hmh1 frh1 => ⟨_, rfl, (?_ : ky_V _ _ _ 6 _ [.int x3] _ _)⟩))
  have frh1 := fr.tr frh1
  refine v_istore_n (L' := [(0, .ref a), (1, .int p1), (2, .int x3)]) [1, 2, 0] (i := 3) rfl (Nat.le_of_ble_eq_true rfl) rfl (?_ : ky_V _ _ _ 7 _ _ _ _)
  refine v_aload_n (i := 4) (j := 0) rfl rfl (?_ : ky_V _ _ _ 8 _ _ _ _)
  refine v_bipush (v := 127) (i := 5) rfl (by decide) (?_ : ky_V _ _ _ 10 _ _ _ _)
  refine v_iconst (v := 1) (i := 6) rfl (by decide) (?_ : ky_V _ _ _ 11 _ _ _ _)
  refine v_iload_n (i := 7) (j := 1) rfl rfl (?_ : ky_V _ _ _ 12 _ _ _ _)
  refine v_ishl (i := 8) rfl (?_ : ky_V _ _ _ 13 _ _ _ _)
  refine v_iconst (v := (-1)) (i := 9) rfl (by decide) (?_ : ky_V _ _ _ 14 _ _ _ _)
  refine v_ixor (i := 10) rfl (?_ : ky_V _ _ _ 15 _ _ _ _)
  refine v_iand (i := 11) rfl (?_ : ky_V _ _ _ 16 _ _ _ _)
  obtain ⟨⟨q6, x7⟩, g8, e⟩ := Option.bind_eq_some_iff.mp e
  refine cl_X12_327 (As := [.int (((127 : Int32) &&& (((1 : Int32) <<< (p1 &&& 31)) ^^^ (-1))))]) rfl (i := 12) rfl (md_0 hmh1) rfl rfl (Nat.le_of_ble_eq_true rfl) (k_X12_soonestBy N hmh1 g8 (fun h5 hmh5 frh5 => ⟨_, rfl, (?_ : ky_V _ _ _ 19 _ [.int x7] _ _)⟩))
  have frh5 := frh1.tr frh5
  refine v_istore_n (L' := [(0, .ref a), (1, .int p1), (2, .int x3), (3, .int x7)]) [1, 2, 3, 0] (i := 13) rfl (Nat.le_of_ble_eq_true rfl) rfl (?_ : ky_V _ _ _ 20 _ _ _ _)
  refine v_iload_n (i := 14) (j := 2) rfl rfl (?_ : ky_V _ _ _ 21 _ _ _ _)
  refine v_ldcw (v := 1000000) (i := 15) rfl (ky_t8 (i := 116) rfl rfl) (?_ : ky_V _ _ _ 24 _ _ _ _)
  refine v_icmp_lt (tgt := 31) (i := 16) rfl (by decide) (fun c9 => ?_) (fun c9 => ?_)
  · replace e := ky_ifT c9 e
    refine v_iload_n (i := 19) (j := 3) rfl rfl (?_ : ky_V _ _ _ 32 _ _ _ _)
    refine v_ldcw (v := 1000000) (i := 20) rfl (ky_t8 (i := 116) rfl rfl) (?_ : ky_V _ _ _ 35 _ _ _ _)
    refine v_icmp_lt (tgt := 43) (i := 21) rfl (by decide) (fun c10 => ?_) (fun c10 => ?_)
    · replace e := ky_ifT c10 e
      refine v_iload_n (i := 24) (j := 3) rfl rfl (?_ : ky_V _ _ _ 44 _ _ _ _)
      refine v_iload_n (i := 25) (j := 2) rfl rfl (?_ : ky_V _ _ _ 45 _ _ _ _)
      refine v_isub (i := 26) rfl (?_ : ky_V _ _ _ 46 _ _ _ _)
      refine v_iret (v := (x7 - x3)) (ty := .int) (i := 27) rfl rfl rfl ?_
      obtain ⟨rfl, rfl⟩ := ky_leaf e
      exact hr _ hmh5 frh5
    · replace e := ky_ifF c10 e
      refine v_bipush (v := (-3)) (i := 22) rfl (by decide) (?_ : ky_V _ _ _ 40 _ _ _ _)
      refine v_goto (tgt := 46) (i := 23) rfl (by decide) (?_ : ky_V _ _ _ 46 _ _ _ _)
      refine v_iret (v := (-3)) (ty := .int) (i := 27) rfl rfl rfl ?_
      obtain ⟨rfl, rfl⟩ := ky_leaf e
      exact hr _ hmh5 frh5
  · replace e := ky_ifF c9 e
    refine v_iconst (v := (-1)) (i := 17) rfl (by decide) (?_ : ky_V _ _ _ 28 _ _ _ _)
    refine v_goto (tgt := 46) (i := 18) rfl (by decide) (?_ : ky_V _ _ _ 46 _ _ _ _)
    refine v_iret (v := (-1)) (ty := .int) (i := 27) rfl rfl rfl ?_
    obtain ⟨rfl, rfl⟩ := ky_leaf e
    exact hr _ hmh5 frh5

def md_worth (N : Nat) (c : (Nat → Nat → Int32)) (p1 : Int32) : Option ((Nat → Nat → Int32) × Int32) := (ky_let (bk_w c 0 0 0) (fun q2 => (if (md_in p1 0 2) = 0 then (ky_let (md_throwsIf_r q2 1 1) (fun x93 => (ky_let (md_throwsIf_c q2 1 1) (fun q92 => (if x93 = 0 then (if p1 = 0 then (ky_let (q92 1 3) (fun x151 => ((md_soonestBy N q92 127).bind (fun zz => (fun q153 x154 => (if p1 = 0 then (ky_let (bk_w q153 1 3 1) (fun q169 => ((md_soonestBy N q169 127).bind (fun zz => (fun q171 x172 => (ky_let (bk_w q171 1 3 x151) (fun q175 => (if (1000000 : Int32) ≤ x154 then (some (q175, (-99))) else (if x172 < (1000000 : Int32) then (some (q175, (x154 - x172))) else (some (q175, (-99)))))))) zz.1 zz.2)))) else (ky_let (mt_min 9 (x151 + 1)) (fun x157 => (ky_let (bk_w q153 1 3 x157) (fun q159 => ((md_soonestBy N q159 127).bind (fun zz => (fun q161 x162 => (ky_let (bk_w q161 1 3 x151) (fun q165 => (if (1000000 : Int32) ≤ x154 then (some (q165, (-99))) else (if x162 < (1000000 : Int32) then (some (q165, (x154 - x162))) else (some (q165, (-99)))))))) zz.1 zz.2)))))))) zz.1 zz.2)))) else (if p1 = (1 : Int32) then (ky_let (q92 1 4) (fun x124 => ((md_soonestBy N q92 127).bind (fun zz => (fun q126 x127 => (if p1 = 0 then (ky_let (bk_w q126 1 4 1) (fun q142 => ((md_soonestBy N q142 127).bind (fun zz => (fun q144 x145 => (ky_let (bk_w q144 1 4 x124) (fun q148 => (if (1000000 : Int32) ≤ x127 then (some (q148, (-99))) else (if x145 < (1000000 : Int32) then (some (q148, (x127 - x145))) else (some (q148, (-99)))))))) zz.1 zz.2)))) else (ky_let (mt_min 9 (x124 + 1)) (fun x130 => (ky_let (bk_w q126 1 4 x130) (fun q132 => ((md_soonestBy N q132 127).bind (fun zz => (fun q134 x135 => (ky_let (bk_w q134 1 4 x124) (fun q138 => (if (1000000 : Int32) ≤ x127 then (some (q138, (-99))) else (if x135 < (1000000 : Int32) then (some (q138, (x127 - x135))) else (some (q138, (-99)))))))) zz.1 zz.2)))))))) zz.1 zz.2)))) else (ky_let (q92 1 5) (fun x97 => ((md_soonestBy N q92 127).bind (fun zz => (fun q99 x100 => (if p1 = 0 then (ky_let (bk_w q99 1 5 1) (fun q115 => ((md_soonestBy N q115 127).bind (fun zz => (fun q117 x118 => (ky_let (bk_w q117 1 5 x97) (fun q121 => (if (1000000 : Int32) ≤ x100 then (some (q121, (-99))) else (if x118 < (1000000 : Int32) then (some (q121, (x100 - x118))) else (some (q121, (-99)))))))) zz.1 zz.2)))) else (ky_let (mt_min 9 (x97 + 1)) (fun x103 => (ky_let (bk_w q99 1 5 x103) (fun q105 => ((md_soonestBy N q105 127).bind (fun zz => (fun q107 x108 => (ky_let (bk_w q107 1 5 x97) (fun q111 => (if (1000000 : Int32) ≤ x100 then (some (q111, (-99))) else (if x108 < (1000000 : Int32) then (some (q111, (x100 - x108))) else (some (q111, (-99)))))))) zz.1 zz.2)))))))) zz.1 zz.2)))))) else (some (q92, 0))))))) else (ky_let (md_throwsIf_r q2 0 1) (fun x6 => (ky_let (md_throwsIf_c q2 0 1) (fun q5 => (if x6 = 0 then (if p1 = 0 then (ky_let (q5 1 3) (fun x64 => ((md_soonestBy N q5 127).bind (fun zz => (fun q66 x67 => (if p1 = 0 then (ky_let (bk_w q66 1 3 1) (fun q82 => ((md_soonestBy N q82 127).bind (fun zz => (fun q84 x85 => (ky_let (bk_w q84 1 3 x64) (fun q88 => (if (1000000 : Int32) ≤ x67 then (some (q88, (-99))) else (if x85 < (1000000 : Int32) then (some (q88, (x67 - x85))) else (some (q88, (-99)))))))) zz.1 zz.2)))) else (ky_let (mt_min 9 (x64 + 1)) (fun x70 => (ky_let (bk_w q66 1 3 x70) (fun q72 => ((md_soonestBy N q72 127).bind (fun zz => (fun q74 x75 => (ky_let (bk_w q74 1 3 x64) (fun q78 => (if (1000000 : Int32) ≤ x67 then (some (q78, (-99))) else (if x75 < (1000000 : Int32) then (some (q78, (x67 - x75))) else (some (q78, (-99)))))))) zz.1 zz.2)))))))) zz.1 zz.2)))) else (if p1 = (1 : Int32) then (ky_let (q5 1 4) (fun x37 => ((md_soonestBy N q5 127).bind (fun zz => (fun q39 x40 => (if p1 = 0 then (ky_let (bk_w q39 1 4 1) (fun q55 => ((md_soonestBy N q55 127).bind (fun zz => (fun q57 x58 => (ky_let (bk_w q57 1 4 x37) (fun q61 => (if (1000000 : Int32) ≤ x40 then (some (q61, (-99))) else (if x58 < (1000000 : Int32) then (some (q61, (x40 - x58))) else (some (q61, (-99)))))))) zz.1 zz.2)))) else (ky_let (mt_min 9 (x37 + 1)) (fun x43 => (ky_let (bk_w q39 1 4 x43) (fun q45 => ((md_soonestBy N q45 127).bind (fun zz => (fun q47 x48 => (ky_let (bk_w q47 1 4 x37) (fun q51 => (if (1000000 : Int32) ≤ x40 then (some (q51, (-99))) else (if x48 < (1000000 : Int32) then (some (q51, (x40 - x48))) else (some (q51, (-99)))))))) zz.1 zz.2)))))))) zz.1 zz.2)))) else (ky_let (q5 1 5) (fun x10 => ((md_soonestBy N q5 127).bind (fun zz => (fun q12 x13 => (if p1 = 0 then (ky_let (bk_w q12 1 5 1) (fun q28 => ((md_soonestBy N q28 127).bind (fun zz => (fun q30 x31 => (ky_let (bk_w q30 1 5 x10) (fun q34 => (if (1000000 : Int32) ≤ x13 then (some (q34, (-99))) else (if x31 < (1000000 : Int32) then (some (q34, (x13 - x31))) else (some (q34, (-99)))))))) zz.1 zz.2)))) else (ky_let (mt_min 9 (x10 + 1)) (fun x16 => (ky_let (bk_w q12 1 5 x16) (fun q18 => ((md_soonestBy N q18 127).bind (fun zz => (fun q20 x21 => (ky_let (bk_w q20 1 5 x10) (fun q24 => (if (1000000 : Int32) ≤ x13 then (some (q24, (-99))) else (if x21 < (1000000 : Int32) then (some (q24, (x13 - x21))) else (some (q24, (-99)))))))) zz.1 zz.2)))))))) zz.1 zz.2)))))) else (some (q5, 0))))))))))
set_option maxRecDepth 20000 in
set_option maxHeartbeats 4000000 in
theorem k_X12_worth {G : ky_GW} {d : Nat} {h : ky_HP} {Q : ky_RS → ky_HP → Prop} {a : Nat} {c c9 : (Nat → Nat → Int32)} {r9 : Int32} {p1 : Int32} (N : Nat) (hm : md_at G h a c) (e : md_worth N c p1 = some (c9, r9)) (hr : ∀ h1, md_at G h1 a c9 → bk_fr a 13 h h1 → Q (.inl (some (.int r9))) h1) : ky_Call G (d + 6) M_X12_worth [.ref a, .int p1] h Q := by
  refine ky_ofV (by decide +kernel) rfl ok_X12_worth (Nat.le_of_ble_eq_true rfl) ?_
  have fr : bk_fr a 13 h h := bk_fr.rf
  unfold md_worth at e
  refine (?_ : ky_V _ _ _ 0 [(0, .ref a), (1, .int p1)] [] _ _)
  refine v_aload_n (i := 0) (j := 0) rfl rfl (?_ : ky_V _ _ _ 1 _ _ _ _)
  refine v_iconst (v := 0) (i := 1) rfl (by decide) (?_ : ky_V _ _ _ 2 _ _ _ _)
  refine pf_X12_3 rfl (i := 2) rfl (md_0 hm) (Nat.le_of_ble_eq_true rfl) rfl rfl ?_
  refine bk_st (B := md_B G a) hm fr 0 0 0 (by decide) (fun h1 hmh1 frh1 => ?_)
  obtain ⟨q2, eq2⟩ : ∃ z, z = (bk_w c 0 0 0) := ⟨_, rfl⟩
  rw [← eq2] at hmh1
  replace e := ky_letE eq2 e
  refine (?_ : ky_V _ _ _ 5 _ _ _ _)
  refine v_aload_n (i := 3) (j := 0) rfl rfl (?_ : ky_V _ _ _ 6 _ _ _ _)
  refine v_iload_n (i := 4) (j := 1) rfl rfl (?_ : ky_V _ _ _ 7 _ _ _ _)
  refine v_iconst (v := 0) (i := 5) rfl (by decide) (?_ : ky_V _ _ _ 8 _ _ _ _)
  refine v_iconst (v := 2) (i := 6) rfl (by decide) (?_ : ky_V _ _ _ 9 _ _ _ _)
  refine cl_X12_65 (As := [.int p1, .int 0, .int 2]) rfl (i := 7) rfl rfl rfl (Nat.le_of_ble_eq_true rfl) (k_X12_in p1 0 2 ⟨_, rfl, (?_ : ky_V _ _ _ 12 _ [.int ((md_in p1 0 2)), .ref a] _ _)⟩)
  refine v_if_ne (tgt := 19) (i := 8) rfl (by decide) (fun c3 => ?_) (fun c3 => ?_)
  · replace e := ky_ifF c3 e
    refine v_iconst (v := 0) (i := 11) rfl (by decide) (?_ : ky_V _ _ _ 20 _ _ _ _)
    refine v_iconst (v := 1) (i := 12) rfl (by decide) (?_ : ky_V _ _ _ 21 _ _ _ _)
    refine cl_X12_241 (As := [.int 0, .int 1]) rfl (i := 13) rfl (md_0 hmh1) rfl rfl (Nat.le_of_ble_eq_true rfl) (k_X12_throwsIf 0 1 hmh1 (by decide) (fun h4 hmh4 frh4 => ⟨_, rfl, (?_ : ky_V _ _ _ 24 _ [.int ((md_throwsIf_r q2 0 1))] _ _)⟩))
    have frh4 := frh1.tr frh4
    refine v_topi (fun x6 ex6 => ?_)
    replace e := ky_letE ex6 e
    obtain ⟨q5, eq5⟩ : ∃ z, z = (md_throwsIf_c q2 0 1) := ⟨_, rfl⟩
    rw [← eq5] at hmh4
    replace e := ky_letE eq5 e
    refine v_if_eq (tgt := 29) (i := 14) rfl (by decide) (fun c7 => ?_) (fun c7 => ?_)
    · replace e := ky_ifT c7 e
      refine v_iload_n (i := 17) (j := 1) rfl rfl (?_ : ky_V _ _ _ 30 _ _ _ _)
      refine v_if_ne (tgt := 37) (i := 18) rfl (by decide) (fun c8 => ?_) (fun c8 => ?_)
      · replace e := ky_ifF c8 e
        refine v_iload_n (i := 21) (j := 1) rfl rfl (?_ : ky_V _ _ _ 38 _ _ _ _)
        refine v_iconst (v := 1) (i := 22) rfl (by decide) (?_ : ky_V _ _ _ 39 _ _ _ _)
        refine v_icmp_ne (tgt := 46) (i := 23) rfl (by decide) (fun c9 => ?_) (fun c9 => ?_)
        · replace e := ky_ifF c9 e
          refine v_iconst (v := 5) (i := 26) rfl (by decide) (?_ : ky_V _ _ _ 47 _ _ _ _)
          refine v_istore_n (L' := [(0, .ref a), (1, .int p1), (2, .int 5)]) [1, 2, 0] (i := 27) rfl (Nat.le_of_ble_eq_true rfl) rfl (?_ : ky_V _ _ _ 48 _ _ _ _)
          refine v_aload_n (i := 28) (j := 0) rfl rfl (?_ : ky_V _ _ _ 49 _ _ _ _)
          refine gf_X12_13 rfl (i := 29) rfl (md_0 hmh4) rfl (?_ : ky_V _ _ _ 52 _ _ _ _)
          refine v_iload_n (i := 30) (j := 2) rfl rfl (?_ : ky_V _ _ _ 53 _ _ _ _)
          refine v_iald (i := 31) rfl (md_1 hmh4) (ky_inl (by decide)) (?_ : ky_V _ _ _ 54 _ (.int (q5 1 5) :: _) _ _)
          refine v_topi (fun x10 ex10 => ?_)
          replace e := ky_letE ex10 e
          refine v_istore_n (L' := [(0, .ref a), (1, .int p1), (2, .int 5), (3, .int x10)]) [1, 2, 3, 0] (i := 32) rfl (Nat.le_of_ble_eq_true rfl) rfl (?_ : ky_V _ _ _ 55 _ _ _ _)
          refine v_aload_n (i := 33) (j := 0) rfl rfl (?_ : ky_V _ _ _ 56 _ _ _ _)
          refine v_bipush (v := 127) (i := 34) rfl (by decide) (?_ : ky_V _ _ _ 58 _ _ _ _)
          obtain ⟨⟨q12, x13⟩, g14, e⟩ := Option.bind_eq_some_iff.mp e
          refine cl_X12_327 (As := [.int 127]) rfl (i := 35) rfl (md_0 hmh4) rfl rfl (Nat.le_of_ble_eq_true rfl) (k_X12_soonestBy N hmh4 g14 (fun h11 hmh11 frh11 => ⟨_, rfl, (?_ : ky_V _ _ _ 61 _ [.int x13] _ _)⟩))
          have frh11 := frh4.tr frh11
          refine v_istore (L' := [(0, .ref a), (1, .int p1), (2, .int 5), (3, .int x10), (4, .int x13)]) [1, 2, 3, 4, 0] (i := 36) rfl (Nat.le_of_ble_eq_true rfl) rfl (?_ : ky_V _ _ _ 63 _ _ _ _)
          refine v_aload_n (i := 37) (j := 0) rfl rfl (?_ : ky_V _ _ _ 64 _ _ _ _)
          refine gf_X12_13 rfl (i := 38) rfl (md_0 hmh11) rfl (?_ : ky_V _ _ _ 67 _ _ _ _)
          refine v_iload_n (i := 39) (j := 2) rfl rfl (?_ : ky_V _ _ _ 68 _ _ _ _)
          refine v_iload_n (i := 40) (j := 1) rfl rfl (?_ : ky_V _ _ _ 69 _ _ _ _)
          refine v_if_ne (tgt := 76) (i := 41) rfl (by decide) (fun c15 => ?_) (fun c15 => ?_)
          · replace e := ky_ifF c15 e
            refine v_bipush (v := 9) (i := 44) rfl (by decide) (?_ : ky_V _ _ _ 78 _ _ _ _)
            refine v_iload_n (i := 45) (j := 3) rfl rfl (?_ : ky_V _ _ _ 79 _ _ _ _)
            refine v_iconst (v := 1) (i := 46) rfl (by decide) (?_ : ky_V _ _ _ 80 _ _ _ _)
            refine v_iadd (i := 47) rfl (?_ : ky_V _ _ _ 81 _ _ _ _)
            refine cl_X12_260 rfl (i := 48) rfl (Nat.le_of_ble_eq_true rfl) (?_ : ky_V _ _ _ 84 _ _ _ _)
            refine v_topi (fun x16 ex16 => ?_)
            replace e := ky_letE ex16 e
            refine v_iast (i := 49) rfl (md_1 hmh11) (ky_inl (by decide)) ?_
            refine bk_st (B := md_B G a) hmh11 frh11 1 5 x16 (by decide) (fun h17 hmh17 frh17 => ?_)
            obtain ⟨q18, eq18⟩ : ∃ z, z = (bk_w q12 1 5 x16) := ⟨_, rfl⟩
            rw [← eq18] at hmh17
            replace e := ky_letE eq18 e
            refine (?_ : ky_V _ _ _ 85 _ _ _ _)
            refine v_aload_n (i := 50) (j := 0) rfl rfl (?_ : ky_V _ _ _ 86 _ _ _ _)
            refine v_bipush (v := 127) (i := 51) rfl (by decide) (?_ : ky_V _ _ _ 88 _ _ _ _)
            obtain ⟨⟨q20, x21⟩, g22, e⟩ := Option.bind_eq_some_iff.mp e
            refine cl_X12_327 (As := [.int 127]) rfl (i := 52) rfl (md_0 hmh17) rfl rfl (Nat.le_of_ble_eq_true rfl) (k_X12_soonestBy N hmh17 g22 (fun h19 hmh19 frh19 => ⟨_, rfl, (?_ : ky_V _ _ _ 91 _ [.int x21] _ _)⟩))
            have frh19 := frh17.tr frh19
            refine v_istore (L' := [(0, .ref a), (1, .int p1), (2, .int 5), (3, .int x10), (4, .int x13), (5, .int x21)]) [1, 2, 3, 4, 5, 0] (i := 53) rfl (Nat.le_of_ble_eq_true rfl) rfl (?_ : ky_V _ _ _ 93 _ _ _ _)
            refine v_aload_n (i := 54) (j := 0) rfl rfl (?_ : ky_V _ _ _ 94 _ _ _ _)
            refine gf_X12_13 rfl (i := 55) rfl (md_0 hmh19) rfl (?_ : ky_V _ _ _ 97 _ _ _ _)
            refine v_iload_n (i := 56) (j := 2) rfl rfl (?_ : ky_V _ _ _ 98 _ _ _ _)
            refine v_iload_n (i := 57) (j := 3) rfl rfl (?_ : ky_V _ _ _ 99 _ _ _ _)
            refine v_iast (i := 58) rfl (md_1 hmh19) (ky_inl (by decide)) ?_
            refine bk_st (B := md_B G a) hmh19 frh19 1 5 x10 (by decide) (fun h23 hmh23 frh23 => ?_)
            obtain ⟨q24, eq24⟩ : ∃ z, z = (bk_w q20 1 5 x10) := ⟨_, rfl⟩
            rw [← eq24] at hmh23
            replace e := ky_letE eq24 e
            refine (?_ : ky_V _ _ _ 100 _ _ _ _)
            refine v_iload (i := 59) (j := 4) rfl rfl (?_ : ky_V _ _ _ 102 _ _ _ _)
            refine v_ldcw (v := 1000000) (i := 60) rfl (ky_t8 (i := 116) rfl rfl) (?_ : ky_V _ _ _ 105 _ _ _ _)
            refine v_icmp_ge (tgt := 116) (i := 61) rfl (by decide) (fun c25 => ?_) (fun c25 => ?_)
            · replace e := ky_ifT c25 e
              refine v_bipush (v := (-99)) (i := 65) rfl (by decide) (?_ : ky_V _ _ _ 118 _ _ _ _)
              refine v_goto (tgt := 126) (i := 66) rfl (by decide) (?_ : ky_V _ _ _ 126 _ _ _ _)
              refine v_iret (v := (-99)) (ty := .int) (i := 70) rfl rfl rfl ?_
              obtain ⟨rfl, rfl⟩ := ky_leaf e
              exact hr _ hmh23 frh23
            · replace e := ky_ifF c25 e
              refine v_iload (i := 62) (j := 5) rfl rfl (?_ : ky_V _ _ _ 110 _ _ _ _)
              refine v_ldcw (v := 1000000) (i := 63) rfl (ky_t8 (i := 116) rfl rfl) (?_ : ky_V _ _ _ 113 _ _ _ _)
              refine v_icmp_lt (tgt := 121) (i := 64) rfl (by decide) (fun c26 => ?_) (fun c26 => ?_)
              · replace e := ky_ifT c26 e
                refine v_iload (i := 67) (j := 4) rfl rfl (?_ : ky_V _ _ _ 123 _ _ _ _)
                refine v_iload (i := 68) (j := 5) rfl rfl (?_ : ky_V _ _ _ 125 _ _ _ _)
                refine v_isub (i := 69) rfl (?_ : ky_V _ _ _ 126 _ _ _ _)
                refine v_iret (v := (x13 - x21)) (ty := .int) (i := 70) rfl rfl rfl ?_
                obtain ⟨rfl, rfl⟩ := ky_leaf e
                exact hr _ hmh23 frh23
              · replace e := ky_ifF c26 e
                refine v_bipush (v := (-99)) (i := 65) rfl (by decide) (?_ : ky_V _ _ _ 118 _ _ _ _)
                refine v_goto (tgt := 126) (i := 66) rfl (by decide) (?_ : ky_V _ _ _ 126 _ _ _ _)
                refine v_iret (v := (-99)) (ty := .int) (i := 70) rfl rfl rfl ?_
                obtain ⟨rfl, rfl⟩ := ky_leaf e
                exact hr _ hmh23 frh23
          · replace e := ky_ifT c15 e
            refine v_iconst (v := 1) (i := 42) rfl (by decide) (?_ : ky_V _ _ _ 73 _ _ _ _)
            refine v_goto (tgt := 84) (i := 43) rfl (by decide) (?_ : ky_V _ _ _ 84 _ _ _ _)
            refine v_iast (i := 49) rfl (md_1 hmh11) (ky_inl (by decide)) ?_
            refine bk_st (B := md_B G a) hmh11 frh11 1 5 1 (by decide) (fun h27 hmh27 frh27 => ?_)
            obtain ⟨q28, eq28⟩ : ∃ z, z = (bk_w q12 1 5 1) := ⟨_, rfl⟩
            rw [← eq28] at hmh27
            replace e := ky_letE eq28 e
            refine (?_ : ky_V _ _ _ 85 _ _ _ _)
            refine v_aload_n (i := 50) (j := 0) rfl rfl (?_ : ky_V _ _ _ 86 _ _ _ _)
            refine v_bipush (v := 127) (i := 51) rfl (by decide) (?_ : ky_V _ _ _ 88 _ _ _ _)
            obtain ⟨⟨q30, x31⟩, g32, e⟩ := Option.bind_eq_some_iff.mp e
            refine cl_X12_327 (As := [.int 127]) rfl (i := 52) rfl (md_0 hmh27) rfl rfl (Nat.le_of_ble_eq_true rfl) (k_X12_soonestBy N hmh27 g32 (fun h29 hmh29 frh29 => ⟨_, rfl, (?_ : ky_V _ _ _ 91 _ [.int x31] _ _)⟩))
            have frh29 := frh27.tr frh29
            refine v_istore (L' := [(0, .ref a), (1, .int p1), (2, .int 5), (3, .int x10), (4, .int x13), (5, .int x31)]) [1, 2, 3, 4, 5, 0] (i := 53) rfl (Nat.le_of_ble_eq_true rfl) rfl (?_ : ky_V _ _ _ 93 _ _ _ _)
            refine v_aload_n (i := 54) (j := 0) rfl rfl (?_ : ky_V _ _ _ 94 _ _ _ _)
            refine gf_X12_13 rfl (i := 55) rfl (md_0 hmh29) rfl (?_ : ky_V _ _ _ 97 _ _ _ _)
            refine v_iload_n (i := 56) (j := 2) rfl rfl (?_ : ky_V _ _ _ 98 _ _ _ _)
            refine v_iload_n (i := 57) (j := 3) rfl rfl (?_ : ky_V _ _ _ 99 _ _ _ _)
            refine v_iast (i := 58) rfl (md_1 hmh29) (ky_inl (by decide)) ?_
            refine bk_st (B := md_B G a) hmh29 frh29 1 5 x10 (by decide) (fun h33 hmh33 frh33 => ?_)
            obtain ⟨q34, eq34⟩ : ∃ z, z = (bk_w q30 1 5 x10) := ⟨_, rfl⟩
            rw [← eq34] at hmh33
            replace e := ky_letE eq34 e
            refine (?_ : ky_V _ _ _ 100 _ _ _ _)
            refine v_iload (i := 59) (j := 4) rfl rfl (?_ : ky_V _ _ _ 102 _ _ _ _)
            refine v_ldcw (v := 1000000) (i := 60) rfl (ky_t8 (i := 116) rfl rfl) (?_ : ky_V _ _ _ 105 _ _ _ _)
            refine v_icmp_ge (tgt := 116) (i := 61) rfl (by decide) (fun c35 => ?_) (fun c35 => ?_)
            · replace e := ky_ifT c35 e
              refine v_bipush (v := (-99)) (i := 65) rfl (by decide) (?_ : ky_V _ _ _ 118 _ _ _ _)
              refine v_goto (tgt := 126) (i := 66) rfl (by decide) (?_ : ky_V _ _ _ 126 _ _ _ _)
              refine v_iret (v := (-99)) (ty := .int) (i := 70) rfl rfl rfl ?_
              obtain ⟨rfl, rfl⟩ := ky_leaf e
              exact hr _ hmh33 frh33
            · replace e := ky_ifF c35 e
              refine v_iload (i := 62) (j := 5) rfl rfl (?_ : ky_V _ _ _ 110 _ _ _ _)
              refine v_ldcw (v := 1000000) (i := 63) rfl (ky_t8 (i := 116) rfl rfl) (?_ : ky_V _ _ _ 113 _ _ _ _)
              refine v_icmp_lt (tgt := 121) (i := 64) rfl (by decide) (fun c36 => ?_) (fun c36 => ?_)
              · replace e := ky_ifT c36 e
                refine v_iload (i := 67) (j := 4) rfl rfl (?_ : ky_V _ _ _ 123 _ _ _ _)
                refine v_iload (i := 68) (j := 5) rfl rfl (?_ : ky_V _ _ _ 125 _ _ _ _)
                refine v_isub (i := 69) rfl (?_ : ky_V _ _ _ 126 _ _ _ _)
                refine v_iret (v := (x13 - x31)) (ty := .int) (i := 70) rfl rfl rfl ?_
                obtain ⟨rfl, rfl⟩ := ky_leaf e
                exact hr _ hmh33 frh33
              · replace e := ky_ifF c36 e
                refine v_bipush (v := (-99)) (i := 65) rfl (by decide) (?_ : ky_V _ _ _ 118 _ _ _ _)
                refine v_goto (tgt := 126) (i := 66) rfl (by decide) (?_ : ky_V _ _ _ 126 _ _ _ _)
                refine v_iret (v := (-99)) (ty := .int) (i := 70) rfl rfl rfl ?_
                obtain ⟨rfl, rfl⟩ := ky_leaf e
                exact hr _ hmh33 frh33
        · replace e := ky_ifT c9 e
          refine v_iconst (v := 4) (i := 24) rfl (by decide) (?_ : ky_V _ _ _ 43 _ _ _ _)
          refine v_goto (tgt := 47) (i := 25) rfl (by decide) (?_ : ky_V _ _ _ 47 _ _ _ _)
          refine v_istore_n (L' := [(0, .ref a), (1, .int p1), (2, .int 4)]) [1, 2, 0] (i := 27) rfl (Nat.le_of_ble_eq_true rfl) rfl (?_ : ky_V _ _ _ 48 _ _ _ _)
          refine v_aload_n (i := 28) (j := 0) rfl rfl (?_ : ky_V _ _ _ 49 _ _ _ _)
          refine gf_X12_13 rfl (i := 29) rfl (md_0 hmh4) rfl (?_ : ky_V _ _ _ 52 _ _ _ _)
          refine v_iload_n (i := 30) (j := 2) rfl rfl (?_ : ky_V _ _ _ 53 _ _ _ _)
          refine v_iald (i := 31) rfl (md_1 hmh4) (ky_inl (by decide)) (?_ : ky_V _ _ _ 54 _ (.int (q5 1 4) :: _) _ _)
          refine v_topi (fun x37 ex37 => ?_)
          replace e := ky_letE ex37 e
          refine v_istore_n (L' := [(0, .ref a), (1, .int p1), (2, .int 4), (3, .int x37)]) [1, 2, 3, 0] (i := 32) rfl (Nat.le_of_ble_eq_true rfl) rfl (?_ : ky_V _ _ _ 55 _ _ _ _)
          refine v_aload_n (i := 33) (j := 0) rfl rfl (?_ : ky_V _ _ _ 56 _ _ _ _)
          refine v_bipush (v := 127) (i := 34) rfl (by decide) (?_ : ky_V _ _ _ 58 _ _ _ _)
          obtain ⟨⟨q39, x40⟩, g41, e⟩ := Option.bind_eq_some_iff.mp e
          refine cl_X12_327 (As := [.int 127]) rfl (i := 35) rfl (md_0 hmh4) rfl rfl (Nat.le_of_ble_eq_true rfl) (k_X12_soonestBy N hmh4 g41 (fun h38 hmh38 frh38 => ⟨_, rfl, (?_ : ky_V _ _ _ 61 _ [.int x40] _ _)⟩))
          have frh38 := frh4.tr frh38
          refine v_istore (L' := [(0, .ref a), (1, .int p1), (2, .int 4), (3, .int x37), (4, .int x40)]) [1, 2, 3, 4, 0] (i := 36) rfl (Nat.le_of_ble_eq_true rfl) rfl (?_ : ky_V _ _ _ 63 _ _ _ _)
          refine v_aload_n (i := 37) (j := 0) rfl rfl (?_ : ky_V _ _ _ 64 _ _ _ _)
          refine gf_X12_13 rfl (i := 38) rfl (md_0 hmh38) rfl (?_ : ky_V _ _ _ 67 _ _ _ _)
          refine v_iload_n (i := 39) (j := 2) rfl rfl (?_ : ky_V _ _ _ 68 _ _ _ _)
          refine v_iload_n (i := 40) (j := 1) rfl rfl (?_ : ky_V _ _ _ 69 _ _ _ _)
          refine v_if_ne (tgt := 76) (i := 41) rfl (by decide) (fun c42 => ?_) (fun c42 => ?_)
          · replace e := ky_ifF c42 e
            refine v_bipush (v := 9) (i := 44) rfl (by decide) (?_ : ky_V _ _ _ 78 _ _ _ _)
            refine v_iload_n (i := 45) (j := 3) rfl rfl (?_ : ky_V _ _ _ 79 _ _ _ _)
            refine v_iconst (v := 1) (i := 46) rfl (by decide) (?_ : ky_V _ _ _ 80 _ _ _ _)
            refine v_iadd (i := 47) rfl (?_ : ky_V _ _ _ 81 _ _ _ _)
            refine cl_X12_260 rfl (i := 48) rfl (Nat.le_of_ble_eq_true rfl) (?_ : ky_V _ _ _ 84 _ _ _ _)
            refine v_topi (fun x43 ex43 => ?_)
            replace e := ky_letE ex43 e
            refine v_iast (i := 49) rfl (md_1 hmh38) (ky_inl (by decide)) ?_
            refine bk_st (B := md_B G a) hmh38 frh38 1 4 x43 (by decide) (fun h44 hmh44 frh44 => ?_)
            obtain ⟨q45, eq45⟩ : ∃ z, z = (bk_w q39 1 4 x43) := ⟨_, rfl⟩
            rw [← eq45] at hmh44
            replace e := ky_letE eq45 e
            refine (?_ : ky_V _ _ _ 85 _ _ _ _)
            refine v_aload_n (i := 50) (j := 0) rfl rfl (?_ : ky_V _ _ _ 86 _ _ _ _)
            refine v_bipush (v := 127) (i := 51) rfl (by decide) (?_ : ky_V _ _ _ 88 _ _ _ _)
            obtain ⟨⟨q47, x48⟩, g49, e⟩ := Option.bind_eq_some_iff.mp e
            refine cl_X12_327 (As := [.int 127]) rfl (i := 52) rfl (md_0 hmh44) rfl rfl (Nat.le_of_ble_eq_true rfl) (k_X12_soonestBy N hmh44 g49 (fun h46 hmh46 frh46 => ⟨_, rfl, (?_ : ky_V _ _ _ 91 _ [.int x48] _ _)⟩))
            have frh46 := frh44.tr frh46
            refine v_istore (L' := [(0, .ref a), (1, .int p1), (2, .int 4), (3, .int x37), (4, .int x40), (5, .int x48)]) [1, 2, 3, 4, 5, 0] (i := 53) rfl (Nat.le_of_ble_eq_true rfl) rfl (?_ : ky_V _ _ _ 93 _ _ _ _)
            refine v_aload_n (i := 54) (j := 0) rfl rfl (?_ : ky_V _ _ _ 94 _ _ _ _)
            refine gf_X12_13 rfl (i := 55) rfl (md_0 hmh46) rfl (?_ : ky_V _ _ _ 97 _ _ _ _)
            refine v_iload_n (i := 56) (j := 2) rfl rfl (?_ : ky_V _ _ _ 98 _ _ _ _)
            refine v_iload_n (i := 57) (j := 3) rfl rfl (?_ : ky_V _ _ _ 99 _ _ _ _)
            refine v_iast (i := 58) rfl (md_1 hmh46) (ky_inl (by decide)) ?_
            refine bk_st (B := md_B G a) hmh46 frh46 1 4 x37 (by decide) (fun h50 hmh50 frh50 => ?_)
            obtain ⟨q51, eq51⟩ : ∃ z, z = (bk_w q47 1 4 x37) := ⟨_, rfl⟩
            rw [← eq51] at hmh50
            replace e := ky_letE eq51 e
            refine (?_ : ky_V _ _ _ 100 _ _ _ _)
            refine v_iload (i := 59) (j := 4) rfl rfl (?_ : ky_V _ _ _ 102 _ _ _ _)
            refine v_ldcw (v := 1000000) (i := 60) rfl (ky_t8 (i := 116) rfl rfl) (?_ : ky_V _ _ _ 105 _ _ _ _)
            refine v_icmp_ge (tgt := 116) (i := 61) rfl (by decide) (fun c52 => ?_) (fun c52 => ?_)
            · replace e := ky_ifT c52 e
              refine v_bipush (v := (-99)) (i := 65) rfl (by decide) (?_ : ky_V _ _ _ 118 _ _ _ _)
              refine v_goto (tgt := 126) (i := 66) rfl (by decide) (?_ : ky_V _ _ _ 126 _ _ _ _)
              refine v_iret (v := (-99)) (ty := .int) (i := 70) rfl rfl rfl ?_
              obtain ⟨rfl, rfl⟩ := ky_leaf e
              exact hr _ hmh50 frh50
            · replace e := ky_ifF c52 e
              refine v_iload (i := 62) (j := 5) rfl rfl (?_ : ky_V _ _ _ 110 _ _ _ _)
              refine v_ldcw (v := 1000000) (i := 63) rfl (ky_t8 (i := 116) rfl rfl) (?_ : ky_V _ _ _ 113 _ _ _ _)
              refine v_icmp_lt (tgt := 121) (i := 64) rfl (by decide) (fun c53 => ?_) (fun c53 => ?_)
              · replace e := ky_ifT c53 e
                refine v_iload (i := 67) (j := 4) rfl rfl (?_ : ky_V _ _ _ 123 _ _ _ _)
                refine v_iload (i := 68) (j := 5) rfl rfl (?_ : ky_V _ _ _ 125 _ _ _ _)
                refine v_isub (i := 69) rfl (?_ : ky_V _ _ _ 126 _ _ _ _)
                refine v_iret (v := (x40 - x48)) (ty := .int) (i := 70) rfl rfl rfl ?_
                obtain ⟨rfl, rfl⟩ := ky_leaf e
                exact hr _ hmh50 frh50
              · replace e := ky_ifF c53 e
                refine v_bipush (v := (-99)) (i := 65) rfl (by decide) (?_ : ky_V _ _ _ 118 _ _ _ _)
                refine v_goto (tgt := 126) (i := 66) rfl (by decide) (?_ : ky_V _ _ _ 126 _ _ _ _)
                refine v_iret (v := (-99)) (ty := .int) (i := 70) rfl rfl rfl ?_
                obtain ⟨rfl, rfl⟩ := ky_leaf e
                exact hr _ hmh50 frh50
          · replace e := ky_ifT c42 e
            refine v_iconst (v := 1) (i := 42) rfl (by decide) (?_ : ky_V _ _ _ 73 _ _ _ _)
            refine v_goto (tgt := 84) (i := 43) rfl (by decide) (?_ : ky_V _ _ _ 84 _ _ _ _)
            refine v_iast (i := 49) rfl (md_1 hmh38) (ky_inl (by decide)) ?_
            refine bk_st (B := md_B G a) hmh38 frh38 1 4 1 (by decide) (fun h54 hmh54 frh54 => ?_)
            obtain ⟨q55, eq55⟩ : ∃ z, z = (bk_w q39 1 4 1) := ⟨_, rfl⟩
            rw [← eq55] at hmh54
            replace e := ky_letE eq55 e
            refine (?_ : ky_V _ _ _ 85 _ _ _ _)
            refine v_aload_n (i := 50) (j := 0) rfl rfl (?_ : ky_V _ _ _ 86 _ _ _ _)
            refine v_bipush (v := 127) (i := 51) rfl (by decide) (?_ : ky_V _ _ _ 88 _ _ _ _)
            obtain ⟨⟨q57, x58⟩, g59, e⟩ := Option.bind_eq_some_iff.mp e
            refine cl_X12_327 (As := [.int 127]) rfl (i := 52) rfl (md_0 hmh54) rfl rfl (Nat.le_of_ble_eq_true rfl) (k_X12_soonestBy N hmh54 g59 (fun h56 hmh56 frh56 => ⟨_, rfl, (?_ : ky_V _ _ _ 91 _ [.int x58] _ _)⟩))
            have frh56 := frh54.tr frh56
            refine v_istore (L' := [(0, .ref a), (1, .int p1), (2, .int 4), (3, .int x37), (4, .int x40), (5, .int x58)]) [1, 2, 3, 4, 5, 0] (i := 53) rfl (Nat.le_of_ble_eq_true rfl) rfl (?_ : ky_V _ _ _ 93 _ _ _ _)
            refine v_aload_n (i := 54) (j := 0) rfl rfl (?_ : ky_V _ _ _ 94 _ _ _ _)
            refine gf_X12_13 rfl (i := 55) rfl (md_0 hmh56) rfl (?_ : ky_V _ _ _ 97 _ _ _ _)
            refine v_iload_n (i := 56) (j := 2) rfl rfl (?_ : ky_V _ _ _ 98 _ _ _ _)
            refine v_iload_n (i := 57) (j := 3) rfl rfl (?_ : ky_V _ _ _ 99 _ _ _ _)
            refine v_iast (i := 58) rfl (md_1 hmh56) (ky_inl (by decide)) ?_
            refine bk_st (B := md_B G a) hmh56 frh56 1 4 x37 (by decide) (fun h60 hmh60 frh60 => ?_)
            obtain ⟨q61, eq61⟩ : ∃ z, z = (bk_w q57 1 4 x37) := ⟨_, rfl⟩
            rw [← eq61] at hmh60
            replace e := ky_letE eq61 e
            refine (?_ : ky_V _ _ _ 100 _ _ _ _)
            refine v_iload (i := 59) (j := 4) rfl rfl (?_ : ky_V _ _ _ 102 _ _ _ _)
            refine v_ldcw (v := 1000000) (i := 60) rfl (ky_t8 (i := 116) rfl rfl) (?_ : ky_V _ _ _ 105 _ _ _ _)
            refine v_icmp_ge (tgt := 116) (i := 61) rfl (by decide) (fun c62 => ?_) (fun c62 => ?_)
            · replace e := ky_ifT c62 e
              refine v_bipush (v := (-99)) (i := 65) rfl (by decide) (?_ : ky_V _ _ _ 118 _ _ _ _)
              refine v_goto (tgt := 126) (i := 66) rfl (by decide) (?_ : ky_V _ _ _ 126 _ _ _ _)
              refine v_iret (v := (-99)) (ty := .int) (i := 70) rfl rfl rfl ?_
              obtain ⟨rfl, rfl⟩ := ky_leaf e
              exact hr _ hmh60 frh60
            · replace e := ky_ifF c62 e
              refine v_iload (i := 62) (j := 5) rfl rfl (?_ : ky_V _ _ _ 110 _ _ _ _)
              refine v_ldcw (v := 1000000) (i := 63) rfl (ky_t8 (i := 116) rfl rfl) (?_ : ky_V _ _ _ 113 _ _ _ _)
              refine v_icmp_lt (tgt := 121) (i := 64) rfl (by decide) (fun c63 => ?_) (fun c63 => ?_)
              · replace e := ky_ifT c63 e
                refine v_iload (i := 67) (j := 4) rfl rfl (?_ : ky_V _ _ _ 123 _ _ _ _)
                refine v_iload (i := 68) (j := 5) rfl rfl (?_ : ky_V _ _ _ 125 _ _ _ _)
                refine v_isub (i := 69) rfl (?_ : ky_V _ _ _ 126 _ _ _ _)
                refine v_iret (v := (x40 - x58)) (ty := .int) (i := 70) rfl rfl rfl ?_
                obtain ⟨rfl, rfl⟩ := ky_leaf e
                exact hr _ hmh60 frh60
              · replace e := ky_ifF c63 e
                refine v_bipush (v := (-99)) (i := 65) rfl (by decide) (?_ : ky_V _ _ _ 118 _ _ _ _)
                refine v_goto (tgt := 126) (i := 66) rfl (by decide) (?_ : ky_V _ _ _ 126 _ _ _ _)
                refine v_iret (v := (-99)) (ty := .int) (i := 70) rfl rfl rfl ?_
                obtain ⟨rfl, rfl⟩ := ky_leaf e
                exact hr _ hmh60 frh60
      · replace e := ky_ifT c8 e
        refine v_iconst (v := 3) (i := 19) rfl (by decide) (?_ : ky_V _ _ _ 34 _ _ _ _)
        refine v_goto (tgt := 47) (i := 20) rfl (by decide) (?_ : ky_V _ _ _ 47 _ _ _ _)
        refine v_istore_n (L' := [(0, .ref a), (1, .int p1), (2, .int 3)]) [1, 2, 0] (i := 27) rfl (Nat.le_of_ble_eq_true rfl) rfl (?_ : ky_V _ _ _ 48 _ _ _ _)
        refine v_aload_n (i := 28) (j := 0) rfl rfl (?_ : ky_V _ _ _ 49 _ _ _ _)
        refine gf_X12_13 rfl (i := 29) rfl (md_0 hmh4) rfl (?_ : ky_V _ _ _ 52 _ _ _ _)
        refine v_iload_n (i := 30) (j := 2) rfl rfl (?_ : ky_V _ _ _ 53 _ _ _ _)
        refine v_iald (i := 31) rfl (md_1 hmh4) (ky_inl (by decide)) (?_ : ky_V _ _ _ 54 _ (.int (q5 1 3) :: _) _ _)
        refine v_topi (fun x64 ex64 => ?_)
        replace e := ky_letE ex64 e
        refine v_istore_n (L' := [(0, .ref a), (1, .int p1), (2, .int 3), (3, .int x64)]) [1, 2, 3, 0] (i := 32) rfl (Nat.le_of_ble_eq_true rfl) rfl (?_ : ky_V _ _ _ 55 _ _ _ _)
        refine v_aload_n (i := 33) (j := 0) rfl rfl (?_ : ky_V _ _ _ 56 _ _ _ _)
        refine v_bipush (v := 127) (i := 34) rfl (by decide) (?_ : ky_V _ _ _ 58 _ _ _ _)
        obtain ⟨⟨q66, x67⟩, g68, e⟩ := Option.bind_eq_some_iff.mp e
        refine cl_X12_327 (As := [.int 127]) rfl (i := 35) rfl (md_0 hmh4) rfl rfl (Nat.le_of_ble_eq_true rfl) (k_X12_soonestBy N hmh4 g68 (fun h65 hmh65 frh65 => ⟨_, rfl, (?_ : ky_V _ _ _ 61 _ [.int x67] _ _)⟩))
        have frh65 := frh4.tr frh65
        refine v_istore (L' := [(0, .ref a), (1, .int p1), (2, .int 3), (3, .int x64), (4, .int x67)]) [1, 2, 3, 4, 0] (i := 36) rfl (Nat.le_of_ble_eq_true rfl) rfl (?_ : ky_V _ _ _ 63 _ _ _ _)
        refine v_aload_n (i := 37) (j := 0) rfl rfl (?_ : ky_V _ _ _ 64 _ _ _ _)
        refine gf_X12_13 rfl (i := 38) rfl (md_0 hmh65) rfl (?_ : ky_V _ _ _ 67 _ _ _ _)
        refine v_iload_n (i := 39) (j := 2) rfl rfl (?_ : ky_V _ _ _ 68 _ _ _ _)
        refine v_iload_n (i := 40) (j := 1) rfl rfl (?_ : ky_V _ _ _ 69 _ _ _ _)
        refine v_if_ne (tgt := 76) (i := 41) rfl (by decide) (fun c69 => ?_) (fun c69 => ?_)
        · replace e := ky_ifF c69 e
          refine v_bipush (v := 9) (i := 44) rfl (by decide) (?_ : ky_V _ _ _ 78 _ _ _ _)
          refine v_iload_n (i := 45) (j := 3) rfl rfl (?_ : ky_V _ _ _ 79 _ _ _ _)
          refine v_iconst (v := 1) (i := 46) rfl (by decide) (?_ : ky_V _ _ _ 80 _ _ _ _)
          refine v_iadd (i := 47) rfl (?_ : ky_V _ _ _ 81 _ _ _ _)
          refine cl_X12_260 rfl (i := 48) rfl (Nat.le_of_ble_eq_true rfl) (?_ : ky_V _ _ _ 84 _ _ _ _)
          refine v_topi (fun x70 ex70 => ?_)
          replace e := ky_letE ex70 e
          refine v_iast (i := 49) rfl (md_1 hmh65) (ky_inl (by decide)) ?_
          refine bk_st (B := md_B G a) hmh65 frh65 1 3 x70 (by decide) (fun h71 hmh71 frh71 => ?_)
          obtain ⟨q72, eq72⟩ : ∃ z, z = (bk_w q66 1 3 x70) := ⟨_, rfl⟩
          rw [← eq72] at hmh71
          replace e := ky_letE eq72 e
          refine (?_ : ky_V _ _ _ 85 _ _ _ _)
          refine v_aload_n (i := 50) (j := 0) rfl rfl (?_ : ky_V _ _ _ 86 _ _ _ _)
          refine v_bipush (v := 127) (i := 51) rfl (by decide) (?_ : ky_V _ _ _ 88 _ _ _ _)
          obtain ⟨⟨q74, x75⟩, g76, e⟩ := Option.bind_eq_some_iff.mp e
          refine cl_X12_327 (As := [.int 127]) rfl (i := 52) rfl (md_0 hmh71) rfl rfl (Nat.le_of_ble_eq_true rfl) (k_X12_soonestBy N hmh71 g76 (fun h73 hmh73 frh73 => ⟨_, rfl, (?_ : ky_V _ _ _ 91 _ [.int x75] _ _)⟩))
          have frh73 := frh71.tr frh73
          refine v_istore (L' := [(0, .ref a), (1, .int p1), (2, .int 3), (3, .int x64), (4, .int x67), (5, .int x75)]) [1, 2, 3, 4, 5, 0] (i := 53) rfl (Nat.le_of_ble_eq_true rfl) rfl (?_ : ky_V _ _ _ 93 _ _ _ _)
          refine v_aload_n (i := 54) (j := 0) rfl rfl (?_ : ky_V _ _ _ 94 _ _ _ _)
          refine gf_X12_13 rfl (i := 55) rfl (md_0 hmh73) rfl (?_ : ky_V _ _ _ 97 _ _ _ _)
          refine v_iload_n (i := 56) (j := 2) rfl rfl (?_ : ky_V _ _ _ 98 _ _ _ _)
          refine v_iload_n (i := 57) (j := 3) rfl rfl (?_ : ky_V _ _ _ 99 _ _ _ _)
          refine v_iast (i := 58) rfl (md_1 hmh73) (ky_inl (by decide)) ?_
          refine bk_st (B := md_B G a) hmh73 frh73 1 3 x64 (by decide) (fun h77 hmh77 frh77 => ?_)
          obtain ⟨q78, eq78⟩ : ∃ z, z = (bk_w q74 1 3 x64) := ⟨_, rfl⟩
          rw [← eq78] at hmh77
          replace e := ky_letE eq78 e
          refine (?_ : ky_V _ _ _ 100 _ _ _ _)
          refine v_iload (i := 59) (j := 4) rfl rfl (?_ : ky_V _ _ _ 102 _ _ _ _)
          refine v_ldcw (v := 1000000) (i := 60) rfl (ky_t8 (i := 116) rfl rfl) (?_ : ky_V _ _ _ 105 _ _ _ _)
          refine v_icmp_ge (tgt := 116) (i := 61) rfl (by decide) (fun c79 => ?_) (fun c79 => ?_)
          · replace e := ky_ifT c79 e
            refine v_bipush (v := (-99)) (i := 65) rfl (by decide) (?_ : ky_V _ _ _ 118 _ _ _ _)
            refine v_goto (tgt := 126) (i := 66) rfl (by decide) (?_ : ky_V _ _ _ 126 _ _ _ _)
            refine v_iret (v := (-99)) (ty := .int) (i := 70) rfl rfl rfl ?_
            obtain ⟨rfl, rfl⟩ := ky_leaf e
            exact hr _ hmh77 frh77
          · replace e := ky_ifF c79 e
            refine v_iload (i := 62) (j := 5) rfl rfl (?_ : ky_V _ _ _ 110 _ _ _ _)
            refine v_ldcw (v := 1000000) (i := 63) rfl (ky_t8 (i := 116) rfl rfl) (?_ : ky_V _ _ _ 113 _ _ _ _)
            refine v_icmp_lt (tgt := 121) (i := 64) rfl (by decide) (fun c80 => ?_) (fun c80 => ?_)
            · replace e := ky_ifT c80 e
              refine v_iload (i := 67) (j := 4) rfl rfl (?_ : ky_V _ _ _ 123 _ _ _ _)
              refine v_iload (i := 68) (j := 5) rfl rfl (?_ : ky_V _ _ _ 125 _ _ _ _)
              refine v_isub (i := 69) rfl (?_ : ky_V _ _ _ 126 _ _ _ _)
              refine v_iret (v := (x67 - x75)) (ty := .int) (i := 70) rfl rfl rfl ?_
              obtain ⟨rfl, rfl⟩ := ky_leaf e
              exact hr _ hmh77 frh77
            · replace e := ky_ifF c80 e
              refine v_bipush (v := (-99)) (i := 65) rfl (by decide) (?_ : ky_V _ _ _ 118 _ _ _ _)
              refine v_goto (tgt := 126) (i := 66) rfl (by decide) (?_ : ky_V _ _ _ 126 _ _ _ _)
              refine v_iret (v := (-99)) (ty := .int) (i := 70) rfl rfl rfl ?_
              obtain ⟨rfl, rfl⟩ := ky_leaf e
              exact hr _ hmh77 frh77
        · replace e := ky_ifT c69 e
          refine v_iconst (v := 1) (i := 42) rfl (by decide) (?_ : ky_V _ _ _ 73 _ _ _ _)
          refine v_goto (tgt := 84) (i := 43) rfl (by decide) (?_ : ky_V _ _ _ 84 _ _ _ _)
          refine v_iast (i := 49) rfl (md_1 hmh65) (ky_inl (by decide)) ?_
          refine bk_st (B := md_B G a) hmh65 frh65 1 3 1 (by decide) (fun h81 hmh81 frh81 => ?_)
          obtain ⟨q82, eq82⟩ : ∃ z, z = (bk_w q66 1 3 1) := ⟨_, rfl⟩
          rw [← eq82] at hmh81
          replace e := ky_letE eq82 e
          refine (?_ : ky_V _ _ _ 85 _ _ _ _)
          refine v_aload_n (i := 50) (j := 0) rfl rfl (?_ : ky_V _ _ _ 86 _ _ _ _)
          refine v_bipush (v := 127) (i := 51) rfl (by decide) (?_ : ky_V _ _ _ 88 _ _ _ _)
          obtain ⟨⟨q84, x85⟩, g86, e⟩ := Option.bind_eq_some_iff.mp e
          refine cl_X12_327 (As := [.int 127]) rfl (i := 52) rfl (md_0 hmh81) rfl rfl (Nat.le_of_ble_eq_true rfl) (k_X12_soonestBy N hmh81 g86 (fun h83 hmh83 frh83 => ⟨_, rfl, (?_ : ky_V _ _ _ 91 _ [.int x85] _ _)⟩))
          have frh83 := frh81.tr frh83
          refine v_istore (L' := [(0, .ref a), (1, .int p1), (2, .int 3), (3, .int x64), (4, .int x67), (5, .int x85)]) [1, 2, 3, 4, 5, 0] (i := 53) rfl (Nat.le_of_ble_eq_true rfl) rfl (?_ : ky_V _ _ _ 93 _ _ _ _)
          refine v_aload_n (i := 54) (j := 0) rfl rfl (?_ : ky_V _ _ _ 94 _ _ _ _)
          refine gf_X12_13 rfl (i := 55) rfl (md_0 hmh83) rfl (?_ : ky_V _ _ _ 97 _ _ _ _)
          refine v_iload_n (i := 56) (j := 2) rfl rfl (?_ : ky_V _ _ _ 98 _ _ _ _)
          refine v_iload_n (i := 57) (j := 3) rfl rfl (?_ : ky_V _ _ _ 99 _ _ _ _)
          refine v_iast (i := 58) rfl (md_1 hmh83) (ky_inl (by decide)) ?_
          refine bk_st (B := md_B G a) hmh83 frh83 1 3 x64 (by decide) (fun h87 hmh87 frh87 => ?_)
          obtain ⟨q88, eq88⟩ : ∃ z, z = (bk_w q84 1 3 x64) := ⟨_, rfl⟩
          rw [← eq88] at hmh87
          replace e := ky_letE eq88 e
          refine (?_ : ky_V _ _ _ 100 _ _ _ _)
          refine v_iload (i := 59) (j := 4) rfl rfl (?_ : ky_V _ _ _ 102 _ _ _ _)
          refine v_ldcw (v := 1000000) (i := 60) rfl (ky_t8 (i := 116) rfl rfl) (?_ : ky_V _ _ _ 105 _ _ _ _)
          refine v_icmp_ge (tgt := 116) (i := 61) rfl (by decide) (fun c89 => ?_) (fun c89 => ?_)
          · replace e := ky_ifT c89 e
            refine v_bipush (v := (-99)) (i := 65) rfl (by decide) (?_ : ky_V _ _ _ 118 _ _ _ _)
            refine v_goto (tgt := 126) (i := 66) rfl (by decide) (?_ : ky_V _ _ _ 126 _ _ _ _)
            refine v_iret (v := (-99)) (ty := .int) (i := 70) rfl rfl rfl ?_
            obtain ⟨rfl, rfl⟩ := ky_leaf e
            exact hr _ hmh87 frh87
          · replace e := ky_ifF c89 e
            refine v_iload (i := 62) (j := 5) rfl rfl (?_ : ky_V _ _ _ 110 _ _ _ _)
            refine v_ldcw (v := 1000000) (i := 63) rfl (ky_t8 (i := 116) rfl rfl) (?_ : ky_V _ _ _ 113 _ _ _ _)
            refine v_icmp_lt (tgt := 121) (i := 64) rfl (by decide) (fun c90 => ?_) (fun c90 => ?_)
            · replace e := ky_ifT c90 e
              refine v_iload (i := 67) (j := 4) rfl rfl (?_ : ky_V _ _ _ 123 _ _ _ _)
              refine v_iload (i := 68) (j := 5) rfl rfl (?_ : ky_V _ _ _ 125 _ _ _ _)
              refine v_isub (i := 69) rfl (?_ : ky_V _ _ _ 126 _ _ _ _)
              refine v_iret (v := (x67 - x85)) (ty := .int) (i := 70) rfl rfl rfl ?_
              obtain ⟨rfl, rfl⟩ := ky_leaf e
              exact hr _ hmh87 frh87
            · replace e := ky_ifF c90 e
              refine v_bipush (v := (-99)) (i := 65) rfl (by decide) (?_ : ky_V _ _ _ 118 _ _ _ _)
              refine v_goto (tgt := 126) (i := 66) rfl (by decide) (?_ : ky_V _ _ _ 126 _ _ _ _)
              refine v_iret (v := (-99)) (ty := .int) (i := 70) rfl rfl rfl ?_
              obtain ⟨rfl, rfl⟩ := ky_leaf e
              exact hr _ hmh87 frh87
    · replace e := ky_ifF c7 e
      refine v_iconst (v := 0) (i := 15) rfl (by decide) (?_ : ky_V _ _ _ 28 _ _ _ _)
      refine v_iret (v := 0) (ty := .int) (i := 16) rfl rfl rfl ?_
      obtain ⟨rfl, rfl⟩ := ky_leaf e
      exact hr _ hmh4 frh4
  · replace e := ky_ifT c3 e
    refine v_iconst (v := 1) (i := 9) rfl (by decide) (?_ : ky_V _ _ _ 16 _ _ _ _)
    refine v_goto (tgt := 20) (i := 10) rfl (by decide) (?_ : ky_V _ _ _ 20 _ _ _ _)
    refine v_iconst (v := 1) (i := 12) rfl (by decide) (?_ : ky_V _ _ _ 21 _ _ _ _)
    refine cl_X12_241 (As := [.int 1, .int 1]) rfl (i := 13) rfl (md_0 hmh1) rfl rfl (Nat.le_of_ble_eq_true rfl) (k_X12_throwsIf 1 1 hmh1 (by decide) (fun h91 hmh91 frh91 => ⟨_, rfl, (?_ : ky_V _ _ _ 24 _ [.int ((md_throwsIf_r q2 1 1))] _ _)⟩))
    have frh91 := frh1.tr frh91
    refine v_topi (fun x93 ex93 => ?_)
    replace e := ky_letE ex93 e
    obtain ⟨q92, eq92⟩ : ∃ z, z = (md_throwsIf_c q2 1 1) := ⟨_, rfl⟩
    rw [← eq92] at hmh91
    replace e := ky_letE eq92 e
    refine v_if_eq (tgt := 29) (i := 14) rfl (by decide) (fun c94 => ?_) (fun c94 => ?_)
    · replace e := ky_ifT c94 e
      refine v_iload_n (i := 17) (j := 1) rfl rfl (?_ : ky_V _ _ _ 30 _ _ _ _)
      refine v_if_ne (tgt := 37) (i := 18) rfl (by decide) (fun c95 => ?_) (fun c95 => ?_)
      · replace e := ky_ifF c95 e
        refine v_iload_n (i := 21) (j := 1) rfl rfl (?_ : ky_V _ _ _ 38 _ _ _ _)
        refine v_iconst (v := 1) (i := 22) rfl (by decide) (?_ : ky_V _ _ _ 39 _ _ _ _)
        refine v_icmp_ne (tgt := 46) (i := 23) rfl (by decide) (fun c96 => ?_) (fun c96 => ?_)
        · replace e := ky_ifF c96 e
          refine v_iconst (v := 5) (i := 26) rfl (by decide) (?_ : ky_V _ _ _ 47 _ _ _ _)
          refine v_istore_n (L' := [(0, .ref a), (1, .int p1), (2, .int 5)]) [1, 2, 0] (i := 27) rfl (Nat.le_of_ble_eq_true rfl) rfl (?_ : ky_V _ _ _ 48 _ _ _ _)
          refine v_aload_n (i := 28) (j := 0) rfl rfl (?_ : ky_V _ _ _ 49 _ _ _ _)
          refine gf_X12_13 rfl (i := 29) rfl (md_0 hmh91) rfl (?_ : ky_V _ _ _ 52 _ _ _ _)
          refine v_iload_n (i := 30) (j := 2) rfl rfl (?_ : ky_V _ _ _ 53 _ _ _ _)
          refine v_iald (i := 31) rfl (md_1 hmh91) (ky_inl (by decide)) (?_ : ky_V _ _ _ 54 _ (.int (q92 1 5) :: _) _ _)
          refine v_topi (fun x97 ex97 => ?_)
          replace e := ky_letE ex97 e
          refine v_istore_n (L' := [(0, .ref a), (1, .int p1), (2, .int 5), (3, .int x97)]) [1, 2, 3, 0] (i := 32) rfl (Nat.le_of_ble_eq_true rfl) rfl (?_ : ky_V _ _ _ 55 _ _ _ _)
          refine v_aload_n (i := 33) (j := 0) rfl rfl (?_ : ky_V _ _ _ 56 _ _ _ _)
          refine v_bipush (v := 127) (i := 34) rfl (by decide) (?_ : ky_V _ _ _ 58 _ _ _ _)
          obtain ⟨⟨q99, x100⟩, g101, e⟩ := Option.bind_eq_some_iff.mp e
          refine cl_X12_327 (As := [.int 127]) rfl (i := 35) rfl (md_0 hmh91) rfl rfl (Nat.le_of_ble_eq_true rfl) (k_X12_soonestBy N hmh91 g101 (fun h98 hmh98 frh98 => ⟨_, rfl, (?_ : ky_V _ _ _ 61 _ [.int x100] _ _)⟩))
          have frh98 := frh91.tr frh98
          refine v_istore (L' := [(0, .ref a), (1, .int p1), (2, .int 5), (3, .int x97), (4, .int x100)]) [1, 2, 3, 4, 0] (i := 36) rfl (Nat.le_of_ble_eq_true rfl) rfl (?_ : ky_V _ _ _ 63 _ _ _ _)
          refine v_aload_n (i := 37) (j := 0) rfl rfl (?_ : ky_V _ _ _ 64 _ _ _ _)
          refine gf_X12_13 rfl (i := 38) rfl (md_0 hmh98) rfl (?_ : ky_V _ _ _ 67 _ _ _ _)
          refine v_iload_n (i := 39) (j := 2) rfl rfl (?_ : ky_V _ _ _ 68 _ _ _ _)
          refine v_iload_n (i := 40) (j := 1) rfl rfl (?_ : ky_V _ _ _ 69 _ _ _ _)
          refine v_if_ne (tgt := 76) (i := 41) rfl (by decide) (fun c102 => ?_) (fun c102 => ?_)
          · replace e := ky_ifF c102 e
            refine v_bipush (v := 9) (i := 44) rfl (by decide) (?_ : ky_V _ _ _ 78 _ _ _ _)
            refine v_iload_n (i := 45) (j := 3) rfl rfl (?_ : ky_V _ _ _ 79 _ _ _ _)
            refine v_iconst (v := 1) (i := 46) rfl (by decide) (?_ : ky_V _ _ _ 80 _ _ _ _)
            refine v_iadd (i := 47) rfl (?_ : ky_V _ _ _ 81 _ _ _ _)
            refine cl_X12_260 rfl (i := 48) rfl (Nat.le_of_ble_eq_true rfl) (?_ : ky_V _ _ _ 84 _ _ _ _)
            refine v_topi (fun x103 ex103 => ?_)
            replace e := ky_letE ex103 e
            refine v_iast (i := 49) rfl (md_1 hmh98) (ky_inl (by decide)) ?_
            refine bk_st (B := md_B G a) hmh98 frh98 1 5 x103 (by decide) (fun h104 hmh104 frh104 => ?_)
            obtain ⟨q105, eq105⟩ : ∃ z, z = (bk_w q99 1 5 x103) := ⟨_, rfl⟩
            rw [← eq105] at hmh104
            replace e := ky_letE eq105 e
            refine (?_ : ky_V _ _ _ 85 _ _ _ _)
            refine v_aload_n (i := 50) (j := 0) rfl rfl (?_ : ky_V _ _ _ 86 _ _ _ _)
            refine v_bipush (v := 127) (i := 51) rfl (by decide) (?_ : ky_V _ _ _ 88 _ _ _ _)
            obtain ⟨⟨q107, x108⟩, g109, e⟩ := Option.bind_eq_some_iff.mp e
            refine cl_X12_327 (As := [.int 127]) rfl (i := 52) rfl (md_0 hmh104) rfl rfl (Nat.le_of_ble_eq_true rfl) (k_X12_soonestBy N hmh104 g109 (fun h106 hmh106 frh106 => ⟨_, rfl, (?_ : ky_V _ _ _ 91 _ [.int x108] _ _)⟩))
            have frh106 := frh104.tr frh106
            refine v_istore (L' := [(0, .ref a), (1, .int p1), (2, .int 5), (3, .int x97), (4, .int x100), (5, .int x108)]) [1, 2, 3, 4, 5, 0] (i := 53) rfl (Nat.le_of_ble_eq_true rfl) rfl (?_ : ky_V _ _ _ 93 _ _ _ _)
            refine v_aload_n (i := 54) (j := 0) rfl rfl (?_ : ky_V _ _ _ 94 _ _ _ _)
            refine gf_X12_13 rfl (i := 55) rfl (md_0 hmh106) rfl (?_ : ky_V _ _ _ 97 _ _ _ _)
            refine v_iload_n (i := 56) (j := 2) rfl rfl (?_ : ky_V _ _ _ 98 _ _ _ _)
            refine v_iload_n (i := 57) (j := 3) rfl rfl (?_ : ky_V _ _ _ 99 _ _ _ _)
            refine v_iast (i := 58) rfl (md_1 hmh106) (ky_inl (by decide)) ?_
            refine bk_st (B := md_B G a) hmh106 frh106 1 5 x97 (by decide) (fun h110 hmh110 frh110 => ?_)
            obtain ⟨q111, eq111⟩ : ∃ z, z = (bk_w q107 1 5 x97) := ⟨_, rfl⟩
            rw [← eq111] at hmh110
            replace e := ky_letE eq111 e
            refine (?_ : ky_V _ _ _ 100 _ _ _ _)
            refine v_iload (i := 59) (j := 4) rfl rfl (?_ : ky_V _ _ _ 102 _ _ _ _)
            refine v_ldcw (v := 1000000) (i := 60) rfl (ky_t8 (i := 116) rfl rfl) (?_ : ky_V _ _ _ 105 _ _ _ _)
            refine v_icmp_ge (tgt := 116) (i := 61) rfl (by decide) (fun c112 => ?_) (fun c112 => ?_)
            · replace e := ky_ifT c112 e
              refine v_bipush (v := (-99)) (i := 65) rfl (by decide) (?_ : ky_V _ _ _ 118 _ _ _ _)
              refine v_goto (tgt := 126) (i := 66) rfl (by decide) (?_ : ky_V _ _ _ 126 _ _ _ _)
              refine v_iret (v := (-99)) (ty := .int) (i := 70) rfl rfl rfl ?_
              obtain ⟨rfl, rfl⟩ := ky_leaf e
              exact hr _ hmh110 frh110
            · replace e := ky_ifF c112 e
              refine v_iload (i := 62) (j := 5) rfl rfl (?_ : ky_V _ _ _ 110 _ _ _ _)
              refine v_ldcw (v := 1000000) (i := 63) rfl (ky_t8 (i := 116) rfl rfl) (?_ : ky_V _ _ _ 113 _ _ _ _)
              refine v_icmp_lt (tgt := 121) (i := 64) rfl (by decide) (fun c113 => ?_) (fun c113 => ?_)
              · replace e := ky_ifT c113 e
                refine v_iload (i := 67) (j := 4) rfl rfl (?_ : ky_V _ _ _ 123 _ _ _ _)
                refine v_iload (i := 68) (j := 5) rfl rfl (?_ : ky_V _ _ _ 125 _ _ _ _)
                refine v_isub (i := 69) rfl (?_ : ky_V _ _ _ 126 _ _ _ _)
                refine v_iret (v := (x100 - x108)) (ty := .int) (i := 70) rfl rfl rfl ?_
                obtain ⟨rfl, rfl⟩ := ky_leaf e
                exact hr _ hmh110 frh110
              · replace e := ky_ifF c113 e
                refine v_bipush (v := (-99)) (i := 65) rfl (by decide) (?_ : ky_V _ _ _ 118 _ _ _ _)
                refine v_goto (tgt := 126) (i := 66) rfl (by decide) (?_ : ky_V _ _ _ 126 _ _ _ _)
                refine v_iret (v := (-99)) (ty := .int) (i := 70) rfl rfl rfl ?_
                obtain ⟨rfl, rfl⟩ := ky_leaf e
                exact hr _ hmh110 frh110
          · replace e := ky_ifT c102 e
            refine v_iconst (v := 1) (i := 42) rfl (by decide) (?_ : ky_V _ _ _ 73 _ _ _ _)
            refine v_goto (tgt := 84) (i := 43) rfl (by decide) (?_ : ky_V _ _ _ 84 _ _ _ _)
            refine v_iast (i := 49) rfl (md_1 hmh98) (ky_inl (by decide)) ?_
            refine bk_st (B := md_B G a) hmh98 frh98 1 5 1 (by decide) (fun h114 hmh114 frh114 => ?_)
            obtain ⟨q115, eq115⟩ : ∃ z, z = (bk_w q99 1 5 1) := ⟨_, rfl⟩
            rw [← eq115] at hmh114
            replace e := ky_letE eq115 e
            refine (?_ : ky_V _ _ _ 85 _ _ _ _)
            refine v_aload_n (i := 50) (j := 0) rfl rfl (?_ : ky_V _ _ _ 86 _ _ _ _)
            refine v_bipush (v := 127) (i := 51) rfl (by decide) (?_ : ky_V _ _ _ 88 _ _ _ _)
            obtain ⟨⟨q117, x118⟩, g119, e⟩ := Option.bind_eq_some_iff.mp e
            refine cl_X12_327 (As := [.int 127]) rfl (i := 52) rfl (md_0 hmh114) rfl rfl (Nat.le_of_ble_eq_true rfl) (k_X12_soonestBy N hmh114 g119 (fun h116 hmh116 frh116 => ⟨_, rfl, (?_ : ky_V _ _ _ 91 _ [.int x118] _ _)⟩))
            have frh116 := frh114.tr frh116
            refine v_istore (L' := [(0, .ref a), (1, .int p1), (2, .int 5), (3, .int x97), (4, .int x100), (5, .int x118)]) [1, 2, 3, 4, 5, 0] (i := 53) rfl (Nat.le_of_ble_eq_true rfl) rfl (?_ : ky_V _ _ _ 93 _ _ _ _)
            refine v_aload_n (i := 54) (j := 0) rfl rfl (?_ : ky_V _ _ _ 94 _ _ _ _)
            refine gf_X12_13 rfl (i := 55) rfl (md_0 hmh116) rfl (?_ : ky_V _ _ _ 97 _ _ _ _)
            refine v_iload_n (i := 56) (j := 2) rfl rfl (?_ : ky_V _ _ _ 98 _ _ _ _)
            refine v_iload_n (i := 57) (j := 3) rfl rfl (?_ : ky_V _ _ _ 99 _ _ _ _)
            refine v_iast (i := 58) rfl (md_1 hmh116) (ky_inl (by decide)) ?_
            refine bk_st (B := md_B G a) hmh116 frh116 1 5 x97 (by decide) (fun h120 hmh120 frh120 => ?_)
            obtain ⟨q121, eq121⟩ : ∃ z, z = (bk_w q117 1 5 x97) := ⟨_, rfl⟩
            rw [← eq121] at hmh120
            replace e := ky_letE eq121 e
            refine (?_ : ky_V _ _ _ 100 _ _ _ _)
            refine v_iload (i := 59) (j := 4) rfl rfl (?_ : ky_V _ _ _ 102 _ _ _ _)
            refine v_ldcw (v := 1000000) (i := 60) rfl (ky_t8 (i := 116) rfl rfl) (?_ : ky_V _ _ _ 105 _ _ _ _)
            refine v_icmp_ge (tgt := 116) (i := 61) rfl (by decide) (fun c122 => ?_) (fun c122 => ?_)
            · replace e := ky_ifT c122 e
              refine v_bipush (v := (-99)) (i := 65) rfl (by decide) (?_ : ky_V _ _ _ 118 _ _ _ _)
              refine v_goto (tgt := 126) (i := 66) rfl (by decide) (?_ : ky_V _ _ _ 126 _ _ _ _)
              refine v_iret (v := (-99)) (ty := .int) (i := 70) rfl rfl rfl ?_
              obtain ⟨rfl, rfl⟩ := ky_leaf e
              exact hr _ hmh120 frh120
            · replace e := ky_ifF c122 e
              refine v_iload (i := 62) (j := 5) rfl rfl (?_ : ky_V _ _ _ 110 _ _ _ _)
              refine v_ldcw (v := 1000000) (i := 63) rfl (ky_t8 (i := 116) rfl rfl) (?_ : ky_V _ _ _ 113 _ _ _ _)
              refine v_icmp_lt (tgt := 121) (i := 64) rfl (by decide) (fun c123 => ?_) (fun c123 => ?_)
              · replace e := ky_ifT c123 e
                refine v_iload (i := 67) (j := 4) rfl rfl (?_ : ky_V _ _ _ 123 _ _ _ _)
                refine v_iload (i := 68) (j := 5) rfl rfl (?_ : ky_V _ _ _ 125 _ _ _ _)
                refine v_isub (i := 69) rfl (?_ : ky_V _ _ _ 126 _ _ _ _)
                refine v_iret (v := (x100 - x118)) (ty := .int) (i := 70) rfl rfl rfl ?_
                obtain ⟨rfl, rfl⟩ := ky_leaf e
                exact hr _ hmh120 frh120
              · replace e := ky_ifF c123 e
                refine v_bipush (v := (-99)) (i := 65) rfl (by decide) (?_ : ky_V _ _ _ 118 _ _ _ _)
                refine v_goto (tgt := 126) (i := 66) rfl (by decide) (?_ : ky_V _ _ _ 126 _ _ _ _)
                refine v_iret (v := (-99)) (ty := .int) (i := 70) rfl rfl rfl ?_
                obtain ⟨rfl, rfl⟩ := ky_leaf e
                exact hr _ hmh120 frh120
        · replace e := ky_ifT c96 e
          refine v_iconst (v := 4) (i := 24) rfl (by decide) (?_ : ky_V _ _ _ 43 _ _ _ _)
          refine v_goto (tgt := 47) (i := 25) rfl (by decide) (?_ : ky_V _ _ _ 47 _ _ _ _)
          refine v_istore_n (L' := [(0, .ref a), (1, .int p1), (2, .int 4)]) [1, 2, 0] (i := 27) rfl (Nat.le_of_ble_eq_true rfl) rfl (?_ : ky_V _ _ _ 48 _ _ _ _)
          refine v_aload_n (i := 28) (j := 0) rfl rfl (?_ : ky_V _ _ _ 49 _ _ _ _)
          refine gf_X12_13 rfl (i := 29) rfl (md_0 hmh91) rfl (?_ : ky_V _ _ _ 52 _ _ _ _)
          refine v_iload_n (i := 30) (j := 2) rfl rfl (?_ : ky_V _ _ _ 53 _ _ _ _)
          refine v_iald (i := 31) rfl (md_1 hmh91) (ky_inl (by decide)) (?_ : ky_V _ _ _ 54 _ (.int (q92 1 4) :: _) _ _)
          refine v_topi (fun x124 ex124 => ?_)
          replace e := ky_letE ex124 e
          refine v_istore_n (L' := [(0, .ref a), (1, .int p1), (2, .int 4), (3, .int x124)]) [1, 2, 3, 0] (i := 32) rfl (Nat.le_of_ble_eq_true rfl) rfl (?_ : ky_V _ _ _ 55 _ _ _ _)
          refine v_aload_n (i := 33) (j := 0) rfl rfl (?_ : ky_V _ _ _ 56 _ _ _ _)
          refine v_bipush (v := 127) (i := 34) rfl (by decide) (?_ : ky_V _ _ _ 58 _ _ _ _)
          obtain ⟨⟨q126, x127⟩, g128, e⟩ := Option.bind_eq_some_iff.mp e
          refine cl_X12_327 (As := [.int 127]) rfl (i := 35) rfl (md_0 hmh91) rfl rfl (Nat.le_of_ble_eq_true rfl) (k_X12_soonestBy N hmh91 g128 (fun h125 hmh125 frh125 => ⟨_, rfl, (?_ : ky_V _ _ _ 61 _ [.int x127] _ _)⟩))
          have frh125 := frh91.tr frh125
          refine v_istore (L' := [(0, .ref a), (1, .int p1), (2, .int 4), (3, .int x124), (4, .int x127)]) [1, 2, 3, 4, 0] (i := 36) rfl (Nat.le_of_ble_eq_true rfl) rfl (?_ : ky_V _ _ _ 63 _ _ _ _)
          refine v_aload_n (i := 37) (j := 0) rfl rfl (?_ : ky_V _ _ _ 64 _ _ _ _)
          refine gf_X12_13 rfl (i := 38) rfl (md_0 hmh125) rfl (?_ : ky_V _ _ _ 67 _ _ _ _)
          refine v_iload_n (i := 39) (j := 2) rfl rfl (?_ : ky_V _ _ _ 68 _ _ _ _)
          refine v_iload_n (i := 40) (j := 1) rfl rfl (?_ : ky_V _ _ _ 69 _ _ _ _)
          refine v_if_ne (tgt := 76) (i := 41) rfl (by decide) (fun c129 => ?_) (fun c129 => ?_)
          · replace e := ky_ifF c129 e
            refine v_bipush (v := 9) (i := 44) rfl (by decide) (?_ : ky_V _ _ _ 78 _ _ _ _)
            refine v_iload_n (i := 45) (j := 3) rfl rfl (?_ : ky_V _ _ _ 79 _ _ _ _)
            refine v_iconst (v := 1) (i := 46) rfl (by decide) (?_ : ky_V _ _ _ 80 _ _ _ _)
            refine v_iadd (i := 47) rfl (?_ : ky_V _ _ _ 81 _ _ _ _)
            refine cl_X12_260 rfl (i := 48) rfl (Nat.le_of_ble_eq_true rfl) (?_ : ky_V _ _ _ 84 _ _ _ _)
            refine v_topi (fun x130 ex130 => ?_)
            replace e := ky_letE ex130 e
            refine v_iast (i := 49) rfl (md_1 hmh125) (ky_inl (by decide)) ?_
            refine bk_st (B := md_B G a) hmh125 frh125 1 4 x130 (by decide) (fun h131 hmh131 frh131 => ?_)
            obtain ⟨q132, eq132⟩ : ∃ z, z = (bk_w q126 1 4 x130) := ⟨_, rfl⟩
            rw [← eq132] at hmh131
            replace e := ky_letE eq132 e
            refine (?_ : ky_V _ _ _ 85 _ _ _ _)
            refine v_aload_n (i := 50) (j := 0) rfl rfl (?_ : ky_V _ _ _ 86 _ _ _ _)
            refine v_bipush (v := 127) (i := 51) rfl (by decide) (?_ : ky_V _ _ _ 88 _ _ _ _)
            obtain ⟨⟨q134, x135⟩, g136, e⟩ := Option.bind_eq_some_iff.mp e
            refine cl_X12_327 (As := [.int 127]) rfl (i := 52) rfl (md_0 hmh131) rfl rfl (Nat.le_of_ble_eq_true rfl) (k_X12_soonestBy N hmh131 g136 (fun h133 hmh133 frh133 => ⟨_, rfl, (?_ : ky_V _ _ _ 91 _ [.int x135] _ _)⟩))
            have frh133 := frh131.tr frh133
            refine v_istore (L' := [(0, .ref a), (1, .int p1), (2, .int 4), (3, .int x124), (4, .int x127), (5, .int x135)]) [1, 2, 3, 4, 5, 0] (i := 53) rfl (Nat.le_of_ble_eq_true rfl) rfl (?_ : ky_V _ _ _ 93 _ _ _ _)
            refine v_aload_n (i := 54) (j := 0) rfl rfl (?_ : ky_V _ _ _ 94 _ _ _ _)
            refine gf_X12_13 rfl (i := 55) rfl (md_0 hmh133) rfl (?_ : ky_V _ _ _ 97 _ _ _ _)
            refine v_iload_n (i := 56) (j := 2) rfl rfl (?_ : ky_V _ _ _ 98 _ _ _ _)
            refine v_iload_n (i := 57) (j := 3) rfl rfl (?_ : ky_V _ _ _ 99 _ _ _ _)
            refine v_iast (i := 58) rfl (md_1 hmh133) (ky_inl (by decide)) ?_
            refine bk_st (B := md_B G a) hmh133 frh133 1 4 x124 (by decide) (fun h137 hmh137 frh137 => ?_)
            obtain ⟨q138, eq138⟩ : ∃ z, z = (bk_w q134 1 4 x124) := ⟨_, rfl⟩
            rw [← eq138] at hmh137
            replace e := ky_letE eq138 e
            refine (?_ : ky_V _ _ _ 100 _ _ _ _)
            refine v_iload (i := 59) (j := 4) rfl rfl (?_ : ky_V _ _ _ 102 _ _ _ _)
            refine v_ldcw (v := 1000000) (i := 60) rfl (ky_t8 (i := 116) rfl rfl) (?_ : ky_V _ _ _ 105 _ _ _ _)
            refine v_icmp_ge (tgt := 116) (i := 61) rfl (by decide) (fun c139 => ?_) (fun c139 => ?_)
            · replace e := ky_ifT c139 e
              refine v_bipush (v := (-99)) (i := 65) rfl (by decide) (?_ : ky_V _ _ _ 118 _ _ _ _)
              refine v_goto (tgt := 126) (i := 66) rfl (by decide) (?_ : ky_V _ _ _ 126 _ _ _ _)
              refine v_iret (v := (-99)) (ty := .int) (i := 70) rfl rfl rfl ?_
              obtain ⟨rfl, rfl⟩ := ky_leaf e
              exact hr _ hmh137 frh137
            · replace e := ky_ifF c139 e
              refine v_iload (i := 62) (j := 5) rfl rfl (?_ : ky_V _ _ _ 110 _ _ _ _)
              refine v_ldcw (v := 1000000) (i := 63) rfl (ky_t8 (i := 116) rfl rfl) (?_ : ky_V _ _ _ 113 _ _ _ _)
              refine v_icmp_lt (tgt := 121) (i := 64) rfl (by decide) (fun c140 => ?_) (fun c140 => ?_)
              · replace e := ky_ifT c140 e
                refine v_iload (i := 67) (j := 4) rfl rfl (?_ : ky_V _ _ _ 123 _ _ _ _)
                refine v_iload (i := 68) (j := 5) rfl rfl (?_ : ky_V _ _ _ 125 _ _ _ _)
                refine v_isub (i := 69) rfl (?_ : ky_V _ _ _ 126 _ _ _ _)
                refine v_iret (v := (x127 - x135)) (ty := .int) (i := 70) rfl rfl rfl ?_
                obtain ⟨rfl, rfl⟩ := ky_leaf e
                exact hr _ hmh137 frh137
              · replace e := ky_ifF c140 e
                refine v_bipush (v := (-99)) (i := 65) rfl (by decide) (?_ : ky_V _ _ _ 118 _ _ _ _)
                refine v_goto (tgt := 126) (i := 66) rfl (by decide) (?_ : ky_V _ _ _ 126 _ _ _ _)
                refine v_iret (v := (-99)) (ty := .int) (i := 70) rfl rfl rfl ?_
                obtain ⟨rfl, rfl⟩ := ky_leaf e
                exact hr _ hmh137 frh137
          · replace e := ky_ifT c129 e
            refine v_iconst (v := 1) (i := 42) rfl (by decide) (?_ : ky_V _ _ _ 73 _ _ _ _)
            refine v_goto (tgt := 84) (i := 43) rfl (by decide) (?_ : ky_V _ _ _ 84 _ _ _ _)
            refine v_iast (i := 49) rfl (md_1 hmh125) (ky_inl (by decide)) ?_
            refine bk_st (B := md_B G a) hmh125 frh125 1 4 1 (by decide) (fun h141 hmh141 frh141 => ?_)
            obtain ⟨q142, eq142⟩ : ∃ z, z = (bk_w q126 1 4 1) := ⟨_, rfl⟩
            rw [← eq142] at hmh141
            replace e := ky_letE eq142 e
            refine (?_ : ky_V _ _ _ 85 _ _ _ _)
            refine v_aload_n (i := 50) (j := 0) rfl rfl (?_ : ky_V _ _ _ 86 _ _ _ _)
            refine v_bipush (v := 127) (i := 51) rfl (by decide) (?_ : ky_V _ _ _ 88 _ _ _ _)
            obtain ⟨⟨q144, x145⟩, g146, e⟩ := Option.bind_eq_some_iff.mp e
            refine cl_X12_327 (As := [.int 127]) rfl (i := 52) rfl (md_0 hmh141) rfl rfl (Nat.le_of_ble_eq_true rfl) (k_X12_soonestBy N hmh141 g146 (fun h143 hmh143 frh143 => ⟨_, rfl, (?_ : ky_V _ _ _ 91 _ [.int x145] _ _)⟩))
            have frh143 := frh141.tr frh143
            refine v_istore (L' := [(0, .ref a), (1, .int p1), (2, .int 4), (3, .int x124), (4, .int x127), (5, .int x145)]) [1, 2, 3, 4, 5, 0] (i := 53) rfl (Nat.le_of_ble_eq_true rfl) rfl (?_ : ky_V _ _ _ 93 _ _ _ _)
            refine v_aload_n (i := 54) (j := 0) rfl rfl (?_ : ky_V _ _ _ 94 _ _ _ _)
            refine gf_X12_13 rfl (i := 55) rfl (md_0 hmh143) rfl (?_ : ky_V _ _ _ 97 _ _ _ _)
            refine v_iload_n (i := 56) (j := 2) rfl rfl (?_ : ky_V _ _ _ 98 _ _ _ _)
            refine v_iload_n (i := 57) (j := 3) rfl rfl (?_ : ky_V _ _ _ 99 _ _ _ _)
            refine v_iast (i := 58) rfl (md_1 hmh143) (ky_inl (by decide)) ?_
            refine bk_st (B := md_B G a) hmh143 frh143 1 4 x124 (by decide) (fun h147 hmh147 frh147 => ?_)
            obtain ⟨q148, eq148⟩ : ∃ z, z = (bk_w q144 1 4 x124) := ⟨_, rfl⟩
            rw [← eq148] at hmh147
            replace e := ky_letE eq148 e
            refine (?_ : ky_V _ _ _ 100 _ _ _ _)
            refine v_iload (i := 59) (j := 4) rfl rfl (?_ : ky_V _ _ _ 102 _ _ _ _)
            refine v_ldcw (v := 1000000) (i := 60) rfl (ky_t8 (i := 116) rfl rfl) (?_ : ky_V _ _ _ 105 _ _ _ _)
            refine v_icmp_ge (tgt := 116) (i := 61) rfl (by decide) (fun c149 => ?_) (fun c149 => ?_)
            · replace e := ky_ifT c149 e
              refine v_bipush (v := (-99)) (i := 65) rfl (by decide) (?_ : ky_V _ _ _ 118 _ _ _ _)
              refine v_goto (tgt := 126) (i := 66) rfl (by decide) (?_ : ky_V _ _ _ 126 _ _ _ _)
              refine v_iret (v := (-99)) (ty := .int) (i := 70) rfl rfl rfl ?_
              obtain ⟨rfl, rfl⟩ := ky_leaf e
              exact hr _ hmh147 frh147
            · replace e := ky_ifF c149 e
              refine v_iload (i := 62) (j := 5) rfl rfl (?_ : ky_V _ _ _ 110 _ _ _ _)
              refine v_ldcw (v := 1000000) (i := 63) rfl (ky_t8 (i := 116) rfl rfl) (?_ : ky_V _ _ _ 113 _ _ _ _)
              refine v_icmp_lt (tgt := 121) (i := 64) rfl (by decide) (fun c150 => ?_) (fun c150 => ?_)
              · replace e := ky_ifT c150 e
                refine v_iload (i := 67) (j := 4) rfl rfl (?_ : ky_V _ _ _ 123 _ _ _ _)
                refine v_iload (i := 68) (j := 5) rfl rfl (?_ : ky_V _ _ _ 125 _ _ _ _)
                refine v_isub (i := 69) rfl (?_ : ky_V _ _ _ 126 _ _ _ _)
                refine v_iret (v := (x127 - x145)) (ty := .int) (i := 70) rfl rfl rfl ?_
                obtain ⟨rfl, rfl⟩ := ky_leaf e
                exact hr _ hmh147 frh147
              · replace e := ky_ifF c150 e
                refine v_bipush (v := (-99)) (i := 65) rfl (by decide) (?_ : ky_V _ _ _ 118 _ _ _ _)
                refine v_goto (tgt := 126) (i := 66) rfl (by decide) (?_ : ky_V _ _ _ 126 _ _ _ _)
                refine v_iret (v := (-99)) (ty := .int) (i := 70) rfl rfl rfl ?_
                obtain ⟨rfl, rfl⟩ := ky_leaf e
                exact hr _ hmh147 frh147
      · replace e := ky_ifT c95 e
        refine v_iconst (v := 3) (i := 19) rfl (by decide) (?_ : ky_V _ _ _ 34 _ _ _ _)
        refine v_goto (tgt := 47) (i := 20) rfl (by decide) (?_ : ky_V _ _ _ 47 _ _ _ _)
        refine v_istore_n (L' := [(0, .ref a), (1, .int p1), (2, .int 3)]) [1, 2, 0] (i := 27) rfl (Nat.le_of_ble_eq_true rfl) rfl (?_ : ky_V _ _ _ 48 _ _ _ _)
        refine v_aload_n (i := 28) (j := 0) rfl rfl (?_ : ky_V _ _ _ 49 _ _ _ _)
        refine gf_X12_13 rfl (i := 29) rfl (md_0 hmh91) rfl (?_ : ky_V _ _ _ 52 _ _ _ _)
        refine v_iload_n (i := 30) (j := 2) rfl rfl (?_ : ky_V _ _ _ 53 _ _ _ _)
        refine v_iald (i := 31) rfl (md_1 hmh91) (ky_inl (by decide)) (?_ : ky_V _ _ _ 54 _ (.int (q92 1 3) :: _) _ _)
        refine v_topi (fun x151 ex151 => ?_)
        replace e := ky_letE ex151 e
        refine v_istore_n (L' := [(0, .ref a), (1, .int p1), (2, .int 3), (3, .int x151)]) [1, 2, 3, 0] (i := 32) rfl (Nat.le_of_ble_eq_true rfl) rfl (?_ : ky_V _ _ _ 55 _ _ _ _)
        refine v_aload_n (i := 33) (j := 0) rfl rfl (?_ : ky_V _ _ _ 56 _ _ _ _)
        refine v_bipush (v := 127) (i := 34) rfl (by decide) (?_ : ky_V _ _ _ 58 _ _ _ _)
        obtain ⟨⟨q153, x154⟩, g155, e⟩ := Option.bind_eq_some_iff.mp e
        refine cl_X12_327 (As := [.int 127]) rfl (i := 35) rfl (md_0 hmh91) rfl rfl (Nat.le_of_ble_eq_true rfl) (k_X12_soonestBy N hmh91 g155 (fun h152 hmh152 frh152 => ⟨_, rfl, (?_ : ky_V _ _ _ 61 _ [.int x154] _ _)⟩))
        have frh152 := frh91.tr frh152
        refine v_istore (L' := [(0, .ref a), (1, .int p1), (2, .int 3), (3, .int x151), (4, .int x154)]) [1, 2, 3, 4, 0] (i := 36) rfl (Nat.le_of_ble_eq_true rfl) rfl (?_ : ky_V _ _ _ 63 _ _ _ _)
        refine v_aload_n (i := 37) (j := 0) rfl rfl (?_ : ky_V _ _ _ 64 _ _ _ _)
        refine gf_X12_13 rfl (i := 38) rfl (md_0 hmh152) rfl (?_ : ky_V _ _ _ 67 _ _ _ _)
        refine v_iload_n (i := 39) (j := 2) rfl rfl (?_ : ky_V _ _ _ 68 _ _ _ _)
        refine v_iload_n (i := 40) (j := 1) rfl rfl (?_ : ky_V _ _ _ 69 _ _ _ _)
        refine v_if_ne (tgt := 76) (i := 41) rfl (by decide) (fun c156 => ?_) (fun c156 => ?_)
        · replace e := ky_ifF c156 e
          refine v_bipush (v := 9) (i := 44) rfl (by decide) (?_ : ky_V _ _ _ 78 _ _ _ _)
          refine v_iload_n (i := 45) (j := 3) rfl rfl (?_ : ky_V _ _ _ 79 _ _ _ _)
          refine v_iconst (v := 1) (i := 46) rfl (by decide) (?_ : ky_V _ _ _ 80 _ _ _ _)
          refine v_iadd (i := 47) rfl (?_ : ky_V _ _ _ 81 _ _ _ _)
          refine cl_X12_260 rfl (i := 48) rfl (Nat.le_of_ble_eq_true rfl) (?_ : ky_V _ _ _ 84 _ _ _ _)
          refine v_topi (fun x157 ex157 => ?_)
          replace e := ky_letE ex157 e
          refine v_iast (i := 49) rfl (md_1 hmh152) (ky_inl (by decide)) ?_
          refine bk_st (B := md_B G a) hmh152 frh152 1 3 x157 (by decide) (fun h158 hmh158 frh158 => ?_)
          obtain ⟨q159, eq159⟩ : ∃ z, z = (bk_w q153 1 3 x157) := ⟨_, rfl⟩
          rw [← eq159] at hmh158
          replace e := ky_letE eq159 e
          refine (?_ : ky_V _ _ _ 85 _ _ _ _)
          refine v_aload_n (i := 50) (j := 0) rfl rfl (?_ : ky_V _ _ _ 86 _ _ _ _)
          refine v_bipush (v := 127) (i := 51) rfl (by decide) (?_ : ky_V _ _ _ 88 _ _ _ _)
          obtain ⟨⟨q161, x162⟩, g163, e⟩ := Option.bind_eq_some_iff.mp e
          refine cl_X12_327 (As := [.int 127]) rfl (i := 52) rfl (md_0 hmh158) rfl rfl (Nat.le_of_ble_eq_true rfl) (k_X12_soonestBy N hmh158 g163 (fun h160 hmh160 frh160 => ⟨_, rfl, (?_ : ky_V _ _ _ 91 _ [.int x162] _ _)⟩))
          have frh160 := frh158.tr frh160
          refine v_istore (L' := [(0, .ref a), (1, .int p1), (2, .int 3), (3, .int x151), (4, .int x154), (5, .int x162)]) [1, 2, 3, 4, 5, 0] (i := 53) rfl (Nat.le_of_ble_eq_true rfl) rfl (?_ : ky_V _ _ _ 93 _ _ _ _)
          refine v_aload_n (i := 54) (j := 0) rfl rfl (?_ : ky_V _ _ _ 94 _ _ _ _)
          refine gf_X12_13 rfl (i := 55) rfl (md_0 hmh160) rfl (?_ : ky_V _ _ _ 97 _ _ _ _)
          refine v_iload_n (i := 56) (j := 2) rfl rfl (?_ : ky_V _ _ _ 98 _ _ _ _)
          refine v_iload_n (i := 57) (j := 3) rfl rfl (?_ : ky_V _ _ _ 99 _ _ _ _)
          refine v_iast (i := 58) rfl (md_1 hmh160) (ky_inl (by decide)) ?_
          refine bk_st (B := md_B G a) hmh160 frh160 1 3 x151 (by decide) (fun h164 hmh164 frh164 => ?_)
          obtain ⟨q165, eq165⟩ : ∃ z, z = (bk_w q161 1 3 x151) := ⟨_, rfl⟩
          rw [← eq165] at hmh164
          replace e := ky_letE eq165 e
          refine (?_ : ky_V _ _ _ 100 _ _ _ _)
          refine v_iload (i := 59) (j := 4) rfl rfl (?_ : ky_V _ _ _ 102 _ _ _ _)
          refine v_ldcw (v := 1000000) (i := 60) rfl (ky_t8 (i := 116) rfl rfl) (?_ : ky_V _ _ _ 105 _ _ _ _)
          refine v_icmp_ge (tgt := 116) (i := 61) rfl (by decide) (fun c166 => ?_) (fun c166 => ?_)
          · replace e := ky_ifT c166 e
            refine v_bipush (v := (-99)) (i := 65) rfl (by decide) (?_ : ky_V _ _ _ 118 _ _ _ _)
            refine v_goto (tgt := 126) (i := 66) rfl (by decide) (?_ : ky_V _ _ _ 126 _ _ _ _)
            refine v_iret (v := (-99)) (ty := .int) (i := 70) rfl rfl rfl ?_
            obtain ⟨rfl, rfl⟩ := ky_leaf e
            exact hr _ hmh164 frh164
          · replace e := ky_ifF c166 e
            refine v_iload (i := 62) (j := 5) rfl rfl (?_ : ky_V _ _ _ 110 _ _ _ _)
            refine v_ldcw (v := 1000000) (i := 63) rfl (ky_t8 (i := 116) rfl rfl) (?_ : ky_V _ _ _ 113 _ _ _ _)
            refine v_icmp_lt (tgt := 121) (i := 64) rfl (by decide) (fun c167 => ?_) (fun c167 => ?_)
            · replace e := ky_ifT c167 e
              refine v_iload (i := 67) (j := 4) rfl rfl (?_ : ky_V _ _ _ 123 _ _ _ _)
              refine v_iload (i := 68) (j := 5) rfl rfl (?_ : ky_V _ _ _ 125 _ _ _ _)
              refine v_isub (i := 69) rfl (?_ : ky_V _ _ _ 126 _ _ _ _)
              refine v_iret (v := (x154 - x162)) (ty := .int) (i := 70) rfl rfl rfl ?_
              obtain ⟨rfl, rfl⟩ := ky_leaf e
              exact hr _ hmh164 frh164
            · replace e := ky_ifF c167 e
              refine v_bipush (v := (-99)) (i := 65) rfl (by decide) (?_ : ky_V _ _ _ 118 _ _ _ _)
              refine v_goto (tgt := 126) (i := 66) rfl (by decide) (?_ : ky_V _ _ _ 126 _ _ _ _)
              refine v_iret (v := (-99)) (ty := .int) (i := 70) rfl rfl rfl ?_
              obtain ⟨rfl, rfl⟩ := ky_leaf e
              exact hr _ hmh164 frh164
        · replace e := ky_ifT c156 e
          refine v_iconst (v := 1) (i := 42) rfl (by decide) (?_ : ky_V _ _ _ 73 _ _ _ _)
          refine v_goto (tgt := 84) (i := 43) rfl (by decide) (?_ : ky_V _ _ _ 84 _ _ _ _)
          refine v_iast (i := 49) rfl (md_1 hmh152) (ky_inl (by decide)) ?_
          refine bk_st (B := md_B G a) hmh152 frh152 1 3 1 (by decide) (fun h168 hmh168 frh168 => ?_)
          obtain ⟨q169, eq169⟩ : ∃ z, z = (bk_w q153 1 3 1) := ⟨_, rfl⟩
          rw [← eq169] at hmh168
          replace e := ky_letE eq169 e
          refine (?_ : ky_V _ _ _ 85 _ _ _ _)
          refine v_aload_n (i := 50) (j := 0) rfl rfl (?_ : ky_V _ _ _ 86 _ _ _ _)
          refine v_bipush (v := 127) (i := 51) rfl (by decide) (?_ : ky_V _ _ _ 88 _ _ _ _)
          obtain ⟨⟨q171, x172⟩, g173, e⟩ := Option.bind_eq_some_iff.mp e
          refine cl_X12_327 (As := [.int 127]) rfl (i := 52) rfl (md_0 hmh168) rfl rfl (Nat.le_of_ble_eq_true rfl) (k_X12_soonestBy N hmh168 g173 (fun h170 hmh170 frh170 => ⟨_, rfl, (?_ : ky_V _ _ _ 91 _ [.int x172] _ _)⟩))
          have frh170 := frh168.tr frh170
          refine v_istore (L' := [(0, .ref a), (1, .int p1), (2, .int 3), (3, .int x151), (4, .int x154), (5, .int x172)]) [1, 2, 3, 4, 5, 0] (i := 53) rfl (Nat.le_of_ble_eq_true rfl) rfl (?_ : ky_V _ _ _ 93 _ _ _ _)
          refine v_aload_n (i := 54) (j := 0) rfl rfl (?_ : ky_V _ _ _ 94 _ _ _ _)
          refine gf_X12_13 rfl (i := 55) rfl (md_0 hmh170) rfl (?_ : ky_V _ _ _ 97 _ _ _ _)
          refine v_iload_n (i := 56) (j := 2) rfl rfl (?_ : ky_V _ _ _ 98 _ _ _ _)
          refine v_iload_n (i := 57) (j := 3) rfl rfl (?_ : ky_V _ _ _ 99 _ _ _ _)
          refine v_iast (i := 58) rfl (md_1 hmh170) (ky_inl (by decide)) ?_
          refine bk_st (B := md_B G a) hmh170 frh170 1 3 x151 (by decide) (fun h174 hmh174 frh174 => ?_)
          obtain ⟨q175, eq175⟩ : ∃ z, z = (bk_w q171 1 3 x151) := ⟨_, rfl⟩
          rw [← eq175] at hmh174
          replace e := ky_letE eq175 e
          refine (?_ : ky_V _ _ _ 100 _ _ _ _)
          refine v_iload (i := 59) (j := 4) rfl rfl (?_ : ky_V _ _ _ 102 _ _ _ _)
          refine v_ldcw (v := 1000000) (i := 60) rfl (ky_t8 (i := 116) rfl rfl) (?_ : ky_V _ _ _ 105 _ _ _ _)
          refine v_icmp_ge (tgt := 116) (i := 61) rfl (by decide) (fun c176 => ?_) (fun c176 => ?_)
          · replace e := ky_ifT c176 e
            refine v_bipush (v := (-99)) (i := 65) rfl (by decide) (?_ : ky_V _ _ _ 118 _ _ _ _)
            refine v_goto (tgt := 126) (i := 66) rfl (by decide) (?_ : ky_V _ _ _ 126 _ _ _ _)
            refine v_iret (v := (-99)) (ty := .int) (i := 70) rfl rfl rfl ?_
            obtain ⟨rfl, rfl⟩ := ky_leaf e
            exact hr _ hmh174 frh174
          · replace e := ky_ifF c176 e
            refine v_iload (i := 62) (j := 5) rfl rfl (?_ : ky_V _ _ _ 110 _ _ _ _)
            refine v_ldcw (v := 1000000) (i := 63) rfl (ky_t8 (i := 116) rfl rfl) (?_ : ky_V _ _ _ 113 _ _ _ _)
            refine v_icmp_lt (tgt := 121) (i := 64) rfl (by decide) (fun c177 => ?_) (fun c177 => ?_)
            · replace e := ky_ifT c177 e
              refine v_iload (i := 67) (j := 4) rfl rfl (?_ : ky_V _ _ _ 123 _ _ _ _)
              refine v_iload (i := 68) (j := 5) rfl rfl (?_ : ky_V _ _ _ 125 _ _ _ _)
              refine v_isub (i := 69) rfl (?_ : ky_V _ _ _ 126 _ _ _ _)
              refine v_iret (v := (x154 - x172)) (ty := .int) (i := 70) rfl rfl rfl ?_
              obtain ⟨rfl, rfl⟩ := ky_leaf e
              exact hr _ hmh174 frh174
            · replace e := ky_ifF c177 e
              refine v_bipush (v := (-99)) (i := 65) rfl (by decide) (?_ : ky_V _ _ _ 118 _ _ _ _)
              refine v_goto (tgt := 126) (i := 66) rfl (by decide) (?_ : ky_V _ _ _ 126 _ _ _ _)
              refine v_iret (v := (-99)) (ty := .int) (i := 70) rfl rfl rfl ?_
              obtain ⟨rfl, rfl⟩ := ky_leaf e
              exact hr _ hmh174 frh174
    · replace e := ky_ifF c94 e
      refine v_iconst (v := 0) (i := 15) rfl (by decide) (?_ : ky_V _ _ _ 28 _ _ _ _)
      refine v_iret (v := 0) (ty := .int) (i := 16) rfl rfl rfl ?_
      obtain ⟨rfl, rfl⟩ := ky_leaf e
      exact hr _ hmh91 frh91

def md_stuck_L16 (N : Nat) (k : (Nat → Nat → Int32) → Int32 → Int32 → Option ((Nat → Nat → Int32) × Int32)) : Nat → (Nat → Nat → Int32) → Int32 → Int32 → Option ((Nat → Nat → Int32) × Int32)
  | 0, _, _, _ => none
  | n + 1, c, p1, p2 => (if (6 : Int32) ≤ p2 then (k c p1 p2) else (ky_let (md_looks_c c) (fun q3 => (ky_let (bk_w q3 0 19 p2) (fun q5 => (if ky_inB (md_state_r q5) 1200 = true then (if (q5 11 (Int32.toNatClampNeg (md_state_r q5))) < (1000000 : Int32) then (ky_let (p1 ||| 0) (fun x8 => (ky_let (p2 + 1) (fun x9 => (md_stuck_L16 N k n q5 x8 x9))))) else (ky_let (p1 ||| ((1 : Int32) <<< (p2 &&& 31))) (fun x10 => (ky_let (p2 + 1) (fun x11 => (md_stuck_L16 N k n q5 x10 x11)))))) else none))))))
set_option maxRecDepth 20000 in
set_option maxHeartbeats 4000000 in
theorem lv_X12_stuck_16 {G : ky_GW} {d : Nat} {h0 : ky_HP} {Q : ky_RS → ky_HP → Prop} {a : Nat} {c9 : (Nat → Nat → Int32)} {r9 : Int32} (N : Nat) (k : (Nat → Nat → Int32) → Int32 → Int32 → Option ((Nat → Nat → Int32) × Int32)) (hr : ∀ h1, md_at G h1 a c9 → bk_fr a 13 h0 h1 → Q (.inl (some (.int r9))) h1)
    (hk : ∀ (h : ky_HP) (c : (Nat → Nat → Int32)) (p1 : Int32) (p2 : Int32), md_at G h a c → bk_fr a 13 h0 h → k c p1 p2 = some (c9, r9) → ky_V G (d + 6) M_X12_stuck 62 [(0, .ref a), (1, .int p1), (2, .int p2)] [] h Q) :
    ∀ (n : Nat) (h : ky_HP) (c : (Nat → Nat → Int32)) (p1 : Int32) (p2 : Int32), md_at G h a c → bk_fr a 13 h0 h → md_stuck_L16 N k n c p1 p2 = some (c9, r9) → ky_V G (d + 6) M_X12_stuck 16 [(0, .ref a), (1, .int p1), (2, .int p2)] [] h Q := by
  intro n
  induction n with
  | zero => intro h c p1 p2 hm fr e; cases e
  | succ n ih =>
    intro h c p1 p2 hm fr e
    rw [md_stuck_L16] at e
    refine v_iload_n (i := 11) (j := 2) rfl rfl (?_ : ky_V _ _ _ 17 _ _ _ _)
    refine v_bipush (v := 6) (i := 12) rfl (by decide) (?_ : ky_V _ _ _ 19 _ _ _ _)
    refine v_icmp_ge (tgt := 62) (i := 13) rfl (by decide) (fun c1 => ?_) (fun c1 => ?_)
    · replace e := ky_ifT c1 e
      exact hk h c p1 p2 hm fr e
    · replace e := ky_ifF c1 e
      refine v_aload_n (i := 14) (j := 0) rfl rfl (?_ : ky_V _ _ _ 23 _ _ _ _)
      refine cl_X12_285 (As := []) rfl (i := 15) rfl (md_0 hm) rfl rfl (Nat.le_of_ble_eq_true rfl) (k_X12_looks hm (fun h2 hmh2 frh2 => ⟨_, rfl, (?_ : ky_V _ _ _ 26 _ [] _ _)⟩))
      have frh2 := fr.tr frh2
      obtain ⟨q3, eq3⟩ : ∃ z, z = (md_looks_c c) := ⟨_, rfl⟩
      rw [← eq3] at hmh2
      replace e := ky_letE eq3 e
      refine v_aload_n (i := 16) (j := 0) rfl rfl (?_ : ky_V _ _ _ 27 _ _ _ _)
      refine v_iload_n (i := 17) (j := 2) rfl rfl (?_ : ky_V _ _ _ 28 _ _ _ _)
      refine pf_X12_244 rfl (i := 18) rfl (md_0 hmh2) (Nat.le_of_ble_eq_true rfl) rfl rfl ?_
      refine bk_st (B := md_B G a) hmh2 frh2 0 19 p2 (by decide) (fun h4 hmh4 frh4 => ?_)
      obtain ⟨q5, eq5⟩ : ∃ z, z = (bk_w q3 0 19 p2) := ⟨_, rfl⟩
      rw [← eq5] at hmh4
      replace e := ky_letE eq5 e
      refine (?_ : ky_V _ _ _ 31 _ _ _ _)
      refine v_iload_n (i := 19) (j := 1) rfl rfl (?_ : ky_V _ _ _ 32 _ _ _ _)
      refine v_aload_n (i := 20) (j := 0) rfl rfl (?_ : ky_V _ _ _ 33 _ _ _ _)
      refine gf_X12_48 rfl (i := 21) rfl (md_0 hmh4) rfl (?_ : ky_V _ _ _ 36 _ _ _ _)
      refine v_aload_n (i := 22) (j := 0) rfl rfl (?_ : ky_V _ _ _ 37 _ _ _ _)
      refine cl_X12_302 (As := []) rfl (i := 23) rfl (md_0 hmh4) rfl rfl (Nat.le_of_ble_eq_true rfl) (k_X12_state hmh4 ⟨_, rfl, (?_ : ky_V _ _ _ 40 _ [.int ((md_state_r q5)), .ref ((a + 11)), .int p1] _ _)⟩)
      obtain ⟨z6, e⟩ := ky_chkE e
      refine v_iald (i := 24) rfl (md_11 hmh4) (ky_inb z6) (?_ : ky_V _ _ _ 41 _ (.int (q5 11 (Int32.toNatClampNeg (md_state_r q5))) :: _) _ _)
      refine v_ldcw (v := 1000000) (i := 25) rfl (ky_t8 (i := 116) rfl rfl) (?_ : ky_V _ _ _ 44 _ _ _ _)
      refine v_icmp_lt (tgt := 53) (i := 26) rfl (by decide) (fun c7 => ?_) (fun c7 => ?_)
      · replace e := ky_ifT c7 e
        refine v_iconst (v := 0) (i := 31) rfl (by decide) (?_ : ky_V _ _ _ 54 _ _ _ _)
        refine v_ior (i := 32) rfl (?_ : ky_V _ _ _ 55 _ _ _ _)
        refine v_topi (fun x8 ex8 => ?_)
        replace e := ky_letE ex8 e
        refine v_istore_n (L' := [(0, .ref a), (1, .int x8), (2, .int p2)]) [1, 0, 2] (i := 33) rfl (Nat.le_of_ble_eq_true rfl) rfl (?_ : ky_V _ _ _ 56 _ _ _ _)
        obtain ⟨x9, ex9⟩ : ∃ z : Int32, z = p2 + 1 := ⟨_, rfl⟩
        replace e := ky_letE ex9 e
        refine v_iinc (v := x9) (j := 2) (L' := [(0, .ref a), (1, .int x8), (2, .int x9)]) [1, 2, 0] (i := 34) rfl rfl (by rw [ex9]; rfl) (Nat.le_of_ble_eq_true rfl) rfl (?_ : ky_V _ _ _ 59 _ _ _ _)
        refine v_goto (tgt := 16) (i := 35) rfl (by decide) (?_ : ky_V _ _ _ 16 _ _ _ _)
        exact ih h4 q5 x8 x9 hmh4 frh4 e
      · replace e := ky_ifF c7 e
        refine v_iconst (v := 1) (i := 27) rfl (by decide) (?_ : ky_V _ _ _ 48 _ _ _ _)
        refine v_iload_n (i := 28) (j := 2) rfl rfl (?_ : ky_V _ _ _ 49 _ _ _ _)
        refine v_ishl (i := 29) rfl (?_ : ky_V _ _ _ 50 _ _ _ _)
        refine v_goto (tgt := 54) (i := 30) rfl (by decide) (?_ : ky_V _ _ _ 54 _ _ _ _)
        refine v_ior (i := 32) rfl (?_ : ky_V _ _ _ 55 _ _ _ _)
        refine v_topi (fun x10 ex10 => ?_)
        replace e := ky_letE ex10 e
        refine v_istore_n (L' := [(0, .ref a), (1, .int x10), (2, .int p2)]) [1, 0, 2] (i := 33) rfl (Nat.le_of_ble_eq_true rfl) rfl (?_ : ky_V _ _ _ 56 _ _ _ _)
        obtain ⟨x11, ex11⟩ : ∃ z : Int32, z = p2 + 1 := ⟨_, rfl⟩
        replace e := ky_letE ex11 e
        refine v_iinc (v := x11) (j := 2) (L' := [(0, .ref a), (1, .int x10), (2, .int x11)]) [1, 2, 0] (i := 34) rfl rfl (by rw [ex11]; rfl) (Nat.le_of_ble_eq_true rfl) rfl (?_ : ky_V _ _ _ 59 _ _ _ _)
        refine v_goto (tgt := 16) (i := 35) rfl (by decide) (?_ : ky_V _ _ _ 16 _ _ _ _)
        exact ih h4 q5 x10 x11 hmh4 frh4 e

def md_stuck (N : Nat) (c : (Nat → Nat → Int32))  : Option ((Nat → Nat → Int32) × Int32) := (ky_let (bk_w c 0 0 0) (fun q2 => ((md_soonestBy N q2 127).bind (fun zz => (fun q4 x5 => (md_stuck_L16 N (fun q8 x9 x10 => (some (q8, x9))) N q4 0 0)) zz.1 zz.2))))
set_option maxRecDepth 20000 in
set_option maxHeartbeats 4000000 in
theorem k_X12_stuck {G : ky_GW} {d : Nat} {h : ky_HP} {Q : ky_RS → ky_HP → Prop} {a : Nat} {c c9 : (Nat → Nat → Int32)} {r9 : Int32}  (N : Nat) (hm : md_at G h a c) (e : md_stuck N c = some (c9, r9)) (hr : ∀ h1, md_at G h1 a c9 → bk_fr a 13 h h1 → Q (.inl (some (.int r9))) h1) : ky_Call G (d + 6) M_X12_stuck [.ref a] h Q := by
  refine ky_ofV (by decide +kernel) rfl ok_X12_stuck (Nat.le_of_ble_eq_true rfl) ?_
  have fr : bk_fr a 13 h h := bk_fr.rf
  unfold md_stuck at e
  refine (?_ : ky_V _ _ _ 0 [(0, .ref a)] [] _ _)
  refine v_aload_n (i := 0) (j := 0) rfl rfl (?_ : ky_V _ _ _ 1 _ _ _ _)
  refine v_iconst (v := 0) (i := 1) rfl (by decide) (?_ : ky_V _ _ _ 2 _ _ _ _)
  refine pf_X12_3 rfl (i := 2) rfl (md_0 hm) (Nat.le_of_ble_eq_true rfl) rfl rfl ?_
  refine bk_st (B := md_B G a) hm fr 0 0 0 (by decide) (fun h1 hmh1 frh1 => ?_)
  obtain ⟨q2, eq2⟩ : ∃ z, z = (bk_w c 0 0 0) := ⟨_, rfl⟩
  rw [← eq2] at hmh1
  replace e := ky_letE eq2 e
  refine (?_ : ky_V _ _ _ 5 _ _ _ _)
  refine v_aload_n (i := 3) (j := 0) rfl rfl (?_ : ky_V _ _ _ 6 _ _ _ _)
  refine v_bipush (v := 127) (i := 4) rfl (by decide) (?_ : ky_V _ _ _ 8 _ _ _ _)
  obtain ⟨⟨q4, x5⟩, g6, e⟩ := Option.bind_eq_some_iff.mp e
  refine cl_X12_327 (As := [.int 127]) rfl (i := 5) rfl (md_0 hmh1) rfl rfl (Nat.le_of_ble_eq_true rfl) (k_X12_soonestBy N hmh1 g6 (fun h3 hmh3 frh3 => ⟨_, rfl, (?_ : ky_V _ _ _ 11 _ [.int x5] _ _)⟩))
  have frh3 := frh1.tr frh3
  refine v_pop (i := 6) rfl rfl (?_ : ky_V _ _ _ 12 _ _ _ _)
  refine v_iconst (v := 0) (i := 7) rfl (by decide) (?_ : ky_V _ _ _ 13 _ _ _ _)
  refine v_istore_n (L' := [(0, .ref a), (1, .int 0)]) [1, 0] (i := 8) rfl (Nat.le_of_ble_eq_true rfl) rfl (?_ : ky_V _ _ _ 14 _ _ _ _)
  refine v_iconst (v := 0) (i := 9) rfl (by decide) (?_ : ky_V _ _ _ 15 _ _ _ _)
  refine v_istore_n (L' := [(0, .ref a), (1, .int 0), (2, .int 0)]) [1, 2, 0] (i := 10) rfl (Nat.le_of_ble_eq_true rfl) rfl (?_ : ky_V _ _ _ 16 _ _ _ _)
  refine lv_X12_stuck_16 N _ hr (fun h7 q8 x9 x10 hmh7 frh7 e => ?_) N h3 q4 0 0 hmh3 frh3 e
  refine v_iload_n (i := 36) (j := 1) rfl rfl (?_ : ky_V _ _ _ 63 _ _ _ _)
  refine v_iret (v := x9) (ty := .int) (i := 37) rfl rfl rfl ?_
  obtain ⟨rfl, rfl⟩ := ky_leaf e
  exact hr _ hmh7 frh7

def md_deepest_L16 (N : Nat) (k : (Nat → Nat → Int32) → Int32 → Int32 → Option ((Nat → Nat → Int32) × Int32)) : Nat → (Nat → Nat → Int32) → Int32 → Int32 → Option ((Nat → Nat → Int32) × Int32)
  | 0, _, _, _ => none
  | n + 1, c, p1, p2 => (if (9 : Int32) < p2 then (k c p1 p2) else (ky_let (md_looks_c c) (fun q3 => (ky_let (bk_w q3 9 0 p2) (fun q5 => (ky_let (bk_w q5 9 1 p2) (fun q7 => (if ky_inB (md_state_r q7) 1200 = true then (if (1000000 : Int32) ≤ (q7 11 (Int32.toNatClampNeg (md_state_r q7))) then (ky_let (p2 + 1) (fun x10 => (md_deepest_L16 N k n q7 p1 x10))) else (ky_let (p2 + 1) (fun x11 => (md_deepest_L16 N k n q7 p2 x11)))) else none))))))))
set_option maxRecDepth 20000 in
set_option maxHeartbeats 4000000 in
theorem lv_X12_deepest_16 {G : ky_GW} {d : Nat} {h0 : ky_HP} {Q : ky_RS → ky_HP → Prop} {a : Nat} {c9 : (Nat → Nat → Int32)} {r9 : Int32} (N : Nat) (k : (Nat → Nat → Int32) → Int32 → Int32 → Option ((Nat → Nat → Int32) × Int32)) (hr : ∀ h1, md_at G h1 a c9 → bk_fr a 13 h0 h1 → Q (.inl (some (.int r9))) h1)
    (hk : ∀ (h : ky_HP) (c : (Nat → Nat → Int32)) (p1 : Int32) (p2 : Int32), md_at G h a c → bk_fr a 13 h0 h → k c p1 p2 = some (c9, r9) → ky_V G (d + 6) M_X12_deepest 67 [(0, .ref a), (1, .int p1), (2, .int p2)] [] h Q) :
    ∀ (n : Nat) (h : ky_HP) (c : (Nat → Nat → Int32)) (p1 : Int32) (p2 : Int32), md_at G h a c → bk_fr a 13 h0 h → md_deepest_L16 N k n c p1 p2 = some (c9, r9) → ky_V G (d + 6) M_X12_deepest 16 [(0, .ref a), (1, .int p1), (2, .int p2)] [] h Q := by
  intro n
  induction n with
  | zero => intro h c p1 p2 hm fr e; cases e
  | succ n ih =>
    intro h c p1 p2 hm fr e
    rw [md_deepest_L16] at e
    refine v_iload_n (i := 11) (j := 2) rfl rfl (?_ : ky_V _ _ _ 17 _ _ _ _)
    refine v_bipush (v := 9) (i := 12) rfl (by decide) (?_ : ky_V _ _ _ 19 _ _ _ _)
    refine v_icmp_gt (tgt := 67) (i := 13) rfl (by decide) (fun c1 => ?_) (fun c1 => ?_)
    · replace e := ky_ifT c1 e
      exact hk h c p1 p2 hm fr e
    · replace e := ky_ifF c1 e
      refine v_aload_n (i := 14) (j := 0) rfl rfl (?_ : ky_V _ _ _ 23 _ _ _ _)
      refine cl_X12_285 (As := []) rfl (i := 15) rfl (md_0 hm) rfl rfl (Nat.le_of_ble_eq_true rfl) (k_X12_looks hm (fun h2 hmh2 frh2 => ⟨_, rfl, (?_ : ky_V _ _ _ 26 _ [] _ _)⟩))
      have frh2 := fr.tr frh2
      obtain ⟨q3, eq3⟩ : ∃ z, z = (md_looks_c c) := ⟨_, rfl⟩
      rw [← eq3] at hmh2
      replace e := ky_letE eq3 e
      refine v_aload_n (i := 16) (j := 0) rfl rfl (?_ : ky_V _ _ _ 27 _ _ _ _)
      refine gf_X12_42 rfl (i := 17) rfl (md_0 hmh2) rfl (?_ : ky_V _ _ _ 30 _ _ _ _)
      refine v_iconst (v := 0) (i := 18) rfl (by decide) (?_ : ky_V _ _ _ 31 _ _ _ _)
      refine v_iload_n (i := 19) (j := 2) rfl rfl (?_ : ky_V _ _ _ 32 _ _ _ _)
      refine v_iast (i := 20) rfl (md_9 hmh2) (ky_inl (by decide)) ?_
      refine bk_st (B := md_B G a) hmh2 frh2 9 0 p2 (by decide) (fun h4 hmh4 frh4 => ?_)
      obtain ⟨q5, eq5⟩ : ∃ z, z = (bk_w q3 9 0 p2) := ⟨_, rfl⟩
      rw [← eq5] at hmh4
      replace e := ky_letE eq5 e
      refine (?_ : ky_V _ _ _ 33 _ _ _ _)
      refine v_aload_n (i := 21) (j := 0) rfl rfl (?_ : ky_V _ _ _ 34 _ _ _ _)
      refine gf_X12_42 rfl (i := 22) rfl (md_0 hmh4) rfl (?_ : ky_V _ _ _ 37 _ _ _ _)
      refine v_iconst (v := 1) (i := 23) rfl (by decide) (?_ : ky_V _ _ _ 38 _ _ _ _)
      refine v_iload_n (i := 24) (j := 2) rfl rfl (?_ : ky_V _ _ _ 39 _ _ _ _)
      refine v_iast (i := 25) rfl (md_9 hmh4) (ky_inl (by decide)) ?_
      refine bk_st (B := md_B G a) hmh4 frh4 9 1 p2 (by decide) (fun h6 hmh6 frh6 => ?_)
      obtain ⟨q7, eq7⟩ : ∃ z, z = (bk_w q5 9 1 p2) := ⟨_, rfl⟩
      rw [← eq7] at hmh6
      replace e := ky_letE eq7 e
      refine (?_ : ky_V _ _ _ 40 _ _ _ _)
      refine v_aload_n (i := 26) (j := 0) rfl rfl (?_ : ky_V _ _ _ 41 _ _ _ _)
      refine gf_X12_48 rfl (i := 27) rfl (md_0 hmh6) rfl (?_ : ky_V _ _ _ 44 _ _ _ _)
      refine v_aload_n (i := 28) (j := 0) rfl rfl (?_ : ky_V _ _ _ 45 _ _ _ _)
      refine cl_X12_302 (As := []) rfl (i := 29) rfl (md_0 hmh6) rfl rfl (Nat.le_of_ble_eq_true rfl) (k_X12_state hmh6 ⟨_, rfl, (?_ : ky_V _ _ _ 48 _ [.int ((md_state_r q7)), .ref ((a + 11))] _ _)⟩)
      obtain ⟨z8, e⟩ := ky_chkE e
      refine v_iald (i := 30) rfl (md_11 hmh6) (ky_inb z8) (?_ : ky_V _ _ _ 49 _ (.int (q7 11 (Int32.toNatClampNeg (md_state_r q7))) :: _) _ _)
      refine v_ldcw (v := 1000000) (i := 31) rfl (ky_t8 (i := 116) rfl rfl) (?_ : ky_V _ _ _ 52 _ _ _ _)
      refine v_icmp_ge (tgt := 59) (i := 32) rfl (by decide) (fun c9 => ?_) (fun c9 => ?_)
      · replace e := ky_ifT c9 e
        refine v_iload_n (i := 35) (j := 1) rfl rfl (?_ : ky_V _ _ _ 60 _ _ _ _)
        refine v_istore_n (L' := [(0, .ref a), (1, .int p1), (2, .int p2)]) [1, 0, 2] (i := 36) rfl (Nat.le_of_ble_eq_true rfl) rfl (?_ : ky_V _ _ _ 61 _ _ _ _)
        obtain ⟨x10, ex10⟩ : ∃ z : Int32, z = p2 + 1 := ⟨_, rfl⟩
        replace e := ky_letE ex10 e
        refine v_iinc (v := x10) (j := 2) (L' := [(0, .ref a), (1, .int p1), (2, .int x10)]) [1, 2, 0] (i := 37) rfl rfl (by rw [ex10]; rfl) (Nat.le_of_ble_eq_true rfl) rfl (?_ : ky_V _ _ _ 64 _ _ _ _)
        refine v_goto (tgt := 16) (i := 38) rfl (by decide) (?_ : ky_V _ _ _ 16 _ _ _ _)
        exact ih h6 q7 p1 x10 hmh6 frh6 e
      · replace e := ky_ifF c9 e
        refine v_iload_n (i := 33) (j := 2) rfl rfl (?_ : ky_V _ _ _ 56 _ _ _ _)
        refine v_goto (tgt := 60) (i := 34) rfl (by decide) (?_ : ky_V _ _ _ 60 _ _ _ _)
        refine v_istore_n (L' := [(0, .ref a), (1, .int p2), (2, .int p2)]) [1, 0, 2] (i := 36) rfl (Nat.le_of_ble_eq_true rfl) rfl (?_ : ky_V _ _ _ 61 _ _ _ _)
        obtain ⟨x11, ex11⟩ : ∃ z : Int32, z = p2 + 1 := ⟨_, rfl⟩
        replace e := ky_letE ex11 e
        refine v_iinc (v := x11) (j := 2) (L' := [(0, .ref a), (1, .int p2), (2, .int x11)]) [1, 2, 0] (i := 37) rfl rfl (by rw [ex11]; rfl) (Nat.le_of_ble_eq_true rfl) rfl (?_ : ky_V _ _ _ 64 _ _ _ _)
        refine v_goto (tgt := 16) (i := 38) rfl (by decide) (?_ : ky_V _ _ _ 16 _ _ _ _)
        exact ih h6 q7 p2 x11 hmh6 frh6 e

def md_deepest (N : Nat) (c : (Nat → Nat → Int32))  : Option ((Nat → Nat → Int32) × Int32) := (ky_let (bk_w c 0 0 0) (fun q2 => ((md_soonestBy N q2 127).bind (fun zz => (fun q4 x5 => (md_deepest_L16 N (fun q8 x9 x10 => (some (q8, x9))) N q4 0 1)) zz.1 zz.2))))
set_option maxRecDepth 20000 in
set_option maxHeartbeats 4000000 in
theorem k_X12_deepest {G : ky_GW} {d : Nat} {h : ky_HP} {Q : ky_RS → ky_HP → Prop} {a : Nat} {c c9 : (Nat → Nat → Int32)} {r9 : Int32}  (N : Nat) (hm : md_at G h a c) (e : md_deepest N c = some (c9, r9)) (hr : ∀ h1, md_at G h1 a c9 → bk_fr a 13 h h1 → Q (.inl (some (.int r9))) h1) : ky_Call G (d + 6) M_X12_deepest [.ref a] h Q := by
  refine ky_ofV (by decide +kernel) rfl ok_X12_deepest (Nat.le_of_ble_eq_true rfl) ?_
  have fr : bk_fr a 13 h h := bk_fr.rf
  unfold md_deepest at e
  refine (?_ : ky_V _ _ _ 0 [(0, .ref a)] [] _ _)
  refine v_aload_n (i := 0) (j := 0) rfl rfl (?_ : ky_V _ _ _ 1 _ _ _ _)
  refine v_iconst (v := 0) (i := 1) rfl (by decide) (?_ : ky_V _ _ _ 2 _ _ _ _)
  refine pf_X12_3 rfl (i := 2) rfl (md_0 hm) (Nat.le_of_ble_eq_true rfl) rfl rfl ?_
  refine bk_st (B := md_B G a) hm fr 0 0 0 (by decide) (fun h1 hmh1 frh1 => ?_)
  obtain ⟨q2, eq2⟩ : ∃ z, z = (bk_w c 0 0 0) := ⟨_, rfl⟩
  rw [← eq2] at hmh1
  replace e := ky_letE eq2 e
  refine (?_ : ky_V _ _ _ 5 _ _ _ _)
  refine v_aload_n (i := 3) (j := 0) rfl rfl (?_ : ky_V _ _ _ 6 _ _ _ _)
  refine v_bipush (v := 127) (i := 4) rfl (by decide) (?_ : ky_V _ _ _ 8 _ _ _ _)
  obtain ⟨⟨q4, x5⟩, g6, e⟩ := Option.bind_eq_some_iff.mp e
  refine cl_X12_327 (As := [.int 127]) rfl (i := 5) rfl (md_0 hmh1) rfl rfl (Nat.le_of_ble_eq_true rfl) (k_X12_soonestBy N hmh1 g6 (fun h3 hmh3 frh3 => ⟨_, rfl, (?_ : ky_V _ _ _ 11 _ [.int x5] _ _)⟩))
  have frh3 := frh1.tr frh3
  refine v_pop (i := 6) rfl rfl (?_ : ky_V _ _ _ 12 _ _ _ _)
  refine v_iconst (v := 0) (i := 7) rfl (by decide) (?_ : ky_V _ _ _ 13 _ _ _ _)
  refine v_istore_n (L' := [(0, .ref a), (1, .int 0)]) [1, 0] (i := 8) rfl (Nat.le_of_ble_eq_true rfl) rfl (?_ : ky_V _ _ _ 14 _ _ _ _)
  refine v_iconst (v := 1) (i := 9) rfl (by decide) (?_ : ky_V _ _ _ 15 _ _ _ _)
  refine v_istore_n (L' := [(0, .ref a), (1, .int 0), (2, .int 1)]) [1, 2, 0] (i := 10) rfl (Nat.le_of_ble_eq_true rfl) rfl (?_ : ky_V _ _ _ 16 _ _ _ _)
  refine lv_X12_deepest_16 N _ hr (fun h7 q8 x9 x10 hmh7 frh7 e => ?_) N h3 q4 0 1 hmh3 frh3 e
  refine v_iload_n (i := 39) (j := 1) rfl rfl (?_ : ky_V _ _ _ 68 _ _ _ _)
  refine v_iret (v := x9) (ty := .int) (i := 40) rfl rfl rfl ?_
  obtain ⟨rfl, rfl⟩ := ky_leaf e
  exact hr _ hmh7 frh7

def md_run (N : Nat) (c : (Nat → Nat → Int32)) (p1 : Int32) (p2 : Int32) : Option ((Nat → Nat → Int32) × Int32) := (ky_let (bk_w c 0 0 0) (fun q2 => (if (md_noRun p1 p2) = 0 ∨ (md_noRun p1 p2) = 1 then (ky_let (md_throwsIf_r q2 (md_noRun p1 p2) 1) (fun x6 => (ky_let (md_throwsIf_c q2 (md_noRun p1 p2) 1) (fun q5 => (if x6 = 0 then ((md_runOf N q5 p1 p2).bind (fun zz => (fun q9 x10 => (some (q9, x10))) zz.1 zz.2)) else (some (q5, 0))))))) else none)))
set_option maxRecDepth 20000 in
set_option maxHeartbeats 4000000 in
theorem k_X12_run {G : ky_GW} {d : Nat} {h : ky_HP} {Q : ky_RS → ky_HP → Prop} {a : Nat} {c c9 : (Nat → Nat → Int32)} {r9 : Int32} {p1 : Int32} {p2 : Int32} (N : Nat) (hm : md_at G h a c) (e : md_run N c p1 p2 = some (c9, r9)) (hr : ∀ h1, md_at G h1 a c9 → bk_fr a 13 h h1 → Q (.inl (some (.int r9))) h1) : ky_Call G (d + 5) M_X12_run [.ref a, .int p1, .int p2] h Q := by
  refine ky_ofV (by decide +kernel) rfl ok_X12_run (Nat.le_of_ble_eq_true rfl) ?_
  have fr : bk_fr a 13 h h := bk_fr.rf
  unfold md_run at e
  refine (?_ : ky_V _ _ _ 0 [(0, .ref a), (1, .int p1), (2, .int p2)] [] _ _)
  refine v_aload_n (i := 0) (j := 0) rfl rfl (?_ : ky_V _ _ _ 1 _ _ _ _)
  refine v_iconst (v := 0) (i := 1) rfl (by decide) (?_ : ky_V _ _ _ 2 _ _ _ _)
  refine pf_X12_3 rfl (i := 2) rfl (md_0 hm) (Nat.le_of_ble_eq_true rfl) rfl rfl ?_
  refine bk_st (B := md_B G a) hm fr 0 0 0 (by decide) (fun h1 hmh1 frh1 => ?_)
  obtain ⟨q2, eq2⟩ : ∃ z, z = (bk_w c 0 0 0) := ⟨_, rfl⟩
  rw [← eq2] at hmh1
  replace e := ky_letE eq2 e
  refine (?_ : ky_V _ _ _ 5 _ _ _ _)
  refine v_aload_n (i := 3) (j := 0) rfl rfl (?_ : ky_V _ _ _ 6 _ _ _ _)
  refine v_iload_n (i := 4) (j := 1) rfl rfl (?_ : ky_V _ _ _ 7 _ _ _ _)
  refine v_iload_n (i := 5) (j := 2) rfl rfl (?_ : ky_V _ _ _ 8 _ _ _ _)
  refine cl_X12_348 (As := [.int p1, .int p2]) rfl (i := 6) rfl rfl rfl (Nat.le_of_ble_eq_true rfl) (k_X12_noRun p1 p2 ⟨_, rfl, (?_ : ky_V _ _ _ 11 _ [.int ((md_noRun p1 p2)), .ref a] _ _)⟩)
  refine v_iconst (v := 1) (i := 7) rfl (by decide) (?_ : ky_V _ _ _ 12 _ _ _ _)
  obtain ⟨z3, e⟩ := ky_chkE e
  refine cl_X12_241 (As := [.int ((md_noRun p1 p2)), .int 1]) rfl (i := 8) rfl (md_0 hmh1) rfl rfl (Nat.le_of_ble_eq_true rfl) (k_X12_throwsIf (md_noRun p1 p2) 1 hmh1 z3 (fun h4 hmh4 frh4 => ⟨_, rfl, (?_ : ky_V _ _ _ 15 _ [.int ((md_throwsIf_r q2 (md_noRun p1 p2) 1))] _ _)⟩))
  have frh4 := frh1.tr frh4
  refine v_topi (fun x6 ex6 => ?_)
  replace e := ky_letE ex6 e
  obtain ⟨q5, eq5⟩ : ∃ z, z = (md_throwsIf_c q2 (md_noRun p1 p2) 1) := ⟨_, rfl⟩
  rw [← eq5] at hmh4
  replace e := ky_letE eq5 e
  refine v_if_eq (tgt := 22) (i := 9) rfl (by decide) (fun c7 => ?_) (fun c7 => ?_)
  · replace e := ky_ifT c7 e
    refine v_aload_n (i := 12) (j := 0) rfl rfl (?_ : ky_V _ _ _ 23 _ _ _ _)
    refine v_iload_n (i := 13) (j := 1) rfl rfl (?_ : ky_V _ _ _ 24 _ _ _ _)
    refine v_iload_n (i := 14) (j := 2) rfl rfl (?_ : ky_V _ _ _ 25 _ _ _ _)
    obtain ⟨⟨q9, x10⟩, g11, e⟩ := Option.bind_eq_some_iff.mp e
    refine cl_X12_351 (As := [.int p1, .int p2]) rfl (i := 15) rfl (md_0 hmh4) rfl rfl (Nat.le_of_ble_eq_true rfl) (k_X12_runOf N hmh4 g11 (fun h8 hmh8 frh8 => ⟨_, rfl, (?_ : ky_V _ _ _ 28 _ [.int x10] _ _)⟩))
    have frh8 := frh4.tr frh8
    refine v_iret (v := x10) (ty := .int) (i := 16) rfl rfl rfl ?_
    obtain ⟨rfl, rfl⟩ := ky_leaf e
    exact hr _ hmh8 frh8
  · replace e := ky_ifF c7 e
    refine v_iconst (v := 0) (i := 10) rfl (by decide) (?_ : ky_V _ _ _ 19 _ _ _ _)
    refine v_goto (tgt := 28) (i := 11) rfl (by decide) (?_ : ky_V _ _ _ 28 _ _ _ _)
    refine v_iret (v := 0) (ty := .int) (i := 16) rfl rfl rfl ?_
    obtain ⟨rfl, rfl⟩ := ky_leaf e
    exact hr _ hmh4 frh4

def md_better (N : Nat) (c : (Nat → Nat → Int32)) (p1 : Int32) (p2 : Int32) : Option ((Nat → Nat → Int32) × Int32) := (ky_let (bk_w c 0 0 0) (fun q2 => (if (md_noRun p1 p2) = 0 ∨ (md_noRun p1 p2) = 1 then (ky_let (md_throwsIf_r q2 (md_noRun p1 p2) 1) (fun x6 => (ky_let (md_throwsIf_c q2 (md_noRun p1 p2) 1) (fun q5 => (if x6 = 0 then ((md_runOf N q5 p1 p2).bind (fun zz => (fun q9 x10 => (if x10 < 0 then (some (q9, 0)) else ((md_soonestBy N q9 127).bind (fun zz => (fun q14 x15 => (if ((q9 1 7) + x15) ≤ x10 then (some (q14, 0)) else (some (q14, 1)))) zz.1 zz.2)))) zz.1 zz.2)) else (some (q5, 0))))))) else none)))
set_option maxRecDepth 20000 in
set_option maxHeartbeats 4000000 in
theorem k_X12_better {G : ky_GW} {d : Nat} {h : ky_HP} {Q : ky_RS → ky_HP → Prop} {a : Nat} {c c9 : (Nat → Nat → Int32)} {r9 : Int32} {p1 : Int32} {p2 : Int32} (N : Nat) (hm : md_at G h a c) (e : md_better N c p1 p2 = some (c9, r9)) (hr : ∀ h1, md_at G h1 a c9 → bk_fr a 13 h h1 → Q (.inl (some (.int r9))) h1) : ky_Call G (d + 6) M_X12_better [.ref a, .int p1, .int p2] h Q := by
  refine ky_ofV (by decide +kernel) rfl ok_X12_better (Nat.le_of_ble_eq_true rfl) ?_
  have fr : bk_fr a 13 h h := bk_fr.rf
  unfold md_better at e
  refine (?_ : ky_V _ _ _ 0 [(0, .ref a), (1, .int p1), (2, .int p2)] [] _ _)
  refine v_aload_n (i := 0) (j := 0) rfl rfl (?_ : ky_V _ _ _ 1 _ _ _ _)
  refine v_iconst (v := 0) (i := 1) rfl (by decide) (?_ : ky_V _ _ _ 2 _ _ _ _)
  refine pf_X12_3 rfl (i := 2) rfl (md_0 hm) (Nat.le_of_ble_eq_true rfl) rfl rfl ?_
  refine bk_st (B := md_B G a) hm fr 0 0 0 (by decide) (fun h1 hmh1 frh1 => ?_)
  obtain ⟨q2, eq2⟩ : ∃ z, z = (bk_w c 0 0 0) := ⟨_, rfl⟩
  rw [← eq2] at hmh1
  replace e := ky_letE eq2 e
  refine (?_ : ky_V _ _ _ 5 _ _ _ _)
  refine v_aload_n (i := 3) (j := 0) rfl rfl (?_ : ky_V _ _ _ 6 _ _ _ _)
  refine v_iload_n (i := 4) (j := 1) rfl rfl (?_ : ky_V _ _ _ 7 _ _ _ _)
  refine v_iload_n (i := 5) (j := 2) rfl rfl (?_ : ky_V _ _ _ 8 _ _ _ _)
  refine cl_X12_348 (As := [.int p1, .int p2]) rfl (i := 6) rfl rfl rfl (Nat.le_of_ble_eq_true rfl) (k_X12_noRun p1 p2 ⟨_, rfl, (?_ : ky_V _ _ _ 11 _ [.int ((md_noRun p1 p2)), .ref a] _ _)⟩)
  refine v_iconst (v := 1) (i := 7) rfl (by decide) (?_ : ky_V _ _ _ 12 _ _ _ _)
  obtain ⟨z3, e⟩ := ky_chkE e
  refine cl_X12_241 (As := [.int ((md_noRun p1 p2)), .int 1]) rfl (i := 8) rfl (md_0 hmh1) rfl rfl (Nat.le_of_ble_eq_true rfl) (k_X12_throwsIf (md_noRun p1 p2) 1 hmh1 z3 (fun h4 hmh4 frh4 => ⟨_, rfl, (?_ : ky_V _ _ _ 15 _ [.int ((md_throwsIf_r q2 (md_noRun p1 p2) 1))] _ _)⟩))
  have frh4 := frh1.tr frh4
  refine v_topi (fun x6 ex6 => ?_)
  replace e := ky_letE ex6 e
  obtain ⟨q5, eq5⟩ : ∃ z, z = (md_throwsIf_c q2 (md_noRun p1 p2) 1) := ⟨_, rfl⟩
  rw [← eq5] at hmh4
  replace e := ky_letE eq5 e
  refine v_if_eq (tgt := 20) (i := 9) rfl (by decide) (fun c7 => ?_) (fun c7 => ?_)
  · replace e := ky_ifT c7 e
    refine v_aload_n (i := 12) (j := 0) rfl rfl (?_ : ky_V _ _ _ 21 _ _ _ _)
    refine v_iload_n (i := 13) (j := 1) rfl rfl (?_ : ky_V _ _ _ 22 _ _ _ _)
    refine v_iload_n (i := 14) (j := 2) rfl rfl (?_ : ky_V _ _ _ 23 _ _ _ _)
    obtain ⟨⟨q9, x10⟩, g11, e⟩ := Option.bind_eq_some_iff.mp e
    refine cl_X12_351 (As := [.int p1, .int p2]) rfl (i := 15) rfl (md_0 hmh4) rfl rfl (Nat.le_of_ble_eq_true rfl) (k_X12_runOf N hmh4 g11 (fun h8 hmh8 frh8 => ⟨_, rfl, (?_ : ky_V _ _ _ 26 _ [.int x10] _ _)⟩))
    have frh8 := frh4.tr frh8
    refine v_istore_n (L' := [(0, .ref a), (1, .int p1), (2, .int p2), (3, .int x10)]) [1, 2, 3, 0] (i := 16) rfl (Nat.le_of_ble_eq_true rfl) rfl (?_ : ky_V _ _ _ 27 _ _ _ _)
    refine v_iload_n (i := 17) (j := 3) rfl rfl (?_ : ky_V _ _ _ 28 _ _ _ _)
    refine v_if_lt (tgt := 53) (i := 18) rfl (by decide) (fun c12 => ?_) (fun c12 => ?_)
    · replace e := ky_ifT c12 e
      refine v_iconst (v := 0) (i := 31) rfl (by decide) (?_ : ky_V _ _ _ 54 _ _ _ _)
      refine v_iret (v := 0) (ty := .boolean) (i := 32) rfl rfl (by decide) ?_
      obtain ⟨rfl, rfl⟩ := ky_leaf e
      exact hr _ hmh8 frh8
    · replace e := ky_ifF c12 e
      refine v_iload_n (i := 19) (j := 3) rfl rfl (?_ : ky_V _ _ _ 32 _ _ _ _)
      refine v_aload_n (i := 20) (j := 0) rfl rfl (?_ : ky_V _ _ _ 33 _ _ _ _)
      refine gf_X12_13 rfl (i := 21) rfl (md_0 hmh8) rfl (?_ : ky_V _ _ _ 36 _ _ _ _)
      refine v_bipush (v := 7) (i := 22) rfl (by decide) (?_ : ky_V _ _ _ 38 _ _ _ _)
      refine v_iald (i := 23) rfl (md_1 hmh8) (ky_inl (by decide)) (?_ : ky_V _ _ _ 39 _ (.int (q9 1 7) :: _) _ _)
      refine v_aload_n (i := 24) (j := 0) rfl rfl (?_ : ky_V _ _ _ 40 _ _ _ _)
      refine v_bipush (v := 127) (i := 25) rfl (by decide) (?_ : ky_V _ _ _ 42 _ _ _ _)
      obtain ⟨⟨q14, x15⟩, g16, e⟩ := Option.bind_eq_some_iff.mp e
      refine cl_X12_327 (As := [.int 127]) rfl (i := 26) rfl (md_0 hmh8) rfl rfl (Nat.le_of_ble_eq_true rfl) (k_X12_soonestBy N hmh8 g16 (fun h13 hmh13 frh13 => ⟨_, rfl, (?_ : ky_V _ _ _ 45 _ [.int x15, .int ((q9 1 7)), .int x10] _ _)⟩))
      have frh13 := frh8.tr frh13
      refine v_iadd (i := 27) rfl (?_ : ky_V _ _ _ 46 _ _ _ _)
      refine v_icmp_ge (tgt := 53) (i := 28) rfl (by decide) (fun c17 => ?_) (fun c17 => ?_)
      · replace e := ky_ifT c17 e
        refine v_iconst (v := 0) (i := 31) rfl (by decide) (?_ : ky_V _ _ _ 54 _ _ _ _)
        refine v_iret (v := 0) (ty := .boolean) (i := 32) rfl rfl (by decide) ?_
        obtain ⟨rfl, rfl⟩ := ky_leaf e
        exact hr _ hmh13 frh13
      · replace e := ky_ifF c17 e
        refine v_iconst (v := 1) (i := 29) rfl (by decide) (?_ : ky_V _ _ _ 50 _ _ _ _)
        refine v_goto (tgt := 54) (i := 30) rfl (by decide) (?_ : ky_V _ _ _ 54 _ _ _ _)
        refine v_iret (v := 1) (ty := .boolean) (i := 32) rfl rfl (by decide) ?_
        obtain ⟨rfl, rfl⟩ := ky_leaf e
        exact hr _ hmh13 frh13
  · replace e := ky_ifF c7 e
    refine v_iconst (v := 0) (i := 10) rfl (by decide) (?_ : ky_V _ _ _ 19 _ _ _ _)
    refine v_iret (v := 0) (ty := .boolean) (i := 11) rfl rfl (by decide) ?_
    obtain ⟨rfl, rfl⟩ := ky_leaf e
    exact hr _ hmh4 frh4

def md_moved (N : Nat) (c : (Nat → Nat → Int32)) (p1 : Int32) (p2 : Int32) : Option ((Nat → Nat → Int32) × Int32) := (ky_let (bk_w c 0 0 0) (fun q2 => (if (md_noMove p1) = 0 then (if (md_noLeg p2) = 0 then (ky_let (md_throwsIf_r q2 0 1) (fun x24 => (ky_let (md_throwsIf_c q2 0 1) (fun q23 => (if x24 = 0 then (if (md_isOver_r q23) = 0 ∨ (md_isOver_r q23) = 1 then (ky_let (md_throwsIf_r q23 (md_isOver_r q23) 2) (fun x29 => (ky_let (md_throwsIf_c q23 (md_isOver_r q23) 2) (fun q28 => (if x29 = 0 then ((md_remembers N q28).bind (fun zz => (fun q32 x33 => ((md_makes N q32 p1 p2).bind (fun zz => (fun q36 x37 => (some (q36, ((q36 1 0) + (q36 1 1))))) zz.1 zz.2))) zz.1 zz.2)) else (some (q28, 0))))))) else none) else (some (q23, 0))))))) else (ky_let (md_throwsIf_r q2 1 1) (fun x41 => (ky_let (md_throwsIf_c q2 1 1) (fun q40 => (if x41 = 0 then (if (md_isOver_r q40) = 0 ∨ (md_isOver_r q40) = 1 then (ky_let (md_throwsIf_r q40 (md_isOver_r q40) 2) (fun x46 => (ky_let (md_throwsIf_c q40 (md_isOver_r q40) 2) (fun q45 => (if x46 = 0 then ((md_remembers N q45).bind (fun zz => (fun q49 x50 => ((md_makes N q49 p1 p2).bind (fun zz => (fun q53 x54 => (some (q53, ((q53 1 0) + (q53 1 1))))) zz.1 zz.2))) zz.1 zz.2)) else (some (q45, 0))))))) else none) else (some (q40, 0)))))))) else (ky_let (md_throwsIf_r q2 1 1) (fun x6 => (ky_let (md_throwsIf_c q2 1 1) (fun q5 => (if x6 = 0 then (if (md_isOver_r q5) = 0 ∨ (md_isOver_r q5) = 1 then (ky_let (md_throwsIf_r q5 (md_isOver_r q5) 2) (fun x11 => (ky_let (md_throwsIf_c q5 (md_isOver_r q5) 2) (fun q10 => (if x11 = 0 then ((md_remembers N q10).bind (fun zz => (fun q14 x15 => ((md_makes N q14 p1 p2).bind (fun zz => (fun q18 x19 => (some (q18, ((q18 1 0) + (q18 1 1))))) zz.1 zz.2))) zz.1 zz.2)) else (some (q10, 0))))))) else none) else (some (q5, 0))))))))))
set_option maxRecDepth 20000 in
set_option maxHeartbeats 4000000 in
theorem k_X12_moved {G : ky_GW} {d : Nat} {h : ky_HP} {Q : ky_RS → ky_HP → Prop} {a : Nat} {c c9 : (Nat → Nat → Int32)} {r9 : Int32} {p1 : Int32} {p2 : Int32} (N : Nat) (hm : md_at G h a c) (e : md_moved N c p1 p2 = some (c9, r9)) (hr : ∀ h1, md_at G h1 a c9 → bk_fr a 13 h h1 → Q (.inl (some (.int r9))) h1) : ky_Call G (d + 5) M_X12_moved [.ref a, .int p1, .int p2] h Q := by
  refine ky_ofV (by decide +kernel) rfl ok_X12_moved (Nat.le_of_ble_eq_true rfl) ?_
  have fr : bk_fr a 13 h h := bk_fr.rf
  unfold md_moved at e
  refine (?_ : ky_V _ _ _ 0 [(0, .ref a), (1, .int p1), (2, .int p2)] [] _ _)
  refine v_aload_n (i := 0) (j := 0) rfl rfl (?_ : ky_V _ _ _ 1 _ _ _ _)
  refine v_iconst (v := 0) (i := 1) rfl (by decide) (?_ : ky_V _ _ _ 2 _ _ _ _)
  refine pf_X12_3 rfl (i := 2) rfl (md_0 hm) (Nat.le_of_ble_eq_true rfl) rfl rfl ?_
  refine bk_st (B := md_B G a) hm fr 0 0 0 (by decide) (fun h1 hmh1 frh1 => ?_)
  obtain ⟨q2, eq2⟩ : ∃ z, z = (bk_w c 0 0 0) := ⟨_, rfl⟩
  rw [← eq2] at hmh1
  replace e := ky_letE eq2 e
  refine (?_ : ky_V _ _ _ 5 _ _ _ _)
  refine v_aload_n (i := 3) (j := 0) rfl rfl (?_ : ky_V _ _ _ 6 _ _ _ _)
  refine v_iload_n (i := 4) (j := 1) rfl rfl (?_ : ky_V _ _ _ 7 _ _ _ _)
  refine cl_X12_279 (As := [.int p1]) rfl (i := 5) rfl rfl rfl (Nat.le_of_ble_eq_true rfl) (k_X12_noMove p1 ⟨_, rfl, (?_ : ky_V _ _ _ 10 _ [.int ((md_noMove p1)), .ref a] _ _)⟩)
  refine v_if_ne (tgt := 20) (i := 6) rfl (by decide) (fun c3 => ?_) (fun c3 => ?_)
  · replace e := ky_ifF c3 e
    refine v_iconst (v := 1) (i := 10) rfl (by decide) (?_ : ky_V _ _ _ 21 _ _ _ _)
    refine v_goto (tgt := 25) (i := 11) rfl (by decide) (?_ : ky_V _ _ _ 25 _ _ _ _)
    refine v_iconst (v := 1) (i := 13) rfl (by decide) (?_ : ky_V _ _ _ 26 _ _ _ _)
    refine cl_X12_241 (As := [.int 1, .int 1]) rfl (i := 14) rfl (md_0 hmh1) rfl rfl (Nat.le_of_ble_eq_true rfl) (k_X12_throwsIf 1 1 hmh1 (by decide) (fun h4 hmh4 frh4 => ⟨_, rfl, (?_ : ky_V _ _ _ 29 _ [.int ((md_throwsIf_r q2 1 1))] _ _)⟩))
    have frh4 := frh1.tr frh4
    refine v_topi (fun x6 ex6 => ?_)
    replace e := ky_letE ex6 e
    obtain ⟨q5, eq5⟩ : ∃ z, z = (md_throwsIf_c q2 1 1) := ⟨_, rfl⟩
    rw [← eq5] at hmh4
    replace e := ky_letE eq5 e
    refine v_if_ne (tgt := 44) (i := 15) rfl (by decide) (fun c7 => ?_) (fun c7 => ?_)
    · replace e := ky_ifF c7 e
      refine v_iconst (v := 0) (i := 22) rfl (by decide) (?_ : ky_V _ _ _ 45 _ _ _ _)
      refine v_iret (v := 0) (ty := .int) (i := 23) rfl rfl rfl ?_
      obtain ⟨rfl, rfl⟩ := ky_leaf e
      exact hr _ hmh4 frh4
    · replace e := ky_ifT c7 e
      refine v_aload_n (i := 16) (j := 0) rfl rfl (?_ : ky_V _ _ _ 33 _ _ _ _)
      refine v_aload_n (i := 17) (j := 0) rfl rfl (?_ : ky_V _ _ _ 34 _ _ _ _)
      refine cl_X12_370 (As := []) rfl (i := 18) rfl (md_0 hmh4) rfl rfl (Nat.le_of_ble_eq_true rfl) (k_X12_isOver hmh4 ⟨_, rfl, (?_ : ky_V _ _ _ 37 _ [.int ((md_isOver_r q5)), .ref a] _ _)⟩)
      refine v_iconst (v := 2) (i := 19) rfl (by decide) (?_ : ky_V _ _ _ 38 _ _ _ _)
      obtain ⟨z8, e⟩ := ky_chkE e
      refine cl_X12_241 (As := [.int ((md_isOver_r q5)), .int 2]) rfl (i := 20) rfl (md_0 hmh4) rfl rfl (Nat.le_of_ble_eq_true rfl) (k_X12_throwsIf (md_isOver_r q5) 2 hmh4 z8 (fun h9 hmh9 frh9 => ⟨_, rfl, (?_ : ky_V _ _ _ 41 _ [.int ((md_throwsIf_r q5 (md_isOver_r q5) 2))] _ _)⟩))
      have frh9 := frh4.tr frh9
      refine v_topi (fun x11 ex11 => ?_)
      replace e := ky_letE ex11 e
      obtain ⟨q10, eq10⟩ : ∃ z, z = (md_throwsIf_c q5 (md_isOver_r q5) 2) := ⟨_, rfl⟩
      rw [← eq10] at hmh9
      replace e := ky_letE eq10 e
      refine v_if_eq (tgt := 46) (i := 21) rfl (by decide) (fun c12 => ?_) (fun c12 => ?_)
      · replace e := ky_ifT c12 e
        refine v_aload_n (i := 24) (j := 0) rfl rfl (?_ : ky_V _ _ _ 47 _ _ _ _)
        obtain ⟨⟨q14, x15⟩, g16, e⟩ := Option.bind_eq_some_iff.mp e
        refine cl_X12_373 (As := []) rfl (i := 25) rfl (md_0 hmh9) rfl rfl (Nat.le_of_ble_eq_true rfl) (k_X12_remembers N hmh9 g16 (fun h13 hmh13 frh13 => ⟨_, rfl, (?_ : ky_V _ _ _ 50 _ [] _ _)⟩))
        have frh13 := frh9.tr frh13
        refine v_aload_n (i := 26) (j := 0) rfl rfl (?_ : ky_V _ _ _ 51 _ _ _ _)
        refine v_iload_n (i := 27) (j := 1) rfl rfl (?_ : ky_V _ _ _ 52 _ _ _ _)
        refine v_iload_n (i := 28) (j := 2) rfl rfl (?_ : ky_V _ _ _ 53 _ _ _ _)
        obtain ⟨⟨q18, x19⟩, g20, e⟩ := Option.bind_eq_some_iff.mp e
        refine cl_X12_376 (As := [.int p1, .int p2]) rfl (i := 29) rfl (md_0 hmh13) rfl rfl (Nat.le_of_ble_eq_true rfl) (k_X12_makes N hmh13 g20 (fun h17 hmh17 frh17 => ⟨_, rfl, (?_ : ky_V _ _ _ 56 _ [] _ _)⟩))
        have frh17 := frh13.tr frh17
        refine v_aload_n (i := 30) (j := 0) rfl rfl (?_ : ky_V _ _ _ 57 _ _ _ _)
        refine gf_X12_13 rfl (i := 31) rfl (md_0 hmh17) rfl (?_ : ky_V _ _ _ 60 _ _ _ _)
        refine v_iconst (v := 0) (i := 32) rfl (by decide) (?_ : ky_V _ _ _ 61 _ _ _ _)
        refine v_iald (i := 33) rfl (md_1 hmh17) (ky_inl (by decide)) (?_ : ky_V _ _ _ 62 _ (.int (q18 1 0) :: _) _ _)
        refine v_aload_n (i := 34) (j := 0) rfl rfl (?_ : ky_V _ _ _ 63 _ _ _ _)
        refine gf_X12_13 rfl (i := 35) rfl (md_0 hmh17) rfl (?_ : ky_V _ _ _ 66 _ _ _ _)
        refine v_iconst (v := 1) (i := 36) rfl (by decide) (?_ : ky_V _ _ _ 67 _ _ _ _)
        refine v_iald (i := 37) rfl (md_1 hmh17) (ky_inl (by decide)) (?_ : ky_V _ _ _ 68 _ (.int (q18 1 1) :: _) _ _)
        refine v_iadd (i := 38) rfl (?_ : ky_V _ _ _ 69 _ _ _ _)
        refine v_iret (v := ((q18 1 0) + (q18 1 1))) (ty := .int) (i := 39) rfl rfl rfl ?_
        obtain ⟨rfl, rfl⟩ := ky_leaf e
        exact hr _ hmh17 frh17
      · replace e := ky_ifF c12 e
        refine v_iconst (v := 0) (i := 22) rfl (by decide) (?_ : ky_V _ _ _ 45 _ _ _ _)
        refine v_iret (v := 0) (ty := .int) (i := 23) rfl rfl rfl ?_
        obtain ⟨rfl, rfl⟩ := ky_leaf e
        exact hr _ hmh9 frh9
  · replace e := ky_ifT c3 e
    refine v_iload_n (i := 7) (j := 2) rfl rfl (?_ : ky_V _ _ _ 14 _ _ _ _)
    refine cl_X12_282 (As := [.int p2]) rfl (i := 8) rfl rfl rfl (Nat.le_of_ble_eq_true rfl) (k_X12_noLeg p2 ⟨_, rfl, (?_ : ky_V _ _ _ 17 _ [.int ((md_noLeg p2)), .ref a] _ _)⟩)
    refine v_if_eq (tgt := 24) (i := 9) rfl (by decide) (fun c21 => ?_) (fun c21 => ?_)
    · replace e := ky_ifT c21 e
      refine v_iconst (v := 0) (i := 12) rfl (by decide) (?_ : ky_V _ _ _ 25 _ _ _ _)
      refine v_iconst (v := 1) (i := 13) rfl (by decide) (?_ : ky_V _ _ _ 26 _ _ _ _)
      refine cl_X12_241 (As := [.int 0, .int 1]) rfl (i := 14) rfl (md_0 hmh1) rfl rfl (Nat.le_of_ble_eq_true rfl) (k_X12_throwsIf 0 1 hmh1 (by decide) (fun h22 hmh22 frh22 => ⟨_, rfl, (?_ : ky_V _ _ _ 29 _ [.int ((md_throwsIf_r q2 0 1))] _ _)⟩))
      have frh22 := frh1.tr frh22
      refine v_topi (fun x24 ex24 => ?_)
      replace e := ky_letE ex24 e
      obtain ⟨q23, eq23⟩ : ∃ z, z = (md_throwsIf_c q2 0 1) := ⟨_, rfl⟩
      rw [← eq23] at hmh22
      replace e := ky_letE eq23 e
      refine v_if_ne (tgt := 44) (i := 15) rfl (by decide) (fun c25 => ?_) (fun c25 => ?_)
      · replace e := ky_ifF c25 e
        refine v_iconst (v := 0) (i := 22) rfl (by decide) (?_ : ky_V _ _ _ 45 _ _ _ _)
        refine v_iret (v := 0) (ty := .int) (i := 23) rfl rfl rfl ?_
        obtain ⟨rfl, rfl⟩ := ky_leaf e
        exact hr _ hmh22 frh22
      · replace e := ky_ifT c25 e
        refine v_aload_n (i := 16) (j := 0) rfl rfl (?_ : ky_V _ _ _ 33 _ _ _ _)
        refine v_aload_n (i := 17) (j := 0) rfl rfl (?_ : ky_V _ _ _ 34 _ _ _ _)
        refine cl_X12_370 (As := []) rfl (i := 18) rfl (md_0 hmh22) rfl rfl (Nat.le_of_ble_eq_true rfl) (k_X12_isOver hmh22 ⟨_, rfl, (?_ : ky_V _ _ _ 37 _ [.int ((md_isOver_r q23)), .ref a] _ _)⟩)
        refine v_iconst (v := 2) (i := 19) rfl (by decide) (?_ : ky_V _ _ _ 38 _ _ _ _)
        obtain ⟨z26, e⟩ := ky_chkE e
        refine cl_X12_241 (As := [.int ((md_isOver_r q23)), .int 2]) rfl (i := 20) rfl (md_0 hmh22) rfl rfl (Nat.le_of_ble_eq_true rfl) (k_X12_throwsIf (md_isOver_r q23) 2 hmh22 z26 (fun h27 hmh27 frh27 => ⟨_, rfl, (?_ : ky_V _ _ _ 41 _ [.int ((md_throwsIf_r q23 (md_isOver_r q23) 2))] _ _)⟩))
        have frh27 := frh22.tr frh27
        refine v_topi (fun x29 ex29 => ?_)
        replace e := ky_letE ex29 e
        obtain ⟨q28, eq28⟩ : ∃ z, z = (md_throwsIf_c q23 (md_isOver_r q23) 2) := ⟨_, rfl⟩
        rw [← eq28] at hmh27
        replace e := ky_letE eq28 e
        refine v_if_eq (tgt := 46) (i := 21) rfl (by decide) (fun c30 => ?_) (fun c30 => ?_)
        · replace e := ky_ifT c30 e
          refine v_aload_n (i := 24) (j := 0) rfl rfl (?_ : ky_V _ _ _ 47 _ _ _ _)
          obtain ⟨⟨q32, x33⟩, g34, e⟩ := Option.bind_eq_some_iff.mp e
          refine cl_X12_373 (As := []) rfl (i := 25) rfl (md_0 hmh27) rfl rfl (Nat.le_of_ble_eq_true rfl) (k_X12_remembers N hmh27 g34 (fun h31 hmh31 frh31 => ⟨_, rfl, (?_ : ky_V _ _ _ 50 _ [] _ _)⟩))
          have frh31 := frh27.tr frh31
          refine v_aload_n (i := 26) (j := 0) rfl rfl (?_ : ky_V _ _ _ 51 _ _ _ _)
          refine v_iload_n (i := 27) (j := 1) rfl rfl (?_ : ky_V _ _ _ 52 _ _ _ _)
          refine v_iload_n (i := 28) (j := 2) rfl rfl (?_ : ky_V _ _ _ 53 _ _ _ _)
          obtain ⟨⟨q36, x37⟩, g38, e⟩ := Option.bind_eq_some_iff.mp e
          refine cl_X12_376 (As := [.int p1, .int p2]) rfl (i := 29) rfl (md_0 hmh31) rfl rfl (Nat.le_of_ble_eq_true rfl) (k_X12_makes N hmh31 g38 (fun h35 hmh35 frh35 => ⟨_, rfl, (?_ : ky_V _ _ _ 56 _ [] _ _)⟩))
          have frh35 := frh31.tr frh35
          refine v_aload_n (i := 30) (j := 0) rfl rfl (?_ : ky_V _ _ _ 57 _ _ _ _)
          refine gf_X12_13 rfl (i := 31) rfl (md_0 hmh35) rfl (?_ : ky_V _ _ _ 60 _ _ _ _)
          refine v_iconst (v := 0) (i := 32) rfl (by decide) (?_ : ky_V _ _ _ 61 _ _ _ _)
          refine v_iald (i := 33) rfl (md_1 hmh35) (ky_inl (by decide)) (?_ : ky_V _ _ _ 62 _ (.int (q36 1 0) :: _) _ _)
          refine v_aload_n (i := 34) (j := 0) rfl rfl (?_ : ky_V _ _ _ 63 _ _ _ _)
          refine gf_X12_13 rfl (i := 35) rfl (md_0 hmh35) rfl (?_ : ky_V _ _ _ 66 _ _ _ _)
          refine v_iconst (v := 1) (i := 36) rfl (by decide) (?_ : ky_V _ _ _ 67 _ _ _ _)
          refine v_iald (i := 37) rfl (md_1 hmh35) (ky_inl (by decide)) (?_ : ky_V _ _ _ 68 _ (.int (q36 1 1) :: _) _ _)
          refine v_iadd (i := 38) rfl (?_ : ky_V _ _ _ 69 _ _ _ _)
          refine v_iret (v := ((q36 1 0) + (q36 1 1))) (ty := .int) (i := 39) rfl rfl rfl ?_
          obtain ⟨rfl, rfl⟩ := ky_leaf e
          exact hr _ hmh35 frh35
        · replace e := ky_ifF c30 e
          refine v_iconst (v := 0) (i := 22) rfl (by decide) (?_ : ky_V _ _ _ 45 _ _ _ _)
          refine v_iret (v := 0) (ty := .int) (i := 23) rfl rfl rfl ?_
          obtain ⟨rfl, rfl⟩ := ky_leaf e
          exact hr _ hmh27 frh27
    · replace e := ky_ifF c21 e
      refine v_iconst (v := 1) (i := 10) rfl (by decide) (?_ : ky_V _ _ _ 21 _ _ _ _)
      refine v_goto (tgt := 25) (i := 11) rfl (by decide) (?_ : ky_V _ _ _ 25 _ _ _ _)
      refine v_iconst (v := 1) (i := 13) rfl (by decide) (?_ : ky_V _ _ _ 26 _ _ _ _)
      refine cl_X12_241 (As := [.int 1, .int 1]) rfl (i := 14) rfl (md_0 hmh1) rfl rfl (Nat.le_of_ble_eq_true rfl) (k_X12_throwsIf 1 1 hmh1 (by decide) (fun h39 hmh39 frh39 => ⟨_, rfl, (?_ : ky_V _ _ _ 29 _ [.int ((md_throwsIf_r q2 1 1))] _ _)⟩))
      have frh39 := frh1.tr frh39
      refine v_topi (fun x41 ex41 => ?_)
      replace e := ky_letE ex41 e
      obtain ⟨q40, eq40⟩ : ∃ z, z = (md_throwsIf_c q2 1 1) := ⟨_, rfl⟩
      rw [← eq40] at hmh39
      replace e := ky_letE eq40 e
      refine v_if_ne (tgt := 44) (i := 15) rfl (by decide) (fun c42 => ?_) (fun c42 => ?_)
      · replace e := ky_ifF c42 e
        refine v_iconst (v := 0) (i := 22) rfl (by decide) (?_ : ky_V _ _ _ 45 _ _ _ _)
        refine v_iret (v := 0) (ty := .int) (i := 23) rfl rfl rfl ?_
        obtain ⟨rfl, rfl⟩ := ky_leaf e
        exact hr _ hmh39 frh39
      · replace e := ky_ifT c42 e
        refine v_aload_n (i := 16) (j := 0) rfl rfl (?_ : ky_V _ _ _ 33 _ _ _ _)
        refine v_aload_n (i := 17) (j := 0) rfl rfl (?_ : ky_V _ _ _ 34 _ _ _ _)
        refine cl_X12_370 (As := []) rfl (i := 18) rfl (md_0 hmh39) rfl rfl (Nat.le_of_ble_eq_true rfl) (k_X12_isOver hmh39 ⟨_, rfl, (?_ : ky_V _ _ _ 37 _ [.int ((md_isOver_r q40)), .ref a] _ _)⟩)
        refine v_iconst (v := 2) (i := 19) rfl (by decide) (?_ : ky_V _ _ _ 38 _ _ _ _)
        obtain ⟨z43, e⟩ := ky_chkE e
        refine cl_X12_241 (As := [.int ((md_isOver_r q40)), .int 2]) rfl (i := 20) rfl (md_0 hmh39) rfl rfl (Nat.le_of_ble_eq_true rfl) (k_X12_throwsIf (md_isOver_r q40) 2 hmh39 z43 (fun h44 hmh44 frh44 => ⟨_, rfl, (?_ : ky_V _ _ _ 41 _ [.int ((md_throwsIf_r q40 (md_isOver_r q40) 2))] _ _)⟩))
        have frh44 := frh39.tr frh44
        refine v_topi (fun x46 ex46 => ?_)
        replace e := ky_letE ex46 e
        obtain ⟨q45, eq45⟩ : ∃ z, z = (md_throwsIf_c q40 (md_isOver_r q40) 2) := ⟨_, rfl⟩
        rw [← eq45] at hmh44
        replace e := ky_letE eq45 e
        refine v_if_eq (tgt := 46) (i := 21) rfl (by decide) (fun c47 => ?_) (fun c47 => ?_)
        · replace e := ky_ifT c47 e
          refine v_aload_n (i := 24) (j := 0) rfl rfl (?_ : ky_V _ _ _ 47 _ _ _ _)
          obtain ⟨⟨q49, x50⟩, g51, e⟩ := Option.bind_eq_some_iff.mp e
          refine cl_X12_373 (As := []) rfl (i := 25) rfl (md_0 hmh44) rfl rfl (Nat.le_of_ble_eq_true rfl) (k_X12_remembers N hmh44 g51 (fun h48 hmh48 frh48 => ⟨_, rfl, (?_ : ky_V _ _ _ 50 _ [] _ _)⟩))
          have frh48 := frh44.tr frh48
          refine v_aload_n (i := 26) (j := 0) rfl rfl (?_ : ky_V _ _ _ 51 _ _ _ _)
          refine v_iload_n (i := 27) (j := 1) rfl rfl (?_ : ky_V _ _ _ 52 _ _ _ _)
          refine v_iload_n (i := 28) (j := 2) rfl rfl (?_ : ky_V _ _ _ 53 _ _ _ _)
          obtain ⟨⟨q53, x54⟩, g55, e⟩ := Option.bind_eq_some_iff.mp e
          refine cl_X12_376 (As := [.int p1, .int p2]) rfl (i := 29) rfl (md_0 hmh48) rfl rfl (Nat.le_of_ble_eq_true rfl) (k_X12_makes N hmh48 g55 (fun h52 hmh52 frh52 => ⟨_, rfl, (?_ : ky_V _ _ _ 56 _ [] _ _)⟩))
          have frh52 := frh48.tr frh52
          refine v_aload_n (i := 30) (j := 0) rfl rfl (?_ : ky_V _ _ _ 57 _ _ _ _)
          refine gf_X12_13 rfl (i := 31) rfl (md_0 hmh52) rfl (?_ : ky_V _ _ _ 60 _ _ _ _)
          refine v_iconst (v := 0) (i := 32) rfl (by decide) (?_ : ky_V _ _ _ 61 _ _ _ _)
          refine v_iald (i := 33) rfl (md_1 hmh52) (ky_inl (by decide)) (?_ : ky_V _ _ _ 62 _ (.int (q53 1 0) :: _) _ _)
          refine v_aload_n (i := 34) (j := 0) rfl rfl (?_ : ky_V _ _ _ 63 _ _ _ _)
          refine gf_X12_13 rfl (i := 35) rfl (md_0 hmh52) rfl (?_ : ky_V _ _ _ 66 _ _ _ _)
          refine v_iconst (v := 1) (i := 36) rfl (by decide) (?_ : ky_V _ _ _ 67 _ _ _ _)
          refine v_iald (i := 37) rfl (md_1 hmh52) (ky_inl (by decide)) (?_ : ky_V _ _ _ 68 _ (.int (q53 1 1) :: _) _ _)
          refine v_iadd (i := 38) rfl (?_ : ky_V _ _ _ 69 _ _ _ _)
          refine v_iret (v := ((q53 1 0) + (q53 1 1))) (ty := .int) (i := 39) rfl rfl rfl ?_
          obtain ⟨rfl, rfl⟩ := ky_leaf e
          exact hr _ hmh52 frh52
        · replace e := ky_ifF c47 e
          refine v_iconst (v := 0) (i := 22) rfl (by decide) (?_ : ky_V _ _ _ 45 _ _ _ _)
          refine v_iret (v := 0) (ty := .int) (i := 23) rfl rfl rfl ?_
          obtain ⟨rfl, rfl⟩ := ky_leaf e
          exact hr _ hmh44 frh44

def md_moves (N : Nat) (c : (Nat → Nat → Int32)) (p1 : Int32) : Option ((Nat → Nat → Int32) × Int32) := (ky_let (bk_w c 0 0 0) (fun q2 => (if (md_in p1 1 60) = 0 then (ky_let (md_throwsIf_r q2 1 1) (fun x18 => (ky_let (md_throwsIf_c q2 1 1) (fun q17 => (if x18 = 0 then ((md_remembers N q17).bind (fun zz => (fun q21 x22 => ((md_makesByDraws N q21 p1).bind (fun zz => (fun q25 x26 => (some (q25, x26))) zz.1 zz.2))) zz.1 zz.2)) else (some (q17, 0))))))) else (ky_let (md_throwsIf_r q2 0 1) (fun x6 => (ky_let (md_throwsIf_c q2 0 1) (fun q5 => (if x6 = 0 then ((md_remembers N q5).bind (fun zz => (fun q9 x10 => ((md_makesByDraws N q9 p1).bind (fun zz => (fun q13 x14 => (some (q13, x14))) zz.1 zz.2))) zz.1 zz.2)) else (some (q5, 0))))))))))
set_option maxRecDepth 20000 in
set_option maxHeartbeats 4000000 in
theorem k_X12_moves {G : ky_GW} {d : Nat} {h : ky_HP} {Q : ky_RS → ky_HP → Prop} {a : Nat} {c c9 : (Nat → Nat → Int32)} {r9 : Int32} {p1 : Int32} (N : Nat) (hm : md_at G h a c) (e : md_moves N c p1 = some (c9, r9)) (hr : ∀ h1, md_at G h1 a c9 → bk_fr a 13 h h1 → Q (.inl (some (.int r9))) h1) : ky_Call G (d + 6) M_X12_moves [.ref a, .int p1] h Q := by
  refine ky_ofV (by decide +kernel) rfl ok_X12_moves (Nat.le_of_ble_eq_true rfl) ?_
  have fr : bk_fr a 13 h h := bk_fr.rf
  unfold md_moves at e
  refine (?_ : ky_V _ _ _ 0 [(0, .ref a), (1, .int p1)] [] _ _)
  refine v_aload_n (i := 0) (j := 0) rfl rfl (?_ : ky_V _ _ _ 1 _ _ _ _)
  refine v_iconst (v := 0) (i := 1) rfl (by decide) (?_ : ky_V _ _ _ 2 _ _ _ _)
  refine pf_X12_3 rfl (i := 2) rfl (md_0 hm) (Nat.le_of_ble_eq_true rfl) rfl rfl ?_
  refine bk_st (B := md_B G a) hm fr 0 0 0 (by decide) (fun h1 hmh1 frh1 => ?_)
  obtain ⟨q2, eq2⟩ : ∃ z, z = (bk_w c 0 0 0) := ⟨_, rfl⟩
  rw [← eq2] at hmh1
  replace e := ky_letE eq2 e
  refine (?_ : ky_V _ _ _ 5 _ _ _ _)
  refine v_aload_n (i := 3) (j := 0) rfl rfl (?_ : ky_V _ _ _ 6 _ _ _ _)
  refine v_iload_n (i := 4) (j := 1) rfl rfl (?_ : ky_V _ _ _ 7 _ _ _ _)
  refine v_iconst (v := 1) (i := 5) rfl (by decide) (?_ : ky_V _ _ _ 8 _ _ _ _)
  refine v_bipush (v := 60) (i := 6) rfl (by decide) (?_ : ky_V _ _ _ 10 _ _ _ _)
  refine cl_X12_65 (As := [.int p1, .int 1, .int 60]) rfl (i := 7) rfl rfl rfl (Nat.le_of_ble_eq_true rfl) (k_X12_in p1 1 60 ⟨_, rfl, (?_ : ky_V _ _ _ 13 _ [.int ((md_in p1 1 60)), .ref a] _ _)⟩)
  refine v_if_ne (tgt := 20) (i := 8) rfl (by decide) (fun c3 => ?_) (fun c3 => ?_)
  · replace e := ky_ifF c3 e
    refine v_iconst (v := 0) (i := 11) rfl (by decide) (?_ : ky_V _ _ _ 21 _ _ _ _)
    refine v_iconst (v := 1) (i := 12) rfl (by decide) (?_ : ky_V _ _ _ 22 _ _ _ _)
    refine cl_X12_241 (As := [.int 0, .int 1]) rfl (i := 13) rfl (md_0 hmh1) rfl rfl (Nat.le_of_ble_eq_true rfl) (k_X12_throwsIf 0 1 hmh1 (by decide) (fun h4 hmh4 frh4 => ⟨_, rfl, (?_ : ky_V _ _ _ 25 _ [.int ((md_throwsIf_r q2 0 1))] _ _)⟩))
    have frh4 := frh1.tr frh4
    refine v_topi (fun x6 ex6 => ?_)
    replace e := ky_letE ex6 e
    obtain ⟨q5, eq5⟩ : ∃ z, z = (md_throwsIf_c q2 0 1) := ⟨_, rfl⟩
    rw [← eq5] at hmh4
    replace e := ky_letE eq5 e
    refine v_if_eq (tgt := 30) (i := 14) rfl (by decide) (fun c7 => ?_) (fun c7 => ?_)
    · replace e := ky_ifT c7 e
      refine v_aload_n (i := 17) (j := 0) rfl rfl (?_ : ky_V _ _ _ 31 _ _ _ _)
      obtain ⟨⟨q9, x10⟩, g11, e⟩ := Option.bind_eq_some_iff.mp e
      refine cl_X12_373 (As := []) rfl (i := 18) rfl (md_0 hmh4) rfl rfl (Nat.le_of_ble_eq_true rfl) (k_X12_remembers N hmh4 g11 (fun h8 hmh8 frh8 => ⟨_, rfl, (?_ : ky_V _ _ _ 34 _ [] _ _)⟩))
      have frh8 := frh4.tr frh8
      refine v_aload_n (i := 19) (j := 0) rfl rfl (?_ : ky_V _ _ _ 35 _ _ _ _)
      refine v_iload_n (i := 20) (j := 1) rfl rfl (?_ : ky_V _ _ _ 36 _ _ _ _)
      obtain ⟨⟨q13, x14⟩, g15, e⟩ := Option.bind_eq_some_iff.mp e
      refine cl_X12_400 (As := [.int p1]) rfl (i := 21) rfl (md_0 hmh8) rfl rfl (Nat.le_of_ble_eq_true rfl) (k_X12_makesByDraws N hmh8 g15 (fun h12 hmh12 frh12 => ⟨_, rfl, (?_ : ky_V _ _ _ 39 _ [.int x14] _ _)⟩))
      have frh12 := frh8.tr frh12
      refine v_iret (v := x14) (ty := .int) (i := 22) rfl rfl rfl ?_
      obtain ⟨rfl, rfl⟩ := ky_leaf e
      exact hr _ hmh12 frh12
    · replace e := ky_ifF c7 e
      refine v_iconst (v := 0) (i := 15) rfl (by decide) (?_ : ky_V _ _ _ 29 _ _ _ _)
      refine v_iret (v := 0) (ty := .int) (i := 16) rfl rfl rfl ?_
      obtain ⟨rfl, rfl⟩ := ky_leaf e
      exact hr _ hmh4 frh4
  · replace e := ky_ifT c3 e
    refine v_iconst (v := 1) (i := 9) rfl (by decide) (?_ : ky_V _ _ _ 17 _ _ _ _)
    refine v_goto (tgt := 21) (i := 10) rfl (by decide) (?_ : ky_V _ _ _ 21 _ _ _ _)
    refine v_iconst (v := 1) (i := 12) rfl (by decide) (?_ : ky_V _ _ _ 22 _ _ _ _)
    refine cl_X12_241 (As := [.int 1, .int 1]) rfl (i := 13) rfl (md_0 hmh1) rfl rfl (Nat.le_of_ble_eq_true rfl) (k_X12_throwsIf 1 1 hmh1 (by decide) (fun h16 hmh16 frh16 => ⟨_, rfl, (?_ : ky_V _ _ _ 25 _ [.int ((md_throwsIf_r q2 1 1))] _ _)⟩))
    have frh16 := frh1.tr frh16
    refine v_topi (fun x18 ex18 => ?_)
    replace e := ky_letE ex18 e
    obtain ⟨q17, eq17⟩ : ∃ z, z = (md_throwsIf_c q2 1 1) := ⟨_, rfl⟩
    rw [← eq17] at hmh16
    replace e := ky_letE eq17 e
    refine v_if_eq (tgt := 30) (i := 14) rfl (by decide) (fun c19 => ?_) (fun c19 => ?_)
    · replace e := ky_ifT c19 e
      refine v_aload_n (i := 17) (j := 0) rfl rfl (?_ : ky_V _ _ _ 31 _ _ _ _)
      obtain ⟨⟨q21, x22⟩, g23, e⟩ := Option.bind_eq_some_iff.mp e
      refine cl_X12_373 (As := []) rfl (i := 18) rfl (md_0 hmh16) rfl rfl (Nat.le_of_ble_eq_true rfl) (k_X12_remembers N hmh16 g23 (fun h20 hmh20 frh20 => ⟨_, rfl, (?_ : ky_V _ _ _ 34 _ [] _ _)⟩))
      have frh20 := frh16.tr frh20
      refine v_aload_n (i := 19) (j := 0) rfl rfl (?_ : ky_V _ _ _ 35 _ _ _ _)
      refine v_iload_n (i := 20) (j := 1) rfl rfl (?_ : ky_V _ _ _ 36 _ _ _ _)
      obtain ⟨⟨q25, x26⟩, g27, e⟩ := Option.bind_eq_some_iff.mp e
      refine cl_X12_400 (As := [.int p1]) rfl (i := 21) rfl (md_0 hmh20) rfl rfl (Nat.le_of_ble_eq_true rfl) (k_X12_makesByDraws N hmh20 g27 (fun h24 hmh24 frh24 => ⟨_, rfl, (?_ : ky_V _ _ _ 39 _ [.int x26] _ _)⟩))
      have frh24 := frh20.tr frh24
      refine v_iret (v := x26) (ty := .int) (i := 22) rfl rfl rfl ?_
      obtain ⟨rfl, rfl⟩ := ky_leaf e
      exact hr _ hmh24 frh24
    · replace e := ky_ifF c19 e
      refine v_iconst (v := 0) (i := 15) rfl (by decide) (?_ : ky_V _ _ _ 29 _ _ _ _)
      refine v_iret (v := 0) (ty := .int) (i := 16) rfl rfl rfl ?_
      obtain ⟨rfl, rfl⟩ := ky_leaf e
      exact hr _ hmh16 frh16

def md_soonest (N : Nat) (c : (Nat → Nat → Int32)) (p1 : Int32) : Option ((Nat → Nat → Int32) × Int32) := (ky_let (bk_w c 0 0 0) (fun q2 => ((md_soonestBy N q2 (p1 &&& 127)).bind (fun zz => (fun q4 x5 => (if x5 < (1000000 : Int32) then (some (q4, x5)) else (some (q4, (-1))))) zz.1 zz.2))))
set_option maxRecDepth 20000 in
set_option maxHeartbeats 4000000 in
theorem k_X12_soonest {G : ky_GW} {d : Nat} {h : ky_HP} {Q : ky_RS → ky_HP → Prop} {a : Nat} {c c9 : (Nat → Nat → Int32)} {r9 : Int32} {p1 : Int32} (N : Nat) (hm : md_at G h a c) (e : md_soonest N c p1 = some (c9, r9)) (hr : ∀ h1, md_at G h1 a c9 → bk_fr a 13 h h1 → Q (.inl (some (.int r9))) h1) : ky_Call G (d + 6) M_X12_soonest [.ref a, .int p1] h Q := by
  refine ky_ofV (by decide +kernel) rfl ok_X12_soonest (Nat.le_of_ble_eq_true rfl) ?_
  have fr : bk_fr a 13 h h := bk_fr.rf
  unfold md_soonest at e
  refine (?_ : ky_V _ _ _ 0 [(0, .ref a), (1, .int p1)] [] _ _)
  refine v_aload_n (i := 0) (j := 0) rfl rfl (?_ : ky_V _ _ _ 1 _ _ _ _)
  refine v_iconst (v := 0) (i := 1) rfl (by decide) (?_ : ky_V _ _ _ 2 _ _ _ _)
  refine pf_X12_3 rfl (i := 2) rfl (md_0 hm) (Nat.le_of_ble_eq_true rfl) rfl rfl ?_
  refine bk_st (B := md_B G a) hm fr 0 0 0 (by decide) (fun h1 hmh1 frh1 => ?_)
  obtain ⟨q2, eq2⟩ : ∃ z, z = (bk_w c 0 0 0) := ⟨_, rfl⟩
  rw [← eq2] at hmh1
  replace e := ky_letE eq2 e
  refine (?_ : ky_V _ _ _ 5 _ _ _ _)
  refine v_aload_n (i := 3) (j := 0) rfl rfl (?_ : ky_V _ _ _ 6 _ _ _ _)
  refine v_iload_n (i := 4) (j := 1) rfl rfl (?_ : ky_V _ _ _ 7 _ _ _ _)
  refine v_bipush (v := 127) (i := 5) rfl (by decide) (?_ : ky_V _ _ _ 9 _ _ _ _)
  refine v_iand (i := 6) rfl (?_ : ky_V _ _ _ 10 _ _ _ _)
  obtain ⟨⟨q4, x5⟩, g6, e⟩ := Option.bind_eq_some_iff.mp e
  refine cl_X12_327 (As := [.int ((p1 &&& 127))]) rfl (i := 7) rfl (md_0 hmh1) rfl rfl (Nat.le_of_ble_eq_true rfl) (k_X12_soonestBy N hmh1 g6 (fun h3 hmh3 frh3 => ⟨_, rfl, (?_ : ky_V _ _ _ 13 _ [.int x5] _ _)⟩))
  have frh3 := frh1.tr frh3
  refine v_istore_n (L' := [(0, .ref a), (1, .int p1), (2, .int x5)]) [1, 2, 0] (i := 8) rfl (Nat.le_of_ble_eq_true rfl) rfl (?_ : ky_V _ _ _ 14 _ _ _ _)
  refine v_iload_n (i := 9) (j := 2) rfl rfl (?_ : ky_V _ _ _ 15 _ _ _ _)
  refine v_ldcw (v := 1000000) (i := 10) rfl (ky_t8 (i := 116) rfl rfl) (?_ : ky_V _ _ _ 18 _ _ _ _)
  refine v_icmp_lt (tgt := 25) (i := 11) rfl (by decide) (fun c7 => ?_) (fun c7 => ?_)
  · replace e := ky_ifT c7 e
    refine v_iload_n (i := 14) (j := 2) rfl rfl (?_ : ky_V _ _ _ 26 _ _ _ _)
    refine v_iret (v := x5) (ty := .int) (i := 15) rfl rfl rfl ?_
    obtain ⟨rfl, rfl⟩ := ky_leaf e
    exact hr _ hmh3 frh3
  · replace e := ky_ifF c7 e
    refine v_iconst (v := (-1)) (i := 12) rfl (by decide) (?_ : ky_V _ _ _ 22 _ _ _ _)
    refine v_goto (tgt := 26) (i := 13) rfl (by decide) (?_ : ky_V _ _ _ 26 _ _ _ _)
    refine v_iret (v := (-1)) (ty := .int) (i := 15) rfl rfl rfl ?_
    obtain ⟨rfl, rfl⟩ := ky_leaf e
    exact hr _ hmh3 frh3

def md_move (N : Nat) (c : (Nat → Nat → Int32)) (p1 : Int32) (p2 : Int32) : Option ((Nat → Nat → Int32) × Int32) := (ky_let (bk_w c 0 0 0) (fun q2 => (if (md_noMove p1) = 0 ∨ (md_noMove p1) = 1 then (ky_let (md_throwsIf_r q2 (md_noMove p1) 1) (fun x6 => (ky_let (md_throwsIf_c q2 (md_noMove p1) 1) (fun q5 => (if x6 = 0 then (if (md_in p2 0 4) = 0 then (ky_let (md_throwsIf_r q5 1 2) (fun x21 => (ky_let (md_throwsIf_c q5 1 2) (fun q20 => (if x21 = 0 then (if p2 = (4 : Int32) then ((md_helpsOf N q20 p1).bind (fun zz => (fun q26 x27 => (some (q26, x27))) zz.1 zz.2)) else (if ky_inB ((17 + (4 * p1)) + p2) 2247 = true then (some (q20, (md_ofMove_r q20 p1 p2))) else none)) else (some (q20, 0))))))) else (ky_let (md_throwsIf_r q5 0 2) (fun x11 => (ky_let (md_throwsIf_c q5 0 2) (fun q10 => (if x11 = 0 then (if p2 = (4 : Int32) then ((md_helpsOf N q10 p1).bind (fun zz => (fun q16 x17 => (some (q16, x17))) zz.1 zz.2)) else (if ky_inB ((17 + (4 * p1)) + p2) 2247 = true then (some (q10, (md_ofMove_r q10 p1 p2))) else none)) else (some (q10, 0)))))))) else (some (q5, 0))))))) else none)))
set_option maxRecDepth 20000 in
set_option maxHeartbeats 4000000 in
theorem k_X12_move {G : ky_GW} {d : Nat} {h : ky_HP} {Q : ky_RS → ky_HP → Prop} {a : Nat} {c c9 : (Nat → Nat → Int32)} {r9 : Int32} {p1 : Int32} {p2 : Int32} (N : Nat) (hm : md_at G h a c) (e : md_move N c p1 p2 = some (c9, r9)) (hr : ∀ h1, md_at G h1 a c9 → bk_fr a 13 h h1 → Q (.inl (some (.int r9))) h1) : ky_Call G (d + 7) M_X12_move [.ref a, .int p1, .int p2] h Q := by
  refine ky_ofV (by decide +kernel) rfl ok_X12_move (Nat.le_of_ble_eq_true rfl) ?_
  have fr : bk_fr a 13 h h := bk_fr.rf
  unfold md_move at e
  refine (?_ : ky_V _ _ _ 0 [(0, .ref a), (1, .int p1), (2, .int p2)] [] _ _)
  refine v_aload_n (i := 0) (j := 0) rfl rfl (?_ : ky_V _ _ _ 1 _ _ _ _)
  refine v_iconst (v := 0) (i := 1) rfl (by decide) (?_ : ky_V _ _ _ 2 _ _ _ _)
  refine pf_X12_3 rfl (i := 2) rfl (md_0 hm) (Nat.le_of_ble_eq_true rfl) rfl rfl ?_
  refine bk_st (B := md_B G a) hm fr 0 0 0 (by decide) (fun h1 hmh1 frh1 => ?_)
  obtain ⟨q2, eq2⟩ : ∃ z, z = (bk_w c 0 0 0) := ⟨_, rfl⟩
  rw [← eq2] at hmh1
  replace e := ky_letE eq2 e
  refine (?_ : ky_V _ _ _ 5 _ _ _ _)
  refine v_aload_n (i := 3) (j := 0) rfl rfl (?_ : ky_V _ _ _ 6 _ _ _ _)
  refine v_iload_n (i := 4) (j := 1) rfl rfl (?_ : ky_V _ _ _ 7 _ _ _ _)
  refine cl_X12_279 (As := [.int p1]) rfl (i := 5) rfl rfl rfl (Nat.le_of_ble_eq_true rfl) (k_X12_noMove p1 ⟨_, rfl, (?_ : ky_V _ _ _ 10 _ [.int ((md_noMove p1)), .ref a] _ _)⟩)
  refine v_iconst (v := 1) (i := 6) rfl (by decide) (?_ : ky_V _ _ _ 11 _ _ _ _)
  obtain ⟨z3, e⟩ := ky_chkE e
  refine cl_X12_241 (As := [.int ((md_noMove p1)), .int 1]) rfl (i := 7) rfl (md_0 hmh1) rfl rfl (Nat.le_of_ble_eq_true rfl) (k_X12_throwsIf (md_noMove p1) 1 hmh1 z3 (fun h4 hmh4 frh4 => ⟨_, rfl, (?_ : ky_V _ _ _ 14 _ [.int ((md_throwsIf_r q2 (md_noMove p1) 1))] _ _)⟩))
  have frh4 := frh1.tr frh4
  refine v_topi (fun x6 ex6 => ?_)
  replace e := ky_letE ex6 e
  obtain ⟨q5, eq5⟩ : ∃ z, z = (md_throwsIf_c q2 (md_noMove p1) 1) := ⟨_, rfl⟩
  rw [← eq5] at hmh4
  replace e := ky_letE eq5 e
  refine v_if_ne (tgt := 39) (i := 8) rfl (by decide) (fun c7 => ?_) (fun c7 => ?_)
  · replace e := ky_ifF c7 e
    refine v_iconst (v := 0) (i := 21) rfl (by decide) (?_ : ky_V _ _ _ 40 _ _ _ _)
    refine v_iret (v := 0) (ty := .int) (i := 22) rfl rfl rfl ?_
    obtain ⟨rfl, rfl⟩ := ky_leaf e
    exact hr _ hmh4 frh4
  · replace e := ky_ifT c7 e
    refine v_aload_n (i := 9) (j := 0) rfl rfl (?_ : ky_V _ _ _ 18 _ _ _ _)
    refine v_iload_n (i := 10) (j := 2) rfl rfl (?_ : ky_V _ _ _ 19 _ _ _ _)
    refine v_iconst (v := 0) (i := 11) rfl (by decide) (?_ : ky_V _ _ _ 20 _ _ _ _)
    refine v_iconst (v := 4) (i := 12) rfl (by decide) (?_ : ky_V _ _ _ 21 _ _ _ _)
    refine cl_X12_65 (As := [.int p2, .int 0, .int 4]) rfl (i := 13) rfl rfl rfl (Nat.le_of_ble_eq_true rfl) (k_X12_in p2 0 4 ⟨_, rfl, (?_ : ky_V _ _ _ 24 _ [.int ((md_in p2 0 4)), .ref a] _ _)⟩)
    refine v_if_ne (tgt := 31) (i := 14) rfl (by decide) (fun c8 => ?_) (fun c8 => ?_)
    · replace e := ky_ifF c8 e
      refine v_iconst (v := 0) (i := 17) rfl (by decide) (?_ : ky_V _ _ _ 32 _ _ _ _)
      refine v_iconst (v := 2) (i := 18) rfl (by decide) (?_ : ky_V _ _ _ 33 _ _ _ _)
      refine cl_X12_241 (As := [.int 0, .int 2]) rfl (i := 19) rfl (md_0 hmh4) rfl rfl (Nat.le_of_ble_eq_true rfl) (k_X12_throwsIf 0 2 hmh4 (by decide) (fun h9 hmh9 frh9 => ⟨_, rfl, (?_ : ky_V _ _ _ 36 _ [.int ((md_throwsIf_r q5 0 2))] _ _)⟩))
      have frh9 := frh4.tr frh9
      refine v_topi (fun x11 ex11 => ?_)
      replace e := ky_letE ex11 e
      obtain ⟨q10, eq10⟩ : ∃ z, z = (md_throwsIf_c q5 0 2) := ⟨_, rfl⟩
      rw [← eq10] at hmh9
      replace e := ky_letE eq10 e
      refine v_if_eq (tgt := 41) (i := 20) rfl (by decide) (fun c12 => ?_) (fun c12 => ?_)
      · replace e := ky_ifT c12 e
        refine v_iload_n (i := 23) (j := 2) rfl rfl (?_ : ky_V _ _ _ 42 _ _ _ _)
        refine v_iconst (v := 4) (i := 24) rfl (by decide) (?_ : ky_V _ _ _ 43 _ _ _ _)
        refine v_icmp_ne (tgt := 54) (i := 25) rfl (by decide) (fun c13 => ?_) (fun c13 => ?_)
        · replace e := ky_ifF c13 e
          refine v_aload_n (i := 30) (j := 0) rfl rfl (?_ : ky_V _ _ _ 55 _ _ _ _)
          refine v_iload_n (i := 31) (j := 1) rfl rfl (?_ : ky_V _ _ _ 56 _ _ _ _)
          refine v_iload_n (i := 32) (j := 2) rfl rfl (?_ : ky_V _ _ _ 57 _ _ _ _)
          obtain ⟨z14, e⟩ := ky_chkE e
          refine cl_X12_266 (As := [.int p1, .int p2]) rfl (i := 33) rfl (md_0 hmh9) rfl rfl (Nat.le_of_ble_eq_true rfl) (k_X12_ofMove p1 p2 hmh9 (ky_inb z14) ⟨_, rfl, (?_ : ky_V _ _ _ 60 _ [.int ((md_ofMove_r q10 p1 p2))] _ _)⟩)
          refine v_iret (v := (md_ofMove_r q10 p1 p2)) (ty := .int) (i := 34) rfl rfl rfl ?_
          obtain ⟨rfl, rfl⟩ := ky_leaf e
          exact hr _ hmh9 frh9
        · replace e := ky_ifT c13 e
          refine v_aload_n (i := 26) (j := 0) rfl rfl (?_ : ky_V _ _ _ 47 _ _ _ _)
          refine v_iload_n (i := 27) (j := 1) rfl rfl (?_ : ky_V _ _ _ 48 _ _ _ _)
          obtain ⟨⟨q16, x17⟩, g18, e⟩ := Option.bind_eq_some_iff.mp e
          refine cl_X12_333 (As := [.int p1]) rfl (i := 28) rfl (md_0 hmh9) rfl rfl (Nat.le_of_ble_eq_true rfl) (k_X12_helpsOf N hmh9 g18 (fun h15 hmh15 frh15 => ⟨_, rfl, (?_ : ky_V _ _ _ 51 _ [.int x17] _ _)⟩))
          have frh15 := frh9.tr frh15
          refine v_goto (tgt := 60) (i := 29) rfl (by decide) (?_ : ky_V _ _ _ 60 _ _ _ _)
          refine v_iret (v := x17) (ty := .int) (i := 34) rfl rfl rfl ?_
          obtain ⟨rfl, rfl⟩ := ky_leaf e
          exact hr _ hmh15 frh15
      · replace e := ky_ifF c12 e
        refine v_iconst (v := 0) (i := 21) rfl (by decide) (?_ : ky_V _ _ _ 40 _ _ _ _)
        refine v_iret (v := 0) (ty := .int) (i := 22) rfl rfl rfl ?_
        obtain ⟨rfl, rfl⟩ := ky_leaf e
        exact hr _ hmh9 frh9
    · replace e := ky_ifT c8 e
      refine v_iconst (v := 1) (i := 15) rfl (by decide) (?_ : ky_V _ _ _ 28 _ _ _ _)
      refine v_goto (tgt := 32) (i := 16) rfl (by decide) (?_ : ky_V _ _ _ 32 _ _ _ _)
      refine v_iconst (v := 2) (i := 18) rfl (by decide) (?_ : ky_V _ _ _ 33 _ _ _ _)
      refine cl_X12_241 (As := [.int 1, .int 2]) rfl (i := 19) rfl (md_0 hmh4) rfl rfl (Nat.le_of_ble_eq_true rfl) (k_X12_throwsIf 1 2 hmh4 (by decide) (fun h19 hmh19 frh19 => ⟨_, rfl, (?_ : ky_V _ _ _ 36 _ [.int ((md_throwsIf_r q5 1 2))] _ _)⟩))
      have frh19 := frh4.tr frh19
      refine v_topi (fun x21 ex21 => ?_)
      replace e := ky_letE ex21 e
      obtain ⟨q20, eq20⟩ : ∃ z, z = (md_throwsIf_c q5 1 2) := ⟨_, rfl⟩
      rw [← eq20] at hmh19
      replace e := ky_letE eq20 e
      refine v_if_eq (tgt := 41) (i := 20) rfl (by decide) (fun c22 => ?_) (fun c22 => ?_)
      · replace e := ky_ifT c22 e
        refine v_iload_n (i := 23) (j := 2) rfl rfl (?_ : ky_V _ _ _ 42 _ _ _ _)
        refine v_iconst (v := 4) (i := 24) rfl (by decide) (?_ : ky_V _ _ _ 43 _ _ _ _)
        refine v_icmp_ne (tgt := 54) (i := 25) rfl (by decide) (fun c23 => ?_) (fun c23 => ?_)
        · replace e := ky_ifF c23 e
          refine v_aload_n (i := 30) (j := 0) rfl rfl (?_ : ky_V _ _ _ 55 _ _ _ _)
          refine v_iload_n (i := 31) (j := 1) rfl rfl (?_ : ky_V _ _ _ 56 _ _ _ _)
          refine v_iload_n (i := 32) (j := 2) rfl rfl (?_ : ky_V _ _ _ 57 _ _ _ _)
          obtain ⟨z24, e⟩ := ky_chkE e
          refine cl_X12_266 (As := [.int p1, .int p2]) rfl (i := 33) rfl (md_0 hmh19) rfl rfl (Nat.le_of_ble_eq_true rfl) (k_X12_ofMove p1 p2 hmh19 (ky_inb z24) ⟨_, rfl, (?_ : ky_V _ _ _ 60 _ [.int ((md_ofMove_r q20 p1 p2))] _ _)⟩)
          refine v_iret (v := (md_ofMove_r q20 p1 p2)) (ty := .int) (i := 34) rfl rfl rfl ?_
          obtain ⟨rfl, rfl⟩ := ky_leaf e
          exact hr _ hmh19 frh19
        · replace e := ky_ifT c23 e
          refine v_aload_n (i := 26) (j := 0) rfl rfl (?_ : ky_V _ _ _ 47 _ _ _ _)
          refine v_iload_n (i := 27) (j := 1) rfl rfl (?_ : ky_V _ _ _ 48 _ _ _ _)
          obtain ⟨⟨q26, x27⟩, g28, e⟩ := Option.bind_eq_some_iff.mp e
          refine cl_X12_333 (As := [.int p1]) rfl (i := 28) rfl (md_0 hmh19) rfl rfl (Nat.le_of_ble_eq_true rfl) (k_X12_helpsOf N hmh19 g28 (fun h25 hmh25 frh25 => ⟨_, rfl, (?_ : ky_V _ _ _ 51 _ [.int x27] _ _)⟩))
          have frh25 := frh19.tr frh25
          refine v_goto (tgt := 60) (i := 29) rfl (by decide) (?_ : ky_V _ _ _ 60 _ _ _ _)
          refine v_iret (v := x27) (ty := .int) (i := 34) rfl rfl rfl ?_
          obtain ⟨rfl, rfl⟩ := ky_leaf e
          exact hr _ hmh25 frh25
      · replace e := ky_ifF c22 e
        refine v_iconst (v := 0) (i := 21) rfl (by decide) (?_ : ky_V _ _ _ 40 _ _ _ _)
        refine v_iret (v := 0) (ty := .int) (i := 22) rfl rfl rfl ?_
        obtain ⟨rfl, rfl⟩ := ky_leaf e
        exact hr _ hmh19 frh19
