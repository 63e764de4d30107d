/-! THE RELATION of the two: the worlds as numbers, scenes, laws, ways -/
def wd (W : Nat → Nat) : Prop := (W 0 ≤ 9 ∧ W 1 ≤ 9 ∧ W 2 ≤ 5 ∧ W 3 ≤ 1 ∧ W 4 ≤ 9 ∧ W 5 ≤ 9 ∧ W 6 ≤ 999 ∧ W 7 ≤ 9999 ∧ W 8 ≤ 999 ∧ W 9 ≤ 100 ∧ W 10 ≤ 63 ∧ W 11 ≤ 9 ∧ W 12 ≤ 6 ∧ W 13 ≤ 12 ∧ W 14 ≤ 1 ∧ W 15 ≤ 60) ∧
  (∀ m, m < 7 → W (17 + 4 * m) ≤ 9 ∧ W (18 + 4 * m) ≤ 9 ∧ W (19 + 4 * m) ≤ 5 ∧ 1 ≤ W (20 + 4 * m) ∧ W (20 + 4 * m) ≤ 30) ∧
  (∀ c, c < 64 → W (45 + 3 * c) ≤ 9 ∧ W (46 + 3 * c) ≤ 1 ∧ W (47 + 3 * c) ≤ 1) ∧
  (∀ p, p < 6 → W (237 + 2 * p) ≤ 9 ∧ W (238 + 2 * p) ≤ 63 ∧ (p < W 12 → 1 ≤ W (237 + 2 * p))) ∧
  (∀ a, a < 60 → W (249 + 5 * a) ≤ 9999 ∧ W (250 + 5 * a) ≤ 7 ∧ W (251 + 5 * a) ≤ 2 ∧ W (252 + 5 * a) ≤ 9 ∧ W (253 + 5 * a) ≤ 9)
def psN (W : Nat → Nat) : Nat := ((W 0 * 10 + W 1) * 6 + W 2) * 2 + W 3
def rowN (W : Nat → Nat) (a : Nat) : Nat := W (249 + 5 * a) * 8192 + W (250 + 5 * a) * 1024 + W (251 + 5 * a) * 256 + W (252 + 5 * a) * 16 + W (253 + 5 * a)
/-- a scene of the class at p tells the world W, the seed sd -/
def sc_rel (s : sk_S) (p : Nat) (W : Nat → Nat) (sd : Int32) : Prop :=
  lay_X7 (sk_K s) (sk_r s) p = true ∧ wd W ∧
  (sk_c s (p + 1) 0 = nI (psN W) ∧ sk_c s (p + 1) 1 = nI (W 4) ∧ sk_c s (p + 1) 2 = nI (W 5) ∧ sk_c s (p + 1) 3 = nI (W 6) ∧ sk_c s (p + 1) 4 = nI (W 7) ∧ sk_c s (p + 1) 5 = nI (W 8) ∧ sk_c s (p + 1) 6 = nI (W 9) ∧ sk_c s (p + 1) 7 = sd) ∧
  (∀ j, j < 28 → sk_c s (p + 3) j = nI (W (17 + j))) ∧
  (∀ c, c < 64 → sk_c s (p + 5) c = nI (W (45 + 3 * c)) ∧ sh_has (sk_g s (p + 4) 3) (nI c) = nI (W (46 + 3 * c)) ∧ sh_has (sk_g s (p + 4) 4) (nI c) = nI (W (47 + 3 * c))) ∧
  (sk_c s (p + 4) 5 = nI (W 10) ∧ sk_c s (p + 4) 6 = nI (W 12) ∧ sk_c s (p + 4) 7 = nI (W 11)) ∧
  (∀ k, k < W 12 → sk_c s (p + 6) k = nI (W (237 + 2 * k)) ∧ sk_c s (p + 7) k = nI (W (238 + 2 * k))) ∧
  (∃ nx, nx < 60 ∧ sk_c s (p + 8) 1 = nI nx ∧ sk_c s (p + 8) 2 = nI (W 15) ∧ ∀ a, a < W 15 → sk_c s (p + 9) ((nx + 59 - a) % 60) = nI (rowN W a)) ∧
  sk_c s p 4 = nI (W 13)
/-- the reference's rows f tell the world W, the seed sd -/
def wv (f : Nat → Int32) (W : Nat → Nat) (sd : Int32) : Prop := (∀ k, k < 549 → k ≠ 16 → f k = nI (W k)) ∧ f 16 = sd
/-! laws by meaning: how many lines, of each its kind, its number, when it holds -/
abbrev lwM : Type := Nat × (Nat → Nat) × (Nat → Nat) × (Nat → (Nat → Nat) → Bool)
def lw_sum (m : lwM) (k : Nat) (e : Nat → Nat) : Nat → Nat
  | 0 => 0
  | n + 1 => lw_sum m k e n + (if m.2.1 n = k ∧ m.2.2.2 n e = true then m.2.2.1 n else 0)
def lw_S (m : lwM) (k : Nat) (e : Nat → Nat) : Nat := lw_sum m k e m.1
def lw_env (mv ow ot th ca wa ly : Nat) : Nat → Nat
  | 0 => mv
  | 1 => ow
  | 2 => ot
  | 3 => th
  | 4 => ca
  | 5 => wa
  | _ => ly
/-- the facts are small -/
def lw_sml (e : Nat → Nat) : Prop := e 0 ≤ 6 ∧ e 1 ≤ 9 ∧ e 2 ≤ 9 ∧ e 3 ≤ 5 ∧ e 4 ≤ 9 ∧ e 5 ≤ 9 ∧ e 6 ≤ 1
/-! the reference's postfix rows -/
def rf_step (T : Nat → Int32) (e : Nat → Nat) (i : Nat) (st : List Nat) : List Nat :=
  let k := (T (49 + 2 * i)).toNatClampNeg
  if k ≤ 6 then e k :: st
  else if k = 7 then (T (50 + 2 * i)).toNatClampNeg :: st
  else if k = 11 then match st with
    | a :: r => (1 - a) :: r
    | [] => []
  else match st with
    | b :: a :: r => (if k = 8 then a + b else if k = 9 then (if a < b then 1 else 0) else if k = 10 then (if b < a then 1 else 0) else if k = 12 then (if a + b = 2 then 1 else 0) else (if 0 < a + b then 1 else 0)) :: r
    | _ => []
def rf_run (T : Nat → Int32) (e : Nat → Nat) : Nat → Nat → List Nat → List Nat
  | 0, _, st => st
  | n + 1, i, st => rf_run T e n (i + 1) (rf_step T e i st)
/-- what each step may find: enough on the stack, bits where bits are asked, numbers that are small -/
def rf_safe (T : Nat → Int32) (e : Nat → Nat) : Nat → Nat → List Nat → Prop
  | 0, _, _ => True
  | n + 1, i, st => (∃ k, k ≤ 13 ∧ T (49 + 2 * i) = nI k ∧ (k = 7 → ∃ v, v ≤ 999 ∧ T (50 + 2 * i) = nI v) ∧ (k ≤ 7 ∨ (k = 11 ∧ ∃ a r, st = a :: r ∧ a ≤ 1) ∨ (8 ≤ k ∧ k ≠ 11 ∧ ∃ a b r, st = b :: a :: r ∧ a ≤ 1000000 ∧ b ≤ 1000000))) ∧ rf_safe T e n (i + 1) (rf_step T e i st)
/-- the reference's text T means m -/
def lwT (T : Nat → Int32) (m : lwM) : Prop := T 0 = nI m.1 ∧ m.1 ≤ 12 ∧ ∀ n, n < m.1 → m.2.1 n ≤ 3 ∧ m.2.2.1 n ≤ 9 ∧ T (1 + 4 * n) = nI (m.2.1 n) ∧ T (2 + 4 * n) = nI (m.2.2.1 n) ∧
  ∃ a b, a ≤ b ∧ b ≤ 399 ∧ T (3 + 4 * n) = nI a ∧ T (4 + 4 * n) = nI b ∧ ((a = b ∧ ∀ e, m.2.2.2 n e = true) ∨ ∀ e, lw_sml e → rf_safe T e (b - a) a [] ∧ rf_run T e (b - a) a [] = [if m.2.2.2 n e = true then 1 else 0])
/-! the class's code -/
def cd_len (cd : Nat → Int32) (i : Nat) : Nat := if cd i = 0 then 3 + 2 * (cd (i + 2)).toNatClampNeg else 1
def cd_sum (cd : Nat → Int32) (e : Nat → Nat) (i : Nat) : Nat → Int
  | 0 => (cd (i + 1)).toInt
  | n + 1 => cd_sum cd e i n + (cd (i + 3 + 2 * n + 1)).toInt * (e (cd (i + 3 + 2 * n)).toNatClampNeg : Int)
def cd_step (cd : Nat → Int32) (e : Nat → Nat) (i b : Nat) : Nat :=
  if cd i = 0 then 2 * b + (if cd_sum cd e i (cd (i + 2)).toNatClampNeg < 0 then 1 else 0)
  else if cd i = 1 then 2 * b + e 6
  else if cd i = 2 then (if b % 2 = 1 then b - 1 else b + 1)
  else if cd i = 3 then (if b % 2 = 1 then b / 2 else 2 * (b / 4))
  else (if b % 2 = 1 then 2 * (b / 4) + 1 else b / 2)
/-- tokens from i on: n of them come to t -/
def cd_at (cd : Nat → Int32) : Nat → Nat → Nat → Prop
  | 0, i, t => i = t
  | n + 1, i, t => i < t ∧ cd_at cd n (i + cd_len cd i) t
def cd_run (cd : Nat → Int32) (e : Nat → Nat) : Nat → Nat → Nat → Nat
  | 0, _, b => b
  | n + 1, i, b => cd_run cd e n (i + cd_len cd i) (cd_step cd e i b)
def cd_safe (cd : Nat → Int32) (e : Nat → Nat) : Nat → Nat → Nat → Prop
  | 0, _, _ => True
  | n + 1, i, b => (b < 1073741824 ∧ (cd i = 0 ∨ cd i = 1 ∨ cd i = 2 ∨ cd i = 3 ∨ cd i = 4) ∧ (cd i = 0 → ∃ q, q ≤ 6 ∧ cd (i + 2) = nI q ∧ (-400000 ≤ (cd (i + 1)).toInt ∧ (cd (i + 1)).toInt ≤ 400000) ∧ ∀ j, j < q → (∃ f, f ≤ 5 ∧ cd (i + 3 + 2 * j) = nI f) ∧ -400 ≤ (cd (i + 3 + 2 * j + 1)).toInt ∧ (cd (i + 3 + 2 * j + 1)).toInt ≤ 400)) ∧ cd_safe cd e n (i + cd_len cd i) (cd_step cd e i b)
/-- does no token name the fact f -/
def cd_no (cd : Nat → Int32) (f : Nat) : Nat → Nat → Prop
  | 0, _ => True
  | n + 1, i => (cd i = 0 → ∀ j, j < (cd (i + 2)).toNatClampNeg → cd (i + 3 + 2 * j) ≠ nI f) ∧ cd_no cd f n (i + cd_len cd i)
/-- the class's law at q means m -/
def lwC (s : sk_S) (q : Nat) (m : lwM) : Prop := lay_X3 (sk_K s) (sk_r s) q = true ∧ sk_c s q 0 = nI m.1 ∧ m.1 ≤ 12 ∧ (sk_K s (q + 1)).2 = m.1 ∧ (sk_K s (q + 2)).2 = m.1 ∧ (sk_K s (q + 3)).2 = m.1 + 1 ∧ (sk_K s (q + 4)).2 ≤ 400 ∧ sk_c s (q + 3) 0 = 0 ∧
  ∃ st nt : Nat → Nat, st 0 = 0 ∧ st m.1 = (sk_K s (q + 4)).2 ∧ (∀ n, n ≤ m.1 → sk_c s (q + 3) n = nI (st n) ∧ st n ≤ 400) ∧ ∀ n, n < m.1 → m.2.1 n ≤ 3 ∧ m.2.2.1 n ≤ 9 ∧ sk_c s (q + 1) n = nI (m.2.1 n) ∧ sk_c s (q + 2) n = nI (m.2.2.1 n) ∧
    st n ≤ st (n + 1) ∧ cd_at (sk_c s (q + 4)) (nt n) (st n) (st (n + 1)) ∧ ((st n = st (n + 1) ∧ ∀ e, m.2.2.2 n e = true) ∨ (st n < st (n + 1) ∧ ∀ e, lw_sml e → cd_safe (sk_c s (q + 4)) e (nt n) (st n) 0 ∧ cd_run (sk_c s (q + 4)) e (nt n) (st n) 0 = if m.2.2.2 n e = true then 1 else 0))
def lw_rel (s : sk_S) (o : Option Nat) (h : Nat) (T : Nat → Int32) (m : lwM) : Prop := (o = none ∧ h = 0 ∧ m.1 = 0) ∨ ∃ q, o = some q ∧ h = 1 ∧ lwT T m ∧ lwC s q m
/-! a move by numbers -/
def mv_r (W : Nat → Nat) (m : lwM) (ca wa mv ow ot th ly : Nat) : Nat × Nat × Nat × Nat :=
  let e := lw_env mv ow ot th ca wa ly
  let up := W (17 + 4 * mv) + lw_S m 0 e
  let dn := W (18 + 4 * mv) + lw_S m 1 e
  let st := th + W (19 + 4 * mv) + lw_S m 2 e - lw_S m 3 e
  (if 5 ≤ mv then min 9 (ow - up + dn) else ow - up, if 5 ≤ mv then min 9 (ot - up + dn) else min 9 (ot + dn), min 5 st, if mv = 6 then 1 else if mv = 0 ∨ mv = 3 ∨ mv = 4 then 0 else ly)
def ps4 (d0 d1 th ly : Nat) : Nat := ((d0 * 10 + d1) * 6 + th) * 2 + ly
/-- the state behind a move of a leg from the state v -/
def mv_s (W : Nat → Nat) (m : lwM) (ca wa mv lg v : Nat) : Nat :=
  if mv < 5 ∧ lg = 1 then
    let r := mv_r W m ca wa mv (v / 12 % 10) (v / 120) (v / 2 % 6) (v % 2)
    ps4 r.2.1 r.1 r.2.2.1 r.2.2.2
  else
    let r := mv_r W m ca wa mv (v / 120) (v / 12 % 10) (v / 2 % 6) (v % 2)
    ps4 r.1 r.2.1 r.2.2.1 r.2.2.2
def lg_o (o : Nat) : Nat := if o < 10 then o % 2 else 0
def nxf (W : Nat → Nat) (m : lwM) (ca wa v o : Nat) : Nat := mv_s W m ca wa (wy_mv o) (lg_o o) v
def tkf (W : Nat → Nat) (o : Nat) : Nat := W (20 + 4 * wy_mv o)
/-! the blocks that are made by calls -/
def kb (k : Nat) : Nat := if k = 4 then 6 else if k = 7 then 10 else if k = 10 then 8 else 0
def bks (X : Nat) (K : Nat → Nat × Nat) (n : Nat) : Prop := (∀ p, kb (K p).1 ≠ 0 → (p = X + 12 ∧ (K p).1 = 7 ∨ X + 38 ≤ p) ∧ p + kb (K p).1 ≤ n) ∧ (∀ p q, kb (K p).1 ≠ 0 → kb (K q).1 ≠ 0 → p < q → p + kb (K p).1 ≤ q) ∧ (∀ a, n ≤ a → (K a).1 = 0) ∧ X + 38 ≤ n
/-! the relation -/
def R_past (X : Nat) (s : sk_S) (c : Nat → Nat → Int32) (W : Nat → Nat) : Prop := ∃ np k, np < 12 ∧ k ≤ 12 ∧ sk_c s X 6 = nI np ∧ sk_c s X 7 = nI k ∧ c 0 7 = nI k ∧
  (∀ i p, i < 12 → sk_r s (X + 22) i = some p → lay_X7 (sk_K s) (sk_r s) p = true ∧ X + 38 ≤ p ∧ sk_r s X 8 ≠ some p) ∧
  (∀ i i' p, i < 12 → i' < 12 → sk_r s (X + 22) i = some p → sk_r s (X + 22) i' = some p → i = i') ∧
  (∀ i, i < k → ∃ p W' sd', sk_r s (X + 22) ((np + 11 - i) % 12) = some p ∧ sc_rel s p W' sd' ∧ wv (fun q => c 5 (549 * (k - 1 - i) + q)) W' sd' ∧ sk_r s (p + 2) 1 = sk_r s (X + 14) 1 ∧ W' 14 = W 14 ∧ ∀ j, j < 28 → W' (17 + j) = W (17 + j))
def R_img (X : Nat) (s : sk_S) (c : Nat → Nat → Int32) : Prop := (sk_r s X 8 = none ∧ c 0 6 = 0) ∨ ∃ p W' sd' m', sk_r s X 8 = some p ∧ c 0 6 = 1 ∧ X + 38 ≤ p ∧ sc_rel s p W' sd' ∧ wv (c 2) W' sd' ∧ lw_rel s (sk_r s (p + 2) 1) (W' 14) (fun k => c 2 (549 + k)) m'
def R_tape (X : Nat) (s : sk_S) (c : Nat → Nat → Int32) : Prop := (∃ ln, (ln ≤ 400 ∧ sk_c s (X + 9) 0 = 0) ∧ sk_c s (X + 1) 1 = nI ln ∧ c 0 9 = nI ln ∧ ∀ j, j < ln → sk_c s (X + 2) j = c 6 j) ∧ sk_c s X 10 = c 0 14
def R_way (X : Nat) (s : sk_S) (W : Nat → Nat) (m : lwM) (sb : Nat) : Prop := sk_r s X 9 = none ∨ ∃ y st ca wa, sk_r s X 9 = some y ∧ lay_X10 (sk_K s) (sk_r s) y = true ∧ X + 38 ≤ y ∧ sk_c s y 9 = nI st ∧ 1 ≤ st ∧ st ≤ sb ∧ sk_c s y 11 = nI ca ∧ sk_c s y 12 = nI wa ∧ ca ≤ 9 ∧ wa ≤ 9 ∧ wy_ca y (nxf W m ca wa) s
def R_now (X : Nat) (s : sk_S) (c : Nat → Nat → Int32) (W : Nat → Nat) (sd : Int32) (m : lwM) : Prop := lay_X11 (sk_K s) (sk_r s) X = true ∧ bks X (sk_K s) (sk_n s) ∧ sc_rel s (X + 12) W sd ∧ wv (c 1) W sd ∧ lw_rel s (sk_r s (X + 14) 1) (W 14) (fun k => c 1 (549 + k)) m
/-- all but the ways -/
def RA (X : Nat) (s : sk_S) (c : Nat → Nat → Int32) (W : Nat → Nat) (sd : Int32) (m : lwM) : Prop := R_now X s c W sd m ∧ R_past X s c W ∧ R_img X s c ∧ R_tape X s c
def R_sz (X j : Nat) (s : sk_S) : Prop := sk_n s ≤ X + 100 + 60 * j ∧ sk_m s ≤ 60000 + 1000 * j + (if sk_r s X 9 = none then 0 else 30000)
def RR (X j : Nat) (s : sk_S) (c : Nat → Nat → Int32) : Prop := j ≤ 512 ∧ R_sz X j s ∧ ∃ W sd m, RA X s c W sd m ∧ R_way X s W m (1 + 12 * j)
