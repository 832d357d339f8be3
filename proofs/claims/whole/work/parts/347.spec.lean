/-! PURE LAYER: a rule, read once for both -/
def jnd (a op b : Int32) : Int32 := if op = 42 then a * b else if op = 43 then a + b else if op = 45 then a - b else if op = 47 then (if b = 0 then 0 else a / b) else if op = 60 then (if b ≤ a then 0 else 1) else if op = 62 then (if a ≤ b then 0 else 1) else if a = b then 1 else 0
def thg (f : Nat → Int32) (k : Int32) : Int32 := if k < 0 then 0 else if 7 ≤ k then 0 else f k.toNatClampNeg
def neg1 (st : List Int32) : List Int32 := match st with
  | [] => []
  | a :: r => (-a) :: r
def bin (op : Int32) (st : List Int32) : List Int32 := match st with
  | b :: a :: r => jnd a op b :: r
  | s => s
def stp (f : Nat → Int32) (st : List Int32) (x : Int32) : List Int32 := if x < 0 then (if x = -126 then neg1 st else bin (-x) st) else (if 1000 ≤ x then thg f (x - 1000) :: st else x :: st)
def runC (f : Nat → Int32) (c st : List Int32) : List Int32 := c.foldl (stp f) st
theorem run_app (f : Nat → Int32) (c c2 st : List Int32) : runC f (c ++ c2) st = runC f c2 (runC f c st) := List.foldl_append ..
theorem run_one (f : Nat → Int32) (x : Int32) (st : List Int32) : runC f [x] st = stp f st x := rfl
def isM (x : Int32) : Bool := decide (x = 42 ∨ x = 47)
def isA (x : Int32) : Bool := decide (x = 43 ∨ x = 45)
def isC (x : Int32) : Bool := decide (x = 60 ∨ x = 62 ∨ x = 61)
def letV (x : Int32) : Int32 := if x = 98 then 0 else if x = 97 then 1 else if x = 110 then 2 else if x = 120 then 3 else if x = 103 then 4 else if x = 100 then 5 else if x = 101 then 6 else -1
theorem letV_sm (x : Int32) : letV x = -1 ∨ ∃ k, k < 7 ∧ letV x = mI k := by
  unfold letV
  split
  · exact Or.inr ⟨0, by omega, rfl⟩
  split
  · exact Or.inr ⟨1, by omega, rfl⟩
  split
  · exact Or.inr ⟨2, by omega, rfl⟩
  split
  · exact Or.inr ⟨3, by omega, rfl⟩
  split
  · exact Or.inr ⟨4, by omega, rfl⟩
  split
  · exact Or.inr ⟨5, by omega, rfl⟩
  split
  · exact Or.inr ⟨6, by omega, rfl⟩
  · exact Or.inl rfl
def numL (h : Nat → Int32) (p : Nat) : Nat := if inR (h (p + 1)) 48 57 then (if inR (h (p + 2)) 48 57 then 3 else 2) else 1
def numV (h : Nat → Int32) (p : Nat) : Int32 := if inR (h (p + 1)) 48 57 then (if inR (h (p + 2)) 48 57 then ((h p - 48) * 10 + (h (p + 1) - 48)) * 10 + (h (p + 2) - 48) else (h p - 48) * 10 + (h (p + 1) - 48)) else h p - 48
def pL (h : Nat → Int32) (op : Int32 → Bool) (rec : Nat → Nat × Option (List Int32)) : Nat → Nat → List Int32 → Nat × Option (List Int32)
  | 0, p, _ => (p, none)
  | n + 1, p, c => if op (h p) then (match rec (p + 1) with
      | (q, none) => (q, none)
      | (q, some c2) => pL h op rec n q (c ++ c2 ++ [-(h p)])) else (p, some c)
def pX (h : Nat → Int32) : Nat → Nat → Nat → Nat → Nat × Option (List Int32)
  | 0, _, _, p => (p, none)
  | k + 1, w, d, p =>
    if w = 0 then (match pX h k 1 d p with
      | (q, none) => (q, none)
      | (q, some c) => if isC (h q) then (match pX h k 1 d (q + 1) with
        | (q2, none) => (q2, none)
        | (q2, some c2) => (q2, some (c ++ c2 ++ [-(h q)]))) else (q, some c))
    else if w = 1 then (match pX h k 2 d p with
      | (q, none) => (q, none)
      | (q, some c) => pL h isA (pX h k 2 d) 42 q c)
    else if w = 2 then (match pX h k 3 d p with
      | (q, none) => (q, none)
      | (q, some c) => pL h isM (pX h k 3 d) 42 q c)
    else if h p = 45 then (match pX h k 3 d (p + 1) with
      | (q, none) => (q, none)
      | (q, some c) => (q, some (c ++ [-126])))
    else if h p = 40 ∧ d < 4 then (match pX h k 0 (d + 1) (p + 1) with
      | (q, none) => (q, none)
      | (q, some c) => if h q = 41 then (q + 1, some c) else (q, none))
    else if inR (h p) 48 57 then (p + numL h p, some [numV h p])
    else if letV (h p) = -1 then (p, none) else (p + 1, some [1000 + letV (h p)])
def need (w d p : Nat) : Nat := (3 - w) + 1 + (40 - p) + 3 * (4 - d)
theorem run_bin {f : Nat → Int32} {c c2 : List Int32} {v v2 op : Int32} (h1 : ∀ st, runC f c st = v :: st) (h2 : ∀ st, runC f c2 st = v2 :: st) (hn : -op < 0) (h126 : -op ≠ -126) : ∀ st, runC f (c ++ c2 ++ [-op]) st = jnd v op v2 :: st := by
  intro st
  rw [run_app, run_app, h1, h2, run_one]
  unfold stp
  rw [if_pos hn, if_neg h126, Int32.neg_neg]
  rfl
theorem run_neg {f : Nat → Int32} {c : List Int32} {v : Int32} (h1 : ∀ st, runC f c st = v :: st) : ∀ st, runC f (c ++ [-126]) st = (-v) :: st := by
  intro st
  rw [run_app, h1, run_one]
  rfl
theorem dig_3 {x : Int32} (h : inR x 48 57 = true) : ∃ n, n ≤ 9 ∧ x - 48 = mI n := dig_val h
theorem numV_sm {h : Nat → Int32} {p : Nat} (h0 : inR (h p) 48 57 = true) : ∃ n, n < 1000 ∧ numV h p = mI n := by
  obtain ⟨a, ha, ea⟩ := dig_3 h0
  unfold numV
  rw [ea, show (10 : Int32) = mI 10 from rfl]
  cases h1 : inR (h (p + 1)) 48 57
  · rw [if_neg Bool.false_ne_true]
    exact ⟨a, by omega, rfl⟩
  · obtain ⟨b, hb, eb⟩ := dig_3 h1
    rw [if_pos rfl, eb]
    cases h2 : inR (h (p + 2)) 48 57
    · rw [if_neg Bool.false_ne_true, mI_mul, mI_add]
      exact ⟨a * 10 + b, by omega, rfl⟩
    · obtain ⟨c, hc, ec⟩ := dig_3 h2
      rw [if_pos rfl, ec, mI_mul, mI_add, mI_mul, mI_add]
      exact ⟨(a * 10 + b) * 10 + c, by omega, rfl⟩
theorem run_num {f : Nat → Int32} {x : Int32} (hx : ∃ n, n < 1000 ∧ x = mI n) : ∀ st, runC f [x] st = x :: st := by
  obtain ⟨n, hn, rfl⟩ := hx
  intro st
  rw [run_one]
  unfold stp
  rw [if_neg (mI_n0 (by omega)), if_neg (lnle 1000 1000 rfl (by omega) (by omega) hn)]
theorem run_let {f : Nat → Int32} {k : Nat} (hk : k < 7) : ∀ st, runC f [1000 + mI k] st = f k :: st := by
  intro st
  rw [run_one, show (1000 : Int32) = mI 1000 from rfl, mI_add]
  unfold stp thg
  rw [if_neg (mI_n0 (by omega)), if_pos (lle 1000 1000 rfl (by omega) (by omega) (by omega)), show (1000 : Int32) = mI 1000 from rfl, mI_sub (by omega) (by omega), show 1000 + k - 1000 = k by omega, if_neg (mI_n0 (by omega)), if_neg (lnle 7 7 rfl (by omega) (by omega) hk), mI_nat (by omega)]
/-- what is looked at -/
theorem stp_congr {f f' : Nat → Int32} {x : Int32} (h : ∀ k, k < 7 → x = mI (1000 + k) → f k = f' k) (st : List Int32) : stp f st x = stp f' st x := by
  unfold stp
  split
  · rfl
  · split
    · unfold thg
      by_cases h1 : x - 1000 < 0
      · rw [if_pos h1, if_pos h1]
      · rw [if_neg h1, if_neg h1]
        by_cases h2 : 7 ≤ x - 1000
        · rw [if_pos h2, if_pos h2]
        · rw [if_neg h2, if_neg h2]
          obtain ⟨k, -, hk, e⟩ := rng (p := x - 1000) (lo := 0) (hi := 6) (by omega) (by omega) h1 (fun h => h2 (by rw [Int32.le_iff_toInt_le]; have := Int32.lt_iff_toInt_lt.mp h; rw [mI_int (by omega)] at this; show (7 : Int) ≤ _; omega))
          have ex : x = mI (1000 + k) := by
            have : x = (x - 1000) + 1000 := by rw [Int32.sub_add_cancel]
            rw [this, e, show (1000 : Int32) = mI 1000 from rfl, mI_add, Nat.add_comm]
          rw [e, mI_nat (by omega), h k (by omega) ex]
    · rfl
theorem run_congr {f f' : Nat → Int32} : ∀ (c : List Int32) (st : List Int32), (∀ x, x ∈ c → ∀ k, k < 7 → x = mI (1000 + k) → f k = f' k) → runC f c st = runC f' c st
  | [], _, _ => rfl
  | x :: c, st, h => by
    show runC f c (stp f st x) = runC f' c (stp f' st x)
    rw [stp_congr (h x (List.mem_cons_self ..)), run_congr c _ (fun y hy => h y (List.mem_cons_of_mem _ hy))]
