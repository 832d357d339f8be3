/-! PURE LAYER: sets of bits -/
def tb (x : Int32) (i : Nat) : Bool := x.toBitVec.getLsbD i
theorem tb_ext {x y : Int32} (h : ∀ i, i < 32 → tb x i = tb y i) : x = y := by
  apply Int32.toBitVec_inj.mp
  exact BitVec.eq_of_getLsbD_eq (fun i hi => h i hi)
theorem tb_and (x y : Int32) (i : Nat) : tb (x &&& y) i = (tb x i && tb y i) := by simp [tb]
theorem tb_or (x y : Int32) (i : Nat) : tb (x ||| y) i = (tb x i || tb y i) := by simp [tb]
theorem tb_xor (x y : Int32) (i : Nat) : tb (x ^^^ y) i = Bool.xor (tb x i) (tb y i) := by simp [tb]
theorem tb_m1 {i : Nat} (h : i < 32) : tb (-1) i = true := by
  have : ∀ i : Fin 32, tb (-1) i.val = true := by decide +kernel
  exact this ⟨i, h⟩
theorem tb_not {x : Int32} {i : Nat} (h : i < 32) : tb (x ^^^ (-1)) i = !tb x i := by rw [tb_xor, tb_m1 h]; simp
theorem tb_0 (i : Nat) : tb 0 i = false := by simp [tb]
theorem tb_hi {x : Int32} {i : Nat} (h : 32 ≤ i) : tb x i = false := BitVec.getLsbD_of_ge _ _ h
theorem tb_1 {i j : Nat} (hi : i < 32) (hj : j < 32) : tb (1 <<< (mI i &&& 31)) j = decide (j = i) := by
  have : ∀ i j : Fin 32, tb (1 <<< (mI i.val &&& 31)) j.val = decide (j.val = i.val) := by decide +kernel
  exact this ⟨i, hi⟩ ⟨j, hj⟩
theorem tb_all {M i : Nat} (hM : M ≤ 16) (hi : i < 32) : tb ((1 <<< (mI M &&& 31)) - 1) i = decide (i < M) := by
  have : ∀ (M : Fin 17) (i : Fin 32), tb ((1 <<< (mI M.val &&& 31)) - 1) i.val = decide (i.val < M.val) := by decide +kernel
  exact this ⟨M, by omega⟩ ⟨i, hi⟩
theorem mI31 {i : Nat} (h : i < 32) : mI i &&& 31 = mI i := by
  have : ∀ i : Fin 32, mI i.val &&& 31 = mI i.val := by decide +kernel
  exact this ⟨i, h⟩
theorem tb_one (i : Nat) : tb 1 i = decide (i = 0) := by
  by_cases h : i < 32
  · have : ∀ i : Fin 32, tb 1 i.val = decide (i.val = 0) := by decide +kernel
    exact this ⟨i, h⟩
  · rw [tb_hi (by omega)]; simp; omega
theorem tb_shr0 {x : Int32} {i : Nat} (h : i < 32) : tb (x >>> (mI i &&& 31)) 0 = tb x i := by
  have e : ∀ i : Fin 32, ((mI i.val).toBitVec.smod 32).toNat = i.val := by decide +kernel
  rw [mI31 h]
  show (x >>> mI i).toBitVec.getLsbD 0 = _
  rw [Int32.toBitVec_shiftRight]
  show (x.toBitVec.sshiftRight ((mI i).toBitVec.smod 32).toNat).getLsbD 0 = _
  rw [e ⟨i, h⟩, BitVec.getLsbD_sshiftRight]
  simp [tb, h]
theorem bit_val {x : Int32} {i : Nat} (h : i < 32) : (x >>> (mI i &&& 31)) &&& 1 = if tb x i then 1 else 0 := by
  apply tb_ext
  intro j hj
  rw [tb_and, tb_one]
  by_cases h0 : j = 0
  · subst h0
    rw [tb_shr0 h]
    cases tb x i <;> simp [tb_one, tb_0]
  · cases tb x i <;> simp [h0, tb_one, tb_0]
theorem bit_is {x : Int32} {i : Nat} (h : i < 32) : ((x >>> (mI i &&& 31)) &&& 1 = 1) = (tb x i = true) := by
  rw [bit_val h]
  cases tb x i <;> simp
theorem bit_no {x : Int32} {i : Nat} (h : i < 32) : ((x >>> (mI i &&& 31)) &&& 1 = 0) = (tb x i = false) := by
  rw [bit_val h]
  cases tb x i <;> simp
/-- how many bits a small number has -/
def cnt (x : Int32) : Nat → Nat
  | 0 => 0
  | k + 1 => cnt x k + if tb x k then 1 else 0
def bc (p0 : Int32) : Int32 :=
  let x1 := p0 - ((u_ushr p0 1) &&& 1431655765)
  let x2 := (x1 &&& 858993459) + ((u_ushr x1 2) &&& 858993459)
  let x3 := (x2 + (u_ushr x2 4)) &&& 252645135
  let x4 := x3 + (u_ushr x3 8)
  let x5 := x4 + (u_ushr x4 16)
  x5 &&& 63
theorem bc_f (N : Nat) (σ : uS) (x : Int32) : f_J6_bitCount_0f7a4 N σ x = some (bc x) := rfl
theorem cnt_le (x : Int32) (k : Nat) : cnt x k ≤ k := by
  induction k with
  | zero => exact Nat.le_refl _
  | succ k ih => show cnt x k + _ ≤ _; split <;> omega
theorem cnt_congr {x y : Int32} {k : Nat} (h : ∀ i, i < k → tb x i = tb y i) : cnt x k = cnt y k := by
  induction k with
  | zero => rfl
  | succ k ih => show cnt x k + _ = cnt y k + _; rw [ih (fun i hi => h i (by omega)), h k (by omega)]
def lo8 (x : Int32) : Prop := ∀ i, 8 ≤ i → tb x i = false
theorem lo8_nat {x : Int32} (h : lo8 x) : ∃ n, n < 256 ∧ x = mI n := by
  refine ⟨x.toBitVec.toNat, Nat.lt_pow_two_of_testBit (n := 8) _ (fun i hi => h i hi), ?_⟩
  apply Int32.toBitVec_inj.mp
  show _ = BitVec.ofNat 32 x.toBitVec.toNat
  simp
theorem bc_nat : ∀ n : Fin 256, bc (mI n.val) = mI (cnt (mI n.val) 8) := by decide +kernel
theorem bc_cnt {x : Int32} (h : lo8 x) : bc x = mI (cnt x 8) := by
  obtain ⟨n, hn, rfl⟩ := lo8_nat h
  exact bc_nat ⟨n, hn⟩
theorem lo8_nonneg {x : Int32} (h : lo8 x) : 0 ≤ x ∧ ¬ x < 0 := by
  obtain ⟨n, hn, rfl⟩ := lo8_nat h
  rw [show (0 : Int32) = mI 0 from rfl, mI_le (by omega) (by omega), mI_lt (by omega) (by omega)]
  omega
theorem lo8_and {x y : Int32} (h : lo8 y) : lo8 (x &&& y) := fun i hi => by rw [tb_and, h i hi]; simp
theorem lo8_andl {x y : Int32} (h : lo8 x) : lo8 (x &&& y) := fun i hi => by rw [tb_and, h i hi]; simp
theorem lo8_or {x y : Int32} (h1 : lo8 x) (h2 : lo8 y) : lo8 (x ||| y) := fun i hi => by rw [tb_or, h1 i hi, h2 i hi]; rfl
theorem lo8_xor {x y : Int32} (h1 : lo8 x) (h2 : lo8 y) : lo8 (x ^^^ y) := fun i hi => by rw [tb_xor, h1 i hi, h2 i hi]; rfl
theorem lo8_0 : lo8 0 := fun i _ => tb_0 i
theorem lo8_1 {i : Nat} (h : i < 8) : lo8 (1 <<< (mI i &&& 31)) := fun j hj => by
  by_cases h2 : j < 32
  · rw [tb_1 (by omega) h2]; simp; omega
  · exact tb_hi (by omega)
abbrev sAll (M : Nat) : Int32 := (1 <<< (mI M &&& 31)) - 1
theorem lo8_all {M : Nat} (h : M ≤ 8) : lo8 (sAll M) := fun j hj => by
  by_cases h2 : j < 32
  · rw [tb_all (by omega) h2]; simp; omega
  · exact tb_hi (by omega)
theorem cnt_all {x : Int32} {M : Nat} (hM : M ≤ 8) : ∀ k, cnt (x &&& sAll M) k = cnt x (min k M) := by
  intro k
  induction k with
  | zero => simp [cnt]
  | succ k ih =>
    show cnt (x &&& sAll M) k + _ = _
    rw [ih, tb_and]
    by_cases h : k < M
    · rw [show min (k + 1) M = min k M + 1 by omega, show min k M = k by omega]
      show _ = cnt x k + _
      rw [tb_all (by omega) (by omega)]; simp [h]
    · rw [show min (k + 1) M = min k M by omega]
      by_cases h2 : k < 32
      · rw [tb_all (by omega) h2]; simp [h]
      · rw [tb_hi (x := sAll M) (by omega)]; simp
theorem bc_all {x : Int32} {M : Nat} (hM : M ≤ 8) : bc (x &&& sAll M) = mI (cnt x M) := by
  rw [bc_cnt (lo8_and (lo8_all hM)), cnt_all hM, show min 8 M = M by omega]
