/-! PURE LAYER: sets that grow or shrink come to rest -/
theorem lp2_eqa {a1 a2 β : Type} {B : (a1 → a2 → Option β) → a1 → a2 → Option β} (x1 : Nat → a1) (x2 : Nat → a2) (n N : Nat) (R : Option β) (hN : n < N) {y1 : a1} {y2 : a2} (e1 : y1 = x1 0) (e2 : y2 = x2 0) (hs : ∀ (k : Nat) (rec : a1 → a2 → Option β), k < n → B rec (x1 k) (x2 k) = rec (x1 (k + 1)) (x2 (k + 1))) (he : ∀ rec : a1 → a2 → Option β, B rec (x1 n) (x2 n) = R) : u_lp2 B N y1 y2 = R := by
  rw [e1, e2]; exact lp2_eq x1 x2 n N R hN hs he
theorem lp3_eqa {a1 a2 a3 β : Type} {B : (a1 → a2 → a3 → Option β) → a1 → a2 → a3 → Option β} (x1 : Nat → a1) (x2 : Nat → a2) (x3 : Nat → a3) (n N : Nat) (R : Option β) (hN : n < N) {y1 : a1} {y2 : a2} {y3 : a3} (e1 : y1 = x1 0) (e2 : y2 = x2 0) (e3 : y3 = x3 0) (hs : ∀ (k : Nat) (rec : a1 → a2 → a3 → Option β), k < n → B rec (x1 k) (x2 k) (x3 k) = rec (x1 (k + 1)) (x2 (k + 1)) (x3 (k + 1))) (he : ∀ rec : a1 → a2 → a3 → Option β, B rec (x1 n) (x2 n) (x3 n) = R) : u_lp3 B N y1 y2 y3 = R := by
  rw [e1, e2, e3]; exact lp3_eq x1 x2 x3 n N R hN hs he
theorem lp4_eqa {a1 a2 a3 a4 β : Type} {B : (a1 → a2 → a3 → a4 → Option β) → a1 → a2 → a3 → a4 → Option β} (x1 : Nat → a1) (x2 : Nat → a2) (x3 : Nat → a3) (x4 : Nat → a4) (n N : Nat) (R : Option β) (hN : n < N) {y1 : a1} {y2 : a2} {y3 : a3} {y4 : a4} (e1 : y1 = x1 0) (e2 : y2 = x2 0) (e3 : y3 = x3 0) (e4 : y4 = x4 0) (hs : ∀ (k : Nat) (rec : a1 → a2 → a3 → a4 → Option β), k < n → B rec (x1 k) (x2 k) (x3 k) (x4 k) = rec (x1 (k + 1)) (x2 (k + 1)) (x3 (k + 1)) (x4 (k + 1))) (he : ∀ rec : a1 → a2 → a3 → a4 → Option β, B rec (x1 n) (x2 n) (x3 n) (x4 n) = R) : u_lp4 B N y1 y2 y3 y4 = R := by
  rw [e1, e2, e3, e4]; exact lp4_eq x1 x2 x3 x4 n N R hN hs he
theorem mle {a b : Nat} (ha : a < 1000000) (hb : b < 1000000) (h : a ≤ b) : mI a ≤ mI b := by rw [mI_le ha hb]; exact h
theorem mnle {a b : Nat} (ha : a < 1000000) (hb : b < 1000000) (h : b < a) : ¬ mI a ≤ mI b := by rw [mI_le ha hb]; omega
theorem mlt {a b : Nat} (ha : a < 1000000) (hb : b < 1000000) (h : a < b) : mI a < mI b := by rw [mI_lt ha hb]; exact h
theorem mnlt {a b : Nat} (ha : a < 1000000) (hb : b < 1000000) (h : b ≤ a) : ¬ mI a < mI b := by rw [mI_lt ha hb]; omega
theorem lle (x : Int32) (a : Nat) {b : Nat} (e : x = mI a) (ha : a < 1000000) (hb : b < 1000000) (h : a ≤ b) : x ≤ mI b := by rw [e]; exact mle ha hb h
theorem lnle (x : Int32) (a : Nat) {b : Nat} (e : x = mI a) (ha : a < 1000000) (hb : b < 1000000) (h : b < a) : ¬ x ≤ mI b := by rw [e]; exact mnle ha hb h
theorem llt (x : Int32) (a : Nat) {b : Nat} (e : x = mI a) (ha : a < 1000000) (hb : b < 1000000) (h : a < b) : x < mI b := by rw [e]; exact mlt ha hb h
theorem lnlt (x : Int32) (a : Nat) {b : Nat} (e : x = mI a) (ha : a < 1000000) (hb : b < 1000000) (h : b ≤ a) : ¬ x < mI b := by rw [e]; exact mnlt ha hb h
theorem rle (x : Int32) (a : Nat) {b : Nat} (e : x = mI a) (ha : a < 1000000) (hb : b < 1000000) (h : b ≤ a) : mI b ≤ x := by rw [e]; exact mle hb ha h
theorem rnle (x : Int32) (a : Nat) {b : Nat} (e : x = mI a) (ha : a < 1000000) (hb : b < 1000000) (h : a < b) : ¬ mI b ≤ x := by rw [e]; exact mnle hb ha h
theorem rlt (x : Int32) (a : Nat) {b : Nat} (e : x = mI a) (ha : a < 1000000) (hb : b < 1000000) (h : b < a) : mI b < x := by rw [e]; exact mlt hb ha h
theorem rnlt (x : Int32) (a : Nat) {b : Nat} (e : x = mI a) (ha : a < 1000000) (hb : b < 1000000) (h : a ≤ b) : ¬ mI b < x := by rw [e]; exact mnlt hb ha h
theorem or_a (x y z : Int32) : (x ||| y) ||| z = x ||| (y ||| z) := by
  apply tb_ext; intro i _; rw [tb_or, tb_or, tb_or, tb_or]; cases tb x i <;> simp
def sub (x y : Int32) : Prop := ∀ i, tb x i = true → tb y i = true
theorem sub.rfl {x : Int32} : sub x x := fun _ h => h
theorem sub_or (x y : Int32) : sub x (x ||| y) := fun i h => by rw [tb_or, h]; simp
theorem cnt_mono {x y : Int32} (h : sub x y) : ∀ k, cnt x k ≤ cnt y k
  | 0 => Nat.le_refl _
  | k + 1 => by
    have ih := cnt_mono h k
    show cnt x k + _ ≤ cnt y k + _
    cases hx : tb x k
    · simp; omega
    · rw [h k hx]; simp; omega
theorem cnt_strict {x y : Int32} (h : sub x y) : ∀ k, (∃ i, i < k ∧ tb x i = false ∧ tb y i = true) → cnt x k < cnt y k
  | 0, ⟨i, hi, _⟩ => absurd hi (by omega)
  | k + 1, ⟨i, hi, h1, h2⟩ => by
    show cnt x k + _ < cnt y k + _
    by_cases hik : i = k
    · subst hik
      have := cnt_mono h i
      rw [h1, h2]; simp; omega
    · have ih := cnt_strict h k ⟨i, by omega, h1, h2⟩
      cases hx : tb x k
      · simp; omega
      · rw [h k hx]; simp; omega
theorem sub_ne {x y : Int32} (h : sub x y) (hy : lo8 y) (hne : x ≠ y) : cnt x 8 < cnt y 8 := by
  refine cnt_strict h 8 (Classical.byContradiction fun hno => hne (tb_ext fun i hi => ?_))
  cases hx : tb x i
  · cases hy2 : tb y i
    · rfl
    · by_cases h8 : i < 8
      · exact absurd ⟨i, h8, hx, hy2⟩ hno
      · rw [hy i (by omega)] at hy2; cases hy2
  · rw [h i hx]
/-- a row of sets, each made of the one ahead, that moves at most eight times -/
theorem chain {K : Nat → Int32} {f : Int32 → Int32} (hf : ∀ i, K (i + 1) = f (K i)) (c : Int32 → Nat) (hc : ∀ i, c (K i) ≤ 8) (hs : ∀ i, K (i + 1) ≠ K i → c (K i) < c (K (i + 1))) : ∃ i0, i0 ≤ 8 ∧ (∀ i, i < i0 → K (i + 1) ≠ K i) ∧ ∀ i, i0 ≤ i → K i = K i0 := by
  have hg : ∀ n, (∀ i, i < n → K (i + 1) ≠ K i) → n ≤ c (K n) := by
    intro n
    induction n with
    | zero => intro _; exact Nat.zero_le _
    | succ n ih =>
      intro h
      have := ih (fun i hi => h i (by omega))
      have := hs n (h n (by omega))
      omega
  have hex : ∃ i0, i0 ≤ 8 ∧ K (i0 + 1) = K i0 := by
    apply Classical.byContradiction
    intro hno
    have := hg 9 (fun i hi he => hno ⟨i, by omega, he⟩)
    have := hc 9
    omega
  have hmin : ∀ n, (∃ i, i ≤ n ∧ K (i + 1) = K i) → ∃ i0, i0 ≤ n ∧ K (i0 + 1) = K i0 ∧ ∀ i, i < i0 → K (i + 1) ≠ K i := by
    intro n
    induction n with
    | zero => rintro ⟨i, hi, h⟩; exact ⟨0, by omega, by rw [show i = 0 by omega] at h; exact h, fun i hi => absurd hi (by omega)⟩
    | succ n ih =>
      rintro ⟨i, hi, h⟩
      by_cases hh : ∃ i, i ≤ n ∧ K (i + 1) = K i
      · obtain ⟨i0, g1, g2, g3⟩ := ih hh
        exact ⟨i0, by omega, g2, g3⟩
      · refine ⟨i, hi, h, fun q hq he => hh ⟨q, by omega, he⟩⟩
  obtain ⟨i0, h1, h2, h3⟩ := hmin 8 hex
  refine ⟨i0, h1, h3, fun i hi => ?_⟩
  obtain ⟨d, rfl⟩ : ∃ d, i = i0 + d := ⟨i - i0, by omega⟩
  clear hi
  induction d with
  | zero => rfl
  | succ d ih => rw [show i0 + (d + 1) = i0 + d + 1 by omega, hf, ih, ← hf, h2]
theorem and_sub {x p : Int32} : (x &&& (p ^^^ (-1)) = 0) ↔ sub x p := by
  constructor
  · intro h i hi
    by_cases h32 : i < 32
    · have := congrArg (fun z => tb z i) h
      simp only [tb_and, tb_not h32, tb_0, hi, Bool.true_and] at this
      cases hp : tb p i
      · rw [hp] at this; simp at this
      · rfl
    · rw [tb_hi (by omega)] at hi; cases hi
  · intro h
    apply tb_ext
    intro i hi
    rw [tb_and, tb_not hi, tb_0]
    cases hx : tb x i
    · rfl
    · rw [h i hx]; rfl
theorem or0 (x : Int32) : x ||| 0 = x := by
  apply tb_ext
  intro i _
  rw [tb_or, tb_0]; simp
def kCond (v e : Nat → Int32) (M : Nat) (p : Int32) (k : Nat) : Prop := v k < e k ∧ (v (8 + k) &&& sAll M) &&& (p ^^^ (-1)) = 0
def sKn (v e : Nat → Int32) (M : Nat) (p : Int32) : Nat → Int32
  | 0 => 0
  | k + 1 => sKn v e M p k ||| (if v k < e k then (if (v (8 + k) &&& sAll M) &&& (p ^^^ (-1)) = 0 then 1 <<< (mI k &&& 31) else 0) else 0)
theorem tb_sKn {v e : Nat → Int32} {M : Nat} {p : Int32} : ∀ k i, k ≤ 8 → (tb (sKn v e M p k) i = true ↔ i < k ∧ kCond v e M p i)
  | 0, i, _ => ⟨fun h => (by rw [show sKn v e M p 0 = 0 from rfl, tb_0] at h; exact Bool.noConfusion h), fun h => absurd h.1 (by omega)⟩
  | k + 1, i, hk => by
    have ih := tb_sKn (v := v) (e := e) (M := M) (p := p) k i (by omega)
    show tb (sKn v e M p k ||| _) i = true ↔ _
    rw [tb_or, Bool.or_eq_true, ih]
    have hb : tb (if v k < e k then (if (v (8 + k) &&& sAll M) &&& (p ^^^ (-1)) = 0 then (1 : Int32) <<< (mI k &&& 31) else 0) else 0) i = true ↔ i = k ∧ kCond v e M p k := by
      unfold kCond
      by_cases h1 : v k < e k
      · rw [if_pos h1]
        by_cases h2 : (v (8 + k) &&& sAll M) &&& (p ^^^ (-1)) = 0
        · rw [if_pos h2]
          by_cases h32 : i < 32
          · rw [tb_1 (by omega) h32]
            exact ⟨fun h => ⟨of_decide_eq_true h, h1, h2⟩, fun h => decide_eq_true h.1⟩
          · rw [tb_hi (by omega)]
            exact ⟨fun h => Bool.noConfusion h, fun h => absurd h.1 (by omega)⟩
        · rw [if_neg h2, tb_0]
          exact ⟨fun h => Bool.noConfusion h, fun h => absurd h.2.2 h2⟩
      · rw [if_neg h1, tb_0]
        exact ⟨fun h => Bool.noConfusion h, fun h => absurd h.2.1 h1⟩
    rw [hb]
    constructor
    · rintro (⟨h1, h2⟩ | ⟨rfl, h2⟩)
      · exact ⟨by omega, h2⟩
      · exact ⟨by omega, h2⟩
    · rintro ⟨h1, h2⟩
      by_cases hik : i = k
      · right; subst hik; exact ⟨rfl, h2⟩
      · left; exact ⟨by omega, h2⟩
theorem c_kD {N M F : Nat} {σ : uS} {v e : Nat → Int32} (p : Int32) (hS : cS σ 32 M F v e) (hM8 : M ≤ 8) (hN : 500 < N) : f_X11_knowsDeeper N σ p = some (sKn v e M p M) := by
  have t8 := hS.2.2.2.2.2.2.2.1
  unfold f_X11_knowsDeeper
  simp only [jn_eq]
  refine lp2_eq (sKn v e M p) mI M N _ (by omega) (fun k rec hk => ?_) (fun rec => ?_)
  · unfold b_X11_knowsDeeper_4
    have q1 : σ.1 (32 + 2) k = v k := hS.1 k hk
    have q2 : σ.1 (32 + 4) k = e k := hS.2.2.1 k hk
    have q3 : σ.1 (32 + 5) k = v (8 + k) := hS.2.1 k hk
    rw [t8, if_neg (by rw [mI_le (by omega) (by omega)]; omega), c_isIn (by omega) (by omega) (by omega) (by omega), o_bind, q1, q2, c_seenBy (by omega) (by omega) (by omega) t8 (by omega), q3]
    simp only [jn_eq, o_bind, mI_succ]
    show _ = rec (sKn v e M p k ||| _) _
    by_cases h1 : v k < e k
    · by_cases h2 : (v (8 + k) &&& sAll M) &&& (p ^^^ (-1)) = 0
      · simp only [h1, h2, if_true]
      · simp only [h1, h2, if_true, if_false, or0]
    · simp only [h1, if_false, i10, or0]
  · unfold b_X11_knowsDeeper_4
    rw [t8, if_pos (by rw [mI_le (by omega) (by omega)]; omega)]
theorem m_kD {N M : Nat} {σ : uS} (p : Int32) (hM : σ.1 0 2 = mI M) (hM8 : M ≤ 8) (hN : 500 < N) : f_X12_knowBy N σ p = some (sKn (σ.1 1) (σ.1 2) M p M) := by
  have v1 : (1 : Nat) = 1 ∨ (1 : Nat) = 10 ∨ (1 : Nat) = 11 ∨ (1 : Nat) = 12 := by omega
  unfold f_X12_knowBy
  simp only [jn_eq]
  refine lp2_eq (sKn (σ.1 1) (σ.1 2) M p) mI M N _ (by omega) (fun k rec hk => ?_) (fun rec => ?_)
  · unfold b_X12_knowBy_4
    rw [hM, if_neg (by rw [mI_le (by omega) (by omega)]; omega), m_isIn v1 (by omega), o_bind, m_sees v1 hM (by omega)]
    simp only [jn_eq, o_bind, mI_succ]
    show _ = rec (sKn (σ.1 1) (σ.1 2) M p k ||| _) _
    by_cases h1 : σ.1 1 k < σ.1 2 k
    · by_cases h2 : (σ.1 1 (8 + k) &&& sAll M) &&& (p ^^^ (-1)) = 0
      · simp only [h1, h2, if_true]
      · simp only [h1, h2, if_true, if_false]
    · simp only [h1, if_false, i10]
  · unfold b_X12_knowBy_4
    rw [hM, if_pos (by rw [mI_le (by omega) (by omega)]; omega)]
def kN (v e : Nat → Int32) (M : Nat) : Nat → Int32
  | 0 => sAll M &&& (sIn v e M ^^^ (-1))
  | i + 1 => sKn v e M (kN v e M i) M
theorem kN_chain {v e : Nat → Int32} {M : Nat} (hM : M ≤ 8) : ∃ i0, i0 ≤ 8 ∧ (∀ i, i < i0 → kN v e M (i + 1) ≠ kN v e M i) ∧ ∀ i, i0 ≤ i → kN v e M i = kN v e M i0 := by
  have hl : ∀ i, lo8 (kN v e M i) := by
    intro i
    cases i with
    | zero => exact lo8_andl (lo8_all hM)
    | succ i => intro q hq; cases h : tb (kN v e M (i + 1)) q with
      | false => rfl
      | true => have := ((tb_sKn M q hM).mp h).1; omega
  have hsub : ∀ i, sub (kN v e M (i + 1)) (kN v e M i) := by
    intro i
    induction i with
    | zero =>
      intro q hq
      obtain ⟨h1, h2, -⟩ := (tb_sKn M q hM).mp hq
      show tb (sAll M &&& (sIn v e M ^^^ (-1))) q = true
      rw [tb_and, tb_all (by omega) (by omega), tb_not (by omega), tb_sIn M q hM]
      simp [h1, h2]
    | succ i ih =>
      intro q hq
      obtain ⟨h1, h2, h3⟩ := (tb_sKn M q hM).mp hq
      exact (tb_sKn M q hM).mpr ⟨h1, h2, and_sub.mpr (fun r hr => ih r (and_sub.mp h3 r hr))⟩
  refine chain (f := fun p => sKn v e M p M) (fun i => rfl) (fun x => 8 - cnt x 8) (fun i => by omega) (fun i hne => ?_)
  have := sub_ne (hsub i) (hl i) hne
  have := cnt_le (kN v e M i) 8
  omega
theorem n_s25_ok (N j : Nat) (hN : 500 < N) : n_s25 N (Rel N j) (Rel N (j + 1)) := by
  intro σc σm h a1
  have h := h.thr
  refine two ?_
  unfold f_X12_knows f_X11_knows
  simp only [jn_eq]
  generalize u_pI σm 0 8 0 = s1 at h ⊢
  have hmono := h.mono
  obtain ⟨M, F, ρ, hC, hTo⟩ := h
  obtain ⟨b1, b2, b3, b4, b5, b6, b7⟩ := id hC.1
  have v1 : (1 : Nat) = 1 ∨ (1 : Nat) = 10 ∨ (1 : Nat) = 11 ∨ (1 : Nat) = 12 := by omega
  rw [m_in, o_bind]
  by_cases c1 : a1 < 0
  · rw [if_pos c1, if_pos c1, if_pos rfl, ok_some, ok_some]
    exact ⟨rfl, hmono⟩
  by_cases c2 : 9 < a1
  · rw [if_neg c1, if_neg (Int32.not_le.mpr c2), if_neg c1, if_pos c2, if_pos rfl, ok_some, ok_some]
    exact ⟨rfl, hmono⟩
  obtain ⟨k, -, hk, rfl⟩ := rng (p := a1) (lo := 0) (hi := 9) (by omega) (by omega) c1 c2
  rw [if_neg c1, if_pos (Int32.not_lt.mp c2), if_neg c1, if_neg c2, if_neg n10, c_outside (by omega) (by omega) (by omega) b6.2.2.2.2.2.2.2.1 b1 hN, sIn_cS b6, o_bind, m_all b5, o_bind, m_inBits v1 b5 b1 hN, o_bind]
  obtain ⟨i0, hi0, -, hst⟩ := kN_chain (v := s1.1 1) (e := s1.1 2) b1
  let D : Nat → Int32 := fun i => Nat.rec (motive := fun _ => Int32) 0 (fun i d => if kN (s1.1 1) (s1.1 2) M (i + 1) = kN (s1.1 1) (s1.1 2) M i then d else mI (i + 1)) i
  have hD : ∀ i, D (i + 1) = if kN (s1.1 1) (s1.1 2) M (i + 1) = kN (s1.1 1) (s1.1 2) M i then D i else mI (i + 1) := fun i => rfl
  have hD9 : ∀ i, 9 ≤ i → D i = D 9 := by
    intro i hi
    obtain ⟨d, rfl⟩ : ∃ d, i = 9 + d := ⟨i - 9, by omega⟩
    clear hi
    induction d with
    | zero => rfl
    | succ d ih => rw [show 9 + (d + 1) = 9 + d + 1 by omega, hD, if_pos (by rw [hst (9 + d + 1) (by omega), hst (9 + d) (by omega)]), ih]
  have hcl : ∀ J : Int32 → Int32 → Option (Int32 × uS), u_lp4 (b_X11_knows_28 N σc (mI k) J) N (kN (s1.1 1) (s1.1 2) M 0) (kN (s1.1 1) (s1.1 2) M 0) 0 1 = J (kN (s1.1 1) (s1.1 2) M k) (D 9) := by
    intro J
    refine lp4_eqa (fun i => kN (s1.1 1) (s1.1 2) M i) (fun i => if i < k then kN (s1.1 1) (s1.1 2) M 0 else kN (s1.1 1) (s1.1 2) M k) D (fun i => mI (i + 1)) 9 N _ (by omega) rfl ?_ rfl rfl (fun i rec hi => ?_) (fun rec => ?_)
    · by_cases h0 : 0 < k
      · rw [if_pos h0]
      · rw [if_neg h0, show k = 0 by omega]
    · unfold b_X11_knows_28
      rw [if_neg (by rw [show (9 : Int32) = mI 9 from rfl, mI_lt (by omega) (by omega)]; omega), c_kD _ b6 b1 hN, o_bind]
      simp only [jn_eq, mI_succ, mI_eq (show i + 1 < 1000000 by omega) (show k < 1000000 by omega)]
      show _ = rec (sKn (s1.1 1) (s1.1 2) M (kN (s1.1 1) (s1.1 2) M i) M) (if i + 1 < k then _ else _) (D (i + 1)) _
      rw [hD]
      show _ = rec _ _ (if sKn (s1.1 1) (s1.1 2) M (kN (s1.1 1) (s1.1 2) M i) M = kN (s1.1 1) (s1.1 2) M i then D i else mI (i + 1)) _
      have hkn : (if i + 1 = k then sKn (s1.1 1) (s1.1 2) M (kN (s1.1 1) (s1.1 2) M i) M else if i < k then kN (s1.1 1) (s1.1 2) M 0 else kN (s1.1 1) (s1.1 2) M k) = if i + 1 < k then kN (s1.1 1) (s1.1 2) M 0 else kN (s1.1 1) (s1.1 2) M k := by
        by_cases h1 : i + 1 = k
        · rw [if_pos h1, if_neg (by omega), ← h1]; rfl
        · rw [if_neg h1]
          by_cases h2 : i < k
          · rw [if_pos h2, if_pos (by omega)]
          · rw [if_neg h2, if_neg (by omega)]
      rw [← hkn]
      by_cases h1 : i + 1 = k
      · by_cases h2 : sKn (s1.1 1) (s1.1 2) M (kN (s1.1 1) (s1.1 2) M i) M = kN (s1.1 1) (s1.1 2) M i
        · simp only [if_pos h1, if_pos h2]
        · simp only [if_pos h1, if_neg h2]
      · by_cases h2 : sKn (s1.1 1) (s1.1 2) M (kN (s1.1 1) (s1.1 2) M i) M = kN (s1.1 1) (s1.1 2) M i
        · simp only [if_neg h1, if_pos h2]
        · simp only [if_neg h1, if_neg h2]
    · unfold b_X11_knows_28
      rw [if_pos (by rw [show (9 : Int32) = mI 9 from rfl, mI_lt (by omega) (by omega)]; omega), if_neg (by omega)]
  have hml : ∀ J : Int32 → Int32 → Option (Int32 × uS), u_lp4 (b_X12_knows_41 N (mI k) s1 J) N (kN (s1.1 1) (s1.1 2) M 0) (kN (s1.1 1) (s1.1 2) M 0) 0 1 = J (kN (s1.1 1) (s1.1 2) M k) (D 9) := by
    intro J
    refine lp4_eqa (fun i => kN (s1.1 1) (s1.1 2) M i) (fun i => kN (s1.1 1) (s1.1 2) M (min i k)) D (fun i => mI (i + 1)) 17 N _ (by omega) rfl (by rw [show min 0 k = 0 by omega]) rfl rfl (fun i rec hi => ?_) (fun rec => ?_)
    · unfold b_X12_knows_41
      rw [if_neg (by rw [show (17 : Int32) = mI 17 from rfl, mI_lt (by omega) (by omega)]; omega), m_kD _ b5 b1 hN, o_bind]
      simp only [jn_eq, mI_succ, mI_lt (show k < 1000000 by omega) (show i + 1 < 1000000 by omega)]
      rw [hD]
      show _ = rec (sKn (s1.1 1) (s1.1 2) M (kN (s1.1 1) (s1.1 2) M i) M) _ (if sKn (s1.1 1) (s1.1 2) M (kN (s1.1 1) (s1.1 2) M i) M = kN (s1.1 1) (s1.1 2) M i then D i else mI (i + 1)) _
      have hkn : (if k < i + 1 then kN (s1.1 1) (s1.1 2) M (min i k) else sKn (s1.1 1) (s1.1 2) M (kN (s1.1 1) (s1.1 2) M i) M) = kN (s1.1 1) (s1.1 2) M (min (i + 1) k) := by
        by_cases h1 : k < i + 1
        · rw [if_pos h1, show min i k = k by omega, show min (i + 1) k = k by omega]
        · rw [if_neg h1, show min (i + 1) k = i + 1 by omega]; rfl
      rw [← hkn]
      by_cases h1 : k < i + 1
      · by_cases h2 : sKn (s1.1 1) (s1.1 2) M (kN (s1.1 1) (s1.1 2) M i) M = kN (s1.1 1) (s1.1 2) M i
        · simp only [if_pos h1, if_pos h2]
        · simp only [if_pos h1, if_neg h2]
      · by_cases h2 : sKn (s1.1 1) (s1.1 2) M (kN (s1.1 1) (s1.1 2) M i) M = kN (s1.1 1) (s1.1 2) M i
        · simp only [if_neg h1, if_pos h2]
        · simp only [if_neg h1, if_neg h2]
    · unfold b_X12_knows_41
      rw [if_pos (by rw [show (17 : Int32) = mI 17 from rfl, mI_lt (by omega) (by omega)]; omega), show min 17 k = k by omega, hD9 17 (by omega)]
  have hc2 := hcl (fun (x2 : Int32) (x3 : Int32) => ((f_J6_bitCount_0f7a4 N σc x2).bind fun v5 => (f_X8_two N σc (Int32.toInt64 v5) (Int32.toInt64 x3)).bind fun s6 => some (x2, s6) : Option (Int32 × uS)))
  have hm2 := hml (fun (x6 : Int32) (x7 : Int32) => ((f_J6_bitCount_0f7a4 N (u_pI s1 0 7 0) x6).bind fun v10 => (f_X12_tell N (u_pI s1 0 7 0) (Int32.toInt64 v10)).bind fun s11 => (f_X12_tell N s11 (Int32.toInt64 x7)).bind fun s12 => some (x6, s12) : Option (Int32 × uS)))
  simp only [bc_f, o_bind, c_two] at hc2
  simp only [bc_f, o_bind, m_tell0, m_tell1] at hm2
  simp only [bc_f, o_bind, c_two, m_tell0, m_tell1]
  exact ok_of hc2 (ok_of hm2 ⟨rfl, rel_look2 hC fr.rfl mfr.rfl _ _⟩)
