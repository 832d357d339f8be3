/-! PURE LAYER: reading texts -/
def hh (x : Nat → Int32) (n top p : Nat) : Int32 := if p < n ∧ p < top then x p &&& 255 else -1
def rdS (t : uS) (q n top p : Nat) : Prop := t.2.2 0 9 = some q ∧ t.1 0 10 = mI n ∧ t.1 0 11 = mI top ∧ t.1 0 12 = mI p ∧ t.1 0 13 = -1
def qOK (q n : Nat) : Prop := (q = 3 ∧ n ≤ 80) ∨ ((q = 6 ∨ q = 7) ∧ n ≤ 40)
theorem qOK.le {q n : Nat} (h : qOK q n) : n ≤ 80 := by unfold qOK at h; omega
theorem m_rd8 {t : uS} {q n k : Nat} (hq : qOK q n) (hk : k < n) : u_rI ZM t 2 q (mI k) = some (t.1 q k) := by
  rcases hq with ⟨rfl, h⟩ | ⟨rfl | rfl, h⟩
  · exact mr_3 (by omega)
  · exact mr_6 (by omega)
  · exact mr_7 (by omega)
theorem byte_pos {x : Int32} {c : Nat} (h : u_nar 2 x = x) (hc : c < 128) (he : x &&& 255 = mI c) : x = mI c := by
  have e : u_nar 2 x = Int8.toInt32 (Int32.toInt8 x) := rfl
  rw [e] at h
  have e2 : (Int8.toInt32 (Int32.toInt8 x)).toBitVec = (x.toBitVec.signExtend 8).signExtend 32 := rfl
  have hs : ∀ i, i < 32 → 8 ≤ i → tb x i = tb x 7 := by
    intro i hi h8
    have h2 : tb x i = tb (Int8.toInt32 (Int32.toInt8 x)) i := by rw [h]
    rw [h2]
    unfold tb
    rw [e2, BitVec.getLsbD_signExtend, BitVec.msb_signExtend]
    have h3 : ¬ i < 8 := by omega
    simp [hi, h3, BitVec.getMsbD]
  have h7 : tb x 7 = false := by
    have h2 : tb (x &&& 255) 7 = tb (mI c) 7 := by rw [he]
    rw [tb_and, tb_255 (by omega), tb_mI] at h2
    have h3 : c.testBit 7 = false := Nat.testBit_lt_two_pow (by omega)
    rw [h3] at h2
    simpa using h2
  rw [← he]
  apply tb_ext
  intro i hi
  rw [tb_and, tb_255 hi]
  by_cases h8 : i < 8
  · simp [h8]
  · rw [hs i hi (by omega), h7]; rfl
theorem and255 (x : Int32) : ∃ c, c < 256 ∧ x &&& 255 = mI c := by
  obtain ⟨n, h1, h2⟩ := lo8_nat (x := x &&& 255) (fun i hi => by
    by_cases h : i < 32
    · rw [tb_and, tb_255 h]
      have : ¬ i < 8 := by omega
      simp [this]
    · rw [tb_hi (by omega)])
  exact ⟨n, h1, h2⟩
theorem hh_in {x : Nat → Int32} {n top p : Nat} (h : p < n ∧ p < top) : hh x n top p = x p &&& 255 := if_pos h
theorem hh_out {x : Nat → Int32} {n top p : Nat} (h : ¬ (p < n ∧ p < top)) : hh x n top p = -1 := if_neg h
section RD
variable {N q n top p : Nat} {t : uS}
theorem m_here (h : rdS t q n top p) (hq : qOK q n) (ht : top < 1000) (hp : p < 1000) : f_X12_here N t = some (hh (t.1 q) n top p) := by
  obtain ⟨h1, h2, h3, h4, h5⟩ := h
  have hn := hq.le
  unfold f_X12_here
  simp only [jn_eq]
  rw [h2, h3, h4]
  by_cases c1 : p < n
  · rw [if_neg (mnle (by omega) (by omega) c1)]
    by_cases c2 : p < top
    · rw [if_neg (mnle (by omega) (by omega) c2), h1, o_bind, m_rd8 hq c1, o_bind, hh_in ⟨c1, c2⟩]
    · rw [if_pos (mle (by omega) (by omega) (by omega)), hh_out (fun h => c2 h.2)]
  · rw [if_pos (mle (by omega) (by omega) (by omega)), hh_out (fun h => c1 h.1)]
theorem m_fine1 (h : t.1 0 13 = -1) : f_X12_fine N t = some 1 := by unfold f_X12_fine; rw [if_pos h]
theorem m_fine0 (h : t.1 0 13 ≠ -1) : f_X12_fine N t = some 0 := by unfold f_X12_fine; rw [if_neg h]
theorem m_fault1 {x : Int32} (h : t.1 0 13 = -1) : f_X12_fault N t x = some (u_pI t 0 13 x) := by
  unfold f_X12_fault
  rw [m_fine1 h, o_bind, if_neg n10, jn_eq]
theorem m_fault0 {x : Int32} (h : t.1 0 13 ≠ -1) : f_X12_fault N t x = some t := by
  unfold f_X12_fault
  rw [m_fine0 h, o_bind, if_pos rfl]
theorem m_passes1 {c : Int32} (h : rdS t q n top p) (hq : qOK q n) (ht : top < 1000) (hp : p < 1000) : f_X12_passes N t c = some (if hh (t.1 q) n top p = c then (1, u_pI t 0 12 (mI (p + 1))) else (0, t)) := by
  unfold f_X12_passes
  rw [m_fine1 h.2.2.2.2, o_bind, if_neg n10, m_here h hq ht hp, o_bind]
  by_cases hc : hh (t.1 q) n top p = c
  · rw [if_pos hc, if_pos hc, jn_eq, h.2.2.2.1, mI_succ]
  · rw [if_neg hc, if_neg hc]
theorem m_passes0 {c : Int32} (h : t.1 0 13 ≠ -1) : f_X12_passes N t c = some (0, t) := by
  unfold f_X12_passes
  rw [m_fine0 h, o_bind, if_pos rfl]
theorem m_oneOf0 {a b : Int32} (h : t.1 0 13 ≠ -1) : f_X12_oneOf N t a b = some (0, t) := by
  unfold f_X12_oneOf
  rw [m_fine0 h, o_bind, if_pos rfl]
/-- one of some signs that stand beside each other -/
def inR (x : Int32) (a b : Nat) : Bool := !decide (x < mI a) && !decide (mI b < x)
theorem inR_iff {x : Int32} {a b : Nat} (ha : a < 256) (hb : b < 256) : inR x a b = true ↔ ∃ c, c < 256 ∧ x = mI c ∧ a ≤ c ∧ c ≤ b := by
  unfold inR
  rw [Bool.and_eq_true, Bool.not_eq_true', Bool.not_eq_true', decide_eq_false_iff_not, decide_eq_false_iff_not]
  constructor
  · rintro ⟨h1, h2⟩
    obtain ⟨n, g1, g2, g3⟩ := rng (by omega) (by omega) h1 h2
    exact ⟨n, by omega, g3, g1, g2⟩
  · rintro ⟨c, h1, rfl, h2, h3⟩
    exact ⟨mnlt (by omega) (by omega) h2, mnlt (by omega) (by omega) h3⟩
theorem in_is {x : Int32} {a b : Nat} : (if x < mI a then (0 : Int32) else if mI b < x then 0 else 1) = if inR x a b then 1 else 0 := by
  unfold inR
  by_cases h1 : x < mI a
  · rw [if_pos h1, decide_eq_true h1]; rfl
  · rw [if_neg h1, decide_eq_false h1]
    by_cases h2 : mI b < x
    · rw [if_pos h2, decide_eq_true h2]; rfl
    · rw [if_neg h2, decide_eq_false h2]; rfl
theorem hh_sm (x : Nat → Int32) (n top p : Nat) : hh x n top p = -1 ∨ ∃ c, c < 256 ∧ hh x n top p = mI c := by
  by_cases h : p < n ∧ p < top
  · right; rw [hh_in h]; exact and255 _
  · left; exact hh_out h
theorem inR_m1 {a b : Nat} (ha : a < 256) (hb : b < 256) : inR (-1) a b = false := by
  cases h : inR (-1) a b
  · rfl
  · obtain ⟨c, h2, h3, -⟩ := (inR_iff ha hb).mp h
    have := (m1_le c (by omega)).2
    rw [← h3] at this
    exact absurd this (by decide)
theorem inR_lt {x : Nat → Int32} {n top p a b : Nat} (ha : a < 256) (hb : b < 256) (h : inR (hh x n top p) a b = true) : p < n ∧ p < top := by
  apply Classical.byContradiction
  intro hn
  rw [hh_out hn, inR_m1 ha hb] at h
  cases h
theorem m_oneOf1 {a m : Nat} (h : rdS t q n top p) (hq : qOK q n) (ht : top < 1000) (hp : p < 1000) (hb : ∀ k, k < n → u_nar 2 (t.1 q k) = t.1 q k) (hm : 0 < m) (ham : a + m ≤ 128) : f_X12_oneOf N t (mI a) (mI m) = some (if inR (hh (t.1 q) n top p) a (a + m - 1) then (hh (t.1 q) n top p - mI a, u_pI t 0 12 (mI (p + 1))) else (0, u_pI t 0 13 (mI p))) := by
  unfold f_X12_oneOf
  rw [m_fine1 h.2.2.2.2, o_bind, if_neg n10, m_here h hq ht hp, o_bind, m_in, o_bind, mI_add, mI_pred (by omega) (by omega), in_is]
  cases hr : inR (hh (t.1 q) n top p) a (a + m - 1)
  · simp only [Bool.false_eq_true, if_false, if_true]
    rw [m_fault1 h.2.2.2.2, o_bind, h.2.2.2.1]
  · simp only [if_true, i10, if_false, jn_eq]
    have hlt := inR_lt (by omega) (by omega) hr
    obtain ⟨c, h1, h2, h3⟩ := (inR_iff (by omega) (by omega)).mp hr
    have hx : t.1 q p = mI c := byte_pos (hb p hlt.1) (by omega) (by rw [← h2, hh_in hlt])
    have hq0 : q ≠ 0 := by unfold qOK at hq; omega
    rw [p_IL, h.1, o_bind, p_II, h.2.2.2.1, mI_succ, mI_pred (by omega) (by omega), show p + 1 - 1 = p by omega, m_rd8 hq hlt.1, o_bind, p_Ia hq0, hx, h2]
theorem m_right1 (h : rdS t q n top p) (hn : n < 1000) (hp : p < 1000) : f_X12_wasRight N t = some (if n ≤ p then (1, t) else (0, u_pI t 0 13 (mI p))) := by
  unfold f_X12_wasRight
  simp only [jn_eq]
  rw [h.2.1, h.2.2.2.1]
  by_cases c1 : n ≤ p
  · rw [if_pos (mle (by omega) (by omega) c1), if_pos c1, m_fine1 h.2.2.2.2, o_bind, o_ck (Or.inr rfl)]
  · rw [if_neg (mnle (by omega) (by omega) (by omega)), if_neg c1, m_fault1 h.2.2.2.2, o_bind, m_fine0 (by rw [p_II]; intro hh; exact absurd (m1_le p (by omega)).2 (by rw [hh]; decide)), o_bind, o_ck (Or.inl rfl)]
theorem m_right0 (h : t.1 0 13 ≠ -1) : f_X12_wasRight N t = some (0, t) := by
  unfold f_X12_wasRight
  simp only [jn_eq]
  by_cases c1 : t.1 0 10 ≤ t.1 0 12
  · rw [if_pos c1, m_fine0 h, o_bind, o_ck (Or.inl rfl)]
  · rw [if_neg c1, m_fault0 h, o_bind, m_fine0 h, o_bind, o_ck (Or.inl rfl)]
end RD
def BT (σ : uS) (top : Int32) : uS := u_pI (u_pI (u_pI (u_pI (u_pI (u_pR σ 0 9 (some 3)) 0 10 (σ.1 0 5)) 0 11 top) 0 12 0) 0 13 (-1)) 0 5 0
theorem m_bt {N : Nat} {σ : uS} {top : Int32} : f_X12_beginText N σ top = some (BT σ top) := rfl
def T5 (s : Nat) : Prop := s = 5 ∨ s = 10 ∨ s = 11 ∨ s = 12 ∨ s = 13 ∨ s = 18
theorem BT_fr (σ : uS) (top : Int32) : mfr (fun _ => False) T5 σ (BT σ top) := (((((mfr.rfl (S := fun _ => False) (T := T5)).pR).p0 (Or.inr (Or.inl rfl))).p0 (Or.inr (Or.inr (Or.inl rfl)))).p0 (Or.inr (Or.inr (Or.inr (Or.inl rfl))))).p0 (Or.inr (Or.inr (Or.inr (Or.inr (Or.inl rfl))))) |>.p0 (Or.inl rfl)
theorem BT_rd {σ : uS} {T top : Nat} (h : σ.1 0 5 = mI T) : rdS (BT σ (mI top)) 3 T top 0 ∧ (BT σ (mI top)).1 0 5 = 0 := by
  unfold BT
  refine ⟨⟨?_, ?_, ?_, ?_, ?_⟩, p_II _ _ _ _⟩
  · simp only [p_IL, p_RR]
  · rw [p_Is (by omega), p_Is (by omega), p_Is (by omega), p_Is (by omega), p_II, h]
  · rw [p_Is (by omega), p_Is (by omega), p_Is (by omega), p_II]
  · rw [p_Is (by omega), p_Is (by omega), p_II]; rfl
  · rw [p_Is (by omega), p_II]
theorem lead (P : Nat → Bool) : ∀ n, ∃ D, D ≤ n ∧ (∀ k, k < D → P k = true) ∧ (D < n → P D = false)
  | 0 => ⟨0, by omega, fun k hk => absurd hk (by omega), fun h => absurd h (by omega)⟩
  | n + 1 => by
    obtain ⟨D, h1, h2, h3⟩ := lead P n
    by_cases hD : D = n
    · subst hD
      cases hp : P D
      · exact ⟨D, by omega, h2, fun _ => hp⟩
      · exact ⟨D + 1, by omega, fun k hk => by
          by_cases hkD : k = D
          · rw [hkD]; exact hp
          · exact h2 k (by omega), fun h => absurd h (by omega)⟩
    · exact ⟨D, by omega, h2, fun _ => h3 (by omega)⟩
/-- the class's signs -/
theorem c_signAt {N p : Nat} {s : uS} (hp : p < 80) : f_X10_signAt N s (mI p) = some (s.1 2 p) := by
  unfold f_X10_signAt
  simp only [jn_eq]
  rw [if_neg (mI_n0 (by omega)), cl_2, o_bind, if_neg (mnle (a := 80) (by omega) (by omega) hp), cr_2 hp, o_bind]
theorem c_isDigit {N : Nat} {s : uS} {x : Int32} : f_X5_isDigit N s x = some (if inR x 48 57 then 1 else 0) := by
  have := in_is (x := x) (a := 48) (b := 57)
  unfold f_X5_isDigit
  simp only [jn_eq]
  rw [← this]
  show (if x < mI 48 then some 0 else if mI 57 < x then some 0 else some 1) = _
  split
  · rfl
  · split <;> rfl
theorem c_isLetter {N : Nat} {s : uS} {x : Int32} : f_X5_isLetter N s x = some (if inR x 97 104 then 1 else 0) := by
  have := in_is (x := x) (a := 97) (b := 104)
  unfold f_X5_isLetter
  simp only [jn_eq]
  rw [← this]
  show (if x < mI 97 then some 0 else if mI 105 ≤ x then some 0 else some 1) = _
  have e : (mI 105 ≤ x) = (mI 104 < x) := by
    apply propext
    rw [Int32.le_iff_toInt_le, Int32.lt_iff_toInt_lt, mI_int (by omega), mI_int (by omega)]; omega
  simp only [e]
  split
  · rfl
  · split <;> rfl
/-- all but THE TEXT, which is empty now, and the readers -/
def cX (S : Nat → Prop) (σ s : uS) : Prop := (∀ a, a ≠ 1 → ¬ S a → s.1 a = σ.1 a) ∧ s.1 1 1 = 0 ∧ s.2 = σ.2
def mX (σ t : uS) : Prop := (∀ c, c = 1 ∨ c = 2 ∨ c = 3 ∨ c = 9 ∨ c = 16 ∨ c = 18 ∨ c = 19 ∨ c = 20 → t.1 c = σ.1 c) ∧ (∀ s, s = 1 ∨ s = 2 ∨ s = 7 ∨ s = 17 ∨ s = 21 ∨ s = 29 ∨ s = 30 ∨ s = 33 → t.1 0 s = σ.1 0 s) ∧ (∀ q, q = 6 ∨ q = 7 → t.1 q = σ.1 q) ∧ t.1 0 5 = 0 ∧ t.2.1 = σ.2.1 ∧ ∀ s, s ≠ 9 → t.2.2 0 s = σ.2.2 0 s
theorem RelC.text0 {N j M F : Nat} {ρ : Rho} {σc σm s t : uS} {S : Nat → Prop} (h : RelC N j M F ρ σc σm) (hS : ∀ a, S a → (9 ≤ a ∧ a < 19) ∨ (22 ≤ a ∧ a < 32)) (hr : ∀ r, σc.2.2 0 13 = some r → ¬ S r ∧ ¬ S (r + 1)) (hc : cX S σc s) (hm : mX σm t) : RelC N (j + 1) M F ρ s t := by
  obtain ⟨a1, a2, a3, a4, a5, a6⟩ := h
  obtain ⟨c1, c2, c3⟩ := hc
  obtain ⟨m1, m2, m3, m4, m5, m6⟩ := hm
  have hrr := a6.r
  have hqq := a6.q
  have c1' : ∀ a, a ≠ 1 → a < 9 ∨ (19 ≤ a ∧ a < 22) ∨ 32 ≤ a → s.1 a = σc.1 a := fun a h1 h2 => c1 a h1 (fun hs => by have := hS a hs; omega)
  exact ⟨a1.to (by omega) (fun a x y => c1' a (by omega) (by omega)) (m1 1 (by omega)) (m1 2 (by omega)) (m2 1 (by omega)) (m2 2 (by omega)), ⟨0, by omega, c2, m4, fun k hk => absurd hk (by omega)⟩, a3.to (c1' 8 (by omega) (by omega)) (m1 16 (by omega)) (m2 29 (by omega)) (m2 30 (by omega)), a4.to (by omega) (fun a x y => c1' a (by omega) (by omega)) (by rw [c1' 5 (by omega) (by omega)]) (by rw [c3]) (m1 9 (by omega)) (m1 2 (by omega)) (m2 21 (by omega)), a5.to (by omega) (by omega) (fun a x y => c1' a (by omega) (by omega)) (by rw [c1' 5 (by omega) (by omega)]) (by rw [c3]) (m1 18 (by omega)) (m1 2 (by omega)) (m1 19 (by omega)) (m1 20 (by omega)) (m2 33 (by omega)), a6.to (fun r h => ⟨c1 r (by have := hrr r h; omega) (hr r h).1, c1 (r + 1) (by have := hrr r h; omega) (hr r h).2⟩) (by rw [c3]) (fun q h => m3 q (by have := hqq q h; omega)) (m6 15 (by omega)) (m6 16 (by omega)) (m2 17 (by omega))⟩
theorem rel_text0 {N j M F : Nat} {ρ : Rho} {σc σm s t : uS} {S : Nat → Prop} (h : RelC N j M F ρ σc σm) (hTo : rTold σc σm) (hS : ∀ a, S a → (9 ≤ a ∧ a < 19) ∨ (22 ≤ a ∧ a < 32)) (hr : ∀ r, σc.2.2 0 13 = some r → ¬ S r ∧ ¬ S (r + 1)) (hc : cX S σc s) (hm : mX σm t) : Rel N (j + 1) s t := by
  refine ⟨M, F, ρ, h.text0 hS hr hc hm, hTo.to ?_ (by rw [hc.2.2]) (by rw [hm.2.2.2.2.1]) (hm.2.1 7 (by omega))⟩
  rw [hc.1 3 (by omega) (fun hs => by have := hS 3 hs; omega)]
theorem mX_of {σ t : uS} {top : Int32} (h : mfr (fun c => c = 5 ∨ c = 14) (fun s => s = 12 ∨ s = 13) (BT σ top) t) : mX σ t := by
  have hb := BT_fr σ top
  refine ⟨fun c hc => ?_, fun s hs => ?_, fun q hq => ?_, ?_, ?_, fun s hs => ?_⟩
  · rw [h.1 c (by omega) (by omega), hb.1 c (by omega) (fun x => x)]
  · rw [h.2.1 s (by omega), hb.2.1 s (by unfold T5; omega)]
  · rw [h.1 q (by omega) (by omega), hb.1 q (by omega) (fun x => x)]
  · rw [h.2.1 5 (by omega)]; exact p_II _ _ _ _
  · rw [h.2.2.1, hb.2.2.1]
  · rw [h.2.2.2 0 s (by omega), hb.2.2.2 0 s (by omega)]
