/-! PURE LAYER: crossings of the class -/
theorem cpy0 {σ : uS} {a0 a1 n n0 n1 : Nat} (h0 : a0 < ZC.1 ∧ ZC.2.1 a0 = .inl (0, n0)) (h1 : a1 < ZC.1 ∧ ZC.2.1 a1 = .inl (0, n1)) (hn0 : n ≤ n0) (hn1 : n ≤ n1) (hn : n < 1000000) : u_cpy ZC σ a0 0 a1 0 (mI n) = some (u_sI σ a1 (va_cpy (σ.1 a0) (σ.1 a1) 0 0 n)) := by
  unfold u_cpy
  rw [h0.2, h1.2]
  have e := mI_nat (k := n) hn
  have e0 : (0 : Int32).toNatClampNeg = 0 := rfl
  show (if a0 < ZC.1 ∧ a1 < ZC.1 ∧ 0 = 0 ∧ 0 = 0 ∧ ¬ (0 : Int32) < 0 ∧ ¬ (0 : Int32) < 0 ∧ ¬ mI n < 0 ∧ (0 : Int32).toNatClampNeg + (mI n).toNatClampNeg ≤ n0 ∧ (0 : Int32).toNatClampNeg + (mI n).toNatClampNeg ≤ n1 then _ else _) = _
  rw [e, e0, if_pos ⟨h0.1, h1.1, rfl, rfl, by decide, by decide, mI_n0 hn, by omega, by omega⟩]
theorem cpy_lt {f g : Nat → Int32} {n k : Nat} (h : k < n) : va_cpy f g 0 0 n k = f k := by
  unfold va_cpy; rw [if_pos ⟨Nat.zero_le _, by omega⟩]; congr 1; omega
theorem cpy_ge {f g : Nat → Int32} {n k : Nat} (h : n ≤ k) : va_cpy f g 0 0 n k = g k := by
  unfold va_cpy; rw [if_neg (by omega)]
theorem cS.to {σ σ' : uS} {i M F : Nat} {v e : Nat → Int32} (h : cS σ i M F v e) (h0 : σ'.1 i = σ.1 i) (h1 : σ'.1 (i + 1) = σ.1 (i + 1)) (h2 : σ'.1 (i + 2) = σ.1 (i + 2)) (h4 : σ'.1 (i + 4) = σ.1 (i + 4)) (h5 : σ'.1 (i + 5) = σ.1 (i + 5)) : cS σ' i M F v e := by
  unfold cS
  rw [h0, h1, h2, h4, h5]
  exact h
theorem cS.fr {S : Nat → Prop} {σ σ' : uS} {i M F : Nat} {v e : Nat → Int32} (h : cS σ i M F v e) (hf : fr S σ σ') (h0 : ¬ S i) (h1 : ¬ S (i + 1)) (h2 : ¬ S (i + 2)) (h4 : ¬ S (i + 4)) (h5 : ¬ S (i + 5)) : cS σ' i M F v e := h.to (hf.1 _ h0) (hf.1 _ h1) (hf.1 _ h2) (hf.1 _ h4) (hf.1 _ h5)
/-- THE RULE at r means ρ -/
def cR (N : Nat) (σ : uS) (r : Nat) (ρ : Rho) : Prop := (r = 22 ∨ r = 27) ∧ RuleC N r (σ.1 (r + 1)) (σ.1 r 4) ρ ∧ (σ.1 r 10 = 0 → ∀ g, ρ = some g → ∀ f f' : Nat → Int32, (∀ k, k < 7 → k ≠ 5 → f k = f' k) → g f = g f')
theorem cR.fr {N : Nat} {S : Nat → Prop} {σ σ' : uS} {r : Nat} {ρ : Rho} (h : cR N σ r ρ) (hf : fr S σ σ') (h0 : ¬ S r) (h1 : ¬ S (r + 1)) : cR N σ' r ρ := by
  unfold cR
  rw [hf.1 _ h0, hf.1 _ h1]
  exact h
def sMov (ρ : Rho) (v e : Nat → Int32) (M : Nat) : Nat → Int32
  | 0 => 0
  | k + 1 => sMov ρ v e M k ||| (if th ρ v e M k = v k then (0 : Int32) else 1)
theorem sMov_01 (ρ : Rho) (v e : Nat → Int32) (M : Nat) : ∀ k, (sMov ρ v e M k = 0 ∧ ∀ q, q < k → th ρ v e M q = v q) ∨ (sMov ρ v e M k = 1 ∧ ∃ q, q < k ∧ th ρ v e M q ≠ v q)
  | 0 => Or.inl ⟨rfl, fun q h => absurd h (by omega)⟩
  | k + 1 => by
    rcases sMov_01 ρ v e M k with ⟨h1, h2⟩ | ⟨h1, q, h2, h3⟩
    · by_cases h : th ρ v e M k = v k
      · left
        refine ⟨by show sMov ρ v e M k ||| _ = 0; rw [h1, if_pos h]; rfl, fun q hq => ?_⟩
        by_cases hk : q = k
        · rw [hk]; exact h
        · exact h2 q (by omega)
      · right
        exact ⟨by show sMov ρ v e M k ||| _ = 1; rw [h1, if_neg h]; rfl, k, by omega, h⟩
    · right
      refine ⟨?_, q, by omega, h3⟩
      show sMov ρ v e M k ||| _ = 1
      rw [h1]
      split <;> rfl
section PX
variable {N : Nat} {σ : uS} {i r : Nat} {M F : Nat} {v e : Nat → Int32} {ρ : Rho}
theorem c_turn (h1 : 32 ≤ i) (h2 : i < 134) (h3 : (i - 32) % 6 = 0) (hR : cR N σ r ρ) (hS : cS σ i M F v e) (hM8 : M ≤ 8) (hF16 : F ≤ 16) (hN : 500 < N) : ok (f_X7_turn N σ i r) (fun z => z.1 = sMov ρ v e M M ∧ cS z.2 i M F (turnV ρ v e M) e ∧ fr (fun a => a = i ∨ a = i + 2 ∨ a = i + 3 ∨ a = r + 3 ∨ a = r + 4) σ z.2) := by
  have hr := hR.1
  unfold f_X7_turn
  simp only [u_jn]
  refine lp3_ok (fun j s x y => y = mI j ∧ x = sMov ρ v e M j ∧ fr (fun a => a = i + 3 ∨ a = r + 3 ∨ a = r + 4) σ s ∧ ∀ q, q < j → s.1 (i + 3) q = th ρ v e M q) M N _ _ _ (by omega) ?_ ⟨rfl, rfl, fr.rfl, fun q h => absurd h (by omega)⟩
  rintro j s x y rec hj ⟨rfl, rfl, hf, hq⟩ hrec
  have hS2 : cS s i M F v e := hS.fr hf (by omega) (by omega) (by omega) (by omega) (by omega)
  have hR2 : cR N s r ρ := hR.fr hf (by omega) (by omega)
  have s8 := hS2.2.2.2.2.2.2.2.1
  unfold b_X7_turn_4
  by_cases hlt : j < M
  · simp (disch := omega) only [u_jn, o_bind, o_nck, o_ckT, not_false_eq_true, mI_le, mI_lt, mI_eq, mI_succ, mI_8, mI_16, mI_add, i10, eq_self, if_true, if_false, Bool.false_eq_true, s8, Nat.not_le.mpr hlt, ok_bind]
    refine ok_mono (c_behind h1 h2 h3 hr hS2 hR2.2.1 hM8 hlt hN) (fun z hz => ?_)
    obtain ⟨hz1, hz2⟩ := hz
    have e2 : z.2.1 (i + 2) j = v j := by rw [hz2.1 _ (by omega)]; exact hS2.1 j hlt
    simp (disch := omega) only [u_jn, o_bind, o_nck, o_ckT, not_false_eq_true, mI_le, mI_lt, mI_eq, mI_succ, mI_8, mI_16, mI_add, i10, eq_self, if_true, if_false, Bool.false_eq_true, sr_1, sr_2, sr_3, sr_4, sr_5, sw_1, sw_2, sw_3, sw_4, sw_5, ok_some, p_II, p_Ia, e2, hz1]
    have hfin : ∀ t : Int32, t = (if th ρ v e M j = v j then (0 : Int32) else 1) → ok (rec (u_pI z.2 (i + 3) j (th ρ v e M j)) (sMov ρ v e M j ||| t) (mI (j + 1))) (fun z => z.1 = sMov ρ v e M M ∧ cS z.2 i M F (turnV ρ v e M) e ∧ fr (fun a => a = i ∨ a = i + 2 ∨ a = i + 3 ∨ a = r + 3 ∨ a = r + 4) σ z.2) := by
      intro t ht
      refine hrec _ _ _ hlt ⟨rfl, by rw [ht]; rfl, ?_, fun q hq2 => ?_⟩
      · exact ((hf.trans hz2).mono (fun a h => by omega)).pI (Or.inl rfl)
      · by_cases hqj : q = j
        · rw [hqj, p_II]
        · rw [p_Is hqj, hz2.1 _ (by omega)]; exact hq q (by omega)
    by_cases ht : th ρ v e M j = v j
    · simp (disch := omega) only [u_jn, o_bind, o_nck, o_ckT, not_false_eq_true, mI_le, mI_lt, mI_eq, mI_succ, mI_8, mI_16, mI_add, i10, eq_self, if_true, if_false, Bool.false_eq_true, ht]
      have := hfin 0 (by rw [if_pos ht])
      rw [ht] at this
      exact this
    · simp (disch := omega) only [u_jn, o_bind, o_nck, o_ckT, not_false_eq_true, mI_le, mI_lt, mI_eq, mI_succ, mI_8, mI_16, mI_add, i10, eq_self, if_true, if_false, Bool.false_eq_true, ht]
      exact hfin 1 (by rw [if_neg ht])
  · have hjM : j = M := by omega
    subst hjM
    simp (disch := omega) only [u_jn, o_bind, o_nck, o_ckT, not_false_eq_true, mI_le, mI_lt, mI_eq, mI_succ, mI_8, mI_16, mI_add, i10, eq_self, if_true, if_false, Bool.false_eq_true, s8, Nat.le_refl, cpy0 (zs_3 h1 h2 h3) (zs_2 h1 h2 h3) hM8 hM8 (by omega)]
    refine ok_ck ?_ ?_
    · rcases sMov_01 ρ v e j j with h | h
      · exact Or.inl h.1
      · exact Or.inr h.1
    rw [ok_some]
    obtain ⟨t1, t2, t3, t4, t5, t6, t7, t8, t9, t10, t11⟩ := hS2
    refine ⟨rfl, ⟨fun p hp => ?_, fun p hp => ?_, fun p hp => ?_, fun f hf => ?_, ?_, ?_, ?_, ?_, ?_, ?_, ?_⟩, ?_⟩
    · rw [p_Ia (by omega), p_Ia (by omega), q_Is, cpy_lt hp, hq p hp]; unfold turnV; rw [if_pos hp]
    · rw [p_Ia (by omega), p_Ia (by omega), q_Ia (by omega), t2 p hp]; unfold turnV; rw [if_neg (by omega), if_neg (by omega), if_neg (by omega)]
    · rw [p_Ia (by omega), p_Ia (by omega), q_Ia (by omega), t3 p hp]
    · rw [p_Ia (by omega), p_Ia (by omega), q_Ia (by omega), t4 f hf]; unfold turnV; rw [if_neg (by omega), if_neg (by omega), if_neg (by omega)]
    · rw [p_Is (by omega), p_Is (by omega), q_Ia (by omega), t5]
    · rw [p_Is (by omega), p_Is (by omega), q_Ia (by omega), t6]; unfold turnV; rw [if_neg (by omega), if_neg (by omega), if_neg (by omega)]
    · rw [p_Is (by omega), p_Is (by omega), q_Ia (by omega), t7]; unfold turnV; rw [if_neg (by omega), if_neg (by omega), if_neg (by omega)]
    · rw [p_Is (by omega), p_Is (by omega), q_Ia (by omega), t8]
    · rw [p_Is (by omega), p_II]; unfold turnV; rw [if_neg (by omega), if_pos rfl]
    · rw [p_II, p_Is (by omega), q_Ia (by omega), t10]; unfold turnV; rw [if_neg (by omega), if_neg (by omega), if_pos rfl]
    · rw [p_Is (by omega), p_Is (by omega), q_Ia (by omega), t11]; unfold turnV; rw [if_neg (by omega), if_neg (by omega), if_neg (by omega)]
    · exact (((hf.mono (fun a h => by omega)).sI (Or.inr (Or.inl rfl))).pI (Or.inl rfl)).pI (Or.inl rfl)
theorem c_part {was b : Int32} (h1 : 32 ≤ i) (h2 : i < 134) (h3 : (i - 32) % 6 = 0) (hb : (b = 0) = (was = 0)) (hS : cS σ i M F v e) (hM8 : M ≤ 8) (hF16 : F ≤ 16) (hN : 500 < N) : ok (f_X7_part N σ i b) (fun s => cS s i M F (partV v was F) e ∧ fr (fun a => a = i + 1) σ s) := by
  unfold f_X7_part
  simp only [u_jn]
  refine lp2_ok (fun j s y => y = mI j ∧ fr (fun a => a = i + 1) σ s ∧ (∀ q, q < j → s.1 (i + 1) q = partC v was q) ∧ ∀ q, j ≤ q → s.1 (i + 1) q = σ.1 (i + 1) q) F N _ _ (by omega) ?_ ⟨rfl, fr.rfl, fun q h => absurd h (by omega), fun q _ => rfl⟩
  rintro j s y rec hj ⟨rfl, hf, hq, hq2⟩ hrec
  obtain ⟨t1, t2, t3, t4, t5, t6, t7, t8, t9, t10, t11⟩ := hS
  have e0 : s.1 i = σ.1 i := hf.1 i (by omega)
  unfold b_X7_part_2 f_X7_isOfRope
  by_cases hlt : j < F
  · have ej : s.1 (i + 1) j = v (16 + j) := by rw [hq2 j (Nat.le_refl _)]; exact t4 j hlt
    have fin : ∀ (s2 : uS), s2.1 (i + 1) j = partC v was j → (∀ q, q ≠ j → s2.1 (i + 1) q = s.1 (i + 1) q) → fr (fun a => a = i + 1) σ s2 → ok (rec s2 (mI (j + 1))) (fun s => cS s i M F (partV v was F) e ∧ fr (fun a => a = i + 1) σ s) := by
      intro s2 g1 g2 g3
      refine hrec _ _ hlt ⟨rfl, g3, fun q hqj => ?_, fun q hqj => ?_⟩
      · by_cases hqe : q = j
        · rw [hqe]; exact g1
        · rw [g2 q hqe]; exact hq q (by omega)
      · rw [g2 q (by omega)]; exact hq2 q (by omega)
    simp (disch := omega) only [u_jn, o_bind, o_nck, o_ckT, not_false_eq_true, mI_le, mI_lt, mI_eq, mI_succ, mI_8, mI_16, mI_add, i10, eq_self, if_true, if_false, Bool.false_eq_true, e0, t5, t6, t7, Nat.not_le.mpr hlt, sr_1, sr_2, sr_3, sr_4, sr_5, sw_1, sw_2, sw_3, sw_4, sw_5, ej]
    unfold partC at fin
    have up : ∀ w : Int32, w = partC v was j → ok (rec (u_pI s (i + 1) j w) (mI (j + 1))) (fun s => cS s i M F (partV v was F) e ∧ fr (fun a => a = i + 1) σ s) := fun w hw => fin _ (by rw [p_II]; exact hw) (fun q hqe => p_Is hqe) (hf.pI rfl)
    by_cases c1 : mI j < v 32
    · simp (disch := omega) only [u_jn, o_bind, o_nck, o_ckT, not_false_eq_true, mI_le, mI_lt, mI_eq, mI_succ, mI_8, mI_16, mI_add, i10, eq_self, if_true, if_false, Bool.false_eq_true, c1]
      exact up _ (by unfold partC; rw [if_pos c1])
    · by_cases c2 : v 33 < mI j
      · simp (disch := omega) only [u_jn, o_bind, o_nck, o_ckT, not_false_eq_true, mI_le, mI_lt, mI_eq, mI_succ, mI_8, mI_16, mI_add, i10, eq_self, if_true, if_false, Bool.false_eq_true, c1, c2]
        exact up _ (by unfold partC; rw [if_neg c1, if_pos c2])
      · by_cases c3 : was = 0
        · simp (disch := omega) only [u_jn, o_bind, o_nck, o_ckT, not_false_eq_true, mI_le, mI_lt, mI_eq, mI_succ, mI_8, mI_16, mI_add, i10, eq_self, if_true, if_false, Bool.false_eq_true, c1, c2, hb, eq_true c3]
          refine fin s ?_ (fun _ _ => rfl) hf
          rw [if_neg c1, if_neg c2, if_pos c3]; exact ej
        · simp (disch := omega) only [u_jn, o_bind, o_nck, o_ckT, not_false_eq_true, mI_le, mI_lt, mI_eq, mI_succ, mI_8, mI_16, mI_add, i10, eq_self, if_true, if_false, Bool.false_eq_true, c1, c2, hb, c3]
          exact up _ (by unfold partC; rw [if_neg c1, if_neg c2, if_neg c3])
  · have hjM : j = F := by omega
    subst hjM
    simp (disch := omega) only [u_jn, o_bind, o_nck, o_ckT, not_false_eq_true, mI_le, mI_lt, mI_eq, mI_succ, mI_8, mI_16, mI_add, i10, eq_self, if_true, if_false, Bool.false_eq_true, e0, t5, Nat.le_refl, ok_some]
    refine ⟨⟨fun p hp => ?_, fun p hp => ?_, fun p hp => ?_, fun f hf => ?_, ?_, ?_, ?_, ?_, ?_, ?_, ?_⟩, hf⟩
    · rw [hf.1 _ (by omega), t1 p hp]; unfold partV; rw [if_neg (by omega)]
    · rw [hf.1 _ (by omega), t2 p hp]; unfold partV; rw [if_neg (by omega)]
    · rw [hf.1 _ (by omega), t3 p hp]
    · rw [hq f hf]; unfold partV; rw [if_pos (by omega), show 16 + f - 16 = f by omega]
    · rw [e0, t5]
    · rw [e0, t6]; unfold partV; rw [if_neg (by omega)]
    · rw [e0, t7]; unfold partV; rw [if_neg (by omega)]
    · rw [e0, t8]
    · rw [e0, t9]; unfold partV; rw [if_neg (by omega)]
    · rw [e0, t10]; unfold partV; rw [if_neg (by omega)]
    · rw [e0, t11]; unfold partV; rw [if_neg (by omega)]
theorem sIn_cS (hS : cS σ i M F v e) : sIn (σ.1 (i + 2)) (σ.1 (i + 4)) M = sIn v e M := sIn_congr (fun k hk => ⟨hS.1 k hk, hS.2.2.1 k hk⟩)
/-- the corn of THE ROPE -/
theorem c_ropeCorn {B : Nat} (h1 : 32 ≤ i) (h2 : i < 134) (h3 : (i - 32) % 6 = 0) (hS : cS σ i M F v e) (hv : vok B M F v) (hF16 : F ≤ 16) (hN : 500 < N) : f_X7_cornOf N σ i (v 32) (v 33) = some (sRope v) := by
  obtain ⟨-, -, ⟨L, R, g1, g2, g3, g4⟩, -⟩ := hv
  unfold sRope
  rw [g3, g4, mI_nat (by omega), mI_nat (by omega)]
  have := c_cornOf (N := N) (L := L) (n := R + 1 - L) h1 h2 h3 hS.2.2.2.2.1 hF16 (by omega) (by omega) hN
  rw [show L + (R + 1 - L) - 1 = R by omega] at this
  rw [this]
  congr 1
  exact sSum_congr (fun k hk => hS.2.2.2.1 (L + k) (by omega))
theorem c_cross {B n : Nat} (h1 : 32 ≤ i) (h2 : i < 134) (h3 : (i - 32) % 6 = 0) (hR : cR N σ r ρ) (hS : cS σ i M F v e) (hv : vok B M F v) (hM8 : M ≤ 8) (hF16 : F ≤ 16) (hn : n < 500) (hN : 500 < N) : ok (f_X7_cross N σ i (mI n) r) (fun z => z.1 = chgN ρ e M F v n ∧ cS z.2 i M F (crossN ρ e M F v n) e ∧ fr (fun a => a = i ∨ a = i + 1 ∨ a = i + 2 ∨ a = i + 3 ∨ a = r + 3 ∨ a = r + 4) σ z.2) := by
  have hr := hR.1
  unfold f_X7_cross
  simp only [u_jn]
  refine lp3_ok (fun j s x y => y = mI j ∧ x = chgN ρ e M F v j ∧ cS s i M F (crossN ρ e M F v j) e ∧ fr (fun a => a = i ∨ a = i + 1 ∨ a = i + 2 ∨ a = i + 3 ∨ a = r + 3 ∨ a = r + 4) σ s) n N _ _ _ (by omega) ?_ ⟨rfl, rfl, hS, fr.rfl⟩
  rintro j s x y rec hj ⟨rfl, rfl, hSj, hf⟩ hrec
  unfold b_X7_cross_5
  by_cases hlt : j < n
  · generalize hw : crossN ρ e M F v j = w at hSj
    have hvw : vok (B + j) M F w := by rw [← hw]; exact vok_crossN hM8 hF16 hv j
    have eI : f_X7_inside N s i = some (sIn w e M) := by rw [c_inside h1 h2 h3 hSj.2.2.2.2.2.2.2.1 hM8 hN, sIn_cS hSj]
    have hRj : cR N s r ρ := hR.fr hf (by omega) (by omega)
    obtain ⟨t1, t2, t3, t4, t5, t6, t7, t8, t9, t10, t11⟩ := id hSj
    have fin : ∀ (t b : Int32), s.1 i 11 + t = payV w e M 36 → (b = 0) = (sIn w e M = 0) → ok ((f_X7_part N (u_pI s i 11 (s.1 i 11 + t)) i b).bind fun s14 => (f_X7_turn N s14 i r).bind fun v15 => (f_X7_inside N v15.2 i).bind fun v16 => (f_J6_bitCount_0f7a4 N v15.2 (sIn w e M ^^^ v16)).bind fun v17 => rec v15.2 (chgN ρ e M F v j + v17) (mI j + 1)) (fun z => z.1 = chgN ρ e M F v n ∧ cS z.2 i M F (crossN ρ e M F v n) e ∧ fr (fun a => a = i ∨ a = i + 1 ∨ a = i + 2 ∨ a = i + 3 ∨ a = r + 3 ∨ a = r + 4) σ z.2) := by
      intro t b ht hb
      have hS1 : cS (u_pI s i 11 (s.1 i 11 + t)) i M F (payV w e M) e := by
        refine ⟨fun p hp => ?_, fun p hp => ?_, fun p hp => ?_, fun f hf => ?_, ?_, ?_, ?_, ?_, ?_, ?_, ?_⟩
        · rw [p_Ia (by omega), t1 p hp]; unfold payV; rw [if_neg (by omega)]
        · rw [p_Ia (by omega), t2 p hp]; unfold payV; rw [if_neg (by omega)]
        · rw [p_Ia (by omega), t3 p hp]
        · rw [p_Ia (by omega), t4 f hf]; unfold payV; rw [if_neg (by omega)]
        · rw [p_Is (by omega), t5]
        · rw [p_Is (by omega), t6]; rfl
        · rw [p_Is (by omega), t7]; rfl
        · rw [p_Is (by omega), t8]
        · rw [p_Is (by omega), t9]; rfl
        · rw [p_Is (by omega), t10]; rfl
        · rw [p_II, ht]
      have hf1 : fr (fun a => a = i ∨ a = i + 1 ∨ a = i + 2 ∨ a = i + 3 ∨ a = r + 3 ∨ a = r + 4) σ (u_pI s i 11 (s.1 i 11 + t)) := hf.pI (Or.inl rfl)
      rw [ok_bind]
      refine ok_mono (c_part h1 h2 h3 hb hS1 hM8 hF16 hN) (fun s2 hs2 => ?_)
      rw [ok_bind]
      have hf2 : fr (fun a => a = i ∨ a = i + 1 ∨ a = i + 2 ∨ a = i + 3 ∨ a = r + 3 ∨ a = r + 4) σ s2 := (hf1.trans hs2.2).mono (fun a h => by omega)
      refine ok_mono (c_turn h1 h2 h3 (hR.fr hf2 (by omega) (by omega)) hs2.1 hM8 hF16 hN) (fun z hz => ?_)
      obtain ⟨-, hz1, hz2⟩ := hz
      have hz1 : cS z.2 i M F (crossV ρ w e M F) e := hz1
      rw [c_inside h1 h2 h3 hz1.2.2.2.2.2.2.2.1 hM8 hN, sIn_cS hz1]
      simp (disch := omega) only [u_jn, o_bind, o_nck, o_ckT, not_false_eq_true, mI_le, mI_lt, mI_eq, mI_succ, mI_8, mI_16, mI_add, i10, eq_self, if_true, if_false, Bool.false_eq_true, bc_f]
      refine hrec _ _ _ hlt ⟨rfl, ?_, ?_, (hf2.trans hz2).mono (fun a h => by omega)⟩
      · show _ = chgN ρ e M F v j + chg ρ (crossN ρ e M F v j) e M F
        rw [hw]; rfl
      · show cS z.2 i M F (crossV ρ (crossN ρ e M F v j) e M F) e
        rw [hw]; exact hz1
    simp only [u_jn, mI_le (show n < 1000000 by omega) (show j < 1000000 by omega), Nat.not_le.mpr hlt, if_false, eI, o_bind]
    by_cases h0 : sIn w e M = 0
    · simp only [h0, if_true]
      rw [h0] at fin
      refine fin 0 0 ?_ rfl
      show s.1 i 11 + 0 = (if sIn w e M = 0 then w 36 else w 36 + sRope w)
      rw [if_pos h0, t11, Int32.add_zero]
    · simp only [h0, if_false, t6, t7, c_ropeCorn h1 h2 h3 hSj hvw hF16 hN, o_bind]
      refine fin (sRope w) 1 ?_ (by simp [i10, h0])
      show s.1 i 11 + sRope w = (if sIn w e M = 0 then w 36 else w 36 + sRope w)
      rw [if_neg h0, t11]
  · have hjM : j = n := by omega
    subst hjM
    simp (disch := omega) only [u_jn, o_bind, o_nck, o_ckT, not_false_eq_true, mI_le, mI_lt, mI_eq, mI_succ, mI_8, mI_16, mI_add, i10, eq_self, if_true, if_false, Bool.false_eq_true, Nat.le_refl, ok_some]
    exact ⟨trivial, hSj, hf⟩
theorem c_copy {i1 : Nat} (h1 : 32 ≤ i) (h2 : i < 134) (h3 : (i - 32) % 6 = 0) (g1 : 32 ≤ i1) (g2 : i1 < 134) (g3 : (i1 - 32) % 6 = 0) (hne : i ≠ i1) (hS : cS σ i1 M F v e) (hM8 : M ≤ 8) (hF16 : F ≤ 16) : ok (f_X7_copy N σ i i1) (fun s => cS s i M F v e ∧ fr (fun a => a = i ∨ a = i + 1 ∨ a = i + 2 ∨ a = i + 4 ∨ a = i + 5) σ s) := by
  obtain ⟨t1, t2, t3, t4, t5, t6, t7, t8, t9, t10, t11⟩ := hS
  unfold f_X7_copy
  have c16 : (16 : Int32) = mI 16 := rfl
  have c8 : (8 : Int32) = mI 8 := rfl
  simp only [u_jn, c16, c8, cpy0 (zs_1 g1 g2 g3) (zs_1 h1 h2 h3) (Nat.le_refl _) (Nat.le_refl _) (by omega), cpy0 (zs_2 g1 g2 g3) (zs_2 h1 h2 h3) (Nat.le_refl _) (Nat.le_refl _) (by omega), cpy0 (zs_4 g1 g2 g3) (zs_4 h1 h2 h3) (Nat.le_refl _) (Nat.le_refl _) (by omega), cpy0 (zs_5 g1 g2 g3) (zs_5 h1 h2 h3) (Nat.le_refl _) (Nat.le_refl _) (by omega), o_bind, ok_some]
  refine ⟨⟨fun p hp => ?_, fun p hp => ?_, fun p hp => ?_, fun f hf => ?_, ?_, ?_, ?_, ?_, ?_, ?_, ?_⟩, ?_⟩
  · simp (disch := omega) only [p_Ia, q_Ia, q_Is]; rw [cpy_lt (by omega), t1 p hp]
  · simp (disch := omega) only [p_Ia, q_Ia, q_Is]; rw [cpy_lt (by omega), t2 p hp]
  · simp (disch := omega) only [p_Ia, q_Ia, q_Is]; rw [cpy_lt (by omega), t3 p hp]
  · simp (disch := omega) only [p_Ia, q_Ia, q_Is]; rw [cpy_lt (by omega), t4 f hf]
  · simp (disch := omega) only [p_Is, p_II, p_Ia, q_Ia]; exact t5
  · simp (disch := omega) only [p_Is, p_II, p_Ia, q_Ia]; exact t6
  · simp (disch := omega) only [p_Is, p_II, p_Ia, q_Ia]; exact t7
  · simp (disch := omega) only [p_Is, p_II, p_Ia, q_Ia]; exact t8
  · simp (disch := omega) only [p_Is, p_II, p_Ia, q_Ia]; exact t9
  · simp (disch := omega) only [p_Is, p_II, p_Ia, q_Ia]; exact t10
  · simp (disch := omega) only [p_Is, p_II, p_Ia, q_Ia]; exact t11
  · exact (((((((((((fr.rfl.sI (Or.inr (Or.inl rfl))).sI (Or.inr (Or.inr (Or.inl rfl)))).sI (Or.inr (Or.inr (Or.inr (Or.inl rfl))))).sI (Or.inr (Or.inr (Or.inr (Or.inr rfl))))).pI (Or.inl rfl)).pI (Or.inl rfl)).pI (Or.inl rfl)).pI (Or.inl rfl)).pI (Or.inl rfl)).pI (Or.inl rfl)).pI (Or.inl rfl))
end PX
