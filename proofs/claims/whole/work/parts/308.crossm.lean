/-! PURE LAYER: crossings of the reference -/
def RuleM (N q : Nat) (bytes : Nat → Int32) (S : Int32) (ρ : Rho) : Prop := match ρ with
  | none => S = 0
  | some g => ∃ n, S = mI n ∧ 0 < n ∧ n ≤ 40 ∧ gcong g ∧ ∀ σ : uS, (∀ k, k < n → σ.1 q k = bytes k) → σ.2.2 0 9 = some q → σ.1 0 10 = mI n → σ.1 0 11 = 40 → σ.1 0 12 = 0 → σ.1 0 13 = -1 → σ.1 0 18 = 1 → ∃ w : Int32, f_X12_held N σ 0 = some (g (σ.1 8), u_pI σ 0 12 w)
def mR (N : Nat) (σ : uS) (ρ : Rho) : Prop := ∃ q, (q = 6 ∨ q = 7) ∧ σ.2.2 0 15 = some q ∧ RuleM N q (σ.1 q) (σ.1 0 17) ρ
/-- cells of S and places of T of the object changed at most -/
def mfr (S T : Nat → Prop) (σ σ' : uS) : Prop := (∀ c, c ≠ 0 → ¬ S c → σ'.1 c = σ.1 c) ∧ (∀ s, ¬ T s → σ'.1 0 s = σ.1 0 s) ∧ σ'.2.1 = σ.2.1 ∧ ∀ c s, ¬ (c = 0 ∧ s = 9) → σ'.2.2 c s = σ.2.2 c s
theorem mfr.rfl {S T : Nat → Prop} {σ : uS} : mfr S T σ σ := ⟨fun _ _ _ => Eq.refl _, fun _ _ => Eq.refl _, Eq.refl _, fun _ _ _ => Eq.refl _⟩
theorem mfr.trans {S T S2 T2 : Nat → Prop} {σ σ' σ'' : uS} (h1 : mfr S T σ σ') (h2 : mfr S2 T2 σ' σ'') : mfr (fun a => S a ∨ S2 a) (fun a => T a ∨ T2 a) σ σ'' := ⟨fun c h0 h => (h2.1 c h0 (fun t => h (Or.inr t))).trans (h1.1 c h0 (fun t => h (Or.inl t))), fun s h => (h2.2.1 s (fun t => h (Or.inr t))).trans (h1.2.1 s (fun t => h (Or.inl t))), h2.2.2.1.trans h1.2.2.1, fun c s h => (h2.2.2.2 c s h).trans (h1.2.2.2 c s h)⟩
theorem mfr.mono {S T S2 T2 : Nat → Prop} {σ σ' : uS} (h : mfr S T σ σ') (hs : ∀ a, S a → S2 a) (ht : ∀ a, T a → T2 a) : mfr S2 T2 σ σ' := ⟨fun c h0 h2 => h.1 c h0 (fun t => h2 (hs c t)), fun s h2 => h.2.1 s (fun t => h2 (ht s t)), h.2.2.1, h.2.2.2⟩
theorem mfr.pI {S T : Nat → Prop} {σ σ' : uS} {a k : Nat} {v : Int32} (h : mfr S T σ σ') (h0 : a ≠ 0) (ha : S a) : mfr S T σ (u_pI σ' a k v) := ⟨fun c hc hs => (p_Ia (a := a) (b := c) (fun e => hs (by rw [e]; exact ha))).trans (h.1 c hc hs), fun s hs => (by rw [p_Ia (Ne.symm h0)]; exact h.2.1 s hs), h.2.2.1, h.2.2.2⟩
theorem mfr.p0 {S T : Nat → Prop} {σ σ' : uS} {k : Nat} {v : Int32} (h : mfr S T σ σ') (ha : T k) : mfr S T σ (u_pI σ' 0 k v) := ⟨fun c hc hs => (by rw [p_Ia hc]; exact h.1 c hc hs), fun s hs => (p_Is (a := 0) (k := k) (j := s) (fun e => hs (by rw [e]; exact ha))).trans (h.2.1 s hs), h.2.2.1, h.2.2.2⟩
theorem mfr.pR {S T : Nat → Prop} {σ σ' : uS} {v : Option Nat} (h : mfr S T σ σ') : mfr S T σ (u_pR σ' 0 9 v) := ⟨h.1, h.2.1, h.2.2.1, fun c s hcs => (p_Rn (a := 0) (k := 9) (b := c) (j := s) (by omega)).trans (h.2.2.2 c s hcs)⟩
def T0 : Nat → Prop := fun s => s = 10 ∨ s = 11 ∨ s = 12 ∨ s = 13 ∨ s = 18
def mV (σ : uS) (a : Nat) (v : Nat → Int32) : Prop := ∀ j, j < 37 → σ.1 a j = v j
theorem mR.fr {N : Nat} {S T : Nat → Prop} {σ σ' : uS} {ρ : Rho} (h : mR N σ ρ) (hf : mfr S T σ σ') (h6 : ¬ S 6) (h7 : ¬ S 7) (h17 : ¬ T 17) : mR N σ' ρ := by
  obtain ⟨q, hq, hr, hm⟩ := h
  refine ⟨q, hq, by rw [hf.2.2.2 0 15 (by omega)]; exact hr, ?_⟩
  have e : σ'.1 q = σ.1 q := by
    rcases hq with rfl | rfl
    · exact hf.1 6 (by omega) h6
    · exact hf.1 7 (by omega) h7
  rw [e, hf.2.1 17 h17]; exact hm
theorem th_congr {ρ : Rho} {v v' e : Nat → Int32} {M p : Nat} (hM : M ≤ 8) (hp : p < M) (h : ∀ j, j < 37 → v j = v' j) : th ρ v e M p = th ρ v' e M p := by
  have e1 : sMean v M p = sMean v' M p := by
    unfold sMean
    rw [h (8 + p) (by omega), h p (by omega), sBel_congr (v' := v') (fun i hi => ⟨h i (by omega), rfl⟩)]
  have e2 : sSign v p = sSign v' p := by unfold sSign; rw [h 34 (by omega)]
  have e3 : askd v e M p = askd v' e M p := by
    funext k
    unfold askd
    rw [e1, e2, h (8 + p) (by omega), h p (by omega), h 35 (by omega), sOut_congr (b' := v') (e' := e) (fun i hi => ⟨h i (by omega), rfl⟩)]
  unfold th
  cases ρ with
  | none => simp only [e1, e2, h p (by omega)]
  | some g => simp only [e3]
/-- as a rule is asked -/
def S25 (σ : uS) (a M p q : Nat) (t : Int32) : uS := u_pI (u_pI (u_pI (u_pI (u_pI (u_pR (u_pI (u_pI (u_pI (u_pI (u_pI (u_pI (u_pI σ 8 0 (σ.1 a p)) 8 1 t) 8 2 (mI (cnt (σ.1 a (8 + p)) M))) 8 3 (mI (sOut (σ.1 a) (σ.1 2) (σ.1 a (8 + p)) M))) 8 4 (if tb (σ.1 a 34) p = true then 1 else 0)) 8 5 (σ.1 a 35 - σ.1 a 35 / 7 * 7)) 8 6 (σ.1 2 p)) 0 9 (some q)) 0 10 (σ.1 0 17)) 0 11 40) 0 12 0) 0 13 (-1)) 0 18 1
theorem S25_fr (σ : uS) (a M p q : Nat) (t : Int32) : mfr (fun c => c = 8) T0 σ (S25 σ a M p q t) := by
  have n8 : (8 : Nat) ≠ 0 := by decide
  exact ((((((((((((((mfr.rfl (S := fun c => c = 8) (T := T0)).pI n8 rfl).pI n8 rfl).pI n8 rfl).pI n8 rfl).pI n8 rfl).pI n8 rfl).pI n8 rfl).pR).p0 (Or.inl rfl)).p0 (Or.inr (Or.inl rfl))).p0 (Or.inr (Or.inr (Or.inl rfl)))).p0 (Or.inr (Or.inr (Or.inr (Or.inl rfl))))).p0 (Or.inr (Or.inr (Or.inr (Or.inr rfl)))))
theorem S25_as (σ : uS) (a M p q : Nat) (t : Int32) (ht : t = sMean (σ.1 a) M p) : ∀ k, k < 7 → (S25 σ a M p q t).1 8 k = askd (σ.1 a) (σ.1 2) M p k := by
  intro k hk
  unfold S25
  have hk7 : k = 0 ∨ k = 1 ∨ k = 2 ∨ k = 3 ∨ k = 4 ∨ k = 5 ∨ k = 6 := by omega
  rcases hk7 with rfl | rfl | rfl | rfl | rfl | rfl | rfl <;> simp [p_II, p_Is, p_Ia, p_RI, askd, ht, sSign]
theorem S25_held {N : Nat} {σ : uS} {a M p q : Nat} {t : Int32} {g : (Nat → Int32) → Int32} (hq : q = 6 ∨ q = 7) (hm : RuleM N q (σ.1 q) (σ.1 0 17) (some g)) (ht : t = sMean (σ.1 a) M p) : ∃ w : Int32, f_X12_held N (S25 σ a M p q t) 0 = some (g (askd (σ.1 a) (σ.1 2) M p), u_pI (S25 σ a M p q t) 0 12 w) := by
  obtain ⟨n, g0, g1, g2, g3, g4⟩ := hm
  obtain ⟨w, hw⟩ := g4 (S25 σ a M p q t) (fun k _ => by
    rcases hq with rfl | rfl
    · rw [(S25_fr σ a M p 6 t).1 6 (by decide) (by decide)]
    · rw [(S25_fr σ a M p 7 t).1 7 (by decide) (by decide)]) (by unfold S25; simp [p_IL, p_RR]) (by unfold S25; simp [p_II, p_Is, g0]) (by unfold S25; simp [p_II, p_Is]) (by unfold S25; simp [p_II, p_Is]) (by unfold S25; simp [p_II, p_Is]) (by unfold S25; simp [p_II])
  exact ⟨w, by rw [hw, g3 _ _ (S25_as σ a M p q t ht)]⟩
section PY
variable {N : Nat} {σ : uS} {a : Nat} {M F : Nat} {v : Nat → Int32} {ρ : Rho}
theorem m_then0 {p : Nat} (h : a = 1 ∨ a = 10 ∨ a = 11 ∨ a = 12) (hM : σ.1 0 2 = mI M) (hM8 : M ≤ 8) (hp : p < M) (hR : mR N σ ρ) (hN : 500 < N) : ok (f_X12_then0 N σ a (mI p)) (fun z => z.1 = th ρ (σ.1 a) (σ.1 2) M p ∧ mfr (fun c => c = 8) T0 σ z.2) := by
  obtain ⟨q, hq, hrf, hm⟩ := hR
  have hcl := cnt_le (σ.1 a (8 + p)) M
  have ha8 : a ≠ 8 := by omega
  have eB : sBel (σ.1 a) (σ.1 a (8 + p) &&& sAll M) M = sBel (σ.1 a) (σ.1 a (8 + p)) M := sBel_congr (fun k hk => ⟨rfl, by rw [tb_and, tb_all (by omega) (by omega)]; simp [hk]⟩)
  have eI : ∀ x t y, f_X12_inBits N (u_pI (u_pI (u_pI σ 8 0 x) 8 1 t) 8 2 y) a = some (sIn (σ.1 a) (σ.1 2) M) := by
    intro x t y
    rw [m_inBits h (by simp [p_Ia, hM]) hM8 hN]
    simp (disch := omega) only [p_Ia]
  unfold f_X12_then0
  cases ρ with
  | none =>
    have hz : σ.1 0 17 = 0 := hm
    by_cases h0 : cnt (σ.1 a (8 + p)) M = 0
    · simp (disch := omega) only [u_jn, o_bind, o_nck, o_ckT, not_false_eq_true, mI_le, mI_lt, mI_eq, mI_succ, mI_8, mI_16, mI_add, i10, eq_self, if_true, if_false, Bool.false_eq_true, m_sees (N := N) h hM (show p < 8 by omega), bc_f, bc_all hM8, h0, mI_eq0, vr, vw, vr32, vw32, vr33, vw33, vr34, vw34, vr35, vw35, vr36, vw36, bit_val, hz, Int32.le_refl, ok_some]
      refine ⟨?_, mfr.rfl⟩
      unfold th sMean
      rw [if_pos h0]; rfl
    · simp (disch := omega) only [u_jn, o_bind, o_nck, o_ckT, not_false_eq_true, mI_le, mI_lt, mI_eq, mI_succ, mI_8, mI_16, mI_add, i10, eq_self, if_true, if_false, Bool.false_eq_true, m_sees (N := N) h hM (show p < 8 by omega), bc_f, bc_all hM8, h0, mI_eq0, vr, vw, vr32, vw32, vr33, vw33, vr34, vw34, vr35, vw35, vr36, vw36, bit_val, hz, Int32.le_refl, ok_some, m_beliefs (N := N) h hM hM8 hN, eB]
      refine ⟨?_, mfr.rfl⟩
      unfold th sMean
      rw [if_neg h0]; rfl
  | some g =>
    have hpos : ¬ σ.1 0 17 ≤ 0 := by
      obtain ⟨n, g0, g1, g2, g3, g4⟩ := hm
      rw [g0, show (0 : Int32) = mI 0 from rfl, mI_le (by omega) (by omega)]; omega
    by_cases h0 : cnt (σ.1 a (8 + p)) M = 0
    · obtain ⟨w, hw⟩ := S25_held (t := σ.1 a p) hq hm (by unfold sMean; rw [if_pos h0])
      have hfr := S25_fr σ a M p q (σ.1 a p)
      unfold S25 at hw hfr
      simp only [h0] at hw hfr
      simp (disch := omega) only [u_jn, o_bind, o_nck, o_ckT, not_false_eq_true, mI_le, mI_lt, mI_eq, mI_succ, mI_8, mI_16, mI_add, i10, eq_self, if_true, if_false, Bool.false_eq_true, m_sees (N := N) h hM (show p < 8 by omega), bc_f, bc_all hM8, h0, mI_eq0, vr, vw, vr32, vw32, vr33, vw33, vr34, vw34, vr35, vw35, vr36, vw36, mr_1, mw_1, mr_2, mw_2, mr_3, mw_3, mr_4, mw_4, mr_5, mw_5, mr_6, mw_6, mr_7, mw_7, mr_8, mw_8, mr_9, mw_9, mr_10, mw_10, mr_11, mw_11, mr_12, mw_12, mr_13, mw_13, mr_14, mw_14, mr_15, mw_15, mr_16, mw_16, mr_17, mw_17, mr_18, mw_18, mr_19, mw_19, mr_20, mw_20, mw_80, mw_81, mw_82, mw_83, mw_84, mw_85, mw_86, bit_val, hpos, eI, bc_out hM8, p_Ia, p_IL, hrf, f_X12_begin, hw, ok_some]
      exact ⟨rfl, (hfr.p0 (Or.inr (Or.inr (Or.inl rfl)))).p0 (Or.inr (Or.inr (Or.inr (Or.inr rfl))))⟩
    · obtain ⟨w, hw⟩ := S25_held (t := sBel (σ.1 a) (σ.1 a (8 + p)) M / mI (cnt (σ.1 a (8 + p)) M)) hq hm (by unfold sMean; rw [if_neg h0])
      have hfr := S25_fr σ a M p q (sBel (σ.1 a) (σ.1 a (8 + p)) M / mI (cnt (σ.1 a (8 + p)) M))
      unfold S25 at hw hfr
      simp (disch := omega) only [u_jn, o_bind, o_nck, o_ckT, not_false_eq_true, mI_le, mI_lt, mI_eq, mI_succ, mI_8, mI_16, mI_add, i10, eq_self, if_true, if_false, Bool.false_eq_true, m_sees (N := N) h hM (show p < 8 by omega), bc_f, bc_all hM8, h0, mI_eq0, vr, vw, vr32, vw32, vr33, vw33, vr34, vw34, vr35, vw35, vr36, vw36, mr_1, mw_1, mr_2, mw_2, mr_3, mw_3, mr_4, mw_4, mr_5, mw_5, mr_6, mw_6, mr_7, mw_7, mr_8, mw_8, mr_9, mw_9, mr_10, mw_10, mr_11, mw_11, mr_12, mw_12, mr_13, mw_13, mr_14, mw_14, mr_15, mw_15, mr_16, mw_16, mr_17, mw_17, mr_18, mw_18, mr_19, mw_19, mr_20, mw_20, mw_80, mw_81, mw_82, mw_83, mw_84, mw_85, mw_86, bit_val, hpos, m_beliefs (N := N) h hM hM8 hN, eB, eI, bc_out hM8, p_Ia, p_IL, hrf, f_X12_begin, hw, ok_some]
      exact ⟨rfl, (hfr.p0 (Or.inr (Or.inr (Or.inl rfl)))).p0 (Or.inr (Or.inr (Or.inr (Or.inr rfl))))⟩
end PY
