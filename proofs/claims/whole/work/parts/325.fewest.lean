/-! PURE LAYER: the fewest signs -/
theorem tb_mI (k i : Nat) : tb (mI k) i = (decide (i < 32) && k.testBit i) := by
  show (BitVec.ofNat 32 k).getLsbD i = _
  rw [BitVec.getLsbD_ofNat]
theorem tb_small {k i M : Nat} (h : k < 2 ^ M) (hi : M ≤ i) : tb (mI k) i = false := by
  rw [tb_mI, Nat.testBit_lt_two_pow (Nat.lt_of_lt_of_le h (Nat.pow_le_pow_right (by omega) hi))]; simp
theorem pow8 {M : Nat} (h : M ≤ 8) : 2 ^ M ≤ 256 := Nat.pow_le_pow_right (n := 2) (by omega) h
theorem sub_bit : ∀ k : Fin 256, ∀ i : Fin 8, tb (mI k.val) i.val = true → cnt (mI (k.val - 2 ^ i.val)) 8 + 1 = cnt (mI k.val) 8 ∧ 2 ^ i.val ≤ k.val ∧ ∀ q : Fin 8, tb (mI (k.val - 2 ^ i.val)) q.val = (tb (mI k.val) q.val && !decide (q.val = i.val)) := by decide +kernel
theorem shlM {M : Nat} (h : M ≤ 16) : (1 : Int32) <<< (mI M &&& 31) = mI (2 ^ M) := by
  have : ∀ M : Fin 17, (1 : Int32) <<< (mI M.val &&& 31) = mI (2 ^ M.val) := by decide +kernel
  exact this ⟨M, by omega⟩
theorem sAllM {M : Nat} (h : M ≤ 16) : sAll M = mI (2 ^ M - 1) := by
  have : ∀ M : Fin 17, sAll M.val = mI (2 ^ M.val - 1) := by decide +kernel
  exact this ⟨M, by omega⟩
theorem pow16 {M : Nat} (h : M ≤ 16) : 2 ^ M ≤ 65536 := Nat.pow_le_pow_right (n := 2) (by omega) h
theorem bc_k {k M : Nat} (hM : M ≤ 8) (h : k < 2 ^ M) : bc (mI k) = mI (cnt (mI k) 8) := bc_cnt (fun i hi => tb_small h (by omega))
theorem lo8_k {k M : Nat} (hM : M ≤ 8) (h : k < 2 ^ M) : lo8 (mI k) := fun i hi => tb_small h (by omega)
theorem sIn_all {v e : Nat → Int32} {M : Nat} (hM : M ≤ 8) : sIn v e M &&& sAll M = sIn v e M := by
  apply tb_ext
  intro i hi
  rw [tb_and, tb_sIn M i hM, tb_all (by omega) hi]
  by_cases h : i < M <;> simp [h]
/-- by a set of signs those are out, or all are once -/
def Wk (ρ : Rho) (e : Nat → Int32) (M : Nat) (v : Nat → Int32) (p1 p5 : Int32) (n k : Nat) : Prop := (p5 = 0 ∧ sIn (turnN ρ e M (sgV v (mI k)) n) e M &&& p1 = 0) ∨ (p5 ≠ 0 ∧ ∃ i, i < n ∧ sIn (turnN ρ e M (sgV v (mI k)) (i + 1)) e M = 0)
theorem th_sig {ρ : Rho} {v e : Nat → Int32} {x y : Int32} {M p : Nat} (hM : M ≤ 8) (hp : p < M) (h : tb x p = tb y p) : th ρ (upV v 34 x) e M p = th ρ (upV v 34 y) e M p := by
  have a : ∀ k, k < 16 → upV v 34 x k = upV v 34 y k := fun k hk => by rw [upV_ne (by omega), upV_ne (by omega)]
  have e1 : sMean (upV v 34 x) M p = sMean (upV v 34 y) M p := by
    unfold sMean
    rw [a (8 + p) (by omega), a p (by omega), sBel_congr (v' := upV v 34 y) (fun i hi => ⟨a i (by omega), rfl⟩)]
  have e2 : sSign (upV v 34 x) p = sSign (upV v 34 y) p := by unfold sSign; rw [upV_eq, upV_eq, h]
  have a35 : upV v 34 x 35 = upV v 34 y 35 := by rw [upV_ne (by omega), upV_ne (by omega)]
  have e3 : askd (upV v 34 x) e M p = askd (upV v 34 y) e M p := by
    funext k
    unfold askd
    rw [e1, e2, a (8 + p) (by omega), a p (by omega), a35, sOut_congr (b' := upV v 34 y) (e' := e) (fun i hi => ⟨a i (by omega), rfl⟩)]
  unfold th
  cases ρ with
  | none => simp only [e1, e2, a p (show p < 16 by omega)]
  | some g => simp only [e3]
theorem turn_sig {ρ : Rho} {v e : Nat → Int32} {x y : Int32} {M : Nat} (hM : M ≤ 8) (h : ∀ p, p < M → th ρ (upV v 34 x) e M p = th ρ (upV v 34 y) e M p) : turnV ρ (upV v 34 x) e M = turnV ρ (upV v 34 y) e M := by
  funext k
  unfold turnV
  by_cases h1 : k < M
  · rw [if_pos h1, if_pos h1]; exact h k h1
  · rw [if_neg h1, if_neg h1]
    by_cases h2 : k = 34
    · rw [if_pos h2, if_pos h2]
    · have a35 : upV v 34 x 35 = upV v 34 y 35 := by rw [upV_ne (by omega), upV_ne (by omega)]
      have ak : upV v 34 x k = upV v 34 y k := by rw [upV_ne h2, upV_ne h2]
      rw [if_neg h2, if_neg h2, a35, ak]
/-- whom a sign moves -/
def isUse (ρ : Rho) (v e : Nat → Int32) (M : Nat) (us : Int32) : Prop := ∀ i, i < M → (tb us i = false ↔ th ρ v e M i = th ρ (upV v 34 (sAll M)) e M i)
theorem few_rem {ρ : Rho} {v e : Nat → Int32} {M n k : Nat} {us p1 p5 : Int32} (hM : M ≤ 8) (hn : 0 < n) (hk : k < 2 ^ M) (hu : isUse ρ v e M us) (hs : ¬ mI k &&& (us ^^^ (-1)) = 0) : ∃ k', k' < k ∧ cnt (mI k') 8 + 1 = cnt (mI k) 8 ∧ (Wk ρ e M v p1 p5 n k ↔ Wk ρ e M v p1 p5 n k') := by
  have hi : ∃ i, i < M ∧ tb (mI k) i = true ∧ tb us i = false := by
    apply Classical.byContradiction
    intro hno
    apply hs
    apply tb_ext
    intro i hi
    rw [tb_and, tb_not hi, tb_0]
    by_cases hiM : i < M
    · cases h1 : tb (mI k) i
      · rfl
      · cases h2 : tb us i
        · exact absurd ⟨i, hiM, h1, h2⟩ hno
        · rfl
    · rw [tb_small hk (by omega)]; rfl
  obtain ⟨i, hiM, h1, h2⟩ := hi
  have hp := pow8 hM
  obtain ⟨g1, g2, g3⟩ := sub_bit ⟨k, by omega⟩ ⟨i, by omega⟩ h1
  have hpos : 0 < 2 ^ i := Nat.pow_pos (by omega)
  refine ⟨k - 2 ^ i, by simp only [] at g2; omega, g1, ?_⟩
  have hth : ∀ p, p < M → th ρ (sgV v (mI k)) e M p = th ρ (sgV v (mI (k - 2 ^ i))) e M p := by
    intro p hp
    have hb : tb (mI (k - 2 ^ i)) p = (tb (mI k) p && !decide (p = i)) := g3 ⟨p, by omega⟩
    unfold sgV
    by_cases hpi : p = i
    · subst hpi
      have hno := (hu p hp).mp h2
      cases h34 : tb (v 34) p
      · have a1 : th ρ (upV v 34 (v 34 ||| mI k)) e M p = th ρ (upV v 34 (sAll M)) e M p := th_sig hM hp (by rw [tb_or, h1, tb_all (by omega) (by omega)]; simp [hp])
        have a2 : th ρ (upV v 34 (v 34 ||| mI (k - 2 ^ p))) e M p = th ρ (upV v 34 (v 34)) e M p := th_sig hM hp (by rw [tb_or, hb, h34]; simp)
        rw [a1, a2, upV_self, hno]
      · exact th_sig hM hp (by rw [tb_or, tb_or, h34]; simp)
    · exact th_sig hM hp (by rw [tb_or, tb_or, hb]; simp [hpi])
  have ht : ∀ m, 0 < m → turnN ρ e M (sgV v (mI k)) m = turnN ρ e M (sgV v (mI (k - 2 ^ i))) m := by
    intro m hm
    have q1 := turnN_add (ρ := ρ) (e := e) (M := M) (v := sgV v (mI k)) (a := 1) (m - 1)
    have q2 := turnN_add (ρ := ρ) (e := e) (M := M) (v := sgV v (mI (k - 2 ^ i))) (a := 1) (m - 1)
    rw [show 1 + (m - 1) = m by omega] at q1 q2
    rw [q1, q2]
    have : turnN ρ e M (sgV v (mI k)) 1 = turnN ρ e M (sgV v (mI (k - 2 ^ i))) 1 := turn_sig hM hth
    rw [this]
  unfold Wk
  rw [ht n hn]
  constructor
  · rintro (h | ⟨h, q, hq, hq0⟩)
    · exact Or.inl h
    · exact Or.inr ⟨h, q, hq, by rw [← ht (q + 1) (by omega)]; exact hq0⟩
  · rintro (h | ⟨h, q, hq, hq0⟩)
    · exact Or.inl h
    · exact Or.inr ⟨h, q, hq, by rw [ht (q + 1) (by omega)]; exact hq0⟩
theorem c_useful {N j M F : Nat} {ρ : Rho} {σc σm : uS} (hC : RelC N j M F ρ σc σm) (hN : 500 < N) : ok (f_X11_whomSignsMove N σc) (fun z => isUse ρ (σm.1 1) (σm.1 2) M z.1 ∧ fr scr σc z.2) := by
  obtain ⟨r, hr, hr2⟩ := hC.hasR
  have hR := hC.cR hr
  have hr3 := hR.1
  obtain ⟨b1, b2, b3, b4, b5, b6, b7⟩ := id hC.1
  unfold f_X11_whomSignsMove
  rw [ok_bind]
  refine ok_mono (TC.start hC fr.rfl) (fun s hs => ?_)
  have e8 : s.1 32 8 = mI M := by rw [hs.2.1 32 (by unfold scr; omega)]; exact b6.2.2.2.2.2.2.2.1
  rw [c_everybody e8, o_bind]
  simp only [jn_eq]
  have h0 : TC M F σc σm (upV (σm.1 1) 34 (sAll M)) (u_pI s 38 9 (sAll M)) := ⟨cS_up b1 b3 hs.1 (Or.inl ⟨rfl, Or.inr (Or.inr (Or.inl ⟨rfl, rfl⟩))⟩), hs.2.pI (by unfold scr; omega)⟩
  refine lp3_ok (fun k s' x y => y = mI k ∧ TC M F σc σm (upV (σm.1 1) 34 (sAll M)) s' ∧ ∀ i, i < M → (tb x i = false ↔ (i < k → th ρ (σm.1 1) (σm.1 2) M i = th ρ (upV (σm.1 1) 34 (sAll M)) (σm.1 2) M i))) M N _ _ _ (by omega) ?_ ⟨rfl, h0, fun i hi => ⟨fun _ h => absurd h (by omega), fun _ => tb_0 i⟩⟩
  rintro k s' x y rec hk ⟨rfl, i1, i2⟩ hrec
  unfold b_X11_whomSignsMove_29
  have e8 : s'.1 32 8 = mI M := by rw [i1.2.1 32 (by unfold scr; omega)]; exact b6.2.2.2.2.2.2.2.1
  rw [e8]
  by_cases hlt : k < M
  · rw [if_neg (by rw [mI_le (by omega) (by omega)]; omega), i1.ru hr, o_bind, o_ck hr2, ok_bind]
    have hS32 : cS s' 32 M F (σm.1 1) (σm.1 2) := cS_eq b6 (fun a x y => i1.2.1 a (by unfold scr; omega))
    have hR1 : cR N s' r ρ := hR.fr i1.2 (by unfold scr; omega) (by unfold scr; omega)
    refine ok_mono (c_behind (by omega) (by omega) (by omega) hr3 hS32 hR1.2.1 b1 hlt hN) (fun z hz => ?_)
    obtain ⟨z1, z2⟩ := hz
    have hS38 : cS z.2 38 M F (upV (σm.1 1) 34 (sAll M)) (σm.1 2) := i1.1.fr z2 (by omega) (by omega) (by omega) (by omega) (by omega)
    have hR2 : cR N z.2 r ρ := hR1.fr z2 (by omega) (by omega)
    rw [z2.2, i1.ru hr, o_bind, o_ck hr2, ok_bind]
    refine ok_mono (c_behind (by omega) (by omega) (by omega) hr3 hS38 hR2.2.1 b1 hlt hN) (fun w hw => ?_)
    obtain ⟨w1, w2⟩ := hw
    simp only [jn_eq, mI_succ]
    have i1' : TC M F σc σm (upV (σm.1 1) 34 (sAll M)) w.2 := by
      refine ⟨hS38.fr w2 (by omega) (by omega) (by omega) (by omega) (by omega), ((i1.2.trans z2).trans w2).mono (fun a ha => ?_)⟩
      rcases ha with (ha | ha) | ha
      · exact ha
      · unfold scr; omega
      · unfold scr; omega
    rw [z1, w1]
    by_cases ht : th ρ (σm.1 1) (σm.1 2) M k = th ρ (upV (σm.1 1) 34 (sAll M)) (σm.1 2) M k
    · rw [if_pos ht]
      refine hrec _ _ _ hlt ⟨rfl, i1', fun i hi => ?_⟩
      rw [i2 i hi]
      constructor
      · intro h hik
        by_cases h2 : i = k
        · rw [h2]; exact ht
        · exact h (by omega)
      · intro h hik
        exact h (by omega)
    · rw [if_neg ht]
      refine hrec _ _ _ hlt ⟨rfl, i1', fun i hi => ?_⟩
      rw [tb_or, tb_1 (by omega) (by omega)]
      by_cases h2 : i = k
      · subst h2
        constructor
        · intro h; simp at h
        · intro h; exact absurd (h (by omega)) ht
      · simp only [h2, decide_false, Bool.or_false]
        rw [i2 i hi]
        constructor
        · intro h hik; exact h (by omega)
        · intro h hik; exact h (by omega)
  · rw [if_pos (by rw [mI_le (by omega) (by omega)]; omega), ok_some]
    exact ⟨fun i hi => (i2 i hi).trans ⟨fun h => h (by omega), fun h _ => h⟩, i1.2⟩
