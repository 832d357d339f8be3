/-! PURE LAYER: dig, keep, again, undo -/
theorem sSt_congr {dug dug' : Nat → Int32} {x y : Int32} {b : Bool} {k : Nat} (h : ∀ i, i < k → dug i = dug' i ∧ tb x i = tb y i) : sSt dug x b k = sSt dug' y b k := by
  induction k with
  | zero => rfl
  | succ k ih => show sSt dug x b k ||| _ = sSt dug' y b k ||| _; rw [ih (fun i hi => h i (by omega)), (h k (by omega)).1, (h k (by omega)).2]
theorem shl0 {D : Nat} (h : D < 32) : (0 : Int32) <<< (mI D &&& 31) = 0 := by
  have : ∀ D : Fin 32, (0 : Int32) <<< (mI D.val &&& 31) = 0 := by decide +kernel
  exact this ⟨D, h⟩
theorem tb_put {x t : Int32} {D k : Nat} (hD : D < 32) (hk : k < 32) (ht : t = 0 ∨ t = 1) : tb ((x &&& ((1 <<< (mI D &&& 31)) ^^^ (-1))) ||| (t <<< (mI D &&& 31))) k = if k = D then decide (t = 1) else tb x k := by
  rw [tb_or, tb_and, tb_not hk, tb_1 hD hk]
  rcases ht with rfl | rfl
  · rw [shl0 hD, tb_0]
    by_cases h : k = D
    · simp [h]
    · simp [h]
  · rw [tb_1 hD hk]
    by_cases h : k = D
    · simp [h]
    · simp [h]
theorem n_s29_ok (N j : Nat) (hN : 500 < N) : n_s29 N (Rel N j) (Rel N (j + 1)) := by
  intro σc σm h a1 a2
  have h := h.thr
  refine two ?_
  unfold f_X12_dig f_X11_dig f_X0_add
  simp only [u_jn]
  generalize u_pI σm 0 8 0 = s1 at h ⊢
  have hmono := h.mono
  obtain ⟨M, F, ρ, ⟨a1', at2, ⟨D, d1, d2, d3, d4, d5, d6⟩, a4, a5, a6⟩, hTo⟩ := h
  obtain ⟨b1, b2, b3, b4, b5, b6, b7⟩ := id a1'
  obtain ⟨t1, t2, t3, t4, t5, t6, t7, t8, t9, t10, t11⟩ := id b6
  rw [c_isFurrow t5 b3, m_isFurrow b4 b3, m_in]
  cases hs1 : smb a1 F
  · simp (disch := omega) only [u_jn, o_bind, o_nck, o_ckT, not_false_eq_true, mI_le, mI_lt, mI_eq, mI_succ, mI_8, mI_16, mI_add, i10, eq_self, if_true, if_false, Bool.false_eq_true, ok_some]
    exact ⟨trivial, hmono⟩
  obtain ⟨p, hp, rfl⟩ := smb_is hs1
  by_cases c1 : a2 < 0
  · simp (disch := omega) only [u_jn, o_bind, o_nck, o_ckT, not_false_eq_true, mI_le, mI_lt, mI_eq, mI_succ, mI_8, mI_16, mI_add, i10, eq_self, if_true, if_false, Bool.false_eq_true, c1, ok_some]
    exact ⟨trivial, hmono⟩
  by_cases c2 : 1 < a2
  · simp (disch := omega) only [u_jn, o_bind, o_nck, o_ckT, not_false_eq_true, mI_le, mI_lt, mI_eq, mI_succ, mI_8, mI_16, mI_add, i10, eq_self, if_true, if_false, Bool.false_eq_true, c1, c2, ok_some]
    exact ⟨trivial, hmono⟩
  obtain ⟨n, -, hn, rfl⟩ := rng (p := a2) (lo := 0) (hi := 1) (by omega) (by omega) c1 c2
  have e12 : (12 : Int32) = mI 12 := rfl
  by_cases c3 : D = 12
  · subst c3
    simp only [o_bind, if_true, if_false, i10, if_neg c1, if_neg c2, d2, d3, e12, mI_lt (show 12 < 1000000 by omega) (show 12 < 1000000 by omega), Nat.lt_irrefl, ok_some]
    exact ⟨trivial, hmono⟩
  have hD : D < 12 := by omega
  have hq := a6.q
  have hr := a6.r
  have e12n : ¬ mI D = mI 12 := by rw [mI_eq (by omega) (by omega)]; exact c3
  have ht : mI n = 0 ∨ mI n = 1 := by
    have : n = 0 ∨ n = 1 := by omega
    rcases this with rfl | rfl
    · exact Or.inl rfl
    · exact Or.inr rfl
  have hbits := fun k (hk : k < 32) => tb_put (x := s1.1 0 29) (t := mI n) (D := D) (k := k) (by omega) hk ht
  have fin : ∀ sc : uS, (∀ a, a ≠ 8 → sc.1 a = σc.1 a) → sc.2 = σc.2 → sc.1 8 0 = mI (D + 1) → sc.1 8 1 = (if n = 1 then σc.1 8 1 ||| (1 <<< (mI p &&& 31)) else σc.1 8 1) → sc.1 8 2 = (if n = 1 then σc.1 8 2 else σc.1 8 2 ||| (1 <<< (mI p &&& 31))) → Rel N (j + 1) sc (u_pI (u_pI (u_pI s1 16 D (mI p)) 0 29 ((s1.1 0 29 &&& ((1 <<< (mI D &&& 31)) ^^^ (-1))) ||| (mI n <<< (mI D &&& 31)))) 0 30 (mI (D + 1))) := by
    intro sc q1 q2 q3 q4 q5
    have pm : ∀ c, c ≠ 0 → c ≠ 16 → (u_pI (u_pI (u_pI s1 16 D (mI p)) 0 29 ((s1.1 0 29 &&& ((1 <<< (mI D &&& 31)) ^^^ (-1))) ||| (mI n <<< (mI D &&& 31)))) 0 30 (mI (D + 1))).1 c = s1.1 c := fun c h1 h2 => by rw [p_Ia h1, p_Ia h1, p_Ia h2]
    have ps : ∀ s, s ≠ 29 → s ≠ 30 → (u_pI (u_pI (u_pI s1 16 D (mI p)) 0 29 ((s1.1 0 29 &&& ((1 <<< (mI D &&& 31)) ^^^ (-1))) ||| (mI n <<< (mI D &&& 31)))) 0 30 (mI (D + 1))).1 0 s = s1.1 0 s := fun s h1 h2 => by rw [p_Is h2, p_Is h1, p_Ia (by omega)]
    have p16 : ∀ k, (u_pI (u_pI (u_pI s1 16 D (mI p)) 0 29 ((s1.1 0 29 &&& ((1 <<< (mI D &&& 31)) ^^^ (-1))) ||| (mI n <<< (mI D &&& 31)))) 0 30 (mI (D + 1))).1 16 k = if k = D then mI p else s1.1 16 k := fun k => by
      rw [p_Ia (by omega), p_Ia (by omega)]
      by_cases hk : k = D
      · rw [hk, p_II, if_pos rfl]
      · rw [p_Is hk, if_neg hk]
    have p29 : (u_pI (u_pI (u_pI s1 16 D (mI p)) 0 29 ((s1.1 0 29 &&& ((1 <<< (mI D &&& 31)) ^^^ (-1))) ||| (mI n <<< (mI D &&& 31)))) 0 30 (mI (D + 1))).1 0 29 = ((s1.1 0 29 &&& ((1 <<< (mI D &&& 31)) ^^^ (-1))) ||| (mI n <<< (mI D &&& 31))) := by rw [p_Is (by omega), p_II]
    have hSt : ∀ b : Bool, sSt ((u_pI (u_pI (u_pI s1 16 D (mI p)) 0 29 ((s1.1 0 29 &&& ((1 <<< (mI D &&& 31)) ^^^ (-1))) ||| (mI n <<< (mI D &&& 31)))) 0 30 (mI (D + 1))).1 16) ((s1.1 0 29 &&& ((1 <<< (mI D &&& 31)) ^^^ (-1))) ||| (mI n <<< (mI D &&& 31))) b (D + 1) = sSt (s1.1 16) (s1.1 0 29) b D ||| (if decide (n = 1) = b then 1 <<< (mI p &&& 31) else 0) := by
      intro b
      show sSt _ _ b D ||| _ = _
      rw [sSt_congr (dug' := s1.1 16) (y := s1.1 0 29) (fun i hi => ⟨by rw [p16, if_neg (by omega)], by rw [hbits i (by omega), if_neg (by omega)]⟩), p16, if_pos rfl, hbits D (by omega), if_pos rfl]
      have : decide (mI n = 1) = decide (n = 1) := by
        congr 1
        rw [show (1 : Int32) = mI 1 from rfl, mI_eq (by omega) (by omega)]
      rw [this]
    refine ⟨M, F, ρ, ⟨a1'.to (by omega) (fun a x y => q1 a (by omega)) (pm 1 (by omega) (by omega)) (pm 2 (by omega) (by omega)) (ps 1 (by omega) (by omega)) (ps 2 (by omega) (by omega)), at2.to (by rw [q1 1 (by omega)]) (q1 2 (by omega)) (pm 3 (by omega) (by omega)) (ps 5 (by omega) (by omega)), ⟨D + 1, by omega, q3, p_II _ _ _ _, fun k hk => ?_, ?_, ?_⟩, a4.to (by omega) (fun a x y => q1 a (by omega)) (by rw [q1 5 (by omega)]) (by rw [q2]) (pm 9 (by omega) (by omega)) (pm 2 (by omega) (by omega)) (ps 21 (by omega) (by omega)), a5.to (by omega) (by omega) (fun a x y => q1 a (by omega)) (by rw [q1 5 (by omega)]) (by rw [q2]) (pm 18 (by omega) (by omega)) (pm 2 (by omega) (by omega)) (pm 19 (by omega) (by omega)) (pm 20 (by omega) (by omega)) (ps 33 (by omega) (by omega)), a6.to (fun r h => ⟨q1 r (by have := hr r h; omega), q1 (r + 1) (by have := hr r h; omega)⟩) (by rw [q2]) (fun q h => pm q (by have := hq q h; omega) (by have := hq q h; omega)) rfl rfl (ps 17 (by omega) (by omega))⟩, hTo.to (by rw [q1 3 (by omega)]) (by rw [q2]) rfl (ps 7 (by omega) (by omega))⟩
    · rw [p16]
      by_cases hk2 : k = D
      · rw [if_pos hk2]; exact ⟨p, hp, rfl⟩
      · rw [if_neg hk2]; exact d4 k (by omega)
    · rw [p29, hSt true, q4, d5]
      by_cases hn1 : n = 1
      · rw [if_pos hn1, if_pos (by simp [hn1])]
      · rw [if_neg hn1, if_neg (by simp [hn1])]; simp
    · rw [p29, hSt false, q5, d6]
      by_cases hn1 : n = 1
      · rw [if_pos hn1, if_neg (by simp [hn1])]; simp
      · rw [if_neg hn1, if_pos (by simp [hn1])]
  simp only [o_bind, if_true, if_false, i10, if_neg c1, if_neg c2, d2, d3, e12, mI_lt (show D < 1000000 by omega) (show 12 < 1000000 by omega), hD, if_neg e12n, mw_16 (σ := s1) (v := mI p) hD, p_II, p_Is (show (30 : Nat) ≠ 29 by omega), p_Ia (show (0 : Nat) ≠ 16 by omega), mI_succ]
  by_cases hn1 : n = 1
  · have e1 : mI n = 1 := by rw [hn1]; rfl
    have fin1 := fin (u_pI (u_pI σc 8 0 (mI (D + 1))) 8 1 (σc.1 8 1 ||| (1 <<< (mI p &&& 31)))) (fun a h => by rw [p_Ia h, p_Ia h]) rfl (by rw [p_Is (by omega), p_II]) (by rw [p_II, if_pos hn1]) (by rw [p_Is (by omega), p_Is (by omega), if_pos hn1])
    simp only [if_pos e1, if_false, i10, o_bind, ok_some, p_Is (show (1 : Nat) ≠ 0 by omega), p_Is (show (0 : Nat) ≠ 1 by omega), p_II]
    exact ⟨trivial, fin1⟩
  · have e1 : ¬ mI n = 1 := by rw [show (1 : Int32) = mI 1 from rfl, mI_eq (by omega) (by omega)]; exact hn1
    have fin1 := fin (u_pI (u_pI σc 8 0 (mI (D + 1))) 8 2 (σc.1 8 2 ||| (1 <<< (mI p &&& 31)))) (fun a h => by rw [p_Ia h, p_Ia h]) rfl (by rw [p_Is (by omega), p_II]) (by rw [p_Is (by omega), p_Is (by omega), if_neg hn1]) (by rw [p_II, if_neg hn1])
    simp only [if_neg e1, if_true, o_bind, ok_some, p_Is (show (2 : Nat) ≠ 0 by omega), p_Is (show (0 : Nat) ≠ 2 by omega), p_II]
    exact ⟨trivial, fin1⟩
