/-! PURE LAYER: belief from now on -/
def turnN (ρ : Rho) (e : Nat → Int32) (M : Nat) (v : Nat → Int32) : Nat → Nat → Int32
  | 0 => v
  | k + 1 => turnV ρ (turnN ρ e M v k) e M
theorem turnN_add {ρ : Rho} {e : Nat → Int32} {M : Nat} {v : Nat → Int32} {a : Nat} : ∀ b, turnN ρ e M v (a + b) = turnN ρ e M (turnN ρ e M v a) b
  | 0 => rfl
  | b + 1 => by show turnV ρ (turnN ρ e M v (a + b)) e M = _; rw [turnN_add b]; rfl
theorem agB_N {ρ : Rho} {v e : Nat → Int32} {M F : Nat} (hM : M ≤ 8) (hF : F ≤ 16) : ∀ n, agB (turnN ρ e M v n) (crossN ρ e M F v n)
  | 0 => agB.rfl
  | n + 1 => (agB_N hM hF n).cross hM hF
theorem sIn_N {ρ : Rho} {v e : Nat → Int32} {M F : Nat} (hM : M ≤ 8) (hF : F ≤ 16) (n : Nat) : sIn (crossN ρ e M F v n) e M = sIn (turnN ρ e M v n) e M := ((agB_N hM hF n).sIn hM).symm
/-- THE RULE doesn't look at the day -/
def nday (ρ : Rho) : Prop := ∀ g, ρ = some g → ∀ f f' : Nat → Int32, (∀ k, k < 7 → k ≠ 5 → f k = f' k) → g f = g f'
theorem th_day {ρ : Rho} {v v' e : Nat → Int32} {M p : Nat} (hM : M ≤ 8) (hp : p < M) (hd : nday ρ) (h : ∀ k, k < 16 → v k = v' k) (h34 : v 34 = v' 34) : th ρ v e M p = th ρ v' e M p := by
  have e1 : sMean v M p = sMean v' M p := by
    unfold sMean
    rw [h (8 + p) (by omega), h p (by omega), sBel_congr (v' := v') (fun i hi => ⟨h i (by omega), rfl⟩)]
  have e2 : sSign v p = sSign v' p := by unfold sSign; rw [h34]
  unfold th
  cases ρ with
  | none => simp only [e1, e2, h p (show p < 16 by omega)]
  | some g =>
    show clamp (g _) = clamp (g _)
    rw [hd g rfl (askd v e M p) (askd v' e M p) (fun k hk h5 => ?_)]
    unfold askd
    rw [if_neg h5, if_neg h5, e1, e2, h (8 + p) (by omega), h p (by omega), sOut_congr (b' := v') (e' := e) (fun i hi => ⟨h i (by omega), rfl⟩)]
/-- where nothing moves nothing will -/
theorem stat {ρ : Rho} {v e : Nat → Int32} {M : Nat} (hM : M ≤ 8) (hd : nday ρ) (h34 : v 34 = 0) (hs : ∀ q, q < M → th ρ v e M q = v q) : ∀ n, (∀ k, k < 16 → turnN ρ e M v n k = v k) ∧ turnN ρ e M v n 34 = v 34
  | 0 => ⟨fun _ _ => rfl, rfl⟩
  | n + 1 => by
    obtain ⟨h1, h2⟩ := stat hM hd h34 hs n
    refine ⟨fun k hk => ?_, ?_⟩
    · show turnV ρ (turnN ρ e M v n) e M k = v k
      unfold turnV
      by_cases hkM : k < M
      · rw [if_pos hkM, th_day hM hkM hd h1 h2]; exact hs k hkM
      · rw [if_neg hkM, if_neg (by omega), if_neg (by omega)]; exact h1 k hk
    · show turnV ρ (turnN ρ e M v n) e M 34 = v 34
      unfold turnV
      rw [if_neg (by omega), if_pos (Eq.refl 34), h34]
theorem c_believe {N M F r n : Nat} {ρ : Rho} {s : uS} {v e : Nat → Int32} {p2 p5 : Int32} (hS : cS s 32 M F v e) (hR : cR N s r ρ) (hM8 : M ≤ 8) (hF16 : F ≤ 16) (hn : n < 500) (hN : 500 < N) : ok (f_X7_believeFrom N s 38 32 p2 r (mI n) p5) (fun s2 => ∃ w, cS s2 38 M F w e ∧ fr (fun a => (38 ≤ a ∧ a < 44) ∨ a = r + 3 ∨ a = r + 4) s s2 ∧ (p5 = 0 → sIn w e M = sIn (turnN ρ e M (upV v 34 (v 34 ||| p2)) n) e M) ∧ (p5 ≠ 0 → 0 < n → (sIn w e M = 0 ↔ ∃ i, i < n ∧ sIn (turnN ρ e M (upV v 34 (v 34 ||| p2)) (i + 1)) e M = 0))) := by
  have hr := hR.1
  unfold f_X7_believeFrom
  rw [ok_bind]
  refine ok_mono (c_copy (by omega) (by omega) (by omega) (by omega) (by omega) (by omega) (by omega) hS hM8 hF16) (fun s1 hs1 => ?_)
  simp only [jn_eq]
  obtain ⟨k1, k2⟩ := hs1
  have e9 : s1.1 38 9 = v 34 := k1.2.2.2.2.2.2.2.2.1
  rw [e9]
  generalize hv0 : upV v 34 (v 34 ||| p2) = v0
  have hS0 : cS (u_pI s1 38 9 (v 34 ||| p2)) 38 M F v0 e := by rw [← hv0]; exact cS_up hM8 hF16 k1 (Or.inl ⟨rfl, Or.inr (Or.inr (Or.inl ⟨rfl, rfl⟩))⟩)
  have hf0 : fr (fun a => (38 ≤ a ∧ a < 44) ∨ a = r + 3 ∨ a = r + 4) s (u_pI s1 38 9 (v 34 ||| p2)) := (k2.mono (fun a ha => by omega)).pI (Or.inl (by omega))
  refine lp2_ok (fun i s' y => y = mI i ∧ cS s' 38 M F (turnN ρ e M v0 i) e ∧ fr (fun a => (38 ≤ a ∧ a < 44) ∨ a = r + 3 ∨ a = r + 4) s s' ∧ (p5 ≠ 0 → ∀ k, k < i → sIn (turnN ρ e M v0 (k + 1)) e M ≠ 0)) n N _ _ (by omega) ?_ ⟨rfl, hS0, hf0, fun _ k hk => absurd hk (by omega)⟩
  rintro i s' y rec hi ⟨rfl, i1, i2, i3⟩ hrec
  unfold b_X7_believeFrom_18
  by_cases hlt : i < n
  · rw [if_neg (by rw [mI_le (by omega) (by omega)]; omega)]
    simp only [jn_eq]
    have hRi : cR N s' r ρ := hR.fr i2 (by omega) (by omega)
    have e34 : s'.1 38 9 = turnN ρ e M v0 i 34 := i1.2.2.2.2.2.2.2.2.1
    have er : s'.1 r 10 = s.1 r 10 := by rw [i2.1 r (by omega)]
    have step : ∀ t8 : Int32, (t8 ≠ 0 → turnN ρ e M v0 i 34 = 0 ∧ nday ρ) → ok ((f_X7_turn N s' 38 r).bind fun v10 => if t8 = 0 then (if p5 = 0 then rec v10.2 (mI i + 1) else (f_X7_inside N v10.2 38).bind fun v14 => if v14 = 0 then some v10.2 else rec v10.2 (mI i + 1)) else if v10.1 = 0 then some v10.2 else (if p5 = 0 then rec v10.2 (mI i + 1) else (f_X7_inside N v10.2 38).bind fun v14 => if v14 = 0 then some v10.2 else rec v10.2 (mI i + 1))) (fun s2 => ∃ w, cS s2 38 M F w e ∧ fr (fun a => (38 ≤ a ∧ a < 44) ∨ a = r + 3 ∨ a = r + 4) s s2 ∧ (p5 = 0 → sIn w e M = sIn (turnN ρ e M v0 n) e M) ∧ (p5 ≠ 0 → 0 < n → (sIn w e M = 0 ↔ ∃ i, i < n ∧ sIn (turnN ρ e M v0 (i + 1)) e M = 0))) := by
      intro t8 ht8
      rw [ok_bind]
      refine ok_mono (c_turn (by omega) (by omega) (by omega) hRi i1 hM8 hF16 hN) (fun z hz => ?_)
      obtain ⟨z1, z2, z3⟩ := hz
      have z2 : cS z.2 38 M F (turnN ρ e M v0 (i + 1)) e := z2
      have z4 : fr (fun a => (38 ≤ a ∧ a < 44) ∨ a = r + 3 ∨ a = r + 4) s z.2 := (i2.trans z3).mono (fun a ha => by omega)
      have eI : f_X7_inside N z.2 38 = some (sIn (turnN ρ e M v0 (i + 1)) e M) := by rw [c_inside (by omega) (by omega) (by omega) z2.2.2.2.2.2.2.2.1 hM8 hN, sIn_cS z2]
      have on : ok (if p5 = 0 then rec z.2 (mI i + 1) else (f_X7_inside N z.2 38).bind fun v14 => if v14 = 0 then some z.2 else rec z.2 (mI i + 1)) (fun s2 => ∃ w, cS s2 38 M F w e ∧ fr (fun a => (38 ≤ a ∧ a < 44) ∨ a = r + 3 ∨ a = r + 4) s s2 ∧ (p5 = 0 → sIn w e M = sIn (turnN ρ e M v0 n) e M) ∧ (p5 ≠ 0 → 0 < n → (sIn w e M = 0 ↔ ∃ i, i < n ∧ sIn (turnN ρ e M v0 (i + 1)) e M = 0))) := by
        by_cases h5 : p5 = 0
        · rw [if_pos h5, mI_succ]
          exact hrec _ _ hlt ⟨rfl, z2, z4, fun h => absurd h5 h⟩
        · rw [if_neg h5, eI, o_bind]
          by_cases h0 : sIn (turnN ρ e M v0 (i + 1)) e M = 0
          · rw [if_pos h0, ok_some]
            exact ⟨_, z2, z4, fun h => absurd h h5, fun _ _ => ⟨fun _ => ⟨i, hlt, h0⟩, fun _ => h0⟩⟩
          · rw [if_neg h0, mI_succ]
            refine hrec _ _ hlt ⟨rfl, z2, z4, fun _ k hk => ?_⟩
            by_cases hki : k = i
            · rw [hki]; exact h0
            · exact i3 h5 k (by omega)
      by_cases h8 : t8 = 0
      · rw [if_pos h8]; exact on
      · rw [if_neg h8]
        by_cases hm : z.1 = 0
        · rw [if_pos hm, ok_some]
          obtain ⟨q1, q2⟩ := ht8 h8
          have hs : ∀ q, q < M → th ρ (turnN ρ e M v0 i) e M q = turnN ρ e M v0 i q := by
            rcases sMov_01 ρ (turnN ρ e M v0 i) e M M with h | h
            · exact h.2
            · rw [z1, h.1] at hm; exact absurd hm n10
          have st := stat hM8 q2 q1 hs
          have same : ∀ m, i ≤ m → sIn (turnN ρ e M v0 m) e M = sIn (turnN ρ e M v0 i) e M := by
            intro m hm
            have := turnN_add (ρ := ρ) (e := e) (M := M) (v := v0) (a := i) (m - i)
            rw [show i + (m - i) = m by omega] at this
            rw [this]
            exact sIn_congr (fun k hk => ⟨(st (m - i)).1 k (by omega), rfl⟩)
          refine ⟨_, z2, z4, fun _ => ?_, fun h5 _ => ⟨fun h => ⟨i, hlt, h⟩, fun ⟨k, hk, hk0⟩ => ?_⟩⟩
          · rw [same (i + 1) (by omega), same n (by omega)]
          · by_cases hki : k < i
            · exact absurd hk0 (i3 h5 k hki)
            · rw [same (i + 1) (by omega), ← same (k + 1) (by omega)]; exact hk0
        · rw [if_neg hm]; exact on
    by_cases c9 : turnN ρ e M v0 i 34 = 0
    · by_cases c10 : s.1 r 10 = 0
      · have := step 1 (fun _ => ⟨c9, hR.2.2 c10⟩)
        simp only [e34, c9, er, c10, if_true]
        exact this
      · have := step 0 (fun h => absurd rfl h)
        simp only [e34, c9, er, c10, if_true, if_false]
        simp only [if_true] at this
        exact this
    · have := step 0 (fun h => absurd rfl h)
      simp only [e34, c9, if_true, if_false]
      simp only [if_true] at this
      exact this
  · have hin : i = n := by omega
    subst hin
    rw [if_pos (by rw [mI_le (by omega) (by omega)]; omega), ok_some]
    refine ⟨_, i1, i2, fun _ => rfl, fun h5 h0 => ⟨fun h => absurd h ?_, fun ⟨k, hk, hk0⟩ => absurd hk0 (i3 h5 k hk)⟩⟩
    have := i3 h5 (i - 1) (by omega)
    rw [show i - 1 + 1 = i by omega] at this
    exact this
/-- the same of the reference, signs laid first -/
theorem m_laySigns {N : Nat} {t : uS} {p2 : Int32} (hN : 500 < N) : ok (f_X12_laySigns N t p2) (fun w => mV w 11 (upV (t.1 1) 34 (t.1 1 34 ||| p2)) ∧ mfr (fun c => c = 11) (fun _ => False) t w) := by
  have v11 : (11 : Nat) = 1 ∨ (11 : Nat) = 10 ∨ (11 : Nat) = 11 ∨ (11 : Nat) = 12 := by omega
  unfold f_X12_laySigns
  rw [ok_bind]
  refine ok_mono (m_lay (o := 0) (zv (a := 1) (Or.inl rfl)) (zv v11) (by omega) (by omega) (by omega) (by omega) (by omega) hN) (fun s hs => ?_)
  obtain ⟨k1, k2⟩ := hs
  have e : ∀ k, k < 37 → s.1 11 k = t.1 1 k := fun k hk => by rw [k1, if_pos (by omega)]; rfl
  rw [vr34 v11, o_bind, vw34 v11, o_bind, ok_some, e 34 (by omega)]
  refine ⟨fun k hk => ?_, (mfr_of k2 (by omega)).pI (by omega) rfl⟩
  by_cases h : k = 34
  · rw [h, p_II, upV_eq]
  · rw [p_Is h, upV_ne h, e k hk]
theorem m_leftBy {N M F B n : Nat} {ρ : Rho} {t : uS} {p2 : Int32} (hM : t.1 0 2 = mI M) (hF : t.1 0 1 = mI F) (hM8 : M ≤ 8) (hF16 : F ≤ 16) (hv : vok B M F (upV (t.1 1) 34 (t.1 1 34 ||| p2))) (hR : mR N t ρ) (hn : n < 500) (hN : 500 < N) : ok (f_X12_leftBy N t p2 (mI n)) (fun w => w.1 = bc (sIn (turnN ρ (t.1 2) M (upV (t.1 1) 34 (t.1 1 34 ||| p2)) n) (t.1 2) M) ∧ mfr (fun c => c = 11 ∨ c = 8 ∨ c = 13) T0 t w.2) := by
  have v11 : (11 : Nat) = 1 ∨ (11 : Nat) = 10 ∨ (11 : Nat) = 11 ∨ (11 : Nat) = 12 := by omega
  unfold f_X12_leftBy
  rw [ok_bind]
  refine ok_mono (m_laySigns hN) (fun s hs => ?_)
  obtain ⟨k1, k2⟩ := hs
  rw [ok_bind]
  have e2 : s.1 2 = t.1 2 := k2.1 2 (by omega) (by omega)
  refine ok_mono (m_goCrossings v11 (by rw [k2.2.1 2 (fun h => h)]; exact hM) (by rw [k2.2.1 1 (fun h => h)]; exact hF) hM8 hF16 k1 hv (hR.fr k2 (by omega) (by omega) (fun h => h)) hn hN) (fun z hz => ?_)
  rw [e2] at hz
  obtain ⟨z1, z2, z3⟩ := hz
  have z4 : mfr (fun c => c = 11 ∨ c = 8 ∨ c = 13) T0 t z.2 := (k2.trans z3).mono (fun c hc => by omega) (fun c hc => hc.elim (fun h => h.elim) id)
  rw [m_inBits v11 (by rw [z4.2.1 2 (by unfold T0; omega)]; exact hM) hM8 hN, o_bind, bc_f, o_bind, ok_some, sIn_mV z2 hM8, z4.1 2 (by omega) (by omega), sIn_N hM8 hF16]
  exact ⟨rfl, z4⟩
