/-! PURE LAYER: the class reads a rule, sign by sign -/
theorem p_self (σ : uS) (a k : Nat) : u_pI σ a k (σ.1 a k) = σ := by
  unfold u_pI u_sI upd
  refine Prod.ext ?_ rfl
  funext b
  by_cases hb : b = a
  · subst hb
    simp only [if_true]
    funext j
    by_cases hj : j = k
    · simp [hj]
    · simp [hj]
  · simp only [hb, if_false]
theorem c_which {N : Nat} {σ : uS} {x : Int32} : f_X6_whichThing N σ x = some (letV x) := by
  unfold f_X6_whichThing
  by_cases h1 : x = 97
  · subst h1; decide
  by_cases h2 : x = 98
  · subst h2; decide
  by_cases h3 : x = 100
  · subst h3; decide
  by_cases h4 : x = 101
  · subst h4; decide
  by_cases h5 : x = 103
  · subst h5; decide
  by_cases h6 : x = 110
  · subst h6; decide
  by_cases h7 : x = 120
  · subst h7; decide
  unfold letV
  rw [if_neg h1, if_neg h2, if_neg h3, if_neg h4, if_neg h5, if_neg h6, if_neg h7, if_neg h2, if_neg h1, if_neg h6, if_neg h7, if_neg h5, if_neg h3, if_neg h4]
section R2
variable {N r T : Nat} {σ s : uS} {C W : List Int32} {dg cm bt : Int32} {d : Nat} {x : Nat → Int32}
theorem tkT {y : Int32} (h : s.1 r 9 = 0) : f_X6_takes N s r y = (f_X6_takesThing N s r y).bind fun v1 => u_ck (v1.1 = 0 ∨ v1.1 = 1) (some (v1.1, v1.2)) := by unfold f_X6_takes; rw [if_pos h]
theorem tkB {y : Int32} (h : s.1 r 9 = 1) : f_X6_takes N s r y = (f_X6_takesBehindThing N s r y).bind fun v1 => u_ck (v1.1 = 0 ∨ v1.1 = 1) (some (v1.1, v1.2)) := by unfold f_X6_takes; rw [h, if_neg n10]
theorem T45 (hr : r = 22 ∨ r = 27) (h : cSt σ s r C W 0 d cm 0) (hl : W.length < 40) : ∃ s', f_X6_takes N s r 45 = some (1, s') ∧ cSt σ s' r C (W ++ [126]) 0 d cm 0 := by
  obtain ⟨s', e1, e2⟩ := c_await (N := N) hr h hl 126
  refine ⟨s', ?_, e2⟩
  rw [tkT h.2.2.2.2.2.2.2.1]
  unfold f_X6_takesThing
  rw [if_pos rfl, e1, o_bind, o_ck (Or.inr rfl), o_bind, o_ck (Or.inr rfl)]
theorem T40 (hr : r = 22 ∨ r = 27) (h : cSt σ s r C W 0 d cm 0) (hl : W.length < 40) (hd : d < 4) : ∃ s', f_X6_takes N s r 40 = some (1, s') ∧ cSt σ s' r C (W ++ [40]) 0 (d + 1) (cm &&& ((1 <<< (mI (d + 1) &&& 31)) ^^^ (-1))) 0 := by
  have h1 := cSt.dep hr h (d + 1)
  have h2 := cSt.cmp hr h1 (cm &&& ((1 <<< (mI (d + 1) &&& 31)) ^^^ (-1)))
  obtain ⟨s', e1, e2⟩ := c_await (N := N) hr h2 hl 40
  refine ⟨s', ?_, e2⟩
  rw [tkT h.2.2.2.2.2.2.2.1]
  unfold f_X6_takesThing f_X6_opens
  simp only [jn_eq]
  rw [if_neg (by decide), if_pos trivial, h.2.2.2.2.2.1, if_pos (rlt 4 4 rfl (by omega) (by omega) hd), mI_succ, h1.2.2.2.2.2.2.1, h1.2.2.2.2.2.1, e1, o_bind, o_ck (Or.inr rfl), o_bind, o_ck (Or.inr rfl), o_bind, o_ck (Or.inr rfl)]
theorem T40n (h : cSt σ s r C W 0 d cm 0) (hd : ¬ d < 4) (hd9 : d < 100) : f_X6_takes N s r 40 = some (0, s) := by
  rw [tkT h.2.2.2.2.2.2.2.1]
  unfold f_X6_takesThing f_X6_opens
  rw [if_neg (by decide), if_pos rfl, h.2.2.2.2.2.1, if_neg (rnlt 4 4 rfl (by omega) (by omega) (by omega)), o_bind, o_ck (Or.inl rfl), o_bind, o_ck (Or.inl rfl)]
theorem TD {y : Int32} (hr : r = 22 ∨ r = 27) (h : cSt σ s r C W 0 d cm 0) (hl : C.length < 40) (hy : inR y 48 57 = true) : ∃ s', f_X6_takes N s r y = some (1, s') ∧ cSt σ s' r (C ++ [y - 48]) W 1 d cm 1 := by
  have h1 := cSt.beh hr (cSt.dig hr h 1) 1
  obtain ⟨v, hv, ev⟩ := dig_val hy
  obtain ⟨s', e1, e2⟩ := c_put (N := N) hr h1 hl (y - 48) (fun _ => by rw [ev, ne_eq, mI_eq (by omega) (by omega)]; omega)
  refine ⟨s', ?_, e2⟩
  rw [tkT h.2.2.2.2.2.2.2.1]
  unfold f_X6_takesThing f_X6_putThing
  have n45 : ¬ y = 45 := fun h => by rw [h] at hy; exact absurd hy (by decide)
  have n40 : ¬ y = 40 := fun h => by rw [h] at hy; exact absurd hy (by decide)
  rw [if_neg n45, if_neg n40, c_isDigit, hy, if_pos rfl, o_bind, if_neg n10]
  simp only [jn_eq]
  rw [e1, o_bind, o_ck (Or.inr rfl), o_bind, o_ck (Or.inr rfl), o_bind, o_ck (Or.inr rfl)]
theorem TL {y : Int32} {l : Nat} (hr : r = 22 ∨ r = 27) (h : cSt σ s r C W 0 d cm 0) (hl : C.length < 40) (h7 : l < 7) (hy : letV y = mI l) : ∃ s', f_X6_takes N s r y = some (1, s') ∧ cSt σ s' r (C ++ [1000 + mI l]) W 0 d cm 1 := by
  have n45 : ¬ y = 45 := fun h => by rw [h] at hy; exact m1ne (k := l) (by omega) (hy.symm.trans (by decide))
  have n40 : ¬ y = 40 := fun h => by rw [h] at hy; exact m1ne (k := l) (by omega) (hy.symm.trans (by decide))
  have ndig : inR y 48 57 = false := by
    cases hin : inR y 48 57
    · rfl
    · obtain ⟨c, c1, rfl, c2, c3⟩ := (inR_iff (by omega) (by omega)).mp hin
      have : ∀ c : Fin 256, 48 ≤ c.val → c.val ≤ 57 → letV (mI c.val) = -1 := by decide +kernel
      rw [this ⟨c, c1⟩ c2 c3] at hy
      exact absurd hy.symm (m1ne (by omega))
  have base : ∀ s0 : uS, cSt σ s0 r C W 0 d cm 0 → (s0.1 r 10 = 0 → l ≠ 5) → ∃ s', (f_X6_putThing N s0 r (1000 + mI l)).bind (fun v6 => u_ck (v6.1 = 0 ∨ v6.1 = 1) (some (v6.1, v6.2))) = some (1, s') ∧ cSt σ s' r (C ++ [1000 + mI l]) W 0 d cm 1 := by
    intro s0 h0 hl5
    have h1 := cSt.beh hr h0 1
    obtain ⟨s', e1, e2⟩ := c_put (N := N) hr h1 hl (1000 + mI l) (fun h10 => by
      rw [p_Is (by omega)] at h10
      have := hl5 h10
      rw [show (1000 : Int32) = mI 1000 from rfl, mI_add, ne_eq, mI_eq (by omega) (by omega)]; omega)
    refine ⟨s', ?_, e2⟩
    unfold f_X6_putThing
    simp only [jn_eq]
    rw [e1, o_bind, o_ck (Or.inr rfl), o_bind, o_ck (Or.inr rfl)]
  have hge : (0 : Int32) ≤ mI l := lle 0 0 rfl (by omega) (by omega) (by omega)
  rw [tkT h.2.2.2.2.2.2.2.1]
  unfold f_X6_takesThing
  rw [if_neg n45, if_neg n40, c_isDigit, ndig, if_neg Bool.false_ne_true, o_bind, if_pos rfl, c_which, o_bind, hy, if_pos hge]
  simp only [jn_eq]
  by_cases h5 : l = 5
  · have e5 : mI l = 5 := by rw [h5]; rfl
    have e10 : s.1 r 10 ||| 1 = 1 := by
      rcases h.2.2.2.2.2.2.2.2.1 with h | h <;> rw [h] <;> decide
    obtain ⟨s', e1, e2⟩ := base (u_pI s r 10 1) (cSt.day hr h) (fun h => by rw [p_II] at h; exact absurd h (by decide))
    refine ⟨s', ?_, e2⟩
    rw [if_pos e5, e10, o_ck (Or.inr rfl), e1, o_bind, o_ck (Or.inr rfl)]
  · have e5 : ¬ mI l = 5 := by rw [show (5 : Int32) = mI 5 from rfl, mI_eq (by omega) (by omega)]; exact h5
    obtain ⟨s', e1, e2⟩ := base s h (fun _ => h5)
    refine ⟨s', ?_, e2⟩
    rw [if_neg e5, or0, o_ck h.2.2.2.2.2.2.2.2.1, p_self, e1, o_bind, o_ck (Or.inr rfl)]
theorem TN {y : Int32} (h : cSt σ s r C W 0 d cm 0) (n45 : ¬ y = 45) (n40 : ¬ y = 40) (ndig : inR y 48 57 = false) (hy : letV y = -1) : f_X6_takes N s r y = some (0, s) := by
  rw [tkT h.2.2.2.2.2.2.2.1]
  unfold f_X6_takesThing
  rw [if_neg n45, if_neg n40, c_isDigit, ndig, if_neg Bool.false_ne_true, o_bind, if_pos rfl, c_which, o_bind, hy, if_neg (by decide), o_bind, o_ck (Or.inl rfl)]
/-- one digit more -/
theorem BD {y v : Int32} {g : Nat} (hr : r = 22 ∨ r = 27) (h : cSt σ s r (C ++ [v]) W (mI g) d cm 1) (hl : C.length < 40) (hg1 : 1 ≤ g) (hg2 : g ≤ 2) (hy : inR y 48 57 = true) (hv : v * 10 + (y - 48) ≠ mI 1005) : ∃ s', f_X6_takes N s r y = some (1, s') ∧ cSt σ s' r (C ++ [v * 10 + (y - 48)]) W (mI (g + 1)) d cm 1 := by
  obtain ⟨h4, hC, h5, hW, h6, h7, h8, h9, h10, hD, hX⟩ := id h
  have hlen : ∀ z : Int32, (C ++ [z]).length = C.length + 1 := fun z => by rw [List.length_append]; rfl
  have ev : s.1 (r + 1) C.length = v := by rw [hC C.length (by rw [hlen]; omega), nth_e]
  refine ⟨u_pI (u_pI s (r + 1) C.length (v * 10 + (y - 48))) r 6 (mI (g + 1)), ?_, ?_⟩
  · rw [tkB h9]
    unfold f_X6_takesBehindThing f_X6_takesDigit
    simp only [jn_eq]
    rw [c_isDigit, hy, if_pos rfl, o_bind, if_neg n10, h6, if_neg (rnlt 1 1 rfl (by omega) (by omega) hg1), if_neg (lnlt 2 2 rfl (by omega) (by omega) hg2), h4, hlen, mI_pred (by omega) (by omega), show C.length + 1 - 1 = C.length by omega, if_neg (mI_n0 (by omega)), rl_1 hr, o_bind, if_pos (mlt (by omega) (by omega) hl), rr_1 hr hl, o_bind, ev, rw_1 hr hl, o_bind, p_Ia (by omega), h6, mI_succ, o_bind, o_ck (Or.inr rfl), o_bind, o_ck (Or.inr rfl)]
  · refine ⟨by rw [p_Is (by omega), p_Ia (by omega), hlen]; rw [hlen] at h4; exact h4, fun i hi => ?_, by rw [p_Is (by omega), p_Ia (by omega)]; exact h5, fun i hi => by rw [p_Ia (by omega), p_Ia (by omega)]; exact hW i hi, p_II _ _ _ _, by rw [p_Is (by omega), p_Ia (by omega)]; exact h7, by rw [p_Is (by omega), p_Ia (by omega)]; exact h8, by rw [p_Is (by omega), p_Ia (by omega)]; exact h9, by rw [p_Is (by omega), p_Ia (by omega)]; exact h10, ?_, cXr hr (cXr hr hX (Or.inr (Or.inl rfl))) (Or.inl rfl)⟩
    · rw [hlen] at hi
      rw [p_Ia (by omega)]
      by_cases hiw : i = C.length
      · rw [hiw, p_II, nth_e]
      · have := hC i (by rw [hlen]; omega)
        rw [nth_l (by omega)] at this
        rw [p_Is hiw, nth_l (by omega)]; exact this
    · rw [p_Is (by omega), p_Ia (by omega)]
      intro h0 z hz
      rcases List.mem_append.mp hz with hz | hz
      · exact hD h0 z (List.mem_append.mpr (Or.inl hz))
      · rw [List.mem_singleton.mp hz]; exact hv
/-- an operator -/
theorem BO {op : Int32} {k : Nat} {Y : List Int32} (hr : r = 22 ∨ r = 27) (h : cSt σ s r C (W ++ Y) dg d cm 1) (hop : rankN op = k) (hk1 : 1 ≤ k) (hst : stopW k W) (hp : ∀ y, y ∈ Y → pend k y) (hl : C.length + (W ++ Y).length ≤ 39) (hd : d ≤ 4) (hcm : k = 1 → tb cm d = false) (hN : 500 < N) : ∃ s' cm', f_X6_takes N s r op = some (1, s') ∧ cSt σ s' r (C ++ flush Y) (W ++ [op]) 0 d cm' 0 ∧ (∀ i, i ≠ d → tb cm' i = tb cm i) ∧ (k ≠ 1 → cm' = cm) ∧ (k = 1 → tb cm' d = true) := by
  have hk3 : k ≤ 3 := by rw [← hop]; exact rankN_le op
  have hWY : (W ++ Y).length = W.length + Y.length := List.length_append
  have ndig : inR op 48 57 = false := by
    cases hin : inR op 48 57
    · rfl
    · obtain ⟨c, c1, rfl, c2, c3⟩ := (inR_iff (by omega) (by omega)).mp hin
      have : ∀ c : Fin 256, 48 ≤ c.val → c.val ≤ 57 → rankN (mI c.val) = 0 := by decide +kernel
      rw [this ⟨c, c1⟩ c2 c3] at hop; omega
  have n41 : ¬ op = 41 := fun h => by rw [h] at hop; have : rankN 41 = 0 := by decide
                                      omega
  have h1 := cSt.dig hr h 0
  have fin : ∀ cm', (∀ i, i ≠ d → tb cm' i = tb cm i) → (k ≠ 1 → cm' = cm) → (k = 1 → tb cm' d = true) → ∃ s', ((f_X6_unwind N (u_pI (u_pI s r 6 0) r 8 cm') r (mI k)).bind fun s8 => (f_X6_await N (u_pI s8 r 9 0) r op).bind fun v10 => u_ck (v10.1 = 0 ∨ v10.1 = 1) (some (v10.1, v10.2))) = some (1, s') ∧ cSt σ s' r (C ++ flush Y) (W ++ [op]) 0 d cm' 0 := by
    intro cm' _ _ _
    obtain ⟨s1, e1, e2⟩ := c_unwind (N := N) hr hk1 hk3 hst hN Y.length Y _ C rfl hp (cSt.cmp hr h1 cm') (by omega)
    obtain ⟨s2, f1, f2⟩ := c_await (N := N) hr (cSt.beh hr e2 0) (by omega) op
    refine ⟨s2, ?_, f2⟩
    rw [e1, o_bind, f1, o_bind, o_ck (Or.inr rfl)]
  have hk0 : ¬ mI k = 0 := by rw [show (0 : Int32) = mI 0 from rfl, mI_eq (by omega) (by omega)]; omega
  rw [tkB h.2.2.2.2.2.2.2.1]
  unfold f_X6_takesBehindThing
  simp only [jn_eq]
  rw [c_isDigit, ndig, if_neg Bool.false_ne_true, o_bind, if_pos rfl, if_neg n41, c_rank, o_bind, hop, if_neg hk0]
  rw [h1.2.2.2.2.2.2.1, h1.2.2.2.2.2.1]
  by_cases hk : k = 1
  · have e1 : mI k = 1 := by rw [hk]; rfl
    have htb : ∀ i, tb (cm ||| (1 <<< (mI d &&& 31))) i = (tb cm i || decide (i = d)) := fun i => by
      by_cases h32 : i < 32
      · rw [tb_or, tb_1 (by omega) h32]
      · rw [tb_hi (by omega), tb_hi (by omega)]; simp; omega
    obtain ⟨s', f1, f2⟩ := fin (cm ||| (1 <<< (mI d &&& 31))) (fun i hi => by rw [htb i]; simp [hi]) (fun h => absurd hk h) (fun _ => by rw [htb d]; simp)
    refine ⟨s', cm ||| (1 <<< (mI d &&& 31)), ?_, f2, fun i hi => by rw [htb i]; simp [hi], fun h => absurd hk h, fun _ => by rw [htb d]; simp⟩
    rw [if_pos e1, if_neg (by rw [bit_is (by omega), hcm hk]; exact Bool.false_ne_true), if_pos e1, f1, o_bind, o_ck (Or.inr rfl)]
  · have e1 : ¬ mI k = 1 := by rw [show (1 : Int32) = mI 1 from rfl, mI_eq (by omega) (by omega)]; exact hk
    obtain ⟨s', f1, f2⟩ := fin cm (fun _ _ => rfl) (fun _ => rfl) (fun h => absurd h hk)
    refine ⟨s', cm, ?_, f2, fun _ _ => rfl, fun _ => rfl, fun h => absurd h hk⟩
    rw [if_neg e1, if_neg e1, or0, f1, o_bind, o_ck (Or.inr rfl)]
/-- a bracket is closed -/
theorem BC {Y : List Int32} (hr : r = 22 ∨ r = 27) (h : cSt σ s r C ((W ++ [40]) ++ Y) dg (d + 1) cm 1) (hp : ∀ y, y ∈ Y → pend 1 y) (hl : C.length + ((W ++ [40]) ++ Y).length ≤ 40) (hd : d < 4) (hN : 500 < N) : ∃ s', f_X6_takes N s r 41 = some (1, s') ∧ cSt σ s' r (C ++ flush Y) W 0 d cm 1 := by
  have hWY : ((W ++ [40]) ++ Y).length = W.length + 1 + Y.length := by rw [List.length_append, List.length_append]; rfl
  have hW1 : (W ++ [40]).length = W.length + 1 := by rw [List.length_append]; rfl
  have h1 := cSt.dig hr h 0
  obtain ⟨s1, e1, e2⟩ := c_unwind (N := N) hr (k := 1) (by omega) (by omega) (Or.inr ⟨W, 40, rfl, by decide, by decide⟩) hN Y.length Y _ C rfl hp h1 (by omega)
  have e3 := cSt.pop hr e2
  have e4 := cSt.dep hr e3 d
  refine ⟨_, ?_, e4⟩
  rw [tkB h.2.2.2.2.2.2.2.1]
  unfold f_X6_takesBehindThing f_X6_closes
  simp only [jn_eq]
  rw [c_isDigit, show inR 41 48 57 = false by decide, if_neg Bool.false_ne_true, o_bind, if_pos rfl, if_pos trivial, h1.2.2.2.2.2.1, if_neg (by rw [show (0 : Int32) = mI 0 from rfl, mI_eq (by omega) (by omega)]; omega), show (1 : Int32) = mI 1 from rfl, e1, o_bind, e2.2.2.1, hW1]
  have em : (if 0 < mI (W.length + 1) - mI 1 then mI (W.length + 1) - mI 1 else 0) = mI W.length := by
    rw [mI_sub (by omega) (by omega), show W.length + 1 - 1 = W.length by omega]
    exact max0 (by omega)
  rw [em, e3.2.2.2.2.2.1, mI_sub (by omega) (by omega), show d + 1 - 1 = d by omega, o_bind, o_ck (Or.inr rfl), o_bind, o_ck (Or.inr rfl)]
def ruJ (N r T : Nat) : uS → Option (Int32 × uS) := fun s3 => (f_X6_takesEnd N s3 r).bind fun v5 => if v5.1 = 0 then some (mI T, v5.2) else some (-1, v5.2)
abbrev ruB (N r T : Nat) := b_X5_wrongAt_X6_13 N r 40 (mI T) (ruJ N r T)
theorem ru_1 {M p : Nat} {s' : uS} (hr : r = 22 ∨ r = 27) (hp : p < T) (hp6 : p < 40) (hT : T ≤ 80) (hc : cX (RS3 r) σ s) (hs : σ.1 2 p = x p &&& 255) (h : f_X6_takes N s r (hh x T 40 p) = some (1, s')) : u_lp2 (ruB N r T) (M + 1) s (mI p) = u_lp2 (ruB N r T) M s' (mI (p + 1)) := by
  show b_X5_wrongAt_X6_13 N r 40 (mI T) (ruJ N r T) _ s (mI p) = _
  have e : s.1 2 p = hh x T 40 p := by rw [hc.1 2 (by omega) (by unfold RS3; omega), hs, hh_in ⟨hp, hp6⟩]
  generalize u_lp2 (ruB N r T) M = R
  unfold b_X5_wrongAt_X6_13
  rw [if_neg (mnle (by omega) (by omega) hp), if_neg (lnle 40 40 rfl (by omega) (by omega) hp6), c_signAt (by omega), o_bind, e, h, o_bind, if_neg n10, jn_eq, mI_succ]
theorem ru_0 {M p : Nat} {s' : uS} (hr : r = 22 ∨ r = 27) (hp : p < T) (hp6 : p < 40) (hT : T ≤ 80) (hc : cX (RS3 r) σ s) (hs : σ.1 2 p = x p &&& 255) (h : f_X6_takes N s r (hh x T 40 p) = some (0, s')) : u_lp2 (ruB N r T) (M + 1) s (mI p) = some (mI p, s') := by
  show b_X5_wrongAt_X6_13 N r 40 (mI T) (ruJ N r T) _ s (mI p) = _
  have e : s.1 2 p = hh x T 40 p := by rw [hc.1 2 (by omega) (by unfold RS3; omega), hs, hh_in ⟨hp, hp6⟩]
  unfold b_X5_wrongAt_X6_13
  rw [if_neg (mnle (by omega) (by omega) hp), if_neg (lnle 40 40 rfl (by omega) (by omega) hp6), c_signAt (by omega), o_bind, e, h, o_bind, if_pos rfl]
theorem ru_lim {M p : Nat} (hp : p < T) (hp6 : 40 ≤ p) (hT : T ≤ 80) : u_lp2 (ruB N r T) (M + 1) s (mI p) = some (mI p, s) := by
  show b_X5_wrongAt_X6_13 N r 40 (mI T) (ruJ N r T) _ s (mI p) = _
  unfold b_X5_wrongAt_X6_13
  rw [if_neg (mnle (by omega) (by omega) hp), if_pos (lle 40 40 rfl (by omega) (by omega) hp6)]
theorem ru_end {M p : Nat} (hp : T ≤ p) (hT : T ≤ 80) (hp2 : p < 1000) : u_lp2 (ruB N r T) (M + 1) s (mI p) = ruJ N r T s := by
  show b_X5_wrongAt_X6_13 N r 40 (mI T) (ruJ N r T) _ s (mI p) = _
  unfold b_X5_wrongAt_X6_13
  rw [if_pos (mle (by omega) (by omega) hp)]
/-- a thing can't begin here -/
theorem ru_bad0 {M p : Nat} (hr : r = 22 ∨ r = 27) (hpl : p ≤ min T 40) (hT : T ≤ 80) (hs : ∀ k, k < T → σ.1 2 k = x k &&& 255) (h : cSt σ s r C W 0 d cm 0) (hb : p < T → p < 40 → f_X6_takes N s r (hh x T 40 p) = some (0, s)) : u_lp2 (ruB N r T) (M + 1) s (mI p) = some (mI p, s) := by
  by_cases h1 : p < T
  · by_cases h2 : p < 40
    · exact ru_0 hr h1 h2 hT h.2.2.2.2.2.2.2.2.2.2 (hs p h1) (hb h1 h2)
    · exact ru_lim h1 (by omega) hT
  · have : p = T := by omega
    subst this
    rw [ru_end (Nat.le_refl _) hT (by omega)]
    unfold ruJ f_X6_takesEnd
    rw [if_pos h.2.2.2.2.2.2.2.1, o_bind, if_pos rfl]
/-- behind a thing nothing fits -/
theorem ru_tail {M p : Nat} (hr : r = 22 ∨ r = 27) (hpl : p ≤ min T 40) (hT : T ≤ 80) (hs : ∀ k, k < T → σ.1 2 k = x k &&& 255) (h : cSt σ s r C W dg d cm 1) (hd : d ≤ 4) (hdg : inR (hh x T 40 p) 48 57 = true → dg < 1 ∨ 2 < dg) (hM : isM (hh x T 40 p) = false) (hA : isA (hh x T 40 p) = false) (hC : isC (hh x T 40 p) = true → tb cm d = true) (h41 : hh x T 40 p = 41 → d = 0) (hend : p = T → 0 < d) : ∃ s', u_lp2 (ruB N r T) (M + 1) s (mI p) = some (mI p, s') ∧ cX (RS3 r) σ s' := by
  have hX := h.2.2.2.2.2.2.2.2.2.2
  by_cases h1 : p < T
  · by_cases h2 : p < 40
    · have hX1 : cX (RS3 r) σ (u_pI s r 6 0) := cXr hr hX (Or.inl rfl)
      have h1' := cSt.dig hr h 0
      have key : ∃ s', f_X6_takes N s r (hh x T 40 p) = some (0, s') ∧ cX (RS3 r) σ s' := by
        rw [tkB h.2.2.2.2.2.2.2.1]
        unfold f_X6_takesBehindThing
        simp only [jn_eq]
        rw [c_isDigit]
        cases hin : inR (hh x T 40 p) 48 57
        · rw [if_neg Bool.false_ne_true, o_bind, if_pos rfl]
          refine ⟨u_pI s r 6 0, ?_, hX1⟩
          by_cases e41 : hh x T 40 p = 41
          · rw [if_pos e41]
            unfold f_X6_closes
            have hd0 := h41 e41
            rw [if_pos (by rw [h1'.2.2.2.2.2.1, hd0]; rfl), o_bind, o_ck (Or.inl rfl), o_bind, o_ck (Or.inl rfl)]
          · rw [if_neg e41, c_rank, o_bind]
            have hMn : ¬ (hh x T 40 p = 42 ∨ hh x T 40 p = 47) := fun h => by rw [isM_iff.mpr h] at hM; cases hM
            have hAn : ¬ (hh x T 40 p = 43 ∨ hh x T 40 p = 45) := fun h => by rw [isA_iff.mpr h] at hA; cases hA
            unfold rankN
            rw [if_neg hMn, if_neg hAn]
            by_cases hCc : hh x T 40 p = 60 ∨ hh x T 40 p = 62 ∨ hh x T 40 p = 61
            · rw [if_pos hCc, if_neg (by decide), if_pos (show mI 1 = 1 from rfl), h1'.2.2.2.2.2.2.1, h1'.2.2.2.2.2.1, if_pos (by rw [bit_is (by omega)]; exact hC (isC_iff.mpr hCc)), o_bind, o_ck (Or.inl rfl)]
            · rw [if_neg hCc, if_pos (show mI 0 = 0 from rfl), o_bind, o_ck (Or.inl rfl)]
        · rw [if_pos rfl, o_bind, if_neg n10]
          refine ⟨s, ?_, hX⟩
          unfold f_X6_takesDigit
          simp only [jn_eq]
          rw [h.2.2.2.2.1]
          rcases hdg hin with h | h
          · rw [if_pos h, o_bind, o_ck (Or.inl rfl), o_bind, o_ck (Or.inl rfl)]
          · by_cases h1 : dg < 1
            · rw [if_pos h1, o_bind, o_ck (Or.inl rfl), o_bind, o_ck (Or.inl rfl)]
            · rw [if_neg h1, if_pos h, o_bind, o_ck (Or.inl rfl), o_bind, o_ck (Or.inl rfl)]
      obtain ⟨s', k1, k2⟩ := key
      exact ⟨s', ru_0 hr h1 h2 hT hX (hs p h1) k1, k2⟩
    · exact ⟨s, ru_lim h1 (by omega) hT, hX⟩
  · have : p = T := by omega
    subst this
    have hd0 := hend rfl
    refine ⟨s, ?_, hX⟩
    rw [ru_end (Nat.le_refl _) hT (by omega)]
    unfold ruJ f_X6_takesEnd
    rw [h.2.2.2.2.2.2.2.1, if_neg n10, h.2.2.2.2.2.1, if_neg (rnle 0 0 rfl (by omega) (by omega) hd0), o_bind, if_pos rfl]
/-- a number of one to three digits -/
theorem ru_num {p : Nat} (hr : r = 22 ∨ r = 27) (hT : T ≤ 80) (hs : ∀ k, k < T → σ.1 2 k = x k &&& 255) (h : cSt σ s r C W 0 d cm 0) (hl : C.length < 40) (h0 : inR (hh x T 40 p) 48 57 = true) : ∃ s' dg', cSt σ s' r (C ++ [numV (hh x T 40) p]) W dg' d cm 1 ∧ (inR (hh x T 40 (p + numL (hh x T 40) p)) 48 57 = true → dg' < 1 ∨ 2 < dg') ∧ p + numL (hh x T 40) p ≤ min T 40 ∧ ∀ M, u_lp2 (ruB N r T) (M + numL (hh x T 40) p) s (mI p) = u_lp2 (ruB N r T) M s' (mI (p + numL (hh x T 40) p)) := by
  have hlt := inR_lt (by omega) (by omega) h0
  obtain ⟨s1, a1, a2⟩ := TD (N := N) hr h hl h0
  have st1 : ∀ M, u_lp2 (ruB N r T) (M + 1) s (mI p) = u_lp2 (ruB N r T) M s1 (mI (p + 1)) := fun M => ru_1 hr hlt.1 hlt.2 hT h.2.2.2.2.2.2.2.2.2.2 (hs p hlt.1) a1
  have hn := numV_sm (h := hh x T 40) (p := p) h0
  unfold numV numL at *
  cases h1 : inR (hh x T 40 (p + 1)) 48 57
  · rw [if_neg Bool.false_ne_true, if_neg Bool.false_ne_true]
    exact ⟨s1, 1, a2, fun g => (by rw [h1] at g; exact Bool.noConfusion g), by omega, st1⟩
  · have hlt1 := inR_lt (by omega) (by omega) h1
    rw [h1, if_pos rfl] at hn
    rw [if_pos rfl, if_pos rfl]
    obtain ⟨v0, w0, ev0⟩ := dig_val h0
    obtain ⟨v1, w1, ev1⟩ := dig_val h1
    obtain ⟨s2, b1, b2⟩ := BD (N := N) (g := 1) (v := hh x T 40 p - 48) hr a2 hl (by omega) (by omega) h1 (by rw [ev0, ev1, show (10 : Int32) = mI 10 from rfl, mI_mul, mI_add, ne_eq, mI_eq (by omega) (by omega)]; omega)
    have st2 : ∀ M, u_lp2 (ruB N r T) (M + 1) s1 (mI (p + 1)) = u_lp2 (ruB N r T) M s2 (mI (p + 1 + 1)) := fun M => ru_1 hr hlt1.1 hlt1.2 hT a2.2.2.2.2.2.2.2.2.2.2 (hs (p + 1) hlt1.1) b1
    cases h2 : inR (hh x T 40 (p + 2)) 48 57
    · rw [if_neg Bool.false_ne_true, if_neg Bool.false_ne_true]
      refine ⟨s2, mI (1 + 1), b2, fun g => (by rw [h2] at g; exact Bool.noConfusion g), by omega, fun M => ?_⟩
      show u_lp2 (ruB N r T) (M + 1 + 1) s (mI p) = _
      rw [st1, st2]
    · have hlt2 := inR_lt (by omega) (by omega) h2
      rw [h2, if_pos rfl] at hn
      rw [if_pos rfl, if_pos rfl]
      obtain ⟨v2, w2, ev2⟩ := hn
      obtain ⟨s3, c1, c2⟩ := BD (N := N) (g := 2) (v := (hh x T 40 p - 48) * 10 + (hh x T 40 (p + 1) - 48)) hr b2 hl (by omega) (by omega) h2 (by rw [ev2, ne_eq, mI_eq (by omega) (by omega)]; omega)
      have st3 : ∀ M, u_lp2 (ruB N r T) (M + 1) s2 (mI (p + 1 + 1)) = u_lp2 (ruB N r T) M s3 (mI (p + 1 + 1 + 1)) := fun M => ru_1 hr hlt2.1 hlt2.2 hT b2.2.2.2.2.2.2.2.2.2.2 (hs (p + 2) hlt2.1) c1
      refine ⟨s3, mI (2 + 1), c2, fun _ => Or.inr (by decide), by omega, fun M => ?_⟩
      show u_lp2 (ruB N r T) (M + 1 + 1 + 1) s (mI p) = _
      rw [st1, st2, st3]
end R2
