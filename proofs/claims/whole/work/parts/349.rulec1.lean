/-! PURE LAYER: the class's rule while it is read -/
def nth (l : List Int32) (i : Nat) : Int32 := (l[i]?).getD 0
theorem nth_l {l m : List Int32} {i : Nat} (h : i < l.length) : nth (l ++ m) i = nth l i := by unfold nth; rw [List.getElem?_append_left h]
theorem nth_e {l : List Int32} {x : Int32} : nth (l ++ [x]) l.length = x := by unfold nth; simp
def flush (Y : List Int32) : List Int32 := Y.reverse.map (fun y => -y)
theorem flush_nil : flush [] = [] := rfl
theorem flush_cons (y : Int32) (Y : List Int32) : flush (y :: Y) = flush Y ++ [-y] := by unfold flush; simp
theorem flush_snoc (y : Int32) (Y : List Int32) : flush (Y ++ [y]) = -y :: flush Y := by unfold flush; simp
theorem flush_len (Y : List Int32) : (flush Y).length = Y.length := by unfold flush; simp
def rankN (x : Int32) : Nat := if x = 42 ∨ x = 47 then 3 else if x = 43 ∨ x = 45 then 2 else if x = 60 ∨ x = 62 ∨ x = 61 then 1 else 0
theorem c_rank {N : Nat} {σ : uS} {x : Int32} : f_X6_rankOf N σ x = some (mI (rankN x)) := by
  unfold f_X6_rankOf
  by_cases h1 : x = 42
  · subst h1; decide
  by_cases h2 : x = 43
  · subst h2; decide
  by_cases h3 : x = 45
  · subst h3; decide
  by_cases h4 : x = 47
  · subst h4; decide
  by_cases h5 : x = 60
  · subst h5; decide
  by_cases h6 : x = 61
  · subst h6; decide
  by_cases h7 : x = 62
  · subst h7; decide
  unfold rankN
  simp [h1, h2, h3, h4, h5, h6, h7]
  rfl
theorem rankN_le (x : Int32) : rankN x ≤ 3 := by unfold rankN; (repeat' split) <;> omega
def pend (k : Nat) (y : Int32) : Prop := y = 126 ∨ k ≤ rankN y
def stopW (k : Nat) (W : List Int32) : Prop := W = [] ∨ ∃ W0 x, W = W0 ++ [x] ∧ x ≠ 126 ∧ rankN x < k
theorem pend_le {k k' : Nat} {y : Int32} (h : pend k y) (hk : k' ≤ k) : pend k' y := h.imp id (fun h => by omega)
theorem stopW_le {k k' : Nat} {W : List Int32} (h : stopW k W) (hk : k ≤ k') : stopW k' W := h.imp id (fun ⟨W0, x, h1, h2, h3⟩ => ⟨W0, x, h1, h2, by omega⟩)
def RS3 (r a : Nat) : Prop := a = r ∨ a = r + 1 ∨ a = r + 2
/-- code, what waits, digits, depth, compared, whether a thing was read -/
def cSt (σ s : uS) (r : Nat) (C W : List Int32) (dg : Int32) (d : Nat) (cm bt : Int32) : Prop := s.1 r 4 = mI C.length ∧ (∀ i, i < C.length → s.1 (r + 1) i = nth C i) ∧ s.1 r 5 = mI W.length ∧ (∀ i, i < W.length → s.1 (r + 2) i = nth W i) ∧ s.1 r 6 = dg ∧ s.1 r 7 = mI d ∧ s.1 r 8 = cm ∧ s.1 r 9 = bt ∧ (s.1 r 10 = 0 ∨ s.1 r 10 = 1) ∧ (s.1 r 10 = 0 → ∀ x, x ∈ C → x ≠ mI 1005) ∧ cX (RS3 r) σ s
section R1
variable {N r : Nat} {σ s : uS} {C W : List Int32} {dg cm bt : Int32} {d : Nat}
theorem cXr {k : Nat} {x : Int32} {a : Nat} (hr : r = 22 ∨ r = 27) (hc : cX (RS3 r) σ s) (ha : RS3 r a) : cX (RS3 r) σ (u_pI s a k x) := ⟨fun b h1 h2 => by rw [p_Ia (fun h => h2 (by rw [h]; exact ha))]; exact hc.1 b h1 h2, by rw [p_Ia (by unfold RS3 at ha; omega)]; exact hc.2.1, hc.2.2⟩
/-- a small place of the rule alone is written -/
theorem cSt.dig (hr : r = 22 ∨ r = 27) (h : cSt σ s r C W dg d cm bt) (x : Int32) : cSt σ (u_pI s r 6 x) r C W x d cm bt := by
  obtain ⟨h4, hC, h5, hW, h6, h7, h8, h9, h10, hD, hX⟩ := h
  exact ⟨by rw [p_Is (by omega)]; exact h4, fun i hi => by rw [p_Ia (by omega)]; exact hC i hi, by rw [p_Is (by omega)]; exact h5, fun i hi => by rw [p_Ia (by omega)]; exact hW i hi, p_II _ _ _ _, by rw [p_Is (by omega)]; exact h7, by rw [p_Is (by omega)]; exact h8, by rw [p_Is (by omega)]; exact h9, by rw [p_Is (by omega)]; exact h10, by rw [p_Is (by omega)]; exact hD, cXr hr hX (Or.inl rfl)⟩
theorem cSt.dep (hr : r = 22 ∨ r = 27) (h : cSt σ s r C W dg d cm bt) (d' : Nat) : cSt σ (u_pI s r 7 (mI d')) r C W dg d' cm bt := by
  obtain ⟨h4, hC, h5, hW, h6, h7, h8, h9, h10, hD, hX⟩ := h
  exact ⟨by rw [p_Is (by omega)]; exact h4, fun i hi => by rw [p_Ia (by omega)]; exact hC i hi, by rw [p_Is (by omega)]; exact h5, fun i hi => by rw [p_Ia (by omega)]; exact hW i hi, by rw [p_Is (by omega)]; exact h6, p_II _ _ _ _, by rw [p_Is (by omega)]; exact h8, by rw [p_Is (by omega)]; exact h9, by rw [p_Is (by omega)]; exact h10, by rw [p_Is (by omega)]; exact hD, cXr hr hX (Or.inl rfl)⟩
theorem cSt.cmp (hr : r = 22 ∨ r = 27) (h : cSt σ s r C W dg d cm bt) (x : Int32) : cSt σ (u_pI s r 8 x) r C W dg d x bt := by
  obtain ⟨h4, hC, h5, hW, h6, h7, h8, h9, h10, hD, hX⟩ := h
  exact ⟨by rw [p_Is (by omega)]; exact h4, fun i hi => by rw [p_Ia (by omega)]; exact hC i hi, by rw [p_Is (by omega)]; exact h5, fun i hi => by rw [p_Ia (by omega)]; exact hW i hi, by rw [p_Is (by omega)]; exact h6, by rw [p_Is (by omega)]; exact h7, p_II _ _ _ _, by rw [p_Is (by omega)]; exact h9, by rw [p_Is (by omega)]; exact h10, by rw [p_Is (by omega)]; exact hD, cXr hr hX (Or.inl rfl)⟩
theorem cSt.beh (hr : r = 22 ∨ r = 27) (h : cSt σ s r C W dg d cm bt) (x : Int32) : cSt σ (u_pI s r 9 x) r C W dg d cm x := by
  obtain ⟨h4, hC, h5, hW, h6, h7, h8, h9, h10, hD, hX⟩ := h
  exact ⟨by rw [p_Is (by omega)]; exact h4, fun i hi => by rw [p_Ia (by omega)]; exact hC i hi, by rw [p_Is (by omega)]; exact h5, fun i hi => by rw [p_Ia (by omega)]; exact hW i hi, by rw [p_Is (by omega)]; exact h6, by rw [p_Is (by omega)]; exact h7, by rw [p_Is (by omega)]; exact h8, p_II _ _ _ _, by rw [p_Is (by omega)]; exact h10, by rw [p_Is (by omega)]; exact hD, cXr hr hX (Or.inl rfl)⟩
theorem cSt.day (hr : r = 22 ∨ r = 27) (h : cSt σ s r C W dg d cm bt) : cSt σ (u_pI s r 10 1) r C W dg d cm bt := by
  obtain ⟨h4, hC, h5, hW, h6, h7, h8, h9, h10, hD, hX⟩ := h
  exact ⟨by rw [p_Is (by omega)]; exact h4, fun i hi => by rw [p_Ia (by omega)]; exact hC i hi, by rw [p_Is (by omega)]; exact h5, fun i hi => by rw [p_Ia (by omega)]; exact hW i hi, by rw [p_Is (by omega)]; exact h6, by rw [p_Is (by omega)]; exact h7, by rw [p_Is (by omega)]; exact h8, by rw [p_Is (by omega)]; exact h9, Or.inr (p_II _ _ _ _), fun h => by rw [p_II] at h; exact absurd h (by decide), cXr hr hX (Or.inl rfl)⟩
theorem c_await (hr : r = 22 ∨ r = 27) (h : cSt σ s r C W dg d cm bt) (hl : W.length < 40) (x : Int32) : ∃ s', f_X6_await N s r x = some (1, s') ∧ cSt σ s' r C (W ++ [x]) dg d cm bt := by
  obtain ⟨h4, hC, h5, hW, h6, h7, h8, h9, h10, hD, hX⟩ := h
  refine ⟨u_pI (u_pI s (r + 2) W.length x) r 5 (mI (W.length + 1)), ?_, ?_⟩
  · unfold f_X6_await
    rw [h5, if_neg (mI_n0 (by omega)), rl_2 hr, o_bind, if_pos (mlt (by omega) (by omega) hl), rw_2 hr hl, o_bind, jn_eq, p_Ia (by omega), h5, mI_succ]
  · refine ⟨by rw [p_Is (by omega), p_Ia (by omega)]; exact h4, fun i hi => by rw [p_Ia (by omega), p_Ia (by omega)]; exact hC i hi, by rw [p_II, List.length_append]; rfl, fun i hi => ?_, by rw [p_Is (by omega), p_Ia (by omega)]; exact h6, by rw [p_Is (by omega), p_Ia (by omega)]; exact h7, by rw [p_Is (by omega), p_Ia (by omega)]; exact h8, by rw [p_Is (by omega), p_Ia (by omega)]; exact h9, by rw [p_Is (by omega), p_Ia (by omega)]; exact h10, by rw [p_Is (by omega), p_Ia (by omega)]; exact hD, cXr hr (cXr hr hX (Or.inr (Or.inr rfl))) (Or.inl rfl)⟩
    rw [List.length_append] at hi
    have hi : i < W.length + 1 := hi
    rw [p_Ia (by omega)]
    by_cases hiw : i = W.length
    · rw [hiw, p_II, nth_e]
    · rw [p_Is hiw, nth_l (by omega)]; exact hW i (by omega)
theorem c_put (hr : r = 22 ∨ r = 27) (h : cSt σ s r C W dg d cm bt) (hl : C.length < 40) (x : Int32) (hx : s.1 r 10 = 0 → x ≠ mI 1005) : ∃ s', f_X6_put N s r x = some (1, s') ∧ cSt σ s' r (C ++ [x]) W dg d cm bt := by
  obtain ⟨h4, hC, h5, hW, h6, h7, h8, h9, h10, hD, hX⟩ := h
  refine ⟨u_pI (u_pI s (r + 1) C.length x) r 4 (mI (C.length + 1)), ?_, ?_⟩
  · unfold f_X6_put
    rw [h4, if_neg (mI_n0 (by omega)), rl_1 hr, o_bind, if_pos (mlt (by omega) (by omega) hl), rw_1 hr hl, o_bind, jn_eq, p_Ia (by omega), h4, mI_succ]
  · refine ⟨by rw [p_II, List.length_append]; rfl, fun i hi => ?_, by rw [p_Is (by omega), p_Ia (by omega)]; exact h5, fun i hi => by rw [p_Ia (by omega), p_Ia (by omega)]; exact hW i hi, by rw [p_Is (by omega), p_Ia (by omega)]; exact h6, by rw [p_Is (by omega), p_Ia (by omega)]; exact h7, by rw [p_Is (by omega), p_Ia (by omega)]; exact h8, by rw [p_Is (by omega), p_Ia (by omega)]; exact h9, by rw [p_Is (by omega), p_Ia (by omega)]; exact h10, ?_, cXr hr (cXr hr hX (Or.inr (Or.inl rfl))) (Or.inl rfl)⟩
    · rw [List.length_append] at hi
      have hi : i < C.length + 1 := hi
      rw [p_Ia (by omega)]
      by_cases hiw : i = C.length
      · rw [hiw, p_II, nth_e]
      · rw [p_Is hiw, nth_l (by omega)]; exact hC i (by omega)
    · rw [p_Is (by omega), p_Ia (by omega)]
      intro h0 y hy
      rcases List.mem_append.mp hy with hy | hy
      · exact hD h0 y hy
      · rw [List.mem_singleton.mp hy]; exact hx h0
/-- what waits is shortened -/
theorem cSt.pop {x : Int32} (hr : r = 22 ∨ r = 27) (h : cSt σ s r C (W ++ [x]) dg d cm bt) : cSt σ (u_pI s r 5 (mI W.length)) r C W dg d cm bt := by
  obtain ⟨h4, hC, h5, hW, h6, h7, h8, h9, h10, hD, hX⟩ := h
  refine ⟨by rw [p_Is (by omega)]; exact h4, fun i hi => by rw [p_Ia (by omega)]; exact hC i hi, p_II _ _ _ _, fun i hi => ?_, by rw [p_Is (by omega)]; exact h6, by rw [p_Is (by omega)]; exact h7, by rw [p_Is (by omega)]; exact h8, by rw [p_Is (by omega)]; exact h9, by rw [p_Is (by omega)]; exact h10, by rw [p_Is (by omega)]; exact hD, cXr hr hX (Or.inl rfl)⟩
  rw [p_Ia (by omega), hW i (by rw [List.length_append]; show i < W.length + 1; omega), nth_l hi]
theorem c_unwind (hr : r = 22 ∨ r = 27) {k : Nat} (hk1 : 1 ≤ k) (hk : k ≤ 3) (hst : stopW k W) (hN : 500 < N) : ∀ (m : Nat) (Y : List Int32) (s : uS) (C : List Int32), Y.length = m → (∀ y, y ∈ Y → pend k y) → cSt σ s r C (W ++ Y) dg d cm bt → C.length + W.length + Y.length ≤ 40 → ∃ s', f_X6_unwind N s r (mI k) = some s' ∧ cSt σ s' r (C ++ flush Y) W dg d cm bt := by
  intro m Y s C hm hp hc hl
  have key : ∀ (m : Nat) (Y : List Int32) (s : uS) (C : List Int32) (M' : Nat), Y.length = m → m < M' → (∀ y, y ∈ Y → pend k y) → cSt σ s r C (W ++ Y) dg d cm bt → C.length + W.length + Y.length ≤ 40 → ∃ s', u_lp2 (b_X6_unwind_7 N r (mI k) (fun s2 => some s2)) M' s (mI (W ++ Y).length - 1) = some s' ∧ cSt σ s' r (C ++ flush Y) W dg d cm bt := by
    intro m
    induction m with
    | zero =>
      intro Y s C M' hY hM' hp hc hl
      have hY0 : Y = [] := List.eq_nil_of_length_eq_zero hY
      subst hY0
      rw [List.append_nil] at hc ⊢
      rw [flush_nil, List.append_nil]
      obtain ⟨M', rfl⟩ : ∃ q, M' = q + 1 := ⟨M' - 1, by omega⟩
      refine ⟨s, ?_, hc⟩
      show b_X6_unwind_7 N r (mI k) _ _ s _ = _
      unfold b_X6_unwind_7
      rcases hst with rfl | ⟨W0, x, rfl, hx1, hx2⟩
      · rw [if_pos (show mI ([] : List Int32).length - 1 < 0 by decide)]
      · have hlen : (W0 ++ [x]).length = W0.length + 1 := by rw [List.length_append]; rfl
        have hx := hc.2.2.2.1 W0.length (by rw [hlen]; omega)
        rw [nth_e] at hx
        rw [hlen] at hl
        rw [hlen, mI_pred (by omega) (by omega), show W0.length + 1 - 1 = W0.length by omega, if_neg (mI_n0 (by omega)), rl_2 hr, o_bind, if_neg (mnle (by omega) (by omega) (by omega)), rr_2 hr (by omega), o_bind, hx]
        simp only [jn_eq]
        rw [if_neg hx1, c_rank, o_bind, if_neg (mnle (by omega) (by omega) hx2)]
    | succ m ih =>
      intro Y s C M' hY hM' hp hc hl
      obtain ⟨M', rfl⟩ : ∃ q, M' = q + 1 := ⟨M' - 1, by omega⟩
      obtain ⟨Y0, y, rfl⟩ : ∃ Y0 y, Y = Y0 ++ [y] := by
        rcases List.eq_nil_or_concat Y with h | ⟨Y0, y, h⟩
        · rw [h] at hY; cases hY
        · exact ⟨Y0, y, by rw [h]; simp⟩
      have hlenY : (Y0 ++ [y]).length = Y0.length + 1 := by rw [List.length_append]; rfl
      rw [hlenY] at hY hl
      have hass : W ++ (Y0 ++ [y]) = (W ++ Y0) ++ [y] := by rw [List.append_assoc]
      rw [hass] at hc ⊢
      have hlen : ((W ++ Y0) ++ [y]).length = (W ++ Y0).length + 1 := by rw [List.length_append]; rfl
      have hWY : (W ++ Y0).length = W.length + Y0.length := List.length_append
      have hx := hc.2.2.2.1 (W ++ Y0).length (by rw [hlen]; omega)
      rw [nth_e] at hx
      have hpy := hp y (by simp)
      have hyne : (-y : Int32) ≠ mI 1005 := by
        rcases hpy with rfl | hpy
        · decide
        · intro h
          have hy : y = -(mI 1005) := by rw [← h, Int32.neg_neg]
          rw [hy] at hpy
          have h0 : rankN (-(mI 1005)) = 0 := by decide
          rw [h0] at hpy
          omega
      obtain ⟨s1, e1, e2⟩ := c_put (N := N) hr hc (by omega) (-y) (fun _ => hyne)
      have e3 := cSt.pop hr e2
      obtain ⟨s', f1, f2⟩ := ih Y0 (u_pI s1 r 5 (mI (W ++ Y0).length)) (C ++ [-y]) M' (by omega) (by omega) (fun z hz => hp z (by simp [hz])) e3 (by rw [List.length_append]; show C.length + 1 + _ + _ ≤ _; omega)
      refine ⟨s', ?_, ?_⟩
      · rw [← f1]
        show b_X6_unwind_7 N r (mI k) _ _ s _ = _
        generalize hR : u_lp2 (b_X6_unwind_7 N r (mI k) (fun s2 => some s2)) M' = R
        unfold b_X6_unwind_7
        rw [hlen, mI_pred (by omega) (by omega), show (W ++ Y0).length + 1 - 1 = (W ++ Y0).length by omega, if_neg (mI_n0 (by omega)), rl_2 hr, o_bind, if_neg (mnle (by omega) (by omega) (by omega)), rr_2 hr (by omega), o_bind, hx, e1]
        simp only [jn_eq, o_bind]
        have em : mI (W ++ Y0).length + (-1) = mI (W ++ Y0).length - 1 := by rw [show (-1 : Int32) = -(1 : Int32) from rfl, ← Int32.sub_eq_add_neg]
        rw [em]
        by_cases h126 : y = 126
        · rw [if_pos h126]
        · rw [if_neg h126, c_rank, o_bind, if_pos (mle (by omega) (by have := rankN_le y; omega) (hpy.elim (fun h => absurd h h126) id))]
      · rw [flush_snoc]
        rw [List.append_assoc] at f2
        exact f2
  obtain ⟨s', f1, f2⟩ := key m Y s C N hm (by have : Y.length ≤ 40 := by omega
                                              omega) hp hc hl
  refine ⟨s', ?_, f2⟩
  unfold f_X6_unwind
  simp only [jn_eq]
  rw [hc.2.2.1]
  exact f1
end R1
