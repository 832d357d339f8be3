/-! PURE LAYER: the class reads a rule as its grammar says -/
section R3
variable {N r T : Nat} {σ : uS} {x : Nat → Int32}
/-- what the class has behind a piece that was read from p to e -/
def sucC (N r T : Nat) (x : Nat → Int32) (σ : uS) (k d p : Nat) (C W : List Int32) (cm : Int32) (s : uS) (e : Nat) (c : List Int32) (s' : uS) (X Y : List Int32) (dg' cm' : Int32) : Prop := cSt σ s' r (C ++ X) (W ++ Y) dg' d cm' 1 ∧ X ++ flush Y = c ∧ (∀ y, y ∈ Y → pend k y) ∧ (inR (hh x T 40 e) 48 57 = true → dg' < 1 ∨ 2 < dg') ∧ (C ++ X).length + (W ++ Y).length ≤ e ∧ e ≤ min T 40 ∧ ∀ M, u_lp2 (ruB N r T) (M + (e - p)) s (mI p) = u_lp2 (ruB N r T) M s' (mI e)
def errC (N r T : Nat) (σ : uS) (p : Nat) (s : uS) (e : Nat) : Prop := p ≤ e ∧ e ≤ min T 40 ∧ ∀ M, min T 40 < M + p → ∃ s', u_lp2 (ruB N r T) M s (mI p) = some (mI e, s') ∧ cX (RS3 r) σ s'
def resC (N r T : Nat) (x : Nat → Int32) (σ : uS) (w d p : Nat) (C W : List Int32) (cm : Int32) (s : uS) (R : Nat × Option (List Int32)) : Prop := (∀ e c, R = (e, some c) → ∃ s' X Y dg' cm', sucC N r T x σ (w + 1) d p C W cm s e c s' X Y dg' cm' ∧ p < e ∧ (∀ i, i < d ∨ (w ≠ 0 ∧ i = d) → tb cm' i = tb cm i) ∧ (w ≤ 2 → isM (hh x T 40 e) = false) ∧ (w ≤ 1 → isA (hh x T 40 e) = false) ∧ (w = 0 → isC (hh x T 40 e) = true → tb cm' d = true)) ∧ (∀ e, R = (e, none) → errC N r T σ p s e)
theorem resC_ok {w d p : Nat} {C W : List Int32} {cm : Int32} {s : uS} {e : Nat} {c : List Int32} (h : ∃ s' X Y dg' cm', sucC N r T x σ (w + 1) d p C W cm s e c s' X Y dg' cm' ∧ p < e ∧ (∀ i, i < d ∨ (w ≠ 0 ∧ i = d) → tb cm' i = tb cm i) ∧ (w ≤ 2 → isM (hh x T 40 e) = false) ∧ (w ≤ 1 → isA (hh x T 40 e) = false) ∧ (w = 0 → isC (hh x T 40 e) = true → tb cm' d = true)) : resC N r T x σ w d p C W cm s (e, some c) := ⟨fun e' c' g => (by cases g; exact h), fun e' g => (by cases g)⟩
theorem resC_no {w d p : Nat} {C W : List Int32} {cm : Int32} {s : uS} {e : Nat} (h : errC N r T σ p s e) : resC N r T x σ w d p C W cm s (e, none) := ⟨fun e' c' g => (by cases g), fun e' g => (by cases g; exact h)⟩
theorem errC_1 {p : Nat} {s s1 : uS} {e : Nat} (h : errC N r T σ (p + 1) s1 e) (hst : ∀ M, u_lp2 (ruB N r T) (M + 1) s (mI p) = u_lp2 (ruB N r T) M s1 (mI (p + 1))) (hp : p < min T 40) : errC N r T σ p s e := by
  obtain ⟨h1, h2, h3⟩ := h
  refine ⟨by omega, h2, fun M hM => ?_⟩
  obtain ⟨M, rfl⟩ : ∃ m, M = m + 1 := ⟨M - 1, by omega⟩
  rw [hst]
  exact h3 M (by omega)
theorem errC_n {p q : Nat} {s s1 : uS} {e : Nat} (h : errC N r T σ q s1 e) (hpq : p ≤ q) (hst : ∀ M, u_lp2 (ruB N r T) (M + (q - p)) s (mI p) = u_lp2 (ruB N r T) M s1 (mI q)) : errC N r T σ p s e := by
  obtain ⟨h1, h2, h3⟩ := h
  refine ⟨by omega, h2, fun M hM => ?_⟩
  obtain ⟨M, rfl⟩ : ∃ m, M = m + (q - p) := ⟨M - (q - p), by omega⟩
  rw [hst]
  exact h3 M (by omega)
theorem rank_M {y : Int32} (h : isM y = true) : rankN y = 3 := by rcases isM_iff.mp h with h | h <;> rw [h] <;> decide
theorem rank_A {y : Int32} (h : isA y = true) : rankN y = 2 := by rcases isA_iff.mp h with h | h <;> rw [h] <;> decide
theorem rank_C {y : Int32} (h : isC y = true) : rankN y = 1 := by rcases isC_iff.mp h with h | h | h <;> rw [h] <;> decide
theorem rank_lt {n top p : Nat} (h : 1 ≤ rankN (hh x n top p)) : p < n ∧ p < top := hh_lt (fun g => by rw [g] at h; exact absurd h (by decide))
theorem rank_126 {y : Int32} (h : 1 ≤ rankN y) : y ≠ 126 := fun g => by rw [g] at h; exact absurd h (by decide)
/-- an operator and what stands behind it, of some rank -/
theorem stepC (hr : r = 22 ∨ r = 27) (hT : T ≤ 80) (hs : ∀ k, k < T → σ.1 2 k = x k &&& 255) (hN : 500 < N) {k d p q0 : Nat} {C W X Y : List Int32} {dg cm cm0 : Int32} {s s0 : uS} {c : List Int32} (hd : d ≤ 4) (hk1 : 1 ≤ k) (hop : rankN (hh x T 40 p) = k) (hst : stopW k W) (hcm : k = 1 → tb cm d = false) (h : sucC N r T x σ k d q0 C W cm0 s0 p c s X Y dg cm) : ∃ s1 cm1, cSt σ s1 r (C ++ c) (W ++ [hh x T 40 p]) 0 d cm1 0 ∧ (∀ i, i ≠ d → tb cm1 i = tb cm i) ∧ (k ≠ 1 → cm1 = cm) ∧ (k = 1 → tb cm1 d = true) ∧ (C ++ c).length + (W ++ [hh x T 40 p]).length ≤ p + 1 ∧ p < min T 40 ∧ ∀ M, u_lp2 (ruB N r T) (M + 1) s (mI p) = u_lp2 (ruB N r T) M s1 (mI (p + 1)) := by
  obtain ⟨g1, g2, g3, g4, g5, g6, g7⟩ := h
  have hlt := rank_lt (x := x) (n := T) (top := 40) (p := p) (by omega)
  have hl1 : (C ++ X).length = C.length + X.length := List.length_append
  have hl2 : (W ++ Y).length = W.length + Y.length := List.length_append
  obtain ⟨s1, cm1, e1, e2, e3, e4, e5⟩ := BO (N := N) hr g1 hop hk1 hst g3 (by omega) hd hcm hN
  rw [List.append_assoc, g2] at e2
  refine ⟨s1, cm1, e2, e3, e4, e5, ?_, by omega, fun M => ru_1 hr hlt.1 hlt.2 hT g1.2.2.2.2.2.2.2.2.2.2 (hs p hlt.1) e1⟩
  have hc : c.length = X.length + Y.length := by rw [← g2, List.length_append, flush_len]
  rw [List.length_append, List.length_append, hc]
  show C.length + (X.length + Y.length) + (W.length + 1) ≤ p + 1
  omega
/-- what was read behind an operator, put together with what stood ahead -/
theorem joinC {k k' d p e : Nat} {C W Y2 X2 : List Int32} {c c2 : List Int32} {op dg2 cm2 cm1 : Int32} {s0 s1 s2 : uS} {q0 : Nat} {cm0 : Int32} (hkk : k ≤ k') (hop : k ≤ rankN op) (hpq : q0 ≤ p) (hst : ∀ M, u_lp2 (ruB N r T) (M + (p + 1 - q0)) s0 (mI q0) = u_lp2 (ruB N r T) M s1 (mI (p + 1))) (h : sucC N r T x σ k' d (p + 1) (C ++ c) (W ++ [op]) cm1 s1 e c2 s2 X2 Y2 dg2 cm2) (he : p + 1 < e) : sucC N r T x σ k d q0 C W cm0 s0 e (c ++ c2 ++ [-op]) s2 (c ++ X2) (op :: Y2) dg2 cm2 := by
  obtain ⟨g1, g2, g3, g4, g5, g6, g7⟩ := h
  have ea : C ++ c ++ X2 = C ++ (c ++ X2) := List.append_assoc ..
  have eb : W ++ [op] ++ Y2 = W ++ (op :: Y2) := by rw [List.append_assoc]; rfl
  rw [ea, eb] at g1 g5
  refine ⟨g1, ?_, fun y hy => ?_, g4, g5, g6, fun M => ?_⟩
  · rw [flush_cons, ← g2]
    simp only [List.append_assoc]
  · rcases List.mem_cons.mp hy with rfl | hy
    · exact Or.inr hop
    · exact pend_le (g3 y hy) hkk
  · have := hst (M + (e - (p + 1)))
    rw [show M + (e - (p + 1)) + (p + 1 - q0) = M + (e - q0) by omega, g7] at this
    exact this
/-- the loops: rank k, of pieces of mode k -/
theorem loopC (hr : r = 22 ∨ r = 27) (hT : T ≤ 80) (hs : ∀ k, k < T → σ.1 2 k = x k &&& 255) (hN : 500 < N) {k d q0 : Nat} {C W : List Int32} {cm0 : Int32} {s0 : uS} {isO : Int32 → Bool} {pr : Nat → Nat × Option (List Int32)} (hk : k = 2 ∨ k = 3) (hO : ∀ y, isO y = true → rankN y = k) (hO2 : ∀ y, isO y = false → (k = 2 → isA y = false) ∧ (k = 3 → isM y = false)) (hd : d ≤ 4) (hst : stopW k W) (hrec : ∀ p C' W' cm s, q0 < p → p ≤ min T 40 → cSt σ s r C' W' 0 d cm 0 → stopW (k + 1) W' → C'.length + W'.length ≤ p → resC N r T x σ k d p C' W' cm s (pr p)) : ∀ (m p : Nat) (X Y c : List Int32) (dg cm : Int32) (s : uS), q0 < p → 41 ≤ m + p → sucC N r T x σ k d q0 C W cm0 s0 p c s X Y dg cm → (∀ i, i ≤ d → tb cm i = tb cm0 i) → (k = 2 → isM (hh x T 40 p) = false) → resC N r T x σ (k - 1) d q0 C W cm0 s0 (pL (hh x T 40) isO pr m p c) := by
  intro m
  induction m with
  | zero => intro p X Y c dg cm s _ hm h; obtain ⟨-, -, -, -, -, g6, -⟩ := h; omega
  | succ m ih =>
    intro p X Y c dg cm s hp hm h hcm hM
    show resC N r T x σ (k - 1) d q0 C W cm0 s0 (if isO (hh x T 40 p) then (match pr (p + 1) with
      | (q', none) => (q', none)
      | (q', some c2) => pL (hh x T 40) isO pr m q' (c ++ c2 ++ [-(hh x T 40 p)])) else (p, some c))
    cases hA : isO (hh x T 40 p)
    · rw [if_neg Bool.false_ne_true]
      have h2 := hO2 _ hA
      refine resC_ok ⟨s, X, Y, dg, cm, by rw [show k - 1 + 1 = k by omega]; exact h, hp, fun i hi => hcm i (by omega), fun _ => ?_, fun _ => ?_, fun _ => by omega⟩
      · rcases hk with rfl | rfl
        · exact hM rfl
        · exact h2.2 rfl
      · rcases hk with rfl | rfl
        · exact h2.1 rfl
        · omega
    · rw [if_pos rfl]
      obtain ⟨s1, cm1, e1, e2, e3, e4, e5, e6, e7⟩ := stepC hr hT hs hN hd (by omega) (hO _ hA) hst (fun h => by omega) h
      have hcm1 : cm1 = cm := e3 (by omega)
      subst hcm1
      have hstop : stopW (k + 1) (W ++ [hh x T 40 p]) := Or.inr ⟨W, _, rfl, rank_126 (by rw [hO _ hA]; omega), by rw [hO _ hA]; omega⟩
      obtain ⟨r1, r2⟩ := hrec (p + 1) _ _ _ s1 (by omega) (by omega) e1 hstop e5
      have hch : ∀ M, u_lp2 (ruB N r T) (M + (p + 1 - q0)) s0 (mI q0) = u_lp2 (ruB N r T) M s1 (mI (p + 1)) := fun M => by
        have := h.2.2.2.2.2.2 (M + 1)
        rw [show M + 1 + (p - q0) = M + (p + 1 - q0) by omega, e7] at this
        exact this
      rcases hpr : pr (p + 1) with ⟨q', _ | c2⟩
      · exact resC_no (errC_n (r2 q' hpr) (by omega) hch)
      · obtain ⟨s2, X2, Y2, dg2, cm2, f1, f2, f3, f4, f5, f6⟩ := r1 q' c2 hpr
        exact ih q' _ _ _ dg2 cm2 s2 (by omega) (by omega) (joinC (by omega) (by rw [hO _ hA]; omega) (by omega) hch f1 f2) (fun i hi => by rw [f3 i (by omega)]; exact hcm i hi) (fun h => f4 (by omega))
theorem exprC (hr : r = 22 ∨ r = 27) (hT : T ≤ 80) (hs : ∀ k, k < T → σ.1 2 k = x k &&& 255) (hN : 500 < N) : ∀ (k w d p : Nat) (C W : List Int32) (cm : Int32) (s : uS), w ≤ 3 → d ≤ 4 → p ≤ min T 40 → need w d p ≤ k → cSt σ s r C W 0 d cm 0 → (w ≤ 2 → stopW (w + 1) W) → (w = 0 → tb cm d = false) → C.length + W.length ≤ p → resC N r T x σ w d p C W cm s (pX (hh x T 40) k w d p) := by
  intro k
  induction k with
  | zero => intro w d p C W cm s _ _ _ hk; unfold need at hk; omega
  | succ k ih =>
    intro w d p C W cm s hw hd hp hk hc hst hcm hl
    have hw4 : w = 0 ∨ w = 1 ∨ w = 2 ∨ w = 3 := by omega
    rcases hw4 with rfl | rfl | rfl | rfl
    · -- held
      show resC N r T x σ 0 d p C W cm s (match pX (hh x T 40) k 1 d p with
        | (q', none) => (q', none)
        | (q', some c) => if isC (hh x T 40 q') then (match pX (hh x T 40) k 1 d (q' + 1) with
          | (q2, none) => (q2, none)
          | (q2, some c2) => (q2, some (c ++ c2 ++ [-(hh x T 40 q')]))) else (q', some c))
      obtain ⟨r1, r2⟩ := ih 1 d p C W cm s (by omega) hd hp (by unfold need at hk ⊢; omega) hc (fun _ => stopW_le (hst (by omega)) (by omega)) (fun h => by omega) hl
      rcases hpr : pX (hh x T 40) k 1 d p with ⟨q', _ | c⟩
      · exact resC_no (r2 q' hpr)
      · obtain ⟨s1, X, Y, dg, cm1, f1, f2, f3, f4, f5, f6⟩ := r1 q' c hpr
        have f1' : sucC N r T x σ 1 d p C W cm s q' c s1 X Y dg cm1 := ⟨f1.1, f1.2.1, fun y hy => pend_le (f1.2.2.1 y hy) (by omega), f1.2.2.2⟩
        cases hC : isC (hh x T 40 q')
        · simp only [hC, Bool.false_eq_true, if_false]
          refine resC_ok ⟨s1, X, Y, dg, cm1, f1', f2, fun i hi => f3 i (by omega), fun _ => f4 (by omega), fun _ => f5 (by omega), fun _ h => by rw [hC] at h; cases h⟩
        · simp only [hC, if_true]
          obtain ⟨s2, cm2, e1, e2, e3, e4, e5, e6, e7⟩ := stepC hr hT hs hN hd (by omega) (rank_C hC) (hst (by omega)) (fun _ => by rw [f3 d (by omega)]; exact hcm rfl) f1'
          have hstop : stopW 2 (W ++ [hh x T 40 q']) := Or.inr ⟨W, _, rfl, rank_126 (by rw [rank_C hC]; omega), by rw [rank_C hC]; omega⟩
          obtain ⟨r1', r2'⟩ := ih 1 d (q' + 1) _ _ cm2 s2 (by omega) hd (by omega) (by unfold need at hk ⊢; omega) e1 (fun _ => hstop) (fun h => by omega) e5
          have hch : ∀ M, u_lp2 (ruB N r T) (M + (q' + 1 - p)) s (mI p) = u_lp2 (ruB N r T) M s2 (mI (q' + 1)) := fun M => by
            have := f1.2.2.2.2.2.2 (M + 1)
            rw [show M + 1 + (q' - p) = M + (q' + 1 - p) by omega, e7] at this
            exact this
          rcases hpr2 : pX (hh x T 40) k 1 d (q' + 1) with ⟨q2, _ | c2⟩
          · exact resC_no (errC_n (r2' q2 hpr2) (by omega) hch)
          · obtain ⟨s3, X2, Y2, dg2, cm3, g1, g2, g3, g4, g5, g6⟩ := r1' q2 c2 hpr2
            refine resC_ok ⟨s3, _, _, dg2, cm3, joinC (by omega) (by rw [rank_C hC]; omega) (by omega) hch g1 g2, by omega, fun i hi => ?_, fun _ => g4 (by omega), fun _ => g5 (by omega), fun _ _ => ?_⟩
            · rw [g3 i (by omega), e2 i (by omega), f3 i (by omega)]
            · rw [g3 d (by omega)]; exact e4 rfl
    · -- sum
      show resC N r T x σ 1 d p C W cm s (match pX (hh x T 40) k 2 d p with
        | (q', none) => (q', none)
        | (q', some c) => pL (hh x T 40) isA (pX (hh x T 40) k 2 d) 42 q' c)
      obtain ⟨r1, r2⟩ := ih 2 d p C W cm s (by omega) hd hp (by unfold need at hk ⊢; omega) hc (fun _ => stopW_le (hst (by omega)) (by omega)) (fun h => by omega) hl
      rcases hpr : pX (hh x T 40) k 2 d p with ⟨q', _ | c⟩
      · exact resC_no (r2 q' hpr)
      · obtain ⟨s1, X, Y, dg, cm1, f1, f2, f3, f4, f5, f6⟩ := r1 q' c hpr
        have f1' : sucC N r T x σ 2 d p C W cm s q' c s1 X Y dg cm1 := ⟨f1.1, f1.2.1, fun y hy => pend_le (f1.2.2.1 y hy) (by omega), f1.2.2.2⟩
        exact loopC hr hT hs hN (k := 2) (Or.inl rfl) (fun y hy => rank_A hy) (fun y hy => ⟨fun _ => hy, fun h => by omega⟩) hd (hst (by omega)) (fun p' C' W' cm' s' h1 h2 h3 h4 h5 => ih 2 d p' C' W' cm' s' (by omega) hd h2 (by unfold need at hk ⊢; omega) h3 (fun _ => h4) (fun h => by omega) h5) 42 q' X Y c dg cm1 s1 f2 (by omega) f1' (fun i hi => f3 i (by omega)) (fun _ => f4 (by omega))
    · -- product
      show resC N r T x σ 2 d p C W cm s (match pX (hh x T 40) k 3 d p with
        | (q', none) => (q', none)
        | (q', some c) => pL (hh x T 40) isM (pX (hh x T 40) k 3 d) 42 q' c)
      obtain ⟨r1, r2⟩ := ih 3 d p C W cm s (by omega) hd hp (by unfold need at hk ⊢; omega) hc (fun h => by omega) (fun h => by omega) hl
      rcases hpr : pX (hh x T 40) k 3 d p with ⟨q', _ | c⟩
      · exact resC_no (r2 q' hpr)
      · obtain ⟨s1, X, Y, dg, cm1, f1, f2, f3, f4, f5, f6⟩ := r1 q' c hpr
        have f1' : sucC N r T x σ 3 d p C W cm s q' c s1 X Y dg cm1 := ⟨f1.1, f1.2.1, fun y hy => pend_le (f1.2.2.1 y hy) (by omega), f1.2.2.2⟩
        exact loopC hr hT hs hN (k := 3) (Or.inr rfl) (fun y hy => rank_M hy) (fun y hy => ⟨fun h => by omega, fun _ => hy⟩) hd (hst (by omega)) (fun p' C' W' cm' s' h1 h2 h3 h4 h5 => ih 3 d p' C' W' cm' s' (by omega) hd h2 (by unfold need at hk ⊢; omega) h3 (fun h => by omega) (fun h => by omega) h5) 42 q' X Y c dg cm1 s1 f2 (by omega) f1' (fun i hi => f3 i (by omega)) (fun h => by omega)
    · -- thing
      show resC N r T x σ 3 d p C W cm s (if hh x T 40 p = 45 then (match pX (hh x T 40) k 3 d (p + 1) with
          | (q', none) => (q', none)
          | (q', some c) => (q', some (c ++ [-126])))
        else if hh x T 40 p = 40 ∧ d < 4 then (match pX (hh x T 40) k 0 (d + 1) (p + 1) with
          | (q', none) => (q', none)
          | (q', some c) => if hh x T 40 q' = 41 then (q' + 1, some c) else (q', none))
        else if inR (hh x T 40 p) 48 57 then (p + numL (hh x T 40) p, some [numV (hh x T 40) p])
        else if letV (hh x T 40 p) = -1 then (p, none) else (p + 1, some [1000 + letV (hh x T 40 p)]))
      have hX := hc.2.2.2.2.2.2.2.2.2.2
      have bad : (p < T → p < 40 → f_X6_takes N s r (hh x T 40 p) = some (0, s)) → resC N r T x σ 3 d p C W cm s (p, none) := fun hb => by
        refine resC_no ⟨Nat.le_refl _, hp, fun M hM => ?_⟩
        obtain ⟨M, rfl⟩ : ∃ m, M = m + 1 := ⟨M - 1, by omega⟩
        exact ⟨s, ru_bad0 hr hp hT hs hc hb, hX⟩
      by_cases h45 : hh x T 40 p = 45
      · have hlt := hh_lt (x := x) (n := T) (top := 40) (p := p) (by rw [h45]; decide)
        obtain ⟨s1, e1, e2⟩ := T45 (N := N) hr hc (by omega)
        rw [← h45] at e1
        have st : ∀ M, u_lp2 (ruB N r T) (M + 1) s (mI p) = u_lp2 (ruB N r T) M s1 (mI (p + 1)) := fun M => ru_1 hr hlt.1 hlt.2 hT hX (hs p hlt.1) e1
        rw [if_pos h45]
        obtain ⟨r1, r2⟩ := ih 3 d (p + 1) C (W ++ [126]) cm s1 (by omega) hd (by omega) (by unfold need at hk ⊢; omega) e2 (fun h => by omega) (fun h => by omega) (by rw [List.length_append]; show C.length + (W.length + 1) ≤ p + 1; omega)
        rcases hpr : pX (hh x T 40) k 3 d (p + 1) with ⟨q', _ | c⟩
        · exact resC_no (errC_1 (r2 q' hpr) st (by omega))
        · obtain ⟨s2, X, Y, dg, cm1, f1, f2, f3, f4, f5, f6⟩ := r1 q' c hpr
          obtain ⟨g1, g2, g3, g4, g5, g6, g7⟩ := f1
          have eb : W ++ [126] ++ Y = W ++ (126 :: Y) := by rw [List.append_assoc]; rfl
          rw [eb] at g1 g5
          refine resC_ok ⟨s2, X, 126 :: Y, dg, cm1, ⟨g1, ?_, fun y hy => ?_, g4, g5, g6, fun M => ?_⟩, by omega, f3, fun h => by omega, fun h => by omega, fun h => by omega⟩
          · rw [flush_cons, ← g2, List.append_assoc]
          · rcases List.mem_cons.mp hy with rfl | hy
            · exact Or.inl rfl
            · exact g3 y hy
          · have := st (M + (q' - (p + 1)))
            rw [show M + (q' - (p + 1)) + 1 = M + (q' - p) by omega, g7] at this
            exact this
      · rw [if_neg h45]
        by_cases h40 : hh x T 40 p = 40
        · by_cases hd4 : d < 4
          · have hlt := hh_lt (x := x) (n := T) (top := 40) (p := p) (by rw [h40]; decide)
            obtain ⟨s1, e1, e2⟩ := T40 (N := N) hr hc (by omega) hd4
            rw [← h40] at e1
            have st : ∀ M, u_lp2 (ruB N r T) (M + 1) s (mI p) = u_lp2 (ruB N r T) M s1 (mI (p + 1)) := fun M => ru_1 hr hlt.1 hlt.2 hT hX (hs p hlt.1) e1
            rw [if_pos ⟨h40, hd4⟩]
            have htb : ∀ i, i < 32 → tb (cm &&& ((1 <<< (mI (d + 1) &&& 31)) ^^^ (-1))) i = (tb cm i && !decide (i = d + 1)) := fun i hi => by rw [tb_and, tb_not hi, tb_1 (by omega) hi]
            obtain ⟨r1, r2⟩ := ih 0 (d + 1) (p + 1) C (W ++ [40]) _ s1 (by omega) (by omega) (by omega) (by unfold need at hk ⊢; omega) e2 (fun _ => Or.inr ⟨W, 40, rfl, by decide, by decide⟩) (fun _ => by rw [htb (d + 1) (by omega)]; simp) (by rw [List.length_append]; show C.length + (W.length + 1) ≤ p + 1; omega)
            rcases hpr : pX (hh x T 40) k 0 (d + 1) (p + 1) with ⟨q', _ | c⟩
            · exact resC_no (errC_1 (r2 q' hpr) st (by omega))
            · obtain ⟨s2, X, Y, dg, cm1, f1, f2, f3, f4, f5, f6⟩ := r1 q' c hpr
              obtain ⟨g1, g2, g3, g4, g5, g6, g7⟩ := f1
              have hch : ∀ M, u_lp2 (ruB N r T) (M + (q' - p)) s (mI p) = u_lp2 (ruB N r T) M s2 (mI q') := fun M => by
                have := st (M + (q' - (p + 1)))
                rw [show M + (q' - (p + 1)) + 1 = M + (q' - p) by omega, g7] at this
                exact this
              by_cases h41 : hh x T 40 q' = 41
              · have hlt2 := hh_lt (x := x) (n := T) (top := 40) (p := q') (by rw [h41]; decide)
                simp only [if_pos h41]
                obtain ⟨s3, b1, b2⟩ := BC (N := N) hr g1 g3 (by omega) hd4 hN
                rw [← h41] at b1
                rw [List.append_assoc, g2] at b2
                have st3 : ∀ M, u_lp2 (ruB N r T) (M + 1) s2 (mI q') = u_lp2 (ruB N r T) M s3 (mI (q' + 1)) := fun M => ru_1 hr hlt2.1 hlt2.2 hT g1.2.2.2.2.2.2.2.2.2.2 (hs q' hlt2.1) b1
                refine resC_ok ⟨s3, c, [], 0, cm1, ⟨by rw [List.append_nil]; exact b2, by rw [flush_nil, List.append_nil], fun y hy => (by cases hy), fun _ => Or.inl (by decide), ?_, by omega, fun M => ?_⟩, by omega, fun i hi => ?_, fun h => by omega, fun h => by omega, fun h => by omega⟩
                · have hc2 : c.length = X.length + Y.length := by rw [← g2, List.length_append, flush_len]
                  have q1 : (C ++ X).length = C.length + X.length := List.length_append
                  have q2 : (W ++ [40] ++ Y).length = W.length + 1 + Y.length := by rw [List.length_append, List.length_append]; rfl
                  rw [List.append_nil, List.length_append, hc2]
                  omega
                · have := hch (M + 1)
                  rw [show M + 1 + (q' - p) = M + (q' + 1 - p) by omega, st3] at this
                  exact this
                · rw [f3 i (by omega), htb i (by omega)]
                  have : ¬ i = d + 1 := by omega
                  simp [this]
              · simp only [if_neg h41]
                refine resC_no (errC_n ⟨Nat.le_refl _, g6, fun M hM => ?_⟩ (by omega) hch)
                obtain ⟨M, rfl⟩ : ∃ m, M = m + 1 := ⟨M - 1, by omega⟩
                exact ru_tail hr g6 hT hs g1 (by omega) g4 (f4 (by omega)) (f5 (by omega)) (f6 rfl) (fun h => absurd h h41) (fun _ => by omega)
          · rw [if_neg (fun h => hd4 h.2), h40, show inR 40 48 57 = false by decide, if_neg Bool.false_ne_true, if_pos (by decide)]
            exact bad (fun _ _ => by rw [h40]; exact T40n hc hd4 (by omega))
        · rw [if_neg (fun h => h40 h.1)]
          cases hin : inR (hh x T 40 p) 48 57
          · rw [if_neg Bool.false_ne_true]
            rcases letV_sm (hh x T 40 p) with hlv | ⟨l, hl7, el⟩
            · rw [if_pos hlv]
              exact bad (fun _ _ => TN hc h45 h40 hin hlv)
            · have hne : ¬ mI l = -1 := m1ne (by omega)
              have hlt := hh_lt (x := x) (n := T) (top := 40) (p := p) (fun h => by
                rw [h] at el
                have : letV (-1) = -1 := by decide
                rw [this] at el
                exact hne el.symm)
              rw [el, if_neg hne]
              obtain ⟨s1, e1, e2⟩ := TL (N := N) hr hc (by omega) hl7 el
              refine resC_ok ⟨s1, [1000 + mI l], [], 0, cm, ⟨by rw [List.append_nil]; exact e2, rfl, fun y hy => (by cases hy), fun _ => Or.inl (by decide), ?_, by omega, fun M => ?_⟩, by omega, fun _ _ => rfl, fun h => by omega, fun h => by omega, fun h => by omega⟩
              · rw [List.append_nil, List.length_append]; show C.length + 1 + W.length ≤ p + 1; omega
              · rw [show p + 1 - p = 1 by omega]
                exact ru_1 hr hlt.1 hlt.2 hT hX (hs p hlt.1) e1
          · have hlt := inR_lt (by omega) (by omega) hin
            rw [if_pos rfl]
            obtain ⟨s1, dg, e1, e2, e3, e4⟩ := ru_num (N := N) hr hT hs hc (by omega) hin
            have hn1 : 1 ≤ numL (hh x T 40) p := by unfold numL; split <;> (try split) <;> omega
            refine resC_ok ⟨s1, [numV (hh x T 40) p], [], dg, cm, ⟨by rw [List.append_nil]; exact e1, rfl, fun y hy => (by cases hy), e2, ?_, e3, fun M => ?_⟩, by omega, fun _ _ => rfl, fun h => by omega, fun h => by omega, fun h => by omega⟩
            · rw [List.append_nil, List.length_append]; show C.length + 1 + W.length ≤ _; omega
            · rw [show p + numL (hh x T 40) p - p = numL (hh x T 40) p by omega]
              exact e4 M
end R3
