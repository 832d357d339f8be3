/-! PURE LAYER: the reference reads a rule -/
theorem p_same (σ : uS) (a k : Nat) (x y : Int32) : u_pI (u_pI σ a k x) a k y = u_pI σ a k y := by
  unfold u_pI u_sI upd
  refine Prod.ext ?_ rfl
  funext b
  by_cases hb : b = a
  · subst hb
    simp only [if_true]
    funext j
    by_cases hj : j = k
    · simp [hj]
    · simp [hj]
  · simp only [hb, if_false]
def atS (t : uS) (p : Nat) : uS := u_pI t 0 12 (mI p)
theorem atS_at (t : uS) (p e : Nat) : u_pI (atS t p) 0 12 (mI e) = atS t e := p_same _ _ _ _ _
section RM
variable {N q n : Nat} {t : uS}
def mBase (t : uS) (q n : Nat) : Prop := qOK q n ∧ t.2.2 0 9 = some q ∧ t.1 0 10 = mI n ∧ t.1 0 11 = mI 40 ∧ t.1 0 13 = -1 ∧ ∀ k, k < n → u_nar 2 (t.1 q k) = t.1 q k
theorem mBase.rd (hb : mBase t q n) (p : Nat) : rdS (atS t p) q n 40 p := ⟨hb.2.1, by unfold atS; rw [p_Is (by omega)]; exact hb.2.2.1, by unfold atS; rw [p_Is (by omega)]; exact hb.2.2.2.1, p_II _ _ _ _, by unfold atS; rw [p_Is (by omega)]; exact hb.2.2.2.2.1⟩
theorem mBase.q0 (hb : mBase t q n) : q ≠ 0 := by have := hb.1; unfold qOK at this; omega
theorem mBase.x (hb : mBase t q n) (p : Nat) : (atS t p).1 q = t.1 q := p_Ia hb.q0
theorem hereR (hb : mBase t q n) {p : Nat} (hp : p ≤ 40) : f_X12_here N (atS t p) = some (hh (t.1 q) n 40 p) := by rw [m_here (hb.rd p) hb.1 (by omega) (by omega), hb.x]
theorem fineR (hb : mBase t q n) {p : Nat} : f_X12_fine N (atS t p) = some 1 := m_fine1 (hb.rd p).2.2.2.2
theorem passR (hb : mBase t q n) {p : Nat} {c : Int32} (hp : p ≤ 40) : f_X12_passes N (atS t p) c = some (if hh (t.1 q) n 40 p = c then (1, atS t (p + 1)) else (0, atS t p)) := by rw [m_passes1 (hb.rd p) hb.1 (by omega) (by omega), hb.x, atS_at]
theorem oneR (hb : mBase t q n) {p a m : Nat} (hp : p ≤ 40) (hm : 0 < m) (ham : a + m ≤ 128) : f_X12_oneOf N (atS t p) (mI a) (mI m) = some (if inR (hh (t.1 q) n 40 p) a (a + m - 1) then (hh (t.1 q) n 40 p - mI a, atS t (p + 1)) else (0, u_pI (atS t p) 0 13 (mI p))) := by
  rw [m_oneOf1 (hb.rd p) hb.1 (by omega) (by omega) (by rw [hb.x]; exact hb.2.2.2.2.2) hm ham, hb.x, atS_at]
theorem badR {p e : Nat} (he : e ≤ 40) : (u_pI (atS t p) 0 13 (mI e)).1 0 13 ≠ -1 := by rw [p_II]; exact m1ne (by omega)
/-- what comes out of reading at p -/
def resM (t : uS) (f : Nat → Int32) (p lim : Nat) (out : Option (Int32 × uS)) (R : Nat × Option (List Int32)) : Prop := ∃ v, (∀ e c, R = (e, some c) → out = some (v, atS t e) ∧ (∀ st, runC f c st = v :: st) ∧ p < e ∧ e ≤ lim) ∧ (∀ e, R = (e, none) → ∃ p', out = some (v, u_pI (atS t p') 0 13 (mI e)) ∧ p ≤ e ∧ e ≤ lim)
theorem resM_ok {f : Nat → Int32} {p lim e : Nat} {out : Option (Int32 × uS)} {c : List Int32} (v : Int32) (h1 : out = some (v, atS t e)) (h2 : ∀ st, runC f c st = v :: st) (h3 : p < e) (h4 : e ≤ lim) : resM t f p lim out (e, some c) := ⟨v, fun e' c' h => (by cases h; exact ⟨h1, h2, h3, h4⟩), fun e' h => (by cases h)⟩
theorem resM_no {f : Nat → Int32} {p lim e p' : Nat} {out : Option (Int32 × uS)} (v : Int32) (h1 : out = some (v, u_pI (atS t p') 0 13 (mI e))) (h3 : p ≤ e) (h4 : e ≤ lim) : resM t f p lim out (e, none) := ⟨v, fun e' c' h => (by cases h), fun e' h => (by cases h; exact ⟨p', h1, h3, h4⟩)⟩
theorem hh_lt {x : Nat → Int32} {n top p : Nat} (h : hh x n top p ≠ -1) : p < n ∧ p < top := Classical.byContradiction fun hn => h (hh_out hn)
theorem isA_iff {x : Int32} : isA x = true ↔ x = 43 ∨ x = 45 := by unfold isA; exact decide_eq_true_iff
theorem isM_iff {x : Int32} : isM x = true ↔ x = 42 ∨ x = 47 := by unfold isM; exact decide_eq_true_iff
theorem isC_iff {x : Int32} : isC x = true ↔ x = 60 ∨ x = 62 ∨ x = 61 := by unfold isC; exact decide_eq_true_iff
/-- the loop of a sum -/
theorem sumR (hb : mBase t q n) {f : Nat → Int32} {d lim : Nat} {rec : Nat → uS → Int32 → Option (Int32 × uS)} {pr : Nat → Nat × Option (List Int32)} (hl : lim = min n 40) (p0 : Nat) (hrec : ∀ p, p0 < p → p ≤ lim → resM t f p lim (rec 2 (atS t p) (mI d)) (pr p)) : ∀ (m p N' : Nat) (c : List Int32) (v : Int32), p0 < p → p ≤ lim → 41 ≤ m + p → 43 ≤ N' + p → (∀ st, runC f c st = v :: st) → resM t f p0 lim (u_lp2 (b_X12_sum_6 N (mI d) rec (fun s2 x3 => some (x3, s2))) N' (atS t p) v) (pL (hh (t.1 q) n 40) isA pr m p c) := by
  intro m
  induction m with
  | zero => intro p N' c v _ hp hm; omega
  | succ m ih =>
    intro p N' c v hp0 hp hm hN' hv
    obtain ⟨N', rfl⟩ : ∃ k, N' = k + 1 := ⟨N' - 1, by omega⟩
    have hun : u_lp2 (b_X12_sum_6 N (mI d) rec (fun s2 x3 => some (x3, s2))) (N' + 1) (atS t p) v = if isA (hh (t.1 q) n 40 p) then ((rec 2 (atS t (p + 1)) (mI d)).bind fun v15 => u_lp2 (b_X12_sum_6 N (mI d) rec (fun s2 x3 => some (x3, s2))) N' v15.2 (jnd v (hh (t.1 q) n 40 p) v15.1)) else some (v, atS t p) := by
      show b_X12_sum_6 N (mI d) rec _ (u_lp2 (b_X12_sum_6 N (mI d) rec (fun s2 x3 => some (x3, s2))) N') (atS t p) v = _
      generalize u_lp2 (b_X12_sum_6 N (mI d) rec (fun s2 x3 => some (x3, s2))) N' = R
      unfold b_X12_sum_6
      have e12 : u_pI (atS t p) 0 12 ((atS t p).1 0 12 + 1) = atS t (p + 1) := by rw [(hb.rd p).2.2.2.1, mI_succ, atS_at]
      rw [fineR hb, o_bind, if_neg n10, hereR hb (by omega)]
      simp only [jn_eq, o_bind, e12]
      by_cases h43 : hh (t.1 q) n 40 p = 43
      · rw [if_pos h43, isA_iff.mpr (Or.inl h43), if_pos rfl, h43, if_pos rfl]
        simp only [i10, if_false]
        rfl
      · rw [if_neg h43]
        by_cases h45 : hh (t.1 q) n 40 p = 45
        · rw [if_pos h45, isA_iff.mpr (Or.inr h45), if_pos rfl, h45, if_neg (by decide)]
          simp only [if_true]
          rfl
        · have : isA (hh (t.1 q) n 40 p) = false := by
            cases hA : isA (hh (t.1 q) n 40 p)
            · rfl
            · exact absurd (isA_iff.mp hA) (fun h => h.elim h43 h45)
          rw [if_neg h45, this, if_neg Bool.false_ne_true]
    show resM t f p0 lim _ (if isA (hh (t.1 q) n 40 p) then (match pr (p + 1) with
      | (q', none) => (q', none)
      | (q', some c2) => pL (hh (t.1 q) n 40) isA pr m q' (c ++ c2 ++ [-(hh (t.1 q) n 40 p)])) else (p, some c))
    rw [hun]
    cases hA : isA (hh (t.1 q) n 40 p)
    · rw [if_neg Bool.false_ne_true, if_neg Bool.false_ne_true]
      exact resM_ok v rfl hv hp0 hp
    · rw [if_pos rfl, if_pos rfl]
      have hA2 := isA_iff.mp hA
      have hlt := hh_lt (x := t.1 q) (n := n) (top := 40) (p := p) (by rcases hA2 with h | h <;> rw [h] <;> decide)
      obtain ⟨v2, r1, r2⟩ := hrec (p + 1) (by omega) (by omega)
      rcases hpr : pr (p + 1) with ⟨q', _ | c2⟩
      · obtain ⟨p', e1, e2, e3⟩ := r2 q' hpr
        rw [e1, o_bind]
        obtain ⟨N', rfl⟩ : ∃ k, N' = k + 1 := ⟨N' - 1, by omega⟩
        refine resM_no (p' := p') (jnd v (hh (t.1 q) n 40 p) v2) ?_ (by omega) e3
        show b_X12_sum_6 N (mI d) rec _ _ _ _ = _
        unfold b_X12_sum_6
        rw [m_fine0 (badR (by omega)), o_bind, if_pos rfl]
      · obtain ⟨e1, e2, e3, e4⟩ := r1 q' c2 hpr
        rw [e1, o_bind]
        exact ih q' N' _ _ (by omega) e4 (by omega) (by omega) (run_bin hv e2 (by rcases hA2 with h | h <;> rw [h] <;> decide) (by rcases hA2 with h | h <;> rw [h] <;> decide))
/-- the loop of a product -/
theorem prodR (hb : mBase t q n) {f : Nat → Int32} {d lim : Nat} {rec : Nat → uS → Int32 → Option (Int32 × uS)} {pr : Nat → Nat × Option (List Int32)} (hl : lim = min n 40) (p0 : Nat) (hrec : ∀ p, p0 < p → p ≤ lim → resM t f p lim (rec 3 (atS t p) (mI d)) (pr p)) : ∀ (m p N' : Nat) (c : List Int32) (v : Int32), p0 < p → p ≤ lim → 41 ≤ m + p → 43 ≤ N' + p → (∀ st, runC f c st = v :: st) → resM t f p0 lim (u_lp2 (b_X12_product_6 N (mI d) rec (fun s2 x3 => some (x3, s2))) N' (atS t p) v) (pL (hh (t.1 q) n 40) isM pr m p c) := by
  intro m
  induction m with
  | zero => intro p N' c v _ hp hm; omega
  | succ m ih =>
    intro p N' c v hp0 hp hm hN' hv
    obtain ⟨N', rfl⟩ : ∃ k, N' = k + 1 := ⟨N' - 1, by omega⟩
    have hun : u_lp2 (b_X12_product_6 N (mI d) rec (fun s2 x3 => some (x3, s2))) (N' + 1) (atS t p) v = if isM (hh (t.1 q) n 40 p) then ((rec 3 (atS t (p + 1)) (mI d)).bind fun v15 => u_lp2 (b_X12_product_6 N (mI d) rec (fun s2 x3 => some (x3, s2))) N' v15.2 (jnd v (hh (t.1 q) n 40 p) v15.1)) else some (v, atS t p) := by
      show b_X12_product_6 N (mI d) rec _ (u_lp2 (b_X12_product_6 N (mI d) rec (fun s2 x3 => some (x3, s2))) N') (atS t p) v = _
      generalize u_lp2 (b_X12_product_6 N (mI d) rec (fun s2 x3 => some (x3, s2))) N' = R
      unfold b_X12_product_6
      have e12 : u_pI (atS t p) 0 12 ((atS t p).1 0 12 + 1) = atS t (p + 1) := by rw [(hb.rd p).2.2.2.1, mI_succ, atS_at]
      rw [fineR hb, o_bind, if_neg n10, hereR hb (by omega)]
      simp only [jn_eq, o_bind, e12]
      by_cases h42 : hh (t.1 q) n 40 p = 42
      · rw [if_pos h42, isM_iff.mpr (Or.inl h42), if_pos rfl, h42, if_pos rfl]
        simp only [i10, if_false]
        rfl
      · rw [if_neg h42]
        by_cases h47 : hh (t.1 q) n 40 p = 47
        · rw [if_pos h47, isM_iff.mpr (Or.inr h47), if_pos rfl, h47, if_neg (by decide)]
          simp only [if_true]
          congr 1
          funext v15
          by_cases h0 : v15.1 = 0
          · rw [if_pos h0]
            have : jnd v 47 v15.1 = 0 := by unfold jnd; rw [if_neg (by decide), if_neg (by decide), if_neg (by decide), if_pos rfl, if_pos h0]
            rw [this]
          · rw [if_neg h0, o_ck h0]
            have : jnd v 47 v15.1 = v / v15.1 := by unfold jnd; rw [if_neg (by decide), if_neg (by decide), if_neg (by decide), if_pos rfl, if_neg h0]
            rw [this]
        · have : isM (hh (t.1 q) n 40 p) = false := by
            cases hA : isM (hh (t.1 q) n 40 p)
            · rfl
            · exact absurd (isM_iff.mp hA) (fun h => h.elim h42 h47)
          rw [if_neg h47, this, if_neg Bool.false_ne_true]
    show resM t f p0 lim _ (if isM (hh (t.1 q) n 40 p) then (match pr (p + 1) with
      | (q', none) => (q', none)
      | (q', some c2) => pL (hh (t.1 q) n 40) isM pr m q' (c ++ c2 ++ [-(hh (t.1 q) n 40 p)])) else (p, some c))
    rw [hun]
    cases hA : isM (hh (t.1 q) n 40 p)
    · rw [if_neg Bool.false_ne_true, if_neg Bool.false_ne_true]
      exact resM_ok v rfl hv hp0 hp
    · rw [if_pos rfl, if_pos rfl]
      have hA2 := isM_iff.mp hA
      have hlt := hh_lt (x := t.1 q) (n := n) (top := 40) (p := p) (by rcases hA2 with h | h <;> rw [h] <;> decide)
      obtain ⟨v2, r1, r2⟩ := hrec (p + 1) (by omega) (by omega)
      rcases hpr : pr (p + 1) with ⟨q', _ | c2⟩
      · obtain ⟨p', e1, e2, e3⟩ := r2 q' hpr
        rw [e1, o_bind]
        obtain ⟨N', rfl⟩ : ∃ k, N' = k + 1 := ⟨N' - 1, by omega⟩
        refine resM_no (p' := p') (jnd v (hh (t.1 q) n 40 p) v2) ?_ (by omega) e3
        show b_X12_product_6 N (mI d) rec _ _ _ _ = _
        unfold b_X12_product_6
        rw [m_fine0 (badR (by omega)), o_bind, if_pos rfl]
      · obtain ⟨e1, e2, e3, e4⟩ := r1 q' c2 hpr
        rw [e1, o_bind]
        exact ih q' N' _ _ (by omega) e4 (by omega) (by omega) (run_bin hv e2 (by rcases hA2 with h | h <;> rw [h] <;> decide) (by rcases hA2 with h | h <;> rw [h] <;> decide))
/-- a number of three digits at most -/
theorem numR (hb : mBase t q n) {p : Nat} (hp : p ≤ 40) (h0 : inR (hh (t.1 q) n 40 p) 48 57 = true) (hN : 500 < N) : f_X12_number N (atS t p) 3 = some (numV (hh (t.1 q) n 40) p, atS t (p + numL (hh (t.1 q) n 40) p)) ∧ p + numL (hh (t.1 q) n 40) p ≤ min n 40 := by
  have hlt := inR_lt (by omega) (by omega) h0
  have one : ∀ p, p ≤ 40 → f_X12_oneOf N (atS t p) 48 10 = some (if inR (hh (t.1 q) n 40 p) 48 57 then (hh (t.1 q) n 40 p - 48, atS t (p + 1)) else (0, u_pI (atS t p) 0 13 (mI p))) := fun p hp => oneR (a := 48) (m := 10) hb hp (by omega) (by omega)
  have dg : ∀ p, p ≤ 40 → (f_X12_here N (atS t p)).bind (fun v10 => f_X12_in N (atS t p) v10 48 57) = some (if inR (hh (t.1 q) n 40 p) 48 57 then 1 else 0) := fun p hp => by
    rw [hereR hb hp, o_bind, m_in]
    congr 1
    exact in_is (a := 48) (b := 57)
  obtain ⟨N', rfl⟩ : ∃ m, N = m + 1 + 1 + 1 := ⟨N - 3, by omega⟩
  unfold f_X12_number
  simp only [jn_eq]
  rw [one p hp, h0, if_pos rfl, o_bind]
  have step : ∀ (M k p : Nat) (v : Int32), p ≤ 40 → k < 3 → u_lp3 (b_X12_number_11 (N' + 1 + 1 + 1) 3 (fun s2 x3 => some (x3, s2))) (M + 1) (atS t p) v (mI k) = if inR (hh (t.1 q) n 40 p) 48 57 then u_lp3 (b_X12_number_11 (N' + 1 + 1 + 1) 3 (fun s2 x3 => some (x3, s2))) M (atS t (p + 1)) (v * 10 + (hh (t.1 q) n 40 p - 48)) (mI (k + 1)) else some (v, atS t p) := by
    intro M k p v hp hk
    show b_X12_number_11 _ 3 _ (u_lp3 (b_X12_number_11 (N' + 1 + 1 + 1) 3 (fun s2 x3 => some (x3, s2))) M) (atS t p) v (mI k) = _
    generalize u_lp3 (b_X12_number_11 (N' + 1 + 1 + 1) 3 (fun s2 x3 => some (x3, s2))) M = R
    unfold b_X12_number_11
    rw [if_neg (lnle 3 3 rfl (by omega) (by omega) hk), fineR hb, o_bind, if_neg n10, hereR hb hp, o_bind, m_in, o_bind, show (if hh (t.1 q) n 40 p < 48 then (0 : Int32) else if 57 < hh (t.1 q) n 40 p then 0 else 1) = _ from in_is (a := 48) (b := 57)]
    cases hin : inR (hh (t.1 q) n 40 p) 48 57
    · rw [if_neg Bool.false_ne_true, if_pos rfl, if_neg Bool.false_ne_true]
    · rw [if_pos rfl, if_neg n10, if_pos rfl, one p hp, hin, if_pos rfl, o_bind]
      simp only [jn_eq, mI_succ]
      rw [Int32.mul_comm 10 v]
  have last : ∀ (M p : Nat) (v : Int32), u_lp3 (b_X12_number_11 (N' + 1 + 1 + 1) 3 (fun s2 x3 => some (x3, s2))) (M + 1) (atS t p) v (mI 3) = some (v, atS t p) := by
    intro M p v
    show b_X12_number_11 _ 3 _ _ (atS t p) v (mI 3) = _
    unfold b_X12_number_11
    rw [if_pos (lle 3 3 rfl (by omega) (by omega) (by omega))]
  have s1 := step (N' + 1 + 1) 1 (p + 1) (hh (t.1 q) n 40 p - 48) (by omega) (by omega)
  have s1 : u_lp3 (b_X12_number_11 (N' + 1 + 1 + 1) 3 (fun s2 x3 => some (x3, s2))) (N' + 1 + 1 + 1) (atS t (p + 1)) (hh (t.1 q) n 40 p - 48) 1 = _ := s1
  rw [s1]
  unfold numV numL
  cases h1 : inR (hh (t.1 q) n 40 (p + 1)) 48 57
  · rw [if_neg Bool.false_ne_true, if_neg Bool.false_ne_true, if_neg Bool.false_ne_true]
    exact ⟨rfl, by omega⟩
  · have hlt1 := inR_lt (by omega) (by omega) h1
    rw [if_pos rfl, if_pos rfl, if_pos rfl, step (N' + 1) 2 (p + 1 + 1) _ (by omega) (by omega)]
    cases h2 : inR (hh (t.1 q) n 40 (p + 2)) 48 57
    · have h2' : inR (hh (t.1 q) n 40 (p + 1 + 1)) 48 57 = false := h2
      rw [if_neg Bool.false_ne_true, if_neg Bool.false_ne_true, if_neg Bool.false_ne_true]
      exact ⟨rfl, by omega⟩
    · have h2' : inR (hh (t.1 q) n 40 (p + 1 + 1)) 48 57 = true := h2
      have hlt2 := inR_lt (by omega) (by omega) h2
      rw [if_pos rfl, if_pos rfl, if_pos rfl, last]
      exact ⟨rfl, by omega⟩
theorem m_let {σ : uS} {x : Int32} : f_X12_letterOf N σ x = some (letV x) := by
  unfold f_X12_letterOf letV
  repeat' split
  all_goals rfl
/-- the value that a letter has -/
def askF (t : uS) : Nat → Int32 := fun k => if t.1 0 18 = 0 then 0 else t.1 8 k
theorem exprR (hb : mBase t q n) (hN : 500 < N) : ∀ (k w d p : Nat), w ≤ 3 → d ≤ 4 → p ≤ min n 40 → need w d p ≤ k → resM t (askF t) p (min n 40) (u_lp3 (b_X12_expr N) k w (atS t p) (mI d)) (pX (hh (t.1 q) n 40) k w d p) := by
  intro k
  induction k with
  | zero => intro w d p _ _ _ hk; unfold need at hk; omega
  | succ k ih =>
    intro w d p hw hd hp hk
    show resM t (askF t) p (min n 40) (b_X12_expr N (u_lp3 (b_X12_expr N) k) w (atS t p) (mI d)) _
    have hrec : ∀ w' d' p', w' ≤ 3 → d' ≤ 4 → p' ≤ min n 40 → need w' d' p' ≤ k → resM t (askF t) p' (min n 40) (u_lp3 (b_X12_expr N) k w' (atS t p') (mI d')) (pX (hh (t.1 q) n 40) k w' d' p') := ih
    generalize u_lp3 (b_X12_expr N) k = rec at hrec
    clear ih
    unfold b_X12_expr
    have hw4 : w = 0 ∨ w = 1 ∨ w = 2 ∨ w = 3 := by omega
    rcases hw4 with rfl | rfl | rfl | rfl
    · -- held
      rw [if_pos rfl]
      unfold g_X12_held
      show resM t (askF t) p (min n 40) _ (match pX (hh (t.1 q) n 40) k 1 d p with
        | (q', none) => (q', none)
        | (q', some c) => if isC (hh (t.1 q) n 40 q') then (match pX (hh (t.1 q) n 40) k 1 d (q' + 1) with
          | (q2, none) => (q2, none)
          | (q2, some c2) => (q2, some (c ++ c2 ++ [-(hh (t.1 q) n 40 q')]))) else (q', some c))
      obtain ⟨v1, r1, r2⟩ := hrec 1 d p (by omega) hd hp (by unfold need at hk ⊢; omega)
      rcases hpr : pX (hh (t.1 q) n 40) k 1 d p with ⟨q', _ | c⟩
      · obtain ⟨p', e1, e2, e3⟩ := r2 q' hpr
        have hbad := badR (t := t) (p := p') (e := q') (by omega)
        refine resM_no (p' := p') v1 ?_ e2 e3
        rw [e1, o_bind, m_passes0 hbad, o_bind, if_pos rfl, m_passes0 hbad, o_bind, if_pos rfl, m_passes0 hbad, o_bind, if_pos rfl]
      · obtain ⟨e1, e2, e3, e4⟩ := r1 q' c hpr
        rw [e1, o_bind, passR hb (by omega), o_bind]
        by_cases h60 : hh (t.1 q) n 40 q' = 60
        · have hlt := hh_lt (x := t.1 q) (n := n) (top := 40) (p := q') (by rw [h60]; decide)
          obtain ⟨v2, r1', r2'⟩ := hrec 1 d (q' + 1) (by omega) hd (by omega) (by unfold need at hk ⊢; omega)
          rw [if_pos h60, if_neg n10]
          simp only [isC_iff.mpr (Or.inl h60), if_true]
          rcases hpr2 : pX (hh (t.1 q) n 40) k 1 d (q' + 1) with ⟨q2, _ | c2⟩
          · obtain ⟨p', f1, f2, f3⟩ := r2' q2 hpr2
            rw [f1, o_bind]
            by_cases hv : v2 ≤ v1
            · exact resM_no (p' := p') 0 (by rw [if_pos hv]) (by omega) f3
            · exact resM_no (p' := p') 1 (by rw [if_neg hv]) (by omega) f3
          · obtain ⟨f1, f2, f3, f4⟩ := r1' q2 c2 hpr2
            rw [f1, o_bind]
            have hj : jnd v1 60 v2 = if v2 ≤ v1 then 0 else 1 := rfl
            refine resM_ok (jnd v1 60 v2) ?_ (by rw [h60]; exact run_bin e2 f2 (by decide) (by decide)) (by omega) f4
            rw [hj]
            by_cases hv : v2 ≤ v1
            · rw [if_pos hv, if_pos hv]
            · rw [if_neg hv, if_neg hv]
        · rw [if_neg h60, if_pos rfl, passR hb (by omega), o_bind]
          by_cases h62 : hh (t.1 q) n 40 q' = 62
          · have hlt := hh_lt (x := t.1 q) (n := n) (top := 40) (p := q') (by rw [h62]; decide)
            obtain ⟨v2, r1', r2'⟩ := hrec 1 d (q' + 1) (by omega) hd (by omega) (by unfold need at hk ⊢; omega)
            rw [if_pos h62, if_neg n10]
            simp only [isC_iff.mpr (Or.inr (Or.inl h62)), if_true]
            rcases hpr2 : pX (hh (t.1 q) n 40) k 1 d (q' + 1) with ⟨q2, _ | c2⟩
            · obtain ⟨p', f1, f2, f3⟩ := r2' q2 hpr2
              rw [f1, o_bind]
              by_cases hv : v1 ≤ v2
              · exact resM_no (p' := p') 0 (by rw [if_pos hv]) (by omega) f3
              · exact resM_no (p' := p') 1 (by rw [if_neg hv]) (by omega) f3
            · obtain ⟨f1, f2, f3, f4⟩ := r1' q2 c2 hpr2
              rw [f1, o_bind]
              have hj : jnd v1 62 v2 = if v1 ≤ v2 then 0 else 1 := rfl
              refine resM_ok (jnd v1 62 v2) ?_ (by rw [h62]; exact run_bin e2 f2 (by decide) (by decide)) (by omega) f4
              rw [hj]
              by_cases hv : v1 ≤ v2
              · rw [if_pos hv, if_pos hv]
              · rw [if_neg hv, if_neg hv]
          · rw [if_neg h62, if_pos rfl, passR hb (by omega), o_bind]
            by_cases h61 : hh (t.1 q) n 40 q' = 61
            · have hlt := hh_lt (x := t.1 q) (n := n) (top := 40) (p := q') (by rw [h61]; decide)
              obtain ⟨v2, r1', r2'⟩ := hrec 1 d (q' + 1) (by omega) hd (by omega) (by unfold need at hk ⊢; omega)
              rw [if_pos h61, if_neg n10]
              simp only [isC_iff.mpr (Or.inr (Or.inr h61)), if_true]
              rcases hpr2 : pX (hh (t.1 q) n 40) k 1 d (q' + 1) with ⟨q2, _ | c2⟩
              · obtain ⟨p', f1, f2, f3⟩ := r2' q2 hpr2
                rw [f1, o_bind]
                by_cases hv : v1 = v2
                · exact resM_no (p' := p') 1 (by rw [if_pos hv]) (by omega) f3
                · exact resM_no (p' := p') 0 (by rw [if_neg hv]) (by omega) f3
              · obtain ⟨f1, f2, f3, f4⟩ := r1' q2 c2 hpr2
                rw [f1, o_bind]
                have hj : jnd v1 61 v2 = if v1 = v2 then 1 else 0 := rfl
                refine resM_ok (jnd v1 61 v2) ?_ (by rw [h61]; exact run_bin e2 f2 (by decide) (by decide)) (by omega) f4
                rw [hj]
                by_cases hv : v1 = v2
                · rw [if_pos hv, if_pos hv]
                · rw [if_neg hv, if_neg hv]
            · have hnc : isC (hh (t.1 q) n 40 q') = false := by
                cases hA : isC (hh (t.1 q) n 40 q')
                · rfl
                · exact absurd (isC_iff.mp hA) (fun h => h.elim h60 (fun h => h.elim h62 h61))
              rw [if_neg h61, if_pos rfl]
              simp only [hnc, Bool.false_eq_true, if_false]
              exact resM_ok v1 rfl e2 e3 e4
    · -- sum
      rw [if_neg (by omega), if_pos rfl]
      unfold g_X12_sum
      simp only [jn_eq]
      show resM t (askF t) p (min n 40) _ (match pX (hh (t.1 q) n 40) k 2 d p with
        | (q', none) => (q', none)
        | (q', some c) => pL (hh (t.1 q) n 40) isA (pX (hh (t.1 q) n 40) k 2 d) 42 q' c)
      obtain ⟨v1, r1, r2⟩ := hrec 2 d p (by omega) hd hp (by unfold need at hk ⊢; omega)
      rcases hpr : pX (hh (t.1 q) n 40) k 2 d p with ⟨q', _ | c⟩
      · obtain ⟨p', e1, e2, e3⟩ := r2 q' hpr
        refine resM_no (p' := p') v1 ?_ e2 e3
        rw [e1, o_bind]
        obtain ⟨N', rfl⟩ : ∃ m, N = m + 1 := ⟨N - 1, by omega⟩
        show b_X12_sum_6 (N' + 1) (mI d) rec _ _ _ _ = _
        unfold b_X12_sum_6
        rw [m_fine0 (badR (by omega)), o_bind, if_pos rfl]
      · obtain ⟨e1, e2, e3, e4⟩ := r1 q' c hpr
        rw [e1, o_bind]
        exact sumR hb rfl p (fun p' h1 h2 => hrec 2 d p' (by omega) hd h2 (by unfold need at hk ⊢; omega)) 42 q' N c v1 e3 e4 (by omega) (by omega) e2
    · -- product
      rw [if_neg (by omega), if_neg (by omega), if_pos rfl]
      unfold g_X12_product
      simp only [jn_eq]
      show resM t (askF t) p (min n 40) _ (match pX (hh (t.1 q) n 40) k 3 d p with
        | (q', none) => (q', none)
        | (q', some c) => pL (hh (t.1 q) n 40) isM (pX (hh (t.1 q) n 40) k 3 d) 42 q' c)
      obtain ⟨v1, r1, r2⟩ := hrec 3 d p (by omega) hd hp (by unfold need at hk ⊢; omega)
      rcases hpr : pX (hh (t.1 q) n 40) k 3 d p with ⟨q', _ | c⟩
      · obtain ⟨p', e1, e2, e3⟩ := r2 q' hpr
        refine resM_no (p' := p') v1 ?_ e2 e3
        rw [e1, o_bind]
        obtain ⟨N', rfl⟩ : ∃ m, N = m + 1 := ⟨N - 1, by omega⟩
        show b_X12_product_6 (N' + 1) (mI d) rec _ _ _ _ = _
        unfold b_X12_product_6
        rw [m_fine0 (badR (by omega)), o_bind, if_pos rfl]
      · obtain ⟨e1, e2, e3, e4⟩ := r1 q' c hpr
        rw [e1, o_bind]
        exact prodR hb rfl p (fun p' h1 h2 => hrec 3 d p' (by omega) hd h2 (by unfold need at hk ⊢; omega)) 42 q' N c v1 e3 e4 (by omega) (by omega) e2
    · -- thing
      rw [if_neg (by omega), if_neg (by omega), if_neg (by omega)]
      unfold g_X12_thing
      show resM t (askF t) p (min n 40) _ (if hh (t.1 q) n 40 p = 45 then (match pX (hh (t.1 q) n 40) k 3 d (p + 1) with
          | (q', none) => (q', none)
          | (q', some c) => (q', some (c ++ [-126])))
        else if hh (t.1 q) n 40 p = 40 ∧ d < 4 then (match pX (hh (t.1 q) n 40) k 0 (d + 1) (p + 1) with
          | (q', none) => (q', none)
          | (q', some c) => if hh (t.1 q) n 40 q' = 41 then (q' + 1, some c) else (q', none))
        else if inR (hh (t.1 q) n 40 p) 48 57 then (p + numL (hh (t.1 q) n 40) p, some [numV (hh (t.1 q) n 40) p])
        else if letV (hh (t.1 q) n 40 p) = -1 then (p, none) else (p + 1, some [1000 + letV (hh (t.1 q) n 40 p)]))
      have e12 : u_pI (atS t p) 0 12 ((atS t p).1 0 12 + 1) = atS t (p + 1) := by rw [(hb.rd p).2.2.2.1, mI_succ, atS_at]
      rw [passR hb (by omega), o_bind]
      by_cases h45 : hh (t.1 q) n 40 p = 45
      · have hlt := hh_lt (x := t.1 q) (n := n) (top := 40) (p := p) (by rw [h45]; decide)
        rw [if_pos h45, if_neg n10, if_pos h45]
        obtain ⟨v1, r1, r2⟩ := hrec 3 d (p + 1) (by omega) hd (by omega) (by unfold need at hk ⊢; omega)
        rcases hpr : pX (hh (t.1 q) n 40) k 3 d (p + 1) with ⟨q', _ | c⟩
        · obtain ⟨p', e1, e2, e3⟩ := r2 q' hpr
          exact resM_no (p' := p') (-v1) (by rw [e1, o_bind]) (by omega) e3
        · obtain ⟨e1, e2, e3, e4⟩ := r1 q' c hpr
          exact resM_ok (-v1) (by rw [e1, o_bind]) (run_neg e2) (by omega) e4
      · rw [if_neg h45, if_pos rfl, if_neg h45, fineR hb, o_bind, if_neg n10, hereR hb (by omega), o_bind]
        simp only [jn_eq, e12]
        -- a number, a letter, or nothing
        have rest : ¬ (hh (t.1 q) n 40 p = 40 ∧ d < 4) → resM t (askF t) p (min n 40) ((f_X12_in N (atS t p) (hh (t.1 q) n 40 p) 48 57).bind fun v5 => if v5 = 0 then ((f_X12_letterOf N (atS t p) (hh (t.1 q) n 40 p)).bind fun v6 => if v6 = (-1) then ((f_X12_fault N (atS t p) ((atS t p).1 0 12)).bind fun s10 => some (0, s10)) else (if ((atS t (p + 1)).1 0 18) = 0 then (some (0, atS t (p + 1))) else ((f_X12_letterOf N (atS t (p + 1)) (hh (t.1 q) n 40 p)).bind fun v8 => (u_rI ZM (atS t (p + 1)) 0 8 v8).bind fun v9 => some (v9, atS t (p + 1))))) else ((f_X12_number N (atS t p) 3).bind fun v11 => some (v11.1, v11.2))) (if hh (t.1 q) n 40 p = 40 ∧ d < 4 then (match pX (hh (t.1 q) n 40) k 0 (d + 1) (p + 1) with
          | (q', none) => (q', none)
          | (q', some c) => if hh (t.1 q) n 40 q' = 41 then (q' + 1, some c) else (q', none))
        else if inR (hh (t.1 q) n 40 p) 48 57 then (p + numL (hh (t.1 q) n 40) p, some [numV (hh (t.1 q) n 40) p])
        else if letV (hh (t.1 q) n 40 p) = -1 then (p, none) else (p + 1, some [1000 + letV (hh (t.1 q) n 40 p)])) := by
          intro hno
          rw [if_neg hno, m_in, o_bind, show (if hh (t.1 q) n 40 p < 48 then (0 : Int32) else if 57 < hh (t.1 q) n 40 p then 0 else 1) = _ from in_is (a := 48) (b := 57)]
          cases hin : inR (hh (t.1 q) n 40 p) 48 57
          · rw [if_neg Bool.false_ne_true, if_pos rfl, if_neg Bool.false_ne_true, m_let, o_bind]
            rcases letV_sm (hh (t.1 q) n 40 p) with hl | ⟨l, hl, el⟩
            · rw [if_pos hl, if_pos hl, m_fault1 (hb.rd p).2.2.2.2, o_bind]
              exact resM_no (p' := p) 0 (by rw [(hb.rd p).2.2.2.1]) (Nat.le_refl _) hp
            · have hlt := hh_lt (x := t.1 q) (n := n) (top := 40) (p := p) (fun h => by rw [h] at el; exact absurd el (by
                have : letV (-1) = -1 := by decide
                rw [this]; exact fun h => m1ne (k := l) (by omega) h.symm))
              have hne : ¬ mI l = -1 := m1ne (by omega)
              rw [el, if_neg hne, if_neg hne, m_let, o_bind, el]
              have e18 : (atS t (p + 1)).1 0 18 = t.1 0 18 := p_Is (by omega)
              have e8 : (atS t (p + 1)).1 8 = t.1 8 := p_Ia (by omega)
              rw [e18]
              by_cases h18 : t.1 0 18 = 0
              · rw [if_pos h18]
                exact resM_ok 0 rfl (by have := run_let (f := askF t) hl; have e0 : askF t l = 0 := by unfold askF; rw [if_pos h18]
                                        rw [e0] at this; exact this) (by omega) (by omega)
              · rw [if_neg h18, mr_8 hl, o_bind, e8]
                exact resM_ok (t.1 8 l) rfl (by have := run_let (f := askF t) hl; have e0 : askF t l = t.1 8 l := by unfold askF; rw [if_neg h18]
                                                rw [e0] at this; exact this) (by omega) (by omega)
          · obtain ⟨g1, g2⟩ := numR (N := N) hb (by omega) hin hN
            rw [if_pos rfl, if_neg n10, if_pos rfl, g1, o_bind]
            exact resM_ok _ rfl (run_num (numV_sm hin)) (by unfold numL; split <;> (try split) <;> omega) g2
        by_cases h40 : hh (t.1 q) n 40 p = 40
        · rw [if_pos h40]
          by_cases hd4 : d < 4
          · have hlt := hh_lt (x := t.1 q) (n := n) (top := 40) (p := p) (by rw [h40]; decide)
            rw [if_neg (lnle 4 4 rfl (by omega) (by omega) hd4), if_pos ⟨h40, hd4⟩, mI_succ]
            obtain ⟨v1, r1, r2⟩ := hrec 0 (d + 1) (p + 1) (by omega) (by omega) (by omega) (by unfold need at hk ⊢; omega)
            unfold f_X12_need
            rcases hpr : pX (hh (t.1 q) n 40) k 0 (d + 1) (p + 1) with ⟨q', _ | c⟩
            · obtain ⟨p', e1, e2, e3⟩ := r2 q' hpr
              have hbad := badR (t := t) (p := p') (e := q') (by omega)
              exact resM_no (p' := p') v1 (by rw [e1, o_bind, m_passes0 hbad, o_bind, if_pos rfl, m_fault0 hbad, o_bind, o_bind]) (by omega) e3
            · obtain ⟨e1, e2, e3, e4⟩ := r1 q' c hpr
              rw [e1, o_bind, passR hb (by omega), o_bind]
              by_cases h41 : hh (t.1 q) n 40 q' = 41
              · have hlt2 := hh_lt (x := t.1 q) (n := n) (top := 40) (p := q') (by rw [h41]; decide)
                simp only [if_pos h41]
                exact resM_ok v1 (by rw [if_neg n10, o_bind]) e2 (by omega) (by omega)
              · simp only [if_neg h41]
                exact resM_no (p' := q') v1 (by rw [if_pos trivial, m_fault1 (hb.rd q').2.2.2.2, o_bind, o_bind, (hb.rd q').2.2.2.1]) (by omega) e4
          · rw [if_pos (lle 4 4 rfl (by omega) (by omega) (by omega))]
            exact rest (fun h => hd4 h.2)
        · rw [if_neg h40]
          exact rest (fun h => h40 h.1)
end RM
