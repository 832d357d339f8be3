/-! PURE LAYER: a rule, worked out by both -/
theorem s_self (σ : uS) (a : Nat) : u_sI σ a (σ.1 a) = σ := by
  unfold u_sI
  refine Prod.ext ?_ rfl
  funext b
  by_cases hb : b = a
  · subst hb; simp
  · simp [hb]
theorem s_p (σ : uS) (a k : Nat) (w : Nat → Int32) (v : Int32) : u_pI (u_sI σ a w) a k v = u_sI σ a (upd w k v) := by
  unfold u_pI u_sI
  refine Prod.ext ?_ rfl
  funext b
  by_cases hb : b = a
  · subst hb; simp
  · simp [hb]
theorem upd_e (w : Nat → Int32) (k : Nat) (v : Int32) : upd w k v k = v := by simp [upd]
theorem upd_n {w : Nat → Int32} {k j : Nat} {v : Int32} (h : j ≠ k) : upd w k v j = w j := by simp [upd, h]
theorem take1 {c : List Int32} {i : Nat} (h : i < c.length) : c.take (i + 1) = c.take i ++ [nth c i] := by
  rw [List.take_succ]
  unfold nth
  rw [List.getElem?_eq_getElem h]
  rfl
theorem c_joined {N : Nat} {σ : uS} {a op b : Int32} : f_X6_joined N σ a op b = some (jnd a op b) := by
  unfold f_X6_joined jnd
  by_cases h1 : op = 42
  · rw [if_pos h1, if_pos h1]
  rw [if_neg h1, if_neg h1]
  by_cases h2 : op = 43
  · rw [if_pos h2, if_pos h2]
  rw [if_neg h2, if_neg h2]
  by_cases h3 : op = 45
  · rw [if_pos h3, if_pos h3]
  rw [if_neg h3, if_neg h3]
  by_cases h4 : op = 47
  · rw [if_pos h4, if_pos h4]
    by_cases h0 : b = 0
    · rw [if_pos h0, if_pos h0]
    · rw [if_neg h0, if_neg h0, o_ck h0]
  rw [if_neg h4, if_neg h4]
  by_cases h5 : op = 60
  · rw [if_pos h5, if_pos h5]
    split <;> rfl
  rw [if_neg h5, if_neg h5]
  by_cases h6 : op = 62
  · rw [if_pos h6, if_pos h6]
    split <;> rfl
  rw [if_neg h6, if_neg h6]
  split <;> rfl
theorem c_thing {N r : Nat} {s : uS} {k : Int32} (hr : r = 22 ∨ r = 27) : f_X6_thing N s r k = some (thg (s.1 (r + 4)) k) := by
  unfold f_X6_thing thg
  simp only [jn_eq]
  by_cases h1 : k < 0
  · rw [if_pos h1, if_pos h1]
  · rw [if_neg h1, if_neg h1, rl_4 hr, o_bind]
    by_cases h2 : mI 7 ≤ k
    · rw [if_pos h2, if_pos (show (7 : Int32) ≤ k from h2)]
    · rw [if_neg h2, if_neg (show ¬ (7 : Int32) ≤ k from h2)]
      obtain ⟨j, -, hj, rfl⟩ := rng (p := k) (lo := 0) (hi := 6) (by omega) (by omega) h1 (fun h => h2 (by rw [Int32.le_iff_toInt_le, mI_int (by omega)]; have := Int32.lt_iff_toInt_lt.mp h; rw [mI_int (by omega)] at this; omega))
      rw [rr_4 hr (by omega), o_bind, mI_nat (by omega)]
theorem nth_0 (a : Int32) (r : List Int32) : nth (a :: r) 0 = a := rfl
theorem nth_s (a : Int32) (r : List Int32) (i : Nat) : nth (a :: r) (i + 1) = nth r i := by unfold nth; simp
def skA (w : Nat → Int32) (st : List Int32) : Prop := ∀ j, j < st.length → w j = nth st (st.length - 1 - j)
theorem skA_push {w : Nat → Int32} {st : List Int32} {v : Int32} (h : skA w st) : skA (upd w st.length v) (v :: st) := by
  intro j hj
  have hj : j < st.length + 1 := hj
  show upd w st.length v j = nth (v :: st) (st.length + 1 - 1 - j)
  by_cases hjl : j = st.length
  · rw [hjl, upd_e, show st.length + 1 - 1 - st.length = 0 by omega, nth_0]
  · rw [upd_n hjl, show st.length + 1 - 1 - j = (st.length - 1 - j) + 1 by omega, nth_s]
    exact h j (by omega)
theorem skA_top {w : Nat → Int32} {a v : Int32} {st : List Int32} (h : skA w (a :: st)) : w st.length = a ∧ skA (upd w st.length v) (v :: st) := by
  refine ⟨?_, skA_push (fun j hj => ?_)⟩
  · have := h st.length (by show st.length < st.length + 1; omega)
    rw [this]
    show nth (a :: st) (st.length + 1 - 1 - st.length) = a
    rw [show st.length + 1 - 1 - st.length = 0 by omega, nth_0]
  · have := h j (by show j < st.length + 1; omega)
    rw [this]
    show nth (a :: st) (st.length + 1 - 1 - j) = _
    rw [show st.length + 1 - 1 - j = (st.length - 1 - j) + 1 by omega, nth_s]
theorem c_worked {N r : Nat} {σ : uS} {c : List Int32} {v : Int32} (hr : r = 22 ∨ r = 27) (hl : c.length ≤ 40) (h4 : σ.1 r 4 = mI c.length) (hc : ∀ i, i < c.length → σ.1 (r + 1) i = nth c i) (hv : runC (σ.1 (r + 4)) c [] = [v]) (hN : 500 < N) : ∃ w, f_X6_worked N σ r = some (v, u_sI σ (r + 3) w) := by
  have h : ok (f_X6_worked N σ r) (fun z => z.1 = v ∧ ∃ w, z.2 = u_sI σ (r + 3) w) := by
    unfold f_X6_worked
    simp only [jn_eq]
    refine lp3_ok (fun i s x y => i ≤ c.length ∧ y = mI i ∧ ∃ w, (runC (σ.1 (r + 4)) (c.take i) []).length ≤ i ∧ x = mI (runC (σ.1 (r + 4)) (c.take i) []).length ∧ s = u_sI σ (r + 3) w ∧ skA w (runC (σ.1 (r + 4)) (c.take i) [])) c.length N _ _ _ (by omega) ?_ ⟨by omega, rfl, σ.1 (r + 3), Nat.le_refl _, rfl, (s_self _ _).symm, fun j hj => absurd hj (by show ¬ j < 0; omega)⟩
    rintro i s x y rec hi ⟨-, rfl, w, w1, rfl, rfl, w2⟩ hrec
    unfold b_X6_worked_4
    have e4 : (u_sI σ (r + 3) w).1 r 4 = mI c.length := by rw [q_Ia (by omega)]; exact h4
    rw [e4]
    by_cases hlt : i < c.length
    · have htk : runC (σ.1 (r + 4)) (c.take (i + 1)) [] = stp (σ.1 (r + 4)) (runC (σ.1 (r + 4)) (c.take i) []) (nth c i) := by rw [take1 hlt, run_app, run_one]
      have ep : (u_sI σ (r + 3) w).1 (r + 1) i = nth c i := by rw [q_Ia (by omega)]; exact hc i hlt
      have ef : (u_sI σ (r + 3) w).1 (r + 4) = σ.1 (r + 4) := q_Ia (by omega)
      generalize runC (σ.1 (r + 4)) (c.take i) [] = st at w1 w2 htk ⊢
      rw [if_neg (mnle (by omega) (by omega) hlt), rl_1 hr, o_bind, if_neg (mnle (by omega) (by omega) (by omega)), rl_3 hr, o_bind, if_neg (mnle (by omega) (by omega) (by omega)), rr_1 hr (by omega), o_bind, ep]
      simp only [jn_eq, mI_succ]
      have go : ∀ (st' : List Int32) (w' : Nat → Int32), stp (σ.1 (r + 4)) st (nth c i) = st' → st'.length ≤ i + 1 → skA w' st' → ok (rec (u_sI σ (r + 3) w') (mI st'.length) (mI (i + 1))) (fun z => z.1 = v ∧ ∃ w, z.2 = u_sI σ (r + 3) w) := fun st' w' g1 g2 g3 => hrec _ _ _ hlt ⟨by omega, rfl, w', by rw [htk, g1]; exact g2, by rw [htk, g1], rfl, by rw [htk, g1]; exact g3⟩
      generalize nth c i = p at go ep htk
      by_cases hneg : p < 0
      · rw [if_pos hneg]
        have join : p ≠ -126 ∨ st = [] → ok (if mI st.length ≤ 1 then rec (u_sI σ (r + 3) w) (mI st.length) (mI (i + 1)) else ((u_rI ZC (u_sI σ (r + 3) w) 0 (r + 3) (mI st.length + (-1) - 1)).bind fun v17 => (u_rI ZC (u_sI σ (r + 3) w) 0 (r + 3) (mI st.length + (-1))).bind fun v18 => (f_X6_joined N (u_sI σ (r + 3) w) v17 (-p) v18).bind fun v19 => (u_wI ZC (u_sI σ (r + 3) w) 0 (r + 3) (mI st.length + (-1) - 1) v19).bind fun s20 => rec s20 (mI st.length + (-1)) (mI (i + 1)))) (fun z => z.1 = v ∧ ∃ w, z.2 = u_sI σ (r + 3) w) := by
          intro hj
          have hstp : stp (σ.1 (r + 4)) st p = bin (-p) st := by
            unfold stp
            rw [if_pos hneg]
            rcases hj with hj | hj
            · rw [if_neg hj]
            · rw [hj]
              split <;> rfl
          rcases st with _ | ⟨b, _ | ⟨a, rest⟩⟩
          · rw [if_pos (by decide)]
            exact go [] w (by rw [hstp]; rfl) (by show 0 ≤ _; omega) w2
          · rw [if_pos (by show mI (0 + 1) ≤ 1; decide)]
            exact go [b] w (by rw [hstp]; rfl) (by show 0 + 1 ≤ _; omega) w2
          · have hlen : (b :: a :: rest).length = rest.length + 1 + 1 := rfl
            rw [hlen] at w1
            obtain ⟨t1, t2⟩ := skA_top (v := b) w2
            have w3 : skA w (a :: rest) := fun j hj => by
              have := w2 j (by show j < rest.length + 1 + 1; have : j < rest.length + 1 := hj; omega)
              rw [this]
              show nth (b :: a :: rest) (rest.length + 1 + 1 - 1 - j) = nth (a :: rest) (rest.length + 1 - 1 - j)
              have hj : j < rest.length + 1 := hj
              rw [show rest.length + 1 + 1 - 1 - j = (rest.length + 1 - 1 - j) + 1 by omega, nth_s]
            obtain ⟨t3, t4⟩ := skA_top (v := jnd a (-p) b) w3
            have em : mI (rest.length + 1 + 1) + (-1) = mI (rest.length + 1) := by rw [show (-1 : Int32) = -(1 : Int32) from rfl, ← Int32.sub_eq_add_neg, mI_pred (by omega) (by omega)]; rfl
            rw [hlen, if_neg (rnle 1 1 rfl (by omega) (by omega) (by omega)), em, mI_pred (by omega) (by omega), show rest.length + 1 - 1 = rest.length by omega, rr_3 hr (by omega), o_bind, rr_3 hr (by omega), o_bind, q_Is, t3, show w (rest.length + 1) = b from t1, c_joined, o_bind, rw_3 hr (by omega), o_bind, s_p]
            exact go (jnd a (-p) b :: rest) _ (by rw [hstp]; rfl) (by show rest.length + 1 ≤ _; omega) t4
        by_cases h126 : p = -126
        · rw [if_pos h126]
          rcases st with _ | ⟨a, rest⟩
          · rw [if_pos (by decide)]
            exact join (Or.inr rfl)
          · have hlen : (a :: rest).length = rest.length + 1 := rfl
            rw [hlen] at w1
            obtain ⟨t3, t4⟩ := skA_top (v := -a) w2
            rw [hlen, if_neg (rnle 0 0 rfl (by omega) (by omega) (by omega)), mI_pred (by omega) (by omega), show rest.length + 1 - 1 = rest.length by omega, rr_3 hr (by omega), o_bind, q_Is, t3, rw_3 hr (by omega), o_bind, s_p]
            exact go (-a :: rest) _ (by unfold stp; rw [if_pos hneg, if_pos h126]; rfl) (by show rest.length + 1 ≤ _; omega) t4
        · rw [if_neg h126]
          exact join (Or.inl h126)
      · rw [if_neg hneg]
        have push : ∀ x, stp (σ.1 (r + 4)) st p = x :: st → ok ((u_wI ZC (u_sI σ (r + 3) w) 0 (r + 3) (mI st.length) x).bind fun s25 => rec s25 (mI (st.length + 1)) (mI (i + 1))) (fun z => z.1 = v ∧ ∃ w, z.2 = u_sI σ (r + 3) w) := fun x hx => by
          rw [rw_3 hr (by omega), o_bind, s_p]
          exact go (x :: st) _ hx (by show st.length + 1 ≤ _; omega) (skA_push w2)
        by_cases h1000 : 1000 ≤ p
        · rw [if_pos h1000, c_thing hr, o_bind, ef]
          exact push _ (by unfold stp; rw [if_neg hneg, if_pos h1000])
        · rw [if_neg h1000]
          exact push _ (by unfold stp; rw [if_neg hneg, if_neg h1000])
    · have hie : i = c.length := by omega
      subst hie
      rw [List.take_length, hv] at w2
      rw [if_pos (mle (by omega) (by omega) (Nat.le_refl _))]
      show ok ((u_rI ZC (u_sI σ (r + 3) w) 0 (r + 3) 0).bind fun v3 => some (v3, u_sI σ (r + 3) w)) _
      rw [rr_30 hr, o_bind, ok_some, q_Is]
      have := w2 0 (by show 0 < 1; omega)
      exact ⟨this, w, rfl⟩
  obtain ⟨z, h1, h2, w, h3⟩ := h
  exact ⟨w, by rw [h1, ← h2, ← h3]⟩
/-- what a code means -/
def cdF (c : List Int32) : (Nat → Int32) → Int32 := fun f => (runC f c []).headD 0
theorem cdF_eq {c : List Int32} {f : Nat → Int32} {v : Int32} (h : runC f c [] = [v]) : cdF c f = v := by unfold cdF; rw [h]; rfl
theorem cdF_cong (c : List Int32) : gcong (cdF c) := fun f f' h => by
  unfold cdF
  rw [run_congr c [] (fun x _ k hk _ => h k hk)]
theorem cdF_day {c : List Int32} (hc : ∀ x, x ∈ c → x ≠ mI 1005) : ∀ f f' : Nat → Int32, (∀ k, k < 7 → k ≠ 5 → f k = f' k) → cdF c f = cdF c f' := fun f f' h => by
  unfold cdF
  rw [run_congr c [] (fun x hx k hk he => h k hk (fun h5 => hc x hx (by rw [he, h5])))]
theorem ruleC_of {N r : Nat} {σ s : uS} {c : List Int32} {dg cm bt : Int32} {d : Nat} (hr : r = 22 ∨ r = 27) (h : cSt σ s r c [] dg d cm bt) (hl : c.length ≤ 40) (hv : ∀ f : Nat → Int32, ∃ v, ∀ st, runC f c st = v :: st) (hN : 500 < N) : cR N s r (some (cdF c)) := by
  obtain ⟨h4, hC, h5, hW, h6, h7, h8, h9, h10, hD, hX⟩ := h
  have hne : 0 < c.length := by
    obtain ⟨v, hv⟩ := hv (fun _ => 0)
    cases c with
    | nil => have := hv []; cases this
    | cons a l => show 0 < l.length + 1; omega
  refine ⟨hr, ⟨?_, cdF_cong c, fun σ' e1 e4 => ?_⟩, fun h0 g hg f f' hff => ?_⟩
  · rw [h4, show (0 : Int32) = mI 0 from rfl, ne_eq, mI_eq (by omega) (by omega)]; omega
  · obtain ⟨v, hv⟩ := hv (σ'.1 (r + 4))
    obtain ⟨w, hw⟩ := c_worked (N := N) (σ := σ') (c := c) (v := v) hr hl (by rw [e4]; exact h4) (fun i hi => by rw [e1]; exact hC i hi) (hv []) hN
    exact ⟨w, by rw [hw, cdF_eq (hv [])]⟩
  · cases hg
    exact cdF_day (hD h0) f f' hff
theorem hh_congr {x y : Nat → Int32} {n top : Nat} (h : ∀ k, k < n → x k = y k) : hh x n top = hh y n top := by
  funext p
  by_cases hp : p < n ∧ p < top
  · rw [hh_in hp, hh_in hp, h p hp.1]
  · rw [hh_out hp, hh_out hp]
theorem ruleM_of {N q n : Nat} {x bytes : Nat → Int32} {c : List Int32} (hq : q = 6 ∨ q = 7) (hn0 : 0 < n) (hn : n ≤ 40) (hb : ∀ k, k < n → u_nar 2 (x k) = x k) (hx : ∀ k, k < n → bytes k = x k) (hp : pX (hh x n 40) 100 0 0 0 = (n, some c)) (hN : 500 < N) : RuleM N q bytes (mI n) (some (cdF c)) := by
  refine ⟨n, rfl, hn0, hn, cdF_cong c, fun σ e1 e2 e3 e4 e5 e6 e7 => ?_⟩
  have hB : mBase σ q n := ⟨Or.inr ⟨hq, hn⟩, e2, e3, by rw [e4]; rfl, e6, fun k hk => by rw [e1 k hk, hx k hk]; exact hb k hk⟩
  have hat : atS σ 0 = σ := by
    unfold atS
    rw [show mI 0 = σ.1 0 12 by rw [e5]; rfl]
    exact p_self _ _ _
  have hh2 : hh (σ.1 q) n 40 = hh x n 40 := hh_congr (fun k hk => by rw [e1 k hk, hx k hk])
  obtain ⟨v, r1, -⟩ := exprR hB hN 100 0 0 0 (by omega) (by omega) (by omega) (by unfold need; omega)
  rw [hh2] at r1
  obtain ⟨g1, g2, g3, g4⟩ := r1 n c hp
  rw [hat] at g1
  have ha : askF σ = σ.1 8 := by
    funext k
    unfold askF
    rw [e7, if_neg n10]
  rw [ha] at g2
  refine ⟨mI n, ?_⟩
  unfold f_X12_held
  rw [show (0 : Int32) = mI 0 from rfl, g1, cdF_eq (g2 [])]
  rfl
