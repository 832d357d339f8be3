/-! PURE LAYER: numbers, loops, reads and writes -/
abbrev mI (k : Nat) : Int32 := Int32.ofNat k
theorem mI_int {k : Nat} (h : k < 1000000) : (mI k).toInt = k := Int32.toInt_ofNat_of_lt (by omega)
theorem mI_nat {k : Nat} (h : k < 1000000) : (mI k).toNatClampNeg = k := by
  show (mI k).toInt.toNat = k
  rw [mI_int h]; omega
theorem mI_le {a b : Nat} (ha : a < 1000000) (hb : b < 1000000) : (mI a ≤ mI b) = (a ≤ b) := by
  apply propext
  rw [Int32.le_iff_toInt_le, mI_int ha, mI_int hb]; omega
theorem mI_lt {a b : Nat} (ha : a < 1000000) (hb : b < 1000000) : (mI a < mI b) = (a < b) := by
  apply propext
  rw [Int32.lt_iff_toInt_lt, mI_int ha, mI_int hb]; omega
theorem mI_eq {a b : Nat} (ha : a < 1000000) (hb : b < 1000000) : (mI a = mI b) = (a = b) := by
  apply propext
  constructor
  · intro h
    have := congrArg Int32.toInt h
    rw [mI_int ha, mI_int hb] at this; omega
  · intro h; rw [h]
theorem mI_add (a b : Nat) : mI a + mI b = mI (a + b) := (Int32.ofNat_add a b).symm
theorem mI_succ (a : Nat) : mI a + 1 = mI (a + 1) := mI_add a 1
theorem mI_8 (a : Nat) : (8 : Int32) + mI a = mI (8 + a) := mI_add 8 a
theorem mI_16 (a : Nat) : (16 : Int32) + mI a = mI (16 + a) := mI_add 16 a
theorem mI_lit0 : mI 0 = 0 := rfl
theorem mI_len (n : Nat) : Int32.ofNat n = mI n := rfl
theorem mI_n0 {k : Nat} (h : k < 1000000) : ¬ mI k < 0 := by
  rw [show (0 : Int32) = mI 0 from rfl, mI_lt h (by omega)]; omega
theorem o_bind {α β : Type} (a : α) (f : α → Option β) : (some a).bind f = f a := rfl
theorem o_ck {α : Type} {c : Prop} {i : Decidable c} {x : Option α} (h : c) : @u_ck α c i x = x := by unfold u_ck; rw [if_pos h]
theorem o_nck {α : Type} {x : Option α} {i : Decidable (¬ False)} : @u_ck α (¬ False) i x = x := o_ck (fun h => h)
theorem o_ckT {α : Type} {x : Option α} {i : Decidable True} : @u_ck α True i x = x := o_ck trivial
theorem o_if {α : Type} {c : Prop} {i : Decidable c} {x y : α} (h : c) : @ite α c i x y = x := if_pos h
theorem o_ifn {α : Type} {c : Prop} {i : Decidable c} {x y : α} (h : ¬ c) : @ite α c i x y = y := if_neg h
theorem i10 : ((1 : Int32) = 0) = False := eq_false (by decide)
/-- it comes to something, of which P holds -/
def ok {α : Type} (x : Option α) (P : α → Prop) : Prop := ∃ z, x = some z ∧ P z
theorem ok_some {α : Type} {a : α} {P : α → Prop} : ok (some a) P = P a := propext ⟨fun ⟨z, h, hp⟩ => by cases h; exact hp, fun h => ⟨a, rfl, h⟩⟩
theorem ok_of {α : Type} {x : Option α} {a : α} {P : α → Prop} (h : x = some a) (hp : P a) : ok x P := ⟨a, h, hp⟩
theorem ok_bind {α β : Type} {x : Option α} {f : α → Option β} {P : β → Prop} : ok (x.bind f) P = ok x (fun a => ok (f a) P) := by
  apply propext
  constructor
  · rintro ⟨z, h, hp⟩
    cases x with
    | none => cases h
    | some a => exact ⟨a, rfl, z, h, hp⟩
  · rintro ⟨a, rfl, z, h, hp⟩
    exact ⟨z, h, hp⟩
theorem ok_mono {α : Type} {x : Option α} {P Q : α → Prop} (h : ok x P) (hpq : ∀ a, P a → Q a) : ok x Q := by
  obtain ⟨z, h, hp⟩ := h
  exact ⟨z, h, hpq z hp⟩
theorem ok_if {α : Type} {c : Prop} {i : Decidable c} {x y : Option α} {P : α → Prop} (h1 : c → ok x P) (h2 : ¬ c → ok y P) : ok (@ite _ c i x y) P := by
  by_cases h : c
  · rw [if_pos h]; exact h1 h
  · rw [if_neg h]; exact h2 h
theorem ok_ck {α : Type} {c : Prop} {i : Decidable c} {x : Option α} {P : α → Prop} (h1 : c) (h2 : ok x P) : ok (@u_ck α c i x) P := by rw [o_ck h1]; exact h2
/-- rows -/
theorem r_I {Z : uZ} {σ : uS} {t a k n : Nat} (ha : a < Z.1) (hz : Z.2.1 a = .inl (t, n)) (hk : k < n) (hn : n < 1000000) : u_rI Z σ t a (mI k) = some (σ.1 a k) := by
  unfold u_rI
  rw [hz]
  have e := mI_nat (k := k) (by omega)
  have h0 := mI_n0 (k := k) (by omega)
  show (if a < Z.1 ∧ t = t ∧ ¬ (mI k < 0 ∨ n ≤ (mI k).toNatClampNeg) then _ else _) = _
  rw [e, if_pos ⟨ha, rfl, fun h => h.elim h0 (fun h => absurd hk (Nat.not_lt.mpr h))⟩]
theorem r_L {Z : uZ} {σ : uS} {a k n : Nat} (ha : a < Z.1) (hz : Z.2.1 a = .inl (1, n)) (hk : k < n) (hn : n < 1000000) : u_rL Z σ a (mI k) = some (σ.2.1 a k) := by
  unfold u_rL
  rw [hz]
  have e := mI_nat (k := k) (by omega)
  have h0 := mI_n0 (k := k) (by omega)
  show (if a < Z.1 ∧ 1 = 1 ∧ ¬ (mI k < 0 ∨ n ≤ (mI k).toNatClampNeg) then _ else _) = _
  rw [e, if_pos ⟨ha, rfl, fun h => h.elim h0 (fun h => absurd hk (Nat.not_lt.mpr h))⟩]
theorem w_I {Z : uZ} {σ : uS} {t a k n : Nat} {v : Int32} (ha : a < Z.1) (hz : Z.2.1 a = .inl (t, n)) (hk : k < n) (hn : n < 1000000) : u_wI Z σ t a (mI k) v = some (u_pI σ a k (u_nar t v)) := by
  unfold u_wI
  rw [hz]
  have e := mI_nat (k := k) (by omega)
  have h0 := mI_n0 (k := k) (by omega)
  show (if a < Z.1 ∧ t = t ∧ ¬ (mI k < 0 ∨ n ≤ (mI k).toNatClampNeg) then _ else _) = _
  rw [e, if_pos ⟨ha, rfl, fun h => h.elim h0 (fun h => absurd hk (Nat.not_lt.mpr h))⟩]
theorem w_L {Z : uZ} {σ : uS} {a k n : Nat} {v : Int64} (ha : a < Z.1) (hz : Z.2.1 a = .inl (1, n)) (hk : k < n) (hn : n < 1000000) : u_wL Z σ a (mI k) v = some (u_pL σ a k v) := by
  unfold u_wL
  rw [hz]
  have e := mI_nat (k := k) (by omega)
  have h0 := mI_n0 (k := k) (by omega)
  show (if a < Z.1 ∧ 1 = 1 ∧ ¬ (mI k < 0 ∨ n ≤ (mI k).toNatClampNeg) then _ else _) = _
  rw [e, if_pos ⟨ha, rfl, fun h => h.elim h0 (fun h => absurd hk (Nat.not_lt.mpr h))⟩]
theorem r_R {Z : uZ} {σ : uS} {a k n : Nat} (ha : a < Z.1) (hz : Z.2.1 a = .inl (4, n)) (hk : k < n) (hn : n < 1000000) : u_rR Z σ a (mI k) = σ.2.2 a k := by
  unfold u_rR
  rw [hz]
  have e := mI_nat (k := k) (by omega)
  have h0 := mI_n0 (k := k) (by omega)
  show (if a < Z.1 ∧ 4 = 4 ∧ ¬ (mI k < 0 ∨ n ≤ (mI k).toNatClampNeg) then _ else _) = _
  rw [e, if_pos ⟨ha, rfl, fun h => h.elim h0 (fun h => absurd hk (Nat.not_lt.mpr h))⟩]
theorem w_R {Z : uZ} {σ : uS} {a k n v : Nat} (ha : a < Z.1) (hz : Z.2.1 a = .inl (4, n)) (hk : k < n) (hn : n < 1000000) : u_wR Z σ a (mI k) v = some (u_pR σ a k (some v)) := by
  unfold u_wR
  rw [hz]
  have e := mI_nat (k := k) (by omega)
  have h0 := mI_n0 (k := k) (by omega)
  show (if a < Z.1 ∧ 4 = 4 ∧ ¬ (mI k < 0 ∨ n ≤ (mI k).toNatClampNeg) then _ else _) = _
  rw [e, if_pos ⟨ha, rfl, fun h => h.elim h0 (fun h => absurd hk (Nat.not_lt.mpr h))⟩]
theorem nar0 (v : Int32) : u_nar 0 v = v := rfl
/-- what is read behind a write -/
theorem p_II (σ : uS) (a k : Nat) (v : Int32) : (u_pI σ a k v).1 a k = v := by simp [u_pI, u_sI, upd]
theorem p_In {σ : uS} {a k : Nat} {v : Int32} {b j : Nat} (h : b ≠ a ∨ j ≠ k) : (u_pI σ a k v).1 b j = σ.1 b j := by
  unfold u_pI u_sI upd
  by_cases hb : b = a
  · subst hb
    have hj : j ≠ k := h.elim (fun h => absurd rfl h) id
    simp [hj]
  · simp [hb]
theorem p_IL (σ : uS) (a k : Nat) (v : Int32) : (u_pI σ a k v).2 = σ.2 := rfl
theorem p_LI (σ : uS) (a k : Nat) (v : Int64) : (u_pL σ a k v).1 = σ.1 := rfl
theorem p_LR (σ : uS) (a k : Nat) (v : Int64) : (u_pL σ a k v).2.2 = σ.2.2 := rfl
theorem p_LL (σ : uS) (a k : Nat) (v : Int64) : (u_pL σ a k v).2.1 a k = v := by simp [u_pL, u_sL, vp_updL]
theorem p_Ln {σ : uS} {a k : Nat} {v : Int64} {b j : Nat} (h : b ≠ a ∨ j ≠ k) : (u_pL σ a k v).2.1 b j = σ.2.1 b j := by
  unfold u_pL u_sL vp_updL
  by_cases hb : b = a
  · subst hb
    have hj : j ≠ k := h.elim (fun h => absurd rfl h) id
    simp [hj]
  · simp [hb]
theorem p_RI (σ : uS) (a k : Nat) (v : Option Nat) : (u_pR σ a k v).1 = σ.1 := rfl
theorem p_RL (σ : uS) (a k : Nat) (v : Option Nat) : (u_pR σ a k v).2.1 = σ.2.1 := rfl
theorem p_RR (σ : uS) (a k : Nat) (v : Option Nat) : (u_pR σ a k v).2.2 a k = v := by simp [u_pR, u_sR, va_up]
theorem p_Rn {σ : uS} {a k : Nat} {v : Option Nat} {b j : Nat} (h : b ≠ a ∨ j ≠ k) : (u_pR σ a k v).2.2 b j = σ.2.2 b j := by
  unfold u_pR u_sR va_up
  by_cases hb : b = a
  · subst hb
    have hj : j ≠ k := h.elim (fun h => absurd rfl h) id
    simp [hj]
  · simp [hb]
theorem mI_eq0 {a : Nat} (ha : a < 1000000) : (mI a = 0) = (a = 0) := mI_eq (b := 0) ha (by decide)
theorem p_Ia {σ : uS} {a k : Nat} {v : Int32} {b : Nat} (h : b ≠ a) : (u_pI σ a k v).1 b = σ.1 b := funext (fun j => p_In (Or.inl h))
theorem p_Is {σ : uS} {a k j : Nat} {v : Int32} (h : j ≠ k) : (u_pI σ a k v).1 a j = σ.1 a j := p_In (Or.inr h)
theorem q_Ia {σ : uS} {a : Nat} {f : Nat → Int32} {b : Nat} (h : b ≠ a) : (u_sI σ a f).1 b = σ.1 b := by simp [u_sI, h]
theorem q_Is {σ : uS} {a : Nat} {f : Nat → Int32} : (u_sI σ a f).1 a = f := by simp [u_sI]
theorem q_IL {σ : uS} {a : Nat} {f : Nat → Int32} : (u_sI σ a f).2 = σ.2 := rfl
/-- only some cells of ints changed -/
def fr (S : Nat → Prop) (σ σ' : uS) : Prop := (∀ a, ¬ S a → σ'.1 a = σ.1 a) ∧ σ'.2 = σ.2
theorem fr.rfl {S : Nat → Prop} {σ : uS} : fr S σ σ := ⟨fun _ _ => Eq.refl _, Eq.refl _⟩
theorem fr.trans {S T : Nat → Prop} {σ σ' σ'' : uS} (h1 : fr S σ σ') (h2 : fr T σ' σ'') : fr (fun a => S a ∨ T a) σ σ'' := ⟨fun a h => (h2.1 a (fun t => h (Or.inr t))).trans (h1.1 a (fun t => h (Or.inl t))), h2.2.trans h1.2⟩
theorem fr.mono {S T : Nat → Prop} {σ σ' : uS} (h : fr S σ σ') (hs : ∀ a, S a → T a) : fr T σ σ' := ⟨fun a ha => h.1 a (fun t => ha (hs a t)), h.2⟩
theorem fr.pI {S : Nat → Prop} {σ σ' : uS} {a k : Nat} {v : Int32} (h : fr S σ σ') (ha : S a) : fr S σ (u_pI σ' a k v) := ⟨fun b hb => (p_Ia (a := a) (b := b) (fun e => hb (by rw [e]; exact ha))).trans (h.1 b hb), h.2⟩
theorem fr.sI {S : Nat → Prop} {σ σ' : uS} {a : Nat} {f : Nat → Int32} (h : fr S σ σ') (ha : S a) : fr S σ (u_sI σ' a f) := ⟨fun b hb => (q_Ia (a := a) (b := b) (fun e => hb (by rw [e]; exact ha))).trans (h.1 b hb), h.2⟩
theorem lp1_eq {a1 : Type} {β : Type} {B : (a1 → Option β) → a1 → Option β} (x1 : Nat → a1) (n N : Nat) (R : Option β) (hN : n < N) (hs : ∀ (k : Nat) (rec : a1 → Option β), k < n → B rec (x1 k) = rec (x1 (k + 1))) (he : ∀ rec : a1 → Option β, B rec (x1 n) = R) : u_lp1 B N (x1 0) = R := by
  have h : ∀ (d M : Nat), d ≤ n → d < M → u_lp1 B M (x1 (n - d)) = R := by
    intro d
    induction d with
    | zero =>
      intro M _ hM
      obtain ⟨M, rfl⟩ : ∃ m, M = m + 1 := ⟨M - 1, by omega⟩
      exact he _
    | succ d ih =>
      intro M hd hM
      obtain ⟨M, rfl⟩ : ∃ m, M = m + 1 := ⟨M - 1, by omega⟩
      show B (u_lp1 B M) (x1 (n - (d + 1))) = R
      rw [hs (n - (d + 1)) _ (by omega), show n - (d + 1) + 1 = n - d by omega]
      exact ih M (by omega) (by omega)
  have h0 := h n N (Nat.le_refl _) hN
  rwa [Nat.sub_self] at h0
theorem lp1_tr {a1 : Type} {β : Type} {B : (a1 → Option β) → a1 → Option β} {P : β → Prop} (x1 : Nat → a1) (n N : Nat) (hN : n < N) (hs : ∀ (k : Nat) (rec : a1 → Option β), k < n → B rec (x1 k) = rec (x1 (k + 1))) (he : ∀ rec : a1 → Option β, ok (B rec (x1 n)) P) : ok (u_lp1 B N (x1 0)) P := by
  have h : ∀ (d M : Nat), d ≤ n → d < M → ok (u_lp1 B M (x1 (n - d))) P := by
    intro d
    induction d with
    | zero =>
      intro M _ hM
      obtain ⟨M, rfl⟩ : ∃ m, M = m + 1 := ⟨M - 1, by omega⟩
      exact he _
    | succ d ih =>
      intro M hd hM
      obtain ⟨M, rfl⟩ : ∃ m, M = m + 1 := ⟨M - 1, by omega⟩
      show ok (B (u_lp1 B M) (x1 (n - (d + 1)))) P
      rw [hs (n - (d + 1)) _ (by omega), show n - (d + 1) + 1 = n - d by omega]
      exact ih M (by omega) (by omega)
  have h0 := h n N (Nat.le_refl _) hN
  rwa [Nat.sub_self] at h0
theorem lp1_ok {a1 : Type} {β : Type} {B : (a1 → Option β) → a1 → Option β} {P : β → Prop} (I : Nat → a1 → Prop) (n N : Nat) (x1 : a1) (hN : n < N) (hs : ∀ (j : Nat) (y1 : a1) (rec : a1 → Option β), j ≤ n → I j y1 → (∀ (z1 : a1), j < n → I (j + 1) z1 → ok (rec z1) P) → ok (B rec y1) P) (h0 : I 0 x1) : ok (u_lp1 B N x1) P := by
  have h : ∀ (d M j : Nat) (y1 : a1), j + d = n → d < M → I j y1 → ok (u_lp1 B M y1) P := by
    intro d
    induction d with
    | zero =>
      intro M j y1 hj hM hI
      obtain ⟨M, rfl⟩ : ∃ m, M = m + 1 := ⟨M - 1, by omega⟩
      exact hs j y1 _ (by omega) hI (fun z1 hlt => absurd hlt (by omega))
    | succ d ih =>
      intro M j y1 hj hM hI
      obtain ⟨M, rfl⟩ : ∃ m, M = m + 1 := ⟨M - 1, by omega⟩
      exact hs j y1 _ (by omega) hI (fun z1 hlt hI2 => ih M (j + 1) z1 (by omega) (by omega) hI2)
  exact h n N 0 x1 (by omega) hN h0
theorem lp2_eq {a1 : Type} {a2 : Type} {β : Type} {B : (a1 → a2 → Option β) → a1 → a2 → Option β} (x1 : Nat → a1) (x2 : Nat → a2) (n N : Nat) (R : Option β) (hN : n < N) (hs : ∀ (k : Nat) (rec : a1 → a2 → Option β), k < n → B rec (x1 k) (x2 k) = rec (x1 (k + 1)) (x2 (k + 1))) (he : ∀ rec : a1 → a2 → Option β, B rec (x1 n) (x2 n) = R) : u_lp2 B N (x1 0) (x2 0) = R := by
  have h : ∀ (d M : Nat), d ≤ n → d < M → u_lp2 B M (x1 (n - d)) (x2 (n - d)) = R := by
    intro d
    induction d with
    | zero =>
      intro M _ hM
      obtain ⟨M, rfl⟩ : ∃ m, M = m + 1 := ⟨M - 1, by omega⟩
      exact he _
    | succ d ih =>
      intro M hd hM
      obtain ⟨M, rfl⟩ : ∃ m, M = m + 1 := ⟨M - 1, by omega⟩
      show B (u_lp2 B M) (x1 (n - (d + 1))) (x2 (n - (d + 1))) = R
      rw [hs (n - (d + 1)) _ (by omega), show n - (d + 1) + 1 = n - d by omega]
      exact ih M (by omega) (by omega)
  have h0 := h n N (Nat.le_refl _) hN
  rwa [Nat.sub_self] at h0
theorem lp2_tr {a1 : Type} {a2 : Type} {β : Type} {B : (a1 → a2 → Option β) → a1 → a2 → Option β} {P : β → Prop} (x1 : Nat → a1) (x2 : Nat → a2) (n N : Nat) (hN : n < N) (hs : ∀ (k : Nat) (rec : a1 → a2 → Option β), k < n → B rec (x1 k) (x2 k) = rec (x1 (k + 1)) (x2 (k + 1))) (he : ∀ rec : a1 → a2 → Option β, ok (B rec (x1 n) (x2 n)) P) : ok (u_lp2 B N (x1 0) (x2 0)) P := by
  have h : ∀ (d M : Nat), d ≤ n → d < M → ok (u_lp2 B M (x1 (n - d)) (x2 (n - d))) P := by
    intro d
    induction d with
    | zero =>
      intro M _ hM
      obtain ⟨M, rfl⟩ : ∃ m, M = m + 1 := ⟨M - 1, by omega⟩
      exact he _
    | succ d ih =>
      intro M hd hM
      obtain ⟨M, rfl⟩ : ∃ m, M = m + 1 := ⟨M - 1, by omega⟩
      show ok (B (u_lp2 B M) (x1 (n - (d + 1))) (x2 (n - (d + 1)))) P
      rw [hs (n - (d + 1)) _ (by omega), show n - (d + 1) + 1 = n - d by omega]
      exact ih M (by omega) (by omega)
  have h0 := h n N (Nat.le_refl _) hN
  rwa [Nat.sub_self] at h0
theorem lp2_ok {a1 : Type} {a2 : Type} {β : Type} {B : (a1 → a2 → Option β) → a1 → a2 → Option β} {P : β → Prop} (I : Nat → a1 → a2 → Prop) (n N : Nat) (x1 : a1) (x2 : a2) (hN : n < N) (hs : ∀ (j : Nat) (y1 : a1) (y2 : a2) (rec : a1 → a2 → Option β), j ≤ n → I j y1 y2 → (∀ (z1 : a1) (z2 : a2), j < n → I (j + 1) z1 z2 → ok (rec z1 z2) P) → ok (B rec y1 y2) P) (h0 : I 0 x1 x2) : ok (u_lp2 B N x1 x2) P := by
  have h : ∀ (d M j : Nat) (y1 : a1) (y2 : a2), j + d = n → d < M → I j y1 y2 → ok (u_lp2 B M y1 y2) P := by
    intro d
    induction d with
    | zero =>
      intro M j y1 y2 hj hM hI
      obtain ⟨M, rfl⟩ : ∃ m, M = m + 1 := ⟨M - 1, by omega⟩
      exact hs j y1 y2 _ (by omega) hI (fun z1 z2 hlt => absurd hlt (by omega))
    | succ d ih =>
      intro M j y1 y2 hj hM hI
      obtain ⟨M, rfl⟩ : ∃ m, M = m + 1 := ⟨M - 1, by omega⟩
      exact hs j y1 y2 _ (by omega) hI (fun z1 z2 hlt hI2 => ih M (j + 1) z1 z2 (by omega) (by omega) hI2)
  exact h n N 0 x1 x2 (by omega) hN h0
theorem lp3_eq {a1 : Type} {a2 : Type} {a3 : Type} {β : Type} {B : (a1 → a2 → a3 → Option β) → a1 → a2 → a3 → Option β} (x1 : Nat → a1) (x2 : Nat → a2) (x3 : Nat → a3) (n N : Nat) (R : Option β) (hN : n < N) (hs : ∀ (k : Nat) (rec : a1 → a2 → a3 → Option β), k < n → B rec (x1 k) (x2 k) (x3 k) = rec (x1 (k + 1)) (x2 (k + 1)) (x3 (k + 1))) (he : ∀ rec : a1 → a2 → a3 → Option β, B rec (x1 n) (x2 n) (x3 n) = R) : u_lp3 B N (x1 0) (x2 0) (x3 0) = R := by
  have h : ∀ (d M : Nat), d ≤ n → d < M → u_lp3 B M (x1 (n - d)) (x2 (n - d)) (x3 (n - d)) = R := by
    intro d
    induction d with
    | zero =>
      intro M _ hM
      obtain ⟨M, rfl⟩ : ∃ m, M = m + 1 := ⟨M - 1, by omega⟩
      exact he _
    | succ d ih =>
      intro M hd hM
      obtain ⟨M, rfl⟩ : ∃ m, M = m + 1 := ⟨M - 1, by omega⟩
      show B (u_lp3 B M) (x1 (n - (d + 1))) (x2 (n - (d + 1))) (x3 (n - (d + 1))) = R
      rw [hs (n - (d + 1)) _ (by omega), show n - (d + 1) + 1 = n - d by omega]
      exact ih M (by omega) (by omega)
  have h0 := h n N (Nat.le_refl _) hN
  rwa [Nat.sub_self] at h0
theorem lp3_tr {a1 : Type} {a2 : Type} {a3 : Type} {β : Type} {B : (a1 → a2 → a3 → Option β) → a1 → a2 → a3 → Option β} {P : β → Prop} (x1 : Nat → a1) (x2 : Nat → a2) (x3 : Nat → a3) (n N : Nat) (hN : n < N) (hs : ∀ (k : Nat) (rec : a1 → a2 → a3 → Option β), k < n → B rec (x1 k) (x2 k) (x3 k) = rec (x1 (k + 1)) (x2 (k + 1)) (x3 (k + 1))) (he : ∀ rec : a1 → a2 → a3 → Option β, ok (B rec (x1 n) (x2 n) (x3 n)) P) : ok (u_lp3 B N (x1 0) (x2 0) (x3 0)) P := by
  have h : ∀ (d M : Nat), d ≤ n → d < M → ok (u_lp3 B M (x1 (n - d)) (x2 (n - d)) (x3 (n - d))) P := by
    intro d
    induction d with
    | zero =>
      intro M _ hM
      obtain ⟨M, rfl⟩ : ∃ m, M = m + 1 := ⟨M - 1, by omega⟩
      exact he _
    | succ d ih =>
      intro M hd hM
      obtain ⟨M, rfl⟩ : ∃ m, M = m + 1 := ⟨M - 1, by omega⟩
      show ok (B (u_lp3 B M) (x1 (n - (d + 1))) (x2 (n - (d + 1))) (x3 (n - (d + 1)))) P
      rw [hs (n - (d + 1)) _ (by omega), show n - (d + 1) + 1 = n - d by omega]
      exact ih M (by omega) (by omega)
  have h0 := h n N (Nat.le_refl _) hN
  rwa [Nat.sub_self] at h0
theorem lp3_ok {a1 : Type} {a2 : Type} {a3 : Type} {β : Type} {B : (a1 → a2 → a3 → Option β) → a1 → a2 → a3 → Option β} {P : β → Prop} (I : Nat → a1 → a2 → a3 → Prop) (n N : Nat) (x1 : a1) (x2 : a2) (x3 : a3) (hN : n < N) (hs : ∀ (j : Nat) (y1 : a1) (y2 : a2) (y3 : a3) (rec : a1 → a2 → a3 → Option β), j ≤ n → I j y1 y2 y3 → (∀ (z1 : a1) (z2 : a2) (z3 : a3), j < n → I (j + 1) z1 z2 z3 → ok (rec z1 z2 z3) P) → ok (B rec y1 y2 y3) P) (h0 : I 0 x1 x2 x3) : ok (u_lp3 B N x1 x2 x3) P := by
  have h : ∀ (d M j : Nat) (y1 : a1) (y2 : a2) (y3 : a3), j + d = n → d < M → I j y1 y2 y3 → ok (u_lp3 B M y1 y2 y3) P := by
    intro d
    induction d with
    | zero =>
      intro M j y1 y2 y3 hj hM hI
      obtain ⟨M, rfl⟩ : ∃ m, M = m + 1 := ⟨M - 1, by omega⟩
      exact hs j y1 y2 y3 _ (by omega) hI (fun z1 z2 z3 hlt => absurd hlt (by omega))
    | succ d ih =>
      intro M j y1 y2 y3 hj hM hI
      obtain ⟨M, rfl⟩ : ∃ m, M = m + 1 := ⟨M - 1, by omega⟩
      exact hs j y1 y2 y3 _ (by omega) hI (fun z1 z2 z3 hlt hI2 => ih M (j + 1) z1 z2 z3 (by omega) (by omega) hI2)
  exact h n N 0 x1 x2 x3 (by omega) hN h0
theorem lp4_eq {a1 : Type} {a2 : Type} {a3 : Type} {a4 : Type} {β : Type} {B : (a1 → a2 → a3 → a4 → Option β) → a1 → a2 → a3 → a4 → Option β} (x1 : Nat → a1) (x2 : Nat → a2) (x3 : Nat → a3) (x4 : Nat → a4) (n N : Nat) (R : Option β) (hN : n < N) (hs : ∀ (k : Nat) (rec : a1 → a2 → a3 → a4 → Option β), k < n → B rec (x1 k) (x2 k) (x3 k) (x4 k) = rec (x1 (k + 1)) (x2 (k + 1)) (x3 (k + 1)) (x4 (k + 1))) (he : ∀ rec : a1 → a2 → a3 → a4 → Option β, B rec (x1 n) (x2 n) (x3 n) (x4 n) = R) : u_lp4 B N (x1 0) (x2 0) (x3 0) (x4 0) = R := by
  have h : ∀ (d M : Nat), d ≤ n → d < M → u_lp4 B M (x1 (n - d)) (x2 (n - d)) (x3 (n - d)) (x4 (n - d)) = R := by
    intro d
    induction d with
    | zero =>
      intro M _ hM
      obtain ⟨M, rfl⟩ : ∃ m, M = m + 1 := ⟨M - 1, by omega⟩
      exact he _
    | succ d ih =>
      intro M hd hM
      obtain ⟨M, rfl⟩ : ∃ m, M = m + 1 := ⟨M - 1, by omega⟩
      show B (u_lp4 B M) (x1 (n - (d + 1))) (x2 (n - (d + 1))) (x3 (n - (d + 1))) (x4 (n - (d + 1))) = R
      rw [hs (n - (d + 1)) _ (by omega), show n - (d + 1) + 1 = n - d by omega]
      exact ih M (by omega) (by omega)
  have h0 := h n N (Nat.le_refl _) hN
  rwa [Nat.sub_self] at h0
theorem lp4_tr {a1 : Type} {a2 : Type} {a3 : Type} {a4 : Type} {β : Type} {B : (a1 → a2 → a3 → a4 → Option β) → a1 → a2 → a3 → a4 → Option β} {P : β → Prop} (x1 : Nat → a1) (x2 : Nat → a2) (x3 : Nat → a3) (x4 : Nat → a4) (n N : Nat) (hN : n < N) (hs : ∀ (k : Nat) (rec : a1 → a2 → a3 → a4 → Option β), k < n → B rec (x1 k) (x2 k) (x3 k) (x4 k) = rec (x1 (k + 1)) (x2 (k + 1)) (x3 (k + 1)) (x4 (k + 1))) (he : ∀ rec : a1 → a2 → a3 → a4 → Option β, ok (B rec (x1 n) (x2 n) (x3 n) (x4 n)) P) : ok (u_lp4 B N (x1 0) (x2 0) (x3 0) (x4 0)) P := by
  have h : ∀ (d M : Nat), d ≤ n → d < M → ok (u_lp4 B M (x1 (n - d)) (x2 (n - d)) (x3 (n - d)) (x4 (n - d))) P := by
    intro d
    induction d with
    | zero =>
      intro M _ hM
      obtain ⟨M, rfl⟩ : ∃ m, M = m + 1 := ⟨M - 1, by omega⟩
      exact he _
    | succ d ih =>
      intro M hd hM
      obtain ⟨M, rfl⟩ : ∃ m, M = m + 1 := ⟨M - 1, by omega⟩
      show ok (B (u_lp4 B M) (x1 (n - (d + 1))) (x2 (n - (d + 1))) (x3 (n - (d + 1))) (x4 (n - (d + 1)))) P
      rw [hs (n - (d + 1)) _ (by omega), show n - (d + 1) + 1 = n - d by omega]
      exact ih M (by omega) (by omega)
  have h0 := h n N (Nat.le_refl _) hN
  rwa [Nat.sub_self] at h0
theorem lp4_ok {a1 : Type} {a2 : Type} {a3 : Type} {a4 : Type} {β : Type} {B : (a1 → a2 → a3 → a4 → Option β) → a1 → a2 → a3 → a4 → Option β} {P : β → Prop} (I : Nat → a1 → a2 → a3 → a4 → Prop) (n N : Nat) (x1 : a1) (x2 : a2) (x3 : a3) (x4 : a4) (hN : n < N) (hs : ∀ (j : Nat) (y1 : a1) (y2 : a2) (y3 : a3) (y4 : a4) (rec : a1 → a2 → a3 → a4 → Option β), j ≤ n → I j y1 y2 y3 y4 → (∀ (z1 : a1) (z2 : a2) (z3 : a3) (z4 : a4), j < n → I (j + 1) z1 z2 z3 z4 → ok (rec z1 z2 z3 z4) P) → ok (B rec y1 y2 y3 y4) P) (h0 : I 0 x1 x2 x3 x4) : ok (u_lp4 B N x1 x2 x3 x4) P := by
  have h : ∀ (d M j : Nat) (y1 : a1) (y2 : a2) (y3 : a3) (y4 : a4), j + d = n → d < M → I j y1 y2 y3 y4 → ok (u_lp4 B M y1 y2 y3 y4) P := by
    intro d
    induction d with
    | zero =>
      intro M j y1 y2 y3 y4 hj hM hI
      obtain ⟨M, rfl⟩ : ∃ m, M = m + 1 := ⟨M - 1, by omega⟩
      exact hs j y1 y2 y3 y4 _ (by omega) hI (fun z1 z2 z3 z4 hlt => absurd hlt (by omega))
    | succ d ih =>
      intro M j y1 y2 y3 y4 hj hM hI
      obtain ⟨M, rfl⟩ : ∃ m, M = m + 1 := ⟨M - 1, by omega⟩
      exact hs j y1 y2 y3 y4 _ (by omega) hI (fun z1 z2 z3 z4 hlt hI2 => ih M (j + 1) z1 z2 z3 z4 (by omega) (by omega) hI2)
  exact h n N 0 x1 x2 x3 x4 (by omega) hN h0
theorem lp5_eq {a1 : Type} {a2 : Type} {a3 : Type} {a4 : Type} {a5 : Type} {β : Type} {B : (a1 → a2 → a3 → a4 → a5 → Option β) → a1 → a2 → a3 → a4 → a5 → Option β} (x1 : Nat → a1) (x2 : Nat → a2) (x3 : Nat → a3) (x4 : Nat → a4) (x5 : Nat → a5) (n N : Nat) (R : Option β) (hN : n < N) (hs : ∀ (k : Nat) (rec : a1 → a2 → a3 → a4 → a5 → Option β), k < n → B rec (x1 k) (x2 k) (x3 k) (x4 k) (x5 k) = rec (x1 (k + 1)) (x2 (k + 1)) (x3 (k + 1)) (x4 (k + 1)) (x5 (k + 1))) (he : ∀ rec : a1 → a2 → a3 → a4 → a5 → Option β, B rec (x1 n) (x2 n) (x3 n) (x4 n) (x5 n) = R) : u_lp5 B N (x1 0) (x2 0) (x3 0) (x4 0) (x5 0) = R := by
  have h : ∀ (d M : Nat), d ≤ n → d < M → u_lp5 B M (x1 (n - d)) (x2 (n - d)) (x3 (n - d)) (x4 (n - d)) (x5 (n - d)) = R := by
    intro d
    induction d with
    | zero =>
      intro M _ hM
      obtain ⟨M, rfl⟩ : ∃ m, M = m + 1 := ⟨M - 1, by omega⟩
      exact he _
    | succ d ih =>
      intro M hd hM
      obtain ⟨M, rfl⟩ : ∃ m, M = m + 1 := ⟨M - 1, by omega⟩
      show B (u_lp5 B M) (x1 (n - (d + 1))) (x2 (n - (d + 1))) (x3 (n - (d + 1))) (x4 (n - (d + 1))) (x5 (n - (d + 1))) = R
      rw [hs (n - (d + 1)) _ (by omega), show n - (d + 1) + 1 = n - d by omega]
      exact ih M (by omega) (by omega)
  have h0 := h n N (Nat.le_refl _) hN
  rwa [Nat.sub_self] at h0
theorem lp5_tr {a1 : Type} {a2 : Type} {a3 : Type} {a4 : Type} {a5 : Type} {β : Type} {B : (a1 → a2 → a3 → a4 → a5 → Option β) → a1 → a2 → a3 → a4 → a5 → Option β} {P : β → Prop} (x1 : Nat → a1) (x2 : Nat → a2) (x3 : Nat → a3) (x4 : Nat → a4) (x5 : Nat → a5) (n N : Nat) (hN : n < N) (hs : ∀ (k : Nat) (rec : a1 → a2 → a3 → a4 → a5 → Option β), k < n → B rec (x1 k) (x2 k) (x3 k) (x4 k) (x5 k) = rec (x1 (k + 1)) (x2 (k + 1)) (x3 (k + 1)) (x4 (k + 1)) (x5 (k + 1))) (he : ∀ rec : a1 → a2 → a3 → a4 → a5 → Option β, ok (B rec (x1 n) (x2 n) (x3 n) (x4 n) (x5 n)) P) : ok (u_lp5 B N (x1 0) (x2 0) (x3 0) (x4 0) (x5 0)) P := by
  have h : ∀ (d M : Nat), d ≤ n → d < M → ok (u_lp5 B M (x1 (n - d)) (x2 (n - d)) (x3 (n - d)) (x4 (n - d)) (x5 (n - d))) P := by
    intro d
    induction d with
    | zero =>
      intro M _ hM
      obtain ⟨M, rfl⟩ : ∃ m, M = m + 1 := ⟨M - 1, by omega⟩
      exact he _
    | succ d ih =>
      intro M hd hM
      obtain ⟨M, rfl⟩ : ∃ m, M = m + 1 := ⟨M - 1, by omega⟩
      show ok (B (u_lp5 B M) (x1 (n - (d + 1))) (x2 (n - (d + 1))) (x3 (n - (d + 1))) (x4 (n - (d + 1))) (x5 (n - (d + 1)))) P
      rw [hs (n - (d + 1)) _ (by omega), show n - (d + 1) + 1 = n - d by omega]
      exact ih M (by omega) (by omega)
  have h0 := h n N (Nat.le_refl _) hN
  rwa [Nat.sub_self] at h0
theorem lp5_ok {a1 : Type} {a2 : Type} {a3 : Type} {a4 : Type} {a5 : Type} {β : Type} {B : (a1 → a2 → a3 → a4 → a5 → Option β) → a1 → a2 → a3 → a4 → a5 → Option β} {P : β → Prop} (I : Nat → a1 → a2 → a3 → a4 → a5 → Prop) (n N : Nat) (x1 : a1) (x2 : a2) (x3 : a3) (x4 : a4) (x5 : a5) (hN : n < N) (hs : ∀ (j : Nat) (y1 : a1) (y2 : a2) (y3 : a3) (y4 : a4) (y5 : a5) (rec : a1 → a2 → a3 → a4 → a5 → Option β), j ≤ n → I j y1 y2 y3 y4 y5 → (∀ (z1 : a1) (z2 : a2) (z3 : a3) (z4 : a4) (z5 : a5), j < n → I (j + 1) z1 z2 z3 z4 z5 → ok (rec z1 z2 z3 z4 z5) P) → ok (B rec y1 y2 y3 y4 y5) P) (h0 : I 0 x1 x2 x3 x4 x5) : ok (u_lp5 B N x1 x2 x3 x4 x5) P := by
  have h : ∀ (d M j : Nat) (y1 : a1) (y2 : a2) (y3 : a3) (y4 : a4) (y5 : a5), j + d = n → d < M → I j y1 y2 y3 y4 y5 → ok (u_lp5 B M y1 y2 y3 y4 y5) P := by
    intro d
    induction d with
    | zero =>
      intro M j y1 y2 y3 y4 y5 hj hM hI
      obtain ⟨M, rfl⟩ : ∃ m, M = m + 1 := ⟨M - 1, by omega⟩
      exact hs j y1 y2 y3 y4 y5 _ (by omega) hI (fun z1 z2 z3 z4 z5 hlt => absurd hlt (by omega))
    | succ d ih =>
      intro M j y1 y2 y3 y4 y5 hj hM hI
      obtain ⟨M, rfl⟩ : ∃ m, M = m + 1 := ⟨M - 1, by omega⟩
      exact hs j y1 y2 y3 y4 y5 _ (by omega) hI (fun z1 z2 z3 z4 z5 hlt hI2 => ih M (j + 1) z1 z2 z3 z4 z5 (by omega) (by omega) hI2)
  exact h n N 0 x1 x2 x3 x4 x5 (by omega) hN h0
theorem lp6_eq {a1 : Type} {a2 : Type} {a3 : Type} {a4 : Type} {a5 : Type} {a6 : Type} {β : Type} {B : (a1 → a2 → a3 → a4 → a5 → a6 → Option β) → a1 → a2 → a3 → a4 → a5 → a6 → Option β} (x1 : Nat → a1) (x2 : Nat → a2) (x3 : Nat → a3) (x4 : Nat → a4) (x5 : Nat → a5) (x6 : Nat → a6) (n N : Nat) (R : Option β) (hN : n < N) (hs : ∀ (k : Nat) (rec : a1 → a2 → a3 → a4 → a5 → a6 → Option β), k < n → B rec (x1 k) (x2 k) (x3 k) (x4 k) (x5 k) (x6 k) = rec (x1 (k + 1)) (x2 (k + 1)) (x3 (k + 1)) (x4 (k + 1)) (x5 (k + 1)) (x6 (k + 1))) (he : ∀ rec : a1 → a2 → a3 → a4 → a5 → a6 → Option β, B rec (x1 n) (x2 n) (x3 n) (x4 n) (x5 n) (x6 n) = R) : u_lp6 B N (x1 0) (x2 0) (x3 0) (x4 0) (x5 0) (x6 0) = R := by
  have h : ∀ (d M : Nat), d ≤ n → d < M → u_lp6 B M (x1 (n - d)) (x2 (n - d)) (x3 (n - d)) (x4 (n - d)) (x5 (n - d)) (x6 (n - d)) = R := by
    intro d
    induction d with
    | zero =>
      intro M _ hM
      obtain ⟨M, rfl⟩ : ∃ m, M = m + 1 := ⟨M - 1, by omega⟩
      exact he _
    | succ d ih =>
      intro M hd hM
      obtain ⟨M, rfl⟩ : ∃ m, M = m + 1 := ⟨M - 1, by omega⟩
      show B (u_lp6 B M) (x1 (n - (d + 1))) (x2 (n - (d + 1))) (x3 (n - (d + 1))) (x4 (n - (d + 1))) (x5 (n - (d + 1))) (x6 (n - (d + 1))) = R
      rw [hs (n - (d + 1)) _ (by omega), show n - (d + 1) + 1 = n - d by omega]
      exact ih M (by omega) (by omega)
  have h0 := h n N (Nat.le_refl _) hN
  rwa [Nat.sub_self] at h0
theorem lp6_tr {a1 : Type} {a2 : Type} {a3 : Type} {a4 : Type} {a5 : Type} {a6 : Type} {β : Type} {B : (a1 → a2 → a3 → a4 → a5 → a6 → Option β) → a1 → a2 → a3 → a4 → a5 → a6 → Option β} {P : β → Prop} (x1 : Nat → a1) (x2 : Nat → a2) (x3 : Nat → a3) (x4 : Nat → a4) (x5 : Nat → a5) (x6 : Nat → a6) (n N : Nat) (hN : n < N) (hs : ∀ (k : Nat) (rec : a1 → a2 → a3 → a4 → a5 → a6 → Option β), k < n → B rec (x1 k) (x2 k) (x3 k) (x4 k) (x5 k) (x6 k) = rec (x1 (k + 1)) (x2 (k + 1)) (x3 (k + 1)) (x4 (k + 1)) (x5 (k + 1)) (x6 (k + 1))) (he : ∀ rec : a1 → a2 → a3 → a4 → a5 → a6 → Option β, ok (B rec (x1 n) (x2 n) (x3 n) (x4 n) (x5 n) (x6 n)) P) : ok (u_lp6 B N (x1 0) (x2 0) (x3 0) (x4 0) (x5 0) (x6 0)) P := by
  have h : ∀ (d M : Nat), d ≤ n → d < M → ok (u_lp6 B M (x1 (n - d)) (x2 (n - d)) (x3 (n - d)) (x4 (n - d)) (x5 (n - d)) (x6 (n - d))) P := by
    intro d
    induction d with
    | zero =>
      intro M _ hM
      obtain ⟨M, rfl⟩ : ∃ m, M = m + 1 := ⟨M - 1, by omega⟩
      exact he _
    | succ d ih =>
      intro M hd hM
      obtain ⟨M, rfl⟩ : ∃ m, M = m + 1 := ⟨M - 1, by omega⟩
      show ok (B (u_lp6 B M) (x1 (n - (d + 1))) (x2 (n - (d + 1))) (x3 (n - (d + 1))) (x4 (n - (d + 1))) (x5 (n - (d + 1))) (x6 (n - (d + 1)))) P
      rw [hs (n - (d + 1)) _ (by omega), show n - (d + 1) + 1 = n - d by omega]
      exact ih M (by omega) (by omega)
  have h0 := h n N (Nat.le_refl _) hN
  rwa [Nat.sub_self] at h0
theorem lp6_ok {a1 : Type} {a2 : Type} {a3 : Type} {a4 : Type} {a5 : Type} {a6 : Type} {β : Type} {B : (a1 → a2 → a3 → a4 → a5 → a6 → Option β) → a1 → a2 → a3 → a4 → a5 → a6 → Option β} {P : β → Prop} (I : Nat → a1 → a2 → a3 → a4 → a5 → a6 → Prop) (n N : Nat) (x1 : a1) (x2 : a2) (x3 : a3) (x4 : a4) (x5 : a5) (x6 : a6) (hN : n < N) (hs : ∀ (j : Nat) (y1 : a1) (y2 : a2) (y3 : a3) (y4 : a4) (y5 : a5) (y6 : a6) (rec : a1 → a2 → a3 → a4 → a5 → a6 → Option β), j ≤ n → I j y1 y2 y3 y4 y5 y6 → (∀ (z1 : a1) (z2 : a2) (z3 : a3) (z4 : a4) (z5 : a5) (z6 : a6), j < n → I (j + 1) z1 z2 z3 z4 z5 z6 → ok (rec z1 z2 z3 z4 z5 z6) P) → ok (B rec y1 y2 y3 y4 y5 y6) P) (h0 : I 0 x1 x2 x3 x4 x5 x6) : ok (u_lp6 B N x1 x2 x3 x4 x5 x6) P := by
  have h : ∀ (d M j : Nat) (y1 : a1) (y2 : a2) (y3 : a3) (y4 : a4) (y5 : a5) (y6 : a6), j + d = n → d < M → I j y1 y2 y3 y4 y5 y6 → ok (u_lp6 B M y1 y2 y3 y4 y5 y6) P := by
    intro d
    induction d with
    | zero =>
      intro M j y1 y2 y3 y4 y5 y6 hj hM hI
      obtain ⟨M, rfl⟩ : ∃ m, M = m + 1 := ⟨M - 1, by omega⟩
      exact hs j y1 y2 y3 y4 y5 y6 _ (by omega) hI (fun z1 z2 z3 z4 z5 z6 hlt => absurd hlt (by omega))
    | succ d ih =>
      intro M j y1 y2 y3 y4 y5 y6 hj hM hI
      obtain ⟨M, rfl⟩ : ∃ m, M = m + 1 := ⟨M - 1, by omega⟩
      exact hs j y1 y2 y3 y4 y5 y6 _ (by omega) hI (fun z1 z2 z3 z4 z5 z6 hlt hI2 => ih M (j + 1) z1 z2 z3 z4 z5 z6 (by omega) (by omega) hI2)
  exact h n N 0 x1 x2 x3 x4 x5 x6 (by omega) hN h0
