/-! PURE LAYER: loops side by side; the row on trial -/
theorem ok_swap {α β : Type} {x : Option α} {y : Option β} {P : α → β → Prop} : ok x (fun a => ok y (fun b => P a b)) = ok y (fun b => ok x (fun a => P a b)) := propext ⟨fun ⟨a, h1, b, h2, h3⟩ => ⟨b, h2, a, h1, h3⟩, fun ⟨b, h1, a, h2, h3⟩ => ⟨a, h2, b, h1, h3⟩⟩
theorem lpr11 {a1 : Type} {b1 : Type} {β γ : Type} {B : (a1 → Option β) → a1 → Option β} {C : (b1 → Option γ) → b1 → Option γ} {P : β → γ → Prop} (I : Nat → a1 → b1 → Prop) (n N : Nat) (x1 : a1) (w1 : b1) (hN : n < N) (hs : ∀ (j : Nat) (y1 : a1) (z1 : b1) (rec : a1 → Option β) (rec2 : b1 → Option γ), j ≤ n → I j y1 z1 → (∀ (y1' : a1) (z1' : b1), j < n → I (j + 1) y1' z1' → ok (rec y1') (fun a => ok (rec2 z1') (fun b => P a b))) → ok (B rec y1) (fun a => ok (C rec2 z1) (fun b => P a b))) (h0 : I 0 x1 w1) : ok (u_lp1 B N x1) (fun a => ok (u_lp1 C N w1) (fun b => P a b)) := by
  have h : ∀ (d M j : Nat) (y1 : a1) (z1 : b1), j + d = n → d < M → I j y1 z1 → ok (u_lp1 B M y1) (fun a => ok (u_lp1 C M z1) (fun b => P a b)) := by
    intro d
    induction d with
    | zero =>
      intro M j y1 z1 hj hM hI
      obtain ⟨M, rfl⟩ : ∃ m, M = m + 1 := ⟨M - 1, by omega⟩
      exact hs j y1 z1 _ _ (by omega) hI (fun _ _ hlt => absurd hlt (by omega))
    | succ d ih =>
      intro M j y1 z1 hj hM hI
      obtain ⟨M, rfl⟩ : ∃ m, M = m + 1 := ⟨M - 1, by omega⟩
      exact hs j y1 z1 _ _ (by omega) hI (fun y1' z1' hlt hI2 => ih M (j + 1) y1' z1' (by omega) (by omega) hI2)
  exact h n N 0 x1 w1 (by omega) hN h0
theorem lpr22 {a1 : Type} {a2 : Type} {b1 : Type} {b2 : Type} {β γ : Type} {B : (a1 → a2 → Option β) → a1 → a2 → Option β} {C : (b1 → b2 → Option γ) → b1 → b2 → Option γ} {P : β → γ → Prop} (I : Nat → a1 → a2 → b1 → b2 → Prop) (n N : Nat) (x1 : a1) (x2 : a2) (w1 : b1) (w2 : b2) (hN : n < N) (hs : ∀ (j : Nat) (y1 : a1) (y2 : a2) (z1 : b1) (z2 : b2) (rec : a1 → a2 → Option β) (rec2 : b1 → b2 → Option γ), j ≤ n → I j y1 y2 z1 z2 → (∀ (y1' : a1) (y2' : a2) (z1' : b1) (z2' : b2), j < n → I (j + 1) y1' y2' z1' z2' → ok (rec y1' y2') (fun a => ok (rec2 z1' z2') (fun b => P a b))) → ok (B rec y1 y2) (fun a => ok (C rec2 z1 z2) (fun b => P a b))) (h0 : I 0 x1 x2 w1 w2) : ok (u_lp2 B N x1 x2) (fun a => ok (u_lp2 C N w1 w2) (fun b => P a b)) := by
  have h : ∀ (d M j : Nat) (y1 : a1) (y2 : a2) (z1 : b1) (z2 : b2), j + d = n → d < M → I j y1 y2 z1 z2 → ok (u_lp2 B M y1 y2) (fun a => ok (u_lp2 C M z1 z2) (fun b => P a b)) := by
    intro d
    induction d with
    | zero =>
      intro M j y1 y2 z1 z2 hj hM hI
      obtain ⟨M, rfl⟩ : ∃ m, M = m + 1 := ⟨M - 1, by omega⟩
      exact hs j y1 y2 z1 z2 _ _ (by omega) hI (fun _ _ _ _ hlt => absurd hlt (by omega))
    | succ d ih =>
      intro M j y1 y2 z1 z2 hj hM hI
      obtain ⟨M, rfl⟩ : ∃ m, M = m + 1 := ⟨M - 1, by omega⟩
      exact hs j y1 y2 z1 z2 _ _ (by omega) hI (fun y1' y2' z1' z2' hlt hI2 => ih M (j + 1) y1' y2' z1' z2' (by omega) (by omega) hI2)
  exact h n N 0 x1 x2 w1 w2 (by omega) hN h0
theorem lpr33 {a1 : Type} {a2 : Type} {a3 : Type} {b1 : Type} {b2 : Type} {b3 : Type} {β γ : Type} {B : (a1 → a2 → a3 → Option β) → a1 → a2 → a3 → Option β} {C : (b1 → b2 → b3 → Option γ) → b1 → b2 → b3 → Option γ} {P : β → γ → Prop} (I : Nat → a1 → a2 → a3 → b1 → b2 → b3 → Prop) (n N : Nat) (x1 : a1) (x2 : a2) (x3 : a3) (w1 : b1) (w2 : b2) (w3 : b3) (hN : n < N) (hs : ∀ (j : Nat) (y1 : a1) (y2 : a2) (y3 : a3) (z1 : b1) (z2 : b2) (z3 : b3) (rec : a1 → a2 → a3 → Option β) (rec2 : b1 → b2 → b3 → Option γ), j ≤ n → I j y1 y2 y3 z1 z2 z3 → (∀ (y1' : a1) (y2' : a2) (y3' : a3) (z1' : b1) (z2' : b2) (z3' : b3), j < n → I (j + 1) y1' y2' y3' z1' z2' z3' → ok (rec y1' y2' y3') (fun a => ok (rec2 z1' z2' z3') (fun b => P a b))) → ok (B rec y1 y2 y3) (fun a => ok (C rec2 z1 z2 z3) (fun b => P a b))) (h0 : I 0 x1 x2 x3 w1 w2 w3) : ok (u_lp3 B N x1 x2 x3) (fun a => ok (u_lp3 C N w1 w2 w3) (fun b => P a b)) := by
  have h : ∀ (d M j : Nat) (y1 : a1) (y2 : a2) (y3 : a3) (z1 : b1) (z2 : b2) (z3 : b3), j + d = n → d < M → I j y1 y2 y3 z1 z2 z3 → ok (u_lp3 B M y1 y2 y3) (fun a => ok (u_lp3 C M z1 z2 z3) (fun b => P a b)) := by
    intro d
    induction d with
    | zero =>
      intro M j y1 y2 y3 z1 z2 z3 hj hM hI
      obtain ⟨M, rfl⟩ : ∃ m, M = m + 1 := ⟨M - 1, by omega⟩
      exact hs j y1 y2 y3 z1 z2 z3 _ _ (by omega) hI (fun _ _ _ _ _ _ hlt => absurd hlt (by omega))
    | succ d ih =>
      intro M j y1 y2 y3 z1 z2 z3 hj hM hI
      obtain ⟨M, rfl⟩ : ∃ m, M = m + 1 := ⟨M - 1, by omega⟩
      exact hs j y1 y2 y3 z1 z2 z3 _ _ (by omega) hI (fun y1' y2' y3' z1' z2' z3' hlt hI2 => ih M (j + 1) y1' y2' y3' z1' z2' z3' (by omega) (by omega) hI2)
  exact h n N 0 x1 x2 x3 w1 w2 w3 (by omega) hN h0
theorem lpr44 {a1 : Type} {a2 : Type} {a3 : Type} {a4 : Type} {b1 : Type} {b2 : Type} {b3 : Type} {b4 : Type} {β γ : Type} {B : (a1 → a2 → a3 → a4 → Option β) → a1 → a2 → a3 → a4 → Option β} {C : (b1 → b2 → b3 → b4 → Option γ) → b1 → b2 → b3 → b4 → Option γ} {P : β → γ → Prop} (I : Nat → a1 → a2 → a3 → a4 → b1 → b2 → b3 → b4 → Prop) (n N : Nat) (x1 : a1) (x2 : a2) (x3 : a3) (x4 : a4) (w1 : b1) (w2 : b2) (w3 : b3) (w4 : b4) (hN : n < N) (hs : ∀ (j : Nat) (y1 : a1) (y2 : a2) (y3 : a3) (y4 : a4) (z1 : b1) (z2 : b2) (z3 : b3) (z4 : b4) (rec : a1 → a2 → a3 → a4 → Option β) (rec2 : b1 → b2 → b3 → b4 → Option γ), j ≤ n → I j y1 y2 y3 y4 z1 z2 z3 z4 → (∀ (y1' : a1) (y2' : a2) (y3' : a3) (y4' : a4) (z1' : b1) (z2' : b2) (z3' : b3) (z4' : b4), j < n → I (j + 1) y1' y2' y3' y4' z1' z2' z3' z4' → ok (rec y1' y2' y3' y4') (fun a => ok (rec2 z1' z2' z3' z4') (fun b => P a b))) → ok (B rec y1 y2 y3 y4) (fun a => ok (C rec2 z1 z2 z3 z4) (fun b => P a b))) (h0 : I 0 x1 x2 x3 x4 w1 w2 w3 w4) : ok (u_lp4 B N x1 x2 x3 x4) (fun a => ok (u_lp4 C N w1 w2 w3 w4) (fun b => P a b)) := by
  have h : ∀ (d M j : Nat) (y1 : a1) (y2 : a2) (y3 : a3) (y4 : a4) (z1 : b1) (z2 : b2) (z3 : b3) (z4 : b4), j + d = n → d < M → I j y1 y2 y3 y4 z1 z2 z3 z4 → ok (u_lp4 B M y1 y2 y3 y4) (fun a => ok (u_lp4 C M z1 z2 z3 z4) (fun b => P a b)) := by
    intro d
    induction d with
    | zero =>
      intro M j y1 y2 y3 y4 z1 z2 z3 z4 hj hM hI
      obtain ⟨M, rfl⟩ : ∃ m, M = m + 1 := ⟨M - 1, by omega⟩
      exact hs j y1 y2 y3 y4 z1 z2 z3 z4 _ _ (by omega) hI (fun _ _ _ _ _ _ _ _ hlt => absurd hlt (by omega))
    | succ d ih =>
      intro M j y1 y2 y3 y4 z1 z2 z3 z4 hj hM hI
      obtain ⟨M, rfl⟩ : ∃ m, M = m + 1 := ⟨M - 1, by omega⟩
      exact hs j y1 y2 y3 y4 z1 z2 z3 z4 _ _ (by omega) hI (fun y1' y2' y3' y4' z1' z2' z3' z4' hlt hI2 => ih M (j + 1) y1' y2' y3' y4' z1' z2' z3' z4' (by omega) (by omega) hI2)
  exact h n N 0 x1 x2 x3 x4 w1 w2 w3 w4 (by omega) hN h0
theorem lpr55 {a1 : Type} {a2 : Type} {a3 : Type} {a4 : Type} {a5 : Type} {b1 : Type} {b2 : Type} {b3 : Type} {b4 : Type} {b5 : Type} {β γ : Type} {B : (a1 → a2 → a3 → a4 → a5 → Option β) → a1 → a2 → a3 → a4 → a5 → Option β} {C : (b1 → b2 → b3 → b4 → b5 → Option γ) → b1 → b2 → b3 → b4 → b5 → Option γ} {P : β → γ → Prop} (I : Nat → a1 → a2 → a3 → a4 → a5 → b1 → b2 → b3 → b4 → b5 → Prop) (n N : Nat) (x1 : a1) (x2 : a2) (x3 : a3) (x4 : a4) (x5 : a5) (w1 : b1) (w2 : b2) (w3 : b3) (w4 : b4) (w5 : b5) (hN : n < N) (hs : ∀ (j : Nat) (y1 : a1) (y2 : a2) (y3 : a3) (y4 : a4) (y5 : a5) (z1 : b1) (z2 : b2) (z3 : b3) (z4 : b4) (z5 : b5) (rec : a1 → a2 → a3 → a4 → a5 → Option β) (rec2 : b1 → b2 → b3 → b4 → b5 → Option γ), j ≤ n → I j y1 y2 y3 y4 y5 z1 z2 z3 z4 z5 → (∀ (y1' : a1) (y2' : a2) (y3' : a3) (y4' : a4) (y5' : a5) (z1' : b1) (z2' : b2) (z3' : b3) (z4' : b4) (z5' : b5), j < n → I (j + 1) y1' y2' y3' y4' y5' z1' z2' z3' z4' z5' → ok (rec y1' y2' y3' y4' y5') (fun a => ok (rec2 z1' z2' z3' z4' z5') (fun b => P a b))) → ok (B rec y1 y2 y3 y4 y5) (fun a => ok (C rec2 z1 z2 z3 z4 z5) (fun b => P a b))) (h0 : I 0 x1 x2 x3 x4 x5 w1 w2 w3 w4 w5) : ok (u_lp5 B N x1 x2 x3 x4 x5) (fun a => ok (u_lp5 C N w1 w2 w3 w4 w5) (fun b => P a b)) := by
  have h : ∀ (d M j : Nat) (y1 : a1) (y2 : a2) (y3 : a3) (y4 : a4) (y5 : a5) (z1 : b1) (z2 : b2) (z3 : b3) (z4 : b4) (z5 : b5), j + d = n → d < M → I j y1 y2 y3 y4 y5 z1 z2 z3 z4 z5 → ok (u_lp5 B M y1 y2 y3 y4 y5) (fun a => ok (u_lp5 C M z1 z2 z3 z4 z5) (fun b => P a b)) := by
    intro d
    induction d with
    | zero =>
      intro M j y1 y2 y3 y4 y5 z1 z2 z3 z4 z5 hj hM hI
      obtain ⟨M, rfl⟩ : ∃ m, M = m + 1 := ⟨M - 1, by omega⟩
      exact hs j y1 y2 y3 y4 y5 z1 z2 z3 z4 z5 _ _ (by omega) hI (fun _ _ _ _ _ _ _ _ _ _ hlt => absurd hlt (by omega))
    | succ d ih =>
      intro M j y1 y2 y3 y4 y5 z1 z2 z3 z4 z5 hj hM hI
      obtain ⟨M, rfl⟩ : ∃ m, M = m + 1 := ⟨M - 1, by omega⟩
      exact hs j y1 y2 y3 y4 y5 z1 z2 z3 z4 z5 _ _ (by omega) hI (fun y1' y2' y3' y4' y5' z1' z2' z3' z4' z5' hlt hI2 => ih M (j + 1) y1' y2' y3' y4' y5' z1' z2' z3' z4' z5' (by omega) (by omega) hI2)
  exact h n N 0 x1 x2 x3 x4 x5 w1 w2 w3 w4 w5 (by omega) hN h0
theorem lpr21 {a1 : Type} {a2 : Type} {b1 : Type} {β γ : Type} {B : (a1 → a2 → Option β) → a1 → a2 → Option β} {C : (b1 → Option γ) → b1 → Option γ} {P : β → γ → Prop} (I : Nat → a1 → a2 → b1 → Prop) (n N : Nat) (x1 : a1) (x2 : a2) (w1 : b1) (hN : n < N) (hs : ∀ (j : Nat) (y1 : a1) (y2 : a2) (z1 : b1) (rec : a1 → a2 → Option β) (rec2 : b1 → Option γ), j ≤ n → I j y1 y2 z1 → (∀ (y1' : a1) (y2' : a2) (z1' : b1), j < n → I (j + 1) y1' y2' z1' → ok (rec y1' y2') (fun a => ok (rec2 z1') (fun b => P a b))) → ok (B rec y1 y2) (fun a => ok (C rec2 z1) (fun b => P a b))) (h0 : I 0 x1 x2 w1) : ok (u_lp2 B N x1 x2) (fun a => ok (u_lp1 C N w1) (fun b => P a b)) := by
  have h : ∀ (d M j : Nat) (y1 : a1) (y2 : a2) (z1 : b1), j + d = n → d < M → I j y1 y2 z1 → ok (u_lp2 B M y1 y2) (fun a => ok (u_lp1 C M z1) (fun b => P a b)) := by
    intro d
    induction d with
    | zero =>
      intro M j y1 y2 z1 hj hM hI
      obtain ⟨M, rfl⟩ : ∃ m, M = m + 1 := ⟨M - 1, by omega⟩
      exact hs j y1 y2 z1 _ _ (by omega) hI (fun _ _ _ hlt => absurd hlt (by omega))
    | succ d ih =>
      intro M j y1 y2 z1 hj hM hI
      obtain ⟨M, rfl⟩ : ∃ m, M = m + 1 := ⟨M - 1, by omega⟩
      exact hs j y1 y2 z1 _ _ (by omega) hI (fun y1' y2' z1' hlt hI2 => ih M (j + 1) y1' y2' z1' (by omega) (by omega) hI2)
  exact h n N 0 x1 x2 w1 (by omega) hN h0
theorem lpr32 {a1 : Type} {a2 : Type} {a3 : Type} {b1 : Type} {b2 : Type} {β γ : Type} {B : (a1 → a2 → a3 → Option β) → a1 → a2 → a3 → Option β} {C : (b1 → b2 → Option γ) → b1 → b2 → Option γ} {P : β → γ → Prop} (I : Nat → a1 → a2 → a3 → b1 → b2 → Prop) (n N : Nat) (x1 : a1) (x2 : a2) (x3 : a3) (w1 : b1) (w2 : b2) (hN : n < N) (hs : ∀ (j : Nat) (y1 : a1) (y2 : a2) (y3 : a3) (z1 : b1) (z2 : b2) (rec : a1 → a2 → a3 → Option β) (rec2 : b1 → b2 → Option γ), j ≤ n → I j y1 y2 y3 z1 z2 → (∀ (y1' : a1) (y2' : a2) (y3' : a3) (z1' : b1) (z2' : b2), j < n → I (j + 1) y1' y2' y3' z1' z2' → ok (rec y1' y2' y3') (fun a => ok (rec2 z1' z2') (fun b => P a b))) → ok (B rec y1 y2 y3) (fun a => ok (C rec2 z1 z2) (fun b => P a b))) (h0 : I 0 x1 x2 x3 w1 w2) : ok (u_lp3 B N x1 x2 x3) (fun a => ok (u_lp2 C N w1 w2) (fun b => P a b)) := by
  have h : ∀ (d M j : Nat) (y1 : a1) (y2 : a2) (y3 : a3) (z1 : b1) (z2 : b2), j + d = n → d < M → I j y1 y2 y3 z1 z2 → ok (u_lp3 B M y1 y2 y3) (fun a => ok (u_lp2 C M z1 z2) (fun b => P a b)) := by
    intro d
    induction d with
    | zero =>
      intro M j y1 y2 y3 z1 z2 hj hM hI
      obtain ⟨M, rfl⟩ : ∃ m, M = m + 1 := ⟨M - 1, by omega⟩
      exact hs j y1 y2 y3 z1 z2 _ _ (by omega) hI (fun _ _ _ _ _ hlt => absurd hlt (by omega))
    | succ d ih =>
      intro M j y1 y2 y3 z1 z2 hj hM hI
      obtain ⟨M, rfl⟩ : ∃ m, M = m + 1 := ⟨M - 1, by omega⟩
      exact hs j y1 y2 y3 z1 z2 _ _ (by omega) hI (fun y1' y2' y3' z1' z2' hlt hI2 => ih M (j + 1) y1' y2' y3' z1' z2' (by omega) (by omega) hI2)
  exact h n N 0 x1 x2 x3 w1 w2 (by omega) hN h0
theorem lpr23 {a1 : Type} {a2 : Type} {b1 : Type} {b2 : Type} {b3 : Type} {β γ : Type} {B : (a1 → a2 → Option β) → a1 → a2 → Option β} {C : (b1 → b2 → b3 → Option γ) → b1 → b2 → b3 → Option γ} {P : β → γ → Prop} (I : Nat → a1 → a2 → b1 → b2 → b3 → Prop) (n N : Nat) (x1 : a1) (x2 : a2) (w1 : b1) (w2 : b2) (w3 : b3) (hN : n < N) (hs : ∀ (j : Nat) (y1 : a1) (y2 : a2) (z1 : b1) (z2 : b2) (z3 : b3) (rec : a1 → a2 → Option β) (rec2 : b1 → b2 → b3 → Option γ), j ≤ n → I j y1 y2 z1 z2 z3 → (∀ (y1' : a1) (y2' : a2) (z1' : b1) (z2' : b2) (z3' : b3), j < n → I (j + 1) y1' y2' z1' z2' z3' → ok (rec y1' y2') (fun a => ok (rec2 z1' z2' z3') (fun b => P a b))) → ok (B rec y1 y2) (fun a => ok (C rec2 z1 z2 z3) (fun b => P a b))) (h0 : I 0 x1 x2 w1 w2 w3) : ok (u_lp2 B N x1 x2) (fun a => ok (u_lp3 C N w1 w2 w3) (fun b => P a b)) := by
  have h : ∀ (d M j : Nat) (y1 : a1) (y2 : a2) (z1 : b1) (z2 : b2) (z3 : b3), j + d = n → d < M → I j y1 y2 z1 z2 z3 → ok (u_lp2 B M y1 y2) (fun a => ok (u_lp3 C M z1 z2 z3) (fun b => P a b)) := by
    intro d
    induction d with
    | zero =>
      intro M j y1 y2 z1 z2 z3 hj hM hI
      obtain ⟨M, rfl⟩ : ∃ m, M = m + 1 := ⟨M - 1, by omega⟩
      exact hs j y1 y2 z1 z2 z3 _ _ (by omega) hI (fun _ _ _ _ _ hlt => absurd hlt (by omega))
    | succ d ih =>
      intro M j y1 y2 z1 z2 z3 hj hM hI
      obtain ⟨M, rfl⟩ : ∃ m, M = m + 1 := ⟨M - 1, by omega⟩
      exact hs j y1 y2 z1 z2 z3 _ _ (by omega) hI (fun y1' y2' z1' z2' z3' hlt hI2 => ih M (j + 1) y1' y2' z1' z2' z3' (by omega) (by omega) hI2)
  exact h n N 0 x1 x2 w1 w2 w3 (by omega) hN h0
theorem lpr43 {a1 : Type} {a2 : Type} {a3 : Type} {a4 : Type} {b1 : Type} {b2 : Type} {b3 : Type} {β γ : Type} {B : (a1 → a2 → a3 → a4 → Option β) → a1 → a2 → a3 → a4 → Option β} {C : (b1 → b2 → b3 → Option γ) → b1 → b2 → b3 → Option γ} {P : β → γ → Prop} (I : Nat → a1 → a2 → a3 → a4 → b1 → b2 → b3 → Prop) (n N : Nat) (x1 : a1) (x2 : a2) (x3 : a3) (x4 : a4) (w1 : b1) (w2 : b2) (w3 : b3) (hN : n < N) (hs : ∀ (j : Nat) (y1 : a1) (y2 : a2) (y3 : a3) (y4 : a4) (z1 : b1) (z2 : b2) (z3 : b3) (rec : a1 → a2 → a3 → a4 → Option β) (rec2 : b1 → b2 → b3 → Option γ), j ≤ n → I j y1 y2 y3 y4 z1 z2 z3 → (∀ (y1' : a1) (y2' : a2) (y3' : a3) (y4' : a4) (z1' : b1) (z2' : b2) (z3' : b3), j < n → I (j + 1) y1' y2' y3' y4' z1' z2' z3' → ok (rec y1' y2' y3' y4') (fun a => ok (rec2 z1' z2' z3') (fun b => P a b))) → ok (B rec y1 y2 y3 y4) (fun a => ok (C rec2 z1 z2 z3) (fun b => P a b))) (h0 : I 0 x1 x2 x3 x4 w1 w2 w3) : ok (u_lp4 B N x1 x2 x3 x4) (fun a => ok (u_lp3 C N w1 w2 w3) (fun b => P a b)) := by
  have h : ∀ (d M j : Nat) (y1 : a1) (y2 : a2) (y3 : a3) (y4 : a4) (z1 : b1) (z2 : b2) (z3 : b3), j + d = n → d < M → I j y1 y2 y3 y4 z1 z2 z3 → ok (u_lp4 B M y1 y2 y3 y4) (fun a => ok (u_lp3 C M z1 z2 z3) (fun b => P a b)) := by
    intro d
    induction d with
    | zero =>
      intro M j y1 y2 y3 y4 z1 z2 z3 hj hM hI
      obtain ⟨M, rfl⟩ : ∃ m, M = m + 1 := ⟨M - 1, by omega⟩
      exact hs j y1 y2 y3 y4 z1 z2 z3 _ _ (by omega) hI (fun _ _ _ _ _ _ _ hlt => absurd hlt (by omega))
    | succ d ih =>
      intro M j y1 y2 y3 y4 z1 z2 z3 hj hM hI
      obtain ⟨M, rfl⟩ : ∃ m, M = m + 1 := ⟨M - 1, by omega⟩
      exact hs j y1 y2 y3 y4 z1 z2 z3 _ _ (by omega) hI (fun y1' y2' y3' y4' z1' z2' z3' hlt hI2 => ih M (j + 1) y1' y2' y3' y4' z1' z2' z3' (by omega) (by omega) hI2)
  exact h n N 0 x1 x2 x3 x4 w1 w2 w3 (by omega) hN h0
theorem lpr34 {a1 : Type} {a2 : Type} {a3 : Type} {b1 : Type} {b2 : Type} {b3 : Type} {b4 : Type} {β γ : Type} {B : (a1 → a2 → a3 → Option β) → a1 → a2 → a3 → Option β} {C : (b1 → b2 → b3 → b4 → Option γ) → b1 → b2 → b3 → b4 → Option γ} {P : β → γ → Prop} (I : Nat → a1 → a2 → a3 → b1 → b2 → b3 → b4 → Prop) (n N : Nat) (x1 : a1) (x2 : a2) (x3 : a3) (w1 : b1) (w2 : b2) (w3 : b3) (w4 : b4) (hN : n < N) (hs : ∀ (j : Nat) (y1 : a1) (y2 : a2) (y3 : a3) (z1 : b1) (z2 : b2) (z3 : b3) (z4 : b4) (rec : a1 → a2 → a3 → Option β) (rec2 : b1 → b2 → b3 → b4 → Option γ), j ≤ n → I j y1 y2 y3 z1 z2 z3 z4 → (∀ (y1' : a1) (y2' : a2) (y3' : a3) (z1' : b1) (z2' : b2) (z3' : b3) (z4' : b4), j < n → I (j + 1) y1' y2' y3' z1' z2' z3' z4' → ok (rec y1' y2' y3') (fun a => ok (rec2 z1' z2' z3' z4') (fun b => P a b))) → ok (B rec y1 y2 y3) (fun a => ok (C rec2 z1 z2 z3 z4) (fun b => P a b))) (h0 : I 0 x1 x2 x3 w1 w2 w3 w4) : ok (u_lp3 B N x1 x2 x3) (fun a => ok (u_lp4 C N w1 w2 w3 w4) (fun b => P a b)) := by
  have h : ∀ (d M j : Nat) (y1 : a1) (y2 : a2) (y3 : a3) (z1 : b1) (z2 : b2) (z3 : b3) (z4 : b4), j + d = n → d < M → I j y1 y2 y3 z1 z2 z3 z4 → ok (u_lp3 B M y1 y2 y3) (fun a => ok (u_lp4 C M z1 z2 z3 z4) (fun b => P a b)) := by
    intro d
    induction d with
    | zero =>
      intro M j y1 y2 y3 z1 z2 z3 z4 hj hM hI
      obtain ⟨M, rfl⟩ : ∃ m, M = m + 1 := ⟨M - 1, by omega⟩
      exact hs j y1 y2 y3 z1 z2 z3 z4 _ _ (by omega) hI (fun _ _ _ _ _ _ _ hlt => absurd hlt (by omega))
    | succ d ih =>
      intro M j y1 y2 y3 z1 z2 z3 z4 hj hM hI
      obtain ⟨M, rfl⟩ : ∃ m, M = m + 1 := ⟨M - 1, by omega⟩
      exact hs j y1 y2 y3 z1 z2 z3 z4 _ _ (by omega) hI (fun y1' y2' y3' z1' z2' z3' z4' hlt hI2 => ih M (j + 1) y1' y2' y3' z1' z2' z3' z4' (by omega) (by omega) hI2)
  exact h n N 0 x1 x2 x3 w1 w2 w3 w4 (by omega) hN h0
theorem jn_eq {α β : Type} (a : α) (f : α → β) : u_jn a f = f a := Eq.trans (Eq.refl _) (Eq.refl _)
