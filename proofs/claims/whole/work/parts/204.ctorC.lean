theorem dX11_init_0 : decode cX11_init 0 = .ok (.aload_n 0, 1) := by decide +kernel
theorem dX11_init_1 : decode cX11_init 1 = .ok (.invokespecial 1, 3) := by decide +kernel
theorem dX11_init_4 : decode cX11_init 4 = .ok (.aload_n 0, 1) := by decide +kernel
theorem dX11_init_5 : decode cX11_init 5 = .ok (.new 7, 3) := by decide +kernel
theorem dX11_init_8 : decode cX11_init 8 = .ok (.dup, 1) := by decide +kernel
theorem dX11_init_9 : decode cX11_init 9 = .ok (.invokespecial 9, 3) := by decide +kernel
theorem dX11_init_12 : decode cX11_init 12 = .ok (.putfield 10, 3) := by decide +kernel
theorem dX11_init_15 : decode cX11_init 15 = .ok (.aload_n 0, 1) := by decide +kernel
theorem dX11_init_16 : decode cX11_init 16 = .ok (.new 16, 3) := by decide +kernel
theorem dX11_init_19 : decode cX11_init 19 = .ok (.dup, 1) := by decide +kernel
theorem dX11_init_20 : decode cX11_init 20 = .ok (.invokespecial 18, 3) := by decide +kernel
theorem dX11_init_23 : decode cX11_init 23 = .ok (.putfield 19, 3) := by decide +kernel
theorem dX11_init_26 : decode cX11_init 26 = .ok (.aload_n 0, 1) := by decide +kernel
theorem dX11_init_27 : decode cX11_init 27 = .ok (.new 23, 3) := by decide +kernel
theorem dX11_init_30 : decode cX11_init 30 = .ok (.dup, 1) := by decide +kernel
theorem dX11_init_31 : decode cX11_init 31 = .ok (.invokespecial 25, 3) := by decide +kernel
theorem dX11_init_34 : decode cX11_init 34 = .ok (.putfield 26, 3) := by decide +kernel
theorem dX11_init_37 : decode cX11_init 37 = .ok (.aload_n 0, 1) := by decide +kernel
theorem dX11_init_38 : decode cX11_init 38 = .ok (.new 23, 3) := by decide +kernel
theorem dX11_init_41 : decode cX11_init 41 = .ok (.dup, 1) := by decide +kernel
theorem dX11_init_42 : decode cX11_init 42 = .ok (.invokespecial 25, 3) := by decide +kernel
theorem dX11_init_45 : decode cX11_init 45 = .ok (.putfield 30, 3) := by decide +kernel
theorem dX11_init_48 : decode cX11_init 48 = .ok (.aload_n 0, 1) := by decide +kernel
theorem dX11_init_49 : decode cX11_init 49 = .ok (.new 23, 3) := by decide +kernel
theorem dX11_init_52 : decode cX11_init 52 = .ok (.dup, 1) := by decide +kernel
theorem dX11_init_53 : decode cX11_init 53 = .ok (.invokespecial 25, 3) := by decide +kernel
theorem dX11_init_56 : decode cX11_init 56 = .ok (.putfield 33, 3) := by decide +kernel
theorem dX11_init_59 : decode cX11_init 59 = .ok (.aload_n 0, 1) := by decide +kernel
theorem dX11_init_60 : decode cX11_init 60 = .ok (.new 36, 3) := by decide +kernel
theorem dX11_init_63 : decode cX11_init 63 = .ok (.dup, 1) := by decide +kernel
theorem dX11_init_64 : decode cX11_init 64 = .ok (.invokespecial 38, 3) := by decide +kernel
theorem dX11_init_67 : decode cX11_init 67 = .ok (.putfield 39, 3) := by decide +kernel
theorem dX11_init_70 : decode cX11_init 70 = .ok (.aload_n 0, 1) := by decide +kernel
theorem dX11_init_71 : decode cX11_init 71 = .ok (.new 43, 3) := by decide +kernel
theorem dX11_init_74 : decode cX11_init 74 = .ok (.dup, 1) := by decide +kernel
theorem dX11_init_75 : decode cX11_init 75 = .ok (.invokespecial 45, 3) := by decide +kernel
theorem dX11_init_78 : decode cX11_init 78 = .ok (.putfield 46, 3) := by decide +kernel
theorem dX11_init_81 : decode cX11_init 81 = .ok (.aload_n 0, 1) := by decide +kernel
theorem dX11_init_82 : decode cX11_init 82 = .ok (.new 50, 3) := by decide +kernel
theorem dX11_init_85 : decode cX11_init 85 = .ok (.dup, 1) := by decide +kernel
theorem dX11_init_86 : decode cX11_init 86 = .ok (.invokespecial 52, 3) := by decide +kernel
theorem dX11_init_89 : decode cX11_init 89 = .ok (.putfield 53, 3) := by decide +kernel
theorem dX11_init_92 : decode cX11_init 92 = .ok (.aload_n 0, 1) := by decide +kernel
theorem dX11_init_93 : decode cX11_init 93 = .ok (.new 57, 3) := by decide +kernel
theorem dX11_init_96 : decode cX11_init 96 = .ok (.dup, 1) := by decide +kernel
theorem dX11_init_97 : decode cX11_init 97 = .ok (.invokespecial 59, 3) := by decide +kernel
theorem dX11_init_100 : decode cX11_init 100 = .ok (.putfield 60, 3) := by decide +kernel
theorem dX11_init_103 : decode cX11_init 103 = .ok (.aload_n 0, 1) := by decide +kernel
theorem dX11_init_104 : decode cX11_init 104 = .ok (.new 64, 3) := by decide +kernel
theorem dX11_init_107 : decode cX11_init 107 = .ok (.dup, 1) := by decide +kernel
theorem dX11_init_108 : decode cX11_init 108 = .ok (.invokespecial 66, 3) := by decide +kernel
theorem dX11_init_111 : decode cX11_init 111 = .ok (.putfield 67, 3) := by decide +kernel
theorem dX11_init_114 : decode cX11_init 114 = .ok (.aload_n 0, 1) := by decide +kernel
theorem dX11_init_115 : decode cX11_init 115 = .ok (.sipush 201, 3) := by decide +kernel
theorem dX11_init_118 : decode cX11_init 118 = .ok (.newarray .int, 2) := by decide +kernel
theorem dX11_init_120 : decode cX11_init 120 = .ok (.putfield 71, 3) := by decide +kernel
theorem dX11_init_123 : decode cX11_init 123 = .ok (.aload_n 0, 1) := by decide +kernel
theorem dX11_init_124 : decode cX11_init 124 = .ok (.bipush 13, 2) := by decide +kernel
theorem dX11_init_126 : decode cX11_init 126 = .ok (.newarray .long, 2) := by decide +kernel
theorem dX11_init_128 : decode cX11_init 128 = .ok (.putfield 75, 3) := by decide +kernel
theorem dX11_init_131 : decode cX11_init 131 = .ok (.aload_n 0, 1) := by decide +kernel
theorem dX11_init_132 : decode cX11_init 132 = .ok (.new 79, 3) := by decide +kernel
theorem dX11_init_135 : decode cX11_init 135 = .ok (.dup, 1) := by decide +kernel
theorem dX11_init_136 : decode cX11_init 136 = .ok (.invokespecial 81, 3) := by decide +kernel
theorem dX11_init_139 : decode cX11_init 139 = .ok (.putfield 82, 3) := by decide +kernel
theorem dX11_init_142 : decode cX11_init 142 = .ok (.aload_n 0, 1) := by decide +kernel
theorem dX11_init_143 : decode cX11_init 143 = .ok (.new 86, 3) := by decide +kernel
theorem dX11_init_146 : decode cX11_init 146 = .ok (.dup, 1) := by decide +kernel
theorem dX11_init_147 : decode cX11_init 147 = .ok (.invokespecial 88, 3) := by decide +kernel
theorem dX11_init_150 : decode cX11_init 150 = .ok (.putfield 89, 3) := by decide +kernel
theorem dX11_init_153 : decode cX11_init 153 = .ok (.aload_n 0, 1) := by decide +kernel
theorem dX11_init_154 : decode cX11_init 154 = .ok (.new 86, 3) := by decide +kernel
theorem dX11_init_157 : decode cX11_init 157 = .ok (.dup, 1) := by decide +kernel
theorem dX11_init_158 : decode cX11_init 158 = .ok (.invokespecial 88, 3) := by decide +kernel
theorem dX11_init_161 : decode cX11_init 161 = .ok (.putfield 93, 3) := by decide +kernel
theorem dX11_init_164 : decode cX11_init 164 = .ok (.return_, 1) := by decide +kernel
def σC0 : uS := (fun a b => if 32 ≤ a ∧ (a - 32) % 6 = 0 ∧ b = 5 then 1 else 0, fun _ _ => 0, fun a => match a with | 0 => (fun b => match b with | 13 => some 22 | 14 => some 27 | _ => none) | 6 => (fun j => if j < 12 then some (50 + 6 * j) else none) | 7 => (fun j => if j < 2 then some (122 + 6 * j) else none) | _ => fun _ => none)
theorem k_retZ {p : Program} {l : Launch} {e : Env} {s : State} {m : MethodId} {args : Array Value} {below : List Frame} {meth : Method} {c : Code} {H : Heap} {locs : List Loc} {cells slots : Nat} {own : String} {y : MethodName} {cc : ByteArray} {mL : Nat} {G : uG} {A : Nat → Prop} {ws : va_W} {pc : Nat} {ls : Array Slot} {R : Room} {Z : uZ} {σ0 : uS} {h0 ci mc ms : Nat} {fs : List Value} (cx : u_C p s m args meth c own y cc mL none G) (hA : A = va_A (k_x h0 ci fs) s.heap.size) (hw : k_W G A ws s H locs) (u : Nat → Nat) (hu : u 0 = h0) (pos : Nat → Nat) (hinj : ∀ i j, i < Z.1 → j < Z.1 → pos i = pos j → i = j) (h1 : ∀ i, i < Z.1 → ws[pos i]? = some (u i, u_E Z (G.1, G.2.1, u) σ0 i)) (hc : cells ≤ mc) (hs : slots ≤ ms) (hdg : decode cc pc = .ok (.return_, 1)) : W p l e R s m args below meth c H locs cells slots (MQ below (va_Qv (fun (u : Nat → Nat) => u 0 = h0) (k_B G (k_x h0 ci fs) (fun u => u_w Z (G.1, G.2.1, u) σ0) s.heap.size) A) args s mc ms A) (F0 m pc ls []) := by
  obtain ⟨hx, hb, hml, hown, hts, hr, hlocks, hK⟩ := cx
  have hPs : va_P G.1 vwCl (u_w Z (G.1, G.2.1, u) σ0) H := by
    intro k q hk
    obtain ⟨g1, rfl⟩ := u_w_inv hk
    exact hw.1 (pos k) _ (h1 k g1)
  have hDs : va_D A (u_w Z (G.1, G.2.1, u) σ0) := by
    refine ⟨fun i j a b hi hj hab => ?_, fun k q hk => ?_⟩
    · obtain ⟨g1, rfl⟩ := u_w_inv hi
      obtain ⟨g2, rfl⟩ := u_w_inv hj
      exact hinj i j g1 g2 (hw.2.1.1 _ _ _ _ (h1 i g1) (h1 j g2) hab)
    · obtain ⟨g1, rfl⟩ := u_w_inv hk
      exact hw.2.1.2 _ _ (h1 k g1)
  refine W.widen (k := mc) (n := ms) hc hs ?_
  refine W.vret hx hb hr (fun t ht hW => ⟨⟨u, rfl, hu, by rw [ht]; exact hPs, by rw [← hA]; exact hDs⟩, hw.2.2.1.F ht⟩) hw.2.2.1.2.2 hdg hlocks
def k_allP (P : Nat → Prop) : Nat → Prop
  | 0 => True
  | n + 1 => k_allP P n ∧ P n
theorem k_all {P : Nat → Prop} : ∀ n, k_allP P n → ∀ i, i < n → P i := by
  intro n
  induction n with
  | zero => intro _ i hi; omega
  | succ n ih =>
    intro h i hi
    by_cases e : i = n
    · subst e; exact h.2
    · exact ih h.1 i (by omega)
theorem k_apl {α : Type} {A B : List α} {k : Nat} {x : α} (h : A[k]? = some x) : (A ++ B)[k]? = some x := by
  rw [List.getElem?_append_left (List.getElem?_eq_some_iff.mp h).1]; exact h
theorem k_apr {α : Type} {A B : List α} {n k : Nat} {x : α} (hn : A.length = n) (h : B[k]? = some x) : (A ++ B)[n + k]? = some x := by
  subst hn
  rw [List.getElem?_append_right (Nat.le_add_right _ _), Nat.add_sub_cancel_left]; exact h
theorem cw_X3_len (G : uG) (u : Nat → Nat) : (cw_X3 G u).length = 87 := by
  unfold cw_X3
  rw [List.length_append, k_blk_len]
  rfl
def k_pos : Nat → Nat := fun i => if i < 1 then 0 else if i < 3 then i - 1 + 1 else if i < 5 then i - 3 + 3 else if i < 8 then i - 5 + 23 else if i < 9 then i - 8 + 110 else if i < 11 then i - 9 + 111 else if i < 15 then i - 11 + 113 else if i < 19 then i - 15 + 117 else if i < 20 then i - 19 + 121 else if i < 21 then i - 20 + 122 else if i < 22 then i - 21 + 123 else if i < 27 then i - 22 + 124 else if i < 32 then i - 27 + 129 else if i < 38 then i - 32 + 5 else if i < 44 then i - 38 + 11 else if i < 50 then i - 44 + 17 else i - 50 + 26
theorem k_pos_inj : ∀ i, i < 134 → ∀ j, j < 134 → k_pos i = k_pos j → i = j := by decide +kernel
def wg1 (G : uG) (U : Nat → Nat) : va_W := cw_X10 G (fun t => U (1 + t))
def wg2 (G : uG) (U : Nat → Nat) : va_W := cw_X8 G (fun t => U (3 + t))
def wg3 (G : uG) (U : Nat → Nat) : va_W := cw_X7 G (fun t => U (32 + t))
def wg4 (G : uG) (U : Nat → Nat) : va_W := cw_X7 G (fun t => U (38 + t))
def wg5 (G : uG) (U : Nat → Nat) : va_W := cw_X7 G (fun t => U (44 + t))
def wg6 (G : uG) (U : Nat → Nat) : va_W := (k_p3 G (U 5) (U 6) (U 7) (fun j => (σC0.2.2 6 j).map U) (fun j => (σC0.2.2 7 j).map U) ++ k_blk G (fun k j => U (50 + (6 * k + j))) 14)
def wg7 (G : uG) (U : Nat → Nat) : va_W := cw_X0 G (fun t => U (8 + t))
def wg8 (G : uG) (U : Nat → Nat) : va_W := cw_X2 G (fun t => U (9 + t))
def wg9 (G : uG) (U : Nat → Nat) : va_W := cw_X4 G (fun t => U (11 + t))
def wg10 (G : uG) (U : Nat → Nat) : va_W := cw_X9 G (fun t => U (15 + t))
def wg11 (G : uG) (U : Nat → Nat) : va_W := [(U 19, .inl (G.2.1 0, 201, .inl (fun _ => 0)))]
def wg12 (G : uG) (U : Nat → Nat) : va_W := [(U 20, .inl (G.2.1 1, 13, .inr (.inl (fun _ => 0))))]
def wg13 (G : uG) (U : Nat → Nat) : va_W := cw_X1 G (fun t => U (21 + t))
def wg14 (G : uG) (U : Nat → Nat) : va_W := cw_X6 G (fun t => U (22 + t))
def wg15 (G : uG) (U : Nat → Nat) : va_W := cw_X6 G (fun t => U (27 + t))
def wg0 (G : uG) (U : Nat → Nat) : va_W := [(U 0, .inr (10, [.ref (U 1), .ref (U 3), .ref (U 32), .ref (U 38), .ref (U 44), .ref (U 5), .ref (U 8), .ref (U 9), .ref (U 11), .ref (U 15), .ref (U 19), .ref (U 20), .ref (U 21), .ref (U 22), .ref (U 27)]))]
def wp0 (G : uG) (U : Nat → Nat) : va_W := wg0 G U
def wp1 (G : uG) (U : Nat → Nat) : va_W := wp0 G U ++ wg1 G U
def wp2 (G : uG) (U : Nat → Nat) : va_W := wp1 G U ++ wg2 G U
def wp3 (G : uG) (U : Nat → Nat) : va_W := wp2 G U ++ wg3 G U
def wp4 (G : uG) (U : Nat → Nat) : va_W := wp3 G U ++ wg4 G U
def wp5 (G : uG) (U : Nat → Nat) : va_W := wp4 G U ++ wg5 G U
def wp6 (G : uG) (U : Nat → Nat) : va_W := wp5 G U ++ wg6 G U
def wp7 (G : uG) (U : Nat → Nat) : va_W := wp6 G U ++ wg7 G U
def wp8 (G : uG) (U : Nat → Nat) : va_W := wp7 G U ++ wg8 G U
def wp9 (G : uG) (U : Nat → Nat) : va_W := wp8 G U ++ wg9 G U
def wp10 (G : uG) (U : Nat → Nat) : va_W := wp9 G U ++ wg10 G U
def wp11 (G : uG) (U : Nat → Nat) : va_W := wp10 G U ++ wg11 G U
def wp12 (G : uG) (U : Nat → Nat) : va_W := wp11 G U ++ wg12 G U
def wp13 (G : uG) (U : Nat → Nat) : va_W := wp12 G U ++ wg13 G U
def wp14 (G : uG) (U : Nat → Nat) : va_W := wp13 G U ++ wg14 G U
def wp15 (G : uG) (U : Nat → Nat) : va_W := wp14 G U ++ wg15 G U
theorem wq0 (G : uG) (U : Nat → Nat) : (wp0 G U).length = 1 := rfl
theorem wq1 (G : uG) (U : Nat → Nat) : (wp1 G U).length = 3 := by
  unfold wp1
  rw [List.length_append, wq0]
  rfl
theorem wq2 (G : uG) (U : Nat → Nat) : (wp2 G U).length = 5 := by
  unfold wp2
  rw [List.length_append, wq1]
  rfl
theorem wq3 (G : uG) (U : Nat → Nat) : (wp3 G U).length = 11 := by
  unfold wp3
  rw [List.length_append, wq2]
  rfl
theorem wq4 (G : uG) (U : Nat → Nat) : (wp4 G U).length = 17 := by
  unfold wp4
  rw [List.length_append, wq3]
  rfl
theorem wq5 (G : uG) (U : Nat → Nat) : (wp5 G U).length = 23 := by
  unfold wp5
  rw [List.length_append, wq4]
  rfl
theorem wq6 (G : uG) (U : Nat → Nat) : (wp6 G U).length = 110 := by
  unfold wp6
  rw [List.length_append, wq5]
  unfold wg6
  rw [List.length_append, k_blk_len]
  rfl
theorem wq7 (G : uG) (U : Nat → Nat) : (wp7 G U).length = 111 := by
  unfold wp7
  rw [List.length_append, wq6]
  rfl
theorem wq8 (G : uG) (U : Nat → Nat) : (wp8 G U).length = 113 := by
  unfold wp8
  rw [List.length_append, wq7]
  rfl
theorem wq9 (G : uG) (U : Nat → Nat) : (wp9 G U).length = 117 := by
  unfold wp9
  rw [List.length_append, wq8]
  rfl
theorem wq10 (G : uG) (U : Nat → Nat) : (wp10 G U).length = 121 := by
  unfold wp10
  rw [List.length_append, wq9]
  rfl
theorem wq11 (G : uG) (U : Nat → Nat) : (wp11 G U).length = 122 := by
  unfold wp11
  rw [List.length_append, wq10]
  rfl
theorem wq12 (G : uG) (U : Nat → Nat) : (wp12 G U).length = 123 := by
  unfold wp12
  rw [List.length_append, wq11]
  rfl
theorem wq13 (G : uG) (U : Nat → Nat) : (wp13 G U).length = 124 := by
  unfold wp13
  rw [List.length_append, wq12]
  rfl
theorem wq14 (G : uG) (U : Nat → Nat) : (wp14 G U).length = 129 := by
  unfold wp14
  rw [List.length_append, wq13]
  rfl
theorem wq15 (G : uG) (U : Nat → Nat) : (wp15 G U).length = 134 := by
  unfold wp15
  rw [List.length_append, wq14]
  rfl
theorem wl0 (G : uG) (U : Nat → Nat) (t : Nat) (x : Nat × va_E) (h : (wg0 G U)[t]? = some x) : (wp15 G U)[t]? = some x := k_apl (k_apl (k_apl (k_apl (k_apl (k_apl (k_apl (k_apl (k_apl (k_apl (k_apl (k_apl (k_apl (k_apl (k_apl (h)))))))))))))))
theorem wl1 (G : uG) (U : Nat → Nat) (t : Nat) (x : Nat × va_E) (h : (wg1 G U)[t]? = some x) : (wp15 G U)[1 + t]? = some x := k_apl (k_apl (k_apl (k_apl (k_apl (k_apl (k_apl (k_apl (k_apl (k_apl (k_apl (k_apl (k_apl (k_apl (k_apr (wq0 G U) h))))))))))))))
theorem wl2 (G : uG) (U : Nat → Nat) (t : Nat) (x : Nat × va_E) (h : (wg2 G U)[t]? = some x) : (wp15 G U)[3 + t]? = some x := k_apl (k_apl (k_apl (k_apl (k_apl (k_apl (k_apl (k_apl (k_apl (k_apl (k_apl (k_apl (k_apl (k_apr (wq1 G U) h)))))))))))))
theorem wl3 (G : uG) (U : Nat → Nat) (t : Nat) (x : Nat × va_E) (h : (wg3 G U)[t]? = some x) : (wp15 G U)[5 + t]? = some x := k_apl (k_apl (k_apl (k_apl (k_apl (k_apl (k_apl (k_apl (k_apl (k_apl (k_apl (k_apl (k_apr (wq2 G U) h))))))))))))
theorem wl4 (G : uG) (U : Nat → Nat) (t : Nat) (x : Nat × va_E) (h : (wg4 G U)[t]? = some x) : (wp15 G U)[11 + t]? = some x := k_apl (k_apl (k_apl (k_apl (k_apl (k_apl (k_apl (k_apl (k_apl (k_apl (k_apl (k_apr (wq3 G U) h)))))))))))
theorem wl5 (G : uG) (U : Nat → Nat) (t : Nat) (x : Nat × va_E) (h : (wg5 G U)[t]? = some x) : (wp15 G U)[17 + t]? = some x := k_apl (k_apl (k_apl (k_apl (k_apl (k_apl (k_apl (k_apl (k_apl (k_apl (k_apr (wq4 G U) h))))))))))
theorem wl6 (G : uG) (U : Nat → Nat) (t : Nat) (x : Nat × va_E) (h : (wg6 G U)[t]? = some x) : (wp15 G U)[23 + t]? = some x := k_apl (k_apl (k_apl (k_apl (k_apl (k_apl (k_apl (k_apl (k_apl (k_apr (wq5 G U) h)))))))))
theorem wl7 (G : uG) (U : Nat → Nat) (t : Nat) (x : Nat × va_E) (h : (wg7 G U)[t]? = some x) : (wp15 G U)[110 + t]? = some x := k_apl (k_apl (k_apl (k_apl (k_apl (k_apl (k_apl (k_apl (k_apr (wq6 G U) h))))))))
theorem wl8 (G : uG) (U : Nat → Nat) (t : Nat) (x : Nat × va_E) (h : (wg8 G U)[t]? = some x) : (wp15 G U)[111 + t]? = some x := k_apl (k_apl (k_apl (k_apl (k_apl (k_apl (k_apl (k_apr (wq7 G U) h)))))))
theorem wl9 (G : uG) (U : Nat → Nat) (t : Nat) (x : Nat × va_E) (h : (wg9 G U)[t]? = some x) : (wp15 G U)[113 + t]? = some x := k_apl (k_apl (k_apl (k_apl (k_apl (k_apl (k_apr (wq8 G U) h))))))
theorem wl10 (G : uG) (U : Nat → Nat) (t : Nat) (x : Nat × va_E) (h : (wg10 G U)[t]? = some x) : (wp15 G U)[117 + t]? = some x := k_apl (k_apl (k_apl (k_apl (k_apl (k_apr (wq9 G U) h)))))
theorem wl11 (G : uG) (U : Nat → Nat) (t : Nat) (x : Nat × va_E) (h : (wg11 G U)[t]? = some x) : (wp15 G U)[121 + t]? = some x := k_apl (k_apl (k_apl (k_apl (k_apr (wq10 G U) h))))
theorem wl12 (G : uG) (U : Nat → Nat) (t : Nat) (x : Nat × va_E) (h : (wg12 G U)[t]? = some x) : (wp15 G U)[122 + t]? = some x := k_apl (k_apl (k_apl (k_apr (wq11 G U) h)))
theorem wl13 (G : uG) (U : Nat → Nat) (t : Nat) (x : Nat × va_E) (h : (wg13 G U)[t]? = some x) : (wp15 G U)[123 + t]? = some x := k_apl (k_apl (k_apr (wq12 G U) h))
theorem wl14 (G : uG) (U : Nat → Nat) (t : Nat) (x : Nat × va_E) (h : (wg14 G U)[t]? = some x) : (wp15 G U)[124 + t]? = some x := k_apl (k_apr (wq13 G U) h)
theorem wl15 (G : uG) (U : Nat → Nat) (t : Nat) (x : Nat × va_E) (h : (wg15 G U)[t]? = some x) : (wp15 G U)[129 + t]? = some x := k_apr (wq14 G U) h
theorem wi0 (G : uG) (U : Nat → Nat) : (wp15 G U)[k_pos 0]? = some (U 0, u_E ZC (G.1, G.2.1, U) σC0 0) := wl0 G U 0 _ rfl
theorem wi1 (G : uG) (U : Nat → Nat) : (wp15 G U)[k_pos 1]? = some (U 1, u_E ZC (G.1, G.2.1, U) σC0 1) := wl1 G U 0 _ rfl
theorem wi2 (G : uG) (U : Nat → Nat) : (wp15 G U)[k_pos 2]? = some (U 2, u_E ZC (G.1, G.2.1, U) σC0 2) := wl1 G U 1 _ rfl
theorem wi3 (G : uG) (U : Nat → Nat) : (wp15 G U)[k_pos 3]? = some (U 3, u_E ZC (G.1, G.2.1, U) σC0 3) := wl2 G U 0 _ rfl
theorem wi4 (G : uG) (U : Nat → Nat) : (wp15 G U)[k_pos 4]? = some (U 4, u_E ZC (G.1, G.2.1, U) σC0 4) := wl2 G U 1 _ rfl
theorem wi5 (G : uG) (U : Nat → Nat) : (wp15 G U)[k_pos 5]? = some (U 5, u_E ZC (G.1, G.2.1, U) σC0 5) := wl6 G U 0 _ rfl
theorem wi6 (G : uG) (U : Nat → Nat) : (wp15 G U)[k_pos 6]? = some (U 6, u_E ZC (G.1, G.2.1, U) σC0 6) := wl6 G U 1 _ rfl
theorem wi7 (G : uG) (U : Nat → Nat) : (wp15 G U)[k_pos 7]? = some (U 7, u_E ZC (G.1, G.2.1, U) σC0 7) := wl6 G U 2 _ rfl
theorem wi8 (G : uG) (U : Nat → Nat) : (wp15 G U)[k_pos 8]? = some (U 8, u_E ZC (G.1, G.2.1, U) σC0 8) := wl7 G U 0 _ rfl
theorem wi9 (G : uG) (U : Nat → Nat) : (wp15 G U)[k_pos 9]? = some (U 9, u_E ZC (G.1, G.2.1, U) σC0 9) := wl8 G U 0 _ rfl
theorem wi10 (G : uG) (U : Nat → Nat) : (wp15 G U)[k_pos 10]? = some (U 10, u_E ZC (G.1, G.2.1, U) σC0 10) := wl8 G U 1 _ rfl
theorem wi11 (G : uG) (U : Nat → Nat) : (wp15 G U)[k_pos 11]? = some (U 11, u_E ZC (G.1, G.2.1, U) σC0 11) := wl9 G U 0 _ rfl
theorem wi12 (G : uG) (U : Nat → Nat) : (wp15 G U)[k_pos 12]? = some (U 12, u_E ZC (G.1, G.2.1, U) σC0 12) := wl9 G U 1 _ rfl
theorem wi13 (G : uG) (U : Nat → Nat) : (wp15 G U)[k_pos 13]? = some (U 13, u_E ZC (G.1, G.2.1, U) σC0 13) := wl9 G U 2 _ rfl
theorem wi14 (G : uG) (U : Nat → Nat) : (wp15 G U)[k_pos 14]? = some (U 14, u_E ZC (G.1, G.2.1, U) σC0 14) := wl9 G U 3 _ rfl
theorem wi15 (G : uG) (U : Nat → Nat) : (wp15 G U)[k_pos 15]? = some (U 15, u_E ZC (G.1, G.2.1, U) σC0 15) := wl10 G U 0 _ rfl
theorem wi16 (G : uG) (U : Nat → Nat) : (wp15 G U)[k_pos 16]? = some (U 16, u_E ZC (G.1, G.2.1, U) σC0 16) := wl10 G U 1 _ rfl
theorem wi17 (G : uG) (U : Nat → Nat) : (wp15 G U)[k_pos 17]? = some (U 17, u_E ZC (G.1, G.2.1, U) σC0 17) := wl10 G U 2 _ rfl
theorem wi18 (G : uG) (U : Nat → Nat) : (wp15 G U)[k_pos 18]? = some (U 18, u_E ZC (G.1, G.2.1, U) σC0 18) := wl10 G U 3 _ rfl
theorem wi19 (G : uG) (U : Nat → Nat) : (wp15 G U)[k_pos 19]? = some (U 19, u_E ZC (G.1, G.2.1, U) σC0 19) := wl11 G U 0 _ rfl
theorem wi20 (G : uG) (U : Nat → Nat) : (wp15 G U)[k_pos 20]? = some (U 20, u_E ZC (G.1, G.2.1, U) σC0 20) := wl12 G U 0 _ rfl
theorem wi21 (G : uG) (U : Nat → Nat) : (wp15 G U)[k_pos 21]? = some (U 21, u_E ZC (G.1, G.2.1, U) σC0 21) := wl13 G U 0 _ rfl
theorem wi22 (G : uG) (U : Nat → Nat) : (wp15 G U)[k_pos 22]? = some (U 22, u_E ZC (G.1, G.2.1, U) σC0 22) := wl14 G U 0 _ rfl
theorem wi23 (G : uG) (U : Nat → Nat) : (wp15 G U)[k_pos 23]? = some (U 23, u_E ZC (G.1, G.2.1, U) σC0 23) := wl14 G U 1 _ rfl
theorem wi24 (G : uG) (U : Nat → Nat) : (wp15 G U)[k_pos 24]? = some (U 24, u_E ZC (G.1, G.2.1, U) σC0 24) := wl14 G U 2 _ rfl
theorem wi25 (G : uG) (U : Nat → Nat) : (wp15 G U)[k_pos 25]? = some (U 25, u_E ZC (G.1, G.2.1, U) σC0 25) := wl14 G U 3 _ rfl
theorem wi26 (G : uG) (U : Nat → Nat) : (wp15 G U)[k_pos 26]? = some (U 26, u_E ZC (G.1, G.2.1, U) σC0 26) := wl14 G U 4 _ rfl
theorem wi27 (G : uG) (U : Nat → Nat) : (wp15 G U)[k_pos 27]? = some (U 27, u_E ZC (G.1, G.2.1, U) σC0 27) := wl15 G U 0 _ rfl
theorem wi28 (G : uG) (U : Nat → Nat) : (wp15 G U)[k_pos 28]? = some (U 28, u_E ZC (G.1, G.2.1, U) σC0 28) := wl15 G U 1 _ rfl
theorem wi29 (G : uG) (U : Nat → Nat) : (wp15 G U)[k_pos 29]? = some (U 29, u_E ZC (G.1, G.2.1, U) σC0 29) := wl15 G U 2 _ rfl
theorem wi30 (G : uG) (U : Nat → Nat) : (wp15 G U)[k_pos 30]? = some (U 30, u_E ZC (G.1, G.2.1, U) σC0 30) := wl15 G U 3 _ rfl
theorem wi31 (G : uG) (U : Nat → Nat) : (wp15 G U)[k_pos 31]? = some (U 31, u_E ZC (G.1, G.2.1, U) σC0 31) := wl15 G U 4 _ rfl
theorem wi32 (G : uG) (U : Nat → Nat) : (wp15 G U)[k_pos 32]? = some (U 32, u_E ZC (G.1, G.2.1, U) σC0 32) := wl3 G U 0 _ rfl
theorem wi33 (G : uG) (U : Nat → Nat) : (wp15 G U)[k_pos 33]? = some (U 33, u_E ZC (G.1, G.2.1, U) σC0 33) := wl3 G U 1 _ rfl
theorem wi34 (G : uG) (U : Nat → Nat) : (wp15 G U)[k_pos 34]? = some (U 34, u_E ZC (G.1, G.2.1, U) σC0 34) := wl3 G U 2 _ rfl
theorem wi35 (G : uG) (U : Nat → Nat) : (wp15 G U)[k_pos 35]? = some (U 35, u_E ZC (G.1, G.2.1, U) σC0 35) := wl3 G U 3 _ rfl
theorem wi36 (G : uG) (U : Nat → Nat) : (wp15 G U)[k_pos 36]? = some (U 36, u_E ZC (G.1, G.2.1, U) σC0 36) := wl3 G U 4 _ rfl
theorem wi37 (G : uG) (U : Nat → Nat) : (wp15 G U)[k_pos 37]? = some (U 37, u_E ZC (G.1, G.2.1, U) σC0 37) := wl3 G U 5 _ rfl
theorem wi38 (G : uG) (U : Nat → Nat) : (wp15 G U)[k_pos 38]? = some (U 38, u_E ZC (G.1, G.2.1, U) σC0 38) := wl4 G U 0 _ rfl
theorem wi39 (G : uG) (U : Nat → Nat) : (wp15 G U)[k_pos 39]? = some (U 39, u_E ZC (G.1, G.2.1, U) σC0 39) := wl4 G U 1 _ rfl
theorem wi40 (G : uG) (U : Nat → Nat) : (wp15 G U)[k_pos 40]? = some (U 40, u_E ZC (G.1, G.2.1, U) σC0 40) := wl4 G U 2 _ rfl
theorem wi41 (G : uG) (U : Nat → Nat) : (wp15 G U)[k_pos 41]? = some (U 41, u_E ZC (G.1, G.2.1, U) σC0 41) := wl4 G U 3 _ rfl
theorem wi42 (G : uG) (U : Nat → Nat) : (wp15 G U)[k_pos 42]? = some (U 42, u_E ZC (G.1, G.2.1, U) σC0 42) := wl4 G U 4 _ rfl
theorem wi43 (G : uG) (U : Nat → Nat) : (wp15 G U)[k_pos 43]? = some (U 43, u_E ZC (G.1, G.2.1, U) σC0 43) := wl4 G U 5 _ rfl
theorem wi44 (G : uG) (U : Nat → Nat) : (wp15 G U)[k_pos 44]? = some (U 44, u_E ZC (G.1, G.2.1, U) σC0 44) := wl5 G U 0 _ rfl
theorem wi45 (G : uG) (U : Nat → Nat) : (wp15 G U)[k_pos 45]? = some (U 45, u_E ZC (G.1, G.2.1, U) σC0 45) := wl5 G U 1 _ rfl
theorem wi46 (G : uG) (U : Nat → Nat) : (wp15 G U)[k_pos 46]? = some (U 46, u_E ZC (G.1, G.2.1, U) σC0 46) := wl5 G U 2 _ rfl
theorem wi47 (G : uG) (U : Nat → Nat) : (wp15 G U)[k_pos 47]? = some (U 47, u_E ZC (G.1, G.2.1, U) σC0 47) := wl5 G U 3 _ rfl
theorem wi48 (G : uG) (U : Nat → Nat) : (wp15 G U)[k_pos 48]? = some (U 48, u_E ZC (G.1, G.2.1, U) σC0 48) := wl5 G U 4 _ rfl
theorem wi49 (G : uG) (U : Nat → Nat) : (wp15 G U)[k_pos 49]? = some (U 49, u_E ZC (G.1, G.2.1, U) σC0 49) := wl5 G U 5 _ rfl
theorem wi50 (G : uG) (U : Nat → Nat) : (wp15 G U)[k_pos 50]? = some (U 50, u_E ZC (G.1, G.2.1, U) σC0 50) := wl6 G U (3 + (6 * 0 + 0)) _ (k_apr (A := k_p3 G (U 5) (U 6) (U 7) _ _) rfl ((k_blk_get G _ 14 0 0 (by decide) (by decide)).trans rfl))
theorem wi51 (G : uG) (U : Nat → Nat) : (wp15 G U)[k_pos 51]? = some (U 51, u_E ZC (G.1, G.2.1, U) σC0 51) := wl6 G U (3 + (6 * 0 + 1)) _ (k_apr (A := k_p3 G (U 5) (U 6) (U 7) _ _) rfl ((k_blk_get G _ 14 0 1 (by decide) (by decide)).trans rfl))
theorem wi52 (G : uG) (U : Nat → Nat) : (wp15 G U)[k_pos 52]? = some (U 52, u_E ZC (G.1, G.2.1, U) σC0 52) := wl6 G U (3 + (6 * 0 + 2)) _ (k_apr (A := k_p3 G (U 5) (U 6) (U 7) _ _) rfl ((k_blk_get G _ 14 0 2 (by decide) (by decide)).trans rfl))
theorem wi53 (G : uG) (U : Nat → Nat) : (wp15 G U)[k_pos 53]? = some (U 53, u_E ZC (G.1, G.2.1, U) σC0 53) := wl6 G U (3 + (6 * 0 + 3)) _ (k_apr (A := k_p3 G (U 5) (U 6) (U 7) _ _) rfl ((k_blk_get G _ 14 0 3 (by decide) (by decide)).trans rfl))
theorem wi54 (G : uG) (U : Nat → Nat) : (wp15 G U)[k_pos 54]? = some (U 54, u_E ZC (G.1, G.2.1, U) σC0 54) := wl6 G U (3 + (6 * 0 + 4)) _ (k_apr (A := k_p3 G (U 5) (U 6) (U 7) _ _) rfl ((k_blk_get G _ 14 0 4 (by decide) (by decide)).trans rfl))
theorem wi55 (G : uG) (U : Nat → Nat) : (wp15 G U)[k_pos 55]? = some (U 55, u_E ZC (G.1, G.2.1, U) σC0 55) := wl6 G U (3 + (6 * 0 + 5)) _ (k_apr (A := k_p3 G (U 5) (U 6) (U 7) _ _) rfl ((k_blk_get G _ 14 0 5 (by decide) (by decide)).trans rfl))
theorem wi56 (G : uG) (U : Nat → Nat) : (wp15 G U)[k_pos 56]? = some (U 56, u_E ZC (G.1, G.2.1, U) σC0 56) := wl6 G U (3 + (6 * 1 + 0)) _ (k_apr (A := k_p3 G (U 5) (U 6) (U 7) _ _) rfl ((k_blk_get G _ 14 1 0 (by decide) (by decide)).trans rfl))
theorem wi57 (G : uG) (U : Nat → Nat) : (wp15 G U)[k_pos 57]? = some (U 57, u_E ZC (G.1, G.2.1, U) σC0 57) := wl6 G U (3 + (6 * 1 + 1)) _ (k_apr (A := k_p3 G (U 5) (U 6) (U 7) _ _) rfl ((k_blk_get G _ 14 1 1 (by decide) (by decide)).trans rfl))
theorem wi58 (G : uG) (U : Nat → Nat) : (wp15 G U)[k_pos 58]? = some (U 58, u_E ZC (G.1, G.2.1, U) σC0 58) := wl6 G U (3 + (6 * 1 + 2)) _ (k_apr (A := k_p3 G (U 5) (U 6) (U 7) _ _) rfl ((k_blk_get G _ 14 1 2 (by decide) (by decide)).trans rfl))
theorem wi59 (G : uG) (U : Nat → Nat) : (wp15 G U)[k_pos 59]? = some (U 59, u_E ZC (G.1, G.2.1, U) σC0 59) := wl6 G U (3 + (6 * 1 + 3)) _ (k_apr (A := k_p3 G (U 5) (U 6) (U 7) _ _) rfl ((k_blk_get G _ 14 1 3 (by decide) (by decide)).trans rfl))
theorem wi60 (G : uG) (U : Nat → Nat) : (wp15 G U)[k_pos 60]? = some (U 60, u_E ZC (G.1, G.2.1, U) σC0 60) := wl6 G U (3 + (6 * 1 + 4)) _ (k_apr (A := k_p3 G (U 5) (U 6) (U 7) _ _) rfl ((k_blk_get G _ 14 1 4 (by decide) (by decide)).trans rfl))
theorem wi61 (G : uG) (U : Nat → Nat) : (wp15 G U)[k_pos 61]? = some (U 61, u_E ZC (G.1, G.2.1, U) σC0 61) := wl6 G U (3 + (6 * 1 + 5)) _ (k_apr (A := k_p3 G (U 5) (U 6) (U 7) _ _) rfl ((k_blk_get G _ 14 1 5 (by decide) (by decide)).trans rfl))
theorem wi62 (G : uG) (U : Nat → Nat) : (wp15 G U)[k_pos 62]? = some (U 62, u_E ZC (G.1, G.2.1, U) σC0 62) := wl6 G U (3 + (6 * 2 + 0)) _ (k_apr (A := k_p3 G (U 5) (U 6) (U 7) _ _) rfl ((k_blk_get G _ 14 2 0 (by decide) (by decide)).trans rfl))
theorem wi63 (G : uG) (U : Nat → Nat) : (wp15 G U)[k_pos 63]? = some (U 63, u_E ZC (G.1, G.2.1, U) σC0 63) := wl6 G U (3 + (6 * 2 + 1)) _ (k_apr (A := k_p3 G (U 5) (U 6) (U 7) _ _) rfl ((k_blk_get G _ 14 2 1 (by decide) (by decide)).trans rfl))
theorem wi64 (G : uG) (U : Nat → Nat) : (wp15 G U)[k_pos 64]? = some (U 64, u_E ZC (G.1, G.2.1, U) σC0 64) := wl6 G U (3 + (6 * 2 + 2)) _ (k_apr (A := k_p3 G (U 5) (U 6) (U 7) _ _) rfl ((k_blk_get G _ 14 2 2 (by decide) (by decide)).trans rfl))
theorem wi65 (G : uG) (U : Nat → Nat) : (wp15 G U)[k_pos 65]? = some (U 65, u_E ZC (G.1, G.2.1, U) σC0 65) := wl6 G U (3 + (6 * 2 + 3)) _ (k_apr (A := k_p3 G (U 5) (U 6) (U 7) _ _) rfl ((k_blk_get G _ 14 2 3 (by decide) (by decide)).trans rfl))
theorem wi66 (G : uG) (U : Nat → Nat) : (wp15 G U)[k_pos 66]? = some (U 66, u_E ZC (G.1, G.2.1, U) σC0 66) := wl6 G U (3 + (6 * 2 + 4)) _ (k_apr (A := k_p3 G (U 5) (U 6) (U 7) _ _) rfl ((k_blk_get G _ 14 2 4 (by decide) (by decide)).trans rfl))
theorem wi67 (G : uG) (U : Nat → Nat) : (wp15 G U)[k_pos 67]? = some (U 67, u_E ZC (G.1, G.2.1, U) σC0 67) := wl6 G U (3 + (6 * 2 + 5)) _ (k_apr (A := k_p3 G (U 5) (U 6) (U 7) _ _) rfl ((k_blk_get G _ 14 2 5 (by decide) (by decide)).trans rfl))
theorem wi68 (G : uG) (U : Nat → Nat) : (wp15 G U)[k_pos 68]? = some (U 68, u_E ZC (G.1, G.2.1, U) σC0 68) := wl6 G U (3 + (6 * 3 + 0)) _ (k_apr (A := k_p3 G (U 5) (U 6) (U 7) _ _) rfl ((k_blk_get G _ 14 3 0 (by decide) (by decide)).trans rfl))
theorem wi69 (G : uG) (U : Nat → Nat) : (wp15 G U)[k_pos 69]? = some (U 69, u_E ZC (G.1, G.2.1, U) σC0 69) := wl6 G U (3 + (6 * 3 + 1)) _ (k_apr (A := k_p3 G (U 5) (U 6) (U 7) _ _) rfl ((k_blk_get G _ 14 3 1 (by decide) (by decide)).trans rfl))
theorem wi70 (G : uG) (U : Nat → Nat) : (wp15 G U)[k_pos 70]? = some (U 70, u_E ZC (G.1, G.2.1, U) σC0 70) := wl6 G U (3 + (6 * 3 + 2)) _ (k_apr (A := k_p3 G (U 5) (U 6) (U 7) _ _) rfl ((k_blk_get G _ 14 3 2 (by decide) (by decide)).trans rfl))
theorem wi71 (G : uG) (U : Nat → Nat) : (wp15 G U)[k_pos 71]? = some (U 71, u_E ZC (G.1, G.2.1, U) σC0 71) := wl6 G U (3 + (6 * 3 + 3)) _ (k_apr (A := k_p3 G (U 5) (U 6) (U 7) _ _) rfl ((k_blk_get G _ 14 3 3 (by decide) (by decide)).trans rfl))
theorem wi72 (G : uG) (U : Nat → Nat) : (wp15 G U)[k_pos 72]? = some (U 72, u_E ZC (G.1, G.2.1, U) σC0 72) := wl6 G U (3 + (6 * 3 + 4)) _ (k_apr (A := k_p3 G (U 5) (U 6) (U 7) _ _) rfl ((k_blk_get G _ 14 3 4 (by decide) (by decide)).trans rfl))
theorem wi73 (G : uG) (U : Nat → Nat) : (wp15 G U)[k_pos 73]? = some (U 73, u_E ZC (G.1, G.2.1, U) σC0 73) := wl6 G U (3 + (6 * 3 + 5)) _ (k_apr (A := k_p3 G (U 5) (U 6) (U 7) _ _) rfl ((k_blk_get G _ 14 3 5 (by decide) (by decide)).trans rfl))
theorem wi74 (G : uG) (U : Nat → Nat) : (wp15 G U)[k_pos 74]? = some (U 74, u_E ZC (G.1, G.2.1, U) σC0 74) := wl6 G U (3 + (6 * 4 + 0)) _ (k_apr (A := k_p3 G (U 5) (U 6) (U 7) _ _) rfl ((k_blk_get G _ 14 4 0 (by decide) (by decide)).trans rfl))
theorem wi75 (G : uG) (U : Nat → Nat) : (wp15 G U)[k_pos 75]? = some (U 75, u_E ZC (G.1, G.2.1, U) σC0 75) := wl6 G U (3 + (6 * 4 + 1)) _ (k_apr (A := k_p3 G (U 5) (U 6) (U 7) _ _) rfl ((k_blk_get G _ 14 4 1 (by decide) (by decide)).trans rfl))
theorem wi76 (G : uG) (U : Nat → Nat) : (wp15 G U)[k_pos 76]? = some (U 76, u_E ZC (G.1, G.2.1, U) σC0 76) := wl6 G U (3 + (6 * 4 + 2)) _ (k_apr (A := k_p3 G (U 5) (U 6) (U 7) _ _) rfl ((k_blk_get G _ 14 4 2 (by decide) (by decide)).trans rfl))
theorem wi77 (G : uG) (U : Nat → Nat) : (wp15 G U)[k_pos 77]? = some (U 77, u_E ZC (G.1, G.2.1, U) σC0 77) := wl6 G U (3 + (6 * 4 + 3)) _ (k_apr (A := k_p3 G (U 5) (U 6) (U 7) _ _) rfl ((k_blk_get G _ 14 4 3 (by decide) (by decide)).trans rfl))
theorem wi78 (G : uG) (U : Nat → Nat) : (wp15 G U)[k_pos 78]? = some (U 78, u_E ZC (G.1, G.2.1, U) σC0 78) := wl6 G U (3 + (6 * 4 + 4)) _ (k_apr (A := k_p3 G (U 5) (U 6) (U 7) _ _) rfl ((k_blk_get G _ 14 4 4 (by decide) (by decide)).trans rfl))
theorem wi79 (G : uG) (U : Nat → Nat) : (wp15 G U)[k_pos 79]? = some (U 79, u_E ZC (G.1, G.2.1, U) σC0 79) := wl6 G U (3 + (6 * 4 + 5)) _ (k_apr (A := k_p3 G (U 5) (U 6) (U 7) _ _) rfl ((k_blk_get G _ 14 4 5 (by decide) (by decide)).trans rfl))
theorem wi80 (G : uG) (U : Nat → Nat) : (wp15 G U)[k_pos 80]? = some (U 80, u_E ZC (G.1, G.2.1, U) σC0 80) := wl6 G U (3 + (6 * 5 + 0)) _ (k_apr (A := k_p3 G (U 5) (U 6) (U 7) _ _) rfl ((k_blk_get G _ 14 5 0 (by decide) (by decide)).trans rfl))
theorem wi81 (G : uG) (U : Nat → Nat) : (wp15 G U)[k_pos 81]? = some (U 81, u_E ZC (G.1, G.2.1, U) σC0 81) := wl6 G U (3 + (6 * 5 + 1)) _ (k_apr (A := k_p3 G (U 5) (U 6) (U 7) _ _) rfl ((k_blk_get G _ 14 5 1 (by decide) (by decide)).trans rfl))
theorem wi82 (G : uG) (U : Nat → Nat) : (wp15 G U)[k_pos 82]? = some (U 82, u_E ZC (G.1, G.2.1, U) σC0 82) := wl6 G U (3 + (6 * 5 + 2)) _ (k_apr (A := k_p3 G (U 5) (U 6) (U 7) _ _) rfl ((k_blk_get G _ 14 5 2 (by decide) (by decide)).trans rfl))
theorem wi83 (G : uG) (U : Nat → Nat) : (wp15 G U)[k_pos 83]? = some (U 83, u_E ZC (G.1, G.2.1, U) σC0 83) := wl6 G U (3 + (6 * 5 + 3)) _ (k_apr (A := k_p3 G (U 5) (U 6) (U 7) _ _) rfl ((k_blk_get G _ 14 5 3 (by decide) (by decide)).trans rfl))
theorem wi84 (G : uG) (U : Nat → Nat) : (wp15 G U)[k_pos 84]? = some (U 84, u_E ZC (G.1, G.2.1, U) σC0 84) := wl6 G U (3 + (6 * 5 + 4)) _ (k_apr (A := k_p3 G (U 5) (U 6) (U 7) _ _) rfl ((k_blk_get G _ 14 5 4 (by decide) (by decide)).trans rfl))
theorem wi85 (G : uG) (U : Nat → Nat) : (wp15 G U)[k_pos 85]? = some (U 85, u_E ZC (G.1, G.2.1, U) σC0 85) := wl6 G U (3 + (6 * 5 + 5)) _ (k_apr (A := k_p3 G (U 5) (U 6) (U 7) _ _) rfl ((k_blk_get G _ 14 5 5 (by decide) (by decide)).trans rfl))
theorem wi86 (G : uG) (U : Nat → Nat) : (wp15 G U)[k_pos 86]? = some (U 86, u_E ZC (G.1, G.2.1, U) σC0 86) := wl6 G U (3 + (6 * 6 + 0)) _ (k_apr (A := k_p3 G (U 5) (U 6) (U 7) _ _) rfl ((k_blk_get G _ 14 6 0 (by decide) (by decide)).trans rfl))
theorem wi87 (G : uG) (U : Nat → Nat) : (wp15 G U)[k_pos 87]? = some (U 87, u_E ZC (G.1, G.2.1, U) σC0 87) := wl6 G U (3 + (6 * 6 + 1)) _ (k_apr (A := k_p3 G (U 5) (U 6) (U 7) _ _) rfl ((k_blk_get G _ 14 6 1 (by decide) (by decide)).trans rfl))
theorem wi88 (G : uG) (U : Nat → Nat) : (wp15 G U)[k_pos 88]? = some (U 88, u_E ZC (G.1, G.2.1, U) σC0 88) := wl6 G U (3 + (6 * 6 + 2)) _ (k_apr (A := k_p3 G (U 5) (U 6) (U 7) _ _) rfl ((k_blk_get G _ 14 6 2 (by decide) (by decide)).trans rfl))
theorem wi89 (G : uG) (U : Nat → Nat) : (wp15 G U)[k_pos 89]? = some (U 89, u_E ZC (G.1, G.2.1, U) σC0 89) := wl6 G U (3 + (6 * 6 + 3)) _ (k_apr (A := k_p3 G (U 5) (U 6) (U 7) _ _) rfl ((k_blk_get G _ 14 6 3 (by decide) (by decide)).trans rfl))
theorem wi90 (G : uG) (U : Nat → Nat) : (wp15 G U)[k_pos 90]? = some (U 90, u_E ZC (G.1, G.2.1, U) σC0 90) := wl6 G U (3 + (6 * 6 + 4)) _ (k_apr (A := k_p3 G (U 5) (U 6) (U 7) _ _) rfl ((k_blk_get G _ 14 6 4 (by decide) (by decide)).trans rfl))
theorem wi91 (G : uG) (U : Nat → Nat) : (wp15 G U)[k_pos 91]? = some (U 91, u_E ZC (G.1, G.2.1, U) σC0 91) := wl6 G U (3 + (6 * 6 + 5)) _ (k_apr (A := k_p3 G (U 5) (U 6) (U 7) _ _) rfl ((k_blk_get G _ 14 6 5 (by decide) (by decide)).trans rfl))
theorem wi92 (G : uG) (U : Nat → Nat) : (wp15 G U)[k_pos 92]? = some (U 92, u_E ZC (G.1, G.2.1, U) σC0 92) := wl6 G U (3 + (6 * 7 + 0)) _ (k_apr (A := k_p3 G (U 5) (U 6) (U 7) _ _) rfl ((k_blk_get G _ 14 7 0 (by decide) (by decide)).trans rfl))
theorem wi93 (G : uG) (U : Nat → Nat) : (wp15 G U)[k_pos 93]? = some (U 93, u_E ZC (G.1, G.2.1, U) σC0 93) := wl6 G U (3 + (6 * 7 + 1)) _ (k_apr (A := k_p3 G (U 5) (U 6) (U 7) _ _) rfl ((k_blk_get G _ 14 7 1 (by decide) (by decide)).trans rfl))
theorem wi94 (G : uG) (U : Nat → Nat) : (wp15 G U)[k_pos 94]? = some (U 94, u_E ZC (G.1, G.2.1, U) σC0 94) := wl6 G U (3 + (6 * 7 + 2)) _ (k_apr (A := k_p3 G (U 5) (U 6) (U 7) _ _) rfl ((k_blk_get G _ 14 7 2 (by decide) (by decide)).trans rfl))
theorem wi95 (G : uG) (U : Nat → Nat) : (wp15 G U)[k_pos 95]? = some (U 95, u_E ZC (G.1, G.2.1, U) σC0 95) := wl6 G U (3 + (6 * 7 + 3)) _ (k_apr (A := k_p3 G (U 5) (U 6) (U 7) _ _) rfl ((k_blk_get G _ 14 7 3 (by decide) (by decide)).trans rfl))
theorem wi96 (G : uG) (U : Nat → Nat) : (wp15 G U)[k_pos 96]? = some (U 96, u_E ZC (G.1, G.2.1, U) σC0 96) := wl6 G U (3 + (6 * 7 + 4)) _ (k_apr (A := k_p3 G (U 5) (U 6) (U 7) _ _) rfl ((k_blk_get G _ 14 7 4 (by decide) (by decide)).trans rfl))
theorem wi97 (G : uG) (U : Nat → Nat) : (wp15 G U)[k_pos 97]? = some (U 97, u_E ZC (G.1, G.2.1, U) σC0 97) := wl6 G U (3 + (6 * 7 + 5)) _ (k_apr (A := k_p3 G (U 5) (U 6) (U 7) _ _) rfl ((k_blk_get G _ 14 7 5 (by decide) (by decide)).trans rfl))
theorem wi98 (G : uG) (U : Nat → Nat) : (wp15 G U)[k_pos 98]? = some (U 98, u_E ZC (G.1, G.2.1, U) σC0 98) := wl6 G U (3 + (6 * 8 + 0)) _ (k_apr (A := k_p3 G (U 5) (U 6) (U 7) _ _) rfl ((k_blk_get G _ 14 8 0 (by decide) (by decide)).trans rfl))
theorem wi99 (G : uG) (U : Nat → Nat) : (wp15 G U)[k_pos 99]? = some (U 99, u_E ZC (G.1, G.2.1, U) σC0 99) := wl6 G U (3 + (6 * 8 + 1)) _ (k_apr (A := k_p3 G (U 5) (U 6) (U 7) _ _) rfl ((k_blk_get G _ 14 8 1 (by decide) (by decide)).trans rfl))
theorem wi100 (G : uG) (U : Nat → Nat) : (wp15 G U)[k_pos 100]? = some (U 100, u_E ZC (G.1, G.2.1, U) σC0 100) := wl6 G U (3 + (6 * 8 + 2)) _ (k_apr (A := k_p3 G (U 5) (U 6) (U 7) _ _) rfl ((k_blk_get G _ 14 8 2 (by decide) (by decide)).trans rfl))
theorem wi101 (G : uG) (U : Nat → Nat) : (wp15 G U)[k_pos 101]? = some (U 101, u_E ZC (G.1, G.2.1, U) σC0 101) := wl6 G U (3 + (6 * 8 + 3)) _ (k_apr (A := k_p3 G (U 5) (U 6) (U 7) _ _) rfl ((k_blk_get G _ 14 8 3 (by decide) (by decide)).trans rfl))
theorem wi102 (G : uG) (U : Nat → Nat) : (wp15 G U)[k_pos 102]? = some (U 102, u_E ZC (G.1, G.2.1, U) σC0 102) := wl6 G U (3 + (6 * 8 + 4)) _ (k_apr (A := k_p3 G (U 5) (U 6) (U 7) _ _) rfl ((k_blk_get G _ 14 8 4 (by decide) (by decide)).trans rfl))
theorem wi103 (G : uG) (U : Nat → Nat) : (wp15 G U)[k_pos 103]? = some (U 103, u_E ZC (G.1, G.2.1, U) σC0 103) := wl6 G U (3 + (6 * 8 + 5)) _ (k_apr (A := k_p3 G (U 5) (U 6) (U 7) _ _) rfl ((k_blk_get G _ 14 8 5 (by decide) (by decide)).trans rfl))
theorem wi104 (G : uG) (U : Nat → Nat) : (wp15 G U)[k_pos 104]? = some (U 104, u_E ZC (G.1, G.2.1, U) σC0 104) := wl6 G U (3 + (6 * 9 + 0)) _ (k_apr (A := k_p3 G (U 5) (U 6) (U 7) _ _) rfl ((k_blk_get G _ 14 9 0 (by decide) (by decide)).trans rfl))
theorem wi105 (G : uG) (U : Nat → Nat) : (wp15 G U)[k_pos 105]? = some (U 105, u_E ZC (G.1, G.2.1, U) σC0 105) := wl6 G U (3 + (6 * 9 + 1)) _ (k_apr (A := k_p3 G (U 5) (U 6) (U 7) _ _) rfl ((k_blk_get G _ 14 9 1 (by decide) (by decide)).trans rfl))
theorem wi106 (G : uG) (U : Nat → Nat) : (wp15 G U)[k_pos 106]? = some (U 106, u_E ZC (G.1, G.2.1, U) σC0 106) := wl6 G U (3 + (6 * 9 + 2)) _ (k_apr (A := k_p3 G (U 5) (U 6) (U 7) _ _) rfl ((k_blk_get G _ 14 9 2 (by decide) (by decide)).trans rfl))
theorem wi107 (G : uG) (U : Nat → Nat) : (wp15 G U)[k_pos 107]? = some (U 107, u_E ZC (G.1, G.2.1, U) σC0 107) := wl6 G U (3 + (6 * 9 + 3)) _ (k_apr (A := k_p3 G (U 5) (U 6) (U 7) _ _) rfl ((k_blk_get G _ 14 9 3 (by decide) (by decide)).trans rfl))
theorem wi108 (G : uG) (U : Nat → Nat) : (wp15 G U)[k_pos 108]? = some (U 108, u_E ZC (G.1, G.2.1, U) σC0 108) := wl6 G U (3 + (6 * 9 + 4)) _ (k_apr (A := k_p3 G (U 5) (U 6) (U 7) _ _) rfl ((k_blk_get G _ 14 9 4 (by decide) (by decide)).trans rfl))
theorem wi109 (G : uG) (U : Nat → Nat) : (wp15 G U)[k_pos 109]? = some (U 109, u_E ZC (G.1, G.2.1, U) σC0 109) := wl6 G U (3 + (6 * 9 + 5)) _ (k_apr (A := k_p3 G (U 5) (U 6) (U 7) _ _) rfl ((k_blk_get G _ 14 9 5 (by decide) (by decide)).trans rfl))
theorem wi110 (G : uG) (U : Nat → Nat) : (wp15 G U)[k_pos 110]? = some (U 110, u_E ZC (G.1, G.2.1, U) σC0 110) := wl6 G U (3 + (6 * 10 + 0)) _ (k_apr (A := k_p3 G (U 5) (U 6) (U 7) _ _) rfl ((k_blk_get G _ 14 10 0 (by decide) (by decide)).trans rfl))
theorem wi111 (G : uG) (U : Nat → Nat) : (wp15 G U)[k_pos 111]? = some (U 111, u_E ZC (G.1, G.2.1, U) σC0 111) := wl6 G U (3 + (6 * 10 + 1)) _ (k_apr (A := k_p3 G (U 5) (U 6) (U 7) _ _) rfl ((k_blk_get G _ 14 10 1 (by decide) (by decide)).trans rfl))
theorem wi112 (G : uG) (U : Nat → Nat) : (wp15 G U)[k_pos 112]? = some (U 112, u_E ZC (G.1, G.2.1, U) σC0 112) := wl6 G U (3 + (6 * 10 + 2)) _ (k_apr (A := k_p3 G (U 5) (U 6) (U 7) _ _) rfl ((k_blk_get G _ 14 10 2 (by decide) (by decide)).trans rfl))
theorem wi113 (G : uG) (U : Nat → Nat) : (wp15 G U)[k_pos 113]? = some (U 113, u_E ZC (G.1, G.2.1, U) σC0 113) := wl6 G U (3 + (6 * 10 + 3)) _ (k_apr (A := k_p3 G (U 5) (U 6) (U 7) _ _) rfl ((k_blk_get G _ 14 10 3 (by decide) (by decide)).trans rfl))
theorem wi114 (G : uG) (U : Nat → Nat) : (wp15 G U)[k_pos 114]? = some (U 114, u_E ZC (G.1, G.2.1, U) σC0 114) := wl6 G U (3 + (6 * 10 + 4)) _ (k_apr (A := k_p3 G (U 5) (U 6) (U 7) _ _) rfl ((k_blk_get G _ 14 10 4 (by decide) (by decide)).trans rfl))
theorem wi115 (G : uG) (U : Nat → Nat) : (wp15 G U)[k_pos 115]? = some (U 115, u_E ZC (G.1, G.2.1, U) σC0 115) := wl6 G U (3 + (6 * 10 + 5)) _ (k_apr (A := k_p3 G (U 5) (U 6) (U 7) _ _) rfl ((k_blk_get G _ 14 10 5 (by decide) (by decide)).trans rfl))
theorem wi116 (G : uG) (U : Nat → Nat) : (wp15 G U)[k_pos 116]? = some (U 116, u_E ZC (G.1, G.2.1, U) σC0 116) := wl6 G U (3 + (6 * 11 + 0)) _ (k_apr (A := k_p3 G (U 5) (U 6) (U 7) _ _) rfl ((k_blk_get G _ 14 11 0 (by decide) (by decide)).trans rfl))
theorem wi117 (G : uG) (U : Nat → Nat) : (wp15 G U)[k_pos 117]? = some (U 117, u_E ZC (G.1, G.2.1, U) σC0 117) := wl6 G U (3 + (6 * 11 + 1)) _ (k_apr (A := k_p3 G (U 5) (U 6) (U 7) _ _) rfl ((k_blk_get G _ 14 11 1 (by decide) (by decide)).trans rfl))
theorem wi118 (G : uG) (U : Nat → Nat) : (wp15 G U)[k_pos 118]? = some (U 118, u_E ZC (G.1, G.2.1, U) σC0 118) := wl6 G U (3 + (6 * 11 + 2)) _ (k_apr (A := k_p3 G (U 5) (U 6) (U 7) _ _) rfl ((k_blk_get G _ 14 11 2 (by decide) (by decide)).trans rfl))
theorem wi119 (G : uG) (U : Nat → Nat) : (wp15 G U)[k_pos 119]? = some (U 119, u_E ZC (G.1, G.2.1, U) σC0 119) := wl6 G U (3 + (6 * 11 + 3)) _ (k_apr (A := k_p3 G (U 5) (U 6) (U 7) _ _) rfl ((k_blk_get G _ 14 11 3 (by decide) (by decide)).trans rfl))
theorem wi120 (G : uG) (U : Nat → Nat) : (wp15 G U)[k_pos 120]? = some (U 120, u_E ZC (G.1, G.2.1, U) σC0 120) := wl6 G U (3 + (6 * 11 + 4)) _ (k_apr (A := k_p3 G (U 5) (U 6) (U 7) _ _) rfl ((k_blk_get G _ 14 11 4 (by decide) (by decide)).trans rfl))
theorem wi121 (G : uG) (U : Nat → Nat) : (wp15 G U)[k_pos 121]? = some (U 121, u_E ZC (G.1, G.2.1, U) σC0 121) := wl6 G U (3 + (6 * 11 + 5)) _ (k_apr (A := k_p3 G (U 5) (U 6) (U 7) _ _) rfl ((k_blk_get G _ 14 11 5 (by decide) (by decide)).trans rfl))
theorem wi122 (G : uG) (U : Nat → Nat) : (wp15 G U)[k_pos 122]? = some (U 122, u_E ZC (G.1, G.2.1, U) σC0 122) := wl6 G U (3 + (6 * 12 + 0)) _ (k_apr (A := k_p3 G (U 5) (U 6) (U 7) _ _) rfl ((k_blk_get G _ 14 12 0 (by decide) (by decide)).trans rfl))
theorem wi123 (G : uG) (U : Nat → Nat) : (wp15 G U)[k_pos 123]? = some (U 123, u_E ZC (G.1, G.2.1, U) σC0 123) := wl6 G U (3 + (6 * 12 + 1)) _ (k_apr (A := k_p3 G (U 5) (U 6) (U 7) _ _) rfl ((k_blk_get G _ 14 12 1 (by decide) (by decide)).trans rfl))
theorem wi124 (G : uG) (U : Nat → Nat) : (wp15 G U)[k_pos 124]? = some (U 124, u_E ZC (G.1, G.2.1, U) σC0 124) := wl6 G U (3 + (6 * 12 + 2)) _ (k_apr (A := k_p3 G (U 5) (U 6) (U 7) _ _) rfl ((k_blk_get G _ 14 12 2 (by decide) (by decide)).trans rfl))
theorem wi125 (G : uG) (U : Nat → Nat) : (wp15 G U)[k_pos 125]? = some (U 125, u_E ZC (G.1, G.2.1, U) σC0 125) := wl6 G U (3 + (6 * 12 + 3)) _ (k_apr (A := k_p3 G (U 5) (U 6) (U 7) _ _) rfl ((k_blk_get G _ 14 12 3 (by decide) (by decide)).trans rfl))
theorem wi126 (G : uG) (U : Nat → Nat) : (wp15 G U)[k_pos 126]? = some (U 126, u_E ZC (G.1, G.2.1, U) σC0 126) := wl6 G U (3 + (6 * 12 + 4)) _ (k_apr (A := k_p3 G (U 5) (U 6) (U 7) _ _) rfl ((k_blk_get G _ 14 12 4 (by decide) (by decide)).trans rfl))
theorem wi127 (G : uG) (U : Nat → Nat) : (wp15 G U)[k_pos 127]? = some (U 127, u_E ZC (G.1, G.2.1, U) σC0 127) := wl6 G U (3 + (6 * 12 + 5)) _ (k_apr (A := k_p3 G (U 5) (U 6) (U 7) _ _) rfl ((k_blk_get G _ 14 12 5 (by decide) (by decide)).trans rfl))
theorem wi128 (G : uG) (U : Nat → Nat) : (wp15 G U)[k_pos 128]? = some (U 128, u_E ZC (G.1, G.2.1, U) σC0 128) := wl6 G U (3 + (6 * 13 + 0)) _ (k_apr (A := k_p3 G (U 5) (U 6) (U 7) _ _) rfl ((k_blk_get G _ 14 13 0 (by decide) (by decide)).trans rfl))
theorem wi129 (G : uG) (U : Nat → Nat) : (wp15 G U)[k_pos 129]? = some (U 129, u_E ZC (G.1, G.2.1, U) σC0 129) := wl6 G U (3 + (6 * 13 + 1)) _ (k_apr (A := k_p3 G (U 5) (U 6) (U 7) _ _) rfl ((k_blk_get G _ 14 13 1 (by decide) (by decide)).trans rfl))
theorem wi130 (G : uG) (U : Nat → Nat) : (wp15 G U)[k_pos 130]? = some (U 130, u_E ZC (G.1, G.2.1, U) σC0 130) := wl6 G U (3 + (6 * 13 + 2)) _ (k_apr (A := k_p3 G (U 5) (U 6) (U 7) _ _) rfl ((k_blk_get G _ 14 13 2 (by decide) (by decide)).trans rfl))
theorem wi131 (G : uG) (U : Nat → Nat) : (wp15 G U)[k_pos 131]? = some (U 131, u_E ZC (G.1, G.2.1, U) σC0 131) := wl6 G U (3 + (6 * 13 + 3)) _ (k_apr (A := k_p3 G (U 5) (U 6) (U 7) _ _) rfl ((k_blk_get G _ 14 13 3 (by decide) (by decide)).trans rfl))
theorem wi132 (G : uG) (U : Nat → Nat) : (wp15 G U)[k_pos 132]? = some (U 132, u_E ZC (G.1, G.2.1, U) σC0 132) := wl6 G U (3 + (6 * 13 + 4)) _ (k_apr (A := k_p3 G (U 5) (U 6) (U 7) _ _) rfl ((k_blk_get G _ 14 13 4 (by decide) (by decide)).trans rfl))
theorem wi133 (G : uG) (U : Nat → Nat) : (wp15 G U)[k_pos 133]? = some (U 133, u_E ZC (G.1, G.2.1, U) σC0 133) := wl6 G U (3 + (6 * 13 + 5)) _ (k_apr (A := k_p3 G (U 5) (U 6) (U 7) _ _) rfl ((k_blk_get G _ 14 13 5 (by decide) (by decide)).trans rfl))
theorem wall (G : uG) (U : Nat → Nat) : ∀ i, i < 134 → (wp15 G U)[k_pos i]? = some (U i, u_E ZC (G.1, G.2.1, U) σC0 i) := by
  suffices h : k_allP (fun i => (wp15 G U)[k_pos i]? = some (U i, u_E ZC (G.1, G.2.1, U) σC0 i)) 134 from k_all 134 h
  refine ⟨?_, wi133 G U⟩
  refine ⟨?_, wi132 G U⟩
  refine ⟨?_, wi131 G U⟩
  refine ⟨?_, wi130 G U⟩
  refine ⟨?_, wi129 G U⟩
  refine ⟨?_, wi128 G U⟩
  refine ⟨?_, wi127 G U⟩
  refine ⟨?_, wi126 G U⟩
  refine ⟨?_, wi125 G U⟩
  refine ⟨?_, wi124 G U⟩
  refine ⟨?_, wi123 G U⟩
  refine ⟨?_, wi122 G U⟩
  refine ⟨?_, wi121 G U⟩
  refine ⟨?_, wi120 G U⟩
  refine ⟨?_, wi119 G U⟩
  refine ⟨?_, wi118 G U⟩
  refine ⟨?_, wi117 G U⟩
  refine ⟨?_, wi116 G U⟩
  refine ⟨?_, wi115 G U⟩
  refine ⟨?_, wi114 G U⟩
  refine ⟨?_, wi113 G U⟩
  refine ⟨?_, wi112 G U⟩
  refine ⟨?_, wi111 G U⟩
  refine ⟨?_, wi110 G U⟩
  refine ⟨?_, wi109 G U⟩
  refine ⟨?_, wi108 G U⟩
  refine ⟨?_, wi107 G U⟩
  refine ⟨?_, wi106 G U⟩
  refine ⟨?_, wi105 G U⟩
  refine ⟨?_, wi104 G U⟩
  refine ⟨?_, wi103 G U⟩
  refine ⟨?_, wi102 G U⟩
  refine ⟨?_, wi101 G U⟩
  refine ⟨?_, wi100 G U⟩
  refine ⟨?_, wi99 G U⟩
  refine ⟨?_, wi98 G U⟩
  refine ⟨?_, wi97 G U⟩
  refine ⟨?_, wi96 G U⟩
  refine ⟨?_, wi95 G U⟩
  refine ⟨?_, wi94 G U⟩
  refine ⟨?_, wi93 G U⟩
  refine ⟨?_, wi92 G U⟩
  refine ⟨?_, wi91 G U⟩
  refine ⟨?_, wi90 G U⟩
  refine ⟨?_, wi89 G U⟩
  refine ⟨?_, wi88 G U⟩
  refine ⟨?_, wi87 G U⟩
  refine ⟨?_, wi86 G U⟩
  refine ⟨?_, wi85 G U⟩
  refine ⟨?_, wi84 G U⟩
  refine ⟨?_, wi83 G U⟩
  refine ⟨?_, wi82 G U⟩
  refine ⟨?_, wi81 G U⟩
  refine ⟨?_, wi80 G U⟩
  refine ⟨?_, wi79 G U⟩
  refine ⟨?_, wi78 G U⟩
  refine ⟨?_, wi77 G U⟩
  refine ⟨?_, wi76 G U⟩
  refine ⟨?_, wi75 G U⟩
  refine ⟨?_, wi74 G U⟩
  refine ⟨?_, wi73 G U⟩
  refine ⟨?_, wi72 G U⟩
  refine ⟨?_, wi71 G U⟩
  refine ⟨?_, wi70 G U⟩
  refine ⟨?_, wi69 G U⟩
  refine ⟨?_, wi68 G U⟩
  refine ⟨?_, wi67 G U⟩
  refine ⟨?_, wi66 G U⟩
  refine ⟨?_, wi65 G U⟩
  refine ⟨?_, wi64 G U⟩
  refine ⟨?_, wi63 G U⟩
  refine ⟨?_, wi62 G U⟩
  refine ⟨?_, wi61 G U⟩
  refine ⟨?_, wi60 G U⟩
  refine ⟨?_, wi59 G U⟩
  refine ⟨?_, wi58 G U⟩
  refine ⟨?_, wi57 G U⟩
  refine ⟨?_, wi56 G U⟩
  refine ⟨?_, wi55 G U⟩
  refine ⟨?_, wi54 G U⟩
  refine ⟨?_, wi53 G U⟩
  refine ⟨?_, wi52 G U⟩
  refine ⟨?_, wi51 G U⟩
  refine ⟨?_, wi50 G U⟩
  refine ⟨?_, wi49 G U⟩
  refine ⟨?_, wi48 G U⟩
  refine ⟨?_, wi47 G U⟩
  refine ⟨?_, wi46 G U⟩
  refine ⟨?_, wi45 G U⟩
  refine ⟨?_, wi44 G U⟩
  refine ⟨?_, wi43 G U⟩
  refine ⟨?_, wi42 G U⟩
  refine ⟨?_, wi41 G U⟩
  refine ⟨?_, wi40 G U⟩
  refine ⟨?_, wi39 G U⟩
  refine ⟨?_, wi38 G U⟩
  refine ⟨?_, wi37 G U⟩
  refine ⟨?_, wi36 G U⟩
  refine ⟨?_, wi35 G U⟩
  refine ⟨?_, wi34 G U⟩
  refine ⟨?_, wi33 G U⟩
  refine ⟨?_, wi32 G U⟩
  refine ⟨?_, wi31 G U⟩
  refine ⟨?_, wi30 G U⟩
  refine ⟨?_, wi29 G U⟩
  refine ⟨?_, wi28 G U⟩
  refine ⟨?_, wi27 G U⟩
  refine ⟨?_, wi26 G U⟩
  refine ⟨?_, wi25 G U⟩
  refine ⟨?_, wi24 G U⟩
  refine ⟨?_, wi23 G U⟩
  refine ⟨?_, wi22 G U⟩
  refine ⟨?_, wi21 G U⟩
  refine ⟨?_, wi20 G U⟩
  refine ⟨?_, wi19 G U⟩
  refine ⟨?_, wi18 G U⟩
  refine ⟨?_, wi17 G U⟩
  refine ⟨?_, wi16 G U⟩
  refine ⟨?_, wi15 G U⟩
  refine ⟨?_, wi14 G U⟩
  refine ⟨?_, wi13 G U⟩
  refine ⟨?_, wi12 G U⟩
  refine ⟨?_, wi11 G U⟩
  refine ⟨?_, wi10 G U⟩
  refine ⟨?_, wi9 G U⟩
  refine ⟨?_, wi8 G U⟩
  refine ⟨?_, wi7 G U⟩
  refine ⟨?_, wi6 G U⟩
  refine ⟨?_, wi5 G U⟩
  refine ⟨?_, wi4 G U⟩
  refine ⟨?_, wi3 G U⟩
  refine ⟨?_, wi2 G U⟩
  refine ⟨?_, wi1 G U⟩
  refine ⟨?_, wi0 G U⟩
  exact trivial
set_option maxRecDepth 100000 in
set_option maxHeartbeats 4000000 in
theorem c_X11_init (l : Launch) (G : uG) : k_M l G yX11_init cX11_init 1 6 133 1868 10 [.null, .null, .null, .null, .null, .null, .null, .null, .null, .null, .null, .null, .null, .null, .null] (fun u => u_w ZC (G.1, G.2.1, u) σC0) := by
  refine k_M_of RX11 (by decide) rfl rfl (by decide) ?_
  intro p e s m args below meth c ls h0 A hAe cx hw hl
  have hx := cx.1.1
  have hb := cx.1.2.1
  refine lv_aload_n hx hb dX11_init_0 rfl (lv_at hl 0 rfl) ?_
  refine k_obj cx.1 q_26 hl.1 (Nat.le_of_ble_eq_true rfl) (Nat.le_of_ble_eq_true rfl) (Nat.le_of_ble_eq_true rfl) dX11_init_1 ?_
  refine lv_aload_n hx hb dX11_init_4 rfl (lv_at hl 0 rfl) ?_
  refine k_mk cx.1 cx.2.2 hw (cw := cw_X10 G) KN_X11_7 dfX10 KI_X11_9 (c_X10_init l G) hl.1 (Nat.le_of_ble_eq_true rfl) (Nat.le_of_ble_eq_true rfl) (Nat.le_of_ble_eq_true rfl) (Nat.le_of_ble_eq_true rfl) (Nat.le_of_ble_eq_true rfl) dX11_init_5 dX11_init_8 dX11_init_9 (fun u1 H locs hw => ?_)
  have hw : k_W G A ([(h0, .inr (10, [.null, .null, .null, .null, .null, .null, .null, .null, .null, .null, .null, .null, .null, .null, .null]))] ++ cw_X10 G u1) s _ _ := hw
  refine k_putF cx.1 cx.2.1 hw F_X11_10 tyX11_ok nmX11 q_289 0 rfl rfl rfl rfl rfl (Nat.le_of_ble_eq_true rfl) dX11_init_12 (fun H locs hw => ?_)
  have hw : k_W G A ([(h0, .inr (10, [.ref (u1 0), .null, .null, .null, .null, .null, .null, .null, .null, .null, .null, .null, .null, .null, .null]))] ++ cw_X10 G u1) s _ _ := hw
  refine lv_aload_n hx hb dX11_init_15 rfl (lv_at hl 0 rfl) ?_
  refine k_mk cx.1 cx.2.2 hw (cw := cw_X8 G) KN_X11_16 dfX8 KI_X11_18 (c_X8_init l G) hl.1 (Nat.le_of_ble_eq_true rfl) (Nat.le_of_ble_eq_true rfl) (Nat.le_of_ble_eq_true rfl) (Nat.le_of_ble_eq_true rfl) (Nat.le_of_ble_eq_true rfl) dX11_init_16 dX11_init_19 dX11_init_20 (fun u2 H locs hw => ?_)
  have hw : k_W G A ([(h0, .inr (10, [.ref (u1 0), .null, .null, .null, .null, .null, .null, .null, .null, .null, .null, .null, .null, .null, .null]))] ++ cw_X10 G u1 ++ cw_X8 G u2) s _ _ := hw
  refine k_putF cx.1 cx.2.1 hw F_X11_19 tyX11_ok nmX11 q_290 0 rfl rfl rfl rfl rfl (Nat.le_of_ble_eq_true rfl) dX11_init_23 (fun H locs hw => ?_)
  have hw : k_W G A ([(h0, .inr (10, [.ref (u1 0), .ref (u2 0), .null, .null, .null, .null, .null, .null, .null, .null, .null, .null, .null, .null, .null]))] ++ cw_X10 G u1 ++ cw_X8 G u2) s _ _ := hw
  refine lv_aload_n hx hb dX11_init_26 rfl (lv_at hl 0 rfl) ?_
  refine k_mk cx.1 cx.2.2 hw (cw := cw_X7 G) KN_X11_23 dfX7 KI_X11_25 (c_X7_init l G) hl.1 (Nat.le_of_ble_eq_true rfl) (Nat.le_of_ble_eq_true rfl) (Nat.le_of_ble_eq_true rfl) (Nat.le_of_ble_eq_true rfl) (Nat.le_of_ble_eq_true rfl) dX11_init_27 dX11_init_30 dX11_init_31 (fun u3 H locs hw => ?_)
  have hw : k_W G A ([(h0, .inr (10, [.ref (u1 0), .ref (u2 0), .null, .null, .null, .null, .null, .null, .null, .null, .null, .null, .null, .null, .null]))] ++ cw_X10 G u1 ++ cw_X8 G u2 ++ cw_X7 G u3) s _ _ := hw
  refine k_putF cx.1 cx.2.1 hw F_X11_26 tyX11_ok nmX11 q_291 0 rfl rfl rfl rfl rfl (Nat.le_of_ble_eq_true rfl) dX11_init_34 (fun H locs hw => ?_)
  have hw : k_W G A ([(h0, .inr (10, [.ref (u1 0), .ref (u2 0), .ref (u3 0), .null, .null, .null, .null, .null, .null, .null, .null, .null, .null, .null, .null]))] ++ cw_X10 G u1 ++ cw_X8 G u2 ++ cw_X7 G u3) s _ _ := hw
  refine lv_aload_n hx hb dX11_init_37 rfl (lv_at hl 0 rfl) ?_
  refine k_mk cx.1 cx.2.2 hw (cw := cw_X7 G) KN_X11_23 dfX7 KI_X11_25 (c_X7_init l G) hl.1 (Nat.le_of_ble_eq_true rfl) (Nat.le_of_ble_eq_true rfl) (Nat.le_of_ble_eq_true rfl) (Nat.le_of_ble_eq_true rfl) (Nat.le_of_ble_eq_true rfl) dX11_init_38 dX11_init_41 dX11_init_42 (fun u4 H locs hw => ?_)
  have hw : k_W G A ([(h0, .inr (10, [.ref (u1 0), .ref (u2 0), .ref (u3 0), .null, .null, .null, .null, .null, .null, .null, .null, .null, .null, .null, .null]))] ++ cw_X10 G u1 ++ cw_X8 G u2 ++ cw_X7 G u3 ++ cw_X7 G u4) s _ _ := hw
  refine k_putF cx.1 cx.2.1 hw F_X11_30 tyX11_ok nmX11 q_292 0 rfl rfl rfl rfl rfl (Nat.le_of_ble_eq_true rfl) dX11_init_45 (fun H locs hw => ?_)
  have hw : k_W G A ([(h0, .inr (10, [.ref (u1 0), .ref (u2 0), .ref (u3 0), .ref (u4 0), .null, .null, .null, .null, .null, .null, .null, .null, .null, .null, .null]))] ++ cw_X10 G u1 ++ cw_X8 G u2 ++ cw_X7 G u3 ++ cw_X7 G u4) s _ _ := hw
  refine lv_aload_n hx hb dX11_init_48 rfl (lv_at hl 0 rfl) ?_
  refine k_mk cx.1 cx.2.2 hw (cw := cw_X7 G) KN_X11_23 dfX7 KI_X11_25 (c_X7_init l G) hl.1 (Nat.le_of_ble_eq_true rfl) (Nat.le_of_ble_eq_true rfl) (Nat.le_of_ble_eq_true rfl) (Nat.le_of_ble_eq_true rfl) (Nat.le_of_ble_eq_true rfl) dX11_init_49 dX11_init_52 dX11_init_53 (fun u5 H locs hw => ?_)
  have hw : k_W G A ([(h0, .inr (10, [.ref (u1 0), .ref (u2 0), .ref (u3 0), .ref (u4 0), .null, .null, .null, .null, .null, .null, .null, .null, .null, .null, .null]))] ++ cw_X10 G u1 ++ cw_X8 G u2 ++ cw_X7 G u3 ++ cw_X7 G u4 ++ cw_X7 G u5) s _ _ := hw
  refine k_putF cx.1 cx.2.1 hw F_X11_33 tyX11_ok nmX11 q_293 0 rfl rfl rfl rfl rfl (Nat.le_of_ble_eq_true rfl) dX11_init_56 (fun H locs hw => ?_)
  have hw : k_W G A ([(h0, .inr (10, [.ref (u1 0), .ref (u2 0), .ref (u3 0), .ref (u4 0), .ref (u5 0), .null, .null, .null, .null, .null, .null, .null, .null, .null, .null]))] ++ cw_X10 G u1 ++ cw_X8 G u2 ++ cw_X7 G u3 ++ cw_X7 G u4 ++ cw_X7 G u5) s _ _ := hw
  refine lv_aload_n hx hb dX11_init_59 rfl (lv_at hl 0 rfl) ?_
  refine k_mk cx.1 cx.2.2 hw (cw := cw_X3 G) KN_X11_36 dfX3 KI_X11_38 (c_X3_init l G) hl.1 (Nat.le_of_ble_eq_true rfl) (Nat.le_of_ble_eq_true rfl) (Nat.le_of_ble_eq_true rfl) (Nat.le_of_ble_eq_true rfl) (Nat.le_of_ble_eq_true rfl) dX11_init_60 dX11_init_63 dX11_init_64 (fun u6 H locs hw => ?_)
  have hw : k_W G A ([(h0, .inr (10, [.ref (u1 0), .ref (u2 0), .ref (u3 0), .ref (u4 0), .ref (u5 0), .null, .null, .null, .null, .null, .null, .null, .null, .null, .null]))] ++ cw_X10 G u1 ++ cw_X8 G u2 ++ cw_X7 G u3 ++ cw_X7 G u4 ++ cw_X7 G u5 ++ cw_X3 G u6) s _ _ := hw
  refine k_putF cx.1 cx.2.1 hw F_X11_39 tyX11_ok nmX11 q_294 0 rfl rfl rfl rfl rfl (Nat.le_of_ble_eq_true rfl) dX11_init_67 (fun H locs hw => ?_)
  have hw : k_W G A ([(h0, .inr (10, [.ref (u1 0), .ref (u2 0), .ref (u3 0), .ref (u4 0), .ref (u5 0), .ref (u6 0), .null, .null, .null, .null, .null, .null, .null, .null, .null]))] ++ cw_X10 G u1 ++ cw_X8 G u2 ++ cw_X7 G u3 ++ cw_X7 G u4 ++ cw_X7 G u5 ++ cw_X3 G u6) s _ _ := hw
  refine lv_aload_n hx hb dX11_init_70 rfl (lv_at hl 0 rfl) ?_
  refine k_mk cx.1 cx.2.2 hw (cw := cw_X0 G) KN_X11_43 dfX0 KI_X11_45 (c_X0_init l G) hl.1 (Nat.le_of_ble_eq_true rfl) (Nat.le_of_ble_eq_true rfl) (Nat.le_of_ble_eq_true rfl) (Nat.le_of_ble_eq_true rfl) (Nat.le_of_ble_eq_true rfl) dX11_init_71 dX11_init_74 dX11_init_75 (fun u7 H locs hw => ?_)
  have hw : k_W G A ([(h0, .inr (10, [.ref (u1 0), .ref (u2 0), .ref (u3 0), .ref (u4 0), .ref (u5 0), .ref (u6 0), .null, .null, .null, .null, .null, .null, .null, .null, .null]))] ++ cw_X10 G u1 ++ cw_X8 G u2 ++ cw_X7 G u3 ++ cw_X7 G u4 ++ cw_X7 G u5 ++ cw_X3 G u6 ++ cw_X0 G u7) s _ _ := hw
  refine k_putF cx.1 cx.2.1 hw F_X11_46 tyX11_ok nmX11 q_295 0 rfl rfl rfl rfl rfl (Nat.le_of_ble_eq_true rfl) dX11_init_78 (fun H locs hw => ?_)
  have hw : k_W G A ([(h0, .inr (10, [.ref (u1 0), .ref (u2 0), .ref (u3 0), .ref (u4 0), .ref (u5 0), .ref (u6 0), .ref (u7 0), .null, .null, .null, .null, .null, .null, .null, .null]))] ++ cw_X10 G u1 ++ cw_X8 G u2 ++ cw_X7 G u3 ++ cw_X7 G u4 ++ cw_X7 G u5 ++ cw_X3 G u6 ++ cw_X0 G u7) s _ _ := hw
  refine lv_aload_n hx hb dX11_init_81 rfl (lv_at hl 0 rfl) ?_
  refine k_mk cx.1 cx.2.2 hw (cw := cw_X2 G) KN_X11_50 dfX2 KI_X11_52 (c_X2_init l G) hl.1 (Nat.le_of_ble_eq_true rfl) (Nat.le_of_ble_eq_true rfl) (Nat.le_of_ble_eq_true rfl) (Nat.le_of_ble_eq_true rfl) (Nat.le_of_ble_eq_true rfl) dX11_init_82 dX11_init_85 dX11_init_86 (fun u8 H locs hw => ?_)
  have hw : k_W G A ([(h0, .inr (10, [.ref (u1 0), .ref (u2 0), .ref (u3 0), .ref (u4 0), .ref (u5 0), .ref (u6 0), .ref (u7 0), .null, .null, .null, .null, .null, .null, .null, .null]))] ++ cw_X10 G u1 ++ cw_X8 G u2 ++ cw_X7 G u3 ++ cw_X7 G u4 ++ cw_X7 G u5 ++ cw_X3 G u6 ++ cw_X0 G u7 ++ cw_X2 G u8) s _ _ := hw
  refine k_putF cx.1 cx.2.1 hw F_X11_53 tyX11_ok nmX11 q_296 0 rfl rfl rfl rfl rfl (Nat.le_of_ble_eq_true rfl) dX11_init_89 (fun H locs hw => ?_)
  have hw : k_W G A ([(h0, .inr (10, [.ref (u1 0), .ref (u2 0), .ref (u3 0), .ref (u4 0), .ref (u5 0), .ref (u6 0), .ref (u7 0), .ref (u8 0), .null, .null, .null, .null, .null, .null, .null]))] ++ cw_X10 G u1 ++ cw_X8 G u2 ++ cw_X7 G u3 ++ cw_X7 G u4 ++ cw_X7 G u5 ++ cw_X3 G u6 ++ cw_X0 G u7 ++ cw_X2 G u8) s _ _ := hw
  refine lv_aload_n hx hb dX11_init_92 rfl (lv_at hl 0 rfl) ?_
  refine k_mk cx.1 cx.2.2 hw (cw := cw_X4 G) KN_X11_57 dfX4 KI_X11_59 (c_X4_init l G) hl.1 (Nat.le_of_ble_eq_true rfl) (Nat.le_of_ble_eq_true rfl) (Nat.le_of_ble_eq_true rfl) (Nat.le_of_ble_eq_true rfl) (Nat.le_of_ble_eq_true rfl) dX11_init_93 dX11_init_96 dX11_init_97 (fun u9 H locs hw => ?_)
  have hw : k_W G A ([(h0, .inr (10, [.ref (u1 0), .ref (u2 0), .ref (u3 0), .ref (u4 0), .ref (u5 0), .ref (u6 0), .ref (u7 0), .ref (u8 0), .null, .null, .null, .null, .null, .null, .null]))] ++ cw_X10 G u1 ++ cw_X8 G u2 ++ cw_X7 G u3 ++ cw_X7 G u4 ++ cw_X7 G u5 ++ cw_X3 G u6 ++ cw_X0 G u7 ++ cw_X2 G u8 ++ cw_X4 G u9) s _ _ := hw
  refine k_putF cx.1 cx.2.1 hw F_X11_60 tyX11_ok nmX11 q_297 0 rfl rfl rfl rfl rfl (Nat.le_of_ble_eq_true rfl) dX11_init_100 (fun H locs hw => ?_)
  have hw : k_W G A ([(h0, .inr (10, [.ref (u1 0), .ref (u2 0), .ref (u3 0), .ref (u4 0), .ref (u5 0), .ref (u6 0), .ref (u7 0), .ref (u8 0), .ref (u9 0), .null, .null, .null, .null, .null, .null]))] ++ cw_X10 G u1 ++ cw_X8 G u2 ++ cw_X7 G u3 ++ cw_X7 G u4 ++ cw_X7 G u5 ++ cw_X3 G u6 ++ cw_X0 G u7 ++ cw_X2 G u8 ++ cw_X4 G u9) s _ _ := hw
  refine lv_aload_n hx hb dX11_init_103 rfl (lv_at hl 0 rfl) ?_
  refine k_mk cx.1 cx.2.2 hw (cw := cw_X9 G) KN_X11_64 dfX9 KI_X11_66 (c_X9_init l G) hl.1 (Nat.le_of_ble_eq_true rfl) (Nat.le_of_ble_eq_true rfl) (Nat.le_of_ble_eq_true rfl) (Nat.le_of_ble_eq_true rfl) (Nat.le_of_ble_eq_true rfl) dX11_init_104 dX11_init_107 dX11_init_108 (fun u10 H locs hw => ?_)
  have hw : k_W G A ([(h0, .inr (10, [.ref (u1 0), .ref (u2 0), .ref (u3 0), .ref (u4 0), .ref (u5 0), .ref (u6 0), .ref (u7 0), .ref (u8 0), .ref (u9 0), .null, .null, .null, .null, .null, .null]))] ++ cw_X10 G u1 ++ cw_X8 G u2 ++ cw_X7 G u3 ++ cw_X7 G u4 ++ cw_X7 G u5 ++ cw_X3 G u6 ++ cw_X0 G u7 ++ cw_X2 G u8 ++ cw_X4 G u9 ++ cw_X9 G u10) s _ _ := hw
  refine k_putF cx.1 cx.2.1 hw F_X11_67 tyX11_ok nmX11 q_298 0 rfl rfl rfl rfl rfl (Nat.le_of_ble_eq_true rfl) dX11_init_111 (fun H locs hw => ?_)
  have hw : k_W G A ([(h0, .inr (10, [.ref (u1 0), .ref (u2 0), .ref (u3 0), .ref (u4 0), .ref (u5 0), .ref (u6 0), .ref (u7 0), .ref (u8 0), .ref (u9 0), .ref (u10 0), .null, .null, .null, .null, .null]))] ++ cw_X10 G u1 ++ cw_X8 G u2 ++ cw_X7 G u3 ++ cw_X7 G u4 ++ cw_X7 G u5 ++ cw_X3 G u6 ++ cw_X0 G u7 ++ cw_X2 G u8 ++ cw_X4 G u9 ++ cw_X9 G u10) s _ _ := hw
  refine lv_aload_n hx hb dX11_init_114 rfl (lv_at hl 0 rfl) ?_
  refine lv_sipush (v := 201) hx hb dX11_init_115 (by decide) ?_
  refine k_arr cx.1 hw (t := 0) (ty := .int) (a0 := (201, .inl (fun _ => 0))) rfl (by intro C h; cases h) rfl q_44 (fun _ => rfl) (by decide) (by decide) (Nat.le_of_ble_eq_true rfl) (Nat.le_of_ble_eq_true rfl) (Nat.le_of_ble_eq_true rfl) dX11_init_118 (fun q11 H hw => ?_)
  have hw : k_W G A ([(h0, .inr (10, [.ref (u1 0), .ref (u2 0), .ref (u3 0), .ref (u4 0), .ref (u5 0), .ref (u6 0), .ref (u7 0), .ref (u8 0), .ref (u9 0), .ref (u10 0), .null, .null, .null, .null, .null]))] ++ cw_X10 G u1 ++ cw_X8 G u2 ++ cw_X7 G u3 ++ cw_X7 G u4 ++ cw_X7 G u5 ++ cw_X3 G u6 ++ cw_X0 G u7 ++ cw_X2 G u8 ++ cw_X4 G u9 ++ cw_X9 G u10 ++ [(q11, .inl (G.2.1 0, 201, .inl (fun _ => 0)))]) s _ _ := hw
  refine k_putF cx.1 cx.2.1 hw F_X11_71 tyX11_ok nmX11 q_299 0 rfl rfl rfl rfl rfl (Nat.le_of_ble_eq_true rfl) dX11_init_120 (fun H locs hw => ?_)
  have hw : k_W G A ([(h0, .inr (10, [.ref (u1 0), .ref (u2 0), .ref (u3 0), .ref (u4 0), .ref (u5 0), .ref (u6 0), .ref (u7 0), .ref (u8 0), .ref (u9 0), .ref (u10 0), .ref q11, .null, .null, .null, .null]))] ++ cw_X10 G u1 ++ cw_X8 G u2 ++ cw_X7 G u3 ++ cw_X7 G u4 ++ cw_X7 G u5 ++ cw_X3 G u6 ++ cw_X0 G u7 ++ cw_X2 G u8 ++ cw_X4 G u9 ++ cw_X9 G u10 ++ [(q11, .inl (G.2.1 0, 201, .inl (fun _ => 0)))]) s _ _ := hw
  refine lv_aload_n hx hb dX11_init_123 rfl (lv_at hl 0 rfl) ?_
  refine lv_bipush (v := 13) hx hb dX11_init_124 (by decide) ?_
  refine k_arr cx.1 hw (t := 1) (ty := .long) (a0 := (13, .inr (.inl (fun _ => 0)))) rfl (by intro C h; cases h) rfl q_59 (fun _ => rfl) (by decide) (by decide) (Nat.le_of_ble_eq_true rfl) (Nat.le_of_ble_eq_true rfl) (Nat.le_of_ble_eq_true rfl) dX11_init_126 (fun q12 H hw => ?_)
  have hw : k_W G A ([(h0, .inr (10, [.ref (u1 0), .ref (u2 0), .ref (u3 0), .ref (u4 0), .ref (u5 0), .ref (u6 0), .ref (u7 0), .ref (u8 0), .ref (u9 0), .ref (u10 0), .ref q11, .null, .null, .null, .null]))] ++ cw_X10 G u1 ++ cw_X8 G u2 ++ cw_X7 G u3 ++ cw_X7 G u4 ++ cw_X7 G u5 ++ cw_X3 G u6 ++ cw_X0 G u7 ++ cw_X2 G u8 ++ cw_X4 G u9 ++ cw_X9 G u10 ++ [(q11, .inl (G.2.1 0, 201, .inl (fun _ => 0)))] ++ [(q12, .inl (G.2.1 1, 13, .inr (.inl (fun _ => 0))))]) s _ _ := hw
  refine k_putF cx.1 cx.2.1 hw F_X11_75 tyX11_ok nmX11 q_300 0 rfl rfl rfl rfl rfl (Nat.le_of_ble_eq_true rfl) dX11_init_128 (fun H locs hw => ?_)
  have hw : k_W G A ([(h0, .inr (10, [.ref (u1 0), .ref (u2 0), .ref (u3 0), .ref (u4 0), .ref (u5 0), .ref (u6 0), .ref (u7 0), .ref (u8 0), .ref (u9 0), .ref (u10 0), .ref q11, .ref q12, .null, .null, .null]))] ++ cw_X10 G u1 ++ cw_X8 G u2 ++ cw_X7 G u3 ++ cw_X7 G u4 ++ cw_X7 G u5 ++ cw_X3 G u6 ++ cw_X0 G u7 ++ cw_X2 G u8 ++ cw_X4 G u9 ++ cw_X9 G u10 ++ [(q11, .inl (G.2.1 0, 201, .inl (fun _ => 0)))] ++ [(q12, .inl (G.2.1 1, 13, .inr (.inl (fun _ => 0))))]) s _ _ := hw
  refine lv_aload_n hx hb dX11_init_131 rfl (lv_at hl 0 rfl) ?_
  refine k_mk cx.1 cx.2.2 hw (cw := cw_X1 G) KN_X11_79 dfX1 KI_X11_81 (c_X1_init l G) hl.1 (Nat.le_of_ble_eq_true rfl) (Nat.le_of_ble_eq_true rfl) (Nat.le_of_ble_eq_true rfl) (Nat.le_of_ble_eq_true rfl) (Nat.le_of_ble_eq_true rfl) dX11_init_132 dX11_init_135 dX11_init_136 (fun u13 H locs hw => ?_)
  have hw : k_W G A ([(h0, .inr (10, [.ref (u1 0), .ref (u2 0), .ref (u3 0), .ref (u4 0), .ref (u5 0), .ref (u6 0), .ref (u7 0), .ref (u8 0), .ref (u9 0), .ref (u10 0), .ref q11, .ref q12, .null, .null, .null]))] ++ cw_X10 G u1 ++ cw_X8 G u2 ++ cw_X7 G u3 ++ cw_X7 G u4 ++ cw_X7 G u5 ++ cw_X3 G u6 ++ cw_X0 G u7 ++ cw_X2 G u8 ++ cw_X4 G u9 ++ cw_X9 G u10 ++ [(q11, .inl (G.2.1 0, 201, .inl (fun _ => 0)))] ++ [(q12, .inl (G.2.1 1, 13, .inr (.inl (fun _ => 0))))] ++ cw_X1 G u13) s _ _ := hw
  refine k_putF cx.1 cx.2.1 hw F_X11_82 tyX11_ok nmX11 q_301 0 rfl rfl rfl rfl rfl (Nat.le_of_ble_eq_true rfl) dX11_init_139 (fun H locs hw => ?_)
  have hw : k_W G A ([(h0, .inr (10, [.ref (u1 0), .ref (u2 0), .ref (u3 0), .ref (u4 0), .ref (u5 0), .ref (u6 0), .ref (u7 0), .ref (u8 0), .ref (u9 0), .ref (u10 0), .ref q11, .ref q12, .ref (u13 0), .null, .null]))] ++ cw_X10 G u1 ++ cw_X8 G u2 ++ cw_X7 G u3 ++ cw_X7 G u4 ++ cw_X7 G u5 ++ cw_X3 G u6 ++ cw_X0 G u7 ++ cw_X2 G u8 ++ cw_X4 G u9 ++ cw_X9 G u10 ++ [(q11, .inl (G.2.1 0, 201, .inl (fun _ => 0)))] ++ [(q12, .inl (G.2.1 1, 13, .inr (.inl (fun _ => 0))))] ++ cw_X1 G u13) s _ _ := hw
  refine lv_aload_n hx hb dX11_init_142 rfl (lv_at hl 0 rfl) ?_
  refine k_mk cx.1 cx.2.2 hw (cw := cw_X6 G) KN_X11_86 dfX6 KI_X11_88 (c_X6_init l G) hl.1 (Nat.le_of_ble_eq_true rfl) (Nat.le_of_ble_eq_true rfl) (Nat.le_of_ble_eq_true rfl) (Nat.le_of_ble_eq_true rfl) (Nat.le_of_ble_eq_true rfl) dX11_init_143 dX11_init_146 dX11_init_147 (fun u14 H locs hw => ?_)
  have hw : k_W G A ([(h0, .inr (10, [.ref (u1 0), .ref (u2 0), .ref (u3 0), .ref (u4 0), .ref (u5 0), .ref (u6 0), .ref (u7 0), .ref (u8 0), .ref (u9 0), .ref (u10 0), .ref q11, .ref q12, .ref (u13 0), .null, .null]))] ++ cw_X10 G u1 ++ cw_X8 G u2 ++ cw_X7 G u3 ++ cw_X7 G u4 ++ cw_X7 G u5 ++ cw_X3 G u6 ++ cw_X0 G u7 ++ cw_X2 G u8 ++ cw_X4 G u9 ++ cw_X9 G u10 ++ [(q11, .inl (G.2.1 0, 201, .inl (fun _ => 0)))] ++ [(q12, .inl (G.2.1 1, 13, .inr (.inl (fun _ => 0))))] ++ cw_X1 G u13 ++ cw_X6 G u14) s _ _ := hw
  refine k_put cx.1 hw F_X11_89 tyX11_ok nmX11 q_302 0 rfl rfl rfl rfl (Nat.le_of_ble_eq_true rfl) dX11_init_150 (fun H locs hw => ?_)
  have hw : k_W G A ([(h0, .inr (10, [.ref (u1 0), .ref (u2 0), .ref (u3 0), .ref (u4 0), .ref (u5 0), .ref (u6 0), .ref (u7 0), .ref (u8 0), .ref (u9 0), .ref (u10 0), .ref q11, .ref q12, .ref (u13 0), .ref (u14 0), .null]))] ++ cw_X10 G u1 ++ cw_X8 G u2 ++ cw_X7 G u3 ++ cw_X7 G u4 ++ cw_X7 G u5 ++ cw_X3 G u6 ++ cw_X0 G u7 ++ cw_X2 G u8 ++ cw_X4 G u9 ++ cw_X9 G u10 ++ [(q11, .inl (G.2.1 0, 201, .inl (fun _ => 0)))] ++ [(q12, .inl (G.2.1 1, 13, .inr (.inl (fun _ => 0))))] ++ cw_X1 G u13 ++ cw_X6 G u14) s _ _ := hw
  refine lv_aload_n hx hb dX11_init_153 rfl (lv_at hl 0 rfl) ?_
  refine k_mk cx.1 cx.2.2 hw (cw := cw_X6 G) KN_X11_86 dfX6 KI_X11_88 (c_X6_init l G) hl.1 (Nat.le_of_ble_eq_true rfl) (Nat.le_of_ble_eq_true rfl) (Nat.le_of_ble_eq_true rfl) (Nat.le_of_ble_eq_true rfl) (Nat.le_of_ble_eq_true rfl) dX11_init_154 dX11_init_157 dX11_init_158 (fun u15 H locs hw => ?_)
  have hw : k_W G A ([(h0, .inr (10, [.ref (u1 0), .ref (u2 0), .ref (u3 0), .ref (u4 0), .ref (u5 0), .ref (u6 0), .ref (u7 0), .ref (u8 0), .ref (u9 0), .ref (u10 0), .ref q11, .ref q12, .ref (u13 0), .ref (u14 0), .null]))] ++ cw_X10 G u1 ++ cw_X8 G u2 ++ cw_X7 G u3 ++ cw_X7 G u4 ++ cw_X7 G u5 ++ cw_X3 G u6 ++ cw_X0 G u7 ++ cw_X2 G u8 ++ cw_X4 G u9 ++ cw_X9 G u10 ++ [(q11, .inl (G.2.1 0, 201, .inl (fun _ => 0)))] ++ [(q12, .inl (G.2.1 1, 13, .inr (.inl (fun _ => 0))))] ++ cw_X1 G u13 ++ cw_X6 G u14 ++ cw_X6 G u15) s _ _ := hw
  refine k_put cx.1 hw F_X11_93 tyX11_ok nmX11 q_303 0 rfl rfl rfl rfl (Nat.le_of_ble_eq_true rfl) dX11_init_161 (fun H locs hw => ?_)
  have hw : k_W G A ([(h0, .inr (10, [.ref (u1 0), .ref (u2 0), .ref (u3 0), .ref (u4 0), .ref (u5 0), .ref (u6 0), .ref (u7 0), .ref (u8 0), .ref (u9 0), .ref (u10 0), .ref q11, .ref q12, .ref (u13 0), .ref (u14 0), .ref (u15 0)]))] ++ cw_X10 G u1 ++ cw_X8 G u2 ++ cw_X7 G u3 ++ cw_X7 G u4 ++ cw_X7 G u5 ++ cw_X3 G u6 ++ cw_X0 G u7 ++ cw_X2 G u8 ++ cw_X4 G u9 ++ cw_X9 G u10 ++ [(q11, .inl (G.2.1 0, 201, .inl (fun _ => 0)))] ++ [(q12, .inl (G.2.1 1, 13, .inr (.inl (fun _ => 0))))] ++ cw_X1 G u13 ++ cw_X6 G u14 ++ cw_X6 G u15) s _ _ := hw
  obtain ⟨U, hU⟩ : ∃ U : Nat → Nat, U = (fun i => if i < 1 then h0 else if i < 3 then u1 (i - 1) else if i < 5 then u2 (i - 3) else if i < 8 then u6 (i - 5) else if i < 9 then u7 (i - 8) else if i < 11 then u8 (i - 9) else if i < 15 then u9 (i - 11) else if i < 19 then u10 (i - 15) else if i < 20 then q11 else if i < 21 then q12 else if i < 22 then u13 (i - 21) else if i < 27 then u14 (i - 22) else if i < 32 then u15 (i - 27) else if i < 38 then u3 (i - 32) else if i < 44 then u4 (i - 38) else if i < 50 then u5 (i - 44) else u6 (i - 47)) := ⟨_, rfl⟩
  have hp : ∀ j, U (50 + j) = u6 (3 + j) := by
    intro j
    rw [hU]
    show (if 50 + j < 1 then h0 else if 50 + j < 3 then u1 (50 + j - 1) else if 50 + j < 5 then u2 (50 + j - 3) else if 50 + j < 8 then u6 (50 + j - 5) else if 50 + j < 9 then u7 (50 + j - 8) else if 50 + j < 11 then u8 (50 + j - 9) else if 50 + j < 15 then u9 (50 + j - 11) else if 50 + j < 19 then u10 (50 + j - 15) else if 50 + j < 20 then q11 else if 50 + j < 21 then q12 else if 50 + j < 22 then u13 (50 + j - 21) else if 50 + j < 27 then u14 (50 + j - 22) else if 50 + j < 32 then u15 (50 + j - 27) else if 50 + j < 38 then u3 (50 + j - 32) else if 50 + j < 44 then u4 (50 + j - 38) else if 50 + j < 50 then u5 (50 + j - 44) else u6 (50 + j - 47)) = _
    rw [if_neg (by omega), if_neg (by omega), if_neg (by omega), if_neg (by omega), if_neg (by omega), if_neg (by omega), if_neg (by omega), if_neg (by omega), if_neg (by omega), if_neg (by omega), if_neg (by omega), if_neg (by omega), if_neg (by omega), if_neg (by omega), if_neg (by omega), if_neg (by omega), show 50 + j - 47 = 3 + j by omega]
  have g1 : cw_X10 G u1 = wg1 G U := by rw [hU]; rfl
  have g2 : cw_X8 G u2 = wg2 G U := by rw [hU]; rfl
  have g3 : cw_X7 G u3 = wg3 G U := by rw [hU]; rfl
  have g4 : cw_X7 G u4 = wg4 G U := by rw [hU]; rfl
  have g5 : cw_X7 G u5 = wg5 G U := by rw [hU]; rfl
  have g6 : cw_X3 G u6 = wg6 G U := by
    have ea : (fun j => if j < 12 then some (u6 (3 + 6 * j)) else none) = fun j => (σC0.2.2 6 j).map U := by
      funext j
      show _ = (if j < 12 then some (50 + 6 * j) else none).map U
      by_cases hj : j < 12
      · simp [hj, hp]
      · simp [hj]
    have eb : (fun j => if j < 2 then some (u6 (75 + 6 * j)) else none) = fun j => (σC0.2.2 7 j).map U := by
      funext j
      show _ = (if j < 2 then some (122 + 6 * j) else none).map U
      by_cases hj : j < 2
      · have := hp (72 + 6 * j)
        simp only [hj, if_true, Option.map_some]
        rw [show 122 + 6 * j = 50 + (72 + 6 * j) by omega, this, show 3 + (72 + 6 * j) = 75 + 6 * j by omega]
      · simp [hj]
    have ec : (fun k j => u6 (3 + 6 * k + j)) = fun k j => U (50 + (6 * k + j)) := by
      funext k j
      rw [hp, show 3 + (6 * k + j) = 3 + 6 * k + j by omega]
    have e5 : u6 0 = U 5 := by rw [hU]; rfl
    have e6 : u6 1 = U 6 := by rw [hU]; rfl
    have e7 : u6 2 = U 7 := by rw [hU]; rfl
    unfold cw_X3 wg6
    rw [ea, eb, ec, e5, e6, e7]
  have g7 : cw_X0 G u7 = wg7 G U := by rw [hU]; rfl
  have g8 : cw_X2 G u8 = wg8 G U := by rw [hU]; rfl
  have g9 : cw_X4 G u9 = wg9 G U := by rw [hU]; rfl
  have g10 : cw_X9 G u10 = wg10 G U := by rw [hU]; rfl
  have g11 : ([(q11, .inl (G.2.1 0, 201, .inl (fun _ => 0)))] : va_W) = wg11 G U := by rw [hU]; rfl
  have g12 : ([(q12, .inl (G.2.1 1, 13, .inr (.inl (fun _ => 0))))] : va_W) = wg12 G U := by rw [hU]; rfl
  have g13 : cw_X1 G u13 = wg13 G U := by rw [hU]; rfl
  have g14 : cw_X6 G u14 = wg14 G U := by rw [hU]; rfl
  have g15 : cw_X6 G u15 = wg15 G U := by rw [hU]; rfl
  have g0 : ([(h0, .inr (10, [.ref (u1 0), .ref (u2 0), .ref (u3 0), .ref (u4 0), .ref (u5 0), .ref (u6 0), .ref (u7 0), .ref (u8 0), .ref (u9 0), .ref (u10 0), .ref q11, .ref q12, .ref (u13 0), .ref (u14 0), .ref (u15 0)]))] : va_W) = wg0 G U := by rw [hU]; rfl
  rw [g0, g1, g2, g3, g4, g5, g6, g7, g8, g9, g10, g11, g12, g13, g14, g15] at hw
  have hw : k_W G A (wp15 G U) s _ _ := hw
  exact k_retZ cx.1 hAe hw U (by rw [hU]; rfl) k_pos (fun i j hi hj h => k_pos_inj i hi j hj h) (fun i hi => wall G U i hi) (Nat.le_of_ble_eq_true rfl) (Nat.le_of_ble_eq_true rfl) dX11_init_164
