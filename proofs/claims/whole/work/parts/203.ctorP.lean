theorem k_cyO {s : State} {C : String} {cA cB : ClassId} (h1 : va_RA s cA (.object C)) (h2 : va_RA s cB (.object C)) : cA = cB := by
  obtain ⟨_, _, _, _, _, h1⟩ := h1
  obtain ⟨_, _, _, _, _, h2⟩ := h2
  exact Option.some.inj (h1.symm.trans h2)
/-- n places of a row of references filled in turn -/
def k_ups (a : Nat → Nat) : Nat → Nat → Option Nat
  | 0 => fun _ => none
  | n + 1 => va_up (k_ups a n) n (some (a n))
theorem k_ups_eq (a : Nat → Nat) : ∀ n, k_ups a n = fun j => if j < n then some (a j) else none := by
  intro n
  induction n with
  | zero => funext j; simp [k_ups]
  | succ n ih =>
    funext j
    show va_up (k_ups a n) n (some (a n)) j = _
    rw [ih]
    by_cases h : j = n
    · subst h; simp [va_up]
    · by_cases h2 : j < n
      · simp [va_up, h, h2, Nat.lt_succ_of_lt h2]
      · have : ¬ j < n + 1 := by omega
        simp [va_up, h, h2, this]
section KP
variable {p : Program} {l : Launch} {e : Env} {s : State} {m : MethodId} {args : Array Value} {below : List Frame} {meth : Method} {c : Code} {H : Heap} {locs : List Loc} {cells slots : Nat} {Q : State → Prop}
variable {own : String} {y : MethodName} {cc : ByteArray} {mL : Nat} {rt : Option FieldType} {G : uG} {A : Nat → Prop} {ws : va_W} {pc : Nat} {ls : Array Slot} {rest : List Value} {R : Room}
theorem k_anew (cx : u_C p s m args meth c own y cc mL rt G) (hao : va_AO RX7 s) (hw : k_W G A ws s H locs) {idx N' : Nat} {n : Int32} (hq : Cond.classLink own idx RX7 ∈ u_big) (hn : ¬ n < 0) (hN : n.toNatClampNeg = N') (hbytes : N' * 4 ≤ 536870912) (hRc : cells + 1 ≤ R.cells) (hRs : slots + N' ≤ R.slots) (hdg : decode cc pc = .ok (.anewarray idx, 3))
    (kk : ∀ (q : Nat) (H1 : Heap), k_W G A (ws ++ [(q, .inl (G.2.1 4, N', .inr (.inr (.inr (.inr (fun _ => none))))))]) s H1 locs → W p l e R s m args below meth c H1 locs (cells + 1) (slots + N') Q (F0 m (pc + 3) ls (.ref q :: rest))) : W p l e R s m args below meth c H locs cells slots Q (F0 m pc ls (.int n :: rest)) := by
  obtain ⟨hx, hb, hml, hown, hts, hr, hlocks, hK⟩ := cx
  refine va_newq hx hb hown (hts _ (List.mem_cons_of_mem _ hq)) hao hK.1 hw.1 hw.2.1 hw.2.2.1 hw.2.2.2 hn hN hbytes hRc hRs hdg (fun q cA H1 g1 g2 g3 g4 => ?_)
  have e : cA = G.2.1 4 := k_cyO ((g1.2 (u_tys G).length _ (by rw [List.getElem?_append_right (Nat.le_refl _), Nat.sub_self]; rfl)).2) ((hK.1.2 4 _ rfl).2)
  subst e
  exact kk q H1 ⟨g2, g3, g4, hw.2.2.2⟩
theorem k_get (cx : u_C p s m args meth c own y cc mL rt G) (hw : k_W G A ws s H locs) {N ci idx k a : Nat} {T : u_T} {fs : List Value} {C : String} {v : Value} (hF : u_F own idx C T N ci k) (hlk : Cond.fieldLink own idx (T k).1 (T k).2.1 (T k).2.2.1 ∈ u_big) (q0 : Nat) (he : ws[q0]? = some (a, .inr (ci, fs))) (hv : fs[k]? = some v) (hdg : decode cc pc = .ok (.getfield idx, 3))
    (kk : W p l e R s m args below meth c H locs cells slots Q (F0 m (pc + 3) ls (v :: rest))) : W p l e R s m args below meth c H locs cells slots Q (F0 m pc ls (.ref a :: rest)) := by
  obtain ⟨hx, hb, hml, hown, hts, hr, hlocks, hK⟩ := cx
  obtain ⟨h1, h2, h3, -⟩ := hF
  exact va_get hx hb hts (fun w h => List.mem_cons_of_mem _ (h1 w h)) hown hK.1 hw.1 q0 he h2 k h3 (hts _ (List.mem_cons_of_mem _ hlk)) (fun _ h => h) hv hdg kk
theorem k_alen (cx : u_C p s m args meth c own y cc mL rt G) (hw : k_W G A ws s H locs) {a n : Nat} {v : Int32} {f : Nat → Option Nat} (q0 : Nat) (he : ws[q0]? = some (a, .inl (G.2.1 4, n, .inr (.inr (.inr (.inr f)))))) (hv : Int32.ofNat n = v) (hdg : decode cc pc = .ok (.arraylength, 1))
    (kk : W p l e R s m args below meth c H locs cells slots Q (F0 m (pc + 1) ls (.int v :: rest))) : W p l e R s m args below meth c H locs cells slots Q (F0 m pc ls (.ref a :: rest)) :=
  va_alen cx.1 cx.2.1 cx.2.2.2.2.2.2.2.1 hw.1 q0 4 he rfl hv hdg kk
theorem k_aast (cx : u_C p s m args meth c own y cc mL rt G) (hw : k_W G A ws s H locs) {a n v k : Nat} {f : Nat → Option Nat} {x : Int32} {vs : List Value} (q0 qk : Nat) (he : ws[q0]? = some (a, .inl (G.2.1 4, n, .inr (.inr (.inr (.inr f)))))) (hv : ws[qk]? = some (v, .inr (6, vs))) (hk : x.toNatClampNeg = k) (hin : vp_in x n) (hdg : decode cc pc = .ok (.aastore, 1))
    (kk : ∀ (H1 : Heap) (locs1 : List Loc), k_W G A (ws.set q0 (a, .inl (G.2.1 4, n, .inr (.inr (.inr (.inr (va_up f k (some v)))))))) s H1 locs1 → W p l e R s m args below meth c H1 locs1 cells slots Q (F0 m (pc + 1) ls rest)) : W p l e R s m args below meth c H locs cells slots Q (F0 m pc ls (.ref v :: .int x :: .ref a :: rest)) := by
  subst hk
  exact va_astq cx.1 cx.2.1 cx.2.2.2.2.2.2.2.1 hw.1 hw.2.1 hw.2.2.1 q0 4 qk 6 (r := (RX7, TX7, 12)) he rfl hv rfl hin hdg (fun H1 locs1 q1 q2 q3 => kk H1 locs1 ⟨q1, q2, q3, hw.2.2.2⟩)
end KP
theorem dX3_init_0 : decode cX3_init 0 = .ok (.aload_n 0, 1) := by decide +kernel
theorem dX3_init_1 : decode cX3_init 1 = .ok (.invokespecial 3, 3) := by decide +kernel
theorem dX3_init_4 : decode cX3_init 4 = .ok (.aload_n 0, 1) := by decide +kernel
theorem dX3_init_5 : decode cX3_init 5 = .ok (.bipush 12, 2) := by decide +kernel
theorem dX3_init_7 : decode cX3_init 7 = .ok (.anewarray 9, 3) := by decide +kernel
theorem dX3_init_10 : decode cX3_init 10 = .ok (.putfield 11, 3) := by decide +kernel
theorem dX3_init_13 : decode cX3_init 13 = .ok (.aload_n 0, 1) := by decide +kernel
theorem dX3_init_14 : decode cX3_init 14 = .ok (.iconst 2, 1) := by decide +kernel
theorem dX3_init_15 : decode cX3_init 15 = .ok (.anewarray 9, 3) := by decide +kernel
theorem dX3_init_18 : decode cX3_init 18 = .ok (.putfield 17, 3) := by decide +kernel
theorem dX3_init_21 : decode cX3_init 21 = .ok (.iconst 0, 1) := by decide +kernel
theorem dX3_init_22 : decode cX3_init 22 = .ok (.istore_n 1, 1) := by decide +kernel
theorem dX3_init_23 : decode cX3_init 23 = .ok (.iload_n 1, 1) := by decide +kernel
theorem dX3_init_24 : decode cX3_init 24 = .ok (.aload_n 0, 1) := by decide +kernel
theorem dX3_init_25 : decode cX3_init 25 = .ok (.getfield 11, 3) := by decide +kernel
theorem dX3_init_28 : decode cX3_init 28 = .ok (.arraylength, 1) := by decide +kernel
theorem dX3_init_29 : decode cX3_init 29 = .ok (.if_icmp .ge 22, 3) := by decide +kernel
theorem dX3_init_32 : decode cX3_init 32 = .ok (.aload_n 0, 1) := by decide +kernel
theorem dX3_init_33 : decode cX3_init 33 = .ok (.getfield 11, 3) := by decide +kernel
theorem dX3_init_36 : decode cX3_init 36 = .ok (.iload_n 1, 1) := by decide +kernel
theorem dX3_init_37 : decode cX3_init 37 = .ok (.new 9, 3) := by decide +kernel
theorem dX3_init_40 : decode cX3_init 40 = .ok (.dup, 1) := by decide +kernel
theorem dX3_init_41 : decode cX3_init 41 = .ok (.invokespecial 20, 3) := by decide +kernel
theorem dX3_init_44 : decode cX3_init 44 = .ok (.aastore, 1) := by decide +kernel
theorem dX3_init_45 : decode cX3_init 45 = .ok (.iinc 1 1, 3) := by decide +kernel
theorem dX3_init_48 : decode cX3_init 48 = .ok (.goto (-25), 3) := by decide +kernel
theorem dX3_init_51 : decode cX3_init 51 = .ok (.iconst 0, 1) := by decide +kernel
theorem dX3_init_52 : decode cX3_init 52 = .ok (.istore_n 1, 1) := by decide +kernel
theorem dX3_init_53 : decode cX3_init 53 = .ok (.iload_n 1, 1) := by decide +kernel
theorem dX3_init_54 : decode cX3_init 54 = .ok (.aload_n 0, 1) := by decide +kernel
theorem dX3_init_55 : decode cX3_init 55 = .ok (.getfield 17, 3) := by decide +kernel
theorem dX3_init_58 : decode cX3_init 58 = .ok (.arraylength, 1) := by decide +kernel
theorem dX3_init_59 : decode cX3_init 59 = .ok (.if_icmp .ge 22, 3) := by decide +kernel
theorem dX3_init_62 : decode cX3_init 62 = .ok (.aload_n 0, 1) := by decide +kernel
theorem dX3_init_63 : decode cX3_init 63 = .ok (.getfield 17, 3) := by decide +kernel
theorem dX3_init_66 : decode cX3_init 66 = .ok (.iload_n 1, 1) := by decide +kernel
theorem dX3_init_67 : decode cX3_init 67 = .ok (.new 9, 3) := by decide +kernel
theorem dX3_init_70 : decode cX3_init 70 = .ok (.dup, 1) := by decide +kernel
theorem dX3_init_71 : decode cX3_init 71 = .ok (.invokespecial 20, 3) := by decide +kernel
theorem dX3_init_74 : decode cX3_init 74 = .ok (.aastore, 1) := by decide +kernel
theorem dX3_init_75 : decode cX3_init 75 = .ok (.iinc 1 1, 3) := by decide +kernel
theorem dX3_init_78 : decode cX3_init 78 = .ok (.goto (-25), 3) := by decide +kernel
theorem dX3_init_81 : decode cX3_init 81 = .ok (.return_, 1) := by decide +kernel
def k_blk (G : uG) (us : Nat → Nat → Nat) (n : Nat) : va_W := (List.range n).flatMap (fun k => cw_X7 G (us k))
theorem k_fm {α β : Type} {f g : α → List β} : ∀ {l : List α}, (∀ a ∈ l, f a = g a) → l.flatMap f = l.flatMap g := by
  intro l
  induction l with
  | nil => intro _; rfl
  | cons a l ih =>
    intro h
    rw [List.flatMap_cons, List.flatMap_cons, h a List.mem_cons_self, ih (fun b hb => h b (List.mem_cons_of_mem _ hb))]
def k_put1 (us : Nat → Nat → Nat) (n : Nat) (u : Nat → Nat) : Nat → Nat → Nat := fun k => if k = n then u else us k
theorem k_blk_s (G : uG) (us : Nat → Nat → Nat) (n : Nat) (u : Nat → Nat) : k_blk G us n ++ cw_X7 G u = k_blk G (k_put1 us n u) (n + 1) := by
  have h : ∀ k ∈ List.range n, cw_X7 G (us k) = cw_X7 G (k_put1 us n u k) := by
    intro k hk
    have := List.mem_range.mp hk
    unfold k_put1
    rw [if_neg (by omega)]
  unfold k_blk
  rw [List.range_succ, List.flatMap_append, List.flatMap_singleton]
  congr 1
  · exact k_fm h
  · simp [k_put1]
theorem k_ups_c {a b : Nat → Nat} : ∀ n, (∀ k, k < n → a k = b k) → k_ups a n = k_ups b n := by
  intro n h
  rw [k_ups_eq, k_ups_eq]
  funext j
  by_cases hj : j < n
  · simp [hj, h j hj]
  · simp [hj]
theorem k_blk_len (G : uG) (us : Nat → Nat → Nat) : ∀ n, (k_blk G us n).length = 6 * n := by
  intro n
  induction n with
  | zero => rfl
  | succ n ih =>
    unfold k_blk at ih ⊢
    rw [List.range_succ, List.flatMap_append, List.flatMap_singleton, List.length_append, ih]
    show 6 * n + 6 = _
    omega
theorem k_blk_get (G : uG) (us : Nat → Nat → Nat) : ∀ n k j, k < n → j < 6 → (k_blk G us n)[6 * k + j]? = (cw_X7 G (us k))[j]? := by
  intro n
  induction n with
  | zero => intro k j h; omega
  | succ n ih =>
    intro k j hk hj
    have e : k_blk G us (n + 1) = k_blk G us n ++ cw_X7 G (us n) := by
      unfold k_blk
      rw [List.range_succ, List.flatMap_append, List.flatMap_singleton]
    rw [e]
    by_cases h : k = n
    · subst h
      rw [List.getElem?_append_right (by rw [k_blk_len]; omega), k_blk_len]
      congr 1
      omega
    · rw [List.getElem?_append_left (by rw [k_blk_len]; omega)]
      exact ih k j (by omega) hj
def k_p3 (G : uG) (h0 q1 q2 : Nat) (f g : Nat → Option Nat) : va_W := [(h0, .inr (3, [.ref q1, .ref q2, .int 0, .int 0])), (q1, .inl (G.2.1 4, 12, .inr (.inr (.inr (.inr f))))), (q2, .inl (G.2.1 4, 2, .inr (.inr (.inr (.inr g)))))]
def cw_X3 (G : uG) (u : Nat → Nat) : va_W := k_p3 G (u 0) (u 1) (u 2) (fun j => if j < 12 then some (u (3 + 6 * j)) else none) (fun j => if j < 2 then some (u (75 + 6 * j)) else none) ++ k_blk G (fun k j => u (3 + 6 * k + j)) 14
section KL
variable {p : Program} {l : Launch} {e : Env} {s : State} {m : MethodId} {args : Array Value} {below : List Frame} {meth : Method} {c : Code} {H : Heap} {locs : List Loc} {cells slots : Nat} {Q : State → Prop}
variable {own : String} {y : MethodName} {cc : ByteArray} {mL : Nat} {rt : Option FieldType} {G : uG} {A : Nat → Prop} {ws : va_W} {pc : Nat} {ls : Array Slot} {rest : List Value} {R : Room}
theorem k_ret2 {cw : (Nat → Nat) → va_W} {h0 ci mc ms : Nat} {fs : List Value} (cx : u_C p s m args meth c own y cc mL none G) (hA : A = va_A (k_x h0 ci fs) s.heap.size) (hw : k_W G A ws s H locs) (u : Nat → Nat) (hu : u 0 = h0) (h1 : ws = cw u) (hc : cells ≤ mc) (hs : slots ≤ ms) (hdg : decode cc pc = .ok (.return_, 1)) : W p l e R s m args below meth c H locs cells slots (MQ below (va_Qv (fun (u : Nat → Nat) => u 0 = h0) (k_B G (k_x h0 ci fs) cw s.heap.size) A) args s mc ms A) (F0 m pc ls []) := by
  obtain ⟨hx, hb, hml, hown, hts, hr, hlocks, hK⟩ := cx
  rw [h1] at hw
  refine W.widen (k := mc) (n := ms) hc hs ?_
  refine W.vret hx hb hr (fun t ht hW => ⟨⟨u, rfl, hu, by rw [ht]; exact hw.1, by rw [← hA]; exact hw.2.1⟩, hw.2.2.1.F ht⟩) hw.2.2.1.2.2 hdg hlocks
set_option maxHeartbeats 4000000 in
theorem k_pastL (cx : k_C p s m args meth c RX3 yX3_init cX3_init 2 G) {h0 q1 q2 : Nat} (pl : Bool)
    (kk : ∀ (us : Nat → Nat → Nat) (H : Heap) (locs : List Loc) (ls : Array Slot) (g : Nat → Option Nat), (pl = true → g = k_ups (fun k => us (12 + k) 0) 2) → (pl = false → g = fun _ => none) → k_W G A (k_p3 G h0 q1 q2 (k_ups (fun k => us k 0) 12) g ++ k_blk G us (if pl then 14 else 12)) s H locs → lv_has ls 2 [(1, .int (if pl then 2 else 12)), (0, .ref h0)] → W p l e (k_rm 4 86 854) s m args below meth c H locs (if pl then 86 else 74) (if pl then 854 else 734) Q (F0 m (if pl then 81 else 51) ls [])) :
    ∀ (d i : Nat), (pl = true → i + d = 2) → (pl = false → i + d = 12) → ∀ (us : Nat → Nat → Nat) (H : Heap) (locs : List Loc) (ls : Array Slot) (g : Nat → Option Nat), (pl = true → g = k_ups (fun k => us (12 + k) 0) i) → (pl = false → g = fun _ => none) → k_W G A (k_p3 G h0 q1 q2 (k_ups (fun k => us k 0) (if pl then 12 else i)) g ++ k_blk G us (if pl then 12 + i else i)) s H locs → lv_has ls 2 [(1, .int (nI i)), (0, .ref h0)] → W p l e (k_rm 4 86 854) s m args below meth c H locs (if pl then 74 + i * 6 else 2 + i * 6) (if pl then 734 + i * 60 else 14 + i * 60) Q (F0 m (if pl then 53 else 23) ls []) := by
  have hx := cx.1.1
  have hb := cx.1.2.1
  intro d
  induction d with
  | zero =>
    intro i h1 h2 us H locs ls g hg1 hg2 hw hl
    cases pl with
    | false =>
      have hi : i = 12 := by have := h2 rfl; omega
      subst hi
      refine lv_iload_n hx hb dX3_init_23 rfl (lv_at hl 0 rfl) ?_
      refine lv_aload_n hx hb dX3_init_24 rfl (lv_at hl 1 rfl) ?_
      refine k_get cx.1 hw F_X3_11 q_129 0 rfl rfl dX3_init_25 ?_
      refine k_alen cx.1 hw 1 rfl (v := 12) rfl dX3_init_28 ?_
      refine lv_icmp_ge (tgt := 51) hx hb dX3_init_29 (by decide) (fun hc => ?_) (fun hc => absurd (by decide) hc)
      exact kk us H locs ls g (fun h => by cases h) hg2 hw hl
    | true =>
      have hi : i = 2 := by have := h1 rfl; omega
      subst hi
      refine lv_iload_n hx hb dX3_init_53 rfl (lv_at hl 0 rfl) ?_
      refine lv_aload_n hx hb dX3_init_54 rfl (lv_at hl 1 rfl) ?_
      refine k_get cx.1 hw F_X3_17 q_130 0 rfl rfl dX3_init_55 ?_
      refine k_alen cx.1 hw 2 rfl (v := 2) rfl dX3_init_58 ?_
      refine lv_icmp_ge (tgt := 81) hx hb dX3_init_59 (by decide) (fun hc => ?_) (fun hc => absurd (by decide) hc)
      exact kk us H locs ls g hg1 hg2 hw hl
  | succ d ih =>
    intro i h1 h2 us H locs ls g hg1 hg2 hw hl
    cases pl with
    | false =>
      have hi : i < 12 := by have := h2 rfl; omega
      have hg : g = fun _ => none := hg2 rfl
      have hw : k_W G A (k_p3 G h0 q1 q2 (k_ups (fun k => us k 0) i) g ++ k_blk G us i) s H locs := hw
      refine lv_iload_n hx hb dX3_init_23 rfl (lv_at hl 0 rfl) ?_
      refine lv_aload_n hx hb dX3_init_24 rfl (lv_at hl 1 rfl) ?_
      refine k_get cx.1 hw F_X3_11 q_129 0 rfl rfl dX3_init_25 ?_
      refine k_alen cx.1 hw 1 rfl (v := 12) rfl dX3_init_28 ?_
      refine lv_icmp_ge (tgt := 51) hx hb dX3_init_29 (by decide) (fun hc => absurd hc (nI_ge (b := 12) hi (by decide))) (fun hc => ?_)
      refine lv_aload_n hx hb dX3_init_32 rfl (lv_at hl 1 rfl) ?_
      refine k_get cx.1 hw F_X3_11 q_129 0 rfl rfl dX3_init_33 ?_
      refine lv_iload_n hx hb dX3_init_36 rfl (lv_at hl 0 rfl) ?_
      refine k_mk cx.1 cx.2.2 hw (cw := cw_X7 G) KN_X3_9 dfX7 KI_X3_20 (c_X7_init l G) hl.1 (Nat.le_of_ble_eq_true rfl) (Nat.le_of_ble_eq_true rfl) (by show 2 + i * 6 + 1 + 5 ≤ 86; omega) (by show 14 + i * 60 + 12 + 48 ≤ 854; omega) (Nat.le_of_ble_eq_true rfl) dX3_init_37 dX3_init_40 dX3_init_41 (fun u H locs hw => ?_)
      refine k_aast cx.1 hw 1 (3 + 6 * i) (k := i) (v := u 0) (vs := [.ref (u 1), .ref (u 2), .ref (u 3), .ref (u 4), .ref (u 5), .int 1, .int 0, .int 0, .int 0, .int 0, .int 0, .int 0]) rfl ?_ (nI_clamp (by omega)) (vp_in_nI hi (by decide)) dX3_init_44 (fun H locs hw => ?_)
      · rw [List.getElem?_append_right (by rw [List.length_append, k_blk_len]; show 3 + 6 * i ≤ _; omega), List.length_append, k_blk_len]
        show (cw_X7 G u)[3 + 6 * i - (3 + 6 * i)]? = _
        rw [Nat.sub_self]
        rfl
      refine lv_iinc (v := nI (i + 1)) (lv' := [(1, .int (nI (i + 1))), (0, .ref h0)]) hx hb dX3_init_45 hl (k := 0) rfl (nI_1 i) (by decide) rfl (fun ls hl => ?_)
      refine lv_goto (tgt := 23) hx hb dX3_init_48 (by decide) ?_
      refine W.widen (k := 2 + (i + 1) * 6) (n := 14 + (i + 1) * 60) (by show 2 + i * 6 + 1 + 5 ≤ _; omega) (by show 14 + i * 60 + 12 + 48 ≤ _; omega) ?_
      refine ih (i + 1) (fun h => by cases h) (fun _ => by have := h2 rfl; omega) (k_put1 us i u) H locs ls g (fun h => by cases h) (fun _ => hg) ?_ hl
      have e1 : k_ups (fun k => k_put1 us i u k 0) (i + 1) = va_up (k_ups (fun k => us k 0) i) i (some (u 0)) := by
        show va_up (k_ups (fun k => k_put1 us i u k 0) i) i (some (k_put1 us i u i 0)) = _
        rw [k_ups_c (b := fun k => us k 0) i (fun k hk => by show k_put1 us i u k 0 = us k 0; unfold k_put1; rw [if_neg (by omega)])]
        simp [k_put1]
      show k_W G A (k_p3 G h0 q1 q2 (k_ups (fun k => k_put1 us i u k 0) (i + 1)) g ++ k_blk G (k_put1 us i u) (i + 1)) s H locs
      rw [e1, ← k_blk_s, ← List.append_assoc]
      exact hw
    | true =>
      have hi : i < 2 := by have := h1 rfl; omega
      have hg : g = k_ups (fun k => us (12 + k) 0) i := hg1 rfl
      have hw : k_W G A (k_p3 G h0 q1 q2 (k_ups (fun k => us k 0) 12) g ++ k_blk G us (12 + i)) s H locs := hw
      refine lv_iload_n hx hb dX3_init_53 rfl (lv_at hl 0 rfl) ?_
      refine lv_aload_n hx hb dX3_init_54 rfl (lv_at hl 1 rfl) ?_
      refine k_get cx.1 hw F_X3_17 q_130 0 rfl rfl dX3_init_55 ?_
      refine k_alen cx.1 hw 2 rfl (v := 2) rfl dX3_init_58 ?_
      refine lv_icmp_ge (tgt := 81) hx hb dX3_init_59 (by decide) (fun hc => absurd hc (nI_ge (b := 2) hi (by decide))) (fun hc => ?_)
      refine lv_aload_n hx hb dX3_init_62 rfl (lv_at hl 1 rfl) ?_
      refine k_get cx.1 hw F_X3_17 q_130 0 rfl rfl dX3_init_63 ?_
      refine lv_iload_n hx hb dX3_init_66 rfl (lv_at hl 0 rfl) ?_
      refine k_mk cx.1 cx.2.2 hw (cw := cw_X7 G) KN_X3_9 dfX7 KI_X3_20 (c_X7_init l G) hl.1 (Nat.le_of_ble_eq_true rfl) (Nat.le_of_ble_eq_true rfl) (by show 74 + i * 6 + 1 + 5 ≤ 86; omega) (by show 734 + i * 60 + 12 + 48 ≤ 854; omega) (Nat.le_of_ble_eq_true rfl) dX3_init_67 dX3_init_70 dX3_init_71 (fun u H locs hw => ?_)
      refine k_aast cx.1 hw 2 (3 + 6 * (12 + i)) (k := i) (v := u 0) (vs := [.ref (u 1), .ref (u 2), .ref (u 3), .ref (u 4), .ref (u 5), .int 1, .int 0, .int 0, .int 0, .int 0, .int 0, .int 0]) rfl ?_ (nI_clamp (by omega)) (vp_in_nI hi (by decide)) dX3_init_74 (fun H locs hw => ?_)
      · rw [List.getElem?_append_right (by rw [List.length_append, k_blk_len]; show 3 + 6 * (12 + i) ≤ _; omega), List.length_append, k_blk_len]
        show (cw_X7 G u)[3 + 6 * (12 + i) - (3 + 6 * (12 + i))]? = _
        rw [Nat.sub_self]
        rfl
      refine lv_iinc (v := nI (i + 1)) (lv' := [(1, .int (nI (i + 1))), (0, .ref h0)]) hx hb dX3_init_75 hl (k := 0) rfl (nI_1 i) (by decide) rfl (fun ls hl => ?_)
      refine lv_goto (tgt := 53) hx hb dX3_init_78 (by decide) ?_
      refine W.widen (k := 74 + (i + 1) * 6) (n := 734 + (i + 1) * 60) (by show 74 + i * 6 + 1 + 5 ≤ _; omega) (by show 734 + i * 60 + 12 + 48 ≤ _; omega) ?_
      have e0 : k_ups (fun k => k_put1 us (12 + i) u k 0) 12 = k_ups (fun k => us k 0) 12 := k_ups_c 12 (fun k hk => by show k_put1 us (12 + i) u k 0 = us k 0; unfold k_put1; rw [if_neg (by omega)])
      have e1 : k_ups (fun k => k_put1 us (12 + i) u (12 + k) 0) (i + 1) = va_up (k_ups (fun k => us (12 + k) 0) i) i (some (u 0)) := by
        show va_up (k_ups (fun k => k_put1 us (12 + i) u (12 + k) 0) i) i (some (k_put1 us (12 + i) u (12 + i) 0)) = _
        rw [k_ups_c (b := fun k => us (12 + k) 0) i (fun k hk => by show k_put1 us (12 + i) u (12 + k) 0 = us (12 + k) 0; unfold k_put1; rw [if_neg (by omega)])]
        simp [k_put1]
      refine ih (i + 1) (fun _ => by have := h1 rfl; omega) (fun h => by cases h) (k_put1 us (12 + i) u) H locs ls (va_up g i (some (u 0))) (fun _ => by rw [e1, hg]) (fun h => by cases h) ?_ hl
      show k_W G A (k_p3 G h0 q1 q2 (k_ups (fun k => k_put1 us (12 + i) u k 0) 12) (va_up g i (some (u 0))) ++ k_blk G (k_put1 us (12 + i) u) (12 + i + 1)) s H locs
      rw [e0, ← k_blk_s, ← List.append_assoc]
      exact hw
end KL
set_option maxRecDepth 100000 in
set_option maxHeartbeats 4000000 in
theorem c_X3_init (l : Launch) (G : uG) : k_M l G yX3_init cX3_init 2 4 86 854 3 [.null, .null, .int 0, .int 0] (cw_X3 G) := by
  refine k_M_of RX3 (by decide) rfl rfl (by decide) ?_
  intro p e s m args below meth c ls h0 A hAe cx hw hl
  have hx := cx.1.1
  have hb := cx.1.2.1
  refine lv_aload_n hx hb dX3_init_0 rfl (lv_at hl 0 rfl) ?_
  refine k_obj cx.1 q_125 hl.1 (Nat.le_of_ble_eq_true rfl) (Nat.le_of_ble_eq_true rfl) (Nat.le_of_ble_eq_true rfl) dX3_init_1 ?_
  refine lv_aload_n hx hb dX3_init_4 rfl (lv_at hl 0 rfl) ?_
  refine lv_bipush (v := 12) hx hb dX3_init_5 (by decide) ?_
  refine k_anew (N' := 12) cx.1 cx.2.2 hw q_126 (by decide) (by decide) (Nat.le_of_ble_eq_true rfl) (Nat.le_of_ble_eq_true rfl) (Nat.le_of_ble_eq_true rfl) dX3_init_7 (fun q1 H hw => ?_)
  have hw : k_W G A [(h0, .inr (3, [.null, .null, .int 0, .int 0])), (q1, .inl (G.2.1 4, 12, .inr (.inr (.inr (.inr (fun _ => none))))))] s _ _ := hw
  refine k_putF cx.1 cx.2.1 hw F_X3_11 tyX3_ok nmX3 q_129 0 rfl rfl rfl rfl rfl (Nat.le_of_ble_eq_true rfl) dX3_init_10 (fun H locs hw => ?_)
  have hw : k_W G A [(h0, .inr (3, [.ref q1, .null, .int 0, .int 0])), (q1, .inl (G.2.1 4, 12, .inr (.inr (.inr (.inr (fun _ => none))))))] s _ _ := hw
  refine lv_aload_n hx hb dX3_init_13 rfl (lv_at hl 0 rfl) ?_
  refine lv_iconst (v := 2) hx hb dX3_init_14 (by decide) ?_
  refine k_anew (N' := 2) cx.1 cx.2.2 hw q_126 (by decide) (by decide) (Nat.le_of_ble_eq_true rfl) (Nat.le_of_ble_eq_true rfl) (Nat.le_of_ble_eq_true rfl) dX3_init_15 (fun q2 H hw => ?_)
  have hw : k_W G A [(h0, .inr (3, [.ref q1, .null, .int 0, .int 0])), (q1, .inl (G.2.1 4, 12, .inr (.inr (.inr (.inr (fun _ => none)))))), (q2, .inl (G.2.1 4, 2, .inr (.inr (.inr (.inr (fun _ => none))))))] s _ _ := hw
  refine k_putF cx.1 cx.2.1 hw F_X3_17 tyX3_ok nmX3 q_130 0 rfl rfl rfl rfl rfl (Nat.le_of_ble_eq_true rfl) dX3_init_18 (fun H locs hw => ?_)
  have hw : k_W G A [(h0, .inr (3, [.ref q1, .ref q2, .int 0, .int 0])), (q1, .inl (G.2.1 4, 12, .inr (.inr (.inr (.inr (fun _ => none)))))), (q2, .inl (G.2.1 4, 2, .inr (.inr (.inr (.inr (fun _ => none))))))] s _ _ := hw
  refine lv_iconst (v := 0) hx hb dX3_init_21 (by decide) ?_
  refine lv_istore_n (lv' := [(1, .int 0), (0, .ref h0)]) hx hb dX3_init_22 rfl hl (by decide) rfl (fun ls hl => ?_)
  have hw : k_W G A (k_p3 G h0 q1 q2 (fun _ => none) (fun _ => none) ++ k_blk G (fun _ _ => 0) 0) s H locs := hw
  refine k_pastL (A := A) (h0 := h0) (q1 := q1) (q2 := q2) cx false ?_ 12 0 (fun h => by cases h) (fun _ => rfl) (fun _ _ => 0) H locs ls (fun _ => none) (fun h => by cases h) (fun _ => rfl) hw hl
  intro us H locs ls g _ hg hw hl
  have hg := hg rfl
  subst hg
  refine lv_iconst (v := 0) hx hb dX3_init_51 (by decide) ?_
  refine lv_istore_n (lv' := [(1, .int 0), (0, .ref h0)]) hx hb dX3_init_52 rfl hl (by decide) rfl (fun ls hl => ?_)
  refine k_pastL (A := A) (h0 := h0) (q1 := q1) (q2 := q2) cx true ?_ 2 0 (fun _ => rfl) (fun h => by cases h) us H locs ls (fun _ => none) (fun _ => rfl) (fun h => by cases h) hw hl
  intro us H locs ls g hg _ hw hl
  have hg := hg rfl
  subst hg
  have hw : k_W G A (k_p3 G h0 q1 q2 (k_ups (fun k => us k 0) 12) (k_ups (fun k => us (12 + k) 0) 2) ++ k_blk G us 14) s H locs := hw
  obtain ⟨U, hU⟩ : ∃ U : Nat → Nat, U = (fun i => if i = 0 then h0 else if i = 1 then q1 else if i = 2 then q2 else us ((i - 3) / 6) ((i - 3) % 6)) := ⟨_, rfl⟩
  have hu : ∀ k j, j < 6 → U (3 + 6 * k + j) = us k j := by
    intro k j hj
    rw [hU]
    show (if 3 + 6 * k + j = 0 then h0 else if 3 + 6 * k + j = 1 then q1 else if 3 + 6 * k + j = 2 then q2 else us ((3 + 6 * k + j - 3) / 6) ((3 + 6 * k + j - 3) % 6)) = us k j
    rw [if_neg (by omega), if_neg (by omega), if_neg (by omega), show (3 + 6 * k + j - 3) / 6 = k by omega, show (3 + 6 * k + j - 3) % 6 = j by omega]
  have u0 : U 0 = h0 := by rw [hU]; rfl
  have u1 : U 1 = q1 := by rw [hU]; rfl
  have u2 : U 2 = q2 := by rw [hU]; rfl
  refine k_ret2 cx.1 hAe hw U u0 ?_ (Nat.le_refl _) (Nat.le_refl _) dX3_init_81
  have ea : k_ups (fun k => us k 0) 12 = fun j => if j < 12 then some (U (3 + 6 * j)) else none := by
    rw [k_ups_eq]
    funext j
    have := hu j 0 (by omega)
    rw [← this]
    rfl
  have eb : k_ups (fun k => us (12 + k) 0) 2 = fun j => if j < 2 then some (U (75 + 6 * j)) else none := by
    rw [k_ups_eq]
    funext j
    have := hu (12 + j) 0 (by omega)
    rw [← this, show 3 + 6 * (12 + j) + 0 = 75 + 6 * j by omega]
  have ec : k_blk G us 14 = k_blk G (fun k j => U (3 + 6 * k + j)) 14 := by
    unfold k_blk
    refine k_fm (fun k _ => ?_)
    unfold cw_X7
    simp only [hu k 0 (by omega), hu k 1 (by omega), hu k 2 (by omega), hu k 3 (by omega), hu k 4 (by omega), hu k 5 (by omega)]
  unfold cw_X3
  rw [ea, eb, ec, u0, u1, u2]
