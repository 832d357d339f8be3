/-! HELPERS OF THE LAW: 'out[0] = x.furrow(..)', and 1 where it throws -/
def n_hA (G : uG) (o sz : Nat) : Nat → Prop := fun q => u_A ZC G sz q ∨ q = o
def n_hPre (G : uG) (σ : uS) (o : Nat) (ov : Nat → Int64) (sz : Nat) (U : State) : Prop := U.heap.size = sz ∧ va_P G.1 vwCl (u_w ZC G σ) U.heap ∧ va_P G.1 vwCl (n_o G.2.1 o ov) U.heap ∧ (∀ i j, i < 134 → j < 134 → G.2.2 i = G.2.2 j → i = j) ∧ (∀ i, i < 134 → G.2.2 i ≠ o) ∧ x_K G (n_hA G o sz) U
def n_hB (G : uG) (o : Nat) (u : uS × (Nat → Int64)) (t : State) : Prop := va_P G.1 vwCl (u_w ZC G u.1) t.heap ∧ va_P G.1 vwCl (n_o G.2.1 o u.2) t.heap
def n_hX : String → State → State → Prop := vx_X (fun (_ : Unit) => False) (fun _ _ _ => True) (fun _ => False)
def n_hws (y : MethodName) (cc : ByteArray) (mL : Nat) (hh : List (Nat × Nat × Nat × Nat)) : List Cond := .codeWith y cc mL (some .int) hh :: u_big
def n_Mh (l : Launch) (y : MethodName) (cc : ByteArray) (mL : Nat) (hh : List (Nat × Nat × Nat × Nat)) (hg : Nat) (av : List Value) (G : uG) (σ : uS) (o : Nat) (ov : Nat → Int64) (r : Int32) (w : uS × (Nat → Int64)) : Prop :=
  ∀ sz : Nat, vx_Met l y (n_hws y cc mL hh) (k_rm hg 1 6) (va_Pc av (n_hPre G σ o ov sz)) (va_Qi (fun (r' : Int32) (u : uS × (Nat → Int64)) => r' = r ∧ u = w) (n_hB G o) (n_hA G o sz)) n_hX 1 6 (n_hA G o sz)
def n_hQ (below : List Frame) (G : uG) (o : Nat) (s : State) (args : Array Value) (r : Int32) (w : uS × (Nat → Int64)) : State → Prop := vx_MQ below (va_Qi (fun (r' : Int32) (u : uS × (Nat → Int64)) => r' = r ∧ u = w) (n_hB G o) (n_hA G o s.heap.size)) n_hX args s 1 6 (n_hA G o s.heap.size)
def n_hW (G : uG) (σ : uS) (o : Nat) (ov : Nat → Int64) (s : State) (H : Heap) (locs : List Loc) : Prop := va_P G.1 vwCl (u_w ZC G σ) H ∧ va_P G.1 vwCl (n_o G.2.1 o ov) H ∧ va_S (n_hA G o s.heap.size) s.heap H locs
theorem n_Mh_of {l : Launch} {y : MethodName} {cc : ByteArray} {mL hg o : Nat} {hh : List (Nat × Nat × Nat × Nat)} {av : List Value} {G : uG} {σ : uS} {ov : Nat → Int64} {r : Int32} {w : uS × (Nat → Int64)} (own : String) (hy : plainName y.cls = true) (ho : y.cls = own) (hn : (lg_sl av).length ≤ mL)
    (body : ∀ (p : Program) (e : Env) (s : State) (m : MethodId) (args : Array Value) (below : List Frame) (meth : Method) (c : Code) (ls : Array Slot), n_C p s m args c own cc mL → c.exceptionTable.toList = tableOf hh → meth.sig.returnType = some .int → meth.locks = false → (∀ i j, i < 134 → j < 134 → G.2.2 i = G.2.2 j → i = j) → (∀ i, i < 134 → G.2.2 i ≠ o) → x_K G (n_hA G o s.heap.size) s → n_hW G σ o ov s s.heap [] → lv_has ls mL (lv_args 0 av) → W p l e (k_rm hg 1 6) s m args below meth c s.heap [] 0 0 (n_hQ below G o s args r w) (F0 m 0 ls [])) : n_Mh l y cc mL hh hg av G σ o ov r w := by
  intro sz
  refine vx_ofWH (cc := cc) (maxL := mL) (ret := some .int) (hh := hh) hy rfl ?_
  intro p e s m args below meth c s₁ B hml hv
  obtain ⟨rfl, hsz, hP, hO, h1, h2, hK⟩ := hv
  subst hsz
  have hl := lv_entry av (n := mL) hn
  have hts := atoms_spec (ws := n_hws y cc mL hh) B.pre
  rw [lg_entry_eq]
  exact body p e s m _ below meth c _ ⟨B.exec, B.bytes, hml, by rw [← ho]; exact findClass_of_methodNamed B.named, fun w hw => hts w (List.mem_cons_of_mem _ hw)⟩ (vx_table (x := y) B (hts _ List.mem_cons_self)) B.returns B.notSynchronized h1 h2 hK ⟨hP, hO, va_S.rf⟩ hl
theorem x_blind {G : uG} {σ : uS} {sz : Nat} {av : List Value} : FrameBlind (va_Pc av (x_Pre G σ sz)) := fun a U g mk q => ⟨q.1, q.2.1, q.2.2.1, q.2.2.2.1, x_K.same (U := U.calling g mk a) rfl rfl q.2.2.2.2⟩
theorem n_hblind {G : uG} {σ : uS} {o : Nat} {ov : Nat → Int64} {sz : Nat} {av : List Value} : FrameBlind (va_Pc av (n_hPre G σ o ov sz)) := fun a U g mk q => ⟨q.1, q.2.1, q.2.2.1, q.2.2.2.1, q.2.2.2.2.1, q.2.2.2.2.2.1, x_K.same (U := U.calling g mk a) rfl rfl q.2.2.2.2.2.2⟩
section NH
variable {p : Program} {l : Launch} {e : Env} {R : Room} {s : State} {m : MethodId} {args : Array Value} {below : List Frame} {meth : Method} {c : Code} {H : Heap} {locs : List Loc} {cells slots : Nat} {Q : State → Prop}
variable {own : String} {cc : ByteArray} {mL : Nat} {G : uG} {o : Nat} {σ : uS} {ov : Nat → Int64} {pc : Nat} {ls : Array Slot} {rest : List Value}
theorem n_hret {r v : Int32} {w : uS × (Nat → Int64)} (cx : n_C p s m args c own cc mL) (hr : meth.sig.returnType = some .int) (hlocks : meth.locks = false) (hw : n_hW G σ o ov s H locs) (hq : v = r ∧ (σ, ov) = w) (hc : cells ≤ 1) (hs : slots ≤ 6) (hdg : decode cc pc = .ok (.ireturn, 1)) : W p l e R s m args below meth c H locs cells slots (n_hQ below G o s args r w) (F0 m pc ls [.int v]) := by
  refine W.widen (k := 1) (n := 6) hc hs (vx_ret ?_)
  exact W.iret cx.1 cx.2.1 hr (fun t ht hW => ⟨⟨v, (σ, ov), rfl, hq, by rw [ht]; exact hw.1, by rw [ht]; exact hw.2.1⟩, hw.2.2.F ht⟩) hw.2.2.2.2 hdg hlocks
theorem n_hst {x : Int64} (cx : n_C p s m args c own cc mL) (hK : u_K G s) (h1 : ∀ i j, i < 134 → j < 134 → G.2.2 i = G.2.2 j → i = j) (h2 : ∀ i, i < 134 → G.2.2 i ≠ o) (hw : n_hW G σ o ov s H locs) (hdg : decode cc pc = .ok (.lastore, 1))
    (kk : ∀ (H1 : Heap) (locs1 : List Loc), n_hW G σ o (vp_updL ov 0 x) s H1 locs1 → W p l e R s m args below meth c H1 locs1 cells slots Q (F0 m (pc + 1) ls rest)) : W p l e R s m args below meth c H locs cells slots Q (F0 m pc ls (.long x :: .int 0 :: .ref o :: rest)) := by
  have hlen : (u_w ZC G σ).length = 134 := u_w_len
  have hO : va_D (n_hA G o s.heap.size) (n_o G.2.1 o ov) := by
    refine ⟨fun i j a b hi hj _ => ?_, fun k q hk => Or.inr (n_o_inv hk)⟩
    cases i with
    | zero => cases j with
      | zero => rfl
      | succ j => cases hj
    | succ i => cases hi
  have hD : va_D (n_hA G o s.heap.size) (u_w ZC G σ ++ n_o G.2.1 o ov) := va_D.app (n_inj h1 (fun i hi => Or.inl (Or.inl ⟨i, hi, rfl⟩))) hO (fun i j a b hi hj hab => by
    obtain ⟨h3, rfl⟩ := u_w_inv hi
    exact h2 i h3 (hab.trans (n_o_inv hj)))
  refine va_last (D := G.1) (cl := vwCl) cx.1 cx.2.1 hK.1 (va_P.app hw.1 hw.2.1) hD hw.2.2 134 1 (f := ov) (by rw [List.getElem?_append_right (by rw [hlen]; exact Nat.le_refl _), hlen]; rfl) rfl (i := 0) (by unfold vp_in; decide) hdg (fun H1 locs1 q1 q2 q3 => ?_)
  have e : (u_w ZC G σ ++ n_o G.2.1 o ov).set 134 (o, .inl (G.2.1 1, 1, .inr (.inl (vp_updL ov (0 : Int32).toNatClampNeg x)))) = u_w ZC G σ ++ n_o G.2.1 o (vp_updL ov 0 x) := by
    rw [List.set_append_right _ _ (by rw [hlen]; exact Nat.le_refl _), hlen]; rfl
  rw [e] at q1
  refine kk H1 locs1 ⟨fun k q hk => q1 k q (by rw [List.getElem?_append_left (List.getElem?_eq_some_iff.mp hk).1]; exact hk), fun k q hk => q1 (134 + k) q (by rw [List.getElem?_append_right (by rw [hlen]; exact Nat.le_add_right _ _), hlen, Nat.add_sub_cancel_left]; exact hk), q3⟩
/-- behind the call: what it leaves -/
theorem n_hback {H1 : Heap} {locs1 : List Loc} {σ' : uS} {t : State} (hw : n_hW G σ o ov s H locs) (h2 : ∀ i, i < 134 → G.2.2 i ≠ o) (ht : t.heap = H1) (hB : u_B ZC G H.size σ' t) (hk : ∀ q : Nat, q < H.size → ¬ u_A ZC G H.size q → H1[q]? = H[q]?) (hS : va_S (n_hA G o s.heap.size) s.heap H1 locs1) : n_hW G σ' o ov s H1 locs1 := by
  refine ⟨by rw [← ht]; exact hB.1, hw.2.1.kept (fun k q hq => ?_), hS⟩
  have hlt := (hw.2.1 k q hq).lt
  have ho := n_o_inv hq
  exact hk _ hlt (fun h => by
    rcases h with ⟨i, hi, h⟩ | h
    · exact h2 i hi (h.trans ho)
    · exact absurd hlt (Nat.not_lt.mpr h))
theorem n_hAin (hw : n_hW G σ o ov s H locs) : ∀ q, u_A ZC G H.size q → n_hA G o s.heap.size q := fun q h => by
  rcases h with h | h
  · exact Or.inl (Or.inl h)
  · exact Or.inl (Or.inr (Nat.le_trans hw.2.2.1 h))
theorem n_hxpre {av : List Value} (h1 : ∀ i j, i < 134 → j < 134 → G.2.2 i = G.2.2 j → i = j) (hK : x_K G (n_hA G o s.heap.size) s) (hw : n_hW G σ o ov s H locs) : ∀ U : State, U.heap = H → s.WarmedH U.vm → va_Pc av (x_Pre G σ H.size) av.toArray U := fun U hU hW => ⟨rfl, by rw [hU], by rw [hU]; exact hw.1, n_inj h1 (fun _ _ => trivial), x_K.to hW (fun q g1 g2 => by rw [hU]; exact hw.2.2.2.1 q g1 g2) (n_hAin hw) hK⟩
end NH
theorem LVx_L_7 : u_LV RL 7 RX11 yX11_furrow cX11_furrow 3 (some .int) 2 := ⟨⟨q_997, q_1, q_1000, ⟨by decide +kernel, by decide +kernel, by decide +kernel⟩, by decide⟩, q_998, q_999⟩
theorem dL_furrow_0 : decode cL_furrow 0 = .ok (.aload_n 3, 1) := by decide +kernel
theorem dL_furrow_1 : decode cL_furrow 1 = .ok (.iconst 0, 1) := by decide +kernel
theorem dL_furrow_2 : decode cL_furrow 2 = .ok (.aload_n 0, 1) := by decide +kernel
theorem dL_furrow_3 : decode cL_furrow 3 = .ok (.iload_n 1, 1) := by decide +kernel
theorem dL_furrow_4 : decode cL_furrow 4 = .ok (.iload_n 2, 1) := by decide +kernel
theorem dL_furrow_5 : decode cL_furrow 5 = .ok (.invokevirtual 7, 3) := by decide +kernel
theorem dL_furrow_8 : decode cL_furrow 8 = .ok (.i2l, 1) := by decide +kernel
theorem dL_furrow_9 : decode cL_furrow 9 = .ok (.lastore, 1) := by decide +kernel
theorem dL_furrow_10 : decode cL_furrow 10 = .ok (.goto 7, 3) := by decide +kernel
theorem dL_furrow_13 : decode cL_furrow 13 = .ok (.astore 4, 2) := by decide +kernel
theorem dL_furrow_15 : decode cL_furrow 15 = .ok (.iconst 1, 1) := by decide +kernel
theorem dL_furrow_16 : decode cL_furrow 16 = .ok (.ireturn, 1) := by decide +kernel
theorem dL_furrow_17 : decode cL_furrow 17 = .ok (.iconst 0, 1) := by decide +kernel
theorem dL_furrow_18 : decode cL_furrow 18 = .ok (.ireturn, 1) := by decide +kernel
theorem c_L_furrow (l : Launch) (hl0 : l.stackTraces = false) (G : uG) (N : Nat) (σ : uS) (o : Nat) (ov : Nat → Int64) (p1 p2 : Int32) (z : Option Int32 × uS) (hz : f_X11_furrow N σ p1 p2 = some z) : n_Mh l yL_furrow cL_furrow 5 [(0, 10, 13, 13)] 7 [.ref (G.2.2 0), .int p1, .int p2, .ref o] G σ o ov (match z.1 with | none => 1 | some _ => 0) (z.2, match z.1 with | none => ov | some r => vp_updL ov 0 (Int32.toInt64 r)) := by
  refine n_Mh_of RL (by decide) rfl (Nat.le_of_ble_eq_true rfl) ?_
  intro p e s m args below meth c ls cx htb hr hlocks h1 h2 hK hw hl
  obtain ⟨hx, hb, hml, hown, hts⟩ := id cx
  have hl : lv_has ls 5 [(0, .ref (G.2.2 0)), (1, .int p1), (2, .int p2), (3, .ref o)] := hl
  refine lv_aload_n hx hb dL_furrow_0 rfl (lv_at hl 3 rfl) ?_
  refine lv_iconst (v := 0) hx hb dL_furrow_1 (by decide) ?_
  refine lv_aload_n hx hb dL_furrow_2 rfl (lv_at hl 0 rfl) ?_
  refine lv_iload_n hx hb dL_furrow_3 rfl (lv_at hl 1 rfl) ?_
  refine lv_iload_n hx hb dL_furrow_4 rfl (lv_at hl 2 rfl) ?_
  refine vx_calli (vx_runV (As := [.int p1, .int p2]) (rest := [.int 0, .ref o]) ⟨hx, hb, hml, hown, hts⟩ (c_X11_furrow l hl0 G N σ p1 p2 z hz s.heap.size) ⟨n_cb cx LVx_L_7.1 (by decide) (by decide), hts _ LVx_L_7.2.1, hts _ LVx_L_7.2.2⟩ ⟨x_blind, va_recv hK.1.1 hw.1 (ci := 10) (q0 := 0) rfl (by rw [u_w_get o_X11.1, u_E_ob o_X11.2.1]), n_hxpre h1 hK hw⟩ rfl rfl hl.1 rfl (lv_room (Nat.le_of_ble_eq_true rfl)) dL_furrow_5 ⟨by decide, by decide⟩) hw.2.2 (fun q _ h => n_hAin hw q h) (n_hAin hw) (fun q _ h => n_hAin hw q h) (fun E ce q9 u t H1 locs1 ht hvm hpx hBX hz1 hk1 hS hce hcv hcl => ?_) (fun r u t H1 locs1 ht hvm hp hB hz1 hk1 hS => ?_)
  · obtain ⟨rfl, hB⟩ := hBX
    refine vx_catch hown [] ⟨0, 10, 13, 13⟩ [] (by rw [htb]; rfl) (fun z hz => nomatch hz) (by decide) (by decide) (hts _ q_996) (va_Nw.use rfl hK.2.1) hce hcv hcl ?_
    refine lv_astore (lv' := [(4, .ref q9), (0, .ref (G.2.2 0)), (1, .int p1), (2, .int p2), (3, .ref o)]) hx hb dL_furrow_13 hl (by decide) rfl (fun ls hl => ?_)
    refine lv_iconst (v := 1) hx hb dL_furrow_15 (by decide) ?_
    refine n_hret cx hr hlocks (n_hback hw h2 ht hB hk1 hS) ?_ (by decide) (by decide) dL_furrow_16
    rw [hpx]; exact ⟨rfl, rfl⟩
  · obtain ⟨hr1, rfl⟩ := hp
    refine lv_i2l (v := Int32.toInt64 r) hx hb dL_furrow_8 rfl ?_
    refine n_hst cx hK.1 h1 h2 (n_hback hw h2 ht hB hk1 hS) dL_furrow_9 (fun H2 locs2 hw2 => ?_)
    refine lv_goto (tgt := 17) hx hb dL_furrow_10 (by decide) ?_
    refine lv_iconst (v := 0) hx hb dL_furrow_17 (by decide) ?_
    refine n_hret cx hr hlocks hw2 ?_ (by decide) (by decide) dL_furrow_18
    rw [hr1]; exact ⟨rfl, rfl⟩
theorem LVx_L_15 : u_LV RL 15 RX11 yX11_person cX11_person 3 (some .int) 2 := ⟨⟨q_1070, q_1, q_1073, ⟨by decide +kernel, by decide +kernel, by decide +kernel⟩, by decide⟩, q_1071, q_1072⟩
theorem dL_person_0 : decode cL_person 0 = .ok (.aload_n 3, 1) := by decide +kernel
theorem dL_person_1 : decode cL_person 1 = .ok (.iconst 0, 1) := by decide +kernel
theorem dL_person_2 : decode cL_person 2 = .ok (.aload_n 0, 1) := by decide +kernel
theorem dL_person_3 : decode cL_person 3 = .ok (.iload_n 1, 1) := by decide +kernel
theorem dL_person_4 : decode cL_person 4 = .ok (.iload_n 2, 1) := by decide +kernel
theorem dL_person_5 : decode cL_person 5 = .ok (.invokevirtual 15, 3) := by decide +kernel
theorem dL_person_8 : decode cL_person 8 = .ok (.i2l, 1) := by decide +kernel
theorem dL_person_9 : decode cL_person 9 = .ok (.lastore, 1) := by decide +kernel
theorem dL_person_10 : decode cL_person 10 = .ok (.goto 7, 3) := by decide +kernel
theorem dL_person_13 : decode cL_person 13 = .ok (.astore 4, 2) := by decide +kernel
theorem dL_person_15 : decode cL_person 15 = .ok (.iconst 1, 1) := by decide +kernel
theorem dL_person_16 : decode cL_person 16 = .ok (.ireturn, 1) := by decide +kernel
theorem dL_person_17 : decode cL_person 17 = .ok (.iconst 0, 1) := by decide +kernel
theorem dL_person_18 : decode cL_person 18 = .ok (.ireturn, 1) := by decide +kernel
theorem c_L_person (l : Launch) (hl0 : l.stackTraces = false) (G : uG) (N : Nat) (σ : uS) (o : Nat) (ov : Nat → Int64) (p1 p2 : Int32) (z : Option Int32 × uS) (hz : f_X11_person N σ p1 p2 = some z) : n_Mh l yL_person cL_person 5 [(0, 10, 13, 13)] 7 [.ref (G.2.2 0), .int p1, .int p2, .ref o] G σ o ov (match z.1 with | none => 1 | some _ => 0) (z.2, match z.1 with | none => ov | some r => vp_updL ov 0 (Int32.toInt64 r)) := by
  refine n_Mh_of RL (by decide) rfl (Nat.le_of_ble_eq_true rfl) ?_
  intro p e s m args below meth c ls cx htb hr hlocks h1 h2 hK hw hl
  obtain ⟨hx, hb, hml, hown, hts⟩ := id cx
  have hl : lv_has ls 5 [(0, .ref (G.2.2 0)), (1, .int p1), (2, .int p2), (3, .ref o)] := hl
  refine lv_aload_n hx hb dL_person_0 rfl (lv_at hl 3 rfl) ?_
  refine lv_iconst (v := 0) hx hb dL_person_1 (by decide) ?_
  refine lv_aload_n hx hb dL_person_2 rfl (lv_at hl 0 rfl) ?_
  refine lv_iload_n hx hb dL_person_3 rfl (lv_at hl 1 rfl) ?_
  refine lv_iload_n hx hb dL_person_4 rfl (lv_at hl 2 rfl) ?_
  refine vx_calli (vx_runV (As := [.int p1, .int p2]) (rest := [.int 0, .ref o]) ⟨hx, hb, hml, hown, hts⟩ (c_X11_person l hl0 G N σ p1 p2 z hz s.heap.size) ⟨n_cb cx LVx_L_15.1 (by decide) (by decide), hts _ LVx_L_15.2.1, hts _ LVx_L_15.2.2⟩ ⟨x_blind, va_recv hK.1.1 hw.1 (ci := 10) (q0 := 0) rfl (by rw [u_w_get o_X11.1, u_E_ob o_X11.2.1]), n_hxpre h1 hK hw⟩ rfl rfl hl.1 rfl (lv_room (Nat.le_of_ble_eq_true rfl)) dL_person_5 ⟨by decide, by decide⟩) hw.2.2 (fun q _ h => n_hAin hw q h) (n_hAin hw) (fun q _ h => n_hAin hw q h) (fun E ce q9 u t H1 locs1 ht hvm hpx hBX hz1 hk1 hS hce hcv hcl => ?_) (fun r u t H1 locs1 ht hvm hp hB hz1 hk1 hS => ?_)
  · obtain ⟨rfl, hB⟩ := hBX
    refine vx_catch hown [] ⟨0, 10, 13, 13⟩ [] (by rw [htb]; rfl) (fun z hz => nomatch hz) (by decide) (by decide) (hts _ q_996) (va_Nw.use rfl hK.2.1) hce hcv hcl ?_
    refine lv_astore (lv' := [(4, .ref q9), (0, .ref (G.2.2 0)), (1, .int p1), (2, .int p2), (3, .ref o)]) hx hb dL_person_13 hl (by decide) rfl (fun ls hl => ?_)
    refine lv_iconst (v := 1) hx hb dL_person_15 (by decide) ?_
    refine n_hret cx hr hlocks (n_hback hw h2 ht hB hk1 hS) ?_ (by decide) (by decide) dL_person_16
    rw [hpx]; exact ⟨rfl, rfl⟩
  · obtain ⟨hr1, rfl⟩ := hp
    refine lv_i2l (v := Int32.toInt64 r) hx hb dL_person_8 rfl ?_
    refine n_hst cx hK.1 h1 h2 (n_hback hw h2 ht hB hk1 hS) dL_person_9 (fun H2 locs2 hw2 => ?_)
    refine lv_goto (tgt := 17) hx hb dL_person_10 (by decide) ?_
    refine lv_iconst (v := 0) hx hb dL_person_17 (by decide) ?_
    refine n_hret cx hr hlocks hw2 ?_ (by decide) (by decide) dL_person_18
    rw [hr1]; exact ⟨rfl, rfl⟩
theorem LVx_L_18 : u_LV RL 18 RX11 yX11_row cX11_row 2 (some .long) 1 := ⟨⟨q_1083, q_1, q_1086, ⟨by decide +kernel, by decide +kernel, by decide +kernel⟩, by decide⟩, q_1084, q_1085⟩
theorem dL_row_0 : decode cL_row 0 = .ok (.aload_n 2, 1) := by decide +kernel
theorem dL_row_1 : decode cL_row 1 = .ok (.iconst 0, 1) := by decide +kernel
theorem dL_row_2 : decode cL_row 2 = .ok (.aload_n 0, 1) := by decide +kernel
theorem dL_row_3 : decode cL_row 3 = .ok (.iload_n 1, 1) := by decide +kernel
theorem dL_row_4 : decode cL_row 4 = .ok (.invokevirtual 18, 3) := by decide +kernel
theorem dL_row_7 : decode cL_row 7 = .ok (.lastore, 1) := by decide +kernel
theorem dL_row_8 : decode cL_row 8 = .ok (.goto 6, 3) := by decide +kernel
theorem dL_row_11 : decode cL_row 11 = .ok (.astore_n 3, 1) := by decide +kernel
theorem dL_row_12 : decode cL_row 12 = .ok (.iconst 1, 1) := by decide +kernel
theorem dL_row_13 : decode cL_row 13 = .ok (.ireturn, 1) := by decide +kernel
theorem dL_row_14 : decode cL_row 14 = .ok (.iconst 0, 1) := by decide +kernel
theorem dL_row_15 : decode cL_row 15 = .ok (.ireturn, 1) := by decide +kernel
theorem c_L_row (l : Launch) (hl0 : l.stackTraces = false) (G : uG) (N : Nat) (σ : uS) (o : Nat) (ov : Nat → Int64) (p1 : Int32) (z : Option Int64 × uS) (hz : f_X11_row N σ p1 = some z) : n_Mh l yL_row cL_row 4 [(0, 8, 11, 13)] 7 [.ref (G.2.2 0), .int p1, .ref o] G σ o ov (match z.1 with | none => 1 | some _ => 0) (z.2, match z.1 with | none => ov | some r => vp_updL ov 0 r) := by
  refine n_Mh_of RL (by decide) rfl (Nat.le_of_ble_eq_true rfl) ?_
  intro p e s m args below meth c ls cx htb hr hlocks h1 h2 hK hw hl
  obtain ⟨hx, hb, hml, hown, hts⟩ := id cx
  have hl : lv_has ls 4 [(0, .ref (G.2.2 0)), (1, .int p1), (2, .ref o)] := hl
  refine lv_aload_n hx hb dL_row_0 rfl (lv_at hl 2 rfl) ?_
  refine lv_iconst (v := 0) hx hb dL_row_1 (by decide) ?_
  refine lv_aload_n hx hb dL_row_2 rfl (lv_at hl 0 rfl) ?_
  refine lv_iload_n hx hb dL_row_3 rfl (lv_at hl 1 rfl) ?_
  refine vx_calll (vx_runV (As := [.int p1]) (rest := [.int 0, .ref o]) ⟨hx, hb, hml, hown, hts⟩ (c_X11_row l hl0 G N σ p1 z hz s.heap.size) ⟨n_cb cx LVx_L_18.1 (by decide) (by decide), hts _ LVx_L_18.2.1, hts _ LVx_L_18.2.2⟩ ⟨x_blind, va_recv hK.1.1 hw.1 (ci := 10) (q0 := 0) rfl (by rw [u_w_get o_X11.1, u_E_ob o_X11.2.1]), n_hxpre h1 hK hw⟩ rfl rfl hl.1 rfl (lv_room (Nat.le_of_ble_eq_true rfl)) dL_row_4 ⟨by decide, by decide⟩) hw.2.2 (fun q _ h => n_hAin hw q h) (n_hAin hw) (fun q _ h => n_hAin hw q h) (fun E ce q9 u t H1 locs1 ht hvm hpx hBX hz1 hk1 hS hce hcv hcl => ?_) (fun r u t H1 locs1 ht hvm hp hB hz1 hk1 hS => ?_)
  · obtain ⟨rfl, hB⟩ := hBX
    refine vx_catch hown [] ⟨0, 8, 11, 13⟩ [] (by rw [htb]; rfl) (fun z hz => nomatch hz) (by decide) (by decide) (hts _ q_996) (va_Nw.use rfl hK.2.1) hce hcv hcl ?_
    refine lv_astore_n (lv' := [(3, .ref q9), (0, .ref (G.2.2 0)), (1, .int p1), (2, .ref o)]) hx hb dL_row_11 rfl hl (by decide) rfl (fun ls hl => ?_)
    refine lv_iconst (v := 1) hx hb dL_row_12 (by decide) ?_
    refine n_hret cx hr hlocks (n_hback hw h2 ht hB hk1 hS) ?_ (by decide) (by decide) dL_row_13
    rw [hpx]; exact ⟨rfl, rfl⟩
  · obtain ⟨hr1, rfl⟩ := hp
    refine n_hst cx hK.1 h1 h2 (n_hback hw h2 ht hB hk1 hS) dL_row_7 (fun H2 locs2 hw2 => ?_)
    refine lv_goto (tgt := 14) hx hb dL_row_8 (by decide) ?_
    refine lv_iconst (v := 0) hx hb dL_row_14 (by decide) ?_
    refine n_hret cx hr hlocks hw2 ?_ (by decide) (by decide) dL_row_15
    rw [hr1]; exact ⟨rfl, rfl⟩
