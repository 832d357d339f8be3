def x_at0 : List Cond := x_at.filter vx_no
def x_decl : List MethodName := [⟨"java/lang/RuntimeException", "<init>", "(Ljava/lang/String;)V"⟩, ⟨"java/lang/Exception", "<init>", "(Ljava/lang/String;)V"⟩, ⟨"java/lang/Throwable", "<init>", "(Ljava/lang/String;)V"⟩]
theorem x_notgood : ∀ w ∈ x_at0.filter (fun w => !goodWord w), w ∈ Cond.castable x_E x_E :: x_decl.map (fun x => Cond.declares x) := by decide +kernel
theorem x_good1 : ∀ w ∈ x_at0.filter goodWord, w ∈ tables_1 := by decide +kernel
theorem x_ot : ∀ w ∈ Cond.classLink RX11 143 x_E :: Cond.initialized x_E :: x_at0, vx_ot w = true := by decide +kernel
theorem x_good : ∀ w ∈ x_at0.filter goodWord, w ∈ u_big := fun w hw => List.mem_filter.mpr ⟨List.mem_append_right _ (x_good1 w hw), (List.mem_filter.mp hw).2⟩
