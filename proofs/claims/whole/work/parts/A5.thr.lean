/-! rests: a throw, caught by the law's helper -/
abbrev nsE : String := "java/util/NoSuchElementException"
abbrev nsN : List String := ["java/lang/RuntimeException", "java/lang/Exception"]
abbrev nsB : List Cond := [.castable nsE nsE, .declares (Bundle.init0 "java/lang/RuntimeException"), .declares (Bundle.init0 "java/lang/Exception"), .declares (Bundle.init0 "java/lang/Throwable")]
theorem ns_bad : ∀ w ∈ (vx_at0 RX11 295 nsE nsN).filter (fun w => !goodWord w), w ∈ nsB := by decide +kernel
theorem ns_in : ∀ w ∈ (vx_at0 RX11 295 nsE nsN).filter goodWord, w ∈ lw_tbl := by decide +kernel
theorem ns_ot : ∀ w ∈ Cond.classLink RX11 293 nsE :: Cond.initialized nsE :: vx_at0 RX11 295 nsE nsN, vx_ot w = true := by decide +kernel
theorem ns_k : Cond.classLink RX11 293 nsE ∈ g_T := g_inT1 (i := 1127) (by decide +kernel) (by decide +kernel)
theorem ns_i : Cond.initialized nsE ∈ g_T := g_inT1 (i := 25) (by decide +kernel) (by decide +kernel)
theorem ns_n : Cond.instantiable nsE 6 ∈ g_T := g_inT1 (i := 1128) (by decide +kernel) (by decide +kernel)
theorem ns_m1 : Cond.instanceMethod (Bundle.init0 "java/lang/RuntimeException") ∈ g_T ∧ Cond.code (Bundle.init0 "java/lang/RuntimeException") Bundle.five 1 none ∈ g_T := ⟨g_inT1 (i := 1170) (by decide +kernel) (by decide +kernel), g_inT1 (i := 1171) (by decide +kernel) (by decide +kernel)⟩
theorem ns_m2 : Cond.instanceMethod (Bundle.init0 "java/lang/Exception") ∈ g_T ∧ Cond.code (Bundle.init0 "java/lang/Exception") Bundle.five 1 none ∈ g_T := ⟨g_inT1 (i := 1173) (by decide +kernel) (by decide +kernel), g_inT1 (i := 1174) (by decide +kernel) (by decide +kernel)⟩
theorem ns_m3 : Cond.instanceMethod (Bundle.init0 "java/lang/Throwable") ∈ g_T ∧ Cond.code (Bundle.init0 "java/lang/Throwable") prog_27_method_1_code 1 none ∈ g_T := ⟨g_inT1 (i := 1150) (by decide +kernel) (by decide +kernel), g_inT1 (i := 1151) (by decide +kernel) (by decide +kernel)⟩
theorem ns_dec {args : Array Value} {s : State} {x : MethodName} {b : ByteArray} {k : Nat} {r : Option FieldType} (h1 : (Cond.instanceMethod x).before args s = true) (h2 : (Cond.code x b k r).before args s = true) : (Cond.declares x).before args s = true := by
  obtain ⟨m, meth, hn, hm, hs, -⟩ := Cond.instanceMethod_spec h1
  obtain ⟨meth', c, hm', -, -, -, -, -, -, hp⟩ := Cond.code_spec hn h2
  cases Option.some.inj (hm.symm.trans hm')
  show (Cond.declares x).holds args s none s [] = true
  simp [Cond.holds, Cond.value, hn, hm, hs, hp]
theorem ns_self (vm : Vm) (c : ClassId) : vm.assignable c c = true := by
  show vm.assignableAux 256 c c = true
  unfold Vm.assignableAux
  simp
theorem ns_cast {args : Array Value} {s : State} (h : (Cond.instantiable nsE 6).before args s = true) : (Cond.castable nsE nsE).before args s = true := by
  obtain ⟨c1, kX, hc1, -⟩ := Cond.instantiable_spec h
  show (Cond.castable nsE nsE).holds args s none s [] = true
  simp [Cond.holds, Cond.value, hc1, ns_self]
theorem ns_hat {args : Array Value} {s : State} (h : ∀ w ∈ g_T, w.before args s = true) : ∀ w ∈ vx_at0 RX11 295 nsE nsN, w.before args s = true := by
  refine vx_hat (B := nsB) (fun w hw => h w (List.mem_filter.mpr ⟨ns_in w hw, (List.mem_filter.mp hw).2⟩)) ns_bad ?_
  exact vx_c (ns_cast (h _ ns_n)) (vx_c (ns_dec (h _ ns_m1.1) (h _ ns_m1.2)) (vx_c (ns_dec (h _ ns_m2.1) (h _ ns_m2.2)) (vx_c (ns_dec (h _ ns_m3.1) (h _ ns_m3.2)) vx_n)))
theorem ns_fl {l : Launch} (h : l.flags = flags0) : l.stackTraces = false := by
  unfold Launch.stackTraces
  rw [h]
  decide +kernel
