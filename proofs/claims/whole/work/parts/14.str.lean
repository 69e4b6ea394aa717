/-! TEXT CONSTANTS AND STATICS: tokens -/
def g_Xt (M : gMD) (n' mc ms : Nat) (P : gHp → Int32 → Prop) : gX := fun pc n H _ st kc ks => n = n' ∧ kc = mc ∧ ks = ms ∧ decode M.2.1 pc = .ok (.ireturn, 1) ∧ ∃ x, st = [.int x] ∧ P H x ∧ ∀ ty, M.2.2.2.1 = some ty → narrow ty (.int x) = .int x
theorem gCt_of {d : Nat} {M : gMD} {n : Nat} {H : gHp} {av : List Value} {n' mc ms : Nat} {ty : FieldType} {P : gHp → Int32 → Prop} (hpl : plainName M.1.cls = true) (hlen : g_len av ≤ M.2.2.1) (hscr : M.2.2.2.2 = none) (hret : M.2.2.2.1 = some ty) (h : gG d M mc ms (g_Xt M n' mc ms P) 0 n H (g_ent M.2.2.1 av) [] 0 0) : gCi d M n H av n' mc ms P := by
  intro l dC dI dA τ ρ sz hfl hoH hoS hτ0
  refine Met.ofW (cc := M.2.1) (maxL := M.2.2.1) (ret := M.2.2.2.1) hpl rfl ?_
  intro p e s m args below meth c s₁ B hml hv
  obtain ⟨rfl, hsz, hP, hK, hD0, hNW, hSE⟩ := hv
  subst hsz
  have hx := B.exec
  have hb := B.bytes
  have hr := B.returns
  have hts := atoms_spec (ws := g_ws M) B.pre
  have hown : s.vm.findClass M.1.cls = some m.cls := findClass_of_methodNamed B.named
  have hlk := B.notSynchronized
  have hnm : meth.name = M.1.name := (name_of_methodNamed B.named B.method).1
  have hD := hD0.self (sz := s.heap.size)
  rw [lg_entry_eq]
  have hl := lv_entry (av.map (g_cv ρ τ)) (n := M.2.2.1) (by rw [g_len_ok hτ0]; exact hlen)
  rw [← g_ent_L hτ0 av M.2.2.1 0] at hl
  generalize ((lg_sl (av.map (g_cv ρ τ)) ++ List.replicate (M.2.2.1 - (lg_sl (av.map (g_cv ρ τ))).length) Slot.unset).toArray) = ls at hl ⊢
  refine h p l e s m _ below meth c dC dI dA τ (va_A (g_w ρ τ dA n H) s.heap.size) n ρ _ ⟨hx, hb, hml, hr, hown, fun w hw => hts w (List.mem_cons_of_mem _ hw), hlk, hnm, hK, fun q hq => Or.inr hq, hNW, hSE, hτ0, fun S hS => by rw [hscr] at hS; cases hS⟩ hfl ?_ ρ s.heap [] ls ⟨Nat.le_refl _, fun _ _ => rfl, hoH, g_ent_o av _ hoS, trivial, hP, hD, va_S.rf, hl⟩
  intro pc1 n1 H1 L1 st1 kc1 ks1 hx1 ρ1 Hr1 locs1 ls1 hR1
  obtain ⟨rfl, rfl, rfl, hd, x, rfl, hp, hz⟩ := hx1
  obtain ⟨r1, r2, r3, r4, r5, r6, r7, r8, r9⟩ := hR1
  exact W.zret (v := x) (ty := ty) hx hb (hr.trans hret) (hz ty hret) (fun t ht hW => ⟨⟨x, (ρ1, H1), rfl, hp, r2, r3, by rw [ht]; exact r6, r7⟩, r8.F ht⟩) r8.2.2 hd
/-- an instance method of String by an entry of own's pool -/
def g_MT (own : String) (idx : Nat) (M : gMD) (nA : Nat) : Prop :=
  M.1.cls = "java/lang/String" ∧ (Cond.methodLink own idx M.1 ∈ g_T) ∧ (Cond.instanceMethod M.1 ∈ g_T) ∧ (Cond.selects "java/lang/String" M.1 M.1 ∈ g_T) ∧ (Cond.initialized "java/lang/String" ∈ g_T) ∧ (Cond.code M.1 M.2.1 M.2.2.1 M.2.2.2.1 ∈ g_T) ∧
    (M.1.cls ≠ "java/lang/invoke/MethodHandle" ∧ M.1.cls ≠ "java/lang/invoke/VarHandle" ∧ (parseMethodDescriptor M.1.desc).map (fun d => d.parameters.length) = some nA) ∧ M.2.2.1 ≤ 40
/-- the bytes of the t-th text -/
def g_by (t : UInt32) : List Int32 := ((g_strs[t.toNat]?).map (fun q => q.2.2.2)).getD []
theorem g_tu {t : UInt32} (h : t.toNat < 45) : ((100 : UInt32) + t).toNat = 100 + t.toNat := by
  rw [UInt32.toNat_add]
  have e : (100 : UInt32).toNat = 100 := rfl
  rw [e]
  omega
section GS
variable {d : Nat} {M : gMD} {Rc Rs : Nat} {X : gX} {pc n : Nat} {H : gHp} {L : List (Option Value)} {st : List Value} {kc ks : Nat}
theorem gG_ldcS {idx : Nat} {t : UInt32} {tx : String} {bs : List Int32} (hd : decode M.2.1 pc = .ok (.ldc idx, 2)) (hs : g_strs[t.toNat]? = some (M.1.cls, idx, tx, bs)) (h : gG d M Rc Rs X (pc + 2) n H L (.float t :: st) kc ks) : gG d M Rc Rs X pc n H L st kc ks := by
  intro p l e s m args below meth c dC dI dA τ A n0 ρ0 Q F hfl hX ρ Hr locs ls hR
  obtain ⟨r1, r2, r3, r4, r5, r6, r7, r8, r9⟩ := id hR
  obtain ⟨hx, hb, hml, hr, hown, hts, hlk, hnm, hK, hA, hN, hE, hτ0, hS⟩ := id F
  obtain ⟨a, b, e1, e2, e3, e4⟩ := hE.1 _ _ hs
  have hgo := h p l e s m args below meth c dC dI dA τ A n0 ρ0 Q F hfl hX ρ Hr locs ls ⟨r1, r2, r3, r4, ⟨trivial, r5⟩, r6, r7, r8, r9⟩
  have e5 : g_cv ρ τ (.float t) = .ref a := e1
  rw [List.map_cons, e5] at hgo
  exact va_ldcS hx hb hown e3 hd hgo
theorem gG_ldcwS {idx : Nat} {t : UInt32} {tx : String} {bs : List Int32} (hd : decode M.2.1 pc = .ok (.ldc idx, 2)) (hs : g_strs[t.toNat]? = some (M.1.cls, idx, tx, bs)) (h : gG d M Rc Rs X (pc + 2) n H L (.float t :: st) kc ks) : gG d M Rc Rs X pc n H L st kc ks := gG_ldcS hd hs h
theorem g_tok {τ : Nat → Value} {A : Nat → Prop} {s : State} (hE : g_SE τ A s s.heap) {t : UInt32} (ht : t.toNat < 45) : ∃ a b : Nat, τ t.toNat = .ref a ∧ τ (100 + t.toNat) = .ref b ∧ g_s1 a b (g_by t) A s s.heap := by
  have hl : t.toNat < g_strs.length := ht
  obtain ⟨a, b, e1, e2, e3, e4⟩ := hE.1 _ _ (List.getElem?_eq_getElem hl)
  refine ⟨a, b, e1, e2, ?_⟩
  have e5 : g_by t = (g_strs[t.toNat]).2.2.2 := by simp [g_by, List.getElem?_eq_getElem hl]
  rw [e5]; exact e4
theorem gG_gco {idx : Nat} {t : UInt32} (ht : t.toNat < 45) (hd : decode M.2.1 pc = .ok (.getfield idx, 3)) (hl : Cond.fieldLink M.1.cls idx "java/lang/String" "coder" "B" ∈ g_T) (h : gG d M Rc Rs X (pc + 3) n H L (.int 0 :: st) kc ks) : gG d M Rc Rs X pc n H L (.float t :: st) kc ks := by
  intro p l e s m args below meth c dC dI dA τ A n0 ρ0 Q F hfl hX ρ Hr locs ls hR
  obtain ⟨r1, r2, r3, r4, r5, r6, r7, r8, r9⟩ := id hR
  obtain ⟨hx, hb, hml, hr, hown, hts, hlk, hnm, hK, hA, hN, hE, hτ0, hS⟩ := id F
  obtain ⟨a, b, e1, e2, e3⟩ := g_tok hE ht
  have e5 : g_cv ρ τ (.float t) = .ref a := e1
  rw [List.map_cons, e5]
  exact vk_getf hx hb e3.2.1 r8 hown (hts _ hl) (fun _ h9 => h9) hd (h p l e s m args below meth c dC dI dA τ A n0 ρ0 Q F hfl hX ρ Hr locs ls ⟨r1, r2, r3, r4, ⟨trivial, r5.2⟩, r6, r7, r8, r9⟩)
theorem gG_gva {idx : Nat} {t u : UInt32} (ht : t.toNat < 45) (hu : u.toNat = 100 + t.toNat) (hd : decode M.2.1 pc = .ok (.getfield idx, 3)) (hl : Cond.fieldLink M.1.cls idx "java/lang/String" "value" "[B" ∈ g_T) (h : gG d M Rc Rs X (pc + 3) n H L (.float u :: st) kc ks) : gG d M Rc Rs X pc n H L (.float t :: st) kc ks := by
  intro p l e s m args below meth c dC dI dA τ A n0 ρ0 Q F hfl hX ρ Hr locs ls hR
  obtain ⟨r1, r2, r3, r4, r5, r6, r7, r8, r9⟩ := id hR
  obtain ⟨hx, hb, hml, hr, hown, hts, hlk, hnm, hK, hA, hN, hE, hτ0, hS⟩ := id F
  obtain ⟨a, b, e1, e2, e3⟩ := g_tok hE ht
  have e5 : g_cv ρ τ (.float t) = .ref a := e1
  have e6 : g_cv ρ τ (.float u) = .ref b := by show τ u.toNat = _; rw [hu]; exact e2
  have hgo := h p l e s m args below meth c dC dI dA τ A n0 ρ0 Q F hfl hX ρ Hr locs ls ⟨r1, r2, r3, r4, ⟨trivial, r5.2⟩, r6, r7, r8, r9⟩
  rw [List.map_cons, e6] at hgo
  rw [List.map_cons, e5]
  exact vk_getf hx hb e3.2.2.1 r8 hown (hts _ hl) (fun _ h9 => h9) hd hgo
theorem gG_tlen {t u : UInt32} (ht : t.toNat < 45) (hu : u.toNat = 100 + t.toNat) (hd : decode M.2.1 pc = .ok (.arraylength, 1)) (h : gG d M Rc Rs X (pc + 1) n H L (.int (Int32.ofNat (g_by t).length) :: st) kc ks) : gG d M Rc Rs X pc n H L (.float u :: st) kc ks := by
  intro p l e s m args below meth c dC dI dA τ A n0 ρ0 Q F hfl hX ρ Hr locs ls hR
  obtain ⟨r1, r2, r3, r4, r5, r6, r7, r8, r9⟩ := id hR
  obtain ⟨hx, hb, hml, hr, hown, hts, hlk, hnm, hK, hA, hN, hE, hτ0, hS⟩ := id F
  obtain ⟨a, b, e1, e2, e3⟩ := g_tok hE ht
  have e6 : g_cv ρ τ (.float u) = .ref b := by show τ u.toNat = _; rw [hu]; exact e2
  rw [List.map_cons, e6]
  exact va_tlen hx hb e3.2.2.2 r8 rfl hd (h p l e s m args below meth c dC dI dA τ A n0 ρ0 Q F hfl hX ρ Hr locs ls ⟨r1, r2, r3, r4, ⟨trivial, r5.2⟩, r6, r7, r8, r9⟩)
theorem gG_tb {t u : UInt32} {i : Int32} (ht : t.toNat < 45) (hu : u.toNat = 100 + t.toNat) (hd : decode M.2.1 pc = .ok (.baload, 1)) (hin : vp_in i (g_by t).length) (h : gG d M Rc Rs X (pc + 1) n H L (.int ((g_by t).getD i.toNatClampNeg 0) :: st) kc ks) : gG d M Rc Rs X pc n H L (.int i :: .float u :: st) kc ks := by
  intro p l e s m args below meth c dC dI dA τ A n0 ρ0 Q F hfl hX ρ Hr locs ls hR
  obtain ⟨r1, r2, r3, r4, r5, r6, r7, r8, r9⟩ := id hR
  obtain ⟨hx, hb, hml, hr, hown, hts, hlk, hnm, hK, hA, hN, hE, hτ0, hS⟩ := id F
  obtain ⟨a, b, e1, e2, e3⟩ := g_tok hE ht
  have e6 : g_cv ρ τ (.float u) = .ref b := by show τ u.toNat = _; rw [hu]; exact e2
  rw [List.map_cons, List.map_cons, e6]
  exact va_tb hx hb e3.2.2.2 r8 hin rfl hd (h p l e s m args below meth c dC dI dA τ A n0 ρ0 Q F hfl hX ρ Hr locs ls ⟨r1, r2, r3, r4, ⟨trivial, r5.2.2⟩, r6, r7, r8, r9⟩)
theorem gG_gscs {idx : Nat} (hd : decode M.2.1 pc = .ok (.getstatic idx, 3)) (hl : Cond.fieldLink M.1.cls idx "java/lang/String" "COMPACT_STRINGS" "Z" ∈ g_T) (h : gG d M Rc Rs X (pc + 3) n H L (.int 1 :: st) kc ks) : gG d M Rc Rs X pc n H L st kc ks := by
  intro p l e s m args below meth c dC dI dA τ A n0 ρ0 Q F hfl hX ρ Hr locs ls hR
  obtain ⟨r1, r2, r3, r4, r5, r6, r7, r8, r9⟩ := id hR
  obtain ⟨hx, hb, hml, hr, hown, hts, hlk, hnm, hK, hA, hN, hE, hτ0, hS⟩ := id F
  exact va_gets hx hb hE.2.1 r8 hown (hts _ hl) (fun _ h9 => h9) hd (h p l e s m args below meth c dC dI dA τ A n0 ρ0 Q F hfl hX ρ Hr locs ls ⟨r1, r2, r3, r4, ⟨trivial, r5⟩, r6, r7, r8, r9⟩)
theorem gG_gsfo {idx : Nat} (hd : decode M.2.1 pc = .ok (.getstatic idx, 3)) (hl : Cond.fieldLink M.1.cls idx "jdk/internal/util/Preconditions" "SIOOBE_FORMATTER" "Ljava/util/function/BiFunction;" ∈ g_T) (h : gG d M Rc Rs X (pc + 3) n H L (.float 200 :: st) kc ks) : gG d M Rc Rs X pc n H L st kc ks := by
  intro p l e s m args below meth c dC dI dA τ A n0 ρ0 Q F hfl hX ρ Hr locs ls hR
  obtain ⟨r1, r2, r3, r4, r5, r6, r7, r8, r9⟩ := id hR
  obtain ⟨hx, hb, hml, hr, hown, hts, hlk, hnm, hK, hA, hN, hE, hτ0, hS⟩ := id F
  exact va_gets hx hb hE.2.2.1 r8 hown (hts _ hl) (fun _ h9 => h9) hd (h p l e s m args below meth c dC dI dA τ A n0 ρ0 Q F hfl hX ρ Hr locs ls ⟨r1, r2, r3, r4, ⟨trivial, r5⟩, r6, r7, r8, r9⟩)
theorem gG_i2b {x : Int32} (hd : decode M.2.1 pc = .ok (.i2b, 1)) (h : gG d M Rc Rs X (pc + 1) n H L (.int x.toInt8.toInt32 :: st) kc ks) : gG d M Rc Rs X pc n H L (.int x :: st) kc ks :=
  gG_stk h (fun o => ⟨trivial, o.2⟩) (fun hx hb hown hts hτ k => lv_i2b hx hb hd rfl k)
theorem gG_cTi {idx d' nA : Nat} {t : UInt32} {M' : gMD} {As st0 : List Value} {n' mc ms : Nat} {P : gHp → Int32 → Prop} (hd : decode M.2.1 pc = .ok (.invokevirtual idx, 3)) (hl : g_MT M.1.cls idx M' nA) (hdd : d' < d) (ht : t.toNat < 45) (hn : As.length = nA) (hst : st0 = As.reverse ++ .float t :: st) (hcat : (st.map fun v => v.category).sum ≤ 8) (hnn : n ≤ n') (hroom : kc + mc ≤ Rc ∧ ks + ms ≤ Rs) (hC : gCi d' M' n H (.float t :: As) n' mc ms P) (h : ∀ H' x, P H' x → gG d M Rc Rs X (pc + 3) n' H' L (.int x :: st) (kc + mc) (ks + ms)) : gG d M Rc Rs X pc n H L st0 kc ks := by
  subst hst
  intro p l e s m args below meth c dC dI dA τ A n0 ρ0 Q F hfl hX ρ Hr locs ls hR
  obtain ⟨r1, r2, r3, r4, r5, r6, r7, r8, r9⟩ := id hR
  obtain ⟨hx, hb, hml, hr, hown, hts, hlk, hnm, hK, hA, hN, hE, hτ0, hS⟩ := id F
  obtain ⟨k2, k3, k4, k5, k6, k7, k8, k9⟩ := hl
  have ho : g_oS n As ∧ g_oS n (.float t :: st) := g_oS_rev r5
  have hM := hC l dC dI dA τ ρ Hr.size hfl r3 ⟨trivial, ho.1⟩ hτ0
  have hAA := g_AA r7 r8 hA
  have hpre : ∀ U : State, U.heap = Hr → s.WarmedH U.vm → va_Pc ((.float t :: As).map (g_cv ρ τ)) (g_Pre dC dI dA τ ρ n H Hr.size) ((.float t :: As).map (g_cv ρ τ)).toArray U := fun U hU hW => ⟨rfl, by rw [hU], by rw [hU]; exact r6, va_K.moved hW.alike hK, r7.weaken (fun _ _ _ _ => trivial), hN.to hW, by rw [hU]; exact hE.to r8.2.1 hW hAA⟩
  obtain ⟨a, b, e1, e2, e3⟩ := g_tok hE ht
  have e5 : g_cv ρ τ (.float t) = .ref a := e1
  have cw : CallW (g_rm d Rc Rs) s args M.1.cls "java/lang/String" idx M'.1 M'.2.1 M'.2.2.1 M'.2.2.2.1 (g_ws M') (g_rm d' mc ms) mc ms nA := cwV nA hts (fun w hw => by
      rcases List.mem_append.mp hw with hw | hw
      · simp only [List.mem_cons, List.not_mem_nil, or_false] at hw
        rcases hw with rfl | rfl | rfl | rfl
        · exact ⟨k3, g_T_good k3⟩
        · exact ⟨k4, g_T_good k4⟩
        · exact ⟨k5, g_T_good k5⟩
        · exact ⟨k6, g_T_good k6⟩
      · exact g_good k7 w hw) rfl rfl rfl ⟨k2, k8⟩ (g_room hdd k9)
  have hst' : (As.reverse ++ .float t :: st).map (g_cv ρ τ) = (As.map (g_cv ρ τ)).reverse ++ .ref a :: st.map (g_cv ρ τ) := by rw [List.map_append, List.map_reverse, List.map_cons, e5]
  have hav : (.float t :: As).map (g_cv ρ τ) = .ref a :: As.map (g_cv ρ τ) := by rw [List.map_cons, e5]
  rw [hav] at hM hpre
  rw [hst']
  have hrcv : ∃ cellB : Cell, Hr[a]? = some cellB ∧ cellB.vm.isStatics = false ∧ s.vm.findClass "java/lang/String" = some cellB.cls := by
    obtain ⟨cell, h1, h2, h3, -⟩ := e3.1.kept r8.2.1
    exact ⟨cell, h1, h2, h3⟩
  have hbl : FrameBlind (va_Pc (.ref a :: As.map (g_cv ρ τ)) (g_Pre dC dI dA τ ρ n H Hr.size)) := g_blind
  refine va_calli (va_runV (As := As.map (g_cv ρ τ)) (rest := st.map (g_cv ρ τ)) ⟨hx, hb, hml, hown, hts⟩ hM cw ⟨hbl, hrcv, hpre⟩ rfl (by rw [List.length_map]; exact hn) r9.1 rfl (lv_room (by rw [g_cats hτ0]; exact hcat)) hd hroom) r8 (fun q _ h => hAA q h) hAA (fun r u t1 H1 locs1 ht1 hvm hw hB hz1 hk1 hS1 => ?_)
  obtain ⟨b1, b2, b3, b4⟩ := hB
  rw [ht1] at b3
  have hL' : g_L u.1 τ L 0 = g_L ρ τ L 0 := g_L_ext b1 r4
  have hs' : st.map (g_cv u.1 τ) = st.map (g_cv ρ τ) := g_map_ext b1 ho.2.2
  have hgo := h u.2 r hw p l e s m args below meth c dC dI dA τ A n0 ρ0 Q F hfl hX u.1 H1 locs1 ls ⟨Nat.le_trans r1 hnn, fun k hk => by rw [b1 k (Nat.lt_of_lt_of_le hk r1)]; exact r2 k hk, b2, g_oL_mono hnn r4, ⟨trivial, g_oS_mono hnn ho.2.2⟩, b3, b4.weaken (fun _ q _ hq => hAA q.1 hq), hS1, by rw [hL']; exact r9⟩
  rw [List.map_cons, hs'] at hgo
  exact hgo
/-- the script -/
theorem gG_sld {i : Int32} {S : Nat × (Nat → Int32)} (hM : M.2.2.2.2 = some S) (hd : decode M.2.1 pc = .ok (.iaload, 1)) (hin : vp_in i S.1) (h : gG d M Rc Rs X (pc + 1) n H L (.int (S.2 i.toNatClampNeg) :: st) kc ks) : gG d M Rc Rs X pc n H L (.int i :: .float 300 :: st) kc ks := by
  intro p l e s m args below meth c dC dI dA τ A n0 ρ0 Q F hfl hX ρ Hr locs ls hR
  obtain ⟨r1, r2, r3, r4, r5, r6, r7, r8, r9⟩ := id hR
  obtain ⟨hx, hb, hml, hr, hown, hts, hlk, hnm, hK, hA, hN, hE, hτ0, hS⟩ := id F
  obtain ⟨b, e1, e2, e3, e4⟩ := hS S hM
  have e5 : g_cv ρ τ (.float 300) = .ref b := e1
  rw [List.map_cons, List.map_cons, e5]
  exact va_sld hx hb e2 e3 e4 r8 hin hd (h p l e s m args below meth c dC dI dA τ A n0 ρ0 Q F hfl hX ρ Hr locs ls ⟨r1, r2, r3, r4, ⟨trivial, r5.2.2⟩, r6, r7, r8, r9⟩)
theorem gG_slen {S : Nat × (Nat → Int32)} (hM : M.2.2.2.2 = some S) (hd : decode M.2.1 pc = .ok (.arraylength, 1)) (h : gG d M Rc Rs X (pc + 1) n H L (.int (Int32.ofNat S.1) :: st) kc ks) : gG d M Rc Rs X pc n H L (.float 300 :: st) kc ks := by
  intro p l e s m args below meth c dC dI dA τ A n0 ρ0 Q F hfl hX ρ Hr locs ls hR
  obtain ⟨r1, r2, r3, r4, r5, r6, r7, r8, r9⟩ := id hR
  obtain ⟨hx, hb, hml, hr, hown, hts, hlk, hnm, hK, hA, hN, hE, hτ0, hS⟩ := id F
  obtain ⟨b, e1, e2, e3, e4⟩ := hS S hM
  have e5 : g_cv ρ τ (.float 300) = .ref b := e1
  rw [List.map_cons, e5]
  exact va_slen hx hb e2 e3 e4 r8 hd (h p l e s m args below meth c dC dI dA τ A n0 ρ0 Q F hfl hX ρ Hr locs ls ⟨r1, r2, r3, r4, ⟨trivial, r5.2⟩, r6, r7, r8, r9⟩)
end GS
theorem mT_X8_44 : g_MT RX8 44 mJ0_indexOf_0f7a4 1 := ⟨rfl, g_inT1 (i := 440) (by decide +kernel) (by decide +kernel), mi_J0_indexOf_0f7a4, me_J0_indexOf_0f7a4, ini_J0, mc_J0_indexOf_0f7a4, mp_J0_indexOf_0f7a4, by decide⟩
theorem mT_J0_633 : g_MT RJ0 633 mJ0_indexOf_7cf53 2 := ⟨rfl, g_inT1 (i := 444) (by decide +kernel) (by decide +kernel), mi_J0_indexOf_7cf53, me_J0_indexOf_7cf53, ini_J0, mc_J0_indexOf_7cf53, mp_J0_indexOf_7cf53, by decide⟩
theorem mT_J0_492 : g_MT RJ0 492 mJ0_isLatin1_aae02 0 := ⟨rfl, g_inT1 (i := 448) (by decide +kernel) (by decide +kernel), mi_J0_isLatin1_aae02, me_J0_isLatin1_aae02, ini_J0, mc_J0_isLatin1_aae02, mp_J0_isLatin1_aae02, by decide⟩
theorem mT_J0_505 : g_MT RJ0 505 mJ0_length_8abf5 0 := ⟨rfl, g_inT1 (i := 454) (by decide +kernel) (by decide +kernel), mi_J0_length_8abf5, me_J0_length_8abf5, ini_J0, mc_J0_length_8abf5, mp_J0_length_8abf5, by decide⟩
theorem mT_J0_335 : g_MT RJ0 335 mJ0_coder_7d493 0 := ⟨rfl, g_inT1 (i := 458) (by decide +kernel) (by decide +kernel), mi_J0_coder_7d493, me_J0_coder_7d493, ini_J0, mc_J0_coder_7d493, mp_J0_coder_7d493, by decide⟩
theorem mT_X8_59 : g_MT RX8 59 mJ0_length_8abf5 0 := ⟨rfl, g_inT1 (i := 539) (by decide +kernel) (by decide +kernel), mi_J0_length_8abf5, me_J0_length_8abf5, ini_J0, mc_J0_length_8abf5, mp_J0_length_8abf5, by decide⟩
theorem mT_X8_63 : g_MT RX8 63 mJ0_charAt_5068e 1 := ⟨rfl, g_inT1 (i := 540) (by decide +kernel) (by decide +kernel), mi_J0_charAt_5068e, me_J0_charAt_5068e, ini_J0, mc_J0_charAt_5068e, mp_J0_charAt_5068e, by decide⟩
theorem fj_J0_38 : Cond.fieldLink RJ0 38 "java/lang/String" "COMPACT_STRINGS" "Z" ∈ g_T := g_inT1 (i := 452) (by decide +kernel) (by decide +kernel)
theorem fj_J0_1053 : Cond.fieldLink RJ0 1053 "jdk/internal/util/Preconditions" "SIOOBE_FORMATTER" "Ljava/util/function/BiFunction;" ∈ g_T := g_inT1 (i := 495) (by decide +kernel) (by decide +kernel)
theorem fj_J0_15 : Cond.fieldLink RJ0 15 "java/lang/String" "coder" "B" ∈ g_T := g_inT1 (i := 1864) (by decide +kernel) (by decide +kernel)
theorem fj_J0_9 : Cond.fieldLink RJ0 9 "java/lang/String" "value" "[B" ∈ g_T := g_inT1 (i := 1865) (by decide +kernel) (by decide +kernel)
