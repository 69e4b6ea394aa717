/-! the law's helper: rests, its throw caught -/
abbrev mL_rests : gMD := (yL_rests, cL_rests, 7, (some .int), none)
abbrev hhR : List (Nat × Nat × Nat × Nat) := [(0, 14, 17, 13)]
abbrev wsR : List Cond := Cond.codeWith yL_rests cL_rests 7 (some .int) hhR :: g_T
theorem wR_c : Cond.codeWith yL_rests cL_rests 7 (some .int) hhR ∈ g_T := g_inT1 (i := 1118) (by decide +kernel) (by decide +kernel)
theorem wR_l : Cond.methodLink "StoneReadersLaw" 181 yL_rests ∈ g_T := g_inT1 (i := 1116) (by decide +kernel) (by decide +kernel)
theorem wR_s : Cond.static yL_rests ∈ g_T := g_inT1 (i := 1117) (by decide +kernel) (by decide +kernel)
theorem wR_i : Cond.initialized "StoneReadersLaw" ∈ g_T := g_inT1 (i := 0) (by decide +kernel) (by decide +kernel)
theorem wR_k : Cond.classLink "StoneReadersLaw" 13 nsE ∈ g_T := g_inT1 (i := 1119) (by decide +kernel) (by decide +kernel)
def gHi (d n : Nat) (H : gHp) (av : List Value) (P : gHp → Int32 → Prop) : Prop :=
  ∀ (l : Launch) (dC : Nat → ClassId) (dI : Nat → Nat → Nat) (dA : Nat → ClassId) (τ : Nat → Value) (ρ : Nat → Nat) (sz : Nat), l.flags = flags0 → g_oH n H → g_oS n av → g_ro τ →
    vx_Met l yL_rests wsR (g_rm d 1 6) (va_Pc (av.map (g_cv ρ τ)) (g_Pre dC dI dA τ ρ n H sz)) (va_Qi (fun r (u : (Nat → Nat) × gHp) => P u.2 r) (g_B dC dI dA τ ρ n n (va_A (g_w ρ τ dA n H) sz)) (va_A (g_w ρ τ dA n H) sz))
      (vx_X (fun _ : Unit => False) (fun _ _ _ => False) (va_A (g_w ρ τ dA n H) sz)) 1 6 (va_A (g_w ρ τ dA n H) sz)
def gX9 (n : Nat) (H : gHp) (L : List (Option Value)) (st : List Value) : gX := fun pc' n' H' L' st' kc' ks' => pc' = 9 ∧ n' = n ∧ H' = H ∧ L' = L ∧ st' = st ∧ kc' = 0 ∧ ks' = 0
theorem gH_w {d n : Nat} {H : gHp} {x out : Nat} {i1 i2 i3 i4 : Int32} : gG d mL_rests 1 6 (gX9 n H [some (.ref x), some (.int i1), some (.int i2), some (.int i3), some (.int i4), some (.ref out), none] [.int i4, .int i3, .int i2, .int i1, .ref x, .int 0, .ref out]) 0 n H [some (.ref x), some (.int i1), some (.int i2), some (.int i3), some (.int i4), some (.ref out), none] [] 0 0 := by
  refine gG_aload dL_rests_0 rfl ?_
  refine gG_iconst (v := 0) dL_rests_2 (by decide) ?_
  refine gG_aload_n dL_rests_3 rfl rfl ?_
  refine gG_iload_n dL_rests_4 rfl rfl ?_
  refine gG_iload_n dL_rests_5 rfl rfl ?_
  refine gG_iload_n dL_rests_6 rfl rfl ?_
  refine gG_iload dL_rests_7 rfl ?_
  exact gG_exit ⟨rfl, rfl, rfl, rfl, rfl, rfl, rfl⟩
theorem gH_r {d n : Nat} {H : gHp} {L : List (Option Value)} {out : Nat} {r : Int32} {P : gHp → Int32 → Prop} (h : g_lst H out 0 r.toInt64 (fun H2 => P H2 0)) : gG d mL_rests 1 6 (g_Xi mL_rests n 1 6 P) 12 n H L [.int r, .int 0, .ref out] 1 6 := by
  refine gG_i2l dL_rests_12 ?_
  refine gG_last dL_rests_13 ?_
  obtain ⟨m1, f, h1, h2, h3⟩ := h
  refine ⟨m1, f, h1, h2, ?_⟩
  refine gG_goto (tgt := 21) dL_rests_14 (by decide) ?_
  refine gG_iconst (v := 0) dL_rests_21 (by decide) ?_
  exact gG_exit ⟨rfl, rfl, rfl, dL_rests_22, 0, rfl, h3, fun e => by cases e⟩
theorem gH_t {d n : Nat} {H : gHp} {L : List (Option Value)} {P : gHp → Int32 → Prop} (h : P H 1) : gG d mL_rests 1 6 (g_Xi mL_rests n 1 6 P) 19 n H L [] 1 6 := by
  refine gG_iconst (v := 1) dL_rests_19 (by decide) ?_
  exact gG_exit ⟨rfl, rfl, rfl, dL_rests_20, 1, rfl, h, fun e => by cases e⟩
theorem gH_of {d d' n : Nat} {H : gHp} {x out : Nat} {i1 i2 i3 i4 : Int32} {P P1 : gHp → Int32 → Prop} {PT : gHp → Prop} (hdd : d' < d) (hrc : ∃ fs, H x = .inr (11, fs)) (hC : gTi d' mX11_rests n H [.ref x, .int i1, .int i2, .int i3, .int i4] 1 6 P1 PT)
    (h1 : ∀ H' r, P1 H' r → g_lst H' out 0 r.toInt64 (fun H2 => P H2 0)) (h2 : ∀ H', PT H' → P H' 1) : gHi d n H [.ref x, .int i1, .int i2, .int i3, .int i4, .ref out] P := by
  intro l dC dI dA τ ρ sz hfl hoH hoS hτ0
  refine vx_ofWH (cc := cL_rests) (maxL := 7) (ret := some .int) (hh := hhR) (by decide +kernel) rfl ?_
  intro p e s m args below meth c s₁ B hml hv
  obtain ⟨rfl, hsz, hP, hK, hD0, hNW, hSE⟩ := hv
  subst hsz
  have hx := B.exec
  have hb := B.bytes
  have hr := B.returns
  have hts := atoms_spec (ws := wsR) B.pre
  have hown : s.vm.findClass mL_rests.1.cls = some m.cls := findClass_of_methodNamed B.named
  have hlk := B.notSynchronized
  have hnm : meth.name = mL_rests.1.name := (name_of_methodNamed B.named B.method).1
  have hD := hD0.self (sz := s.heap.size)
  have htb := vx_table (x := yL_rests) B (hts _ List.mem_cons_self)
  rw [lg_entry_eq]
  have hl := lv_entry ([.ref x, .int i1, .int i2, .int i3, .int i4, .ref out].map (g_cv ρ τ)) (n := 7) (by rw [g_len_ok hτ0]; exact Nat.le_of_ble_eq_true rfl)
  rw [← g_ent_L hτ0 [.ref x, .int i1, .int i2, .int i3, .int i4, .ref out] 7 0] at hl
  generalize ((lg_sl ([.ref x, .int i1, .int i2, .int i3, .int i4, .ref out].map (g_cv ρ τ)) ++ List.replicate (7 - (lg_sl ([.ref x, .int i1, .int i2, .int i3, .int i4, .ref out].map (g_cv ρ τ))).length) Slot.unset).toArray) = ls at hl ⊢
  have hT : ∀ w ∈ g_T, w.before _ s = true := fun w hw => hts w (List.mem_cons_of_mem _ hw)
  have F : g_Fx mL_rests p s m _ meth c dC dI dA τ (va_A (g_w ρ τ dA n H) s.heap.size) := ⟨hx, hb, hml, hr, hown, hT, hlk, hnm, hK, fun q hq => Or.inr hq, hNW, hSE, hτ0, fun S hS => by cases hS⟩
  refine gH_w (x := x) (out := out) (i1 := i1) (i2 := i2) (i3 := i3) (i4 := i4) p l e s m _ below meth c dC dI dA τ (va_A (g_w ρ τ dA n H) s.heap.size) n ρ _ F hfl ?_ ρ s.heap [] ls ⟨Nat.le_refl _, fun _ _ => rfl, hoH, g_ent_o _ 7 hoS, trivial, hP, hD, va_S.rf, hl⟩
  intro pc1 n1 H1 L1 st1 kc1 ks1 hx1 ρ1 Hr1 locs1 ls1 hR1
  obtain ⟨rfl, rfl, rfl, rfl, rfl, rfl, rfl⟩ := hx1
  obtain ⟨r1, r2, r3, r4, r5, r6, r7, r8, r9⟩ := hR1
  obtain ⟨C, Tt, N, k1, k2, k3, k4, k5, k6, k7, k8, k9⟩ := mV_L_7
  obtain ⟨fs, hrc⟩ := hrc
  have hb0 : x < n1 := r5.2.2.2.2.1
  have hM := hC l dC dI dA τ ρ1 Hr1.size hfl r3 ⟨hb0, trivial, trivial, trivial, trivial, trivial⟩ hτ0
  have hA : ∀ q, s.heap.size ≤ q → va_A (g_w ρ τ dA n1 H1) s.heap.size q := fun q hq => Or.inr hq
  have hAA := g_AA r7 r8 hA
  have hpre : ∀ U : State, U.heap = Hr1 → s.WarmedH U.vm → va_Pc ([.ref x, .int i1, .int i2, .int i3, .int i4].map (g_cv ρ1 τ)) (g_Pre dC dI dA τ ρ1 n1 H1 Hr1.size) ([.ref x, .int i1, .int i2, .int i3, .int i4].map (g_cv ρ1 τ)).toArray U := fun U hU hW => ⟨rfl, by rw [hU], by rw [hU]; exact r6, va_K.moved hW.alike hK, r7.weaken (fun _ _ _ _ => trivial), hNW.to hW, by rw [hU]; exact hSE.to r8.2.1 hW hAA⟩
  have cw : CallW (headSpec wsR (g_rm d 1 6)).room s _ mL_rests.1.cls C 7 mX11_rests.1 mX11_rests.2.1 mX11_rests.2.2.1 mX11_rests.2.2.2.1 (g_ws mX11_rests) (g_rm d' 1 6) 1 6 4 := cwV 4 hT (fun w hw => by
      rcases List.mem_append.mp hw with hw | hw
      · simp only [List.mem_cons, List.not_mem_nil, or_false] at hw
        rcases hw with rfl | rfl | rfl | rfl
        · exact ⟨k3, g_T_good k3⟩
        · exact ⟨k4, g_T_good k4⟩
        · exact ⟨k5, g_T_good k5⟩
        · exact ⟨k6, g_T_good k6⟩
      · exact g_good k7 w hw) rfl rfl rfl ⟨k2, k8⟩ (g_room hdd k9)
  refine vx_calli (vx_runV (As := [.int i1, .int i2, .int i3, .int i4]) (rest := [.int 0, .ref (ρ1 out)]) ⟨hx, hb, hml, hown, hT⟩ hM cw ⟨g_blind, va_recv hK r6 k1 (g_w_obj hb0 hrc), hpre⟩ rfl rfl r9.1 rfl (by show 2 * 0 + 2 ≤ 8; decide) dL_rests_9 ⟨Nat.le_refl _, Nat.le_refl _⟩) r8 (fun q _ h => hAA q h) hAA (fun q _ h => hAA q h) (fun E ce q9 u t H2 locs2 ht hvm hp hB hz hk hS2 hce hcv hcl => ?_) (fun r u t H2 locs2 ht hvm hp hB hz hk hS2 => ?_)
  · obtain ⟨rfl, b1, b2, b3, b4⟩ := hB
    rw [ht] at b3
    refine vx_catch (own := "StoneReadersLaw") (name := nsE) (E := nsE) hown [] ⟨0, 14, 17, 13⟩ [] htb (fun z hz => nomatch hz) (by decide) (by decide) (hT _ wR_k) (ns_cast (hT _ ns_n)) hce hcv hcl ?_
    refine lv_astore hx hb dL_rests_17 r9 (by decide) rfl (fun ls' h' => ?_)
    refine gH_t (P := P) (L := [none, none, none, none, none, none, none]) (h2 _ hp) p l e s m _ below meth c dC dI dA τ (va_A (g_w ρ τ dA n1 H1) s.heap.size) n1 ρ _ F hfl ?_ u.1 H2 locs2 ls' ⟨Nat.le_refl _, fun k hk => by rw [b1 k hk]; exact r2 k hk, b2, trivial, trivial, b3, b4.weaken (fun _ q _ hq => hAA q.1 hq), hS2, g_has_sub h' (fun q hq => nomatch hq)⟩
    intro pc3 n3 H3 L3 st3 kc3 ks3 hx3 ρ3 Hr3 locs3 ls3 hR3
    obtain ⟨rfl, rfl, rfl, hd, y, rfl, hp3, -⟩ := hx3
    obtain ⟨q1, q2, q3, q4, q5, q6, q7, q8, q9⟩ := hR3
    exact vx_ret (W.zret (v := y) (ty := .int) hx hb hr rfl (fun t ht hW => ⟨⟨y, (ρ3, H3), rfl, hp3, q2, q3, by rw [ht]; exact q6, q7⟩, q8.F ht⟩) q8.2.2 hd)
  · obtain ⟨b1, b2, b3, b4⟩ := hB
    rw [ht] at b3
    have ho : out < n1 := r5.2.2.2.2.2.2.1
    have eo : ρ1 out = u.1 out := (b1 out ho).symm
    rw [eo]
    have hL' : g_L u.1 τ [some (.ref x), some (.int i1), some (.int i2), some (.int i3), some (.int i4), some (.ref out), none] 0 = g_L ρ1 τ [some (.ref x), some (.int i1), some (.int i2), some (.int i3), some (.int i4), some (.ref out), none] 0 := g_L_ext b1 r4
    refine gH_r (P := P) (h1 _ _ hp) p l e s m _ below meth c dC dI dA τ (va_A (g_w ρ τ dA n1 H1) s.heap.size) n1 ρ _ F hfl ?_ u.1 H2 locs2 ls1 ⟨Nat.le_refl _, fun k hk => by rw [b1 k hk]; exact r2 k hk, b2, r4, ⟨trivial, trivial, ho, trivial⟩, b3, b4.weaken (fun _ q _ hq => hAA q.1 hq), hS2, by rw [hL']; exact r9⟩
    intro pc3 n3 H3 L3 st3 kc3 ks3 hx3 ρ3 Hr3 locs3 ls3 hR3
    obtain ⟨rfl, rfl, rfl, hd, y, rfl, hp3, -⟩ := hx3
    obtain ⟨q1, q2, q3, q4, q5, q6, q7, q8, q9⟩ := hR3
    exact vx_ret (W.zret (v := y) (ty := .int) hx hb hr rfl (fun t ht hW => ⟨⟨y, (ρ3, H3), rfl, hp3, q2, q3, by rw [ht]; exact q6, q7⟩, q8.F ht⟩) q8.2.2 hd)
