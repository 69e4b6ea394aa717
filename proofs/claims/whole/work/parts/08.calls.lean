/-! CONTRACTS AND CALLS -/
def g_Pre (dC : Nat → ClassId) (dI : Nat → Nat → Nat) (dA : Nat → ClassId) (τ : Nat → Value) (ρ : Nat → Nat) (n : Nat) (H : gHp) (sz : Nat) (U : State) : Prop :=
  U.heap.size = sz ∧ va_P (dC, dI) g_cl (g_w ρ τ dA n H) U.heap ∧ va_K (dC, dI) g_cl (g_tys dA) U ∧ va_D (fun _ => True) (g_w ρ τ dA n H) ∧ g_NW U ∧ g_SE τ (va_A (g_w ρ τ dA n H) sz) U U.heap
def g_B (dC : Nat → ClassId) (dI : Nat → Nat → Nat) (dA : Nat → ClassId) (τ : Nat → Value) (ρ : Nat → Nat) (n n' : Nat) (A : Nat → Prop) (u : (Nat → Nat) × gHp) (t : State) : Prop :=
  (∀ k, k < n → u.1 k = ρ k) ∧ g_oH n' u.2 ∧ va_P (dC, dI) g_cl (g_w u.1 τ dA n' u.2) t.heap ∧ va_D A (g_w u.1 τ dA n' u.2)
abbrev g_ws (M : gMD) : List Cond := .code M.1 M.2.1 M.2.2.1 M.2.2.2.1 :: g_T
/-- a method that answers an int -/
def gCi (d : Nat) (M : gMD) (n : Nat) (H : gHp) (av : List Value) (n' mc ms : Nat) (P : gHp → Int32 → Prop) : Prop :=
  ∀ (l : Launch) (dC : Nat → ClassId) (dI : Nat → Nat → Nat) (dA : Nat → ClassId) (τ : Nat → Value) (ρ : Nat → Nat) (sz : Nat), l.flags = flags0 → g_oH n H → g_oS n av → g_ro τ →
    Met l M.1 (g_ws M) (g_rm d mc ms) (va_Pc (av.map (g_cv ρ τ)) (g_Pre dC dI dA τ ρ n H sz)) (va_Qi (fun r (u : (Nat → Nat) × gHp) => P u.2 r) (g_B dC dI dA τ ρ n n' (va_A (g_w ρ τ dA n H) sz)) (va_A (g_w ρ τ dA n H) sz)) mc ms (va_A (g_w ρ τ dA n H) sz)
/-- a method that answers nothing -/
def gCv (d : Nat) (M : gMD) (n : Nat) (H : gHp) (av : List Value) (n' mc ms : Nat) (P : gHp → Prop) : Prop :=
  ∀ (l : Launch) (dC : Nat → ClassId) (dI : Nat → Nat → Nat) (dA : Nat → ClassId) (τ : Nat → Value) (ρ : Nat → Nat) (sz : Nat), l.flags = flags0 → g_oH n H → g_oS n av → g_ro τ →
    Met l M.1 (g_ws M) (g_rm d mc ms) (va_Pc (av.map (g_cv ρ τ)) (g_Pre dC dI dA τ ρ n H sz)) (va_Qv (fun (u : (Nat → Nat) × gHp) => P u.2) (g_B dC dI dA τ ρ n n' (va_A (g_w ρ τ dA n H) sz)) (va_A (g_w ρ τ dA n H) sz)) mc ms (va_A (g_w ρ τ dA n H) sz)
/-- a method that answers a boolean -/
def gCz (d : Nat) (M : gMD) (n : Nat) (H : gHp) (av : List Value) (n' mc ms : Nat) (P : gHp → Bool → Prop) : Prop := gCi d M n H av n' mc ms (fun H x => ∃ b : Bool, x = g_b b ∧ P H b)
/-! the entry: arguments into locals -/
def g_ent : Nat → List Value → List (Option Value)
  | n, [] => List.replicate n none
  | n, .long x :: vs => some (.long x) :: none :: g_ent (n - 2) vs
  | n, .double x :: vs => some (.double x) :: none :: g_ent (n - 2) vs
  | n, .int x :: vs => some (.int x) :: g_ent (n - 1) vs
  | n, .float x :: vs => some (.float x) :: g_ent (n - 1) vs
  | n, .null :: vs => some .null :: g_ent (n - 1) vs
  | n, .ref x :: vs => some (.ref x) :: g_ent (n - 1) vs
  | n, .retAddr x :: vs => some (.retAddr x) :: g_ent (n - 1) vs
def g_len : List Value → Nat
  | [] => 0
  | .long _ :: vs => g_len vs + 2
  | .double _ :: vs => g_len vs + 2
  | .int _ :: vs => g_len vs + 1
  | .float _ :: vs => g_len vs + 1
  | .null :: vs => g_len vs + 1
  | .ref _ :: vs => g_len vs + 1
  | .retAddr _ :: vs => g_len vs + 1
theorem g_L_rep {ρ : Nat → Nat} {τ : Nat → Value} : ∀ (n j : Nat), g_L ρ τ (List.replicate n none) j = []
  | 0, _ => rfl
  | n + 1, j => g_L_rep n (j + 1)
theorem g_oL_rep {m : Nat} : ∀ (n : Nat), g_oL m (List.replicate n none)
  | 0 => trivial
  | n + 1 => g_oL_rep n
theorem g_ent_L {ρ : Nat → Nat} {τ : Nat → Value} (hτ : g_ro τ) : ∀ (vs : List Value) (n j : Nat), g_L ρ τ (g_ent n vs) j = lv_args j (vs.map (g_cv ρ τ))
  | [], n, j => g_L_rep n j
  | v :: vs, n, j => by
    cases v with
    | float x =>
      have e : ¬ (τ x.toNat).category = 2 := by rw [g_roc hτ]; decide
      simp only [g_ent, g_L, g_cv, List.map_cons, lv_args, if_neg e]
      rw [g_ent_L hτ vs]
    | _ =>
      simp only [g_ent, g_L, g_cv, List.map_cons, lv_args, Value.category]
      simp only [g_ent_L hτ vs]
      try rfl
theorem g_ent_o {m : Nat} : ∀ (vs : List Value) (n : Nat), g_oS m vs → g_oL m (g_ent n vs)
  | [], n, _ => g_oL_rep n
  | v :: vs, n, h => by
    cases v <;> exact ⟨h.1, g_ent_o vs _ h.2⟩
theorem g_len_ok {ρ : Nat → Nat} {τ : Nat → Value} (hτ : g_ro τ) : ∀ (vs : List Value), (lg_sl (vs.map (g_cv ρ τ))).length = g_len vs
  | [] => rfl
  | v :: vs => by
    have ih := g_len_ok (ρ := ρ) hτ vs
    have e : ∀ u : Value, (lg_sl (u :: vs.map (g_cv ρ τ))).length = (if u.category = 2 then 2 else 1) + (lg_sl (vs.map (g_cv ρ τ))).length := by
      intro u
      by_cases z : u.category = 2 <;> simp [lg_sl, z] <;> omega
    rw [List.map_cons, e, ih]
    cases v with
    | float x =>
      have e : ¬ (g_cv ρ τ (.float x)).category = 2 := by show ¬ (τ x.toNat).category = 2; rw [g_roc hτ]; decide
      rw [if_neg e]; simp only [g_len]; omega
    | _ => simp [g_len, g_cv, Value.category]; try omega
/-! the exits -/
def g_Xi (M : gMD) (n' mc ms : Nat) (P : gHp → Int32 → Prop) : gX := fun pc n H _ st kc ks => n = n' ∧ kc = mc ∧ ks = ms ∧ decode M.2.1 pc = .ok (.ireturn, 1) ∧ ∃ x, st = [.int x] ∧ P H x ∧ (M.2.2.2.1 = some .boolean → ∃ b, x = g_b b)
def g_Xv (M : gMD) (n' mc ms : Nat) (P : gHp → Prop) : gX := fun pc n H _ st kc ks => n = n' ∧ kc = mc ∧ ks = ms ∧ decode M.2.1 pc = .ok (.return_, 1) ∧ st = [] ∧ P H
def g_Xz (M : gMD) (n' mc ms : Nat) (P : gHp → Bool → Prop) : gX := fun pc n H _ st kc ks => n = n' ∧ kc = mc ∧ ks = ms ∧ decode M.2.1 pc = .ok (.ireturn, 1) ∧ ∃ b, st = [.int (g_b b)] ∧ P H b
theorem gCi_of {d : Nat} {M : gMD} {n : Nat} {H : gHp} {av : List Value} {n' mc ms : Nat} {P : gHp → Int32 → Prop} (hpl : plainName M.1.cls = true) (hlen : g_len av ≤ M.2.2.1) (hscr : M.2.2.2.2 = none) (hret : M.2.2.2.1 = some .int ∨ M.2.2.2.1 = some .boolean) (h : gG d M mc ms (g_Xi M n' mc ms P) 0 n H (g_ent M.2.2.1 av) [] 0 0) : gCi d M n H av n' mc ms P := by
  intro l dC dI dA τ ρ sz hfl hoH hoS hτ0
  refine Met.ofW (cc := M.2.1) (maxL := M.2.2.1) (ret := M.2.2.2.1) hpl rfl ?_
  intro p e s m args below meth c s₁ B hml hv
  obtain ⟨rfl, hsz, hP, hK, hD0, hNW, hSE⟩ := hv
  subst hsz
  have hx := B.exec
  have hb := B.bytes
  have hr := B.returns
  have hts := atoms_spec (ws := g_ws M) B.pre
  have hown : s.vm.findClass M.1.cls = some m.cls := findClass_of_methodNamed B.named
  have hlk := B.notSynchronized
  have hnm : meth.name = M.1.name := (name_of_methodNamed B.named B.method).1
  have hD := hD0.self (sz := s.heap.size)
  rw [lg_entry_eq]
  have hl := lv_entry (av.map (g_cv ρ τ)) (n := M.2.2.1) (by rw [g_len_ok hτ0]; exact hlen)
  rw [← g_ent_L hτ0 av M.2.2.1 0] at hl
  generalize ((lg_sl (av.map (g_cv ρ τ)) ++ List.replicate (M.2.2.1 - (lg_sl (av.map (g_cv ρ τ))).length) Slot.unset).toArray) = ls at hl ⊢
  refine h p l e s m _ below meth c dC dI dA τ (va_A (g_w ρ τ dA n H) s.heap.size) n ρ _ ⟨hx, hb, hml, hr, hown, fun w hw => hts w (List.mem_cons_of_mem _ hw), hlk, hnm, hK, fun q hq => Or.inr hq, hNW, hSE, hτ0, fun S hS => by rw [hscr] at hS; cases hS⟩ hfl ?_ ρ s.heap [] ls ⟨Nat.le_refl _, fun _ _ => rfl, hoH, g_ent_o av _ hoS, trivial, hP, hD, va_S.rf, hl⟩
  intro pc1 n1 H1 L1 st1 kc1 ks1 hx1 ρ1 Hr1 locs1 ls1 hR1
  obtain ⟨rfl, rfl, rfl, hd, x, rfl, hp, hz⟩ := hx1
  obtain ⟨r1, r2, r3, r4, r5, r6, r7, r8, r9⟩ := hR1
  have hnar : ∀ ty, M.2.2.2.1 = some ty → narrow ty (.int x) = .int x := by
    intro ty e
    rcases hret with q | q
    · rw [q] at e; cases e; rfl
    · rw [q] at e; cases e; obtain ⟨b, rfl⟩ := hz q; exact g_b_nar b
  have hty : ∃ ty, M.2.2.2.1 = some ty := by rcases hret with q | q <;> exact ⟨_, q⟩
  obtain ⟨ty, hty⟩ := hty
  exact W.zret (v := x) (ty := ty) hx hb (hr.trans hty) (hnar ty hty) (fun t ht hW => ⟨⟨x, (ρ1, H1), rfl, hp, r2, r3, by rw [ht]; exact r6, r7⟩, r8.F ht⟩) r8.2.2 hd
theorem gCz_of {d : Nat} {M : gMD} {n : Nat} {H : gHp} {av : List Value} {n' mc ms : Nat} {P : gHp → Bool → Prop} (hpl : plainName M.1.cls = true) (hlen : g_len av ≤ M.2.2.1) (hscr : M.2.2.2.2 = none) (hret : M.2.2.2.1 = some .boolean) (h : gG d M mc ms (g_Xz M n' mc ms P) 0 n H (g_ent M.2.2.1 av) [] 0 0) : gCz d M n H av n' mc ms P := by
  refine gCi_of hpl hlen hscr (Or.inr hret) (gG_mono ?_ h)
  intro pc n H L st kc ks ⟨h1, h2, h3, h4, b, h5, h6⟩
  exact gG_exit ⟨h1, h2, h3, h4, g_b b, h5, ⟨b, rfl, h6⟩, fun _ => ⟨b, rfl⟩⟩
theorem gCv_of {d : Nat} {M : gMD} {n : Nat} {H : gHp} {av : List Value} {n' mc ms : Nat} {P : gHp → Prop} (hpl : plainName M.1.cls = true) (hlen : g_len av ≤ M.2.2.1) (hscr : M.2.2.2.2 = none) (hret : M.2.2.2.1 = none) (h : gG d M mc ms (g_Xv M n' mc ms P) 0 n H (g_ent M.2.2.1 av) [] 0 0) : gCv d M n H av n' mc ms P := by
  intro l dC dI dA τ ρ sz hfl hoH hoS hτ0
  refine Met.ofW (cc := M.2.1) (maxL := M.2.2.1) (ret := M.2.2.2.1) hpl rfl ?_
  intro p e s m args below meth c s₁ B hml hv
  obtain ⟨rfl, hsz, hP, hK, hD0, hNW, hSE⟩ := hv
  subst hsz
  have hx := B.exec
  have hb := B.bytes
  have hr := B.returns
  have hts := atoms_spec (ws := g_ws M) B.pre
  have hown : s.vm.findClass M.1.cls = some m.cls := findClass_of_methodNamed B.named
  have hlk := B.notSynchronized
  have hnm : meth.name = M.1.name := (name_of_methodNamed B.named B.method).1
  have hD := hD0.self (sz := s.heap.size)
  rw [lg_entry_eq]
  have hl := lv_entry (av.map (g_cv ρ τ)) (n := M.2.2.1) (by rw [g_len_ok hτ0]; exact hlen)
  rw [← g_ent_L hτ0 av M.2.2.1 0] at hl
  generalize ((lg_sl (av.map (g_cv ρ τ)) ++ List.replicate (M.2.2.1 - (lg_sl (av.map (g_cv ρ τ))).length) Slot.unset).toArray) = ls at hl ⊢
  refine h p l e s m _ below meth c dC dI dA τ (va_A (g_w ρ τ dA n H) s.heap.size) n ρ _ ⟨hx, hb, hml, hr, hown, fun w hw => hts w (List.mem_cons_of_mem _ hw), hlk, hnm, hK, fun q hq => Or.inr hq, hNW, hSE, hτ0, fun S hS => by rw [hscr] at hS; cases hS⟩ hfl ?_ ρ s.heap [] ls ⟨Nat.le_refl _, fun _ _ => rfl, hoH, g_ent_o av _ hoS, trivial, hP, hD, va_S.rf, hl⟩
  intro pc1 n1 H1 L1 st1 kc1 ks1 hx1 ρ1 Hr1 locs1 ls1 hR1
  obtain ⟨rfl, rfl, rfl, hd, rfl, hp⟩ := hx1
  obtain ⟨r1, r2, r3, r4, r5, r6, r7, r8, r9⟩ := hR1
  exact W.vret hx hb (hr.trans hret) (fun t ht hW => ⟨⟨(ρ1, H1), rfl, hp, r2, r3, by rw [ht]; exact r6, r7⟩, r8.F ht⟩) r8.2.2 hd
/-! CALLS. The whole world goes to the callee -/
theorem g_AA {ws : va_W} {A : Nat → Prop} {s : State} {Hr : Heap} {locs : List Loc} (hD : va_D A ws) (hS : va_S A s.heap Hr locs) (hA : ∀ q, s.heap.size ≤ q → A q) : ∀ q, va_A ws Hr.size q → A q := by
  intro q h
  rcases h with ⟨k, e, h⟩ | h
  · exact hD.2 k (q, e) h
  · exact hA q (Nat.le_trans hS.1 h)
theorem g_blind {av : List Value} {dC : Nat → ClassId} {dI : Nat → Nat → Nat} {dA : Nat → ClassId} {τ : Nat → Value} {ρ : Nat → Nat} {n : Nat} {H : gHp} {sz : Nat} : FrameBlind (va_Pc av (g_Pre dC dI dA τ ρ n H sz)) := by
  intro a U g mk q
  obtain ⟨q0, q1, qP, qK, qD, qN, qE⟩ := q
  exact ⟨q0, q1, qP, va_K.moved (u := U) (U := U.calling g mk a) (Vm.Alike.refl U.vm) qK, qD, qN.calling, qE.calling⟩
/-- an instance method by an entry of own's pool: of the ci-th class, with so many arguments -/
def g_MV (own : String) (idx : Nat) (M : gMD) (ci nA : Nat) : Prop :=
  ∃ (C : String) (T : u_T) (N : Nat), g_cl[ci]? = some (C, T, N) ∧ M.1.cls = C ∧ (Cond.methodLink own idx M.1 ∈ g_T) ∧ (Cond.instanceMethod M.1 ∈ g_T) ∧ (Cond.selects C M.1 M.1 ∈ g_T) ∧ (Cond.initialized C ∈ g_T) ∧ (Cond.code M.1 M.2.1 M.2.2.1 M.2.2.2.1 ∈ g_T) ∧
    (M.1.cls ≠ "java/lang/invoke/MethodHandle" ∧ M.1.cls ≠ "java/lang/invoke/VarHandle" ∧ (parseMethodDescriptor M.1.desc).map (fun d => d.parameters.length) = some nA) ∧ M.2.2.1 ≤ 40
/-- a constructor -/
def g_MI (own : String) (idx : Nat) (M : gMD) (nA : Nat) : Prop :=
  M.1.name = "<init>" ∧ (Cond.methodLink own idx M.1 ∈ g_T) ∧ (Cond.instanceMethod M.1 ∈ g_T) ∧ (Cond.initialized M.1.cls ∈ g_T) ∧ (Cond.code M.1 M.2.1 M.2.2.1 none ∈ g_T) ∧ M.2.2.2.1 = none ∧
    (M.1.cls ≠ "java/lang/invoke/MethodHandle" ∧ M.1.cls ≠ "java/lang/invoke/VarHandle" ∧ (parseMethodDescriptor M.1.desc).map (fun d => d.parameters.length) = some nA) ∧ M.2.2.1 ≤ 40
/-- a static method -/
def g_MS (own : String) (idx : Nat) (M : gMD) (nA : Nat) : Prop :=
  (Cond.methodLink own idx M.1 ∈ g_T) ∧ (Cond.static M.1 ∈ g_T) ∧ (Cond.initialized M.1.cls ∈ g_T) ∧ (Cond.code M.1 M.2.1 M.2.2.1 M.2.2.2.1 ∈ g_T) ∧
    (M.1.cls ≠ "java/lang/invoke/MethodHandle" ∧ M.1.cls ≠ "java/lang/invoke/VarHandle" ∧ (parseMethodDescriptor M.1.desc).map (fun d => d.parameters.length) = some nA) ∧ M.2.2.1 ≤ 40
theorem g_good {M : gMD} (h : Cond.code M.1 M.2.1 M.2.2.1 M.2.2.2.1 ∈ g_T) : GoodIn g_T (g_ws M) := by
  intro w hw
  rcases List.mem_cons.mp hw with rfl | hw
  · exact ⟨h, g_T_good h⟩
  · exact ⟨hw, g_T_good hw⟩
theorem g_room {d d' mc ms : Nat} {M : gMD} (hd : d' < d) (hm : M.2.2.1 ≤ 40) {Rc Rs : Nat} : (g_rm d' mc ms).frames + 1 ≤ (g_rm d Rc Rs).frames ∧ 8 + (M.2.2.1 + 11) + (g_rm d' mc ms).locals ≤ (g_rm d Rc Rs).locals := by
  refine ⟨hd, ?_⟩
  show 8 + (M.2.2.1 + 11) + 64 * d' ≤ 64 * d
  omega
theorem g_oS_app {n : Nat} : ∀ {a b : List Value}, g_oS n (a ++ b) → g_oS n a ∧ g_oS n b
  | [], _, h => ⟨trivial, h⟩
  | _ :: a, _, h => ⟨⟨h.1, (g_oS_app (a := a) h.2).1⟩, (g_oS_app (a := a) h.2).2⟩
theorem g_oS_mem {n : Nat} : ∀ {a : List Value}, g_oS n a ↔ ∀ v ∈ a, g_ov n v
  | [] => ⟨fun _ _ h => by simp at h, fun _ => trivial⟩
  | v :: a => ⟨fun h u hu => by
      rcases List.mem_cons.mp hu with rfl | hu
      · exact h.1
      · exact g_oS_mem.mp h.2 u hu, fun h => ⟨h v List.mem_cons_self, g_oS_mem.mpr (fun u hu => h u (List.mem_cons_of_mem _ hu))⟩⟩
theorem g_oS_rev {n : Nat} {a b : List Value} (h : g_oS n (a.reverse ++ b)) : g_oS n a ∧ g_oS n b :=
  ⟨g_oS_mem.mpr (fun v hv => g_oS_mem.mp (g_oS_app h).1 v (List.mem_reverse.mpr hv)), (g_oS_app h).2⟩
section GC
variable {d : Nat} {M : gMD} {Rc Rs : Nat} {X : gX} {pc n : Nat} {H : gHp} {L : List (Option Value)} {st : List Value} {kc ks : Nat}
theorem gG_cvi {idx d' ci nA b : Nat} {M' : gMD} {As st0 : List Value} {n' mc ms : Nat} {P : gHp → Int32 → Prop} (hd : decode M.2.1 pc = .ok (.invokevirtual idx, 3)) (hl : g_MV M.1.cls idx M' ci nA) (hdd : d' < d) (hrc : ∃ fs, H b = .inr (ci, fs)) (hn : As.length = nA) (hst : st0 = As.reverse ++ .ref b :: st) (hcat : (st.map fun v => v.category).sum ≤ 8) (hnn : n ≤ n') (hroom : kc + mc ≤ Rc ∧ ks + ms ≤ Rs) (hC : gCi d' M' n H (.ref b :: As) n' mc ms P) (h : ∀ H' x, P H' x → gG d M Rc Rs X (pc + 3) n' H' L (.int x :: st) (kc + mc) (ks + ms)) : gG d M Rc Rs X pc n H L st0 kc ks := by
  subst hst
  intro p l e s m args below meth c dC dI dA τ A n0 ρ0 Q F hfl hX ρ Hr locs ls hR
  obtain ⟨r1, r2, r3, r4, r5, r6, r7, r8, r9⟩ := id hR
  obtain ⟨hx, hb, hml, hr, hown, hts, hlk, hnm, hK, hA, hN, hE, hτ0, hS⟩ := id F
  obtain ⟨C, Tt, N, k1, k2, k3, k4, k5, k6, k7, k8, k9⟩ := hl
  obtain ⟨fs, hrc⟩ := hrc
  have ho : g_oS n As ∧ g_oS n (.ref b :: st) := g_oS_rev r5
  have hb0 : b < n := ho.2.1
  have hM := hC l dC dI dA τ ρ Hr.size hfl r3 ⟨hb0, ho.1⟩ hτ0
  have hAA := g_AA r7 r8 hA
  have hpre : ∀ U : State, U.heap = Hr → s.WarmedH U.vm → va_Pc ((.ref b :: As).map (g_cv ρ τ)) (g_Pre dC dI dA τ ρ n H Hr.size) ((.ref b :: As).map (g_cv ρ τ)).toArray U := fun U hU hW => ⟨rfl, by rw [hU], by rw [hU]; exact r6, va_K.moved hW.alike hK, r7.weaken (fun _ _ _ _ => trivial), hN.to hW, by rw [hU]; exact hE.to r8.2.1 hW hAA⟩
  have cw : CallW (g_rm d Rc Rs) s args M.1.cls C idx M'.1 M'.2.1 M'.2.2.1 M'.2.2.2.1 (g_ws M') (g_rm d' mc ms) mc ms nA := cwV nA hts (fun w hw => by
      rcases List.mem_append.mp hw with hw | hw
      · simp only [List.mem_cons, List.not_mem_nil, or_false] at hw
        rcases hw with rfl | rfl | rfl | rfl
        · exact ⟨k3, g_T_good k3⟩
        · exact ⟨k4, g_T_good k4⟩
        · exact ⟨k5, g_T_good k5⟩
        · exact ⟨k6, g_T_good k6⟩
      · exact g_good k7 w hw) rfl rfl rfl ⟨k2, k8⟩ (g_room hdd k9)
  have hst' : (As.reverse ++ .ref b :: st).map (g_cv ρ τ) = (As.map (g_cv ρ τ)).reverse ++ .ref (ρ b) :: st.map (g_cv ρ τ) := by rw [List.map_append, List.map_reverse]; rfl
  rw [hst']
  refine va_calli (va_runV (As := As.map (g_cv ρ τ)) (rest := st.map (g_cv ρ τ)) ⟨hx, hb, hml, hown, hts⟩ hM cw ⟨g_blind, va_recv hK r6 k1 (g_w_obj hb0 hrc), hpre⟩ rfl (by rw [List.length_map]; exact hn) r9.1 rfl (lv_room (by rw [g_cats hτ0]; exact hcat)) hd hroom) r8 (fun q _ h => hAA q h) hAA (fun r u t H1 locs1 ht hvm hw hB hz1 hk1 hS1 => ?_)
  obtain ⟨b1, b2, b3, b4⟩ := hB
  rw [ht] at b3
  have hL' : g_L u.1 τ L 0 = g_L ρ τ L 0 := g_L_ext b1 r4
  have hs' : st.map (g_cv u.1 τ) = st.map (g_cv ρ τ) := g_map_ext b1 ho.2.2
  have hgo := h u.2 r hw p l e s m args below meth c dC dI dA τ A n0 ρ0 Q F hfl hX u.1 H1 locs1 ls ⟨Nat.le_trans r1 hnn, fun k hk => by rw [b1 k (Nat.lt_of_lt_of_le hk r1)]; exact r2 k hk, b2, g_oL_mono hnn r4, ⟨trivial, g_oS_mono hnn ho.2.2⟩, b3, b4.weaken (fun _ q _ hq => hAA q.1 hq), hS1, by rw [hL']; exact r9⟩
  rw [List.map_cons, hs'] at hgo
  exact hgo
theorem gG_cvv {idx d' ci nA b : Nat} {M' : gMD} {As st0 : List Value} {n' mc ms : Nat} {P : gHp → Prop} (hd : decode M.2.1 pc = .ok (.invokevirtual idx, 3)) (hl : g_MV M.1.cls idx M' ci nA) (hdd : d' < d) (hrc : ∃ fs, H b = .inr (ci, fs)) (hn : As.length = nA) (hst : st0 = As.reverse ++ .ref b :: st) (hcat : (st.map fun v => v.category).sum ≤ 8) (hnn : n ≤ n') (hroom : kc + mc ≤ Rc ∧ ks + ms ≤ Rs) (hC : gCv d' M' n H (.ref b :: As) n' mc ms P) (h : ∀ H', P H' → gG d M Rc Rs X (pc + 3) n' H' L st (kc + mc) (ks + ms)) : gG d M Rc Rs X pc n H L st0 kc ks := by
  subst hst
  intro p l e s m args below meth c dC dI dA τ A n0 ρ0 Q F hfl hX ρ Hr locs ls hR
  obtain ⟨r1, r2, r3, r4, r5, r6, r7, r8, r9⟩ := id hR
  obtain ⟨hx, hb, hml, hr, hown, hts, hlk, hnm, hK, hA, hN, hE, hτ0, hS⟩ := id F
  obtain ⟨C, Tt, N, k1, k2, k3, k4, k5, k6, k7, k8, k9⟩ := hl
  obtain ⟨fs, hrc⟩ := hrc
  have ho : g_oS n As ∧ g_oS n (.ref b :: st) := g_oS_rev r5
  have hb0 : b < n := ho.2.1
  have hM := hC l dC dI dA τ ρ Hr.size hfl r3 ⟨hb0, ho.1⟩ hτ0
  have hAA := g_AA r7 r8 hA
  have hpre : ∀ U : State, U.heap = Hr → s.WarmedH U.vm → va_Pc ((.ref b :: As).map (g_cv ρ τ)) (g_Pre dC dI dA τ ρ n H Hr.size) ((.ref b :: As).map (g_cv ρ τ)).toArray U := fun U hU hW => ⟨rfl, by rw [hU], by rw [hU]; exact r6, va_K.moved hW.alike hK, r7.weaken (fun _ _ _ _ => trivial), hN.to hW, by rw [hU]; exact hE.to r8.2.1 hW hAA⟩
  have cw : CallW (g_rm d Rc Rs) s args M.1.cls C idx M'.1 M'.2.1 M'.2.2.1 M'.2.2.2.1 (g_ws M') (g_rm d' mc ms) mc ms nA := cwV nA hts (fun w hw => by
      rcases List.mem_append.mp hw with hw | hw
      · simp only [List.mem_cons, List.not_mem_nil, or_false] at hw
        rcases hw with rfl | rfl | rfl | rfl
        · exact ⟨k3, g_T_good k3⟩
        · exact ⟨k4, g_T_good k4⟩
        · exact ⟨k5, g_T_good k5⟩
        · exact ⟨k6, g_T_good k6⟩
      · exact g_good k7 w hw) rfl rfl rfl ⟨k2, k8⟩ (g_room hdd k9)
  have hst' : (As.reverse ++ .ref b :: st).map (g_cv ρ τ) = (As.map (g_cv ρ τ)).reverse ++ .ref (ρ b) :: st.map (g_cv ρ τ) := by rw [List.map_append, List.map_reverse]; rfl
  rw [hst']
  refine va_callv (va_runV (As := As.map (g_cv ρ τ)) (rest := st.map (g_cv ρ τ)) ⟨hx, hb, hml, hown, hts⟩ hM cw ⟨g_blind, va_recv hK r6 k1 (g_w_obj hb0 hrc), hpre⟩ rfl (by rw [List.length_map]; exact hn) r9.1 rfl (lv_room (by rw [g_cats hτ0]; exact hcat)) hd hroom) r8 (fun q _ h => hAA q h) hAA (fun u t H1 locs1 ht hvm hw hB hz1 hk1 hS1 => ?_)
  obtain ⟨b1, b2, b3, b4⟩ := hB
  rw [ht] at b3
  have hL' : g_L u.1 τ L 0 = g_L ρ τ L 0 := g_L_ext b1 r4
  have hs' : st.map (g_cv u.1 τ) = st.map (g_cv ρ τ) := g_map_ext b1 ho.2.2
  have hgo := h u.2 hw p l e s m args below meth c dC dI dA τ A n0 ρ0 Q F hfl hX u.1 H1 locs1 ls ⟨Nat.le_trans r1 hnn, fun k hk => by rw [b1 k (Nat.lt_of_lt_of_le hk r1)]; exact r2 k hk, b2, g_oL_mono hnn r4, g_oS_mono hnn ho.2.2, b3, b4.weaken (fun _ q _ hq => hAA q.1 hq), hS1, by rw [hL']; exact r9⟩
  rw [hs'] at hgo
  exact hgo
theorem gG_csi {idx d' nA : Nat} {M' : gMD} {As st0 : List Value} {n' mc ms : Nat} {P : gHp → Int32 → Prop} (hd : decode M.2.1 pc = .ok (.invokestatic idx, 3)) (hl : g_MS M.1.cls idx M' nA) (hdd : d' < d) (hn : As.length = nA) (hst : st0 = As.reverse ++ st) (hcat : (st.map fun v => v.category).sum ≤ 8) (hnn : n ≤ n') (hroom : kc + mc ≤ Rc ∧ ks + ms ≤ Rs) (hC : gCi d' M' n H As n' mc ms P) (h : ∀ H' x, P H' x → gG d M Rc Rs X (pc + 3) n' H' L (.int x :: st) (kc + mc) (ks + ms)) : gG d M Rc Rs X pc n H L st0 kc ks := by
  subst hst
  intro p l e s m args below meth c dC dI dA τ A n0 ρ0 Q F hfl hX ρ Hr locs ls hR
  obtain ⟨r1, r2, r3, r4, r5, r6, r7, r8, r9⟩ := id hR
  obtain ⟨hx, hb, hml, hr, hown, hts, hlk, hnm, hK, hA, hN, hE, hτ0, hS⟩ := id F
  obtain ⟨k3, k4, k6, k7, k8, k9⟩ := hl
  have ho : g_oS n As ∧ g_oS n st := g_oS_rev r5
  have hM := hC l dC dI dA τ ρ Hr.size hfl r3 ho.1 hτ0
  have hAA := g_AA r7 r8 hA
  have hpre : ∀ U : State, U.heap = Hr → s.WarmedH U.vm → va_Pc (As.map (g_cv ρ τ)) (g_Pre dC dI dA τ ρ n H Hr.size) (As.map (g_cv ρ τ)).toArray U := fun U hU hW => ⟨rfl, by rw [hU], by rw [hU]; exact r6, va_K.moved hW.alike hK, r7.weaken (fun _ _ _ _ => trivial), hN.to hW, by rw [hU]; exact hE.to r8.2.1 hW hAA⟩
  have cw : CallB (g_rm d Rc Rs) s args M.1.cls idx M'.1 M'.2.1 M'.2.2.1 M'.2.2.2.1 (g_ws M') (g_rm d' mc ms) mc ms nA ∧ (Cond.static M'.1).before args s = true := ⟨callB_of nA hts (g_good k7) rfl rfl rfl (hts _ k6) (hts _ k3) k8 (g_room hdd k9), hts _ k4⟩
  have hst' : (As.reverse ++ st).map (g_cv ρ τ) = (As.map (g_cv ρ τ)).reverse ++ st.map (g_cv ρ τ) := by rw [List.map_append, List.map_reverse]
  rw [hst']
  refine va_calli (va_runS (As := As.map (g_cv ρ τ)) (rest := st.map (g_cv ρ τ)) ⟨hx, hb, hml, hown, hts⟩ hM cw ⟨g_blind, hpre⟩ rfl (by rw [List.length_map]; exact hn) r9.1 rfl (lv_room (by rw [g_cats hτ0]; exact hcat)) hd hroom) r8 (fun q _ h => hAA q h) hAA (fun r u t H1 locs1 ht hvm hw hB hz1 hk1 hS1 => ?_)
  obtain ⟨b1, b2, b3, b4⟩ := hB
  rw [ht] at b3
  have hL' : g_L u.1 τ L 0 = g_L ρ τ L 0 := g_L_ext b1 r4
  have hs' : st.map (g_cv u.1 τ) = st.map (g_cv ρ τ) := g_map_ext b1 ho.2
  have hgo := h u.2 r hw p l e s m args below meth c dC dI dA τ A n0 ρ0 Q F hfl hX u.1 H1 locs1 ls ⟨Nat.le_trans r1 hnn, fun k hk => by rw [b1 k (Nat.lt_of_lt_of_le hk r1)]; exact r2 k hk, b2, g_oL_mono hnn r4, ⟨trivial, g_oS_mono hnn ho.2⟩, b3, b4.weaken (fun _ q _ hq => hAA q.1 hq), hS1, by rw [hL']; exact r9⟩
  rw [List.map_cons, hs'] at hgo
  exact hgo
theorem gG_csv {idx d' nA : Nat} {M' : gMD} {As st0 : List Value} {n' mc ms : Nat} {P : gHp → Prop} (hd : decode M.2.1 pc = .ok (.invokestatic idx, 3)) (hl : g_MS M.1.cls idx M' nA) (hdd : d' < d) (hn : As.length = nA) (hst : st0 = As.reverse ++ st) (hcat : (st.map fun v => v.category).sum ≤ 8) (hnn : n ≤ n') (hroom : kc + mc ≤ Rc ∧ ks + ms ≤ Rs) (hC : gCv d' M' n H As n' mc ms P) (h : ∀ H', P H' → gG d M Rc Rs X (pc + 3) n' H' L st (kc + mc) (ks + ms)) : gG d M Rc Rs X pc n H L st0 kc ks := by
  subst hst
  intro p l e s m args below meth c dC dI dA τ A n0 ρ0 Q F hfl hX ρ Hr locs ls hR
  obtain ⟨r1, r2, r3, r4, r5, r6, r7, r8, r9⟩ := id hR
  obtain ⟨hx, hb, hml, hr, hown, hts, hlk, hnm, hK, hA, hN, hE, hτ0, hS⟩ := id F
  obtain ⟨k3, k4, k6, k7, k8, k9⟩ := hl
  have ho : g_oS n As ∧ g_oS n st := g_oS_rev r5
  have hM := hC l dC dI dA τ ρ Hr.size hfl r3 ho.1 hτ0
  have hAA := g_AA r7 r8 hA
  have hpre : ∀ U : State, U.heap = Hr → s.WarmedH U.vm → va_Pc (As.map (g_cv ρ τ)) (g_Pre dC dI dA τ ρ n H Hr.size) (As.map (g_cv ρ τ)).toArray U := fun U hU hW => ⟨rfl, by rw [hU], by rw [hU]; exact r6, va_K.moved hW.alike hK, r7.weaken (fun _ _ _ _ => trivial), hN.to hW, by rw [hU]; exact hE.to r8.2.1 hW hAA⟩
  have cw : CallB (g_rm d Rc Rs) s args M.1.cls idx M'.1 M'.2.1 M'.2.2.1 M'.2.2.2.1 (g_ws M') (g_rm d' mc ms) mc ms nA ∧ (Cond.static M'.1).before args s = true := ⟨callB_of nA hts (g_good k7) rfl rfl rfl (hts _ k6) (hts _ k3) k8 (g_room hdd k9), hts _ k4⟩
  have hst' : (As.reverse ++ st).map (g_cv ρ τ) = (As.map (g_cv ρ τ)).reverse ++ st.map (g_cv ρ τ) := by rw [List.map_append, List.map_reverse]
  rw [hst']
  refine va_callv (va_runS (As := As.map (g_cv ρ τ)) (rest := st.map (g_cv ρ τ)) ⟨hx, hb, hml, hown, hts⟩ hM cw ⟨g_blind, hpre⟩ rfl (by rw [List.length_map]; exact hn) r9.1 rfl (lv_room (by rw [g_cats hτ0]; exact hcat)) hd hroom) r8 (fun q _ h => hAA q h) hAA (fun u t H1 locs1 ht hvm hw hB hz1 hk1 hS1 => ?_)
  obtain ⟨b1, b2, b3, b4⟩ := hB
  rw [ht] at b3
  have hL' : g_L u.1 τ L 0 = g_L ρ τ L 0 := g_L_ext b1 r4
  have hs' : st.map (g_cv u.1 τ) = st.map (g_cv ρ τ) := g_map_ext b1 ho.2
  have hgo := h u.2 hw p l e s m args below meth c dC dI dA τ A n0 ρ0 Q F hfl hX u.1 H1 locs1 ls ⟨Nat.le_trans r1 hnn, fun k hk => by rw [b1 k (Nat.lt_of_lt_of_le hk r1)]; exact r2 k hk, b2, g_oL_mono hnn r4, g_oS_mono hnn ho.2, b3, b4.weaken (fun _ q _ hq => hAA q.1 hq), hS1, by rw [hL']; exact r9⟩
  rw [hs'] at hgo
  exact hgo
theorem gG_cIv {idx d' nA b : Nat} {M' : gMD} {As st0 : List Value} {n' mc ms : Nat} {P : gHp → Prop} (hd : decode M.2.1 pc = .ok (.invokespecial idx, 3)) (hl : g_MI M.1.cls idx M' nA) (hdd : d' < d) (hn : As.length = nA) (hst : st0 = As.reverse ++ .ref b :: st) (hcat : (st.map fun v => v.category).sum ≤ 8) (hnn : n ≤ n') (hroom : kc + mc ≤ Rc ∧ ks + ms ≤ Rs) (hC : gCv d' M' n H (.ref b :: As) n' mc ms P) (h : ∀ H', P H' → gG d M Rc Rs X (pc + 3) n' H' L st (kc + mc) (ks + ms)) : gG d M Rc Rs X pc n H L st0 kc ks := by
  subst hst
  intro p l e s m args below meth c dC dI dA τ A n0 ρ0 Q F hfl hX ρ Hr locs ls hR
  obtain ⟨r1, r2, r3, r4, r5, r6, r7, r8, r9⟩ := id hR
  obtain ⟨hx, hb, hml, hr, hown, hts, hlk, hnm, hK, hA, hN, hE, hτ0, hS⟩ := id F
  obtain ⟨k1, k3, k4, k6, k7, k2, k8, k9⟩ := hl
  have ho : g_oS n As ∧ g_oS n (.ref b :: st) := g_oS_rev r5
  have hb0 : b < n := ho.2.1
  have hM := hC l dC dI dA τ ρ Hr.size hfl r3 ⟨hb0, ho.1⟩ hτ0
  have hAA := g_AA r7 r8 hA
  have hpre : ∀ U : State, U.heap = Hr → s.WarmedH U.vm → va_Pc ((.ref b :: As).map (g_cv ρ τ)) (g_Pre dC dI dA τ ρ n H Hr.size) ((.ref b :: As).map (g_cv ρ τ)).toArray U := fun U hU hW => ⟨rfl, by rw [hU], by rw [hU]; exact r6, va_K.moved hW.alike hK, r7.weaken (fun _ _ _ _ => trivial), hN.to hW, by rw [hU]; exact hE.to r8.2.1 hW hAA⟩
  have k7' : Cond.code M'.1 M'.2.1 M'.2.2.1 M'.2.2.2.1 ∈ g_T := by rw [k2]; exact k7
  have cw : CallB (g_rm d Rc Rs) s args M.1.cls idx M'.1 M'.2.1 M'.2.2.1 none (g_ws M') (g_rm d' mc ms) mc ms nA ∧ M'.1.name = "<init>" ∧ (Cond.instanceMethod M'.1).before args s = true := cwI nA hts (g_good k7') (by rw [g_ws, k2]) rfl rfl (hts _ k6) (hts _ k3) (hts _ k4) k1 k8 (g_room hdd k9)
  have hst' : (As.reverse ++ .ref b :: st).map (g_cv ρ τ) = (As.map (g_cv ρ τ)).reverse ++ .ref (ρ b) :: st.map (g_cv ρ τ) := by rw [List.map_append, List.map_reverse]; rfl
  rw [hst']
  refine va_callv (va_runI (As := As.map (g_cv ρ τ)) (rest := st.map (g_cv ρ τ)) ⟨hx, hb, hml, hown, hts⟩ hM cw ⟨g_blind, hpre⟩ rfl (by rw [List.length_map]; exact hn) r9.1 rfl (lv_room (by rw [g_cats hτ0]; exact hcat)) hd hroom) r8 (fun q _ h => hAA q h) hAA (fun u t H1 locs1 ht hvm hw hB hz1 hk1 hS1 => ?_)
  obtain ⟨b1, b2, b3, b4⟩ := hB
  rw [ht] at b3
  have hL' : g_L u.1 τ L 0 = g_L ρ τ L 0 := g_L_ext b1 r4
  have hs' : st.map (g_cv u.1 τ) = st.map (g_cv ρ τ) := g_map_ext b1 ho.2.2
  have hgo := h u.2 hw p l e s m args below meth c dC dI dA τ A n0 ρ0 Q F hfl hX u.1 H1 locs1 ls ⟨Nat.le_trans r1 hnn, fun k hk => by rw [b1 k (Nat.lt_of_lt_of_le hk r1)]; exact r2 k hk, b2, g_oL_mono hnn r4, g_oS_mono hnn ho.2.2, b3, b4.weaken (fun _ q _ hq => hAA q.1 hq), hS1, by rw [hL']; exact r9⟩
  rw [hs'] at hgo
  exact hgo
end GC
