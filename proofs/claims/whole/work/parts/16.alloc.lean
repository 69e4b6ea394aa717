/-! MAKING -/
/-- 'new' by an entry of own's pool: the ci-th class, of N slots, whose fields begin as fs -/
def g_CN (own : String) (idx ci N : Nat) (fs : List Value) : Prop :=
  ∃ (C : String) (T : u_T) (ty0 : Nat → FieldType), g_cl[ci]? = some (C, T, N) ∧ (∀ w ∈ u_ws C T N, w ∈ g_T) ∧ (∀ k, k < N → parseFieldDescriptor (T k).2.2.1 = some (ty0 k)) ∧ (Cond.classLink own idx C ∈ g_T) ∧ (Cond.instantiable C N ∈ g_T) ∧ (Cond.initialized C ∈ g_T) ∧ (∀ j, j < N → defaultValue (ty0 j) = vp_V fs j) ∧ ∀ v ∈ fs, (∃ x, v = .int x) ∨ (∃ x, v = .long x) ∨ v = .null
theorem g_plain {fs : List Value} (h : ∀ v ∈ fs, (∃ x, v = .int x) ∨ (∃ x, v = .long x) ∨ v = .null) (ρ : Nat → Nat) (τ : Nat → Value) : fs.map (g_cv ρ τ) = fs := by
  have : fs.map (g_cv ρ τ) = fs.map id := List.map_congr_left (fun v hv => by rcases h v hv with ⟨x, rfl⟩ | ⟨x, rfl⟩ | rfl <;> rfl)
  rw [this, List.map_id]
theorem g_plain_o {fs : List Value} {n ci : Nat} (h : ∀ v ∈ fs, (∃ x, v = .int x) ∨ (∃ x, v = .long x) ∨ v = .null) : g_oE n (.inr (ci, fs)) := by
  intro v hv
  rcases h v hv with ⟨x, rfl⟩ | ⟨x, rfl⟩ | rfl <;> exact trivial
/-- the machine's state with one cell more -/
theorem g_Rep_new {M : gMD} {s : State} {dC : Nat → ClassId} {dI : Nat → Nat → Nat} {dA : Nat → ClassId} {τ : Nat → Value} {A : Nat → Prop} {n0 : Nat} {ρ0 ρ : Nat → Nat} {n : Nat} {H : gHp} {L : List (Option Value)} {st : List Value} {Hr H1 : Heap} {locs : List Loc} {ls : Array Slot} {c e : va_E} {q : Nat}
    (hR : g_Rep M s dC dI dA τ A n0 ρ0 ρ n H L st Hr locs ls) (hc : g_oE (n + 1) c) (he : e = g_cE (va_up ρ n q) τ dA c) (hP : va_P (dC, dI) g_cl (g_w ρ τ dA n H ++ [(q, e)]) H1) (hD : va_D A (g_w ρ τ dA n H ++ [(q, e)])) (hS : va_S A s.heap H1 locs) :
    g_Rep M s dC dI dA τ A n0 ρ0 (va_up ρ n q) (n + 1) (va_up H n c) L (.ref n :: st) H1 locs ls ∧ (.ref n :: st).map (g_cv (va_up ρ n q) τ) = .ref q :: st.map (g_cv ρ τ) := by
  obtain ⟨r1, r2, r3, r4, r5, r6, r7, r8, r9⟩ := hR
  have ee : ∀ k, k < n → va_up ρ n q k = ρ k := fun k hk => by simp [va_up, Nat.ne_of_lt hk]
  rw [he, g_w_push r3] at hP hD
  have hL' : g_L (va_up ρ n q) τ L 0 = g_L ρ τ L 0 := g_L_ext ee r4
  have hs' : st.map (g_cv (va_up ρ n q) τ) = st.map (g_cv ρ τ) := g_map_ext ee r5
  refine ⟨⟨Nat.le_succ_of_le r1, fun k hk => by rw [ee k (Nat.lt_of_lt_of_le hk r1)]; exact r2 k hk, g_oH_mono r3 hc, g_oL_mono (Nat.le_succ n) r4, ⟨Nat.lt_succ_self n, g_oS_mono (Nat.le_succ n) r5⟩, hP, hD, hS, by rw [hL']; exact r9⟩, ?_⟩
  rw [List.map_cons, hs']
  simp [g_cv, va_up]
def g_mk (H : gHp) (n : Nat) (c : va_E) (K : gHp → Prop) : Prop := ∃ H2, H2 = va_up H n c ∧ K H2
def g_rs (t ci : Nat) (H : gHp) (a : Nat) (i : Int32) (v : Nat) (K : gHp → Prop) : Prop := ∃ (m1 : Nat) (f : Nat → Option Nat) (vs : List Value), H a = .inl (t, m1, .inr (.inr (.inr (.inr f)))) ∧ vp_in i m1 ∧ H v = .inr (ci, vs) ∧ K (va_up H a (.inl (t, m1, .inr (.inr (.inr (.inr (va_up f i.toNatClampNeg (some v))))))))
def g_cI (d : Nat) (M : gMD) (n : Nat) (H : gHp) (av : List Value) (kc ks mc ms : Nat) (K : Nat → Nat → Nat → gHp → Prop) : Prop := ∃ n1 c1 s1, n ≤ n1 ∧ kc + c1 ≤ mc ∧ ks + s1 ≤ ms ∧ ∃ (d' : Nat) (P : gHp → Prop), d' < d ∧ gCv d' M n H av n1 c1 s1 P ∧ ∀ H, P H → K n1 c1 s1 H
def g_plb (v : Value) : Bool := match v with
  | .int _ => true
  | .long _ => true
  | .null => true
  | _ => false
theorem g_pl (fs : List Value) (h : fs.all g_plb = true) : ∀ v ∈ fs, (∃ x, v = .int x) ∨ (∃ x, v = .long x) ∨ v = .null := by
  intro v hv
  have h1 := List.all_eq_true.mp h v hv
  cases v <;> first | exact Or.inl ⟨_, rfl⟩ | exact Or.inr (Or.inl ⟨_, rfl⟩) | exact Or.inr (Or.inr rfl) | (simp [g_plb] at h1)
section GA
variable {d : Nat} {M : gMD} {Rc Rs : Nat} {X : gX} {pc n : Nat} {H : gHp} {L : List (Option Value)} {st : List Value} {kc ks : Nat}
theorem gG_new {idx ci N : Nat} {fs : List Value} (hd : decode M.2.1 pc = .ok (.new idx, 3)) (hl : g_CN M.1.cls idx ci N fs) (h1 : kc + 1 ≤ Rc) (h2 : ks + N ≤ Rs) (h : gG d M Rc Rs X (pc + 3) (n + 1) (va_up H n (.inr (ci, fs))) L (.ref n :: st) (kc + 1) (ks + N)) : gG d M Rc Rs X pc n H L st kc ks := by
  intro p l e s m args below meth c dC dI dA τ A n0 ρ0 Q F hfl hX ρ Hr locs ls hR
  obtain ⟨r1, r2, r3, r4, r5, r6, r7, r8, r9⟩ := id hR
  obtain ⟨hx, hb, hml, hr, hown, hts, hlk, hnm, hK, hA, hN, hE, hτ0, hS⟩ := id F
  obtain ⟨C, T, ty0, e1, e2, e3, e4, e5, e6, e7, e8⟩ := hl
  refine va_new (D := (dC, dI)) (ci := ci) (fs := fs) hx hb hts e2 ty0 e3 hown (hts _ e4) (hts _ e5) (hts _ e6) hK r6 r7 r8 hA e1 e7 h1 h2 hd (fun q H1 hP hD hS1 => ?_)
  obtain ⟨g1, g2⟩ := g_Rep_new (q := q) (c := .inr (ci, fs)) hR (g_plain_o e8) (by show _ = Sum.inr (ci, fs.map (g_cv (va_up ρ n q) τ)); rw [g_plain e8]) hP hD hS1
  have hgo := h p l e s m args below meth c dC dI dA τ A n0 ρ0 Q F hfl hX _ H1 locs ls g1
  rw [g2] at hgo
  exact hgo
theorem gG_oinit {idx a : Nat} (hd : decode M.2.1 pc = .ok (.invokespecial idx, 3)) (hl : Cond.methodLink M.1.cls idx objectInit ∈ g_T) (h2 : Cond.instanceMethod objectInit ∈ g_T) (h3 : Cond.code objectInit ⟨#[0xb1]⟩ 1 none ∈ g_T) (hd1 : 1 ≤ d) (hcat : (st.map fun v => v.category).sum ≤ 8) (h : gG d M Rc Rs X (pc + 3) n H L st kc ks) : gG d M Rc Rs X pc n H L (.ref a :: st) kc ks := by
  intro p l e s m args below meth c dC dI dA τ A n0 ρ0 Q F hfl hX ρ Hr locs ls hR
  obtain ⟨r1, r2, r3, r4, r5, r6, r7, r8, r9⟩ := id hR
  obtain ⟨hx, hb, hml, hr, hown, hts, hlk, hnm, hK, hA, hN, hE, hτ0, hS⟩ := id F
  refine W.objInit hx hb hown (hts _ hl) (hts _ h2) (hts _ h3) rfl (by rw [hml]; exact r9.1) rfl hd hd1 ?_ (h p l e s m args below meth c dC dI dA τ A n0 ρ0 Q F hfl hX ρ Hr locs ls ⟨r1, r2, r3, r4, r5.2, r6, r7, r8, r9⟩)
  have e := lv_room (m := m) (pc := pc) (ls := ls) (rest := (.ref (ρ a) :: st.map (g_cv ρ τ))) (st := st.map (g_cv ρ τ)) (by rw [g_cats hτ0]; exact hcat)
  have e2 : 2 * (F0 m pc ls (.ref (ρ a) :: st.map (g_cv ρ τ))).monitorRoom + ((st.map (g_cv ρ τ)).map fun v => v.category).sum + 12 ≤ 64 * d := by omega
  exact e2
/-- the class of an array by its name -/
theorem g_dA {dC : Nat → ClassId} {dI : Nat → Nat → Nat} {dA : Nat → ClassId} {s : State} {t : Nat} {ty : FieldType} {cA : ClassId} (hK : va_K (dC, dI) g_cl (g_tys dA) s) (ht : (g_tys dA)[t]? = some (dA t, ty)) (hK' : va_K (dC, dI) g_cl (g_tys dA ++ [(cA, ty)]) s) : cA = dA t := by
  have h1 := (hK.2 t _ ht).2
  have h2 := (hK'.2 (g_tys dA).length (cA, ty) (by simp)).2
  cases ty with
  | object C =>
    obtain ⟨_, _, _, _, _, q1⟩ := h1
    obtain ⟨_, _, _, _, _, q2⟩ := h2
    exact Option.some.inj (q2.symm.trans q1)
  | _ => exact Option.some.inj (h2.symm.trans h1)
theorem gG_newi {k : Int32} {m1 : Nat} (hd : decode M.2.1 pc = .ok (.newarray .int, 2)) (ha : Cond.arrayClass .int ∈ g_T) (hk : ¬ k < 0) (hm : k.toNatClampNeg = m1) (hm2 : m1 ≤ 100000) (h1 : kc + 1 ≤ Rc) (h2 : ks + m1 ≤ Rs) (h : gG d M Rc Rs X (pc + 2) (n + 1) (va_up H n (.inl (0, m1, .inl (fun _ => 0)))) L (.ref n :: st) (kc + 1) (ks + m1)) : gG d M Rc Rs X pc n H L (.int k :: st) kc ks := by
  intro p l e s m args below meth c dC dI dA τ A n0 ρ0 Q F hfl hX ρ Hr locs ls hR
  obtain ⟨r1, r2, r3, r4, r5, r6, r7, r8, r9⟩ := id hR
  obtain ⟨hx, hb, hml, hr, hown, hts, hlk, hnm, hK, hA, hN, hE, hτ0, hS⟩ := id F
  have hR' : g_Rep M s dC dI dA τ A n0 ρ0 ρ n H L st Hr locs ls := ⟨r1, r2, r3, r4, r5.2, r6, r7, r8, r9⟩
  have hby : m1 * componentBytes .int ≤ 536870912 := Nat.le_trans (Nat.mul_le_mul hm2 (show componentBytes .int ≤ 8 by decide)) (by decide)
  refine va_newa (D := (dC, dI)) (atype := .int) (ty := .int) (a0 := (m1, .inl (fun _ => 0))) hx hb (hts _ ha) rfl hK r6 r7 r8 hA (fun _ => rfl) hk hm hby h1 h2 hd (fun q cA H1 hK' hP hD hS1 => ?_)
  have ec := g_dA (t := 0) hK rfl hK'
  subst ec
  obtain ⟨g1, g2⟩ := g_Rep_new (q := q) (c := .inl (0, m1, .inl (fun _ => 0))) hR' trivial rfl hP hD hS1
  have hgo := h p l e s m args below meth c dC dI dA τ A n0 ρ0 Q F hfl hX _ H1 locs ls g1
  rw [g2] at hgo
  exact hgo
theorem gG_newl {k : Int32} {m1 : Nat} (hd : decode M.2.1 pc = .ok (.newarray .long, 2)) (ha : Cond.arrayClass .long ∈ g_T) (hk : ¬ k < 0) (hm : k.toNatClampNeg = m1) (hm2 : m1 ≤ 100000) (h1 : kc + 1 ≤ Rc) (h2 : ks + m1 ≤ Rs) (h : gG d M Rc Rs X (pc + 2) (n + 1) (va_up H n (.inl (1, m1, .inr (.inl (fun _ => 0))))) L (.ref n :: st) (kc + 1) (ks + m1)) : gG d M Rc Rs X pc n H L (.int k :: st) kc ks := by
  intro p l e s m args below meth c dC dI dA τ A n0 ρ0 Q F hfl hX ρ Hr locs ls hR
  obtain ⟨r1, r2, r3, r4, r5, r6, r7, r8, r9⟩ := id hR
  obtain ⟨hx, hb, hml, hr, hown, hts, hlk, hnm, hK, hA, hN, hE, hτ0, hS⟩ := id F
  have hR' : g_Rep M s dC dI dA τ A n0 ρ0 ρ n H L st Hr locs ls := ⟨r1, r2, r3, r4, r5.2, r6, r7, r8, r9⟩
  have hby : m1 * componentBytes .long ≤ 536870912 := Nat.le_trans (Nat.mul_le_mul hm2 (show componentBytes .long ≤ 8 by decide)) (by decide)
  refine va_newa (D := (dC, dI)) (atype := .long) (ty := .long) (a0 := (m1, .inr (.inl (fun _ => 0)))) hx hb (hts _ ha) rfl hK r6 r7 r8 hA (fun _ => rfl) hk hm hby h1 h2 hd (fun q cA H1 hK' hP hD hS1 => ?_)
  have ec := g_dA (t := 1) hK rfl hK'
  subst ec
  obtain ⟨g1, g2⟩ := g_Rep_new (q := q) (c := .inl (1, m1, .inr (.inl (fun _ => 0)))) hR' trivial rfl hP hD hS1
  have hgo := h p l e s m args below meth c dC dI dA τ A n0 ρ0 Q F hfl hX _ H1 locs ls g1
  rw [g2] at hgo
  exact hgo
theorem gG_newc {k : Int32} {m1 : Nat} (hd : decode M.2.1 pc = .ok (.newarray .char, 2)) (ha : Cond.arrayClass .char ∈ g_T) (hk : ¬ k < 0) (hm : k.toNatClampNeg = m1) (hm2 : m1 ≤ 100000) (h1 : kc + 1 ≤ Rc) (h2 : ks + m1 ≤ Rs) (h : gG d M Rc Rs X (pc + 2) (n + 1) (va_up H n (.inl (2, m1, .inl (fun _ => 0)))) L (.ref n :: st) (kc + 1) (ks + m1)) : gG d M Rc Rs X pc n H L (.int k :: st) kc ks := by
  intro p l e s m args below meth c dC dI dA τ A n0 ρ0 Q F hfl hX ρ Hr locs ls hR
  obtain ⟨r1, r2, r3, r4, r5, r6, r7, r8, r9⟩ := id hR
  obtain ⟨hx, hb, hml, hr, hown, hts, hlk, hnm, hK, hA, hN, hE, hτ0, hS⟩ := id F
  have hR' : g_Rep M s dC dI dA τ A n0 ρ0 ρ n H L st Hr locs ls := ⟨r1, r2, r3, r4, r5.2, r6, r7, r8, r9⟩
  have hby : m1 * componentBytes .char ≤ 536870912 := Nat.le_trans (Nat.mul_le_mul hm2 (show componentBytes .char ≤ 8 by decide)) (by decide)
  refine va_newa (D := (dC, dI)) (atype := .char) (ty := .char) (a0 := (m1, .inl (fun _ => 0))) hx hb (hts _ ha) rfl hK r6 r7 r8 hA (fun _ => rfl) hk hm hby h1 h2 hd (fun q cA H1 hK' hP hD hS1 => ?_)
  have ec := g_dA (t := 2) hK rfl hK'
  subst ec
  obtain ⟨g1, g2⟩ := g_Rep_new (q := q) (c := .inl (2, m1, .inl (fun _ => 0))) hR' trivial rfl hP hD hS1
  have hgo := h p l e s m args below meth c dC dI dA τ A n0 ρ0 Q F hfl hX _ H1 locs ls g1
  rw [g2] at hgo
  exact hgo
theorem gG_newz {k : Int32} {m1 : Nat} (hd : decode M.2.1 pc = .ok (.newarray .boolean, 2)) (ha : Cond.arrayClass .boolean ∈ g_T) (hk : ¬ k < 0) (hm : k.toNatClampNeg = m1) (hm2 : m1 ≤ 100000) (h1 : kc + 1 ≤ Rc) (h2 : ks + m1 ≤ Rs) (h : gG d M Rc Rs X (pc + 2) (n + 1) (va_up H n (.inl (3, m1, .inl (fun _ => 0)))) L (.ref n :: st) (kc + 1) (ks + m1)) : gG d M Rc Rs X pc n H L (.int k :: st) kc ks := by
  intro p l e s m args below meth c dC dI dA τ A n0 ρ0 Q F hfl hX ρ Hr locs ls hR
  obtain ⟨r1, r2, r3, r4, r5, r6, r7, r8, r9⟩ := id hR
  obtain ⟨hx, hb, hml, hr, hown, hts, hlk, hnm, hK, hA, hN, hE, hτ0, hS⟩ := id F
  have hR' : g_Rep M s dC dI dA τ A n0 ρ0 ρ n H L st Hr locs ls := ⟨r1, r2, r3, r4, r5.2, r6, r7, r8, r9⟩
  have hby : m1 * componentBytes .boolean ≤ 536870912 := Nat.le_trans (Nat.mul_le_mul hm2 (show componentBytes .boolean ≤ 8 by decide)) (by decide)
  refine va_newa (D := (dC, dI)) (atype := .boolean) (ty := .boolean) (a0 := (m1, .inl (fun _ => 0))) hx hb (hts _ ha) rfl hK r6 r7 r8 hA (fun _ => rfl) hk hm hby h1 h2 hd (fun q cA H1 hK' hP hD hS1 => ?_)
  have ec := g_dA (t := 3) hK rfl hK'
  subst ec
  obtain ⟨g1, g2⟩ := g_Rep_new (q := q) (c := .inl (3, m1, .inl (fun _ => 0))) hR' trivial rfl hP hD hS1
  have hgo := h p l e s m args below meth c dC dI dA τ A n0 ρ0 Q F hfl hX _ H1 locs ls g1
  rw [g2] at hgo
  exact hgo
theorem gG_newW {idx : Nat} {k : Int32} {m1 : Nat} (hd : decode M.2.1 pc = .ok (.anewarray idx, 3)) (ha : Cond.classLink M.1.cls idx RX9 ∈ g_T) (hk : ¬ k < 0) (hm : k.toNatClampNeg = m1) (hm2 : m1 ≤ 100000) (h1 : kc + 1 ≤ Rc) (h2 : ks + m1 ≤ Rs) (h : gG d M Rc Rs X (pc + 3) (n + 1) (va_up H n (.inl (4, m1, .inr (.inr (.inr (.inr (fun _ => none))))))) L (.ref n :: st) (kc + 1) (ks + m1)) : gG d M Rc Rs X pc n H L (.int k :: st) kc ks := by
  intro p l e s m args below meth c dC dI dA τ A n0 ρ0 Q F hfl hX ρ Hr locs ls hR
  obtain ⟨r1, r2, r3, r4, r5, r6, r7, r8, r9⟩ := id hR
  obtain ⟨hx, hb, hml, hr, hown, hts, hlk, hnm, hK, hA, hN, hE, hτ0, hS⟩ := id F
  have hR' : g_Rep M s dC dI dA τ A n0 ρ0 ρ n H L st Hr locs ls := ⟨r1, r2, r3, r4, r5.2, r6, r7, r8, r9⟩
  refine va_newq (D := (dC, dI)) hx hb hown (hts _ ha) hN.2.1 hK r6 r7 r8 hA hk hm (by omega) h1 h2 hd (fun q cA H1 hK' hP hD hS1 => ?_)
  have ec := g_dA (t := 4) hK rfl hK'
  subst ec
  obtain ⟨g1, g2⟩ := g_Rep_new (q := q) (c := .inl (4, m1, .inr (.inr (.inr (.inr (fun _ => none)))))) hR' (fun _ _ z => by cases z) rfl hP hD hS1
  have hgo := h p l e s m args below meth c dC dI dA τ A n0 ρ0 Q F hfl hX _ H1 locs ls g1
  rw [g2] at hgo
  exact hgo
theorem gG_newM {idx : Nat} {k : Int32} {m1 : Nat} (hd : decode M.2.1 pc = .ok (.anewarray idx, 3)) (ha : Cond.classLink M.1.cls idx RX6 ∈ g_T) (hk : ¬ k < 0) (hm : k.toNatClampNeg = m1) (hm2 : m1 ≤ 100000) (h1 : kc + 1 ≤ Rc) (h2 : ks + m1 ≤ Rs) (h : gG d M Rc Rs X (pc + 3) (n + 1) (va_up H n (.inl (5, m1, .inr (.inr (.inr (.inr (fun _ => none))))))) L (.ref n :: st) (kc + 1) (ks + m1)) : gG d M Rc Rs X pc n H L (.int k :: st) kc ks := by
  intro p l e s m args below meth c dC dI dA τ A n0 ρ0 Q F hfl hX ρ Hr locs ls hR
  obtain ⟨r1, r2, r3, r4, r5, r6, r7, r8, r9⟩ := id hR
  obtain ⟨hx, hb, hml, hr, hown, hts, hlk, hnm, hK, hA, hN, hE, hτ0, hS⟩ := id F
  have hR' : g_Rep M s dC dI dA τ A n0 ρ0 ρ n H L st Hr locs ls := ⟨r1, r2, r3, r4, r5.2, r6, r7, r8, r9⟩
  refine va_newq (D := (dC, dI)) hx hb hown (hts _ ha) hN.2.2 hK r6 r7 r8 hA hk hm (by omega) h1 h2 hd (fun q cA H1 hK' hP hD hS1 => ?_)
  have ec := g_dA (t := 5) hK rfl hK'
  subst ec
  obtain ⟨g1, g2⟩ := g_Rep_new (q := q) (c := .inl (5, m1, .inr (.inr (.inr (.inr (fun _ => none)))))) hR' (fun _ _ z => by cases z) rfl hP hD hS1
  have hgo := h p l e s m args below meth c dC dI dA τ A n0 ρ0 Q F hfl hX _ H1 locs ls g1
  rw [g2] at hgo
  exact hgo
theorem gG_aast {t ci a v : Nat} {i : Int32} (ht : (t = 4 ∧ ci = 9) ∨ (t = 5 ∧ ci = 6)) (hd : decode M.2.1 pc = .ok (.aastore, 1)) (h : ∃ (m1 : Nat) (f : Nat → Option Nat) (vs : List Value), H a = .inl (t, m1, .inr (.inr (.inr (.inr f)))) ∧ vp_in i m1 ∧ H v = .inr (ci, vs) ∧ gG d M Rc Rs X (pc + 1) n (va_up H a (.inl (t, m1, .inr (.inr (.inr (.inr (va_up f i.toNatClampNeg (some v)))))))) L st kc ks) : gG d M Rc Rs X pc n H L (.ref v :: .int i :: .ref a :: st) kc ks := by
  obtain ⟨m1, f, vs, q1, q2, q3, h⟩ := h
  intro p l e s m args below meth c dC dI dA τ A n0 ρ0 Q F hfl hX ρ Hr locs ls hR
  obtain ⟨r1, r2, r3, r4, r5, r6, r7, r8, r9⟩ := id hR
  obtain ⟨hx, hb, hml, hr, hown, hts, hlk, hnm, hK, hA, hN, hE, hτ0, hS⟩ := id F
  have hv : v < n := r5.1
  have ha : a < n := r5.2.2.1
  have e0 : (fun j => (va_up f i.toNatClampNeg (some v) j).map ρ) = va_up (fun j => (f j).map ρ) i.toNatClampNeg (some (ρ v)) := by
    funext j
    by_cases z : j = i.toNatClampNeg <;> simp [va_up, z]
  have e1 : (g_w ρ τ dA n H).set a (ρ a, .inl (dA t, m1, .inr (.inr (.inr (.inr (va_up (fun j => (f j).map ρ) i.toNatClampNeg (some (ρ v)))))))) = g_w ρ τ dA n (va_up H a (.inl (t, m1, .inr (.inr (.inr (.inr (va_up f i.toNatClampNeg (some v)))))))) := by
    rw [← e0]
    exact g_w_set (c := .inl (t, m1, .inr (.inr (.inr (.inr (va_up f i.toNatClampNeg (some v))))))) ha
  have ho : g_oE n (.inl (t, m1, .inr (.inr (.inr (.inr (va_up f i.toNatClampNeg (some v))))))) := by
    intro j k hk
    by_cases z : j = i.toNatClampNeg
    · simp only [va_up, if_pos z, Option.some.injEq] at hk
      rw [← hk]; exact hv
    · simp only [va_up, if_neg z] at hk
      exact (q1 ▸ r3 a ha : g_oE n (.inl (t, m1, .inr (.inr (.inr (.inr f)))))) _ _ hk
  have hgo : ∀ (H1 : Heap) (locs1 : List Loc), va_P (dC, dI) g_cl ((g_w ρ τ dA n H).set a (ρ a, .inl (dA t, m1, .inr (.inr (.inr (.inr (va_up (fun j => (f j).map ρ) i.toNatClampNeg (some (ρ v))))))))) H1 → va_D A ((g_w ρ τ dA n H).set a (ρ a, .inl (dA t, m1, .inr (.inr (.inr (.inr (va_up (fun j => (f j).map ρ) i.toNatClampNeg (some (ρ v))))))))) → va_S A s.heap H1 locs1 → W p l e (g_rm d Rc Rs) s m args below meth c H1 locs1 kc ks Q (F0 m (pc + 1) ls (st.map (g_cv ρ τ))) := by
    intro H1 locs1 w1 w2 w3
    rw [e1] at w1 w2
    exact h p l e s m args below meth c dC dI dA τ A n0 ρ0 Q F hfl hX ρ H1 locs1 ls ⟨r1, r2, g_oH_up r3 ho, r4, r5.2.2.2, w1, w2, w3, r9⟩
  rcases ht with ⟨rfl, rfl⟩ | ⟨rfl, rfl⟩
  · exact va_astq (D := (dC, dI)) (r := (RX9, TX9, 10)) hx hb hK r6 r7 r8 a 4 v 9 (g_w_arrQ ha q1) rfl (g_w_obj hv q3) rfl q2 hd hgo
  · exact va_astq (D := (dC, dI)) (r := (RX6, TX6, 5)) hx hb hK r6 r7 r8 a 5 v 6 (g_w_arrQ ha q1) rfl (g_w_obj hv q3) rfl q2 hd hgo
end GA
theorem mi_obj : Cond.instanceMethod objectInit ∈ g_T := g_inT1 (i := 32) (by decide +kernel) (by decide +kernel)
theorem mc_obj : Cond.code objectInit ⟨#[0xb1]⟩ 1 none ∈ g_T := g_inT1 (i := 33) (by decide +kernel) (by decide +kernel)
theorem ac_char : Cond.arrayClass .char ∈ g_T := g_inT1 (i := 70) (by decide +kernel) (by decide +kernel)
theorem ac_long : Cond.arrayClass .long ∈ g_T := g_inT1 (i := 128) (by decide +kernel) (by decide +kernel)
theorem ac_int : Cond.arrayClass .int ∈ g_T := g_inT1 (i := 129) (by decide +kernel) (by decide +kernel)
theorem ac_boolean : Cond.arrayClass .boolean ∈ g_T := g_inT1 (i := 263) (by decide +kernel) (by decide +kernel)
theorem ac_byte : Cond.arrayClass .byte ∈ g_T := g_inT1 (i := 732) (by decide +kernel) (by decide +kernel)
theorem cn_L_8 : g_CN "StoneReadersLaw" 8 11 18 [.null, .null, .null, .null, .null, .null, .null, .null, .null, .null, .null, .null, .null, .int 0, .int 0, .null, .null, .long 0] := ⟨RX11, TX11, tyX11, rfl, inT_X11, tyX11_ok, ck_L_8, it_X11, ini_X11, by decide +kernel, g_pl _ (by decide +kernel)⟩
theorem cn_X11_7 : g_CN RX11 7 8 8 [.null, .int 0, .int 0, .int 0, .int 0, .long 0, .int 0, .int 0] := ⟨RX8, TX8, tyX8, rfl, inT_X8, tyX8_ok, ck_X11_7, it_X8, ini_X8, by decide +kernel, g_pl _ (by decide +kernel)⟩
theorem cn_X11_16 : g_CN RX11 16 2 2 [.null, .null] := ⟨RX2, TX2, tyX2, rfl, inT_X2, tyX2_ok, ck_X11_16, it_X2, ini_X2, by decide +kernel, g_pl _ (by decide +kernel)⟩
theorem cn_X2_15 : g_CN RX2 15 4 1 [.null] := ⟨RX4, TX4, tyX4, rfl, inT_X4, tyX4_ok, ck_X2_15, it_X4, ini_X4, by decide +kernel, g_pl _ (by decide +kernel)⟩
theorem cn_X11_25 : g_CN RX11 25 5 1 [.null] := ⟨RX5, TX5, tyX5, rfl, inT_X5, tyX5_ok, ck_X11_25, it_X5, ini_X5, by decide +kernel, g_pl _ (by decide +kernel)⟩
theorem cn_X11_32 : g_CN RX11 32 1 14 [.int 0, .null, .null, .null, .null, .null, .null, .null, .int 0, .null, .null, .int 0, .null, .null] := ⟨RX1, TX1, tyX1, rfl, inT_X1, tyX1_ok, ck_X11_32, it_X1, ini_X1, by decide +kernel, g_pl _ (by decide +kernel)⟩
theorem cn_X1_43 : g_CN RX1 43 3 3 [.null, .int 0, .null] := ⟨RX3, TX3, tyX3, rfl, inT_X3, tyX3_ok, ck_X1_43, it_X3, ini_X3, by decide +kernel, g_pl _ (by decide +kernel)⟩
theorem cn_X11_42 : g_CN RX11 42 0 4 [.int 0, .null, .null, .null] := ⟨RX0, TX0, tyX0, rfl, inT_X0, tyX0_ok, ck_X11_42, it_X0, ini_X0, by decide +kernel, g_pl _ (by decide +kernel)⟩
theorem cn_X11_52 : g_CN RX11 52 10 2 [.int 0, .null] := ⟨RX10, TX10, tyX10, rfl, inT_X10, tyX10_ok, ck_X11_52, it_X10, ini_X10, by decide +kernel, g_pl _ (by decide +kernel)⟩
theorem cn_X11_62 : g_CN RX11 62 7 3 [.int 0, .null, .null] := ⟨RX7, TX7, tyX7, rfl, inT_X7, tyX7_ok, ck_X11_62, it_X7, ini_X7, by decide +kernel, g_pl _ (by decide +kernel)⟩
theorem cn_X11_69 : g_CN RX11 69 9 10 [.int 0, .int 0, .null, .null, .int 0, .int 0, .int 0, .int 0, .null, .int 0] := ⟨RX9, TX9, tyX9, rfl, inT_X9, tyX9_ok, ck_X11_69, it_X9, ini_X9, by decide +kernel, g_pl _ (by decide +kernel)⟩
theorem cn_X11_83 : g_CN RX11 83 6 5 [.int 0, .null, .null, .null, .null] := ⟨RX6, TX6, tyX6, rfl, inT_X6, tyX6_ok, ck_X11_83, it_X6, ini_X6, by decide +kernel, g_pl _ (by decide +kernel)⟩
theorem cn_X6_7 : g_CN RX6 7 9 10 [.int 0, .int 0, .null, .null, .int 0, .int 0, .int 0, .int 0, .null, .int 0] := ⟨RX9, TX9, tyX9, rfl, inT_X9, tyX9_ok, ck_X6_7, it_X9, ini_X9, by decide +kernel, g_pl _ (by decide +kernel)⟩
theorem cn_X6_16 : g_CN RX6 16 0 4 [.int 0, .null, .null, .null] := ⟨RX0, TX0, tyX0, rfl, inT_X0, tyX0_ok, ck_X6_16, it_X0, ini_X0, by decide +kernel, g_pl _ (by decide +kernel)⟩
theorem cn_X6_23 : g_CN RX6 23 10 2 [.int 0, .null] := ⟨RX10, TX10, tyX10, rfl, inT_X10, tyX10_ok, ck_X6_23, it_X10, ini_X10, by decide +kernel, g_pl _ (by decide +kernel)⟩
theorem cn_X6_30 : g_CN RX6 30 7 3 [.int 0, .null, .null] := ⟨RX7, TX7, tyX7, rfl, inT_X7, tyX7_ok, ck_X6_30, it_X7, ini_X7, by decide +kernel, g_pl _ (by decide +kernel)⟩
theorem cn_L_16 : g_CN "StoneReadersLaw" 16 12 60 [.int 0, .int 0, .null, .int 0, .int 0, .int 0, .int 0, .long 0, .int 0, .int 0, .null, .null, .null, .null, .null, .null, .null, .null, .null, .null, .null, .null, .null, .int 0, .null, .null, .null, .null, .null, .null, .null, .null, .null, .null, .null, .null, .int 0, .long 0, .null, .null, .null, .null, .null, .null, .null, .null, .null, .null, .null, .null, .null, .null, .null, .int 0, .null, .int 0, .int 0, .null, .null, .long 0] := ⟨RX12, TX12, tyX12, rfl, inT_X12, tyX12_ok, ck_L_16, it_X12, ini_X12, by decide +kernel, g_pl _ (by decide +kernel)⟩
