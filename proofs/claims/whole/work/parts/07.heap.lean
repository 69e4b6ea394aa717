/-! HEAP AND CALLS -/
/-- the link to field k (of type ty) of the ci-th class, by an entry of own's pool -/
def g_FL (own : String) (idx ci k : Nat) (ty : FieldType) (fin : Bool) : Prop :=
  ∃ (C : String) (T : u_T) (N : Nat) (ty0 : Nat → FieldType), g_cl[ci]? = some (C, T, N) ∧ (∀ w ∈ u_ws C T N, w ∈ g_T) ∧ k < N ∧ (∀ k, k < N → parseFieldDescriptor (T k).2.2.1 = some (ty0 k)) ∧ (∀ a, a < N → ∀ b, b < N → a ≠ b → (T a).2.1 ≠ (T b).2.1) ∧ ty0 k = ty ∧ (T k).1 = C ∧ (T k).2.2.2 = fin ∧
    (Cond.fieldLink own idx C (T k).2.1 (T k).2.2.1 ∈ g_T ∨ ∃ host, Cond.fieldLinkNest own idx C (T k).2.1 (T k).2.2.1 host ∈ g_N)
theorem g_w_obj {ρ : Nat → Nat} {τ : Nat → Value} {dA : Nat → ClassId} {n : Nat} {H : gHp} {a ci : Nat} {fs : List Value} (h : a < n) (he : H a = .inr (ci, fs)) : (g_w ρ τ dA n H)[a]? = some (ρ a, .inr (ci, fs.map (g_cv ρ τ))) := by
  rw [g_w_get h, he]; rfl
theorem g_w_put {ρ : Nat → Nat} {τ : Nat → Value} {dA : Nat → ClassId} {n : Nat} {H : gHp} {a ci k : Nat} {fs : List Value} {v : Value} (h : a < n) : (g_w ρ τ dA n H).set a (ρ a, .inr (ci, (fs.map (g_cv ρ τ)).set k (g_cv ρ τ v))) = g_w ρ τ dA n (va_up H a (.inr (ci, fs.set k v))) := by
  rw [← g_w_set h, ← List.map_set]; rfl
theorem g_oE_get {n ci k : Nat} {fs : List Value} {v : Value} (h : g_oE n (.inr (ci, fs))) (hv : fs[k]? = some v) : g_ov n v := h v (List.mem_of_getElem? hv)
theorem g_oE_set {n ci k : Nat} {fs : List Value} {v : Value} (h : g_oE n (.inr (ci, fs))) (hv : g_ov n v) : g_oE n (.inr (ci, fs.set k v)) := by
  intro u hu
  rcases List.mem_or_eq_of_mem_set hu with h1 | h1
  · exact h u h1
  · rw [h1]; exact hv
theorem g_cats {ρ : Nat → Nat} {τ : Nat → Value} (h : g_ro τ) : ∀ (st : List Value), ((st.map (g_cv ρ τ)).map fun v => v.category).sum = (st.map fun v => v.category).sum
  | [] => rfl
  | v :: st => by
    simp only [List.map_cons, List.sum_cons]
    rw [g_cats h st]
    have e : (g_cv ρ τ v).category = v.category := by cases v <;> first | rfl | exact g_roc h _
    rw [e]
section GH
variable {d : Nat} {M : gMD} {Rc Rs : Nat} {X : gX} {pc n : Nat} {H : gHp} {L : List (Option Value)} {st : List Value} {kc ks : Nat}
theorem gG_get {idx ci k a : Nat} {ty : FieldType} {fin : Bool} {fs : List Value} {v : Value} (hd : decode M.2.1 pc = .ok (.getfield idx, 3)) (hl : g_FL M.1.cls idx ci k ty fin) (he : H a = .inr (ci, fs)) (hv : fs[k]? = some v) (h : gG d M Rc Rs X (pc + 3) n H L (v :: st) kc ks) : gG d M Rc Rs X pc n H L (.ref a :: st) kc ks := by
  intro p l e s m args below meth c dC dI dA τ A n0 ρ0 Q F hfl hX ρ Hr locs ls hR
  obtain ⟨r1, r2, r3, r4, r5, r6, r7, r8, r9⟩ := id hR
  obtain ⟨hx, hb, hml, hr, hown, hts, hlk, hnm, hK, hA, hN, hE, hτ0, hS⟩ := id F
  have ha : a < n := r5.1
  have hgo := h p l e s m args below meth c dC dI dA τ A n0 ρ0 Q F hfl hX ρ Hr locs ls ⟨r1, r2, r3, r4, ⟨g_oE_get (he ▸ r3 a ha) hv, r5.2⟩, r6, r7, r8, r9⟩
  have hv' : (fs.map (g_cv ρ τ))[k]? = some (g_cv ρ τ v) := by rw [List.getElem?_map, hv]; rfl
  obtain ⟨C, T, N, ty0, e1, e2, e3, e4, e5, e6, e7, e8, hl | ⟨host, hl⟩⟩ := hl
  · exact va_get (D := (dC, dI)) (ref := C) hx hb hts e2 hown hK r6 a (g_w_obj ha he) e1 k e3 (hts _ hl) (fun _ h9 => by rw [e7] at h9; exact h9) hv' hd hgo
  · exact va_getN (D := (dC, dI)) (ref := C) (host := host) hx hb hts e2 hown hK r6 a (g_w_obj ha he) e1 k e3 (va_Nw.use rfl (hN.1 _ hl)) (fun _ h9 => by rw [e7] at h9; exact h9) hv' hd hgo
theorem gG_putv {idx ci k a : Nat} {ty : FieldType} {fin : Bool} {fs : List Value} {v : Value} (hd : decode M.2.1 pc = .ok (.putfield idx, 3)) (hl : g_FL M.1.cls idx ci k ty fin) (hfin : fin = false ∨ (M.1.name = "<init>" ∧ ∃ C T N, g_cl[ci]? = some (C, T, N) ∧ C = M.1.cls ∧ Cond.fieldLink M.1.cls idx C (T k).2.1 (T k).2.2.1 ∈ g_T))
    (hn : ∀ (ρ : Nat → Nat) (τ : Nat → Value), narrow ty (g_cv ρ τ v) = g_cv ρ τ v) (hf : ∀ (ρ : Nat → Nat) (τ : Nat → Value), fits ty (g_cv ρ τ v) = true) (he : H a = .inr (ci, fs)) (hk : k < fs.length)
    (h : gG d M Rc Rs X (pc + 3) n (va_up H a (.inr (ci, fs.set k v))) L st kc ks) : gG d M Rc Rs X pc n H L (v :: .ref a :: st) kc ks := by
  intro p l e s m args below meth c dC dI dA τ A n0 ρ0 Q F hfl hX ρ Hr locs ls hR
  obtain ⟨r1, r2, r3, r4, r5, r6, r7, r8, r9⟩ := id hR
  obtain ⟨hx, hb, hml, hr, hown, hts, hlk, hnm, hK, hA, hN, hE, hτ0, hS⟩ := id F
  have ha : a < n := r5.2.1
  have hgo : ∀ (H1 : Heap) (locs1 : List Loc), va_P (dC, dI) g_cl ((g_w ρ τ dA n H).set a (ρ a, .inr (ci, (fs.map (g_cv ρ τ)).set k (g_cv ρ τ v)))) H1 → va_D A ((g_w ρ τ dA n H).set a (ρ a, .inr (ci, (fs.map (g_cv ρ τ)).set k (g_cv ρ τ v)))) → va_S A s.heap H1 locs1 → W p l e (g_rm d Rc Rs) s m args below meth c H1 locs1 kc ks Q (F0 m (pc + 3) ls (st.map (g_cv ρ τ))) := by
    intro H1 locs1 q1 q2 q3
    rw [g_w_put ha] at q1 q2
    exact h p l e s m args below meth c dC dI dA τ A n0 ρ0 Q F hfl hX ρ H1 locs1 ls ⟨r1, r2, g_oH_up r3 (g_oE_set (he ▸ r3 a ha) r5.1), r4, r5.2.2, q1, q2, q3, r9⟩
  have hk' : k < (fs.map (g_cv ρ τ)).length := by rw [List.length_map]; exact hk
  obtain ⟨C, T, N, ty0, e1, e2, e3, e4, e5, e6, e7, e8, hl | ⟨host, hl⟩⟩ := hl
  · rcases hfin with hf0 | ⟨hi, C', T', N', f1, f2, f3⟩
    · exact va_put (D := (dC, dI)) (ref := C) (ty := ty) hx hb hts e2 ty0 e4 e5 hown hK r6 r7 r8 a (g_w_obj ha he) e1 k e3 (hts _ hl) (fun _ h9 => by rw [e7] at h9; exact h9) (by rw [e8, hf0]) (by rw [e4 k e3, e6]) (hn ρ τ) (hf ρ τ) hk' hd hgo
    · rw [e1] at f1
      cases f1
      cases hfb : fin with
      | false => exact va_put (D := (dC, dI)) (ref := C) (ty := ty) hx hb hts e2 ty0 e4 e5 hown hK r6 r7 r8 a (g_w_obj ha he) e1 k e3 (hts _ hl) (fun _ h9 => by rw [e7] at h9; exact h9) (by rw [e8, hfb]) (by rw [e4 k e3, e6]) (hn ρ τ) (hf ρ τ) hk' hd hgo
      | true => exact va_putF (D := (dC, dI)) (ref := C) (ty := ty) hx hb hts e2 ty0 e4 e5 hown hK r6 r7 r8 a (g_w_obj ha he) e1 k e3 (hts _ hl) (fun _ h9 => by rw [e7] at h9; exact h9) (by rw [e8, hfb]) (by rw [hnm, hi]) (by rw [e7, f2]) (by rw [e4 k e3, e6]) (hn ρ τ) (hf ρ τ) hk' hd hgo
  · rcases hfin with hf0 | ⟨hi, C', T', N', f1, f2, f3⟩
    · exact va_putN (D := (dC, dI)) (ref := C) (host := host) (ty := ty) hx hb hts e2 ty0 e4 e5 hown hK r6 r7 r8 a (g_w_obj ha he) e1 k e3 (va_Nw.use rfl (hN.1 _ hl)) (fun _ h9 => by rw [e7] at h9; exact h9) (by rw [e8, hf0]) (by rw [e4 k e3, e6]) (hn ρ τ) (hf ρ τ) hk' hd hgo
    · cases hfb : fin with
      | false => exact va_putN (D := (dC, dI)) (ref := C) (host := host) (ty := ty) hx hb hts e2 ty0 e4 e5 hown hK r6 r7 r8 a (g_w_obj ha he) e1 k e3 (va_Nw.use rfl (hN.1 _ hl)) (fun _ h9 => by rw [e7] at h9; exact h9) (by rw [e8, hfb]) (by rw [e4 k e3, e6]) (hn ρ τ) (hf ρ τ) hk' hd hgo
      | true =>
        rw [e1] at f1
        cases f1
        exact va_putF (D := (dC, dI)) (ref := C) (ty := ty) hx hb hts e2 ty0 e4 e5 hown hK r6 r7 r8 a (g_w_obj ha he) e1 k e3 (hts _ f3) (fun _ h9 => by rw [e7] at h9; exact h9) (by rw [e8, hfb]) (by rw [hnm, hi]) (by rw [e7, f2]) (by rw [e4 k e3, e6]) (hn ρ τ) (hf ρ τ) hk' hd hgo
/-! what a load, a store, a call asks: as questions to the abstract heap -/
def g_gi (H : gHp) (a ci k : Nat) (K : Int32 → Prop) : Prop := ∃ (fs : List Value) (x : Int32), H a = .inr (ci, fs) ∧ fs[k]? = some (.int x) ∧ K x
def g_gl (H : gHp) (a ci k : Nat) (K : Int64 → Prop) : Prop := ∃ (fs : List Value) (x : Int64), H a = .inr (ci, fs) ∧ fs[k]? = some (.long x) ∧ K x
def g_gr (H : gHp) (a ci k : Nat) (K : Nat → Prop) : Prop := ∃ (fs : List Value) (x : Nat), H a = .inr (ci, fs) ∧ fs[k]? = some (.ref x) ∧ K x
def g_pf (H : gHp) (a ci k : Nat) (v : Value) (K : gHp → Prop) : Prop := ∃ fs : List Value, H a = .inr (ci, fs) ∧ k < fs.length ∧ K (va_up H a (.inr (ci, fs.set k v)))
def g_al (t : Nat) (H : gHp) (a : Nat) (i : Int32) (K : Int32 → Prop) : Prop := ∃ (m : Nat) (f : Nat → Int32), H a = .inl (t, m, .inl f) ∧ vp_in i m ∧ K (f i.toNatClampNeg)
def g_as (t : Nat) (H : gHp) (a : Nat) (i x : Int32) (K : gHp → Prop) : Prop := ∃ (m : Nat) (f : Nat → Int32), H a = .inl (t, m, .inl f) ∧ vp_in i m ∧ K (va_up H a (.inl (t, m, .inl (upd f i.toNatClampNeg x))))
def g_ll (H : gHp) (a : Nat) (i : Int32) (K : Int64 → Prop) : Prop := ∃ (m : Nat) (f : Nat → Int64), H a = .inl (1, m, .inr (.inl f)) ∧ vp_in i m ∧ K (f i.toNatClampNeg)
def g_lst (H : gHp) (a : Nat) (i : Int32) (x : Int64) (K : gHp → Prop) : Prop := ∃ (m : Nat) (f : Nat → Int64), H a = .inl (1, m, .inr (.inl f)) ∧ vp_in i m ∧ K (va_up H a (.inl (1, m, .inr (.inl (vp_updL f i.toNatClampNeg x)))))
def g_rl (t : Nat) (H : gHp) (a : Nat) (i : Int32) (K : Nat → Prop) : Prop := ∃ (m : Nat) (f : Nat → Option Nat) (k : Nat), H a = .inl (t, m, .inr (.inr (.inr (.inr f)))) ∧ vp_in i m ∧ f i.toNatClampNeg = some k ∧ K k
theorem gG_gi {idx ci k a : Nat} {ty : FieldType} {fin : Bool} (hd : decode M.2.1 pc = .ok (.getfield idx, 3)) (hl : g_FL M.1.cls idx ci k ty fin) (h : g_gi H a ci k (fun x => gG d M Rc Rs X (pc + 3) n H L (.int x :: st) kc ks)) : gG d M Rc Rs X pc n H L (.ref a :: st) kc ks := by
  obtain ⟨fs, x, h1, h2, h3⟩ := h
  exact gG_get hd hl h1 h2 h3
theorem gG_gl {idx ci k a : Nat} {ty : FieldType} {fin : Bool} (hd : decode M.2.1 pc = .ok (.getfield idx, 3)) (hl : g_FL M.1.cls idx ci k ty fin) (h : g_gl H a ci k (fun x => gG d M Rc Rs X (pc + 3) n H L (.long x :: st) kc ks)) : gG d M Rc Rs X pc n H L (.ref a :: st) kc ks := by
  obtain ⟨fs, x, h1, h2, h3⟩ := h
  exact gG_get hd hl h1 h2 h3
theorem gG_gr {idx ci k a : Nat} {ty : FieldType} {fin : Bool} (hd : decode M.2.1 pc = .ok (.getfield idx, 3)) (hl : g_FL M.1.cls idx ci k ty fin) (h : g_gr H a ci k (fun x => gG d M Rc Rs X (pc + 3) n H L (.ref x :: st) kc ks)) : gG d M Rc Rs X pc n H L (.ref a :: st) kc ks := by
  obtain ⟨fs, x, h1, h2, h3⟩ := h
  exact gG_get hd hl h1 h2 h3
theorem gG_pi {idx ci k a : Nat} {x : Int32} (hd : decode M.2.1 pc = .ok (.putfield idx, 3)) (hl : g_FL M.1.cls idx ci k .int false) (h : g_pf H a ci k (.int x) (fun H => gG d M Rc Rs X (pc + 3) n H L st kc ks)) : gG d M Rc Rs X pc n H L (.int x :: .ref a :: st) kc ks := by
  obtain ⟨fs, h1, h2, h3⟩ := h
  exact gG_putv hd hl (Or.inl rfl) (fun _ _ => rfl) (fun _ _ => rfl) h1 h2 h3
theorem gG_pl {idx ci k a : Nat} {x : Int64} (hd : decode M.2.1 pc = .ok (.putfield idx, 3)) (hl : g_FL M.1.cls idx ci k .long false) (h : g_pf H a ci k (.long x) (fun H => gG d M Rc Rs X (pc + 3) n H L st kc ks)) : gG d M Rc Rs X pc n H L (.long x :: .ref a :: st) kc ks := by
  obtain ⟨fs, h1, h2, h3⟩ := h
  exact gG_putv hd hl (Or.inl rfl) (fun _ _ => rfl) (fun _ _ => rfl) h1 h2 h3
/-- a boolean as an int -/
def g_b (b : Bool) : Int32 := if b then 1 else 0
theorem g_b_nar (b : Bool) : narrow .boolean (.int (g_b b)) = .int (g_b b) := by cases b <;> rfl
theorem g_b_vnar (b : Bool) : vp_nar .boolean (g_b b) = g_b b := by cases b <;> rfl
theorem g_b_fits (b : Bool) : fits .boolean (.int (g_b b)) = true := by cases b <;> rfl
theorem gG_pz {idx ci k a : Nat} {x : Int32} {b : Bool} (hx : x = g_b b) (hd : decode M.2.1 pc = .ok (.putfield idx, 3)) (hl : g_FL M.1.cls idx ci k .boolean false) (h : g_pf H a ci k (.int (g_b b)) (fun H => gG d M Rc Rs X (pc + 3) n H L st kc ks)) : gG d M Rc Rs X pc n H L (.int x :: .ref a :: st) kc ks := by
  subst hx
  obtain ⟨fs, h1, h2, h3⟩ := h
  exact gG_putv hd hl (Or.inl rfl) (fun _ _ => g_b_nar b) (fun _ _ => g_b_fits b) h1 h2 h3
theorem gG_pr {idx ci k a x : Nat} {ty : FieldType} {fin : Bool} (hty : (∃ C, ty = .object C) ∨ ∃ t, ty = .array t) (hd : decode M.2.1 pc = .ok (.putfield idx, 3)) (hl : g_FL M.1.cls idx ci k ty fin) (hfin : fin = false ∨ (M.1.name = "<init>" ∧ ∃ C T N, g_cl[ci]? = some (C, T, N) ∧ C = M.1.cls ∧ Cond.fieldLink M.1.cls idx C (T k).2.1 (T k).2.2.1 ∈ g_T)) (h : g_pf H a ci k (.ref x) (fun H => gG d M Rc Rs X (pc + 3) n H L st kc ks)) : gG d M Rc Rs X pc n H L (.ref x :: .ref a :: st) kc ks := by
  obtain ⟨fs, h1, h2, h3⟩ := h
  refine gG_putv hd hl hfin (fun _ _ => ?_) (fun _ _ => ?_) h1 h2 h3 <;> rcases hty with ⟨C, rfl⟩ | ⟨t, rfl⟩ <;> rfl
theorem g_w_arr {ρ : Nat → Nat} {τ : Nat → Value} {dA : Nat → ClassId} {n : Nat} {H : gHp} {a t m : Nat} {f : Nat → Int32} (h : a < n) (he : H a = .inl (t, m, .inl f)) : (g_w ρ τ dA n H)[a]? = some (ρ a, .inl (dA t, m, .inl f)) := by
  rw [g_w_get h, he]; rfl
theorem g_w_arrL {ρ : Nat → Nat} {τ : Nat → Value} {dA : Nat → ClassId} {n : Nat} {H : gHp} {a t m : Nat} {f : Nat → Int64} (h : a < n) (he : H a = .inl (t, m, .inr (.inl f))) : (g_w ρ τ dA n H)[a]? = some (ρ a, .inl (dA t, m, .inr (.inl f))) := by
  rw [g_w_get h, he]; rfl
theorem g_w_arrQ {ρ : Nat → Nat} {τ : Nat → Value} {dA : Nat → ClassId} {n : Nat} {H : gHp} {a t m : Nat} {f : Nat → Option Nat} (h : a < n) (he : H a = .inl (t, m, .inr (.inr (.inr (.inr f))))) : (g_w ρ τ dA n H)[a]? = some (ρ a, .inl (dA t, m, .inr (.inr (.inr (.inr (fun j => (f j).map ρ)))))) := by
  rw [g_w_get h, he]; rfl
theorem gG_iald {a : Nat} {i : Int32} (hd : decode M.2.1 pc = .ok (.iaload, 1)) (h : g_al 0 H a i (fun x => gG d M Rc Rs X (pc + 1) n H L (.int x :: st) kc ks)) : gG d M Rc Rs X pc n H L (.int i :: .ref a :: st) kc ks := by
  obtain ⟨m1, f, h1, h2, h3⟩ := h
  intro p l e s m args below meth c dC dI dA τ A n0 ρ0 Q F hfl hX ρ Hr locs ls hR
  obtain ⟨r1, r2, r3, r4, r5, r6, r7, r8, r9⟩ := id hR
  obtain ⟨hx, hb, hml, hr, hown, hts, hlk, hnm, hK, hA, hN, hE, hτ0, hS⟩ := id F
  exact va_iald (D := (dC, dI)) hx hb hK r6 a 0 (g_w_arr r5.2.1 h1) rfl h2 hd (h3 p l e s m args below meth c dC dI dA τ A n0 ρ0 Q F hfl hX ρ Hr locs ls ⟨r1, r2, r3, r4, ⟨trivial, r5.2.2⟩, r6, r7, r8, r9⟩)
theorem gG_cald {a : Nat} {i : Int32} (hd : decode M.2.1 pc = .ok (.caload, 1)) (h : g_al 2 H a i (fun x => gG d M Rc Rs X (pc + 1) n H L (.int x :: st) kc ks)) : gG d M Rc Rs X pc n H L (.int i :: .ref a :: st) kc ks := by
  obtain ⟨m1, f, h1, h2, h3⟩ := h
  intro p l e s m args below meth c dC dI dA τ A n0 ρ0 Q F hfl hX ρ Hr locs ls hR
  obtain ⟨r1, r2, r3, r4, r5, r6, r7, r8, r9⟩ := id hR
  obtain ⟨hx, hb, hml, hr, hown, hts, hlk, hnm, hK, hA, hN, hE, hτ0, hS⟩ := id F
  exact va_cald (D := (dC, dI)) hx hb hK r6 a 2 (g_w_arr r5.2.1 h1) rfl h2 hd (h3 p l e s m args below meth c dC dI dA τ A n0 ρ0 Q F hfl hX ρ Hr locs ls ⟨r1, r2, r3, r4, ⟨trivial, r5.2.2⟩, r6, r7, r8, r9⟩)
theorem gG_zald {a : Nat} {i : Int32} (hd : decode M.2.1 pc = .ok (.baload, 1)) (h : g_al 3 H a i (fun x => gG d M Rc Rs X (pc + 1) n H L (.int x :: st) kc ks)) : gG d M Rc Rs X pc n H L (.int i :: .ref a :: st) kc ks := by
  obtain ⟨m1, f, h1, h2, h3⟩ := h
  intro p l e s m args below meth c dC dI dA τ A n0 ρ0 Q F hfl hX ρ Hr locs ls hR
  obtain ⟨r1, r2, r3, r4, r5, r6, r7, r8, r9⟩ := id hR
  obtain ⟨hx, hb, hml, hr, hown, hts, hlk, hnm, hK, hA, hN, hE, hτ0, hS⟩ := id F
  exact va_zald (D := (dC, dI)) hx hb hK r6 a 3 (g_w_arr r5.2.1 h1) rfl h2 hd (h3 p l e s m args below meth c dC dI dA τ A n0 ρ0 Q F hfl hX ρ Hr locs ls ⟨r1, r2, r3, r4, ⟨trivial, r5.2.2⟩, r6, r7, r8, r9⟩)
theorem gG_iast {a : Nat} {i x : Int32} (hd : decode M.2.1 pc = .ok (.iastore, 1)) (h : g_as 0 H a i x (fun H => gG d M Rc Rs X (pc + 1) n H L st kc ks)) : gG d M Rc Rs X pc n H L (.int x :: .int i :: .ref a :: st) kc ks := by
  obtain ⟨m1, f, h1, h2, h3⟩ := h
  intro p l e s m args below meth c dC dI dA τ A n0 ρ0 Q F hfl hX ρ Hr locs ls hR
  obtain ⟨r1, r2, r3, r4, r5, r6, r7, r8, r9⟩ := id hR
  obtain ⟨hx, hb, hml, hr, hown, hts, hlk, hnm, hK, hA, hN, hE, hτ0, hS⟩ := id F
  have ha : a < n := r5.2.2.1
  refine va_iast (D := (dC, dI)) hx hb hK r6 r7 r8 a 0 (g_w_arr ha h1) rfl h2 hd (fun H1 locs1 q1 q2 q3 => ?_)
  have e1 : (g_w ρ τ dA n H).set a (ρ a, .inl (dA 0, m1, .inl (upd f i.toNatClampNeg x))) = g_w ρ τ dA n (va_up H a (.inl (0, m1, .inl (upd f i.toNatClampNeg x)))) := g_w_set (c := .inl (0, m1, .inl (upd f i.toNatClampNeg x))) ha
  rw [e1] at q1 q2
  exact h3 p l e s m args below meth c dC dI dA τ A n0 ρ0 Q F hfl hX ρ H1 locs1 ls ⟨r1, r2, g_oH_up r3 trivial, r4, r5.2.2.2, q1, q2, q3, r9⟩
theorem gG_cast {a : Nat} {i x : Int32} (hd : decode M.2.1 pc = .ok (.castore, 1)) (h : g_as 2 H a i (vp_nar .char x) (fun H => gG d M Rc Rs X (pc + 1) n H L st kc ks)) : gG d M Rc Rs X pc n H L (.int x :: .int i :: .ref a :: st) kc ks := by
  obtain ⟨m1, f, h1, h2, h3⟩ := h
  intro p l e s m args below meth c dC dI dA τ A n0 ρ0 Q F hfl hX ρ Hr locs ls hR
  obtain ⟨r1, r2, r3, r4, r5, r6, r7, r8, r9⟩ := id hR
  obtain ⟨hx, hb, hml, hr, hown, hts, hlk, hnm, hK, hA, hN, hE, hτ0, hS⟩ := id F
  have ha : a < n := r5.2.2.1
  refine va_cast (D := (dC, dI)) hx hb hK r6 r7 r8 a 2 (g_w_arr ha h1) rfl h2 hd (fun H1 locs1 q1 q2 q3 => ?_)
  have e1 : (g_w ρ τ dA n H).set a (ρ a, .inl (dA 2, m1, .inl (upd f i.toNatClampNeg (vp_nar .char x)))) = g_w ρ τ dA n (va_up H a (.inl (2, m1, .inl (upd f i.toNatClampNeg (vp_nar .char x))))) := g_w_set (c := .inl (2, m1, .inl (upd f i.toNatClampNeg (vp_nar .char x)))) ha
  rw [e1] at q1 q2
  exact h3 p l e s m args below meth c dC dI dA τ A n0 ρ0 Q F hfl hX ρ H1 locs1 ls ⟨r1, r2, g_oH_up r3 trivial, r4, r5.2.2.2, q1, q2, q3, r9⟩
theorem gG_zast {a : Nat} {i x : Int32} (hd : decode M.2.1 pc = .ok (.bastore, 1)) (h : g_as 3 H a i (vp_nar .boolean x) (fun H => gG d M Rc Rs X (pc + 1) n H L st kc ks)) : gG d M Rc Rs X pc n H L (.int x :: .int i :: .ref a :: st) kc ks := by
  obtain ⟨m1, f, h1, h2, h3⟩ := h
  intro p l e s m args below meth c dC dI dA τ A n0 ρ0 Q F hfl hX ρ Hr locs ls hR
  obtain ⟨r1, r2, r3, r4, r5, r6, r7, r8, r9⟩ := id hR
  obtain ⟨hx, hb, hml, hr, hown, hts, hlk, hnm, hK, hA, hN, hE, hτ0, hS⟩ := id F
  have ha : a < n := r5.2.2.1
  refine va_zast (D := (dC, dI)) hx hb hK r6 r7 r8 a 3 (g_w_arr ha h1) rfl h2 hd (fun H1 locs1 q1 q2 q3 => ?_)
  have e1 : (g_w ρ τ dA n H).set a (ρ a, .inl (dA 3, m1, .inl (upd f i.toNatClampNeg (vp_nar .boolean x)))) = g_w ρ τ dA n (va_up H a (.inl (3, m1, .inl (upd f i.toNatClampNeg (vp_nar .boolean x))))) := g_w_set (c := .inl (3, m1, .inl (upd f i.toNatClampNeg (vp_nar .boolean x)))) ha
  rw [e1] at q1 q2
  exact h3 p l e s m args below meth c dC dI dA τ A n0 ρ0 Q F hfl hX ρ H1 locs1 ls ⟨r1, r2, g_oH_up r3 trivial, r4, r5.2.2.2, q1, q2, q3, r9⟩
theorem gG_lald {a : Nat} {i : Int32} (hd : decode M.2.1 pc = .ok (.laload, 1)) (h : g_ll H a i (fun x => gG d M Rc Rs X (pc + 1) n H L (.long x :: st) kc ks)) : gG d M Rc Rs X pc n H L (.int i :: .ref a :: st) kc ks := by
  obtain ⟨m1, f, h1, h2, h3⟩ := h
  intro p l e s m args below meth c dC dI dA τ A n0 ρ0 Q F hfl hX ρ Hr locs ls hR
  obtain ⟨r1, r2, r3, r4, r5, r6, r7, r8, r9⟩ := id hR
  obtain ⟨hx, hb, hml, hr, hown, hts, hlk, hnm, hK, hA, hN, hE, hτ0, hS⟩ := id F
  exact va_lald (D := (dC, dI)) hx hb hK r6 a 1 (g_w_arrL r5.2.1 h1) rfl h2 hd (h3 p l e s m args below meth c dC dI dA τ A n0 ρ0 Q F hfl hX ρ Hr locs ls ⟨r1, r2, r3, r4, ⟨trivial, r5.2.2⟩, r6, r7, r8, r9⟩)
theorem gG_last {a : Nat} {i : Int32} {x : Int64} (hd : decode M.2.1 pc = .ok (.lastore, 1)) (h : g_lst H a i x (fun H => gG d M Rc Rs X (pc + 1) n H L st kc ks)) : gG d M Rc Rs X pc n H L (.long x :: .int i :: .ref a :: st) kc ks := by
  obtain ⟨m1, f, h1, h2, h3⟩ := h
  intro p l e s m args below meth c dC dI dA τ A n0 ρ0 Q F hfl hX ρ Hr locs ls hR
  obtain ⟨r1, r2, r3, r4, r5, r6, r7, r8, r9⟩ := id hR
  obtain ⟨hx, hb, hml, hr, hown, hts, hlk, hnm, hK, hA, hN, hE, hτ0, hS⟩ := id F
  have ha : a < n := r5.2.2.1
  refine va_last (D := (dC, dI)) hx hb hK r6 r7 r8 a 1 (g_w_arrL ha h1) rfl h2 hd (fun H1 locs1 q1 q2 q3 => ?_)
  have e1 : (g_w ρ τ dA n H).set a (ρ a, .inl (dA 1, m1, .inr (.inl (vp_updL f i.toNatClampNeg x)))) = g_w ρ τ dA n (va_up H a (.inl (1, m1, .inr (.inl (vp_updL f i.toNatClampNeg x))))) := g_w_set (c := .inl (1, m1, .inr (.inl (vp_updL f i.toNatClampNeg x)))) ha
  rw [e1] at q1 q2
  exact h3 p l e s m args below meth c dC dI dA τ A n0 ρ0 Q F hfl hX ρ H1 locs1 ls ⟨r1, r2, g_oH_up r3 trivial, r4, r5.2.2.2, q1, q2, q3, r9⟩
theorem gG_aald {t a : Nat} {i : Int32} (ht : t = 4 ∨ t = 5) (hd : decode M.2.1 pc = .ok (.aaload, 1)) (h : g_rl t H a i (fun x => gG d M Rc Rs X (pc + 1) n H L (.ref x :: st) kc ks)) : gG d M Rc Rs X pc n H L (.int i :: .ref a :: st) kc ks := by
  obtain ⟨m1, f, k, h1, h2, h4, h3⟩ := h
  intro p l e s m args below meth c dC dI dA τ A n0 ρ0 Q F hfl hX ρ Hr locs ls hR
  obtain ⟨r1, r2, r3, r4, r5, r6, r7, r8, r9⟩ := id hR
  obtain ⟨hx, hb, hml, hr, hown, hts, hlk, hnm, hK, hA, hN, hE, hτ0, hS⟩ := id F
  have hk : k < n := (h1 ▸ r3 a r5.2.1 : g_oE n (.inl (t, m1, .inr (.inr (.inr (.inr f)))))) _ _ h4
  have hgo := h3 p l e s m args below meth c dC dI dA τ A n0 ρ0 Q F hfl hX ρ Hr locs ls ⟨r1, r2, r3, r4, ⟨hk, r5.2.2⟩, r6, r7, r8, r9⟩
  have e2 : va_rf ((fun j => (f j).map ρ) i.toNatClampNeg) = .ref (ρ k) := by simp only [h4]; rfl
  rcases ht with rfl | rfl
  · exact va_aldq (D := (dC, dI)) hx hb hK r6 a 4 (C := RX9) (g_w_arrQ r5.2.1 h1) rfl h2 hd (by rw [e2]; exact hgo)
  · exact va_aldq (D := (dC, dI)) hx hb hK r6 a 5 (C := RX6) (g_w_arrQ r5.2.1 h1) rfl h2 hd (by rw [e2]; exact hgo)
/-- tokens off the locals -/
theorem gG_aload_nT {j : Fin 4} {i : Nat} {t : UInt32} (hd : decode M.2.1 pc = .ok (.aload_n j, 1)) (hi : (j : Nat) = i) (hl : g_lk L i = some (.float t)) (h : gG d M Rc Rs X (pc + 1) n H L (.float t :: st) kc ks) : gG d M Rc Rs X pc n H L st kc ks := by
  intro p l e s m args below meth c dC dI dA τ A n0 ρ0 Q F hfl hX ρ Hr locs ls hR
  obtain ⟨r1, r2, r3, r4, r5, r6, r7, r8, r9⟩ := id hR
  obtain ⟨hx, hb, hml, hr, hown, hts, hlk, hnm, hK, hA, hN, hE, hτ0, hS⟩ := id F
  have hgo := h p l e s m args below meth c dC dI dA τ A n0 ρ0 Q F hfl hX ρ Hr locs ls ⟨r1, r2, r3, r4, ⟨trivial, r5⟩, r6, r7, r8, r9⟩
  have hv := g_has_at r9 hl
  have e1 : g_cv ρ τ (.float t) = τ t.toNat := rfl
  have hgo : W p l e (g_rm d Rc Rs) s m args below meth c Hr locs kc ks Q (F0 m (pc + 1) ls (τ t.toNat :: st.map (g_cv ρ τ))) := hgo
  rw [e1] at hv
  rcases hτ0 t.toNat with z | ⟨a, z⟩
  · rw [z] at hv hgo
    exact lv_aload_nN hx hb hd hi hv hgo
  · rw [z] at hv hgo
    exact lv_aload_n hx hb hd hi hv hgo
/-- Math.min, Math.max, System.arraycopy of ints -/
theorem gG_min {idx : Nat} {x y : Int32} (hd : decode M.2.1 pc = .ok (.invokestatic idx, 3)) (hl : Cond.methodLink M.1.cls idx Lib.Math.min.name ∈ g_T) (h2 : Cond.static Lib.Math.min.name ∈ g_T) (h3 : Cond.initialized "java/lang/Math" ∈ g_T) (h4 : Cond.code Lib.Math.min.name Lib.Math.min.code 2 (some .int) ∈ g_T) (hd1 : 1 ≤ d) (hcat : (st.map fun v => v.category).sum ≤ 8) (hc : kc ≤ Rc) (hs : ks ≤ Rs)
    (h : gG d M Rc Rs X (pc + 3) n H L (.int (if y < x then y else x) :: st) kc ks) : gG d M Rc Rs X pc n H L (.int y :: .int x :: st) kc ks := by
  intro p l e s m args below meth c dC dI dA τ A n0 ρ0 Q F hfl hX ρ Hr locs ls hR
  obtain ⟨r1, r2, r3, r4, r5, r6, r7, r8, r9⟩ := id hR
  obtain ⟨hx, hb, hml, hr, hown, hts, hlk, hnm, hK, hA, hN, hE, hτ0, hS⟩ := id F
  have e1 := g_cats (ρ := ρ) hτ0 st
  exact va_mmin hx hb (by rw [hml]; exact r9.1.symm) hown (hts _ hl) (hts _ h2) (hts _ h3) (hts _ h4) hd1 (by rw [e1]; show _ ≤ 64 * d; omega) hc hs hd (h p l e s m args below meth c dC dI dA τ A n0 ρ0 Q F hfl hX ρ Hr locs ls ⟨r1, r2, r3, r4, ⟨trivial, r5.2.2⟩, r6, r7, r8, r9⟩)
theorem gG_max {idx : Nat} {x y : Int32} (hd : decode M.2.1 pc = .ok (.invokestatic idx, 3)) (hl : Cond.methodLink M.1.cls idx Lib.Math.max.name ∈ g_T) (h2 : Cond.static Lib.Math.max.name ∈ g_T) (h3 : Cond.initialized "java/lang/Math" ∈ g_T) (h4 : Cond.code Lib.Math.max.name Lib.Math.max.code 2 (some .int) ∈ g_T) (hd1 : 1 ≤ d) (hcat : (st.map fun v => v.category).sum ≤ 8) (hc : kc ≤ Rc) (hs : ks ≤ Rs)
    (h : gG d M Rc Rs X (pc + 3) n H L (.int (if x < y then y else x) :: st) kc ks) : gG d M Rc Rs X pc n H L (.int y :: .int x :: st) kc ks := by
  intro p l e s m args below meth c dC dI dA τ A n0 ρ0 Q F hfl hX ρ Hr locs ls hR
  obtain ⟨r1, r2, r3, r4, r5, r6, r7, r8, r9⟩ := id hR
  obtain ⟨hx, hb, hml, hr, hown, hts, hlk, hnm, hK, hA, hN, hE, hτ0, hS⟩ := id F
  have e1 := g_cats (ρ := ρ) hτ0 st
  exact va_mmax hx hb (by rw [hml]; exact r9.1.symm) hown (hts _ hl) (hts _ h2) (hts _ h3) (hts _ h4) hd1 (by rw [e1]; show _ ≤ 64 * d; omega) hc hs hd (h p l e s m args below meth c dC dI dA τ A n0 ρ0 Q F hfl hX ρ Hr locs ls ⟨r1, r2, r3, r4, ⟨trivial, r5.2.2⟩, r6, r7, r8, r9⟩)
end GH
