/-! HEAP AND CALLS -/
/-- the link to field k (of type ty) of the ci-th class, by an entry of own's pool -/
def g_FL (own : String) (idx ci k : Nat) (ty : FieldType) (fin : Bool) : Prop :=
  ∃ (C : String) (T : u_T) (N : Nat) (ty0 : Nat → FieldType), g_cl[ci]? = some (C, T, N) ∧ (∀ w ∈ u_ws C T N, w ∈ g_T) ∧ k < N ∧ (∀ k, k < N → parseFieldDescriptor (T k).2.2.1 = some (ty0 k)) ∧ (∀ a, a < N → ∀ b, b < N → a ≠ b → (T a).2.1 ≠ (T b).2.1) ∧ ty0 k = ty ∧ (T k).1 = C ∧ (T k).2.2.2 = fin ∧
    (Cond.fieldLink own idx C (T k).2.1 (T k).2.2.1 ∈ g_T ∨ ∃ host, Cond.fieldLinkNest own idx C (T k).2.1 (T k).2.2.1 host ∈ g_N)
theorem g_w_obj {ρ : Nat → Nat} {τ : Nat → Value} {dA : Nat → ClassId} {n : Nat} {H : gHp} {a ci : Nat} {fs : List Value} (h : a < n) (he : H a = .inr (ci, fs)) : (g_w ρ τ dA n H)[a]? = some (ρ a, .inr (ci, fs.map (g_cv ρ τ))) := by
  rw [g_w_get h, he]; rfl
theorem g_w_put {ρ : Nat → Nat} {τ : Nat → Value} {dA : Nat → ClassId} {n : Nat} {H : gHp} {a ci k : Nat} {fs : List Value} {v : Value} (h : a < n) : (g_w ρ τ dA n H).set a (ρ a, .inr (ci, (fs.map (g_cv ρ τ)).set k (g_cv ρ τ v))) = g_w ρ τ dA n (va_up H a (.inr (ci, fs.set k v))) := by
  rw [← g_w_set h, ← List.map_set]; rfl
theorem g_oE_get {n ci k : Nat} {fs : List Value} {v : Value} (h : g_oE n (.inr (ci, fs))) (hv : fs[k]? = some v) : g_ov n v := h v (List.mem_of_getElem? hv)
theorem g_oE_set {n ci k : Nat} {fs : List Value} {v : Value} (h : g_oE n (.inr (ci, fs))) (hv : g_ov n v) : g_oE n (.inr (ci, fs.set k v)) := by
  intro u hu
  rcases List.mem_or_eq_of_mem_set hu with h1 | h1
  · exact h u h1
  · rw [h1]; exact hv
section GH
variable {d : Nat} {M : gMD} {Rc Rs : Nat} {X : gX} {pc n : Nat} {H : gHp} {L : List (Option Value)} {st : List Value} {kc ks : Nat}
theorem gG_get {idx ci k a : Nat} {ty : FieldType} {fin : Bool} {fs : List Value} {v : Value} (hd : decode M.2.1 pc = .ok (.getfield idx, 3)) (hl : g_FL M.1.cls idx ci k ty fin) (he : H a = .inr (ci, fs)) (hv : fs[k]? = some v) (h : gG d M Rc Rs X (pc + 3) n H L (v :: st) kc ks) : gG d M Rc Rs X pc n H L (.ref a :: st) kc ks := by
  intro p l e s m args below meth c dC dI dA τ A n0 ρ0 Q F hfl hX ρ Hr locs ls hR
  obtain ⟨r1, r2, r3, r4, r5, r6, r7, r8, r9⟩ := id hR
  obtain ⟨hx, hb, hml, hr, hown, hts, hlk, hnm, hK, hA, hN, hE, hτ0, hS⟩ := id F
  have ha : a < n := r5.1
  have hgo := h p l e s m args below meth c dC dI dA τ A n0 ρ0 Q F hfl hX ρ Hr locs ls ⟨r1, r2, r3, r4, ⟨g_oE_get (he ▸ r3 a ha) hv, r5.2⟩, r6, r7, r8, r9⟩
  have hv' : (fs.map (g_cv ρ τ))[k]? = some (g_cv ρ τ v) := by rw [List.getElem?_map, hv]; rfl
  obtain ⟨C, T, N, ty0, e1, e2, e3, e4, e5, e6, e7, e8, hl | ⟨host, hl⟩⟩ := hl
  · exact va_get (D := (dC, dI)) (ref := C) hx hb hts e2 hown hK r6 a (g_w_obj ha he) e1 k e3 (hts _ hl) (fun _ h9 => by rw [e7] at h9; exact h9) hv' hd hgo
  · exact va_getN (D := (dC, dI)) (ref := C) (host := host) hx hb hts e2 hown hK r6 a (g_w_obj ha he) e1 k e3 (va_Nw.use rfl (hN.1 _ hl)) (fun _ h9 => by rw [e7] at h9; exact h9) hv' hd hgo
theorem gG_putv {idx ci k a : Nat} {ty : FieldType} {fin : Bool} {fs : List Value} {v : Value} (hd : decode M.2.1 pc = .ok (.putfield idx, 3)) (hl : g_FL M.1.cls idx ci k ty fin) (hfin : fin = false ∨ (M.1.name = "<init>" ∧ ∃ C T N, g_cl[ci]? = some (C, T, N) ∧ C = M.1.cls))
    (hn : ∀ (ρ : Nat → Nat) (τ : Nat → Value), narrow ty (g_cv ρ τ v) = g_cv ρ τ v) (hf : ∀ (ρ : Nat → Nat) (τ : Nat → Value), fits ty (g_cv ρ τ v) = true) (he : H a = .inr (ci, fs)) (hk : k < fs.length)
    (h : gG d M Rc Rs X (pc + 3) n (va_up H a (.inr (ci, fs.set k v))) L st kc ks) : gG d M Rc Rs X pc n H L (v :: .ref a :: st) kc ks := by
  intro p l e s m args below meth c dC dI dA τ A n0 ρ0 Q F hfl hX ρ Hr locs ls hR
  obtain ⟨r1, r2, r3, r4, r5, r6, r7, r8, r9⟩ := id hR
  obtain ⟨hx, hb, hml, hr, hown, hts, hlk, hnm, hK, hA, hN, hE, hτ0, hS⟩ := id F
  have ha : a < n := r5.2.1
  have hgo : ∀ (H1 : Heap) (locs1 : List Loc), va_P (dC, dI) g_cl ((g_w ρ τ dA n H).set a (ρ a, .inr (ci, (fs.map (g_cv ρ τ)).set k (g_cv ρ τ v)))) H1 → va_D A ((g_w ρ τ dA n H).set a (ρ a, .inr (ci, (fs.map (g_cv ρ τ)).set k (g_cv ρ τ v)))) → va_S A s.heap H1 locs1 → W p l e (g_rm d Rc Rs) s m args below meth c H1 locs1 kc ks Q (F0 m (pc + 3) ls (st.map (g_cv ρ τ))) := by
    intro H1 locs1 q1 q2 q3
    rw [g_w_put ha] at q1 q2
    exact h p l e s m args below meth c dC dI dA τ A n0 ρ0 Q F hfl hX ρ H1 locs1 ls ⟨r1, r2, g_oH_up r3 (g_oE_set (he ▸ r3 a ha) r5.1), r4, r5.2.2, q1, q2, q3, r9⟩
  have hk' : k < (fs.map (g_cv ρ τ)).length := by rw [List.length_map]; exact hk
  obtain ⟨C, T, N, ty0, e1, e2, e3, e4, e5, e6, e7, e8, hl | ⟨host, hl⟩⟩ := hl
  · rcases hfin with hf0 | ⟨hi, C', T', N', f1, f2⟩
    · exact va_put (D := (dC, dI)) (ref := C) (ty := ty) hx hb hts e2 ty0 e4 e5 hown hK r6 r7 r8 a (g_w_obj ha he) e1 k e3 (hts _ hl) (fun _ h9 => by rw [e7] at h9; exact h9) (by rw [e8, hf0]) (by rw [e4 k e3, e6]) (hn ρ τ) (hf ρ τ) hk' hd hgo
    · rw [e1] at f1
      cases f1
      cases hfb : fin with
      | false => exact va_put (D := (dC, dI)) (ref := C) (ty := ty) hx hb hts e2 ty0 e4 e5 hown hK r6 r7 r8 a (g_w_obj ha he) e1 k e3 (hts _ hl) (fun _ h9 => by rw [e7] at h9; exact h9) (by rw [e8, hfb]) (by rw [e4 k e3, e6]) (hn ρ τ) (hf ρ τ) hk' hd hgo
      | true => exact va_putF (D := (dC, dI)) (ref := C) (ty := ty) hx hb hts e2 ty0 e4 e5 hown hK r6 r7 r8 a (g_w_obj ha he) e1 k e3 (hts _ hl) (fun _ h9 => by rw [e7] at h9; exact h9) (by rw [e8, hfb]) (by rw [hnm, hi]) (by rw [e7, f2]) (by rw [e4 k e3, e6]) (hn ρ τ) (hf ρ τ) hk' hd hgo
  · rcases hfin with hf0 | ⟨hi, C', T', N', f1, f2⟩
    · exact va_putN (D := (dC, dI)) (ref := C) (host := host) (ty := ty) hx hb hts e2 ty0 e4 e5 hown hK r6 r7 r8 a (g_w_obj ha he) e1 k e3 (va_Nw.use rfl (hN.1 _ hl)) (fun _ h9 => by rw [e7] at h9; exact h9) (by rw [e8, hf0]) (by rw [e4 k e3, e6]) (hn ρ τ) (hf ρ τ) hk' hd hgo
    · cases hfb : fin with
      | false => exact va_putN (D := (dC, dI)) (ref := C) (host := host) (ty := ty) hx hb hts e2 ty0 e4 e5 hown hK r6 r7 r8 a (g_w_obj ha he) e1 k e3 (va_Nw.use rfl (hN.1 _ hl)) (fun _ h9 => by rw [e7] at h9; exact h9) (by rw [e8, hfb]) (by rw [e4 k e3, e6]) (hn ρ τ) (hf ρ τ) hk' hd hgo
      | true => sorry
end GH
