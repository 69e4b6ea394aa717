/-! THE ABSTRACT MACHINE: a heap of numbered cells (a cell's number is its place in the world), values as the machine's with .ref k the k-th cell and .float t the token t (a text constant, a static, the script) -/
abbrev gHp : Type := Nat → va_E
/-- a method: name, bytes, locals, return; the script (the law alone) -/
abbrev gMD : Type := MethodName × ByteArray × Nat × Option FieldType × Option (Nat × (Nat → Int32))
def g_cv (ρ : Nat → Nat) (τ : Nat → Value) (v : Value) : Value := match v with
  | .ref k => .ref (ρ k)
  | .float k => τ k.toNat
  | .int x => .int x
  | .long x => .long x
  | .double x => .double x
  | .null => .null
  | .retAddr x => .retAddr x
def g_cE (ρ : Nat → Nat) (τ : Nat → Value) (dA : Nat → ClassId) (e : va_E) : va_E := match e with
  | .inl (t, n, .inl f) => .inl (dA t, n, .inl f)
  | .inl (t, n, .inr (.inl f)) => .inl (dA t, n, .inr (.inl f))
  | .inl (t, n, .inr (.inr (.inl f))) => .inl (dA t, n, .inr (.inr (.inl f)))
  | .inl (t, n, .inr (.inr (.inr (.inl f)))) => .inl (dA t, n, .inr (.inr (.inr (.inl f))))
  | .inl (t, n, .inr (.inr (.inr (.inr f)))) => .inl (dA t, n, .inr (.inr (.inr (.inr (fun j => (f j).map ρ)))))
  | .inr (ci, fs) => .inr (ci, fs.map (g_cv ρ τ))
def g_w (ρ : Nat → Nat) (τ : Nat → Value) (dA : Nat → ClassId) (n : Nat) (H : gHp) : va_W := (List.range n).map (fun k => (ρ k, g_cE ρ τ dA (H k)))
theorem g_w_get {ρ : Nat → Nat} {τ : Nat → Value} {dA : Nat → ClassId} {n : Nat} {H : gHp} {k : Nat} (h : k < n) : (g_w ρ τ dA n H)[k]? = some (ρ k, g_cE ρ τ dA (H k)) := by
  simp [g_w, h]
theorem g_w_len {ρ : Nat → Nat} {τ : Nat → Value} {dA : Nat → ClassId} {n : Nat} {H : gHp} : (g_w ρ τ dA n H).length = n := by
  simp [g_w]
theorem g_w_set {ρ : Nat → Nat} {τ : Nat → Value} {dA : Nat → ClassId} {n : Nat} {H : gHp} {k : Nat} {c : va_E} (h : k < n) : (g_w ρ τ dA n H).set k (ρ k, g_cE ρ τ dA c) = g_w ρ τ dA n (va_up H k c) := by
  apply List.ext_getElem?
  intro j
  by_cases hj : j = k
  · subst hj
    rw [List.getElem?_set_self (by rw [g_w_len]; exact h), g_w_get h]
    simp [va_up]
  · rw [List.getElem?_set_ne (Ne.symm hj)]
    by_cases hn : j < n
    · rw [g_w_get hn, g_w_get hn]
      simp [va_up, hj]
    · rw [List.getElem?_eq_none (by rw [g_w_len]; omega), List.getElem?_eq_none (by rw [g_w_len]; omega)]
/-! closed: no reference to a cell that isn't there -/
def g_ov (n : Nat) (v : Value) : Prop := match v with
  | .ref k => k < n
  | _ => True
def g_oE (n : Nat) (e : va_E) : Prop := match e with
  | .inl (_, _, .inr (.inr (.inr (.inr f)))) => ∀ j k, f j = some k → k < n
  | .inl _ => True
  | .inr (_, fs) => ∀ v ∈ fs, g_ov n v
def g_oH (n : Nat) (H : gHp) : Prop := ∀ k, k < n → g_oE n (H k)
def g_oS (n : Nat) : List Value → Prop
  | [] => True
  | v :: st => g_ov n v ∧ g_oS n st
def g_oL (n : Nat) : List (Option Value) → Prop
  | [] => True
  | none :: L => g_oL n L
  | some v :: L => g_ov n v ∧ g_oL n L
theorem g_ov_mono {n n' : Nat} (h : n ≤ n') {v : Value} (hv : g_ov n v) : g_ov n' v := by
  cases v <;> first | exact trivial | exact Nat.lt_of_lt_of_le hv h
theorem g_oS_mono {n n' : Nat} (h : n ≤ n') : ∀ {st : List Value}, g_oS n st → g_oS n' st
  | [], _ => trivial
  | _ :: _, hs => ⟨g_ov_mono h hs.1, g_oS_mono h hs.2⟩
theorem g_oL_mono {n n' : Nat} (h : n ≤ n') : ∀ {L : List (Option Value)}, g_oL n L → g_oL n' L
  | [], _ => trivial
  | none :: L, hs => g_oL_mono (L := L) h hs
  | some _ :: _, hs => ⟨g_ov_mono h hs.1, g_oL_mono h hs.2⟩
theorem g_oE_mono {n n' : Nat} (h : n ≤ n') {e : va_E} (he : g_oE n e) : g_oE n' e := by
  rcases e with ⟨t, k, f | f | f | f | f⟩ | ⟨ci, fs⟩
  · exact trivial
  · exact trivial
  · exact trivial
  · exact trivial
  · exact fun j k hk => Nat.lt_of_lt_of_le (he j k hk) h
  · exact fun v hv => g_ov_mono h (he v hv)
theorem g_oH_mono {n : Nat} {H : gHp} (h : g_oH n H) {c : va_E} (hc : g_oE (n + 1) c) : g_oH (n + 1) (va_up H n c) := by
  intro k hk
  by_cases e : k = n
  · subst e; simp only [va_up]; exact hc
  · simp only [va_up, if_neg e]; exact g_oE_mono (Nat.le_succ n) (h k (by omega))
theorem g_oH_up {n : Nat} {H : gHp} (h : g_oH n H) {a : Nat} {c : va_E} (hc : g_oE n c) : g_oH n (va_up H a c) := by
  intro k hk
  by_cases e : k = a
  · subst e; simp only [va_up]; exact hc
  · simp only [va_up, if_neg e]; exact h k hk
theorem g_cv_ext {n : Nat} {ρ ρ' : Nat → Nat} {τ : Nat → Value} (h : ∀ k, k < n → ρ' k = ρ k) {v : Value} (hv : g_ov n v) : g_cv ρ' τ v = g_cv ρ τ v := by
  cases v <;> first | rfl | (simp only [g_cv]; rw [h _ hv])
theorem g_cE_ext {n : Nat} {ρ ρ' : Nat → Nat} {τ : Nat → Value} {dA : Nat → ClassId} (h : ∀ k, k < n → ρ' k = ρ k) {e : va_E} (he : g_oE n e) : g_cE ρ' τ dA e = g_cE ρ τ dA e := by
  rcases e with ⟨t, k, f | f | f | f | f⟩ | ⟨ci, fs⟩
  · rfl
  · rfl
  · rfl
  · rfl
  · have e1 : (fun j => (f j).map ρ') = (fun j => (f j).map ρ) := by
      funext j
      cases hj : f j with
      | none => rfl
      | some k => simp [h k (he j k hj)]
    simp only [g_cE, e1]
  · have e1 : fs.map (g_cv ρ' τ) = fs.map (g_cv ρ τ) := List.map_congr_left (fun v hv => g_cv_ext h (he v hv))
    simp only [g_cE, e1]
theorem g_map_ext {n : Nat} {ρ ρ' : Nat → Nat} {τ : Nat → Value} (h : ∀ k, k < n → ρ' k = ρ k) : ∀ {st : List Value}, g_oS n st → st.map (g_cv ρ' τ) = st.map (g_cv ρ τ)
  | [], _ => rfl
  | v :: st, hs => by rw [List.map_cons, List.map_cons, g_cv_ext h hs.1, g_map_ext h hs.2]
theorem g_w_push {ρ : Nat → Nat} {τ : Nat → Value} {dA : Nat → ClassId} {n : Nat} {H : gHp} {q : Nat} {c : va_E} (h : g_oH n H) : g_w ρ τ dA n H ++ [(q, g_cE (va_up ρ n q) τ dA c)] = g_w (va_up ρ n q) τ dA (n + 1) (va_up H n c) := by
  have e : ∀ k, k < n → va_up ρ n q k = ρ k := fun k hk => by simp [va_up, Nat.ne_of_lt hk]
  apply List.ext_getElem?
  intro j
  by_cases hj : j < n
  · rw [List.getElem?_append_left (by rw [g_w_len]; exact hj), g_w_get hj, g_w_get (by omega), e j hj]
    simp only [va_up, if_neg (Nat.ne_of_lt hj)]
    rw [g_cE_ext e (h j hj)]
  · by_cases hj2 : j = n
    · subst hj2
      rw [List.getElem?_append_right (by rw [g_w_len]; exact Nat.le_refl _), g_w_get (by omega), g_w_len]
      simp [va_up]
    · rw [List.getElem?_eq_none (by simp [g_w_len]; omega), List.getElem?_eq_none (by rw [g_w_len]; omega)]
/-! locals -/
def g_L (ρ : Nat → Nat) (τ : Nat → Value) : List (Option Value) → Nat → List (Nat × Value)
  | [], _ => []
  | none :: L, i => g_L ρ τ L (i + 1)
  | some v :: L, i => (i, g_cv ρ τ v) :: g_L ρ τ L (i + 1)
def g_lk : List (Option Value) → Nat → Option Value
  | [], _ => none
  | a :: _, 0 => a
  | _ :: L, i + 1 => g_lk L i
def g_kl (a : Option Value) : Option Value := match a with
  | some (.long _) => none
  | some (.double _) => none
  | some (.float x) => some (.float x)
  | some (.int x) => some (.int x)
  | some (.ref x) => some (.ref x)
  | some .null => some .null
  | some (.retAddr x) => some (.retAddr x)
  | none => none
def g_st : List (Option Value) → Nat → Value → List (Option Value)
  | [], _, _ => []
  | _ :: L, 0, v => some v :: L
  | a :: L, 1, v => g_kl a :: g_st L 0 v
  | a :: L, i + 2, v => a :: g_st L (i + 1) v
def g_un : List (Option Value) → Nat → List (Option Value)
  | [], _ => []
  | _ :: L, 0 => none :: L
  | a :: L, i + 1 => a :: g_un L i
/-- fewer locals -/
def g_le : List (Option Value) → List (Option Value) → Prop
  | [], [] => True
  | none :: L', _ :: L => g_le L' L
  | some v :: L', some w :: L => v = w ∧ g_le L' L
  | _, _ => False
theorem g_L_lk {ρ : Nat → Nat} {τ : Nat → Value} : ∀ {L : List (Option Value)} {i j : Nat} {v : Value}, g_lk L i = some v → (j + i, g_cv ρ τ v) ∈ g_L ρ τ L j
  | [], i, j, v, h => by simp [g_lk] at h
  | some a :: L, 0, j, v, h => by simp only [g_lk, Option.some.injEq] at h; subst h; exact List.mem_cons_self
  | none :: L, 0, j, v, h => by simp [g_lk] at h
  | none :: L, i + 1, j, v, h => by
    have h1 := g_L_lk (ρ := ρ) (τ := τ) (L := L) (i := i) (j := j + 1) (v := v) h
    rw [show j + (i + 1) = j + 1 + i by omega]
    exact h1
  | some a :: L, i + 1, j, v, h => by
    have h1 := g_L_lk (ρ := ρ) (τ := τ) (L := L) (i := i) (j := j + 1) (v := v) h
    rw [show j + (i + 1) = j + 1 + i by omega]
    exact List.mem_cons_of_mem _ h1
theorem g_L_ge {ρ : Nat → Nat} {τ : Nat → Value} : ∀ {L : List (Option Value)} {j : Nat} {q : Nat × Value}, q ∈ g_L ρ τ L j → j ≤ q.1
  | [], j, q, h => by simp [g_L] at h
  | none :: L, j, q, h => Nat.le_of_succ_le (g_L_ge (L := L) h)
  | some a :: L, j, q, h => by
    rcases List.mem_cons.mp h with h | h
    · subst h; exact Nat.le_refl _
    · exact Nat.le_of_succ_le (g_L_ge (L := L) h)
theorem g_L_le {ρ : Nat → Nat} {τ : Nat → Value} : ∀ {L' L : List (Option Value)} {j : Nat} {q : Nat × Value}, g_le L' L → q ∈ g_L ρ τ L' j → q ∈ g_L ρ τ L j
  | [], L, j, q, _, h => by simp [g_L] at h
  | none :: L', [], j, q, hl, h => hl.elim
  | some a :: L', [], j, q, hl, h => hl.elim
  | none :: L', none :: L, j, q, hl, h => g_L_le (L' := L') (L := L) hl h
  | none :: L', some b :: L, j, q, hl, h => List.mem_cons_of_mem _ (g_L_le (L' := L') (L := L) hl h)
  | some a :: L', none :: L, j, q, hl, h => hl.elim
  | some a :: L', some b :: L, j, q, hl, h => by
    obtain ⟨rfl, hl⟩ := hl
    rcases List.mem_cons.mp h with h | h
    · subst h; exact List.mem_cons_self
    · exact List.mem_cons_of_mem _ (g_L_le (L' := L') (L := L) hl h)
theorem g_oL_le {n : Nat} : ∀ {L' L : List (Option Value)}, g_le L' L → g_oL n L → g_oL n L'
  | [], L, _, _ => trivial
  | none :: L', [], hl, h => hl.elim
  | some a :: L', [], hl, h => hl.elim
  | none :: L', none :: L, hl, h => g_oL_le (L' := L') (L := L) hl h
  | none :: L', some b :: L, hl, h => g_oL_le (L' := L') (L := L) hl h.2
  | some a :: L', none :: L, hl, h => hl.elim
  | some a :: L', some b :: L, hl, h => by
    obtain ⟨rfl, hl⟩ := hl
    exact ⟨h.1, g_oL_le (L' := L') (L := L) hl h.2⟩
theorem g_L_ext {n : Nat} {ρ ρ' : Nat → Nat} {τ : Nat → Value} (h : ∀ k, k < n → ρ' k = ρ k) : ∀ {L : List (Option Value)} {j : Nat}, g_oL n L → g_L ρ' τ L j = g_L ρ τ L j
  | [], _, _ => rfl
  | none :: L, j, hs => g_L_ext (L := L) h hs
  | some v :: L, j, hs => by rw [g_L, g_L, g_cv_ext h hs.1, g_L_ext (L := L) h hs.2]
theorem g_oL_lk {n : Nat} : ∀ {L : List (Option Value)} {i : Nat} {v : Value}, g_lk L i = some v → g_oL n L → g_ov n v
  | [], i, v, h, _ => by simp [g_lk] at h
  | some a :: L, 0, v, h, o => by simp only [g_lk, Option.some.injEq] at h; subst h; exact o.1
  | none :: L, 0, v, h, o => by simp [g_lk] at h
  | none :: L, i + 1, v, h, o => g_oL_lk (L := L) (i := i) h o
  | some a :: L, i + 1, v, h, o => g_oL_lk (L := L) (i := i) h o.2
theorem g_oL_kl {n : Nat} {a : Option Value} {L : List (Option Value)} (h : g_oL n (a :: L)) {L2 : List (Option Value)} (h2 : g_oL n L2) : g_oL n (g_kl a :: L2) := by
  rcases a with - | a
  · exact h2
  · cases a <;> first | exact h2 | exact ⟨h.1, h2⟩
theorem g_oL_st {n : Nat} {v : Value} (hv : g_ov n v) : ∀ {L : List (Option Value)} {i : Nat}, g_oL n L → g_oL n (g_st L i v)
  | [], _, _ => trivial
  | none :: L, 0, h => ⟨hv, h⟩
  | some a :: L, 0, h => ⟨hv, h.2⟩
  | none :: L, 1, h => g_oL_kl (L := L) (a := none) h (g_oL_st hv (L := L) (i := 0) h)
  | some a :: L, 1, h => g_oL_kl (L := L) (a := some a) h (g_oL_st hv (L := L) (i := 0) h.2)
  | none :: L, i + 2, h => g_oL_st hv (L := L) (i := i + 1) h
  | some a :: L, i + 2, h => ⟨h.1, g_oL_st hv (L := L) (i := i + 1) h.2⟩
theorem g_oL_un {n : Nat} : ∀ {L : List (Option Value)} {i : Nat}, g_oL n L → g_oL n (g_un L i)
  | [], _, _ => trivial
  | none :: L, 0, h => h
  | some a :: L, 0, h => h.2
  | none :: L, i + 1, h => g_oL_un (L := L) (i := i) h
  | some a :: L, i + 1, h => ⟨h.1, g_oL_un (L := L) (i := i) h.2⟩
theorem g_kl_mem {ρ : Nat → Nat} {τ : Nat → Value} (hτ : ∀ k, (τ k).category = 1) {a : Option Value} {L : List (Option Value)} {j : Nat} {q : Nat × Value} (h : q ∈ g_L ρ τ (g_kl a :: L) j) : (q ∈ g_L ρ τ [a] j ∧ q.1 = j ∧ ¬ q.2.category = 2) ∨ q ∈ g_L ρ τ L (j + 1) := by
  rcases a with - | a
  · exact Or.inr h
  · cases a <;> first
      | exact Or.inr h
      | (rcases List.mem_cons.mp h with h | h
         · left; subst h; refine ⟨List.mem_cons_self, rfl, ?_⟩; first | (simp [g_cv, Value.category]; done) | (simp only [g_cv]; rw [hτ]; decide)
         · exact Or.inr h)
theorem g_L_st {ρ : Nat → Nat} {τ : Nat → Value} (hτ : ∀ k, (τ k).category = 1) {v : Value} : ∀ {L : List (Option Value)} {i j : Nat} {q : Nat × Value}, q ∈ g_L ρ τ (g_st L i v) j → q = (j + i, g_cv ρ τ v) ∨ (q ∈ g_L ρ τ L j ∧ q.1 ≠ j + i ∧ ¬ (q.1 + 1 = j + i ∧ q.2.category = 2))
  | [], _, j, q, h => by simp [g_st, g_L] at h
  | none :: L, 0, j, q, h => by
    rcases List.mem_cons.mp h with h | h
    · exact Or.inl h
    · have := g_L_ge h
      exact Or.inr ⟨h, by omega, by omega⟩
  | some a :: L, 0, j, q, h => by
    rcases List.mem_cons.mp h with h | h
    · exact Or.inl h
    · have := g_L_ge h
      exact Or.inr ⟨List.mem_cons_of_mem _ h, by omega, by omega⟩
  | a :: L, 1, j, q, h => by
    rcases g_kl_mem hτ h with ⟨h1, h2, h3⟩ | h
    · refine Or.inr ⟨?_, by omega, fun z => h3 z.2⟩
      rcases a with - | a
      · simp [g_L] at h1
      · simp only [g_L, List.mem_singleton] at h1
        rw [h1]; exact List.mem_cons_self
    · rcases g_L_st hτ (L := L) (i := 0) (j := j + 1) h with h | ⟨h1, h2, h3⟩
      · exact Or.inl h
      · refine Or.inr ⟨?_, h2, h3⟩
        rcases a with - | a
        · exact h1
        · exact List.mem_cons_of_mem _ h1
  | none :: L, i + 2, j, q, h => by
    rcases g_L_st hτ (L := L) (i := i + 1) (j := j + 1) h with h | ⟨h1, h2, h3⟩
    · left; rw [h]; congr 1; omega
    · exact Or.inr ⟨h1, by omega, fun z => h3 ⟨by omega, z.2⟩⟩
  | some a :: L, i + 2, j, q, h => by
    rcases List.mem_cons.mp h with h | h
    · subst h
      exact Or.inr ⟨List.mem_cons_self, by simp only; omega, fun z => by have := z.1; simp only at this; omega⟩
    · rcases g_L_st hτ (L := L) (i := i + 1) (j := j + 1) h with h | ⟨h1, h2, h3⟩
      · left; rw [h]; congr 1; omega
      · exact Or.inr ⟨List.mem_cons_of_mem _ h1, by omega, fun z => h3 ⟨by omega, z.2⟩⟩
theorem g_L_un {ρ : Nat → Nat} {τ : Nat → Value} : ∀ {L : List (Option Value)} {i j : Nat} {q : Nat × Value}, q ∈ g_L ρ τ (g_un L i) j → q ∈ g_L ρ τ L j ∧ q.1 ≠ j + i
  | [], _, j, q, h => by simp [g_un, g_L] at h
  | none :: L, 0, j, q, h => ⟨h, by have := g_L_ge (L := L) (j := j + 1) h; omega⟩
  | some a :: L, 0, j, q, h => ⟨List.mem_cons_of_mem _ h, by have := g_L_ge (L := L) (j := j + 1) h; omega⟩
  | none :: L, i + 1, j, q, h => by
    obtain ⟨h1, h2⟩ := g_L_un (L := L) (i := i) (j := j + 1) h
    exact ⟨h1, by omega⟩
  | some a :: L, i + 1, j, q, h => by
    rcases List.mem_cons.mp h with h | h
    · subst h; exact ⟨List.mem_cons_self, by simp only; omega⟩
    · obtain ⟨h1, h2⟩ := g_L_un (L := L) (i := i) (j := j + 1) h
      exact ⟨List.mem_cons_of_mem _ h1, by omega⟩
theorem g_has_sub {ls : Array Slot} {nL : Nat} {l l' : List (Nat × Value)} (h : lv_has ls nL l) (hs : ∀ q ∈ l', q ∈ l) : lv_has ls nL l' := ⟨h.1, h.2.1, fun q hq => h.2.2 q (hs q hq)⟩
theorem g_has_at {ρ : Nat → Nat} {τ : Nat → Value} {ls : Array Slot} {nL : Nat} {L : List (Option Value)} {i : Nat} {v : Value} (h : lv_has ls nL (g_L ρ τ L 0)) (hk : g_lk L i = some v) : ls[i]? = some (.val (g_cv ρ τ v)) := by
  have h1 := h.2.2 _ (g_L_lk (ρ := ρ) (τ := τ) (j := 0) hk)
  simpa using h1
theorem g_has_st {ρ : Nat → Nat} {τ : Nat → Value} (hτ : ∀ k, (τ k).category = 1) {ls : Array Slot} {nL : Nat} {L : List (Option Value)} {i : Nat} {v : Value} (h : lv_has ls nL ((i, g_cv ρ τ v) :: (g_L ρ τ L 0).filter (fun q => !(q.1 == i) && !(q.1 + 1 == i && q.2.category == 2)))) : lv_has ls nL (g_L ρ τ (g_st L i v) 0) := by
  refine g_has_sub h (fun q hq => ?_)
  rcases g_L_st hτ hq with e | ⟨h1, h2, h3⟩
  · rw [e, Nat.zero_add]; exact List.mem_cons_self
  · rw [Nat.zero_add] at h2 h3
    refine List.mem_cons_of_mem _ (List.mem_filter.mpr ⟨h1, ?_⟩)
    simp only [Bool.and_eq_true, Bool.not_eq_true', beq_eq_false_iff_ne, ne_eq]
    refine ⟨h2, ?_⟩
    rw [Bool.and_eq_false_iff]
    by_cases z : q.1 + 1 = i
    · right
      simp only [beq_eq_false_iff_ne, ne_eq]
      exact fun w => h3 ⟨z, w⟩
    · left; simpa using z
theorem g_has_st2 {ρ : Nat → Nat} {τ : Nat → Value} (hτ : ∀ k, (τ k).category = 1) {ls : Array Slot} {nL : Nat} {L : List (Option Value)} {i : Nat} {v : Value} (h : lv_has ls nL ((i, g_cv ρ τ v) :: (g_L ρ τ L 0).filter (fun q => !(q.1 == i) && (!(q.1 == i + 1) && !(q.1 + 1 == i && q.2.category == 2))))) : lv_has ls nL (g_L ρ τ (g_un (g_st L i v) (i + 1)) 0) := by
  refine g_has_sub h (fun q hq => ?_)
  obtain ⟨hq, hq2⟩ := g_L_un hq
  rw [Nat.zero_add] at hq2
  rcases g_L_st hτ hq with e | ⟨h1, h2, h3⟩
  · rw [e, Nat.zero_add]; exact List.mem_cons_self
  · rw [Nat.zero_add] at h2 h3
    refine List.mem_cons_of_mem _ (List.mem_filter.mpr ⟨h1, ?_⟩)
    simp only [Bool.and_eq_true, Bool.not_eq_true', beq_eq_false_iff_ne, ne_eq]
    refine ⟨h2, hq2, ?_⟩
    rw [Bool.and_eq_false_iff]
    by_cases z : q.1 + 1 = i
    · right
      simp only [beq_eq_false_iff_ne, ne_eq]
      exact fun w => h3 ⟨z, w⟩
    · left; simpa using z
