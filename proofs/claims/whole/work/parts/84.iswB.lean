theorem lcmp0 {x y : Int64} : (lg_cmp x y = 0) ↔ x = y := by
  unfold lg_cmp
  constructor
  · intro h
    split at h
    · exact absurd h (by decide)
    · split at h
      · assumption
      · exact absurd h (by decide)
  · rintro rfl
    rw [if_neg (Int64.lt_irrefl), if_pos rfl]
theorem LNinj {a b : Nat} (ha : a < 2 ^ 62) (hb : b < 2 ^ 62) : (LN a = LN b) ↔ a = b := LN_eq (by omega) (by omega)
theorem e27_b : ∀ l : List Nat, (∀ a, a ∈ l → 1 ≤ a ∧ a ≤ 26) → e27 l < 27 ^ l.length := by
  intro l
  induction l with
  | nil => intro _; decide
  | cons a l ih =>
    intro h
    have h1 := ih (fun b hb => h b (List.mem_cons_of_mem _ hb))
    have h2 := h a (List.mem_cons_self ..)
    rw [e27, List.length_cons, Nat.pow_succ]
    omega
theorem e27_s {l : List Nat} (h : okN l) : e27 l < 2 ^ 62 := by
  have h1 := e27_b l h.2
  have h2 : 27 ^ l.length ≤ 27 ^ 8 := Nat.pow_le_pow_right (by omega) h.1
  have h3 : (27 : Nat) ^ 8 < 2 ^ 62 := by decide
  omega
theorem e32_b : ∀ l : List Nat, (∀ a, a ∈ l → 1 ≤ a ∧ a ≤ 26) → e32 l < 32 ^ l.length := by
  intro l
  induction l with
  | nil => intro _; decide
  | cons a l ih =>
    intro h
    have h1 := ih (fun b hb => h b (List.mem_cons_of_mem _ hb))
    have h2 := h a (List.mem_cons_self ..)
    rw [e32, List.length_cons, Nat.pow_succ]
    omega
theorem e32_s {l : List Nat} (h : okN l) : e32 l < 2 ^ 62 := by
  have h1 := e32_b l h.2
  have h2 : 32 ^ l.length ≤ 32 ^ 8 := Nat.pow_le_pow_right (by omega) h.1
  have h3 : (32 : Nat) ^ 8 < 2 ^ 62 := by decide
  omega
theorem e27_i : ∀ l l' : List Nat, (∀ a, a ∈ l → 1 ≤ a ∧ a ≤ 26) → (∀ a, a ∈ l' → 1 ≤ a ∧ a ≤ 26) → e27 l = e27 l' → l = l' := by
  intro l
  induction l with
  | nil =>
    intro l' _ h2 h
    cases l' with
    | nil => rfl
    | cons a l' => have := h2 a (List.mem_cons_self ..); rw [e27, e27] at h; omega
  | cons a l ih =>
    intro l' h1 h2 h
    cases l' with
    | nil => have := h1 a (List.mem_cons_self ..); rw [e27, e27] at h; omega
    | cons b l' =>
      have i1 := h1 a (List.mem_cons_self ..)
      have i2 := h2 b (List.mem_cons_self ..)
      rw [e27, e27] at h
      have e1 : a = b := by omega
      have e2 : e27 l = e27 l' := by omega
      rw [e1, ih l' (fun c hc => h1 c (List.mem_cons_of_mem _ hc)) (fun c hc => h2 c (List.mem_cons_of_mem _ hc)) e2]
theorem e32_i : ∀ l l' : List Nat, (∀ a, a ∈ l → 1 ≤ a ∧ a ≤ 26) → (∀ a, a ∈ l' → 1 ≤ a ∧ a ≤ 26) → e32 l = e32 l' → l = l' := by
  intro l
  induction l with
  | nil =>
    intro l' _ h2 h
    cases l' with
    | nil => rfl
    | cons a l' => have := h2 a (List.mem_cons_self ..); rw [e32, e32] at h; omega
  | cons a l ih =>
    intro l' h1 h2 h
    cases l' with
    | nil => have := h1 a (List.mem_cons_self ..); rw [e32, e32] at h; omega
    | cons b l' =>
      have i1 := h1 a (List.mem_cons_self ..)
      have i2 := h2 b (List.mem_cons_self ..)
      rw [e32, e32] at h
      have e1 : a = b := by omega
      have e2 : e32 l = e32 l' := by omega
      rw [e1, ih l' (fun c hc => h1 c (List.mem_cons_of_mem _ hc)) (fun c hc => h2 c (List.mem_cons_of_mem _ hc)) e2]
theorem e27_q {l l' : List Nat} (h : okN l) (h' : okN l') : (LN (e27 l) = LN (e27 l')) ↔ l = l' := by
  rw [LNinj (e27_s h) (e27_s h')]
  exact ⟨e27_i l l' h.2 h'.2, fun e => by rw [e]⟩
theorem e32_q {l l' : List Nat} (h : okN l) (h' : okN l') : (LN (e32 l) = LN (e32 l')) ↔ l = l' := by
  rw [LNinj (e32_s h) (e32_s h')]
  exact ⟨e32_i l l' h.2 h'.2, fun e => by rw [e]⟩
theorem lts_ok {T : aTp} {q : Nat} : ∀ n, (∀ i, i < n → isLt (T.2 (q + i)) = true) → ∀ a, a ∈ lts T q n → 1 ≤ a ∧ a ≤ 26 := by
  intro n
  induction n with
  | zero => intro _ a ha; cases ha
  | succ n ih =>
    intro h a ha
    rw [lts] at ha
    rcases List.mem_cons.mp ha with e | e
    · have := of_decide_eq_true (h n (by omega)); omega
    · exact ih (fun i hi => h i (by omega)) a e
theorem gl_ok {t : UInt32} : ∀ n, (∀ i, i < n → 97 ≤ by1 t i ∧ by1 t i ≤ 122) → ∀ a, a ∈ gl t n → 1 ≤ a ∧ a ≤ 26 := by
  intro n
  induction n with
  | zero => intro _ a ha; cases ha
  | succ n ih =>
    intro h a ha
    rw [gl] at ha
    rcases List.mem_cons.mp ha with e | e
    · have := h n (by omega); omega
    · exact ih (fun i hi => h i (by omega)) a e
theorem gw_ok {t : UInt32} (ht : txt t) : okN (gw t) := ⟨by rw [gw, gl_len]; exact ht.1, gl_ok _ (fun i hi => ⟨(ht.2 i hi).1, (ht.2 i hi).2.1⟩)⟩
theorem tk_ok {T : aTp} {q : Nat} (hq : q ≤ T.1) (hk : (tokAt T q).1 = 2) : okN (tokAt T q).2.2.2.1 := by
  obtain ⟨w1, w2, w3, w4, w5⟩ := tokAt_w hq hk
  rw [w1]
  exact ⟨by rw [lts_len]; exact w2, lts_ok _ (fun i hi => w5 _ (by omega) (by omega))⟩
theorem mk1 : ∀ k, k < 5 → ∀ w, w < 5 → ((N (mkk k) = N (mkk w)) ↔ k = w) := by decide +kernel
theorem mIsW {S : gS} {T : aTp} {q : Nat} {t : UInt32} {j : Int64} (hq : q ≤ T.1) (hk : tkM S T (tokAt T q)) (ht : txt t) (hj : j = LN (e27 (gw t))) (h2 : (tokAt T q).1 = 2) : (lg_cmp (sJ S 180 7) j = 0) ↔ tkW (tokAt T q) t = true := by
  rw [lcmp0, hk.2.2.2.2.2.1 h2, hj, e27_q (tk_ok hq h2) (gw_ok ht)]
  unfold tkW
  rw [decide_eq_true_iff]
  exact ⟨fun h => ⟨h2, h⟩, fun h => h.2⟩
theorem mIsWord {S : gS} {T : aTp} {q : Nat} {t : UInt32} {j : Int64} (hq : q ≤ T.1) (hk : tkM S T (tokAt T q)) (ht : txt t) (hj : j = LN (e27 (gw t))) : FX12_isWord S j = some (S, tkW (tokAt T q) t) := by
  have h4 := (tokAt_e hq).2.2.2.2.2
  unfold FX12_isWord
  rw [hk.2.2.1]
  by_cases h2 : (tokAt T q).1 = 2
  · rw [if_pos (show N (mkk (tokAt T q).1) = (1 : Int32) from (mk1 _ (by omega) 2 (by omega)).mpr h2)]
    by_cases c : lg_cmp (sJ S 180 7) j = 0
    · rw [if_pos c, (mIsW hq hk ht hj h2).mp c]
    · rw [if_neg c]
      cases hh : tkW (tokAt T q) t with
      | false => rfl
      | true => exact absurd ((mIsW hq hk ht hj h2).mpr hh) c
  · rw [if_neg (show ¬ N (mkk (tokAt T q).1) = (1 : Int32) from fun h => h2 ((mk1 _ (by omega) 2 (by omega)).mp h))]
    congr 2
    symm
    exact decide_eq_false (fun h => h2 h.1)
