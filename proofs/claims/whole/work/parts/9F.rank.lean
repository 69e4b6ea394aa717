theorem rk_mo {h : Nat → Int32} {x y : Nat} (hb : oBf h x y) : ∀ m, rk h x m ≤ rk h y m ∧ (x < m → rk h x m + 1 ≤ rk h y m) := by
  unfold oBf at hb
  intro m
  induction m with
  | zero => exact ⟨Nat.le_refl _, fun e => absurd e (by omega)⟩
  | succ m ih =>
    obtain ⟨i1, i2⟩ := ih
    rw [rk, rk]
    by_cases e : x = m
    · subst e
      rw [if_neg (show ¬ ((h x).toInt < (h x).toInt ∨ (h x).toInt = (h x).toInt ∧ x < x) by omega), if_pos (show (h y).toInt < (h x).toInt ∨ (h x).toInt = (h y).toInt ∧ x < y by omega)]
      exact ⟨by omega, fun _ => by omega⟩
    · by_cases c : (h x).toInt < (h m).toInt ∨ (h m).toInt = (h x).toInt ∧ m < x
      · rw [if_pos c, if_pos (show (h y).toInt < (h m).toInt ∨ (h m).toInt = (h y).toInt ∧ m < y by omega)]
        exact ⟨by omega, fun hx => by have := i2 (by omega); omega⟩
      · rw [if_neg c]
        exact ⟨by omega, fun hx => by have := i2 (by omega); omega⟩
theorem rk_lt {h : Nat → Int32} {x : Nat} : ∀ m, x < m → rk h x m < m := by
  intro m
  induction m with
  | zero => intro e; omega
  | succ m ih =>
    intro hx
    have hl := rk_le (h := h) (i := x) m
    rw [rk]
    by_cases e : x = m
    · subst e
      rw [if_neg (show ¬ ((h x).toInt < (h x).toInt ∨ (h x).toInt = (h x).toInt ∧ x < x) by omega)]
      omega
    · have := ih (by omega)
      split <;> omega
theorem rk_o {h : Nat → Int32} {n : Nat} {o : Nat → Nat} (h1 : ∀ a b, a < b → b < n → oBf h (o a) (o b)) (h2 : ∀ j, j < n → o j < n) : ∀ k, k < n → rk h (o k) n = k := by
  have lo : ∀ k, k < n → k ≤ rk h (o k) n := by
    intro k
    induction k with
    | zero => intro _; omega
    | succ k ih =>
      intro hk
      have := ih (by omega)
      have := (rk_mo (h1 k (k + 1) (by omega) hk) n).2 (h2 k (by omega))
      omega
  have hi : ∀ m k, k + m + 1 = n → rk h (o k) n ≤ k := by
    intro m
    induction m with
    | zero => intro k hk; have := rk_lt (h := h) n (h2 k (by omega)); omega
    | succ m ih =>
      intro k hk
      have := ih (k + 1) (by omega)
      have := (rk_mo (h1 k (k + 1) (by omega) (by omega)) n).2 (h2 k (by omega))
      omega
  intro k hk
  have := lo k hk
  have := hi (n - 1 - k) k (by omega)
  omega
