def oBf (h : Nat → Int32) (x y : Nat) : Prop := (h y).toInt < (h x).toInt ∨ (h y).toInt = (h x).toInt ∧ x < y
theorem insO_ok {h : Nat → Int32} {n : Nat} : ∀ i o, i ≤ n → (∀ a b, a < b → b ≤ n → a ≠ i → b ≠ i → oBf h (o a) (o b)) → (∀ j, j ≤ n → j ≠ i → o j < n) → (∀ j, i < j → j ≤ n → (h (o j)).toInt < (h n).toInt) → (∀ a b, a < b → b ≤ n → oBf h (insO h n i o a) (insO h n i o b)) ∧ ∀ j, j ≤ n → insO h n i o j ≤ n := by
  intro i
  induction i with
  | zero =>
    intro o hi h1 h2 h3
    rw [insO]
    unfold upn
    refine ⟨fun a b hab hb => ?_, fun j hj => ?_⟩
    · rw [if_neg (show ¬ b = 0 by omega)]
      by_cases e : a = 0
      · rw [if_pos e]; exact Or.inl (h3 b (by omega) hb)
      · rw [if_neg e]; exact h1 a b hab hb e (by omega)
    · split
      · exact Nat.le_refl _
      · rename_i e; have := h2 j hj e; omega
  | succ i ih =>
    intro o hi h1 h2 h3
    rw [insO]
    by_cases c : h n ≤ h (o i)
    · rw [if_pos c]
      rw [ile] at c
      unfold upn
      refine ⟨fun a b hab hb => ?_, fun j hj => ?_⟩
      · by_cases eb : b = i + 1
        · rw [if_pos eb, if_neg (show ¬ a = i + 1 by omega)]
          have la := h2 a (by omega) (by omega)
          have : (h (o i)).toInt ≤ (h (o a)).toInt := by
            by_cases e : a = i
            · rw [e]; omega
            · rcases h1 a i (by omega) (by omega) (by omega) (by omega) with q | q <;> omega
          unfold oBf; omega
        · rw [if_neg eb]
          by_cases ea : a = i + 1
          · rw [if_pos ea]; exact Or.inl (h3 b (by omega) hb)
          · rw [if_neg ea]; exact h1 a b hab hb ea eb
      · split
        · exact Nat.le_refl _
        · rename_i e; have := h2 j hj e; omega
    · rw [if_neg c]
      rw [ile] at c
      refine ih _ (by omega) (fun a b hab hb ha hb2 => ?_) (fun j hj hji => ?_) (fun j hj hj2 => ?_)
      · unfold upn
        by_cases eb : b = i + 1
        · rw [if_pos eb, if_neg (show ¬ a = i + 1 by omega)]
          exact h1 a i (by omega) (by omega) (by omega) (by omega)
        · rw [if_neg eb]
          by_cases ea : a = i + 1
          · rw [if_pos ea]; exact h1 i b (by omega) hb (by omega) eb
          · rw [if_neg ea]; exact h1 a b hab hb ea eb
      · unfold upn
        by_cases e : j = i + 1
        · rw [if_pos e]; exact h2 i (by omega) (by omega)
        · rw [if_neg e]; exact h2 j hj e
      · unfold upn
        by_cases e : j = i + 1
        · rw [if_pos e]; omega
        · rw [if_neg e]; exact h3 j (by omega) hj2
theorem insO_in {h : Nat → Int32} {n : Nat} {o : Nat → Nat} (h1 : ∀ a b, a < b → b < n → oBf h (o a) (o b)) (h2 : ∀ j, j < n → o j < n) : (∀ a b, a < b → b < n + 1 → oBf h (insO h n n o a) (insO h n n o b)) ∧ ∀ j, j < n + 1 → insO h n n o j < n + 1 := by
  obtain ⟨a1, a2⟩ := insO_ok (h := h) (n := n) n o (Nat.le_refl _) (fun a b hab hb ha hb2 => h1 a b hab (by omega)) (fun j hj hji => h2 j (by omega)) (fun j hj hj2 => absurd hj (by omega))
  exact ⟨fun a b hab hb => a1 a b hab (by omega), fun j hj => by have := a2 j (by omega); omega⟩
