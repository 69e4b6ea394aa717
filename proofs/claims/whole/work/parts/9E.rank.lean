/-! the model's order: a rank -/
def rk (h : Nat → Int32) (i : Nat) : Nat → Nat
  | 0 => 0
  | m + 1 => rk h i m + (if (h i).toInt < (h m).toInt ∨ (h m).toInt = (h i).toInt ∧ m < i then 1 else 0)
theorem rk_le {h : Nat → Int32} {i : Nat} : ∀ m, rk h i m ≤ m := by
  intro m
  induction m with
  | zero => exact Nat.le_refl _
  | succ m ih => rw [rk]; split <;> omega
theorem mRkL {h : Nat → Int32} {i n : Nat} {S : gS} {K : Nat} {Q : gS → Prop} (hn : n ≤ 7) (hi : i < n) (h0 : sR S 182 0 = N n) (hh : ∀ j, j < n → sR S 186 j = h j) (hr : rk h i n < 7) (hc : ∀ k, K ≤ k → wp (fX12_laysOrder k 2 (uR S 222 (rk h i n) (N i)) (N (i + 1)) 0 0) Q) : ∀ m j k, j + m = n → m + K + 1 ≤ k → wp (fX12_laysOrder k 16 S (N i) (N (rk h i j)) (N j)) Q := by
  intro m
  induction m with
  | zero =>
    intro j k hj hk
    obtain ⟨k, rfl, hk'⟩ := kS (k := k) (m := K) (by omega)
    have e : j = n := by omega
    subst e
    rw [fX12_laysOrder]
    simp only [if_true]
    rw [if_neg (by decide)]
    simp only [bX12_laysOrder_16]
    rw [h0, if_pos ((leN (by omega) (by omega)).mpr (Nat.le_refl _)), if_pos (vpN hr (by omega)), clN (by omega), wp_lt, addN1]
    exact hc k hk'
  | succ m ih =>
    intro j k hj hk
    obtain ⟨k, rfl, hk'⟩ := kS (k := k) (m := m + K + 1) (by omega)
    have hrk := rk_le (h := h) (i := i) j
    have g := ih (j + 1) k (by omega) hk'
    rw [rk] at g
    rw [fX12_laysOrder]
    simp only [if_true]
    rw [if_neg (by decide)]
    simp only [bX12_laysOrder_16]
    rw [h0, if_neg (fun e => absurd ((leN (by omega) (by omega)).mp e) (by omega)), if_pos (vpN (by omega) (by omega)), if_pos (vpN (by omega) (by omega)), clN (by omega), clN (by omega), hh i hi, hh j (by omega), show N (rk h i j) + (0 : Int32) = N (rk h i j) from Int32.add_zero _, addN1, addN1]
    by_cases c1 : (h i).toInt < (h j).toInt
    · rw [if_pos (Or.inl c1)] at g
      rw [if_pos (ilt.mpr c1)]; exact g
    · rw [if_neg (fun e => c1 (ilt.mp e))]
      by_cases c2 : (h j).toInt = (h i).toInt
      · rw [if_pos (ieq.mpr c2)]
        by_cases c3 : i ≤ j
        · rw [if_neg (show ¬ ((h i).toInt < (h j).toInt ∨ (h j).toInt = (h i).toInt ∧ j < i) from fun e => e.elim c1 (fun e => by omega)), Nat.add_zero] at g
          rw [if_pos ((leN (by omega) (by omega)).mpr c3)]; exact g
        · rw [if_pos (Or.inr ⟨c2, by omega⟩)] at g
          rw [if_neg (fun e => c3 ((leN (by omega) (by omega)).mp e))]; exact g
      · rw [if_neg (show ¬ ((h i).toInt < (h j).toInt ∨ (h j).toInt = (h i).toInt ∧ j < i) from fun e => e.elim c1 (fun e => c2 e.1)), Nat.add_zero] at g
        rw [if_neg (fun e => c2 (ieq.mp e))]; exact g
