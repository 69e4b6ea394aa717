/-! where a mouth comes in the order -/
def insO (h : Nat → Int32) (n : Nat) : Nat → (Nat → Nat) → (Nat → Nat)
  | 0, o => upn o 0 n
  | i + 1, o => if h n ≤ h (o i) then upn o (i + 1) n else insO h n i (upn o (i + 1) (o i))
theorem dec7 : ∀ i, i < 7 → N (i + 1) + (-1) = N i ∧ N (i + 1) - (1 : Int32) = N i := by decide +kernel
theorem xPutO {f n : Nat} {h : Nat → Int32} (hn : n < 7) : ∀ i k S o, i ≤ n → i + 1 ≤ k → (∀ j, j < i → o j ≤ n) → (∀ j, j ≤ n → j ≠ i → sR S (f + 7) j = N (o j)) → (∀ j, j ≤ n → sR S (f + 3) j = h j) → wp (fX1_putInOrder k 2 S f (N n) (N i)) (fun U => fr [f + 7] S U ∧ ∀ j, j ≤ n → sR U (f + 7) j = N (insO h n i o j)) := by
  intro i
  induction i with
  | zero =>
    intro k S o hi hk ho hr hh
    obtain ⟨k, rfl, -⟩ := kS (m := 0) hk
    rw [fX1_putInOrder]
    simp only [if_true, bX1_putInOrder_2]
    rw [if_pos ((le0N (by omega)).mpr rfl), if_pos (vpN (by omega) (by omega)), clN (by omega), wp_lt, wp_some]
    refine ⟨fr_uR fr_rf (by simp), fun j hj => ?_⟩
    rw [insO, R_uR]
    unfold upn
    by_cases e : j = 0
    · rw [if_pos ⟨rfl, e⟩, if_pos e]
    · rw [if_neg (by omega), if_neg e]; exact hr j hj e
  | succ i ih =>
    intro k S o hi hk ho hr hh
    obtain ⟨k, rfl, hk'⟩ := kS (k := k) (m := i + 1) (by omega)
    obtain ⟨d1, d2⟩ := dec7 i (by omega)
    have oi := ho i (by omega)
    rw [fX1_putInOrder]
    simp only [if_true, bX1_putInOrder_2]
    rw [if_neg (fun e => absurd ((le0N (by omega)).mp e) (by omega)), d2, if_pos (vpN (by omega) (by omega)), clN (by omega), hr i (by omega) (by omega), if_pos (vpN (by omega) (by omega)), clN (by omega), if_pos (vpN (by omega) (by omega)), clN (by omega), hh n (Nat.le_refl _), hh (o i) oi, insO]
    by_cases c : h n ≤ h (o i)
    · rw [if_pos c, if_pos c, if_pos (vpN (by omega) (by omega)), clN (by omega), wp_lt, wp_some]
      refine ⟨fr_uR fr_rf (by simp), fun j hj => ?_⟩
      rw [R_uR]
      unfold upn
      by_cases e : j = i + 1
      · rw [if_pos ⟨rfl, e⟩, if_pos e]
      · rw [if_neg (by omega), if_neg e]; exact hr j hj e
    · rw [if_neg c, if_neg c, if_pos (vpN (by omega) (by omega)), clN (by omega), wp_lt, d1]
      refine wp_mono (ih k (uR S (f + 7) (i + 1) (N (o i))) (upn o (i + 1) (o i)) (by omega) hk' (fun j hj => ?_) (fun j hj hji => ?_) (fun j hj => ?_)) ?_
      · unfold upn; rw [if_neg (by omega)]; exact ho j (by omega)
      · rw [R_uR]
        unfold upn
        by_cases e : j = i + 1
        · rw [if_pos ⟨rfl, e⟩, if_pos e]
        · rw [if_neg (by omega), if_neg e]; exact hr j hj e
      · rw [R_uR, if_neg (by omega)]; exact hh j hj
      · rintro U ⟨u1, u2⟩
        exact ⟨fr_tr (fr_uR fr_rf (by simp)) u1, u2⟩
theorem xPutIn {S : gS} {f n : Nat} {h : Nat → Int32} {o : Nat → Nat} (hn : n < 7) (ho : ∀ j, j < n → o j ≤ n) (hr : ∀ j, j < n → sR S (f + 7) j = N (o j)) (hh : ∀ j, j ≤ n → sR S (f + 3) j = h j) : wp (FX1_putInOrder S f (N n)) (fun U => fr [f + 7] S U ∧ ∀ j, j ≤ n → sR U (f + 7) j = N (insO h n n o j)) := by
  unfold FX1_putInOrder
  exact xPutO hn n FU S o (Nat.le_refl _) (by unfold FU; omega) ho (fun j hj hji => hr j (by omega)) hh
