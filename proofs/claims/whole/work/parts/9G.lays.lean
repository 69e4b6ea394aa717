theorem rk_ne {h : Nat → Int32} {n x y : Nat} (hx : x < n) (hy : y < n) (hne : x ≠ y) : rk h x n ≠ rk h y n := by
  have t : oBf h x y ∨ oBf h y x := by unfold oBf; omega
  rcases t with t | t
  · have := (rk_mo t n).2 hx; omega
  · have := (rk_mo t n).2 hy; omega
theorem mOrdL {h : Nat → Int32} {n : Nat} (hn : n ≤ 7) : ∀ m i k S a b, i + m = n → m * (n + 4) + 1 ≤ k → sR S 182 0 = N n → (∀ j, j < n → sR S 186 j = h j) → (∀ j, j < i → sR S 222 (rk h j n) = N j) → (a = 0 ∧ b = 0) → wp (fX12_laysOrder k 2 S (N i) a b) (fun U => fr [222] S U ∧ ∀ j, j < n → sR U 222 (rk h j n) = N j) := by
  intro m
  induction m with
  | zero =>
    intro i k S a b hi hk h0 hh hr hab
    obtain ⟨k, rfl, -⟩ := kS (m := 0) (k := k) (by omega)
    have e : i = n := by omega
    subst e
    rw [fX12_laysOrder]
    simp only [if_true, bX12_laysOrder_2]
    rw [h0, if_pos ((leN (by omega) (by omega)).mpr (Nat.le_refl _)), wp_some]
    exact ⟨fr_rf, hr⟩
  | succ m ih =>
    intro i k S a b hi hk h0 hh hr hab
    have e1 : (m + 1) * (n + 4) = m * (n + 4) + (n + 4) := Nat.succ_mul _ _
    generalize hG : m * (n + 4) = G at *
    obtain ⟨k, rfl, hk'⟩ := kS (k := k) (m := G + n + 4) (by omega)
    rw [fX12_laysOrder]
    simp only [if_true, bX12_laysOrder_2]
    rw [h0, if_neg (fun e => absurd ((leN (by omega) (by omega)).mp e) (by omega))]
    refine mRkL (h := h) (K := G + 1) hn (by omega) h0 hh (by have := rk_lt (h := h) n (show i < n by omega); omega) (fun k2 hk2 => ?_) n 0 k (by omega) (by omega)
    refine wp_mono (ih (i + 1) k2 (uR S 222 (rk h i n) (N i)) 0 0 (by omega) (by omega) (by rw [R_uR, if_neg (by omega)]; exact h0) (fun j hj => by rw [R_uR, if_neg (by omega)]; exact hh j hj) (fun j hj => ?_) ⟨rfl, rfl⟩) ?_
    · rw [R_uR]
      by_cases e : j = i
      · rw [if_pos ⟨rfl, by rw [e]⟩, e]
      · rw [if_neg (fun q => rk_ne (h := h) (n := n) (by omega) (by omega) e q.2)]
        exact hr j (by omega)
    · rintro U ⟨u1, u2⟩
      exact ⟨fr_tr (fr_uR fr_rf (by simp)) u1, u2⟩
theorem mOrder {S : gS} {h : Nat → Int32} {n : Nat} {o : Nat → Nat} (hn : n ≤ 7) (h0 : sR S 182 0 = N n) (hh : ∀ j, j < n → sR S 186 j = h j) (h1 : ∀ a b, a < b → b < n → oBf h (o a) (o b)) (h2 : ∀ j, j < n → o j < n) : wp (FX12_laysOrder S) (fun U => fr [222] S U ∧ ∀ k, k < n → sR U 222 k = N (o k)) := by
  unfold FX12_laysOrder
  have hb : n * (n + 4) ≤ 7 * 11 := Nat.mul_le_mul hn (by omega)
  refine wp_mono (mOrdL (h := h) hn n 0 FU S 0 0 (by omega) (by unfold FU; omega) h0 hh (fun j hj => absurd hj (by omega)) ⟨rfl, rfl⟩) ?_
  rintro U ⟨u1, u2⟩
  refine ⟨u1, fun k hk => ?_⟩
  have := u2 (o k) (h2 k hk)
  rwa [rk_o h1 h2 k hk] at this
