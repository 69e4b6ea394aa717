/-! names of a front; a word read -/
def ixN (ns : Nat → List Nat) (l : List Nat) : Nat → Nat → Nat
  | 0, i => i
  | m + 1, i => if ns i = l then i else ixN ns l m (i + 1)
def nIx (ns : Nat → List Nat) (l : List Nat) (L : Nat) : Nat := ixN ns l L 0
def nAn (i L : Nat) : Int32 := if i < L then N i else -1
theorem ixN_le {ns : Nat → List Nat} {l : List Nat} : ∀ m i, ixN ns l m i ≤ i + m := by
  intro m
  induction m with
  | zero => intro i; rw [ixN]; omega
  | succ m ih => intro i; rw [ixN]; split; omega; have := ih (i + 1); omega
theorem nAn0 {i L : Nat} (hi : i < 2147483648) : ((0 : Int32) ≤ nAn i L) ↔ i < L := by
  unfold nAn
  by_cases h : i < L
  · rw [if_pos h]
    exact ⟨fun _ => h, fun _ => (leN (a := 0) (by omega) hi).mpr (by omega)⟩
  · rw [if_neg h]
    exact ⟨fun e => absurd e (by decide), fun e => absurd e h⟩
theorem nAn1 {i L : Nat} (hi : i < 2147483648) : (nAn i L = (-1 : Int32)) ↔ ¬ i < L := by
  unfold nAn
  by_cases h : i < L
  · rw [if_pos h]
    exact ⟨fun e => absurd e (N_ne_m1 hi), fun e => absurd h e⟩
  · rw [if_neg h]
    exact ⟨fun _ => h, fun _ => rfl⟩
theorem xLetL {S : gS} {f L : Nat} {ns : Nat → List Nat} {l : List Nat} (hL : L ≤ 6) (h8 : sI S f 8 = N L) (hn : ∀ i, i < L → sL S (f + 8) i = LN (e32 (ns i))) (hk : ∀ i, i < L → okN (ns i)) (hl : okN l) : ∀ m i k, i + m = L → m + 1 ≤ k → fX1_letterNamed k 2 S f (LN (e32 l)) (N i) = some (S, nAn (ixN ns l m i) L) := by
  intro m
  induction m with
  | zero =>
    intro i k hi hk2
    obtain ⟨k, rfl, -⟩ := kS (m := 0) hk2
    rw [fX1_letterNamed]
    simp only [if_true, bX1_letterNamed_2]
    rw [h8, if_pos ((leN (by omega) (by omega)).mpr (by omega)), ixN]
    unfold nAn
    rw [if_neg (by omega)]
  | succ m ih =>
    intro i k hi hk2
    obtain ⟨k, rfl, hk'⟩ := kS (m := m + 1) hk2
    rw [fX1_letterNamed]
    simp only [if_true, bX1_letterNamed_2]
    rw [h8, if_neg (fun e => absurd ((leN (by omega) (by omega)).mp e) (by omega)), if_pos (vpN (by omega) (by omega)), clN (by omega), hn i (by omega), ixN]
    by_cases c : ns i = l
    · rw [if_pos (lcmp0.mpr ((e32_q (hk i (by omega)) hl).mpr c)), if_pos c]
      unfold nAn
      rw [if_pos (by omega)]
    · rw [if_neg (fun e => c ((e32_q (hk i (by omega)) hl).mp (lcmp0.mp e))), if_neg c, addN1]
      exact ih (i + 1) k (by omega) hk'
theorem mLetL {S : gS} {L : Nat} {ns : Nat → List Nat} {l : List Nat} (hL : L ≤ 6) (h8 : sR S 182 1 = N L) (hn : ∀ i, i < L → sL S 184 i = LN (e27 (ns i))) (hk : ∀ i, i < L → okN (ns i)) (hl : okN l) (h7 : sJ S 180 7 = LN (e27 l)) : ∀ m i k, i + m = L → m + 1 ≤ k → fX12_letterNamed k 5 S 0 (N i) = some (S, nAn (ixN ns l m i) L) := by
  have e1 : Int32.toNatClampNeg (((3 : Int32) * 0) + (1 : Int32)) = 1 := by decide
  have e2 : ∀ x : Int32, ((6 : Int32) * 0) + x = x := by
    intro x
    rw [show (6 : Int32) * 0 = 0 by decide, Int32.zero_add]
  have e3 : ∀ x : Int32, x - ((6 : Int32) * 0) = x := by
    intro x
    rw [show (6 : Int32) * 0 = 0 by decide, Int32.sub_zero]
  intro m
  induction m with
  | zero =>
    intro i k hi hk2
    obtain ⟨k, rfl, -⟩ := kS (m := 0) hk2
    rw [fX12_letterNamed]
    simp only [if_true, bX12_letterNamed_5]
    rw [if_pos (by decide), e1, e2, h8, if_pos ((leN (by omega) (by omega)).mpr (by omega)), ixN]
    unfold nAn
    rw [if_neg (by omega)]
  | succ m ih =>
    intro i k hi hk2
    obtain ⟨k, rfl, hk'⟩ := kS (m := m + 1) hk2
    rw [fX12_letterNamed]
    simp only [if_true, bX12_letterNamed_5]
    rw [if_pos (by decide), e1, e2, h8, if_neg (fun e => absurd ((leN (by omega) (by omega)).mp e) (by omega)), if_pos (vpN (by omega) (by omega)), clN (by omega), hn i (by omega), h7, e3, ixN]
    by_cases c : ns i = l
    · rw [if_pos (lcmp0.mpr ((e27_q (hk i (by omega)) hl).mpr c)), if_pos c]
      unfold nAn
      rw [if_pos (by omega)]
    · rw [if_neg (fun e => c ((e27_q (hk i (by omega)) hl).mp (lcmp0.mp e))), if_neg c, addN1]
      exact ih (i + 1) k (by omega) hk'
/-- a word: the fault (0: none), how many letters, which -/
def aWd (T : aTp) (ns : Nat → List Nat) (L : Nat) : Nat → Nat → (Nat → Nat) → Nat → Nat × aO
  | 0, n, g, _ => (0, n, g)
  | m + 1, n, g, q =>
    if ¬ n = 0 ∧ (tokAt T q).1 = 0 then (0, n, g)
    else if tkNm (tokAt T q) = false then (1 + 16 * q, n, g)
    else if nIx ns (tokAt T q).2.2.2.1 L < L then (if n = 7 then (5 + 16 * q, n, g) else aWd T ns L m (n + 1) (upn g n (nIx ns (tokAt T q).2.2.2.1 L)) (skB T (tokAt T q).2.2.1))
    else (2 + 16 * q, n, g)
theorem tkNm2 {k : aTk} (h : tkNm k = true) : k.1 = 2 := by
  unfold tkNm at h
  rw [Bool.and_eq_true] at h
  exact of_decide_eq_true h.1
theorem skB_le {T : aTp} {p : Nat} (hp : p ≤ T.1) : skB T p ≤ T.1 := by
  obtain ⟨a, b, c, d⟩ := rnE_sp (P := isBl) (T := T) T.1 p (by omega)
  unfold skB; omega
theorem aWd_ok {T : aTp} {ns : Nat → List Nat} {L : Nat} : ∀ m n g q, q ≤ T.1 → n + m = 8 → okO L (n, g) → okO L (aWd T ns L m n g q).2 ∧ (aWd T ns L m n g q).1 ≤ 16016 + 5 ∨ 1000 < T.1 := by
  intro m
  induction m with
  | zero => intro n g q hq hn h; exact Or.inl ⟨h, by rw [aWd]; omega⟩
  | succ m ih =>
    intro n g q hq hn h
    by_cases hT : 1000 < T.1
    · exact Or.inr hT
    obtain ⟨e1, e2, e3, e4, e5, e6⟩ := tokAt_e hq
    rw [aWd]
    split
    · exact Or.inl ⟨h, by dsimp only; omega⟩
    · split
      · exact Or.inl ⟨h, by dsimp only; omega⟩
      · split
        · rename_i c
          split
          · exact Or.inl ⟨h, by dsimp only; omega⟩
          · have h1 : n ≤ 7 := h.1
            refine ih (n + 1) _ _ (skB_le e3) (by omega) ⟨by dsimp only; omega, fun i hi => ?_⟩
            dsimp only at hi ⊢
            unfold upn
            split
            · exact c
            · exact h.2 i (by dsimp only; omega)
        · exact Or.inl ⟨h, by dsimp only; omega⟩
