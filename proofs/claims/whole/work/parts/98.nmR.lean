/-! names of the region that is being read -/
theorem mLetR {S : gS} {L : Nat} {ns : Nat → List Nat} {l : List Nat} (hL : L ≤ 6) (h8 : sR S 182 4 = N L) (hn : ∀ i, i < L → sL S 184 (6 + i) = LN (e27 (ns i))) (hk : ∀ i, i < L → okN (ns i)) (hl : okN l) (h7 : sJ S 180 7 = LN (e27 l)) : ∀ m i k, i + m = L → m + 1 ≤ k → fX12_letterNamed k 5 S 1 (N (6 + i)) = some (S, nAn (ixN ns l m i) L) := by
  have e1 : Int32.toNatClampNeg (((3 : Int32) * 1) + (1 : Int32)) = 4 := by decide
  have e2 : ((6 : Int32) * 1) + N L = N (6 + L) := by rw [show (6 : Int32) * 1 = N 6 from rfl, addN]
  have e3 : ∀ i, N (6 + i) - ((6 : Int32) * 1) = N i := fun i => by rw [show (6 : Int32) * 1 = N 6 from rfl, subN (by omega)]; congr 1; omega
  intro m
  induction m with
  | zero =>
    intro i k hi hk2
    obtain ⟨k, rfl, -⟩ := kS (m := 0) hk2
    rw [fX12_letterNamed]
    simp only [if_true, bX12_letterNamed_5]
    rw [if_pos (by decide), e1, h8, e2, if_pos ((leN (by omega) (by omega)).mpr (by omega)), ixN]
    unfold nAn
    rw [if_neg (by omega)]
  | succ m ih =>
    intro i k hi hk2
    obtain ⟨k, rfl, hk'⟩ := kS (m := m + 1) hk2
    rw [fX12_letterNamed]
    simp only [if_true, bX12_letterNamed_5]
    rw [if_pos (by decide), e1, h8, e2, if_neg (fun e => absurd ((leN (by omega) (by omega)).mp e) (by omega)), if_pos (vpN (by omega) (by omega)), clN (by omega), hn i (by omega), h7, e3, ixN]
    by_cases c : ns i = l
    · rw [if_pos (lcmp0.mpr ((e27_q (hk i (by omega)) hl).mpr c)), if_pos c]
      unfold nAn
      rw [if_pos (by omega)]
    · rw [if_neg (fun e => c ((e27_q (hk i (by omega)) hl).mp (lcmp0.mp e))), if_neg c, addN1, Nat.add_assoc]
      exact ih (i + 1) k (by omega) hk'
theorem mMouR {S : gS} {L : Nat} {ns : Nat → List Nat} {l : List Nat} (hL : L ≤ 7) (h8 : sR S 182 3 = N L) (hn : ∀ i, i < L → sL S 183 (7 + i) = LN (e27 (ns i))) (hk : ∀ i, i < L → okN (ns i)) (hl : okN l) (h7 : sJ S 180 7 = LN (e27 l)) : ∀ m i k, i + m = L → m + 1 ≤ k → fX12_mouthNamed k 5 S 1 (N (7 + i)) = some (S, nAn (ixN ns l m i) L) := by
  have e1 : Int32.toNatClampNeg (((3 : Int32) * 1) + (0 : Int32)) = 3 := by decide
  have e2 : ((7 : Int32) * 1) + N L = N (7 + L) := by rw [show (7 : Int32) * 1 = N 7 from rfl, addN]
  have e3 : ∀ i, N (7 + i) - ((7 : Int32) * 1) = N i := fun i => by rw [show (7 : Int32) * 1 = N 7 from rfl, subN (by omega)]; congr 1; omega
  intro m
  induction m with
  | zero =>
    intro i k hi hk2
    obtain ⟨k, rfl, -⟩ := kS (m := 0) hk2
    rw [fX12_mouthNamed]
    simp only [if_true, bX12_mouthNamed_5]
    rw [if_pos (by decide), e1, h8, e2, if_pos ((leN (by omega) (by omega)).mpr (by omega)), ixN]
    unfold nAn
    rw [if_neg (by omega)]
  | succ m ih =>
    intro i k hi hk2
    obtain ⟨k, rfl, hk'⟩ := kS (m := m + 1) hk2
    rw [fX12_mouthNamed]
    simp only [if_true, bX12_mouthNamed_5]
    rw [if_pos (by decide), e1, h8, e2, if_neg (fun e => absurd ((leN (by omega) (by omega)).mp e) (by omega)), if_pos (vpN (by omega) (by omega)), clN (by omega), hn i (by omega), h7, e3, ixN]
    by_cases c : ns i = l
    · rw [if_pos (lcmp0.mpr ((e27_q (hk i (by omega)) hl).mpr c)), if_pos c]
      unfold nAn
      rw [if_pos (by omega)]
    · rw [if_neg (fun e => c ((e27_q (hk i (by omega)) hl).mp (lcmp0.mp e))), if_neg c, addN1, Nat.add_assoc]
      exact ih (i + 1) k (by omega) hk'
