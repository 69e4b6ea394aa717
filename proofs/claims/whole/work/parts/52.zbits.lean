/-! bits -/
def tb (a : Int32) (j : Nat) : Bool := a.toBitVec.getLsbD j
theorem shm : ∀ m, m < 32 → ((N m &&& 31).toBitVec.smod 32#32).toNat = m := by decide +kernel
theorem tb_shl {a : Int32} {m j : Nat} (hm : m < 32) (hj : j < 32) : tb (a <<< (N m &&& 31)) j = (decide (m ≤ j) && tb a (j - m)) := by
  change (a.toBitVec <<< ((N m &&& 31).toBitVec.smod 32#32)).getLsbD j = _
  rw [BitVec.getLsbD_shiftLeft', shm m hm]
  have h1 : decide (j < 32) = true := decide_eq_true hj
  have h2 : (!decide (j < m)) = decide (m ≤ j) := by
    by_cases h : j < m
    · rw [decide_eq_true h, decide_eq_false (by omega)]; rfl
    · rw [decide_eq_false h, decide_eq_true (by omega)]; rfl
  rw [h1, h2, Bool.true_and]
  rfl
theorem tb_shr {a : Int32} {m j : Nat} (hm : m < 32) (hj : m + j < 32) : tb (a >>> (N m &&& 31)) j = tb a (m + j) := by
  change (a.toBitVec.sshiftRight' ((N m &&& 31).toBitVec.smod 32#32)).getLsbD j = _
  rw [BitVec.getLsbD_sshiftRight', shm m hm, if_pos hj, decide_eq_false (by omega)]
  rfl
theorem tb_and {a b : Int32} {j : Nat} : tb (a &&& b) j = (tb a j && tb b j) := by
  change (a &&& b).toBitVec.getLsbD j = _
  rw [Int32.toBitVec_and, BitVec.getLsbD_and]; rfl
theorem tb_or {a b : Int32} {j : Nat} : tb (a ||| b) j = (tb a j || tb b j) := by
  change (a ||| b).toBitVec.getLsbD j = _
  rw [Int32.toBitVec_or, BitVec.getLsbD_or]; rfl
theorem tb_xor {a b : Int32} {j : Nat} : tb (a ^^^ b) j = ((tb a j) ^^ (tb b j)) := by
  change (a ^^^ b).toBitVec.getLsbD j = _
  rw [Int32.toBitVec_xor, BitVec.getLsbD_xor]; rfl
theorem tb_one {j : Nat} : tb 1 j = decide (j = 0) := by
  change (1#32).getLsbD j = _
  rw [BitVec.getLsbD_one]; simp
theorem tb_zero {j : Nat} : tb 0 j = false := by
  change (0#32).getLsbD j = _
  simp
theorem tb_m1 {j : Nat} (hj : j < 32) : tb (-1) j = true := by
  have : ∀ j, j < 32 → tb (-1) j = true := by decide +kernel
  exact this j hj
theorem tb_ext {a b : Int32} (h : ∀ j, j < 32 → tb a j = tb b j) : a = b :=
  Int32.toBitVec.inj (BitVec.eq_of_getLsbD_eq (fun i hi => h i hi))
theorem tb_bit {m j : Nat} (hm : m < 32) (hj : j < 32) : tb (aBit m) j = decide (j = m) := by
  unfold aBit
  rw [tb_shl hm hj, tb_one]
  by_cases h : m ≤ j
  · rw [decide_eq_true h, Bool.true_and]
    by_cases h2 : j = m
    · rw [decide_eq_true h2, decide_eq_true (by omega)]
    · rw [decide_eq_false h2, decide_eq_false (by omega)]
  · rw [decide_eq_false h, Bool.false_and, decide_eq_false (by omega)]
theorem and1_0 {x : Int32} : x &&& 1 = 0 ↔ tb x 0 = false := by
  constructor
  · intro h
    have := congrArg (fun y => tb y 0) h
    simp only [tb_and, tb_one, tb_zero] at this
    simpa using this
  · intro h
    apply tb_ext
    intro j hj
    rw [tb_and, tb_one, tb_zero]
    by_cases h2 : j = 0
    · subst h2; rw [h]; rfl
    · rw [decide_eq_false h2, Bool.and_false]
theorem and1_1 {x : Int32} : x &&& 1 = 1 ↔ tb x 0 = true := by
  constructor
  · intro h
    have := congrArg (fun y => tb y 0) h
    simp only [tb_and, tb_one] at this
    simpa using this
  · intro h
    apply tb_ext
    intro j hj
    rw [tb_and, tb_one]
    by_cases h2 : j = 0
    · subst h2; rw [h]; rfl
    · rw [decide_eq_false h2, Bool.and_false]
theorem has_tb {a : Int32} {m : Nat} (hm : m < 32) : aHas a m = tb a m := by
  unfold aHas
  have e : tb (a >>> (N m &&& 31)) 0 = tb a m := tb_shr hm (by omega)
  cases h : tb a m with
  | false => exact decide_eq_false (fun c => c (and1_0.mpr (e.trans h)))
  | true => exact decide_eq_true (fun c => absurd (and1_0.mp c) (by rw [e, h]; decide))
theorem has_1 {a : Int32} {m : Nat} (hm : m < 32) : ((a >>> (N m &&& 31)) &&& (1 : Int32) = 1) ↔ aHas a m = true := by
  rw [has_tb hm, and1_1, tb_shr hm (by omega)]; rfl
theorem has_0 {a : Int32} {m : Nat} : ((a >>> (N m &&& 31)) &&& (1 : Int32) = 0) ↔ aHas a m = false := by
  unfold aHas
  constructor
  · intro h; exact decide_eq_false (fun c => c h)
  · intro h
    have := of_decide_eq_false h
    exact Classical.not_not.mp this
/-- one to one on the first n is onto them -/
theorem pig : ∀ (n : Nat) (f : Nat → Nat), (∀ i, i < n → f i < n) → (∀ i j, i < j → j < n → f i ≠ f j) → ∀ b, b < n → ∃ i, i < n ∧ f i = b := by
  intro n
  induction n with
  | zero => intro f _ _ b hb; omega
  | succ n ih =>
    intro f h1 h2 b hb
    by_cases hc : f n = n
    · by_cases hbn : b = n
      · exact ⟨n, by omega, by omega⟩
      · obtain ⟨i, hi, he⟩ := ih f (fun i hi => by have := h1 i (by omega); have := h2 i n hi (by omega); omega) (fun i j hij hj => h2 i j hij (by omega)) b (by omega)
        exact ⟨i, by omega, he⟩
    · have hcn : f n < n := by have := h1 n (by omega); omega
      have key := ih (fun i => if f i = n then f n else f i)
        (fun i hi => by
          have a := h1 i (by omega)
          have b := h2 i n hi (by omega)
          split <;> omega)
        (fun i j hij hj => by
          have a := h2 i j hij (by omega)
          have b := h2 i n (by omega) (by omega)
          have c := h2 j n hj (by omega)
          split <;> split <;> omega)
      by_cases hbn : b = n
      · obtain ⟨i, hi, he⟩ := key (f n) hcn
        by_cases hi2 : f i = n
        · exact ⟨i, by omega, by omega⟩
        · rw [if_neg hi2] at he
          exact absurd he (h2 i n hi (by omega))
      · obtain ⟨i, hi, he⟩ := key b (by omega)
        by_cases hi2 : f i = n
        · rw [if_pos hi2] at he
          exact ⟨n, by omega, he⟩
        · rw [if_neg hi2] at he
          exact ⟨i, by omega, he⟩
theorem sub_sub_s {a b : Int32} : a - (a - b) = b := by
  apply Int32.toBitVec.inj
  simp only [Int32.toBitVec_sub]
  bv_omega
