/-! words of the language -/
def by1 (t : UInt32) (j : Nat) : Nat := Int32.toNatClampNeg ((g_by t).getD j 0)
def gl (t : UInt32) : Nat → List Nat
  | 0 => []
  | k + 1 => (by1 t k - 96) :: gl t k
def gLen (t : UInt32) : Nat := (g_by t).length
def gw (t : UInt32) : List Nat := gl t (gLen t)
def txt (t : UInt32) : Prop := gLen t ≤ 8 ∧ ∀ j, j < gLen t → 97 ≤ by1 t j ∧ by1 t j ≤ 122 ∧ (g_by t).getD j 0 = N (by1 t j)
theorem txts : ∀ k, k < 20 → txt (UInt32.ofNat (k + 2)) := by unfold txt gLen by1; decide +kernel
theorem ch8 : ∀ c, c < 128 → (Int32.toUInt32 ((N c &&& (255 : Int32))) % 65536).toInt32 = N c ∧ narrow .char (.int (N c)) = .int (N c) := by decide +kernel
theorem xCharAt {S : gS} {t : UInt32} {i : Nat} (ht : txt t) (hi : i < gLen t) : FJ0_charAt_5068e S t (N i) = some (S, N (by1 t i)) := by
  have h8 := ht.1
  obtain ⟨a, b, c⟩ := ht.2 i hi
  obtain ⟨e1, e2⟩ := ch8 (by1 t i) (by omega)
  unfold FJ0_charAt_5068e
  rw [jLat]
  simp only [g_b2, if_true]
  unfold FJ1_charAt_3b067 FJ0_checkIndex_df160 FJ3_checkIndex_8e157
  rw [if_neg (nN_lt0 (by omega)), if_pos (show N i < Int32.ofNat (g_by t).length from (ltN (by omega) (by unfold gLen at *; omega)).mpr hi)]
  simp only [g_b2, g_b1]
  have hi' : i < (g_by t).length := hi
  rw [if_pos (vpN hi' (by omega)), clN (by omega), c, e1, if_pos e2]
  simp only
  rw [if_pos e2]
theorem lts_len {T : aTp} {q : Nat} : ∀ n, (lts T q n).length = n := by
  intro n
  induction n with
  | zero => rfl
  | succ n ih => rw [lts, List.length_cons, ih]
theorem gl_len {t : UInt32} : ∀ n, (gl t n).length = n := by
  intro n
  induction n with
  | zero => rfl
  | succ n ih => rw [gl, List.length_cons, ih]
theorem lts_gl {T : aTp} {q : Nat} {t : UInt32} : ∀ n, (∀ i, i < n → 97 ≤ T.2 (q + i)) → (∀ i, i < n → 97 ≤ by1 t i) → (lts T q n = gl t n ↔ ∀ i, i < n → T.2 (q + i) = by1 t i) := by
  intro n
  induction n with
  | zero => intro _ _; exact ⟨fun _ i h => by omega, fun _ => rfl⟩
  | succ n ih =>
    intro h1 h2
    rw [lts, gl, List.cons.injEq, ih (fun i hi => h1 i (by omega)) (fun i hi => h2 i (by omega))]
    have a := h1 n (by omega)
    have b := h2 n (by omega)
    constructor
    · rintro ⟨x, y⟩ i hi
      by_cases e : i = n
      · subst e; omega
      · exact y i (by omega)
    · intro h
      exact ⟨by rw [h n (by omega)], fun i hi => h i (by omega)⟩
theorem tokAt_w {T : aTp} {q : Nat} (hq : q ≤ T.1) (hk : (tokAt T q).1 = 2) : (tokAt T q).2.2.2.1 = lts T q ((tokAt T q).2.2.1 - q) ∧ (tokAt T q).2.2.1 - q ≤ 8 ∧ q < (tokAt T q).2.2.1 ∧ (tokAt T q).2.2.1 ≤ T.1 ∧ ∀ i, q ≤ i → i < (tokAt T q).2.2.1 → isLt (T.2 i) = true := by
  obtain ⟨e1, e2, e3, e4, e5, e6⟩ := tokAt_e hq
  have hlt : q < T.1 := by
    by_cases e : q = T.1
    · have := e4.mpr e; omega
    · omega
  have e7 := e5 hlt
  revert hk e3 e7
  unfold tokAt
  rw [if_neg (by omega)]
  split
  · intro hk e3 e7
    dsimp only at hk e3 e7 ⊢
    obtain ⟨a, b, c, d⟩ := rnE_sp (P := isLt) (T := T) T.1 q (by omega)
    have : rnL T q - q ≤ 8 := by split at hk <;> omega
    exact ⟨rfl, this, e7, e3, fun i h1 h2 => (c i h1 h2).2⟩
  · split
    · intro hk _ _
      dsimp only at hk
      split at hk <;> omega
    · intro hk _ _
      dsimp only at hk
      split at hk <;> omega
def tkW (k : aTk) (t : UInt32) : Bool := decide (k.1 = 2 ∧ k.2.2.2.1 = gw t)
theorem xIsWl {S : gS} {T : aTp} {q : Nat} {t : UInt32} (hT : okT T) (hr : rwX S T) (h3 : sI S 1 3 = N q) (ht : txt t) (hl : q + gLen t ≤ T.1) : ∀ m i k, i + m = gLen t → m + 1 ≤ k → ∃ b, fX8_isWord k 39 S t (N i) = some (S, b) ∧ (b = true ↔ ∀ j, i ≤ j → j < gLen t → T.2 (q + j) = by1 t j) := by
  have h1000 := hT.1
  have h8 := ht.1
  have ejl : FJ0_length_8abf5 S t = some (S, N (gLen t)) := by rw [jLen]; exact congrArg (fun z => some (S, z)) (shr0 _ (by unfold gLen at h8; omega))
  intro m
  induction m with
  | zero =>
    intro i k hi hk
    obtain ⟨k, rfl, -⟩ := kS (m := 0) hk
    refine ⟨true, ?_, fun _ j a b => by omega, fun _ => rfl⟩
    rw [fX8_isWord]
    simp only [if_true, bX8_isWord_39]
    rw [ejl]
    simp only [g_b2]
    rw [if_pos ((leN (by omega) (by omega)).mpr (by omega))]
  | succ m ih =>
    intro i k hi hk
    obtain ⟨k, rfl, hk'⟩ := kS (m := m + 1) hk
    have hb := ht.2 i (by omega)
    have hc := hT.2 (q + i) (by omega)
    have hc2 : T.2 (q + i) < 200 := by unfold okC at hc; omega
    rw [fX8_isWord]
    simp only [if_true, bX8_isWord_39]
    rw [ejl]
    simp only [g_b2]
    rw [if_neg (fun h => absurd ((leN (by omega) (by omega)).mp h) (by omega)), h3, addN, if_pos (vpN (by omega) (by omega)), xCharAt ht (by omega)]
    simp only
    rw [clN (by omega), hr.2 (q + i) (by omega)]
    by_cases c : T.2 (q + i) = by1 t i
    · obtain ⟨b, e1, e2⟩ := ih (i + 1) k (by omega) hk'
      refine ⟨b, ?_, e2.trans ⟨fun h j a b => ?_, fun h j a b => h j (by omega) b⟩⟩
      · rw [if_pos ((eqN (by omega) (by omega)).mpr c), addN1]; exact e1
      · by_cases e : j = i
        · subst e; exact c
        · exact h j (by omega) b
    · refine ⟨false, ?_, fun h => absurd h Bool.false_ne_true, fun h => absurd (h i (Nat.le_refl _) (by omega)) c⟩
      rw [if_neg (fun h => c ((eqN (by omega) (by omega)).mp h))]
theorem xIsWord {S : gS} {T : aTp} {q : Nat} {t : UInt32} (hT : okT T) (hq : q ≤ T.1) (hk : tkX S T (tokAt T q)) (ht : txt t) : FX8_isWord S t = some (S, tkW (tokAt T q) t) := by
  have h1000 := hT.1
  have h8 := ht.1
  have ejl : FJ0_length_8abf5 S t = some (S, N (gLen t)) := by rw [jLen]; exact congrArg (fun z => some (S, z)) (shr0 _ (by unfold gLen at h8; omega))
  obtain ⟨e1, e2, e3, e4, e5, e6⟩ := tokAt_e hq
  obtain ⟨r1, r2, r3, r4, r5, r6, r7⟩ := hk
  unfold FX8_isWord tkW
  rw [r3]
  by_cases c2 : (tokAt T q).1 = 2
  · obtain ⟨w1, w2, w3, w4, w5⟩ := tokAt_w hq c2
    rw [if_pos (show N (tokAt T q).1 = (2 : Int32) from by rw [c2]; rfl), ejl]
    simp only [g_b2]
    rw [r4, r5, r1, e1, subN (by omega), w1]
    by_cases cl : (tokAt T q).2.2.1 - q = gLen t
    · rw [if_pos ((eqN (by omega) (by omega)).mpr cl), if_pos ((leN (by omega) (by omega)).mpr w4)]
      obtain ⟨b, g1, g2⟩ := xIsWl (S := S) (t := t) hT ⟨r1, r2⟩ (by rw [r4, e1]) ht (by omega) (gLen t) 0 FU (by omega) (by unfold FU; omega)
      rw [show (0 : Int32) = N 0 from rfl, g1]
      congr 2
      rw [Bool.eq_iff_iff, g2, decide_eq_true_iff, cl]
      have := lts_gl (T := T) (q := q) (t := t) (gLen t) (fun i hi => (of_decide_eq_true (w5 (q + i) (by omega) (by omega))).1) (fun i hi => (ht.2 i hi).1)
      exact ⟨fun h => ⟨c2, this.mpr (fun i hi => h i (by omega) hi)⟩, fun h j _ hj => this.mp h.2 j hj⟩
    · rw [if_neg (fun h => cl ((eqN (by omega) (by omega)).mp h))]
      congr 2
      symm
      rw [decide_eq_false_iff_not]
      rintro ⟨-, h⟩
      have := congrArg List.length h
      rw [lts_len, gw, gl_len] at this
      exact cl this
  · rw [if_neg (show ¬ N (tokAt T q).1 = (2 : Int32) from fun h => c2 ((eqN (b := 2) (by omega) (by omega)).mp h))]
    congr 2
    symm
    rw [decide_eq_false_iff_not]
    exact fun h => c2 h.1
