/-! the model reads a front -/
def mAq (S0 : gS) (R : Nat × aB) (r : gS × Bool) : Prop := mFr S0 r.1 ∧ (R.1 = 0 → r.2 = true ∧ dbM r.1 R.2) ∧ (¬ R.1 = 0 → r.2 = false ∧ sI r.1 180 9 = N R.1)
theorem mFrL {S0 : gS} {T : aTp} (hT : okT T) : ∀ m B q k S, q ≤ T.1 → T.1 < q + m → m + 2 ≤ k → mFr S0 S → okB B → dbM S B → tkM S T (tokAt T q) → wp (fX12_readsAll k 51 S 0) (mAq S0 (lnAll T m B q)) := by
  have h1000 := hT.1
  intro m
  induction m with
  | zero => intro B q k S hq hm; omega
  | succ m ih =>
    intro B q k S hq hm hk hS kB hB htk
    obtain ⟨k, rfl, hk'⟩ := kS (k := k) (m := m + 2) (by omega)
    have h4 := (tokAt_e hq).2.2.2.2.2
    rw [fX12_readsAll]
    simp only [if_true]
    rw [if_neg (by decide)]
    simp only [bX12_readsAll_51]
    rw [htk.2.2.1, lnAll]
    by_cases he : (tokAt T q).1 = 0
    · rw [if_pos he, if_pos (show N (mkk (tokAt T q).1) = (0 : Int32) from (mk1 _ (by omega) 0 (by omega)).mpr he), wp_some]
      exact ⟨hS, fun _ => ⟨rfl, hB⟩, fun h => absurd rfl h⟩
    rw [if_neg he, if_neg (show ¬ N (mkk (tokAt T q).1) = (0 : Int32) from fun h => he ((mk1 _ (by omega) 0 (by omega)).mp h))]
    obtain ⟨l1, l2⟩ := lnF_ok hT hq kB
    refine mFln (K := fun S b => if b = true then fX12_readsAll k 51 S 0 else some (S, false)) hT kB hB hq he htk ?_
    rintro ⟨U, b⟩ ⟨u1, ut, uf⟩
    dsimp only at u1 ut uf ⊢
    have uF := mFr_tr hS u1
    by_cases c : (lnF T B q).1 = 0
    · obtain ⟨a1, a2, a3⟩ := l2 c
      rw [if_neg (show ¬ ¬ (lnF T B q).1 = 0 from fun h => h c)]
      cases hs : isSe T (lnF T B q).2.1 with
      | false =>
        have ec : aCl T (lnF T B q) = 1 + 16 * (lnF T B q).2.1 := by
          unfold aCl
          rw [if_neg (show ¬ ¬ (lnF T B q).1 = 0 from fun h => h c), hs, if_pos rfl]
        obtain ⟨t1, t2⟩ := uf (by rw [ec]; omega)
        rw [t1, if_neg Bool.false_ne_true, if_pos rfl, wp_some]
        exact ⟨uF, fun h => by dsimp only at h; omega, fun _ => ⟨rfl, by rw [ec] at t2; exact t2⟩⟩
      | true =>
        have ec : aCl T (lnF T B q) = 0 := by
          unfold aCl
          rw [if_neg (show ¬ ¬ (lnF T B q).1 = 0 from fun h => h c), hs, if_neg (show ¬ true = false by decide)]
        obtain ⟨t1, t2, t3⟩ := ut ec
        have hk4 : ¬ (tokAt T (lnF T B q).2.1).1 = 0 := by
          have := (of_decide_eq_true hs).1
          omega
        have m1 := nx_lt a2 hk4
        rw [t1, if_pos rfl, if_neg (show ¬ true = false by decide)]
        exact ih (lnF T B q).2.2 (nx T (lnF T B q).2.1) k U (nx_le a2) (by omega) hk' uF a3 t3 t2
    · have ec : aCl T (lnF T B q) = (lnF T B q).1 := by
        unfold aCl
        rw [if_pos c]
      obtain ⟨t1, t2⟩ := uf (by rw [ec]; exact c)
      rw [t1, if_neg Bool.false_ne_true, if_pos c, wp_some]
      exact ⟨uF, fun h => absurd h c, fun _ => ⟨rfl, by rw [ec] at t2; exact t2⟩⟩
/-- what the model's reading leaves -/
def mRed (S0 : gS) (S : gS) : Prop := fr fB S0 S ∧ (∀ k, k = 53 ∨ k = 55 ∨ k = 56 → sI S 180 k = sI S0 180 k) ∧ sI S 180 1 = N 0 ∧ (∀ r j, j < pz r → sR S r j = sR S0 r j) ∧ ∀ r j, j < pl r → sL S r j = sL S0 r j
theorem mAllR {S : gS} {T : aTp} (hT : okT T) (h1 : sI S 180 1 = N T.1) (h2 : ∀ i, i < T.1 → sR S 181 i = N (T.2 i)) : wp (FX12_readsAll S) (fun r => mRed S r.1 ∧ ((lnAll T 1001 aB0 (skB T 0)).1 = 0 → r.2 = true ∧ dbM r.1 (lnAll T 1001 aB0 (skB T 0)).2) ∧ (¬ (lnAll T 1001 aB0 (skB T 0)).1 = 0 → r.2 = false ∧ sI r.1 180 9 = N (lnAll T 1001 aB0 (skB T 0)).1)) := by
  have h1000 := hT.1
  obtain ⟨k, ek, hk⟩ := FU_s
  obtain ⟨k, rfl, hk⟩ := kS (k := k) (m := 1100) (by omega)
  obtain ⟨k, rfl, hk⟩ := kS (k := k) (m := 1099) (by omega)
  obtain ⟨k, rfl, hk⟩ := kS (k := k) (m := 1098) (by omega)
  have t3 : Int32.toNatClampNeg ((3 : Int32) + 0) = 3 := by decide
  have t4 : Int32.toNatClampNeg ((3 : Int32) + (0 + 1)) = 4 := by decide
  have t5 : Int32.toNatClampNeg ((3 : Int32) + (0 + 1 + 1)) = 5 := by decide
  unfold FX12_readsAll
  rw [ek, fX12_readsAll]
  simp only [if_true, bX12_readsAll_2]
  rw [if_neg (show ¬ (3 : Int32) ≤ 0 by decide), if_pos (show g_vp ((3 : Int32) + 0) 6 = true by decide), t3, wp_lt, fX12_readsAll]
  simp only [if_true, bX12_readsAll_2]
  rw [if_neg (show ¬ (3 : Int32) ≤ 0 + 1 by decide), if_pos (show g_vp ((3 : Int32) + (0 + 1)) 6 = true by decide), t4, wp_lt, fX12_readsAll]
  simp only [if_true, bX12_readsAll_2]
  rw [if_neg (show ¬ (3 : Int32) ≤ 0 + 1 + 1 by decide), if_pos (show g_vp ((3 : Int32) + (0 + 1 + 1)) 6 = true by decide), t5, wp_lt, fX12_readsAll]
  simp only [if_true, bX12_readsAll_2]
  rw [if_pos (show (3 : Int32) ≤ 0 + 1 + 1 + 1 by decide), wp_lt, wp_lt, wp_lt, wp_b1]
  unfold FX12_begins
  rw [wp_lt, wp_lt, wp_lt, wp_b1]
  generalize hA : uR (uR (uR (uR (uR S 182 3 0) 182 4 0) 182 5 0) 192 1 1000) 193 1 1000 = A
  have aR : ∀ r j, ¬ (r = 182 ∧ 3 ≤ j) → ¬ (r = 192 ∧ j = 1) → ¬ (r = 193 ∧ j = 1) → sR A r j = sR S r j := by
    intro r j q1 q2 q3
    rw [← hA, R_uR, if_neg q3, R_uR, if_neg q2, R_uR, if_neg (by omega), R_uR, if_neg (by omega), R_uR, if_neg (by omega)]
  have a3 : sR A 182 3 = N 0 := by rw [← hA, R_uR, if_neg (by omega), R_uR, if_neg (by omega), R_uR, if_neg (by omega), R_uR, if_neg (by omega), R_self]; rfl
  have a4 : sR A 182 4 = N 0 := by rw [← hA, R_uR, if_neg (by omega), R_uR, if_neg (by omega), R_uR, if_neg (by omega), R_self]; rfl
  have a5 : sR A 182 5 = N 0 := by rw [← hA, R_uR, if_neg (by omega), R_uR, if_neg (by omega), R_self]; rfl
  have a6 : sR A 192 1 = N 1000 := by rw [← hA, R_uR, if_neg (by omega), R_self]; rfl
  have a7 : sR A 193 1 = N 1000 := by rw [← hA, R_self]; rfl
  have aI : ∀ b j, sI A b j = sI S b j := by intro b j; rw [← hA]; rfl
  have aL : ∀ b, sL A b = sL S b := by intro b; rw [← hA]; rfl
  have aF : fr fB S A := by
    rw [← hA]
    exact fr_uR (fr_uR (fr_uR (fr_uR (fr_uR fr_rf (by decide)) (by decide)) (by decide)) (by decide)) (by decide)
  clear hA
  have e1 : sI (uI A 180 23 1000) 180 1 = N T.1 := by rw [I_uI, if_neg (by omega), aI]; exact h1
  rw [e1]
  generalize hV : uI (uI (uI (uI A 180 23 1000) 180 3 (N T.1)) 180 1 0) 180 4 0 = V
  have vI : ∀ j, j ≠ 23 → j ≠ 3 → j ≠ 1 → j ≠ 4 → sI V 180 j = sI S 180 j := by
    intro j q1 q2 q3 q4
    rw [← hV, I_uI, if_neg (by omega), I_uI, if_neg (by omega), I_uI, if_neg (by omega), I_uI, if_neg (by omega), aI]
  have v23 : sI V 180 23 = N 1000 := by rw [← hV, I_uI, if_neg (by omega), I_uI, if_neg (by omega), I_uI, if_neg (by omega), I_self]; rfl
  have v3 : sI V 180 3 = N T.1 := by rw [← hV, I_uI, if_neg (by omega), I_uI, if_neg (by omega), I_self]
  have v1 : sI V 180 1 = N 0 := by rw [← hV, I_uI, if_neg (by omega), I_self]; rfl
  have v4 : sI V 180 4 = N 0 := by rw [← hV, I_self]; rfl
  have vR : ∀ r, sR V r = sR A r := by intro r; rw [← hV]; rfl
  have vL : ∀ r, sL V r = sL S r := by intro r; rw [← aL, ← hV]; rfl
  have vF : fr fB S V := by
    rw [← hV]
    exact fr_uI (fr_uI (fr_uI (fr_uI aF (by decide)) (by decide)) (by decide)) (by decide)
  clear hV
  refine wp_mono (mNext (S := V) (T := T) (p := 0) hT (by omega) ⟨v3, fun i hi => by rw [vR, aR 181 i (by omega) (by omega) (by omega)]; exact h2 i hi⟩ v4) ?_
  rintro U ⟨u1, u2⟩
  rw [wp_some]
  have uF : mFr V U := mFr_k mFr_rf u1
  have uB : dbM U aB0 := by
    refine ⟨?_, ?_, ?_, fun i hi => absurd hi (Nat.not_lt_zero i), fun i hi => absurd hi (Nat.not_lt_zero i), fun i hi => absurd hi (Nat.not_lt_zero i), ⟨?_, ?_, ?_, trivial⟩, fun i hi => absurd hi (Nat.not_lt_zero i), fun i hi => absurd hi (Nat.not_lt_zero i)⟩
    · rw [k1R u1 (by omega), vR]; exact a3
    · rw [k1R u1 (by omega), vR]; exact a4
    · rw [k1R u1 (by omega), vR]; exact a5
    · rw [k1R u1 (by omega), vR]; exact a6
    · rw [k1R u1 (by omega), vR]; exact a7
    · rw [u1.2.1 23 (by omega)]; exact v23
  refine wp_mono (mFrL hT 1001 aB0 (skB T 0) k U (skB_le (by omega)) (by omega) (by omega) uF okB0 uB u2) ?_
  rintro r ⟨q1, q2, q3⟩
  refine ⟨⟨fr_tr vF q1.1, fun j hj => ?_, ?_, fun r j hj => ?_, fun r j hj => ?_⟩, q2, q3⟩
  · rw [q1.2.1 j (by omega)]; exact vI j (by omega) (by omega) (by omega) (by omega)
  · rw [q1.2.1 1 (by omega)]; exact v1
  · rw [q1.2.2.1 r j hj, vR, aR r j (fun z => by rw [z.1, show pz 182 = 3 from rfl] at hj; omega) (fun z => by rw [z.1, z.2, show pz 192 = 1 from rfl] at hj; omega) (fun z => by rw [z.1, z.2, show pz 193 = 1 from rfl] at hj; omega)]
  · rw [q1.2.2.2 r j hj, vL]
/-! what is read is laid -/
abbrev lyB : List Nat := [182, 183, 184, 185, 186, 187, 188, 189, 190, 191, 192, 193, 194]
theorem mShL {S0 : gS} {a m0 n : Nat} (h : 2 * n ≤ m0) (hm0 : m0 < 2147483648) : ∀ m i k S, i + m = n → m + 1 ≤ k → fr [a] S0 S → (∀ j, j < i → sR S a j = sR S0 a (n + j)) → (∀ j, i ≤ j → sR S a j = sR S0 a j) → wp (fX12_shifts m0 k 2 S a (N n) (N i)) (fun U => fr [a] S0 U ∧ ∀ j, j < n → sR U a j = sR S0 a (n + j)) := by
  intro m
  induction m with
  | zero =>
    intro i k S hi hk hS h1 h2
    obtain ⟨k, rfl, -⟩ := kS (m := 0) (k := k) hk
    rw [fX12_shifts]
    simp only [if_true, bX12_shifts_2]
    rw [if_pos ((leN (by omega) (by omega)).mpr (by omega)), wp_some]
    exact ⟨hS, fun j hj => h1 j (by omega)⟩
  | succ m ih =>
    intro i k S hi hk hS h1 h2
    obtain ⟨k, rfl, hk'⟩ := kS (k := k) (m := m + 1) hk
    rw [fX12_shifts]
    simp only [if_true, bX12_shifts_2]
    rw [if_neg (fun e => absurd ((leN (by omega) (by omega)).mp e) (by omega)), addN, addN1, if_pos (vpN (by omega) (by omega)), if_pos (vpN (by omega) (by omega)), clN (k := i) (by omega), clN (k := n + i) (by omega), wp_lt]
    refine ih (i + 1) k _ (by omega) hk' (fr_uR hS (by simp)) (fun j hj => ?_) (fun j hj => ?_)
    · rw [R_uR]
      by_cases c : j = i
      · rw [if_pos ⟨rfl, c⟩, c]; exact h2 _ (by omega)
      · rw [if_neg (fun z => c z.2)]; exact h1 j (by omega)
    · rw [R_uR, if_neg (by omega)]; exact h2 j (by omega)
theorem mShf {S : gS} {a m0 n : Nat} (h : 2 * n ≤ m0) (hm0 : m0 < 900000) : wp (FX12_shifts S a m0 (N n)) (fun U => fr [a] S U ∧ ∀ j, j < n → sR U a j = sR S a (n + j)) := by
  unfold FX12_shifts
  exact mShL h (by omega) n 0 FU S (by omega) (by unfold FU; omega) fr_rf (fun j hj => by omega) (fun _ _ => rfl)
theorem mShNL {S0 : gS} {a m0 n : Nat} (h : 2 * n ≤ m0) (hm0 : m0 < 2147483648) : ∀ m i k S, i + m = n → m + 1 ≤ k → fr [a] S0 S → (∀ j, j < i → sL S a j = sL S0 a (n + j)) → (∀ j, i ≤ j → sL S a j = sL S0 a j) → wp (fX12_shiftsNames m0 k 2 S a (N n) (N i)) (fun U => fr [a] S0 U ∧ ∀ j, j < n → sL U a j = sL S0 a (n + j)) := by
  intro m
  induction m with
  | zero =>
    intro i k S hi hk hS h1 h2
    obtain ⟨k, rfl, -⟩ := kS (m := 0) (k := k) hk
    rw [fX12_shiftsNames]
    simp only [if_true, bX12_shiftsNames_2]
    rw [if_pos ((leN (by omega) (by omega)).mpr (by omega)), wp_some]
    exact ⟨hS, fun j hj => h1 j (by omega)⟩
  | succ m ih =>
    intro i k S hi hk hS h1 h2
    obtain ⟨k, rfl, hk'⟩ := kS (k := k) (m := m + 1) hk
    rw [fX12_shiftsNames]
    simp only [if_true, bX12_shiftsNames_2]
    rw [if_neg (fun e => absurd ((leN (by omega) (by omega)).mp e) (by omega)), addN, addN1, if_pos (vpN (by omega) (by omega)), if_pos (vpN (by omega) (by omega)), clN (k := i) (by omega), clN (k := n + i) (by omega), wp_lt]
    refine ih (i + 1) k _ (by omega) hk' (fr_uL hS (by simp)) (fun j hj => ?_) (fun j hj => ?_)
    · rw [L_uL]
      by_cases c : j = i
      · rw [if_pos ⟨rfl, c⟩, c]; exact h2 _ (by omega)
      · rw [if_neg (fun z => c z.2)]; exact h1 j (by omega)
    · rw [L_uL, if_neg (by omega)]; exact h2 j (by omega)
theorem mShfN {S : gS} {a m0 n : Nat} (h : 2 * n ≤ m0) (hm0 : m0 < 900000) : wp (FX12_shiftsNames S a m0 (N n)) (fun U => fr [a] S U ∧ ∀ j, j < n → sL U a j = sL S a (n + j)) := by
  unfold FX12_shiftsNames
  exact mShNL h (by omega) n 0 FU S (by omega) (by unfold FU; omega) fr_rf (fun j hj => by omega) (fun _ _ => rfl)
theorem mLaid {S : gS} {x y : Int32} (h2 : sR S 192 1 = x) (h3 : sR S 193 1 = y) : wp (FX12_lays S) (fun U => fr lyB S U ∧ (∀ j, j < 3 → sR U 182 j = sR S 182 (3 + j)) ∧ (∀ j, j < 7 → sL U 183 j = sL S 183 (7 + j)) ∧ (∀ j, j < 6 → sL U 184 j = sL S 184 (6 + j)) ∧ (∀ j, j < 7 → sR U 185 j = sR S 185 (7 + j)) ∧ (∀ j, j < 7 → sR U 186 j = sR S 186 (7 + j)) ∧ (∀ j, j < 7 → sR U 187 j = sR S 187 (7 + j)) ∧ (∀ j, j < 7 → sR U 188 j = sR S 188 (7 + j)) ∧ (∀ j, j < 7 → sR U 189 j = sR S 189 (7 + j)) ∧ (∀ j, j < 6 → sR U 190 j = sR S 190 (6 + j)) ∧ (∀ j, j < 12 → sR U 191 j = sR S 191 (12 + j)) ∧ (∀ j, j < 1000 → sR U 194 j = sR S 194 (1000 + j)) ∧ sR U 192 0 = x - 1000 ∧ sR U 193 0 = y - 1000) := by
  have nm : ∀ a b : Nat, b ≠ a → b ∉ [a] := by intro a b hb; simp only [List.mem_cons, List.not_mem_nil, or_false]; omega
  have up : ∀ {a : Nat} {P Q R : gS}, 182 ≤ a → a ≤ 194 → fr lyB P Q → fr [a] Q R → fr lyB P R := by
    intro a P Q R h1 h2 hp hq
    exact fr_tr hp (fr_mo hq (by intro b hb; simp only [List.mem_cons, List.not_mem_nil, or_false] at hb ⊢; omega))
  unfold FX12_lays
  rw [wp_b1]
  refine wp_mono (mShf (S := S) (a := 182) (m0 := 6) (n := 3) (by omega) (by omega)) ?_
  rintro S1 ⟨h1', r1⟩
  rw [wp_b1]
  refine wp_mono (mShfN (S := S1) (a := 183) (m0 := 14) (n := 7) (by omega) (by omega)) ?_
  rintro S2 ⟨h2', r2⟩
  rw [wp_b1]
  refine wp_mono (mShfN (S := S2) (a := 184) (m0 := 12) (n := 6) (by omega) (by omega)) ?_
  rintro S3 ⟨h3', r3⟩
  rw [wp_b1]
  refine wp_mono (mShf (S := S3) (a := 185) (m0 := 14) (n := 7) (by omega) (by omega)) ?_
  rintro S4 ⟨h4', r4⟩
  rw [wp_b1]
  refine wp_mono (mShf (S := S4) (a := 186) (m0 := 14) (n := 7) (by omega) (by omega)) ?_
  rintro S5 ⟨h5', r5⟩
  rw [wp_b1]
  refine wp_mono (mShf (S := S5) (a := 187) (m0 := 14) (n := 7) (by omega) (by omega)) ?_
  rintro S6 ⟨h6', r6⟩
  rw [wp_b1]
  refine wp_mono (mShf (S := S6) (a := 188) (m0 := 14) (n := 7) (by omega) (by omega)) ?_
  rintro S7 ⟨h7', r7⟩
  rw [wp_b1]
  refine wp_mono (mShf (S := S7) (a := 189) (m0 := 14) (n := 7) (by omega) (by omega)) ?_
  rintro S8 ⟨h8', r8⟩
  rw [wp_b1]
  refine wp_mono (mShf (S := S8) (a := 190) (m0 := 12) (n := 6) (by omega) (by omega)) ?_
  rintro S9 ⟨h9', r9⟩
  rw [wp_b1]
  refine wp_mono (mShf (S := S9) (a := 191) (m0 := 24) (n := 12) (by omega) (by omega)) ?_
  rintro S10 ⟨h10', r10⟩
  rw [wp_b1]
  refine wp_mono (mShf (S := S10) (a := 194) (m0 := 2000) (n := 1000) (by omega) (by omega)) ?_
  rintro S11 ⟨h11', r11⟩
  rw [wp_lt, wp_lt, wp_some]
  have f1 := up (by omega) (by omega) (fr_rf (L := lyB) (S := S)) h1'
  have f2 := up (by omega) (by omega) f1 h2'
  have f3 := up (by omega) (by omega) f2 h3'
  have f4 := up (by omega) (by omega) f3 h4'
  have f5 := up (by omega) (by omega) f4 h5'
  have f6 := up (by omega) (by omega) f5 h6'
  have f7 := up (by omega) (by omega) f6 h7'
  have f8 := up (by omega) (by omega) f7 h8'
  have f9 := up (by omega) (by omega) f8 h9'
  have f10 := up (by omega) (by omega) f9 h10'
  have f11 := up (by omega) (by omega) f10 h11'
  have z2 : sR S11 192 1 = x := by rw [frR h11' (nm _ 192 (by omega)), frR h10' (nm _ 192 (by omega)), frR h9' (nm _ 192 (by omega)), frR h8' (nm _ 192 (by omega)), frR h7' (nm _ 192 (by omega)), frR h6' (nm _ 192 (by omega)), frR h5' (nm _ 192 (by omega)), frR h4' (nm _ 192 (by omega)), frR h3' (nm _ 192 (by omega)), frR h2' (nm _ 192 (by omega)), frR h1' (nm _ 192 (by omega))]; exact h2
  have z3 : sR S11 193 1 = y := by rw [frR h11' (nm _ 193 (by omega)), frR h10' (nm _ 193 (by omega)), frR h9' (nm _ 193 (by omega)), frR h8' (nm _ 193 (by omega)), frR h7' (nm _ 193 (by omega)), frR h6' (nm _ 193 (by omega)), frR h5' (nm _ 193 (by omega)), frR h4' (nm _ 193 (by omega)), frR h3' (nm _ 193 (by omega)), frR h2' (nm _ 193 (by omega)), frR h1' (nm _ 193 (by omega))]; exact h3
  refine ⟨fr_uR (fr_uR f11 (by simp)) (by simp), fun j hj => ?_, fun j hj => ?_, fun j hj => ?_, fun j hj => ?_, fun j hj => ?_, fun j hj => ?_, fun j hj => ?_, fun j hj => ?_, fun j hj => ?_, fun j hj => ?_, fun j hj => ?_, ?_, ?_⟩
  · rw [R_uR, if_neg (by omega), R_uR, if_neg (by omega)]; rw [frR h11' (nm _ 182 (by omega)), frR h10' (nm _ 182 (by omega)), frR h9' (nm _ 182 (by omega)), frR h8' (nm _ 182 (by omega)), frR h7' (nm _ 182 (by omega)), frR h6' (nm _ 182 (by omega)), frR h5' (nm _ 182 (by omega)), frR h4' (nm _ 182 (by omega)), frR h3' (nm _ 182 (by omega)), frR h2' (nm _ 182 (by omega)), r1 j hj]
  · show sL S11 183 j = _; rw [frL h11' (nm _ 183 (by omega)), frL h10' (nm _ 183 (by omega)), frL h9' (nm _ 183 (by omega)), frL h8' (nm _ 183 (by omega)), frL h7' (nm _ 183 (by omega)), frL h6' (nm _ 183 (by omega)), frL h5' (nm _ 183 (by omega)), frL h4' (nm _ 183 (by omega)), frL h3' (nm _ 183 (by omega)), r2 j hj, frL h1' (nm _ 183 (by omega))]
  · show sL S11 184 j = _; rw [frL h11' (nm _ 184 (by omega)), frL h10' (nm _ 184 (by omega)), frL h9' (nm _ 184 (by omega)), frL h8' (nm _ 184 (by omega)), frL h7' (nm _ 184 (by omega)), frL h6' (nm _ 184 (by omega)), frL h5' (nm _ 184 (by omega)), frL h4' (nm _ 184 (by omega)), r3 j hj, frL h2' (nm _ 184 (by omega)), frL h1' (nm _ 184 (by omega))]
  · rw [R_uR, if_neg (by omega), R_uR, if_neg (by omega)]; rw [frR h11' (nm _ 185 (by omega)), frR h10' (nm _ 185 (by omega)), frR h9' (nm _ 185 (by omega)), frR h8' (nm _ 185 (by omega)), frR h7' (nm _ 185 (by omega)), frR h6' (nm _ 185 (by omega)), frR h5' (nm _ 185 (by omega)), r4 j hj, frR h3' (nm _ 185 (by omega)), frR h2' (nm _ 185 (by omega)), frR h1' (nm _ 185 (by omega))]
  · rw [R_uR, if_neg (by omega), R_uR, if_neg (by omega)]; rw [frR h11' (nm _ 186 (by omega)), frR h10' (nm _ 186 (by omega)), frR h9' (nm _ 186 (by omega)), frR h8' (nm _ 186 (by omega)), frR h7' (nm _ 186 (by omega)), frR h6' (nm _ 186 (by omega)), r5 j hj, frR h4' (nm _ 186 (by omega)), frR h3' (nm _ 186 (by omega)), frR h2' (nm _ 186 (by omega)), frR h1' (nm _ 186 (by omega))]
  · rw [R_uR, if_neg (by omega), R_uR, if_neg (by omega)]; rw [frR h11' (nm _ 187 (by omega)), frR h10' (nm _ 187 (by omega)), frR h9' (nm _ 187 (by omega)), frR h8' (nm _ 187 (by omega)), frR h7' (nm _ 187 (by omega)), r6 j hj, frR h5' (nm _ 187 (by omega)), frR h4' (nm _ 187 (by omega)), frR h3' (nm _ 187 (by omega)), frR h2' (nm _ 187 (by omega)), frR h1' (nm _ 187 (by omega))]
  · rw [R_uR, if_neg (by omega), R_uR, if_neg (by omega)]; rw [frR h11' (nm _ 188 (by omega)), frR h10' (nm _ 188 (by omega)), frR h9' (nm _ 188 (by omega)), frR h8' (nm _ 188 (by omega)), r7 j hj, frR h6' (nm _ 188 (by omega)), frR h5' (nm _ 188 (by omega)), frR h4' (nm _ 188 (by omega)), frR h3' (nm _ 188 (by omega)), frR h2' (nm _ 188 (by omega)), frR h1' (nm _ 188 (by omega))]
  · rw [R_uR, if_neg (by omega), R_uR, if_neg (by omega)]; rw [frR h11' (nm _ 189 (by omega)), frR h10' (nm _ 189 (by omega)), frR h9' (nm _ 189 (by omega)), r8 j hj, frR h7' (nm _ 189 (by omega)), frR h6' (nm _ 189 (by omega)), frR h5' (nm _ 189 (by omega)), frR h4' (nm _ 189 (by omega)), frR h3' (nm _ 189 (by omega)), frR h2' (nm _ 189 (by omega)), frR h1' (nm _ 189 (by omega))]
  · rw [R_uR, if_neg (by omega), R_uR, if_neg (by omega)]; rw [frR h11' (nm _ 190 (by omega)), frR h10' (nm _ 190 (by omega)), r9 j hj, frR h8' (nm _ 190 (by omega)), frR h7' (nm _ 190 (by omega)), frR h6' (nm _ 190 (by omega)), frR h5' (nm _ 190 (by omega)), frR h4' (nm _ 190 (by omega)), frR h3' (nm _ 190 (by omega)), frR h2' (nm _ 190 (by omega)), frR h1' (nm _ 190 (by omega))]
  · rw [R_uR, if_neg (by omega), R_uR, if_neg (by omega)]; rw [frR h11' (nm _ 191 (by omega)), r10 j hj, frR h9' (nm _ 191 (by omega)), frR h8' (nm _ 191 (by omega)), frR h7' (nm _ 191 (by omega)), frR h6' (nm _ 191 (by omega)), frR h5' (nm _ 191 (by omega)), frR h4' (nm _ 191 (by omega)), frR h3' (nm _ 191 (by omega)), frR h2' (nm _ 191 (by omega)), frR h1' (nm _ 191 (by omega))]
  · rw [R_uR, if_neg (by omega), R_uR, if_neg (by omega)]; rw [r11 j hj, frR h10' (nm _ 194 (by omega)), frR h9' (nm _ 194 (by omega)), frR h8' (nm _ 194 (by omega)), frR h7' (nm _ 194 (by omega)), frR h6' (nm _ 194 (by omega)), frR h5' (nm _ 194 (by omega)), frR h4' (nm _ 194 (by omega)), frR h3' (nm _ 194 (by omega)), frR h2' (nm _ 194 (by omega)), frR h1' (nm _ 194 (by omega))]
  · rw [R_uR, if_neg (by omega), R_self, z2]
  · rw [R_self, R_uR, if_neg (by omega), z3]
