/-! a word and a number -/
def aMs (T : aTp) (t : UInt32) (lo hi q : Nat) : Nat × Nat × Nat :=
  if tkW (tokAt T q) t = false then (1 + 16 * q, 0, 0)
  else if ¬ (tokAt T (skB T (tokAt T q).2.2.1)).1 = 3 then (1 + 16 * skB T (tokAt T q).2.2.1, 0, 0)
  else if ¬ (lo ≤ (tokAt T (skB T (tokAt T q).2.2.1)).2.2.2.2 ∧ (tokAt T (skB T (tokAt T q).2.2.1)).2.2.2.2 ≤ hi) then (4 + 16 * skB T (tokAt T q).2.2.1, 0, 0)
  else (0, skB T (tokAt T (skB T (tokAt T q).2.2.1)).2.2.1, (tokAt T (skB T (tokAt T q).2.2.1)).2.2.2.2)
theorem aMs_ok {T : aTp} {t : UInt32} {lo hi q : Nat} (hT : okT T) (hq : q ≤ T.1) : (aMs T t lo hi q).1 ≤ 17000 ∧ ((aMs T t lo hi q).1 = 0 → (aMs T t lo hi q).2.1 ≤ T.1 ∧ lo ≤ (aMs T t lo hi q).2.2 ∧ (aMs T t lo hi q).2.2 ≤ hi) := by
  have h1000 := hT.1
  have s1 := skB_le (tokAt_e hq).2.2.1
  have s2 := skB_le (tokAt_e s1).2.2.1
  unfold aMs
  split
  · exact ⟨by dsimp only; omega, fun h => by dsimp only at h; omega⟩
  · split
    · exact ⟨by dsimp only; omega, fun h => by dsimp only at h; omega⟩
    · split
      · exact ⟨by dsimp only; omega, fun h => by dsimp only at h; omega⟩
      · rename_i h
        have h2 := Decidable.not_not.mp h
        exact ⟨by dsimp only; omega, fun _ => ⟨s2, h2.1, h2.2⟩⟩
def xMp (S0 : gS) (T : aTp) (R : Nat × Nat × Nat) (r : gS × Int32) : Prop := fr [1] S0 r.1 ∧ (R.1 = 0 → r.2 = N R.2.2 ∧ tkX r.1 T (tokAt T R.2.1) ∧ sI r.1 1 7 = 0) ∧ (¬ R.1 = 0 → r.2 = -1 ∧ sI r.1 1 7 = N R.1)
theorem xNum {S : gS} {T : aTp} {q lo hi : Nat} (hT : okT T) (hq : q ≤ T.1) (htk : tkX S T (tokAt T q)) (h7 : sI S 1 7 = 0) (hlo : lo ≤ 40) (hhi : hi ≤ 40) : wp (FX8_takeNumber S (N lo) (N hi)) (xMp S T (if ¬ (tokAt T q).1 = 3 then (1 + 16 * q, 0, 0) else if ¬ (lo ≤ (tokAt T q).2.2.2.2 ∧ (tokAt T q).2.2.2.2 ≤ hi) then (4 + 16 * q, 0, 0) else (0, skB T (tokAt T q).2.2.1, (tokAt T q).2.2.2.2))) := by
  have h1000 := hT.1
  obtain ⟨e1, e2, e3, e4, e5, e6⟩ := tokAt_e hq
  have h3 : sI S 1 3 = N q := by rw [htk.2.2.2.1, e1]
  have bad : ∀ c z, ¬ c = 0 → wp (g_b2 (FX8_fail S (N c)) (fun S1 _ => some (S1, (-1 : Int32)))) (xMp S T (c + 16 * q, z)) := by
    intro c z hc
    rw [xFail h7 h3, wp_b2, wp_some, wp_some]
    exact ⟨fr_uI fr_rf (by simp), fun h => by dsimp only at h; omega, fun _ => ⟨rfl, I_self⟩⟩
  unfold FX8_takeNumber
  rw [htk.2.2.1]
  by_cases k3 : (tokAt T q).1 = 3
  · have e6' := htk.2.2.2.2.2.2 k3
    have nub : (tokAt T q).2.2.2.2 < 2147483648 := tkN_b k3
    rw [if_pos (show N (tokAt T q).1 = (3 : Int32) by rw [k3]; rfl), if_neg (show ¬ ¬ (tokAt T q).1 = 3 from fun h => h k3), e6']
    generalize (tokAt T q).2.2.2.2 = nu at *
    by_cases lo1 : lo ≤ nu
    · rw [if_neg (show ¬ N nu < N lo from fun h => absurd ((ltN nub (by omega)).mp h) (by omega))]
      by_cases hi1 : nu ≤ hi
      · rw [if_pos ((leN nub (by omega)).mpr hi1), if_neg (show ¬ ¬ (lo ≤ nu ∧ nu ≤ hi) from fun h => h ⟨lo1, hi1⟩), wp_b1]
        refine wp_mono (xAdvT hT hq htk) ?_
        rintro U ⟨u1, u2⟩
        rw [wp_some]
        exact ⟨u1.1, fun _ => ⟨rfl, u2, u1.2.1.trans h7⟩, fun h => absurd rfl h⟩
      · rw [if_neg (fun h => hi1 ((leN nub (by omega)).mp h)), if_pos (show ¬ (lo ≤ nu ∧ nu ≤ hi) from fun h => hi1 h.2)]
        exact bad 4 _ (by omega)
    · rw [if_pos ((ltN nub (by omega)).mpr (by omega)), if_pos (show ¬ (lo ≤ nu ∧ nu ≤ hi) from fun h => lo1 h.1)]
      exact bad 4 _ (by omega)
  · rw [if_neg (show ¬ N (tokAt T q).1 = (3 : Int32) from fun h => k3 ((eqN (b := 3) (by omega) (by omega)).mp h)), if_pos k3]
    exact bad 1 _ (by omega)
theorem xMeas {S : gS} {T : aTp} {t : UInt32} {q lo hi : Nat} (hT : okT T) (hq : q ≤ T.1) (ht : txt t) (htk : tkX S T (tokAt T q)) (h7 : sI S 1 7 = 0) (hlo : lo ≤ 40) (hhi : hi ≤ 40) : wp (FX2_readMeasure S t (N lo) (N hi)) (xMp S T (aMs T t lo hi q)) := by
  have h1000 := hT.1
  obtain ⟨e1, e2, e3, e4, e5, e6⟩ := tokAt_e hq
  have h3 : sI S 1 3 = N q := by rw [htk.2.2.2.1, e1]
  unfold FX2_readMeasure FX8_takeWord aMs
  rw [xIsWord hT hq htk ht, wp_b2, wp_b2, wp_some]
  dsimp only
  cases hw : tkW (tokAt T q) t with
  | false =>
    rw [if_neg Bool.false_ne_true, if_pos rfl, show (1 : Int32) = N 1 from rfl, xFail h7 h3, wp_b2, wp_some, wp_some]
    dsimp only
    rw [if_neg Bool.false_ne_true, wp_some]
    exact ⟨fr_uI fr_rf (by simp), fun h => by dsimp only at h; omega, fun _ => ⟨rfl, I_self⟩⟩
  | true =>
    rw [if_pos rfl, if_neg (show ¬ true = false by decide), wp_b1]
    refine wp_mono (xAdvT hT hq htk) ?_
    rintro U ⟨u1, u2⟩
    rw [wp_some]
    dsimp only
    rw [if_pos rfl, wp_b2]
    refine wp_mono (xNum hT (skB_le e3) u2 (u1.2.1.trans h7) hlo hhi) ?_
    rintro ⟨V, v⟩ ⟨v1, v2⟩
    rw [wp_some]
    exact ⟨fr_tr u1.1 v1, v2⟩
