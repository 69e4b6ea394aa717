/-! a line of a day -/
theorem txtA : ∀ k, k < 4 → txt (UInt32.ofNat (k + 41)) := by unfold txt gLen by1; decide +kernel
theorem txt41 : txt 41 := txtA 0 (by omega)
theorem txt42 : txt 42 := txtA 1 (by omega)
theorem txt43 : txt 43 := txtA 2 (by omega)
theorem txt44 : txt 44 := txtA 3 (by omega)
theorem gw41 : (191610176 : Int64) = LN (e27 (gw 41)) := by decide +kernel
theorem gw42 : (326448 : Int64) = LN (e27 (gw 42)) := by decide +kernel
theorem gw43 : (388978 : Int64) = LN (e27 (gw 43)) := by decide +kernel
theorem gw44 : (1834209 : Int64) = LN (e27 (gw 44)) := by decide +kernel
def tkAc (k : aTk) : Nat := if tkW k 41 = true then 0 else if tkW k 42 = true then 1 else if tkW k 43 = true then 2 else if tkW k 44 = true then 3 else 4
theorem tkAc_le {k : aTk} : tkAc k ≤ 4 := by
  unfold tkAc
  repeat' split
  all_goals omega
theorem xAct {S : gS} {T : aTp} {q : Nat} (hT : okT T) (hq : q ≤ T.1) (hk : tkX S T (tokAt T q)) : FX5_actHere S = some (S, nAn (tkAc (tokAt T q)) 4) := by
  unfold FX5_actHere tkAc
  simp only [g_b2, xIsWord hT hq hk txt41, xIsWord hT hq hk txt42, xIsWord hT hq hk txt43, xIsWord hT hq hk txt44]
  repeat' split
  all_goals first | rfl | exact absurd rfl (by assumption)
def isSe (T : aTp) (q : Nat) : Bool := decide ((tokAt T q).1 = 4 ∧ T.2 q = 59)
theorem tokAt_lt {T : aTp} {q : Nat} (hq : q ≤ T.1) (h : ¬ (tokAt T q).1 = 0) : q < T.1 := by
  have := (tokAt_e hq).2.2.2.1
  by_cases e : q = T.1
  · exact absurd (this.mpr e) h
  · omega
theorem xSemi {S : gS} {T : aTp} {q : Nat} (hT : okT T) (hq : q ≤ T.1) (hk : tkX S T (tokAt T q)) : FX8_isSign S 59 = some (S, isSe T q) := by
  have h1000 := hT.1
  obtain ⟨e1, e2, e3, e4, e5, e6⟩ := tokAt_e hq
  unfold FX8_isSign isSe
  rw [hk.2.2.1]
  by_cases c : (tokAt T q).1 = 4
  · have hlt := tokAt_lt hq (by omega)
    have hc := hT.2 q hlt
    have hc2 : T.2 q < 200 := by unfold okC at hc; omega
    rw [if_pos (show N (tokAt T q).1 = (4 : Int32) by rw [c]; rfl), hk.1, hk.2.2.2.1, e1, if_neg (fun h => absurd ((leN (by omega) (by omega)).mp h) (by omega)), if_pos (vpN (by omega) (by omega)), clN (by omega), hk.2.1 q hlt]
    by_cases c2 : T.2 q = 59
    · rw [if_pos (show N (T.2 q) = (59 : Int32) by rw [c2]; rfl), decide_eq_true ⟨c, c2⟩]
    · rw [if_neg (show ¬ N (T.2 q) = (59 : Int32) from fun h => c2 ((eqN (b := 59) (by omega) (by omega)).mp h)), decide_eq_false (fun h => c2 h.2)]
  · rw [if_neg (show ¬ N (tokAt T q).1 = (4 : Int32) from fun h => c ((eqN (b := 4) (by omega) (by omega)).mp h)), decide_eq_false (fun h => c h.1)]
theorem mSemi {S : gS} {T : aTp} {q : Nat} (hT : okT T) (hq : q ≤ T.1) (hk : tkM S T (tokAt T q)) : FX12_isSign S 59 = some (S, isSe T q) := by
  have h1000 := hT.1
  obtain ⟨e1, e2, e3, e4, e5, e6⟩ := tokAt_e hq
  unfold FX12_isSign isSe
  rw [hk.2.2.1]
  by_cases c : (tokAt T q).1 = 4
  · have hlt := tokAt_lt hq (by omega)
    have hc := hT.2 q hlt
    have hc2 : T.2 q < 200 := by unfold okC at hc; omega
    rw [if_pos (show N (mkk (tokAt T q).1) = (3 : Int32) from (mk1 _ (by omega) 4 (by omega)).mpr c), hk.2.2.2.1, e1, if_pos (vpN (by omega) (by omega)), clN (by omega), hk.2.1 q hlt]
    by_cases c2 : T.2 q = 59
    · rw [if_pos (show N (T.2 q) = (59 : Int32) by rw [c2]; rfl), decide_eq_true ⟨c, c2⟩]
    · rw [if_neg (show ¬ N (T.2 q) = (59 : Int32) from fun h => c2 ((eqN (b := 59) (by omega) (by omega)).mp h)), decide_eq_false (fun h => c2 h.2)]
  · rw [if_neg (show ¬ N (mkk (tokAt T q).1) = (3 : Int32) from fun h => c ((mk1 _ (by omega) 4 (by omega)).mp h)), decide_eq_false (fun h => c h.1)]
/-- fault, where the next token is, what, which mouth, how much -/
def aLn (T : aTp) (mn : Nat → List Nat) (L n q : Nat) : Nat × Nat × Nat × Nat × Nat :=
  if tkAc (tokAt T q) = 4 then (1 + 16 * q, 0, 0, 0, 0)
  else if n = 40 then (5 + 16 * q, 0, 0, 0, 0)
  else if tkAc (tokAt T q) = 0 then (0, skB T (tokAt T q).2.2.1, 0, 0, 0)
  else if tkNm (tokAt T (skB T (tokAt T q).2.2.1)) = false then (1 + 16 * skB T (tokAt T q).2.2.1, 0, 0, 0, 0)
  else if ¬ nIx mn (tokAt T (skB T (tokAt T q).2.2.1)).2.2.2.1 L < L then (2 + 16 * skB T (tokAt T q).2.2.1, 0, 0, 0, 0)
  else if ¬ tkAc (tokAt T q) = 1 then (0, skB T (tokAt T (skB T (tokAt T q).2.2.1)).2.2.1, tkAc (tokAt T q), nIx mn (tokAt T (skB T (tokAt T q).2.2.1)).2.2.2.1 L, 0)
  else if ¬ (tokAt T (skB T (tokAt T (skB T (tokAt T q).2.2.1)).2.2.1)).1 = 3 then (1 + 16 * skB T (tokAt T (skB T (tokAt T q).2.2.1)).2.2.1, 0, 0, 0, 0)
  else if ¬ (1 ≤ (tokAt T (skB T (tokAt T (skB T (tokAt T q).2.2.1)).2.2.1)).2.2.2.2 ∧ (tokAt T (skB T (tokAt T (skB T (tokAt T q).2.2.1)).2.2.1)).2.2.2.2 ≤ 20) then (4 + 16 * skB T (tokAt T (skB T (tokAt T q).2.2.1)).2.2.1, 0, 0, 0, 0)
  else (0, skB T (tokAt T (skB T (tokAt T (skB T (tokAt T q).2.2.1)).2.2.1)).2.2.1, 1, nIx mn (tokAt T (skB T (tokAt T q).2.2.1)).2.2.2.1 L, (tokAt T (skB T (tokAt T (skB T (tokAt T q).2.2.1)).2.2.1)).2.2.2.2)
theorem aLn_ok {T : aTp} {mn : Nat → List Nat} {L n q : Nat} (hT : okT T) (hq : q ≤ T.1) : (aLn T mn L n q).1 ≤ 17000 ∧ ((aLn T mn L n q).1 = 0 → n ≠ 40 ∧ (aLn T mn L n q).2.1 ≤ T.1 ∧ (aLn T mn L n q).2.2.1 ≤ 3 ∧ ((aLn T mn L n q).2.2.1 ≠ 0 → (aLn T mn L n q).2.2.2.1 < L) ∧ ((aLn T mn L n q).2.2.1 = 1 → 1 ≤ (aLn T mn L n q).2.2.2.2 ∧ (aLn T mn L n q).2.2.2.2 ≤ 20)) := by
  have h1000 := hT.1
  have e3 := (tokAt_e hq).2.2.1
  have hac := tkAc_le (k := tokAt T q)
  have s1 := skB_le e3
  have f3 := (tokAt_e s1).2.2.1
  have s2 := skB_le f3
  have g3 := (tokAt_e s2).2.2.1
  have s3 := skB_le g3
  unfold aLn
  generalize tkAc (tokAt T q) = ac at *
  generalize skB T (tokAt T q).2.2.1 = q1 at *
  generalize skB T (tokAt T q1).2.2.1 = q2 at *
  generalize skB T (tokAt T q2).2.2.1 = q3 at *
  generalize (tokAt T q2).2.2.2.2 = nu at *
  generalize nIx mn (tokAt T q1).2.2.2.1 L = ix at *
  split
  · exact ⟨by dsimp only; omega, fun h => by dsimp only at h; omega⟩
  · split
    · exact ⟨by dsimp only; omega, fun h => by dsimp only at h; omega⟩
    · split
      · exact ⟨by dsimp only; omega, fun _ => ⟨by assumption, s1, by dsimp only; omega, fun h => absurd rfl h, fun h => absurd h (by dsimp only; omega)⟩⟩
      · split
        · exact ⟨by dsimp only; omega, fun h => by dsimp only at h; omega⟩
        · split
          · exact ⟨by dsimp only; omega, fun h => by dsimp only at h; omega⟩
          · split
            · refine ⟨by dsimp only; omega, fun _ => ⟨by assumption, s2, by dsimp only; omega, fun h => by dsimp only; omega, fun h => ?_⟩⟩
              dsimp only at h; omega
            · split
              · exact ⟨by dsimp only; omega, fun h => by dsimp only at h; omega⟩
              · split
                · exact ⟨by dsimp only; omega, fun h => by dsimp only at h; omega⟩
                · exact ⟨by dsimp only; omega, fun _ => ⟨by assumption, s3, by dsimp only; omega, fun h => by dsimp only; omega, fun h => by dsimp only; omega⟩⟩
theorem nms_b {T : aTp} {q : Nat} : ∀ n, (∀ i, i < n → isDg (T.2 (q + i)) = true) → nms T q n < 10 ^ n := by
  intro n
  induction n with
  | zero => intro _; rw [nms]; decide
  | succ n ih =>
    intro h
    have := ih (fun i hi => h i (by omega))
    have h2 := of_decide_eq_true (h n (by omega))
    rw [nms, Nat.pow_succ]; omega
theorem tkN_b {T : aTp} {q : Nat} (h : (tokAt T q).1 = 3) : (tokAt T q).2.2.2.2 < 2147483648 := by
  revert h
  unfold tokAt
  split
  · intro h; exact absurd h (by dsimp only; omega)
  · split
    · intro h; dsimp only at h; split at h <;> omega
    · split
      · intro h
        dsimp only at h ⊢
        obtain ⟨a, b, c, d⟩ := rnE_sp (P := isDg) (T := T) T.1 q (by omega)
        have h4 : rnD T q - q ≤ 4 := by split at h <;> omega
        have := nms_b (T := T) (q := q) (rnD T q - q) (fun i hi => (c (q + i) (by omega) (by unfold rnD at hi; omega)).2)
        have h5 : (10 : Nat) ^ (rnD T q - q) ≤ 10 ^ 4 := Nat.pow_le_pow_right (by omega) h4
        omega
      · intro h; dsimp only at h; split at h <;> omega
