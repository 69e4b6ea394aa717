/-! the model's token -/
def kM1 (S S' : gS) : Prop := fr [180] S S' ∧ ((∀ k, ¬ (k = 4 ∨ k = 5 ∨ k = 6 ∨ k = 8) → sI S' 180 k = sI S 180 k) ∧ ∀ a k, ¬ (a = 180 ∧ k = 7) → sJ S' a k = sJ S a k)
theorem m1_rf {S : gS} : kM1 S S := ⟨fr_rf, fun _ _ => rfl, fun _ _ _ => rfl⟩
theorem m1_uI {S S' : gS} {k : Nat} {x : Int32} (h : kM1 S S') (hk : k = 4 ∨ k = 5 ∨ k = 6 ∨ k = 8) : kM1 S (uI S' 180 k x) :=
  ⟨fr_uI h.1 (by simp), fun k' h' => by rw [I_uI, if_neg (show ¬ (180 = 180 ∧ k' = k) from fun e => h' (e.2 ▸ hk))]; exact h.2.1 k' h', fun a k' h' => by rw [J_uI]; exact h.2.2 a k' h'⟩
theorem m1_uJ {S S' : gS} {x : Int64} (h : kM1 S S') : kM1 S (uJ S' 180 7 x) :=
  ⟨fr_uJ h.1, h.2.1, fun a k' h' => by rw [J_uJ, if_neg h']; exact h.2.2 a k' h'⟩
def rwM (S : gS) (T : aTp) : Prop := sI S 180 3 = N T.1 ∧ (∀ i, i < T.1 → sR S 181 i = N (T.2 i))
theorem rwM_k {S S' : gS} {T : aTp} (h : rwM S T) (h' : kM1 S S') : rwM S' T :=
  ⟨by rw [h'.2.1 3 (by omega)]; exact h.1, fun i hi => by
    have := (h'.1.1 181 (by simp)).2.1
    have e : sR S' 181 i = sR S 181 i := congrFun this i
    rw [e]; exact h.2 i hi⟩
theorem sgnA {S : gS} {T : aTp} {i : Nat} (hT : okT T) (hr : rwM S T) (hi : i ≤ T.1) : FX12_signAt S (N i) = some (S, if i < T.1 then N (T.2 i) else 0) := by
  have h1000 := hT.1
  unfold FX12_signAt
  rw [hr.1]
  by_cases c : T.1 ≤ i
  · rw [if_pos ((leN (by omega) (by omega)).mpr c), if_neg (by omega)]
  · rw [if_neg (fun h => c ((leN (by omega) (by omega)).mp h)), if_pos (vpN (by omega) (by omega)), clN (by omega), hr.2 i (by omega), if_pos (by omega)]
theorem sgL {T : aTp} {i : Nat} (hT : okT T) (h : ¬ (i < T.1 ∧ isLt (T.2 i) = true)) : (if i < T.1 then N (T.2 i) else 0) < (97 : Int32) ∨ ((122 : Int32) < (if i < T.1 then N (T.2 i) else 0)) := by
  by_cases c : i < T.1
  · rw [if_pos c]
    refine (cLt (hT.2 i c)).mpr ?_
    cases hh : isLt (T.2 i) with
    | false => rfl
    | true => exact absurd ⟨c, hh⟩ h
  · rw [if_neg c]; exact Or.inl (by decide)
theorem sgD {T : aTp} {i : Nat} (hT : okT T) (h : ¬ (i < T.1 ∧ isDg (T.2 i) = true)) : (if i < T.1 then N (T.2 i) else 0) < (48 : Int32) ∨ ((57 : Int32) < (if i < T.1 then N (T.2 i) else 0)) := by
  by_cases c : i < T.1
  · rw [if_pos c]
    refine (cDg (hT.2 i c)).mpr ?_
    cases hh : isDg (T.2 i) with
    | false => rfl
    | true => exact absurd ⟨c, hh⟩ h
  · rw [if_neg c]; exact Or.inl (by decide)
theorem LNsub' {a b : Nat} (h : b ≤ a) : LN a - LN b = LN (a - b) := LNsub h
theorem mScanW {S0 : gS} {T : aTp} {q e : Nat} (hT : okT T) (he : e ≤ T.1) (hl : ∀ i, q ≤ i → i < e → isLt (T.2 i) = true) (hs : ¬ (e < T.1 ∧ isLt (T.2 e) = true)) : ∀ m i k S, i + m = e → q ≤ i → m + 2 ≤ k → kM1 S0 S → rwM S T → sI S 180 5 = N q → sI S 180 4 = N i → sJ S 180 7 = LN (e27 (lts T q (min (i - q) 8))) → wp (fX12_nextToken k 109 S 0) (fun U => kM1 S0 U ∧ tkM U T (if e - q ≤ 8 then 2 else 1, q, e, lts T q (e - q), 0)) := by
  intro m
  induction m with
  | zero =>
    intro i k S hi hq hk hS hr h3 h4 h5
    obtain ⟨k, rfl, hk'⟩ := kS (m := 1) hk
    obtain ⟨k, rfl, -⟩ := kS (m := 0) hk'
    have h1000 := hT.1
    have hie : i = e := by omega
    subst hie
    have e85 : wp (fX12_nextToken (k + 1) 188 S 0) (fun U => kM1 S0 U ∧ tkM U T (if i - q ≤ 8 then 2 else 1, q, i, lts T q (i - q), 0)) := by
      rw [fX12_nextToken]
      simp only [if_true]
      rw [if_neg (by decide), if_neg (by decide), if_neg (by decide)]
      simp only [bX12_nextToken_188]
      rw [h3, h4, subN hq, wp_ite, wp_lt, wp_lt, wp_some, wp_some]
      have key : ∀ z : Nat, (z = mkk (if i - q ≤ 8 then 2 else 1)) → kM1 S0 (uI S 180 6 (N z)) ∧ tkM (uI S 180 6 (N z)) T (if i - q ≤ 8 then 2 else 1, q, i, lts T q (i - q), 0) := by
        intro z hz
        refine ⟨m1_uI hS (by omega), ?_, hr.2, ?_, ?_, ?_, fun h => ?_, fun h => ?_⟩
        · rw [I_uI, if_neg (by omega)]; exact hr.1
        · rw [I_uI, if_pos ⟨rfl, rfl⟩, hz]
        · rw [I_uI, if_neg (by omega)]; exact h3
        · rw [I_uI, if_neg (by omega)]; exact h4
        · dsimp only at h
          have h8 : i - q ≤ 8 := by split at h <;> omega
          rw [J_uI, h5, Nat.min_eq_left h8]
        · dsimp only at h; split at h <;> omega
      refine ⟨fun c => key 1 ?_, fun c => key 4 ?_⟩
      · have := (leN (b := 8) (by omega) (by omega)).mp c
        rw [if_pos this]; rfl
      · have : ¬ i - q ≤ 8 := fun h => c ((leN (b := 8) (by omega) (by omega)).mpr h)
        rw [if_neg this]; rfl
    rw [fX12_nextToken]
    simp only [if_true]
    rw [if_neg (by decide), if_neg (by decide)]
    simp only [bX12_nextToken_109]
    rw [h4, sgnA hT hr he]
    simp only [g_b2]
    by_cases hx : (if i < T.1 then N (T.2 i) else 0) < (97 : Int32)
    · rw [if_pos hx]; exact e85
    · rw [if_neg hx, h4, sgnA hT hr he]
      simp only [g_b2]
      rw [if_pos ((sgL hT hs).resolve_left hx)]; exact e85
  | succ m ih =>
    intro i k S hi hq hk hS hr h3 h4 h5
    obtain ⟨k, rfl, hk'⟩ := kS (m := m + 2) (by omega)
    have h1000 := hT.1
    have hL := hl i hq (by omega)
    have hn : ¬ (N (T.2 i) < 97 ∨ (122 : Int32) < N (T.2 i)) := fun h => by rw [(cLt (hT.2 i (by omega))).mp h] at hL; cases hL
    have hb : 97 ≤ T.2 i ∧ T.2 i ≤ 122 := of_decide_eq_true hL
    have es : FX12_signAt S (N i) = some (S, N (T.2 i)) := by rw [sgnA hT hr (by omega), if_pos (by omega)]
    rw [fX12_nextToken]
    simp only [if_true]
    rw [if_neg (by decide), if_neg (by decide)]
    simp only [bX12_nextToken_109]
    rw [h4, es]
    simp only [g_b2]
    rw [if_neg (fun h => hn (Or.inl h)), h4, es]
    simp only [g_b2]
    rw [if_neg (fun h => hn (Or.inr h)), h4, h3, subN hq]
    by_cases c8 : 8 ≤ i - q
    · rw [if_pos (show (8 : Int32) ≤ N (i - q) from (leN (a := 8) (by omega) (by omega)).mpr c8), wp_lt, addN1]
      refine ih (i + 1) k _ (by omega) (by omega) hk' (m1_uI hS (by omega)) (rwM_k hr (m1_uI m1_rf (by omega))) (by rw [I_uI, if_neg (by omega)]; exact h3) (by rw [I_uI, if_pos ⟨rfl, rfl⟩]) ?_
      rw [J_uI, h5, show min (i - q) 8 = min (i + 1 - q) 8 by omega]
    · rw [if_neg (show ¬ (8 : Int32) ≤ N (i - q) from fun h => c8 ((leN (a := 8) (by omega) (by omega)).mp h)), es]
      simp only [g_b2]
      rw [wp_lt, h5]
      have e2 : LN (e27 (lts T q (min (i - q) 8))) * (27 : Int64) + Int32.toInt64 (N (T.2 i)) - (96 : Int64) = LN (e27 (lts T q (min (i + 1 - q) 8))) := by
        rw [NL (by omega), show LN (e27 (lts T q (min (i - q) 8))) * (27 : Int64) = LN (e27 (lts T q (min (i - q) 8)) * 27) from LNmul (b := 27), LNadd, show LN (e27 (lts T q (min (i - q) 8)) * 27 + T.2 i) - (96 : Int64) = LN (e27 (lts T q (min (i - q) 8)) * 27 + T.2 i - 96) from LNsub (b := 96) (by omega), show min (i + 1 - q) 8 = min (i - q) 8 + 1 by omega, lts, e27, show q + min (i - q) 8 = i by omega]
        congr 1; omega
      rw [e2]
      have e4 : sI (uJ S 180 7 (LN (e27 (lts T q (min (i + 1 - q) 8))))) 180 4 = N i := h4
      rw [wp_lt, e4, addN1]
      exact ih (i + 1) k _ (by omega) (by omega) hk' (m1_uI (m1_uJ hS) (by omega)) (rwM_k hr (m1_uI (m1_uJ m1_rf) (by omega))) (by rw [I_uI, if_neg (by omega)]; exact h3) (by rw [I_uI, if_pos ⟨rfl, rfl⟩]) (by rw [J_uI, J_uJ, if_pos ⟨rfl, rfl⟩])
theorem mScanN {S0 : gS} {T : aTp} {q e : Nat} (hT : okT T) (he : e ≤ T.1) (hl : ∀ i, q ≤ i → i < e → isDg (T.2 i) = true) (hs : ¬ (e < T.1 ∧ isDg (T.2 e) = true)) : ∀ m i k S, i + m = e → q ≤ i → m + 2 ≤ k → kM1 S0 S → rwM S T → sI S 180 5 = N q → sI S 180 4 = N i → sI S 180 8 = N (nms T q (min (i - q) 4)) → wp (fX12_nextToken k 224 S 0) (fun U => kM1 S0 U ∧ tkM U T (if e - q ≤ 4 then 3 else 1, q, e, [], nms T q (e - q))) := by
  intro m
  induction m with
  | zero =>
    intro i k S hi hq hk hS hr h3 h4 h5
    obtain ⟨k, rfl, hk'⟩ := kS (m := 1) hk
    obtain ⟨k, rfl, -⟩ := kS (m := 0) hk'
    have h1000 := hT.1
    have hie : i = e := by omega
    subst hie
    have e85 : wp (fX12_nextToken (k + 1) 299 S 0) (fun U => kM1 S0 U ∧ tkM U T (if i - q ≤ 4 then 3 else 1, q, i, [], nms T q (i - q))) := by
      rw [fX12_nextToken]
      simp only [if_true]
      rw [if_neg (by decide), if_neg (by decide), if_neg (by decide), if_neg (by decide), if_neg (by decide)]
      simp only [bX12_nextToken_299]
      rw [h3, h4, subN hq, wp_ite, wp_lt, wp_lt, wp_some, wp_some]
      have key : ∀ z : Nat, (z = mkk (if i - q ≤ 4 then 3 else 1)) → kM1 S0 (uI S 180 6 (N z)) ∧ tkM (uI S 180 6 (N z)) T (if i - q ≤ 4 then 3 else 1, q, i, [], nms T q (i - q)) := by
        intro z hz
        refine ⟨m1_uI hS (by omega), ?_, hr.2, ?_, ?_, ?_, fun h => ?_, fun h => ?_⟩
        · rw [I_uI, if_neg (by omega)]; exact hr.1
        · rw [I_uI, if_pos ⟨rfl, rfl⟩, hz]
        · rw [I_uI, if_neg (by omega)]; exact h3
        · rw [I_uI, if_neg (by omega)]; exact h4
        · dsimp only at h; split at h <;> omega
        · dsimp only at h
          have h8 : i - q ≤ 4 := by split at h <;> omega
          rw [I_uI, if_neg (by omega), h5, Nat.min_eq_left h8]
      refine ⟨fun c => key 2 ?_, fun c => key 4 ?_⟩
      · have := (leN (b := 4) (by omega) (by omega)).mp c
        rw [if_pos this]; rfl
      · have : ¬ i - q ≤ 4 := fun h => c ((leN (b := 4) (by omega) (by omega)).mpr h)
        rw [if_neg this]; rfl
    rw [fX12_nextToken]
    simp only [if_true]
    rw [if_neg (by decide), if_neg (by decide), if_neg (by decide), if_neg (by decide)]
    simp only [bX12_nextToken_224]
    rw [h4, sgnA hT hr he]
    simp only [g_b2]
    by_cases hx : (if i < T.1 then N (T.2 i) else 0) < (48 : Int32)
    · rw [if_pos hx]; exact e85
    · rw [if_neg hx, h4, sgnA hT hr he]
      simp only [g_b2]
      rw [if_pos ((sgD hT hs).resolve_left hx)]; exact e85
  | succ m ih =>
    intro i k S hi hq hk hS hr h3 h4 h5
    obtain ⟨k, rfl, hk'⟩ := kS (m := m + 2) (by omega)
    have h1000 := hT.1
    have hL := hl i hq (by omega)
    have hn : ¬ (N (T.2 i) < 48 ∨ (57 : Int32) < N (T.2 i)) := fun h => by rw [(cDg (hT.2 i (by omega))).mp h] at hL; cases hL
    have hb : 48 ≤ T.2 i ∧ T.2 i ≤ 57 := of_decide_eq_true hL
    have es : FX12_signAt S (N i) = some (S, N (T.2 i)) := by rw [sgnA hT hr (by omega), if_pos (by omega)]
    rw [fX12_nextToken]
    simp only [if_true]
    rw [if_neg (by decide), if_neg (by decide), if_neg (by decide), if_neg (by decide)]
    simp only [bX12_nextToken_224]
    rw [h4, es]
    simp only [g_b2]
    rw [if_neg (fun h => hn (Or.inl h)), h4, es]
    simp only [g_b2]
    rw [if_neg (fun h => hn (Or.inr h)), h4, h3, subN hq]
    by_cases c8 : 4 ≤ i - q
    · rw [if_pos (show (4 : Int32) ≤ N (i - q) from (leN (a := 4) (by omega) (by omega)).mpr c8), wp_lt, addN1]
      refine ih (i + 1) k _ (by omega) (by omega) hk' (m1_uI hS (by omega)) (rwM_k hr (m1_uI m1_rf (by omega))) (by rw [I_uI, if_neg (by omega)]; exact h3) (by rw [I_uI, if_pos ⟨rfl, rfl⟩]) ?_
      rw [I_uI, if_neg (by omega), h5, show min (i - q) 4 = min (i + 1 - q) 4 by omega]
    · rw [if_neg (show ¬ (4 : Int32) ≤ N (i - q) from fun h => c8 ((leN (a := 4) (by omega) (by omega)).mp h)), es]
      simp only [g_b2]
      rw [wp_lt, h5]
      have e2 : N (nms T q (min (i - q) 4)) * (10 : Int32) + N (T.2 i) - (48 : Int32) = N (nms T q (min (i + 1 - q) 4)) := by
        rw [show N (nms T q (min (i - q) 4)) * (10 : Int32) = N (nms T q (min (i - q) 4) * 10) from mulN (b := 10), addN, show N (nms T q (min (i - q) 4) * 10 + T.2 i) - (48 : Int32) = N (nms T q (min (i - q) 4) * 10 + T.2 i - 48) from subN (b := 48) (by omega), show min (i + 1 - q) 4 = min (i - q) 4 + 1 by omega, nms, show q + min (i - q) 4 = i by omega]
        congr 1; omega
      rw [e2]
      have e4 : sI (uI S 180 8 (N (nms T q (min (i + 1 - q) 4)))) 180 4 = N i := by rw [I_uI, if_neg (by omega)]; exact h4
      rw [wp_lt, e4, addN1]
      exact ih (i + 1) k _ (by omega) (by omega) hk' (m1_uI (m1_uI hS (by omega)) (by omega)) (rwM_k hr (m1_uI (m1_uI m1_rf (by omega)) (by omega))) (by rw [I_uI, if_neg (by omega), I_uI, if_neg (by omega)]; exact h3) (by rw [I_uI, if_pos ⟨rfl, rfl⟩]) (by rw [I_uI, if_neg (by omega), I_uI, if_pos ⟨rfl, rfl⟩])
