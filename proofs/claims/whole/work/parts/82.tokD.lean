/-! nextToken -/
theorem sg5 : ∀ c, okC c → c < 128 → isLt c = false → isDg c = false → isBl c = false → ∀ P : Int32 → Prop, P (N (if isSg c = true then 3 else 4)) → 
    ((N c < 40 → (N c = 45 → P 3) ∧ (¬ N c = 45 → (N c < 59 → P 4) ∧ (¬ N c < 59 → ((61 : Int32) < N c → P 4) ∧ (¬ (61 : Int32) < N c → P 3)))) ∧
     (¬ N c < 40 → (N c ≤ 43 → P 3) ∧ (¬ N c ≤ 43 → (N c = 45 → P 3) ∧ (¬ N c = 45 → (N c < 59 → P 4) ∧ (¬ N c < 59 → ((61 : Int32) < N c → P 4) ∧ (¬ (61 : Int32) < N c → P 3)))))) := by
  intro c hc h1 h2 h3 h4 P hP
  have a : (N c < 40) ↔ c < 40 := ltN (b := 40) (by omega) (by omega)
  have b : (N c = 45) ↔ c = 45 := eqN (b := 45) (by omega) (by omega)
  have d : (N c < 59) ↔ c < 59 := ltN (b := 59) (by omega) (by omega)
  have e : ((61 : Int32) < N c) ↔ 61 < c := ltN (a := 61) (by omega) (by omega)
  have f : (N c ≤ 43) ↔ c ≤ 43 := leN (b := 43) (by omega) (by omega)
  rw [a, b, d, e, f]
  have k3 : isSg c = true → P 3 := fun h => by rw [if_pos h] at hP; exact hP
  have k4 : isSg c = false → P 4 := fun h => by rw [h, if_neg Bool.false_ne_true] at hP; exact hP
  have j3 : (c = 40 ∨ c = 41 ∨ c = 42 ∨ c = 43 ∨ c = 45 ∨ c = 59 ∨ c = 60 ∨ c = 61) → P 3 := fun h => k3 (decide_eq_true h)
  have j4 : ¬ (c = 40 ∨ c = 41 ∨ c = 42 ∨ c = 43 ∨ c = 45 ∨ c = 59 ∨ c = 60 ∨ c = 61) → P 4 := fun h => k4 (decide_eq_false h)
  refine ⟨fun x => ⟨fun y => j3 (by omega), fun y => ⟨fun z => j4 (by omega), fun z => ⟨fun w => j4 (by omega), fun w => j3 (by omega)⟩⟩⟩, fun x => ⟨fun y => j3 (by omega), fun y => ⟨fun y2 => j3 (by omega), fun y2 => ⟨fun z => j4 (by omega), fun z => ⟨fun w => j4 (by omega), fun w => j3 (by omega)⟩⟩⟩⟩⟩
theorem mNx322 {S0 S : gS} {T : aTp} {q k : Nat} (hT : okT T) (hq : q < T.1) (hk : 1 ≤ k) (hS : kM1 S0 S) (hr : rwM S T) (h3 : sI S 180 5 = N q) (h4 : sI S 180 4 = N q) (hb : isBl (T.2 q) = false) (hl : isLt (T.2 q) = false) (hd : isDg (T.2 q) = false) : wp (fX12_nextToken k 322 S (N (T.2 q))) (fun U => kM1 S0 U ∧ tkM U T (tokAt T q)) := by
  obtain ⟨k, rfl, -⟩ := kS (m := 0) hk
  have h1000 := hT.1
  have hc := hT.2 q hq
  have hc2 : T.2 q < 128 := by unfold okC at hc; omega
  have et : tokAt T q = (if isSg (T.2 q) = true then 4 else 1, q, q + 1, [], 0) := by
    unfold tokAt
    rw [if_neg (by omega), hl, if_neg Bool.false_ne_true, hd, if_neg Bool.false_ne_true]
  have key : (fun x : Int32 => kM1 S0 (uI (uI S 180 4 (N (q + 1))) 180 6 x) ∧ tkM (uI (uI S 180 4 (N (q + 1))) 180 6 x) T (tokAt T q)) (N (if isSg (T.2 q) = true then 3 else 4)) := by
    rw [et]
    refine ⟨m1_uI (m1_uI hS (by omega)) (by omega), ?_, hr.2, ?_, ?_, ?_, fun h => ?_, fun h => ?_⟩
    · rw [I_uI, if_neg (by omega), I_uI, if_neg (by omega)]; exact hr.1
    · rw [I_uI, if_pos ⟨rfl, rfl⟩]
      dsimp only
      cases isSg (T.2 q) <;> rfl
    · rw [I_uI, if_neg (by omega), I_uI, if_neg (by omega)]; exact h3
    · rw [I_uI, if_neg (by omega), I_uI, if_pos ⟨rfl, rfl⟩]
    · dsimp only at h; split at h <;> omega
    · dsimp only at h; split at h <;> omega
  have g := sg5 (T.2 q) hc hc2 hl hd hb (fun x : Int32 => kM1 S0 (uI (uI S 180 4 (N (q + 1))) 180 6 x) ∧ tkM (uI (uI S 180 4 (N (q + 1))) 180 6 x) T (tokAt T q)) key
  rw [fX12_nextToken]
  simp only [if_true]
  rw [if_neg (by decide), if_neg (by decide), if_neg (by decide), if_neg (by decide), if_neg (by decide), if_neg (by decide)]
  simp only [bX12_nextToken_322]
  rw [h4, addN1]
  simp only [wp_lt, wp_ite, wp_some]
  exact g
theorem mNx52 {S0 S : gS} {T : aTp} {q k : Nat} (hT : okT T) (hq : q ≤ T.1) (hk : T.1 + 4 ≤ k) (hS : kM1 S0 S) (hr : rwM S T) (h4 : sI S 180 4 = N q) (hb : ¬ (q < T.1 ∧ isBl (T.2 q) = true)) : wp (fX12_nextToken k 52 S 0) (fun U => kM1 S0 U ∧ tkM U T (tokAt T q)) := by
  obtain ⟨k, rfl, hk'⟩ := kS (m := T.1 + 3) (by omega)
  have h1000 := hT.1
  rw [fX12_nextToken]
  simp only [if_true]
  rw [if_neg (by decide)]
  simp only [bX12_nextToken_52]
  rw [wp_lt, wp_lt, wp_lt, h4]
  have hS2 : kM1 S0 (uI (uJ (uI S 180 5 (N q)) 180 7 0) 180 8 0) := m1_uI (m1_uJ (m1_uI hS (by omega))) (by omega)
  have hr2 : rwM (uI (uJ (uI S 180 5 (N q)) 180 7 0) 180 8 0) T := rwM_k hr (m1_uI (m1_uJ (m1_uI m1_rf (by omega))) (by omega))
  have h3 : sI (uI (uJ (uI S 180 5 (N q)) 180 7 0) 180 8 0) 180 5 = N q := by rw [I_uI, if_neg (by omega), I_uJ, I_uI, if_pos ⟨rfl, rfl⟩]
  have h42 : sI (uI (uJ (uI S 180 5 (N q)) 180 7 0) 180 8 0) 180 4 = N q := by rw [I_uI, if_neg (by omega), I_uJ, I_uI, if_neg (by omega)]; exact h4
  have h7 : sJ (uI (uJ (uI S 180 5 (N q)) 180 7 0) 180 8 0) 180 7 = LN 0 := by rw [J_uI, J_uJ, if_pos ⟨rfl, rfl⟩]; rfl
  have h8 : sI (uI (uJ (uI S 180 5 (N q)) 180 7 0) 180 8 0) 180 8 = N 0 := by rw [I_uI, if_pos ⟨rfl, rfl⟩]; rfl
  revert hS2 hr2 h3 h42 h7 h8
  generalize uI (uJ (uI S 180 5 (N q)) 180 7 0) 180 8 0 = U
  intro hS2 hr2 h3 h42 h7 h8
  rw [h42, hr2.1]
  by_cases hlt : q = T.1
  · have et : tokAt T q = (0, q, q, [], 0) := by unfold tokAt; rw [if_pos (by omega)]
    rw [if_pos ((eqN (by omega) (by omega)).mpr hlt), wp_lt, wp_some, et]
    refine ⟨m1_uI hS2 (by omega), ?_, hr2.2, ?_, ?_, ?_, fun h => absurd (show (0 : Nat) = 2 from h) (by omega), fun h => absurd (show (0 : Nat) = 3 from h) (by omega)⟩
    · rw [I_uI, if_neg (by omega)]; exact hr2.1
    · rw [I_uI, if_pos ⟨rfl, rfl⟩]; rfl
    · rw [I_uI, if_neg (by omega)]; exact h3
    · rw [I_uI, if_neg (by omega)]; exact h42
  · have hq' : q < T.1 := by omega
    have hc := hT.2 q hq'
    have hbl : isBl (T.2 q) = false := by
      cases hh : isBl (T.2 q) with
      | false => rfl
      | true => exact absurd ⟨hq', hh⟩ hb
    rw [if_neg (fun h => hlt ((eqN (by omega) (by omega)).mp h)), if_pos (vpN (by omega) (by omega)), clN (by omega), hr2.2 q hq']
    cases hl : isLt (T.2 q) with
    | true =>
      have hn : ¬ (N (T.2 q) < 97 ∨ (122 : Int32) < N (T.2 q)) := fun h => by rw [(cLt hc).mp h] at hl; cases hl
      rw [if_neg (fun h => hn (Or.inl h)), if_neg (fun h => hn (Or.inr h))]
      obtain ⟨a, b, cc, dd⟩ := rnE_sp (P := isLt) (T := T) T.1 q (by omega)
      have et : tokAt T q = (if rnL T q - q ≤ 8 then 2 else 1, q, rnL T q, lts T q (rnL T q - q), 0) := by
        unfold tokAt
        rw [if_neg (by omega), hl, if_pos rfl]
      rw [et]
      exact mScanW (S0 := S0) (q := q) (e := rnE isLt T T.1 q) hT (by omega) (fun i h1 h2 => (cc i h1 h2).2) dd (rnE isLt T T.1 q - q) q k _ (by omega) (Nat.le_refl _) (by omega) hS2 hr2 h3 h42 (by rw [h7, Nat.sub_self]; rfl)
    | false =>
      have e224 : isDg (T.2 q) = true → wp (fX12_nextToken k 224 U 0) (fun U => kM1 S0 U ∧ tkM U T (tokAt T q)) := by
        intro hd
        obtain ⟨a, b, cc, dd⟩ := rnE_sp (P := isDg) (T := T) T.1 q (by omega)
        have et : tokAt T q = (if rnD T q - q ≤ 4 then 3 else 1, q, rnD T q, [], nms T q (rnD T q - q)) := by
          unfold tokAt
          rw [if_neg (by omega), hl, if_neg Bool.false_ne_true, hd, if_pos rfl]
        rw [et]
        exact mScanN (S0 := S0) (q := q) (e := rnE isDg T T.1 q) hT (by omega) (fun i h1 h2 => (cc i h1 h2).2) dd (rnE isDg T T.1 q - q) q k _ (by omega) (Nat.le_refl _) (by omega) hS2 hr2 h3 h42 (by rw [h8, Nat.sub_self]; rfl)
      have rest : wp (if N (T.2 q) < 48 then fX12_nextToken k 322 U (N (T.2 q)) else if (57 : Int32) < N (T.2 q) then fX12_nextToken k 322 U (N (T.2 q)) else fX12_nextToken k 224 U 0) (fun U => kM1 S0 U ∧ tkM U T (tokAt T q)) := by
        cases hd : isDg (T.2 q) with
        | true =>
          have hn : ¬ (N (T.2 q) < 48 ∨ (57 : Int32) < N (T.2 q)) := fun h => by rw [(cDg hc).mp h] at hd; cases hd
          rw [if_neg (fun h => hn (Or.inl h)), if_neg (fun h => hn (Or.inr h))]
          exact e224 hd
        | false =>
          have g := mNx322 (k := k) hT hq' (by omega) hS2 hr2 h3 h42 hbl hl hd
          by_cases hx : N (T.2 q) < 48
          · rw [if_pos hx]; exact g
          · rw [if_neg hx, if_pos (((cDg hc).mpr hd).resolve_left hx)]; exact g
      by_cases hx : N (T.2 q) < 97
      · rw [if_pos hx]; exact rest
      · rw [if_neg hx, if_pos (((cLt hc).mpr hl).resolve_left hx)]; exact rest
theorem mNx0 {S0 : gS} {T : aTp} {q : Nat} (hT : okT T) (hq : q ≤ T.1) {p : Nat} (hl : ∀ i, p ≤ i → i < q → isBl (T.2 i) = true) (hs : ¬ (q < T.1 ∧ isBl (T.2 q) = true)) : ∀ m i k S, i + m = q → p ≤ i → m + T.1 + 5 ≤ k → kM1 S0 S → rwM S T → sI S 180 4 = N i → wp (fX12_nextToken k 0 S 0) (fun U => kM1 S0 U ∧ tkM U T (tokAt T q)) := by
  have h1000 := hT.1
  intro m
  induction m with
  | zero =>
    intro i k S hi hp hk hS hr h4
    obtain ⟨k, rfl, hk'⟩ := kS (k := k) (m := T.1 + 4) (by omega)
    have hie : i = q := by omega
    subst hie
    have g := mNx52 (S0 := S0) (S := S) (k := k) hT hq hk' hS hr h4 hs
    rw [fX12_nextToken]
    simp only [if_true, bX12_nextToken_0]
    rw [hr.1, h4]
    by_cases c : T.1 ≤ i
    · rw [if_pos ((leN (by omega) (by omega)).mpr c)]; exact g
    · have hb : ¬ (N (T.2 i) = 10 ∨ N (T.2 i) = 32) := fun h => hs ⟨by omega, (cBl (hT.2 i (by omega))).mp h⟩
      rw [if_neg (fun h => c ((leN (by omega) (by omega)).mp h)), if_pos (vpN (by omega) (by omega)), clN (by omega), hr.2 i (by omega), if_neg (fun h => hb (Or.inr h)), if_neg (fun h => hb (Or.inl h))]
      exact g
  | succ m ih =>
    intro i k S hi hp hk hS hr h4
    obtain ⟨k, rfl, hk'⟩ := kS (k := k) (m := m + T.1 + 5) (by omega)
    have hb := (cBl (hT.2 i (by omega))).mpr (hl i hp (by omega))
    have g := ih (i + 1) k (uI S 180 4 (N (i + 1))) (by omega) (by omega) hk' (m1_uI hS (by omega)) (rwM_k hr (m1_uI m1_rf (by omega))) (by rw [I_uI, if_pos ⟨rfl, rfl⟩])
    rw [fX12_nextToken]
    simp only [if_true, bX12_nextToken_0]
    rw [hr.1, h4, if_neg (fun h => absurd ((leN (by omega) (by omega)).mp h) (by omega)), if_pos (vpN (by omega) (by omega)), clN (by omega), hr.2 i (by omega), addN1, wp_ite, wp_lt, wp_ite, wp_lt]
    exact ⟨fun _ => g, fun h2 => ⟨fun _ => g, fun h3 => absurd hb (fun h => h.elim h3 h2)⟩⟩
theorem mNext {S : gS} {T : aTp} {p : Nat} (hT : okT T) (hp : p ≤ T.1) (hr : rwM S T) (h4 : sI S 180 4 = N p) : wp (FX12_nextToken S) (fun U => kM1 S U ∧ tkM U T (aTok T p)) := by
  have h1000 := hT.1
  unfold FX12_nextToken
  obtain ⟨a, b, c, d⟩ := rnE_sp (P := isBl) (T := T) T.1 p (by omega)
  exact mNx0 (q := rnE isBl T T.1 p) hT (by omega) (p := p) (fun i h1 h2 => (c i h1 h2).2) d (rnE isBl T T.1 p - p) p FU S (by omega) (Nat.le_refl _) (by unfold FU; omega) m1_rf hr h4
