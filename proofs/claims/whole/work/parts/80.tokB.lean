/-! the sign of a text; advance -/
theorem jLat {S : gS} {t : UInt32} : FJ0_isLatin1_aae02 S t = some (S, true) := rfl
theorem jCoder {S : gS} {t : UInt32} : FJ0_coder_7d493 S t = some (S, 0) := by
  unfold FJ0_coder_7d493
  exact if_pos (by decide)
theorem jLen {S : gS} {t : UInt32} : FJ0_length_8abf5 S t = some (S, (Int32.ofNat (g_by t).length) >>> ((0 : Int32) &&& 31)) := by
  unfold FJ0_length_8abf5
  rw [jCoder]; rfl
theorem shr0 : ∀ n, n < 40 → (Int32.ofNat n) >>> ((0 : Int32) &&& 31) = N n := by decide +kernel
theorem jIdxL {S : gS} {u : UInt32} {t : UInt32} {c : Int32} : ∀ m i k, i + m = (g_by t).length → (g_by t).length < 40 → m + 1 ≤ k → ∃ x, fJ1_indexOfChar_4cfef t k 7 S u (N (g_by t).length) c (N i) = some (S, x) ∧ ((x < 0) ↔ ∀ j, i ≤ j → j < (g_by t).length → (g_by t).getD j 0 ≠ c) := by
  intro m
  induction m with
  | zero =>
    intro i k hi hl hk
    obtain ⟨k, rfl, -⟩ := kS (m := 0) hk
    refine ⟨-1, ?_, ?_⟩
    · rw [fJ1_indexOfChar_4cfef]
      simp only [if_true, bJ1_indexOfChar_4cfef_7]
      rw [if_pos ((leN (by omega) (by omega)).mpr (by omega))]
    · exact ⟨fun _ j a b => by omega, fun _ => by decide⟩
  | succ m ih =>
    intro i k hi hl hk
    obtain ⟨k, rfl, hk'⟩ := kS (m := m + 1) hk
    obtain ⟨x, e1, e2⟩ := ih (i + 1) k (by omega) hl hk'
    by_cases hc : (g_by t).getD i 0 = c
    · refine ⟨N i, ?_, ?_⟩
      · rw [fJ1_indexOfChar_4cfef]
        simp only [if_true, bJ1_indexOfChar_4cfef_7]
        rw [if_neg (fun e => absurd ((leN (by omega) (by omega)).mp e) (by omega)), if_pos (vpN (by omega) (by omega)), clN (by omega), if_pos hc]
      · exact ⟨fun h => absurd h (nN_lt0 (by omega)), fun h => absurd hc (h i (Nat.le_refl _) (by omega))⟩
    · refine ⟨x, ?_, e2.trans ?_⟩
      · rw [fJ1_indexOfChar_4cfef]
        simp only [if_true, bJ1_indexOfChar_4cfef_7]
        rw [if_neg (fun e => absurd ((leN (by omega) (by omega)).mp e) (by omega)), if_pos (vpN (by omega) (by omega)), clN (by omega), if_neg hc, addN1]
        exact e1
      · constructor
        · intro h j a b
          by_cases e : j = i
          · subst e; exact hc
          · exact h j (by omega) b
        · intro h j a b; exact h j (by omega) b
theorem b0 : g_by 0 = [40, 41, 60, 61, 43, 45, 42, 59] := rfl
theorem by8 : ∀ c, c < 128 → Int8.toInt32 (Int32.toInt8 (N c)) = N c := by decide +kernel
theorem sg8 : ∀ c, c < 128 → ((∀ j, j < 8 → ([40, 41, 60, 61, 43, 45, 42, 59] : List Int32).getD j 0 ≠ N c) ↔ isSg c = false) := by decide +kernel
theorem jIdx {S : gS} {c : Nat} (hc : c < 128) : ∃ x, FJ0_indexOf_0f7a4 S 0 (N c) = some (S, x) ∧ ((x < 0) ↔ isSg c = false) := by
  have hlen : (g_by 0).length = 8 := rfl
  obtain ⟨x, e1, e2⟩ := jIdxL (S := S) (u := 100 + 0) (t := 0) (c := N c) 8 0 FU (by rw [hlen]) (by rw [hlen]; omega) (by unfold FU; omega)
  rw [hlen] at e1 e2
  refine ⟨x, ?_, e2.trans ?_⟩
  · unfold FJ0_indexOf_0f7a4 FJ0_indexOf_7cf53
    rw [jLat]
    simp only [g_b2, if_true]
    rw [jLen, hlen, shr0 8 (by omega)]
    simp only
    unfold FJ1_indexOf_4cfef FJ1_canEncode_9a6ad
    rw [if_neg (nN_lt0 (by omega)), if_neg (show ¬ (255 : Int32) < N c from fun h => by have := (ltN (a := 255) (by omega) (by omega)).mp h; omega), hlen]
    simp only [g_b2, if_true]
    rw [if_pos (by decide)]
    unfold FJ1_indexOfChar_4cfef
    rw [by8 c hc, show (if (0 : Int32) < (0 : Int32) then (0 : Int32) else 0) = N 0 from rfl, show (if Int32.ofNat 8 < N 8 then Int32.ofNat 8 else N 8) = N 8 from rfl, e1]
  · rw [b0]
    have := sg8 c hc
    constructor
    · intro h; exact this.mp (fun j hj => h j (by omega) hj)
    · intro h j _ hj; exact this.mpr h j hj
theorem xAdv110 {S0 S : gS} {T : aTp} {q k : Nat} (hT : okT T) (hq : q < T.1) (hk : 1 ≤ k) (hS : kX1 S0 S) (hr : rwX S T) (h3 : sI S 1 3 = N q) (hl : isLt (T.2 q) = false) (hd : isDg (T.2 q) = false) : wp (fX8_advance k 110 S (N q) (N (T.2 q))) (fun U => kX1 S0 U ∧ tkX U T (tokAt T q)) := by
  obtain ⟨k, rfl, -⟩ := kS (m := 0) hk
  have h1000 := hT.1
  have hc := hT.2 q hq
  have hc2 : T.2 q < 128 := by unfold okC at hc; omega
  have et : tokAt T q = (if isSg (T.2 q) = true then 4 else 1, q, q + 1, [], 0) := by
    unfold tokAt
    rw [if_neg (by omega), hl, if_neg Bool.false_ne_true, hd, if_neg Bool.false_ne_true]
  rw [fX8_advance, et]
  simp only [if_true]
  rw [if_neg (by decide), if_neg (by decide), if_neg (by decide)]
  simp only [bX8_advance_110]
  obtain ⟨x, e1, e2⟩ := jIdx (S := S) hc2
  rw [e1, wp_b2, wp_some, show N q + (1 : Int32) = N (q + 1) from addN1]
  dsimp only
  have key : ∀ z : Nat, (z = if isSg (T.2 q) = true then 4 else 1) → kX1 S0 (uI (uI S 1 2 (N z)) 1 4 (N (q + 1))) ∧ tkX (uI (uI S 1 2 (N z)) 1 4 (N (q + 1))) T (if isSg (T.2 q) = true then 4 else 1, q, q + 1, [], 0) := by
    intro z hz
    refine ⟨k1_uI (k1_uI hS (by omega)) (by omega), ?_, hr.2, ?_, ?_, ?_, fun h => ?_, fun h => ?_⟩
    · rw [I_uI, if_neg (by omega), I_uI, if_neg (by omega)]; exact hr.1
    · rw [I_uI, if_neg (by omega), I_uI, if_pos ⟨rfl, rfl⟩, hz]
    · rw [I_uI, if_neg (by omega), I_uI, if_neg (by omega)]; exact h3
    · rw [I_uI, if_pos ⟨rfl, rfl⟩]
    · dsimp only at h; split at h <;> omega
    · dsimp only at h; split at h <;> omega
  rw [wp_ite, wp_lt, wp_lt, wp_some, wp_lt, wp_lt, wp_some]
  refine ⟨fun e => key 1 ?_, fun e => key 4 ?_⟩
  · rw [e2.mp e, if_neg Bool.false_ne_true]
  · cases hs : isSg (T.2 q) with
    | true => rw [if_pos rfl]
    | false => exact absurd (e2.mpr hs) e
theorem xAdv41 {S0 S : gS} {T : aTp} {q k : Nat} (hT : okT T) (hq : q ≤ T.1) (hk : 3 ≤ k) (hS : kX1 S0 S) (hr : rwX S T) : wp (fX8_advance k 41 S (N q) 0) (fun U => kX1 S0 U ∧ tkX U T (tokAt T q)) := by
  obtain ⟨k, rfl, hk'⟩ := kS (m := 2) hk
  obtain ⟨k, rfl, hk2⟩ := kS (m := 1) hk'
  have h1000 := hT.1
  rw [fX8_advance]
  simp only [if_true]
  rw [if_neg (by decide)]
  simp only [bX8_advance_41]
  rw [wp_lt, wp_lt]
  have hS2 : kX1 S0 (uI (uI S 1 3 (N q)) 1 4 (N q)) := k1_uI (k1_uI hS (by omega)) (by omega)
  have hr2 : rwX (uI (uI S 1 3 (N q)) 1 4 (N q)) T := ⟨by rw [I_uI, if_neg (by omega), I_uI, if_neg (by omega)]; exact hr.1, hr.2⟩
  have h3 : sI (uI (uI S 1 3 (N q)) 1 4 (N q)) 1 3 = N q := by rw [I_uI, if_neg (by omega), I_uI, if_pos ⟨rfl, rfl⟩]
  have h4 : sI (uI (uI S 1 3 (N q)) 1 4 (N q)) 1 4 = N q := by rw [I_uI, if_pos ⟨rfl, rfl⟩]
  revert hS2 hr2 h3 h4
  generalize uI (uI S 1 3 (N q)) 1 4 (N q) = U
  intro hS2 hr2 h3 h4
  rw [hr2.1]
  by_cases hlt : q < T.1
  · rw [if_pos ((ltN (by omega) (by omega)).mpr hlt), if_pos (vpN (by omega) (by omega)), clN (by omega), hr2.2 q hlt]
    have hc := hT.2 q hlt
    have e91 : isLt (T.2 q) = false → wp (fX8_advance (k + 1) 91 U (N q) (N (T.2 q))) (fun U => kX1 S0 U ∧ tkX U T (tokAt T q)) := by
      intro hl
      rw [fX8_advance]
      simp only [if_true]
      rw [if_neg (by decide), if_neg (by decide)]
      simp only [bX8_advance_91]
      cases hd : isDg (T.2 q) with
      | false =>
        have g := xAdv110 (k := k) hT hlt hk2 hS2 hr2 h3 hl hd
        rcases (cDg hc).mpr hd with h | h
        · rw [if_pos h]; exact g
        · split
          · exact g
          · exact g
      | true =>
        have hn : ¬ (N (T.2 q) < 48 ∨ (57 : Int32) < N (T.2 q)) := fun h => by rw [(cDg hc).mp h] at hd; cases hd
        rw [if_neg (fun h => hn (Or.inl h)), if_neg (fun h => hn (Or.inr h)), wp_b1]
        unfold FX8_scanNumber
        rw [wp_lt]
        obtain ⟨a, b, cc, dd⟩ := rnE_sp (P := isDg) (T := T) T.1 q (by omega)
        have et : tokAt T q = (if rnD T q - q ≤ 4 then 3 else 1, q, rnD T q, [], nms T q (rnD T q - q)) := by
          unfold tokAt
          rw [if_neg (by omega), hl, if_neg Bool.false_ne_true, hd, if_pos rfl]
        rw [et]
        refine wp_mono (xScanN (S0 := S0) (q := q) (e := rnE isDg T T.1 q) hT (by omega) (fun i h1 h2 => (cc i h1 h2).2) dd (rnE isDg T T.1 q - q) q FU _ (by omega) (Nat.le_refl _) (by unfold FU; omega) (k1_uI hS2 (by omega)) ⟨by rw [I_uI, if_neg (by omega)]; exact hr2.1, hr2.2⟩ (by rw [I_uI, if_neg (by omega)]; exact h3) (by rw [I_uI, if_neg (by omega)]; exact h4) (by rw [I_uI, if_pos ⟨rfl, rfl⟩, Nat.sub_self]; rfl)) ?_
        intro V hV
        rw [wp_some]; exact hV
    cases hl : isLt (T.2 q) with
    | false =>
      have g := e91 hl
      rcases (cLt hc).mpr hl with h | h
      · rw [if_pos h]; exact g
      · split
        · exact g
        · exact g
    | true =>
      have hn : ¬ (N (T.2 q) < 97 ∨ (122 : Int32) < N (T.2 q)) := fun h => by rw [(cLt hc).mp h] at hl; cases hl
      rw [if_neg (fun h => hn (Or.inl h)), if_neg (fun h => hn (Or.inr h)), wp_b1]
      unfold FX8_scanWord
      rw [wp_lt]
      obtain ⟨a, b, cc, dd⟩ := rnE_sp (P := isLt) (T := T) T.1 q (by omega)
      have et : tokAt T q = (if rnL T q - q ≤ 8 then 2 else 1, q, rnL T q, lts T q (rnL T q - q), 0) := by
        unfold tokAt
        rw [if_neg (by omega), hl, if_pos rfl]
      rw [et]
      refine wp_mono (xScanW (S0 := S0) (q := q) (e := rnE isLt T T.1 q) hT (by omega) (fun i h1 h2 => (cc i h1 h2).2) dd (rnE isLt T T.1 q - q) q FU _ (by omega) (Nat.le_refl _) (by unfold FU; omega) (k1_uJ hS2) ⟨hr2.1, hr2.2⟩ h3 h4 (by rw [J_uJ, if_pos ⟨rfl, rfl⟩, Nat.sub_self]; rfl)) ?_
      intro V hV
      rw [wp_some]; exact hV
  · have hqe : q = T.1 := by omega
    have et : tokAt T q = (0, q, q, [], 0) := by unfold tokAt; rw [if_pos (by omega)]
    rw [if_neg (fun h => hlt ((ltN (by omega) (by omega)).mp h)), wp_lt, wp_some, et]
    refine ⟨k1_uI hS2 (by omega), ?_, hr2.2, ?_, ?_, ?_, fun h => absurd (show (0 : Nat) = 2 from h) (by omega), fun h => absurd (show (0 : Nat) = 3 from h) (by omega)⟩
    · rw [I_uI, if_neg (by omega)]; exact hr2.1
    · rw [I_uI, if_pos ⟨rfl, rfl⟩]; rfl
    · rw [I_uI, if_neg (by omega)]; exact h3
    · rw [I_uI, if_neg (by omega)]; exact h4
theorem xAdv5 {S0 : gS} {T : aTp} {q : Nat} (hT : okT T) (hq : q ≤ T.1) {p : Nat} (hl : ∀ i, p ≤ i → i < q → isBl (T.2 i) = true) (hs : ¬ (q < T.1 ∧ isBl (T.2 q) = true)) : ∀ m i k S, i + m = q → p ≤ i → m + 4 ≤ k → kX1 S0 S → rwX S T → wp (fX8_advance k 5 S (N i) 0) (fun U => kX1 S0 U ∧ tkX U T (tokAt T q)) := by
  have h1000 := hT.1
  intro m
  induction m with
  | zero =>
    intro i k S hi hp hk hS hr
    obtain ⟨k, rfl, hk'⟩ := kS (m := 3) (by omega)
    have hie : i = q := by omega
    subst hie
    have g := xAdv41 (S0 := S0) (S := S) (k := k) hT hq hk' hS hr
    rw [fX8_advance]
    simp only [if_true, bX8_advance_5]
    rw [hr.1]
    by_cases c : T.1 ≤ i
    · rw [if_pos ((leN (by omega) (by omega)).mpr c)]; exact g
    · have hb : ¬ (N (T.2 i) = 10 ∨ N (T.2 i) = 32) := fun h => hs ⟨by omega, (cBl (hT.2 i (by omega))).mp h⟩
      rw [if_neg (fun h => c ((leN (by omega) (by omega)).mp h)), if_pos (vpN (by omega) (by omega)), clN (by omega), hr.2 i (by omega), if_neg (fun h => hb (Or.inl h)), if_neg (fun h => hb (Or.inr h))]
      exact g
  | succ m ih =>
    intro i k S hi hp hk hS hr
    obtain ⟨k, rfl, hk'⟩ := kS (m := m + 4) (by omega)
    have hb := (cBl (hT.2 i (by omega))).mpr (hl i hp (by omega))
    have g := ih (i + 1) k S (by omega) (by omega) hk' hS hr
    rw [fX8_advance]
    simp only [if_true, bX8_advance_5]
    rw [hr.1, if_neg (fun h => absurd ((leN (by omega) (by omega)).mp h) (by omega)), if_pos (vpN (by omega) (by omega)), clN (by omega), hr.2 i (by omega), addN1]
    rcases hb with h | h
    · rw [if_pos h]; exact g
    · split
      · exact g
      · exact g
theorem xAdvance {S : gS} {T : aTp} {p : Nat} (hT : okT T) (hp : p ≤ T.1) (hr : rwX S T) (h4 : sI S 1 4 = N p) : wp (FX8_advance S) (fun U => kX1 S U ∧ tkX U T (aTok T p)) := by
  have h1000 := hT.1
  unfold FX8_advance
  rw [h4]
  obtain ⟨a, b, c, d⟩ := rnE_sp (P := isBl) (T := T) T.1 p (by omega)
  exact xAdv5 (q := rnE isBl T T.1 p) hT (by omega) (p := p) (fun i h1 h2 => (c i h1 h2).2) d (rnE isBl T T.1 p - p) p FU S (by omega) (Nat.le_refl _) (by unfold FU; omega) (k1_rf) hr
