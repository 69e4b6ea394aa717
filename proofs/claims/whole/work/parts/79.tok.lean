/-! tokens -/
def isBl (c : Nat) : Bool := decide (c = 10 ∨ c = 32)
def isLt (c : Nat) : Bool := decide (97 ≤ c ∧ c ≤ 122)
def isDg (c : Nat) : Bool := decide (48 ≤ c ∧ c ≤ 57)
def isSg (c : Nat) : Bool := decide (c = 40 ∨ c = 41 ∨ c = 42 ∨ c = 43 ∨ c = 45 ∨ c = 59 ∨ c = 60 ∨ c = 61)
/-- to the end of a run -/
def rnE (P : Nat → Bool) (T : aTp) : Nat → Nat → Nat
  | 0, q => q
  | m + 1, q => if q < T.1 ∧ P (T.2 q) = true then rnE P T m (q + 1) else q
theorem rnE_sp {P : Nat → Bool} {T : aTp} : ∀ m q, T.1 ≤ q + m → q ≤ rnE P T m q ∧ (rnE P T m q ≤ T.1 ∨ rnE P T m q = q) ∧ (∀ i, q ≤ i → i < rnE P T m q → i < T.1 ∧ P (T.2 i) = true) ∧ ¬ (rnE P T m q < T.1 ∧ P (T.2 (rnE P T m q)) = true) := by
  intro m
  induction m with
  | zero => intro q hq; rw [rnE]; exact ⟨Nat.le_refl _, Or.inr rfl, fun i a b => by omega, fun h => by omega⟩
  | succ m ih =>
    intro q hq
    rw [rnE]
    split
    · rename_i e
      obtain ⟨a, b, c, d⟩ := ih (q + 1) (by omega)
      refine ⟨by omega, Or.inl (by omega), fun i h1 h2 => ?_, d⟩
      by_cases ei : i = q
      · subst ei; exact e
      · exact c i (by omega) h2
    · rename_i e
      exact ⟨Nat.le_refl _, Or.inr rfl, fun i a b => by omega, e⟩
def lts (T : aTp) (q : Nat) : Nat → List Nat
  | 0 => []
  | k + 1 => (T.2 (q + k) - 96) :: lts T q k
def nms (T : aTp) (q : Nat) : Nat → Nat
  | 0 => 0
  | k + 1 => nms T q k * 10 + (T.2 (q + k) - 48)
/-- kind (0 end, 1 none, 2 word, 3 number, 4 sign), where, behind, letters (the last first), number -/
abbrev aTk : Type := Nat × Nat × Nat × List Nat × Nat
def rnL (T : aTp) (q : Nat) : Nat := rnE isLt T T.1 q
def rnD (T : aTp) (q : Nat) : Nat := rnE isDg T T.1 q
def tokAt (T : aTp) (q : Nat) : aTk :=
  if T.1 ≤ q then (0, q, q, [], 0)
  else if isLt (T.2 q) = true then (if rnL T q - q ≤ 8 then 2 else 1, q, rnL T q, lts T q (rnL T q - q), 0)
  else if isDg (T.2 q) = true then (if rnD T q - q ≤ 4 then 3 else 1, q, rnD T q, [], nms T q (rnD T q - q))
  else (if isSg (T.2 q) = true then 4 else 1, q, q + 1, [], 0)
def skB (T : aTp) (p : Nat) : Nat := rnE isBl T T.1 p
def aTok (T : aTp) (p : Nat) : aTk := tokAt T (skB T p)
theorem tokAt_e {T : aTp} {q : Nat} (hq : q ≤ T.1) : (tokAt T q).2.1 = q ∧ q ≤ (tokAt T q).2.2.1 ∧ (tokAt T q).2.2.1 ≤ T.1 ∧ ((tokAt T q).1 = 0 ↔ q = T.1) ∧ (q < T.1 → q < (tokAt T q).2.2.1) ∧ (tokAt T q).1 ≤ 4 := by
  unfold tokAt
  split
  · exact ⟨rfl, Nat.le_refl _, hq, by dsimp only; omega, fun h => by omega, by dsimp only; omega⟩
  · rename_i h0
    split
    · rename_i h1
      obtain ⟨a, b, c, d⟩ := rnE_sp (P := isLt) (T := T) T.1 q (by omega)
      have hlt : q < rnE isLt T T.1 q := by
        by_cases e : q < rnE isLt T T.1 q
        · exact e
        · have e2 : rnE isLt T T.1 q = q := by omega
          rw [e2] at d; exact absurd ⟨by omega, h1⟩ d
      refine ⟨rfl, a, ?_, ?_, fun _ => hlt, ?_⟩
      · change rnE isLt T T.1 q ≤ T.1; omega
      · dsimp only; split <;> omega
      · dsimp only; split <;> omega
    · split
      · rename_i h1
        obtain ⟨a, b, c, d⟩ := rnE_sp (P := isDg) (T := T) T.1 q (by omega)
        have hlt : q < rnE isDg T T.1 q := by
          by_cases e : q < rnE isDg T T.1 q
          · exact e
          · have e2 : rnE isDg T T.1 q = q := by omega
            rw [e2] at d; exact absurd ⟨by omega, h1⟩ d
        refine ⟨rfl, a, ?_, ?_, fun _ => hlt, ?_⟩
        · change rnE isDg T T.1 q ≤ T.1; omega
        · dsimp only; split <;> omega
        · dsimp only; split <;> omega
      · refine ⟨rfl, by dsimp only; omega, by dsimp only; omega, ?_, fun _ => by dsimp only; omega, ?_⟩
        · dsimp only; split <;> omega
        · dsimp only; split <;> omega
theorem aTok_e {T : aTp} {p : Nat} (hp : p ≤ T.1) : p ≤ (aTok T p).2.1 ∧ (aTok T p).2.1 ≤ (aTok T p).2.2.1 ∧ (aTok T p).2.2.1 ≤ T.1 ∧ ((aTok T p).1 = 0 ↔ (aTok T p).2.1 = T.1) ∧ (¬ (aTok T p).1 = 0 → p < (aTok T p).2.2.1) ∧ (aTok T p).1 ≤ 4 := by
  obtain ⟨a, b, c, d⟩ := rnE_sp (P := isBl) (T := T) T.1 p (by omega)
  have hq : skB T p ≤ T.1 := by unfold skB; omega
  obtain ⟨e1, e2, e3, e4, e5, e6⟩ := tokAt_e hq
  unfold aTok
  rw [e1]
  refine ⟨a, e2, e3, e4, fun h => ?_, e6⟩
  have : skB T p < T.1 := by
    by_cases e : skB T p = T.1
    · exact absurd (e4.mpr e) h
    · omega
  have := e5 this
  have ha : p ≤ skB T p := a
  omega
def tkX (S : gS) (T : aTp) (k : aTk) : Prop := sI S 1 1 = N T.1 ∧ (∀ i, i < T.1 → sR S 2 i = N (T.2 i)) ∧ sI S 1 2 = N k.1 ∧ sI S 1 3 = N k.2.1 ∧ sI S 1 4 = N k.2.2.1 ∧ (k.1 = 2 → sJ S 1 5 = LN (e32 k.2.2.2.1)) ∧ (k.1 = 3 → sI S 1 6 = N k.2.2.2.2)
def mkk (k : Nat) : Nat := if k = 0 then 0 else if k = 1 then 4 else k - 1
def tkM (S : gS) (T : aTp) (k : aTk) : Prop := sI S 180 3 = N T.1 ∧ (∀ i, i < T.1 → sR S 181 i = N (T.2 i)) ∧ sI S 180 6 = N (mkk k.1) ∧ sI S 180 5 = N k.2.1 ∧ sI S 180 4 = N k.2.2.1 ∧ (k.1 = 2 → sJ S 180 7 = LN (e27 k.2.2.2.1)) ∧ (k.1 = 3 → sI S 180 8 = N k.2.2.2.2)
def okT (T : aTp) : Prop := T.1 ≤ 1000 ∧ ∀ i, i < T.1 → okC (T.2 i)
/-- x's tape, but for the token -/
def rwX (S : gS) (T : aTp) : Prop := sI S 1 1 = N T.1 ∧ (∀ i, i < T.1 → sR S 2 i = N (T.2 i))
theorem cLt {c : Nat} (hc : okC c) : (N c < 97 ∨ (122 : Int32) < N c) ↔ isLt c = false := by
  have h : c < 200 := by unfold okC at hc; omega
  have a : (N c < 97) ↔ c < 97 := ltN (b := 97) (by omega) (by omega)
  have b : ((122 : Int32) < N c) ↔ 122 < c := ltN (a := 122) (by omega) (by omega)
  unfold isLt
  rw [a, b, decide_eq_false_iff_not]
  omega
theorem cDg {c : Nat} (hc : okC c) : (N c < 48 ∨ (57 : Int32) < N c) ↔ isDg c = false := by
  have h : c < 200 := by unfold okC at hc; omega
  have a : (N c < 48) ↔ c < 48 := ltN (b := 48) (by omega) (by omega)
  have b : ((57 : Int32) < N c) ↔ 57 < c := ltN (a := 57) (by omega) (by omega)
  unfold isDg
  rw [a, b, decide_eq_false_iff_not]
  omega
theorem cBl {c : Nat} (hc : okC c) : (N c = 10 ∨ N c = 32) ↔ isBl c = true := by
  have h : c < 200 := by unfold okC at hc; omega
  have a : (N c = 10) ↔ c = 10 := eqN (b := 10) (by omega) (by omega)
  have b : (N c = 32) ↔ c = 32 := eqN (b := 32) (by omega) (by omega)
  unfold isBl
  rw [a, b, decide_eq_true_eq]
/-- what advance leaves -/
def kX1 (S S' : gS) : Prop := fr [1] S S' ∧ (sI S' 1 7 = sI S 1 7 ∧ ∀ a k, ¬ (a = 1 ∧ k = 5) → sJ S' a k = sJ S a k)
theorem k1_rf {S : gS} : kX1 S S := ⟨fr_rf, rfl, fun _ _ _ => rfl⟩
theorem k1_uI {S S' : gS} {k : Nat} {x : Int32} (h : kX1 S S') (hk : ¬ k = 7) : kX1 S (uI S' 1 k x) :=
  ⟨fr_uI h.1 (by simp), by rw [I_uI, if_neg (by omega)]; exact h.2.1, fun a k' h' => by rw [J_uI]; exact h.2.2 a k' h'⟩
theorem k1_uJ {S S' : gS} {x : Int64} (h : kX1 S S') : kX1 S (uJ S' 1 5 x) :=
  ⟨fr_uJ h.1, h.2.1, fun a k' h' => by rw [J_uJ, if_neg h']; exact h.2.2 a k' h'⟩
theorem xScanW {S0 : gS} {T : aTp} {q e : Nat} (hT : okT T) (he : e ≤ T.1) (hl : ∀ i, q ≤ i → i < e → isLt (T.2 i) = true) (hs : ¬ (e < T.1 ∧ isLt (T.2 e) = true)) : ∀ m i k S, i + m = e → q ≤ i → m + 2 ≤ k → kX1 S0 S → rwX S T → sI S 1 3 = N q → sI S 1 4 = N i → sJ S 1 5 = LN (e32 (lts T q (i - q))) → wp (fX8_scanWord k 5 S) (fun U => kX1 S0 U ∧ tkX U T (if e - q ≤ 8 then 2 else 1, q, e, lts T q (e - q), 0)) := by
  intro m
  induction m with
  | zero =>
    intro i k S hi hq hk hS hr h3 h4 h5
    obtain ⟨k, rfl, hk'⟩ := kS (m := 1) hk
    obtain ⟨k, rfl, -⟩ := kS (m := 0) hk'
    have h1000 := hT.1
    have hie : i = e := by omega
    subst hie
    have e85 : wp (fX8_scanWord (k + 1) 85 S) (fun U => kX1 S0 U ∧ tkX U T (if i - q ≤ 8 then 2 else 1, q, i, lts T q (i - q), 0)) := by
      rw [fX8_scanWord]
      simp only [if_true]
      rw [if_neg (by decide)]
      simp only [bX8_scanWord_85]
      rw [h3, h4, subN hq, wp_ite, wp_lt, wp_lt, wp_some, wp_some]
      have key : ∀ z : Nat, (z = if i - q ≤ 8 then 2 else 1) → kX1 S0 (uI S 1 2 (N z)) ∧ tkX (uI S 1 2 (N z)) T (if i - q ≤ 8 then 2 else 1, q, i, lts T q (i - q), 0) := by
        intro z hz
        refine ⟨k1_uI hS (by omega), ?_, hr.2, ?_, ?_, ?_, fun _ => h5, fun h => ?_⟩
        · rw [I_uI, if_neg (by omega)]; exact hr.1
        · rw [I_uI, if_pos ⟨rfl, rfl⟩, hz]
        · rw [I_uI, if_neg (by omega)]; exact h3
        · rw [I_uI, if_neg (by omega)]; exact h4
        · dsimp only at h; split at h <;> omega
      refine ⟨fun c => key 1 ?_, fun c => key 2 ?_⟩
      · have := (ltN (a := 8) (by omega) (by omega)).mp c
        rw [if_neg (by omega)]
      · have : ¬ 8 < i - q := fun h => c ((ltN (a := 8) (by omega) (by omega)).mpr h)
        rw [if_pos (by omega)]
    rw [fX8_scanWord]
    simp only [if_true, bX8_scanWord_5]
    rw [hr.1, h4]
    by_cases c : T.1 ≤ i
    · rw [if_pos ((leN (by omega) (by omega)).mpr c)]; exact e85
    · rw [if_neg (fun h => c ((leN (by omega) (by omega)).mp h)), if_pos (vpN (by omega) (by omega)), clN (by omega), hr.2 i (by omega)]
      have hnl : isLt (T.2 i) = false := by
        cases hh : isLt (T.2 i) with
        | false => rfl
        | true => exact absurd ⟨by omega, hh⟩ hs
      rcases (cLt (hT.2 i (by omega))).mpr hnl with h | h
      · rw [if_pos h]; exact e85
      · split
        · exact e85
        · exact e85
  | succ m ih =>
    intro i k S hi hq hk hS hr h3 h4 h5
    obtain ⟨k, rfl, hk'⟩ := kS (m := m + 2) (by omega)
    have h1000 := hT.1
    have hL := hl i hq (by omega)
    have hn : ¬ (N (T.2 i) < 97 ∨ (122 : Int32) < N (T.2 i)) := fun h => by rw [(cLt (hT.2 i (by omega))).mp h] at hL; cases hL
    rw [fX8_scanWord]
    simp only [if_true, bX8_scanWord_5]
    rw [hr.1, h4, if_neg (fun h => absurd ((leN (by omega) (by omega)).mp h) (by omega)), if_pos (vpN (by omega) (by omega)), clN (by omega), hr.2 i (by omega), if_neg (fun h => hn (Or.inl h)), if_neg (fun h => hn (Or.inr h)), wp_lt, h5]
    have hb : 97 ≤ T.2 i ∧ T.2 i ≤ 122 := of_decide_eq_true hL
    have e1 : N (T.2 i) - (97 : Int32) + (1 : Int32) = N (T.2 i - 96) := by
      rw [show N (T.2 i) - (97 : Int32) = N (T.2 i - 97) from subN (b := 97) (by omega), show N (T.2 i - 97) + (1 : Int32) = N (T.2 i - 97 + 1) from addN1]
      congr 1; omega
    have e2 : LN (e32 (lts T q (i - q))) * (32 : Int64) + Int32.toInt64 (N (T.2 i) - (97 : Int32) + (1 : Int32)) = LN (e32 (lts T q (i + 1 - q))) := by
      rw [e1, NL (by omega), show LN (e32 (lts T q (i - q))) * (32 : Int64) = LN (e32 (lts T q (i - q)) * 32) from LNmul (b := 32), LNadd, show i + 1 - q = (i - q) + 1 by omega, lts, e32, show q + (i - q) = i by omega]
    rw [e2]
    have e4 : sI (uJ S 1 5 (LN (e32 (lts T q (i + 1 - q))))) 1 4 = N i := h4
    rw [wp_lt, e4, addN1]
    refine ih (i + 1) k _ (by omega) (by omega) hk' (k1_uI (k1_uJ hS) (by omega)) ⟨by rw [I_uI, if_neg (by omega)]; exact hr.1, hr.2⟩ (by rw [I_uI, if_neg (by omega)]; exact h3) (by rw [I_uI, if_pos ⟨rfl, rfl⟩]) (by rw [J_uI, J_uJ, if_pos ⟨rfl, rfl⟩])
theorem xScanN {S0 : gS} {T : aTp} {q e : Nat} (hT : okT T) (he : e ≤ T.1) (hl : ∀ i, q ≤ i → i < e → isDg (T.2 i) = true) (hs : ¬ (e < T.1 ∧ isDg (T.2 e) = true)) : ∀ m i k S, i + m = e → q ≤ i → m + 2 ≤ k → kX1 S0 S → rwX S T → sI S 1 3 = N q → sI S 1 4 = N i → sI S 1 6 = N (nms T q (i - q)) → wp (fX8_scanNumber k 5 S) (fun U => kX1 S0 U ∧ tkX U T (if e - q ≤ 4 then 3 else 1, q, e, [], nms T q (e - q))) := by
  intro m
  induction m with
  | zero =>
    intro i k S hi hq hk hS hr h3 h4 h5
    obtain ⟨k, rfl, hk'⟩ := kS (m := 1) hk
    obtain ⟨k, rfl, -⟩ := kS (m := 0) hk'
    have h1000 := hT.1
    have hie : i = e := by omega
    subst hie
    have e85 : wp (fX8_scanNumber (k + 1) 81 S) (fun U => kX1 S0 U ∧ tkX U T (if i - q ≤ 4 then 3 else 1, q, i, [], nms T q (i - q))) := by
      rw [fX8_scanNumber]
      simp only [if_true]
      rw [if_neg (by decide)]
      simp only [bX8_scanNumber_81]
      rw [h3, h4, subN hq, wp_ite, wp_lt, wp_lt, wp_some, wp_some]
      have key : ∀ z : Nat, (z = if i - q ≤ 4 then 3 else 1) → kX1 S0 (uI S 1 2 (N z)) ∧ tkX (uI S 1 2 (N z)) T (if i - q ≤ 4 then 3 else 1, q, i, [], nms T q (i - q)) := by
        intro z hz
        refine ⟨k1_uI hS (by omega), ?_, hr.2, ?_, ?_, ?_, fun h => ?_, fun _ => ?_⟩
        · rw [I_uI, if_neg (by omega)]; exact hr.1
        · rw [I_uI, if_pos ⟨rfl, rfl⟩, hz]
        · rw [I_uI, if_neg (by omega)]; exact h3
        · rw [I_uI, if_neg (by omega)]; exact h4
        · dsimp only at h; split at h <;> omega
        · rw [I_uI, if_neg (by omega)]; exact h5
      refine ⟨fun c => key 1 ?_, fun c => key 3 ?_⟩
      · have := (ltN (a := 4) (by omega) (by omega)).mp c
        rw [if_neg (by omega)]
      · have : ¬ 4 < i - q := fun h => c ((ltN (a := 4) (by omega) (by omega)).mpr h)
        rw [if_pos (by omega)]
    rw [fX8_scanNumber]
    simp only [if_true, bX8_scanNumber_5]
    rw [hr.1, h4]
    by_cases c : T.1 ≤ i
    · rw [if_pos ((leN (by omega) (by omega)).mpr c)]; exact e85
    · rw [if_neg (fun h => c ((leN (by omega) (by omega)).mp h)), if_pos (vpN (by omega) (by omega)), clN (by omega), hr.2 i (by omega)]
      have hnl : isDg (T.2 i) = false := by
        cases hh : isDg (T.2 i) with
        | false => rfl
        | true => exact absurd ⟨by omega, hh⟩ hs
      rcases (cDg (hT.2 i (by omega))).mpr hnl with h | h
      · rw [if_pos h]; exact e85
      · split
        · exact e85
        · exact e85
  | succ m ih =>
    intro i k S hi hq hk hS hr h3 h4 h5
    obtain ⟨k, rfl, hk'⟩ := kS (m := m + 2) (by omega)
    have h1000 := hT.1
    have hL := hl i hq (by omega)
    have hn : ¬ (N (T.2 i) < 48 ∨ (57 : Int32) < N (T.2 i)) := fun h => by rw [(cDg (hT.2 i (by omega))).mp h] at hL; cases hL
    have hb : 48 ≤ T.2 i ∧ T.2 i ≤ 57 := of_decide_eq_true hL
    rw [fX8_scanNumber]
    simp only [if_true, bX8_scanNumber_5]
    rw [hr.1, h4, if_neg (fun h => absurd ((leN (by omega) (by omega)).mp h) (by omega)), if_pos (vpN (by omega) (by omega)), clN (by omega), hr.2 i (by omega), if_neg (fun h => hn (Or.inl h)), if_neg (fun h => hn (Or.inr h)), wp_lt, h5]
    have e2 : N (nms T q (i - q)) * (10 : Int32) + (N (T.2 i) - (48 : Int32)) = N (nms T q (i + 1 - q)) := by
      rw [show N (T.2 i) - (48 : Int32) = N (T.2 i - 48) from subN (b := 48) (by omega), show N (nms T q (i - q)) * (10 : Int32) = N (nms T q (i - q) * 10) from mulN (b := 10), addN, show i + 1 - q = (i - q) + 1 by omega, nms, show q + (i - q) = i by omega]
    rw [e2]
    have e4 : sI (uI S 1 6 (N (nms T q (i + 1 - q)))) 1 4 = N i := by rw [I_uI, if_neg (by omega)]; exact h4
    rw [wp_lt, e4, addN1]
    refine ih (i + 1) k _ (by omega) (by omega) hk' (k1_uI (k1_uI hS (by omega)) (by omega)) ⟨by rw [I_uI, if_neg (by omega), I_uI, if_neg (by omega)]; exact hr.1, hr.2⟩ (by rw [I_uI, if_neg (by omega), I_uI, if_neg (by omega)]; exact h3) (by rw [I_uI, if_pos ⟨rfl, rfl⟩]) (by rw [I_uI, if_neg (by omega), I_uI, if_pos ⟨rfl, rfl⟩])
