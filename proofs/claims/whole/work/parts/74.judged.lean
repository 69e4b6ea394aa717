/-! a wall begun anew; judged -/
def aNest (F : aF) : Nat → Int32
  | 0 => 0
  | k + 1 => if fK F k = 3 then aNest F k ||| aBit k else aNest F k
def aFresh (F : aF) : aW := (0, aNest F (fN F), (fun _ => 0), (fun _ => 0), 0, -1, 0, (fun _ => 0))
theorem okFresh {F : aF} {c : Nat} : okW F c (aFresh F) := ⟨Nat.zero_le 40, Nat.zero_le c, fun _ _ => by change 0 ≤ Int32.toInt 0 ∧ Int32.toInt 0 ≤ 99; rw [ti0]; omega, fun _ _ _ => rfl⟩
theorem xNestL {S : gS} {f n : Nat} {F : aF} (hn : sI S f 0 = N (fN F)) (hk : ∀ i, i < fN F → sR S (f + 2) i = fK F i) (h7 : fN F ≤ 7) : ∀ m i k, i + m = fN F → m + 1 ≤ k → fX1_nests k 4 S f (aNest F i) (N i) = some (S, aNest F (fN F)) := by
  intro m
  induction m with
  | zero =>
    intro i k hi hk2
    obtain ⟨k, rfl, -⟩ := kS (m := 0) hk2
    rw [fX1_nests]
    simp only [bX1_nests_4, if_true]
    have : i = fN F := by omega
    subst this
    rw [hn, if_pos ((leN (by omega) (by omega)).mpr (by omega))]
  | succ m ih =>
    intro i k hi hk2
    obtain ⟨k, rfl, hk'⟩ := kS (m := m + 1) hk2
    rw [fX1_nests]
    simp only [bX1_nests_4, if_true]
    rw [hn, if_neg (fun e => absurd ((leN (by omega) (by omega)).mp e) (by omega)), if_pos (vpN (by omega) (by omega)), clN (by omega), hk i (by omega), addN1]
    have := ih (i + 1) k (by omega) hk'
    rw [aNest] at this
    split
    · rename_i e; rw [if_pos e] at this; exact this
    · rename_i e; rw [if_neg e] at this; exact this
theorem xBegL {S0 : gS} {w : Nat} {F : aF} : ∀ m i k S, i + m = 7 → m + 1 ≤ k → fr [w, w + 1, w + 2] S0 S → sI S w 0 = 0 → sI S w 1 = aNest F (fN F) → (∀ j, j < i → sR S (w + 1) j = 0 ∧ sR S (w + 2) j = 0) → wp (fX9_begin k 15 S w (N i)) (fun T => fr [w, w + 1, w + 2] S0 T ∧ rX T w (aFresh F)) := by
  intro m
  induction m with
  | zero =>
    intro i k S hi hk hS h0 h1 hr
    obtain ⟨k, rfl, -⟩ := kS (m := 0) hk
    rw [fX9_begin]
    simp only [bX9_begin_15, if_true]
    have : i = 7 := by omega
    subst this
    rw [if_pos (by decide), wp_lt, wp_lt, wp_lt, wp_some]
    refine ⟨fr_uI (fr_uI (fr_uI hS (by simp)) (by simp)) (by simp), ?_, ?_, fun i hi => (hr i hi).1, fun i hi => (hr i hi).2, ?_, ?_, ?_, fun i hi => absurd hi (Nat.not_lt_zero i)⟩
    · simp [I_uI, h0]; rfl
    · simp [I_uI, h1]; rfl
    · simp [I_uI]; rfl
    · simp [I_uI]; rfl
    · simp [I_uI]; rfl
  | succ m ih =>
    intro i k S hi hk hS h0 h1 hr
    obtain ⟨k, rfl, hk'⟩ := kS (m := m + 1) hk
    rw [fX9_begin]
    simp only [bX9_begin_15, if_true]
    rw [if_neg (show ¬ (7 : Int32) ≤ N i from fun c => absurd ((leN (a := 7) (by omega) (by omega)).mp c) (by omega)), if_pos (vpN (by omega) (by omega)), clN (by omega), wp_lt, wp_lt, addN1]
    refine ih (i + 1) k _ (by omega) hk' (fr_uR (fr_uR hS (by simp)) (by simp)) h0 h1 (fun j hj => ?_)
    by_cases e : j = i
    · subst e
      constructor
      · rw [R_uR, if_neg (by omega), R_uR, if_pos ⟨rfl, rfl⟩]
      · rw [R_uR, if_pos ⟨rfl, rfl⟩]
    · have := hr j (by omega)
      constructor
      · rw [R_uR, if_neg (by omega), R_uR, if_neg (by omega)]; exact this.1
      · rw [R_uR, if_neg (by omega), R_uR, if_neg (by omega)]; exact this.2
theorem xBegin {S : gS} {w f : Nat} {F : aF} (hn : sI S f 0 = N (fN F)) (hk : ∀ i, i < fN F → sR S (f + 2) i = fK F i) (h7 : fN F ≤ 7) (hw : f ≠ w) : wp (FX9_begin S w f) (fun T => fr [w, w + 1, w + 2] S T ∧ rX T w (aFresh F)) := by
  unfold FX9_begin FX1_nests
  rw [wp_lt, wp_b2]
  have hn' : sI (uI S w 0 0) f 0 = N (fN F) := by rw [I_uI, if_neg (fun h => hw h.1)]; exact hn
  refine wp_eq (xNestL (n := 0) hn' hk h7 (fN F) 0 FU (by omega) (by unfold FU; omega)) ?_
  rw [wp_lt]
  refine xBegL (S0 := S) (F := F) 7 0 FU _ (by omega) (by unfold FU; omega) (fr_uI (fr_uI fr_rf (by simp)) (by simp)) ?_ ?_ (fun j hj => absurd hj (by omega))
  · rw [I_uI, if_neg (by omega), I_uI, if_pos ⟨rfl, rfl⟩]
  · rw [I_uI, if_pos ⟨rfl, rfl⟩]
theorem mFr30 {S0 : gS} {F : aF} (hn : sR S0 182 0 = N (fN F)) (hk : ∀ i, i < fN F → sR S0 185 i = fK F i) (h7 : fN F ≤ 7) : ∀ m i k S, i + m = fN F → m + 1 ≤ k → fm [216] S0 S → (∀ j, j < 59 → sR S 216 j = if j = 3 then -1 else if j = 1 then aNest F i else 0) → wp (fX12_fresh0 k 30 S (N i)) (fun T => fm [216] S0 T ∧ (∀ j, j < 59 → sR T 216 j = if j = 3 then -1 else if j = 1 then aNest F (fN F) else 0)) := by
  have n6 : ∀ b, b ≠ 216 → b ∉ [216] := by intro b h hb; simp at hb; omega
  intro m
  induction m with
  | zero =>
    intro i k S hi hk2 hS hr
    obtain ⟨k, rfl, -⟩ := kS (m := 0) hk2
    rw [fX12_fresh0]
    simp only [if_true]
    rw [if_neg (by decide)]
    simp only [bX12_fresh0_30]
    have : i = fN F := by omega
    subst this
    rw [fmR hS (n6 182 (by omega)) (by omega), hn, if_pos ((leN (by omega) (by omega)).mpr (by omega)), wp_some]
    exact ⟨hS, hr⟩
  | succ m ih =>
    intro i k S hi hk2 hS hr
    obtain ⟨k, rfl, hk'⟩ := kS (m := m + 1) hk2
    rw [fX12_fresh0]
    simp only [if_true]
    rw [if_neg (by decide)]
    simp only [bX12_fresh0_30]
    have r1 := hr 1 (by omega)
    rw [if_neg (by omega), if_pos rfl] at r1
    rw [fmR hS (n6 182 (by omega)) (by omega), hn, if_neg (fun e => absurd ((leN (by omega) (by omega)).mp e) (by omega)), if_pos (vpN (by omega) (by omega)), clN (by omega), fmR hS (n6 185 (by omega)) (by omega), hk i (by omega), addN1, r1, wp_ite, wp_lt, wp_lt, Int32.or_zero]
    have key : ∀ x, x = aNest F (i + 1) → wp (fX12_fresh0 k 30 (uR S 216 1 x) (N (i + 1))) (fun T => fm [216] S0 T ∧ (∀ j, j < 59 → sR T 216 j = if j = 3 then -1 else if j = 1 then aNest F (fN F) else 0)) := by
      intro x hx
      refine ih (i + 1) k _ (by omega) hk' (fm_uR hS (by simp)) (fun j hj => ?_)
      rw [R_uR]
      by_cases e : j = 1
      · subst e; rw [if_pos ⟨rfl, rfl⟩, if_neg (by omega), if_pos rfl]; exact hx
      · rw [if_neg (by omega), hr j hj]
        split
        · rfl
        · simp [e]
    refine ⟨fun e => key _ ?_, fun e => key _ ?_⟩
    · rw [aNest, if_pos e]; rfl
    · rw [aNest, if_neg e]
theorem mFr2 {S0 : gS} {F : aF} (hn : sR S0 182 0 = N (fN F)) (hk : ∀ i, i < fN F → sR S0 185 i = fK F i) (h7 : fN F ≤ 7) : ∀ m i k S, i + m = 59 → m + 20 ≤ k → fm [216] S0 S → (∀ j, j < i → sR S 216 j = 0) → wp (fX12_fresh0 k 2 S (N i)) (fun T => fm [216] S0 T ∧ (∀ j, j < 59 → sR T 216 j = if j = 3 then -1 else if j = 1 then aNest F (fN F) else 0)) := by
  intro m
  induction m with
  | zero =>
    intro i k S hi hk2 hS hr
    obtain ⟨k, rfl, hk'⟩ := kS (m := 19) (by omega)
    rw [fX12_fresh0]
    simp only [bX12_fresh0_2, if_true]
    have : i = 59 := by omega
    subst this
    rw [if_pos (by decide), wp_lt]
    refine mFr30 hn hk h7 (fN F) 0 k _ (by omega) (by omega) (fm_uR hS (by simp)) (fun j hj => ?_)
    rw [R_uR]
    by_cases e : j = 3
    · subst e; rw [if_pos ⟨rfl, rfl⟩, if_pos rfl]
    · rw [if_neg (by omega), if_neg e, hr j hj]
      split
      · rfl
      · rfl
  | succ m ih =>
    intro i k S hi hk2 hS hr
    obtain ⟨k, rfl, hk'⟩ := kS (m := m + 20) (by omega)
    rw [fX12_fresh0]
    simp only [bX12_fresh0_2, if_true]
    rw [show (59 : Int32) = N 59 from rfl, if_neg (fun c => absurd ((leN (by omega) (by omega)).mp c) (by omega)), if_pos (vpN (by omega) (by omega)), clN (by omega), wp_lt, addN1]
    refine ih (i + 1) k _ (by omega) hk' (fm_uR hS (by simp)) (fun j hj => ?_)
    rw [R_uR]
    split
    · rfl
    · exact hr j (by omega)
theorem mFresh {S : gS} {F : aF} (hn : sR S 182 0 = N (fN F)) (hk : ∀ i, i < fN F → sR S 185 i = fK F i) (h7 : fN F ≤ 7) : wp (FX12_fresh0 S) (fun T => fm [216] S T ∧ rM T 216 0 (aFresh F)) := by
  unfold FX12_fresh0
  refine wp_mono (mFr2 hn hk h7 59 0 FU S (by omega) (by unfold FU; omega) fm_rf (fun j hj => absurd hj (by omega))) ?_
  rintro T ⟨t1, t2⟩
  refine ⟨t1, ?_, ?_, fun i hi => ?_, fun i hi => ?_, ?_, ?_, ?_, fun i hi => absurd hi (Nat.not_lt_zero i)⟩
  · rw [t2 0 (by omega), if_neg (by omega), if_neg (by omega)]; rfl
  · rw [t2 1 (by omega), if_neg (by omega), if_pos rfl]; rfl
  · rw [t2 _ (by omega), if_neg (by omega), if_neg (by omega)]; rfl
  · rw [t2 _ (by omega), if_neg (by omega), if_neg (by omega)]; rfl
  · rw [t2 2 (by omega), if_neg (by omega), if_neg (by omega)]; rfl
  · rw [t2 3 (by omega), if_pos rfl]; rfl
  · rw [t2 4 (by omega), if_neg (by omega), if_neg (by omega)]; rfl
/-! the row laid aside in 217 -/
def mA7 (S0 S : gS) (F : aF) : Prop := fm mS S0 S ∧ fMo S F ∧ ∀ j, j < 59 → sR S 217 j = sR S0 216 j
theorem mTake7 {S : gS} {F : aF} {A : aW} (hF : fMo S F) (hA : rM S 216 0 A) : wp (FX12_copies S 216 59 0 217 59 0) (fun T => mA7 S T F ∧ rM T 216 0 A) := by
  refine wp_mono (mCopy (S := S) (a0 := 216) (m0 := 59) (o0 := 0) (a2 := 217) (m2 := 59) (o2 := 0) (by omega) (by omega) (by omega) (by omega) (by omega) (by omega)) ?_
  rintro T ⟨q1, q2, q3⟩
  have q1' : fm mS S T := fm_mo q1 (by decide)
  refine ⟨⟨q1', fMo_fm hF q1' (fun b hb => mSn (by omega)), fun j hj => ?_⟩, rM_x hA (fmR q1 (by decide) (by decide))⟩
  have := q2 j hj
  rw [Nat.zero_add] at this; exact this
theorem mA7_ps {S0 S S' : gS} {F : aF} (h : mA7 S0 S F) (hS : fm psS S S') : mA7 S0 S' F := by
  refine ⟨fm_tr h.1 (fm_mo hS psm), fMo_fm h.2.1 hS (fun b hb => psSn hb), fun j hj => ?_⟩
  rw [fmR hS (by decide) (by decide)]; exact h.2.2 j hj
theorem mA7_216 {S0 S S' : gS} {F : aF} (h : mA7 S0 S F) (hS : fm [216] S S') : mA7 S0 S' F :=
  ⟨fm_tr h.1 (fm_mo hS (by decide)), fMo_fm h.2.1 hS (fun b hb => P1n hb), fun j hj => by rw [fmR hS (by decide) (by decide)]; exact h.2.2 j hj⟩
theorem mBack7 {S0 S : gS} {F : aF} (h : mA7 S0 S F) : wp (FX12_copies S 217 59 0 216 59 0) (fun T => keepM S0 T ∧ fm [216] S T) := by
  refine wp_mono (mCopy (S := S) (a0 := 217) (m0 := 59) (o0 := 0) (a2 := 216) (m2 := 59) (o2 := 0) (by omega) (by omega) (by omega) (by omega) (by omega) (by omega)) ?_
  rintro T ⟨q1, q2, q3⟩
  refine ⟨⟨fm_tr h.1 (fm_mo q1 (by decide)), fun j hj => ?_⟩, q1⟩
  have := q2 j hj
  rw [Nat.zero_add] at this
  exact this.trans (h.2.2 j hj)
/-! lines of a day -/
def aLine (F : aF) (D : aD) (i : Nat) (A : aW) : aW × Int32 :=
  if D.2.1 i = 0 then (aT F A, wLa (aT F A)) else if D.2.1 i = 1 then (aPour A (D.2.2.1 i) (D.2.2.2 i), -1)
  else if D.2.1 i = 2 then (if aHas (wSt A) (D.2.2.1 i) = true then (A, -2) else (aSet A (wSt A ||| aBit (D.2.2.1 i)), -1))
  else (if aHas (wSt A) (D.2.2.1 i) = true then (aSet A (wSt A &&& (aBit (D.2.2.1 i) ^^^ (-1))), -1) else (A, -2))
def aJ (F : aF) (D : aD) : Nat → Nat → aW → Int32 → Int32 → aW × Int32 × Int32
  | 0, _, A, b, r => (A, b, r)
  | m + 1, i, A, b, r => aJ F D m (i + 1) (aLine F D i A).1 (if (aLine F D i A).2 = -2 ∧ b = -1 then N i else b) (if 0 ≤ (aLine F D i A).2 ∧ ¬ (aLine F D i A).2 = 6 ∧ r = -1 then N i else r)
theorem okLine {F : aF} {D : aD} {c i : Nat} {A : aW} (ok : okF F) (oD : okD (fN F) D) (hi : i < D.1) (h : okW F c A) : okW F (c + 1) (aLine F D i A).1 := by
  obtain ⟨a, b, d⟩ := oD.2 i hi
  unfold aLine
  split
  · exact okPass ok (aRain_b ok _) h
  · rename_i e0
    split
    · rename_i e1
      have := d e1
      exact okW_mo (okPour h (b e0) ok.1 ⟨by omega, this.2⟩) (by omega)
    · split
      · split
        · exact okW_mo h (by omega)
        · exact okW_mo (okSet h) (by omega)
      · split
        · exact okW_mo (okSet h) (by omega)
        · exact okW_mo h (by omega)
theorem or_has {a : Int32} {m : Nat} (hm : m < 32) (h : aHas a m = true) : a ||| aBit m = a := by
  rw [has_tb hm] at h
  apply tb_ext
  intro j hj
  rw [tb_or, tb_bit hm hj]
  by_cases e : j = m
  · subst e; rw [h]; rfl
  · rw [decide_eq_false e, Bool.or_false]
theorem and_nhas {a : Int32} {m : Nat} (hm : m < 32) (h : ¬ aHas a m = true) : a &&& (aBit m ^^^ (-1)) = a := by
  rw [has_tb hm] at h
  apply tb_ext
  intro j hj
  rw [tb_and, tb_xor, tb_bit hm hj, tb_m1 hj]
  by_cases e : j = m
  · subst e
    have h : tb a j = false := by simpa using h
    rw [h]; rfl
  · rw [decide_eq_false e]; cases tb a j <;> rfl
theorem aSet_id {A : aW} : aSet A (wSt A) = A := rfl
theorem xLine {S : gS} {f d i c : Nat} {F : aF} {D : aD} {A : aW} (h : hX S f F) (hq : sQ S 5 = d) (hd : d = 34 ∨ d = 38) (hD : dX S d D) (oD : okD (fN F) D) (hi : i < D.1) (hA : rX S 53 A) (okA : okW F c A) (hc : c < 2147483648) : wp (FX11_doLine S (N i)) (fun q => fr xT S q.1 ∧ rX q.1 53 (aLine F D i A).1 ∧ q.2 = (aLine F D i A).2) := by
  have h7 := h.2.2.1
  have h40 := oD.1
  obtain ⟨o1, o2, o3⟩ := oD.2 i hi
  obtain ⟨d1, d2, d3⟩ := hD.2 i hi
  have m1 : ∀ b, b ∈ [53] → b ∈ xT := by decide
  have m2 : ∀ b, b ∈ [53 + 1] → b ∈ xT := by decide
  unfold FX11_doLine
  rw [hq, dbF hd, if_pos rfl, if_pos (vpN (by omega) (by omega)), clN (by omega), if_pos rfl, d1]
  unfold aLine
  by_cases e0 : D.2.1 i = 0
  · rw [if_pos ((eq0N (by omega)).mpr e0), if_pos e0, wp_b2]
    refine wp_mono (xTrial h hA okA hc) ?_
    rintro ⟨S1, x⟩ ⟨q1, q2, q3, -⟩
    rw [wp_some]
    exact ⟨q1, q2, q3⟩
  · have hm := o2 e0
    have em := d2 e0
    rw [if_neg (fun c => e0 ((eq0N (by omega)).mp c)), if_neg e0, em]
    by_cases e1 : D.2.1 i = 1
    · rw [if_pos (show N (D.2.1 i) = 1 from (eqN (b := 1) (by omega) (by omega)).mpr e1), if_pos e1, if_pos rfl, d3 e1, wp_b1]
      refine wp_mono (xPour (x := D.2.2.2 i) hA (by omega)) ?_
      rintro S1 ⟨q1, q2⟩
      rw [wp_some]
      exact ⟨fr_mo q1 m2, q2, rfl⟩
    · rw [if_neg (show ¬ N (D.2.1 i) = 1 from fun c => e1 ((eqN (b := 1) (by omega) (by omega)).mp c)), if_neg e1]
      by_cases e2 : D.2.1 i = 2
      · rw [if_pos (show N (D.2.1 i) = 2 from (eqN (b := 2) (by omega) (by omega)).mpr e2), if_pos e2, wp_b2]
        refine wp_mono (xStop (m := D.2.2.1 i) hA) ?_
        rintro ⟨S1, b⟩ ⟨q1, q2, q3⟩
        dsimp only at q1 q2 q3 ⊢
        by_cases hb : aHas (wSt A) (D.2.2.1 i) = true
        · rw [hb] at q3
          rw [if_pos hb, q3, if_neg (by decide), wp_some]
          rw [or_has (by omega) hb, aSet_id] at q2
          exact ⟨fr_mo q1 m1, q2, rfl⟩
        · have hb' : aHas (wSt A) (D.2.2.1 i) = false := by simpa using hb
          rw [hb'] at q3
          rw [if_neg hb, q3, if_pos (by decide), wp_some]
          exact ⟨fr_mo q1 m1, q2, rfl⟩
      · rw [if_neg (show ¬ N (D.2.1 i) = 2 from fun c => e2 ((eqN (b := 2) (by omega) (by omega)).mp c)), if_neg e2, wp_b2]
        refine wp_mono (xClear (m := D.2.2.1 i) hA) ?_
        rintro ⟨S1, b⟩ ⟨q1, q2, q3⟩
        dsimp only at q1 q2 q3 ⊢
        by_cases hb : aHas (wSt A) (D.2.2.1 i) = true
        · rw [if_pos hb, q3, if_pos hb, wp_some]
          exact ⟨fr_mo q1 m1, q2, rfl⟩
        · rw [if_neg hb, q3, if_neg hb, wp_some]
          rw [and_nhas (by omega) hb, aSet_id] at q2
          exact ⟨fr_mo q1 m1, q2, rfl⟩
theorem xJ {S0 : gS} {f d c : Nat} {F : aF} {D : aD} {i1 : Int32} (h : hX S0 f F) (hq : sQ S0 5 = d) (hd : d = 34 ∨ d = 38) (hD : dX S0 d D) (oD : okD (fN F) D) (hc : c ≤ 2000) : ∀ m i k S A b r, i + m = D.1 → 2 * m + 1 ≤ k → fr xT S0 S → rX S 53 A → okW F (c + i) A → wp (fX11_judged k 30 S i1 b r (N i) 0) (fun q => fr xT S0 q.1 ∧ q.2 = if i1 = 2 then aLike (aJ F D m i A b r).1 6 else if i1 = 0 then (aJ F D m i A b r).2.1 else (aJ F D m i A b r).2.2) := by
  have h40 := oD.1
  intro m
  induction m with
  | zero =>
    intro i k S A b r hi hk hS hA okA
    obtain ⟨k, rfl, -⟩ := kS (m := 0) hk
    have hq' : sQ S 5 = d := by rw [frQ hS]; exact hq
    have hD' : dX S d D := dX_fr hD hS (fun j hj => xTn (by omega))
    rw [fX11_judged]
    simp only [bX11_judged_30, if_true]
    rw [hq', dbF hd, if_pos rfl, hD'.1, if_pos ((leN (by omega) (by omega)).mpr (by omega)), aJ]
    by_cases e2 : i1 = 2
    · rw [if_pos e2, if_pos e2, xLike hA okA.1, wp_b2, wp_some, wp_some]
      exact ⟨hS, rfl⟩
    · rw [if_neg e2, if_neg e2]
      by_cases e0 : i1 = 0
      · rw [if_pos e0, if_pos e0, wp_some]; exact ⟨hS, rfl⟩
      · rw [if_neg e0, if_neg e0, wp_some]; exact ⟨hS, rfl⟩
  | succ m ih =>
    intro i k S A b r hi hk hS hA okA
    obtain ⟨k, rfl, hk'⟩ := kS (m := 2 * m + 2) (by omega)
    have hT := hX_T h hS
    have hq' : sQ S 5 = d := by rw [frQ hS]; exact hq
    have hD' : dX S d D := dX_fr hD hS (fun j hj => xTn (by omega))
    rw [fX11_judged]
    simp only [bX11_judged_30, if_true]
    rw [hq', dbF hd, if_pos rfl, hD'.1, if_neg (fun e => absurd ((leN (by omega) (by omega)).mp e) (by omega)), wp_b2]
    refine wp_mono (xLine hT hq' hd hD' oD (by omega) hA okA (by omega)) ?_
    rintro ⟨S1, x⟩ ⟨q1, q2, q3⟩
    dsimp only at q1 q2 q3 ⊢
    have hS1 := fr_tr hS q1
    have okA1 := okLine (i := i) h.2.2 oD (by omega) okA
    have okA2 : okW F (c + (i + 1)) (aLine F D i A).1 := by rw [← Nat.add_assoc]; exact okA1
    rw [aJ]
    obtain ⟨k, rfl, hk2⟩ := kS (m := 2 * m + 1) hk'
    have e65 : ∀ b', wp (fX11_judged (k + 1) 65 S1 i1 b' r (N i) x) (fun q => fr xT S0 q.1 ∧ q.2 = if i1 = 2 then aLike (aJ F D m (i + 1) (aLine F D i A).1 b' (if 0 ≤ x ∧ ¬ x = 6 ∧ r = -1 then N i else r)).1 6 else if i1 = 0 then (aJ F D m (i + 1) (aLine F D i A).1 b' (if 0 ≤ x ∧ ¬ x = 6 ∧ r = -1 then N i else r)).2.1 else (aJ F D m (i + 1) (aLine F D i A).1 b' (if 0 ≤ x ∧ ¬ x = 6 ∧ r = -1 then N i else r)).2.2) := by
      intro b'
      rw [fX11_judged]
      simp only [if_true]
      rw [if_neg (by decide)]
      simp only [bX11_judged_65]
      rw [addN1]
      by_cases e0 : x < 0
      · rw [if_pos e0, if_neg (show ¬ (0 ≤ x ∧ ¬ x = 6 ∧ r = -1) from fun h => by have a := h.1; rw [ile] at a; rw [ilt] at e0; omega)]
        exact ih (i + 1) k S1 _ b' r (by omega) (by omega) hS1 q2 okA2
      · rw [if_neg e0]
        by_cases e6 : x = 6
        · rw [if_pos e6, if_neg (show ¬ (0 ≤ x ∧ ¬ x = 6 ∧ r = -1) from fun h => h.2.1 e6)]
          exact ih (i + 1) k S1 _ b' r (by omega) (by omega) hS1 q2 okA2
        · rw [if_neg e6]
          by_cases er : r = -1
          · rw [if_pos er, if_pos (show 0 ≤ x ∧ ¬ x = 6 ∧ r = -1 from ⟨by rw [ilt] at e0; rw [ile]; omega, e6, er⟩)]
            exact ih (i + 1) k S1 _ b' (N i) (by omega) (by omega) hS1 q2 okA2
          · rw [if_neg er, if_neg (show ¬ (0 ≤ x ∧ ¬ x = 6 ∧ r = -1) from fun h => er h.2.2)]
            exact ih (i + 1) k S1 _ b' r (by omega) (by omega) hS1 q2 okA2
    rw [← q3]
    by_cases e2 : x = -2
    · rw [if_pos e2]
      by_cases eb : b = -1
      · rw [if_pos eb, if_pos (show x = -2 ∧ b = -1 from ⟨e2, eb⟩)]; exact e65 (N i)
      · rw [if_neg eb, if_neg (show ¬ (x = -2 ∧ b = -1) from fun h => eb h.2)]; exact e65 b
    · rw [if_neg e2, if_neg (show ¬ (x = -2 ∧ b = -1) from fun h => e2 h.1)]; exact e65 b
theorem aT_c {F : aF} (ok : okF F) {A : aW} : wLa (aT F A) = -1 ∨ ∃ k, k < 7 ∧ wLa (aT F A) = N k := aRead_c ok _
theorem mJ {S0 : gS} {c : Nat} {F : aF} {D : aD} {i1 : Int32} (ok : okF F) (hD : dM S0 0 D) (oD : okD (fN F) D) (hc : c ≤ 2000) : ∀ m i k S A b r, i + m = D.1 → 2 * m + 1 ≤ k → mA7 S0 S F → rM S 216 0 A → okW F (c + i) A → (b = -1 ∨ ∃ j, j < 1000 ∧ b = N j) → (r = -1 ∨ ∃ j, j < 1000 ∧ r = N j) → wp (fX12_judged k 41 S i1 b r (N i) 0) (fun q => keepM S0 q.1 ∧ q.2 = if i1 = 0 then (aJ F D m i A b r).2.1 else if i1 = 1 then (aJ F D m i A b r).2.2 else aLike (aJ F D m i A b r).1 6) := by
  have h40 := oD.1
  have h7 := ok.1
  intro m
  induction m with
  | zero =>
    intro i k S A b r hi hk hS hA okA hb hr
    obtain ⟨k, rfl, -⟩ := kS (m := 0) hk
    have hD' : dM S 0 D := dM_f hD hS.1 (fun b hb => mSn (by omega))
    rw [fX12_judged]
    simp only [bX12_judged_41, if_true]
    rw [hD'.1, if_pos ((leN (by omega) (by omega)).mpr (by omega)), aJ, mHoles hA okA.1, wp_b2, wp_some, wp_b1]
    refine wp_mono (mBack7 hS) ?_
    rintro T ⟨u1, -⟩
    dsimp only
    by_cases e0 : i1 = 0
    · rw [if_pos e0, if_pos e0, wp_some]; exact ⟨u1, rfl⟩
    · rw [if_neg e0, if_neg e0]
      by_cases e1 : i1 = 1
      · rw [if_pos e1, if_pos e1, wp_some]; exact ⟨u1, rfl⟩
      · rw [if_neg e1, if_neg e1, wp_some]; exact ⟨u1, rfl⟩
  | succ m ih =>
    intro i k S A b r hi hk hS hA okA hb hr
    obtain ⟨k, rfl, hk'⟩ := kS (m := 2 * m + 2) (by omega)
    have hD' : dM S 0 D := dM_f hD hS.1 (fun b hb => mSn (by omega))
    obtain ⟨o1, o2, o3⟩ := oD.2 i (by omega)
    have hdd := hD'.2 i (by omega)
    rw [show 40 * 0 + i = i by omega] at hdd
    obtain ⟨d1, d2, d3⟩ := hdd
    have okA2 : okW F (c + (i + 1)) (aLine F D i A).1 := by rw [← Nat.add_assoc]; exact okLine ok oD (by omega) okA
    rw [fX12_judged]
    simp only [bX12_judged_41, if_true]
    rw [hD'.1, if_neg (fun e => absurd ((leN (by omega) (by omega)).mp e) (by omega)), if_pos (vpN (by omega) (by omega)), clN (by omega), d1, aJ]
    by_cases e0 : D.2.1 i = 0
    · have eL : aLine F D i A = (aT F A, wLa (aT F A)) := by unfold aLine; rw [if_pos e0]
      rw [eL] at okA2 ⊢
      rw [if_pos ((eq0N (by omega)).mpr e0), wp_b2]
      refine wp_mono (mTold hS.2.1 ok hA okA (by omega)) ?_
      rintro ⟨S1, x⟩ ⟨q1, q2, q3, -⟩
      dsimp only at q1 q2 q3 ⊢
      have as1 := mA7_ps hS q1
      rw [wp_b2, ← q3]
      have hx : x = -1 ∨ ∃ k, k < 7 ∧ x = N k := by rw [q3]; exact aT_c ok
      have nb : ¬ (x = -2 ∧ b = -1) := by
        rintro ⟨h, -⟩
        rcases hx with h2 | ⟨q, q1, q2⟩
        · rw [h] at h2; exact absurd h2 (by decide)
        · rw [h] at q2; exact neN (i := -2) (by omega) (by decide) q2.symm
      rw [if_neg nb]
      refine mgW 0 5 (by omega) (by omega) (fun hin => ?_) (fun hin => ?_)
      · obtain ⟨q, -, q1', q2', q3'⟩ := hin
        rw [if_pos rfl, addN1]
        by_cases er : r = -1
        · rw [if_neg (show ¬ (0 : Int32) ≤ r by rw [er]; decide), if_pos (show 0 ≤ x ∧ ¬ x = 6 ∧ r = -1 from ⟨by rw [q3']; exact (leN (a := 0) (by omega) (by omega)).mpr (by omega), fun h => by rw [q3'] at h; have := (eqN (b := 6) (by omega) (by omega)).mp h; omega, er⟩)]
          exact ih (i + 1) k S1 _ b (N i) (by omega) (by omega) as1 q2 okA2 hb (Or.inr ⟨i, by omega, rfl⟩)
        · rw [if_neg (show ¬ (0 ≤ x ∧ ¬ x = 6 ∧ r = -1) from fun h => er h.2.2)]
          rcases hr with h | ⟨j, j1, j2⟩
          · exact absurd h er
          · rw [if_pos (show (0 : Int32) ≤ r by rw [j2]; exact (leN (a := 0) (by omega) (by omega)).mpr (by omega))]
            exact ih (i + 1) k S1 _ b r (by omega) (by omega) as1 q2 okA2 hb (Or.inr ⟨j, j1, j2⟩)
      · rw [if_neg Bool.false_ne_true, addN1, if_neg (show ¬ (0 ≤ x ∧ ¬ x = 6 ∧ r = -1) from fun h => by
          rcases hx with h2 | ⟨q, q1', q2'⟩
          · rw [h2] at h; exact absurd h.1 (by decide)
          · by_cases e6 : q = 6
            · subst e6; exact h.2.1 q2'
            · exact hin ⟨q, by omega, by omega, by omega, q2'⟩)]
        exact ih (i + 1) k S1 _ b r (by omega) (by omega) as1 q2 okA2 hb hr
    · have hm := o2 e0
      have em := d2 e0
      have nr : ∀ y : Int32, y = -1 ∨ y = -2 → ¬ (0 ≤ y ∧ ¬ y = 6 ∧ r = -1) := by
        rintro y hy ⟨h, -⟩
        rcases hy with rfl | rfl
        · exact absurd h (by decide)
        · exact absurd h (by decide)
      rw [if_neg (fun c => e0 ((eq0N (by omega)).mp c)), em]
      by_cases e1 : D.2.1 i = 1
      · have eL : aLine F D i A = (aPour A (D.2.2.1 i) (D.2.2.2 i), -1) := by unfold aLine; rw [if_neg e0, if_pos e1]
        rw [eL] at okA2 ⊢
        rw [if_pos (show N (D.2.1 i) = 1 from (eqN (b := 1) (by omega) (by omega)).mpr e1), d3 e1, wp_b1]
        refine wp_mono (mPours (x := D.2.2.2 i) hA (by omega)) ?_
        rintro S1 ⟨q1, q2⟩
        rw [if_neg (show ¬ ((aPour A (D.2.2.1 i) (D.2.2.2 i), (-1 : Int32)).2 = -2 ∧ b = -1) from fun h => absurd (show (-1 : Int32) = -2 from h.1) (by decide)), if_neg (nr _ (Or.inl rfl)), addN1]
        exact ih (i + 1) k S1 _ b r (by omega) (by omega) (mA7_216 hS q1) q2 okA2 hb hr
      · have est : sR S 216 1 = wSt A := hA.2.1
        rw [if_neg (show ¬ N (D.2.1 i) = 1 from fun c => e1 ((eqN (b := 1) (by omega) (by omega)).mp c)), wp_b2]
        refine mStopped (by omega) ?_
        dsimp only
        rw [est, d1]
        obtain ⟨k, rfl, hk2⟩ := kS (m := 2 * m + 1) hk'
        have e145 : ∀ s, wSt A ^^^ aBit (D.2.2.1 i) = s → aLine F D i A = (aSet A s, -1) → wp (fX12_judged (k + 1) 145 S i1 b r (N i) (N (D.2.2.1 i))) (fun q => keepM S0 q.1 ∧ q.2 = if i1 = 0 then (aJ F D m (i + 1) (aLine F D i A).1 (if (aLine F D i A).2 = -2 ∧ b = -1 then N i else b) (if 0 ≤ (aLine F D i A).2 ∧ ¬ (aLine F D i A).2 = 6 ∧ r = -1 then N i else r)).2.1 else if i1 = 1 then (aJ F D m (i + 1) (aLine F D i A).1 (if (aLine F D i A).2 = -2 ∧ b = -1 then N i else b) (if 0 ≤ (aLine F D i A).2 ∧ ¬ (aLine F D i A).2 = 6 ∧ r = -1 then N i else r)).2.2 else aLike (aJ F D m (i + 1) (aLine F D i A).1 (if (aLine F D i A).2 = -2 ∧ b = -1 then N i else b) (if 0 ≤ (aLine F D i A).2 ∧ ¬ (aLine F D i A).2 = 6 ∧ r = -1 then N i else r)).1 6) := by
          intro s hs eL
          rw [fX12_judged]
          simp only [if_true]
          rw [if_neg (by decide)]
          simp only [bX12_judged_145]
          rw [eL] at okA2 ⊢
          rw [wp_lt, est, show (wSt A ^^^ 1 <<< (N (D.2.2.1 i) &&& 31)) = s from hs, addN1, if_neg (show ¬ ((aSet A s, (-1 : Int32)).2 = -2 ∧ b = -1) from fun h => absurd (show (-1 : Int32) = -2 from h.1) (by decide)), if_neg (nr _ (Or.inl rfl))]
          have u := mSet (s := s) hA
          exact ih (i + 1) k _ _ b r (by omega) (by omega) (mA7_216 hS u.1) u.2 okA2 hb hr
        have e161 : aLine F D i A = (A, -2) → wp (fX12_judged (k + 1) 161 S i1 b r (N i) 0) (fun q => keepM S0 q.1 ∧ q.2 = if i1 = 0 then (aJ F D m (i + 1) (aLine F D i A).1 (if (aLine F D i A).2 = -2 ∧ b = -1 then N i else b) (if 0 ≤ (aLine F D i A).2 ∧ ¬ (aLine F D i A).2 = 6 ∧ r = -1 then N i else r)).2.1 else if i1 = 1 then (aJ F D m (i + 1) (aLine F D i A).1 (if (aLine F D i A).2 = -2 ∧ b = -1 then N i else b) (if 0 ≤ (aLine F D i A).2 ∧ ¬ (aLine F D i A).2 = 6 ∧ r = -1 then N i else r)).2.2 else aLike (aJ F D m (i + 1) (aLine F D i A).1 (if (aLine F D i A).2 = -2 ∧ b = -1 then N i else b) (if 0 ≤ (aLine F D i A).2 ∧ ¬ (aLine F D i A).2 = 6 ∧ r = -1 then N i else r)).1 6) := by
          intro eL
          rw [fX12_judged]
          simp only [if_true]
          rw [if_neg (by decide), if_neg (by decide)]
          simp only [bX12_judged_161]
          rw [eL] at okA2 ⊢
          rw [if_neg (nr _ (Or.inr rfl)), addN1]
          by_cases eb : b = -1
          · rw [if_neg (show ¬ (0 : Int32) ≤ b by rw [eb]; decide), if_pos (show (A, (-2 : Int32)).2 = -2 ∧ b = -1 from ⟨rfl, eb⟩)]
            exact ih (i + 1) k S _ (N i) r (by omega) (by omega) hS hA okA2 (Or.inr ⟨i, by omega, rfl⟩) hr
          · rw [if_neg (show ¬ ((A, (-2 : Int32)).2 = -2 ∧ b = -1) from fun h => eb h.2)]
            rcases hb with h | ⟨j, j1, j2⟩
            · exact absurd h eb
            · rw [if_pos (show (0 : Int32) ≤ b by rw [j2]; exact (leN (a := 0) (by omega) (by omega)).mpr (by omega))]
              exact ih (i + 1) k S _ b r (by omega) (by omega) hS hA okA2 (Or.inr ⟨j, j1, j2⟩) hr
        by_cases e3 : D.2.1 i = 3
        · rw [if_pos (show N (D.2.1 i) = 3 from (eqN (b := 3) (by omega) (by omega)).mpr e3)]
          have e2 : ¬ D.2.1 i = 2 := by omega
          by_cases hh : aHas (wSt A) (D.2.2.1 i) = true
          · rw [hh, if_pos (show g_b true = 1 from rfl)]
            exact e145 _ (and_xor (by omega) hh) (by unfold aLine; rw [if_neg e0, if_neg e1, if_neg e2, if_pos hh])
          · have hh' : aHas (wSt A) (D.2.2.1 i) = false := by simpa using hh
            rw [hh', if_neg (show ¬ g_b false = 1 by decide)]
            exact e161 (by unfold aLine; rw [if_neg e0, if_neg e1, if_neg e2, if_neg hh])
        · rw [if_neg (show ¬ N (D.2.1 i) = 3 from fun c => e3 ((eqN (b := 3) (by omega) (by omega)).mp c))]
          have e2 : D.2.1 i = 2 := by omega
          by_cases hh : aHas (wSt A) (D.2.2.1 i) = true
          · rw [hh, if_neg (show ¬ g_b true = 0 by decide)]
            exact e161 (by unfold aLine; rw [if_neg e0, if_neg e1, if_pos e2, if_pos hh])
          · have hh' : aHas (wSt A) (D.2.2.1 i) = false := by simpa using hh
            rw [hh', if_pos (show g_b false = 0 from rfl)]
            exact e145 _ (or_xor (by omega) hh') (by unfold aLine; rw [if_neg e0, if_neg e1, if_pos e2, if_neg hh])
theorem GO_d {c : Nat} {S : gS} {f d w : Nat} {F : aF} {mn ln : Nat → List Nat} {A : aW} {D : aD} {W : aO} {E : aE} {p n t : Nat} {ch : Nat → Nat} (g : GO c S f d w F mn ln A D W E p n t ch) : sQ S 5 = d ∧ (d = 34 ∨ d = 38) ∧ dX S d D ∧ dM S 0 D ∧ okD (fN F) D := ⟨g.1.2.2.2.1, g.1.2.2.2.2.2.1, g.2.2.2.2.1⟩
theorem op_judged {c : Nat} (hc : c ≤ 1000) : Ob_judged (Good c) (Good (c + 1)) := by
  intro S p0 hG
  refine ask (FX := fun S => FX11_judged S p0) (FM := fun S => FX12_judged S p0) hG ?_
  intro f d w F mn ln A D W E p n t ch g
  obtain ⟨hh, hA, okA⟩ := GO_hX g
  obtain ⟨hq, hd, hD, -, oD⟩ := GO_d g
  have h7 := hh.2.2.1
  have h40 := oD.1
  by_cases b0 : inr 0 3 p0
  · have b0' := b0
    obtain ⟨k, -, k1, k2, rfl⟩ := b0
    refine ⟨if N k = 0 then (aJ F D D.1 0 (aFresh F) (-1) (-1)).2.1 else if N k = 1 then (aJ F D D.1 0 (aFresh F) (-1) (-1)).2.2 else aLike (aJ F D D.1 0 (aFresh F) (-1) (-1)).1 6, ?_, fun S1 g1 => ?_⟩
    · unfold FX11_judged
      rw [if_neg (nN_lt0 k2), if_pos (show N k ≤ 2 from (leN (b := 2) k2 (by omega)).mpr (by omega)), hh.1, fbF hh.2.1.1, if_pos rfl, wp_b1]
      have hf := hh.2.1.1
      refine wp_mono (xBegin (w := 53) hh.2.1.2.1 (fun i hi => (hh.2.1.2.2.1 i hi).1) h7 (by omega)) ?_
      rintro S2 ⟨q1, q2⟩
      refine wp_mono (xJ (i1 := N k) hh hq hd hD oD (c := 0) (by omega) D.1 0 FU S2 (aFresh F) (-1) (-1) (by omega) (by unfold FU; omega) (fr_mo q1 (by decide)) q2 okFresh) ?_
      rintro ⟨S3, x⟩ ⟨r1, r2⟩
      refine ⟨fr_mo r1 xTs, r2.trans ?_⟩
      match k, k1 with
      | 0, _ => rfl
      | 1, _ => rfl
      | 2, _ => rfl
    · obtain ⟨hM, ok, rA, okA⟩ := GO_fM g1
      obtain ⟨-, -, -, hD2, -⟩ := GO_d g1
      unfold FX12_judged
      rw [wp_lt, wp_b2]
      refine mgW 0 2 (by omega) (by omega) (fun _ => ?_) (fun e => absurd b0' e)
      rw [if_pos rfl, wp_b1]
      refine wp_mono (mTake7 (th_fMo hM) (th_rM rA)) ?_
      rintro S2 ⟨q1, q2⟩
      rw [wp_b1]
      refine wp_mono (mFresh q1.2.1.1 (fun i hi => (q1.2.1.2.2.2.1 i hi).1) h7) ?_
      rintro S3 ⟨r1, r2⟩
      refine wp_mono (mJ (i1 := N k) ok (S0 := uI S1 180 0 0) hD2 oD (c := 0) (by omega) D.1 0 FU S3 (aFresh F) (-1) (-1) (by omega) (by unfold FU; omega) (mA7_216 q1 r1) r2 okFresh (Or.inl rfl) (Or.inl rfl)) ?_
      rintro ⟨S4, x⟩ ⟨t1, t2⟩
      exact ⟨keep_tr keep_th t1, t2⟩
  · refine ⟨-2, ?_, fun S1 g1 => ?_⟩
    · unfold FX11_judged
      by_cases z : p0 < 0
      · rw [if_pos z, wp_some]; exact ⟨fr_rf, rfl⟩
      · rw [if_neg z, if_neg (fun z2 => by
          obtain ⟨k, k1, rfl⟩ := I_nn z
          exact b0 ⟨k, by omega, by have := (leN (b := 2) k1 (by omega)).mp z2; omega, k1, rfl⟩), wp_some]
        exact ⟨fr_rf, rfl⟩
    · unfold FX12_judged
      rw [wp_lt, wp_b2]
      refine mgW 0 2 (by omega) (by omega) (fun e => absurd e b0) (fun _ => ?_)
      rw [if_neg Bool.false_ne_true, wp_some]; exact ⟨keep_th, rfl⟩
