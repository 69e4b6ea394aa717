/-! what leaves the longs as they are -/
def jP {α : Type} (J : Nat → Nat → Int64) (o : Option (gS × α)) : Prop := ∀ r, o = some r → sJ r.1 = J
def jV (J : Nat → Nat → Int64) (o : Option gS) : Prop := ∀ r, o = some r → sJ r = J
theorem jP_none {α : Type} {J : Nat → Nat → Int64} : jP (α := α) J none := fun r h => by cases h
theorem jV_none {J : Nat → Nat → Int64} : jV J none := fun r h => by cases h
theorem jP_some {α : Type} {J : Nat → Nat → Int64} {S : gS} {x : α} (h : sJ S = J) : jP J (some (S, x)) := fun r e => by cases e; exact h
theorem jV_some {J : Nat → Nat → Int64} {S : gS} (h : sJ S = J) : jV J (some S) := fun r e => by cases e; exact h
theorem jP_ite {α : Type} {J : Nat → Nat → Int64} {c : Prop} [Decidable c] {a b : Option (gS × α)} (h1 : jP J a) (h2 : jP J b) : jP J (if c then a else b) := by
  split
  · exact h1
  · exact h2
theorem jV_ite {J : Nat → Nat → Int64} {c : Prop} [Decidable c] {a b : Option gS} (h1 : jV J a) (h2 : jV J b) : jV J (if c then a else b) := by
  split
  · exact h1
  · exact h2
theorem jP_lt {α : Type} {J : Nat → Nat → Int64} {e : gS} {f : gS → Option (gS × α)} (h : jP J (f e)) : jP J (g_lt e f) := h
theorem jV_lt {J : Nat → Nat → Int64} {e : gS} {f : gS → Option gS} (h : jV J (f e)) : jV J (g_lt e f) := h
theorem jPP {α β : Type} {J : Nat → Nat → Int64} {o : Option (gS × α)} {f : gS → α → Option (gS × β)} (h : jP J o) (h2 : ∀ T x, sJ T = J → jP J (f T x)) : jP J (g_b2 o f) := by
  intro r e
  obtain ⟨T, x, e1, e2⟩ := g_b2s e
  exact h2 T x (h _ e1) r e2
theorem jPV {α : Type} {J : Nat → Nat → Int64} {o : Option (gS × α)} {f : gS → α → Option gS} (h : jP J o) (h2 : ∀ T x, sJ T = J → jV J (f T x)) : jV J (g_b2 o f) := by
  intro r e
  obtain ⟨T, x, e1, e2⟩ := g_b2s e
  exact h2 T x (h _ e1) r e2
theorem jVP {β : Type} {J : Nat → Nat → Int64} {o : Option gS} {f : gS → Option (gS × β)} (h : jV J o) (h2 : ∀ T, sJ T = J → jP J (f T)) : jP J (g_b1 o f) := by
  intro r e
  obtain ⟨T, e1, e2⟩ := g_b1s e
  exact h2 T (h _ e1) r e2
theorem jVV {J : Nat → Nat → Int64} {o : Option gS} {f : gS → Option gS} (h : jV J o) (h2 : ∀ T, sJ T = J → jV J (f T)) : jV J (g_b1 o f) := by
  intro r e
  obtain ⟨T, e1, e2⟩ := g_b1s e
  exact h2 T (h _ e1) r e2
theorem jX3_fact {J : Nat → Nat → Int64} {S : gS} {i0 : Int32} {i1 : Int32} {i2 : Int32} {i3 : Int32} {i4 : Int32} (hS : sJ S = J) : jP J (FX3_fact S i0 i1 i2 i3 i4) := by
  unfold FX3_fact
  exact jP_ite (jP_some hS) (jP_ite (jP_some hS) (jP_ite (jP_some hS) (jP_some hS)))
theorem jX3_join {J : Nat → Nat → Int64} {S : gS} {i0 : Int32} {i1 : Int32} {i2 : Int32} (hS : sJ S = J) : jP J (FX3_join S i0 i1 i2) := by
  unfold FX3_join
  exact jP_ite (jP_some hS) (jP_ite (jP_some hS) (jP_ite (jP_ite (jP_some hS) (jP_some hS)) (jP_ite (jP_ite (jP_some hS) (jP_some hS)) (jP_ite (jP_ite (jP_ite (jP_some hS) (jP_some hS)) (jP_some hS)) (jP_ite (jP_ite (jP_some hS) (jP_ite (jP_some hS) (jP_some hS))) (jP_some hS))))))
theorem jlX3_valueFor {J : Nat → Nat → Int64}  : ∀ (k pc : Nat) (S : gS) (y0 : Nat) (y1 : Int32) (y2 : Int32) (y3 : Int32) (y4 : Int32) (y5 : Int32) (y6 : Int32), sJ S = J → jP J (fX3_valueFor  k pc S y0 y1 y2 y3 y4 y5 y6) := by
  intro k
  induction k with
  | zero => intros; rw [fX3_valueFor]; exact jP_none
  | succ k ih =>
    intro pc S y0 y1 y2 y3 y4 y5 y6 hS
    rw [fX3_valueFor]
    have ebX3_valueFor_15 : jP J (bX3_valueFor_15  (fX3_valueFor  k) S y0 y1 y2 y3 y4 y5 y6) := by
      unfold bX3_valueFor_15
      exact jP_ite (jP_some hS) (jP_ite (jP_ite (jP_ite (jP_ite (ih _ _ _ _ _ _ _ _ _ hS) (jP_ite (jP_ite (jP_lt (ih _ _ _ _ _ _ _ _ _ hS)) (jP_lt (ih _ _ _ _ _ _ _ _ _ hS))) (jP_none))) (jP_ite (ih _ _ _ _ _ _ _ _ _ hS) (jP_ite (jPP (jX3_fact hS) (fun S2 _ hS2 => jP_ite (jP_lt (ih _ _ _ _ _ _ _ _ _ hS2)) (jP_none))) (jP_ite (jP_lt (ih _ _ _ _ _ _ _ _ _ hS)) (jP_none))))) (jP_ite (ih _ _ _ _ _ _ _ _ _ hS) (jP_ite (jP_ite (jPP (jX3_join hS) (fun S13 _ hS13 => jP_lt (ih _ _ _ _ _ _ _ _ _ hS13))) (jP_none)) (jP_none)))) (jP_none))
    exact jP_ite ebX3_valueFor_15 (jP_none)
theorem jX3_valueFor {J : Nat → Nat → Int64} {S : gS} {a0 : Nat} {i1 : Int32} {i2 : Int32} {i3 : Int32} {i4 : Int32} (hS : sJ S = J) : jP J (FX3_valueFor S a0 i1 i2 i3 i4) := by
  unfold FX3_valueFor
  exact jP_ite (jP_some hS) (jlX3_valueFor _ _ _ _ _ _ _ _ _ _ hS)
theorem jlX9_soundingNow {J : Nat → Nat → Int64}  : ∀ (k pc : Nat) (S : gS) (y0 : Nat) (y1 : Nat) (y2 : Int32) (y3 : Int32) (y4 : Int32), sJ S = J → jP J (fX9_soundingNow  k pc S y0 y1 y2 y3 y4) := by
  intro k
  induction k with
  | zero => intros; rw [fX9_soundingNow]; exact jP_none
  | succ k ih =>
    intro pc S y0 y1 y2 y3 y4 hS
    rw [fX9_soundingNow]
    have ebX9_soundingNow_5 : jP J (bX9_soundingNow_5  (fX9_soundingNow  k) S y0 y1 y2 y3 y4) := by
      unfold bX9_soundingNow_5
      exact jP_ite (jP_some hS) (jP_ite (jPP (jX3_valueFor hS) (fun S2 _ hS2 => jP_ite (ih _ _ _ _ _ _ _ hS2) (ih _ _ _ _ _ _ _ hS2))) (jP_none))
    exact jP_ite ebX9_soundingNow_5 (jP_none)
theorem jX9_soundingNow {J : Nat → Nat → Int64} {S : gS} {a0 : Nat} {a1 : Nat} {i2 : Int32} (hS : sJ S = J) : jP J (FX9_soundingNow S a0 a1 i2) := by
  unfold FX9_soundingNow
  exact jlX9_soundingNow _ _ _ _ _ _ _ _ hS
theorem jlX1_letterOf {J : Nat → Nat → Int64}  : ∀ (k pc : Nat) (S : gS) (y0 : Nat) (y1 : Int32) (y2 : Int32), sJ S = J → jP J (fX1_letterOf  k pc S y0 y1 y2) := by
  intro k
  induction k with
  | zero => intros; rw [fX1_letterOf]; exact jP_none
  | succ k ih =>
    intro pc S y0 y1 y2 hS
    rw [fX1_letterOf]
    have ebX1_letterOf_2 : jP J (bX1_letterOf_2  (fX1_letterOf  k) S y0 y1 y2) := by
      unfold bX1_letterOf_2
      exact jP_ite (jP_some hS) (jP_ite (jP_ite (jP_some hS) (ih _ _ _ _ _ hS)) (jP_none))
    exact jP_ite ebX1_letterOf_2 (jP_none)
theorem jX1_letterOf {J : Nat → Nat → Int64} {S : gS} {a0 : Nat} {i1 : Int32} (hS : sJ S = J) : jP J (FX1_letterOf S a0 i1) := by
  unfold FX1_letterOf
  exact jlX1_letterOf _ _ _ _ _ _ hS
theorem jX1_readOf {J : Nat → Nat → Int64} {S : gS} {a0 : Nat} {i1 : Int32} (hS : sJ S = J) : jP J (FX1_readOf S a0 i1) := by
  unfold FX1_readOf
  exact jPP (jX1_letterOf hS) (fun S1 _ hS1 => jP_ite (jP_ite (jP_some hS1) (jP_some hS1)) (jP_some hS1))
theorem jX9_isStopped {J : Nat → Nat → Int64} {S : gS} {a0 : Nat} {i1 : Int32} (hS : sJ S = J) : jP J (FX9_isStopped S a0 i1) := by
  unfold FX9_isStopped
  exact jP_ite (jP_some hS) (jP_some hS)
theorem jX1_mostSpouted {J : Nat → Nat → Int64} {S : gS} {a0 : Nat} {i1 : Int32} (hS : sJ S = J) : jP J (FX1_mostSpouted S a0 i1) := by
  unfold FX1_mostSpouted
  exact jP_ite (jP_ite (jP_some hS) (jP_ite (jP_some hS) (jP_some hS))) (jP_none)
theorem jlX9_spout {J : Nat → Nat → Int64}  : ∀ (k pc : Nat) (S : gS) (y0 : Nat) (y1 : Int32), sJ S = J → jV J (fX9_spout  k pc S y0 y1) := by
  intro k
  induction k with
  | zero => intros; rw [fX9_spout]; exact jV_none
  | succ k ih =>
    intro pc S y0 y1 hS
    rw [fX9_spout]
    have ebX9_spout_32 : jV J (bX9_spout_32  (fX9_spout  k) S y0 y1) := by
      unfold bX9_spout_32
      exact jV_ite (jV_lt (jV_some hS)) (jV_none)
    exact jV_ite ebX9_spout_32 (jV_none)
theorem jX9_spout {J : Nat → Nat → Int64} {S : gS} {a0 : Nat} {a1 : Nat} {i2 : Int32} (hS : sJ S = J) : jV J (FX9_spout S a0 a1 i2) := by
  unfold FX9_spout
  exact jPV (jX9_isStopped hS) (fun S1 _ hS1 => jV_ite (jV_ite (jV_lt (jlX9_spout _ _ _ _ _ hS1)) (jV_none)) (jV_ite (jPV (jX1_mostSpouted hS1) (fun S4 _ hS4 => jV_lt (jlX9_spout _ _ _ _ _ hS4))) (jV_none)))
theorem jX9_runOver {J : Nat → Nat → Int64} {S : gS} {a0 : Nat} {a1 : Nat} {i2 : Int32} (hS : sJ S = J) : jV J (FX9_runOver S a0 a1 i2) := by
  unfold FX9_runOver
  exact jV_ite (jV_ite (jV_lt (jV_lt (jV_ite (jV_lt (jV_some hS)) (jV_ite (jV_lt (jV_some hS)) (jV_none))))) (jV_some hS)) (jV_none)
theorem jlX9_passMinute {J : Nat → Nat → Int64}  : ∀ (k pc : Nat) (S : gS) (y0 : Nat) (y1 : Nat) (y2 : Int32) (y3 : Int32), sJ S = J → jP J (fX9_passMinute  k pc S y0 y1 y2 y3) := by
  intro k
  induction k with
  | zero => intros; rw [fX9_passMinute]; exact jP_none
  | succ k ih =>
    intro pc S y0 y1 y2 y3 hS
    rw [fX9_passMinute]
    have ebX9_passMinute_45 : jP J (bX9_passMinute_45  (fX9_passMinute  k) S y0 y1 y2 y3) := by
      unfold bX9_passMinute_45
      exact jP_ite (jPP (jX9_soundingNow hS) (fun S1 _ hS1 => jP_lt (jPP (jX1_readOf hS1) (fun S4 _ hS4 => jP_lt (jP_ite (jP_lt (jP_some hS4)) (jP_ite (jP_lt (jP_some hS4)) (jP_ite (jP_lt (jP_lt (jP_lt (jP_some hS4)))) (jP_none)))))))) (jP_ite (jVP (jX9_runOver hS) (fun S14 hS14 => jVP (jX9_spout hS14) (fun S15 hS15 => ih _ _ _ _ _ _ hS15))) (jP_none))
    have ebX9_passMinute_12 : jP J (bX9_passMinute_12  (fX9_passMinute  k) S y0 y1 y2 y3) := by
      unfold bX9_passMinute_12
      exact jP_ite (ih _ _ _ _ _ _ hS) (jP_ite (jP_lt (ih _ _ _ _ _ _ hS)) (jP_none))
    exact jP_ite ebX9_passMinute_12 (jP_ite ebX9_passMinute_45 (jP_none))
theorem jX9_passMinute {J : Nat → Nat → Int64} {S : gS} {a0 : Nat} {a1 : Nat} {i2 : Int32} (hS : sJ S = J) : jP J (FX9_passMinute S a0 a1 i2) := by
  unfold FX9_passMinute
  exact jP_lt (jP_lt (jlX9_passMinute _ _ _ _ _ _ _ hS))
theorem jX1_rainOf {J : Nat → Nat → Int64} {S : gS} {a0 : Nat} {i1 : Int32} (hS : sJ S = J) : jP J (FX1_rainOf S a0 i1) := by
  unfold FX1_rainOf
  exact jP_ite (jP_some hS) (jP_ite (jP_some hS) (jP_ite (jP_none) (jP_ite (jP_some hS) (jP_none))))
theorem jX11_passTrialMinute {J : Nat → Nat → Int64} {S : gS} (hS : sJ S = J) : jP J (FX11_passTrialMinute S) := by
  unfold FX11_passTrialMinute
  exact jP_ite (jP_ite (jPP (jX1_rainOf hS) (fun S3 _ hS3 => jPP (jX9_passMinute hS3) (fun S5 _ hS5 => jP_some hS5))) (jP_none)) (jP_none)
theorem jX9_addWater {J : Nat → Nat → Int64} {S : gS} {a0 : Nat} {i1 : Int32} {i2 : Int32} (hS : sJ S = J) : jV J (FX9_addWater S a0 i1 i2) := by
  unfold FX9_addWater
  exact jV_ite (jV_lt (jV_some hS)) (jV_none)
theorem jlX9_stopMouth {J : Nat → Nat → Int64}  : ∀ (k pc : Nat) (S : gS) (y0 : Nat) (y1 : Int32) (y2 : Int32), sJ S = J → jP J (fX9_stopMouth  k pc S y0 y1 y2) := by
  intro k
  induction k with
  | zero => intros; rw [fX9_stopMouth]; exact jP_none
  | succ k ih =>
    intro pc S y0 y1 y2 hS
    rw [fX9_stopMouth]
    have ebX9_stopMouth_14 : jP J (bX9_stopMouth_14  (fX9_stopMouth  k) S y0 y1 y2) := by
      unfold bX9_stopMouth_14
      exact jP_lt (jP_ite (jP_some hS) (jP_ite (jP_some hS) (jP_none)))
    exact jP_ite ebX9_stopMouth_14 (jP_none)
theorem jX9_stopMouth {J : Nat → Nat → Int64} {S : gS} {a0 : Nat} {i1 : Int32} (hS : sJ S = J) : jP J (FX9_stopMouth S a0 i1) := by
  unfold FX9_stopMouth
  exact jPP (jX9_isStopped hS) (fun S1 _ hS1 => jP_ite (jlX9_stopMouth _ _ _ _ _ _ hS1) (jlX9_stopMouth _ _ _ _ _ _ hS1))
theorem jX9_clearMouth {J : Nat → Nat → Int64} {S : gS} {a0 : Nat} {i1 : Int32} (hS : sJ S = J) : jP J (FX9_clearMouth S a0 i1) := by
  unfold FX9_clearMouth
  exact jPP (jX9_isStopped hS) (fun S1 _ hS1 => jP_lt (jP_some hS1))
theorem jX9_copyFrom {J : Nat → Nat → Int64} {S : gS} {a0 : Nat} {a1 : Nat} (hS : sJ S = J) : jV J (FX9_copyFrom S a0 a1) := by
  unfold FX9_copyFrom
  exact jV_lt (jV_lt (jV_lt (jV_lt (jV_lt (jV_lt (jV_lt (jV_lt (jV_some hS))))))))
theorem jX12_opens {J : Nat → Nat → Int64} {S : gS} {i1 : Int32} (hS : sJ S = J) : jV J (FX12_opens S i1) := by
  unfold FX12_opens
  exact jV_ite (jV_lt (jV_lt (jV_lt (jV_lt (jV_lt (jV_some hS)))))) (jV_none)
theorem jX12_sums {J : Nat → Nat → Int64} {S : gS} {i1 : Int32} (hS : sJ S = J) : jV J (FX12_sums S i1) := by
  unfold FX12_sums
  exact jV_ite (jV_ite (jV_lt (jV_lt (jV_some hS))) (jV_lt (jV_lt (jV_some hS)))) (jV_none)
theorem jlX12_tests {J : Nat → Nat → Int64}  : ∀ (k pc : Nat) (S : gS) (y0 : Int32) (y1 : Int32), sJ S = J → jV J (fX12_tests  k pc S y0 y1) := by
  intro k
  induction k with
  | zero => intros; rw [fX12_tests]; exact jV_none
  | succ k ih =>
    intro pc S y0 y1 hS
    rw [fX12_tests]
    have ebX12_tests_136 : jV J (bX12_tests_136  (fX12_tests  k) S y0 y1) := by
      unfold bX12_tests_136
      exact jV_ite (jV_lt (jV_lt (jV_lt (jV_lt (jV_some hS))))) (jV_none)
    have ebX12_tests_106 : jV J (bX12_tests_106  (fX12_tests  k) S y0 y1) := by
      unfold bX12_tests_106
      exact jV_ite (jV_ite (jV_ite (jV_ite (ih _ _ _ _ hS) (ih _ _ _ _ hS)) (ih _ _ _ _ hS)) (ih _ _ _ _ hS)) (jV_none)
    have ebX12_tests_76 : jV J (bX12_tests_76  (fX12_tests  k) S y0 y1) := by
      unfold bX12_tests_76
      exact jV_ite (jV_ite (jV_ite (ih _ _ _ _ hS) (jV_ite (ih _ _ _ _ hS) (ih _ _ _ _ hS))) (ih _ _ _ _ hS)) (jV_none)
    have ebX12_tests_44 : jV J (bX12_tests_44  (fX12_tests  k) S y0 y1) := by
      unfold bX12_tests_44
      exact jV_ite (jV_ite (jV_ite (ih _ _ _ _ hS) (ih _ _ _ _ hS)) (ih _ _ _ _ hS)) (jV_none)
    exact jV_ite ebX12_tests_44 (jV_ite ebX12_tests_76 (jV_ite ebX12_tests_106 (jV_ite ebX12_tests_136 (jV_none))))
theorem jX12_tests {J : Nat → Nat → Int64} {S : gS} {i1 : Int32} (hS : sJ S = J) : jV J (FX12_tests S i1) := by
  unfold FX12_tests
  exact jVV (jX12_sums hS) (fun S1 hS1 => jV_ite (jV_ite (jV_ite (jlX12_tests _ _ _ _ _ hS1) (jlX12_tests _ _ _ _ _ hS1)) (jlX12_tests _ _ _ _ _ hS1)) (jV_none))
theorem jlX12_worked {J : Nat → Nat → Int64}  : ∀ (k pc : Nat) (S : gS) (y0 : Int32) (y1 : Int32) (y2 : Int32) (y3 : Int32) (y4 : Int32), sJ S = J → jP J (fX12_worked  k pc S y0 y1 y2 y3 y4) := by
  intro k
  induction k with
  | zero => intros; rw [fX12_worked]; exact jP_none
  | succ k ih =>
    intro pc S y0 y1 y2 y3 y4 hS
    rw [fX12_worked]
    have ebX12_worked_300 : jP J (bX12_worked_300  (fX12_worked  k) S y0 y1 y2 y3 y4) := by
      unfold bX12_worked_300
      exact jP_ite (jP_ite (jP_lt (ih _ _ _ _ _ _ _ hS)) (jP_lt (ih _ _ _ _ _ _ _ hS))) (jP_none)
    have ebX12_worked_268 : jP J (bX12_worked_268  (fX12_worked  k) S y0 y1 y2 y3 y4) := by
      unfold bX12_worked_268
      exact jP_ite (ih _ _ _ _ _ _ _ hS) (jP_ite (jP_ite (jP_ite (ih _ _ _ _ _ _ _ hS) (ih _ _ _ _ _ _ _ hS)) (ih _ _ _ _ _ _ _ hS)) (jP_none))
    have ebX12_worked_245 : jP J (bX12_worked_245  (fX12_worked  k) S y0 y1 y2 y3 y4) := by
      unfold bX12_worked_245
      exact jP_ite (jVP (jX12_tests hS) (fun S1 hS1 => jP_ite (ih _ _ _ _ _ _ _ hS1) (jP_none))) (ih _ _ _ _ _ _ _ hS)
    have ebX12_worked_194 : jP J (bX12_worked_194  (fX12_worked  k) S y0 y1 y2 y3 y4) := by
      unfold bX12_worked_194
      exact jVP (jX12_tests hS) (fun S1 hS1 => jP_ite (jP_lt (ih _ _ _ _ _ _ _ hS1)) (jP_none))
    have ebX12_worked_137 : jP J (bX12_worked_137  (fX12_worked  k) S y0 y1 y2 y3 y4) := by
      unfold bX12_worked_137
      exact jVP (jX12_sums hS) (fun S1 hS1 => jP_ite (jP_lt (jP_lt (jP_lt (jP_lt (ih _ _ _ _ _ _ _ hS1))))) (jP_none))
    have ebX12_worked_89 : jP J (bX12_worked_89  (fX12_worked  k) S y0 y1 y2 y3 y4) := by
      unfold bX12_worked_89
      exact jVP (jX12_sums hS) (fun S1 hS1 => jP_ite (jP_lt (ih _ _ _ _ _ _ _ hS1)) (jP_none))
    have ebX12_worked_46 : jP J (bX12_worked_46  (fX12_worked  k) S y0 y1 y2 y3 y4) := by
      unfold bX12_worked_46
      exact jP_ite (jP_ite (jP_lt (jVP (jX12_opens hS) (fun S6 hS6 => ih _ _ _ _ _ _ _ hS6))) (jP_none)) (jP_ite (jP_lt (jVP (jX12_opens hS) (fun S3 hS3 => ih _ _ _ _ _ _ _ hS3))) (jP_none))
    have ebX12_worked_14 : jP J (bX12_worked_14  (fX12_worked  k) S y0 y1 y2 y3 y4) := by
      unfold bX12_worked_14
      exact jP_ite (jP_ite (jVP (jX12_tests hS) (fun S2 hS2 => jP_some hS2)) (jP_ite (jP_ite (ih _ _ _ _ _ _ _ hS) (jP_ite (ih _ _ _ _ _ _ _ hS) (jP_ite (ih _ _ _ _ _ _ _ hS) (jP_ite (ih _ _ _ _ _ _ _ hS) (jP_ite (jP_ite (jP_lt (ih _ _ _ _ _ _ _ hS)) (jP_none)) (jP_ite (ih _ _ _ _ _ _ _ hS) (jP_ite (ih _ _ _ _ _ _ _ hS) (jP_ite (ih _ _ _ _ _ _ _ hS) (jP_ite (ih _ _ _ _ _ _ _ hS) (jP_ite (jP_ite (ih _ _ _ _ _ _ _ hS) (jP_ite (ih _ _ _ _ _ _ _ hS) (jP_none))) (ih _ _ _ _ _ _ _ hS))))))))))) (jP_none))) (jP_none)
    exact jP_ite ebX12_worked_14 (jP_ite ebX12_worked_46 (jP_ite ebX12_worked_89 (jP_ite ebX12_worked_137 (jP_ite ebX12_worked_194 (jP_ite ebX12_worked_245 (jP_ite ebX12_worked_268 (jP_ite ebX12_worked_300 (jP_none))))))))
theorem jX12_worked {J : Nat → Nat → Int64} {S : gS} {i1 : Int32} (hS : sJ S = J) : jP J (FX12_worked S i1) := by
  unfold FX12_worked
  exact jVP (jX12_opens hS) (fun S1 hS1 => jP_ite (jlX12_worked _ _ _ _ _ _ _ _ hS1) (jP_none))
theorem jX12_isSounding {J : Nat → Nat → Int64} {S : gS} {i1 : Int32} {i2 : Int32} (hS : sJ S = J) : jP J (FX12_isSounding S i1 i2) := by
  unfold FX12_isSounding
  exact jP_ite (jP_ite (jP_ite (jP_some hS) (jP_some hS)) (jP_none)) (jP_ite (jP_lt (jP_ite (jP_lt (jP_ite (jP_lt (jP_lt (jPP (jX12_worked hS) (fun S8 _ hS8 => jP_ite (jP_some hS8) (jP_some hS8))))) (jP_none))) (jP_none))) (jP_none))
theorem jX12_runsOver {J : Nat → Nat → Int64} {S : gS} {i1 : Int32} (hS : sJ S = J) : jV J (FX12_runsOver S i1) := by
  unfold FX12_runsOver
  exact jV_ite (jV_ite (jV_ite (jV_lt (jV_lt (jV_ite (jV_ite (jV_lt (jV_some hS)) (jV_none)) (jV_lt (jV_some hS))))) (jV_some hS)) (jV_none)) (jV_none)
theorem jX12_isStopped {J : Nat → Nat → Int64} {S : gS} {i1 : Int32} (hS : sJ S = J) : jP J (FX12_isStopped S i1) := by
  unfold FX12_isStopped
  exact jP_ite (jP_some hS) (jP_some hS)
theorem jX12_spoutOf {J : Nat → Nat → Int64} {S : gS} {i1 : Int32} (hS : sJ S = J) : jP J (FX12_spoutOf S i1) := by
  unfold FX12_spoutOf
  exact jPP (jX12_isStopped hS) (fun S1 _ hS1 => jP_ite (jP_some hS1) (jP_ite (jP_ite (jP_ite (jP_some hS1) (jP_ite (jP_some hS1) (jP_some hS1))) (jP_none)) (jP_none)))
theorem jlX12_readBy {J : Nat → Nat → Int64}  : ∀ (k pc : Nat) (S : gS) (y0 : Int32) (y1 : Int32), sJ S = J → jP J (fX12_readBy  k pc S y0 y1) := by
  intro k
  induction k with
  | zero => intros; rw [fX12_readBy]; exact jP_none
  | succ k ih =>
    intro pc S y0 y1 hS
    rw [fX12_readBy]
    have ebX12_readBy_8 : jP J (bX12_readBy_8  (fX12_readBy  k) S y0 y1) := by
      unfold bX12_readBy_8
      exact jP_ite (jP_some hS) (jP_ite (jP_ite (jP_some hS) (ih _ _ _ _ hS)) (jP_none))
    exact jP_ite ebX12_readBy_8 (jP_none)
theorem jX12_readBy {J : Nat → Nat → Int64} {S : gS} {i1 : Int32} (hS : sJ S = J) : jP J (FX12_readBy S i1) := by
  unfold FX12_readBy
  exact jP_ite (jP_some hS) (jlX12_readBy _ _ _ _ _ hS)
theorem jlX12_passes {J : Nat → Nat → Int64}  : ∀ (k pc : Nat) (S : gS) (y0 : Int32) (y1 : Int32) (y2 : Int32), sJ S = J → jP J (fX12_passes  k pc S y0 y1 y2) := by
  intro k
  induction k with
  | zero => intros; rw [fX12_passes]; exact jP_none
  | succ k ih =>
    intro pc S y0 y1 y2 hS
    rw [fX12_passes]
    have ebX12_passes_200 : jP J (bX12_passes_200  (fX12_passes  k) S y0 y1 y2) := by
      unfold bX12_passes_200
      exact jP_lt (jP_some hS)
    have ebX12_passes_51 : jP J (bX12_passes_51  (fX12_passes  k) S y0 y1 y2) := by
      unfold bX12_passes_51
      exact jP_ite (jPP (jX12_readBy hS) (fun S1 _ hS1 => jP_lt (jP_lt (jP_ite (ih _ _ _ _ _ hS1) (jP_ite (ih _ _ _ _ _ hS1) (jP_ite (jP_lt (jP_lt (ih _ _ _ _ _ hS1))) (jP_none))))))) (jP_ite (jVP (jX12_runsOver hS) (fun S9 hS9 => jPP (jX12_spoutOf hS9) (fun S10 _ hS10 => jP_ite (jP_lt (jP_ite (jP_lt (jPP (jX12_isSounding hS10) (fun S16 _ hS16 => jP_ite (ih _ _ _ _ _ hS16) (ih _ _ _ _ _ hS16)))) (jP_none))) (jP_none)))) (jP_none))
    have ebX12_passes_14 : jP J (bX12_passes_14  (fX12_passes  k) S y0 y1 y2) := by
      unfold bX12_passes_14
      exact jP_ite (ih _ _ _ _ _ hS) (jP_ite (jP_ite (jP_lt (ih _ _ _ _ _ hS)) (jP_none)) (jP_none))
    exact jP_ite ebX12_passes_14 (jP_ite ebX12_passes_51 (jP_ite ebX12_passes_200 (jP_none)))
theorem jX12_passes {J : Nat → Nat → Int64} {S : gS} {i1 : Int32} (hS : sJ S = J) : jP J (FX12_passes S i1) := by
  unfold FX12_passes
  exact jP_lt (jP_lt (jlX12_passes _ _ _ _ _ _ hS))
theorem jX12_rainOf {J : Nat → Nat → Int64} {S : gS} {i1 : Int32} (hS : sJ S = J) : jP J (FX12_rainOf S i1) := by
  unfold FX12_rainOf
  exact jP_ite (jP_some hS) (jP_ite (jP_none) (jP_ite (jP_some hS) (jP_none)))
theorem jX12_passesAsTold {J : Nat → Nat → Int64} {S : gS} (hS : sJ S = J) : jP J (FX12_passesAsTold S) := by
  unfold FX12_passesAsTold
  exact jPP (jX12_rainOf hS) (fun S1 _ hS1 => jPP (jX12_passes hS1) (fun S3 _ hS3 => jP_some hS3))
theorem jX12_pours {J : Nat → Nat → Int64} {S : gS} {i1 : Int32} {i2 : Int32} (hS : sJ S = J) : jV J (FX12_pours S i1 i2) := by
  unfold FX12_pours
  exact jV_ite (jV_lt (jV_some hS)) (jV_none)
theorem jlX12_copies {J : Nat → Nat → Int64} {m0 : Nat} {m2 : Nat} : ∀ (k pc : Nat) (S : gS) (y0 : Nat) (y1 : Int32) (y2 : Nat) (y3 : Int32) (y4 : Int32), sJ S = J → jV J (fX12_copies m0 m2 k pc S y0 y1 y2 y3 y4) := by
  intro k
  induction k with
  | zero => intros; rw [fX12_copies]; exact jV_none
  | succ k ih =>
    intro pc S y0 y1 y2 y3 y4 hS
    rw [fX12_copies]
    have ebX12_copies_3 : jV J (bX12_copies_3 m0 m2 (fX12_copies m0 m2 k) S y0 y1 y2 y3 y4) := by
      unfold bX12_copies_3
      exact jV_ite (jV_some hS) (jV_ite (jV_ite (jV_lt (ih _ _ _ _ _ _ _ hS)) (jV_none)) (jV_none))
    exact jV_ite ebX12_copies_3 (jV_none)
theorem jX12_copies {J : Nat → Nat → Int64} {S : gS} {a0 : Nat} {m0 : Nat} {i1 : Int32} {a2 : Nat} {m2 : Nat} {i3 : Int32} (hS : sJ S = J) : jV J (FX12_copies S a0 m0 i1 a2 m2 i3) := by
  unfold FX12_copies
  exact jlX12_copies _ _ _ _ _ _ _ _ hS
