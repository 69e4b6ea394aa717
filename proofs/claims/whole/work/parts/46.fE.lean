noncomputable def bX4_readPart_60 (rc : Nat → gS → Nat → Int32 → Int32 → Option (gS × Bool)) (rec : Nat → gS → Nat → Int32 → Int32 → Int32 → Int32 → Option (gS × Bool)) (S : gS) (a1 : Nat) (i2 : Int32) (i3 : Int32) (i4 : Int32) (i5 : Int32) : Option (gS × Bool) := if i2 < (5 : Int32) then (if i4 = 0 then (if i5 = 0 then (if i3 = 0 then (g_b1 (FX3_add S (a1) ((sI S (1) 6))) (fun S2 => rec 103 S2 (a1) (i2) 0 (i4) (i5))) else (g_b1 (FX3_add S (a1) (i3)) (fun S1 => rec 103 S1 (a1) (i2) 0 (i4) (i5)))) else (rec 103 S (a1) (i2) 0 (i4) (i5))) else (rec 103 S (a1) (i2) 0 (i4) (i5))) else (g_b2 (FX8_fail S ((5 : Int32))) (fun S3 b4 => some (S3, b4)))
noncomputable def bX4_readPart_103 (rc : Nat → gS → Nat → Int32 → Int32 → Option (gS × Bool)) (rec : Nat → gS → Nat → Int32 → Int32 → Int32 → Int32 → Option (gS × Bool)) (S : gS) (a1 : Nat) (i2 : Int32) (i3 : Int32) (i4 : Int32) (i5 : Int32) : Option (gS × Bool) := g_b1 (FX8_advance S ) (fun S1 => if i4 = 0 then (if i5 = 0 then (some (S1, true)) else (g_b2 (rc 0 S1 (a1) ((0 : Int32)) ((i2 + (1 : Int32)))) (fun S2 b3 => if b3 = true then (g_b2 (FX8_takeSign S2 ((41 : Int32))) (fun S4 b5 => if b5 = true then (some (S4, true)) else (some (S4, false)))) else (some (S2, false))))) else (g_b2 (rc 1 S1 (a1) ((i2 + (1 : Int32))) 0) (fun S6 b7 => g_b1 (FX3_add S6 (a1) ((-5 : Int32))) (fun S8 => some (S8, b7)))))
noncomputable def fX4_readPart (rc : Nat → gS → Nat → Int32 → Int32 → Option (gS × Bool)) : Nat → Nat → gS → Nat → Int32 → Int32 → Int32 → Int32 → Option (gS × Bool)
  | 0 => fun _ _ _ _ _ _ _ => none
  | k + 1 => fun pc S a1 i2 i3 i4 i5 => if pc = 60 then bX4_readPart_60 rc (fX4_readPart rc k) S a1 i2 i3 i4 i5 else if pc = 103 then bX4_readPart_103 rc (fX4_readPart rc k) S a1 i2 i3 i4 i5 else none
noncomputable def FX4_readPart_r (rc : Nat → gS → Nat → Int32 → Int32 → Option (gS × Bool)) (S : gS) (a1 : Nat) (i2 : Int32) : Option (gS × Bool) := g_b2 (FX4_factHere S ) (fun S1 x2 => g_b2 (FX8_isWord S1 (38)) (fun S3 b4 => g_b2 (FX8_isSign S3 ((40 : Int32))) (fun S5 b6 => if x2 = 0 then (if b4 = true then (fX4_readPart rc FU 60 S5 (a1) (i2) (x2) ((g_b b4)) ((g_b b6))) else (if b6 = true then (fX4_readPart rc FU 60 S5 (a1) (i2) (x2) ((g_b b4)) ((g_b b6))) else (g_b2 (FX8_isNumber S5 ) (fun S7 b8 => if b8 = true then (fX4_readPart rc FU 60 S7 (a1) (i2) (x2) ((g_b b4)) ((g_b b6))) else (g_b2 (FX8_fail S7 ((1 : Int32))) (fun S9 b10 => some (S9, b10))))))) else (fX4_readPart rc FU 60 S5 (a1) (i2) (x2) ((g_b b4)) ((g_b b6))))))
set_option maxRecDepth 100000 in
theorem lX4_readPart {rc : Nat → gS → Nat → Int32 → Int32 → Option (gS × Bool)} {n : Nat} {R : gS × Bool} {dd : Nat} (hB : 12 ≤ dd) (hrcL : ∀ {S : gS} {a1 : Nat} {i2 i3 : Int32} {R : gS × Bool}, isLw a1 → rc 0 S a1 i2 i3 = some R → sCz dd mX4_readLevel n S [.ref (4), .ref (a1), .int (i2), .int (i3)] (fun S2 x2 => S2 = R.1 ∧ x2 = R.2)) (hrcP : ∀ {S : gS} {a1 : Nat} {i2 : Int32} {R : gS × Bool}, isLw a1 → rc 1 S a1 i2 0 = some R → sCz dd mX4_readPart n S [.ref (4), .ref (a1), .int (i2)] (fun S2 x2 => S2 = R.1 ∧ x2 = R.2)) : ∀ k : Nat, (∀ (S : gS) (a1 : Nat) (i2 : Int32) (i3 : Int32) (i4 : Int32) (i5 : Int32) (hs1 : isLw a1), fX4_readPart rc k 60 S a1 i2 i3 i4 i5 = some R → gG (dd + 1) mX4_readPart 0 0 (g_Xz mX4_readPart n 0 0 (hPz (fun S2 x2 => S2 = R.1 ∧ x2 = R.2))) 60 n (hH S) [some (.ref (4)), some (.ref (a1)), some (.int (i2)), some (.int (i3)), some (.int (i4)), some (.int (i5)), none] [] 0 0) ∧ (∀ (S : gS) (a1 : Nat) (i2 : Int32) (i3 : Int32) (i4 : Int32) (i5 : Int32) (hs1 : isLw a1), fX4_readPart rc k 103 S a1 i2 i3 i4 i5 = some R → gG (dd + 1) mX4_readPart 0 0 (g_Xz mX4_readPart n 0 0 (hPz (fun S2 x2 => S2 = R.1 ∧ x2 = R.2))) 103 n (hH S) [some (.ref (4)), some (.ref (a1)), some (.int (i2)), none, some (.int (i4)), some (.int (i5)), none] [] 0 0) := by
  intro k
  induction k with
  | zero => exact ⟨fun _ _ _ _ _ _ _ h => (by cases h), fun _ _ _ _ _ _ _ h => (by cases h)⟩
  | succ k ih =>
    have hrec_60 := ih.1
    have hrec_103 := ih.2
    refine ⟨?_, ?_⟩
    · intro S a1 i2 i3 i4 i5 hs1 h
      rw [fX4_readPart] at h
      have h := g_ip rfl h
      unfold bX4_readPart_60 at h
      refine zX4_readPart_60 hs1 ?_
      refine ⟨fun c => ?_, fun c => ?_⟩
      · have h := g_ip c h
        refine ⟨fun c => ?_, fun c => ?_⟩
        · have h := g_in c h
          exact hrec_103 _ _ _ _ _ _ hs1 h
        · have h := g_ip c h
          refine ⟨fun c => ?_, fun c => ?_⟩
          · have h := g_in c h
            exact hrec_103 _ _ _ _ _ _ hs1 h
          · have h := g_ip c h
            refine ⟨fun c => ?_, fun c => ?_⟩
            · have h := g_in c h
              obtain ⟨S1, hc, h⟩ := g_b1s h
              refine ⟨0, _, (by omega), CX3_add hs1 hc, ?_⟩
              rintro _ rfl
              exact hrec_103 _ _ _ _ _ _ hs1 h
            · have h := g_ip c h
              obtain ⟨S2, hc, h⟩ := g_b1s h
              refine ⟨0, _, (by omega), CX3_add hs1 hc, ?_⟩
              rintro _ rfl
              exact hrec_103 _ _ _ _ _ _ hs1 h
      · have h := g_in c h
        obtain ⟨S3, b4, hc, h⟩ := g_b2s h
        refine ⟨0, _, (by omega), CX8_fail  hc, ?_⟩
        rintro _ _ ⟨rfl, rfl⟩
        cases h; exact ⟨rfl, rfl⟩
    · intro S a1 i2 i3 i4 i5 hs1 h
      rw [fX4_readPart] at h
      have h := g_in (by decide) h
      have h := g_ip rfl h
      unfold bX4_readPart_103 at h
      refine zX4_readPart_103 hs1 ?_
      obtain ⟨S1, hc, h⟩ := g_b1s h
      refine ⟨4, _, (by omega), CX8_advance  hc, ?_⟩
      rintro _ rfl
      refine ⟨fun c => ?_, fun c => ?_⟩
      · have h := g_ip c h
        refine ⟨fun c => ?_, fun c => ?_⟩
        · have h := g_ip c h
          cases h; exact ⟨rfl, rfl⟩
        · have h := g_in c h
          obtain ⟨S2, b3, hc, h⟩ := g_b2s h
          refine ⟨dd, _, (by omega), hrcL hs1 hc, ?_⟩
          rintro _ _ ⟨rfl, rfl⟩
          refine ⟨fun c => ?_, fun c => ?_⟩
          · have h := g_bf c h
            cases h; exact ⟨rfl, rfl⟩
          · have h := g_bt c h
            obtain ⟨S4, b5, hc, h⟩ := g_b2s h
            refine ⟨5, _, (by omega), CX8_takeSign  hc, ?_⟩
            rintro _ _ ⟨rfl, rfl⟩
            refine ⟨fun c => ?_, fun c => ?_⟩
            · have h := g_bf c h
              cases h; exact ⟨rfl, rfl⟩
            · have h := g_bt c h
              cases h; exact ⟨rfl, rfl⟩
      · have h := g_in c h
        obtain ⟨S6, b7, hc, h⟩ := g_b2s h
        refine ⟨dd, _, (by omega), hrcP hs1 hc, ?_⟩
        rintro _ _ ⟨rfl, rfl⟩
        obtain ⟨S8, hc, h⟩ := g_b1s h
        refine ⟨0, _, (by omega), CX3_add hs1 hc, ?_⟩
        rintro _ rfl
        cases h; exact ⟨rfl, rfl⟩
theorem CX4_readPart_r {rc : Nat → gS → Nat → Int32 → Int32 → Option (gS × Bool)} {n : Nat} {S : gS} {R : gS × Bool} {a1 : Nat} {i2 : Int32} {dd : Nat} (hB : 12 ≤ dd) (hrcL : ∀ {S : gS} {a1 : Nat} {i2 i3 : Int32} {R : gS × Bool}, isLw a1 → rc 0 S a1 i2 i3 = some R → sCz dd mX4_readLevel n S [.ref (4), .ref (a1), .int (i2), .int (i3)] (fun S2 x2 => S2 = R.1 ∧ x2 = R.2)) (hrcP : ∀ {S : gS} {a1 : Nat} {i2 : Int32} {R : gS × Bool}, isLw a1 → rc 1 S a1 i2 0 = some R → sCz dd mX4_readPart n S [.ref (4), .ref (a1), .int (i2)] (fun S2 x2 => S2 = R.1 ∧ x2 = R.2)) (hs1 : isLw a1) (h : FX4_readPart_r rc S a1 i2 = some R) : sCz (dd + 1) mX4_readPart n S [.ref (4), .ref (a1), .int (i2)] (fun S2 x2 => S2 = R.1 ∧ x2 = R.2) := by
  unfold FX4_readPart_r at h
  refine gCz_of (by decide) (Nat.le_of_ble_eq_true rfl) rfl rfl (zX4_readPart_0 hs1 ?_)
  obtain ⟨S1, x2, hc, h⟩ := g_b2s h
  refine ⟨5, _, (by omega), CX4_factHere  hc, ?_⟩
  rintro _ _ ⟨rfl, rfl⟩
  obtain ⟨S3, b4, hc, h⟩ := g_b2s h
  refine ⟨4, _, (by omega), CX8_isWord (by decide) hc, ?_⟩
  rintro _ _ ⟨rfl, rfl⟩
  obtain ⟨S5, b6, hc, h⟩ := g_b2s h
  refine ⟨0, _, (by omega), CX8_isSign  hc, ?_⟩
  rintro _ _ ⟨rfl, rfl⟩
  refine ⟨fun c => ?_, fun c => ?_⟩
  · have h := g_in c h
    exact (lX4_readPart hB hrcL hrcP FU).1 _ _ _ _ _ _ hs1 h
  · have h := g_ip c h
    refine ⟨fun c => ?_, fun c => ?_⟩
    · have h := g_bt c h
      exact (lX4_readPart hB hrcL hrcP FU).1 _ _ _ _ _ _ hs1 h
    · have h := g_bf c h
      refine ⟨fun c => ?_, fun c => ?_⟩
      · have h := g_bt c h
        exact (lX4_readPart hB hrcL hrcP FU).1 _ _ _ _ _ _ hs1 h
      · have h := g_bf c h
        obtain ⟨S7, b8, hc, h⟩ := g_b2s h
        refine ⟨0, _, (by omega), CX8_isNumber  hc, ?_⟩
        rintro _ _ ⟨rfl, rfl⟩
        refine ⟨fun c => ?_, fun c => ?_⟩
        · have h := g_bt c h
          exact (lX4_readPart hB hrcL hrcP FU).1 _ _ _ _ _ _ hs1 h
        · have h := g_bf c h
          obtain ⟨S9, b10, hc, h⟩ := g_b2s h
          refine ⟨0, _, (by omega), CX8_fail  hc, ?_⟩
          rintro _ _ ⟨rfl, rfl⟩
          cases h; exact ⟨rfl, rfl⟩

noncomputable def bX4_readLevel_33 (rc : Nat → gS → Nat → Int32 → Int32 → Option (gS × Bool)) (rec : Nat → gS → Nat → Int32 → Int32 → Int32 → Int32 → Int32 → Option (gS × Bool)) (S : gS) (a1 : Nat) (i2 : Int32) (i3 : Int32) (i4 : Int32) (i5 : Int32) (i6 : Int32) : Option (gS × Bool) := if (1000 : Int32) ≤ i6 then (if i4 = 0 then some (S, false) else if i4 = 1 then some (S, true) else none) else (if i4 = 0 then (if i4 = 0 then some (S, false) else if i4 = 1 then some (S, true) else none) else (if i5 = 0 then (if i4 = 0 then some (S, false) else if i4 = 1 then some (S, true) else none) else (g_b1 (FX8_advance S ) (fun S1 => g_b2 (rc 0 S1 (a1) ((i2 + (1 : Int32))) (i3)) (fun S2 b3 => g_b1 (FX3_add S2 (a1) (i5)) (fun S4 => if i2 = (1 : Int32) then (rec 33 S4 (a1) (i2) (i3) ((g_b b3)) ((0 : Int32)) ((i6 + 1))) else (g_b2 (FX4_joinHere S4 (i2)) (fun S5 x6 => rec 33 S5 (a1) (i2) (i3) ((g_b b3)) (x6) ((i6 + 1))))))))))
noncomputable def fX4_readLevel (rc : Nat → gS → Nat → Int32 → Int32 → Option (gS × Bool)) : Nat → Nat → gS → Nat → Int32 → Int32 → Int32 → Int32 → Int32 → Option (gS × Bool)
  | 0 => fun _ _ _ _ _ _ _ _ => none
  | k + 1 => fun pc S a1 i2 i3 i4 i5 i6 => if pc = 33 then bX4_readLevel_33 rc (fX4_readLevel rc k) S a1 i2 i3 i4 i5 i6 else none
noncomputable def FX4_readLevel_r (rc : Nat → gS → Nat → Int32 → Int32 → Option (gS × Bool)) (S : gS) (a1 : Nat) (i2 : Int32) (i3 : Int32) : Option (gS × Bool) := if i2 ≤ (3 : Int32) then (g_b2 (rc 0 S (a1) ((i2 + (1 : Int32))) (i3)) (fun S1 b2 => g_b2 (FX4_joinHere S1 (i2)) (fun S3 x4 => fX4_readLevel rc FU 33 S3 (a1) (i2) (i3) ((g_b b2)) (x4) ((0 : Int32))))) else (g_b2 (rc 1 S (a1) (i3) 0) (fun S5 b6 => some (S5, b6)))
set_option maxRecDepth 100000 in
theorem lX4_readLevel {rc : Nat → gS → Nat → Int32 → Int32 → Option (gS × Bool)} {n : Nat} {R : gS × Bool} {dd : Nat} (hB : 12 ≤ dd) (hrcL : ∀ {S : gS} {a1 : Nat} {i2 i3 : Int32} {R : gS × Bool}, isLw a1 → rc 0 S a1 i2 i3 = some R → sCz dd mX4_readLevel n S [.ref (4), .ref (a1), .int (i2), .int (i3)] (fun S2 x2 => S2 = R.1 ∧ x2 = R.2)) (hrcP : ∀ {S : gS} {a1 : Nat} {i2 : Int32} {R : gS × Bool}, isLw a1 → rc 1 S a1 i2 0 = some R → sCz dd mX4_readPart n S [.ref (4), .ref (a1), .int (i2)] (fun S2 x2 => S2 = R.1 ∧ x2 = R.2)) : ∀ k : Nat, (∀ (S : gS) (a1 : Nat) (i2 : Int32) (i3 : Int32) (i4 : Int32) (i5 : Int32) (i6 : Int32) (hs1 : isLw a1), fX4_readLevel rc k 33 S a1 i2 i3 i4 i5 i6 = some R → gG (dd + 1) mX4_readLevel 0 0 (g_Xz mX4_readLevel n 0 0 (hPz (fun S2 x2 => S2 = R.1 ∧ x2 = R.2))) 33 n (hH S) [some (.ref (4)), some (.ref (a1)), some (.int (i2)), some (.int (i3)), some (.int (i4)), some (.int (i5)), some (.int (i6))] [] 0 0) := by
  intro k
  induction k with
  | zero => exact fun _ _ _ _ _ _ _ _ h => (by cases h)
  | succ k ih =>
    have hrec_33 := ih
    · intro S a1 i2 i3 i4 i5 i6 hs1 h
      rw [fX4_readLevel] at h
      have h := g_ip rfl h
      unfold bX4_readLevel_33 at h
      refine zX4_readLevel_33 hs1 ?_
      refine ⟨fun c => ?_, fun c => ?_⟩
      · have h := g_ip c h
        exact g_zs h
      · have h := g_in c h
        refine ⟨fun c => ?_, fun c => ?_⟩
        · have h := g_ip c h
          exact g_zs h
        · have h := g_in c h
          refine ⟨fun c => ?_, fun c => ?_⟩
          · have h := g_ip c h
            exact g_zs h
          · have h := g_in c h
            obtain ⟨S1, hc, h⟩ := g_b1s h
            refine ⟨4, _, (by omega), CX8_advance  hc, ?_⟩
            rintro _ rfl
            obtain ⟨S2, b3, hc, h⟩ := g_b2s h
            refine ⟨dd, _, (by omega), hrcL hs1 hc, ?_⟩
            rintro _ _ ⟨rfl, rfl⟩
            obtain ⟨S4, hc, h⟩ := g_b1s h
            refine ⟨0, _, (by omega), CX3_add hs1 hc, ?_⟩
            rintro _ rfl
            refine ⟨fun c => ?_, fun c => ?_⟩
            · have h := g_in c h
              obtain ⟨S5, x6, hc, h⟩ := g_b2s h
              refine ⟨5, _, (by omega), CX4_joinHere  hc, ?_⟩
              rintro _ _ ⟨rfl, rfl⟩
              exact hrec_33 _ _ _ _ _ _ _ hs1 h
            · have h := g_ip c h
              exact hrec_33 _ _ _ _ _ _ _ hs1 h
theorem CX4_readLevel_r {rc : Nat → gS → Nat → Int32 → Int32 → Option (gS × Bool)} {n : Nat} {S : gS} {R : gS × Bool} {a1 : Nat} {i2 : Int32} {i3 : Int32} {dd : Nat} (hB : 12 ≤ dd) (hrcL : ∀ {S : gS} {a1 : Nat} {i2 i3 : Int32} {R : gS × Bool}, isLw a1 → rc 0 S a1 i2 i3 = some R → sCz dd mX4_readLevel n S [.ref (4), .ref (a1), .int (i2), .int (i3)] (fun S2 x2 => S2 = R.1 ∧ x2 = R.2)) (hrcP : ∀ {S : gS} {a1 : Nat} {i2 : Int32} {R : gS × Bool}, isLw a1 → rc 1 S a1 i2 0 = some R → sCz dd mX4_readPart n S [.ref (4), .ref (a1), .int (i2)] (fun S2 x2 => S2 = R.1 ∧ x2 = R.2)) (hs1 : isLw a1) (h : FX4_readLevel_r rc S a1 i2 i3 = some R) : sCz (dd + 1) mX4_readLevel n S [.ref (4), .ref (a1), .int (i2), .int (i3)] (fun S2 x2 => S2 = R.1 ∧ x2 = R.2) := by
  unfold FX4_readLevel_r at h
  refine gCz_of (by decide) (Nat.le_of_ble_eq_true rfl) rfl rfl (zX4_readLevel_0 hs1 ?_)
  refine ⟨fun c => ?_, fun c => ?_⟩
  · have h := g_ip c h
    obtain ⟨S1, b2, hc, h⟩ := g_b2s h
    refine ⟨dd, _, (by omega), hrcL hs1 hc, ?_⟩
    rintro _ _ ⟨rfl, rfl⟩
    obtain ⟨S3, x4, hc, h⟩ := g_b2s h
    refine ⟨5, _, (by omega), CX4_joinHere  hc, ?_⟩
    rintro _ _ ⟨rfl, rfl⟩
    exact (lX4_readLevel hB hrcL hrcP FU) _ _ _ _ _ _ _ hs1 h
  · have h := g_in c h
    obtain ⟨S5, b6, hc, h⟩ := g_b2s h
    refine ⟨dd, _, (by omega), hrcP hs1 hc, ?_⟩
    rintro _ _ ⟨rfl, rfl⟩
    cases h; exact ⟨rfl, rfl⟩

/-- the reader of an E: k levels of calls at most -/
noncomputable def f4 : Nat → Nat → gS → Nat → Int32 → Int32 → Option (gS × Bool)
  | 0 => fun _ _ _ _ _ => none
  | k + 1 => fun q S a1 i2 i3 => if q = 0 then FX4_readLevel_r (f4 k) S a1 i2 i3 else FX4_readPart_r (f4 k) S a1 i2
theorem l4 {n : Nat} : ∀ k : Nat, (∀ {S : gS} {a1 : Nat} {i2 i3 : Int32} {R : gS × Bool}, isLw a1 → f4 k 0 S a1 i2 i3 = some R → sCz (12 + k) mX4_readLevel n S [.ref (4), .ref (a1), .int (i2), .int (i3)] (fun S2 x2 => S2 = R.1 ∧ x2 = R.2)) ∧ (∀ {S : gS} {a1 : Nat} {i2 : Int32} {R : gS × Bool}, isLw a1 → f4 k 1 S a1 i2 0 = some R → sCz (12 + k) mX4_readPart n S [.ref (4), .ref (a1), .int (i2)] (fun S2 x2 => S2 = R.1 ∧ x2 = R.2)) := by
  intro k
  induction k with
  | zero => exact ⟨fun _ h => (by cases h), fun _ h => (by cases h)⟩
  | succ k ih =>
    refine ⟨?_, ?_⟩
    · intro S a1 i2 i3 R hs h
      rw [f4] at h
      have h := g_ip rfl h
      exact CX4_readLevel_r (dd := 12 + k) (by omega) ih.1 ih.2 hs h
    · intro S a1 i2 R hs h
      rw [f4] at h
      have h := g_in (by decide) h
      exact CX4_readPart_r (dd := 12 + k) (by omega) ih.1 ih.2 hs h
def RF : Nat := 60
noncomputable def FX4_readLevel (S : gS) (a1 : Nat) (i2 i3 : Int32) : Option (gS × Bool) := f4 RF 0 S a1 i2 i3
theorem CX4_readLevel {n : Nat} {S : gS} {R : gS × Bool} {a1 : Nat} {i2 i3 : Int32} (hs : isLw a1) (h : FX4_readLevel S a1 i2 i3 = some R) : sCz 72 mX4_readLevel n S [.ref (4), .ref (a1), .int (i2), .int (i3)] (fun S2 x2 => S2 = R.1 ∧ x2 = R.2) := (l4 RF).1 hs h

noncomputable def FX2_readLine (S : gS) (a1 : Nat) : Option (gS × Bool) := g_b2 (FX8_isWord S (1)) (fun S1 b2 => if b2 = true then (g_b2 (FX2_readMouth S1 (a1)) (fun S26 b27 => some (S26, b27))) else (g_b2 (FX8_isWord S1 (29)) (fun S3 b4 => if b4 = true then (g_b2 (FX2_readGutter S3 (a1)) (fun S24 b25 => some (S24, b25))) else (g_b2 (FX8_isWord S3 (30)) (fun S5 b6 => if b6 = true then (g_b2 (FX2_readLetterNamed S5 (a1)) (fun S20 b21 => if b21 = true then (g_b2 (FX2_readLetterMouths S20 (a1)) (fun S22 b23 => if b23 = true then (some (S22, true)) else (some (S22, false)))) else (some (S20, false)))) else (g_b2 (FX8_isWord S5 (32)) (fun S7 b8 => if b8 = true then (g_b2 (FX2_readRain S7 (a1)) (fun S18 b19 => some (S18, b19))) else (g_b2 (FX8_isWord S7 (33)) (fun S9 b10 => if b10 = true then (if (sI S9 ((a1 + 11)) 1) ≤ 0 then (g_b1 (FX8_advance S9 ) (fun S11 => g_b2 (FX4_readLevel S11 ((a1 + 11)) ((0 : Int32)) ((0 : Int32))) (fun S12 b13 => some (S12, b13)))) else (g_b2 (FX8_fail S9 ((3 : Int32))) (fun S14 b15 => some (S14, b15)))) else (g_b2 (FX8_fail S9 ((1 : Int32))) (fun S16 b17 => some (S16, b17))))))))))))
theorem CX2_readLine {n : Nat} {S : gS} {R : gS × Bool} {a1 : Nat} (hs1 : isF a1) (h : FX2_readLine S a1 = some R) : sCz 73 mX2_readLine n S [.ref (3), .ref (a1)] (fun S2 x2 => S2 = R.1 ∧ x2 = R.2) := by
  unfold FX2_readLine at h
  refine gCz_of (by decide) (Nat.le_of_ble_eq_true rfl) rfl rfl (zX2_readLine_0 hs1 ?_)
  obtain ⟨S1, b2, hc, h⟩ := g_b2s h
  refine ⟨4, _, (by decide), CX8_isWord (by decide) hc, ?_⟩
  rintro _ _ ⟨rfl, rfl⟩
  refine ⟨fun c => ?_, fun c => ?_⟩
  · have h := g_bf c h
    obtain ⟨S3, b4, hc, h⟩ := g_b2s h
    refine ⟨4, _, (by decide), CX8_isWord (by decide) hc, ?_⟩
    rintro _ _ ⟨rfl, rfl⟩
    refine ⟨fun c => ?_, fun c => ?_⟩
    · have h := g_bf c h
      obtain ⟨S5, b6, hc, h⟩ := g_b2s h
      refine ⟨4, _, (by decide), CX8_isWord (by decide) hc, ?_⟩
      rintro _ _ ⟨rfl, rfl⟩
      refine ⟨fun c => ?_, fun c => ?_⟩
      · have h := g_bf c h
        obtain ⟨S7, b8, hc, h⟩ := g_b2s h
        refine ⟨4, _, (by decide), CX8_isWord (by decide) hc, ?_⟩
        rintro _ _ ⟨rfl, rfl⟩
        refine ⟨fun c => ?_, fun c => ?_⟩
        · have h := g_bf c h
          obtain ⟨S9, b10, hc, h⟩ := g_b2s h
          refine ⟨4, _, (by decide), CX8_isWord (by decide) hc, ?_⟩
          rintro _ _ ⟨rfl, rfl⟩
          refine ⟨fun c => ?_, fun c => ?_⟩
          · have h := g_bt c h
            refine ⟨fun c => ?_, fun c => ?_⟩
            · have h := g_ip c h
              obtain ⟨S11, hc, h⟩ := g_b1s h
              refine ⟨4, _, (by decide), CX8_advance  hc, ?_⟩
              rintro _ rfl
              obtain ⟨S12, b13, hc, h⟩ := g_b2s h
              refine ⟨72, _, (by decide), CX4_readLevel hs1.2.2.2.2.2.2.2.2.2.2.2 hc, ?_⟩
              rintro _ _ ⟨rfl, rfl⟩
              cases h; exact ⟨rfl, rfl⟩
            · have h := g_in c h
              obtain ⟨S14, b15, hc, h⟩ := g_b2s h
              refine ⟨0, _, (by decide), CX8_fail  hc, ?_⟩
              rintro _ _ ⟨rfl, rfl⟩
              cases h; exact ⟨rfl, rfl⟩
          · have h := g_bf c h
            obtain ⟨S16, b17, hc, h⟩ := g_b2s h
            refine ⟨0, _, (by decide), CX8_fail  hc, ?_⟩
            rintro _ _ ⟨rfl, rfl⟩
            cases h; exact ⟨rfl, rfl⟩
        · have h := g_bt c h
          obtain ⟨S18, b19, hc, h⟩ := g_b2s h
          refine ⟨6, _, (by decide), CX2_readRain hs1 hc, ?_⟩
          rintro _ _ ⟨rfl, rfl⟩
          cases h; exact ⟨rfl, rfl⟩
      · have h := g_bt c h
        obtain ⟨S20, b21, hc, h⟩ := g_b2s h
        refine ⟨7, _, (by decide), CX2_readLetterNamed hs1 hc, ?_⟩
        rintro _ _ ⟨rfl, rfl⟩
        refine ⟨fun c => ?_, fun c => ?_⟩
        · have h := g_bf c h
          cases h; exact ⟨rfl, rfl⟩
        · have h := g_bt c h
          obtain ⟨S22, b23, hc, h⟩ := g_b2s h
          refine ⟨7, _, (by decide), CX2_readLetterMouths hs1 hc, ?_⟩
          rintro _ _ ⟨rfl, rfl⟩
          refine ⟨fun c => ?_, fun c => ?_⟩
          · have h := g_bf c h
            cases h; exact ⟨rfl, rfl⟩
          · have h := g_bt c h
            cases h; exact ⟨rfl, rfl⟩
    · have h := g_bt c h
      obtain ⟨S24, b25, hc, h⟩ := g_b2s h
      refine ⟨7, _, (by decide), CX2_readGutter hs1 hc, ?_⟩
      rintro _ _ ⟨rfl, rfl⟩
      cases h; exact ⟨rfl, rfl⟩
  · have h := g_bt c h
    obtain ⟨S26, b27, hc, h⟩ := g_b2s h
    refine ⟨7, _, (by decide), CX2_readMouth hs1 hc, ?_⟩
    rintro _ _ ⟨rfl, rfl⟩
    cases h; exact ⟨rfl, rfl⟩

noncomputable def bX2_readFront_15  (rec : Nat → gS → Nat → Int32 → Int32 → Option (gS × Int32)) (S : gS) (a1 : Nat) (i2 : Int32) (i3 : Int32) : Option (gS × Int32) := if (1000 : Int32) ≤ i3 then (g_b2 (FX8_close S ) (fun S1 x2 => some (S1, x2))) else (if i2 = 0 then (g_b2 (FX8_close S ) (fun S3 x4 => some (S3, x4))) else (g_b2 (FX8_isEnd S ) (fun S5 b6 => if b6 = true then (g_b2 (FX8_close S5 ) (fun S7 x8 => some (S7, x8))) else (g_b2 (FX2_readLine S5 (a1)) (fun S9 b10 => if b10 = true then (g_b2 (FX8_takeSign S9 ((59 : Int32))) (fun S11 b12 => if b12 = true then (rec 15 S11 (a1) ((1 : Int32)) ((i3 + 1))) else (rec 15 S11 (a1) ((0 : Int32)) ((i3 + 1))))) else (rec 15 S9 (a1) ((0 : Int32)) ((i3 + 1))))))))
noncomputable def fX2_readFront  : Nat → Nat → gS → Nat → Int32 → Int32 → Option (gS × Int32)
  | 0 => fun _ _ _ _ _ => none
  | k + 1 => fun pc S a1 i2 i3 => if pc = 15 then bX2_readFront_15  (fX2_readFront  k) S a1 i2 i3 else none
noncomputable def FX2_readFront (S : gS) (a1 : Nat) : Option (gS × Int32) := g_b1 (FX1_forget S (a1)) (fun S1 => g_b1 (FX8_open S1 ) (fun S2 => fX2_readFront  FU 15 S2 (a1) ((1 : Int32)) ((0 : Int32))))
set_option maxRecDepth 100000 in
theorem lX2_readFront  {n : Nat} {R : gS × Int32} : ∀ k : Nat, (∀ (S : gS) (a1 : Nat) (i2 : Int32) (i3 : Int32) (hs1 : isF a1), fX2_readFront  k 15 S a1 i2 i3 = some R → gG 74 mX2_readFront 0 0 (g_Xj mX2_readFront n 0 0 (hPi (fun S2 x2 => S2 = R.1 ∧ x2 = R.2))) 15 n (hH S) [some (.ref (3)), some (.ref (a1)), some (.int (i2)), some (.int (i3))] [] 0 0) := by
  intro k
  induction k with
  | zero => exact fun _ _ _ _ _ h => (by cases h)
  | succ k ih =>
    have hrec_15 := ih
    · intro S a1 i2 i3 hs1 h
      rw [fX2_readFront] at h
      have h := g_ip rfl h
      unfold bX2_readFront_15 at h
      refine zX2_readFront_15 hs1 ?_
      refine ⟨fun c => ?_, fun c => ?_⟩
      · have h := g_ip c h
        obtain ⟨S1, x2, hc, h⟩ := g_b2s h
        refine ⟨0, _, (by decide), CX8_close  hc, ?_⟩
        rintro _ _ ⟨rfl, rfl⟩
        cases h; exact ⟨rfl, rfl⟩
      · have h := g_in c h
        refine ⟨fun c => ?_, fun c => ?_⟩
        · have h := g_ip c h
          obtain ⟨S3, x4, hc, h⟩ := g_b2s h
          refine ⟨0, _, (by decide), CX8_close  hc, ?_⟩
          rintro _ _ ⟨rfl, rfl⟩
          cases h; exact ⟨rfl, rfl⟩
        · have h := g_in c h
          obtain ⟨S5, b6, hc, h⟩ := g_b2s h
          refine ⟨0, _, (by decide), CX8_isEnd  hc, ?_⟩
          rintro _ _ ⟨rfl, rfl⟩
          refine ⟨fun c => ?_, fun c => ?_⟩
          · have h := g_bt c h
            obtain ⟨S7, x8, hc, h⟩ := g_b2s h
            refine ⟨0, _, (by decide), CX8_close  hc, ?_⟩
            rintro _ _ ⟨rfl, rfl⟩
            cases h; exact ⟨rfl, rfl⟩
          · have h := g_bf c h
            obtain ⟨S9, b10, hc, h⟩ := g_b2s h
            refine ⟨73, _, (by decide), CX2_readLine hs1 hc, ?_⟩
            rintro _ _ ⟨rfl, rfl⟩
            refine ⟨fun c => ?_, fun c => ?_⟩
            · have h := g_bf c h
              exact hrec_15 _ _ _ _ hs1 h
            · have h := g_bt c h
              obtain ⟨S11, b12, hc, h⟩ := g_b2s h
              refine ⟨5, _, (by decide), CX8_takeSign  hc, ?_⟩
              rintro _ _ ⟨rfl, rfl⟩
              refine ⟨fun c => ?_, fun c => ?_⟩
              · have h := g_bf c h
                exact hrec_15 _ _ _ _ hs1 h
              · have h := g_bt c h
                exact hrec_15 _ _ _ _ hs1 h
theorem CX2_readFront {n : Nat} {S : gS} {R : gS × Int32} {a1 : Nat} (hs1 : isF a1) (h : FX2_readFront S a1 = some R) : sCi 74 mX2_readFront n S [.ref (3), .ref (a1)] (fun S2 x2 => S2 = R.1 ∧ x2 = R.2) := by
  unfold FX2_readFront at h
  refine gCj_of (by decide) (Nat.le_of_ble_eq_true rfl) rfl rfl (zX2_readFront_0 hs1 ?_)
  obtain ⟨S1, hc, h⟩ := g_b1s h
  refine ⟨0, _, (by decide), CX1_forget hs1 hc, ?_⟩
  rintro _ rfl
  obtain ⟨S2, hc, h⟩ := g_b1s h
  refine ⟨5, _, (by decide), CX8_open  hc, ?_⟩
  rintro _ rfl
  exact (lX2_readFront FU) _ _ _ _ hs1 h

noncomputable def FX11_front (S : gS)  : Option (gS × Int32) := if isFb (sQ S 4) = true then (g_b2 (FX2_readFront S ((sQ S 4))) (fun S2 x3 => if x3 = 0 then (if isFb (sQ S2 3) = true then (if isFb (sQ S2 4) = true then (g_lt (uQ S2 3 ((sQ S2 4))) (fun S6 => g_lt (uQ S6 4 ((sQ S2 3))) (fun S7 => g_b1 (FX11_beginAnew S7 ) (fun S8 => some (S8, x3))))) else none) else none) else (some (S2, x3)))) else none
theorem CX11_front {n : Nat} {S : gS} {R : gS × Int32}   (h : FX11_front S  = some R) : sCi 75 mX11_front n S [.ref (0)] (fun S2 x2 => S2 = R.1 ∧ x2 = R.2) := by
  unfold FX11_front at h
  refine gCj_of (by decide) (Nat.le_of_ble_eq_true rfl) rfl rfl (zX11_front_0  ?_)
  obtain ⟨hq1, h⟩ := g_fs h
  refine ⟨hq1, ?_⟩
  obtain ⟨S2, x3, hc, h⟩ := g_b2s h
  refine ⟨74, _, (by decide), CX2_readFront hq1 hc, ?_⟩
  rintro _ _ ⟨rfl, rfl⟩
  refine ⟨fun c => ?_, fun c => ?_⟩
  · have h := g_in c h
    cases h; exact ⟨rfl, rfl⟩
  · have h := g_ip c h
    obtain ⟨hq4, h⟩ := g_fs h
    refine ⟨hq4, ?_⟩
    obtain ⟨hq5, h⟩ := g_fs h
    refine ⟨hq5, ?_⟩
    intro S6 eS
    have h := g_lts eS h
    intro S7 eS
    have h := g_lts eS h
    obtain ⟨S8, hc, h⟩ := g_b1s h
    refine ⟨2, _, (by decide), CX11_beginAnew  hc, ?_⟩
    rintro _ rfl
    cases h; exact ⟨rfl, rfl⟩
