noncomputable def bX8_addBytes_3  (rec : Nat → gS → Int64 → Int32 → Int32 → Int32 → Option (gS)) (S : gS) (j1 : Int64) (i3 : Int32) (i4 : Int32) (i5 : Int32) : Option (gS) := if i3 < 0 then (some S) else (if (Int64.toInt32 ((((Int64.toUInt64 (j1) >>> ((Int32.toInt64 (i3)).toUInt64 &&& Int64.toUInt64 63)).toInt64) &&& (255 : Int64)))) = (10 : Int32) then (rec 45 S (j1) (i3) ((Int64.toInt32 ((((Int64.toUInt64 (j1) >>> ((Int32.toInt64 (i3)).toUInt64 &&& Int64.toUInt64 63)).toInt64) &&& (255 : Int64))))) ((1 : Int32))) else (if (Int64.toInt32 ((((Int64.toUInt64 (j1) >>> ((Int32.toInt64 (i3)).toUInt64 &&& Int64.toUInt64 63)).toInt64) &&& (255 : Int64)))) < (32 : Int32) then (rec 45 S (j1) (i3) ((Int64.toInt32 ((((Int64.toUInt64 (j1) >>> ((Int32.toInt64 (i3)).toUInt64 &&& Int64.toUInt64 63)).toInt64) &&& (255 : Int64))))) ((0 : Int32))) else (if (126 : Int32) < (Int64.toInt32 ((((Int64.toUInt64 (j1) >>> ((Int32.toInt64 (i3)).toUInt64 &&& Int64.toUInt64 63)).toInt64) &&& (255 : Int64)))) then (rec 45 S (j1) (i3) ((Int64.toInt32 ((((Int64.toUInt64 (j1) >>> ((Int32.toInt64 (i3)).toUInt64 &&& Int64.toUInt64 63)).toInt64) &&& (255 : Int64))))) ((0 : Int32))) else (rec 45 S (j1) (i3) ((Int64.toInt32 ((((Int64.toUInt64 (j1) >>> ((Int32.toInt64 (i3)).toUInt64 &&& Int64.toUInt64 63)).toInt64) &&& (255 : Int64))))) ((1 : Int32))))))
noncomputable def bX8_addBytes_45  (rec : Nat → gS → Int64 → Int32 → Int32 → Int32 → Option (gS)) (S : gS) (j1 : Int64) (i3 : Int32) (i4 : Int32) (i5 : Int32) : Option (gS) := if i5 = 0 then (rec 3 S (j1) ((i3 + (-8))) 0 0) else (if (1000 : Int32) ≤ (sI S (1) 1) then (rec 3 S (j1) ((i3 + (-8))) 0 0) else (if g_vp ((sI S (1) 1)) 1000 = true then (g_lt (uR S (2) (Int32.toNatClampNeg ((sI S (1) 1))) (vp_nar .char ((Int32.toUInt32 (i4) % 65536).toInt32))) (fun S2 => g_lt (uI S2 (1) 1 (((sI S2 (1) 1) + (1 : Int32)))) (fun S3 => rec 3 S3 (j1) ((i3 + (-8))) 0 0))) else none))
noncomputable def fX8_addBytes  : Nat → Nat → gS → Int64 → Int32 → Int32 → Int32 → Option (gS)
  | 0 => fun _ _ _ _ _ _ => none
  | k + 1 => fun pc S j1 i3 i4 i5 => if pc = 3 then bX8_addBytes_3  (fX8_addBytes  k) S j1 i3 i4 i5 else if pc = 45 then bX8_addBytes_45  (fX8_addBytes  k) S j1 i3 i4 i5 else none
noncomputable def FX8_addBytes (S : gS) (j1 : Int64) : Option (gS) := fX8_addBytes  FU 3 S (j1) ((56 : Int32)) 0 0
set_option maxRecDepth 100000 in
theorem lX8_addBytes  {n : Nat} {R : gS} : ∀ k : Nat, (∀ (S : gS) (j1 : Int64) (i3 : Int32) (i4 : Int32) (i5 : Int32) , fX8_addBytes  k 3 S j1 i3 i4 i5 = some R → gG 0 mX8_addBytes 0 0 (g_Xv mX8_addBytes n 0 0 (hPv (fun S2 => S2 = R))) 3 n (hH S) [some (.ref (1)), some (.long (j1)), none, some (.int (i3)), none, none] [] 0 0) ∧ (∀ (S : gS) (j1 : Int64) (i3 : Int32) (i4 : Int32) (i5 : Int32) , fX8_addBytes  k 45 S j1 i3 i4 i5 = some R → gG 0 mX8_addBytes 0 0 (g_Xv mX8_addBytes n 0 0 (hPv (fun S2 => S2 = R))) 45 n (hH S) [some (.ref (1)), some (.long (j1)), none, some (.int (i3)), some (.int (i4)), some (.int (i5))] [] 0 0) := by
  intro k
  induction k with
  | zero => exact ⟨fun _ _ _ _ _ h => (by cases h), fun _ _ _ _ _ h => (by cases h)⟩
  | succ k ih =>
    have hrec_3 := ih.1
    have hrec_45 := ih.2
    refine ⟨?_, ?_⟩
    · intro S j1 i3 i4 i5 h
      rw [fX8_addBytes] at h
      have h := g_ip rfl h
      unfold bX8_addBytes_3 at h
      refine zX8_addBytes_3  ?_
      refine ⟨fun c => ?_, fun c => ?_⟩
      · have h := g_ip c h
        cases h; exact rfl
      · have h := g_in c h
        refine ⟨fun c => ?_, fun c => ?_⟩
        · have h := g_ip c h
          exact hrec_45 _ _ _ _ _  h
        · have h := g_in c h
          refine ⟨fun c => ?_, fun c => ?_⟩
          · have h := g_ip c h
            exact hrec_45 _ _ _ _ _  h
          · have h := g_in c h
            refine ⟨fun c => ?_, fun c => ?_⟩
            · have h := g_ip c h
              exact hrec_45 _ _ _ _ _  h
            · have h := g_in c h
              exact hrec_45 _ _ _ _ _  h
    · intro S j1 i3 i4 i5 h
      rw [fX8_addBytes] at h
      have h := g_in (by decide) h
      have h := g_ip rfl h
      unfold bX8_addBytes_45 at h
      refine zX8_addBytes_45  ?_
      refine ⟨fun c => ?_, fun c => ?_⟩
      · have h := g_ip c h
        exact hrec_3 _ _ _ _ _  h
      · have h := g_in c h
        refine ⟨fun c => ?_, fun c => ?_⟩
        · have h := g_ip c h
          exact hrec_3 _ _ _ _ _  h
        · have h := g_in c h
          obtain ⟨hv1, h⟩ := g_vs h
          refine ⟨hv1, ?_⟩
          intro S2 eS
          have h := g_lts eS h
          intro S3 eS
          have h := g_lts eS h
          exact hrec_3 _ _ _ _ _  h
theorem CX8_addBytes {n : Nat} {S : gS} {R : gS} {j1 : Int64}  (h : FX8_addBytes S j1 = some R) : sCv 0 mX8_addBytes n S [.ref (1), .long (j1)] (fun S2 => S2 = R) := by
  unfold FX8_addBytes at h
  refine gCv_of (by decide) (Nat.le_of_ble_eq_true rfl) rfl rfl (zX8_addBytes_0  ?_)
  exact (lX8_addBytes FU).1 _ _ _ _ _  h

noncomputable def FX8_close (S : gS)  : Option (gS × Int32) := g_lt (uI S (1) 1 ((0 : Int32))) (fun S1 => some (S1, (sI S1 (1) 7)))
theorem CX8_close {n : Nat} {S : gS} {R : gS × Int32}   (h : FX8_close S  = some R) : sCi 0 mX8_close n S [.ref (1)] (fun S2 x2 => S2 = R.1 ∧ x2 = R.2) := by
  unfold FX8_close at h
  refine gCj_of (by decide) (Nat.le_of_ble_eq_true rfl) rfl rfl (zX8_close_0  ?_)
  intro S1 eS
  have h := g_lts eS h
  cases h; exact ⟨rfl, rfl⟩

noncomputable def FX8_fail (S : gS) (i1 : Int32) : Option (gS × Bool) := if (sI S (1) 7) = 0 then (g_lt (uI S (1) 7 ((i1 + ((16 : Int32) * (sI S (1) 3))))) (fun S1 => some (S1, false))) else (some (S, false))
theorem CX8_fail {n : Nat} {S : gS} {R : gS × Bool} {i1 : Int32}  (h : FX8_fail S i1 = some R) : sCz 0 mX8_fail n S [.ref (1), .int (i1)] (fun S2 x2 => S2 = R.1 ∧ x2 = R.2) := by
  unfold FX8_fail at h
  refine gCz_of (by decide) (Nat.le_of_ble_eq_true rfl) rfl rfl (zX8_fail_0  ?_)
  refine ⟨fun c => ?_, fun c => ?_⟩
  · have h := g_in c h
    cases h; exact ⟨rfl, rfl⟩
  · have h := g_ip c h
    intro S1 eS
    have h := g_lts eS h
    cases h; exact ⟨rfl, rfl⟩

noncomputable def bX8_scanWord_5  (rec : Nat → gS → Option (gS)) (S : gS)  : Option (gS) := if (sI S (1) 1) ≤ (sI S (1) 4) then (rec 85 S ) else (if g_vp ((sI S (1) 4)) 1000 = true then (if (sR S (2) (Int32.toNatClampNeg ((sI S (1) 4)))) < (97 : Int32) then (rec 85 S ) else (if (122 : Int32) < (sR S (2) (Int32.toNatClampNeg ((sI S (1) 4)))) then (rec 85 S ) else (g_lt (uJ S (1) 5 ((((sJ S (1) 5) * (32 : Int64)) + (Int32.toInt64 ((((sR S (2) (Int32.toNatClampNeg ((sI S (1) 4)))) - (97 : Int32)) + (1 : Int32))))))) (fun S2 => g_lt (uI S2 (1) 4 (((sI S2 (1) 4) + (1 : Int32)))) (fun S3 => rec 5 S3 ))))) else none)
noncomputable def bX8_scanWord_85  (rec : Nat → gS → Option (gS)) (S : gS)  : Option (gS) := if (8 : Int32) < ((sI S (1) 4) - (sI S (1) 3)) then (g_lt (uI S (1) 2 ((1 : Int32))) (fun S1 => some S1)) else (g_lt (uI S (1) 2 ((2 : Int32))) (fun S2 => some S2))
noncomputable def fX8_scanWord  : Nat → Nat → gS → Option (gS)
  | 0 => fun _ _  => none
  | k + 1 => fun pc S  => if pc = 5 then bX8_scanWord_5  (fX8_scanWord  k) S  else if pc = 85 then bX8_scanWord_85  (fX8_scanWord  k) S  else none
noncomputable def FX8_scanWord (S : gS)  : Option (gS) := g_lt (uJ S (1) 5 ((0 : Int64))) (fun S1 => fX8_scanWord  FU 5 S1 )
set_option maxRecDepth 100000 in
theorem lX8_scanWord  {n : Nat} {R : gS} : ∀ k : Nat, (∀ (S : gS)  , fX8_scanWord  k 5 S  = some R → gG 0 mX8_scanWord 0 0 (g_Xv mX8_scanWord n 0 0 (hPv (fun S2 => S2 = R))) 5 n (hH S) [some (.ref (1))] [] 0 0) ∧ (∀ (S : gS)  , fX8_scanWord  k 85 S  = some R → gG 0 mX8_scanWord 0 0 (g_Xv mX8_scanWord n 0 0 (hPv (fun S2 => S2 = R))) 85 n (hH S) [some (.ref (1))] [] 0 0) := by
  intro k
  induction k with
  | zero => exact ⟨fun _ h => (by cases h), fun _ h => (by cases h)⟩
  | succ k ih =>
    have hrec_5 := ih.1
    have hrec_85 := ih.2
    refine ⟨?_, ?_⟩
    · intro S h
      rw [fX8_scanWord] at h
      have h := g_ip rfl h
      unfold bX8_scanWord_5 at h
      refine zX8_scanWord_5  ?_
      refine ⟨fun c => ?_, fun c => ?_⟩
      · have h := g_ip c h
        exact hrec_85 _   h
      · have h := g_in c h
        obtain ⟨hv1, h⟩ := g_vs h
        refine ⟨hv1, ?_⟩
        refine ⟨fun c => ?_, fun c => ?_⟩
        · have h := g_ip c h
          exact hrec_85 _   h
        · have h := g_in c h
          refine ⟨fun c => ?_, fun c => ?_⟩
          · have h := g_ip c h
            exact hrec_85 _   h
          · have h := g_in c h
            intro S2 eS
            have h := g_lts eS h
            intro S3 eS
            have h := g_lts eS h
            exact hrec_5 _   h
    · intro S h
      rw [fX8_scanWord] at h
      have h := g_in (by decide) h
      have h := g_ip rfl h
      unfold bX8_scanWord_85 at h
      refine zX8_scanWord_85  ?_
      refine ⟨fun c => ?_, fun c => ?_⟩
      · have h := g_ip c h
        intro S1 eS
        have h := g_lts eS h
        cases h; exact rfl
      · have h := g_in c h
        intro S2 eS
        have h := g_lts eS h
        cases h; exact rfl
theorem CX8_scanWord {n : Nat} {S : gS} {R : gS}   (h : FX8_scanWord S  = some R) : sCv 0 mX8_scanWord n S [.ref (1)] (fun S2 => S2 = R) := by
  unfold FX8_scanWord at h
  refine gCv_of (by decide) (Nat.le_of_ble_eq_true rfl) rfl rfl (zX8_scanWord_0  ?_)
  intro S1 eS
  have h := g_lts eS h
  exact (lX8_scanWord FU).1 _   h

noncomputable def bX8_scanNumber_5  (rec : Nat → gS → Option (gS)) (S : gS)  : Option (gS) := if (sI S (1) 1) ≤ (sI S (1) 4) then (rec 81 S ) else (if g_vp ((sI S (1) 4)) 1000 = true then (if (sR S (2) (Int32.toNatClampNeg ((sI S (1) 4)))) < (48 : Int32) then (rec 81 S ) else (if (57 : Int32) < (sR S (2) (Int32.toNatClampNeg ((sI S (1) 4)))) then (rec 81 S ) else (g_lt (uI S (1) 6 ((((sI S (1) 6) * (10 : Int32)) + ((sR S (2) (Int32.toNatClampNeg ((sI S (1) 4)))) - (48 : Int32))))) (fun S2 => g_lt (uI S2 (1) 4 (((sI S2 (1) 4) + (1 : Int32)))) (fun S3 => rec 5 S3 ))))) else none)
noncomputable def bX8_scanNumber_81  (rec : Nat → gS → Option (gS)) (S : gS)  : Option (gS) := if (4 : Int32) < ((sI S (1) 4) - (sI S (1) 3)) then (g_lt (uI S (1) 2 ((1 : Int32))) (fun S1 => some S1)) else (g_lt (uI S (1) 2 ((3 : Int32))) (fun S2 => some S2))
noncomputable def fX8_scanNumber  : Nat → Nat → gS → Option (gS)
  | 0 => fun _ _  => none
  | k + 1 => fun pc S  => if pc = 5 then bX8_scanNumber_5  (fX8_scanNumber  k) S  else if pc = 81 then bX8_scanNumber_81  (fX8_scanNumber  k) S  else none
noncomputable def FX8_scanNumber (S : gS)  : Option (gS) := g_lt (uI S (1) 6 ((0 : Int32))) (fun S1 => fX8_scanNumber  FU 5 S1 )
set_option maxRecDepth 100000 in
theorem lX8_scanNumber  {n : Nat} {R : gS} : ∀ k : Nat, (∀ (S : gS)  , fX8_scanNumber  k 5 S  = some R → gG 0 mX8_scanNumber 0 0 (g_Xv mX8_scanNumber n 0 0 (hPv (fun S2 => S2 = R))) 5 n (hH S) [some (.ref (1))] [] 0 0) ∧ (∀ (S : gS)  , fX8_scanNumber  k 81 S  = some R → gG 0 mX8_scanNumber 0 0 (g_Xv mX8_scanNumber n 0 0 (hPv (fun S2 => S2 = R))) 81 n (hH S) [some (.ref (1))] [] 0 0) := by
  intro k
  induction k with
  | zero => exact ⟨fun _ h => (by cases h), fun _ h => (by cases h)⟩
  | succ k ih =>
    have hrec_5 := ih.1
    have hrec_81 := ih.2
    refine ⟨?_, ?_⟩
    · intro S h
      rw [fX8_scanNumber] at h
      have h := g_ip rfl h
      unfold bX8_scanNumber_5 at h
      refine zX8_scanNumber_5  ?_
      refine ⟨fun c => ?_, fun c => ?_⟩
      · have h := g_ip c h
        exact hrec_81 _   h
      · have h := g_in c h
        obtain ⟨hv1, h⟩ := g_vs h
        refine ⟨hv1, ?_⟩
        refine ⟨fun c => ?_, fun c => ?_⟩
        · have h := g_ip c h
          exact hrec_81 _   h
        · have h := g_in c h
          refine ⟨fun c => ?_, fun c => ?_⟩
          · have h := g_ip c h
            exact hrec_81 _   h
          · have h := g_in c h
            intro S2 eS
            have h := g_lts eS h
            intro S3 eS
            have h := g_lts eS h
            exact hrec_5 _   h
    · intro S h
      rw [fX8_scanNumber] at h
      have h := g_in (by decide) h
      have h := g_ip rfl h
      unfold bX8_scanNumber_81 at h
      refine zX8_scanNumber_81  ?_
      refine ⟨fun c => ?_, fun c => ?_⟩
      · have h := g_ip c h
        intro S1 eS
        have h := g_lts eS h
        cases h; exact rfl
      · have h := g_in c h
        intro S2 eS
        have h := g_lts eS h
        cases h; exact rfl
theorem CX8_scanNumber {n : Nat} {S : gS} {R : gS}   (h : FX8_scanNumber S  = some R) : sCv 0 mX8_scanNumber n S [.ref (1)] (fun S2 => S2 = R) := by
  unfold FX8_scanNumber at h
  refine gCv_of (by decide) (Nat.le_of_ble_eq_true rfl) rfl rfl (zX8_scanNumber_0  ?_)
  intro S1 eS
  have h := g_lts eS h
  exact (lX8_scanNumber FU).1 _   h

noncomputable def FX8_isEnd (S : gS)  : Option (gS × Bool) := if (sI S (1) 2) = 0 then (some (S, true)) else (some (S, false))
theorem CX8_isEnd {n : Nat} {S : gS} {R : gS × Bool}   (h : FX8_isEnd S  = some R) : sCz 0 mX8_isEnd n S [.ref (1)] (fun S2 x2 => S2 = R.1 ∧ x2 = R.2) := by
  unfold FX8_isEnd at h
  refine gCz_of (by decide) (Nat.le_of_ble_eq_true rfl) rfl rfl (zX8_isEnd_0  ?_)
  refine ⟨fun c => ?_, fun c => ?_⟩
  · have h := g_in c h
    cases h; exact ⟨rfl, rfl⟩
  · have h := g_ip c h
    cases h; exact ⟨rfl, rfl⟩

noncomputable def FX8_isNumber (S : gS)  : Option (gS × Bool) := if (sI S (1) 2) = (3 : Int32) then (some (S, true)) else (some (S, false))
theorem CX8_isNumber {n : Nat} {S : gS} {R : gS × Bool}   (h : FX8_isNumber S  = some R) : sCz 0 mX8_isNumber n S [.ref (1)] (fun S2 x2 => S2 = R.1 ∧ x2 = R.2) := by
  unfold FX8_isNumber at h
  refine gCz_of (by decide) (Nat.le_of_ble_eq_true rfl) rfl rfl (zX8_isNumber_0  ?_)
  refine ⟨fun c => ?_, fun c => ?_⟩
  · have h := g_in c h
    cases h; exact ⟨rfl, rfl⟩
  · have h := g_ip c h
    cases h; exact ⟨rfl, rfl⟩

noncomputable def FX8_isSign (S : gS) (i1 : Int32) : Option (gS × Bool) := if (sI S (1) 2) = (4 : Int32) then (if (sI S (1) 1) ≤ (sI S (1) 3) then (some (S, false)) else (if g_vp ((sI S (1) 3)) 1000 = true then (if (sR S (2) (Int32.toNatClampNeg ((sI S (1) 3)))) = i1 then (some (S, true)) else (some (S, false))) else none)) else (some (S, false))
theorem CX8_isSign {n : Nat} {S : gS} {R : gS × Bool} {i1 : Int32}  (h : FX8_isSign S i1 = some R) : sCz 0 mX8_isSign n S [.ref (1), .int (i1)] (fun S2 x2 => S2 = R.1 ∧ x2 = R.2) := by
  unfold FX8_isSign at h
  refine gCz_of (by decide) (Nat.le_of_ble_eq_true rfl) rfl rfl (zX8_isSign_0  ?_)
  refine ⟨fun c => ?_, fun c => ?_⟩
  · have h := g_in c h
    cases h; exact ⟨rfl, rfl⟩
  · have h := g_ip c h
    refine ⟨fun c => ?_, fun c => ?_⟩
    · have h := g_ip c h
      cases h; exact ⟨rfl, rfl⟩
    · have h := g_in c h
      obtain ⟨hv1, h⟩ := g_vs h
      refine ⟨hv1, ?_⟩
      refine ⟨fun c => ?_, fun c => ?_⟩
      · have h := g_in c h
        cases h; exact ⟨rfl, rfl⟩
      · have h := g_ip c h
        cases h; exact ⟨rfl, rfl⟩

noncomputable def bX8_isWord_39  (rec : Nat → gS → UInt32 → Int32 → Option (gS × Bool)) (S : gS) (t1 : UInt32) (i2 : Int32) : Option (gS × Bool) := g_b2 (FJ0_length_8abf5 S (t1)) (fun S1 x2 => if x2 ≤ i2 then (some (S1, true)) else (if g_vp (((sI S1 (1) 3) + i2)) 1000 = true then (g_b2 (FJ0_charAt_5068e S1 (t1) (i2)) (fun S4 x5 => if (sR S1 (2) (Int32.toNatClampNeg (((sI S1 (1) 3) + i2)))) = x5 then (rec 39 S4 (t1) ((i2 + 1))) else (some (S4, false)))) else none))
noncomputable def fX8_isWord  : Nat → Nat → gS → UInt32 → Int32 → Option (gS × Bool)
  | 0 => fun _ _ _ _ => none
  | k + 1 => fun pc S t1 i2 => if pc = 39 then bX8_isWord_39  (fX8_isWord  k) S t1 i2 else none
noncomputable def FX8_isWord (S : gS) (t1 : UInt32) : Option (gS × Bool) := if (sI S (1) 2) = (2 : Int32) then (g_b2 (FJ0_length_8abf5 S (t1)) (fun S1 x2 => if ((sI S (1) 4) - (sI S (1) 3)) = x2 then (if (sI S1 (1) 4) ≤ (sI S1 (1) 1) then (fX8_isWord  FU 39 S1 (t1) ((0 : Int32))) else (some (S1, false))) else (some (S1, false)))) else (some (S, false))
set_option maxRecDepth 100000 in
theorem lX8_isWord  {n : Nat} {R : gS × Bool} : ∀ k : Nat, (∀ (S : gS) (t1 : UInt32) (i2 : Int32) (ht1 : (t1).toNat < 45), fX8_isWord  k 39 S t1 i2 = some R → gG 4 mX8_isWord 0 0 (g_Xz mX8_isWord n 0 0 (hPz (fun S2 x2 => S2 = R.1 ∧ x2 = R.2))) 39 n (hH S) [some (.ref (1)), some (.float (t1)), some (.int (i2))] [] 0 0) := by
  intro k
  induction k with
  | zero => exact fun _ _ _ _ h => (by cases h)
  | succ k ih =>
    have hrec_39 := ih
    · intro S t1 i2 ht1 h
      rw [fX8_isWord] at h
      have h := g_ip rfl h
      unfold bX8_isWord_39 at h
      refine zX8_isWord_39 ht1 ?_
      obtain ⟨S1, x2, hc, h⟩ := g_b2s h
      refine ⟨1, _, (by decide), CJ0_length_8abf5 ht1 hc, ?_⟩
      rintro _ _ ⟨rfl, rfl⟩
      refine ⟨fun c => ?_, fun c => ?_⟩
      · have h := g_ip c h
        cases h; exact ⟨rfl, rfl⟩
      · have h := g_in c h
        obtain ⟨hv3, h⟩ := g_vs h
        refine ⟨hv3, ?_⟩
        obtain ⟨S4, x5, hc, h⟩ := g_b2s h
        refine ⟨3, _, (by decide), CJ0_charAt_5068e ht1 hc, ?_⟩
        rintro _ _ ⟨rfl, rfl⟩
        refine ⟨fun c => ?_, fun c => ?_⟩
        · have h := g_ip c h
          exact hrec_39 _ _ _ ht1 h
        · have h := g_in c h
          cases h; exact ⟨rfl, rfl⟩
theorem CX8_isWord {n : Nat} {S : gS} {R : gS × Bool} {t1 : UInt32} (ht1 : (t1).toNat < 45) (h : FX8_isWord S t1 = some R) : sCz 4 mX8_isWord n S [.ref (1), .float (t1)] (fun S2 x2 => S2 = R.1 ∧ x2 = R.2) := by
  unfold FX8_isWord at h
  refine gCz_of (by decide) (Nat.le_of_ble_eq_true rfl) rfl rfl (zX8_isWord_0 ht1 ?_)
  refine ⟨fun c => ?_, fun c => ?_⟩
  · have h := g_in c h
    cases h; exact ⟨rfl, rfl⟩
  · have h := g_ip c h
    obtain ⟨S1, x2, hc, h⟩ := g_b2s h
    refine ⟨1, _, (by decide), CJ0_length_8abf5 ht1 hc, ?_⟩
    rintro _ _ ⟨rfl, rfl⟩
    refine ⟨fun c => ?_, fun c => ?_⟩
    · have h := g_in c h
      cases h; exact ⟨rfl, rfl⟩
    · have h := g_ip c h
      refine ⟨fun c => ?_, fun c => ?_⟩
      · have h := g_ip c h
        exact (lX8_isWord FU) _ _ _ ht1 h
      · have h := g_in c h
        cases h; exact ⟨rfl, rfl⟩

noncomputable def FX8_isName (S : gS)  : Option (gS × Bool) := if (sI S (1) 2) = (2 : Int32) then (g_b2 (FX8_isWord S (2)) (fun S1 b2 => if b2 = true then (some (S1, false)) else (g_b2 (FX8_isWord S1 (3)) (fun S3 b4 => if b4 = true then (some (S3, false)) else (g_b2 (FX8_isWord S3 (4)) (fun S5 b6 => if b6 = true then (some (S5, false)) else (g_b2 (FX8_isWord S5 (5)) (fun S7 b8 => if b8 = true then (some (S7, false)) else (g_b2 (FX8_isWord S7 (6)) (fun S9 b10 => if b10 = true then (some (S9, false)) else (g_b2 (FX8_isWord S9 (7)) (fun S11 b12 => if b12 = true then (some (S11, false)) else (g_b2 (FX8_isWord S11 (8)) (fun S13 b14 => if b14 = true then (some (S13, false)) else (g_b2 (FX8_isWord S13 (9)) (fun S15 b16 => if b16 = true then (some (S15, false)) else (g_b2 (FX8_isWord S15 (10)) (fun S17 b18 => if b18 = true then (some (S17, false)) else (g_b2 (FX8_isWord S17 (11)) (fun S19 b20 => if b20 = true then (some (S19, false)) else (g_b2 (FX8_isWord S19 (12)) (fun S21 b22 => if b22 = true then (some (S21, false)) else (g_b2 (FX8_isWord S21 (13)) (fun S23 b24 => if b24 = true then (some (S23, false)) else (g_b2 (FX8_isWord S23 (14)) (fun S25 b26 => if b26 = true then (some (S25, false)) else (g_b2 (FX8_isWord S25 (15)) (fun S27 b28 => if b28 = true then (some (S27, false)) else (g_b2 (FX8_isWord S27 (16)) (fun S29 b30 => if b30 = true then (some (S29, false)) else (g_b2 (FX8_isWord S29 (17)) (fun S31 b32 => if b32 = true then (some (S31, false)) else (g_b2 (FX8_isWord S31 (18)) (fun S33 b34 => if b34 = true then (some (S33, false)) else (g_b2 (FX8_isWord S33 (19)) (fun S35 b36 => if b36 = true then (some (S35, false)) else (g_b2 (FX8_isWord S35 (20)) (fun S37 b38 => if b38 = true then (some (S37, false)) else (g_b2 (FX8_isWord S37 (21)) (fun S39 b40 => if b40 = true then (some (S39, false)) else (some (S39, true)))))))))))))))))))))))))))))))))))))))))) else (some (S, false))
theorem CX8_isName {n : Nat} {S : gS} {R : gS × Bool}   (h : FX8_isName S  = some R) : sCz 5 mX8_isName n S [.ref (1)] (fun S2 x2 => S2 = R.1 ∧ x2 = R.2) := by
  unfold FX8_isName at h
  refine gCz_of (by decide) (Nat.le_of_ble_eq_true rfl) rfl rfl (zX8_isName_0  ?_)
  refine ⟨fun c => ?_, fun c => ?_⟩
  · have h := g_in c h
    cases h; exact ⟨rfl, rfl⟩
  · have h := g_ip c h
    obtain ⟨S1, b2, hc, h⟩ := g_b2s h
    refine ⟨4, _, (by decide), CX8_isWord (by decide) hc, ?_⟩
    rintro _ _ ⟨rfl, rfl⟩
    refine ⟨fun c => ?_, fun c => ?_⟩
    · have h := g_bt c h
      cases h; exact ⟨rfl, rfl⟩
    · have h := g_bf c h
      obtain ⟨S3, b4, hc, h⟩ := g_b2s h
      refine ⟨4, _, (by decide), CX8_isWord (by decide) hc, ?_⟩
      rintro _ _ ⟨rfl, rfl⟩
      refine ⟨fun c => ?_, fun c => ?_⟩
      · have h := g_bt c h
        cases h; exact ⟨rfl, rfl⟩
      · have h := g_bf c h
        obtain ⟨S5, b6, hc, h⟩ := g_b2s h
        refine ⟨4, _, (by decide), CX8_isWord (by decide) hc, ?_⟩
        rintro _ _ ⟨rfl, rfl⟩
        refine ⟨fun c => ?_, fun c => ?_⟩
        · have h := g_bt c h
          cases h; exact ⟨rfl, rfl⟩
        · have h := g_bf c h
          obtain ⟨S7, b8, hc, h⟩ := g_b2s h
          refine ⟨4, _, (by decide), CX8_isWord (by decide) hc, ?_⟩
          rintro _ _ ⟨rfl, rfl⟩
          refine ⟨fun c => ?_, fun c => ?_⟩
          · have h := g_bt c h
            cases h; exact ⟨rfl, rfl⟩
          · have h := g_bf c h
            obtain ⟨S9, b10, hc, h⟩ := g_b2s h
            refine ⟨4, _, (by decide), CX8_isWord (by decide) hc, ?_⟩
            rintro _ _ ⟨rfl, rfl⟩
            refine ⟨fun c => ?_, fun c => ?_⟩
            · have h := g_bt c h
              cases h; exact ⟨rfl, rfl⟩
            · have h := g_bf c h
              obtain ⟨S11, b12, hc, h⟩ := g_b2s h
              refine ⟨4, _, (by decide), CX8_isWord (by decide) hc, ?_⟩
              rintro _ _ ⟨rfl, rfl⟩
              refine ⟨fun c => ?_, fun c => ?_⟩
              · have h := g_bt c h
                cases h; exact ⟨rfl, rfl⟩
              · have h := g_bf c h
                obtain ⟨S13, b14, hc, h⟩ := g_b2s h
                refine ⟨4, _, (by decide), CX8_isWord (by decide) hc, ?_⟩
                rintro _ _ ⟨rfl, rfl⟩
                refine ⟨fun c => ?_, fun c => ?_⟩
                · have h := g_bt c h
                  cases h; exact ⟨rfl, rfl⟩
                · have h := g_bf c h
                  obtain ⟨S15, b16, hc, h⟩ := g_b2s h
                  refine ⟨4, _, (by decide), CX8_isWord (by decide) hc, ?_⟩
                  rintro _ _ ⟨rfl, rfl⟩
                  refine ⟨fun c => ?_, fun c => ?_⟩
                  · have h := g_bt c h
                    cases h; exact ⟨rfl, rfl⟩
                  · have h := g_bf c h
                    obtain ⟨S17, b18, hc, h⟩ := g_b2s h
                    refine ⟨4, _, (by decide), CX8_isWord (by decide) hc, ?_⟩
                    rintro _ _ ⟨rfl, rfl⟩
                    refine ⟨fun c => ?_, fun c => ?_⟩
                    · have h := g_bt c h
                      cases h; exact ⟨rfl, rfl⟩
                    · have h := g_bf c h
                      obtain ⟨S19, b20, hc, h⟩ := g_b2s h
                      refine ⟨4, _, (by decide), CX8_isWord (by decide) hc, ?_⟩
                      rintro _ _ ⟨rfl, rfl⟩
                      refine ⟨fun c => ?_, fun c => ?_⟩
                      · have h := g_bt c h
                        cases h; exact ⟨rfl, rfl⟩
                      · have h := g_bf c h
                        obtain ⟨S21, b22, hc, h⟩ := g_b2s h
                        refine ⟨4, _, (by decide), CX8_isWord (by decide) hc, ?_⟩
                        rintro _ _ ⟨rfl, rfl⟩
                        refine ⟨fun c => ?_, fun c => ?_⟩
                        · have h := g_bt c h
                          cases h; exact ⟨rfl, rfl⟩
                        · have h := g_bf c h
                          obtain ⟨S23, b24, hc, h⟩ := g_b2s h
                          refine ⟨4, _, (by decide), CX8_isWord (by decide) hc, ?_⟩
                          rintro _ _ ⟨rfl, rfl⟩
                          refine ⟨fun c => ?_, fun c => ?_⟩
                          · have h := g_bt c h
                            cases h; exact ⟨rfl, rfl⟩
                          · have h := g_bf c h
                            obtain ⟨S25, b26, hc, h⟩ := g_b2s h
                            refine ⟨4, _, (by decide), CX8_isWord (by decide) hc, ?_⟩
                            rintro _ _ ⟨rfl, rfl⟩
                            refine ⟨fun c => ?_, fun c => ?_⟩
                            · have h := g_bt c h
                              cases h; exact ⟨rfl, rfl⟩
                            · have h := g_bf c h
                              obtain ⟨S27, b28, hc, h⟩ := g_b2s h
                              refine ⟨4, _, (by decide), CX8_isWord (by decide) hc, ?_⟩
                              rintro _ _ ⟨rfl, rfl⟩
                              refine ⟨fun c => ?_, fun c => ?_⟩
                              · have h := g_bt c h
                                cases h; exact ⟨rfl, rfl⟩
                              · have h := g_bf c h
                                obtain ⟨S29, b30, hc, h⟩ := g_b2s h
                                refine ⟨4, _, (by decide), CX8_isWord (by decide) hc, ?_⟩
                                rintro _ _ ⟨rfl, rfl⟩
                                refine ⟨fun c => ?_, fun c => ?_⟩
                                · have h := g_bt c h
                                  cases h; exact ⟨rfl, rfl⟩
                                · have h := g_bf c h
                                  obtain ⟨S31, b32, hc, h⟩ := g_b2s h
                                  refine ⟨4, _, (by decide), CX8_isWord (by decide) hc, ?_⟩
                                  rintro _ _ ⟨rfl, rfl⟩
                                  refine ⟨fun c => ?_, fun c => ?_⟩
                                  · have h := g_bt c h
                                    cases h; exact ⟨rfl, rfl⟩
                                  · have h := g_bf c h
                                    obtain ⟨S33, b34, hc, h⟩ := g_b2s h
                                    refine ⟨4, _, (by decide), CX8_isWord (by decide) hc, ?_⟩
                                    rintro _ _ ⟨rfl, rfl⟩
                                    refine ⟨fun c => ?_, fun c => ?_⟩
                                    · have h := g_bt c h
                                      cases h; exact ⟨rfl, rfl⟩
                                    · have h := g_bf c h
                                      obtain ⟨S35, b36, hc, h⟩ := g_b2s h
                                      refine ⟨4, _, (by decide), CX8_isWord (by decide) hc, ?_⟩
                                      rintro _ _ ⟨rfl, rfl⟩
                                      refine ⟨fun c => ?_, fun c => ?_⟩
                                      · have h := g_bt c h
                                        cases h; exact ⟨rfl, rfl⟩
                                      · have h := g_bf c h
                                        obtain ⟨S37, b38, hc, h⟩ := g_b2s h
                                        refine ⟨4, _, (by decide), CX8_isWord (by decide) hc, ?_⟩
                                        rintro _ _ ⟨rfl, rfl⟩
                                        refine ⟨fun c => ?_, fun c => ?_⟩
                                        · have h := g_bt c h
                                          cases h; exact ⟨rfl, rfl⟩
                                        · have h := g_bf c h
                                          obtain ⟨S39, b40, hc, h⟩ := g_b2s h
                                          refine ⟨4, _, (by decide), CX8_isWord (by decide) hc, ?_⟩
                                          rintro _ _ ⟨rfl, rfl⟩
                                          refine ⟨fun c => ?_, fun c => ?_⟩
                                          · have h := g_bt c h
                                            cases h; exact ⟨rfl, rfl⟩
                                          · have h := g_bf c h
                                            cases h; exact ⟨rfl, rfl⟩

noncomputable def FX8_mouthHere (S : gS) (a1 : Nat) : Option (gS × Int32) := g_b2 (FX8_isName S ) (fun S1 b2 => if b2 = true then (g_b2 (FX1_mouthNamed S1 (a1) ((sJ S1 (1) 5))) (fun S3 x4 => if x4 = (-1 : Int32) then (g_b2 (FX8_fail S3 ((2 : Int32))) (fun S5 b6 => some (S5, x4))) else (some (S3, x4)))) else (g_b2 (FX8_fail S1 ((1 : Int32))) (fun S7 b8 => some (S7, (-1 : Int32)))))
theorem CX8_mouthHere {n : Nat} {S : gS} {R : gS × Int32} {a1 : Nat} (hs1 : isF a1) (h : FX8_mouthHere S a1 = some R) : sCi 6 mX8_mouthHere n S [.ref (1), .ref (a1)] (fun S2 x2 => S2 = R.1 ∧ x2 = R.2) := by
  unfold FX8_mouthHere at h
  refine gCj_of (by decide) (Nat.le_of_ble_eq_true rfl) rfl rfl (zX8_mouthHere_0 hs1 ?_)
  obtain ⟨S1, b2, hc, h⟩ := g_b2s h
  refine ⟨5, _, (by decide), CX8_isName  hc, ?_⟩
  rintro _ _ ⟨rfl, rfl⟩
  refine ⟨fun c => ?_, fun c => ?_⟩
  · have h := g_bt c h
    obtain ⟨S3, x4, hc, h⟩ := g_b2s h
    refine ⟨0, _, (by decide), CX1_mouthNamed hs1 hc, ?_⟩
    rintro _ _ ⟨rfl, rfl⟩
    refine ⟨fun c => ?_, fun c => ?_⟩
    · have h := g_in c h
      cases h; exact ⟨rfl, rfl⟩
    · have h := g_ip c h
      obtain ⟨S5, b6, hc, h⟩ := g_b2s h
      refine ⟨0, _, (by decide), CX8_fail  hc, ?_⟩
      rintro _ _ ⟨rfl, rfl⟩
      cases h; exact ⟨rfl, rfl⟩
  · have h := g_bf c h
    obtain ⟨S7, b8, hc, h⟩ := g_b2s h
    refine ⟨0, _, (by decide), CX8_fail  hc, ?_⟩
    rintro _ _ ⟨rfl, rfl⟩
    cases h; exact ⟨rfl, rfl⟩

noncomputable def FX2_isNewName (S : gS) (a1 : Nat) : Option (gS × Bool) := g_b2 (FX8_isName S ) (fun S1 b2 => if b2 = true then (g_b2 (FX1_isTold S1 (a1) ((sJ S1 (1) 5))) (fun S3 b4 => if b4 = true then (g_b2 (FX8_fail S3 ((3 : Int32))) (fun S5 b6 => if b6 = true then (some (S5, true)) else (some (S5, false)))) else (some (S3, true)))) else (g_b2 (FX8_fail S1 ((1 : Int32))) (fun S7 b8 => some (S7, b8))))
theorem CX2_isNewName {n : Nat} {S : gS} {R : gS × Bool} {a1 : Nat} (hs1 : isF a1) (h : FX2_isNewName S a1 = some R) : sCz 6 mX2_isNewName n S [.ref (3), .ref (a1)] (fun S2 x2 => S2 = R.1 ∧ x2 = R.2) := by
  unfold FX2_isNewName at h
  refine gCz_of (by decide) (Nat.le_of_ble_eq_true rfl) rfl rfl (zX2_isNewName_0 hs1 ?_)
  obtain ⟨S1, b2, hc, h⟩ := g_b2s h
  refine ⟨5, _, (by decide), CX8_isName  hc, ?_⟩
  rintro _ _ ⟨rfl, rfl⟩
  refine ⟨fun c => ?_, fun c => ?_⟩
  · have h := g_bt c h
    obtain ⟨S3, b4, hc, h⟩ := g_b2s h
    refine ⟨1, _, (by decide), CX1_isTold hs1 hc, ?_⟩
    rintro _ _ ⟨rfl, rfl⟩
    refine ⟨fun c => ?_, fun c => ?_⟩
    · have h := g_bf c h
      cases h; exact ⟨rfl, rfl⟩
    · have h := g_bt c h
      obtain ⟨S5, b6, hc, h⟩ := g_b2s h
      refine ⟨0, _, (by decide), CX8_fail  hc, ?_⟩
      rintro _ _ ⟨rfl, rfl⟩
      refine ⟨fun c => ?_, fun c => ?_⟩
      · have h := g_bf c h
        cases h; exact ⟨rfl, rfl⟩
      · have h := g_bt c h
        cases h; exact ⟨rfl, rfl⟩
  · have h := g_bf c h
    obtain ⟨S7, b8, hc, h⟩ := g_b2s h
    refine ⟨0, _, (by decide), CX8_fail  hc, ?_⟩
    rintro _ _ ⟨rfl, rfl⟩
    cases h; exact ⟨rfl, rfl⟩

noncomputable def FX2_kindHere (S : gS)  : Option (gS × Int32) := g_b2 (FX8_isWord S (22)) (fun S1 b2 => if b2 = true then (some (S1, (0 : Int32))) else (g_b2 (FX8_isWord S1 (23)) (fun S3 b4 => if b4 = true then (some (S3, (1 : Int32))) else (g_b2 (FX8_isWord S3 (24)) (fun S5 b6 => if b6 = true then (some (S5, (2 : Int32))) else (g_b2 (FX8_isWord S5 (25)) (fun S7 b8 => if b8 = true then (some (S7, (3 : Int32))) else (some (S7, (-1 : Int32))))))))))
theorem CX2_kindHere {n : Nat} {S : gS} {R : gS × Int32}   (h : FX2_kindHere S  = some R) : sCi 5 mX2_kindHere n S [.ref (3)] (fun S2 x2 => S2 = R.1 ∧ x2 = R.2) := by
  unfold FX2_kindHere at h
  refine gCj_of (by decide) (Nat.le_of_ble_eq_true rfl) rfl rfl (zX2_kindHere_0  ?_)
  obtain ⟨S1, b2, hc, h⟩ := g_b2s h
  refine ⟨4, _, (by decide), CX8_isWord (by decide) hc, ?_⟩
  rintro _ _ ⟨rfl, rfl⟩
  refine ⟨fun c => ?_, fun c => ?_⟩
  · have h := g_bf c h
    obtain ⟨S3, b4, hc, h⟩ := g_b2s h
    refine ⟨4, _, (by decide), CX8_isWord (by decide) hc, ?_⟩
    rintro _ _ ⟨rfl, rfl⟩
    refine ⟨fun c => ?_, fun c => ?_⟩
    · have h := g_bf c h
      obtain ⟨S5, b6, hc, h⟩ := g_b2s h
      refine ⟨4, _, (by decide), CX8_isWord (by decide) hc, ?_⟩
      rintro _ _ ⟨rfl, rfl⟩
      refine ⟨fun c => ?_, fun c => ?_⟩
      · have h := g_bf c h
        obtain ⟨S7, b8, hc, h⟩ := g_b2s h
        refine ⟨4, _, (by decide), CX8_isWord (by decide) hc, ?_⟩
        rintro _ _ ⟨rfl, rfl⟩
        refine ⟨fun c => ?_, fun c => ?_⟩
        · have h := g_bf c h
          cases h; exact ⟨rfl, rfl⟩
        · have h := g_bt c h
          cases h; exact ⟨rfl, rfl⟩
      · have h := g_bt c h
        cases h; exact ⟨rfl, rfl⟩
    · have h := g_bt c h
      cases h; exact ⟨rfl, rfl⟩
  · have h := g_bt c h
    cases h; exact ⟨rfl, rfl⟩

noncomputable def FX4_factHere (S : gS)  : Option (gS × Int32) := g_b2 (FX8_isWord S (34)) (fun S1 b2 => if b2 = true then (some (S1, (-1 : Int32))) else (g_b2 (FX8_isWord S1 (35)) (fun S3 b4 => if b4 = true then (some (S3, (-2 : Int32))) else (g_b2 (FX8_isWord S3 (36)) (fun S5 b6 => if b6 = true then (some (S5, (-3 : Int32))) else (g_b2 (FX8_isWord S5 (37)) (fun S7 b8 => if b8 = true then (some (S7, (-4 : Int32))) else (some (S7, (0 : Int32))))))))))
theorem CX4_factHere {n : Nat} {S : gS} {R : gS × Int32}   (h : FX4_factHere S  = some R) : sCi 5 mX4_factHere n S [.ref (4)] (fun S2 x2 => S2 = R.1 ∧ x2 = R.2) := by
  unfold FX4_factHere at h
  refine gCj_of (by decide) (Nat.le_of_ble_eq_true rfl) rfl rfl (zX4_factHere_0  ?_)
  obtain ⟨S1, b2, hc, h⟩ := g_b2s h
  refine ⟨4, _, (by decide), CX8_isWord (by decide) hc, ?_⟩
  rintro _ _ ⟨rfl, rfl⟩
  refine ⟨fun c => ?_, fun c => ?_⟩
  · have h := g_bf c h
    obtain ⟨S3, b4, hc, h⟩ := g_b2s h
    refine ⟨4, _, (by decide), CX8_isWord (by decide) hc, ?_⟩
    rintro _ _ ⟨rfl, rfl⟩
    refine ⟨fun c => ?_, fun c => ?_⟩
    · have h := g_bf c h
      obtain ⟨S5, b6, hc, h⟩ := g_b2s h
      refine ⟨4, _, (by decide), CX8_isWord (by decide) hc, ?_⟩
      rintro _ _ ⟨rfl, rfl⟩
      refine ⟨fun c => ?_, fun c => ?_⟩
      · have h := g_bf c h
        obtain ⟨S7, b8, hc, h⟩ := g_b2s h
        refine ⟨4, _, (by decide), CX8_isWord (by decide) hc, ?_⟩
        rintro _ _ ⟨rfl, rfl⟩
        refine ⟨fun c => ?_, fun c => ?_⟩
        · have h := g_bf c h
          cases h; exact ⟨rfl, rfl⟩
        · have h := g_bt c h
          cases h; exact ⟨rfl, rfl⟩
      · have h := g_bt c h
        cases h; exact ⟨rfl, rfl⟩
    · have h := g_bt c h
      cases h; exact ⟨rfl, rfl⟩
  · have h := g_bt c h
    cases h; exact ⟨rfl, rfl⟩

noncomputable def FX4_joinHere (S : gS) (i1 : Int32) : Option (gS × Int32) := if i1 = 0 then (g_b2 (FX8_isWord S (39)) (fun S3 b4 => if b4 = true then (some (S3, (-6 : Int32))) else (g_b2 (FX8_isWord S3 (40)) (fun S5 b6 => if b6 = true then (some (S5, (-7 : Int32))) else (some (S5, (0 : Int32))))))) else (if i1 = 1 then (g_b2 (FX8_isSign S ((60 : Int32))) (fun S7 b8 => if b8 = true then (some (S7, (-8 : Int32))) else (g_b2 (FX8_isSign S7 ((61 : Int32))) (fun S9 b10 => if b10 = true then (some (S9, (-9 : Int32))) else (some (S9, (0 : Int32))))))) else (if i1 = 2 then (g_b2 (FX8_isSign S ((43 : Int32))) (fun S11 b12 => if b12 = true then (some (S11, (-10 : Int32))) else (g_b2 (FX8_isSign S11 ((45 : Int32))) (fun S13 b14 => if b14 = true then (some (S13, (-11 : Int32))) else (some (S13, (0 : Int32))))))) else (g_b2 (FX8_isSign S ((42 : Int32))) (fun S1 b2 => if b2 = true then (some (S1, (-12 : Int32))) else (some (S1, (0 : Int32)))))))
theorem CX4_joinHere {n : Nat} {S : gS} {R : gS × Int32} {i1 : Int32}  (h : FX4_joinHere S i1 = some R) : sCi 5 mX4_joinHere n S [.ref (4), .int (i1)] (fun S2 x2 => S2 = R.1 ∧ x2 = R.2) := by
  unfold FX4_joinHere at h
  refine gCj_of (by decide) (Nat.le_of_ble_eq_true rfl) rfl rfl (zX4_joinHere_0  ?_)
  refine ⟨fun c => ?_, fun c => ?_, fun c => ?_, fun c => ?_⟩
  · have h := g_in (fun z => by rw [z] at c; exact absurd c (by decide)) h; have h := g_in (fun z => by rw [z] at c; exact absurd c (by decide)) h; have h := g_in (fun z => by rw [z] at c; exact absurd c (by decide)) h
    obtain ⟨S1, b2, hc, h⟩ := g_b2s h
    refine ⟨0, _, (by decide), CX8_isSign  hc, ?_⟩
    rintro _ _ ⟨rfl, rfl⟩
    refine ⟨fun c => ?_, fun c => ?_⟩
    · have h := g_bf c h
      cases h; exact ⟨rfl, rfl⟩
    · have h := g_bt c h
      cases h; exact ⟨rfl, rfl⟩
  · have h := g_ip c h
    obtain ⟨S3, b4, hc, h⟩ := g_b2s h
    refine ⟨4, _, (by decide), CX8_isWord (by decide) hc, ?_⟩
    rintro _ _ ⟨rfl, rfl⟩
    refine ⟨fun c => ?_, fun c => ?_⟩
    · have h := g_bf c h
      obtain ⟨S5, b6, hc, h⟩ := g_b2s h
      refine ⟨4, _, (by decide), CX8_isWord (by decide) hc, ?_⟩
      rintro _ _ ⟨rfl, rfl⟩
      refine ⟨fun c => ?_, fun c => ?_⟩
      · have h := g_bf c h
        cases h; exact ⟨rfl, rfl⟩
      · have h := g_bt c h
        cases h; exact ⟨rfl, rfl⟩
    · have h := g_bt c h
      cases h; exact ⟨rfl, rfl⟩
  · have h := g_in (fun z => absurd (c.symm.trans z) (by decide)) h; have h := g_ip c h
    obtain ⟨S7, b8, hc, h⟩ := g_b2s h
    refine ⟨0, _, (by decide), CX8_isSign  hc, ?_⟩
    rintro _ _ ⟨rfl, rfl⟩
    refine ⟨fun c => ?_, fun c => ?_⟩
    · have h := g_bf c h
      obtain ⟨S9, b10, hc, h⟩ := g_b2s h
      refine ⟨0, _, (by decide), CX8_isSign  hc, ?_⟩
      rintro _ _ ⟨rfl, rfl⟩
      refine ⟨fun c => ?_, fun c => ?_⟩
      · have h := g_bf c h
        cases h; exact ⟨rfl, rfl⟩
      · have h := g_bt c h
        cases h; exact ⟨rfl, rfl⟩
    · have h := g_bt c h
      cases h; exact ⟨rfl, rfl⟩
  · have h := g_in (fun z => absurd (c.symm.trans z) (by decide)) h; have h := g_in (fun z => absurd (c.symm.trans z) (by decide)) h; have h := g_ip c h
    obtain ⟨S11, b12, hc, h⟩ := g_b2s h
    refine ⟨0, _, (by decide), CX8_isSign  hc, ?_⟩
    rintro _ _ ⟨rfl, rfl⟩
    refine ⟨fun c => ?_, fun c => ?_⟩
    · have h := g_bf c h
      obtain ⟨S13, b14, hc, h⟩ := g_b2s h
      refine ⟨0, _, (by decide), CX8_isSign  hc, ?_⟩
      rintro _ _ ⟨rfl, rfl⟩
      refine ⟨fun c => ?_, fun c => ?_⟩
      · have h := g_bf c h
        cases h; exact ⟨rfl, rfl⟩
      · have h := g_bt c h
        cases h; exact ⟨rfl, rfl⟩
    · have h := g_bt c h
      cases h; exact ⟨rfl, rfl⟩

noncomputable def FX5_actHere (S : gS)  : Option (gS × Int32) := g_b2 (FX8_isWord S (41)) (fun S1 b2 => if b2 = true then (some (S1, (0 : Int32))) else (g_b2 (FX8_isWord S1 (42)) (fun S3 b4 => if b4 = true then (some (S3, (1 : Int32))) else (g_b2 (FX8_isWord S3 (43)) (fun S5 b6 => if b6 = true then (some (S5, (2 : Int32))) else (g_b2 (FX8_isWord S5 (44)) (fun S7 b8 => if b8 = true then (some (S7, (3 : Int32))) else (some (S7, (-1 : Int32))))))))))
theorem CX5_actHere {n : Nat} {S : gS} {R : gS × Int32}   (h : FX5_actHere S  = some R) : sCi 5 mX5_actHere n S [.ref (5)] (fun S2 x2 => S2 = R.1 ∧ x2 = R.2) := by
  unfold FX5_actHere at h
  refine gCj_of (by decide) (Nat.le_of_ble_eq_true rfl) rfl rfl (zX5_actHere_0  ?_)
  obtain ⟨S1, b2, hc, h⟩ := g_b2s h
  refine ⟨4, _, (by decide), CX8_isWord (by decide) hc, ?_⟩
  rintro _ _ ⟨rfl, rfl⟩
  refine ⟨fun c => ?_, fun c => ?_⟩
  · have h := g_bf c h
    obtain ⟨S3, b4, hc, h⟩ := g_b2s h
    refine ⟨4, _, (by decide), CX8_isWord (by decide) hc, ?_⟩
    rintro _ _ ⟨rfl, rfl⟩
    refine ⟨fun c => ?_, fun c => ?_⟩
    · have h := g_bf c h
      obtain ⟨S5, b6, hc, h⟩ := g_b2s h
      refine ⟨4, _, (by decide), CX8_isWord (by decide) hc, ?_⟩
      rintro _ _ ⟨rfl, rfl⟩
      refine ⟨fun c => ?_, fun c => ?_⟩
      · have h := g_bf c h
        obtain ⟨S7, b8, hc, h⟩ := g_b2s h
        refine ⟨4, _, (by decide), CX8_isWord (by decide) hc, ?_⟩
        rintro _ _ ⟨rfl, rfl⟩
        refine ⟨fun c => ?_, fun c => ?_⟩
        · have h := g_bf c h
          cases h; exact ⟨rfl, rfl⟩
        · have h := g_bt c h
          cases h; exact ⟨rfl, rfl⟩
      · have h := g_bt c h
        cases h; exact ⟨rfl, rfl⟩
    · have h := g_bt c h
      cases h; exact ⟨rfl, rfl⟩
  · have h := g_bt c h
    cases h; exact ⟨rfl, rfl⟩

noncomputable def bX8_advance_5  (rec : Nat → gS → Int32 → Int32 → Option (gS)) (S : gS) (i1 : Int32) (i2 : Int32) : Option (gS) := if (sI S (1) 1) ≤ i1 then (rec 41 S (i1) 0) else (if g_vp (i1) 1000 = true then (if (sR S (2) (Int32.toNatClampNeg (i1))) = (10 : Int32) then (rec 5 S ((i1 + 1)) 0) else (if (sR S (2) (Int32.toNatClampNeg (i1))) = (32 : Int32) then (rec 5 S ((i1 + 1)) 0) else (rec 41 S (i1) 0))) else none)
noncomputable def bX8_advance_41  (rec : Nat → gS → Int32 → Int32 → Option (gS)) (S : gS) (i1 : Int32) (i2 : Int32) : Option (gS) := g_lt (uI S (1) 3 (i1)) (fun S1 => g_lt (uI S1 (1) 4 (i1)) (fun S2 => if i1 < (sI S2 (1) 1) then (if g_vp (i1) 1000 = true then (if (sR S2 (2) (Int32.toNatClampNeg (i1))) < (97 : Int32) then (rec 91 S2 (i1) ((sR S2 (2) (Int32.toNatClampNeg (i1))))) else (if (122 : Int32) < (sR S2 (2) (Int32.toNatClampNeg (i1))) then (rec 91 S2 (i1) ((sR S2 (2) (Int32.toNatClampNeg (i1))))) else (g_b1 (FX8_scanWord S2 ) (fun S4 => some S4)))) else none) else (g_lt (uI S2 (1) 2 ((0 : Int32))) (fun S5 => some S5))))
noncomputable def bX8_advance_91  (rec : Nat → gS → Int32 → Int32 → Option (gS)) (S : gS) (i1 : Int32) (i2 : Int32) : Option (gS) := if i2 < (48 : Int32) then (rec 110 S (i1) (i2)) else (if (57 : Int32) < i2 then (rec 110 S (i1) (i2)) else (g_b1 (FX8_scanNumber S ) (fun S1 => some S1)))
noncomputable def bX8_advance_110  (rec : Nat → gS → Int32 → Int32 → Option (gS)) (S : gS) (i1 : Int32) (i2 : Int32) : Option (gS) := g_b2 (FJ0_indexOf_0f7a4 S (0) (i2)) (fun S1 x2 => if x2 < 0 then (g_lt (uI S1 (1) 2 ((1 : Int32))) (fun S3 => g_lt (uI S3 (1) 4 ((i1 + (1 : Int32)))) (fun S4 => some S4))) else (g_lt (uI S1 (1) 2 ((4 : Int32))) (fun S5 => g_lt (uI S5 (1) 4 ((i1 + (1 : Int32)))) (fun S6 => some S6))))
noncomputable def fX8_advance  : Nat → Nat → gS → Int32 → Int32 → Option (gS)
  | 0 => fun _ _ _ _ => none
  | k + 1 => fun pc S i1 i2 => if pc = 5 then bX8_advance_5  (fX8_advance  k) S i1 i2 else if pc = 41 then bX8_advance_41  (fX8_advance  k) S i1 i2 else if pc = 91 then bX8_advance_91  (fX8_advance  k) S i1 i2 else if pc = 110 then bX8_advance_110  (fX8_advance  k) S i1 i2 else none
noncomputable def FX8_advance (S : gS)  : Option (gS) := fX8_advance  FU 5 S ((sI S (1) 4)) 0
set_option maxRecDepth 100000 in
theorem lX8_advance  {n : Nat} {R : gS} : ∀ k : Nat, (∀ (S : gS) (i1 : Int32) (i2 : Int32) , fX8_advance  k 5 S i1 i2 = some R → gG 4 mX8_advance 0 0 (g_Xv mX8_advance n 0 0 (hPv (fun S2 => S2 = R))) 5 n (hH S) [some (.ref (1)), some (.int (i1)), none] [] 0 0) ∧ (∀ (S : gS) (i1 : Int32) (i2 : Int32) , fX8_advance  k 41 S i1 i2 = some R → gG 4 mX8_advance 0 0 (g_Xv mX8_advance n 0 0 (hPv (fun S2 => S2 = R))) 41 n (hH S) [some (.ref (1)), some (.int (i1)), none] [] 0 0) ∧ (∀ (S : gS) (i1 : Int32) (i2 : Int32) , fX8_advance  k 91 S i1 i2 = some R → gG 4 mX8_advance 0 0 (g_Xv mX8_advance n 0 0 (hPv (fun S2 => S2 = R))) 91 n (hH S) [some (.ref (1)), some (.int (i1)), some (.int (i2))] [] 0 0) ∧ (∀ (S : gS) (i1 : Int32) (i2 : Int32) , fX8_advance  k 110 S i1 i2 = some R → gG 4 mX8_advance 0 0 (g_Xv mX8_advance n 0 0 (hPv (fun S2 => S2 = R))) 110 n (hH S) [some (.ref (1)), some (.int (i1)), some (.int (i2))] [] 0 0) := by
  intro k
  induction k with
  | zero => exact ⟨fun _ _ _ h => (by cases h), fun _ _ _ h => (by cases h), fun _ _ _ h => (by cases h), fun _ _ _ h => (by cases h)⟩
  | succ k ih =>
    have hrec_5 := ih.1
    have hrec_41 := ih.2.1
    have hrec_91 := ih.2.2.1
    have hrec_110 := ih.2.2.2
    refine ⟨?_, ?_, ?_, ?_⟩
    · intro S i1 i2 h
      rw [fX8_advance] at h
      have h := g_ip rfl h
      unfold bX8_advance_5 at h
      refine zX8_advance_5  ?_
      refine ⟨fun c => ?_, fun c => ?_⟩
      · have h := g_ip c h
        exact hrec_41 _ _ _  h
      · have h := g_in c h
        obtain ⟨hv1, h⟩ := g_vs h
        refine ⟨hv1, ?_⟩
        refine ⟨fun c => ?_, fun c => ?_⟩
        · have h := g_ip c h
          exact hrec_5 _ _ _  h
        · have h := g_in c h
          refine ⟨fun c => ?_, fun c => ?_⟩
          · have h := g_in c h
            exact hrec_41 _ _ _  h
          · have h := g_ip c h
            exact hrec_5 _ _ _  h
    · intro S i1 i2 h
      rw [fX8_advance] at h
      have h := g_in (by decide) h
      have h := g_ip rfl h
      unfold bX8_advance_41 at h
      refine zX8_advance_41  ?_
      intro S1 eS
      have h := g_lts eS h
      intro S2 eS
      have h := g_lts eS h
      refine ⟨fun c => ?_, fun c => ?_⟩
      · have h := g_ip c h
        obtain ⟨hv3, h⟩ := g_vs h
        refine ⟨hv3, ?_⟩
        refine ⟨fun c => ?_, fun c => ?_⟩
        · have h := g_ip c h
          exact hrec_91 _ _ _  h
        · have h := g_in c h
          refine ⟨fun c => ?_, fun c => ?_⟩
          · have h := g_ip c h
            exact hrec_91 _ _ _  h
          · have h := g_in c h
            obtain ⟨S4, hc, h⟩ := g_b1s h
            refine ⟨0, _, (by decide), CX8_scanWord  hc, ?_⟩
            rintro _ rfl
            cases h; exact rfl
      · have h := g_in c h
        intro S5 eS
        have h := g_lts eS h
        cases h; exact rfl
    · intro S i1 i2 h
      rw [fX8_advance] at h
      have h := g_in (by decide) h
      have h := g_in (by decide) h
      have h := g_ip rfl h
      unfold bX8_advance_91 at h
      refine zX8_advance_91  ?_
      refine ⟨fun c => ?_, fun c => ?_⟩
      · have h := g_ip c h
        exact hrec_110 _ _ _  h
      · have h := g_in c h
        refine ⟨fun c => ?_, fun c => ?_⟩
        · have h := g_ip c h
          exact hrec_110 _ _ _  h
        · have h := g_in c h
          obtain ⟨S1, hc, h⟩ := g_b1s h
          refine ⟨0, _, (by decide), CX8_scanNumber  hc, ?_⟩
          rintro _ rfl
          cases h; exact rfl
    · intro S i1 i2 h
      rw [fX8_advance] at h
      have h := g_in (by decide) h
      have h := g_in (by decide) h
      have h := g_in (by decide) h
      have h := g_ip rfl h
      unfold bX8_advance_110 at h
      refine zX8_advance_110  ?_
      obtain ⟨S1, x2, hc, h⟩ := g_b2s h
      refine ⟨3, _, (by decide), CJ0_indexOf_0f7a4 (by decide) hc, ?_⟩
      rintro _ _ ⟨rfl, rfl⟩
      refine ⟨fun c => ?_, fun c => ?_⟩
      · have h := g_ip c h
        intro S3 eS
        have h := g_lts eS h
        intro S4 eS
        have h := g_lts eS h
        cases h; exact rfl
      · have h := g_in c h
        intro S5 eS
        have h := g_lts eS h
        intro S6 eS
        have h := g_lts eS h
        cases h; exact rfl
theorem CX8_advance {n : Nat} {S : gS} {R : gS}   (h : FX8_advance S  = some R) : sCv 4 mX8_advance n S [.ref (1)] (fun S2 => S2 = R) := by
  unfold FX8_advance at h
  refine gCv_of (by decide) (Nat.le_of_ble_eq_true rfl) rfl rfl (zX8_advance_0  ?_)
  exact (lX8_advance FU).1 _ _ _  h

noncomputable def FX8_takeWord (S : gS) (t1 : UInt32) : Option (gS × Bool) := g_b2 (FX8_isWord S (t1)) (fun S1 b2 => if b2 = true then (g_b1 (FX8_advance S1 ) (fun S3 => some (S3, true))) else (g_b2 (FX8_fail S1 ((1 : Int32))) (fun S4 b5 => some (S4, b5))))
theorem CX8_takeWord {n : Nat} {S : gS} {R : gS × Bool} {t1 : UInt32} (ht1 : (t1).toNat < 45) (h : FX8_takeWord S t1 = some R) : sCz 5 mX8_takeWord n S [.ref (1), .float (t1)] (fun S2 x2 => S2 = R.1 ∧ x2 = R.2) := by
  unfold FX8_takeWord at h
  refine gCz_of (by decide) (Nat.le_of_ble_eq_true rfl) rfl rfl (zX8_takeWord_0 ht1 ?_)
  obtain ⟨S1, b2, hc, h⟩ := g_b2s h
  refine ⟨4, _, (by decide), CX8_isWord ht1 hc, ?_⟩
  rintro _ _ ⟨rfl, rfl⟩
  refine ⟨fun c => ?_, fun c => ?_⟩
  · have h := g_bt c h
    obtain ⟨S3, hc, h⟩ := g_b1s h
    refine ⟨4, _, (by decide), CX8_advance  hc, ?_⟩
    rintro _ rfl
    cases h; exact ⟨rfl, rfl⟩
  · have h := g_bf c h
    obtain ⟨S4, b5, hc, h⟩ := g_b2s h
    refine ⟨0, _, (by decide), CX8_fail  hc, ?_⟩
    rintro _ _ ⟨rfl, rfl⟩
    cases h; exact ⟨rfl, rfl⟩

noncomputable def FX8_takeSign (S : gS) (i1 : Int32) : Option (gS × Bool) := g_b2 (FX8_isSign S (i1)) (fun S1 b2 => if b2 = true then (g_b1 (FX8_advance S1 ) (fun S3 => some (S3, true))) else (g_b2 (FX8_fail S1 ((1 : Int32))) (fun S4 b5 => some (S4, b5))))
theorem CX8_takeSign {n : Nat} {S : gS} {R : gS × Bool} {i1 : Int32}  (h : FX8_takeSign S i1 = some R) : sCz 5 mX8_takeSign n S [.ref (1), .int (i1)] (fun S2 x2 => S2 = R.1 ∧ x2 = R.2) := by
  unfold FX8_takeSign at h
  refine gCz_of (by decide) (Nat.le_of_ble_eq_true rfl) rfl rfl (zX8_takeSign_0  ?_)
  obtain ⟨S1, b2, hc, h⟩ := g_b2s h
  refine ⟨0, _, (by decide), CX8_isSign  hc, ?_⟩
  rintro _ _ ⟨rfl, rfl⟩
  refine ⟨fun c => ?_, fun c => ?_⟩
  · have h := g_bt c h
    obtain ⟨S3, hc, h⟩ := g_b1s h
    refine ⟨4, _, (by decide), CX8_advance  hc, ?_⟩
    rintro _ rfl
    cases h; exact ⟨rfl, rfl⟩
  · have h := g_bf c h
    obtain ⟨S4, b5, hc, h⟩ := g_b2s h
    refine ⟨0, _, (by decide), CX8_fail  hc, ?_⟩
    rintro _ _ ⟨rfl, rfl⟩
    cases h; exact ⟨rfl, rfl⟩

noncomputable def FX8_takeNumber (S : gS) (i1 : Int32) (i2 : Int32) : Option (gS × Int32) := if (sI S (1) 2) = (3 : Int32) then (if (sI S (1) 6) < i1 then (g_b2 (FX8_fail S ((4 : Int32))) (fun S1 b2 => some (S1, (-1 : Int32)))) else (if (sI S (1) 6) ≤ i2 then (g_b1 (FX8_advance S ) (fun S3 => some (S3, (sI S (1) 6)))) else (g_b2 (FX8_fail S ((4 : Int32))) (fun S4 b5 => some (S4, (-1 : Int32)))))) else (g_b2 (FX8_fail S ((1 : Int32))) (fun S6 b7 => some (S6, (-1 : Int32))))
theorem CX8_takeNumber {n : Nat} {S : gS} {R : gS × Int32} {i1 : Int32} {i2 : Int32}  (h : FX8_takeNumber S i1 i2 = some R) : sCi 5 mX8_takeNumber n S [.ref (1), .int (i1), .int (i2)] (fun S2 x2 => S2 = R.1 ∧ x2 = R.2) := by
  unfold FX8_takeNumber at h
  refine gCj_of (by decide) (Nat.le_of_ble_eq_true rfl) rfl rfl (zX8_takeNumber_0  ?_)
  refine ⟨fun c => ?_, fun c => ?_⟩
  · have h := g_ip c h
    refine ⟨fun c => ?_, fun c => ?_⟩
    · have h := g_ip c h
      obtain ⟨S1, b2, hc, h⟩ := g_b2s h
      refine ⟨0, _, (by decide), CX8_fail  hc, ?_⟩
      rintro _ _ ⟨rfl, rfl⟩
      cases h; exact ⟨rfl, rfl⟩
    · have h := g_in c h
      refine ⟨fun c => ?_, fun c => ?_⟩
      · have h := g_ip c h
        obtain ⟨S3, hc, h⟩ := g_b1s h
        refine ⟨4, _, (by decide), CX8_advance  hc, ?_⟩
        rintro _ rfl
        cases h; exact ⟨rfl, rfl⟩
      · have h := g_in c h
        obtain ⟨S4, b5, hc, h⟩ := g_b2s h
        refine ⟨0, _, (by decide), CX8_fail  hc, ?_⟩
        rintro _ _ ⟨rfl, rfl⟩
        cases h; exact ⟨rfl, rfl⟩
  · have h := g_in c h
    obtain ⟨S6, b7, hc, h⟩ := g_b2s h
    refine ⟨0, _, (by decide), CX8_fail  hc, ?_⟩
    rintro _ _ ⟨rfl, rfl⟩
    cases h; exact ⟨rfl, rfl⟩

noncomputable def FX2_readMeasure (S : gS) (t1 : UInt32) (i2 : Int32) (i3 : Int32) : Option (gS × Int32) := g_b2 (FX8_takeWord S (t1)) (fun S1 b2 => if b2 = true then (g_b2 (FX8_takeNumber S1 (i2) (i3)) (fun S3 x4 => some (S3, x4))) else (some (S1, (-1 : Int32))))
theorem CX2_readMeasure {n : Nat} {S : gS} {R : gS × Int32} {t1 : UInt32} {i2 : Int32} {i3 : Int32} (ht1 : (t1).toNat < 45) (h : FX2_readMeasure S t1 i2 i3 = some R) : sCi 6 mX2_readMeasure n S [.ref (3), .float (t1), .int (i2), .int (i3)] (fun S2 x2 => S2 = R.1 ∧ x2 = R.2) := by
  unfold FX2_readMeasure at h
  refine gCj_of (by decide) (Nat.le_of_ble_eq_true rfl) rfl rfl (zX2_readMeasure_0 ht1 ?_)
  obtain ⟨S1, b2, hc, h⟩ := g_b2s h
  refine ⟨5, _, (by decide), CX8_takeWord ht1 hc, ?_⟩
  rintro _ _ ⟨rfl, rfl⟩
  refine ⟨fun c => ?_, fun c => ?_⟩
  · have h := g_bf c h
    cases h; exact ⟨rfl, rfl⟩
  · have h := g_bt c h
    obtain ⟨S3, x4, hc, h⟩ := g_b2s h
    refine ⟨5, _, (by decide), CX8_takeNumber  hc, ?_⟩
    rintro _ _ ⟨rfl, rfl⟩
    cases h; exact ⟨rfl, rfl⟩

noncomputable def FX2_readGutter (S : gS) (a1 : Nat) : Option (gS × Bool) := g_b1 (FX8_advance S ) (fun S1 => g_b2 (FX8_mouthHere S1 (a1)) (fun S2 x3 => if x3 = (-1 : Int32) then (some (S2, false)) else (if g_vp (x3) 7 = true then (if (sR S2 ((a1 + 6)) (Int32.toNatClampNeg (x3))) = (-1 : Int32) then (g_b1 (FX8_advance S2 ) (fun S5 => g_b2 (FX8_mouthHere S5 (a1)) (fun S6 x7 => if x7 = (-1 : Int32) then (some (S6, false)) else (if g_vp (x7) 7 = true then (if (sR S6 ((a1 + 3)) (Int32.toNatClampNeg (x7))) < (sR S6 ((a1 + 3)) (Int32.toNatClampNeg (x3))) then (g_b1 (FX8_advance S6 ) (fun S9 => g_lt (uR S9 ((a1 + 6)) (Int32.toNatClampNeg (x3)) (x7)) (fun S10 => some (S10, true)))) else (g_b2 (FX8_fail S6 ((3 : Int32))) (fun S11 b12 => some (S11, b12)))) else none)))) else (g_b2 (FX8_fail S2 ((3 : Int32))) (fun S13 b14 => some (S13, b14)))) else none)))
theorem CX2_readGutter {n : Nat} {S : gS} {R : gS × Bool} {a1 : Nat} (hs1 : isF a1) (h : FX2_readGutter S a1 = some R) : sCz 7 mX2_readGutter n S [.ref (3), .ref (a1)] (fun S2 x2 => S2 = R.1 ∧ x2 = R.2) := by
  unfold FX2_readGutter at h
  refine gCz_of (by decide) (Nat.le_of_ble_eq_true rfl) rfl rfl (zX2_readGutter_0 hs1 ?_)
  obtain ⟨S1, hc, h⟩ := g_b1s h
  refine ⟨4, _, (by decide), CX8_advance  hc, ?_⟩
  rintro _ rfl
  obtain ⟨S2, x3, hc, h⟩ := g_b2s h
  refine ⟨6, _, (by decide), CX8_mouthHere hs1 hc, ?_⟩
  rintro _ _ ⟨rfl, rfl⟩
  refine ⟨fun c => ?_, fun c => ?_⟩
  · have h := g_in c h
    obtain ⟨hv4, h⟩ := g_vs h
    refine ⟨hv4, ?_⟩
    refine ⟨fun c => ?_, fun c => ?_⟩
    · have h := g_ip c h
      obtain ⟨S5, hc, h⟩ := g_b1s h
      refine ⟨4, _, (by decide), CX8_advance  hc, ?_⟩
      rintro _ rfl
      obtain ⟨S6, x7, hc, h⟩ := g_b2s h
      refine ⟨6, _, (by decide), CX8_mouthHere hs1 hc, ?_⟩
      rintro _ _ ⟨rfl, rfl⟩
      refine ⟨fun c => ?_, fun c => ?_⟩
      · have h := g_in c h
        obtain ⟨hv8, h⟩ := g_vs h
        refine ⟨hv8, ?_⟩
        refine ⟨fun c => ?_, fun c => ?_⟩
        · have h := g_ip c h
          obtain ⟨S9, hc, h⟩ := g_b1s h
          refine ⟨4, _, (by decide), CX8_advance  hc, ?_⟩
          rintro _ rfl
          intro S10 eS
          have h := g_lts eS h
          cases h; exact ⟨rfl, rfl⟩
        · have h := g_in c h
          obtain ⟨S11, b12, hc, h⟩ := g_b2s h
          refine ⟨0, _, (by decide), CX8_fail  hc, ?_⟩
          rintro _ _ ⟨rfl, rfl⟩
          cases h; exact ⟨rfl, rfl⟩
      · have h := g_ip c h
        cases h; exact ⟨rfl, rfl⟩
    · have h := g_in c h
      obtain ⟨S13, b14, hc, h⟩ := g_b2s h
      refine ⟨0, _, (by decide), CX8_fail  hc, ?_⟩
      rintro _ _ ⟨rfl, rfl⟩
      cases h; exact ⟨rfl, rfl⟩
  · have h := g_ip c h
    cases h; exact ⟨rfl, rfl⟩

noncomputable def FX2_readLetterNamed (S : gS) (a1 : Nat) : Option (gS × Bool) := if (sI S (a1) 8) < (6 : Int32) then (g_b1 (FX8_advance S ) (fun S1 => g_b2 (FX2_isNewName S1 (a1)) (fun S2 b3 => if b3 = true then (if g_vp ((sI S (a1) 8)) 6 = true then (g_lt (uL S2 ((a1 + 8)) (Int32.toNatClampNeg ((sI S (a1) 8))) ((sJ S2 (1) 5))) (fun S5 => g_b1 (FX8_advance S5 ) (fun S6 => g_b2 (FX8_takeWord S6 (31)) (fun S7 b8 => some (S7, b8))))) else none) else (some (S2, false))))) else (g_b2 (FX8_fail S ((5 : Int32))) (fun S9 b10 => some (S9, b10)))
theorem CX2_readLetterNamed {n : Nat} {S : gS} {R : gS × Bool} {a1 : Nat} (hs1 : isF a1) (h : FX2_readLetterNamed S a1 = some R) : sCz 7 mX2_readLetterNamed n S [.ref (3), .ref (a1)] (fun S2 x2 => S2 = R.1 ∧ x2 = R.2) := by
  unfold FX2_readLetterNamed at h
  refine gCz_of (by decide) (Nat.le_of_ble_eq_true rfl) rfl rfl (zX2_readLetterNamed_0 hs1 ?_)
  refine ⟨fun c => ?_, fun c => ?_⟩
  · have h := g_ip c h
    obtain ⟨S1, hc, h⟩ := g_b1s h
    refine ⟨4, _, (by decide), CX8_advance  hc, ?_⟩
    rintro _ rfl
    obtain ⟨S2, b3, hc, h⟩ := g_b2s h
    refine ⟨6, _, (by decide), CX2_isNewName hs1 hc, ?_⟩
    rintro _ _ ⟨rfl, rfl⟩
    refine ⟨fun c => ?_, fun c => ?_⟩
    · have h := g_bt c h
      obtain ⟨hv4, h⟩ := g_vs h
      refine ⟨hv4, ?_⟩
      intro S5 eS
      have h := g_lts eS h
      obtain ⟨S6, hc, h⟩ := g_b1s h
      refine ⟨4, _, (by decide), CX8_advance  hc, ?_⟩
      rintro _ rfl
      obtain ⟨S7, b8, hc, h⟩ := g_b2s h
      refine ⟨5, _, (by decide), CX8_takeWord (by decide) hc, ?_⟩
      rintro _ _ ⟨rfl, rfl⟩
      cases h; exact ⟨rfl, rfl⟩
    · have h := g_bf c h
      cases h; exact ⟨rfl, rfl⟩
  · have h := g_in c h
    obtain ⟨S9, b10, hc, h⟩ := g_b2s h
    refine ⟨0, _, (by decide), CX8_fail  hc, ?_⟩
    rintro _ _ ⟨rfl, rfl⟩
    cases h; exact ⟨rfl, rfl⟩

noncomputable def bX2_readLetterMouths_4  (rec : Nat → gS → Nat → Int32 → Int32 → Option (gS × Bool)) (S : gS) (a1 : Nat) (i2 : Int32) (i3 : Int32) : Option (gS × Bool) := if (7 : Int32) < i3 then (rec 82 S (a1) (i2) 0) else (if i2 = 0 then (rec 26 S (a1) (i2) (i3)) else (g_b2 (FX8_isSign S ((59 : Int32))) (fun S1 b2 => if b2 = true then (rec 82 S1 (a1) (i2) 0) else (rec 26 S1 (a1) (i2) (i3)))))
noncomputable def bX2_readLetterMouths_26  (rec : Nat → gS → Nat → Int32 → Int32 → Option (gS × Bool)) (S : gS) (a1 : Nat) (i2 : Int32) (i3 : Int32) : Option (gS × Bool) := g_b2 (FX8_mouthHere S (a1)) (fun S1 x2 => if x2 = (-1 : Int32) then (some (S1, false)) else (if ((i2 >>> (x2 &&& 31)) &&& (1 : Int32)) = 0 then (g_b1 (FX8_advance S1 ) (fun S3 => rec 4 S3 (a1) ((i2 ||| ((1 : Int32) <<< (x2 &&& 31)))) ((i3 + 1)))) else (g_b2 (FX8_fail S1 ((3 : Int32))) (fun S4 b5 => some (S4, b5)))))
noncomputable def bX2_readLetterMouths_82  (rec : Nat → gS → Nat → Int32 → Int32 → Option (gS × Bool)) (S : gS) (a1 : Nat) (i2 : Int32) (i3 : Int32) : Option (gS × Bool) := g_b2 (FX1_letterOf S (a1) (i2)) (fun S1 x2 => if x2 = (-1 : Int32) then (if (sI S1 (a1) 8) < (6 : Int32) then (if g_vp ((sI S1 (a1) 8)) 6 = true then (g_lt (uR S1 ((a1 + 9)) (Int32.toNatClampNeg ((sI S1 (a1) 8))) (i2)) (fun S4 => g_lt (uI S4 (a1) 8 (((sI S4 (a1) 8) + (1 : Int32)))) (fun S5 => some (S5, true)))) else none) else (g_b2 (FX8_fail S1 ((5 : Int32))) (fun S6 b7 => some (S6, b7)))) else (g_b2 (FX8_fail S1 ((3 : Int32))) (fun S8 b9 => some (S8, b9))))
noncomputable def fX2_readLetterMouths  : Nat → Nat → gS → Nat → Int32 → Int32 → Option (gS × Bool)
  | 0 => fun _ _ _ _ _ => none
  | k + 1 => fun pc S a1 i2 i3 => if pc = 4 then bX2_readLetterMouths_4  (fX2_readLetterMouths  k) S a1 i2 i3 else if pc = 26 then bX2_readLetterMouths_26  (fX2_readLetterMouths  k) S a1 i2 i3 else if pc = 82 then bX2_readLetterMouths_82  (fX2_readLetterMouths  k) S a1 i2 i3 else none
noncomputable def FX2_readLetterMouths (S : gS) (a1 : Nat) : Option (gS × Bool) := fX2_readLetterMouths  FU 4 S (a1) ((0 : Int32)) ((0 : Int32))
set_option maxRecDepth 100000 in
theorem lX2_readLetterMouths  {n : Nat} {R : gS × Bool} : ∀ k : Nat, (∀ (S : gS) (a1 : Nat) (i2 : Int32) (i3 : Int32) (hs1 : isF a1), fX2_readLetterMouths  k 4 S a1 i2 i3 = some R → gG 7 mX2_readLetterMouths 0 0 (g_Xz mX2_readLetterMouths n 0 0 (hPz (fun S2 x2 => S2 = R.1 ∧ x2 = R.2))) 4 n (hH S) [some (.ref (3)), some (.ref (a1)), some (.int (i2)), some (.int (i3)), none] [] 0 0) ∧ (∀ (S : gS) (a1 : Nat) (i2 : Int32) (i3 : Int32) (hs1 : isF a1), fX2_readLetterMouths  k 26 S a1 i2 i3 = some R → gG 7 mX2_readLetterMouths 0 0 (g_Xz mX2_readLetterMouths n 0 0 (hPz (fun S2 x2 => S2 = R.1 ∧ x2 = R.2))) 26 n (hH S) [some (.ref (3)), some (.ref (a1)), some (.int (i2)), some (.int (i3)), none] [] 0 0) ∧ (∀ (S : gS) (a1 : Nat) (i2 : Int32) (i3 : Int32) (hs1 : isF a1), fX2_readLetterMouths  k 82 S a1 i2 i3 = some R → gG 7 mX2_readLetterMouths 0 0 (g_Xz mX2_readLetterMouths n 0 0 (hPz (fun S2 x2 => S2 = R.1 ∧ x2 = R.2))) 82 n (hH S) [some (.ref (3)), some (.ref (a1)), some (.int (i2)), none, none] [] 0 0) := by
  intro k
  induction k with
  | zero => exact ⟨fun _ _ _ _ _ h => (by cases h), fun _ _ _ _ _ h => (by cases h), fun _ _ _ _ _ h => (by cases h)⟩
  | succ k ih =>
    have hrec_4 := ih.1
    have hrec_26 := ih.2.1
    have hrec_82 := ih.2.2
    refine ⟨?_, ?_, ?_⟩
    · intro S a1 i2 i3 hs1 h
      rw [fX2_readLetterMouths] at h
      have h := g_ip rfl h
      unfold bX2_readLetterMouths_4 at h
      refine zX2_readLetterMouths_4 hs1 ?_
      refine ⟨fun c => ?_, fun c => ?_⟩
      · have h := g_ip c h
        exact hrec_82 _ _ _ _ hs1 h
      · have h := g_in c h
        refine ⟨fun c => ?_, fun c => ?_⟩
        · have h := g_ip c h
          exact hrec_26 _ _ _ _ hs1 h
        · have h := g_in c h
          obtain ⟨S1, b2, hc, h⟩ := g_b2s h
          refine ⟨0, _, (by decide), CX8_isSign  hc, ?_⟩
          rintro _ _ ⟨rfl, rfl⟩
          refine ⟨fun c => ?_, fun c => ?_⟩
          · have h := g_bt c h
            exact hrec_82 _ _ _ _ hs1 h
          · have h := g_bf c h
            exact hrec_26 _ _ _ _ hs1 h
    · intro S a1 i2 i3 hs1 h
      rw [fX2_readLetterMouths] at h
      have h := g_in (by decide) h
      have h := g_ip rfl h
      unfold bX2_readLetterMouths_26 at h
      refine zX2_readLetterMouths_26 hs1 ?_
      obtain ⟨S1, x2, hc, h⟩ := g_b2s h
      refine ⟨6, _, (by decide), CX8_mouthHere hs1 hc, ?_⟩
      rintro _ _ ⟨rfl, rfl⟩
      refine ⟨fun c => ?_, fun c => ?_⟩
      · have h := g_in c h
        refine ⟨fun c => ?_, fun c => ?_⟩
        · have h := g_ip c h
          obtain ⟨S3, hc, h⟩ := g_b1s h
          refine ⟨4, _, (by decide), CX8_advance  hc, ?_⟩
          rintro _ rfl
          exact hrec_4 _ _ _ _ hs1 h
        · have h := g_in c h
          obtain ⟨S4, b5, hc, h⟩ := g_b2s h
          refine ⟨0, _, (by decide), CX8_fail  hc, ?_⟩
          rintro _ _ ⟨rfl, rfl⟩
          cases h; exact ⟨rfl, rfl⟩
      · have h := g_ip c h
        cases h; exact ⟨rfl, rfl⟩
    · intro S a1 i2 i3 hs1 h
      rw [fX2_readLetterMouths] at h
      have h := g_in (by decide) h
      have h := g_in (by decide) h
      have h := g_ip rfl h
      unfold bX2_readLetterMouths_82 at h
      refine zX2_readLetterMouths_82 hs1 ?_
      obtain ⟨S1, x2, hc, h⟩ := g_b2s h
      refine ⟨0, _, (by decide), CX1_letterOf hs1 hc, ?_⟩
      rintro _ _ ⟨rfl, rfl⟩
      refine ⟨fun c => ?_, fun c => ?_⟩
      · have h := g_ip c h
        refine ⟨fun c => ?_, fun c => ?_⟩
        · have h := g_ip c h
          obtain ⟨hv3, h⟩ := g_vs h
          refine ⟨hv3, ?_⟩
          intro S4 eS
          have h := g_lts eS h
          intro S5 eS
          have h := g_lts eS h
          cases h; exact ⟨rfl, rfl⟩
        · have h := g_in c h
          obtain ⟨S6, b7, hc, h⟩ := g_b2s h
          refine ⟨0, _, (by decide), CX8_fail  hc, ?_⟩
          rintro _ _ ⟨rfl, rfl⟩
          cases h; exact ⟨rfl, rfl⟩
      · have h := g_in c h
        obtain ⟨S8, b9, hc, h⟩ := g_b2s h
        refine ⟨0, _, (by decide), CX8_fail  hc, ?_⟩
        rintro _ _ ⟨rfl, rfl⟩
        cases h; exact ⟨rfl, rfl⟩
theorem CX2_readLetterMouths {n : Nat} {S : gS} {R : gS × Bool} {a1 : Nat} (hs1 : isF a1) (h : FX2_readLetterMouths S a1 = some R) : sCz 7 mX2_readLetterMouths n S [.ref (3), .ref (a1)] (fun S2 x2 => S2 = R.1 ∧ x2 = R.2) := by
  unfold FX2_readLetterMouths at h
  refine gCz_of (by decide) (Nat.le_of_ble_eq_true rfl) rfl rfl (zX2_readLetterMouths_0 hs1 ?_)
  exact (lX2_readLetterMouths FU).1 _ _ _ _ hs1 h

noncomputable def bX2_readRain_25  (rec : Nat → gS → Nat → Int32 → Option (gS × Bool)) (S : gS) (a1 : Nat) (i2 : Int32) : Option (gS × Bool) := if (12 : Int32) ≤ i2 then (rec 88 S 0 0) else (if i2 = 0 then (rec 47 S (a1) (i2)) else (g_b2 (FX8_isSign S ((59 : Int32))) (fun S1 b2 => if b2 = true then (rec 88 S1 0 0) else (rec 47 S1 (a1) (i2)))))
noncomputable def bX2_readRain_47  (rec : Nat → gS → Nat → Int32 → Option (gS × Bool)) (S : gS) (a1 : Nat) (i2 : Int32) : Option (gS × Bool) := g_b2 (FX8_takeNumber S ((0 : Int32)) ((9 : Int32))) (fun S1 x2 => if g_vp (i2) 12 = true then (g_lt (uR S1 ((a1 + 10)) (Int32.toNatClampNeg (i2)) (x2)) (fun S4 => if (sR S4 ((a1 + 10)) (Int32.toNatClampNeg (i2))) = (-1 : Int32) then (some (S4, false)) else (g_lt (uI S4 (a1) 11 ((i2 + (1 : Int32)))) (fun S5 => rec 25 S5 (a1) ((i2 + 1)))))) else none)
noncomputable def bX2_readRain_88  (rec : Nat → gS → Nat → Int32 → Option (gS × Bool)) (S : gS) (a1 : Nat) (i2 : Int32) : Option (gS × Bool) := g_b2 (FX8_isNumber S ) (fun S1 b2 => if b2 = true then (if (9 : Int32) < (sI S1 (1) 6) then (rec 116 S1 0 ((0 : Int32))) else (rec 116 S1 0 ((1 : Int32)))) else (some (S1, true)))
noncomputable def bX2_readRain_116  (rec : Nat → gS → Nat → Int32 → Option (gS × Bool)) (S : gS) (a1 : Nat) (i2 : Int32) : Option (gS × Bool) := if i2 = 0 then (g_b2 (FX8_fail S ((4 : Int32))) (fun S1 b2 => some (S1, b2))) else (g_b2 (FX8_fail S ((5 : Int32))) (fun S3 b4 => some (S3, b4)))
noncomputable def fX2_readRain  : Nat → Nat → gS → Nat → Int32 → Option (gS × Bool)
  | 0 => fun _ _ _ _ => none
  | k + 1 => fun pc S a1 i2 => if pc = 25 then bX2_readRain_25  (fX2_readRain  k) S a1 i2 else if pc = 47 then bX2_readRain_47  (fX2_readRain  k) S a1 i2 else if pc = 88 then bX2_readRain_88  (fX2_readRain  k) S a1 i2 else if pc = 116 then bX2_readRain_116  (fX2_readRain  k) S a1 i2 else none
noncomputable def FX2_readRain (S : gS) (a1 : Nat) : Option (gS × Bool) := if (sI S (a1) 11) ≤ 0 then (g_b1 (FX8_advance S ) (fun S1 => fX2_readRain  FU 25 S1 (a1) ((0 : Int32)))) else (g_b2 (FX8_fail S ((3 : Int32))) (fun S2 b3 => some (S2, b3)))
set_option maxRecDepth 100000 in
theorem lX2_readRain  {n : Nat} {R : gS × Bool} : ∀ k : Nat, (∀ (S : gS) (a1 : Nat) (i2 : Int32) (hs1 : isF a1), fX2_readRain  k 25 S a1 i2 = some R → gG 6 mX2_readRain 0 0 (g_Xz mX2_readRain n 0 0 (hPz (fun S2 x2 => S2 = R.1 ∧ x2 = R.2))) 25 n (hH S) [some (.ref (3)), some (.ref (a1)), some (.int (i2))] [] 0 0) ∧ (∀ (S : gS) (a1 : Nat) (i2 : Int32) (hs1 : isF a1), fX2_readRain  k 47 S a1 i2 = some R → gG 6 mX2_readRain 0 0 (g_Xz mX2_readRain n 0 0 (hPz (fun S2 x2 => S2 = R.1 ∧ x2 = R.2))) 47 n (hH S) [some (.ref (3)), some (.ref (a1)), some (.int (i2))] [] 0 0) ∧ (∀ (S : gS) (a1 : Nat) (i2 : Int32) , fX2_readRain  k 88 S a1 i2 = some R → gG 6 mX2_readRain 0 0 (g_Xz mX2_readRain n 0 0 (hPz (fun S2 x2 => S2 = R.1 ∧ x2 = R.2))) 88 n (hH S) [some (.ref (3)), none, none] [] 0 0) ∧ (∀ (S : gS) (a1 : Nat) (i2 : Int32) , fX2_readRain  k 116 S a1 i2 = some R → gG 6 mX2_readRain 0 0 (g_Xz mX2_readRain n 0 0 (hPz (fun S2 x2 => S2 = R.1 ∧ x2 = R.2))) 116 n (hH S) [some (.ref (3)), none, some (.int (i2))] [] 0 0) := by
  intro k
  induction k with
  | zero => exact ⟨fun _ _ _ _ h => (by cases h), fun _ _ _ _ h => (by cases h), fun _ _ _ h => (by cases h), fun _ _ _ h => (by cases h)⟩
  | succ k ih =>
    have hrec_25 := ih.1
    have hrec_47 := ih.2.1
    have hrec_88 := ih.2.2.1
    have hrec_116 := ih.2.2.2
    refine ⟨?_, ?_, ?_, ?_⟩
    · intro S a1 i2 hs1 h
      rw [fX2_readRain] at h
      have h := g_ip rfl h
      unfold bX2_readRain_25 at h
      refine zX2_readRain_25 hs1 ?_
      refine ⟨fun c => ?_, fun c => ?_⟩
      · have h := g_ip c h
        exact hrec_88 _ _ _  h
      · have h := g_in c h
        refine ⟨fun c => ?_, fun c => ?_⟩
        · have h := g_ip c h
          exact hrec_47 _ _ _ hs1 h
        · have h := g_in c h
          obtain ⟨S1, b2, hc, h⟩ := g_b2s h
          refine ⟨0, _, (by decide), CX8_isSign  hc, ?_⟩
          rintro _ _ ⟨rfl, rfl⟩
          refine ⟨fun c => ?_, fun c => ?_⟩
          · have h := g_bt c h
            exact hrec_88 _ _ _  h
          · have h := g_bf c h
            exact hrec_47 _ _ _ hs1 h
    · intro S a1 i2 hs1 h
      rw [fX2_readRain] at h
      have h := g_in (by decide) h
      have h := g_ip rfl h
      unfold bX2_readRain_47 at h
      refine zX2_readRain_47 hs1 ?_
      obtain ⟨S1, x2, hc, h⟩ := g_b2s h
      refine ⟨5, _, (by decide), CX8_takeNumber  hc, ?_⟩
      rintro _ _ ⟨rfl, rfl⟩
      obtain ⟨hv3, h⟩ := g_vs h
      refine ⟨hv3, ?_⟩
      intro S4 eS
      have h := g_lts eS h
      refine ⟨fun c => ?_, fun c => ?_⟩
      · have h := g_in c h
        intro S5 eS
        have h := g_lts eS h
        exact hrec_25 _ _ _ hs1 h
      · have h := g_ip c h
        cases h; exact ⟨rfl, rfl⟩
    · intro S a1 i2 h
      rw [fX2_readRain] at h
      have h := g_in (by decide) h
      have h := g_in (by decide) h
      have h := g_ip rfl h
      unfold bX2_readRain_88 at h
      refine zX2_readRain_88  ?_
      obtain ⟨S1, b2, hc, h⟩ := g_b2s h
      refine ⟨0, _, (by decide), CX8_isNumber  hc, ?_⟩
      rintro _ _ ⟨rfl, rfl⟩
      refine ⟨fun c => ?_, fun c => ?_⟩
      · have h := g_bf c h
        cases h; exact ⟨rfl, rfl⟩
      · have h := g_bt c h
        refine ⟨fun c => ?_, fun c => ?_⟩
        · have h := g_ip c h
          exact hrec_116 _ _ _  h
        · have h := g_in c h
          exact hrec_116 _ _ _  h
    · intro S a1 i2 h
      rw [fX2_readRain] at h
      have h := g_in (by decide) h
      have h := g_in (by decide) h
      have h := g_in (by decide) h
      have h := g_ip rfl h
      unfold bX2_readRain_116 at h
      refine zX2_readRain_116  ?_
      refine ⟨fun c => ?_, fun c => ?_⟩
      · have h := g_ip c h
        obtain ⟨S1, b2, hc, h⟩ := g_b2s h
        refine ⟨0, _, (by decide), CX8_fail  hc, ?_⟩
        rintro _ _ ⟨rfl, rfl⟩
        cases h; exact ⟨rfl, rfl⟩
      · have h := g_in c h
        obtain ⟨S3, b4, hc, h⟩ := g_b2s h
        refine ⟨0, _, (by decide), CX8_fail  hc, ?_⟩
        rintro _ _ ⟨rfl, rfl⟩
        cases h; exact ⟨rfl, rfl⟩
theorem CX2_readRain {n : Nat} {S : gS} {R : gS × Bool} {a1 : Nat} (hs1 : isF a1) (h : FX2_readRain S a1 = some R) : sCz 6 mX2_readRain n S [.ref (3), .ref (a1)] (fun S2 x2 => S2 = R.1 ∧ x2 = R.2) := by
  unfold FX2_readRain at h
  refine gCz_of (by decide) (Nat.le_of_ble_eq_true rfl) rfl rfl (zX2_readRain_0 hs1 ?_)
  refine ⟨fun c => ?_, fun c => ?_⟩
  · have h := g_ip c h
    obtain ⟨S1, hc, h⟩ := g_b1s h
    refine ⟨4, _, (by decide), CX8_advance  hc, ?_⟩
    rintro _ rfl
    exact (lX2_readRain FU).1 _ _ _ hs1 h
  · have h := g_in c h
    obtain ⟨S2, b3, hc, h⟩ := g_b2s h
    refine ⟨0, _, (by decide), CX8_fail  hc, ?_⟩
    rintro _ _ ⟨rfl, rfl⟩
    cases h; exact ⟨rfl, rfl⟩

noncomputable def FX5_readLine (S : gS) (a1 : Nat) (a2 : Nat) : Option (gS × Bool) := g_b2 (FX5_actHere S ) (fun S1 x2 => if x2 = (-1 : Int32) then (g_b2 (FX8_fail S1 ((1 : Int32))) (fun S16 b17 => some (S16, b17))) else (if (sI S1 (a2) 0) < (40 : Int32) then (g_b1 (FX8_advance S1 ) (fun S3 => if g_vp ((sI S1 (a2) 0)) 40 = true then (g_lt (uR S3 ((a2 + 1)) (Int32.toNatClampNeg ((sI S1 (a2) 0))) (x2)) (fun S5 => g_lt (uI S5 (a2) 0 (((sI S5 (a2) 0) + (1 : Int32)))) (fun S6 => if x2 = 0 then (some (S6, true)) else (g_b2 (FX8_mouthHere S6 (a1)) (fun S7 x8 => if x8 = (-1 : Int32) then (some (S7, false)) else (g_b1 (FX8_advance S7 ) (fun S9 => g_lt (uR S9 ((a2 + 2)) (Int32.toNatClampNeg ((sI S1 (a2) 0))) (x8)) (fun S10 => if x2 = (1 : Int32) then (g_b2 (FX8_takeNumber S10 ((1 : Int32)) ((20 : Int32))) (fun S11 x12 => g_lt (uR S11 ((a2 + 3)) (Int32.toNatClampNeg ((sI S1 (a2) 0))) (x12)) (fun S13 => if (sR S13 ((a2 + 3)) (Int32.toNatClampNeg ((sI S1 (a2) 0)))) = (-1 : Int32) then (some (S13, false)) else (some (S13, true))))) else (some (S10, true)))))))))) else none)) else (g_b2 (FX8_fail S1 ((5 : Int32))) (fun S14 b15 => some (S14, b15)))))
theorem CX5_readLine {n : Nat} {S : gS} {R : gS × Bool} {a1 : Nat} {a2 : Nat} (hs1 : isF a1) (hs2 : isD a2) (h : FX5_readLine S a1 a2 = some R) : sCz 7 mX5_readLine n S [.ref (5), .ref (a1), .ref (a2)] (fun S2 x2 => S2 = R.1 ∧ x2 = R.2) := by
  unfold FX5_readLine at h
  refine gCz_of (by decide) (Nat.le_of_ble_eq_true rfl) rfl rfl (zX5_readLine_0 hs1 hs2 ?_)
  obtain ⟨S1, x2, hc, h⟩ := g_b2s h
  refine ⟨5, _, (by decide), CX5_actHere  hc, ?_⟩
  rintro _ _ ⟨rfl, rfl⟩
  refine ⟨fun c => ?_, fun c => ?_⟩
  · have h := g_in c h
    refine ⟨fun c => ?_, fun c => ?_⟩
    · have h := g_ip c h
      obtain ⟨S3, hc, h⟩ := g_b1s h
      refine ⟨4, _, (by decide), CX8_advance  hc, ?_⟩
      rintro _ rfl
      obtain ⟨hv4, h⟩ := g_vs h
      refine ⟨hv4, ?_⟩
      intro S5 eS
      have h := g_lts eS h
      intro S6 eS
      have h := g_lts eS h
      refine ⟨fun c => ?_, fun c => ?_⟩
      · have h := g_in c h
        obtain ⟨S7, x8, hc, h⟩ := g_b2s h
        refine ⟨6, _, (by decide), CX8_mouthHere hs1 hc, ?_⟩
        rintro _ _ ⟨rfl, rfl⟩
        refine ⟨fun c => ?_, fun c => ?_⟩
        · have h := g_in c h
          obtain ⟨S9, hc, h⟩ := g_b1s h
          refine ⟨4, _, (by decide), CX8_advance  hc, ?_⟩
          rintro _ rfl
          intro S10 eS
          have h := g_lts eS h
          refine ⟨fun c => ?_, fun c => ?_⟩
          · have h := g_in c h
            cases h; exact ⟨rfl, rfl⟩
          · have h := g_ip c h
            obtain ⟨S11, x12, hc, h⟩ := g_b2s h
            refine ⟨5, _, (by decide), CX8_takeNumber  hc, ?_⟩
            rintro _ _ ⟨rfl, rfl⟩
            intro S13 eS
            have h := g_lts eS h
            refine ⟨fun c => ?_, fun c => ?_⟩
            · have h := g_ip c h
              cases h; exact ⟨rfl, rfl⟩
            · have h := g_in c h
              cases h; exact ⟨rfl, rfl⟩
        · have h := g_ip c h
          cases h; exact ⟨rfl, rfl⟩
      · have h := g_ip c h
        cases h; exact ⟨rfl, rfl⟩
    · have h := g_in c h
      obtain ⟨S14, b15, hc, h⟩ := g_b2s h
      refine ⟨0, _, (by decide), CX8_fail  hc, ?_⟩
      rintro _ _ ⟨rfl, rfl⟩
      cases h; exact ⟨rfl, rfl⟩
  · have h := g_ip c h
    obtain ⟨S16, b17, hc, h⟩ := g_b2s h
    refine ⟨0, _, (by decide), CX8_fail  hc, ?_⟩
    rintro _ _ ⟨rfl, rfl⟩
    cases h; exact ⟨rfl, rfl⟩

noncomputable def FX5_readLetterName (S : gS) (a1 : Nat) (a2 : Nat) : Option (gS × Bool) := g_b2 (FX8_isName S ) (fun S1 b2 => if b2 = true then (g_b2 (FX1_letterNamed S1 (a1) ((sJ S1 (1) 5))) (fun S3 x4 => if x4 = (-1 : Int32) then (g_b2 (FX8_fail S3 ((2 : Int32))) (fun S11 b12 => some (S11, b12))) else (if (sI S3 (a2) 0) < (7 : Int32) then (if g_vp ((sI S3 (a2) 0)) 7 = true then (g_lt (uR S3 ((a2 + 1)) (Int32.toNatClampNeg ((sI S3 (a2) 0))) (x4)) (fun S6 => g_lt (uI S6 (a2) 0 (((sI S6 (a2) 0) + (1 : Int32)))) (fun S7 => g_b1 (FX8_advance S7 ) (fun S8 => some (S8, true))))) else none) else (g_b2 (FX8_fail S3 ((5 : Int32))) (fun S9 b10 => some (S9, b10)))))) else (g_b2 (FX8_fail S1 ((1 : Int32))) (fun S13 b14 => some (S13, b14))))
theorem CX5_readLetterName {n : Nat} {S : gS} {R : gS × Bool} {a1 : Nat} {a2 : Nat} (hs1 : isF a1) (hs2 : isWd a2) (h : FX5_readLetterName S a1 a2 = some R) : sCz 6 mX5_readLetterName n S [.ref (5), .ref (a1), .ref (a2)] (fun S2 x2 => S2 = R.1 ∧ x2 = R.2) := by
  unfold FX5_readLetterName at h
  refine gCz_of (by decide) (Nat.le_of_ble_eq_true rfl) rfl rfl (zX5_readLetterName_0 hs1 hs2 ?_)
  obtain ⟨S1, b2, hc, h⟩ := g_b2s h
  refine ⟨5, _, (by decide), CX8_isName  hc, ?_⟩
  rintro _ _ ⟨rfl, rfl⟩
  refine ⟨fun c => ?_, fun c => ?_⟩
  · have h := g_bt c h
    obtain ⟨S3, x4, hc, h⟩ := g_b2s h
    refine ⟨0, _, (by decide), CX1_letterNamed hs1 hc, ?_⟩
    rintro _ _ ⟨rfl, rfl⟩
    refine ⟨fun c => ?_, fun c => ?_⟩
    · have h := g_in c h
      refine ⟨fun c => ?_, fun c => ?_⟩
      · have h := g_ip c h
        obtain ⟨hv5, h⟩ := g_vs h
        refine ⟨hv5, ?_⟩
        intro S6 eS
        have h := g_lts eS h
        intro S7 eS
        have h := g_lts eS h
        obtain ⟨S8, hc, h⟩ := g_b1s h
        refine ⟨4, _, (by decide), CX8_advance  hc, ?_⟩
        rintro _ rfl
        cases h; exact ⟨rfl, rfl⟩
      · have h := g_in c h
        obtain ⟨S9, b10, hc, h⟩ := g_b2s h
        refine ⟨0, _, (by decide), CX8_fail  hc, ?_⟩
        rintro _ _ ⟨rfl, rfl⟩
        cases h; exact ⟨rfl, rfl⟩
    · have h := g_ip c h
      obtain ⟨S11, b12, hc, h⟩ := g_b2s h
      refine ⟨0, _, (by decide), CX8_fail  hc, ?_⟩
      rintro _ _ ⟨rfl, rfl⟩
      cases h; exact ⟨rfl, rfl⟩
  · have h := g_bf c h
    obtain ⟨S13, b14, hc, h⟩ := g_b2s h
    refine ⟨0, _, (by decide), CX8_fail  hc, ?_⟩
    rintro _ _ ⟨rfl, rfl⟩
    cases h; exact ⟨rfl, rfl⟩

noncomputable def FX8_open (S : gS)  : Option (gS) := g_lt (uI S (1) 4 ((0 : Int32))) (fun S1 => g_lt (uI S1 (1) 7 ((0 : Int32))) (fun S2 => g_b1 (FX8_advance S2 ) (fun S3 => some S3)))
theorem CX8_open {n : Nat} {S : gS} {R : gS}   (h : FX8_open S  = some R) : sCv 5 mX8_open n S [.ref (1)] (fun S2 => S2 = R) := by
  unfold FX8_open at h
  refine gCv_of (by decide) (Nat.le_of_ble_eq_true rfl) rfl rfl (zX8_open_0  ?_)
  intro S1 eS
  have h := g_lts eS h
  intro S2 eS
  have h := g_lts eS h
  obtain ⟨S3, hc, h⟩ := g_b1s h
  refine ⟨4, _, (by decide), CX8_advance  hc, ?_⟩
  rintro _ rfl
  cases h; exact rfl

noncomputable def bX2_readMouth_137  (rec : Nat → gS → Nat → Int32 → Option (gS × Bool)) (S : gS) (a1 : Nat) (i2 : Int32) : Option (gS × Bool) := if g_vp (i2) 7 = true then (if (sR S ((a1 + 4)) (Int32.toNatClampNeg (i2))) = (-1 : Int32) then (g_lt (uR S ((a1 + 5)) (Int32.toNatClampNeg (i2)) ((-1 : Int32))) (fun S5 => rec 166 S5 (a1) (i2))) else (g_b2 (FX2_readMeasure S (28) ((0 : Int32)) ((40 : Int32))) (fun S2 x3 => g_lt (uR S2 ((a1 + 5)) (Int32.toNatClampNeg (i2)) (x3)) (fun S4 => rec 166 S4 (a1) (i2))))) else none
noncomputable def bX2_readMouth_166  (rec : Nat → gS → Nat → Int32 → Option (gS × Bool)) (S : gS) (a1 : Nat) (i2 : Int32) : Option (gS × Bool) := if g_vp (i2) 7 = true then (if (sR S ((a1 + 5)) (Int32.toNatClampNeg (i2))) = (-1 : Int32) then (some (S, false)) else (g_lt (uR S ((a1 + 6)) (Int32.toNatClampNeg (i2)) ((-1 : Int32))) (fun S2 => g_b1 (FX1_putInOrder S2 (a1) (i2)) (fun S3 => g_lt (uI S3 (a1) 0 (((sI S3 (a1) 0) + (1 : Int32)))) (fun S4 => some (S4, true)))))) else none
noncomputable def fX2_readMouth  : Nat → Nat → gS → Nat → Int32 → Option (gS × Bool)
  | 0 => fun _ _ _ _ => none
  | k + 1 => fun pc S a1 i2 => if pc = 137 then bX2_readMouth_137  (fX2_readMouth  k) S a1 i2 else if pc = 166 then bX2_readMouth_166  (fX2_readMouth  k) S a1 i2 else none
noncomputable def FX2_readMouth (S : gS) (a1 : Nat) : Option (gS × Bool) := if (sI S (a1) 0) < (7 : Int32) then (g_b1 (FX8_advance S ) (fun S1 => g_b2 (FX2_isNewName S1 (a1)) (fun S2 b3 => if b3 = true then (if g_vp ((sI S (a1) 0)) 7 = true then (g_lt (uL S2 ((a1 + 1)) (Int32.toNatClampNeg ((sI S (a1) 0))) ((sJ S2 (1) 5))) (fun S5 => g_b1 (FX8_advance S5 ) (fun S6 => g_b2 (FX2_kindHere S6 ) (fun S7 x8 => g_lt (uR S7 ((a1 + 2)) (Int32.toNatClampNeg ((sI S (a1) 0))) (x8)) (fun S9 => if (sR S9 ((a1 + 2)) (Int32.toNatClampNeg ((sI S (a1) 0)))) = (-1 : Int32) then (g_b2 (FX8_fail S9 ((1 : Int32))) (fun S18 b19 => some (S18, b19))) else (g_b1 (FX8_advance S9 ) (fun S10 => g_b2 (FX2_readMeasure S10 (26) ((1 : Int32)) ((20 : Int32))) (fun S11 x12 => g_lt (uR S11 ((a1 + 3)) (Int32.toNatClampNeg ((sI S (a1) 0))) (x12)) (fun S13 => if (sR S13 ((a1 + 3)) (Int32.toNatClampNeg ((sI S (a1) 0)))) = (-1 : Int32) then (g_lt (uR S13 ((a1 + 4)) (Int32.toNatClampNeg ((sI S (a1) 0))) ((-1 : Int32))) (fun S17 => fX2_readMouth  FU 137 S17 (a1) ((sI S (a1) 0)))) else (g_b2 (FX2_readMeasure S13 (27) ((0 : Int32)) ((9 : Int32))) (fun S14 x15 => g_lt (uR S14 ((a1 + 4)) (Int32.toNatClampNeg ((sI S (a1) 0))) (x15)) (fun S16 => fX2_readMouth  FU 137 S16 (a1) ((sI S (a1) 0)))))))))))))) else none) else (some (S2, false))))) else (g_b2 (FX8_fail S ((5 : Int32))) (fun S20 b21 => some (S20, b21)))
set_option maxRecDepth 100000 in
theorem lX2_readMouth  {n : Nat} {R : gS × Bool} : ∀ k : Nat, (∀ (S : gS) (a1 : Nat) (i2 : Int32) (hs1 : isF a1), fX2_readMouth  k 137 S a1 i2 = some R → gG 7 mX2_readMouth 0 0 (g_Xz mX2_readMouth n 0 0 (hPz (fun S2 x2 => S2 = R.1 ∧ x2 = R.2))) 137 n (hH S) [some (.ref (3)), some (.ref (a1)), some (.int (i2))] [] 0 0) ∧ (∀ (S : gS) (a1 : Nat) (i2 : Int32) (hs1 : isF a1), fX2_readMouth  k 166 S a1 i2 = some R → gG 7 mX2_readMouth 0 0 (g_Xz mX2_readMouth n 0 0 (hPz (fun S2 x2 => S2 = R.1 ∧ x2 = R.2))) 166 n (hH S) [none, some (.ref (a1)), some (.int (i2))] [] 0 0) := by
  intro k
  induction k with
  | zero => exact ⟨fun _ _ _ _ h => (by cases h), fun _ _ _ _ h => (by cases h)⟩
  | succ k ih =>
    have hrec_137 := ih.1
    have hrec_166 := ih.2
    refine ⟨?_, ?_⟩
    · intro S a1 i2 hs1 h
      rw [fX2_readMouth] at h
      have h := g_ip rfl h
      unfold bX2_readMouth_137 at h
      refine zX2_readMouth_137 hs1 ?_
      obtain ⟨hv1, h⟩ := g_vs h
      refine ⟨hv1, ?_⟩
      refine ⟨fun c => ?_, fun c => ?_⟩
      · have h := g_in c h
        obtain ⟨S2, x3, hc, h⟩ := g_b2s h
        refine ⟨6, _, (by decide), CX2_readMeasure (by decide) hc, ?_⟩
        rintro _ _ ⟨rfl, rfl⟩
        intro S4 eS
        have h := g_lts eS h
        exact hrec_166 _ _ _ hs1 h
      · have h := g_ip c h
        intro S5 eS
        have h := g_lts eS h
        exact hrec_166 _ _ _ hs1 h
    · intro S a1 i2 hs1 h
      rw [fX2_readMouth] at h
      have h := g_in (by decide) h
      have h := g_ip rfl h
      unfold bX2_readMouth_166 at h
      refine zX2_readMouth_166 hs1 ?_
      obtain ⟨hv1, h⟩ := g_vs h
      refine ⟨hv1, ?_⟩
      refine ⟨fun c => ?_, fun c => ?_⟩
      · have h := g_in c h
        intro S2 eS
        have h := g_lts eS h
        obtain ⟨S3, hc, h⟩ := g_b1s h
        refine ⟨0, _, (by decide), CX1_putInOrder hs1 hc, ?_⟩
        rintro _ rfl
        intro S4 eS
        have h := g_lts eS h
        cases h; exact ⟨rfl, rfl⟩
      · have h := g_ip c h
        cases h; exact ⟨rfl, rfl⟩
theorem CX2_readMouth {n : Nat} {S : gS} {R : gS × Bool} {a1 : Nat} (hs1 : isF a1) (h : FX2_readMouth S a1 = some R) : sCz 7 mX2_readMouth n S [.ref (3), .ref (a1)] (fun S2 x2 => S2 = R.1 ∧ x2 = R.2) := by
  unfold FX2_readMouth at h
  refine gCz_of (by decide) (Nat.le_of_ble_eq_true rfl) rfl rfl (zX2_readMouth_0 hs1 ?_)
  refine ⟨fun c => ?_, fun c => ?_⟩
  · have h := g_ip c h
    obtain ⟨S1, hc, h⟩ := g_b1s h
    refine ⟨4, _, (by decide), CX8_advance  hc, ?_⟩
    rintro _ rfl
    obtain ⟨S2, b3, hc, h⟩ := g_b2s h
    refine ⟨6, _, (by decide), CX2_isNewName hs1 hc, ?_⟩
    rintro _ _ ⟨rfl, rfl⟩
    refine ⟨fun c => ?_, fun c => ?_⟩
    · have h := g_bt c h
      obtain ⟨hv4, h⟩ := g_vs h
      refine ⟨hv4, ?_⟩
      intro S5 eS
      have h := g_lts eS h
      obtain ⟨S6, hc, h⟩ := g_b1s h
      refine ⟨4, _, (by decide), CX8_advance  hc, ?_⟩
      rintro _ rfl
      obtain ⟨S7, x8, hc, h⟩ := g_b2s h
      refine ⟨5, _, (by decide), CX2_kindHere  hc, ?_⟩
      rintro _ _ ⟨rfl, rfl⟩
      intro S9 eS
      have h := g_lts eS h
      refine ⟨fun c => ?_, fun c => ?_⟩
      · have h := g_in c h
        obtain ⟨S10, hc, h⟩ := g_b1s h
        refine ⟨4, _, (by decide), CX8_advance  hc, ?_⟩
        rintro _ rfl
        obtain ⟨S11, x12, hc, h⟩ := g_b2s h
        refine ⟨6, _, (by decide), CX2_readMeasure (by decide) hc, ?_⟩
        rintro _ _ ⟨rfl, rfl⟩
        intro S13 eS
        have h := g_lts eS h
        refine ⟨fun c => ?_, fun c => ?_⟩
        · have h := g_in c h
          obtain ⟨S14, x15, hc, h⟩ := g_b2s h
          refine ⟨6, _, (by decide), CX2_readMeasure (by decide) hc, ?_⟩
          rintro _ _ ⟨rfl, rfl⟩
          intro S16 eS
          have h := g_lts eS h
          exact (lX2_readMouth FU).1 _ _ _ hs1 h
        · have h := g_ip c h
          intro S17 eS
          have h := g_lts eS h
          exact (lX2_readMouth FU).1 _ _ _ hs1 h
      · have h := g_ip c h
        obtain ⟨S18, b19, hc, h⟩ := g_b2s h
        refine ⟨0, _, (by decide), CX8_fail  hc, ?_⟩
        rintro _ _ ⟨rfl, rfl⟩
        cases h; exact ⟨rfl, rfl⟩
    · have h := g_bf c h
      cases h; exact ⟨rfl, rfl⟩
  · have h := g_in c h
    obtain ⟨S20, b21, hc, h⟩ := g_b2s h
    refine ⟨0, _, (by decide), CX8_fail  hc, ?_⟩
    rintro _ _ ⟨rfl, rfl⟩
    cases h; exact ⟨rfl, rfl⟩

noncomputable def bX5_readDay_17  (rec : Nat → gS → Nat → Nat → Int32 → Int32 → Option (gS × Int32)) (S : gS) (a1 : Nat) (a2 : Nat) (i3 : Int32) (i4 : Int32) : Option (gS × Int32) := if (40 : Int32) < i4 then (g_b2 (FX8_close S ) (fun S1 x2 => some (S1, x2))) else (if i3 = 0 then (g_b2 (FX8_close S ) (fun S3 x4 => some (S3, x4))) else (g_b2 (FX8_isEnd S ) (fun S5 b6 => if b6 = true then (g_b2 (FX8_close S5 ) (fun S7 x8 => some (S7, x8))) else (g_b2 (FX5_readLine S5 (a1) (a2)) (fun S9 b10 => if b10 = true then (g_b2 (FX8_takeSign S9 ((59 : Int32))) (fun S11 b12 => if b12 = true then (rec 17 S11 (a1) (a2) ((1 : Int32)) ((i4 + 1))) else (rec 17 S11 (a1) (a2) ((0 : Int32)) ((i4 + 1))))) else (rec 17 S9 (a1) (a2) ((0 : Int32)) ((i4 + 1))))))))
noncomputable def fX5_readDay  : Nat → Nat → gS → Nat → Nat → Int32 → Int32 → Option (gS × Int32)
  | 0 => fun _ _ _ _ _ _ => none
  | k + 1 => fun pc S a1 a2 i3 i4 => if pc = 17 then bX5_readDay_17  (fX5_readDay  k) S a1 a2 i3 i4 else none
noncomputable def FX5_readDay (S : gS) (a1 : Nat) (a2 : Nat) : Option (gS × Int32) := g_lt (uI S (a2) 0 ((0 : Int32))) (fun S1 => g_b1 (FX8_open S1 ) (fun S2 => fX5_readDay  FU 17 S2 (a1) (a2) ((1 : Int32)) ((0 : Int32))))
set_option maxRecDepth 100000 in
theorem lX5_readDay  {n : Nat} {R : gS × Int32} : ∀ k : Nat, (∀ (S : gS) (a1 : Nat) (a2 : Nat) (i3 : Int32) (i4 : Int32) (hs1 : isF a1) (hs2 : isD a2), fX5_readDay  k 17 S a1 a2 i3 i4 = some R → gG 8 mX5_readDay 0 0 (g_Xj mX5_readDay n 0 0 (hPi (fun S2 x2 => S2 = R.1 ∧ x2 = R.2))) 17 n (hH S) [some (.ref (5)), some (.ref (a1)), some (.ref (a2)), some (.int (i3)), some (.int (i4))] [] 0 0) := by
  intro k
  induction k with
  | zero => exact fun _ _ _ _ _ _ _ h => (by cases h)
  | succ k ih =>
    have hrec_17 := ih
    · intro S a1 a2 i3 i4 hs1 hs2 h
      rw [fX5_readDay] at h
      have h := g_ip rfl h
      unfold bX5_readDay_17 at h
      refine zX5_readDay_17 hs1 hs2 ?_
      refine ⟨fun c => ?_, fun c => ?_⟩
      · have h := g_ip c h
        obtain ⟨S1, x2, hc, h⟩ := g_b2s h
        refine ⟨0, _, (by decide), CX8_close  hc, ?_⟩
        rintro _ _ ⟨rfl, rfl⟩
        cases h; exact ⟨rfl, rfl⟩
      · have h := g_in c h
        refine ⟨fun c => ?_, fun c => ?_⟩
        · have h := g_ip c h
          obtain ⟨S3, x4, hc, h⟩ := g_b2s h
          refine ⟨0, _, (by decide), CX8_close  hc, ?_⟩
          rintro _ _ ⟨rfl, rfl⟩
          cases h; exact ⟨rfl, rfl⟩
        · have h := g_in c h
          obtain ⟨S5, b6, hc, h⟩ := g_b2s h
          refine ⟨0, _, (by decide), CX8_isEnd  hc, ?_⟩
          rintro _ _ ⟨rfl, rfl⟩
          refine ⟨fun c => ?_, fun c => ?_⟩
          · have h := g_bt c h
            obtain ⟨S7, x8, hc, h⟩ := g_b2s h
            refine ⟨0, _, (by decide), CX8_close  hc, ?_⟩
            rintro _ _ ⟨rfl, rfl⟩
            cases h; exact ⟨rfl, rfl⟩
          · have h := g_bf c h
            obtain ⟨S9, b10, hc, h⟩ := g_b2s h
            refine ⟨7, _, (by decide), CX5_readLine hs1 hs2 hc, ?_⟩
            rintro _ _ ⟨rfl, rfl⟩
            refine ⟨fun c => ?_, fun c => ?_⟩
            · have h := g_bf c h
              exact hrec_17 _ _ _ _ _ hs1 hs2 h
            · have h := g_bt c h
              obtain ⟨S11, b12, hc, h⟩ := g_b2s h
              refine ⟨5, _, (by decide), CX8_takeSign  hc, ?_⟩
              rintro _ _ ⟨rfl, rfl⟩
              refine ⟨fun c => ?_, fun c => ?_⟩
              · have h := g_bf c h
                exact hrec_17 _ _ _ _ _ hs1 hs2 h
              · have h := g_bt c h
                exact hrec_17 _ _ _ _ _ hs1 hs2 h
theorem CX5_readDay {n : Nat} {S : gS} {R : gS × Int32} {a1 : Nat} {a2 : Nat} (hs1 : isF a1) (hs2 : isD a2) (h : FX5_readDay S a1 a2 = some R) : sCi 8 mX5_readDay n S [.ref (5), .ref (a1), .ref (a2)] (fun S2 x2 => S2 = R.1 ∧ x2 = R.2) := by
  unfold FX5_readDay at h
  refine gCj_of (by decide) (Nat.le_of_ble_eq_true rfl) rfl rfl (zX5_readDay_0 hs1 hs2 ?_)
  intro S1 eS
  have h := g_lts eS h
  obtain ⟨S2, hc, h⟩ := g_b1s h
  refine ⟨5, _, (by decide), CX8_open  hc, ?_⟩
  rintro _ rfl
  exact (lX5_readDay FU) _ _ _ _ _ hs1 hs2 h

noncomputable def bX5_readWord_17  (rec : Nat → gS → Nat → Nat → Int32 → Int32 → Option (gS × Int32)) (S : gS) (a1 : Nat) (a2 : Nat) (i3 : Int32) (i4 : Int32) : Option (gS × Int32) := if (7 : Int32) < i4 then (g_b2 (FX8_close S ) (fun S1 x2 => some (S1, x2))) else (if i3 = 0 then (g_b2 (FX8_close S ) (fun S3 x4 => some (S3, x4))) else (if i4 = 0 then (g_b2 (FX5_readLetterName S (a1) (a2)) (fun S5 b6 => rec 17 S5 (a1) (a2) ((g_b b6)) ((i4 + 1)))) else (g_b2 (FX8_isEnd S ) (fun S7 b8 => if b8 = true then (g_b2 (FX8_close S7 ) (fun S9 x10 => some (S9, x10))) else (g_b2 (FX5_readLetterName S7 (a1) (a2)) (fun S11 b12 => rec 17 S11 (a1) (a2) ((g_b b12)) ((i4 + 1))))))))
noncomputable def fX5_readWord  : Nat → Nat → gS → Nat → Nat → Int32 → Int32 → Option (gS × Int32)
  | 0 => fun _ _ _ _ _ _ => none
  | k + 1 => fun pc S a1 a2 i3 i4 => if pc = 17 then bX5_readWord_17  (fX5_readWord  k) S a1 a2 i3 i4 else none
noncomputable def FX5_readWord (S : gS) (a1 : Nat) (a2 : Nat) : Option (gS × Int32) := g_lt (uI S (a2) 0 ((0 : Int32))) (fun S1 => g_b1 (FX8_open S1 ) (fun S2 => fX5_readWord  FU 17 S2 (a1) (a2) ((1 : Int32)) ((0 : Int32))))
set_option maxRecDepth 100000 in
theorem lX5_readWord  {n : Nat} {R : gS × Int32} : ∀ k : Nat, (∀ (S : gS) (a1 : Nat) (a2 : Nat) (i3 : Int32) (i4 : Int32) (hs1 : isF a1) (hs2 : isWd a2), fX5_readWord  k 17 S a1 a2 i3 i4 = some R → gG 7 mX5_readWord 0 0 (g_Xj mX5_readWord n 0 0 (hPi (fun S2 x2 => S2 = R.1 ∧ x2 = R.2))) 17 n (hH S) [some (.ref (5)), some (.ref (a1)), some (.ref (a2)), some (.int (i3)), some (.int (i4))] [] 0 0) := by
  intro k
  induction k with
  | zero => exact fun _ _ _ _ _ _ _ h => (by cases h)
  | succ k ih =>
    have hrec_17 := ih
    · intro S a1 a2 i3 i4 hs1 hs2 h
      rw [fX5_readWord] at h
      have h := g_ip rfl h
      unfold bX5_readWord_17 at h
      refine zX5_readWord_17 hs1 hs2 ?_
      refine ⟨fun c => ?_, fun c => ?_⟩
      · have h := g_ip c h
        obtain ⟨S1, x2, hc, h⟩ := g_b2s h
        refine ⟨0, _, (by decide), CX8_close  hc, ?_⟩
        rintro _ _ ⟨rfl, rfl⟩
        cases h; exact ⟨rfl, rfl⟩
      · have h := g_in c h
        refine ⟨fun c => ?_, fun c => ?_⟩
        · have h := g_ip c h
          obtain ⟨S3, x4, hc, h⟩ := g_b2s h
          refine ⟨0, _, (by decide), CX8_close  hc, ?_⟩
          rintro _ _ ⟨rfl, rfl⟩
          cases h; exact ⟨rfl, rfl⟩
        · have h := g_in c h
          refine ⟨fun c => ?_, fun c => ?_⟩
          · have h := g_ip c h
            obtain ⟨S5, b6, hc, h⟩ := g_b2s h
            refine ⟨6, _, (by decide), CX5_readLetterName hs1 hs2 hc, ?_⟩
            rintro _ _ ⟨rfl, rfl⟩
            exact hrec_17 _ _ _ _ _ hs1 hs2 h
          · have h := g_in c h
            obtain ⟨S7, b8, hc, h⟩ := g_b2s h
            refine ⟨0, _, (by decide), CX8_isEnd  hc, ?_⟩
            rintro _ _ ⟨rfl, rfl⟩
            refine ⟨fun c => ?_, fun c => ?_⟩
            · have h := g_bt c h
              obtain ⟨S9, x10, hc, h⟩ := g_b2s h
              refine ⟨0, _, (by decide), CX8_close  hc, ?_⟩
              rintro _ _ ⟨rfl, rfl⟩
              cases h; exact ⟨rfl, rfl⟩
            · have h := g_bf c h
              obtain ⟨S11, b12, hc, h⟩ := g_b2s h
              refine ⟨6, _, (by decide), CX5_readLetterName hs1 hs2 hc, ?_⟩
              rintro _ _ ⟨rfl, rfl⟩
              exact hrec_17 _ _ _ _ _ hs1 hs2 h
theorem CX5_readWord {n : Nat} {S : gS} {R : gS × Int32} {a1 : Nat} {a2 : Nat} (hs1 : isF a1) (hs2 : isWd a2) (h : FX5_readWord S a1 a2 = some R) : sCi 7 mX5_readWord n S [.ref (5), .ref (a1), .ref (a2)] (fun S2 x2 => S2 = R.1 ∧ x2 = R.2) := by
  unfold FX5_readWord at h
  refine gCj_of (by decide) (Nat.le_of_ble_eq_true rfl) rfl rfl (zX5_readWord_0 hs1 hs2 ?_)
  intro S1 eS
  have h := g_lts eS h
  obtain ⟨S2, hc, h⟩ := g_b1s h
  refine ⟨5, _, (by decide), CX8_open  hc, ?_⟩
  rintro _ rfl
  exact (lX5_readWord FU) _ _ _ _ _ hs1 hs2 h
