noncomputable def FX0_copyFrom (S : gS) (a0 : Nat) (a1 : Nat) : Option (gS) := g_lt (uI S (a0) 0 ((sI S (a1) 0))) (fun S1 => g_lt (uA S1 ((a0 + 1)) (va_cpy (sR S1 ((a1 + 1))) (sR S1 ((a0 + 1))) (Int32.toNatClampNeg ((0 : Int32))) (Int32.toNatClampNeg ((0 : Int32))) (Int32.toNatClampNeg ((40 : Int32))))) (fun S2 => g_lt (uA S2 ((a0 + 2)) (va_cpy (sR S2 ((a1 + 2))) (sR S2 ((a0 + 2))) (Int32.toNatClampNeg ((0 : Int32))) (Int32.toNatClampNeg ((0 : Int32))) (Int32.toNatClampNeg ((40 : Int32))))) (fun S3 => g_lt (uA S3 ((a0 + 3)) (va_cpy (sR S3 ((a1 + 3))) (sR S3 ((a0 + 3))) (Int32.toNatClampNeg ((0 : Int32))) (Int32.toNatClampNeg ((0 : Int32))) (Int32.toNatClampNeg ((40 : Int32))))) (fun S4 => some S4))))
theorem CX0_copyFrom {n : Nat} {S : gS} {R : gS} {a0 : Nat} {a1 : Nat} (hs0 : isD a0) (hs1 : isD a1) (h : FX0_copyFrom S a0 a1 = some R) : sCv 1 mX0_copyFrom n S [.ref (a0), .ref (a1)] (fun S2 => S2 = R) := by
  unfold FX0_copyFrom at h
  refine gCv_of (by decide) (Nat.le_of_ble_eq_true rfl) rfl rfl (zX0_copyFrom_0 hs0 hs1 (by decide) ?_)
  intro S1 eS
  have h := g_lts eS h
  intro S2 eS
  have h := g_lts eS h
  intro S3 eS
  have h := g_lts eS h
  intro S4 eS
  have h := g_lts eS h
  cases h; exact rfl

noncomputable def FX1_forget (S : gS) (a0 : Nat) : Option (gS) := g_lt (uI S (a0) 0 ((0 : Int32))) (fun S1 => g_lt (uI S1 (a0) 8 ((0 : Int32))) (fun S2 => g_lt (uI S2 (a0) 11 ((0 : Int32))) (fun S3 => g_lt (uI S3 ((a0 + 11)) 1 ((0 : Int32))) (fun S4 => some S4))))
theorem CX1_forget {n : Nat} {S : gS} {R : gS} {a0 : Nat} (hs0 : isF a0) (h : FX1_forget S a0 = some R) : sCv 0 mX1_forget n S [.ref (a0)] (fun S2 => S2 = R) := by
  unfold FX1_forget at h
  refine gCv_of (by decide) (Nat.le_of_ble_eq_true rfl) rfl rfl (zX1_forget_0 hs0 ?_)
  intro S1 eS
  have h := g_lts eS h
  intro S2 eS
  have h := g_lts eS h
  intro S3 eS
  have h := g_lts eS h
  intro S4 eS
  have h := g_lts eS h
  cases h; exact rfl

noncomputable def bX1_mouthNamed_2  (rec : Nat → gS → Nat → Int64 → Int32 → Option (gS × Int32)) (S : gS) (a0 : Nat) (j1 : Int64) (i3 : Int32) : Option (gS × Int32) := if (sI S (a0) 0) ≤ i3 then (some (S, (-1 : Int32))) else (if g_vp (i3) 7 = true then (if (lg_cmp (sL S ((a0 + 1)) (Int32.toNatClampNeg (i3))) j1) = 0 then (some (S, i3)) else (rec 2 S (a0) (j1) ((i3 + 1)))) else none)
noncomputable def fX1_mouthNamed  : Nat → Nat → gS → Nat → Int64 → Int32 → Option (gS × Int32)
  | 0 => fun _ _ _ _ _ => none
  | k + 1 => fun pc S a0 j1 i3 => if pc = 2 then bX1_mouthNamed_2  (fX1_mouthNamed  k) S a0 j1 i3 else none
noncomputable def FX1_mouthNamed (S : gS) (a0 : Nat) (j1 : Int64) : Option (gS × Int32) := fX1_mouthNamed  FU 2 S (a0) (j1) ((0 : Int32))
set_option maxRecDepth 100000 in
theorem lX1_mouthNamed  {n : Nat} {R : gS × Int32} : ∀ k : Nat, (∀ (S : gS) (a0 : Nat) (j1 : Int64) (i3 : Int32) (hs0 : isF a0), fX1_mouthNamed  k 2 S a0 j1 i3 = some R → gG 0 mX1_mouthNamed 0 0 (g_Xj mX1_mouthNamed n 0 0 (hPi (fun S2 x2 => S2 = R.1 ∧ x2 = R.2))) 2 n (hH S) [some (.ref (a0)), some (.long (j1)), none, some (.int (i3))] [] 0 0) := by
  intro k
  induction k with
  | zero => exact fun _ _ _ _ _ h => (by cases h)
  | succ k ih =>
    have hrec_2 := ih
    · intro S a0 j1 i3 hs0 h
      rw [fX1_mouthNamed] at h
      have h := g_ip rfl h
      unfold bX1_mouthNamed_2 at h
      refine zX1_mouthNamed_2 hs0 ?_
      refine ⟨fun c => ?_, fun c => ?_⟩
      · have h := g_ip c h
        cases h; exact ⟨rfl, rfl⟩
      · have h := g_in c h
        obtain ⟨hv1, h⟩ := g_vs h
        refine ⟨hv1, ?_⟩
        refine ⟨fun c => ?_, fun c => ?_⟩
        · have h := g_in c h
          exact hrec_2 _ _ _ _ hs0 h
        · have h := g_ip c h
          cases h; exact ⟨rfl, rfl⟩
theorem CX1_mouthNamed {n : Nat} {S : gS} {R : gS × Int32} {a0 : Nat} {j1 : Int64} (hs0 : isF a0) (h : FX1_mouthNamed S a0 j1 = some R) : sCi 0 mX1_mouthNamed n S [.ref (a0), .long (j1)] (fun S2 x2 => S2 = R.1 ∧ x2 = R.2) := by
  unfold FX1_mouthNamed at h
  refine gCj_of (by decide) (Nat.le_of_ble_eq_true rfl) rfl rfl (zX1_mouthNamed_0 hs0 ?_)
  exact (lX1_mouthNamed FU) _ _ _ _ hs0 h

noncomputable def bX1_letterNamed_2  (rec : Nat → gS → Nat → Int64 → Int32 → Option (gS × Int32)) (S : gS) (a0 : Nat) (j1 : Int64) (i3 : Int32) : Option (gS × Int32) := if (sI S (a0) 8) ≤ i3 then (some (S, (-1 : Int32))) else (if g_vp (i3) 6 = true then (if (lg_cmp (sL S ((a0 + 8)) (Int32.toNatClampNeg (i3))) j1) = 0 then (some (S, i3)) else (rec 2 S (a0) (j1) ((i3 + 1)))) else none)
noncomputable def fX1_letterNamed  : Nat → Nat → gS → Nat → Int64 → Int32 → Option (gS × Int32)
  | 0 => fun _ _ _ _ _ => none
  | k + 1 => fun pc S a0 j1 i3 => if pc = 2 then bX1_letterNamed_2  (fX1_letterNamed  k) S a0 j1 i3 else none
noncomputable def FX1_letterNamed (S : gS) (a0 : Nat) (j1 : Int64) : Option (gS × Int32) := fX1_letterNamed  FU 2 S (a0) (j1) ((0 : Int32))
set_option maxRecDepth 100000 in
theorem lX1_letterNamed  {n : Nat} {R : gS × Int32} : ∀ k : Nat, (∀ (S : gS) (a0 : Nat) (j1 : Int64) (i3 : Int32) (hs0 : isF a0), fX1_letterNamed  k 2 S a0 j1 i3 = some R → gG 0 mX1_letterNamed 0 0 (g_Xj mX1_letterNamed n 0 0 (hPi (fun S2 x2 => S2 = R.1 ∧ x2 = R.2))) 2 n (hH S) [some (.ref (a0)), some (.long (j1)), none, some (.int (i3))] [] 0 0) := by
  intro k
  induction k with
  | zero => exact fun _ _ _ _ _ h => (by cases h)
  | succ k ih =>
    have hrec_2 := ih
    · intro S a0 j1 i3 hs0 h
      rw [fX1_letterNamed] at h
      have h := g_ip rfl h
      unfold bX1_letterNamed_2 at h
      refine zX1_letterNamed_2 hs0 ?_
      refine ⟨fun c => ?_, fun c => ?_⟩
      · have h := g_ip c h
        cases h; exact ⟨rfl, rfl⟩
      · have h := g_in c h
        obtain ⟨hv1, h⟩ := g_vs h
        refine ⟨hv1, ?_⟩
        refine ⟨fun c => ?_, fun c => ?_⟩
        · have h := g_in c h
          exact hrec_2 _ _ _ _ hs0 h
        · have h := g_ip c h
          cases h; exact ⟨rfl, rfl⟩
theorem CX1_letterNamed {n : Nat} {S : gS} {R : gS × Int32} {a0 : Nat} {j1 : Int64} (hs0 : isF a0) (h : FX1_letterNamed S a0 j1 = some R) : sCi 0 mX1_letterNamed n S [.ref (a0), .long (j1)] (fun S2 x2 => S2 = R.1 ∧ x2 = R.2) := by
  unfold FX1_letterNamed at h
  refine gCj_of (by decide) (Nat.le_of_ble_eq_true rfl) rfl rfl (zX1_letterNamed_0 hs0 ?_)
  exact (lX1_letterNamed FU) _ _ _ _ hs0 h

noncomputable def FX1_isTold (S : gS) (a0 : Nat) (j1 : Int64) : Option (gS × Bool) := g_b2 (FX1_mouthNamed S (a0) (j1)) (fun S1 x2 => if x2 = (-1 : Int32) then (g_b2 (FX1_letterNamed S1 (a0) (j1)) (fun S3 x4 => if x4 = (-1 : Int32) then (some (S3, false)) else (some (S3, true)))) else (some (S1, true)))
theorem CX1_isTold {n : Nat} {S : gS} {R : gS × Bool} {a0 : Nat} {j1 : Int64} (hs0 : isF a0) (h : FX1_isTold S a0 j1 = some R) : sCz 1 mX1_isTold n S [.ref (a0), .long (j1)] (fun S2 x2 => S2 = R.1 ∧ x2 = R.2) := by
  unfold FX1_isTold at h
  refine gCz_of (by decide) (Nat.le_of_ble_eq_true rfl) rfl rfl (zX1_isTold_0 hs0 ?_)
  obtain ⟨S1, x2, hc, h⟩ := g_b2s h
  refine ⟨0, _, (by decide), CX1_mouthNamed hs0 hc, ?_⟩
  rintro _ _ ⟨rfl, rfl⟩
  refine ⟨fun c => ?_, fun c => ?_⟩
  · have h := g_in c h
    cases h; exact ⟨rfl, rfl⟩
  · have h := g_ip c h
    obtain ⟨S3, x4, hc, h⟩ := g_b2s h
    refine ⟨0, _, (by decide), CX1_letterNamed hs0 hc, ?_⟩
    rintro _ _ ⟨rfl, rfl⟩
    refine ⟨fun c => ?_, fun c => ?_⟩
    · have h := g_ip c h
      cases h; exact ⟨rfl, rfl⟩
    · have h := g_in c h
      cases h; exact ⟨rfl, rfl⟩

noncomputable def bX1_letterOf_2  (rec : Nat → gS → Nat → Int32 → Int32 → Option (gS × Int32)) (S : gS) (a0 : Nat) (i1 : Int32) (i2 : Int32) : Option (gS × Int32) := if (sI S (a0) 8) ≤ i2 then (some (S, (-1 : Int32))) else (if g_vp (i2) 6 = true then (if (sR S ((a0 + 9)) (Int32.toNatClampNeg (i2))) = i1 then (some (S, i2)) else (rec 2 S (a0) (i1) ((i2 + 1)))) else none)
noncomputable def fX1_letterOf  : Nat → Nat → gS → Nat → Int32 → Int32 → Option (gS × Int32)
  | 0 => fun _ _ _ _ _ => none
  | k + 1 => fun pc S a0 i1 i2 => if pc = 2 then bX1_letterOf_2  (fX1_letterOf  k) S a0 i1 i2 else none
noncomputable def FX1_letterOf (S : gS) (a0 : Nat) (i1 : Int32) : Option (gS × Int32) := fX1_letterOf  FU 2 S (a0) (i1) ((0 : Int32))
set_option maxRecDepth 100000 in
theorem lX1_letterOf  {n : Nat} {R : gS × Int32} : ∀ k : Nat, (∀ (S : gS) (a0 : Nat) (i1 : Int32) (i2 : Int32) (hs0 : isF a0), fX1_letterOf  k 2 S a0 i1 i2 = some R → gG 0 mX1_letterOf 0 0 (g_Xj mX1_letterOf n 0 0 (hPi (fun S2 x2 => S2 = R.1 ∧ x2 = R.2))) 2 n (hH S) [some (.ref (a0)), some (.int (i1)), some (.int (i2))] [] 0 0) := by
  intro k
  induction k with
  | zero => exact fun _ _ _ _ _ h => (by cases h)
  | succ k ih =>
    have hrec_2 := ih
    · intro S a0 i1 i2 hs0 h
      rw [fX1_letterOf] at h
      have h := g_ip rfl h
      unfold bX1_letterOf_2 at h
      refine zX1_letterOf_2 hs0 ?_
      refine ⟨fun c => ?_, fun c => ?_⟩
      · have h := g_ip c h
        cases h; exact ⟨rfl, rfl⟩
      · have h := g_in c h
        obtain ⟨hv1, h⟩ := g_vs h
        refine ⟨hv1, ?_⟩
        refine ⟨fun c => ?_, fun c => ?_⟩
        · have h := g_in c h
          exact hrec_2 _ _ _ _ hs0 h
        · have h := g_ip c h
          cases h; exact ⟨rfl, rfl⟩
theorem CX1_letterOf {n : Nat} {S : gS} {R : gS × Int32} {a0 : Nat} {i1 : Int32} (hs0 : isF a0) (h : FX1_letterOf S a0 i1 = some R) : sCi 0 mX1_letterOf n S [.ref (a0), .int (i1)] (fun S2 x2 => S2 = R.1 ∧ x2 = R.2) := by
  unfold FX1_letterOf at h
  refine gCj_of (by decide) (Nat.le_of_ble_eq_true rfl) rfl rfl (zX1_letterOf_0 hs0 ?_)
  exact (lX1_letterOf FU) _ _ _ _ hs0 h

noncomputable def FX1_readOf (S : gS) (a0 : Nat) (i1 : Int32) : Option (gS × Int32) := g_b2 (FX1_letterOf S (a0) (i1)) (fun S1 x2 => if x2 = (-1 : Int32) then (if i1 = 0 then (some (S1, x2)) else (some (S1, (6 : Int32)))) else (some (S1, x2)))
theorem CX1_readOf {n : Nat} {S : gS} {R : gS × Int32} {a0 : Nat} {i1 : Int32} (hs0 : isF a0) (h : FX1_readOf S a0 i1 = some R) : sCi 1 mX1_readOf n S [.ref (a0), .int (i1)] (fun S2 x2 => S2 = R.1 ∧ x2 = R.2) := by
  unfold FX1_readOf at h
  refine gCj_of (by decide) (Nat.le_of_ble_eq_true rfl) rfl rfl (zX1_readOf_0 hs0 ?_)
  obtain ⟨S1, x2, hc, h⟩ := g_b2s h
  refine ⟨0, _, (by decide), CX1_letterOf hs0 hc, ?_⟩
  rintro _ _ ⟨rfl, rfl⟩
  refine ⟨fun c => ?_, fun c => ?_⟩
  · have h := g_in c h
    cases h; exact ⟨rfl, rfl⟩
  · have h := g_ip c h
    refine ⟨fun c => ?_, fun c => ?_⟩
    · have h := g_ip c h
      cases h; exact ⟨rfl, rfl⟩
    · have h := g_in c h
      cases h; exact ⟨rfl, rfl⟩

noncomputable def FX1_rainOf (S : gS) (a0 : Nat) (i1 : Int32) : Option (gS × Int32) := if (sI S (a0) 11) ≤ 0 then (some (S, (0 : Int32))) else (if i1 < 0 then (some (S, (0 : Int32))) else (if (sI S (a0) 11) = 0 then none else (if g_vp ((i1 - i1 / (sI S (a0) 11) * (sI S (a0) 11))) 12 = true then (some (S, (sR S ((a0 + 10)) (Int32.toNatClampNeg ((i1 - i1 / (sI S (a0) 11) * (sI S (a0) 11))))))) else none)))
theorem CX1_rainOf {n : Nat} {S : gS} {R : gS × Int32} {a0 : Nat} {i1 : Int32} (hs0 : isF a0) (h : FX1_rainOf S a0 i1 = some R) : sCi 0 mX1_rainOf n S [.ref (a0), .int (i1)] (fun S2 x2 => S2 = R.1 ∧ x2 = R.2) := by
  unfold FX1_rainOf at h
  refine gCj_of (by decide) (Nat.le_of_ble_eq_true rfl) rfl rfl (zX1_rainOf_0 hs0 ?_)
  refine ⟨fun c => ?_, fun c => ?_⟩
  · have h := g_ip c h
    cases h; exact ⟨rfl, rfl⟩
  · have h := g_in c h
    refine ⟨fun c => ?_, fun c => ?_⟩
    · have h := g_ip c h
      cases h; exact ⟨rfl, rfl⟩
    · have h := g_in c h
      obtain ⟨hz, h⟩ := g_nn h
      refine ⟨hz, ?_⟩
      obtain ⟨hv1, h⟩ := g_vs h
      refine ⟨hv1, ?_⟩
      cases h; exact ⟨rfl, rfl⟩

noncomputable def bX1_nests_4  (rec : Nat → gS → Nat → Int32 → Int32 → Option (gS × Int32)) (S : gS) (a0 : Nat) (i1 : Int32) (i2 : Int32) : Option (gS × Int32) := if (sI S (a0) 0) ≤ i2 then (some (S, i1)) else (if g_vp (i2) 7 = true then (if (sR S ((a0 + 2)) (Int32.toNatClampNeg (i2))) = (3 : Int32) then (rec 4 S (a0) ((i1 ||| ((1 : Int32) <<< (i2 &&& 31)))) ((i2 + 1))) else (rec 4 S (a0) (i1) ((i2 + 1)))) else none)
noncomputable def fX1_nests  : Nat → Nat → gS → Nat → Int32 → Int32 → Option (gS × Int32)
  | 0 => fun _ _ _ _ _ => none
  | k + 1 => fun pc S a0 i1 i2 => if pc = 4 then bX1_nests_4  (fX1_nests  k) S a0 i1 i2 else none
noncomputable def FX1_nests (S : gS) (a0 : Nat) : Option (gS × Int32) := fX1_nests  FU 4 S (a0) ((0 : Int32)) ((0 : Int32))
set_option maxRecDepth 100000 in
theorem lX1_nests  {n : Nat} {R : gS × Int32} : ∀ k : Nat, (∀ (S : gS) (a0 : Nat) (i1 : Int32) (i2 : Int32) (hs0 : isF a0), fX1_nests  k 4 S a0 i1 i2 = some R → gG 0 mX1_nests 0 0 (g_Xj mX1_nests n 0 0 (hPi (fun S2 x2 => S2 = R.1 ∧ x2 = R.2))) 4 n (hH S) [some (.ref (a0)), some (.int (i1)), some (.int (i2))] [] 0 0) := by
  intro k
  induction k with
  | zero => exact fun _ _ _ _ _ h => (by cases h)
  | succ k ih =>
    have hrec_4 := ih
    · intro S a0 i1 i2 hs0 h
      rw [fX1_nests] at h
      have h := g_ip rfl h
      unfold bX1_nests_4 at h
      refine zX1_nests_4 hs0 ?_
      refine ⟨fun c => ?_, fun c => ?_⟩
      · have h := g_ip c h
        cases h; exact ⟨rfl, rfl⟩
      · have h := g_in c h
        obtain ⟨hv1, h⟩ := g_vs h
        refine ⟨hv1, ?_⟩
        refine ⟨fun c => ?_, fun c => ?_⟩
        · have h := g_in c h
          exact hrec_4 _ _ _ _ hs0 h
        · have h := g_ip c h
          exact hrec_4 _ _ _ _ hs0 h
theorem CX1_nests {n : Nat} {S : gS} {R : gS × Int32} {a0 : Nat} (hs0 : isF a0) (h : FX1_nests S a0 = some R) : sCi 0 mX1_nests n S [.ref (a0)] (fun S2 x2 => S2 = R.1 ∧ x2 = R.2) := by
  unfold FX1_nests at h
  refine gCj_of (by decide) (Nat.le_of_ble_eq_true rfl) rfl rfl (zX1_nests_0 hs0 ?_)
  exact (lX1_nests FU) _ _ _ _ hs0 h

noncomputable def FX1_mostSpouted (S : gS) (a0 : Nat) (i1 : Int32) : Option (gS × Int32) := if g_vp (i1) 7 = true then (if (sR S ((a0 + 2)) (Int32.toNatClampNeg (i1))) = (1 : Int32) then (some (S, (6 : Int32))) else (if (sR S ((a0 + 2)) (Int32.toNatClampNeg (i1))) = (2 : Int32) then (some (S, (1 : Int32))) else (some (S, (3 : Int32))))) else none
theorem CX1_mostSpouted {n : Nat} {S : gS} {R : gS × Int32} {a0 : Nat} {i1 : Int32} (hs0 : isF a0) (h : FX1_mostSpouted S a0 i1 = some R) : sCi 0 mX1_mostSpouted n S [.ref (a0), .int (i1)] (fun S2 x2 => S2 = R.1 ∧ x2 = R.2) := by
  unfold FX1_mostSpouted at h
  refine gCj_of (by decide) (Nat.le_of_ble_eq_true rfl) rfl rfl (zX1_mostSpouted_0 hs0 ?_)
  obtain ⟨hv1, h⟩ := g_vs h
  refine ⟨hv1, ?_⟩
  refine ⟨fun c => ?_, fun c => ?_⟩
  · have h := g_in c h
    refine ⟨fun c => ?_, fun c => ?_⟩
    · have h := g_in c h
      cases h; exact ⟨rfl, rfl⟩
    · have h := g_ip c h
      cases h; exact ⟨rfl, rfl⟩
  · have h := g_ip c h
    cases h; exact ⟨rfl, rfl⟩

noncomputable def bX1_below_12  (rec : Nat → gS → Nat → Int32 → Int32 → Int32 → Option (gS × Int32)) (S : gS) (a0 : Nat) (i2 : Int32) (i3 : Int32) (i4 : Int32) : Option (gS × Int32) := if (7 : Int32) ≤ i4 then (some (S, i2)) else (if i3 = (-1 : Int32) then (some (S, i2)) else (if g_vp (i3) 7 = true then (rec 12 S (a0) ((i2 ||| ((1 : Int32) <<< (i3 &&& 31)))) ((sR S ((a0 + 6)) (Int32.toNatClampNeg (i3)))) ((i4 + 1))) else none))
noncomputable def fX1_below  : Nat → Nat → gS → Nat → Int32 → Int32 → Int32 → Option (gS × Int32)
  | 0 => fun _ _ _ _ _ _ => none
  | k + 1 => fun pc S a0 i2 i3 i4 => if pc = 12 then bX1_below_12  (fX1_below  k) S a0 i2 i3 i4 else none
noncomputable def FX1_below (S : gS) (a0 : Nat) (i1 : Int32) : Option (gS × Int32) := if g_vp (i1) 7 = true then (fX1_below  FU 12 S (a0) ((0 : Int32)) ((sR S ((a0 + 6)) (Int32.toNatClampNeg (i1)))) ((0 : Int32))) else none
set_option maxRecDepth 100000 in
theorem lX1_below  {n : Nat} {R : gS × Int32} : ∀ k : Nat, (∀ (S : gS) (a0 : Nat) (i2 : Int32) (i3 : Int32) (i4 : Int32) (hs0 : isF a0), fX1_below  k 12 S a0 i2 i3 i4 = some R → gG 0 mX1_below 0 0 (g_Xj mX1_below n 0 0 (hPi (fun S2 x2 => S2 = R.1 ∧ x2 = R.2))) 12 n (hH S) [some (.ref (a0)), none, some (.int (i2)), some (.int (i3)), some (.int (i4))] [] 0 0) := by
  intro k
  induction k with
  | zero => exact fun _ _ _ _ _ _ h => (by cases h)
  | succ k ih =>
    have hrec_12 := ih
    · intro S a0 i2 i3 i4 hs0 h
      rw [fX1_below] at h
      have h := g_ip rfl h
      unfold bX1_below_12 at h
      refine zX1_below_12 hs0 ?_
      refine ⟨fun c => ?_, fun c => ?_⟩
      · have h := g_ip c h
        cases h; exact ⟨rfl, rfl⟩
      · have h := g_in c h
        refine ⟨fun c => ?_, fun c => ?_⟩
        · have h := g_ip c h
          cases h; exact ⟨rfl, rfl⟩
        · have h := g_in c h
          obtain ⟨hv1, h⟩ := g_vs h
          refine ⟨hv1, ?_⟩
          exact hrec_12 _ _ _ _ _ hs0 h
theorem CX1_below {n : Nat} {S : gS} {R : gS × Int32} {a0 : Nat} {i1 : Int32} (hs0 : isF a0) (h : FX1_below S a0 i1 = some R) : sCi 0 mX1_below n S [.ref (a0), .int (i1)] (fun S2 x2 => S2 = R.1 ∧ x2 = R.2) := by
  unfold FX1_below at h
  refine gCj_of (by decide) (Nat.le_of_ble_eq_true rfl) rfl rfl (zX1_below_0 hs0 ?_)
  obtain ⟨hv1, h⟩ := g_vs h
  refine ⟨hv1, ?_⟩
  exact (lX1_below FU) _ _ _ _ _ hs0 h

noncomputable def bX1_putInOrder_2  (rec : Nat → gS → Nat → Int32 → Int32 → Option (gS)) (S : gS) (a0 : Nat) (i1 : Int32) (i2 : Int32) : Option (gS) := if i2 ≤ 0 then (if g_vp (i2) 7 = true then (g_lt (uR S ((a0 + 7)) (Int32.toNatClampNeg (i2)) (i1)) (fun S2 => some S2)) else none) else (if g_vp ((i2 - (1 : Int32))) 7 = true then (if g_vp ((sR S ((a0 + 7)) (Int32.toNatClampNeg ((i2 - (1 : Int32)))))) 7 = true then (if g_vp (i1) 7 = true then (if (sR S ((a0 + 3)) (Int32.toNatClampNeg (i1))) ≤ (sR S ((a0 + 3)) (Int32.toNatClampNeg ((sR S ((a0 + 7)) (Int32.toNatClampNeg ((i2 - (1 : Int32)))))))) then (if g_vp (i2) 7 = true then (g_lt (uR S ((a0 + 7)) (Int32.toNatClampNeg (i2)) (i1)) (fun S7 => some S7)) else none) else (if g_vp (i2) 7 = true then (g_lt (uR S ((a0 + 7)) (Int32.toNatClampNeg (i2)) ((sR S ((a0 + 7)) (Int32.toNatClampNeg ((i2 - (1 : Int32))))))) (fun S9 => rec 2 S9 (a0) (i1) ((i2 + (-1))))) else none)) else none) else none) else none)
noncomputable def fX1_putInOrder  : Nat → Nat → gS → Nat → Int32 → Int32 → Option (gS)
  | 0 => fun _ _ _ _ _ => none
  | k + 1 => fun pc S a0 i1 i2 => if pc = 2 then bX1_putInOrder_2  (fX1_putInOrder  k) S a0 i1 i2 else none
noncomputable def FX1_putInOrder (S : gS) (a0 : Nat) (i1 : Int32) : Option (gS) := fX1_putInOrder  FU 2 S (a0) (i1) (i1)
set_option maxRecDepth 100000 in
theorem lX1_putInOrder  {n : Nat} {R : gS} : ∀ k : Nat, (∀ (S : gS) (a0 : Nat) (i1 : Int32) (i2 : Int32) (hs0 : isF a0), fX1_putInOrder  k 2 S a0 i1 i2 = some R → gG 0 mX1_putInOrder 0 0 (g_Xv mX1_putInOrder n 0 0 (hPv (fun S2 => S2 = R))) 2 n (hH S) [some (.ref (a0)), some (.int (i1)), some (.int (i2))] [] 0 0) := by
  intro k
  induction k with
  | zero => exact fun _ _ _ _ _ h => (by cases h)
  | succ k ih =>
    have hrec_2 := ih
    · intro S a0 i1 i2 hs0 h
      rw [fX1_putInOrder] at h
      have h := g_ip rfl h
      unfold bX1_putInOrder_2 at h
      refine zX1_putInOrder_2 hs0 ?_
      refine ⟨fun c => ?_, fun c => ?_⟩
      · have h := g_ip c h
        obtain ⟨hv1, h⟩ := g_vs h
        refine ⟨hv1, ?_⟩
        intro S2 eS
        have h := g_lts eS h
        cases h; exact rfl
      · have h := g_in c h
        obtain ⟨hv3, h⟩ := g_vs h
        refine ⟨hv3, ?_⟩
        obtain ⟨hv4, h⟩ := g_vs h
        refine ⟨hv4, ?_⟩
        obtain ⟨hv5, h⟩ := g_vs h
        refine ⟨hv5, ?_⟩
        refine ⟨fun c => ?_, fun c => ?_⟩
        · have h := g_ip c h
          obtain ⟨hv6, h⟩ := g_vs h
          refine ⟨hv6, ?_⟩
          intro S7 eS
          have h := g_lts eS h
          cases h; exact rfl
        · have h := g_in c h
          obtain ⟨hv8, h⟩ := g_vs h
          refine ⟨hv8, ?_⟩
          intro S9 eS
          have h := g_lts eS h
          exact hrec_2 _ _ _ _ hs0 h
theorem CX1_putInOrder {n : Nat} {S : gS} {R : gS} {a0 : Nat} {i1 : Int32} (hs0 : isF a0) (h : FX1_putInOrder S a0 i1 = some R) : sCv 0 mX1_putInOrder n S [.ref (a0), .int (i1)] (fun S2 => S2 = R) := by
  unfold FX1_putInOrder at h
  refine gCv_of (by decide) (Nat.le_of_ble_eq_true rfl) rfl rfl (zX1_putInOrder_0 hs0 ?_)
  exact (lX1_putInOrder FU) _ _ _ _ hs0 h

noncomputable def FX3_add (S : gS) (a0 : Nat) (i1 : Int32) : Option (gS) := if (1000 : Int32) ≤ (sI S (a0) 1) then (some S) else (if g_vp ((sI S (a0) 1)) 1000 = true then (g_lt (uR S ((a0 + 1)) (Int32.toNatClampNeg ((sI S (a0) 1))) (i1)) (fun S2 => g_lt (uI S2 (a0) 1 (((sI S2 (a0) 1) + (1 : Int32)))) (fun S3 => some S3))) else none)
theorem CX3_add {n : Nat} {S : gS} {R : gS} {a0 : Nat} {i1 : Int32} (hs0 : isLw a0) (h : FX3_add S a0 i1 = some R) : sCv 0 mX3_add n S [.ref (a0), .int (i1)] (fun S2 => S2 = R) := by
  unfold FX3_add at h
  refine gCv_of (by decide) (Nat.le_of_ble_eq_true rfl) rfl rfl (zX3_add_0 hs0 ?_)
  refine ⟨fun c => ?_, fun c => ?_⟩
  · have h := g_ip c h
    cases h; exact rfl
  · have h := g_in c h
    obtain ⟨hv1, h⟩ := g_vs h
    refine ⟨hv1, ?_⟩
    intro S2 eS
    have h := g_lts eS h
    intro S3 eS
    have h := g_lts eS h
    cases h; exact rfl

noncomputable def FX3_fact (S : gS) (i0 : Int32) (i1 : Int32) (i2 : Int32) (i3 : Int32) (i4 : Int32) : Option (gS × Int32) := if i0 = (-3) then (some (S, i3)) else (if i0 = (-2) then (some (S, i2)) else (if i0 = (-1) then (some (S, i1)) else (some (S, i4))))
theorem CX3_fact {n : Nat} {S : gS} {R : gS × Int32} {i0 : Int32} {i1 : Int32} {i2 : Int32} {i3 : Int32} {i4 : Int32}  (h : FX3_fact S i0 i1 i2 i3 i4 = some R) : sCi 0 mX3_fact n S [.int (i0), .int (i1), .int (i2), .int (i3), .int (i4)] (fun S2 x2 => S2 = R.1 ∧ x2 = R.2) := by
  unfold FX3_fact at h
  refine gCj_of (by decide) (Nat.le_of_ble_eq_true rfl) rfl rfl (zX3_fact_0  ?_)
  refine ⟨fun c => ?_, fun c => ?_, fun c => ?_, fun c => ?_⟩
  · have h := g_in (fun z => by rw [z] at c; exact absurd c (by decide)) h; have h := g_in (fun z => by rw [z] at c; exact absurd c (by decide)) h; have h := g_in (fun z => by rw [z] at c; exact absurd c (by decide)) h
    cases h; exact ⟨rfl, rfl⟩
  · have h := g_ip c h
    cases h; exact ⟨rfl, rfl⟩
  · have h := g_in (fun z => absurd (c.symm.trans z) (by decide)) h; have h := g_ip c h
    cases h; exact ⟨rfl, rfl⟩
  · have h := g_in (fun z => absurd (c.symm.trans z) (by decide)) h; have h := g_in (fun z => absurd (c.symm.trans z) (by decide)) h; have h := g_ip c h
    cases h; exact ⟨rfl, rfl⟩

noncomputable def FX3_join (S : gS) (i0 : Int32) (i1 : Int32) (i2 : Int32) : Option (gS × Int32) := if i0 = (-11) then (some (S, (i1 - i2))) else (if i0 = (-10) then (some (S, (i1 + i2))) else (if i0 = (-9) then (if i1 = i2 then (some (S, (1 : Int32))) else (some (S, (0 : Int32)))) else (if i0 = (-8) then (if i2 ≤ i1 then (some (S, (0 : Int32))) else (some (S, (1 : Int32)))) else (if i0 = (-7) then (if i1 = 0 then (if i2 = 0 then (some (S, (0 : Int32))) else (some (S, (1 : Int32)))) else (some (S, (1 : Int32)))) else (if i0 = (-6) then (if i1 = 0 then (some (S, (0 : Int32))) else (if i2 = 0 then (some (S, (0 : Int32))) else (some (S, (1 : Int32))))) else (some (S, (i1 * i2))))))))
theorem CX3_join {n : Nat} {S : gS} {R : gS × Int32} {i0 : Int32} {i1 : Int32} {i2 : Int32}  (h : FX3_join S i0 i1 i2 = some R) : sCi 0 mX3_join n S [.int (i0), .int (i1), .int (i2)] (fun S2 x2 => S2 = R.1 ∧ x2 = R.2) := by
  unfold FX3_join at h
  refine gCj_of (by decide) (Nat.le_of_ble_eq_true rfl) rfl rfl (zX3_join_0  ?_)
  refine ⟨fun c => ?_, fun c => ?_, fun c => ?_, fun c => ?_, fun c => ?_, fun c => ?_, fun c => ?_⟩
  · have h := g_in (fun z => by rw [z] at c; exact absurd c (by decide)) h; have h := g_in (fun z => by rw [z] at c; exact absurd c (by decide)) h; have h := g_in (fun z => by rw [z] at c; exact absurd c (by decide)) h; have h := g_in (fun z => by rw [z] at c; exact absurd c (by decide)) h; have h := g_in (fun z => by rw [z] at c; exact absurd c (by decide)) h; have h := g_in (fun z => by rw [z] at c; exact absurd c (by decide)) h
    cases h; exact ⟨rfl, rfl⟩
  · have h := g_ip c h
    cases h; exact ⟨rfl, rfl⟩
  · have h := g_in (fun z => absurd (c.symm.trans z) (by decide)) h; have h := g_ip c h
    cases h; exact ⟨rfl, rfl⟩
  · have h := g_in (fun z => absurd (c.symm.trans z) (by decide)) h; have h := g_in (fun z => absurd (c.symm.trans z) (by decide)) h; have h := g_ip c h
    refine ⟨fun c => ?_, fun c => ?_⟩
    · have h := g_in c h
      cases h; exact ⟨rfl, rfl⟩
    · have h := g_ip c h
      cases h; exact ⟨rfl, rfl⟩
  · have h := g_in (fun z => absurd (c.symm.trans z) (by decide)) h; have h := g_in (fun z => absurd (c.symm.trans z) (by decide)) h; have h := g_in (fun z => absurd (c.symm.trans z) (by decide)) h; have h := g_ip c h
    refine ⟨fun c => ?_, fun c => ?_⟩
    · have h := g_ip c h
      cases h; exact ⟨rfl, rfl⟩
    · have h := g_in c h
      cases h; exact ⟨rfl, rfl⟩
  · have h := g_in (fun z => absurd (c.symm.trans z) (by decide)) h; have h := g_in (fun z => absurd (c.symm.trans z) (by decide)) h; have h := g_in (fun z => absurd (c.symm.trans z) (by decide)) h; have h := g_in (fun z => absurd (c.symm.trans z) (by decide)) h; have h := g_ip c h
    refine ⟨fun c => ?_, fun c => ?_⟩
    · have h := g_in c h
      cases h; exact ⟨rfl, rfl⟩
    · have h := g_ip c h
      refine ⟨fun c => ?_, fun c => ?_⟩
      · have h := g_ip c h
        cases h; exact ⟨rfl, rfl⟩
      · have h := g_in c h
        cases h; exact ⟨rfl, rfl⟩
  · have h := g_in (fun z => absurd (c.symm.trans z) (by decide)) h; have h := g_in (fun z => absurd (c.symm.trans z) (by decide)) h; have h := g_in (fun z => absurd (c.symm.trans z) (by decide)) h; have h := g_in (fun z => absurd (c.symm.trans z) (by decide)) h; have h := g_in (fun z => absurd (c.symm.trans z) (by decide)) h; have h := g_ip c h
    refine ⟨fun c => ?_, fun c => ?_⟩
    · have h := g_ip c h
      cases h; exact ⟨rfl, rfl⟩
    · have h := g_in c h
      refine ⟨fun c => ?_, fun c => ?_⟩
      · have h := g_ip c h
        cases h; exact ⟨rfl, rfl⟩
      · have h := g_in c h
        cases h; exact ⟨rfl, rfl⟩

noncomputable def FX7_add (S : gS) (a0 : Nat) (i1 : Int32) (i2 : Int32) : Option (gS × Bool) := if (sI S (a0) 0) < (8 : Int32) then (if g_vp ((sI S (a0) 0)) 8 = true then (g_lt (uR S ((a0 + 1)) (Int32.toNatClampNeg ((sI S (a0) 0))) (i1)) (fun S2 => if g_vp ((sI S2 (a0) 0)) 8 = true then (g_lt (uR S2 ((a0 + 2)) (Int32.toNatClampNeg ((sI S2 (a0) 0))) (vp_nar .boolean (i2))) (fun S4 => g_lt (uI S4 (a0) 0 (((sI S4 (a0) 0) + (1 : Int32)))) (fun S5 => some (S5, true)))) else none)) else none) else (some (S, false))
theorem CX7_add {n : Nat} {S : gS} {R : gS × Bool} {a0 : Nat} {i1 : Int32} {i2 : Int32} (hs0 : isSn a0) (h : FX7_add S a0 i1 i2 = some R) : sCz 0 mX7_add n S [.ref (a0), .int (i1), .int (i2)] (fun S2 x2 => S2 = R.1 ∧ x2 = R.2) := by
  unfold FX7_add at h
  refine gCz_of (by decide) (Nat.le_of_ble_eq_true rfl) rfl rfl (zX7_add_0 hs0 ?_)
  refine ⟨fun c => ?_, fun c => ?_⟩
  · have h := g_ip c h
    obtain ⟨hv1, h⟩ := g_vs h
    refine ⟨hv1, ?_⟩
    intro S2 eS
    have h := g_lts eS h
    obtain ⟨hv3, h⟩ := g_vs h
    refine ⟨hv3, ?_⟩
    intro S4 eS
    have h := g_lts eS h
    intro S5 eS
    have h := g_lts eS h
    cases h; exact ⟨rfl, rfl⟩
  · have h := g_in c h
    cases h; exact ⟨rfl, rfl⟩

noncomputable def bX7_agreesWith_2  (rec : Nat → gS → Nat → Int32 → Int32 → Int32 → Option (gS × Bool)) (S : gS) (a0 : Nat) (i1 : Int32) (i2 : Int32) (i3 : Int32) : Option (gS × Bool) := if (sI S (a0) 0) ≤ i2 then (some (S, true)) else (if g_vp (i2) 8 = true then (if ((i1 >>> ((sR S ((a0 + 1)) (Int32.toNatClampNeg (i2))) &&& 31)) &&& (1 : Int32)) = 0 then (rec 29 S (a0) (i1) (i2) ((0 : Int32))) else (rec 29 S (a0) (i1) (i2) ((1 : Int32)))) else none)
noncomputable def bX7_agreesWith_29  (rec : Nat → gS → Nat → Int32 → Int32 → Int32 → Option (gS × Bool)) (S : gS) (a0 : Nat) (i1 : Int32) (i2 : Int32) (i3 : Int32) : Option (gS × Bool) := if g_vp (i2) 8 = true then (if i3 = (sR S ((a0 + 2)) (Int32.toNatClampNeg (i2))) then (rec 2 S (a0) (i1) ((i2 + 1)) 0) else (some (S, false))) else none
noncomputable def fX7_agreesWith  : Nat → Nat → gS → Nat → Int32 → Int32 → Int32 → Option (gS × Bool)
  | 0 => fun _ _ _ _ _ _ => none
  | k + 1 => fun pc S a0 i1 i2 i3 => if pc = 2 then bX7_agreesWith_2  (fX7_agreesWith  k) S a0 i1 i2 i3 else if pc = 29 then bX7_agreesWith_29  (fX7_agreesWith  k) S a0 i1 i2 i3 else none
noncomputable def FX7_agreesWith (S : gS) (a0 : Nat) (i1 : Int32) : Option (gS × Bool) := fX7_agreesWith  FU 2 S (a0) (i1) ((0 : Int32)) 0
set_option maxRecDepth 100000 in
theorem lX7_agreesWith  {n : Nat} {R : gS × Bool} : ∀ k : Nat, (∀ (S : gS) (a0 : Nat) (i1 : Int32) (i2 : Int32) (i3 : Int32) (hs0 : isSn a0), fX7_agreesWith  k 2 S a0 i1 i2 i3 = some R → gG 0 mX7_agreesWith 0 0 (g_Xz mX7_agreesWith n 0 0 (hPz (fun S2 x2 => S2 = R.1 ∧ x2 = R.2))) 2 n (hH S) [some (.ref (a0)), some (.int (i1)), some (.int (i2)), none] [] 0 0) ∧ (∀ (S : gS) (a0 : Nat) (i1 : Int32) (i2 : Int32) (i3 : Int32) (hs0 : isSn a0), fX7_agreesWith  k 29 S a0 i1 i2 i3 = some R → gG 0 mX7_agreesWith 0 0 (g_Xz mX7_agreesWith n 0 0 (hPz (fun S2 x2 => S2 = R.1 ∧ x2 = R.2))) 29 n (hH S) [some (.ref (a0)), some (.int (i1)), some (.int (i2)), some (.int (i3))] [] 0 0) := by
  intro k
  induction k with
  | zero => exact ⟨fun _ _ _ _ _ _ h => (by cases h), fun _ _ _ _ _ _ h => (by cases h)⟩
  | succ k ih =>
    have hrec_2 := ih.1
    have hrec_29 := ih.2
    refine ⟨?_, ?_⟩
    · intro S a0 i1 i2 i3 hs0 h
      rw [fX7_agreesWith] at h
      have h := g_ip rfl h
      unfold bX7_agreesWith_2 at h
      refine zX7_agreesWith_2 hs0 ?_
      refine ⟨fun c => ?_, fun c => ?_⟩
      · have h := g_ip c h
        cases h; exact ⟨rfl, rfl⟩
      · have h := g_in c h
        obtain ⟨hv1, h⟩ := g_vs h
        refine ⟨hv1, ?_⟩
        refine ⟨fun c => ?_, fun c => ?_⟩
        · have h := g_ip c h
          exact hrec_29 _ _ _ _ _ hs0 h
        · have h := g_in c h
          exact hrec_29 _ _ _ _ _ hs0 h
    · intro S a0 i1 i2 i3 hs0 h
      rw [fX7_agreesWith] at h
      have h := g_in (by decide) h
      have h := g_ip rfl h
      unfold bX7_agreesWith_29 at h
      refine zX7_agreesWith_29 hs0 ?_
      obtain ⟨hv1, h⟩ := g_vs h
      refine ⟨hv1, ?_⟩
      refine ⟨fun c => ?_, fun c => ?_⟩
      · have h := g_ip c h
        exact hrec_2 _ _ _ _ _ hs0 h
      · have h := g_in c h
        cases h; exact ⟨rfl, rfl⟩
theorem CX7_agreesWith {n : Nat} {S : gS} {R : gS × Bool} {a0 : Nat} {i1 : Int32} (hs0 : isSn a0) (h : FX7_agreesWith S a0 i1 = some R) : sCz 0 mX7_agreesWith n S [.ref (a0), .int (i1)] (fun S2 x2 => S2 = R.1 ∧ x2 = R.2) := by
  unfold FX7_agreesWith at h
  refine gCz_of (by decide) (Nat.le_of_ble_eq_true rfl) rfl rfl (zX7_agreesWith_0 hs0 ?_)
  exact (lX7_agreesWith FU).1 _ _ _ _ _ hs0 h

noncomputable def bX7_copyFrom_10  (rec : Nat → gS → Nat → Nat → Int32 → Option (gS)) (S : gS) (a0 : Nat) (a1 : Nat) (i2 : Int32) : Option (gS) := if (8 : Int32) ≤ i2 then (some S) else (if g_vp (i2) 8 = true then (g_lt (uR S ((a0 + 1)) (Int32.toNatClampNeg (i2)) ((sR S ((a1 + 1)) (Int32.toNatClampNeg (i2))))) (fun S2 => g_lt (uR S2 ((a0 + 2)) (Int32.toNatClampNeg (i2)) (vp_nar .boolean ((sR S2 ((a1 + 2)) (Int32.toNatClampNeg (i2)))))) (fun S3 => rec 10 S3 (a0) (a1) ((i2 + 1))))) else none)
noncomputable def fX7_copyFrom  : Nat → Nat → gS → Nat → Nat → Int32 → Option (gS)
  | 0 => fun _ _ _ _ _ => none
  | k + 1 => fun pc S a0 a1 i2 => if pc = 10 then bX7_copyFrom_10  (fX7_copyFrom  k) S a0 a1 i2 else none
noncomputable def FX7_copyFrom (S : gS) (a0 : Nat) (a1 : Nat) : Option (gS) := g_lt (uI S (a0) 0 ((sI S (a1) 0))) (fun S1 => fX7_copyFrom  FU 10 S1 (a0) (a1) ((0 : Int32)))
set_option maxRecDepth 100000 in
theorem lX7_copyFrom  {n : Nat} {R : gS} : ∀ k : Nat, (∀ (S : gS) (a0 : Nat) (a1 : Nat) (i2 : Int32) (hs0 : isSn a0) (hs1 : isSn a1), fX7_copyFrom  k 10 S a0 a1 i2 = some R → gG 0 mX7_copyFrom 0 0 (g_Xv mX7_copyFrom n 0 0 (hPv (fun S2 => S2 = R))) 10 n (hH S) [some (.ref (a0)), some (.ref (a1)), some (.int (i2))] [] 0 0) := by
  intro k
  induction k with
  | zero => exact fun _ _ _ _ _ _ h => (by cases h)
  | succ k ih =>
    have hrec_10 := ih
    · intro S a0 a1 i2 hs0 hs1 h
      rw [fX7_copyFrom] at h
      have h := g_ip rfl h
      unfold bX7_copyFrom_10 at h
      refine zX7_copyFrom_10 hs0 hs1 ?_
      refine ⟨fun c => ?_, fun c => ?_⟩
      · have h := g_ip c h
        cases h; exact rfl
      · have h := g_in c h
        obtain ⟨hv1, h⟩ := g_vs h
        refine ⟨hv1, ?_⟩
        intro S2 eS
        have h := g_lts eS h
        intro S3 eS
        have h := g_lts eS h
        exact hrec_10 _ _ _ _ hs0 hs1 h
theorem CX7_copyFrom {n : Nat} {S : gS} {R : gS} {a0 : Nat} {a1 : Nat} (hs0 : isSn a0) (hs1 : isSn a1) (h : FX7_copyFrom S a0 a1 = some R) : sCv 0 mX7_copyFrom n S [.ref (a0), .ref (a1)] (fun S2 => S2 = R) := by
  unfold FX7_copyFrom at h
  refine gCv_of (by decide) (Nat.le_of_ble_eq_true rfl) rfl rfl (zX7_copyFrom_0 hs0 hs1 ?_)
  intro S1 eS
  have h := g_lts eS h
  exact (lX7_copyFrom FU) _ _ _ _ hs0 hs1 h

noncomputable def bX9_begin_15  (rec : Nat → gS → Nat → Int32 → Option (gS)) (S : gS) (a0 : Nat) (i2 : Int32) : Option (gS) := if (7 : Int32) ≤ i2 then (g_lt (uI S (a0) 4 ((0 : Int32))) (fun S1 => g_lt (uI S1 (a0) 5 ((-1 : Int32))) (fun S2 => g_lt (uI S2 (a0) 9 ((0 : Int32))) (fun S3 => some S3)))) else (if g_vp (i2) 7 = true then (g_lt (uR S ((a0 + 1)) (Int32.toNatClampNeg (i2)) ((0 : Int32))) (fun S5 => g_lt (uR S5 ((a0 + 2)) (Int32.toNatClampNeg (i2)) ((0 : Int32))) (fun S6 => rec 15 S6 (a0) ((i2 + 1))))) else none)
noncomputable def fX9_begin  : Nat → Nat → gS → Nat → Int32 → Option (gS)
  | 0 => fun _ _ _ _ => none
  | k + 1 => fun pc S a0 i2 => if pc = 15 then bX9_begin_15  (fX9_begin  k) S a0 i2 else none
noncomputable def FX9_begin (S : gS) (a0 : Nat) (a1 : Nat) : Option (gS) := g_lt (uI S (a0) 0 ((0 : Int32))) (fun S1 => g_b2 (FX1_nests S1 (a1)) (fun S2 x3 => g_lt (uI S2 (a0) 1 (x3)) (fun S4 => fX9_begin  FU 15 S4 (a0) ((0 : Int32)))))
set_option maxRecDepth 100000 in
theorem lX9_begin  {n : Nat} {R : gS} : ∀ k : Nat, (∀ (S : gS) (a0 : Nat) (i2 : Int32) (hs0 : isW a0), fX9_begin  k 15 S a0 i2 = some R → gG 1 mX9_begin 0 0 (g_Xv mX9_begin n 0 0 (hPv (fun S2 => S2 = R))) 15 n (hH S) [some (.ref (a0)), none, some (.int (i2))] [] 0 0) := by
  intro k
  induction k with
  | zero => exact fun _ _ _ _ h => (by cases h)
  | succ k ih =>
    have hrec_15 := ih
    · intro S a0 i2 hs0 h
      rw [fX9_begin] at h
      have h := g_ip rfl h
      unfold bX9_begin_15 at h
      refine zX9_begin_15 hs0 ?_
      refine ⟨fun c => ?_, fun c => ?_⟩
      · have h := g_ip c h
        intro S1 eS
        have h := g_lts eS h
        intro S2 eS
        have h := g_lts eS h
        intro S3 eS
        have h := g_lts eS h
        cases h; exact rfl
      · have h := g_in c h
        obtain ⟨hv4, h⟩ := g_vs h
        refine ⟨hv4, ?_⟩
        intro S5 eS
        have h := g_lts eS h
        intro S6 eS
        have h := g_lts eS h
        exact hrec_15 _ _ _ hs0 h
theorem CX9_begin {n : Nat} {S : gS} {R : gS} {a0 : Nat} {a1 : Nat} (hs0 : isW a0) (hs1 : isF a1) (h : FX9_begin S a0 a1 = some R) : sCv 1 mX9_begin n S [.ref (a0), .ref (a1)] (fun S2 => S2 = R) := by
  unfold FX9_begin at h
  refine gCv_of (by decide) (Nat.le_of_ble_eq_true rfl) rfl rfl (zX9_begin_0 hs0 hs1 ?_)
  intro S1 eS
  have h := g_lts eS h
  obtain ⟨S2, x3, hc, h⟩ := g_b2s h
  refine ⟨0, _, (by decide), CX1_nests hs1 hc, ?_⟩
  rintro _ _ ⟨rfl, rfl⟩
  intro S4 eS
  have h := g_lts eS h
  exact (lX9_begin FU) _ _ _ hs0 h

noncomputable def FX9_copyFrom (S : gS) (a0 : Nat) (a1 : Nat) : Option (gS) := g_lt (uI S (a0) 0 ((sI S (a1) 0))) (fun S1 => g_lt (uI S1 (a0) 1 ((sI S1 (a1) 1))) (fun S2 => g_lt (uA S2 ((a0 + 1)) (va_cpy (sR S2 ((a1 + 1))) (sR S2 ((a0 + 1))) (Int32.toNatClampNeg ((0 : Int32))) (Int32.toNatClampNeg ((0 : Int32))) (Int32.toNatClampNeg ((7 : Int32))))) (fun S3 => g_lt (uA S3 ((a0 + 2)) (va_cpy (sR S3 ((a1 + 2))) (sR S3 ((a0 + 2))) (Int32.toNatClampNeg ((0 : Int32))) (Int32.toNatClampNeg ((0 : Int32))) (Int32.toNatClampNeg ((7 : Int32))))) (fun S4 => g_lt (uI S4 (a0) 4 ((sI S4 (a1) 4))) (fun S5 => g_lt (uI S5 (a0) 5 ((sI S5 (a1) 5))) (fun S6 => g_lt (uA S6 ((a0 + 3)) (va_cpy (sR S6 ((a1 + 3))) (sR S6 ((a0 + 3))) (Int32.toNatClampNeg ((0 : Int32))) (Int32.toNatClampNeg ((0 : Int32))) (Int32.toNatClampNeg ((40 : Int32))))) (fun S7 => g_lt (uI S7 (a0) 9 ((sI S7 (a1) 9))) (fun S8 => some S8))))))))
theorem CX9_copyFrom {n : Nat} {S : gS} {R : gS} {a0 : Nat} {a1 : Nat} (hs0 : isW a0) (hs1 : isW a1) (h : FX9_copyFrom S a0 a1 = some R) : sCv 1 mX9_copyFrom n S [.ref (a0), .ref (a1)] (fun S2 => S2 = R) := by
  unfold FX9_copyFrom at h
  refine gCv_of (by decide) (Nat.le_of_ble_eq_true rfl) rfl rfl (zX9_copyFrom_0 hs0 hs1 (by decide) ?_)
  intro S1 eS
  have h := g_lts eS h
  intro S2 eS
  have h := g_lts eS h
  intro S3 eS
  have h := g_lts eS h
  intro S4 eS
  have h := g_lts eS h
  intro S5 eS
  have h := g_lts eS h
  intro S6 eS
  have h := g_lts eS h
  intro S7 eS
  have h := g_lts eS h
  intro S8 eS
  have h := g_lts eS h
  cases h; exact rfl

noncomputable def FX9_isStopped (S : gS) (a0 : Nat) (i1 : Int32) : Option (gS × Bool) := if (((sI S (a0) 1) >>> (i1 &&& 31)) &&& (1 : Int32)) = 0 then (some (S, false)) else (some (S, true))
theorem CX9_isStopped {n : Nat} {S : gS} {R : gS × Bool} {a0 : Nat} {i1 : Int32} (hs0 : isW a0) (h : FX9_isStopped S a0 i1 = some R) : sCz 0 mX9_isStopped n S [.ref (a0), .int (i1)] (fun S2 x2 => S2 = R.1 ∧ x2 = R.2) := by
  unfold FX9_isStopped at h
  refine gCz_of (by decide) (Nat.le_of_ble_eq_true rfl) rfl rfl (zX9_isStopped_0 hs0 ?_)
  refine ⟨fun c => ?_, fun c => ?_⟩
  · have h := g_ip c h
    cases h; exact ⟨rfl, rfl⟩
  · have h := g_in c h
    cases h; exact ⟨rfl, rfl⟩

noncomputable def FX9_ranOver (S : gS) (a0 : Nat) (i1 : Int32) : Option (gS × Bool) := if (((sI S (a0) 6) >>> (i1 &&& 31)) &&& (1 : Int32)) = 0 then (some (S, false)) else (some (S, true))
theorem CX9_ranOver {n : Nat} {S : gS} {R : gS × Bool} {a0 : Nat} {i1 : Int32} (hs0 : isW a0) (h : FX9_ranOver S a0 i1 = some R) : sCz 0 mX9_ranOver n S [.ref (a0), .int (i1)] (fun S2 x2 => S2 = R.1 ∧ x2 = R.2) := by
  unfold FX9_ranOver at h
  refine gCz_of (by decide) (Nat.le_of_ble_eq_true rfl) rfl rfl (zX9_ranOver_0 hs0 ?_)
  refine ⟨fun c => ?_, fun c => ?_⟩
  · have h := g_ip c h
    cases h; exact ⟨rfl, rfl⟩
  · have h := g_in c h
    cases h; exact ⟨rfl, rfl⟩

noncomputable def FX9_addWater (S : gS) (a0 : Nat) (i1 : Int32) (i2 : Int32) : Option (gS) := if g_vp (i1) 7 = true then (g_lt (uR S ((a0 + 1)) (Int32.toNatClampNeg (i1)) ((if (99 : Int32) < ((sR S ((a0 + 1)) (Int32.toNatClampNeg (i1))) + i2) then (99 : Int32) else ((sR S ((a0 + 1)) (Int32.toNatClampNeg (i1))) + i2)))) (fun S2 => some S2)) else none
theorem CX9_addWater {n : Nat} {S : gS} {R : gS} {a0 : Nat} {i1 : Int32} {i2 : Int32} (hs0 : isW a0) (h : FX9_addWater S a0 i1 i2 = some R) : sCv 1 mX9_addWater n S [.ref (a0), .int (i1), .int (i2)] (fun S2 => S2 = R) := by
  unfold FX9_addWater at h
  refine gCv_of (by decide) (Nat.le_of_ble_eq_true rfl) rfl rfl (zX9_addWater_0 hs0 (by decide) ?_)
  obtain ⟨hv1, h⟩ := g_vs h
  refine ⟨hv1, ?_⟩
  intro S2 eS
  have h := g_lts eS h
  cases h; exact rfl

noncomputable def bX9_stopMouth_14  (rec : Nat → gS → Nat → Int32 → Int32 → Option (gS × Bool)) (S : gS) (a0 : Nat) (i1 : Int32) (i2 : Int32) : Option (gS × Bool) := g_lt (uI S (a0) 1 (((sI S (a0) 1) ||| ((1 : Int32) <<< (i1 &&& 31))))) (fun S1 => if i2 = 0 then some (S1, false) else if i2 = 1 then some (S1, true) else none)
noncomputable def fX9_stopMouth  : Nat → Nat → gS → Nat → Int32 → Int32 → Option (gS × Bool)
  | 0 => fun _ _ _ _ _ => none
  | k + 1 => fun pc S a0 i1 i2 => if pc = 14 then bX9_stopMouth_14  (fX9_stopMouth  k) S a0 i1 i2 else none
noncomputable def FX9_stopMouth (S : gS) (a0 : Nat) (i1 : Int32) : Option (gS × Bool) := g_b2 (FX9_isStopped S (a0) (i1)) (fun S1 b2 => if b2 = true then (fX9_stopMouth  FU 14 S1 (a0) (i1) ((0 : Int32))) else (fX9_stopMouth  FU 14 S1 (a0) (i1) ((1 : Int32))))
set_option maxRecDepth 100000 in
theorem lX9_stopMouth  {n : Nat} {R : gS × Bool} : ∀ k : Nat, (∀ (S : gS) (a0 : Nat) (i1 : Int32) (i2 : Int32) (hs0 : isW a0), fX9_stopMouth  k 14 S a0 i1 i2 = some R → gG 1 mX9_stopMouth 0 0 (g_Xz mX9_stopMouth n 0 0 (hPz (fun S2 x2 => S2 = R.1 ∧ x2 = R.2))) 14 n (hH S) [some (.ref (a0)), some (.int (i1)), some (.int (i2))] [] 0 0) := by
  intro k
  induction k with
  | zero => exact fun _ _ _ _ _ h => (by cases h)
  | succ k ih =>
    have hrec_14 := ih
    · intro S a0 i1 i2 hs0 h
      rw [fX9_stopMouth] at h
      have h := g_ip rfl h
      unfold bX9_stopMouth_14 at h
      refine zX9_stopMouth_14 hs0 ?_
      intro S1 eS
      have h := g_lts eS h
      exact g_zs h
theorem CX9_stopMouth {n : Nat} {S : gS} {R : gS × Bool} {a0 : Nat} {i1 : Int32} (hs0 : isW a0) (h : FX9_stopMouth S a0 i1 = some R) : sCz 1 mX9_stopMouth n S [.ref (a0), .int (i1)] (fun S2 x2 => S2 = R.1 ∧ x2 = R.2) := by
  unfold FX9_stopMouth at h
  refine gCz_of (by decide) (Nat.le_of_ble_eq_true rfl) rfl rfl (zX9_stopMouth_0 hs0 ?_)
  obtain ⟨S1, b2, hc, h⟩ := g_b2s h
  refine ⟨0, _, (by decide), CX9_isStopped hs0 hc, ?_⟩
  rintro _ _ ⟨rfl, rfl⟩
  refine ⟨fun c => ?_, fun c => ?_⟩
  · have h := g_bt c h
    exact (lX9_stopMouth FU) _ _ _ _ hs0 h
  · have h := g_bf c h
    exact (lX9_stopMouth FU) _ _ _ _ hs0 h

noncomputable def FX9_clearMouth (S : gS) (a0 : Nat) (i1 : Int32) : Option (gS × Bool) := g_b2 (FX9_isStopped S (a0) (i1)) (fun S1 b2 => g_lt (uI S1 (a0) 1 (((sI S1 (a0) 1) &&& (((1 : Int32) <<< (i1 &&& 31)) ^^^ (-1 : Int32))))) (fun S3 => some (S3, b2)))
theorem CX9_clearMouth {n : Nat} {S : gS} {R : gS × Bool} {a0 : Nat} {i1 : Int32} (hs0 : isW a0) (h : FX9_clearMouth S a0 i1 = some R) : sCz 1 mX9_clearMouth n S [.ref (a0), .int (i1)] (fun S2 x2 => S2 = R.1 ∧ x2 = R.2) := by
  unfold FX9_clearMouth at h
  refine gCz_of (by decide) (Nat.le_of_ble_eq_true rfl) rfl rfl (zX9_clearMouth_0 hs0 ?_)
  obtain ⟨S1, b2, hc, h⟩ := g_b2s h
  refine ⟨0, _, (by decide), CX9_isStopped hs0 hc, ?_⟩
  rintro _ _ ⟨rfl, rfl⟩
  intro S3 eS
  have h := g_lts eS h
  cases h; exact ⟨rfl, rfl⟩

noncomputable def FX9_runOver (S : gS) (a0 : Nat) (a1 : Nat) (i2 : Int32) : Option (gS) := if g_vp (i2) 7 = true then (if 0 < ((sR S ((a0 + 1)) (Int32.toNatClampNeg (i2))) - (sR S ((a1 + 5)) (Int32.toNatClampNeg (i2)))) then (g_lt (uR S ((a0 + 1)) (Int32.toNatClampNeg (i2)) (((sR S ((a0 + 1)) (Int32.toNatClampNeg (i2))) - ((sR S ((a0 + 1)) (Int32.toNatClampNeg (i2))) - (sR S ((a1 + 5)) (Int32.toNatClampNeg (i2))))))) (fun S2 => g_lt (uI S2 (a0) 6 (((sI S2 (a0) 6) ||| ((1 : Int32) <<< (i2 &&& 31))))) (fun S3 => if (sR S3 ((a1 + 6)) (Int32.toNatClampNeg (i2))) = (-1 : Int32) then (g_lt (uI S3 (a0) 7 (((sI S3 (a0) 7) + ((sR S ((a0 + 1)) (Int32.toNatClampNeg (i2))) - (sR S ((a1 + 5)) (Int32.toNatClampNeg (i2))))))) (fun S6 => some S6)) else (if g_vp ((sR S3 ((a1 + 6)) (Int32.toNatClampNeg (i2)))) 7 = true then (g_lt (uR S3 ((a0 + 1)) (Int32.toNatClampNeg ((sR S3 ((a1 + 6)) (Int32.toNatClampNeg (i2))))) (((sR S3 ((a0 + 1)) (Int32.toNatClampNeg ((sR S3 ((a1 + 6)) (Int32.toNatClampNeg (i2)))))) + ((sR S ((a0 + 1)) (Int32.toNatClampNeg (i2))) - (sR S ((a1 + 5)) (Int32.toNatClampNeg (i2))))))) (fun S5 => some S5)) else none)))) else (some S)) else none
theorem CX9_runOver {n : Nat} {S : gS} {R : gS} {a0 : Nat} {a1 : Nat} {i2 : Int32} (hs0 : isW a0) (hs1 : isF a1) (h : FX9_runOver S a0 a1 i2 = some R) : sCv 0 mX9_runOver n S [.ref (a0), .ref (a1), .int (i2)] (fun S2 => S2 = R) := by
  unfold FX9_runOver at h
  refine gCv_of (by decide) (Nat.le_of_ble_eq_true rfl) rfl rfl (zX9_runOver_0 hs0 hs1 ?_)
  obtain ⟨hv1, h⟩ := g_vs h
  refine ⟨hv1, ?_⟩
  refine ⟨fun c => ?_, fun c => ?_⟩
  · have h := g_ip c h
    intro S2 eS
    have h := g_lts eS h
    intro S3 eS
    have h := g_lts eS h
    refine ⟨fun c => ?_, fun c => ?_⟩
    · have h := g_in c h
      obtain ⟨hv4, h⟩ := g_vs h
      refine ⟨hv4, ?_⟩
      intro S5 eS
      have h := g_lts eS h
      cases h; exact rfl
    · have h := g_ip c h
      intro S6 eS
      have h := g_lts eS h
      cases h; exact rfl
  · have h := g_in c h
    cases h; exact rfl

noncomputable def bX9_spout_32  (rec : Nat → gS → Nat → Int32 → Option (gS)) (S : gS) (a0 : Nat) (i2 : Int32) : Option (gS) := if g_vp (i2) 7 = true then (g_lt (uR S ((a0 + 1)) (Int32.toNatClampNeg (i2)) (((sR S ((a0 + 1)) (Int32.toNatClampNeg (i2))) - (sR S ((a0 + 2)) (Int32.toNatClampNeg (i2)))))) (fun S2 => some S2)) else none
noncomputable def fX9_spout  : Nat → Nat → gS → Nat → Int32 → Option (gS)
  | 0 => fun _ _ _ _ => none
  | k + 1 => fun pc S a0 i2 => if pc = 32 then bX9_spout_32  (fX9_spout  k) S a0 i2 else none
noncomputable def FX9_spout (S : gS) (a0 : Nat) (a1 : Nat) (i2 : Int32) : Option (gS) := g_b2 (FX9_isStopped S (a0) (i2)) (fun S1 b2 => if b2 = true then (if g_vp (i2) 7 = true then (g_lt (uR S1 ((a0 + 2)) (Int32.toNatClampNeg (i2)) ((0 : Int32))) (fun S8 => fX9_spout  FU 32 S8 (a0) (i2))) else none) else (if g_vp (i2) 7 = true then (g_b2 (FX1_mostSpouted S1 (a1) (i2)) (fun S4 x5 => g_lt (uR S4 ((a0 + 2)) (Int32.toNatClampNeg (i2)) ((if x5 < (sR S1 ((a0 + 1)) (Int32.toNatClampNeg (i2))) then x5 else (sR S1 ((a0 + 1)) (Int32.toNatClampNeg (i2)))))) (fun S6 => fX9_spout  FU 32 S6 (a0) (i2)))) else none))
set_option maxRecDepth 100000 in
theorem lX9_spout  {n : Nat} {R : gS} : ∀ k : Nat, (∀ (S : gS) (a0 : Nat) (i2 : Int32) (hs0 : isW a0), fX9_spout  k 32 S a0 i2 = some R → gG 1 mX9_spout 0 0 (g_Xv mX9_spout n 0 0 (hPv (fun S2 => S2 = R))) 32 n (hH S) [some (.ref (a0)), none, some (.int (i2))] [] 0 0) := by
  intro k
  induction k with
  | zero => exact fun _ _ _ _ h => (by cases h)
  | succ k ih =>
    have hrec_32 := ih
    · intro S a0 i2 hs0 h
      rw [fX9_spout] at h
      have h := g_ip rfl h
      unfold bX9_spout_32 at h
      refine zX9_spout_32 hs0 ?_
      obtain ⟨hv1, h⟩ := g_vs h
      refine ⟨hv1, ?_⟩
      intro S2 eS
      have h := g_lts eS h
      cases h; exact rfl
theorem CX9_spout {n : Nat} {S : gS} {R : gS} {a0 : Nat} {a1 : Nat} {i2 : Int32} (hs0 : isW a0) (hs1 : isF a1) (h : FX9_spout S a0 a1 i2 = some R) : sCv 1 mX9_spout n S [.ref (a0), .ref (a1), .int (i2)] (fun S2 => S2 = R) := by
  unfold FX9_spout at h
  refine gCv_of (by decide) (Nat.le_of_ble_eq_true rfl) rfl rfl (zX9_spout_0 hs0 hs1 (by decide) ?_)
  obtain ⟨S1, b2, hc, h⟩ := g_b2s h
  refine ⟨0, _, (by decide), CX9_isStopped hs0 hc, ?_⟩
  rintro _ _ ⟨rfl, rfl⟩
  refine ⟨fun c => ?_, fun c => ?_⟩
  · have h := g_bf c h
    obtain ⟨hv3, h⟩ := g_vs h
    refine ⟨hv3, ?_⟩
    obtain ⟨S4, x5, hc, h⟩ := g_b2s h
    refine ⟨0, _, (by decide), CX1_mostSpouted hs1 hc, ?_⟩
    rintro _ _ ⟨rfl, rfl⟩
    intro S6 eS
    have h := g_lts eS h
    exact (lX9_spout FU) _ _ _ hs0 h
  · have h := g_bt c h
    obtain ⟨hv7, h⟩ := g_vs h
    refine ⟨hv7, ?_⟩
    intro S8 eS
    have h := g_lts eS h
    exact (lX9_spout FU) _ _ _ hs0 h

noncomputable def bX9_allWater_4  (rec : Nat → gS → Nat → Int32 → Int32 → Int32 → Option (gS × Int32)) (S : gS) (a0 : Nat) (i1 : Int32) (i2 : Int32) (i3 : Int32) : Option (gS × Int32) := if i1 ≤ i3 then (some (S, i2)) else (if (7 : Int32) ≤ i3 then (some (S, i2)) else (if g_vp (i3) 7 = true then (rec 4 S (a0) (i1) ((i2 + (sR S ((a0 + 1)) (Int32.toNatClampNeg (i3))))) ((i3 + 1))) else none))
noncomputable def fX9_allWater  : Nat → Nat → gS → Nat → Int32 → Int32 → Int32 → Option (gS × Int32)
  | 0 => fun _ _ _ _ _ _ => none
  | k + 1 => fun pc S a0 i1 i2 i3 => if pc = 4 then bX9_allWater_4  (fX9_allWater  k) S a0 i1 i2 i3 else none
noncomputable def FX9_allWater (S : gS) (a0 : Nat) (i1 : Int32) : Option (gS × Int32) := fX9_allWater  FU 4 S (a0) (i1) ((0 : Int32)) ((0 : Int32))
set_option maxRecDepth 100000 in
theorem lX9_allWater  {n : Nat} {R : gS × Int32} : ∀ k : Nat, (∀ (S : gS) (a0 : Nat) (i1 : Int32) (i2 : Int32) (i3 : Int32) (hs0 : isW a0), fX9_allWater  k 4 S a0 i1 i2 i3 = some R → gG 0 mX9_allWater 0 0 (g_Xj mX9_allWater n 0 0 (hPi (fun S2 x2 => S2 = R.1 ∧ x2 = R.2))) 4 n (hH S) [some (.ref (a0)), some (.int (i1)), some (.int (i2)), some (.int (i3))] [] 0 0) := by
  intro k
  induction k with
  | zero => exact fun _ _ _ _ _ _ h => (by cases h)
  | succ k ih =>
    have hrec_4 := ih
    · intro S a0 i1 i2 i3 hs0 h
      rw [fX9_allWater] at h
      have h := g_ip rfl h
      unfold bX9_allWater_4 at h
      refine zX9_allWater_4 hs0 ?_
      refine ⟨fun c => ?_, fun c => ?_⟩
      · have h := g_ip c h
        cases h; exact ⟨rfl, rfl⟩
      · have h := g_in c h
        refine ⟨fun c => ?_, fun c => ?_⟩
        · have h := g_ip c h
          cases h; exact ⟨rfl, rfl⟩
        · have h := g_in c h
          obtain ⟨hv1, h⟩ := g_vs h
          refine ⟨hv1, ?_⟩
          exact hrec_4 _ _ _ _ _ hs0 h
theorem CX9_allWater {n : Nat} {S : gS} {R : gS × Int32} {a0 : Nat} {i1 : Int32} (hs0 : isW a0) (h : FX9_allWater S a0 i1 = some R) : sCi 0 mX9_allWater n S [.ref (a0), .int (i1)] (fun S2 x2 => S2 = R.1 ∧ x2 = R.2) := by
  unfold FX9_allWater at h
  refine gCj_of (by decide) (Nat.le_of_ble_eq_true rfl) rfl rfl (zX9_allWater_0 hs0 ?_)
  exact (lX9_allWater FU) _ _ _ _ _ hs0 h

noncomputable def bX9_flowsUnlike_5  (rec : Nat → gS → Nat → Int32 → Int32 → Int32 → Int32 → Option (gS × Int32)) (S : gS) (a0 : Nat) (i1 : Int32) (i2 : Int32) (i3 : Int32) (i4 : Int32) : Option (gS × Int32) := if i2 ≤ i4 then (some (S, i3)) else (if (7 : Int32) ≤ i4 then (some (S, i3)) else (if g_vp (i4) 7 = true then (if g_vp (i1) 7 = true then (if (sR S ((a0 + 2)) (Int32.toNatClampNeg (i4))) = (sR S ((a0 + 2)) (Int32.toNatClampNeg (i1))) then (rec 5 S (a0) (i1) (i2) (i3) ((i4 + 1))) else (rec 5 S (a0) (i1) (i2) ((i3 ||| ((1 : Int32) <<< (i4 &&& 31)))) ((i4 + 1)))) else none) else none))
noncomputable def fX9_flowsUnlike  : Nat → Nat → gS → Nat → Int32 → Int32 → Int32 → Int32 → Option (gS × Int32)
  | 0 => fun _ _ _ _ _ _ _ => none
  | k + 1 => fun pc S a0 i1 i2 i3 i4 => if pc = 5 then bX9_flowsUnlike_5  (fX9_flowsUnlike  k) S a0 i1 i2 i3 i4 else none
noncomputable def FX9_flowsUnlike (S : gS) (a0 : Nat) (i1 : Int32) (i2 : Int32) : Option (gS × Int32) := fX9_flowsUnlike  FU 5 S (a0) (i1) (i2) ((0 : Int32)) ((0 : Int32))
set_option maxRecDepth 100000 in
theorem lX9_flowsUnlike  {n : Nat} {R : gS × Int32} : ∀ k : Nat, (∀ (S : gS) (a0 : Nat) (i1 : Int32) (i2 : Int32) (i3 : Int32) (i4 : Int32) (hs0 : isW a0), fX9_flowsUnlike  k 5 S a0 i1 i2 i3 i4 = some R → gG 0 mX9_flowsUnlike 0 0 (g_Xj mX9_flowsUnlike n 0 0 (hPi (fun S2 x2 => S2 = R.1 ∧ x2 = R.2))) 5 n (hH S) [some (.ref (a0)), some (.int (i1)), some (.int (i2)), some (.int (i3)), some (.int (i4))] [] 0 0) := by
  intro k
  induction k with
  | zero => exact fun _ _ _ _ _ _ _ h => (by cases h)
  | succ k ih =>
    have hrec_5 := ih
    · intro S a0 i1 i2 i3 i4 hs0 h
      rw [fX9_flowsUnlike] at h
      have h := g_ip rfl h
      unfold bX9_flowsUnlike_5 at h
      refine zX9_flowsUnlike_5 hs0 ?_
      refine ⟨fun c => ?_, fun c => ?_⟩
      · have h := g_ip c h
        cases h; exact ⟨rfl, rfl⟩
      · have h := g_in c h
        refine ⟨fun c => ?_, fun c => ?_⟩
        · have h := g_ip c h
          cases h; exact ⟨rfl, rfl⟩
        · have h := g_in c h
          obtain ⟨hv1, h⟩ := g_vs h
          refine ⟨hv1, ?_⟩
          obtain ⟨hv2, h⟩ := g_vs h
          refine ⟨hv2, ?_⟩
          refine ⟨fun c => ?_, fun c => ?_⟩
          · have h := g_ip c h
            exact hrec_5 _ _ _ _ _ _ hs0 h
          · have h := g_in c h
            exact hrec_5 _ _ _ _ _ _ hs0 h
theorem CX9_flowsUnlike {n : Nat} {S : gS} {R : gS × Int32} {a0 : Nat} {i1 : Int32} {i2 : Int32} (hs0 : isW a0) (h : FX9_flowsUnlike S a0 i1 i2 = some R) : sCi 0 mX9_flowsUnlike n S [.ref (a0), .int (i1), .int (i2)] (fun S2 x2 => S2 = R.1 ∧ x2 = R.2) := by
  unfold FX9_flowsUnlike at h
  refine gCj_of (by decide) (Nat.le_of_ble_eq_true rfl) rfl rfl (zX9_flowsUnlike_0 hs0 ?_)
  exact (lX9_flowsUnlike FU) _ _ _ _ _ _ hs0 h

noncomputable def bX9_signsLike_4  (rec : Nat → gS → Nat → Int32 → Int32 → Int32 → Option (gS × Int32)) (S : gS) (a0 : Nat) (i1 : Int32) (i2 : Int32) (i3 : Int32) : Option (gS × Int32) := if (sI S (a0) 9) ≤ i3 then (some (S, i2)) else (if g_vp (i3) 40 = true then (if (sR S ((a0 + 3)) (Int32.toNatClampNeg (i3))) = i1 then (rec 4 S (a0) (i1) ((i2 + 1)) ((i3 + 1))) else (rec 4 S (a0) (i1) (i2) ((i3 + 1)))) else none)
noncomputable def fX9_signsLike  : Nat → Nat → gS → Nat → Int32 → Int32 → Int32 → Option (gS × Int32)
  | 0 => fun _ _ _ _ _ _ => none
  | k + 1 => fun pc S a0 i1 i2 i3 => if pc = 4 then bX9_signsLike_4  (fX9_signsLike  k) S a0 i1 i2 i3 else none
noncomputable def FX9_signsLike (S : gS) (a0 : Nat) (i1 : Int32) : Option (gS × Int32) := fX9_signsLike  FU 4 S (a0) (i1) ((0 : Int32)) ((0 : Int32))
set_option maxRecDepth 100000 in
theorem lX9_signsLike  {n : Nat} {R : gS × Int32} : ∀ k : Nat, (∀ (S : gS) (a0 : Nat) (i1 : Int32) (i2 : Int32) (i3 : Int32) (hs0 : isW a0), fX9_signsLike  k 4 S a0 i1 i2 i3 = some R → gG 0 mX9_signsLike 0 0 (g_Xj mX9_signsLike n 0 0 (hPi (fun S2 x2 => S2 = R.1 ∧ x2 = R.2))) 4 n (hH S) [some (.ref (a0)), some (.int (i1)), some (.int (i2)), some (.int (i3))] [] 0 0) := by
  intro k
  induction k with
  | zero => exact fun _ _ _ _ _ _ h => (by cases h)
  | succ k ih =>
    have hrec_4 := ih
    · intro S a0 i1 i2 i3 hs0 h
      rw [fX9_signsLike] at h
      have h := g_ip rfl h
      unfold bX9_signsLike_4 at h
      refine zX9_signsLike_4 hs0 ?_
      refine ⟨fun c => ?_, fun c => ?_⟩
      · have h := g_ip c h
        cases h; exact ⟨rfl, rfl⟩
      · have h := g_in c h
        obtain ⟨hv1, h⟩ := g_vs h
        refine ⟨hv1, ?_⟩
        refine ⟨fun c => ?_, fun c => ?_⟩
        · have h := g_in c h
          exact hrec_4 _ _ _ _ _ hs0 h
        · have h := g_ip c h
          exact hrec_4 _ _ _ _ _ hs0 h
theorem CX9_signsLike {n : Nat} {S : gS} {R : gS × Int32} {a0 : Nat} {i1 : Int32} (hs0 : isW a0) (h : FX9_signsLike S a0 i1 = some R) : sCi 0 mX9_signsLike n S [.ref (a0), .int (i1)] (fun S2 x2 => S2 = R.1 ∧ x2 = R.2) := by
  unfold FX9_signsLike at h
  refine gCj_of (by decide) (Nat.le_of_ble_eq_true rfl) rfl rfl (zX9_signsLike_0 hs0 ?_)
  exact (lX9_signsLike FU) _ _ _ _ _ hs0 h

noncomputable def bX9_fitsAt_3  (rec : Nat → gS → Nat → Int32 → Nat → Int32 → Int32 → Option (gS × Bool)) (S : gS) (a0 : Nat) (i1 : Int32) (a2 : Nat) (i3 : Int32) (i4 : Int32) : Option (gS × Bool) := if (sI S (a2) 0) ≤ i4 then (some (S, true)) else (if g_vp ((i1 + i4)) 40 = true then (if g_vp (i4) 7 = true then (if (sR S ((a0 + 3)) (Int32.toNatClampNeg ((i1 + i4)))) = (sR S ((a2 + 1)) (Int32.toNatClampNeg (i4))) then (rec 46 S (a0) (i1) (a2) (i3) (i4)) else (if i3 = 0 then (some (S, false)) else (if (sR S ((a0 + 3)) (Int32.toNatClampNeg ((i1 + i4)))) = (6 : Int32) then (rec 46 S (a0) (i1) (a2) (i3) (i4)) else (some (S, false))))) else none) else none)
noncomputable def bX9_fitsAt_46  (rec : Nat → gS → Nat → Int32 → Nat → Int32 → Int32 → Option (gS × Bool)) (S : gS) (a0 : Nat) (i1 : Int32) (a2 : Nat) (i3 : Int32) (i4 : Int32) : Option (gS × Bool) := rec 3 S (a0) (i1) (a2) (i3) ((i4 + 1))
noncomputable def fX9_fitsAt  : Nat → Nat → gS → Nat → Int32 → Nat → Int32 → Int32 → Option (gS × Bool)
  | 0 => fun _ _ _ _ _ _ _ => none
  | k + 1 => fun pc S a0 i1 a2 i3 i4 => if pc = 3 then bX9_fitsAt_3  (fX9_fitsAt  k) S a0 i1 a2 i3 i4 else if pc = 46 then bX9_fitsAt_46  (fX9_fitsAt  k) S a0 i1 a2 i3 i4 else none
noncomputable def FX9_fitsAt (S : gS) (a0 : Nat) (i1 : Int32) (a2 : Nat) (i3 : Int32) : Option (gS × Bool) := fX9_fitsAt  FU 3 S (a0) (i1) (a2) (i3) ((0 : Int32))
set_option maxRecDepth 100000 in
theorem lX9_fitsAt  {n : Nat} {R : gS × Bool} : ∀ k : Nat, (∀ (S : gS) (a0 : Nat) (i1 : Int32) (a2 : Nat) (i3 : Int32) (i4 : Int32) (hs0 : isW a0) (hs2 : isWd a2), fX9_fitsAt  k 3 S a0 i1 a2 i3 i4 = some R → gG 0 mX9_fitsAt 0 0 (g_Xz mX9_fitsAt n 0 0 (hPz (fun S2 x2 => S2 = R.1 ∧ x2 = R.2))) 3 n (hH S) [some (.ref (a0)), some (.int (i1)), some (.ref (a2)), some (.int (i3)), some (.int (i4)), none, none] [] 0 0) ∧ (∀ (S : gS) (a0 : Nat) (i1 : Int32) (a2 : Nat) (i3 : Int32) (i4 : Int32) (hs0 : isW a0) (hs2 : isWd a2), fX9_fitsAt  k 46 S a0 i1 a2 i3 i4 = some R → gG 0 mX9_fitsAt 0 0 (g_Xz mX9_fitsAt n 0 0 (hPz (fun S2 x2 => S2 = R.1 ∧ x2 = R.2))) 46 n (hH S) [some (.ref (a0)), some (.int (i1)), some (.ref (a2)), some (.int (i3)), some (.int (i4)), none, none] [] 0 0) := by
  intro k
  induction k with
  | zero => exact ⟨fun _ _ _ _ _ _ _ _ h => (by cases h), fun _ _ _ _ _ _ _ _ h => (by cases h)⟩
  | succ k ih =>
    have hrec_3 := ih.1
    have hrec_46 := ih.2
    refine ⟨?_, ?_⟩
    · intro S a0 i1 a2 i3 i4 hs0 hs2 h
      rw [fX9_fitsAt] at h
      have h := g_ip rfl h
      unfold bX9_fitsAt_3 at h
      refine zX9_fitsAt_3 hs0 hs2 ?_
      refine ⟨fun c => ?_, fun c => ?_⟩
      · have h := g_ip c h
        cases h; exact ⟨rfl, rfl⟩
      · have h := g_in c h
        obtain ⟨hv1, h⟩ := g_vs h
        refine ⟨hv1, ?_⟩
        obtain ⟨hv2, h⟩ := g_vs h
        refine ⟨hv2, ?_⟩
        refine ⟨fun c => ?_, fun c => ?_⟩
        · have h := g_ip c h
          exact hrec_46 _ _ _ _ _ _ hs0 hs2 h
        · have h := g_in c h
          refine ⟨fun c => ?_, fun c => ?_⟩
          · have h := g_ip c h
            cases h; exact ⟨rfl, rfl⟩
          · have h := g_in c h
            refine ⟨fun c => ?_, fun c => ?_⟩
            · have h := g_in c h
              cases h; exact ⟨rfl, rfl⟩
            · have h := g_ip c h
              exact hrec_46 _ _ _ _ _ _ hs0 hs2 h
    · intro S a0 i1 a2 i3 i4 hs0 hs2 h
      rw [fX9_fitsAt] at h
      have h := g_in (by decide) h
      have h := g_ip rfl h
      unfold bX9_fitsAt_46 at h
      refine zX9_fitsAt_46 hs0 hs2 ?_
      exact hrec_3 _ _ _ _ _ _ hs0 hs2 h
theorem CX9_fitsAt {n : Nat} {S : gS} {R : gS × Bool} {a0 : Nat} {i1 : Int32} {a2 : Nat} {i3 : Int32} (hs0 : isW a0) (hs2 : isWd a2) (h : FX9_fitsAt S a0 i1 a2 i3 = some R) : sCz 0 mX9_fitsAt n S [.ref (a0), .int (i1), .ref (a2), .int (i3)] (fun S2 x2 => S2 = R.1 ∧ x2 = R.2) := by
  unfold FX9_fitsAt at h
  refine gCz_of (by decide) (Nat.le_of_ble_eq_true rfl) rfl rfl (zX9_fitsAt_0 hs0 hs2 ?_)
  exact (lX9_fitsAt FU).1 _ _ _ _ _ _ hs0 hs2 h

noncomputable def FX10_copyFrom (S : gS) (a0 : Nat) (a1 : Nat) : Option (gS) := g_lt (uI S (a0) 0 ((sI S (a1) 0))) (fun S1 => g_lt (uA S1 ((a0 + 1)) (va_cpy (sR S1 ((a1 + 1))) (sR S1 ((a0 + 1))) (Int32.toNatClampNeg ((0 : Int32))) (Int32.toNatClampNeg ((0 : Int32))) (Int32.toNatClampNeg ((7 : Int32))))) (fun S2 => some S2))
theorem CX10_copyFrom {n : Nat} {S : gS} {R : gS} {a0 : Nat} {a1 : Nat} (hs0 : isWd a0) (hs1 : isWd a1) (h : FX10_copyFrom S a0 a1 = some R) : sCv 1 mX10_copyFrom n S [.ref (a0), .ref (a1)] (fun S2 => S2 = R) := by
  unfold FX10_copyFrom at h
  refine gCv_of (by decide) (Nat.le_of_ble_eq_true rfl) rfl rfl (zX10_copyFrom_0 hs0 hs1 (by decide) ?_)
  intro S1 eS
  have h := g_lts eS h
  intro S2 eS
  have h := g_lts eS h
  cases h; exact rfl

noncomputable def bX3_valueFor_15  (rec : Nat → gS → Nat → Int32 → Int32 → Int32 → Int32 → Int32 → Int32 → Option (gS × Int32)) (S : gS) (a0 : Nat) (i1 : Int32) (i2 : Int32) (i3 : Int32) (i4 : Int32) (i5 : Int32) (i6 : Int32) : Option (gS × Int32) := if (sI S (a0) 1) ≤ i6 then (some (S, (sR S ((a0 + 2)) (0)))) else (if g_vp (i6) 1000 = true then (if (-6 : Int32) < (sR S ((a0 + 1)) (Int32.toNatClampNeg (i6))) then (if (sR S ((a0 + 1)) (Int32.toNatClampNeg (i6))) = (-5 : Int32) then (if i5 < (1 : Int32) then (rec 15 S (a0) (i1) (i2) (i3) (i4) (i5) ((i6 + 1))) else (if g_vp ((i5 - (1 : Int32))) 24 = true then (if (sR S ((a0 + 2)) (Int32.toNatClampNeg ((i5 - (1 : Int32))))) = 0 then (g_lt (uR S ((a0 + 2)) (Int32.toNatClampNeg ((i5 - (1 : Int32)))) ((1 : Int32))) (fun S10 => rec 15 S10 (a0) (i1) (i2) (i3) (i4) (i5) ((i6 + 1)))) else (g_lt (uR S ((a0 + 2)) (Int32.toNatClampNeg ((i5 - (1 : Int32)))) ((0 : Int32))) (fun S9 => rec 15 S9 (a0) (i1) (i2) (i3) (i4) (i5) ((i6 + 1))))) else none)) else (if (24 : Int32) ≤ i5 then (rec 15 S (a0) (i1) (i2) (i3) (i4) (i5) ((i6 + 1))) else (if (sR S ((a0 + 1)) (Int32.toNatClampNeg (i6))) < 0 then (g_b2 (FX3_fact S ((sR S ((a0 + 1)) (Int32.toNatClampNeg (i6)))) (i1) (i2) (i3) (i4)) (fun S2 x3 => if g_vp (i5) 24 = true then (g_lt (uR S2 ((a0 + 2)) (Int32.toNatClampNeg (i5)) (x3)) (fun S5 => rec 15 S5 (a0) (i1) (i2) (i3) (i4) ((i5 + 1)) ((i6 + 1)))) else none)) else (if g_vp (i5) 24 = true then (g_lt (uR S ((a0 + 2)) (Int32.toNatClampNeg (i5)) ((sR S ((a0 + 1)) (Int32.toNatClampNeg (i6))))) (fun S7 => rec 15 S7 (a0) (i1) (i2) (i3) (i4) ((i5 + 1)) ((i6 + 1)))) else none)))) else (if i5 < (2 : Int32) then (rec 15 S (a0) (i1) (i2) (i3) (i4) (i5) ((i6 + 1))) else (if g_vp (((i5 + (-1)) - (1 : Int32))) 24 = true then (if g_vp ((i5 + (-1))) 24 = true then (g_b2 (FX3_join S ((sR S ((a0 + 1)) (Int32.toNatClampNeg (i6)))) ((sR S ((a0 + 2)) (Int32.toNatClampNeg (((i5 + (-1)) - (1 : Int32)))))) ((sR S ((a0 + 2)) (Int32.toNatClampNeg ((i5 + (-1))))))) (fun S13 x14 => g_lt (uR S13 ((a0 + 2)) (Int32.toNatClampNeg (((i5 + (-1)) - (1 : Int32)))) (x14)) (fun S15 => rec 15 S15 (a0) (i1) (i2) (i3) (i4) ((i5 + (-1))) ((i6 + 1))))) else none) else none))) else none)
noncomputable def fX3_valueFor  : Nat → Nat → gS → Nat → Int32 → Int32 → Int32 → Int32 → Int32 → Int32 → Option (gS × Int32)
  | 0 => fun _ _ _ _ _ _ _ _ _ => none
  | k + 1 => fun pc S a0 i1 i2 i3 i4 i5 i6 => if pc = 15 then bX3_valueFor_15  (fX3_valueFor  k) S a0 i1 i2 i3 i4 i5 i6 else none
noncomputable def FX3_valueFor (S : gS) (a0 : Nat) (i1 : Int32) (i2 : Int32) (i3 : Int32) (i4 : Int32) : Option (gS × Int32) := if (sI S (a0) 1) = 0 then (some (S, i1)) else (fX3_valueFor  FU 15 S (a0) (i1) (i2) (i3) (i4) ((0 : Int32)) ((0 : Int32)))
set_option maxRecDepth 100000 in
theorem lX3_valueFor  {n : Nat} {R : gS × Int32} : ∀ k : Nat, (∀ (S : gS) (a0 : Nat) (i1 : Int32) (i2 : Int32) (i3 : Int32) (i4 : Int32) (i5 : Int32) (i6 : Int32) (hs0 : isLw a0), fX3_valueFor  k 15 S a0 i1 i2 i3 i4 i5 i6 = some R → gG 1 mX3_valueFor 0 0 (g_Xj mX3_valueFor n 0 0 (hPi (fun S2 x2 => S2 = R.1 ∧ x2 = R.2))) 15 n (hH S) [some (.ref (a0)), some (.int (i1)), some (.int (i2)), some (.int (i3)), some (.int (i4)), some (.int (i5)), some (.int (i6)), none] [] 0 0) := by
  intro k
  induction k with
  | zero => exact fun _ _ _ _ _ _ _ _ _ h => (by cases h)
  | succ k ih =>
    have hrec_15 := ih
    · intro S a0 i1 i2 i3 i4 i5 i6 hs0 h
      rw [fX3_valueFor] at h
      have h := g_ip rfl h
      unfold bX3_valueFor_15 at h
      refine zX3_valueFor_15 hs0 ?_
      refine ⟨fun c => ?_, fun c => ?_⟩
      · have h := g_ip c h
        cases h; exact ⟨rfl, rfl⟩
      · have h := g_in c h
        obtain ⟨hv1, h⟩ := g_vs h
        refine ⟨hv1, ?_⟩
        refine ⟨fun c => ?_, fun c => ?_⟩
        · have h := g_ip c h
          refine ⟨fun c => ?_, fun c => ?_⟩
          · have h := g_in c h
            refine ⟨fun c => ?_, fun c => ?_⟩
            · have h := g_ip c h
              exact hrec_15 _ _ _ _ _ _ _ _ hs0 h
            · have h := g_in c h
              refine ⟨fun c => ?_, fun c => ?_⟩
              · have h := g_ip c h
                obtain ⟨S2, x3, hc, h⟩ := g_b2s h
                refine ⟨0, _, (by decide), CX3_fact  hc, ?_⟩
                rintro _ _ ⟨rfl, rfl⟩
                obtain ⟨hv4, h⟩ := g_vs h
                refine ⟨hv4, ?_⟩
                intro S5 eS
                have h := g_lts eS h
                exact hrec_15 _ _ _ _ _ _ _ _ hs0 h
              · have h := g_in c h
                obtain ⟨hv6, h⟩ := g_vs h
                refine ⟨hv6, ?_⟩
                intro S7 eS
                have h := g_lts eS h
                exact hrec_15 _ _ _ _ _ _ _ _ hs0 h
          · have h := g_ip c h
            refine ⟨fun c => ?_, fun c => ?_⟩
            · have h := g_ip c h
              exact hrec_15 _ _ _ _ _ _ _ _ hs0 h
            · have h := g_in c h
              obtain ⟨hv8, h⟩ := g_vs h
              refine ⟨hv8, ?_⟩
              refine ⟨fun c => ?_, fun c => ?_⟩
              · have h := g_in c h
                intro S9 eS
                have h := g_lts eS h
                exact hrec_15 _ _ _ _ _ _ _ _ hs0 h
              · have h := g_ip c h
                intro S10 eS
                have h := g_lts eS h
                exact hrec_15 _ _ _ _ _ _ _ _ hs0 h
        · have h := g_in c h
          refine ⟨fun c => ?_, fun c => ?_⟩
          · have h := g_ip c h
            exact hrec_15 _ _ _ _ _ _ _ _ hs0 h
          · have h := g_in c h
            obtain ⟨hv11, h⟩ := g_vs h
            refine ⟨hv11, ?_⟩
            obtain ⟨hv12, h⟩ := g_vs h
            refine ⟨hv12, ?_⟩
            obtain ⟨S13, x14, hc, h⟩ := g_b2s h
            refine ⟨0, _, (by decide), CX3_join  hc, ?_⟩
            rintro _ _ ⟨rfl, rfl⟩
            intro S15 eS
            have h := g_lts eS h
            exact hrec_15 _ _ _ _ _ _ _ _ hs0 h
theorem CX3_valueFor {n : Nat} {S : gS} {R : gS × Int32} {a0 : Nat} {i1 : Int32} {i2 : Int32} {i3 : Int32} {i4 : Int32} (hs0 : isLw a0) (h : FX3_valueFor S a0 i1 i2 i3 i4 = some R) : sCi 1 mX3_valueFor n S [.ref (a0), .int (i1), .int (i2), .int (i3), .int (i4)] (fun S2 x2 => S2 = R.1 ∧ x2 = R.2) := by
  unfold FX3_valueFor at h
  refine gCj_of (by decide) (Nat.le_of_ble_eq_true rfl) rfl rfl (zX3_valueFor_0 hs0 ?_)
  refine ⟨fun c => ?_, fun c => ?_⟩
  · have h := g_in c h
    exact (lX3_valueFor FU) _ _ _ _ _ _ _ _ hs0 h
  · have h := g_ip c h
    cases h; exact ⟨rfl, rfl⟩

noncomputable def bX9_soundingNow_5  (rec : Nat → gS → Nat → Nat → Int32 → Int32 → Int32 → Option (gS × Int32)) (S : gS) (a0 : Nat) (a1 : Nat) (i2 : Int32) (i3 : Int32) (i4 : Int32) : Option (gS × Int32) := if (sI S (a1) 0) ≤ i4 then (some (S, i3)) else (if g_vp (i4) 7 = true then (g_b2 (FX3_valueFor S ((a1 + 11)) ((sR S ((a0 + 2)) (Int32.toNatClampNeg (i4)))) ((sR S ((a0 + 1)) (Int32.toNatClampNeg (i4)))) ((sR S ((a1 + 3)) (Int32.toNatClampNeg (i4)))) (i2)) (fun S2 x3 => if x3 = 0 then (rec 5 S2 (a0) (a1) (i2) (i3) ((i4 + 1))) else (rec 5 S2 (a0) (a1) (i2) ((i3 ||| ((1 : Int32) <<< (i4 &&& 31)))) ((i4 + 1))))) else none)
noncomputable def fX9_soundingNow  : Nat → Nat → gS → Nat → Nat → Int32 → Int32 → Int32 → Option (gS × Int32)
  | 0 => fun _ _ _ _ _ _ _ => none
  | k + 1 => fun pc S a0 a1 i2 i3 i4 => if pc = 5 then bX9_soundingNow_5  (fX9_soundingNow  k) S a0 a1 i2 i3 i4 else none
noncomputable def FX9_soundingNow (S : gS) (a0 : Nat) (a1 : Nat) (i2 : Int32) : Option (gS × Int32) := fX9_soundingNow  FU 5 S (a0) (a1) (i2) ((0 : Int32)) ((0 : Int32))
set_option maxRecDepth 100000 in
theorem lX9_soundingNow  {n : Nat} {R : gS × Int32} : ∀ k : Nat, (∀ (S : gS) (a0 : Nat) (a1 : Nat) (i2 : Int32) (i3 : Int32) (i4 : Int32) (hs0 : isW a0) (hs1 : isF a1), fX9_soundingNow  k 5 S a0 a1 i2 i3 i4 = some R → gG 2 mX9_soundingNow 0 0 (g_Xj mX9_soundingNow n 0 0 (hPi (fun S2 x2 => S2 = R.1 ∧ x2 = R.2))) 5 n (hH S) [some (.ref (a0)), some (.ref (a1)), some (.int (i2)), some (.int (i3)), some (.int (i4))] [] 0 0) := by
  intro k
  induction k with
  | zero => exact fun _ _ _ _ _ _ _ _ h => (by cases h)
  | succ k ih =>
    have hrec_5 := ih
    · intro S a0 a1 i2 i3 i4 hs0 hs1 h
      rw [fX9_soundingNow] at h
      have h := g_ip rfl h
      unfold bX9_soundingNow_5 at h
      refine zX9_soundingNow_5 hs0 hs1 ?_
      refine ⟨fun c => ?_, fun c => ?_⟩
      · have h := g_ip c h
        cases h; exact ⟨rfl, rfl⟩
      · have h := g_in c h
        obtain ⟨hv1, h⟩ := g_vs h
        refine ⟨hv1, ?_⟩
        obtain ⟨S2, x3, hc, h⟩ := g_b2s h
        refine ⟨1, _, (by decide), CX3_valueFor hs1.2.2.2.2.2.2.2.2.2.2.2 hc, ?_⟩
        rintro _ _ ⟨rfl, rfl⟩
        refine ⟨fun c => ?_, fun c => ?_⟩
        · have h := g_ip c h
          exact hrec_5 _ _ _ _ _ _ hs0 hs1 h
        · have h := g_in c h
          exact hrec_5 _ _ _ _ _ _ hs0 hs1 h
theorem CX9_soundingNow {n : Nat} {S : gS} {R : gS × Int32} {a0 : Nat} {a1 : Nat} {i2 : Int32} (hs0 : isW a0) (hs1 : isF a1) (h : FX9_soundingNow S a0 a1 i2 = some R) : sCi 2 mX9_soundingNow n S [.ref (a0), .ref (a1), .int (i2)] (fun S2 x2 => S2 = R.1 ∧ x2 = R.2) := by
  unfold FX9_soundingNow at h
  refine gCj_of (by decide) (Nat.le_of_ble_eq_true rfl) rfl rfl (zX9_soundingNow_0 hs0 hs1 ?_)
  exact (lX9_soundingNow FU) _ _ _ _ _ _ hs0 hs1 h

noncomputable def bX9_placeOf_11  (rec : Nat → gS → Nat → Nat → Int32 → Option (gS × Int32)) (S : gS) (a0 : Nat) (a1 : Nat) (i2 : Int32) : Option (gS × Int32) := if (sI S (a0) 9) < (i2 + (sI S (a1) 0)) then (some (S, (-1 : Int32))) else (g_b2 (FX9_fitsAt S (a0) (i2) (a1) ((0 : Int32))) (fun S1 b2 => if b2 = true then (some (S1, i2)) else (rec 11 S1 (a0) (a1) ((i2 + 1)))))
noncomputable def fX9_placeOf  : Nat → Nat → gS → Nat → Nat → Int32 → Option (gS × Int32)
  | 0 => fun _ _ _ _ _ => none
  | k + 1 => fun pc S a0 a1 i2 => if pc = 11 then bX9_placeOf_11  (fX9_placeOf  k) S a0 a1 i2 else none
noncomputable def FX9_placeOf (S : gS) (a0 : Nat) (a1 : Nat) : Option (gS × Int32) := if (sI S (a1) 0) = 0 then (some (S, (-1 : Int32))) else (fX9_placeOf  FU 11 S (a0) (a1) ((0 : Int32)))
set_option maxRecDepth 100000 in
theorem lX9_placeOf  {n : Nat} {R : gS × Int32} : ∀ k : Nat, (∀ (S : gS) (a0 : Nat) (a1 : Nat) (i2 : Int32) (hs0 : isW a0) (hs1 : isWd a1), fX9_placeOf  k 11 S a0 a1 i2 = some R → gG 1 mX9_placeOf 0 0 (g_Xj mX9_placeOf n 0 0 (hPi (fun S2 x2 => S2 = R.1 ∧ x2 = R.2))) 11 n (hH S) [some (.ref (a0)), some (.ref (a1)), some (.int (i2))] [] 0 0) := by
  intro k
  induction k with
  | zero => exact fun _ _ _ _ _ _ h => (by cases h)
  | succ k ih =>
    have hrec_11 := ih
    · intro S a0 a1 i2 hs0 hs1 h
      rw [fX9_placeOf] at h
      have h := g_ip rfl h
      unfold bX9_placeOf_11 at h
      refine zX9_placeOf_11 hs0 hs1 ?_
      refine ⟨fun c => ?_, fun c => ?_⟩
      · have h := g_ip c h
        cases h; exact ⟨rfl, rfl⟩
      · have h := g_in c h
        obtain ⟨S1, b2, hc, h⟩ := g_b2s h
        refine ⟨0, _, (by decide), CX9_fitsAt hs0 hs1 hc, ?_⟩
        rintro _ _ ⟨rfl, rfl⟩
        refine ⟨fun c => ?_, fun c => ?_⟩
        · have h := g_bf c h
          exact hrec_11 _ _ _ _ hs0 hs1 h
        · have h := g_bt c h
          cases h; exact ⟨rfl, rfl⟩
theorem CX9_placeOf {n : Nat} {S : gS} {R : gS × Int32} {a0 : Nat} {a1 : Nat} (hs0 : isW a0) (hs1 : isWd a1) (h : FX9_placeOf S a0 a1 = some R) : sCi 1 mX9_placeOf n S [.ref (a0), .ref (a1)] (fun S2 x2 => S2 = R.1 ∧ x2 = R.2) := by
  unfold FX9_placeOf at h
  refine gCj_of (by decide) (Nat.le_of_ble_eq_true rfl) rfl rfl (zX9_placeOf_0 hs0 hs1 ?_)
  refine ⟨fun c => ?_, fun c => ?_⟩
  · have h := g_in c h
    exact (lX9_placeOf FU) _ _ _ _ hs0 hs1 h
  · have h := g_ip c h
    cases h; exact ⟨rfl, rfl⟩

noncomputable def bX9_placesFor_4  (rec : Nat → gS → Nat → Nat → Int32 → Int32 → Option (gS × Int32)) (S : gS) (a0 : Nat) (a1 : Nat) (i2 : Int32) (i3 : Int32) : Option (gS × Int32) := if (sI S (a0) 9) < (i3 + (sI S (a1) 0)) then (some (S, i2)) else (g_b2 (FX9_fitsAt S (a0) (i3) (a1) ((1 : Int32))) (fun S1 b2 => if b2 = true then (rec 4 S1 (a0) (a1) ((i2 + 1)) ((i3 + 1))) else (rec 4 S1 (a0) (a1) (i2) ((i3 + 1)))))
noncomputable def fX9_placesFor  : Nat → Nat → gS → Nat → Nat → Int32 → Int32 → Option (gS × Int32)
  | 0 => fun _ _ _ _ _ _ => none
  | k + 1 => fun pc S a0 a1 i2 i3 => if pc = 4 then bX9_placesFor_4  (fX9_placesFor  k) S a0 a1 i2 i3 else none
noncomputable def FX9_placesFor (S : gS) (a0 : Nat) (a1 : Nat) : Option (gS × Int32) := fX9_placesFor  FU 4 S (a0) (a1) ((0 : Int32)) ((0 : Int32))
set_option maxRecDepth 100000 in
theorem lX9_placesFor  {n : Nat} {R : gS × Int32} : ∀ k : Nat, (∀ (S : gS) (a0 : Nat) (a1 : Nat) (i2 : Int32) (i3 : Int32) (hs0 : isW a0) (hs1 : isWd a1), fX9_placesFor  k 4 S a0 a1 i2 i3 = some R → gG 1 mX9_placesFor 0 0 (g_Xj mX9_placesFor n 0 0 (hPi (fun S2 x2 => S2 = R.1 ∧ x2 = R.2))) 4 n (hH S) [some (.ref (a0)), some (.ref (a1)), some (.int (i2)), some (.int (i3))] [] 0 0) := by
  intro k
  induction k with
  | zero => exact fun _ _ _ _ _ _ _ h => (by cases h)
  | succ k ih =>
    have hrec_4 := ih
    · intro S a0 a1 i2 i3 hs0 hs1 h
      rw [fX9_placesFor] at h
      have h := g_ip rfl h
      unfold bX9_placesFor_4 at h
      refine zX9_placesFor_4 hs0 hs1 ?_
      refine ⟨fun c => ?_, fun c => ?_⟩
      · have h := g_ip c h
        cases h; exact ⟨rfl, rfl⟩
      · have h := g_in c h
        obtain ⟨S1, b2, hc, h⟩ := g_b2s h
        refine ⟨0, _, (by decide), CX9_fitsAt hs0 hs1 hc, ?_⟩
        rintro _ _ ⟨rfl, rfl⟩
        refine ⟨fun c => ?_, fun c => ?_⟩
        · have h := g_bf c h
          exact hrec_4 _ _ _ _ _ hs0 hs1 h
        · have h := g_bt c h
          exact hrec_4 _ _ _ _ _ hs0 hs1 h
theorem CX9_placesFor {n : Nat} {S : gS} {R : gS × Int32} {a0 : Nat} {a1 : Nat} (hs0 : isW a0) (hs1 : isWd a1) (h : FX9_placesFor S a0 a1 = some R) : sCi 1 mX9_placesFor n S [.ref (a0), .ref (a1)] (fun S2 x2 => S2 = R.1 ∧ x2 = R.2) := by
  unfold FX9_placesFor at h
  refine gCj_of (by decide) (Nat.le_of_ble_eq_true rfl) rfl rfl (zX9_placesFor_0 hs0 hs1 ?_)
  exact (lX9_placesFor FU) _ _ _ _ _ hs0 hs1 h

noncomputable def bX9_passMinute_12  (rec : Nat → gS → Nat → Nat → Int32 → Int32 → Option (gS × Int32)) (S : gS) (a0 : Nat) (a1 : Nat) (i2 : Int32) (i3 : Int32) : Option (gS × Int32) := if (sI S (a1) 0) ≤ i3 then (rec 45 S (a0) (a1) (i2) ((0 : Int32))) else (if g_vp (i3) 7 = true then (g_lt (uR S ((a0 + 1)) (Int32.toNatClampNeg (i3)) (((sR S ((a0 + 1)) (Int32.toNatClampNeg (i3))) + (i2 * (sR S ((a1 + 4)) (Int32.toNatClampNeg (i3))))))) (fun S2 => rec 12 S2 (a0) (a1) (i2) ((i3 + 1)))) else none)
noncomputable def bX9_passMinute_45  (rec : Nat → gS → Nat → Nat → Int32 → Int32 → Option (gS × Int32)) (S : gS) (a0 : Nat) (a1 : Nat) (i2 : Int32) (i3 : Int32) : Option (gS × Int32) := if (sI S (a1) 0) ≤ i3 then (g_b2 (FX9_soundingNow S (a0) (a1) (i2)) (fun S1 x2 => g_lt (uI S1 (a0) 4 (x2)) (fun S3 => g_b2 (FX1_readOf S3 (a1) ((sI S3 (a0) 4))) (fun S4 x5 => g_lt (uI S4 (a0) 5 (x5)) (fun S6 => if (sI S6 (a0) 5) = (-1 : Int32) then (g_lt (uI S6 (a0) 0 (((sI S6 (a0) 0) + (1 : Int32)))) (fun S7 => some (S7, (sI S7 (a0) 5)))) else (if (40 : Int32) ≤ (sI S6 (a0) 9) then (g_lt (uI S6 (a0) 0 (((sI S6 (a0) 0) + (1 : Int32)))) (fun S8 => some (S8, (sI S8 (a0) 5)))) else (if g_vp ((sI S6 (a0) 9)) 40 = true then (g_lt (uR S6 ((a0 + 3)) (Int32.toNatClampNeg ((sI S6 (a0) 9))) ((sI S6 (a0) 5))) (fun S10 => g_lt (uI S10 (a0) 9 (((sI S10 (a0) 9) + (1 : Int32)))) (fun S11 => g_lt (uI S11 (a0) 0 (((sI S11 (a0) 0) + (1 : Int32)))) (fun S12 => some (S12, (sI S12 (a0) 5)))))) else none))))))) else (if g_vp (i3) 7 = true then (g_b1 (FX9_runOver S (a0) (a1) ((sR S ((a1 + 7)) (Int32.toNatClampNeg (i3))))) (fun S14 => g_b1 (FX9_spout S14 (a0) (a1) ((sR S14 ((a1 + 7)) (Int32.toNatClampNeg (i3))))) (fun S15 => rec 45 S15 (a0) (a1) (i2) ((i3 + 1))))) else none)
noncomputable def fX9_passMinute  : Nat → Nat → gS → Nat → Nat → Int32 → Int32 → Option (gS × Int32)
  | 0 => fun _ _ _ _ _ _ => none
  | k + 1 => fun pc S a0 a1 i2 i3 => if pc = 12 then bX9_passMinute_12  (fX9_passMinute  k) S a0 a1 i2 i3 else if pc = 45 then bX9_passMinute_45  (fX9_passMinute  k) S a0 a1 i2 i3 else none
noncomputable def FX9_passMinute (S : gS) (a0 : Nat) (a1 : Nat) (i2 : Int32) : Option (gS × Int32) := g_lt (uI S (a0) 6 ((0 : Int32))) (fun S1 => g_lt (uI S1 (a0) 7 ((0 : Int32))) (fun S2 => fX9_passMinute  FU 12 S2 (a0) (a1) (i2) ((0 : Int32))))
set_option maxRecDepth 100000 in
theorem lX9_passMinute  {n : Nat} {R : gS × Int32} : ∀ k : Nat, (∀ (S : gS) (a0 : Nat) (a1 : Nat) (i2 : Int32) (i3 : Int32) (hs0 : isW a0) (hs1 : isF a1), fX9_passMinute  k 12 S a0 a1 i2 i3 = some R → gG 3 mX9_passMinute 0 0 (g_Xj mX9_passMinute n 0 0 (hPi (fun S2 x2 => S2 = R.1 ∧ x2 = R.2))) 12 n (hH S) [some (.ref (a0)), some (.ref (a1)), some (.int (i2)), some (.int (i3))] [] 0 0) ∧ (∀ (S : gS) (a0 : Nat) (a1 : Nat) (i2 : Int32) (i3 : Int32) (hs0 : isW a0) (hs1 : isF a1), fX9_passMinute  k 45 S a0 a1 i2 i3 = some R → gG 3 mX9_passMinute 0 0 (g_Xj mX9_passMinute n 0 0 (hPi (fun S2 x2 => S2 = R.1 ∧ x2 = R.2))) 45 n (hH S) [some (.ref (a0)), some (.ref (a1)), some (.int (i2)), some (.int (i3))] [] 0 0) := by
  intro k
  induction k with
  | zero => exact ⟨fun _ _ _ _ _ _ _ h => (by cases h), fun _ _ _ _ _ _ _ h => (by cases h)⟩
  | succ k ih =>
    have hrec_12 := ih.1
    have hrec_45 := ih.2
    refine ⟨?_, ?_⟩
    · intro S a0 a1 i2 i3 hs0 hs1 h
      rw [fX9_passMinute] at h
      have h := g_ip rfl h
      unfold bX9_passMinute_12 at h
      refine zX9_passMinute_12 hs0 hs1 ?_
      refine ⟨fun c => ?_, fun c => ?_⟩
      · have h := g_ip c h
        exact hrec_45 _ _ _ _ _ hs0 hs1 h
      · have h := g_in c h
        obtain ⟨hv1, h⟩ := g_vs h
        refine ⟨hv1, ?_⟩
        intro S2 eS
        have h := g_lts eS h
        exact hrec_12 _ _ _ _ _ hs0 hs1 h
    · intro S a0 a1 i2 i3 hs0 hs1 h
      rw [fX9_passMinute] at h
      have h := g_in (by decide) h
      have h := g_ip rfl h
      unfold bX9_passMinute_45 at h
      refine zX9_passMinute_45 hs0 hs1 ?_
      refine ⟨fun c => ?_, fun c => ?_⟩
      · have h := g_ip c h
        obtain ⟨S1, x2, hc, h⟩ := g_b2s h
        refine ⟨2, _, (by decide), CX9_soundingNow hs0 hs1 hc, ?_⟩
        rintro _ _ ⟨rfl, rfl⟩
        intro S3 eS
        have h := g_lts eS h
        obtain ⟨S4, x5, hc, h⟩ := g_b2s h
        refine ⟨1, _, (by decide), CX1_readOf hs1 hc, ?_⟩
        rintro _ _ ⟨rfl, rfl⟩
        intro S6 eS
        have h := g_lts eS h
        refine ⟨fun c => ?_, fun c => ?_⟩
        · have h := g_ip c h
          intro S7 eS
          have h := g_lts eS h
          cases h; exact ⟨rfl, rfl⟩
        · have h := g_in c h
          refine ⟨fun c => ?_, fun c => ?_⟩
          · have h := g_ip c h
            intro S8 eS
            have h := g_lts eS h
            cases h; exact ⟨rfl, rfl⟩
          · have h := g_in c h
            obtain ⟨hv9, h⟩ := g_vs h
            refine ⟨hv9, ?_⟩
            intro S10 eS
            have h := g_lts eS h
            intro S11 eS
            have h := g_lts eS h
            intro S12 eS
            have h := g_lts eS h
            cases h; exact ⟨rfl, rfl⟩
      · have h := g_in c h
        obtain ⟨hv13, h⟩ := g_vs h
        refine ⟨hv13, ?_⟩
        obtain ⟨S14, hc, h⟩ := g_b1s h
        refine ⟨0, _, (by decide), CX9_runOver hs0 hs1 hc, ?_⟩
        rintro _ rfl
        obtain ⟨S15, hc, h⟩ := g_b1s h
        refine ⟨1, _, (by decide), CX9_spout hs0 hs1 hc, ?_⟩
        rintro _ rfl
        exact hrec_45 _ _ _ _ _ hs0 hs1 h
theorem CX9_passMinute {n : Nat} {S : gS} {R : gS × Int32} {a0 : Nat} {a1 : Nat} {i2 : Int32} (hs0 : isW a0) (hs1 : isF a1) (h : FX9_passMinute S a0 a1 i2 = some R) : sCi 3 mX9_passMinute n S [.ref (a0), .ref (a1), .int (i2)] (fun S2 x2 => S2 = R.1 ∧ x2 = R.2) := by
  unfold FX9_passMinute at h
  refine gCj_of (by decide) (Nat.le_of_ble_eq_true rfl) rfl rfl (zX9_passMinute_0 hs0 hs1 ?_)
  intro S1 eS
  have h := g_lts eS h
  intro S2 eS
  have h := g_lts eS h
  exact (lX9_passMinute FU).1 _ _ _ _ _ hs0 hs1 h
