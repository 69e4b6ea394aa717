noncomputable def FX12_thrown (S : gS)  : Option (gS × Int32) := some (S, (sI S (180) 0))
theorem CX12_thrown {n : Nat} {S : gS} {R : gS × Int32}   (h : FX12_thrown S  = some R) : sCi 0 mX12_thrown n S [.ref (180)] (fun S2 x2 => S2 = R.1 ∧ x2 = R.2) := by
  unfold FX12_thrown at h
  refine gCj_of (by decide) (Nat.le_of_ble_eq_true rfl) rfl rfl (zX12_thrown_0  ?_)
  cases h; exact ⟨rfl, rfl⟩

noncomputable def FX12_within (S : gS) (i0 : Int32) (i1 : Int32) (i2 : Int32) : Option (gS × Bool) := if i0 < i1 then (some (S, false)) else (if i2 < i0 then (some (S, false)) else (some (S, true)))
theorem CX12_within {n : Nat} {S : gS} {R : gS × Bool} {i0 : Int32} {i1 : Int32} {i2 : Int32}  (h : FX12_within S i0 i1 i2 = some R) : sCz 0 mX12_within n S [.int (i0), .int (i1), .int (i2)] (fun S2 x2 => S2 = R.1 ∧ x2 = R.2) := by
  unfold FX12_within at h
  refine gCz_of (by decide) (Nat.le_of_ble_eq_true rfl) rfl rfl (zX12_within_0  ?_)
  refine ⟨fun c => ?_, fun c => ?_⟩
  · have h := g_ip c h
    cases h; exact ⟨rfl, rfl⟩
  · have h := g_in c h
    refine ⟨fun c => ?_, fun c => ?_⟩
    · have h := g_ip c h
      cases h; exact ⟨rfl, rfl⟩
    · have h := g_in c h
      cases h; exact ⟨rfl, rfl⟩

noncomputable def bX12_bits_4  (rec : Nat → gS → Int32 → Int32 → Int32 → Option (gS × Int32)) (S : gS) (i0 : Int32) (i1 : Int32) (i2 : Int32) : Option (gS × Int32) := if (10 : Int32) ≤ i2 then (some (S, i1)) else (rec 4 S (i0) ((i1 + ((i0 >>> (i2 &&& 31)) &&& (1 : Int32)))) ((i2 + 1)))
noncomputable def fX12_bits  : Nat → Nat → gS → Int32 → Int32 → Int32 → Option (gS × Int32)
  | 0 => fun _ _ _ _ _ => none
  | k + 1 => fun pc S i0 i1 i2 => if pc = 4 then bX12_bits_4  (fX12_bits  k) S i0 i1 i2 else none
noncomputable def FX12_bits (S : gS) (i0 : Int32) : Option (gS × Int32) := fX12_bits  FU 4 S (i0) ((0 : Int32)) ((0 : Int32))
set_option maxRecDepth 100000 in
theorem lX12_bits  {n : Nat} {R : gS × Int32} : ∀ k : Nat, (∀ (S : gS) (i0 : Int32) (i1 : Int32) (i2 : Int32) , fX12_bits  k 4 S i0 i1 i2 = some R → gG 0 mX12_bits 0 0 (g_Xj mX12_bits n 0 0 (hPi (fun S2 x2 => S2 = R.1 ∧ x2 = R.2))) 4 n (hH S) [some (.int (i0)), some (.int (i1)), some (.int (i2))] [] 0 0) := by
  intro k
  induction k with
  | zero => exact fun _ _ _ _ h => (by cases h)
  | succ k ih =>
    have hrec_4 := ih
    · intro S i0 i1 i2 h
      rw [fX12_bits] at h
      have h := g_ip rfl h
      unfold bX12_bits_4 at h
      refine zX12_bits_4  ?_
      refine ⟨fun c => ?_, fun c => ?_⟩
      · have h := g_ip c h
        cases h; exact ⟨rfl, rfl⟩
      · have h := g_in c h
        exact hrec_4 _ _ _ _  h
theorem CX12_bits {n : Nat} {S : gS} {R : gS × Int32} {i0 : Int32}  (h : FX12_bits S i0 = some R) : sCi 0 mX12_bits n S [.int (i0)] (fun S2 x2 => S2 = R.1 ∧ x2 = R.2) := by
  unfold FX12_bits at h
  refine gCj_of (by decide) (Nat.le_of_ble_eq_true rfl) rfl rfl (zX12_bits_0  ?_)
  exact (lX12_bits FU) _ _ _ _  h

noncomputable def bX12_feed_8  (rec : Nat → gS → Int64 → Int64 → Int64 → Int32 → Int64 → Int32 → Option (gS × Int32)) (S : gS) (j1 : Int64) (j3 : Int64) (j5 : Int64) (i7 : Int32) (j8 : Int64) (i10 : Int32) : Option (gS × Int32) := if (24 : Int32) ≤ i7 then (some (S, (sI S (180) 1))) else (if (8 : Int32) ≤ i7 then (if (16 : Int32) ≤ i7 then (rec 41 S (j1) (j3) (j5) (i7) (j5) 0) else (rec 41 S (j1) (j3) (j5) (i7) (j3) 0)) else (rec 41 S (j1) (j3) (j5) (i7) (j1) 0))
noncomputable def bX12_feed_41  (rec : Nat → gS → Int64 → Int64 → Int64 → Int32 → Int64 → Int32 → Option (gS × Int32)) (S : gS) (j1 : Int64) (j3 : Int64) (j5 : Int64) (i7 : Int32) (j8 : Int64) (i10 : Int32) : Option (gS × Int32) := if (1000 : Int32) ≤ (sI S (180) 1) then (rec 8 S (j1) (j3) (j5) ((i7 + 1)) 0 0) else (if (Int64.toInt32 ((((Int64.toUInt64 (j8) >>> ((Int32.toInt64 (((56 : Int32) - ((8 : Int32) * (i7 &&& (7 : Int32)))))).toUInt64 &&& Int64.toUInt64 63)).toInt64) &&& (255 : Int64)))) = (10 : Int32) then (rec 93 S (j1) (j3) (j5) (i7) 0 ((Int64.toInt32 ((((Int64.toUInt64 (j8) >>> ((Int32.toInt64 (((56 : Int32) - ((8 : Int32) * (i7 &&& (7 : Int32)))))).toUInt64 &&& Int64.toUInt64 63)).toInt64) &&& (255 : Int64)))))) else (if (Int64.toInt32 ((((Int64.toUInt64 (j8) >>> ((Int32.toInt64 (((56 : Int32) - ((8 : Int32) * (i7 &&& (7 : Int32)))))).toUInt64 &&& Int64.toUInt64 63)).toInt64) &&& (255 : Int64)))) < (32 : Int32) then (rec 8 S (j1) (j3) (j5) ((i7 + 1)) 0 0) else (if (126 : Int32) < (Int64.toInt32 ((((Int64.toUInt64 (j8) >>> ((Int32.toInt64 (((56 : Int32) - ((8 : Int32) * (i7 &&& (7 : Int32)))))).toUInt64 &&& Int64.toUInt64 63)).toInt64) &&& (255 : Int64)))) then (rec 8 S (j1) (j3) (j5) ((i7 + 1)) 0 0) else (rec 93 S (j1) (j3) (j5) (i7) 0 ((Int64.toInt32 ((((Int64.toUInt64 (j8) >>> ((Int32.toInt64 (((56 : Int32) - ((8 : Int32) * (i7 &&& (7 : Int32)))))).toUInt64 &&& Int64.toUInt64 63)).toInt64) &&& (255 : Int64)))))))))
noncomputable def bX12_feed_93  (rec : Nat → gS → Int64 → Int64 → Int64 → Int32 → Int64 → Int32 → Option (gS × Int32)) (S : gS) (j1 : Int64) (j3 : Int64) (j5 : Int64) (i7 : Int32) (j8 : Int64) (i10 : Int32) : Option (gS × Int32) := if g_vp ((sI S (180) 1)) 1000 = true then (g_lt (uR S (181) (Int32.toNatClampNeg ((sI S (180) 1))) (i10)) (fun S2 => g_lt (uI S2 (180) 1 (((sI S2 (180) 1) + (1 : Int32)))) (fun S3 => rec 8 S3 (j1) (j3) (j5) ((i7 + 1)) 0 0))) else none
noncomputable def fX12_feed  : Nat → Nat → gS → Int64 → Int64 → Int64 → Int32 → Int64 → Int32 → Option (gS × Int32)
  | 0 => fun _ _ _ _ _ _ _ _ => none
  | k + 1 => fun pc S j1 j3 j5 i7 j8 i10 => if pc = 8 then bX12_feed_8  (fX12_feed  k) S j1 j3 j5 i7 j8 i10 else if pc = 41 then bX12_feed_41  (fX12_feed  k) S j1 j3 j5 i7 j8 i10 else if pc = 93 then bX12_feed_93  (fX12_feed  k) S j1 j3 j5 i7 j8 i10 else none
noncomputable def FX12_feed (S : gS) (j1 : Int64) (j3 : Int64) (j5 : Int64) : Option (gS × Int32) := g_lt (uI S (180) 0 ((0 : Int32))) (fun S1 => fX12_feed  FU 8 S1 (j1) (j3) (j5) ((0 : Int32)) 0 0)
set_option maxRecDepth 100000 in
theorem lX12_feed  {n : Nat} {R : gS × Int32} : ∀ k : Nat, (∀ (S : gS) (j1 : Int64) (j3 : Int64) (j5 : Int64) (i7 : Int32) (j8 : Int64) (i10 : Int32) , fX12_feed  k 8 S j1 j3 j5 i7 j8 i10 = some R → gG 0 mX12_feed 0 0 (g_Xj mX12_feed n 0 0 (hPi (fun S2 x2 => S2 = R.1 ∧ x2 = R.2))) 8 n (hH S) [some (.ref (180)), some (.long (j1)), none, some (.long (j3)), none, some (.long (j5)), none, some (.int (i7)), none, none, none] [] 0 0) ∧ (∀ (S : gS) (j1 : Int64) (j3 : Int64) (j5 : Int64) (i7 : Int32) (j8 : Int64) (i10 : Int32) , fX12_feed  k 41 S j1 j3 j5 i7 j8 i10 = some R → gG 0 mX12_feed 0 0 (g_Xj mX12_feed n 0 0 (hPi (fun S2 x2 => S2 = R.1 ∧ x2 = R.2))) 41 n (hH S) [some (.ref (180)), some (.long (j1)), none, some (.long (j3)), none, some (.long (j5)), none, some (.int (i7)), some (.long (j8)), none, none] [] 0 0) ∧ (∀ (S : gS) (j1 : Int64) (j3 : Int64) (j5 : Int64) (i7 : Int32) (j8 : Int64) (i10 : Int32) , fX12_feed  k 93 S j1 j3 j5 i7 j8 i10 = some R → gG 0 mX12_feed 0 0 (g_Xj mX12_feed n 0 0 (hPi (fun S2 x2 => S2 = R.1 ∧ x2 = R.2))) 93 n (hH S) [some (.ref (180)), some (.long (j1)), none, some (.long (j3)), none, some (.long (j5)), none, some (.int (i7)), none, none, some (.int (i10))] [] 0 0) := by
  intro k
  induction k with
  | zero => exact ⟨fun _ _ _ _ _ _ _ h => (by cases h), fun _ _ _ _ _ _ _ h => (by cases h), fun _ _ _ _ _ _ _ h => (by cases h)⟩
  | succ k ih =>
    have hrec_8 := ih.1
    have hrec_41 := ih.2.1
    have hrec_93 := ih.2.2
    refine ⟨?_, ?_, ?_⟩
    · intro S j1 j3 j5 i7 j8 i10 h
      rw [fX12_feed] at h
      have h := g_ip rfl h
      unfold bX12_feed_8 at h
      refine zX12_feed_8  ?_
      refine ⟨fun c => ?_, fun c => ?_⟩
      · have h := g_ip c h
        cases h; exact ⟨rfl, rfl⟩
      · have h := g_in c h
        refine ⟨fun c => ?_, fun c => ?_⟩
        · have h := g_ip c h
          refine ⟨fun c => ?_, fun c => ?_⟩
          · have h := g_ip c h
            exact hrec_41 _ _ _ _ _ _ _  h
          · have h := g_in c h
            exact hrec_41 _ _ _ _ _ _ _  h
        · have h := g_in c h
          exact hrec_41 _ _ _ _ _ _ _  h
    · intro S j1 j3 j5 i7 j8 i10 h
      rw [fX12_feed] at h
      have h := g_in (by decide) h
      have h := g_ip rfl h
      unfold bX12_feed_41 at h
      refine zX12_feed_41  ?_
      refine ⟨fun c => ?_, fun c => ?_⟩
      · have h := g_ip c h
        exact hrec_8 _ _ _ _ _ _ _  h
      · have h := g_in c h
        refine ⟨fun c => ?_, fun c => ?_⟩
        · have h := g_ip c h
          exact hrec_93 _ _ _ _ _ _ _  h
        · have h := g_in c h
          refine ⟨fun c => ?_, fun c => ?_⟩
          · have h := g_ip c h
            exact hrec_8 _ _ _ _ _ _ _  h
          · have h := g_in c h
            refine ⟨fun c => ?_, fun c => ?_⟩
            · have h := g_ip c h
              exact hrec_8 _ _ _ _ _ _ _  h
            · have h := g_in c h
              exact hrec_93 _ _ _ _ _ _ _  h
    · intro S j1 j3 j5 i7 j8 i10 h
      rw [fX12_feed] at h
      have h := g_in (by decide) h
      have h := g_in (by decide) h
      have h := g_ip rfl h
      unfold bX12_feed_93 at h
      refine zX12_feed_93  ?_
      obtain ⟨hv1, h⟩ := g_vs h
      refine ⟨hv1, ?_⟩
      intro S2 eS
      have h := g_lts eS h
      intro S3 eS
      have h := g_lts eS h
      exact hrec_8 _ _ _ _ _ _ _  h
theorem CX12_feed {n : Nat} {S : gS} {R : gS × Int32} {j1 : Int64} {j3 : Int64} {j5 : Int64}  (h : FX12_feed S j1 j3 j5 = some R) : sCi 0 mX12_feed n S [.ref (180), .long (j1), .long (j3), .long (j5)] (fun S2 x2 => S2 = R.1 ∧ x2 = R.2) := by
  unfold FX12_feed at h
  refine gCj_of (by decide) (Nat.le_of_ble_eq_true rfl) rfl rfl (zX12_feed_0  ?_)
  intro S1 eS
  have h := g_lts eS h
  exact (lX12_feed FU).1 _ _ _ _ _ _ _  h

noncomputable def FX12_signAt (S : gS) (i1 : Int32) : Option (gS × Int32) := if (sI S (180) 3) ≤ i1 then (some (S, (0 : Int32))) else (if g_vp (i1) 1000 = true then (some (S, (sR S (181) (Int32.toNatClampNeg (i1))))) else none)
theorem CX12_signAt {n : Nat} {S : gS} {R : gS × Int32} {i1 : Int32}  (h : FX12_signAt S i1 = some R) : sCi 0 mX12_signAt n S [.ref (180), .int (i1)] (fun S2 x2 => S2 = R.1 ∧ x2 = R.2) := by
  unfold FX12_signAt at h
  refine gCj_of (by decide) (Nat.le_of_ble_eq_true rfl) rfl rfl (zX12_signAt_0  ?_)
  refine ⟨fun c => ?_, fun c => ?_⟩
  · have h := g_ip c h
    cases h; exact ⟨rfl, rfl⟩
  · have h := g_in c h
    obtain ⟨hv1, h⟩ := g_vs h
    refine ⟨hv1, ?_⟩
    cases h; exact ⟨rfl, rfl⟩

noncomputable def bX12_nextToken_0  (rec : Nat → gS → Int32 → Option (gS)) (S : gS) (i1 : Int32) : Option (gS) := if (sI S (180) 3) ≤ (sI S (180) 4) then (rec 52 S 0) else (if g_vp ((sI S (180) 4)) 1000 = true then (if (sR S (181) (Int32.toNatClampNeg ((sI S (180) 4)))) = (32 : Int32) then (g_lt (uI S (180) 4 (((sI S (180) 4) + (1 : Int32)))) (fun S2 => rec 0 S2 0)) else (if (sR S (181) (Int32.toNatClampNeg ((sI S (180) 4)))) = (10 : Int32) then (g_lt (uI S (180) 4 (((sI S (180) 4) + (1 : Int32)))) (fun S3 => rec 0 S3 0)) else (rec 52 S 0))) else none)
noncomputable def bX12_nextToken_52  (rec : Nat → gS → Int32 → Option (gS)) (S : gS) (i1 : Int32) : Option (gS) := g_lt (uI S (180) 5 ((sI S (180) 4))) (fun S1 => g_lt (uJ S1 (180) 7 ((0 : Int64))) (fun S2 => g_lt (uI S2 (180) 8 ((0 : Int32))) (fun S3 => if (sI S3 (180) 4) = (sI S3 (180) 3) then (g_lt (uI S3 (180) 6 ((0 : Int32))) (fun S5 => some S5)) else (if g_vp ((sI S3 (180) 4)) 1000 = true then (if (sR S3 (181) (Int32.toNatClampNeg ((sI S3 (180) 4)))) < (97 : Int32) then (if (sR S3 (181) (Int32.toNatClampNeg ((sI S3 (180) 4)))) < (48 : Int32) then (rec 322 S3 ((sR S3 (181) (Int32.toNatClampNeg ((sI S3 (180) 4)))))) else (if (57 : Int32) < (sR S3 (181) (Int32.toNatClampNeg ((sI S3 (180) 4)))) then (rec 322 S3 ((sR S3 (181) (Int32.toNatClampNeg ((sI S3 (180) 4)))))) else (rec 224 S3 0))) else (if (122 : Int32) < (sR S3 (181) (Int32.toNatClampNeg ((sI S3 (180) 4)))) then (if (sR S3 (181) (Int32.toNatClampNeg ((sI S3 (180) 4)))) < (48 : Int32) then (rec 322 S3 ((sR S3 (181) (Int32.toNatClampNeg ((sI S3 (180) 4)))))) else (if (57 : Int32) < (sR S3 (181) (Int32.toNatClampNeg ((sI S3 (180) 4)))) then (rec 322 S3 ((sR S3 (181) (Int32.toNatClampNeg ((sI S3 (180) 4)))))) else (rec 224 S3 0))) else (rec 109 S3 0))) else none))))
noncomputable def bX12_nextToken_109  (rec : Nat → gS → Int32 → Option (gS)) (S : gS) (i1 : Int32) : Option (gS) := g_b2 (FX12_signAt S ((sI S (180) 4))) (fun S1 x2 => if x2 < (97 : Int32) then (rec 188 S1 0) else (g_b2 (FX12_signAt S1 ((sI S1 (180) 4))) (fun S3 x4 => if (122 : Int32) < x4 then (rec 188 S3 0) else (if (8 : Int32) ≤ ((sI S3 (180) 4) - (sI S3 (180) 5)) then (g_lt (uI S3 (180) 4 (((sI S3 (180) 4) + (1 : Int32)))) (fun S5 => rec 109 S5 0)) else (g_b2 (FX12_signAt S3 ((sI S3 (180) 4))) (fun S6 x7 => g_lt (uJ S6 (180) 7 (((((sJ S3 (180) 7) * (27 : Int64)) + (Int32.toInt64 (x7))) - (96 : Int64)))) (fun S8 => g_lt (uI S8 (180) 4 (((sI S8 (180) 4) + (1 : Int32)))) (fun S9 => rec 109 S9 0))))))))
noncomputable def bX12_nextToken_188  (rec : Nat → gS → Int32 → Option (gS)) (S : gS) (i1 : Int32) : Option (gS) := if ((sI S (180) 4) - (sI S (180) 5)) ≤ (8 : Int32) then (g_lt (uI S (180) 6 ((1 : Int32))) (fun S1 => some S1)) else (g_lt (uI S (180) 6 ((4 : Int32))) (fun S2 => some S2))
noncomputable def bX12_nextToken_224  (rec : Nat → gS → Int32 → Option (gS)) (S : gS) (i1 : Int32) : Option (gS) := g_b2 (FX12_signAt S ((sI S (180) 4))) (fun S1 x2 => if x2 < (48 : Int32) then (rec 299 S1 0) else (g_b2 (FX12_signAt S1 ((sI S1 (180) 4))) (fun S3 x4 => if (57 : Int32) < x4 then (rec 299 S3 0) else (if (4 : Int32) ≤ ((sI S3 (180) 4) - (sI S3 (180) 5)) then (g_lt (uI S3 (180) 4 (((sI S3 (180) 4) + (1 : Int32)))) (fun S5 => rec 224 S5 0)) else (g_b2 (FX12_signAt S3 ((sI S3 (180) 4))) (fun S6 x7 => g_lt (uI S6 (180) 8 (((((sI S3 (180) 8) * (10 : Int32)) + x7) - (48 : Int32)))) (fun S8 => g_lt (uI S8 (180) 4 (((sI S8 (180) 4) + (1 : Int32)))) (fun S9 => rec 224 S9 0))))))))
noncomputable def bX12_nextToken_299  (rec : Nat → gS → Int32 → Option (gS)) (S : gS) (i1 : Int32) : Option (gS) := if ((sI S (180) 4) - (sI S (180) 5)) ≤ (4 : Int32) then (g_lt (uI S (180) 6 ((2 : Int32))) (fun S1 => some S1)) else (g_lt (uI S (180) 6 ((4 : Int32))) (fun S2 => some S2))
noncomputable def bX12_nextToken_322  (rec : Nat → gS → Int32 → Option (gS)) (S : gS) (i1 : Int32) : Option (gS) := g_lt (uI S (180) 4 (((sI S (180) 4) + (1 : Int32)))) (fun S1 => if i1 < (40 : Int32) then (if i1 = (45 : Int32) then (g_lt (uI S1 (180) 6 ((3 : Int32))) (fun S2 => some S2)) else (if i1 < (59 : Int32) then (g_lt (uI S1 (180) 6 ((4 : Int32))) (fun S3 => some S3)) else (if (61 : Int32) < i1 then (g_lt (uI S1 (180) 6 ((4 : Int32))) (fun S4 => some S4)) else (g_lt (uI S1 (180) 6 ((3 : Int32))) (fun S5 => some S5))))) else (if i1 ≤ (43 : Int32) then (g_lt (uI S1 (180) 6 ((3 : Int32))) (fun S6 => some S6)) else (if i1 = (45 : Int32) then (g_lt (uI S1 (180) 6 ((3 : Int32))) (fun S7 => some S7)) else (if i1 < (59 : Int32) then (g_lt (uI S1 (180) 6 ((4 : Int32))) (fun S8 => some S8)) else (if (61 : Int32) < i1 then (g_lt (uI S1 (180) 6 ((4 : Int32))) (fun S9 => some S9)) else (g_lt (uI S1 (180) 6 ((3 : Int32))) (fun S10 => some S10)))))))
noncomputable def fX12_nextToken  : Nat → Nat → gS → Int32 → Option (gS)
  | 0 => fun _ _ _ => none
  | k + 1 => fun pc S i1 => if pc = 0 then bX12_nextToken_0  (fX12_nextToken  k) S i1 else if pc = 52 then bX12_nextToken_52  (fX12_nextToken  k) S i1 else if pc = 109 then bX12_nextToken_109  (fX12_nextToken  k) S i1 else if pc = 188 then bX12_nextToken_188  (fX12_nextToken  k) S i1 else if pc = 224 then bX12_nextToken_224  (fX12_nextToken  k) S i1 else if pc = 299 then bX12_nextToken_299  (fX12_nextToken  k) S i1 else if pc = 322 then bX12_nextToken_322  (fX12_nextToken  k) S i1 else none
noncomputable def FX12_nextToken (S : gS)  : Option (gS) := fX12_nextToken  FU 0 S 0
set_option maxRecDepth 100000 in
theorem lX12_nextToken  {n : Nat} {R : gS} : ∀ k : Nat, (∀ (S : gS) (i1 : Int32) , fX12_nextToken  k 0 S i1 = some R → gG 1 mX12_nextToken 0 0 (g_Xv mX12_nextToken n 0 0 (hPv (fun S2 => S2 = R))) 0 n (hH S) [some (.ref (180)), none] [] 0 0) ∧ (∀ (S : gS) (i1 : Int32) , fX12_nextToken  k 52 S i1 = some R → gG 1 mX12_nextToken 0 0 (g_Xv mX12_nextToken n 0 0 (hPv (fun S2 => S2 = R))) 52 n (hH S) [some (.ref (180)), none] [] 0 0) ∧ (∀ (S : gS) (i1 : Int32) , fX12_nextToken  k 109 S i1 = some R → gG 1 mX12_nextToken 0 0 (g_Xv mX12_nextToken n 0 0 (hPv (fun S2 => S2 = R))) 109 n (hH S) [some (.ref (180)), none] [] 0 0) ∧ (∀ (S : gS) (i1 : Int32) , fX12_nextToken  k 188 S i1 = some R → gG 1 mX12_nextToken 0 0 (g_Xv mX12_nextToken n 0 0 (hPv (fun S2 => S2 = R))) 188 n (hH S) [some (.ref (180)), none] [] 0 0) ∧ (∀ (S : gS) (i1 : Int32) , fX12_nextToken  k 224 S i1 = some R → gG 1 mX12_nextToken 0 0 (g_Xv mX12_nextToken n 0 0 (hPv (fun S2 => S2 = R))) 224 n (hH S) [some (.ref (180)), none] [] 0 0) ∧ (∀ (S : gS) (i1 : Int32) , fX12_nextToken  k 299 S i1 = some R → gG 1 mX12_nextToken 0 0 (g_Xv mX12_nextToken n 0 0 (hPv (fun S2 => S2 = R))) 299 n (hH S) [some (.ref (180)), none] [] 0 0) ∧ (∀ (S : gS) (i1 : Int32) , fX12_nextToken  k 322 S i1 = some R → gG 1 mX12_nextToken 0 0 (g_Xv mX12_nextToken n 0 0 (hPv (fun S2 => S2 = R))) 322 n (hH S) [some (.ref (180)), some (.int (i1))] [] 0 0) := by
  intro k
  induction k with
  | zero => exact ⟨fun _ _ h => (by cases h), fun _ _ h => (by cases h), fun _ _ h => (by cases h), fun _ _ h => (by cases h), fun _ _ h => (by cases h), fun _ _ h => (by cases h), fun _ _ h => (by cases h)⟩
  | succ k ih =>
    have hrec_0 := ih.1
    have hrec_52 := ih.2.1
    have hrec_109 := ih.2.2.1
    have hrec_188 := ih.2.2.2.1
    have hrec_224 := ih.2.2.2.2.1
    have hrec_299 := ih.2.2.2.2.2.1
    have hrec_322 := ih.2.2.2.2.2.2
    refine ⟨?_, ?_, ?_, ?_, ?_, ?_, ?_⟩
    · intro S i1 h
      rw [fX12_nextToken] at h
      have h := g_ip rfl h
      unfold bX12_nextToken_0 at h
      refine zX12_nextToken_0  ?_
      refine ⟨fun c => ?_, fun c => ?_⟩
      · have h := g_ip c h
        exact hrec_52 _ _  h
      · have h := g_in c h
        obtain ⟨hv1, h⟩ := g_vs h
        refine ⟨hv1, ?_⟩
        refine ⟨fun c => ?_, fun c => ?_⟩
        · have h := g_ip c h
          intro S2 eS
          have h := g_lts eS h
          exact hrec_0 _ _  h
        · have h := g_in c h
          refine ⟨fun c => ?_, fun c => ?_⟩
          · have h := g_in c h
            exact hrec_52 _ _  h
          · have h := g_ip c h
            intro S3 eS
            have h := g_lts eS h
            exact hrec_0 _ _  h
    · intro S i1 h
      rw [fX12_nextToken] at h
      have h := g_in (by decide) h
      have h := g_ip rfl h
      unfold bX12_nextToken_52 at h
      refine zX12_nextToken_52  ?_
      intro S1 eS
      have h := g_lts eS h
      intro S2 eS
      have h := g_lts eS h
      intro S3 eS
      have h := g_lts eS h
      refine ⟨fun c => ?_, fun c => ?_⟩
      · have h := g_in c h
        obtain ⟨hv4, h⟩ := g_vs h
        refine ⟨hv4, ?_⟩
        refine ⟨fun c => ?_, fun c => ?_⟩
        · have h := g_ip c h
          refine ⟨fun c => ?_, fun c => ?_⟩
          · have h := g_ip c h
            exact hrec_322 _ _  h
          · have h := g_in c h
            refine ⟨fun c => ?_, fun c => ?_⟩
            · have h := g_ip c h
              exact hrec_322 _ _  h
            · have h := g_in c h
              exact hrec_224 _ _  h
        · have h := g_in c h
          refine ⟨fun c => ?_, fun c => ?_⟩
          · have h := g_ip c h
            refine ⟨fun c => ?_, fun c => ?_⟩
            · have h := g_ip c h
              exact hrec_322 _ _  h
            · have h := g_in c h
              refine ⟨fun c => ?_, fun c => ?_⟩
              · have h := g_ip c h
                exact hrec_322 _ _  h
              · have h := g_in c h
                exact hrec_224 _ _  h
          · have h := g_in c h
            exact hrec_109 _ _  h
      · have h := g_ip c h
        intro S5 eS
        have h := g_lts eS h
        cases h; exact rfl
    · intro S i1 h
      rw [fX12_nextToken] at h
      have h := g_in (by decide) h
      have h := g_in (by decide) h
      have h := g_ip rfl h
      unfold bX12_nextToken_109 at h
      refine zX12_nextToken_109  ?_
      obtain ⟨S1, x2, hc, h⟩ := g_b2s h
      refine ⟨0, _, (by decide), CX12_signAt  hc, ?_⟩
      rintro _ _ ⟨rfl, rfl⟩
      refine ⟨fun c => ?_, fun c => ?_⟩
      · have h := g_ip c h
        exact hrec_188 _ _  h
      · have h := g_in c h
        obtain ⟨S3, x4, hc, h⟩ := g_b2s h
        refine ⟨0, _, (by decide), CX12_signAt  hc, ?_⟩
        rintro _ _ ⟨rfl, rfl⟩
        refine ⟨fun c => ?_, fun c => ?_⟩
        · have h := g_ip c h
          exact hrec_188 _ _  h
        · have h := g_in c h
          refine ⟨fun c => ?_, fun c => ?_⟩
          · have h := g_ip c h
            intro S5 eS
            have h := g_lts eS h
            exact hrec_109 _ _  h
          · have h := g_in c h
            obtain ⟨S6, x7, hc, h⟩ := g_b2s h
            refine ⟨0, _, (by decide), CX12_signAt  hc, ?_⟩
            rintro _ _ ⟨rfl, rfl⟩
            intro S8 eS
            have h := g_lts eS h
            intro S9 eS
            have h := g_lts eS h
            exact hrec_109 _ _  h
    · intro S i1 h
      rw [fX12_nextToken] at h
      have h := g_in (by decide) h
      have h := g_in (by decide) h
      have h := g_in (by decide) h
      have h := g_ip rfl h
      unfold bX12_nextToken_188 at h
      refine zX12_nextToken_188  ?_
      refine ⟨fun c => ?_, fun c => ?_⟩
      · have h := g_ip c h
        intro S1 eS
        have h := g_lts eS h
        cases h; exact rfl
      · have h := g_in c h
        intro S2 eS
        have h := g_lts eS h
        cases h; exact rfl
    · intro S i1 h
      rw [fX12_nextToken] at h
      have h := g_in (by decide) h
      have h := g_in (by decide) h
      have h := g_in (by decide) h
      have h := g_in (by decide) h
      have h := g_ip rfl h
      unfold bX12_nextToken_224 at h
      refine zX12_nextToken_224  ?_
      obtain ⟨S1, x2, hc, h⟩ := g_b2s h
      refine ⟨0, _, (by decide), CX12_signAt  hc, ?_⟩
      rintro _ _ ⟨rfl, rfl⟩
      refine ⟨fun c => ?_, fun c => ?_⟩
      · have h := g_ip c h
        exact hrec_299 _ _  h
      · have h := g_in c h
        obtain ⟨S3, x4, hc, h⟩ := g_b2s h
        refine ⟨0, _, (by decide), CX12_signAt  hc, ?_⟩
        rintro _ _ ⟨rfl, rfl⟩
        refine ⟨fun c => ?_, fun c => ?_⟩
        · have h := g_ip c h
          exact hrec_299 _ _  h
        · have h := g_in c h
          refine ⟨fun c => ?_, fun c => ?_⟩
          · have h := g_ip c h
            intro S5 eS
            have h := g_lts eS h
            exact hrec_224 _ _  h
          · have h := g_in c h
            obtain ⟨S6, x7, hc, h⟩ := g_b2s h
            refine ⟨0, _, (by decide), CX12_signAt  hc, ?_⟩
            rintro _ _ ⟨rfl, rfl⟩
            intro S8 eS
            have h := g_lts eS h
            intro S9 eS
            have h := g_lts eS h
            exact hrec_224 _ _  h
    · intro S i1 h
      rw [fX12_nextToken] at h
      have h := g_in (by decide) h
      have h := g_in (by decide) h
      have h := g_in (by decide) h
      have h := g_in (by decide) h
      have h := g_in (by decide) h
      have h := g_ip rfl h
      unfold bX12_nextToken_299 at h
      refine zX12_nextToken_299  ?_
      refine ⟨fun c => ?_, fun c => ?_⟩
      · have h := g_ip c h
        intro S1 eS
        have h := g_lts eS h
        cases h; exact rfl
      · have h := g_in c h
        intro S2 eS
        have h := g_lts eS h
        cases h; exact rfl
    · intro S i1 h
      rw [fX12_nextToken] at h
      have h := g_in (by decide) h
      have h := g_in (by decide) h
      have h := g_in (by decide) h
      have h := g_in (by decide) h
      have h := g_in (by decide) h
      have h := g_in (by decide) h
      have h := g_ip rfl h
      unfold bX12_nextToken_322 at h
      refine zX12_nextToken_322  ?_
      intro S1 eS
      have h := g_lts eS h
      refine ⟨fun c => ?_, fun c => ?_⟩
      · have h := g_ip c h
        refine ⟨fun c => ?_, fun c => ?_⟩
        · have h := g_ip c h
          intro S2 eS
          have h := g_lts eS h
          cases h; exact rfl
        · have h := g_in c h
          refine ⟨fun c => ?_, fun c => ?_⟩
          · have h := g_ip c h
            intro S3 eS
            have h := g_lts eS h
            cases h; exact rfl
          · have h := g_in c h
            refine ⟨fun c => ?_, fun c => ?_⟩
            · have h := g_ip c h
              intro S4 eS
              have h := g_lts eS h
              cases h; exact rfl
            · have h := g_in c h
              intro S5 eS
              have h := g_lts eS h
              cases h; exact rfl
      · have h := g_in c h
        refine ⟨fun c => ?_, fun c => ?_⟩
        · have h := g_ip c h
          intro S6 eS
          have h := g_lts eS h
          cases h; exact rfl
        · have h := g_in c h
          refine ⟨fun c => ?_, fun c => ?_⟩
          · have h := g_ip c h
            intro S7 eS
            have h := g_lts eS h
            cases h; exact rfl
          · have h := g_in c h
            refine ⟨fun c => ?_, fun c => ?_⟩
            · have h := g_ip c h
              intro S8 eS
              have h := g_lts eS h
              cases h; exact rfl
            · have h := g_in c h
              refine ⟨fun c => ?_, fun c => ?_⟩
              · have h := g_ip c h
                intro S9 eS
                have h := g_lts eS h
                cases h; exact rfl
              · have h := g_in c h
                intro S10 eS
                have h := g_lts eS h
                cases h; exact rfl
theorem CX12_nextToken {n : Nat} {S : gS} {R : gS}   (h : FX12_nextToken S  = some R) : sCv 1 mX12_nextToken n S [.ref (180)] (fun S2 => S2 = R) := by
  unfold FX12_nextToken at h
  refine gCv_of (by decide) (Nat.le_of_ble_eq_true rfl) rfl rfl (?_)
  exact (lX12_nextToken FU).1 _ _  h

noncomputable def FX12_isWord (S : gS) (j1 : Int64) : Option (gS × Bool) := if (sI S (180) 6) = (1 : Int32) then (if (lg_cmp (sJ S (180) 7) j1) = 0 then (some (S, true)) else (some (S, false))) else (some (S, false))
theorem CX12_isWord {n : Nat} {S : gS} {R : gS × Bool} {j1 : Int64}  (h : FX12_isWord S j1 = some R) : sCz 0 mX12_isWord n S [.ref (180), .long (j1)] (fun S2 x2 => S2 = R.1 ∧ x2 = R.2) := by
  unfold FX12_isWord at h
  refine gCz_of (by decide) (Nat.le_of_ble_eq_true rfl) rfl rfl (zX12_isWord_0  ?_)
  refine ⟨fun c => ?_, fun c => ?_⟩
  · have h := g_in c h
    cases h; exact ⟨rfl, rfl⟩
  · have h := g_ip c h
    refine ⟨fun c => ?_, fun c => ?_⟩
    · have h := g_in c h
      cases h; exact ⟨rfl, rfl⟩
    · have h := g_ip c h
      cases h; exact ⟨rfl, rfl⟩

noncomputable def FX12_isSign (S : gS) (i1 : Int32) : Option (gS × Bool) := if (sI S (180) 6) = (3 : Int32) then (if g_vp ((sI S (180) 5)) 1000 = true then (if (sR S (181) (Int32.toNatClampNeg ((sI S (180) 5)))) = i1 then (some (S, true)) else (some (S, false))) else none) else (some (S, false))
theorem CX12_isSign {n : Nat} {S : gS} {R : gS × Bool} {i1 : Int32}  (h : FX12_isSign S i1 = some R) : sCz 0 mX12_isSign n S [.ref (180), .int (i1)] (fun S2 x2 => S2 = R.1 ∧ x2 = R.2) := by
  unfold FX12_isSign at h
  refine gCz_of (by decide) (Nat.le_of_ble_eq_true rfl) rfl rfl (zX12_isSign_0  ?_)
  refine ⟨fun c => ?_, fun c => ?_⟩
  · have h := g_in c h
    cases h; exact ⟨rfl, rfl⟩
  · have h := g_ip c h
    obtain ⟨hv1, h⟩ := g_vs h
    refine ⟨hv1, ?_⟩
    refine ⟨fun c => ?_, fun c => ?_⟩
    · have h := g_in c h
      cases h; exact ⟨rfl, rfl⟩
    · have h := g_ip c h
      cases h; exact ⟨rfl, rfl⟩

noncomputable def FX12_fails (S : gS) (i1 : Int32) : Option (gS × Bool) := g_lt (uI S (180) 9 ((i1 + ((16 : Int32) * (sI S (180) 5))))) (fun S1 => some (S1, false))
theorem CX12_fails {n : Nat} {S : gS} {R : gS × Bool} {i1 : Int32}  (h : FX12_fails S i1 = some R) : sCz 0 mX12_fails n S [.ref (180), .int (i1)] (fun S2 x2 => S2 = R.1 ∧ x2 = R.2) := by
  unfold FX12_fails at h
  refine gCz_of (by decide) (Nat.le_of_ble_eq_true rfl) rfl rfl (zX12_fails_0  ?_)
  intro S1 eS
  have h := g_lts eS h
  cases h; exact ⟨rfl, rfl⟩

noncomputable def FX12_puts (S : gS) (i1 : Int32) : Option (gS) := if g_vp ((sI S (180) 23)) 2000 = true then (g_lt (uR S (194) (Int32.toNatClampNeg ((sI S (180) 23))) (i1)) (fun S2 => g_lt (uI S2 (180) 23 (((sI S2 (180) 23) + (1 : Int32)))) (fun S3 => some S3))) else none
theorem CX12_puts {n : Nat} {S : gS} {R : gS} {i1 : Int32}  (h : FX12_puts S i1 = some R) : sCv 0 mX12_puts n S [.ref (180), .int (i1)] (fun S2 => S2 = R) := by
  unfold FX12_puts at h
  refine gCv_of (by decide) (Nat.le_of_ble_eq_true rfl) rfl rfl (zX12_puts_0  ?_)
  obtain ⟨hv1, h⟩ := g_vs h
  refine ⟨hv1, ?_⟩
  intro S2 eS
  have h := g_lts eS h
  intro S3 eS
  have h := g_lts eS h
  cases h; exact rfl

noncomputable def FX12_fact (S : gS)  : Option (gS × Int32) := if (sI S (180) 6) = (1 : Int32) then (if (lg_cmp (sJ S (180) 7) (127274 : Int64)) = 0 then (some (S, (1 : Int32))) else (if (lg_cmp (sJ S (180) 7) (283288069 : Int64)) = 0 then (some (S, (2 : Int32))) else (if (lg_cmp (sJ S (180) 7) (394725 : Int64)) = 0 then (some (S, (3 : Int32))) else (if (lg_cmp (sJ S (180) 7) (16922 : Int64)) = 0 then (some (S, (4 : Int32))) else (some (S, (0 : Int32))))))) else (some (S, (0 : Int32)))
theorem CX12_fact {n : Nat} {S : gS} {R : gS × Int32}   (h : FX12_fact S  = some R) : sCi 0 mX12_fact n S [.ref (180)] (fun S2 x2 => S2 = R.1 ∧ x2 = R.2) := by
  unfold FX12_fact at h
  refine gCj_of (by decide) (Nat.le_of_ble_eq_true rfl) rfl rfl (zX12_fact_0  ?_)
  refine ⟨fun c => ?_, fun c => ?_⟩
  · have h := g_ip c h
    refine ⟨fun c => ?_, fun c => ?_⟩
    · have h := g_in c h
      refine ⟨fun c => ?_, fun c => ?_⟩
      · have h := g_in c h
        refine ⟨fun c => ?_, fun c => ?_⟩
        · have h := g_in c h
          refine ⟨fun c => ?_, fun c => ?_⟩
          · have h := g_in c h
            cases h; exact ⟨rfl, rfl⟩
          · have h := g_ip c h
            cases h; exact ⟨rfl, rfl⟩
        · have h := g_ip c h
          cases h; exact ⟨rfl, rfl⟩
      · have h := g_ip c h
        cases h; exact ⟨rfl, rfl⟩
    · have h := g_ip c h
      cases h; exact ⟨rfl, rfl⟩
  · have h := g_in c h
    cases h; exact ⟨rfl, rfl⟩

noncomputable def bX12_readsLaw_11  (rec : Nat → gS → Int32 → Int32 → Int32 → Int32 → Int32 → Option (gS × Bool)) (S : gS) (i1 : Int32) (i2 : Int32) (i3 : Int32) (i4 : Int32) (i5 : Int32) : Option (gS × Bool) := if i2 = 0 then (g_b2 (FX12_isSign S ((43 : Int32))) (fun S1 b2 => if b2 = true then (rec 206 S1 (i1) 0 0 0 0) else (g_b2 (FX12_isSign S1 ((45 : Int32))) (fun S3 b4 => if b4 = true then (rec 206 S3 (i1) 0 0 0 0) else (g_b2 (FX12_isSign S3 ((42 : Int32))) (fun S5 b6 => if b6 = true then (rec 206 S5 (i1) 0 0 0 0) else (g_b2 (FX12_isSign S5 ((60 : Int32))) (fun S7 b8 => if b8 = true then (rec 263 S7 (i1) (i2) 0 0 0) else (g_b2 (FX12_isSign S7 ((61 : Int32))) (fun S9 b10 => if b10 = true then (rec 263 S9 (i1) (i2) 0 0 0) else (rec 304 S9 (i1) (i2) 0 0 0))))))))))) else (g_b2 (FX12_fact S ) (fun S11 x12 => g_b2 (FX12_isWord S11 ((10631 : Int64))) (fun S13 b14 => g_b2 (FX12_isSign S13 ((40 : Int32))) (fun S15 b16 => if x12 = 0 then (if b14 = true then (rec 65 S15 (i1) (i2) (x12) ((g_b b14)) ((g_b b16))) else (if b16 = true then (rec 65 S15 (i1) (i2) (x12) ((g_b b14)) ((g_b b16))) else (if (sI S15 (180) 6) = (2 : Int32) then (rec 65 S15 (i1) (i2) (x12) ((g_b b14)) ((g_b b16))) else (g_b2 (FX12_fails S15 ((1 : Int32))) (fun S17 b18 => some (S17, b18)))))) else (rec 65 S15 (i1) (i2) (x12) ((g_b b14)) ((g_b b16)))))))
noncomputable def bX12_readsLaw_65  (rec : Nat → gS → Int32 → Int32 → Int32 → Int32 → Int32 → Option (gS × Bool)) (S : gS) (i1 : Int32) (i2 : Int32) (i3 : Int32) (i4 : Int32) (i5 : Int32) : Option (gS × Bool) := if i1 = (5 : Int32) then (g_b2 (FX12_fails S ((5 : Int32))) (fun S3 b4 => some (S3, b4))) else (if i4 = 0 then (if i5 = 0 then (if i3 ≤ 0 then (g_b1 (FX12_puts S (((100 : Int32) + (sI S (180) 8)))) (fun S1 => rec 152 S1 (i1) ((0 : Int32)) 0 0 0)) else (g_b1 (FX12_puts S (i3)) (fun S2 => rec 152 S2 (i1) ((0 : Int32)) 0 0 0))) else (rec 86 S (i1) (i2) 0 (i4) 0)) else (rec 86 S (i1) (i2) 0 (i4) 0))
noncomputable def bX12_readsLaw_86  (rec : Nat → gS → Int32 → Int32 → Int32 → Int32 → Int32 → Option (gS × Bool)) (S : gS) (i1 : Int32) (i2 : Int32) (i3 : Int32) (i4 : Int32) (i5 : Int32) : Option (gS × Bool) := if i4 = 0 then (g_b1 (FX12_puts S ((28 : Int32))) (fun S1 => rec 102 S1 (i1) (i2) 0 (i4) 0)) else (g_b1 (FX12_puts S ((30 : Int32))) (fun S2 => rec 102 S2 (i1) (i2) 0 (i4) 0))
noncomputable def bX12_readsLaw_102  (rec : Nat → gS → Int32 → Int32 → Int32 → Int32 → Int32 → Option (gS × Bool)) (S : gS) (i1 : Int32) (i2 : Int32) (i3 : Int32) (i4 : Int32) (i5 : Int32) : Option (gS × Bool) := if i4 = 0 then (if g_vp ((i1 + 1)) 7 = true then (g_lt (uR S (195) (Int32.toNatClampNeg ((i1 + 1))) ((2 : Int32))) (fun S2 => rec 121 S2 ((i1 + 1)) (i2) 0 0 0)) else none) else (if g_vp ((i1 + 1)) 7 = true then (g_lt (uR S (195) (Int32.toNatClampNeg ((i1 + 1))) ((1 : Int32))) (fun S4 => rec 121 S4 ((i1 + 1)) (i2) 0 0 0)) else none)
noncomputable def bX12_readsLaw_121  (rec : Nat → gS → Int32 → Int32 → Int32 → Int32 → Int32 → Option (gS × Bool)) (S : gS) (i1 : Int32) (i2 : Int32) (i3 : Int32) (i4 : Int32) (i5 : Int32) : Option (gS × Bool) := if g_vp (i1) 7 = true then (g_lt (uR S (196) (Int32.toNatClampNeg (i1)) (vp_nar .boolean ((0 : Int32)))) (fun S2 => g_b1 (FX12_nextToken S2 ) (fun S3 => rec 11 S3 (i1) (i2) 0 0 0))) else none
noncomputable def bX12_readsLaw_152  (rec : Nat → gS → Int32 → Int32 → Int32 → Int32 → Int32 → Option (gS × Bool)) (S : gS) (i1 : Int32) (i2 : Int32) (i3 : Int32) (i4 : Int32) (i5 : Int32) : Option (gS × Bool) := if i1 ≤ 0 then (g_b1 (FX12_nextToken S ) (fun S1 => rec 11 S1 (i1) (i2) 0 0 0)) else (if g_vp (i1) 7 = true then (if (sR S (195) (Int32.toNatClampNeg (i1))) = (1 : Int32) then (rec 152 S ((i1 + (-1))) (i2) 0 0 0) else (g_b1 (FX12_nextToken S ) (fun S3 => rec 11 S3 (i1) (i2) 0 0 0))) else none)
noncomputable def bX12_readsLaw_206  (rec : Nat → gS → Int32 → Int32 → Int32 → Int32 → Int32 → Option (gS × Bool)) (S : gS) (i1 : Int32) (i2 : Int32) (i3 : Int32) (i4 : Int32) (i5 : Int32) : Option (gS × Bool) := g_b2 (FX12_isSign S ((43 : Int32))) (fun S1 b2 => if b2 = true then (g_b1 (FX12_puts S1 ((20 : Int32))) (fun S9 => g_b1 (FX12_nextToken S9 ) (fun S10 => rec 11 S10 (i1) ((1 : Int32)) 0 0 0))) else (g_b2 (FX12_isSign S1 ((45 : Int32))) (fun S3 b4 => if b4 = true then (g_b1 (FX12_puts S3 ((21 : Int32))) (fun S7 => g_b1 (FX12_nextToken S7 ) (fun S8 => rec 11 S8 (i1) ((1 : Int32)) 0 0 0))) else (g_b1 (FX12_puts S3 ((22 : Int32))) (fun S5 => g_b1 (FX12_nextToken S5 ) (fun S6 => rec 11 S6 (i1) ((1 : Int32)) 0 0 0))))))
noncomputable def bX12_readsLaw_263  (rec : Nat → gS → Int32 → Int32 → Int32 → Int32 → Int32 → Option (gS × Bool)) (S : gS) (i1 : Int32) (i2 : Int32) (i3 : Int32) (i4 : Int32) (i5 : Int32) : Option (gS × Bool) := if g_vp (i1) 7 = true then (if (sR S (196) (Int32.toNatClampNeg (i1))) = 0 then (g_b2 (FX12_isSign S ((60 : Int32))) (fun S2 b3 => if b3 = true then (g_b1 (FX12_puts S2 ((24 : Int32))) (fun S5 => rec 292 S5 (i1) 0 0 0 0)) else (g_b1 (FX12_puts S2 ((25 : Int32))) (fun S4 => rec 292 S4 (i1) 0 0 0 0)))) else (rec 304 S (i1) (i2) 0 0 0)) else none
noncomputable def bX12_readsLaw_292  (rec : Nat → gS → Int32 → Int32 → Int32 → Int32 → Int32 → Option (gS × Bool)) (S : gS) (i1 : Int32) (i2 : Int32) (i3 : Int32) (i4 : Int32) (i5 : Int32) : Option (gS × Bool) := if g_vp (i1) 7 = true then (g_lt (uR S (196) (Int32.toNatClampNeg (i1)) (vp_nar .boolean ((1 : Int32)))) (fun S2 => g_b1 (FX12_nextToken S2 ) (fun S3 => rec 11 S3 (i1) ((1 : Int32)) 0 0 0))) else none
noncomputable def bX12_readsLaw_304  (rec : Nat → gS → Int32 → Int32 → Int32 → Int32 → Int32 → Option (gS × Bool)) (S : gS) (i1 : Int32) (i2 : Int32) (i3 : Int32) (i4 : Int32) (i5 : Int32) : Option (gS × Bool) := g_b2 (FX12_isWord S ((1111 : Int64))) (fun S1 b2 => if b2 = true then (rec 324 S1 (i1) 0 0 0 0) else (g_b2 (FX12_isWord S1 ((423 : Int64))) (fun S3 b4 => if b4 = true then (rec 324 S3 (i1) 0 0 0 0) else (g_b2 (FX12_isSign S3 ((41 : Int32))) (fun S5 b6 => if b6 = true then (if i1 ≤ 0 then (rec 399 S5 (i1) 0 0 0 0) else (g_b1 (FX12_puts S5 ((29 : Int32))) (fun S7 => rec 379 S7 ((i1 + (-1))) (i2) 0 0 0))) else (rec 399 S5 (i1) 0 0 0 0))))))
noncomputable def bX12_readsLaw_324  (rec : Nat → gS → Int32 → Int32 → Int32 → Int32 → Int32 → Option (gS × Bool)) (S : gS) (i1 : Int32) (i2 : Int32) (i3 : Int32) (i4 : Int32) (i5 : Int32) : Option (gS × Bool) := g_b2 (FX12_isWord S ((1111 : Int64))) (fun S1 b2 => if b2 = true then (g_b1 (FX12_puts S1 ((26 : Int32))) (fun S4 => rec 345 S4 (i1) 0 0 0 0)) else (g_b1 (FX12_puts S1 ((27 : Int32))) (fun S3 => rec 345 S3 (i1) 0 0 0 0)))
noncomputable def bX12_readsLaw_345  (rec : Nat → gS → Int32 → Int32 → Int32 → Int32 → Int32 → Option (gS × Bool)) (S : gS) (i1 : Int32) (i2 : Int32) (i3 : Int32) (i4 : Int32) (i5 : Int32) : Option (gS × Bool) := if g_vp (i1) 7 = true then (g_lt (uR S (196) (Int32.toNatClampNeg (i1)) (vp_nar .boolean ((0 : Int32)))) (fun S2 => g_b1 (FX12_nextToken S2 ) (fun S3 => rec 11 S3 (i1) ((1 : Int32)) 0 0 0))) else none
noncomputable def bX12_readsLaw_379  (rec : Nat → gS → Int32 → Int32 → Int32 → Int32 → Int32 → Option (gS × Bool)) (S : gS) (i1 : Int32) (i2 : Int32) (i3 : Int32) (i4 : Int32) (i5 : Int32) : Option (gS × Bool) := if i1 ≤ 0 then (g_b1 (FX12_nextToken S ) (fun S1 => rec 11 S1 (i1) (i2) 0 0 0)) else (if g_vp (i1) 7 = true then (if (sR S (195) (Int32.toNatClampNeg (i1))) = (1 : Int32) then (rec 379 S ((i1 + (-1))) (i2) 0 0 0) else (g_b1 (FX12_nextToken S ) (fun S3 => rec 11 S3 (i1) (i2) 0 0 0))) else none)
noncomputable def bX12_readsLaw_399  (rec : Nat → gS → Int32 → Int32 → Int32 → Int32 → Int32 → Option (gS × Bool)) (S : gS) (i1 : Int32) (i2 : Int32) (i3 : Int32) (i4 : Int32) (i5 : Int32) : Option (gS × Bool) := if i1 = 0 then (g_b2 (FX12_isSign S ((59 : Int32))) (fun S3 b4 => if b4 = true then (g_b1 (FX12_nextToken S3 ) (fun S7 => some (S7, true))) else (g_b2 (FX12_fails S3 ((1 : Int32))) (fun S5 b6 => some (S5, b6))))) else (g_b2 (FX12_fails S ((1 : Int32))) (fun S1 b2 => some (S1, b2)))
noncomputable def fX12_readsLaw  : Nat → Nat → gS → Int32 → Int32 → Int32 → Int32 → Int32 → Option (gS × Bool)
  | 0 => fun _ _ _ _ _ _ _ => none
  | k + 1 => fun pc S i1 i2 i3 i4 i5 => if pc = 11 then bX12_readsLaw_11  (fX12_readsLaw  k) S i1 i2 i3 i4 i5 else if pc = 65 then bX12_readsLaw_65  (fX12_readsLaw  k) S i1 i2 i3 i4 i5 else if pc = 86 then bX12_readsLaw_86  (fX12_readsLaw  k) S i1 i2 i3 i4 i5 else if pc = 102 then bX12_readsLaw_102  (fX12_readsLaw  k) S i1 i2 i3 i4 i5 else if pc = 121 then bX12_readsLaw_121  (fX12_readsLaw  k) S i1 i2 i3 i4 i5 else if pc = 152 then bX12_readsLaw_152  (fX12_readsLaw  k) S i1 i2 i3 i4 i5 else if pc = 206 then bX12_readsLaw_206  (fX12_readsLaw  k) S i1 i2 i3 i4 i5 else if pc = 263 then bX12_readsLaw_263  (fX12_readsLaw  k) S i1 i2 i3 i4 i5 else if pc = 292 then bX12_readsLaw_292  (fX12_readsLaw  k) S i1 i2 i3 i4 i5 else if pc = 304 then bX12_readsLaw_304  (fX12_readsLaw  k) S i1 i2 i3 i4 i5 else if pc = 324 then bX12_readsLaw_324  (fX12_readsLaw  k) S i1 i2 i3 i4 i5 else if pc = 345 then bX12_readsLaw_345  (fX12_readsLaw  k) S i1 i2 i3 i4 i5 else if pc = 379 then bX12_readsLaw_379  (fX12_readsLaw  k) S i1 i2 i3 i4 i5 else if pc = 399 then bX12_readsLaw_399  (fX12_readsLaw  k) S i1 i2 i3 i4 i5 else none
noncomputable def FX12_readsLaw (S : gS)  : Option (gS × Bool) := g_lt (uR S (196) (0) (vp_nar .boolean ((0 : Int32)))) (fun S1 => fX12_readsLaw  FU 11 S1 ((0 : Int32)) ((1 : Int32)) 0 0 0)
set_option maxRecDepth 100000 in
theorem lX12_readsLaw  {n : Nat} {R : gS × Bool} : ∀ k : Nat, (∀ (S : gS) (i1 : Int32) (i2 : Int32) (i3 : Int32) (i4 : Int32) (i5 : Int32) , fX12_readsLaw  k 11 S i1 i2 i3 i4 i5 = some R → gG 2 mX12_readsLaw 0 0 (g_Xz mX12_readsLaw n 0 0 (hPz (fun S2 x2 => S2 = R.1 ∧ x2 = R.2))) 11 n (hH S) [some (.ref (180)), some (.int (i1)), some (.int (i2)), none, none, none] [] 0 0) ∧ (∀ (S : gS) (i1 : Int32) (i2 : Int32) (i3 : Int32) (i4 : Int32) (i5 : Int32) , fX12_readsLaw  k 65 S i1 i2 i3 i4 i5 = some R → gG 2 mX12_readsLaw 0 0 (g_Xz mX12_readsLaw n 0 0 (hPz (fun S2 x2 => S2 = R.1 ∧ x2 = R.2))) 65 n (hH S) [some (.ref (180)), some (.int (i1)), some (.int (i2)), some (.int (i3)), some (.int (i4)), some (.int (i5))] [] 0 0) ∧ (∀ (S : gS) (i1 : Int32) (i2 : Int32) (i3 : Int32) (i4 : Int32) (i5 : Int32) , fX12_readsLaw  k 86 S i1 i2 i3 i4 i5 = some R → gG 2 mX12_readsLaw 0 0 (g_Xz mX12_readsLaw n 0 0 (hPz (fun S2 x2 => S2 = R.1 ∧ x2 = R.2))) 86 n (hH S) [some (.ref (180)), some (.int (i1)), some (.int (i2)), none, some (.int (i4)), none] [] 0 0) ∧ (∀ (S : gS) (i1 : Int32) (i2 : Int32) (i3 : Int32) (i4 : Int32) (i5 : Int32) , fX12_readsLaw  k 102 S i1 i2 i3 i4 i5 = some R → gG 2 mX12_readsLaw 0 0 (g_Xz mX12_readsLaw n 0 0 (hPz (fun S2 x2 => S2 = R.1 ∧ x2 = R.2))) 102 n (hH S) [some (.ref (180)), some (.int (i1)), some (.int (i2)), none, some (.int (i4)), none] [] 0 0) ∧ (∀ (S : gS) (i1 : Int32) (i2 : Int32) (i3 : Int32) (i4 : Int32) (i5 : Int32) , fX12_readsLaw  k 121 S i1 i2 i3 i4 i5 = some R → gG 2 mX12_readsLaw 0 0 (g_Xz mX12_readsLaw n 0 0 (hPz (fun S2 x2 => S2 = R.1 ∧ x2 = R.2))) 121 n (hH S) [some (.ref (180)), some (.int (i1)), some (.int (i2)), none, none, none] [] 0 0) ∧ (∀ (S : gS) (i1 : Int32) (i2 : Int32) (i3 : Int32) (i4 : Int32) (i5 : Int32) , fX12_readsLaw  k 152 S i1 i2 i3 i4 i5 = some R → gG 2 mX12_readsLaw 0 0 (g_Xz mX12_readsLaw n 0 0 (hPz (fun S2 x2 => S2 = R.1 ∧ x2 = R.2))) 152 n (hH S) [some (.ref (180)), some (.int (i1)), some (.int (i2)), none, none, none] [] 0 0) ∧ (∀ (S : gS) (i1 : Int32) (i2 : Int32) (i3 : Int32) (i4 : Int32) (i5 : Int32) , fX12_readsLaw  k 206 S i1 i2 i3 i4 i5 = some R → gG 2 mX12_readsLaw 0 0 (g_Xz mX12_readsLaw n 0 0 (hPz (fun S2 x2 => S2 = R.1 ∧ x2 = R.2))) 206 n (hH S) [some (.ref (180)), some (.int (i1)), none, none, none, none] [] 0 0) ∧ (∀ (S : gS) (i1 : Int32) (i2 : Int32) (i3 : Int32) (i4 : Int32) (i5 : Int32) , fX12_readsLaw  k 263 S i1 i2 i3 i4 i5 = some R → gG 2 mX12_readsLaw 0 0 (g_Xz mX12_readsLaw n 0 0 (hPz (fun S2 x2 => S2 = R.1 ∧ x2 = R.2))) 263 n (hH S) [some (.ref (180)), some (.int (i1)), some (.int (i2)), none, none, none] [] 0 0) ∧ (∀ (S : gS) (i1 : Int32) (i2 : Int32) (i3 : Int32) (i4 : Int32) (i5 : Int32) , fX12_readsLaw  k 292 S i1 i2 i3 i4 i5 = some R → gG 2 mX12_readsLaw 0 0 (g_Xz mX12_readsLaw n 0 0 (hPz (fun S2 x2 => S2 = R.1 ∧ x2 = R.2))) 292 n (hH S) [some (.ref (180)), some (.int (i1)), none, none, none, none] [] 0 0) ∧ (∀ (S : gS) (i1 : Int32) (i2 : Int32) (i3 : Int32) (i4 : Int32) (i5 : Int32) , fX12_readsLaw  k 304 S i1 i2 i3 i4 i5 = some R → gG 2 mX12_readsLaw 0 0 (g_Xz mX12_readsLaw n 0 0 (hPz (fun S2 x2 => S2 = R.1 ∧ x2 = R.2))) 304 n (hH S) [some (.ref (180)), some (.int (i1)), some (.int (i2)), none, none, none] [] 0 0) ∧ (∀ (S : gS) (i1 : Int32) (i2 : Int32) (i3 : Int32) (i4 : Int32) (i5 : Int32) , fX12_readsLaw  k 324 S i1 i2 i3 i4 i5 = some R → gG 2 mX12_readsLaw 0 0 (g_Xz mX12_readsLaw n 0 0 (hPz (fun S2 x2 => S2 = R.1 ∧ x2 = R.2))) 324 n (hH S) [some (.ref (180)), some (.int (i1)), none, none, none, none] [] 0 0) ∧ (∀ (S : gS) (i1 : Int32) (i2 : Int32) (i3 : Int32) (i4 : Int32) (i5 : Int32) , fX12_readsLaw  k 345 S i1 i2 i3 i4 i5 = some R → gG 2 mX12_readsLaw 0 0 (g_Xz mX12_readsLaw n 0 0 (hPz (fun S2 x2 => S2 = R.1 ∧ x2 = R.2))) 345 n (hH S) [some (.ref (180)), some (.int (i1)), none, none, none, none] [] 0 0) ∧ (∀ (S : gS) (i1 : Int32) (i2 : Int32) (i3 : Int32) (i4 : Int32) (i5 : Int32) , fX12_readsLaw  k 379 S i1 i2 i3 i4 i5 = some R → gG 2 mX12_readsLaw 0 0 (g_Xz mX12_readsLaw n 0 0 (hPz (fun S2 x2 => S2 = R.1 ∧ x2 = R.2))) 379 n (hH S) [some (.ref (180)), some (.int (i1)), some (.int (i2)), none, none, none] [] 0 0) ∧ (∀ (S : gS) (i1 : Int32) (i2 : Int32) (i3 : Int32) (i4 : Int32) (i5 : Int32) , fX12_readsLaw  k 399 S i1 i2 i3 i4 i5 = some R → gG 2 mX12_readsLaw 0 0 (g_Xz mX12_readsLaw n 0 0 (hPz (fun S2 x2 => S2 = R.1 ∧ x2 = R.2))) 399 n (hH S) [some (.ref (180)), some (.int (i1)), none, none, none, none] [] 0 0) := by
  intro k
  induction k with
  | zero => exact ⟨fun _ _ _ _ _ _ h => (by cases h), fun _ _ _ _ _ _ h => (by cases h), fun _ _ _ _ _ _ h => (by cases h), fun _ _ _ _ _ _ h => (by cases h), fun _ _ _ _ _ _ h => (by cases h), fun _ _ _ _ _ _ h => (by cases h), fun _ _ _ _ _ _ h => (by cases h), fun _ _ _ _ _ _ h => (by cases h), fun _ _ _ _ _ _ h => (by cases h), fun _ _ _ _ _ _ h => (by cases h), fun _ _ _ _ _ _ h => (by cases h), fun _ _ _ _ _ _ h => (by cases h), fun _ _ _ _ _ _ h => (by cases h), fun _ _ _ _ _ _ h => (by cases h)⟩
  | succ k ih =>
    have hrec_11 := ih.1
    have hrec_65 := ih.2.1
    have hrec_86 := ih.2.2.1
    have hrec_102 := ih.2.2.2.1
    have hrec_121 := ih.2.2.2.2.1
    have hrec_152 := ih.2.2.2.2.2.1
    have hrec_206 := ih.2.2.2.2.2.2.1
    have hrec_263 := ih.2.2.2.2.2.2.2.1
    have hrec_292 := ih.2.2.2.2.2.2.2.2.1
    have hrec_304 := ih.2.2.2.2.2.2.2.2.2.1
    have hrec_324 := ih.2.2.2.2.2.2.2.2.2.2.1
    have hrec_345 := ih.2.2.2.2.2.2.2.2.2.2.2.1
    have hrec_379 := ih.2.2.2.2.2.2.2.2.2.2.2.2.1
    have hrec_399 := ih.2.2.2.2.2.2.2.2.2.2.2.2.2
    refine ⟨?_, ?_, ?_, ?_, ?_, ?_, ?_, ?_, ?_, ?_, ?_, ?_, ?_, ?_⟩
    · intro S i1 i2 i3 i4 i5 h
      rw [fX12_readsLaw] at h
      have h := g_ip rfl h
      unfold bX12_readsLaw_11 at h
      refine zX12_readsLaw_11  ?_
      refine ⟨fun c => ?_, fun c => ?_⟩
      · have h := g_ip c h
        obtain ⟨S1, b2, hc, h⟩ := g_b2s h
        refine ⟨0, _, (by decide), CX12_isSign  hc, ?_⟩
        rintro _ _ ⟨rfl, rfl⟩
        refine ⟨fun c => ?_, fun c => ?_⟩
        · have h := g_bt c h
          exact hrec_206 _ _ _ _ _ _  h
        · have h := g_bf c h
          obtain ⟨S3, b4, hc, h⟩ := g_b2s h
          refine ⟨0, _, (by decide), CX12_isSign  hc, ?_⟩
          rintro _ _ ⟨rfl, rfl⟩
          refine ⟨fun c => ?_, fun c => ?_⟩
          · have h := g_bt c h
            exact hrec_206 _ _ _ _ _ _  h
          · have h := g_bf c h
            obtain ⟨S5, b6, hc, h⟩ := g_b2s h
            refine ⟨0, _, (by decide), CX12_isSign  hc, ?_⟩
            rintro _ _ ⟨rfl, rfl⟩
            refine ⟨fun c => ?_, fun c => ?_⟩
            · have h := g_bf c h
              obtain ⟨S7, b8, hc, h⟩ := g_b2s h
              refine ⟨0, _, (by decide), CX12_isSign  hc, ?_⟩
              rintro _ _ ⟨rfl, rfl⟩
              refine ⟨fun c => ?_, fun c => ?_⟩
              · have h := g_bt c h
                exact hrec_263 _ _ _ _ _ _  h
              · have h := g_bf c h
                obtain ⟨S9, b10, hc, h⟩ := g_b2s h
                refine ⟨0, _, (by decide), CX12_isSign  hc, ?_⟩
                rintro _ _ ⟨rfl, rfl⟩
                refine ⟨fun c => ?_, fun c => ?_⟩
                · have h := g_bf c h
                  exact hrec_304 _ _ _ _ _ _  h
                · have h := g_bt c h
                  exact hrec_263 _ _ _ _ _ _  h
            · have h := g_bt c h
              exact hrec_206 _ _ _ _ _ _  h
      · have h := g_in c h
        obtain ⟨S11, x12, hc, h⟩ := g_b2s h
        refine ⟨0, _, (by decide), CX12_fact  hc, ?_⟩
        rintro _ _ ⟨rfl, rfl⟩
        obtain ⟨S13, b14, hc, h⟩ := g_b2s h
        refine ⟨0, _, (by decide), CX12_isWord  hc, ?_⟩
        rintro _ _ ⟨rfl, rfl⟩
        obtain ⟨S15, b16, hc, h⟩ := g_b2s h
        refine ⟨0, _, (by decide), CX12_isSign  hc, ?_⟩
        rintro _ _ ⟨rfl, rfl⟩
        refine ⟨fun c => ?_, fun c => ?_⟩
        · have h := g_in c h
          exact hrec_65 _ _ _ _ _ _  h
        · have h := g_ip c h
          refine ⟨fun c => ?_, fun c => ?_⟩
          · have h := g_bt c h
            exact hrec_65 _ _ _ _ _ _  h
          · have h := g_bf c h
            refine ⟨fun c => ?_, fun c => ?_⟩
            · have h := g_bt c h
              exact hrec_65 _ _ _ _ _ _  h
            · have h := g_bf c h
              refine ⟨fun c => ?_, fun c => ?_⟩
              · have h := g_ip c h
                exact hrec_65 _ _ _ _ _ _  h
              · have h := g_in c h
                obtain ⟨S17, b18, hc, h⟩ := g_b2s h
                refine ⟨0, _, (by decide), CX12_fails  hc, ?_⟩
                rintro _ _ ⟨rfl, rfl⟩
                cases h; exact ⟨rfl, rfl⟩
    · intro S i1 i2 i3 i4 i5 h
      rw [fX12_readsLaw] at h
      have h := g_in (by decide) h
      have h := g_ip rfl h
      unfold bX12_readsLaw_65 at h
      refine zX12_readsLaw_65  ?_
      refine ⟨fun c => ?_, fun c => ?_⟩
      · have h := g_in c h
        refine ⟨fun c => ?_, fun c => ?_⟩
        · have h := g_in c h
          exact hrec_86 _ _ _ _ _ _  h
        · have h := g_ip c h
          refine ⟨fun c => ?_, fun c => ?_⟩
          · have h := g_ip c h
            refine ⟨fun c => ?_, fun c => ?_⟩
            · have h := g_ip c h
              obtain ⟨S1, hc, h⟩ := g_b1s h
              refine ⟨0, _, (by decide), CX12_puts  hc, ?_⟩
              rintro _ rfl
              exact hrec_152 _ _ _ _ _ _  h
            · have h := g_in c h
              obtain ⟨S2, hc, h⟩ := g_b1s h
              refine ⟨0, _, (by decide), CX12_puts  hc, ?_⟩
              rintro _ rfl
              exact hrec_152 _ _ _ _ _ _  h
          · have h := g_in c h
            exact hrec_86 _ _ _ _ _ _  h
      · have h := g_ip c h
        obtain ⟨S3, b4, hc, h⟩ := g_b2s h
        refine ⟨0, _, (by decide), CX12_fails  hc, ?_⟩
        rintro _ _ ⟨rfl, rfl⟩
        cases h; exact ⟨rfl, rfl⟩
    · intro S i1 i2 i3 i4 i5 h
      rw [fX12_readsLaw] at h
      have h := g_in (by decide) h
      have h := g_in (by decide) h
      have h := g_ip rfl h
      unfold bX12_readsLaw_86 at h
      refine zX12_readsLaw_86  ?_
      refine ⟨fun c => ?_, fun c => ?_⟩
      · have h := g_ip c h
        obtain ⟨S1, hc, h⟩ := g_b1s h
        refine ⟨0, _, (by decide), CX12_puts  hc, ?_⟩
        rintro _ rfl
        exact hrec_102 _ _ _ _ _ _  h
      · have h := g_in c h
        obtain ⟨S2, hc, h⟩ := g_b1s h
        refine ⟨0, _, (by decide), CX12_puts  hc, ?_⟩
        rintro _ rfl
        exact hrec_102 _ _ _ _ _ _  h
    · intro S i1 i2 i3 i4 i5 h
      rw [fX12_readsLaw] at h
      have h := g_in (by decide) h
      have h := g_in (by decide) h
      have h := g_in (by decide) h
      have h := g_ip rfl h
      unfold bX12_readsLaw_102 at h
      refine zX12_readsLaw_102  ?_
      refine ⟨fun c => ?_, fun c => ?_⟩
      · have h := g_ip c h
        obtain ⟨hv1, h⟩ := g_vs h
        refine ⟨hv1, ?_⟩
        intro S2 eS
        have h := g_lts eS h
        exact hrec_121 _ _ _ _ _ _  h
      · have h := g_in c h
        obtain ⟨hv3, h⟩ := g_vs h
        refine ⟨hv3, ?_⟩
        intro S4 eS
        have h := g_lts eS h
        exact hrec_121 _ _ _ _ _ _  h
    · intro S i1 i2 i3 i4 i5 h
      rw [fX12_readsLaw] at h
      have h := g_in (by decide) h
      have h := g_in (by decide) h
      have h := g_in (by decide) h
      have h := g_in (by decide) h
      have h := g_ip rfl h
      unfold bX12_readsLaw_121 at h
      refine zX12_readsLaw_121  ?_
      obtain ⟨hv1, h⟩ := g_vs h
      refine ⟨hv1, ?_⟩
      intro S2 eS
      have h := g_lts eS h
      obtain ⟨S3, hc, h⟩ := g_b1s h
      refine ⟨1, _, (by decide), CX12_nextToken  hc, ?_⟩
      rintro _ rfl
      exact hrec_11 _ _ _ _ _ _  h
    · intro S i1 i2 i3 i4 i5 h
      rw [fX12_readsLaw] at h
      have h := g_in (by decide) h
      have h := g_in (by decide) h
      have h := g_in (by decide) h
      have h := g_in (by decide) h
      have h := g_in (by decide) h
      have h := g_ip rfl h
      unfold bX12_readsLaw_152 at h
      refine zX12_readsLaw_152  ?_
      refine ⟨fun c => ?_, fun c => ?_⟩
      · have h := g_ip c h
        obtain ⟨S1, hc, h⟩ := g_b1s h
        refine ⟨1, _, (by decide), CX12_nextToken  hc, ?_⟩
        rintro _ rfl
        exact hrec_11 _ _ _ _ _ _  h
      · have h := g_in c h
        obtain ⟨hv2, h⟩ := g_vs h
        refine ⟨hv2, ?_⟩
        refine ⟨fun c => ?_, fun c => ?_⟩
        · have h := g_in c h
          obtain ⟨S3, hc, h⟩ := g_b1s h
          refine ⟨1, _, (by decide), CX12_nextToken  hc, ?_⟩
          rintro _ rfl
          exact hrec_11 _ _ _ _ _ _  h
        · have h := g_ip c h
          exact hrec_152 _ _ _ _ _ _  h
    · intro S i1 i2 i3 i4 i5 h
      rw [fX12_readsLaw] at h
      have h := g_in (by decide) h
      have h := g_in (by decide) h
      have h := g_in (by decide) h
      have h := g_in (by decide) h
      have h := g_in (by decide) h
      have h := g_in (by decide) h
      have h := g_ip rfl h
      unfold bX12_readsLaw_206 at h
      refine zX12_readsLaw_206  ?_
      obtain ⟨S1, b2, hc, h⟩ := g_b2s h
      refine ⟨0, _, (by decide), CX12_isSign  hc, ?_⟩
      rintro _ _ ⟨rfl, rfl⟩
      refine ⟨fun c => ?_, fun c => ?_⟩
      · have h := g_bf c h
        obtain ⟨S3, b4, hc, h⟩ := g_b2s h
        refine ⟨0, _, (by decide), CX12_isSign  hc, ?_⟩
        rintro _ _ ⟨rfl, rfl⟩
        refine ⟨fun c => ?_, fun c => ?_⟩
        · have h := g_bf c h
          obtain ⟨S5, hc, h⟩ := g_b1s h
          refine ⟨0, _, (by decide), CX12_puts  hc, ?_⟩
          rintro _ rfl
          obtain ⟨S6, hc, h⟩ := g_b1s h
          refine ⟨1, _, (by decide), CX12_nextToken  hc, ?_⟩
          rintro _ rfl
          exact hrec_11 _ _ _ _ _ _  h
        · have h := g_bt c h
          obtain ⟨S7, hc, h⟩ := g_b1s h
          refine ⟨0, _, (by decide), CX12_puts  hc, ?_⟩
          rintro _ rfl
          obtain ⟨S8, hc, h⟩ := g_b1s h
          refine ⟨1, _, (by decide), CX12_nextToken  hc, ?_⟩
          rintro _ rfl
          exact hrec_11 _ _ _ _ _ _  h
      · have h := g_bt c h
        obtain ⟨S9, hc, h⟩ := g_b1s h
        refine ⟨0, _, (by decide), CX12_puts  hc, ?_⟩
        rintro _ rfl
        obtain ⟨S10, hc, h⟩ := g_b1s h
        refine ⟨1, _, (by decide), CX12_nextToken  hc, ?_⟩
        rintro _ rfl
        exact hrec_11 _ _ _ _ _ _  h
    · intro S i1 i2 i3 i4 i5 h
      rw [fX12_readsLaw] at h
      have h := g_in (by decide) h
      have h := g_in (by decide) h
      have h := g_in (by decide) h
      have h := g_in (by decide) h
      have h := g_in (by decide) h
      have h := g_in (by decide) h
      have h := g_in (by decide) h
      have h := g_ip rfl h
      unfold bX12_readsLaw_263 at h
      refine zX12_readsLaw_263  ?_
      obtain ⟨hv1, h⟩ := g_vs h
      refine ⟨hv1, ?_⟩
      refine ⟨fun c => ?_, fun c => ?_⟩
      · have h := g_in c h
        exact hrec_304 _ _ _ _ _ _  h
      · have h := g_ip c h
        obtain ⟨S2, b3, hc, h⟩ := g_b2s h
        refine ⟨0, _, (by decide), CX12_isSign  hc, ?_⟩
        rintro _ _ ⟨rfl, rfl⟩
        refine ⟨fun c => ?_, fun c => ?_⟩
        · have h := g_bf c h
          obtain ⟨S4, hc, h⟩ := g_b1s h
          refine ⟨0, _, (by decide), CX12_puts  hc, ?_⟩
          rintro _ rfl
          exact hrec_292 _ _ _ _ _ _  h
        · have h := g_bt c h
          obtain ⟨S5, hc, h⟩ := g_b1s h
          refine ⟨0, _, (by decide), CX12_puts  hc, ?_⟩
          rintro _ rfl
          exact hrec_292 _ _ _ _ _ _  h
    · intro S i1 i2 i3 i4 i5 h
      rw [fX12_readsLaw] at h
      have h := g_in (by decide) h
      have h := g_in (by decide) h
      have h := g_in (by decide) h
      have h := g_in (by decide) h
      have h := g_in (by decide) h
      have h := g_in (by decide) h
      have h := g_in (by decide) h
      have h := g_in (by decide) h
      have h := g_ip rfl h
      unfold bX12_readsLaw_292 at h
      refine zX12_readsLaw_292  ?_
      obtain ⟨hv1, h⟩ := g_vs h
      refine ⟨hv1, ?_⟩
      intro S2 eS
      have h := g_lts eS h
      obtain ⟨S3, hc, h⟩ := g_b1s h
      refine ⟨1, _, (by decide), CX12_nextToken  hc, ?_⟩
      rintro _ rfl
      exact hrec_11 _ _ _ _ _ _  h
    · intro S i1 i2 i3 i4 i5 h
      rw [fX12_readsLaw] at h
      have h := g_in (by decide) h
      have h := g_in (by decide) h
      have h := g_in (by decide) h
      have h := g_in (by decide) h
      have h := g_in (by decide) h
      have h := g_in (by decide) h
      have h := g_in (by decide) h
      have h := g_in (by decide) h
      have h := g_in (by decide) h
      have h := g_ip rfl h
      unfold bX12_readsLaw_304 at h
      refine zX12_readsLaw_304  ?_
      obtain ⟨S1, b2, hc, h⟩ := g_b2s h
      refine ⟨0, _, (by decide), CX12_isWord  hc, ?_⟩
      rintro _ _ ⟨rfl, rfl⟩
      refine ⟨fun c => ?_, fun c => ?_⟩
      · have h := g_bt c h
        exact hrec_324 _ _ _ _ _ _  h
      · have h := g_bf c h
        obtain ⟨S3, b4, hc, h⟩ := g_b2s h
        refine ⟨0, _, (by decide), CX12_isWord  hc, ?_⟩
        rintro _ _ ⟨rfl, rfl⟩
        refine ⟨fun c => ?_, fun c => ?_⟩
        · have h := g_bf c h
          obtain ⟨S5, b6, hc, h⟩ := g_b2s h
          refine ⟨0, _, (by decide), CX12_isSign  hc, ?_⟩
          rintro _ _ ⟨rfl, rfl⟩
          refine ⟨fun c => ?_, fun c => ?_⟩
          · have h := g_bf c h
            exact hrec_399 _ _ _ _ _ _  h
          · have h := g_bt c h
            refine ⟨fun c => ?_, fun c => ?_⟩
            · have h := g_ip c h
              exact hrec_399 _ _ _ _ _ _  h
            · have h := g_in c h
              obtain ⟨S7, hc, h⟩ := g_b1s h
              refine ⟨0, _, (by decide), CX12_puts  hc, ?_⟩
              rintro _ rfl
              exact hrec_379 _ _ _ _ _ _  h
        · have h := g_bt c h
          exact hrec_324 _ _ _ _ _ _  h
    · intro S i1 i2 i3 i4 i5 h
      rw [fX12_readsLaw] at h
      have h := g_in (by decide) h
      have h := g_in (by decide) h
      have h := g_in (by decide) h
      have h := g_in (by decide) h
      have h := g_in (by decide) h
      have h := g_in (by decide) h
      have h := g_in (by decide) h
      have h := g_in (by decide) h
      have h := g_in (by decide) h
      have h := g_in (by decide) h
      have h := g_ip rfl h
      unfold bX12_readsLaw_324 at h
      refine zX12_readsLaw_324  ?_
      obtain ⟨S1, b2, hc, h⟩ := g_b2s h
      refine ⟨0, _, (by decide), CX12_isWord  hc, ?_⟩
      rintro _ _ ⟨rfl, rfl⟩
      refine ⟨fun c => ?_, fun c => ?_⟩
      · have h := g_bf c h
        obtain ⟨S3, hc, h⟩ := g_b1s h
        refine ⟨0, _, (by decide), CX12_puts  hc, ?_⟩
        rintro _ rfl
        exact hrec_345 _ _ _ _ _ _  h
      · have h := g_bt c h
        obtain ⟨S4, hc, h⟩ := g_b1s h
        refine ⟨0, _, (by decide), CX12_puts  hc, ?_⟩
        rintro _ rfl
        exact hrec_345 _ _ _ _ _ _  h
    · intro S i1 i2 i3 i4 i5 h
      rw [fX12_readsLaw] at h
      have h := g_in (by decide) h
      have h := g_in (by decide) h
      have h := g_in (by decide) h
      have h := g_in (by decide) h
      have h := g_in (by decide) h
      have h := g_in (by decide) h
      have h := g_in (by decide) h
      have h := g_in (by decide) h
      have h := g_in (by decide) h
      have h := g_in (by decide) h
      have h := g_in (by decide) h
      have h := g_ip rfl h
      unfold bX12_readsLaw_345 at h
      refine zX12_readsLaw_345  ?_
      obtain ⟨hv1, h⟩ := g_vs h
      refine ⟨hv1, ?_⟩
      intro S2 eS
      have h := g_lts eS h
      obtain ⟨S3, hc, h⟩ := g_b1s h
      refine ⟨1, _, (by decide), CX12_nextToken  hc, ?_⟩
      rintro _ rfl
      exact hrec_11 _ _ _ _ _ _  h
    · intro S i1 i2 i3 i4 i5 h
      rw [fX12_readsLaw] at h
      have h := g_in (by decide) h
      have h := g_in (by decide) h
      have h := g_in (by decide) h
      have h := g_in (by decide) h
      have h := g_in (by decide) h
      have h := g_in (by decide) h
      have h := g_in (by decide) h
      have h := g_in (by decide) h
      have h := g_in (by decide) h
      have h := g_in (by decide) h
      have h := g_in (by decide) h
      have h := g_in (by decide) h
      have h := g_ip rfl h
      unfold bX12_readsLaw_379 at h
      refine zX12_readsLaw_379  ?_
      refine ⟨fun c => ?_, fun c => ?_⟩
      · have h := g_ip c h
        obtain ⟨S1, hc, h⟩ := g_b1s h
        refine ⟨1, _, (by decide), CX12_nextToken  hc, ?_⟩
        rintro _ rfl
        exact hrec_11 _ _ _ _ _ _  h
      · have h := g_in c h
        obtain ⟨hv2, h⟩ := g_vs h
        refine ⟨hv2, ?_⟩
        refine ⟨fun c => ?_, fun c => ?_⟩
        · have h := g_in c h
          obtain ⟨S3, hc, h⟩ := g_b1s h
          refine ⟨1, _, (by decide), CX12_nextToken  hc, ?_⟩
          rintro _ rfl
          exact hrec_11 _ _ _ _ _ _  h
        · have h := g_ip c h
          exact hrec_379 _ _ _ _ _ _  h
    · intro S i1 i2 i3 i4 i5 h
      rw [fX12_readsLaw] at h
      have h := g_in (by decide) h
      have h := g_in (by decide) h
      have h := g_in (by decide) h
      have h := g_in (by decide) h
      have h := g_in (by decide) h
      have h := g_in (by decide) h
      have h := g_in (by decide) h
      have h := g_in (by decide) h
      have h := g_in (by decide) h
      have h := g_in (by decide) h
      have h := g_in (by decide) h
      have h := g_in (by decide) h
      have h := g_in (by decide) h
      have h := g_ip rfl h
      unfold bX12_readsLaw_399 at h
      refine zX12_readsLaw_399  ?_
      refine ⟨fun c => ?_, fun c => ?_⟩
      · have h := g_in c h
        obtain ⟨S1, b2, hc, h⟩ := g_b2s h
        refine ⟨0, _, (by decide), CX12_fails  hc, ?_⟩
        rintro _ _ ⟨rfl, rfl⟩
        cases h; exact ⟨rfl, rfl⟩
      · have h := g_ip c h
        obtain ⟨S3, b4, hc, h⟩ := g_b2s h
        refine ⟨0, _, (by decide), CX12_isSign  hc, ?_⟩
        rintro _ _ ⟨rfl, rfl⟩
        refine ⟨fun c => ?_, fun c => ?_⟩
        · have h := g_bf c h
          obtain ⟨S5, b6, hc, h⟩ := g_b2s h
          refine ⟨0, _, (by decide), CX12_fails  hc, ?_⟩
          rintro _ _ ⟨rfl, rfl⟩
          cases h; exact ⟨rfl, rfl⟩
        · have h := g_bt c h
          obtain ⟨S7, hc, h⟩ := g_b1s h
          refine ⟨1, _, (by decide), CX12_nextToken  hc, ?_⟩
          rintro _ rfl
          cases h; exact ⟨rfl, rfl⟩
theorem CX12_readsLaw {n : Nat} {S : gS} {R : gS × Bool}   (h : FX12_readsLaw S  = some R) : sCz 2 mX12_readsLaw n S [.ref (180)] (fun S2 x2 => S2 = R.1 ∧ x2 = R.2) := by
  unfold FX12_readsLaw at h
  refine gCz_of (by decide) (Nat.le_of_ble_eq_true rfl) rfl rfl (zX12_readsLaw_0  ?_)
  intro S1 eS
  have h := g_lts eS h
  exact (lX12_readsLaw FU).1 _ _ _ _ _ _  h

noncomputable def FX12_opens (S : gS) (i1 : Int32) : Option (gS) := if g_vp (i1) 7 = true then (g_lt (uR S (198) (Int32.toNatClampNeg (i1)) ((0 : Int32))) (fun S2 => g_lt (uR S2 (200) (Int32.toNatClampNeg (i1)) ((0 : Int32))) (fun S3 => g_lt (uR S3 (201) (Int32.toNatClampNeg (i1)) ((0 : Int32))) (fun S4 => g_lt (uR S4 (202) (Int32.toNatClampNeg (i1)) ((20 : Int32))) (fun S5 => g_lt (uR S5 (204) (Int32.toNatClampNeg (i1)) ((0 : Int32))) (fun S6 => some S6)))))) else none
theorem CX12_opens {n : Nat} {S : gS} {R : gS} {i1 : Int32}  (h : FX12_opens S i1 = some R) : sCv 0 mX12_opens n S [.ref (180), .int (i1)] (fun S2 => S2 = R) := by
  unfold FX12_opens at h
  refine gCv_of (by decide) (Nat.le_of_ble_eq_true rfl) rfl rfl (zX12_opens_0  ?_)
  obtain ⟨hv1, h⟩ := g_vs h
  refine ⟨hv1, ?_⟩
  intro S2 eS
  have h := g_lts eS h
  intro S3 eS
  have h := g_lts eS h
  intro S4 eS
  have h := g_lts eS h
  intro S5 eS
  have h := g_lts eS h
  intro S6 eS
  have h := g_lts eS h
  cases h; exact rfl

noncomputable def FX12_sums (S : gS) (i1 : Int32) : Option (gS) := if g_vp (i1) 7 = true then (if (sR S (202) (Int32.toNatClampNeg (i1))) = (21 : Int32) then (g_lt (uR S (201) (Int32.toNatClampNeg (i1)) (((sR S (201) (Int32.toNatClampNeg (i1))) - (sR S (203) (Int32.toNatClampNeg (i1)))))) (fun S4 => g_lt (uR S4 (204) (Int32.toNatClampNeg (i1)) ((0 : Int32))) (fun S5 => some S5))) else (g_lt (uR S (201) (Int32.toNatClampNeg (i1)) (((sR S (201) (Int32.toNatClampNeg (i1))) + (sR S (203) (Int32.toNatClampNeg (i1)))))) (fun S2 => g_lt (uR S2 (204) (Int32.toNatClampNeg (i1)) ((0 : Int32))) (fun S3 => some S3)))) else none
theorem CX12_sums {n : Nat} {S : gS} {R : gS} {i1 : Int32}  (h : FX12_sums S i1 = some R) : sCv 0 mX12_sums n S [.ref (180), .int (i1)] (fun S2 => S2 = R) := by
  unfold FX12_sums at h
  refine gCv_of (by decide) (Nat.le_of_ble_eq_true rfl) rfl rfl (zX12_sums_0  ?_)
  obtain ⟨hv1, h⟩ := g_vs h
  refine ⟨hv1, ?_⟩
  refine ⟨fun c => ?_, fun c => ?_⟩
  · have h := g_in c h
    intro S2 eS
    have h := g_lts eS h
    intro S3 eS
    have h := g_lts eS h
    cases h; exact rfl
  · have h := g_ip c h
    intro S4 eS
    have h := g_lts eS h
    intro S5 eS
    have h := g_lts eS h
    cases h; exact rfl

noncomputable def bX12_tests_44  (rec : Nat → gS → Int32 → Int32 → Option (gS)) (S : gS) (i1 : Int32) (i2 : Int32) : Option (gS) := if g_vp (i1) 7 = true then (if (sR S (200) (Int32.toNatClampNeg (i1))) = (25 : Int32) then (if (sR S (199) (Int32.toNatClampNeg (i1))) = (sR S (201) (Int32.toNatClampNeg (i1))) then (rec 76 S (i1) ((1 : Int32))) else (rec 76 S (i1) ((0 : Int32)))) else (rec 76 S (i1) (i2))) else none
noncomputable def bX12_tests_76  (rec : Nat → gS → Int32 → Int32 → Option (gS)) (S : gS) (i1 : Int32) (i2 : Int32) : Option (gS) := if g_vp (i1) 7 = true then (if (sR S (198) (Int32.toNatClampNeg (i1))) = (26 : Int32) then (if (sR S (197) (Int32.toNatClampNeg (i1))) = 0 then (rec 106 S (i1) ((0 : Int32))) else (if i2 = 0 then (rec 106 S (i1) ((0 : Int32))) else (rec 106 S (i1) ((1 : Int32))))) else (rec 106 S (i1) (i2))) else none
noncomputable def bX12_tests_106  (rec : Nat → gS → Int32 → Int32 → Option (gS)) (S : gS) (i1 : Int32) (i2 : Int32) : Option (gS) := if g_vp (i1) 7 = true then (if (sR S (198) (Int32.toNatClampNeg (i1))) = (27 : Int32) then (if (sR S (197) (Int32.toNatClampNeg (i1))) = 0 then (if i2 = 0 then (rec 136 S (i1) ((0 : Int32))) else (rec 136 S (i1) ((1 : Int32)))) else (rec 136 S (i1) ((1 : Int32)))) else (rec 136 S (i1) (i2))) else none
noncomputable def bX12_tests_136  (rec : Nat → gS → Int32 → Int32 → Option (gS)) (S : gS) (i1 : Int32) (i2 : Int32) : Option (gS) := if g_vp (i1) 7 = true then (g_lt (uR S (197) (Int32.toNatClampNeg (i1)) (i2)) (fun S2 => g_lt (uR S2 (200) (Int32.toNatClampNeg (i1)) ((0 : Int32))) (fun S3 => g_lt (uR S3 (201) (Int32.toNatClampNeg (i1)) ((0 : Int32))) (fun S4 => g_lt (uR S4 (202) (Int32.toNatClampNeg (i1)) ((20 : Int32))) (fun S5 => some S5))))) else none
noncomputable def fX12_tests  : Nat → Nat → gS → Int32 → Int32 → Option (gS)
  | 0 => fun _ _ _ _ => none
  | k + 1 => fun pc S i1 i2 => if pc = 44 then bX12_tests_44  (fX12_tests  k) S i1 i2 else if pc = 76 then bX12_tests_76  (fX12_tests  k) S i1 i2 else if pc = 106 then bX12_tests_106  (fX12_tests  k) S i1 i2 else if pc = 136 then bX12_tests_136  (fX12_tests  k) S i1 i2 else none
noncomputable def FX12_tests (S : gS) (i1 : Int32) : Option (gS) := g_b1 (FX12_sums S (i1)) (fun S1 => if g_vp (i1) 7 = true then (if (sR S1 (200) (Int32.toNatClampNeg (i1))) = (24 : Int32) then (if (sR S1 (201) (Int32.toNatClampNeg (i1))) ≤ (sR S1 (199) (Int32.toNatClampNeg (i1))) then (fX12_tests  FU 44 S1 (i1) ((0 : Int32))) else (fX12_tests  FU 44 S1 (i1) ((1 : Int32)))) else (fX12_tests  FU 44 S1 (i1) ((sR S1 (201) (Int32.toNatClampNeg (i1)))))) else none)
set_option maxRecDepth 100000 in
theorem lX12_tests  {n : Nat} {R : gS} : ∀ k : Nat, (∀ (S : gS) (i1 : Int32) (i2 : Int32) , fX12_tests  k 44 S i1 i2 = some R → gG 1 mX12_tests 0 0 (g_Xv mX12_tests n 0 0 (hPv (fun S2 => S2 = R))) 44 n (hH S) [some (.ref (180)), some (.int (i1)), some (.int (i2))] [] 0 0) ∧ (∀ (S : gS) (i1 : Int32) (i2 : Int32) , fX12_tests  k 76 S i1 i2 = some R → gG 1 mX12_tests 0 0 (g_Xv mX12_tests n 0 0 (hPv (fun S2 => S2 = R))) 76 n (hH S) [some (.ref (180)), some (.int (i1)), some (.int (i2))] [] 0 0) ∧ (∀ (S : gS) (i1 : Int32) (i2 : Int32) , fX12_tests  k 106 S i1 i2 = some R → gG 1 mX12_tests 0 0 (g_Xv mX12_tests n 0 0 (hPv (fun S2 => S2 = R))) 106 n (hH S) [some (.ref (180)), some (.int (i1)), some (.int (i2))] [] 0 0) ∧ (∀ (S : gS) (i1 : Int32) (i2 : Int32) , fX12_tests  k 136 S i1 i2 = some R → gG 1 mX12_tests 0 0 (g_Xv mX12_tests n 0 0 (hPv (fun S2 => S2 = R))) 136 n (hH S) [some (.ref (180)), some (.int (i1)), some (.int (i2))] [] 0 0) := by
  intro k
  induction k with
  | zero => exact ⟨fun _ _ _ h => (by cases h), fun _ _ _ h => (by cases h), fun _ _ _ h => (by cases h), fun _ _ _ h => (by cases h)⟩
  | succ k ih =>
    have hrec_44 := ih.1
    have hrec_76 := ih.2.1
    have hrec_106 := ih.2.2.1
    have hrec_136 := ih.2.2.2
    refine ⟨?_, ?_, ?_, ?_⟩
    · intro S i1 i2 h
      rw [fX12_tests] at h
      have h := g_ip rfl h
      unfold bX12_tests_44 at h
      refine zX12_tests_44  ?_
      obtain ⟨hv1, h⟩ := g_vs h
      refine ⟨hv1, ?_⟩
      refine ⟨fun c => ?_, fun c => ?_⟩
      · have h := g_in c h
        exact hrec_76 _ _ _  h
      · have h := g_ip c h
        refine ⟨fun c => ?_, fun c => ?_⟩
        · have h := g_in c h
          exact hrec_76 _ _ _  h
        · have h := g_ip c h
          exact hrec_76 _ _ _  h
    · intro S i1 i2 h
      rw [fX12_tests] at h
      have h := g_in (by decide) h
      have h := g_ip rfl h
      unfold bX12_tests_76 at h
      refine zX12_tests_76  ?_
      obtain ⟨hv1, h⟩ := g_vs h
      refine ⟨hv1, ?_⟩
      refine ⟨fun c => ?_, fun c => ?_⟩
      · have h := g_in c h
        exact hrec_106 _ _ _  h
      · have h := g_ip c h
        refine ⟨fun c => ?_, fun c => ?_⟩
        · have h := g_ip c h
          exact hrec_106 _ _ _  h
        · have h := g_in c h
          refine ⟨fun c => ?_, fun c => ?_⟩
          · have h := g_ip c h
            exact hrec_106 _ _ _  h
          · have h := g_in c h
            exact hrec_106 _ _ _  h
    · intro S i1 i2 h
      rw [fX12_tests] at h
      have h := g_in (by decide) h
      have h := g_in (by decide) h
      have h := g_ip rfl h
      unfold bX12_tests_106 at h
      refine zX12_tests_106  ?_
      obtain ⟨hv1, h⟩ := g_vs h
      refine ⟨hv1, ?_⟩
      refine ⟨fun c => ?_, fun c => ?_⟩
      · have h := g_in c h
        exact hrec_136 _ _ _  h
      · have h := g_ip c h
        refine ⟨fun c => ?_, fun c => ?_⟩
        · have h := g_in c h
          exact hrec_136 _ _ _  h
        · have h := g_ip c h
          refine ⟨fun c => ?_, fun c => ?_⟩
          · have h := g_ip c h
            exact hrec_136 _ _ _  h
          · have h := g_in c h
            exact hrec_136 _ _ _  h
    · intro S i1 i2 h
      rw [fX12_tests] at h
      have h := g_in (by decide) h
      have h := g_in (by decide) h
      have h := g_in (by decide) h
      have h := g_ip rfl h
      unfold bX12_tests_136 at h
      refine zX12_tests_136  ?_
      obtain ⟨hv1, h⟩ := g_vs h
      refine ⟨hv1, ?_⟩
      intro S2 eS
      have h := g_lts eS h
      intro S3 eS
      have h := g_lts eS h
      intro S4 eS
      have h := g_lts eS h
      intro S5 eS
      have h := g_lts eS h
      cases h; exact rfl
theorem CX12_tests {n : Nat} {S : gS} {R : gS} {i1 : Int32}  (h : FX12_tests S i1 = some R) : sCv 1 mX12_tests n S [.ref (180), .int (i1)] (fun S2 => S2 = R) := by
  unfold FX12_tests at h
  refine gCv_of (by decide) (Nat.le_of_ble_eq_true rfl) rfl rfl (zX12_tests_0  ?_)
  obtain ⟨S1, hc, h⟩ := g_b1s h
  refine ⟨0, _, (by decide), CX12_sums  hc, ?_⟩
  rintro _ rfl
  obtain ⟨hv2, h⟩ := g_vs h
  refine ⟨hv2, ?_⟩
  refine ⟨fun c => ?_, fun c => ?_⟩
  · have h := g_in c h
    exact (lX12_tests FU).1 _ _ _  h
  · have h := g_ip c h
    refine ⟨fun c => ?_, fun c => ?_⟩
    · have h := g_ip c h
      exact (lX12_tests FU).1 _ _ _  h
    · have h := g_in c h
      exact (lX12_tests FU).1 _ _ _  h

noncomputable def bX12_worked_14  (rec : Nat → gS → Int32 → Int32 → Int32 → Int32 → Int32 → Option (gS × Int32)) (S : gS) (i1 : Int32) (i2 : Int32) (i3 : Int32) (i4 : Int32) (i5 : Int32) : Option (gS × Int32) := if g_vp (i1) 2 = true then (if (sR S (193) (Int32.toNatClampNeg (i1))) ≤ i3 then (g_b1 (FX12_tests S ((0 : Int32))) (fun S2 => some (S2, (sR S2 (197) (0))))) else (if g_vp (i3) 2000 = true then (if (sR S (194) (Int32.toNatClampNeg (i3))) = (28 : Int32) then (rec 46 S (i1) (i2) (i3) ((sR S (194) (Int32.toNatClampNeg (i3)))) 0) else (if (sR S (194) (Int32.toNatClampNeg (i3))) = (30 : Int32) then (rec 46 S (i1) (i2) (i3) ((sR S (194) (Int32.toNatClampNeg (i3)))) 0) else (if (sR S (194) (Int32.toNatClampNeg (i3))) = (20 : Int32) then (rec 89 S (i1) (i2) (i3) ((sR S (194) (Int32.toNatClampNeg (i3)))) 0) else (if (sR S (194) (Int32.toNatClampNeg (i3))) = (21 : Int32) then (rec 89 S (i1) (i2) (i3) ((sR S (194) (Int32.toNatClampNeg (i3)))) 0) else (if (sR S (194) (Int32.toNatClampNeg (i3))) = (22 : Int32) then (if g_vp (i2) 7 = true then (g_lt (uR S (204) (Int32.toNatClampNeg (i2)) ((sR S (194) (Int32.toNatClampNeg (i3))))) (fun S6 => rec 14 S6 (i1) (i2) ((i3 + 1)) 0 0)) else none) else (if (sR S (194) (Int32.toNatClampNeg (i3))) = (24 : Int32) then (rec 137 S (i1) (i2) (i3) ((sR S (194) (Int32.toNatClampNeg (i3)))) 0) else (if (sR S (194) (Int32.toNatClampNeg (i3))) = (25 : Int32) then (rec 137 S (i1) (i2) (i3) ((sR S (194) (Int32.toNatClampNeg (i3)))) 0) else (if (sR S (194) (Int32.toNatClampNeg (i3))) = (26 : Int32) then (rec 194 S (i1) (i2) (i3) ((sR S (194) (Int32.toNatClampNeg (i3)))) 0) else (if (sR S (194) (Int32.toNatClampNeg (i3))) = (27 : Int32) then (rec 194 S (i1) (i2) (i3) ((sR S (194) (Int32.toNatClampNeg (i3)))) 0) else (if (sR S (194) (Int32.toNatClampNeg (i3))) < (100 : Int32) then (if (20 : Int32) ≤ (sR S (194) (Int32.toNatClampNeg (i3))) then (rec 245 S (i1) (i2) (i3) ((sR S (194) (Int32.toNatClampNeg (i3)))) ((0 : Int32))) else (if g_vp ((sR S (194) (Int32.toNatClampNeg (i3)))) 20 = true then (rec 245 S (i1) (i2) (i3) ((sR S (194) (Int32.toNatClampNeg (i3)))) ((sR S (206) (Int32.toNatClampNeg ((sR S (194) (Int32.toNatClampNeg (i3)))))))) else none)) else (rec 245 S (i1) (i2) (i3) ((sR S (194) (Int32.toNatClampNeg (i3)))) (((sR S (194) (Int32.toNatClampNeg (i3))) - (100 : Int32)))))))))))))) else none)) else none
noncomputable def bX12_worked_46  (rec : Nat → gS → Int32 → Int32 → Int32 → Int32 → Int32 → Option (gS × Int32)) (S : gS) (i1 : Int32) (i2 : Int32) (i3 : Int32) (i4 : Int32) (i5 : Int32) : Option (gS × Int32) := if i4 = (30 : Int32) then (if g_vp ((i2 + 1)) 7 = true then (g_lt (uR S (205) (Int32.toNatClampNeg ((i2 + 1))) ((1 : Int32))) (fun S5 => g_b1 (FX12_opens S5 ((i2 + 1))) (fun S6 => rec 14 S6 (i1) ((i2 + 1)) ((i3 + 1)) 0 0))) else none) else (if g_vp ((i2 + 1)) 7 = true then (g_lt (uR S (205) (Int32.toNatClampNeg ((i2 + 1))) ((0 : Int32))) (fun S2 => g_b1 (FX12_opens S2 ((i2 + 1))) (fun S3 => rec 14 S3 (i1) ((i2 + 1)) ((i3 + 1)) 0 0))) else none)
noncomputable def bX12_worked_89  (rec : Nat → gS → Int32 → Int32 → Int32 → Int32 → Int32 → Option (gS × Int32)) (S : gS) (i1 : Int32) (i2 : Int32) (i3 : Int32) (i4 : Int32) (i5 : Int32) : Option (gS × Int32) := g_b1 (FX12_sums S (i2)) (fun S1 => if g_vp (i2) 7 = true then (g_lt (uR S1 (202) (Int32.toNatClampNeg (i2)) (i4)) (fun S3 => rec 14 S3 (i1) (i2) ((i3 + 1)) 0 0)) else none)
noncomputable def bX12_worked_137  (rec : Nat → gS → Int32 → Int32 → Int32 → Int32 → Int32 → Option (gS × Int32)) (S : gS) (i1 : Int32) (i2 : Int32) (i3 : Int32) (i4 : Int32) (i5 : Int32) : Option (gS × Int32) := g_b1 (FX12_sums S (i2)) (fun S1 => if g_vp (i2) 7 = true then (g_lt (uR S1 (199) (Int32.toNatClampNeg (i2)) ((sR S1 (201) (Int32.toNatClampNeg (i2))))) (fun S3 => g_lt (uR S3 (200) (Int32.toNatClampNeg (i2)) (i4)) (fun S4 => g_lt (uR S4 (201) (Int32.toNatClampNeg (i2)) ((0 : Int32))) (fun S5 => g_lt (uR S5 (202) (Int32.toNatClampNeg (i2)) ((20 : Int32))) (fun S6 => rec 14 S6 (i1) (i2) ((i3 + 1)) 0 0))))) else none)
noncomputable def bX12_worked_194  (rec : Nat → gS → Int32 → Int32 → Int32 → Int32 → Int32 → Option (gS × Int32)) (S : gS) (i1 : Int32) (i2 : Int32) (i3 : Int32) (i4 : Int32) (i5 : Int32) : Option (gS × Int32) := g_b1 (FX12_tests S (i2)) (fun S1 => if g_vp (i2) 7 = true then (g_lt (uR S1 (198) (Int32.toNatClampNeg (i2)) (i4)) (fun S3 => rec 14 S3 (i1) (i2) ((i3 + 1)) 0 0)) else none)
noncomputable def bX12_worked_245  (rec : Nat → gS → Int32 → Int32 → Int32 → Int32 → Int32 → Option (gS × Int32)) (S : gS) (i1 : Int32) (i2 : Int32) (i3 : Int32) (i4 : Int32) (i5 : Int32) : Option (gS × Int32) := if i4 = (29 : Int32) then (g_b1 (FX12_tests S (i2)) (fun S1 => if g_vp (i2) 7 = true then (rec 268 S1 (i1) ((i2 + (-1))) (i3) 0 ((sR S1 (197) (Int32.toNatClampNeg (i2))))) else none)) else (rec 268 S (i1) (i2) (i3) 0 (i5))
noncomputable def bX12_worked_268  (rec : Nat → gS → Int32 → Int32 → Int32 → Int32 → Int32 → Option (gS × Int32)) (S : gS) (i1 : Int32) (i2 : Int32) (i3 : Int32) (i4 : Int32) (i5 : Int32) : Option (gS × Int32) := if i2 ≤ 0 then (rec 300 S (i1) (i2) (i3) 0 (i5)) else (if g_vp (i2) 7 = true then (if (sR S (205) (Int32.toNatClampNeg (i2))) = (1 : Int32) then (if i5 = 0 then (rec 268 S (i1) ((i2 + (-1))) (i3) 0 ((1 : Int32))) else (rec 268 S (i1) ((i2 + (-1))) (i3) 0 ((0 : Int32)))) else (rec 300 S (i1) (i2) (i3) 0 (i5))) else none)
noncomputable def bX12_worked_300  (rec : Nat → gS → Int32 → Int32 → Int32 → Int32 → Int32 → Option (gS × Int32)) (S : gS) (i1 : Int32) (i2 : Int32) (i3 : Int32) (i4 : Int32) (i5 : Int32) : Option (gS × Int32) := if g_vp (i2) 7 = true then (if (sR S (204) (Int32.toNatClampNeg (i2))) = 0 then (g_lt (uR S (203) (Int32.toNatClampNeg (i2)) (i5)) (fun S3 => rec 14 S3 (i1) (i2) ((i3 + 1)) 0 0)) else (g_lt (uR S (203) (Int32.toNatClampNeg (i2)) (((sR S (203) (Int32.toNatClampNeg (i2))) * i5))) (fun S2 => rec 14 S2 (i1) (i2) ((i3 + 1)) 0 0))) else none
noncomputable def fX12_worked  : Nat → Nat → gS → Int32 → Int32 → Int32 → Int32 → Int32 → Option (gS × Int32)
  | 0 => fun _ _ _ _ _ _ _ => none
  | k + 1 => fun pc S i1 i2 i3 i4 i5 => if pc = 14 then bX12_worked_14  (fX12_worked  k) S i1 i2 i3 i4 i5 else if pc = 46 then bX12_worked_46  (fX12_worked  k) S i1 i2 i3 i4 i5 else if pc = 89 then bX12_worked_89  (fX12_worked  k) S i1 i2 i3 i4 i5 else if pc = 137 then bX12_worked_137  (fX12_worked  k) S i1 i2 i3 i4 i5 else if pc = 194 then bX12_worked_194  (fX12_worked  k) S i1 i2 i3 i4 i5 else if pc = 245 then bX12_worked_245  (fX12_worked  k) S i1 i2 i3 i4 i5 else if pc = 268 then bX12_worked_268  (fX12_worked  k) S i1 i2 i3 i4 i5 else if pc = 300 then bX12_worked_300  (fX12_worked  k) S i1 i2 i3 i4 i5 else none
noncomputable def FX12_worked (S : gS) (i1 : Int32) : Option (gS × Int32) := g_b1 (FX12_opens S ((0 : Int32))) (fun S1 => if g_vp (i1) 2 = true then (fX12_worked  FU 14 S1 (i1) ((0 : Int32)) ((sR S1 (192) (Int32.toNatClampNeg (i1)))) 0 0) else none)
set_option maxRecDepth 100000 in
theorem lX12_worked  {n : Nat} {R : gS × Int32} : ∀ k : Nat, (∀ (S : gS) (i1 : Int32) (i2 : Int32) (i3 : Int32) (i4 : Int32) (i5 : Int32) , fX12_worked  k 14 S i1 i2 i3 i4 i5 = some R → gG 2 mX12_worked 0 0 (g_Xj mX12_worked n 0 0 (hPi (fun S2 x2 => S2 = R.1 ∧ x2 = R.2))) 14 n (hH S) [some (.ref (180)), some (.int (i1)), some (.int (i2)), some (.int (i3)), none, none] [] 0 0) ∧ (∀ (S : gS) (i1 : Int32) (i2 : Int32) (i3 : Int32) (i4 : Int32) (i5 : Int32) , fX12_worked  k 46 S i1 i2 i3 i4 i5 = some R → gG 2 mX12_worked 0 0 (g_Xj mX12_worked n 0 0 (hPi (fun S2 x2 => S2 = R.1 ∧ x2 = R.2))) 46 n (hH S) [some (.ref (180)), some (.int (i1)), some (.int (i2)), some (.int (i3)), some (.int (i4)), none] [] 0 0) ∧ (∀ (S : gS) (i1 : Int32) (i2 : Int32) (i3 : Int32) (i4 : Int32) (i5 : Int32) , fX12_worked  k 89 S i1 i2 i3 i4 i5 = some R → gG 2 mX12_worked 0 0 (g_Xj mX12_worked n 0 0 (hPi (fun S2 x2 => S2 = R.1 ∧ x2 = R.2))) 89 n (hH S) [some (.ref (180)), some (.int (i1)), some (.int (i2)), some (.int (i3)), some (.int (i4)), none] [] 0 0) ∧ (∀ (S : gS) (i1 : Int32) (i2 : Int32) (i3 : Int32) (i4 : Int32) (i5 : Int32) , fX12_worked  k 137 S i1 i2 i3 i4 i5 = some R → gG 2 mX12_worked 0 0 (g_Xj mX12_worked n 0 0 (hPi (fun S2 x2 => S2 = R.1 ∧ x2 = R.2))) 137 n (hH S) [some (.ref (180)), some (.int (i1)), some (.int (i2)), some (.int (i3)), some (.int (i4)), none] [] 0 0) ∧ (∀ (S : gS) (i1 : Int32) (i2 : Int32) (i3 : Int32) (i4 : Int32) (i5 : Int32) , fX12_worked  k 194 S i1 i2 i3 i4 i5 = some R → gG 2 mX12_worked 0 0 (g_Xj mX12_worked n 0 0 (hPi (fun S2 x2 => S2 = R.1 ∧ x2 = R.2))) 194 n (hH S) [some (.ref (180)), some (.int (i1)), some (.int (i2)), some (.int (i3)), some (.int (i4)), none] [] 0 0) ∧ (∀ (S : gS) (i1 : Int32) (i2 : Int32) (i3 : Int32) (i4 : Int32) (i5 : Int32) , fX12_worked  k 245 S i1 i2 i3 i4 i5 = some R → gG 2 mX12_worked 0 0 (g_Xj mX12_worked n 0 0 (hPi (fun S2 x2 => S2 = R.1 ∧ x2 = R.2))) 245 n (hH S) [some (.ref (180)), some (.int (i1)), some (.int (i2)), some (.int (i3)), some (.int (i4)), some (.int (i5))] [] 0 0) ∧ (∀ (S : gS) (i1 : Int32) (i2 : Int32) (i3 : Int32) (i4 : Int32) (i5 : Int32) , fX12_worked  k 268 S i1 i2 i3 i4 i5 = some R → gG 2 mX12_worked 0 0 (g_Xj mX12_worked n 0 0 (hPi (fun S2 x2 => S2 = R.1 ∧ x2 = R.2))) 268 n (hH S) [some (.ref (180)), some (.int (i1)), some (.int (i2)), some (.int (i3)), none, some (.int (i5))] [] 0 0) ∧ (∀ (S : gS) (i1 : Int32) (i2 : Int32) (i3 : Int32) (i4 : Int32) (i5 : Int32) , fX12_worked  k 300 S i1 i2 i3 i4 i5 = some R → gG 2 mX12_worked 0 0 (g_Xj mX12_worked n 0 0 (hPi (fun S2 x2 => S2 = R.1 ∧ x2 = R.2))) 300 n (hH S) [some (.ref (180)), some (.int (i1)), some (.int (i2)), some (.int (i3)), none, some (.int (i5))] [] 0 0) := by
  intro k
  induction k with
  | zero => exact ⟨fun _ _ _ _ _ _ h => (by cases h), fun _ _ _ _ _ _ h => (by cases h), fun _ _ _ _ _ _ h => (by cases h), fun _ _ _ _ _ _ h => (by cases h), fun _ _ _ _ _ _ h => (by cases h), fun _ _ _ _ _ _ h => (by cases h), fun _ _ _ _ _ _ h => (by cases h), fun _ _ _ _ _ _ h => (by cases h)⟩
  | succ k ih =>
    have hrec_14 := ih.1
    have hrec_46 := ih.2.1
    have hrec_89 := ih.2.2.1
    have hrec_137 := ih.2.2.2.1
    have hrec_194 := ih.2.2.2.2.1
    have hrec_245 := ih.2.2.2.2.2.1
    have hrec_268 := ih.2.2.2.2.2.2.1
    have hrec_300 := ih.2.2.2.2.2.2.2
    refine ⟨?_, ?_, ?_, ?_, ?_, ?_, ?_, ?_⟩
    · intro S i1 i2 i3 i4 i5 h
      rw [fX12_worked] at h
      have h := g_ip rfl h
      unfold bX12_worked_14 at h
      refine zX12_worked_14  ?_
      obtain ⟨hv1, h⟩ := g_vs h
      refine ⟨hv1, ?_⟩
      refine ⟨fun c => ?_, fun c => ?_⟩
      · have h := g_ip c h
        obtain ⟨S2, hc, h⟩ := g_b1s h
        refine ⟨1, _, (by decide), CX12_tests  hc, ?_⟩
        rintro _ rfl
        cases h; exact ⟨rfl, rfl⟩
      · have h := g_in c h
        obtain ⟨hv3, h⟩ := g_vs h
        refine ⟨hv3, ?_⟩
        refine ⟨fun c => ?_, fun c => ?_⟩
        · have h := g_ip c h
          exact hrec_46 _ _ _ _ _ _  h
        · have h := g_in c h
          refine ⟨fun c => ?_, fun c => ?_⟩
          · have h := g_in c h
            refine ⟨fun c => ?_, fun c => ?_⟩
            · have h := g_ip c h
              exact hrec_89 _ _ _ _ _ _  h
            · have h := g_in c h
              refine ⟨fun c => ?_, fun c => ?_⟩
              · have h := g_in c h
                refine ⟨fun c => ?_, fun c => ?_⟩
                · have h := g_in c h
                  refine ⟨fun c => ?_, fun c => ?_⟩
                  · have h := g_ip c h
                    exact hrec_137 _ _ _ _ _ _  h
                  · have h := g_in c h
                    refine ⟨fun c => ?_, fun c => ?_⟩
                    · have h := g_in c h
                      refine ⟨fun c => ?_, fun c => ?_⟩
                      · have h := g_ip c h
                        exact hrec_194 _ _ _ _ _ _  h
                      · have h := g_in c h
                        refine ⟨fun c => ?_, fun c => ?_⟩
                        · have h := g_in c h
                          refine ⟨fun c => ?_, fun c => ?_⟩
                          · have h := g_ip c h
                            refine ⟨fun c => ?_, fun c => ?_⟩
                            · have h := g_ip c h
                              exact hrec_245 _ _ _ _ _ _  h
                            · have h := g_in c h
                              obtain ⟨hv4, h⟩ := g_vs h
                              refine ⟨hv4, ?_⟩
                              exact hrec_245 _ _ _ _ _ _  h
                          · have h := g_in c h
                            exact hrec_245 _ _ _ _ _ _  h
                        · have h := g_ip c h
                          exact hrec_194 _ _ _ _ _ _  h
                    · have h := g_ip c h
                      exact hrec_137 _ _ _ _ _ _  h
                · have h := g_ip c h
                  obtain ⟨hv5, h⟩ := g_vs h
                  refine ⟨hv5, ?_⟩
                  intro S6 eS
                  have h := g_lts eS h
                  exact hrec_14 _ _ _ _ _ _  h
              · have h := g_ip c h
                exact hrec_89 _ _ _ _ _ _  h
          · have h := g_ip c h
            exact hrec_46 _ _ _ _ _ _  h
    · intro S i1 i2 i3 i4 i5 h
      rw [fX12_worked] at h
      have h := g_in (by decide) h
      have h := g_ip rfl h
      unfold bX12_worked_46 at h
      refine zX12_worked_46  ?_
      refine ⟨fun c => ?_, fun c => ?_⟩
      · have h := g_in c h
        obtain ⟨hv1, h⟩ := g_vs h
        refine ⟨hv1, ?_⟩
        intro S2 eS
        have h := g_lts eS h
        obtain ⟨S3, hc, h⟩ := g_b1s h
        refine ⟨0, _, (by decide), CX12_opens  hc, ?_⟩
        rintro _ rfl
        exact hrec_14 _ _ _ _ _ _  h
      · have h := g_ip c h
        obtain ⟨hv4, h⟩ := g_vs h
        refine ⟨hv4, ?_⟩
        intro S5 eS
        have h := g_lts eS h
        obtain ⟨S6, hc, h⟩ := g_b1s h
        refine ⟨0, _, (by decide), CX12_opens  hc, ?_⟩
        rintro _ rfl
        exact hrec_14 _ _ _ _ _ _  h
    · intro S i1 i2 i3 i4 i5 h
      rw [fX12_worked] at h
      have h := g_in (by decide) h
      have h := g_in (by decide) h
      have h := g_ip rfl h
      unfold bX12_worked_89 at h
      refine zX12_worked_89  ?_
      obtain ⟨S1, hc, h⟩ := g_b1s h
      refine ⟨0, _, (by decide), CX12_sums  hc, ?_⟩
      rintro _ rfl
      obtain ⟨hv2, h⟩ := g_vs h
      refine ⟨hv2, ?_⟩
      intro S3 eS
      have h := g_lts eS h
      exact hrec_14 _ _ _ _ _ _  h
    · intro S i1 i2 i3 i4 i5 h
      rw [fX12_worked] at h
      have h := g_in (by decide) h
      have h := g_in (by decide) h
      have h := g_in (by decide) h
      have h := g_ip rfl h
      unfold bX12_worked_137 at h
      refine zX12_worked_137  ?_
      obtain ⟨S1, hc, h⟩ := g_b1s h
      refine ⟨0, _, (by decide), CX12_sums  hc, ?_⟩
      rintro _ rfl
      obtain ⟨hv2, h⟩ := g_vs h
      refine ⟨hv2, ?_⟩
      intro S3 eS
      have h := g_lts eS h
      intro S4 eS
      have h := g_lts eS h
      intro S5 eS
      have h := g_lts eS h
      intro S6 eS
      have h := g_lts eS h
      exact hrec_14 _ _ _ _ _ _  h
    · intro S i1 i2 i3 i4 i5 h
      rw [fX12_worked] at h
      have h := g_in (by decide) h
      have h := g_in (by decide) h
      have h := g_in (by decide) h
      have h := g_in (by decide) h
      have h := g_ip rfl h
      unfold bX12_worked_194 at h
      refine zX12_worked_194  ?_
      obtain ⟨S1, hc, h⟩ := g_b1s h
      refine ⟨1, _, (by decide), CX12_tests  hc, ?_⟩
      rintro _ rfl
      obtain ⟨hv2, h⟩ := g_vs h
      refine ⟨hv2, ?_⟩
      intro S3 eS
      have h := g_lts eS h
      exact hrec_14 _ _ _ _ _ _  h
    · intro S i1 i2 i3 i4 i5 h
      rw [fX12_worked] at h
      have h := g_in (by decide) h
      have h := g_in (by decide) h
      have h := g_in (by decide) h
      have h := g_in (by decide) h
      have h := g_in (by decide) h
      have h := g_ip rfl h
      unfold bX12_worked_245 at h
      refine zX12_worked_245  ?_
      refine ⟨fun c => ?_, fun c => ?_⟩
      · have h := g_in c h
        exact hrec_268 _ _ _ _ _ _  h
      · have h := g_ip c h
        obtain ⟨S1, hc, h⟩ := g_b1s h
        refine ⟨1, _, (by decide), CX12_tests  hc, ?_⟩
        rintro _ rfl
        obtain ⟨hv2, h⟩ := g_vs h
        refine ⟨hv2, ?_⟩
        exact hrec_268 _ _ _ _ _ _  h
    · intro S i1 i2 i3 i4 i5 h
      rw [fX12_worked] at h
      have h := g_in (by decide) h
      have h := g_in (by decide) h
      have h := g_in (by decide) h
      have h := g_in (by decide) h
      have h := g_in (by decide) h
      have h := g_in (by decide) h
      have h := g_ip rfl h
      unfold bX12_worked_268 at h
      refine zX12_worked_268  ?_
      refine ⟨fun c => ?_, fun c => ?_⟩
      · have h := g_ip c h
        exact hrec_300 _ _ _ _ _ _  h
      · have h := g_in c h
        obtain ⟨hv1, h⟩ := g_vs h
        refine ⟨hv1, ?_⟩
        refine ⟨fun c => ?_, fun c => ?_⟩
        · have h := g_in c h
          exact hrec_300 _ _ _ _ _ _  h
        · have h := g_ip c h
          refine ⟨fun c => ?_, fun c => ?_⟩
          · have h := g_in c h
            exact hrec_268 _ _ _ _ _ _  h
          · have h := g_ip c h
            exact hrec_268 _ _ _ _ _ _  h
    · intro S i1 i2 i3 i4 i5 h
      rw [fX12_worked] at h
      have h := g_in (by decide) h
      have h := g_in (by decide) h
      have h := g_in (by decide) h
      have h := g_in (by decide) h
      have h := g_in (by decide) h
      have h := g_in (by decide) h
      have h := g_in (by decide) h
      have h := g_ip rfl h
      unfold bX12_worked_300 at h
      refine zX12_worked_300  ?_
      obtain ⟨hv1, h⟩ := g_vs h
      refine ⟨hv1, ?_⟩
      refine ⟨fun c => ?_, fun c => ?_⟩
      · have h := g_in c h
        intro S2 eS
        have h := g_lts eS h
        exact hrec_14 _ _ _ _ _ _  h
      · have h := g_ip c h
        intro S3 eS
        have h := g_lts eS h
        exact hrec_14 _ _ _ _ _ _  h
theorem CX12_worked {n : Nat} {S : gS} {R : gS × Int32} {i1 : Int32}  (h : FX12_worked S i1 = some R) : sCi 2 mX12_worked n S [.ref (180), .int (i1)] (fun S2 x2 => S2 = R.1 ∧ x2 = R.2) := by
  unfold FX12_worked at h
  refine gCj_of (by decide) (Nat.le_of_ble_eq_true rfl) rfl rfl (zX12_worked_0  ?_)
  obtain ⟨S1, hc, h⟩ := g_b1s h
  refine ⟨0, _, (by decide), CX12_opens  hc, ?_⟩
  rintro _ rfl
  obtain ⟨hv2, h⟩ := g_vs h
  refine ⟨hv2, ?_⟩
  exact (lX12_worked FU).1 _ _ _ _ _ _  h

noncomputable def FX12_isKept (S : gS)  : Option (gS × Bool) := if (sI S (180) 6) = (1 : Int32) then (if (lg_cmp (sJ S (180) 7) (7219835 : Int64)) = 0 then (some (S, true)) else (if (lg_cmp (sJ S (180) 7) (164222 : Int64)) = 0 then (some (S, true)) else (if (lg_cmp (sJ S (180) 7) (10656676 : Int64)) = 0 then (some (S, true)) else (if (lg_cmp (sJ S (180) 7) (4555648 : Int64)) = 0 then (some (S, true)) else (if (lg_cmp (sJ S (180) 7) (112011003 : Int64)) = 0 then (some (S, true)) else (if (lg_cmp (sJ S (180) 7) (175252482 : Int64)) = 0 then (some (S, true)) else (if (lg_cmp (sJ S (180) 7) (411 : Int64)) = 0 then (some (S, true)) else (if (lg_cmp (sJ S (180) 7) (355280 : Int64)) = 0 then (some (S, true)) else (if (lg_cmp (sJ S (180) 7) (281024524 : Int64)) = 0 then (some (S, true)) else (if (lg_cmp (sJ S (180) 7) (191610176 : Int64)) = 0 then (some (S, true)) else (if (lg_cmp (sJ S (180) 7) (326448 : Int64)) = 0 then (some (S, true)) else (if (lg_cmp (sJ S (180) 7) (388978 : Int64)) = 0 then (some (S, true)) else (if (lg_cmp (sJ S (180) 7) (1834209 : Int64)) = 0 then (some (S, true)) else (if (lg_cmp (sJ S (180) 7) (8740238 : Int64)) = 0 then (some (S, true)) else (if (lg_cmp (sJ S (180) 7) (459383 : Int64)) = 0 then (some (S, true)) else (if (lg_cmp (sJ S (180) 7) (383153 : Int64)) = 0 then (some (S, true)) else (if (lg_cmp (sJ S (180) 7) (279740 : Int64)) = 0 then (some (S, true)) else (if (lg_cmp (sJ S (180) 7) (10631 : Int64)) = 0 then (some (S, true)) else (if (lg_cmp (sJ S (180) 7) (1111 : Int64)) = 0 then (some (S, true)) else (if (lg_cmp (sJ S (180) 7) (423 : Int64)) = 0 then (some (S, true)) else (some (S, false)))))))))))))))))))))) else (some (S, true))
theorem CX12_isKept {n : Nat} {S : gS} {R : gS × Bool}   (h : FX12_isKept S  = some R) : sCz 0 mX12_isKept n S [.ref (180)] (fun S2 x2 => S2 = R.1 ∧ x2 = R.2) := by
  unfold FX12_isKept at h
  refine gCz_of (by decide) (Nat.le_of_ble_eq_true rfl) rfl rfl (zX12_isKept_0  ?_)
  refine ⟨fun c => ?_, fun c => ?_⟩
  · have h := g_ip c h
    refine ⟨fun c => ?_, fun c => ?_⟩
    · have h := g_ip c h
      cases h; exact ⟨rfl, rfl⟩
    · have h := g_in c h
      refine ⟨fun c => ?_, fun c => ?_⟩
      · have h := g_ip c h
        cases h; exact ⟨rfl, rfl⟩
      · have h := g_in c h
        refine ⟨fun c => ?_, fun c => ?_⟩
        · have h := g_ip c h
          cases h; exact ⟨rfl, rfl⟩
        · have h := g_in c h
          refine ⟨fun c => ?_, fun c => ?_⟩
          · have h := g_ip c h
            cases h; exact ⟨rfl, rfl⟩
          · have h := g_in c h
            refine ⟨fun c => ?_, fun c => ?_⟩
            · have h := g_ip c h
              cases h; exact ⟨rfl, rfl⟩
            · have h := g_in c h
              refine ⟨fun c => ?_, fun c => ?_⟩
              · have h := g_ip c h
                cases h; exact ⟨rfl, rfl⟩
              · have h := g_in c h
                refine ⟨fun c => ?_, fun c => ?_⟩
                · have h := g_ip c h
                  cases h; exact ⟨rfl, rfl⟩
                · have h := g_in c h
                  refine ⟨fun c => ?_, fun c => ?_⟩
                  · have h := g_ip c h
                    cases h; exact ⟨rfl, rfl⟩
                  · have h := g_in c h
                    refine ⟨fun c => ?_, fun c => ?_⟩
                    · have h := g_ip c h
                      cases h; exact ⟨rfl, rfl⟩
                    · have h := g_in c h
                      refine ⟨fun c => ?_, fun c => ?_⟩
                      · have h := g_ip c h
                        cases h; exact ⟨rfl, rfl⟩
                      · have h := g_in c h
                        refine ⟨fun c => ?_, fun c => ?_⟩
                        · have h := g_ip c h
                          cases h; exact ⟨rfl, rfl⟩
                        · have h := g_in c h
                          refine ⟨fun c => ?_, fun c => ?_⟩
                          · have h := g_ip c h
                            cases h; exact ⟨rfl, rfl⟩
                          · have h := g_in c h
                            refine ⟨fun c => ?_, fun c => ?_⟩
                            · have h := g_ip c h
                              cases h; exact ⟨rfl, rfl⟩
                            · have h := g_in c h
                              refine ⟨fun c => ?_, fun c => ?_⟩
                              · have h := g_ip c h
                                cases h; exact ⟨rfl, rfl⟩
                              · have h := g_in c h
                                refine ⟨fun c => ?_, fun c => ?_⟩
                                · have h := g_ip c h
                                  cases h; exact ⟨rfl, rfl⟩
                                · have h := g_in c h
                                  refine ⟨fun c => ?_, fun c => ?_⟩
                                  · have h := g_ip c h
                                    cases h; exact ⟨rfl, rfl⟩
                                  · have h := g_in c h
                                    refine ⟨fun c => ?_, fun c => ?_⟩
                                    · have h := g_ip c h
                                      cases h; exact ⟨rfl, rfl⟩
                                    · have h := g_in c h
                                      refine ⟨fun c => ?_, fun c => ?_⟩
                                      · have h := g_ip c h
                                        cases h; exact ⟨rfl, rfl⟩
                                      · have h := g_in c h
                                        refine ⟨fun c => ?_, fun c => ?_⟩
                                        · have h := g_ip c h
                                          cases h; exact ⟨rfl, rfl⟩
                                        · have h := g_in c h
                                          refine ⟨fun c => ?_, fun c => ?_⟩
                                          · have h := g_in c h
                                            cases h; exact ⟨rfl, rfl⟩
                                          · have h := g_ip c h
                                            cases h; exact ⟨rfl, rfl⟩
  · have h := g_in c h
    cases h; exact ⟨rfl, rfl⟩

noncomputable def bX12_mouthNamed_5  (rec : Nat → gS → Int32 → Int32 → Option (gS × Int32)) (S : gS) (i1 : Int32) (i2 : Int32) : Option (gS × Int32) := if g_vp ((((3 : Int32) * i1) + (0 : Int32))) 6 = true then (if (((7 : Int32) * i1) + (sR S (182) (Int32.toNatClampNeg ((((3 : Int32) * i1) + (0 : Int32)))))) ≤ i2 then (some (S, (-1 : Int32))) else (if g_vp (i2) 14 = true then (if (lg_cmp (sL S (183) (Int32.toNatClampNeg (i2))) (sJ S (180) 7)) = 0 then (some (S, (i2 - ((7 : Int32) * i1)))) else (rec 5 S (i1) ((i2 + 1)))) else none)) else none
noncomputable def fX12_mouthNamed  : Nat → Nat → gS → Int32 → Int32 → Option (gS × Int32)
  | 0 => fun _ _ _ _ => none
  | k + 1 => fun pc S i1 i2 => if pc = 5 then bX12_mouthNamed_5  (fX12_mouthNamed  k) S i1 i2 else none
noncomputable def FX12_mouthNamed (S : gS) (i1 : Int32) : Option (gS × Int32) := fX12_mouthNamed  FU 5 S (i1) (((7 : Int32) * i1))
set_option maxRecDepth 100000 in
theorem lX12_mouthNamed  {n : Nat} {R : gS × Int32} : ∀ k : Nat, (∀ (S : gS) (i1 : Int32) (i2 : Int32) , fX12_mouthNamed  k 5 S i1 i2 = some R → gG 0 mX12_mouthNamed 0 0 (g_Xj mX12_mouthNamed n 0 0 (hPi (fun S2 x2 => S2 = R.1 ∧ x2 = R.2))) 5 n (hH S) [some (.ref (180)), some (.int (i1)), some (.int (i2))] [] 0 0) := by
  intro k
  induction k with
  | zero => exact fun _ _ _ h => (by cases h)
  | succ k ih =>
    have hrec_5 := ih
    · intro S i1 i2 h
      rw [fX12_mouthNamed] at h
      have h := g_ip rfl h
      unfold bX12_mouthNamed_5 at h
      refine zX12_mouthNamed_5  ?_
      obtain ⟨hv1, h⟩ := g_vs h
      refine ⟨hv1, ?_⟩
      refine ⟨fun c => ?_, fun c => ?_⟩
      · have h := g_ip c h
        cases h; exact ⟨rfl, rfl⟩
      · have h := g_in c h
        obtain ⟨hv2, h⟩ := g_vs h
        refine ⟨hv2, ?_⟩
        refine ⟨fun c => ?_, fun c => ?_⟩
        · have h := g_in c h
          exact hrec_5 _ _ _  h
        · have h := g_ip c h
          cases h; exact ⟨rfl, rfl⟩
theorem CX12_mouthNamed {n : Nat} {S : gS} {R : gS × Int32} {i1 : Int32}  (h : FX12_mouthNamed S i1 = some R) : sCi 0 mX12_mouthNamed n S [.ref (180), .int (i1)] (fun S2 x2 => S2 = R.1 ∧ x2 = R.2) := by
  unfold FX12_mouthNamed at h
  refine gCj_of (by decide) (Nat.le_of_ble_eq_true rfl) rfl rfl (zX12_mouthNamed_0  ?_)
  exact (lX12_mouthNamed FU) _ _ _  h

noncomputable def bX12_letterNamed_5  (rec : Nat → gS → Int32 → Int32 → Option (gS × Int32)) (S : gS) (i1 : Int32) (i2 : Int32) : Option (gS × Int32) := if g_vp ((((3 : Int32) * i1) + (1 : Int32))) 6 = true then (if (((6 : Int32) * i1) + (sR S (182) (Int32.toNatClampNeg ((((3 : Int32) * i1) + (1 : Int32)))))) ≤ i2 then (some (S, (-1 : Int32))) else (if g_vp (i2) 12 = true then (if (lg_cmp (sL S (184) (Int32.toNatClampNeg (i2))) (sJ S (180) 7)) = 0 then (some (S, (i2 - ((6 : Int32) * i1)))) else (rec 5 S (i1) ((i2 + 1)))) else none)) else none
noncomputable def fX12_letterNamed  : Nat → Nat → gS → Int32 → Int32 → Option (gS × Int32)
  | 0 => fun _ _ _ _ => none
  | k + 1 => fun pc S i1 i2 => if pc = 5 then bX12_letterNamed_5  (fX12_letterNamed  k) S i1 i2 else none
noncomputable def FX12_letterNamed (S : gS) (i1 : Int32) : Option (gS × Int32) := fX12_letterNamed  FU 5 S (i1) (((6 : Int32) * i1))
set_option maxRecDepth 100000 in
theorem lX12_letterNamed  {n : Nat} {R : gS × Int32} : ∀ k : Nat, (∀ (S : gS) (i1 : Int32) (i2 : Int32) , fX12_letterNamed  k 5 S i1 i2 = some R → gG 0 mX12_letterNamed 0 0 (g_Xj mX12_letterNamed n 0 0 (hPi (fun S2 x2 => S2 = R.1 ∧ x2 = R.2))) 5 n (hH S) [some (.ref (180)), some (.int (i1)), some (.int (i2))] [] 0 0) := by
  intro k
  induction k with
  | zero => exact fun _ _ _ h => (by cases h)
  | succ k ih =>
    have hrec_5 := ih
    · intro S i1 i2 h
      rw [fX12_letterNamed] at h
      have h := g_ip rfl h
      unfold bX12_letterNamed_5 at h
      refine zX12_letterNamed_5  ?_
      obtain ⟨hv1, h⟩ := g_vs h
      refine ⟨hv1, ?_⟩
      refine ⟨fun c => ?_, fun c => ?_⟩
      · have h := g_ip c h
        cases h; exact ⟨rfl, rfl⟩
      · have h := g_in c h
        obtain ⟨hv2, h⟩ := g_vs h
        refine ⟨hv2, ?_⟩
        refine ⟨fun c => ?_, fun c => ?_⟩
        · have h := g_in c h
          exact hrec_5 _ _ _  h
        · have h := g_ip c h
          cases h; exact ⟨rfl, rfl⟩
theorem CX12_letterNamed {n : Nat} {S : gS} {R : gS × Int32} {i1 : Int32}  (h : FX12_letterNamed S i1 = some R) : sCi 0 mX12_letterNamed n S [.ref (180), .int (i1)] (fun S2 x2 => S2 = R.1 ∧ x2 = R.2) := by
  unfold FX12_letterNamed at h
  refine gCj_of (by decide) (Nat.le_of_ble_eq_true rfl) rfl rfl (zX12_letterNamed_0  ?_)
  exact (lX12_letterNamed FU) _ _ _  h

noncomputable def FX12_needsNumber (S : gS) (i1 : Int32) (i2 : Int32) : Option (gS × Bool) := if (sI S (180) 6) = (2 : Int32) then (g_b2 (FX12_within S ((sI S (180) 8)) (i1) (i2)) (fun S1 b2 => if b2 = true then (g_lt (uI S1 (180) 36 ((sI S1 (180) 8))) (fun S3 => g_b1 (FX12_nextToken S3 ) (fun S4 => some (S4, true)))) else (g_b2 (FX12_fails S1 ((4 : Int32))) (fun S5 b6 => some (S5, b6))))) else (g_b2 (FX12_fails S ((1 : Int32))) (fun S7 b8 => some (S7, b8)))
theorem CX12_needsNumber {n : Nat} {S : gS} {R : gS × Bool} {i1 : Int32} {i2 : Int32}  (h : FX12_needsNumber S i1 i2 = some R) : sCz 2 mX12_needsNumber n S [.ref (180), .int (i1), .int (i2)] (fun S2 x2 => S2 = R.1 ∧ x2 = R.2) := by
  unfold FX12_needsNumber at h
  refine gCz_of (by decide) (Nat.le_of_ble_eq_true rfl) rfl rfl (zX12_needsNumber_0  ?_)
  refine ⟨fun c => ?_, fun c => ?_⟩
  · have h := g_ip c h
    obtain ⟨S1, b2, hc, h⟩ := g_b2s h
    refine ⟨0, _, (by decide), CX12_within  hc, ?_⟩
    rintro _ _ ⟨rfl, rfl⟩
    refine ⟨fun c => ?_, fun c => ?_⟩
    · have h := g_bt c h
      intro S3 eS
      have h := g_lts eS h
      obtain ⟨S4, hc, h⟩ := g_b1s h
      refine ⟨1, _, (by decide), CX12_nextToken  hc, ?_⟩
      rintro _ rfl
      cases h; exact ⟨rfl, rfl⟩
    · have h := g_bf c h
      obtain ⟨S5, b6, hc, h⟩ := g_b2s h
      refine ⟨0, _, (by decide), CX12_fails  hc, ?_⟩
      rintro _ _ ⟨rfl, rfl⟩
      cases h; exact ⟨rfl, rfl⟩
  · have h := g_in c h
    obtain ⟨S7, b8, hc, h⟩ := g_b2s h
    refine ⟨0, _, (by decide), CX12_fails  hc, ?_⟩
    rintro _ _ ⟨rfl, rfl⟩
    cases h; exact ⟨rfl, rfl⟩

noncomputable def FX12_needsBoth (S : gS) (j1 : Int64) (i3 : Int32) (i4 : Int32) : Option (gS × Bool) := g_b2 (FX12_isWord S (j1)) (fun S1 b2 => if b2 = true then (g_b1 (FX12_nextToken S1 ) (fun S3 => g_b2 (FX12_needsNumber S3 (i3) (i4)) (fun S4 b5 => some (S4, b5)))) else (g_b2 (FX12_fails S1 ((1 : Int32))) (fun S6 b7 => some (S6, b7))))
theorem CX12_needsBoth {n : Nat} {S : gS} {R : gS × Bool} {j1 : Int64} {i3 : Int32} {i4 : Int32}  (h : FX12_needsBoth S j1 i3 i4 = some R) : sCz 3 mX12_needsBoth n S [.ref (180), .long (j1), .int (i3), .int (i4)] (fun S2 x2 => S2 = R.1 ∧ x2 = R.2) := by
  unfold FX12_needsBoth at h
  refine gCz_of (by decide) (Nat.le_of_ble_eq_true rfl) rfl rfl (zX12_needsBoth_0  ?_)
  obtain ⟨S1, b2, hc, h⟩ := g_b2s h
  refine ⟨0, _, (by decide), CX12_isWord  hc, ?_⟩
  rintro _ _ ⟨rfl, rfl⟩
  refine ⟨fun c => ?_, fun c => ?_⟩
  · have h := g_bt c h
    obtain ⟨S3, hc, h⟩ := g_b1s h
    refine ⟨1, _, (by decide), CX12_nextToken  hc, ?_⟩
    rintro _ rfl
    obtain ⟨S4, b5, hc, h⟩ := g_b2s h
    refine ⟨2, _, (by decide), CX12_needsNumber  hc, ?_⟩
    rintro _ _ ⟨rfl, rfl⟩
    cases h; exact ⟨rfl, rfl⟩
  · have h := g_bf c h
    obtain ⟨S6, b7, hc, h⟩ := g_b2s h
    refine ⟨0, _, (by decide), CX12_fails  hc, ?_⟩
    rintro _ _ ⟨rfl, rfl⟩
    cases h; exact ⟨rfl, rfl⟩

noncomputable def FX12_closes (S : gS)  : Option (gS × Bool) := g_b2 (FX12_isSign S ((59 : Int32))) (fun S1 b2 => if b2 = true then (g_b1 (FX12_nextToken S1 ) (fun S3 => some (S3, true))) else (g_b2 (FX12_fails S1 ((1 : Int32))) (fun S4 b5 => some (S4, b5))))
theorem CX12_closes {n : Nat} {S : gS} {R : gS × Bool}   (h : FX12_closes S  = some R) : sCz 2 mX12_closes n S [.ref (180)] (fun S2 x2 => S2 = R.1 ∧ x2 = R.2) := by
  unfold FX12_closes at h
  refine gCz_of (by decide) (Nat.le_of_ble_eq_true rfl) rfl rfl (zX12_closes_0  ?_)
  obtain ⟨S1, b2, hc, h⟩ := g_b2s h
  refine ⟨0, _, (by decide), CX12_isSign  hc, ?_⟩
  rintro _ _ ⟨rfl, rfl⟩
  refine ⟨fun c => ?_, fun c => ?_⟩
  · have h := g_bt c h
    obtain ⟨S3, hc, h⟩ := g_b1s h
    refine ⟨1, _, (by decide), CX12_nextToken  hc, ?_⟩
    rintro _ rfl
    cases h; exact ⟨rfl, rfl⟩
  · have h := g_bf c h
    obtain ⟨S4, b5, hc, h⟩ := g_b2s h
    refine ⟨0, _, (by decide), CX12_fails  hc, ?_⟩
    rintro _ _ ⟨rfl, rfl⟩
    cases h; exact ⟨rfl, rfl⟩

noncomputable def FX12_needsNew (S : gS)  : Option (gS × Bool) := g_b2 (FX12_isKept S ) (fun S1 b2 => if b2 = true then (g_b2 (FX12_fails S1 ((1 : Int32))) (fun S13 b14 => some (S13, b14))) else (g_b2 (FX12_mouthNamed S1 ((1 : Int32))) (fun S3 x4 => if 0 ≤ x4 then (g_b2 (FX12_fails S3 ((3 : Int32))) (fun S5 b6 => some (S5, b6))) else (g_b2 (FX12_letterNamed S3 ((1 : Int32))) (fun S7 x8 => if x8 < 0 then (g_lt (uJ S7 (180) 37 ((sJ S7 (180) 7))) (fun S9 => g_b1 (FX12_nextToken S9 ) (fun S10 => some (S10, true)))) else (g_b2 (FX12_fails S7 ((3 : Int32))) (fun S11 b12 => some (S11, b12))))))))
theorem CX12_needsNew {n : Nat} {S : gS} {R : gS × Bool}   (h : FX12_needsNew S  = some R) : sCz 2 mX12_needsNew n S [.ref (180)] (fun S2 x2 => S2 = R.1 ∧ x2 = R.2) := by
  unfold FX12_needsNew at h
  refine gCz_of (by decide) (Nat.le_of_ble_eq_true rfl) rfl rfl (zX12_needsNew_0  ?_)
  obtain ⟨S1, b2, hc, h⟩ := g_b2s h
  refine ⟨0, _, (by decide), CX12_isKept  hc, ?_⟩
  rintro _ _ ⟨rfl, rfl⟩
  refine ⟨fun c => ?_, fun c => ?_⟩
  · have h := g_bf c h
    obtain ⟨S3, x4, hc, h⟩ := g_b2s h
    refine ⟨0, _, (by decide), CX12_mouthNamed  hc, ?_⟩
    rintro _ _ ⟨rfl, rfl⟩
    refine ⟨fun c => ?_, fun c => ?_⟩
    · have h := g_ip c h
      obtain ⟨S5, b6, hc, h⟩ := g_b2s h
      refine ⟨0, _, (by decide), CX12_fails  hc, ?_⟩
      rintro _ _ ⟨rfl, rfl⟩
      cases h; exact ⟨rfl, rfl⟩
    · have h := g_in c h
      obtain ⟨S7, x8, hc, h⟩ := g_b2s h
      refine ⟨0, _, (by decide), CX12_letterNamed  hc, ?_⟩
      rintro _ _ ⟨rfl, rfl⟩
      refine ⟨fun c => ?_, fun c => ?_⟩
      · have h := g_ip c h
        intro S9 eS
        have h := g_lts eS h
        obtain ⟨S10, hc, h⟩ := g_b1s h
        refine ⟨1, _, (by decide), CX12_nextToken  hc, ?_⟩
        rintro _ rfl
        cases h; exact ⟨rfl, rfl⟩
      · have h := g_in c h
        obtain ⟨S11, b12, hc, h⟩ := g_b2s h
        refine ⟨0, _, (by decide), CX12_fails  hc, ?_⟩
        rintro _ _ ⟨rfl, rfl⟩
        cases h; exact ⟨rfl, rfl⟩
  · have h := g_bt c h
    obtain ⟨S13, b14, hc, h⟩ := g_b2s h
    refine ⟨0, _, (by decide), CX12_fails  hc, ?_⟩
    rintro _ _ ⟨rfl, rfl⟩
    cases h; exact ⟨rfl, rfl⟩

noncomputable def FX12_needsMouth (S : gS) (i1 : Int32) : Option (gS × Bool) := g_b2 (FX12_isKept S ) (fun S1 b2 => if b2 = true then (g_b2 (FX12_fails S1 ((1 : Int32))) (fun S8 b9 => some (S8, b9))) else (g_b2 (FX12_mouthNamed S1 (i1)) (fun S3 x4 => g_lt (uI S3 (180) 36 (x4)) (fun S5 => if 0 ≤ (sI S5 (180) 36) then (some (S5, true)) else (g_b2 (FX12_fails S5 ((2 : Int32))) (fun S6 b7 => if b7 = true then (some (S6, true)) else (some (S6, false))))))))
theorem CX12_needsMouth {n : Nat} {S : gS} {R : gS × Bool} {i1 : Int32}  (h : FX12_needsMouth S i1 = some R) : sCz 1 mX12_needsMouth n S [.ref (180), .int (i1)] (fun S2 x2 => S2 = R.1 ∧ x2 = R.2) := by
  unfold FX12_needsMouth at h
  refine gCz_of (by decide) (Nat.le_of_ble_eq_true rfl) rfl rfl (zX12_needsMouth_0  ?_)
  obtain ⟨S1, b2, hc, h⟩ := g_b2s h
  refine ⟨0, _, (by decide), CX12_isKept  hc, ?_⟩
  rintro _ _ ⟨rfl, rfl⟩
  refine ⟨fun c => ?_, fun c => ?_⟩
  · have h := g_bf c h
    obtain ⟨S3, x4, hc, h⟩ := g_b2s h
    refine ⟨0, _, (by decide), CX12_mouthNamed  hc, ?_⟩
    rintro _ _ ⟨rfl, rfl⟩
    intro S5 eS
    have h := g_lts eS h
    refine ⟨fun c => ?_, fun c => ?_⟩
    · have h := g_ip c h
      cases h; exact ⟨rfl, rfl⟩
    · have h := g_in c h
      obtain ⟨S6, b7, hc, h⟩ := g_b2s h
      refine ⟨0, _, (by decide), CX12_fails  hc, ?_⟩
      rintro _ _ ⟨rfl, rfl⟩
      refine ⟨fun c => ?_, fun c => ?_⟩
      · have h := g_bf c h
        cases h; exact ⟨rfl, rfl⟩
      · have h := g_bt c h
        cases h; exact ⟨rfl, rfl⟩
  · have h := g_bt c h
    obtain ⟨S8, b9, hc, h⟩ := g_b2s h
    refine ⟨0, _, (by decide), CX12_fails  hc, ?_⟩
    rintro _ _ ⟨rfl, rfl⟩
    cases h; exact ⟨rfl, rfl⟩

noncomputable def bX12_readsMouth_98  (rec : Nat → gS → Int32 → Option (gS × Bool)) (S : gS) (i1 : Int32) : Option (gS × Bool) := if g_vp (i1) 14 = true then (if 0 ≤ (sR S (185) (Int32.toNatClampNeg (i1))) then (g_b1 (FX12_nextToken S ) (fun S2 => g_b2 (FX12_needsBoth S2 ((164222 : Int64)) ((1 : Int32)) ((20 : Int32))) (fun S3 b4 => if b4 = true then (g_lt (uR S3 (186) (Int32.toNatClampNeg (i1)) ((sI S3 (180) 36))) (fun S5 => g_b2 (FX12_needsBoth S5 ((10656676 : Int64)) ((0 : Int32)) ((9 : Int32))) (fun S6 b7 => if b7 = true then (g_lt (uR S6 (187) (Int32.toNatClampNeg (i1)) ((sI S6 (180) 36))) (fun S8 => g_b2 (FX12_needsBoth S8 ((4555648 : Int64)) ((0 : Int32)) ((40 : Int32))) (fun S9 b10 => if b10 = true then (g_lt (uR S9 (188) (Int32.toNatClampNeg (i1)) ((sI S9 (180) 36))) (fun S11 => g_lt (uR S11 (189) (Int32.toNatClampNeg (i1)) ((-1 : Int32))) (fun S12 => g_lt (uL S12 (183) (Int32.toNatClampNeg (i1)) ((sJ S12 (180) 37))) (fun S13 => g_lt (uR S13 (182) (3) (((sR S13 (182) (3)) + (1 : Int32)))) (fun S14 => g_b2 (FX12_closes S14 ) (fun S15 b16 => some (S15, b16))))))) else (some (S9, false))))) else (some (S6, false))))) else (some (S3, false))))) else (g_b2 (FX12_fails S ((1 : Int32))) (fun S17 b18 => some (S17, b18)))) else none
noncomputable def fX12_readsMouth  : Nat → Nat → gS → Int32 → Option (gS × Bool)
  | 0 => fun _ _ _ => none
  | k + 1 => fun pc S i1 => if pc = 98 then bX12_readsMouth_98  (fX12_readsMouth  k) S i1 else none
noncomputable def FX12_readsMouth (S : gS)  : Option (gS × Bool) := if ((7 : Int32) + (sR S (182) (3))) = (14 : Int32) then (g_b2 (FX12_fails S ((5 : Int32))) (fun S22 b23 => some (S22, b23))) else (g_b1 (FX12_nextToken S ) (fun S1 => g_b2 (FX12_needsNew S1 ) (fun S2 b3 => if b3 = true then (g_b2 (FX12_isWord S2 ((8740238 : Int64))) (fun S4 b5 => if b5 = true then (if g_vp (((7 : Int32) + (sR S (182) (3)))) 14 = true then (g_lt (uR S4 (185) (Int32.toNatClampNeg (((7 : Int32) + (sR S (182) (3))))) ((0 : Int32))) (fun S21 => fX12_readsMouth  FU 98 S21 (((7 : Int32) + (sR S (182) (3)))))) else none) else (g_b2 (FX12_isWord S4 ((459383 : Int64))) (fun S6 b7 => if b7 = true then (if g_vp (((7 : Int32) + (sR S (182) (3)))) 14 = true then (g_lt (uR S6 (185) (Int32.toNatClampNeg (((7 : Int32) + (sR S (182) (3))))) ((1 : Int32))) (fun S19 => fX12_readsMouth  FU 98 S19 (((7 : Int32) + (sR S (182) (3)))))) else none) else (g_b2 (FX12_isWord S6 ((383153 : Int64))) (fun S8 b9 => if b9 = true then (if g_vp (((7 : Int32) + (sR S (182) (3)))) 14 = true then (g_lt (uR S8 (185) (Int32.toNatClampNeg (((7 : Int32) + (sR S (182) (3))))) ((2 : Int32))) (fun S17 => fX12_readsMouth  FU 98 S17 (((7 : Int32) + (sR S (182) (3)))))) else none) else (g_b2 (FX12_isWord S8 ((279740 : Int64))) (fun S10 b11 => if b11 = true then (if g_vp (((7 : Int32) + (sR S (182) (3)))) 14 = true then (g_lt (uR S10 (185) (Int32.toNatClampNeg (((7 : Int32) + (sR S (182) (3))))) ((3 : Int32))) (fun S15 => fX12_readsMouth  FU 98 S15 (((7 : Int32) + (sR S (182) (3)))))) else none) else (if g_vp (((7 : Int32) + (sR S (182) (3)))) 14 = true then (g_lt (uR S10 (185) (Int32.toNatClampNeg (((7 : Int32) + (sR S (182) (3))))) ((-1 : Int32))) (fun S13 => fX12_readsMouth  FU 98 S13 (((7 : Int32) + (sR S (182) (3)))))) else none))))))))) else (some (S2, false)))))
set_option maxRecDepth 100000 in
theorem lX12_readsMouth  {n : Nat} {R : gS × Bool} : ∀ k : Nat, (∀ (S : gS) (i1 : Int32) , fX12_readsMouth  k 98 S i1 = some R → gG 4 mX12_readsMouth 0 0 (g_Xz mX12_readsMouth n 0 0 (hPz (fun S2 x2 => S2 = R.1 ∧ x2 = R.2))) 98 n (hH S) [some (.ref (180)), some (.int (i1))] [] 0 0) := by
  intro k
  induction k with
  | zero => exact fun _ _ h => (by cases h)
  | succ k ih =>
    have hrec_98 := ih
    · intro S i1 h
      rw [fX12_readsMouth] at h
      have h := g_ip rfl h
      unfold bX12_readsMouth_98 at h
      refine zX12_readsMouth_98  ?_
      obtain ⟨hv1, h⟩ := g_vs h
      refine ⟨hv1, ?_⟩
      refine ⟨fun c => ?_, fun c => ?_⟩
      · have h := g_ip c h
        obtain ⟨S2, hc, h⟩ := g_b1s h
        refine ⟨1, _, (by decide), CX12_nextToken  hc, ?_⟩
        rintro _ rfl
        obtain ⟨S3, b4, hc, h⟩ := g_b2s h
        refine ⟨3, _, (by decide), CX12_needsBoth  hc, ?_⟩
        rintro _ _ ⟨rfl, rfl⟩
        refine ⟨fun c => ?_, fun c => ?_⟩
        · have h := g_bt c h
          intro S5 eS
          have h := g_lts eS h
          obtain ⟨S6, b7, hc, h⟩ := g_b2s h
          refine ⟨3, _, (by decide), CX12_needsBoth  hc, ?_⟩
          rintro _ _ ⟨rfl, rfl⟩
          refine ⟨fun c => ?_, fun c => ?_⟩
          · have h := g_bt c h
            intro S8 eS
            have h := g_lts eS h
            obtain ⟨S9, b10, hc, h⟩ := g_b2s h
            refine ⟨3, _, (by decide), CX12_needsBoth  hc, ?_⟩
            rintro _ _ ⟨rfl, rfl⟩
            refine ⟨fun c => ?_, fun c => ?_⟩
            · have h := g_bt c h
              intro S11 eS
              have h := g_lts eS h
              intro S12 eS
              have h := g_lts eS h
              intro S13 eS
              have h := g_lts eS h
              intro S14 eS
              have h := g_lts eS h
              obtain ⟨S15, b16, hc, h⟩ := g_b2s h
              refine ⟨2, _, (by decide), CX12_closes  hc, ?_⟩
              rintro _ _ ⟨rfl, rfl⟩
              cases h; exact ⟨rfl, rfl⟩
            · have h := g_bf c h
              cases h; exact ⟨rfl, rfl⟩
          · have h := g_bf c h
            cases h; exact ⟨rfl, rfl⟩
        · have h := g_bf c h
          cases h; exact ⟨rfl, rfl⟩
      · have h := g_in c h
        obtain ⟨S17, b18, hc, h⟩ := g_b2s h
        refine ⟨0, _, (by decide), CX12_fails  hc, ?_⟩
        rintro _ _ ⟨rfl, rfl⟩
        cases h; exact ⟨rfl, rfl⟩
theorem CX12_readsMouth {n : Nat} {S : gS} {R : gS × Bool}   (h : FX12_readsMouth S  = some R) : sCz 4 mX12_readsMouth n S [.ref (180)] (fun S2 x2 => S2 = R.1 ∧ x2 = R.2) := by
  unfold FX12_readsMouth at h
  refine gCz_of (by decide) (Nat.le_of_ble_eq_true rfl) rfl rfl (zX12_readsMouth_0  ?_)
  refine ⟨fun c => ?_, fun c => ?_⟩
  · have h := g_in c h
    obtain ⟨S1, hc, h⟩ := g_b1s h
    refine ⟨1, _, (by decide), CX12_nextToken  hc, ?_⟩
    rintro _ rfl
    obtain ⟨S2, b3, hc, h⟩ := g_b2s h
    refine ⟨2, _, (by decide), CX12_needsNew  hc, ?_⟩
    rintro _ _ ⟨rfl, rfl⟩
    refine ⟨fun c => ?_, fun c => ?_⟩
    · have h := g_bt c h
      obtain ⟨S4, b5, hc, h⟩ := g_b2s h
      refine ⟨0, _, (by decide), CX12_isWord  hc, ?_⟩
      rintro _ _ ⟨rfl, rfl⟩
      refine ⟨fun c => ?_, fun c => ?_⟩
      · have h := g_bf c h
        obtain ⟨S6, b7, hc, h⟩ := g_b2s h
        refine ⟨0, _, (by decide), CX12_isWord  hc, ?_⟩
        rintro _ _ ⟨rfl, rfl⟩
        refine ⟨fun c => ?_, fun c => ?_⟩
        · have h := g_bf c h
          obtain ⟨S8, b9, hc, h⟩ := g_b2s h
          refine ⟨0, _, (by decide), CX12_isWord  hc, ?_⟩
          rintro _ _ ⟨rfl, rfl⟩
          refine ⟨fun c => ?_, fun c => ?_⟩
          · have h := g_bf c h
            obtain ⟨S10, b11, hc, h⟩ := g_b2s h
            refine ⟨0, _, (by decide), CX12_isWord  hc, ?_⟩
            rintro _ _ ⟨rfl, rfl⟩
            refine ⟨fun c => ?_, fun c => ?_⟩
            · have h := g_bf c h
              obtain ⟨hv12, h⟩ := g_vs h
              refine ⟨hv12, ?_⟩
              intro S13 eS
              have h := g_lts eS h
              exact (lX12_readsMouth FU) _ _  h
            · have h := g_bt c h
              obtain ⟨hv14, h⟩ := g_vs h
              refine ⟨hv14, ?_⟩
              intro S15 eS
              have h := g_lts eS h
              exact (lX12_readsMouth FU) _ _  h
          · have h := g_bt c h
            obtain ⟨hv16, h⟩ := g_vs h
            refine ⟨hv16, ?_⟩
            intro S17 eS
            have h := g_lts eS h
            exact (lX12_readsMouth FU) _ _  h
        · have h := g_bt c h
          obtain ⟨hv18, h⟩ := g_vs h
          refine ⟨hv18, ?_⟩
          intro S19 eS
          have h := g_lts eS h
          exact (lX12_readsMouth FU) _ _  h
      · have h := g_bt c h
        obtain ⟨hv20, h⟩ := g_vs h
        refine ⟨hv20, ?_⟩
        intro S21 eS
        have h := g_lts eS h
        exact (lX12_readsMouth FU) _ _  h
    · have h := g_bf c h
      cases h; exact ⟨rfl, rfl⟩
  · have h := g_ip c h
    obtain ⟨S22, b23, hc, h⟩ := g_b2s h
    refine ⟨0, _, (by decide), CX12_fails  hc, ?_⟩
    rintro _ _ ⟨rfl, rfl⟩
    cases h; exact ⟨rfl, rfl⟩

noncomputable def FX12_readsGutter (S : gS)  : Option (gS × Bool) := g_b1 (FX12_nextToken S ) (fun S1 => g_b2 (FX12_needsMouth S1 ((1 : Int32))) (fun S2 b3 => if b3 = true then (if g_vp (((7 : Int32) + (sI S2 (180) 36))) 14 = true then (if (sR S2 (189) (Int32.toNatClampNeg (((7 : Int32) + (sI S2 (180) 36))))) < 0 then (g_b1 (FX12_nextToken S2 ) (fun S5 => g_b2 (FX12_needsMouth S5 ((1 : Int32))) (fun S6 b7 => if b7 = true then (if g_vp (((7 : Int32) + (sI S6 (180) 36))) 14 = true then (if (sR S6 (186) (Int32.toNatClampNeg (((7 : Int32) + (sI S6 (180) 36))))) < (sR S6 (186) (Int32.toNatClampNeg (((7 : Int32) + (sI S2 (180) 36))))) then (g_lt (uR S6 (189) (Int32.toNatClampNeg (((7 : Int32) + (sI S2 (180) 36)))) ((sI S6 (180) 36))) (fun S9 => g_b1 (FX12_nextToken S9 ) (fun S10 => g_b2 (FX12_closes S10 ) (fun S11 b12 => some (S11, b12))))) else (g_b2 (FX12_fails S6 ((3 : Int32))) (fun S13 b14 => some (S13, b14)))) else none) else (some (S6, false))))) else (g_b2 (FX12_fails S2 ((3 : Int32))) (fun S15 b16 => some (S15, b16)))) else none) else (some (S2, false))))
theorem CX12_readsGutter {n : Nat} {S : gS} {R : gS × Bool}   (h : FX12_readsGutter S  = some R) : sCz 3 mX12_readsGutter n S [.ref (180)] (fun S2 x2 => S2 = R.1 ∧ x2 = R.2) := by
  unfold FX12_readsGutter at h
  refine gCz_of (by decide) (Nat.le_of_ble_eq_true rfl) rfl rfl (zX12_readsGutter_0  ?_)
  obtain ⟨S1, hc, h⟩ := g_b1s h
  refine ⟨1, _, (by decide), CX12_nextToken  hc, ?_⟩
  rintro _ rfl
  obtain ⟨S2, b3, hc, h⟩ := g_b2s h
  refine ⟨1, _, (by decide), CX12_needsMouth  hc, ?_⟩
  rintro _ _ ⟨rfl, rfl⟩
  refine ⟨fun c => ?_, fun c => ?_⟩
  · have h := g_bt c h
    obtain ⟨hv4, h⟩ := g_vs h
    refine ⟨hv4, ?_⟩
    refine ⟨fun c => ?_, fun c => ?_⟩
    · have h := g_ip c h
      obtain ⟨S5, hc, h⟩ := g_b1s h
      refine ⟨1, _, (by decide), CX12_nextToken  hc, ?_⟩
      rintro _ rfl
      obtain ⟨S6, b7, hc, h⟩ := g_b2s h
      refine ⟨1, _, (by decide), CX12_needsMouth  hc, ?_⟩
      rintro _ _ ⟨rfl, rfl⟩
      refine ⟨fun c => ?_, fun c => ?_⟩
      · have h := g_bt c h
        obtain ⟨hv8, h⟩ := g_vs h
        refine ⟨hv8, ?_⟩
        refine ⟨fun c => ?_, fun c => ?_⟩
        · have h := g_ip c h
          intro S9 eS
          have h := g_lts eS h
          obtain ⟨S10, hc, h⟩ := g_b1s h
          refine ⟨1, _, (by decide), CX12_nextToken  hc, ?_⟩
          rintro _ rfl
          obtain ⟨S11, b12, hc, h⟩ := g_b2s h
          refine ⟨2, _, (by decide), CX12_closes  hc, ?_⟩
          rintro _ _ ⟨rfl, rfl⟩
          cases h; exact ⟨rfl, rfl⟩
        · have h := g_in c h
          obtain ⟨S13, b14, hc, h⟩ := g_b2s h
          refine ⟨0, _, (by decide), CX12_fails  hc, ?_⟩
          rintro _ _ ⟨rfl, rfl⟩
          cases h; exact ⟨rfl, rfl⟩
      · have h := g_bf c h
        cases h; exact ⟨rfl, rfl⟩
    · have h := g_in c h
      obtain ⟨S15, b16, hc, h⟩ := g_b2s h
      refine ⟨0, _, (by decide), CX12_fails  hc, ?_⟩
      rintro _ _ ⟨rfl, rfl⟩
      cases h; exact ⟨rfl, rfl⟩
  · have h := g_bf c h
    cases h; exact ⟨rfl, rfl⟩

noncomputable def bX12_readsLetter_57  (rec : Nat → gS → Int32 → Int32 → Int32 → Option (gS × Bool)) (S : gS) (i1 : Int32) (i2 : Int32) (i3 : Int32) : Option (gS × Bool) := if i2 = 0 then (rec 70 S (i1) (i2) 0) else (g_b2 (FX12_isSign S ((59 : Int32))) (fun S1 b2 => if b2 = true then (rec 117 S1 (i1) (i2) ((6 : Int32))) else (rec 70 S1 (i1) (i2) 0)))
noncomputable def bX12_readsLetter_70  (rec : Nat → gS → Int32 → Int32 → Int32 → Option (gS × Bool)) (S : gS) (i1 : Int32) (i2 : Int32) (i3 : Int32) : Option (gS × Bool) := g_b2 (FX12_needsMouth S ((1 : Int32))) (fun S1 b2 => if b2 = true then (if ((i2 >>> ((sI S1 (180) 36) &&& 31)) &&& (1 : Int32)) = (1 : Int32) then (g_b2 (FX12_fails S1 ((3 : Int32))) (fun S4 b5 => some (S4, b5))) else (g_b1 (FX12_nextToken S1 ) (fun S3 => rec 57 S3 (i1) ((i2 ||| ((1 : Int32) <<< ((sI S1 (180) 36) &&& 31)))) 0))) else (some (S1, false)))
noncomputable def bX12_readsLetter_117  (rec : Nat → gS → Int32 → Int32 → Int32 → Option (gS × Bool)) (S : gS) (i1 : Int32) (i2 : Int32) (i3 : Int32) : Option (gS × Bool) := if i1 ≤ i3 then (if g_vp (i1) 12 = true then (g_lt (uR S (190) (Int32.toNatClampNeg (i1)) (i2)) (fun S2 => g_lt (uL S2 (184) (Int32.toNatClampNeg (i1)) ((sJ S2 (180) 37))) (fun S3 => g_lt (uR S3 (182) (4) (((sR S3 (182) (4)) + (1 : Int32)))) (fun S4 => g_b2 (FX12_closes S4 ) (fun S5 b6 => some (S5, b6)))))) else none) else (if g_vp (i3) 12 = true then (if (sR S (190) (Int32.toNatClampNeg (i3))) = i2 then (g_b2 (FX12_fails S ((3 : Int32))) (fun S8 b9 => some (S8, b9))) else (rec 117 S (i1) (i2) ((i3 + 1)))) else none)
noncomputable def fX12_readsLetter  : Nat → Nat → gS → Int32 → Int32 → Int32 → Option (gS × Bool)
  | 0 => fun _ _ _ _ _ => none
  | k + 1 => fun pc S i1 i2 i3 => if pc = 57 then bX12_readsLetter_57  (fX12_readsLetter  k) S i1 i2 i3 else if pc = 70 then bX12_readsLetter_70  (fX12_readsLetter  k) S i1 i2 i3 else if pc = 117 then bX12_readsLetter_117  (fX12_readsLetter  k) S i1 i2 i3 else none
noncomputable def FX12_readsLetter (S : gS)  : Option (gS × Bool) := if ((6 : Int32) + (sR S (182) (4))) = (12 : Int32) then (g_b2 (FX12_fails S ((5 : Int32))) (fun S9 b10 => some (S9, b10))) else (g_b1 (FX12_nextToken S ) (fun S1 => g_b2 (FX12_needsNew S1 ) (fun S2 b3 => if b3 = true then (g_b2 (FX12_isWord S2 ((411 : Int64))) (fun S4 b5 => if b5 = true then (g_b1 (FX12_nextToken S4 ) (fun S6 => fX12_readsLetter  FU 57 S6 (((6 : Int32) + (sR S (182) (4)))) ((0 : Int32)) 0)) else (g_b2 (FX12_fails S4 ((1 : Int32))) (fun S7 b8 => some (S7, b8))))) else (some (S2, false)))))
set_option maxRecDepth 100000 in
theorem lX12_readsLetter  {n : Nat} {R : gS × Bool} : ∀ k : Nat, (∀ (S : gS) (i1 : Int32) (i2 : Int32) (i3 : Int32) , fX12_readsLetter  k 57 S i1 i2 i3 = some R → gG 3 mX12_readsLetter 0 0 (g_Xz mX12_readsLetter n 0 0 (hPz (fun S2 x2 => S2 = R.1 ∧ x2 = R.2))) 57 n (hH S) [some (.ref (180)), some (.int (i1)), some (.int (i2)), none] [] 0 0) ∧ (∀ (S : gS) (i1 : Int32) (i2 : Int32) (i3 : Int32) , fX12_readsLetter  k 70 S i1 i2 i3 = some R → gG 3 mX12_readsLetter 0 0 (g_Xz mX12_readsLetter n 0 0 (hPz (fun S2 x2 => S2 = R.1 ∧ x2 = R.2))) 70 n (hH S) [some (.ref (180)), some (.int (i1)), some (.int (i2)), none] [] 0 0) ∧ (∀ (S : gS) (i1 : Int32) (i2 : Int32) (i3 : Int32) , fX12_readsLetter  k 117 S i1 i2 i3 = some R → gG 3 mX12_readsLetter 0 0 (g_Xz mX12_readsLetter n 0 0 (hPz (fun S2 x2 => S2 = R.1 ∧ x2 = R.2))) 117 n (hH S) [some (.ref (180)), some (.int (i1)), some (.int (i2)), some (.int (i3))] [] 0 0) := by
  intro k
  induction k with
  | zero => exact ⟨fun _ _ _ _ h => (by cases h), fun _ _ _ _ h => (by cases h), fun _ _ _ _ h => (by cases h)⟩
  | succ k ih =>
    have hrec_57 := ih.1
    have hrec_70 := ih.2.1
    have hrec_117 := ih.2.2
    refine ⟨?_, ?_, ?_⟩
    · intro S i1 i2 i3 h
      rw [fX12_readsLetter] at h
      have h := g_ip rfl h
      unfold bX12_readsLetter_57 at h
      refine zX12_readsLetter_57  ?_
      refine ⟨fun c => ?_, fun c => ?_⟩
      · have h := g_ip c h
        exact hrec_70 _ _ _ _  h
      · have h := g_in c h
        obtain ⟨S1, b2, hc, h⟩ := g_b2s h
        refine ⟨0, _, (by decide), CX12_isSign  hc, ?_⟩
        rintro _ _ ⟨rfl, rfl⟩
        refine ⟨fun c => ?_, fun c => ?_⟩
        · have h := g_bt c h
          exact hrec_117 _ _ _ _  h
        · have h := g_bf c h
          exact hrec_70 _ _ _ _  h
    · intro S i1 i2 i3 h
      rw [fX12_readsLetter] at h
      have h := g_in (by decide) h
      have h := g_ip rfl h
      unfold bX12_readsLetter_70 at h
      refine zX12_readsLetter_70  ?_
      obtain ⟨S1, b2, hc, h⟩ := g_b2s h
      refine ⟨1, _, (by decide), CX12_needsMouth  hc, ?_⟩
      rintro _ _ ⟨rfl, rfl⟩
      refine ⟨fun c => ?_, fun c => ?_⟩
      · have h := g_bt c h
        refine ⟨fun c => ?_, fun c => ?_⟩
        · have h := g_in c h
          obtain ⟨S3, hc, h⟩ := g_b1s h
          refine ⟨1, _, (by decide), CX12_nextToken  hc, ?_⟩
          rintro _ rfl
          exact hrec_57 _ _ _ _  h
        · have h := g_ip c h
          obtain ⟨S4, b5, hc, h⟩ := g_b2s h
          refine ⟨0, _, (by decide), CX12_fails  hc, ?_⟩
          rintro _ _ ⟨rfl, rfl⟩
          cases h; exact ⟨rfl, rfl⟩
      · have h := g_bf c h
        cases h; exact ⟨rfl, rfl⟩
    · intro S i1 i2 i3 h
      rw [fX12_readsLetter] at h
      have h := g_in (by decide) h
      have h := g_in (by decide) h
      have h := g_ip rfl h
      unfold bX12_readsLetter_117 at h
      refine zX12_readsLetter_117  ?_
      refine ⟨fun c => ?_, fun c => ?_⟩
      · have h := g_ip c h
        obtain ⟨hv1, h⟩ := g_vs h
        refine ⟨hv1, ?_⟩
        intro S2 eS
        have h := g_lts eS h
        intro S3 eS
        have h := g_lts eS h
        intro S4 eS
        have h := g_lts eS h
        obtain ⟨S5, b6, hc, h⟩ := g_b2s h
        refine ⟨2, _, (by decide), CX12_closes  hc, ?_⟩
        rintro _ _ ⟨rfl, rfl⟩
        cases h; exact ⟨rfl, rfl⟩
      · have h := g_in c h
        obtain ⟨hv7, h⟩ := g_vs h
        refine ⟨hv7, ?_⟩
        refine ⟨fun c => ?_, fun c => ?_⟩
        · have h := g_in c h
          exact hrec_117 _ _ _ _  h
        · have h := g_ip c h
          obtain ⟨S8, b9, hc, h⟩ := g_b2s h
          refine ⟨0, _, (by decide), CX12_fails  hc, ?_⟩
          rintro _ _ ⟨rfl, rfl⟩
          cases h; exact ⟨rfl, rfl⟩
theorem CX12_readsLetter {n : Nat} {S : gS} {R : gS × Bool}   (h : FX12_readsLetter S  = some R) : sCz 3 mX12_readsLetter n S [.ref (180)] (fun S2 x2 => S2 = R.1 ∧ x2 = R.2) := by
  unfold FX12_readsLetter at h
  refine gCz_of (by decide) (Nat.le_of_ble_eq_true rfl) rfl rfl (zX12_readsLetter_0  ?_)
  refine ⟨fun c => ?_, fun c => ?_⟩
  · have h := g_in c h
    obtain ⟨S1, hc, h⟩ := g_b1s h
    refine ⟨1, _, (by decide), CX12_nextToken  hc, ?_⟩
    rintro _ rfl
    obtain ⟨S2, b3, hc, h⟩ := g_b2s h
    refine ⟨2, _, (by decide), CX12_needsNew  hc, ?_⟩
    rintro _ _ ⟨rfl, rfl⟩
    refine ⟨fun c => ?_, fun c => ?_⟩
    · have h := g_bt c h
      obtain ⟨S4, b5, hc, h⟩ := g_b2s h
      refine ⟨0, _, (by decide), CX12_isWord  hc, ?_⟩
      rintro _ _ ⟨rfl, rfl⟩
      refine ⟨fun c => ?_, fun c => ?_⟩
      · have h := g_bt c h
        obtain ⟨S6, hc, h⟩ := g_b1s h
        refine ⟨1, _, (by decide), CX12_nextToken  hc, ?_⟩
        rintro _ rfl
        exact (lX12_readsLetter FU).1 _ _ _ _  h
      · have h := g_bf c h
        obtain ⟨S7, b8, hc, h⟩ := g_b2s h
        refine ⟨0, _, (by decide), CX12_fails  hc, ?_⟩
        rintro _ _ ⟨rfl, rfl⟩
        cases h; exact ⟨rfl, rfl⟩
    · have h := g_bf c h
      cases h; exact ⟨rfl, rfl⟩
  · have h := g_ip c h
    obtain ⟨S9, b10, hc, h⟩ := g_b2s h
    refine ⟨0, _, (by decide), CX12_fails  hc, ?_⟩
    rintro _ _ ⟨rfl, rfl⟩
    cases h; exact ⟨rfl, rfl⟩

noncomputable def bX12_readsRain_19  (rec : Nat → gS → Option (gS × Bool)) (S : gS)  : Option (gS × Bool) := if (sR S (182) (5)) = 0 then (rec 36 S ) else (if (sI S (180) 6) = (2 : Int32) then (rec 36 S ) else (g_b2 (FX12_closes S ) (fun S1 b2 => some (S1, b2))))
noncomputable def bX12_readsRain_36  (rec : Nat → gS → Option (gS × Bool)) (S : gS)  : Option (gS × Bool) := if (sI S (180) 6) = (2 : Int32) then (if (sI S (180) 8) ≤ (9 : Int32) then (if (sR S (182) (5)) = (12 : Int32) then (g_b2 (FX12_fails S ((5 : Int32))) (fun S5 b6 => some (S5, b6))) else (if g_vp (((12 : Int32) + (sR S (182) (5)))) 24 = true then (g_lt (uR S (191) (Int32.toNatClampNeg (((12 : Int32) + (sR S (182) (5))))) ((sI S (180) 8))) (fun S2 => g_lt (uR S2 (182) (5) (((sR S2 (182) (5)) + (1 : Int32)))) (fun S3 => g_b1 (FX12_nextToken S3 ) (fun S4 => rec 19 S4 )))) else none)) else (g_b2 (FX12_fails S ((4 : Int32))) (fun S7 b8 => some (S7, b8)))) else (g_b2 (FX12_fails S ((1 : Int32))) (fun S9 b10 => some (S9, b10)))
noncomputable def fX12_readsRain  : Nat → Nat → gS → Option (gS × Bool)
  | 0 => fun _ _  => none
  | k + 1 => fun pc S  => if pc = 19 then bX12_readsRain_19  (fX12_readsRain  k) S  else if pc = 36 then bX12_readsRain_36  (fX12_readsRain  k) S  else none
noncomputable def FX12_readsRain (S : gS)  : Option (gS × Bool) := if (sR S (182) (5)) ≤ 0 then (g_b1 (FX12_nextToken S ) (fun S1 => fX12_readsRain  FU 19 S1 )) else (g_b2 (FX12_fails S ((3 : Int32))) (fun S2 b3 => some (S2, b3)))
set_option maxRecDepth 100000 in
theorem lX12_readsRain  {n : Nat} {R : gS × Bool} : ∀ k : Nat, (∀ (S : gS)  , fX12_readsRain  k 19 S  = some R → gG 3 mX12_readsRain 0 0 (g_Xz mX12_readsRain n 0 0 (hPz (fun S2 x2 => S2 = R.1 ∧ x2 = R.2))) 19 n (hH S) [some (.ref (180))] [] 0 0) ∧ (∀ (S : gS)  , fX12_readsRain  k 36 S  = some R → gG 3 mX12_readsRain 0 0 (g_Xz mX12_readsRain n 0 0 (hPz (fun S2 x2 => S2 = R.1 ∧ x2 = R.2))) 36 n (hH S) [some (.ref (180))] [] 0 0) := by
  intro k
  induction k with
  | zero => exact ⟨fun _ h => (by cases h), fun _ h => (by cases h)⟩
  | succ k ih =>
    have hrec_19 := ih.1
    have hrec_36 := ih.2
    refine ⟨?_, ?_⟩
    · intro S h
      rw [fX12_readsRain] at h
      have h := g_ip rfl h
      unfold bX12_readsRain_19 at h
      refine zX12_readsRain_19  ?_
      refine ⟨fun c => ?_, fun c => ?_⟩
      · have h := g_ip c h
        exact hrec_36 _   h
      · have h := g_in c h
        refine ⟨fun c => ?_, fun c => ?_⟩
        · have h := g_in c h
          obtain ⟨S1, b2, hc, h⟩ := g_b2s h
          refine ⟨2, _, (by decide), CX12_closes  hc, ?_⟩
          rintro _ _ ⟨rfl, rfl⟩
          cases h; exact ⟨rfl, rfl⟩
        · have h := g_ip c h
          exact hrec_36 _   h
    · intro S h
      rw [fX12_readsRain] at h
      have h := g_in (by decide) h
      have h := g_ip rfl h
      unfold bX12_readsRain_36 at h
      refine zX12_readsRain_36  ?_
      refine ⟨fun c => ?_, fun c => ?_⟩
      · have h := g_ip c h
        refine ⟨fun c => ?_, fun c => ?_⟩
        · have h := g_ip c h
          refine ⟨fun c => ?_, fun c => ?_⟩
          · have h := g_in c h
            obtain ⟨hv1, h⟩ := g_vs h
            refine ⟨hv1, ?_⟩
            intro S2 eS
            have h := g_lts eS h
            intro S3 eS
            have h := g_lts eS h
            obtain ⟨S4, hc, h⟩ := g_b1s h
            refine ⟨1, _, (by decide), CX12_nextToken  hc, ?_⟩
            rintro _ rfl
            exact hrec_19 _   h
          · have h := g_ip c h
            obtain ⟨S5, b6, hc, h⟩ := g_b2s h
            refine ⟨0, _, (by decide), CX12_fails  hc, ?_⟩
            rintro _ _ ⟨rfl, rfl⟩
            cases h; exact ⟨rfl, rfl⟩
        · have h := g_in c h
          obtain ⟨S7, b8, hc, h⟩ := g_b2s h
          refine ⟨0, _, (by decide), CX12_fails  hc, ?_⟩
          rintro _ _ ⟨rfl, rfl⟩
          cases h; exact ⟨rfl, rfl⟩
      · have h := g_in c h
        obtain ⟨S9, b10, hc, h⟩ := g_b2s h
        refine ⟨0, _, (by decide), CX12_fails  hc, ?_⟩
        rintro _ _ ⟨rfl, rfl⟩
        cases h; exact ⟨rfl, rfl⟩
theorem CX12_readsRain {n : Nat} {S : gS} {R : gS × Bool}   (h : FX12_readsRain S  = some R) : sCz 3 mX12_readsRain n S [.ref (180)] (fun S2 x2 => S2 = R.1 ∧ x2 = R.2) := by
  unfold FX12_readsRain at h
  refine gCz_of (by decide) (Nat.le_of_ble_eq_true rfl) rfl rfl (zX12_readsRain_0  ?_)
  refine ⟨fun c => ?_, fun c => ?_⟩
  · have h := g_ip c h
    obtain ⟨S1, hc, h⟩ := g_b1s h
    refine ⟨1, _, (by decide), CX12_nextToken  hc, ?_⟩
    rintro _ rfl
    exact (lX12_readsRain FU).1 _   h
  · have h := g_in c h
    obtain ⟨S2, b3, hc, h⟩ := g_b2s h
    refine ⟨0, _, (by decide), CX12_fails  hc, ?_⟩
    rintro _ _ ⟨rfl, rfl⟩
    cases h; exact ⟨rfl, rfl⟩

noncomputable def FX12_readsSounds (S : gS)  : Option (gS × Bool) := if (sR S (193) (1)) ≤ (sR S (192) (1)) then (g_b1 (FX12_nextToken S ) (fun S1 => g_lt (uR S1 (192) (1) ((sI S1 (180) 23))) (fun S2 => g_b2 (FX12_readsLaw S2 ) (fun S3 b4 => if b4 = true then (g_lt (uR S3 (193) (1) ((sI S3 (180) 23))) (fun S5 => some (S5, true))) else (some (S3, false)))))) else (g_b2 (FX12_fails S ((3 : Int32))) (fun S6 b7 => some (S6, b7)))
theorem CX12_readsSounds {n : Nat} {S : gS} {R : gS × Bool}   (h : FX12_readsSounds S  = some R) : sCz 3 mX12_readsSounds n S [.ref (180)] (fun S2 x2 => S2 = R.1 ∧ x2 = R.2) := by
  unfold FX12_readsSounds at h
  refine gCz_of (by decide) (Nat.le_of_ble_eq_true rfl) rfl rfl (zX12_readsSounds_0  ?_)
  refine ⟨fun c => ?_, fun c => ?_⟩
  · have h := g_ip c h
    obtain ⟨S1, hc, h⟩ := g_b1s h
    refine ⟨1, _, (by decide), CX12_nextToken  hc, ?_⟩
    rintro _ rfl
    intro S2 eS
    have h := g_lts eS h
    obtain ⟨S3, b4, hc, h⟩ := g_b2s h
    refine ⟨2, _, (by decide), CX12_readsLaw  hc, ?_⟩
    rintro _ _ ⟨rfl, rfl⟩
    refine ⟨fun c => ?_, fun c => ?_⟩
    · have h := g_bt c h
      intro S5 eS
      have h := g_lts eS h
      cases h; exact ⟨rfl, rfl⟩
    · have h := g_bf c h
      cases h; exact ⟨rfl, rfl⟩
  · have h := g_in c h
    obtain ⟨S6, b7, hc, h⟩ := g_b2s h
    refine ⟨0, _, (by decide), CX12_fails  hc, ?_⟩
    rintro _ _ ⟨rfl, rfl⟩
    cases h; exact ⟨rfl, rfl⟩

noncomputable def FX12_begins (S : gS)  : Option (gS) := g_lt (uI S (180) 3 ((sI S (180) 1))) (fun S1 => g_lt (uI S1 (180) 1 ((0 : Int32))) (fun S2 => g_lt (uI S2 (180) 4 ((0 : Int32))) (fun S3 => g_b1 (FX12_nextToken S3 ) (fun S4 => some S4))))
theorem CX12_begins {n : Nat} {S : gS} {R : gS}   (h : FX12_begins S  = some R) : sCv 2 mX12_begins n S [.ref (180)] (fun S2 => S2 = R) := by
  unfold FX12_begins at h
  refine gCv_of (by decide) (Nat.le_of_ble_eq_true rfl) rfl rfl (zX12_begins_0  ?_)
  intro S1 eS
  have h := g_lts eS h
  intro S2 eS
  have h := g_lts eS h
  intro S3 eS
  have h := g_lts eS h
  obtain ⟨S4, hc, h⟩ := g_b1s h
  refine ⟨1, _, (by decide), CX12_nextToken  hc, ?_⟩
  rintro _ rfl
  cases h; exact rfl

noncomputable def bX12_readsAll_2  (rec : Nat → gS → Int32 → Option (gS × Bool)) (S : gS) (i1 : Int32) : Option (gS × Bool) := if (3 : Int32) ≤ i1 then (g_lt (uR S (192) (1) ((1000 : Int32))) (fun S1 => g_lt (uR S1 (193) (1) ((1000 : Int32))) (fun S2 => g_lt (uI S2 (180) 23 ((1000 : Int32))) (fun S3 => g_b1 (FX12_begins S3 ) (fun S4 => rec 51 S4 0))))) else (if g_vp (((3 : Int32) + i1)) 6 = true then (g_lt (uR S (182) (Int32.toNatClampNeg (((3 : Int32) + i1))) ((0 : Int32))) (fun S6 => rec 2 S6 ((i1 + 1)))) else none)
noncomputable def bX12_readsAll_51  (rec : Nat → gS → Int32 → Option (gS × Bool)) (S : gS) (i1 : Int32) : Option (gS × Bool) := if (sI S (180) 6) = 0 then (some (S, true)) else (g_b2 (FX12_isWord S ((7219835 : Int64))) (fun S1 b2 => if b2 = true then (g_b2 (FX12_readsMouth S1 ) (fun S21 b22 => if b22 = true then (rec 51 S21 0) else (some (S21, false)))) else (g_b2 (FX12_isWord S1 ((112011003 : Int64))) (fun S3 b4 => if b4 = true then (g_b2 (FX12_readsGutter S3 ) (fun S19 b20 => if b20 = true then (rec 51 S19 0) else (some (S19, false)))) else (g_b2 (FX12_isWord S3 ((175252482 : Int64))) (fun S5 b6 => if b6 = true then (g_b2 (FX12_readsLetter S5 ) (fun S17 b18 => if b18 = true then (rec 51 S17 0) else (some (S17, false)))) else (g_b2 (FX12_isWord S5 ((355280 : Int64))) (fun S7 b8 => if b8 = true then (g_b2 (FX12_readsRain S7 ) (fun S15 b16 => if b16 = true then (rec 51 S15 0) else (some (S15, false)))) else (g_b2 (FX12_isWord S7 ((281024524 : Int64))) (fun S9 b10 => if b10 = true then (g_b2 (FX12_readsSounds S9 ) (fun S13 b14 => if b14 = true then (rec 51 S13 0) else (some (S13, false)))) else (g_b2 (FX12_fails S9 ((1 : Int32))) (fun S11 b12 => if b12 = true then (rec 51 S11 0) else (some (S11, false))))))))))))))
noncomputable def fX12_readsAll  : Nat → Nat → gS → Int32 → Option (gS × Bool)
  | 0 => fun _ _ _ => none
  | k + 1 => fun pc S i1 => if pc = 2 then bX12_readsAll_2  (fX12_readsAll  k) S i1 else if pc = 51 then bX12_readsAll_51  (fX12_readsAll  k) S i1 else none
noncomputable def FX12_readsAll (S : gS)  : Option (gS × Bool) := fX12_readsAll  FU 2 S ((0 : Int32))
set_option maxRecDepth 100000 in
theorem lX12_readsAll  {n : Nat} {R : gS × Bool} : ∀ k : Nat, (∀ (S : gS) (i1 : Int32) , fX12_readsAll  k 2 S i1 = some R → gG 5 mX12_readsAll 0 0 (g_Xz mX12_readsAll n 0 0 (hPz (fun S2 x2 => S2 = R.1 ∧ x2 = R.2))) 2 n (hH S) [some (.ref (180)), some (.int (i1))] [] 0 0) ∧ (∀ (S : gS) (i1 : Int32) , fX12_readsAll  k 51 S i1 = some R → gG 5 mX12_readsAll 0 0 (g_Xz mX12_readsAll n 0 0 (hPz (fun S2 x2 => S2 = R.1 ∧ x2 = R.2))) 51 n (hH S) [some (.ref (180)), none] [] 0 0) := by
  intro k
  induction k with
  | zero => exact ⟨fun _ _ h => (by cases h), fun _ _ h => (by cases h)⟩
  | succ k ih =>
    have hrec_2 := ih.1
    have hrec_51 := ih.2
    refine ⟨?_, ?_⟩
    · intro S i1 h
      rw [fX12_readsAll] at h
      have h := g_ip rfl h
      unfold bX12_readsAll_2 at h
      refine zX12_readsAll_2  ?_
      refine ⟨fun c => ?_, fun c => ?_⟩
      · have h := g_ip c h
        intro S1 eS
        have h := g_lts eS h
        intro S2 eS
        have h := g_lts eS h
        intro S3 eS
        have h := g_lts eS h
        obtain ⟨S4, hc, h⟩ := g_b1s h
        refine ⟨2, _, (by decide), CX12_begins  hc, ?_⟩
        rintro _ rfl
        exact hrec_51 _ _  h
      · have h := g_in c h
        obtain ⟨hv5, h⟩ := g_vs h
        refine ⟨hv5, ?_⟩
        intro S6 eS
        have h := g_lts eS h
        exact hrec_2 _ _  h
    · intro S i1 h
      rw [fX12_readsAll] at h
      have h := g_in (by decide) h
      have h := g_ip rfl h
      unfold bX12_readsAll_51 at h
      refine zX12_readsAll_51  ?_
      refine ⟨fun c => ?_, fun c => ?_⟩
      · have h := g_ip c h
        cases h; exact ⟨rfl, rfl⟩
      · have h := g_in c h
        obtain ⟨S1, b2, hc, h⟩ := g_b2s h
        refine ⟨0, _, (by decide), CX12_isWord  hc, ?_⟩
        rintro _ _ ⟨rfl, rfl⟩
        refine ⟨fun c => ?_, fun c => ?_⟩
        · have h := g_bf c h
          obtain ⟨S3, b4, hc, h⟩ := g_b2s h
          refine ⟨0, _, (by decide), CX12_isWord  hc, ?_⟩
          rintro _ _ ⟨rfl, rfl⟩
          refine ⟨fun c => ?_, fun c => ?_⟩
          · have h := g_bf c h
            obtain ⟨S5, b6, hc, h⟩ := g_b2s h
            refine ⟨0, _, (by decide), CX12_isWord  hc, ?_⟩
            rintro _ _ ⟨rfl, rfl⟩
            refine ⟨fun c => ?_, fun c => ?_⟩
            · have h := g_bf c h
              obtain ⟨S7, b8, hc, h⟩ := g_b2s h
              refine ⟨0, _, (by decide), CX12_isWord  hc, ?_⟩
              rintro _ _ ⟨rfl, rfl⟩
              refine ⟨fun c => ?_, fun c => ?_⟩
              · have h := g_bf c h
                obtain ⟨S9, b10, hc, h⟩ := g_b2s h
                refine ⟨0, _, (by decide), CX12_isWord  hc, ?_⟩
                rintro _ _ ⟨rfl, rfl⟩
                refine ⟨fun c => ?_, fun c => ?_⟩
                · have h := g_bf c h
                  obtain ⟨S11, b12, hc, h⟩ := g_b2s h
                  refine ⟨0, _, (by decide), CX12_fails  hc, ?_⟩
                  rintro _ _ ⟨rfl, rfl⟩
                  refine ⟨fun c => ?_, fun c => ?_⟩
                  · have h := g_bt c h
                    exact hrec_51 _ _  h
                  · have h := g_bf c h
                    cases h; exact ⟨rfl, rfl⟩
                · have h := g_bt c h
                  obtain ⟨S13, b14, hc, h⟩ := g_b2s h
                  refine ⟨3, _, (by decide), CX12_readsSounds  hc, ?_⟩
                  rintro _ _ ⟨rfl, rfl⟩
                  refine ⟨fun c => ?_, fun c => ?_⟩
                  · have h := g_bt c h
                    exact hrec_51 _ _  h
                  · have h := g_bf c h
                    cases h; exact ⟨rfl, rfl⟩
              · have h := g_bt c h
                obtain ⟨S15, b16, hc, h⟩ := g_b2s h
                refine ⟨3, _, (by decide), CX12_readsRain  hc, ?_⟩
                rintro _ _ ⟨rfl, rfl⟩
                refine ⟨fun c => ?_, fun c => ?_⟩
                · have h := g_bt c h
                  exact hrec_51 _ _  h
                · have h := g_bf c h
                  cases h; exact ⟨rfl, rfl⟩
            · have h := g_bt c h
              obtain ⟨S17, b18, hc, h⟩ := g_b2s h
              refine ⟨3, _, (by decide), CX12_readsLetter  hc, ?_⟩
              rintro _ _ ⟨rfl, rfl⟩
              refine ⟨fun c => ?_, fun c => ?_⟩
              · have h := g_bt c h
                exact hrec_51 _ _  h
              · have h := g_bf c h
                cases h; exact ⟨rfl, rfl⟩
          · have h := g_bt c h
            obtain ⟨S19, b20, hc, h⟩ := g_b2s h
            refine ⟨3, _, (by decide), CX12_readsGutter  hc, ?_⟩
            rintro _ _ ⟨rfl, rfl⟩
            refine ⟨fun c => ?_, fun c => ?_⟩
            · have h := g_bt c h
              exact hrec_51 _ _  h
            · have h := g_bf c h
              cases h; exact ⟨rfl, rfl⟩
        · have h := g_bt c h
          obtain ⟨S21, b22, hc, h⟩ := g_b2s h
          refine ⟨4, _, (by decide), CX12_readsMouth  hc, ?_⟩
          rintro _ _ ⟨rfl, rfl⟩
          refine ⟨fun c => ?_, fun c => ?_⟩
          · have h := g_bt c h
            exact hrec_51 _ _  h
          · have h := g_bf c h
            cases h; exact ⟨rfl, rfl⟩
theorem CX12_readsAll {n : Nat} {S : gS} {R : gS × Bool}   (h : FX12_readsAll S  = some R) : sCz 5 mX12_readsAll n S [.ref (180)] (fun S2 x2 => S2 = R.1 ∧ x2 = R.2) := by
  unfold FX12_readsAll at h
  refine gCz_of (by decide) (Nat.le_of_ble_eq_true rfl) rfl rfl (zX12_readsAll_0  ?_)
  exact (lX12_readsAll FU).1 _ _  h

noncomputable def bX12_shifts_2 (m0 : Nat) (rec : Nat → gS → Nat → Int32 → Int32 → Option (gS)) (S : gS) (a0 : Nat) (i1 : Int32) (i2 : Int32) : Option (gS) := if i1 ≤ i2 then (some S) else (if g_vp ((i1 + i2)) m0 = true then (if g_vp (i2) m0 = true then (g_lt (uR S (a0) (Int32.toNatClampNeg (i2)) ((sR S (a0) (Int32.toNatClampNeg ((i1 + i2)))))) (fun S3 => rec 2 S3 (a0) (i1) ((i2 + 1)))) else none) else none)
noncomputable def fX12_shifts (m0 : Nat) : Nat → Nat → gS → Nat → Int32 → Int32 → Option (gS)
  | 0 => fun _ _ _ _ _ => none
  | k + 1 => fun pc S a0 i1 i2 => if pc = 2 then bX12_shifts_2 m0 (fX12_shifts m0 k) S a0 i1 i2 else none
noncomputable def FX12_shifts (S : gS) (a0 : Nat) (m0 : Nat) (i1 : Int32) : Option (gS) := fX12_shifts m0 FU 2 S (a0) (i1) ((0 : Int32))
set_option maxRecDepth 100000 in
theorem lX12_shifts {m0 : Nat} {n : Nat} {R : gS} : ∀ k : Nat, (∀ (S : gS) (a0 : Nat) (i1 : Int32) (i2 : Int32) (hs0 : isA 0 m0 a0), fX12_shifts m0 k 2 S a0 i1 i2 = some R → gG 0 mX12_shifts 0 0 (g_Xv mX12_shifts n 0 0 (hPv (fun S2 => S2 = R))) 2 n (hH S) [some (.ref (a0)), some (.int (i1)), some (.int (i2))] [] 0 0) := by
  intro k
  induction k with
  | zero => exact fun _ _ _ _ _ h => (by cases h)
  | succ k ih =>
    have hrec_2 := ih
    · intro S a0 i1 i2 hs0 h
      rw [fX12_shifts] at h
      have h := g_ip rfl h
      unfold bX12_shifts_2 at h
      refine zX12_shifts_2 hs0 ?_
      refine ⟨fun c => ?_, fun c => ?_⟩
      · have h := g_ip c h
        cases h; exact rfl
      · have h := g_in c h
        obtain ⟨hv1, h⟩ := g_vs h
        refine ⟨hv1, ?_⟩
        obtain ⟨hv2, h⟩ := g_vs h
        refine ⟨hv2, ?_⟩
        intro S3 eS
        have h := g_lts eS h
        exact hrec_2 _ _ _ _ hs0 h
theorem CX12_shifts {n : Nat} {S : gS} {R : gS} {a0 : Nat} {m0 : Nat} {i1 : Int32} (hs0 : isA 0 m0 a0) (h : FX12_shifts S a0 m0 i1 = some R) : sCv 0 mX12_shifts n S [.ref (a0), .int (i1)] (fun S2 => S2 = R) := by
  unfold FX12_shifts at h
  refine gCv_of (by decide) (Nat.le_of_ble_eq_true rfl) rfl rfl (zX12_shifts_0 hs0 ?_)
  exact (lX12_shifts FU) _ _ _ _ hs0 h

noncomputable def bX12_shiftsNames_2 (m0 : Nat) (rec : Nat → gS → Nat → Int32 → Int32 → Option (gS)) (S : gS) (a0 : Nat) (i1 : Int32) (i2 : Int32) : Option (gS) := if i1 ≤ i2 then (some S) else (if g_vp ((i1 + i2)) m0 = true then (if g_vp (i2) m0 = true then (g_lt (uL S (a0) (Int32.toNatClampNeg (i2)) ((sL S (a0) (Int32.toNatClampNeg ((i1 + i2)))))) (fun S3 => rec 2 S3 (a0) (i1) ((i2 + 1)))) else none) else none)
noncomputable def fX12_shiftsNames (m0 : Nat) : Nat → Nat → gS → Nat → Int32 → Int32 → Option (gS)
  | 0 => fun _ _ _ _ _ => none
  | k + 1 => fun pc S a0 i1 i2 => if pc = 2 then bX12_shiftsNames_2 m0 (fX12_shiftsNames m0 k) S a0 i1 i2 else none
noncomputable def FX12_shiftsNames (S : gS) (a0 : Nat) (m0 : Nat) (i1 : Int32) : Option (gS) := fX12_shiftsNames m0 FU 2 S (a0) (i1) ((0 : Int32))
set_option maxRecDepth 100000 in
theorem lX12_shiftsNames {m0 : Nat} {n : Nat} {R : gS} : ∀ k : Nat, (∀ (S : gS) (a0 : Nat) (i1 : Int32) (i2 : Int32) (hs0 : isA 1 m0 a0), fX12_shiftsNames m0 k 2 S a0 i1 i2 = some R → gG 0 mX12_shiftsNames 0 0 (g_Xv mX12_shiftsNames n 0 0 (hPv (fun S2 => S2 = R))) 2 n (hH S) [some (.ref (a0)), some (.int (i1)), some (.int (i2))] [] 0 0) := by
  intro k
  induction k with
  | zero => exact fun _ _ _ _ _ h => (by cases h)
  | succ k ih =>
    have hrec_2 := ih
    · intro S a0 i1 i2 hs0 h
      rw [fX12_shiftsNames] at h
      have h := g_ip rfl h
      unfold bX12_shiftsNames_2 at h
      refine zX12_shiftsNames_2 hs0 ?_
      refine ⟨fun c => ?_, fun c => ?_⟩
      · have h := g_ip c h
        cases h; exact rfl
      · have h := g_in c h
        obtain ⟨hv1, h⟩ := g_vs h
        refine ⟨hv1, ?_⟩
        obtain ⟨hv2, h⟩ := g_vs h
        refine ⟨hv2, ?_⟩
        intro S3 eS
        have h := g_lts eS h
        exact hrec_2 _ _ _ _ hs0 h
theorem CX12_shiftsNames {n : Nat} {S : gS} {R : gS} {a0 : Nat} {m0 : Nat} {i1 : Int32} (hs0 : isA 1 m0 a0) (h : FX12_shiftsNames S a0 m0 i1 = some R) : sCv 0 mX12_shiftsNames n S [.ref (a0), .int (i1)] (fun S2 => S2 = R) := by
  unfold FX12_shiftsNames at h
  refine gCv_of (by decide) (Nat.le_of_ble_eq_true rfl) rfl rfl (zX12_shiftsNames_0 hs0 ?_)
  exact (lX12_shiftsNames FU) _ _ _ _ hs0 h

noncomputable def FX12_lays (S : gS)  : Option (gS) := g_b1 (FX12_shifts S (182) (6) ((3 : Int32))) (fun S1 => g_b1 (FX12_shiftsNames S1 (183) (14) ((7 : Int32))) (fun S2 => g_b1 (FX12_shiftsNames S2 (184) (12) ((6 : Int32))) (fun S3 => g_b1 (FX12_shifts S3 (185) (14) ((7 : Int32))) (fun S4 => g_b1 (FX12_shifts S4 (186) (14) ((7 : Int32))) (fun S5 => g_b1 (FX12_shifts S5 (187) (14) ((7 : Int32))) (fun S6 => g_b1 (FX12_shifts S6 (188) (14) ((7 : Int32))) (fun S7 => g_b1 (FX12_shifts S7 (189) (14) ((7 : Int32))) (fun S8 => g_b1 (FX12_shifts S8 (190) (12) ((6 : Int32))) (fun S9 => g_b1 (FX12_shifts S9 (191) (24) ((12 : Int32))) (fun S10 => g_b1 (FX12_shifts S10 (194) (2000) ((1000 : Int32))) (fun S11 => g_lt (uR S11 (192) (0) (((sR S11 (192) (1)) - (1000 : Int32)))) (fun S12 => g_lt (uR S12 (193) (0) (((sR S12 (193) (1)) - (1000 : Int32)))) (fun S13 => some S13)))))))))))))
theorem CX12_lays {n : Nat} {S : gS} {R : gS}   (h : FX12_lays S  = some R) : sCv 1 mX12_lays n S [.ref (180)] (fun S2 => S2 = R) := by
  unfold FX12_lays at h
  refine gCv_of (by decide) (Nat.le_of_ble_eq_true rfl) rfl rfl (zX12_lays_0  ?_)
  obtain ⟨S1, hc, h⟩ := g_b1s h
  refine ⟨0, _, (by decide), CX12_shifts rfl hc, ?_⟩
  rintro _ rfl
  obtain ⟨S2, hc, h⟩ := g_b1s h
  refine ⟨0, _, (by decide), CX12_shiftsNames rfl hc, ?_⟩
  rintro _ rfl
  obtain ⟨S3, hc, h⟩ := g_b1s h
  refine ⟨0, _, (by decide), CX12_shiftsNames rfl hc, ?_⟩
  rintro _ rfl
  obtain ⟨S4, hc, h⟩ := g_b1s h
  refine ⟨0, _, (by decide), CX12_shifts rfl hc, ?_⟩
  rintro _ rfl
  obtain ⟨S5, hc, h⟩ := g_b1s h
  refine ⟨0, _, (by decide), CX12_shifts rfl hc, ?_⟩
  rintro _ rfl
  obtain ⟨S6, hc, h⟩ := g_b1s h
  refine ⟨0, _, (by decide), CX12_shifts rfl hc, ?_⟩
  rintro _ rfl
  obtain ⟨S7, hc, h⟩ := g_b1s h
  refine ⟨0, _, (by decide), CX12_shifts rfl hc, ?_⟩
  rintro _ rfl
  obtain ⟨S8, hc, h⟩ := g_b1s h
  refine ⟨0, _, (by decide), CX12_shifts rfl hc, ?_⟩
  rintro _ rfl
  obtain ⟨S9, hc, h⟩ := g_b1s h
  refine ⟨0, _, (by decide), CX12_shifts rfl hc, ?_⟩
  rintro _ rfl
  obtain ⟨S10, hc, h⟩ := g_b1s h
  refine ⟨0, _, (by decide), CX12_shifts rfl hc, ?_⟩
  rintro _ rfl
  obtain ⟨S11, hc, h⟩ := g_b1s h
  refine ⟨0, _, (by decide), CX12_shifts rfl hc, ?_⟩
  rintro _ rfl
  intro S12 eS
  have h := g_lts eS h
  intro S13 eS
  have h := g_lts eS h
  cases h; exact rfl

noncomputable def bX12_copies_3 (m0 : Nat) (m2 : Nat) (rec : Nat → gS → Nat → Int32 → Nat → Int32 → Int32 → Option (gS)) (S : gS) (a0 : Nat) (i1 : Int32) (a2 : Nat) (i3 : Int32) (i4 : Int32) : Option (gS) := if (59 : Int32) ≤ i4 then (some S) else (if g_vp ((i1 + i4)) m0 = true then (if g_vp ((i3 + i4)) m2 = true then (g_lt (uR S (a2) (Int32.toNatClampNeg ((i3 + i4))) ((sR S (a0) (Int32.toNatClampNeg ((i1 + i4)))))) (fun S3 => rec 3 S3 (a0) (i1) (a2) (i3) ((i4 + 1)))) else none) else none)
noncomputable def fX12_copies (m0 : Nat) (m2 : Nat) : Nat → Nat → gS → Nat → Int32 → Nat → Int32 → Int32 → Option (gS)
  | 0 => fun _ _ _ _ _ _ _ => none
  | k + 1 => fun pc S a0 i1 a2 i3 i4 => if pc = 3 then bX12_copies_3 m0 m2 (fX12_copies m0 m2 k) S a0 i1 a2 i3 i4 else none
noncomputable def FX12_copies (S : gS) (a0 : Nat) (m0 : Nat) (i1 : Int32) (a2 : Nat) (m2 : Nat) (i3 : Int32) : Option (gS) := fX12_copies m0 m2 FU 3 S (a0) (i1) (a2) (i3) ((0 : Int32))
set_option maxRecDepth 100000 in
theorem lX12_copies {m0 : Nat} {m2 : Nat} {n : Nat} {R : gS} : ∀ k : Nat, (∀ (S : gS) (a0 : Nat) (i1 : Int32) (a2 : Nat) (i3 : Int32) (i4 : Int32) (hs0 : isA 0 m0 a0) (hs2 : isA 0 m2 a2), fX12_copies m0 m2 k 3 S a0 i1 a2 i3 i4 = some R → gG 0 mX12_copies 0 0 (g_Xv mX12_copies n 0 0 (hPv (fun S2 => S2 = R))) 3 n (hH S) [some (.ref (a0)), some (.int (i1)), some (.ref (a2)), some (.int (i3)), some (.int (i4))] [] 0 0) := by
  intro k
  induction k with
  | zero => exact fun _ _ _ _ _ _ _ _ h => (by cases h)
  | succ k ih =>
    have hrec_3 := ih
    · intro S a0 i1 a2 i3 i4 hs0 hs2 h
      rw [fX12_copies] at h
      have h := g_ip rfl h
      unfold bX12_copies_3 at h
      refine zX12_copies_3 hs0 hs2 ?_
      refine ⟨fun c => ?_, fun c => ?_⟩
      · have h := g_ip c h
        cases h; exact rfl
      · have h := g_in c h
        obtain ⟨hv1, h⟩ := g_vs h
        refine ⟨hv1, ?_⟩
        obtain ⟨hv2, h⟩ := g_vs h
        refine ⟨hv2, ?_⟩
        intro S3 eS
        have h := g_lts eS h
        exact hrec_3 _ _ _ _ _ _ hs0 hs2 h
theorem CX12_copies {n : Nat} {S : gS} {R : gS} {a0 : Nat} {m0 : Nat} {i1 : Int32} {a2 : Nat} {m2 : Nat} {i3 : Int32} (hs0 : isA 0 m0 a0) (hs2 : isA 0 m2 a2) (h : FX12_copies S a0 m0 i1 a2 m2 i3 = some R) : sCv 0 mX12_copies n S [.ref (a0), .int (i1), .ref (a2), .int (i3)] (fun S2 => S2 = R) := by
  unfold FX12_copies at h
  refine gCv_of (by decide) (Nat.le_of_ble_eq_true rfl) rfl rfl (zX12_copies_0 hs0 hs2 ?_)
  exact (lX12_copies FU) _ _ _ _ _ _ hs0 hs2 h

noncomputable def bX12_readsLine_58  (rec : Nat → gS → Int32 → Int32 → Option (gS × Bool)) (S : gS) (i1 : Int32) (i2 : Int32) : Option (gS × Bool) := if 0 ≤ i1 then (if (sR S (207) (5)) = (40 : Int32) then (g_b2 (FX12_fails S ((5 : Int32))) (fun S8 b9 => some (S8, b9))) else (g_b1 (FX12_nextToken S ) (fun S1 => if g_vp (((200 : Int32) + (sR S1 (207) (5)))) 240 = true then (g_lt (uR S1 (208) (Int32.toNatClampNeg (((200 : Int32) + (sR S1 (207) (5))))) (i1)) (fun S3 => if i1 = 0 then (rec 135 S3 (i1) (((200 : Int32) + (sR S1 (207) (5))))) else (g_b2 (FX12_needsMouth S3 ((0 : Int32))) (fun S4 b5 => if b5 = true then (g_lt (uR S4 (209) (Int32.toNatClampNeg (((200 : Int32) + (sR S1 (207) (5))))) ((sI S4 (180) 36))) (fun S6 => g_b1 (FX12_nextToken S6 ) (fun S7 => rec 135 S7 (i1) (((200 : Int32) + (sR S1 (207) (5))))))) else (some (S4, false)))))) else none))) else (g_b2 (FX12_fails S ((1 : Int32))) (fun S10 b11 => some (S10, b11)))
noncomputable def bX12_readsLine_135  (rec : Nat → gS → Int32 → Int32 → Option (gS × Bool)) (S : gS) (i1 : Int32) (i2 : Int32) : Option (gS × Bool) := if i1 = (1 : Int32) then (g_b2 (FX12_needsNumber S ((1 : Int32)) ((20 : Int32))) (fun S1 b2 => if b2 = true then (if g_vp (i2) 240 = true then (g_lt (uR S1 (210) (Int32.toNatClampNeg (i2)) ((sI S1 (180) 36))) (fun S4 => rec 162 S4 0 0)) else none) else (some (S1, false)))) else (rec 162 S 0 0)
noncomputable def bX12_readsLine_162  (rec : Nat → gS → Int32 → Int32 → Option (gS × Bool)) (S : gS) (i1 : Int32) (i2 : Int32) : Option (gS × Bool) := g_lt (uR S (207) (5) (((sR S (207) (5)) + (1 : Int32)))) (fun S1 => g_b2 (FX12_closes S1 ) (fun S2 b3 => some (S2, b3)))
noncomputable def fX12_readsLine  : Nat → Nat → gS → Int32 → Int32 → Option (gS × Bool)
  | 0 => fun _ _ _ _ => none
  | k + 1 => fun pc S i1 i2 => if pc = 58 then bX12_readsLine_58  (fX12_readsLine  k) S i1 i2 else if pc = 135 then bX12_readsLine_135  (fX12_readsLine  k) S i1 i2 else if pc = 162 then bX12_readsLine_162  (fX12_readsLine  k) S i1 i2 else none
noncomputable def FX12_readsLine (S : gS)  : Option (gS × Bool) := g_b2 (FX12_isWord S ((191610176 : Int64))) (fun S1 b2 => if b2 = true then (fX12_readsLine  FU 58 S1 ((0 : Int32)) 0) else (g_b2 (FX12_isWord S1 ((326448 : Int64))) (fun S3 b4 => if b4 = true then (fX12_readsLine  FU 58 S3 ((1 : Int32)) 0) else (g_b2 (FX12_isWord S3 ((388978 : Int64))) (fun S5 b6 => if b6 = true then (fX12_readsLine  FU 58 S5 ((2 : Int32)) 0) else (g_b2 (FX12_isWord S5 ((1834209 : Int64))) (fun S7 b8 => if b8 = true then (fX12_readsLine  FU 58 S7 ((3 : Int32)) 0) else (fX12_readsLine  FU 58 S7 ((-1 : Int32)) 0))))))))
set_option maxRecDepth 100000 in
theorem lX12_readsLine  {n : Nat} {R : gS × Bool} : ∀ k : Nat, (∀ (S : gS) (i1 : Int32) (i2 : Int32) , fX12_readsLine  k 58 S i1 i2 = some R → gG 3 mX12_readsLine 0 0 (g_Xz mX12_readsLine n 0 0 (hPz (fun S2 x2 => S2 = R.1 ∧ x2 = R.2))) 58 n (hH S) [some (.ref (180)), some (.int (i1)), none] [] 0 0) ∧ (∀ (S : gS) (i1 : Int32) (i2 : Int32) , fX12_readsLine  k 135 S i1 i2 = some R → gG 3 mX12_readsLine 0 0 (g_Xz mX12_readsLine n 0 0 (hPz (fun S2 x2 => S2 = R.1 ∧ x2 = R.2))) 135 n (hH S) [some (.ref (180)), some (.int (i1)), some (.int (i2))] [] 0 0) ∧ (∀ (S : gS) (i1 : Int32) (i2 : Int32) , fX12_readsLine  k 162 S i1 i2 = some R → gG 3 mX12_readsLine 0 0 (g_Xz mX12_readsLine n 0 0 (hPz (fun S2 x2 => S2 = R.1 ∧ x2 = R.2))) 162 n (hH S) [some (.ref (180)), none, none] [] 0 0) := by
  intro k
  induction k with
  | zero => exact ⟨fun _ _ _ h => (by cases h), fun _ _ _ h => (by cases h), fun _ _ _ h => (by cases h)⟩
  | succ k ih =>
    have hrec_58 := ih.1
    have hrec_135 := ih.2.1
    have hrec_162 := ih.2.2
    refine ⟨?_, ?_, ?_⟩
    · intro S i1 i2 h
      rw [fX12_readsLine] at h
      have h := g_ip rfl h
      unfold bX12_readsLine_58 at h
      refine zX12_readsLine_58  ?_
      refine ⟨fun c => ?_, fun c => ?_⟩
      · have h := g_ip c h
        refine ⟨fun c => ?_, fun c => ?_⟩
        · have h := g_in c h
          obtain ⟨S1, hc, h⟩ := g_b1s h
          refine ⟨1, _, (by decide), CX12_nextToken  hc, ?_⟩
          rintro _ rfl
          obtain ⟨hv2, h⟩ := g_vs h
          refine ⟨hv2, ?_⟩
          intro S3 eS
          have h := g_lts eS h
          refine ⟨fun c => ?_, fun c => ?_⟩
          · have h := g_ip c h
            exact hrec_135 _ _ _  h
          · have h := g_in c h
            obtain ⟨S4, b5, hc, h⟩ := g_b2s h
            refine ⟨1, _, (by decide), CX12_needsMouth  hc, ?_⟩
            rintro _ _ ⟨rfl, rfl⟩
            refine ⟨fun c => ?_, fun c => ?_⟩
            · have h := g_bt c h
              intro S6 eS
              have h := g_lts eS h
              obtain ⟨S7, hc, h⟩ := g_b1s h
              refine ⟨1, _, (by decide), CX12_nextToken  hc, ?_⟩
              rintro _ rfl
              exact hrec_135 _ _ _  h
            · have h := g_bf c h
              cases h; exact ⟨rfl, rfl⟩
        · have h := g_ip c h
          obtain ⟨S8, b9, hc, h⟩ := g_b2s h
          refine ⟨0, _, (by decide), CX12_fails  hc, ?_⟩
          rintro _ _ ⟨rfl, rfl⟩
          cases h; exact ⟨rfl, rfl⟩
      · have h := g_in c h
        obtain ⟨S10, b11, hc, h⟩ := g_b2s h
        refine ⟨0, _, (by decide), CX12_fails  hc, ?_⟩
        rintro _ _ ⟨rfl, rfl⟩
        cases h; exact ⟨rfl, rfl⟩
    · intro S i1 i2 h
      rw [fX12_readsLine] at h
      have h := g_in (by decide) h
      have h := g_ip rfl h
      unfold bX12_readsLine_135 at h
      refine zX12_readsLine_135  ?_
      refine ⟨fun c => ?_, fun c => ?_⟩
      · have h := g_in c h
        exact hrec_162 _ _ _  h
      · have h := g_ip c h
        obtain ⟨S1, b2, hc, h⟩ := g_b2s h
        refine ⟨2, _, (by decide), CX12_needsNumber  hc, ?_⟩
        rintro _ _ ⟨rfl, rfl⟩
        refine ⟨fun c => ?_, fun c => ?_⟩
        · have h := g_bt c h
          obtain ⟨hv3, h⟩ := g_vs h
          refine ⟨hv3, ?_⟩
          intro S4 eS
          have h := g_lts eS h
          exact hrec_162 _ _ _  h
        · have h := g_bf c h
          cases h; exact ⟨rfl, rfl⟩
    · intro S i1 i2 h
      rw [fX12_readsLine] at h
      have h := g_in (by decide) h
      have h := g_in (by decide) h
      have h := g_ip rfl h
      unfold bX12_readsLine_162 at h
      refine zX12_readsLine_162  ?_
      intro S1 eS
      have h := g_lts eS h
      obtain ⟨S2, b3, hc, h⟩ := g_b2s h
      refine ⟨2, _, (by decide), CX12_closes  hc, ?_⟩
      rintro _ _ ⟨rfl, rfl⟩
      cases h; exact ⟨rfl, rfl⟩
theorem CX12_readsLine {n : Nat} {S : gS} {R : gS × Bool}   (h : FX12_readsLine S  = some R) : sCz 3 mX12_readsLine n S [.ref (180)] (fun S2 x2 => S2 = R.1 ∧ x2 = R.2) := by
  unfold FX12_readsLine at h
  refine gCz_of (by decide) (Nat.le_of_ble_eq_true rfl) rfl rfl (zX12_readsLine_0  ?_)
  obtain ⟨S1, b2, hc, h⟩ := g_b2s h
  refine ⟨0, _, (by decide), CX12_isWord  hc, ?_⟩
  rintro _ _ ⟨rfl, rfl⟩
  refine ⟨fun c => ?_, fun c => ?_⟩
  · have h := g_bf c h
    obtain ⟨S3, b4, hc, h⟩ := g_b2s h
    refine ⟨0, _, (by decide), CX12_isWord  hc, ?_⟩
    rintro _ _ ⟨rfl, rfl⟩
    refine ⟨fun c => ?_, fun c => ?_⟩
    · have h := g_bf c h
      obtain ⟨S5, b6, hc, h⟩ := g_b2s h
      refine ⟨0, _, (by decide), CX12_isWord  hc, ?_⟩
      rintro _ _ ⟨rfl, rfl⟩
      refine ⟨fun c => ?_, fun c => ?_⟩
      · have h := g_bf c h
        obtain ⟨S7, b8, hc, h⟩ := g_b2s h
        refine ⟨0, _, (by decide), CX12_isWord  hc, ?_⟩
        rintro _ _ ⟨rfl, rfl⟩
        refine ⟨fun c => ?_, fun c => ?_⟩
        · have h := g_bf c h
          exact (lX12_readsLine FU).1 _ _ _  h
        · have h := g_bt c h
          exact (lX12_readsLine FU).1 _ _ _  h
      · have h := g_bt c h
        exact (lX12_readsLine FU).1 _ _ _  h
    · have h := g_bt c h
      exact (lX12_readsLine FU).1 _ _ _  h
  · have h := g_bt c h
    exact (lX12_readsLine FU).1 _ _ _  h

noncomputable def bX12_laysLines_14  (rec : Nat → gS → Int32 → Int32 → Int32 → Option (gS)) (S : gS) (i1 : Int32) (i2 : Int32) (i3 : Int32) : Option (gS) := if (40 : Int32) ≤ i3 then (some S) else (if g_vp ((((40 : Int32) * i1) + i3)) 240 = true then (if g_vp ((((40 : Int32) * i2) + i3)) 240 = true then (g_lt (uR S (208) (Int32.toNatClampNeg ((((40 : Int32) * i2) + i3))) ((sR S (208) (Int32.toNatClampNeg ((((40 : Int32) * i1) + i3)))))) (fun S3 => g_lt (uR S3 (209) (Int32.toNatClampNeg ((((40 : Int32) * i2) + i3))) ((sR S3 (209) (Int32.toNatClampNeg ((((40 : Int32) * i1) + i3)))))) (fun S4 => g_lt (uR S4 (210) (Int32.toNatClampNeg ((((40 : Int32) * i2) + i3))) ((sR S4 (210) (Int32.toNatClampNeg ((((40 : Int32) * i1) + i3)))))) (fun S5 => rec 14 S5 (i1) (i2) ((i3 + 1)))))) else none) else none)
noncomputable def fX12_laysLines  : Nat → Nat → gS → Int32 → Int32 → Int32 → Option (gS)
  | 0 => fun _ _ _ _ _ => none
  | k + 1 => fun pc S i1 i2 i3 => if pc = 14 then bX12_laysLines_14  (fX12_laysLines  k) S i1 i2 i3 else none
noncomputable def FX12_laysLines (S : gS) (i1 : Int32) (i2 : Int32) : Option (gS) := if g_vp (i1) 6 = true then (if g_vp (i2) 6 = true then (g_lt (uR S (207) (Int32.toNatClampNeg (i2)) ((sR S (207) (Int32.toNatClampNeg (i1))))) (fun S3 => fX12_laysLines  FU 14 S3 (i1) (i2) ((0 : Int32)))) else none) else none
set_option maxRecDepth 100000 in
theorem lX12_laysLines  {n : Nat} {R : gS} : ∀ k : Nat, (∀ (S : gS) (i1 : Int32) (i2 : Int32) (i3 : Int32) , fX12_laysLines  k 14 S i1 i2 i3 = some R → gG 0 mX12_laysLines 0 0 (g_Xv mX12_laysLines n 0 0 (hPv (fun S2 => S2 = R))) 14 n (hH S) [some (.ref (180)), some (.int (i1)), some (.int (i2)), some (.int (i3))] [] 0 0) := by
  intro k
  induction k with
  | zero => exact fun _ _ _ _ h => (by cases h)
  | succ k ih =>
    have hrec_14 := ih
    · intro S i1 i2 i3 h
      rw [fX12_laysLines] at h
      have h := g_ip rfl h
      unfold bX12_laysLines_14 at h
      refine zX12_laysLines_14  ?_
      refine ⟨fun c => ?_, fun c => ?_⟩
      · have h := g_ip c h
        cases h; exact rfl
      · have h := g_in c h
        obtain ⟨hv1, h⟩ := g_vs h
        refine ⟨hv1, ?_⟩
        obtain ⟨hv2, h⟩ := g_vs h
        refine ⟨hv2, ?_⟩
        intro S3 eS
        have h := g_lts eS h
        intro S4 eS
        have h := g_lts eS h
        intro S5 eS
        have h := g_lts eS h
        exact hrec_14 _ _ _ _  h
theorem CX12_laysLines {n : Nat} {S : gS} {R : gS} {i1 : Int32} {i2 : Int32}  (h : FX12_laysLines S i1 i2 = some R) : sCv 0 mX12_laysLines n S [.ref (180), .int (i1), .int (i2)] (fun S2 => S2 = R) := by
  unfold FX12_laysLines at h
  refine gCv_of (by decide) (Nat.le_of_ble_eq_true rfl) rfl rfl (zX12_laysLines_0  ?_)
  obtain ⟨hv1, h⟩ := g_vs h
  refine ⟨hv1, ?_⟩
  obtain ⟨hv2, h⟩ := g_vs h
  refine ⟨hv2, ?_⟩
  intro S3 eS
  have h := g_lts eS h
  exact (lX12_laysLines FU) _ _ _ _  h

noncomputable def bX12_laysWord_14  (rec : Nat → gS → Int32 → Int32 → Int32 → Option (gS)) (S : gS) (i1 : Int32) (i2 : Int32) (i3 : Int32) : Option (gS) := if (7 : Int32) ≤ i3 then (some S) else (if g_vp ((((7 : Int32) * i1) + i3)) 42 = true then (if g_vp ((((7 : Int32) * i2) + i3)) 42 = true then (g_lt (uR S (212) (Int32.toNatClampNeg ((((7 : Int32) * i2) + i3))) ((sR S (212) (Int32.toNatClampNeg ((((7 : Int32) * i1) + i3)))))) (fun S3 => rec 14 S3 (i1) (i2) ((i3 + 1)))) else none) else none)
noncomputable def fX12_laysWord  : Nat → Nat → gS → Int32 → Int32 → Int32 → Option (gS)
  | 0 => fun _ _ _ _ _ => none
  | k + 1 => fun pc S i1 i2 i3 => if pc = 14 then bX12_laysWord_14  (fX12_laysWord  k) S i1 i2 i3 else none
noncomputable def FX12_laysWord (S : gS) (i1 : Int32) (i2 : Int32) : Option (gS) := if g_vp (i1) 6 = true then (if g_vp (i2) 6 = true then (g_lt (uR S (211) (Int32.toNatClampNeg (i2)) ((sR S (211) (Int32.toNatClampNeg (i1))))) (fun S3 => fX12_laysWord  FU 14 S3 (i1) (i2) ((0 : Int32)))) else none) else none
set_option maxRecDepth 100000 in
theorem lX12_laysWord  {n : Nat} {R : gS} : ∀ k : Nat, (∀ (S : gS) (i1 : Int32) (i2 : Int32) (i3 : Int32) , fX12_laysWord  k 14 S i1 i2 i3 = some R → gG 0 mX12_laysWord 0 0 (g_Xv mX12_laysWord n 0 0 (hPv (fun S2 => S2 = R))) 14 n (hH S) [some (.ref (180)), some (.int (i1)), some (.int (i2)), some (.int (i3))] [] 0 0) := by
  intro k
  induction k with
  | zero => exact fun _ _ _ _ h => (by cases h)
  | succ k ih =>
    have hrec_14 := ih
    · intro S i1 i2 i3 h
      rw [fX12_laysWord] at h
      have h := g_ip rfl h
      unfold bX12_laysWord_14 at h
      refine zX12_laysWord_14  ?_
      refine ⟨fun c => ?_, fun c => ?_⟩
      · have h := g_ip c h
        cases h; exact rfl
      · have h := g_in c h
        obtain ⟨hv1, h⟩ := g_vs h
        refine ⟨hv1, ?_⟩
        obtain ⟨hv2, h⟩ := g_vs h
        refine ⟨hv2, ?_⟩
        intro S3 eS
        have h := g_lts eS h
        exact hrec_14 _ _ _ _  h
theorem CX12_laysWord {n : Nat} {S : gS} {R : gS} {i1 : Int32} {i2 : Int32}  (h : FX12_laysWord S i1 i2 = some R) : sCv 0 mX12_laysWord n S [.ref (180), .int (i1), .int (i2)] (fun S2 => S2 = R) := by
  unfold FX12_laysWord at h
  refine gCv_of (by decide) (Nat.le_of_ble_eq_true rfl) rfl rfl (zX12_laysWord_0  ?_)
  obtain ⟨hv1, h⟩ := g_vs h
  refine ⟨hv1, ?_⟩
  obtain ⟨hv2, h⟩ := g_vs h
  refine ⟨hv2, ?_⟩
  intro S3 eS
  have h := g_lts eS h
  exact (lX12_laysWord FU) _ _ _ _  h

noncomputable def bX12_laysSeen_14  (rec : Nat → gS → Int32 → Int32 → Int32 → Option (gS)) (S : gS) (i1 : Int32) (i2 : Int32) (i3 : Int32) : Option (gS) := if (8 : Int32) ≤ i3 then (some S) else (if g_vp ((((8 : Int32) * i1) + i3)) 40 = true then (if g_vp ((((8 : Int32) * i2) + i3)) 40 = true then (g_lt (uR S (214) (Int32.toNatClampNeg ((((8 : Int32) * i2) + i3))) ((sR S (214) (Int32.toNatClampNeg ((((8 : Int32) * i1) + i3)))))) (fun S3 => g_lt (uR S3 (215) (Int32.toNatClampNeg ((((8 : Int32) * i2) + i3))) (vp_nar .boolean ((sR S3 (215) (Int32.toNatClampNeg ((((8 : Int32) * i1) + i3))))))) (fun S4 => rec 14 S4 (i1) (i2) ((i3 + 1))))) else none) else none)
noncomputable def fX12_laysSeen  : Nat → Nat → gS → Int32 → Int32 → Int32 → Option (gS)
  | 0 => fun _ _ _ _ _ => none
  | k + 1 => fun pc S i1 i2 i3 => if pc = 14 then bX12_laysSeen_14  (fX12_laysSeen  k) S i1 i2 i3 else none
noncomputable def FX12_laysSeen (S : gS) (i1 : Int32) (i2 : Int32) : Option (gS) := if g_vp (i1) 5 = true then (if g_vp (i2) 5 = true then (g_lt (uR S (213) (Int32.toNatClampNeg (i2)) ((sR S (213) (Int32.toNatClampNeg (i1))))) (fun S3 => fX12_laysSeen  FU 14 S3 (i1) (i2) ((0 : Int32)))) else none) else none
set_option maxRecDepth 100000 in
theorem lX12_laysSeen  {n : Nat} {R : gS} : ∀ k : Nat, (∀ (S : gS) (i1 : Int32) (i2 : Int32) (i3 : Int32) , fX12_laysSeen  k 14 S i1 i2 i3 = some R → gG 0 mX12_laysSeen 0 0 (g_Xv mX12_laysSeen n 0 0 (hPv (fun S2 => S2 = R))) 14 n (hH S) [some (.ref (180)), some (.int (i1)), some (.int (i2)), some (.int (i3))] [] 0 0) := by
  intro k
  induction k with
  | zero => exact fun _ _ _ _ h => (by cases h)
  | succ k ih =>
    have hrec_14 := ih
    · intro S i1 i2 i3 h
      rw [fX12_laysSeen] at h
      have h := g_ip rfl h
      unfold bX12_laysSeen_14 at h
      refine zX12_laysSeen_14  ?_
      refine ⟨fun c => ?_, fun c => ?_⟩
      · have h := g_ip c h
        cases h; exact rfl
      · have h := g_in c h
        obtain ⟨hv1, h⟩ := g_vs h
        refine ⟨hv1, ?_⟩
        obtain ⟨hv2, h⟩ := g_vs h
        refine ⟨hv2, ?_⟩
        intro S3 eS
        have h := g_lts eS h
        intro S4 eS
        have h := g_lts eS h
        exact hrec_14 _ _ _ _  h
theorem CX12_laysSeen {n : Nat} {S : gS} {R : gS} {i1 : Int32} {i2 : Int32}  (h : FX12_laysSeen S i1 i2 = some R) : sCv 0 mX12_laysSeen n S [.ref (180), .int (i1), .int (i2)] (fun S2 => S2 = R) := by
  unfold FX12_laysSeen at h
  refine gCv_of (by decide) (Nat.le_of_ble_eq_true rfl) rfl rfl (zX12_laysSeen_0  ?_)
  obtain ⟨hv1, h⟩ := g_vs h
  refine ⟨hv1, ?_⟩
  obtain ⟨hv2, h⟩ := g_vs h
  refine ⟨hv2, ?_⟩
  intro S3 eS
  have h := g_lts eS h
  exact (lX12_laysSeen FU) _ _ _ _  h

noncomputable def bX12_laysOrder_2  (rec : Nat → gS → Int32 → Int32 → Int32 → Option (gS)) (S : gS) (i1 : Int32) (i2 : Int32) (i3 : Int32) : Option (gS) := if (sR S (182) (0)) ≤ i1 then (some S) else (rec 16 S (i1) ((0 : Int32)) ((0 : Int32)))
noncomputable def bX12_laysOrder_16  (rec : Nat → gS → Int32 → Int32 → Int32 → Option (gS)) (S : gS) (i1 : Int32) (i2 : Int32) (i3 : Int32) : Option (gS) := if (sR S (182) (0)) ≤ i3 then (if g_vp (i2) 7 = true then (g_lt (uR S (222) (Int32.toNatClampNeg (i2)) (i1)) (fun S2 => rec 2 S2 ((i1 + 1)) 0 0)) else none) else (if g_vp (i3) 14 = true then (if g_vp (i1) 14 = true then (if (sR S (186) (Int32.toNatClampNeg (i1))) < (sR S (186) (Int32.toNatClampNeg (i3))) then (rec 16 S (i1) ((i2 + (1 : Int32))) ((i3 + 1))) else (if (sR S (186) (Int32.toNatClampNeg (i3))) = (sR S (186) (Int32.toNatClampNeg (i1))) then (if i1 ≤ i3 then (rec 16 S (i1) ((i2 + (0 : Int32))) ((i3 + 1))) else (rec 16 S (i1) ((i2 + (1 : Int32))) ((i3 + 1)))) else (rec 16 S (i1) ((i2 + (0 : Int32))) ((i3 + 1))))) else none) else none)
noncomputable def fX12_laysOrder  : Nat → Nat → gS → Int32 → Int32 → Int32 → Option (gS)
  | 0 => fun _ _ _ _ _ => none
  | k + 1 => fun pc S i1 i2 i3 => if pc = 2 then bX12_laysOrder_2  (fX12_laysOrder  k) S i1 i2 i3 else if pc = 16 then bX12_laysOrder_16  (fX12_laysOrder  k) S i1 i2 i3 else none
noncomputable def FX12_laysOrder (S : gS)  : Option (gS) := fX12_laysOrder  FU 2 S ((0 : Int32)) 0 0
set_option maxRecDepth 100000 in
theorem lX12_laysOrder  {n : Nat} {R : gS} : ∀ k : Nat, (∀ (S : gS) (i1 : Int32) (i2 : Int32) (i3 : Int32) , fX12_laysOrder  k 2 S i1 i2 i3 = some R → gG 0 mX12_laysOrder 0 0 (g_Xv mX12_laysOrder n 0 0 (hPv (fun S2 => S2 = R))) 2 n (hH S) [some (.ref (180)), some (.int (i1)), none, none] [] 0 0) ∧ (∀ (S : gS) (i1 : Int32) (i2 : Int32) (i3 : Int32) , fX12_laysOrder  k 16 S i1 i2 i3 = some R → gG 0 mX12_laysOrder 0 0 (g_Xv mX12_laysOrder n 0 0 (hPv (fun S2 => S2 = R))) 16 n (hH S) [some (.ref (180)), some (.int (i1)), some (.int (i2)), some (.int (i3))] [] 0 0) := by
  intro k
  induction k with
  | zero => exact ⟨fun _ _ _ _ h => (by cases h), fun _ _ _ _ h => (by cases h)⟩
  | succ k ih =>
    have hrec_2 := ih.1
    have hrec_16 := ih.2
    refine ⟨?_, ?_⟩
    · intro S i1 i2 i3 h
      rw [fX12_laysOrder] at h
      have h := g_ip rfl h
      unfold bX12_laysOrder_2 at h
      refine zX12_laysOrder_2  ?_
      refine ⟨fun c => ?_, fun c => ?_⟩
      · have h := g_ip c h
        cases h; exact rfl
      · have h := g_in c h
        exact hrec_16 _ _ _ _  h
    · intro S i1 i2 i3 h
      rw [fX12_laysOrder] at h
      have h := g_in (by decide) h
      have h := g_ip rfl h
      unfold bX12_laysOrder_16 at h
      refine zX12_laysOrder_16  ?_
      refine ⟨fun c => ?_, fun c => ?_⟩
      · have h := g_ip c h
        obtain ⟨hv1, h⟩ := g_vs h
        refine ⟨hv1, ?_⟩
        intro S2 eS
        have h := g_lts eS h
        exact hrec_2 _ _ _ _  h
      · have h := g_in c h
        obtain ⟨hv3, h⟩ := g_vs h
        refine ⟨hv3, ?_⟩
        obtain ⟨hv4, h⟩ := g_vs h
        refine ⟨hv4, ?_⟩
        refine ⟨fun c => ?_, fun c => ?_⟩
        · have h := g_ip c h
          exact hrec_16 _ _ _ _  h
        · have h := g_in c h
          refine ⟨fun c => ?_, fun c => ?_⟩
          · have h := g_in c h
            exact hrec_16 _ _ _ _  h
          · have h := g_ip c h
            refine ⟨fun c => ?_, fun c => ?_⟩
            · have h := g_ip c h
              exact hrec_16 _ _ _ _  h
            · have h := g_in c h
              exact hrec_16 _ _ _ _  h
theorem CX12_laysOrder {n : Nat} {S : gS} {R : gS}   (h : FX12_laysOrder S  = some R) : sCv 0 mX12_laysOrder n S [.ref (180)] (fun S2 => S2 = R) := by
  unfold FX12_laysOrder at h
  refine gCv_of (by decide) (Nat.le_of_ble_eq_true rfl) rfl rfl (zX12_laysOrder_0  ?_)
  exact (lX12_laysOrder FU).1 _ _ _ _  h

noncomputable def bX12_fresh0_2  (rec : Nat → gS → Int32 → Option (gS)) (S : gS) (i1 : Int32) : Option (gS) := if (59 : Int32) ≤ i1 then (g_lt (uR S (216) (3) ((-1 : Int32))) (fun S1 => rec 30 S1 ((0 : Int32)))) else (if g_vp (i1) 59 = true then (g_lt (uR S (216) (Int32.toNatClampNeg (i1)) ((0 : Int32))) (fun S3 => rec 2 S3 ((i1 + 1)))) else none)
noncomputable def bX12_fresh0_30  (rec : Nat → gS → Int32 → Option (gS)) (S : gS) (i1 : Int32) : Option (gS) := if (sR S (182) (0)) ≤ i1 then (some S) else (if g_vp (i1) 14 = true then (if (sR S (185) (Int32.toNatClampNeg (i1))) = (3 : Int32) then (g_lt (uR S (216) (1) (((sR S (216) (1)) ||| ((1 : Int32) <<< (i1 &&& 31))))) (fun S3 => rec 30 S3 ((i1 + 1)))) else (g_lt (uR S (216) (1) (((sR S (216) (1)) ||| (0 : Int32)))) (fun S2 => rec 30 S2 ((i1 + 1))))) else none)
noncomputable def fX12_fresh0  : Nat → Nat → gS → Int32 → Option (gS)
  | 0 => fun _ _ _ => none
  | k + 1 => fun pc S i1 => if pc = 2 then bX12_fresh0_2  (fX12_fresh0  k) S i1 else if pc = 30 then bX12_fresh0_30  (fX12_fresh0  k) S i1 else none
noncomputable def FX12_fresh0 (S : gS)  : Option (gS) := fX12_fresh0  FU 2 S ((0 : Int32))
set_option maxRecDepth 100000 in
theorem lX12_fresh0  {n : Nat} {R : gS} : ∀ k : Nat, (∀ (S : gS) (i1 : Int32) , fX12_fresh0  k 2 S i1 = some R → gG 0 mX12_fresh0 0 0 (g_Xv mX12_fresh0 n 0 0 (hPv (fun S2 => S2 = R))) 2 n (hH S) [some (.ref (180)), some (.int (i1))] [] 0 0) ∧ (∀ (S : gS) (i1 : Int32) , fX12_fresh0  k 30 S i1 = some R → gG 0 mX12_fresh0 0 0 (g_Xv mX12_fresh0 n 0 0 (hPv (fun S2 => S2 = R))) 30 n (hH S) [some (.ref (180)), some (.int (i1))] [] 0 0) := by
  intro k
  induction k with
  | zero => exact ⟨fun _ _ h => (by cases h), fun _ _ h => (by cases h)⟩
  | succ k ih =>
    have hrec_2 := ih.1
    have hrec_30 := ih.2
    refine ⟨?_, ?_⟩
    · intro S i1 h
      rw [fX12_fresh0] at h
      have h := g_ip rfl h
      unfold bX12_fresh0_2 at h
      refine zX12_fresh0_2  ?_
      refine ⟨fun c => ?_, fun c => ?_⟩
      · have h := g_ip c h
        intro S1 eS
        have h := g_lts eS h
        exact hrec_30 _ _  h
      · have h := g_in c h
        obtain ⟨hv2, h⟩ := g_vs h
        refine ⟨hv2, ?_⟩
        intro S3 eS
        have h := g_lts eS h
        exact hrec_2 _ _  h
    · intro S i1 h
      rw [fX12_fresh0] at h
      have h := g_in (by decide) h
      have h := g_ip rfl h
      unfold bX12_fresh0_30 at h
      refine zX12_fresh0_30  ?_
      refine ⟨fun c => ?_, fun c => ?_⟩
      · have h := g_ip c h
        cases h; exact rfl
      · have h := g_in c h
        obtain ⟨hv1, h⟩ := g_vs h
        refine ⟨hv1, ?_⟩
        refine ⟨fun c => ?_, fun c => ?_⟩
        · have h := g_in c h
          intro S2 eS
          have h := g_lts eS h
          exact hrec_30 _ _  h
        · have h := g_ip c h
          intro S3 eS
          have h := g_lts eS h
          exact hrec_30 _ _  h
theorem CX12_fresh0 {n : Nat} {S : gS} {R : gS}   (h : FX12_fresh0 S  = some R) : sCv 0 mX12_fresh0 n S [.ref (180)] (fun S2 => S2 = R) := by
  unfold FX12_fresh0 at h
  refine gCv_of (by decide) (Nat.le_of_ble_eq_true rfl) rfl rfl (zX12_fresh0_0  ?_)
  exact (lX12_fresh0 FU).1 _ _  h

noncomputable def bX12_front_57  (rec : Nat → gS → Int32 → Option (gS × Int32)) (S : gS) (i1 : Int32) : Option (gS × Int32) := if (4 : Int32) ≤ i1 then (some (S, (0 : Int32))) else (if g_vp (i1) 4 = true then (g_lt (uR S (221) (Int32.toNatClampNeg (i1)) (vp_nar .boolean ((0 : Int32)))) (fun S2 => rec 57 S2 ((i1 + 1)))) else none)
noncomputable def fX12_front  : Nat → Nat → gS → Int32 → Option (gS × Int32)
  | 0 => fun _ _ _ => none
  | k + 1 => fun pc S i1 => if pc = 57 then bX12_front_57  (fX12_front  k) S i1 else none
noncomputable def FX12_front (S : gS)  : Option (gS × Int32) := g_lt (uI S (180) 0 ((0 : Int32))) (fun S1 => g_b2 (FX12_readsAll S1 ) (fun S2 b3 => if b3 = true then (g_b1 (FX12_lays S2 ) (fun S4 => g_b1 (FX12_laysOrder S4 ) (fun S5 => g_b1 (FX12_fresh0 S5 ) (fun S6 => g_lt (uR S6 (207) (0) ((0 : Int32))) (fun S7 => g_lt (uR S7 (211) (0) ((0 : Int32))) (fun S8 => g_lt (uR S8 (213) (0) ((0 : Int32))) (fun S9 => g_lt (uI S9 (180) 53 ((0 : Int32))) (fun S10 => fX12_front  FU 57 S10 ((0 : Int32)))))))))) else (some (S2, (sI S2 (180) 9)))))
set_option maxRecDepth 100000 in
theorem lX12_front  {n : Nat} {R : gS × Int32} : ∀ k : Nat, (∀ (S : gS) (i1 : Int32) , fX12_front  k 57 S i1 = some R → gG 6 mX12_front 0 0 (g_Xj mX12_front n 0 0 (hPi (fun S2 x2 => S2 = R.1 ∧ x2 = R.2))) 57 n (hH S) [some (.ref (180)), some (.int (i1))] [] 0 0) := by
  intro k
  induction k with
  | zero => exact fun _ _ h => (by cases h)
  | succ k ih =>
    have hrec_57 := ih
    · intro S i1 h
      rw [fX12_front] at h
      have h := g_ip rfl h
      unfold bX12_front_57 at h
      refine zX12_front_57  ?_
      refine ⟨fun c => ?_, fun c => ?_⟩
      · have h := g_ip c h
        cases h; exact ⟨rfl, rfl⟩
      · have h := g_in c h
        obtain ⟨hv1, h⟩ := g_vs h
        refine ⟨hv1, ?_⟩
        intro S2 eS
        have h := g_lts eS h
        exact hrec_57 _ _  h
theorem CX12_front {n : Nat} {S : gS} {R : gS × Int32}   (h : FX12_front S  = some R) : sCi 6 mX12_front n S [.ref (180)] (fun S2 x2 => S2 = R.1 ∧ x2 = R.2) := by
  unfold FX12_front at h
  refine gCj_of (by decide) (Nat.le_of_ble_eq_true rfl) rfl rfl (zX12_front_0  ?_)
  intro S1 eS
  have h := g_lts eS h
  obtain ⟨S2, b3, hc, h⟩ := g_b2s h
  refine ⟨5, _, (by decide), CX12_readsAll  hc, ?_⟩
  rintro _ _ ⟨rfl, rfl⟩
  refine ⟨fun c => ?_, fun c => ?_⟩
  · have h := g_bt c h
    obtain ⟨S4, hc, h⟩ := g_b1s h
    refine ⟨1, _, (by decide), CX12_lays  hc, ?_⟩
    rintro _ rfl
    obtain ⟨S5, hc, h⟩ := g_b1s h
    refine ⟨0, _, (by decide), CX12_laysOrder  hc, ?_⟩
    rintro _ rfl
    obtain ⟨S6, hc, h⟩ := g_b1s h
    refine ⟨0, _, (by decide), CX12_fresh0  hc, ?_⟩
    rintro _ rfl
    intro S7 eS
    have h := g_lts eS h
    intro S8 eS
    have h := g_lts eS h
    intro S9 eS
    have h := g_lts eS h
    intro S10 eS
    have h := g_lts eS h
    exact (lX12_front FU) _ _  h
  · have h := g_bf c h
    cases h; exact ⟨rfl, rfl⟩

noncomputable def bX12_day_16  (rec : Nat → gS → Option (gS × Int32)) (S : gS)  : Option (gS × Int32) := if (sI S (180) 6) = 0 then (g_b1 (FX12_laysLines S ((5 : Int32)) ((0 : Int32))) (fun S1 => some (S1, (0 : Int32)))) else (g_b2 (FX12_readsLine S ) (fun S2 b3 => if b3 = true then (rec 16 S2 ) else (some (S2, (sI S2 (180) 9)))))
noncomputable def fX12_day  : Nat → Nat → gS → Option (gS × Int32)
  | 0 => fun _ _  => none
  | k + 1 => fun pc S  => if pc = 16 then bX12_day_16  (fX12_day  k) S  else none
noncomputable def FX12_day (S : gS)  : Option (gS × Int32) := g_lt (uI S (180) 0 ((0 : Int32))) (fun S1 => g_lt (uR S1 (207) (5) ((0 : Int32))) (fun S2 => g_b1 (FX12_begins S2 ) (fun S3 => fX12_day  FU 16 S3 )))
set_option maxRecDepth 100000 in
theorem lX12_day  {n : Nat} {R : gS × Int32} : ∀ k : Nat, (∀ (S : gS)  , fX12_day  k 16 S  = some R → gG 4 mX12_day 0 0 (g_Xj mX12_day n 0 0 (hPi (fun S2 x2 => S2 = R.1 ∧ x2 = R.2))) 16 n (hH S) [some (.ref (180))] [] 0 0) := by
  intro k
  induction k with
  | zero => exact fun _ h => (by cases h)
  | succ k ih =>
    have hrec_16 := ih
    · intro S h
      rw [fX12_day] at h
      have h := g_ip rfl h
      unfold bX12_day_16 at h
      refine zX12_day_16  ?_
      refine ⟨fun c => ?_, fun c => ?_⟩
      · have h := g_ip c h
        obtain ⟨S1, hc, h⟩ := g_b1s h
        refine ⟨0, _, (by decide), CX12_laysLines  hc, ?_⟩
        rintro _ rfl
        cases h; exact ⟨rfl, rfl⟩
      · have h := g_in c h
        obtain ⟨S2, b3, hc, h⟩ := g_b2s h
        refine ⟨3, _, (by decide), CX12_readsLine  hc, ?_⟩
        rintro _ _ ⟨rfl, rfl⟩
        refine ⟨fun c => ?_, fun c => ?_⟩
        · have h := g_bt c h
          exact hrec_16 _   h
        · have h := g_bf c h
          cases h; exact ⟨rfl, rfl⟩
theorem CX12_day {n : Nat} {S : gS} {R : gS × Int32}   (h : FX12_day S  = some R) : sCi 4 mX12_day n S [.ref (180)] (fun S2 x2 => S2 = R.1 ∧ x2 = R.2) := by
  unfold FX12_day at h
  refine gCj_of (by decide) (Nat.le_of_ble_eq_true rfl) rfl rfl (zX12_day_0  ?_)
  intro S1 eS
  have h := g_lts eS h
  intro S2 eS
  have h := g_lts eS h
  obtain ⟨S3, hc, h⟩ := g_b1s h
  refine ⟨2, _, (by decide), CX12_begins  hc, ?_⟩
  rintro _ rfl
  exact (lX12_day FU) _   h

noncomputable def bX12_readsWord_0  (rec : Nat → gS → Option (gS × Bool)) (S : gS)  : Option (gS × Bool) := if (sR S (211) (5)) = 0 then (rec 16 S ) else (if (sI S (180) 6) = 0 then (some (S, true)) else (rec 16 S ))
noncomputable def bX12_readsWord_16  (rec : Nat → gS → Option (gS × Bool)) (S : gS)  : Option (gS × Bool) := g_b2 (FX12_isKept S ) (fun S1 b2 => if b2 = true then (g_b2 (FX12_fails S1 ((1 : Int32))) (fun S13 b14 => some (S13, b14))) else (g_b2 (FX12_letterNamed S1 ((0 : Int32))) (fun S3 x4 => if 0 ≤ x4 then (if (sR S3 (211) (5)) = (7 : Int32) then (g_b2 (FX12_fails S3 ((5 : Int32))) (fun S9 b10 => some (S9, b10))) else (if g_vp (((35 : Int32) + (sR S3 (211) (5)))) 42 = true then (g_lt (uR S3 (212) (Int32.toNatClampNeg (((35 : Int32) + (sR S3 (211) (5))))) (x4)) (fun S6 => g_lt (uR S6 (211) (5) (((sR S6 (211) (5)) + (1 : Int32)))) (fun S7 => g_b1 (FX12_nextToken S7 ) (fun S8 => rec 0 S8 )))) else none)) else (g_b2 (FX12_fails S3 ((2 : Int32))) (fun S11 b12 => some (S11, b12))))))
noncomputable def fX12_readsWord  : Nat → Nat → gS → Option (gS × Bool)
  | 0 => fun _ _  => none
  | k + 1 => fun pc S  => if pc = 0 then bX12_readsWord_0  (fX12_readsWord  k) S  else if pc = 16 then bX12_readsWord_16  (fX12_readsWord  k) S  else none
noncomputable def FX12_readsWord (S : gS)  : Option (gS × Bool) := fX12_readsWord  FU 0 S 
set_option maxRecDepth 100000 in
theorem lX12_readsWord  {n : Nat} {R : gS × Bool} : ∀ k : Nat, (∀ (S : gS)  , fX12_readsWord  k 0 S  = some R → gG 2 mX12_readsWord 0 0 (g_Xz mX12_readsWord n 0 0 (hPz (fun S2 x2 => S2 = R.1 ∧ x2 = R.2))) 0 n (hH S) [some (.ref (180)), none] [] 0 0) ∧ (∀ (S : gS)  , fX12_readsWord  k 16 S  = some R → gG 2 mX12_readsWord 0 0 (g_Xz mX12_readsWord n 0 0 (hPz (fun S2 x2 => S2 = R.1 ∧ x2 = R.2))) 16 n (hH S) [some (.ref (180)), none] [] 0 0) := by
  intro k
  induction k with
  | zero => exact ⟨fun _ h => (by cases h), fun _ h => (by cases h)⟩
  | succ k ih =>
    have hrec_0 := ih.1
    have hrec_16 := ih.2
    refine ⟨?_, ?_⟩
    · intro S h
      rw [fX12_readsWord] at h
      have h := g_ip rfl h
      unfold bX12_readsWord_0 at h
      refine zX12_readsWord_0  ?_
      refine ⟨fun c => ?_, fun c => ?_⟩
      · have h := g_ip c h
        exact hrec_16 _   h
      · have h := g_in c h
        refine ⟨fun c => ?_, fun c => ?_⟩
        · have h := g_ip c h
          cases h; exact ⟨rfl, rfl⟩
        · have h := g_in c h
          exact hrec_16 _   h
    · intro S h
      rw [fX12_readsWord] at h
      have h := g_in (by decide) h
      have h := g_ip rfl h
      unfold bX12_readsWord_16 at h
      refine zX12_readsWord_16  ?_
      obtain ⟨S1, b2, hc, h⟩ := g_b2s h
      refine ⟨0, _, (by decide), CX12_isKept  hc, ?_⟩
      rintro _ _ ⟨rfl, rfl⟩
      refine ⟨fun c => ?_, fun c => ?_⟩
      · have h := g_bf c h
        obtain ⟨S3, x4, hc, h⟩ := g_b2s h
        refine ⟨0, _, (by decide), CX12_letterNamed  hc, ?_⟩
        rintro _ _ ⟨rfl, rfl⟩
        refine ⟨fun c => ?_, fun c => ?_⟩
        · have h := g_ip c h
          refine ⟨fun c => ?_, fun c => ?_⟩
          · have h := g_in c h
            obtain ⟨hv5, h⟩ := g_vs h
            refine ⟨hv5, ?_⟩
            intro S6 eS
            have h := g_lts eS h
            intro S7 eS
            have h := g_lts eS h
            obtain ⟨S8, hc, h⟩ := g_b1s h
            refine ⟨1, _, (by decide), CX12_nextToken  hc, ?_⟩
            rintro _ rfl
            exact hrec_0 _   h
          · have h := g_ip c h
            obtain ⟨S9, b10, hc, h⟩ := g_b2s h
            refine ⟨0, _, (by decide), CX12_fails  hc, ?_⟩
            rintro _ _ ⟨rfl, rfl⟩
            cases h; exact ⟨rfl, rfl⟩
        · have h := g_in c h
          obtain ⟨S11, b12, hc, h⟩ := g_b2s h
          refine ⟨0, _, (by decide), CX12_fails  hc, ?_⟩
          rintro _ _ ⟨rfl, rfl⟩
          cases h; exact ⟨rfl, rfl⟩
      · have h := g_bt c h
        obtain ⟨S13, b14, hc, h⟩ := g_b2s h
        refine ⟨0, _, (by decide), CX12_fails  hc, ?_⟩
        rintro _ _ ⟨rfl, rfl⟩
        cases h; exact ⟨rfl, rfl⟩
theorem CX12_readsWord {n : Nat} {S : gS} {R : gS × Bool}   (h : FX12_readsWord S  = some R) : sCz 2 mX12_readsWord n S [.ref (180)] (fun S2 x2 => S2 = R.1 ∧ x2 = R.2) := by
  unfold FX12_readsWord at h
  refine gCz_of (by decide) (Nat.le_of_ble_eq_true rfl) rfl rfl (?_)
  exact (lX12_readsWord FU).1 _   h

noncomputable def FX12_word (S : gS)  : Option (gS × Int32) := g_lt (uI S (180) 0 ((0 : Int32))) (fun S1 => g_lt (uR S1 (211) (5) ((0 : Int32))) (fun S2 => g_b1 (FX12_begins S2 ) (fun S3 => g_b2 (FX12_readsWord S3 ) (fun S4 b5 => if b5 = true then (g_b1 (FX12_laysWord S4 ((5 : Int32)) ((0 : Int32))) (fun S6 => some (S6, (0 : Int32)))) else (some (S4, (sI S4 (180) 9)))))))
theorem CX12_word {n : Nat} {S : gS} {R : gS × Int32}   (h : FX12_word S  = some R) : sCi 3 mX12_word n S [.ref (180)] (fun S2 x2 => S2 = R.1 ∧ x2 = R.2) := by
  unfold FX12_word at h
  refine gCj_of (by decide) (Nat.le_of_ble_eq_true rfl) rfl rfl (zX12_word_0  ?_)
  intro S1 eS
  have h := g_lts eS h
  intro S2 eS
  have h := g_lts eS h
  obtain ⟨S3, hc, h⟩ := g_b1s h
  refine ⟨2, _, (by decide), CX12_begins  hc, ?_⟩
  rintro _ rfl
  obtain ⟨S4, b5, hc, h⟩ := g_b2s h
  refine ⟨2, _, (by decide), CX12_readsWord  hc, ?_⟩
  rintro _ _ ⟨rfl, rfl⟩
  refine ⟨fun c => ?_, fun c => ?_⟩
  · have h := g_bt c h
    obtain ⟨S6, hc, h⟩ := g_b1s h
    refine ⟨0, _, (by decide), CX12_laysWord  hc, ?_⟩
    rintro _ rfl
    cases h; exact ⟨rfl, rfl⟩
  · have h := g_bf c h
    cases h; exact ⟨rfl, rfl⟩

noncomputable def FX12_isMouth (S : gS) (i1 : Int32) : Option (gS × Bool) := if i1 < 0 then (some (S, false)) else (if (sR S (182) (0)) ≤ i1 then (some (S, false)) else (some (S, true)))
theorem CX12_isMouth {n : Nat} {S : gS} {R : gS × Bool} {i1 : Int32}  (h : FX12_isMouth S i1 = some R) : sCz 0 mX12_isMouth n S [.ref (180), .int (i1)] (fun S2 x2 => S2 = R.1 ∧ x2 = R.2) := by
  unfold FX12_isMouth at h
  refine gCz_of (by decide) (Nat.le_of_ble_eq_true rfl) rfl rfl (zX12_isMouth_0  ?_)
  refine ⟨fun c => ?_, fun c => ?_⟩
  · have h := g_ip c h
    cases h; exact ⟨rfl, rfl⟩
  · have h := g_in c h
    refine ⟨fun c => ?_, fun c => ?_⟩
    · have h := g_ip c h
      cases h; exact ⟨rfl, rfl⟩
    · have h := g_in c h
      cases h; exact ⟨rfl, rfl⟩

noncomputable def FX12_isLetter0 (S : gS) (i1 : Int32) : Option (gS × Bool) := if i1 < 0 then (some (S, false)) else (if (sR S (182) (1)) ≤ i1 then (some (S, false)) else (some (S, true)))
theorem CX12_isLetter0 {n : Nat} {S : gS} {R : gS × Bool} {i1 : Int32}  (h : FX12_isLetter0 S i1 = some R) : sCz 0 mX12_isLetter0 n S [.ref (180), .int (i1)] (fun S2 x2 => S2 = R.1 ∧ x2 = R.2) := by
  unfold FX12_isLetter0 at h
  refine gCz_of (by decide) (Nat.le_of_ble_eq_true rfl) rfl rfl (zX12_isLetter0_0  ?_)
  refine ⟨fun c => ?_, fun c => ?_⟩
  · have h := g_ip c h
    cases h; exact ⟨rfl, rfl⟩
  · have h := g_in c h
    refine ⟨fun c => ?_, fun c => ?_⟩
    · have h := g_ip c h
      cases h; exact ⟨rfl, rfl⟩
    · have h := g_in c h
      cases h; exact ⟨rfl, rfl⟩

noncomputable def FX12_isStopped (S : gS) (i1 : Int32) : Option (gS × Bool) := if (((sR S (216) (1)) >>> (i1 &&& 31)) &&& (1 : Int32)) = (1 : Int32) then (some (S, true)) else (some (S, false))
theorem CX12_isStopped {n : Nat} {S : gS} {R : gS × Bool} {i1 : Int32}  (h : FX12_isStopped S i1 = some R) : sCz 0 mX12_isStopped n S [.ref (180), .int (i1)] (fun S2 x2 => S2 = R.1 ∧ x2 = R.2) := by
  unfold FX12_isStopped at h
  refine gCz_of (by decide) (Nat.le_of_ble_eq_true rfl) rfl rfl (zX12_isStopped_0  ?_)
  refine ⟨fun c => ?_, fun c => ?_⟩
  · have h := g_in c h
    cases h; exact ⟨rfl, rfl⟩
  · have h := g_ip c h
    cases h; exact ⟨rfl, rfl⟩

noncomputable def FX12_every (S : gS)  : Option (gS × Int32) := some (S, (((1 : Int32) <<< ((sR S (182) (0)) &&& 31)) - (1 : Int32)))
theorem CX12_every {n : Nat} {S : gS} {R : gS × Int32}   (h : FX12_every S  = some R) : sCi 0 mX12_every n S [.ref (180)] (fun S2 x2 => S2 = R.1 ∧ x2 = R.2) := by
  unfold FX12_every at h
  refine gCj_of (by decide) (Nat.le_of_ble_eq_true rfl) rfl rfl (zX12_every_0  ?_)
  cases h; exact ⟨rfl, rfl⟩

noncomputable def FX12_rainOf (S : gS) (i1 : Int32) : Option (gS × Int32) := if (sR S (182) (2)) = 0 then (some (S, (0 : Int32))) else (if (sR S (182) (2)) = 0 then none else (if g_vp ((i1 - i1 / (sR S (182) (2)) * (sR S (182) (2)))) 24 = true then (some (S, (sR S (191) (Int32.toNatClampNeg ((i1 - i1 / (sR S (182) (2)) * (sR S (182) (2)))))))) else none))
theorem CX12_rainOf {n : Nat} {S : gS} {R : gS × Int32} {i1 : Int32}  (h : FX12_rainOf S i1 = some R) : sCi 0 mX12_rainOf n S [.ref (180), .int (i1)] (fun S2 x2 => S2 = R.1 ∧ x2 = R.2) := by
  unfold FX12_rainOf at h
  refine gCj_of (by decide) (Nat.le_of_ble_eq_true rfl) rfl rfl (zX12_rainOf_0  ?_)
  refine ⟨fun c => ?_, fun c => ?_⟩
  · have h := g_in c h
    obtain ⟨hz, h⟩ := g_nn h
    refine ⟨hz, ?_⟩
    obtain ⟨hv1, h⟩ := g_vs h
    refine ⟨hv1, ?_⟩
    cases h; exact ⟨rfl, rfl⟩
  · have h := g_ip c h
    cases h; exact ⟨rfl, rfl⟩

noncomputable def FX12_spoutOf (S : gS) (i1 : Int32) : Option (gS × Int32) := g_b2 (FX12_isStopped S (i1)) (fun S1 b2 => if b2 = true then (some (S1, (0 : Int32))) else (if g_vp (((5 : Int32) + i1)) 59 = true then (if g_vp (i1) 14 = true then (if (sR S1 (185) (Int32.toNatClampNeg (i1))) = (1 : Int32) then (some (S1, (if (6 : Int32) < (sR S1 (216) (Int32.toNatClampNeg (((5 : Int32) + i1)))) then (6 : Int32) else (sR S1 (216) (Int32.toNatClampNeg (((5 : Int32) + i1))))))) else (if (sR S1 (185) (Int32.toNatClampNeg (i1))) = (2 : Int32) then (some (S1, (if (1 : Int32) < (sR S1 (216) (Int32.toNatClampNeg (((5 : Int32) + i1)))) then (1 : Int32) else (sR S1 (216) (Int32.toNatClampNeg (((5 : Int32) + i1))))))) else (some (S1, (if (3 : Int32) < (sR S1 (216) (Int32.toNatClampNeg (((5 : Int32) + i1)))) then (3 : Int32) else (sR S1 (216) (Int32.toNatClampNeg (((5 : Int32) + i1))))))))) else none) else none))
theorem CX12_spoutOf {n : Nat} {S : gS} {R : gS × Int32} {i1 : Int32}  (h : FX12_spoutOf S i1 = some R) : sCi 1 mX12_spoutOf n S [.ref (180), .int (i1)] (fun S2 x2 => S2 = R.1 ∧ x2 = R.2) := by
  unfold FX12_spoutOf at h
  refine gCj_of (by decide) (Nat.le_of_ble_eq_true rfl) rfl rfl (zX12_spoutOf_0 (by decide) ?_)
  obtain ⟨S1, b2, hc, h⟩ := g_b2s h
  refine ⟨0, _, (by decide), CX12_isStopped  hc, ?_⟩
  rintro _ _ ⟨rfl, rfl⟩
  refine ⟨fun c => ?_, fun c => ?_⟩
  · have h := g_bf c h
    obtain ⟨hv3, h⟩ := g_vs h
    refine ⟨hv3, ?_⟩
    obtain ⟨hv4, h⟩ := g_vs h
    refine ⟨hv4, ?_⟩
    refine ⟨fun c => ?_, fun c => ?_⟩
    · have h := g_in c h
      refine ⟨fun c => ?_, fun c => ?_⟩
      · have h := g_in c h
        cases h; exact ⟨rfl, rfl⟩
      · have h := g_ip c h
        cases h; exact ⟨rfl, rfl⟩
    · have h := g_ip c h
      cases h; exact ⟨rfl, rfl⟩
  · have h := g_bt c h
    cases h; exact ⟨rfl, rfl⟩

noncomputable def FX12_isSounding (S : gS) (i1 : Int32) (i2 : Int32) : Option (gS × Bool) := if (sR S (193) (0)) = (sR S (192) (0)) then (if g_vp (((12 : Int32) + i1)) 59 = true then (if (sR S (216) (Int32.toNatClampNeg (((12 : Int32) + i1)))) = 0 then (some (S, false)) else (some (S, true))) else none) else (if g_vp (((12 : Int32) + i1)) 59 = true then (g_lt (uR S (206) (1) ((sR S (216) (Int32.toNatClampNeg (((12 : Int32) + i1)))))) (fun S2 => if g_vp (((5 : Int32) + i1)) 59 = true then (g_lt (uR S2 (206) (2) ((sR S2 (216) (Int32.toNatClampNeg (((5 : Int32) + i1)))))) (fun S4 => if g_vp (i1) 14 = true then (g_lt (uR S4 (206) (3) ((sR S4 (186) (Int32.toNatClampNeg (i1))))) (fun S6 => g_lt (uR S6 (206) (4) (i2)) (fun S7 => g_b2 (FX12_worked S7 ((0 : Int32))) (fun S8 x9 => if x9 = 0 then (some (S8, false)) else (some (S8, true)))))) else none)) else none)) else none)
theorem CX12_isSounding {n : Nat} {S : gS} {R : gS × Bool} {i1 : Int32} {i2 : Int32}  (h : FX12_isSounding S i1 i2 = some R) : sCz 3 mX12_isSounding n S [.ref (180), .int (i1), .int (i2)] (fun S2 x2 => S2 = R.1 ∧ x2 = R.2) := by
  unfold FX12_isSounding at h
  refine gCz_of (by decide) (Nat.le_of_ble_eq_true rfl) rfl rfl (zX12_isSounding_0  ?_)
  refine ⟨fun c => ?_, fun c => ?_⟩
  · have h := g_in c h
    obtain ⟨hv1, h⟩ := g_vs h
    refine ⟨hv1, ?_⟩
    intro S2 eS
    have h := g_lts eS h
    obtain ⟨hv3, h⟩ := g_vs h
    refine ⟨hv3, ?_⟩
    intro S4 eS
    have h := g_lts eS h
    obtain ⟨hv5, h⟩ := g_vs h
    refine ⟨hv5, ?_⟩
    intro S6 eS
    have h := g_lts eS h
    intro S7 eS
    have h := g_lts eS h
    obtain ⟨S8, x9, hc, h⟩ := g_b2s h
    refine ⟨2, _, (by decide), CX12_worked  hc, ?_⟩
    rintro _ _ ⟨rfl, rfl⟩
    refine ⟨fun c => ?_, fun c => ?_⟩
    · have h := g_ip c h
      cases h; exact ⟨rfl, rfl⟩
    · have h := g_in c h
      cases h; exact ⟨rfl, rfl⟩
  · have h := g_ip c h
    obtain ⟨hv10, h⟩ := g_vs h
    refine ⟨hv10, ?_⟩
    refine ⟨fun c => ?_, fun c => ?_⟩
    · have h := g_ip c h
      cases h; exact ⟨rfl, rfl⟩
    · have h := g_in c h
      cases h; exact ⟨rfl, rfl⟩

noncomputable def FX12_runsOver (S : gS) (i1 : Int32) : Option (gS) := if g_vp (((5 : Int32) + i1)) 59 = true then (if g_vp (i1) 14 = true then (if (1 : Int32) ≤ ((sR S (216) (Int32.toNatClampNeg (((5 : Int32) + i1)))) - (sR S (188) (Int32.toNatClampNeg (i1)))) then (g_lt (uI S (180) 56 (((sI S (180) 56) ||| ((1 : Int32) <<< (i1 &&& 31))))) (fun S3 => g_lt (uR S3 (216) (Int32.toNatClampNeg (((5 : Int32) + i1))) ((sR S3 (188) (Int32.toNatClampNeg (i1))))) (fun S4 => if 0 ≤ (sR S4 (189) (Int32.toNatClampNeg (i1))) then (if g_vp (((5 : Int32) + (sR S4 (189) (Int32.toNatClampNeg (i1))))) 59 = true then (g_lt (uR S4 (216) (Int32.toNatClampNeg (((5 : Int32) + (sR S4 (189) (Int32.toNatClampNeg (i1)))))) (((sR S4 (216) (Int32.toNatClampNeg (((5 : Int32) + (sR S4 (189) (Int32.toNatClampNeg (i1))))))) + ((sR S (216) (Int32.toNatClampNeg (((5 : Int32) + i1)))) - (sR S (188) (Int32.toNatClampNeg (i1))))))) (fun S6 => some S6)) else none) else (g_lt (uI S4 (180) 55 (((sI S4 (180) 55) + ((sR S (216) (Int32.toNatClampNeg (((5 : Int32) + i1)))) - (sR S (188) (Int32.toNatClampNeg (i1))))))) (fun S7 => some S7))))) else (some S)) else none) else none
theorem CX12_runsOver {n : Nat} {S : gS} {R : gS} {i1 : Int32}  (h : FX12_runsOver S i1 = some R) : sCv 0 mX12_runsOver n S [.ref (180), .int (i1)] (fun S2 => S2 = R) := by
  unfold FX12_runsOver at h
  refine gCv_of (by decide) (Nat.le_of_ble_eq_true rfl) rfl rfl (zX12_runsOver_0  ?_)
  obtain ⟨hv1, h⟩ := g_vs h
  refine ⟨hv1, ?_⟩
  obtain ⟨hv2, h⟩ := g_vs h
  refine ⟨hv2, ?_⟩
  refine ⟨fun c => ?_, fun c => ?_⟩
  · have h := g_ip c h
    intro S3 eS
    have h := g_lts eS h
    intro S4 eS
    have h := g_lts eS h
    refine ⟨fun c => ?_, fun c => ?_⟩
    · have h := g_ip c h
      obtain ⟨hv5, h⟩ := g_vs h
      refine ⟨hv5, ?_⟩
      intro S6 eS
      have h := g_lts eS h
      cases h; exact rfl
    · have h := g_in c h
      intro S7 eS
      have h := g_lts eS h
      cases h; exact rfl
  · have h := g_in c h
    cases h; exact rfl

noncomputable def bX12_readBy_8  (rec : Nat → gS → Int32 → Int32 → Option (gS × Int32)) (S : gS) (i1 : Int32) (i2 : Int32) : Option (gS × Int32) := if (sR S (182) (1)) ≤ i2 then (some (S, (6 : Int32))) else (if g_vp (i2) 12 = true then (if (sR S (190) (Int32.toNatClampNeg (i2))) = i1 then (some (S, i2)) else (rec 8 S (i1) ((i2 + 1)))) else none)
noncomputable def fX12_readBy  : Nat → Nat → gS → Int32 → Int32 → Option (gS × Int32)
  | 0 => fun _ _ _ _ => none
  | k + 1 => fun pc S i1 i2 => if pc = 8 then bX12_readBy_8  (fX12_readBy  k) S i1 i2 else none
noncomputable def FX12_readBy (S : gS) (i1 : Int32) : Option (gS × Int32) := if i1 = 0 then (some (S, (-1 : Int32))) else (fX12_readBy  FU 8 S (i1) ((0 : Int32)))
set_option maxRecDepth 100000 in
theorem lX12_readBy  {n : Nat} {R : gS × Int32} : ∀ k : Nat, (∀ (S : gS) (i1 : Int32) (i2 : Int32) , fX12_readBy  k 8 S i1 i2 = some R → gG 0 mX12_readBy 0 0 (g_Xj mX12_readBy n 0 0 (hPi (fun S2 x2 => S2 = R.1 ∧ x2 = R.2))) 8 n (hH S) [some (.ref (180)), some (.int (i1)), some (.int (i2))] [] 0 0) := by
  intro k
  induction k with
  | zero => exact fun _ _ _ h => (by cases h)
  | succ k ih =>
    have hrec_8 := ih
    · intro S i1 i2 h
      rw [fX12_readBy] at h
      have h := g_ip rfl h
      unfold bX12_readBy_8 at h
      refine zX12_readBy_8  ?_
      refine ⟨fun c => ?_, fun c => ?_⟩
      · have h := g_ip c h
        cases h; exact ⟨rfl, rfl⟩
      · have h := g_in c h
        obtain ⟨hv1, h⟩ := g_vs h
        refine ⟨hv1, ?_⟩
        refine ⟨fun c => ?_, fun c => ?_⟩
        · have h := g_in c h
          exact hrec_8 _ _ _  h
        · have h := g_ip c h
          cases h; exact ⟨rfl, rfl⟩
theorem CX12_readBy {n : Nat} {S : gS} {R : gS × Int32} {i1 : Int32}  (h : FX12_readBy S i1 = some R) : sCi 0 mX12_readBy n S [.ref (180), .int (i1)] (fun S2 x2 => S2 = R.1 ∧ x2 = R.2) := by
  unfold FX12_readBy at h
  refine gCj_of (by decide) (Nat.le_of_ble_eq_true rfl) rfl rfl (zX12_readBy_0  ?_)
  refine ⟨fun c => ?_, fun c => ?_⟩
  · have h := g_in c h
    exact (lX12_readBy FU) _ _ _  h
  · have h := g_ip c h
    cases h; exact ⟨rfl, rfl⟩

noncomputable def bX12_passes_14  (rec : Nat → gS → Int32 → Int32 → Int32 → Option (gS × Int32)) (S : gS) (i1 : Int32) (i2 : Int32) (i3 : Int32) : Option (gS × Int32) := if (sR S (182) (0)) ≤ i3 then (rec 51 S (i1) (i2) ((0 : Int32))) else (if g_vp (((5 : Int32) + i3)) 59 = true then (if g_vp (i3) 14 = true then (g_lt (uR S (216) (Int32.toNatClampNeg (((5 : Int32) + i3))) (((sR S (216) (Int32.toNatClampNeg (((5 : Int32) + i3)))) + (i1 * (sR S (187) (Int32.toNatClampNeg (i3))))))) (fun S3 => rec 14 S3 (i1) (i2) ((i3 + 1)))) else none) else none)
noncomputable def bX12_passes_51  (rec : Nat → gS → Int32 → Int32 → Int32 → Option (gS × Int32)) (S : gS) (i1 : Int32) (i2 : Int32) (i3 : Int32) : Option (gS × Int32) := if (sR S (182) (0)) ≤ i3 then (g_b2 (FX12_readBy S (i2)) (fun S1 x2 => g_lt (uR S1 (216) (2) (i2)) (fun S3 => g_lt (uR S3 (216) (3) (x2)) (fun S4 => if x2 < 0 then (rec 200 S4 0 0 (x2)) else (if (40 : Int32) ≤ (sR S4 (216) (4)) then (rec 200 S4 0 0 (x2)) else (if g_vp (((19 : Int32) + (sR S4 (216) (4)))) 59 = true then (g_lt (uR S4 (216) (Int32.toNatClampNeg (((19 : Int32) + (sR S4 (216) (4))))) (x2)) (fun S6 => g_lt (uR S6 (216) (4) (((sR S6 (216) (4)) + (1 : Int32)))) (fun S7 => rec 200 S7 0 0 (x2)))) else none)))))) else (if g_vp (i3) 7 = true then (g_b1 (FX12_runsOver S ((sR S (222) (Int32.toNatClampNeg (i3))))) (fun S9 => g_b2 (FX12_spoutOf S9 ((sR S (222) (Int32.toNatClampNeg (i3))))) (fun S10 x11 => if g_vp (((12 : Int32) + (sR S (222) (Int32.toNatClampNeg (i3))))) 59 = true then (g_lt (uR S10 (216) (Int32.toNatClampNeg (((12 : Int32) + (sR S (222) (Int32.toNatClampNeg (i3)))))) (x11)) (fun S13 => if g_vp (((5 : Int32) + (sR S (222) (Int32.toNatClampNeg (i3))))) 59 = true then (g_lt (uR S13 (216) (Int32.toNatClampNeg (((5 : Int32) + (sR S (222) (Int32.toNatClampNeg (i3)))))) (((sR S13 (216) (Int32.toNatClampNeg (((5 : Int32) + (sR S (222) (Int32.toNatClampNeg (i3))))))) - (sR S13 (216) (Int32.toNatClampNeg (((12 : Int32) + (sR S (222) (Int32.toNatClampNeg (i3)))))))))) (fun S15 => g_b2 (FX12_isSounding S15 ((sR S (222) (Int32.toNatClampNeg (i3)))) (i1)) (fun S16 b17 => if b17 = true then (rec 51 S16 (i1) ((i2 ||| ((1 : Int32) <<< ((sR S (222) (Int32.toNatClampNeg (i3))) &&& 31)))) ((i3 + 1))) else (rec 51 S16 (i1) ((i2 ||| (0 : Int32))) ((i3 + 1)))))) else none)) else none))) else none)
noncomputable def bX12_passes_200  (rec : Nat → gS → Int32 → Int32 → Int32 → Option (gS × Int32)) (S : gS) (i1 : Int32) (i2 : Int32) (i3 : Int32) : Option (gS × Int32) := g_lt (uR S (216) (0) (((sR S (216) (0)) + (1 : Int32)))) (fun S1 => some (S1, i3))
noncomputable def fX12_passes  : Nat → Nat → gS → Int32 → Int32 → Int32 → Option (gS × Int32)
  | 0 => fun _ _ _ _ _ => none
  | k + 1 => fun pc S i1 i2 i3 => if pc = 14 then bX12_passes_14  (fX12_passes  k) S i1 i2 i3 else if pc = 51 then bX12_passes_51  (fX12_passes  k) S i1 i2 i3 else if pc = 200 then bX12_passes_200  (fX12_passes  k) S i1 i2 i3 else none
noncomputable def FX12_passes (S : gS) (i1 : Int32) : Option (gS × Int32) := g_lt (uI S (180) 55 ((0 : Int32))) (fun S1 => g_lt (uI S1 (180) 56 ((0 : Int32))) (fun S2 => fX12_passes  FU 14 S2 (i1) ((0 : Int32)) ((0 : Int32))))
set_option maxRecDepth 100000 in
theorem lX12_passes  {n : Nat} {R : gS × Int32} : ∀ k : Nat, (∀ (S : gS) (i1 : Int32) (i2 : Int32) (i3 : Int32) , fX12_passes  k 14 S i1 i2 i3 = some R → gG 4 mX12_passes 0 0 (g_Xj mX12_passes n 0 0 (hPi (fun S2 x2 => S2 = R.1 ∧ x2 = R.2))) 14 n (hH S) [some (.ref (180)), some (.int (i1)), some (.int (i2)), some (.int (i3)), none] [] 0 0) ∧ (∀ (S : gS) (i1 : Int32) (i2 : Int32) (i3 : Int32) , fX12_passes  k 51 S i1 i2 i3 = some R → gG 4 mX12_passes 0 0 (g_Xj mX12_passes n 0 0 (hPi (fun S2 x2 => S2 = R.1 ∧ x2 = R.2))) 51 n (hH S) [some (.ref (180)), some (.int (i1)), some (.int (i2)), some (.int (i3)), none] [] 0 0) ∧ (∀ (S : gS) (i1 : Int32) (i2 : Int32) (i3 : Int32) , fX12_passes  k 200 S i1 i2 i3 = some R → gG 4 mX12_passes 0 0 (g_Xj mX12_passes n 0 0 (hPi (fun S2 x2 => S2 = R.1 ∧ x2 = R.2))) 200 n (hH S) [some (.ref (180)), none, none, some (.int (i3)), none] [] 0 0) := by
  intro k
  induction k with
  | zero => exact ⟨fun _ _ _ _ h => (by cases h), fun _ _ _ _ h => (by cases h), fun _ _ _ _ h => (by cases h)⟩
  | succ k ih =>
    have hrec_14 := ih.1
    have hrec_51 := ih.2.1
    have hrec_200 := ih.2.2
    refine ⟨?_, ?_, ?_⟩
    · intro S i1 i2 i3 h
      rw [fX12_passes] at h
      have h := g_ip rfl h
      unfold bX12_passes_14 at h
      refine zX12_passes_14  ?_
      refine ⟨fun c => ?_, fun c => ?_⟩
      · have h := g_ip c h
        exact hrec_51 _ _ _ _  h
      · have h := g_in c h
        obtain ⟨hv1, h⟩ := g_vs h
        refine ⟨hv1, ?_⟩
        obtain ⟨hv2, h⟩ := g_vs h
        refine ⟨hv2, ?_⟩
        intro S3 eS
        have h := g_lts eS h
        exact hrec_14 _ _ _ _  h
    · intro S i1 i2 i3 h
      rw [fX12_passes] at h
      have h := g_in (by decide) h
      have h := g_ip rfl h
      unfold bX12_passes_51 at h
      refine zX12_passes_51  ?_
      refine ⟨fun c => ?_, fun c => ?_⟩
      · have h := g_ip c h
        obtain ⟨S1, x2, hc, h⟩ := g_b2s h
        refine ⟨0, _, (by decide), CX12_readBy  hc, ?_⟩
        rintro _ _ ⟨rfl, rfl⟩
        intro S3 eS
        have h := g_lts eS h
        intro S4 eS
        have h := g_lts eS h
        refine ⟨fun c => ?_, fun c => ?_⟩
        · have h := g_ip c h
          exact hrec_200 _ _ _ _  h
        · have h := g_in c h
          refine ⟨fun c => ?_, fun c => ?_⟩
          · have h := g_ip c h
            exact hrec_200 _ _ _ _  h
          · have h := g_in c h
            obtain ⟨hv5, h⟩ := g_vs h
            refine ⟨hv5, ?_⟩
            intro S6 eS
            have h := g_lts eS h
            intro S7 eS
            have h := g_lts eS h
            exact hrec_200 _ _ _ _  h
      · have h := g_in c h
        obtain ⟨hv8, h⟩ := g_vs h
        refine ⟨hv8, ?_⟩
        obtain ⟨S9, hc, h⟩ := g_b1s h
        refine ⟨0, _, (by decide), CX12_runsOver  hc, ?_⟩
        rintro _ rfl
        obtain ⟨S10, x11, hc, h⟩ := g_b2s h
        refine ⟨1, _, (by decide), CX12_spoutOf  hc, ?_⟩
        rintro _ _ ⟨rfl, rfl⟩
        obtain ⟨hv12, h⟩ := g_vs h
        refine ⟨hv12, ?_⟩
        intro S13 eS
        have h := g_lts eS h
        obtain ⟨hv14, h⟩ := g_vs h
        refine ⟨hv14, ?_⟩
        intro S15 eS
        have h := g_lts eS h
        obtain ⟨S16, b17, hc, h⟩ := g_b2s h
        refine ⟨3, _, (by decide), CX12_isSounding  hc, ?_⟩
        rintro _ _ ⟨rfl, rfl⟩
        refine ⟨fun c => ?_, fun c => ?_⟩
        · have h := g_bf c h
          exact hrec_51 _ _ _ _  h
        · have h := g_bt c h
          exact hrec_51 _ _ _ _  h
    · intro S i1 i2 i3 h
      rw [fX12_passes] at h
      have h := g_in (by decide) h
      have h := g_in (by decide) h
      have h := g_ip rfl h
      unfold bX12_passes_200 at h
      refine zX12_passes_200  ?_
      intro S1 eS
      have h := g_lts eS h
      cases h; exact ⟨rfl, rfl⟩
theorem CX12_passes {n : Nat} {S : gS} {R : gS × Int32} {i1 : Int32}  (h : FX12_passes S i1 = some R) : sCi 4 mX12_passes n S [.ref (180), .int (i1)] (fun S2 x2 => S2 = R.1 ∧ x2 = R.2) := by
  unfold FX12_passes at h
  refine gCj_of (by decide) (Nat.le_of_ble_eq_true rfl) rfl rfl (zX12_passes_0  ?_)
  intro S1 eS
  have h := g_lts eS h
  intro S2 eS
  have h := g_lts eS h
  exact (lX12_passes FU).1 _ _ _ _  h

noncomputable def FX12_passesAsTold (S : gS)  : Option (gS × Int32) := g_b2 (FX12_rainOf S ((sR S (216) (0)))) (fun S1 x2 => g_b2 (FX12_passes S1 (x2)) (fun S3 x4 => some (S3, x4)))
theorem CX12_passesAsTold {n : Nat} {S : gS} {R : gS × Int32}   (h : FX12_passesAsTold S  = some R) : sCi 5 mX12_passesAsTold n S [.ref (180)] (fun S2 x2 => S2 = R.1 ∧ x2 = R.2) := by
  unfold FX12_passesAsTold at h
  refine gCj_of (by decide) (Nat.le_of_ble_eq_true rfl) rfl rfl (zX12_passesAsTold_0  ?_)
  obtain ⟨S1, x2, hc, h⟩ := g_b2s h
  refine ⟨0, _, (by decide), CX12_rainOf  hc, ?_⟩
  rintro _ _ ⟨rfl, rfl⟩
  obtain ⟨S3, x4, hc, h⟩ := g_b2s h
  refine ⟨4, _, (by decide), CX12_passes  hc, ?_⟩
  rintro _ _ ⟨rfl, rfl⟩
  cases h; exact ⟨rfl, rfl⟩

noncomputable def FX12_mouth (S : gS) (i1 : Int32) (i2 : Int32) : Option (gS × Int32) := g_lt (uI S (180) 0 ((0 : Int32))) (fun S1 => g_b2 (FX12_isMouth S1 (i1)) (fun S2 b3 => if b3 = true then (g_b2 (FX12_within S2 (i2) ((0 : Int32)) ((7 : Int32))) (fun S4 b5 => if b5 = true then (if (4 : Int32) ≤ i2 then (if (6 : Int32) ≤ i2 then (if i2 = (6 : Int32) then (some (S4, (((sR S4 (216) (1)) >>> (i1 &&& 31)) &&& (1 : Int32)))) else (if g_vp (((12 : Int32) + i1)) 59 = true then (some (S4, (sR S4 (216) (Int32.toNatClampNeg (((12 : Int32) + i1)))))) else none)) else (if i2 = (4 : Int32) then (if g_vp (i1) 14 = true then (some (S4, (sR S4 (189) (Int32.toNatClampNeg (i1))))) else none) else (if g_vp (((5 : Int32) + i1)) 59 = true then (some (S4, (sR S4 (216) (Int32.toNatClampNeg (((5 : Int32) + i1)))))) else none))) else (if i2 = 0 then (if g_vp (i1) 14 = true then (some (S4, (sR S4 (185) (Int32.toNatClampNeg (i1))))) else none) else (if i2 = (1 : Int32) then (if g_vp (i1) 14 = true then (some (S4, (sR S4 (186) (Int32.toNatClampNeg (i1))))) else none) else (if i2 = (2 : Int32) then (if g_vp (i1) 14 = true then (some (S4, (sR S4 (187) (Int32.toNatClampNeg (i1))))) else none) else (if g_vp (i1) 14 = true then (some (S4, (sR S4 (188) (Int32.toNatClampNeg (i1))))) else none))))) else (some (S4, (-2 : Int32))))) else (some (S2, (-2 : Int32)))))
theorem CX12_mouth {n : Nat} {S : gS} {R : gS × Int32} {i1 : Int32} {i2 : Int32}  (h : FX12_mouth S i1 i2 = some R) : sCi 1 mX12_mouth n S [.ref (180), .int (i1), .int (i2)] (fun S2 x2 => S2 = R.1 ∧ x2 = R.2) := by
  unfold FX12_mouth at h
  refine gCj_of (by decide) (Nat.le_of_ble_eq_true rfl) rfl rfl (zX12_mouth_0  ?_)
  intro S1 eS
  have h := g_lts eS h
  obtain ⟨S2, b3, hc, h⟩ := g_b2s h
  refine ⟨0, _, (by decide), CX12_isMouth  hc, ?_⟩
  rintro _ _ ⟨rfl, rfl⟩
  refine ⟨fun c => ?_, fun c => ?_⟩
  · have h := g_bf c h
    cases h; exact ⟨rfl, rfl⟩
  · have h := g_bt c h
    obtain ⟨S4, b5, hc, h⟩ := g_b2s h
    refine ⟨0, _, (by decide), CX12_within  hc, ?_⟩
    rintro _ _ ⟨rfl, rfl⟩
    refine ⟨fun c => ?_, fun c => ?_⟩
    · have h := g_bt c h
      refine ⟨fun c => ?_, fun c => ?_⟩
      · have h := g_ip c h
        refine ⟨fun c => ?_, fun c => ?_⟩
        · have h := g_ip c h
          refine ⟨fun c => ?_, fun c => ?_⟩
          · have h := g_in c h
            obtain ⟨hv6, h⟩ := g_vs h
            refine ⟨hv6, ?_⟩
            cases h; exact ⟨rfl, rfl⟩
          · have h := g_ip c h
            cases h; exact ⟨rfl, rfl⟩
        · have h := g_in c h
          refine ⟨fun c => ?_, fun c => ?_⟩
          · have h := g_in c h
            obtain ⟨hv7, h⟩ := g_vs h
            refine ⟨hv7, ?_⟩
            cases h; exact ⟨rfl, rfl⟩
          · have h := g_ip c h
            obtain ⟨hv8, h⟩ := g_vs h
            refine ⟨hv8, ?_⟩
            cases h; exact ⟨rfl, rfl⟩
      · have h := g_in c h
        refine ⟨fun c => ?_, fun c => ?_⟩
        · have h := g_in c h
          refine ⟨fun c => ?_, fun c => ?_⟩
          · have h := g_in c h
            refine ⟨fun c => ?_, fun c => ?_⟩
            · have h := g_in c h
              obtain ⟨hv9, h⟩ := g_vs h
              refine ⟨hv9, ?_⟩
              cases h; exact ⟨rfl, rfl⟩
            · have h := g_ip c h
              obtain ⟨hv10, h⟩ := g_vs h
              refine ⟨hv10, ?_⟩
              cases h; exact ⟨rfl, rfl⟩
          · have h := g_ip c h
            obtain ⟨hv11, h⟩ := g_vs h
            refine ⟨hv11, ?_⟩
            cases h; exact ⟨rfl, rfl⟩
        · have h := g_ip c h
          obtain ⟨hv12, h⟩ := g_vs h
          refine ⟨hv12, ?_⟩
          cases h; exact ⟨rfl, rfl⟩
    · have h := g_bf c h
      cases h; exact ⟨rfl, rfl⟩

noncomputable def FX12_letter (S : gS) (i1 : Int32) : Option (gS × Int32) := g_lt (uI S (180) 0 ((0 : Int32))) (fun S1 => g_b2 (FX12_isLetter0 S1 (i1)) (fun S2 b3 => if b3 = true then (if g_vp (i1) 12 = true then (some (S2, (sR S2 (190) (Int32.toNatClampNeg (i1))))) else none) else (some (S2, (-1 : Int32)))))
theorem CX12_letter {n : Nat} {S : gS} {R : gS × Int32} {i1 : Int32}  (h : FX12_letter S i1 = some R) : sCi 1 mX12_letter n S [.ref (180), .int (i1)] (fun S2 x2 => S2 = R.1 ∧ x2 = R.2) := by
  unfold FX12_letter at h
  refine gCj_of (by decide) (Nat.le_of_ble_eq_true rfl) rfl rfl (zX12_letter_0  ?_)
  intro S1 eS
  have h := g_lts eS h
  obtain ⟨S2, b3, hc, h⟩ := g_b2s h
  refine ⟨0, _, (by decide), CX12_isLetter0  hc, ?_⟩
  rintro _ _ ⟨rfl, rfl⟩
  refine ⟨fun c => ?_, fun c => ?_⟩
  · have h := g_bf c h
    cases h; exact ⟨rfl, rfl⟩
  · have h := g_bt c h
    obtain ⟨hv4, h⟩ := g_vs h
    refine ⟨hv4, ?_⟩
    cases h; exact ⟨rfl, rfl⟩

noncomputable def FX12_slate (S : gS) (i1 : Int32) : Option (gS × Int32) := g_lt (uI S (180) 0 ((0 : Int32))) (fun S1 => if i1 < 0 then (some (S1, (-1 : Int32))) else (if (sR S1 (216) (4)) ≤ i1 then (some (S1, (-1 : Int32))) else (if g_vp (((19 : Int32) + i1)) 59 = true then (some (S1, (sR S1 (216) (Int32.toNatClampNeg (((19 : Int32) + i1)))))) else none)))
theorem CX12_slate {n : Nat} {S : gS} {R : gS × Int32} {i1 : Int32}  (h : FX12_slate S i1 = some R) : sCi 0 mX12_slate n S [.ref (180), .int (i1)] (fun S2 x2 => S2 = R.1 ∧ x2 = R.2) := by
  unfold FX12_slate at h
  refine gCj_of (by decide) (Nat.le_of_ble_eq_true rfl) rfl rfl (zX12_slate_0  ?_)
  intro S1 eS
  have h := g_lts eS h
  refine ⟨fun c => ?_, fun c => ?_⟩
  · have h := g_ip c h
    cases h; exact ⟨rfl, rfl⟩
  · have h := g_in c h
    refine ⟨fun c => ?_, fun c => ?_⟩
    · have h := g_ip c h
      cases h; exact ⟨rfl, rfl⟩
    · have h := g_in c h
      obtain ⟨hv2, h⟩ := g_vs h
      refine ⟨hv2, ?_⟩
      cases h; exact ⟨rfl, rfl⟩

noncomputable def bX12_keeps_11  (rec : Nat → gS → Int32 → Option (gS)) (S : gS) (i1 : Int32) : Option (gS) := if (885 : Int32) ≤ i1 then (g_lt (uI S (180) 53 (((sI S (180) 53) - (1 : Int32)))) (fun S1 => rec 49 S1 0)) else (if g_vp ((i1 + (59 : Int32))) 944 = true then (if g_vp (i1) 944 = true then (g_lt (uR S (220) (Int32.toNatClampNeg (i1)) ((sR S (220) (Int32.toNatClampNeg ((i1 + (59 : Int32))))))) (fun S4 => rec 11 S4 ((i1 + 1)))) else none) else none)
noncomputable def bX12_keeps_49  (rec : Nat → gS → Int32 → Option (gS)) (S : gS) (i1 : Int32) : Option (gS) := g_b1 (FX12_copies S (216) (59) ((0 : Int32)) (220) (944) (((59 : Int32) * (sI S (180) 53)))) (fun S1 => g_lt (uI S1 (180) 53 (((sI S1 (180) 53) + (1 : Int32)))) (fun S2 => some S2))
noncomputable def fX12_keeps  : Nat → Nat → gS → Int32 → Option (gS)
  | 0 => fun _ _ _ => none
  | k + 1 => fun pc S i1 => if pc = 11 then bX12_keeps_11  (fX12_keeps  k) S i1 else if pc = 49 then bX12_keeps_49  (fX12_keeps  k) S i1 else none
noncomputable def FX12_keeps (S : gS)  : Option (gS) := if (sI S (180) 53) = (16 : Int32) then (fX12_keeps  FU 11 S ((0 : Int32))) else (fX12_keeps  FU 49 S 0)
set_option maxRecDepth 100000 in
theorem lX12_keeps  {n : Nat} {R : gS} : ∀ k : Nat, (∀ (S : gS) (i1 : Int32) , fX12_keeps  k 11 S i1 = some R → gG 1 mX12_keeps 0 0 (g_Xv mX12_keeps n 0 0 (hPv (fun S2 => S2 = R))) 11 n (hH S) [some (.ref (180)), some (.int (i1))] [] 0 0) ∧ (∀ (S : gS) (i1 : Int32) , fX12_keeps  k 49 S i1 = some R → gG 1 mX12_keeps 0 0 (g_Xv mX12_keeps n 0 0 (hPv (fun S2 => S2 = R))) 49 n (hH S) [some (.ref (180)), none] [] 0 0) := by
  intro k
  induction k with
  | zero => exact ⟨fun _ _ h => (by cases h), fun _ _ h => (by cases h)⟩
  | succ k ih =>
    have hrec_11 := ih.1
    have hrec_49 := ih.2
    refine ⟨?_, ?_⟩
    · intro S i1 h
      rw [fX12_keeps] at h
      have h := g_ip rfl h
      unfold bX12_keeps_11 at h
      refine zX12_keeps_11  ?_
      refine ⟨fun c => ?_, fun c => ?_⟩
      · have h := g_ip c h
        intro S1 eS
        have h := g_lts eS h
        exact hrec_49 _ _  h
      · have h := g_in c h
        obtain ⟨hv2, h⟩ := g_vs h
        refine ⟨hv2, ?_⟩
        obtain ⟨hv3, h⟩ := g_vs h
        refine ⟨hv3, ?_⟩
        intro S4 eS
        have h := g_lts eS h
        exact hrec_11 _ _  h
    · intro S i1 h
      rw [fX12_keeps] at h
      have h := g_in (by decide) h
      have h := g_ip rfl h
      unfold bX12_keeps_49 at h
      refine zX12_keeps_49  ?_
      obtain ⟨S1, hc, h⟩ := g_b1s h
      refine ⟨0, _, (by decide), CX12_copies rfl rfl hc, ?_⟩
      rintro _ rfl
      intro S2 eS
      have h := g_lts eS h
      cases h; exact rfl
theorem CX12_keeps {n : Nat} {S : gS} {R : gS}   (h : FX12_keeps S  = some R) : sCv 1 mX12_keeps n S [.ref (180)] (fun S2 => S2 = R) := by
  unfold FX12_keeps at h
  refine gCv_of (by decide) (Nat.le_of_ble_eq_true rfl) rfl rfl (zX12_keeps_0  ?_)
  refine ⟨fun c => ?_, fun c => ?_⟩
  · have h := g_in c h
    exact (lX12_keeps FU).2 _ _  h
  · have h := g_ip c h
    exact (lX12_keeps FU).1 _ _  h

noncomputable def FX12_minute (S : gS)  : Option (gS × Int32) := g_lt (uI S (180) 0 ((0 : Int32))) (fun S1 => g_b1 (FX12_keeps S1 ) (fun S2 => g_b2 (FX12_passesAsTold S2 ) (fun S3 x4 => some (S3, x4))))
theorem CX12_minute {n : Nat} {S : gS} {R : gS × Int32}   (h : FX12_minute S  = some R) : sCi 6 mX12_minute n S [.ref (180)] (fun S2 x2 => S2 = R.1 ∧ x2 = R.2) := by
  unfold FX12_minute at h
  refine gCj_of (by decide) (Nat.le_of_ble_eq_true rfl) rfl rfl (zX12_minute_0  ?_)
  intro S1 eS
  have h := g_lts eS h
  obtain ⟨S2, hc, h⟩ := g_b1s h
  refine ⟨1, _, (by decide), CX12_keeps  hc, ?_⟩
  rintro _ rfl
  obtain ⟨S3, x4, hc, h⟩ := g_b2s h
  refine ⟨5, _, (by decide), CX12_passesAsTold  hc, ?_⟩
  rintro _ _ ⟨rfl, rfl⟩
  cases h; exact ⟨rfl, rfl⟩

noncomputable def FX12_pours (S : gS) (i1 : Int32) (i2 : Int32) : Option (gS) := if g_vp (((5 : Int32) + i1)) 59 = true then (g_lt (uR S (216) (Int32.toNatClampNeg (((5 : Int32) + i1))) ((if ((sR S (216) (Int32.toNatClampNeg (((5 : Int32) + i1)))) + i2) < (99 : Int32) then ((sR S (216) (Int32.toNatClampNeg (((5 : Int32) + i1)))) + i2) else (99 : Int32)))) (fun S2 => some S2)) else none
theorem CX12_pours {n : Nat} {S : gS} {R : gS} {i1 : Int32} {i2 : Int32}  (h : FX12_pours S i1 i2 = some R) : sCv 1 mX12_pours n S [.ref (180), .int (i1), .int (i2)] (fun S2 => S2 = R) := by
  unfold FX12_pours at h
  refine gCv_of (by decide) (Nat.le_of_ble_eq_true rfl) rfl rfl (zX12_pours_0 (by decide) ?_)
  obtain ⟨hv1, h⟩ := g_vs h
  refine ⟨hv1, ?_⟩
  intro S2 eS
  have h := g_lts eS h
  cases h; exact rfl

noncomputable def FX12_pour (S : gS) (i1 : Int32) (i2 : Int32) : Option (gS × Int32) := g_lt (uI S (180) 0 ((0 : Int32))) (fun S1 => g_b2 (FX12_isMouth S1 (i1)) (fun S2 b3 => if b3 = true then (g_b2 (FX12_within S2 (i2) ((1 : Int32)) ((20 : Int32))) (fun S4 b5 => if b5 = true then (g_b1 (FX12_keeps S4 ) (fun S6 => g_b1 (FX12_pours S6 (i1) (i2)) (fun S7 => if g_vp (((5 : Int32) + i1)) 59 = true then (some (S7, (sR S7 (216) (Int32.toNatClampNeg (((5 : Int32) + i1)))))) else none))) else (some (S4, (-1 : Int32))))) else (some (S2, (-1 : Int32)))))
theorem CX12_pour {n : Nat} {S : gS} {R : gS × Int32} {i1 : Int32} {i2 : Int32}  (h : FX12_pour S i1 i2 = some R) : sCi 2 mX12_pour n S [.ref (180), .int (i1), .int (i2)] (fun S2 x2 => S2 = R.1 ∧ x2 = R.2) := by
  unfold FX12_pour at h
  refine gCj_of (by decide) (Nat.le_of_ble_eq_true rfl) rfl rfl (zX12_pour_0  ?_)
  intro S1 eS
  have h := g_lts eS h
  obtain ⟨S2, b3, hc, h⟩ := g_b2s h
  refine ⟨0, _, (by decide), CX12_isMouth  hc, ?_⟩
  rintro _ _ ⟨rfl, rfl⟩
  refine ⟨fun c => ?_, fun c => ?_⟩
  · have h := g_bf c h
    cases h; exact ⟨rfl, rfl⟩
  · have h := g_bt c h
    obtain ⟨S4, b5, hc, h⟩ := g_b2s h
    refine ⟨0, _, (by decide), CX12_within  hc, ?_⟩
    rintro _ _ ⟨rfl, rfl⟩
    refine ⟨fun c => ?_, fun c => ?_⟩
    · have h := g_bt c h
      obtain ⟨S6, hc, h⟩ := g_b1s h
      refine ⟨1, _, (by decide), CX12_keeps  hc, ?_⟩
      rintro _ rfl
      obtain ⟨S7, hc, h⟩ := g_b1s h
      refine ⟨1, _, (by decide), CX12_pours  hc, ?_⟩
      rintro _ rfl
      obtain ⟨hv8, h⟩ := g_vs h
      refine ⟨hv8, ?_⟩
      cases h; exact ⟨rfl, rfl⟩
    · have h := g_bf c h
      cases h; exact ⟨rfl, rfl⟩

noncomputable def FX12_stop (S : gS) (i1 : Int32) : Option (gS × Bool) := g_lt (uI S (180) 0 ((0 : Int32))) (fun S1 => g_b2 (FX12_isMouth S1 (i1)) (fun S2 b3 => if b3 = true then (g_b2 (FX12_isStopped S2 (i1)) (fun S4 b5 => if b5 = true then (some (S4, false)) else (g_b1 (FX12_keeps S4 ) (fun S6 => g_lt (uR S6 (216) (1) (((sR S6 (216) (1)) ^^^ ((1 : Int32) <<< (i1 &&& 31))))) (fun S7 => some (S7, true)))))) else (some (S2, false))))
theorem CX12_stop {n : Nat} {S : gS} {R : gS × Bool} {i1 : Int32}  (h : FX12_stop S i1 = some R) : sCz 2 mX12_stop n S [.ref (180), .int (i1)] (fun S2 x2 => S2 = R.1 ∧ x2 = R.2) := by
  unfold FX12_stop at h
  refine gCz_of (by decide) (Nat.le_of_ble_eq_true rfl) rfl rfl (zX12_stop_0  ?_)
  intro S1 eS
  have h := g_lts eS h
  obtain ⟨S2, b3, hc, h⟩ := g_b2s h
  refine ⟨0, _, (by decide), CX12_isMouth  hc, ?_⟩
  rintro _ _ ⟨rfl, rfl⟩
  refine ⟨fun c => ?_, fun c => ?_⟩
  · have h := g_bf c h
    cases h; exact ⟨rfl, rfl⟩
  · have h := g_bt c h
    obtain ⟨S4, b5, hc, h⟩ := g_b2s h
    refine ⟨0, _, (by decide), CX12_isStopped  hc, ?_⟩
    rintro _ _ ⟨rfl, rfl⟩
    refine ⟨fun c => ?_, fun c => ?_⟩
    · have h := g_bf c h
      obtain ⟨S6, hc, h⟩ := g_b1s h
      refine ⟨1, _, (by decide), CX12_keeps  hc, ?_⟩
      rintro _ rfl
      intro S7 eS
      have h := g_lts eS h
      cases h; exact ⟨rfl, rfl⟩
    · have h := g_bt c h
      cases h; exact ⟨rfl, rfl⟩

noncomputable def FX12_clear (S : gS) (i1 : Int32) : Option (gS × Bool) := g_lt (uI S (180) 0 ((0 : Int32))) (fun S1 => g_b2 (FX12_isMouth S1 (i1)) (fun S2 b3 => if b3 = true then (g_b2 (FX12_isStopped S2 (i1)) (fun S4 b5 => if b5 = true then (g_b1 (FX12_keeps S4 ) (fun S6 => g_lt (uR S6 (216) (1) (((sR S6 (216) (1)) ^^^ ((1 : Int32) <<< (i1 &&& 31))))) (fun S7 => some (S7, true)))) else (some (S4, false)))) else (some (S2, false))))
theorem CX12_clear {n : Nat} {S : gS} {R : gS × Bool} {i1 : Int32}  (h : FX12_clear S i1 = some R) : sCz 2 mX12_clear n S [.ref (180), .int (i1)] (fun S2 x2 => S2 = R.1 ∧ x2 = R.2) := by
  unfold FX12_clear at h
  refine gCz_of (by decide) (Nat.le_of_ble_eq_true rfl) rfl rfl (zX12_clear_0  ?_)
  intro S1 eS
  have h := g_lts eS h
  obtain ⟨S2, b3, hc, h⟩ := g_b2s h
  refine ⟨0, _, (by decide), CX12_isMouth  hc, ?_⟩
  rintro _ _ ⟨rfl, rfl⟩
  refine ⟨fun c => ?_, fun c => ?_⟩
  · have h := g_bf c h
    cases h; exact ⟨rfl, rfl⟩
  · have h := g_bt c h
    obtain ⟨S4, b5, hc, h⟩ := g_b2s h
    refine ⟨0, _, (by decide), CX12_isStopped  hc, ?_⟩
    rintro _ _ ⟨rfl, rfl⟩
    refine ⟨fun c => ?_, fun c => ?_⟩
    · have h := g_bt c h
      obtain ⟨S6, hc, h⟩ := g_b1s h
      refine ⟨1, _, (by decide), CX12_keeps  hc, ?_⟩
      rintro _ rfl
      intro S7 eS
      have h := g_lts eS h
      cases h; exact ⟨rfl, rfl⟩
    · have h := g_bf c h
      cases h; exact ⟨rfl, rfl⟩

noncomputable def FX12_undo (S : gS)  : Option (gS × Bool) := g_lt (uI S (180) 0 ((0 : Int32))) (fun S1 => if (sI S1 (180) 53) = 0 then (some (S1, false)) else (g_lt (uI S1 (180) 53 (((sI S1 (180) 53) - (1 : Int32)))) (fun S2 => g_b1 (FX12_copies S2 (220) (944) (((59 : Int32) * (sI S2 (180) 53))) (216) (59) ((0 : Int32))) (fun S3 => some (S3, true)))))
theorem CX12_undo {n : Nat} {S : gS} {R : gS × Bool}   (h : FX12_undo S  = some R) : sCz 1 mX12_undo n S [.ref (180)] (fun S2 x2 => S2 = R.1 ∧ x2 = R.2) := by
  unfold FX12_undo at h
  refine gCz_of (by decide) (Nat.le_of_ble_eq_true rfl) rfl rfl (zX12_undo_0  ?_)
  intro S1 eS
  have h := g_lts eS h
  refine ⟨fun c => ?_, fun c => ?_⟩
  · have h := g_in c h
    intro S2 eS
    have h := g_lts eS h
    obtain ⟨S3, hc, h⟩ := g_b1s h
    refine ⟨0, _, (by decide), CX12_copies rfl rfl hc, ?_⟩
    rintro _ rfl
    cases h; exact ⟨rfl, rfl⟩
  · have h := g_ip c h
    cases h; exact ⟨rfl, rfl⟩

noncomputable def bX12_holesNow_4  (rec : Nat → gS → Int32 → Int32 → Option (gS × Int32)) (S : gS) (i1 : Int32) (i2 : Int32) : Option (gS × Int32) := if (sR S (216) (4)) ≤ i2 then (some (S, i1)) else (if g_vp (((19 : Int32) + i2)) 59 = true then (if (sR S (216) (Int32.toNatClampNeg (((19 : Int32) + i2)))) = (6 : Int32) then (rec 4 S ((i1 + (1 : Int32))) ((i2 + 1))) else (rec 4 S ((i1 + (0 : Int32))) ((i2 + 1)))) else none)
noncomputable def fX12_holesNow  : Nat → Nat → gS → Int32 → Int32 → Option (gS × Int32)
  | 0 => fun _ _ _ _ => none
  | k + 1 => fun pc S i1 i2 => if pc = 4 then bX12_holesNow_4  (fX12_holesNow  k) S i1 i2 else none
noncomputable def FX12_holesNow (S : gS)  : Option (gS × Int32) := fX12_holesNow  FU 4 S ((0 : Int32)) ((0 : Int32))
set_option maxRecDepth 100000 in
theorem lX12_holesNow  {n : Nat} {R : gS × Int32} : ∀ k : Nat, (∀ (S : gS) (i1 : Int32) (i2 : Int32) , fX12_holesNow  k 4 S i1 i2 = some R → gG 0 mX12_holesNow 0 0 (g_Xj mX12_holesNow n 0 0 (hPi (fun S2 x2 => S2 = R.1 ∧ x2 = R.2))) 4 n (hH S) [some (.ref (180)), some (.int (i1)), some (.int (i2))] [] 0 0) := by
  intro k
  induction k with
  | zero => exact fun _ _ _ h => (by cases h)
  | succ k ih =>
    have hrec_4 := ih
    · intro S i1 i2 h
      rw [fX12_holesNow] at h
      have h := g_ip rfl h
      unfold bX12_holesNow_4 at h
      refine zX12_holesNow_4  ?_
      refine ⟨fun c => ?_, fun c => ?_⟩
      · have h := g_ip c h
        cases h; exact ⟨rfl, rfl⟩
      · have h := g_in c h
        obtain ⟨hv1, h⟩ := g_vs h
        refine ⟨hv1, ?_⟩
        refine ⟨fun c => ?_, fun c => ?_⟩
        · have h := g_in c h
          exact hrec_4 _ _ _  h
        · have h := g_ip c h
          exact hrec_4 _ _ _  h
theorem CX12_holesNow {n : Nat} {S : gS} {R : gS × Int32}   (h : FX12_holesNow S  = some R) : sCi 0 mX12_holesNow n S [.ref (180)] (fun S2 x2 => S2 = R.1 ∧ x2 = R.2) := by
  unfold FX12_holesNow at h
  refine gCj_of (by decide) (Nat.le_of_ble_eq_true rfl) rfl rfl (zX12_holesNow_0  ?_)
  exact (lX12_holesNow FU) _ _ _  h

noncomputable def bX12_judged_41  (rec : Nat → gS → Int32 → Int32 → Int32 → Int32 → Int32 → Option (gS × Int32)) (S : gS) (i1 : Int32) (i2 : Int32) (i3 : Int32) (i4 : Int32) (i5 : Int32) : Option (gS × Int32) := if (sR S (207) (0)) ≤ i4 then (g_b2 (FX12_holesNow S ) (fun S1 x2 => g_b1 (FX12_copies S1 (217) (59) ((0 : Int32)) (216) (59) ((0 : Int32))) (fun S3 => if i1 = 0 then (some (S3, i2)) else (if i1 = (1 : Int32) then (some (S3, i3)) else (some (S3, x2)))))) else (if g_vp (i4) 240 = true then (if (sR S (208) (Int32.toNatClampNeg (i4))) = 0 then (g_b2 (FX12_passesAsTold S ) (fun S8 x9 => g_b2 (FX12_within S8 (x9) ((0 : Int32)) ((5 : Int32))) (fun S10 b11 => if b11 = true then (if 0 ≤ i3 then (rec 41 S10 (i1) (i2) (i3) ((i4 + 1)) 0) else (rec 41 S10 (i1) (i2) (i4) ((i4 + 1)) 0)) else (rec 41 S10 (i1) (i2) (i3) ((i4 + 1)) 0)))) else (if (sR S (208) (Int32.toNatClampNeg (i4))) = (1 : Int32) then (g_b1 (FX12_pours S ((sR S (209) (Int32.toNatClampNeg (i4)))) ((sR S (210) (Int32.toNatClampNeg (i4))))) (fun S7 => rec 41 S7 (i1) (i2) (i3) ((i4 + 1)) 0)) else (g_b2 (FX12_isStopped S ((sR S (209) (Int32.toNatClampNeg (i4))))) (fun S5 b6 => if (sR S5 (208) (Int32.toNatClampNeg (i4))) = (3 : Int32) then (if (g_b b6) = (1 : Int32) then (rec 145 S5 (i1) (i2) (i3) (i4) ((sR S (209) (Int32.toNatClampNeg (i4))))) else (rec 161 S5 (i1) (i2) (i3) (i4) 0)) else (if (g_b b6) = (0 : Int32) then (rec 145 S5 (i1) (i2) (i3) (i4) ((sR S (209) (Int32.toNatClampNeg (i4))))) else (rec 161 S5 (i1) (i2) (i3) (i4) 0)))))) else none)
noncomputable def bX12_judged_145  (rec : Nat → gS → Int32 → Int32 → Int32 → Int32 → Int32 → Option (gS × Int32)) (S : gS) (i1 : Int32) (i2 : Int32) (i3 : Int32) (i4 : Int32) (i5 : Int32) : Option (gS × Int32) := g_lt (uR S (216) (1) (((sR S (216) (1)) ^^^ ((1 : Int32) <<< (i5 &&& 31))))) (fun S1 => rec 41 S1 (i1) (i2) (i3) ((i4 + 1)) 0)
noncomputable def bX12_judged_161  (rec : Nat → gS → Int32 → Int32 → Int32 → Int32 → Int32 → Option (gS × Int32)) (S : gS) (i1 : Int32) (i2 : Int32) (i3 : Int32) (i4 : Int32) (i5 : Int32) : Option (gS × Int32) := if 0 ≤ i2 then (rec 41 S (i1) (i2) (i3) ((i4 + 1)) 0) else (rec 41 S (i1) (i4) (i3) ((i4 + 1)) 0)
noncomputable def fX12_judged  : Nat → Nat → gS → Int32 → Int32 → Int32 → Int32 → Int32 → Option (gS × Int32)
  | 0 => fun _ _ _ _ _ _ _ => none
  | k + 1 => fun pc S i1 i2 i3 i4 i5 => if pc = 41 then bX12_judged_41  (fX12_judged  k) S i1 i2 i3 i4 i5 else if pc = 145 then bX12_judged_145  (fX12_judged  k) S i1 i2 i3 i4 i5 else if pc = 161 then bX12_judged_161  (fX12_judged  k) S i1 i2 i3 i4 i5 else none
noncomputable def FX12_judged (S : gS) (i1 : Int32) : Option (gS × Int32) := g_lt (uI S (180) 0 ((0 : Int32))) (fun S1 => g_b2 (FX12_within S1 (i1) ((0 : Int32)) ((2 : Int32))) (fun S2 b3 => if b3 = true then (g_b1 (FX12_copies S2 (216) (59) ((0 : Int32)) (217) (59) ((0 : Int32))) (fun S4 => g_b1 (FX12_fresh0 S4 ) (fun S5 => fX12_judged  FU 41 S5 (i1) ((-1 : Int32)) ((-1 : Int32)) ((0 : Int32)) 0))) else (some (S2, (-2 : Int32)))))
set_option maxRecDepth 100000 in
theorem lX12_judged  {n : Nat} {R : gS × Int32} : ∀ k : Nat, (∀ (S : gS) (i1 : Int32) (i2 : Int32) (i3 : Int32) (i4 : Int32) (i5 : Int32) , fX12_judged  k 41 S i1 i2 i3 i4 i5 = some R → gG 6 mX12_judged 0 0 (g_Xj mX12_judged n 0 0 (hPi (fun S2 x2 => S2 = R.1 ∧ x2 = R.2))) 41 n (hH S) [some (.ref (180)), some (.int (i1)), some (.int (i2)), some (.int (i3)), some (.int (i4)), none] [] 0 0) ∧ (∀ (S : gS) (i1 : Int32) (i2 : Int32) (i3 : Int32) (i4 : Int32) (i5 : Int32) , fX12_judged  k 145 S i1 i2 i3 i4 i5 = some R → gG 6 mX12_judged 0 0 (g_Xj mX12_judged n 0 0 (hPi (fun S2 x2 => S2 = R.1 ∧ x2 = R.2))) 145 n (hH S) [some (.ref (180)), some (.int (i1)), some (.int (i2)), some (.int (i3)), some (.int (i4)), some (.int (i5))] [] 0 0) ∧ (∀ (S : gS) (i1 : Int32) (i2 : Int32) (i3 : Int32) (i4 : Int32) (i5 : Int32) , fX12_judged  k 161 S i1 i2 i3 i4 i5 = some R → gG 6 mX12_judged 0 0 (g_Xj mX12_judged n 0 0 (hPi (fun S2 x2 => S2 = R.1 ∧ x2 = R.2))) 161 n (hH S) [some (.ref (180)), some (.int (i1)), some (.int (i2)), some (.int (i3)), some (.int (i4)), none] [] 0 0) := by
  intro k
  induction k with
  | zero => exact ⟨fun _ _ _ _ _ _ h => (by cases h), fun _ _ _ _ _ _ h => (by cases h), fun _ _ _ _ _ _ h => (by cases h)⟩
  | succ k ih =>
    have hrec_41 := ih.1
    have hrec_145 := ih.2.1
    have hrec_161 := ih.2.2
    refine ⟨?_, ?_, ?_⟩
    · intro S i1 i2 i3 i4 i5 h
      rw [fX12_judged] at h
      have h := g_ip rfl h
      unfold bX12_judged_41 at h
      refine zX12_judged_41  ?_
      refine ⟨fun c => ?_, fun c => ?_⟩
      · have h := g_ip c h
        obtain ⟨S1, x2, hc, h⟩ := g_b2s h
        refine ⟨0, _, (by decide), CX12_holesNow  hc, ?_⟩
        rintro _ _ ⟨rfl, rfl⟩
        obtain ⟨S3, hc, h⟩ := g_b1s h
        refine ⟨0, _, (by decide), CX12_copies rfl rfl hc, ?_⟩
        rintro _ rfl
        refine ⟨fun c => ?_, fun c => ?_⟩
        · have h := g_in c h
          refine ⟨fun c => ?_, fun c => ?_⟩
          · have h := g_in c h
            cases h; exact ⟨rfl, rfl⟩
          · have h := g_ip c h
            cases h; exact ⟨rfl, rfl⟩
        · have h := g_ip c h
          cases h; exact ⟨rfl, rfl⟩
      · have h := g_in c h
        obtain ⟨hv4, h⟩ := g_vs h
        refine ⟨hv4, ?_⟩
        refine ⟨fun c => ?_, fun c => ?_⟩
        · have h := g_in c h
          refine ⟨fun c => ?_, fun c => ?_⟩
          · have h := g_in c h
            obtain ⟨S5, b6, hc, h⟩ := g_b2s h
            refine ⟨0, _, (by decide), CX12_isStopped  hc, ?_⟩
            rintro _ _ ⟨rfl, rfl⟩
            refine ⟨fun c => ?_, fun c => ?_⟩
            · have h := g_in c h
              refine ⟨fun c => ?_, fun c => ?_⟩
              · have h := g_in c h
                exact hrec_161 _ _ _ _ _ _  h
              · have h := g_ip c h
                exact hrec_145 _ _ _ _ _ _  h
            · have h := g_ip c h
              refine ⟨fun c => ?_, fun c => ?_⟩
              · have h := g_in c h
                exact hrec_161 _ _ _ _ _ _  h
              · have h := g_ip c h
                exact hrec_145 _ _ _ _ _ _  h
          · have h := g_ip c h
            obtain ⟨S7, hc, h⟩ := g_b1s h
            refine ⟨1, _, (by decide), CX12_pours  hc, ?_⟩
            rintro _ rfl
            exact hrec_41 _ _ _ _ _ _  h
        · have h := g_ip c h
          obtain ⟨S8, x9, hc, h⟩ := g_b2s h
          refine ⟨5, _, (by decide), CX12_passesAsTold  hc, ?_⟩
          rintro _ _ ⟨rfl, rfl⟩
          obtain ⟨S10, b11, hc, h⟩ := g_b2s h
          refine ⟨0, _, (by decide), CX12_within  hc, ?_⟩
          rintro _ _ ⟨rfl, rfl⟩
          refine ⟨fun c => ?_, fun c => ?_⟩
          · have h := g_bf c h
            exact hrec_41 _ _ _ _ _ _  h
          · have h := g_bt c h
            refine ⟨fun c => ?_, fun c => ?_⟩
            · have h := g_ip c h
              exact hrec_41 _ _ _ _ _ _  h
            · have h := g_in c h
              exact hrec_41 _ _ _ _ _ _  h
    · intro S i1 i2 i3 i4 i5 h
      rw [fX12_judged] at h
      have h := g_in (by decide) h
      have h := g_ip rfl h
      unfold bX12_judged_145 at h
      refine zX12_judged_145  ?_
      intro S1 eS
      have h := g_lts eS h
      exact hrec_41 _ _ _ _ _ _  h
    · intro S i1 i2 i3 i4 i5 h
      rw [fX12_judged] at h
      have h := g_in (by decide) h
      have h := g_in (by decide) h
      have h := g_ip rfl h
      unfold bX12_judged_161 at h
      refine zX12_judged_161  ?_
      refine ⟨fun c => ?_, fun c => ?_⟩
      · have h := g_ip c h
        exact hrec_41 _ _ _ _ _ _  h
      · have h := g_in c h
        exact hrec_41 _ _ _ _ _ _  h
theorem CX12_judged {n : Nat} {S : gS} {R : gS × Int32} {i1 : Int32}  (h : FX12_judged S i1 = some R) : sCi 6 mX12_judged n S [.ref (180), .int (i1)] (fun S2 x2 => S2 = R.1 ∧ x2 = R.2) := by
  unfold FX12_judged at h
  refine gCj_of (by decide) (Nat.le_of_ble_eq_true rfl) rfl rfl (zX12_judged_0  ?_)
  intro S1 eS
  have h := g_lts eS h
  obtain ⟨S2, b3, hc, h⟩ := g_b2s h
  refine ⟨0, _, (by decide), CX12_within  hc, ?_⟩
  rintro _ _ ⟨rfl, rfl⟩
  refine ⟨fun c => ?_, fun c => ?_⟩
  · have h := g_bt c h
    obtain ⟨S4, hc, h⟩ := g_b1s h
    refine ⟨0, _, (by decide), CX12_copies rfl rfl hc, ?_⟩
    rintro _ rfl
    obtain ⟨S5, hc, h⟩ := g_b1s h
    refine ⟨0, _, (by decide), CX12_fresh0  hc, ?_⟩
    rintro _ rfl
    exact (lX12_judged FU).1 _ _ _ _ _ _  h
  · have h := g_bf c h
    cases h; exact ⟨rfl, rfl⟩

noncomputable def bX12_later_40  (rec : Nat → gS → Int32 → Int32 → Int32 → Option (gS × Int32)) (S : gS) (i1 : Int32) (i2 : Int32) (i3 : Int32) : Option (gS × Int32) := if i2 ≤ i3 then (if g_vp (((5 : Int32) + i1)) 59 = true then (g_b1 (FX12_copies S (218) (59) ((0 : Int32)) (216) (59) ((0 : Int32))) (fun S2 => some (S2, (sR S (216) (Int32.toNatClampNeg (((5 : Int32) + i1))))))) else none) else (g_b2 (FX12_passesAsTold S ) (fun S3 x4 => rec 40 S3 (i1) (i2) ((i3 + 1))))
noncomputable def fX12_later  : Nat → Nat → gS → Int32 → Int32 → Int32 → Option (gS × Int32)
  | 0 => fun _ _ _ _ _ => none
  | k + 1 => fun pc S i1 i2 i3 => if pc = 40 then bX12_later_40  (fX12_later  k) S i1 i2 i3 else none
noncomputable def FX12_later (S : gS) (i1 : Int32) (i2 : Int32) : Option (gS × Int32) := g_lt (uI S (180) 0 ((0 : Int32))) (fun S1 => g_b2 (FX12_isMouth S1 (i1)) (fun S2 b3 => if b3 = true then (g_b2 (FX12_within S2 (i2) ((0 : Int32)) ((60 : Int32))) (fun S4 b5 => if b5 = true then (g_b1 (FX12_copies S4 (216) (59) ((0 : Int32)) (218) (59) ((0 : Int32))) (fun S6 => fX12_later  FU 40 S6 (i1) (i2) ((0 : Int32)))) else (some (S4, (-1 : Int32))))) else (some (S2, (-1 : Int32)))))
set_option maxRecDepth 100000 in
theorem lX12_later  {n : Nat} {R : gS × Int32} : ∀ k : Nat, (∀ (S : gS) (i1 : Int32) (i2 : Int32) (i3 : Int32) , fX12_later  k 40 S i1 i2 i3 = some R → gG 6 mX12_later 0 0 (g_Xj mX12_later n 0 0 (hPi (fun S2 x2 => S2 = R.1 ∧ x2 = R.2))) 40 n (hH S) [some (.ref (180)), some (.int (i1)), some (.int (i2)), some (.int (i3))] [] 0 0) := by
  intro k
  induction k with
  | zero => exact fun _ _ _ _ h => (by cases h)
  | succ k ih =>
    have hrec_40 := ih
    · intro S i1 i2 i3 h
      rw [fX12_later] at h
      have h := g_ip rfl h
      unfold bX12_later_40 at h
      refine zX12_later_40  ?_
      refine ⟨fun c => ?_, fun c => ?_⟩
      · have h := g_ip c h
        obtain ⟨hv1, h⟩ := g_vs h
        refine ⟨hv1, ?_⟩
        obtain ⟨S2, hc, h⟩ := g_b1s h
        refine ⟨0, _, (by decide), CX12_copies rfl rfl hc, ?_⟩
        rintro _ rfl
        cases h; exact ⟨rfl, rfl⟩
      · have h := g_in c h
        obtain ⟨S3, x4, hc, h⟩ := g_b2s h
        refine ⟨5, _, (by decide), CX12_passesAsTold  hc, ?_⟩
        rintro _ _ ⟨rfl, rfl⟩
        exact hrec_40 _ _ _ _  h
theorem CX12_later {n : Nat} {S : gS} {R : gS × Int32} {i1 : Int32} {i2 : Int32}  (h : FX12_later S i1 i2 = some R) : sCi 6 mX12_later n S [.ref (180), .int (i1), .int (i2)] (fun S2 x2 => S2 = R.1 ∧ x2 = R.2) := by
  unfold FX12_later at h
  refine gCj_of (by decide) (Nat.le_of_ble_eq_true rfl) rfl rfl (zX12_later_0  ?_)
  intro S1 eS
  have h := g_lts eS h
  obtain ⟨S2, b3, hc, h⟩ := g_b2s h
  refine ⟨0, _, (by decide), CX12_isMouth  hc, ?_⟩
  rintro _ _ ⟨rfl, rfl⟩
  refine ⟨fun c => ?_, fun c => ?_⟩
  · have h := g_bf c h
    cases h; exact ⟨rfl, rfl⟩
  · have h := g_bt c h
    obtain ⟨S4, b5, hc, h⟩ := g_b2s h
    refine ⟨0, _, (by decide), CX12_within  hc, ?_⟩
    rintro _ _ ⟨rfl, rfl⟩
    refine ⟨fun c => ?_, fun c => ?_⟩
    · have h := g_bt c h
      obtain ⟨S6, hc, h⟩ := g_b1s h
      refine ⟨0, _, (by decide), CX12_copies rfl rfl hc, ?_⟩
      rintro _ rfl
      exact (lX12_later FU) _ _ _ _  h
    · have h := g_bf c h
      cases h; exact ⟨rfl, rfl⟩

noncomputable def bX12_reads_35  (rec : Nat → gS → Int32 → Int32 → Int32 → Option (gS × Int32)) (S : gS) (i1 : Int32) (i2 : Int32) (i3 : Int32) : Option (gS × Int32) := if i1 ≤ i3 then (g_b1 (FX12_copies S (218) (59) ((0 : Int32)) (216) (59) ((0 : Int32))) (fun S1 => some (S1, i2))) else (g_b2 (FX12_passesAsTold S ) (fun S2 x3 => rec 35 S2 (i1) (x3) ((i3 + 1))))
noncomputable def fX12_reads  : Nat → Nat → gS → Int32 → Int32 → Int32 → Option (gS × Int32)
  | 0 => fun _ _ _ _ _ => none
  | k + 1 => fun pc S i1 i2 i3 => if pc = 35 then bX12_reads_35  (fX12_reads  k) S i1 i2 i3 else none
noncomputable def FX12_reads (S : gS) (i1 : Int32) : Option (gS × Int32) := g_lt (uI S (180) 0 ((0 : Int32))) (fun S1 => g_b2 (FX12_within S1 (i1) ((1 : Int32)) ((60 : Int32))) (fun S2 b3 => if b3 = true then (g_b1 (FX12_copies S2 (216) (59) ((0 : Int32)) (218) (59) ((0 : Int32))) (fun S4 => fX12_reads  FU 35 S4 (i1) ((-1 : Int32)) ((0 : Int32)))) else (some (S2, (-2 : Int32)))))
set_option maxRecDepth 100000 in
theorem lX12_reads  {n : Nat} {R : gS × Int32} : ∀ k : Nat, (∀ (S : gS) (i1 : Int32) (i2 : Int32) (i3 : Int32) , fX12_reads  k 35 S i1 i2 i3 = some R → gG 6 mX12_reads 0 0 (g_Xj mX12_reads n 0 0 (hPi (fun S2 x2 => S2 = R.1 ∧ x2 = R.2))) 35 n (hH S) [some (.ref (180)), some (.int (i1)), some (.int (i2)), some (.int (i3))] [] 0 0) := by
  intro k
  induction k with
  | zero => exact fun _ _ _ _ h => (by cases h)
  | succ k ih =>
    have hrec_35 := ih
    · intro S i1 i2 i3 h
      rw [fX12_reads] at h
      have h := g_ip rfl h
      unfold bX12_reads_35 at h
      refine zX12_reads_35  ?_
      refine ⟨fun c => ?_, fun c => ?_⟩
      · have h := g_ip c h
        obtain ⟨S1, hc, h⟩ := g_b1s h
        refine ⟨0, _, (by decide), CX12_copies rfl rfl hc, ?_⟩
        rintro _ rfl
        cases h; exact ⟨rfl, rfl⟩
      · have h := g_in c h
        obtain ⟨S2, x3, hc, h⟩ := g_b2s h
        refine ⟨5, _, (by decide), CX12_passesAsTold  hc, ?_⟩
        rintro _ _ ⟨rfl, rfl⟩
        exact hrec_35 _ _ _ _  h
theorem CX12_reads {n : Nat} {S : gS} {R : gS × Int32} {i1 : Int32}  (h : FX12_reads S i1 = some R) : sCi 6 mX12_reads n S [.ref (180), .int (i1)] (fun S2 x2 => S2 = R.1 ∧ x2 = R.2) := by
  unfold FX12_reads at h
  refine gCj_of (by decide) (Nat.le_of_ble_eq_true rfl) rfl rfl (zX12_reads_0  ?_)
  intro S1 eS
  have h := g_lts eS h
  obtain ⟨S2, b3, hc, h⟩ := g_b2s h
  refine ⟨0, _, (by decide), CX12_within  hc, ?_⟩
  rintro _ _ ⟨rfl, rfl⟩
  refine ⟨fun c => ?_, fun c => ?_⟩
  · have h := g_bt c h
    obtain ⟨S4, hc, h⟩ := g_b1s h
    refine ⟨0, _, (by decide), CX12_copies rfl rfl hc, ?_⟩
    rintro _ rfl
    exact (lX12_reads FU) _ _ _ _  h
  · have h := g_bf c h
    cases h; exact ⟨rfl, rfl⟩

noncomputable def bX12_when_30  (rec : Nat → gS → Int32 → Int32 → Option (gS × Int32)) (S : gS) (i1 : Int32) (i2 : Int32) : Option (gS × Int32) := if (60 : Int32) < i2 then (rec 50 S 0 (i2)) else (g_b2 (FX12_passesAsTold S ) (fun S1 x2 => if x2 = i1 then (rec 50 S1 0 (i2)) else (rec 30 S1 (i1) ((i2 + 1)))))
noncomputable def bX12_when_50  (rec : Nat → gS → Int32 → Int32 → Option (gS × Int32)) (S : gS) (i1 : Int32) (i2 : Int32) : Option (gS × Int32) := g_b1 (FX12_copies S (218) (59) ((0 : Int32)) (216) (59) ((0 : Int32))) (fun S1 => if i2 ≤ (60 : Int32) then (some (S1, i2)) else (some (S1, (-1 : Int32))))
noncomputable def fX12_when  : Nat → Nat → gS → Int32 → Int32 → Option (gS × Int32)
  | 0 => fun _ _ _ _ => none
  | k + 1 => fun pc S i1 i2 => if pc = 30 then bX12_when_30  (fX12_when  k) S i1 i2 else if pc = 50 then bX12_when_50  (fX12_when  k) S i1 i2 else none
noncomputable def FX12_when (S : gS) (i1 : Int32) : Option (gS × Int32) := g_lt (uI S (180) 0 ((0 : Int32))) (fun S1 => g_b2 (FX12_isLetter0 S1 (i1)) (fun S2 b3 => if b3 = true then (g_b1 (FX12_copies S2 (216) (59) ((0 : Int32)) (218) (59) ((0 : Int32))) (fun S4 => fX12_when  FU 30 S4 (i1) ((1 : Int32)))) else (some (S2, (-1 : Int32)))))
set_option maxRecDepth 100000 in
theorem lX12_when  {n : Nat} {R : gS × Int32} : ∀ k : Nat, (∀ (S : gS) (i1 : Int32) (i2 : Int32) , fX12_when  k 30 S i1 i2 = some R → gG 6 mX12_when 0 0 (g_Xj mX12_when n 0 0 (hPi (fun S2 x2 => S2 = R.1 ∧ x2 = R.2))) 30 n (hH S) [some (.ref (180)), some (.int (i1)), some (.int (i2))] [] 0 0) ∧ (∀ (S : gS) (i1 : Int32) (i2 : Int32) , fX12_when  k 50 S i1 i2 = some R → gG 6 mX12_when 0 0 (g_Xj mX12_when n 0 0 (hPi (fun S2 x2 => S2 = R.1 ∧ x2 = R.2))) 50 n (hH S) [some (.ref (180)), none, some (.int (i2))] [] 0 0) := by
  intro k
  induction k with
  | zero => exact ⟨fun _ _ _ h => (by cases h), fun _ _ _ h => (by cases h)⟩
  | succ k ih =>
    have hrec_30 := ih.1
    have hrec_50 := ih.2
    refine ⟨?_, ?_⟩
    · intro S i1 i2 h
      rw [fX12_when] at h
      have h := g_ip rfl h
      unfold bX12_when_30 at h
      refine zX12_when_30  ?_
      refine ⟨fun c => ?_, fun c => ?_⟩
      · have h := g_ip c h
        exact hrec_50 _ _ _  h
      · have h := g_in c h
        obtain ⟨S1, x2, hc, h⟩ := g_b2s h
        refine ⟨5, _, (by decide), CX12_passesAsTold  hc, ?_⟩
        rintro _ _ ⟨rfl, rfl⟩
        refine ⟨fun c => ?_, fun c => ?_⟩
        · have h := g_ip c h
          exact hrec_50 _ _ _  h
        · have h := g_in c h
          exact hrec_30 _ _ _  h
    · intro S i1 i2 h
      rw [fX12_when] at h
      have h := g_in (by decide) h
      have h := g_ip rfl h
      unfold bX12_when_50 at h
      refine zX12_when_50  ?_
      obtain ⟨S1, hc, h⟩ := g_b1s h
      refine ⟨0, _, (by decide), CX12_copies rfl rfl hc, ?_⟩
      rintro _ rfl
      refine ⟨fun c => ?_, fun c => ?_⟩
      · have h := g_ip c h
        cases h; exact ⟨rfl, rfl⟩
      · have h := g_in c h
        cases h; exact ⟨rfl, rfl⟩
theorem CX12_when {n : Nat} {S : gS} {R : gS × Int32} {i1 : Int32}  (h : FX12_when S i1 = some R) : sCi 6 mX12_when n S [.ref (180), .int (i1)] (fun S2 x2 => S2 = R.1 ∧ x2 = R.2) := by
  unfold FX12_when at h
  refine gCj_of (by decide) (Nat.le_of_ble_eq_true rfl) rfl rfl (zX12_when_0  ?_)
  intro S1 eS
  have h := g_lts eS h
  obtain ⟨S2, b3, hc, h⟩ := g_b2s h
  refine ⟨0, _, (by decide), CX12_isLetter0  hc, ?_⟩
  rintro _ _ ⟨rfl, rfl⟩
  refine ⟨fun c => ?_, fun c => ?_⟩
  · have h := g_bt c h
    obtain ⟨S4, hc, h⟩ := g_b1s h
    refine ⟨0, _, (by decide), CX12_copies rfl rfl hc, ?_⟩
    rintro _ rfl
    exact (lX12_when FU).1 _ _ _  h
  · have h := g_bf c h
    cases h; exact ⟨rfl, rfl⟩

noncomputable def bX12_allStands_4  (rec : Nat → gS → Int32 → Int32 → Option (gS × Int32)) (S : gS) (i1 : Int32) (i2 : Int32) : Option (gS × Int32) := if (7 : Int32) ≤ i2 then (some (S, i1)) else (if g_vp (((5 : Int32) + i2)) 59 = true then (rec 4 S ((i1 + (sR S (216) (Int32.toNatClampNeg (((5 : Int32) + i2)))))) ((i2 + 1))) else none)
noncomputable def fX12_allStands  : Nat → Nat → gS → Int32 → Int32 → Option (gS × Int32)
  | 0 => fun _ _ _ _ => none
  | k + 1 => fun pc S i1 i2 => if pc = 4 then bX12_allStands_4  (fX12_allStands  k) S i1 i2 else none
noncomputable def FX12_allStands (S : gS)  : Option (gS × Int32) := fX12_allStands  FU 4 S ((0 : Int32)) ((0 : Int32))
set_option maxRecDepth 100000 in
theorem lX12_allStands  {n : Nat} {R : gS × Int32} : ∀ k : Nat, (∀ (S : gS) (i1 : Int32) (i2 : Int32) , fX12_allStands  k 4 S i1 i2 = some R → gG 0 mX12_allStands 0 0 (g_Xj mX12_allStands n 0 0 (hPi (fun S2 x2 => S2 = R.1 ∧ x2 = R.2))) 4 n (hH S) [some (.ref (180)), some (.int (i1)), some (.int (i2))] [] 0 0) := by
  intro k
  induction k with
  | zero => exact fun _ _ _ h => (by cases h)
  | succ k ih =>
    have hrec_4 := ih
    · intro S i1 i2 h
      rw [fX12_allStands] at h
      have h := g_ip rfl h
      unfold bX12_allStands_4 at h
      refine zX12_allStands_4  ?_
      refine ⟨fun c => ?_, fun c => ?_⟩
      · have h := g_ip c h
        cases h; exact ⟨rfl, rfl⟩
      · have h := g_in c h
        obtain ⟨hv1, h⟩ := g_vs h
        refine ⟨hv1, ?_⟩
        exact hrec_4 _ _ _  h
theorem CX12_allStands {n : Nat} {S : gS} {R : gS × Int32}   (h : FX12_allStands S  = some R) : sCi 0 mX12_allStands n S [.ref (180)] (fun S2 x2 => S2 = R.1 ∧ x2 = R.2) := by
  unfold FX12_allStands at h
  refine gCj_of (by decide) (Nat.le_of_ble_eq_true rfl) rfl rfl (zX12_allStands_0  ?_)
  exact (lX12_allStands FU) _ _ _  h

noncomputable def bX12_dry_20  (rec : Nat → gS → Int32 → Option (gS × Int32)) (S : gS) (i1 : Int32) : Option (gS × Int32) := if (60 : Int32) < i1 then (rec 44 S (i1)) else (g_b2 (FX12_allStands S ) (fun S1 x2 => if x2 ≤ 0 then (rec 44 S1 (i1)) else (g_b2 (FX12_passesAsTold S1 ) (fun S3 x4 => rec 20 S3 ((i1 + 1))))))
noncomputable def bX12_dry_44  (rec : Nat → gS → Int32 → Option (gS × Int32)) (S : gS) (i1 : Int32) : Option (gS × Int32) := g_b1 (FX12_copies S (218) (59) ((0 : Int32)) (216) (59) ((0 : Int32))) (fun S1 => if i1 ≤ (60 : Int32) then (some (S1, i1)) else (some (S1, (-1 : Int32))))
noncomputable def fX12_dry  : Nat → Nat → gS → Int32 → Option (gS × Int32)
  | 0 => fun _ _ _ => none
  | k + 1 => fun pc S i1 => if pc = 20 then bX12_dry_20  (fX12_dry  k) S i1 else if pc = 44 then bX12_dry_44  (fX12_dry  k) S i1 else none
noncomputable def FX12_dry (S : gS)  : Option (gS × Int32) := g_lt (uI S (180) 0 ((0 : Int32))) (fun S1 => g_b1 (FX12_copies S1 (216) (59) ((0 : Int32)) (218) (59) ((0 : Int32))) (fun S2 => fX12_dry  FU 20 S2 ((0 : Int32))))
set_option maxRecDepth 100000 in
theorem lX12_dry  {n : Nat} {R : gS × Int32} : ∀ k : Nat, (∀ (S : gS) (i1 : Int32) , fX12_dry  k 20 S i1 = some R → gG 6 mX12_dry 0 0 (g_Xj mX12_dry n 0 0 (hPi (fun S2 x2 => S2 = R.1 ∧ x2 = R.2))) 20 n (hH S) [some (.ref (180)), some (.int (i1))] [] 0 0) ∧ (∀ (S : gS) (i1 : Int32) , fX12_dry  k 44 S i1 = some R → gG 6 mX12_dry 0 0 (g_Xj mX12_dry n 0 0 (hPi (fun S2 x2 => S2 = R.1 ∧ x2 = R.2))) 44 n (hH S) [some (.ref (180)), some (.int (i1))] [] 0 0) := by
  intro k
  induction k with
  | zero => exact ⟨fun _ _ h => (by cases h), fun _ _ h => (by cases h)⟩
  | succ k ih =>
    have hrec_20 := ih.1
    have hrec_44 := ih.2
    refine ⟨?_, ?_⟩
    · intro S i1 h
      rw [fX12_dry] at h
      have h := g_ip rfl h
      unfold bX12_dry_20 at h
      refine zX12_dry_20  ?_
      refine ⟨fun c => ?_, fun c => ?_⟩
      · have h := g_ip c h
        exact hrec_44 _ _  h
      · have h := g_in c h
        obtain ⟨S1, x2, hc, h⟩ := g_b2s h
        refine ⟨0, _, (by decide), CX12_allStands  hc, ?_⟩
        rintro _ _ ⟨rfl, rfl⟩
        refine ⟨fun c => ?_, fun c => ?_⟩
        · have h := g_ip c h
          exact hrec_44 _ _  h
        · have h := g_in c h
          obtain ⟨S3, x4, hc, h⟩ := g_b2s h
          refine ⟨5, _, (by decide), CX12_passesAsTold  hc, ?_⟩
          rintro _ _ ⟨rfl, rfl⟩
          exact hrec_20 _ _  h
    · intro S i1 h
      rw [fX12_dry] at h
      have h := g_in (by decide) h
      have h := g_ip rfl h
      unfold bX12_dry_44 at h
      refine zX12_dry_44  ?_
      obtain ⟨S1, hc, h⟩ := g_b1s h
      refine ⟨0, _, (by decide), CX12_copies rfl rfl hc, ?_⟩
      rintro _ rfl
      refine ⟨fun c => ?_, fun c => ?_⟩
      · have h := g_ip c h
        cases h; exact ⟨rfl, rfl⟩
      · have h := g_in c h
        cases h; exact ⟨rfl, rfl⟩
theorem CX12_dry {n : Nat} {S : gS} {R : gS × Int32}   (h : FX12_dry S  = some R) : sCi 6 mX12_dry n S [.ref (180)] (fun S2 x2 => S2 = R.1 ∧ x2 = R.2) := by
  unfold FX12_dry at h
  refine gCj_of (by decide) (Nat.le_of_ble_eq_true rfl) rfl rfl (zX12_dry_0  ?_)
  intro S1 eS
  have h := g_lts eS h
  obtain ⟨S2, hc, h⟩ := g_b1s h
  refine ⟨0, _, (by decide), CX12_copies rfl rfl hc, ?_⟩
  rintro _ rfl
  exact (lX12_dry FU).1 _ _  h

noncomputable def bX12_spill_34  (rec : Nat → gS → Int32 → Int32 → Int32 → Option (gS × Int32)) (S : gS) (i1 : Int32) (i2 : Int32) (i3 : Int32) : Option (gS × Int32) := if i1 ≤ i3 then (g_b1 (FX12_copies S (218) (59) ((0 : Int32)) (216) (59) ((0 : Int32))) (fun S1 => some (S1, i2))) else (g_b2 (FX12_passesAsTold S ) (fun S2 x3 => rec 34 S2 (i1) ((i2 + (sI S2 (180) 55))) ((i3 + 1))))
noncomputable def fX12_spill  : Nat → Nat → gS → Int32 → Int32 → Int32 → Option (gS × Int32)
  | 0 => fun _ _ _ _ _ => none
  | k + 1 => fun pc S i1 i2 i3 => if pc = 34 then bX12_spill_34  (fX12_spill  k) S i1 i2 i3 else none
noncomputable def FX12_spill (S : gS) (i1 : Int32) : Option (gS × Int32) := g_lt (uI S (180) 0 ((0 : Int32))) (fun S1 => g_b2 (FX12_within S1 (i1) ((1 : Int32)) ((60 : Int32))) (fun S2 b3 => if b3 = true then (g_b1 (FX12_copies S2 (216) (59) ((0 : Int32)) (218) (59) ((0 : Int32))) (fun S4 => fX12_spill  FU 34 S4 (i1) ((0 : Int32)) ((0 : Int32)))) else (some (S2, (-1 : Int32)))))
set_option maxRecDepth 100000 in
theorem lX12_spill  {n : Nat} {R : gS × Int32} : ∀ k : Nat, (∀ (S : gS) (i1 : Int32) (i2 : Int32) (i3 : Int32) , fX12_spill  k 34 S i1 i2 i3 = some R → gG 6 mX12_spill 0 0 (g_Xj mX12_spill n 0 0 (hPi (fun S2 x2 => S2 = R.1 ∧ x2 = R.2))) 34 n (hH S) [some (.ref (180)), some (.int (i1)), some (.int (i2)), some (.int (i3))] [] 0 0) := by
  intro k
  induction k with
  | zero => exact fun _ _ _ _ h => (by cases h)
  | succ k ih =>
    have hrec_34 := ih
    · intro S i1 i2 i3 h
      rw [fX12_spill] at h
      have h := g_ip rfl h
      unfold bX12_spill_34 at h
      refine zX12_spill_34  ?_
      refine ⟨fun c => ?_, fun c => ?_⟩
      · have h := g_ip c h
        obtain ⟨S1, hc, h⟩ := g_b1s h
        refine ⟨0, _, (by decide), CX12_copies rfl rfl hc, ?_⟩
        rintro _ rfl
        cases h; exact ⟨rfl, rfl⟩
      · have h := g_in c h
        obtain ⟨S2, x3, hc, h⟩ := g_b2s h
        refine ⟨5, _, (by decide), CX12_passesAsTold  hc, ?_⟩
        rintro _ _ ⟨rfl, rfl⟩
        exact hrec_34 _ _ _ _  h
theorem CX12_spill {n : Nat} {S : gS} {R : gS × Int32} {i1 : Int32}  (h : FX12_spill S i1 = some R) : sCi 6 mX12_spill n S [.ref (180), .int (i1)] (fun S2 x2 => S2 = R.1 ∧ x2 = R.2) := by
  unfold FX12_spill at h
  refine gCj_of (by decide) (Nat.le_of_ble_eq_true rfl) rfl rfl (zX12_spill_0  ?_)
  intro S1 eS
  have h := g_lts eS h
  obtain ⟨S2, b3, hc, h⟩ := g_b2s h
  refine ⟨0, _, (by decide), CX12_within  hc, ?_⟩
  rintro _ _ ⟨rfl, rfl⟩
  refine ⟨fun c => ?_, fun c => ?_⟩
  · have h := g_bt c h
    obtain ⟨S4, hc, h⟩ := g_b1s h
    refine ⟨0, _, (by decide), CX12_copies rfl rfl hc, ?_⟩
    rintro _ rfl
    exact (lX12_spill FU) _ _ _ _  h
  · have h := g_bf c h
    cases h; exact ⟨rfl, rfl⟩

noncomputable def bX12_overOf_17  (rec : Nat → gS → Int32 → Int32 → Int32 → Option (gS × Int32)) (S : gS) (i1 : Int32) (i2 : Int32) (i3 : Int32) : Option (gS × Int32) := if (60 : Int32) < i3 then (rec 49 S (i1) (i2) 0) else (if 0 ≤ i2 then (rec 49 S (i1) (i2) 0) else (g_b2 (FX12_passesAsTold S ) (fun S1 x2 => if ((sI S1 (180) 56) &&& i1) = 0 then (rec 17 S1 (i1) (i2) ((i3 + 1))) else (rec 17 S1 (i1) (i3) ((i3 + 1))))))
noncomputable def bX12_overOf_49  (rec : Nat → gS → Int32 → Int32 → Int32 → Option (gS × Int32)) (S : gS) (i1 : Int32) (i2 : Int32) (i3 : Int32) : Option (gS × Int32) := g_lt (uI S (180) 56 (((sI S (180) 56) &&& i1))) (fun S1 => g_b1 (FX12_copies S1 (218) (59) ((0 : Int32)) (216) (59) ((0 : Int32))) (fun S2 => some (S2, i2)))
noncomputable def fX12_overOf  : Nat → Nat → gS → Int32 → Int32 → Int32 → Option (gS × Int32)
  | 0 => fun _ _ _ _ _ => none
  | k + 1 => fun pc S i1 i2 i3 => if pc = 17 then bX12_overOf_17  (fX12_overOf  k) S i1 i2 i3 else if pc = 49 then bX12_overOf_49  (fX12_overOf  k) S i1 i2 i3 else none
noncomputable def FX12_overOf (S : gS) (i1 : Int32) : Option (gS × Int32) := g_b1 (FX12_copies S (216) (59) ((0 : Int32)) (218) (59) ((0 : Int32))) (fun S1 => fX12_overOf  FU 17 S1 (i1) ((-1 : Int32)) ((1 : Int32)))
set_option maxRecDepth 100000 in
theorem lX12_overOf  {n : Nat} {R : gS × Int32} : ∀ k : Nat, (∀ (S : gS) (i1 : Int32) (i2 : Int32) (i3 : Int32) , fX12_overOf  k 17 S i1 i2 i3 = some R → gG 6 mX12_overOf 0 0 (g_Xj mX12_overOf n 0 0 (hPi (fun S2 x2 => S2 = R.1 ∧ x2 = R.2))) 17 n (hH S) [some (.ref (180)), some (.int (i1)), some (.int (i2)), some (.int (i3))] [] 0 0) ∧ (∀ (S : gS) (i1 : Int32) (i2 : Int32) (i3 : Int32) , fX12_overOf  k 49 S i1 i2 i3 = some R → gG 6 mX12_overOf 0 0 (g_Xj mX12_overOf n 0 0 (hPi (fun S2 x2 => S2 = R.1 ∧ x2 = R.2))) 49 n (hH S) [some (.ref (180)), some (.int (i1)), some (.int (i2)), none] [] 0 0) := by
  intro k
  induction k with
  | zero => exact ⟨fun _ _ _ _ h => (by cases h), fun _ _ _ _ h => (by cases h)⟩
  | succ k ih =>
    have hrec_17 := ih.1
    have hrec_49 := ih.2
    refine ⟨?_, ?_⟩
    · intro S i1 i2 i3 h
      rw [fX12_overOf] at h
      have h := g_ip rfl h
      unfold bX12_overOf_17 at h
      refine zX12_overOf_17  ?_
      refine ⟨fun c => ?_, fun c => ?_⟩
      · have h := g_ip c h
        exact hrec_49 _ _ _ _  h
      · have h := g_in c h
        refine ⟨fun c => ?_, fun c => ?_⟩
        · have h := g_ip c h
          exact hrec_49 _ _ _ _  h
        · have h := g_in c h
          obtain ⟨S1, x2, hc, h⟩ := g_b2s h
          refine ⟨5, _, (by decide), CX12_passesAsTold  hc, ?_⟩
          rintro _ _ ⟨rfl, rfl⟩
          refine ⟨fun c => ?_, fun c => ?_⟩
          · have h := g_ip c h
            exact hrec_17 _ _ _ _  h
          · have h := g_in c h
            exact hrec_17 _ _ _ _  h
    · intro S i1 i2 i3 h
      rw [fX12_overOf] at h
      have h := g_in (by decide) h
      have h := g_ip rfl h
      unfold bX12_overOf_49 at h
      refine zX12_overOf_49  ?_
      intro S1 eS
      have h := g_lts eS h
      obtain ⟨S2, hc, h⟩ := g_b1s h
      refine ⟨0, _, (by decide), CX12_copies rfl rfl hc, ?_⟩
      rintro _ rfl
      cases h; exact ⟨rfl, rfl⟩
theorem CX12_overOf {n : Nat} {S : gS} {R : gS × Int32} {i1 : Int32}  (h : FX12_overOf S i1 = some R) : sCi 6 mX12_overOf n S [.ref (180), .int (i1)] (fun S2 x2 => S2 = R.1 ∧ x2 = R.2) := by
  unfold FX12_overOf at h
  refine gCj_of (by decide) (Nat.le_of_ble_eq_true rfl) rfl rfl (zX12_overOf_0  ?_)
  obtain ⟨S1, hc, h⟩ := g_b1s h
  refine ⟨0, _, (by decide), CX12_copies rfl rfl hc, ?_⟩
  rintro _ rfl
  exact (lX12_overOf FU).1 _ _ _ _  h

noncomputable def FX12_over (S : gS) (i1 : Int32) : Option (gS × Int32) := g_lt (uI S (180) 0 ((0 : Int32))) (fun S1 => g_b2 (FX12_isMouth S1 (i1)) (fun S2 b3 => if b3 = true then (g_b2 (FX12_overOf S2 (((1 : Int32) <<< (i1 &&& 31)))) (fun S4 x5 => some (S4, x5))) else (some (S2, (-1 : Int32)))))
theorem CX12_over {n : Nat} {S : gS} {R : gS × Int32} {i1 : Int32}  (h : FX12_over S i1 = some R) : sCi 7 mX12_over n S [.ref (180), .int (i1)] (fun S2 x2 => S2 = R.1 ∧ x2 = R.2) := by
  unfold FX12_over at h
  refine gCj_of (by decide) (Nat.le_of_ble_eq_true rfl) rfl rfl (zX12_over_0  ?_)
  intro S1 eS
  have h := g_lts eS h
  obtain ⟨S2, b3, hc, h⟩ := g_b2s h
  refine ⟨0, _, (by decide), CX12_isMouth  hc, ?_⟩
  rintro _ _ ⟨rfl, rfl⟩
  refine ⟨fun c => ?_, fun c => ?_⟩
  · have h := g_bf c h
    cases h; exact ⟨rfl, rfl⟩
  · have h := g_bt c h
    obtain ⟨S4, x5, hc, h⟩ := g_b2s h
    refine ⟨6, _, (by decide), CX12_overOf  hc, ?_⟩
    rintro _ _ ⟨rfl, rfl⟩
    cases h; exact ⟨rfl, rfl⟩

noncomputable def bX12_lowest_2  (rec : Nat → gS → Int32 → Int32 → Option (gS × Int32)) (S : gS) (i0 : Int32) (i1 : Int32) : Option (gS × Int32) := if (7 : Int32) ≤ i1 then (some (S, (-1 : Int32))) else (if ((i0 >>> (i1 &&& 31)) &&& (1 : Int32)) = (1 : Int32) then (some (S, i1)) else (rec 2 S (i0) ((i1 + 1))))
noncomputable def fX12_lowest  : Nat → Nat → gS → Int32 → Int32 → Option (gS × Int32)
  | 0 => fun _ _ _ _ => none
  | k + 1 => fun pc S i0 i1 => if pc = 2 then bX12_lowest_2  (fX12_lowest  k) S i0 i1 else none
noncomputable def FX12_lowest (S : gS) (i0 : Int32) : Option (gS × Int32) := fX12_lowest  FU 2 S (i0) ((0 : Int32))
set_option maxRecDepth 100000 in
theorem lX12_lowest  {n : Nat} {R : gS × Int32} : ∀ k : Nat, (∀ (S : gS) (i0 : Int32) (i1 : Int32) , fX12_lowest  k 2 S i0 i1 = some R → gG 0 mX12_lowest 0 0 (g_Xj mX12_lowest n 0 0 (hPi (fun S2 x2 => S2 = R.1 ∧ x2 = R.2))) 2 n (hH S) [some (.int (i0)), some (.int (i1))] [] 0 0) := by
  intro k
  induction k with
  | zero => exact fun _ _ _ h => (by cases h)
  | succ k ih =>
    have hrec_2 := ih
    · intro S i0 i1 h
      rw [fX12_lowest] at h
      have h := g_ip rfl h
      unfold bX12_lowest_2 at h
      refine zX12_lowest_2  ?_
      refine ⟨fun c => ?_, fun c => ?_⟩
      · have h := g_ip c h
        cases h; exact ⟨rfl, rfl⟩
      · have h := g_in c h
        refine ⟨fun c => ?_, fun c => ?_⟩
        · have h := g_in c h
          exact hrec_2 _ _ _  h
        · have h := g_ip c h
          cases h; exact ⟨rfl, rfl⟩
theorem CX12_lowest {n : Nat} {S : gS} {R : gS × Int32} {i0 : Int32}  (h : FX12_lowest S i0 = some R) : sCi 0 mX12_lowest n S [.int (i0)] (fun S2 x2 => S2 = R.1 ∧ x2 = R.2) := by
  unfold FX12_lowest at h
  refine gCj_of (by decide) (Nat.le_of_ble_eq_true rfl) rfl rfl (zX12_lowest_0  ?_)
  exact (lX12_lowest FU) _ _ _  h

noncomputable def FX12_first (S : gS)  : Option (gS × Int32) := g_lt (uI S (180) 0 ((0 : Int32))) (fun S1 => g_b2 (FX12_every S1 ) (fun S2 x3 => g_b2 (FX12_overOf S2 (x3)) (fun S4 x5 => if 0 ≤ x5 then (g_b2 (FX12_lowest S4 ((sI S4 (180) 56))) (fun S6 x7 => some (S6, x7))) else (some (S4, (-1 : Int32))))))
theorem CX12_first {n : Nat} {S : gS} {R : gS × Int32}   (h : FX12_first S  = some R) : sCi 7 mX12_first n S [.ref (180)] (fun S2 x2 => S2 = R.1 ∧ x2 = R.2) := by
  unfold FX12_first at h
  refine gCj_of (by decide) (Nat.le_of_ble_eq_true rfl) rfl rfl (zX12_first_0  ?_)
  intro S1 eS
  have h := g_lts eS h
  obtain ⟨S2, x3, hc, h⟩ := g_b2s h
  refine ⟨0, _, (by decide), CX12_every  hc, ?_⟩
  rintro _ _ ⟨rfl, rfl⟩
  obtain ⟨S4, x5, hc, h⟩ := g_b2s h
  refine ⟨6, _, (by decide), CX12_overOf  hc, ?_⟩
  rintro _ _ ⟨rfl, rfl⟩
  refine ⟨fun c => ?_, fun c => ?_⟩
  · have h := g_ip c h
    obtain ⟨S6, x7, hc, h⟩ := g_b2s h
    refine ⟨0, _, (by decide), CX12_lowest  hc, ?_⟩
    rintro _ _ ⟨rfl, rfl⟩
    cases h; exact ⟨rfl, rfl⟩
  · have h := g_in c h
    cases h; exact ⟨rfl, rfl⟩

noncomputable def bX12_great_32  (rec : Nat → gS → Int32 → Int32 → Int32 → Option (gS × Int32)) (S : gS) (i1 : Int32) (i2 : Int32) (i3 : Int32) : Option (gS × Int32) := if (7 : Int32) ≤ i2 then (rec 53 S (i1) ((0 : Int32)) 0) else (if g_vp (i2) 7 = true then (g_lt (uR S (223) (Int32.toNatClampNeg (i2)) ((0 : Int32))) (fun S2 => rec 32 S2 (i1) ((i2 + 1)) 0)) else none)
noncomputable def bX12_great_53  (rec : Nat → gS → Int32 → Int32 → Int32 → Option (gS × Int32)) (S : gS) (i1 : Int32) (i2 : Int32) (i3 : Int32) : Option (gS × Int32) := if i1 ≤ i2 then (g_b1 (FX12_copies S (218) (59) ((0 : Int32)) (216) (59) ((0 : Int32))) (fun S1 => rec 122 S1 0 ((-1 : Int32)) ((0 : Int32)))) else (g_b2 (FX12_passesAsTold S ) (fun S2 x3 => rec 65 S2 (i1) (i2) ((0 : Int32))))
noncomputable def bX12_great_65  (rec : Nat → gS → Int32 → Int32 → Int32 → Option (gS × Int32)) (S : gS) (i1 : Int32) (i2 : Int32) (i3 : Int32) : Option (gS × Int32) := if (sR S (182) (0)) ≤ i3 then (rec 53 S (i1) ((i2 + 1)) 0) else (if g_vp (i3) 7 = true then (if g_vp (((12 : Int32) + i3)) 59 = true then (g_lt (uR S (223) (Int32.toNatClampNeg (i3)) (((sR S (223) (Int32.toNatClampNeg (i3))) + (sR S (216) (Int32.toNatClampNeg (((12 : Int32) + i3))))))) (fun S3 => rec 65 S3 (i1) (i2) ((i3 + 1)))) else none) else none)
noncomputable def bX12_great_122  (rec : Nat → gS → Int32 → Int32 → Int32 → Option (gS × Int32)) (S : gS) (i1 : Int32) (i2 : Int32) (i3 : Int32) : Option (gS × Int32) := if (sR S (182) (0)) ≤ i3 then (some (S, i2)) else (if i2 < 0 then (rec 122 S 0 (i3) ((i3 + 1))) else (if g_vp (i3) 7 = true then (if g_vp (i2) 7 = true then (if (sR S (223) (Int32.toNatClampNeg (i3))) ≤ (sR S (223) (Int32.toNatClampNeg (i2))) then (rec 122 S 0 (i2) ((i3 + 1))) else (rec 122 S 0 (i3) ((i3 + 1)))) else none) else none))
noncomputable def fX12_great  : Nat → Nat → gS → Int32 → Int32 → Int32 → Option (gS × Int32)
  | 0 => fun _ _ _ _ _ => none
  | k + 1 => fun pc S i1 i2 i3 => if pc = 32 then bX12_great_32  (fX12_great  k) S i1 i2 i3 else if pc = 53 then bX12_great_53  (fX12_great  k) S i1 i2 i3 else if pc = 65 then bX12_great_65  (fX12_great  k) S i1 i2 i3 else if pc = 122 then bX12_great_122  (fX12_great  k) S i1 i2 i3 else none
noncomputable def FX12_great (S : gS) (i1 : Int32) : Option (gS × Int32) := g_lt (uI S (180) 0 ((0 : Int32))) (fun S1 => g_b2 (FX12_within S1 (i1) ((1 : Int32)) ((60 : Int32))) (fun S2 b3 => if b3 = true then (g_b1 (FX12_copies S2 (216) (59) ((0 : Int32)) (218) (59) ((0 : Int32))) (fun S4 => fX12_great  FU 32 S4 (i1) ((0 : Int32)) 0)) else (some (S2, (-1 : Int32)))))
set_option maxRecDepth 100000 in
theorem lX12_great  {n : Nat} {R : gS × Int32} : ∀ k : Nat, (∀ (S : gS) (i1 : Int32) (i2 : Int32) (i3 : Int32) , fX12_great  k 32 S i1 i2 i3 = some R → gG 6 mX12_great 0 0 (g_Xj mX12_great n 0 0 (hPi (fun S2 x2 => S2 = R.1 ∧ x2 = R.2))) 32 n (hH S) [some (.ref (180)), some (.int (i1)), some (.int (i2)), none] [] 0 0) ∧ (∀ (S : gS) (i1 : Int32) (i2 : Int32) (i3 : Int32) , fX12_great  k 53 S i1 i2 i3 = some R → gG 6 mX12_great 0 0 (g_Xj mX12_great n 0 0 (hPi (fun S2 x2 => S2 = R.1 ∧ x2 = R.2))) 53 n (hH S) [some (.ref (180)), some (.int (i1)), some (.int (i2)), none] [] 0 0) ∧ (∀ (S : gS) (i1 : Int32) (i2 : Int32) (i3 : Int32) , fX12_great  k 65 S i1 i2 i3 = some R → gG 6 mX12_great 0 0 (g_Xj mX12_great n 0 0 (hPi (fun S2 x2 => S2 = R.1 ∧ x2 = R.2))) 65 n (hH S) [some (.ref (180)), some (.int (i1)), some (.int (i2)), some (.int (i3))] [] 0 0) ∧ (∀ (S : gS) (i1 : Int32) (i2 : Int32) (i3 : Int32) , fX12_great  k 122 S i1 i2 i3 = some R → gG 6 mX12_great 0 0 (g_Xj mX12_great n 0 0 (hPi (fun S2 x2 => S2 = R.1 ∧ x2 = R.2))) 122 n (hH S) [some (.ref (180)), none, some (.int (i2)), some (.int (i3))] [] 0 0) := by
  intro k
  induction k with
  | zero => exact ⟨fun _ _ _ _ h => (by cases h), fun _ _ _ _ h => (by cases h), fun _ _ _ _ h => (by cases h), fun _ _ _ _ h => (by cases h)⟩
  | succ k ih =>
    have hrec_32 := ih.1
    have hrec_53 := ih.2.1
    have hrec_65 := ih.2.2.1
    have hrec_122 := ih.2.2.2
    refine ⟨?_, ?_, ?_, ?_⟩
    · intro S i1 i2 i3 h
      rw [fX12_great] at h
      have h := g_ip rfl h
      unfold bX12_great_32 at h
      refine zX12_great_32  ?_
      refine ⟨fun c => ?_, fun c => ?_⟩
      · have h := g_ip c h
        exact hrec_53 _ _ _ _  h
      · have h := g_in c h
        obtain ⟨hv1, h⟩ := g_vs h
        refine ⟨hv1, ?_⟩
        intro S2 eS
        have h := g_lts eS h
        exact hrec_32 _ _ _ _  h
    · intro S i1 i2 i3 h
      rw [fX12_great] at h
      have h := g_in (by decide) h
      have h := g_ip rfl h
      unfold bX12_great_53 at h
      refine zX12_great_53  ?_
      refine ⟨fun c => ?_, fun c => ?_⟩
      · have h := g_ip c h
        obtain ⟨S1, hc, h⟩ := g_b1s h
        refine ⟨0, _, (by decide), CX12_copies rfl rfl hc, ?_⟩
        rintro _ rfl
        exact hrec_122 _ _ _ _  h
      · have h := g_in c h
        obtain ⟨S2, x3, hc, h⟩ := g_b2s h
        refine ⟨5, _, (by decide), CX12_passesAsTold  hc, ?_⟩
        rintro _ _ ⟨rfl, rfl⟩
        exact hrec_65 _ _ _ _  h
    · intro S i1 i2 i3 h
      rw [fX12_great] at h
      have h := g_in (by decide) h
      have h := g_in (by decide) h
      have h := g_ip rfl h
      unfold bX12_great_65 at h
      refine zX12_great_65  ?_
      refine ⟨fun c => ?_, fun c => ?_⟩
      · have h := g_ip c h
        exact hrec_53 _ _ _ _  h
      · have h := g_in c h
        obtain ⟨hv1, h⟩ := g_vs h
        refine ⟨hv1, ?_⟩
        obtain ⟨hv2, h⟩ := g_vs h
        refine ⟨hv2, ?_⟩
        intro S3 eS
        have h := g_lts eS h
        exact hrec_65 _ _ _ _  h
    · intro S i1 i2 i3 h
      rw [fX12_great] at h
      have h := g_in (by decide) h
      have h := g_in (by decide) h
      have h := g_in (by decide) h
      have h := g_ip rfl h
      unfold bX12_great_122 at h
      refine zX12_great_122  ?_
      refine ⟨fun c => ?_, fun c => ?_⟩
      · have h := g_ip c h
        cases h; exact ⟨rfl, rfl⟩
      · have h := g_in c h
        refine ⟨fun c => ?_, fun c => ?_⟩
        · have h := g_ip c h
          exact hrec_122 _ _ _ _  h
        · have h := g_in c h
          obtain ⟨hv1, h⟩ := g_vs h
          refine ⟨hv1, ?_⟩
          obtain ⟨hv2, h⟩ := g_vs h
          refine ⟨hv2, ?_⟩
          refine ⟨fun c => ?_, fun c => ?_⟩
          · have h := g_ip c h
            exact hrec_122 _ _ _ _  h
          · have h := g_in c h
            exact hrec_122 _ _ _ _  h
theorem CX12_great {n : Nat} {S : gS} {R : gS × Int32} {i1 : Int32}  (h : FX12_great S i1 = some R) : sCi 6 mX12_great n S [.ref (180), .int (i1)] (fun S2 x2 => S2 = R.1 ∧ x2 = R.2) := by
  unfold FX12_great at h
  refine gCj_of (by decide) (Nat.le_of_ble_eq_true rfl) rfl rfl (zX12_great_0  ?_)
  intro S1 eS
  have h := g_lts eS h
  obtain ⟨S2, b3, hc, h⟩ := g_b2s h
  refine ⟨0, _, (by decide), CX12_within  hc, ?_⟩
  rintro _ _ ⟨rfl, rfl⟩
  refine ⟨fun c => ?_, fun c => ?_⟩
  · have h := g_bt c h
    obtain ⟨S4, hc, h⟩ := g_b1s h
    refine ⟨0, _, (by decide), CX12_copies rfl rfl hc, ?_⟩
    rintro _ rfl
    exact (lX12_great FU).1 _ _ _ _  h
  · have h := g_bf c h
    cases h; exact ⟨rfl, rfl⟩

noncomputable def bX12_twins_32  (rec : Nat → gS → Int32 → Int32 → Int32 → Int32 → Option (gS × Int32)) (S : gS) (i1 : Int32) (i2 : Int32) (i3 : Int32) (i4 : Int32) : Option (gS × Int32) := if (7 : Int32) ≤ i2 then (rec 53 S (i1) ((0 : Int32)) 0 0) else (if g_vp (i2) 7 = true then (g_lt (uR S (223) (Int32.toNatClampNeg (i2)) ((0 : Int32))) (fun S2 => rec 32 S2 (i1) ((i2 + 1)) 0 0)) else none)
noncomputable def bX12_twins_53  (rec : Nat → gS → Int32 → Int32 → Int32 → Int32 → Option (gS × Int32)) (S : gS) (i1 : Int32) (i2 : Int32) (i3 : Int32) (i4 : Int32) : Option (gS × Int32) := if i1 ≤ i2 then (g_b1 (FX12_copies S (218) (59) ((0 : Int32)) (216) (59) ((0 : Int32))) (fun S1 => rec 158 S1 0 ((0 : Int32)) ((0 : Int32)) 0)) else (g_b2 (FX12_passesAsTold S ) (fun S2 x3 => rec 65 S2 (i1) (i2) ((0 : Int32)) 0))
noncomputable def bX12_twins_65  (rec : Nat → gS → Int32 → Int32 → Int32 → Int32 → Option (gS × Int32)) (S : gS) (i1 : Int32) (i2 : Int32) (i3 : Int32) (i4 : Int32) : Option (gS × Int32) := if (sR S (182) (0)) ≤ i3 then (rec 53 S (i1) ((i2 + 1)) 0 0) else (rec 78 S (i1) (i2) (i3) ((0 : Int32)))
noncomputable def bX12_twins_78  (rec : Nat → gS → Int32 → Int32 → Int32 → Int32 → Option (gS × Int32)) (S : gS) (i1 : Int32) (i2 : Int32) (i3 : Int32) (i4 : Int32) : Option (gS × Int32) := if i3 ≤ i4 then (rec 65 S (i1) (i2) ((i3 + 1)) 0) else (if g_vp (i3) 7 = true then (if g_vp (((12 : Int32) + i3)) 59 = true then (if g_vp (((12 : Int32) + i4)) 59 = true then (if (sR S (216) (Int32.toNatClampNeg (((12 : Int32) + i3)))) = (sR S (216) (Int32.toNatClampNeg (((12 : Int32) + i4)))) then (g_lt (uR S (223) (Int32.toNatClampNeg (i3)) (((sR S (223) (Int32.toNatClampNeg (i3))) ||| (0 : Int32)))) (fun S4 => rec 78 S4 (i1) (i2) (i3) ((i4 + 1)))) else (g_lt (uR S (223) (Int32.toNatClampNeg (i3)) (((sR S (223) (Int32.toNatClampNeg (i3))) ||| ((1 : Int32) <<< (i4 &&& 31))))) (fun S5 => rec 78 S5 (i1) (i2) (i3) ((i4 + 1))))) else none) else none) else none)
noncomputable def bX12_twins_158  (rec : Nat → gS → Int32 → Int32 → Int32 → Int32 → Option (gS × Int32)) (S : gS) (i1 : Int32) (i2 : Int32) (i3 : Int32) (i4 : Int32) : Option (gS × Int32) := if (sR S (182) (0)) ≤ i3 then (some (S, i2)) else (if g_vp (i3) 7 = true then (g_b2 (FX12_bits S ((sR S (223) (Int32.toNatClampNeg (i3))))) (fun S2 x3 => rec 158 S2 0 ((i2 + (i3 - x3))) ((i3 + 1)) 0)) else none)
noncomputable def fX12_twins  : Nat → Nat → gS → Int32 → Int32 → Int32 → Int32 → Option (gS × Int32)
  | 0 => fun _ _ _ _ _ _ => none
  | k + 1 => fun pc S i1 i2 i3 i4 => if pc = 32 then bX12_twins_32  (fX12_twins  k) S i1 i2 i3 i4 else if pc = 53 then bX12_twins_53  (fX12_twins  k) S i1 i2 i3 i4 else if pc = 65 then bX12_twins_65  (fX12_twins  k) S i1 i2 i3 i4 else if pc = 78 then bX12_twins_78  (fX12_twins  k) S i1 i2 i3 i4 else if pc = 158 then bX12_twins_158  (fX12_twins  k) S i1 i2 i3 i4 else none
noncomputable def FX12_twins (S : gS) (i1 : Int32) : Option (gS × Int32) := g_lt (uI S (180) 0 ((0 : Int32))) (fun S1 => g_b2 (FX12_within S1 (i1) ((1 : Int32)) ((60 : Int32))) (fun S2 b3 => if b3 = true then (g_b1 (FX12_copies S2 (216) (59) ((0 : Int32)) (218) (59) ((0 : Int32))) (fun S4 => fX12_twins  FU 32 S4 (i1) ((0 : Int32)) 0 0)) else (some (S2, (-1 : Int32)))))
set_option maxRecDepth 100000 in
theorem lX12_twins  {n : Nat} {R : gS × Int32} : ∀ k : Nat, (∀ (S : gS) (i1 : Int32) (i2 : Int32) (i3 : Int32) (i4 : Int32) , fX12_twins  k 32 S i1 i2 i3 i4 = some R → gG 6 mX12_twins 0 0 (g_Xj mX12_twins n 0 0 (hPi (fun S2 x2 => S2 = R.1 ∧ x2 = R.2))) 32 n (hH S) [some (.ref (180)), some (.int (i1)), some (.int (i2)), none, none] [] 0 0) ∧ (∀ (S : gS) (i1 : Int32) (i2 : Int32) (i3 : Int32) (i4 : Int32) , fX12_twins  k 53 S i1 i2 i3 i4 = some R → gG 6 mX12_twins 0 0 (g_Xj mX12_twins n 0 0 (hPi (fun S2 x2 => S2 = R.1 ∧ x2 = R.2))) 53 n (hH S) [some (.ref (180)), some (.int (i1)), some (.int (i2)), none, none] [] 0 0) ∧ (∀ (S : gS) (i1 : Int32) (i2 : Int32) (i3 : Int32) (i4 : Int32) , fX12_twins  k 65 S i1 i2 i3 i4 = some R → gG 6 mX12_twins 0 0 (g_Xj mX12_twins n 0 0 (hPi (fun S2 x2 => S2 = R.1 ∧ x2 = R.2))) 65 n (hH S) [some (.ref (180)), some (.int (i1)), some (.int (i2)), some (.int (i3)), none] [] 0 0) ∧ (∀ (S : gS) (i1 : Int32) (i2 : Int32) (i3 : Int32) (i4 : Int32) , fX12_twins  k 78 S i1 i2 i3 i4 = some R → gG 6 mX12_twins 0 0 (g_Xj mX12_twins n 0 0 (hPi (fun S2 x2 => S2 = R.1 ∧ x2 = R.2))) 78 n (hH S) [some (.ref (180)), some (.int (i1)), some (.int (i2)), some (.int (i3)), some (.int (i4))] [] 0 0) ∧ (∀ (S : gS) (i1 : Int32) (i2 : Int32) (i3 : Int32) (i4 : Int32) , fX12_twins  k 158 S i1 i2 i3 i4 = some R → gG 6 mX12_twins 0 0 (g_Xj mX12_twins n 0 0 (hPi (fun S2 x2 => S2 = R.1 ∧ x2 = R.2))) 158 n (hH S) [some (.ref (180)), none, some (.int (i2)), some (.int (i3)), none] [] 0 0) := by
  intro k
  induction k with
  | zero => exact ⟨fun _ _ _ _ _ h => (by cases h), fun _ _ _ _ _ h => (by cases h), fun _ _ _ _ _ h => (by cases h), fun _ _ _ _ _ h => (by cases h), fun _ _ _ _ _ h => (by cases h)⟩
  | succ k ih =>
    have hrec_32 := ih.1
    have hrec_53 := ih.2.1
    have hrec_65 := ih.2.2.1
    have hrec_78 := ih.2.2.2.1
    have hrec_158 := ih.2.2.2.2
    refine ⟨?_, ?_, ?_, ?_, ?_⟩
    · intro S i1 i2 i3 i4 h
      rw [fX12_twins] at h
      have h := g_ip rfl h
      unfold bX12_twins_32 at h
      refine zX12_twins_32  ?_
      refine ⟨fun c => ?_, fun c => ?_⟩
      · have h := g_ip c h
        exact hrec_53 _ _ _ _ _  h
      · have h := g_in c h
        obtain ⟨hv1, h⟩ := g_vs h
        refine ⟨hv1, ?_⟩
        intro S2 eS
        have h := g_lts eS h
        exact hrec_32 _ _ _ _ _  h
    · intro S i1 i2 i3 i4 h
      rw [fX12_twins] at h
      have h := g_in (by decide) h
      have h := g_ip rfl h
      unfold bX12_twins_53 at h
      refine zX12_twins_53  ?_
      refine ⟨fun c => ?_, fun c => ?_⟩
      · have h := g_ip c h
        obtain ⟨S1, hc, h⟩ := g_b1s h
        refine ⟨0, _, (by decide), CX12_copies rfl rfl hc, ?_⟩
        rintro _ rfl
        exact hrec_158 _ _ _ _ _  h
      · have h := g_in c h
        obtain ⟨S2, x3, hc, h⟩ := g_b2s h
        refine ⟨5, _, (by decide), CX12_passesAsTold  hc, ?_⟩
        rintro _ _ ⟨rfl, rfl⟩
        exact hrec_65 _ _ _ _ _  h
    · intro S i1 i2 i3 i4 h
      rw [fX12_twins] at h
      have h := g_in (by decide) h
      have h := g_in (by decide) h
      have h := g_ip rfl h
      unfold bX12_twins_65 at h
      refine zX12_twins_65  ?_
      refine ⟨fun c => ?_, fun c => ?_⟩
      · have h := g_ip c h
        exact hrec_53 _ _ _ _ _  h
      · have h := g_in c h
        exact hrec_78 _ _ _ _ _  h
    · intro S i1 i2 i3 i4 h
      rw [fX12_twins] at h
      have h := g_in (by decide) h
      have h := g_in (by decide) h
      have h := g_in (by decide) h
      have h := g_ip rfl h
      unfold bX12_twins_78 at h
      refine zX12_twins_78  ?_
      refine ⟨fun c => ?_, fun c => ?_⟩
      · have h := g_ip c h
        exact hrec_65 _ _ _ _ _  h
      · have h := g_in c h
        obtain ⟨hv1, h⟩ := g_vs h
        refine ⟨hv1, ?_⟩
        obtain ⟨hv2, h⟩ := g_vs h
        refine ⟨hv2, ?_⟩
        obtain ⟨hv3, h⟩ := g_vs h
        refine ⟨hv3, ?_⟩
        refine ⟨fun c => ?_, fun c => ?_⟩
        · have h := g_ip c h
          intro S4 eS
          have h := g_lts eS h
          exact hrec_78 _ _ _ _ _  h
        · have h := g_in c h
          intro S5 eS
          have h := g_lts eS h
          exact hrec_78 _ _ _ _ _  h
    · intro S i1 i2 i3 i4 h
      rw [fX12_twins] at h
      have h := g_in (by decide) h
      have h := g_in (by decide) h
      have h := g_in (by decide) h
      have h := g_in (by decide) h
      have h := g_ip rfl h
      unfold bX12_twins_158 at h
      refine zX12_twins_158  ?_
      refine ⟨fun c => ?_, fun c => ?_⟩
      · have h := g_ip c h
        cases h; exact ⟨rfl, rfl⟩
      · have h := g_in c h
        obtain ⟨hv1, h⟩ := g_vs h
        refine ⟨hv1, ?_⟩
        obtain ⟨S2, x3, hc, h⟩ := g_b2s h
        refine ⟨0, _, (by decide), CX12_bits  hc, ?_⟩
        rintro _ _ ⟨rfl, rfl⟩
        exact hrec_158 _ _ _ _ _  h
theorem CX12_twins {n : Nat} {S : gS} {R : gS × Int32} {i1 : Int32}  (h : FX12_twins S i1 = some R) : sCi 6 mX12_twins n S [.ref (180), .int (i1)] (fun S2 x2 => S2 = R.1 ∧ x2 = R.2) := by
  unfold FX12_twins at h
  refine gCj_of (by decide) (Nat.le_of_ble_eq_true rfl) rfl rfl (zX12_twins_0  ?_)
  intro S1 eS
  have h := g_lts eS h
  obtain ⟨S2, b3, hc, h⟩ := g_b2s h
  refine ⟨0, _, (by decide), CX12_within  hc, ?_⟩
  rintro _ _ ⟨rfl, rfl⟩
  refine ⟨fun c => ?_, fun c => ?_⟩
  · have h := g_bt c h
    obtain ⟨S4, hc, h⟩ := g_b1s h
    refine ⟨0, _, (by decide), CX12_copies rfl rfl hc, ?_⟩
    rintro _ rfl
    exact (lX12_twins FU).1 _ _ _ _ _  h
  · have h := g_bf c h
    cases h; exact ⟨rfl, rfl⟩

noncomputable def bX12_downOf_9  (rec : Nat → gS → Int32 → Int32 → Option (gS × Int32)) (S : gS) (i2 : Int32) (i3 : Int32) : Option (gS × Int32) := if i3 < 0 then (some (S, i2)) else (if g_vp (i3) 14 = true then (rec 9 S ((i2 ||| ((1 : Int32) <<< (i3 &&& 31)))) ((sR S (189) (Int32.toNatClampNeg (i3))))) else none)
noncomputable def fX12_downOf  : Nat → Nat → gS → Int32 → Int32 → Option (gS × Int32)
  | 0 => fun _ _ _ _ => none
  | k + 1 => fun pc S i2 i3 => if pc = 9 then bX12_downOf_9  (fX12_downOf  k) S i2 i3 else none
noncomputable def FX12_downOf (S : gS) (i1 : Int32) : Option (gS × Int32) := if g_vp (i1) 14 = true then (fX12_downOf  FU 9 S ((0 : Int32)) ((sR S (189) (Int32.toNatClampNeg (i1))))) else none
set_option maxRecDepth 100000 in
theorem lX12_downOf  {n : Nat} {R : gS × Int32} : ∀ k : Nat, (∀ (S : gS) (i2 : Int32) (i3 : Int32) , fX12_downOf  k 9 S i2 i3 = some R → gG 0 mX12_downOf 0 0 (g_Xj mX12_downOf n 0 0 (hPi (fun S2 x2 => S2 = R.1 ∧ x2 = R.2))) 9 n (hH S) [some (.ref (180)), none, some (.int (i2)), some (.int (i3))] [] 0 0) := by
  intro k
  induction k with
  | zero => exact fun _ _ _ h => (by cases h)
  | succ k ih =>
    have hrec_9 := ih
    · intro S i2 i3 h
      rw [fX12_downOf] at h
      have h := g_ip rfl h
      unfold bX12_downOf_9 at h
      refine zX12_downOf_9  ?_
      refine ⟨fun c => ?_, fun c => ?_⟩
      · have h := g_ip c h
        cases h; exact ⟨rfl, rfl⟩
      · have h := g_in c h
        obtain ⟨hv1, h⟩ := g_vs h
        refine ⟨hv1, ?_⟩
        exact hrec_9 _ _ _  h
theorem CX12_downOf {n : Nat} {S : gS} {R : gS × Int32} {i1 : Int32}  (h : FX12_downOf S i1 = some R) : sCi 0 mX12_downOf n S [.ref (180), .int (i1)] (fun S2 x2 => S2 = R.1 ∧ x2 = R.2) := by
  unfold FX12_downOf at h
  refine gCj_of (by decide) (Nat.le_of_ble_eq_true rfl) rfl rfl (zX12_downOf_0  ?_)
  obtain ⟨hv1, h⟩ := g_vs h
  refine ⟨hv1, ?_⟩
  exact (lX12_downOf FU) _ _ _  h

noncomputable def FX12_down (S : gS) (i1 : Int32) : Option (gS × Int32) := g_lt (uI S (180) 0 ((0 : Int32))) (fun S1 => g_b2 (FX12_isMouth S1 (i1)) (fun S2 b3 => if b3 = true then (g_b2 (FX12_downOf S2 (i1)) (fun S4 x5 => some (S4, x5))) else (some (S2, (-1 : Int32)))))
theorem CX12_down {n : Nat} {S : gS} {R : gS × Int32} {i1 : Int32}  (h : FX12_down S i1 = some R) : sCi 1 mX12_down n S [.ref (180), .int (i1)] (fun S2 x2 => S2 = R.1 ∧ x2 = R.2) := by
  unfold FX12_down at h
  refine gCj_of (by decide) (Nat.le_of_ble_eq_true rfl) rfl rfl (zX12_down_0  ?_)
  intro S1 eS
  have h := g_lts eS h
  obtain ⟨S2, b3, hc, h⟩ := g_b2s h
  refine ⟨0, _, (by decide), CX12_isMouth  hc, ?_⟩
  rintro _ _ ⟨rfl, rfl⟩
  refine ⟨fun c => ?_, fun c => ?_⟩
  · have h := g_bf c h
    cases h; exact ⟨rfl, rfl⟩
  · have h := g_bt c h
    obtain ⟨S4, x5, hc, h⟩ := g_b2s h
    refine ⟨0, _, (by decide), CX12_downOf  hc, ?_⟩
    rintro _ _ ⟨rfl, rfl⟩
    cases h; exact ⟨rfl, rfl⟩

noncomputable def bX12_up_19  (rec : Nat → gS → Int32 → Int32 → Int32 → Option (gS × Int32)) (S : gS) (i1 : Int32) (i2 : Int32) (i3 : Int32) : Option (gS × Int32) := if (sR S (182) (0)) ≤ i3 then (some (S, i2)) else (g_b2 (FX12_downOf S (i3)) (fun S1 x2 => rec 19 S1 (i1) ((i2 ||| (((x2 >>> (i1 &&& 31)) &&& (1 : Int32)) <<< (i3 &&& 31)))) ((i3 + 1))))
noncomputable def fX12_up  : Nat → Nat → gS → Int32 → Int32 → Int32 → Option (gS × Int32)
  | 0 => fun _ _ _ _ _ => none
  | k + 1 => fun pc S i1 i2 i3 => if pc = 19 then bX12_up_19  (fX12_up  k) S i1 i2 i3 else none
noncomputable def FX12_up (S : gS) (i1 : Int32) : Option (gS × Int32) := g_lt (uI S (180) 0 ((0 : Int32))) (fun S1 => g_b2 (FX12_isMouth S1 (i1)) (fun S2 b3 => if b3 = true then (fX12_up  FU 19 S2 (i1) ((0 : Int32)) ((0 : Int32))) else (some (S2, (-1 : Int32)))))
set_option maxRecDepth 100000 in
theorem lX12_up  {n : Nat} {R : gS × Int32} : ∀ k : Nat, (∀ (S : gS) (i1 : Int32) (i2 : Int32) (i3 : Int32) , fX12_up  k 19 S i1 i2 i3 = some R → gG 1 mX12_up 0 0 (g_Xj mX12_up n 0 0 (hPi (fun S2 x2 => S2 = R.1 ∧ x2 = R.2))) 19 n (hH S) [some (.ref (180)), some (.int (i1)), some (.int (i2)), some (.int (i3))] [] 0 0) := by
  intro k
  induction k with
  | zero => exact fun _ _ _ _ h => (by cases h)
  | succ k ih =>
    have hrec_19 := ih
    · intro S i1 i2 i3 h
      rw [fX12_up] at h
      have h := g_ip rfl h
      unfold bX12_up_19 at h
      refine zX12_up_19  ?_
      refine ⟨fun c => ?_, fun c => ?_⟩
      · have h := g_ip c h
        cases h; exact ⟨rfl, rfl⟩
      · have h := g_in c h
        obtain ⟨S1, x2, hc, h⟩ := g_b2s h
        refine ⟨0, _, (by decide), CX12_downOf  hc, ?_⟩
        rintro _ _ ⟨rfl, rfl⟩
        exact hrec_19 _ _ _ _  h
theorem CX12_up {n : Nat} {S : gS} {R : gS × Int32} {i1 : Int32}  (h : FX12_up S i1 = some R) : sCi 1 mX12_up n S [.ref (180), .int (i1)] (fun S2 x2 => S2 = R.1 ∧ x2 = R.2) := by
  unfold FX12_up at h
  refine gCj_of (by decide) (Nat.le_of_ble_eq_true rfl) rfl rfl (zX12_up_0  ?_)
  intro S1 eS
  have h := g_lts eS h
  obtain ⟨S2, b3, hc, h⟩ := g_b2s h
  refine ⟨0, _, (by decide), CX12_isMouth  hc, ?_⟩
  rintro _ _ ⟨rfl, rfl⟩
  refine ⟨fun c => ?_, fun c => ?_⟩
  · have h := g_bt c h
    exact (lX12_up FU) _ _ _ _  h
  · have h := g_bf c h
    cases h; exact ⟨rfl, rfl⟩

noncomputable def bX12_chain_9  (rec : Nat → gS → Int32 → Int32 → Option (gS × Int32)) (S : gS) (i1 : Int32) (i2 : Int32) : Option (gS × Int32) := if (sR S (182) (0)) ≤ i2 then (some (S, i1)) else (g_b2 (FX12_downOf S (i2)) (fun S1 x2 => g_b2 (FX12_bits S1 (x2)) (fun S3 x4 => rec 9 S3 ((if i1 < ((1 : Int32) + x4) then ((1 : Int32) + x4) else i1)) ((i2 + 1)))))
noncomputable def fX12_chain  : Nat → Nat → gS → Int32 → Int32 → Option (gS × Int32)
  | 0 => fun _ _ _ _ => none
  | k + 1 => fun pc S i1 i2 => if pc = 9 then bX12_chain_9  (fX12_chain  k) S i1 i2 else none
noncomputable def FX12_chain (S : gS)  : Option (gS × Int32) := g_lt (uI S (180) 0 ((0 : Int32))) (fun S1 => fX12_chain  FU 9 S1 ((0 : Int32)) ((0 : Int32)))
set_option maxRecDepth 100000 in
theorem lX12_chain  {n : Nat} {R : gS × Int32} : ∀ k : Nat, (∀ (S : gS) (i1 : Int32) (i2 : Int32) , fX12_chain  k 9 S i1 i2 = some R → gG 1 mX12_chain 0 0 (g_Xj mX12_chain n 0 0 (hPi (fun S2 x2 => S2 = R.1 ∧ x2 = R.2))) 9 n (hH S) [some (.ref (180)), some (.int (i1)), some (.int (i2))] [] 0 0) := by
  intro k
  induction k with
  | zero => exact fun _ _ _ h => (by cases h)
  | succ k ih =>
    have hrec_9 := ih
    · intro S i1 i2 h
      rw [fX12_chain] at h
      have h := g_ip rfl h
      unfold bX12_chain_9 at h
      refine zX12_chain_9 (by decide) ?_
      refine ⟨fun c => ?_, fun c => ?_⟩
      · have h := g_ip c h
        cases h; exact ⟨rfl, rfl⟩
      · have h := g_in c h
        obtain ⟨S1, x2, hc, h⟩ := g_b2s h
        refine ⟨0, _, (by decide), CX12_downOf  hc, ?_⟩
        rintro _ _ ⟨rfl, rfl⟩
        obtain ⟨S3, x4, hc, h⟩ := g_b2s h
        refine ⟨0, _, (by decide), CX12_bits  hc, ?_⟩
        rintro _ _ ⟨rfl, rfl⟩
        exact hrec_9 _ _ _  h
theorem CX12_chain {n : Nat} {S : gS} {R : gS × Int32}   (h : FX12_chain S  = some R) : sCi 1 mX12_chain n S [.ref (180)] (fun S2 x2 => S2 = R.1 ∧ x2 = R.2) := by
  unfold FX12_chain at h
  refine gCj_of (by decide) (Nat.le_of_ble_eq_true rfl) rfl rfl (zX12_chain_0  ?_)
  intro S1 eS
  have h := g_lts eS h
  exact (lX12_chain FU) _ _ _  h

noncomputable def FX12_sounds (S : gS)  : Option (gS × Int32) := g_lt (uI S (180) 0 ((0 : Int32))) (fun S1 => some (S1, (sR S1 (216) (2))))
theorem CX12_sounds {n : Nat} {S : gS} {R : gS × Int32}   (h : FX12_sounds S  = some R) : sCi 0 mX12_sounds n S [.ref (180)] (fun S2 x2 => S2 = R.1 ∧ x2 = R.2) := by
  unfold FX12_sounds at h
  refine gCj_of (by decide) (Nat.le_of_ble_eq_true rfl) rfl rfl (zX12_sounds_0  ?_)
  intro S1 eS
  have h := g_lts eS h
  cases h; exact ⟨rfl, rfl⟩

noncomputable def FX12_last (S : gS)  : Option (gS × Int32) := g_lt (uI S (180) 0 ((0 : Int32))) (fun S1 => some (S1, (sR S1 (216) (3))))
theorem CX12_last {n : Nat} {S : gS} {R : gS × Int32}   (h : FX12_last S  = some R) : sCi 0 mX12_last n S [.ref (180)] (fun S2 x2 => S2 = R.1 ∧ x2 = R.2) := by
  unfold FX12_last at h
  refine gCj_of (by decide) (Nat.le_of_ble_eq_true rfl) rfl rfl (zX12_last_0  ?_)
  intro S1 eS
  have h := g_lts eS h
  cases h; exact ⟨rfl, rfl⟩

noncomputable def bX12_often_11  (rec : Nat → gS → Int32 → Int32 → Int32 → Int32 → Int32 → Option (gS × Int32)) (S : gS) (i1 : Int32) (i2 : Int32) (i3 : Int32) (i4 : Int32) (i5 : Int32) : Option (gS × Int32) := if (sR S (182) (1)) ≤ i3 then (some (S, i1)) else (rec 27 S (i1) (i2) (i3) ((0 : Int32)) ((0 : Int32)))
noncomputable def bX12_often_27  (rec : Nat → gS → Int32 → Int32 → Int32 → Int32 → Int32 → Option (gS × Int32)) (S : gS) (i1 : Int32) (i2 : Int32) (i3 : Int32) (i4 : Int32) (i5 : Int32) : Option (gS × Int32) := if (sR S (216) (4)) ≤ i5 then (if i2 < i4 then (rec 11 S (i3) (i4) ((i3 + 1)) 0 0) else (rec 11 S (i1) (i2) ((i3 + 1)) 0 0)) else (if g_vp (((19 : Int32) + i5)) 59 = true then (if (sR S (216) (Int32.toNatClampNeg (((19 : Int32) + i5)))) = i3 then (rec 27 S (i1) (i2) (i3) ((i4 + (1 : Int32))) ((i5 + 1))) else (rec 27 S (i1) (i2) (i3) ((i4 + (0 : Int32))) ((i5 + 1)))) else none)
noncomputable def fX12_often  : Nat → Nat → gS → Int32 → Int32 → Int32 → Int32 → Int32 → Option (gS × Int32)
  | 0 => fun _ _ _ _ _ _ _ => none
  | k + 1 => fun pc S i1 i2 i3 i4 i5 => if pc = 11 then bX12_often_11  (fX12_often  k) S i1 i2 i3 i4 i5 else if pc = 27 then bX12_often_27  (fX12_often  k) S i1 i2 i3 i4 i5 else none
noncomputable def FX12_often (S : gS)  : Option (gS × Int32) := g_lt (uI S (180) 0 ((0 : Int32))) (fun S1 => fX12_often  FU 11 S1 ((-1 : Int32)) ((0 : Int32)) ((0 : Int32)) 0 0)
set_option maxRecDepth 100000 in
theorem lX12_often  {n : Nat} {R : gS × Int32} : ∀ k : Nat, (∀ (S : gS) (i1 : Int32) (i2 : Int32) (i3 : Int32) (i4 : Int32) (i5 : Int32) , fX12_often  k 11 S i1 i2 i3 i4 i5 = some R → gG 0 mX12_often 0 0 (g_Xj mX12_often n 0 0 (hPi (fun S2 x2 => S2 = R.1 ∧ x2 = R.2))) 11 n (hH S) [some (.ref (180)), some (.int (i1)), some (.int (i2)), some (.int (i3)), none, none] [] 0 0) ∧ (∀ (S : gS) (i1 : Int32) (i2 : Int32) (i3 : Int32) (i4 : Int32) (i5 : Int32) , fX12_often  k 27 S i1 i2 i3 i4 i5 = some R → gG 0 mX12_often 0 0 (g_Xj mX12_often n 0 0 (hPi (fun S2 x2 => S2 = R.1 ∧ x2 = R.2))) 27 n (hH S) [some (.ref (180)), some (.int (i1)), some (.int (i2)), some (.int (i3)), some (.int (i4)), some (.int (i5))] [] 0 0) := by
  intro k
  induction k with
  | zero => exact ⟨fun _ _ _ _ _ _ h => (by cases h), fun _ _ _ _ _ _ h => (by cases h)⟩
  | succ k ih =>
    have hrec_11 := ih.1
    have hrec_27 := ih.2
    refine ⟨?_, ?_⟩
    · intro S i1 i2 i3 i4 i5 h
      rw [fX12_often] at h
      have h := g_ip rfl h
      unfold bX12_often_11 at h
      refine zX12_often_11  ?_
      refine ⟨fun c => ?_, fun c => ?_⟩
      · have h := g_ip c h
        cases h; exact ⟨rfl, rfl⟩
      · have h := g_in c h
        exact hrec_27 _ _ _ _ _ _  h
    · intro S i1 i2 i3 i4 i5 h
      rw [fX12_often] at h
      have h := g_in (by decide) h
      have h := g_ip rfl h
      unfold bX12_often_27 at h
      refine zX12_often_27  ?_
      refine ⟨fun c => ?_, fun c => ?_⟩
      · have h := g_ip c h
        refine ⟨fun c => ?_, fun c => ?_⟩
        · have h := g_ip c h
          exact hrec_11 _ _ _ _ _ _  h
        · have h := g_in c h
          exact hrec_11 _ _ _ _ _ _  h
      · have h := g_in c h
        obtain ⟨hv1, h⟩ := g_vs h
        refine ⟨hv1, ?_⟩
        refine ⟨fun c => ?_, fun c => ?_⟩
        · have h := g_in c h
          exact hrec_27 _ _ _ _ _ _  h
        · have h := g_ip c h
          exact hrec_27 _ _ _ _ _ _  h
theorem CX12_often {n : Nat} {S : gS} {R : gS × Int32}   (h : FX12_often S  = some R) : sCi 0 mX12_often n S [.ref (180)] (fun S2 x2 => S2 = R.1 ∧ x2 = R.2) := by
  unfold FX12_often at h
  refine gCj_of (by decide) (Nat.le_of_ble_eq_true rfl) rfl rfl (zX12_often_0  ?_)
  intro S1 eS
  have h := g_lts eS h
  exact (lX12_often FU).1 _ _ _ _ _ _  h

noncomputable def bX12_run_11  (rec : Nat → gS → Int32 → Int32 → Int32 → Option (gS × Int32)) (S : gS) (i1 : Int32) (i2 : Int32) (i3 : Int32) : Option (gS × Int32) := if (sR S (216) (4)) ≤ i3 then (some (S, i1)) else (if i3 ≤ 0 then (rec 56 S (i1) ((1 : Int32)) (i3)) else (if g_vp (((19 : Int32) + i3)) 59 = true then (if g_vp ((((19 : Int32) + i3) - (1 : Int32))) 59 = true then (if (sR S (216) (Int32.toNatClampNeg (((19 : Int32) + i3)))) = (sR S (216) (Int32.toNatClampNeg ((((19 : Int32) + i3) - (1 : Int32))))) then (rec 56 S (i1) ((i2 + (1 : Int32))) (i3)) else (rec 56 S (i1) ((1 : Int32)) (i3))) else none) else none))
noncomputable def bX12_run_56  (rec : Nat → gS → Int32 → Int32 → Int32 → Option (gS × Int32)) (S : gS) (i1 : Int32) (i2 : Int32) (i3 : Int32) : Option (gS × Int32) := if g_vp (((19 : Int32) + i3)) 59 = true then (if (sR S (216) (Int32.toNatClampNeg (((19 : Int32) + i3)))) = (6 : Int32) then (rec 11 S (i1) (i2) ((i3 + 1))) else (rec 11 S ((if i1 < i2 then i2 else i1)) (i2) ((i3 + 1)))) else none
noncomputable def fX12_run  : Nat → Nat → gS → Int32 → Int32 → Int32 → Option (gS × Int32)
  | 0 => fun _ _ _ _ _ => none
  | k + 1 => fun pc S i1 i2 i3 => if pc = 11 then bX12_run_11  (fX12_run  k) S i1 i2 i3 else if pc = 56 then bX12_run_56  (fX12_run  k) S i1 i2 i3 else none
noncomputable def FX12_run (S : gS)  : Option (gS × Int32) := g_lt (uI S (180) 0 ((0 : Int32))) (fun S1 => fX12_run  FU 11 S1 ((0 : Int32)) ((0 : Int32)) ((0 : Int32)))
set_option maxRecDepth 100000 in
theorem lX12_run  {n : Nat} {R : gS × Int32} : ∀ k : Nat, (∀ (S : gS) (i1 : Int32) (i2 : Int32) (i3 : Int32) , fX12_run  k 11 S i1 i2 i3 = some R → gG 1 mX12_run 0 0 (g_Xj mX12_run n 0 0 (hPi (fun S2 x2 => S2 = R.1 ∧ x2 = R.2))) 11 n (hH S) [some (.ref (180)), some (.int (i1)), some (.int (i2)), some (.int (i3))] [] 0 0) ∧ (∀ (S : gS) (i1 : Int32) (i2 : Int32) (i3 : Int32) , fX12_run  k 56 S i1 i2 i3 = some R → gG 1 mX12_run 0 0 (g_Xj mX12_run n 0 0 (hPi (fun S2 x2 => S2 = R.1 ∧ x2 = R.2))) 56 n (hH S) [some (.ref (180)), some (.int (i1)), some (.int (i2)), some (.int (i3))] [] 0 0) := by
  intro k
  induction k with
  | zero => exact ⟨fun _ _ _ _ h => (by cases h), fun _ _ _ _ h => (by cases h)⟩
  | succ k ih =>
    have hrec_11 := ih.1
    have hrec_56 := ih.2
    refine ⟨?_, ?_⟩
    · intro S i1 i2 i3 h
      rw [fX12_run] at h
      have h := g_ip rfl h
      unfold bX12_run_11 at h
      refine zX12_run_11  ?_
      refine ⟨fun c => ?_, fun c => ?_⟩
      · have h := g_ip c h
        cases h; exact ⟨rfl, rfl⟩
      · have h := g_in c h
        refine ⟨fun c => ?_, fun c => ?_⟩
        · have h := g_ip c h
          exact hrec_56 _ _ _ _  h
        · have h := g_in c h
          obtain ⟨hv1, h⟩ := g_vs h
          refine ⟨hv1, ?_⟩
          obtain ⟨hv2, h⟩ := g_vs h
          refine ⟨hv2, ?_⟩
          refine ⟨fun c => ?_, fun c => ?_⟩
          · have h := g_in c h
            exact hrec_56 _ _ _ _  h
          · have h := g_ip c h
            exact hrec_56 _ _ _ _  h
    · intro S i1 i2 i3 h
      rw [fX12_run] at h
      have h := g_in (by decide) h
      have h := g_ip rfl h
      unfold bX12_run_56 at h
      refine zX12_run_56 (by decide) ?_
      obtain ⟨hv1, h⟩ := g_vs h
      refine ⟨hv1, ?_⟩
      refine ⟨fun c => ?_, fun c => ?_⟩
      · have h := g_ip c h
        exact hrec_11 _ _ _ _  h
      · have h := g_in c h
        exact hrec_11 _ _ _ _  h
theorem CX12_run {n : Nat} {S : gS} {R : gS × Int32}   (h : FX12_run S  = some R) : sCi 1 mX12_run n S [.ref (180)] (fun S2 x2 => S2 = R.1 ∧ x2 = R.2) := by
  unfold FX12_run at h
  refine gCj_of (by decide) (Nat.le_of_ble_eq_true rfl) rfl rfl (zX12_run_0  ?_)
  intro S1 eS
  have h := g_lts eS h
  exact (lX12_run FU).1 _ _ _ _  h

noncomputable def bX12_standsAt_21  (rec : Nat → gS → Int32 → Int32 → Int32 → Option (gS × Bool)) (S : gS) (i1 : Int32) (i2 : Int32) (i3 : Int32) : Option (gS × Bool) := if (sR S (211) (0)) ≤ i3 then (some (S, true)) else (if g_vp ((((19 : Int32) + i1) + i3)) 59 = true then (if g_vp (i3) 42 = true then (if (sR S (216) (Int32.toNatClampNeg ((((19 : Int32) + i1) + i3)))) = (sR S (212) (Int32.toNatClampNeg (i3))) then (rec 21 S (i1) (i2) ((i3 + 1))) else (if i2 = 0 then (some (S, false)) else (if (sR S (216) (Int32.toNatClampNeg ((((19 : Int32) + i1) + i3)))) = (6 : Int32) then (rec 21 S (i1) (i2) ((i3 + 1))) else (some (S, false))))) else none) else none)
noncomputable def fX12_standsAt  : Nat → Nat → gS → Int32 → Int32 → Int32 → Option (gS × Bool)
  | 0 => fun _ _ _ _ _ => none
  | k + 1 => fun pc S i1 i2 i3 => if pc = 21 then bX12_standsAt_21  (fX12_standsAt  k) S i1 i2 i3 else none
noncomputable def FX12_standsAt (S : gS) (i1 : Int32) (i2 : Int32) : Option (gS × Bool) := if (i1 + (sR S (211) (0))) ≤ (sR S (216) (4)) then (fX12_standsAt  FU 21 S (i1) (i2) ((0 : Int32))) else (some (S, false))
set_option maxRecDepth 100000 in
theorem lX12_standsAt  {n : Nat} {R : gS × Bool} : ∀ k : Nat, (∀ (S : gS) (i1 : Int32) (i2 : Int32) (i3 : Int32) , fX12_standsAt  k 21 S i1 i2 i3 = some R → gG 0 mX12_standsAt 0 0 (g_Xz mX12_standsAt n 0 0 (hPz (fun S2 x2 => S2 = R.1 ∧ x2 = R.2))) 21 n (hH S) [some (.ref (180)), some (.int (i1)), some (.int (i2)), some (.int (i3))] [] 0 0) := by
  intro k
  induction k with
  | zero => exact fun _ _ _ _ h => (by cases h)
  | succ k ih =>
    have hrec_21 := ih
    · intro S i1 i2 i3 h
      rw [fX12_standsAt] at h
      have h := g_ip rfl h
      unfold bX12_standsAt_21 at h
      refine zX12_standsAt_21  ?_
      refine ⟨fun c => ?_, fun c => ?_⟩
      · have h := g_ip c h
        cases h; exact ⟨rfl, rfl⟩
      · have h := g_in c h
        obtain ⟨hv1, h⟩ := g_vs h
        refine ⟨hv1, ?_⟩
        obtain ⟨hv2, h⟩ := g_vs h
        refine ⟨hv2, ?_⟩
        refine ⟨fun c => ?_, fun c => ?_⟩
        · have h := g_ip c h
          exact hrec_21 _ _ _ _  h
        · have h := g_in c h
          refine ⟨fun c => ?_, fun c => ?_⟩
          · have h := g_ip c h
            cases h; exact ⟨rfl, rfl⟩
          · have h := g_in c h
            refine ⟨fun c => ?_, fun c => ?_⟩
            · have h := g_ip c h
              exact hrec_21 _ _ _ _  h
            · have h := g_in c h
              cases h; exact ⟨rfl, rfl⟩
theorem CX12_standsAt {n : Nat} {S : gS} {R : gS × Bool} {i1 : Int32} {i2 : Int32}  (h : FX12_standsAt S i1 i2 = some R) : sCz 0 mX12_standsAt n S [.ref (180), .int (i1), .int (i2)] (fun S2 x2 => S2 = R.1 ∧ x2 = R.2) := by
  unfold FX12_standsAt at h
  refine gCz_of (by decide) (Nat.le_of_ble_eq_true rfl) rfl rfl (zX12_standsAt_0  ?_)
  refine ⟨fun c => ?_, fun c => ?_⟩
  · have h := g_ip c h
    exact (lX12_standsAt FU) _ _ _ _  h
  · have h := g_in c h
    cases h; exact ⟨rfl, rfl⟩

noncomputable def bX12_standsFrom_2  (rec : Nat → gS → Int32 → Option (gS × Int32)) (S : gS) (i1 : Int32) : Option (gS × Int32) := if (sR S (216) (4)) ≤ i1 then (some (S, (-1 : Int32))) else (g_b2 (FX12_standsAt S (i1) ((0 : Int32))) (fun S1 b2 => if b2 = true then (some (S1, i1)) else (rec 2 S1 ((i1 + 1)))))
noncomputable def fX12_standsFrom  : Nat → Nat → gS → Int32 → Option (gS × Int32)
  | 0 => fun _ _ _ => none
  | k + 1 => fun pc S i1 => if pc = 2 then bX12_standsFrom_2  (fX12_standsFrom  k) S i1 else none
noncomputable def FX12_standsFrom (S : gS)  : Option (gS × Int32) := fX12_standsFrom  FU 2 S ((0 : Int32))
set_option maxRecDepth 100000 in
theorem lX12_standsFrom  {n : Nat} {R : gS × Int32} : ∀ k : Nat, (∀ (S : gS) (i1 : Int32) , fX12_standsFrom  k 2 S i1 = some R → gG 1 mX12_standsFrom 0 0 (g_Xj mX12_standsFrom n 0 0 (hPi (fun S2 x2 => S2 = R.1 ∧ x2 = R.2))) 2 n (hH S) [some (.ref (180)), some (.int (i1))] [] 0 0) := by
  intro k
  induction k with
  | zero => exact fun _ _ h => (by cases h)
  | succ k ih =>
    have hrec_2 := ih
    · intro S i1 h
      rw [fX12_standsFrom] at h
      have h := g_ip rfl h
      unfold bX12_standsFrom_2 at h
      refine zX12_standsFrom_2  ?_
      refine ⟨fun c => ?_, fun c => ?_⟩
      · have h := g_ip c h
        cases h; exact ⟨rfl, rfl⟩
      · have h := g_in c h
        obtain ⟨S1, b2, hc, h⟩ := g_b2s h
        refine ⟨0, _, (by decide), CX12_standsAt  hc, ?_⟩
        rintro _ _ ⟨rfl, rfl⟩
        refine ⟨fun c => ?_, fun c => ?_⟩
        · have h := g_bf c h
          exact hrec_2 _ _  h
        · have h := g_bt c h
          cases h; exact ⟨rfl, rfl⟩
theorem CX12_standsFrom {n : Nat} {S : gS} {R : gS × Int32}   (h : FX12_standsFrom S  = some R) : sCi 1 mX12_standsFrom n S [.ref (180)] (fun S2 x2 => S2 = R.1 ∧ x2 = R.2) := by
  unfold FX12_standsFrom at h
  refine gCj_of (by decide) (Nat.le_of_ble_eq_true rfl) rfl rfl (zX12_standsFrom_0  ?_)
  exact (lX12_standsFrom FU) _ _  h

noncomputable def FX12_stands (S : gS)  : Option (gS × Int32) := g_lt (uI S (180) 0 ((0 : Int32))) (fun S1 => if (sR S1 (211) (0)) = 0 then (some (S1, (-1 : Int32))) else (g_b2 (FX12_standsFrom S1 ) (fun S2 x3 => some (S2, x3))))
theorem CX12_stands {n : Nat} {S : gS} {R : gS × Int32}   (h : FX12_stands S  = some R) : sCi 2 mX12_stands n S [.ref (180)] (fun S2 x2 => S2 = R.1 ∧ x2 = R.2) := by
  unfold FX12_stands at h
  refine gCj_of (by decide) (Nat.le_of_ble_eq_true rfl) rfl rfl (zX12_stands_0  ?_)
  intro S1 eS
  have h := g_lts eS h
  refine ⟨fun c => ?_, fun c => ?_⟩
  · have h := g_in c h
    obtain ⟨S2, x3, hc, h⟩ := g_b2s h
    refine ⟨1, _, (by decide), CX12_standsFrom  hc, ?_⟩
    rintro _ _ ⟨rfl, rfl⟩
    cases h; exact ⟨rfl, rfl⟩
  · have h := g_ip c h
    cases h; exact ⟨rfl, rfl⟩

noncomputable def bX12_maybe_20  (rec : Nat → gS → Int32 → Int32 → Option (gS × Int32)) (S : gS) (i1 : Int32) (i2 : Int32) : Option (gS × Int32) := if (sR S (216) (4)) ≤ i2 then (some (S, i1)) else (g_b2 (FX12_standsAt S (i2) ((1 : Int32))) (fun S1 b2 => if b2 = true then (rec 20 S1 ((i1 + (1 : Int32))) ((i2 + 1))) else (rec 20 S1 ((i1 + (0 : Int32))) ((i2 + 1)))))
noncomputable def fX12_maybe  : Nat → Nat → gS → Int32 → Int32 → Option (gS × Int32)
  | 0 => fun _ _ _ _ => none
  | k + 1 => fun pc S i1 i2 => if pc = 20 then bX12_maybe_20  (fX12_maybe  k) S i1 i2 else none
noncomputable def FX12_maybe (S : gS)  : Option (gS × Int32) := g_lt (uI S (180) 0 ((0 : Int32))) (fun S1 => if (sR S1 (211) (0)) = 0 then (some (S1, (-1 : Int32))) else (fX12_maybe  FU 20 S1 ((0 : Int32)) ((0 : Int32))))
set_option maxRecDepth 100000 in
theorem lX12_maybe  {n : Nat} {R : gS × Int32} : ∀ k : Nat, (∀ (S : gS) (i1 : Int32) (i2 : Int32) , fX12_maybe  k 20 S i1 i2 = some R → gG 1 mX12_maybe 0 0 (g_Xj mX12_maybe n 0 0 (hPi (fun S2 x2 => S2 = R.1 ∧ x2 = R.2))) 20 n (hH S) [some (.ref (180)), some (.int (i1)), some (.int (i2))] [] 0 0) := by
  intro k
  induction k with
  | zero => exact fun _ _ _ h => (by cases h)
  | succ k ih =>
    have hrec_20 := ih
    · intro S i1 i2 h
      rw [fX12_maybe] at h
      have h := g_ip rfl h
      unfold bX12_maybe_20 at h
      refine zX12_maybe_20  ?_
      refine ⟨fun c => ?_, fun c => ?_⟩
      · have h := g_ip c h
        cases h; exact ⟨rfl, rfl⟩
      · have h := g_in c h
        obtain ⟨S1, b2, hc, h⟩ := g_b2s h
        refine ⟨0, _, (by decide), CX12_standsAt  hc, ?_⟩
        rintro _ _ ⟨rfl, rfl⟩
        refine ⟨fun c => ?_, fun c => ?_⟩
        · have h := g_bf c h
          exact hrec_20 _ _ _  h
        · have h := g_bt c h
          exact hrec_20 _ _ _  h
theorem CX12_maybe {n : Nat} {S : gS} {R : gS × Int32}   (h : FX12_maybe S  = some R) : sCi 1 mX12_maybe n S [.ref (180)] (fun S2 x2 => S2 = R.1 ∧ x2 = R.2) := by
  unfold FX12_maybe at h
  refine gCj_of (by decide) (Nat.le_of_ble_eq_true rfl) rfl rfl (zX12_maybe_0  ?_)
  intro S1 eS
  have h := g_lts eS h
  refine ⟨fun c => ?_, fun c => ?_⟩
  · have h := g_in c h
    exact (lX12_maybe FU) _ _ _  h
  · have h := g_ip c h
    cases h; exact ⟨rfl, rfl⟩

noncomputable def bX12_entire_31  (rec : Nat → gS → Int32 → Option (gS × Int32)) (S : gS) (i1 : Int32) : Option (gS × Int32) := if (60 : Int32) < i1 then (rec 55 S (i1)) else (g_b2 (FX12_standsFrom S ) (fun S1 x2 => if 0 ≤ x2 then (rec 55 S1 (i1)) else (g_b2 (FX12_passesAsTold S1 ) (fun S3 x4 => rec 31 S3 ((i1 + 1))))))
noncomputable def bX12_entire_55  (rec : Nat → gS → Int32 → Option (gS × Int32)) (S : gS) (i1 : Int32) : Option (gS × Int32) := g_b1 (FX12_copies S (218) (59) ((0 : Int32)) (216) (59) ((0 : Int32))) (fun S1 => if i1 ≤ (60 : Int32) then (some (S1, i1)) else (some (S1, (-1 : Int32))))
noncomputable def fX12_entire  : Nat → Nat → gS → Int32 → Option (gS × Int32)
  | 0 => fun _ _ _ => none
  | k + 1 => fun pc S i1 => if pc = 31 then bX12_entire_31  (fX12_entire  k) S i1 else if pc = 55 then bX12_entire_55  (fX12_entire  k) S i1 else none
noncomputable def FX12_entire (S : gS)  : Option (gS × Int32) := g_lt (uI S (180) 0 ((0 : Int32))) (fun S1 => if (sR S1 (211) (0)) = 0 then (some (S1, (-1 : Int32))) else (g_b1 (FX12_copies S1 (216) (59) ((0 : Int32)) (218) (59) ((0 : Int32))) (fun S2 => fX12_entire  FU 31 S2 ((0 : Int32)))))
set_option maxRecDepth 100000 in
theorem lX12_entire  {n : Nat} {R : gS × Int32} : ∀ k : Nat, (∀ (S : gS) (i1 : Int32) , fX12_entire  k 31 S i1 = some R → gG 6 mX12_entire 0 0 (g_Xj mX12_entire n 0 0 (hPi (fun S2 x2 => S2 = R.1 ∧ x2 = R.2))) 31 n (hH S) [some (.ref (180)), some (.int (i1))] [] 0 0) ∧ (∀ (S : gS) (i1 : Int32) , fX12_entire  k 55 S i1 = some R → gG 6 mX12_entire 0 0 (g_Xj mX12_entire n 0 0 (hPi (fun S2 x2 => S2 = R.1 ∧ x2 = R.2))) 55 n (hH S) [some (.ref (180)), some (.int (i1))] [] 0 0) := by
  intro k
  induction k with
  | zero => exact ⟨fun _ _ h => (by cases h), fun _ _ h => (by cases h)⟩
  | succ k ih =>
    have hrec_31 := ih.1
    have hrec_55 := ih.2
    refine ⟨?_, ?_⟩
    · intro S i1 h
      rw [fX12_entire] at h
      have h := g_ip rfl h
      unfold bX12_entire_31 at h
      refine zX12_entire_31  ?_
      refine ⟨fun c => ?_, fun c => ?_⟩
      · have h := g_ip c h
        exact hrec_55 _ _  h
      · have h := g_in c h
        obtain ⟨S1, x2, hc, h⟩ := g_b2s h
        refine ⟨1, _, (by decide), CX12_standsFrom  hc, ?_⟩
        rintro _ _ ⟨rfl, rfl⟩
        refine ⟨fun c => ?_, fun c => ?_⟩
        · have h := g_ip c h
          exact hrec_55 _ _  h
        · have h := g_in c h
          obtain ⟨S3, x4, hc, h⟩ := g_b2s h
          refine ⟨5, _, (by decide), CX12_passesAsTold  hc, ?_⟩
          rintro _ _ ⟨rfl, rfl⟩
          exact hrec_31 _ _  h
    · intro S i1 h
      rw [fX12_entire] at h
      have h := g_in (by decide) h
      have h := g_ip rfl h
      unfold bX12_entire_55 at h
      refine zX12_entire_55  ?_
      obtain ⟨S1, hc, h⟩ := g_b1s h
      refine ⟨0, _, (by decide), CX12_copies rfl rfl hc, ?_⟩
      rintro _ rfl
      refine ⟨fun c => ?_, fun c => ?_⟩
      · have h := g_ip c h
        cases h; exact ⟨rfl, rfl⟩
      · have h := g_in c h
        cases h; exact ⟨rfl, rfl⟩
theorem CX12_entire {n : Nat} {S : gS} {R : gS × Int32}   (h : FX12_entire S  = some R) : sCi 6 mX12_entire n S [.ref (180)] (fun S2 x2 => S2 = R.1 ∧ x2 = R.2) := by
  unfold FX12_entire at h
  refine gCj_of (by decide) (Nat.le_of_ble_eq_true rfl) rfl rfl (zX12_entire_0  ?_)
  intro S1 eS
  have h := g_lts eS h
  refine ⟨fun c => ?_, fun c => ?_⟩
  · have h := g_in c h
    obtain ⟨S2, hc, h⟩ := g_b1s h
    refine ⟨0, _, (by decide), CX12_copies rfl rfl hc, ?_⟩
    rintro _ rfl
    exact (lX12_entire FU).1 _ _  h
  · have h := g_ip c h
    cases h; exact ⟨rfl, rfl⟩

noncomputable def bX12_aimOf_2  (rec : Nat → gS → Int32 → Int32 → Int32 → Int32 → Option (gS × Int32)) (S : gS) (i1 : Int32) (i2 : Int32) (i3 : Int32) (i4 : Int32) : Option (gS × Int32) := if (sR S (182) (0)) ≤ i3 then (some (S, (-1 : Int32))) else (g_b1 (FX12_copies S (216) (59) ((0 : Int32)) (218) (59) ((0 : Int32))) (fun S1 => g_b1 (FX12_pours S1 (i3) (i2)) (fun S2 => g_b2 (FX12_passesAsTold S2 ) (fun S3 x4 => if x4 = i1 then (rec 46 S3 (i1) (i2) (i3) ((1 : Int32))) else (rec 46 S3 (i1) (i2) (i3) ((0 : Int32)))))))
noncomputable def bX12_aimOf_46  (rec : Nat → gS → Int32 → Int32 → Int32 → Int32 → Option (gS × Int32)) (S : gS) (i1 : Int32) (i2 : Int32) (i3 : Int32) (i4 : Int32) : Option (gS × Int32) := g_b1 (FX12_copies S (218) (59) ((0 : Int32)) (216) (59) ((0 : Int32))) (fun S1 => if i4 = 0 then (rec 2 S1 (i1) (i2) ((i3 + 1)) 0) else (some (S1, i3)))
noncomputable def fX12_aimOf  : Nat → Nat → gS → Int32 → Int32 → Int32 → Int32 → Option (gS × Int32)
  | 0 => fun _ _ _ _ _ _ => none
  | k + 1 => fun pc S i1 i2 i3 i4 => if pc = 2 then bX12_aimOf_2  (fX12_aimOf  k) S i1 i2 i3 i4 else if pc = 46 then bX12_aimOf_46  (fX12_aimOf  k) S i1 i2 i3 i4 else none
noncomputable def FX12_aimOf (S : gS) (i1 : Int32) (i2 : Int32) : Option (gS × Int32) := fX12_aimOf  FU 2 S (i1) (i2) ((0 : Int32)) 0
set_option maxRecDepth 100000 in
theorem lX12_aimOf  {n : Nat} {R : gS × Int32} : ∀ k : Nat, (∀ (S : gS) (i1 : Int32) (i2 : Int32) (i3 : Int32) (i4 : Int32) , fX12_aimOf  k 2 S i1 i2 i3 i4 = some R → gG 6 mX12_aimOf 0 0 (g_Xj mX12_aimOf n 0 0 (hPi (fun S2 x2 => S2 = R.1 ∧ x2 = R.2))) 2 n (hH S) [some (.ref (180)), some (.int (i1)), some (.int (i2)), some (.int (i3)), none] [] 0 0) ∧ (∀ (S : gS) (i1 : Int32) (i2 : Int32) (i3 : Int32) (i4 : Int32) , fX12_aimOf  k 46 S i1 i2 i3 i4 = some R → gG 6 mX12_aimOf 0 0 (g_Xj mX12_aimOf n 0 0 (hPi (fun S2 x2 => S2 = R.1 ∧ x2 = R.2))) 46 n (hH S) [some (.ref (180)), some (.int (i1)), some (.int (i2)), some (.int (i3)), some (.int (i4))] [] 0 0) := by
  intro k
  induction k with
  | zero => exact ⟨fun _ _ _ _ _ h => (by cases h), fun _ _ _ _ _ h => (by cases h)⟩
  | succ k ih =>
    have hrec_2 := ih.1
    have hrec_46 := ih.2
    refine ⟨?_, ?_⟩
    · intro S i1 i2 i3 i4 h
      rw [fX12_aimOf] at h
      have h := g_ip rfl h
      unfold bX12_aimOf_2 at h
      refine zX12_aimOf_2  ?_
      refine ⟨fun c => ?_, fun c => ?_⟩
      · have h := g_ip c h
        cases h; exact ⟨rfl, rfl⟩
      · have h := g_in c h
        obtain ⟨S1, hc, h⟩ := g_b1s h
        refine ⟨0, _, (by decide), CX12_copies rfl rfl hc, ?_⟩
        rintro _ rfl
        obtain ⟨S2, hc, h⟩ := g_b1s h
        refine ⟨1, _, (by decide), CX12_pours  hc, ?_⟩
        rintro _ rfl
        obtain ⟨S3, x4, hc, h⟩ := g_b2s h
        refine ⟨5, _, (by decide), CX12_passesAsTold  hc, ?_⟩
        rintro _ _ ⟨rfl, rfl⟩
        refine ⟨fun c => ?_, fun c => ?_⟩
        · have h := g_in c h
          exact hrec_46 _ _ _ _ _  h
        · have h := g_ip c h
          exact hrec_46 _ _ _ _ _  h
    · intro S i1 i2 i3 i4 h
      rw [fX12_aimOf] at h
      have h := g_in (by decide) h
      have h := g_ip rfl h
      unfold bX12_aimOf_46 at h
      refine zX12_aimOf_46  ?_
      obtain ⟨S1, hc, h⟩ := g_b1s h
      refine ⟨0, _, (by decide), CX12_copies rfl rfl hc, ?_⟩
      rintro _ rfl
      refine ⟨fun c => ?_, fun c => ?_⟩
      · have h := g_ip c h
        exact hrec_2 _ _ _ _ _  h
      · have h := g_in c h
        cases h; exact ⟨rfl, rfl⟩
theorem CX12_aimOf {n : Nat} {S : gS} {R : gS × Int32} {i1 : Int32} {i2 : Int32}  (h : FX12_aimOf S i1 i2 = some R) : sCi 6 mX12_aimOf n S [.ref (180), .int (i1), .int (i2)] (fun S2 x2 => S2 = R.1 ∧ x2 = R.2) := by
  unfold FX12_aimOf at h
  refine gCj_of (by decide) (Nat.le_of_ble_eq_true rfl) rfl rfl (zX12_aimOf_0  ?_)
  exact (lX12_aimOf FU).1 _ _ _ _ _  h

noncomputable def bX12_aim_27  (rec : Nat → gS → Int32 → Int32 → Int32 → Option (gS × Int32)) (S : gS) (i1 : Int32) (i2 : Int32) (i3 : Int32) : Option (gS × Int32) := if (20 : Int32) < i3 then (some (S, (-2 : Int32))) else (g_b2 (FX12_aimOf S (i1) (i3)) (fun S1 x2 => if x2 < 0 then (rec 27 S1 (i1) (i2) ((i3 + 1))) else (if i2 = 0 then (some (S1, i3)) else (if i3 = 0 then (some (S1, (-1 : Int32))) else (some (S1, x2))))))
noncomputable def fX12_aim  : Nat → Nat → gS → Int32 → Int32 → Int32 → Option (gS × Int32)
  | 0 => fun _ _ _ _ _ => none
  | k + 1 => fun pc S i1 i2 i3 => if pc = 27 then bX12_aim_27  (fX12_aim  k) S i1 i2 i3 else none
noncomputable def FX12_aim (S : gS) (i1 : Int32) (i2 : Int32) : Option (gS × Int32) := g_lt (uI S (180) 0 ((0 : Int32))) (fun S1 => g_b2 (FX12_isLetter0 S1 (i1)) (fun S2 b3 => if b3 = true then (g_b2 (FX12_within S2 (i2) ((0 : Int32)) ((1 : Int32))) (fun S4 b5 => if b5 = true then (fX12_aim  FU 27 S4 (i1) (i2) ((0 : Int32))) else (some (S4, (-2 : Int32))))) else (some (S2, (-2 : Int32)))))
set_option maxRecDepth 100000 in
theorem lX12_aim  {n : Nat} {R : gS × Int32} : ∀ k : Nat, (∀ (S : gS) (i1 : Int32) (i2 : Int32) (i3 : Int32) , fX12_aim  k 27 S i1 i2 i3 = some R → gG 7 mX12_aim 0 0 (g_Xj mX12_aim n 0 0 (hPi (fun S2 x2 => S2 = R.1 ∧ x2 = R.2))) 27 n (hH S) [some (.ref (180)), some (.int (i1)), some (.int (i2)), some (.int (i3)), none] [] 0 0) := by
  intro k
  induction k with
  | zero => exact fun _ _ _ _ h => (by cases h)
  | succ k ih =>
    have hrec_27 := ih
    · intro S i1 i2 i3 h
      rw [fX12_aim] at h
      have h := g_ip rfl h
      unfold bX12_aim_27 at h
      refine zX12_aim_27  ?_
      refine ⟨fun c => ?_, fun c => ?_⟩
      · have h := g_ip c h
        cases h; exact ⟨rfl, rfl⟩
      · have h := g_in c h
        obtain ⟨S1, x2, hc, h⟩ := g_b2s h
        refine ⟨6, _, (by decide), CX12_aimOf  hc, ?_⟩
        rintro _ _ ⟨rfl, rfl⟩
        refine ⟨fun c => ?_, fun c => ?_⟩
        · have h := g_ip c h
          exact hrec_27 _ _ _ _  h
        · have h := g_in c h
          refine ⟨fun c => ?_, fun c => ?_⟩
          · have h := g_in c h
            refine ⟨fun c => ?_, fun c => ?_⟩
            · have h := g_in c h
              cases h; exact ⟨rfl, rfl⟩
            · have h := g_ip c h
              cases h; exact ⟨rfl, rfl⟩
          · have h := g_ip c h
            cases h; exact ⟨rfl, rfl⟩
theorem CX12_aim {n : Nat} {S : gS} {R : gS × Int32} {i1 : Int32} {i2 : Int32}  (h : FX12_aim S i1 i2 = some R) : sCi 7 mX12_aim n S [.ref (180), .int (i1), .int (i2)] (fun S2 x2 => S2 = R.1 ∧ x2 = R.2) := by
  unfold FX12_aim at h
  refine gCj_of (by decide) (Nat.le_of_ble_eq_true rfl) rfl rfl (zX12_aim_0  ?_)
  intro S1 eS
  have h := g_lts eS h
  obtain ⟨S2, b3, hc, h⟩ := g_b2s h
  refine ⟨0, _, (by decide), CX12_isLetter0  hc, ?_⟩
  rintro _ _ ⟨rfl, rfl⟩
  refine ⟨fun c => ?_, fun c => ?_⟩
  · have h := g_bf c h
    cases h; exact ⟨rfl, rfl⟩
  · have h := g_bt c h
    obtain ⟨S4, b5, hc, h⟩ := g_b2s h
    refine ⟨0, _, (by decide), CX12_within  hc, ?_⟩
    rintro _ _ ⟨rfl, rfl⟩
    refine ⟨fun c => ?_, fun c => ?_⟩
    · have h := g_bt c h
      exact (lX12_aim FU) _ _ _ _  h
    · have h := g_bf c h
      cases h; exact ⟨rfl, rfl⟩

noncomputable def bX12_hush_19  (rec : Nat → gS → Int32 → Int32 → Int32 → Option (gS × Int32)) (S : gS) (i1 : Int32) (i2 : Int32) (i3 : Int32) : Option (gS × Int32) := g_b2 (FX12_every S ) (fun S1 x2 => if x2 < i3 then (some (S1, i2)) else (if i2 < 0 then (rec 45 S1 (i1) (i2) (i3)) else (g_b2 (FX12_bits S1 (i3)) (fun S3 x4 => g_b2 (FX12_bits S3 (i2)) (fun S5 x6 => if x4 < x6 then (rec 45 S5 (i1) (i2) (i3)) else (rec 19 S5 (i1) (i2) ((i3 + 1))))))))
noncomputable def bX12_hush_45  (rec : Nat → gS → Int32 → Int32 → Int32 → Option (gS × Int32)) (S : gS) (i1 : Int32) (i2 : Int32) (i3 : Int32) : Option (gS × Int32) := g_b1 (FX12_copies S (216) (59) ((0 : Int32)) (218) (59) ((0 : Int32))) (fun S1 => g_lt (uR S1 (216) (1) (((sR S1 (216) (1)) ^^^ i3))) (fun S2 => g_b2 (FX12_passesAsTold S2 ) (fun S3 x4 => if x4 = i1 then (rec 78 S3 (i1) (i3) (i3)) else (rec 78 S3 (i1) (i2) (i3)))))
noncomputable def bX12_hush_78  (rec : Nat → gS → Int32 → Int32 → Int32 → Option (gS × Int32)) (S : gS) (i1 : Int32) (i2 : Int32) (i3 : Int32) : Option (gS × Int32) := g_b1 (FX12_copies S (218) (59) ((0 : Int32)) (216) (59) ((0 : Int32))) (fun S1 => rec 19 S1 (i1) (i2) ((i3 + 1)))
noncomputable def fX12_hush  : Nat → Nat → gS → Int32 → Int32 → Int32 → Option (gS × Int32)
  | 0 => fun _ _ _ _ _ => none
  | k + 1 => fun pc S i1 i2 i3 => if pc = 19 then bX12_hush_19  (fX12_hush  k) S i1 i2 i3 else if pc = 45 then bX12_hush_45  (fX12_hush  k) S i1 i2 i3 else if pc = 78 then bX12_hush_78  (fX12_hush  k) S i1 i2 i3 else none
noncomputable def FX12_hush (S : gS) (i1 : Int32) : Option (gS × Int32) := g_lt (uI S (180) 0 ((0 : Int32))) (fun S1 => g_b2 (FX12_isLetter0 S1 (i1)) (fun S2 b3 => if b3 = true then (fX12_hush  FU 19 S2 (i1) ((-1 : Int32)) ((0 : Int32))) else (some (S2, (-1 : Int32)))))
set_option maxRecDepth 100000 in
theorem lX12_hush  {n : Nat} {R : gS × Int32} : ∀ k : Nat, (∀ (S : gS) (i1 : Int32) (i2 : Int32) (i3 : Int32) , fX12_hush  k 19 S i1 i2 i3 = some R → gG 6 mX12_hush 0 0 (g_Xj mX12_hush n 0 0 (hPi (fun S2 x2 => S2 = R.1 ∧ x2 = R.2))) 19 n (hH S) [some (.ref (180)), some (.int (i1)), some (.int (i2)), some (.int (i3))] [] 0 0) ∧ (∀ (S : gS) (i1 : Int32) (i2 : Int32) (i3 : Int32) , fX12_hush  k 45 S i1 i2 i3 = some R → gG 6 mX12_hush 0 0 (g_Xj mX12_hush n 0 0 (hPi (fun S2 x2 => S2 = R.1 ∧ x2 = R.2))) 45 n (hH S) [some (.ref (180)), some (.int (i1)), some (.int (i2)), some (.int (i3))] [] 0 0) ∧ (∀ (S : gS) (i1 : Int32) (i2 : Int32) (i3 : Int32) , fX12_hush  k 78 S i1 i2 i3 = some R → gG 6 mX12_hush 0 0 (g_Xj mX12_hush n 0 0 (hPi (fun S2 x2 => S2 = R.1 ∧ x2 = R.2))) 78 n (hH S) [some (.ref (180)), some (.int (i1)), some (.int (i2)), some (.int (i3))] [] 0 0) := by
  intro k
  induction k with
  | zero => exact ⟨fun _ _ _ _ h => (by cases h), fun _ _ _ _ h => (by cases h), fun _ _ _ _ h => (by cases h)⟩
  | succ k ih =>
    have hrec_19 := ih.1
    have hrec_45 := ih.2.1
    have hrec_78 := ih.2.2
    refine ⟨?_, ?_, ?_⟩
    · intro S i1 i2 i3 h
      rw [fX12_hush] at h
      have h := g_ip rfl h
      unfold bX12_hush_19 at h
      refine zX12_hush_19  ?_
      obtain ⟨S1, x2, hc, h⟩ := g_b2s h
      refine ⟨0, _, (by decide), CX12_every  hc, ?_⟩
      rintro _ _ ⟨rfl, rfl⟩
      refine ⟨fun c => ?_, fun c => ?_⟩
      · have h := g_ip c h
        cases h; exact ⟨rfl, rfl⟩
      · have h := g_in c h
        refine ⟨fun c => ?_, fun c => ?_⟩
        · have h := g_ip c h
          exact hrec_45 _ _ _ _  h
        · have h := g_in c h
          obtain ⟨S3, x4, hc, h⟩ := g_b2s h
          refine ⟨0, _, (by decide), CX12_bits  hc, ?_⟩
          rintro _ _ ⟨rfl, rfl⟩
          obtain ⟨S5, x6, hc, h⟩ := g_b2s h
          refine ⟨0, _, (by decide), CX12_bits  hc, ?_⟩
          rintro _ _ ⟨rfl, rfl⟩
          refine ⟨fun c => ?_, fun c => ?_⟩
          · have h := g_ip c h
            exact hrec_45 _ _ _ _  h
          · have h := g_in c h
            exact hrec_19 _ _ _ _  h
    · intro S i1 i2 i3 h
      rw [fX12_hush] at h
      have h := g_in (by decide) h
      have h := g_ip rfl h
      unfold bX12_hush_45 at h
      refine zX12_hush_45  ?_
      obtain ⟨S1, hc, h⟩ := g_b1s h
      refine ⟨0, _, (by decide), CX12_copies rfl rfl hc, ?_⟩
      rintro _ rfl
      intro S2 eS
      have h := g_lts eS h
      obtain ⟨S3, x4, hc, h⟩ := g_b2s h
      refine ⟨5, _, (by decide), CX12_passesAsTold  hc, ?_⟩
      rintro _ _ ⟨rfl, rfl⟩
      refine ⟨fun c => ?_, fun c => ?_⟩
      · have h := g_in c h
        exact hrec_78 _ _ _ _  h
      · have h := g_ip c h
        exact hrec_78 _ _ _ _  h
    · intro S i1 i2 i3 h
      rw [fX12_hush] at h
      have h := g_in (by decide) h
      have h := g_in (by decide) h
      have h := g_ip rfl h
      unfold bX12_hush_78 at h
      refine zX12_hush_78  ?_
      obtain ⟨S1, hc, h⟩ := g_b1s h
      refine ⟨0, _, (by decide), CX12_copies rfl rfl hc, ?_⟩
      rintro _ rfl
      exact hrec_19 _ _ _ _  h
theorem CX12_hush {n : Nat} {S : gS} {R : gS × Int32} {i1 : Int32}  (h : FX12_hush S i1 = some R) : sCi 6 mX12_hush n S [.ref (180), .int (i1)] (fun S2 x2 => S2 = R.1 ∧ x2 = R.2) := by
  unfold FX12_hush at h
  refine gCj_of (by decide) (Nat.le_of_ble_eq_true rfl) rfl rfl (zX12_hush_0  ?_)
  intro S1 eS
  have h := g_lts eS h
  obtain ⟨S2, b3, hc, h⟩ := g_b2s h
  refine ⟨0, _, (by decide), CX12_isLetter0  hc, ?_⟩
  rintro _ _ ⟨rfl, rfl⟩
  refine ⟨fun c => ?_, fun c => ?_⟩
  · have h := g_bt c h
    exact (lX12_hush FU).1 _ _ _ _  h
  · have h := g_bf c h
    cases h; exact ⟨rfl, rfl⟩

noncomputable def bX12_laysSounds_15  (rec : Nat → gS → Int32 → Option (gS)) (S : gS) (i1 : Int32) : Option (gS) := if (10 : Int32) ≤ i1 then (some S) else (g_b2 (FX12_passes S (i1)) (fun S1 x2 => if g_vp (i1) 10 = true then (g_lt (uR S1 (224) (Int32.toNatClampNeg (i1)) ((sR S1 (216) (2)))) (fun S4 => g_b1 (FX12_copies S4 (218) (59) ((0 : Int32)) (216) (59) ((0 : Int32))) (fun S5 => rec 15 S5 ((i1 + 1))))) else none))
noncomputable def fX12_laysSounds  : Nat → Nat → gS → Int32 → Option (gS)
  | 0 => fun _ _ _ => none
  | k + 1 => fun pc S i1 => if pc = 15 then bX12_laysSounds_15  (fX12_laysSounds  k) S i1 else none
noncomputable def FX12_laysSounds (S : gS)  : Option (gS) := g_b1 (FX12_copies S (216) (59) ((0 : Int32)) (218) (59) ((0 : Int32))) (fun S1 => fX12_laysSounds  FU 15 S1 ((0 : Int32)))
set_option maxRecDepth 100000 in
theorem lX12_laysSounds  {n : Nat} {R : gS} : ∀ k : Nat, (∀ (S : gS) (i1 : Int32) , fX12_laysSounds  k 15 S i1 = some R → gG 5 mX12_laysSounds 0 0 (g_Xv mX12_laysSounds n 0 0 (hPv (fun S2 => S2 = R))) 15 n (hH S) [some (.ref (180)), some (.int (i1))] [] 0 0) := by
  intro k
  induction k with
  | zero => exact fun _ _ h => (by cases h)
  | succ k ih =>
    have hrec_15 := ih
    · intro S i1 h
      rw [fX12_laysSounds] at h
      have h := g_ip rfl h
      unfold bX12_laysSounds_15 at h
      refine zX12_laysSounds_15  ?_
      refine ⟨fun c => ?_, fun c => ?_⟩
      · have h := g_ip c h
        cases h; exact rfl
      · have h := g_in c h
        obtain ⟨S1, x2, hc, h⟩ := g_b2s h
        refine ⟨4, _, (by decide), CX12_passes  hc, ?_⟩
        rintro _ _ ⟨rfl, rfl⟩
        obtain ⟨hv3, h⟩ := g_vs h
        refine ⟨hv3, ?_⟩
        intro S4 eS
        have h := g_lts eS h
        obtain ⟨S5, hc, h⟩ := g_b1s h
        refine ⟨0, _, (by decide), CX12_copies rfl rfl hc, ?_⟩
        rintro _ rfl
        exact hrec_15 _ _  h
theorem CX12_laysSounds {n : Nat} {S : gS} {R : gS}   (h : FX12_laysSounds S  = some R) : sCv 5 mX12_laysSounds n S [.ref (180)] (fun S2 => S2 = R) := by
  unfold FX12_laysSounds at h
  refine gCv_of (by decide) (Nat.le_of_ble_eq_true rfl) rfl rfl (zX12_laysSounds_0  ?_)
  obtain ⟨S1, hc, h⟩ := g_b1s h
  refine ⟨0, _, (by decide), CX12_copies rfl rfl hc, ?_⟩
  rintro _ rfl
  exact (lX12_laysSounds FU) _ _  h

noncomputable def FX12_see (S : gS) (i1 : Int32) (i2 : Int32) : Option (gS × Bool) := g_lt (uI S (180) 0 ((0 : Int32))) (fun S1 => g_b2 (FX12_isMouth S1 (i1)) (fun S2 b3 => if b3 = true then (if (sR S2 (213) (0)) = (8 : Int32) then (some (S2, false)) else (if g_vp ((sR S2 (213) (0))) 40 = true then (g_lt (uR S2 (214) (Int32.toNatClampNeg ((sR S2 (213) (0)))) (i1)) (fun S5 => if g_vp ((sR S5 (213) (0))) 40 = true then (g_lt (uR S5 (215) (Int32.toNatClampNeg ((sR S5 (213) (0)))) (vp_nar .boolean (i2))) (fun S7 => g_lt (uR S7 (213) (0) (((sR S7 (213) (0)) + (1 : Int32)))) (fun S8 => some (S8, true)))) else none)) else none)) else (some (S2, false))))
theorem CX12_see {n : Nat} {S : gS} {R : gS × Bool} {i1 : Int32} {i2 : Int32}  (h : FX12_see S i1 i2 = some R) : sCz 1 mX12_see n S [.ref (180), .int (i1), .int (i2)] (fun S2 x2 => S2 = R.1 ∧ x2 = R.2) := by
  unfold FX12_see at h
  refine gCz_of (by decide) (Nat.le_of_ble_eq_true rfl) rfl rfl (zX12_see_0  ?_)
  intro S1 eS
  have h := g_lts eS h
  obtain ⟨S2, b3, hc, h⟩ := g_b2s h
  refine ⟨0, _, (by decide), CX12_isMouth  hc, ?_⟩
  rintro _ _ ⟨rfl, rfl⟩
  refine ⟨fun c => ?_, fun c => ?_⟩
  · have h := g_bf c h
    cases h; exact ⟨rfl, rfl⟩
  · have h := g_bt c h
    refine ⟨fun c => ?_, fun c => ?_⟩
    · have h := g_in c h
      obtain ⟨hv4, h⟩ := g_vs h
      refine ⟨hv4, ?_⟩
      intro S5 eS
      have h := g_lts eS h
      obtain ⟨hv6, h⟩ := g_vs h
      refine ⟨hv6, ?_⟩
      intro S7 eS
      have h := g_lts eS h
      intro S8 eS
      have h := g_lts eS h
      cases h; exact ⟨rfl, rfl⟩
    · have h := g_ip c h
      cases h; exact ⟨rfl, rfl⟩

noncomputable def bX12_isAsSeen_2  (rec : Nat → gS → Int32 → Int32 → Option (gS × Bool)) (S : gS) (i1 : Int32) (i2 : Int32) : Option (gS × Bool) := if (sR S (213) (0)) ≤ i2 then (some (S, true)) else (if g_vp (i1) 10 = true then (if g_vp (i2) 40 = true then (if (((sR S (224) (Int32.toNatClampNeg (i1))) >>> ((sR S (214) (Int32.toNatClampNeg (i2))) &&& 31)) &&& (1 : Int32)) = (1 : Int32) then (if (1 : Int32) = (sR S (215) (Int32.toNatClampNeg (i2))) then (rec 2 S (i1) ((i2 + 1))) else (some (S, false))) else (if (0 : Int32) = (sR S (215) (Int32.toNatClampNeg (i2))) then (rec 2 S (i1) ((i2 + 1))) else (some (S, false)))) else none) else none)
noncomputable def fX12_isAsSeen  : Nat → Nat → gS → Int32 → Int32 → Option (gS × Bool)
  | 0 => fun _ _ _ _ => none
  | k + 1 => fun pc S i1 i2 => if pc = 2 then bX12_isAsSeen_2  (fX12_isAsSeen  k) S i1 i2 else none
noncomputable def FX12_isAsSeen (S : gS) (i1 : Int32) : Option (gS × Bool) := fX12_isAsSeen  FU 2 S (i1) ((0 : Int32))
set_option maxRecDepth 100000 in
theorem lX12_isAsSeen  {n : Nat} {R : gS × Bool} : ∀ k : Nat, (∀ (S : gS) (i1 : Int32) (i2 : Int32) , fX12_isAsSeen  k 2 S i1 i2 = some R → gG 0 mX12_isAsSeen 0 0 (g_Xz mX12_isAsSeen n 0 0 (hPz (fun S2 x2 => S2 = R.1 ∧ x2 = R.2))) 2 n (hH S) [some (.ref (180)), some (.int (i1)), some (.int (i2))] [] 0 0) := by
  intro k
  induction k with
  | zero => exact fun _ _ _ h => (by cases h)
  | succ k ih =>
    have hrec_2 := ih
    · intro S i1 i2 h
      rw [fX12_isAsSeen] at h
      have h := g_ip rfl h
      unfold bX12_isAsSeen_2 at h
      refine zX12_isAsSeen_2  ?_
      refine ⟨fun c => ?_, fun c => ?_⟩
      · have h := g_ip c h
        cases h; exact ⟨rfl, rfl⟩
      · have h := g_in c h
        obtain ⟨hv1, h⟩ := g_vs h
        refine ⟨hv1, ?_⟩
        obtain ⟨hv2, h⟩ := g_vs h
        refine ⟨hv2, ?_⟩
        refine ⟨fun c => ?_, fun c => ?_⟩
        · have h := g_in c h
          refine ⟨fun c => ?_, fun c => ?_⟩
          · have h := g_ip c h
            exact hrec_2 _ _ _  h
          · have h := g_in c h
            cases h; exact ⟨rfl, rfl⟩
        · have h := g_ip c h
          refine ⟨fun c => ?_, fun c => ?_⟩
          · have h := g_ip c h
            exact hrec_2 _ _ _  h
          · have h := g_in c h
            cases h; exact ⟨rfl, rfl⟩
theorem CX12_isAsSeen {n : Nat} {S : gS} {R : gS × Bool} {i1 : Int32}  (h : FX12_isAsSeen S i1 = some R) : sCz 0 mX12_isAsSeen n S [.ref (180), .int (i1)] (fun S2 x2 => S2 = R.1 ∧ x2 = R.2) := by
  unfold FX12_isAsSeen at h
  refine gCz_of (by decide) (Nat.le_of_ble_eq_true rfl) rfl rfl (zX12_isAsSeen_0  ?_)
  exact (lX12_isAsSeen FU) _ _ _  h

noncomputable def bX12_rains_13  (rec : Nat → gS → Int32 → Int32 → Option (gS × Int32)) (S : gS) (i1 : Int32) (i2 : Int32) : Option (gS × Int32) := if (10 : Int32) ≤ i2 then (some (S, i1)) else (g_b2 (FX12_isAsSeen S (i2)) (fun S1 b2 => if b2 = true then (rec 13 S1 ((i1 ||| ((1 : Int32) <<< (i2 &&& 31)))) ((i2 + 1))) else (rec 13 S1 ((i1 ||| (0 : Int32))) ((i2 + 1)))))
noncomputable def fX12_rains  : Nat → Nat → gS → Int32 → Int32 → Option (gS × Int32)
  | 0 => fun _ _ _ _ => none
  | k + 1 => fun pc S i1 i2 => if pc = 13 then bX12_rains_13  (fX12_rains  k) S i1 i2 else none
noncomputable def FX12_rains (S : gS)  : Option (gS × Int32) := g_lt (uI S (180) 0 ((0 : Int32))) (fun S1 => g_b1 (FX12_laysSounds S1 ) (fun S2 => fX12_rains  FU 13 S2 ((0 : Int32)) ((0 : Int32))))
set_option maxRecDepth 100000 in
theorem lX12_rains  {n : Nat} {R : gS × Int32} : ∀ k : Nat, (∀ (S : gS) (i1 : Int32) (i2 : Int32) , fX12_rains  k 13 S i1 i2 = some R → gG 6 mX12_rains 0 0 (g_Xj mX12_rains n 0 0 (hPi (fun S2 x2 => S2 = R.1 ∧ x2 = R.2))) 13 n (hH S) [some (.ref (180)), some (.int (i1)), some (.int (i2))] [] 0 0) := by
  intro k
  induction k with
  | zero => exact fun _ _ _ h => (by cases h)
  | succ k ih =>
    have hrec_13 := ih
    · intro S i1 i2 h
      rw [fX12_rains] at h
      have h := g_ip rfl h
      unfold bX12_rains_13 at h
      refine zX12_rains_13  ?_
      refine ⟨fun c => ?_, fun c => ?_⟩
      · have h := g_ip c h
        cases h; exact ⟨rfl, rfl⟩
      · have h := g_in c h
        obtain ⟨S1, b2, hc, h⟩ := g_b2s h
        refine ⟨0, _, (by decide), CX12_isAsSeen  hc, ?_⟩
        rintro _ _ ⟨rfl, rfl⟩
        refine ⟨fun c => ?_, fun c => ?_⟩
        · have h := g_bf c h
          exact hrec_13 _ _ _  h
        · have h := g_bt c h
          exact hrec_13 _ _ _  h
theorem CX12_rains {n : Nat} {S : gS} {R : gS × Int32}   (h : FX12_rains S  = some R) : sCi 6 mX12_rains n S [.ref (180)] (fun S2 x2 => S2 = R.1 ∧ x2 = R.2) := by
  unfold FX12_rains at h
  refine gCj_of (by decide) (Nat.le_of_ble_eq_true rfl) rfl rfl (zX12_rains_0  ?_)
  intro S1 eS
  have h := g_lts eS h
  obtain ⟨S2, hc, h⟩ := g_b1s h
  refine ⟨5, _, (by decide), CX12_laysSounds  hc, ?_⟩
  rintro _ rfl
  exact (lX12_rains FU) _ _ _  h

noncomputable def bX12_look_23  (rec : Nat → gS → Int32 → Int32 → Int32 → Int32 → Int32 → Int32 → Int32 → Option (gS × Int32)) (S : gS) (i1 : Int32) (i2 : Int32) (i3 : Int32) (i4 : Int32) (i5 : Int32) (i6 : Int32) (i7 : Int32) : Option (gS × Int32) := if (sR S (182) (0)) ≤ i5 then (some (S, i4)) else (rec 40 S (i1) (i2) (i3) (i4) (i5) ((0 : Int32)) ((0 : Int32)))
noncomputable def bX12_look_40  (rec : Nat → gS → Int32 → Int32 → Int32 → Int32 → Int32 → Int32 → Int32 → Option (gS × Int32)) (S : gS) (i1 : Int32) (i2 : Int32) (i3 : Int32) (i4 : Int32) (i5 : Int32) (i6 : Int32) (i7 : Int32) : Option (gS × Int32) := if (10 : Int32) ≤ i7 then (if (if i6 < (i2 - i6) then (i2 - i6) else i6) < i3 then (rec 23 S (i1) (i2) ((if i6 < (i2 - i6) then (i2 - i6) else i6)) (i5) ((i5 + 1)) 0 0) else (rec 23 S (i1) (i2) (i3) (i4) ((i5 + 1)) 0 0)) else (if ((i1 >>> (i7 &&& 31)) &&& (1 : Int32)) = (1 : Int32) then (if g_vp (i7) 10 = true then (if (((sR S (224) (Int32.toNatClampNeg (i7))) >>> (i5 &&& 31)) &&& (1 : Int32)) = (1 : Int32) then (rec 40 S (i1) (i2) (i3) (i4) (i5) ((i6 + (1 : Int32))) ((i7 + 1))) else (rec 40 S (i1) (i2) (i3) (i4) (i5) ((i6 + (0 : Int32))) ((i7 + 1)))) else none) else (rec 40 S (i1) (i2) (i3) (i4) (i5) ((i6 + (0 : Int32))) ((i7 + 1))))
noncomputable def fX12_look  : Nat → Nat → gS → Int32 → Int32 → Int32 → Int32 → Int32 → Int32 → Int32 → Option (gS × Int32)
  | 0 => fun _ _ _ _ _ _ _ _ _ => none
  | k + 1 => fun pc S i1 i2 i3 i4 i5 i6 i7 => if pc = 23 then bX12_look_23  (fX12_look  k) S i1 i2 i3 i4 i5 i6 i7 else if pc = 40 then bX12_look_40  (fX12_look  k) S i1 i2 i3 i4 i5 i6 i7 else none
noncomputable def FX12_look (S : gS)  : Option (gS × Int32) := g_lt (uI S (180) 0 ((0 : Int32))) (fun S1 => g_b2 (FX12_rains S1 ) (fun S2 x3 => g_b2 (FX12_bits S2 (x3)) (fun S4 x5 => fX12_look  FU 23 S4 (x3) (x5) (x5) ((-1 : Int32)) ((0 : Int32)) 0 0)))
set_option maxRecDepth 100000 in
theorem lX12_look  {n : Nat} {R : gS × Int32} : ∀ k : Nat, (∀ (S : gS) (i1 : Int32) (i2 : Int32) (i3 : Int32) (i4 : Int32) (i5 : Int32) (i6 : Int32) (i7 : Int32) , fX12_look  k 23 S i1 i2 i3 i4 i5 i6 i7 = some R → gG 7 mX12_look 0 0 (g_Xj mX12_look n 0 0 (hPi (fun S2 x2 => S2 = R.1 ∧ x2 = R.2))) 23 n (hH S) [some (.ref (180)), some (.int (i1)), some (.int (i2)), some (.int (i3)), some (.int (i4)), some (.int (i5)), none, none] [] 0 0) ∧ (∀ (S : gS) (i1 : Int32) (i2 : Int32) (i3 : Int32) (i4 : Int32) (i5 : Int32) (i6 : Int32) (i7 : Int32) , fX12_look  k 40 S i1 i2 i3 i4 i5 i6 i7 = some R → gG 7 mX12_look 0 0 (g_Xj mX12_look n 0 0 (hPi (fun S2 x2 => S2 = R.1 ∧ x2 = R.2))) 40 n (hH S) [some (.ref (180)), some (.int (i1)), some (.int (i2)), some (.int (i3)), some (.int (i4)), some (.int (i5)), some (.int (i6)), some (.int (i7))] [] 0 0) := by
  intro k
  induction k with
  | zero => exact ⟨fun _ _ _ _ _ _ _ _ h => (by cases h), fun _ _ _ _ _ _ _ _ h => (by cases h)⟩
  | succ k ih =>
    have hrec_23 := ih.1
    have hrec_40 := ih.2
    refine ⟨?_, ?_⟩
    · intro S i1 i2 i3 i4 i5 i6 i7 h
      rw [fX12_look] at h
      have h := g_ip rfl h
      unfold bX12_look_23 at h
      refine zX12_look_23  ?_
      refine ⟨fun c => ?_, fun c => ?_⟩
      · have h := g_ip c h
        cases h; exact ⟨rfl, rfl⟩
      · have h := g_in c h
        exact hrec_40 _ _ _ _ _ _ _ _  h
    · intro S i1 i2 i3 i4 i5 i6 i7 h
      rw [fX12_look] at h
      have h := g_in (by decide) h
      have h := g_ip rfl h
      unfold bX12_look_40 at h
      refine zX12_look_40 (by decide) ?_
      refine ⟨fun c => ?_, fun c => ?_⟩
      · have h := g_ip c h
        refine ⟨fun c => ?_, fun c => ?_⟩
        · have h := g_ip c h
          exact hrec_23 _ _ _ _ _ _ _ _  h
        · have h := g_in c h
          exact hrec_23 _ _ _ _ _ _ _ _  h
      · have h := g_in c h
        refine ⟨fun c => ?_, fun c => ?_⟩
        · have h := g_in c h
          exact hrec_40 _ _ _ _ _ _ _ _  h
        · have h := g_ip c h
          obtain ⟨hv1, h⟩ := g_vs h
          refine ⟨hv1, ?_⟩
          refine ⟨fun c => ?_, fun c => ?_⟩
          · have h := g_in c h
            exact hrec_40 _ _ _ _ _ _ _ _  h
          · have h := g_ip c h
            exact hrec_40 _ _ _ _ _ _ _ _  h
theorem CX12_look {n : Nat} {S : gS} {R : gS × Int32}   (h : FX12_look S  = some R) : sCi 7 mX12_look n S [.ref (180)] (fun S2 x2 => S2 = R.1 ∧ x2 = R.2) := by
  unfold FX12_look at h
  refine gCj_of (by decide) (Nat.le_of_ble_eq_true rfl) rfl rfl (zX12_look_0  ?_)
  intro S1 eS
  have h := g_lts eS h
  obtain ⟨S2, x3, hc, h⟩ := g_b2s h
  refine ⟨6, _, (by decide), CX12_rains  hc, ?_⟩
  rintro _ _ ⟨rfl, rfl⟩
  obtain ⟨S4, x5, hc, h⟩ := g_b2s h
  refine ⟨0, _, (by decide), CX12_bits  hc, ?_⟩
  rintro _ _ ⟨rfl, rfl⟩
  exact (lX12_look FU).1 _ _ _ _ _ _ _ _  h

noncomputable def bX12_chance_44  (rec : Nat → gS → Int32 → Int32 → Int32 → Int64 → Int64 → Int32 → Int64 → Int32 → Int32 → Int32 → Option (gS × Int32)) (S : gS) (i1 : Int32) (i2 : Int32) (i3 : Int32) (j4 : Int64) (j6 : Int64) (i8 : Int32) (j9 : Int64) (i11 : Int32) (i12 : Int32) (i13 : Int32) : Option (gS × Int32) := if i2 ≤ i8 then (g_b1 (FX12_copies S (216) (59) ((0 : Int32)) (218) (59) ((0 : Int32))) (fun S1 => rec 80 S1 (i1) (i2) (i3) (j4) (j6) ((0 : Int32)) 0 0 0 0)) else (rec 44 S (i1) (i2) (i3) (j4) ((j6 * (10 : Int64))) ((i8 + 1)) 0 0 0 0)
noncomputable def bX12_chance_80  (rec : Nat → gS → Int32 → Int32 → Int32 → Int64 → Int64 → Int32 → Int64 → Int32 → Int32 → Int32 → Option (gS × Int32)) (S : gS) (i1 : Int32) (i2 : Int32) (i3 : Int32) (j4 : Int64) (j6 : Int64) (i8 : Int32) (j9 : Int64) (i11 : Int32) (i12 : Int32) (i13 : Int32) : Option (gS × Int32) := if ((1 : Int32) <<< (i2 &&& 31)) ≤ i8 then (if j6 = 0 then none else (some (S, (Int64.toInt32 (((j4 * (1000000 : Int64)) / j6)))))) else (rec 97 S (i1) (i2) (i3) (j4) (j6) (i8) ((1 : Int64)) ((-1 : Int32)) ((0 : Int32)) 0)
noncomputable def bX12_chance_97  (rec : Nat → gS → Int32 → Int32 → Int32 → Int64 → Int64 → Int32 → Int64 → Int32 → Int32 → Int32 → Option (gS × Int32)) (S : gS) (i1 : Int32) (i2 : Int32) (i3 : Int32) (j4 : Int64) (j6 : Int64) (i8 : Int32) (j9 : Int64) (i11 : Int32) (i12 : Int32) (i13 : Int32) : Option (gS × Int32) := if i2 ≤ i12 then (if i11 = i1 then (rec 177 S (i1) (i2) (i3) ((j4 + j9)) (j6) (i8) 0 0 0 0) else (rec 177 S (i1) (i2) (i3) (j4) (j6) (i8) 0 0 0 0)) else (if ((i8 >>> (i12 &&& 31)) &&& (1 : Int32)) = (1 : Int32) then (rec 121 S (i1) (i2) (i3) (j4) (j6) (i8) (j9) 0 (i12) ((1 : Int32))) else (rec 121 S (i1) (i2) (i3) (j4) (j6) (i8) (j9) 0 (i12) ((0 : Int32))))
noncomputable def bX12_chance_121  (rec : Nat → gS → Int32 → Int32 → Int32 → Int64 → Int64 → Int32 → Int64 → Int32 → Int32 → Int32 → Option (gS × Int32)) (S : gS) (i1 : Int32) (i2 : Int32) (i3 : Int32) (j4 : Int64) (j6 : Int64) (i8 : Int32) (j9 : Int64) (i11 : Int32) (i12 : Int32) (i13 : Int32) : Option (gS × Int32) := if i13 = 0 then (rec 141 S (i1) (i2) (i3) (j4) (j6) (i8) ((j9 * (Int32.toInt64 (((10 : Int32) - i3))))) 0 (i12) (i13)) else (rec 141 S (i1) (i2) (i3) (j4) (j6) (i8) ((j9 * (Int32.toInt64 (i3)))) 0 (i12) (i13))
noncomputable def bX12_chance_141  (rec : Nat → gS → Int32 → Int32 → Int32 → Int64 → Int64 → Int32 → Int64 → Int32 → Int32 → Int32 → Option (gS × Int32)) (S : gS) (i1 : Int32) (i2 : Int32) (i3 : Int32) (j4 : Int64) (j6 : Int64) (i8 : Int32) (j9 : Int64) (i11 : Int32) (i12 : Int32) (i13 : Int32) : Option (gS × Int32) := if i13 = 0 then (g_b2 (FX12_passes S ((0 : Int32))) (fun S1 x2 => rec 97 S1 (i1) (i2) (i3) (j4) (j6) (i8) (j9) (x2) ((i12 + 1)) 0)) else (g_b2 (FX12_passes S ((9 : Int32))) (fun S3 x4 => rec 97 S3 (i1) (i2) (i3) (j4) (j6) (i8) (j9) (x4) ((i12 + 1)) 0))
noncomputable def bX12_chance_177  (rec : Nat → gS → Int32 → Int32 → Int32 → Int64 → Int64 → Int32 → Int64 → Int32 → Int32 → Int32 → Option (gS × Int32)) (S : gS) (i1 : Int32) (i2 : Int32) (i3 : Int32) (j4 : Int64) (j6 : Int64) (i8 : Int32) (j9 : Int64) (i11 : Int32) (i12 : Int32) (i13 : Int32) : Option (gS × Int32) := g_b1 (FX12_copies S (218) (59) ((0 : Int32)) (216) (59) ((0 : Int32))) (fun S1 => rec 80 S1 (i1) (i2) (i3) (j4) (j6) ((i8 + 1)) 0 0 0 0)
noncomputable def fX12_chance  : Nat → Nat → gS → Int32 → Int32 → Int32 → Int64 → Int64 → Int32 → Int64 → Int32 → Int32 → Int32 → Option (gS × Int32)
  | 0 => fun _ _ _ _ _ _ _ _ _ _ _ _ => none
  | k + 1 => fun pc S i1 i2 i3 j4 j6 i8 j9 i11 i12 i13 => if pc = 44 then bX12_chance_44  (fX12_chance  k) S i1 i2 i3 j4 j6 i8 j9 i11 i12 i13 else if pc = 80 then bX12_chance_80  (fX12_chance  k) S i1 i2 i3 j4 j6 i8 j9 i11 i12 i13 else if pc = 97 then bX12_chance_97  (fX12_chance  k) S i1 i2 i3 j4 j6 i8 j9 i11 i12 i13 else if pc = 121 then bX12_chance_121  (fX12_chance  k) S i1 i2 i3 j4 j6 i8 j9 i11 i12 i13 else if pc = 141 then bX12_chance_141  (fX12_chance  k) S i1 i2 i3 j4 j6 i8 j9 i11 i12 i13 else if pc = 177 then bX12_chance_177  (fX12_chance  k) S i1 i2 i3 j4 j6 i8 j9 i11 i12 i13 else none
noncomputable def FX12_chance (S : gS) (i1 : Int32) (i2 : Int32) (i3 : Int32) : Option (gS × Int32) := g_lt (uI S (180) 0 ((0 : Int32))) (fun S1 => g_b2 (FX12_isLetter0 S1 (i1)) (fun S2 b3 => if b3 = true then (g_b2 (FX12_within S2 (i2) ((1 : Int32)) ((6 : Int32))) (fun S4 b5 => if b5 = true then (g_b2 (FX12_within S4 (i3) ((0 : Int32)) ((10 : Int32))) (fun S6 b7 => if b7 = true then (fX12_chance  FU 44 S6 (i1) (i2) (i3) ((0 : Int64)) ((1 : Int64)) ((0 : Int32)) 0 0 0 0) else (some (S6, (-1 : Int32))))) else (some (S4, (-1 : Int32))))) else (some (S2, (-1 : Int32)))))
set_option maxRecDepth 100000 in
theorem lX12_chance  {n : Nat} {R : gS × Int32} : ∀ k : Nat, (∀ (S : gS) (i1 : Int32) (i2 : Int32) (i3 : Int32) (j4 : Int64) (j6 : Int64) (i8 : Int32) (j9 : Int64) (i11 : Int32) (i12 : Int32) (i13 : Int32) , fX12_chance  k 44 S i1 i2 i3 j4 j6 i8 j9 i11 i12 i13 = some R → gG 5 mX12_chance 0 0 (g_Xj mX12_chance n 0 0 (hPi (fun S2 x2 => S2 = R.1 ∧ x2 = R.2))) 44 n (hH S) [some (.ref (180)), some (.int (i1)), some (.int (i2)), some (.int (i3)), some (.long (j4)), none, some (.long (j6)), none, some (.int (i8)), none, none, none, none, none] [] 0 0) ∧ (∀ (S : gS) (i1 : Int32) (i2 : Int32) (i3 : Int32) (j4 : Int64) (j6 : Int64) (i8 : Int32) (j9 : Int64) (i11 : Int32) (i12 : Int32) (i13 : Int32) , fX12_chance  k 80 S i1 i2 i3 j4 j6 i8 j9 i11 i12 i13 = some R → gG 5 mX12_chance 0 0 (g_Xj mX12_chance n 0 0 (hPi (fun S2 x2 => S2 = R.1 ∧ x2 = R.2))) 80 n (hH S) [some (.ref (180)), some (.int (i1)), some (.int (i2)), some (.int (i3)), some (.long (j4)), none, some (.long (j6)), none, some (.int (i8)), none, none, none, none, none] [] 0 0) ∧ (∀ (S : gS) (i1 : Int32) (i2 : Int32) (i3 : Int32) (j4 : Int64) (j6 : Int64) (i8 : Int32) (j9 : Int64) (i11 : Int32) (i12 : Int32) (i13 : Int32) , fX12_chance  k 97 S i1 i2 i3 j4 j6 i8 j9 i11 i12 i13 = some R → gG 5 mX12_chance 0 0 (g_Xj mX12_chance n 0 0 (hPi (fun S2 x2 => S2 = R.1 ∧ x2 = R.2))) 97 n (hH S) [some (.ref (180)), some (.int (i1)), some (.int (i2)), some (.int (i3)), some (.long (j4)), none, some (.long (j6)), none, some (.int (i8)), some (.long (j9)), none, some (.int (i11)), some (.int (i12)), none] [] 0 0) ∧ (∀ (S : gS) (i1 : Int32) (i2 : Int32) (i3 : Int32) (j4 : Int64) (j6 : Int64) (i8 : Int32) (j9 : Int64) (i11 : Int32) (i12 : Int32) (i13 : Int32) , fX12_chance  k 121 S i1 i2 i3 j4 j6 i8 j9 i11 i12 i13 = some R → gG 5 mX12_chance 0 0 (g_Xj mX12_chance n 0 0 (hPi (fun S2 x2 => S2 = R.1 ∧ x2 = R.2))) 121 n (hH S) [some (.ref (180)), some (.int (i1)), some (.int (i2)), some (.int (i3)), some (.long (j4)), none, some (.long (j6)), none, some (.int (i8)), some (.long (j9)), none, none, some (.int (i12)), some (.int (i13))] [] 0 0) ∧ (∀ (S : gS) (i1 : Int32) (i2 : Int32) (i3 : Int32) (j4 : Int64) (j6 : Int64) (i8 : Int32) (j9 : Int64) (i11 : Int32) (i12 : Int32) (i13 : Int32) , fX12_chance  k 141 S i1 i2 i3 j4 j6 i8 j9 i11 i12 i13 = some R → gG 5 mX12_chance 0 0 (g_Xj mX12_chance n 0 0 (hPi (fun S2 x2 => S2 = R.1 ∧ x2 = R.2))) 141 n (hH S) [some (.ref (180)), some (.int (i1)), some (.int (i2)), some (.int (i3)), some (.long (j4)), none, some (.long (j6)), none, some (.int (i8)), some (.long (j9)), none, none, some (.int (i12)), some (.int (i13))] [] 0 0) ∧ (∀ (S : gS) (i1 : Int32) (i2 : Int32) (i3 : Int32) (j4 : Int64) (j6 : Int64) (i8 : Int32) (j9 : Int64) (i11 : Int32) (i12 : Int32) (i13 : Int32) , fX12_chance  k 177 S i1 i2 i3 j4 j6 i8 j9 i11 i12 i13 = some R → gG 5 mX12_chance 0 0 (g_Xj mX12_chance n 0 0 (hPi (fun S2 x2 => S2 = R.1 ∧ x2 = R.2))) 177 n (hH S) [some (.ref (180)), some (.int (i1)), some (.int (i2)), some (.int (i3)), some (.long (j4)), none, some (.long (j6)), none, some (.int (i8)), none, none, none, none, none] [] 0 0) := by
  intro k
  induction k with
  | zero => exact ⟨fun _ _ _ _ _ _ _ _ _ _ _ h => (by cases h), fun _ _ _ _ _ _ _ _ _ _ _ h => (by cases h), fun _ _ _ _ _ _ _ _ _ _ _ h => (by cases h), fun _ _ _ _ _ _ _ _ _ _ _ h => (by cases h), fun _ _ _ _ _ _ _ _ _ _ _ h => (by cases h), fun _ _ _ _ _ _ _ _ _ _ _ h => (by cases h)⟩
  | succ k ih =>
    have hrec_44 := ih.1
    have hrec_80 := ih.2.1
    have hrec_97 := ih.2.2.1
    have hrec_121 := ih.2.2.2.1
    have hrec_141 := ih.2.2.2.2.1
    have hrec_177 := ih.2.2.2.2.2
    refine ⟨?_, ?_, ?_, ?_, ?_, ?_⟩
    · intro S i1 i2 i3 j4 j6 i8 j9 i11 i12 i13 h
      rw [fX12_chance] at h
      have h := g_ip rfl h
      unfold bX12_chance_44 at h
      refine zX12_chance_44  ?_
      refine ⟨fun c => ?_, fun c => ?_⟩
      · have h := g_ip c h
        obtain ⟨S1, hc, h⟩ := g_b1s h
        refine ⟨0, _, (by decide), CX12_copies rfl rfl hc, ?_⟩
        rintro _ rfl
        exact hrec_80 _ _ _ _ _ _ _ _ _ _ _  h
      · have h := g_in c h
        exact hrec_44 _ _ _ _ _ _ _ _ _ _ _  h
    · intro S i1 i2 i3 j4 j6 i8 j9 i11 i12 i13 h
      rw [fX12_chance] at h
      have h := g_in (by decide) h
      have h := g_ip rfl h
      unfold bX12_chance_80 at h
      refine zX12_chance_80  ?_
      refine ⟨fun c => ?_, fun c => ?_⟩
      · have h := g_ip c h
        obtain ⟨hz, h⟩ := g_nn h
        refine ⟨hz, ?_⟩
        cases h; exact ⟨rfl, rfl⟩
      · have h := g_in c h
        exact hrec_97 _ _ _ _ _ _ _ _ _ _ _  h
    · intro S i1 i2 i3 j4 j6 i8 j9 i11 i12 i13 h
      rw [fX12_chance] at h
      have h := g_in (by decide) h
      have h := g_in (by decide) h
      have h := g_ip rfl h
      unfold bX12_chance_97 at h
      refine zX12_chance_97  ?_
      refine ⟨fun c => ?_, fun c => ?_⟩
      · have h := g_ip c h
        refine ⟨fun c => ?_, fun c => ?_⟩
        · have h := g_in c h
          exact hrec_177 _ _ _ _ _ _ _ _ _ _ _  h
        · have h := g_ip c h
          exact hrec_177 _ _ _ _ _ _ _ _ _ _ _  h
      · have h := g_in c h
        refine ⟨fun c => ?_, fun c => ?_⟩
        · have h := g_in c h
          exact hrec_121 _ _ _ _ _ _ _ _ _ _ _  h
        · have h := g_ip c h
          exact hrec_121 _ _ _ _ _ _ _ _ _ _ _  h
    · intro S i1 i2 i3 j4 j6 i8 j9 i11 i12 i13 h
      rw [fX12_chance] at h
      have h := g_in (by decide) h
      have h := g_in (by decide) h
      have h := g_in (by decide) h
      have h := g_ip rfl h
      unfold bX12_chance_121 at h
      refine zX12_chance_121  ?_
      refine ⟨fun c => ?_, fun c => ?_⟩
      · have h := g_ip c h
        exact hrec_141 _ _ _ _ _ _ _ _ _ _ _  h
      · have h := g_in c h
        exact hrec_141 _ _ _ _ _ _ _ _ _ _ _  h
    · intro S i1 i2 i3 j4 j6 i8 j9 i11 i12 i13 h
      rw [fX12_chance] at h
      have h := g_in (by decide) h
      have h := g_in (by decide) h
      have h := g_in (by decide) h
      have h := g_in (by decide) h
      have h := g_ip rfl h
      unfold bX12_chance_141 at h
      refine zX12_chance_141  ?_
      refine ⟨fun c => ?_, fun c => ?_⟩
      · have h := g_ip c h
        obtain ⟨S1, x2, hc, h⟩ := g_b2s h
        refine ⟨4, _, (by decide), CX12_passes  hc, ?_⟩
        rintro _ _ ⟨rfl, rfl⟩
        exact hrec_97 _ _ _ _ _ _ _ _ _ _ _  h
      · have h := g_in c h
        obtain ⟨S3, x4, hc, h⟩ := g_b2s h
        refine ⟨4, _, (by decide), CX12_passes  hc, ?_⟩
        rintro _ _ ⟨rfl, rfl⟩
        exact hrec_97 _ _ _ _ _ _ _ _ _ _ _  h
    · intro S i1 i2 i3 j4 j6 i8 j9 i11 i12 i13 h
      rw [fX12_chance] at h
      have h := g_in (by decide) h
      have h := g_in (by decide) h
      have h := g_in (by decide) h
      have h := g_in (by decide) h
      have h := g_in (by decide) h
      have h := g_ip rfl h
      unfold bX12_chance_177 at h
      refine zX12_chance_177  ?_
      obtain ⟨S1, hc, h⟩ := g_b1s h
      refine ⟨0, _, (by decide), CX12_copies rfl rfl hc, ?_⟩
      rintro _ rfl
      exact hrec_80 _ _ _ _ _ _ _ _ _ _ _  h
theorem CX12_chance {n : Nat} {S : gS} {R : gS × Int32} {i1 : Int32} {i2 : Int32} {i3 : Int32}  (h : FX12_chance S i1 i2 i3 = some R) : sCi 5 mX12_chance n S [.ref (180), .int (i1), .int (i2), .int (i3)] (fun S2 x2 => S2 = R.1 ∧ x2 = R.2) := by
  unfold FX12_chance at h
  refine gCj_of (by decide) (Nat.le_of_ble_eq_true rfl) rfl rfl (zX12_chance_0  ?_)
  intro S1 eS
  have h := g_lts eS h
  obtain ⟨S2, b3, hc, h⟩ := g_b2s h
  refine ⟨0, _, (by decide), CX12_isLetter0  hc, ?_⟩
  rintro _ _ ⟨rfl, rfl⟩
  refine ⟨fun c => ?_, fun c => ?_⟩
  · have h := g_bf c h
    cases h; exact ⟨rfl, rfl⟩
  · have h := g_bt c h
    obtain ⟨S4, b5, hc, h⟩ := g_b2s h
    refine ⟨0, _, (by decide), CX12_within  hc, ?_⟩
    rintro _ _ ⟨rfl, rfl⟩
    refine ⟨fun c => ?_, fun c => ?_⟩
    · have h := g_bf c h
      cases h; exact ⟨rfl, rfl⟩
    · have h := g_bt c h
      obtain ⟨S6, b7, hc, h⟩ := g_b2s h
      refine ⟨0, _, (by decide), CX12_within  hc, ?_⟩
      rintro _ _ ⟨rfl, rfl⟩
      refine ⟨fun c => ?_, fun c => ?_⟩
      · have h := g_bt c h
        exact (lX12_chance FU).1 _ _ _ _ _ _ _ _ _ _ _  h
      · have h := g_bf c h
        cases h; exact ⟨rfl, rfl⟩

noncomputable def FX12_getsBy (S : gS) (i0 : Int32) (i1 : Int32) (i2 : Int32) (i3 : Int32) (i4 : Int32) : Option (gS × Int32) := if i3 = (1 : Int32) then (if i4 = (1 : Int32) then (some (S, (-i0))) else (some (S, i1))) else (if i4 = (1 : Int32) then (some (S, i2)) else (some (S, (0 : Int32))))
theorem CX12_getsBy {n : Nat} {S : gS} {R : gS × Int32} {i0 : Int32} {i1 : Int32} {i2 : Int32} {i3 : Int32} {i4 : Int32}  (h : FX12_getsBy S i0 i1 i2 i3 i4 = some R) : sCi 0 mX12_getsBy n S [.int (i0), .int (i1), .int (i2), .int (i3), .int (i4)] (fun S2 x2 => S2 = R.1 ∧ x2 = R.2) := by
  unfold FX12_getsBy at h
  refine gCj_of (by decide) (Nat.le_of_ble_eq_true rfl) rfl rfl (zX12_getsBy_0  ?_)
  refine ⟨fun c => ?_, fun c => ?_⟩
  · have h := g_in c h
    refine ⟨fun c => ?_, fun c => ?_⟩
    · have h := g_in c h
      cases h; exact ⟨rfl, rfl⟩
    · have h := g_ip c h
      cases h; exact ⟨rfl, rfl⟩
  · have h := g_ip c h
    refine ⟨fun c => ?_, fun c => ?_⟩
    · have h := g_in c h
      cases h; exact ⟨rfl, rfl⟩
    · have h := g_ip c h
      cases h; exact ⟨rfl, rfl⟩

noncomputable def bX12_rests_45  (rec : Nat → gS → Int32 → Int32 → Int32 → Int32 → Int32 → Int32 → Option (gS × Int32)) (S : gS) (i1 : Int32) (i2 : Int32) (i3 : Int32) (i4 : Int32) (i5 : Int32) (i6 : Int32) : Option (gS × Int32) := if (sI S (180) 0) = (1 : Int32) then (some (S, (0 : Int32))) else (rec 61 S (i1) (i2) (i3) (i4) ((0 : Int32)) ((0 : Int32)))
noncomputable def bX12_rests_61  (rec : Nat → gS → Int32 → Int32 → Int32 → Int32 → Int32 → Int32 → Option (gS × Int32)) (S : gS) (i1 : Int32) (i2 : Int32) (i3 : Int32) (i4 : Int32) (i5 : Int32) (i6 : Int32) : Option (gS × Int32) := if (4 : Int32) ≤ i6 then (if i4 = (-1 : Int32) then (g_lt (uI S (180) 0 ((0 : Int32))) (fun S2 => if i4 = (-1 : Int32) then (some (S2, i5)) else (some (S2, (0 : Int32))))) else (g_lt (uI S (180) 0 ((1 : Int32))) (fun S1 => if i4 = (-1 : Int32) then (some (S1, i5)) else (some (S1, (0 : Int32)))))) else (g_b2 (FX12_getsBy S (i1) (i2) (i3) (((1 : Int32) - (i6 / (2 : Int32)))) ((i6 - i6 / (2 : Int32) * (2 : Int32)))) (fun S3 x4 => g_b2 (FX12_getsBy S3 (i1) (i2) (i3) ((i6 / (2 : Int32))) ((i6 - i6 / (2 : Int32) * (2 : Int32)))) (fun S5 x6 => if x6 < x4 then (rec 61 S5 (i1) (i2) (i3) (i4) (i5) ((i6 + 1))) else (g_b2 (FX12_getsBy S5 (i1) (i2) (i3) (((1 : Int32) - (i6 - i6 / (2 : Int32) * (2 : Int32)))) ((i6 / (2 : Int32)))) (fun S7 x8 => g_b2 (FX12_getsBy S7 (i1) (i2) (i3) ((i6 - i6 / (2 : Int32) * (2 : Int32))) ((i6 / (2 : Int32)))) (fun S9 x10 => if x8 ≤ x10 then (if i5 = i4 then (some (S9, i6)) else (rec 61 S9 (i1) (i2) (i3) (i4) ((i5 + 1)) ((i6 + 1)))) else (rec 61 S9 (i1) (i2) (i3) (i4) (i5) ((i6 + 1)))))))))
noncomputable def fX12_rests  : Nat → Nat → gS → Int32 → Int32 → Int32 → Int32 → Int32 → Int32 → Option (gS × Int32)
  | 0 => fun _ _ _ _ _ _ _ _ => none
  | k + 1 => fun pc S i1 i2 i3 i4 i5 i6 => if pc = 45 then bX12_rests_45  (fX12_rests  k) S i1 i2 i3 i4 i5 i6 else if pc = 61 then bX12_rests_61  (fX12_rests  k) S i1 i2 i3 i4 i5 i6 else none
noncomputable def FX12_rests (S : gS) (i1 : Int32) (i2 : Int32) (i3 : Int32) (i4 : Int32) : Option (gS × Int32) := g_b2 (FX12_within S (i1) ((0 : Int32)) ((9 : Int32))) (fun S1 b2 => if b2 = true then (g_b2 (FX12_within S1 (i2) ((0 : Int32)) ((9 : Int32))) (fun S4 b5 => if b5 = true then (g_b2 (FX12_within S4 (i3) ((0 : Int32)) ((9 : Int32))) (fun S7 b8 => if b8 = true then (if i4 < (-1 : Int32) then (g_lt (uI S7 (180) 0 ((1 : Int32))) (fun S10 => fX12_rests  FU 45 S10 (i1) (i2) (i3) (i4) 0 0)) else (g_lt (uI S7 (180) 0 ((0 : Int32))) (fun S11 => fX12_rests  FU 45 S11 (i1) (i2) (i3) (i4) 0 0))) else (g_lt (uI S7 (180) 0 ((1 : Int32))) (fun S9 => fX12_rests  FU 45 S9 (i1) (i2) (i3) (i4) 0 0)))) else (g_lt (uI S4 (180) 0 ((1 : Int32))) (fun S6 => fX12_rests  FU 45 S6 (i1) (i2) (i3) (i4) 0 0)))) else (g_lt (uI S1 (180) 0 ((1 : Int32))) (fun S3 => fX12_rests  FU 45 S3 (i1) (i2) (i3) (i4) 0 0)))
set_option maxRecDepth 100000 in
theorem lX12_rests  {n : Nat} {R : gS × Int32} : ∀ k : Nat, (∀ (S : gS) (i1 : Int32) (i2 : Int32) (i3 : Int32) (i4 : Int32) (i5 : Int32) (i6 : Int32) , fX12_rests  k 45 S i1 i2 i3 i4 i5 i6 = some R → gG 1 mX12_rests 0 0 (g_Xj mX12_rests n 0 0 (hPi (fun S2 x2 => S2 = R.1 ∧ x2 = R.2))) 45 n (hH S) [some (.ref (180)), some (.int (i1)), some (.int (i2)), some (.int (i3)), some (.int (i4)), none, none, none, none] [] 0 0) ∧ (∀ (S : gS) (i1 : Int32) (i2 : Int32) (i3 : Int32) (i4 : Int32) (i5 : Int32) (i6 : Int32) , fX12_rests  k 61 S i1 i2 i3 i4 i5 i6 = some R → gG 1 mX12_rests 0 0 (g_Xj mX12_rests n 0 0 (hPi (fun S2 x2 => S2 = R.1 ∧ x2 = R.2))) 61 n (hH S) [some (.ref (180)), some (.int (i1)), some (.int (i2)), some (.int (i3)), some (.int (i4)), some (.int (i5)), some (.int (i6)), none, none] [] 0 0) := by
  intro k
  induction k with
  | zero => exact ⟨fun _ _ _ _ _ _ _ h => (by cases h), fun _ _ _ _ _ _ _ h => (by cases h)⟩
  | succ k ih =>
    have hrec_45 := ih.1
    have hrec_61 := ih.2
    refine ⟨?_, ?_⟩
    · intro S i1 i2 i3 i4 i5 i6 h
      rw [fX12_rests] at h
      have h := g_ip rfl h
      unfold bX12_rests_45 at h
      refine zX12_rests_45  ?_
      refine ⟨fun c => ?_, fun c => ?_⟩
      · have h := g_in c h
        exact hrec_61 _ _ _ _ _ _ _  h
      · have h := g_ip c h
        cases h; exact ⟨rfl, rfl⟩
    · intro S i1 i2 i3 i4 i5 i6 h
      rw [fX12_rests] at h
      have h := g_in (by decide) h
      have h := g_ip rfl h
      unfold bX12_rests_61 at h
      refine zX12_rests_61  ?_
      refine ⟨fun c => ?_, fun c => ?_⟩
      · have h := g_ip c h
        refine ⟨fun c => ?_, fun c => ?_⟩
        · have h := g_in c h
          intro S1 eS
          have h := g_lts eS h
          refine ⟨fun c => ?_, fun c => ?_⟩
          · have h := g_in c h
            cases h; exact ⟨rfl, rfl⟩
          · have h := g_ip c h
            cases h; exact ⟨rfl, rfl⟩
        · have h := g_ip c h
          intro S2 eS
          have h := g_lts eS h
          refine ⟨fun c => ?_, fun c => ?_⟩
          · have h := g_in c h
            cases h; exact ⟨rfl, rfl⟩
          · have h := g_ip c h
            cases h; exact ⟨rfl, rfl⟩
      · have h := g_in c h
        obtain ⟨S3, x4, hc, h⟩ := g_b2s h
        refine ⟨0, _, (by decide), CX12_getsBy  hc, ?_⟩
        rintro _ _ ⟨rfl, rfl⟩
        obtain ⟨S5, x6, hc, h⟩ := g_b2s h
        refine ⟨0, _, (by decide), CX12_getsBy  hc, ?_⟩
        rintro _ _ ⟨rfl, rfl⟩
        refine ⟨fun c => ?_, fun c => ?_⟩
        · have h := g_ip c h
          exact hrec_61 _ _ _ _ _ _ _  h
        · have h := g_in c h
          obtain ⟨S7, x8, hc, h⟩ := g_b2s h
          refine ⟨0, _, (by decide), CX12_getsBy  hc, ?_⟩
          rintro _ _ ⟨rfl, rfl⟩
          obtain ⟨S9, x10, hc, h⟩ := g_b2s h
          refine ⟨0, _, (by decide), CX12_getsBy  hc, ?_⟩
          rintro _ _ ⟨rfl, rfl⟩
          refine ⟨fun c => ?_, fun c => ?_⟩
          · have h := g_ip c h
            refine ⟨fun c => ?_, fun c => ?_⟩
            · have h := g_in c h
              exact hrec_61 _ _ _ _ _ _ _  h
            · have h := g_ip c h
              cases h; exact ⟨rfl, rfl⟩
          · have h := g_in c h
            exact hrec_61 _ _ _ _ _ _ _  h
theorem CX12_rests {n : Nat} {S : gS} {R : gS × Int32} {i1 : Int32} {i2 : Int32} {i3 : Int32} {i4 : Int32}  (h : FX12_rests S i1 i2 i3 i4 = some R) : sCi 1 mX12_rests n S [.ref (180), .int (i1), .int (i2), .int (i3), .int (i4)] (fun S2 x2 => S2 = R.1 ∧ x2 = R.2) := by
  unfold FX12_rests at h
  refine gCj_of (by decide) (Nat.le_of_ble_eq_true rfl) rfl rfl (zX12_rests_0  ?_)
  obtain ⟨S1, b2, hc, h⟩ := g_b2s h
  refine ⟨0, _, (by decide), CX12_within  hc, ?_⟩
  rintro _ _ ⟨rfl, rfl⟩
  refine ⟨fun c => ?_, fun c => ?_⟩
  · have h := g_bf c h
    intro S3 eS
    have h := g_lts eS h
    exact (lX12_rests FU).1 _ _ _ _ _ _ _  h
  · have h := g_bt c h
    obtain ⟨S4, b5, hc, h⟩ := g_b2s h
    refine ⟨0, _, (by decide), CX12_within  hc, ?_⟩
    rintro _ _ ⟨rfl, rfl⟩
    refine ⟨fun c => ?_, fun c => ?_⟩
    · have h := g_bf c h
      intro S6 eS
      have h := g_lts eS h
      exact (lX12_rests FU).1 _ _ _ _ _ _ _  h
    · have h := g_bt c h
      obtain ⟨S7, b8, hc, h⟩ := g_b2s h
      refine ⟨0, _, (by decide), CX12_within  hc, ?_⟩
      rintro _ _ ⟨rfl, rfl⟩
      refine ⟨fun c => ?_, fun c => ?_⟩
      · have h := g_bf c h
        intro S9 eS
        have h := g_lts eS h
        exact (lX12_rests FU).1 _ _ _ _ _ _ _  h
      · have h := g_bt c h
        refine ⟨fun c => ?_, fun c => ?_⟩
        · have h := g_ip c h
          intro S10 eS
          have h := g_lts eS h
          exact (lX12_rests FU).1 _ _ _ _ _ _ _  h
        · have h := g_in c h
          intro S11 eS
          have h := g_lts eS h
          exact (lX12_rests FU).1 _ _ _ _ _ _ _  h

noncomputable def FX12_draws (S : gS) (i1 : Int32) : Option (gS × Int32) := g_lt (uJ S (180) 59 (((((sJ S (180) 59) * (1103515245 : Int64)) + (12345 : Int64)) - (((sJ S (180) 59) * (1103515245 : Int64)) + (12345 : Int64)) / (2147483648 : Int64) * (2147483648 : Int64)))) (fun S1 => if (Int32.toInt64 (i1)) = 0 then none else (some (S1, (Int64.toInt32 ((((sJ S1 (180) 59) / (65536 : Int64)) - ((sJ S1 (180) 59) / (65536 : Int64)) / (Int32.toInt64 (i1)) * (Int32.toInt64 (i1))))))))
theorem CX12_draws {n : Nat} {S : gS} {R : gS × Int32} {i1 : Int32}  (h : FX12_draws S i1 = some R) : sCi 0 mX12_draws n S [.ref (180), .int (i1)] (fun S2 x2 => S2 = R.1 ∧ x2 = R.2) := by
  unfold FX12_draws at h
  refine gCj_of (by decide) (Nat.le_of_ble_eq_true rfl) rfl rfl (zX12_draws_0  ?_)
  intro S1 eS
  have h := g_lts eS h
  obtain ⟨hz, h⟩ := g_nn h
  refine ⟨hz, ?_⟩
  cases h; exact ⟨rfl, rfl⟩

noncomputable def bX12_livesMinute_43  (rec : Nat → gS → Int32 → Int32 → Option (gS × Int32)) (S : gS) (i1 : Int32) (i2 : Int32) : Option (gS × Int32) := if i2 = (1 : Int32) then (g_lt (uR S (216) (1) (((sR S (216) (1)) ||| ((1 : Int32) <<< (i1 &&& 31))))) (fun S1 => rec 60 S1 (i1) (i2))) else (rec 60 S (i1) (i2))
noncomputable def bX12_livesMinute_60  (rec : Nat → gS → Int32 → Int32 → Option (gS × Int32)) (S : gS) (i1 : Int32) (i2 : Int32) : Option (gS × Int32) := if i2 = (2 : Int32) then (g_lt (uR S (216) (1) (((sR S (216) (1)) &&& (((1 : Int32) <<< (i1 &&& 31)) ^^^ (-1 : Int32))))) (fun S3 => g_b2 (FX12_passesAsTold S3 ) (fun S4 x5 => some (S4, x5)))) else (g_b2 (FX12_passesAsTold S ) (fun S1 x2 => some (S1, x2)))
noncomputable def fX12_livesMinute  : Nat → Nat → gS → Int32 → Int32 → Option (gS × Int32)
  | 0 => fun _ _ _ _ => none
  | k + 1 => fun pc S i1 i2 => if pc = 43 then bX12_livesMinute_43  (fX12_livesMinute  k) S i1 i2 else if pc = 60 then bX12_livesMinute_60  (fX12_livesMinute  k) S i1 i2 else none
noncomputable def FX12_livesMinute (S : gS)  : Option (gS × Int32) := if (sR S (182) (0)) ≤ 0 then (g_b2 (FX12_passesAsTold S ) (fun S1 x2 => some (S1, x2))) else (g_b2 (FX12_draws S ((sR S (182) (0)))) (fun S3 x4 => g_b2 (FX12_draws S3 ((5 : Int32))) (fun S5 x6 => if x6 = 0 then (g_b2 (FX12_draws S5 ((9 : Int32))) (fun S7 x8 => g_b1 (FX12_pours S7 (x4) ((x8 + (1 : Int32)))) (fun S9 => fX12_livesMinute  FU 43 S9 (x4) (x6)))) else (fX12_livesMinute  FU 43 S5 (x4) (x6)))))
set_option maxRecDepth 100000 in
theorem lX12_livesMinute  {n : Nat} {R : gS × Int32} : ∀ k : Nat, (∀ (S : gS) (i1 : Int32) (i2 : Int32) , fX12_livesMinute  k 43 S i1 i2 = some R → gG 6 mX12_livesMinute 0 0 (g_Xj mX12_livesMinute n 0 0 (hPi (fun S2 x2 => S2 = R.1 ∧ x2 = R.2))) 43 n (hH S) [some (.ref (180)), some (.int (i1)), some (.int (i2))] [] 0 0) ∧ (∀ (S : gS) (i1 : Int32) (i2 : Int32) , fX12_livesMinute  k 60 S i1 i2 = some R → gG 6 mX12_livesMinute 0 0 (g_Xj mX12_livesMinute n 0 0 (hPi (fun S2 x2 => S2 = R.1 ∧ x2 = R.2))) 60 n (hH S) [some (.ref (180)), some (.int (i1)), some (.int (i2))] [] 0 0) := by
  intro k
  induction k with
  | zero => exact ⟨fun _ _ _ h => (by cases h), fun _ _ _ h => (by cases h)⟩
  | succ k ih =>
    have hrec_43 := ih.1
    have hrec_60 := ih.2
    refine ⟨?_, ?_⟩
    · intro S i1 i2 h
      rw [fX12_livesMinute] at h
      have h := g_ip rfl h
      unfold bX12_livesMinute_43 at h
      refine zX12_livesMinute_43  ?_
      refine ⟨fun c => ?_, fun c => ?_⟩
      · have h := g_in c h
        exact hrec_60 _ _ _  h
      · have h := g_ip c h
        intro S1 eS
        have h := g_lts eS h
        exact hrec_60 _ _ _  h
    · intro S i1 i2 h
      rw [fX12_livesMinute] at h
      have h := g_in (by decide) h
      have h := g_ip rfl h
      unfold bX12_livesMinute_60 at h
      refine zX12_livesMinute_60  ?_
      refine ⟨fun c => ?_, fun c => ?_⟩
      · have h := g_in c h
        obtain ⟨S1, x2, hc, h⟩ := g_b2s h
        refine ⟨5, _, (by decide), CX12_passesAsTold  hc, ?_⟩
        rintro _ _ ⟨rfl, rfl⟩
        cases h; exact ⟨rfl, rfl⟩
      · have h := g_ip c h
        intro S3 eS
        have h := g_lts eS h
        obtain ⟨S4, x5, hc, h⟩ := g_b2s h
        refine ⟨5, _, (by decide), CX12_passesAsTold  hc, ?_⟩
        rintro _ _ ⟨rfl, rfl⟩
        cases h; exact ⟨rfl, rfl⟩
theorem CX12_livesMinute {n : Nat} {S : gS} {R : gS × Int32}   (h : FX12_livesMinute S  = some R) : sCi 6 mX12_livesMinute n S [.ref (180)] (fun S2 x2 => S2 = R.1 ∧ x2 = R.2) := by
  unfold FX12_livesMinute at h
  refine gCj_of (by decide) (Nat.le_of_ble_eq_true rfl) rfl rfl (zX12_livesMinute_0  ?_)
  refine ⟨fun c => ?_, fun c => ?_⟩
  · have h := g_ip c h
    obtain ⟨S1, x2, hc, h⟩ := g_b2s h
    refine ⟨5, _, (by decide), CX12_passesAsTold  hc, ?_⟩
    rintro _ _ ⟨rfl, rfl⟩
    cases h; exact ⟨rfl, rfl⟩
  · have h := g_in c h
    obtain ⟨S3, x4, hc, h⟩ := g_b2s h
    refine ⟨0, _, (by decide), CX12_draws  hc, ?_⟩
    rintro _ _ ⟨rfl, rfl⟩
    obtain ⟨S5, x6, hc, h⟩ := g_b2s h
    refine ⟨0, _, (by decide), CX12_draws  hc, ?_⟩
    rintro _ _ ⟨rfl, rfl⟩
    refine ⟨fun c => ?_, fun c => ?_⟩
    · have h := g_in c h
      exact (lX12_livesMinute FU).1 _ _ _  h
    · have h := g_ip c h
      obtain ⟨S7, x8, hc, h⟩ := g_b2s h
      refine ⟨0, _, (by decide), CX12_draws  hc, ?_⟩
      rintro _ _ ⟨rfl, rfl⟩
      obtain ⟨S9, hc, h⟩ := g_b1s h
      refine ⟨1, _, (by decide), CX12_pours  hc, ?_⟩
      rintro _ rfl
      exact (lX12_livesMinute FU).1 _ _ _  h

noncomputable def bX12_days_65  (rec : Nat → gS → Int32 → Int32 → Int32 → Int32 → Int32 → Int32 → Option (gS × Int32)) (S : gS) (i2 : Int32) (i3 : Int32) (i4 : Int32) (i5 : Int32) (i6 : Int32) (i7 : Int32) : Option (gS × Int32) := if i2 ≤ i6 then (g_b2 (FX12_allStands S ) (fun S1 x2 => g_b1 (FX12_copies S1 (217) (59) ((0 : Int32)) (216) (59) ((0 : Int32))) (fun S3 => if i3 = 0 then (some (S3, i4)) else (if i3 = (1 : Int32) then (some (S3, i5)) else (some (S3, x2)))))) else (g_b2 (FX12_livesMinute S ) (fun S4 x5 => if x5 < 0 then (rec 99 S4 (i2) (i3) ((i4 + (0 : Int32))) (i5) (i6) (x5)) else (if x5 = (6 : Int32) then (rec 99 S4 (i2) (i3) ((i4 + (0 : Int32))) (i5) (i6) (x5)) else (rec 99 S4 (i2) (i3) ((i4 + (1 : Int32))) (i5) (i6) (x5)))))
noncomputable def bX12_days_99  (rec : Nat → gS → Int32 → Int32 → Int32 → Int32 → Int32 → Int32 → Option (gS × Int32)) (S : gS) (i2 : Int32) (i3 : Int32) (i4 : Int32) (i5 : Int32) (i6 : Int32) (i7 : Int32) : Option (gS × Int32) := if i7 = (6 : Int32) then (rec 65 S (i2) (i3) (i4) ((i5 + (1 : Int32))) ((i6 + 1)) 0) else (rec 65 S (i2) (i3) (i4) ((i5 + (0 : Int32))) ((i6 + 1)) 0)
noncomputable def fX12_days  : Nat → Nat → gS → Int32 → Int32 → Int32 → Int32 → Int32 → Int32 → Option (gS × Int32)
  | 0 => fun _ _ _ _ _ _ _ _ => none
  | k + 1 => fun pc S i2 i3 i4 i5 i6 i7 => if pc = 65 then bX12_days_65  (fX12_days  k) S i2 i3 i4 i5 i6 i7 else if pc = 99 then bX12_days_99  (fX12_days  k) S i2 i3 i4 i5 i6 i7 else none
noncomputable def FX12_days (S : gS) (i1 : Int32) (i2 : Int32) (i3 : Int32) : Option (gS × Int32) := g_lt (uI S (180) 0 ((0 : Int32))) (fun S1 => g_b2 (FX12_within S1 (i1) ((0 : Int32)) ((9999 : Int32))) (fun S2 b3 => if b3 = true then (g_b2 (FX12_within S2 (i2) ((1 : Int32)) ((99 : Int32))) (fun S4 b5 => if b5 = true then (g_b2 (FX12_within S4 (i3) ((0 : Int32)) ((2 : Int32))) (fun S6 b7 => if b7 = true then (g_lt (uJ S6 (180) 59 ((Int32.toInt64 (i1)))) (fun S8 => g_b1 (FX12_copies S8 (216) (59) ((0 : Int32)) (217) (59) ((0 : Int32))) (fun S9 => fX12_days  FU 65 S9 (i2) (i3) ((0 : Int32)) ((0 : Int32)) ((0 : Int32)) 0))) else (some (S6, (-1 : Int32))))) else (some (S4, (-1 : Int32))))) else (some (S2, (-1 : Int32)))))
set_option maxRecDepth 100000 in
theorem lX12_days  {n : Nat} {R : gS × Int32} : ∀ k : Nat, (∀ (S : gS) (i2 : Int32) (i3 : Int32) (i4 : Int32) (i5 : Int32) (i6 : Int32) (i7 : Int32) , fX12_days  k 65 S i2 i3 i4 i5 i6 i7 = some R → gG 7 mX12_days 0 0 (g_Xj mX12_days n 0 0 (hPi (fun S2 x2 => S2 = R.1 ∧ x2 = R.2))) 65 n (hH S) [some (.ref (180)), none, some (.int (i2)), some (.int (i3)), some (.int (i4)), some (.int (i5)), some (.int (i6)), none] [] 0 0) ∧ (∀ (S : gS) (i2 : Int32) (i3 : Int32) (i4 : Int32) (i5 : Int32) (i6 : Int32) (i7 : Int32) , fX12_days  k 99 S i2 i3 i4 i5 i6 i7 = some R → gG 7 mX12_days 0 0 (g_Xj mX12_days n 0 0 (hPi (fun S2 x2 => S2 = R.1 ∧ x2 = R.2))) 99 n (hH S) [some (.ref (180)), none, some (.int (i2)), some (.int (i3)), some (.int (i4)), some (.int (i5)), some (.int (i6)), some (.int (i7))] [] 0 0) := by
  intro k
  induction k with
  | zero => exact ⟨fun _ _ _ _ _ _ _ h => (by cases h), fun _ _ _ _ _ _ _ h => (by cases h)⟩
  | succ k ih =>
    have hrec_65 := ih.1
    have hrec_99 := ih.2
    refine ⟨?_, ?_⟩
    · intro S i2 i3 i4 i5 i6 i7 h
      rw [fX12_days] at h
      have h := g_ip rfl h
      unfold bX12_days_65 at h
      refine zX12_days_65  ?_
      refine ⟨fun c => ?_, fun c => ?_⟩
      · have h := g_ip c h
        obtain ⟨S1, x2, hc, h⟩ := g_b2s h
        refine ⟨0, _, (by decide), CX12_allStands  hc, ?_⟩
        rintro _ _ ⟨rfl, rfl⟩
        obtain ⟨S3, hc, h⟩ := g_b1s h
        refine ⟨0, _, (by decide), CX12_copies rfl rfl hc, ?_⟩
        rintro _ rfl
        refine ⟨fun c => ?_, fun c => ?_⟩
        · have h := g_in c h
          refine ⟨fun c => ?_, fun c => ?_⟩
          · have h := g_in c h
            cases h; exact ⟨rfl, rfl⟩
          · have h := g_ip c h
            cases h; exact ⟨rfl, rfl⟩
        · have h := g_ip c h
          cases h; exact ⟨rfl, rfl⟩
      · have h := g_in c h
        obtain ⟨S4, x5, hc, h⟩ := g_b2s h
        refine ⟨6, _, (by decide), CX12_livesMinute  hc, ?_⟩
        rintro _ _ ⟨rfl, rfl⟩
        refine ⟨fun c => ?_, fun c => ?_⟩
        · have h := g_ip c h
          exact hrec_99 _ _ _ _ _ _ _  h
        · have h := g_in c h
          refine ⟨fun c => ?_, fun c => ?_⟩
          · have h := g_ip c h
            exact hrec_99 _ _ _ _ _ _ _  h
          · have h := g_in c h
            exact hrec_99 _ _ _ _ _ _ _  h
    · intro S i2 i3 i4 i5 i6 i7 h
      rw [fX12_days] at h
      have h := g_in (by decide) h
      have h := g_ip rfl h
      unfold bX12_days_99 at h
      refine zX12_days_99  ?_
      refine ⟨fun c => ?_, fun c => ?_⟩
      · have h := g_in c h
        exact hrec_65 _ _ _ _ _ _ _  h
      · have h := g_ip c h
        exact hrec_65 _ _ _ _ _ _ _  h
theorem CX12_days {n : Nat} {S : gS} {R : gS × Int32} {i1 : Int32} {i2 : Int32} {i3 : Int32}  (h : FX12_days S i1 i2 i3 = some R) : sCi 7 mX12_days n S [.ref (180), .int (i1), .int (i2), .int (i3)] (fun S2 x2 => S2 = R.1 ∧ x2 = R.2) := by
  unfold FX12_days at h
  refine gCj_of (by decide) (Nat.le_of_ble_eq_true rfl) rfl rfl (zX12_days_0  ?_)
  intro S1 eS
  have h := g_lts eS h
  obtain ⟨S2, b3, hc, h⟩ := g_b2s h
  refine ⟨0, _, (by decide), CX12_within  hc, ?_⟩
  rintro _ _ ⟨rfl, rfl⟩
  refine ⟨fun c => ?_, fun c => ?_⟩
  · have h := g_bf c h
    cases h; exact ⟨rfl, rfl⟩
  · have h := g_bt c h
    obtain ⟨S4, b5, hc, h⟩ := g_b2s h
    refine ⟨0, _, (by decide), CX12_within  hc, ?_⟩
    rintro _ _ ⟨rfl, rfl⟩
    refine ⟨fun c => ?_, fun c => ?_⟩
    · have h := g_bf c h
      cases h; exact ⟨rfl, rfl⟩
    · have h := g_bt c h
      obtain ⟨S6, b7, hc, h⟩ := g_b2s h
      refine ⟨0, _, (by decide), CX12_within  hc, ?_⟩
      rintro _ _ ⟨rfl, rfl⟩
      refine ⟨fun c => ?_, fun c => ?_⟩
      · have h := g_bt c h
        intro S8 eS
        have h := g_lts eS h
        obtain ⟨S9, hc, h⟩ := g_b1s h
        refine ⟨0, _, (by decide), CX12_copies rfl rfl hc, ?_⟩
        rintro _ rfl
        exact (lX12_days FU).1 _ _ _ _ _ _ _  h
      · have h := g_bf c h
        cases h; exact ⟨rfl, rfl⟩

noncomputable def bX12_mark_29  (rec : Nat → gS → Int32 → Int32 → Int32 → Int32 → Option (gS × Bool)) (S : gS) (i1 : Int32) (i2 : Int32) (i3 : Int32) (i4 : Int32) : Option (gS × Bool) := if g_vp (i1) 4 = true then (g_lt (uR S (221) (Int32.toNatClampNeg (i1)) (vp_nar .boolean ((1 : Int32)))) (fun S2 => if i2 = 0 then (rec 48 S2 (i1) (i2) ((0 : Int32)) 0) else (rec 48 S2 (i1) (i2) (((1 : Int32) + i1)) 0))) else none
noncomputable def bX12_mark_48  (rec : Nat → gS → Int32 → Int32 → Int32 → Int32 → Option (gS × Bool)) (S : gS) (i1 : Int32) (i2 : Int32) (i3 : Int32) (i4 : Int32) : Option (gS × Bool) := if i2 = 0 then (rec 61 S (i1) (i2) (i3) (((1 : Int32) + i1))) else (rec 61 S (i1) (i2) (i3) ((0 : Int32)))
noncomputable def bX12_mark_61  (rec : Nat → gS → Int32 → Int32 → Int32 → Int32 → Option (gS × Bool)) (S : gS) (i1 : Int32) (i2 : Int32) (i3 : Int32) (i4 : Int32) : Option (gS × Bool) := g_b1 (FX12_laysLines S (i3) (i4)) (fun S1 => g_b1 (FX12_laysWord S1 (i3) (i4)) (fun S2 => g_b1 (FX12_laysSeen S2 (i3) (i4)) (fun S3 => if i2 = 0 then (g_b1 (FX12_copies S3 (216) (59) ((0 : Int32)) (219) (236) (((59 : Int32) * i1))) (fun S4 => some (S4, true))) else (g_b1 (FX12_copies S3 (219) (236) (((59 : Int32) * i1)) (216) (59) ((0 : Int32))) (fun S5 => g_lt (uI S5 (180) 53 ((0 : Int32))) (fun S6 => some (S6, true)))))))
noncomputable def fX12_mark  : Nat → Nat → gS → Int32 → Int32 → Int32 → Int32 → Option (gS × Bool)
  | 0 => fun _ _ _ _ _ _ => none
  | k + 1 => fun pc S i1 i2 i3 i4 => if pc = 29 then bX12_mark_29  (fX12_mark  k) S i1 i2 i3 i4 else if pc = 48 then bX12_mark_48  (fX12_mark  k) S i1 i2 i3 i4 else if pc = 61 then bX12_mark_61  (fX12_mark  k) S i1 i2 i3 i4 else none
noncomputable def FX12_mark (S : gS) (i1 : Int32) (i2 : Int32) : Option (gS × Bool) := g_lt (uI S (180) 0 ((0 : Int32))) (fun S1 => g_b2 (FX12_within S1 (i1) ((0 : Int32)) ((3 : Int32))) (fun S2 b3 => if b3 = true then (if i2 = 0 then (fX12_mark  FU 29 S2 (i1) (i2) 0 0) else (if g_vp (i1) 4 = true then (if (sR S2 (221) (Int32.toNatClampNeg (i1))) = 0 then (some (S2, false)) else (fX12_mark  FU 29 S2 (i1) (i2) 0 0)) else none)) else (some (S2, false))))
set_option maxRecDepth 100000 in
theorem lX12_mark  {n : Nat} {R : gS × Bool} : ∀ k : Nat, (∀ (S : gS) (i1 : Int32) (i2 : Int32) (i3 : Int32) (i4 : Int32) , fX12_mark  k 29 S i1 i2 i3 i4 = some R → gG 1 mX12_mark 0 0 (g_Xz mX12_mark n 0 0 (hPz (fun S2 x2 => S2 = R.1 ∧ x2 = R.2))) 29 n (hH S) [some (.ref (180)), some (.int (i1)), some (.int (i2)), none, none] [] 0 0) ∧ (∀ (S : gS) (i1 : Int32) (i2 : Int32) (i3 : Int32) (i4 : Int32) , fX12_mark  k 48 S i1 i2 i3 i4 = some R → gG 1 mX12_mark 0 0 (g_Xz mX12_mark n 0 0 (hPz (fun S2 x2 => S2 = R.1 ∧ x2 = R.2))) 48 n (hH S) [some (.ref (180)), some (.int (i1)), some (.int (i2)), some (.int (i3)), none] [] 0 0) ∧ (∀ (S : gS) (i1 : Int32) (i2 : Int32) (i3 : Int32) (i4 : Int32) , fX12_mark  k 61 S i1 i2 i3 i4 = some R → gG 1 mX12_mark 0 0 (g_Xz mX12_mark n 0 0 (hPz (fun S2 x2 => S2 = R.1 ∧ x2 = R.2))) 61 n (hH S) [some (.ref (180)), some (.int (i1)), some (.int (i2)), some (.int (i3)), some (.int (i4))] [] 0 0) := by
  intro k
  induction k with
  | zero => exact ⟨fun _ _ _ _ _ h => (by cases h), fun _ _ _ _ _ h => (by cases h), fun _ _ _ _ _ h => (by cases h)⟩
  | succ k ih =>
    have hrec_29 := ih.1
    have hrec_48 := ih.2.1
    have hrec_61 := ih.2.2
    refine ⟨?_, ?_, ?_⟩
    · intro S i1 i2 i3 i4 h
      rw [fX12_mark] at h
      have h := g_ip rfl h
      unfold bX12_mark_29 at h
      refine zX12_mark_29  ?_
      obtain ⟨hv1, h⟩ := g_vs h
      refine ⟨hv1, ?_⟩
      intro S2 eS
      have h := g_lts eS h
      refine ⟨fun c => ?_, fun c => ?_⟩
      · have h := g_ip c h
        exact hrec_48 _ _ _ _ _  h
      · have h := g_in c h
        exact hrec_48 _ _ _ _ _  h
    · intro S i1 i2 i3 i4 h
      rw [fX12_mark] at h
      have h := g_in (by decide) h
      have h := g_ip rfl h
      unfold bX12_mark_48 at h
      refine zX12_mark_48  ?_
      refine ⟨fun c => ?_, fun c => ?_⟩
      · have h := g_ip c h
        exact hrec_61 _ _ _ _ _  h
      · have h := g_in c h
        exact hrec_61 _ _ _ _ _  h
    · intro S i1 i2 i3 i4 h
      rw [fX12_mark] at h
      have h := g_in (by decide) h
      have h := g_in (by decide) h
      have h := g_ip rfl h
      unfold bX12_mark_61 at h
      refine zX12_mark_61  ?_
      obtain ⟨S1, hc, h⟩ := g_b1s h
      refine ⟨0, _, (by decide), CX12_laysLines  hc, ?_⟩
      rintro _ rfl
      obtain ⟨S2, hc, h⟩ := g_b1s h
      refine ⟨0, _, (by decide), CX12_laysWord  hc, ?_⟩
      rintro _ rfl
      obtain ⟨S3, hc, h⟩ := g_b1s h
      refine ⟨0, _, (by decide), CX12_laysSeen  hc, ?_⟩
      rintro _ rfl
      refine ⟨fun c => ?_, fun c => ?_⟩
      · have h := g_ip c h
        obtain ⟨S4, hc, h⟩ := g_b1s h
        refine ⟨0, _, (by decide), CX12_copies rfl rfl hc, ?_⟩
        rintro _ rfl
        cases h; exact ⟨rfl, rfl⟩
      · have h := g_in c h
        obtain ⟨S5, hc, h⟩ := g_b1s h
        refine ⟨0, _, (by decide), CX12_copies rfl rfl hc, ?_⟩
        rintro _ rfl
        intro S6 eS
        have h := g_lts eS h
        cases h; exact ⟨rfl, rfl⟩
theorem CX12_mark {n : Nat} {S : gS} {R : gS × Bool} {i1 : Int32} {i2 : Int32}  (h : FX12_mark S i1 i2 = some R) : sCz 1 mX12_mark n S [.ref (180), .int (i1), .int (i2)] (fun S2 x2 => S2 = R.1 ∧ x2 = R.2) := by
  unfold FX12_mark at h
  refine gCz_of (by decide) (Nat.le_of_ble_eq_true rfl) rfl rfl (zX12_mark_0  ?_)
  intro S1 eS
  have h := g_lts eS h
  obtain ⟨S2, b3, hc, h⟩ := g_b2s h
  refine ⟨0, _, (by decide), CX12_within  hc, ?_⟩
  rintro _ _ ⟨rfl, rfl⟩
  refine ⟨fun c => ?_, fun c => ?_⟩
  · have h := g_bf c h
    cases h; exact ⟨rfl, rfl⟩
  · have h := g_bt c h
    refine ⟨fun c => ?_, fun c => ?_⟩
    · have h := g_ip c h
      exact (lX12_mark FU).1 _ _ _ _ _  h
    · have h := g_in c h
      obtain ⟨hv4, h⟩ := g_vs h
      refine ⟨hv4, ?_⟩
      refine ⟨fun c => ?_, fun c => ?_⟩
      · have h := g_in c h
        exact (lX12_mark FU).1 _ _ _ _ _  h
      · have h := g_ip c h
        cases h; exact ⟨rfl, rfl⟩

noncomputable def FX12_count (S : gS) (i1 : Int32) : Option (gS × Int32) := g_lt (uI S (180) 0 ((0 : Int32))) (fun S1 => g_b2 (FX12_within S1 (i1) ((0 : Int32)) ((12 : Int32))) (fun S2 b3 => if b3 = true then (if (2 : Int32) ≤ i1 then (if (5 : Int32) ≤ i1 then (if (8 : Int32) ≤ i1 then (if (11 : Int32) ≤ i1 then (if i1 = (11 : Int32) then (some (S2, (sI S2 (180) 53))) else (some (S2, (sI S2 (180) 1)))) else (if i1 = (8 : Int32) then (some (S2, (sR S2 (207) (0)))) else (if i1 = (9 : Int32) then (some (S2, (sR S2 (211) (0)))) else (some (S2, (sR S2 (213) (0))))))) else (if i1 = (5 : Int32) then (some (S2, (sR S2 (216) (1)))) else (if i1 = (6 : Int32) then (some (S2, (sR S2 (216) (4)))) else (g_b2 (FX12_holesNow S2 ) (fun S4 x5 => some (S4, x5)))))) else (if i1 = (2 : Int32) then (some (S2, (sR S2 (216) (0)))) else (if i1 = (3 : Int32) then (g_b2 (FX12_rainOf S2 ((sR S2 (216) (0)))) (fun S8 x9 => some (S8, x9))) else (g_b2 (FX12_allStands S2 ) (fun S6 x7 => some (S6, x7)))))) else (if g_vp (i1) 6 = true then (some (S2, (sR S2 (182) (Int32.toNatClampNeg (i1))))) else none)) else (some (S2, (-1 : Int32)))))
theorem CX12_count {n : Nat} {S : gS} {R : gS × Int32} {i1 : Int32}  (h : FX12_count S i1 = some R) : sCi 1 mX12_count n S [.ref (180), .int (i1)] (fun S2 x2 => S2 = R.1 ∧ x2 = R.2) := by
  unfold FX12_count at h
  refine gCj_of (by decide) (Nat.le_of_ble_eq_true rfl) rfl rfl (zX12_count_0  ?_)
  intro S1 eS
  have h := g_lts eS h
  obtain ⟨S2, b3, hc, h⟩ := g_b2s h
  refine ⟨0, _, (by decide), CX12_within  hc, ?_⟩
  rintro _ _ ⟨rfl, rfl⟩
  refine ⟨fun c => ?_, fun c => ?_⟩
  · have h := g_bt c h
    refine ⟨fun c => ?_, fun c => ?_⟩
    · have h := g_ip c h
      refine ⟨fun c => ?_, fun c => ?_⟩
      · have h := g_ip c h
        refine ⟨fun c => ?_, fun c => ?_⟩
        · have h := g_ip c h
          refine ⟨fun c => ?_, fun c => ?_⟩
          · have h := g_ip c h
            refine ⟨fun c => ?_, fun c => ?_⟩
            · have h := g_in c h
              cases h; exact ⟨rfl, rfl⟩
            · have h := g_ip c h
              cases h; exact ⟨rfl, rfl⟩
          · have h := g_in c h
            refine ⟨fun c => ?_, fun c => ?_⟩
            · have h := g_in c h
              refine ⟨fun c => ?_, fun c => ?_⟩
              · have h := g_in c h
                cases h; exact ⟨rfl, rfl⟩
              · have h := g_ip c h
                cases h; exact ⟨rfl, rfl⟩
            · have h := g_ip c h
              cases h; exact ⟨rfl, rfl⟩
        · have h := g_in c h
          refine ⟨fun c => ?_, fun c => ?_⟩
          · have h := g_in c h
            refine ⟨fun c => ?_, fun c => ?_⟩
            · have h := g_in c h
              obtain ⟨S4, x5, hc, h⟩ := g_b2s h
              refine ⟨0, _, (by decide), CX12_holesNow  hc, ?_⟩
              rintro _ _ ⟨rfl, rfl⟩
              cases h; exact ⟨rfl, rfl⟩
            · have h := g_ip c h
              cases h; exact ⟨rfl, rfl⟩
          · have h := g_ip c h
            cases h; exact ⟨rfl, rfl⟩
      · have h := g_in c h
        refine ⟨fun c => ?_, fun c => ?_⟩
        · have h := g_in c h
          refine ⟨fun c => ?_, fun c => ?_⟩
          · have h := g_in c h
            obtain ⟨S6, x7, hc, h⟩ := g_b2s h
            refine ⟨0, _, (by decide), CX12_allStands  hc, ?_⟩
            rintro _ _ ⟨rfl, rfl⟩
            cases h; exact ⟨rfl, rfl⟩
          · have h := g_ip c h
            obtain ⟨S8, x9, hc, h⟩ := g_b2s h
            refine ⟨0, _, (by decide), CX12_rainOf  hc, ?_⟩
            rintro _ _ ⟨rfl, rfl⟩
            cases h; exact ⟨rfl, rfl⟩
        · have h := g_ip c h
          cases h; exact ⟨rfl, rfl⟩
    · have h := g_in c h
      obtain ⟨hv10, h⟩ := g_vs h
      refine ⟨hv10, ?_⟩
      cases h; exact ⟨rfl, rfl⟩
  · have h := g_bf c h
    cases h; exact ⟨rfl, rfl⟩
