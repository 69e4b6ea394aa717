noncomputable def FJ0_coder_7d493 (S : gS) (t0 : UInt32) : Option (gS × Int32) := if narrow .byte (.int ((0 : Int32))) = .int ((0 : Int32)) then some (S, (0 : Int32)) else none
theorem CJ0_coder_7d493 {n : Nat} {S : gS} {R : gS × Int32} {t0 : UInt32} (ht0 : (t0).toNat < 45) (h : FJ0_coder_7d493 S t0 = some R) : sCi 0 mJ0_coder_7d493 n S [.float (t0)] (fun S2 x2 => S2 = R.1 ∧ x2 = R.2) := by
  unfold FJ0_coder_7d493 at h
  refine gCt_of (by decide) (Nat.le_of_ble_eq_true rfl) rfl rfl (zJ0_coder_7d493_0 ht0 ?_)
  obtain ⟨h1, h⟩ := g_ns h
  cases h; exact ⟨h1, rfl, rfl⟩

noncomputable def FJ0_isLatin1_aae02 (S : gS) (t0 : UInt32) : Option (gS × Bool) := some (S, true)
theorem CJ0_isLatin1_aae02 {n : Nat} {S : gS} {R : gS × Bool} {t0 : UInt32} (ht0 : (t0).toNat < 45) (h : FJ0_isLatin1_aae02 S t0 = some R) : sCz 0 mJ0_isLatin1_aae02 n S [.float (t0)] (fun S2 x2 => S2 = R.1 ∧ x2 = R.2) := by
  unfold FJ0_isLatin1_aae02 at h
  refine gCz_of (by decide) (Nat.le_of_ble_eq_true rfl) rfl rfl (zJ0_isLatin1_aae02_0 ht0 ?_)
  cases h; exact ⟨rfl, rfl⟩

noncomputable def FJ3_checkIndex_8e157 (S : gS) (i0 : Int32) (i1 : Int32) (w2 : UInt32) : Option (gS × Int32) := if i0 < 0 then (none) else (if i0 < i1 then (some (S, i0)) else (none))
theorem CJ3_checkIndex_8e157 {n : Nat} {S : gS} {R : gS × Int32} {i0 : Int32} {i1 : Int32} {w2 : UInt32}  (h : FJ3_checkIndex_8e157 S i0 i1 w2 = some R) : sCi 0 mJ3_checkIndex_8e157 n S [.int (i0), .int (i1), .float (w2)] (fun S2 x2 => S2 = R.1 ∧ x2 = R.2) := by
  unfold FJ3_checkIndex_8e157 at h
  refine gCj_of (by decide) (Nat.le_of_ble_eq_true rfl) rfl rfl (zJ3_checkIndex_8e157_0  ?_)
  refine ⟨fun c => ?_, fun c => ?_⟩
  · have h := g_ip c h
    cases h
  · have h := g_in c h
    refine ⟨fun c => ?_, fun c => ?_⟩
    · have h := g_ip c h
      cases h; exact ⟨rfl, rfl⟩
    · have h := g_in c h
      cases h

noncomputable def FJ1_canEncode_9a6ad (S : gS) (i0 : Int32) : Option (gS × Bool) := if i0 < 0 then (some (S, false)) else (if (255 : Int32) < i0 then (some (S, false)) else (some (S, true)))
theorem CJ1_canEncode_9a6ad {n : Nat} {S : gS} {R : gS × Bool} {i0 : Int32}  (h : FJ1_canEncode_9a6ad S i0 = some R) : sCz 0 mJ1_canEncode_9a6ad n S [.int (i0)] (fun S2 x2 => S2 = R.1 ∧ x2 = R.2) := by
  unfold FJ1_canEncode_9a6ad at h
  refine gCz_of (by decide) (Nat.le_of_ble_eq_true rfl) rfl rfl (zJ1_canEncode_9a6ad_0  ?_)
  refine ⟨fun c => ?_, fun c => ?_⟩
  · have h := g_ip c h
    cases h; exact ⟨rfl, rfl⟩
  · have h := g_in c h
    refine ⟨fun c => ?_, fun c => ?_⟩
    · have h := g_ip c h
      cases h; exact ⟨rfl, rfl⟩
    · have h := g_in c h
      cases h; exact ⟨rfl, rfl⟩

noncomputable def bJ1_indexOfChar_4cfef_7 (t0 : UInt32) (rec : Nat → gS → UInt32 → Int32 → Int32 → Int32 → Option (gS × Int32)) (S : gS) (u0 : UInt32) (i3 : Int32) (i4 : Int32) (i5 : Int32) : Option (gS × Int32) := if i3 ≤ i5 then (some (S, (-1 : Int32))) else (if g_vp (i5) (g_by t0).length = true then (if ((g_by t0).getD (Int32.toNatClampNeg (i5)) 0) = i4 then (some (S, i5)) else (rec 7 S (u0) (i3) (i4) ((i5 + 1)))) else none)
noncomputable def fJ1_indexOfChar_4cfef (t0 : UInt32) : Nat → Nat → gS → UInt32 → Int32 → Int32 → Int32 → Option (gS × Int32)
  | 0 => fun _ _ _ _ _ _ => none
  | k + 1 => fun pc S u0 i3 i4 i5 => if pc = 7 then bJ1_indexOfChar_4cfef_7 t0 (fJ1_indexOfChar_4cfef t0 k) S u0 i3 i4 i5 else none
noncomputable def FJ1_indexOfChar_4cfef (S : gS) (u0 : UInt32) (t0 : UInt32) (i1 : Int32) (i2 : Int32) (i3 : Int32) : Option (gS × Int32) := fJ1_indexOfChar_4cfef t0 FU 7 S (u0) (i3) ((Int8.toInt32 (Int32.toInt8 (i1)))) (i2)
set_option maxRecDepth 100000 in
theorem lJ1_indexOfChar_4cfef {t0 : UInt32} {n : Nat} {R : gS × Int32} : ∀ k : Nat, (∀ (S : gS) (u0 : UInt32) (i3 : Int32) (i4 : Int32) (i5 : Int32) (hu0 : (u0).toNat = 100 + (t0).toNat) (ht0 : (t0).toNat < 45), fJ1_indexOfChar_4cfef t0 k 7 S u0 i3 i4 i5 = some R → gG 0 mJ1_indexOfChar_4cfef 0 0 (g_Xj mJ1_indexOfChar_4cfef n 0 0 (hPi (fun S2 x2 => S2 = R.1 ∧ x2 = R.2))) 7 n (hH S) [some (.float (u0)), none, none, some (.int (i3)), some (.int (i4)), some (.int (i5))] [] 0 0) := by
  intro k
  induction k with
  | zero => exact fun _ _ _ _ _ _ _ h => (by cases h)
  | succ k ih =>
    have hrec_7 := ih
    · intro S u0 i3 i4 i5 hu0 ht0 h
      rw [fJ1_indexOfChar_4cfef] at h
      have h := g_ip rfl h
      unfold bJ1_indexOfChar_4cfef_7 at h
      refine zJ1_indexOfChar_4cfef_7 hu0 ht0 ?_
      refine ⟨fun c => ?_, fun c => ?_⟩
      · have h := g_ip c h
        cases h; exact ⟨rfl, rfl⟩
      · have h := g_in c h
        obtain ⟨hi, h⟩ := g_vs h
        refine ⟨hi, ?_⟩
        refine ⟨fun c => ?_, fun c => ?_⟩
        · have h := g_in c h
          exact hrec_7 _ _ _ _ _ hu0 ht0 h
        · have h := g_ip c h
          cases h; exact ⟨rfl, rfl⟩
theorem CJ1_indexOfChar_4cfef {n : Nat} {S : gS} {R : gS × Int32} {u0 : UInt32} {t0 : UInt32} {i1 : Int32} {i2 : Int32} {i3 : Int32} (hu0 : (u0).toNat = 100 + (t0).toNat) (ht0 : (t0).toNat < 45) (h : FJ1_indexOfChar_4cfef S u0 t0 i1 i2 i3 = some R) : sCi 0 mJ1_indexOfChar_4cfef n S [.float (u0), .int (i1), .int (i2), .int (i3)] (fun S2 x2 => S2 = R.1 ∧ x2 = R.2) := by
  unfold FJ1_indexOfChar_4cfef at h
  refine gCj_of (by decide) (Nat.le_of_ble_eq_true rfl) rfl rfl (zJ1_indexOfChar_4cfef_0 hu0 ht0 ?_)
  exact (lJ1_indexOfChar_4cfef FU) _ _ _ _ _ hu0 ht0 h

noncomputable def FJ6_bitCount_0f7a4 (S : gS) (i0 : Int32) : Option (gS × Int32) := some (S, ((((((((i0 - (((Int32.toUInt32 (i0) >>> (Int32.toUInt32 ((1 : Int32)) &&& Int32.toUInt32 31)).toInt32) &&& (1431655765 : Int32))) &&& (858993459 : Int32)) + (((Int32.toUInt32 ((i0 - (((Int32.toUInt32 (i0) >>> (Int32.toUInt32 ((1 : Int32)) &&& Int32.toUInt32 31)).toInt32) &&& (1431655765 : Int32)))) >>> (Int32.toUInt32 ((2 : Int32)) &&& Int32.toUInt32 31)).toInt32) &&& (858993459 : Int32))) + ((Int32.toUInt32 ((((i0 - (((Int32.toUInt32 (i0) >>> (Int32.toUInt32 ((1 : Int32)) &&& Int32.toUInt32 31)).toInt32) &&& (1431655765 : Int32))) &&& (858993459 : Int32)) + (((Int32.toUInt32 ((i0 - (((Int32.toUInt32 (i0) >>> (Int32.toUInt32 ((1 : Int32)) &&& Int32.toUInt32 31)).toInt32) &&& (1431655765 : Int32)))) >>> (Int32.toUInt32 ((2 : Int32)) &&& Int32.toUInt32 31)).toInt32) &&& (858993459 : Int32)))) >>> (Int32.toUInt32 ((4 : Int32)) &&& Int32.toUInt32 31)).toInt32)) &&& (252645135 : Int32)) + ((Int32.toUInt32 ((((((i0 - (((Int32.toUInt32 (i0) >>> (Int32.toUInt32 ((1 : Int32)) &&& Int32.toUInt32 31)).toInt32) &&& (1431655765 : Int32))) &&& (858993459 : Int32)) + (((Int32.toUInt32 ((i0 - (((Int32.toUInt32 (i0) >>> (Int32.toUInt32 ((1 : Int32)) &&& Int32.toUInt32 31)).toInt32) &&& (1431655765 : Int32)))) >>> (Int32.toUInt32 ((2 : Int32)) &&& Int32.toUInt32 31)).toInt32) &&& (858993459 : Int32))) + ((Int32.toUInt32 ((((i0 - (((Int32.toUInt32 (i0) >>> (Int32.toUInt32 ((1 : Int32)) &&& Int32.toUInt32 31)).toInt32) &&& (1431655765 : Int32))) &&& (858993459 : Int32)) + (((Int32.toUInt32 ((i0 - (((Int32.toUInt32 (i0) >>> (Int32.toUInt32 ((1 : Int32)) &&& Int32.toUInt32 31)).toInt32) &&& (1431655765 : Int32)))) >>> (Int32.toUInt32 ((2 : Int32)) &&& Int32.toUInt32 31)).toInt32) &&& (858993459 : Int32)))) >>> (Int32.toUInt32 ((4 : Int32)) &&& Int32.toUInt32 31)).toInt32)) &&& (252645135 : Int32))) >>> (Int32.toUInt32 ((8 : Int32)) &&& Int32.toUInt32 31)).toInt32)) + ((Int32.toUInt32 (((((((i0 - (((Int32.toUInt32 (i0) >>> (Int32.toUInt32 ((1 : Int32)) &&& Int32.toUInt32 31)).toInt32) &&& (1431655765 : Int32))) &&& (858993459 : Int32)) + (((Int32.toUInt32 ((i0 - (((Int32.toUInt32 (i0) >>> (Int32.toUInt32 ((1 : Int32)) &&& Int32.toUInt32 31)).toInt32) &&& (1431655765 : Int32)))) >>> (Int32.toUInt32 ((2 : Int32)) &&& Int32.toUInt32 31)).toInt32) &&& (858993459 : Int32))) + ((Int32.toUInt32 ((((i0 - (((Int32.toUInt32 (i0) >>> (Int32.toUInt32 ((1 : Int32)) &&& Int32.toUInt32 31)).toInt32) &&& (1431655765 : Int32))) &&& (858993459 : Int32)) + (((Int32.toUInt32 ((i0 - (((Int32.toUInt32 (i0) >>> (Int32.toUInt32 ((1 : Int32)) &&& Int32.toUInt32 31)).toInt32) &&& (1431655765 : Int32)))) >>> (Int32.toUInt32 ((2 : Int32)) &&& Int32.toUInt32 31)).toInt32) &&& (858993459 : Int32)))) >>> (Int32.toUInt32 ((4 : Int32)) &&& Int32.toUInt32 31)).toInt32)) &&& (252645135 : Int32)) + ((Int32.toUInt32 ((((((i0 - (((Int32.toUInt32 (i0) >>> (Int32.toUInt32 ((1 : Int32)) &&& Int32.toUInt32 31)).toInt32) &&& (1431655765 : Int32))) &&& (858993459 : Int32)) + (((Int32.toUInt32 ((i0 - (((Int32.toUInt32 (i0) >>> (Int32.toUInt32 ((1 : Int32)) &&& Int32.toUInt32 31)).toInt32) &&& (1431655765 : Int32)))) >>> (Int32.toUInt32 ((2 : Int32)) &&& Int32.toUInt32 31)).toInt32) &&& (858993459 : Int32))) + ((Int32.toUInt32 ((((i0 - (((Int32.toUInt32 (i0) >>> (Int32.toUInt32 ((1 : Int32)) &&& Int32.toUInt32 31)).toInt32) &&& (1431655765 : Int32))) &&& (858993459 : Int32)) + (((Int32.toUInt32 ((i0 - (((Int32.toUInt32 (i0) >>> (Int32.toUInt32 ((1 : Int32)) &&& Int32.toUInt32 31)).toInt32) &&& (1431655765 : Int32)))) >>> (Int32.toUInt32 ((2 : Int32)) &&& Int32.toUInt32 31)).toInt32) &&& (858993459 : Int32)))) >>> (Int32.toUInt32 ((4 : Int32)) &&& Int32.toUInt32 31)).toInt32)) &&& (252645135 : Int32))) >>> (Int32.toUInt32 ((8 : Int32)) &&& Int32.toUInt32 31)).toInt32))) >>> (Int32.toUInt32 ((16 : Int32)) &&& Int32.toUInt32 31)).toInt32)) &&& (63 : Int32)))
theorem CJ6_bitCount_0f7a4 {n : Nat} {S : gS} {R : gS × Int32} {i0 : Int32}  (h : FJ6_bitCount_0f7a4 S i0 = some R) : sCi 0 mJ6_bitCount_0f7a4 n S [.int (i0)] (fun S2 x2 => S2 = R.1 ∧ x2 = R.2) := by
  unfold FJ6_bitCount_0f7a4 at h
  refine gCj_of (by decide) (Nat.le_of_ble_eq_true rfl) rfl rfl (zJ6_bitCount_0f7a4_0  ?_)
  cases h; exact ⟨rfl, rfl⟩

noncomputable def FJ0_length_8abf5 (S : gS) (t0 : UInt32) : Option (gS × Int32) := g_b2 (FJ0_coder_7d493 S (t0)) (fun S1 x2 => some (S1, ((Int32.ofNat (g_by t0).length) >>> (x2 &&& 31))))
theorem CJ0_length_8abf5 {n : Nat} {S : gS} {R : gS × Int32} {t0 : UInt32} (ht0 : (t0).toNat < 45) (h : FJ0_length_8abf5 S t0 = some R) : sCi 1 mJ0_length_8abf5 n S [.float (t0)] (fun S2 x2 => S2 = R.1 ∧ x2 = R.2) := by
  unfold FJ0_length_8abf5 at h
  refine gCj_of (by decide) (Nat.le_of_ble_eq_true rfl) rfl rfl (zJ0_length_8abf5_0 ht0 ?_)
  obtain ⟨S1, x2, hc, h⟩ := g_b2s h
  refine ⟨0, _, (by decide), CJ0_coder_7d493 ht0 hc, ?_⟩
  rintro _ _ ⟨rfl, rfl⟩
  cases h; exact ⟨rfl, rfl⟩

noncomputable def FJ0_checkIndex_df160 (S : gS) (i0 : Int32) (i1 : Int32) : Option (gS) := g_b2 (FJ3_checkIndex_8e157 S (i0) (i1) (200)) (fun S1 x2 => some S1)
theorem CJ0_checkIndex_df160 {n : Nat} {S : gS} {R : gS} {i0 : Int32} {i1 : Int32}  (h : FJ0_checkIndex_df160 S i0 i1 = some R) : sCv 1 mJ0_checkIndex_df160 n S [.int (i0), .int (i1)] (fun S2 => S2 = R) := by
  unfold FJ0_checkIndex_df160 at h
  refine gCv_of (by decide) (Nat.le_of_ble_eq_true rfl) rfl rfl (zJ0_checkIndex_df160_0  ?_)
  obtain ⟨S1, x2, hc, h⟩ := g_b2s h
  refine ⟨0, _, (by decide), CJ3_checkIndex_8e157  hc, ?_⟩
  rintro _ _ ⟨rfl, rfl⟩
  cases h; exact rfl

noncomputable def FJ1_charAt_3b067 (S : gS) (u0 : UInt32) (t0 : UInt32) (i1 : Int32) : Option (gS × Int32) := g_b1 (FJ0_checkIndex_df160 S (i1) ((Int32.ofNat (g_by t0).length))) (fun S1 => if g_vp (i1) (g_by t0).length = true then (if narrow .char (.int ((Int32.toUInt32 ((((g_by t0).getD (Int32.toNatClampNeg (i1)) 0) &&& (255 : Int32))) % 65536).toInt32)) = .int ((Int32.toUInt32 ((((g_by t0).getD (Int32.toNatClampNeg (i1)) 0) &&& (255 : Int32))) % 65536).toInt32) then some (S1, (Int32.toUInt32 ((((g_by t0).getD (Int32.toNatClampNeg (i1)) 0) &&& (255 : Int32))) % 65536).toInt32) else none) else none)
theorem CJ1_charAt_3b067 {n : Nat} {S : gS} {R : gS × Int32} {u0 : UInt32} {t0 : UInt32} {i1 : Int32} (hu0 : (u0).toNat = 100 + (t0).toNat) (ht0 : (t0).toNat < 45) (h : FJ1_charAt_3b067 S u0 t0 i1 = some R) : sCi 2 mJ1_charAt_3b067 n S [.float (u0), .int (i1)] (fun S2 x2 => S2 = R.1 ∧ x2 = R.2) := by
  unfold FJ1_charAt_3b067 at h
  refine gCt_of (by decide) (Nat.le_of_ble_eq_true rfl) rfl rfl (zJ1_charAt_3b067_0 hu0 ht0 ?_)
  obtain ⟨S1, hc, h⟩ := g_b1s h
  refine ⟨1, _, (by decide), CJ0_checkIndex_df160  hc, ?_⟩
  rintro _ rfl
  obtain ⟨hi, h⟩ := g_vs h
  refine ⟨hi, ?_⟩
  obtain ⟨h1, h⟩ := g_ns h
  cases h; exact ⟨h1, rfl, rfl⟩

noncomputable def FJ1_indexOf_4cfef (S : gS) (u0 : UInt32) (t0 : UInt32) (i1 : Int32) (i2 : Int32) (i3 : Int32) : Option (gS × Int32) := g_b2 (FJ1_canEncode_9a6ad S (i1)) (fun S1 b2 => if b2 = true then (if (if i2 < (0 : Int32) then (0 : Int32) else i2) < (if (Int32.ofNat (g_by t0).length) < i3 then (Int32.ofNat (g_by t0).length) else i3) then (g_b2 (FJ1_indexOfChar_4cfef S1 (u0) (t0) (i1) ((if i2 < (0 : Int32) then (0 : Int32) else i2)) ((if (Int32.ofNat (g_by t0).length) < i3 then (Int32.ofNat (g_by t0).length) else i3))) (fun S3 x4 => some (S3, x4))) else (some (S1, (-1 : Int32)))) else (some (S1, (-1 : Int32))))
theorem CJ1_indexOf_4cfef {n : Nat} {S : gS} {R : gS × Int32} {u0 : UInt32} {t0 : UInt32} {i1 : Int32} {i2 : Int32} {i3 : Int32} (hu0 : (u0).toNat = 100 + (t0).toNat) (ht0 : (t0).toNat < 45) (h : FJ1_indexOf_4cfef S u0 t0 i1 i2 i3 = some R) : sCi 1 mJ1_indexOf_4cfef n S [.float (u0), .int (i1), .int (i2), .int (i3)] (fun S2 x2 => S2 = R.1 ∧ x2 = R.2) := by
  unfold FJ1_indexOf_4cfef at h
  refine gCj_of (by decide) (Nat.le_of_ble_eq_true rfl) rfl rfl (zJ1_indexOf_4cfef_0 hu0 ht0 (by decide) ?_)
  obtain ⟨S1, b2, hc, h⟩ := g_b2s h
  refine ⟨0, _, (by decide), CJ1_canEncode_9a6ad  hc, ?_⟩
  rintro _ _ ⟨rfl, rfl⟩
  refine ⟨fun c => ?_, fun c => ?_⟩
  · have h := g_bt c h
    refine ⟨fun c => ?_, fun c => ?_⟩
    · have h := g_ip c h
      obtain ⟨S3, x4, hc, h⟩ := g_b2s h
      refine ⟨0, _, (by decide), CJ1_indexOfChar_4cfef hu0 ht0 hc, ?_⟩
      rintro _ _ ⟨rfl, rfl⟩
      cases h; exact ⟨rfl, rfl⟩
    · have h := g_in c h
      cases h; exact ⟨rfl, rfl⟩
  · have h := g_bf c h
    cases h; exact ⟨rfl, rfl⟩

noncomputable def FJ0_charAt_5068e (S : gS) (t0 : UInt32) (i1 : Int32) : Option (gS × Int32) := g_b2 (FJ0_isLatin1_aae02 S (t0)) (fun S1 b2 => if b2 = true then (g_b2 (FJ1_charAt_3b067 S1 ((100 + t0)) (t0) (i1)) (fun S3 x4 => if narrow .char (.int (x4)) = .int (x4) then some (S3, x4) else none)) else ((none : Option (gS × Int32))))
theorem CJ0_charAt_5068e {n : Nat} {S : gS} {R : gS × Int32} {t0 : UInt32} {i1 : Int32} (ht0 : (t0).toNat < 45) (h : FJ0_charAt_5068e S t0 i1 = some R) : sCi 3 mJ0_charAt_5068e n S [.float (t0), .int (i1)] (fun S2 x2 => S2 = R.1 ∧ x2 = R.2) := by
  unfold FJ0_charAt_5068e at h
  refine gCt_of (by decide) (Nat.le_of_ble_eq_true rfl) rfl rfl (zJ0_charAt_5068e_0 ht0 ?_)
  obtain ⟨S1, b2, hc, h⟩ := g_b2s h
  refine ⟨0, _, (by decide), CJ0_isLatin1_aae02 ht0 hc, ?_⟩
  rintro _ _ ⟨rfl, rfl⟩
  refine ⟨fun c => ?_, fun c => ?_⟩
  · have h := g_bf c h
    cases h
  · have h := g_bt c h
    obtain ⟨S3, x4, hc, h⟩ := g_b2s h
    refine ⟨2, _, (by decide), CJ1_charAt_3b067 (g_tu ht0) ht0 hc, ?_⟩
    rintro _ _ ⟨rfl, rfl⟩
    obtain ⟨h1, h⟩ := g_ns h
    cases h; exact ⟨h1, rfl, rfl⟩

noncomputable def FJ0_indexOf_7cf53 (S : gS) (t0 : UInt32) (i1 : Int32) (i2 : Int32) : Option (gS × Int32) := g_b2 (FJ0_isLatin1_aae02 S (t0)) (fun S1 b2 => if b2 = true then (g_b2 (FJ0_length_8abf5 S1 (t0)) (fun S5 x6 => g_b2 (FJ1_indexOf_4cfef S5 ((100 + t0)) (t0) (i1) (i2) (x6)) (fun S7 x8 => some (S7, x8)))) else (g_b2 (FJ0_length_8abf5 S1 (t0)) (fun S3 x4 => (none : Option (gS × Int32)))))
theorem CJ0_indexOf_7cf53 {n : Nat} {S : gS} {R : gS × Int32} {t0 : UInt32} {i1 : Int32} {i2 : Int32} (ht0 : (t0).toNat < 45) (h : FJ0_indexOf_7cf53 S t0 i1 i2 = some R) : sCi 2 mJ0_indexOf_7cf53 n S [.float (t0), .int (i1), .int (i2)] (fun S2 x2 => S2 = R.1 ∧ x2 = R.2) := by
  unfold FJ0_indexOf_7cf53 at h
  refine gCj_of (by decide) (Nat.le_of_ble_eq_true rfl) rfl rfl (zJ0_indexOf_7cf53_0 ht0 ?_)
  obtain ⟨S1, b2, hc, h⟩ := g_b2s h
  refine ⟨0, _, (by decide), CJ0_isLatin1_aae02 ht0 hc, ?_⟩
  rintro _ _ ⟨rfl, rfl⟩
  refine ⟨fun c => ?_, fun c => ?_⟩
  · have h := g_bf c h
    obtain ⟨S3, x4, hc, h⟩ := g_b2s h
    refine ⟨1, _, (by decide), CJ0_length_8abf5 ht0 hc, ?_⟩
    rintro _ _ ⟨rfl, rfl⟩
    cases h
  · have h := g_bt c h
    obtain ⟨S5, x6, hc, h⟩ := g_b2s h
    refine ⟨1, _, (by decide), CJ0_length_8abf5 ht0 hc, ?_⟩
    rintro _ _ ⟨rfl, rfl⟩
    obtain ⟨S7, x8, hc, h⟩ := g_b2s h
    refine ⟨1, _, (by decide), CJ1_indexOf_4cfef (g_tu ht0) ht0 hc, ?_⟩
    rintro _ _ ⟨rfl, rfl⟩
    cases h; exact ⟨rfl, rfl⟩

noncomputable def FJ0_indexOf_0f7a4 (S : gS) (t0 : UInt32) (i1 : Int32) : Option (gS × Int32) := g_b2 (FJ0_indexOf_7cf53 S (t0) (i1) ((0 : Int32))) (fun S1 x2 => some (S1, x2))
theorem CJ0_indexOf_0f7a4 {n : Nat} {S : gS} {R : gS × Int32} {t0 : UInt32} {i1 : Int32} (ht0 : (t0).toNat < 45) (h : FJ0_indexOf_0f7a4 S t0 i1 = some R) : sCi 3 mJ0_indexOf_0f7a4 n S [.float (t0), .int (i1)] (fun S2 x2 => S2 = R.1 ∧ x2 = R.2) := by
  unfold FJ0_indexOf_0f7a4 at h
  refine gCj_of (by decide) (Nat.le_of_ble_eq_true rfl) rfl rfl (zJ0_indexOf_0f7a4_0 ht0 ?_)
  obtain ⟨S1, x2, hc, h⟩ := g_b2s h
  refine ⟨2, _, (by decide), CJ0_indexOf_7cf53 ht0 hc, ?_⟩
  rintro _ _ ⟨rfl, rfl⟩
  cases h; exact ⟨rfl, rfl⟩
