theorem zJ0_length_8abf5_0 {d n : Nat} {S : gS} {P : gS → Int32 → Prop} {t0 : UInt32} (ht0 : (t0).toNat < 45) (h : s_ci d mJ0_coder_7d493 n S [.float (t0)] (fun S1 x2 => P S1 (((Int32.ofNat (g_by t0).length) >>> (x2 &&& 31))))) : gG d mJ0_length_8abf5 0 0 (g_Xj mJ0_length_8abf5 n 0 0 (hPi P)) 0 n (hH S) [some (.float (t0))] [] 0 0 := by
  refine kJ0_length_8abf5_0 ht0 ?_
  obtain ⟨d2, P2, hdd, hC, h⟩ := h
  refine ⟨d2, _, hdd, hC, fun H9 x2 hp => ?_⟩
  obtain ⟨S1, rfl, hp⟩ := hp
  have h := h S1 x2 hp
  exact ⟨_, rfl, h⟩

theorem zJ0_coder_7d493_0 {d n : Nat} {S : gS} {P : gS → Int32 → Prop} {t0 : UInt32} (ht0 : (t0).toNat < 45) (h : narrow .byte (.int ((0 : Int32))) = .int ((0 : Int32)) ∧ P S ((0 : Int32))) : gG d mJ0_coder_7d493 0 0 (g_Xt mJ0_coder_7d493 n 0 0 (hPi P)) 0 n (hH S) [some (.float (t0))] [] 0 0 := by
  refine kJ0_coder_7d493_0 ht0 ?_
  exact ⟨h.1, _, rfl, h.2⟩

theorem zJ0_isLatin1_aae02_0 {d n : Nat} {S : gS} {P : gS → Bool → Prop} {t0 : UInt32} (ht0 : (t0).toNat < 45) (h : P S true) : gG d mJ0_isLatin1_aae02 0 0 (g_Xz mJ0_isLatin1_aae02 n 0 0 (hPz P)) 0 n (hH S) [some (.float (t0))] [] 0 0 := by
  refine kJ0_isLatin1_aae02_0 ht0 ?_
  exact ⟨_, rfl, h⟩

theorem zJ0_charAt_5068e_0 {d n : Nat} {S : gS} {P : gS → Int32 → Prop} {t0 : UInt32} {i1 : Int32} (ht0 : (t0).toNat < 45) (h : s_cz d mJ0_isLatin1_aae02 n S [.float (t0)] (fun S1 b2 => (b2 = false → s_ci d mJ2_charAt_3b067 n S1 [.float ((100 + t0)), .int (i1)] (fun S3 x4 => narrow .char (.int (x4)) = .int (x4) ∧ P S3 (x4))) ∧ (b2 = true → s_ci d mJ1_charAt_3b067 n S1 [.float ((100 + t0)), .int (i1)] (fun S5 x6 => narrow .char (.int (x6)) = .int (x6) ∧ P S5 (x6))))) : gG d mJ0_charAt_5068e 0 0 (g_Xt mJ0_charAt_5068e n 0 0 (hPi P)) 0 n (hH S) [some (.float (t0)), some (.int (i1))] [] 0 0 := by
  refine kJ0_charAt_5068e_0 ht0 ?_
  obtain ⟨d2, P2, hdd, hC, h⟩ := h
  refine ⟨d2, _, hdd, hC, fun H9 b2 hp => ?_⟩
  obtain ⟨S1, rfl, hp⟩ := hp
  have h := h S1 b2 hp
  refine ⟨fun c => ?_, fun c => ?_⟩
  · have h := h.1 c
    obtain ⟨d2, P2, hdd, hC, h⟩ := h
    refine ⟨d2, _, hdd, hC, fun H9 x4 hp => ?_⟩
    obtain ⟨S3, rfl, hp⟩ := hp
    have h := h S3 x4 hp
    exact ⟨h.1, _, rfl, h.2⟩
  · have h := h.2 c
    obtain ⟨d2, P2, hdd, hC, h⟩ := h
    refine ⟨d2, _, hdd, hC, fun H9 x6 hp => ?_⟩
    obtain ⟨S5, rfl, hp⟩ := hp
    have h := h S5 x6 hp
    exact ⟨h.1, _, rfl, h.2⟩

theorem zJ0_checkIndex_df160_0 {d n : Nat} {S : gS} {P : gS → Prop} {i0 : Int32} {i1 : Int32}  (h : s_ci d mJ3_checkIndex_8e157 n S [.int (i0), .int (i1), .float (200)] (fun S1 x2 => P S1)) : gG d mJ0_checkIndex_df160 0 0 (g_Xv mJ0_checkIndex_df160 n 0 0 (hPv P)) 0 n (hH S) [some (.int (i0)), some (.int (i1))] [] 0 0 := by
  refine kJ0_checkIndex_df160_0  ?_
  obtain ⟨d2, P2, hdd, hC, h⟩ := h
  refine ⟨d2, _, hdd, hC, fun H9 x2 hp => ?_⟩
  obtain ⟨S1, rfl, hp⟩ := hp
  have h := h S1 x2 hp
  exact ⟨_, rfl, h⟩

theorem zJ1_charAt_3b067_0 {d n : Nat} {S : gS} {P : gS → Int32 → Prop} {u0 : UInt32} {t0 : UInt32} {i1 : Int32} (hu0 : (u0).toNat = 100 + (t0).toNat) (ht0 : (t0).toNat < 45) (h : s_cv d mJ0_checkIndex_df160 n S [.int (i1), .int ((Int32.ofNat (g_by t0).length))] (fun S1 => vp_in (i1) (g_by t0).length ∧ (narrow .char (.int ((Int32.toUInt32 ((((g_by t0).getD (Int32.toNatClampNeg (i1)) 0) &&& (255 : Int32))) % 65536).toInt32)) = .int ((Int32.toUInt32 ((((g_by t0).getD (Int32.toNatClampNeg (i1)) 0) &&& (255 : Int32))) % 65536).toInt32) ∧ P S1 ((Int32.toUInt32 ((((g_by t0).getD (Int32.toNatClampNeg (i1)) 0) &&& (255 : Int32))) % 65536).toInt32)))) : gG d mJ1_charAt_3b067 0 0 (g_Xt mJ1_charAt_3b067 n 0 0 (hPi P)) 0 n (hH S) [some (.float (u0)), some (.int (i1))] [] 0 0 := by
  refine kJ1_charAt_3b067_0 hu0 ht0 ?_
  obtain ⟨d2, P2, hdd, hC, h⟩ := h
  refine ⟨d2, _, hdd, hC, fun H9 hp => ?_⟩
  obtain ⟨S1, rfl, hp⟩ := hp
  have h := h S1 hp
  refine ⟨h.1, ?_⟩
  have h := h.2
  exact ⟨h.1, _, rfl, h.2⟩

theorem zJ3_checkIndex_8e157_0 {d n : Nat} {S : gS} {P : gS → Int32 → Prop} {i0 : Int32} {i1 : Int32} {w2 : UInt32}  (h : (i0 < 0 → False) ∧ (¬ (i0 < 0) → (i0 < i1 → P S (i0)) ∧ (¬ (i0 < i1) → False))) : gG d mJ3_checkIndex_8e157 0 0 (g_Xj mJ3_checkIndex_8e157 n 0 0 (hPi P)) 0 n (hH S) [some (.int (i0)), some (.int (i1)), some (.float (w2))] [] 0 0 := by
  refine kJ3_checkIndex_8e157_0  ?_
  refine ⟨fun c => ?_, fun c => ?_⟩
  · have h := h.1 c
    exact h.elim
  · have h := h.2 c
    refine ⟨fun c => ?_, fun c => ?_⟩
    · have h := h.1 c
      exact ⟨_, rfl, h⟩
    · have h := h.2 c
      exact h.elim

theorem zJ0_indexOf_0f7a4_0 {d n : Nat} {S : gS} {P : gS → Int32 → Prop} {t0 : UInt32} {i1 : Int32} (ht0 : (t0).toNat < 45) (h : s_ci d mJ0_indexOf_7cf53 n S [.float (t0), .int (i1), .int ((0 : Int32))] (fun S1 x2 => P S1 (x2))) : gG d mJ0_indexOf_0f7a4 0 0 (g_Xj mJ0_indexOf_0f7a4 n 0 0 (hPi P)) 0 n (hH S) [some (.float (t0)), some (.int (i1))] [] 0 0 := by
  refine kJ0_indexOf_0f7a4_0 ht0 ?_
  obtain ⟨d2, P2, hdd, hC, h⟩ := h
  refine ⟨d2, _, hdd, hC, fun H9 x2 hp => ?_⟩
  obtain ⟨S1, rfl, hp⟩ := hp
  have h := h S1 x2 hp
  exact ⟨_, rfl, h⟩

theorem zJ0_indexOf_7cf53_0 {d n : Nat} {S : gS} {P : gS → Int32 → Prop} {t0 : UInt32} {i1 : Int32} {i2 : Int32} (ht0 : (t0).toNat < 45) (h : s_cz d mJ0_isLatin1_aae02 n S [.float (t0)] (fun S1 b2 => (b2 = false → s_ci d mJ0_length_8abf5 n S1 [.float (t0)] (fun S3 x4 => s_ci d mJ2_indexOf_4cfef n S3 [.float ((100 + t0)), .int (i1), .int (i2), .int (x4)] (fun S5 x6 => P S5 (x6)))) ∧ (b2 = true → s_ci d mJ0_length_8abf5 n S1 [.float (t0)] (fun S7 x8 => s_ci d mJ1_indexOf_4cfef n S7 [.float ((100 + t0)), .int (i1), .int (i2), .int (x8)] (fun S9 x10 => P S9 (x10)))))) : gG d mJ0_indexOf_7cf53 0 0 (g_Xj mJ0_indexOf_7cf53 n 0 0 (hPi P)) 0 n (hH S) [some (.float (t0)), some (.int (i1)), some (.int (i2))] [] 0 0 := by
  refine kJ0_indexOf_7cf53_0 ht0 ?_
  obtain ⟨d2, P2, hdd, hC, h⟩ := h
  refine ⟨d2, _, hdd, hC, fun H9 b2 hp => ?_⟩
  obtain ⟨S1, rfl, hp⟩ := hp
  have h := h S1 b2 hp
  refine ⟨fun c => ?_, fun c => ?_⟩
  · have h := h.1 c
    obtain ⟨d2, P2, hdd, hC, h⟩ := h
    refine ⟨d2, _, hdd, hC, fun H9 x4 hp => ?_⟩
    obtain ⟨S3, rfl, hp⟩ := hp
    have h := h S3 x4 hp
    obtain ⟨d2, P2, hdd, hC, h⟩ := h
    refine ⟨d2, _, hdd, hC, fun H9 x6 hp => ?_⟩
    obtain ⟨S5, rfl, hp⟩ := hp
    have h := h S5 x6 hp
    exact ⟨_, rfl, h⟩
  · have h := h.2 c
    obtain ⟨d2, P2, hdd, hC, h⟩ := h
    refine ⟨d2, _, hdd, hC, fun H9 x8 hp => ?_⟩
    obtain ⟨S7, rfl, hp⟩ := hp
    have h := h S7 x8 hp
    obtain ⟨d2, P2, hdd, hC, h⟩ := h
    refine ⟨d2, _, hdd, hC, fun H9 x10 hp => ?_⟩
    obtain ⟨S9, rfl, hp⟩ := hp
    have h := h S9 x10 hp
    exact ⟨_, rfl, h⟩

theorem zJ1_canEncode_9a6ad_0 {d n : Nat} {S : gS} {P : gS → Bool → Prop} {i0 : Int32}  (h : (i0 < 0 → P S false) ∧ (¬ (i0 < 0) → ((255 : Int32) < i0 → P S false) ∧ (¬ ((255 : Int32) < i0) → P S true))) : gG d mJ1_canEncode_9a6ad 0 0 (g_Xz mJ1_canEncode_9a6ad n 0 0 (hPz P)) 0 n (hH S) [some (.int (i0))] [] 0 0 := by
  refine kJ1_canEncode_9a6ad_0  ?_
  refine ⟨fun c => ?_, fun c => ?_⟩
  · have h := h.1 c
    exact ⟨_, rfl, h⟩
  · have h := h.2 c
    refine ⟨fun c => ?_, fun c => ?_⟩
    · have h := h.1 c
      exact ⟨_, rfl, h⟩
    · have h := h.2 c
      exact ⟨_, rfl, h⟩

theorem zJ1_indexOf_4cfef_0 {d n : Nat} {S : gS} {P : gS → Int32 → Prop} {u0 : UInt32} {t0 : UInt32} {i1 : Int32} {i2 : Int32} {i3 : Int32} (hu0 : (u0).toNat = 100 + (t0).toNat) (ht0 : (t0).toNat < 45) (hd1 : 1 ≤ d) (h : s_cz d mJ1_canEncode_9a6ad n S [.int (i1)] (fun S1 b2 => (b2 = true → ((if i2 < (0 : Int32) then (0 : Int32) else i2) < (if (Int32.ofNat (g_by t0).length) < i3 then (Int32.ofNat (g_by t0).length) else i3) → s_ci d mJ1_indexOfChar_4cfef n S1 [.float (u0), .int (i1), .int ((if i2 < (0 : Int32) then (0 : Int32) else i2)), .int ((if (Int32.ofNat (g_by t0).length) < i3 then (Int32.ofNat (g_by t0).length) else i3))] (fun S3 x4 => P S3 (x4))) ∧ (¬ ((if i2 < (0 : Int32) then (0 : Int32) else i2) < (if (Int32.ofNat (g_by t0).length) < i3 then (Int32.ofNat (g_by t0).length) else i3)) → P S1 ((-1 : Int32)))) ∧ (b2 = false → P S1 ((-1 : Int32))))) : gG d mJ1_indexOf_4cfef 0 0 (g_Xj mJ1_indexOf_4cfef n 0 0 (hPi P)) 0 n (hH S) [some (.float (u0)), some (.int (i1)), some (.int (i2)), some (.int (i3))] [] 0 0 := by
  refine kJ1_indexOf_4cfef_0 hu0 ht0 hd1 ?_
  obtain ⟨d2, P2, hdd, hC, h⟩ := h
  refine ⟨d2, _, hdd, hC, fun H9 b2 hp => ?_⟩
  obtain ⟨S1, rfl, hp⟩ := hp
  have h := h S1 b2 hp
  refine ⟨fun c => ?_, fun c => ?_⟩
  · have h := h.1 c
    refine ⟨fun c => ?_, fun c => ?_⟩
    · have h := h.1 c
      obtain ⟨d2, P2, hdd, hC, h⟩ := h
      refine ⟨d2, _, hdd, hC, fun H9 x4 hp => ?_⟩
      obtain ⟨S3, rfl, hp⟩ := hp
      have h := h S3 x4 hp
      exact ⟨_, rfl, h⟩
    · have h := h.2 c
      exact ⟨_, rfl, h⟩
  · have h := h.2 c
    exact ⟨_, rfl, h⟩

theorem zJ1_indexOfChar_4cfef_0 {d n : Nat} {S : gS} {P : gS → Int32 → Prop} {u0 : UInt32} {t0 : UInt32} {i1 : Int32} {i2 : Int32} {i3 : Int32} (hu0 : (u0).toNat = 100 + (t0).toNat) (ht0 : (t0).toNat < 45) (h : gG d mJ1_indexOfChar_4cfef 0 0 (g_Xj mJ1_indexOfChar_4cfef n 0 0 (hPi P)) 7 n (hH S) [some (.float (u0)), none, none, some (.int (i3)), some (.int ((Int8.toInt32 (Int32.toInt8 (i1))))), some (.int (i2))] [] 0 0) : gG d mJ1_indexOfChar_4cfef 0 0 (g_Xj mJ1_indexOfChar_4cfef n 0 0 (hPi P)) 0 n (hH S) [some (.float (u0)), some (.int (i1)), some (.int (i2)), some (.int (i3)), none, none] [] 0 0 := by
  refine kJ1_indexOfChar_4cfef_0 hu0 ht0 ?_
  exact h
theorem zJ1_indexOfChar_4cfef_7 {d n : Nat} {S : gS} {P : gS → Int32 → Prop} {u0 : UInt32} {t0 : UInt32} {i3 : Int32} {i4 : Int32} {i5 : Int32} (hu0 : (u0).toNat = 100 + (t0).toNat) (ht0 : (t0).toNat < 45) (h : (i3 ≤ i5 → P S ((-1 : Int32))) ∧ (¬ (i3 ≤ i5) → vp_in (i5) (g_by t0).length ∧ ((¬ (((g_by t0).getD (Int32.toNatClampNeg (i5)) 0) = i4) → gG d mJ1_indexOfChar_4cfef 0 0 (g_Xj mJ1_indexOfChar_4cfef n 0 0 (hPi P)) 7 n (hH S) [some (.float (u0)), none, none, some (.int (i3)), some (.int (i4)), some (.int ((i5 + 1)))] [] 0 0) ∧ (((g_by t0).getD (Int32.toNatClampNeg (i5)) 0) = i4 → P S (i5))))) : gG d mJ1_indexOfChar_4cfef 0 0 (g_Xj mJ1_indexOfChar_4cfef n 0 0 (hPi P)) 7 n (hH S) [some (.float (u0)), none, none, some (.int (i3)), some (.int (i4)), some (.int (i5))] [] 0 0 := by
  refine kJ1_indexOfChar_4cfef_7 hu0 ht0 ?_
  refine ⟨fun c => ?_, fun c => ?_⟩
  · have h := h.1 c
    exact ⟨_, rfl, h⟩
  · have h := h.2 c
    refine ⟨h.1, ?_⟩
    have h := h.2
    refine ⟨fun c => ?_, fun c => ?_⟩
    · have h := h.1 c
      exact h
    · have h := h.2 c
      exact ⟨_, rfl, h⟩

theorem zJ6_bitCount_0f7a4_0 {d n : Nat} {S : gS} {P : gS → Int32 → Prop} {i0 : Int32}  (h : P S (((((((((i0 - (((Int32.toUInt32 (i0) >>> (Int32.toUInt32 ((1 : Int32)) &&& Int32.toUInt32 31)).toInt32) &&& (1431655765 : Int32))) &&& (858993459 : Int32)) + (((Int32.toUInt32 ((i0 - (((Int32.toUInt32 (i0) >>> (Int32.toUInt32 ((1 : Int32)) &&& Int32.toUInt32 31)).toInt32) &&& (1431655765 : Int32)))) >>> (Int32.toUInt32 ((2 : Int32)) &&& Int32.toUInt32 31)).toInt32) &&& (858993459 : Int32))) + ((Int32.toUInt32 ((((i0 - (((Int32.toUInt32 (i0) >>> (Int32.toUInt32 ((1 : Int32)) &&& Int32.toUInt32 31)).toInt32) &&& (1431655765 : Int32))) &&& (858993459 : Int32)) + (((Int32.toUInt32 ((i0 - (((Int32.toUInt32 (i0) >>> (Int32.toUInt32 ((1 : Int32)) &&& Int32.toUInt32 31)).toInt32) &&& (1431655765 : Int32)))) >>> (Int32.toUInt32 ((2 : Int32)) &&& Int32.toUInt32 31)).toInt32) &&& (858993459 : Int32)))) >>> (Int32.toUInt32 ((4 : Int32)) &&& Int32.toUInt32 31)).toInt32)) &&& (252645135 : Int32)) + ((Int32.toUInt32 ((((((i0 - (((Int32.toUInt32 (i0) >>> (Int32.toUInt32 ((1 : Int32)) &&& Int32.toUInt32 31)).toInt32) &&& (1431655765 : Int32))) &&& (858993459 : Int32)) + (((Int32.toUInt32 ((i0 - (((Int32.toUInt32 (i0) >>> (Int32.toUInt32 ((1 : Int32)) &&& Int32.toUInt32 31)).toInt32) &&& (1431655765 : Int32)))) >>> (Int32.toUInt32 ((2 : Int32)) &&& Int32.toUInt32 31)).toInt32) &&& (858993459 : Int32))) + ((Int32.toUInt32 ((((i0 - (((Int32.toUInt32 (i0) >>> (Int32.toUInt32 ((1 : Int32)) &&& Int32.toUInt32 31)).toInt32) &&& (1431655765 : Int32))) &&& (858993459 : Int32)) + (((Int32.toUInt32 ((i0 - (((Int32.toUInt32 (i0) >>> (Int32.toUInt32 ((1 : Int32)) &&& Int32.toUInt32 31)).toInt32) &&& (1431655765 : Int32)))) >>> (Int32.toUInt32 ((2 : Int32)) &&& Int32.toUInt32 31)).toInt32) &&& (858993459 : Int32)))) >>> (Int32.toUInt32 ((4 : Int32)) &&& Int32.toUInt32 31)).toInt32)) &&& (252645135 : Int32))) >>> (Int32.toUInt32 ((8 : Int32)) &&& Int32.toUInt32 31)).toInt32)) + ((Int32.toUInt32 (((((((i0 - (((Int32.toUInt32 (i0) >>> (Int32.toUInt32 ((1 : Int32)) &&& Int32.toUInt32 31)).toInt32) &&& (1431655765 : Int32))) &&& (858993459 : Int32)) + (((Int32.toUInt32 ((i0 - (((Int32.toUInt32 (i0) >>> (Int32.toUInt32 ((1 : Int32)) &&& Int32.toUInt32 31)).toInt32) &&& (1431655765 : Int32)))) >>> (Int32.toUInt32 ((2 : Int32)) &&& Int32.toUInt32 31)).toInt32) &&& (858993459 : Int32))) + ((Int32.toUInt32 ((((i0 - (((Int32.toUInt32 (i0) >>> (Int32.toUInt32 ((1 : Int32)) &&& Int32.toUInt32 31)).toInt32) &&& (1431655765 : Int32))) &&& (858993459 : Int32)) + (((Int32.toUInt32 ((i0 - (((Int32.toUInt32 (i0) >>> (Int32.toUInt32 ((1 : Int32)) &&& Int32.toUInt32 31)).toInt32) &&& (1431655765 : Int32)))) >>> (Int32.toUInt32 ((2 : Int32)) &&& Int32.toUInt32 31)).toInt32) &&& (858993459 : Int32)))) >>> (Int32.toUInt32 ((4 : Int32)) &&& Int32.toUInt32 31)).toInt32)) &&& (252645135 : Int32)) + ((Int32.toUInt32 ((((((i0 - (((Int32.toUInt32 (i0) >>> (Int32.toUInt32 ((1 : Int32)) &&& Int32.toUInt32 31)).toInt32) &&& (1431655765 : Int32))) &&& (858993459 : Int32)) + (((Int32.toUInt32 ((i0 - (((Int32.toUInt32 (i0) >>> (Int32.toUInt32 ((1 : Int32)) &&& Int32.toUInt32 31)).toInt32) &&& (1431655765 : Int32)))) >>> (Int32.toUInt32 ((2 : Int32)) &&& Int32.toUInt32 31)).toInt32) &&& (858993459 : Int32))) + ((Int32.toUInt32 ((((i0 - (((Int32.toUInt32 (i0) >>> (Int32.toUInt32 ((1 : Int32)) &&& Int32.toUInt32 31)).toInt32) &&& (1431655765 : Int32))) &&& (858993459 : Int32)) + (((Int32.toUInt32 ((i0 - (((Int32.toUInt32 (i0) >>> (Int32.toUInt32 ((1 : Int32)) &&& Int32.toUInt32 31)).toInt32) &&& (1431655765 : Int32)))) >>> (Int32.toUInt32 ((2 : Int32)) &&& Int32.toUInt32 31)).toInt32) &&& (858993459 : Int32)))) >>> (Int32.toUInt32 ((4 : Int32)) &&& Int32.toUInt32 31)).toInt32)) &&& (252645135 : Int32))) >>> (Int32.toUInt32 ((8 : Int32)) &&& Int32.toUInt32 31)).toInt32))) >>> (Int32.toUInt32 ((16 : Int32)) &&& Int32.toUInt32 31)).toInt32)) &&& (63 : Int32)))) : gG d mJ6_bitCount_0f7a4 0 0 (g_Xj mJ6_bitCount_0f7a4 n 0 0 (hPi P)) 0 n (hH S) [some (.int (i0))] [] 0 0 := by
  refine kJ6_bitCount_0f7a4_0  ?_
  exact ⟨_, rfl, h⟩
