theorem kX12_thrown_0 {d n : Nat} {H : gHp} {P : gHp → Int32 → Prop} {a0 : Nat} (h : g_gi H (a0) 12 0 (fun x1 => P H (x1))) : gG d mX12_thrown 0 0 (g_Xj mX12_thrown n 0 0 P) 0 n H [some (.ref (a0))] [] 0 0 := by
  refine gG_aload_n dX12_thrown_0 rfl rfl ?_
  obtain ⟨fs, x1, e1, e2, h⟩ := h
  refine gG_gi dX12_thrown_1 fl_X12_147 ⟨fs, x1, e1, e2, ?_⟩
  exact gG_exit ⟨rfl, rfl, rfl, dX12_thrown_4, _, rfl, h⟩

theorem kX12_within_0 {d n : Nat} {H : gHp} {P : gHp → Bool → Prop} {i0 : Int32} {i1 : Int32} {i2 : Int32} (h : (i0 < i1 → P H false) ∧ (¬ (i0 < i1) → (i2 < i0 → P H false) ∧ (¬ (i2 < i0) → P H true))) : gG d mX12_within 0 0 (g_Xz mX12_within n 0 0 P) 0 n H [some (.int (i0)), some (.int (i1)), some (.int (i2))] [] 0 0 := by
  refine gG_iload_n dX12_within_0 rfl rfl ?_
  refine gG_iload_n dX12_within_1 rfl rfl ?_
  refine gG_ic_lt (tgt := 14) dX12_within_2 (by decide) (fun c => ?_) (fun c => ?_)
  · have h := h.1 c
    refine gG_iconst (v := 0) dX12_within_14 (by decide) ?_
    exact gG_exit ⟨rfl, rfl, rfl, dX12_within_15, false, rfl, h⟩
  · have h := h.2 c
    refine gG_iload_n dX12_within_5 rfl rfl ?_
    refine gG_iload_n dX12_within_6 rfl rfl ?_
    refine gG_ic_gt (tgt := 14) dX12_within_7 (by decide) (fun c => ?_) (fun c => ?_)
    · have h := h.1 c
      refine gG_iconst (v := 0) dX12_within_14 (by decide) ?_
      exact gG_exit ⟨rfl, rfl, rfl, dX12_within_15, false, rfl, h⟩
    · have h := h.2 c
      refine gG_iconst (v := 1) dX12_within_10 (by decide) ?_
      refine gG_goto (tgt := 15) dX12_within_11 (by decide) ?_
      exact gG_exit ⟨rfl, rfl, rfl, dX12_within_15, true, rfl, h⟩

theorem kX12_bits_0 {d n : Nat} {H : gHp} {P : gHp → Int32 → Prop} {i0 : Int32} (h : gG d mX12_bits 0 0 (g_Xj mX12_bits n 0 0 P) 4 n H [some (.int (i0)), some (.int ((0 : Int32))), some (.int ((0 : Int32)))] [] (0) (0)) : gG d mX12_bits 0 0 (g_Xj mX12_bits n 0 0 P) 0 n H [some (.int (i0)), none, none] [] 0 0 := by
  refine gG_iconst (v := 0) dX12_bits_0 (by decide) ?_
  refine gG_istore_n dX12_bits_1 rfl (Nat.le_of_ble_eq_true rfl) ?_
  refine gG_iconst (v := 0) dX12_bits_2 (by decide) ?_
  refine gG_istore_n dX12_bits_3 rfl (Nat.le_of_ble_eq_true rfl) ?_
  refine gG_locals ?_ h
  exact ⟨rfl, ⟨rfl, ⟨rfl, trivial⟩⟩⟩
theorem kX12_bits_4 {d n : Nat} {H : gHp} {P : gHp → Int32 → Prop} {i0 : Int32} {i1 : Int32} {i2 : Int32} (h : ((10 : Int32) ≤ i2 → P H (i1)) ∧ (¬ ((10 : Int32) ≤ i2) → gG d mX12_bits 0 0 (g_Xj mX12_bits n 0 0 P) 4 n H [some (.int (i0)), some (.int ((i1 + ((i0 >>> (i2 &&& 31)) &&& (1 : Int32))))), some (.int ((i2 + 1)))] [] (0) (0))) : gG d mX12_bits 0 0 (g_Xj mX12_bits n 0 0 P) 4 n H [some (.int (i0)), some (.int (i1)), some (.int (i2))] [] 0 0 := by
  refine gG_iload_n dX12_bits_4 rfl rfl ?_
  refine gG_bipush (v := 10) dX12_bits_5 (by decide) ?_
  refine gG_ic_ge (tgt := 24) dX12_bits_7 (by decide) (fun c => ?_) (fun c => ?_)
  · have h := h.1 c
    refine gG_iload_n dX12_bits_24 rfl rfl ?_
    exact gG_exit ⟨rfl, rfl, rfl, dX12_bits_25, _, rfl, h⟩
  · have h := h.2 c
    refine gG_iload_n dX12_bits_10 rfl rfl ?_
    refine gG_iload_n dX12_bits_11 rfl rfl ?_
    refine gG_iload_n dX12_bits_12 rfl rfl ?_
    refine gG_ishr dX12_bits_13 ?_
    refine gG_iconst (v := 1) dX12_bits_14 (by decide) ?_
    refine gG_iand dX12_bits_15 ?_
    refine gG_iadd dX12_bits_16 ?_
    refine gG_istore_n dX12_bits_17 rfl (Nat.le_of_ble_eq_true rfl) ?_
    refine gG_iinc (v := i2 + 1) dX12_bits_18 rfl rfl (Nat.le_of_ble_eq_true rfl) ?_
    refine gG_goto (tgt := 4) dX12_bits_21 (by decide) ?_
    refine gG_locals ?_ h
    exact ⟨rfl, ⟨rfl, ⟨rfl, trivial⟩⟩⟩

theorem kX12_feed_0 {d n : Nat} {H : gHp} {P : gHp → Int32 → Prop} {a0 : Nat} {j1 : Int64} {j3 : Int64} {j5 : Int64} (h : g_pf H (a0) 12 0 (.int ((0 : Int32))) (fun H1 => gG d mX12_feed 0 0 (g_Xj mX12_feed n 0 0 P) 8 n H1 [some (.ref (a0)), some (.long (j1)), none, some (.long (j3)), none, some (.long (j5)), none, some (.int ((0 : Int32))), none, none, none] [] (0) (0))) : gG d mX12_feed 0 0 (g_Xj mX12_feed n 0 0 P) 0 n H [some (.ref (a0)), some (.long (j1)), none, some (.long (j3)), none, some (.long (j5)), none, none, none, none, none] [] 0 0 := by
  refine gG_aload_n dX12_feed_0 rfl rfl ?_
  refine gG_iconst (v := 0) dX12_feed_1 (by decide) ?_
  obtain ⟨fs, e1, e2, h⟩ := h
  refine gG_pi dX12_feed_2 fl_X12_147 ⟨fs, e1, e2, ?_⟩
  obtain ⟨H1, eH⟩ : ∃ z, z = va_up H (a0) (.inr (12, fs.set 0 (.int ((0 : Int32))))) := ⟨_, rfl⟩
  rw [← eH] at h ⊢
  refine gG_iconst (v := 0) dX12_feed_5 (by decide) ?_
  refine gG_istore dX12_feed_6 (Nat.le_of_ble_eq_true rfl) ?_
  refine gG_locals ?_ h
  exact ⟨rfl, ⟨rfl, ⟨rfl, ⟨rfl, ⟨rfl, trivial⟩⟩⟩⟩⟩
theorem kX12_feed_8 {d n : Nat} {H : gHp} {P : gHp → Int32 → Prop} {a0 : Nat} {j1 : Int64} {j3 : Int64} {j5 : Int64} {i7 : Int32} (h : ((24 : Int32) ≤ i7 → g_gi H (a0) 12 1 (fun x1 => P H (x1))) ∧ (¬ ((24 : Int32) ≤ i7) → ((8 : Int32) ≤ i7 → ((16 : Int32) ≤ i7 → gG d mX12_feed 0 0 (g_Xj mX12_feed n 0 0 P) 41 n H [some (.ref (a0)), some (.long (j1)), none, some (.long (j3)), none, some (.long (j5)), none, some (.int (i7)), some (.long (j5)), none, none] [] (0) (0)) ∧ (¬ ((16 : Int32) ≤ i7) → gG d mX12_feed 0 0 (g_Xj mX12_feed n 0 0 P) 41 n H [some (.ref (a0)), some (.long (j1)), none, some (.long (j3)), none, some (.long (j5)), none, some (.int (i7)), some (.long (j3)), none, none] [] (0) (0))) ∧ (¬ ((8 : Int32) ≤ i7) → gG d mX12_feed 0 0 (g_Xj mX12_feed n 0 0 P) 41 n H [some (.ref (a0)), some (.long (j1)), none, some (.long (j3)), none, some (.long (j5)), none, some (.int (i7)), some (.long (j1)), none, none] [] (0) (0)))) : gG d mX12_feed 0 0 (g_Xj mX12_feed n 0 0 P) 8 n H [some (.ref (a0)), some (.long (j1)), none, some (.long (j3)), none, some (.long (j5)), none, some (.int (i7)), none, none, none] [] 0 0 := by
  refine gG_iload dX12_feed_8 rfl ?_
  refine gG_bipush (v := 24) dX12_feed_10 (by decide) ?_
  refine gG_ic_ge (tgt := 120) dX12_feed_12 (by decide) (fun c => ?_) (fun c => ?_)
  · have h := h.1 c
    refine gG_aload_n dX12_feed_120 rfl rfl ?_
    obtain ⟨fs, x1, e1, e2, h⟩ := h
    refine gG_gi dX12_feed_121 fl_X12_153 ⟨fs, x1, e1, e2, ?_⟩
    exact gG_exit ⟨rfl, rfl, rfl, dX12_feed_124, _, rfl, h⟩
  · have h := h.2 c
    refine gG_iload dX12_feed_15 rfl ?_
    refine gG_bipush (v := 8) dX12_feed_17 (by decide) ?_
    refine gG_ic_ge (tgt := 26) dX12_feed_19 (by decide) (fun c => ?_) (fun c => ?_)
    · have h := h.1 c
      refine gG_iload dX12_feed_26 rfl ?_
      refine gG_bipush (v := 16) dX12_feed_28 (by decide) ?_
      refine gG_ic_ge (tgt := 37) dX12_feed_30 (by decide) (fun c => ?_) (fun c => ?_)
      · have h := h.1 c
        refine gG_lload dX12_feed_37 rfl ?_
        refine gG_lstore dX12_feed_39 (Nat.le_of_ble_eq_true rfl) ?_
        refine gG_locals ?_ h
        exact ⟨rfl, ⟨rfl, ⟨rfl, ⟨rfl, ⟨rfl, ⟨rfl, trivial⟩⟩⟩⟩⟩⟩
      · have h := h.2 c
        refine gG_lload_n dX12_feed_33 rfl rfl ?_
        refine gG_goto (tgt := 39) dX12_feed_34 (by decide) ?_
        refine gG_lstore dX12_feed_39 (Nat.le_of_ble_eq_true rfl) ?_
        refine gG_locals ?_ h
        exact ⟨rfl, ⟨rfl, ⟨rfl, ⟨rfl, ⟨rfl, ⟨rfl, trivial⟩⟩⟩⟩⟩⟩
    · have h := h.2 c
      refine gG_lload_n dX12_feed_22 rfl rfl ?_
      refine gG_goto (tgt := 39) dX12_feed_23 (by decide) ?_
      refine gG_lstore dX12_feed_39 (Nat.le_of_ble_eq_true rfl) ?_
      refine gG_locals ?_ h
      exact ⟨rfl, ⟨rfl, ⟨rfl, ⟨rfl, ⟨rfl, ⟨rfl, trivial⟩⟩⟩⟩⟩⟩
theorem kX12_feed_41 {d n : Nat} {H : gHp} {P : gHp → Int32 → Prop} {a0 : Nat} {j1 : Int64} {j3 : Int64} {j5 : Int64} {i7 : Int32} {j8 : Int64} (h : g_gi H (a0) 12 1 (fun x1 => ((1000 : Int32) ≤ x1 → gG d mX12_feed 0 0 (g_Xj mX12_feed n 0 0 P) 8 n H [some (.ref (a0)), some (.long (j1)), none, some (.long (j3)), none, some (.long (j5)), none, some (.int ((i7 + 1))), none, none, none] [] (0) (0)) ∧ (¬ ((1000 : Int32) ≤ x1) → ((Int64.toInt32 ((((Int64.toUInt64 (j8) >>> ((Int32.toInt64 (((56 : Int32) - ((8 : Int32) * (i7 &&& (7 : Int32)))))).toUInt64 &&& Int64.toUInt64 63)).toInt64) &&& (255 : Int64)))) = (10 : Int32) → gG d mX12_feed 0 0 (g_Xj mX12_feed n 0 0 P) 93 n H [some (.ref (a0)), some (.long (j1)), none, some (.long (j3)), none, some (.long (j5)), none, some (.int (i7)), none, none, some (.int ((Int64.toInt32 ((((Int64.toUInt64 (j8) >>> ((Int32.toInt64 (((56 : Int32) - ((8 : Int32) * (i7 &&& (7 : Int32)))))).toUInt64 &&& Int64.toUInt64 63)).toInt64) &&& (255 : Int64))))))] [] (0) (0)) ∧ (¬ ((Int64.toInt32 ((((Int64.toUInt64 (j8) >>> ((Int32.toInt64 (((56 : Int32) - ((8 : Int32) * (i7 &&& (7 : Int32)))))).toUInt64 &&& Int64.toUInt64 63)).toInt64) &&& (255 : Int64)))) = (10 : Int32)) → ((Int64.toInt32 ((((Int64.toUInt64 (j8) >>> ((Int32.toInt64 (((56 : Int32) - ((8 : Int32) * (i7 &&& (7 : Int32)))))).toUInt64 &&& Int64.toUInt64 63)).toInt64) &&& (255 : Int64)))) < (32 : Int32) → gG d mX12_feed 0 0 (g_Xj mX12_feed n 0 0 P) 8 n H [some (.ref (a0)), some (.long (j1)), none, some (.long (j3)), none, some (.long (j5)), none, some (.int ((i7 + 1))), none, none, none] [] (0) (0)) ∧ (¬ ((Int64.toInt32 ((((Int64.toUInt64 (j8) >>> ((Int32.toInt64 (((56 : Int32) - ((8 : Int32) * (i7 &&& (7 : Int32)))))).toUInt64 &&& Int64.toUInt64 63)).toInt64) &&& (255 : Int64)))) < (32 : Int32)) → ((126 : Int32) < (Int64.toInt32 ((((Int64.toUInt64 (j8) >>> ((Int32.toInt64 (((56 : Int32) - ((8 : Int32) * (i7 &&& (7 : Int32)))))).toUInt64 &&& Int64.toUInt64 63)).toInt64) &&& (255 : Int64)))) → gG d mX12_feed 0 0 (g_Xj mX12_feed n 0 0 P) 8 n H [some (.ref (a0)), some (.long (j1)), none, some (.long (j3)), none, some (.long (j5)), none, some (.int ((i7 + 1))), none, none, none] [] (0) (0)) ∧ (¬ ((126 : Int32) < (Int64.toInt32 ((((Int64.toUInt64 (j8) >>> ((Int32.toInt64 (((56 : Int32) - ((8 : Int32) * (i7 &&& (7 : Int32)))))).toUInt64 &&& Int64.toUInt64 63)).toInt64) &&& (255 : Int64))))) → gG d mX12_feed 0 0 (g_Xj mX12_feed n 0 0 P) 93 n H [some (.ref (a0)), some (.long (j1)), none, some (.long (j3)), none, some (.long (j5)), none, some (.int (i7)), none, none, some (.int ((Int64.toInt32 ((((Int64.toUInt64 (j8) >>> ((Int32.toInt64 (((56 : Int32) - ((8 : Int32) * (i7 &&& (7 : Int32)))))).toUInt64 &&& Int64.toUInt64 63)).toInt64) &&& (255 : Int64))))))] [] (0) (0))))))) : gG d mX12_feed 0 0 (g_Xj mX12_feed n 0 0 P) 41 n H [some (.ref (a0)), some (.long (j1)), none, some (.long (j3)), none, some (.long (j5)), none, some (.int (i7)), some (.long (j8)), none, none] [] 0 0 := by
  refine gG_lload dX12_feed_41 rfl ?_
  refine gG_bipush (v := 56) dX12_feed_43 (by decide) ?_
  refine gG_bipush (v := 8) dX12_feed_45 (by decide) ?_
  refine gG_iload dX12_feed_47 rfl ?_
  refine gG_bipush (v := 7) dX12_feed_49 (by decide) ?_
  refine gG_iand dX12_feed_51 ?_
  refine gG_imul dX12_feed_52 ?_
  refine gG_isub dX12_feed_53 ?_
  refine gG_lushr dX12_feed_54 ?_
  refine gG_ldc2 dX12_feed_55 cl_X12_151 ?_
  refine gG_land dX12_feed_58 ?_
  refine gG_l2i dX12_feed_59 ?_
  refine gG_istore dX12_feed_60 (Nat.le_of_ble_eq_true rfl) ?_
  refine gG_aload_n dX12_feed_62 rfl rfl ?_
  obtain ⟨fs, x1, e1, e2, h⟩ := h
  refine gG_gi dX12_feed_63 fl_X12_153 ⟨fs, x1, e1, e2, ?_⟩
  refine gG_sipush (v := 1000) dX12_feed_66 (by decide) ?_
  refine gG_ic_ge (tgt := 114) dX12_feed_69 (by decide) (fun c => ?_) (fun c => ?_)
  · have h := h.1 c
    refine gG_iinc (v := i7 + 1) dX12_feed_114 rfl rfl (Nat.le_of_ble_eq_true rfl) ?_
    refine gG_goto (tgt := 8) dX12_feed_117 (by decide) ?_
    refine gG_locals ?_ h
    exact ⟨rfl, ⟨rfl, ⟨rfl, ⟨rfl, ⟨rfl, trivial⟩⟩⟩⟩⟩
  · have h := h.2 c
    refine gG_iload dX12_feed_72 rfl ?_
    refine gG_bipush (v := 10) dX12_feed_74 (by decide) ?_
    refine gG_ic_eq (tgt := 93) dX12_feed_76 (by decide) (fun c => ?_) (fun c => ?_)
    · have h := h.1 c
      refine gG_locals ?_ h
      exact ⟨rfl, ⟨rfl, ⟨rfl, ⟨rfl, ⟨rfl, ⟨rfl, trivial⟩⟩⟩⟩⟩⟩
    · have h := h.2 c
      refine gG_iload dX12_feed_79 rfl ?_
      refine gG_bipush (v := 32) dX12_feed_81 (by decide) ?_
      refine gG_ic_lt (tgt := 114) dX12_feed_83 (by decide) (fun c => ?_) (fun c => ?_)
      · have h := h.1 c
        refine gG_iinc (v := i7 + 1) dX12_feed_114 rfl rfl (Nat.le_of_ble_eq_true rfl) ?_
        refine gG_goto (tgt := 8) dX12_feed_117 (by decide) ?_
        refine gG_locals ?_ h
        exact ⟨rfl, ⟨rfl, ⟨rfl, ⟨rfl, ⟨rfl, trivial⟩⟩⟩⟩⟩
      · have h := h.2 c
        refine gG_iload dX12_feed_86 rfl ?_
        refine gG_bipush (v := 126) dX12_feed_88 (by decide) ?_
        refine gG_ic_gt (tgt := 114) dX12_feed_90 (by decide) (fun c => ?_) (fun c => ?_)
        · have h := h.1 c
          refine gG_iinc (v := i7 + 1) dX12_feed_114 rfl rfl (Nat.le_of_ble_eq_true rfl) ?_
          refine gG_goto (tgt := 8) dX12_feed_117 (by decide) ?_
          refine gG_locals ?_ h
          exact ⟨rfl, ⟨rfl, ⟨rfl, ⟨rfl, ⟨rfl, trivial⟩⟩⟩⟩⟩
        · have h := h.2 c
          refine gG_locals ?_ h
          exact ⟨rfl, ⟨rfl, ⟨rfl, ⟨rfl, ⟨rfl, ⟨rfl, trivial⟩⟩⟩⟩⟩⟩
theorem kX12_feed_93 {d n : Nat} {H : gHp} {P : gHp → Int32 → Prop} {a0 : Nat} {j1 : Int64} {j3 : Int64} {j5 : Int64} {i7 : Int32} {i10 : Int32} (h : g_gr H (a0) 12 2 (fun q1 => g_gi H (a0) 12 1 (fun x2 => g_as 0 H (q1) (x2) (i10) (fun H3 => g_gi H3 (a0) 12 1 (fun x4 => g_pf H3 (a0) 12 1 (.int ((x4 + (1 : Int32)))) (fun H5 => gG d mX12_feed 0 0 (g_Xj mX12_feed n 0 0 P) 8 n H5 [some (.ref (a0)), some (.long (j1)), none, some (.long (j3)), none, some (.long (j5)), none, some (.int ((i7 + 1))), none, none, none] [] (0) (0))))))) : gG d mX12_feed 0 0 (g_Xj mX12_feed n 0 0 P) 93 n H [some (.ref (a0)), some (.long (j1)), none, some (.long (j3)), none, some (.long (j5)), none, some (.int (i7)), none, none, some (.int (i10))] [] 0 0 := by
  refine gG_aload_n dX12_feed_93 rfl rfl ?_
  obtain ⟨fs, q1, e1, e2, h⟩ := h
  refine gG_gr dX12_feed_94 fl_X12_7 ⟨fs, q1, e1, e2, ?_⟩
  refine gG_aload_n dX12_feed_97 rfl rfl ?_
  obtain ⟨fs, x2, e1, e2, h⟩ := h
  refine gG_gi dX12_feed_98 fl_X12_153 ⟨fs, x2, e1, e2, ?_⟩
  refine gG_iload dX12_feed_101 rfl ?_
  obtain ⟨m0, f0, e1, e2, h⟩ := h
  refine gG_iast dX12_feed_103 ⟨m0, f0, e1, e2, ?_⟩
  obtain ⟨H3, eH⟩ : ∃ z, z = va_up H (q1) (.inl (0, m0, .inl (upd f0 (Int32.toNatClampNeg (x2)) (i10)))) := ⟨_, rfl⟩
  rw [← eH] at h ⊢
  refine gG_aload_n dX12_feed_104 rfl rfl ?_
  refine gG_dup dX12_feed_105 rfl ?_
  obtain ⟨fs, x4, e1, e2, h⟩ := h
  refine gG_gi dX12_feed_106 fl_X12_153 ⟨fs, x4, e1, e2, ?_⟩
  refine gG_iconst (v := 1) dX12_feed_109 (by decide) ?_
  refine gG_iadd dX12_feed_110 ?_
  obtain ⟨fs, e1, e2, h⟩ := h
  refine gG_pi dX12_feed_111 fl_X12_153 ⟨fs, e1, e2, ?_⟩
  obtain ⟨H5, eH⟩ : ∃ z, z = va_up H3 (a0) (.inr (12, fs.set 1 (.int ((x4 + (1 : Int32)))))) := ⟨_, rfl⟩
  rw [← eH] at h ⊢
  refine gG_iinc (v := i7 + 1) dX12_feed_114 rfl rfl (Nat.le_of_ble_eq_true rfl) ?_
  refine gG_goto (tgt := 8) dX12_feed_117 (by decide) ?_
  refine gG_locals ?_ h
  exact ⟨rfl, ⟨rfl, ⟨rfl, ⟨rfl, ⟨rfl, trivial⟩⟩⟩⟩⟩

theorem kX12_signAt_0 {d n : Nat} {H : gHp} {P : gHp → Int32 → Prop} {a0 : Nat} {i1 : Int32} (h : g_gi H (a0) 12 3 (fun x1 => (x1 ≤ i1 → P H ((0 : Int32))) ∧ (¬ (x1 ≤ i1) → g_gr H (a0) 12 2 (fun q2 => g_al 0 H (q2) (i1) (fun x3 => P H (x3)))))) : gG d mX12_signAt 0 0 (g_Xj mX12_signAt n 0 0 P) 0 n H [some (.ref (a0)), some (.int (i1))] [] 0 0 := by
  refine gG_iload_n dX12_signAt_0 rfl rfl ?_
  refine gG_aload_n dX12_signAt_1 rfl rfl ?_
  obtain ⟨fs, x1, e1, e2, h⟩ := h
  refine gG_gi dX12_signAt_2 fl_X12_156 ⟨fs, x1, e1, e2, ?_⟩
  refine gG_ic_ge (tgt := 17) dX12_signAt_5 (by decide) (fun c => ?_) (fun c => ?_)
  · have h := h.1 c
    refine gG_iconst (v := 0) dX12_signAt_17 (by decide) ?_
    exact gG_exit ⟨rfl, rfl, rfl, dX12_signAt_18, _, rfl, h⟩
  · have h := h.2 c
    refine gG_aload_n dX12_signAt_8 rfl rfl ?_
    obtain ⟨fs, q2, e1, e2, h⟩ := h
    refine gG_gr dX12_signAt_9 fl_X12_7 ⟨fs, q2, e1, e2, ?_⟩
    refine gG_iload_n dX12_signAt_12 rfl rfl ?_
    obtain ⟨m0, f0, e1, e2, h⟩ := h
    refine gG_iald dX12_signAt_13 ⟨m0, f0, e1, e2, ?_⟩
    obtain ⟨x3, eH⟩ : ∃ z, z = f0 (Int32.toNatClampNeg (i1)) := ⟨_, rfl⟩
    rw [← eH] at h ⊢
    refine gG_goto (tgt := 18) dX12_signAt_14 (by decide) ?_
    exact gG_exit ⟨rfl, rfl, rfl, dX12_signAt_18, _, rfl, h⟩

theorem kX12_nextToken_0 {d n : Nat} {H : gHp} {P : gHp → Prop} {a0 : Nat} (h : g_gi H (a0) 12 4 (fun x1 => g_gi H (a0) 12 3 (fun x2 => (x2 ≤ x1 → gG d mX12_nextToken 0 0 (g_Xv mX12_nextToken n 0 0 P) 52 n H [some (.ref (a0)), none] [] (0) (0)) ∧ (¬ (x2 ≤ x1) → g_gr H (a0) 12 2 (fun q3 => g_gi H (a0) 12 4 (fun x4 => g_al 0 H (q3) (x4) (fun x5 => (x5 = (32 : Int32) → g_gi H (a0) 12 4 (fun x6 => g_pf H (a0) 12 4 (.int ((x6 + (1 : Int32)))) (fun H7 => gG d mX12_nextToken 0 0 (g_Xv mX12_nextToken n 0 0 P) 0 n H7 [some (.ref (a0)), none] [] (0) (0)))) ∧ (¬ (x5 = (32 : Int32)) → g_gr H (a0) 12 2 (fun q8 => g_gi H (a0) 12 4 (fun x9 => g_al 0 H (q8) (x9) (fun x10 => (¬ (x10 = (10 : Int32)) → gG d mX12_nextToken 0 0 (g_Xv mX12_nextToken n 0 0 P) 52 n H [some (.ref (a0)), none] [] (0) (0)) ∧ (x10 = (10 : Int32) → g_gi H (a0) 12 4 (fun x11 => g_pf H (a0) 12 4 (.int ((x11 + (1 : Int32)))) (fun H12 => gG d mX12_nextToken 0 0 (g_Xv mX12_nextToken n 0 0 P) 0 n H12 [some (.ref (a0)), none] [] (0) (0))))))))))))))) : gG d mX12_nextToken 0 0 (g_Xv mX12_nextToken n 0 0 P) 0 n H [some (.ref (a0)), none] [] 0 0 := by
  refine gG_aload_n dX12_nextToken_0 rfl rfl ?_
  obtain ⟨fs, x1, e1, e2, h⟩ := h
  refine gG_gi dX12_nextToken_1 fl_X12_159 ⟨fs, x1, e1, e2, ?_⟩
  refine gG_aload_n dX12_nextToken_4 rfl rfl ?_
  obtain ⟨fs, x2, e1, e2, h⟩ := h
  refine gG_gi dX12_nextToken_5 fl_X12_156 ⟨fs, x2, e1, e2, ?_⟩
  refine gG_ic_ge (tgt := 52) dX12_nextToken_8 (by decide) (fun c => ?_) (fun c => ?_)
  · have h := h.1 c
    refine gG_locals ?_ h
    exact ⟨rfl, trivial⟩
  · have h := h.2 c
    refine gG_aload_n dX12_nextToken_11 rfl rfl ?_
    obtain ⟨fs, q3, e1, e2, h⟩ := h
    refine gG_gr dX12_nextToken_12 fl_X12_7 ⟨fs, q3, e1, e2, ?_⟩
    refine gG_aload_n dX12_nextToken_15 rfl rfl ?_
    obtain ⟨fs, x4, e1, e2, h⟩ := h
    refine gG_gi dX12_nextToken_16 fl_X12_159 ⟨fs, x4, e1, e2, ?_⟩
    obtain ⟨m0, f0, e1, e2, h⟩ := h
    refine gG_iald dX12_nextToken_19 ⟨m0, f0, e1, e2, ?_⟩
    obtain ⟨x5, eH⟩ : ∃ z, z = f0 (Int32.toNatClampNeg (x4)) := ⟨_, rfl⟩
    rw [← eH] at h ⊢
    refine gG_bipush (v := 32) dX12_nextToken_20 (by decide) ?_
    refine gG_ic_eq (tgt := 39) dX12_nextToken_22 (by decide) (fun c => ?_) (fun c => ?_)
    · have h := h.1 c
      refine gG_aload_n dX12_nextToken_39 rfl rfl ?_
      refine gG_dup dX12_nextToken_40 rfl ?_
      obtain ⟨fs, x6, e1, e2, h⟩ := h
      refine gG_gi dX12_nextToken_41 fl_X12_159 ⟨fs, x6, e1, e2, ?_⟩
      refine gG_iconst (v := 1) dX12_nextToken_44 (by decide) ?_
      refine gG_iadd dX12_nextToken_45 ?_
      obtain ⟨fs, e1, e2, h⟩ := h
      refine gG_pi dX12_nextToken_46 fl_X12_159 ⟨fs, e1, e2, ?_⟩
      obtain ⟨H7, eH⟩ : ∃ z, z = va_up H (a0) (.inr (12, fs.set 4 (.int ((x6 + (1 : Int32)))))) := ⟨_, rfl⟩
      rw [← eH] at h ⊢
      refine gG_goto (tgt := 0) dX12_nextToken_49 (by decide) ?_
      refine gG_locals ?_ h
      exact ⟨rfl, trivial⟩
    · have h := h.2 c
      refine gG_aload_n dX12_nextToken_25 rfl rfl ?_
      obtain ⟨fs, q8, e1, e2, h⟩ := h
      refine gG_gr dX12_nextToken_26 fl_X12_7 ⟨fs, q8, e1, e2, ?_⟩
      refine gG_aload_n dX12_nextToken_29 rfl rfl ?_
      obtain ⟨fs, x9, e1, e2, h⟩ := h
      refine gG_gi dX12_nextToken_30 fl_X12_159 ⟨fs, x9, e1, e2, ?_⟩
      obtain ⟨m0, f0, e1, e2, h⟩ := h
      refine gG_iald dX12_nextToken_33 ⟨m0, f0, e1, e2, ?_⟩
      obtain ⟨x10, eH⟩ : ∃ z, z = f0 (Int32.toNatClampNeg (x9)) := ⟨_, rfl⟩
      rw [← eH] at h ⊢
      refine gG_bipush (v := 10) dX12_nextToken_34 (by decide) ?_
      refine gG_ic_ne (tgt := 52) dX12_nextToken_36 (by decide) (fun c => ?_) (fun c => ?_)
      · have h := h.1 c
        refine gG_locals ?_ h
        exact ⟨rfl, trivial⟩
      · have h := h.2 c
        refine gG_aload_n dX12_nextToken_39 rfl rfl ?_
        refine gG_dup dX12_nextToken_40 rfl ?_
        obtain ⟨fs, x11, e1, e2, h⟩ := h
        refine gG_gi dX12_nextToken_41 fl_X12_159 ⟨fs, x11, e1, e2, ?_⟩
        refine gG_iconst (v := 1) dX12_nextToken_44 (by decide) ?_
        refine gG_iadd dX12_nextToken_45 ?_
        obtain ⟨fs, e1, e2, h⟩ := h
        refine gG_pi dX12_nextToken_46 fl_X12_159 ⟨fs, e1, e2, ?_⟩
        obtain ⟨H12, eH⟩ : ∃ z, z = va_up H (a0) (.inr (12, fs.set 4 (.int ((x11 + (1 : Int32)))))) := ⟨_, rfl⟩
        rw [← eH] at h ⊢
        refine gG_goto (tgt := 0) dX12_nextToken_49 (by decide) ?_
        refine gG_locals ?_ h
        exact ⟨rfl, trivial⟩
theorem kX12_nextToken_52 {d n : Nat} {H : gHp} {P : gHp → Prop} {a0 : Nat} (h : g_gi H (a0) 12 4 (fun x1 => g_pf H (a0) 12 5 (.int (x1)) (fun H2 => g_pf H2 (a0) 12 7 (.long ((0 : Int64))) (fun H3 => g_pf H3 (a0) 12 8 (.int ((0 : Int32))) (fun H4 => g_gi H4 (a0) 12 4 (fun x5 => g_gi H4 (a0) 12 3 (fun x6 => (¬ (x5 = x6) → g_gr H4 (a0) 12 2 (fun q7 => g_gi H4 (a0) 12 4 (fun x8 => g_al 0 H4 (q7) (x8) (fun x9 => (x9 < (97 : Int32) → (x9 < (48 : Int32) → gG d mX12_nextToken 0 0 (g_Xv mX12_nextToken n 0 0 P) 322 n H4 [some (.ref (a0)), some (.int (x9))] [] (0) (0)) ∧ (¬ (x9 < (48 : Int32)) → ((57 : Int32) < x9 → gG d mX12_nextToken 0 0 (g_Xv mX12_nextToken n 0 0 P) 322 n H4 [some (.ref (a0)), some (.int (x9))] [] (0) (0)) ∧ (¬ ((57 : Int32) < x9) → gG d mX12_nextToken 0 0 (g_Xv mX12_nextToken n 0 0 P) 224 n H4 [some (.ref (a0)), none] [] (0) (0)))) ∧ (¬ (x9 < (97 : Int32)) → ((122 : Int32) < x9 → (x9 < (48 : Int32) → gG d mX12_nextToken 0 0 (g_Xv mX12_nextToken n 0 0 P) 322 n H4 [some (.ref (a0)), some (.int (x9))] [] (0) (0)) ∧ (¬ (x9 < (48 : Int32)) → ((57 : Int32) < x9 → gG d mX12_nextToken 0 0 (g_Xv mX12_nextToken n 0 0 P) 322 n H4 [some (.ref (a0)), some (.int (x9))] [] (0) (0)) ∧ (¬ ((57 : Int32) < x9) → gG d mX12_nextToken 0 0 (g_Xv mX12_nextToken n 0 0 P) 224 n H4 [some (.ref (a0)), none] [] (0) (0)))) ∧ (¬ ((122 : Int32) < x9) → gG d mX12_nextToken 0 0 (g_Xv mX12_nextToken n 0 0 P) 109 n H4 [some (.ref (a0)), none] [] (0) (0))))))) ∧ (x5 = x6 → g_pf H4 (a0) 12 6 (.int ((0 : Int32))) (fun H10 => P H10))))))))) : gG d mX12_nextToken 0 0 (g_Xv mX12_nextToken n 0 0 P) 52 n H [some (.ref (a0)), none] [] 0 0 := by
  refine gG_aload_n dX12_nextToken_52 rfl rfl ?_
  refine gG_aload_n dX12_nextToken_53 rfl rfl ?_
  obtain ⟨fs, x1, e1, e2, h⟩ := h
  refine gG_gi dX12_nextToken_54 fl_X12_159 ⟨fs, x1, e1, e2, ?_⟩
  obtain ⟨fs, e1, e2, h⟩ := h
  refine gG_pi dX12_nextToken_57 fl_X12_162 ⟨fs, e1, e2, ?_⟩
  obtain ⟨H2, eH⟩ : ∃ z, z = va_up H (a0) (.inr (12, fs.set 5 (.int (x1)))) := ⟨_, rfl⟩
  rw [← eH] at h ⊢
  refine gG_aload_n dX12_nextToken_60 rfl rfl ?_
  refine gG_lconst (v := 0) dX12_nextToken_61 (by decide) ?_
  obtain ⟨fs, e1, e2, h⟩ := h
  refine gG_pl dX12_nextToken_62 fl_X12_165 ⟨fs, e1, e2, ?_⟩
  obtain ⟨H3, eH⟩ : ∃ z, z = va_up H2 (a0) (.inr (12, fs.set 7 (.long ((0 : Int64))))) := ⟨_, rfl⟩
  rw [← eH] at h ⊢
  refine gG_aload_n dX12_nextToken_65 rfl rfl ?_
  refine gG_iconst (v := 0) dX12_nextToken_66 (by decide) ?_
  obtain ⟨fs, e1, e2, h⟩ := h
  refine gG_pi dX12_nextToken_67 fl_X12_169 ⟨fs, e1, e2, ?_⟩
  obtain ⟨H4, eH⟩ : ∃ z, z = va_up H3 (a0) (.inr (12, fs.set 8 (.int ((0 : Int32))))) := ⟨_, rfl⟩
  rw [← eH] at h ⊢
  refine gG_aload_n dX12_nextToken_70 rfl rfl ?_
  obtain ⟨fs, x5, e1, e2, h⟩ := h
  refine gG_gi dX12_nextToken_71 fl_X12_159 ⟨fs, x5, e1, e2, ?_⟩
  refine gG_aload_n dX12_nextToken_74 rfl rfl ?_
  obtain ⟨fs, x6, e1, e2, h⟩ := h
  refine gG_gi dX12_nextToken_75 fl_X12_156 ⟨fs, x6, e1, e2, ?_⟩
  refine gG_ic_ne (tgt := 87) dX12_nextToken_78 (by decide) (fun c => ?_) (fun c => ?_)
  · have h := h.1 c
    refine gG_aload_n dX12_nextToken_87 rfl rfl ?_
    obtain ⟨fs, q7, e1, e2, h⟩ := h
    refine gG_gr dX12_nextToken_88 fl_X12_7 ⟨fs, q7, e1, e2, ?_⟩
    refine gG_aload_n dX12_nextToken_91 rfl rfl ?_
    obtain ⟨fs, x8, e1, e2, h⟩ := h
    refine gG_gi dX12_nextToken_92 fl_X12_159 ⟨fs, x8, e1, e2, ?_⟩
    obtain ⟨m0, f0, e1, e2, h⟩ := h
    refine gG_iald dX12_nextToken_95 ⟨m0, f0, e1, e2, ?_⟩
    obtain ⟨x9, eH⟩ : ∃ z, z = f0 (Int32.toNatClampNeg (x8)) := ⟨_, rfl⟩
    rw [← eH] at h ⊢
    refine gG_istore_n dX12_nextToken_96 rfl (Nat.le_of_ble_eq_true rfl) ?_
    refine gG_iload_n dX12_nextToken_97 rfl rfl ?_
    refine gG_bipush (v := 97) dX12_nextToken_98 (by decide) ?_
    refine gG_ic_lt (tgt := 212) dX12_nextToken_100 (by decide) (fun c => ?_) (fun c => ?_)
    · have h := h.1 c
      refine gG_iload_n dX12_nextToken_212 rfl rfl ?_
      refine gG_bipush (v := 48) dX12_nextToken_213 (by decide) ?_
      refine gG_ic_lt (tgt := 322) dX12_nextToken_215 (by decide) (fun c => ?_) (fun c => ?_)
      · have h := h.1 c
        refine gG_locals ?_ h
        exact ⟨rfl, ⟨rfl, trivial⟩⟩
      · have h := h.2 c
        refine gG_iload_n dX12_nextToken_218 rfl rfl ?_
        refine gG_bipush (v := 57) dX12_nextToken_219 (by decide) ?_
        refine gG_ic_gt (tgt := 322) dX12_nextToken_221 (by decide) (fun c => ?_) (fun c => ?_)
        · have h := h.1 c
          refine gG_locals ?_ h
          exact ⟨rfl, ⟨rfl, trivial⟩⟩
        · have h := h.2 c
          refine gG_locals ?_ h
          exact ⟨rfl, trivial⟩
    · have h := h.2 c
      refine gG_iload_n dX12_nextToken_103 rfl rfl ?_
      refine gG_bipush (v := 122) dX12_nextToken_104 (by decide) ?_
      refine gG_ic_gt (tgt := 212) dX12_nextToken_106 (by decide) (fun c => ?_) (fun c => ?_)
      · have h := h.1 c
        refine gG_iload_n dX12_nextToken_212 rfl rfl ?_
        refine gG_bipush (v := 48) dX12_nextToken_213 (by decide) ?_
        refine gG_ic_lt (tgt := 322) dX12_nextToken_215 (by decide) (fun c => ?_) (fun c => ?_)
        · have h := h.1 c
          refine gG_locals ?_ h
          exact ⟨rfl, ⟨rfl, trivial⟩⟩
        · have h := h.2 c
          refine gG_iload_n dX12_nextToken_218 rfl rfl ?_
          refine gG_bipush (v := 57) dX12_nextToken_219 (by decide) ?_
          refine gG_ic_gt (tgt := 322) dX12_nextToken_221 (by decide) (fun c => ?_) (fun c => ?_)
          · have h := h.1 c
            refine gG_locals ?_ h
            exact ⟨rfl, ⟨rfl, trivial⟩⟩
          · have h := h.2 c
            refine gG_locals ?_ h
            exact ⟨rfl, trivial⟩
      · have h := h.2 c
        refine gG_locals ?_ h
        exact ⟨rfl, trivial⟩
  · have h := h.2 c
    refine gG_aload_n dX12_nextToken_81 rfl rfl ?_
    refine gG_iconst (v := 0) dX12_nextToken_82 (by decide) ?_
    obtain ⟨fs, e1, e2, h⟩ := h
    refine gG_pi dX12_nextToken_83 fl_X12_172 ⟨fs, e1, e2, ?_⟩
    obtain ⟨H10, eH⟩ : ∃ z, z = va_up H4 (a0) (.inr (12, fs.set 6 (.int ((0 : Int32))))) := ⟨_, rfl⟩
    rw [← eH] at h ⊢
    exact gG_exit ⟨rfl, rfl, rfl, dX12_nextToken_86, rfl, h⟩
theorem kX12_nextToken_109 {d n : Nat} {H : gHp} {P : gHp → Prop} {a0 : Nat} (h : g_gi H (a0) 12 4 (fun x1 => (∃ fs, H (a0) = .inr (12, fs)) ∧ g_ci d mX12_signAt n H [.ref (a0), .int (x1)] (fun H2 x3 => (x3 < (97 : Int32) → gG d mX12_nextToken 0 0 (g_Xv mX12_nextToken n 0 0 P) 188 n H2 [some (.ref (a0)), none] [] (0) (0)) ∧ (¬ (x3 < (97 : Int32)) → g_gi H2 (a0) 12 4 (fun x4 => (∃ fs, H2 (a0) = .inr (12, fs)) ∧ g_ci d mX12_signAt n H2 [.ref (a0), .int (x4)] (fun H5 x6 => ((122 : Int32) < x6 → gG d mX12_nextToken 0 0 (g_Xv mX12_nextToken n 0 0 P) 188 n H5 [some (.ref (a0)), none] [] (0) (0)) ∧ (¬ ((122 : Int32) < x6) → g_gi H5 (a0) 12 4 (fun x7 => g_gi H5 (a0) 12 5 (fun x8 => ((8 : Int32) ≤ (x7 - x8) → g_gi H5 (a0) 12 4 (fun x9 => g_pf H5 (a0) 12 4 (.int ((x9 + (1 : Int32)))) (fun H10 => gG d mX12_nextToken 0 0 (g_Xv mX12_nextToken n 0 0 P) 109 n H10 [some (.ref (a0)), none] [] (0) (0)))) ∧ (¬ ((8 : Int32) ≤ (x7 - x8)) → g_gl H5 (a0) 12 7 (fun y11 => g_gi H5 (a0) 12 4 (fun x12 => (∃ fs, H5 (a0) = .inr (12, fs)) ∧ g_ci d mX12_signAt n H5 [.ref (a0), .int (x12)] (fun H13 x14 => g_pf H13 (a0) 12 7 (.long ((((y11 * (27 : Int64)) + (Int32.toInt64 (x14))) - (96 : Int64)))) (fun H15 => g_gi H15 (a0) 12 4 (fun x16 => g_pf H15 (a0) 12 4 (.int ((x16 + (1 : Int32)))) (fun H17 => gG d mX12_nextToken 0 0 (g_Xv mX12_nextToken n 0 0 P) 109 n H17 [some (.ref (a0)), none] [] (0) (0))))))))))))))))) : gG d mX12_nextToken 0 0 (g_Xv mX12_nextToken n 0 0 P) 109 n H [some (.ref (a0)), none] [] 0 0 := by
  refine gG_aload_n dX12_nextToken_109 rfl rfl ?_
  refine gG_aload_n dX12_nextToken_110 rfl rfl ?_
  obtain ⟨fs, x1, e1, e2, h⟩ := h
  refine gG_gi dX12_nextToken_111 fl_X12_159 ⟨fs, x1, e1, e2, ?_⟩
  obtain ⟨hrc, d2, P2, hdd, hC, h⟩ := h
  refine gG_cvi (As := [.int (x1)]) (st := []) dX12_nextToken_114 mV_X12_175 hdd hrc rfl rfl (Nat.le_of_ble_eq_true rfl) (Nat.le_refl _) ⟨Nat.le_refl _, Nat.le_refl _⟩ hC (fun H2 x3 hp => ?_)
  have h := h H2 x3 hp
  refine gG_bipush (v := 97) dX12_nextToken_117 (by decide) ?_
  refine gG_ic_lt (tgt := 188) dX12_nextToken_119 (by decide) (fun c => ?_) (fun c => ?_)
  · have h := h.1 c
    refine gG_locals ?_ h
    exact ⟨rfl, trivial⟩
  · have h := h.2 c
    refine gG_aload_n dX12_nextToken_122 rfl rfl ?_
    refine gG_aload_n dX12_nextToken_123 rfl rfl ?_
    obtain ⟨fs, x4, e1, e2, h⟩ := h
    refine gG_gi dX12_nextToken_124 fl_X12_159 ⟨fs, x4, e1, e2, ?_⟩
    obtain ⟨hrc, d2, P2, hdd, hC, h⟩ := h
    refine gG_cvi (As := [.int (x4)]) (st := []) dX12_nextToken_127 mV_X12_175 hdd hrc rfl rfl (Nat.le_of_ble_eq_true rfl) (Nat.le_refl _) ⟨Nat.le_refl _, Nat.le_refl _⟩ hC (fun H5 x6 hp => ?_)
    have h := h H5 x6 hp
    refine gG_bipush (v := 122) dX12_nextToken_130 (by decide) ?_
    refine gG_ic_gt (tgt := 188) dX12_nextToken_132 (by decide) (fun c => ?_) (fun c => ?_)
    · have h := h.1 c
      refine gG_locals ?_ h
      exact ⟨rfl, trivial⟩
    · have h := h.2 c
      refine gG_aload_n dX12_nextToken_135 rfl rfl ?_
      obtain ⟨fs, x7, e1, e2, h⟩ := h
      refine gG_gi dX12_nextToken_136 fl_X12_159 ⟨fs, x7, e1, e2, ?_⟩
      refine gG_aload_n dX12_nextToken_139 rfl rfl ?_
      obtain ⟨fs, x8, e1, e2, h⟩ := h
      refine gG_gi dX12_nextToken_140 fl_X12_162 ⟨fs, x8, e1, e2, ?_⟩
      refine gG_isub dX12_nextToken_143 ?_
      refine gG_bipush (v := 8) dX12_nextToken_144 (by decide) ?_
      refine gG_ic_ge (tgt := 175) dX12_nextToken_146 (by decide) (fun c => ?_) (fun c => ?_)
      · have h := h.1 c
        refine gG_aload_n dX12_nextToken_175 rfl rfl ?_
        refine gG_dup dX12_nextToken_176 rfl ?_
        obtain ⟨fs, x9, e1, e2, h⟩ := h
        refine gG_gi dX12_nextToken_177 fl_X12_159 ⟨fs, x9, e1, e2, ?_⟩
        refine gG_iconst (v := 1) dX12_nextToken_180 (by decide) ?_
        refine gG_iadd dX12_nextToken_181 ?_
        obtain ⟨fs, e1, e2, h⟩ := h
        refine gG_pi dX12_nextToken_182 fl_X12_159 ⟨fs, e1, e2, ?_⟩
        obtain ⟨H10, eH⟩ : ∃ z, z = va_up H5 (a0) (.inr (12, fs.set 4 (.int ((x9 + (1 : Int32)))))) := ⟨_, rfl⟩
        rw [← eH] at h ⊢
        refine gG_goto (tgt := 109) dX12_nextToken_185 (by decide) ?_
        refine gG_locals ?_ h
        exact ⟨rfl, trivial⟩
      · have h := h.2 c
        refine gG_aload_n dX12_nextToken_149 rfl rfl ?_
        refine gG_aload_n dX12_nextToken_150 rfl rfl ?_
        obtain ⟨fs, y11, e1, e2, h⟩ := h
        refine gG_gl dX12_nextToken_151 fl_X12_165 ⟨fs, y11, e1, e2, ?_⟩
        refine gG_ldc2 dX12_nextToken_154 cl_X12_179 ?_
        refine gG_lmul dX12_nextToken_157 ?_
        refine gG_aload_n dX12_nextToken_158 rfl rfl ?_
        refine gG_aload_n dX12_nextToken_159 rfl rfl ?_
        obtain ⟨fs, x12, e1, e2, h⟩ := h
        refine gG_gi dX12_nextToken_160 fl_X12_159 ⟨fs, x12, e1, e2, ?_⟩
        obtain ⟨hrc, d2, P2, hdd, hC, h⟩ := h
        refine gG_cvi (As := [.int (x12)]) (st := [.long ((y11 * (27 : Int64))), .ref (a0)]) dX12_nextToken_163 mV_X12_175 hdd hrc rfl rfl (Nat.le_of_ble_eq_true rfl) (Nat.le_refl _) ⟨Nat.le_refl _, Nat.le_refl _⟩ hC (fun H13 x14 hp => ?_)
        have h := h H13 x14 hp
        refine gG_i2l dX12_nextToken_166 ?_
        refine gG_ladd dX12_nextToken_167 ?_
        refine gG_ldc2 dX12_nextToken_168 cl_X12_181 ?_
        refine gG_lsub dX12_nextToken_171 ?_
        obtain ⟨fs, e1, e2, h⟩ := h
        refine gG_pl dX12_nextToken_172 fl_X12_165 ⟨fs, e1, e2, ?_⟩
        obtain ⟨H15, eH⟩ : ∃ z, z = va_up H13 (a0) (.inr (12, fs.set 7 (.long ((((y11 * (27 : Int64)) + (Int32.toInt64 (x14))) - (96 : Int64)))))) := ⟨_, rfl⟩
        rw [← eH] at h ⊢
        refine gG_aload_n dX12_nextToken_175 rfl rfl ?_
        refine gG_dup dX12_nextToken_176 rfl ?_
        obtain ⟨fs, x16, e1, e2, h⟩ := h
        refine gG_gi dX12_nextToken_177 fl_X12_159 ⟨fs, x16, e1, e2, ?_⟩
        refine gG_iconst (v := 1) dX12_nextToken_180 (by decide) ?_
        refine gG_iadd dX12_nextToken_181 ?_
        obtain ⟨fs, e1, e2, h⟩ := h
        refine gG_pi dX12_nextToken_182 fl_X12_159 ⟨fs, e1, e2, ?_⟩
        obtain ⟨H17, eH⟩ : ∃ z, z = va_up H15 (a0) (.inr (12, fs.set 4 (.int ((x16 + (1 : Int32)))))) := ⟨_, rfl⟩
        rw [← eH] at h ⊢
        refine gG_goto (tgt := 109) dX12_nextToken_185 (by decide) ?_
        refine gG_locals ?_ h
        exact ⟨rfl, trivial⟩
theorem kX12_nextToken_188 {d n : Nat} {H : gHp} {P : gHp → Prop} {a0 : Nat} (h : g_gi H (a0) 12 4 (fun x1 => g_gi H (a0) 12 5 (fun x2 => ((x1 - x2) ≤ (8 : Int32) → g_pf H (a0) 12 6 (.int ((1 : Int32))) (fun H3 => P H3)) ∧ (¬ ((x1 - x2) ≤ (8 : Int32)) → g_pf H (a0) 12 6 (.int ((4 : Int32))) (fun H4 => P H4))))) : gG d mX12_nextToken 0 0 (g_Xv mX12_nextToken n 0 0 P) 188 n H [some (.ref (a0)), none] [] 0 0 := by
  refine gG_aload_n dX12_nextToken_188 rfl rfl ?_
  refine gG_aload_n dX12_nextToken_189 rfl rfl ?_
  obtain ⟨fs, x1, e1, e2, h⟩ := h
  refine gG_gi dX12_nextToken_190 fl_X12_159 ⟨fs, x1, e1, e2, ?_⟩
  refine gG_aload_n dX12_nextToken_193 rfl rfl ?_
  obtain ⟨fs, x2, e1, e2, h⟩ := h
  refine gG_gi dX12_nextToken_194 fl_X12_162 ⟨fs, x2, e1, e2, ?_⟩
  refine gG_isub dX12_nextToken_197 ?_
  refine gG_bipush (v := 8) dX12_nextToken_198 (by decide) ?_
  refine gG_ic_le (tgt := 207) dX12_nextToken_200 (by decide) (fun c => ?_) (fun c => ?_)
  · have h := h.1 c
    refine gG_iconst (v := 1) dX12_nextToken_207 (by decide) ?_
    obtain ⟨fs, e1, e2, h⟩ := h
    refine gG_pi dX12_nextToken_208 fl_X12_172 ⟨fs, e1, e2, ?_⟩
    obtain ⟨H3, eH⟩ : ∃ z, z = va_up H (a0) (.inr (12, fs.set 6 (.int ((1 : Int32))))) := ⟨_, rfl⟩
    rw [← eH] at h ⊢
    exact gG_exit ⟨rfl, rfl, rfl, dX12_nextToken_211, rfl, h⟩
  · have h := h.2 c
    refine gG_iconst (v := 4) dX12_nextToken_203 (by decide) ?_
    refine gG_goto (tgt := 208) dX12_nextToken_204 (by decide) ?_
    obtain ⟨fs, e1, e2, h⟩ := h
    refine gG_pi dX12_nextToken_208 fl_X12_172 ⟨fs, e1, e2, ?_⟩
    obtain ⟨H4, eH⟩ : ∃ z, z = va_up H (a0) (.inr (12, fs.set 6 (.int ((4 : Int32))))) := ⟨_, rfl⟩
    rw [← eH] at h ⊢
    exact gG_exit ⟨rfl, rfl, rfl, dX12_nextToken_211, rfl, h⟩
theorem kX12_nextToken_224 {d n : Nat} {H : gHp} {P : gHp → Prop} {a0 : Nat} (h : g_gi H (a0) 12 4 (fun x1 => (∃ fs, H (a0) = .inr (12, fs)) ∧ g_ci d mX12_signAt n H [.ref (a0), .int (x1)] (fun H2 x3 => (x3 < (48 : Int32) → gG d mX12_nextToken 0 0 (g_Xv mX12_nextToken n 0 0 P) 299 n H2 [some (.ref (a0)), none] [] (0) (0)) ∧ (¬ (x3 < (48 : Int32)) → g_gi H2 (a0) 12 4 (fun x4 => (∃ fs, H2 (a0) = .inr (12, fs)) ∧ g_ci d mX12_signAt n H2 [.ref (a0), .int (x4)] (fun H5 x6 => ((57 : Int32) < x6 → gG d mX12_nextToken 0 0 (g_Xv mX12_nextToken n 0 0 P) 299 n H5 [some (.ref (a0)), none] [] (0) (0)) ∧ (¬ ((57 : Int32) < x6) → g_gi H5 (a0) 12 4 (fun x7 => g_gi H5 (a0) 12 5 (fun x8 => ((4 : Int32) ≤ (x7 - x8) → g_gi H5 (a0) 12 4 (fun x9 => g_pf H5 (a0) 12 4 (.int ((x9 + (1 : Int32)))) (fun H10 => gG d mX12_nextToken 0 0 (g_Xv mX12_nextToken n 0 0 P) 224 n H10 [some (.ref (a0)), none] [] (0) (0)))) ∧ (¬ ((4 : Int32) ≤ (x7 - x8)) → g_gi H5 (a0) 12 8 (fun x11 => g_gi H5 (a0) 12 4 (fun x12 => (∃ fs, H5 (a0) = .inr (12, fs)) ∧ g_ci d mX12_signAt n H5 [.ref (a0), .int (x12)] (fun H13 x14 => g_pf H13 (a0) 12 8 (.int ((((x11 * (10 : Int32)) + x14) - (48 : Int32)))) (fun H15 => g_gi H15 (a0) 12 4 (fun x16 => g_pf H15 (a0) 12 4 (.int ((x16 + (1 : Int32)))) (fun H17 => gG d mX12_nextToken 0 0 (g_Xv mX12_nextToken n 0 0 P) 224 n H17 [some (.ref (a0)), none] [] (0) (0))))))))))))))))) : gG d mX12_nextToken 0 0 (g_Xv mX12_nextToken n 0 0 P) 224 n H [some (.ref (a0)), none] [] 0 0 := by
  refine gG_aload_n dX12_nextToken_224 rfl rfl ?_
  refine gG_aload_n dX12_nextToken_225 rfl rfl ?_
  obtain ⟨fs, x1, e1, e2, h⟩ := h
  refine gG_gi dX12_nextToken_226 fl_X12_159 ⟨fs, x1, e1, e2, ?_⟩
  obtain ⟨hrc, d2, P2, hdd, hC, h⟩ := h
  refine gG_cvi (As := [.int (x1)]) (st := []) dX12_nextToken_229 mV_X12_175 hdd hrc rfl rfl (Nat.le_of_ble_eq_true rfl) (Nat.le_refl _) ⟨Nat.le_refl _, Nat.le_refl _⟩ hC (fun H2 x3 hp => ?_)
  have h := h H2 x3 hp
  refine gG_bipush (v := 48) dX12_nextToken_232 (by decide) ?_
  refine gG_ic_lt (tgt := 299) dX12_nextToken_234 (by decide) (fun c => ?_) (fun c => ?_)
  · have h := h.1 c
    refine gG_locals ?_ h
    exact ⟨rfl, trivial⟩
  · have h := h.2 c
    refine gG_aload_n dX12_nextToken_237 rfl rfl ?_
    refine gG_aload_n dX12_nextToken_238 rfl rfl ?_
    obtain ⟨fs, x4, e1, e2, h⟩ := h
    refine gG_gi dX12_nextToken_239 fl_X12_159 ⟨fs, x4, e1, e2, ?_⟩
    obtain ⟨hrc, d2, P2, hdd, hC, h⟩ := h
    refine gG_cvi (As := [.int (x4)]) (st := []) dX12_nextToken_242 mV_X12_175 hdd hrc rfl rfl (Nat.le_of_ble_eq_true rfl) (Nat.le_refl _) ⟨Nat.le_refl _, Nat.le_refl _⟩ hC (fun H5 x6 hp => ?_)
    have h := h H5 x6 hp
    refine gG_bipush (v := 57) dX12_nextToken_245 (by decide) ?_
    refine gG_ic_gt (tgt := 299) dX12_nextToken_247 (by decide) (fun c => ?_) (fun c => ?_)
    · have h := h.1 c
      refine gG_locals ?_ h
      exact ⟨rfl, trivial⟩
    · have h := h.2 c
      refine gG_aload_n dX12_nextToken_250 rfl rfl ?_
      obtain ⟨fs, x7, e1, e2, h⟩ := h
      refine gG_gi dX12_nextToken_251 fl_X12_159 ⟨fs, x7, e1, e2, ?_⟩
      refine gG_aload_n dX12_nextToken_254 rfl rfl ?_
      obtain ⟨fs, x8, e1, e2, h⟩ := h
      refine gG_gi dX12_nextToken_255 fl_X12_162 ⟨fs, x8, e1, e2, ?_⟩
      refine gG_isub dX12_nextToken_258 ?_
      refine gG_iconst (v := 4) dX12_nextToken_259 (by decide) ?_
      refine gG_ic_ge (tgt := 286) dX12_nextToken_260 (by decide) (fun c => ?_) (fun c => ?_)
      · have h := h.1 c
        refine gG_aload_n dX12_nextToken_286 rfl rfl ?_
        refine gG_dup dX12_nextToken_287 rfl ?_
        obtain ⟨fs, x9, e1, e2, h⟩ := h
        refine gG_gi dX12_nextToken_288 fl_X12_159 ⟨fs, x9, e1, e2, ?_⟩
        refine gG_iconst (v := 1) dX12_nextToken_291 (by decide) ?_
        refine gG_iadd dX12_nextToken_292 ?_
        obtain ⟨fs, e1, e2, h⟩ := h
        refine gG_pi dX12_nextToken_293 fl_X12_159 ⟨fs, e1, e2, ?_⟩
        obtain ⟨H10, eH⟩ : ∃ z, z = va_up H5 (a0) (.inr (12, fs.set 4 (.int ((x9 + (1 : Int32)))))) := ⟨_, rfl⟩
        rw [← eH] at h ⊢
        refine gG_goto (tgt := 224) dX12_nextToken_296 (by decide) ?_
        refine gG_locals ?_ h
        exact ⟨rfl, trivial⟩
      · have h := h.2 c
        refine gG_aload_n dX12_nextToken_263 rfl rfl ?_
        refine gG_aload_n dX12_nextToken_264 rfl rfl ?_
        obtain ⟨fs, x11, e1, e2, h⟩ := h
        refine gG_gi dX12_nextToken_265 fl_X12_169 ⟨fs, x11, e1, e2, ?_⟩
        refine gG_bipush (v := 10) dX12_nextToken_268 (by decide) ?_
        refine gG_imul dX12_nextToken_270 ?_
        refine gG_aload_n dX12_nextToken_271 rfl rfl ?_
        refine gG_aload_n dX12_nextToken_272 rfl rfl ?_
        obtain ⟨fs, x12, e1, e2, h⟩ := h
        refine gG_gi dX12_nextToken_273 fl_X12_159 ⟨fs, x12, e1, e2, ?_⟩
        obtain ⟨hrc, d2, P2, hdd, hC, h⟩ := h
        refine gG_cvi (As := [.int (x12)]) (st := [.int ((x11 * (10 : Int32))), .ref (a0)]) dX12_nextToken_276 mV_X12_175 hdd hrc rfl rfl (Nat.le_of_ble_eq_true rfl) (Nat.le_refl _) ⟨Nat.le_refl _, Nat.le_refl _⟩ hC (fun H13 x14 hp => ?_)
        have h := h H13 x14 hp
        refine gG_iadd dX12_nextToken_279 ?_
        refine gG_bipush (v := 48) dX12_nextToken_280 (by decide) ?_
        refine gG_isub dX12_nextToken_282 ?_
        obtain ⟨fs, e1, e2, h⟩ := h
        refine gG_pi dX12_nextToken_283 fl_X12_169 ⟨fs, e1, e2, ?_⟩
        obtain ⟨H15, eH⟩ : ∃ z, z = va_up H13 (a0) (.inr (12, fs.set 8 (.int ((((x11 * (10 : Int32)) + x14) - (48 : Int32)))))) := ⟨_, rfl⟩
        rw [← eH] at h ⊢
        refine gG_aload_n dX12_nextToken_286 rfl rfl ?_
        refine gG_dup dX12_nextToken_287 rfl ?_
        obtain ⟨fs, x16, e1, e2, h⟩ := h
        refine gG_gi dX12_nextToken_288 fl_X12_159 ⟨fs, x16, e1, e2, ?_⟩
        refine gG_iconst (v := 1) dX12_nextToken_291 (by decide) ?_
        refine gG_iadd dX12_nextToken_292 ?_
        obtain ⟨fs, e1, e2, h⟩ := h
        refine gG_pi dX12_nextToken_293 fl_X12_159 ⟨fs, e1, e2, ?_⟩
        obtain ⟨H17, eH⟩ : ∃ z, z = va_up H15 (a0) (.inr (12, fs.set 4 (.int ((x16 + (1 : Int32)))))) := ⟨_, rfl⟩
        rw [← eH] at h ⊢
        refine gG_goto (tgt := 224) dX12_nextToken_296 (by decide) ?_
        refine gG_locals ?_ h
        exact ⟨rfl, trivial⟩
theorem kX12_nextToken_299 {d n : Nat} {H : gHp} {P : gHp → Prop} {a0 : Nat} (h : g_gi H (a0) 12 4 (fun x1 => g_gi H (a0) 12 5 (fun x2 => ((x1 - x2) ≤ (4 : Int32) → g_pf H (a0) 12 6 (.int ((2 : Int32))) (fun H3 => P H3)) ∧ (¬ ((x1 - x2) ≤ (4 : Int32)) → g_pf H (a0) 12 6 (.int ((4 : Int32))) (fun H4 => P H4))))) : gG d mX12_nextToken 0 0 (g_Xv mX12_nextToken n 0 0 P) 299 n H [some (.ref (a0)), none] [] 0 0 := by
  refine gG_aload_n dX12_nextToken_299 rfl rfl ?_
  refine gG_aload_n dX12_nextToken_300 rfl rfl ?_
  obtain ⟨fs, x1, e1, e2, h⟩ := h
  refine gG_gi dX12_nextToken_301 fl_X12_159 ⟨fs, x1, e1, e2, ?_⟩
  refine gG_aload_n dX12_nextToken_304 rfl rfl ?_
  obtain ⟨fs, x2, e1, e2, h⟩ := h
  refine gG_gi dX12_nextToken_305 fl_X12_162 ⟨fs, x2, e1, e2, ?_⟩
  refine gG_isub dX12_nextToken_308 ?_
  refine gG_iconst (v := 4) dX12_nextToken_309 (by decide) ?_
  refine gG_ic_le (tgt := 317) dX12_nextToken_310 (by decide) (fun c => ?_) (fun c => ?_)
  · have h := h.1 c
    refine gG_iconst (v := 2) dX12_nextToken_317 (by decide) ?_
    obtain ⟨fs, e1, e2, h⟩ := h
    refine gG_pi dX12_nextToken_318 fl_X12_172 ⟨fs, e1, e2, ?_⟩
    obtain ⟨H3, eH⟩ : ∃ z, z = va_up H (a0) (.inr (12, fs.set 6 (.int ((2 : Int32))))) := ⟨_, rfl⟩
    rw [← eH] at h ⊢
    exact gG_exit ⟨rfl, rfl, rfl, dX12_nextToken_321, rfl, h⟩
  · have h := h.2 c
    refine gG_iconst (v := 4) dX12_nextToken_313 (by decide) ?_
    refine gG_goto (tgt := 318) dX12_nextToken_314 (by decide) ?_
    obtain ⟨fs, e1, e2, h⟩ := h
    refine gG_pi dX12_nextToken_318 fl_X12_172 ⟨fs, e1, e2, ?_⟩
    obtain ⟨H4, eH⟩ : ∃ z, z = va_up H (a0) (.inr (12, fs.set 6 (.int ((4 : Int32))))) := ⟨_, rfl⟩
    rw [← eH] at h ⊢
    exact gG_exit ⟨rfl, rfl, rfl, dX12_nextToken_321, rfl, h⟩
theorem kX12_nextToken_322 {d n : Nat} {H : gHp} {P : gHp → Prop} {a0 : Nat} {i1 : Int32} (h : g_gi H (a0) 12 4 (fun x1 => g_pf H (a0) 12 4 (.int ((x1 + (1 : Int32)))) (fun H2 => (i1 < (40 : Int32) → (i1 = (45 : Int32) → g_pf H2 (a0) 12 6 (.int ((3 : Int32))) (fun H3 => P H3)) ∧ (¬ (i1 = (45 : Int32)) → (i1 < (59 : Int32) → g_pf H2 (a0) 12 6 (.int ((4 : Int32))) (fun H4 => P H4)) ∧ (¬ (i1 < (59 : Int32)) → ((61 : Int32) < i1 → g_pf H2 (a0) 12 6 (.int ((4 : Int32))) (fun H5 => P H5)) ∧ (¬ ((61 : Int32) < i1) → g_pf H2 (a0) 12 6 (.int ((3 : Int32))) (fun H6 => P H6))))) ∧ (¬ (i1 < (40 : Int32)) → (i1 ≤ (43 : Int32) → g_pf H2 (a0) 12 6 (.int ((3 : Int32))) (fun H7 => P H7)) ∧ (¬ (i1 ≤ (43 : Int32)) → (i1 = (45 : Int32) → g_pf H2 (a0) 12 6 (.int ((3 : Int32))) (fun H8 => P H8)) ∧ (¬ (i1 = (45 : Int32)) → (i1 < (59 : Int32) → g_pf H2 (a0) 12 6 (.int ((4 : Int32))) (fun H9 => P H9)) ∧ (¬ (i1 < (59 : Int32)) → ((61 : Int32) < i1 → g_pf H2 (a0) 12 6 (.int ((4 : Int32))) (fun H10 => P H10)) ∧ (¬ ((61 : Int32) < i1) → g_pf H2 (a0) 12 6 (.int ((3 : Int32))) (fun H11 => P H11))))))))) : gG d mX12_nextToken 0 0 (g_Xv mX12_nextToken n 0 0 P) 322 n H [some (.ref (a0)), some (.int (i1))] [] 0 0 := by
  refine gG_aload_n dX12_nextToken_322 rfl rfl ?_
  refine gG_dup dX12_nextToken_323 rfl ?_
  obtain ⟨fs, x1, e1, e2, h⟩ := h
  refine gG_gi dX12_nextToken_324 fl_X12_159 ⟨fs, x1, e1, e2, ?_⟩
  refine gG_iconst (v := 1) dX12_nextToken_327 (by decide) ?_
  refine gG_iadd dX12_nextToken_328 ?_
  obtain ⟨fs, e1, e2, h⟩ := h
  refine gG_pi dX12_nextToken_329 fl_X12_159 ⟨fs, e1, e2, ?_⟩
  obtain ⟨H2, eH⟩ : ∃ z, z = va_up H (a0) (.inr (12, fs.set 4 (.int ((x1 + (1 : Int32)))))) := ⟨_, rfl⟩
  rw [← eH] at h ⊢
  refine gG_aload_n dX12_nextToken_332 rfl rfl ?_
  refine gG_iload_n dX12_nextToken_333 rfl rfl ?_
  refine gG_bipush (v := 40) dX12_nextToken_334 (by decide) ?_
  refine gG_ic_lt (tgt := 345) dX12_nextToken_336 (by decide) (fun c => ?_) (fun c => ?_)
  · have h := h.1 c
    refine gG_iload_n dX12_nextToken_345 rfl rfl ?_
    refine gG_bipush (v := 45) dX12_nextToken_346 (by decide) ?_
    refine gG_ic_eq (tgt := 363) dX12_nextToken_348 (by decide) (fun c => ?_) (fun c => ?_)
    · have h := h.1 c
      refine gG_iconst (v := 3) dX12_nextToken_363 (by decide) ?_
      refine gG_goto (tgt := 368) dX12_nextToken_364 (by decide) ?_
      obtain ⟨fs, e1, e2, h⟩ := h
      refine gG_pi dX12_nextToken_368 fl_X12_172 ⟨fs, e1, e2, ?_⟩
      obtain ⟨H3, eH⟩ : ∃ z, z = va_up H2 (a0) (.inr (12, fs.set 6 (.int ((3 : Int32))))) := ⟨_, rfl⟩
      rw [← eH] at h ⊢
      exact gG_exit ⟨rfl, rfl, rfl, dX12_nextToken_371, rfl, h⟩
    · have h := h.2 c
      refine gG_iload_n dX12_nextToken_351 rfl rfl ?_
      refine gG_bipush (v := 59) dX12_nextToken_352 (by decide) ?_
      refine gG_ic_lt (tgt := 367) dX12_nextToken_354 (by decide) (fun c => ?_) (fun c => ?_)
      · have h := h.1 c
        refine gG_iconst (v := 4) dX12_nextToken_367 (by decide) ?_
        obtain ⟨fs, e1, e2, h⟩ := h
        refine gG_pi dX12_nextToken_368 fl_X12_172 ⟨fs, e1, e2, ?_⟩
        obtain ⟨H4, eH⟩ : ∃ z, z = va_up H2 (a0) (.inr (12, fs.set 6 (.int ((4 : Int32))))) := ⟨_, rfl⟩
        rw [← eH] at h ⊢
        exact gG_exit ⟨rfl, rfl, rfl, dX12_nextToken_371, rfl, h⟩
      · have h := h.2 c
        refine gG_iload_n dX12_nextToken_357 rfl rfl ?_
        refine gG_bipush (v := 61) dX12_nextToken_358 (by decide) ?_
        refine gG_ic_gt (tgt := 367) dX12_nextToken_360 (by decide) (fun c => ?_) (fun c => ?_)
        · have h := h.1 c
          refine gG_iconst (v := 4) dX12_nextToken_367 (by decide) ?_
          obtain ⟨fs, e1, e2, h⟩ := h
          refine gG_pi dX12_nextToken_368 fl_X12_172 ⟨fs, e1, e2, ?_⟩
          obtain ⟨H5, eH⟩ : ∃ z, z = va_up H2 (a0) (.inr (12, fs.set 6 (.int ((4 : Int32))))) := ⟨_, rfl⟩
          rw [← eH] at h ⊢
          exact gG_exit ⟨rfl, rfl, rfl, dX12_nextToken_371, rfl, h⟩
        · have h := h.2 c
          refine gG_iconst (v := 3) dX12_nextToken_363 (by decide) ?_
          refine gG_goto (tgt := 368) dX12_nextToken_364 (by decide) ?_
          obtain ⟨fs, e1, e2, h⟩ := h
          refine gG_pi dX12_nextToken_368 fl_X12_172 ⟨fs, e1, e2, ?_⟩
          obtain ⟨H6, eH⟩ : ∃ z, z = va_up H2 (a0) (.inr (12, fs.set 6 (.int ((3 : Int32))))) := ⟨_, rfl⟩
          rw [← eH] at h ⊢
          exact gG_exit ⟨rfl, rfl, rfl, dX12_nextToken_371, rfl, h⟩
  · have h := h.2 c
    refine gG_iload_n dX12_nextToken_339 rfl rfl ?_
    refine gG_bipush (v := 43) dX12_nextToken_340 (by decide) ?_
    refine gG_ic_le (tgt := 363) dX12_nextToken_342 (by decide) (fun c => ?_) (fun c => ?_)
    · have h := h.1 c
      refine gG_iconst (v := 3) dX12_nextToken_363 (by decide) ?_
      refine gG_goto (tgt := 368) dX12_nextToken_364 (by decide) ?_
      obtain ⟨fs, e1, e2, h⟩ := h
      refine gG_pi dX12_nextToken_368 fl_X12_172 ⟨fs, e1, e2, ?_⟩
      obtain ⟨H7, eH⟩ : ∃ z, z = va_up H2 (a0) (.inr (12, fs.set 6 (.int ((3 : Int32))))) := ⟨_, rfl⟩
      rw [← eH] at h ⊢
      exact gG_exit ⟨rfl, rfl, rfl, dX12_nextToken_371, rfl, h⟩
    · have h := h.2 c
      refine gG_iload_n dX12_nextToken_345 rfl rfl ?_
      refine gG_bipush (v := 45) dX12_nextToken_346 (by decide) ?_
      refine gG_ic_eq (tgt := 363) dX12_nextToken_348 (by decide) (fun c => ?_) (fun c => ?_)
      · have h := h.1 c
        refine gG_iconst (v := 3) dX12_nextToken_363 (by decide) ?_
        refine gG_goto (tgt := 368) dX12_nextToken_364 (by decide) ?_
        obtain ⟨fs, e1, e2, h⟩ := h
        refine gG_pi dX12_nextToken_368 fl_X12_172 ⟨fs, e1, e2, ?_⟩
        obtain ⟨H8, eH⟩ : ∃ z, z = va_up H2 (a0) (.inr (12, fs.set 6 (.int ((3 : Int32))))) := ⟨_, rfl⟩
        rw [← eH] at h ⊢
        exact gG_exit ⟨rfl, rfl, rfl, dX12_nextToken_371, rfl, h⟩
      · have h := h.2 c
        refine gG_iload_n dX12_nextToken_351 rfl rfl ?_
        refine gG_bipush (v := 59) dX12_nextToken_352 (by decide) ?_
        refine gG_ic_lt (tgt := 367) dX12_nextToken_354 (by decide) (fun c => ?_) (fun c => ?_)
        · have h := h.1 c
          refine gG_iconst (v := 4) dX12_nextToken_367 (by decide) ?_
          obtain ⟨fs, e1, e2, h⟩ := h
          refine gG_pi dX12_nextToken_368 fl_X12_172 ⟨fs, e1, e2, ?_⟩
          obtain ⟨H9, eH⟩ : ∃ z, z = va_up H2 (a0) (.inr (12, fs.set 6 (.int ((4 : Int32))))) := ⟨_, rfl⟩
          rw [← eH] at h ⊢
          exact gG_exit ⟨rfl, rfl, rfl, dX12_nextToken_371, rfl, h⟩
        · have h := h.2 c
          refine gG_iload_n dX12_nextToken_357 rfl rfl ?_
          refine gG_bipush (v := 61) dX12_nextToken_358 (by decide) ?_
          refine gG_ic_gt (tgt := 367) dX12_nextToken_360 (by decide) (fun c => ?_) (fun c => ?_)
          · have h := h.1 c
            refine gG_iconst (v := 4) dX12_nextToken_367 (by decide) ?_
            obtain ⟨fs, e1, e2, h⟩ := h
            refine gG_pi dX12_nextToken_368 fl_X12_172 ⟨fs, e1, e2, ?_⟩
            obtain ⟨H10, eH⟩ : ∃ z, z = va_up H2 (a0) (.inr (12, fs.set 6 (.int ((4 : Int32))))) := ⟨_, rfl⟩
            rw [← eH] at h ⊢
            exact gG_exit ⟨rfl, rfl, rfl, dX12_nextToken_371, rfl, h⟩
          · have h := h.2 c
            refine gG_iconst (v := 3) dX12_nextToken_363 (by decide) ?_
            refine gG_goto (tgt := 368) dX12_nextToken_364 (by decide) ?_
            obtain ⟨fs, e1, e2, h⟩ := h
            refine gG_pi dX12_nextToken_368 fl_X12_172 ⟨fs, e1, e2, ?_⟩
            obtain ⟨H11, eH⟩ : ∃ z, z = va_up H2 (a0) (.inr (12, fs.set 6 (.int ((3 : Int32))))) := ⟨_, rfl⟩
            rw [← eH] at h ⊢
            exact gG_exit ⟨rfl, rfl, rfl, dX12_nextToken_371, rfl, h⟩

theorem kX12_isWord_0 {d n : Nat} {H : gHp} {P : gHp → Bool → Prop} {a0 : Nat} {j1 : Int64} (h : g_gi H (a0) 12 6 (fun x1 => (¬ (x1 = (1 : Int32)) → P H false) ∧ (x1 = (1 : Int32) → g_gl H (a0) 12 7 (fun y2 => (¬ ((lg_cmp y2 j1) = 0) → P H false) ∧ ((lg_cmp y2 j1) = 0 → P H true))))) : gG d mX12_isWord 0 0 (g_Xz mX12_isWord n 0 0 P) 0 n H [some (.ref (a0)), some (.long (j1)), none] [] 0 0 := by
  refine gG_aload_n dX12_isWord_0 rfl rfl ?_
  obtain ⟨fs, x1, e1, e2, h⟩ := h
  refine gG_gi dX12_isWord_1 fl_X12_172 ⟨fs, x1, e1, e2, ?_⟩
  refine gG_iconst (v := 1) dX12_isWord_4 (by decide) ?_
  refine gG_ic_ne (tgt := 21) dX12_isWord_5 (by decide) (fun c => ?_) (fun c => ?_)
  · have h := h.1 c
    refine gG_iconst (v := 0) dX12_isWord_21 (by decide) ?_
    exact gG_exit ⟨rfl, rfl, rfl, dX12_isWord_22, false, rfl, h⟩
  · have h := h.2 c
    refine gG_aload_n dX12_isWord_8 rfl rfl ?_
    obtain ⟨fs, y2, e1, e2, h⟩ := h
    refine gG_gl dX12_isWord_9 fl_X12_165 ⟨fs, y2, e1, e2, ?_⟩
    refine gG_lload_n dX12_isWord_12 rfl rfl ?_
    refine gG_lcmp dX12_isWord_13 ?_
    refine gG_if_ne (tgt := 21) dX12_isWord_14 (by decide) (fun c => ?_) (fun c => ?_)
    · have h := h.1 c
      refine gG_iconst (v := 0) dX12_isWord_21 (by decide) ?_
      exact gG_exit ⟨rfl, rfl, rfl, dX12_isWord_22, false, rfl, h⟩
    · have h := h.2 c
      refine gG_iconst (v := 1) dX12_isWord_17 (by decide) ?_
      refine gG_goto (tgt := 22) dX12_isWord_18 (by decide) ?_
      exact gG_exit ⟨rfl, rfl, rfl, dX12_isWord_22, true, rfl, h⟩

theorem kX12_isSign_0 {d n : Nat} {H : gHp} {P : gHp → Bool → Prop} {a0 : Nat} {i1 : Int32} (h : g_gi H (a0) 12 6 (fun x1 => (¬ (x1 = (3 : Int32)) → P H false) ∧ (x1 = (3 : Int32) → g_gr H (a0) 12 2 (fun q2 => g_gi H (a0) 12 5 (fun x3 => g_al 0 H (q2) (x3) (fun x4 => (¬ (x4 = i1) → P H false) ∧ (x4 = i1 → P H true))))))) : gG d mX12_isSign 0 0 (g_Xz mX12_isSign n 0 0 P) 0 n H [some (.ref (a0)), some (.int (i1))] [] 0 0 := by
  refine gG_aload_n dX12_isSign_0 rfl rfl ?_
  obtain ⟨fs, x1, e1, e2, h⟩ := h
  refine gG_gi dX12_isSign_1 fl_X12_172 ⟨fs, x1, e1, e2, ?_⟩
  refine gG_iconst (v := 3) dX12_isSign_4 (by decide) ?_
  refine gG_ic_ne (tgt := 25) dX12_isSign_5 (by decide) (fun c => ?_) (fun c => ?_)
  · have h := h.1 c
    refine gG_iconst (v := 0) dX12_isSign_25 (by decide) ?_
    exact gG_exit ⟨rfl, rfl, rfl, dX12_isSign_26, false, rfl, h⟩
  · have h := h.2 c
    refine gG_aload_n dX12_isSign_8 rfl rfl ?_
    obtain ⟨fs, q2, e1, e2, h⟩ := h
    refine gG_gr dX12_isSign_9 fl_X12_7 ⟨fs, q2, e1, e2, ?_⟩
    refine gG_aload_n dX12_isSign_12 rfl rfl ?_
    obtain ⟨fs, x3, e1, e2, h⟩ := h
    refine gG_gi dX12_isSign_13 fl_X12_162 ⟨fs, x3, e1, e2, ?_⟩
    obtain ⟨m0, f0, e1, e2, h⟩ := h
    refine gG_iald dX12_isSign_16 ⟨m0, f0, e1, e2, ?_⟩
    obtain ⟨x4, eH⟩ : ∃ z, z = f0 (Int32.toNatClampNeg (x3)) := ⟨_, rfl⟩
    rw [← eH] at h ⊢
    refine gG_iload_n dX12_isSign_17 rfl rfl ?_
    refine gG_ic_ne (tgt := 25) dX12_isSign_18 (by decide) (fun c => ?_) (fun c => ?_)
    · have h := h.1 c
      refine gG_iconst (v := 0) dX12_isSign_25 (by decide) ?_
      exact gG_exit ⟨rfl, rfl, rfl, dX12_isSign_26, false, rfl, h⟩
    · have h := h.2 c
      refine gG_iconst (v := 1) dX12_isSign_21 (by decide) ?_
      refine gG_goto (tgt := 26) dX12_isSign_22 (by decide) ?_
      exact gG_exit ⟨rfl, rfl, rfl, dX12_isSign_26, true, rfl, h⟩

theorem kX12_fails_0 {d n : Nat} {H : gHp} {P : gHp → Bool → Prop} {a0 : Nat} {i1 : Int32} (h : g_gi H (a0) 12 5 (fun x1 => g_pf H (a0) 12 9 (.int ((i1 + ((16 : Int32) * x1)))) (fun H2 => P H2 false))) : gG d mX12_fails 0 0 (g_Xz mX12_fails n 0 0 P) 0 n H [some (.ref (a0)), some (.int (i1))] [] 0 0 := by
  refine gG_aload_n dX12_fails_0 rfl rfl ?_
  refine gG_iload_n dX12_fails_1 rfl rfl ?_
  refine gG_bipush (v := 16) dX12_fails_2 (by decide) ?_
  refine gG_aload_n dX12_fails_4 rfl rfl ?_
  obtain ⟨fs, x1, e1, e2, h⟩ := h
  refine gG_gi dX12_fails_5 fl_X12_162 ⟨fs, x1, e1, e2, ?_⟩
  refine gG_imul dX12_fails_8 ?_
  refine gG_iadd dX12_fails_9 ?_
  obtain ⟨fs, e1, e2, h⟩ := h
  refine gG_pi dX12_fails_10 fl_X12_183 ⟨fs, e1, e2, ?_⟩
  obtain ⟨H2, eH⟩ : ∃ z, z = va_up H (a0) (.inr (12, fs.set 9 (.int ((i1 + ((16 : Int32) * x1)))))) := ⟨_, rfl⟩
  rw [← eH] at h ⊢
  refine gG_iconst (v := 0) dX12_fails_13 (by decide) ?_
  exact gG_exit ⟨rfl, rfl, rfl, dX12_fails_14, false, rfl, h⟩

theorem kX12_puts_0 {d n : Nat} {H : gHp} {P : gHp → Prop} {a0 : Nat} {i1 : Int32} (h : g_gr H (a0) 12 22 (fun q1 => g_gi H (a0) 12 23 (fun x2 => g_as 0 H (q1) (x2) (i1) (fun H3 => g_gi H3 (a0) 12 23 (fun x4 => g_pf H3 (a0) 12 23 (.int ((x4 + (1 : Int32)))) (fun H5 => P H5)))))) : gG d mX12_puts 0 0 (g_Xv mX12_puts n 0 0 P) 0 n H [some (.ref (a0)), some (.int (i1))] [] 0 0 := by
  refine gG_aload_n dX12_puts_0 rfl rfl ?_
  obtain ⟨fs, q1, e1, e2, h⟩ := h
  refine gG_gr dX12_puts_1 fl_X12_50 ⟨fs, q1, e1, e2, ?_⟩
  refine gG_aload_n dX12_puts_4 rfl rfl ?_
  obtain ⟨fs, x2, e1, e2, h⟩ := h
  refine gG_gi dX12_puts_5 fl_X12_186 ⟨fs, x2, e1, e2, ?_⟩
  refine gG_iload_n dX12_puts_8 rfl rfl ?_
  obtain ⟨m0, f0, e1, e2, h⟩ := h
  refine gG_iast dX12_puts_9 ⟨m0, f0, e1, e2, ?_⟩
  obtain ⟨H3, eH⟩ : ∃ z, z = va_up H (q1) (.inl (0, m0, .inl (upd f0 (Int32.toNatClampNeg (x2)) (i1)))) := ⟨_, rfl⟩
  rw [← eH] at h ⊢
  refine gG_aload_n dX12_puts_10 rfl rfl ?_
  refine gG_dup dX12_puts_11 rfl ?_
  obtain ⟨fs, x4, e1, e2, h⟩ := h
  refine gG_gi dX12_puts_12 fl_X12_186 ⟨fs, x4, e1, e2, ?_⟩
  refine gG_iconst (v := 1) dX12_puts_15 (by decide) ?_
  refine gG_iadd dX12_puts_16 ?_
  obtain ⟨fs, e1, e2, h⟩ := h
  refine gG_pi dX12_puts_17 fl_X12_186 ⟨fs, e1, e2, ?_⟩
  obtain ⟨H5, eH⟩ : ∃ z, z = va_up H3 (a0) (.inr (12, fs.set 23 (.int ((x4 + (1 : Int32)))))) := ⟨_, rfl⟩
  rw [← eH] at h ⊢
  exact gG_exit ⟨rfl, rfl, rfl, dX12_puts_20, rfl, h⟩

theorem kX12_fact_0 {d n : Nat} {H : gHp} {P : gHp → Int32 → Prop} {a0 : Nat} (h : g_gi H (a0) 12 6 (fun x1 => (x1 = (1 : Int32) → g_gl H (a0) 12 7 (fun y2 => (¬ ((lg_cmp y2 (127274 : Int64)) = 0) → g_gl H (a0) 12 7 (fun y3 => (¬ ((lg_cmp y3 (283288069 : Int64)) = 0) → g_gl H (a0) 12 7 (fun y4 => (¬ ((lg_cmp y4 (394725 : Int64)) = 0) → g_gl H (a0) 12 7 (fun y5 => (¬ ((lg_cmp y5 (16922 : Int64)) = 0) → P H ((0 : Int32))) ∧ ((lg_cmp y5 (16922 : Int64)) = 0 → P H ((4 : Int32))))) ∧ ((lg_cmp y4 (394725 : Int64)) = 0 → P H ((3 : Int32))))) ∧ ((lg_cmp y3 (283288069 : Int64)) = 0 → P H ((2 : Int32))))) ∧ ((lg_cmp y2 (127274 : Int64)) = 0 → P H ((1 : Int32))))) ∧ (¬ (x1 = (1 : Int32)) → P H ((0 : Int32))))) : gG d mX12_fact 0 0 (g_Xj mX12_fact n 0 0 P) 0 n H [some (.ref (a0))] [] 0 0 := by
  refine gG_aload_n dX12_fact_0 rfl rfl ?_
  obtain ⟨fs, x1, e1, e2, h⟩ := h
  refine gG_gi dX12_fact_1 fl_X12_172 ⟨fs, x1, e1, e2, ?_⟩
  refine gG_iconst (v := 1) dX12_fact_4 (by decide) ?_
  refine gG_ic_eq (tgt := 10) dX12_fact_5 (by decide) (fun c => ?_) (fun c => ?_)
  · have h := h.1 c
    refine gG_aload_n dX12_fact_10 rfl rfl ?_
    obtain ⟨fs, y2, e1, e2, h⟩ := h
    refine gG_gl dX12_fact_11 fl_X12_165 ⟨fs, y2, e1, e2, ?_⟩
    refine gG_ldc2 dX12_fact_14 cl_X12_189 ?_
    refine gG_lcmp dX12_fact_17 ?_
    refine gG_if_ne (tgt := 23) dX12_fact_18 (by decide) (fun c => ?_) (fun c => ?_)
    · have h := h.1 c
      refine gG_aload_n dX12_fact_23 rfl rfl ?_
      obtain ⟨fs, y3, e1, e2, h⟩ := h
      refine gG_gl dX12_fact_24 fl_X12_165 ⟨fs, y3, e1, e2, ?_⟩
      refine gG_ldc2 dX12_fact_27 cl_X12_191 ?_
      refine gG_lcmp dX12_fact_30 ?_
      refine gG_if_ne (tgt := 36) dX12_fact_31 (by decide) (fun c => ?_) (fun c => ?_)
      · have h := h.1 c
        refine gG_aload_n dX12_fact_36 rfl rfl ?_
        obtain ⟨fs, y4, e1, e2, h⟩ := h
        refine gG_gl dX12_fact_37 fl_X12_165 ⟨fs, y4, e1, e2, ?_⟩
        refine gG_ldc2 dX12_fact_40 cl_X12_193 ?_
        refine gG_lcmp dX12_fact_43 ?_
        refine gG_if_ne (tgt := 51) dX12_fact_44 (by decide) (fun c => ?_) (fun c => ?_)
        · have h := h.1 c
          refine gG_aload_n dX12_fact_51 rfl rfl ?_
          obtain ⟨fs, y5, e1, e2, h⟩ := h
          refine gG_gl dX12_fact_52 fl_X12_165 ⟨fs, y5, e1, e2, ?_⟩
          refine gG_ldc2 dX12_fact_55 cl_X12_195 ?_
          refine gG_lcmp dX12_fact_58 ?_
          refine gG_if_ne (tgt := 66) dX12_fact_59 (by decide) (fun c => ?_) (fun c => ?_)
          · have h := h.1 c
            refine gG_iconst (v := 0) dX12_fact_66 (by decide) ?_
            exact gG_exit ⟨rfl, rfl, rfl, dX12_fact_67, _, rfl, h⟩
          · have h := h.2 c
            refine gG_iconst (v := 4) dX12_fact_62 (by decide) ?_
            refine gG_goto (tgt := 67) dX12_fact_63 (by decide) ?_
            exact gG_exit ⟨rfl, rfl, rfl, dX12_fact_67, _, rfl, h⟩
        · have h := h.2 c
          refine gG_iconst (v := 3) dX12_fact_47 (by decide) ?_
          refine gG_goto (tgt := 67) dX12_fact_48 (by decide) ?_
          exact gG_exit ⟨rfl, rfl, rfl, dX12_fact_67, _, rfl, h⟩
      · have h := h.2 c
        refine gG_iconst (v := 2) dX12_fact_34 (by decide) ?_
        exact gG_exit ⟨rfl, rfl, rfl, dX12_fact_35, _, rfl, h⟩
    · have h := h.2 c
      refine gG_iconst (v := 1) dX12_fact_21 (by decide) ?_
      exact gG_exit ⟨rfl, rfl, rfl, dX12_fact_22, _, rfl, h⟩
  · have h := h.2 c
    refine gG_iconst (v := 0) dX12_fact_8 (by decide) ?_
    exact gG_exit ⟨rfl, rfl, rfl, dX12_fact_9, _, rfl, h⟩

theorem kX12_readsLaw_0 {d n : Nat} {H : gHp} {P : gHp → Bool → Prop} {a0 : Nat} (h : g_gr H (a0) 12 25 (fun q1 => g_as 3 H (q1) ((0 : Int32)) (vp_nar .boolean ((0 : Int32))) (fun H2 => gG d mX12_readsLaw 0 0 (g_Xz mX12_readsLaw n 0 0 P) 11 n H2 [some (.ref (a0)), some (.int ((0 : Int32))), some (.int ((1 : Int32))), none, none, none] [] (0) (0)))) : gG d mX12_readsLaw 0 0 (g_Xz mX12_readsLaw n 0 0 P) 0 n H [some (.ref (a0)), none, none, none, none, none] [] 0 0 := by
  refine gG_iconst (v := 0) dX12_readsLaw_0 (by decide) ?_
  refine gG_istore_n dX12_readsLaw_1 rfl (Nat.le_of_ble_eq_true rfl) ?_
  refine gG_iconst (v := 1) dX12_readsLaw_2 (by decide) ?_
  refine gG_istore_n dX12_readsLaw_3 rfl (Nat.le_of_ble_eq_true rfl) ?_
  refine gG_aload_n dX12_readsLaw_4 rfl rfl ?_
  obtain ⟨fs, q1, e1, e2, h⟩ := h
  refine gG_gr dX12_readsLaw_5 fl_X12_56 ⟨fs, q1, e1, e2, ?_⟩
  refine gG_iconst (v := 0) dX12_readsLaw_8 (by decide) ?_
  refine gG_iconst (v := 0) dX12_readsLaw_9 (by decide) ?_
  obtain ⟨m0, f0, e1, e2, h⟩ := h
  refine gG_zast dX12_readsLaw_10 ⟨m0, f0, e1, e2, ?_⟩
  obtain ⟨H2, eH⟩ : ∃ z, z = va_up H (q1) (.inl (3, m0, .inl (upd f0 (Int32.toNatClampNeg ((0 : Int32))) (vp_nar .boolean ((0 : Int32)))))) := ⟨_, rfl⟩
  rw [← eH] at h ⊢
  refine gG_locals ?_ h
  exact ⟨rfl, ⟨rfl, ⟨rfl, trivial⟩⟩⟩
theorem kX12_readsLaw_11 {d n : Nat} {H : gHp} {P : gHp → Bool → Prop} {a0 : Nat} {i1 : Int32} {i2 : Int32} (h : (i2 = 0 → (∃ fs, H (a0) = .inr (12, fs)) ∧ g_cz d mX12_isSign n H [.ref (a0), .int ((43 : Int32))] (fun H1 b2 => (b2 = true → gG d mX12_readsLaw 0 0 (g_Xz mX12_readsLaw n 0 0 P) 206 n H1 [some (.ref (a0)), some (.int (i1)), none, none, none, none] [] (0) (0)) ∧ (b2 = false → (∃ fs, H1 (a0) = .inr (12, fs)) ∧ g_cz d mX12_isSign n H1 [.ref (a0), .int ((45 : Int32))] (fun H3 b4 => (b4 = true → gG d mX12_readsLaw 0 0 (g_Xz mX12_readsLaw n 0 0 P) 206 n H3 [some (.ref (a0)), some (.int (i1)), none, none, none, none] [] (0) (0)) ∧ (b4 = false → (∃ fs, H3 (a0) = .inr (12, fs)) ∧ g_cz d mX12_isSign n H3 [.ref (a0), .int ((42 : Int32))] (fun H5 b6 => (b6 = false → (∃ fs, H5 (a0) = .inr (12, fs)) ∧ g_cz d mX12_isSign n H5 [.ref (a0), .int ((60 : Int32))] (fun H7 b8 => (b8 = true → gG d mX12_readsLaw 0 0 (g_Xz mX12_readsLaw n 0 0 P) 263 n H7 [some (.ref (a0)), some (.int (i1)), some (.int (i2)), none, none, none] [] (0) (0)) ∧ (b8 = false → (∃ fs, H7 (a0) = .inr (12, fs)) ∧ g_cz d mX12_isSign n H7 [.ref (a0), .int ((61 : Int32))] (fun H9 b10 => (b10 = false → gG d mX12_readsLaw 0 0 (g_Xz mX12_readsLaw n 0 0 P) 304 n H9 [some (.ref (a0)), some (.int (i1)), some (.int (i2)), none, none, none] [] (0) (0)) ∧ (b10 = true → gG d mX12_readsLaw 0 0 (g_Xz mX12_readsLaw n 0 0 P) 263 n H9 [some (.ref (a0)), some (.int (i1)), some (.int (i2)), none, none, none] [] (0) (0)))))) ∧ (b6 = true → gG d mX12_readsLaw 0 0 (g_Xz mX12_readsLaw n 0 0 P) 206 n H5 [some (.ref (a0)), some (.int (i1)), none, none, none, none] [] (0) (0)))))))) ∧ (¬ (i2 = 0) → (∃ fs, H (a0) = .inr (12, fs)) ∧ g_ci d mX12_fact n H [.ref (a0)] (fun H11 x12 => (∃ fs, H11 (a0) = .inr (12, fs)) ∧ g_cz d mX12_isWord n H11 [.ref (a0), .long ((10631 : Int64))] (fun H13 b14 => (∃ fs, H13 (a0) = .inr (12, fs)) ∧ g_cz d mX12_isSign n H13 [.ref (a0), .int ((40 : Int32))] (fun H15 b16 => (¬ (x12 = 0) → gG d mX12_readsLaw 0 0 (g_Xz mX12_readsLaw n 0 0 P) 65 n H15 [some (.ref (a0)), some (.int (i1)), some (.int (i2)), some (.int (x12)), some (.int (g_b b14)), some (.int (g_b b16))] [] (0) (0)) ∧ (x12 = 0 → (b14 = true → gG d mX12_readsLaw 0 0 (g_Xz mX12_readsLaw n 0 0 P) 65 n H15 [some (.ref (a0)), some (.int (i1)), some (.int (i2)), some (.int (x12)), some (.int (g_b b14)), some (.int (g_b b16))] [] (0) (0)) ∧ (b14 = false → (b16 = true → gG d mX12_readsLaw 0 0 (g_Xz mX12_readsLaw n 0 0 P) 65 n H15 [some (.ref (a0)), some (.int (i1)), some (.int (i2)), some (.int (x12)), some (.int (g_b b14)), some (.int (g_b b16))] [] (0) (0)) ∧ (b16 = false → g_gi H15 (a0) 12 6 (fun x17 => (x17 = (2 : Int32) → gG d mX12_readsLaw 0 0 (g_Xz mX12_readsLaw n 0 0 P) 65 n H15 [some (.ref (a0)), some (.int (i1)), some (.int (i2)), some (.int (x12)), some (.int (g_b b14)), some (.int (g_b b16))] [] (0) (0)) ∧ (¬ (x17 = (2 : Int32)) → (∃ fs, H15 (a0) = .inr (12, fs)) ∧ g_cz d mX12_fails n H15 [.ref (a0), .int ((1 : Int32))] (fun H18 b19 => P H18 b19))))))))))) : gG d mX12_readsLaw 0 0 (g_Xz mX12_readsLaw n 0 0 P) 11 n H [some (.ref (a0)), some (.int (i1)), some (.int (i2)), none, none, none] [] 0 0 := by
  refine gG_iload_n dX12_readsLaw_11 rfl rfl ?_
  refine gG_if_eq (tgt := 179) dX12_readsLaw_12 (by decide) (fun c => ?_) (fun c => ?_)
  · have h := h.1 c
    refine gG_aload_n dX12_readsLaw_179 rfl rfl ?_
    refine gG_bipush (v := 43) dX12_readsLaw_180 (by decide) ?_
    obtain ⟨hrc, d2, P2, hdd, hC, h⟩ := h
    refine gG_cvi (As := [.int ((43 : Int32))]) (st := []) dX12_readsLaw_182 mV_X12_207 hdd hrc rfl rfl (Nat.le_of_ble_eq_true rfl) (Nat.le_refl _) ⟨Nat.le_refl _, Nat.le_refl _⟩ hC (fun H1 x9 hp => ?_)
    obtain ⟨b2, rfl, hp⟩ := hp
    have h := h H1 b2 hp
    refine gG_if_ne (tgt := 206) dX12_readsLaw_185 (by decide) (fun c => ?_) (fun c => ?_)
    · have h := h.1 (g_b_t c)
      refine gG_locals ?_ h
      exact ⟨rfl, ⟨rfl, trivial⟩⟩
    · have h := h.2 (g_b_f c)
      refine gG_aload_n dX12_readsLaw_188 rfl rfl ?_
      refine gG_bipush (v := 45) dX12_readsLaw_189 (by decide) ?_
      obtain ⟨hrc, d2, P2, hdd, hC, h⟩ := h
      refine gG_cvi (As := [.int ((45 : Int32))]) (st := []) dX12_readsLaw_191 mV_X12_207 hdd hrc rfl rfl (Nat.le_of_ble_eq_true rfl) (Nat.le_refl _) ⟨Nat.le_refl _, Nat.le_refl _⟩ hC (fun H3 x9 hp => ?_)
      obtain ⟨b4, rfl, hp⟩ := hp
      have h := h H3 b4 hp
      refine gG_if_ne (tgt := 206) dX12_readsLaw_194 (by decide) (fun c => ?_) (fun c => ?_)
      · have h := h.1 (g_b_t c)
        refine gG_locals ?_ h
        exact ⟨rfl, ⟨rfl, trivial⟩⟩
      · have h := h.2 (g_b_f c)
        refine gG_aload_n dX12_readsLaw_197 rfl rfl ?_
        refine gG_bipush (v := 42) dX12_readsLaw_198 (by decide) ?_
        obtain ⟨hrc, d2, P2, hdd, hC, h⟩ := h
        refine gG_cvi (As := [.int ((42 : Int32))]) (st := []) dX12_readsLaw_200 mV_X12_207 hdd hrc rfl rfl (Nat.le_of_ble_eq_true rfl) (Nat.le_refl _) ⟨Nat.le_refl _, Nat.le_refl _⟩ hC (fun H5 x9 hp => ?_)
        obtain ⟨b6, rfl, hp⟩ := hp
        have h := h H5 b6 hp
        refine gG_if_eq (tgt := 245) dX12_readsLaw_203 (by decide) (fun c => ?_) (fun c => ?_)
        · have h := h.1 (g_b_f c)
          refine gG_aload_n dX12_readsLaw_245 rfl rfl ?_
          refine gG_bipush (v := 60) dX12_readsLaw_246 (by decide) ?_
          obtain ⟨hrc, d2, P2, hdd, hC, h⟩ := h
          refine gG_cvi (As := [.int ((60 : Int32))]) (st := []) dX12_readsLaw_248 mV_X12_207 hdd hrc rfl rfl (Nat.le_of_ble_eq_true rfl) (Nat.le_refl _) ⟨Nat.le_refl _, Nat.le_refl _⟩ hC (fun H7 x9 hp => ?_)
          obtain ⟨b8, rfl, hp⟩ := hp
          have h := h H7 b8 hp
          refine gG_if_ne (tgt := 263) dX12_readsLaw_251 (by decide) (fun c => ?_) (fun c => ?_)
          · have h := h.1 (g_b_t c)
            refine gG_locals ?_ h
            exact ⟨rfl, ⟨rfl, ⟨rfl, trivial⟩⟩⟩
          · have h := h.2 (g_b_f c)
            refine gG_aload_n dX12_readsLaw_254 rfl rfl ?_
            refine gG_bipush (v := 61) dX12_readsLaw_255 (by decide) ?_
            obtain ⟨hrc, d2, P2, hdd, hC, h⟩ := h
            refine gG_cvi (As := [.int ((61 : Int32))]) (st := []) dX12_readsLaw_257 mV_X12_207 hdd hrc rfl rfl (Nat.le_of_ble_eq_true rfl) (Nat.le_refl _) ⟨Nat.le_refl _, Nat.le_refl _⟩ hC (fun H9 x9 hp => ?_)
            obtain ⟨b10, rfl, hp⟩ := hp
            have h := h H9 b10 hp
            refine gG_if_eq (tgt := 304) dX12_readsLaw_260 (by decide) (fun c => ?_) (fun c => ?_)
            · have h := h.1 (g_b_f c)
              refine gG_locals ?_ h
              exact ⟨rfl, ⟨rfl, ⟨rfl, trivial⟩⟩⟩
            · have h := h.2 (g_b_t c)
              refine gG_locals ?_ h
              exact ⟨rfl, ⟨rfl, ⟨rfl, trivial⟩⟩⟩
        · have h := h.2 (g_b_t c)
          refine gG_locals ?_ h
          exact ⟨rfl, ⟨rfl, trivial⟩⟩
  · have h := h.2 c
    refine gG_aload_n dX12_readsLaw_15 rfl rfl ?_
    obtain ⟨hrc, d2, P2, hdd, hC, h⟩ := h
    refine gG_cvi (As := []) (st := []) dX12_readsLaw_16 mV_X12_197 hdd hrc rfl rfl (Nat.le_of_ble_eq_true rfl) (Nat.le_refl _) ⟨Nat.le_refl _, Nat.le_refl _⟩ hC (fun H11 x12 hp => ?_)
    have h := h H11 x12 hp
    refine gG_istore_n dX12_readsLaw_19 rfl (Nat.le_of_ble_eq_true rfl) ?_
    refine gG_aload_n dX12_readsLaw_20 rfl rfl ?_
    refine gG_ldc2 dX12_readsLaw_21 cl_X12_201 ?_
    obtain ⟨hrc, d2, P2, hdd, hC, h⟩ := h
    refine gG_cvi (As := [.long ((10631 : Int64))]) (st := []) dX12_readsLaw_24 mV_X12_203 hdd hrc rfl rfl (Nat.le_of_ble_eq_true rfl) (Nat.le_refl _) ⟨Nat.le_refl _, Nat.le_refl _⟩ hC (fun H13 x9 hp => ?_)
    obtain ⟨b14, rfl, hp⟩ := hp
    have h := h H13 b14 hp
    refine gG_istore dX12_readsLaw_27 (Nat.le_of_ble_eq_true rfl) ?_
    refine gG_aload_n dX12_readsLaw_29 rfl rfl ?_
    refine gG_bipush (v := 40) dX12_readsLaw_30 (by decide) ?_
    obtain ⟨hrc, d2, P2, hdd, hC, h⟩ := h
    refine gG_cvi (As := [.int ((40 : Int32))]) (st := []) dX12_readsLaw_32 mV_X12_207 hdd hrc rfl rfl (Nat.le_of_ble_eq_true rfl) (Nat.le_refl _) ⟨Nat.le_refl _, Nat.le_refl _⟩ hC (fun H15 x9 hp => ?_)
    obtain ⟨b16, rfl, hp⟩ := hp
    have h := h H15 b16 hp
    refine gG_istore dX12_readsLaw_35 (Nat.le_of_ble_eq_true rfl) ?_
    refine gG_iload_n dX12_readsLaw_37 rfl rfl ?_
    refine gG_if_ne (tgt := 65) dX12_readsLaw_38 (by decide) (fun c => ?_) (fun c => ?_)
    · have h := h.1 c
      refine gG_locals ?_ h
      exact ⟨rfl, ⟨rfl, ⟨rfl, ⟨rfl, ⟨rfl, ⟨rfl, trivial⟩⟩⟩⟩⟩⟩
    · have h := h.2 c
      refine gG_iload dX12_readsLaw_41 rfl ?_
      refine gG_if_ne (tgt := 65) dX12_readsLaw_43 (by decide) (fun c => ?_) (fun c => ?_)
      · have h := h.1 (g_b_t c)
        refine gG_locals ?_ h
        exact ⟨rfl, ⟨rfl, ⟨rfl, ⟨rfl, ⟨rfl, ⟨rfl, trivial⟩⟩⟩⟩⟩⟩
      · have h := h.2 (g_b_f c)
        refine gG_iload dX12_readsLaw_46 rfl ?_
        refine gG_if_ne (tgt := 65) dX12_readsLaw_48 (by decide) (fun c => ?_) (fun c => ?_)
        · have h := h.1 (g_b_t c)
          refine gG_locals ?_ h
          exact ⟨rfl, ⟨rfl, ⟨rfl, ⟨rfl, ⟨rfl, ⟨rfl, trivial⟩⟩⟩⟩⟩⟩
        · have h := h.2 (g_b_f c)
          refine gG_aload_n dX12_readsLaw_51 rfl rfl ?_
          obtain ⟨fs, x17, e1, e2, h⟩ := h
          refine gG_gi dX12_readsLaw_52 fl_X12_172 ⟨fs, x17, e1, e2, ?_⟩
          refine gG_iconst (v := 2) dX12_readsLaw_55 (by decide) ?_
          refine gG_ic_eq (tgt := 65) dX12_readsLaw_56 (by decide) (fun c => ?_) (fun c => ?_)
          · have h := h.1 c
            refine gG_locals ?_ h
            exact ⟨rfl, ⟨rfl, ⟨rfl, ⟨rfl, ⟨rfl, ⟨rfl, trivial⟩⟩⟩⟩⟩⟩
          · have h := h.2 c
            refine gG_aload_n dX12_readsLaw_59 rfl rfl ?_
            refine gG_iconst (v := 1) dX12_readsLaw_60 (by decide) ?_
            obtain ⟨hrc, d2, P2, hdd, hC, h⟩ := h
            refine gG_cvi (As := [.int ((1 : Int32))]) (st := []) dX12_readsLaw_61 mV_X12_211 hdd hrc rfl rfl (Nat.le_of_ble_eq_true rfl) (Nat.le_refl _) ⟨Nat.le_refl _, Nat.le_refl _⟩ hC (fun H18 x9 hp => ?_)
            obtain ⟨b19, rfl, hp⟩ := hp
            have h := h H18 b19 hp
            exact gG_exit ⟨rfl, rfl, rfl, dX12_readsLaw_64, b19, rfl, h⟩
theorem kX12_readsLaw_65 {d n : Nat} {H : gHp} {P : gHp → Bool → Prop} {a0 : Nat} {i1 : Int32} {i2 : Int32} {i3 : Int32} {i4 : Int32} {i5 : Int32} (h : (¬ (i1 = (5 : Int32)) → (¬ (i4 = 0) → gG d mX12_readsLaw 0 0 (g_Xz mX12_readsLaw n 0 0 P) 86 n H [some (.ref (a0)), some (.int (i1)), some (.int (i2)), none, some (.int (i4)), none] [] (0) (0)) ∧ (i4 = 0 → (i5 = 0 → (i3 ≤ 0 → g_gi H (a0) 12 8 (fun x1 => (∃ fs, H (a0) = .inr (12, fs)) ∧ g_cvd d mX12_puts n H [.ref (a0), .int (((100 : Int32) + x1))] (fun H2 => gG d mX12_readsLaw 0 0 (g_Xz mX12_readsLaw n 0 0 P) 152 n H2 [some (.ref (a0)), some (.int (i1)), some (.int ((0 : Int32))), none, none, none] [] (0) (0)))) ∧ (¬ (i3 ≤ 0) → (∃ fs, H (a0) = .inr (12, fs)) ∧ g_cvd d mX12_puts n H [.ref (a0), .int (i3)] (fun H3 => gG d mX12_readsLaw 0 0 (g_Xz mX12_readsLaw n 0 0 P) 152 n H3 [some (.ref (a0)), some (.int (i1)), some (.int ((0 : Int32))), none, none, none] [] (0) (0)))) ∧ (¬ (i5 = 0) → gG d mX12_readsLaw 0 0 (g_Xz mX12_readsLaw n 0 0 P) 86 n H [some (.ref (a0)), some (.int (i1)), some (.int (i2)), none, some (.int (i4)), none] [] (0) (0)))) ∧ (i1 = (5 : Int32) → (∃ fs, H (a0) = .inr (12, fs)) ∧ g_cz d mX12_fails n H [.ref (a0), .int ((5 : Int32))] (fun H4 b5 => P H4 b5))) : gG d mX12_readsLaw 0 0 (g_Xz mX12_readsLaw n 0 0 P) 65 n H [some (.ref (a0)), some (.int (i1)), some (.int (i2)), some (.int (i3)), some (.int (i4)), some (.int (i5))] [] 0 0 := by
  refine gG_iload_n dX12_readsLaw_65 rfl rfl ?_
  refine gG_iconst (v := 5) dX12_readsLaw_66 (by decide) ?_
  refine gG_ic_ne (tgt := 76) dX12_readsLaw_67 (by decide) (fun c => ?_) (fun c => ?_)
  · have h := h.1 c
    refine gG_iload dX12_readsLaw_76 rfl ?_
    refine gG_if_ne (tgt := 86) dX12_readsLaw_78 (by decide) (fun c => ?_) (fun c => ?_)
    · have h := h.1 c
      refine gG_locals ?_ h
      exact ⟨rfl, ⟨rfl, ⟨rfl, ⟨rfl, trivial⟩⟩⟩⟩
    · have h := h.2 c
      refine gG_iload dX12_readsLaw_81 rfl ?_
      refine gG_if_eq (tgt := 131) dX12_readsLaw_83 (by decide) (fun c => ?_) (fun c => ?_)
      · have h := h.1 c
        refine gG_aload_n dX12_readsLaw_131 rfl rfl ?_
        refine gG_iload_n dX12_readsLaw_132 rfl rfl ?_
        refine gG_if_le (tgt := 140) dX12_readsLaw_133 (by decide) (fun c => ?_) (fun c => ?_)
        · have h := h.1 c
          refine gG_bipush (v := 100) dX12_readsLaw_140 (by decide) ?_
          refine gG_aload_n dX12_readsLaw_142 rfl rfl ?_
          obtain ⟨fs, x1, e1, e2, h⟩ := h
          refine gG_gi dX12_readsLaw_143 fl_X12_169 ⟨fs, x1, e1, e2, ?_⟩
          refine gG_iadd dX12_readsLaw_146 ?_
          obtain ⟨hrc, d2, P2, hdd, hC, h⟩ := h
          refine gG_cvv (As := [.int (((100 : Int32) + x1))]) (st := []) dX12_readsLaw_147 mV_X12_214 hdd hrc rfl rfl (Nat.le_of_ble_eq_true rfl) (Nat.le_refl _) ⟨Nat.le_refl _, Nat.le_refl _⟩ hC (fun H2 hp => ?_)
          have h := h H2 hp
          refine gG_iconst (v := 0) dX12_readsLaw_150 (by decide) ?_
          refine gG_istore_n dX12_readsLaw_151 rfl (Nat.le_of_ble_eq_true rfl) ?_
          refine gG_locals ?_ h
          exact ⟨rfl, ⟨rfl, ⟨rfl, trivial⟩⟩⟩
        · have h := h.2 c
          refine gG_iload_n dX12_readsLaw_136 rfl rfl ?_
          refine gG_goto (tgt := 147) dX12_readsLaw_137 (by decide) ?_
          obtain ⟨hrc, d2, P2, hdd, hC, h⟩ := h
          refine gG_cvv (As := [.int (i3)]) (st := []) dX12_readsLaw_147 mV_X12_214 hdd hrc rfl rfl (Nat.le_of_ble_eq_true rfl) (Nat.le_refl _) ⟨Nat.le_refl _, Nat.le_refl _⟩ hC (fun H3 hp => ?_)
          have h := h H3 hp
          refine gG_iconst (v := 0) dX12_readsLaw_150 (by decide) ?_
          refine gG_istore_n dX12_readsLaw_151 rfl (Nat.le_of_ble_eq_true rfl) ?_
          refine gG_locals ?_ h
          exact ⟨rfl, ⟨rfl, ⟨rfl, trivial⟩⟩⟩
      · have h := h.2 c
        refine gG_locals ?_ h
        exact ⟨rfl, ⟨rfl, ⟨rfl, ⟨rfl, trivial⟩⟩⟩⟩
  · have h := h.2 c
    refine gG_aload_n dX12_readsLaw_70 rfl rfl ?_
    refine gG_iconst (v := 5) dX12_readsLaw_71 (by decide) ?_
    obtain ⟨hrc, d2, P2, hdd, hC, h⟩ := h
    refine gG_cvi (As := [.int ((5 : Int32))]) (st := []) dX12_readsLaw_72 mV_X12_211 hdd hrc rfl rfl (Nat.le_of_ble_eq_true rfl) (Nat.le_refl _) ⟨Nat.le_refl _, Nat.le_refl _⟩ hC (fun H4 x9 hp => ?_)
    obtain ⟨b5, rfl, hp⟩ := hp
    have h := h H4 b5 hp
    exact gG_exit ⟨rfl, rfl, rfl, dX12_readsLaw_75, b5, rfl, h⟩
theorem kX12_readsLaw_86 {d n : Nat} {H : gHp} {P : gHp → Bool → Prop} {a0 : Nat} {i1 : Int32} {i2 : Int32} {i4 : Int32} (h : (i4 = 0 → (∃ fs, H (a0) = .inr (12, fs)) ∧ g_cvd d mX12_puts n H [.ref (a0), .int ((28 : Int32))] (fun H1 => gG d mX12_readsLaw 0 0 (g_Xz mX12_readsLaw n 0 0 P) 102 n H1 [some (.ref (a0)), some (.int (i1)), some (.int (i2)), none, some (.int (i4)), none] [] (0) (0))) ∧ (¬ (i4 = 0) → (∃ fs, H (a0) = .inr (12, fs)) ∧ g_cvd d mX12_puts n H [.ref (a0), .int ((30 : Int32))] (fun H2 => gG d mX12_readsLaw 0 0 (g_Xz mX12_readsLaw n 0 0 P) 102 n H2 [some (.ref (a0)), some (.int (i1)), some (.int (i2)), none, some (.int (i4)), none] [] (0) (0)))) : gG d mX12_readsLaw 0 0 (g_Xz mX12_readsLaw n 0 0 P) 86 n H [some (.ref (a0)), some (.int (i1)), some (.int (i2)), none, some (.int (i4)), none] [] 0 0 := by
  refine gG_aload_n dX12_readsLaw_86 rfl rfl ?_
  refine gG_iload dX12_readsLaw_87 rfl ?_
  refine gG_if_eq (tgt := 97) dX12_readsLaw_89 (by decide) (fun c => ?_) (fun c => ?_)
  · have h := h.1 c
    refine gG_bipush (v := 28) dX12_readsLaw_97 (by decide) ?_
    obtain ⟨hrc, d2, P2, hdd, hC, h⟩ := h
    refine gG_cvv (As := [.int ((28 : Int32))]) (st := []) dX12_readsLaw_99 mV_X12_214 hdd hrc rfl rfl (Nat.le_of_ble_eq_true rfl) (Nat.le_refl _) ⟨Nat.le_refl _, Nat.le_refl _⟩ hC (fun H1 hp => ?_)
    have h := h H1 hp
    refine gG_locals ?_ h
    exact ⟨rfl, ⟨rfl, ⟨rfl, ⟨rfl, trivial⟩⟩⟩⟩
  · have h := h.2 c
    refine gG_bipush (v := 30) dX12_readsLaw_92 (by decide) ?_
    refine gG_goto (tgt := 99) dX12_readsLaw_94 (by decide) ?_
    obtain ⟨hrc, d2, P2, hdd, hC, h⟩ := h
    refine gG_cvv (As := [.int ((30 : Int32))]) (st := []) dX12_readsLaw_99 mV_X12_214 hdd hrc rfl rfl (Nat.le_of_ble_eq_true rfl) (Nat.le_refl _) ⟨Nat.le_refl _, Nat.le_refl _⟩ hC (fun H2 hp => ?_)
    have h := h H2 hp
    refine gG_locals ?_ h
    exact ⟨rfl, ⟨rfl, ⟨rfl, ⟨rfl, trivial⟩⟩⟩⟩
theorem kX12_readsLaw_102 {d n : Nat} {H : gHp} {P : gHp → Bool → Prop} {a0 : Nat} {i1 : Int32} {i2 : Int32} {i4 : Int32} (h : g_gr H (a0) 12 24 (fun q1 => (i4 = 0 → g_as 0 H (q1) ((i1 + 1)) ((2 : Int32)) (fun H2 => gG d mX12_readsLaw 0 0 (g_Xz mX12_readsLaw n 0 0 P) 121 n H2 [some (.ref (a0)), some (.int ((i1 + 1))), some (.int (i2)), none, none, none] [] (0) (0))) ∧ (¬ (i4 = 0) → g_as 0 H (q1) ((i1 + 1)) ((1 : Int32)) (fun H3 => gG d mX12_readsLaw 0 0 (g_Xz mX12_readsLaw n 0 0 P) 121 n H3 [some (.ref (a0)), some (.int ((i1 + 1))), some (.int (i2)), none, none, none] [] (0) (0))))) : gG d mX12_readsLaw 0 0 (g_Xz mX12_readsLaw n 0 0 P) 102 n H [some (.ref (a0)), some (.int (i1)), some (.int (i2)), none, some (.int (i4)), none] [] 0 0 := by
  refine gG_iinc (v := i1 + 1) dX12_readsLaw_102 rfl rfl (Nat.le_of_ble_eq_true rfl) ?_
  refine gG_aload_n dX12_readsLaw_105 rfl rfl ?_
  obtain ⟨fs, q1, e1, e2, h⟩ := h
  refine gG_gr dX12_readsLaw_106 fl_X12_53 ⟨fs, q1, e1, e2, ?_⟩
  refine gG_iload_n dX12_readsLaw_109 rfl rfl ?_
  refine gG_iload dX12_readsLaw_110 rfl ?_
  refine gG_if_eq (tgt := 119) dX12_readsLaw_112 (by decide) (fun c => ?_) (fun c => ?_)
  · have h := h.1 c
    refine gG_iconst (v := 2) dX12_readsLaw_119 (by decide) ?_
    obtain ⟨m0, f0, e1, e2, h⟩ := h
    refine gG_iast dX12_readsLaw_120 ⟨m0, f0, e1, e2, ?_⟩
    obtain ⟨H2, eH⟩ : ∃ z, z = va_up H (q1) (.inl (0, m0, .inl (upd f0 (Int32.toNatClampNeg ((i1 + 1))) ((2 : Int32))))) := ⟨_, rfl⟩
    rw [← eH] at h ⊢
    refine gG_locals ?_ h
    exact ⟨rfl, ⟨rfl, ⟨rfl, trivial⟩⟩⟩
  · have h := h.2 c
    refine gG_iconst (v := 1) dX12_readsLaw_115 (by decide) ?_
    refine gG_goto (tgt := 120) dX12_readsLaw_116 (by decide) ?_
    obtain ⟨m0, f0, e1, e2, h⟩ := h
    refine gG_iast dX12_readsLaw_120 ⟨m0, f0, e1, e2, ?_⟩
    obtain ⟨H3, eH⟩ : ∃ z, z = va_up H (q1) (.inl (0, m0, .inl (upd f0 (Int32.toNatClampNeg ((i1 + 1))) ((1 : Int32))))) := ⟨_, rfl⟩
    rw [← eH] at h ⊢
    refine gG_locals ?_ h
    exact ⟨rfl, ⟨rfl, ⟨rfl, trivial⟩⟩⟩
theorem kX12_readsLaw_121 {d n : Nat} {H : gHp} {P : gHp → Bool → Prop} {a0 : Nat} {i1 : Int32} {i2 : Int32} (h : g_gr H (a0) 12 25 (fun q1 => g_as 3 H (q1) (i1) (vp_nar .boolean ((0 : Int32))) (fun H2 => (∃ fs, H2 (a0) = .inr (12, fs)) ∧ g_cvd d mX12_nextToken n H2 [.ref (a0)] (fun H3 => gG d mX12_readsLaw 0 0 (g_Xz mX12_readsLaw n 0 0 P) 11 n H3 [some (.ref (a0)), some (.int (i1)), some (.int (i2)), none, none, none] [] (0) (0))))) : gG d mX12_readsLaw 0 0 (g_Xz mX12_readsLaw n 0 0 P) 121 n H [some (.ref (a0)), some (.int (i1)), some (.int (i2)), none, none, none] [] 0 0 := by
  refine gG_aload_n dX12_readsLaw_121 rfl rfl ?_
  obtain ⟨fs, q1, e1, e2, h⟩ := h
  refine gG_gr dX12_readsLaw_122 fl_X12_56 ⟨fs, q1, e1, e2, ?_⟩
  refine gG_iload_n dX12_readsLaw_125 rfl rfl ?_
  refine gG_iconst (v := 0) dX12_readsLaw_126 (by decide) ?_
  obtain ⟨m0, f0, e1, e2, h⟩ := h
  refine gG_zast dX12_readsLaw_127 ⟨m0, f0, e1, e2, ?_⟩
  obtain ⟨H2, eH⟩ : ∃ z, z = va_up H (q1) (.inl (3, m0, .inl (upd f0 (Int32.toNatClampNeg (i1)) (vp_nar .boolean ((0 : Int32)))))) := ⟨_, rfl⟩
  rw [← eH] at h ⊢
  refine gG_goto (tgt := 172) dX12_readsLaw_128 (by decide) ?_
  refine gG_aload_n dX12_readsLaw_172 rfl rfl ?_
  obtain ⟨hrc, d2, P2, hdd, hC, h⟩ := h
  refine gG_cvv (As := []) (st := []) dX12_readsLaw_173 mV_X12_218 hdd hrc rfl rfl (Nat.le_of_ble_eq_true rfl) (Nat.le_refl _) ⟨Nat.le_refl _, Nat.le_refl _⟩ hC (fun H3 hp => ?_)
  have h := h H3 hp
  refine gG_goto (tgt := 11) dX12_readsLaw_176 (by decide) ?_
  refine gG_locals ?_ h
  exact ⟨rfl, ⟨rfl, ⟨rfl, trivial⟩⟩⟩
theorem kX12_readsLaw_152 {d n : Nat} {H : gHp} {P : gHp → Bool → Prop} {a0 : Nat} {i1 : Int32} {i2 : Int32} (h : (i1 ≤ 0 → (∃ fs, H (a0) = .inr (12, fs)) ∧ g_cvd d mX12_nextToken n H [.ref (a0)] (fun H1 => gG d mX12_readsLaw 0 0 (g_Xz mX12_readsLaw n 0 0 P) 11 n H1 [some (.ref (a0)), some (.int (i1)), some (.int (i2)), none, none, none] [] (0) (0))) ∧ (¬ (i1 ≤ 0) → g_gr H (a0) 12 24 (fun q2 => g_al 0 H (q2) (i1) (fun x3 => (¬ (x3 = (1 : Int32)) → (∃ fs, H (a0) = .inr (12, fs)) ∧ g_cvd d mX12_nextToken n H [.ref (a0)] (fun H4 => gG d mX12_readsLaw 0 0 (g_Xz mX12_readsLaw n 0 0 P) 11 n H4 [some (.ref (a0)), some (.int (i1)), some (.int (i2)), none, none, none] [] (0) (0))) ∧ (x3 = (1 : Int32) → gG d mX12_readsLaw 0 0 (g_Xz mX12_readsLaw n 0 0 P) 152 n H [some (.ref (a0)), some (.int ((i1 + (-1)))), some (.int (i2)), none, none, none] [] (0) (0)))))) : gG d mX12_readsLaw 0 0 (g_Xz mX12_readsLaw n 0 0 P) 152 n H [some (.ref (a0)), some (.int (i1)), some (.int (i2)), none, none, none] [] 0 0 := by
  refine gG_iload_n dX12_readsLaw_152 rfl rfl ?_
  refine gG_if_le (tgt := 172) dX12_readsLaw_153 (by decide) (fun c => ?_) (fun c => ?_)
  · have h := h.1 c
    refine gG_aload_n dX12_readsLaw_172 rfl rfl ?_
    obtain ⟨hrc, d2, P2, hdd, hC, h⟩ := h
    refine gG_cvv (As := []) (st := []) dX12_readsLaw_173 mV_X12_218 hdd hrc rfl rfl (Nat.le_of_ble_eq_true rfl) (Nat.le_refl _) ⟨Nat.le_refl _, Nat.le_refl _⟩ hC (fun H1 hp => ?_)
    have h := h H1 hp
    refine gG_goto (tgt := 11) dX12_readsLaw_176 (by decide) ?_
    refine gG_locals ?_ h
    exact ⟨rfl, ⟨rfl, ⟨rfl, trivial⟩⟩⟩
  · have h := h.2 c
    refine gG_aload_n dX12_readsLaw_156 rfl rfl ?_
    obtain ⟨fs, q2, e1, e2, h⟩ := h
    refine gG_gr dX12_readsLaw_157 fl_X12_53 ⟨fs, q2, e1, e2, ?_⟩
    refine gG_iload_n dX12_readsLaw_160 rfl rfl ?_
    obtain ⟨m0, f0, e1, e2, h⟩ := h
    refine gG_iald dX12_readsLaw_161 ⟨m0, f0, e1, e2, ?_⟩
    obtain ⟨x3, eH⟩ : ∃ z, z = f0 (Int32.toNatClampNeg (i1)) := ⟨_, rfl⟩
    rw [← eH] at h ⊢
    refine gG_iconst (v := 1) dX12_readsLaw_162 (by decide) ?_
    refine gG_ic_ne (tgt := 172) dX12_readsLaw_163 (by decide) (fun c => ?_) (fun c => ?_)
    · have h := h.1 c
      refine gG_aload_n dX12_readsLaw_172 rfl rfl ?_
      obtain ⟨hrc, d2, P2, hdd, hC, h⟩ := h
      refine gG_cvv (As := []) (st := []) dX12_readsLaw_173 mV_X12_218 hdd hrc rfl rfl (Nat.le_of_ble_eq_true rfl) (Nat.le_refl _) ⟨Nat.le_refl _, Nat.le_refl _⟩ hC (fun H4 hp => ?_)
      have h := h H4 hp
      refine gG_goto (tgt := 11) dX12_readsLaw_176 (by decide) ?_
      refine gG_locals ?_ h
      exact ⟨rfl, ⟨rfl, ⟨rfl, trivial⟩⟩⟩
    · have h := h.2 c
      refine gG_iinc (v := i1 + (-1)) dX12_readsLaw_166 rfl rfl (Nat.le_of_ble_eq_true rfl) ?_
      refine gG_goto (tgt := 152) dX12_readsLaw_169 (by decide) ?_
      refine gG_locals ?_ h
      exact ⟨rfl, ⟨rfl, ⟨rfl, trivial⟩⟩⟩
theorem kX12_readsLaw_206 {d n : Nat} {H : gHp} {P : gHp → Bool → Prop} {a0 : Nat} {i1 : Int32} (h : (∃ fs, H (a0) = .inr (12, fs)) ∧ g_cz d mX12_isSign n H [.ref (a0), .int ((43 : Int32))] (fun H1 b2 => (b2 = false → (∃ fs, H1 (a0) = .inr (12, fs)) ∧ g_cz d mX12_isSign n H1 [.ref (a0), .int ((45 : Int32))] (fun H3 b4 => (b4 = false → (∃ fs, H3 (a0) = .inr (12, fs)) ∧ g_cvd d mX12_puts n H3 [.ref (a0), .int ((22 : Int32))] (fun H5 => (∃ fs, H5 (a0) = .inr (12, fs)) ∧ g_cvd d mX12_nextToken n H5 [.ref (a0)] (fun H6 => gG d mX12_readsLaw 0 0 (g_Xz mX12_readsLaw n 0 0 P) 11 n H6 [some (.ref (a0)), some (.int (i1)), some (.int ((1 : Int32))), none, none, none] [] (0) (0)))) ∧ (b4 = true → (∃ fs, H3 (a0) = .inr (12, fs)) ∧ g_cvd d mX12_puts n H3 [.ref (a0), .int ((21 : Int32))] (fun H7 => (∃ fs, H7 (a0) = .inr (12, fs)) ∧ g_cvd d mX12_nextToken n H7 [.ref (a0)] (fun H8 => gG d mX12_readsLaw 0 0 (g_Xz mX12_readsLaw n 0 0 P) 11 n H8 [some (.ref (a0)), some (.int (i1)), some (.int ((1 : Int32))), none, none, none] [] (0) (0)))))) ∧ (b2 = true → (∃ fs, H1 (a0) = .inr (12, fs)) ∧ g_cvd d mX12_puts n H1 [.ref (a0), .int ((20 : Int32))] (fun H9 => (∃ fs, H9 (a0) = .inr (12, fs)) ∧ g_cvd d mX12_nextToken n H9 [.ref (a0)] (fun H10 => gG d mX12_readsLaw 0 0 (g_Xz mX12_readsLaw n 0 0 P) 11 n H10 [some (.ref (a0)), some (.int (i1)), some (.int ((1 : Int32))), none, none, none] [] (0) (0)))))) : gG d mX12_readsLaw 0 0 (g_Xz mX12_readsLaw n 0 0 P) 206 n H [some (.ref (a0)), some (.int (i1)), none, none, none, none] [] 0 0 := by
  refine gG_aload_n dX12_readsLaw_206 rfl rfl ?_
  refine gG_aload_n dX12_readsLaw_207 rfl rfl ?_
  refine gG_bipush (v := 43) dX12_readsLaw_208 (by decide) ?_
  obtain ⟨hrc, d2, P2, hdd, hC, h⟩ := h
  refine gG_cvi (As := [.int ((43 : Int32))]) (st := [.ref (a0)]) dX12_readsLaw_210 mV_X12_207 hdd hrc rfl rfl (Nat.le_of_ble_eq_true rfl) (Nat.le_refl _) ⟨Nat.le_refl _, Nat.le_refl _⟩ hC (fun H1 x9 hp => ?_)
  obtain ⟨b2, rfl, hp⟩ := hp
  have h := h H1 b2 hp
  refine gG_if_eq (tgt := 221) dX12_readsLaw_213 (by decide) (fun c => ?_) (fun c => ?_)
  · have h := h.1 (g_b_f c)
    refine gG_aload_n dX12_readsLaw_221 rfl rfl ?_
    refine gG_bipush (v := 45) dX12_readsLaw_222 (by decide) ?_
    obtain ⟨hrc, d2, P2, hdd, hC, h⟩ := h
    refine gG_cvi (As := [.int ((45 : Int32))]) (st := [.ref (a0)]) dX12_readsLaw_224 mV_X12_207 hdd hrc rfl rfl (Nat.le_of_ble_eq_true rfl) (Nat.le_refl _) ⟨Nat.le_refl _, Nat.le_refl _⟩ hC (fun H3 x9 hp => ?_)
    obtain ⟨b4, rfl, hp⟩ := hp
    have h := h H3 b4 hp
    refine gG_if_eq (tgt := 235) dX12_readsLaw_227 (by decide) (fun c => ?_) (fun c => ?_)
    · have h := h.1 (g_b_f c)
      refine gG_bipush (v := 22) dX12_readsLaw_235 (by decide) ?_
      obtain ⟨hrc, d2, P2, hdd, hC, h⟩ := h
      refine gG_cvv (As := [.int ((22 : Int32))]) (st := []) dX12_readsLaw_237 mV_X12_214 hdd hrc rfl rfl (Nat.le_of_ble_eq_true rfl) (Nat.le_refl _) ⟨Nat.le_refl _, Nat.le_refl _⟩ hC (fun H5 hp => ?_)
      have h := h H5 hp
      refine gG_iconst (v := 1) dX12_readsLaw_240 (by decide) ?_
      refine gG_istore_n dX12_readsLaw_241 rfl (Nat.le_of_ble_eq_true rfl) ?_
      refine gG_goto (tgt := 424) dX12_readsLaw_242 (by decide) ?_
      refine gG_aload_n dX12_readsLaw_424 rfl rfl ?_
      obtain ⟨hrc, d2, P2, hdd, hC, h⟩ := h
      refine gG_cvv (As := []) (st := []) dX12_readsLaw_425 mV_X12_218 hdd hrc rfl rfl (Nat.le_of_ble_eq_true rfl) (Nat.le_refl _) ⟨Nat.le_refl _, Nat.le_refl _⟩ hC (fun H6 hp => ?_)
      have h := h H6 hp
      refine gG_goto (tgt := 11) dX12_readsLaw_428 (by decide) ?_
      refine gG_locals ?_ h
      exact ⟨rfl, ⟨rfl, ⟨rfl, trivial⟩⟩⟩
    · have h := h.2 (g_b_t c)
      refine gG_bipush (v := 21) dX12_readsLaw_230 (by decide) ?_
      refine gG_goto (tgt := 237) dX12_readsLaw_232 (by decide) ?_
      obtain ⟨hrc, d2, P2, hdd, hC, h⟩ := h
      refine gG_cvv (As := [.int ((21 : Int32))]) (st := []) dX12_readsLaw_237 mV_X12_214 hdd hrc rfl rfl (Nat.le_of_ble_eq_true rfl) (Nat.le_refl _) ⟨Nat.le_refl _, Nat.le_refl _⟩ hC (fun H7 hp => ?_)
      have h := h H7 hp
      refine gG_iconst (v := 1) dX12_readsLaw_240 (by decide) ?_
      refine gG_istore_n dX12_readsLaw_241 rfl (Nat.le_of_ble_eq_true rfl) ?_
      refine gG_goto (tgt := 424) dX12_readsLaw_242 (by decide) ?_
      refine gG_aload_n dX12_readsLaw_424 rfl rfl ?_
      obtain ⟨hrc, d2, P2, hdd, hC, h⟩ := h
      refine gG_cvv (As := []) (st := []) dX12_readsLaw_425 mV_X12_218 hdd hrc rfl rfl (Nat.le_of_ble_eq_true rfl) (Nat.le_refl _) ⟨Nat.le_refl _, Nat.le_refl _⟩ hC (fun H8 hp => ?_)
      have h := h H8 hp
      refine gG_goto (tgt := 11) dX12_readsLaw_428 (by decide) ?_
      refine gG_locals ?_ h
      exact ⟨rfl, ⟨rfl, ⟨rfl, trivial⟩⟩⟩
  · have h := h.2 (g_b_t c)
    refine gG_bipush (v := 20) dX12_readsLaw_216 (by decide) ?_
    refine gG_goto (tgt := 237) dX12_readsLaw_218 (by decide) ?_
    obtain ⟨hrc, d2, P2, hdd, hC, h⟩ := h
    refine gG_cvv (As := [.int ((20 : Int32))]) (st := []) dX12_readsLaw_237 mV_X12_214 hdd hrc rfl rfl (Nat.le_of_ble_eq_true rfl) (Nat.le_refl _) ⟨Nat.le_refl _, Nat.le_refl _⟩ hC (fun H9 hp => ?_)
    have h := h H9 hp
    refine gG_iconst (v := 1) dX12_readsLaw_240 (by decide) ?_
    refine gG_istore_n dX12_readsLaw_241 rfl (Nat.le_of_ble_eq_true rfl) ?_
    refine gG_goto (tgt := 424) dX12_readsLaw_242 (by decide) ?_
    refine gG_aload_n dX12_readsLaw_424 rfl rfl ?_
    obtain ⟨hrc, d2, P2, hdd, hC, h⟩ := h
    refine gG_cvv (As := []) (st := []) dX12_readsLaw_425 mV_X12_218 hdd hrc rfl rfl (Nat.le_of_ble_eq_true rfl) (Nat.le_refl _) ⟨Nat.le_refl _, Nat.le_refl _⟩ hC (fun H10 hp => ?_)
    have h := h H10 hp
    refine gG_goto (tgt := 11) dX12_readsLaw_428 (by decide) ?_
    refine gG_locals ?_ h
    exact ⟨rfl, ⟨rfl, ⟨rfl, trivial⟩⟩⟩
theorem kX12_readsLaw_263 {d n : Nat} {H : gHp} {P : gHp → Bool → Prop} {a0 : Nat} {i1 : Int32} {i2 : Int32} (h : g_gr H (a0) 12 25 (fun q1 => g_al 3 H (q1) (i1) (fun x2 => (¬ (x2 = 0) → gG d mX12_readsLaw 0 0 (g_Xz mX12_readsLaw n 0 0 P) 304 n H [some (.ref (a0)), some (.int (i1)), some (.int (i2)), none, none, none] [] (0) (0)) ∧ (x2 = 0 → (∃ fs, H (a0) = .inr (12, fs)) ∧ g_cz d mX12_isSign n H [.ref (a0), .int ((60 : Int32))] (fun H3 b4 => (b4 = false → (∃ fs, H3 (a0) = .inr (12, fs)) ∧ g_cvd d mX12_puts n H3 [.ref (a0), .int ((25 : Int32))] (fun H5 => gG d mX12_readsLaw 0 0 (g_Xz mX12_readsLaw n 0 0 P) 292 n H5 [some (.ref (a0)), some (.int (i1)), none, none, none, none] [] (0) (0))) ∧ (b4 = true → (∃ fs, H3 (a0) = .inr (12, fs)) ∧ g_cvd d mX12_puts n H3 [.ref (a0), .int ((24 : Int32))] (fun H6 => gG d mX12_readsLaw 0 0 (g_Xz mX12_readsLaw n 0 0 P) 292 n H6 [some (.ref (a0)), some (.int (i1)), none, none, none, none] [] (0) (0)))))))) : gG d mX12_readsLaw 0 0 (g_Xz mX12_readsLaw n 0 0 P) 263 n H [some (.ref (a0)), some (.int (i1)), some (.int (i2)), none, none, none] [] 0 0 := by
  refine gG_aload_n dX12_readsLaw_263 rfl rfl ?_
  obtain ⟨fs, q1, e1, e2, h⟩ := h
  refine gG_gr dX12_readsLaw_264 fl_X12_56 ⟨fs, q1, e1, e2, ?_⟩
  refine gG_iload_n dX12_readsLaw_267 rfl rfl ?_
  obtain ⟨m0, f0, e1, e2, h⟩ := h
  refine gG_zald dX12_readsLaw_268 ⟨m0, f0, e1, e2, ?_⟩
  obtain ⟨x2, eH⟩ : ∃ z, z = f0 (Int32.toNatClampNeg (i1)) := ⟨_, rfl⟩
  rw [← eH] at h ⊢
  refine gG_if_ne (tgt := 304) dX12_readsLaw_269 (by decide) (fun c => ?_) (fun c => ?_)
  · have h := h.1 c
    refine gG_locals ?_ h
    exact ⟨rfl, ⟨rfl, ⟨rfl, trivial⟩⟩⟩
  · have h := h.2 c
    refine gG_aload_n dX12_readsLaw_272 rfl rfl ?_
    refine gG_aload_n dX12_readsLaw_273 rfl rfl ?_
    refine gG_bipush (v := 60) dX12_readsLaw_274 (by decide) ?_
    obtain ⟨hrc, d2, P2, hdd, hC, h⟩ := h
    refine gG_cvi (As := [.int ((60 : Int32))]) (st := [.ref (a0)]) dX12_readsLaw_276 mV_X12_207 hdd hrc rfl rfl (Nat.le_of_ble_eq_true rfl) (Nat.le_refl _) ⟨Nat.le_refl _, Nat.le_refl _⟩ hC (fun H3 x9 hp => ?_)
    obtain ⟨b4, rfl, hp⟩ := hp
    have h := h H3 b4 hp
    refine gG_if_eq (tgt := 287) dX12_readsLaw_279 (by decide) (fun c => ?_) (fun c => ?_)
    · have h := h.1 (g_b_f c)
      refine gG_bipush (v := 25) dX12_readsLaw_287 (by decide) ?_
      obtain ⟨hrc, d2, P2, hdd, hC, h⟩ := h
      refine gG_cvv (As := [.int ((25 : Int32))]) (st := []) dX12_readsLaw_289 mV_X12_214 hdd hrc rfl rfl (Nat.le_of_ble_eq_true rfl) (Nat.le_refl _) ⟨Nat.le_refl _, Nat.le_refl _⟩ hC (fun H5 hp => ?_)
      have h := h H5 hp
      refine gG_locals ?_ h
      exact ⟨rfl, ⟨rfl, trivial⟩⟩
    · have h := h.2 (g_b_t c)
      refine gG_bipush (v := 24) dX12_readsLaw_282 (by decide) ?_
      refine gG_goto (tgt := 289) dX12_readsLaw_284 (by decide) ?_
      obtain ⟨hrc, d2, P2, hdd, hC, h⟩ := h
      refine gG_cvv (As := [.int ((24 : Int32))]) (st := []) dX12_readsLaw_289 mV_X12_214 hdd hrc rfl rfl (Nat.le_of_ble_eq_true rfl) (Nat.le_refl _) ⟨Nat.le_refl _, Nat.le_refl _⟩ hC (fun H6 hp => ?_)
      have h := h H6 hp
      refine gG_locals ?_ h
      exact ⟨rfl, ⟨rfl, trivial⟩⟩
theorem kX12_readsLaw_292 {d n : Nat} {H : gHp} {P : gHp → Bool → Prop} {a0 : Nat} {i1 : Int32} (h : g_gr H (a0) 12 25 (fun q1 => g_as 3 H (q1) (i1) (vp_nar .boolean ((1 : Int32))) (fun H2 => (∃ fs, H2 (a0) = .inr (12, fs)) ∧ g_cvd d mX12_nextToken n H2 [.ref (a0)] (fun H3 => gG d mX12_readsLaw 0 0 (g_Xz mX12_readsLaw n 0 0 P) 11 n H3 [some (.ref (a0)), some (.int (i1)), some (.int ((1 : Int32))), none, none, none] [] (0) (0))))) : gG d mX12_readsLaw 0 0 (g_Xz mX12_readsLaw n 0 0 P) 292 n H [some (.ref (a0)), some (.int (i1)), none, none, none, none] [] 0 0 := by
  refine gG_aload_n dX12_readsLaw_292 rfl rfl ?_
  obtain ⟨fs, q1, e1, e2, h⟩ := h
  refine gG_gr dX12_readsLaw_293 fl_X12_56 ⟨fs, q1, e1, e2, ?_⟩
  refine gG_iload_n dX12_readsLaw_296 rfl rfl ?_
  refine gG_iconst (v := 1) dX12_readsLaw_297 (by decide) ?_
  obtain ⟨m0, f0, e1, e2, h⟩ := h
  refine gG_zast dX12_readsLaw_298 ⟨m0, f0, e1, e2, ?_⟩
  obtain ⟨H2, eH⟩ : ∃ z, z = va_up H (q1) (.inl (3, m0, .inl (upd f0 (Int32.toNatClampNeg (i1)) (vp_nar .boolean ((1 : Int32)))))) := ⟨_, rfl⟩
  rw [← eH] at h ⊢
  refine gG_iconst (v := 1) dX12_readsLaw_299 (by decide) ?_
  refine gG_istore_n dX12_readsLaw_300 rfl (Nat.le_of_ble_eq_true rfl) ?_
  refine gG_goto (tgt := 424) dX12_readsLaw_301 (by decide) ?_
  refine gG_aload_n dX12_readsLaw_424 rfl rfl ?_
  obtain ⟨hrc, d2, P2, hdd, hC, h⟩ := h
  refine gG_cvv (As := []) (st := []) dX12_readsLaw_425 mV_X12_218 hdd hrc rfl rfl (Nat.le_of_ble_eq_true rfl) (Nat.le_refl _) ⟨Nat.le_refl _, Nat.le_refl _⟩ hC (fun H3 hp => ?_)
  have h := h H3 hp
  refine gG_goto (tgt := 11) dX12_readsLaw_428 (by decide) ?_
  refine gG_locals ?_ h
  exact ⟨rfl, ⟨rfl, ⟨rfl, trivial⟩⟩⟩
theorem kX12_readsLaw_304 {d n : Nat} {H : gHp} {P : gHp → Bool → Prop} {a0 : Nat} {i1 : Int32} {i2 : Int32} (h : (∃ fs, H (a0) = .inr (12, fs)) ∧ g_cz d mX12_isWord n H [.ref (a0), .long ((1111 : Int64))] (fun H1 b2 => (b2 = true → gG d mX12_readsLaw 0 0 (g_Xz mX12_readsLaw n 0 0 P) 324 n H1 [some (.ref (a0)), some (.int (i1)), none, none, none, none] [] (0) (0)) ∧ (b2 = false → (∃ fs, H1 (a0) = .inr (12, fs)) ∧ g_cz d mX12_isWord n H1 [.ref (a0), .long ((423 : Int64))] (fun H3 b4 => (b4 = false → (∃ fs, H3 (a0) = .inr (12, fs)) ∧ g_cz d mX12_isSign n H3 [.ref (a0), .int ((41 : Int32))] (fun H5 b6 => (b6 = false → gG d mX12_readsLaw 0 0 (g_Xz mX12_readsLaw n 0 0 P) 399 n H5 [some (.ref (a0)), some (.int (i1)), none, none, none, none] [] (0) (0)) ∧ (b6 = true → (i1 ≤ 0 → gG d mX12_readsLaw 0 0 (g_Xz mX12_readsLaw n 0 0 P) 399 n H5 [some (.ref (a0)), some (.int (i1)), none, none, none, none] [] (0) (0)) ∧ (¬ (i1 ≤ 0) → (∃ fs, H5 (a0) = .inr (12, fs)) ∧ g_cvd d mX12_puts n H5 [.ref (a0), .int ((29 : Int32))] (fun H7 => gG d mX12_readsLaw 0 0 (g_Xz mX12_readsLaw n 0 0 P) 379 n H7 [some (.ref (a0)), some (.int ((i1 + (-1)))), some (.int (i2)), none, none, none] [] (0) (0)))))) ∧ (b4 = true → gG d mX12_readsLaw 0 0 (g_Xz mX12_readsLaw n 0 0 P) 324 n H3 [some (.ref (a0)), some (.int (i1)), none, none, none, none] [] (0) (0)))))) : gG d mX12_readsLaw 0 0 (g_Xz mX12_readsLaw n 0 0 P) 304 n H [some (.ref (a0)), some (.int (i1)), some (.int (i2)), none, none, none] [] 0 0 := by
  refine gG_aload_n dX12_readsLaw_304 rfl rfl ?_
  refine gG_ldc2 dX12_readsLaw_305 cl_X12_221 ?_
  obtain ⟨hrc, d2, P2, hdd, hC, h⟩ := h
  refine gG_cvi (As := [.long ((1111 : Int64))]) (st := []) dX12_readsLaw_308 mV_X12_203 hdd hrc rfl rfl (Nat.le_of_ble_eq_true rfl) (Nat.le_refl _) ⟨Nat.le_refl _, Nat.le_refl _⟩ hC (fun H1 x9 hp => ?_)
  obtain ⟨b2, rfl, hp⟩ := hp
  have h := h H1 b2 hp
  refine gG_if_ne (tgt := 324) dX12_readsLaw_311 (by decide) (fun c => ?_) (fun c => ?_)
  · have h := h.1 (g_b_t c)
    refine gG_locals ?_ h
    exact ⟨rfl, ⟨rfl, trivial⟩⟩
  · have h := h.2 (g_b_f c)
    refine gG_aload_n dX12_readsLaw_314 rfl rfl ?_
    refine gG_ldc2 dX12_readsLaw_315 cl_X12_223 ?_
    obtain ⟨hrc, d2, P2, hdd, hC, h⟩ := h
    refine gG_cvi (As := [.long ((423 : Int64))]) (st := []) dX12_readsLaw_318 mV_X12_203 hdd hrc rfl rfl (Nat.le_of_ble_eq_true rfl) (Nat.le_refl _) ⟨Nat.le_refl _, Nat.le_refl _⟩ hC (fun H3 x9 hp => ?_)
    obtain ⟨b4, rfl, hp⟩ := hp
    have h := h H3 b4 hp
    refine gG_if_eq (tgt := 357) dX12_readsLaw_321 (by decide) (fun c => ?_) (fun c => ?_)
    · have h := h.1 (g_b_f c)
      refine gG_aload_n dX12_readsLaw_357 rfl rfl ?_
      refine gG_bipush (v := 41) dX12_readsLaw_358 (by decide) ?_
      obtain ⟨hrc, d2, P2, hdd, hC, h⟩ := h
      refine gG_cvi (As := [.int ((41 : Int32))]) (st := []) dX12_readsLaw_360 mV_X12_207 hdd hrc rfl rfl (Nat.le_of_ble_eq_true rfl) (Nat.le_refl _) ⟨Nat.le_refl _, Nat.le_refl _⟩ hC (fun H5 x9 hp => ?_)
      obtain ⟨b6, rfl, hp⟩ := hp
      have h := h H5 b6 hp
      refine gG_if_eq (tgt := 399) dX12_readsLaw_363 (by decide) (fun c => ?_) (fun c => ?_)
      · have h := h.1 (g_b_f c)
        refine gG_locals ?_ h
        exact ⟨rfl, ⟨rfl, trivial⟩⟩
      · have h := h.2 (g_b_t c)
        refine gG_iload_n dX12_readsLaw_366 rfl rfl ?_
        refine gG_if_le (tgt := 399) dX12_readsLaw_367 (by decide) (fun c => ?_) (fun c => ?_)
        · have h := h.1 c
          refine gG_locals ?_ h
          exact ⟨rfl, ⟨rfl, trivial⟩⟩
        · have h := h.2 c
          refine gG_aload_n dX12_readsLaw_370 rfl rfl ?_
          refine gG_bipush (v := 29) dX12_readsLaw_371 (by decide) ?_
          obtain ⟨hrc, d2, P2, hdd, hC, h⟩ := h
          refine gG_cvv (As := [.int ((29 : Int32))]) (st := []) dX12_readsLaw_373 mV_X12_214 hdd hrc rfl rfl (Nat.le_of_ble_eq_true rfl) (Nat.le_refl _) ⟨Nat.le_refl _, Nat.le_refl _⟩ hC (fun H7 hp => ?_)
          have h := h H7 hp
          refine gG_iinc (v := i1 + (-1)) dX12_readsLaw_376 rfl rfl (Nat.le_of_ble_eq_true rfl) ?_
          refine gG_locals ?_ h
          exact ⟨rfl, ⟨rfl, ⟨rfl, trivial⟩⟩⟩
    · have h := h.2 (g_b_t c)
      refine gG_locals ?_ h
      exact ⟨rfl, ⟨rfl, trivial⟩⟩
theorem kX12_readsLaw_324 {d n : Nat} {H : gHp} {P : gHp → Bool → Prop} {a0 : Nat} {i1 : Int32} (h : (∃ fs, H (a0) = .inr (12, fs)) ∧ g_cz d mX12_isWord n H [.ref (a0), .long ((1111 : Int64))] (fun H1 b2 => (b2 = false → (∃ fs, H1 (a0) = .inr (12, fs)) ∧ g_cvd d mX12_puts n H1 [.ref (a0), .int ((27 : Int32))] (fun H3 => gG d mX12_readsLaw 0 0 (g_Xz mX12_readsLaw n 0 0 P) 345 n H3 [some (.ref (a0)), some (.int (i1)), none, none, none, none] [] (0) (0))) ∧ (b2 = true → (∃ fs, H1 (a0) = .inr (12, fs)) ∧ g_cvd d mX12_puts n H1 [.ref (a0), .int ((26 : Int32))] (fun H4 => gG d mX12_readsLaw 0 0 (g_Xz mX12_readsLaw n 0 0 P) 345 n H4 [some (.ref (a0)), some (.int (i1)), none, none, none, none] [] (0) (0))))) : gG d mX12_readsLaw 0 0 (g_Xz mX12_readsLaw n 0 0 P) 324 n H [some (.ref (a0)), some (.int (i1)), none, none, none, none] [] 0 0 := by
  refine gG_aload_n dX12_readsLaw_324 rfl rfl ?_
  refine gG_aload_n dX12_readsLaw_325 rfl rfl ?_
  refine gG_ldc2 dX12_readsLaw_326 cl_X12_221 ?_
  obtain ⟨hrc, d2, P2, hdd, hC, h⟩ := h
  refine gG_cvi (As := [.long ((1111 : Int64))]) (st := [.ref (a0)]) dX12_readsLaw_329 mV_X12_203 hdd hrc rfl rfl (Nat.le_of_ble_eq_true rfl) (Nat.le_refl _) ⟨Nat.le_refl _, Nat.le_refl _⟩ hC (fun H1 x9 hp => ?_)
  obtain ⟨b2, rfl, hp⟩ := hp
  have h := h H1 b2 hp
  refine gG_if_eq (tgt := 340) dX12_readsLaw_332 (by decide) (fun c => ?_) (fun c => ?_)
  · have h := h.1 (g_b_f c)
    refine gG_bipush (v := 27) dX12_readsLaw_340 (by decide) ?_
    obtain ⟨hrc, d2, P2, hdd, hC, h⟩ := h
    refine gG_cvv (As := [.int ((27 : Int32))]) (st := []) dX12_readsLaw_342 mV_X12_214 hdd hrc rfl rfl (Nat.le_of_ble_eq_true rfl) (Nat.le_refl _) ⟨Nat.le_refl _, Nat.le_refl _⟩ hC (fun H3 hp => ?_)
    have h := h H3 hp
    refine gG_locals ?_ h
    exact ⟨rfl, ⟨rfl, trivial⟩⟩
  · have h := h.2 (g_b_t c)
    refine gG_bipush (v := 26) dX12_readsLaw_335 (by decide) ?_
    refine gG_goto (tgt := 342) dX12_readsLaw_337 (by decide) ?_
    obtain ⟨hrc, d2, P2, hdd, hC, h⟩ := h
    refine gG_cvv (As := [.int ((26 : Int32))]) (st := []) dX12_readsLaw_342 mV_X12_214 hdd hrc rfl rfl (Nat.le_of_ble_eq_true rfl) (Nat.le_refl _) ⟨Nat.le_refl _, Nat.le_refl _⟩ hC (fun H4 hp => ?_)
    have h := h H4 hp
    refine gG_locals ?_ h
    exact ⟨rfl, ⟨rfl, trivial⟩⟩
theorem kX12_readsLaw_345 {d n : Nat} {H : gHp} {P : gHp → Bool → Prop} {a0 : Nat} {i1 : Int32} (h : g_gr H (a0) 12 25 (fun q1 => g_as 3 H (q1) (i1) (vp_nar .boolean ((0 : Int32))) (fun H2 => (∃ fs, H2 (a0) = .inr (12, fs)) ∧ g_cvd d mX12_nextToken n H2 [.ref (a0)] (fun H3 => gG d mX12_readsLaw 0 0 (g_Xz mX12_readsLaw n 0 0 P) 11 n H3 [some (.ref (a0)), some (.int (i1)), some (.int ((1 : Int32))), none, none, none] [] (0) (0))))) : gG d mX12_readsLaw 0 0 (g_Xz mX12_readsLaw n 0 0 P) 345 n H [some (.ref (a0)), some (.int (i1)), none, none, none, none] [] 0 0 := by
  refine gG_aload_n dX12_readsLaw_345 rfl rfl ?_
  obtain ⟨fs, q1, e1, e2, h⟩ := h
  refine gG_gr dX12_readsLaw_346 fl_X12_56 ⟨fs, q1, e1, e2, ?_⟩
  refine gG_iload_n dX12_readsLaw_349 rfl rfl ?_
  refine gG_iconst (v := 0) dX12_readsLaw_350 (by decide) ?_
  obtain ⟨m0, f0, e1, e2, h⟩ := h
  refine gG_zast dX12_readsLaw_351 ⟨m0, f0, e1, e2, ?_⟩
  obtain ⟨H2, eH⟩ : ∃ z, z = va_up H (q1) (.inl (3, m0, .inl (upd f0 (Int32.toNatClampNeg (i1)) (vp_nar .boolean ((0 : Int32)))))) := ⟨_, rfl⟩
  rw [← eH] at h ⊢
  refine gG_iconst (v := 1) dX12_readsLaw_352 (by decide) ?_
  refine gG_istore_n dX12_readsLaw_353 rfl (Nat.le_of_ble_eq_true rfl) ?_
  refine gG_goto (tgt := 424) dX12_readsLaw_354 (by decide) ?_
  refine gG_aload_n dX12_readsLaw_424 rfl rfl ?_
  obtain ⟨hrc, d2, P2, hdd, hC, h⟩ := h
  refine gG_cvv (As := []) (st := []) dX12_readsLaw_425 mV_X12_218 hdd hrc rfl rfl (Nat.le_of_ble_eq_true rfl) (Nat.le_refl _) ⟨Nat.le_refl _, Nat.le_refl _⟩ hC (fun H3 hp => ?_)
  have h := h H3 hp
  refine gG_goto (tgt := 11) dX12_readsLaw_428 (by decide) ?_
  refine gG_locals ?_ h
  exact ⟨rfl, ⟨rfl, ⟨rfl, trivial⟩⟩⟩
theorem kX12_readsLaw_379 {d n : Nat} {H : gHp} {P : gHp → Bool → Prop} {a0 : Nat} {i1 : Int32} {i2 : Int32} (h : (i1 ≤ 0 → (∃ fs, H (a0) = .inr (12, fs)) ∧ g_cvd d mX12_nextToken n H [.ref (a0)] (fun H1 => gG d mX12_readsLaw 0 0 (g_Xz mX12_readsLaw n 0 0 P) 11 n H1 [some (.ref (a0)), some (.int (i1)), some (.int (i2)), none, none, none] [] (0) (0))) ∧ (¬ (i1 ≤ 0) → g_gr H (a0) 12 24 (fun q2 => g_al 0 H (q2) (i1) (fun x3 => (¬ (x3 = (1 : Int32)) → (∃ fs, H (a0) = .inr (12, fs)) ∧ g_cvd d mX12_nextToken n H [.ref (a0)] (fun H4 => gG d mX12_readsLaw 0 0 (g_Xz mX12_readsLaw n 0 0 P) 11 n H4 [some (.ref (a0)), some (.int (i1)), some (.int (i2)), none, none, none] [] (0) (0))) ∧ (x3 = (1 : Int32) → gG d mX12_readsLaw 0 0 (g_Xz mX12_readsLaw n 0 0 P) 379 n H [some (.ref (a0)), some (.int ((i1 + (-1)))), some (.int (i2)), none, none, none] [] (0) (0)))))) : gG d mX12_readsLaw 0 0 (g_Xz mX12_readsLaw n 0 0 P) 379 n H [some (.ref (a0)), some (.int (i1)), some (.int (i2)), none, none, none] [] 0 0 := by
  refine gG_iload_n dX12_readsLaw_379 rfl rfl ?_
  refine gG_if_le (tgt := 424) dX12_readsLaw_380 (by decide) (fun c => ?_) (fun c => ?_)
  · have h := h.1 c
    refine gG_aload_n dX12_readsLaw_424 rfl rfl ?_
    obtain ⟨hrc, d2, P2, hdd, hC, h⟩ := h
    refine gG_cvv (As := []) (st := []) dX12_readsLaw_425 mV_X12_218 hdd hrc rfl rfl (Nat.le_of_ble_eq_true rfl) (Nat.le_refl _) ⟨Nat.le_refl _, Nat.le_refl _⟩ hC (fun H1 hp => ?_)
    have h := h H1 hp
    refine gG_goto (tgt := 11) dX12_readsLaw_428 (by decide) ?_
    refine gG_locals ?_ h
    exact ⟨rfl, ⟨rfl, ⟨rfl, trivial⟩⟩⟩
  · have h := h.2 c
    refine gG_aload_n dX12_readsLaw_383 rfl rfl ?_
    obtain ⟨fs, q2, e1, e2, h⟩ := h
    refine gG_gr dX12_readsLaw_384 fl_X12_53 ⟨fs, q2, e1, e2, ?_⟩
    refine gG_iload_n dX12_readsLaw_387 rfl rfl ?_
    obtain ⟨m0, f0, e1, e2, h⟩ := h
    refine gG_iald dX12_readsLaw_388 ⟨m0, f0, e1, e2, ?_⟩
    obtain ⟨x3, eH⟩ : ∃ z, z = f0 (Int32.toNatClampNeg (i1)) := ⟨_, rfl⟩
    rw [← eH] at h ⊢
    refine gG_iconst (v := 1) dX12_readsLaw_389 (by decide) ?_
    refine gG_ic_ne (tgt := 424) dX12_readsLaw_390 (by decide) (fun c => ?_) (fun c => ?_)
    · have h := h.1 c
      refine gG_aload_n dX12_readsLaw_424 rfl rfl ?_
      obtain ⟨hrc, d2, P2, hdd, hC, h⟩ := h
      refine gG_cvv (As := []) (st := []) dX12_readsLaw_425 mV_X12_218 hdd hrc rfl rfl (Nat.le_of_ble_eq_true rfl) (Nat.le_refl _) ⟨Nat.le_refl _, Nat.le_refl _⟩ hC (fun H4 hp => ?_)
      have h := h H4 hp
      refine gG_goto (tgt := 11) dX12_readsLaw_428 (by decide) ?_
      refine gG_locals ?_ h
      exact ⟨rfl, ⟨rfl, ⟨rfl, trivial⟩⟩⟩
    · have h := h.2 c
      refine gG_iinc (v := i1 + (-1)) dX12_readsLaw_393 rfl rfl (Nat.le_of_ble_eq_true rfl) ?_
      refine gG_goto (tgt := 379) dX12_readsLaw_396 (by decide) ?_
      refine gG_locals ?_ h
      exact ⟨rfl, ⟨rfl, ⟨rfl, trivial⟩⟩⟩
theorem kX12_readsLaw_399 {d n : Nat} {H : gHp} {P : gHp → Bool → Prop} {a0 : Nat} {i1 : Int32} (h : (¬ (i1 = 0) → (∃ fs, H (a0) = .inr (12, fs)) ∧ g_cz d mX12_fails n H [.ref (a0), .int ((1 : Int32))] (fun H1 b2 => P H1 b2)) ∧ (i1 = 0 → (∃ fs, H (a0) = .inr (12, fs)) ∧ g_cz d mX12_isSign n H [.ref (a0), .int ((59 : Int32))] (fun H3 b4 => (b4 = false → (∃ fs, H3 (a0) = .inr (12, fs)) ∧ g_cz d mX12_fails n H3 [.ref (a0), .int ((1 : Int32))] (fun H5 b6 => P H5 b6)) ∧ (b4 = true → (∃ fs, H3 (a0) = .inr (12, fs)) ∧ g_cvd d mX12_nextToken n H3 [.ref (a0)] (fun H7 => P H7 true))))) : gG d mX12_readsLaw 0 0 (g_Xz mX12_readsLaw n 0 0 P) 399 n H [some (.ref (a0)), some (.int (i1)), none, none, none, none] [] 0 0 := by
  refine gG_iload_n dX12_readsLaw_399 rfl rfl ?_
  refine gG_if_ne (tgt := 418) dX12_readsLaw_400 (by decide) (fun c => ?_) (fun c => ?_)
  · have h := h.1 c
    refine gG_aload_n dX12_readsLaw_418 rfl rfl ?_
    refine gG_iconst (v := 1) dX12_readsLaw_419 (by decide) ?_
    obtain ⟨hrc, d2, P2, hdd, hC, h⟩ := h
    refine gG_cvi (As := [.int ((1 : Int32))]) (st := []) dX12_readsLaw_420 mV_X12_211 hdd hrc rfl rfl (Nat.le_of_ble_eq_true rfl) (Nat.le_refl _) ⟨Nat.le_refl _, Nat.le_refl _⟩ hC (fun H1 x9 hp => ?_)
    obtain ⟨b2, rfl, hp⟩ := hp
    have h := h H1 b2 hp
    exact gG_exit ⟨rfl, rfl, rfl, dX12_readsLaw_423, b2, rfl, h⟩
  · have h := h.2 c
    refine gG_aload_n dX12_readsLaw_403 rfl rfl ?_
    refine gG_bipush (v := 59) dX12_readsLaw_404 (by decide) ?_
    obtain ⟨hrc, d2, P2, hdd, hC, h⟩ := h
    refine gG_cvi (As := [.int ((59 : Int32))]) (st := []) dX12_readsLaw_406 mV_X12_207 hdd hrc rfl rfl (Nat.le_of_ble_eq_true rfl) (Nat.le_refl _) ⟨Nat.le_refl _, Nat.le_refl _⟩ hC (fun H3 x9 hp => ?_)
    obtain ⟨b4, rfl, hp⟩ := hp
    have h := h H3 b4 hp
    refine gG_if_eq (tgt := 418) dX12_readsLaw_409 (by decide) (fun c => ?_) (fun c => ?_)
    · have h := h.1 (g_b_f c)
      refine gG_aload_n dX12_readsLaw_418 rfl rfl ?_
      refine gG_iconst (v := 1) dX12_readsLaw_419 (by decide) ?_
      obtain ⟨hrc, d2, P2, hdd, hC, h⟩ := h
      refine gG_cvi (As := [.int ((1 : Int32))]) (st := []) dX12_readsLaw_420 mV_X12_211 hdd hrc rfl rfl (Nat.le_of_ble_eq_true rfl) (Nat.le_refl _) ⟨Nat.le_refl _, Nat.le_refl _⟩ hC (fun H5 x9 hp => ?_)
      obtain ⟨b6, rfl, hp⟩ := hp
      have h := h H5 b6 hp
      exact gG_exit ⟨rfl, rfl, rfl, dX12_readsLaw_423, b6, rfl, h⟩
    · have h := h.2 (g_b_t c)
      refine gG_aload_n dX12_readsLaw_412 rfl rfl ?_
      obtain ⟨hrc, d2, P2, hdd, hC, h⟩ := h
      refine gG_cvv (As := []) (st := []) dX12_readsLaw_413 mV_X12_218 hdd hrc rfl rfl (Nat.le_of_ble_eq_true rfl) (Nat.le_refl _) ⟨Nat.le_refl _, Nat.le_refl _⟩ hC (fun H7 hp => ?_)
      have h := h H7 hp
      refine gG_iconst (v := 1) dX12_readsLaw_416 (by decide) ?_
      exact gG_exit ⟨rfl, rfl, rfl, dX12_readsLaw_417, true, rfl, h⟩

theorem kX12_opens_0 {d n : Nat} {H : gHp} {P : gHp → Prop} {a0 : Nat} {i1 : Int32} (h : g_gr H (a0) 12 27 (fun q1 => g_as 0 H (q1) (i1) ((0 : Int32)) (fun H2 => g_gr H2 (a0) 12 29 (fun q3 => g_as 0 H2 (q3) (i1) ((0 : Int32)) (fun H4 => g_gr H4 (a0) 12 30 (fun q5 => g_as 0 H4 (q5) (i1) ((0 : Int32)) (fun H6 => g_gr H6 (a0) 12 31 (fun q7 => g_as 0 H6 (q7) (i1) ((20 : Int32)) (fun H8 => g_gr H8 (a0) 12 33 (fun q9 => g_as 0 H8 (q9) (i1) ((0 : Int32)) (fun H10 => P H10))))))))))) : gG d mX12_opens 0 0 (g_Xv mX12_opens n 0 0 P) 0 n H [some (.ref (a0)), some (.int (i1))] [] 0 0 := by
  refine gG_aload_n dX12_opens_0 rfl rfl ?_
  obtain ⟨fs, q1, e1, e2, h⟩ := h
  refine gG_gr dX12_opens_1 fl_X12_63 ⟨fs, q1, e1, e2, ?_⟩
  refine gG_iload_n dX12_opens_4 rfl rfl ?_
  refine gG_iconst (v := 0) dX12_opens_5 (by decide) ?_
  obtain ⟨m0, f0, e1, e2, h⟩ := h
  refine gG_iast dX12_opens_6 ⟨m0, f0, e1, e2, ?_⟩
  obtain ⟨H2, eH⟩ : ∃ z, z = va_up H (q1) (.inl (0, m0, .inl (upd f0 (Int32.toNatClampNeg (i1)) ((0 : Int32))))) := ⟨_, rfl⟩
  rw [← eH] at h ⊢
  refine gG_aload_n dX12_opens_7 rfl rfl ?_
  obtain ⟨fs, q3, e1, e2, h⟩ := h
  refine gG_gr dX12_opens_8 fl_X12_69 ⟨fs, q3, e1, e2, ?_⟩
  refine gG_iload_n dX12_opens_11 rfl rfl ?_
  refine gG_iconst (v := 0) dX12_opens_12 (by decide) ?_
  obtain ⟨m0, f0, e1, e2, h⟩ := h
  refine gG_iast dX12_opens_13 ⟨m0, f0, e1, e2, ?_⟩
  obtain ⟨H4, eH⟩ : ∃ z, z = va_up H2 (q3) (.inl (0, m0, .inl (upd f0 (Int32.toNatClampNeg (i1)) ((0 : Int32))))) := ⟨_, rfl⟩
  rw [← eH] at h ⊢
  refine gG_aload_n dX12_opens_14 rfl rfl ?_
  obtain ⟨fs, q5, e1, e2, h⟩ := h
  refine gG_gr dX12_opens_15 fl_X12_72 ⟨fs, q5, e1, e2, ?_⟩
  refine gG_iload_n dX12_opens_18 rfl rfl ?_
  refine gG_iconst (v := 0) dX12_opens_19 (by decide) ?_
  obtain ⟨m0, f0, e1, e2, h⟩ := h
  refine gG_iast dX12_opens_20 ⟨m0, f0, e1, e2, ?_⟩
  obtain ⟨H6, eH⟩ : ∃ z, z = va_up H4 (q5) (.inl (0, m0, .inl (upd f0 (Int32.toNatClampNeg (i1)) ((0 : Int32))))) := ⟨_, rfl⟩
  rw [← eH] at h ⊢
  refine gG_aload_n dX12_opens_21 rfl rfl ?_
  obtain ⟨fs, q7, e1, e2, h⟩ := h
  refine gG_gr dX12_opens_22 fl_X12_75 ⟨fs, q7, e1, e2, ?_⟩
  refine gG_iload_n dX12_opens_25 rfl rfl ?_
  refine gG_bipush (v := 20) dX12_opens_26 (by decide) ?_
  obtain ⟨m0, f0, e1, e2, h⟩ := h
  refine gG_iast dX12_opens_28 ⟨m0, f0, e1, e2, ?_⟩
  obtain ⟨H8, eH⟩ : ∃ z, z = va_up H6 (q7) (.inl (0, m0, .inl (upd f0 (Int32.toNatClampNeg (i1)) ((20 : Int32))))) := ⟨_, rfl⟩
  rw [← eH] at h ⊢
  refine gG_aload_n dX12_opens_29 rfl rfl ?_
  obtain ⟨fs, q9, e1, e2, h⟩ := h
  refine gG_gr dX12_opens_30 fl_X12_81 ⟨fs, q9, e1, e2, ?_⟩
  refine gG_iload_n dX12_opens_33 rfl rfl ?_
  refine gG_iconst (v := 0) dX12_opens_34 (by decide) ?_
  obtain ⟨m0, f0, e1, e2, h⟩ := h
  refine gG_iast dX12_opens_35 ⟨m0, f0, e1, e2, ?_⟩
  obtain ⟨H10, eH⟩ : ∃ z, z = va_up H8 (q9) (.inl (0, m0, .inl (upd f0 (Int32.toNatClampNeg (i1)) ((0 : Int32))))) := ⟨_, rfl⟩
  rw [← eH] at h ⊢
  exact gG_exit ⟨rfl, rfl, rfl, dX12_opens_36, rfl, h⟩

theorem kX12_sums_0 {d n : Nat} {H : gHp} {P : gHp → Prop} {a0 : Nat} {i1 : Int32} (h : g_gr H (a0) 12 30 (fun q1 => g_gr H (a0) 12 31 (fun q2 => g_al 0 H (q2) (i1) (fun x3 => (¬ (x3 = (21 : Int32)) → g_gr H (a0) 12 30 (fun q4 => g_al 0 H (q4) (i1) (fun x5 => g_gr H (a0) 12 32 (fun q6 => g_al 0 H (q6) (i1) (fun x7 => g_as 0 H (q1) (i1) ((x5 + x7)) (fun H8 => g_gr H8 (a0) 12 33 (fun q9 => g_as 0 H8 (q9) (i1) ((0 : Int32)) (fun H10 => P H10)))))))) ∧ (x3 = (21 : Int32) → g_gr H (a0) 12 30 (fun q11 => g_al 0 H (q11) (i1) (fun x12 => g_gr H (a0) 12 32 (fun q13 => g_al 0 H (q13) (i1) (fun x14 => g_as 0 H (q1) (i1) ((x12 - x14)) (fun H15 => g_gr H15 (a0) 12 33 (fun q16 => g_as 0 H15 (q16) (i1) ((0 : Int32)) (fun H17 => P H17)))))))))))) : gG d mX12_sums 0 0 (g_Xv mX12_sums n 0 0 P) 0 n H [some (.ref (a0)), some (.int (i1))] [] 0 0 := by
  refine gG_aload_n dX12_sums_0 rfl rfl ?_
  obtain ⟨fs, q1, e1, e2, h⟩ := h
  refine gG_gr dX12_sums_1 fl_X12_72 ⟨fs, q1, e1, e2, ?_⟩
  refine gG_iload_n dX12_sums_4 rfl rfl ?_
  refine gG_aload_n dX12_sums_5 rfl rfl ?_
  obtain ⟨fs, q2, e1, e2, h⟩ := h
  refine gG_gr dX12_sums_6 fl_X12_75 ⟨fs, q2, e1, e2, ?_⟩
  refine gG_iload_n dX12_sums_9 rfl rfl ?_
  obtain ⟨m0, f0, e1, e2, h⟩ := h
  refine gG_iald dX12_sums_10 ⟨m0, f0, e1, e2, ?_⟩
  obtain ⟨x3, eH⟩ : ∃ z, z = f0 (Int32.toNatClampNeg (i1)) := ⟨_, rfl⟩
  rw [← eH] at h ⊢
  refine gG_bipush (v := 21) dX12_sums_11 (by decide) ?_
  refine gG_ic_ne (tgt := 32) dX12_sums_13 (by decide) (fun c => ?_) (fun c => ?_)
  · have h := h.1 c
    refine gG_aload_n dX12_sums_32 rfl rfl ?_
    obtain ⟨fs, q4, e1, e2, h⟩ := h
    refine gG_gr dX12_sums_33 fl_X12_72 ⟨fs, q4, e1, e2, ?_⟩
    refine gG_iload_n dX12_sums_36 rfl rfl ?_
    obtain ⟨m0, f0, e1, e2, h⟩ := h
    refine gG_iald dX12_sums_37 ⟨m0, f0, e1, e2, ?_⟩
    obtain ⟨x5, eH⟩ : ∃ z, z = f0 (Int32.toNatClampNeg (i1)) := ⟨_, rfl⟩
    rw [← eH] at h ⊢
    refine gG_aload_n dX12_sums_38 rfl rfl ?_
    obtain ⟨fs, q6, e1, e2, h⟩ := h
    refine gG_gr dX12_sums_39 fl_X12_78 ⟨fs, q6, e1, e2, ?_⟩
    refine gG_iload_n dX12_sums_42 rfl rfl ?_
    obtain ⟨m0, f0, e1, e2, h⟩ := h
    refine gG_iald dX12_sums_43 ⟨m0, f0, e1, e2, ?_⟩
    obtain ⟨x7, eH⟩ : ∃ z, z = f0 (Int32.toNatClampNeg (i1)) := ⟨_, rfl⟩
    rw [← eH] at h ⊢
    refine gG_iadd dX12_sums_44 ?_
    obtain ⟨m0, f0, e1, e2, h⟩ := h
    refine gG_iast dX12_sums_45 ⟨m0, f0, e1, e2, ?_⟩
    obtain ⟨H8, eH⟩ : ∃ z, z = va_up H (q1) (.inl (0, m0, .inl (upd f0 (Int32.toNatClampNeg (i1)) ((x5 + x7))))) := ⟨_, rfl⟩
    rw [← eH] at h ⊢
    refine gG_aload_n dX12_sums_46 rfl rfl ?_
    obtain ⟨fs, q9, e1, e2, h⟩ := h
    refine gG_gr dX12_sums_47 fl_X12_81 ⟨fs, q9, e1, e2, ?_⟩
    refine gG_iload_n dX12_sums_50 rfl rfl ?_
    refine gG_iconst (v := 0) dX12_sums_51 (by decide) ?_
    obtain ⟨m0, f0, e1, e2, h⟩ := h
    refine gG_iast dX12_sums_52 ⟨m0, f0, e1, e2, ?_⟩
    obtain ⟨H10, eH⟩ : ∃ z, z = va_up H8 (q9) (.inl (0, m0, .inl (upd f0 (Int32.toNatClampNeg (i1)) ((0 : Int32))))) := ⟨_, rfl⟩
    rw [← eH] at h ⊢
    exact gG_exit ⟨rfl, rfl, rfl, dX12_sums_53, rfl, h⟩
  · have h := h.2 c
    refine gG_aload_n dX12_sums_16 rfl rfl ?_
    obtain ⟨fs, q11, e1, e2, h⟩ := h
    refine gG_gr dX12_sums_17 fl_X12_72 ⟨fs, q11, e1, e2, ?_⟩
    refine gG_iload_n dX12_sums_20 rfl rfl ?_
    obtain ⟨m0, f0, e1, e2, h⟩ := h
    refine gG_iald dX12_sums_21 ⟨m0, f0, e1, e2, ?_⟩
    obtain ⟨x12, eH⟩ : ∃ z, z = f0 (Int32.toNatClampNeg (i1)) := ⟨_, rfl⟩
    rw [← eH] at h ⊢
    refine gG_aload_n dX12_sums_22 rfl rfl ?_
    obtain ⟨fs, q13, e1, e2, h⟩ := h
    refine gG_gr dX12_sums_23 fl_X12_78 ⟨fs, q13, e1, e2, ?_⟩
    refine gG_iload_n dX12_sums_26 rfl rfl ?_
    obtain ⟨m0, f0, e1, e2, h⟩ := h
    refine gG_iald dX12_sums_27 ⟨m0, f0, e1, e2, ?_⟩
    obtain ⟨x14, eH⟩ : ∃ z, z = f0 (Int32.toNatClampNeg (i1)) := ⟨_, rfl⟩
    rw [← eH] at h ⊢
    refine gG_isub dX12_sums_28 ?_
    refine gG_goto (tgt := 45) dX12_sums_29 (by decide) ?_
    obtain ⟨m0, f0, e1, e2, h⟩ := h
    refine gG_iast dX12_sums_45 ⟨m0, f0, e1, e2, ?_⟩
    obtain ⟨H15, eH⟩ : ∃ z, z = va_up H (q1) (.inl (0, m0, .inl (upd f0 (Int32.toNatClampNeg (i1)) ((x12 - x14))))) := ⟨_, rfl⟩
    rw [← eH] at h ⊢
    refine gG_aload_n dX12_sums_46 rfl rfl ?_
    obtain ⟨fs, q16, e1, e2, h⟩ := h
    refine gG_gr dX12_sums_47 fl_X12_81 ⟨fs, q16, e1, e2, ?_⟩
    refine gG_iload_n dX12_sums_50 rfl rfl ?_
    refine gG_iconst (v := 0) dX12_sums_51 (by decide) ?_
    obtain ⟨m0, f0, e1, e2, h⟩ := h
    refine gG_iast dX12_sums_52 ⟨m0, f0, e1, e2, ?_⟩
    obtain ⟨H17, eH⟩ : ∃ z, z = va_up H15 (q16) (.inl (0, m0, .inl (upd f0 (Int32.toNatClampNeg (i1)) ((0 : Int32))))) := ⟨_, rfl⟩
    rw [← eH] at h ⊢
    exact gG_exit ⟨rfl, rfl, rfl, dX12_sums_53, rfl, h⟩

theorem kX12_tests_0 {d n : Nat} {H : gHp} {P : gHp → Prop} {a0 : Nat} {i1 : Int32} (h : (∃ fs, H (a0) = .inr (12, fs)) ∧ g_cvd d mX12_sums n H [.ref (a0), .int (i1)] (fun H1 => g_gr H1 (a0) 12 30 (fun q2 => g_al 0 H1 (q2) (i1) (fun x3 => g_gr H1 (a0) 12 29 (fun q4 => g_al 0 H1 (q4) (i1) (fun x5 => (¬ (x5 = (24 : Int32)) → gG d mX12_tests 0 0 (g_Xv mX12_tests n 0 0 P) 44 n H1 [some (.ref (a0)), some (.int (i1)), some (.int (x3))] [] (0) (0)) ∧ (x5 = (24 : Int32) → g_gr H1 (a0) 12 28 (fun q6 => g_al 0 H1 (q6) (i1) (fun x7 => g_gr H1 (a0) 12 30 (fun q8 => g_al 0 H1 (q8) (i1) (fun x9 => (x9 ≤ x7 → gG d mX12_tests 0 0 (g_Xv mX12_tests n 0 0 P) 44 n H1 [some (.ref (a0)), some (.int (i1)), some (.int ((0 : Int32)))] [] (0) (0)) ∧ (¬ (x9 ≤ x7) → gG d mX12_tests 0 0 (g_Xv mX12_tests n 0 0 P) 44 n H1 [some (.ref (a0)), some (.int (i1)), some (.int ((1 : Int32)))] [] (0) (0))))))))))))) : gG d mX12_tests 0 0 (g_Xv mX12_tests n 0 0 P) 0 n H [some (.ref (a0)), some (.int (i1)), none] [] 0 0 := by
  refine gG_aload_n dX12_tests_0 rfl rfl ?_
  refine gG_iload_n dX12_tests_1 rfl rfl ?_
  obtain ⟨hrc, d2, P2, hdd, hC, h⟩ := h
  refine gG_cvv (As := [.int (i1)]) (st := []) dX12_tests_2 mV_X12_225 hdd hrc rfl rfl (Nat.le_of_ble_eq_true rfl) (Nat.le_refl _) ⟨Nat.le_refl _, Nat.le_refl _⟩ hC (fun H1 hp => ?_)
  have h := h H1 hp
  refine gG_aload_n dX12_tests_5 rfl rfl ?_
  obtain ⟨fs, q2, e1, e2, h⟩ := h
  refine gG_gr dX12_tests_6 fl_X12_72 ⟨fs, q2, e1, e2, ?_⟩
  refine gG_iload_n dX12_tests_9 rfl rfl ?_
  obtain ⟨m0, f0, e1, e2, h⟩ := h
  refine gG_iald dX12_tests_10 ⟨m0, f0, e1, e2, ?_⟩
  obtain ⟨x3, eH⟩ : ∃ z, z = f0 (Int32.toNatClampNeg (i1)) := ⟨_, rfl⟩
  rw [← eH] at h ⊢
  refine gG_istore_n dX12_tests_11 rfl (Nat.le_of_ble_eq_true rfl) ?_
  refine gG_aload_n dX12_tests_12 rfl rfl ?_
  obtain ⟨fs, q4, e1, e2, h⟩ := h
  refine gG_gr dX12_tests_13 fl_X12_69 ⟨fs, q4, e1, e2, ?_⟩
  refine gG_iload_n dX12_tests_16 rfl rfl ?_
  obtain ⟨m0, f0, e1, e2, h⟩ := h
  refine gG_iald dX12_tests_17 ⟨m0, f0, e1, e2, ?_⟩
  obtain ⟨x5, eH⟩ : ∃ z, z = f0 (Int32.toNatClampNeg (i1)) := ⟨_, rfl⟩
  rw [← eH] at h ⊢
  refine gG_bipush (v := 24) dX12_tests_18 (by decide) ?_
  refine gG_ic_ne (tgt := 44) dX12_tests_20 (by decide) (fun c => ?_) (fun c => ?_)
  · have h := h.1 c
    refine gG_locals ?_ h
    exact ⟨rfl, ⟨rfl, ⟨rfl, trivial⟩⟩⟩
  · have h := h.2 c
    refine gG_aload_n dX12_tests_23 rfl rfl ?_
    obtain ⟨fs, q6, e1, e2, h⟩ := h
    refine gG_gr dX12_tests_24 fl_X12_66 ⟨fs, q6, e1, e2, ?_⟩
    refine gG_iload_n dX12_tests_27 rfl rfl ?_
    obtain ⟨m0, f0, e1, e2, h⟩ := h
    refine gG_iald dX12_tests_28 ⟨m0, f0, e1, e2, ?_⟩
    obtain ⟨x7, eH⟩ : ∃ z, z = f0 (Int32.toNatClampNeg (i1)) := ⟨_, rfl⟩
    rw [← eH] at h ⊢
    refine gG_aload_n dX12_tests_29 rfl rfl ?_
    obtain ⟨fs, q8, e1, e2, h⟩ := h
    refine gG_gr dX12_tests_30 fl_X12_72 ⟨fs, q8, e1, e2, ?_⟩
    refine gG_iload_n dX12_tests_33 rfl rfl ?_
    obtain ⟨m0, f0, e1, e2, h⟩ := h
    refine gG_iald dX12_tests_34 ⟨m0, f0, e1, e2, ?_⟩
    obtain ⟨x9, eH⟩ : ∃ z, z = f0 (Int32.toNatClampNeg (i1)) := ⟨_, rfl⟩
    rw [← eH] at h ⊢
    refine gG_ic_ge (tgt := 42) dX12_tests_35 (by decide) (fun c => ?_) (fun c => ?_)
    · have h := h.1 c
      refine gG_iconst (v := 0) dX12_tests_42 (by decide) ?_
      refine gG_istore_n dX12_tests_43 rfl (Nat.le_of_ble_eq_true rfl) ?_
      refine gG_locals ?_ h
      exact ⟨rfl, ⟨rfl, ⟨rfl, trivial⟩⟩⟩
    · have h := h.2 c
      refine gG_iconst (v := 1) dX12_tests_38 (by decide) ?_
      refine gG_goto (tgt := 43) dX12_tests_39 (by decide) ?_
      refine gG_istore_n dX12_tests_43 rfl (Nat.le_of_ble_eq_true rfl) ?_
      refine gG_locals ?_ h
      exact ⟨rfl, ⟨rfl, ⟨rfl, trivial⟩⟩⟩
theorem kX12_tests_44 {d n : Nat} {H : gHp} {P : gHp → Prop} {a0 : Nat} {i1 : Int32} {i2 : Int32} (h : g_gr H (a0) 12 29 (fun q1 => g_al 0 H (q1) (i1) (fun x2 => (¬ (x2 = (25 : Int32)) → gG d mX12_tests 0 0 (g_Xv mX12_tests n 0 0 P) 76 n H [some (.ref (a0)), some (.int (i1)), some (.int (i2))] [] (0) (0)) ∧ (x2 = (25 : Int32) → g_gr H (a0) 12 28 (fun q3 => g_al 0 H (q3) (i1) (fun x4 => g_gr H (a0) 12 30 (fun q5 => g_al 0 H (q5) (i1) (fun x6 => (¬ (x4 = x6) → gG d mX12_tests 0 0 (g_Xv mX12_tests n 0 0 P) 76 n H [some (.ref (a0)), some (.int (i1)), some (.int ((0 : Int32)))] [] (0) (0)) ∧ (x4 = x6 → gG d mX12_tests 0 0 (g_Xv mX12_tests n 0 0 P) 76 n H [some (.ref (a0)), some (.int (i1)), some (.int ((1 : Int32)))] [] (0) (0)))))))))) : gG d mX12_tests 0 0 (g_Xv mX12_tests n 0 0 P) 44 n H [some (.ref (a0)), some (.int (i1)), some (.int (i2))] [] 0 0 := by
  refine gG_aload_n dX12_tests_44 rfl rfl ?_
  obtain ⟨fs, q1, e1, e2, h⟩ := h
  refine gG_gr dX12_tests_45 fl_X12_69 ⟨fs, q1, e1, e2, ?_⟩
  refine gG_iload_n dX12_tests_48 rfl rfl ?_
  obtain ⟨m0, f0, e1, e2, h⟩ := h
  refine gG_iald dX12_tests_49 ⟨m0, f0, e1, e2, ?_⟩
  obtain ⟨x2, eH⟩ : ∃ z, z = f0 (Int32.toNatClampNeg (i1)) := ⟨_, rfl⟩
  rw [← eH] at h ⊢
  refine gG_bipush (v := 25) dX12_tests_50 (by decide) ?_
  refine gG_ic_ne (tgt := 76) dX12_tests_52 (by decide) (fun c => ?_) (fun c => ?_)
  · have h := h.1 c
    refine gG_locals ?_ h
    exact ⟨rfl, ⟨rfl, ⟨rfl, trivial⟩⟩⟩
  · have h := h.2 c
    refine gG_aload_n dX12_tests_55 rfl rfl ?_
    obtain ⟨fs, q3, e1, e2, h⟩ := h
    refine gG_gr dX12_tests_56 fl_X12_66 ⟨fs, q3, e1, e2, ?_⟩
    refine gG_iload_n dX12_tests_59 rfl rfl ?_
    obtain ⟨m0, f0, e1, e2, h⟩ := h
    refine gG_iald dX12_tests_60 ⟨m0, f0, e1, e2, ?_⟩
    obtain ⟨x4, eH⟩ : ∃ z, z = f0 (Int32.toNatClampNeg (i1)) := ⟨_, rfl⟩
    rw [← eH] at h ⊢
    refine gG_aload_n dX12_tests_61 rfl rfl ?_
    obtain ⟨fs, q5, e1, e2, h⟩ := h
    refine gG_gr dX12_tests_62 fl_X12_72 ⟨fs, q5, e1, e2, ?_⟩
    refine gG_iload_n dX12_tests_65 rfl rfl ?_
    obtain ⟨m0, f0, e1, e2, h⟩ := h
    refine gG_iald dX12_tests_66 ⟨m0, f0, e1, e2, ?_⟩
    obtain ⟨x6, eH⟩ : ∃ z, z = f0 (Int32.toNatClampNeg (i1)) := ⟨_, rfl⟩
    rw [← eH] at h ⊢
    refine gG_ic_ne (tgt := 74) dX12_tests_67 (by decide) (fun c => ?_) (fun c => ?_)
    · have h := h.1 c
      refine gG_iconst (v := 0) dX12_tests_74 (by decide) ?_
      refine gG_istore_n dX12_tests_75 rfl (Nat.le_of_ble_eq_true rfl) ?_
      refine gG_locals ?_ h
      exact ⟨rfl, ⟨rfl, ⟨rfl, trivial⟩⟩⟩
    · have h := h.2 c
      refine gG_iconst (v := 1) dX12_tests_70 (by decide) ?_
      refine gG_goto (tgt := 75) dX12_tests_71 (by decide) ?_
      refine gG_istore_n dX12_tests_75 rfl (Nat.le_of_ble_eq_true rfl) ?_
      refine gG_locals ?_ h
      exact ⟨rfl, ⟨rfl, ⟨rfl, trivial⟩⟩⟩
theorem kX12_tests_76 {d n : Nat} {H : gHp} {P : gHp → Prop} {a0 : Nat} {i1 : Int32} {i2 : Int32} (h : g_gr H (a0) 12 27 (fun q1 => g_al 0 H (q1) (i1) (fun x2 => (¬ (x2 = (26 : Int32)) → gG d mX12_tests 0 0 (g_Xv mX12_tests n 0 0 P) 106 n H [some (.ref (a0)), some (.int (i1)), some (.int (i2))] [] (0) (0)) ∧ (x2 = (26 : Int32) → g_gr H (a0) 12 26 (fun q3 => g_al 0 H (q3) (i1) (fun x4 => (x4 = 0 → gG d mX12_tests 0 0 (g_Xv mX12_tests n 0 0 P) 106 n H [some (.ref (a0)), some (.int (i1)), some (.int ((0 : Int32)))] [] (0) (0)) ∧ (¬ (x4 = 0) → (i2 = 0 → gG d mX12_tests 0 0 (g_Xv mX12_tests n 0 0 P) 106 n H [some (.ref (a0)), some (.int (i1)), some (.int ((0 : Int32)))] [] (0) (0)) ∧ (¬ (i2 = 0) → gG d mX12_tests 0 0 (g_Xv mX12_tests n 0 0 P) 106 n H [some (.ref (a0)), some (.int (i1)), some (.int ((1 : Int32)))] [] (0) (0))))))))) : gG d mX12_tests 0 0 (g_Xv mX12_tests n 0 0 P) 76 n H [some (.ref (a0)), some (.int (i1)), some (.int (i2))] [] 0 0 := by
  refine gG_aload_n dX12_tests_76 rfl rfl ?_
  obtain ⟨fs, q1, e1, e2, h⟩ := h
  refine gG_gr dX12_tests_77 fl_X12_63 ⟨fs, q1, e1, e2, ?_⟩
  refine gG_iload_n dX12_tests_80 rfl rfl ?_
  obtain ⟨m0, f0, e1, e2, h⟩ := h
  refine gG_iald dX12_tests_81 ⟨m0, f0, e1, e2, ?_⟩
  obtain ⟨x2, eH⟩ : ∃ z, z = f0 (Int32.toNatClampNeg (i1)) := ⟨_, rfl⟩
  rw [← eH] at h ⊢
  refine gG_bipush (v := 26) dX12_tests_82 (by decide) ?_
  refine gG_ic_ne (tgt := 106) dX12_tests_84 (by decide) (fun c => ?_) (fun c => ?_)
  · have h := h.1 c
    refine gG_locals ?_ h
    exact ⟨rfl, ⟨rfl, ⟨rfl, trivial⟩⟩⟩
  · have h := h.2 c
    refine gG_aload_n dX12_tests_87 rfl rfl ?_
    obtain ⟨fs, q3, e1, e2, h⟩ := h
    refine gG_gr dX12_tests_88 fl_X12_60 ⟨fs, q3, e1, e2, ?_⟩
    refine gG_iload_n dX12_tests_91 rfl rfl ?_
    obtain ⟨m0, f0, e1, e2, h⟩ := h
    refine gG_iald dX12_tests_92 ⟨m0, f0, e1, e2, ?_⟩
    obtain ⟨x4, eH⟩ : ∃ z, z = f0 (Int32.toNatClampNeg (i1)) := ⟨_, rfl⟩
    rw [← eH] at h ⊢
    refine gG_if_eq (tgt := 104) dX12_tests_93 (by decide) (fun c => ?_) (fun c => ?_)
    · have h := h.1 c
      refine gG_iconst (v := 0) dX12_tests_104 (by decide) ?_
      refine gG_istore_n dX12_tests_105 rfl (Nat.le_of_ble_eq_true rfl) ?_
      refine gG_locals ?_ h
      exact ⟨rfl, ⟨rfl, ⟨rfl, trivial⟩⟩⟩
    · have h := h.2 c
      refine gG_iload_n dX12_tests_96 rfl rfl ?_
      refine gG_if_eq (tgt := 104) dX12_tests_97 (by decide) (fun c => ?_) (fun c => ?_)
      · have h := h.1 c
        refine gG_iconst (v := 0) dX12_tests_104 (by decide) ?_
        refine gG_istore_n dX12_tests_105 rfl (Nat.le_of_ble_eq_true rfl) ?_
        refine gG_locals ?_ h
        exact ⟨rfl, ⟨rfl, ⟨rfl, trivial⟩⟩⟩
      · have h := h.2 c
        refine gG_iconst (v := 1) dX12_tests_100 (by decide) ?_
        refine gG_goto (tgt := 105) dX12_tests_101 (by decide) ?_
        refine gG_istore_n dX12_tests_105 rfl (Nat.le_of_ble_eq_true rfl) ?_
        refine gG_locals ?_ h
        exact ⟨rfl, ⟨rfl, ⟨rfl, trivial⟩⟩⟩
theorem kX12_tests_106 {d n : Nat} {H : gHp} {P : gHp → Prop} {a0 : Nat} {i1 : Int32} {i2 : Int32} (h : g_gr H (a0) 12 27 (fun q1 => g_al 0 H (q1) (i1) (fun x2 => (¬ (x2 = (27 : Int32)) → gG d mX12_tests 0 0 (g_Xv mX12_tests n 0 0 P) 136 n H [some (.ref (a0)), some (.int (i1)), some (.int (i2))] [] (0) (0)) ∧ (x2 = (27 : Int32) → g_gr H (a0) 12 26 (fun q3 => g_al 0 H (q3) (i1) (fun x4 => (¬ (x4 = 0) → gG d mX12_tests 0 0 (g_Xv mX12_tests n 0 0 P) 136 n H [some (.ref (a0)), some (.int (i1)), some (.int ((1 : Int32)))] [] (0) (0)) ∧ (x4 = 0 → (i2 = 0 → gG d mX12_tests 0 0 (g_Xv mX12_tests n 0 0 P) 136 n H [some (.ref (a0)), some (.int (i1)), some (.int ((0 : Int32)))] [] (0) (0)) ∧ (¬ (i2 = 0) → gG d mX12_tests 0 0 (g_Xv mX12_tests n 0 0 P) 136 n H [some (.ref (a0)), some (.int (i1)), some (.int ((1 : Int32)))] [] (0) (0))))))))) : gG d mX12_tests 0 0 (g_Xv mX12_tests n 0 0 P) 106 n H [some (.ref (a0)), some (.int (i1)), some (.int (i2))] [] 0 0 := by
  refine gG_aload_n dX12_tests_106 rfl rfl ?_
  obtain ⟨fs, q1, e1, e2, h⟩ := h
  refine gG_gr dX12_tests_107 fl_X12_63 ⟨fs, q1, e1, e2, ?_⟩
  refine gG_iload_n dX12_tests_110 rfl rfl ?_
  obtain ⟨m0, f0, e1, e2, h⟩ := h
  refine gG_iald dX12_tests_111 ⟨m0, f0, e1, e2, ?_⟩
  obtain ⟨x2, eH⟩ : ∃ z, z = f0 (Int32.toNatClampNeg (i1)) := ⟨_, rfl⟩
  rw [← eH] at h ⊢
  refine gG_bipush (v := 27) dX12_tests_112 (by decide) ?_
  refine gG_ic_ne (tgt := 136) dX12_tests_114 (by decide) (fun c => ?_) (fun c => ?_)
  · have h := h.1 c
    refine gG_locals ?_ h
    exact ⟨rfl, ⟨rfl, ⟨rfl, trivial⟩⟩⟩
  · have h := h.2 c
    refine gG_aload_n dX12_tests_117 rfl rfl ?_
    obtain ⟨fs, q3, e1, e2, h⟩ := h
    refine gG_gr dX12_tests_118 fl_X12_60 ⟨fs, q3, e1, e2, ?_⟩
    refine gG_iload_n dX12_tests_121 rfl rfl ?_
    obtain ⟨m0, f0, e1, e2, h⟩ := h
    refine gG_iald dX12_tests_122 ⟨m0, f0, e1, e2, ?_⟩
    obtain ⟨x4, eH⟩ : ∃ z, z = f0 (Int32.toNatClampNeg (i1)) := ⟨_, rfl⟩
    rw [← eH] at h ⊢
    refine gG_if_ne (tgt := 130) dX12_tests_123 (by decide) (fun c => ?_) (fun c => ?_)
    · have h := h.1 c
      refine gG_iconst (v := 1) dX12_tests_130 (by decide) ?_
      refine gG_goto (tgt := 135) dX12_tests_131 (by decide) ?_
      refine gG_istore_n dX12_tests_135 rfl (Nat.le_of_ble_eq_true rfl) ?_
      refine gG_locals ?_ h
      exact ⟨rfl, ⟨rfl, ⟨rfl, trivial⟩⟩⟩
    · have h := h.2 c
      refine gG_iload_n dX12_tests_126 rfl rfl ?_
      refine gG_if_eq (tgt := 134) dX12_tests_127 (by decide) (fun c => ?_) (fun c => ?_)
      · have h := h.1 c
        refine gG_iconst (v := 0) dX12_tests_134 (by decide) ?_
        refine gG_istore_n dX12_tests_135 rfl (Nat.le_of_ble_eq_true rfl) ?_
        refine gG_locals ?_ h
        exact ⟨rfl, ⟨rfl, ⟨rfl, trivial⟩⟩⟩
      · have h := h.2 c
        refine gG_iconst (v := 1) dX12_tests_130 (by decide) ?_
        refine gG_goto (tgt := 135) dX12_tests_131 (by decide) ?_
        refine gG_istore_n dX12_tests_135 rfl (Nat.le_of_ble_eq_true rfl) ?_
        refine gG_locals ?_ h
        exact ⟨rfl, ⟨rfl, ⟨rfl, trivial⟩⟩⟩
theorem kX12_tests_136 {d n : Nat} {H : gHp} {P : gHp → Prop} {a0 : Nat} {i1 : Int32} {i2 : Int32} (h : g_gr H (a0) 12 26 (fun q1 => g_as 0 H (q1) (i1) (i2) (fun H2 => g_gr H2 (a0) 12 29 (fun q3 => g_as 0 H2 (q3) (i1) ((0 : Int32)) (fun H4 => g_gr H4 (a0) 12 30 (fun q5 => g_as 0 H4 (q5) (i1) ((0 : Int32)) (fun H6 => g_gr H6 (a0) 12 31 (fun q7 => g_as 0 H6 (q7) (i1) ((20 : Int32)) (fun H8 => P H8))))))))) : gG d mX12_tests 0 0 (g_Xv mX12_tests n 0 0 P) 136 n H [some (.ref (a0)), some (.int (i1)), some (.int (i2))] [] 0 0 := by
  refine gG_aload_n dX12_tests_136 rfl rfl ?_
  obtain ⟨fs, q1, e1, e2, h⟩ := h
  refine gG_gr dX12_tests_137 fl_X12_60 ⟨fs, q1, e1, e2, ?_⟩
  refine gG_iload_n dX12_tests_140 rfl rfl ?_
  refine gG_iload_n dX12_tests_141 rfl rfl ?_
  obtain ⟨m0, f0, e1, e2, h⟩ := h
  refine gG_iast dX12_tests_142 ⟨m0, f0, e1, e2, ?_⟩
  obtain ⟨H2, eH⟩ : ∃ z, z = va_up H (q1) (.inl (0, m0, .inl (upd f0 (Int32.toNatClampNeg (i1)) (i2)))) := ⟨_, rfl⟩
  rw [← eH] at h ⊢
  refine gG_aload_n dX12_tests_143 rfl rfl ?_
  obtain ⟨fs, q3, e1, e2, h⟩ := h
  refine gG_gr dX12_tests_144 fl_X12_69 ⟨fs, q3, e1, e2, ?_⟩
  refine gG_iload_n dX12_tests_147 rfl rfl ?_
  refine gG_iconst (v := 0) dX12_tests_148 (by decide) ?_
  obtain ⟨m0, f0, e1, e2, h⟩ := h
  refine gG_iast dX12_tests_149 ⟨m0, f0, e1, e2, ?_⟩
  obtain ⟨H4, eH⟩ : ∃ z, z = va_up H2 (q3) (.inl (0, m0, .inl (upd f0 (Int32.toNatClampNeg (i1)) ((0 : Int32))))) := ⟨_, rfl⟩
  rw [← eH] at h ⊢
  refine gG_aload_n dX12_tests_150 rfl rfl ?_
  obtain ⟨fs, q5, e1, e2, h⟩ := h
  refine gG_gr dX12_tests_151 fl_X12_72 ⟨fs, q5, e1, e2, ?_⟩
  refine gG_iload_n dX12_tests_154 rfl rfl ?_
  refine gG_iconst (v := 0) dX12_tests_155 (by decide) ?_
  obtain ⟨m0, f0, e1, e2, h⟩ := h
  refine gG_iast dX12_tests_156 ⟨m0, f0, e1, e2, ?_⟩
  obtain ⟨H6, eH⟩ : ∃ z, z = va_up H4 (q5) (.inl (0, m0, .inl (upd f0 (Int32.toNatClampNeg (i1)) ((0 : Int32))))) := ⟨_, rfl⟩
  rw [← eH] at h ⊢
  refine gG_aload_n dX12_tests_157 rfl rfl ?_
  obtain ⟨fs, q7, e1, e2, h⟩ := h
  refine gG_gr dX12_tests_158 fl_X12_75 ⟨fs, q7, e1, e2, ?_⟩
  refine gG_iload_n dX12_tests_161 rfl rfl ?_
  refine gG_bipush (v := 20) dX12_tests_162 (by decide) ?_
  obtain ⟨m0, f0, e1, e2, h⟩ := h
  refine gG_iast dX12_tests_164 ⟨m0, f0, e1, e2, ?_⟩
  obtain ⟨H8, eH⟩ : ∃ z, z = va_up H6 (q7) (.inl (0, m0, .inl (upd f0 (Int32.toNatClampNeg (i1)) ((20 : Int32))))) := ⟨_, rfl⟩
  rw [← eH] at h ⊢
  exact gG_exit ⟨rfl, rfl, rfl, dX12_tests_165, rfl, h⟩

theorem kX12_worked_0 {d n : Nat} {H : gHp} {P : gHp → Int32 → Prop} {a0 : Nat} {i1 : Int32} (h : (∃ fs, H (a0) = .inr (12, fs)) ∧ g_cvd d mX12_opens n H [.ref (a0), .int ((0 : Int32))] (fun H1 => g_gr H1 (a0) 12 20 (fun q2 => g_al 0 H1 (q2) (i1) (fun x3 => gG d mX12_worked 0 0 (g_Xj mX12_worked n 0 0 P) 14 n H1 [some (.ref (a0)), some (.int (i1)), some (.int ((0 : Int32))), some (.int (x3)), none, none] [] (0) (0))))) : gG d mX12_worked 0 0 (g_Xj mX12_worked n 0 0 P) 0 n H [some (.ref (a0)), some (.int (i1)), none, none, none, none] [] 0 0 := by
  refine gG_iconst (v := 0) dX12_worked_0 (by decide) ?_
  refine gG_istore_n dX12_worked_1 rfl (Nat.le_of_ble_eq_true rfl) ?_
  refine gG_aload_n dX12_worked_2 rfl rfl ?_
  refine gG_iconst (v := 0) dX12_worked_3 (by decide) ?_
  obtain ⟨hrc, d2, P2, hdd, hC, h⟩ := h
  refine gG_cvv (As := [.int ((0 : Int32))]) (st := []) dX12_worked_4 mV_X12_228 hdd hrc rfl rfl (Nat.le_of_ble_eq_true rfl) (Nat.le_refl _) ⟨Nat.le_refl _, Nat.le_refl _⟩ hC (fun H1 hp => ?_)
  have h := h H1 hp
  refine gG_aload_n dX12_worked_7 rfl rfl ?_
  obtain ⟨fs, q2, e1, e2, h⟩ := h
  refine gG_gr dX12_worked_8 fl_X12_44 ⟨fs, q2, e1, e2, ?_⟩
  refine gG_iload_n dX12_worked_11 rfl rfl ?_
  obtain ⟨m0, f0, e1, e2, h⟩ := h
  refine gG_iald dX12_worked_12 ⟨m0, f0, e1, e2, ?_⟩
  obtain ⟨x3, eH⟩ : ∃ z, z = f0 (Int32.toNatClampNeg (i1)) := ⟨_, rfl⟩
  rw [← eH] at h ⊢
  refine gG_istore_n dX12_worked_13 rfl (Nat.le_of_ble_eq_true rfl) ?_
  refine gG_locals ?_ h
  exact ⟨rfl, ⟨rfl, ⟨rfl, ⟨rfl, trivial⟩⟩⟩⟩
theorem kX12_worked_14 {d n : Nat} {H : gHp} {P : gHp → Int32 → Prop} {a0 : Nat} {i1 : Int32} {i2 : Int32} {i3 : Int32} (h : g_gr H (a0) 12 21 (fun q1 => g_al 0 H (q1) (i1) (fun x2 => (x2 ≤ i3 → (∃ fs, H (a0) = .inr (12, fs)) ∧ g_cvd d mX12_tests n H [.ref (a0), .int ((0 : Int32))] (fun H3 => g_gr H3 (a0) 12 26 (fun q4 => g_al 0 H3 (q4) ((0 : Int32)) (fun x5 => P H3 (x5))))) ∧ (¬ (x2 ≤ i3) → g_gr H (a0) 12 22 (fun q6 => g_al 0 H (q6) (i3) (fun x7 => (x7 = (28 : Int32) → gG d mX12_worked 0 0 (g_Xj mX12_worked n 0 0 P) 46 n H [some (.ref (a0)), some (.int (i1)), some (.int (i2)), some (.int (i3)), some (.int (x7)), none] [] (0) (0)) ∧ (¬ (x7 = (28 : Int32)) → (¬ (x7 = (30 : Int32)) → (x7 = (20 : Int32) → gG d mX12_worked 0 0 (g_Xj mX12_worked n 0 0 P) 89 n H [some (.ref (a0)), some (.int (i1)), some (.int (i2)), some (.int (i3)), some (.int (x7)), none] [] (0) (0)) ∧ (¬ (x7 = (20 : Int32)) → (¬ (x7 = (21 : Int32)) → (¬ (x7 = (22 : Int32)) → (x7 = (24 : Int32) → gG d mX12_worked 0 0 (g_Xj mX12_worked n 0 0 P) 137 n H [some (.ref (a0)), some (.int (i1)), some (.int (i2)), some (.int (i3)), some (.int (x7)), none] [] (0) (0)) ∧ (¬ (x7 = (24 : Int32)) → (¬ (x7 = (25 : Int32)) → (x7 = (26 : Int32) → gG d mX12_worked 0 0 (g_Xj mX12_worked n 0 0 P) 194 n H [some (.ref (a0)), some (.int (i1)), some (.int (i2)), some (.int (i3)), some (.int (x7)), none] [] (0) (0)) ∧ (¬ (x7 = (26 : Int32)) → (¬ (x7 = (27 : Int32)) → (x7 < (100 : Int32) → ((20 : Int32) ≤ x7 → gG d mX12_worked 0 0 (g_Xj mX12_worked n 0 0 P) 245 n H [some (.ref (a0)), some (.int (i1)), some (.int (i2)), some (.int (i3)), some (.int (x7)), some (.int ((0 : Int32)))] [] (0) (0)) ∧ (¬ ((20 : Int32) ≤ x7) → g_gr H (a0) 12 35 (fun q8 => g_al 0 H (q8) (x7) (fun x9 => gG d mX12_worked 0 0 (g_Xj mX12_worked n 0 0 P) 245 n H [some (.ref (a0)), some (.int (i1)), some (.int (i2)), some (.int (i3)), some (.int (x7)), some (.int (x9))] [] (0) (0))))) ∧ (¬ (x7 < (100 : Int32)) → gG d mX12_worked 0 0 (g_Xj mX12_worked n 0 0 P) 245 n H [some (.ref (a0)), some (.int (i1)), some (.int (i2)), some (.int (i3)), some (.int (x7)), some (.int ((x7 - (100 : Int32))))] [] (0) (0))) ∧ (x7 = (27 : Int32) → gG d mX12_worked 0 0 (g_Xj mX12_worked n 0 0 P) 194 n H [some (.ref (a0)), some (.int (i1)), some (.int (i2)), some (.int (i3)), some (.int (x7)), none] [] (0) (0)))) ∧ (x7 = (25 : Int32) → gG d mX12_worked 0 0 (g_Xj mX12_worked n 0 0 P) 137 n H [some (.ref (a0)), some (.int (i1)), some (.int (i2)), some (.int (i3)), some (.int (x7)), none] [] (0) (0)))) ∧ (x7 = (22 : Int32) → g_gr H (a0) 12 33 (fun q10 => g_as 0 H (q10) (i2) (x7) (fun H11 => gG d mX12_worked 0 0 (g_Xj mX12_worked n 0 0 P) 14 n H11 [some (.ref (a0)), some (.int (i1)), some (.int (i2)), some (.int ((i3 + 1))), none, none] [] (0) (0))))) ∧ (x7 = (21 : Int32) → gG d mX12_worked 0 0 (g_Xj mX12_worked n 0 0 P) 89 n H [some (.ref (a0)), some (.int (i1)), some (.int (i2)), some (.int (i3)), some (.int (x7)), none] [] (0) (0)))) ∧ (x7 = (30 : Int32) → gG d mX12_worked 0 0 (g_Xj mX12_worked n 0 0 P) 46 n H [some (.ref (a0)), some (.int (i1)), some (.int (i2)), some (.int (i3)), some (.int (x7)), none] [] (0) (0))))))))) : gG d mX12_worked 0 0 (g_Xj mX12_worked n 0 0 P) 14 n H [some (.ref (a0)), some (.int (i1)), some (.int (i2)), some (.int (i3)), none, none] [] 0 0 := by
  refine gG_iload_n dX12_worked_14 rfl rfl ?_
  refine gG_aload_n dX12_worked_15 rfl rfl ?_
  obtain ⟨fs, q1, e1, e2, h⟩ := h
  refine gG_gr dX12_worked_16 fl_X12_47 ⟨fs, q1, e1, e2, ?_⟩
  refine gG_iload_n dX12_worked_19 rfl rfl ?_
  obtain ⟨m0, f0, e1, e2, h⟩ := h
  refine gG_iald dX12_worked_20 ⟨m0, f0, e1, e2, ?_⟩
  obtain ⟨x2, eH⟩ : ∃ z, z = f0 (Int32.toNatClampNeg (i1)) := ⟨_, rfl⟩
  rw [← eH] at h ⊢
  refine gG_ic_ge (tgt := 335) dX12_worked_21 (by decide) (fun c => ?_) (fun c => ?_)
  · have h := h.1 c
    refine gG_aload_n dX12_worked_335 rfl rfl ?_
    refine gG_iconst (v := 0) dX12_worked_336 (by decide) ?_
    obtain ⟨hrc, d2, P2, hdd, hC, h⟩ := h
    refine gG_cvv (As := [.int ((0 : Int32))]) (st := []) dX12_worked_337 mV_X12_231 hdd hrc rfl rfl (Nat.le_of_ble_eq_true rfl) (Nat.le_refl _) ⟨Nat.le_refl _, Nat.le_refl _⟩ hC (fun H3 hp => ?_)
    have h := h H3 hp
    refine gG_aload_n dX12_worked_340 rfl rfl ?_
    obtain ⟨fs, q4, e1, e2, h⟩ := h
    refine gG_gr dX12_worked_341 fl_X12_60 ⟨fs, q4, e1, e2, ?_⟩
    refine gG_iconst (v := 0) dX12_worked_344 (by decide) ?_
    obtain ⟨m0, f0, e1, e2, h⟩ := h
    refine gG_iald dX12_worked_345 ⟨m0, f0, e1, e2, ?_⟩
    obtain ⟨x5, eH⟩ : ∃ z, z = f0 (Int32.toNatClampNeg ((0 : Int32))) := ⟨_, rfl⟩
    rw [← eH] at h ⊢
    exact gG_exit ⟨rfl, rfl, rfl, dX12_worked_346, _, rfl, h⟩
  · have h := h.2 c
    refine gG_aload_n dX12_worked_24 rfl rfl ?_
    obtain ⟨fs, q6, e1, e2, h⟩ := h
    refine gG_gr dX12_worked_25 fl_X12_50 ⟨fs, q6, e1, e2, ?_⟩
    refine gG_iload_n dX12_worked_28 rfl rfl ?_
    obtain ⟨m0, f0, e1, e2, h⟩ := h
    refine gG_iald dX12_worked_29 ⟨m0, f0, e1, e2, ?_⟩
    obtain ⟨x7, eH⟩ : ∃ z, z = f0 (Int32.toNatClampNeg (i3)) := ⟨_, rfl⟩
    rw [← eH] at h ⊢
    refine gG_istore dX12_worked_30 (Nat.le_of_ble_eq_true rfl) ?_
    refine gG_iload dX12_worked_32 rfl ?_
    refine gG_bipush (v := 28) dX12_worked_34 (by decide) ?_
    refine gG_ic_eq (tgt := 46) dX12_worked_36 (by decide) (fun c => ?_) (fun c => ?_)
    · have h := h.1 c
      refine gG_locals ?_ h
      exact ⟨rfl, ⟨rfl, ⟨rfl, ⟨rfl, ⟨rfl, trivial⟩⟩⟩⟩⟩
    · have h := h.2 c
      refine gG_iload dX12_worked_39 rfl ?_
      refine gG_bipush (v := 30) dX12_worked_41 (by decide) ?_
      refine gG_ic_ne (tgt := 75) dX12_worked_43 (by decide) (fun c => ?_) (fun c => ?_)
      · have h := h.1 c
        refine gG_iload dX12_worked_75 rfl ?_
        refine gG_bipush (v := 20) dX12_worked_77 (by decide) ?_
        refine gG_ic_eq (tgt := 89) dX12_worked_79 (by decide) (fun c => ?_) (fun c => ?_)
        · have h := h.1 c
          refine gG_locals ?_ h
          exact ⟨rfl, ⟨rfl, ⟨rfl, ⟨rfl, ⟨rfl, trivial⟩⟩⟩⟩⟩
        · have h := h.2 c
          refine gG_iload dX12_worked_82 rfl ?_
          refine gG_bipush (v := 21) dX12_worked_84 (by decide) ?_
          refine gG_ic_ne (tgt := 105) dX12_worked_86 (by decide) (fun c => ?_) (fun c => ?_)
          · have h := h.1 c
            refine gG_iload dX12_worked_105 rfl ?_
            refine gG_bipush (v := 22) dX12_worked_107 (by decide) ?_
            refine gG_ic_ne (tgt := 123) dX12_worked_109 (by decide) (fun c => ?_) (fun c => ?_)
            · have h := h.1 c
              refine gG_iload dX12_worked_123 rfl ?_
              refine gG_bipush (v := 24) dX12_worked_125 (by decide) ?_
              refine gG_ic_eq (tgt := 137) dX12_worked_127 (by decide) (fun c => ?_) (fun c => ?_)
              · have h := h.1 c
                refine gG_locals ?_ h
                exact ⟨rfl, ⟨rfl, ⟨rfl, ⟨rfl, ⟨rfl, trivial⟩⟩⟩⟩⟩
              · have h := h.2 c
                refine gG_iload dX12_worked_130 rfl ?_
                refine gG_bipush (v := 25) dX12_worked_132 (by decide) ?_
                refine gG_ic_ne (tgt := 180) dX12_worked_134 (by decide) (fun c => ?_) (fun c => ?_)
                · have h := h.1 c
                  refine gG_iload dX12_worked_180 rfl ?_
                  refine gG_bipush (v := 26) dX12_worked_182 (by decide) ?_
                  refine gG_ic_eq (tgt := 194) dX12_worked_184 (by decide) (fun c => ?_) (fun c => ?_)
                  · have h := h.1 c
                    refine gG_locals ?_ h
                    exact ⟨rfl, ⟨rfl, ⟨rfl, ⟨rfl, ⟨rfl, trivial⟩⟩⟩⟩⟩
                  · have h := h.2 c
                    refine gG_iload dX12_worked_187 rfl ?_
                    refine gG_bipush (v := 27) dX12_worked_189 (by decide) ?_
                    refine gG_ic_ne (tgt := 210) dX12_worked_191 (by decide) (fun c => ?_) (fun c => ?_)
                    · have h := h.1 c
                      refine gG_iload dX12_worked_210 rfl ?_
                      refine gG_bipush (v := 100) dX12_worked_212 (by decide) ?_
                      refine gG_ic_lt (tgt := 225) dX12_worked_214 (by decide) (fun c => ?_) (fun c => ?_)
                      · have h := h.1 c
                        refine gG_iload dX12_worked_225 rfl ?_
                        refine gG_bipush (v := 20) dX12_worked_227 (by decide) ?_
                        refine gG_ic_ge (tgt := 242) dX12_worked_229 (by decide) (fun c => ?_) (fun c => ?_)
                        · have h := h.1 c
                          refine gG_iconst (v := 0) dX12_worked_242 (by decide) ?_
                          refine gG_istore dX12_worked_243 (Nat.le_of_ble_eq_true rfl) ?_
                          refine gG_locals ?_ h
                          exact ⟨rfl, ⟨rfl, ⟨rfl, ⟨rfl, ⟨rfl, ⟨rfl, trivial⟩⟩⟩⟩⟩⟩
                        · have h := h.2 c
                          refine gG_aload_n dX12_worked_232 rfl rfl ?_
                          obtain ⟨fs, q8, e1, e2, h⟩ := h
                          refine gG_gr dX12_worked_233 fl_X12_87 ⟨fs, q8, e1, e2, ?_⟩
                          refine gG_iload dX12_worked_236 rfl ?_
                          obtain ⟨m0, f0, e1, e2, h⟩ := h
                          refine gG_iald dX12_worked_238 ⟨m0, f0, e1, e2, ?_⟩
                          obtain ⟨x9, eH⟩ : ∃ z, z = f0 (Int32.toNatClampNeg (x7)) := ⟨_, rfl⟩
                          rw [← eH] at h ⊢
                          refine gG_goto (tgt := 243) dX12_worked_239 (by decide) ?_
                          refine gG_istore dX12_worked_243 (Nat.le_of_ble_eq_true rfl) ?_
                          refine gG_locals ?_ h
                          exact ⟨rfl, ⟨rfl, ⟨rfl, ⟨rfl, ⟨rfl, ⟨rfl, trivial⟩⟩⟩⟩⟩⟩
                      · have h := h.2 c
                        refine gG_iload dX12_worked_217 rfl ?_
                        refine gG_bipush (v := 100) dX12_worked_219 (by decide) ?_
                        refine gG_isub dX12_worked_221 ?_
                        refine gG_goto (tgt := 243) dX12_worked_222 (by decide) ?_
                        refine gG_istore dX12_worked_243 (Nat.le_of_ble_eq_true rfl) ?_
                        refine gG_locals ?_ h
                        exact ⟨rfl, ⟨rfl, ⟨rfl, ⟨rfl, ⟨rfl, ⟨rfl, trivial⟩⟩⟩⟩⟩⟩
                    · have h := h.2 c
                      refine gG_locals ?_ h
                      exact ⟨rfl, ⟨rfl, ⟨rfl, ⟨rfl, ⟨rfl, trivial⟩⟩⟩⟩⟩
                · have h := h.2 c
                  refine gG_locals ?_ h
                  exact ⟨rfl, ⟨rfl, ⟨rfl, ⟨rfl, ⟨rfl, trivial⟩⟩⟩⟩⟩
            · have h := h.2 c
              refine gG_aload_n dX12_worked_112 rfl rfl ?_
              obtain ⟨fs, q10, e1, e2, h⟩ := h
              refine gG_gr dX12_worked_113 fl_X12_81 ⟨fs, q10, e1, e2, ?_⟩
              refine gG_iload_n dX12_worked_116 rfl rfl ?_
              refine gG_iload dX12_worked_117 rfl ?_
              obtain ⟨m0, f0, e1, e2, h⟩ := h
              refine gG_iast dX12_worked_119 ⟨m0, f0, e1, e2, ?_⟩
              obtain ⟨H11, eH⟩ : ∃ z, z = va_up H (q10) (.inl (0, m0, .inl (upd f0 (Int32.toNatClampNeg (i2)) (x7)))) := ⟨_, rfl⟩
              rw [← eH] at h ⊢
              refine gG_goto (tgt := 329) dX12_worked_120 (by decide) ?_
              refine gG_iinc (v := i3 + 1) dX12_worked_329 rfl rfl (Nat.le_of_ble_eq_true rfl) ?_
              refine gG_goto (tgt := 14) dX12_worked_332 (by decide) ?_
              refine gG_locals ?_ h
              exact ⟨rfl, ⟨rfl, ⟨rfl, ⟨rfl, trivial⟩⟩⟩⟩
          · have h := h.2 c
            refine gG_locals ?_ h
            exact ⟨rfl, ⟨rfl, ⟨rfl, ⟨rfl, ⟨rfl, trivial⟩⟩⟩⟩⟩
      · have h := h.2 c
        refine gG_locals ?_ h
        exact ⟨rfl, ⟨rfl, ⟨rfl, ⟨rfl, ⟨rfl, trivial⟩⟩⟩⟩⟩
theorem kX12_worked_46 {d n : Nat} {H : gHp} {P : gHp → Int32 → Prop} {a0 : Nat} {i1 : Int32} {i2 : Int32} {i3 : Int32} {i4 : Int32} (h : g_gr H (a0) 12 34 (fun q1 => (¬ (i4 = (30 : Int32)) → g_as 0 H (q1) ((i2 + 1)) ((0 : Int32)) (fun H2 => (∃ fs, H2 (a0) = .inr (12, fs)) ∧ g_cvd d mX12_opens n H2 [.ref (a0), .int ((i2 + 1))] (fun H3 => gG d mX12_worked 0 0 (g_Xj mX12_worked n 0 0 P) 14 n H3 [some (.ref (a0)), some (.int (i1)), some (.int ((i2 + 1))), some (.int ((i3 + 1))), none, none] [] (0) (0)))) ∧ (i4 = (30 : Int32) → g_as 0 H (q1) ((i2 + 1)) ((1 : Int32)) (fun H4 => (∃ fs, H4 (a0) = .inr (12, fs)) ∧ g_cvd d mX12_opens n H4 [.ref (a0), .int ((i2 + 1))] (fun H5 => gG d mX12_worked 0 0 (g_Xj mX12_worked n 0 0 P) 14 n H5 [some (.ref (a0)), some (.int (i1)), some (.int ((i2 + 1))), some (.int ((i3 + 1))), none, none] [] (0) (0)))))) : gG d mX12_worked 0 0 (g_Xj mX12_worked n 0 0 P) 46 n H [some (.ref (a0)), some (.int (i1)), some (.int (i2)), some (.int (i3)), some (.int (i4)), none] [] 0 0 := by
  refine gG_iinc (v := i2 + 1) dX12_worked_46 rfl rfl (Nat.le_of_ble_eq_true rfl) ?_
  refine gG_aload_n dX12_worked_49 rfl rfl ?_
  obtain ⟨fs, q1, e1, e2, h⟩ := h
  refine gG_gr dX12_worked_50 fl_X12_84 ⟨fs, q1, e1, e2, ?_⟩
  refine gG_iload_n dX12_worked_53 rfl rfl ?_
  refine gG_iload dX12_worked_54 rfl ?_
  refine gG_bipush (v := 30) dX12_worked_56 (by decide) ?_
  refine gG_ic_ne (tgt := 65) dX12_worked_58 (by decide) (fun c => ?_) (fun c => ?_)
  · have h := h.1 c
    refine gG_iconst (v := 0) dX12_worked_65 (by decide) ?_
    obtain ⟨m0, f0, e1, e2, h⟩ := h
    refine gG_iast dX12_worked_66 ⟨m0, f0, e1, e2, ?_⟩
    obtain ⟨H2, eH⟩ : ∃ z, z = va_up H (q1) (.inl (0, m0, .inl (upd f0 (Int32.toNatClampNeg ((i2 + 1))) ((0 : Int32))))) := ⟨_, rfl⟩
    rw [← eH] at h ⊢
    refine gG_aload_n dX12_worked_67 rfl rfl ?_
    refine gG_iload_n dX12_worked_68 rfl rfl ?_
    obtain ⟨hrc, d2, P2, hdd, hC, h⟩ := h
    refine gG_cvv (As := [.int ((i2 + 1))]) (st := []) dX12_worked_69 mV_X12_228 hdd hrc rfl rfl (Nat.le_of_ble_eq_true rfl) (Nat.le_refl _) ⟨Nat.le_refl _, Nat.le_refl _⟩ hC (fun H3 hp => ?_)
    have h := h H3 hp
    refine gG_goto (tgt := 329) dX12_worked_72 (by decide) ?_
    refine gG_iinc (v := i3 + 1) dX12_worked_329 rfl rfl (Nat.le_of_ble_eq_true rfl) ?_
    refine gG_goto (tgt := 14) dX12_worked_332 (by decide) ?_
    refine gG_locals ?_ h
    exact ⟨rfl, ⟨rfl, ⟨rfl, ⟨rfl, trivial⟩⟩⟩⟩
  · have h := h.2 c
    refine gG_iconst (v := 1) dX12_worked_61 (by decide) ?_
    refine gG_goto (tgt := 66) dX12_worked_62 (by decide) ?_
    obtain ⟨m0, f0, e1, e2, h⟩ := h
    refine gG_iast dX12_worked_66 ⟨m0, f0, e1, e2, ?_⟩
    obtain ⟨H4, eH⟩ : ∃ z, z = va_up H (q1) (.inl (0, m0, .inl (upd f0 (Int32.toNatClampNeg ((i2 + 1))) ((1 : Int32))))) := ⟨_, rfl⟩
    rw [← eH] at h ⊢
    refine gG_aload_n dX12_worked_67 rfl rfl ?_
    refine gG_iload_n dX12_worked_68 rfl rfl ?_
    obtain ⟨hrc, d2, P2, hdd, hC, h⟩ := h
    refine gG_cvv (As := [.int ((i2 + 1))]) (st := []) dX12_worked_69 mV_X12_228 hdd hrc rfl rfl (Nat.le_of_ble_eq_true rfl) (Nat.le_refl _) ⟨Nat.le_refl _, Nat.le_refl _⟩ hC (fun H5 hp => ?_)
    have h := h H5 hp
    refine gG_goto (tgt := 329) dX12_worked_72 (by decide) ?_
    refine gG_iinc (v := i3 + 1) dX12_worked_329 rfl rfl (Nat.le_of_ble_eq_true rfl) ?_
    refine gG_goto (tgt := 14) dX12_worked_332 (by decide) ?_
    refine gG_locals ?_ h
    exact ⟨rfl, ⟨rfl, ⟨rfl, ⟨rfl, trivial⟩⟩⟩⟩
theorem kX12_worked_89 {d n : Nat} {H : gHp} {P : gHp → Int32 → Prop} {a0 : Nat} {i1 : Int32} {i2 : Int32} {i3 : Int32} {i4 : Int32} (h : (∃ fs, H (a0) = .inr (12, fs)) ∧ g_cvd d mX12_sums n H [.ref (a0), .int (i2)] (fun H1 => g_gr H1 (a0) 12 31 (fun q2 => g_as 0 H1 (q2) (i2) (i4) (fun H3 => gG d mX12_worked 0 0 (g_Xj mX12_worked n 0 0 P) 14 n H3 [some (.ref (a0)), some (.int (i1)), some (.int (i2)), some (.int ((i3 + 1))), none, none] [] (0) (0))))) : gG d mX12_worked 0 0 (g_Xj mX12_worked n 0 0 P) 89 n H [some (.ref (a0)), some (.int (i1)), some (.int (i2)), some (.int (i3)), some (.int (i4)), none] [] 0 0 := by
  refine gG_aload_n dX12_worked_89 rfl rfl ?_
  refine gG_iload_n dX12_worked_90 rfl rfl ?_
  obtain ⟨hrc, d2, P2, hdd, hC, h⟩ := h
  refine gG_cvv (As := [.int (i2)]) (st := []) dX12_worked_91 mV_X12_225 hdd hrc rfl rfl (Nat.le_of_ble_eq_true rfl) (Nat.le_refl _) ⟨Nat.le_refl _, Nat.le_refl _⟩ hC (fun H1 hp => ?_)
  have h := h H1 hp
  refine gG_aload_n dX12_worked_94 rfl rfl ?_
  obtain ⟨fs, q2, e1, e2, h⟩ := h
  refine gG_gr dX12_worked_95 fl_X12_75 ⟨fs, q2, e1, e2, ?_⟩
  refine gG_iload_n dX12_worked_98 rfl rfl ?_
  refine gG_iload dX12_worked_99 rfl ?_
  obtain ⟨m0, f0, e1, e2, h⟩ := h
  refine gG_iast dX12_worked_101 ⟨m0, f0, e1, e2, ?_⟩
  obtain ⟨H3, eH⟩ : ∃ z, z = va_up H1 (q2) (.inl (0, m0, .inl (upd f0 (Int32.toNatClampNeg (i2)) (i4)))) := ⟨_, rfl⟩
  rw [← eH] at h ⊢
  refine gG_goto (tgt := 329) dX12_worked_102 (by decide) ?_
  refine gG_iinc (v := i3 + 1) dX12_worked_329 rfl rfl (Nat.le_of_ble_eq_true rfl) ?_
  refine gG_goto (tgt := 14) dX12_worked_332 (by decide) ?_
  refine gG_locals ?_ h
  exact ⟨rfl, ⟨rfl, ⟨rfl, ⟨rfl, trivial⟩⟩⟩⟩
theorem kX12_worked_137 {d n : Nat} {H : gHp} {P : gHp → Int32 → Prop} {a0 : Nat} {i1 : Int32} {i2 : Int32} {i3 : Int32} {i4 : Int32} (h : (∃ fs, H (a0) = .inr (12, fs)) ∧ g_cvd d mX12_sums n H [.ref (a0), .int (i2)] (fun H1 => g_gr H1 (a0) 12 28 (fun q2 => g_gr H1 (a0) 12 30 (fun q3 => g_al 0 H1 (q3) (i2) (fun x4 => g_as 0 H1 (q2) (i2) (x4) (fun H5 => g_gr H5 (a0) 12 29 (fun q6 => g_as 0 H5 (q6) (i2) (i4) (fun H7 => g_gr H7 (a0) 12 30 (fun q8 => g_as 0 H7 (q8) (i2) ((0 : Int32)) (fun H9 => g_gr H9 (a0) 12 31 (fun q10 => g_as 0 H9 (q10) (i2) ((20 : Int32)) (fun H11 => gG d mX12_worked 0 0 (g_Xj mX12_worked n 0 0 P) 14 n H11 [some (.ref (a0)), some (.int (i1)), some (.int (i2)), some (.int ((i3 + 1))), none, none] [] (0) (0))))))))))))) : gG d mX12_worked 0 0 (g_Xj mX12_worked n 0 0 P) 137 n H [some (.ref (a0)), some (.int (i1)), some (.int (i2)), some (.int (i3)), some (.int (i4)), none] [] 0 0 := by
  refine gG_aload_n dX12_worked_137 rfl rfl ?_
  refine gG_iload_n dX12_worked_138 rfl rfl ?_
  obtain ⟨hrc, d2, P2, hdd, hC, h⟩ := h
  refine gG_cvv (As := [.int (i2)]) (st := []) dX12_worked_139 mV_X12_225 hdd hrc rfl rfl (Nat.le_of_ble_eq_true rfl) (Nat.le_refl _) ⟨Nat.le_refl _, Nat.le_refl _⟩ hC (fun H1 hp => ?_)
  have h := h H1 hp
  refine gG_aload_n dX12_worked_142 rfl rfl ?_
  obtain ⟨fs, q2, e1, e2, h⟩ := h
  refine gG_gr dX12_worked_143 fl_X12_66 ⟨fs, q2, e1, e2, ?_⟩
  refine gG_iload_n dX12_worked_146 rfl rfl ?_
  refine gG_aload_n dX12_worked_147 rfl rfl ?_
  obtain ⟨fs, q3, e1, e2, h⟩ := h
  refine gG_gr dX12_worked_148 fl_X12_72 ⟨fs, q3, e1, e2, ?_⟩
  refine gG_iload_n dX12_worked_151 rfl rfl ?_
  obtain ⟨m0, f0, e1, e2, h⟩ := h
  refine gG_iald dX12_worked_152 ⟨m0, f0, e1, e2, ?_⟩
  obtain ⟨x4, eH⟩ : ∃ z, z = f0 (Int32.toNatClampNeg (i2)) := ⟨_, rfl⟩
  rw [← eH] at h ⊢
  obtain ⟨m0, f0, e1, e2, h⟩ := h
  refine gG_iast dX12_worked_153 ⟨m0, f0, e1, e2, ?_⟩
  obtain ⟨H5, eH⟩ : ∃ z, z = va_up H1 (q2) (.inl (0, m0, .inl (upd f0 (Int32.toNatClampNeg (i2)) (x4)))) := ⟨_, rfl⟩
  rw [← eH] at h ⊢
  refine gG_aload_n dX12_worked_154 rfl rfl ?_
  obtain ⟨fs, q6, e1, e2, h⟩ := h
  refine gG_gr dX12_worked_155 fl_X12_69 ⟨fs, q6, e1, e2, ?_⟩
  refine gG_iload_n dX12_worked_158 rfl rfl ?_
  refine gG_iload dX12_worked_159 rfl ?_
  obtain ⟨m0, f0, e1, e2, h⟩ := h
  refine gG_iast dX12_worked_161 ⟨m0, f0, e1, e2, ?_⟩
  obtain ⟨H7, eH⟩ : ∃ z, z = va_up H5 (q6) (.inl (0, m0, .inl (upd f0 (Int32.toNatClampNeg (i2)) (i4)))) := ⟨_, rfl⟩
  rw [← eH] at h ⊢
  refine gG_aload_n dX12_worked_162 rfl rfl ?_
  obtain ⟨fs, q8, e1, e2, h⟩ := h
  refine gG_gr dX12_worked_163 fl_X12_72 ⟨fs, q8, e1, e2, ?_⟩
  refine gG_iload_n dX12_worked_166 rfl rfl ?_
  refine gG_iconst (v := 0) dX12_worked_167 (by decide) ?_
  obtain ⟨m0, f0, e1, e2, h⟩ := h
  refine gG_iast dX12_worked_168 ⟨m0, f0, e1, e2, ?_⟩
  obtain ⟨H9, eH⟩ : ∃ z, z = va_up H7 (q8) (.inl (0, m0, .inl (upd f0 (Int32.toNatClampNeg (i2)) ((0 : Int32))))) := ⟨_, rfl⟩
  rw [← eH] at h ⊢
  refine gG_aload_n dX12_worked_169 rfl rfl ?_
  obtain ⟨fs, q10, e1, e2, h⟩ := h
  refine gG_gr dX12_worked_170 fl_X12_75 ⟨fs, q10, e1, e2, ?_⟩
  refine gG_iload_n dX12_worked_173 rfl rfl ?_
  refine gG_bipush (v := 20) dX12_worked_174 (by decide) ?_
  obtain ⟨m0, f0, e1, e2, h⟩ := h
  refine gG_iast dX12_worked_176 ⟨m0, f0, e1, e2, ?_⟩
  obtain ⟨H11, eH⟩ : ∃ z, z = va_up H9 (q10) (.inl (0, m0, .inl (upd f0 (Int32.toNatClampNeg (i2)) ((20 : Int32))))) := ⟨_, rfl⟩
  rw [← eH] at h ⊢
  refine gG_goto (tgt := 329) dX12_worked_177 (by decide) ?_
  refine gG_iinc (v := i3 + 1) dX12_worked_329 rfl rfl (Nat.le_of_ble_eq_true rfl) ?_
  refine gG_goto (tgt := 14) dX12_worked_332 (by decide) ?_
  refine gG_locals ?_ h
  exact ⟨rfl, ⟨rfl, ⟨rfl, ⟨rfl, trivial⟩⟩⟩⟩
theorem kX12_worked_194 {d n : Nat} {H : gHp} {P : gHp → Int32 → Prop} {a0 : Nat} {i1 : Int32} {i2 : Int32} {i3 : Int32} {i4 : Int32} (h : (∃ fs, H (a0) = .inr (12, fs)) ∧ g_cvd d mX12_tests n H [.ref (a0), .int (i2)] (fun H1 => g_gr H1 (a0) 12 27 (fun q2 => g_as 0 H1 (q2) (i2) (i4) (fun H3 => gG d mX12_worked 0 0 (g_Xj mX12_worked n 0 0 P) 14 n H3 [some (.ref (a0)), some (.int (i1)), some (.int (i2)), some (.int ((i3 + 1))), none, none] [] (0) (0))))) : gG d mX12_worked 0 0 (g_Xj mX12_worked n 0 0 P) 194 n H [some (.ref (a0)), some (.int (i1)), some (.int (i2)), some (.int (i3)), some (.int (i4)), none] [] 0 0 := by
  refine gG_aload_n dX12_worked_194 rfl rfl ?_
  refine gG_iload_n dX12_worked_195 rfl rfl ?_
  obtain ⟨hrc, d2, P2, hdd, hC, h⟩ := h
  refine gG_cvv (As := [.int (i2)]) (st := []) dX12_worked_196 mV_X12_231 hdd hrc rfl rfl (Nat.le_of_ble_eq_true rfl) (Nat.le_refl _) ⟨Nat.le_refl _, Nat.le_refl _⟩ hC (fun H1 hp => ?_)
  have h := h H1 hp
  refine gG_aload_n dX12_worked_199 rfl rfl ?_
  obtain ⟨fs, q2, e1, e2, h⟩ := h
  refine gG_gr dX12_worked_200 fl_X12_63 ⟨fs, q2, e1, e2, ?_⟩
  refine gG_iload_n dX12_worked_203 rfl rfl ?_
  refine gG_iload dX12_worked_204 rfl ?_
  obtain ⟨m0, f0, e1, e2, h⟩ := h
  refine gG_iast dX12_worked_206 ⟨m0, f0, e1, e2, ?_⟩
  obtain ⟨H3, eH⟩ : ∃ z, z = va_up H1 (q2) (.inl (0, m0, .inl (upd f0 (Int32.toNatClampNeg (i2)) (i4)))) := ⟨_, rfl⟩
  rw [← eH] at h ⊢
  refine gG_goto (tgt := 329) dX12_worked_207 (by decide) ?_
  refine gG_iinc (v := i3 + 1) dX12_worked_329 rfl rfl (Nat.le_of_ble_eq_true rfl) ?_
  refine gG_goto (tgt := 14) dX12_worked_332 (by decide) ?_
  refine gG_locals ?_ h
  exact ⟨rfl, ⟨rfl, ⟨rfl, ⟨rfl, trivial⟩⟩⟩⟩
theorem kX12_worked_245 {d n : Nat} {H : gHp} {P : gHp → Int32 → Prop} {a0 : Nat} {i1 : Int32} {i2 : Int32} {i3 : Int32} {i4 : Int32} {i5 : Int32} (h : (¬ (i4 = (29 : Int32)) → gG d mX12_worked 0 0 (g_Xj mX12_worked n 0 0 P) 268 n H [some (.ref (a0)), some (.int (i1)), some (.int (i2)), some (.int (i3)), none, some (.int (i5))] [] (0) (0)) ∧ (i4 = (29 : Int32) → (∃ fs, H (a0) = .inr (12, fs)) ∧ g_cvd d mX12_tests n H [.ref (a0), .int (i2)] (fun H1 => g_gr H1 (a0) 12 26 (fun q2 => g_al 0 H1 (q2) (i2) (fun x3 => gG d mX12_worked 0 0 (g_Xj mX12_worked n 0 0 P) 268 n H1 [some (.ref (a0)), some (.int (i1)), some (.int ((i2 + (-1)))), some (.int (i3)), none, some (.int (x3))] [] (0) (0)))))) : gG d mX12_worked 0 0 (g_Xj mX12_worked n 0 0 P) 245 n H [some (.ref (a0)), some (.int (i1)), some (.int (i2)), some (.int (i3)), some (.int (i4)), some (.int (i5))] [] 0 0 := by
  refine gG_iload dX12_worked_245 rfl ?_
  refine gG_bipush (v := 29) dX12_worked_247 (by decide) ?_
  refine gG_ic_ne (tgt := 268) dX12_worked_249 (by decide) (fun c => ?_) (fun c => ?_)
  · have h := h.1 c
    refine gG_locals ?_ h
    exact ⟨rfl, ⟨rfl, ⟨rfl, ⟨rfl, ⟨rfl, trivial⟩⟩⟩⟩⟩
  · have h := h.2 c
    refine gG_aload_n dX12_worked_252 rfl rfl ?_
    refine gG_iload_n dX12_worked_253 rfl rfl ?_
    obtain ⟨hrc, d2, P2, hdd, hC, h⟩ := h
    refine gG_cvv (As := [.int (i2)]) (st := []) dX12_worked_254 mV_X12_231 hdd hrc rfl rfl (Nat.le_of_ble_eq_true rfl) (Nat.le_refl _) ⟨Nat.le_refl _, Nat.le_refl _⟩ hC (fun H1 hp => ?_)
    have h := h H1 hp
    refine gG_aload_n dX12_worked_257 rfl rfl ?_
    obtain ⟨fs, q2, e1, e2, h⟩ := h
    refine gG_gr dX12_worked_258 fl_X12_60 ⟨fs, q2, e1, e2, ?_⟩
    refine gG_iload_n dX12_worked_261 rfl rfl ?_
    obtain ⟨m0, f0, e1, e2, h⟩ := h
    refine gG_iald dX12_worked_262 ⟨m0, f0, e1, e2, ?_⟩
    obtain ⟨x3, eH⟩ : ∃ z, z = f0 (Int32.toNatClampNeg (i2)) := ⟨_, rfl⟩
    rw [← eH] at h ⊢
    refine gG_istore dX12_worked_263 (Nat.le_of_ble_eq_true rfl) ?_
    refine gG_iinc (v := i2 + (-1)) dX12_worked_265 rfl rfl (Nat.le_of_ble_eq_true rfl) ?_
    refine gG_locals ?_ h
    exact ⟨rfl, ⟨rfl, ⟨rfl, ⟨rfl, ⟨rfl, trivial⟩⟩⟩⟩⟩
theorem kX12_worked_268 {d n : Nat} {H : gHp} {P : gHp → Int32 → Prop} {a0 : Nat} {i1 : Int32} {i2 : Int32} {i3 : Int32} {i5 : Int32} (h : (i2 ≤ 0 → gG d mX12_worked 0 0 (g_Xj mX12_worked n 0 0 P) 300 n H [some (.ref (a0)), some (.int (i1)), some (.int (i2)), some (.int (i3)), none, some (.int (i5))] [] (0) (0)) ∧ (¬ (i2 ≤ 0) → g_gr H (a0) 12 34 (fun q1 => g_al 0 H (q1) (i2) (fun x2 => (¬ (x2 = (1 : Int32)) → gG d mX12_worked 0 0 (g_Xj mX12_worked n 0 0 P) 300 n H [some (.ref (a0)), some (.int (i1)), some (.int (i2)), some (.int (i3)), none, some (.int (i5))] [] (0) (0)) ∧ (x2 = (1 : Int32) → (¬ (i5 = 0) → gG d mX12_worked 0 0 (g_Xj mX12_worked n 0 0 P) 268 n H [some (.ref (a0)), some (.int (i1)), some (.int ((i2 + (-1)))), some (.int (i3)), none, some (.int ((0 : Int32)))] [] (0) (0)) ∧ (i5 = 0 → gG d mX12_worked 0 0 (g_Xj mX12_worked n 0 0 P) 268 n H [some (.ref (a0)), some (.int (i1)), some (.int ((i2 + (-1)))), some (.int (i3)), none, some (.int ((1 : Int32)))] [] (0) (0))))))) : gG d mX12_worked 0 0 (g_Xj mX12_worked n 0 0 P) 268 n H [some (.ref (a0)), some (.int (i1)), some (.int (i2)), some (.int (i3)), none, some (.int (i5))] [] 0 0 := by
  refine gG_iload_n dX12_worked_268 rfl rfl ?_
  refine gG_if_le (tgt := 300) dX12_worked_269 (by decide) (fun c => ?_) (fun c => ?_)
  · have h := h.1 c
    refine gG_locals ?_ h
    exact ⟨rfl, ⟨rfl, ⟨rfl, ⟨rfl, ⟨rfl, trivial⟩⟩⟩⟩⟩
  · have h := h.2 c
    refine gG_aload_n dX12_worked_272 rfl rfl ?_
    obtain ⟨fs, q1, e1, e2, h⟩ := h
    refine gG_gr dX12_worked_273 fl_X12_84 ⟨fs, q1, e1, e2, ?_⟩
    refine gG_iload_n dX12_worked_276 rfl rfl ?_
    obtain ⟨m0, f0, e1, e2, h⟩ := h
    refine gG_iald dX12_worked_277 ⟨m0, f0, e1, e2, ?_⟩
    obtain ⟨x2, eH⟩ : ∃ z, z = f0 (Int32.toNatClampNeg (i2)) := ⟨_, rfl⟩
    rw [← eH] at h ⊢
    refine gG_iconst (v := 1) dX12_worked_278 (by decide) ?_
    refine gG_ic_ne (tgt := 300) dX12_worked_279 (by decide) (fun c => ?_) (fun c => ?_)
    · have h := h.1 c
      refine gG_locals ?_ h
      exact ⟨rfl, ⟨rfl, ⟨rfl, ⟨rfl, ⟨rfl, trivial⟩⟩⟩⟩⟩
    · have h := h.2 c
      refine gG_iload dX12_worked_282 rfl ?_
      refine gG_if_ne (tgt := 291) dX12_worked_284 (by decide) (fun c => ?_) (fun c => ?_)
      · have h := h.1 c
        refine gG_iconst (v := 0) dX12_worked_291 (by decide) ?_
        refine gG_istore dX12_worked_292 (Nat.le_of_ble_eq_true rfl) ?_
        refine gG_iinc (v := i2 + (-1)) dX12_worked_294 rfl rfl (Nat.le_of_ble_eq_true rfl) ?_
        refine gG_goto (tgt := 268) dX12_worked_297 (by decide) ?_
        refine gG_locals ?_ h
        exact ⟨rfl, ⟨rfl, ⟨rfl, ⟨rfl, ⟨rfl, trivial⟩⟩⟩⟩⟩
      · have h := h.2 c
        refine gG_iconst (v := 1) dX12_worked_287 (by decide) ?_
        refine gG_goto (tgt := 292) dX12_worked_288 (by decide) ?_
        refine gG_istore dX12_worked_292 (Nat.le_of_ble_eq_true rfl) ?_
        refine gG_iinc (v := i2 + (-1)) dX12_worked_294 rfl rfl (Nat.le_of_ble_eq_true rfl) ?_
        refine gG_goto (tgt := 268) dX12_worked_297 (by decide) ?_
        refine gG_locals ?_ h
        exact ⟨rfl, ⟨rfl, ⟨rfl, ⟨rfl, ⟨rfl, trivial⟩⟩⟩⟩⟩
theorem kX12_worked_300 {d n : Nat} {H : gHp} {P : gHp → Int32 → Prop} {a0 : Nat} {i1 : Int32} {i2 : Int32} {i3 : Int32} {i5 : Int32} (h : g_gr H (a0) 12 32 (fun q1 => g_gr H (a0) 12 33 (fun q2 => g_al 0 H (q2) (i2) (fun x3 => (¬ (x3 = 0) → g_gr H (a0) 12 32 (fun q4 => g_al 0 H (q4) (i2) (fun x5 => g_as 0 H (q1) (i2) ((x5 * i5)) (fun H6 => gG d mX12_worked 0 0 (g_Xj mX12_worked n 0 0 P) 14 n H6 [some (.ref (a0)), some (.int (i1)), some (.int (i2)), some (.int ((i3 + 1))), none, none] [] (0) (0))))) ∧ (x3 = 0 → g_as 0 H (q1) (i2) (i5) (fun H7 => gG d mX12_worked 0 0 (g_Xj mX12_worked n 0 0 P) 14 n H7 [some (.ref (a0)), some (.int (i1)), some (.int (i2)), some (.int ((i3 + 1))), none, none] [] (0) (0))))))) : gG d mX12_worked 0 0 (g_Xj mX12_worked n 0 0 P) 300 n H [some (.ref (a0)), some (.int (i1)), some (.int (i2)), some (.int (i3)), none, some (.int (i5))] [] 0 0 := by
  refine gG_aload_n dX12_worked_300 rfl rfl ?_
  obtain ⟨fs, q1, e1, e2, h⟩ := h
  refine gG_gr dX12_worked_301 fl_X12_78 ⟨fs, q1, e1, e2, ?_⟩
  refine gG_iload_n dX12_worked_304 rfl rfl ?_
  refine gG_aload_n dX12_worked_305 rfl rfl ?_
  obtain ⟨fs, q2, e1, e2, h⟩ := h
  refine gG_gr dX12_worked_306 fl_X12_81 ⟨fs, q2, e1, e2, ?_⟩
  refine gG_iload_n dX12_worked_309 rfl rfl ?_
  obtain ⟨m0, f0, e1, e2, h⟩ := h
  refine gG_iald dX12_worked_310 ⟨m0, f0, e1, e2, ?_⟩
  obtain ⟨x3, eH⟩ : ∃ z, z = f0 (Int32.toNatClampNeg (i2)) := ⟨_, rfl⟩
  rw [← eH] at h ⊢
  refine gG_if_ne (tgt := 319) dX12_worked_311 (by decide) (fun c => ?_) (fun c => ?_)
  · have h := h.1 c
    refine gG_aload_n dX12_worked_319 rfl rfl ?_
    obtain ⟨fs, q4, e1, e2, h⟩ := h
    refine gG_gr dX12_worked_320 fl_X12_78 ⟨fs, q4, e1, e2, ?_⟩
    refine gG_iload_n dX12_worked_323 rfl rfl ?_
    obtain ⟨m0, f0, e1, e2, h⟩ := h
    refine gG_iald dX12_worked_324 ⟨m0, f0, e1, e2, ?_⟩
    obtain ⟨x5, eH⟩ : ∃ z, z = f0 (Int32.toNatClampNeg (i2)) := ⟨_, rfl⟩
    rw [← eH] at h ⊢
    refine gG_iload dX12_worked_325 rfl ?_
    refine gG_imul dX12_worked_327 ?_
    obtain ⟨m0, f0, e1, e2, h⟩ := h
    refine gG_iast dX12_worked_328 ⟨m0, f0, e1, e2, ?_⟩
    obtain ⟨H6, eH⟩ : ∃ z, z = va_up H (q1) (.inl (0, m0, .inl (upd f0 (Int32.toNatClampNeg (i2)) ((x5 * i5))))) := ⟨_, rfl⟩
    rw [← eH] at h ⊢
    refine gG_iinc (v := i3 + 1) dX12_worked_329 rfl rfl (Nat.le_of_ble_eq_true rfl) ?_
    refine gG_goto (tgt := 14) dX12_worked_332 (by decide) ?_
    refine gG_locals ?_ h
    exact ⟨rfl, ⟨rfl, ⟨rfl, ⟨rfl, trivial⟩⟩⟩⟩
  · have h := h.2 c
    refine gG_iload dX12_worked_314 rfl ?_
    refine gG_goto (tgt := 328) dX12_worked_316 (by decide) ?_
    obtain ⟨m0, f0, e1, e2, h⟩ := h
    refine gG_iast dX12_worked_328 ⟨m0, f0, e1, e2, ?_⟩
    obtain ⟨H7, eH⟩ : ∃ z, z = va_up H (q1) (.inl (0, m0, .inl (upd f0 (Int32.toNatClampNeg (i2)) (i5)))) := ⟨_, rfl⟩
    rw [← eH] at h ⊢
    refine gG_iinc (v := i3 + 1) dX12_worked_329 rfl rfl (Nat.le_of_ble_eq_true rfl) ?_
    refine gG_goto (tgt := 14) dX12_worked_332 (by decide) ?_
    refine gG_locals ?_ h
    exact ⟨rfl, ⟨rfl, ⟨rfl, ⟨rfl, trivial⟩⟩⟩⟩

theorem kX12_isKept_0 {d n : Nat} {H : gHp} {P : gHp → Bool → Prop} {a0 : Nat} (h : g_gi H (a0) 12 6 (fun x1 => (x1 = (1 : Int32) → g_gl H (a0) 12 7 (fun y2 => ((lg_cmp y2 (7219835 : Int64)) = 0 → P H true) ∧ (¬ ((lg_cmp y2 (7219835 : Int64)) = 0) → g_gl H (a0) 12 7 (fun y3 => ((lg_cmp y3 (164222 : Int64)) = 0 → P H true) ∧ (¬ ((lg_cmp y3 (164222 : Int64)) = 0) → g_gl H (a0) 12 7 (fun y4 => ((lg_cmp y4 (10656676 : Int64)) = 0 → P H true) ∧ (¬ ((lg_cmp y4 (10656676 : Int64)) = 0) → g_gl H (a0) 12 7 (fun y5 => ((lg_cmp y5 (4555648 : Int64)) = 0 → P H true) ∧ (¬ ((lg_cmp y5 (4555648 : Int64)) = 0) → g_gl H (a0) 12 7 (fun y6 => ((lg_cmp y6 (112011003 : Int64)) = 0 → P H true) ∧ (¬ ((lg_cmp y6 (112011003 : Int64)) = 0) → g_gl H (a0) 12 7 (fun y7 => ((lg_cmp y7 (175252482 : Int64)) = 0 → P H true) ∧ (¬ ((lg_cmp y7 (175252482 : Int64)) = 0) → g_gl H (a0) 12 7 (fun y8 => ((lg_cmp y8 (411 : Int64)) = 0 → P H true) ∧ (¬ ((lg_cmp y8 (411 : Int64)) = 0) → g_gl H (a0) 12 7 (fun y9 => ((lg_cmp y9 (355280 : Int64)) = 0 → P H true) ∧ (¬ ((lg_cmp y9 (355280 : Int64)) = 0) → g_gl H (a0) 12 7 (fun y10 => ((lg_cmp y10 (281024524 : Int64)) = 0 → P H true) ∧ (¬ ((lg_cmp y10 (281024524 : Int64)) = 0) → g_gl H (a0) 12 7 (fun y11 => ((lg_cmp y11 (191610176 : Int64)) = 0 → P H true) ∧ (¬ ((lg_cmp y11 (191610176 : Int64)) = 0) → g_gl H (a0) 12 7 (fun y12 => ((lg_cmp y12 (326448 : Int64)) = 0 → P H true) ∧ (¬ ((lg_cmp y12 (326448 : Int64)) = 0) → g_gl H (a0) 12 7 (fun y13 => ((lg_cmp y13 (388978 : Int64)) = 0 → P H true) ∧ (¬ ((lg_cmp y13 (388978 : Int64)) = 0) → g_gl H (a0) 12 7 (fun y14 => ((lg_cmp y14 (1834209 : Int64)) = 0 → P H true) ∧ (¬ ((lg_cmp y14 (1834209 : Int64)) = 0) → g_gl H (a0) 12 7 (fun y15 => ((lg_cmp y15 (8740238 : Int64)) = 0 → P H true) ∧ (¬ ((lg_cmp y15 (8740238 : Int64)) = 0) → g_gl H (a0) 12 7 (fun y16 => ((lg_cmp y16 (459383 : Int64)) = 0 → P H true) ∧ (¬ ((lg_cmp y16 (459383 : Int64)) = 0) → g_gl H (a0) 12 7 (fun y17 => ((lg_cmp y17 (383153 : Int64)) = 0 → P H true) ∧ (¬ ((lg_cmp y17 (383153 : Int64)) = 0) → g_gl H (a0) 12 7 (fun y18 => ((lg_cmp y18 (279740 : Int64)) = 0 → P H true) ∧ (¬ ((lg_cmp y18 (279740 : Int64)) = 0) → g_gl H (a0) 12 7 (fun y19 => ((lg_cmp y19 (10631 : Int64)) = 0 → P H true) ∧ (¬ ((lg_cmp y19 (10631 : Int64)) = 0) → g_gl H (a0) 12 7 (fun y20 => ((lg_cmp y20 (1111 : Int64)) = 0 → P H true) ∧ (¬ ((lg_cmp y20 (1111 : Int64)) = 0) → g_gl H (a0) 12 7 (fun y21 => (¬ ((lg_cmp y21 (423 : Int64)) = 0) → P H false) ∧ ((lg_cmp y21 (423 : Int64)) = 0 → P H true))))))))))))))))))))))))))))))))))))))))) ∧ (¬ (x1 = (1 : Int32)) → P H true))) : gG d mX12_isKept 0 0 (g_Xz mX12_isKept n 0 0 P) 0 n H [some (.ref (a0))] [] 0 0 := by
  refine gG_aload_n dX12_isKept_0 rfl rfl ?_
  obtain ⟨fs, x1, e1, e2, h⟩ := h
  refine gG_gi dX12_isKept_1 fl_X12_172 ⟨fs, x1, e1, e2, ?_⟩
  refine gG_iconst (v := 1) dX12_isKept_4 (by decide) ?_
  refine gG_ic_eq (tgt := 10) dX12_isKept_5 (by decide) (fun c => ?_) (fun c => ?_)
  · have h := h.1 c
    refine gG_aload_n dX12_isKept_10 rfl rfl ?_
    obtain ⟨fs, y2, e1, e2, h⟩ := h
    refine gG_gl dX12_isKept_11 fl_X12_165 ⟨fs, y2, e1, e2, ?_⟩
    refine gG_ldc2 dX12_isKept_14 cl_X12_234 ?_
    refine gG_lcmp dX12_isKept_17 ?_
    refine gG_if_eq (tgt := 230) dX12_isKept_18 (by decide) (fun c => ?_) (fun c => ?_)
    · have h := h.1 c
      refine gG_iconst (v := 1) dX12_isKept_230 (by decide) ?_
      refine gG_goto (tgt := 235) dX12_isKept_231 (by decide) ?_
      exact gG_exit ⟨rfl, rfl, rfl, dX12_isKept_235, true, rfl, h⟩
    · have h := h.2 c
      refine gG_aload_n dX12_isKept_21 rfl rfl ?_
      obtain ⟨fs, y3, e1, e2, h⟩ := h
      refine gG_gl dX12_isKept_22 fl_X12_165 ⟨fs, y3, e1, e2, ?_⟩
      refine gG_ldc2 dX12_isKept_25 cl_X12_236 ?_
      refine gG_lcmp dX12_isKept_28 ?_
      refine gG_if_eq (tgt := 230) dX12_isKept_29 (by decide) (fun c => ?_) (fun c => ?_)
      · have h := h.1 c
        refine gG_iconst (v := 1) dX12_isKept_230 (by decide) ?_
        refine gG_goto (tgt := 235) dX12_isKept_231 (by decide) ?_
        exact gG_exit ⟨rfl, rfl, rfl, dX12_isKept_235, true, rfl, h⟩
      · have h := h.2 c
        refine gG_aload_n dX12_isKept_32 rfl rfl ?_
        obtain ⟨fs, y4, e1, e2, h⟩ := h
        refine gG_gl dX12_isKept_33 fl_X12_165 ⟨fs, y4, e1, e2, ?_⟩
        refine gG_ldc2 dX12_isKept_36 cl_X12_238 ?_
        refine gG_lcmp dX12_isKept_39 ?_
        refine gG_if_eq (tgt := 230) dX12_isKept_40 (by decide) (fun c => ?_) (fun c => ?_)
        · have h := h.1 c
          refine gG_iconst (v := 1) dX12_isKept_230 (by decide) ?_
          refine gG_goto (tgt := 235) dX12_isKept_231 (by decide) ?_
          exact gG_exit ⟨rfl, rfl, rfl, dX12_isKept_235, true, rfl, h⟩
        · have h := h.2 c
          refine gG_aload_n dX12_isKept_43 rfl rfl ?_
          obtain ⟨fs, y5, e1, e2, h⟩ := h
          refine gG_gl dX12_isKept_44 fl_X12_165 ⟨fs, y5, e1, e2, ?_⟩
          refine gG_ldc2 dX12_isKept_47 cl_X12_240 ?_
          refine gG_lcmp dX12_isKept_50 ?_
          refine gG_if_eq (tgt := 230) dX12_isKept_51 (by decide) (fun c => ?_) (fun c => ?_)
          · have h := h.1 c
            refine gG_iconst (v := 1) dX12_isKept_230 (by decide) ?_
            refine gG_goto (tgt := 235) dX12_isKept_231 (by decide) ?_
            exact gG_exit ⟨rfl, rfl, rfl, dX12_isKept_235, true, rfl, h⟩
          · have h := h.2 c
            refine gG_aload_n dX12_isKept_54 rfl rfl ?_
            obtain ⟨fs, y6, e1, e2, h⟩ := h
            refine gG_gl dX12_isKept_55 fl_X12_165 ⟨fs, y6, e1, e2, ?_⟩
            refine gG_ldc2 dX12_isKept_58 cl_X12_242 ?_
            refine gG_lcmp dX12_isKept_61 ?_
            refine gG_if_eq (tgt := 230) dX12_isKept_62 (by decide) (fun c => ?_) (fun c => ?_)
            · have h := h.1 c
              refine gG_iconst (v := 1) dX12_isKept_230 (by decide) ?_
              refine gG_goto (tgt := 235) dX12_isKept_231 (by decide) ?_
              exact gG_exit ⟨rfl, rfl, rfl, dX12_isKept_235, true, rfl, h⟩
            · have h := h.2 c
              refine gG_aload_n dX12_isKept_65 rfl rfl ?_
              obtain ⟨fs, y7, e1, e2, h⟩ := h
              refine gG_gl dX12_isKept_66 fl_X12_165 ⟨fs, y7, e1, e2, ?_⟩
              refine gG_ldc2 dX12_isKept_69 cl_X12_244 ?_
              refine gG_lcmp dX12_isKept_72 ?_
              refine gG_if_eq (tgt := 230) dX12_isKept_73 (by decide) (fun c => ?_) (fun c => ?_)
              · have h := h.1 c
                refine gG_iconst (v := 1) dX12_isKept_230 (by decide) ?_
                refine gG_goto (tgt := 235) dX12_isKept_231 (by decide) ?_
                exact gG_exit ⟨rfl, rfl, rfl, dX12_isKept_235, true, rfl, h⟩
              · have h := h.2 c
                refine gG_aload_n dX12_isKept_76 rfl rfl ?_
                obtain ⟨fs, y8, e1, e2, h⟩ := h
                refine gG_gl dX12_isKept_77 fl_X12_165 ⟨fs, y8, e1, e2, ?_⟩
                refine gG_ldc2 dX12_isKept_80 cl_X12_246 ?_
                refine gG_lcmp dX12_isKept_83 ?_
                refine gG_if_eq (tgt := 230) dX12_isKept_84 (by decide) (fun c => ?_) (fun c => ?_)
                · have h := h.1 c
                  refine gG_iconst (v := 1) dX12_isKept_230 (by decide) ?_
                  refine gG_goto (tgt := 235) dX12_isKept_231 (by decide) ?_
                  exact gG_exit ⟨rfl, rfl, rfl, dX12_isKept_235, true, rfl, h⟩
                · have h := h.2 c
                  refine gG_aload_n dX12_isKept_87 rfl rfl ?_
                  obtain ⟨fs, y9, e1, e2, h⟩ := h
                  refine gG_gl dX12_isKept_88 fl_X12_165 ⟨fs, y9, e1, e2, ?_⟩
                  refine gG_ldc2 dX12_isKept_91 cl_X12_248 ?_
                  refine gG_lcmp dX12_isKept_94 ?_
                  refine gG_if_eq (tgt := 230) dX12_isKept_95 (by decide) (fun c => ?_) (fun c => ?_)
                  · have h := h.1 c
                    refine gG_iconst (v := 1) dX12_isKept_230 (by decide) ?_
                    refine gG_goto (tgt := 235) dX12_isKept_231 (by decide) ?_
                    exact gG_exit ⟨rfl, rfl, rfl, dX12_isKept_235, true, rfl, h⟩
                  · have h := h.2 c
                    refine gG_aload_n dX12_isKept_98 rfl rfl ?_
                    obtain ⟨fs, y10, e1, e2, h⟩ := h
                    refine gG_gl dX12_isKept_99 fl_X12_165 ⟨fs, y10, e1, e2, ?_⟩
                    refine gG_ldc2 dX12_isKept_102 cl_X12_250 ?_
                    refine gG_lcmp dX12_isKept_105 ?_
                    refine gG_if_eq (tgt := 230) dX12_isKept_106 (by decide) (fun c => ?_) (fun c => ?_)
                    · have h := h.1 c
                      refine gG_iconst (v := 1) dX12_isKept_230 (by decide) ?_
                      refine gG_goto (tgt := 235) dX12_isKept_231 (by decide) ?_
                      exact gG_exit ⟨rfl, rfl, rfl, dX12_isKept_235, true, rfl, h⟩
                    · have h := h.2 c
                      refine gG_aload_n dX12_isKept_109 rfl rfl ?_
                      obtain ⟨fs, y11, e1, e2, h⟩ := h
                      refine gG_gl dX12_isKept_110 fl_X12_165 ⟨fs, y11, e1, e2, ?_⟩
                      refine gG_ldc2 dX12_isKept_113 cl_X12_252 ?_
                      refine gG_lcmp dX12_isKept_116 ?_
                      refine gG_if_eq (tgt := 230) dX12_isKept_117 (by decide) (fun c => ?_) (fun c => ?_)
                      · have h := h.1 c
                        refine gG_iconst (v := 1) dX12_isKept_230 (by decide) ?_
                        refine gG_goto (tgt := 235) dX12_isKept_231 (by decide) ?_
                        exact gG_exit ⟨rfl, rfl, rfl, dX12_isKept_235, true, rfl, h⟩
                      · have h := h.2 c
                        refine gG_aload_n dX12_isKept_120 rfl rfl ?_
                        obtain ⟨fs, y12, e1, e2, h⟩ := h
                        refine gG_gl dX12_isKept_121 fl_X12_165 ⟨fs, y12, e1, e2, ?_⟩
                        refine gG_ldc2 dX12_isKept_124 cl_X12_254 ?_
                        refine gG_lcmp dX12_isKept_127 ?_
                        refine gG_if_eq (tgt := 230) dX12_isKept_128 (by decide) (fun c => ?_) (fun c => ?_)
                        · have h := h.1 c
                          refine gG_iconst (v := 1) dX12_isKept_230 (by decide) ?_
                          refine gG_goto (tgt := 235) dX12_isKept_231 (by decide) ?_
                          exact gG_exit ⟨rfl, rfl, rfl, dX12_isKept_235, true, rfl, h⟩
                        · have h := h.2 c
                          refine gG_aload_n dX12_isKept_131 rfl rfl ?_
                          obtain ⟨fs, y13, e1, e2, h⟩ := h
                          refine gG_gl dX12_isKept_132 fl_X12_165 ⟨fs, y13, e1, e2, ?_⟩
                          refine gG_ldc2 dX12_isKept_135 cl_X12_256 ?_
                          refine gG_lcmp dX12_isKept_138 ?_
                          refine gG_if_eq (tgt := 230) dX12_isKept_139 (by decide) (fun c => ?_) (fun c => ?_)
                          · have h := h.1 c
                            refine gG_iconst (v := 1) dX12_isKept_230 (by decide) ?_
                            refine gG_goto (tgt := 235) dX12_isKept_231 (by decide) ?_
                            exact gG_exit ⟨rfl, rfl, rfl, dX12_isKept_235, true, rfl, h⟩
                          · have h := h.2 c
                            refine gG_aload_n dX12_isKept_142 rfl rfl ?_
                            obtain ⟨fs, y14, e1, e2, h⟩ := h
                            refine gG_gl dX12_isKept_143 fl_X12_165 ⟨fs, y14, e1, e2, ?_⟩
                            refine gG_ldc2 dX12_isKept_146 cl_X12_258 ?_
                            refine gG_lcmp dX12_isKept_149 ?_
                            refine gG_if_eq (tgt := 230) dX12_isKept_150 (by decide) (fun c => ?_) (fun c => ?_)
                            · have h := h.1 c
                              refine gG_iconst (v := 1) dX12_isKept_230 (by decide) ?_
                              refine gG_goto (tgt := 235) dX12_isKept_231 (by decide) ?_
                              exact gG_exit ⟨rfl, rfl, rfl, dX12_isKept_235, true, rfl, h⟩
                            · have h := h.2 c
                              refine gG_aload_n dX12_isKept_153 rfl rfl ?_
                              obtain ⟨fs, y15, e1, e2, h⟩ := h
                              refine gG_gl dX12_isKept_154 fl_X12_165 ⟨fs, y15, e1, e2, ?_⟩
                              refine gG_ldc2 dX12_isKept_157 cl_X12_260 ?_
                              refine gG_lcmp dX12_isKept_160 ?_
                              refine gG_if_eq (tgt := 230) dX12_isKept_161 (by decide) (fun c => ?_) (fun c => ?_)
                              · have h := h.1 c
                                refine gG_iconst (v := 1) dX12_isKept_230 (by decide) ?_
                                refine gG_goto (tgt := 235) dX12_isKept_231 (by decide) ?_
                                exact gG_exit ⟨rfl, rfl, rfl, dX12_isKept_235, true, rfl, h⟩
                              · have h := h.2 c
                                refine gG_aload_n dX12_isKept_164 rfl rfl ?_
                                obtain ⟨fs, y16, e1, e2, h⟩ := h
                                refine gG_gl dX12_isKept_165 fl_X12_165 ⟨fs, y16, e1, e2, ?_⟩
                                refine gG_ldc2 dX12_isKept_168 cl_X12_262 ?_
                                refine gG_lcmp dX12_isKept_171 ?_
                                refine gG_if_eq (tgt := 230) dX12_isKept_172 (by decide) (fun c => ?_) (fun c => ?_)
                                · have h := h.1 c
                                  refine gG_iconst (v := 1) dX12_isKept_230 (by decide) ?_
                                  refine gG_goto (tgt := 235) dX12_isKept_231 (by decide) ?_
                                  exact gG_exit ⟨rfl, rfl, rfl, dX12_isKept_235, true, rfl, h⟩
                                · have h := h.2 c
                                  refine gG_aload_n dX12_isKept_175 rfl rfl ?_
                                  obtain ⟨fs, y17, e1, e2, h⟩ := h
                                  refine gG_gl dX12_isKept_176 fl_X12_165 ⟨fs, y17, e1, e2, ?_⟩
                                  refine gG_ldc2 dX12_isKept_179 cl_X12_264 ?_
                                  refine gG_lcmp dX12_isKept_182 ?_
                                  refine gG_if_eq (tgt := 230) dX12_isKept_183 (by decide) (fun c => ?_) (fun c => ?_)
                                  · have h := h.1 c
                                    refine gG_iconst (v := 1) dX12_isKept_230 (by decide) ?_
                                    refine gG_goto (tgt := 235) dX12_isKept_231 (by decide) ?_
                                    exact gG_exit ⟨rfl, rfl, rfl, dX12_isKept_235, true, rfl, h⟩
                                  · have h := h.2 c
                                    refine gG_aload_n dX12_isKept_186 rfl rfl ?_
                                    obtain ⟨fs, y18, e1, e2, h⟩ := h
                                    refine gG_gl dX12_isKept_187 fl_X12_165 ⟨fs, y18, e1, e2, ?_⟩
                                    refine gG_ldc2 dX12_isKept_190 cl_X12_266 ?_
                                    refine gG_lcmp dX12_isKept_193 ?_
                                    refine gG_if_eq (tgt := 230) dX12_isKept_194 (by decide) (fun c => ?_) (fun c => ?_)
                                    · have h := h.1 c
                                      refine gG_iconst (v := 1) dX12_isKept_230 (by decide) ?_
                                      refine gG_goto (tgt := 235) dX12_isKept_231 (by decide) ?_
                                      exact gG_exit ⟨rfl, rfl, rfl, dX12_isKept_235, true, rfl, h⟩
                                    · have h := h.2 c
                                      refine gG_aload_n dX12_isKept_197 rfl rfl ?_
                                      obtain ⟨fs, y19, e1, e2, h⟩ := h
                                      refine gG_gl dX12_isKept_198 fl_X12_165 ⟨fs, y19, e1, e2, ?_⟩
                                      refine gG_ldc2 dX12_isKept_201 cl_X12_201 ?_
                                      refine gG_lcmp dX12_isKept_204 ?_
                                      refine gG_if_eq (tgt := 230) dX12_isKept_205 (by decide) (fun c => ?_) (fun c => ?_)
                                      · have h := h.1 c
                                        refine gG_iconst (v := 1) dX12_isKept_230 (by decide) ?_
                                        refine gG_goto (tgt := 235) dX12_isKept_231 (by decide) ?_
                                        exact gG_exit ⟨rfl, rfl, rfl, dX12_isKept_235, true, rfl, h⟩
                                      · have h := h.2 c
                                        refine gG_aload_n dX12_isKept_208 rfl rfl ?_
                                        obtain ⟨fs, y20, e1, e2, h⟩ := h
                                        refine gG_gl dX12_isKept_209 fl_X12_165 ⟨fs, y20, e1, e2, ?_⟩
                                        refine gG_ldc2 dX12_isKept_212 cl_X12_221 ?_
                                        refine gG_lcmp dX12_isKept_215 ?_
                                        refine gG_if_eq (tgt := 230) dX12_isKept_216 (by decide) (fun c => ?_) (fun c => ?_)
                                        · have h := h.1 c
                                          refine gG_iconst (v := 1) dX12_isKept_230 (by decide) ?_
                                          refine gG_goto (tgt := 235) dX12_isKept_231 (by decide) ?_
                                          exact gG_exit ⟨rfl, rfl, rfl, dX12_isKept_235, true, rfl, h⟩
                                        · have h := h.2 c
                                          refine gG_aload_n dX12_isKept_219 rfl rfl ?_
                                          obtain ⟨fs, y21, e1, e2, h⟩ := h
                                          refine gG_gl dX12_isKept_220 fl_X12_165 ⟨fs, y21, e1, e2, ?_⟩
                                          refine gG_ldc2 dX12_isKept_223 cl_X12_223 ?_
                                          refine gG_lcmp dX12_isKept_226 ?_
                                          refine gG_if_ne (tgt := 234) dX12_isKept_227 (by decide) (fun c => ?_) (fun c => ?_)
                                          · have h := h.1 c
                                            refine gG_iconst (v := 0) dX12_isKept_234 (by decide) ?_
                                            exact gG_exit ⟨rfl, rfl, rfl, dX12_isKept_235, false, rfl, h⟩
                                          · have h := h.2 c
                                            refine gG_iconst (v := 1) dX12_isKept_230 (by decide) ?_
                                            refine gG_goto (tgt := 235) dX12_isKept_231 (by decide) ?_
                                            exact gG_exit ⟨rfl, rfl, rfl, dX12_isKept_235, true, rfl, h⟩
  · have h := h.2 c
    refine gG_iconst (v := 1) dX12_isKept_8 (by decide) ?_
    exact gG_exit ⟨rfl, rfl, rfl, dX12_isKept_9, true, rfl, h⟩

theorem kX12_mouthNamed_0 {d n : Nat} {H : gHp} {P : gHp → Int32 → Prop} {a0 : Nat} {i1 : Int32} (h : gG d mX12_mouthNamed 0 0 (g_Xj mX12_mouthNamed n 0 0 P) 5 n H [some (.ref (a0)), some (.int (i1)), some (.int (((7 : Int32) * i1)))] [] (0) (0)) : gG d mX12_mouthNamed 0 0 (g_Xj mX12_mouthNamed n 0 0 P) 0 n H [some (.ref (a0)), some (.int (i1)), none] [] 0 0 := by
  refine gG_bipush (v := 7) dX12_mouthNamed_0 (by decide) ?_
  refine gG_iload_n dX12_mouthNamed_2 rfl rfl ?_
  refine gG_imul dX12_mouthNamed_3 ?_
  refine gG_istore_n dX12_mouthNamed_4 rfl (Nat.le_of_ble_eq_true rfl) ?_
  refine gG_locals ?_ h
  exact ⟨rfl, ⟨rfl, ⟨rfl, trivial⟩⟩⟩
theorem kX12_mouthNamed_5 {d n : Nat} {H : gHp} {P : gHp → Int32 → Prop} {a0 : Nat} {i1 : Int32} {i2 : Int32} (h : g_gr H (a0) 12 10 (fun q1 => g_al 0 H (q1) ((((3 : Int32) * i1) + (0 : Int32))) (fun x2 => ((((7 : Int32) * i1) + x2) ≤ i2 → P H ((-1 : Int32))) ∧ (¬ ((((7 : Int32) * i1) + x2) ≤ i2) → g_gr H (a0) 12 11 (fun q3 => g_ll H (q3) (i2) (fun y4 => g_gl H (a0) 12 7 (fun y5 => (¬ ((lg_cmp y4 y5) = 0) → gG d mX12_mouthNamed 0 0 (g_Xj mX12_mouthNamed n 0 0 P) 5 n H [some (.ref (a0)), some (.int (i1)), some (.int ((i2 + 1)))] [] (0) (0)) ∧ ((lg_cmp y4 y5) = 0 → P H ((i2 - ((7 : Int32) * i1))))))))))) : gG d mX12_mouthNamed 0 0 (g_Xj mX12_mouthNamed n 0 0 P) 5 n H [some (.ref (a0)), some (.int (i1)), some (.int (i2))] [] 0 0 := by
  refine gG_iload_n dX12_mouthNamed_5 rfl rfl ?_
  refine gG_bipush (v := 7) dX12_mouthNamed_6 (by decide) ?_
  refine gG_iload_n dX12_mouthNamed_8 rfl rfl ?_
  refine gG_imul dX12_mouthNamed_9 ?_
  refine gG_aload_n dX12_mouthNamed_10 rfl rfl ?_
  obtain ⟨fs, q1, e1, e2, h⟩ := h
  refine gG_gr dX12_mouthNamed_11 fl_X12_13 ⟨fs, q1, e1, e2, ?_⟩
  refine gG_iconst (v := 3) dX12_mouthNamed_14 (by decide) ?_
  refine gG_iload_n dX12_mouthNamed_15 rfl rfl ?_
  refine gG_imul dX12_mouthNamed_16 ?_
  refine gG_iconst (v := 0) dX12_mouthNamed_17 (by decide) ?_
  refine gG_iadd dX12_mouthNamed_18 ?_
  obtain ⟨m0, f0, e1, e2, h⟩ := h
  refine gG_iald dX12_mouthNamed_19 ⟨m0, f0, e1, e2, ?_⟩
  obtain ⟨x2, eH⟩ : ∃ z, z = f0 (Int32.toNatClampNeg ((((3 : Int32) * i1) + (0 : Int32)))) := ⟨_, rfl⟩
  rw [← eH] at h ⊢
  refine gG_iadd dX12_mouthNamed_20 ?_
  refine gG_ic_ge (tgt := 51) dX12_mouthNamed_21 (by decide) (fun c => ?_) (fun c => ?_)
  · have h := h.1 c
    refine gG_iconst (v := (-1)) dX12_mouthNamed_51 (by decide) ?_
    exact gG_exit ⟨rfl, rfl, rfl, dX12_mouthNamed_52, _, rfl, h⟩
  · have h := h.2 c
    refine gG_aload_n dX12_mouthNamed_24 rfl rfl ?_
    obtain ⟨fs, q3, e1, e2, h⟩ := h
    refine gG_gr dX12_mouthNamed_25 fl_X12_16 ⟨fs, q3, e1, e2, ?_⟩
    refine gG_iload_n dX12_mouthNamed_28 rfl rfl ?_
    obtain ⟨m0, f0, e1, e2, h⟩ := h
    refine gG_lald dX12_mouthNamed_29 ⟨m0, f0, e1, e2, ?_⟩
    obtain ⟨y4, eH⟩ : ∃ z, z = f0 (Int32.toNatClampNeg (i2)) := ⟨_, rfl⟩
    rw [← eH] at h ⊢
    refine gG_aload_n dX12_mouthNamed_30 rfl rfl ?_
    obtain ⟨fs, y5, e1, e2, h⟩ := h
    refine gG_gl dX12_mouthNamed_31 fl_X12_165 ⟨fs, y5, e1, e2, ?_⟩
    refine gG_lcmp dX12_mouthNamed_34 ?_
    refine gG_if_ne (tgt := 45) dX12_mouthNamed_35 (by decide) (fun c => ?_) (fun c => ?_)
    · have h := h.1 c
      refine gG_iinc (v := i2 + 1) dX12_mouthNamed_45 rfl rfl (Nat.le_of_ble_eq_true rfl) ?_
      refine gG_goto (tgt := 5) dX12_mouthNamed_48 (by decide) ?_
      refine gG_locals ?_ h
      exact ⟨rfl, ⟨rfl, ⟨rfl, trivial⟩⟩⟩
    · have h := h.2 c
      refine gG_iload_n dX12_mouthNamed_38 rfl rfl ?_
      refine gG_bipush (v := 7) dX12_mouthNamed_39 (by decide) ?_
      refine gG_iload_n dX12_mouthNamed_41 rfl rfl ?_
      refine gG_imul dX12_mouthNamed_42 ?_
      refine gG_isub dX12_mouthNamed_43 ?_
      exact gG_exit ⟨rfl, rfl, rfl, dX12_mouthNamed_44, _, rfl, h⟩

theorem kX12_letterNamed_0 {d n : Nat} {H : gHp} {P : gHp → Int32 → Prop} {a0 : Nat} {i1 : Int32} (h : gG d mX12_letterNamed 0 0 (g_Xj mX12_letterNamed n 0 0 P) 5 n H [some (.ref (a0)), some (.int (i1)), some (.int (((6 : Int32) * i1)))] [] (0) (0)) : gG d mX12_letterNamed 0 0 (g_Xj mX12_letterNamed n 0 0 P) 0 n H [some (.ref (a0)), some (.int (i1)), none] [] 0 0 := by
  refine gG_bipush (v := 6) dX12_letterNamed_0 (by decide) ?_
  refine gG_iload_n dX12_letterNamed_2 rfl rfl ?_
  refine gG_imul dX12_letterNamed_3 ?_
  refine gG_istore_n dX12_letterNamed_4 rfl (Nat.le_of_ble_eq_true rfl) ?_
  refine gG_locals ?_ h
  exact ⟨rfl, ⟨rfl, ⟨rfl, trivial⟩⟩⟩
theorem kX12_letterNamed_5 {d n : Nat} {H : gHp} {P : gHp → Int32 → Prop} {a0 : Nat} {i1 : Int32} {i2 : Int32} (h : g_gr H (a0) 12 10 (fun q1 => g_al 0 H (q1) ((((3 : Int32) * i1) + (1 : Int32))) (fun x2 => ((((6 : Int32) * i1) + x2) ≤ i2 → P H ((-1 : Int32))) ∧ (¬ ((((6 : Int32) * i1) + x2) ≤ i2) → g_gr H (a0) 12 12 (fun q3 => g_ll H (q3) (i2) (fun y4 => g_gl H (a0) 12 7 (fun y5 => (¬ ((lg_cmp y4 y5) = 0) → gG d mX12_letterNamed 0 0 (g_Xj mX12_letterNamed n 0 0 P) 5 n H [some (.ref (a0)), some (.int (i1)), some (.int ((i2 + 1)))] [] (0) (0)) ∧ ((lg_cmp y4 y5) = 0 → P H ((i2 - ((6 : Int32) * i1))))))))))) : gG d mX12_letterNamed 0 0 (g_Xj mX12_letterNamed n 0 0 P) 5 n H [some (.ref (a0)), some (.int (i1)), some (.int (i2))] [] 0 0 := by
  refine gG_iload_n dX12_letterNamed_5 rfl rfl ?_
  refine gG_bipush (v := 6) dX12_letterNamed_6 (by decide) ?_
  refine gG_iload_n dX12_letterNamed_8 rfl rfl ?_
  refine gG_imul dX12_letterNamed_9 ?_
  refine gG_aload_n dX12_letterNamed_10 rfl rfl ?_
  obtain ⟨fs, q1, e1, e2, h⟩ := h
  refine gG_gr dX12_letterNamed_11 fl_X12_13 ⟨fs, q1, e1, e2, ?_⟩
  refine gG_iconst (v := 3) dX12_letterNamed_14 (by decide) ?_
  refine gG_iload_n dX12_letterNamed_15 rfl rfl ?_
  refine gG_imul dX12_letterNamed_16 ?_
  refine gG_iconst (v := 1) dX12_letterNamed_17 (by decide) ?_
  refine gG_iadd dX12_letterNamed_18 ?_
  obtain ⟨m0, f0, e1, e2, h⟩ := h
  refine gG_iald dX12_letterNamed_19 ⟨m0, f0, e1, e2, ?_⟩
  obtain ⟨x2, eH⟩ : ∃ z, z = f0 (Int32.toNatClampNeg ((((3 : Int32) * i1) + (1 : Int32)))) := ⟨_, rfl⟩
  rw [← eH] at h ⊢
  refine gG_iadd dX12_letterNamed_20 ?_
  refine gG_ic_ge (tgt := 51) dX12_letterNamed_21 (by decide) (fun c => ?_) (fun c => ?_)
  · have h := h.1 c
    refine gG_iconst (v := (-1)) dX12_letterNamed_51 (by decide) ?_
    exact gG_exit ⟨rfl, rfl, rfl, dX12_letterNamed_52, _, rfl, h⟩
  · have h := h.2 c
    refine gG_aload_n dX12_letterNamed_24 rfl rfl ?_
    obtain ⟨fs, q3, e1, e2, h⟩ := h
    refine gG_gr dX12_letterNamed_25 fl_X12_20 ⟨fs, q3, e1, e2, ?_⟩
    refine gG_iload_n dX12_letterNamed_28 rfl rfl ?_
    obtain ⟨m0, f0, e1, e2, h⟩ := h
    refine gG_lald dX12_letterNamed_29 ⟨m0, f0, e1, e2, ?_⟩
    obtain ⟨y4, eH⟩ : ∃ z, z = f0 (Int32.toNatClampNeg (i2)) := ⟨_, rfl⟩
    rw [← eH] at h ⊢
    refine gG_aload_n dX12_letterNamed_30 rfl rfl ?_
    obtain ⟨fs, y5, e1, e2, h⟩ := h
    refine gG_gl dX12_letterNamed_31 fl_X12_165 ⟨fs, y5, e1, e2, ?_⟩
    refine gG_lcmp dX12_letterNamed_34 ?_
    refine gG_if_ne (tgt := 45) dX12_letterNamed_35 (by decide) (fun c => ?_) (fun c => ?_)
    · have h := h.1 c
      refine gG_iinc (v := i2 + 1) dX12_letterNamed_45 rfl rfl (Nat.le_of_ble_eq_true rfl) ?_
      refine gG_goto (tgt := 5) dX12_letterNamed_48 (by decide) ?_
      refine gG_locals ?_ h
      exact ⟨rfl, ⟨rfl, ⟨rfl, trivial⟩⟩⟩
    · have h := h.2 c
      refine gG_iload_n dX12_letterNamed_38 rfl rfl ?_
      refine gG_bipush (v := 6) dX12_letterNamed_39 (by decide) ?_
      refine gG_iload_n dX12_letterNamed_41 rfl rfl ?_
      refine gG_imul dX12_letterNamed_42 ?_
      refine gG_isub dX12_letterNamed_43 ?_
      exact gG_exit ⟨rfl, rfl, rfl, dX12_letterNamed_44, _, rfl, h⟩

theorem kX12_needsNumber_0 {d n : Nat} {H : gHp} {P : gHp → Bool → Prop} {a0 : Nat} {i1 : Int32} {i2 : Int32} (h : g_gi H (a0) 12 6 (fun x1 => (x1 = (2 : Int32) → g_gi H (a0) 12 8 (fun x2 => g_cz d mX12_within n H [.int (x2), .int (i1), .int (i2)] (fun H3 b4 => (b4 = true → g_gi H3 (a0) 12 8 (fun x5 => g_pf H3 (a0) 12 36 (.int (x5)) (fun H6 => (∃ fs, H6 (a0) = .inr (12, fs)) ∧ g_cvd d mX12_nextToken n H6 [.ref (a0)] (fun H7 => P H7 true)))) ∧ (b4 = false → (∃ fs, H3 (a0) = .inr (12, fs)) ∧ g_cz d mX12_fails n H3 [.ref (a0), .int ((4 : Int32))] (fun H8 b9 => P H8 b9))))) ∧ (¬ (x1 = (2 : Int32)) → (∃ fs, H (a0) = .inr (12, fs)) ∧ g_cz d mX12_fails n H [.ref (a0), .int ((1 : Int32))] (fun H10 b11 => P H10 b11)))) : gG d mX12_needsNumber 0 0 (g_Xz mX12_needsNumber n 0 0 P) 0 n H [some (.ref (a0)), some (.int (i1)), some (.int (i2))] [] 0 0 := by
  refine gG_aload_n dX12_needsNumber_0 rfl rfl ?_
  obtain ⟨fs, x1, e1, e2, h⟩ := h
  refine gG_gi dX12_needsNumber_1 fl_X12_172 ⟨fs, x1, e1, e2, ?_⟩
  refine gG_iconst (v := 2) dX12_needsNumber_4 (by decide) ?_
  refine gG_ic_eq (tgt := 14) dX12_needsNumber_5 (by decide) (fun c => ?_) (fun c => ?_)
  · have h := h.1 c
    refine gG_aload_n dX12_needsNumber_14 rfl rfl ?_
    obtain ⟨fs, x2, e1, e2, h⟩ := h
    refine gG_gi dX12_needsNumber_15 fl_X12_169 ⟨fs, x2, e1, e2, ?_⟩
    refine gG_iload_n dX12_needsNumber_18 rfl rfl ?_
    refine gG_iload_n dX12_needsNumber_19 rfl rfl ?_
    obtain ⟨d2, P2, hdd, hC, h⟩ := h
    refine gG_csi (As := [.int (x2), .int (i1), .int (i2)]) (st := []) dX12_needsNumber_20 mS_X12_268 hdd rfl rfl (Nat.le_of_ble_eq_true rfl) (Nat.le_refl _) ⟨Nat.le_refl _, Nat.le_refl _⟩ hC (fun H3 x9 hp => ?_)
    obtain ⟨b4, rfl, hp⟩ := hp
    have h := h H3 b4 hp
    refine gG_if_ne (tgt := 32) dX12_needsNumber_23 (by decide) (fun c => ?_) (fun c => ?_)
    · have h := h.1 (g_b_t c)
      refine gG_aload_n dX12_needsNumber_32 rfl rfl ?_
      refine gG_aload_n dX12_needsNumber_33 rfl rfl ?_
      obtain ⟨fs, x5, e1, e2, h⟩ := h
      refine gG_gi dX12_needsNumber_34 fl_X12_169 ⟨fs, x5, e1, e2, ?_⟩
      obtain ⟨fs, e1, e2, h⟩ := h
      refine gG_pi dX12_needsNumber_37 fl_X12_272 ⟨fs, e1, e2, ?_⟩
      obtain ⟨H6, eH⟩ : ∃ z, z = va_up H3 (a0) (.inr (12, fs.set 36 (.int (x5)))) := ⟨_, rfl⟩
      rw [← eH] at h ⊢
      refine gG_aload_n dX12_needsNumber_40 rfl rfl ?_
      obtain ⟨hrc, d2, P2, hdd, hC, h⟩ := h
      refine gG_cvv (As := []) (st := []) dX12_needsNumber_41 mV_X12_218 hdd hrc rfl rfl (Nat.le_of_ble_eq_true rfl) (Nat.le_refl _) ⟨Nat.le_refl _, Nat.le_refl _⟩ hC (fun H7 hp => ?_)
      have h := h H7 hp
      refine gG_iconst (v := 1) dX12_needsNumber_44 (by decide) ?_
      exact gG_exit ⟨rfl, rfl, rfl, dX12_needsNumber_45, true, rfl, h⟩
    · have h := h.2 (g_b_f c)
      refine gG_aload_n dX12_needsNumber_26 rfl rfl ?_
      refine gG_iconst (v := 4) dX12_needsNumber_27 (by decide) ?_
      obtain ⟨hrc, d2, P2, hdd, hC, h⟩ := h
      refine gG_cvi (As := [.int ((4 : Int32))]) (st := []) dX12_needsNumber_28 mV_X12_211 hdd hrc rfl rfl (Nat.le_of_ble_eq_true rfl) (Nat.le_refl _) ⟨Nat.le_refl _, Nat.le_refl _⟩ hC (fun H8 x9 hp => ?_)
      obtain ⟨b9, rfl, hp⟩ := hp
      have h := h H8 b9 hp
      exact gG_exit ⟨rfl, rfl, rfl, dX12_needsNumber_31, b9, rfl, h⟩
  · have h := h.2 c
    refine gG_aload_n dX12_needsNumber_8 rfl rfl ?_
    refine gG_iconst (v := 1) dX12_needsNumber_9 (by decide) ?_
    obtain ⟨hrc, d2, P2, hdd, hC, h⟩ := h
    refine gG_cvi (As := [.int ((1 : Int32))]) (st := []) dX12_needsNumber_10 mV_X12_211 hdd hrc rfl rfl (Nat.le_of_ble_eq_true rfl) (Nat.le_refl _) ⟨Nat.le_refl _, Nat.le_refl _⟩ hC (fun H10 x9 hp => ?_)
    obtain ⟨b11, rfl, hp⟩ := hp
    have h := h H10 b11 hp
    exact gG_exit ⟨rfl, rfl, rfl, dX12_needsNumber_13, b11, rfl, h⟩

theorem kX12_needsBoth_0 {d n : Nat} {H : gHp} {P : gHp → Bool → Prop} {a0 : Nat} {j1 : Int64} {i3 : Int32} {i4 : Int32} (h : (∃ fs, H (a0) = .inr (12, fs)) ∧ g_cz d mX12_isWord n H [.ref (a0), .long (j1)] (fun H1 b2 => (b2 = true → (∃ fs, H1 (a0) = .inr (12, fs)) ∧ g_cvd d mX12_nextToken n H1 [.ref (a0)] (fun H3 => (∃ fs, H3 (a0) = .inr (12, fs)) ∧ g_cz d mX12_needsNumber n H3 [.ref (a0), .int (i3), .int (i4)] (fun H4 b5 => P H4 b5))) ∧ (b2 = false → (∃ fs, H1 (a0) = .inr (12, fs)) ∧ g_cz d mX12_fails n H1 [.ref (a0), .int ((1 : Int32))] (fun H6 b7 => P H6 b7)))) : gG d mX12_needsBoth 0 0 (g_Xz mX12_needsBoth n 0 0 P) 0 n H [some (.ref (a0)), some (.long (j1)), none, some (.int (i3)), some (.int (i4))] [] 0 0 := by
  refine gG_aload_n dX12_needsBoth_0 rfl rfl ?_
  refine gG_lload_n dX12_needsBoth_1 rfl rfl ?_
  obtain ⟨hrc, d2, P2, hdd, hC, h⟩ := h
  refine gG_cvi (As := [.long (j1)]) (st := []) dX12_needsBoth_2 mV_X12_203 hdd hrc rfl rfl (Nat.le_of_ble_eq_true rfl) (Nat.le_refl _) ⟨Nat.le_refl _, Nat.le_refl _⟩ hC (fun H1 x9 hp => ?_)
  obtain ⟨b2, rfl, hp⟩ := hp
  have h := h H1 b2 hp
  refine gG_if_ne (tgt := 14) dX12_needsBoth_5 (by decide) (fun c => ?_) (fun c => ?_)
  · have h := h.1 (g_b_t c)
    refine gG_aload_n dX12_needsBoth_14 rfl rfl ?_
    obtain ⟨hrc, d2, P2, hdd, hC, h⟩ := h
    refine gG_cvv (As := []) (st := []) dX12_needsBoth_15 mV_X12_218 hdd hrc rfl rfl (Nat.le_of_ble_eq_true rfl) (Nat.le_refl _) ⟨Nat.le_refl _, Nat.le_refl _⟩ hC (fun H3 hp => ?_)
    have h := h H3 hp
    refine gG_aload_n dX12_needsBoth_18 rfl rfl ?_
    refine gG_iload_n dX12_needsBoth_19 rfl rfl ?_
    refine gG_iload dX12_needsBoth_20 rfl ?_
    obtain ⟨hrc, d2, P2, hdd, hC, h⟩ := h
    refine gG_cvi (As := [.int (i3), .int (i4)]) (st := []) dX12_needsBoth_22 mV_X12_275 hdd hrc rfl rfl (Nat.le_of_ble_eq_true rfl) (Nat.le_refl _) ⟨Nat.le_refl _, Nat.le_refl _⟩ hC (fun H4 x9 hp => ?_)
    obtain ⟨b5, rfl, hp⟩ := hp
    have h := h H4 b5 hp
    exact gG_exit ⟨rfl, rfl, rfl, dX12_needsBoth_25, b5, rfl, h⟩
  · have h := h.2 (g_b_f c)
    refine gG_aload_n dX12_needsBoth_8 rfl rfl ?_
    refine gG_iconst (v := 1) dX12_needsBoth_9 (by decide) ?_
    obtain ⟨hrc, d2, P2, hdd, hC, h⟩ := h
    refine gG_cvi (As := [.int ((1 : Int32))]) (st := []) dX12_needsBoth_10 mV_X12_211 hdd hrc rfl rfl (Nat.le_of_ble_eq_true rfl) (Nat.le_refl _) ⟨Nat.le_refl _, Nat.le_refl _⟩ hC (fun H6 x9 hp => ?_)
    obtain ⟨b7, rfl, hp⟩ := hp
    have h := h H6 b7 hp
    exact gG_exit ⟨rfl, rfl, rfl, dX12_needsBoth_13, b7, rfl, h⟩

theorem kX12_closes_0 {d n : Nat} {H : gHp} {P : gHp → Bool → Prop} {a0 : Nat} (h : (∃ fs, H (a0) = .inr (12, fs)) ∧ g_cz d mX12_isSign n H [.ref (a0), .int ((59 : Int32))] (fun H1 b2 => (b2 = true → (∃ fs, H1 (a0) = .inr (12, fs)) ∧ g_cvd d mX12_nextToken n H1 [.ref (a0)] (fun H3 => P H3 true)) ∧ (b2 = false → (∃ fs, H1 (a0) = .inr (12, fs)) ∧ g_cz d mX12_fails n H1 [.ref (a0), .int ((1 : Int32))] (fun H4 b5 => P H4 b5)))) : gG d mX12_closes 0 0 (g_Xz mX12_closes n 0 0 P) 0 n H [some (.ref (a0))] [] 0 0 := by
  refine gG_aload_n dX12_closes_0 rfl rfl ?_
  refine gG_bipush (v := 59) dX12_closes_1 (by decide) ?_
  obtain ⟨hrc, d2, P2, hdd, hC, h⟩ := h
  refine gG_cvi (As := [.int ((59 : Int32))]) (st := []) dX12_closes_3 mV_X12_207 hdd hrc rfl rfl (Nat.le_of_ble_eq_true rfl) (Nat.le_refl _) ⟨Nat.le_refl _, Nat.le_refl _⟩ hC (fun H1 x9 hp => ?_)
  obtain ⟨b2, rfl, hp⟩ := hp
  have h := h H1 b2 hp
  refine gG_if_ne (tgt := 15) dX12_closes_6 (by decide) (fun c => ?_) (fun c => ?_)
  · have h := h.1 (g_b_t c)
    refine gG_aload_n dX12_closes_15 rfl rfl ?_
    obtain ⟨hrc, d2, P2, hdd, hC, h⟩ := h
    refine gG_cvv (As := []) (st := []) dX12_closes_16 mV_X12_218 hdd hrc rfl rfl (Nat.le_of_ble_eq_true rfl) (Nat.le_refl _) ⟨Nat.le_refl _, Nat.le_refl _⟩ hC (fun H3 hp => ?_)
    have h := h H3 hp
    refine gG_iconst (v := 1) dX12_closes_19 (by decide) ?_
    exact gG_exit ⟨rfl, rfl, rfl, dX12_closes_20, true, rfl, h⟩
  · have h := h.2 (g_b_f c)
    refine gG_aload_n dX12_closes_9 rfl rfl ?_
    refine gG_iconst (v := 1) dX12_closes_10 (by decide) ?_
    obtain ⟨hrc, d2, P2, hdd, hC, h⟩ := h
    refine gG_cvi (As := [.int ((1 : Int32))]) (st := []) dX12_closes_11 mV_X12_211 hdd hrc rfl rfl (Nat.le_of_ble_eq_true rfl) (Nat.le_refl _) ⟨Nat.le_refl _, Nat.le_refl _⟩ hC (fun H4 x9 hp => ?_)
    obtain ⟨b5, rfl, hp⟩ := hp
    have h := h H4 b5 hp
    exact gG_exit ⟨rfl, rfl, rfl, dX12_closes_14, b5, rfl, h⟩

theorem kX12_needsNew_0 {d n : Nat} {H : gHp} {P : gHp → Bool → Prop} {a0 : Nat} (h : (∃ fs, H (a0) = .inr (12, fs)) ∧ g_cz d mX12_isKept n H [.ref (a0)] (fun H1 b2 => (b2 = false → (∃ fs, H1 (a0) = .inr (12, fs)) ∧ g_ci d mX12_mouthNamed n H1 [.ref (a0), .int ((1 : Int32))] (fun H3 x4 => (0 ≤ x4 → (∃ fs, H3 (a0) = .inr (12, fs)) ∧ g_cz d mX12_fails n H3 [.ref (a0), .int ((3 : Int32))] (fun H5 b6 => P H5 b6)) ∧ (¬ (0 ≤ x4) → (∃ fs, H3 (a0) = .inr (12, fs)) ∧ g_ci d mX12_letterNamed n H3 [.ref (a0), .int ((1 : Int32))] (fun H7 x8 => (x8 < 0 → g_gl H7 (a0) 12 7 (fun y9 => g_pf H7 (a0) 12 37 (.long (y9)) (fun H10 => (∃ fs, H10 (a0) = .inr (12, fs)) ∧ g_cvd d mX12_nextToken n H10 [.ref (a0)] (fun H11 => P H11 true)))) ∧ (¬ (x8 < 0) → (∃ fs, H7 (a0) = .inr (12, fs)) ∧ g_cz d mX12_fails n H7 [.ref (a0), .int ((3 : Int32))] (fun H12 b13 => P H12 b13)))))) ∧ (b2 = true → (∃ fs, H1 (a0) = .inr (12, fs)) ∧ g_cz d mX12_fails n H1 [.ref (a0), .int ((1 : Int32))] (fun H14 b15 => P H14 b15)))) : gG d mX12_needsNew 0 0 (g_Xz mX12_needsNew n 0 0 P) 0 n H [some (.ref (a0))] [] 0 0 := by
  refine gG_aload_n dX12_needsNew_0 rfl rfl ?_
  obtain ⟨hrc, d2, P2, hdd, hC, h⟩ := h
  refine gG_cvi (As := []) (st := []) dX12_needsNew_1 mV_X12_279 hdd hrc rfl rfl (Nat.le_of_ble_eq_true rfl) (Nat.le_refl _) ⟨Nat.le_refl _, Nat.le_refl _⟩ hC (fun H1 x9 hp => ?_)
  obtain ⟨b2, rfl, hp⟩ := hp
  have h := h H1 b2 hp
  refine gG_if_eq (tgt := 13) dX12_needsNew_4 (by decide) (fun c => ?_) (fun c => ?_)
  · have h := h.1 (g_b_f c)
    refine gG_aload_n dX12_needsNew_13 rfl rfl ?_
    refine gG_iconst (v := 1) dX12_needsNew_14 (by decide) ?_
    obtain ⟨hrc, d2, P2, hdd, hC, h⟩ := h
    refine gG_cvi (As := [.int ((1 : Int32))]) (st := []) dX12_needsNew_15 mV_X12_283 hdd hrc rfl rfl (Nat.le_of_ble_eq_true rfl) (Nat.le_refl _) ⟨Nat.le_refl _, Nat.le_refl _⟩ hC (fun H3 x4 hp => ?_)
    have h := h H3 x4 hp
    refine gG_if_ge (tgt := 29) dX12_needsNew_18 (by decide) (fun c => ?_) (fun c => ?_)
    · have h := h.1 c
      refine gG_aload_n dX12_needsNew_29 rfl rfl ?_
      refine gG_iconst (v := 3) dX12_needsNew_30 (by decide) ?_
      obtain ⟨hrc, d2, P2, hdd, hC, h⟩ := h
      refine gG_cvi (As := [.int ((3 : Int32))]) (st := []) dX12_needsNew_31 mV_X12_211 hdd hrc rfl rfl (Nat.le_of_ble_eq_true rfl) (Nat.le_refl _) ⟨Nat.le_refl _, Nat.le_refl _⟩ hC (fun H5 x9 hp => ?_)
      obtain ⟨b6, rfl, hp⟩ := hp
      have h := h H5 b6 hp
      exact gG_exit ⟨rfl, rfl, rfl, dX12_needsNew_34, b6, rfl, h⟩
    · have h := h.2 c
      refine gG_aload_n dX12_needsNew_21 rfl rfl ?_
      refine gG_iconst (v := 1) dX12_needsNew_22 (by decide) ?_
      obtain ⟨hrc, d2, P2, hdd, hC, h⟩ := h
      refine gG_cvi (As := [.int ((1 : Int32))]) (st := []) dX12_needsNew_23 mV_X12_286 hdd hrc rfl rfl (Nat.le_of_ble_eq_true rfl) (Nat.le_refl _) ⟨Nat.le_refl _, Nat.le_refl _⟩ hC (fun H7 x8 hp => ?_)
      have h := h H7 x8 hp
      refine gG_if_lt (tgt := 35) dX12_needsNew_26 (by decide) (fun c => ?_) (fun c => ?_)
      · have h := h.1 c
        refine gG_aload_n dX12_needsNew_35 rfl rfl ?_
        refine gG_aload_n dX12_needsNew_36 rfl rfl ?_
        obtain ⟨fs, y9, e1, e2, h⟩ := h
        refine gG_gl dX12_needsNew_37 fl_X12_165 ⟨fs, y9, e1, e2, ?_⟩
        obtain ⟨fs, e1, e2, h⟩ := h
        refine gG_pl dX12_needsNew_40 fl_X12_289 ⟨fs, e1, e2, ?_⟩
        obtain ⟨H10, eH⟩ : ∃ z, z = va_up H7 (a0) (.inr (12, fs.set 37 (.long (y9)))) := ⟨_, rfl⟩
        rw [← eH] at h ⊢
        refine gG_aload_n dX12_needsNew_43 rfl rfl ?_
        obtain ⟨hrc, d2, P2, hdd, hC, h⟩ := h
        refine gG_cvv (As := []) (st := []) dX12_needsNew_44 mV_X12_218 hdd hrc rfl rfl (Nat.le_of_ble_eq_true rfl) (Nat.le_refl _) ⟨Nat.le_refl _, Nat.le_refl _⟩ hC (fun H11 hp => ?_)
        have h := h H11 hp
        refine gG_iconst (v := 1) dX12_needsNew_47 (by decide) ?_
        exact gG_exit ⟨rfl, rfl, rfl, dX12_needsNew_48, true, rfl, h⟩
      · have h := h.2 c
        refine gG_aload_n dX12_needsNew_29 rfl rfl ?_
        refine gG_iconst (v := 3) dX12_needsNew_30 (by decide) ?_
        obtain ⟨hrc, d2, P2, hdd, hC, h⟩ := h
        refine gG_cvi (As := [.int ((3 : Int32))]) (st := []) dX12_needsNew_31 mV_X12_211 hdd hrc rfl rfl (Nat.le_of_ble_eq_true rfl) (Nat.le_refl _) ⟨Nat.le_refl _, Nat.le_refl _⟩ hC (fun H12 x9 hp => ?_)
        obtain ⟨b13, rfl, hp⟩ := hp
        have h := h H12 b13 hp
        exact gG_exit ⟨rfl, rfl, rfl, dX12_needsNew_34, b13, rfl, h⟩
  · have h := h.2 (g_b_t c)
    refine gG_aload_n dX12_needsNew_7 rfl rfl ?_
    refine gG_iconst (v := 1) dX12_needsNew_8 (by decide) ?_
    obtain ⟨hrc, d2, P2, hdd, hC, h⟩ := h
    refine gG_cvi (As := [.int ((1 : Int32))]) (st := []) dX12_needsNew_9 mV_X12_211 hdd hrc rfl rfl (Nat.le_of_ble_eq_true rfl) (Nat.le_refl _) ⟨Nat.le_refl _, Nat.le_refl _⟩ hC (fun H14 x9 hp => ?_)
    obtain ⟨b15, rfl, hp⟩ := hp
    have h := h H14 b15 hp
    exact gG_exit ⟨rfl, rfl, rfl, dX12_needsNew_12, b15, rfl, h⟩

theorem kX12_needsMouth_0 {d n : Nat} {H : gHp} {P : gHp → Bool → Prop} {a0 : Nat} {i1 : Int32} (h : (∃ fs, H (a0) = .inr (12, fs)) ∧ g_cz d mX12_isKept n H [.ref (a0)] (fun H1 b2 => (b2 = false → (∃ fs, H1 (a0) = .inr (12, fs)) ∧ g_ci d mX12_mouthNamed n H1 [.ref (a0), .int (i1)] (fun H3 x4 => g_pf H3 (a0) 12 36 (.int (x4)) (fun H5 => g_gi H5 (a0) 12 36 (fun x6 => (0 ≤ x6 → P H5 true) ∧ (¬ (0 ≤ x6) → (∃ fs, H5 (a0) = .inr (12, fs)) ∧ g_cz d mX12_fails n H5 [.ref (a0), .int ((2 : Int32))] (fun H7 b8 => (b8 = false → P H7 false) ∧ (b8 = true → P H7 true))))))) ∧ (b2 = true → (∃ fs, H1 (a0) = .inr (12, fs)) ∧ g_cz d mX12_fails n H1 [.ref (a0), .int ((1 : Int32))] (fun H9 b10 => P H9 b10)))) : gG d mX12_needsMouth 0 0 (g_Xz mX12_needsMouth n 0 0 P) 0 n H [some (.ref (a0)), some (.int (i1))] [] 0 0 := by
  refine gG_aload_n dX12_needsMouth_0 rfl rfl ?_
  obtain ⟨hrc, d2, P2, hdd, hC, h⟩ := h
  refine gG_cvi (As := []) (st := []) dX12_needsMouth_1 mV_X12_279 hdd hrc rfl rfl (Nat.le_of_ble_eq_true rfl) (Nat.le_refl _) ⟨Nat.le_refl _, Nat.le_refl _⟩ hC (fun H1 x9 hp => ?_)
  obtain ⟨b2, rfl, hp⟩ := hp
  have h := h H1 b2 hp
  refine gG_if_eq (tgt := 13) dX12_needsMouth_4 (by decide) (fun c => ?_) (fun c => ?_)
  · have h := h.1 (g_b_f c)
    refine gG_aload_n dX12_needsMouth_13 rfl rfl ?_
    refine gG_aload_n dX12_needsMouth_14 rfl rfl ?_
    refine gG_iload_n dX12_needsMouth_15 rfl rfl ?_
    obtain ⟨hrc, d2, P2, hdd, hC, h⟩ := h
    refine gG_cvi (As := [.int (i1)]) (st := [.ref (a0)]) dX12_needsMouth_16 mV_X12_283 hdd hrc rfl rfl (Nat.le_of_ble_eq_true rfl) (Nat.le_refl _) ⟨Nat.le_refl _, Nat.le_refl _⟩ hC (fun H3 x4 hp => ?_)
    have h := h H3 x4 hp
    obtain ⟨fs, e1, e2, h⟩ := h
    refine gG_pi dX12_needsMouth_19 fl_X12_272 ⟨fs, e1, e2, ?_⟩
    obtain ⟨H5, eH⟩ : ∃ z, z = va_up H3 (a0) (.inr (12, fs.set 36 (.int (x4)))) := ⟨_, rfl⟩
    rw [← eH] at h ⊢
    refine gG_aload_n dX12_needsMouth_22 rfl rfl ?_
    obtain ⟨fs, x6, e1, e2, h⟩ := h
    refine gG_gi dX12_needsMouth_23 fl_X12_272 ⟨fs, x6, e1, e2, ?_⟩
    refine gG_if_ge (tgt := 37) dX12_needsMouth_26 (by decide) (fun c => ?_) (fun c => ?_)
    · have h := h.1 c
      refine gG_iconst (v := 1) dX12_needsMouth_37 (by decide) ?_
      refine gG_goto (tgt := 42) dX12_needsMouth_38 (by decide) ?_
      exact gG_exit ⟨rfl, rfl, rfl, dX12_needsMouth_42, true, rfl, h⟩
    · have h := h.2 c
      refine gG_aload_n dX12_needsMouth_29 rfl rfl ?_
      refine gG_iconst (v := 2) dX12_needsMouth_30 (by decide) ?_
      obtain ⟨hrc, d2, P2, hdd, hC, h⟩ := h
      refine gG_cvi (As := [.int ((2 : Int32))]) (st := []) dX12_needsMouth_31 mV_X12_211 hdd hrc rfl rfl (Nat.le_of_ble_eq_true rfl) (Nat.le_refl _) ⟨Nat.le_refl _, Nat.le_refl _⟩ hC (fun H7 x9 hp => ?_)
      obtain ⟨b8, rfl, hp⟩ := hp
      have h := h H7 b8 hp
      refine gG_if_eq (tgt := 41) dX12_needsMouth_34 (by decide) (fun c => ?_) (fun c => ?_)
      · have h := h.1 (g_b_f c)
        refine gG_iconst (v := 0) dX12_needsMouth_41 (by decide) ?_
        exact gG_exit ⟨rfl, rfl, rfl, dX12_needsMouth_42, false, rfl, h⟩
      · have h := h.2 (g_b_t c)
        refine gG_iconst (v := 1) dX12_needsMouth_37 (by decide) ?_
        refine gG_goto (tgt := 42) dX12_needsMouth_38 (by decide) ?_
        exact gG_exit ⟨rfl, rfl, rfl, dX12_needsMouth_42, true, rfl, h⟩
  · have h := h.2 (g_b_t c)
    refine gG_aload_n dX12_needsMouth_7 rfl rfl ?_
    refine gG_iconst (v := 1) dX12_needsMouth_8 (by decide) ?_
    obtain ⟨hrc, d2, P2, hdd, hC, h⟩ := h
    refine gG_cvi (As := [.int ((1 : Int32))]) (st := []) dX12_needsMouth_9 mV_X12_211 hdd hrc rfl rfl (Nat.le_of_ble_eq_true rfl) (Nat.le_refl _) ⟨Nat.le_refl _, Nat.le_refl _⟩ hC (fun H9 x9 hp => ?_)
    obtain ⟨b10, rfl, hp⟩ := hp
    have h := h H9 b10 hp
    exact gG_exit ⟨rfl, rfl, rfl, dX12_needsMouth_12, b10, rfl, h⟩

theorem kX12_readsMouth_0 {d n : Nat} {H : gHp} {P : gHp → Bool → Prop} {a0 : Nat} (h : g_gr H (a0) 12 10 (fun q1 => g_al 0 H (q1) ((3 : Int32)) (fun x2 => (¬ (((7 : Int32) + x2) = (14 : Int32)) → (∃ fs, H (a0) = .inr (12, fs)) ∧ g_cvd d mX12_nextToken n H [.ref (a0)] (fun H3 => (∃ fs, H3 (a0) = .inr (12, fs)) ∧ g_cz d mX12_needsNew n H3 [.ref (a0)] (fun H4 b5 => (b5 = true → g_gr H4 (a0) 12 13 (fun q6 => (∃ fs, H4 (a0) = .inr (12, fs)) ∧ g_cz d mX12_isWord n H4 [.ref (a0), .long ((8740238 : Int64))] (fun H7 b8 => (b8 = false → (∃ fs, H7 (a0) = .inr (12, fs)) ∧ g_cz d mX12_isWord n H7 [.ref (a0), .long ((459383 : Int64))] (fun H9 b10 => (b10 = false → (∃ fs, H9 (a0) = .inr (12, fs)) ∧ g_cz d mX12_isWord n H9 [.ref (a0), .long ((383153 : Int64))] (fun H11 b12 => (b12 = false → (∃ fs, H11 (a0) = .inr (12, fs)) ∧ g_cz d mX12_isWord n H11 [.ref (a0), .long ((279740 : Int64))] (fun H13 b14 => (b14 = false → g_as 0 H13 (q6) (((7 : Int32) + x2)) ((-1 : Int32)) (fun H15 => gG d mX12_readsMouth 0 0 (g_Xz mX12_readsMouth n 0 0 P) 98 n H15 [some (.ref (a0)), some (.int (((7 : Int32) + x2)))] [] (0) (0))) ∧ (b14 = true → g_as 0 H13 (q6) (((7 : Int32) + x2)) ((3 : Int32)) (fun H16 => gG d mX12_readsMouth 0 0 (g_Xz mX12_readsMouth n 0 0 P) 98 n H16 [some (.ref (a0)), some (.int (((7 : Int32) + x2)))] [] (0) (0))))) ∧ (b12 = true → g_as 0 H11 (q6) (((7 : Int32) + x2)) ((2 : Int32)) (fun H17 => gG d mX12_readsMouth 0 0 (g_Xz mX12_readsMouth n 0 0 P) 98 n H17 [some (.ref (a0)), some (.int (((7 : Int32) + x2)))] [] (0) (0))))) ∧ (b10 = true → g_as 0 H9 (q6) (((7 : Int32) + x2)) ((1 : Int32)) (fun H18 => gG d mX12_readsMouth 0 0 (g_Xz mX12_readsMouth n 0 0 P) 98 n H18 [some (.ref (a0)), some (.int (((7 : Int32) + x2)))] [] (0) (0))))) ∧ (b8 = true → g_as 0 H7 (q6) (((7 : Int32) + x2)) ((0 : Int32)) (fun H19 => gG d mX12_readsMouth 0 0 (g_Xz mX12_readsMouth n 0 0 P) 98 n H19 [some (.ref (a0)), some (.int (((7 : Int32) + x2)))] [] (0) (0)))))) ∧ (b5 = false → P H4 false)))) ∧ (((7 : Int32) + x2) = (14 : Int32) → (∃ fs, H (a0) = .inr (12, fs)) ∧ g_cz d mX12_fails n H [.ref (a0), .int ((5 : Int32))] (fun H20 b21 => P H20 b21))))) : gG d mX12_readsMouth 0 0 (g_Xz mX12_readsMouth n 0 0 P) 0 n H [some (.ref (a0)), none] [] 0 0 := by
  refine gG_bipush (v := 7) dX12_readsMouth_0 (by decide) ?_
  refine gG_aload_n dX12_readsMouth_2 rfl rfl ?_
  obtain ⟨fs, q1, e1, e2, h⟩ := h
  refine gG_gr dX12_readsMouth_3 fl_X12_13 ⟨fs, q1, e1, e2, ?_⟩
  refine gG_iconst (v := 3) dX12_readsMouth_6 (by decide) ?_
  obtain ⟨m0, f0, e1, e2, h⟩ := h
  refine gG_iald dX12_readsMouth_7 ⟨m0, f0, e1, e2, ?_⟩
  obtain ⟨x2, eH⟩ : ∃ z, z = f0 (Int32.toNatClampNeg ((3 : Int32))) := ⟨_, rfl⟩
  rw [← eH] at h ⊢
  refine gG_iadd dX12_readsMouth_8 ?_
  refine gG_istore_n dX12_readsMouth_9 rfl (Nat.le_of_ble_eq_true rfl) ?_
  refine gG_iload_n dX12_readsMouth_10 rfl rfl ?_
  refine gG_bipush (v := 14) dX12_readsMouth_11 (by decide) ?_
  refine gG_ic_ne (tgt := 22) dX12_readsMouth_13 (by decide) (fun c => ?_) (fun c => ?_)
  · have h := h.1 c
    refine gG_aload_n dX12_readsMouth_22 rfl rfl ?_
    obtain ⟨hrc, d2, P2, hdd, hC, h⟩ := h
    refine gG_cvv (As := []) (st := []) dX12_readsMouth_23 mV_X12_218 hdd hrc rfl rfl (Nat.le_of_ble_eq_true rfl) (Nat.le_refl _) ⟨Nat.le_refl _, Nat.le_refl _⟩ hC (fun H3 hp => ?_)
    have h := h H3 hp
    refine gG_aload_n dX12_readsMouth_26 rfl rfl ?_
    obtain ⟨hrc, d2, P2, hdd, hC, h⟩ := h
    refine gG_cvi (As := []) (st := []) dX12_readsMouth_27 mV_X12_292 hdd hrc rfl rfl (Nat.le_of_ble_eq_true rfl) (Nat.le_refl _) ⟨Nat.le_refl _, Nat.le_refl _⟩ hC (fun H4 x9 hp => ?_)
    obtain ⟨b5, rfl, hp⟩ := hp
    have h := h H4 b5 hp
    refine gG_if_ne (tgt := 35) dX12_readsMouth_30 (by decide) (fun c => ?_) (fun c => ?_)
    · have h := h.1 (g_b_t c)
      refine gG_aload_n dX12_readsMouth_35 rfl rfl ?_
      obtain ⟨fs, q6, e1, e2, h⟩ := h
      refine gG_gr dX12_readsMouth_36 fl_X12_23 ⟨fs, q6, e1, e2, ?_⟩
      refine gG_iload_n dX12_readsMouth_39 rfl rfl ?_
      refine gG_aload_n dX12_readsMouth_40 rfl rfl ?_
      refine gG_ldc2 dX12_readsMouth_41 cl_X12_260 ?_
      obtain ⟨hrc, d2, P2, hdd, hC, h⟩ := h
      refine gG_cvi (As := [.long ((8740238 : Int64))]) (st := [.int (((7 : Int32) + x2)), .ref (q6)]) dX12_readsMouth_44 mV_X12_203 hdd hrc rfl rfl (Nat.le_of_ble_eq_true rfl) (Nat.le_refl _) ⟨Nat.le_refl _, Nat.le_refl _⟩ hC (fun H7 x9 hp => ?_)
      obtain ⟨b8, rfl, hp⟩ := hp
      have h := h H7 b8 hp
      refine gG_if_eq (tgt := 54) dX12_readsMouth_47 (by decide) (fun c => ?_) (fun c => ?_)
      · have h := h.1 (g_b_f c)
        refine gG_aload_n dX12_readsMouth_54 rfl rfl ?_
        refine gG_ldc2 dX12_readsMouth_55 cl_X12_262 ?_
        obtain ⟨hrc, d2, P2, hdd, hC, h⟩ := h
        refine gG_cvi (As := [.long ((459383 : Int64))]) (st := [.int (((7 : Int32) + x2)), .ref (q6)]) dX12_readsMouth_58 mV_X12_203 hdd hrc rfl rfl (Nat.le_of_ble_eq_true rfl) (Nat.le_refl _) ⟨Nat.le_refl _, Nat.le_refl _⟩ hC (fun H9 x9 hp => ?_)
        obtain ⟨b10, rfl, hp⟩ := hp
        have h := h H9 b10 hp
        refine gG_if_eq (tgt := 68) dX12_readsMouth_61 (by decide) (fun c => ?_) (fun c => ?_)
        · have h := h.1 (g_b_f c)
          refine gG_aload_n dX12_readsMouth_68 rfl rfl ?_
          refine gG_ldc2 dX12_readsMouth_69 cl_X12_264 ?_
          obtain ⟨hrc, d2, P2, hdd, hC, h⟩ := h
          refine gG_cvi (As := [.long ((383153 : Int64))]) (st := [.int (((7 : Int32) + x2)), .ref (q6)]) dX12_readsMouth_72 mV_X12_203 hdd hrc rfl rfl (Nat.le_of_ble_eq_true rfl) (Nat.le_refl _) ⟨Nat.le_refl _, Nat.le_refl _⟩ hC (fun H11 x9 hp => ?_)
          obtain ⟨b12, rfl, hp⟩ := hp
          have h := h H11 b12 hp
          refine gG_if_eq (tgt := 82) dX12_readsMouth_75 (by decide) (fun c => ?_) (fun c => ?_)
          · have h := h.1 (g_b_f c)
            refine gG_aload_n dX12_readsMouth_82 rfl rfl ?_
            refine gG_ldc2 dX12_readsMouth_83 cl_X12_266 ?_
            obtain ⟨hrc, d2, P2, hdd, hC, h⟩ := h
            refine gG_cvi (As := [.long ((279740 : Int64))]) (st := [.int (((7 : Int32) + x2)), .ref (q6)]) dX12_readsMouth_86 mV_X12_203 hdd hrc rfl rfl (Nat.le_of_ble_eq_true rfl) (Nat.le_refl _) ⟨Nat.le_refl _, Nat.le_refl _⟩ hC (fun H13 x9 hp => ?_)
            obtain ⟨b14, rfl, hp⟩ := hp
            have h := h H13 b14 hp
            refine gG_if_eq (tgt := 96) dX12_readsMouth_89 (by decide) (fun c => ?_) (fun c => ?_)
            · have h := h.1 (g_b_f c)
              refine gG_iconst (v := (-1)) dX12_readsMouth_96 (by decide) ?_
              obtain ⟨m0, f0, e1, e2, h⟩ := h
              refine gG_iast dX12_readsMouth_97 ⟨m0, f0, e1, e2, ?_⟩
              obtain ⟨H15, eH⟩ : ∃ z, z = va_up H13 (q6) (.inl (0, m0, .inl (upd f0 (Int32.toNatClampNeg (((7 : Int32) + x2))) ((-1 : Int32))))) := ⟨_, rfl⟩
              rw [← eH] at h ⊢
              refine gG_locals ?_ h
              exact ⟨rfl, ⟨rfl, trivial⟩⟩
            · have h := h.2 (g_b_t c)
              refine gG_iconst (v := 3) dX12_readsMouth_92 (by decide) ?_
              refine gG_goto (tgt := 97) dX12_readsMouth_93 (by decide) ?_
              obtain ⟨m0, f0, e1, e2, h⟩ := h
              refine gG_iast dX12_readsMouth_97 ⟨m0, f0, e1, e2, ?_⟩
              obtain ⟨H16, eH⟩ : ∃ z, z = va_up H13 (q6) (.inl (0, m0, .inl (upd f0 (Int32.toNatClampNeg (((7 : Int32) + x2))) ((3 : Int32))))) := ⟨_, rfl⟩
              rw [← eH] at h ⊢
              refine gG_locals ?_ h
              exact ⟨rfl, ⟨rfl, trivial⟩⟩
          · have h := h.2 (g_b_t c)
            refine gG_iconst (v := 2) dX12_readsMouth_78 (by decide) ?_
            refine gG_goto (tgt := 97) dX12_readsMouth_79 (by decide) ?_
            obtain ⟨m0, f0, e1, e2, h⟩ := h
            refine gG_iast dX12_readsMouth_97 ⟨m0, f0, e1, e2, ?_⟩
            obtain ⟨H17, eH⟩ : ∃ z, z = va_up H11 (q6) (.inl (0, m0, .inl (upd f0 (Int32.toNatClampNeg (((7 : Int32) + x2))) ((2 : Int32))))) := ⟨_, rfl⟩
            rw [← eH] at h ⊢
            refine gG_locals ?_ h
            exact ⟨rfl, ⟨rfl, trivial⟩⟩
        · have h := h.2 (g_b_t c)
          refine gG_iconst (v := 1) dX12_readsMouth_64 (by decide) ?_
          refine gG_goto (tgt := 97) dX12_readsMouth_65 (by decide) ?_
          obtain ⟨m0, f0, e1, e2, h⟩ := h
          refine gG_iast dX12_readsMouth_97 ⟨m0, f0, e1, e2, ?_⟩
          obtain ⟨H18, eH⟩ : ∃ z, z = va_up H9 (q6) (.inl (0, m0, .inl (upd f0 (Int32.toNatClampNeg (((7 : Int32) + x2))) ((1 : Int32))))) := ⟨_, rfl⟩
          rw [← eH] at h ⊢
          refine gG_locals ?_ h
          exact ⟨rfl, ⟨rfl, trivial⟩⟩
      · have h := h.2 (g_b_t c)
        refine gG_iconst (v := 0) dX12_readsMouth_50 (by decide) ?_
        refine gG_goto (tgt := 97) dX12_readsMouth_51 (by decide) ?_
        obtain ⟨m0, f0, e1, e2, h⟩ := h
        refine gG_iast dX12_readsMouth_97 ⟨m0, f0, e1, e2, ?_⟩
        obtain ⟨H19, eH⟩ : ∃ z, z = va_up H7 (q6) (.inl (0, m0, .inl (upd f0 (Int32.toNatClampNeg (((7 : Int32) + x2))) ((0 : Int32))))) := ⟨_, rfl⟩
        rw [← eH] at h ⊢
        refine gG_locals ?_ h
        exact ⟨rfl, ⟨rfl, trivial⟩⟩
    · have h := h.2 (g_b_f c)
      refine gG_iconst (v := 0) dX12_readsMouth_33 (by decide) ?_
      exact gG_exit ⟨rfl, rfl, rfl, dX12_readsMouth_34, false, rfl, h⟩
  · have h := h.2 c
    refine gG_aload_n dX12_readsMouth_16 rfl rfl ?_
    refine gG_iconst (v := 5) dX12_readsMouth_17 (by decide) ?_
    obtain ⟨hrc, d2, P2, hdd, hC, h⟩ := h
    refine gG_cvi (As := [.int ((5 : Int32))]) (st := []) dX12_readsMouth_18 mV_X12_211 hdd hrc rfl rfl (Nat.le_of_ble_eq_true rfl) (Nat.le_refl _) ⟨Nat.le_refl _, Nat.le_refl _⟩ hC (fun H20 x9 hp => ?_)
    obtain ⟨b21, rfl, hp⟩ := hp
    have h := h H20 b21 hp
    exact gG_exit ⟨rfl, rfl, rfl, dX12_readsMouth_21, b21, rfl, h⟩
theorem kX12_readsMouth_98 {d n : Nat} {H : gHp} {P : gHp → Bool → Prop} {a0 : Nat} {i1 : Int32} (h : g_gr H (a0) 12 13 (fun q1 => g_al 0 H (q1) (i1) (fun x2 => (0 ≤ x2 → (∃ fs, H (a0) = .inr (12, fs)) ∧ g_cvd d mX12_nextToken n H [.ref (a0)] (fun H3 => (∃ fs, H3 (a0) = .inr (12, fs)) ∧ g_cz d mX12_needsBoth n H3 [.ref (a0), .long ((164222 : Int64)), .int ((1 : Int32)), .int ((20 : Int32))] (fun H4 b5 => (b5 = true → g_gr H4 (a0) 12 14 (fun q6 => g_gi H4 (a0) 12 36 (fun x7 => g_as 0 H4 (q6) (i1) (x7) (fun H8 => (∃ fs, H8 (a0) = .inr (12, fs)) ∧ g_cz d mX12_needsBoth n H8 [.ref (a0), .long ((10656676 : Int64)), .int ((0 : Int32)), .int ((9 : Int32))] (fun H9 b10 => (b10 = true → g_gr H9 (a0) 12 15 (fun q11 => g_gi H9 (a0) 12 36 (fun x12 => g_as 0 H9 (q11) (i1) (x12) (fun H13 => (∃ fs, H13 (a0) = .inr (12, fs)) ∧ g_cz d mX12_needsBoth n H13 [.ref (a0), .long ((4555648 : Int64)), .int ((0 : Int32)), .int ((40 : Int32))] (fun H14 b15 => (b15 = true → g_gr H14 (a0) 12 16 (fun q16 => g_gi H14 (a0) 12 36 (fun x17 => g_as 0 H14 (q16) (i1) (x17) (fun H18 => g_gr H18 (a0) 12 17 (fun q19 => g_as 0 H18 (q19) (i1) ((-1 : Int32)) (fun H20 => g_gr H20 (a0) 12 11 (fun q21 => g_gl H20 (a0) 12 37 (fun y22 => g_lst H20 (q21) (i1) (y22) (fun H23 => g_gr H23 (a0) 12 10 (fun q24 => g_al 0 H23 (q24) ((3 : Int32)) (fun x25 => g_as 0 H23 (q24) ((3 : Int32)) ((x25 + (1 : Int32))) (fun H26 => (∃ fs, H26 (a0) = .inr (12, fs)) ∧ g_cz d mX12_closes n H26 [.ref (a0)] (fun H27 b28 => P H27 b28))))))))))))) ∧ (b15 = false → P H14 false)))))) ∧ (b10 = false → P H9 false)))))) ∧ (b5 = false → P H4 false)))) ∧ (¬ (0 ≤ x2) → (∃ fs, H (a0) = .inr (12, fs)) ∧ g_cz d mX12_fails n H [.ref (a0), .int ((1 : Int32))] (fun H29 b30 => P H29 b30))))) : gG d mX12_readsMouth 0 0 (g_Xz mX12_readsMouth n 0 0 P) 98 n H [some (.ref (a0)), some (.int (i1))] [] 0 0 := by
  refine gG_aload_n dX12_readsMouth_98 rfl rfl ?_
  obtain ⟨fs, q1, e1, e2, h⟩ := h
  refine gG_gr dX12_readsMouth_99 fl_X12_23 ⟨fs, q1, e1, e2, ?_⟩
  refine gG_iload_n dX12_readsMouth_102 rfl rfl ?_
  obtain ⟨m0, f0, e1, e2, h⟩ := h
  refine gG_iald dX12_readsMouth_103 ⟨m0, f0, e1, e2, ?_⟩
  obtain ⟨x2, eH⟩ : ∃ z, z = f0 (Int32.toNatClampNeg (i1)) := ⟨_, rfl⟩
  rw [← eH] at h ⊢
  refine gG_if_ge (tgt := 113) dX12_readsMouth_104 (by decide) (fun c => ?_) (fun c => ?_)
  · have h := h.1 c
    refine gG_aload_n dX12_readsMouth_113 rfl rfl ?_
    obtain ⟨hrc, d2, P2, hdd, hC, h⟩ := h
    refine gG_cvv (As := []) (st := []) dX12_readsMouth_114 mV_X12_218 hdd hrc rfl rfl (Nat.le_of_ble_eq_true rfl) (Nat.le_refl _) ⟨Nat.le_refl _, Nat.le_refl _⟩ hC (fun H3 hp => ?_)
    have h := h H3 hp
    refine gG_aload_n dX12_readsMouth_117 rfl rfl ?_
    refine gG_ldc2 dX12_readsMouth_118 cl_X12_236 ?_
    refine gG_iconst (v := 1) dX12_readsMouth_121 (by decide) ?_
    refine gG_bipush (v := 20) dX12_readsMouth_122 (by decide) ?_
    obtain ⟨hrc, d2, P2, hdd, hC, h⟩ := h
    refine gG_cvi (As := [.long ((164222 : Int64)), .int ((1 : Int32)), .int ((20 : Int32))]) (st := []) dX12_readsMouth_124 mV_X12_295 hdd hrc rfl rfl (Nat.le_of_ble_eq_true rfl) (Nat.le_refl _) ⟨Nat.le_refl _, Nat.le_refl _⟩ hC (fun H4 x9 hp => ?_)
    obtain ⟨b5, rfl, hp⟩ := hp
    have h := h H4 b5 hp
    refine gG_if_ne (tgt := 132) dX12_readsMouth_127 (by decide) (fun c => ?_) (fun c => ?_)
    · have h := h.1 (g_b_t c)
      refine gG_aload_n dX12_readsMouth_132 rfl rfl ?_
      obtain ⟨fs, q6, e1, e2, h⟩ := h
      refine gG_gr dX12_readsMouth_133 fl_X12_26 ⟨fs, q6, e1, e2, ?_⟩
      refine gG_iload_n dX12_readsMouth_136 rfl rfl ?_
      refine gG_aload_n dX12_readsMouth_137 rfl rfl ?_
      obtain ⟨fs, x7, e1, e2, h⟩ := h
      refine gG_gi dX12_readsMouth_138 fl_X12_272 ⟨fs, x7, e1, e2, ?_⟩
      obtain ⟨m0, f0, e1, e2, h⟩ := h
      refine gG_iast dX12_readsMouth_141 ⟨m0, f0, e1, e2, ?_⟩
      obtain ⟨H8, eH⟩ : ∃ z, z = va_up H4 (q6) (.inl (0, m0, .inl (upd f0 (Int32.toNatClampNeg (i1)) (x7)))) := ⟨_, rfl⟩
      rw [← eH] at h ⊢
      refine gG_aload_n dX12_readsMouth_142 rfl rfl ?_
      refine gG_ldc2 dX12_readsMouth_143 cl_X12_238 ?_
      refine gG_iconst (v := 0) dX12_readsMouth_146 (by decide) ?_
      refine gG_bipush (v := 9) dX12_readsMouth_147 (by decide) ?_
      obtain ⟨hrc, d2, P2, hdd, hC, h⟩ := h
      refine gG_cvi (As := [.long ((10656676 : Int64)), .int ((0 : Int32)), .int ((9 : Int32))]) (st := []) dX12_readsMouth_149 mV_X12_295 hdd hrc rfl rfl (Nat.le_of_ble_eq_true rfl) (Nat.le_refl _) ⟨Nat.le_refl _, Nat.le_refl _⟩ hC (fun H9 x9 hp => ?_)
      obtain ⟨b10, rfl, hp⟩ := hp
      have h := h H9 b10 hp
      refine gG_if_ne (tgt := 157) dX12_readsMouth_152 (by decide) (fun c => ?_) (fun c => ?_)
      · have h := h.1 (g_b_t c)
        refine gG_aload_n dX12_readsMouth_157 rfl rfl ?_
        obtain ⟨fs, q11, e1, e2, h⟩ := h
        refine gG_gr dX12_readsMouth_158 fl_X12_29 ⟨fs, q11, e1, e2, ?_⟩
        refine gG_iload_n dX12_readsMouth_161 rfl rfl ?_
        refine gG_aload_n dX12_readsMouth_162 rfl rfl ?_
        obtain ⟨fs, x12, e1, e2, h⟩ := h
        refine gG_gi dX12_readsMouth_163 fl_X12_272 ⟨fs, x12, e1, e2, ?_⟩
        obtain ⟨m0, f0, e1, e2, h⟩ := h
        refine gG_iast dX12_readsMouth_166 ⟨m0, f0, e1, e2, ?_⟩
        obtain ⟨H13, eH⟩ : ∃ z, z = va_up H9 (q11) (.inl (0, m0, .inl (upd f0 (Int32.toNatClampNeg (i1)) (x12)))) := ⟨_, rfl⟩
        rw [← eH] at h ⊢
        refine gG_aload_n dX12_readsMouth_167 rfl rfl ?_
        refine gG_ldc2 dX12_readsMouth_168 cl_X12_240 ?_
        refine gG_iconst (v := 0) dX12_readsMouth_171 (by decide) ?_
        refine gG_bipush (v := 40) dX12_readsMouth_172 (by decide) ?_
        obtain ⟨hrc, d2, P2, hdd, hC, h⟩ := h
        refine gG_cvi (As := [.long ((4555648 : Int64)), .int ((0 : Int32)), .int ((40 : Int32))]) (st := []) dX12_readsMouth_174 mV_X12_295 hdd hrc rfl rfl (Nat.le_of_ble_eq_true rfl) (Nat.le_refl _) ⟨Nat.le_refl _, Nat.le_refl _⟩ hC (fun H14 x9 hp => ?_)
        obtain ⟨b15, rfl, hp⟩ := hp
        have h := h H14 b15 hp
        refine gG_if_ne (tgt := 182) dX12_readsMouth_177 (by decide) (fun c => ?_) (fun c => ?_)
        · have h := h.1 (g_b_t c)
          refine gG_aload_n dX12_readsMouth_182 rfl rfl ?_
          obtain ⟨fs, q16, e1, e2, h⟩ := h
          refine gG_gr dX12_readsMouth_183 fl_X12_32 ⟨fs, q16, e1, e2, ?_⟩
          refine gG_iload_n dX12_readsMouth_186 rfl rfl ?_
          refine gG_aload_n dX12_readsMouth_187 rfl rfl ?_
          obtain ⟨fs, x17, e1, e2, h⟩ := h
          refine gG_gi dX12_readsMouth_188 fl_X12_272 ⟨fs, x17, e1, e2, ?_⟩
          obtain ⟨m0, f0, e1, e2, h⟩ := h
          refine gG_iast dX12_readsMouth_191 ⟨m0, f0, e1, e2, ?_⟩
          obtain ⟨H18, eH⟩ : ∃ z, z = va_up H14 (q16) (.inl (0, m0, .inl (upd f0 (Int32.toNatClampNeg (i1)) (x17)))) := ⟨_, rfl⟩
          rw [← eH] at h ⊢
          refine gG_aload_n dX12_readsMouth_192 rfl rfl ?_
          obtain ⟨fs, q19, e1, e2, h⟩ := h
          refine gG_gr dX12_readsMouth_193 fl_X12_35 ⟨fs, q19, e1, e2, ?_⟩
          refine gG_iload_n dX12_readsMouth_196 rfl rfl ?_
          refine gG_iconst (v := (-1)) dX12_readsMouth_197 (by decide) ?_
          obtain ⟨m0, f0, e1, e2, h⟩ := h
          refine gG_iast dX12_readsMouth_198 ⟨m0, f0, e1, e2, ?_⟩
          obtain ⟨H20, eH⟩ : ∃ z, z = va_up H18 (q19) (.inl (0, m0, .inl (upd f0 (Int32.toNatClampNeg (i1)) ((-1 : Int32))))) := ⟨_, rfl⟩
          rw [← eH] at h ⊢
          refine gG_aload_n dX12_readsMouth_199 rfl rfl ?_
          obtain ⟨fs, q21, e1, e2, h⟩ := h
          refine gG_gr dX12_readsMouth_200 fl_X12_16 ⟨fs, q21, e1, e2, ?_⟩
          refine gG_iload_n dX12_readsMouth_203 rfl rfl ?_
          refine gG_aload_n dX12_readsMouth_204 rfl rfl ?_
          obtain ⟨fs, y22, e1, e2, h⟩ := h
          refine gG_gl dX12_readsMouth_205 fl_X12_289 ⟨fs, y22, e1, e2, ?_⟩
          obtain ⟨m0, f0, e1, e2, h⟩ := h
          refine gG_last dX12_readsMouth_208 ⟨m0, f0, e1, e2, ?_⟩
          obtain ⟨H23, eH⟩ : ∃ z, z = va_up H20 (q21) (.inl (1, m0, .inr (.inl (vp_updL f0 (Int32.toNatClampNeg (i1)) (y22))))) := ⟨_, rfl⟩
          rw [← eH] at h ⊢
          refine gG_aload_n dX12_readsMouth_209 rfl rfl ?_
          obtain ⟨fs, q24, e1, e2, h⟩ := h
          refine gG_gr dX12_readsMouth_210 fl_X12_13 ⟨fs, q24, e1, e2, ?_⟩
          refine gG_iconst (v := 3) dX12_readsMouth_213 (by decide) ?_
          refine gG_dup2 dX12_readsMouth_214 rfl rfl ?_
          obtain ⟨m0, f0, e1, e2, h⟩ := h
          refine gG_iald dX12_readsMouth_215 ⟨m0, f0, e1, e2, ?_⟩
          obtain ⟨x25, eH⟩ : ∃ z, z = f0 (Int32.toNatClampNeg ((3 : Int32))) := ⟨_, rfl⟩
          rw [← eH] at h ⊢
          refine gG_iconst (v := 1) dX12_readsMouth_216 (by decide) ?_
          refine gG_iadd dX12_readsMouth_217 ?_
          obtain ⟨m0, f0, e1, e2, h⟩ := h
          refine gG_iast dX12_readsMouth_218 ⟨m0, f0, e1, e2, ?_⟩
          obtain ⟨H26, eH⟩ : ∃ z, z = va_up H23 (q24) (.inl (0, m0, .inl (upd f0 (Int32.toNatClampNeg ((3 : Int32))) ((x25 + (1 : Int32)))))) := ⟨_, rfl⟩
          rw [← eH] at h ⊢
          refine gG_aload_n dX12_readsMouth_219 rfl rfl ?_
          obtain ⟨hrc, d2, P2, hdd, hC, h⟩ := h
          refine gG_cvi (As := []) (st := []) dX12_readsMouth_220 mV_X12_299 hdd hrc rfl rfl (Nat.le_of_ble_eq_true rfl) (Nat.le_refl _) ⟨Nat.le_refl _, Nat.le_refl _⟩ hC (fun H27 x9 hp => ?_)
          obtain ⟨b28, rfl, hp⟩ := hp
          have h := h H27 b28 hp
          exact gG_exit ⟨rfl, rfl, rfl, dX12_readsMouth_223, b28, rfl, h⟩
        · have h := h.2 (g_b_f c)
          refine gG_iconst (v := 0) dX12_readsMouth_180 (by decide) ?_
          exact gG_exit ⟨rfl, rfl, rfl, dX12_readsMouth_181, false, rfl, h⟩
      · have h := h.2 (g_b_f c)
        refine gG_iconst (v := 0) dX12_readsMouth_155 (by decide) ?_
        exact gG_exit ⟨rfl, rfl, rfl, dX12_readsMouth_156, false, rfl, h⟩
    · have h := h.2 (g_b_f c)
      refine gG_iconst (v := 0) dX12_readsMouth_130 (by decide) ?_
      exact gG_exit ⟨rfl, rfl, rfl, dX12_readsMouth_131, false, rfl, h⟩
  · have h := h.2 c
    refine gG_aload_n dX12_readsMouth_107 rfl rfl ?_
    refine gG_iconst (v := 1) dX12_readsMouth_108 (by decide) ?_
    obtain ⟨hrc, d2, P2, hdd, hC, h⟩ := h
    refine gG_cvi (As := [.int ((1 : Int32))]) (st := []) dX12_readsMouth_109 mV_X12_211 hdd hrc rfl rfl (Nat.le_of_ble_eq_true rfl) (Nat.le_refl _) ⟨Nat.le_refl _, Nat.le_refl _⟩ hC (fun H29 x9 hp => ?_)
    obtain ⟨b30, rfl, hp⟩ := hp
    have h := h H29 b30 hp
    exact gG_exit ⟨rfl, rfl, rfl, dX12_readsMouth_112, b30, rfl, h⟩

theorem kX12_readsGutter_0 {d n : Nat} {H : gHp} {P : gHp → Bool → Prop} {a0 : Nat} (h : (∃ fs, H (a0) = .inr (12, fs)) ∧ g_cvd d mX12_nextToken n H [.ref (a0)] (fun H1 => (∃ fs, H1 (a0) = .inr (12, fs)) ∧ g_cz d mX12_needsMouth n H1 [.ref (a0), .int ((1 : Int32))] (fun H2 b3 => (b3 = true → g_gi H2 (a0) 12 36 (fun x4 => g_gr H2 (a0) 12 17 (fun q5 => g_al 0 H2 (q5) (((7 : Int32) + x4)) (fun x6 => (x6 < 0 → (∃ fs, H2 (a0) = .inr (12, fs)) ∧ g_cvd d mX12_nextToken n H2 [.ref (a0)] (fun H7 => (∃ fs, H7 (a0) = .inr (12, fs)) ∧ g_cz d mX12_needsMouth n H7 [.ref (a0), .int ((1 : Int32))] (fun H8 b9 => (b9 = true → g_gr H8 (a0) 12 14 (fun q10 => g_gi H8 (a0) 12 36 (fun x11 => g_al 0 H8 (q10) (((7 : Int32) + x11)) (fun x12 => g_gr H8 (a0) 12 14 (fun q13 => g_al 0 H8 (q13) (((7 : Int32) + x4)) (fun x14 => (x12 < x14 → g_gr H8 (a0) 12 17 (fun q15 => g_gi H8 (a0) 12 36 (fun x16 => g_as 0 H8 (q15) (((7 : Int32) + x4)) (x16) (fun H17 => (∃ fs, H17 (a0) = .inr (12, fs)) ∧ g_cvd d mX12_nextToken n H17 [.ref (a0)] (fun H18 => (∃ fs, H18 (a0) = .inr (12, fs)) ∧ g_cz d mX12_closes n H18 [.ref (a0)] (fun H19 b20 => P H19 b20)))))) ∧ (¬ (x12 < x14) → (∃ fs, H8 (a0) = .inr (12, fs)) ∧ g_cz d mX12_fails n H8 [.ref (a0), .int ((3 : Int32))] (fun H21 b22 => P H21 b22)))))))) ∧ (b9 = false → P H8 false)))) ∧ (¬ (x6 < 0) → (∃ fs, H2 (a0) = .inr (12, fs)) ∧ g_cz d mX12_fails n H2 [.ref (a0), .int ((3 : Int32))] (fun H23 b24 => P H23 b24)))))) ∧ (b3 = false → P H2 false)))) : gG d mX12_readsGutter 0 0 (g_Xz mX12_readsGutter n 0 0 P) 0 n H [some (.ref (a0)), none] [] 0 0 := by
  refine gG_aload_n dX12_readsGutter_0 rfl rfl ?_
  obtain ⟨hrc, d2, P2, hdd, hC, h⟩ := h
  refine gG_cvv (As := []) (st := []) dX12_readsGutter_1 mV_X12_218 hdd hrc rfl rfl (Nat.le_of_ble_eq_true rfl) (Nat.le_refl _) ⟨Nat.le_refl _, Nat.le_refl _⟩ hC (fun H1 hp => ?_)
  have h := h H1 hp
  refine gG_aload_n dX12_readsGutter_4 rfl rfl ?_
  refine gG_iconst (v := 1) dX12_readsGutter_5 (by decide) ?_
  obtain ⟨hrc, d2, P2, hdd, hC, h⟩ := h
  refine gG_cvi (As := [.int ((1 : Int32))]) (st := []) dX12_readsGutter_6 mV_X12_302 hdd hrc rfl rfl (Nat.le_of_ble_eq_true rfl) (Nat.le_refl _) ⟨Nat.le_refl _, Nat.le_refl _⟩ hC (fun H2 x9 hp => ?_)
  obtain ⟨b3, rfl, hp⟩ := hp
  have h := h H2 b3 hp
  refine gG_if_ne (tgt := 14) dX12_readsGutter_9 (by decide) (fun c => ?_) (fun c => ?_)
  · have h := h.1 (g_b_t c)
    refine gG_bipush (v := 7) dX12_readsGutter_14 (by decide) ?_
    refine gG_aload_n dX12_readsGutter_16 rfl rfl ?_
    obtain ⟨fs, x4, e1, e2, h⟩ := h
    refine gG_gi dX12_readsGutter_17 fl_X12_272 ⟨fs, x4, e1, e2, ?_⟩
    refine gG_iadd dX12_readsGutter_20 ?_
    refine gG_istore_n dX12_readsGutter_21 rfl (Nat.le_of_ble_eq_true rfl) ?_
    refine gG_aload_n dX12_readsGutter_22 rfl rfl ?_
    obtain ⟨fs, q5, e1, e2, h⟩ := h
    refine gG_gr dX12_readsGutter_23 fl_X12_35 ⟨fs, q5, e1, e2, ?_⟩
    refine gG_iload_n dX12_readsGutter_26 rfl rfl ?_
    obtain ⟨m0, f0, e1, e2, h⟩ := h
    refine gG_iald dX12_readsGutter_27 ⟨m0, f0, e1, e2, ?_⟩
    obtain ⟨x6, eH⟩ : ∃ z, z = f0 (Int32.toNatClampNeg (((7 : Int32) + x4))) := ⟨_, rfl⟩
    rw [← eH] at h ⊢
    refine gG_if_lt (tgt := 37) dX12_readsGutter_28 (by decide) (fun c => ?_) (fun c => ?_)
    · have h := h.1 c
      refine gG_aload_n dX12_readsGutter_37 rfl rfl ?_
      obtain ⟨hrc, d2, P2, hdd, hC, h⟩ := h
      refine gG_cvv (As := []) (st := []) dX12_readsGutter_38 mV_X12_218 hdd hrc rfl rfl (Nat.le_of_ble_eq_true rfl) (Nat.le_refl _) ⟨Nat.le_refl _, Nat.le_refl _⟩ hC (fun H7 hp => ?_)
      have h := h H7 hp
      refine gG_aload_n dX12_readsGutter_41 rfl rfl ?_
      refine gG_iconst (v := 1) dX12_readsGutter_42 (by decide) ?_
      obtain ⟨hrc, d2, P2, hdd, hC, h⟩ := h
      refine gG_cvi (As := [.int ((1 : Int32))]) (st := []) dX12_readsGutter_43 mV_X12_302 hdd hrc rfl rfl (Nat.le_of_ble_eq_true rfl) (Nat.le_refl _) ⟨Nat.le_refl _, Nat.le_refl _⟩ hC (fun H8 x9 hp => ?_)
      obtain ⟨b9, rfl, hp⟩ := hp
      have h := h H8 b9 hp
      refine gG_if_ne (tgt := 51) dX12_readsGutter_46 (by decide) (fun c => ?_) (fun c => ?_)
      · have h := h.1 (g_b_t c)
        refine gG_aload_n dX12_readsGutter_51 rfl rfl ?_
        obtain ⟨fs, q10, e1, e2, h⟩ := h
        refine gG_gr dX12_readsGutter_52 fl_X12_26 ⟨fs, q10, e1, e2, ?_⟩
        refine gG_bipush (v := 7) dX12_readsGutter_55 (by decide) ?_
        refine gG_aload_n dX12_readsGutter_57 rfl rfl ?_
        obtain ⟨fs, x11, e1, e2, h⟩ := h
        refine gG_gi dX12_readsGutter_58 fl_X12_272 ⟨fs, x11, e1, e2, ?_⟩
        refine gG_iadd dX12_readsGutter_61 ?_
        obtain ⟨m0, f0, e1, e2, h⟩ := h
        refine gG_iald dX12_readsGutter_62 ⟨m0, f0, e1, e2, ?_⟩
        obtain ⟨x12, eH⟩ : ∃ z, z = f0 (Int32.toNatClampNeg (((7 : Int32) + x11))) := ⟨_, rfl⟩
        rw [← eH] at h ⊢
        refine gG_aload_n dX12_readsGutter_63 rfl rfl ?_
        obtain ⟨fs, q13, e1, e2, h⟩ := h
        refine gG_gr dX12_readsGutter_64 fl_X12_26 ⟨fs, q13, e1, e2, ?_⟩
        refine gG_iload_n dX12_readsGutter_67 rfl rfl ?_
        obtain ⟨m0, f0, e1, e2, h⟩ := h
        refine gG_iald dX12_readsGutter_68 ⟨m0, f0, e1, e2, ?_⟩
        obtain ⟨x14, eH⟩ : ∃ z, z = f0 (Int32.toNatClampNeg (((7 : Int32) + x4))) := ⟨_, rfl⟩
        rw [← eH] at h ⊢
        refine gG_ic_lt (tgt := 78) dX12_readsGutter_69 (by decide) (fun c => ?_) (fun c => ?_)
        · have h := h.1 c
          refine gG_aload_n dX12_readsGutter_78 rfl rfl ?_
          obtain ⟨fs, q15, e1, e2, h⟩ := h
          refine gG_gr dX12_readsGutter_79 fl_X12_35 ⟨fs, q15, e1, e2, ?_⟩
          refine gG_iload_n dX12_readsGutter_82 rfl rfl ?_
          refine gG_aload_n dX12_readsGutter_83 rfl rfl ?_
          obtain ⟨fs, x16, e1, e2, h⟩ := h
          refine gG_gi dX12_readsGutter_84 fl_X12_272 ⟨fs, x16, e1, e2, ?_⟩
          obtain ⟨m0, f0, e1, e2, h⟩ := h
          refine gG_iast dX12_readsGutter_87 ⟨m0, f0, e1, e2, ?_⟩
          obtain ⟨H17, eH⟩ : ∃ z, z = va_up H8 (q15) (.inl (0, m0, .inl (upd f0 (Int32.toNatClampNeg (((7 : Int32) + x4))) (x16)))) := ⟨_, rfl⟩
          rw [← eH] at h ⊢
          refine gG_aload_n dX12_readsGutter_88 rfl rfl ?_
          obtain ⟨hrc, d2, P2, hdd, hC, h⟩ := h
          refine gG_cvv (As := []) (st := []) dX12_readsGutter_89 mV_X12_218 hdd hrc rfl rfl (Nat.le_of_ble_eq_true rfl) (Nat.le_refl _) ⟨Nat.le_refl _, Nat.le_refl _⟩ hC (fun H18 hp => ?_)
          have h := h H18 hp
          refine gG_aload_n dX12_readsGutter_92 rfl rfl ?_
          obtain ⟨hrc, d2, P2, hdd, hC, h⟩ := h
          refine gG_cvi (As := []) (st := []) dX12_readsGutter_93 mV_X12_299 hdd hrc rfl rfl (Nat.le_of_ble_eq_true rfl) (Nat.le_refl _) ⟨Nat.le_refl _, Nat.le_refl _⟩ hC (fun H19 x9 hp => ?_)
          obtain ⟨b20, rfl, hp⟩ := hp
          have h := h H19 b20 hp
          exact gG_exit ⟨rfl, rfl, rfl, dX12_readsGutter_96, b20, rfl, h⟩
        · have h := h.2 c
          refine gG_aload_n dX12_readsGutter_72 rfl rfl ?_
          refine gG_iconst (v := 3) dX12_readsGutter_73 (by decide) ?_
          obtain ⟨hrc, d2, P2, hdd, hC, h⟩ := h
          refine gG_cvi (As := [.int ((3 : Int32))]) (st := []) dX12_readsGutter_74 mV_X12_211 hdd hrc rfl rfl (Nat.le_of_ble_eq_true rfl) (Nat.le_refl _) ⟨Nat.le_refl _, Nat.le_refl _⟩ hC (fun H21 x9 hp => ?_)
          obtain ⟨b22, rfl, hp⟩ := hp
          have h := h H21 b22 hp
          exact gG_exit ⟨rfl, rfl, rfl, dX12_readsGutter_77, b22, rfl, h⟩
      · have h := h.2 (g_b_f c)
        refine gG_iconst (v := 0) dX12_readsGutter_49 (by decide) ?_
        exact gG_exit ⟨rfl, rfl, rfl, dX12_readsGutter_50, false, rfl, h⟩
    · have h := h.2 c
      refine gG_aload_n dX12_readsGutter_31 rfl rfl ?_
      refine gG_iconst (v := 3) dX12_readsGutter_32 (by decide) ?_
      obtain ⟨hrc, d2, P2, hdd, hC, h⟩ := h
      refine gG_cvi (As := [.int ((3 : Int32))]) (st := []) dX12_readsGutter_33 mV_X12_211 hdd hrc rfl rfl (Nat.le_of_ble_eq_true rfl) (Nat.le_refl _) ⟨Nat.le_refl _, Nat.le_refl _⟩ hC (fun H23 x9 hp => ?_)
      obtain ⟨b24, rfl, hp⟩ := hp
      have h := h H23 b24 hp
      exact gG_exit ⟨rfl, rfl, rfl, dX12_readsGutter_36, b24, rfl, h⟩
  · have h := h.2 (g_b_f c)
    refine gG_iconst (v := 0) dX12_readsGutter_12 (by decide) ?_
    exact gG_exit ⟨rfl, rfl, rfl, dX12_readsGutter_13, false, rfl, h⟩

theorem kX12_readsLetter_0 {d n : Nat} {H : gHp} {P : gHp → Bool → Prop} {a0 : Nat} (h : g_gr H (a0) 12 10 (fun q1 => g_al 0 H (q1) ((4 : Int32)) (fun x2 => (¬ (((6 : Int32) + x2) = (12 : Int32)) → (∃ fs, H (a0) = .inr (12, fs)) ∧ g_cvd d mX12_nextToken n H [.ref (a0)] (fun H3 => (∃ fs, H3 (a0) = .inr (12, fs)) ∧ g_cz d mX12_needsNew n H3 [.ref (a0)] (fun H4 b5 => (b5 = true → (∃ fs, H4 (a0) = .inr (12, fs)) ∧ g_cz d mX12_isWord n H4 [.ref (a0), .long ((411 : Int64))] (fun H6 b7 => (b7 = true → (∃ fs, H6 (a0) = .inr (12, fs)) ∧ g_cvd d mX12_nextToken n H6 [.ref (a0)] (fun H8 => gG d mX12_readsLetter 0 0 (g_Xz mX12_readsLetter n 0 0 P) 57 n H8 [some (.ref (a0)), some (.int (((6 : Int32) + x2))), some (.int ((0 : Int32))), none] [] (0) (0))) ∧ (b7 = false → (∃ fs, H6 (a0) = .inr (12, fs)) ∧ g_cz d mX12_fails n H6 [.ref (a0), .int ((1 : Int32))] (fun H9 b10 => P H9 b10)))) ∧ (b5 = false → P H4 false)))) ∧ (((6 : Int32) + x2) = (12 : Int32) → (∃ fs, H (a0) = .inr (12, fs)) ∧ g_cz d mX12_fails n H [.ref (a0), .int ((5 : Int32))] (fun H11 b12 => P H11 b12))))) : gG d mX12_readsLetter 0 0 (g_Xz mX12_readsLetter n 0 0 P) 0 n H [some (.ref (a0)), none, none, none] [] 0 0 := by
  refine gG_bipush (v := 6) dX12_readsLetter_0 (by decide) ?_
  refine gG_aload_n dX12_readsLetter_2 rfl rfl ?_
  obtain ⟨fs, q1, e1, e2, h⟩ := h
  refine gG_gr dX12_readsLetter_3 fl_X12_13 ⟨fs, q1, e1, e2, ?_⟩
  refine gG_iconst (v := 4) dX12_readsLetter_6 (by decide) ?_
  obtain ⟨m0, f0, e1, e2, h⟩ := h
  refine gG_iald dX12_readsLetter_7 ⟨m0, f0, e1, e2, ?_⟩
  obtain ⟨x2, eH⟩ : ∃ z, z = f0 (Int32.toNatClampNeg ((4 : Int32))) := ⟨_, rfl⟩
  rw [← eH] at h ⊢
  refine gG_iadd dX12_readsLetter_8 ?_
  refine gG_istore_n dX12_readsLetter_9 rfl (Nat.le_of_ble_eq_true rfl) ?_
  refine gG_iload_n dX12_readsLetter_10 rfl rfl ?_
  refine gG_bipush (v := 12) dX12_readsLetter_11 (by decide) ?_
  refine gG_ic_ne (tgt := 22) dX12_readsLetter_13 (by decide) (fun c => ?_) (fun c => ?_)
  · have h := h.1 c
    refine gG_aload_n dX12_readsLetter_22 rfl rfl ?_
    obtain ⟨hrc, d2, P2, hdd, hC, h⟩ := h
    refine gG_cvv (As := []) (st := []) dX12_readsLetter_23 mV_X12_218 hdd hrc rfl rfl (Nat.le_of_ble_eq_true rfl) (Nat.le_refl _) ⟨Nat.le_refl _, Nat.le_refl _⟩ hC (fun H3 hp => ?_)
    have h := h H3 hp
    refine gG_aload_n dX12_readsLetter_26 rfl rfl ?_
    obtain ⟨hrc, d2, P2, hdd, hC, h⟩ := h
    refine gG_cvi (As := []) (st := []) dX12_readsLetter_27 mV_X12_292 hdd hrc rfl rfl (Nat.le_of_ble_eq_true rfl) (Nat.le_refl _) ⟨Nat.le_refl _, Nat.le_refl _⟩ hC (fun H4 x9 hp => ?_)
    obtain ⟨b5, rfl, hp⟩ := hp
    have h := h H4 b5 hp
    refine gG_if_ne (tgt := 35) dX12_readsLetter_30 (by decide) (fun c => ?_) (fun c => ?_)
    · have h := h.1 (g_b_t c)
      refine gG_aload_n dX12_readsLetter_35 rfl rfl ?_
      refine gG_ldc2 dX12_readsLetter_36 cl_X12_246 ?_
      obtain ⟨hrc, d2, P2, hdd, hC, h⟩ := h
      refine gG_cvi (As := [.long ((411 : Int64))]) (st := []) dX12_readsLetter_39 mV_X12_203 hdd hrc rfl rfl (Nat.le_of_ble_eq_true rfl) (Nat.le_refl _) ⟨Nat.le_refl _, Nat.le_refl _⟩ hC (fun H6 x9 hp => ?_)
      obtain ⟨b7, rfl, hp⟩ := hp
      have h := h H6 b7 hp
      refine gG_if_ne (tgt := 51) dX12_readsLetter_42 (by decide) (fun c => ?_) (fun c => ?_)
      · have h := h.1 (g_b_t c)
        refine gG_aload_n dX12_readsLetter_51 rfl rfl ?_
        obtain ⟨hrc, d2, P2, hdd, hC, h⟩ := h
        refine gG_cvv (As := []) (st := []) dX12_readsLetter_52 mV_X12_218 hdd hrc rfl rfl (Nat.le_of_ble_eq_true rfl) (Nat.le_refl _) ⟨Nat.le_refl _, Nat.le_refl _⟩ hC (fun H8 hp => ?_)
        have h := h H8 hp
        refine gG_iconst (v := 0) dX12_readsLetter_55 (by decide) ?_
        refine gG_istore_n dX12_readsLetter_56 rfl (Nat.le_of_ble_eq_true rfl) ?_
        refine gG_locals ?_ h
        exact ⟨rfl, ⟨rfl, ⟨rfl, trivial⟩⟩⟩
      · have h := h.2 (g_b_f c)
        refine gG_aload_n dX12_readsLetter_45 rfl rfl ?_
        refine gG_iconst (v := 1) dX12_readsLetter_46 (by decide) ?_
        obtain ⟨hrc, d2, P2, hdd, hC, h⟩ := h
        refine gG_cvi (As := [.int ((1 : Int32))]) (st := []) dX12_readsLetter_47 mV_X12_211 hdd hrc rfl rfl (Nat.le_of_ble_eq_true rfl) (Nat.le_refl _) ⟨Nat.le_refl _, Nat.le_refl _⟩ hC (fun H9 x9 hp => ?_)
        obtain ⟨b10, rfl, hp⟩ := hp
        have h := h H9 b10 hp
        exact gG_exit ⟨rfl, rfl, rfl, dX12_readsLetter_50, b10, rfl, h⟩
    · have h := h.2 (g_b_f c)
      refine gG_iconst (v := 0) dX12_readsLetter_33 (by decide) ?_
      exact gG_exit ⟨rfl, rfl, rfl, dX12_readsLetter_34, false, rfl, h⟩
  · have h := h.2 c
    refine gG_aload_n dX12_readsLetter_16 rfl rfl ?_
    refine gG_iconst (v := 5) dX12_readsLetter_17 (by decide) ?_
    obtain ⟨hrc, d2, P2, hdd, hC, h⟩ := h
    refine gG_cvi (As := [.int ((5 : Int32))]) (st := []) dX12_readsLetter_18 mV_X12_211 hdd hrc rfl rfl (Nat.le_of_ble_eq_true rfl) (Nat.le_refl _) ⟨Nat.le_refl _, Nat.le_refl _⟩ hC (fun H11 x9 hp => ?_)
    obtain ⟨b12, rfl, hp⟩ := hp
    have h := h H11 b12 hp
    exact gG_exit ⟨rfl, rfl, rfl, dX12_readsLetter_21, b12, rfl, h⟩
theorem kX12_readsLetter_57 {d n : Nat} {H : gHp} {P : gHp → Bool → Prop} {a0 : Nat} {i1 : Int32} {i2 : Int32} (h : (i2 = 0 → gG d mX12_readsLetter 0 0 (g_Xz mX12_readsLetter n 0 0 P) 70 n H [some (.ref (a0)), some (.int (i1)), some (.int (i2)), none] [] (0) (0)) ∧ (¬ (i2 = 0) → (∃ fs, H (a0) = .inr (12, fs)) ∧ g_cz d mX12_isSign n H [.ref (a0), .int ((59 : Int32))] (fun H1 b2 => (b2 = true → gG d mX12_readsLetter 0 0 (g_Xz mX12_readsLetter n 0 0 P) 117 n H1 [some (.ref (a0)), some (.int (i1)), some (.int (i2)), some (.int ((6 : Int32)))] [] (0) (0)) ∧ (b2 = false → gG d mX12_readsLetter 0 0 (g_Xz mX12_readsLetter n 0 0 P) 70 n H1 [some (.ref (a0)), some (.int (i1)), some (.int (i2)), none] [] (0) (0))))) : gG d mX12_readsLetter 0 0 (g_Xz mX12_readsLetter n 0 0 P) 57 n H [some (.ref (a0)), some (.int (i1)), some (.int (i2)), none] [] 0 0 := by
  refine gG_iload_n dX12_readsLetter_57 rfl rfl ?_
  refine gG_if_eq (tgt := 70) dX12_readsLetter_58 (by decide) (fun c => ?_) (fun c => ?_)
  · have h := h.1 c
    refine gG_locals ?_ h
    exact ⟨rfl, ⟨rfl, ⟨rfl, trivial⟩⟩⟩
  · have h := h.2 c
    refine gG_aload_n dX12_readsLetter_61 rfl rfl ?_
    refine gG_bipush (v := 59) dX12_readsLetter_62 (by decide) ?_
    obtain ⟨hrc, d2, P2, hdd, hC, h⟩ := h
    refine gG_cvi (As := [.int ((59 : Int32))]) (st := []) dX12_readsLetter_64 mV_X12_207 hdd hrc rfl rfl (Nat.le_of_ble_eq_true rfl) (Nat.le_refl _) ⟨Nat.le_refl _, Nat.le_refl _⟩ hC (fun H1 x9 hp => ?_)
    obtain ⟨b2, rfl, hp⟩ := hp
    have h := h H1 b2 hp
    refine gG_if_ne (tgt := 114) dX12_readsLetter_67 (by decide) (fun c => ?_) (fun c => ?_)
    · have h := h.1 (g_b_t c)
      refine gG_bipush (v := 6) dX12_readsLetter_114 (by decide) ?_
      refine gG_istore_n dX12_readsLetter_116 rfl (Nat.le_of_ble_eq_true rfl) ?_
      refine gG_locals ?_ h
      exact ⟨rfl, ⟨rfl, ⟨rfl, ⟨rfl, trivial⟩⟩⟩⟩
    · have h := h.2 (g_b_f c)
      refine gG_locals ?_ h
      exact ⟨rfl, ⟨rfl, ⟨rfl, trivial⟩⟩⟩
theorem kX12_readsLetter_70 {d n : Nat} {H : gHp} {P : gHp → Bool → Prop} {a0 : Nat} {i1 : Int32} {i2 : Int32} (h : (∃ fs, H (a0) = .inr (12, fs)) ∧ g_cz d mX12_needsMouth n H [.ref (a0), .int ((1 : Int32))] (fun H1 b2 => (b2 = true → g_gi H1 (a0) 12 36 (fun x3 => (¬ (((i2 >>> (x3 &&& 31)) &&& (1 : Int32)) = (1 : Int32)) → g_gi H1 (a0) 12 36 (fun x4 => (∃ fs, H1 (a0) = .inr (12, fs)) ∧ g_cvd d mX12_nextToken n H1 [.ref (a0)] (fun H5 => gG d mX12_readsLetter 0 0 (g_Xz mX12_readsLetter n 0 0 P) 57 n H5 [some (.ref (a0)), some (.int (i1)), some (.int ((i2 ||| ((1 : Int32) <<< (x4 &&& 31))))), none] [] (0) (0)))) ∧ (((i2 >>> (x3 &&& 31)) &&& (1 : Int32)) = (1 : Int32) → (∃ fs, H1 (a0) = .inr (12, fs)) ∧ g_cz d mX12_fails n H1 [.ref (a0), .int ((3 : Int32))] (fun H6 b7 => P H6 b7)))) ∧ (b2 = false → P H1 false))) : gG d mX12_readsLetter 0 0 (g_Xz mX12_readsLetter n 0 0 P) 70 n H [some (.ref (a0)), some (.int (i1)), some (.int (i2)), none] [] 0 0 := by
  refine gG_aload_n dX12_readsLetter_70 rfl rfl ?_
  refine gG_iconst (v := 1) dX12_readsLetter_71 (by decide) ?_
  obtain ⟨hrc, d2, P2, hdd, hC, h⟩ := h
  refine gG_cvi (As := [.int ((1 : Int32))]) (st := []) dX12_readsLetter_72 mV_X12_302 hdd hrc rfl rfl (Nat.le_of_ble_eq_true rfl) (Nat.le_refl _) ⟨Nat.le_refl _, Nat.le_refl _⟩ hC (fun H1 x9 hp => ?_)
  obtain ⟨b2, rfl, hp⟩ := hp
  have h := h H1 b2 hp
  refine gG_if_ne (tgt := 80) dX12_readsLetter_75 (by decide) (fun c => ?_) (fun c => ?_)
  · have h := h.1 (g_b_t c)
    refine gG_iload_n dX12_readsLetter_80 rfl rfl ?_
    refine gG_aload_n dX12_readsLetter_81 rfl rfl ?_
    obtain ⟨fs, x3, e1, e2, h⟩ := h
    refine gG_gi dX12_readsLetter_82 fl_X12_272 ⟨fs, x3, e1, e2, ?_⟩
    refine gG_ishr dX12_readsLetter_85 ?_
    refine gG_iconst (v := 1) dX12_readsLetter_86 (by decide) ?_
    refine gG_iand dX12_readsLetter_87 ?_
    refine gG_iconst (v := 1) dX12_readsLetter_88 (by decide) ?_
    refine gG_ic_ne (tgt := 98) dX12_readsLetter_89 (by decide) (fun c => ?_) (fun c => ?_)
    · have h := h.1 c
      refine gG_iload_n dX12_readsLetter_98 rfl rfl ?_
      refine gG_iconst (v := 1) dX12_readsLetter_99 (by decide) ?_
      refine gG_aload_n dX12_readsLetter_100 rfl rfl ?_
      obtain ⟨fs, x4, e1, e2, h⟩ := h
      refine gG_gi dX12_readsLetter_101 fl_X12_272 ⟨fs, x4, e1, e2, ?_⟩
      refine gG_ishl dX12_readsLetter_104 ?_
      refine gG_ior dX12_readsLetter_105 ?_
      refine gG_istore_n dX12_readsLetter_106 rfl (Nat.le_of_ble_eq_true rfl) ?_
      refine gG_aload_n dX12_readsLetter_107 rfl rfl ?_
      obtain ⟨hrc, d2, P2, hdd, hC, h⟩ := h
      refine gG_cvv (As := []) (st := []) dX12_readsLetter_108 mV_X12_218 hdd hrc rfl rfl (Nat.le_of_ble_eq_true rfl) (Nat.le_refl _) ⟨Nat.le_refl _, Nat.le_refl _⟩ hC (fun H5 hp => ?_)
      have h := h H5 hp
      refine gG_goto (tgt := 57) dX12_readsLetter_111 (by decide) ?_
      refine gG_locals ?_ h
      exact ⟨rfl, ⟨rfl, ⟨rfl, trivial⟩⟩⟩
    · have h := h.2 c
      refine gG_aload_n dX12_readsLetter_92 rfl rfl ?_
      refine gG_iconst (v := 3) dX12_readsLetter_93 (by decide) ?_
      obtain ⟨hrc, d2, P2, hdd, hC, h⟩ := h
      refine gG_cvi (As := [.int ((3 : Int32))]) (st := []) dX12_readsLetter_94 mV_X12_211 hdd hrc rfl rfl (Nat.le_of_ble_eq_true rfl) (Nat.le_refl _) ⟨Nat.le_refl _, Nat.le_refl _⟩ hC (fun H6 x9 hp => ?_)
      obtain ⟨b7, rfl, hp⟩ := hp
      have h := h H6 b7 hp
      exact gG_exit ⟨rfl, rfl, rfl, dX12_readsLetter_97, b7, rfl, h⟩
  · have h := h.2 (g_b_f c)
    refine gG_iconst (v := 0) dX12_readsLetter_78 (by decide) ?_
    exact gG_exit ⟨rfl, rfl, rfl, dX12_readsLetter_79, false, rfl, h⟩
theorem kX12_readsLetter_117 {d n : Nat} {H : gHp} {P : gHp → Bool → Prop} {a0 : Nat} {i1 : Int32} {i2 : Int32} {i3 : Int32} (h : (i1 ≤ i3 → g_gr H (a0) 12 18 (fun q1 => g_as 0 H (q1) (i1) (i2) (fun H2 => g_gr H2 (a0) 12 12 (fun q3 => g_gl H2 (a0) 12 37 (fun y4 => g_lst H2 (q3) (i1) (y4) (fun H5 => g_gr H5 (a0) 12 10 (fun q6 => g_al 0 H5 (q6) ((4 : Int32)) (fun x7 => g_as 0 H5 (q6) ((4 : Int32)) ((x7 + (1 : Int32))) (fun H8 => (∃ fs, H8 (a0) = .inr (12, fs)) ∧ g_cz d mX12_closes n H8 [.ref (a0)] (fun H9 b10 => P H9 b10)))))))))) ∧ (¬ (i1 ≤ i3) → g_gr H (a0) 12 18 (fun q11 => g_al 0 H (q11) (i3) (fun x12 => (¬ (x12 = i2) → gG d mX12_readsLetter 0 0 (g_Xz mX12_readsLetter n 0 0 P) 117 n H [some (.ref (a0)), some (.int (i1)), some (.int (i2)), some (.int ((i3 + 1)))] [] (0) (0)) ∧ (x12 = i2 → (∃ fs, H (a0) = .inr (12, fs)) ∧ g_cz d mX12_fails n H [.ref (a0), .int ((3 : Int32))] (fun H13 b14 => P H13 b14)))))) : gG d mX12_readsLetter 0 0 (g_Xz mX12_readsLetter n 0 0 P) 117 n H [some (.ref (a0)), some (.int (i1)), some (.int (i2)), some (.int (i3))] [] 0 0 := by
  refine gG_iload_n dX12_readsLetter_117 rfl rfl ?_
  refine gG_iload_n dX12_readsLetter_118 rfl rfl ?_
  refine gG_ic_ge (tgt := 144) dX12_readsLetter_119 (by decide) (fun c => ?_) (fun c => ?_)
  · have h := h.1 c
    refine gG_aload_n dX12_readsLetter_144 rfl rfl ?_
    obtain ⟨fs, q1, e1, e2, h⟩ := h
    refine gG_gr dX12_readsLetter_145 fl_X12_38 ⟨fs, q1, e1, e2, ?_⟩
    refine gG_iload_n dX12_readsLetter_148 rfl rfl ?_
    refine gG_iload_n dX12_readsLetter_149 rfl rfl ?_
    obtain ⟨m0, f0, e1, e2, h⟩ := h
    refine gG_iast dX12_readsLetter_150 ⟨m0, f0, e1, e2, ?_⟩
    obtain ⟨H2, eH⟩ : ∃ z, z = va_up H (q1) (.inl (0, m0, .inl (upd f0 (Int32.toNatClampNeg (i1)) (i2)))) := ⟨_, rfl⟩
    rw [← eH] at h ⊢
    refine gG_aload_n dX12_readsLetter_151 rfl rfl ?_
    obtain ⟨fs, q3, e1, e2, h⟩ := h
    refine gG_gr dX12_readsLetter_152 fl_X12_20 ⟨fs, q3, e1, e2, ?_⟩
    refine gG_iload_n dX12_readsLetter_155 rfl rfl ?_
    refine gG_aload_n dX12_readsLetter_156 rfl rfl ?_
    obtain ⟨fs, y4, e1, e2, h⟩ := h
    refine gG_gl dX12_readsLetter_157 fl_X12_289 ⟨fs, y4, e1, e2, ?_⟩
    obtain ⟨m0, f0, e1, e2, h⟩ := h
    refine gG_last dX12_readsLetter_160 ⟨m0, f0, e1, e2, ?_⟩
    obtain ⟨H5, eH⟩ : ∃ z, z = va_up H2 (q3) (.inl (1, m0, .inr (.inl (vp_updL f0 (Int32.toNatClampNeg (i1)) (y4))))) := ⟨_, rfl⟩
    rw [← eH] at h ⊢
    refine gG_aload_n dX12_readsLetter_161 rfl rfl ?_
    obtain ⟨fs, q6, e1, e2, h⟩ := h
    refine gG_gr dX12_readsLetter_162 fl_X12_13 ⟨fs, q6, e1, e2, ?_⟩
    refine gG_iconst (v := 4) dX12_readsLetter_165 (by decide) ?_
    refine gG_dup2 dX12_readsLetter_166 rfl rfl ?_
    obtain ⟨m0, f0, e1, e2, h⟩ := h
    refine gG_iald dX12_readsLetter_167 ⟨m0, f0, e1, e2, ?_⟩
    obtain ⟨x7, eH⟩ : ∃ z, z = f0 (Int32.toNatClampNeg ((4 : Int32))) := ⟨_, rfl⟩
    rw [← eH] at h ⊢
    refine gG_iconst (v := 1) dX12_readsLetter_168 (by decide) ?_
    refine gG_iadd dX12_readsLetter_169 ?_
    obtain ⟨m0, f0, e1, e2, h⟩ := h
    refine gG_iast dX12_readsLetter_170 ⟨m0, f0, e1, e2, ?_⟩
    obtain ⟨H8, eH⟩ : ∃ z, z = va_up H5 (q6) (.inl (0, m0, .inl (upd f0 (Int32.toNatClampNeg ((4 : Int32))) ((x7 + (1 : Int32)))))) := ⟨_, rfl⟩
    rw [← eH] at h ⊢
    refine gG_aload_n dX12_readsLetter_171 rfl rfl ?_
    obtain ⟨hrc, d2, P2, hdd, hC, h⟩ := h
    refine gG_cvi (As := []) (st := []) dX12_readsLetter_172 mV_X12_299 hdd hrc rfl rfl (Nat.le_of_ble_eq_true rfl) (Nat.le_refl _) ⟨Nat.le_refl _, Nat.le_refl _⟩ hC (fun H9 x9 hp => ?_)
    obtain ⟨b10, rfl, hp⟩ := hp
    have h := h H9 b10 hp
    exact gG_exit ⟨rfl, rfl, rfl, dX12_readsLetter_175, b10, rfl, h⟩
  · have h := h.2 c
    refine gG_aload_n dX12_readsLetter_122 rfl rfl ?_
    obtain ⟨fs, q11, e1, e2, h⟩ := h
    refine gG_gr dX12_readsLetter_123 fl_X12_38 ⟨fs, q11, e1, e2, ?_⟩
    refine gG_iload_n dX12_readsLetter_126 rfl rfl ?_
    obtain ⟨m0, f0, e1, e2, h⟩ := h
    refine gG_iald dX12_readsLetter_127 ⟨m0, f0, e1, e2, ?_⟩
    obtain ⟨x12, eH⟩ : ∃ z, z = f0 (Int32.toNatClampNeg (i3)) := ⟨_, rfl⟩
    rw [← eH] at h ⊢
    refine gG_iload_n dX12_readsLetter_128 rfl rfl ?_
    refine gG_ic_ne (tgt := 138) dX12_readsLetter_129 (by decide) (fun c => ?_) (fun c => ?_)
    · have h := h.1 c
      refine gG_iinc (v := i3 + 1) dX12_readsLetter_138 rfl rfl (Nat.le_of_ble_eq_true rfl) ?_
      refine gG_goto (tgt := 117) dX12_readsLetter_141 (by decide) ?_
      refine gG_locals ?_ h
      exact ⟨rfl, ⟨rfl, ⟨rfl, ⟨rfl, trivial⟩⟩⟩⟩
    · have h := h.2 c
      refine gG_aload_n dX12_readsLetter_132 rfl rfl ?_
      refine gG_iconst (v := 3) dX12_readsLetter_133 (by decide) ?_
      obtain ⟨hrc, d2, P2, hdd, hC, h⟩ := h
      refine gG_cvi (As := [.int ((3 : Int32))]) (st := []) dX12_readsLetter_134 mV_X12_211 hdd hrc rfl rfl (Nat.le_of_ble_eq_true rfl) (Nat.le_refl _) ⟨Nat.le_refl _, Nat.le_refl _⟩ hC (fun H13 x9 hp => ?_)
      obtain ⟨b14, rfl, hp⟩ := hp
      have h := h H13 b14 hp
      exact gG_exit ⟨rfl, rfl, rfl, dX12_readsLetter_137, b14, rfl, h⟩

theorem kX12_readsRain_0 {d n : Nat} {H : gHp} {P : gHp → Bool → Prop} {a0 : Nat} (h : g_gr H (a0) 12 10 (fun q1 => g_al 0 H (q1) ((5 : Int32)) (fun x2 => (x2 ≤ 0 → (∃ fs, H (a0) = .inr (12, fs)) ∧ g_cvd d mX12_nextToken n H [.ref (a0)] (fun H3 => gG d mX12_readsRain 0 0 (g_Xz mX12_readsRain n 0 0 P) 19 n H3 [some (.ref (a0))] [] (0) (0))) ∧ (¬ (x2 ≤ 0) → (∃ fs, H (a0) = .inr (12, fs)) ∧ g_cz d mX12_fails n H [.ref (a0), .int ((3 : Int32))] (fun H4 b5 => P H4 b5))))) : gG d mX12_readsRain 0 0 (g_Xz mX12_readsRain n 0 0 P) 0 n H [some (.ref (a0))] [] 0 0 := by
  refine gG_aload_n dX12_readsRain_0 rfl rfl ?_
  obtain ⟨fs, q1, e1, e2, h⟩ := h
  refine gG_gr dX12_readsRain_1 fl_X12_13 ⟨fs, q1, e1, e2, ?_⟩
  refine gG_iconst (v := 5) dX12_readsRain_4 (by decide) ?_
  obtain ⟨m0, f0, e1, e2, h⟩ := h
  refine gG_iald dX12_readsRain_5 ⟨m0, f0, e1, e2, ?_⟩
  obtain ⟨x2, eH⟩ : ∃ z, z = f0 (Int32.toNatClampNeg ((5 : Int32))) := ⟨_, rfl⟩
  rw [← eH] at h ⊢
  refine gG_if_le (tgt := 15) dX12_readsRain_6 (by decide) (fun c => ?_) (fun c => ?_)
  · have h := h.1 c
    refine gG_aload_n dX12_readsRain_15 rfl rfl ?_
    obtain ⟨hrc, d2, P2, hdd, hC, h⟩ := h
    refine gG_cvv (As := []) (st := []) dX12_readsRain_16 mV_X12_218 hdd hrc rfl rfl (Nat.le_of_ble_eq_true rfl) (Nat.le_refl _) ⟨Nat.le_refl _, Nat.le_refl _⟩ hC (fun H3 hp => ?_)
    have h := h H3 hp
    refine gG_locals ?_ h
    exact ⟨rfl, trivial⟩
  · have h := h.2 c
    refine gG_aload_n dX12_readsRain_9 rfl rfl ?_
    refine gG_iconst (v := 3) dX12_readsRain_10 (by decide) ?_
    obtain ⟨hrc, d2, P2, hdd, hC, h⟩ := h
    refine gG_cvi (As := [.int ((3 : Int32))]) (st := []) dX12_readsRain_11 mV_X12_211 hdd hrc rfl rfl (Nat.le_of_ble_eq_true rfl) (Nat.le_refl _) ⟨Nat.le_refl _, Nat.le_refl _⟩ hC (fun H4 x9 hp => ?_)
    obtain ⟨b5, rfl, hp⟩ := hp
    have h := h H4 b5 hp
    exact gG_exit ⟨rfl, rfl, rfl, dX12_readsRain_14, b5, rfl, h⟩
theorem kX12_readsRain_19 {d n : Nat} {H : gHp} {P : gHp → Bool → Prop} {a0 : Nat} (h : g_gr H (a0) 12 10 (fun q1 => g_al 0 H (q1) ((5 : Int32)) (fun x2 => (x2 = 0 → gG d mX12_readsRain 0 0 (g_Xz mX12_readsRain n 0 0 P) 36 n H [some (.ref (a0))] [] (0) (0)) ∧ (¬ (x2 = 0) → g_gi H (a0) 12 6 (fun x3 => (¬ (x3 = (2 : Int32)) → (∃ fs, H (a0) = .inr (12, fs)) ∧ g_cz d mX12_closes n H [.ref (a0)] (fun H4 b5 => P H4 b5)) ∧ (x3 = (2 : Int32) → gG d mX12_readsRain 0 0 (g_Xz mX12_readsRain n 0 0 P) 36 n H [some (.ref (a0))] [] (0) (0))))))) : gG d mX12_readsRain 0 0 (g_Xz mX12_readsRain n 0 0 P) 19 n H [some (.ref (a0))] [] 0 0 := by
  refine gG_aload_n dX12_readsRain_19 rfl rfl ?_
  obtain ⟨fs, q1, e1, e2, h⟩ := h
  refine gG_gr dX12_readsRain_20 fl_X12_13 ⟨fs, q1, e1, e2, ?_⟩
  refine gG_iconst (v := 5) dX12_readsRain_23 (by decide) ?_
  obtain ⟨m0, f0, e1, e2, h⟩ := h
  refine gG_iald dX12_readsRain_24 ⟨m0, f0, e1, e2, ?_⟩
  obtain ⟨x2, eH⟩ : ∃ z, z = f0 (Int32.toNatClampNeg ((5 : Int32))) := ⟨_, rfl⟩
  rw [← eH] at h ⊢
  refine gG_if_eq (tgt := 36) dX12_readsRain_25 (by decide) (fun c => ?_) (fun c => ?_)
  · have h := h.1 c
    refine gG_locals ?_ h
    exact ⟨rfl, trivial⟩
  · have h := h.2 c
    refine gG_aload_n dX12_readsRain_28 rfl rfl ?_
    obtain ⟨fs, x3, e1, e2, h⟩ := h
    refine gG_gi dX12_readsRain_29 fl_X12_172 ⟨fs, x3, e1, e2, ?_⟩
    refine gG_iconst (v := 2) dX12_readsRain_32 (by decide) ?_
    refine gG_ic_ne (tgt := 117) dX12_readsRain_33 (by decide) (fun c => ?_) (fun c => ?_)
    · have h := h.1 c
      refine gG_aload_n dX12_readsRain_117 rfl rfl ?_
      obtain ⟨hrc, d2, P2, hdd, hC, h⟩ := h
      refine gG_cvi (As := []) (st := []) dX12_readsRain_118 mV_X12_299 hdd hrc rfl rfl (Nat.le_of_ble_eq_true rfl) (Nat.le_refl _) ⟨Nat.le_refl _, Nat.le_refl _⟩ hC (fun H4 x9 hp => ?_)
      obtain ⟨b5, rfl, hp⟩ := hp
      have h := h H4 b5 hp
      exact gG_exit ⟨rfl, rfl, rfl, dX12_readsRain_121, b5, rfl, h⟩
    · have h := h.2 c
      refine gG_locals ?_ h
      exact ⟨rfl, trivial⟩
theorem kX12_readsRain_36 {d n : Nat} {H : gHp} {P : gHp → Bool → Prop} {a0 : Nat} (h : g_gi H (a0) 12 6 (fun x1 => (x1 = (2 : Int32) → g_gi H (a0) 12 8 (fun x2 => (x2 ≤ (9 : Int32) → g_gr H (a0) 12 10 (fun q3 => g_al 0 H (q3) ((5 : Int32)) (fun x4 => (¬ (x4 = (12 : Int32)) → g_gr H (a0) 12 19 (fun q5 => g_gr H (a0) 12 10 (fun q6 => g_al 0 H (q6) ((5 : Int32)) (fun x7 => g_gi H (a0) 12 8 (fun x8 => g_as 0 H (q5) (((12 : Int32) + x7)) (x8) (fun H9 => g_gr H9 (a0) 12 10 (fun q10 => g_al 0 H9 (q10) ((5 : Int32)) (fun x11 => g_as 0 H9 (q10) ((5 : Int32)) ((x11 + (1 : Int32))) (fun H12 => (∃ fs, H12 (a0) = .inr (12, fs)) ∧ g_cvd d mX12_nextToken n H12 [.ref (a0)] (fun H13 => gG d mX12_readsRain 0 0 (g_Xz mX12_readsRain n 0 0 P) 19 n H13 [some (.ref (a0))] [] (0) (0))))))))))) ∧ (x4 = (12 : Int32) → (∃ fs, H (a0) = .inr (12, fs)) ∧ g_cz d mX12_fails n H [.ref (a0), .int ((5 : Int32))] (fun H14 b15 => P H14 b15))))) ∧ (¬ (x2 ≤ (9 : Int32)) → (∃ fs, H (a0) = .inr (12, fs)) ∧ g_cz d mX12_fails n H [.ref (a0), .int ((4 : Int32))] (fun H16 b17 => P H16 b17)))) ∧ (¬ (x1 = (2 : Int32)) → (∃ fs, H (a0) = .inr (12, fs)) ∧ g_cz d mX12_fails n H [.ref (a0), .int ((1 : Int32))] (fun H18 b19 => P H18 b19)))) : gG d mX12_readsRain 0 0 (g_Xz mX12_readsRain n 0 0 P) 36 n H [some (.ref (a0))] [] 0 0 := by
  refine gG_aload_n dX12_readsRain_36 rfl rfl ?_
  obtain ⟨fs, x1, e1, e2, h⟩ := h
  refine gG_gi dX12_readsRain_37 fl_X12_172 ⟨fs, x1, e1, e2, ?_⟩
  refine gG_iconst (v := 2) dX12_readsRain_40 (by decide) ?_
  refine gG_ic_eq (tgt := 50) dX12_readsRain_41 (by decide) (fun c => ?_) (fun c => ?_)
  · have h := h.1 c
    refine gG_aload_n dX12_readsRain_50 rfl rfl ?_
    obtain ⟨fs, x2, e1, e2, h⟩ := h
    refine gG_gi dX12_readsRain_51 fl_X12_169 ⟨fs, x2, e1, e2, ?_⟩
    refine gG_bipush (v := 9) dX12_readsRain_54 (by decide) ?_
    refine gG_ic_le (tgt := 65) dX12_readsRain_56 (by decide) (fun c => ?_) (fun c => ?_)
    · have h := h.1 c
      refine gG_aload_n dX12_readsRain_65 rfl rfl ?_
      obtain ⟨fs, q3, e1, e2, h⟩ := h
      refine gG_gr dX12_readsRain_66 fl_X12_13 ⟨fs, q3, e1, e2, ?_⟩
      refine gG_iconst (v := 5) dX12_readsRain_69 (by decide) ?_
      obtain ⟨m0, f0, e1, e2, h⟩ := h
      refine gG_iald dX12_readsRain_70 ⟨m0, f0, e1, e2, ?_⟩
      obtain ⟨x4, eH⟩ : ∃ z, z = f0 (Int32.toNatClampNeg ((5 : Int32))) := ⟨_, rfl⟩
      rw [← eH] at h ⊢
      refine gG_bipush (v := 12) dX12_readsRain_71 (by decide) ?_
      refine gG_ic_ne (tgt := 82) dX12_readsRain_73 (by decide) (fun c => ?_) (fun c => ?_)
      · have h := h.1 c
        refine gG_aload_n dX12_readsRain_82 rfl rfl ?_
        obtain ⟨fs, q5, e1, e2, h⟩ := h
        refine gG_gr dX12_readsRain_83 fl_X12_41 ⟨fs, q5, e1, e2, ?_⟩
        refine gG_bipush (v := 12) dX12_readsRain_86 (by decide) ?_
        refine gG_aload_n dX12_readsRain_88 rfl rfl ?_
        obtain ⟨fs, q6, e1, e2, h⟩ := h
        refine gG_gr dX12_readsRain_89 fl_X12_13 ⟨fs, q6, e1, e2, ?_⟩
        refine gG_iconst (v := 5) dX12_readsRain_92 (by decide) ?_
        obtain ⟨m0, f0, e1, e2, h⟩ := h
        refine gG_iald dX12_readsRain_93 ⟨m0, f0, e1, e2, ?_⟩
        obtain ⟨x7, eH⟩ : ∃ z, z = f0 (Int32.toNatClampNeg ((5 : Int32))) := ⟨_, rfl⟩
        rw [← eH] at h ⊢
        refine gG_iadd dX12_readsRain_94 ?_
        refine gG_aload_n dX12_readsRain_95 rfl rfl ?_
        obtain ⟨fs, x8, e1, e2, h⟩ := h
        refine gG_gi dX12_readsRain_96 fl_X12_169 ⟨fs, x8, e1, e2, ?_⟩
        obtain ⟨m0, f0, e1, e2, h⟩ := h
        refine gG_iast dX12_readsRain_99 ⟨m0, f0, e1, e2, ?_⟩
        obtain ⟨H9, eH⟩ : ∃ z, z = va_up H (q5) (.inl (0, m0, .inl (upd f0 (Int32.toNatClampNeg (((12 : Int32) + x7))) (x8)))) := ⟨_, rfl⟩
        rw [← eH] at h ⊢
        refine gG_aload_n dX12_readsRain_100 rfl rfl ?_
        obtain ⟨fs, q10, e1, e2, h⟩ := h
        refine gG_gr dX12_readsRain_101 fl_X12_13 ⟨fs, q10, e1, e2, ?_⟩
        refine gG_iconst (v := 5) dX12_readsRain_104 (by decide) ?_
        refine gG_dup2 dX12_readsRain_105 rfl rfl ?_
        obtain ⟨m0, f0, e1, e2, h⟩ := h
        refine gG_iald dX12_readsRain_106 ⟨m0, f0, e1, e2, ?_⟩
        obtain ⟨x11, eH⟩ : ∃ z, z = f0 (Int32.toNatClampNeg ((5 : Int32))) := ⟨_, rfl⟩
        rw [← eH] at h ⊢
        refine gG_iconst (v := 1) dX12_readsRain_107 (by decide) ?_
        refine gG_iadd dX12_readsRain_108 ?_
        obtain ⟨m0, f0, e1, e2, h⟩ := h
        refine gG_iast dX12_readsRain_109 ⟨m0, f0, e1, e2, ?_⟩
        obtain ⟨H12, eH⟩ : ∃ z, z = va_up H9 (q10) (.inl (0, m0, .inl (upd f0 (Int32.toNatClampNeg ((5 : Int32))) ((x11 + (1 : Int32)))))) := ⟨_, rfl⟩
        rw [← eH] at h ⊢
        refine gG_aload_n dX12_readsRain_110 rfl rfl ?_
        obtain ⟨hrc, d2, P2, hdd, hC, h⟩ := h
        refine gG_cvv (As := []) (st := []) dX12_readsRain_111 mV_X12_218 hdd hrc rfl rfl (Nat.le_of_ble_eq_true rfl) (Nat.le_refl _) ⟨Nat.le_refl _, Nat.le_refl _⟩ hC (fun H13 hp => ?_)
        have h := h H13 hp
        refine gG_goto (tgt := 19) dX12_readsRain_114 (by decide) ?_
        refine gG_locals ?_ h
        exact ⟨rfl, trivial⟩
      · have h := h.2 c
        refine gG_aload_n dX12_readsRain_76 rfl rfl ?_
        refine gG_iconst (v := 5) dX12_readsRain_77 (by decide) ?_
        obtain ⟨hrc, d2, P2, hdd, hC, h⟩ := h
        refine gG_cvi (As := [.int ((5 : Int32))]) (st := []) dX12_readsRain_78 mV_X12_211 hdd hrc rfl rfl (Nat.le_of_ble_eq_true rfl) (Nat.le_refl _) ⟨Nat.le_refl _, Nat.le_refl _⟩ hC (fun H14 x9 hp => ?_)
        obtain ⟨b15, rfl, hp⟩ := hp
        have h := h H14 b15 hp
        exact gG_exit ⟨rfl, rfl, rfl, dX12_readsRain_81, b15, rfl, h⟩
    · have h := h.2 c
      refine gG_aload_n dX12_readsRain_59 rfl rfl ?_
      refine gG_iconst (v := 4) dX12_readsRain_60 (by decide) ?_
      obtain ⟨hrc, d2, P2, hdd, hC, h⟩ := h
      refine gG_cvi (As := [.int ((4 : Int32))]) (st := []) dX12_readsRain_61 mV_X12_211 hdd hrc rfl rfl (Nat.le_of_ble_eq_true rfl) (Nat.le_refl _) ⟨Nat.le_refl _, Nat.le_refl _⟩ hC (fun H16 x9 hp => ?_)
      obtain ⟨b17, rfl, hp⟩ := hp
      have h := h H16 b17 hp
      exact gG_exit ⟨rfl, rfl, rfl, dX12_readsRain_64, b17, rfl, h⟩
  · have h := h.2 c
    refine gG_aload_n dX12_readsRain_44 rfl rfl ?_
    refine gG_iconst (v := 1) dX12_readsRain_45 (by decide) ?_
    obtain ⟨hrc, d2, P2, hdd, hC, h⟩ := h
    refine gG_cvi (As := [.int ((1 : Int32))]) (st := []) dX12_readsRain_46 mV_X12_211 hdd hrc rfl rfl (Nat.le_of_ble_eq_true rfl) (Nat.le_refl _) ⟨Nat.le_refl _, Nat.le_refl _⟩ hC (fun H18 x9 hp => ?_)
    obtain ⟨b19, rfl, hp⟩ := hp
    have h := h H18 b19 hp
    exact gG_exit ⟨rfl, rfl, rfl, dX12_readsRain_49, b19, rfl, h⟩

theorem kX12_readsSounds_0 {d n : Nat} {H : gHp} {P : gHp → Bool → Prop} {a0 : Nat} (h : g_gr H (a0) 12 21 (fun q1 => g_al 0 H (q1) ((1 : Int32)) (fun x2 => g_gr H (a0) 12 20 (fun q3 => g_al 0 H (q3) ((1 : Int32)) (fun x4 => (x2 ≤ x4 → (∃ fs, H (a0) = .inr (12, fs)) ∧ g_cvd d mX12_nextToken n H [.ref (a0)] (fun H5 => g_gr H5 (a0) 12 20 (fun q6 => g_gi H5 (a0) 12 23 (fun x7 => g_as 0 H5 (q6) ((1 : Int32)) (x7) (fun H8 => (∃ fs, H8 (a0) = .inr (12, fs)) ∧ g_cz d mX12_readsLaw n H8 [.ref (a0)] (fun H9 b10 => (b10 = true → g_gr H9 (a0) 12 21 (fun q11 => g_gi H9 (a0) 12 23 (fun x12 => g_as 0 H9 (q11) ((1 : Int32)) (x12) (fun H13 => P H13 true)))) ∧ (b10 = false → P H9 false))))))) ∧ (¬ (x2 ≤ x4) → (∃ fs, H (a0) = .inr (12, fs)) ∧ g_cz d mX12_fails n H [.ref (a0), .int ((3 : Int32))] (fun H14 b15 => P H14 b15))))))) : gG d mX12_readsSounds 0 0 (g_Xz mX12_readsSounds n 0 0 P) 0 n H [some (.ref (a0))] [] 0 0 := by
  refine gG_aload_n dX12_readsSounds_0 rfl rfl ?_
  obtain ⟨fs, q1, e1, e2, h⟩ := h
  refine gG_gr dX12_readsSounds_1 fl_X12_47 ⟨fs, q1, e1, e2, ?_⟩
  refine gG_iconst (v := 1) dX12_readsSounds_4 (by decide) ?_
  obtain ⟨m0, f0, e1, e2, h⟩ := h
  refine gG_iald dX12_readsSounds_5 ⟨m0, f0, e1, e2, ?_⟩
  obtain ⟨x2, eH⟩ : ∃ z, z = f0 (Int32.toNatClampNeg ((1 : Int32))) := ⟨_, rfl⟩
  rw [← eH] at h ⊢
  refine gG_aload_n dX12_readsSounds_6 rfl rfl ?_
  obtain ⟨fs, q3, e1, e2, h⟩ := h
  refine gG_gr dX12_readsSounds_7 fl_X12_44 ⟨fs, q3, e1, e2, ?_⟩
  refine gG_iconst (v := 1) dX12_readsSounds_10 (by decide) ?_
  obtain ⟨m0, f0, e1, e2, h⟩ := h
  refine gG_iald dX12_readsSounds_11 ⟨m0, f0, e1, e2, ?_⟩
  obtain ⟨x4, eH⟩ : ∃ z, z = f0 (Int32.toNatClampNeg ((1 : Int32))) := ⟨_, rfl⟩
  rw [← eH] at h ⊢
  refine gG_ic_le (tgt := 21) dX12_readsSounds_12 (by decide) (fun c => ?_) (fun c => ?_)
  · have h := h.1 c
    refine gG_aload_n dX12_readsSounds_21 rfl rfl ?_
    obtain ⟨hrc, d2, P2, hdd, hC, h⟩ := h
    refine gG_cvv (As := []) (st := []) dX12_readsSounds_22 mV_X12_218 hdd hrc rfl rfl (Nat.le_of_ble_eq_true rfl) (Nat.le_refl _) ⟨Nat.le_refl _, Nat.le_refl _⟩ hC (fun H5 hp => ?_)
    have h := h H5 hp
    refine gG_aload_n dX12_readsSounds_25 rfl rfl ?_
    obtain ⟨fs, q6, e1, e2, h⟩ := h
    refine gG_gr dX12_readsSounds_26 fl_X12_44 ⟨fs, q6, e1, e2, ?_⟩
    refine gG_iconst (v := 1) dX12_readsSounds_29 (by decide) ?_
    refine gG_aload_n dX12_readsSounds_30 rfl rfl ?_
    obtain ⟨fs, x7, e1, e2, h⟩ := h
    refine gG_gi dX12_readsSounds_31 fl_X12_186 ⟨fs, x7, e1, e2, ?_⟩
    obtain ⟨m0, f0, e1, e2, h⟩ := h
    refine gG_iast dX12_readsSounds_34 ⟨m0, f0, e1, e2, ?_⟩
    obtain ⟨H8, eH⟩ : ∃ z, z = va_up H5 (q6) (.inl (0, m0, .inl (upd f0 (Int32.toNatClampNeg ((1 : Int32))) (x7)))) := ⟨_, rfl⟩
    rw [← eH] at h ⊢
    refine gG_aload_n dX12_readsSounds_35 rfl rfl ?_
    obtain ⟨hrc, d2, P2, hdd, hC, h⟩ := h
    refine gG_cvi (As := []) (st := []) dX12_readsSounds_36 mV_X12_305 hdd hrc rfl rfl (Nat.le_of_ble_eq_true rfl) (Nat.le_refl _) ⟨Nat.le_refl _, Nat.le_refl _⟩ hC (fun H9 x9 hp => ?_)
    obtain ⟨b10, rfl, hp⟩ := hp
    have h := h H9 b10 hp
    refine gG_if_ne (tgt := 44) dX12_readsSounds_39 (by decide) (fun c => ?_) (fun c => ?_)
    · have h := h.1 (g_b_t c)
      refine gG_aload_n dX12_readsSounds_44 rfl rfl ?_
      obtain ⟨fs, q11, e1, e2, h⟩ := h
      refine gG_gr dX12_readsSounds_45 fl_X12_47 ⟨fs, q11, e1, e2, ?_⟩
      refine gG_iconst (v := 1) dX12_readsSounds_48 (by decide) ?_
      refine gG_aload_n dX12_readsSounds_49 rfl rfl ?_
      obtain ⟨fs, x12, e1, e2, h⟩ := h
      refine gG_gi dX12_readsSounds_50 fl_X12_186 ⟨fs, x12, e1, e2, ?_⟩
      obtain ⟨m0, f0, e1, e2, h⟩ := h
      refine gG_iast dX12_readsSounds_53 ⟨m0, f0, e1, e2, ?_⟩
      obtain ⟨H13, eH⟩ : ∃ z, z = va_up H9 (q11) (.inl (0, m0, .inl (upd f0 (Int32.toNatClampNeg ((1 : Int32))) (x12)))) := ⟨_, rfl⟩
      rw [← eH] at h ⊢
      refine gG_iconst (v := 1) dX12_readsSounds_54 (by decide) ?_
      exact gG_exit ⟨rfl, rfl, rfl, dX12_readsSounds_55, true, rfl, h⟩
    · have h := h.2 (g_b_f c)
      refine gG_iconst (v := 0) dX12_readsSounds_42 (by decide) ?_
      exact gG_exit ⟨rfl, rfl, rfl, dX12_readsSounds_43, false, rfl, h⟩
  · have h := h.2 c
    refine gG_aload_n dX12_readsSounds_15 rfl rfl ?_
    refine gG_iconst (v := 3) dX12_readsSounds_16 (by decide) ?_
    obtain ⟨hrc, d2, P2, hdd, hC, h⟩ := h
    refine gG_cvi (As := [.int ((3 : Int32))]) (st := []) dX12_readsSounds_17 mV_X12_211 hdd hrc rfl rfl (Nat.le_of_ble_eq_true rfl) (Nat.le_refl _) ⟨Nat.le_refl _, Nat.le_refl _⟩ hC (fun H14 x9 hp => ?_)
    obtain ⟨b15, rfl, hp⟩ := hp
    have h := h H14 b15 hp
    exact gG_exit ⟨rfl, rfl, rfl, dX12_readsSounds_20, b15, rfl, h⟩

theorem kX12_begins_0 {d n : Nat} {H : gHp} {P : gHp → Prop} {a0 : Nat} (h : g_gi H (a0) 12 1 (fun x1 => g_pf H (a0) 12 3 (.int (x1)) (fun H2 => g_pf H2 (a0) 12 1 (.int ((0 : Int32))) (fun H3 => g_pf H3 (a0) 12 4 (.int ((0 : Int32))) (fun H4 => (∃ fs, H4 (a0) = .inr (12, fs)) ∧ g_cvd d mX12_nextToken n H4 [.ref (a0)] (fun H5 => P H5)))))) : gG d mX12_begins 0 0 (g_Xv mX12_begins n 0 0 P) 0 n H [some (.ref (a0))] [] 0 0 := by
  refine gG_aload_n dX12_begins_0 rfl rfl ?_
  refine gG_aload_n dX12_begins_1 rfl rfl ?_
  obtain ⟨fs, x1, e1, e2, h⟩ := h
  refine gG_gi dX12_begins_2 fl_X12_153 ⟨fs, x1, e1, e2, ?_⟩
  obtain ⟨fs, e1, e2, h⟩ := h
  refine gG_pi dX12_begins_5 fl_X12_156 ⟨fs, e1, e2, ?_⟩
  obtain ⟨H2, eH⟩ : ∃ z, z = va_up H (a0) (.inr (12, fs.set 3 (.int (x1)))) := ⟨_, rfl⟩
  rw [← eH] at h ⊢
  refine gG_aload_n dX12_begins_8 rfl rfl ?_
  refine gG_iconst (v := 0) dX12_begins_9 (by decide) ?_
  obtain ⟨fs, e1, e2, h⟩ := h
  refine gG_pi dX12_begins_10 fl_X12_153 ⟨fs, e1, e2, ?_⟩
  obtain ⟨H3, eH⟩ : ∃ z, z = va_up H2 (a0) (.inr (12, fs.set 1 (.int ((0 : Int32))))) := ⟨_, rfl⟩
  rw [← eH] at h ⊢
  refine gG_aload_n dX12_begins_13 rfl rfl ?_
  refine gG_iconst (v := 0) dX12_begins_14 (by decide) ?_
  obtain ⟨fs, e1, e2, h⟩ := h
  refine gG_pi dX12_begins_15 fl_X12_159 ⟨fs, e1, e2, ?_⟩
  obtain ⟨H4, eH⟩ : ∃ z, z = va_up H3 (a0) (.inr (12, fs.set 4 (.int ((0 : Int32))))) := ⟨_, rfl⟩
  rw [← eH] at h ⊢
  refine gG_aload_n dX12_begins_18 rfl rfl ?_
  obtain ⟨hrc, d2, P2, hdd, hC, h⟩ := h
  refine gG_cvv (As := []) (st := []) dX12_begins_19 mV_X12_218 hdd hrc rfl rfl (Nat.le_of_ble_eq_true rfl) (Nat.le_refl _) ⟨Nat.le_refl _, Nat.le_refl _⟩ hC (fun H5 hp => ?_)
  have h := h H5 hp
  exact gG_exit ⟨rfl, rfl, rfl, dX12_begins_22, rfl, h⟩

theorem kX12_readsAll_0 {d n : Nat} {H : gHp} {P : gHp → Bool → Prop} {a0 : Nat} (h : gG d mX12_readsAll 0 0 (g_Xz mX12_readsAll n 0 0 P) 2 n H [some (.ref (a0)), some (.int ((0 : Int32)))] [] (0) (0)) : gG d mX12_readsAll 0 0 (g_Xz mX12_readsAll n 0 0 P) 0 n H [some (.ref (a0)), none] [] 0 0 := by
  refine gG_iconst (v := 0) dX12_readsAll_0 (by decide) ?_
  refine gG_istore_n dX12_readsAll_1 rfl (Nat.le_of_ble_eq_true rfl) ?_
  refine gG_locals ?_ h
  exact ⟨rfl, ⟨rfl, trivial⟩⟩
theorem kX12_readsAll_2 {d n : Nat} {H : gHp} {P : gHp → Bool → Prop} {a0 : Nat} {i1 : Int32} (h : ((3 : Int32) ≤ i1 → g_gr H (a0) 12 20 (fun q1 => g_as 0 H (q1) ((1 : Int32)) ((1000 : Int32)) (fun H2 => g_gr H2 (a0) 12 21 (fun q3 => g_as 0 H2 (q3) ((1 : Int32)) ((1000 : Int32)) (fun H4 => g_pf H4 (a0) 12 23 (.int ((1000 : Int32))) (fun H5 => (∃ fs, H5 (a0) = .inr (12, fs)) ∧ g_cvd d mX12_begins n H5 [.ref (a0)] (fun H6 => gG d mX12_readsAll 0 0 (g_Xz mX12_readsAll n 0 0 P) 51 n H6 [some (.ref (a0)), none] [] (0) (0)))))))) ∧ (¬ ((3 : Int32) ≤ i1) → g_gr H (a0) 12 10 (fun q7 => g_as 0 H (q7) (((3 : Int32) + i1)) ((0 : Int32)) (fun H8 => gG d mX12_readsAll 0 0 (g_Xz mX12_readsAll n 0 0 P) 2 n H8 [some (.ref (a0)), some (.int ((i1 + 1)))] [] (0) (0))))) : gG d mX12_readsAll 0 0 (g_Xz mX12_readsAll n 0 0 P) 2 n H [some (.ref (a0)), some (.int (i1))] [] 0 0 := by
  refine gG_iload_n dX12_readsAll_2 rfl rfl ?_
  refine gG_iconst (v := 3) dX12_readsAll_3 (by decide) ?_
  refine gG_ic_ge (tgt := 22) dX12_readsAll_4 (by decide) (fun c => ?_) (fun c => ?_)
  · have h := h.1 c
    refine gG_aload_n dX12_readsAll_22 rfl rfl ?_
    obtain ⟨fs, q1, e1, e2, h⟩ := h
    refine gG_gr dX12_readsAll_23 fl_X12_44 ⟨fs, q1, e1, e2, ?_⟩
    refine gG_iconst (v := 1) dX12_readsAll_26 (by decide) ?_
    refine gG_sipush (v := 1000) dX12_readsAll_27 (by decide) ?_
    obtain ⟨m0, f0, e1, e2, h⟩ := h
    refine gG_iast dX12_readsAll_30 ⟨m0, f0, e1, e2, ?_⟩
    obtain ⟨H2, eH⟩ : ∃ z, z = va_up H (q1) (.inl (0, m0, .inl (upd f0 (Int32.toNatClampNeg ((1 : Int32))) ((1000 : Int32))))) := ⟨_, rfl⟩
    rw [← eH] at h ⊢
    refine gG_aload_n dX12_readsAll_31 rfl rfl ?_
    obtain ⟨fs, q3, e1, e2, h⟩ := h
    refine gG_gr dX12_readsAll_32 fl_X12_47 ⟨fs, q3, e1, e2, ?_⟩
    refine gG_iconst (v := 1) dX12_readsAll_35 (by decide) ?_
    refine gG_sipush (v := 1000) dX12_readsAll_36 (by decide) ?_
    obtain ⟨m0, f0, e1, e2, h⟩ := h
    refine gG_iast dX12_readsAll_39 ⟨m0, f0, e1, e2, ?_⟩
    obtain ⟨H4, eH⟩ : ∃ z, z = va_up H2 (q3) (.inl (0, m0, .inl (upd f0 (Int32.toNatClampNeg ((1 : Int32))) ((1000 : Int32))))) := ⟨_, rfl⟩
    rw [← eH] at h ⊢
    refine gG_aload_n dX12_readsAll_40 rfl rfl ?_
    refine gG_sipush (v := 1000) dX12_readsAll_41 (by decide) ?_
    obtain ⟨fs, e1, e2, h⟩ := h
    refine gG_pi dX12_readsAll_44 fl_X12_186 ⟨fs, e1, e2, ?_⟩
    obtain ⟨H5, eH⟩ : ∃ z, z = va_up H4 (a0) (.inr (12, fs.set 23 (.int ((1000 : Int32))))) := ⟨_, rfl⟩
    rw [← eH] at h ⊢
    refine gG_aload_n dX12_readsAll_47 rfl rfl ?_
    obtain ⟨hrc, d2, P2, hdd, hC, h⟩ := h
    refine gG_cvv (As := []) (st := []) dX12_readsAll_48 mV_X12_308 hdd hrc rfl rfl (Nat.le_of_ble_eq_true rfl) (Nat.le_refl _) ⟨Nat.le_refl _, Nat.le_refl _⟩ hC (fun H6 hp => ?_)
    have h := h H6 hp
    refine gG_locals ?_ h
    exact ⟨rfl, trivial⟩
  · have h := h.2 c
    refine gG_aload_n dX12_readsAll_7 rfl rfl ?_
    obtain ⟨fs, q7, e1, e2, h⟩ := h
    refine gG_gr dX12_readsAll_8 fl_X12_13 ⟨fs, q7, e1, e2, ?_⟩
    refine gG_iconst (v := 3) dX12_readsAll_11 (by decide) ?_
    refine gG_iload_n dX12_readsAll_12 rfl rfl ?_
    refine gG_iadd dX12_readsAll_13 ?_
    refine gG_iconst (v := 0) dX12_readsAll_14 (by decide) ?_
    obtain ⟨m0, f0, e1, e2, h⟩ := h
    refine gG_iast dX12_readsAll_15 ⟨m0, f0, e1, e2, ?_⟩
    obtain ⟨H8, eH⟩ : ∃ z, z = va_up H (q7) (.inl (0, m0, .inl (upd f0 (Int32.toNatClampNeg (((3 : Int32) + i1))) ((0 : Int32))))) := ⟨_, rfl⟩
    rw [← eH] at h ⊢
    refine gG_iinc (v := i1 + 1) dX12_readsAll_16 rfl rfl (Nat.le_of_ble_eq_true rfl) ?_
    refine gG_goto (tgt := 2) dX12_readsAll_19 (by decide) ?_
    refine gG_locals ?_ h
    exact ⟨rfl, ⟨rfl, trivial⟩⟩
theorem kX12_readsAll_51 {d n : Nat} {H : gHp} {P : gHp → Bool → Prop} {a0 : Nat} (h : g_gi H (a0) 12 6 (fun x1 => (x1 = 0 → P H true) ∧ (¬ (x1 = 0) → (∃ fs, H (a0) = .inr (12, fs)) ∧ g_cz d mX12_isWord n H [.ref (a0), .long ((7219835 : Int64))] (fun H2 b3 => (b3 = false → (∃ fs, H2 (a0) = .inr (12, fs)) ∧ g_cz d mX12_isWord n H2 [.ref (a0), .long ((112011003 : Int64))] (fun H4 b5 => (b5 = false → (∃ fs, H4 (a0) = .inr (12, fs)) ∧ g_cz d mX12_isWord n H4 [.ref (a0), .long ((175252482 : Int64))] (fun H6 b7 => (b7 = false → (∃ fs, H6 (a0) = .inr (12, fs)) ∧ g_cz d mX12_isWord n H6 [.ref (a0), .long ((355280 : Int64))] (fun H8 b9 => (b9 = false → (∃ fs, H8 (a0) = .inr (12, fs)) ∧ g_cz d mX12_isWord n H8 [.ref (a0), .long ((281024524 : Int64))] (fun H10 b11 => (b11 = false → (∃ fs, H10 (a0) = .inr (12, fs)) ∧ g_cz d mX12_fails n H10 [.ref (a0), .int ((1 : Int32))] (fun H12 b13 => (b13 = true → gG d mX12_readsAll 0 0 (g_Xz mX12_readsAll n 0 0 P) 51 n H12 [some (.ref (a0)), none] [] (0) (0)) ∧ (b13 = false → P H12 false))) ∧ (b11 = true → (∃ fs, H10 (a0) = .inr (12, fs)) ∧ g_cz d mX12_readsSounds n H10 [.ref (a0)] (fun H14 b15 => (b15 = true → gG d mX12_readsAll 0 0 (g_Xz mX12_readsAll n 0 0 P) 51 n H14 [some (.ref (a0)), none] [] (0) (0)) ∧ (b15 = false → P H14 false))))) ∧ (b9 = true → (∃ fs, H8 (a0) = .inr (12, fs)) ∧ g_cz d mX12_readsRain n H8 [.ref (a0)] (fun H16 b17 => (b17 = true → gG d mX12_readsAll 0 0 (g_Xz mX12_readsAll n 0 0 P) 51 n H16 [some (.ref (a0)), none] [] (0) (0)) ∧ (b17 = false → P H16 false))))) ∧ (b7 = true → (∃ fs, H6 (a0) = .inr (12, fs)) ∧ g_cz d mX12_readsLetter n H6 [.ref (a0)] (fun H18 b19 => (b19 = true → gG d mX12_readsAll 0 0 (g_Xz mX12_readsAll n 0 0 P) 51 n H18 [some (.ref (a0)), none] [] (0) (0)) ∧ (b19 = false → P H18 false))))) ∧ (b5 = true → (∃ fs, H4 (a0) = .inr (12, fs)) ∧ g_cz d mX12_readsGutter n H4 [.ref (a0)] (fun H20 b21 => (b21 = true → gG d mX12_readsAll 0 0 (g_Xz mX12_readsAll n 0 0 P) 51 n H20 [some (.ref (a0)), none] [] (0) (0)) ∧ (b21 = false → P H20 false))))) ∧ (b3 = true → (∃ fs, H2 (a0) = .inr (12, fs)) ∧ g_cz d mX12_readsMouth n H2 [.ref (a0)] (fun H22 b23 => (b23 = true → gG d mX12_readsAll 0 0 (g_Xz mX12_readsAll n 0 0 P) 51 n H22 [some (.ref (a0)), none] [] (0) (0)) ∧ (b23 = false → P H22 false))))))) : gG d mX12_readsAll 0 0 (g_Xz mX12_readsAll n 0 0 P) 51 n H [some (.ref (a0)), none] [] 0 0 := by
  refine gG_aload_n dX12_readsAll_51 rfl rfl ?_
  obtain ⟨fs, x1, e1, e2, h⟩ := h
  refine gG_gi dX12_readsAll_52 fl_X12_172 ⟨fs, x1, e1, e2, ?_⟩
  refine gG_if_eq (tgt := 158) dX12_readsAll_55 (by decide) (fun c => ?_) (fun c => ?_)
  · have h := h.1 c
    refine gG_iconst (v := 1) dX12_readsAll_158 (by decide) ?_
    exact gG_exit ⟨rfl, rfl, rfl, dX12_readsAll_159, true, rfl, h⟩
  · have h := h.2 c
    refine gG_aload_n dX12_readsAll_58 rfl rfl ?_
    refine gG_ldc2 dX12_readsAll_59 cl_X12_234 ?_
    obtain ⟨hrc, d2, P2, hdd, hC, h⟩ := h
    refine gG_cvi (As := [.long ((7219835 : Int64))]) (st := []) dX12_readsAll_62 mV_X12_203 hdd hrc rfl rfl (Nat.le_of_ble_eq_true rfl) (Nat.le_refl _) ⟨Nat.le_refl _, Nat.le_refl _⟩ hC (fun H2 x9 hp => ?_)
    obtain ⟨b3, rfl, hp⟩ := hp
    have h := h H2 b3 hp
    refine gG_if_eq (tgt := 75) dX12_readsAll_65 (by decide) (fun c => ?_) (fun c => ?_)
    · have h := h.1 (g_b_f c)
      refine gG_aload_n dX12_readsAll_75 rfl rfl ?_
      refine gG_ldc2 dX12_readsAll_76 cl_X12_242 ?_
      obtain ⟨hrc, d2, P2, hdd, hC, h⟩ := h
      refine gG_cvi (As := [.long ((112011003 : Int64))]) (st := []) dX12_readsAll_79 mV_X12_203 hdd hrc rfl rfl (Nat.le_of_ble_eq_true rfl) (Nat.le_refl _) ⟨Nat.le_refl _, Nat.le_refl _⟩ hC (fun H4 x9 hp => ?_)
      obtain ⟨b5, rfl, hp⟩ := hp
      have h := h H4 b5 hp
      refine gG_if_eq (tgt := 92) dX12_readsAll_82 (by decide) (fun c => ?_) (fun c => ?_)
      · have h := h.1 (g_b_f c)
        refine gG_aload_n dX12_readsAll_92 rfl rfl ?_
        refine gG_ldc2 dX12_readsAll_93 cl_X12_244 ?_
        obtain ⟨hrc, d2, P2, hdd, hC, h⟩ := h
        refine gG_cvi (As := [.long ((175252482 : Int64))]) (st := []) dX12_readsAll_96 mV_X12_203 hdd hrc rfl rfl (Nat.le_of_ble_eq_true rfl) (Nat.le_refl _) ⟨Nat.le_refl _, Nat.le_refl _⟩ hC (fun H6 x9 hp => ?_)
        obtain ⟨b7, rfl, hp⟩ := hp
        have h := h H6 b7 hp
        refine gG_if_eq (tgt := 109) dX12_readsAll_99 (by decide) (fun c => ?_) (fun c => ?_)
        · have h := h.1 (g_b_f c)
          refine gG_aload_n dX12_readsAll_109 rfl rfl ?_
          refine gG_ldc2 dX12_readsAll_110 cl_X12_248 ?_
          obtain ⟨hrc, d2, P2, hdd, hC, h⟩ := h
          refine gG_cvi (As := [.long ((355280 : Int64))]) (st := []) dX12_readsAll_113 mV_X12_203 hdd hrc rfl rfl (Nat.le_of_ble_eq_true rfl) (Nat.le_refl _) ⟨Nat.le_refl _, Nat.le_refl _⟩ hC (fun H8 x9 hp => ?_)
          obtain ⟨b9, rfl, hp⟩ := hp
          have h := h H8 b9 hp
          refine gG_if_eq (tgt := 126) dX12_readsAll_116 (by decide) (fun c => ?_) (fun c => ?_)
          · have h := h.1 (g_b_f c)
            refine gG_aload_n dX12_readsAll_126 rfl rfl ?_
            refine gG_ldc2 dX12_readsAll_127 cl_X12_250 ?_
            obtain ⟨hrc, d2, P2, hdd, hC, h⟩ := h
            refine gG_cvi (As := [.long ((281024524 : Int64))]) (st := []) dX12_readsAll_130 mV_X12_203 hdd hrc rfl rfl (Nat.le_of_ble_eq_true rfl) (Nat.le_refl _) ⟨Nat.le_refl _, Nat.le_refl _⟩ hC (fun H10 x9 hp => ?_)
            obtain ⟨b11, rfl, hp⟩ := hp
            have h := h H10 b11 hp
            refine gG_if_eq (tgt := 143) dX12_readsAll_133 (by decide) (fun c => ?_) (fun c => ?_)
            · have h := h.1 (g_b_f c)
              refine gG_aload_n dX12_readsAll_143 rfl rfl ?_
              refine gG_iconst (v := 1) dX12_readsAll_144 (by decide) ?_
              obtain ⟨hrc, d2, P2, hdd, hC, h⟩ := h
              refine gG_cvi (As := [.int ((1 : Int32))]) (st := []) dX12_readsAll_145 mV_X12_211 hdd hrc rfl rfl (Nat.le_of_ble_eq_true rfl) (Nat.le_refl _) ⟨Nat.le_refl _, Nat.le_refl _⟩ hC (fun H12 x9 hp => ?_)
              obtain ⟨b13, rfl, hp⟩ := hp
              have h := h H12 b13 hp
              refine gG_istore_n dX12_readsAll_148 rfl (Nat.le_of_ble_eq_true rfl) ?_
              refine gG_iload_n dX12_readsAll_149 rfl rfl ?_
              refine gG_if_ne (tgt := 155) dX12_readsAll_150 (by decide) (fun c => ?_) (fun c => ?_)
              · have h := h.1 (g_b_t c)
                refine gG_goto (tgt := 51) dX12_readsAll_155 (by decide) ?_
                refine gG_locals ?_ h
                exact ⟨rfl, trivial⟩
              · have h := h.2 (g_b_f c)
                refine gG_iconst (v := 0) dX12_readsAll_153 (by decide) ?_
                exact gG_exit ⟨rfl, rfl, rfl, dX12_readsAll_154, false, rfl, h⟩
            · have h := h.2 (g_b_t c)
              refine gG_aload_n dX12_readsAll_136 rfl rfl ?_
              obtain ⟨hrc, d2, P2, hdd, hC, h⟩ := h
              refine gG_cvi (As := []) (st := []) dX12_readsAll_137 mV_X12_323 hdd hrc rfl rfl (Nat.le_of_ble_eq_true rfl) (Nat.le_refl _) ⟨Nat.le_refl _, Nat.le_refl _⟩ hC (fun H14 x9 hp => ?_)
              obtain ⟨b15, rfl, hp⟩ := hp
              have h := h H14 b15 hp
              refine gG_goto (tgt := 148) dX12_readsAll_140 (by decide) ?_
              refine gG_istore_n dX12_readsAll_148 rfl (Nat.le_of_ble_eq_true rfl) ?_
              refine gG_iload_n dX12_readsAll_149 rfl rfl ?_
              refine gG_if_ne (tgt := 155) dX12_readsAll_150 (by decide) (fun c => ?_) (fun c => ?_)
              · have h := h.1 (g_b_t c)
                refine gG_goto (tgt := 51) dX12_readsAll_155 (by decide) ?_
                refine gG_locals ?_ h
                exact ⟨rfl, trivial⟩
              · have h := h.2 (g_b_f c)
                refine gG_iconst (v := 0) dX12_readsAll_153 (by decide) ?_
                exact gG_exit ⟨rfl, rfl, rfl, dX12_readsAll_154, false, rfl, h⟩
          · have h := h.2 (g_b_t c)
            refine gG_aload_n dX12_readsAll_119 rfl rfl ?_
            obtain ⟨hrc, d2, P2, hdd, hC, h⟩ := h
            refine gG_cvi (As := []) (st := []) dX12_readsAll_120 mV_X12_320 hdd hrc rfl rfl (Nat.le_of_ble_eq_true rfl) (Nat.le_refl _) ⟨Nat.le_refl _, Nat.le_refl _⟩ hC (fun H16 x9 hp => ?_)
            obtain ⟨b17, rfl, hp⟩ := hp
            have h := h H16 b17 hp
            refine gG_goto (tgt := 148) dX12_readsAll_123 (by decide) ?_
            refine gG_istore_n dX12_readsAll_148 rfl (Nat.le_of_ble_eq_true rfl) ?_
            refine gG_iload_n dX12_readsAll_149 rfl rfl ?_
            refine gG_if_ne (tgt := 155) dX12_readsAll_150 (by decide) (fun c => ?_) (fun c => ?_)
            · have h := h.1 (g_b_t c)
              refine gG_goto (tgt := 51) dX12_readsAll_155 (by decide) ?_
              refine gG_locals ?_ h
              exact ⟨rfl, trivial⟩
            · have h := h.2 (g_b_f c)
              refine gG_iconst (v := 0) dX12_readsAll_153 (by decide) ?_
              exact gG_exit ⟨rfl, rfl, rfl, dX12_readsAll_154, false, rfl, h⟩
        · have h := h.2 (g_b_t c)
          refine gG_aload_n dX12_readsAll_102 rfl rfl ?_
          obtain ⟨hrc, d2, P2, hdd, hC, h⟩ := h
          refine gG_cvi (As := []) (st := []) dX12_readsAll_103 mV_X12_317 hdd hrc rfl rfl (Nat.le_of_ble_eq_true rfl) (Nat.le_refl _) ⟨Nat.le_refl _, Nat.le_refl _⟩ hC (fun H18 x9 hp => ?_)
          obtain ⟨b19, rfl, hp⟩ := hp
          have h := h H18 b19 hp
          refine gG_goto (tgt := 148) dX12_readsAll_106 (by decide) ?_
          refine gG_istore_n dX12_readsAll_148 rfl (Nat.le_of_ble_eq_true rfl) ?_
          refine gG_iload_n dX12_readsAll_149 rfl rfl ?_
          refine gG_if_ne (tgt := 155) dX12_readsAll_150 (by decide) (fun c => ?_) (fun c => ?_)
          · have h := h.1 (g_b_t c)
            refine gG_goto (tgt := 51) dX12_readsAll_155 (by decide) ?_
            refine gG_locals ?_ h
            exact ⟨rfl, trivial⟩
          · have h := h.2 (g_b_f c)
            refine gG_iconst (v := 0) dX12_readsAll_153 (by decide) ?_
            exact gG_exit ⟨rfl, rfl, rfl, dX12_readsAll_154, false, rfl, h⟩
      · have h := h.2 (g_b_t c)
        refine gG_aload_n dX12_readsAll_85 rfl rfl ?_
        obtain ⟨hrc, d2, P2, hdd, hC, h⟩ := h
        refine gG_cvi (As := []) (st := []) dX12_readsAll_86 mV_X12_314 hdd hrc rfl rfl (Nat.le_of_ble_eq_true rfl) (Nat.le_refl _) ⟨Nat.le_refl _, Nat.le_refl _⟩ hC (fun H20 x9 hp => ?_)
        obtain ⟨b21, rfl, hp⟩ := hp
        have h := h H20 b21 hp
        refine gG_goto (tgt := 148) dX12_readsAll_89 (by decide) ?_
        refine gG_istore_n dX12_readsAll_148 rfl (Nat.le_of_ble_eq_true rfl) ?_
        refine gG_iload_n dX12_readsAll_149 rfl rfl ?_
        refine gG_if_ne (tgt := 155) dX12_readsAll_150 (by decide) (fun c => ?_) (fun c => ?_)
        · have h := h.1 (g_b_t c)
          refine gG_goto (tgt := 51) dX12_readsAll_155 (by decide) ?_
          refine gG_locals ?_ h
          exact ⟨rfl, trivial⟩
        · have h := h.2 (g_b_f c)
          refine gG_iconst (v := 0) dX12_readsAll_153 (by decide) ?_
          exact gG_exit ⟨rfl, rfl, rfl, dX12_readsAll_154, false, rfl, h⟩
    · have h := h.2 (g_b_t c)
      refine gG_aload_n dX12_readsAll_68 rfl rfl ?_
      obtain ⟨hrc, d2, P2, hdd, hC, h⟩ := h
      refine gG_cvi (As := []) (st := []) dX12_readsAll_69 mV_X12_311 hdd hrc rfl rfl (Nat.le_of_ble_eq_true rfl) (Nat.le_refl _) ⟨Nat.le_refl _, Nat.le_refl _⟩ hC (fun H22 x9 hp => ?_)
      obtain ⟨b23, rfl, hp⟩ := hp
      have h := h H22 b23 hp
      refine gG_goto (tgt := 148) dX12_readsAll_72 (by decide) ?_
      refine gG_istore_n dX12_readsAll_148 rfl (Nat.le_of_ble_eq_true rfl) ?_
      refine gG_iload_n dX12_readsAll_149 rfl rfl ?_
      refine gG_if_ne (tgt := 155) dX12_readsAll_150 (by decide) (fun c => ?_) (fun c => ?_)
      · have h := h.1 (g_b_t c)
        refine gG_goto (tgt := 51) dX12_readsAll_155 (by decide) ?_
        refine gG_locals ?_ h
        exact ⟨rfl, trivial⟩
      · have h := h.2 (g_b_f c)
        refine gG_iconst (v := 0) dX12_readsAll_153 (by decide) ?_
        exact gG_exit ⟨rfl, rfl, rfl, dX12_readsAll_154, false, rfl, h⟩

theorem kX12_shifts_0 {d n : Nat} {H : gHp} {P : gHp → Prop} {a0 : Nat} {i1 : Int32} (h : gG d mX12_shifts 0 0 (g_Xv mX12_shifts n 0 0 P) 2 n H [some (.ref (a0)), some (.int (i1)), some (.int ((0 : Int32)))] [] (0) (0)) : gG d mX12_shifts 0 0 (g_Xv mX12_shifts n 0 0 P) 0 n H [some (.ref (a0)), some (.int (i1)), none] [] 0 0 := by
  refine gG_iconst (v := 0) dX12_shifts_0 (by decide) ?_
  refine gG_istore_n dX12_shifts_1 rfl (Nat.le_of_ble_eq_true rfl) ?_
  refine gG_locals ?_ h
  exact ⟨rfl, ⟨rfl, ⟨rfl, trivial⟩⟩⟩
theorem kX12_shifts_2 {d n : Nat} {H : gHp} {P : gHp → Prop} {a0 : Nat} {i1 : Int32} {i2 : Int32} (h : (i1 ≤ i2 → P H) ∧ (¬ (i1 ≤ i2) → g_al 0 H (a0) ((i1 + i2)) (fun x1 => g_as 0 H (a0) (i2) (x1) (fun H2 => gG d mX12_shifts 0 0 (g_Xv mX12_shifts n 0 0 P) 2 n H2 [some (.ref (a0)), some (.int (i1)), some (.int ((i2 + 1)))] [] (0) (0))))) : gG d mX12_shifts 0 0 (g_Xv mX12_shifts n 0 0 P) 2 n H [some (.ref (a0)), some (.int (i1)), some (.int (i2))] [] 0 0 := by
  refine gG_iload_n dX12_shifts_2 rfl rfl ?_
  refine gG_iload_n dX12_shifts_3 rfl rfl ?_
  refine gG_ic_ge (tgt := 21) dX12_shifts_4 (by decide) (fun c => ?_) (fun c => ?_)
  · have h := h.1 c
    exact gG_exit ⟨rfl, rfl, rfl, dX12_shifts_21, rfl, h⟩
  · have h := h.2 c
    refine gG_aload_n dX12_shifts_7 rfl rfl ?_
    refine gG_iload_n dX12_shifts_8 rfl rfl ?_
    refine gG_aload_n dX12_shifts_9 rfl rfl ?_
    refine gG_iload_n dX12_shifts_10 rfl rfl ?_
    refine gG_iload_n dX12_shifts_11 rfl rfl ?_
    refine gG_iadd dX12_shifts_12 ?_
    obtain ⟨m0, f0, e1, e2, h⟩ := h
    refine gG_iald dX12_shifts_13 ⟨m0, f0, e1, e2, ?_⟩
    obtain ⟨x1, eH⟩ : ∃ z, z = f0 (Int32.toNatClampNeg ((i1 + i2))) := ⟨_, rfl⟩
    rw [← eH] at h ⊢
    obtain ⟨m0, f0, e1, e2, h⟩ := h
    refine gG_iast dX12_shifts_14 ⟨m0, f0, e1, e2, ?_⟩
    obtain ⟨H2, eH⟩ : ∃ z, z = va_up H (a0) (.inl (0, m0, .inl (upd f0 (Int32.toNatClampNeg (i2)) (x1)))) := ⟨_, rfl⟩
    rw [← eH] at h ⊢
    refine gG_iinc (v := i2 + 1) dX12_shifts_15 rfl rfl (Nat.le_of_ble_eq_true rfl) ?_
    refine gG_goto (tgt := 2) dX12_shifts_18 (by decide) ?_
    refine gG_locals ?_ h
    exact ⟨rfl, ⟨rfl, ⟨rfl, trivial⟩⟩⟩

theorem kX12_shiftsNames_0 {d n : Nat} {H : gHp} {P : gHp → Prop} {a0 : Nat} {i1 : Int32} (h : gG d mX12_shiftsNames 0 0 (g_Xv mX12_shiftsNames n 0 0 P) 2 n H [some (.ref (a0)), some (.int (i1)), some (.int ((0 : Int32)))] [] (0) (0)) : gG d mX12_shiftsNames 0 0 (g_Xv mX12_shiftsNames n 0 0 P) 0 n H [some (.ref (a0)), some (.int (i1)), none] [] 0 0 := by
  refine gG_iconst (v := 0) dX12_shiftsNames_0 (by decide) ?_
  refine gG_istore_n dX12_shiftsNames_1 rfl (Nat.le_of_ble_eq_true rfl) ?_
  refine gG_locals ?_ h
  exact ⟨rfl, ⟨rfl, ⟨rfl, trivial⟩⟩⟩
theorem kX12_shiftsNames_2 {d n : Nat} {H : gHp} {P : gHp → Prop} {a0 : Nat} {i1 : Int32} {i2 : Int32} (h : (i1 ≤ i2 → P H) ∧ (¬ (i1 ≤ i2) → g_ll H (a0) ((i1 + i2)) (fun y1 => g_lst H (a0) (i2) (y1) (fun H2 => gG d mX12_shiftsNames 0 0 (g_Xv mX12_shiftsNames n 0 0 P) 2 n H2 [some (.ref (a0)), some (.int (i1)), some (.int ((i2 + 1)))] [] (0) (0))))) : gG d mX12_shiftsNames 0 0 (g_Xv mX12_shiftsNames n 0 0 P) 2 n H [some (.ref (a0)), some (.int (i1)), some (.int (i2))] [] 0 0 := by
  refine gG_iload_n dX12_shiftsNames_2 rfl rfl ?_
  refine gG_iload_n dX12_shiftsNames_3 rfl rfl ?_
  refine gG_ic_ge (tgt := 21) dX12_shiftsNames_4 (by decide) (fun c => ?_) (fun c => ?_)
  · have h := h.1 c
    exact gG_exit ⟨rfl, rfl, rfl, dX12_shiftsNames_21, rfl, h⟩
  · have h := h.2 c
    refine gG_aload_n dX12_shiftsNames_7 rfl rfl ?_
    refine gG_iload_n dX12_shiftsNames_8 rfl rfl ?_
    refine gG_aload_n dX12_shiftsNames_9 rfl rfl ?_
    refine gG_iload_n dX12_shiftsNames_10 rfl rfl ?_
    refine gG_iload_n dX12_shiftsNames_11 rfl rfl ?_
    refine gG_iadd dX12_shiftsNames_12 ?_
    obtain ⟨m0, f0, e1, e2, h⟩ := h
    refine gG_lald dX12_shiftsNames_13 ⟨m0, f0, e1, e2, ?_⟩
    obtain ⟨y1, eH⟩ : ∃ z, z = f0 (Int32.toNatClampNeg ((i1 + i2))) := ⟨_, rfl⟩
    rw [← eH] at h ⊢
    obtain ⟨m0, f0, e1, e2, h⟩ := h
    refine gG_last dX12_shiftsNames_14 ⟨m0, f0, e1, e2, ?_⟩
    obtain ⟨H2, eH⟩ : ∃ z, z = va_up H (a0) (.inl (1, m0, .inr (.inl (vp_updL f0 (Int32.toNatClampNeg (i2)) (y1))))) := ⟨_, rfl⟩
    rw [← eH] at h ⊢
    refine gG_iinc (v := i2 + 1) dX12_shiftsNames_15 rfl rfl (Nat.le_of_ble_eq_true rfl) ?_
    refine gG_goto (tgt := 2) dX12_shiftsNames_18 (by decide) ?_
    refine gG_locals ?_ h
    exact ⟨rfl, ⟨rfl, ⟨rfl, trivial⟩⟩⟩

theorem kX12_lays_0 {d n : Nat} {H : gHp} {P : gHp → Prop} {a0 : Nat} (h : g_gr H (a0) 12 10 (fun q1 => g_cvd d mX12_shifts n H [.ref (q1), .int ((3 : Int32))] (fun H2 => g_gr H2 (a0) 12 11 (fun q3 => g_cvd d mX12_shiftsNames n H2 [.ref (q3), .int ((7 : Int32))] (fun H4 => g_gr H4 (a0) 12 12 (fun q5 => g_cvd d mX12_shiftsNames n H4 [.ref (q5), .int ((6 : Int32))] (fun H6 => g_gr H6 (a0) 12 13 (fun q7 => g_cvd d mX12_shifts n H6 [.ref (q7), .int ((7 : Int32))] (fun H8 => g_gr H8 (a0) 12 14 (fun q9 => g_cvd d mX12_shifts n H8 [.ref (q9), .int ((7 : Int32))] (fun H10 => g_gr H10 (a0) 12 15 (fun q11 => g_cvd d mX12_shifts n H10 [.ref (q11), .int ((7 : Int32))] (fun H12 => g_gr H12 (a0) 12 16 (fun q13 => g_cvd d mX12_shifts n H12 [.ref (q13), .int ((7 : Int32))] (fun H14 => g_gr H14 (a0) 12 17 (fun q15 => g_cvd d mX12_shifts n H14 [.ref (q15), .int ((7 : Int32))] (fun H16 => g_gr H16 (a0) 12 18 (fun q17 => g_cvd d mX12_shifts n H16 [.ref (q17), .int ((6 : Int32))] (fun H18 => g_gr H18 (a0) 12 19 (fun q19 => g_cvd d mX12_shifts n H18 [.ref (q19), .int ((12 : Int32))] (fun H20 => g_gr H20 (a0) 12 22 (fun q21 => g_cvd d mX12_shifts n H20 [.ref (q21), .int ((1000 : Int32))] (fun H22 => g_gr H22 (a0) 12 20 (fun q23 => g_gr H22 (a0) 12 20 (fun q24 => g_al 0 H22 (q24) ((1 : Int32)) (fun x25 => g_as 0 H22 (q23) ((0 : Int32)) ((x25 - (1000 : Int32))) (fun H26 => g_gr H26 (a0) 12 21 (fun q27 => g_gr H26 (a0) 12 21 (fun q28 => g_al 0 H26 (q28) ((1 : Int32)) (fun x29 => g_as 0 H26 (q27) ((0 : Int32)) ((x29 - (1000 : Int32))) (fun H30 => P H30))))))))))))))))))))))))))))))) : gG d mX12_lays 0 0 (g_Xv mX12_lays n 0 0 P) 0 n H [some (.ref (a0))] [] 0 0 := by
  refine gG_aload_n dX12_lays_0 rfl rfl ?_
  obtain ⟨fs, q1, e1, e2, h⟩ := h
  refine gG_gr dX12_lays_1 fl_X12_13 ⟨fs, q1, e1, e2, ?_⟩
  refine gG_iconst (v := 3) dX12_lays_4 (by decide) ?_
  obtain ⟨d2, P2, hdd, hC, h⟩ := h
  refine gG_csv (As := [.ref (q1), .int ((3 : Int32))]) (st := []) dX12_lays_5 mS_X12_326 hdd rfl rfl (Nat.le_of_ble_eq_true rfl) (Nat.le_refl _) ⟨Nat.le_refl _, Nat.le_refl _⟩ hC (fun H2 hp => ?_)
  have h := h H2 hp
  refine gG_aload_n dX12_lays_8 rfl rfl ?_
  obtain ⟨fs, q3, e1, e2, h⟩ := h
  refine gG_gr dX12_lays_9 fl_X12_16 ⟨fs, q3, e1, e2, ?_⟩
  refine gG_bipush (v := 7) dX12_lays_12 (by decide) ?_
  obtain ⟨d2, P2, hdd, hC, h⟩ := h
  refine gG_csv (As := [.ref (q3), .int ((7 : Int32))]) (st := []) dX12_lays_14 mS_X12_330 hdd rfl rfl (Nat.le_of_ble_eq_true rfl) (Nat.le_refl _) ⟨Nat.le_refl _, Nat.le_refl _⟩ hC (fun H4 hp => ?_)
  have h := h H4 hp
  refine gG_aload_n dX12_lays_17 rfl rfl ?_
  obtain ⟨fs, q5, e1, e2, h⟩ := h
  refine gG_gr dX12_lays_18 fl_X12_20 ⟨fs, q5, e1, e2, ?_⟩
  refine gG_bipush (v := 6) dX12_lays_21 (by decide) ?_
  obtain ⟨d2, P2, hdd, hC, h⟩ := h
  refine gG_csv (As := [.ref (q5), .int ((6 : Int32))]) (st := []) dX12_lays_23 mS_X12_330 hdd rfl rfl (Nat.le_of_ble_eq_true rfl) (Nat.le_refl _) ⟨Nat.le_refl _, Nat.le_refl _⟩ hC (fun H6 hp => ?_)
  have h := h H6 hp
  refine gG_aload_n dX12_lays_26 rfl rfl ?_
  obtain ⟨fs, q7, e1, e2, h⟩ := h
  refine gG_gr dX12_lays_27 fl_X12_23 ⟨fs, q7, e1, e2, ?_⟩
  refine gG_bipush (v := 7) dX12_lays_30 (by decide) ?_
  obtain ⟨d2, P2, hdd, hC, h⟩ := h
  refine gG_csv (As := [.ref (q7), .int ((7 : Int32))]) (st := []) dX12_lays_32 mS_X12_326 hdd rfl rfl (Nat.le_of_ble_eq_true rfl) (Nat.le_refl _) ⟨Nat.le_refl _, Nat.le_refl _⟩ hC (fun H8 hp => ?_)
  have h := h H8 hp
  refine gG_aload_n dX12_lays_35 rfl rfl ?_
  obtain ⟨fs, q9, e1, e2, h⟩ := h
  refine gG_gr dX12_lays_36 fl_X12_26 ⟨fs, q9, e1, e2, ?_⟩
  refine gG_bipush (v := 7) dX12_lays_39 (by decide) ?_
  obtain ⟨d2, P2, hdd, hC, h⟩ := h
  refine gG_csv (As := [.ref (q9), .int ((7 : Int32))]) (st := []) dX12_lays_41 mS_X12_326 hdd rfl rfl (Nat.le_of_ble_eq_true rfl) (Nat.le_refl _) ⟨Nat.le_refl _, Nat.le_refl _⟩ hC (fun H10 hp => ?_)
  have h := h H10 hp
  refine gG_aload_n dX12_lays_44 rfl rfl ?_
  obtain ⟨fs, q11, e1, e2, h⟩ := h
  refine gG_gr dX12_lays_45 fl_X12_29 ⟨fs, q11, e1, e2, ?_⟩
  refine gG_bipush (v := 7) dX12_lays_48 (by decide) ?_
  obtain ⟨d2, P2, hdd, hC, h⟩ := h
  refine gG_csv (As := [.ref (q11), .int ((7 : Int32))]) (st := []) dX12_lays_50 mS_X12_326 hdd rfl rfl (Nat.le_of_ble_eq_true rfl) (Nat.le_refl _) ⟨Nat.le_refl _, Nat.le_refl _⟩ hC (fun H12 hp => ?_)
  have h := h H12 hp
  refine gG_aload_n dX12_lays_53 rfl rfl ?_
  obtain ⟨fs, q13, e1, e2, h⟩ := h
  refine gG_gr dX12_lays_54 fl_X12_32 ⟨fs, q13, e1, e2, ?_⟩
  refine gG_bipush (v := 7) dX12_lays_57 (by decide) ?_
  obtain ⟨d2, P2, hdd, hC, h⟩ := h
  refine gG_csv (As := [.ref (q13), .int ((7 : Int32))]) (st := []) dX12_lays_59 mS_X12_326 hdd rfl rfl (Nat.le_of_ble_eq_true rfl) (Nat.le_refl _) ⟨Nat.le_refl _, Nat.le_refl _⟩ hC (fun H14 hp => ?_)
  have h := h H14 hp
  refine gG_aload_n dX12_lays_62 rfl rfl ?_
  obtain ⟨fs, q15, e1, e2, h⟩ := h
  refine gG_gr dX12_lays_63 fl_X12_35 ⟨fs, q15, e1, e2, ?_⟩
  refine gG_bipush (v := 7) dX12_lays_66 (by decide) ?_
  obtain ⟨d2, P2, hdd, hC, h⟩ := h
  refine gG_csv (As := [.ref (q15), .int ((7 : Int32))]) (st := []) dX12_lays_68 mS_X12_326 hdd rfl rfl (Nat.le_of_ble_eq_true rfl) (Nat.le_refl _) ⟨Nat.le_refl _, Nat.le_refl _⟩ hC (fun H16 hp => ?_)
  have h := h H16 hp
  refine gG_aload_n dX12_lays_71 rfl rfl ?_
  obtain ⟨fs, q17, e1, e2, h⟩ := h
  refine gG_gr dX12_lays_72 fl_X12_38 ⟨fs, q17, e1, e2, ?_⟩
  refine gG_bipush (v := 6) dX12_lays_75 (by decide) ?_
  obtain ⟨d2, P2, hdd, hC, h⟩ := h
  refine gG_csv (As := [.ref (q17), .int ((6 : Int32))]) (st := []) dX12_lays_77 mS_X12_326 hdd rfl rfl (Nat.le_of_ble_eq_true rfl) (Nat.le_refl _) ⟨Nat.le_refl _, Nat.le_refl _⟩ hC (fun H18 hp => ?_)
  have h := h H18 hp
  refine gG_aload_n dX12_lays_80 rfl rfl ?_
  obtain ⟨fs, q19, e1, e2, h⟩ := h
  refine gG_gr dX12_lays_81 fl_X12_41 ⟨fs, q19, e1, e2, ?_⟩
  refine gG_bipush (v := 12) dX12_lays_84 (by decide) ?_
  obtain ⟨d2, P2, hdd, hC, h⟩ := h
  refine gG_csv (As := [.ref (q19), .int ((12 : Int32))]) (st := []) dX12_lays_86 mS_X12_326 hdd rfl rfl (Nat.le_of_ble_eq_true rfl) (Nat.le_refl _) ⟨Nat.le_refl _, Nat.le_refl _⟩ hC (fun H20 hp => ?_)
  have h := h H20 hp
  refine gG_aload_n dX12_lays_89 rfl rfl ?_
  obtain ⟨fs, q21, e1, e2, h⟩ := h
  refine gG_gr dX12_lays_90 fl_X12_50 ⟨fs, q21, e1, e2, ?_⟩
  refine gG_sipush (v := 1000) dX12_lays_93 (by decide) ?_
  obtain ⟨d2, P2, hdd, hC, h⟩ := h
  refine gG_csv (As := [.ref (q21), .int ((1000 : Int32))]) (st := []) dX12_lays_96 mS_X12_326 hdd rfl rfl (Nat.le_of_ble_eq_true rfl) (Nat.le_refl _) ⟨Nat.le_refl _, Nat.le_refl _⟩ hC (fun H22 hp => ?_)
  have h := h H22 hp
  refine gG_aload_n dX12_lays_99 rfl rfl ?_
  obtain ⟨fs, q23, e1, e2, h⟩ := h
  refine gG_gr dX12_lays_100 fl_X12_44 ⟨fs, q23, e1, e2, ?_⟩
  refine gG_iconst (v := 0) dX12_lays_103 (by decide) ?_
  refine gG_aload_n dX12_lays_104 rfl rfl ?_
  obtain ⟨fs, q24, e1, e2, h⟩ := h
  refine gG_gr dX12_lays_105 fl_X12_44 ⟨fs, q24, e1, e2, ?_⟩
  refine gG_iconst (v := 1) dX12_lays_108 (by decide) ?_
  obtain ⟨m0, f0, e1, e2, h⟩ := h
  refine gG_iald dX12_lays_109 ⟨m0, f0, e1, e2, ?_⟩
  obtain ⟨x25, eH⟩ : ∃ z, z = f0 (Int32.toNatClampNeg ((1 : Int32))) := ⟨_, rfl⟩
  rw [← eH] at h ⊢
  refine gG_sipush (v := 1000) dX12_lays_110 (by decide) ?_
  refine gG_isub dX12_lays_113 ?_
  obtain ⟨m0, f0, e1, e2, h⟩ := h
  refine gG_iast dX12_lays_114 ⟨m0, f0, e1, e2, ?_⟩
  obtain ⟨H26, eH⟩ : ∃ z, z = va_up H22 (q23) (.inl (0, m0, .inl (upd f0 (Int32.toNatClampNeg ((0 : Int32))) ((x25 - (1000 : Int32)))))) := ⟨_, rfl⟩
  rw [← eH] at h ⊢
  refine gG_aload_n dX12_lays_115 rfl rfl ?_
  obtain ⟨fs, q27, e1, e2, h⟩ := h
  refine gG_gr dX12_lays_116 fl_X12_47 ⟨fs, q27, e1, e2, ?_⟩
  refine gG_iconst (v := 0) dX12_lays_119 (by decide) ?_
  refine gG_aload_n dX12_lays_120 rfl rfl ?_
  obtain ⟨fs, q28, e1, e2, h⟩ := h
  refine gG_gr dX12_lays_121 fl_X12_47 ⟨fs, q28, e1, e2, ?_⟩
  refine gG_iconst (v := 1) dX12_lays_124 (by decide) ?_
  obtain ⟨m0, f0, e1, e2, h⟩ := h
  refine gG_iald dX12_lays_125 ⟨m0, f0, e1, e2, ?_⟩
  obtain ⟨x29, eH⟩ : ∃ z, z = f0 (Int32.toNatClampNeg ((1 : Int32))) := ⟨_, rfl⟩
  rw [← eH] at h ⊢
  refine gG_sipush (v := 1000) dX12_lays_126 (by decide) ?_
  refine gG_isub dX12_lays_129 ?_
  obtain ⟨m0, f0, e1, e2, h⟩ := h
  refine gG_iast dX12_lays_130 ⟨m0, f0, e1, e2, ?_⟩
  obtain ⟨H30, eH⟩ : ∃ z, z = va_up H26 (q27) (.inl (0, m0, .inl (upd f0 (Int32.toNatClampNeg ((0 : Int32))) ((x29 - (1000 : Int32)))))) := ⟨_, rfl⟩
  rw [← eH] at h ⊢
  exact gG_exit ⟨rfl, rfl, rfl, dX12_lays_131, rfl, h⟩

theorem kX12_copies_0 {d n : Nat} {H : gHp} {P : gHp → Prop} {a0 : Nat} {i1 : Int32} {a2 : Nat} {i3 : Int32} (h : gG d mX12_copies 0 0 (g_Xv mX12_copies n 0 0 P) 3 n H [some (.ref (a0)), some (.int (i1)), some (.ref (a2)), some (.int (i3)), some (.int ((0 : Int32)))] [] (0) (0)) : gG d mX12_copies 0 0 (g_Xv mX12_copies n 0 0 P) 0 n H [some (.ref (a0)), some (.int (i1)), some (.ref (a2)), some (.int (i3)), none] [] 0 0 := by
  refine gG_iconst (v := 0) dX12_copies_0 (by decide) ?_
  refine gG_istore dX12_copies_1 (Nat.le_of_ble_eq_true rfl) ?_
  refine gG_locals ?_ h
  exact ⟨rfl, ⟨rfl, ⟨rfl, ⟨rfl, ⟨rfl, trivial⟩⟩⟩⟩⟩
theorem kX12_copies_3 {d n : Nat} {H : gHp} {P : gHp → Prop} {a0 : Nat} {i1 : Int32} {a2 : Nat} {i3 : Int32} {i4 : Int32} (h : ((59 : Int32) ≤ i4 → P H) ∧ (¬ ((59 : Int32) ≤ i4) → g_al 0 H (a0) ((i1 + i4)) (fun x1 => g_as 0 H (a2) ((i3 + i4)) (x1) (fun H2 => gG d mX12_copies 0 0 (g_Xv mX12_copies n 0 0 P) 3 n H2 [some (.ref (a0)), some (.int (i1)), some (.ref (a2)), some (.int (i3)), some (.int ((i4 + 1)))] [] (0) (0))))) : gG d mX12_copies 0 0 (g_Xv mX12_copies n 0 0 P) 3 n H [some (.ref (a0)), some (.int (i1)), some (.ref (a2)), some (.int (i3)), some (.int (i4))] [] 0 0 := by
  refine gG_iload dX12_copies_3 rfl ?_
  refine gG_bipush (v := 59) dX12_copies_5 (by decide) ?_
  refine gG_ic_ge (tgt := 28) dX12_copies_7 (by decide) (fun c => ?_) (fun c => ?_)
  · have h := h.1 c
    exact gG_exit ⟨rfl, rfl, rfl, dX12_copies_28, rfl, h⟩
  · have h := h.2 c
    refine gG_aload_n dX12_copies_10 rfl rfl ?_
    refine gG_iload_n dX12_copies_11 rfl rfl ?_
    refine gG_iload dX12_copies_12 rfl ?_
    refine gG_iadd dX12_copies_14 ?_
    refine gG_aload_n dX12_copies_15 rfl rfl ?_
    refine gG_iload_n dX12_copies_16 rfl rfl ?_
    refine gG_iload dX12_copies_17 rfl ?_
    refine gG_iadd dX12_copies_19 ?_
    obtain ⟨m0, f0, e1, e2, h⟩ := h
    refine gG_iald dX12_copies_20 ⟨m0, f0, e1, e2, ?_⟩
    obtain ⟨x1, eH⟩ : ∃ z, z = f0 (Int32.toNatClampNeg ((i1 + i4))) := ⟨_, rfl⟩
    rw [← eH] at h ⊢
    obtain ⟨m0, f0, e1, e2, h⟩ := h
    refine gG_iast dX12_copies_21 ⟨m0, f0, e1, e2, ?_⟩
    obtain ⟨H2, eH⟩ : ∃ z, z = va_up H (a2) (.inl (0, m0, .inl (upd f0 (Int32.toNatClampNeg ((i3 + i4))) (x1)))) := ⟨_, rfl⟩
    rw [← eH] at h ⊢
    refine gG_iinc (v := i4 + 1) dX12_copies_22 rfl rfl (Nat.le_of_ble_eq_true rfl) ?_
    refine gG_goto (tgt := 3) dX12_copies_25 (by decide) ?_
    refine gG_locals ?_ h
    exact ⟨rfl, ⟨rfl, ⟨rfl, ⟨rfl, ⟨rfl, trivial⟩⟩⟩⟩⟩

theorem kX12_readsLine_0 {d n : Nat} {H : gHp} {P : gHp → Bool → Prop} {a0 : Nat} (h : (∃ fs, H (a0) = .inr (12, fs)) ∧ g_cz d mX12_isWord n H [.ref (a0), .long ((191610176 : Int64))] (fun H1 b2 => (b2 = false → (∃ fs, H1 (a0) = .inr (12, fs)) ∧ g_cz d mX12_isWord n H1 [.ref (a0), .long ((326448 : Int64))] (fun H3 b4 => (b4 = false → (∃ fs, H3 (a0) = .inr (12, fs)) ∧ g_cz d mX12_isWord n H3 [.ref (a0), .long ((388978 : Int64))] (fun H5 b6 => (b6 = false → (∃ fs, H5 (a0) = .inr (12, fs)) ∧ g_cz d mX12_isWord n H5 [.ref (a0), .long ((1834209 : Int64))] (fun H7 b8 => (b8 = false → gG d mX12_readsLine 0 0 (g_Xz mX12_readsLine n 0 0 P) 58 n H7 [some (.ref (a0)), some (.int ((-1 : Int32))), none] [] (0) (0)) ∧ (b8 = true → gG d mX12_readsLine 0 0 (g_Xz mX12_readsLine n 0 0 P) 58 n H7 [some (.ref (a0)), some (.int ((3 : Int32))), none] [] (0) (0)))) ∧ (b6 = true → gG d mX12_readsLine 0 0 (g_Xz mX12_readsLine n 0 0 P) 58 n H5 [some (.ref (a0)), some (.int ((2 : Int32))), none] [] (0) (0)))) ∧ (b4 = true → gG d mX12_readsLine 0 0 (g_Xz mX12_readsLine n 0 0 P) 58 n H3 [some (.ref (a0)), some (.int ((1 : Int32))), none] [] (0) (0)))) ∧ (b2 = true → gG d mX12_readsLine 0 0 (g_Xz mX12_readsLine n 0 0 P) 58 n H1 [some (.ref (a0)), some (.int ((0 : Int32))), none] [] (0) (0)))) : gG d mX12_readsLine 0 0 (g_Xz mX12_readsLine n 0 0 P) 0 n H [some (.ref (a0)), none, none] [] 0 0 := by
  refine gG_aload_n dX12_readsLine_0 rfl rfl ?_
  refine gG_ldc2 dX12_readsLine_1 cl_X12_252 ?_
  obtain ⟨hrc, d2, P2, hdd, hC, h⟩ := h
  refine gG_cvi (As := [.long ((191610176 : Int64))]) (st := []) dX12_readsLine_4 mV_X12_203 hdd hrc rfl rfl (Nat.le_of_ble_eq_true rfl) (Nat.le_refl _) ⟨Nat.le_refl _, Nat.le_refl _⟩ hC (fun H1 x9 hp => ?_)
  obtain ⟨b2, rfl, hp⟩ := hp
  have h := h H1 b2 hp
  refine gG_if_eq (tgt := 14) dX12_readsLine_7 (by decide) (fun c => ?_) (fun c => ?_)
  · have h := h.1 (g_b_f c)
    refine gG_aload_n dX12_readsLine_14 rfl rfl ?_
    refine gG_ldc2 dX12_readsLine_15 cl_X12_254 ?_
    obtain ⟨hrc, d2, P2, hdd, hC, h⟩ := h
    refine gG_cvi (As := [.long ((326448 : Int64))]) (st := []) dX12_readsLine_18 mV_X12_203 hdd hrc rfl rfl (Nat.le_of_ble_eq_true rfl) (Nat.le_refl _) ⟨Nat.le_refl _, Nat.le_refl _⟩ hC (fun H3 x9 hp => ?_)
    obtain ⟨b4, rfl, hp⟩ := hp
    have h := h H3 b4 hp
    refine gG_if_eq (tgt := 28) dX12_readsLine_21 (by decide) (fun c => ?_) (fun c => ?_)
    · have h := h.1 (g_b_f c)
      refine gG_aload_n dX12_readsLine_28 rfl rfl ?_
      refine gG_ldc2 dX12_readsLine_29 cl_X12_256 ?_
      obtain ⟨hrc, d2, P2, hdd, hC, h⟩ := h
      refine gG_cvi (As := [.long ((388978 : Int64))]) (st := []) dX12_readsLine_32 mV_X12_203 hdd hrc rfl rfl (Nat.le_of_ble_eq_true rfl) (Nat.le_refl _) ⟨Nat.le_refl _, Nat.le_refl _⟩ hC (fun H5 x9 hp => ?_)
      obtain ⟨b6, rfl, hp⟩ := hp
      have h := h H5 b6 hp
      refine gG_if_eq (tgt := 42) dX12_readsLine_35 (by decide) (fun c => ?_) (fun c => ?_)
      · have h := h.1 (g_b_f c)
        refine gG_aload_n dX12_readsLine_42 rfl rfl ?_
        refine gG_ldc2 dX12_readsLine_43 cl_X12_258 ?_
        obtain ⟨hrc, d2, P2, hdd, hC, h⟩ := h
        refine gG_cvi (As := [.long ((1834209 : Int64))]) (st := []) dX12_readsLine_46 mV_X12_203 hdd hrc rfl rfl (Nat.le_of_ble_eq_true rfl) (Nat.le_refl _) ⟨Nat.le_refl _, Nat.le_refl _⟩ hC (fun H7 x9 hp => ?_)
        obtain ⟨b8, rfl, hp⟩ := hp
        have h := h H7 b8 hp
        refine gG_if_eq (tgt := 56) dX12_readsLine_49 (by decide) (fun c => ?_) (fun c => ?_)
        · have h := h.1 (g_b_f c)
          refine gG_iconst (v := (-1)) dX12_readsLine_56 (by decide) ?_
          refine gG_istore_n dX12_readsLine_57 rfl (Nat.le_of_ble_eq_true rfl) ?_
          refine gG_locals ?_ h
          exact ⟨rfl, ⟨rfl, trivial⟩⟩
        · have h := h.2 (g_b_t c)
          refine gG_iconst (v := 3) dX12_readsLine_52 (by decide) ?_
          refine gG_goto (tgt := 57) dX12_readsLine_53 (by decide) ?_
          refine gG_istore_n dX12_readsLine_57 rfl (Nat.le_of_ble_eq_true rfl) ?_
          refine gG_locals ?_ h
          exact ⟨rfl, ⟨rfl, trivial⟩⟩
      · have h := h.2 (g_b_t c)
        refine gG_iconst (v := 2) dX12_readsLine_38 (by decide) ?_
        refine gG_goto (tgt := 57) dX12_readsLine_39 (by decide) ?_
        refine gG_istore_n dX12_readsLine_57 rfl (Nat.le_of_ble_eq_true rfl) ?_
        refine gG_locals ?_ h
        exact ⟨rfl, ⟨rfl, trivial⟩⟩
    · have h := h.2 (g_b_t c)
      refine gG_iconst (v := 1) dX12_readsLine_24 (by decide) ?_
      refine gG_goto (tgt := 57) dX12_readsLine_25 (by decide) ?_
      refine gG_istore_n dX12_readsLine_57 rfl (Nat.le_of_ble_eq_true rfl) ?_
      refine gG_locals ?_ h
      exact ⟨rfl, ⟨rfl, trivial⟩⟩
  · have h := h.2 (g_b_t c)
    refine gG_iconst (v := 0) dX12_readsLine_10 (by decide) ?_
    refine gG_goto (tgt := 57) dX12_readsLine_11 (by decide) ?_
    refine gG_istore_n dX12_readsLine_57 rfl (Nat.le_of_ble_eq_true rfl) ?_
    refine gG_locals ?_ h
    exact ⟨rfl, ⟨rfl, trivial⟩⟩
theorem kX12_readsLine_58 {d n : Nat} {H : gHp} {P : gHp → Bool → Prop} {a0 : Nat} {i1 : Int32} (h : (0 ≤ i1 → g_gr H (a0) 12 38 (fun q1 => g_al 0 H (q1) ((5 : Int32)) (fun x2 => (¬ (x2 = (40 : Int32)) → (∃ fs, H (a0) = .inr (12, fs)) ∧ g_cvd d mX12_nextToken n H [.ref (a0)] (fun H3 => g_gr H3 (a0) 12 38 (fun q4 => g_al 0 H3 (q4) ((5 : Int32)) (fun x5 => g_gr H3 (a0) 12 39 (fun q6 => g_as 0 H3 (q6) (((200 : Int32) + x5)) (i1) (fun H7 => (i1 = 0 → gG d mX12_readsLine 0 0 (g_Xz mX12_readsLine n 0 0 P) 135 n H7 [some (.ref (a0)), some (.int (i1)), some (.int (((200 : Int32) + x5)))] [] (0) (0)) ∧ (¬ (i1 = 0) → (∃ fs, H7 (a0) = .inr (12, fs)) ∧ g_cz d mX12_needsMouth n H7 [.ref (a0), .int ((0 : Int32))] (fun H8 b9 => (b9 = true → g_gr H8 (a0) 12 40 (fun q10 => g_gi H8 (a0) 12 36 (fun x11 => g_as 0 H8 (q10) (((200 : Int32) + x5)) (x11) (fun H12 => (∃ fs, H12 (a0) = .inr (12, fs)) ∧ g_cvd d mX12_nextToken n H12 [.ref (a0)] (fun H13 => gG d mX12_readsLine 0 0 (g_Xz mX12_readsLine n 0 0 P) 135 n H13 [some (.ref (a0)), some (.int (i1)), some (.int (((200 : Int32) + x5)))] [] (0) (0)))))) ∧ (b9 = false → P H8 false))))))))) ∧ (x2 = (40 : Int32) → (∃ fs, H (a0) = .inr (12, fs)) ∧ g_cz d mX12_fails n H [.ref (a0), .int ((5 : Int32))] (fun H14 b15 => P H14 b15))))) ∧ (¬ (0 ≤ i1) → (∃ fs, H (a0) = .inr (12, fs)) ∧ g_cz d mX12_fails n H [.ref (a0), .int ((1 : Int32))] (fun H16 b17 => P H16 b17))) : gG d mX12_readsLine 0 0 (g_Xz mX12_readsLine n 0 0 P) 58 n H [some (.ref (a0)), some (.int (i1)), none] [] 0 0 := by
  refine gG_iload_n dX12_readsLine_58 rfl rfl ?_
  refine gG_if_ge (tgt := 68) dX12_readsLine_59 (by decide) (fun c => ?_) (fun c => ?_)
  · have h := h.1 c
    refine gG_aload_n dX12_readsLine_68 rfl rfl ?_
    obtain ⟨fs, q1, e1, e2, h⟩ := h
    refine gG_gr dX12_readsLine_69 fl_X12_90 ⟨fs, q1, e1, e2, ?_⟩
    refine gG_iconst (v := 5) dX12_readsLine_72 (by decide) ?_
    obtain ⟨m0, f0, e1, e2, h⟩ := h
    refine gG_iald dX12_readsLine_73 ⟨m0, f0, e1, e2, ?_⟩
    obtain ⟨x2, eH⟩ : ∃ z, z = f0 (Int32.toNatClampNeg ((5 : Int32))) := ⟨_, rfl⟩
    rw [← eH] at h ⊢
    refine gG_bipush (v := 40) dX12_readsLine_74 (by decide) ?_
    refine gG_ic_ne (tgt := 85) dX12_readsLine_76 (by decide) (fun c => ?_) (fun c => ?_)
    · have h := h.1 c
      refine gG_aload_n dX12_readsLine_85 rfl rfl ?_
      obtain ⟨hrc, d2, P2, hdd, hC, h⟩ := h
      refine gG_cvv (As := []) (st := []) dX12_readsLine_86 mV_X12_218 hdd hrc rfl rfl (Nat.le_of_ble_eq_true rfl) (Nat.le_refl _) ⟨Nat.le_refl _, Nat.le_refl _⟩ hC (fun H3 hp => ?_)
      have h := h H3 hp
      refine gG_sipush (v := 200) dX12_readsLine_89 (by decide) ?_
      refine gG_aload_n dX12_readsLine_92 rfl rfl ?_
      obtain ⟨fs, q4, e1, e2, h⟩ := h
      refine gG_gr dX12_readsLine_93 fl_X12_90 ⟨fs, q4, e1, e2, ?_⟩
      refine gG_iconst (v := 5) dX12_readsLine_96 (by decide) ?_
      obtain ⟨m0, f0, e1, e2, h⟩ := h
      refine gG_iald dX12_readsLine_97 ⟨m0, f0, e1, e2, ?_⟩
      obtain ⟨x5, eH⟩ : ∃ z, z = f0 (Int32.toNatClampNeg ((5 : Int32))) := ⟨_, rfl⟩
      rw [← eH] at h ⊢
      refine gG_iadd dX12_readsLine_98 ?_
      refine gG_istore_n dX12_readsLine_99 rfl (Nat.le_of_ble_eq_true rfl) ?_
      refine gG_aload_n dX12_readsLine_100 rfl rfl ?_
      obtain ⟨fs, q6, e1, e2, h⟩ := h
      refine gG_gr dX12_readsLine_101 fl_X12_93 ⟨fs, q6, e1, e2, ?_⟩
      refine gG_iload_n dX12_readsLine_104 rfl rfl ?_
      refine gG_iload_n dX12_readsLine_105 rfl rfl ?_
      obtain ⟨m0, f0, e1, e2, h⟩ := h
      refine gG_iast dX12_readsLine_106 ⟨m0, f0, e1, e2, ?_⟩
      obtain ⟨H7, eH⟩ : ∃ z, z = va_up H3 (q6) (.inl (0, m0, .inl (upd f0 (Int32.toNatClampNeg (((200 : Int32) + x5))) (i1)))) := ⟨_, rfl⟩
      rw [← eH] at h ⊢
      refine gG_iload_n dX12_readsLine_107 rfl rfl ?_
      refine gG_if_eq (tgt := 135) dX12_readsLine_108 (by decide) (fun c => ?_) (fun c => ?_)
      · have h := h.1 c
        refine gG_locals ?_ h
        exact ⟨rfl, ⟨rfl, ⟨rfl, trivial⟩⟩⟩
      · have h := h.2 c
        refine gG_aload_n dX12_readsLine_111 rfl rfl ?_
        refine gG_iconst (v := 0) dX12_readsLine_112 (by decide) ?_
        obtain ⟨hrc, d2, P2, hdd, hC, h⟩ := h
        refine gG_cvi (As := [.int ((0 : Int32))]) (st := []) dX12_readsLine_113 mV_X12_302 hdd hrc rfl rfl (Nat.le_of_ble_eq_true rfl) (Nat.le_refl _) ⟨Nat.le_refl _, Nat.le_refl _⟩ hC (fun H8 x9 hp => ?_)
        obtain ⟨b9, rfl, hp⟩ := hp
        have h := h H8 b9 hp
        refine gG_if_ne (tgt := 121) dX12_readsLine_116 (by decide) (fun c => ?_) (fun c => ?_)
        · have h := h.1 (g_b_t c)
          refine gG_aload_n dX12_readsLine_121 rfl rfl ?_
          obtain ⟨fs, q10, e1, e2, h⟩ := h
          refine gG_gr dX12_readsLine_122 fl_X12_96 ⟨fs, q10, e1, e2, ?_⟩
          refine gG_iload_n dX12_readsLine_125 rfl rfl ?_
          refine gG_aload_n dX12_readsLine_126 rfl rfl ?_
          obtain ⟨fs, x11, e1, e2, h⟩ := h
          refine gG_gi dX12_readsLine_127 fl_X12_272 ⟨fs, x11, e1, e2, ?_⟩
          obtain ⟨m0, f0, e1, e2, h⟩ := h
          refine gG_iast dX12_readsLine_130 ⟨m0, f0, e1, e2, ?_⟩
          obtain ⟨H12, eH⟩ : ∃ z, z = va_up H8 (q10) (.inl (0, m0, .inl (upd f0 (Int32.toNatClampNeg (((200 : Int32) + x5))) (x11)))) := ⟨_, rfl⟩
          rw [← eH] at h ⊢
          refine gG_aload_n dX12_readsLine_131 rfl rfl ?_
          obtain ⟨hrc, d2, P2, hdd, hC, h⟩ := h
          refine gG_cvv (As := []) (st := []) dX12_readsLine_132 mV_X12_218 hdd hrc rfl rfl (Nat.le_of_ble_eq_true rfl) (Nat.le_refl _) ⟨Nat.le_refl _, Nat.le_refl _⟩ hC (fun H13 hp => ?_)
          have h := h H13 hp
          refine gG_locals ?_ h
          exact ⟨rfl, ⟨rfl, ⟨rfl, trivial⟩⟩⟩
        · have h := h.2 (g_b_f c)
          refine gG_iconst (v := 0) dX12_readsLine_119 (by decide) ?_
          exact gG_exit ⟨rfl, rfl, rfl, dX12_readsLine_120, false, rfl, h⟩
    · have h := h.2 c
      refine gG_aload_n dX12_readsLine_79 rfl rfl ?_
      refine gG_iconst (v := 5) dX12_readsLine_80 (by decide) ?_
      obtain ⟨hrc, d2, P2, hdd, hC, h⟩ := h
      refine gG_cvi (As := [.int ((5 : Int32))]) (st := []) dX12_readsLine_81 mV_X12_211 hdd hrc rfl rfl (Nat.le_of_ble_eq_true rfl) (Nat.le_refl _) ⟨Nat.le_refl _, Nat.le_refl _⟩ hC (fun H14 x9 hp => ?_)
      obtain ⟨b15, rfl, hp⟩ := hp
      have h := h H14 b15 hp
      exact gG_exit ⟨rfl, rfl, rfl, dX12_readsLine_84, b15, rfl, h⟩
  · have h := h.2 c
    refine gG_aload_n dX12_readsLine_62 rfl rfl ?_
    refine gG_iconst (v := 1) dX12_readsLine_63 (by decide) ?_
    obtain ⟨hrc, d2, P2, hdd, hC, h⟩ := h
    refine gG_cvi (As := [.int ((1 : Int32))]) (st := []) dX12_readsLine_64 mV_X12_211 hdd hrc rfl rfl (Nat.le_of_ble_eq_true rfl) (Nat.le_refl _) ⟨Nat.le_refl _, Nat.le_refl _⟩ hC (fun H16 x9 hp => ?_)
    obtain ⟨b17, rfl, hp⟩ := hp
    have h := h H16 b17 hp
    exact gG_exit ⟨rfl, rfl, rfl, dX12_readsLine_67, b17, rfl, h⟩
theorem kX12_readsLine_135 {d n : Nat} {H : gHp} {P : gHp → Bool → Prop} {a0 : Nat} {i1 : Int32} {i2 : Int32} (h : (¬ (i1 = (1 : Int32)) → gG d mX12_readsLine 0 0 (g_Xz mX12_readsLine n 0 0 P) 162 n H [some (.ref (a0)), none, none] [] (0) (0)) ∧ (i1 = (1 : Int32) → (∃ fs, H (a0) = .inr (12, fs)) ∧ g_cz d mX12_needsNumber n H [.ref (a0), .int ((1 : Int32)), .int ((20 : Int32))] (fun H1 b2 => (b2 = true → g_gr H1 (a0) 12 41 (fun q3 => g_gi H1 (a0) 12 36 (fun x4 => g_as 0 H1 (q3) (i2) (x4) (fun H5 => gG d mX12_readsLine 0 0 (g_Xz mX12_readsLine n 0 0 P) 162 n H5 [some (.ref (a0)), none, none] [] (0) (0))))) ∧ (b2 = false → P H1 false)))) : gG d mX12_readsLine 0 0 (g_Xz mX12_readsLine n 0 0 P) 135 n H [some (.ref (a0)), some (.int (i1)), some (.int (i2))] [] 0 0 := by
  refine gG_iload_n dX12_readsLine_135 rfl rfl ?_
  refine gG_iconst (v := 1) dX12_readsLine_136 (by decide) ?_
  refine gG_ic_ne (tgt := 162) dX12_readsLine_137 (by decide) (fun c => ?_) (fun c => ?_)
  · have h := h.1 c
    refine gG_locals ?_ h
    exact ⟨rfl, trivial⟩
  · have h := h.2 c
    refine gG_aload_n dX12_readsLine_140 rfl rfl ?_
    refine gG_iconst (v := 1) dX12_readsLine_141 (by decide) ?_
    refine gG_bipush (v := 20) dX12_readsLine_142 (by decide) ?_
    obtain ⟨hrc, d2, P2, hdd, hC, h⟩ := h
    refine gG_cvi (As := [.int ((1 : Int32)), .int ((20 : Int32))]) (st := []) dX12_readsLine_144 mV_X12_275 hdd hrc rfl rfl (Nat.le_of_ble_eq_true rfl) (Nat.le_refl _) ⟨Nat.le_refl _, Nat.le_refl _⟩ hC (fun H1 x9 hp => ?_)
    obtain ⟨b2, rfl, hp⟩ := hp
    have h := h H1 b2 hp
    refine gG_if_ne (tgt := 152) dX12_readsLine_147 (by decide) (fun c => ?_) (fun c => ?_)
    · have h := h.1 (g_b_t c)
      refine gG_aload_n dX12_readsLine_152 rfl rfl ?_
      obtain ⟨fs, q3, e1, e2, h⟩ := h
      refine gG_gr dX12_readsLine_153 fl_X12_99 ⟨fs, q3, e1, e2, ?_⟩
      refine gG_iload_n dX12_readsLine_156 rfl rfl ?_
      refine gG_aload_n dX12_readsLine_157 rfl rfl ?_
      obtain ⟨fs, x4, e1, e2, h⟩ := h
      refine gG_gi dX12_readsLine_158 fl_X12_272 ⟨fs, x4, e1, e2, ?_⟩
      obtain ⟨m0, f0, e1, e2, h⟩ := h
      refine gG_iast dX12_readsLine_161 ⟨m0, f0, e1, e2, ?_⟩
      obtain ⟨H5, eH⟩ : ∃ z, z = va_up H1 (q3) (.inl (0, m0, .inl (upd f0 (Int32.toNatClampNeg (i2)) (x4)))) := ⟨_, rfl⟩
      rw [← eH] at h ⊢
      refine gG_locals ?_ h
      exact ⟨rfl, trivial⟩
    · have h := h.2 (g_b_f c)
      refine gG_iconst (v := 0) dX12_readsLine_150 (by decide) ?_
      exact gG_exit ⟨rfl, rfl, rfl, dX12_readsLine_151, false, rfl, h⟩
theorem kX12_readsLine_162 {d n : Nat} {H : gHp} {P : gHp → Bool → Prop} {a0 : Nat} (h : g_gr H (a0) 12 38 (fun q1 => g_al 0 H (q1) ((5 : Int32)) (fun x2 => g_as 0 H (q1) ((5 : Int32)) ((x2 + (1 : Int32))) (fun H3 => (∃ fs, H3 (a0) = .inr (12, fs)) ∧ g_cz d mX12_closes n H3 [.ref (a0)] (fun H4 b5 => P H4 b5))))) : gG d mX12_readsLine 0 0 (g_Xz mX12_readsLine n 0 0 P) 162 n H [some (.ref (a0)), none, none] [] 0 0 := by
  refine gG_aload_n dX12_readsLine_162 rfl rfl ?_
  obtain ⟨fs, q1, e1, e2, h⟩ := h
  refine gG_gr dX12_readsLine_163 fl_X12_90 ⟨fs, q1, e1, e2, ?_⟩
  refine gG_iconst (v := 5) dX12_readsLine_166 (by decide) ?_
  refine gG_dup2 dX12_readsLine_167 rfl rfl ?_
  obtain ⟨m0, f0, e1, e2, h⟩ := h
  refine gG_iald dX12_readsLine_168 ⟨m0, f0, e1, e2, ?_⟩
  obtain ⟨x2, eH⟩ : ∃ z, z = f0 (Int32.toNatClampNeg ((5 : Int32))) := ⟨_, rfl⟩
  rw [← eH] at h ⊢
  refine gG_iconst (v := 1) dX12_readsLine_169 (by decide) ?_
  refine gG_iadd dX12_readsLine_170 ?_
  obtain ⟨m0, f0, e1, e2, h⟩ := h
  refine gG_iast dX12_readsLine_171 ⟨m0, f0, e1, e2, ?_⟩
  obtain ⟨H3, eH⟩ : ∃ z, z = va_up H (q1) (.inl (0, m0, .inl (upd f0 (Int32.toNatClampNeg ((5 : Int32))) ((x2 + (1 : Int32)))))) := ⟨_, rfl⟩
  rw [← eH] at h ⊢
  refine gG_aload_n dX12_readsLine_172 rfl rfl ?_
  obtain ⟨hrc, d2, P2, hdd, hC, h⟩ := h
  refine gG_cvi (As := []) (st := []) dX12_readsLine_173 mV_X12_299 hdd hrc rfl rfl (Nat.le_of_ble_eq_true rfl) (Nat.le_refl _) ⟨Nat.le_refl _, Nat.le_refl _⟩ hC (fun H4 x9 hp => ?_)
  obtain ⟨b5, rfl, hp⟩ := hp
  have h := h H4 b5 hp
  exact gG_exit ⟨rfl, rfl, rfl, dX12_readsLine_176, b5, rfl, h⟩

theorem kX12_laysLines_0 {d n : Nat} {H : gHp} {P : gHp → Prop} {a0 : Nat} {i1 : Int32} {i2 : Int32} (h : g_gr H (a0) 12 38 (fun q1 => g_gr H (a0) 12 38 (fun q2 => g_al 0 H (q2) (i1) (fun x3 => g_as 0 H (q1) (i2) (x3) (fun H4 => gG d mX12_laysLines 0 0 (g_Xv mX12_laysLines n 0 0 P) 14 n H4 [some (.ref (a0)), some (.int (i1)), some (.int (i2)), some (.int ((0 : Int32)))] [] (0) (0)))))) : gG d mX12_laysLines 0 0 (g_Xv mX12_laysLines n 0 0 P) 0 n H [some (.ref (a0)), some (.int (i1)), some (.int (i2)), none] [] 0 0 := by
  refine gG_aload_n dX12_laysLines_0 rfl rfl ?_
  obtain ⟨fs, q1, e1, e2, h⟩ := h
  refine gG_gr dX12_laysLines_1 fl_X12_90 ⟨fs, q1, e1, e2, ?_⟩
  refine gG_iload_n dX12_laysLines_4 rfl rfl ?_
  refine gG_aload_n dX12_laysLines_5 rfl rfl ?_
  obtain ⟨fs, q2, e1, e2, h⟩ := h
  refine gG_gr dX12_laysLines_6 fl_X12_90 ⟨fs, q2, e1, e2, ?_⟩
  refine gG_iload_n dX12_laysLines_9 rfl rfl ?_
  obtain ⟨m0, f0, e1, e2, h⟩ := h
  refine gG_iald dX12_laysLines_10 ⟨m0, f0, e1, e2, ?_⟩
  obtain ⟨x3, eH⟩ : ∃ z, z = f0 (Int32.toNatClampNeg (i1)) := ⟨_, rfl⟩
  rw [← eH] at h ⊢
  obtain ⟨m0, f0, e1, e2, h⟩ := h
  refine gG_iast dX12_laysLines_11 ⟨m0, f0, e1, e2, ?_⟩
  obtain ⟨H4, eH⟩ : ∃ z, z = va_up H (q1) (.inl (0, m0, .inl (upd f0 (Int32.toNatClampNeg (i2)) (x3)))) := ⟨_, rfl⟩
  rw [← eH] at h ⊢
  refine gG_iconst (v := 0) dX12_laysLines_12 (by decide) ?_
  refine gG_istore_n dX12_laysLines_13 rfl (Nat.le_of_ble_eq_true rfl) ?_
  refine gG_locals ?_ h
  exact ⟨rfl, ⟨rfl, ⟨rfl, ⟨rfl, trivial⟩⟩⟩⟩
theorem kX12_laysLines_14 {d n : Nat} {H : gHp} {P : gHp → Prop} {a0 : Nat} {i1 : Int32} {i2 : Int32} {i3 : Int32} (h : ((40 : Int32) ≤ i3 → P H) ∧ (¬ ((40 : Int32) ≤ i3) → g_gr H (a0) 12 39 (fun q1 => g_gr H (a0) 12 39 (fun q2 => g_al 0 H (q2) ((((40 : Int32) * i1) + i3)) (fun x3 => g_as 0 H (q1) ((((40 : Int32) * i2) + i3)) (x3) (fun H4 => g_gr H4 (a0) 12 40 (fun q5 => g_gr H4 (a0) 12 40 (fun q6 => g_al 0 H4 (q6) ((((40 : Int32) * i1) + i3)) (fun x7 => g_as 0 H4 (q5) ((((40 : Int32) * i2) + i3)) (x7) (fun H8 => g_gr H8 (a0) 12 41 (fun q9 => g_gr H8 (a0) 12 41 (fun q10 => g_al 0 H8 (q10) ((((40 : Int32) * i1) + i3)) (fun x11 => g_as 0 H8 (q9) ((((40 : Int32) * i2) + i3)) (x11) (fun H12 => gG d mX12_laysLines 0 0 (g_Xv mX12_laysLines n 0 0 P) 14 n H12 [some (.ref (a0)), some (.int (i1)), some (.int (i2)), some (.int ((i3 + 1)))] [] (0) (0))))))))))))))) : gG d mX12_laysLines 0 0 (g_Xv mX12_laysLines n 0 0 P) 14 n H [some (.ref (a0)), some (.int (i1)), some (.int (i2)), some (.int (i3))] [] 0 0 := by
  refine gG_iload_n dX12_laysLines_14 rfl rfl ?_
  refine gG_bipush (v := 40) dX12_laysLines_15 (by decide) ?_
  refine gG_ic_ge (tgt := 92) dX12_laysLines_17 (by decide) (fun c => ?_) (fun c => ?_)
  · have h := h.1 c
    exact gG_exit ⟨rfl, rfl, rfl, dX12_laysLines_92, rfl, h⟩
  · have h := h.2 c
    refine gG_aload_n dX12_laysLines_20 rfl rfl ?_
    obtain ⟨fs, q1, e1, e2, h⟩ := h
    refine gG_gr dX12_laysLines_21 fl_X12_93 ⟨fs, q1, e1, e2, ?_⟩
    refine gG_bipush (v := 40) dX12_laysLines_24 (by decide) ?_
    refine gG_iload_n dX12_laysLines_26 rfl rfl ?_
    refine gG_imul dX12_laysLines_27 ?_
    refine gG_iload_n dX12_laysLines_28 rfl rfl ?_
    refine gG_iadd dX12_laysLines_29 ?_
    refine gG_aload_n dX12_laysLines_30 rfl rfl ?_
    obtain ⟨fs, q2, e1, e2, h⟩ := h
    refine gG_gr dX12_laysLines_31 fl_X12_93 ⟨fs, q2, e1, e2, ?_⟩
    refine gG_bipush (v := 40) dX12_laysLines_34 (by decide) ?_
    refine gG_iload_n dX12_laysLines_36 rfl rfl ?_
    refine gG_imul dX12_laysLines_37 ?_
    refine gG_iload_n dX12_laysLines_38 rfl rfl ?_
    refine gG_iadd dX12_laysLines_39 ?_
    obtain ⟨m0, f0, e1, e2, h⟩ := h
    refine gG_iald dX12_laysLines_40 ⟨m0, f0, e1, e2, ?_⟩
    obtain ⟨x3, eH⟩ : ∃ z, z = f0 (Int32.toNatClampNeg ((((40 : Int32) * i1) + i3))) := ⟨_, rfl⟩
    rw [← eH] at h ⊢
    obtain ⟨m0, f0, e1, e2, h⟩ := h
    refine gG_iast dX12_laysLines_41 ⟨m0, f0, e1, e2, ?_⟩
    obtain ⟨H4, eH⟩ : ∃ z, z = va_up H (q1) (.inl (0, m0, .inl (upd f0 (Int32.toNatClampNeg ((((40 : Int32) * i2) + i3))) (x3)))) := ⟨_, rfl⟩
    rw [← eH] at h ⊢
    refine gG_aload_n dX12_laysLines_42 rfl rfl ?_
    obtain ⟨fs, q5, e1, e2, h⟩ := h
    refine gG_gr dX12_laysLines_43 fl_X12_96 ⟨fs, q5, e1, e2, ?_⟩
    refine gG_bipush (v := 40) dX12_laysLines_46 (by decide) ?_
    refine gG_iload_n dX12_laysLines_48 rfl rfl ?_
    refine gG_imul dX12_laysLines_49 ?_
    refine gG_iload_n dX12_laysLines_50 rfl rfl ?_
    refine gG_iadd dX12_laysLines_51 ?_
    refine gG_aload_n dX12_laysLines_52 rfl rfl ?_
    obtain ⟨fs, q6, e1, e2, h⟩ := h
    refine gG_gr dX12_laysLines_53 fl_X12_96 ⟨fs, q6, e1, e2, ?_⟩
    refine gG_bipush (v := 40) dX12_laysLines_56 (by decide) ?_
    refine gG_iload_n dX12_laysLines_58 rfl rfl ?_
    refine gG_imul dX12_laysLines_59 ?_
    refine gG_iload_n dX12_laysLines_60 rfl rfl ?_
    refine gG_iadd dX12_laysLines_61 ?_
    obtain ⟨m0, f0, e1, e2, h⟩ := h
    refine gG_iald dX12_laysLines_62 ⟨m0, f0, e1, e2, ?_⟩
    obtain ⟨x7, eH⟩ : ∃ z, z = f0 (Int32.toNatClampNeg ((((40 : Int32) * i1) + i3))) := ⟨_, rfl⟩
    rw [← eH] at h ⊢
    obtain ⟨m0, f0, e1, e2, h⟩ := h
    refine gG_iast dX12_laysLines_63 ⟨m0, f0, e1, e2, ?_⟩
    obtain ⟨H8, eH⟩ : ∃ z, z = va_up H4 (q5) (.inl (0, m0, .inl (upd f0 (Int32.toNatClampNeg ((((40 : Int32) * i2) + i3))) (x7)))) := ⟨_, rfl⟩
    rw [← eH] at h ⊢
    refine gG_aload_n dX12_laysLines_64 rfl rfl ?_
    obtain ⟨fs, q9, e1, e2, h⟩ := h
    refine gG_gr dX12_laysLines_65 fl_X12_99 ⟨fs, q9, e1, e2, ?_⟩
    refine gG_bipush (v := 40) dX12_laysLines_68 (by decide) ?_
    refine gG_iload_n dX12_laysLines_70 rfl rfl ?_
    refine gG_imul dX12_laysLines_71 ?_
    refine gG_iload_n dX12_laysLines_72 rfl rfl ?_
    refine gG_iadd dX12_laysLines_73 ?_
    refine gG_aload_n dX12_laysLines_74 rfl rfl ?_
    obtain ⟨fs, q10, e1, e2, h⟩ := h
    refine gG_gr dX12_laysLines_75 fl_X12_99 ⟨fs, q10, e1, e2, ?_⟩
    refine gG_bipush (v := 40) dX12_laysLines_78 (by decide) ?_
    refine gG_iload_n dX12_laysLines_80 rfl rfl ?_
    refine gG_imul dX12_laysLines_81 ?_
    refine gG_iload_n dX12_laysLines_82 rfl rfl ?_
    refine gG_iadd dX12_laysLines_83 ?_
    obtain ⟨m0, f0, e1, e2, h⟩ := h
    refine gG_iald dX12_laysLines_84 ⟨m0, f0, e1, e2, ?_⟩
    obtain ⟨x11, eH⟩ : ∃ z, z = f0 (Int32.toNatClampNeg ((((40 : Int32) * i1) + i3))) := ⟨_, rfl⟩
    rw [← eH] at h ⊢
    obtain ⟨m0, f0, e1, e2, h⟩ := h
    refine gG_iast dX12_laysLines_85 ⟨m0, f0, e1, e2, ?_⟩
    obtain ⟨H12, eH⟩ : ∃ z, z = va_up H8 (q9) (.inl (0, m0, .inl (upd f0 (Int32.toNatClampNeg ((((40 : Int32) * i2) + i3))) (x11)))) := ⟨_, rfl⟩
    rw [← eH] at h ⊢
    refine gG_iinc (v := i3 + 1) dX12_laysLines_86 rfl rfl (Nat.le_of_ble_eq_true rfl) ?_
    refine gG_goto (tgt := 14) dX12_laysLines_89 (by decide) ?_
    refine gG_locals ?_ h
    exact ⟨rfl, ⟨rfl, ⟨rfl, ⟨rfl, trivial⟩⟩⟩⟩

theorem kX12_laysWord_0 {d n : Nat} {H : gHp} {P : gHp → Prop} {a0 : Nat} {i1 : Int32} {i2 : Int32} (h : g_gr H (a0) 12 42 (fun q1 => g_gr H (a0) 12 42 (fun q2 => g_al 0 H (q2) (i1) (fun x3 => g_as 0 H (q1) (i2) (x3) (fun H4 => gG d mX12_laysWord 0 0 (g_Xv mX12_laysWord n 0 0 P) 14 n H4 [some (.ref (a0)), some (.int (i1)), some (.int (i2)), some (.int ((0 : Int32)))] [] (0) (0)))))) : gG d mX12_laysWord 0 0 (g_Xv mX12_laysWord n 0 0 P) 0 n H [some (.ref (a0)), some (.int (i1)), some (.int (i2)), none] [] 0 0 := by
  refine gG_aload_n dX12_laysWord_0 rfl rfl ?_
  obtain ⟨fs, q1, e1, e2, h⟩ := h
  refine gG_gr dX12_laysWord_1 fl_X12_102 ⟨fs, q1, e1, e2, ?_⟩
  refine gG_iload_n dX12_laysWord_4 rfl rfl ?_
  refine gG_aload_n dX12_laysWord_5 rfl rfl ?_
  obtain ⟨fs, q2, e1, e2, h⟩ := h
  refine gG_gr dX12_laysWord_6 fl_X12_102 ⟨fs, q2, e1, e2, ?_⟩
  refine gG_iload_n dX12_laysWord_9 rfl rfl ?_
  obtain ⟨m0, f0, e1, e2, h⟩ := h
  refine gG_iald dX12_laysWord_10 ⟨m0, f0, e1, e2, ?_⟩
  obtain ⟨x3, eH⟩ : ∃ z, z = f0 (Int32.toNatClampNeg (i1)) := ⟨_, rfl⟩
  rw [← eH] at h ⊢
  obtain ⟨m0, f0, e1, e2, h⟩ := h
  refine gG_iast dX12_laysWord_11 ⟨m0, f0, e1, e2, ?_⟩
  obtain ⟨H4, eH⟩ : ∃ z, z = va_up H (q1) (.inl (0, m0, .inl (upd f0 (Int32.toNatClampNeg (i2)) (x3)))) := ⟨_, rfl⟩
  rw [← eH] at h ⊢
  refine gG_iconst (v := 0) dX12_laysWord_12 (by decide) ?_
  refine gG_istore_n dX12_laysWord_13 rfl (Nat.le_of_ble_eq_true rfl) ?_
  refine gG_locals ?_ h
  exact ⟨rfl, ⟨rfl, ⟨rfl, ⟨rfl, trivial⟩⟩⟩⟩
theorem kX12_laysWord_14 {d n : Nat} {H : gHp} {P : gHp → Prop} {a0 : Nat} {i1 : Int32} {i2 : Int32} {i3 : Int32} (h : ((7 : Int32) ≤ i3 → P H) ∧ (¬ ((7 : Int32) ≤ i3) → g_gr H (a0) 12 43 (fun q1 => g_gr H (a0) 12 43 (fun q2 => g_al 0 H (q2) ((((7 : Int32) * i1) + i3)) (fun x3 => g_as 0 H (q1) ((((7 : Int32) * i2) + i3)) (x3) (fun H4 => gG d mX12_laysWord 0 0 (g_Xv mX12_laysWord n 0 0 P) 14 n H4 [some (.ref (a0)), some (.int (i1)), some (.int (i2)), some (.int ((i3 + 1)))] [] (0) (0))))))) : gG d mX12_laysWord 0 0 (g_Xv mX12_laysWord n 0 0 P) 14 n H [some (.ref (a0)), some (.int (i1)), some (.int (i2)), some (.int (i3))] [] 0 0 := by
  refine gG_iload_n dX12_laysWord_14 rfl rfl ?_
  refine gG_bipush (v := 7) dX12_laysWord_15 (by decide) ?_
  refine gG_ic_ge (tgt := 48) dX12_laysWord_17 (by decide) (fun c => ?_) (fun c => ?_)
  · have h := h.1 c
    exact gG_exit ⟨rfl, rfl, rfl, dX12_laysWord_48, rfl, h⟩
  · have h := h.2 c
    refine gG_aload_n dX12_laysWord_20 rfl rfl ?_
    obtain ⟨fs, q1, e1, e2, h⟩ := h
    refine gG_gr dX12_laysWord_21 fl_X12_105 ⟨fs, q1, e1, e2, ?_⟩
    refine gG_bipush (v := 7) dX12_laysWord_24 (by decide) ?_
    refine gG_iload_n dX12_laysWord_26 rfl rfl ?_
    refine gG_imul dX12_laysWord_27 ?_
    refine gG_iload_n dX12_laysWord_28 rfl rfl ?_
    refine gG_iadd dX12_laysWord_29 ?_
    refine gG_aload_n dX12_laysWord_30 rfl rfl ?_
    obtain ⟨fs, q2, e1, e2, h⟩ := h
    refine gG_gr dX12_laysWord_31 fl_X12_105 ⟨fs, q2, e1, e2, ?_⟩
    refine gG_bipush (v := 7) dX12_laysWord_34 (by decide) ?_
    refine gG_iload_n dX12_laysWord_36 rfl rfl ?_
    refine gG_imul dX12_laysWord_37 ?_
    refine gG_iload_n dX12_laysWord_38 rfl rfl ?_
    refine gG_iadd dX12_laysWord_39 ?_
    obtain ⟨m0, f0, e1, e2, h⟩ := h
    refine gG_iald dX12_laysWord_40 ⟨m0, f0, e1, e2, ?_⟩
    obtain ⟨x3, eH⟩ : ∃ z, z = f0 (Int32.toNatClampNeg ((((7 : Int32) * i1) + i3))) := ⟨_, rfl⟩
    rw [← eH] at h ⊢
    obtain ⟨m0, f0, e1, e2, h⟩ := h
    refine gG_iast dX12_laysWord_41 ⟨m0, f0, e1, e2, ?_⟩
    obtain ⟨H4, eH⟩ : ∃ z, z = va_up H (q1) (.inl (0, m0, .inl (upd f0 (Int32.toNatClampNeg ((((7 : Int32) * i2) + i3))) (x3)))) := ⟨_, rfl⟩
    rw [← eH] at h ⊢
    refine gG_iinc (v := i3 + 1) dX12_laysWord_42 rfl rfl (Nat.le_of_ble_eq_true rfl) ?_
    refine gG_goto (tgt := 14) dX12_laysWord_45 (by decide) ?_
    refine gG_locals ?_ h
    exact ⟨rfl, ⟨rfl, ⟨rfl, ⟨rfl, trivial⟩⟩⟩⟩

theorem kX12_laysSeen_0 {d n : Nat} {H : gHp} {P : gHp → Prop} {a0 : Nat} {i1 : Int32} {i2 : Int32} (h : g_gr H (a0) 12 44 (fun q1 => g_gr H (a0) 12 44 (fun q2 => g_al 0 H (q2) (i1) (fun x3 => g_as 0 H (q1) (i2) (x3) (fun H4 => gG d mX12_laysSeen 0 0 (g_Xv mX12_laysSeen n 0 0 P) 14 n H4 [some (.ref (a0)), some (.int (i1)), some (.int (i2)), some (.int ((0 : Int32)))] [] (0) (0)))))) : gG d mX12_laysSeen 0 0 (g_Xv mX12_laysSeen n 0 0 P) 0 n H [some (.ref (a0)), some (.int (i1)), some (.int (i2)), none] [] 0 0 := by
  refine gG_aload_n dX12_laysSeen_0 rfl rfl ?_
  obtain ⟨fs, q1, e1, e2, h⟩ := h
  refine gG_gr dX12_laysSeen_1 fl_X12_108 ⟨fs, q1, e1, e2, ?_⟩
  refine gG_iload_n dX12_laysSeen_4 rfl rfl ?_
  refine gG_aload_n dX12_laysSeen_5 rfl rfl ?_
  obtain ⟨fs, q2, e1, e2, h⟩ := h
  refine gG_gr dX12_laysSeen_6 fl_X12_108 ⟨fs, q2, e1, e2, ?_⟩
  refine gG_iload_n dX12_laysSeen_9 rfl rfl ?_
  obtain ⟨m0, f0, e1, e2, h⟩ := h
  refine gG_iald dX12_laysSeen_10 ⟨m0, f0, e1, e2, ?_⟩
  obtain ⟨x3, eH⟩ : ∃ z, z = f0 (Int32.toNatClampNeg (i1)) := ⟨_, rfl⟩
  rw [← eH] at h ⊢
  obtain ⟨m0, f0, e1, e2, h⟩ := h
  refine gG_iast dX12_laysSeen_11 ⟨m0, f0, e1, e2, ?_⟩
  obtain ⟨H4, eH⟩ : ∃ z, z = va_up H (q1) (.inl (0, m0, .inl (upd f0 (Int32.toNatClampNeg (i2)) (x3)))) := ⟨_, rfl⟩
  rw [← eH] at h ⊢
  refine gG_iconst (v := 0) dX12_laysSeen_12 (by decide) ?_
  refine gG_istore_n dX12_laysSeen_13 rfl (Nat.le_of_ble_eq_true rfl) ?_
  refine gG_locals ?_ h
  exact ⟨rfl, ⟨rfl, ⟨rfl, ⟨rfl, trivial⟩⟩⟩⟩
theorem kX12_laysSeen_14 {d n : Nat} {H : gHp} {P : gHp → Prop} {a0 : Nat} {i1 : Int32} {i2 : Int32} {i3 : Int32} (h : ((8 : Int32) ≤ i3 → P H) ∧ (¬ ((8 : Int32) ≤ i3) → g_gr H (a0) 12 45 (fun q1 => g_gr H (a0) 12 45 (fun q2 => g_al 0 H (q2) ((((8 : Int32) * i1) + i3)) (fun x3 => g_as 0 H (q1) ((((8 : Int32) * i2) + i3)) (x3) (fun H4 => g_gr H4 (a0) 12 46 (fun q5 => g_gr H4 (a0) 12 46 (fun q6 => g_al 3 H4 (q6) ((((8 : Int32) * i1) + i3)) (fun x7 => g_as 3 H4 (q5) ((((8 : Int32) * i2) + i3)) (vp_nar .boolean (x7)) (fun H8 => gG d mX12_laysSeen 0 0 (g_Xv mX12_laysSeen n 0 0 P) 14 n H8 [some (.ref (a0)), some (.int (i1)), some (.int (i2)), some (.int ((i3 + 1)))] [] (0) (0))))))))))) : gG d mX12_laysSeen 0 0 (g_Xv mX12_laysSeen n 0 0 P) 14 n H [some (.ref (a0)), some (.int (i1)), some (.int (i2)), some (.int (i3))] [] 0 0 := by
  refine gG_iload_n dX12_laysSeen_14 rfl rfl ?_
  refine gG_bipush (v := 8) dX12_laysSeen_15 (by decide) ?_
  refine gG_ic_ge (tgt := 70) dX12_laysSeen_17 (by decide) (fun c => ?_) (fun c => ?_)
  · have h := h.1 c
    exact gG_exit ⟨rfl, rfl, rfl, dX12_laysSeen_70, rfl, h⟩
  · have h := h.2 c
    refine gG_aload_n dX12_laysSeen_20 rfl rfl ?_
    obtain ⟨fs, q1, e1, e2, h⟩ := h
    refine gG_gr dX12_laysSeen_21 fl_X12_111 ⟨fs, q1, e1, e2, ?_⟩
    refine gG_bipush (v := 8) dX12_laysSeen_24 (by decide) ?_
    refine gG_iload_n dX12_laysSeen_26 rfl rfl ?_
    refine gG_imul dX12_laysSeen_27 ?_
    refine gG_iload_n dX12_laysSeen_28 rfl rfl ?_
    refine gG_iadd dX12_laysSeen_29 ?_
    refine gG_aload_n dX12_laysSeen_30 rfl rfl ?_
    obtain ⟨fs, q2, e1, e2, h⟩ := h
    refine gG_gr dX12_laysSeen_31 fl_X12_111 ⟨fs, q2, e1, e2, ?_⟩
    refine gG_bipush (v := 8) dX12_laysSeen_34 (by decide) ?_
    refine gG_iload_n dX12_laysSeen_36 rfl rfl ?_
    refine gG_imul dX12_laysSeen_37 ?_
    refine gG_iload_n dX12_laysSeen_38 rfl rfl ?_
    refine gG_iadd dX12_laysSeen_39 ?_
    obtain ⟨m0, f0, e1, e2, h⟩ := h
    refine gG_iald dX12_laysSeen_40 ⟨m0, f0, e1, e2, ?_⟩
    obtain ⟨x3, eH⟩ : ∃ z, z = f0 (Int32.toNatClampNeg ((((8 : Int32) * i1) + i3))) := ⟨_, rfl⟩
    rw [← eH] at h ⊢
    obtain ⟨m0, f0, e1, e2, h⟩ := h
    refine gG_iast dX12_laysSeen_41 ⟨m0, f0, e1, e2, ?_⟩
    obtain ⟨H4, eH⟩ : ∃ z, z = va_up H (q1) (.inl (0, m0, .inl (upd f0 (Int32.toNatClampNeg ((((8 : Int32) * i2) + i3))) (x3)))) := ⟨_, rfl⟩
    rw [← eH] at h ⊢
    refine gG_aload_n dX12_laysSeen_42 rfl rfl ?_
    obtain ⟨fs, q5, e1, e2, h⟩ := h
    refine gG_gr dX12_laysSeen_43 fl_X12_114 ⟨fs, q5, e1, e2, ?_⟩
    refine gG_bipush (v := 8) dX12_laysSeen_46 (by decide) ?_
    refine gG_iload_n dX12_laysSeen_48 rfl rfl ?_
    refine gG_imul dX12_laysSeen_49 ?_
    refine gG_iload_n dX12_laysSeen_50 rfl rfl ?_
    refine gG_iadd dX12_laysSeen_51 ?_
    refine gG_aload_n dX12_laysSeen_52 rfl rfl ?_
    obtain ⟨fs, q6, e1, e2, h⟩ := h
    refine gG_gr dX12_laysSeen_53 fl_X12_114 ⟨fs, q6, e1, e2, ?_⟩
    refine gG_bipush (v := 8) dX12_laysSeen_56 (by decide) ?_
    refine gG_iload_n dX12_laysSeen_58 rfl rfl ?_
    refine gG_imul dX12_laysSeen_59 ?_
    refine gG_iload_n dX12_laysSeen_60 rfl rfl ?_
    refine gG_iadd dX12_laysSeen_61 ?_
    obtain ⟨m0, f0, e1, e2, h⟩ := h
    refine gG_zald dX12_laysSeen_62 ⟨m0, f0, e1, e2, ?_⟩
    obtain ⟨x7, eH⟩ : ∃ z, z = f0 (Int32.toNatClampNeg ((((8 : Int32) * i1) + i3))) := ⟨_, rfl⟩
    rw [← eH] at h ⊢
    obtain ⟨m0, f0, e1, e2, h⟩ := h
    refine gG_zast dX12_laysSeen_63 ⟨m0, f0, e1, e2, ?_⟩
    obtain ⟨H8, eH⟩ : ∃ z, z = va_up H4 (q5) (.inl (3, m0, .inl (upd f0 (Int32.toNatClampNeg ((((8 : Int32) * i2) + i3))) (vp_nar .boolean (x7))))) := ⟨_, rfl⟩
    rw [← eH] at h ⊢
    refine gG_iinc (v := i3 + 1) dX12_laysSeen_64 rfl rfl (Nat.le_of_ble_eq_true rfl) ?_
    refine gG_goto (tgt := 14) dX12_laysSeen_67 (by decide) ?_
    refine gG_locals ?_ h
    exact ⟨rfl, ⟨rfl, ⟨rfl, ⟨rfl, trivial⟩⟩⟩⟩

theorem kX12_laysOrder_0 {d n : Nat} {H : gHp} {P : gHp → Prop} {a0 : Nat} (h : gG d mX12_laysOrder 0 0 (g_Xv mX12_laysOrder n 0 0 P) 2 n H [some (.ref (a0)), some (.int ((0 : Int32))), none, none] [] (0) (0)) : gG d mX12_laysOrder 0 0 (g_Xv mX12_laysOrder n 0 0 P) 0 n H [some (.ref (a0)), none, none, none] [] 0 0 := by
  refine gG_iconst (v := 0) dX12_laysOrder_0 (by decide) ?_
  refine gG_istore_n dX12_laysOrder_1 rfl (Nat.le_of_ble_eq_true rfl) ?_
  refine gG_locals ?_ h
  exact ⟨rfl, ⟨rfl, trivial⟩⟩
theorem kX12_laysOrder_2 {d n : Nat} {H : gHp} {P : gHp → Prop} {a0 : Nat} {i1 : Int32} (h : g_gr H (a0) 12 10 (fun q1 => g_al 0 H (q1) ((0 : Int32)) (fun x2 => (x2 ≤ i1 → P H) ∧ (¬ (x2 ≤ i1) → gG d mX12_laysOrder 0 0 (g_Xv mX12_laysOrder n 0 0 P) 16 n H [some (.ref (a0)), some (.int (i1)), some (.int ((0 : Int32))), some (.int ((0 : Int32)))] [] (0) (0))))) : gG d mX12_laysOrder 0 0 (g_Xv mX12_laysOrder n 0 0 P) 2 n H [some (.ref (a0)), some (.int (i1)), none, none] [] 0 0 := by
  refine gG_iload_n dX12_laysOrder_2 rfl rfl ?_
  refine gG_aload_n dX12_laysOrder_3 rfl rfl ?_
  obtain ⟨fs, q1, e1, e2, h⟩ := h
  refine gG_gr dX12_laysOrder_4 fl_X12_13 ⟨fs, q1, e1, e2, ?_⟩
  refine gG_iconst (v := 0) dX12_laysOrder_7 (by decide) ?_
  obtain ⟨m0, f0, e1, e2, h⟩ := h
  refine gG_iald dX12_laysOrder_8 ⟨m0, f0, e1, e2, ?_⟩
  obtain ⟨x2, eH⟩ : ∃ z, z = f0 (Int32.toNatClampNeg ((0 : Int32))) := ⟨_, rfl⟩
  rw [← eH] at h ⊢
  refine gG_ic_ge (tgt := 88) dX12_laysOrder_9 (by decide) (fun c => ?_) (fun c => ?_)
  · have h := h.1 c
    exact gG_exit ⟨rfl, rfl, rfl, dX12_laysOrder_88, rfl, h⟩
  · have h := h.2 c
    refine gG_iconst (v := 0) dX12_laysOrder_12 (by decide) ?_
    refine gG_istore_n dX12_laysOrder_13 rfl (Nat.le_of_ble_eq_true rfl) ?_
    refine gG_iconst (v := 0) dX12_laysOrder_14 (by decide) ?_
    refine gG_istore_n dX12_laysOrder_15 rfl (Nat.le_of_ble_eq_true rfl) ?_
    refine gG_locals ?_ h
    exact ⟨rfl, ⟨rfl, ⟨rfl, ⟨rfl, trivial⟩⟩⟩⟩
theorem kX12_laysOrder_16 {d n : Nat} {H : gHp} {P : gHp → Prop} {a0 : Nat} {i1 : Int32} {i2 : Int32} {i3 : Int32} (h : g_gr H (a0) 12 10 (fun q1 => g_al 0 H (q1) ((0 : Int32)) (fun x2 => (x2 ≤ i3 → g_gr H (a0) 12 54 (fun q3 => g_as 0 H (q3) (i2) (i1) (fun H4 => gG d mX12_laysOrder 0 0 (g_Xv mX12_laysOrder n 0 0 P) 2 n H4 [some (.ref (a0)), some (.int ((i1 + 1))), none, none] [] (0) (0)))) ∧ (¬ (x2 ≤ i3) → g_gr H (a0) 12 14 (fun q5 => g_al 0 H (q5) (i3) (fun x6 => g_gr H (a0) 12 14 (fun q7 => g_al 0 H (q7) (i1) (fun x8 => (x8 < x6 → gG d mX12_laysOrder 0 0 (g_Xv mX12_laysOrder n 0 0 P) 16 n H [some (.ref (a0)), some (.int (i1)), some (.int ((i2 + (1 : Int32)))), some (.int ((i3 + 1)))] [] (0) (0)) ∧ (¬ (x8 < x6) → g_gr H (a0) 12 14 (fun q9 => g_al 0 H (q9) (i3) (fun x10 => g_gr H (a0) 12 14 (fun q11 => g_al 0 H (q11) (i1) (fun x12 => (¬ (x10 = x12) → gG d mX12_laysOrder 0 0 (g_Xv mX12_laysOrder n 0 0 P) 16 n H [some (.ref (a0)), some (.int (i1)), some (.int ((i2 + (0 : Int32)))), some (.int ((i3 + 1)))] [] (0) (0)) ∧ (x10 = x12 → (i1 ≤ i3 → gG d mX12_laysOrder 0 0 (g_Xv mX12_laysOrder n 0 0 P) 16 n H [some (.ref (a0)), some (.int (i1)), some (.int ((i2 + (0 : Int32)))), some (.int ((i3 + 1)))] [] (0) (0)) ∧ (¬ (i1 ≤ i3) → gG d mX12_laysOrder 0 0 (g_Xv mX12_laysOrder n 0 0 P) 16 n H [some (.ref (a0)), some (.int (i1)), some (.int ((i2 + (1 : Int32)))), some (.int ((i3 + 1)))] [] (0) (0)))))))))))))))) : gG d mX12_laysOrder 0 0 (g_Xv mX12_laysOrder n 0 0 P) 16 n H [some (.ref (a0)), some (.int (i1)), some (.int (i2)), some (.int (i3))] [] 0 0 := by
  refine gG_iload_n dX12_laysOrder_16 rfl rfl ?_
  refine gG_aload_n dX12_laysOrder_17 rfl rfl ?_
  obtain ⟨fs, q1, e1, e2, h⟩ := h
  refine gG_gr dX12_laysOrder_18 fl_X12_13 ⟨fs, q1, e1, e2, ?_⟩
  refine gG_iconst (v := 0) dX12_laysOrder_21 (by decide) ?_
  obtain ⟨m0, f0, e1, e2, h⟩ := h
  refine gG_iald dX12_laysOrder_22 ⟨m0, f0, e1, e2, ?_⟩
  obtain ⟨x2, eH⟩ : ∃ z, z = f0 (Int32.toNatClampNeg ((0 : Int32))) := ⟨_, rfl⟩
  rw [← eH] at h ⊢
  refine gG_ic_ge (tgt := 75) dX12_laysOrder_23 (by decide) (fun c => ?_) (fun c => ?_)
  · have h := h.1 c
    refine gG_aload_n dX12_laysOrder_75 rfl rfl ?_
    obtain ⟨fs, q3, e1, e2, h⟩ := h
    refine gG_gr dX12_laysOrder_76 fl_X12_135 ⟨fs, q3, e1, e2, ?_⟩
    refine gG_iload_n dX12_laysOrder_79 rfl rfl ?_
    refine gG_iload_n dX12_laysOrder_80 rfl rfl ?_
    obtain ⟨m0, f0, e1, e2, h⟩ := h
    refine gG_iast dX12_laysOrder_81 ⟨m0, f0, e1, e2, ?_⟩
    obtain ⟨H4, eH⟩ : ∃ z, z = va_up H (q3) (.inl (0, m0, .inl (upd f0 (Int32.toNatClampNeg (i2)) (i1)))) := ⟨_, rfl⟩
    rw [← eH] at h ⊢
    refine gG_iinc (v := i1 + 1) dX12_laysOrder_82 rfl rfl (Nat.le_of_ble_eq_true rfl) ?_
    refine gG_goto (tgt := 2) dX12_laysOrder_85 (by decide) ?_
    refine gG_locals ?_ h
    exact ⟨rfl, ⟨rfl, trivial⟩⟩
  · have h := h.2 c
    refine gG_iload_n dX12_laysOrder_26 rfl rfl ?_
    refine gG_aload_n dX12_laysOrder_27 rfl rfl ?_
    obtain ⟨fs, q5, e1, e2, h⟩ := h
    refine gG_gr dX12_laysOrder_28 fl_X12_26 ⟨fs, q5, e1, e2, ?_⟩
    refine gG_iload_n dX12_laysOrder_31 rfl rfl ?_
    obtain ⟨m0, f0, e1, e2, h⟩ := h
    refine gG_iald dX12_laysOrder_32 ⟨m0, f0, e1, e2, ?_⟩
    obtain ⟨x6, eH⟩ : ∃ z, z = f0 (Int32.toNatClampNeg (i3)) := ⟨_, rfl⟩
    rw [← eH] at h ⊢
    refine gG_aload_n dX12_laysOrder_33 rfl rfl ?_
    obtain ⟨fs, q7, e1, e2, h⟩ := h
    refine gG_gr dX12_laysOrder_34 fl_X12_26 ⟨fs, q7, e1, e2, ?_⟩
    refine gG_iload_n dX12_laysOrder_37 rfl rfl ?_
    obtain ⟨m0, f0, e1, e2, h⟩ := h
    refine gG_iald dX12_laysOrder_38 ⟨m0, f0, e1, e2, ?_⟩
    obtain ⟨x8, eH⟩ : ∃ z, z = f0 (Int32.toNatClampNeg (i1)) := ⟨_, rfl⟩
    rw [← eH] at h ⊢
    refine gG_ic_gt (tgt := 62) dX12_laysOrder_39 (by decide) (fun c => ?_) (fun c => ?_)
    · have h := h.1 c
      refine gG_iconst (v := 1) dX12_laysOrder_62 (by decide) ?_
      refine gG_goto (tgt := 67) dX12_laysOrder_63 (by decide) ?_
      refine gG_iadd dX12_laysOrder_67 ?_
      refine gG_istore_n dX12_laysOrder_68 rfl (Nat.le_of_ble_eq_true rfl) ?_
      refine gG_iinc (v := i3 + 1) dX12_laysOrder_69 rfl rfl (Nat.le_of_ble_eq_true rfl) ?_
      refine gG_goto (tgt := 16) dX12_laysOrder_72 (by decide) ?_
      refine gG_locals ?_ h
      exact ⟨rfl, ⟨rfl, ⟨rfl, ⟨rfl, trivial⟩⟩⟩⟩
    · have h := h.2 c
      refine gG_aload_n dX12_laysOrder_42 rfl rfl ?_
      obtain ⟨fs, q9, e1, e2, h⟩ := h
      refine gG_gr dX12_laysOrder_43 fl_X12_26 ⟨fs, q9, e1, e2, ?_⟩
      refine gG_iload_n dX12_laysOrder_46 rfl rfl ?_
      obtain ⟨m0, f0, e1, e2, h⟩ := h
      refine gG_iald dX12_laysOrder_47 ⟨m0, f0, e1, e2, ?_⟩
      obtain ⟨x10, eH⟩ : ∃ z, z = f0 (Int32.toNatClampNeg (i3)) := ⟨_, rfl⟩
      rw [← eH] at h ⊢
      refine gG_aload_n dX12_laysOrder_48 rfl rfl ?_
      obtain ⟨fs, q11, e1, e2, h⟩ := h
      refine gG_gr dX12_laysOrder_49 fl_X12_26 ⟨fs, q11, e1, e2, ?_⟩
      refine gG_iload_n dX12_laysOrder_52 rfl rfl ?_
      obtain ⟨m0, f0, e1, e2, h⟩ := h
      refine gG_iald dX12_laysOrder_53 ⟨m0, f0, e1, e2, ?_⟩
      obtain ⟨x12, eH⟩ : ∃ z, z = f0 (Int32.toNatClampNeg (i1)) := ⟨_, rfl⟩
      rw [← eH] at h ⊢
      refine gG_ic_ne (tgt := 66) dX12_laysOrder_54 (by decide) (fun c => ?_) (fun c => ?_)
      · have h := h.1 c
        refine gG_iconst (v := 0) dX12_laysOrder_66 (by decide) ?_
        refine gG_iadd dX12_laysOrder_67 ?_
        refine gG_istore_n dX12_laysOrder_68 rfl (Nat.le_of_ble_eq_true rfl) ?_
        refine gG_iinc (v := i3 + 1) dX12_laysOrder_69 rfl rfl (Nat.le_of_ble_eq_true rfl) ?_
        refine gG_goto (tgt := 16) dX12_laysOrder_72 (by decide) ?_
        refine gG_locals ?_ h
        exact ⟨rfl, ⟨rfl, ⟨rfl, ⟨rfl, trivial⟩⟩⟩⟩
      · have h := h.2 c
        refine gG_iload_n dX12_laysOrder_57 rfl rfl ?_
        refine gG_iload_n dX12_laysOrder_58 rfl rfl ?_
        refine gG_ic_ge (tgt := 66) dX12_laysOrder_59 (by decide) (fun c => ?_) (fun c => ?_)
        · have h := h.1 c
          refine gG_iconst (v := 0) dX12_laysOrder_66 (by decide) ?_
          refine gG_iadd dX12_laysOrder_67 ?_
          refine gG_istore_n dX12_laysOrder_68 rfl (Nat.le_of_ble_eq_true rfl) ?_
          refine gG_iinc (v := i3 + 1) dX12_laysOrder_69 rfl rfl (Nat.le_of_ble_eq_true rfl) ?_
          refine gG_goto (tgt := 16) dX12_laysOrder_72 (by decide) ?_
          refine gG_locals ?_ h
          exact ⟨rfl, ⟨rfl, ⟨rfl, ⟨rfl, trivial⟩⟩⟩⟩
        · have h := h.2 c
          refine gG_iconst (v := 1) dX12_laysOrder_62 (by decide) ?_
          refine gG_goto (tgt := 67) dX12_laysOrder_63 (by decide) ?_
          refine gG_iadd dX12_laysOrder_67 ?_
          refine gG_istore_n dX12_laysOrder_68 rfl (Nat.le_of_ble_eq_true rfl) ?_
          refine gG_iinc (v := i3 + 1) dX12_laysOrder_69 rfl rfl (Nat.le_of_ble_eq_true rfl) ?_
          refine gG_goto (tgt := 16) dX12_laysOrder_72 (by decide) ?_
          refine gG_locals ?_ h
          exact ⟨rfl, ⟨rfl, ⟨rfl, ⟨rfl, trivial⟩⟩⟩⟩

theorem kX12_fresh0_0 {d n : Nat} {H : gHp} {P : gHp → Prop} {a0 : Nat} (h : gG d mX12_fresh0 0 0 (g_Xv mX12_fresh0 n 0 0 P) 2 n H [some (.ref (a0)), some (.int ((0 : Int32)))] [] (0) (0)) : gG d mX12_fresh0 0 0 (g_Xv mX12_fresh0 n 0 0 P) 0 n H [some (.ref (a0)), none] [] 0 0 := by
  refine gG_iconst (v := 0) dX12_fresh0_0 (by decide) ?_
  refine gG_istore_n dX12_fresh0_1 rfl (Nat.le_of_ble_eq_true rfl) ?_
  refine gG_locals ?_ h
  exact ⟨rfl, ⟨rfl, trivial⟩⟩
theorem kX12_fresh0_2 {d n : Nat} {H : gHp} {P : gHp → Prop} {a0 : Nat} {i1 : Int32} (h : ((59 : Int32) ≤ i1 → g_gr H (a0) 12 47 (fun q1 => g_as 0 H (q1) ((3 : Int32)) ((-1 : Int32)) (fun H2 => gG d mX12_fresh0 0 0 (g_Xv mX12_fresh0 n 0 0 P) 30 n H2 [some (.ref (a0)), some (.int ((0 : Int32)))] [] (0) (0)))) ∧ (¬ ((59 : Int32) ≤ i1) → g_gr H (a0) 12 47 (fun q3 => g_as 0 H (q3) (i1) ((0 : Int32)) (fun H4 => gG d mX12_fresh0 0 0 (g_Xv mX12_fresh0 n 0 0 P) 2 n H4 [some (.ref (a0)), some (.int ((i1 + 1)))] [] (0) (0))))) : gG d mX12_fresh0 0 0 (g_Xv mX12_fresh0 n 0 0 P) 2 n H [some (.ref (a0)), some (.int (i1))] [] 0 0 := by
  refine gG_iload_n dX12_fresh0_2 rfl rfl ?_
  refine gG_bipush (v := 59) dX12_fresh0_3 (by decide) ?_
  refine gG_ic_ge (tgt := 21) dX12_fresh0_5 (by decide) (fun c => ?_) (fun c => ?_)
  · have h := h.1 c
    refine gG_aload_n dX12_fresh0_21 rfl rfl ?_
    obtain ⟨fs, q1, e1, e2, h⟩ := h
    refine gG_gr dX12_fresh0_22 fl_X12_117 ⟨fs, q1, e1, e2, ?_⟩
    refine gG_iconst (v := 3) dX12_fresh0_25 (by decide) ?_
    refine gG_iconst (v := (-1)) dX12_fresh0_26 (by decide) ?_
    obtain ⟨m0, f0, e1, e2, h⟩ := h
    refine gG_iast dX12_fresh0_27 ⟨m0, f0, e1, e2, ?_⟩
    obtain ⟨H2, eH⟩ : ∃ z, z = va_up H (q1) (.inl (0, m0, .inl (upd f0 (Int32.toNatClampNeg ((3 : Int32))) ((-1 : Int32))))) := ⟨_, rfl⟩
    rw [← eH] at h ⊢
    refine gG_iconst (v := 0) dX12_fresh0_28 (by decide) ?_
    refine gG_istore_n dX12_fresh0_29 rfl (Nat.le_of_ble_eq_true rfl) ?_
    refine gG_locals ?_ h
    exact ⟨rfl, ⟨rfl, trivial⟩⟩
  · have h := h.2 c
    refine gG_aload_n dX12_fresh0_8 rfl rfl ?_
    obtain ⟨fs, q3, e1, e2, h⟩ := h
    refine gG_gr dX12_fresh0_9 fl_X12_117 ⟨fs, q3, e1, e2, ?_⟩
    refine gG_iload_n dX12_fresh0_12 rfl rfl ?_
    refine gG_iconst (v := 0) dX12_fresh0_13 (by decide) ?_
    obtain ⟨m0, f0, e1, e2, h⟩ := h
    refine gG_iast dX12_fresh0_14 ⟨m0, f0, e1, e2, ?_⟩
    obtain ⟨H4, eH⟩ : ∃ z, z = va_up H (q3) (.inl (0, m0, .inl (upd f0 (Int32.toNatClampNeg (i1)) ((0 : Int32))))) := ⟨_, rfl⟩
    rw [← eH] at h ⊢
    refine gG_iinc (v := i1 + 1) dX12_fresh0_15 rfl rfl (Nat.le_of_ble_eq_true rfl) ?_
    refine gG_goto (tgt := 2) dX12_fresh0_18 (by decide) ?_
    refine gG_locals ?_ h
    exact ⟨rfl, ⟨rfl, trivial⟩⟩
theorem kX12_fresh0_30 {d n : Nat} {H : gHp} {P : gHp → Prop} {a0 : Nat} {i1 : Int32} (h : g_gr H (a0) 12 10 (fun q1 => g_al 0 H (q1) ((0 : Int32)) (fun x2 => (x2 ≤ i1 → P H) ∧ (¬ (x2 ≤ i1) → g_gr H (a0) 12 47 (fun q3 => g_al 0 H (q3) ((1 : Int32)) (fun x4 => g_gr H (a0) 12 13 (fun q5 => g_al 0 H (q5) (i1) (fun x6 => (¬ (x6 = (3 : Int32)) → g_as 0 H (q3) ((1 : Int32)) ((x4 ||| (0 : Int32))) (fun H7 => gG d mX12_fresh0 0 0 (g_Xv mX12_fresh0 n 0 0 P) 30 n H7 [some (.ref (a0)), some (.int ((i1 + 1)))] [] (0) (0))) ∧ (x6 = (3 : Int32) → g_as 0 H (q3) ((1 : Int32)) ((x4 ||| ((1 : Int32) <<< (i1 &&& 31)))) (fun H8 => gG d mX12_fresh0 0 0 (g_Xv mX12_fresh0 n 0 0 P) 30 n H8 [some (.ref (a0)), some (.int ((i1 + 1)))] [] (0) (0))))))))))) : gG d mX12_fresh0 0 0 (g_Xv mX12_fresh0 n 0 0 P) 30 n H [some (.ref (a0)), some (.int (i1))] [] 0 0 := by
  refine gG_iload_n dX12_fresh0_30 rfl rfl ?_
  refine gG_aload_n dX12_fresh0_31 rfl rfl ?_
  obtain ⟨fs, q1, e1, e2, h⟩ := h
  refine gG_gr dX12_fresh0_32 fl_X12_13 ⟨fs, q1, e1, e2, ?_⟩
  refine gG_iconst (v := 0) dX12_fresh0_35 (by decide) ?_
  obtain ⟨m0, f0, e1, e2, h⟩ := h
  refine gG_iald dX12_fresh0_36 ⟨m0, f0, e1, e2, ?_⟩
  obtain ⟨x2, eH⟩ : ∃ z, z = f0 (Int32.toNatClampNeg ((0 : Int32))) := ⟨_, rfl⟩
  rw [← eH] at h ⊢
  refine gG_ic_ge (tgt := 72) dX12_fresh0_37 (by decide) (fun c => ?_) (fun c => ?_)
  · have h := h.1 c
    exact gG_exit ⟨rfl, rfl, rfl, dX12_fresh0_72, rfl, h⟩
  · have h := h.2 c
    refine gG_aload_n dX12_fresh0_40 rfl rfl ?_
    obtain ⟨fs, q3, e1, e2, h⟩ := h
    refine gG_gr dX12_fresh0_41 fl_X12_117 ⟨fs, q3, e1, e2, ?_⟩
    refine gG_iconst (v := 1) dX12_fresh0_44 (by decide) ?_
    refine gG_dup2 dX12_fresh0_45 rfl rfl ?_
    obtain ⟨m0, f0, e1, e2, h⟩ := h
    refine gG_iald dX12_fresh0_46 ⟨m0, f0, e1, e2, ?_⟩
    obtain ⟨x4, eH⟩ : ∃ z, z = f0 (Int32.toNatClampNeg ((1 : Int32))) := ⟨_, rfl⟩
    rw [← eH] at h ⊢
    refine gG_aload_n dX12_fresh0_47 rfl rfl ?_
    obtain ⟨fs, q5, e1, e2, h⟩ := h
    refine gG_gr dX12_fresh0_48 fl_X12_23 ⟨fs, q5, e1, e2, ?_⟩
    refine gG_iload_n dX12_fresh0_51 rfl rfl ?_
    obtain ⟨m0, f0, e1, e2, h⟩ := h
    refine gG_iald dX12_fresh0_52 ⟨m0, f0, e1, e2, ?_⟩
    obtain ⟨x6, eH⟩ : ∃ z, z = f0 (Int32.toNatClampNeg (i1)) := ⟨_, rfl⟩
    rw [← eH] at h ⊢
    refine gG_iconst (v := 3) dX12_fresh0_53 (by decide) ?_
    refine gG_ic_ne (tgt := 63) dX12_fresh0_54 (by decide) (fun c => ?_) (fun c => ?_)
    · have h := h.1 c
      refine gG_iconst (v := 0) dX12_fresh0_63 (by decide) ?_
      refine gG_ior dX12_fresh0_64 ?_
      obtain ⟨m0, f0, e1, e2, h⟩ := h
      refine gG_iast dX12_fresh0_65 ⟨m0, f0, e1, e2, ?_⟩
      obtain ⟨H7, eH⟩ : ∃ z, z = va_up H (q3) (.inl (0, m0, .inl (upd f0 (Int32.toNatClampNeg ((1 : Int32))) ((x4 ||| (0 : Int32)))))) := ⟨_, rfl⟩
      rw [← eH] at h ⊢
      refine gG_iinc (v := i1 + 1) dX12_fresh0_66 rfl rfl (Nat.le_of_ble_eq_true rfl) ?_
      refine gG_goto (tgt := 30) dX12_fresh0_69 (by decide) ?_
      refine gG_locals ?_ h
      exact ⟨rfl, ⟨rfl, trivial⟩⟩
    · have h := h.2 c
      refine gG_iconst (v := 1) dX12_fresh0_57 (by decide) ?_
      refine gG_iload_n dX12_fresh0_58 rfl rfl ?_
      refine gG_ishl dX12_fresh0_59 ?_
      refine gG_goto (tgt := 64) dX12_fresh0_60 (by decide) ?_
      refine gG_ior dX12_fresh0_64 ?_
      obtain ⟨m0, f0, e1, e2, h⟩ := h
      refine gG_iast dX12_fresh0_65 ⟨m0, f0, e1, e2, ?_⟩
      obtain ⟨H8, eH⟩ : ∃ z, z = va_up H (q3) (.inl (0, m0, .inl (upd f0 (Int32.toNatClampNeg ((1 : Int32))) ((x4 ||| ((1 : Int32) <<< (i1 &&& 31))))))) := ⟨_, rfl⟩
      rw [← eH] at h ⊢
      refine gG_iinc (v := i1 + 1) dX12_fresh0_66 rfl rfl (Nat.le_of_ble_eq_true rfl) ?_
      refine gG_goto (tgt := 30) dX12_fresh0_69 (by decide) ?_
      refine gG_locals ?_ h
      exact ⟨rfl, ⟨rfl, trivial⟩⟩

theorem kX12_front_0 {d n : Nat} {H : gHp} {P : gHp → Int32 → Prop} {a0 : Nat} (h : g_pf H (a0) 12 0 (.int ((0 : Int32))) (fun H1 => (∃ fs, H1 (a0) = .inr (12, fs)) ∧ g_cz d mX12_readsAll n H1 [.ref (a0)] (fun H2 b3 => (b3 = true → (∃ fs, H2 (a0) = .inr (12, fs)) ∧ g_cvd d mX12_lays n H2 [.ref (a0)] (fun H4 => (∃ fs, H4 (a0) = .inr (12, fs)) ∧ g_cvd d mX12_laysOrder n H4 [.ref (a0)] (fun H5 => (∃ fs, H5 (a0) = .inr (12, fs)) ∧ g_cvd d mX12_fresh0 n H5 [.ref (a0)] (fun H6 => g_gr H6 (a0) 12 38 (fun q7 => g_as 0 H6 (q7) ((0 : Int32)) ((0 : Int32)) (fun H8 => g_gr H8 (a0) 12 42 (fun q9 => g_as 0 H8 (q9) ((0 : Int32)) ((0 : Int32)) (fun H10 => g_gr H10 (a0) 12 44 (fun q11 => g_as 0 H10 (q11) ((0 : Int32)) ((0 : Int32)) (fun H12 => g_pf H12 (a0) 12 53 (.int ((0 : Int32))) (fun H13 => gG d mX12_front 0 0 (g_Xj mX12_front n 0 0 P) 57 n H13 [some (.ref (a0)), some (.int ((0 : Int32)))] [] (0) (0)))))))))))) ∧ (b3 = false → g_gi H2 (a0) 12 9 (fun x14 => P H2 (x14)))))) : gG d mX12_front 0 0 (g_Xj mX12_front n 0 0 P) 0 n H [some (.ref (a0)), none] [] 0 0 := by
  refine gG_aload_n dX12_front_0 rfl rfl ?_
  refine gG_iconst (v := 0) dX12_front_1 (by decide) ?_
  obtain ⟨fs, e1, e2, h⟩ := h
  refine gG_pi dX12_front_2 fl_X12_147 ⟨fs, e1, e2, ?_⟩
  obtain ⟨H1, eH⟩ : ∃ z, z = va_up H (a0) (.inr (12, fs.set 0 (.int ((0 : Int32))))) := ⟨_, rfl⟩
  rw [← eH] at h ⊢
  refine gG_aload_n dX12_front_5 rfl rfl ?_
  obtain ⟨hrc, d2, P2, hdd, hC, h⟩ := h
  refine gG_cvi (As := []) (st := []) dX12_front_6 mV_X12_334 hdd hrc rfl rfl (Nat.le_of_ble_eq_true rfl) (Nat.le_refl _) ⟨Nat.le_refl _, Nat.le_refl _⟩ hC (fun H2 x9 hp => ?_)
  obtain ⟨b3, rfl, hp⟩ := hp
  have h := h H2 b3 hp
  refine gG_if_ne (tgt := 17) dX12_front_9 (by decide) (fun c => ?_) (fun c => ?_)
  · have h := h.1 (g_b_t c)
    refine gG_aload_n dX12_front_17 rfl rfl ?_
    obtain ⟨hrc, d2, P2, hdd, hC, h⟩ := h
    refine gG_cvv (As := []) (st := []) dX12_front_18 mV_X12_337 hdd hrc rfl rfl (Nat.le_of_ble_eq_true rfl) (Nat.le_refl _) ⟨Nat.le_refl _, Nat.le_refl _⟩ hC (fun H4 hp => ?_)
    have h := h H4 hp
    refine gG_aload_n dX12_front_21 rfl rfl ?_
    obtain ⟨hrc, d2, P2, hdd, hC, h⟩ := h
    refine gG_cvv (As := []) (st := []) dX12_front_22 mV_X12_340 hdd hrc rfl rfl (Nat.le_of_ble_eq_true rfl) (Nat.le_refl _) ⟨Nat.le_refl _, Nat.le_refl _⟩ hC (fun H5 hp => ?_)
    have h := h H5 hp
    refine gG_aload_n dX12_front_25 rfl rfl ?_
    obtain ⟨hrc, d2, P2, hdd, hC, h⟩ := h
    refine gG_cvv (As := []) (st := []) dX12_front_26 mV_X12_144 hdd hrc rfl rfl (Nat.le_of_ble_eq_true rfl) (Nat.le_refl _) ⟨Nat.le_refl _, Nat.le_refl _⟩ hC (fun H6 hp => ?_)
    have h := h H6 hp
    refine gG_aload_n dX12_front_29 rfl rfl ?_
    obtain ⟨fs, q7, e1, e2, h⟩ := h
    refine gG_gr dX12_front_30 fl_X12_90 ⟨fs, q7, e1, e2, ?_⟩
    refine gG_iconst (v := 0) dX12_front_33 (by decide) ?_
    refine gG_iconst (v := 0) dX12_front_34 (by decide) ?_
    obtain ⟨m0, f0, e1, e2, h⟩ := h
    refine gG_iast dX12_front_35 ⟨m0, f0, e1, e2, ?_⟩
    obtain ⟨H8, eH⟩ : ∃ z, z = va_up H6 (q7) (.inl (0, m0, .inl (upd f0 (Int32.toNatClampNeg ((0 : Int32))) ((0 : Int32))))) := ⟨_, rfl⟩
    rw [← eH] at h ⊢
    refine gG_aload_n dX12_front_36 rfl rfl ?_
    obtain ⟨fs, q9, e1, e2, h⟩ := h
    refine gG_gr dX12_front_37 fl_X12_102 ⟨fs, q9, e1, e2, ?_⟩
    refine gG_iconst (v := 0) dX12_front_40 (by decide) ?_
    refine gG_iconst (v := 0) dX12_front_41 (by decide) ?_
    obtain ⟨m0, f0, e1, e2, h⟩ := h
    refine gG_iast dX12_front_42 ⟨m0, f0, e1, e2, ?_⟩
    obtain ⟨H10, eH⟩ : ∃ z, z = va_up H8 (q9) (.inl (0, m0, .inl (upd f0 (Int32.toNatClampNeg ((0 : Int32))) ((0 : Int32))))) := ⟨_, rfl⟩
    rw [← eH] at h ⊢
    refine gG_aload_n dX12_front_43 rfl rfl ?_
    obtain ⟨fs, q11, e1, e2, h⟩ := h
    refine gG_gr dX12_front_44 fl_X12_108 ⟨fs, q11, e1, e2, ?_⟩
    refine gG_iconst (v := 0) dX12_front_47 (by decide) ?_
    refine gG_iconst (v := 0) dX12_front_48 (by decide) ?_
    obtain ⟨m0, f0, e1, e2, h⟩ := h
    refine gG_iast dX12_front_49 ⟨m0, f0, e1, e2, ?_⟩
    obtain ⟨H12, eH⟩ : ∃ z, z = va_up H10 (q11) (.inl (0, m0, .inl (upd f0 (Int32.toNatClampNeg ((0 : Int32))) ((0 : Int32))))) := ⟨_, rfl⟩
    rw [← eH] at h ⊢
    refine gG_aload_n dX12_front_50 rfl rfl ?_
    refine gG_iconst (v := 0) dX12_front_51 (by decide) ?_
    obtain ⟨fs, e1, e2, h⟩ := h
    refine gG_pi dX12_front_52 fl_X12_343 ⟨fs, e1, e2, ?_⟩
    obtain ⟨H13, eH⟩ : ∃ z, z = va_up H12 (a0) (.inr (12, fs.set 53 (.int ((0 : Int32))))) := ⟨_, rfl⟩
    rw [← eH] at h ⊢
    refine gG_iconst (v := 0) dX12_front_55 (by decide) ?_
    refine gG_istore_n dX12_front_56 rfl (Nat.le_of_ble_eq_true rfl) ?_
    refine gG_locals ?_ h
    exact ⟨rfl, ⟨rfl, trivial⟩⟩
  · have h := h.2 (g_b_f c)
    refine gG_aload_n dX12_front_12 rfl rfl ?_
    obtain ⟨fs, x14, e1, e2, h⟩ := h
    refine gG_gi dX12_front_13 fl_X12_183 ⟨fs, x14, e1, e2, ?_⟩
    exact gG_exit ⟨rfl, rfl, rfl, dX12_front_16, _, rfl, h⟩
theorem kX12_front_57 {d n : Nat} {H : gHp} {P : gHp → Int32 → Prop} {a0 : Nat} {i1 : Int32} (h : ((4 : Int32) ≤ i1 → P H ((0 : Int32))) ∧ (¬ ((4 : Int32) ≤ i1) → g_gr H (a0) 12 52 (fun q1 => g_as 3 H (q1) (i1) (vp_nar .boolean ((0 : Int32))) (fun H2 => gG d mX12_front 0 0 (g_Xj mX12_front n 0 0 P) 57 n H2 [some (.ref (a0)), some (.int ((i1 + 1)))] [] (0) (0))))) : gG d mX12_front 0 0 (g_Xj mX12_front n 0 0 P) 57 n H [some (.ref (a0)), some (.int (i1))] [] 0 0 := by
  refine gG_iload_n dX12_front_57 rfl rfl ?_
  refine gG_iconst (v := 4) dX12_front_58 (by decide) ?_
  refine gG_ic_ge (tgt := 75) dX12_front_59 (by decide) (fun c => ?_) (fun c => ?_)
  · have h := h.1 c
    refine gG_iconst (v := 0) dX12_front_75 (by decide) ?_
    exact gG_exit ⟨rfl, rfl, rfl, dX12_front_76, _, rfl, h⟩
  · have h := h.2 c
    refine gG_aload_n dX12_front_62 rfl rfl ?_
    obtain ⟨fs, q1, e1, e2, h⟩ := h
    refine gG_gr dX12_front_63 fl_X12_132 ⟨fs, q1, e1, e2, ?_⟩
    refine gG_iload_n dX12_front_66 rfl rfl ?_
    refine gG_iconst (v := 0) dX12_front_67 (by decide) ?_
    obtain ⟨m0, f0, e1, e2, h⟩ := h
    refine gG_zast dX12_front_68 ⟨m0, f0, e1, e2, ?_⟩
    obtain ⟨H2, eH⟩ : ∃ z, z = va_up H (q1) (.inl (3, m0, .inl (upd f0 (Int32.toNatClampNeg (i1)) (vp_nar .boolean ((0 : Int32)))))) := ⟨_, rfl⟩
    rw [← eH] at h ⊢
    refine gG_iinc (v := i1 + 1) dX12_front_69 rfl rfl (Nat.le_of_ble_eq_true rfl) ?_
    refine gG_goto (tgt := 57) dX12_front_72 (by decide) ?_
    refine gG_locals ?_ h
    exact ⟨rfl, ⟨rfl, trivial⟩⟩

theorem kX12_day_0 {d n : Nat} {H : gHp} {P : gHp → Int32 → Prop} {a0 : Nat} (h : g_pf H (a0) 12 0 (.int ((0 : Int32))) (fun H1 => g_gr H1 (a0) 12 38 (fun q2 => g_as 0 H1 (q2) ((5 : Int32)) ((0 : Int32)) (fun H3 => (∃ fs, H3 (a0) = .inr (12, fs)) ∧ g_cvd d mX12_begins n H3 [.ref (a0)] (fun H4 => gG d mX12_day 0 0 (g_Xj mX12_day n 0 0 P) 16 n H4 [some (.ref (a0))] [] (0) (0)))))) : gG d mX12_day 0 0 (g_Xj mX12_day n 0 0 P) 0 n H [some (.ref (a0))] [] 0 0 := by
  refine gG_aload_n dX12_day_0 rfl rfl ?_
  refine gG_iconst (v := 0) dX12_day_1 (by decide) ?_
  obtain ⟨fs, e1, e2, h⟩ := h
  refine gG_pi dX12_day_2 fl_X12_147 ⟨fs, e1, e2, ?_⟩
  obtain ⟨H1, eH⟩ : ∃ z, z = va_up H (a0) (.inr (12, fs.set 0 (.int ((0 : Int32))))) := ⟨_, rfl⟩
  rw [← eH] at h ⊢
  refine gG_aload_n dX12_day_5 rfl rfl ?_
  obtain ⟨fs, q2, e1, e2, h⟩ := h
  refine gG_gr dX12_day_6 fl_X12_90 ⟨fs, q2, e1, e2, ?_⟩
  refine gG_iconst (v := 5) dX12_day_9 (by decide) ?_
  refine gG_iconst (v := 0) dX12_day_10 (by decide) ?_
  obtain ⟨m0, f0, e1, e2, h⟩ := h
  refine gG_iast dX12_day_11 ⟨m0, f0, e1, e2, ?_⟩
  obtain ⟨H3, eH⟩ : ∃ z, z = va_up H1 (q2) (.inl (0, m0, .inl (upd f0 (Int32.toNatClampNeg ((5 : Int32))) ((0 : Int32))))) := ⟨_, rfl⟩
  rw [← eH] at h ⊢
  refine gG_aload_n dX12_day_12 rfl rfl ?_
  obtain ⟨hrc, d2, P2, hdd, hC, h⟩ := h
  refine gG_cvv (As := []) (st := []) dX12_day_13 mV_X12_308 hdd hrc rfl rfl (Nat.le_of_ble_eq_true rfl) (Nat.le_refl _) ⟨Nat.le_refl _, Nat.le_refl _⟩ hC (fun H4 hp => ?_)
  have h := h H4 hp
  refine gG_locals ?_ h
  exact ⟨rfl, trivial⟩
theorem kX12_day_16 {d n : Nat} {H : gHp} {P : gHp → Int32 → Prop} {a0 : Nat} (h : g_gi H (a0) 12 6 (fun x1 => (x1 = 0 → (∃ fs, H (a0) = .inr (12, fs)) ∧ g_cvd d mX12_laysLines n H [.ref (a0), .int ((5 : Int32)), .int ((0 : Int32))] (fun H2 => P H2 ((0 : Int32)))) ∧ (¬ (x1 = 0) → (∃ fs, H (a0) = .inr (12, fs)) ∧ g_cz d mX12_readsLine n H [.ref (a0)] (fun H3 b4 => (b4 = true → gG d mX12_day 0 0 (g_Xj mX12_day n 0 0 P) 16 n H3 [some (.ref (a0))] [] (0) (0)) ∧ (b4 = false → g_gi H3 (a0) 12 9 (fun x5 => P H3 (x5))))))) : gG d mX12_day 0 0 (g_Xj mX12_day n 0 0 P) 16 n H [some (.ref (a0))] [] 0 0 := by
  refine gG_aload_n dX12_day_16 rfl rfl ?_
  obtain ⟨fs, x1, e1, e2, h⟩ := h
  refine gG_gi dX12_day_17 fl_X12_172 ⟨fs, x1, e1, e2, ?_⟩
  refine gG_if_eq (tgt := 35) dX12_day_20 (by decide) (fun c => ?_) (fun c => ?_)
  · have h := h.1 c
    refine gG_aload_n dX12_day_35 rfl rfl ?_
    refine gG_iconst (v := 5) dX12_day_36 (by decide) ?_
    refine gG_iconst (v := 0) dX12_day_37 (by decide) ?_
    obtain ⟨hrc, d2, P2, hdd, hC, h⟩ := h
    refine gG_cvv (As := [.int ((5 : Int32)), .int ((0 : Int32))]) (st := []) dX12_day_38 mV_X12_349 hdd hrc rfl rfl (Nat.le_of_ble_eq_true rfl) (Nat.le_refl _) ⟨Nat.le_refl _, Nat.le_refl _⟩ hC (fun H2 hp => ?_)
    have h := h H2 hp
    refine gG_iconst (v := 0) dX12_day_41 (by decide) ?_
    exact gG_exit ⟨rfl, rfl, rfl, dX12_day_42, _, rfl, h⟩
  · have h := h.2 c
    refine gG_aload_n dX12_day_23 rfl rfl ?_
    obtain ⟨hrc, d2, P2, hdd, hC, h⟩ := h
    refine gG_cvi (As := []) (st := []) dX12_day_24 mV_X12_346 hdd hrc rfl rfl (Nat.le_of_ble_eq_true rfl) (Nat.le_refl _) ⟨Nat.le_refl _, Nat.le_refl _⟩ hC (fun H3 x9 hp => ?_)
    obtain ⟨b4, rfl, hp⟩ := hp
    have h := h H3 b4 hp
    refine gG_if_ne (tgt := 16) dX12_day_27 (by decide) (fun c => ?_) (fun c => ?_)
    · have h := h.1 (g_b_t c)
      refine gG_locals ?_ h
      exact ⟨rfl, trivial⟩
    · have h := h.2 (g_b_f c)
      refine gG_aload_n dX12_day_30 rfl rfl ?_
      obtain ⟨fs, x5, e1, e2, h⟩ := h
      refine gG_gi dX12_day_31 fl_X12_183 ⟨fs, x5, e1, e2, ?_⟩
      exact gG_exit ⟨rfl, rfl, rfl, dX12_day_34, _, rfl, h⟩

theorem kX12_readsWord_0 {d n : Nat} {H : gHp} {P : gHp → Bool → Prop} {a0 : Nat} (h : g_gr H (a0) 12 42 (fun q1 => g_al 0 H (q1) ((5 : Int32)) (fun x2 => (x2 = 0 → gG d mX12_readsWord 0 0 (g_Xz mX12_readsWord n 0 0 P) 16 n H [some (.ref (a0)), none] [] (0) (0)) ∧ (¬ (x2 = 0) → g_gi H (a0) 12 6 (fun x3 => (x3 = 0 → P H true) ∧ (¬ (x3 = 0) → gG d mX12_readsWord 0 0 (g_Xz mX12_readsWord n 0 0 P) 16 n H [some (.ref (a0)), none] [] (0) (0))))))) : gG d mX12_readsWord 0 0 (g_Xz mX12_readsWord n 0 0 P) 0 n H [some (.ref (a0)), none] [] 0 0 := by
  refine gG_aload_n dX12_readsWord_0 rfl rfl ?_
  obtain ⟨fs, q1, e1, e2, h⟩ := h
  refine gG_gr dX12_readsWord_1 fl_X12_102 ⟨fs, q1, e1, e2, ?_⟩
  refine gG_iconst (v := 5) dX12_readsWord_4 (by decide) ?_
  obtain ⟨m0, f0, e1, e2, h⟩ := h
  refine gG_iald dX12_readsWord_5 ⟨m0, f0, e1, e2, ?_⟩
  obtain ⟨x2, eH⟩ : ∃ z, z = f0 (Int32.toNatClampNeg ((5 : Int32))) := ⟨_, rfl⟩
  rw [← eH] at h ⊢
  refine gG_if_eq (tgt := 16) dX12_readsWord_6 (by decide) (fun c => ?_) (fun c => ?_)
  · have h := h.1 c
    refine gG_locals ?_ h
    exact ⟨rfl, trivial⟩
  · have h := h.2 c
    refine gG_aload_n dX12_readsWord_9 rfl rfl ?_
    obtain ⟨fs, x3, e1, e2, h⟩ := h
    refine gG_gi dX12_readsWord_10 fl_X12_172 ⟨fs, x3, e1, e2, ?_⟩
    refine gG_if_eq (tgt := 94) dX12_readsWord_13 (by decide) (fun c => ?_) (fun c => ?_)
    · have h := h.1 c
      refine gG_iconst (v := 1) dX12_readsWord_94 (by decide) ?_
      exact gG_exit ⟨rfl, rfl, rfl, dX12_readsWord_95, true, rfl, h⟩
    · have h := h.2 c
      refine gG_locals ?_ h
      exact ⟨rfl, trivial⟩
theorem kX12_readsWord_16 {d n : Nat} {H : gHp} {P : gHp → Bool → Prop} {a0 : Nat} (h : (∃ fs, H (a0) = .inr (12, fs)) ∧ g_cz d mX12_isKept n H [.ref (a0)] (fun H1 b2 => (b2 = false → (∃ fs, H1 (a0) = .inr (12, fs)) ∧ g_ci d mX12_letterNamed n H1 [.ref (a0), .int ((0 : Int32))] (fun H3 x4 => (0 ≤ x4 → g_gr H3 (a0) 12 42 (fun q5 => g_al 0 H3 (q5) ((5 : Int32)) (fun x6 => (¬ (x6 = (7 : Int32)) → g_gr H3 (a0) 12 43 (fun q7 => g_gr H3 (a0) 12 42 (fun q8 => g_al 0 H3 (q8) ((5 : Int32)) (fun x9 => g_as 0 H3 (q7) (((35 : Int32) + x9)) (x4) (fun H10 => g_gr H10 (a0) 12 42 (fun q11 => g_al 0 H10 (q11) ((5 : Int32)) (fun x12 => g_as 0 H10 (q11) ((5 : Int32)) ((x12 + (1 : Int32))) (fun H13 => (∃ fs, H13 (a0) = .inr (12, fs)) ∧ g_cvd d mX12_nextToken n H13 [.ref (a0)] (fun H14 => gG d mX12_readsWord 0 0 (g_Xz mX12_readsWord n 0 0 P) 0 n H14 [some (.ref (a0)), none] [] (0) (0)))))))))) ∧ (x6 = (7 : Int32) → (∃ fs, H3 (a0) = .inr (12, fs)) ∧ g_cz d mX12_fails n H3 [.ref (a0), .int ((5 : Int32))] (fun H15 b16 => P H15 b16))))) ∧ (¬ (0 ≤ x4) → (∃ fs, H3 (a0) = .inr (12, fs)) ∧ g_cz d mX12_fails n H3 [.ref (a0), .int ((2 : Int32))] (fun H17 b18 => P H17 b18)))) ∧ (b2 = true → (∃ fs, H1 (a0) = .inr (12, fs)) ∧ g_cz d mX12_fails n H1 [.ref (a0), .int ((1 : Int32))] (fun H19 b20 => P H19 b20)))) : gG d mX12_readsWord 0 0 (g_Xz mX12_readsWord n 0 0 P) 16 n H [some (.ref (a0)), none] [] 0 0 := by
  refine gG_aload_n dX12_readsWord_16 rfl rfl ?_
  obtain ⟨hrc, d2, P2, hdd, hC, h⟩ := h
  refine gG_cvi (As := []) (st := []) dX12_readsWord_17 mV_X12_279 hdd hrc rfl rfl (Nat.le_of_ble_eq_true rfl) (Nat.le_refl _) ⟨Nat.le_refl _, Nat.le_refl _⟩ hC (fun H1 x9 hp => ?_)
  obtain ⟨b2, rfl, hp⟩ := hp
  have h := h H1 b2 hp
  refine gG_if_eq (tgt := 29) dX12_readsWord_20 (by decide) (fun c => ?_) (fun c => ?_)
  · have h := h.1 (g_b_f c)
    refine gG_aload_n dX12_readsWord_29 rfl rfl ?_
    refine gG_iconst (v := 0) dX12_readsWord_30 (by decide) ?_
    obtain ⟨hrc, d2, P2, hdd, hC, h⟩ := h
    refine gG_cvi (As := [.int ((0 : Int32))]) (st := []) dX12_readsWord_31 mV_X12_286 hdd hrc rfl rfl (Nat.le_of_ble_eq_true rfl) (Nat.le_refl _) ⟨Nat.le_refl _, Nat.le_refl _⟩ hC (fun H3 x4 hp => ?_)
    have h := h H3 x4 hp
    refine gG_istore_n dX12_readsWord_34 rfl (Nat.le_of_ble_eq_true rfl) ?_
    refine gG_iload_n dX12_readsWord_35 rfl rfl ?_
    refine gG_if_ge (tgt := 45) dX12_readsWord_36 (by decide) (fun c => ?_) (fun c => ?_)
    · have h := h.1 c
      refine gG_aload_n dX12_readsWord_45 rfl rfl ?_
      obtain ⟨fs, q5, e1, e2, h⟩ := h
      refine gG_gr dX12_readsWord_46 fl_X12_102 ⟨fs, q5, e1, e2, ?_⟩
      refine gG_iconst (v := 5) dX12_readsWord_49 (by decide) ?_
      obtain ⟨m0, f0, e1, e2, h⟩ := h
      refine gG_iald dX12_readsWord_50 ⟨m0, f0, e1, e2, ?_⟩
      obtain ⟨x6, eH⟩ : ∃ z, z = f0 (Int32.toNatClampNeg ((5 : Int32))) := ⟨_, rfl⟩
      rw [← eH] at h ⊢
      refine gG_bipush (v := 7) dX12_readsWord_51 (by decide) ?_
      refine gG_ic_ne (tgt := 62) dX12_readsWord_53 (by decide) (fun c => ?_) (fun c => ?_)
      · have h := h.1 c
        refine gG_aload_n dX12_readsWord_62 rfl rfl ?_
        obtain ⟨fs, q7, e1, e2, h⟩ := h
        refine gG_gr dX12_readsWord_63 fl_X12_105 ⟨fs, q7, e1, e2, ?_⟩
        refine gG_bipush (v := 35) dX12_readsWord_66 (by decide) ?_
        refine gG_aload_n dX12_readsWord_68 rfl rfl ?_
        obtain ⟨fs, q8, e1, e2, h⟩ := h
        refine gG_gr dX12_readsWord_69 fl_X12_102 ⟨fs, q8, e1, e2, ?_⟩
        refine gG_iconst (v := 5) dX12_readsWord_72 (by decide) ?_
        obtain ⟨m0, f0, e1, e2, h⟩ := h
        refine gG_iald dX12_readsWord_73 ⟨m0, f0, e1, e2, ?_⟩
        obtain ⟨x9, eH⟩ : ∃ z, z = f0 (Int32.toNatClampNeg ((5 : Int32))) := ⟨_, rfl⟩
        rw [← eH] at h ⊢
        refine gG_iadd dX12_readsWord_74 ?_
        refine gG_iload_n dX12_readsWord_75 rfl rfl ?_
        obtain ⟨m0, f0, e1, e2, h⟩ := h
        refine gG_iast dX12_readsWord_76 ⟨m0, f0, e1, e2, ?_⟩
        obtain ⟨H10, eH⟩ : ∃ z, z = va_up H3 (q7) (.inl (0, m0, .inl (upd f0 (Int32.toNatClampNeg (((35 : Int32) + x9))) (x4)))) := ⟨_, rfl⟩
        rw [← eH] at h ⊢
        refine gG_aload_n dX12_readsWord_77 rfl rfl ?_
        obtain ⟨fs, q11, e1, e2, h⟩ := h
        refine gG_gr dX12_readsWord_78 fl_X12_102 ⟨fs, q11, e1, e2, ?_⟩
        refine gG_iconst (v := 5) dX12_readsWord_81 (by decide) ?_
        refine gG_dup2 dX12_readsWord_82 rfl rfl ?_
        obtain ⟨m0, f0, e1, e2, h⟩ := h
        refine gG_iald dX12_readsWord_83 ⟨m0, f0, e1, e2, ?_⟩
        obtain ⟨x12, eH⟩ : ∃ z, z = f0 (Int32.toNatClampNeg ((5 : Int32))) := ⟨_, rfl⟩
        rw [← eH] at h ⊢
        refine gG_iconst (v := 1) dX12_readsWord_84 (by decide) ?_
        refine gG_iadd dX12_readsWord_85 ?_
        obtain ⟨m0, f0, e1, e2, h⟩ := h
        refine gG_iast dX12_readsWord_86 ⟨m0, f0, e1, e2, ?_⟩
        obtain ⟨H13, eH⟩ : ∃ z, z = va_up H10 (q11) (.inl (0, m0, .inl (upd f0 (Int32.toNatClampNeg ((5 : Int32))) ((x12 + (1 : Int32)))))) := ⟨_, rfl⟩
        rw [← eH] at h ⊢
        refine gG_aload_n dX12_readsWord_87 rfl rfl ?_
        obtain ⟨hrc, d2, P2, hdd, hC, h⟩ := h
        refine gG_cvv (As := []) (st := []) dX12_readsWord_88 mV_X12_218 hdd hrc rfl rfl (Nat.le_of_ble_eq_true rfl) (Nat.le_refl _) ⟨Nat.le_refl _, Nat.le_refl _⟩ hC (fun H14 hp => ?_)
        have h := h H14 hp
        refine gG_goto (tgt := 0) dX12_readsWord_91 (by decide) ?_
        refine gG_locals ?_ h
        exact ⟨rfl, trivial⟩
      · have h := h.2 c
        refine gG_aload_n dX12_readsWord_56 rfl rfl ?_
        refine gG_iconst (v := 5) dX12_readsWord_57 (by decide) ?_
        obtain ⟨hrc, d2, P2, hdd, hC, h⟩ := h
        refine gG_cvi (As := [.int ((5 : Int32))]) (st := []) dX12_readsWord_58 mV_X12_211 hdd hrc rfl rfl (Nat.le_of_ble_eq_true rfl) (Nat.le_refl _) ⟨Nat.le_refl _, Nat.le_refl _⟩ hC (fun H15 x9 hp => ?_)
        obtain ⟨b16, rfl, hp⟩ := hp
        have h := h H15 b16 hp
        exact gG_exit ⟨rfl, rfl, rfl, dX12_readsWord_61, b16, rfl, h⟩
    · have h := h.2 c
      refine gG_aload_n dX12_readsWord_39 rfl rfl ?_
      refine gG_iconst (v := 2) dX12_readsWord_40 (by decide) ?_
      obtain ⟨hrc, d2, P2, hdd, hC, h⟩ := h
      refine gG_cvi (As := [.int ((2 : Int32))]) (st := []) dX12_readsWord_41 mV_X12_211 hdd hrc rfl rfl (Nat.le_of_ble_eq_true rfl) (Nat.le_refl _) ⟨Nat.le_refl _, Nat.le_refl _⟩ hC (fun H17 x9 hp => ?_)
      obtain ⟨b18, rfl, hp⟩ := hp
      have h := h H17 b18 hp
      exact gG_exit ⟨rfl, rfl, rfl, dX12_readsWord_44, b18, rfl, h⟩
  · have h := h.2 (g_b_t c)
    refine gG_aload_n dX12_readsWord_23 rfl rfl ?_
    refine gG_iconst (v := 1) dX12_readsWord_24 (by decide) ?_
    obtain ⟨hrc, d2, P2, hdd, hC, h⟩ := h
    refine gG_cvi (As := [.int ((1 : Int32))]) (st := []) dX12_readsWord_25 mV_X12_211 hdd hrc rfl rfl (Nat.le_of_ble_eq_true rfl) (Nat.le_refl _) ⟨Nat.le_refl _, Nat.le_refl _⟩ hC (fun H19 x9 hp => ?_)
    obtain ⟨b20, rfl, hp⟩ := hp
    have h := h H19 b20 hp
    exact gG_exit ⟨rfl, rfl, rfl, dX12_readsWord_28, b20, rfl, h⟩

theorem kX12_word_0 {d n : Nat} {H : gHp} {P : gHp → Int32 → Prop} {a0 : Nat} (h : g_pf H (a0) 12 0 (.int ((0 : Int32))) (fun H1 => g_gr H1 (a0) 12 42 (fun q2 => g_as 0 H1 (q2) ((5 : Int32)) ((0 : Int32)) (fun H3 => (∃ fs, H3 (a0) = .inr (12, fs)) ∧ g_cvd d mX12_begins n H3 [.ref (a0)] (fun H4 => (∃ fs, H4 (a0) = .inr (12, fs)) ∧ g_cz d mX12_readsWord n H4 [.ref (a0)] (fun H5 b6 => (b6 = true → (∃ fs, H5 (a0) = .inr (12, fs)) ∧ g_cvd d mX12_laysWord n H5 [.ref (a0), .int ((5 : Int32)), .int ((0 : Int32))] (fun H7 => P H7 ((0 : Int32)))) ∧ (b6 = false → g_gi H5 (a0) 12 9 (fun x8 => P H5 (x8))))))))) : gG d mX12_word 0 0 (g_Xj mX12_word n 0 0 P) 0 n H [some (.ref (a0))] [] 0 0 := by
  refine gG_aload_n dX12_word_0 rfl rfl ?_
  refine gG_iconst (v := 0) dX12_word_1 (by decide) ?_
  obtain ⟨fs, e1, e2, h⟩ := h
  refine gG_pi dX12_word_2 fl_X12_147 ⟨fs, e1, e2, ?_⟩
  obtain ⟨H1, eH⟩ : ∃ z, z = va_up H (a0) (.inr (12, fs.set 0 (.int ((0 : Int32))))) := ⟨_, rfl⟩
  rw [← eH] at h ⊢
  refine gG_aload_n dX12_word_5 rfl rfl ?_
  obtain ⟨fs, q2, e1, e2, h⟩ := h
  refine gG_gr dX12_word_6 fl_X12_102 ⟨fs, q2, e1, e2, ?_⟩
  refine gG_iconst (v := 5) dX12_word_9 (by decide) ?_
  refine gG_iconst (v := 0) dX12_word_10 (by decide) ?_
  obtain ⟨m0, f0, e1, e2, h⟩ := h
  refine gG_iast dX12_word_11 ⟨m0, f0, e1, e2, ?_⟩
  obtain ⟨H3, eH⟩ : ∃ z, z = va_up H1 (q2) (.inl (0, m0, .inl (upd f0 (Int32.toNatClampNeg ((5 : Int32))) ((0 : Int32))))) := ⟨_, rfl⟩
  rw [← eH] at h ⊢
  refine gG_aload_n dX12_word_12 rfl rfl ?_
  obtain ⟨hrc, d2, P2, hdd, hC, h⟩ := h
  refine gG_cvv (As := []) (st := []) dX12_word_13 mV_X12_308 hdd hrc rfl rfl (Nat.le_of_ble_eq_true rfl) (Nat.le_refl _) ⟨Nat.le_refl _, Nat.le_refl _⟩ hC (fun H4 hp => ?_)
  have h := h H4 hp
  refine gG_aload_n dX12_word_16 rfl rfl ?_
  obtain ⟨hrc, d2, P2, hdd, hC, h⟩ := h
  refine gG_cvi (As := []) (st := []) dX12_word_17 mV_X12_353 hdd hrc rfl rfl (Nat.le_of_ble_eq_true rfl) (Nat.le_refl _) ⟨Nat.le_refl _, Nat.le_refl _⟩ hC (fun H5 x9 hp => ?_)
  obtain ⟨b6, rfl, hp⟩ := hp
  have h := h H5 b6 hp
  refine gG_if_ne (tgt := 28) dX12_word_20 (by decide) (fun c => ?_) (fun c => ?_)
  · have h := h.1 (g_b_t c)
    refine gG_aload_n dX12_word_28 rfl rfl ?_
    refine gG_iconst (v := 5) dX12_word_29 (by decide) ?_
    refine gG_iconst (v := 0) dX12_word_30 (by decide) ?_
    obtain ⟨hrc, d2, P2, hdd, hC, h⟩ := h
    refine gG_cvv (As := [.int ((5 : Int32)), .int ((0 : Int32))]) (st := []) dX12_word_31 mV_X12_356 hdd hrc rfl rfl (Nat.le_of_ble_eq_true rfl) (Nat.le_refl _) ⟨Nat.le_refl _, Nat.le_refl _⟩ hC (fun H7 hp => ?_)
    have h := h H7 hp
    refine gG_iconst (v := 0) dX12_word_34 (by decide) ?_
    exact gG_exit ⟨rfl, rfl, rfl, dX12_word_35, _, rfl, h⟩
  · have h := h.2 (g_b_f c)
    refine gG_aload_n dX12_word_23 rfl rfl ?_
    obtain ⟨fs, x8, e1, e2, h⟩ := h
    refine gG_gi dX12_word_24 fl_X12_183 ⟨fs, x8, e1, e2, ?_⟩
    exact gG_exit ⟨rfl, rfl, rfl, dX12_word_27, _, rfl, h⟩

theorem kX12_isMouth_0 {d n : Nat} {H : gHp} {P : gHp → Bool → Prop} {a0 : Nat} {i1 : Int32} (h : (i1 < 0 → P H false) ∧ (¬ (i1 < 0) → g_gr H (a0) 12 10 (fun q1 => g_al 0 H (q1) ((0 : Int32)) (fun x2 => (x2 ≤ i1 → P H false) ∧ (¬ (x2 ≤ i1) → P H true))))) : gG d mX12_isMouth 0 0 (g_Xz mX12_isMouth n 0 0 P) 0 n H [some (.ref (a0)), some (.int (i1))] [] 0 0 := by
  refine gG_iload_n dX12_isMouth_0 rfl rfl ?_
  refine gG_if_lt (tgt := 18) dX12_isMouth_1 (by decide) (fun c => ?_) (fun c => ?_)
  · have h := h.1 c
    refine gG_iconst (v := 0) dX12_isMouth_18 (by decide) ?_
    exact gG_exit ⟨rfl, rfl, rfl, dX12_isMouth_19, false, rfl, h⟩
  · have h := h.2 c
    refine gG_iload_n dX12_isMouth_4 rfl rfl ?_
    refine gG_aload_n dX12_isMouth_5 rfl rfl ?_
    obtain ⟨fs, q1, e1, e2, h⟩ := h
    refine gG_gr dX12_isMouth_6 fl_X12_13 ⟨fs, q1, e1, e2, ?_⟩
    refine gG_iconst (v := 0) dX12_isMouth_9 (by decide) ?_
    obtain ⟨m0, f0, e1, e2, h⟩ := h
    refine gG_iald dX12_isMouth_10 ⟨m0, f0, e1, e2, ?_⟩
    obtain ⟨x2, eH⟩ : ∃ z, z = f0 (Int32.toNatClampNeg ((0 : Int32))) := ⟨_, rfl⟩
    rw [← eH] at h ⊢
    refine gG_ic_ge (tgt := 18) dX12_isMouth_11 (by decide) (fun c => ?_) (fun c => ?_)
    · have h := h.1 c
      refine gG_iconst (v := 0) dX12_isMouth_18 (by decide) ?_
      exact gG_exit ⟨rfl, rfl, rfl, dX12_isMouth_19, false, rfl, h⟩
    · have h := h.2 c
      refine gG_iconst (v := 1) dX12_isMouth_14 (by decide) ?_
      refine gG_goto (tgt := 19) dX12_isMouth_15 (by decide) ?_
      exact gG_exit ⟨rfl, rfl, rfl, dX12_isMouth_19, true, rfl, h⟩

theorem kX12_isLetter0_0 {d n : Nat} {H : gHp} {P : gHp → Bool → Prop} {a0 : Nat} {i1 : Int32} (h : (i1 < 0 → P H false) ∧ (¬ (i1 < 0) → g_gr H (a0) 12 10 (fun q1 => g_al 0 H (q1) ((1 : Int32)) (fun x2 => (x2 ≤ i1 → P H false) ∧ (¬ (x2 ≤ i1) → P H true))))) : gG d mX12_isLetter0 0 0 (g_Xz mX12_isLetter0 n 0 0 P) 0 n H [some (.ref (a0)), some (.int (i1))] [] 0 0 := by
  refine gG_iload_n dX12_isLetter0_0 rfl rfl ?_
  refine gG_if_lt (tgt := 18) dX12_isLetter0_1 (by decide) (fun c => ?_) (fun c => ?_)
  · have h := h.1 c
    refine gG_iconst (v := 0) dX12_isLetter0_18 (by decide) ?_
    exact gG_exit ⟨rfl, rfl, rfl, dX12_isLetter0_19, false, rfl, h⟩
  · have h := h.2 c
    refine gG_iload_n dX12_isLetter0_4 rfl rfl ?_
    refine gG_aload_n dX12_isLetter0_5 rfl rfl ?_
    obtain ⟨fs, q1, e1, e2, h⟩ := h
    refine gG_gr dX12_isLetter0_6 fl_X12_13 ⟨fs, q1, e1, e2, ?_⟩
    refine gG_iconst (v := 1) dX12_isLetter0_9 (by decide) ?_
    obtain ⟨m0, f0, e1, e2, h⟩ := h
    refine gG_iald dX12_isLetter0_10 ⟨m0, f0, e1, e2, ?_⟩
    obtain ⟨x2, eH⟩ : ∃ z, z = f0 (Int32.toNatClampNeg ((1 : Int32))) := ⟨_, rfl⟩
    rw [← eH] at h ⊢
    refine gG_ic_ge (tgt := 18) dX12_isLetter0_11 (by decide) (fun c => ?_) (fun c => ?_)
    · have h := h.1 c
      refine gG_iconst (v := 0) dX12_isLetter0_18 (by decide) ?_
      exact gG_exit ⟨rfl, rfl, rfl, dX12_isLetter0_19, false, rfl, h⟩
    · have h := h.2 c
      refine gG_iconst (v := 1) dX12_isLetter0_14 (by decide) ?_
      refine gG_goto (tgt := 19) dX12_isLetter0_15 (by decide) ?_
      exact gG_exit ⟨rfl, rfl, rfl, dX12_isLetter0_19, true, rfl, h⟩

theorem kX12_isStopped_0 {d n : Nat} {H : gHp} {P : gHp → Bool → Prop} {a0 : Nat} {i1 : Int32} (h : g_gr H (a0) 12 47 (fun q1 => g_al 0 H (q1) ((1 : Int32)) (fun x2 => (¬ (((x2 >>> (i1 &&& 31)) &&& (1 : Int32)) = (1 : Int32)) → P H false) ∧ (((x2 >>> (i1 &&& 31)) &&& (1 : Int32)) = (1 : Int32) → P H true)))) : gG d mX12_isStopped 0 0 (g_Xz mX12_isStopped n 0 0 P) 0 n H [some (.ref (a0)), some (.int (i1))] [] 0 0 := by
  refine gG_aload_n dX12_isStopped_0 rfl rfl ?_
  obtain ⟨fs, q1, e1, e2, h⟩ := h
  refine gG_gr dX12_isStopped_1 fl_X12_117 ⟨fs, q1, e1, e2, ?_⟩
  refine gG_iconst (v := 1) dX12_isStopped_4 (by decide) ?_
  obtain ⟨m0, f0, e1, e2, h⟩ := h
  refine gG_iald dX12_isStopped_5 ⟨m0, f0, e1, e2, ?_⟩
  obtain ⟨x2, eH⟩ : ∃ z, z = f0 (Int32.toNatClampNeg ((1 : Int32))) := ⟨_, rfl⟩
  rw [← eH] at h ⊢
  refine gG_iload_n dX12_isStopped_6 rfl rfl ?_
  refine gG_ishr dX12_isStopped_7 ?_
  refine gG_iconst (v := 1) dX12_isStopped_8 (by decide) ?_
  refine gG_iand dX12_isStopped_9 ?_
  refine gG_iconst (v := 1) dX12_isStopped_10 (by decide) ?_
  refine gG_ic_ne (tgt := 18) dX12_isStopped_11 (by decide) (fun c => ?_) (fun c => ?_)
  · have h := h.1 c
    refine gG_iconst (v := 0) dX12_isStopped_18 (by decide) ?_
    exact gG_exit ⟨rfl, rfl, rfl, dX12_isStopped_19, false, rfl, h⟩
  · have h := h.2 c
    refine gG_iconst (v := 1) dX12_isStopped_14 (by decide) ?_
    refine gG_goto (tgt := 19) dX12_isStopped_15 (by decide) ?_
    exact gG_exit ⟨rfl, rfl, rfl, dX12_isStopped_19, true, rfl, h⟩

theorem kX12_every_0 {d n : Nat} {H : gHp} {P : gHp → Int32 → Prop} {a0 : Nat} (h : g_gr H (a0) 12 10 (fun q1 => g_al 0 H (q1) ((0 : Int32)) (fun x2 => P H ((((1 : Int32) <<< (x2 &&& 31)) - (1 : Int32)))))) : gG d mX12_every 0 0 (g_Xj mX12_every n 0 0 P) 0 n H [some (.ref (a0))] [] 0 0 := by
  refine gG_iconst (v := 1) dX12_every_0 (by decide) ?_
  refine gG_aload_n dX12_every_1 rfl rfl ?_
  obtain ⟨fs, q1, e1, e2, h⟩ := h
  refine gG_gr dX12_every_2 fl_X12_13 ⟨fs, q1, e1, e2, ?_⟩
  refine gG_iconst (v := 0) dX12_every_5 (by decide) ?_
  obtain ⟨m0, f0, e1, e2, h⟩ := h
  refine gG_iald dX12_every_6 ⟨m0, f0, e1, e2, ?_⟩
  obtain ⟨x2, eH⟩ : ∃ z, z = f0 (Int32.toNatClampNeg ((0 : Int32))) := ⟨_, rfl⟩
  rw [← eH] at h ⊢
  refine gG_ishl dX12_every_7 ?_
  refine gG_iconst (v := 1) dX12_every_8 (by decide) ?_
  refine gG_isub dX12_every_9 ?_
  exact gG_exit ⟨rfl, rfl, rfl, dX12_every_10, _, rfl, h⟩

theorem kX12_rainOf_0 {d n : Nat} {H : gHp} {P : gHp → Int32 → Prop} {a0 : Nat} {i1 : Int32} (h : g_gr H (a0) 12 10 (fun q1 => g_al 0 H (q1) ((2 : Int32)) (fun x2 => (¬ (x2 = 0) → g_gr H (a0) 12 19 (fun q3 => g_gr H (a0) 12 10 (fun q4 => g_al 0 H (q4) ((2 : Int32)) (fun x5 => ¬ (x5 = 0) ∧ (g_al 0 H (q3) ((i1 - i1 / x5 * x5)) (fun x6 => P H (x6))))))) ∧ (x2 = 0 → P H ((0 : Int32)))))) : gG d mX12_rainOf 0 0 (g_Xj mX12_rainOf n 0 0 P) 0 n H [some (.ref (a0)), some (.int (i1))] [] 0 0 := by
  refine gG_aload_n dX12_rainOf_0 rfl rfl ?_
  obtain ⟨fs, q1, e1, e2, h⟩ := h
  refine gG_gr dX12_rainOf_1 fl_X12_13 ⟨fs, q1, e1, e2, ?_⟩
  refine gG_iconst (v := 2) dX12_rainOf_4 (by decide) ?_
  obtain ⟨m0, f0, e1, e2, h⟩ := h
  refine gG_iald dX12_rainOf_5 ⟨m0, f0, e1, e2, ?_⟩
  obtain ⟨x2, eH⟩ : ∃ z, z = f0 (Int32.toNatClampNeg ((2 : Int32))) := ⟨_, rfl⟩
  rw [← eH] at h ⊢
  refine gG_if_ne (tgt := 13) dX12_rainOf_6 (by decide) (fun c => ?_) (fun c => ?_)
  · have h := h.1 c
    refine gG_aload_n dX12_rainOf_13 rfl rfl ?_
    obtain ⟨fs, q3, e1, e2, h⟩ := h
    refine gG_gr dX12_rainOf_14 fl_X12_41 ⟨fs, q3, e1, e2, ?_⟩
    refine gG_iload_n dX12_rainOf_17 rfl rfl ?_
    refine gG_aload_n dX12_rainOf_18 rfl rfl ?_
    obtain ⟨fs, q4, e1, e2, h⟩ := h
    refine gG_gr dX12_rainOf_19 fl_X12_13 ⟨fs, q4, e1, e2, ?_⟩
    refine gG_iconst (v := 2) dX12_rainOf_22 (by decide) ?_
    obtain ⟨m0, f0, e1, e2, h⟩ := h
    refine gG_iald dX12_rainOf_23 ⟨m0, f0, e1, e2, ?_⟩
    obtain ⟨x5, eH⟩ : ∃ z, z = f0 (Int32.toNatClampNeg ((2 : Int32))) := ⟨_, rfl⟩
    rw [← eH] at h ⊢
    obtain ⟨hz, h⟩ := h
    refine gG_irem dX12_rainOf_24 hz ?_
    obtain ⟨m0, f0, e1, e2, h⟩ := h
    refine gG_iald dX12_rainOf_25 ⟨m0, f0, e1, e2, ?_⟩
    obtain ⟨x6, eH⟩ : ∃ z, z = f0 (Int32.toNatClampNeg ((i1 - i1 / x5 * x5))) := ⟨_, rfl⟩
    rw [← eH] at h ⊢
    exact gG_exit ⟨rfl, rfl, rfl, dX12_rainOf_26, _, rfl, h⟩
  · have h := h.2 c
    refine gG_iconst (v := 0) dX12_rainOf_9 (by decide) ?_
    refine gG_goto (tgt := 26) dX12_rainOf_10 (by decide) ?_
    exact gG_exit ⟨rfl, rfl, rfl, dX12_rainOf_26, _, rfl, h⟩

theorem kX12_spoutOf_0 {d n : Nat} {H : gHp} {P : gHp → Int32 → Prop} {a0 : Nat} {i1 : Int32} (hd1 : 1 ≤ d) (h : (∃ fs, H (a0) = .inr (12, fs)) ∧ g_cz d mX12_isStopped n H [.ref (a0), .int (i1)] (fun H1 b2 => (b2 = false → g_gr H1 (a0) 12 47 (fun q3 => g_al 0 H1 (q3) (((5 : Int32) + i1)) (fun x4 => g_gr H1 (a0) 12 13 (fun q5 => g_al 0 H1 (q5) (i1) (fun x6 => (¬ (x6 = (1 : Int32)) → g_gr H1 (a0) 12 13 (fun q7 => g_al 0 H1 (q7) (i1) (fun x8 => (¬ (x8 = (2 : Int32)) → P H1 ((if (3 : Int32) < x4 then (3 : Int32) else x4))) ∧ (x8 = (2 : Int32) → P H1 ((if (1 : Int32) < x4 then (1 : Int32) else x4)))))) ∧ (x6 = (1 : Int32) → P H1 ((if (6 : Int32) < x4 then (6 : Int32) else x4)))))))) ∧ (b2 = true → P H1 ((0 : Int32))))) : gG d mX12_spoutOf 0 0 (g_Xj mX12_spoutOf n 0 0 P) 0 n H [some (.ref (a0)), some (.int (i1))] [] 0 0 := by
  refine gG_aload_n dX12_spoutOf_0 rfl rfl ?_
  refine gG_iload_n dX12_spoutOf_1 rfl rfl ?_
  obtain ⟨hrc, d2, P2, hdd, hC, h⟩ := h
  refine gG_cvi (As := [.int (i1)]) (st := []) dX12_spoutOf_2 mV_X12_359 hdd hrc rfl rfl (Nat.le_of_ble_eq_true rfl) (Nat.le_refl _) ⟨Nat.le_refl _, Nat.le_refl _⟩ hC (fun H1 x9 hp => ?_)
  obtain ⟨b2, rfl, hp⟩ := hp
  have h := h H1 b2 hp
  refine gG_if_eq (tgt := 12) dX12_spoutOf_5 (by decide) (fun c => ?_) (fun c => ?_)
  · have h := h.1 (g_b_f c)
    refine gG_aload_n dX12_spoutOf_12 rfl rfl ?_
    obtain ⟨fs, q3, e1, e2, h⟩ := h
    refine gG_gr dX12_spoutOf_13 fl_X12_117 ⟨fs, q3, e1, e2, ?_⟩
    refine gG_iconst (v := 5) dX12_spoutOf_16 (by decide) ?_
    refine gG_iload_n dX12_spoutOf_17 rfl rfl ?_
    refine gG_iadd dX12_spoutOf_18 ?_
    obtain ⟨m0, f0, e1, e2, h⟩ := h
    refine gG_iald dX12_spoutOf_19 ⟨m0, f0, e1, e2, ?_⟩
    obtain ⟨x4, eH⟩ : ∃ z, z = f0 (Int32.toNatClampNeg (((5 : Int32) + i1))) := ⟨_, rfl⟩
    rw [← eH] at h ⊢
    refine gG_aload_n dX12_spoutOf_20 rfl rfl ?_
    obtain ⟨fs, q5, e1, e2, h⟩ := h
    refine gG_gr dX12_spoutOf_21 fl_X12_23 ⟨fs, q5, e1, e2, ?_⟩
    refine gG_iload_n dX12_spoutOf_24 rfl rfl ?_
    obtain ⟨m0, f0, e1, e2, h⟩ := h
    refine gG_iald dX12_spoutOf_25 ⟨m0, f0, e1, e2, ?_⟩
    obtain ⟨x6, eH⟩ : ∃ z, z = f0 (Int32.toNatClampNeg (i1)) := ⟨_, rfl⟩
    rw [← eH] at h ⊢
    refine gG_iconst (v := 1) dX12_spoutOf_26 (by decide) ?_
    refine gG_ic_ne (tgt := 35) dX12_spoutOf_27 (by decide) (fun c => ?_) (fun c => ?_)
    · have h := h.1 c
      refine gG_aload_n dX12_spoutOf_35 rfl rfl ?_
      obtain ⟨fs, q7, e1, e2, h⟩ := h
      refine gG_gr dX12_spoutOf_36 fl_X12_23 ⟨fs, q7, e1, e2, ?_⟩
      refine gG_iload_n dX12_spoutOf_39 rfl rfl ?_
      obtain ⟨m0, f0, e1, e2, h⟩ := h
      refine gG_iald dX12_spoutOf_40 ⟨m0, f0, e1, e2, ?_⟩
      obtain ⟨x8, eH⟩ : ∃ z, z = f0 (Int32.toNatClampNeg (i1)) := ⟨_, rfl⟩
      rw [← eH] at h ⊢
      refine gG_iconst (v := 2) dX12_spoutOf_41 (by decide) ?_
      refine gG_ic_ne (tgt := 49) dX12_spoutOf_42 (by decide) (fun c => ?_) (fun c => ?_)
      · have h := h.1 c
        refine gG_iconst (v := 3) dX12_spoutOf_49 (by decide) ?_
        refine gG_min dX12_spoutOf_50 lk_X12_362 st_min ini_Math co_min hd1 (Nat.le_of_ble_eq_true rfl) (Nat.le_refl _) (Nat.le_refl _) ?_
        exact gG_exit ⟨rfl, rfl, rfl, dX12_spoutOf_53, _, rfl, h⟩
      · have h := h.2 c
        refine gG_iconst (v := 1) dX12_spoutOf_45 (by decide) ?_
        refine gG_goto (tgt := 50) dX12_spoutOf_46 (by decide) ?_
        refine gG_min dX12_spoutOf_50 lk_X12_362 st_min ini_Math co_min hd1 (Nat.le_of_ble_eq_true rfl) (Nat.le_refl _) (Nat.le_refl _) ?_
        exact gG_exit ⟨rfl, rfl, rfl, dX12_spoutOf_53, _, rfl, h⟩
    · have h := h.2 c
      refine gG_bipush (v := 6) dX12_spoutOf_30 (by decide) ?_
      refine gG_goto (tgt := 50) dX12_spoutOf_32 (by decide) ?_
      refine gG_min dX12_spoutOf_50 lk_X12_362 st_min ini_Math co_min hd1 (Nat.le_of_ble_eq_true rfl) (Nat.le_refl _) (Nat.le_refl _) ?_
      exact gG_exit ⟨rfl, rfl, rfl, dX12_spoutOf_53, _, rfl, h⟩
  · have h := h.2 (g_b_t c)
    refine gG_iconst (v := 0) dX12_spoutOf_8 (by decide) ?_
    refine gG_goto (tgt := 53) dX12_spoutOf_9 (by decide) ?_
    exact gG_exit ⟨rfl, rfl, rfl, dX12_spoutOf_53, _, rfl, h⟩

theorem kX12_isSounding_0 {d n : Nat} {H : gHp} {P : gHp → Bool → Prop} {a0 : Nat} {i1 : Int32} {i2 : Int32} (h : g_gr H (a0) 12 21 (fun q1 => g_al 0 H (q1) ((0 : Int32)) (fun x2 => g_gr H (a0) 12 20 (fun q3 => g_al 0 H (q3) ((0 : Int32)) (fun x4 => (¬ (x2 = x4) → g_gr H (a0) 12 35 (fun q5 => g_gr H (a0) 12 47 (fun q6 => g_al 0 H (q6) (((12 : Int32) + i1)) (fun x7 => g_as 0 H (q5) ((1 : Int32)) (x7) (fun H8 => g_gr H8 (a0) 12 35 (fun q9 => g_gr H8 (a0) 12 47 (fun q10 => g_al 0 H8 (q10) (((5 : Int32) + i1)) (fun x11 => g_as 0 H8 (q9) ((2 : Int32)) (x11) (fun H12 => g_gr H12 (a0) 12 35 (fun q13 => g_gr H12 (a0) 12 14 (fun q14 => g_al 0 H12 (q14) (i1) (fun x15 => g_as 0 H12 (q13) ((3 : Int32)) (x15) (fun H16 => g_gr H16 (a0) 12 35 (fun q17 => g_as 0 H16 (q17) ((4 : Int32)) (i2) (fun H18 => (∃ fs, H18 (a0) = .inr (12, fs)) ∧ g_ci d mX12_worked n H18 [.ref (a0), .int ((0 : Int32))] (fun H19 x20 => (x20 = 0 → P H19 false) ∧ (¬ (x20 = 0) → P H19 true))))))))))))))))) ∧ (x2 = x4 → g_gr H (a0) 12 47 (fun q21 => g_al 0 H (q21) (((12 : Int32) + i1)) (fun x22 => (x22 = 0 → P H false) ∧ (¬ (x22 = 0) → P H true))))))))) : gG d mX12_isSounding 0 0 (g_Xz mX12_isSounding n 0 0 P) 0 n H [some (.ref (a0)), some (.int (i1)), some (.int (i2))] [] 0 0 := by
  refine gG_aload_n dX12_isSounding_0 rfl rfl ?_
  obtain ⟨fs, q1, e1, e2, h⟩ := h
  refine gG_gr dX12_isSounding_1 fl_X12_47 ⟨fs, q1, e1, e2, ?_⟩
  refine gG_iconst (v := 0) dX12_isSounding_4 (by decide) ?_
  obtain ⟨m0, f0, e1, e2, h⟩ := h
  refine gG_iald dX12_isSounding_5 ⟨m0, f0, e1, e2, ?_⟩
  obtain ⟨x2, eH⟩ : ∃ z, z = f0 (Int32.toNatClampNeg ((0 : Int32))) := ⟨_, rfl⟩
  rw [← eH] at h ⊢
  refine gG_aload_n dX12_isSounding_6 rfl rfl ?_
  obtain ⟨fs, q3, e1, e2, h⟩ := h
  refine gG_gr dX12_isSounding_7 fl_X12_44 ⟨fs, q3, e1, e2, ?_⟩
  refine gG_iconst (v := 0) dX12_isSounding_10 (by decide) ?_
  obtain ⟨m0, f0, e1, e2, h⟩ := h
  refine gG_iald dX12_isSounding_11 ⟨m0, f0, e1, e2, ?_⟩
  obtain ⟨x4, eH⟩ : ∃ z, z = f0 (Int32.toNatClampNeg ((0 : Int32))) := ⟨_, rfl⟩
  rw [← eH] at h ⊢
  refine gG_ic_ne (tgt := 33) dX12_isSounding_12 (by decide) (fun c => ?_) (fun c => ?_)
  · have h := h.1 c
    refine gG_aload_n dX12_isSounding_33 rfl rfl ?_
    obtain ⟨fs, q5, e1, e2, h⟩ := h
    refine gG_gr dX12_isSounding_34 fl_X12_87 ⟨fs, q5, e1, e2, ?_⟩
    refine gG_iconst (v := 1) dX12_isSounding_37 (by decide) ?_
    refine gG_aload_n dX12_isSounding_38 rfl rfl ?_
    obtain ⟨fs, q6, e1, e2, h⟩ := h
    refine gG_gr dX12_isSounding_39 fl_X12_117 ⟨fs, q6, e1, e2, ?_⟩
    refine gG_bipush (v := 12) dX12_isSounding_42 (by decide) ?_
    refine gG_iload_n dX12_isSounding_44 rfl rfl ?_
    refine gG_iadd dX12_isSounding_45 ?_
    obtain ⟨m0, f0, e1, e2, h⟩ := h
    refine gG_iald dX12_isSounding_46 ⟨m0, f0, e1, e2, ?_⟩
    obtain ⟨x7, eH⟩ : ∃ z, z = f0 (Int32.toNatClampNeg (((12 : Int32) + i1))) := ⟨_, rfl⟩
    rw [← eH] at h ⊢
    obtain ⟨m0, f0, e1, e2, h⟩ := h
    refine gG_iast dX12_isSounding_47 ⟨m0, f0, e1, e2, ?_⟩
    obtain ⟨H8, eH⟩ : ∃ z, z = va_up H (q5) (.inl (0, m0, .inl (upd f0 (Int32.toNatClampNeg ((1 : Int32))) (x7)))) := ⟨_, rfl⟩
    rw [← eH] at h ⊢
    refine gG_aload_n dX12_isSounding_48 rfl rfl ?_
    obtain ⟨fs, q9, e1, e2, h⟩ := h
    refine gG_gr dX12_isSounding_49 fl_X12_87 ⟨fs, q9, e1, e2, ?_⟩
    refine gG_iconst (v := 2) dX12_isSounding_52 (by decide) ?_
    refine gG_aload_n dX12_isSounding_53 rfl rfl ?_
    obtain ⟨fs, q10, e1, e2, h⟩ := h
    refine gG_gr dX12_isSounding_54 fl_X12_117 ⟨fs, q10, e1, e2, ?_⟩
    refine gG_iconst (v := 5) dX12_isSounding_57 (by decide) ?_
    refine gG_iload_n dX12_isSounding_58 rfl rfl ?_
    refine gG_iadd dX12_isSounding_59 ?_
    obtain ⟨m0, f0, e1, e2, h⟩ := h
    refine gG_iald dX12_isSounding_60 ⟨m0, f0, e1, e2, ?_⟩
    obtain ⟨x11, eH⟩ : ∃ z, z = f0 (Int32.toNatClampNeg (((5 : Int32) + i1))) := ⟨_, rfl⟩
    rw [← eH] at h ⊢
    obtain ⟨m0, f0, e1, e2, h⟩ := h
    refine gG_iast dX12_isSounding_61 ⟨m0, f0, e1, e2, ?_⟩
    obtain ⟨H12, eH⟩ : ∃ z, z = va_up H8 (q9) (.inl (0, m0, .inl (upd f0 (Int32.toNatClampNeg ((2 : Int32))) (x11)))) := ⟨_, rfl⟩
    rw [← eH] at h ⊢
    refine gG_aload_n dX12_isSounding_62 rfl rfl ?_
    obtain ⟨fs, q13, e1, e2, h⟩ := h
    refine gG_gr dX12_isSounding_63 fl_X12_87 ⟨fs, q13, e1, e2, ?_⟩
    refine gG_iconst (v := 3) dX12_isSounding_66 (by decide) ?_
    refine gG_aload_n dX12_isSounding_67 rfl rfl ?_
    obtain ⟨fs, q14, e1, e2, h⟩ := h
    refine gG_gr dX12_isSounding_68 fl_X12_26 ⟨fs, q14, e1, e2, ?_⟩
    refine gG_iload_n dX12_isSounding_71 rfl rfl ?_
    obtain ⟨m0, f0, e1, e2, h⟩ := h
    refine gG_iald dX12_isSounding_72 ⟨m0, f0, e1, e2, ?_⟩
    obtain ⟨x15, eH⟩ : ∃ z, z = f0 (Int32.toNatClampNeg (i1)) := ⟨_, rfl⟩
    rw [← eH] at h ⊢
    obtain ⟨m0, f0, e1, e2, h⟩ := h
    refine gG_iast dX12_isSounding_73 ⟨m0, f0, e1, e2, ?_⟩
    obtain ⟨H16, eH⟩ : ∃ z, z = va_up H12 (q13) (.inl (0, m0, .inl (upd f0 (Int32.toNatClampNeg ((3 : Int32))) (x15)))) := ⟨_, rfl⟩
    rw [← eH] at h ⊢
    refine gG_aload_n dX12_isSounding_74 rfl rfl ?_
    obtain ⟨fs, q17, e1, e2, h⟩ := h
    refine gG_gr dX12_isSounding_75 fl_X12_87 ⟨fs, q17, e1, e2, ?_⟩
    refine gG_iconst (v := 4) dX12_isSounding_78 (by decide) ?_
    refine gG_iload_n dX12_isSounding_79 rfl rfl ?_
    obtain ⟨m0, f0, e1, e2, h⟩ := h
    refine gG_iast dX12_isSounding_80 ⟨m0, f0, e1, e2, ?_⟩
    obtain ⟨H18, eH⟩ : ∃ z, z = va_up H16 (q17) (.inl (0, m0, .inl (upd f0 (Int32.toNatClampNeg ((4 : Int32))) (i2)))) := ⟨_, rfl⟩
    rw [← eH] at h ⊢
    refine gG_aload_n dX12_isSounding_81 rfl rfl ?_
    refine gG_iconst (v := 0) dX12_isSounding_82 (by decide) ?_
    obtain ⟨hrc, d2, P2, hdd, hC, h⟩ := h
    refine gG_cvi (As := [.int ((0 : Int32))]) (st := []) dX12_isSounding_83 mV_X12_368 hdd hrc rfl rfl (Nat.le_of_ble_eq_true rfl) (Nat.le_refl _) ⟨Nat.le_refl _, Nat.le_refl _⟩ hC (fun H19 x20 hp => ?_)
    have h := h H19 x20 hp
    refine gG_if_eq (tgt := 93) dX12_isSounding_86 (by decide) (fun c => ?_) (fun c => ?_)
    · have h := h.1 c
      refine gG_iconst (v := 0) dX12_isSounding_93 (by decide) ?_
      exact gG_exit ⟨rfl, rfl, rfl, dX12_isSounding_94, false, rfl, h⟩
    · have h := h.2 c
      refine gG_iconst (v := 1) dX12_isSounding_89 (by decide) ?_
      refine gG_goto (tgt := 94) dX12_isSounding_90 (by decide) ?_
      exact gG_exit ⟨rfl, rfl, rfl, dX12_isSounding_94, true, rfl, h⟩
  · have h := h.2 c
    refine gG_aload_n dX12_isSounding_15 rfl rfl ?_
    obtain ⟨fs, q21, e1, e2, h⟩ := h
    refine gG_gr dX12_isSounding_16 fl_X12_117 ⟨fs, q21, e1, e2, ?_⟩
    refine gG_bipush (v := 12) dX12_isSounding_19 (by decide) ?_
    refine gG_iload_n dX12_isSounding_21 rfl rfl ?_
    refine gG_iadd dX12_isSounding_22 ?_
    obtain ⟨m0, f0, e1, e2, h⟩ := h
    refine gG_iald dX12_isSounding_23 ⟨m0, f0, e1, e2, ?_⟩
    obtain ⟨x22, eH⟩ : ∃ z, z = f0 (Int32.toNatClampNeg (((12 : Int32) + i1))) := ⟨_, rfl⟩
    rw [← eH] at h ⊢
    refine gG_if_eq (tgt := 31) dX12_isSounding_24 (by decide) (fun c => ?_) (fun c => ?_)
    · have h := h.1 c
      refine gG_iconst (v := 0) dX12_isSounding_31 (by decide) ?_
      exact gG_exit ⟨rfl, rfl, rfl, dX12_isSounding_32, false, rfl, h⟩
    · have h := h.2 c
      refine gG_iconst (v := 1) dX12_isSounding_27 (by decide) ?_
      refine gG_goto (tgt := 32) dX12_isSounding_28 (by decide) ?_
      exact gG_exit ⟨rfl, rfl, rfl, dX12_isSounding_32, true, rfl, h⟩

theorem kX12_runsOver_0 {d n : Nat} {H : gHp} {P : gHp → Prop} {a0 : Nat} {i1 : Int32} (h : g_gr H (a0) 12 47 (fun q1 => g_al 0 H (q1) (((5 : Int32) + i1)) (fun x2 => g_gr H (a0) 12 16 (fun q3 => g_al 0 H (q3) (i1) (fun x4 => ((1 : Int32) ≤ (x2 - x4) → g_gi H (a0) 12 56 (fun x5 => g_pf H (a0) 12 56 (.int ((x5 ||| ((1 : Int32) <<< (i1 &&& 31))))) (fun H6 => g_gr H6 (a0) 12 47 (fun q7 => g_gr H6 (a0) 12 16 (fun q8 => g_al 0 H6 (q8) (i1) (fun x9 => g_as 0 H6 (q7) (((5 : Int32) + i1)) (x9) (fun H10 => g_gr H10 (a0) 12 17 (fun q11 => g_al 0 H10 (q11) (i1) (fun x12 => (0 ≤ x12 → g_gr H10 (a0) 12 47 (fun q13 => g_gr H10 (a0) 12 17 (fun q14 => g_al 0 H10 (q14) (i1) (fun x15 => g_al 0 H10 (q13) (((5 : Int32) + x15)) (fun x16 => g_as 0 H10 (q13) (((5 : Int32) + x15)) ((x16 + (x2 - x4))) (fun H17 => P H17)))))) ∧ (¬ (0 ≤ x12) → g_gi H10 (a0) 12 55 (fun x18 => g_pf H10 (a0) 12 55 (.int ((x18 + (x2 - x4)))) (fun H19 => P H19)))))))))))) ∧ (¬ ((1 : Int32) ≤ (x2 - x4)) → P H)))))) : gG d mX12_runsOver 0 0 (g_Xv mX12_runsOver n 0 0 P) 0 n H [some (.ref (a0)), some (.int (i1)), none] [] 0 0 := by
  refine gG_aload_n dX12_runsOver_0 rfl rfl ?_
  obtain ⟨fs, q1, e1, e2, h⟩ := h
  refine gG_gr dX12_runsOver_1 fl_X12_117 ⟨fs, q1, e1, e2, ?_⟩
  refine gG_iconst (v := 5) dX12_runsOver_4 (by decide) ?_
  refine gG_iload_n dX12_runsOver_5 rfl rfl ?_
  refine gG_iadd dX12_runsOver_6 ?_
  obtain ⟨m0, f0, e1, e2, h⟩ := h
  refine gG_iald dX12_runsOver_7 ⟨m0, f0, e1, e2, ?_⟩
  obtain ⟨x2, eH⟩ : ∃ z, z = f0 (Int32.toNatClampNeg (((5 : Int32) + i1))) := ⟨_, rfl⟩
  rw [← eH] at h ⊢
  refine gG_aload_n dX12_runsOver_8 rfl rfl ?_
  obtain ⟨fs, q3, e1, e2, h⟩ := h
  refine gG_gr dX12_runsOver_9 fl_X12_32 ⟨fs, q3, e1, e2, ?_⟩
  refine gG_iload_n dX12_runsOver_12 rfl rfl ?_
  obtain ⟨m0, f0, e1, e2, h⟩ := h
  refine gG_iald dX12_runsOver_13 ⟨m0, f0, e1, e2, ?_⟩
  obtain ⟨x4, eH⟩ : ∃ z, z = f0 (Int32.toNatClampNeg (i1)) := ⟨_, rfl⟩
  rw [← eH] at h ⊢
  refine gG_isub dX12_runsOver_14 ?_
  refine gG_istore_n dX12_runsOver_15 rfl (Nat.le_of_ble_eq_true rfl) ?_
  refine gG_iload_n dX12_runsOver_16 rfl rfl ?_
  refine gG_iconst (v := 1) dX12_runsOver_17 (by decide) ?_
  refine gG_ic_ge (tgt := 22) dX12_runsOver_18 (by decide) (fun c => ?_) (fun c => ?_)
  · have h := h.1 c
    refine gG_aload_n dX12_runsOver_22 rfl rfl ?_
    refine gG_dup dX12_runsOver_23 rfl ?_
    obtain ⟨fs, x5, e1, e2, h⟩ := h
    refine gG_gi dX12_runsOver_24 fl_X12_371 ⟨fs, x5, e1, e2, ?_⟩
    refine gG_iconst (v := 1) dX12_runsOver_27 (by decide) ?_
    refine gG_iload_n dX12_runsOver_28 rfl rfl ?_
    refine gG_ishl dX12_runsOver_29 ?_
    refine gG_ior dX12_runsOver_30 ?_
    obtain ⟨fs, e1, e2, h⟩ := h
    refine gG_pi dX12_runsOver_31 fl_X12_371 ⟨fs, e1, e2, ?_⟩
    obtain ⟨H6, eH⟩ : ∃ z, z = va_up H (a0) (.inr (12, fs.set 56 (.int ((x5 ||| ((1 : Int32) <<< (i1 &&& 31))))))) := ⟨_, rfl⟩
    rw [← eH] at h ⊢
    refine gG_aload_n dX12_runsOver_34 rfl rfl ?_
    obtain ⟨fs, q7, e1, e2, h⟩ := h
    refine gG_gr dX12_runsOver_35 fl_X12_117 ⟨fs, q7, e1, e2, ?_⟩
    refine gG_iconst (v := 5) dX12_runsOver_38 (by decide) ?_
    refine gG_iload_n dX12_runsOver_39 rfl rfl ?_
    refine gG_iadd dX12_runsOver_40 ?_
    refine gG_aload_n dX12_runsOver_41 rfl rfl ?_
    obtain ⟨fs, q8, e1, e2, h⟩ := h
    refine gG_gr dX12_runsOver_42 fl_X12_32 ⟨fs, q8, e1, e2, ?_⟩
    refine gG_iload_n dX12_runsOver_45 rfl rfl ?_
    obtain ⟨m0, f0, e1, e2, h⟩ := h
    refine gG_iald dX12_runsOver_46 ⟨m0, f0, e1, e2, ?_⟩
    obtain ⟨x9, eH⟩ : ∃ z, z = f0 (Int32.toNatClampNeg (i1)) := ⟨_, rfl⟩
    rw [← eH] at h ⊢
    obtain ⟨m0, f0, e1, e2, h⟩ := h
    refine gG_iast dX12_runsOver_47 ⟨m0, f0, e1, e2, ?_⟩
    obtain ⟨H10, eH⟩ : ∃ z, z = va_up H6 (q7) (.inl (0, m0, .inl (upd f0 (Int32.toNatClampNeg (((5 : Int32) + i1))) (x9)))) := ⟨_, rfl⟩
    rw [← eH] at h ⊢
    refine gG_aload_n dX12_runsOver_48 rfl rfl ?_
    obtain ⟨fs, q11, e1, e2, h⟩ := h
    refine gG_gr dX12_runsOver_49 fl_X12_35 ⟨fs, q11, e1, e2, ?_⟩
    refine gG_iload_n dX12_runsOver_52 rfl rfl ?_
    obtain ⟨m0, f0, e1, e2, h⟩ := h
    refine gG_iald dX12_runsOver_53 ⟨m0, f0, e1, e2, ?_⟩
    obtain ⟨x12, eH⟩ : ∃ z, z = f0 (Int32.toNatClampNeg (i1)) := ⟨_, rfl⟩
    rw [← eH] at h ⊢
    refine gG_if_ge (tgt := 70) dX12_runsOver_54 (by decide) (fun c => ?_) (fun c => ?_)
    · have h := h.1 c
      refine gG_aload_n dX12_runsOver_70 rfl rfl ?_
      obtain ⟨fs, q13, e1, e2, h⟩ := h
      refine gG_gr dX12_runsOver_71 fl_X12_117 ⟨fs, q13, e1, e2, ?_⟩
      refine gG_iconst (v := 5) dX12_runsOver_74 (by decide) ?_
      refine gG_aload_n dX12_runsOver_75 rfl rfl ?_
      obtain ⟨fs, q14, e1, e2, h⟩ := h
      refine gG_gr dX12_runsOver_76 fl_X12_35 ⟨fs, q14, e1, e2, ?_⟩
      refine gG_iload_n dX12_runsOver_79 rfl rfl ?_
      obtain ⟨m0, f0, e1, e2, h⟩ := h
      refine gG_iald dX12_runsOver_80 ⟨m0, f0, e1, e2, ?_⟩
      obtain ⟨x15, eH⟩ : ∃ z, z = f0 (Int32.toNatClampNeg (i1)) := ⟨_, rfl⟩
      rw [← eH] at h ⊢
      refine gG_iadd dX12_runsOver_81 ?_
      refine gG_dup2 dX12_runsOver_82 rfl rfl ?_
      obtain ⟨m0, f0, e1, e2, h⟩ := h
      refine gG_iald dX12_runsOver_83 ⟨m0, f0, e1, e2, ?_⟩
      obtain ⟨x16, eH⟩ : ∃ z, z = f0 (Int32.toNatClampNeg (((5 : Int32) + x15))) := ⟨_, rfl⟩
      rw [← eH] at h ⊢
      refine gG_iload_n dX12_runsOver_84 rfl rfl ?_
      refine gG_iadd dX12_runsOver_85 ?_
      obtain ⟨m0, f0, e1, e2, h⟩ := h
      refine gG_iast dX12_runsOver_86 ⟨m0, f0, e1, e2, ?_⟩
      obtain ⟨H17, eH⟩ : ∃ z, z = va_up H10 (q13) (.inl (0, m0, .inl (upd f0 (Int32.toNatClampNeg (((5 : Int32) + x15))) ((x16 + (x2 - x4)))))) := ⟨_, rfl⟩
      rw [← eH] at h ⊢
      exact gG_exit ⟨rfl, rfl, rfl, dX12_runsOver_87, rfl, h⟩
    · have h := h.2 c
      refine gG_aload_n dX12_runsOver_57 rfl rfl ?_
      refine gG_dup dX12_runsOver_58 rfl ?_
      obtain ⟨fs, x18, e1, e2, h⟩ := h
      refine gG_gi dX12_runsOver_59 fl_X12_374 ⟨fs, x18, e1, e2, ?_⟩
      refine gG_iload_n dX12_runsOver_62 rfl rfl ?_
      refine gG_iadd dX12_runsOver_63 ?_
      obtain ⟨fs, e1, e2, h⟩ := h
      refine gG_pi dX12_runsOver_64 fl_X12_374 ⟨fs, e1, e2, ?_⟩
      obtain ⟨H19, eH⟩ : ∃ z, z = va_up H10 (a0) (.inr (12, fs.set 55 (.int ((x18 + (x2 - x4)))))) := ⟨_, rfl⟩
      rw [← eH] at h ⊢
      refine gG_goto (tgt := 87) dX12_runsOver_67 (by decide) ?_
      exact gG_exit ⟨rfl, rfl, rfl, dX12_runsOver_87, rfl, h⟩
  · have h := h.2 c
    exact gG_exit ⟨rfl, rfl, rfl, dX12_runsOver_21, rfl, h⟩

theorem kX12_readBy_0 {d n : Nat} {H : gHp} {P : gHp → Int32 → Prop} {a0 : Nat} {i1 : Int32} (h : (¬ (i1 = 0) → gG d mX12_readBy 0 0 (g_Xj mX12_readBy n 0 0 P) 8 n H [some (.ref (a0)), some (.int (i1)), some (.int ((0 : Int32)))] [] (0) (0)) ∧ (i1 = 0 → P H ((-1 : Int32)))) : gG d mX12_readBy 0 0 (g_Xj mX12_readBy n 0 0 P) 0 n H [some (.ref (a0)), some (.int (i1)), none] [] 0 0 := by
  refine gG_iload_n dX12_readBy_0 rfl rfl ?_
  refine gG_if_ne (tgt := 6) dX12_readBy_1 (by decide) (fun c => ?_) (fun c => ?_)
  · have h := h.1 c
    refine gG_iconst (v := 0) dX12_readBy_6 (by decide) ?_
    refine gG_istore_n dX12_readBy_7 rfl (Nat.le_of_ble_eq_true rfl) ?_
    refine gG_locals ?_ h
    exact ⟨rfl, ⟨rfl, ⟨rfl, trivial⟩⟩⟩
  · have h := h.2 c
    refine gG_iconst (v := (-1)) dX12_readBy_4 (by decide) ?_
    exact gG_exit ⟨rfl, rfl, rfl, dX12_readBy_5, _, rfl, h⟩
theorem kX12_readBy_8 {d n : Nat} {H : gHp} {P : gHp → Int32 → Prop} {a0 : Nat} {i1 : Int32} {i2 : Int32} (h : g_gr H (a0) 12 10 (fun q1 => g_al 0 H (q1) ((1 : Int32)) (fun x2 => (x2 ≤ i2 → P H ((6 : Int32))) ∧ (¬ (x2 ≤ i2) → g_gr H (a0) 12 18 (fun q3 => g_al 0 H (q3) (i2) (fun x4 => (¬ (x4 = i1) → gG d mX12_readBy 0 0 (g_Xj mX12_readBy n 0 0 P) 8 n H [some (.ref (a0)), some (.int (i1)), some (.int ((i2 + 1)))] [] (0) (0)) ∧ (x4 = i1 → P H (i2)))))))) : gG d mX12_readBy 0 0 (g_Xj mX12_readBy n 0 0 P) 8 n H [some (.ref (a0)), some (.int (i1)), some (.int (i2))] [] 0 0 := by
  refine gG_iload_n dX12_readBy_8 rfl rfl ?_
  refine gG_aload_n dX12_readBy_9 rfl rfl ?_
  obtain ⟨fs, q1, e1, e2, h⟩ := h
  refine gG_gr dX12_readBy_10 fl_X12_13 ⟨fs, q1, e1, e2, ?_⟩
  refine gG_iconst (v := 1) dX12_readBy_13 (by decide) ?_
  obtain ⟨m0, f0, e1, e2, h⟩ := h
  refine gG_iald dX12_readBy_14 ⟨m0, f0, e1, e2, ?_⟩
  obtain ⟨x2, eH⟩ : ∃ z, z = f0 (Int32.toNatClampNeg ((1 : Int32))) := ⟨_, rfl⟩
  rw [← eH] at h ⊢
  refine gG_ic_ge (tgt := 36) dX12_readBy_15 (by decide) (fun c => ?_) (fun c => ?_)
  · have h := h.1 c
    refine gG_bipush (v := 6) dX12_readBy_36 (by decide) ?_
    exact gG_exit ⟨rfl, rfl, rfl, dX12_readBy_38, _, rfl, h⟩
  · have h := h.2 c
    refine gG_aload_n dX12_readBy_18 rfl rfl ?_
    obtain ⟨fs, q3, e1, e2, h⟩ := h
    refine gG_gr dX12_readBy_19 fl_X12_38 ⟨fs, q3, e1, e2, ?_⟩
    refine gG_iload_n dX12_readBy_22 rfl rfl ?_
    obtain ⟨m0, f0, e1, e2, h⟩ := h
    refine gG_iald dX12_readBy_23 ⟨m0, f0, e1, e2, ?_⟩
    obtain ⟨x4, eH⟩ : ∃ z, z = f0 (Int32.toNatClampNeg (i2)) := ⟨_, rfl⟩
    rw [← eH] at h ⊢
    refine gG_iload_n dX12_readBy_24 rfl rfl ?_
    refine gG_ic_ne (tgt := 30) dX12_readBy_25 (by decide) (fun c => ?_) (fun c => ?_)
    · have h := h.1 c
      refine gG_iinc (v := i2 + 1) dX12_readBy_30 rfl rfl (Nat.le_of_ble_eq_true rfl) ?_
      refine gG_goto (tgt := 8) dX12_readBy_33 (by decide) ?_
      refine gG_locals ?_ h
      exact ⟨rfl, ⟨rfl, ⟨rfl, trivial⟩⟩⟩
    · have h := h.2 c
      refine gG_iload_n dX12_readBy_28 rfl rfl ?_
      exact gG_exit ⟨rfl, rfl, rfl, dX12_readBy_29, _, rfl, h⟩

theorem kX12_passes_0 {d n : Nat} {H : gHp} {P : gHp → Int32 → Prop} {a0 : Nat} {i1 : Int32} (h : g_pf H (a0) 12 55 (.int ((0 : Int32))) (fun H1 => g_pf H1 (a0) 12 56 (.int ((0 : Int32))) (fun H2 => gG d mX12_passes 0 0 (g_Xj mX12_passes n 0 0 P) 14 n H2 [some (.ref (a0)), some (.int (i1)), some (.int ((0 : Int32))), some (.int ((0 : Int32))), none] [] (0) (0)))) : gG d mX12_passes 0 0 (g_Xj mX12_passes n 0 0 P) 0 n H [some (.ref (a0)), some (.int (i1)), none, none, none] [] 0 0 := by
  refine gG_aload_n dX12_passes_0 rfl rfl ?_
  refine gG_iconst (v := 0) dX12_passes_1 (by decide) ?_
  obtain ⟨fs, e1, e2, h⟩ := h
  refine gG_pi dX12_passes_2 fl_X12_374 ⟨fs, e1, e2, ?_⟩
  obtain ⟨H1, eH⟩ : ∃ z, z = va_up H (a0) (.inr (12, fs.set 55 (.int ((0 : Int32))))) := ⟨_, rfl⟩
  rw [← eH] at h ⊢
  refine gG_aload_n dX12_passes_5 rfl rfl ?_
  refine gG_iconst (v := 0) dX12_passes_6 (by decide) ?_
  obtain ⟨fs, e1, e2, h⟩ := h
  refine gG_pi dX12_passes_7 fl_X12_371 ⟨fs, e1, e2, ?_⟩
  obtain ⟨H2, eH⟩ : ∃ z, z = va_up H1 (a0) (.inr (12, fs.set 56 (.int ((0 : Int32))))) := ⟨_, rfl⟩
  rw [← eH] at h ⊢
  refine gG_iconst (v := 0) dX12_passes_10 (by decide) ?_
  refine gG_istore_n dX12_passes_11 rfl (Nat.le_of_ble_eq_true rfl) ?_
  refine gG_iconst (v := 0) dX12_passes_12 (by decide) ?_
  refine gG_istore_n dX12_passes_13 rfl (Nat.le_of_ble_eq_true rfl) ?_
  refine gG_locals ?_ h
  exact ⟨rfl, ⟨rfl, ⟨rfl, ⟨rfl, trivial⟩⟩⟩⟩
theorem kX12_passes_14 {d n : Nat} {H : gHp} {P : gHp → Int32 → Prop} {a0 : Nat} {i1 : Int32} {i2 : Int32} {i3 : Int32} (h : g_gr H (a0) 12 10 (fun q1 => g_al 0 H (q1) ((0 : Int32)) (fun x2 => (x2 ≤ i3 → gG d mX12_passes 0 0 (g_Xj mX12_passes n 0 0 P) 51 n H [some (.ref (a0)), some (.int (i1)), some (.int (i2)), some (.int ((0 : Int32))), none] [] (0) (0)) ∧ (¬ (x2 ≤ i3) → g_gr H (a0) 12 47 (fun q3 => g_al 0 H (q3) (((5 : Int32) + i3)) (fun x4 => g_gr H (a0) 12 15 (fun q5 => g_al 0 H (q5) (i3) (fun x6 => g_as 0 H (q3) (((5 : Int32) + i3)) ((x4 + (i1 * x6))) (fun H7 => gG d mX12_passes 0 0 (g_Xj mX12_passes n 0 0 P) 14 n H7 [some (.ref (a0)), some (.int (i1)), some (.int (i2)), some (.int ((i3 + 1))), none] [] (0) (0)))))))))) : gG d mX12_passes 0 0 (g_Xj mX12_passes n 0 0 P) 14 n H [some (.ref (a0)), some (.int (i1)), some (.int (i2)), some (.int (i3)), none] [] 0 0 := by
  refine gG_iload_n dX12_passes_14 rfl rfl ?_
  refine gG_aload_n dX12_passes_15 rfl rfl ?_
  obtain ⟨fs, q1, e1, e2, h⟩ := h
  refine gG_gr dX12_passes_16 fl_X12_13 ⟨fs, q1, e1, e2, ?_⟩
  refine gG_iconst (v := 0) dX12_passes_19 (by decide) ?_
  obtain ⟨m0, f0, e1, e2, h⟩ := h
  refine gG_iald dX12_passes_20 ⟨m0, f0, e1, e2, ?_⟩
  obtain ⟨x2, eH⟩ : ∃ z, z = f0 (Int32.toNatClampNeg ((0 : Int32))) := ⟨_, rfl⟩
  rw [← eH] at h ⊢
  refine gG_ic_ge (tgt := 49) dX12_passes_21 (by decide) (fun c => ?_) (fun c => ?_)
  · have h := h.1 c
    refine gG_iconst (v := 0) dX12_passes_49 (by decide) ?_
    refine gG_istore_n dX12_passes_50 rfl (Nat.le_of_ble_eq_true rfl) ?_
    refine gG_locals ?_ h
    exact ⟨rfl, ⟨rfl, ⟨rfl, ⟨rfl, trivial⟩⟩⟩⟩
  · have h := h.2 c
    refine gG_aload_n dX12_passes_24 rfl rfl ?_
    obtain ⟨fs, q3, e1, e2, h⟩ := h
    refine gG_gr dX12_passes_25 fl_X12_117 ⟨fs, q3, e1, e2, ?_⟩
    refine gG_iconst (v := 5) dX12_passes_28 (by decide) ?_
    refine gG_iload_n dX12_passes_29 rfl rfl ?_
    refine gG_iadd dX12_passes_30 ?_
    refine gG_dup2 dX12_passes_31 rfl rfl ?_
    obtain ⟨m0, f0, e1, e2, h⟩ := h
    refine gG_iald dX12_passes_32 ⟨m0, f0, e1, e2, ?_⟩
    obtain ⟨x4, eH⟩ : ∃ z, z = f0 (Int32.toNatClampNeg (((5 : Int32) + i3))) := ⟨_, rfl⟩
    rw [← eH] at h ⊢
    refine gG_iload_n dX12_passes_33 rfl rfl ?_
    refine gG_aload_n dX12_passes_34 rfl rfl ?_
    obtain ⟨fs, q5, e1, e2, h⟩ := h
    refine gG_gr dX12_passes_35 fl_X12_29 ⟨fs, q5, e1, e2, ?_⟩
    refine gG_iload_n dX12_passes_38 rfl rfl ?_
    obtain ⟨m0, f0, e1, e2, h⟩ := h
    refine gG_iald dX12_passes_39 ⟨m0, f0, e1, e2, ?_⟩
    obtain ⟨x6, eH⟩ : ∃ z, z = f0 (Int32.toNatClampNeg (i3)) := ⟨_, rfl⟩
    rw [← eH] at h ⊢
    refine gG_imul dX12_passes_40 ?_
    refine gG_iadd dX12_passes_41 ?_
    obtain ⟨m0, f0, e1, e2, h⟩ := h
    refine gG_iast dX12_passes_42 ⟨m0, f0, e1, e2, ?_⟩
    obtain ⟨H7, eH⟩ : ∃ z, z = va_up H (q3) (.inl (0, m0, .inl (upd f0 (Int32.toNatClampNeg (((5 : Int32) + i3))) ((x4 + (i1 * x6)))))) := ⟨_, rfl⟩
    rw [← eH] at h ⊢
    refine gG_iinc (v := i3 + 1) dX12_passes_43 rfl rfl (Nat.le_of_ble_eq_true rfl) ?_
    refine gG_goto (tgt := 14) dX12_passes_46 (by decide) ?_
    refine gG_locals ?_ h
    exact ⟨rfl, ⟨rfl, ⟨rfl, ⟨rfl, trivial⟩⟩⟩⟩
theorem kX12_passes_51 {d n : Nat} {H : gHp} {P : gHp → Int32 → Prop} {a0 : Nat} {i1 : Int32} {i2 : Int32} {i3 : Int32} (h : g_gr H (a0) 12 10 (fun q1 => g_al 0 H (q1) ((0 : Int32)) (fun x2 => (x2 ≤ i3 → (∃ fs, H (a0) = .inr (12, fs)) ∧ g_ci d mX12_readBy n H [.ref (a0), .int (i2)] (fun H3 x4 => g_gr H3 (a0) 12 47 (fun q5 => g_as 0 H3 (q5) ((2 : Int32)) (i2) (fun H6 => g_gr H6 (a0) 12 47 (fun q7 => g_as 0 H6 (q7) ((3 : Int32)) (x4) (fun H8 => (x4 < 0 → gG d mX12_passes 0 0 (g_Xj mX12_passes n 0 0 P) 200 n H8 [some (.ref (a0)), none, none, some (.int (x4)), none] [] (0) (0)) ∧ (¬ (x4 < 0) → g_gr H8 (a0) 12 47 (fun q9 => g_al 0 H8 (q9) ((4 : Int32)) (fun x10 => ((40 : Int32) ≤ x10 → gG d mX12_passes 0 0 (g_Xj mX12_passes n 0 0 P) 200 n H8 [some (.ref (a0)), none, none, some (.int (x4)), none] [] (0) (0)) ∧ (¬ ((40 : Int32) ≤ x10) → g_gr H8 (a0) 12 47 (fun q11 => g_gr H8 (a0) 12 47 (fun q12 => g_al 0 H8 (q12) ((4 : Int32)) (fun x13 => g_as 0 H8 (q11) (((19 : Int32) + x13)) (x4) (fun H14 => g_gr H14 (a0) 12 47 (fun q15 => g_al 0 H14 (q15) ((4 : Int32)) (fun x16 => g_as 0 H14 (q15) ((4 : Int32)) ((x16 + (1 : Int32))) (fun H17 => gG d mX12_passes 0 0 (g_Xj mX12_passes n 0 0 P) 200 n H17 [some (.ref (a0)), none, none, some (.int (x4)), none] [] (0) (0)))))))))))))))))) ∧ (¬ (x2 ≤ i3) → g_gr H (a0) 12 54 (fun q18 => g_al 0 H (q18) (i3) (fun x19 => (∃ fs, H (a0) = .inr (12, fs)) ∧ g_cvd d mX12_runsOver n H [.ref (a0), .int (x19)] (fun H20 => g_gr H20 (a0) 12 47 (fun q21 => (∃ fs, H20 (a0) = .inr (12, fs)) ∧ g_ci d mX12_spoutOf n H20 [.ref (a0), .int (x19)] (fun H22 x23 => g_as 0 H22 (q21) (((12 : Int32) + x19)) (x23) (fun H24 => g_gr H24 (a0) 12 47 (fun q25 => g_al 0 H24 (q25) (((5 : Int32) + x19)) (fun x26 => g_gr H24 (a0) 12 47 (fun q27 => g_al 0 H24 (q27) (((12 : Int32) + x19)) (fun x28 => g_as 0 H24 (q25) (((5 : Int32) + x19)) ((x26 - x28)) (fun H29 => (∃ fs, H29 (a0) = .inr (12, fs)) ∧ g_cz d mX12_isSounding n H29 [.ref (a0), .int (x19), .int (i1)] (fun H30 b31 => (b31 = false → gG d mX12_passes 0 0 (g_Xj mX12_passes n 0 0 P) 51 n H30 [some (.ref (a0)), some (.int (i1)), some (.int ((i2 ||| (0 : Int32)))), some (.int ((i3 + 1))), none] [] (0) (0)) ∧ (b31 = true → gG d mX12_passes 0 0 (g_Xj mX12_passes n 0 0 P) 51 n H30 [some (.ref (a0)), some (.int (i1)), some (.int ((i2 ||| ((1 : Int32) <<< (x19 &&& 31))))), some (.int ((i3 + 1))), none] [] (0) (0)))))))))))))))))) : gG d mX12_passes 0 0 (g_Xj mX12_passes n 0 0 P) 51 n H [some (.ref (a0)), some (.int (i1)), some (.int (i2)), some (.int (i3)), none] [] 0 0 := by
  refine gG_iload_n dX12_passes_51 rfl rfl ?_
  refine gG_aload_n dX12_passes_52 rfl rfl ?_
  obtain ⟨fs, q1, e1, e2, h⟩ := h
  refine gG_gr dX12_passes_53 fl_X12_13 ⟨fs, q1, e1, e2, ?_⟩
  refine gG_iconst (v := 0) dX12_passes_56 (by decide) ?_
  obtain ⟨m0, f0, e1, e2, h⟩ := h
  refine gG_iald dX12_passes_57 ⟨m0, f0, e1, e2, ?_⟩
  obtain ⟨x2, eH⟩ : ∃ z, z = f0 (Int32.toNatClampNeg ((0 : Int32))) := ⟨_, rfl⟩
  rw [← eH] at h ⊢
  refine gG_ic_ge (tgt := 140) dX12_passes_58 (by decide) (fun c => ?_) (fun c => ?_)
  · have h := h.1 c
    refine gG_aload_n dX12_passes_140 rfl rfl ?_
    refine gG_iload_n dX12_passes_141 rfl rfl ?_
    obtain ⟨hrc, d2, P2, hdd, hC, h⟩ := h
    refine gG_cvi (As := [.int (i2)]) (st := []) dX12_passes_142 mV_X12_386 hdd hrc rfl rfl (Nat.le_of_ble_eq_true rfl) (Nat.le_refl _) ⟨Nat.le_refl _, Nat.le_refl _⟩ hC (fun H3 x4 hp => ?_)
    have h := h H3 x4 hp
    refine gG_istore_n dX12_passes_145 rfl (Nat.le_of_ble_eq_true rfl) ?_
    refine gG_aload_n dX12_passes_146 rfl rfl ?_
    obtain ⟨fs, q5, e1, e2, h⟩ := h
    refine gG_gr dX12_passes_147 fl_X12_117 ⟨fs, q5, e1, e2, ?_⟩
    refine gG_iconst (v := 2) dX12_passes_150 (by decide) ?_
    refine gG_iload_n dX12_passes_151 rfl rfl ?_
    obtain ⟨m0, f0, e1, e2, h⟩ := h
    refine gG_iast dX12_passes_152 ⟨m0, f0, e1, e2, ?_⟩
    obtain ⟨H6, eH⟩ : ∃ z, z = va_up H3 (q5) (.inl (0, m0, .inl (upd f0 (Int32.toNatClampNeg ((2 : Int32))) (i2)))) := ⟨_, rfl⟩
    rw [← eH] at h ⊢
    refine gG_aload_n dX12_passes_153 rfl rfl ?_
    obtain ⟨fs, q7, e1, e2, h⟩ := h
    refine gG_gr dX12_passes_154 fl_X12_117 ⟨fs, q7, e1, e2, ?_⟩
    refine gG_iconst (v := 3) dX12_passes_157 (by decide) ?_
    refine gG_iload_n dX12_passes_158 rfl rfl ?_
    obtain ⟨m0, f0, e1, e2, h⟩ := h
    refine gG_iast dX12_passes_159 ⟨m0, f0, e1, e2, ?_⟩
    obtain ⟨H8, eH⟩ : ∃ z, z = va_up H6 (q7) (.inl (0, m0, .inl (upd f0 (Int32.toNatClampNeg ((3 : Int32))) (x4)))) := ⟨_, rfl⟩
    rw [← eH] at h ⊢
    refine gG_iload_n dX12_passes_160 rfl rfl ?_
    refine gG_if_lt (tgt := 200) dX12_passes_161 (by decide) (fun c => ?_) (fun c => ?_)
    · have h := h.1 c
      refine gG_locals ?_ h
      exact ⟨rfl, ⟨rfl, trivial⟩⟩
    · have h := h.2 c
      refine gG_aload_n dX12_passes_164 rfl rfl ?_
      obtain ⟨fs, q9, e1, e2, h⟩ := h
      refine gG_gr dX12_passes_165 fl_X12_117 ⟨fs, q9, e1, e2, ?_⟩
      refine gG_iconst (v := 4) dX12_passes_168 (by decide) ?_
      obtain ⟨m0, f0, e1, e2, h⟩ := h
      refine gG_iald dX12_passes_169 ⟨m0, f0, e1, e2, ?_⟩
      obtain ⟨x10, eH⟩ : ∃ z, z = f0 (Int32.toNatClampNeg ((4 : Int32))) := ⟨_, rfl⟩
      rw [← eH] at h ⊢
      refine gG_bipush (v := 40) dX12_passes_170 (by decide) ?_
      refine gG_ic_ge (tgt := 200) dX12_passes_172 (by decide) (fun c => ?_) (fun c => ?_)
      · have h := h.1 c
        refine gG_locals ?_ h
        exact ⟨rfl, ⟨rfl, trivial⟩⟩
      · have h := h.2 c
        refine gG_aload_n dX12_passes_175 rfl rfl ?_
        obtain ⟨fs, q11, e1, e2, h⟩ := h
        refine gG_gr dX12_passes_176 fl_X12_117 ⟨fs, q11, e1, e2, ?_⟩
        refine gG_bipush (v := 19) dX12_passes_179 (by decide) ?_
        refine gG_aload_n dX12_passes_181 rfl rfl ?_
        obtain ⟨fs, q12, e1, e2, h⟩ := h
        refine gG_gr dX12_passes_182 fl_X12_117 ⟨fs, q12, e1, e2, ?_⟩
        refine gG_iconst (v := 4) dX12_passes_185 (by decide) ?_
        obtain ⟨m0, f0, e1, e2, h⟩ := h
        refine gG_iald dX12_passes_186 ⟨m0, f0, e1, e2, ?_⟩
        obtain ⟨x13, eH⟩ : ∃ z, z = f0 (Int32.toNatClampNeg ((4 : Int32))) := ⟨_, rfl⟩
        rw [← eH] at h ⊢
        refine gG_iadd dX12_passes_187 ?_
        refine gG_iload_n dX12_passes_188 rfl rfl ?_
        obtain ⟨m0, f0, e1, e2, h⟩ := h
        refine gG_iast dX12_passes_189 ⟨m0, f0, e1, e2, ?_⟩
        obtain ⟨H14, eH⟩ : ∃ z, z = va_up H8 (q11) (.inl (0, m0, .inl (upd f0 (Int32.toNatClampNeg (((19 : Int32) + x13))) (x4)))) := ⟨_, rfl⟩
        rw [← eH] at h ⊢
        refine gG_aload_n dX12_passes_190 rfl rfl ?_
        obtain ⟨fs, q15, e1, e2, h⟩ := h
        refine gG_gr dX12_passes_191 fl_X12_117 ⟨fs, q15, e1, e2, ?_⟩
        refine gG_iconst (v := 4) dX12_passes_194 (by decide) ?_
        refine gG_dup2 dX12_passes_195 rfl rfl ?_
        obtain ⟨m0, f0, e1, e2, h⟩ := h
        refine gG_iald dX12_passes_196 ⟨m0, f0, e1, e2, ?_⟩
        obtain ⟨x16, eH⟩ : ∃ z, z = f0 (Int32.toNatClampNeg ((4 : Int32))) := ⟨_, rfl⟩
        rw [← eH] at h ⊢
        refine gG_iconst (v := 1) dX12_passes_197 (by decide) ?_
        refine gG_iadd dX12_passes_198 ?_
        obtain ⟨m0, f0, e1, e2, h⟩ := h
        refine gG_iast dX12_passes_199 ⟨m0, f0, e1, e2, ?_⟩
        obtain ⟨H17, eH⟩ : ∃ z, z = va_up H14 (q15) (.inl (0, m0, .inl (upd f0 (Int32.toNatClampNeg ((4 : Int32))) ((x16 + (1 : Int32)))))) := ⟨_, rfl⟩
        rw [← eH] at h ⊢
        refine gG_locals ?_ h
        exact ⟨rfl, ⟨rfl, trivial⟩⟩
  · have h := h.2 c
    refine gG_aload_n dX12_passes_61 rfl rfl ?_
    obtain ⟨fs, q18, e1, e2, h⟩ := h
    refine gG_gr dX12_passes_62 fl_X12_135 ⟨fs, q18, e1, e2, ?_⟩
    refine gG_iload_n dX12_passes_65 rfl rfl ?_
    obtain ⟨m0, f0, e1, e2, h⟩ := h
    refine gG_iald dX12_passes_66 ⟨m0, f0, e1, e2, ?_⟩
    obtain ⟨x19, eH⟩ : ∃ z, z = f0 (Int32.toNatClampNeg (i3)) := ⟨_, rfl⟩
    rw [← eH] at h ⊢
    refine gG_istore dX12_passes_67 (Nat.le_of_ble_eq_true rfl) ?_
    refine gG_aload_n dX12_passes_69 rfl rfl ?_
    refine gG_iload dX12_passes_70 rfl ?_
    obtain ⟨hrc, d2, P2, hdd, hC, h⟩ := h
    refine gG_cvv (As := [.int (x19)]) (st := []) dX12_passes_72 mV_X12_377 hdd hrc rfl rfl (Nat.le_of_ble_eq_true rfl) (Nat.le_refl _) ⟨Nat.le_refl _, Nat.le_refl _⟩ hC (fun H20 hp => ?_)
    have h := h H20 hp
    refine gG_aload_n dX12_passes_75 rfl rfl ?_
    obtain ⟨fs, q21, e1, e2, h⟩ := h
    refine gG_gr dX12_passes_76 fl_X12_117 ⟨fs, q21, e1, e2, ?_⟩
    refine gG_bipush (v := 12) dX12_passes_79 (by decide) ?_
    refine gG_iload dX12_passes_81 rfl ?_
    refine gG_iadd dX12_passes_83 ?_
    refine gG_aload_n dX12_passes_84 rfl rfl ?_
    refine gG_iload dX12_passes_85 rfl ?_
    obtain ⟨hrc, d2, P2, hdd, hC, h⟩ := h
    refine gG_cvi (As := [.int (x19)]) (st := [.int (((12 : Int32) + x19)), .ref (q21)]) dX12_passes_87 mV_X12_380 hdd hrc rfl rfl (Nat.le_of_ble_eq_true rfl) (Nat.le_refl _) ⟨Nat.le_refl _, Nat.le_refl _⟩ hC (fun H22 x23 hp => ?_)
    have h := h H22 x23 hp
    obtain ⟨m0, f0, e1, e2, h⟩ := h
    refine gG_iast dX12_passes_90 ⟨m0, f0, e1, e2, ?_⟩
    obtain ⟨H24, eH⟩ : ∃ z, z = va_up H22 (q21) (.inl (0, m0, .inl (upd f0 (Int32.toNatClampNeg (((12 : Int32) + x19))) (x23)))) := ⟨_, rfl⟩
    rw [← eH] at h ⊢
    refine gG_aload_n dX12_passes_91 rfl rfl ?_
    obtain ⟨fs, q25, e1, e2, h⟩ := h
    refine gG_gr dX12_passes_92 fl_X12_117 ⟨fs, q25, e1, e2, ?_⟩
    refine gG_iconst (v := 5) dX12_passes_95 (by decide) ?_
    refine gG_iload dX12_passes_96 rfl ?_
    refine gG_iadd dX12_passes_98 ?_
    refine gG_dup2 dX12_passes_99 rfl rfl ?_
    obtain ⟨m0, f0, e1, e2, h⟩ := h
    refine gG_iald dX12_passes_100 ⟨m0, f0, e1, e2, ?_⟩
    obtain ⟨x26, eH⟩ : ∃ z, z = f0 (Int32.toNatClampNeg (((5 : Int32) + x19))) := ⟨_, rfl⟩
    rw [← eH] at h ⊢
    refine gG_aload_n dX12_passes_101 rfl rfl ?_
    obtain ⟨fs, q27, e1, e2, h⟩ := h
    refine gG_gr dX12_passes_102 fl_X12_117 ⟨fs, q27, e1, e2, ?_⟩
    refine gG_bipush (v := 12) dX12_passes_105 (by decide) ?_
    refine gG_iload dX12_passes_107 rfl ?_
    refine gG_iadd dX12_passes_109 ?_
    obtain ⟨m0, f0, e1, e2, h⟩ := h
    refine gG_iald dX12_passes_110 ⟨m0, f0, e1, e2, ?_⟩
    obtain ⟨x28, eH⟩ : ∃ z, z = f0 (Int32.toNatClampNeg (((12 : Int32) + x19))) := ⟨_, rfl⟩
    rw [← eH] at h ⊢
    refine gG_isub dX12_passes_111 ?_
    obtain ⟨m0, f0, e1, e2, h⟩ := h
    refine gG_iast dX12_passes_112 ⟨m0, f0, e1, e2, ?_⟩
    obtain ⟨H29, eH⟩ : ∃ z, z = va_up H24 (q25) (.inl (0, m0, .inl (upd f0 (Int32.toNatClampNeg (((5 : Int32) + x19))) ((x26 - x28))))) := ⟨_, rfl⟩
    rw [← eH] at h ⊢
    refine gG_iload_n dX12_passes_113 rfl rfl ?_
    refine gG_aload_n dX12_passes_114 rfl rfl ?_
    refine gG_iload dX12_passes_115 rfl ?_
    refine gG_iload_n dX12_passes_117 rfl rfl ?_
    obtain ⟨hrc, d2, P2, hdd, hC, h⟩ := h
    refine gG_cvi (As := [.int (x19), .int (i1)]) (st := [.int (i2)]) dX12_passes_118 mV_X12_383 hdd hrc rfl rfl (Nat.le_of_ble_eq_true rfl) (Nat.le_refl _) ⟨Nat.le_refl _, Nat.le_refl _⟩ hC (fun H30 x9 hp => ?_)
    obtain ⟨b31, rfl, hp⟩ := hp
    have h := h H30 b31 hp
    refine gG_if_eq (tgt := 131) dX12_passes_121 (by decide) (fun c => ?_) (fun c => ?_)
    · have h := h.1 (g_b_f c)
      refine gG_iconst (v := 0) dX12_passes_131 (by decide) ?_
      refine gG_ior dX12_passes_132 ?_
      refine gG_istore_n dX12_passes_133 rfl (Nat.le_of_ble_eq_true rfl) ?_
      refine gG_iinc (v := i3 + 1) dX12_passes_134 rfl rfl (Nat.le_of_ble_eq_true rfl) ?_
      refine gG_goto (tgt := 51) dX12_passes_137 (by decide) ?_
      refine gG_locals ?_ h
      exact ⟨rfl, ⟨rfl, ⟨rfl, ⟨rfl, trivial⟩⟩⟩⟩
    · have h := h.2 (g_b_t c)
      refine gG_iconst (v := 1) dX12_passes_124 (by decide) ?_
      refine gG_iload dX12_passes_125 rfl ?_
      refine gG_ishl dX12_passes_127 ?_
      refine gG_goto (tgt := 132) dX12_passes_128 (by decide) ?_
      refine gG_ior dX12_passes_132 ?_
      refine gG_istore_n dX12_passes_133 rfl (Nat.le_of_ble_eq_true rfl) ?_
      refine gG_iinc (v := i3 + 1) dX12_passes_134 rfl rfl (Nat.le_of_ble_eq_true rfl) ?_
      refine gG_goto (tgt := 51) dX12_passes_137 (by decide) ?_
      refine gG_locals ?_ h
      exact ⟨rfl, ⟨rfl, ⟨rfl, ⟨rfl, trivial⟩⟩⟩⟩
theorem kX12_passes_200 {d n : Nat} {H : gHp} {P : gHp → Int32 → Prop} {a0 : Nat} {i3 : Int32} (h : g_gr H (a0) 12 47 (fun q1 => g_al 0 H (q1) ((0 : Int32)) (fun x2 => g_as 0 H (q1) ((0 : Int32)) ((x2 + (1 : Int32))) (fun H3 => P H3 (i3))))) : gG d mX12_passes 0 0 (g_Xj mX12_passes n 0 0 P) 200 n H [some (.ref (a0)), none, none, some (.int (i3)), none] [] 0 0 := by
  refine gG_aload_n dX12_passes_200 rfl rfl ?_
  obtain ⟨fs, q1, e1, e2, h⟩ := h
  refine gG_gr dX12_passes_201 fl_X12_117 ⟨fs, q1, e1, e2, ?_⟩
  refine gG_iconst (v := 0) dX12_passes_204 (by decide) ?_
  refine gG_dup2 dX12_passes_205 rfl rfl ?_
  obtain ⟨m0, f0, e1, e2, h⟩ := h
  refine gG_iald dX12_passes_206 ⟨m0, f0, e1, e2, ?_⟩
  obtain ⟨x2, eH⟩ : ∃ z, z = f0 (Int32.toNatClampNeg ((0 : Int32))) := ⟨_, rfl⟩
  rw [← eH] at h ⊢
  refine gG_iconst (v := 1) dX12_passes_207 (by decide) ?_
  refine gG_iadd dX12_passes_208 ?_
  obtain ⟨m0, f0, e1, e2, h⟩ := h
  refine gG_iast dX12_passes_209 ⟨m0, f0, e1, e2, ?_⟩
  obtain ⟨H3, eH⟩ : ∃ z, z = va_up H (q1) (.inl (0, m0, .inl (upd f0 (Int32.toNatClampNeg ((0 : Int32))) ((x2 + (1 : Int32)))))) := ⟨_, rfl⟩
  rw [← eH] at h ⊢
  refine gG_iload_n dX12_passes_210 rfl rfl ?_
  exact gG_exit ⟨rfl, rfl, rfl, dX12_passes_211, _, rfl, h⟩

theorem kX12_passesAsTold_0 {d n : Nat} {H : gHp} {P : gHp → Int32 → Prop} {a0 : Nat} (h : g_gr H (a0) 12 47 (fun q1 => g_al 0 H (q1) ((0 : Int32)) (fun x2 => (∃ fs, H (a0) = .inr (12, fs)) ∧ g_ci d mX12_rainOf n H [.ref (a0), .int (x2)] (fun H3 x4 => (∃ fs, H3 (a0) = .inr (12, fs)) ∧ g_ci d mX12_passes n H3 [.ref (a0), .int (x4)] (fun H5 x6 => P H5 (x6)))))) : gG d mX12_passesAsTold 0 0 (g_Xj mX12_passesAsTold n 0 0 P) 0 n H [some (.ref (a0))] [] 0 0 := by
  refine gG_aload_n dX12_passesAsTold_0 rfl rfl ?_
  refine gG_aload_n dX12_passesAsTold_1 rfl rfl ?_
  refine gG_aload_n dX12_passesAsTold_2 rfl rfl ?_
  obtain ⟨fs, q1, e1, e2, h⟩ := h
  refine gG_gr dX12_passesAsTold_3 fl_X12_117 ⟨fs, q1, e1, e2, ?_⟩
  refine gG_iconst (v := 0) dX12_passesAsTold_6 (by decide) ?_
  obtain ⟨m0, f0, e1, e2, h⟩ := h
  refine gG_iald dX12_passesAsTold_7 ⟨m0, f0, e1, e2, ?_⟩
  obtain ⟨x2, eH⟩ : ∃ z, z = f0 (Int32.toNatClampNeg ((0 : Int32))) := ⟨_, rfl⟩
  rw [← eH] at h ⊢
  obtain ⟨hrc, d2, P2, hdd, hC, h⟩ := h
  refine gG_cvi (As := [.int (x2)]) (st := [.ref (a0)]) dX12_passesAsTold_8 mV_X12_389 hdd hrc rfl rfl (Nat.le_of_ble_eq_true rfl) (Nat.le_refl _) ⟨Nat.le_refl _, Nat.le_refl _⟩ hC (fun H3 x4 hp => ?_)
  have h := h H3 x4 hp
  obtain ⟨hrc, d2, P2, hdd, hC, h⟩ := h
  refine gG_cvi (As := [.int (x4)]) (st := []) dX12_passesAsTold_11 mV_X12_392 hdd hrc rfl rfl (Nat.le_of_ble_eq_true rfl) (Nat.le_refl _) ⟨Nat.le_refl _, Nat.le_refl _⟩ hC (fun H5 x6 hp => ?_)
  have h := h H5 x6 hp
  exact gG_exit ⟨rfl, rfl, rfl, dX12_passesAsTold_14, _, rfl, h⟩

theorem kX12_mouth_0 {d n : Nat} {H : gHp} {P : gHp → Int32 → Prop} {a0 : Nat} {i1 : Int32} {i2 : Int32} (h : g_pf H (a0) 12 0 (.int ((0 : Int32))) (fun H1 => (∃ fs, H1 (a0) = .inr (12, fs)) ∧ g_cz d mX12_isMouth n H1 [.ref (a0), .int (i1)] (fun H2 b3 => (b3 = false → P H2 ((-2 : Int32))) ∧ (b3 = true → g_cz d mX12_within n H2 [.int (i2), .int ((0 : Int32)), .int ((7 : Int32))] (fun H4 b5 => (b5 = true → ((4 : Int32) ≤ i2 → ((6 : Int32) ≤ i2 → (¬ (i2 = (6 : Int32)) → g_gr H4 (a0) 12 47 (fun q6 => g_al 0 H4 (q6) (((12 : Int32) + i1)) (fun x7 => P H4 (x7)))) ∧ (i2 = (6 : Int32) → g_gr H4 (a0) 12 47 (fun q8 => g_al 0 H4 (q8) ((1 : Int32)) (fun x9 => P H4 (((x9 >>> (i1 &&& 31)) &&& (1 : Int32))))))) ∧ (¬ ((6 : Int32) ≤ i2) → (¬ (i2 = (4 : Int32)) → g_gr H4 (a0) 12 47 (fun q10 => g_al 0 H4 (q10) (((5 : Int32) + i1)) (fun x11 => P H4 (x11)))) ∧ (i2 = (4 : Int32) → g_gr H4 (a0) 12 17 (fun q12 => g_al 0 H4 (q12) (i1) (fun x13 => P H4 (x13)))))) ∧ (¬ ((4 : Int32) ≤ i2) → (¬ (i2 = 0) → (¬ (i2 = (1 : Int32)) → (¬ (i2 = (2 : Int32)) → g_gr H4 (a0) 12 16 (fun q14 => g_al 0 H4 (q14) (i1) (fun x15 => P H4 (x15)))) ∧ (i2 = (2 : Int32) → g_gr H4 (a0) 12 15 (fun q16 => g_al 0 H4 (q16) (i1) (fun x17 => P H4 (x17))))) ∧ (i2 = (1 : Int32) → g_gr H4 (a0) 12 14 (fun q18 => g_al 0 H4 (q18) (i1) (fun x19 => P H4 (x19))))) ∧ (i2 = 0 → g_gr H4 (a0) 12 13 (fun q20 => g_al 0 H4 (q20) (i1) (fun x21 => P H4 (x21)))))) ∧ (b5 = false → P H4 ((-2 : Int32)))))))) : gG d mX12_mouth 0 0 (g_Xj mX12_mouth n 0 0 P) 0 n H [some (.ref (a0)), some (.int (i1)), some (.int (i2))] [] 0 0 := by
  refine gG_aload_n dX12_mouth_0 rfl rfl ?_
  refine gG_iconst (v := 0) dX12_mouth_1 (by decide) ?_
  obtain ⟨fs, e1, e2, h⟩ := h
  refine gG_pi dX12_mouth_2 fl_X12_147 ⟨fs, e1, e2, ?_⟩
  obtain ⟨H1, eH⟩ : ∃ z, z = va_up H (a0) (.inr (12, fs.set 0 (.int ((0 : Int32))))) := ⟨_, rfl⟩
  rw [← eH] at h ⊢
  refine gG_aload_n dX12_mouth_5 rfl rfl ?_
  refine gG_iload_n dX12_mouth_6 rfl rfl ?_
  obtain ⟨hrc, d2, P2, hdd, hC, h⟩ := h
  refine gG_cvi (As := [.int (i1)]) (st := []) dX12_mouth_7 mV_X12_395 hdd hrc rfl rfl (Nat.le_of_ble_eq_true rfl) (Nat.le_refl _) ⟨Nat.le_refl _, Nat.le_refl _⟩ hC (fun H2 x9 hp => ?_)
  obtain ⟨b3, rfl, hp⟩ := hp
  have h := h H2 b3 hp
  refine gG_if_eq (tgt := 23) dX12_mouth_10 (by decide) (fun c => ?_) (fun c => ?_)
  · have h := h.1 (g_b_f c)
    refine gG_bipush (v := (-2)) dX12_mouth_23 (by decide) ?_
    exact gG_exit ⟨rfl, rfl, rfl, dX12_mouth_25, _, rfl, h⟩
  · have h := h.2 (g_b_t c)
    refine gG_iload_n dX12_mouth_13 rfl rfl ?_
    refine gG_iconst (v := 0) dX12_mouth_14 (by decide) ?_
    refine gG_bipush (v := 7) dX12_mouth_15 (by decide) ?_
    obtain ⟨d2, P2, hdd, hC, h⟩ := h
    refine gG_csi (As := [.int (i2), .int ((0 : Int32)), .int ((7 : Int32))]) (st := []) dX12_mouth_17 mS_X12_268 hdd rfl rfl (Nat.le_of_ble_eq_true rfl) (Nat.le_refl _) ⟨Nat.le_refl _, Nat.le_refl _⟩ hC (fun H4 x9 hp => ?_)
    obtain ⟨b5, rfl, hp⟩ := hp
    have h := h H4 b5 hp
    refine gG_if_ne (tgt := 26) dX12_mouth_20 (by decide) (fun c => ?_) (fun c => ?_)
    · have h := h.1 (g_b_t c)
      refine gG_iload_n dX12_mouth_26 rfl rfl ?_
      refine gG_iconst (v := 4) dX12_mouth_27 (by decide) ?_
      refine gG_ic_ge (tgt := 79) dX12_mouth_28 (by decide) (fun c => ?_) (fun c => ?_)
      · have h := h.1 c
        refine gG_iload_n dX12_mouth_79 rfl rfl ?_
        refine gG_bipush (v := 6) dX12_mouth_80 (by decide) ?_
        refine gG_ic_ge (tgt := 108) dX12_mouth_82 (by decide) (fun c => ?_) (fun c => ?_)
        · have h := h.1 c
          refine gG_iload_n dX12_mouth_108 rfl rfl ?_
          refine gG_bipush (v := 6) dX12_mouth_109 (by decide) ?_
          refine gG_ic_ne (tgt := 127) dX12_mouth_111 (by decide) (fun c => ?_) (fun c => ?_)
          · have h := h.1 c
            refine gG_aload_n dX12_mouth_127 rfl rfl ?_
            obtain ⟨fs, q6, e1, e2, h⟩ := h
            refine gG_gr dX12_mouth_128 fl_X12_117 ⟨fs, q6, e1, e2, ?_⟩
            refine gG_bipush (v := 12) dX12_mouth_131 (by decide) ?_
            refine gG_iload_n dX12_mouth_133 rfl rfl ?_
            refine gG_iadd dX12_mouth_134 ?_
            obtain ⟨m0, f0, e1, e2, h⟩ := h
            refine gG_iald dX12_mouth_135 ⟨m0, f0, e1, e2, ?_⟩
            obtain ⟨x7, eH⟩ : ∃ z, z = f0 (Int32.toNatClampNeg (((12 : Int32) + i1))) := ⟨_, rfl⟩
            rw [← eH] at h ⊢
            exact gG_exit ⟨rfl, rfl, rfl, dX12_mouth_136, _, rfl, h⟩
          · have h := h.2 c
            refine gG_aload_n dX12_mouth_114 rfl rfl ?_
            obtain ⟨fs, q8, e1, e2, h⟩ := h
            refine gG_gr dX12_mouth_115 fl_X12_117 ⟨fs, q8, e1, e2, ?_⟩
            refine gG_iconst (v := 1) dX12_mouth_118 (by decide) ?_
            obtain ⟨m0, f0, e1, e2, h⟩ := h
            refine gG_iald dX12_mouth_119 ⟨m0, f0, e1, e2, ?_⟩
            obtain ⟨x9, eH⟩ : ∃ z, z = f0 (Int32.toNatClampNeg ((1 : Int32))) := ⟨_, rfl⟩
            rw [← eH] at h ⊢
            refine gG_iload_n dX12_mouth_120 rfl rfl ?_
            refine gG_ishr dX12_mouth_121 ?_
            refine gG_iconst (v := 1) dX12_mouth_122 (by decide) ?_
            refine gG_iand dX12_mouth_123 ?_
            refine gG_goto (tgt := 136) dX12_mouth_124 (by decide) ?_
            exact gG_exit ⟨rfl, rfl, rfl, dX12_mouth_136, _, rfl, h⟩
        · have h := h.2 c
          refine gG_iload_n dX12_mouth_85 rfl rfl ?_
          refine gG_iconst (v := 4) dX12_mouth_86 (by decide) ?_
          refine gG_ic_ne (tgt := 99) dX12_mouth_87 (by decide) (fun c => ?_) (fun c => ?_)
          · have h := h.1 c
            refine gG_aload_n dX12_mouth_99 rfl rfl ?_
            obtain ⟨fs, q10, e1, e2, h⟩ := h
            refine gG_gr dX12_mouth_100 fl_X12_117 ⟨fs, q10, e1, e2, ?_⟩
            refine gG_iconst (v := 5) dX12_mouth_103 (by decide) ?_
            refine gG_iload_n dX12_mouth_104 rfl rfl ?_
            refine gG_iadd dX12_mouth_105 ?_
            obtain ⟨m0, f0, e1, e2, h⟩ := h
            refine gG_iald dX12_mouth_106 ⟨m0, f0, e1, e2, ?_⟩
            obtain ⟨x11, eH⟩ : ∃ z, z = f0 (Int32.toNatClampNeg (((5 : Int32) + i1))) := ⟨_, rfl⟩
            rw [← eH] at h ⊢
            exact gG_exit ⟨rfl, rfl, rfl, dX12_mouth_107, _, rfl, h⟩
          · have h := h.2 c
            refine gG_aload_n dX12_mouth_90 rfl rfl ?_
            obtain ⟨fs, q12, e1, e2, h⟩ := h
            refine gG_gr dX12_mouth_91 fl_X12_35 ⟨fs, q12, e1, e2, ?_⟩
            refine gG_iload_n dX12_mouth_94 rfl rfl ?_
            obtain ⟨m0, f0, e1, e2, h⟩ := h
            refine gG_iald dX12_mouth_95 ⟨m0, f0, e1, e2, ?_⟩
            obtain ⟨x13, eH⟩ : ∃ z, z = f0 (Int32.toNatClampNeg (i1)) := ⟨_, rfl⟩
            rw [← eH] at h ⊢
            refine gG_goto (tgt := 107) dX12_mouth_96 (by decide) ?_
            exact gG_exit ⟨rfl, rfl, rfl, dX12_mouth_107, _, rfl, h⟩
      · have h := h.2 c
        refine gG_iload_n dX12_mouth_31 rfl rfl ?_
        refine gG_if_ne (tgt := 44) dX12_mouth_32 (by decide) (fun c => ?_) (fun c => ?_)
        · have h := h.1 c
          refine gG_iload_n dX12_mouth_44 rfl rfl ?_
          refine gG_iconst (v := 1) dX12_mouth_45 (by decide) ?_
          refine gG_ic_ne (tgt := 58) dX12_mouth_46 (by decide) (fun c => ?_) (fun c => ?_)
          · have h := h.1 c
            refine gG_iload_n dX12_mouth_58 rfl rfl ?_
            refine gG_iconst (v := 2) dX12_mouth_59 (by decide) ?_
            refine gG_ic_ne (tgt := 72) dX12_mouth_60 (by decide) (fun c => ?_) (fun c => ?_)
            · have h := h.1 c
              refine gG_aload_n dX12_mouth_72 rfl rfl ?_
              obtain ⟨fs, q14, e1, e2, h⟩ := h
              refine gG_gr dX12_mouth_73 fl_X12_32 ⟨fs, q14, e1, e2, ?_⟩
              refine gG_iload_n dX12_mouth_76 rfl rfl ?_
              obtain ⟨m0, f0, e1, e2, h⟩ := h
              refine gG_iald dX12_mouth_77 ⟨m0, f0, e1, e2, ?_⟩
              obtain ⟨x15, eH⟩ : ∃ z, z = f0 (Int32.toNatClampNeg (i1)) := ⟨_, rfl⟩
              rw [← eH] at h ⊢
              exact gG_exit ⟨rfl, rfl, rfl, dX12_mouth_78, _, rfl, h⟩
            · have h := h.2 c
              refine gG_aload_n dX12_mouth_63 rfl rfl ?_
              obtain ⟨fs, q16, e1, e2, h⟩ := h
              refine gG_gr dX12_mouth_64 fl_X12_29 ⟨fs, q16, e1, e2, ?_⟩
              refine gG_iload_n dX12_mouth_67 rfl rfl ?_
              obtain ⟨m0, f0, e1, e2, h⟩ := h
              refine gG_iald dX12_mouth_68 ⟨m0, f0, e1, e2, ?_⟩
              obtain ⟨x17, eH⟩ : ∃ z, z = f0 (Int32.toNatClampNeg (i1)) := ⟨_, rfl⟩
              rw [← eH] at h ⊢
              refine gG_goto (tgt := 78) dX12_mouth_69 (by decide) ?_
              exact gG_exit ⟨rfl, rfl, rfl, dX12_mouth_78, _, rfl, h⟩
          · have h := h.2 c
            refine gG_aload_n dX12_mouth_49 rfl rfl ?_
            obtain ⟨fs, q18, e1, e2, h⟩ := h
            refine gG_gr dX12_mouth_50 fl_X12_26 ⟨fs, q18, e1, e2, ?_⟩
            refine gG_iload_n dX12_mouth_53 rfl rfl ?_
            obtain ⟨m0, f0, e1, e2, h⟩ := h
            refine gG_iald dX12_mouth_54 ⟨m0, f0, e1, e2, ?_⟩
            obtain ⟨x19, eH⟩ : ∃ z, z = f0 (Int32.toNatClampNeg (i1)) := ⟨_, rfl⟩
            rw [← eH] at h ⊢
            refine gG_goto (tgt := 78) dX12_mouth_55 (by decide) ?_
            exact gG_exit ⟨rfl, rfl, rfl, dX12_mouth_78, _, rfl, h⟩
        · have h := h.2 c
          refine gG_aload_n dX12_mouth_35 rfl rfl ?_
          obtain ⟨fs, q20, e1, e2, h⟩ := h
          refine gG_gr dX12_mouth_36 fl_X12_23 ⟨fs, q20, e1, e2, ?_⟩
          refine gG_iload_n dX12_mouth_39 rfl rfl ?_
          obtain ⟨m0, f0, e1, e2, h⟩ := h
          refine gG_iald dX12_mouth_40 ⟨m0, f0, e1, e2, ?_⟩
          obtain ⟨x21, eH⟩ : ∃ z, z = f0 (Int32.toNatClampNeg (i1)) := ⟨_, rfl⟩
          rw [← eH] at h ⊢
          refine gG_goto (tgt := 78) dX12_mouth_41 (by decide) ?_
          exact gG_exit ⟨rfl, rfl, rfl, dX12_mouth_78, _, rfl, h⟩
    · have h := h.2 (g_b_f c)
      refine gG_bipush (v := (-2)) dX12_mouth_23 (by decide) ?_
      exact gG_exit ⟨rfl, rfl, rfl, dX12_mouth_25, _, rfl, h⟩

theorem kX12_letter_0 {d n : Nat} {H : gHp} {P : gHp → Int32 → Prop} {a0 : Nat} {i1 : Int32} (h : g_pf H (a0) 12 0 (.int ((0 : Int32))) (fun H1 => (∃ fs, H1 (a0) = .inr (12, fs)) ∧ g_cz d mX12_isLetter0 n H1 [.ref (a0), .int (i1)] (fun H2 b3 => (b3 = false → P H2 ((-1 : Int32))) ∧ (b3 = true → g_gr H2 (a0) 12 18 (fun q4 => g_al 0 H2 (q4) (i1) (fun x5 => P H2 (x5))))))) : gG d mX12_letter 0 0 (g_Xj mX12_letter n 0 0 P) 0 n H [some (.ref (a0)), some (.int (i1))] [] 0 0 := by
  refine gG_aload_n dX12_letter_0 rfl rfl ?_
  refine gG_iconst (v := 0) dX12_letter_1 (by decide) ?_
  obtain ⟨fs, e1, e2, h⟩ := h
  refine gG_pi dX12_letter_2 fl_X12_147 ⟨fs, e1, e2, ?_⟩
  obtain ⟨H1, eH⟩ : ∃ z, z = va_up H (a0) (.inr (12, fs.set 0 (.int ((0 : Int32))))) := ⟨_, rfl⟩
  rw [← eH] at h ⊢
  refine gG_aload_n dX12_letter_5 rfl rfl ?_
  refine gG_iload_n dX12_letter_6 rfl rfl ?_
  obtain ⟨hrc, d2, P2, hdd, hC, h⟩ := h
  refine gG_cvi (As := [.int (i1)]) (st := []) dX12_letter_7 mV_X12_398 hdd hrc rfl rfl (Nat.le_of_ble_eq_true rfl) (Nat.le_refl _) ⟨Nat.le_refl _, Nat.le_refl _⟩ hC (fun H2 x9 hp => ?_)
  obtain ⟨b3, rfl, hp⟩ := hp
  have h := h H2 b3 hp
  refine gG_if_eq (tgt := 22) dX12_letter_10 (by decide) (fun c => ?_) (fun c => ?_)
  · have h := h.1 (g_b_f c)
    refine gG_iconst (v := (-1)) dX12_letter_22 (by decide) ?_
    exact gG_exit ⟨rfl, rfl, rfl, dX12_letter_23, _, rfl, h⟩
  · have h := h.2 (g_b_t c)
    refine gG_aload_n dX12_letter_13 rfl rfl ?_
    obtain ⟨fs, q4, e1, e2, h⟩ := h
    refine gG_gr dX12_letter_14 fl_X12_38 ⟨fs, q4, e1, e2, ?_⟩
    refine gG_iload_n dX12_letter_17 rfl rfl ?_
    obtain ⟨m0, f0, e1, e2, h⟩ := h
    refine gG_iald dX12_letter_18 ⟨m0, f0, e1, e2, ?_⟩
    obtain ⟨x5, eH⟩ : ∃ z, z = f0 (Int32.toNatClampNeg (i1)) := ⟨_, rfl⟩
    rw [← eH] at h ⊢
    refine gG_goto (tgt := 23) dX12_letter_19 (by decide) ?_
    exact gG_exit ⟨rfl, rfl, rfl, dX12_letter_23, _, rfl, h⟩

theorem kX12_slate_0 {d n : Nat} {H : gHp} {P : gHp → Int32 → Prop} {a0 : Nat} {i1 : Int32} (h : g_pf H (a0) 12 0 (.int ((0 : Int32))) (fun H1 => (i1 < 0 → P H1 ((-1 : Int32))) ∧ (¬ (i1 < 0) → g_gr H1 (a0) 12 47 (fun q2 => g_al 0 H1 (q2) ((4 : Int32)) (fun x3 => (x3 ≤ i1 → P H1 ((-1 : Int32))) ∧ (¬ (x3 ≤ i1) → g_gr H1 (a0) 12 47 (fun q4 => g_al 0 H1 (q4) (((19 : Int32) + i1)) (fun x5 => P H1 (x5))))))))) : gG d mX12_slate 0 0 (g_Xj mX12_slate n 0 0 P) 0 n H [some (.ref (a0)), some (.int (i1))] [] 0 0 := by
  refine gG_aload_n dX12_slate_0 rfl rfl ?_
  refine gG_iconst (v := 0) dX12_slate_1 (by decide) ?_
  obtain ⟨fs, e1, e2, h⟩ := h
  refine gG_pi dX12_slate_2 fl_X12_147 ⟨fs, e1, e2, ?_⟩
  obtain ⟨H1, eH⟩ : ∃ z, z = va_up H (a0) (.inr (12, fs.set 0 (.int ((0 : Int32))))) := ⟨_, rfl⟩
  rw [← eH] at h ⊢
  refine gG_iload_n dX12_slate_5 rfl rfl ?_
  refine gG_if_lt (tgt := 31) dX12_slate_6 (by decide) (fun c => ?_) (fun c => ?_)
  · have h := h.1 c
    refine gG_iconst (v := (-1)) dX12_slate_31 (by decide) ?_
    exact gG_exit ⟨rfl, rfl, rfl, dX12_slate_32, _, rfl, h⟩
  · have h := h.2 c
    refine gG_iload_n dX12_slate_9 rfl rfl ?_
    refine gG_aload_n dX12_slate_10 rfl rfl ?_
    obtain ⟨fs, q2, e1, e2, h⟩ := h
    refine gG_gr dX12_slate_11 fl_X12_117 ⟨fs, q2, e1, e2, ?_⟩
    refine gG_iconst (v := 4) dX12_slate_14 (by decide) ?_
    obtain ⟨m0, f0, e1, e2, h⟩ := h
    refine gG_iald dX12_slate_15 ⟨m0, f0, e1, e2, ?_⟩
    obtain ⟨x3, eH⟩ : ∃ z, z = f0 (Int32.toNatClampNeg ((4 : Int32))) := ⟨_, rfl⟩
    rw [← eH] at h ⊢
    refine gG_ic_ge (tgt := 31) dX12_slate_16 (by decide) (fun c => ?_) (fun c => ?_)
    · have h := h.1 c
      refine gG_iconst (v := (-1)) dX12_slate_31 (by decide) ?_
      exact gG_exit ⟨rfl, rfl, rfl, dX12_slate_32, _, rfl, h⟩
    · have h := h.2 c
      refine gG_aload_n dX12_slate_19 rfl rfl ?_
      obtain ⟨fs, q4, e1, e2, h⟩ := h
      refine gG_gr dX12_slate_20 fl_X12_117 ⟨fs, q4, e1, e2, ?_⟩
      refine gG_bipush (v := 19) dX12_slate_23 (by decide) ?_
      refine gG_iload_n dX12_slate_25 rfl rfl ?_
      refine gG_iadd dX12_slate_26 ?_
      obtain ⟨m0, f0, e1, e2, h⟩ := h
      refine gG_iald dX12_slate_27 ⟨m0, f0, e1, e2, ?_⟩
      obtain ⟨x5, eH⟩ : ∃ z, z = f0 (Int32.toNatClampNeg (((19 : Int32) + i1))) := ⟨_, rfl⟩
      rw [← eH] at h ⊢
      refine gG_goto (tgt := 32) dX12_slate_28 (by decide) ?_
      exact gG_exit ⟨rfl, rfl, rfl, dX12_slate_32, _, rfl, h⟩

theorem kX12_keeps_0 {d n : Nat} {H : gHp} {P : gHp → Prop} {a0 : Nat} (h : g_gi H (a0) 12 53 (fun x1 => (¬ (x1 = (16 : Int32)) → gG d mX12_keeps 0 0 (g_Xv mX12_keeps n 0 0 P) 49 n H [some (.ref (a0)), none] [] (0) (0)) ∧ (x1 = (16 : Int32) → gG d mX12_keeps 0 0 (g_Xv mX12_keeps n 0 0 P) 11 n H [some (.ref (a0)), some (.int ((0 : Int32)))] [] (0) (0)))) : gG d mX12_keeps 0 0 (g_Xv mX12_keeps n 0 0 P) 0 n H [some (.ref (a0)), none] [] 0 0 := by
  refine gG_aload_n dX12_keeps_0 rfl rfl ?_
  obtain ⟨fs, x1, e1, e2, h⟩ := h
  refine gG_gi dX12_keeps_1 fl_X12_343 ⟨fs, x1, e1, e2, ?_⟩
  refine gG_bipush (v := 16) dX12_keeps_4 (by decide) ?_
  refine gG_ic_ne (tgt := 49) dX12_keeps_6 (by decide) (fun c => ?_) (fun c => ?_)
  · have h := h.1 c
    refine gG_locals ?_ h
    exact ⟨rfl, trivial⟩
  · have h := h.2 c
    refine gG_iconst (v := 0) dX12_keeps_9 (by decide) ?_
    refine gG_istore_n dX12_keeps_10 rfl (Nat.le_of_ble_eq_true rfl) ?_
    refine gG_locals ?_ h
    exact ⟨rfl, ⟨rfl, trivial⟩⟩
theorem kX12_keeps_11 {d n : Nat} {H : gHp} {P : gHp → Prop} {a0 : Nat} {i1 : Int32} (h : ((885 : Int32) ≤ i1 → g_gi H (a0) 12 53 (fun x1 => g_pf H (a0) 12 53 (.int ((x1 - (1 : Int32)))) (fun H2 => gG d mX12_keeps 0 0 (g_Xv mX12_keeps n 0 0 P) 49 n H2 [some (.ref (a0)), none] [] (0) (0)))) ∧ (¬ ((885 : Int32) ≤ i1) → g_gr H (a0) 12 51 (fun q3 => g_gr H (a0) 12 51 (fun q4 => g_al 0 H (q4) ((i1 + (59 : Int32))) (fun x5 => g_as 0 H (q3) (i1) (x5) (fun H6 => gG d mX12_keeps 0 0 (g_Xv mX12_keeps n 0 0 P) 11 n H6 [some (.ref (a0)), some (.int ((i1 + 1)))] [] (0) (0))))))) : gG d mX12_keeps 0 0 (g_Xv mX12_keeps n 0 0 P) 11 n H [some (.ref (a0)), some (.int (i1))] [] 0 0 := by
  refine gG_iload_n dX12_keeps_11 rfl rfl ?_
  refine gG_sipush (v := 885) dX12_keeps_12 (by decide) ?_
  refine gG_ic_ge (tgt := 39) dX12_keeps_15 (by decide) (fun c => ?_) (fun c => ?_)
  · have h := h.1 c
    refine gG_aload_n dX12_keeps_39 rfl rfl ?_
    refine gG_dup dX12_keeps_40 rfl ?_
    obtain ⟨fs, x1, e1, e2, h⟩ := h
    refine gG_gi dX12_keeps_41 fl_X12_343 ⟨fs, x1, e1, e2, ?_⟩
    refine gG_iconst (v := 1) dX12_keeps_44 (by decide) ?_
    refine gG_isub dX12_keeps_45 ?_
    obtain ⟨fs, e1, e2, h⟩ := h
    refine gG_pi dX12_keeps_46 fl_X12_343 ⟨fs, e1, e2, ?_⟩
    obtain ⟨H2, eH⟩ : ∃ z, z = va_up H (a0) (.inr (12, fs.set 53 (.int ((x1 - (1 : Int32)))))) := ⟨_, rfl⟩
    rw [← eH] at h ⊢
    refine gG_locals ?_ h
    exact ⟨rfl, trivial⟩
  · have h := h.2 c
    refine gG_aload_n dX12_keeps_18 rfl rfl ?_
    obtain ⟨fs, q3, e1, e2, h⟩ := h
    refine gG_gr dX12_keeps_19 fl_X12_129 ⟨fs, q3, e1, e2, ?_⟩
    refine gG_iload_n dX12_keeps_22 rfl rfl ?_
    refine gG_aload_n dX12_keeps_23 rfl rfl ?_
    obtain ⟨fs, q4, e1, e2, h⟩ := h
    refine gG_gr dX12_keeps_24 fl_X12_129 ⟨fs, q4, e1, e2, ?_⟩
    refine gG_iload_n dX12_keeps_27 rfl rfl ?_
    refine gG_bipush (v := 59) dX12_keeps_28 (by decide) ?_
    refine gG_iadd dX12_keeps_30 ?_
    obtain ⟨m0, f0, e1, e2, h⟩ := h
    refine gG_iald dX12_keeps_31 ⟨m0, f0, e1, e2, ?_⟩
    obtain ⟨x5, eH⟩ : ∃ z, z = f0 (Int32.toNatClampNeg ((i1 + (59 : Int32)))) := ⟨_, rfl⟩
    rw [← eH] at h ⊢
    obtain ⟨m0, f0, e1, e2, h⟩ := h
    refine gG_iast dX12_keeps_32 ⟨m0, f0, e1, e2, ?_⟩
    obtain ⟨H6, eH⟩ : ∃ z, z = va_up H (q3) (.inl (0, m0, .inl (upd f0 (Int32.toNatClampNeg (i1)) (x5)))) := ⟨_, rfl⟩
    rw [← eH] at h ⊢
    refine gG_iinc (v := i1 + 1) dX12_keeps_33 rfl rfl (Nat.le_of_ble_eq_true rfl) ?_
    refine gG_goto (tgt := 11) dX12_keeps_36 (by decide) ?_
    refine gG_locals ?_ h
    exact ⟨rfl, ⟨rfl, trivial⟩⟩
theorem kX12_keeps_49 {d n : Nat} {H : gHp} {P : gHp → Prop} {a0 : Nat} (h : g_gr H (a0) 12 47 (fun q1 => g_gr H (a0) 12 51 (fun q2 => g_gi H (a0) 12 53 (fun x3 => g_cvd d mX12_copies n H [.ref (q1), .int ((0 : Int32)), .ref (q2), .int (((59 : Int32) * x3))] (fun H4 => g_gi H4 (a0) 12 53 (fun x5 => g_pf H4 (a0) 12 53 (.int ((x5 + (1 : Int32)))) (fun H6 => P H6))))))) : gG d mX12_keeps 0 0 (g_Xv mX12_keeps n 0 0 P) 49 n H [some (.ref (a0)), none] [] 0 0 := by
  refine gG_aload_n dX12_keeps_49 rfl rfl ?_
  obtain ⟨fs, q1, e1, e2, h⟩ := h
  refine gG_gr dX12_keeps_50 fl_X12_117 ⟨fs, q1, e1, e2, ?_⟩
  refine gG_iconst (v := 0) dX12_keeps_53 (by decide) ?_
  refine gG_aload_n dX12_keeps_54 rfl rfl ?_
  obtain ⟨fs, q2, e1, e2, h⟩ := h
  refine gG_gr dX12_keeps_55 fl_X12_129 ⟨fs, q2, e1, e2, ?_⟩
  refine gG_bipush (v := 59) dX12_keeps_58 (by decide) ?_
  refine gG_aload_n dX12_keeps_60 rfl rfl ?_
  obtain ⟨fs, x3, e1, e2, h⟩ := h
  refine gG_gi dX12_keeps_61 fl_X12_343 ⟨fs, x3, e1, e2, ?_⟩
  refine gG_imul dX12_keeps_64 ?_
  obtain ⟨d2, P2, hdd, hC, h⟩ := h
  refine gG_csv (As := [.ref (q1), .int ((0 : Int32)), .ref (q2), .int (((59 : Int32) * x3))]) (st := []) dX12_keeps_65 mS_X12_401 hdd rfl rfl (Nat.le_of_ble_eq_true rfl) (Nat.le_refl _) ⟨Nat.le_refl _, Nat.le_refl _⟩ hC (fun H4 hp => ?_)
  have h := h H4 hp
  refine gG_aload_n dX12_keeps_68 rfl rfl ?_
  refine gG_dup dX12_keeps_69 rfl ?_
  obtain ⟨fs, x5, e1, e2, h⟩ := h
  refine gG_gi dX12_keeps_70 fl_X12_343 ⟨fs, x5, e1, e2, ?_⟩
  refine gG_iconst (v := 1) dX12_keeps_73 (by decide) ?_
  refine gG_iadd dX12_keeps_74 ?_
  obtain ⟨fs, e1, e2, h⟩ := h
  refine gG_pi dX12_keeps_75 fl_X12_343 ⟨fs, e1, e2, ?_⟩
  obtain ⟨H6, eH⟩ : ∃ z, z = va_up H4 (a0) (.inr (12, fs.set 53 (.int ((x5 + (1 : Int32)))))) := ⟨_, rfl⟩
  rw [← eH] at h ⊢
  exact gG_exit ⟨rfl, rfl, rfl, dX12_keeps_78, rfl, h⟩

theorem kX12_minute_0 {d n : Nat} {H : gHp} {P : gHp → Int32 → Prop} {a0 : Nat} (h : g_pf H (a0) 12 0 (.int ((0 : Int32))) (fun H1 => (∃ fs, H1 (a0) = .inr (12, fs)) ∧ g_cvd d mX12_keeps n H1 [.ref (a0)] (fun H2 => (∃ fs, H2 (a0) = .inr (12, fs)) ∧ g_ci d mX12_passesAsTold n H2 [.ref (a0)] (fun H3 x4 => P H3 (x4))))) : gG d mX12_minute 0 0 (g_Xj mX12_minute n 0 0 P) 0 n H [some (.ref (a0))] [] 0 0 := by
  refine gG_aload_n dX12_minute_0 rfl rfl ?_
  refine gG_iconst (v := 0) dX12_minute_1 (by decide) ?_
  obtain ⟨fs, e1, e2, h⟩ := h
  refine gG_pi dX12_minute_2 fl_X12_147 ⟨fs, e1, e2, ?_⟩
  obtain ⟨H1, eH⟩ : ∃ z, z = va_up H (a0) (.inr (12, fs.set 0 (.int ((0 : Int32))))) := ⟨_, rfl⟩
  rw [← eH] at h ⊢
  refine gG_aload_n dX12_minute_5 rfl rfl ?_
  obtain ⟨hrc, d2, P2, hdd, hC, h⟩ := h
  refine gG_cvv (As := []) (st := []) dX12_minute_6 mV_X12_405 hdd hrc rfl rfl (Nat.le_of_ble_eq_true rfl) (Nat.le_refl _) ⟨Nat.le_refl _, Nat.le_refl _⟩ hC (fun H2 hp => ?_)
  have h := h H2 hp
  refine gG_aload_n dX12_minute_9 rfl rfl ?_
  obtain ⟨hrc, d2, P2, hdd, hC, h⟩ := h
  refine gG_cvi (As := []) (st := []) dX12_minute_10 mV_X12_408 hdd hrc rfl rfl (Nat.le_of_ble_eq_true rfl) (Nat.le_refl _) ⟨Nat.le_refl _, Nat.le_refl _⟩ hC (fun H3 x4 hp => ?_)
  have h := h H3 x4 hp
  exact gG_exit ⟨rfl, rfl, rfl, dX12_minute_13, _, rfl, h⟩

theorem kX12_pours_0 {d n : Nat} {H : gHp} {P : gHp → Prop} {a0 : Nat} {i1 : Int32} {i2 : Int32} (hd1 : 1 ≤ d) (h : g_gr H (a0) 12 47 (fun q1 => g_gr H (a0) 12 47 (fun q2 => g_al 0 H (q2) (((5 : Int32) + i1)) (fun x3 => g_as 0 H (q1) (((5 : Int32) + i1)) ((if (x3 + i2) < (99 : Int32) then (x3 + i2) else (99 : Int32))) (fun H4 => P H4))))) : gG d mX12_pours 0 0 (g_Xv mX12_pours n 0 0 P) 0 n H [some (.ref (a0)), some (.int (i1)), some (.int (i2))] [] 0 0 := by
  refine gG_aload_n dX12_pours_0 rfl rfl ?_
  obtain ⟨fs, q1, e1, e2, h⟩ := h
  refine gG_gr dX12_pours_1 fl_X12_117 ⟨fs, q1, e1, e2, ?_⟩
  refine gG_iconst (v := 5) dX12_pours_4 (by decide) ?_
  refine gG_iload_n dX12_pours_5 rfl rfl ?_
  refine gG_iadd dX12_pours_6 ?_
  refine gG_bipush (v := 99) dX12_pours_7 (by decide) ?_
  refine gG_aload_n dX12_pours_9 rfl rfl ?_
  obtain ⟨fs, q2, e1, e2, h⟩ := h
  refine gG_gr dX12_pours_10 fl_X12_117 ⟨fs, q2, e1, e2, ?_⟩
  refine gG_iconst (v := 5) dX12_pours_13 (by decide) ?_
  refine gG_iload_n dX12_pours_14 rfl rfl ?_
  refine gG_iadd dX12_pours_15 ?_
  obtain ⟨m0, f0, e1, e2, h⟩ := h
  refine gG_iald dX12_pours_16 ⟨m0, f0, e1, e2, ?_⟩
  obtain ⟨x3, eH⟩ : ∃ z, z = f0 (Int32.toNatClampNeg (((5 : Int32) + i1))) := ⟨_, rfl⟩
  rw [← eH] at h ⊢
  refine gG_iload_n dX12_pours_17 rfl rfl ?_
  refine gG_iadd dX12_pours_18 ?_
  refine gG_min dX12_pours_19 lk_X12_362 st_min ini_Math co_min hd1 (Nat.le_of_ble_eq_true rfl) (Nat.le_refl _) (Nat.le_refl _) ?_
  obtain ⟨m0, f0, e1, e2, h⟩ := h
  refine gG_iast dX12_pours_22 ⟨m0, f0, e1, e2, ?_⟩
  obtain ⟨H4, eH⟩ : ∃ z, z = va_up H (q1) (.inl (0, m0, .inl (upd f0 (Int32.toNatClampNeg (((5 : Int32) + i1))) ((if (x3 + i2) < (99 : Int32) then (x3 + i2) else (99 : Int32)))))) := ⟨_, rfl⟩
  rw [← eH] at h ⊢
  exact gG_exit ⟨rfl, rfl, rfl, dX12_pours_23, rfl, h⟩

theorem kX12_pour_0 {d n : Nat} {H : gHp} {P : gHp → Int32 → Prop} {a0 : Nat} {i1 : Int32} {i2 : Int32} (h : g_pf H (a0) 12 0 (.int ((0 : Int32))) (fun H1 => (∃ fs, H1 (a0) = .inr (12, fs)) ∧ g_cz d mX12_isMouth n H1 [.ref (a0), .int (i1)] (fun H2 b3 => (b3 = false → P H2 ((-1 : Int32))) ∧ (b3 = true → g_cz d mX12_within n H2 [.int (i2), .int ((1 : Int32)), .int ((20 : Int32))] (fun H4 b5 => (b5 = true → (∃ fs, H4 (a0) = .inr (12, fs)) ∧ g_cvd d mX12_keeps n H4 [.ref (a0)] (fun H6 => (∃ fs, H6 (a0) = .inr (12, fs)) ∧ g_cvd d mX12_pours n H6 [.ref (a0), .int (i1), .int (i2)] (fun H7 => g_gr H7 (a0) 12 47 (fun q8 => g_al 0 H7 (q8) (((5 : Int32) + i1)) (fun x9 => P H7 (x9)))))) ∧ (b5 = false → P H4 ((-1 : Int32)))))))) : gG d mX12_pour 0 0 (g_Xj mX12_pour n 0 0 P) 0 n H [some (.ref (a0)), some (.int (i1)), some (.int (i2))] [] 0 0 := by
  refine gG_aload_n dX12_pour_0 rfl rfl ?_
  refine gG_iconst (v := 0) dX12_pour_1 (by decide) ?_
  obtain ⟨fs, e1, e2, h⟩ := h
  refine gG_pi dX12_pour_2 fl_X12_147 ⟨fs, e1, e2, ?_⟩
  obtain ⟨H1, eH⟩ : ∃ z, z = va_up H (a0) (.inr (12, fs.set 0 (.int ((0 : Int32))))) := ⟨_, rfl⟩
  rw [← eH] at h ⊢
  refine gG_aload_n dX12_pour_5 rfl rfl ?_
  refine gG_iload_n dX12_pour_6 rfl rfl ?_
  obtain ⟨hrc, d2, P2, hdd, hC, h⟩ := h
  refine gG_cvi (As := [.int (i1)]) (st := []) dX12_pour_7 mV_X12_395 hdd hrc rfl rfl (Nat.le_of_ble_eq_true rfl) (Nat.le_refl _) ⟨Nat.le_refl _, Nat.le_refl _⟩ hC (fun H2 x9 hp => ?_)
  obtain ⟨b3, rfl, hp⟩ := hp
  have h := h H2 b3 hp
  refine gG_if_eq (tgt := 23) dX12_pour_10 (by decide) (fun c => ?_) (fun c => ?_)
  · have h := h.1 (g_b_f c)
    refine gG_iconst (v := (-1)) dX12_pour_23 (by decide) ?_
    exact gG_exit ⟨rfl, rfl, rfl, dX12_pour_24, _, rfl, h⟩
  · have h := h.2 (g_b_t c)
    refine gG_iload_n dX12_pour_13 rfl rfl ?_
    refine gG_iconst (v := 1) dX12_pour_14 (by decide) ?_
    refine gG_bipush (v := 20) dX12_pour_15 (by decide) ?_
    obtain ⟨d2, P2, hdd, hC, h⟩ := h
    refine gG_csi (As := [.int (i2), .int ((1 : Int32)), .int ((20 : Int32))]) (st := []) dX12_pour_17 mS_X12_268 hdd rfl rfl (Nat.le_of_ble_eq_true rfl) (Nat.le_refl _) ⟨Nat.le_refl _, Nat.le_refl _⟩ hC (fun H4 x9 hp => ?_)
    obtain ⟨b5, rfl, hp⟩ := hp
    have h := h H4 b5 hp
    refine gG_if_ne (tgt := 25) dX12_pour_20 (by decide) (fun c => ?_) (fun c => ?_)
    · have h := h.1 (g_b_t c)
      refine gG_aload_n dX12_pour_25 rfl rfl ?_
      obtain ⟨hrc, d2, P2, hdd, hC, h⟩ := h
      refine gG_cvv (As := []) (st := []) dX12_pour_26 mV_X12_405 hdd hrc rfl rfl (Nat.le_of_ble_eq_true rfl) (Nat.le_refl _) ⟨Nat.le_refl _, Nat.le_refl _⟩ hC (fun H6 hp => ?_)
      have h := h H6 hp
      refine gG_aload_n dX12_pour_29 rfl rfl ?_
      refine gG_iload_n dX12_pour_30 rfl rfl ?_
      refine gG_iload_n dX12_pour_31 rfl rfl ?_
      obtain ⟨hrc, d2, P2, hdd, hC, h⟩ := h
      refine gG_cvv (As := [.int (i1), .int (i2)]) (st := []) dX12_pour_32 mV_X12_411 hdd hrc rfl rfl (Nat.le_of_ble_eq_true rfl) (Nat.le_refl _) ⟨Nat.le_refl _, Nat.le_refl _⟩ hC (fun H7 hp => ?_)
      have h := h H7 hp
      refine gG_aload_n dX12_pour_35 rfl rfl ?_
      obtain ⟨fs, q8, e1, e2, h⟩ := h
      refine gG_gr dX12_pour_36 fl_X12_117 ⟨fs, q8, e1, e2, ?_⟩
      refine gG_iconst (v := 5) dX12_pour_39 (by decide) ?_
      refine gG_iload_n dX12_pour_40 rfl rfl ?_
      refine gG_iadd dX12_pour_41 ?_
      obtain ⟨m0, f0, e1, e2, h⟩ := h
      refine gG_iald dX12_pour_42 ⟨m0, f0, e1, e2, ?_⟩
      obtain ⟨x9, eH⟩ : ∃ z, z = f0 (Int32.toNatClampNeg (((5 : Int32) + i1))) := ⟨_, rfl⟩
      rw [← eH] at h ⊢
      exact gG_exit ⟨rfl, rfl, rfl, dX12_pour_43, _, rfl, h⟩
    · have h := h.2 (g_b_f c)
      refine gG_iconst (v := (-1)) dX12_pour_23 (by decide) ?_
      exact gG_exit ⟨rfl, rfl, rfl, dX12_pour_24, _, rfl, h⟩

theorem kX12_stop_0 {d n : Nat} {H : gHp} {P : gHp → Bool → Prop} {a0 : Nat} {i1 : Int32} (h : g_pf H (a0) 12 0 (.int ((0 : Int32))) (fun H1 => (∃ fs, H1 (a0) = .inr (12, fs)) ∧ g_cz d mX12_isMouth n H1 [.ref (a0), .int (i1)] (fun H2 b3 => (b3 = false → P H2 false) ∧ (b3 = true → (∃ fs, H2 (a0) = .inr (12, fs)) ∧ g_cz d mX12_isStopped n H2 [.ref (a0), .int (i1)] (fun H4 b5 => (b5 = false → (∃ fs, H4 (a0) = .inr (12, fs)) ∧ g_cvd d mX12_keeps n H4 [.ref (a0)] (fun H6 => g_gr H6 (a0) 12 47 (fun q7 => g_al 0 H6 (q7) ((1 : Int32)) (fun x8 => g_as 0 H6 (q7) ((1 : Int32)) ((x8 ^^^ ((1 : Int32) <<< (i1 &&& 31)))) (fun H9 => P H9 true))))) ∧ (b5 = true → P H4 false)))))) : gG d mX12_stop 0 0 (g_Xz mX12_stop n 0 0 P) 0 n H [some (.ref (a0)), some (.int (i1))] [] 0 0 := by
  refine gG_aload_n dX12_stop_0 rfl rfl ?_
  refine gG_iconst (v := 0) dX12_stop_1 (by decide) ?_
  obtain ⟨fs, e1, e2, h⟩ := h
  refine gG_pi dX12_stop_2 fl_X12_147 ⟨fs, e1, e2, ?_⟩
  obtain ⟨H1, eH⟩ : ∃ z, z = va_up H (a0) (.inr (12, fs.set 0 (.int ((0 : Int32))))) := ⟨_, rfl⟩
  rw [← eH] at h ⊢
  refine gG_aload_n dX12_stop_5 rfl rfl ?_
  refine gG_iload_n dX12_stop_6 rfl rfl ?_
  obtain ⟨hrc, d2, P2, hdd, hC, h⟩ := h
  refine gG_cvi (As := [.int (i1)]) (st := []) dX12_stop_7 mV_X12_395 hdd hrc rfl rfl (Nat.le_of_ble_eq_true rfl) (Nat.le_refl _) ⟨Nat.le_refl _, Nat.le_refl _⟩ hC (fun H2 x9 hp => ?_)
  obtain ⟨b3, rfl, hp⟩ := hp
  have h := h H2 b3 hp
  refine gG_if_eq (tgt := 21) dX12_stop_10 (by decide) (fun c => ?_) (fun c => ?_)
  · have h := h.1 (g_b_f c)
    refine gG_iconst (v := 0) dX12_stop_21 (by decide) ?_
    exact gG_exit ⟨rfl, rfl, rfl, dX12_stop_22, false, rfl, h⟩
  · have h := h.2 (g_b_t c)
    refine gG_aload_n dX12_stop_13 rfl rfl ?_
    refine gG_iload_n dX12_stop_14 rfl rfl ?_
    obtain ⟨hrc, d2, P2, hdd, hC, h⟩ := h
    refine gG_cvi (As := [.int (i1)]) (st := []) dX12_stop_15 mV_X12_359 hdd hrc rfl rfl (Nat.le_of_ble_eq_true rfl) (Nat.le_refl _) ⟨Nat.le_refl _, Nat.le_refl _⟩ hC (fun H4 x9 hp => ?_)
    obtain ⟨b5, rfl, hp⟩ := hp
    have h := h H4 b5 hp
    refine gG_if_eq (tgt := 23) dX12_stop_18 (by decide) (fun c => ?_) (fun c => ?_)
    · have h := h.1 (g_b_f c)
      refine gG_aload_n dX12_stop_23 rfl rfl ?_
      obtain ⟨hrc, d2, P2, hdd, hC, h⟩ := h
      refine gG_cvv (As := []) (st := []) dX12_stop_24 mV_X12_405 hdd hrc rfl rfl (Nat.le_of_ble_eq_true rfl) (Nat.le_refl _) ⟨Nat.le_refl _, Nat.le_refl _⟩ hC (fun H6 hp => ?_)
      have h := h H6 hp
      refine gG_aload_n dX12_stop_27 rfl rfl ?_
      obtain ⟨fs, q7, e1, e2, h⟩ := h
      refine gG_gr dX12_stop_28 fl_X12_117 ⟨fs, q7, e1, e2, ?_⟩
      refine gG_iconst (v := 1) dX12_stop_31 (by decide) ?_
      refine gG_dup2 dX12_stop_32 rfl rfl ?_
      obtain ⟨m0, f0, e1, e2, h⟩ := h
      refine gG_iald dX12_stop_33 ⟨m0, f0, e1, e2, ?_⟩
      obtain ⟨x8, eH⟩ : ∃ z, z = f0 (Int32.toNatClampNeg ((1 : Int32))) := ⟨_, rfl⟩
      rw [← eH] at h ⊢
      refine gG_iconst (v := 1) dX12_stop_34 (by decide) ?_
      refine gG_iload_n dX12_stop_35 rfl rfl ?_
      refine gG_ishl dX12_stop_36 ?_
      refine gG_ixor dX12_stop_37 ?_
      obtain ⟨m0, f0, e1, e2, h⟩ := h
      refine gG_iast dX12_stop_38 ⟨m0, f0, e1, e2, ?_⟩
      obtain ⟨H9, eH⟩ : ∃ z, z = va_up H6 (q7) (.inl (0, m0, .inl (upd f0 (Int32.toNatClampNeg ((1 : Int32))) ((x8 ^^^ ((1 : Int32) <<< (i1 &&& 31))))))) := ⟨_, rfl⟩
      rw [← eH] at h ⊢
      refine gG_iconst (v := 1) dX12_stop_39 (by decide) ?_
      exact gG_exit ⟨rfl, rfl, rfl, dX12_stop_40, true, rfl, h⟩
    · have h := h.2 (g_b_t c)
      refine gG_iconst (v := 0) dX12_stop_21 (by decide) ?_
      exact gG_exit ⟨rfl, rfl, rfl, dX12_stop_22, false, rfl, h⟩

theorem kX12_clear_0 {d n : Nat} {H : gHp} {P : gHp → Bool → Prop} {a0 : Nat} {i1 : Int32} (h : g_pf H (a0) 12 0 (.int ((0 : Int32))) (fun H1 => (∃ fs, H1 (a0) = .inr (12, fs)) ∧ g_cz d mX12_isMouth n H1 [.ref (a0), .int (i1)] (fun H2 b3 => (b3 = false → P H2 false) ∧ (b3 = true → (∃ fs, H2 (a0) = .inr (12, fs)) ∧ g_cz d mX12_isStopped n H2 [.ref (a0), .int (i1)] (fun H4 b5 => (b5 = true → (∃ fs, H4 (a0) = .inr (12, fs)) ∧ g_cvd d mX12_keeps n H4 [.ref (a0)] (fun H6 => g_gr H6 (a0) 12 47 (fun q7 => g_al 0 H6 (q7) ((1 : Int32)) (fun x8 => g_as 0 H6 (q7) ((1 : Int32)) ((x8 ^^^ ((1 : Int32) <<< (i1 &&& 31)))) (fun H9 => P H9 true))))) ∧ (b5 = false → P H4 false)))))) : gG d mX12_clear 0 0 (g_Xz mX12_clear n 0 0 P) 0 n H [some (.ref (a0)), some (.int (i1))] [] 0 0 := by
  refine gG_aload_n dX12_clear_0 rfl rfl ?_
  refine gG_iconst (v := 0) dX12_clear_1 (by decide) ?_
  obtain ⟨fs, e1, e2, h⟩ := h
  refine gG_pi dX12_clear_2 fl_X12_147 ⟨fs, e1, e2, ?_⟩
  obtain ⟨H1, eH⟩ : ∃ z, z = va_up H (a0) (.inr (12, fs.set 0 (.int ((0 : Int32))))) := ⟨_, rfl⟩
  rw [← eH] at h ⊢
  refine gG_aload_n dX12_clear_5 rfl rfl ?_
  refine gG_iload_n dX12_clear_6 rfl rfl ?_
  obtain ⟨hrc, d2, P2, hdd, hC, h⟩ := h
  refine gG_cvi (As := [.int (i1)]) (st := []) dX12_clear_7 mV_X12_395 hdd hrc rfl rfl (Nat.le_of_ble_eq_true rfl) (Nat.le_refl _) ⟨Nat.le_refl _, Nat.le_refl _⟩ hC (fun H2 x9 hp => ?_)
  obtain ⟨b3, rfl, hp⟩ := hp
  have h := h H2 b3 hp
  refine gG_if_eq (tgt := 21) dX12_clear_10 (by decide) (fun c => ?_) (fun c => ?_)
  · have h := h.1 (g_b_f c)
    refine gG_iconst (v := 0) dX12_clear_21 (by decide) ?_
    exact gG_exit ⟨rfl, rfl, rfl, dX12_clear_22, false, rfl, h⟩
  · have h := h.2 (g_b_t c)
    refine gG_aload_n dX12_clear_13 rfl rfl ?_
    refine gG_iload_n dX12_clear_14 rfl rfl ?_
    obtain ⟨hrc, d2, P2, hdd, hC, h⟩ := h
    refine gG_cvi (As := [.int (i1)]) (st := []) dX12_clear_15 mV_X12_359 hdd hrc rfl rfl (Nat.le_of_ble_eq_true rfl) (Nat.le_refl _) ⟨Nat.le_refl _, Nat.le_refl _⟩ hC (fun H4 x9 hp => ?_)
    obtain ⟨b5, rfl, hp⟩ := hp
    have h := h H4 b5 hp
    refine gG_if_ne (tgt := 23) dX12_clear_18 (by decide) (fun c => ?_) (fun c => ?_)
    · have h := h.1 (g_b_t c)
      refine gG_aload_n dX12_clear_23 rfl rfl ?_
      obtain ⟨hrc, d2, P2, hdd, hC, h⟩ := h
      refine gG_cvv (As := []) (st := []) dX12_clear_24 mV_X12_405 hdd hrc rfl rfl (Nat.le_of_ble_eq_true rfl) (Nat.le_refl _) ⟨Nat.le_refl _, Nat.le_refl _⟩ hC (fun H6 hp => ?_)
      have h := h H6 hp
      refine gG_aload_n dX12_clear_27 rfl rfl ?_
      obtain ⟨fs, q7, e1, e2, h⟩ := h
      refine gG_gr dX12_clear_28 fl_X12_117 ⟨fs, q7, e1, e2, ?_⟩
      refine gG_iconst (v := 1) dX12_clear_31 (by decide) ?_
      refine gG_dup2 dX12_clear_32 rfl rfl ?_
      obtain ⟨m0, f0, e1, e2, h⟩ := h
      refine gG_iald dX12_clear_33 ⟨m0, f0, e1, e2, ?_⟩
      obtain ⟨x8, eH⟩ : ∃ z, z = f0 (Int32.toNatClampNeg ((1 : Int32))) := ⟨_, rfl⟩
      rw [← eH] at h ⊢
      refine gG_iconst (v := 1) dX12_clear_34 (by decide) ?_
      refine gG_iload_n dX12_clear_35 rfl rfl ?_
      refine gG_ishl dX12_clear_36 ?_
      refine gG_ixor dX12_clear_37 ?_
      obtain ⟨m0, f0, e1, e2, h⟩ := h
      refine gG_iast dX12_clear_38 ⟨m0, f0, e1, e2, ?_⟩
      obtain ⟨H9, eH⟩ : ∃ z, z = va_up H6 (q7) (.inl (0, m0, .inl (upd f0 (Int32.toNatClampNeg ((1 : Int32))) ((x8 ^^^ ((1 : Int32) <<< (i1 &&& 31))))))) := ⟨_, rfl⟩
      rw [← eH] at h ⊢
      refine gG_iconst (v := 1) dX12_clear_39 (by decide) ?_
      exact gG_exit ⟨rfl, rfl, rfl, dX12_clear_40, true, rfl, h⟩
    · have h := h.2 (g_b_f c)
      refine gG_iconst (v := 0) dX12_clear_21 (by decide) ?_
      exact gG_exit ⟨rfl, rfl, rfl, dX12_clear_22, false, rfl, h⟩

theorem kX12_undo_0 {d n : Nat} {H : gHp} {P : gHp → Bool → Prop} {a0 : Nat} (h : g_pf H (a0) 12 0 (.int ((0 : Int32))) (fun H1 => g_gi H1 (a0) 12 53 (fun x2 => (¬ (x2 = 0) → g_gi H1 (a0) 12 53 (fun x3 => g_pf H1 (a0) 12 53 (.int ((x3 - (1 : Int32)))) (fun H4 => g_gr H4 (a0) 12 51 (fun q5 => g_gi H4 (a0) 12 53 (fun x6 => g_gr H4 (a0) 12 47 (fun q7 => g_cvd d mX12_copies n H4 [.ref (q5), .int (((59 : Int32) * x6)), .ref (q7), .int ((0 : Int32))] (fun H8 => P H8 true))))))) ∧ (x2 = 0 → P H1 false)))) : gG d mX12_undo 0 0 (g_Xz mX12_undo n 0 0 P) 0 n H [some (.ref (a0))] [] 0 0 := by
  refine gG_aload_n dX12_undo_0 rfl rfl ?_
  refine gG_iconst (v := 0) dX12_undo_1 (by decide) ?_
  obtain ⟨fs, e1, e2, h⟩ := h
  refine gG_pi dX12_undo_2 fl_X12_147 ⟨fs, e1, e2, ?_⟩
  obtain ⟨H1, eH⟩ : ∃ z, z = va_up H (a0) (.inr (12, fs.set 0 (.int ((0 : Int32))))) := ⟨_, rfl⟩
  rw [← eH] at h ⊢
  refine gG_aload_n dX12_undo_5 rfl rfl ?_
  obtain ⟨fs, x2, e1, e2, h⟩ := h
  refine gG_gi dX12_undo_6 fl_X12_343 ⟨fs, x2, e1, e2, ?_⟩
  refine gG_if_ne (tgt := 14) dX12_undo_9 (by decide) (fun c => ?_) (fun c => ?_)
  · have h := h.1 c
    refine gG_aload_n dX12_undo_14 rfl rfl ?_
    refine gG_dup dX12_undo_15 rfl ?_
    obtain ⟨fs, x3, e1, e2, h⟩ := h
    refine gG_gi dX12_undo_16 fl_X12_343 ⟨fs, x3, e1, e2, ?_⟩
    refine gG_iconst (v := 1) dX12_undo_19 (by decide) ?_
    refine gG_isub dX12_undo_20 ?_
    obtain ⟨fs, e1, e2, h⟩ := h
    refine gG_pi dX12_undo_21 fl_X12_343 ⟨fs, e1, e2, ?_⟩
    obtain ⟨H4, eH⟩ : ∃ z, z = va_up H1 (a0) (.inr (12, fs.set 53 (.int ((x3 - (1 : Int32)))))) := ⟨_, rfl⟩
    rw [← eH] at h ⊢
    refine gG_aload_n dX12_undo_24 rfl rfl ?_
    obtain ⟨fs, q5, e1, e2, h⟩ := h
    refine gG_gr dX12_undo_25 fl_X12_129 ⟨fs, q5, e1, e2, ?_⟩
    refine gG_bipush (v := 59) dX12_undo_28 (by decide) ?_
    refine gG_aload_n dX12_undo_30 rfl rfl ?_
    obtain ⟨fs, x6, e1, e2, h⟩ := h
    refine gG_gi dX12_undo_31 fl_X12_343 ⟨fs, x6, e1, e2, ?_⟩
    refine gG_imul dX12_undo_34 ?_
    refine gG_aload_n dX12_undo_35 rfl rfl ?_
    obtain ⟨fs, q7, e1, e2, h⟩ := h
    refine gG_gr dX12_undo_36 fl_X12_117 ⟨fs, q7, e1, e2, ?_⟩
    refine gG_iconst (v := 0) dX12_undo_39 (by decide) ?_
    obtain ⟨d2, P2, hdd, hC, h⟩ := h
    refine gG_csv (As := [.ref (q5), .int (((59 : Int32) * x6)), .ref (q7), .int ((0 : Int32))]) (st := []) dX12_undo_40 mS_X12_401 hdd rfl rfl (Nat.le_of_ble_eq_true rfl) (Nat.le_refl _) ⟨Nat.le_refl _, Nat.le_refl _⟩ hC (fun H8 hp => ?_)
    have h := h H8 hp
    refine gG_iconst (v := 1) dX12_undo_43 (by decide) ?_
    exact gG_exit ⟨rfl, rfl, rfl, dX12_undo_44, true, rfl, h⟩
  · have h := h.2 c
    refine gG_iconst (v := 0) dX12_undo_12 (by decide) ?_
    exact gG_exit ⟨rfl, rfl, rfl, dX12_undo_13, false, rfl, h⟩

theorem kX12_holesNow_0 {d n : Nat} {H : gHp} {P : gHp → Int32 → Prop} {a0 : Nat} (h : gG d mX12_holesNow 0 0 (g_Xj mX12_holesNow n 0 0 P) 4 n H [some (.ref (a0)), some (.int ((0 : Int32))), some (.int ((0 : Int32)))] [] (0) (0)) : gG d mX12_holesNow 0 0 (g_Xj mX12_holesNow n 0 0 P) 0 n H [some (.ref (a0)), none, none] [] 0 0 := by
  refine gG_iconst (v := 0) dX12_holesNow_0 (by decide) ?_
  refine gG_istore_n dX12_holesNow_1 rfl (Nat.le_of_ble_eq_true rfl) ?_
  refine gG_iconst (v := 0) dX12_holesNow_2 (by decide) ?_
  refine gG_istore_n dX12_holesNow_3 rfl (Nat.le_of_ble_eq_true rfl) ?_
  refine gG_locals ?_ h
  exact ⟨rfl, ⟨rfl, ⟨rfl, trivial⟩⟩⟩
theorem kX12_holesNow_4 {d n : Nat} {H : gHp} {P : gHp → Int32 → Prop} {a0 : Nat} {i1 : Int32} {i2 : Int32} (h : g_gr H (a0) 12 47 (fun q1 => g_al 0 H (q1) ((4 : Int32)) (fun x2 => (x2 ≤ i2 → P H (i1)) ∧ (¬ (x2 ≤ i2) → g_gr H (a0) 12 47 (fun q3 => g_al 0 H (q3) (((19 : Int32) + i2)) (fun x4 => (¬ (x4 = (6 : Int32)) → gG d mX12_holesNow 0 0 (g_Xj mX12_holesNow n 0 0 P) 4 n H [some (.ref (a0)), some (.int ((i1 + (0 : Int32)))), some (.int ((i2 + 1)))] [] (0) (0)) ∧ (x4 = (6 : Int32) → gG d mX12_holesNow 0 0 (g_Xj mX12_holesNow n 0 0 P) 4 n H [some (.ref (a0)), some (.int ((i1 + (1 : Int32)))), some (.int ((i2 + 1)))] [] (0) (0)))))))) : gG d mX12_holesNow 0 0 (g_Xj mX12_holesNow n 0 0 P) 4 n H [some (.ref (a0)), some (.int (i1)), some (.int (i2))] [] 0 0 := by
  refine gG_iload_n dX12_holesNow_4 rfl rfl ?_
  refine gG_aload_n dX12_holesNow_5 rfl rfl ?_
  obtain ⟨fs, q1, e1, e2, h⟩ := h
  refine gG_gr dX12_holesNow_6 fl_X12_117 ⟨fs, q1, e1, e2, ?_⟩
  refine gG_iconst (v := 4) dX12_holesNow_9 (by decide) ?_
  obtain ⟨m0, f0, e1, e2, h⟩ := h
  refine gG_iald dX12_holesNow_10 ⟨m0, f0, e1, e2, ?_⟩
  obtain ⟨x2, eH⟩ : ∃ z, z = f0 (Int32.toNatClampNeg ((4 : Int32))) := ⟨_, rfl⟩
  rw [← eH] at h ⊢
  refine gG_ic_ge (tgt := 42) dX12_holesNow_11 (by decide) (fun c => ?_) (fun c => ?_)
  · have h := h.1 c
    refine gG_iload_n dX12_holesNow_42 rfl rfl ?_
    exact gG_exit ⟨rfl, rfl, rfl, dX12_holesNow_43, _, rfl, h⟩
  · have h := h.2 c
    refine gG_iload_n dX12_holesNow_14 rfl rfl ?_
    refine gG_aload_n dX12_holesNow_15 rfl rfl ?_
    obtain ⟨fs, q3, e1, e2, h⟩ := h
    refine gG_gr dX12_holesNow_16 fl_X12_117 ⟨fs, q3, e1, e2, ?_⟩
    refine gG_bipush (v := 19) dX12_holesNow_19 (by decide) ?_
    refine gG_iload_n dX12_holesNow_21 rfl rfl ?_
    refine gG_iadd dX12_holesNow_22 ?_
    obtain ⟨m0, f0, e1, e2, h⟩ := h
    refine gG_iald dX12_holesNow_23 ⟨m0, f0, e1, e2, ?_⟩
    obtain ⟨x4, eH⟩ : ∃ z, z = f0 (Int32.toNatClampNeg (((19 : Int32) + i2))) := ⟨_, rfl⟩
    rw [← eH] at h ⊢
    refine gG_bipush (v := 6) dX12_holesNow_24 (by decide) ?_
    refine gG_ic_ne (tgt := 33) dX12_holesNow_26 (by decide) (fun c => ?_) (fun c => ?_)
    · have h := h.1 c
      refine gG_iconst (v := 0) dX12_holesNow_33 (by decide) ?_
      refine gG_iadd dX12_holesNow_34 ?_
      refine gG_istore_n dX12_holesNow_35 rfl (Nat.le_of_ble_eq_true rfl) ?_
      refine gG_iinc (v := i2 + 1) dX12_holesNow_36 rfl rfl (Nat.le_of_ble_eq_true rfl) ?_
      refine gG_goto (tgt := 4) dX12_holesNow_39 (by decide) ?_
      refine gG_locals ?_ h
      exact ⟨rfl, ⟨rfl, ⟨rfl, trivial⟩⟩⟩
    · have h := h.2 c
      refine gG_iconst (v := 1) dX12_holesNow_29 (by decide) ?_
      refine gG_goto (tgt := 34) dX12_holesNow_30 (by decide) ?_
      refine gG_iadd dX12_holesNow_34 ?_
      refine gG_istore_n dX12_holesNow_35 rfl (Nat.le_of_ble_eq_true rfl) ?_
      refine gG_iinc (v := i2 + 1) dX12_holesNow_36 rfl rfl (Nat.le_of_ble_eq_true rfl) ?_
      refine gG_goto (tgt := 4) dX12_holesNow_39 (by decide) ?_
      refine gG_locals ?_ h
      exact ⟨rfl, ⟨rfl, ⟨rfl, trivial⟩⟩⟩

theorem kX12_judged_0 {d n : Nat} {H : gHp} {P : gHp → Int32 → Prop} {a0 : Nat} {i1 : Int32} (h : g_pf H (a0) 12 0 (.int ((0 : Int32))) (fun H1 => g_cz d mX12_within n H1 [.int (i1), .int ((0 : Int32)), .int ((2 : Int32))] (fun H2 b3 => (b3 = true → g_gr H2 (a0) 12 47 (fun q4 => g_gr H2 (a0) 12 48 (fun q5 => g_cvd d mX12_copies n H2 [.ref (q4), .int ((0 : Int32)), .ref (q5), .int ((0 : Int32))] (fun H6 => (∃ fs, H6 (a0) = .inr (12, fs)) ∧ g_cvd d mX12_fresh0 n H6 [.ref (a0)] (fun H7 => gG d mX12_judged 0 0 (g_Xj mX12_judged n 0 0 P) 41 n H7 [some (.ref (a0)), some (.int (i1)), some (.int ((-1 : Int32))), some (.int ((-1 : Int32))), some (.int ((0 : Int32))), none] [] (0) (0)))))) ∧ (b3 = false → P H2 ((-2 : Int32)))))) : gG d mX12_judged 0 0 (g_Xj mX12_judged n 0 0 P) 0 n H [some (.ref (a0)), some (.int (i1)), none, none, none, none] [] 0 0 := by
  refine gG_aload_n dX12_judged_0 rfl rfl ?_
  refine gG_iconst (v := 0) dX12_judged_1 (by decide) ?_
  obtain ⟨fs, e1, e2, h⟩ := h
  refine gG_pi dX12_judged_2 fl_X12_147 ⟨fs, e1, e2, ?_⟩
  obtain ⟨H1, eH⟩ : ∃ z, z = va_up H (a0) (.inr (12, fs.set 0 (.int ((0 : Int32))))) := ⟨_, rfl⟩
  rw [← eH] at h ⊢
  refine gG_iload_n dX12_judged_5 rfl rfl ?_
  refine gG_iconst (v := 0) dX12_judged_6 (by decide) ?_
  refine gG_iconst (v := 2) dX12_judged_7 (by decide) ?_
  obtain ⟨d2, P2, hdd, hC, h⟩ := h
  refine gG_csi (As := [.int (i1), .int ((0 : Int32)), .int ((2 : Int32))]) (st := []) dX12_judged_8 mS_X12_268 hdd rfl rfl (Nat.le_of_ble_eq_true rfl) (Nat.le_refl _) ⟨Nat.le_refl _, Nat.le_refl _⟩ hC (fun H2 x9 hp => ?_)
  obtain ⟨b3, rfl, hp⟩ := hp
  have h := h H2 b3 hp
  refine gG_if_ne (tgt := 17) dX12_judged_11 (by decide) (fun c => ?_) (fun c => ?_)
  · have h := h.1 (g_b_t c)
    refine gG_aload_n dX12_judged_17 rfl rfl ?_
    obtain ⟨fs, q4, e1, e2, h⟩ := h
    refine gG_gr dX12_judged_18 fl_X12_117 ⟨fs, q4, e1, e2, ?_⟩
    refine gG_iconst (v := 0) dX12_judged_21 (by decide) ?_
    refine gG_aload_n dX12_judged_22 rfl rfl ?_
    obtain ⟨fs, q5, e1, e2, h⟩ := h
    refine gG_gr dX12_judged_23 fl_X12_120 ⟨fs, q5, e1, e2, ?_⟩
    refine gG_iconst (v := 0) dX12_judged_26 (by decide) ?_
    obtain ⟨d2, P2, hdd, hC, h⟩ := h
    refine gG_csv (As := [.ref (q4), .int ((0 : Int32)), .ref (q5), .int ((0 : Int32))]) (st := []) dX12_judged_27 mS_X12_401 hdd rfl rfl (Nat.le_of_ble_eq_true rfl) (Nat.le_refl _) ⟨Nat.le_refl _, Nat.le_refl _⟩ hC (fun H6 hp => ?_)
    have h := h H6 hp
    refine gG_aload_n dX12_judged_30 rfl rfl ?_
    obtain ⟨hrc, d2, P2, hdd, hC, h⟩ := h
    refine gG_cvv (As := []) (st := []) dX12_judged_31 mV_X12_144 hdd hrc rfl rfl (Nat.le_of_ble_eq_true rfl) (Nat.le_refl _) ⟨Nat.le_refl _, Nat.le_refl _⟩ hC (fun H7 hp => ?_)
    have h := h H7 hp
    refine gG_iconst (v := (-1)) dX12_judged_34 (by decide) ?_
    refine gG_istore_n dX12_judged_35 rfl (Nat.le_of_ble_eq_true rfl) ?_
    refine gG_iconst (v := (-1)) dX12_judged_36 (by decide) ?_
    refine gG_istore_n dX12_judged_37 rfl (Nat.le_of_ble_eq_true rfl) ?_
    refine gG_iconst (v := 0) dX12_judged_38 (by decide) ?_
    refine gG_istore dX12_judged_39 (Nat.le_of_ble_eq_true rfl) ?_
    refine gG_locals ?_ h
    exact ⟨rfl, ⟨rfl, ⟨rfl, ⟨rfl, ⟨rfl, trivial⟩⟩⟩⟩⟩
  · have h := h.2 (g_b_f c)
    refine gG_bipush (v := (-2)) dX12_judged_14 (by decide) ?_
    exact gG_exit ⟨rfl, rfl, rfl, dX12_judged_16, _, rfl, h⟩
theorem kX12_judged_41 {d n : Nat} {H : gHp} {P : gHp → Int32 → Prop} {a0 : Nat} {i1 : Int32} {i2 : Int32} {i3 : Int32} {i4 : Int32} (h : g_gr H (a0) 12 38 (fun q1 => g_al 0 H (q1) ((0 : Int32)) (fun x2 => (x2 ≤ i4 → (∃ fs, H (a0) = .inr (12, fs)) ∧ g_ci d mX12_holesNow n H [.ref (a0)] (fun H3 x4 => g_gr H3 (a0) 12 48 (fun q5 => g_gr H3 (a0) 12 47 (fun q6 => g_cvd d mX12_copies n H3 [.ref (q5), .int ((0 : Int32)), .ref (q6), .int ((0 : Int32))] (fun H7 => (¬ (i1 = 0) → (¬ (i1 = (1 : Int32)) → P H7 (x4)) ∧ (i1 = (1 : Int32) → P H7 (i3))) ∧ (i1 = 0 → P H7 (i2))))))) ∧ (¬ (x2 ≤ i4) → g_gr H (a0) 12 40 (fun q8 => g_al 0 H (q8) (i4) (fun x9 => g_gr H (a0) 12 39 (fun q10 => g_al 0 H (q10) (i4) (fun x11 => (¬ (x11 = 0) → g_gr H (a0) 12 39 (fun q12 => g_al 0 H (q12) (i4) (fun x13 => (¬ (x13 = (1 : Int32)) → (∃ fs, H (a0) = .inr (12, fs)) ∧ g_cz d mX12_isStopped n H [.ref (a0), .int (x9)] (fun H14 b15 => g_gr H14 (a0) 12 39 (fun q16 => g_al 0 H14 (q16) (i4) (fun x17 => (¬ (x17 = (3 : Int32)) → (¬ ((g_b b15) = (0 : Int32)) → gG d mX12_judged 0 0 (g_Xj mX12_judged n 0 0 P) 161 n H14 [some (.ref (a0)), some (.int (i1)), some (.int (i2)), some (.int (i3)), some (.int (i4)), none] [] (0) (0)) ∧ ((g_b b15) = (0 : Int32) → gG d mX12_judged 0 0 (g_Xj mX12_judged n 0 0 P) 145 n H14 [some (.ref (a0)), some (.int (i1)), some (.int (i2)), some (.int (i3)), some (.int (i4)), some (.int (x9))] [] (0) (0))) ∧ (x17 = (3 : Int32) → (¬ ((g_b b15) = (1 : Int32)) → gG d mX12_judged 0 0 (g_Xj mX12_judged n 0 0 P) 161 n H14 [some (.ref (a0)), some (.int (i1)), some (.int (i2)), some (.int (i3)), some (.int (i4)), none] [] (0) (0)) ∧ ((g_b b15) = (1 : Int32) → gG d mX12_judged 0 0 (g_Xj mX12_judged n 0 0 P) 145 n H14 [some (.ref (a0)), some (.int (i1)), some (.int (i2)), some (.int (i3)), some (.int (i4)), some (.int (x9))] [] (0) (0))))))) ∧ (x13 = (1 : Int32) → g_gr H (a0) 12 41 (fun q18 => g_al 0 H (q18) (i4) (fun x19 => (∃ fs, H (a0) = .inr (12, fs)) ∧ g_cvd d mX12_pours n H [.ref (a0), .int (x9), .int (x19)] (fun H20 => gG d mX12_judged 0 0 (g_Xj mX12_judged n 0 0 P) 41 n H20 [some (.ref (a0)), some (.int (i1)), some (.int (i2)), some (.int (i3)), some (.int ((i4 + 1))), none] [] (0) (0)))))))) ∧ (x11 = 0 → (∃ fs, H (a0) = .inr (12, fs)) ∧ g_ci d mX12_passesAsTold n H [.ref (a0)] (fun H21 x22 => g_cz d mX12_within n H21 [.int (x22), .int ((0 : Int32)), .int ((5 : Int32))] (fun H23 b24 => (b24 = false → gG d mX12_judged 0 0 (g_Xj mX12_judged n 0 0 P) 41 n H23 [some (.ref (a0)), some (.int (i1)), some (.int (i2)), some (.int (i3)), some (.int ((i4 + 1))), none] [] (0) (0)) ∧ (b24 = true → (0 ≤ i3 → gG d mX12_judged 0 0 (g_Xj mX12_judged n 0 0 P) 41 n H23 [some (.ref (a0)), some (.int (i1)), some (.int (i2)), some (.int (i3)), some (.int ((i4 + 1))), none] [] (0) (0)) ∧ (¬ (0 ≤ i3) → gG d mX12_judged 0 0 (g_Xj mX12_judged n 0 0 P) 41 n H23 [some (.ref (a0)), some (.int (i1)), some (.int (i2)), some (.int (i4)), some (.int ((i4 + 1))), none] [] (0) (0)))))))))))))) : gG d mX12_judged 0 0 (g_Xj mX12_judged n 0 0 P) 41 n H [some (.ref (a0)), some (.int (i1)), some (.int (i2)), some (.int (i3)), some (.int (i4)), none] [] 0 0 := by
  refine gG_iload dX12_judged_41 rfl ?_
  refine gG_aload_n dX12_judged_43 rfl rfl ?_
  obtain ⟨fs, q1, e1, e2, h⟩ := h
  refine gG_gr dX12_judged_44 fl_X12_90 ⟨fs, q1, e1, e2, ?_⟩
  refine gG_iconst (v := 0) dX12_judged_47 (by decide) ?_
  obtain ⟨m0, f0, e1, e2, h⟩ := h
  refine gG_iald dX12_judged_48 ⟨m0, f0, e1, e2, ?_⟩
  obtain ⟨x2, eH⟩ : ∃ z, z = f0 (Int32.toNatClampNeg ((0 : Int32))) := ⟨_, rfl⟩
  rw [← eH] at h ⊢
  refine gG_ic_ge (tgt := 174) dX12_judged_49 (by decide) (fun c => ?_) (fun c => ?_)
  · have h := h.1 c
    refine gG_aload_n dX12_judged_174 rfl rfl ?_
    obtain ⟨hrc, d2, P2, hdd, hC, h⟩ := h
    refine gG_cvi (As := []) (st := []) dX12_judged_175 mV_X12_414 hdd hrc rfl rfl (Nat.le_of_ble_eq_true rfl) (Nat.le_refl _) ⟨Nat.le_refl _, Nat.le_refl _⟩ hC (fun H3 x4 hp => ?_)
    have h := h H3 x4 hp
    refine gG_istore dX12_judged_178 (Nat.le_of_ble_eq_true rfl) ?_
    refine gG_aload_n dX12_judged_180 rfl rfl ?_
    obtain ⟨fs, q5, e1, e2, h⟩ := h
    refine gG_gr dX12_judged_181 fl_X12_120 ⟨fs, q5, e1, e2, ?_⟩
    refine gG_iconst (v := 0) dX12_judged_184 (by decide) ?_
    refine gG_aload_n dX12_judged_185 rfl rfl ?_
    obtain ⟨fs, q6, e1, e2, h⟩ := h
    refine gG_gr dX12_judged_186 fl_X12_117 ⟨fs, q6, e1, e2, ?_⟩
    refine gG_iconst (v := 0) dX12_judged_189 (by decide) ?_
    obtain ⟨d2, P2, hdd, hC, h⟩ := h
    refine gG_csv (As := [.ref (q5), .int ((0 : Int32)), .ref (q6), .int ((0 : Int32))]) (st := []) dX12_judged_190 mS_X12_401 hdd rfl rfl (Nat.le_of_ble_eq_true rfl) (Nat.le_refl _) ⟨Nat.le_refl _, Nat.le_refl _⟩ hC (fun H7 hp => ?_)
    have h := h H7 hp
    refine gG_iload_n dX12_judged_193 rfl rfl ?_
    refine gG_if_ne (tgt := 201) dX12_judged_194 (by decide) (fun c => ?_) (fun c => ?_)
    · have h := h.1 c
      refine gG_iload_n dX12_judged_201 rfl rfl ?_
      refine gG_iconst (v := 1) dX12_judged_202 (by decide) ?_
      refine gG_ic_ne (tgt := 210) dX12_judged_203 (by decide) (fun c => ?_) (fun c => ?_)
      · have h := h.1 c
        refine gG_iload dX12_judged_210 rfl ?_
        exact gG_exit ⟨rfl, rfl, rfl, dX12_judged_212, _, rfl, h⟩
      · have h := h.2 c
        refine gG_iload_n dX12_judged_206 rfl rfl ?_
        refine gG_goto (tgt := 212) dX12_judged_207 (by decide) ?_
        exact gG_exit ⟨rfl, rfl, rfl, dX12_judged_212, _, rfl, h⟩
    · have h := h.2 c
      refine gG_iload_n dX12_judged_197 rfl rfl ?_
      refine gG_goto (tgt := 212) dX12_judged_198 (by decide) ?_
      exact gG_exit ⟨rfl, rfl, rfl, dX12_judged_212, _, rfl, h⟩
  · have h := h.2 c
    refine gG_aload_n dX12_judged_52 rfl rfl ?_
    obtain ⟨fs, q8, e1, e2, h⟩ := h
    refine gG_gr dX12_judged_53 fl_X12_96 ⟨fs, q8, e1, e2, ?_⟩
    refine gG_iload dX12_judged_56 rfl ?_
    obtain ⟨m0, f0, e1, e2, h⟩ := h
    refine gG_iald dX12_judged_58 ⟨m0, f0, e1, e2, ?_⟩
    obtain ⟨x9, eH⟩ : ∃ z, z = f0 (Int32.toNatClampNeg (i4)) := ⟨_, rfl⟩
    rw [← eH] at h ⊢
    refine gG_istore dX12_judged_59 (Nat.le_of_ble_eq_true rfl) ?_
    refine gG_aload_n dX12_judged_61 rfl rfl ?_
    obtain ⟨fs, q10, e1, e2, h⟩ := h
    refine gG_gr dX12_judged_62 fl_X12_93 ⟨fs, q10, e1, e2, ?_⟩
    refine gG_iload dX12_judged_65 rfl ?_
    obtain ⟨m0, f0, e1, e2, h⟩ := h
    refine gG_iald dX12_judged_67 ⟨m0, f0, e1, e2, ?_⟩
    obtain ⟨x11, eH⟩ : ∃ z, z = f0 (Int32.toNatClampNeg (i4)) := ⟨_, rfl⟩
    rw [← eH] at h ⊢
    refine gG_if_ne (tgt := 93) dX12_judged_68 (by decide) (fun c => ?_) (fun c => ?_)
    · have h := h.1 c
      refine gG_aload_n dX12_judged_93 rfl rfl ?_
      obtain ⟨fs, q12, e1, e2, h⟩ := h
      refine gG_gr dX12_judged_94 fl_X12_93 ⟨fs, q12, e1, e2, ?_⟩
      refine gG_iload dX12_judged_97 rfl ?_
      obtain ⟨m0, f0, e1, e2, h⟩ := h
      refine gG_iald dX12_judged_99 ⟨m0, f0, e1, e2, ?_⟩
      obtain ⟨x13, eH⟩ : ∃ z, z = f0 (Int32.toNatClampNeg (i4)) := ⟨_, rfl⟩
      rw [← eH] at h ⊢
      refine gG_iconst (v := 1) dX12_judged_100 (by decide) ?_
      refine gG_ic_ne (tgt := 120) dX12_judged_101 (by decide) (fun c => ?_) (fun c => ?_)
      · have h := h.1 c
        refine gG_aload_n dX12_judged_120 rfl rfl ?_
        refine gG_iload dX12_judged_121 rfl ?_
        obtain ⟨hrc, d2, P2, hdd, hC, h⟩ := h
        refine gG_cvi (As := [.int (x9)]) (st := []) dX12_judged_123 mV_X12_359 hdd hrc rfl rfl (Nat.le_of_ble_eq_true rfl) (Nat.le_refl _) ⟨Nat.le_refl _, Nat.le_refl _⟩ hC (fun H14 x9 hp => ?_)
        obtain ⟨b15, rfl, hp⟩ := hp
        have h := h H14 b15 hp
        refine gG_aload_n dX12_judged_126 rfl rfl ?_
        obtain ⟨fs, q16, e1, e2, h⟩ := h
        refine gG_gr dX12_judged_127 fl_X12_93 ⟨fs, q16, e1, e2, ?_⟩
        refine gG_iload dX12_judged_130 rfl ?_
        obtain ⟨m0, f0, e1, e2, h⟩ := h
        refine gG_iald dX12_judged_132 ⟨m0, f0, e1, e2, ?_⟩
        obtain ⟨x17, eH⟩ : ∃ z, z = f0 (Int32.toNatClampNeg (i4)) := ⟨_, rfl⟩
        rw [← eH] at h ⊢
        refine gG_iconst (v := 3) dX12_judged_133 (by decide) ?_
        refine gG_ic_ne (tgt := 141) dX12_judged_134 (by decide) (fun c => ?_) (fun c => ?_)
        · have h := h.1 c
          refine gG_iconst (v := 0) dX12_judged_141 (by decide) ?_
          refine gG_ic_ne (tgt := 161) dX12_judged_142 (by decide) (fun c => ?_) (fun c => ?_)
          · have h := h.1 c
            refine gG_locals ?_ h
            exact ⟨rfl, ⟨rfl, ⟨rfl, ⟨rfl, ⟨rfl, trivial⟩⟩⟩⟩⟩
          · have h := h.2 c
            refine gG_locals ?_ h
            exact ⟨rfl, ⟨rfl, ⟨rfl, ⟨rfl, ⟨rfl, ⟨rfl, trivial⟩⟩⟩⟩⟩⟩
        · have h := h.2 c
          refine gG_iconst (v := 1) dX12_judged_137 (by decide) ?_
          refine gG_goto (tgt := 142) dX12_judged_138 (by decide) ?_
          refine gG_ic_ne (tgt := 161) dX12_judged_142 (by decide) (fun c => ?_) (fun c => ?_)
          · have h := h.1 c
            refine gG_locals ?_ h
            exact ⟨rfl, ⟨rfl, ⟨rfl, ⟨rfl, ⟨rfl, trivial⟩⟩⟩⟩⟩
          · have h := h.2 c
            refine gG_locals ?_ h
            exact ⟨rfl, ⟨rfl, ⟨rfl, ⟨rfl, ⟨rfl, ⟨rfl, trivial⟩⟩⟩⟩⟩⟩
      · have h := h.2 c
        refine gG_aload_n dX12_judged_104 rfl rfl ?_
        refine gG_iload dX12_judged_105 rfl ?_
        refine gG_aload_n dX12_judged_107 rfl rfl ?_
        obtain ⟨fs, q18, e1, e2, h⟩ := h
        refine gG_gr dX12_judged_108 fl_X12_99 ⟨fs, q18, e1, e2, ?_⟩
        refine gG_iload dX12_judged_111 rfl ?_
        obtain ⟨m0, f0, e1, e2, h⟩ := h
        refine gG_iald dX12_judged_113 ⟨m0, f0, e1, e2, ?_⟩
        obtain ⟨x19, eH⟩ : ∃ z, z = f0 (Int32.toNatClampNeg (i4)) := ⟨_, rfl⟩
        rw [← eH] at h ⊢
        obtain ⟨hrc, d2, P2, hdd, hC, h⟩ := h
        refine gG_cvv (As := [.int (x9), .int (x19)]) (st := []) dX12_judged_114 mV_X12_411 hdd hrc rfl rfl (Nat.le_of_ble_eq_true rfl) (Nat.le_refl _) ⟨Nat.le_refl _, Nat.le_refl _⟩ hC (fun H20 hp => ?_)
        have h := h H20 hp
        refine gG_goto (tgt := 168) dX12_judged_117 (by decide) ?_
        refine gG_iinc (v := i4 + 1) dX12_judged_168 rfl rfl (Nat.le_of_ble_eq_true rfl) ?_
        refine gG_goto (tgt := 41) dX12_judged_171 (by decide) ?_
        refine gG_locals ?_ h
        exact ⟨rfl, ⟨rfl, ⟨rfl, ⟨rfl, ⟨rfl, trivial⟩⟩⟩⟩⟩
    · have h := h.2 c
      refine gG_aload_n dX12_judged_71 rfl rfl ?_
      obtain ⟨hrc, d2, P2, hdd, hC, h⟩ := h
      refine gG_cvi (As := []) (st := []) dX12_judged_72 mV_X12_408 hdd hrc rfl rfl (Nat.le_of_ble_eq_true rfl) (Nat.le_refl _) ⟨Nat.le_refl _, Nat.le_refl _⟩ hC (fun H21 x22 hp => ?_)
      have h := h H21 x22 hp
      refine gG_iconst (v := 0) dX12_judged_75 (by decide) ?_
      refine gG_iconst (v := 5) dX12_judged_76 (by decide) ?_
      obtain ⟨d2, P2, hdd, hC, h⟩ := h
      refine gG_csi (As := [.int (x22), .int ((0 : Int32)), .int ((5 : Int32))]) (st := []) dX12_judged_77 mS_X12_268 hdd rfl rfl (Nat.le_of_ble_eq_true rfl) (Nat.le_refl _) ⟨Nat.le_refl _, Nat.le_refl _⟩ hC (fun H23 x9 hp => ?_)
      obtain ⟨b24, rfl, hp⟩ := hp
      have h := h H23 b24 hp
      refine gG_if_eq (tgt := 168) dX12_judged_80 (by decide) (fun c => ?_) (fun c => ?_)
      · have h := h.1 (g_b_f c)
        refine gG_iinc (v := i4 + 1) dX12_judged_168 rfl rfl (Nat.le_of_ble_eq_true rfl) ?_
        refine gG_goto (tgt := 41) dX12_judged_171 (by decide) ?_
        refine gG_locals ?_ h
        exact ⟨rfl, ⟨rfl, ⟨rfl, ⟨rfl, ⟨rfl, trivial⟩⟩⟩⟩⟩
      · have h := h.2 (g_b_t c)
        refine gG_iload_n dX12_judged_83 rfl rfl ?_
        refine gG_if_ge (tgt := 168) dX12_judged_84 (by decide) (fun c => ?_) (fun c => ?_)
        · have h := h.1 c
          refine gG_iinc (v := i4 + 1) dX12_judged_168 rfl rfl (Nat.le_of_ble_eq_true rfl) ?_
          refine gG_goto (tgt := 41) dX12_judged_171 (by decide) ?_
          refine gG_locals ?_ h
          exact ⟨rfl, ⟨rfl, ⟨rfl, ⟨rfl, ⟨rfl, trivial⟩⟩⟩⟩⟩
        · have h := h.2 c
          refine gG_iload dX12_judged_87 rfl ?_
          refine gG_istore_n dX12_judged_89 rfl (Nat.le_of_ble_eq_true rfl) ?_
          refine gG_goto (tgt := 168) dX12_judged_90 (by decide) ?_
          refine gG_iinc (v := i4 + 1) dX12_judged_168 rfl rfl (Nat.le_of_ble_eq_true rfl) ?_
          refine gG_goto (tgt := 41) dX12_judged_171 (by decide) ?_
          refine gG_locals ?_ h
          exact ⟨rfl, ⟨rfl, ⟨rfl, ⟨rfl, ⟨rfl, trivial⟩⟩⟩⟩⟩
theorem kX12_judged_145 {d n : Nat} {H : gHp} {P : gHp → Int32 → Prop} {a0 : Nat} {i1 : Int32} {i2 : Int32} {i3 : Int32} {i4 : Int32} {i5 : Int32} (h : g_gr H (a0) 12 47 (fun q1 => g_al 0 H (q1) ((1 : Int32)) (fun x2 => g_as 0 H (q1) ((1 : Int32)) ((x2 ^^^ ((1 : Int32) <<< (i5 &&& 31)))) (fun H3 => gG d mX12_judged 0 0 (g_Xj mX12_judged n 0 0 P) 41 n H3 [some (.ref (a0)), some (.int (i1)), some (.int (i2)), some (.int (i3)), some (.int ((i4 + 1))), none] [] (0) (0))))) : gG d mX12_judged 0 0 (g_Xj mX12_judged n 0 0 P) 145 n H [some (.ref (a0)), some (.int (i1)), some (.int (i2)), some (.int (i3)), some (.int (i4)), some (.int (i5))] [] 0 0 := by
  refine gG_aload_n dX12_judged_145 rfl rfl ?_
  obtain ⟨fs, q1, e1, e2, h⟩ := h
  refine gG_gr dX12_judged_146 fl_X12_117 ⟨fs, q1, e1, e2, ?_⟩
  refine gG_iconst (v := 1) dX12_judged_149 (by decide) ?_
  refine gG_dup2 dX12_judged_150 rfl rfl ?_
  obtain ⟨m0, f0, e1, e2, h⟩ := h
  refine gG_iald dX12_judged_151 ⟨m0, f0, e1, e2, ?_⟩
  obtain ⟨x2, eH⟩ : ∃ z, z = f0 (Int32.toNatClampNeg ((1 : Int32))) := ⟨_, rfl⟩
  rw [← eH] at h ⊢
  refine gG_iconst (v := 1) dX12_judged_152 (by decide) ?_
  refine gG_iload dX12_judged_153 rfl ?_
  refine gG_ishl dX12_judged_155 ?_
  refine gG_ixor dX12_judged_156 ?_
  obtain ⟨m0, f0, e1, e2, h⟩ := h
  refine gG_iast dX12_judged_157 ⟨m0, f0, e1, e2, ?_⟩
  obtain ⟨H3, eH⟩ : ∃ z, z = va_up H (q1) (.inl (0, m0, .inl (upd f0 (Int32.toNatClampNeg ((1 : Int32))) ((x2 ^^^ ((1 : Int32) <<< (i5 &&& 31))))))) := ⟨_, rfl⟩
  rw [← eH] at h ⊢
  refine gG_goto (tgt := 168) dX12_judged_158 (by decide) ?_
  refine gG_iinc (v := i4 + 1) dX12_judged_168 rfl rfl (Nat.le_of_ble_eq_true rfl) ?_
  refine gG_goto (tgt := 41) dX12_judged_171 (by decide) ?_
  refine gG_locals ?_ h
  exact ⟨rfl, ⟨rfl, ⟨rfl, ⟨rfl, ⟨rfl, trivial⟩⟩⟩⟩⟩
theorem kX12_judged_161 {d n : Nat} {H : gHp} {P : gHp → Int32 → Prop} {a0 : Nat} {i1 : Int32} {i2 : Int32} {i3 : Int32} {i4 : Int32} (h : (0 ≤ i2 → gG d mX12_judged 0 0 (g_Xj mX12_judged n 0 0 P) 41 n H [some (.ref (a0)), some (.int (i1)), some (.int (i2)), some (.int (i3)), some (.int ((i4 + 1))), none] [] (0) (0)) ∧ (¬ (0 ≤ i2) → gG d mX12_judged 0 0 (g_Xj mX12_judged n 0 0 P) 41 n H [some (.ref (a0)), some (.int (i1)), some (.int (i4)), some (.int (i3)), some (.int ((i4 + 1))), none] [] (0) (0))) : gG d mX12_judged 0 0 (g_Xj mX12_judged n 0 0 P) 161 n H [some (.ref (a0)), some (.int (i1)), some (.int (i2)), some (.int (i3)), some (.int (i4)), none] [] 0 0 := by
  refine gG_iload_n dX12_judged_161 rfl rfl ?_
  refine gG_if_ge (tgt := 168) dX12_judged_162 (by decide) (fun c => ?_) (fun c => ?_)
  · have h := h.1 c
    refine gG_iinc (v := i4 + 1) dX12_judged_168 rfl rfl (Nat.le_of_ble_eq_true rfl) ?_
    refine gG_goto (tgt := 41) dX12_judged_171 (by decide) ?_
    refine gG_locals ?_ h
    exact ⟨rfl, ⟨rfl, ⟨rfl, ⟨rfl, ⟨rfl, trivial⟩⟩⟩⟩⟩
  · have h := h.2 c
    refine gG_iload dX12_judged_165 rfl ?_
    refine gG_istore_n dX12_judged_167 rfl (Nat.le_of_ble_eq_true rfl) ?_
    refine gG_iinc (v := i4 + 1) dX12_judged_168 rfl rfl (Nat.le_of_ble_eq_true rfl) ?_
    refine gG_goto (tgt := 41) dX12_judged_171 (by decide) ?_
    refine gG_locals ?_ h
    exact ⟨rfl, ⟨rfl, ⟨rfl, ⟨rfl, ⟨rfl, trivial⟩⟩⟩⟩⟩

theorem kX12_later_0 {d n : Nat} {H : gHp} {P : gHp → Int32 → Prop} {a0 : Nat} {i1 : Int32} {i2 : Int32} (h : g_pf H (a0) 12 0 (.int ((0 : Int32))) (fun H1 => (∃ fs, H1 (a0) = .inr (12, fs)) ∧ g_cz d mX12_isMouth n H1 [.ref (a0), .int (i1)] (fun H2 b3 => (b3 = false → P H2 ((-1 : Int32))) ∧ (b3 = true → g_cz d mX12_within n H2 [.int (i2), .int ((0 : Int32)), .int ((60 : Int32))] (fun H4 b5 => (b5 = true → g_gr H4 (a0) 12 47 (fun q6 => g_gr H4 (a0) 12 49 (fun q7 => g_cvd d mX12_copies n H4 [.ref (q6), .int ((0 : Int32)), .ref (q7), .int ((0 : Int32))] (fun H8 => gG d mX12_later 0 0 (g_Xj mX12_later n 0 0 P) 40 n H8 [some (.ref (a0)), some (.int (i1)), some (.int (i2)), some (.int ((0 : Int32)))] [] (0) (0))))) ∧ (b5 = false → P H4 ((-1 : Int32)))))))) : gG d mX12_later 0 0 (g_Xj mX12_later n 0 0 P) 0 n H [some (.ref (a0)), some (.int (i1)), some (.int (i2)), none] [] 0 0 := by
  refine gG_aload_n dX12_later_0 rfl rfl ?_
  refine gG_iconst (v := 0) dX12_later_1 (by decide) ?_
  obtain ⟨fs, e1, e2, h⟩ := h
  refine gG_pi dX12_later_2 fl_X12_147 ⟨fs, e1, e2, ?_⟩
  obtain ⟨H1, eH⟩ : ∃ z, z = va_up H (a0) (.inr (12, fs.set 0 (.int ((0 : Int32))))) := ⟨_, rfl⟩
  rw [← eH] at h ⊢
  refine gG_aload_n dX12_later_5 rfl rfl ?_
  refine gG_iload_n dX12_later_6 rfl rfl ?_
  obtain ⟨hrc, d2, P2, hdd, hC, h⟩ := h
  refine gG_cvi (As := [.int (i1)]) (st := []) dX12_later_7 mV_X12_395 hdd hrc rfl rfl (Nat.le_of_ble_eq_true rfl) (Nat.le_refl _) ⟨Nat.le_refl _, Nat.le_refl _⟩ hC (fun H2 x9 hp => ?_)
  obtain ⟨b3, rfl, hp⟩ := hp
  have h := h H2 b3 hp
  refine gG_if_eq (tgt := 23) dX12_later_10 (by decide) (fun c => ?_) (fun c => ?_)
  · have h := h.1 (g_b_f c)
    refine gG_iconst (v := (-1)) dX12_later_23 (by decide) ?_
    exact gG_exit ⟨rfl, rfl, rfl, dX12_later_24, _, rfl, h⟩
  · have h := h.2 (g_b_t c)
    refine gG_iload_n dX12_later_13 rfl rfl ?_
    refine gG_iconst (v := 0) dX12_later_14 (by decide) ?_
    refine gG_bipush (v := 60) dX12_later_15 (by decide) ?_
    obtain ⟨d2, P2, hdd, hC, h⟩ := h
    refine gG_csi (As := [.int (i2), .int ((0 : Int32)), .int ((60 : Int32))]) (st := []) dX12_later_17 mS_X12_268 hdd rfl rfl (Nat.le_of_ble_eq_true rfl) (Nat.le_refl _) ⟨Nat.le_refl _, Nat.le_refl _⟩ hC (fun H4 x9 hp => ?_)
    obtain ⟨b5, rfl, hp⟩ := hp
    have h := h H4 b5 hp
    refine gG_if_ne (tgt := 25) dX12_later_20 (by decide) (fun c => ?_) (fun c => ?_)
    · have h := h.1 (g_b_t c)
      refine gG_aload_n dX12_later_25 rfl rfl ?_
      obtain ⟨fs, q6, e1, e2, h⟩ := h
      refine gG_gr dX12_later_26 fl_X12_117 ⟨fs, q6, e1, e2, ?_⟩
      refine gG_iconst (v := 0) dX12_later_29 (by decide) ?_
      refine gG_aload_n dX12_later_30 rfl rfl ?_
      obtain ⟨fs, q7, e1, e2, h⟩ := h
      refine gG_gr dX12_later_31 fl_X12_123 ⟨fs, q7, e1, e2, ?_⟩
      refine gG_iconst (v := 0) dX12_later_34 (by decide) ?_
      obtain ⟨d2, P2, hdd, hC, h⟩ := h
      refine gG_csv (As := [.ref (q6), .int ((0 : Int32)), .ref (q7), .int ((0 : Int32))]) (st := []) dX12_later_35 mS_X12_401 hdd rfl rfl (Nat.le_of_ble_eq_true rfl) (Nat.le_refl _) ⟨Nat.le_refl _, Nat.le_refl _⟩ hC (fun H8 hp => ?_)
      have h := h H8 hp
      refine gG_iconst (v := 0) dX12_later_38 (by decide) ?_
      refine gG_istore_n dX12_later_39 rfl (Nat.le_of_ble_eq_true rfl) ?_
      refine gG_locals ?_ h
      exact ⟨rfl, ⟨rfl, ⟨rfl, ⟨rfl, trivial⟩⟩⟩⟩
    · have h := h.2 (g_b_f c)
      refine gG_iconst (v := (-1)) dX12_later_23 (by decide) ?_
      exact gG_exit ⟨rfl, rfl, rfl, dX12_later_24, _, rfl, h⟩
theorem kX12_later_40 {d n : Nat} {H : gHp} {P : gHp → Int32 → Prop} {a0 : Nat} {i1 : Int32} {i2 : Int32} {i3 : Int32} (h : (i2 ≤ i3 → g_gr H (a0) 12 47 (fun q1 => g_al 0 H (q1) (((5 : Int32) + i1)) (fun x2 => g_gr H (a0) 12 49 (fun q3 => g_gr H (a0) 12 47 (fun q4 => g_cvd d mX12_copies n H [.ref (q3), .int ((0 : Int32)), .ref (q4), .int ((0 : Int32))] (fun H5 => P H5 (x2))))))) ∧ (¬ (i2 ≤ i3) → (∃ fs, H (a0) = .inr (12, fs)) ∧ g_ci d mX12_passesAsTold n H [.ref (a0)] (fun H6 x7 => gG d mX12_later 0 0 (g_Xj mX12_later n 0 0 P) 40 n H6 [some (.ref (a0)), some (.int (i1)), some (.int (i2)), some (.int ((i3 + 1)))] [] (0) (0)))) : gG d mX12_later 0 0 (g_Xj mX12_later n 0 0 P) 40 n H [some (.ref (a0)), some (.int (i1)), some (.int (i2)), some (.int (i3))] [] 0 0 := by
  refine gG_iload_n dX12_later_40 rfl rfl ?_
  refine gG_iload_n dX12_later_41 rfl rfl ?_
  refine gG_ic_ge (tgt := 56) dX12_later_42 (by decide) (fun c => ?_) (fun c => ?_)
  · have h := h.1 c
    refine gG_aload_n dX12_later_56 rfl rfl ?_
    obtain ⟨fs, q1, e1, e2, h⟩ := h
    refine gG_gr dX12_later_57 fl_X12_117 ⟨fs, q1, e1, e2, ?_⟩
    refine gG_iconst (v := 5) dX12_later_60 (by decide) ?_
    refine gG_iload_n dX12_later_61 rfl rfl ?_
    refine gG_iadd dX12_later_62 ?_
    obtain ⟨m0, f0, e1, e2, h⟩ := h
    refine gG_iald dX12_later_63 ⟨m0, f0, e1, e2, ?_⟩
    obtain ⟨x2, eH⟩ : ∃ z, z = f0 (Int32.toNatClampNeg (((5 : Int32) + i1))) := ⟨_, rfl⟩
    rw [← eH] at h ⊢
    refine gG_istore_n dX12_later_64 rfl (Nat.le_of_ble_eq_true rfl) ?_
    refine gG_aload_n dX12_later_65 rfl rfl ?_
    obtain ⟨fs, q3, e1, e2, h⟩ := h
    refine gG_gr dX12_later_66 fl_X12_123 ⟨fs, q3, e1, e2, ?_⟩
    refine gG_iconst (v := 0) dX12_later_69 (by decide) ?_
    refine gG_aload_n dX12_later_70 rfl rfl ?_
    obtain ⟨fs, q4, e1, e2, h⟩ := h
    refine gG_gr dX12_later_71 fl_X12_117 ⟨fs, q4, e1, e2, ?_⟩
    refine gG_iconst (v := 0) dX12_later_74 (by decide) ?_
    obtain ⟨d2, P2, hdd, hC, h⟩ := h
    refine gG_csv (As := [.ref (q3), .int ((0 : Int32)), .ref (q4), .int ((0 : Int32))]) (st := []) dX12_later_75 mS_X12_401 hdd rfl rfl (Nat.le_of_ble_eq_true rfl) (Nat.le_refl _) ⟨Nat.le_refl _, Nat.le_refl _⟩ hC (fun H5 hp => ?_)
    have h := h H5 hp
    refine gG_iload_n dX12_later_78 rfl rfl ?_
    exact gG_exit ⟨rfl, rfl, rfl, dX12_later_79, _, rfl, h⟩
  · have h := h.2 c
    refine gG_aload_n dX12_later_45 rfl rfl ?_
    obtain ⟨hrc, d2, P2, hdd, hC, h⟩ := h
    refine gG_cvi (As := []) (st := []) dX12_later_46 mV_X12_408 hdd hrc rfl rfl (Nat.le_of_ble_eq_true rfl) (Nat.le_refl _) ⟨Nat.le_refl _, Nat.le_refl _⟩ hC (fun H6 x7 hp => ?_)
    have h := h H6 x7 hp
    refine gG_pop dX12_later_49 rfl ?_
    refine gG_iinc (v := i3 + 1) dX12_later_50 rfl rfl (Nat.le_of_ble_eq_true rfl) ?_
    refine gG_goto (tgt := 40) dX12_later_53 (by decide) ?_
    refine gG_locals ?_ h
    exact ⟨rfl, ⟨rfl, ⟨rfl, ⟨rfl, trivial⟩⟩⟩⟩

theorem kX12_reads_0 {d n : Nat} {H : gHp} {P : gHp → Int32 → Prop} {a0 : Nat} {i1 : Int32} (h : g_pf H (a0) 12 0 (.int ((0 : Int32))) (fun H1 => g_cz d mX12_within n H1 [.int (i1), .int ((1 : Int32)), .int ((60 : Int32))] (fun H2 b3 => (b3 = true → g_gr H2 (a0) 12 47 (fun q4 => g_gr H2 (a0) 12 49 (fun q5 => g_cvd d mX12_copies n H2 [.ref (q4), .int ((0 : Int32)), .ref (q5), .int ((0 : Int32))] (fun H6 => gG d mX12_reads 0 0 (g_Xj mX12_reads n 0 0 P) 35 n H6 [some (.ref (a0)), some (.int (i1)), some (.int ((-1 : Int32))), some (.int ((0 : Int32)))] [] (0) (0))))) ∧ (b3 = false → P H2 ((-2 : Int32)))))) : gG d mX12_reads 0 0 (g_Xj mX12_reads n 0 0 P) 0 n H [some (.ref (a0)), some (.int (i1)), none, none] [] 0 0 := by
  refine gG_aload_n dX12_reads_0 rfl rfl ?_
  refine gG_iconst (v := 0) dX12_reads_1 (by decide) ?_
  obtain ⟨fs, e1, e2, h⟩ := h
  refine gG_pi dX12_reads_2 fl_X12_147 ⟨fs, e1, e2, ?_⟩
  obtain ⟨H1, eH⟩ : ∃ z, z = va_up H (a0) (.inr (12, fs.set 0 (.int ((0 : Int32))))) := ⟨_, rfl⟩
  rw [← eH] at h ⊢
  refine gG_iload_n dX12_reads_5 rfl rfl ?_
  refine gG_iconst (v := 1) dX12_reads_6 (by decide) ?_
  refine gG_bipush (v := 60) dX12_reads_7 (by decide) ?_
  obtain ⟨d2, P2, hdd, hC, h⟩ := h
  refine gG_csi (As := [.int (i1), .int ((1 : Int32)), .int ((60 : Int32))]) (st := []) dX12_reads_9 mS_X12_268 hdd rfl rfl (Nat.le_of_ble_eq_true rfl) (Nat.le_refl _) ⟨Nat.le_refl _, Nat.le_refl _⟩ hC (fun H2 x9 hp => ?_)
  obtain ⟨b3, rfl, hp⟩ := hp
  have h := h H2 b3 hp
  refine gG_if_ne (tgt := 18) dX12_reads_12 (by decide) (fun c => ?_) (fun c => ?_)
  · have h := h.1 (g_b_t c)
    refine gG_aload_n dX12_reads_18 rfl rfl ?_
    obtain ⟨fs, q4, e1, e2, h⟩ := h
    refine gG_gr dX12_reads_19 fl_X12_117 ⟨fs, q4, e1, e2, ?_⟩
    refine gG_iconst (v := 0) dX12_reads_22 (by decide) ?_
    refine gG_aload_n dX12_reads_23 rfl rfl ?_
    obtain ⟨fs, q5, e1, e2, h⟩ := h
    refine gG_gr dX12_reads_24 fl_X12_123 ⟨fs, q5, e1, e2, ?_⟩
    refine gG_iconst (v := 0) dX12_reads_27 (by decide) ?_
    obtain ⟨d2, P2, hdd, hC, h⟩ := h
    refine gG_csv (As := [.ref (q4), .int ((0 : Int32)), .ref (q5), .int ((0 : Int32))]) (st := []) dX12_reads_28 mS_X12_401 hdd rfl rfl (Nat.le_of_ble_eq_true rfl) (Nat.le_refl _) ⟨Nat.le_refl _, Nat.le_refl _⟩ hC (fun H6 hp => ?_)
    have h := h H6 hp
    refine gG_iconst (v := (-1)) dX12_reads_31 (by decide) ?_
    refine gG_istore_n dX12_reads_32 rfl (Nat.le_of_ble_eq_true rfl) ?_
    refine gG_iconst (v := 0) dX12_reads_33 (by decide) ?_
    refine gG_istore_n dX12_reads_34 rfl (Nat.le_of_ble_eq_true rfl) ?_
    refine gG_locals ?_ h
    exact ⟨rfl, ⟨rfl, ⟨rfl, ⟨rfl, trivial⟩⟩⟩⟩
  · have h := h.2 (g_b_f c)
    refine gG_bipush (v := (-2)) dX12_reads_15 (by decide) ?_
    exact gG_exit ⟨rfl, rfl, rfl, dX12_reads_17, _, rfl, h⟩
theorem kX12_reads_35 {d n : Nat} {H : gHp} {P : gHp → Int32 → Prop} {a0 : Nat} {i1 : Int32} {i2 : Int32} {i3 : Int32} (h : (i1 ≤ i3 → g_gr H (a0) 12 49 (fun q1 => g_gr H (a0) 12 47 (fun q2 => g_cvd d mX12_copies n H [.ref (q1), .int ((0 : Int32)), .ref (q2), .int ((0 : Int32))] (fun H3 => P H3 (i2))))) ∧ (¬ (i1 ≤ i3) → (∃ fs, H (a0) = .inr (12, fs)) ∧ g_ci d mX12_passesAsTold n H [.ref (a0)] (fun H4 x5 => gG d mX12_reads 0 0 (g_Xj mX12_reads n 0 0 P) 35 n H4 [some (.ref (a0)), some (.int (i1)), some (.int (x5)), some (.int ((i3 + 1)))] [] (0) (0)))) : gG d mX12_reads 0 0 (g_Xj mX12_reads n 0 0 P) 35 n H [some (.ref (a0)), some (.int (i1)), some (.int (i2)), some (.int (i3))] [] 0 0 := by
  refine gG_iload_n dX12_reads_35 rfl rfl ?_
  refine gG_iload_n dX12_reads_36 rfl rfl ?_
  refine gG_ic_ge (tgt := 51) dX12_reads_37 (by decide) (fun c => ?_) (fun c => ?_)
  · have h := h.1 c
    refine gG_aload_n dX12_reads_51 rfl rfl ?_
    obtain ⟨fs, q1, e1, e2, h⟩ := h
    refine gG_gr dX12_reads_52 fl_X12_123 ⟨fs, q1, e1, e2, ?_⟩
    refine gG_iconst (v := 0) dX12_reads_55 (by decide) ?_
    refine gG_aload_n dX12_reads_56 rfl rfl ?_
    obtain ⟨fs, q2, e1, e2, h⟩ := h
    refine gG_gr dX12_reads_57 fl_X12_117 ⟨fs, q2, e1, e2, ?_⟩
    refine gG_iconst (v := 0) dX12_reads_60 (by decide) ?_
    obtain ⟨d2, P2, hdd, hC, h⟩ := h
    refine gG_csv (As := [.ref (q1), .int ((0 : Int32)), .ref (q2), .int ((0 : Int32))]) (st := []) dX12_reads_61 mS_X12_401 hdd rfl rfl (Nat.le_of_ble_eq_true rfl) (Nat.le_refl _) ⟨Nat.le_refl _, Nat.le_refl _⟩ hC (fun H3 hp => ?_)
    have h := h H3 hp
    refine gG_iload_n dX12_reads_64 rfl rfl ?_
    exact gG_exit ⟨rfl, rfl, rfl, dX12_reads_65, _, rfl, h⟩
  · have h := h.2 c
    refine gG_aload_n dX12_reads_40 rfl rfl ?_
    obtain ⟨hrc, d2, P2, hdd, hC, h⟩ := h
    refine gG_cvi (As := []) (st := []) dX12_reads_41 mV_X12_408 hdd hrc rfl rfl (Nat.le_of_ble_eq_true rfl) (Nat.le_refl _) ⟨Nat.le_refl _, Nat.le_refl _⟩ hC (fun H4 x5 hp => ?_)
    have h := h H4 x5 hp
    refine gG_istore_n dX12_reads_44 rfl (Nat.le_of_ble_eq_true rfl) ?_
    refine gG_iinc (v := i3 + 1) dX12_reads_45 rfl rfl (Nat.le_of_ble_eq_true rfl) ?_
    refine gG_goto (tgt := 35) dX12_reads_48 (by decide) ?_
    refine gG_locals ?_ h
    exact ⟨rfl, ⟨rfl, ⟨rfl, ⟨rfl, trivial⟩⟩⟩⟩

theorem kX12_when_0 {d n : Nat} {H : gHp} {P : gHp → Int32 → Prop} {a0 : Nat} {i1 : Int32} (h : g_pf H (a0) 12 0 (.int ((0 : Int32))) (fun H1 => (∃ fs, H1 (a0) = .inr (12, fs)) ∧ g_cz d mX12_isLetter0 n H1 [.ref (a0), .int (i1)] (fun H2 b3 => (b3 = true → g_gr H2 (a0) 12 47 (fun q4 => g_gr H2 (a0) 12 49 (fun q5 => g_cvd d mX12_copies n H2 [.ref (q4), .int ((0 : Int32)), .ref (q5), .int ((0 : Int32))] (fun H6 => gG d mX12_when 0 0 (g_Xj mX12_when n 0 0 P) 30 n H6 [some (.ref (a0)), some (.int (i1)), some (.int ((1 : Int32)))] [] (0) (0))))) ∧ (b3 = false → P H2 ((-1 : Int32)))))) : gG d mX12_when 0 0 (g_Xj mX12_when n 0 0 P) 0 n H [some (.ref (a0)), some (.int (i1)), none] [] 0 0 := by
  refine gG_aload_n dX12_when_0 rfl rfl ?_
  refine gG_iconst (v := 0) dX12_when_1 (by decide) ?_
  obtain ⟨fs, e1, e2, h⟩ := h
  refine gG_pi dX12_when_2 fl_X12_147 ⟨fs, e1, e2, ?_⟩
  obtain ⟨H1, eH⟩ : ∃ z, z = va_up H (a0) (.inr (12, fs.set 0 (.int ((0 : Int32))))) := ⟨_, rfl⟩
  rw [← eH] at h ⊢
  refine gG_aload_n dX12_when_5 rfl rfl ?_
  refine gG_iload_n dX12_when_6 rfl rfl ?_
  obtain ⟨hrc, d2, P2, hdd, hC, h⟩ := h
  refine gG_cvi (As := [.int (i1)]) (st := []) dX12_when_7 mV_X12_398 hdd hrc rfl rfl (Nat.le_of_ble_eq_true rfl) (Nat.le_refl _) ⟨Nat.le_refl _, Nat.le_refl _⟩ hC (fun H2 x9 hp => ?_)
  obtain ⟨b3, rfl, hp⟩ := hp
  have h := h H2 b3 hp
  refine gG_if_ne (tgt := 15) dX12_when_10 (by decide) (fun c => ?_) (fun c => ?_)
  · have h := h.1 (g_b_t c)
    refine gG_aload_n dX12_when_15 rfl rfl ?_
    obtain ⟨fs, q4, e1, e2, h⟩ := h
    refine gG_gr dX12_when_16 fl_X12_117 ⟨fs, q4, e1, e2, ?_⟩
    refine gG_iconst (v := 0) dX12_when_19 (by decide) ?_
    refine gG_aload_n dX12_when_20 rfl rfl ?_
    obtain ⟨fs, q5, e1, e2, h⟩ := h
    refine gG_gr dX12_when_21 fl_X12_123 ⟨fs, q5, e1, e2, ?_⟩
    refine gG_iconst (v := 0) dX12_when_24 (by decide) ?_
    obtain ⟨d2, P2, hdd, hC, h⟩ := h
    refine gG_csv (As := [.ref (q4), .int ((0 : Int32)), .ref (q5), .int ((0 : Int32))]) (st := []) dX12_when_25 mS_X12_401 hdd rfl rfl (Nat.le_of_ble_eq_true rfl) (Nat.le_refl _) ⟨Nat.le_refl _, Nat.le_refl _⟩ hC (fun H6 hp => ?_)
    have h := h H6 hp
    refine gG_iconst (v := 1) dX12_when_28 (by decide) ?_
    refine gG_istore_n dX12_when_29 rfl (Nat.le_of_ble_eq_true rfl) ?_
    refine gG_locals ?_ h
    exact ⟨rfl, ⟨rfl, ⟨rfl, trivial⟩⟩⟩
  · have h := h.2 (g_b_f c)
    refine gG_iconst (v := (-1)) dX12_when_13 (by decide) ?_
    exact gG_exit ⟨rfl, rfl, rfl, dX12_when_14, _, rfl, h⟩
theorem kX12_when_30 {d n : Nat} {H : gHp} {P : gHp → Int32 → Prop} {a0 : Nat} {i1 : Int32} {i2 : Int32} (h : ((60 : Int32) < i2 → gG d mX12_when 0 0 (g_Xj mX12_when n 0 0 P) 50 n H [some (.ref (a0)), none, some (.int (i2))] [] (0) (0)) ∧ (¬ ((60 : Int32) < i2) → (∃ fs, H (a0) = .inr (12, fs)) ∧ g_ci d mX12_passesAsTold n H [.ref (a0)] (fun H1 x2 => (x2 = i1 → gG d mX12_when 0 0 (g_Xj mX12_when n 0 0 P) 50 n H1 [some (.ref (a0)), none, some (.int (i2))] [] (0) (0)) ∧ (¬ (x2 = i1) → gG d mX12_when 0 0 (g_Xj mX12_when n 0 0 P) 30 n H1 [some (.ref (a0)), some (.int (i1)), some (.int ((i2 + 1)))] [] (0) (0))))) : gG d mX12_when 0 0 (g_Xj mX12_when n 0 0 P) 30 n H [some (.ref (a0)), some (.int (i1)), some (.int (i2))] [] 0 0 := by
  refine gG_iload_n dX12_when_30 rfl rfl ?_
  refine gG_bipush (v := 60) dX12_when_31 (by decide) ?_
  refine gG_ic_gt (tgt := 50) dX12_when_33 (by decide) (fun c => ?_) (fun c => ?_)
  · have h := h.1 c
    refine gG_locals ?_ h
    exact ⟨rfl, ⟨rfl, trivial⟩⟩
  · have h := h.2 c
    refine gG_aload_n dX12_when_36 rfl rfl ?_
    obtain ⟨hrc, d2, P2, hdd, hC, h⟩ := h
    refine gG_cvi (As := []) (st := []) dX12_when_37 mV_X12_408 hdd hrc rfl rfl (Nat.le_of_ble_eq_true rfl) (Nat.le_refl _) ⟨Nat.le_refl _, Nat.le_refl _⟩ hC (fun H1 x2 hp => ?_)
    have h := h H1 x2 hp
    refine gG_iload_n dX12_when_40 rfl rfl ?_
    refine gG_ic_eq (tgt := 50) dX12_when_41 (by decide) (fun c => ?_) (fun c => ?_)
    · have h := h.1 c
      refine gG_locals ?_ h
      exact ⟨rfl, ⟨rfl, trivial⟩⟩
    · have h := h.2 c
      refine gG_iinc (v := i2 + 1) dX12_when_44 rfl rfl (Nat.le_of_ble_eq_true rfl) ?_
      refine gG_goto (tgt := 30) dX12_when_47 (by decide) ?_
      refine gG_locals ?_ h
      exact ⟨rfl, ⟨rfl, ⟨rfl, trivial⟩⟩⟩
theorem kX12_when_50 {d n : Nat} {H : gHp} {P : gHp → Int32 → Prop} {a0 : Nat} {i2 : Int32} (h : g_gr H (a0) 12 49 (fun q1 => g_gr H (a0) 12 47 (fun q2 => g_cvd d mX12_copies n H [.ref (q1), .int ((0 : Int32)), .ref (q2), .int ((0 : Int32))] (fun H3 => (i2 ≤ (60 : Int32) → P H3 (i2)) ∧ (¬ (i2 ≤ (60 : Int32)) → P H3 ((-1 : Int32))))))) : gG d mX12_when 0 0 (g_Xj mX12_when n 0 0 P) 50 n H [some (.ref (a0)), none, some (.int (i2))] [] 0 0 := by
  refine gG_aload_n dX12_when_50 rfl rfl ?_
  obtain ⟨fs, q1, e1, e2, h⟩ := h
  refine gG_gr dX12_when_51 fl_X12_123 ⟨fs, q1, e1, e2, ?_⟩
  refine gG_iconst (v := 0) dX12_when_54 (by decide) ?_
  refine gG_aload_n dX12_when_55 rfl rfl ?_
  obtain ⟨fs, q2, e1, e2, h⟩ := h
  refine gG_gr dX12_when_56 fl_X12_117 ⟨fs, q2, e1, e2, ?_⟩
  refine gG_iconst (v := 0) dX12_when_59 (by decide) ?_
  obtain ⟨d2, P2, hdd, hC, h⟩ := h
  refine gG_csv (As := [.ref (q1), .int ((0 : Int32)), .ref (q2), .int ((0 : Int32))]) (st := []) dX12_when_60 mS_X12_401 hdd rfl rfl (Nat.le_of_ble_eq_true rfl) (Nat.le_refl _) ⟨Nat.le_refl _, Nat.le_refl _⟩ hC (fun H3 hp => ?_)
  have h := h H3 hp
  refine gG_iload_n dX12_when_63 rfl rfl ?_
  refine gG_bipush (v := 60) dX12_when_64 (by decide) ?_
  refine gG_ic_le (tgt := 73) dX12_when_66 (by decide) (fun c => ?_) (fun c => ?_)
  · have h := h.1 c
    refine gG_iload_n dX12_when_73 rfl rfl ?_
    exact gG_exit ⟨rfl, rfl, rfl, dX12_when_74, _, rfl, h⟩
  · have h := h.2 c
    refine gG_iconst (v := (-1)) dX12_when_69 (by decide) ?_
    refine gG_goto (tgt := 74) dX12_when_70 (by decide) ?_
    exact gG_exit ⟨rfl, rfl, rfl, dX12_when_74, _, rfl, h⟩

theorem kX12_allStands_0 {d n : Nat} {H : gHp} {P : gHp → Int32 → Prop} {a0 : Nat} (h : gG d mX12_allStands 0 0 (g_Xj mX12_allStands n 0 0 P) 4 n H [some (.ref (a0)), some (.int ((0 : Int32))), some (.int ((0 : Int32)))] [] (0) (0)) : gG d mX12_allStands 0 0 (g_Xj mX12_allStands n 0 0 P) 0 n H [some (.ref (a0)), none, none] [] 0 0 := by
  refine gG_iconst (v := 0) dX12_allStands_0 (by decide) ?_
  refine gG_istore_n dX12_allStands_1 rfl (Nat.le_of_ble_eq_true rfl) ?_
  refine gG_iconst (v := 0) dX12_allStands_2 (by decide) ?_
  refine gG_istore_n dX12_allStands_3 rfl (Nat.le_of_ble_eq_true rfl) ?_
  refine gG_locals ?_ h
  exact ⟨rfl, ⟨rfl, ⟨rfl, trivial⟩⟩⟩
theorem kX12_allStands_4 {d n : Nat} {H : gHp} {P : gHp → Int32 → Prop} {a0 : Nat} {i1 : Int32} {i2 : Int32} (h : ((7 : Int32) ≤ i2 → P H (i1)) ∧ (¬ ((7 : Int32) ≤ i2) → g_gr H (a0) 12 47 (fun q1 => g_al 0 H (q1) (((5 : Int32) + i2)) (fun x2 => gG d mX12_allStands 0 0 (g_Xj mX12_allStands n 0 0 P) 4 n H [some (.ref (a0)), some (.int ((i1 + x2))), some (.int ((i2 + 1)))] [] (0) (0))))) : gG d mX12_allStands 0 0 (g_Xj mX12_allStands n 0 0 P) 4 n H [some (.ref (a0)), some (.int (i1)), some (.int (i2))] [] 0 0 := by
  refine gG_iload_n dX12_allStands_4 rfl rfl ?_
  refine gG_bipush (v := 7) dX12_allStands_5 (by decide) ?_
  refine gG_ic_ge (tgt := 27) dX12_allStands_7 (by decide) (fun c => ?_) (fun c => ?_)
  · have h := h.1 c
    refine gG_iload_n dX12_allStands_27 rfl rfl ?_
    exact gG_exit ⟨rfl, rfl, rfl, dX12_allStands_28, _, rfl, h⟩
  · have h := h.2 c
    refine gG_iload_n dX12_allStands_10 rfl rfl ?_
    refine gG_aload_n dX12_allStands_11 rfl rfl ?_
    obtain ⟨fs, q1, e1, e2, h⟩ := h
    refine gG_gr dX12_allStands_12 fl_X12_117 ⟨fs, q1, e1, e2, ?_⟩
    refine gG_iconst (v := 5) dX12_allStands_15 (by decide) ?_
    refine gG_iload_n dX12_allStands_16 rfl rfl ?_
    refine gG_iadd dX12_allStands_17 ?_
    obtain ⟨m0, f0, e1, e2, h⟩ := h
    refine gG_iald dX12_allStands_18 ⟨m0, f0, e1, e2, ?_⟩
    obtain ⟨x2, eH⟩ : ∃ z, z = f0 (Int32.toNatClampNeg (((5 : Int32) + i2))) := ⟨_, rfl⟩
    rw [← eH] at h ⊢
    refine gG_iadd dX12_allStands_19 ?_
    refine gG_istore_n dX12_allStands_20 rfl (Nat.le_of_ble_eq_true rfl) ?_
    refine gG_iinc (v := i2 + 1) dX12_allStands_21 rfl rfl (Nat.le_of_ble_eq_true rfl) ?_
    refine gG_goto (tgt := 4) dX12_allStands_24 (by decide) ?_
    refine gG_locals ?_ h
    exact ⟨rfl, ⟨rfl, ⟨rfl, trivial⟩⟩⟩

theorem kX12_dry_0 {d n : Nat} {H : gHp} {P : gHp → Int32 → Prop} {a0 : Nat} (h : g_pf H (a0) 12 0 (.int ((0 : Int32))) (fun H1 => g_gr H1 (a0) 12 47 (fun q2 => g_gr H1 (a0) 12 49 (fun q3 => g_cvd d mX12_copies n H1 [.ref (q2), .int ((0 : Int32)), .ref (q3), .int ((0 : Int32))] (fun H4 => gG d mX12_dry 0 0 (g_Xj mX12_dry n 0 0 P) 20 n H4 [some (.ref (a0)), some (.int ((0 : Int32)))] [] (0) (0)))))) : gG d mX12_dry 0 0 (g_Xj mX12_dry n 0 0 P) 0 n H [some (.ref (a0)), none] [] 0 0 := by
  refine gG_aload_n dX12_dry_0 rfl rfl ?_
  refine gG_iconst (v := 0) dX12_dry_1 (by decide) ?_
  obtain ⟨fs, e1, e2, h⟩ := h
  refine gG_pi dX12_dry_2 fl_X12_147 ⟨fs, e1, e2, ?_⟩
  obtain ⟨H1, eH⟩ : ∃ z, z = va_up H (a0) (.inr (12, fs.set 0 (.int ((0 : Int32))))) := ⟨_, rfl⟩
  rw [← eH] at h ⊢
  refine gG_aload_n dX12_dry_5 rfl rfl ?_
  obtain ⟨fs, q2, e1, e2, h⟩ := h
  refine gG_gr dX12_dry_6 fl_X12_117 ⟨fs, q2, e1, e2, ?_⟩
  refine gG_iconst (v := 0) dX12_dry_9 (by decide) ?_
  refine gG_aload_n dX12_dry_10 rfl rfl ?_
  obtain ⟨fs, q3, e1, e2, h⟩ := h
  refine gG_gr dX12_dry_11 fl_X12_123 ⟨fs, q3, e1, e2, ?_⟩
  refine gG_iconst (v := 0) dX12_dry_14 (by decide) ?_
  obtain ⟨d2, P2, hdd, hC, h⟩ := h
  refine gG_csv (As := [.ref (q2), .int ((0 : Int32)), .ref (q3), .int ((0 : Int32))]) (st := []) dX12_dry_15 mS_X12_401 hdd rfl rfl (Nat.le_of_ble_eq_true rfl) (Nat.le_refl _) ⟨Nat.le_refl _, Nat.le_refl _⟩ hC (fun H4 hp => ?_)
  have h := h H4 hp
  refine gG_iconst (v := 0) dX12_dry_18 (by decide) ?_
  refine gG_istore_n dX12_dry_19 rfl (Nat.le_of_ble_eq_true rfl) ?_
  refine gG_locals ?_ h
  exact ⟨rfl, ⟨rfl, trivial⟩⟩
theorem kX12_dry_20 {d n : Nat} {H : gHp} {P : gHp → Int32 → Prop} {a0 : Nat} {i1 : Int32} (h : ((60 : Int32) < i1 → gG d mX12_dry 0 0 (g_Xj mX12_dry n 0 0 P) 44 n H [some (.ref (a0)), some (.int (i1))] [] (0) (0)) ∧ (¬ ((60 : Int32) < i1) → (∃ fs, H (a0) = .inr (12, fs)) ∧ g_ci d mX12_allStands n H [.ref (a0)] (fun H1 x2 => (x2 ≤ 0 → gG d mX12_dry 0 0 (g_Xj mX12_dry n 0 0 P) 44 n H1 [some (.ref (a0)), some (.int (i1))] [] (0) (0)) ∧ (¬ (x2 ≤ 0) → (∃ fs, H1 (a0) = .inr (12, fs)) ∧ g_ci d mX12_passesAsTold n H1 [.ref (a0)] (fun H3 x4 => gG d mX12_dry 0 0 (g_Xj mX12_dry n 0 0 P) 20 n H3 [some (.ref (a0)), some (.int ((i1 + 1)))] [] (0) (0)))))) : gG d mX12_dry 0 0 (g_Xj mX12_dry n 0 0 P) 20 n H [some (.ref (a0)), some (.int (i1))] [] 0 0 := by
  refine gG_iload_n dX12_dry_20 rfl rfl ?_
  refine gG_bipush (v := 60) dX12_dry_21 (by decide) ?_
  refine gG_ic_gt (tgt := 44) dX12_dry_23 (by decide) (fun c => ?_) (fun c => ?_)
  · have h := h.1 c
    refine gG_locals ?_ h
    exact ⟨rfl, ⟨rfl, trivial⟩⟩
  · have h := h.2 c
    refine gG_aload_n dX12_dry_26 rfl rfl ?_
    obtain ⟨hrc, d2, P2, hdd, hC, h⟩ := h
    refine gG_cvi (As := []) (st := []) dX12_dry_27 mV_X12_417 hdd hrc rfl rfl (Nat.le_of_ble_eq_true rfl) (Nat.le_refl _) ⟨Nat.le_refl _, Nat.le_refl _⟩ hC (fun H1 x2 hp => ?_)
    have h := h H1 x2 hp
    refine gG_if_le (tgt := 44) dX12_dry_30 (by decide) (fun c => ?_) (fun c => ?_)
    · have h := h.1 c
      refine gG_locals ?_ h
      exact ⟨rfl, ⟨rfl, trivial⟩⟩
    · have h := h.2 c
      refine gG_aload_n dX12_dry_33 rfl rfl ?_
      obtain ⟨hrc, d2, P2, hdd, hC, h⟩ := h
      refine gG_cvi (As := []) (st := []) dX12_dry_34 mV_X12_408 hdd hrc rfl rfl (Nat.le_of_ble_eq_true rfl) (Nat.le_refl _) ⟨Nat.le_refl _, Nat.le_refl _⟩ hC (fun H3 x4 hp => ?_)
      have h := h H3 x4 hp
      refine gG_pop dX12_dry_37 rfl ?_
      refine gG_iinc (v := i1 + 1) dX12_dry_38 rfl rfl (Nat.le_of_ble_eq_true rfl) ?_
      refine gG_goto (tgt := 20) dX12_dry_41 (by decide) ?_
      refine gG_locals ?_ h
      exact ⟨rfl, ⟨rfl, trivial⟩⟩
theorem kX12_dry_44 {d n : Nat} {H : gHp} {P : gHp → Int32 → Prop} {a0 : Nat} {i1 : Int32} (h : g_gr H (a0) 12 49 (fun q1 => g_gr H (a0) 12 47 (fun q2 => g_cvd d mX12_copies n H [.ref (q1), .int ((0 : Int32)), .ref (q2), .int ((0 : Int32))] (fun H3 => (i1 ≤ (60 : Int32) → P H3 (i1)) ∧ (¬ (i1 ≤ (60 : Int32)) → P H3 ((-1 : Int32))))))) : gG d mX12_dry 0 0 (g_Xj mX12_dry n 0 0 P) 44 n H [some (.ref (a0)), some (.int (i1))] [] 0 0 := by
  refine gG_aload_n dX12_dry_44 rfl rfl ?_
  obtain ⟨fs, q1, e1, e2, h⟩ := h
  refine gG_gr dX12_dry_45 fl_X12_123 ⟨fs, q1, e1, e2, ?_⟩
  refine gG_iconst (v := 0) dX12_dry_48 (by decide) ?_
  refine gG_aload_n dX12_dry_49 rfl rfl ?_
  obtain ⟨fs, q2, e1, e2, h⟩ := h
  refine gG_gr dX12_dry_50 fl_X12_117 ⟨fs, q2, e1, e2, ?_⟩
  refine gG_iconst (v := 0) dX12_dry_53 (by decide) ?_
  obtain ⟨d2, P2, hdd, hC, h⟩ := h
  refine gG_csv (As := [.ref (q1), .int ((0 : Int32)), .ref (q2), .int ((0 : Int32))]) (st := []) dX12_dry_54 mS_X12_401 hdd rfl rfl (Nat.le_of_ble_eq_true rfl) (Nat.le_refl _) ⟨Nat.le_refl _, Nat.le_refl _⟩ hC (fun H3 hp => ?_)
  have h := h H3 hp
  refine gG_iload_n dX12_dry_57 rfl rfl ?_
  refine gG_bipush (v := 60) dX12_dry_58 (by decide) ?_
  refine gG_ic_le (tgt := 67) dX12_dry_60 (by decide) (fun c => ?_) (fun c => ?_)
  · have h := h.1 c
    refine gG_iload_n dX12_dry_67 rfl rfl ?_
    exact gG_exit ⟨rfl, rfl, rfl, dX12_dry_68, _, rfl, h⟩
  · have h := h.2 c
    refine gG_iconst (v := (-1)) dX12_dry_63 (by decide) ?_
    refine gG_goto (tgt := 68) dX12_dry_64 (by decide) ?_
    exact gG_exit ⟨rfl, rfl, rfl, dX12_dry_68, _, rfl, h⟩

theorem kX12_spill_0 {d n : Nat} {H : gHp} {P : gHp → Int32 → Prop} {a0 : Nat} {i1 : Int32} (h : g_pf H (a0) 12 0 (.int ((0 : Int32))) (fun H1 => g_cz d mX12_within n H1 [.int (i1), .int ((1 : Int32)), .int ((60 : Int32))] (fun H2 b3 => (b3 = true → g_gr H2 (a0) 12 47 (fun q4 => g_gr H2 (a0) 12 49 (fun q5 => g_cvd d mX12_copies n H2 [.ref (q4), .int ((0 : Int32)), .ref (q5), .int ((0 : Int32))] (fun H6 => gG d mX12_spill 0 0 (g_Xj mX12_spill n 0 0 P) 34 n H6 [some (.ref (a0)), some (.int (i1)), some (.int ((0 : Int32))), some (.int ((0 : Int32)))] [] (0) (0))))) ∧ (b3 = false → P H2 ((-1 : Int32)))))) : gG d mX12_spill 0 0 (g_Xj mX12_spill n 0 0 P) 0 n H [some (.ref (a0)), some (.int (i1)), none, none] [] 0 0 := by
  refine gG_aload_n dX12_spill_0 rfl rfl ?_
  refine gG_iconst (v := 0) dX12_spill_1 (by decide) ?_
  obtain ⟨fs, e1, e2, h⟩ := h
  refine gG_pi dX12_spill_2 fl_X12_147 ⟨fs, e1, e2, ?_⟩
  obtain ⟨H1, eH⟩ : ∃ z, z = va_up H (a0) (.inr (12, fs.set 0 (.int ((0 : Int32))))) := ⟨_, rfl⟩
  rw [← eH] at h ⊢
  refine gG_iload_n dX12_spill_5 rfl rfl ?_
  refine gG_iconst (v := 1) dX12_spill_6 (by decide) ?_
  refine gG_bipush (v := 60) dX12_spill_7 (by decide) ?_
  obtain ⟨d2, P2, hdd, hC, h⟩ := h
  refine gG_csi (As := [.int (i1), .int ((1 : Int32)), .int ((60 : Int32))]) (st := []) dX12_spill_9 mS_X12_268 hdd rfl rfl (Nat.le_of_ble_eq_true rfl) (Nat.le_refl _) ⟨Nat.le_refl _, Nat.le_refl _⟩ hC (fun H2 x9 hp => ?_)
  obtain ⟨b3, rfl, hp⟩ := hp
  have h := h H2 b3 hp
  refine gG_if_ne (tgt := 17) dX12_spill_12 (by decide) (fun c => ?_) (fun c => ?_)
  · have h := h.1 (g_b_t c)
    refine gG_aload_n dX12_spill_17 rfl rfl ?_
    obtain ⟨fs, q4, e1, e2, h⟩ := h
    refine gG_gr dX12_spill_18 fl_X12_117 ⟨fs, q4, e1, e2, ?_⟩
    refine gG_iconst (v := 0) dX12_spill_21 (by decide) ?_
    refine gG_aload_n dX12_spill_22 rfl rfl ?_
    obtain ⟨fs, q5, e1, e2, h⟩ := h
    refine gG_gr dX12_spill_23 fl_X12_123 ⟨fs, q5, e1, e2, ?_⟩
    refine gG_iconst (v := 0) dX12_spill_26 (by decide) ?_
    obtain ⟨d2, P2, hdd, hC, h⟩ := h
    refine gG_csv (As := [.ref (q4), .int ((0 : Int32)), .ref (q5), .int ((0 : Int32))]) (st := []) dX12_spill_27 mS_X12_401 hdd rfl rfl (Nat.le_of_ble_eq_true rfl) (Nat.le_refl _) ⟨Nat.le_refl _, Nat.le_refl _⟩ hC (fun H6 hp => ?_)
    have h := h H6 hp
    refine gG_iconst (v := 0) dX12_spill_30 (by decide) ?_
    refine gG_istore_n dX12_spill_31 rfl (Nat.le_of_ble_eq_true rfl) ?_
    refine gG_iconst (v := 0) dX12_spill_32 (by decide) ?_
    refine gG_istore_n dX12_spill_33 rfl (Nat.le_of_ble_eq_true rfl) ?_
    refine gG_locals ?_ h
    exact ⟨rfl, ⟨rfl, ⟨rfl, ⟨rfl, trivial⟩⟩⟩⟩
  · have h := h.2 (g_b_f c)
    refine gG_iconst (v := (-1)) dX12_spill_15 (by decide) ?_
    exact gG_exit ⟨rfl, rfl, rfl, dX12_spill_16, _, rfl, h⟩
theorem kX12_spill_34 {d n : Nat} {H : gHp} {P : gHp → Int32 → Prop} {a0 : Nat} {i1 : Int32} {i2 : Int32} {i3 : Int32} (h : (i1 ≤ i3 → g_gr H (a0) 12 49 (fun q1 => g_gr H (a0) 12 47 (fun q2 => g_cvd d mX12_copies n H [.ref (q1), .int ((0 : Int32)), .ref (q2), .int ((0 : Int32))] (fun H3 => P H3 (i2))))) ∧ (¬ (i1 ≤ i3) → (∃ fs, H (a0) = .inr (12, fs)) ∧ g_ci d mX12_passesAsTold n H [.ref (a0)] (fun H4 x5 => g_gi H4 (a0) 12 55 (fun x6 => gG d mX12_spill 0 0 (g_Xj mX12_spill n 0 0 P) 34 n H4 [some (.ref (a0)), some (.int (i1)), some (.int ((i2 + x6))), some (.int ((i3 + 1)))] [] (0) (0))))) : gG d mX12_spill 0 0 (g_Xj mX12_spill n 0 0 P) 34 n H [some (.ref (a0)), some (.int (i1)), some (.int (i2)), some (.int (i3))] [] 0 0 := by
  refine gG_iload_n dX12_spill_34 rfl rfl ?_
  refine gG_iload_n dX12_spill_35 rfl rfl ?_
  refine gG_ic_ge (tgt := 57) dX12_spill_36 (by decide) (fun c => ?_) (fun c => ?_)
  · have h := h.1 c
    refine gG_aload_n dX12_spill_57 rfl rfl ?_
    obtain ⟨fs, q1, e1, e2, h⟩ := h
    refine gG_gr dX12_spill_58 fl_X12_123 ⟨fs, q1, e1, e2, ?_⟩
    refine gG_iconst (v := 0) dX12_spill_61 (by decide) ?_
    refine gG_aload_n dX12_spill_62 rfl rfl ?_
    obtain ⟨fs, q2, e1, e2, h⟩ := h
    refine gG_gr dX12_spill_63 fl_X12_117 ⟨fs, q2, e1, e2, ?_⟩
    refine gG_iconst (v := 0) dX12_spill_66 (by decide) ?_
    obtain ⟨d2, P2, hdd, hC, h⟩ := h
    refine gG_csv (As := [.ref (q1), .int ((0 : Int32)), .ref (q2), .int ((0 : Int32))]) (st := []) dX12_spill_67 mS_X12_401 hdd rfl rfl (Nat.le_of_ble_eq_true rfl) (Nat.le_refl _) ⟨Nat.le_refl _, Nat.le_refl _⟩ hC (fun H3 hp => ?_)
    have h := h H3 hp
    refine gG_iload_n dX12_spill_70 rfl rfl ?_
    exact gG_exit ⟨rfl, rfl, rfl, dX12_spill_71, _, rfl, h⟩
  · have h := h.2 c
    refine gG_aload_n dX12_spill_39 rfl rfl ?_
    obtain ⟨hrc, d2, P2, hdd, hC, h⟩ := h
    refine gG_cvi (As := []) (st := []) dX12_spill_40 mV_X12_408 hdd hrc rfl rfl (Nat.le_of_ble_eq_true rfl) (Nat.le_refl _) ⟨Nat.le_refl _, Nat.le_refl _⟩ hC (fun H4 x5 hp => ?_)
    have h := h H4 x5 hp
    refine gG_pop dX12_spill_43 rfl ?_
    refine gG_iload_n dX12_spill_44 rfl rfl ?_
    refine gG_aload_n dX12_spill_45 rfl rfl ?_
    obtain ⟨fs, x6, e1, e2, h⟩ := h
    refine gG_gi dX12_spill_46 fl_X12_374 ⟨fs, x6, e1, e2, ?_⟩
    refine gG_iadd dX12_spill_49 ?_
    refine gG_istore_n dX12_spill_50 rfl (Nat.le_of_ble_eq_true rfl) ?_
    refine gG_iinc (v := i3 + 1) dX12_spill_51 rfl rfl (Nat.le_of_ble_eq_true rfl) ?_
    refine gG_goto (tgt := 34) dX12_spill_54 (by decide) ?_
    refine gG_locals ?_ h
    exact ⟨rfl, ⟨rfl, ⟨rfl, ⟨rfl, trivial⟩⟩⟩⟩

theorem kX12_overOf_0 {d n : Nat} {H : gHp} {P : gHp → Int32 → Prop} {a0 : Nat} {i1 : Int32} (h : g_gr H (a0) 12 47 (fun q1 => g_gr H (a0) 12 49 (fun q2 => g_cvd d mX12_copies n H [.ref (q1), .int ((0 : Int32)), .ref (q2), .int ((0 : Int32))] (fun H3 => gG d mX12_overOf 0 0 (g_Xj mX12_overOf n 0 0 P) 17 n H3 [some (.ref (a0)), some (.int (i1)), some (.int ((-1 : Int32))), some (.int ((1 : Int32)))] [] (0) (0))))) : gG d mX12_overOf 0 0 (g_Xj mX12_overOf n 0 0 P) 0 n H [some (.ref (a0)), some (.int (i1)), none, none] [] 0 0 := by
  refine gG_aload_n dX12_overOf_0 rfl rfl ?_
  obtain ⟨fs, q1, e1, e2, h⟩ := h
  refine gG_gr dX12_overOf_1 fl_X12_117 ⟨fs, q1, e1, e2, ?_⟩
  refine gG_iconst (v := 0) dX12_overOf_4 (by decide) ?_
  refine gG_aload_n dX12_overOf_5 rfl rfl ?_
  obtain ⟨fs, q2, e1, e2, h⟩ := h
  refine gG_gr dX12_overOf_6 fl_X12_123 ⟨fs, q2, e1, e2, ?_⟩
  refine gG_iconst (v := 0) dX12_overOf_9 (by decide) ?_
  obtain ⟨d2, P2, hdd, hC, h⟩ := h
  refine gG_csv (As := [.ref (q1), .int ((0 : Int32)), .ref (q2), .int ((0 : Int32))]) (st := []) dX12_overOf_10 mS_X12_401 hdd rfl rfl (Nat.le_of_ble_eq_true rfl) (Nat.le_refl _) ⟨Nat.le_refl _, Nat.le_refl _⟩ hC (fun H3 hp => ?_)
  have h := h H3 hp
  refine gG_iconst (v := (-1)) dX12_overOf_13 (by decide) ?_
  refine gG_istore_n dX12_overOf_14 rfl (Nat.le_of_ble_eq_true rfl) ?_
  refine gG_iconst (v := 1) dX12_overOf_15 (by decide) ?_
  refine gG_istore_n dX12_overOf_16 rfl (Nat.le_of_ble_eq_true rfl) ?_
  refine gG_locals ?_ h
  exact ⟨rfl, ⟨rfl, ⟨rfl, ⟨rfl, trivial⟩⟩⟩⟩
theorem kX12_overOf_17 {d n : Nat} {H : gHp} {P : gHp → Int32 → Prop} {a0 : Nat} {i1 : Int32} {i2 : Int32} {i3 : Int32} (h : ((60 : Int32) < i3 → gG d mX12_overOf 0 0 (g_Xj mX12_overOf n 0 0 P) 49 n H [some (.ref (a0)), some (.int (i1)), some (.int (i2)), none] [] (0) (0)) ∧ (¬ ((60 : Int32) < i3) → (0 ≤ i2 → gG d mX12_overOf 0 0 (g_Xj mX12_overOf n 0 0 P) 49 n H [some (.ref (a0)), some (.int (i1)), some (.int (i2)), none] [] (0) (0)) ∧ (¬ (0 ≤ i2) → (∃ fs, H (a0) = .inr (12, fs)) ∧ g_ci d mX12_passesAsTold n H [.ref (a0)] (fun H1 x2 => g_gi H1 (a0) 12 56 (fun x3 => ((x3 &&& i1) = 0 → gG d mX12_overOf 0 0 (g_Xj mX12_overOf n 0 0 P) 17 n H1 [some (.ref (a0)), some (.int (i1)), some (.int (i2)), some (.int ((i3 + 1)))] [] (0) (0)) ∧ (¬ ((x3 &&& i1) = 0) → gG d mX12_overOf 0 0 (g_Xj mX12_overOf n 0 0 P) 17 n H1 [some (.ref (a0)), some (.int (i1)), some (.int (i3)), some (.int ((i3 + 1)))] [] (0) (0))))))) : gG d mX12_overOf 0 0 (g_Xj mX12_overOf n 0 0 P) 17 n H [some (.ref (a0)), some (.int (i1)), some (.int (i2)), some (.int (i3))] [] 0 0 := by
  refine gG_iload_n dX12_overOf_17 rfl rfl ?_
  refine gG_bipush (v := 60) dX12_overOf_18 (by decide) ?_
  refine gG_ic_gt (tgt := 49) dX12_overOf_20 (by decide) (fun c => ?_) (fun c => ?_)
  · have h := h.1 c
    refine gG_locals ?_ h
    exact ⟨rfl, ⟨rfl, ⟨rfl, trivial⟩⟩⟩
  · have h := h.2 c
    refine gG_iload_n dX12_overOf_23 rfl rfl ?_
    refine gG_if_ge (tgt := 49) dX12_overOf_24 (by decide) (fun c => ?_) (fun c => ?_)
    · have h := h.1 c
      refine gG_locals ?_ h
      exact ⟨rfl, ⟨rfl, ⟨rfl, trivial⟩⟩⟩
    · have h := h.2 c
      refine gG_aload_n dX12_overOf_27 rfl rfl ?_
      obtain ⟨hrc, d2, P2, hdd, hC, h⟩ := h
      refine gG_cvi (As := []) (st := []) dX12_overOf_28 mV_X12_408 hdd hrc rfl rfl (Nat.le_of_ble_eq_true rfl) (Nat.le_refl _) ⟨Nat.le_refl _, Nat.le_refl _⟩ hC (fun H1 x2 hp => ?_)
      have h := h H1 x2 hp
      refine gG_pop dX12_overOf_31 rfl ?_
      refine gG_aload_n dX12_overOf_32 rfl rfl ?_
      obtain ⟨fs, x3, e1, e2, h⟩ := h
      refine gG_gi dX12_overOf_33 fl_X12_371 ⟨fs, x3, e1, e2, ?_⟩
      refine gG_iload_n dX12_overOf_36 rfl rfl ?_
      refine gG_iand dX12_overOf_37 ?_
      refine gG_if_eq (tgt := 43) dX12_overOf_38 (by decide) (fun c => ?_) (fun c => ?_)
      · have h := h.1 c
        refine gG_iinc (v := i3 + 1) dX12_overOf_43 rfl rfl (Nat.le_of_ble_eq_true rfl) ?_
        refine gG_goto (tgt := 17) dX12_overOf_46 (by decide) ?_
        refine gG_locals ?_ h
        exact ⟨rfl, ⟨rfl, ⟨rfl, ⟨rfl, trivial⟩⟩⟩⟩
      · have h := h.2 c
        refine gG_iload_n dX12_overOf_41 rfl rfl ?_
        refine gG_istore_n dX12_overOf_42 rfl (Nat.le_of_ble_eq_true rfl) ?_
        refine gG_iinc (v := i3 + 1) dX12_overOf_43 rfl rfl (Nat.le_of_ble_eq_true rfl) ?_
        refine gG_goto (tgt := 17) dX12_overOf_46 (by decide) ?_
        refine gG_locals ?_ h
        exact ⟨rfl, ⟨rfl, ⟨rfl, ⟨rfl, trivial⟩⟩⟩⟩
theorem kX12_overOf_49 {d n : Nat} {H : gHp} {P : gHp → Int32 → Prop} {a0 : Nat} {i1 : Int32} {i2 : Int32} (h : g_gi H (a0) 12 56 (fun x1 => g_pf H (a0) 12 56 (.int ((x1 &&& i1))) (fun H2 => g_gr H2 (a0) 12 49 (fun q3 => g_gr H2 (a0) 12 47 (fun q4 => g_cvd d mX12_copies n H2 [.ref (q3), .int ((0 : Int32)), .ref (q4), .int ((0 : Int32))] (fun H5 => P H5 (i2))))))) : gG d mX12_overOf 0 0 (g_Xj mX12_overOf n 0 0 P) 49 n H [some (.ref (a0)), some (.int (i1)), some (.int (i2)), none] [] 0 0 := by
  refine gG_aload_n dX12_overOf_49 rfl rfl ?_
  refine gG_dup dX12_overOf_50 rfl ?_
  obtain ⟨fs, x1, e1, e2, h⟩ := h
  refine gG_gi dX12_overOf_51 fl_X12_371 ⟨fs, x1, e1, e2, ?_⟩
  refine gG_iload_n dX12_overOf_54 rfl rfl ?_
  refine gG_iand dX12_overOf_55 ?_
  obtain ⟨fs, e1, e2, h⟩ := h
  refine gG_pi dX12_overOf_56 fl_X12_371 ⟨fs, e1, e2, ?_⟩
  obtain ⟨H2, eH⟩ : ∃ z, z = va_up H (a0) (.inr (12, fs.set 56 (.int ((x1 &&& i1))))) := ⟨_, rfl⟩
  rw [← eH] at h ⊢
  refine gG_aload_n dX12_overOf_59 rfl rfl ?_
  obtain ⟨fs, q3, e1, e2, h⟩ := h
  refine gG_gr dX12_overOf_60 fl_X12_123 ⟨fs, q3, e1, e2, ?_⟩
  refine gG_iconst (v := 0) dX12_overOf_63 (by decide) ?_
  refine gG_aload_n dX12_overOf_64 rfl rfl ?_
  obtain ⟨fs, q4, e1, e2, h⟩ := h
  refine gG_gr dX12_overOf_65 fl_X12_117 ⟨fs, q4, e1, e2, ?_⟩
  refine gG_iconst (v := 0) dX12_overOf_68 (by decide) ?_
  obtain ⟨d2, P2, hdd, hC, h⟩ := h
  refine gG_csv (As := [.ref (q3), .int ((0 : Int32)), .ref (q4), .int ((0 : Int32))]) (st := []) dX12_overOf_69 mS_X12_401 hdd rfl rfl (Nat.le_of_ble_eq_true rfl) (Nat.le_refl _) ⟨Nat.le_refl _, Nat.le_refl _⟩ hC (fun H5 hp => ?_)
  have h := h H5 hp
  refine gG_iload_n dX12_overOf_72 rfl rfl ?_
  exact gG_exit ⟨rfl, rfl, rfl, dX12_overOf_73, _, rfl, h⟩

theorem kX12_over_0 {d n : Nat} {H : gHp} {P : gHp → Int32 → Prop} {a0 : Nat} {i1 : Int32} (h : g_pf H (a0) 12 0 (.int ((0 : Int32))) (fun H1 => (∃ fs, H1 (a0) = .inr (12, fs)) ∧ g_cz d mX12_isMouth n H1 [.ref (a0), .int (i1)] (fun H2 b3 => (b3 = false → P H2 ((-1 : Int32))) ∧ (b3 = true → (∃ fs, H2 (a0) = .inr (12, fs)) ∧ g_ci d mX12_overOf n H2 [.ref (a0), .int (((1 : Int32) <<< (i1 &&& 31)))] (fun H4 x5 => P H4 (x5)))))) : gG d mX12_over 0 0 (g_Xj mX12_over n 0 0 P) 0 n H [some (.ref (a0)), some (.int (i1))] [] 0 0 := by
  refine gG_aload_n dX12_over_0 rfl rfl ?_
  refine gG_iconst (v := 0) dX12_over_1 (by decide) ?_
  obtain ⟨fs, e1, e2, h⟩ := h
  refine gG_pi dX12_over_2 fl_X12_147 ⟨fs, e1, e2, ?_⟩
  obtain ⟨H1, eH⟩ : ∃ z, z = va_up H (a0) (.inr (12, fs.set 0 (.int ((0 : Int32))))) := ⟨_, rfl⟩
  rw [← eH] at h ⊢
  refine gG_aload_n dX12_over_5 rfl rfl ?_
  refine gG_iload_n dX12_over_6 rfl rfl ?_
  obtain ⟨hrc, d2, P2, hdd, hC, h⟩ := h
  refine gG_cvi (As := [.int (i1)]) (st := []) dX12_over_7 mV_X12_395 hdd hrc rfl rfl (Nat.le_of_ble_eq_true rfl) (Nat.le_refl _) ⟨Nat.le_refl _, Nat.le_refl _⟩ hC (fun H2 x9 hp => ?_)
  obtain ⟨b3, rfl, hp⟩ := hp
  have h := h H2 b3 hp
  refine gG_if_eq (tgt := 23) dX12_over_10 (by decide) (fun c => ?_) (fun c => ?_)
  · have h := h.1 (g_b_f c)
    refine gG_iconst (v := (-1)) dX12_over_23 (by decide) ?_
    exact gG_exit ⟨rfl, rfl, rfl, dX12_over_24, _, rfl, h⟩
  · have h := h.2 (g_b_t c)
    refine gG_aload_n dX12_over_13 rfl rfl ?_
    refine gG_iconst (v := 1) dX12_over_14 (by decide) ?_
    refine gG_iload_n dX12_over_15 rfl rfl ?_
    refine gG_ishl dX12_over_16 ?_
    obtain ⟨hrc, d2, P2, hdd, hC, h⟩ := h
    refine gG_cvi (As := [.int (((1 : Int32) <<< (i1 &&& 31)))]) (st := []) dX12_over_17 mV_X12_420 hdd hrc rfl rfl (Nat.le_of_ble_eq_true rfl) (Nat.le_refl _) ⟨Nat.le_refl _, Nat.le_refl _⟩ hC (fun H4 x5 hp => ?_)
    have h := h H4 x5 hp
    refine gG_goto (tgt := 24) dX12_over_20 (by decide) ?_
    exact gG_exit ⟨rfl, rfl, rfl, dX12_over_24, _, rfl, h⟩

theorem kX12_lowest_0 {d n : Nat} {H : gHp} {P : gHp → Int32 → Prop} {i0 : Int32} (h : gG d mX12_lowest 0 0 (g_Xj mX12_lowest n 0 0 P) 2 n H [some (.int (i0)), some (.int ((0 : Int32)))] [] (0) (0)) : gG d mX12_lowest 0 0 (g_Xj mX12_lowest n 0 0 P) 0 n H [some (.int (i0)), none] [] 0 0 := by
  refine gG_iconst (v := 0) dX12_lowest_0 (by decide) ?_
  refine gG_istore_n dX12_lowest_1 rfl (Nat.le_of_ble_eq_true rfl) ?_
  refine gG_locals ?_ h
  exact ⟨rfl, ⟨rfl, trivial⟩⟩
theorem kX12_lowest_2 {d n : Nat} {H : gHp} {P : gHp → Int32 → Prop} {i0 : Int32} {i1 : Int32} (h : ((7 : Int32) ≤ i1 → P H ((-1 : Int32))) ∧ (¬ ((7 : Int32) ≤ i1) → (¬ (((i0 >>> (i1 &&& 31)) &&& (1 : Int32)) = (1 : Int32)) → gG d mX12_lowest 0 0 (g_Xj mX12_lowest n 0 0 P) 2 n H [some (.int (i0)), some (.int ((i1 + 1)))] [] (0) (0)) ∧ (((i0 >>> (i1 &&& 31)) &&& (1 : Int32)) = (1 : Int32) → P H (i1)))) : gG d mX12_lowest 0 0 (g_Xj mX12_lowest n 0 0 P) 2 n H [some (.int (i0)), some (.int (i1))] [] 0 0 := by
  refine gG_iload_n dX12_lowest_2 rfl rfl ?_
  refine gG_bipush (v := 7) dX12_lowest_3 (by decide) ?_
  refine gG_ic_ge (tgt := 25) dX12_lowest_5 (by decide) (fun c => ?_) (fun c => ?_)
  · have h := h.1 c
    refine gG_iconst (v := (-1)) dX12_lowest_25 (by decide) ?_
    exact gG_exit ⟨rfl, rfl, rfl, dX12_lowest_26, _, rfl, h⟩
  · have h := h.2 c
    refine gG_iload_n dX12_lowest_8 rfl rfl ?_
    refine gG_iload_n dX12_lowest_9 rfl rfl ?_
    refine gG_ishr dX12_lowest_10 ?_
    refine gG_iconst (v := 1) dX12_lowest_11 (by decide) ?_
    refine gG_iand dX12_lowest_12 ?_
    refine gG_iconst (v := 1) dX12_lowest_13 (by decide) ?_
    refine gG_ic_ne (tgt := 19) dX12_lowest_14 (by decide) (fun c => ?_) (fun c => ?_)
    · have h := h.1 c
      refine gG_iinc (v := i1 + 1) dX12_lowest_19 rfl rfl (Nat.le_of_ble_eq_true rfl) ?_
      refine gG_goto (tgt := 2) dX12_lowest_22 (by decide) ?_
      refine gG_locals ?_ h
      exact ⟨rfl, ⟨rfl, trivial⟩⟩
    · have h := h.2 c
      refine gG_iload_n dX12_lowest_17 rfl rfl ?_
      exact gG_exit ⟨rfl, rfl, rfl, dX12_lowest_18, _, rfl, h⟩

theorem kX12_first_0 {d n : Nat} {H : gHp} {P : gHp → Int32 → Prop} {a0 : Nat} (h : g_pf H (a0) 12 0 (.int ((0 : Int32))) (fun H1 => (∃ fs, H1 (a0) = .inr (12, fs)) ∧ g_ci d mX12_every n H1 [.ref (a0)] (fun H2 x3 => (∃ fs, H2 (a0) = .inr (12, fs)) ∧ g_ci d mX12_overOf n H2 [.ref (a0), .int (x3)] (fun H4 x5 => (0 ≤ x5 → g_gi H4 (a0) 12 56 (fun x6 => g_ci d mX12_lowest n H4 [.int (x6)] (fun H7 x8 => P H7 (x8)))) ∧ (¬ (0 ≤ x5) → P H4 ((-1 : Int32))))))) : gG d mX12_first 0 0 (g_Xj mX12_first n 0 0 P) 0 n H [some (.ref (a0))] [] 0 0 := by
  refine gG_aload_n dX12_first_0 rfl rfl ?_
  refine gG_iconst (v := 0) dX12_first_1 (by decide) ?_
  obtain ⟨fs, e1, e2, h⟩ := h
  refine gG_pi dX12_first_2 fl_X12_147 ⟨fs, e1, e2, ?_⟩
  obtain ⟨H1, eH⟩ : ∃ z, z = va_up H (a0) (.inr (12, fs.set 0 (.int ((0 : Int32))))) := ⟨_, rfl⟩
  rw [← eH] at h ⊢
  refine gG_aload_n dX12_first_5 rfl rfl ?_
  refine gG_aload_n dX12_first_6 rfl rfl ?_
  obtain ⟨hrc, d2, P2, hdd, hC, h⟩ := h
  refine gG_cvi (As := []) (st := [.ref (a0)]) dX12_first_7 mV_X12_423 hdd hrc rfl rfl (Nat.le_of_ble_eq_true rfl) (Nat.le_refl _) ⟨Nat.le_refl _, Nat.le_refl _⟩ hC (fun H2 x3 hp => ?_)
  have h := h H2 x3 hp
  obtain ⟨hrc, d2, P2, hdd, hC, h⟩ := h
  refine gG_cvi (As := [.int (x3)]) (st := []) dX12_first_10 mV_X12_420 hdd hrc rfl rfl (Nat.le_of_ble_eq_true rfl) (Nat.le_refl _) ⟨Nat.le_refl _, Nat.le_refl _⟩ hC (fun H4 x5 hp => ?_)
  have h := h H4 x5 hp
  refine gG_if_ge (tgt := 20) dX12_first_13 (by decide) (fun c => ?_) (fun c => ?_)
  · have h := h.1 c
    refine gG_aload_n dX12_first_20 rfl rfl ?_
    obtain ⟨fs, x6, e1, e2, h⟩ := h
    refine gG_gi dX12_first_21 fl_X12_371 ⟨fs, x6, e1, e2, ?_⟩
    obtain ⟨d2, P2, hdd, hC, h⟩ := h
    refine gG_csi (As := [.int (x6)]) (st := []) dX12_first_24 mS_X12_426 hdd rfl rfl (Nat.le_of_ble_eq_true rfl) (Nat.le_refl _) ⟨Nat.le_refl _, Nat.le_refl _⟩ hC (fun H7 x8 hp => ?_)
    have h := h H7 x8 hp
    exact gG_exit ⟨rfl, rfl, rfl, dX12_first_27, _, rfl, h⟩
  · have h := h.2 c
    refine gG_iconst (v := (-1)) dX12_first_16 (by decide) ?_
    refine gG_goto (tgt := 27) dX12_first_17 (by decide) ?_
    exact gG_exit ⟨rfl, rfl, rfl, dX12_first_27, _, rfl, h⟩

theorem kX12_great_0 {d n : Nat} {H : gHp} {P : gHp → Int32 → Prop} {a0 : Nat} {i1 : Int32} (h : g_pf H (a0) 12 0 (.int ((0 : Int32))) (fun H1 => g_cz d mX12_within n H1 [.int (i1), .int ((1 : Int32)), .int ((60 : Int32))] (fun H2 b3 => (b3 = true → g_gr H2 (a0) 12 47 (fun q4 => g_gr H2 (a0) 12 49 (fun q5 => g_cvd d mX12_copies n H2 [.ref (q4), .int ((0 : Int32)), .ref (q5), .int ((0 : Int32))] (fun H6 => gG d mX12_great 0 0 (g_Xj mX12_great n 0 0 P) 32 n H6 [some (.ref (a0)), some (.int (i1)), some (.int ((0 : Int32))), none] [] (0) (0))))) ∧ (b3 = false → P H2 ((-1 : Int32)))))) : gG d mX12_great 0 0 (g_Xj mX12_great n 0 0 P) 0 n H [some (.ref (a0)), some (.int (i1)), none, none] [] 0 0 := by
  refine gG_aload_n dX12_great_0 rfl rfl ?_
  refine gG_iconst (v := 0) dX12_great_1 (by decide) ?_
  obtain ⟨fs, e1, e2, h⟩ := h
  refine gG_pi dX12_great_2 fl_X12_147 ⟨fs, e1, e2, ?_⟩
  obtain ⟨H1, eH⟩ : ∃ z, z = va_up H (a0) (.inr (12, fs.set 0 (.int ((0 : Int32))))) := ⟨_, rfl⟩
  rw [← eH] at h ⊢
  refine gG_iload_n dX12_great_5 rfl rfl ?_
  refine gG_iconst (v := 1) dX12_great_6 (by decide) ?_
  refine gG_bipush (v := 60) dX12_great_7 (by decide) ?_
  obtain ⟨d2, P2, hdd, hC, h⟩ := h
  refine gG_csi (As := [.int (i1), .int ((1 : Int32)), .int ((60 : Int32))]) (st := []) dX12_great_9 mS_X12_268 hdd rfl rfl (Nat.le_of_ble_eq_true rfl) (Nat.le_refl _) ⟨Nat.le_refl _, Nat.le_refl _⟩ hC (fun H2 x9 hp => ?_)
  obtain ⟨b3, rfl, hp⟩ := hp
  have h := h H2 b3 hp
  refine gG_if_ne (tgt := 17) dX12_great_12 (by decide) (fun c => ?_) (fun c => ?_)
  · have h := h.1 (g_b_t c)
    refine gG_aload_n dX12_great_17 rfl rfl ?_
    obtain ⟨fs, q4, e1, e2, h⟩ := h
    refine gG_gr dX12_great_18 fl_X12_117 ⟨fs, q4, e1, e2, ?_⟩
    refine gG_iconst (v := 0) dX12_great_21 (by decide) ?_
    refine gG_aload_n dX12_great_22 rfl rfl ?_
    obtain ⟨fs, q5, e1, e2, h⟩ := h
    refine gG_gr dX12_great_23 fl_X12_123 ⟨fs, q5, e1, e2, ?_⟩
    refine gG_iconst (v := 0) dX12_great_26 (by decide) ?_
    obtain ⟨d2, P2, hdd, hC, h⟩ := h
    refine gG_csv (As := [.ref (q4), .int ((0 : Int32)), .ref (q5), .int ((0 : Int32))]) (st := []) dX12_great_27 mS_X12_401 hdd rfl rfl (Nat.le_of_ble_eq_true rfl) (Nat.le_refl _) ⟨Nat.le_refl _, Nat.le_refl _⟩ hC (fun H6 hp => ?_)
    have h := h H6 hp
    refine gG_iconst (v := 0) dX12_great_30 (by decide) ?_
    refine gG_istore_n dX12_great_31 rfl (Nat.le_of_ble_eq_true rfl) ?_
    refine gG_locals ?_ h
    exact ⟨rfl, ⟨rfl, ⟨rfl, trivial⟩⟩⟩
  · have h := h.2 (g_b_f c)
    refine gG_iconst (v := (-1)) dX12_great_15 (by decide) ?_
    exact gG_exit ⟨rfl, rfl, rfl, dX12_great_16, _, rfl, h⟩
theorem kX12_great_32 {d n : Nat} {H : gHp} {P : gHp → Int32 → Prop} {a0 : Nat} {i1 : Int32} {i2 : Int32} (h : ((7 : Int32) ≤ i2 → gG d mX12_great 0 0 (g_Xj mX12_great n 0 0 P) 53 n H [some (.ref (a0)), some (.int (i1)), some (.int ((0 : Int32))), none] [] (0) (0)) ∧ (¬ ((7 : Int32) ≤ i2) → g_gr H (a0) 12 57 (fun q1 => g_as 0 H (q1) (i2) ((0 : Int32)) (fun H2 => gG d mX12_great 0 0 (g_Xj mX12_great n 0 0 P) 32 n H2 [some (.ref (a0)), some (.int (i1)), some (.int ((i2 + 1))), none] [] (0) (0))))) : gG d mX12_great 0 0 (g_Xj mX12_great n 0 0 P) 32 n H [some (.ref (a0)), some (.int (i1)), some (.int (i2)), none] [] 0 0 := by
  refine gG_iload_n dX12_great_32 rfl rfl ?_
  refine gG_bipush (v := 7) dX12_great_33 (by decide) ?_
  refine gG_ic_ge (tgt := 51) dX12_great_35 (by decide) (fun c => ?_) (fun c => ?_)
  · have h := h.1 c
    refine gG_iconst (v := 0) dX12_great_51 (by decide) ?_
    refine gG_istore_n dX12_great_52 rfl (Nat.le_of_ble_eq_true rfl) ?_
    refine gG_locals ?_ h
    exact ⟨rfl, ⟨rfl, ⟨rfl, trivial⟩⟩⟩
  · have h := h.2 c
    refine gG_aload_n dX12_great_38 rfl rfl ?_
    obtain ⟨fs, q1, e1, e2, h⟩ := h
    refine gG_gr dX12_great_39 fl_X12_138 ⟨fs, q1, e1, e2, ?_⟩
    refine gG_iload_n dX12_great_42 rfl rfl ?_
    refine gG_iconst (v := 0) dX12_great_43 (by decide) ?_
    obtain ⟨m0, f0, e1, e2, h⟩ := h
    refine gG_iast dX12_great_44 ⟨m0, f0, e1, e2, ?_⟩
    obtain ⟨H2, eH⟩ : ∃ z, z = va_up H (q1) (.inl (0, m0, .inl (upd f0 (Int32.toNatClampNeg (i2)) ((0 : Int32))))) := ⟨_, rfl⟩
    rw [← eH] at h ⊢
    refine gG_iinc (v := i2 + 1) dX12_great_45 rfl rfl (Nat.le_of_ble_eq_true rfl) ?_
    refine gG_goto (tgt := 32) dX12_great_48 (by decide) ?_
    refine gG_locals ?_ h
    exact ⟨rfl, ⟨rfl, ⟨rfl, trivial⟩⟩⟩
theorem kX12_great_53 {d n : Nat} {H : gHp} {P : gHp → Int32 → Prop} {a0 : Nat} {i1 : Int32} {i2 : Int32} (h : (i1 ≤ i2 → g_gr H (a0) 12 49 (fun q1 => g_gr H (a0) 12 47 (fun q2 => g_cvd d mX12_copies n H [.ref (q1), .int ((0 : Int32)), .ref (q2), .int ((0 : Int32))] (fun H3 => gG d mX12_great 0 0 (g_Xj mX12_great n 0 0 P) 122 n H3 [some (.ref (a0)), none, some (.int ((-1 : Int32))), some (.int ((0 : Int32)))] [] (0) (0))))) ∧ (¬ (i1 ≤ i2) → (∃ fs, H (a0) = .inr (12, fs)) ∧ g_ci d mX12_passesAsTold n H [.ref (a0)] (fun H4 x5 => gG d mX12_great 0 0 (g_Xj mX12_great n 0 0 P) 65 n H4 [some (.ref (a0)), some (.int (i1)), some (.int (i2)), some (.int ((0 : Int32)))] [] (0) (0)))) : gG d mX12_great 0 0 (g_Xj mX12_great n 0 0 P) 53 n H [some (.ref (a0)), some (.int (i1)), some (.int (i2)), none] [] 0 0 := by
  refine gG_iload_n dX12_great_53 rfl rfl ?_
  refine gG_iload_n dX12_great_54 rfl rfl ?_
  refine gG_ic_ge (tgt := 105) dX12_great_55 (by decide) (fun c => ?_) (fun c => ?_)
  · have h := h.1 c
    refine gG_aload_n dX12_great_105 rfl rfl ?_
    obtain ⟨fs, q1, e1, e2, h⟩ := h
    refine gG_gr dX12_great_106 fl_X12_123 ⟨fs, q1, e1, e2, ?_⟩
    refine gG_iconst (v := 0) dX12_great_109 (by decide) ?_
    refine gG_aload_n dX12_great_110 rfl rfl ?_
    obtain ⟨fs, q2, e1, e2, h⟩ := h
    refine gG_gr dX12_great_111 fl_X12_117 ⟨fs, q2, e1, e2, ?_⟩
    refine gG_iconst (v := 0) dX12_great_114 (by decide) ?_
    obtain ⟨d2, P2, hdd, hC, h⟩ := h
    refine gG_csv (As := [.ref (q1), .int ((0 : Int32)), .ref (q2), .int ((0 : Int32))]) (st := []) dX12_great_115 mS_X12_401 hdd rfl rfl (Nat.le_of_ble_eq_true rfl) (Nat.le_refl _) ⟨Nat.le_refl _, Nat.le_refl _⟩ hC (fun H3 hp => ?_)
    have h := h H3 hp
    refine gG_iconst (v := (-1)) dX12_great_118 (by decide) ?_
    refine gG_istore_n dX12_great_119 rfl (Nat.le_of_ble_eq_true rfl) ?_
    refine gG_iconst (v := 0) dX12_great_120 (by decide) ?_
    refine gG_istore_n dX12_great_121 rfl (Nat.le_of_ble_eq_true rfl) ?_
    refine gG_locals ?_ h
    exact ⟨rfl, ⟨rfl, ⟨rfl, trivial⟩⟩⟩
  · have h := h.2 c
    refine gG_aload_n dX12_great_58 rfl rfl ?_
    obtain ⟨hrc, d2, P2, hdd, hC, h⟩ := h
    refine gG_cvi (As := []) (st := []) dX12_great_59 mV_X12_408 hdd hrc rfl rfl (Nat.le_of_ble_eq_true rfl) (Nat.le_refl _) ⟨Nat.le_refl _, Nat.le_refl _⟩ hC (fun H4 x5 hp => ?_)
    have h := h H4 x5 hp
    refine gG_pop dX12_great_62 rfl ?_
    refine gG_iconst (v := 0) dX12_great_63 (by decide) ?_
    refine gG_istore_n dX12_great_64 rfl (Nat.le_of_ble_eq_true rfl) ?_
    refine gG_locals ?_ h
    exact ⟨rfl, ⟨rfl, ⟨rfl, ⟨rfl, trivial⟩⟩⟩⟩
theorem kX12_great_65 {d n : Nat} {H : gHp} {P : gHp → Int32 → Prop} {a0 : Nat} {i1 : Int32} {i2 : Int32} {i3 : Int32} (h : g_gr H (a0) 12 10 (fun q1 => g_al 0 H (q1) ((0 : Int32)) (fun x2 => (x2 ≤ i3 → gG d mX12_great 0 0 (g_Xj mX12_great n 0 0 P) 53 n H [some (.ref (a0)), some (.int (i1)), some (.int ((i2 + 1))), none] [] (0) (0)) ∧ (¬ (x2 ≤ i3) → g_gr H (a0) 12 57 (fun q3 => g_al 0 H (q3) (i3) (fun x4 => g_gr H (a0) 12 47 (fun q5 => g_al 0 H (q5) (((12 : Int32) + i3)) (fun x6 => g_as 0 H (q3) (i3) ((x4 + x6)) (fun H7 => gG d mX12_great 0 0 (g_Xj mX12_great n 0 0 P) 65 n H7 [some (.ref (a0)), some (.int (i1)), some (.int (i2)), some (.int ((i3 + 1)))] [] (0) (0)))))))))) : gG d mX12_great 0 0 (g_Xj mX12_great n 0 0 P) 65 n H [some (.ref (a0)), some (.int (i1)), some (.int (i2)), some (.int (i3))] [] 0 0 := by
  refine gG_iload_n dX12_great_65 rfl rfl ?_
  refine gG_aload_n dX12_great_66 rfl rfl ?_
  obtain ⟨fs, q1, e1, e2, h⟩ := h
  refine gG_gr dX12_great_67 fl_X12_13 ⟨fs, q1, e1, e2, ?_⟩
  refine gG_iconst (v := 0) dX12_great_70 (by decide) ?_
  obtain ⟨m0, f0, e1, e2, h⟩ := h
  refine gG_iald dX12_great_71 ⟨m0, f0, e1, e2, ?_⟩
  obtain ⟨x2, eH⟩ : ∃ z, z = f0 (Int32.toNatClampNeg ((0 : Int32))) := ⟨_, rfl⟩
  rw [← eH] at h ⊢
  refine gG_ic_ge (tgt := 99) dX12_great_72 (by decide) (fun c => ?_) (fun c => ?_)
  · have h := h.1 c
    refine gG_iinc (v := i2 + 1) dX12_great_99 rfl rfl (Nat.le_of_ble_eq_true rfl) ?_
    refine gG_goto (tgt := 53) dX12_great_102 (by decide) ?_
    refine gG_locals ?_ h
    exact ⟨rfl, ⟨rfl, ⟨rfl, trivial⟩⟩⟩
  · have h := h.2 c
    refine gG_aload_n dX12_great_75 rfl rfl ?_
    obtain ⟨fs, q3, e1, e2, h⟩ := h
    refine gG_gr dX12_great_76 fl_X12_138 ⟨fs, q3, e1, e2, ?_⟩
    refine gG_iload_n dX12_great_79 rfl rfl ?_
    refine gG_dup2 dX12_great_80 rfl rfl ?_
    obtain ⟨m0, f0, e1, e2, h⟩ := h
    refine gG_iald dX12_great_81 ⟨m0, f0, e1, e2, ?_⟩
    obtain ⟨x4, eH⟩ : ∃ z, z = f0 (Int32.toNatClampNeg (i3)) := ⟨_, rfl⟩
    rw [← eH] at h ⊢
    refine gG_aload_n dX12_great_82 rfl rfl ?_
    obtain ⟨fs, q5, e1, e2, h⟩ := h
    refine gG_gr dX12_great_83 fl_X12_117 ⟨fs, q5, e1, e2, ?_⟩
    refine gG_bipush (v := 12) dX12_great_86 (by decide) ?_
    refine gG_iload_n dX12_great_88 rfl rfl ?_
    refine gG_iadd dX12_great_89 ?_
    obtain ⟨m0, f0, e1, e2, h⟩ := h
    refine gG_iald dX12_great_90 ⟨m0, f0, e1, e2, ?_⟩
    obtain ⟨x6, eH⟩ : ∃ z, z = f0 (Int32.toNatClampNeg (((12 : Int32) + i3))) := ⟨_, rfl⟩
    rw [← eH] at h ⊢
    refine gG_iadd dX12_great_91 ?_
    obtain ⟨m0, f0, e1, e2, h⟩ := h
    refine gG_iast dX12_great_92 ⟨m0, f0, e1, e2, ?_⟩
    obtain ⟨H7, eH⟩ : ∃ z, z = va_up H (q3) (.inl (0, m0, .inl (upd f0 (Int32.toNatClampNeg (i3)) ((x4 + x6))))) := ⟨_, rfl⟩
    rw [← eH] at h ⊢
    refine gG_iinc (v := i3 + 1) dX12_great_93 rfl rfl (Nat.le_of_ble_eq_true rfl) ?_
    refine gG_goto (tgt := 65) dX12_great_96 (by decide) ?_
    refine gG_locals ?_ h
    exact ⟨rfl, ⟨rfl, ⟨rfl, ⟨rfl, trivial⟩⟩⟩⟩
theorem kX12_great_122 {d n : Nat} {H : gHp} {P : gHp → Int32 → Prop} {a0 : Nat} {i2 : Int32} {i3 : Int32} (h : g_gr H (a0) 12 10 (fun q1 => g_al 0 H (q1) ((0 : Int32)) (fun x2 => (x2 ≤ i3 → P H (i2)) ∧ (¬ (x2 ≤ i3) → (i2 < 0 → gG d mX12_great 0 0 (g_Xj mX12_great n 0 0 P) 122 n H [some (.ref (a0)), none, some (.int (i3)), some (.int ((i3 + 1)))] [] (0) (0)) ∧ (¬ (i2 < 0) → g_gr H (a0) 12 57 (fun q3 => g_al 0 H (q3) (i3) (fun x4 => g_gr H (a0) 12 57 (fun q5 => g_al 0 H (q5) (i2) (fun x6 => (x4 ≤ x6 → gG d mX12_great 0 0 (g_Xj mX12_great n 0 0 P) 122 n H [some (.ref (a0)), none, some (.int (i2)), some (.int ((i3 + 1)))] [] (0) (0)) ∧ (¬ (x4 ≤ x6) → gG d mX12_great 0 0 (g_Xj mX12_great n 0 0 P) 122 n H [some (.ref (a0)), none, some (.int (i3)), some (.int ((i3 + 1)))] [] (0) (0))))))))))) : gG d mX12_great 0 0 (g_Xj mX12_great n 0 0 P) 122 n H [some (.ref (a0)), none, some (.int (i2)), some (.int (i3))] [] 0 0 := by
  refine gG_iload_n dX12_great_122 rfl rfl ?_
  refine gG_aload_n dX12_great_123 rfl rfl ?_
  obtain ⟨fs, q1, e1, e2, h⟩ := h
  refine gG_gr dX12_great_124 fl_X12_13 ⟨fs, q1, e1, e2, ?_⟩
  refine gG_iconst (v := 0) dX12_great_127 (by decide) ?_
  obtain ⟨m0, f0, e1, e2, h⟩ := h
  refine gG_iald dX12_great_128 ⟨m0, f0, e1, e2, ?_⟩
  obtain ⟨x2, eH⟩ : ∃ z, z = f0 (Int32.toNatClampNeg ((0 : Int32))) := ⟨_, rfl⟩
  rw [← eH] at h ⊢
  refine gG_ic_ge (tgt := 159) dX12_great_129 (by decide) (fun c => ?_) (fun c => ?_)
  · have h := h.1 c
    refine gG_iload_n dX12_great_159 rfl rfl ?_
    exact gG_exit ⟨rfl, rfl, rfl, dX12_great_160, _, rfl, h⟩
  · have h := h.2 c
    refine gG_iload_n dX12_great_132 rfl rfl ?_
    refine gG_if_lt (tgt := 151) dX12_great_133 (by decide) (fun c => ?_) (fun c => ?_)
    · have h := h.1 c
      refine gG_iload_n dX12_great_151 rfl rfl ?_
      refine gG_istore_n dX12_great_152 rfl (Nat.le_of_ble_eq_true rfl) ?_
      refine gG_iinc (v := i3 + 1) dX12_great_153 rfl rfl (Nat.le_of_ble_eq_true rfl) ?_
      refine gG_goto (tgt := 122) dX12_great_156 (by decide) ?_
      refine gG_locals ?_ h
      exact ⟨rfl, ⟨rfl, ⟨rfl, trivial⟩⟩⟩
    · have h := h.2 c
      refine gG_aload_n dX12_great_136 rfl rfl ?_
      obtain ⟨fs, q3, e1, e2, h⟩ := h
      refine gG_gr dX12_great_137 fl_X12_138 ⟨fs, q3, e1, e2, ?_⟩
      refine gG_iload_n dX12_great_140 rfl rfl ?_
      obtain ⟨m0, f0, e1, e2, h⟩ := h
      refine gG_iald dX12_great_141 ⟨m0, f0, e1, e2, ?_⟩
      obtain ⟨x4, eH⟩ : ∃ z, z = f0 (Int32.toNatClampNeg (i3)) := ⟨_, rfl⟩
      rw [← eH] at h ⊢
      refine gG_aload_n dX12_great_142 rfl rfl ?_
      obtain ⟨fs, q5, e1, e2, h⟩ := h
      refine gG_gr dX12_great_143 fl_X12_138 ⟨fs, q5, e1, e2, ?_⟩
      refine gG_iload_n dX12_great_146 rfl rfl ?_
      obtain ⟨m0, f0, e1, e2, h⟩ := h
      refine gG_iald dX12_great_147 ⟨m0, f0, e1, e2, ?_⟩
      obtain ⟨x6, eH⟩ : ∃ z, z = f0 (Int32.toNatClampNeg (i2)) := ⟨_, rfl⟩
      rw [← eH] at h ⊢
      refine gG_ic_le (tgt := 153) dX12_great_148 (by decide) (fun c => ?_) (fun c => ?_)
      · have h := h.1 c
        refine gG_iinc (v := i3 + 1) dX12_great_153 rfl rfl (Nat.le_of_ble_eq_true rfl) ?_
        refine gG_goto (tgt := 122) dX12_great_156 (by decide) ?_
        refine gG_locals ?_ h
        exact ⟨rfl, ⟨rfl, ⟨rfl, trivial⟩⟩⟩
      · have h := h.2 c
        refine gG_iload_n dX12_great_151 rfl rfl ?_
        refine gG_istore_n dX12_great_152 rfl (Nat.le_of_ble_eq_true rfl) ?_
        refine gG_iinc (v := i3 + 1) dX12_great_153 rfl rfl (Nat.le_of_ble_eq_true rfl) ?_
        refine gG_goto (tgt := 122) dX12_great_156 (by decide) ?_
        refine gG_locals ?_ h
        exact ⟨rfl, ⟨rfl, ⟨rfl, trivial⟩⟩⟩

theorem kX12_twins_0 {d n : Nat} {H : gHp} {P : gHp → Int32 → Prop} {a0 : Nat} {i1 : Int32} (h : g_pf H (a0) 12 0 (.int ((0 : Int32))) (fun H1 => g_cz d mX12_within n H1 [.int (i1), .int ((1 : Int32)), .int ((60 : Int32))] (fun H2 b3 => (b3 = true → g_gr H2 (a0) 12 47 (fun q4 => g_gr H2 (a0) 12 49 (fun q5 => g_cvd d mX12_copies n H2 [.ref (q4), .int ((0 : Int32)), .ref (q5), .int ((0 : Int32))] (fun H6 => gG d mX12_twins 0 0 (g_Xj mX12_twins n 0 0 P) 32 n H6 [some (.ref (a0)), some (.int (i1)), some (.int ((0 : Int32))), none, none] [] (0) (0))))) ∧ (b3 = false → P H2 ((-1 : Int32)))))) : gG d mX12_twins 0 0 (g_Xj mX12_twins n 0 0 P) 0 n H [some (.ref (a0)), some (.int (i1)), none, none, none] [] 0 0 := by
  refine gG_aload_n dX12_twins_0 rfl rfl ?_
  refine gG_iconst (v := 0) dX12_twins_1 (by decide) ?_
  obtain ⟨fs, e1, e2, h⟩ := h
  refine gG_pi dX12_twins_2 fl_X12_147 ⟨fs, e1, e2, ?_⟩
  obtain ⟨H1, eH⟩ : ∃ z, z = va_up H (a0) (.inr (12, fs.set 0 (.int ((0 : Int32))))) := ⟨_, rfl⟩
  rw [← eH] at h ⊢
  refine gG_iload_n dX12_twins_5 rfl rfl ?_
  refine gG_iconst (v := 1) dX12_twins_6 (by decide) ?_
  refine gG_bipush (v := 60) dX12_twins_7 (by decide) ?_
  obtain ⟨d2, P2, hdd, hC, h⟩ := h
  refine gG_csi (As := [.int (i1), .int ((1 : Int32)), .int ((60 : Int32))]) (st := []) dX12_twins_9 mS_X12_268 hdd rfl rfl (Nat.le_of_ble_eq_true rfl) (Nat.le_refl _) ⟨Nat.le_refl _, Nat.le_refl _⟩ hC (fun H2 x9 hp => ?_)
  obtain ⟨b3, rfl, hp⟩ := hp
  have h := h H2 b3 hp
  refine gG_if_ne (tgt := 17) dX12_twins_12 (by decide) (fun c => ?_) (fun c => ?_)
  · have h := h.1 (g_b_t c)
    refine gG_aload_n dX12_twins_17 rfl rfl ?_
    obtain ⟨fs, q4, e1, e2, h⟩ := h
    refine gG_gr dX12_twins_18 fl_X12_117 ⟨fs, q4, e1, e2, ?_⟩
    refine gG_iconst (v := 0) dX12_twins_21 (by decide) ?_
    refine gG_aload_n dX12_twins_22 rfl rfl ?_
    obtain ⟨fs, q5, e1, e2, h⟩ := h
    refine gG_gr dX12_twins_23 fl_X12_123 ⟨fs, q5, e1, e2, ?_⟩
    refine gG_iconst (v := 0) dX12_twins_26 (by decide) ?_
    obtain ⟨d2, P2, hdd, hC, h⟩ := h
    refine gG_csv (As := [.ref (q4), .int ((0 : Int32)), .ref (q5), .int ((0 : Int32))]) (st := []) dX12_twins_27 mS_X12_401 hdd rfl rfl (Nat.le_of_ble_eq_true rfl) (Nat.le_refl _) ⟨Nat.le_refl _, Nat.le_refl _⟩ hC (fun H6 hp => ?_)
    have h := h H6 hp
    refine gG_iconst (v := 0) dX12_twins_30 (by decide) ?_
    refine gG_istore_n dX12_twins_31 rfl (Nat.le_of_ble_eq_true rfl) ?_
    refine gG_locals ?_ h
    exact ⟨rfl, ⟨rfl, ⟨rfl, trivial⟩⟩⟩
  · have h := h.2 (g_b_f c)
    refine gG_iconst (v := (-1)) dX12_twins_15 (by decide) ?_
    exact gG_exit ⟨rfl, rfl, rfl, dX12_twins_16, _, rfl, h⟩
theorem kX12_twins_32 {d n : Nat} {H : gHp} {P : gHp → Int32 → Prop} {a0 : Nat} {i1 : Int32} {i2 : Int32} (h : ((7 : Int32) ≤ i2 → gG d mX12_twins 0 0 (g_Xj mX12_twins n 0 0 P) 53 n H [some (.ref (a0)), some (.int (i1)), some (.int ((0 : Int32))), none, none] [] (0) (0)) ∧ (¬ ((7 : Int32) ≤ i2) → g_gr H (a0) 12 57 (fun q1 => g_as 0 H (q1) (i2) ((0 : Int32)) (fun H2 => gG d mX12_twins 0 0 (g_Xj mX12_twins n 0 0 P) 32 n H2 [some (.ref (a0)), some (.int (i1)), some (.int ((i2 + 1))), none, none] [] (0) (0))))) : gG d mX12_twins 0 0 (g_Xj mX12_twins n 0 0 P) 32 n H [some (.ref (a0)), some (.int (i1)), some (.int (i2)), none, none] [] 0 0 := by
  refine gG_iload_n dX12_twins_32 rfl rfl ?_
  refine gG_bipush (v := 7) dX12_twins_33 (by decide) ?_
  refine gG_ic_ge (tgt := 51) dX12_twins_35 (by decide) (fun c => ?_) (fun c => ?_)
  · have h := h.1 c
    refine gG_iconst (v := 0) dX12_twins_51 (by decide) ?_
    refine gG_istore_n dX12_twins_52 rfl (Nat.le_of_ble_eq_true rfl) ?_
    refine gG_locals ?_ h
    exact ⟨rfl, ⟨rfl, ⟨rfl, trivial⟩⟩⟩
  · have h := h.2 c
    refine gG_aload_n dX12_twins_38 rfl rfl ?_
    obtain ⟨fs, q1, e1, e2, h⟩ := h
    refine gG_gr dX12_twins_39 fl_X12_138 ⟨fs, q1, e1, e2, ?_⟩
    refine gG_iload_n dX12_twins_42 rfl rfl ?_
    refine gG_iconst (v := 0) dX12_twins_43 (by decide) ?_
    obtain ⟨m0, f0, e1, e2, h⟩ := h
    refine gG_iast dX12_twins_44 ⟨m0, f0, e1, e2, ?_⟩
    obtain ⟨H2, eH⟩ : ∃ z, z = va_up H (q1) (.inl (0, m0, .inl (upd f0 (Int32.toNatClampNeg (i2)) ((0 : Int32))))) := ⟨_, rfl⟩
    rw [← eH] at h ⊢
    refine gG_iinc (v := i2 + 1) dX12_twins_45 rfl rfl (Nat.le_of_ble_eq_true rfl) ?_
    refine gG_goto (tgt := 32) dX12_twins_48 (by decide) ?_
    refine gG_locals ?_ h
    exact ⟨rfl, ⟨rfl, ⟨rfl, trivial⟩⟩⟩
theorem kX12_twins_53 {d n : Nat} {H : gHp} {P : gHp → Int32 → Prop} {a0 : Nat} {i1 : Int32} {i2 : Int32} (h : (i1 ≤ i2 → g_gr H (a0) 12 49 (fun q1 => g_gr H (a0) 12 47 (fun q2 => g_cvd d mX12_copies n H [.ref (q1), .int ((0 : Int32)), .ref (q2), .int ((0 : Int32))] (fun H3 => gG d mX12_twins 0 0 (g_Xj mX12_twins n 0 0 P) 158 n H3 [some (.ref (a0)), none, some (.int ((0 : Int32))), some (.int ((0 : Int32))), none] [] (0) (0))))) ∧ (¬ (i1 ≤ i2) → (∃ fs, H (a0) = .inr (12, fs)) ∧ g_ci d mX12_passesAsTold n H [.ref (a0)] (fun H4 x5 => gG d mX12_twins 0 0 (g_Xj mX12_twins n 0 0 P) 65 n H4 [some (.ref (a0)), some (.int (i1)), some (.int (i2)), some (.int ((0 : Int32))), none] [] (0) (0)))) : gG d mX12_twins 0 0 (g_Xj mX12_twins n 0 0 P) 53 n H [some (.ref (a0)), some (.int (i1)), some (.int (i2)), none, none] [] 0 0 := by
  refine gG_iload_n dX12_twins_53 rfl rfl ?_
  refine gG_iload_n dX12_twins_54 rfl rfl ?_
  refine gG_ic_ge (tgt := 141) dX12_twins_55 (by decide) (fun c => ?_) (fun c => ?_)
  · have h := h.1 c
    refine gG_aload_n dX12_twins_141 rfl rfl ?_
    obtain ⟨fs, q1, e1, e2, h⟩ := h
    refine gG_gr dX12_twins_142 fl_X12_123 ⟨fs, q1, e1, e2, ?_⟩
    refine gG_iconst (v := 0) dX12_twins_145 (by decide) ?_
    refine gG_aload_n dX12_twins_146 rfl rfl ?_
    obtain ⟨fs, q2, e1, e2, h⟩ := h
    refine gG_gr dX12_twins_147 fl_X12_117 ⟨fs, q2, e1, e2, ?_⟩
    refine gG_iconst (v := 0) dX12_twins_150 (by decide) ?_
    obtain ⟨d2, P2, hdd, hC, h⟩ := h
    refine gG_csv (As := [.ref (q1), .int ((0 : Int32)), .ref (q2), .int ((0 : Int32))]) (st := []) dX12_twins_151 mS_X12_401 hdd rfl rfl (Nat.le_of_ble_eq_true rfl) (Nat.le_refl _) ⟨Nat.le_refl _, Nat.le_refl _⟩ hC (fun H3 hp => ?_)
    have h := h H3 hp
    refine gG_iconst (v := 0) dX12_twins_154 (by decide) ?_
    refine gG_istore_n dX12_twins_155 rfl (Nat.le_of_ble_eq_true rfl) ?_
    refine gG_iconst (v := 0) dX12_twins_156 (by decide) ?_
    refine gG_istore_n dX12_twins_157 rfl (Nat.le_of_ble_eq_true rfl) ?_
    refine gG_locals ?_ h
    exact ⟨rfl, ⟨rfl, ⟨rfl, trivial⟩⟩⟩
  · have h := h.2 c
    refine gG_aload_n dX12_twins_58 rfl rfl ?_
    obtain ⟨hrc, d2, P2, hdd, hC, h⟩ := h
    refine gG_cvi (As := []) (st := []) dX12_twins_59 mV_X12_408 hdd hrc rfl rfl (Nat.le_of_ble_eq_true rfl) (Nat.le_refl _) ⟨Nat.le_refl _, Nat.le_refl _⟩ hC (fun H4 x5 hp => ?_)
    have h := h H4 x5 hp
    refine gG_pop dX12_twins_62 rfl ?_
    refine gG_iconst (v := 0) dX12_twins_63 (by decide) ?_
    refine gG_istore_n dX12_twins_64 rfl (Nat.le_of_ble_eq_true rfl) ?_
    refine gG_locals ?_ h
    exact ⟨rfl, ⟨rfl, ⟨rfl, ⟨rfl, trivial⟩⟩⟩⟩
theorem kX12_twins_65 {d n : Nat} {H : gHp} {P : gHp → Int32 → Prop} {a0 : Nat} {i1 : Int32} {i2 : Int32} {i3 : Int32} (h : g_gr H (a0) 12 10 (fun q1 => g_al 0 H (q1) ((0 : Int32)) (fun x2 => (x2 ≤ i3 → gG d mX12_twins 0 0 (g_Xj mX12_twins n 0 0 P) 53 n H [some (.ref (a0)), some (.int (i1)), some (.int ((i2 + 1))), none, none] [] (0) (0)) ∧ (¬ (x2 ≤ i3) → gG d mX12_twins 0 0 (g_Xj mX12_twins n 0 0 P) 78 n H [some (.ref (a0)), some (.int (i1)), some (.int (i2)), some (.int (i3)), some (.int ((0 : Int32)))] [] (0) (0))))) : gG d mX12_twins 0 0 (g_Xj mX12_twins n 0 0 P) 65 n H [some (.ref (a0)), some (.int (i1)), some (.int (i2)), some (.int (i3)), none] [] 0 0 := by
  refine gG_iload_n dX12_twins_65 rfl rfl ?_
  refine gG_aload_n dX12_twins_66 rfl rfl ?_
  obtain ⟨fs, q1, e1, e2, h⟩ := h
  refine gG_gr dX12_twins_67 fl_X12_13 ⟨fs, q1, e1, e2, ?_⟩
  refine gG_iconst (v := 0) dX12_twins_70 (by decide) ?_
  obtain ⟨m0, f0, e1, e2, h⟩ := h
  refine gG_iald dX12_twins_71 ⟨m0, f0, e1, e2, ?_⟩
  obtain ⟨x2, eH⟩ : ∃ z, z = f0 (Int32.toNatClampNeg ((0 : Int32))) := ⟨_, rfl⟩
  rw [← eH] at h ⊢
  refine gG_ic_ge (tgt := 135) dX12_twins_72 (by decide) (fun c => ?_) (fun c => ?_)
  · have h := h.1 c
    refine gG_iinc (v := i2 + 1) dX12_twins_135 rfl rfl (Nat.le_of_ble_eq_true rfl) ?_
    refine gG_goto (tgt := 53) dX12_twins_138 (by decide) ?_
    refine gG_locals ?_ h
    exact ⟨rfl, ⟨rfl, ⟨rfl, trivial⟩⟩⟩
  · have h := h.2 c
    refine gG_iconst (v := 0) dX12_twins_75 (by decide) ?_
    refine gG_istore dX12_twins_76 (Nat.le_of_ble_eq_true rfl) ?_
    refine gG_locals ?_ h
    exact ⟨rfl, ⟨rfl, ⟨rfl, ⟨rfl, ⟨rfl, trivial⟩⟩⟩⟩⟩
theorem kX12_twins_78 {d n : Nat} {H : gHp} {P : gHp → Int32 → Prop} {a0 : Nat} {i1 : Int32} {i2 : Int32} {i3 : Int32} {i4 : Int32} (h : (i3 ≤ i4 → gG d mX12_twins 0 0 (g_Xj mX12_twins n 0 0 P) 65 n H [some (.ref (a0)), some (.int (i1)), some (.int (i2)), some (.int ((i3 + 1))), none] [] (0) (0)) ∧ (¬ (i3 ≤ i4) → g_gr H (a0) 12 57 (fun q1 => g_al 0 H (q1) (i3) (fun x2 => g_gr H (a0) 12 47 (fun q3 => g_al 0 H (q3) (((12 : Int32) + i3)) (fun x4 => g_gr H (a0) 12 47 (fun q5 => g_al 0 H (q5) (((12 : Int32) + i4)) (fun x6 => (x4 = x6 → g_as 0 H (q1) (i3) ((x2 ||| (0 : Int32))) (fun H7 => gG d mX12_twins 0 0 (g_Xj mX12_twins n 0 0 P) 78 n H7 [some (.ref (a0)), some (.int (i1)), some (.int (i2)), some (.int (i3)), some (.int ((i4 + 1)))] [] (0) (0))) ∧ (¬ (x4 = x6) → g_as 0 H (q1) (i3) ((x2 ||| ((1 : Int32) <<< (i4 &&& 31)))) (fun H8 => gG d mX12_twins 0 0 (g_Xj mX12_twins n 0 0 P) 78 n H8 [some (.ref (a0)), some (.int (i1)), some (.int (i2)), some (.int (i3)), some (.int ((i4 + 1)))] [] (0) (0))))))))))) : gG d mX12_twins 0 0 (g_Xj mX12_twins n 0 0 P) 78 n H [some (.ref (a0)), some (.int (i1)), some (.int (i2)), some (.int (i3)), some (.int (i4))] [] 0 0 := by
  refine gG_iload dX12_twins_78 rfl ?_
  refine gG_iload_n dX12_twins_80 rfl rfl ?_
  refine gG_ic_ge (tgt := 129) dX12_twins_81 (by decide) (fun c => ?_) (fun c => ?_)
  · have h := h.1 c
    refine gG_iinc (v := i3 + 1) dX12_twins_129 rfl rfl (Nat.le_of_ble_eq_true rfl) ?_
    refine gG_goto (tgt := 65) dX12_twins_132 (by decide) ?_
    refine gG_locals ?_ h
    exact ⟨rfl, ⟨rfl, ⟨rfl, ⟨rfl, trivial⟩⟩⟩⟩
  · have h := h.2 c
    refine gG_aload_n dX12_twins_84 rfl rfl ?_
    obtain ⟨fs, q1, e1, e2, h⟩ := h
    refine gG_gr dX12_twins_85 fl_X12_138 ⟨fs, q1, e1, e2, ?_⟩
    refine gG_iload_n dX12_twins_88 rfl rfl ?_
    refine gG_dup2 dX12_twins_89 rfl rfl ?_
    obtain ⟨m0, f0, e1, e2, h⟩ := h
    refine gG_iald dX12_twins_90 ⟨m0, f0, e1, e2, ?_⟩
    obtain ⟨x2, eH⟩ : ∃ z, z = f0 (Int32.toNatClampNeg (i3)) := ⟨_, rfl⟩
    rw [← eH] at h ⊢
    refine gG_aload_n dX12_twins_91 rfl rfl ?_
    obtain ⟨fs, q3, e1, e2, h⟩ := h
    refine gG_gr dX12_twins_92 fl_X12_117 ⟨fs, q3, e1, e2, ?_⟩
    refine gG_bipush (v := 12) dX12_twins_95 (by decide) ?_
    refine gG_iload_n dX12_twins_97 rfl rfl ?_
    refine gG_iadd dX12_twins_98 ?_
    obtain ⟨m0, f0, e1, e2, h⟩ := h
    refine gG_iald dX12_twins_99 ⟨m0, f0, e1, e2, ?_⟩
    obtain ⟨x4, eH⟩ : ∃ z, z = f0 (Int32.toNatClampNeg (((12 : Int32) + i3))) := ⟨_, rfl⟩
    rw [← eH] at h ⊢
    refine gG_aload_n dX12_twins_100 rfl rfl ?_
    obtain ⟨fs, q5, e1, e2, h⟩ := h
    refine gG_gr dX12_twins_101 fl_X12_117 ⟨fs, q5, e1, e2, ?_⟩
    refine gG_bipush (v := 12) dX12_twins_104 (by decide) ?_
    refine gG_iload dX12_twins_106 rfl ?_
    refine gG_iadd dX12_twins_108 ?_
    obtain ⟨m0, f0, e1, e2, h⟩ := h
    refine gG_iald dX12_twins_109 ⟨m0, f0, e1, e2, ?_⟩
    obtain ⟨x6, eH⟩ : ∃ z, z = f0 (Int32.toNatClampNeg (((12 : Int32) + i4))) := ⟨_, rfl⟩
    rw [← eH] at h ⊢
    refine gG_ic_eq (tgt := 120) dX12_twins_110 (by decide) (fun c => ?_) (fun c => ?_)
    · have h := h.1 c
      refine gG_iconst (v := 0) dX12_twins_120 (by decide) ?_
      refine gG_ior dX12_twins_121 ?_
      obtain ⟨m0, f0, e1, e2, h⟩ := h
      refine gG_iast dX12_twins_122 ⟨m0, f0, e1, e2, ?_⟩
      obtain ⟨H7, eH⟩ : ∃ z, z = va_up H (q1) (.inl (0, m0, .inl (upd f0 (Int32.toNatClampNeg (i3)) ((x2 ||| (0 : Int32)))))) := ⟨_, rfl⟩
      rw [← eH] at h ⊢
      refine gG_iinc (v := i4 + 1) dX12_twins_123 rfl rfl (Nat.le_of_ble_eq_true rfl) ?_
      refine gG_goto (tgt := 78) dX12_twins_126 (by decide) ?_
      refine gG_locals ?_ h
      exact ⟨rfl, ⟨rfl, ⟨rfl, ⟨rfl, ⟨rfl, trivial⟩⟩⟩⟩⟩
    · have h := h.2 c
      refine gG_iconst (v := 1) dX12_twins_113 (by decide) ?_
      refine gG_iload dX12_twins_114 rfl ?_
      refine gG_ishl dX12_twins_116 ?_
      refine gG_goto (tgt := 121) dX12_twins_117 (by decide) ?_
      refine gG_ior dX12_twins_121 ?_
      obtain ⟨m0, f0, e1, e2, h⟩ := h
      refine gG_iast dX12_twins_122 ⟨m0, f0, e1, e2, ?_⟩
      obtain ⟨H8, eH⟩ : ∃ z, z = va_up H (q1) (.inl (0, m0, .inl (upd f0 (Int32.toNatClampNeg (i3)) ((x2 ||| ((1 : Int32) <<< (i4 &&& 31))))))) := ⟨_, rfl⟩
      rw [← eH] at h ⊢
      refine gG_iinc (v := i4 + 1) dX12_twins_123 rfl rfl (Nat.le_of_ble_eq_true rfl) ?_
      refine gG_goto (tgt := 78) dX12_twins_126 (by decide) ?_
      refine gG_locals ?_ h
      exact ⟨rfl, ⟨rfl, ⟨rfl, ⟨rfl, ⟨rfl, trivial⟩⟩⟩⟩⟩
theorem kX12_twins_158 {d n : Nat} {H : gHp} {P : gHp → Int32 → Prop} {a0 : Nat} {i2 : Int32} {i3 : Int32} (h : g_gr H (a0) 12 10 (fun q1 => g_al 0 H (q1) ((0 : Int32)) (fun x2 => (x2 ≤ i3 → P H (i2)) ∧ (¬ (x2 ≤ i3) → g_gr H (a0) 12 57 (fun q3 => g_al 0 H (q3) (i3) (fun x4 => g_ci d mX12_bits n H [.int (x4)] (fun H5 x6 => gG d mX12_twins 0 0 (g_Xj mX12_twins n 0 0 P) 158 n H5 [some (.ref (a0)), none, some (.int ((i2 + (i3 - x6)))), some (.int ((i3 + 1))), none] [] (0) (0)))))))) : gG d mX12_twins 0 0 (g_Xj mX12_twins n 0 0 P) 158 n H [some (.ref (a0)), none, some (.int (i2)), some (.int (i3)), none] [] 0 0 := by
  refine gG_iload_n dX12_twins_158 rfl rfl ?_
  refine gG_aload_n dX12_twins_159 rfl rfl ?_
  obtain ⟨fs, q1, e1, e2, h⟩ := h
  refine gG_gr dX12_twins_160 fl_X12_13 ⟨fs, q1, e1, e2, ?_⟩
  refine gG_iconst (v := 0) dX12_twins_163 (by decide) ?_
  obtain ⟨m0, f0, e1, e2, h⟩ := h
  refine gG_iald dX12_twins_164 ⟨m0, f0, e1, e2, ?_⟩
  obtain ⟨x2, eH⟩ : ∃ z, z = f0 (Int32.toNatClampNeg ((0 : Int32))) := ⟨_, rfl⟩
  rw [← eH] at h ⊢
  refine gG_ic_ge (tgt := 188) dX12_twins_165 (by decide) (fun c => ?_) (fun c => ?_)
  · have h := h.1 c
    refine gG_iload_n dX12_twins_188 rfl rfl ?_
    exact gG_exit ⟨rfl, rfl, rfl, dX12_twins_189, _, rfl, h⟩
  · have h := h.2 c
    refine gG_iload_n dX12_twins_168 rfl rfl ?_
    refine gG_iload_n dX12_twins_169 rfl rfl ?_
    refine gG_aload_n dX12_twins_170 rfl rfl ?_
    obtain ⟨fs, q3, e1, e2, h⟩ := h
    refine gG_gr dX12_twins_171 fl_X12_138 ⟨fs, q3, e1, e2, ?_⟩
    refine gG_iload_n dX12_twins_174 rfl rfl ?_
    obtain ⟨m0, f0, e1, e2, h⟩ := h
    refine gG_iald dX12_twins_175 ⟨m0, f0, e1, e2, ?_⟩
    obtain ⟨x4, eH⟩ : ∃ z, z = f0 (Int32.toNatClampNeg (i3)) := ⟨_, rfl⟩
    rw [← eH] at h ⊢
    obtain ⟨d2, P2, hdd, hC, h⟩ := h
    refine gG_csi (As := [.int (x4)]) (st := [.int (i3), .int (i2)]) dX12_twins_176 mS_X12_429 hdd rfl rfl (Nat.le_of_ble_eq_true rfl) (Nat.le_refl _) ⟨Nat.le_refl _, Nat.le_refl _⟩ hC (fun H5 x6 hp => ?_)
    have h := h H5 x6 hp
    refine gG_isub dX12_twins_179 ?_
    refine gG_iadd dX12_twins_180 ?_
    refine gG_istore_n dX12_twins_181 rfl (Nat.le_of_ble_eq_true rfl) ?_
    refine gG_iinc (v := i3 + 1) dX12_twins_182 rfl rfl (Nat.le_of_ble_eq_true rfl) ?_
    refine gG_goto (tgt := 158) dX12_twins_185 (by decide) ?_
    refine gG_locals ?_ h
    exact ⟨rfl, ⟨rfl, ⟨rfl, trivial⟩⟩⟩

theorem kX12_downOf_0 {d n : Nat} {H : gHp} {P : gHp → Int32 → Prop} {a0 : Nat} {i1 : Int32} (h : g_gr H (a0) 12 17 (fun q1 => g_al 0 H (q1) (i1) (fun x2 => gG d mX12_downOf 0 0 (g_Xj mX12_downOf n 0 0 P) 9 n H [some (.ref (a0)), none, some (.int ((0 : Int32))), some (.int (x2))] [] (0) (0)))) : gG d mX12_downOf 0 0 (g_Xj mX12_downOf n 0 0 P) 0 n H [some (.ref (a0)), some (.int (i1)), none, none] [] 0 0 := by
  refine gG_iconst (v := 0) dX12_downOf_0 (by decide) ?_
  refine gG_istore_n dX12_downOf_1 rfl (Nat.le_of_ble_eq_true rfl) ?_
  refine gG_aload_n dX12_downOf_2 rfl rfl ?_
  obtain ⟨fs, q1, e1, e2, h⟩ := h
  refine gG_gr dX12_downOf_3 fl_X12_35 ⟨fs, q1, e1, e2, ?_⟩
  refine gG_iload_n dX12_downOf_6 rfl rfl ?_
  obtain ⟨m0, f0, e1, e2, h⟩ := h
  refine gG_iald dX12_downOf_7 ⟨m0, f0, e1, e2, ?_⟩
  obtain ⟨x2, eH⟩ : ∃ z, z = f0 (Int32.toNatClampNeg (i1)) := ⟨_, rfl⟩
  rw [← eH] at h ⊢
  refine gG_istore_n dX12_downOf_8 rfl (Nat.le_of_ble_eq_true rfl) ?_
  refine gG_locals ?_ h
  exact ⟨rfl, ⟨rfl, ⟨rfl, trivial⟩⟩⟩
theorem kX12_downOf_9 {d n : Nat} {H : gHp} {P : gHp → Int32 → Prop} {a0 : Nat} {i2 : Int32} {i3 : Int32} (h : (i3 < 0 → P H (i2)) ∧ (¬ (i3 < 0) → g_gr H (a0) 12 17 (fun q1 => g_al 0 H (q1) (i3) (fun x2 => gG d mX12_downOf 0 0 (g_Xj mX12_downOf n 0 0 P) 9 n H [some (.ref (a0)), none, some (.int ((i2 ||| ((1 : Int32) <<< (i3 &&& 31))))), some (.int (x2))] [] (0) (0))))) : gG d mX12_downOf 0 0 (g_Xj mX12_downOf n 0 0 P) 9 n H [some (.ref (a0)), none, some (.int (i2)), some (.int (i3))] [] 0 0 := by
  refine gG_iload_n dX12_downOf_9 rfl rfl ?_
  refine gG_if_lt (tgt := 29) dX12_downOf_10 (by decide) (fun c => ?_) (fun c => ?_)
  · have h := h.1 c
    refine gG_iload_n dX12_downOf_29 rfl rfl ?_
    exact gG_exit ⟨rfl, rfl, rfl, dX12_downOf_30, _, rfl, h⟩
  · have h := h.2 c
    refine gG_iload_n dX12_downOf_13 rfl rfl ?_
    refine gG_iconst (v := 1) dX12_downOf_14 (by decide) ?_
    refine gG_iload_n dX12_downOf_15 rfl rfl ?_
    refine gG_ishl dX12_downOf_16 ?_
    refine gG_ior dX12_downOf_17 ?_
    refine gG_istore_n dX12_downOf_18 rfl (Nat.le_of_ble_eq_true rfl) ?_
    refine gG_aload_n dX12_downOf_19 rfl rfl ?_
    obtain ⟨fs, q1, e1, e2, h⟩ := h
    refine gG_gr dX12_downOf_20 fl_X12_35 ⟨fs, q1, e1, e2, ?_⟩
    refine gG_iload_n dX12_downOf_23 rfl rfl ?_
    obtain ⟨m0, f0, e1, e2, h⟩ := h
    refine gG_iald dX12_downOf_24 ⟨m0, f0, e1, e2, ?_⟩
    obtain ⟨x2, eH⟩ : ∃ z, z = f0 (Int32.toNatClampNeg (i3)) := ⟨_, rfl⟩
    rw [← eH] at h ⊢
    refine gG_istore_n dX12_downOf_25 rfl (Nat.le_of_ble_eq_true rfl) ?_
    refine gG_goto (tgt := 9) dX12_downOf_26 (by decide) ?_
    refine gG_locals ?_ h
    exact ⟨rfl, ⟨rfl, ⟨rfl, trivial⟩⟩⟩

theorem kX12_down_0 {d n : Nat} {H : gHp} {P : gHp → Int32 → Prop} {a0 : Nat} {i1 : Int32} (h : g_pf H (a0) 12 0 (.int ((0 : Int32))) (fun H1 => (∃ fs, H1 (a0) = .inr (12, fs)) ∧ g_cz d mX12_isMouth n H1 [.ref (a0), .int (i1)] (fun H2 b3 => (b3 = false → P H2 ((-1 : Int32))) ∧ (b3 = true → (∃ fs, H2 (a0) = .inr (12, fs)) ∧ g_ci d mX12_downOf n H2 [.ref (a0), .int (i1)] (fun H4 x5 => P H4 (x5)))))) : gG d mX12_down 0 0 (g_Xj mX12_down n 0 0 P) 0 n H [some (.ref (a0)), some (.int (i1))] [] 0 0 := by
  refine gG_aload_n dX12_down_0 rfl rfl ?_
  refine gG_iconst (v := 0) dX12_down_1 (by decide) ?_
  obtain ⟨fs, e1, e2, h⟩ := h
  refine gG_pi dX12_down_2 fl_X12_147 ⟨fs, e1, e2, ?_⟩
  obtain ⟨H1, eH⟩ : ∃ z, z = va_up H (a0) (.inr (12, fs.set 0 (.int ((0 : Int32))))) := ⟨_, rfl⟩
  rw [← eH] at h ⊢
  refine gG_aload_n dX12_down_5 rfl rfl ?_
  refine gG_iload_n dX12_down_6 rfl rfl ?_
  obtain ⟨hrc, d2, P2, hdd, hC, h⟩ := h
  refine gG_cvi (As := [.int (i1)]) (st := []) dX12_down_7 mV_X12_395 hdd hrc rfl rfl (Nat.le_of_ble_eq_true rfl) (Nat.le_refl _) ⟨Nat.le_refl _, Nat.le_refl _⟩ hC (fun H2 x9 hp => ?_)
  obtain ⟨b3, rfl, hp⟩ := hp
  have h := h H2 b3 hp
  refine gG_if_eq (tgt := 21) dX12_down_10 (by decide) (fun c => ?_) (fun c => ?_)
  · have h := h.1 (g_b_f c)
    refine gG_iconst (v := (-1)) dX12_down_21 (by decide) ?_
    exact gG_exit ⟨rfl, rfl, rfl, dX12_down_22, _, rfl, h⟩
  · have h := h.2 (g_b_t c)
    refine gG_aload_n dX12_down_13 rfl rfl ?_
    refine gG_iload_n dX12_down_14 rfl rfl ?_
    obtain ⟨hrc, d2, P2, hdd, hC, h⟩ := h
    refine gG_cvi (As := [.int (i1)]) (st := []) dX12_down_15 mV_X12_432 hdd hrc rfl rfl (Nat.le_of_ble_eq_true rfl) (Nat.le_refl _) ⟨Nat.le_refl _, Nat.le_refl _⟩ hC (fun H4 x5 hp => ?_)
    have h := h H4 x5 hp
    refine gG_goto (tgt := 22) dX12_down_18 (by decide) ?_
    exact gG_exit ⟨rfl, rfl, rfl, dX12_down_22, _, rfl, h⟩

theorem kX12_up_0 {d n : Nat} {H : gHp} {P : gHp → Int32 → Prop} {a0 : Nat} {i1 : Int32} (h : g_pf H (a0) 12 0 (.int ((0 : Int32))) (fun H1 => (∃ fs, H1 (a0) = .inr (12, fs)) ∧ g_cz d mX12_isMouth n H1 [.ref (a0), .int (i1)] (fun H2 b3 => (b3 = true → gG d mX12_up 0 0 (g_Xj mX12_up n 0 0 P) 19 n H2 [some (.ref (a0)), some (.int (i1)), some (.int ((0 : Int32))), some (.int ((0 : Int32)))] [] (0) (0)) ∧ (b3 = false → P H2 ((-1 : Int32)))))) : gG d mX12_up 0 0 (g_Xj mX12_up n 0 0 P) 0 n H [some (.ref (a0)), some (.int (i1)), none, none] [] 0 0 := by
  refine gG_aload_n dX12_up_0 rfl rfl ?_
  refine gG_iconst (v := 0) dX12_up_1 (by decide) ?_
  obtain ⟨fs, e1, e2, h⟩ := h
  refine gG_pi dX12_up_2 fl_X12_147 ⟨fs, e1, e2, ?_⟩
  obtain ⟨H1, eH⟩ : ∃ z, z = va_up H (a0) (.inr (12, fs.set 0 (.int ((0 : Int32))))) := ⟨_, rfl⟩
  rw [← eH] at h ⊢
  refine gG_aload_n dX12_up_5 rfl rfl ?_
  refine gG_iload_n dX12_up_6 rfl rfl ?_
  obtain ⟨hrc, d2, P2, hdd, hC, h⟩ := h
  refine gG_cvi (As := [.int (i1)]) (st := []) dX12_up_7 mV_X12_395 hdd hrc rfl rfl (Nat.le_of_ble_eq_true rfl) (Nat.le_refl _) ⟨Nat.le_refl _, Nat.le_refl _⟩ hC (fun H2 x9 hp => ?_)
  obtain ⟨b3, rfl, hp⟩ := hp
  have h := h H2 b3 hp
  refine gG_if_ne (tgt := 15) dX12_up_10 (by decide) (fun c => ?_) (fun c => ?_)
  · have h := h.1 (g_b_t c)
    refine gG_iconst (v := 0) dX12_up_15 (by decide) ?_
    refine gG_istore_n dX12_up_16 rfl (Nat.le_of_ble_eq_true rfl) ?_
    refine gG_iconst (v := 0) dX12_up_17 (by decide) ?_
    refine gG_istore_n dX12_up_18 rfl (Nat.le_of_ble_eq_true rfl) ?_
    refine gG_locals ?_ h
    exact ⟨rfl, ⟨rfl, ⟨rfl, ⟨rfl, trivial⟩⟩⟩⟩
  · have h := h.2 (g_b_f c)
    refine gG_iconst (v := (-1)) dX12_up_13 (by decide) ?_
    exact gG_exit ⟨rfl, rfl, rfl, dX12_up_14, _, rfl, h⟩
theorem kX12_up_19 {d n : Nat} {H : gHp} {P : gHp → Int32 → Prop} {a0 : Nat} {i1 : Int32} {i2 : Int32} {i3 : Int32} (h : g_gr H (a0) 12 10 (fun q1 => g_al 0 H (q1) ((0 : Int32)) (fun x2 => (x2 ≤ i3 → P H (i2)) ∧ (¬ (x2 ≤ i3) → (∃ fs, H (a0) = .inr (12, fs)) ∧ g_ci d mX12_downOf n H [.ref (a0), .int (i3)] (fun H3 x4 => gG d mX12_up 0 0 (g_Xj mX12_up n 0 0 P) 19 n H3 [some (.ref (a0)), some (.int (i1)), some (.int ((i2 ||| (((x4 >>> (i1 &&& 31)) &&& (1 : Int32)) <<< (i3 &&& 31))))), some (.int ((i3 + 1)))] [] (0) (0)))))) : gG d mX12_up 0 0 (g_Xj mX12_up n 0 0 P) 19 n H [some (.ref (a0)), some (.int (i1)), some (.int (i2)), some (.int (i3))] [] 0 0 := by
  refine gG_iload_n dX12_up_19 rfl rfl ?_
  refine gG_aload_n dX12_up_20 rfl rfl ?_
  obtain ⟨fs, q1, e1, e2, h⟩ := h
  refine gG_gr dX12_up_21 fl_X12_13 ⟨fs, q1, e1, e2, ?_⟩
  refine gG_iconst (v := 0) dX12_up_24 (by decide) ?_
  obtain ⟨m0, f0, e1, e2, h⟩ := h
  refine gG_iald dX12_up_25 ⟨m0, f0, e1, e2, ?_⟩
  obtain ⟨x2, eH⟩ : ∃ z, z = f0 (Int32.toNatClampNeg ((0 : Int32))) := ⟨_, rfl⟩
  rw [← eH] at h ⊢
  refine gG_ic_ge (tgt := 49) dX12_up_26 (by decide) (fun c => ?_) (fun c => ?_)
  · have h := h.1 c
    refine gG_iload_n dX12_up_49 rfl rfl ?_
    exact gG_exit ⟨rfl, rfl, rfl, dX12_up_50, _, rfl, h⟩
  · have h := h.2 c
    refine gG_iload_n dX12_up_29 rfl rfl ?_
    refine gG_aload_n dX12_up_30 rfl rfl ?_
    refine gG_iload_n dX12_up_31 rfl rfl ?_
    obtain ⟨hrc, d2, P2, hdd, hC, h⟩ := h
    refine gG_cvi (As := [.int (i3)]) (st := [.int (i2)]) dX12_up_32 mV_X12_432 hdd hrc rfl rfl (Nat.le_of_ble_eq_true rfl) (Nat.le_refl _) ⟨Nat.le_refl _, Nat.le_refl _⟩ hC (fun H3 x4 hp => ?_)
    have h := h H3 x4 hp
    refine gG_iload_n dX12_up_35 rfl rfl ?_
    refine gG_ishr dX12_up_36 ?_
    refine gG_iconst (v := 1) dX12_up_37 (by decide) ?_
    refine gG_iand dX12_up_38 ?_
    refine gG_iload_n dX12_up_39 rfl rfl ?_
    refine gG_ishl dX12_up_40 ?_
    refine gG_ior dX12_up_41 ?_
    refine gG_istore_n dX12_up_42 rfl (Nat.le_of_ble_eq_true rfl) ?_
    refine gG_iinc (v := i3 + 1) dX12_up_43 rfl rfl (Nat.le_of_ble_eq_true rfl) ?_
    refine gG_goto (tgt := 19) dX12_up_46 (by decide) ?_
    refine gG_locals ?_ h
    exact ⟨rfl, ⟨rfl, ⟨rfl, ⟨rfl, trivial⟩⟩⟩⟩

theorem kX12_chain_0 {d n : Nat} {H : gHp} {P : gHp → Int32 → Prop} {a0 : Nat} (h : g_pf H (a0) 12 0 (.int ((0 : Int32))) (fun H1 => gG d mX12_chain 0 0 (g_Xj mX12_chain n 0 0 P) 9 n H1 [some (.ref (a0)), some (.int ((0 : Int32))), some (.int ((0 : Int32)))] [] (0) (0))) : gG d mX12_chain 0 0 (g_Xj mX12_chain n 0 0 P) 0 n H [some (.ref (a0)), none, none] [] 0 0 := by
  refine gG_aload_n dX12_chain_0 rfl rfl ?_
  refine gG_iconst (v := 0) dX12_chain_1 (by decide) ?_
  obtain ⟨fs, e1, e2, h⟩ := h
  refine gG_pi dX12_chain_2 fl_X12_147 ⟨fs, e1, e2, ?_⟩
  obtain ⟨H1, eH⟩ : ∃ z, z = va_up H (a0) (.inr (12, fs.set 0 (.int ((0 : Int32))))) := ⟨_, rfl⟩
  rw [← eH] at h ⊢
  refine gG_iconst (v := 0) dX12_chain_5 (by decide) ?_
  refine gG_istore_n dX12_chain_6 rfl (Nat.le_of_ble_eq_true rfl) ?_
  refine gG_iconst (v := 0) dX12_chain_7 (by decide) ?_
  refine gG_istore_n dX12_chain_8 rfl (Nat.le_of_ble_eq_true rfl) ?_
  refine gG_locals ?_ h
  exact ⟨rfl, ⟨rfl, ⟨rfl, trivial⟩⟩⟩
theorem kX12_chain_9 {d n : Nat} {H : gHp} {P : gHp → Int32 → Prop} {a0 : Nat} {i1 : Int32} {i2 : Int32} (hd1 : 1 ≤ d) (h : g_gr H (a0) 12 10 (fun q1 => g_al 0 H (q1) ((0 : Int32)) (fun x2 => (x2 ≤ i2 → P H (i1)) ∧ (¬ (x2 ≤ i2) → (∃ fs, H (a0) = .inr (12, fs)) ∧ g_ci d mX12_downOf n H [.ref (a0), .int (i2)] (fun H3 x4 => g_ci d mX12_bits n H3 [.int (x4)] (fun H5 x6 => gG d mX12_chain 0 0 (g_Xj mX12_chain n 0 0 P) 9 n H5 [some (.ref (a0)), some (.int ((if i1 < ((1 : Int32) + x6) then ((1 : Int32) + x6) else i1))), some (.int ((i2 + 1)))] [] (0) (0))))))) : gG d mX12_chain 0 0 (g_Xj mX12_chain n 0 0 P) 9 n H [some (.ref (a0)), some (.int (i1)), some (.int (i2))] [] 0 0 := by
  refine gG_iload_n dX12_chain_9 rfl rfl ?_
  refine gG_aload_n dX12_chain_10 rfl rfl ?_
  obtain ⟨fs, q1, e1, e2, h⟩ := h
  refine gG_gr dX12_chain_11 fl_X12_13 ⟨fs, q1, e1, e2, ?_⟩
  refine gG_iconst (v := 0) dX12_chain_14 (by decide) ?_
  obtain ⟨m0, f0, e1, e2, h⟩ := h
  refine gG_iald dX12_chain_15 ⟨m0, f0, e1, e2, ?_⟩
  obtain ⟨x2, eH⟩ : ∃ z, z = f0 (Int32.toNatClampNeg ((0 : Int32))) := ⟨_, rfl⟩
  rw [← eH] at h ⊢
  refine gG_ic_ge (tgt := 40) dX12_chain_16 (by decide) (fun c => ?_) (fun c => ?_)
  · have h := h.1 c
    refine gG_iload_n dX12_chain_40 rfl rfl ?_
    exact gG_exit ⟨rfl, rfl, rfl, dX12_chain_41, _, rfl, h⟩
  · have h := h.2 c
    refine gG_iload_n dX12_chain_19 rfl rfl ?_
    refine gG_iconst (v := 1) dX12_chain_20 (by decide) ?_
    refine gG_aload_n dX12_chain_21 rfl rfl ?_
    refine gG_iload_n dX12_chain_22 rfl rfl ?_
    obtain ⟨hrc, d2, P2, hdd, hC, h⟩ := h
    refine gG_cvi (As := [.int (i2)]) (st := [.int ((1 : Int32)), .int (i1)]) dX12_chain_23 mV_X12_432 hdd hrc rfl rfl (Nat.le_of_ble_eq_true rfl) (Nat.le_refl _) ⟨Nat.le_refl _, Nat.le_refl _⟩ hC (fun H3 x4 hp => ?_)
    have h := h H3 x4 hp
    obtain ⟨d2, P2, hdd, hC, h⟩ := h
    refine gG_csi (As := [.int (x4)]) (st := [.int ((1 : Int32)), .int (i1)]) dX12_chain_26 mS_X12_429 hdd rfl rfl (Nat.le_of_ble_eq_true rfl) (Nat.le_refl _) ⟨Nat.le_refl _, Nat.le_refl _⟩ hC (fun H5 x6 hp => ?_)
    have h := h H5 x6 hp
    refine gG_iadd dX12_chain_29 ?_
    refine gG_max dX12_chain_30 lk_X12_435 st_max ini_Math co_max hd1 (Nat.le_of_ble_eq_true rfl) (Nat.le_refl _) (Nat.le_refl _) ?_
    refine gG_istore_n dX12_chain_33 rfl (Nat.le_of_ble_eq_true rfl) ?_
    refine gG_iinc (v := i2 + 1) dX12_chain_34 rfl rfl (Nat.le_of_ble_eq_true rfl) ?_
    refine gG_goto (tgt := 9) dX12_chain_37 (by decide) ?_
    refine gG_locals ?_ h
    exact ⟨rfl, ⟨rfl, ⟨rfl, trivial⟩⟩⟩

theorem kX12_sounds_0 {d n : Nat} {H : gHp} {P : gHp → Int32 → Prop} {a0 : Nat} (h : g_pf H (a0) 12 0 (.int ((0 : Int32))) (fun H1 => g_gr H1 (a0) 12 47 (fun q2 => g_al 0 H1 (q2) ((2 : Int32)) (fun x3 => P H1 (x3))))) : gG d mX12_sounds 0 0 (g_Xj mX12_sounds n 0 0 P) 0 n H [some (.ref (a0))] [] 0 0 := by
  refine gG_aload_n dX12_sounds_0 rfl rfl ?_
  refine gG_iconst (v := 0) dX12_sounds_1 (by decide) ?_
  obtain ⟨fs, e1, e2, h⟩ := h
  refine gG_pi dX12_sounds_2 fl_X12_147 ⟨fs, e1, e2, ?_⟩
  obtain ⟨H1, eH⟩ : ∃ z, z = va_up H (a0) (.inr (12, fs.set 0 (.int ((0 : Int32))))) := ⟨_, rfl⟩
  rw [← eH] at h ⊢
  refine gG_aload_n dX12_sounds_5 rfl rfl ?_
  obtain ⟨fs, q2, e1, e2, h⟩ := h
  refine gG_gr dX12_sounds_6 fl_X12_117 ⟨fs, q2, e1, e2, ?_⟩
  refine gG_iconst (v := 2) dX12_sounds_9 (by decide) ?_
  obtain ⟨m0, f0, e1, e2, h⟩ := h
  refine gG_iald dX12_sounds_10 ⟨m0, f0, e1, e2, ?_⟩
  obtain ⟨x3, eH⟩ : ∃ z, z = f0 (Int32.toNatClampNeg ((2 : Int32))) := ⟨_, rfl⟩
  rw [← eH] at h ⊢
  exact gG_exit ⟨rfl, rfl, rfl, dX12_sounds_11, _, rfl, h⟩

theorem kX12_last_0 {d n : Nat} {H : gHp} {P : gHp → Int32 → Prop} {a0 : Nat} (h : g_pf H (a0) 12 0 (.int ((0 : Int32))) (fun H1 => g_gr H1 (a0) 12 47 (fun q2 => g_al 0 H1 (q2) ((3 : Int32)) (fun x3 => P H1 (x3))))) : gG d mX12_last 0 0 (g_Xj mX12_last n 0 0 P) 0 n H [some (.ref (a0))] [] 0 0 := by
  refine gG_aload_n dX12_last_0 rfl rfl ?_
  refine gG_iconst (v := 0) dX12_last_1 (by decide) ?_
  obtain ⟨fs, e1, e2, h⟩ := h
  refine gG_pi dX12_last_2 fl_X12_147 ⟨fs, e1, e2, ?_⟩
  obtain ⟨H1, eH⟩ : ∃ z, z = va_up H (a0) (.inr (12, fs.set 0 (.int ((0 : Int32))))) := ⟨_, rfl⟩
  rw [← eH] at h ⊢
  refine gG_aload_n dX12_last_5 rfl rfl ?_
  obtain ⟨fs, q2, e1, e2, h⟩ := h
  refine gG_gr dX12_last_6 fl_X12_117 ⟨fs, q2, e1, e2, ?_⟩
  refine gG_iconst (v := 3) dX12_last_9 (by decide) ?_
  obtain ⟨m0, f0, e1, e2, h⟩ := h
  refine gG_iald dX12_last_10 ⟨m0, f0, e1, e2, ?_⟩
  obtain ⟨x3, eH⟩ : ∃ z, z = f0 (Int32.toNatClampNeg ((3 : Int32))) := ⟨_, rfl⟩
  rw [← eH] at h ⊢
  exact gG_exit ⟨rfl, rfl, rfl, dX12_last_11, _, rfl, h⟩

theorem kX12_often_0 {d n : Nat} {H : gHp} {P : gHp → Int32 → Prop} {a0 : Nat} (h : g_pf H (a0) 12 0 (.int ((0 : Int32))) (fun H1 => gG d mX12_often 0 0 (g_Xj mX12_often n 0 0 P) 11 n H1 [some (.ref (a0)), some (.int ((-1 : Int32))), some (.int ((0 : Int32))), some (.int ((0 : Int32))), none, none] [] (0) (0))) : gG d mX12_often 0 0 (g_Xj mX12_often n 0 0 P) 0 n H [some (.ref (a0)), none, none, none, none, none] [] 0 0 := by
  refine gG_aload_n dX12_often_0 rfl rfl ?_
  refine gG_iconst (v := 0) dX12_often_1 (by decide) ?_
  obtain ⟨fs, e1, e2, h⟩ := h
  refine gG_pi dX12_often_2 fl_X12_147 ⟨fs, e1, e2, ?_⟩
  obtain ⟨H1, eH⟩ : ∃ z, z = va_up H (a0) (.inr (12, fs.set 0 (.int ((0 : Int32))))) := ⟨_, rfl⟩
  rw [← eH] at h ⊢
  refine gG_iconst (v := (-1)) dX12_often_5 (by decide) ?_
  refine gG_istore_n dX12_often_6 rfl (Nat.le_of_ble_eq_true rfl) ?_
  refine gG_iconst (v := 0) dX12_often_7 (by decide) ?_
  refine gG_istore_n dX12_often_8 rfl (Nat.le_of_ble_eq_true rfl) ?_
  refine gG_iconst (v := 0) dX12_often_9 (by decide) ?_
  refine gG_istore_n dX12_often_10 rfl (Nat.le_of_ble_eq_true rfl) ?_
  refine gG_locals ?_ h
  exact ⟨rfl, ⟨rfl, ⟨rfl, ⟨rfl, trivial⟩⟩⟩⟩
theorem kX12_often_11 {d n : Nat} {H : gHp} {P : gHp → Int32 → Prop} {a0 : Nat} {i1 : Int32} {i2 : Int32} {i3 : Int32} (h : g_gr H (a0) 12 10 (fun q1 => g_al 0 H (q1) ((1 : Int32)) (fun x2 => (x2 ≤ i3 → P H (i1)) ∧ (¬ (x2 ≤ i3) → gG d mX12_often 0 0 (g_Xj mX12_often n 0 0 P) 27 n H [some (.ref (a0)), some (.int (i1)), some (.int (i2)), some (.int (i3)), some (.int ((0 : Int32))), some (.int ((0 : Int32)))] [] (0) (0))))) : gG d mX12_often 0 0 (g_Xj mX12_often n 0 0 P) 11 n H [some (.ref (a0)), some (.int (i1)), some (.int (i2)), some (.int (i3)), none, none] [] 0 0 := by
  refine gG_iload_n dX12_often_11 rfl rfl ?_
  refine gG_aload_n dX12_often_12 rfl rfl ?_
  obtain ⟨fs, q1, e1, e2, h⟩ := h
  refine gG_gr dX12_often_13 fl_X12_13 ⟨fs, q1, e1, e2, ?_⟩
  refine gG_iconst (v := 1) dX12_often_16 (by decide) ?_
  obtain ⟨m0, f0, e1, e2, h⟩ := h
  refine gG_iald dX12_often_17 ⟨m0, f0, e1, e2, ?_⟩
  obtain ⟨x2, eH⟩ : ∃ z, z = f0 (Int32.toNatClampNeg ((1 : Int32))) := ⟨_, rfl⟩
  rw [← eH] at h ⊢
  refine gG_ic_ge (tgt := 88) dX12_often_18 (by decide) (fun c => ?_) (fun c => ?_)
  · have h := h.1 c
    refine gG_iload_n dX12_often_88 rfl rfl ?_
    exact gG_exit ⟨rfl, rfl, rfl, dX12_often_89, _, rfl, h⟩
  · have h := h.2 c
    refine gG_iconst (v := 0) dX12_often_21 (by decide) ?_
    refine gG_istore dX12_often_22 (Nat.le_of_ble_eq_true rfl) ?_
    refine gG_iconst (v := 0) dX12_often_24 (by decide) ?_
    refine gG_istore dX12_often_25 (Nat.le_of_ble_eq_true rfl) ?_
    refine gG_locals ?_ h
    exact ⟨rfl, ⟨rfl, ⟨rfl, ⟨rfl, ⟨rfl, ⟨rfl, trivial⟩⟩⟩⟩⟩⟩
theorem kX12_often_27 {d n : Nat} {H : gHp} {P : gHp → Int32 → Prop} {a0 : Nat} {i1 : Int32} {i2 : Int32} {i3 : Int32} {i4 : Int32} {i5 : Int32} (h : g_gr H (a0) 12 47 (fun q1 => g_al 0 H (q1) ((4 : Int32)) (fun x2 => (x2 ≤ i5 → (i2 < i4 → gG d mX12_often 0 0 (g_Xj mX12_often n 0 0 P) 11 n H [some (.ref (a0)), some (.int (i3)), some (.int (i4)), some (.int ((i3 + 1))), none, none] [] (0) (0)) ∧ (¬ (i2 < i4) → gG d mX12_often 0 0 (g_Xj mX12_often n 0 0 P) 11 n H [some (.ref (a0)), some (.int (i1)), some (.int (i2)), some (.int ((i3 + 1))), none, none] [] (0) (0))) ∧ (¬ (x2 ≤ i5) → g_gr H (a0) 12 47 (fun q3 => g_al 0 H (q3) (((19 : Int32) + i5)) (fun x4 => (¬ (x4 = i3) → gG d mX12_often 0 0 (g_Xj mX12_often n 0 0 P) 27 n H [some (.ref (a0)), some (.int (i1)), some (.int (i2)), some (.int (i3)), some (.int ((i4 + (0 : Int32)))), some (.int ((i5 + 1)))] [] (0) (0)) ∧ (x4 = i3 → gG d mX12_often 0 0 (g_Xj mX12_often n 0 0 P) 27 n H [some (.ref (a0)), some (.int (i1)), some (.int (i2)), some (.int (i3)), some (.int ((i4 + (1 : Int32)))), some (.int ((i5 + 1)))] [] (0) (0)))))))) : gG d mX12_often 0 0 (g_Xj mX12_often n 0 0 P) 27 n H [some (.ref (a0)), some (.int (i1)), some (.int (i2)), some (.int (i3)), some (.int (i4)), some (.int (i5))] [] 0 0 := by
  refine gG_iload dX12_often_27 rfl ?_
  refine gG_aload_n dX12_often_29 rfl rfl ?_
  obtain ⟨fs, q1, e1, e2, h⟩ := h
  refine gG_gr dX12_often_30 fl_X12_117 ⟨fs, q1, e1, e2, ?_⟩
  refine gG_iconst (v := 4) dX12_often_33 (by decide) ?_
  obtain ⟨m0, f0, e1, e2, h⟩ := h
  refine gG_iald dX12_often_34 ⟨m0, f0, e1, e2, ?_⟩
  obtain ⟨x2, eH⟩ : ∃ z, z = f0 (Int32.toNatClampNeg ((4 : Int32))) := ⟨_, rfl⟩
  rw [← eH] at h ⊢
  refine gG_ic_ge (tgt := 68) dX12_often_35 (by decide) (fun c => ?_) (fun c => ?_)
  · have h := h.1 c
    refine gG_iload dX12_often_68 rfl ?_
    refine gG_iload_n dX12_often_70 rfl rfl ?_
    refine gG_ic_gt (tgt := 77) dX12_often_71 (by decide) (fun c => ?_) (fun c => ?_)
    · have h := h.1 c
      refine gG_iload dX12_often_77 rfl ?_
      refine gG_istore_n dX12_often_79 rfl (Nat.le_of_ble_eq_true rfl) ?_
      refine gG_iload_n dX12_often_80 rfl rfl ?_
      refine gG_istore_n dX12_often_81 rfl (Nat.le_of_ble_eq_true rfl) ?_
      refine gG_iinc (v := i3 + 1) dX12_often_82 rfl rfl (Nat.le_of_ble_eq_true rfl) ?_
      refine gG_goto (tgt := 11) dX12_often_85 (by decide) ?_
      refine gG_locals ?_ h
      exact ⟨rfl, ⟨rfl, ⟨rfl, ⟨rfl, trivial⟩⟩⟩⟩
    · have h := h.2 c
      refine gG_goto (tgt := 82) dX12_often_74 (by decide) ?_
      refine gG_iinc (v := i3 + 1) dX12_often_82 rfl rfl (Nat.le_of_ble_eq_true rfl) ?_
      refine gG_goto (tgt := 11) dX12_often_85 (by decide) ?_
      refine gG_locals ?_ h
      exact ⟨rfl, ⟨rfl, ⟨rfl, ⟨rfl, trivial⟩⟩⟩⟩
  · have h := h.2 c
    refine gG_iload dX12_often_38 rfl ?_
    refine gG_aload_n dX12_often_40 rfl rfl ?_
    obtain ⟨fs, q3, e1, e2, h⟩ := h
    refine gG_gr dX12_often_41 fl_X12_117 ⟨fs, q3, e1, e2, ?_⟩
    refine gG_bipush (v := 19) dX12_often_44 (by decide) ?_
    refine gG_iload dX12_often_46 rfl ?_
    refine gG_iadd dX12_often_48 ?_
    obtain ⟨m0, f0, e1, e2, h⟩ := h
    refine gG_iald dX12_often_49 ⟨m0, f0, e1, e2, ?_⟩
    obtain ⟨x4, eH⟩ : ∃ z, z = f0 (Int32.toNatClampNeg (((19 : Int32) + i5))) := ⟨_, rfl⟩
    rw [← eH] at h ⊢
    refine gG_iload_n dX12_often_50 rfl rfl ?_
    refine gG_ic_ne (tgt := 58) dX12_often_51 (by decide) (fun c => ?_) (fun c => ?_)
    · have h := h.1 c
      refine gG_iconst (v := 0) dX12_often_58 (by decide) ?_
      refine gG_iadd dX12_often_59 ?_
      refine gG_istore dX12_often_60 (Nat.le_of_ble_eq_true rfl) ?_
      refine gG_iinc (v := i5 + 1) dX12_often_62 rfl rfl (Nat.le_of_ble_eq_true rfl) ?_
      refine gG_goto (tgt := 27) dX12_often_65 (by decide) ?_
      refine gG_locals ?_ h
      exact ⟨rfl, ⟨rfl, ⟨rfl, ⟨rfl, ⟨rfl, ⟨rfl, trivial⟩⟩⟩⟩⟩⟩
    · have h := h.2 c
      refine gG_iconst (v := 1) dX12_often_54 (by decide) ?_
      refine gG_goto (tgt := 59) dX12_often_55 (by decide) ?_
      refine gG_iadd dX12_often_59 ?_
      refine gG_istore dX12_often_60 (Nat.le_of_ble_eq_true rfl) ?_
      refine gG_iinc (v := i5 + 1) dX12_often_62 rfl rfl (Nat.le_of_ble_eq_true rfl) ?_
      refine gG_goto (tgt := 27) dX12_often_65 (by decide) ?_
      refine gG_locals ?_ h
      exact ⟨rfl, ⟨rfl, ⟨rfl, ⟨rfl, ⟨rfl, ⟨rfl, trivial⟩⟩⟩⟩⟩⟩

theorem kX12_run_0 {d n : Nat} {H : gHp} {P : gHp → Int32 → Prop} {a0 : Nat} (h : g_pf H (a0) 12 0 (.int ((0 : Int32))) (fun H1 => gG d mX12_run 0 0 (g_Xj mX12_run n 0 0 P) 11 n H1 [some (.ref (a0)), some (.int ((0 : Int32))), some (.int ((0 : Int32))), some (.int ((0 : Int32)))] [] (0) (0))) : gG d mX12_run 0 0 (g_Xj mX12_run n 0 0 P) 0 n H [some (.ref (a0)), none, none, none] [] 0 0 := by
  refine gG_aload_n dX12_run_0 rfl rfl ?_
  refine gG_iconst (v := 0) dX12_run_1 (by decide) ?_
  obtain ⟨fs, e1, e2, h⟩ := h
  refine gG_pi dX12_run_2 fl_X12_147 ⟨fs, e1, e2, ?_⟩
  obtain ⟨H1, eH⟩ : ∃ z, z = va_up H (a0) (.inr (12, fs.set 0 (.int ((0 : Int32))))) := ⟨_, rfl⟩
  rw [← eH] at h ⊢
  refine gG_iconst (v := 0) dX12_run_5 (by decide) ?_
  refine gG_istore_n dX12_run_6 rfl (Nat.le_of_ble_eq_true rfl) ?_
  refine gG_iconst (v := 0) dX12_run_7 (by decide) ?_
  refine gG_istore_n dX12_run_8 rfl (Nat.le_of_ble_eq_true rfl) ?_
  refine gG_iconst (v := 0) dX12_run_9 (by decide) ?_
  refine gG_istore_n dX12_run_10 rfl (Nat.le_of_ble_eq_true rfl) ?_
  refine gG_locals ?_ h
  exact ⟨rfl, ⟨rfl, ⟨rfl, ⟨rfl, trivial⟩⟩⟩⟩
theorem kX12_run_11 {d n : Nat} {H : gHp} {P : gHp → Int32 → Prop} {a0 : Nat} {i1 : Int32} {i2 : Int32} {i3 : Int32} (h : g_gr H (a0) 12 47 (fun q1 => g_al 0 H (q1) ((4 : Int32)) (fun x2 => (x2 ≤ i3 → P H (i1)) ∧ (¬ (x2 ≤ i3) → (i3 ≤ 0 → gG d mX12_run 0 0 (g_Xj mX12_run n 0 0 P) 56 n H [some (.ref (a0)), some (.int (i1)), some (.int ((1 : Int32))), some (.int (i3))] [] (0) (0)) ∧ (¬ (i3 ≤ 0) → g_gr H (a0) 12 47 (fun q3 => g_al 0 H (q3) (((19 : Int32) + i3)) (fun x4 => g_gr H (a0) 12 47 (fun q5 => g_al 0 H (q5) ((((19 : Int32) + i3) - (1 : Int32))) (fun x6 => (¬ (x4 = x6) → gG d mX12_run 0 0 (g_Xj mX12_run n 0 0 P) 56 n H [some (.ref (a0)), some (.int (i1)), some (.int ((1 : Int32))), some (.int (i3))] [] (0) (0)) ∧ (x4 = x6 → gG d mX12_run 0 0 (g_Xj mX12_run n 0 0 P) 56 n H [some (.ref (a0)), some (.int (i1)), some (.int ((i2 + (1 : Int32)))), some (.int (i3))] [] (0) (0))))))))))) : gG d mX12_run 0 0 (g_Xj mX12_run n 0 0 P) 11 n H [some (.ref (a0)), some (.int (i1)), some (.int (i2)), some (.int (i3))] [] 0 0 := by
  refine gG_iload_n dX12_run_11 rfl rfl ?_
  refine gG_aload_n dX12_run_12 rfl rfl ?_
  obtain ⟨fs, q1, e1, e2, h⟩ := h
  refine gG_gr dX12_run_13 fl_X12_117 ⟨fs, q1, e1, e2, ?_⟩
  refine gG_iconst (v := 4) dX12_run_16 (by decide) ?_
  obtain ⟨m0, f0, e1, e2, h⟩ := h
  refine gG_iald dX12_run_17 ⟨m0, f0, e1, e2, ?_⟩
  obtain ⟨x2, eH⟩ : ∃ z, z = f0 (Int32.toNatClampNeg ((4 : Int32))) := ⟨_, rfl⟩
  rw [← eH] at h ⊢
  refine gG_ic_ge (tgt := 82) dX12_run_18 (by decide) (fun c => ?_) (fun c => ?_)
  · have h := h.1 c
    refine gG_iload_n dX12_run_82 rfl rfl ?_
    exact gG_exit ⟨rfl, rfl, rfl, dX12_run_83, _, rfl, h⟩
  · have h := h.2 c
    refine gG_iload_n dX12_run_21 rfl rfl ?_
    refine gG_if_le (tgt := 54) dX12_run_22 (by decide) (fun c => ?_) (fun c => ?_)
    · have h := h.1 c
      refine gG_iconst (v := 1) dX12_run_54 (by decide) ?_
      refine gG_istore_n dX12_run_55 rfl (Nat.le_of_ble_eq_true rfl) ?_
      refine gG_locals ?_ h
      exact ⟨rfl, ⟨rfl, ⟨rfl, ⟨rfl, trivial⟩⟩⟩⟩
    · have h := h.2 c
      refine gG_aload_n dX12_run_25 rfl rfl ?_
      obtain ⟨fs, q3, e1, e2, h⟩ := h
      refine gG_gr dX12_run_26 fl_X12_117 ⟨fs, q3, e1, e2, ?_⟩
      refine gG_bipush (v := 19) dX12_run_29 (by decide) ?_
      refine gG_iload_n dX12_run_31 rfl rfl ?_
      refine gG_iadd dX12_run_32 ?_
      obtain ⟨m0, f0, e1, e2, h⟩ := h
      refine gG_iald dX12_run_33 ⟨m0, f0, e1, e2, ?_⟩
      obtain ⟨x4, eH⟩ : ∃ z, z = f0 (Int32.toNatClampNeg (((19 : Int32) + i3))) := ⟨_, rfl⟩
      rw [← eH] at h ⊢
      refine gG_aload_n dX12_run_34 rfl rfl ?_
      obtain ⟨fs, q5, e1, e2, h⟩ := h
      refine gG_gr dX12_run_35 fl_X12_117 ⟨fs, q5, e1, e2, ?_⟩
      refine gG_bipush (v := 19) dX12_run_38 (by decide) ?_
      refine gG_iload_n dX12_run_40 rfl rfl ?_
      refine gG_iadd dX12_run_41 ?_
      refine gG_iconst (v := 1) dX12_run_42 (by decide) ?_
      refine gG_isub dX12_run_43 ?_
      obtain ⟨m0, f0, e1, e2, h⟩ := h
      refine gG_iald dX12_run_44 ⟨m0, f0, e1, e2, ?_⟩
      obtain ⟨x6, eH⟩ : ∃ z, z = f0 (Int32.toNatClampNeg ((((19 : Int32) + i3) - (1 : Int32)))) := ⟨_, rfl⟩
      rw [← eH] at h ⊢
      refine gG_ic_ne (tgt := 54) dX12_run_45 (by decide) (fun c => ?_) (fun c => ?_)
      · have h := h.1 c
        refine gG_iconst (v := 1) dX12_run_54 (by decide) ?_
        refine gG_istore_n dX12_run_55 rfl (Nat.le_of_ble_eq_true rfl) ?_
        refine gG_locals ?_ h
        exact ⟨rfl, ⟨rfl, ⟨rfl, ⟨rfl, trivial⟩⟩⟩⟩
      · have h := h.2 c
        refine gG_iload_n dX12_run_48 rfl rfl ?_
        refine gG_iconst (v := 1) dX12_run_49 (by decide) ?_
        refine gG_iadd dX12_run_50 ?_
        refine gG_goto (tgt := 55) dX12_run_51 (by decide) ?_
        refine gG_istore_n dX12_run_55 rfl (Nat.le_of_ble_eq_true rfl) ?_
        refine gG_locals ?_ h
        exact ⟨rfl, ⟨rfl, ⟨rfl, ⟨rfl, trivial⟩⟩⟩⟩
theorem kX12_run_56 {d n : Nat} {H : gHp} {P : gHp → Int32 → Prop} {a0 : Nat} {i1 : Int32} {i2 : Int32} {i3 : Int32} (hd1 : 1 ≤ d) (h : g_gr H (a0) 12 47 (fun q1 => g_al 0 H (q1) (((19 : Int32) + i3)) (fun x2 => (x2 = (6 : Int32) → gG d mX12_run 0 0 (g_Xj mX12_run n 0 0 P) 11 n H [some (.ref (a0)), some (.int (i1)), some (.int (i2)), some (.int ((i3 + 1)))] [] (0) (0)) ∧ (¬ (x2 = (6 : Int32)) → gG d mX12_run 0 0 (g_Xj mX12_run n 0 0 P) 11 n H [some (.ref (a0)), some (.int ((if i1 < i2 then i2 else i1))), some (.int (i2)), some (.int ((i3 + 1)))] [] (0) (0))))) : gG d mX12_run 0 0 (g_Xj mX12_run n 0 0 P) 56 n H [some (.ref (a0)), some (.int (i1)), some (.int (i2)), some (.int (i3))] [] 0 0 := by
  refine gG_aload_n dX12_run_56 rfl rfl ?_
  obtain ⟨fs, q1, e1, e2, h⟩ := h
  refine gG_gr dX12_run_57 fl_X12_117 ⟨fs, q1, e1, e2, ?_⟩
  refine gG_bipush (v := 19) dX12_run_60 (by decide) ?_
  refine gG_iload_n dX12_run_62 rfl rfl ?_
  refine gG_iadd dX12_run_63 ?_
  obtain ⟨m0, f0, e1, e2, h⟩ := h
  refine gG_iald dX12_run_64 ⟨m0, f0, e1, e2, ?_⟩
  obtain ⟨x2, eH⟩ : ∃ z, z = f0 (Int32.toNatClampNeg (((19 : Int32) + i3))) := ⟨_, rfl⟩
  rw [← eH] at h ⊢
  refine gG_bipush (v := 6) dX12_run_65 (by decide) ?_
  refine gG_ic_eq (tgt := 76) dX12_run_67 (by decide) (fun c => ?_) (fun c => ?_)
  · have h := h.1 c
    refine gG_iinc (v := i3 + 1) dX12_run_76 rfl rfl (Nat.le_of_ble_eq_true rfl) ?_
    refine gG_goto (tgt := 11) dX12_run_79 (by decide) ?_
    refine gG_locals ?_ h
    exact ⟨rfl, ⟨rfl, ⟨rfl, ⟨rfl, trivial⟩⟩⟩⟩
  · have h := h.2 c
    refine gG_iload_n dX12_run_70 rfl rfl ?_
    refine gG_iload_n dX12_run_71 rfl rfl ?_
    refine gG_max dX12_run_72 lk_X12_435 st_max ini_Math co_max hd1 (Nat.le_of_ble_eq_true rfl) (Nat.le_refl _) (Nat.le_refl _) ?_
    refine gG_istore_n dX12_run_75 rfl (Nat.le_of_ble_eq_true rfl) ?_
    refine gG_iinc (v := i3 + 1) dX12_run_76 rfl rfl (Nat.le_of_ble_eq_true rfl) ?_
    refine gG_goto (tgt := 11) dX12_run_79 (by decide) ?_
    refine gG_locals ?_ h
    exact ⟨rfl, ⟨rfl, ⟨rfl, ⟨rfl, trivial⟩⟩⟩⟩

theorem kX12_standsAt_0 {d n : Nat} {H : gHp} {P : gHp → Bool → Prop} {a0 : Nat} {i1 : Int32} {i2 : Int32} (h : g_gr H (a0) 12 42 (fun q1 => g_al 0 H (q1) ((0 : Int32)) (fun x2 => g_gr H (a0) 12 47 (fun q3 => g_al 0 H (q3) ((4 : Int32)) (fun x4 => ((i1 + x2) ≤ x4 → gG d mX12_standsAt 0 0 (g_Xz mX12_standsAt n 0 0 P) 21 n H [some (.ref (a0)), some (.int (i1)), some (.int (i2)), some (.int ((0 : Int32)))] [] (0) (0)) ∧ (¬ ((i1 + x2) ≤ x4) → P H false)))))) : gG d mX12_standsAt 0 0 (g_Xz mX12_standsAt n 0 0 P) 0 n H [some (.ref (a0)), some (.int (i1)), some (.int (i2)), none] [] 0 0 := by
  refine gG_iload_n dX12_standsAt_0 rfl rfl ?_
  refine gG_aload_n dX12_standsAt_1 rfl rfl ?_
  obtain ⟨fs, q1, e1, e2, h⟩ := h
  refine gG_gr dX12_standsAt_2 fl_X12_102 ⟨fs, q1, e1, e2, ?_⟩
  refine gG_iconst (v := 0) dX12_standsAt_5 (by decide) ?_
  obtain ⟨m0, f0, e1, e2, h⟩ := h
  refine gG_iald dX12_standsAt_6 ⟨m0, f0, e1, e2, ?_⟩
  obtain ⟨x2, eH⟩ : ∃ z, z = f0 (Int32.toNatClampNeg ((0 : Int32))) := ⟨_, rfl⟩
  rw [← eH] at h ⊢
  refine gG_iadd dX12_standsAt_7 ?_
  refine gG_aload_n dX12_standsAt_8 rfl rfl ?_
  obtain ⟨fs, q3, e1, e2, h⟩ := h
  refine gG_gr dX12_standsAt_9 fl_X12_117 ⟨fs, q3, e1, e2, ?_⟩
  refine gG_iconst (v := 4) dX12_standsAt_12 (by decide) ?_
  obtain ⟨m0, f0, e1, e2, h⟩ := h
  refine gG_iald dX12_standsAt_13 ⟨m0, f0, e1, e2, ?_⟩
  obtain ⟨x4, eH⟩ : ∃ z, z = f0 (Int32.toNatClampNeg ((4 : Int32))) := ⟨_, rfl⟩
  rw [← eH] at h ⊢
  refine gG_ic_le (tgt := 19) dX12_standsAt_14 (by decide) (fun c => ?_) (fun c => ?_)
  · have h := h.1 c
    refine gG_iconst (v := 0) dX12_standsAt_19 (by decide) ?_
    refine gG_istore_n dX12_standsAt_20 rfl (Nat.le_of_ble_eq_true rfl) ?_
    refine gG_locals ?_ h
    exact ⟨rfl, ⟨rfl, ⟨rfl, ⟨rfl, trivial⟩⟩⟩⟩
  · have h := h.2 c
    refine gG_iconst (v := 0) dX12_standsAt_17 (by decide) ?_
    exact gG_exit ⟨rfl, rfl, rfl, dX12_standsAt_18, false, rfl, h⟩
theorem kX12_standsAt_21 {d n : Nat} {H : gHp} {P : gHp → Bool → Prop} {a0 : Nat} {i1 : Int32} {i2 : Int32} {i3 : Int32} (h : g_gr H (a0) 12 42 (fun q1 => g_al 0 H (q1) ((0 : Int32)) (fun x2 => (x2 ≤ i3 → P H true) ∧ (¬ (x2 ≤ i3) → g_gr H (a0) 12 47 (fun q3 => g_al 0 H (q3) ((((19 : Int32) + i1) + i3)) (fun x4 => g_gr H (a0) 12 43 (fun q5 => g_al 0 H (q5) (i3) (fun x6 => (x4 = x6 → gG d mX12_standsAt 0 0 (g_Xz mX12_standsAt n 0 0 P) 21 n H [some (.ref (a0)), some (.int (i1)), some (.int (i2)), some (.int ((i3 + 1)))] [] (0) (0)) ∧ (¬ (x4 = x6) → (i2 = 0 → P H false) ∧ (¬ (i2 = 0) → g_gr H (a0) 12 47 (fun q7 => g_al 0 H (q7) ((((19 : Int32) + i1) + i3)) (fun x8 => (x8 = (6 : Int32) → gG d mX12_standsAt 0 0 (g_Xz mX12_standsAt n 0 0 P) 21 n H [some (.ref (a0)), some (.int (i1)), some (.int (i2)), some (.int ((i3 + 1)))] [] (0) (0)) ∧ (¬ (x8 = (6 : Int32)) → P H false))))))))))))) : gG d mX12_standsAt 0 0 (g_Xz mX12_standsAt n 0 0 P) 21 n H [some (.ref (a0)), some (.int (i1)), some (.int (i2)), some (.int (i3))] [] 0 0 := by
  refine gG_iload_n dX12_standsAt_21 rfl rfl ?_
  refine gG_aload_n dX12_standsAt_22 rfl rfl ?_
  obtain ⟨fs, q1, e1, e2, h⟩ := h
  refine gG_gr dX12_standsAt_23 fl_X12_102 ⟨fs, q1, e1, e2, ?_⟩
  refine gG_iconst (v := 0) dX12_standsAt_26 (by decide) ?_
  obtain ⟨m0, f0, e1, e2, h⟩ := h
  refine gG_iald dX12_standsAt_27 ⟨m0, f0, e1, e2, ?_⟩
  obtain ⟨x2, eH⟩ : ∃ z, z = f0 (Int32.toNatClampNeg ((0 : Int32))) := ⟨_, rfl⟩
  rw [← eH] at h ⊢
  refine gG_ic_ge (tgt := 79) dX12_standsAt_28 (by decide) (fun c => ?_) (fun c => ?_)
  · have h := h.1 c
    refine gG_iconst (v := 1) dX12_standsAt_79 (by decide) ?_
    exact gG_exit ⟨rfl, rfl, rfl, dX12_standsAt_80, true, rfl, h⟩
  · have h := h.2 c
    refine gG_aload_n dX12_standsAt_31 rfl rfl ?_
    obtain ⟨fs, q3, e1, e2, h⟩ := h
    refine gG_gr dX12_standsAt_32 fl_X12_117 ⟨fs, q3, e1, e2, ?_⟩
    refine gG_bipush (v := 19) dX12_standsAt_35 (by decide) ?_
    refine gG_iload_n dX12_standsAt_37 rfl rfl ?_
    refine gG_iadd dX12_standsAt_38 ?_
    refine gG_iload_n dX12_standsAt_39 rfl rfl ?_
    refine gG_iadd dX12_standsAt_40 ?_
    obtain ⟨m0, f0, e1, e2, h⟩ := h
    refine gG_iald dX12_standsAt_41 ⟨m0, f0, e1, e2, ?_⟩
    obtain ⟨x4, eH⟩ : ∃ z, z = f0 (Int32.toNatClampNeg ((((19 : Int32) + i1) + i3))) := ⟨_, rfl⟩
    rw [← eH] at h ⊢
    refine gG_aload_n dX12_standsAt_42 rfl rfl ?_
    obtain ⟨fs, q5, e1, e2, h⟩ := h
    refine gG_gr dX12_standsAt_43 fl_X12_105 ⟨fs, q5, e1, e2, ?_⟩
    refine gG_iload_n dX12_standsAt_46 rfl rfl ?_
    obtain ⟨m0, f0, e1, e2, h⟩ := h
    refine gG_iald dX12_standsAt_47 ⟨m0, f0, e1, e2, ?_⟩
    obtain ⟨x6, eH⟩ : ∃ z, z = f0 (Int32.toNatClampNeg (i3)) := ⟨_, rfl⟩
    rw [← eH] at h ⊢
    refine gG_ic_eq (tgt := 73) dX12_standsAt_48 (by decide) (fun c => ?_) (fun c => ?_)
    · have h := h.1 c
      refine gG_iinc (v := i3 + 1) dX12_standsAt_73 rfl rfl (Nat.le_of_ble_eq_true rfl) ?_
      refine gG_goto (tgt := 21) dX12_standsAt_76 (by decide) ?_
      refine gG_locals ?_ h
      exact ⟨rfl, ⟨rfl, ⟨rfl, ⟨rfl, trivial⟩⟩⟩⟩
    · have h := h.2 c
      refine gG_iload_n dX12_standsAt_51 rfl rfl ?_
      refine gG_if_eq (tgt := 71) dX12_standsAt_52 (by decide) (fun c => ?_) (fun c => ?_)
      · have h := h.1 c
        refine gG_iconst (v := 0) dX12_standsAt_71 (by decide) ?_
        exact gG_exit ⟨rfl, rfl, rfl, dX12_standsAt_72, false, rfl, h⟩
      · have h := h.2 c
        refine gG_aload_n dX12_standsAt_55 rfl rfl ?_
        obtain ⟨fs, q7, e1, e2, h⟩ := h
        refine gG_gr dX12_standsAt_56 fl_X12_117 ⟨fs, q7, e1, e2, ?_⟩
        refine gG_bipush (v := 19) dX12_standsAt_59 (by decide) ?_
        refine gG_iload_n dX12_standsAt_61 rfl rfl ?_
        refine gG_iadd dX12_standsAt_62 ?_
        refine gG_iload_n dX12_standsAt_63 rfl rfl ?_
        refine gG_iadd dX12_standsAt_64 ?_
        obtain ⟨m0, f0, e1, e2, h⟩ := h
        refine gG_iald dX12_standsAt_65 ⟨m0, f0, e1, e2, ?_⟩
        obtain ⟨x8, eH⟩ : ∃ z, z = f0 (Int32.toNatClampNeg ((((19 : Int32) + i1) + i3))) := ⟨_, rfl⟩
        rw [← eH] at h ⊢
        refine gG_bipush (v := 6) dX12_standsAt_66 (by decide) ?_
        refine gG_ic_eq (tgt := 73) dX12_standsAt_68 (by decide) (fun c => ?_) (fun c => ?_)
        · have h := h.1 c
          refine gG_iinc (v := i3 + 1) dX12_standsAt_73 rfl rfl (Nat.le_of_ble_eq_true rfl) ?_
          refine gG_goto (tgt := 21) dX12_standsAt_76 (by decide) ?_
          refine gG_locals ?_ h
          exact ⟨rfl, ⟨rfl, ⟨rfl, ⟨rfl, trivial⟩⟩⟩⟩
        · have h := h.2 c
          refine gG_iconst (v := 0) dX12_standsAt_71 (by decide) ?_
          exact gG_exit ⟨rfl, rfl, rfl, dX12_standsAt_72, false, rfl, h⟩

theorem kX12_standsFrom_0 {d n : Nat} {H : gHp} {P : gHp → Int32 → Prop} {a0 : Nat} (h : gG d mX12_standsFrom 0 0 (g_Xj mX12_standsFrom n 0 0 P) 2 n H [some (.ref (a0)), some (.int ((0 : Int32)))] [] (0) (0)) : gG d mX12_standsFrom 0 0 (g_Xj mX12_standsFrom n 0 0 P) 0 n H [some (.ref (a0)), none] [] 0 0 := by
  refine gG_iconst (v := 0) dX12_standsFrom_0 (by decide) ?_
  refine gG_istore_n dX12_standsFrom_1 rfl (Nat.le_of_ble_eq_true rfl) ?_
  refine gG_locals ?_ h
  exact ⟨rfl, ⟨rfl, trivial⟩⟩
theorem kX12_standsFrom_2 {d n : Nat} {H : gHp} {P : gHp → Int32 → Prop} {a0 : Nat} {i1 : Int32} (h : g_gr H (a0) 12 47 (fun q1 => g_al 0 H (q1) ((4 : Int32)) (fun x2 => (x2 ≤ i1 → P H ((-1 : Int32))) ∧ (¬ (x2 ≤ i1) → (∃ fs, H (a0) = .inr (12, fs)) ∧ g_cz d mX12_standsAt n H [.ref (a0), .int (i1), .int ((0 : Int32))] (fun H3 b4 => (b4 = false → gG d mX12_standsFrom 0 0 (g_Xj mX12_standsFrom n 0 0 P) 2 n H3 [some (.ref (a0)), some (.int ((i1 + 1)))] [] (0) (0)) ∧ (b4 = true → P H3 (i1))))))) : gG d mX12_standsFrom 0 0 (g_Xj mX12_standsFrom n 0 0 P) 2 n H [some (.ref (a0)), some (.int (i1))] [] 0 0 := by
  refine gG_iload_n dX12_standsFrom_2 rfl rfl ?_
  refine gG_aload_n dX12_standsFrom_3 rfl rfl ?_
  obtain ⟨fs, q1, e1, e2, h⟩ := h
  refine gG_gr dX12_standsFrom_4 fl_X12_117 ⟨fs, q1, e1, e2, ?_⟩
  refine gG_iconst (v := 4) dX12_standsFrom_7 (by decide) ?_
  obtain ⟨m0, f0, e1, e2, h⟩ := h
  refine gG_iald dX12_standsFrom_8 ⟨m0, f0, e1, e2, ?_⟩
  obtain ⟨x2, eH⟩ : ∃ z, z = f0 (Int32.toNatClampNeg ((4 : Int32))) := ⟨_, rfl⟩
  rw [← eH] at h ⊢
  refine gG_ic_ge (tgt := 29) dX12_standsFrom_9 (by decide) (fun c => ?_) (fun c => ?_)
  · have h := h.1 c
    refine gG_iconst (v := (-1)) dX12_standsFrom_29 (by decide) ?_
    exact gG_exit ⟨rfl, rfl, rfl, dX12_standsFrom_30, _, rfl, h⟩
  · have h := h.2 c
    refine gG_aload_n dX12_standsFrom_12 rfl rfl ?_
    refine gG_iload_n dX12_standsFrom_13 rfl rfl ?_
    refine gG_iconst (v := 0) dX12_standsFrom_14 (by decide) ?_
    obtain ⟨hrc, d2, P2, hdd, hC, h⟩ := h
    refine gG_cvi (As := [.int (i1), .int ((0 : Int32))]) (st := []) dX12_standsFrom_15 mV_X12_438 hdd hrc rfl rfl (Nat.le_of_ble_eq_true rfl) (Nat.le_refl _) ⟨Nat.le_refl _, Nat.le_refl _⟩ hC (fun H3 x9 hp => ?_)
    obtain ⟨b4, rfl, hp⟩ := hp
    have h := h H3 b4 hp
    refine gG_if_eq (tgt := 23) dX12_standsFrom_18 (by decide) (fun c => ?_) (fun c => ?_)
    · have h := h.1 (g_b_f c)
      refine gG_iinc (v := i1 + 1) dX12_standsFrom_23 rfl rfl (Nat.le_of_ble_eq_true rfl) ?_
      refine gG_goto (tgt := 2) dX12_standsFrom_26 (by decide) ?_
      refine gG_locals ?_ h
      exact ⟨rfl, ⟨rfl, trivial⟩⟩
    · have h := h.2 (g_b_t c)
      refine gG_iload_n dX12_standsFrom_21 rfl rfl ?_
      exact gG_exit ⟨rfl, rfl, rfl, dX12_standsFrom_22, _, rfl, h⟩

theorem kX12_stands_0 {d n : Nat} {H : gHp} {P : gHp → Int32 → Prop} {a0 : Nat} (h : g_pf H (a0) 12 0 (.int ((0 : Int32))) (fun H1 => g_gr H1 (a0) 12 42 (fun q2 => g_al 0 H1 (q2) ((0 : Int32)) (fun x3 => (¬ (x3 = 0) → (∃ fs, H1 (a0) = .inr (12, fs)) ∧ g_ci d mX12_standsFrom n H1 [.ref (a0)] (fun H4 x5 => P H4 (x5))) ∧ (x3 = 0 → P H1 ((-1 : Int32))))))) : gG d mX12_stands 0 0 (g_Xj mX12_stands n 0 0 P) 0 n H [some (.ref (a0))] [] 0 0 := by
  refine gG_aload_n dX12_stands_0 rfl rfl ?_
  refine gG_iconst (v := 0) dX12_stands_1 (by decide) ?_
  obtain ⟨fs, e1, e2, h⟩ := h
  refine gG_pi dX12_stands_2 fl_X12_147 ⟨fs, e1, e2, ?_⟩
  obtain ⟨H1, eH⟩ : ∃ z, z = va_up H (a0) (.inr (12, fs.set 0 (.int ((0 : Int32))))) := ⟨_, rfl⟩
  rw [← eH] at h ⊢
  refine gG_aload_n dX12_stands_5 rfl rfl ?_
  obtain ⟨fs, q2, e1, e2, h⟩ := h
  refine gG_gr dX12_stands_6 fl_X12_102 ⟨fs, q2, e1, e2, ?_⟩
  refine gG_iconst (v := 0) dX12_stands_9 (by decide) ?_
  obtain ⟨m0, f0, e1, e2, h⟩ := h
  refine gG_iald dX12_stands_10 ⟨m0, f0, e1, e2, ?_⟩
  obtain ⟨x3, eH⟩ : ∃ z, z = f0 (Int32.toNatClampNeg ((0 : Int32))) := ⟨_, rfl⟩
  rw [← eH] at h ⊢
  refine gG_if_ne (tgt := 18) dX12_stands_11 (by decide) (fun c => ?_) (fun c => ?_)
  · have h := h.1 c
    refine gG_aload_n dX12_stands_18 rfl rfl ?_
    obtain ⟨hrc, d2, P2, hdd, hC, h⟩ := h
    refine gG_cvi (As := []) (st := []) dX12_stands_19 mV_X12_442 hdd hrc rfl rfl (Nat.le_of_ble_eq_true rfl) (Nat.le_refl _) ⟨Nat.le_refl _, Nat.le_refl _⟩ hC (fun H4 x5 hp => ?_)
    have h := h H4 x5 hp
    exact gG_exit ⟨rfl, rfl, rfl, dX12_stands_22, _, rfl, h⟩
  · have h := h.2 c
    refine gG_iconst (v := (-1)) dX12_stands_14 (by decide) ?_
    refine gG_goto (tgt := 22) dX12_stands_15 (by decide) ?_
    exact gG_exit ⟨rfl, rfl, rfl, dX12_stands_22, _, rfl, h⟩

theorem kX12_maybe_0 {d n : Nat} {H : gHp} {P : gHp → Int32 → Prop} {a0 : Nat} (h : g_pf H (a0) 12 0 (.int ((0 : Int32))) (fun H1 => g_gr H1 (a0) 12 42 (fun q2 => g_al 0 H1 (q2) ((0 : Int32)) (fun x3 => (¬ (x3 = 0) → gG d mX12_maybe 0 0 (g_Xj mX12_maybe n 0 0 P) 20 n H1 [some (.ref (a0)), some (.int ((0 : Int32))), some (.int ((0 : Int32)))] [] (0) (0)) ∧ (x3 = 0 → P H1 ((-1 : Int32))))))) : gG d mX12_maybe 0 0 (g_Xj mX12_maybe n 0 0 P) 0 n H [some (.ref (a0)), none, none] [] 0 0 := by
  refine gG_aload_n dX12_maybe_0 rfl rfl ?_
  refine gG_iconst (v := 0) dX12_maybe_1 (by decide) ?_
  obtain ⟨fs, e1, e2, h⟩ := h
  refine gG_pi dX12_maybe_2 fl_X12_147 ⟨fs, e1, e2, ?_⟩
  obtain ⟨H1, eH⟩ : ∃ z, z = va_up H (a0) (.inr (12, fs.set 0 (.int ((0 : Int32))))) := ⟨_, rfl⟩
  rw [← eH] at h ⊢
  refine gG_aload_n dX12_maybe_5 rfl rfl ?_
  obtain ⟨fs, q2, e1, e2, h⟩ := h
  refine gG_gr dX12_maybe_6 fl_X12_102 ⟨fs, q2, e1, e2, ?_⟩
  refine gG_iconst (v := 0) dX12_maybe_9 (by decide) ?_
  obtain ⟨m0, f0, e1, e2, h⟩ := h
  refine gG_iald dX12_maybe_10 ⟨m0, f0, e1, e2, ?_⟩
  obtain ⟨x3, eH⟩ : ∃ z, z = f0 (Int32.toNatClampNeg ((0 : Int32))) := ⟨_, rfl⟩
  rw [← eH] at h ⊢
  refine gG_if_ne (tgt := 16) dX12_maybe_11 (by decide) (fun c => ?_) (fun c => ?_)
  · have h := h.1 c
    refine gG_iconst (v := 0) dX12_maybe_16 (by decide) ?_
    refine gG_istore_n dX12_maybe_17 rfl (Nat.le_of_ble_eq_true rfl) ?_
    refine gG_iconst (v := 0) dX12_maybe_18 (by decide) ?_
    refine gG_istore_n dX12_maybe_19 rfl (Nat.le_of_ble_eq_true rfl) ?_
    refine gG_locals ?_ h
    exact ⟨rfl, ⟨rfl, ⟨rfl, trivial⟩⟩⟩
  · have h := h.2 c
    refine gG_iconst (v := (-1)) dX12_maybe_14 (by decide) ?_
    exact gG_exit ⟨rfl, rfl, rfl, dX12_maybe_15, _, rfl, h⟩
theorem kX12_maybe_20 {d n : Nat} {H : gHp} {P : gHp → Int32 → Prop} {a0 : Nat} {i1 : Int32} {i2 : Int32} (h : g_gr H (a0) 12 47 (fun q1 => g_al 0 H (q1) ((4 : Int32)) (fun x2 => (x2 ≤ i2 → P H (i1)) ∧ (¬ (x2 ≤ i2) → (∃ fs, H (a0) = .inr (12, fs)) ∧ g_cz d mX12_standsAt n H [.ref (a0), .int (i2), .int ((1 : Int32))] (fun H3 b4 => (b4 = false → gG d mX12_maybe 0 0 (g_Xj mX12_maybe n 0 0 P) 20 n H3 [some (.ref (a0)), some (.int ((i1 + (0 : Int32)))), some (.int ((i2 + 1)))] [] (0) (0)) ∧ (b4 = true → gG d mX12_maybe 0 0 (g_Xj mX12_maybe n 0 0 P) 20 n H3 [some (.ref (a0)), some (.int ((i1 + (1 : Int32)))), some (.int ((i2 + 1)))] [] (0) (0))))))) : gG d mX12_maybe 0 0 (g_Xj mX12_maybe n 0 0 P) 20 n H [some (.ref (a0)), some (.int (i1)), some (.int (i2))] [] 0 0 := by
  refine gG_iload_n dX12_maybe_20 rfl rfl ?_
  refine gG_aload_n dX12_maybe_21 rfl rfl ?_
  obtain ⟨fs, q1, e1, e2, h⟩ := h
  refine gG_gr dX12_maybe_22 fl_X12_117 ⟨fs, q1, e1, e2, ?_⟩
  refine gG_iconst (v := 4) dX12_maybe_25 (by decide) ?_
  obtain ⟨m0, f0, e1, e2, h⟩ := h
  refine gG_iald dX12_maybe_26 ⟨m0, f0, e1, e2, ?_⟩
  obtain ⟨x2, eH⟩ : ∃ z, z = f0 (Int32.toNatClampNeg ((4 : Int32))) := ⟨_, rfl⟩
  rw [← eH] at h ⊢
  refine gG_ic_ge (tgt := 53) dX12_maybe_27 (by decide) (fun c => ?_) (fun c => ?_)
  · have h := h.1 c
    refine gG_iload_n dX12_maybe_53 rfl rfl ?_
    exact gG_exit ⟨rfl, rfl, rfl, dX12_maybe_54, _, rfl, h⟩
  · have h := h.2 c
    refine gG_iload_n dX12_maybe_30 rfl rfl ?_
    refine gG_aload_n dX12_maybe_31 rfl rfl ?_
    refine gG_iload_n dX12_maybe_32 rfl rfl ?_
    refine gG_iconst (v := 1) dX12_maybe_33 (by decide) ?_
    obtain ⟨hrc, d2, P2, hdd, hC, h⟩ := h
    refine gG_cvi (As := [.int (i2), .int ((1 : Int32))]) (st := [.int (i1)]) dX12_maybe_34 mV_X12_438 hdd hrc rfl rfl (Nat.le_of_ble_eq_true rfl) (Nat.le_refl _) ⟨Nat.le_refl _, Nat.le_refl _⟩ hC (fun H3 x9 hp => ?_)
    obtain ⟨b4, rfl, hp⟩ := hp
    have h := h H3 b4 hp
    refine gG_if_eq (tgt := 44) dX12_maybe_37 (by decide) (fun c => ?_) (fun c => ?_)
    · have h := h.1 (g_b_f c)
      refine gG_iconst (v := 0) dX12_maybe_44 (by decide) ?_
      refine gG_iadd dX12_maybe_45 ?_
      refine gG_istore_n dX12_maybe_46 rfl (Nat.le_of_ble_eq_true rfl) ?_
      refine gG_iinc (v := i2 + 1) dX12_maybe_47 rfl rfl (Nat.le_of_ble_eq_true rfl) ?_
      refine gG_goto (tgt := 20) dX12_maybe_50 (by decide) ?_
      refine gG_locals ?_ h
      exact ⟨rfl, ⟨rfl, ⟨rfl, trivial⟩⟩⟩
    · have h := h.2 (g_b_t c)
      refine gG_iconst (v := 1) dX12_maybe_40 (by decide) ?_
      refine gG_goto (tgt := 45) dX12_maybe_41 (by decide) ?_
      refine gG_iadd dX12_maybe_45 ?_
      refine gG_istore_n dX12_maybe_46 rfl (Nat.le_of_ble_eq_true rfl) ?_
      refine gG_iinc (v := i2 + 1) dX12_maybe_47 rfl rfl (Nat.le_of_ble_eq_true rfl) ?_
      refine gG_goto (tgt := 20) dX12_maybe_50 (by decide) ?_
      refine gG_locals ?_ h
      exact ⟨rfl, ⟨rfl, ⟨rfl, trivial⟩⟩⟩

theorem kX12_entire_0 {d n : Nat} {H : gHp} {P : gHp → Int32 → Prop} {a0 : Nat} (h : g_pf H (a0) 12 0 (.int ((0 : Int32))) (fun H1 => g_gr H1 (a0) 12 42 (fun q2 => g_al 0 H1 (q2) ((0 : Int32)) (fun x3 => (¬ (x3 = 0) → g_gr H1 (a0) 12 47 (fun q4 => g_gr H1 (a0) 12 49 (fun q5 => g_cvd d mX12_copies n H1 [.ref (q4), .int ((0 : Int32)), .ref (q5), .int ((0 : Int32))] (fun H6 => gG d mX12_entire 0 0 (g_Xj mX12_entire n 0 0 P) 31 n H6 [some (.ref (a0)), some (.int ((0 : Int32)))] [] (0) (0))))) ∧ (x3 = 0 → P H1 ((-1 : Int32))))))) : gG d mX12_entire 0 0 (g_Xj mX12_entire n 0 0 P) 0 n H [some (.ref (a0)), none] [] 0 0 := by
  refine gG_aload_n dX12_entire_0 rfl rfl ?_
  refine gG_iconst (v := 0) dX12_entire_1 (by decide) ?_
  obtain ⟨fs, e1, e2, h⟩ := h
  refine gG_pi dX12_entire_2 fl_X12_147 ⟨fs, e1, e2, ?_⟩
  obtain ⟨H1, eH⟩ : ∃ z, z = va_up H (a0) (.inr (12, fs.set 0 (.int ((0 : Int32))))) := ⟨_, rfl⟩
  rw [← eH] at h ⊢
  refine gG_aload_n dX12_entire_5 rfl rfl ?_
  obtain ⟨fs, q2, e1, e2, h⟩ := h
  refine gG_gr dX12_entire_6 fl_X12_102 ⟨fs, q2, e1, e2, ?_⟩
  refine gG_iconst (v := 0) dX12_entire_9 (by decide) ?_
  obtain ⟨m0, f0, e1, e2, h⟩ := h
  refine gG_iald dX12_entire_10 ⟨m0, f0, e1, e2, ?_⟩
  obtain ⟨x3, eH⟩ : ∃ z, z = f0 (Int32.toNatClampNeg ((0 : Int32))) := ⟨_, rfl⟩
  rw [← eH] at h ⊢
  refine gG_if_ne (tgt := 16) dX12_entire_11 (by decide) (fun c => ?_) (fun c => ?_)
  · have h := h.1 c
    refine gG_aload_n dX12_entire_16 rfl rfl ?_
    obtain ⟨fs, q4, e1, e2, h⟩ := h
    refine gG_gr dX12_entire_17 fl_X12_117 ⟨fs, q4, e1, e2, ?_⟩
    refine gG_iconst (v := 0) dX12_entire_20 (by decide) ?_
    refine gG_aload_n dX12_entire_21 rfl rfl ?_
    obtain ⟨fs, q5, e1, e2, h⟩ := h
    refine gG_gr dX12_entire_22 fl_X12_123 ⟨fs, q5, e1, e2, ?_⟩
    refine gG_iconst (v := 0) dX12_entire_25 (by decide) ?_
    obtain ⟨d2, P2, hdd, hC, h⟩ := h
    refine gG_csv (As := [.ref (q4), .int ((0 : Int32)), .ref (q5), .int ((0 : Int32))]) (st := []) dX12_entire_26 mS_X12_401 hdd rfl rfl (Nat.le_of_ble_eq_true rfl) (Nat.le_refl _) ⟨Nat.le_refl _, Nat.le_refl _⟩ hC (fun H6 hp => ?_)
    have h := h H6 hp
    refine gG_iconst (v := 0) dX12_entire_29 (by decide) ?_
    refine gG_istore_n dX12_entire_30 rfl (Nat.le_of_ble_eq_true rfl) ?_
    refine gG_locals ?_ h
    exact ⟨rfl, ⟨rfl, trivial⟩⟩
  · have h := h.2 c
    refine gG_iconst (v := (-1)) dX12_entire_14 (by decide) ?_
    exact gG_exit ⟨rfl, rfl, rfl, dX12_entire_15, _, rfl, h⟩
theorem kX12_entire_31 {d n : Nat} {H : gHp} {P : gHp → Int32 → Prop} {a0 : Nat} {i1 : Int32} (h : ((60 : Int32) < i1 → gG d mX12_entire 0 0 (g_Xj mX12_entire n 0 0 P) 55 n H [some (.ref (a0)), some (.int (i1))] [] (0) (0)) ∧ (¬ ((60 : Int32) < i1) → (∃ fs, H (a0) = .inr (12, fs)) ∧ g_ci d mX12_standsFrom n H [.ref (a0)] (fun H1 x2 => (0 ≤ x2 → gG d mX12_entire 0 0 (g_Xj mX12_entire n 0 0 P) 55 n H1 [some (.ref (a0)), some (.int (i1))] [] (0) (0)) ∧ (¬ (0 ≤ x2) → (∃ fs, H1 (a0) = .inr (12, fs)) ∧ g_ci d mX12_passesAsTold n H1 [.ref (a0)] (fun H3 x4 => gG d mX12_entire 0 0 (g_Xj mX12_entire n 0 0 P) 31 n H3 [some (.ref (a0)), some (.int ((i1 + 1)))] [] (0) (0)))))) : gG d mX12_entire 0 0 (g_Xj mX12_entire n 0 0 P) 31 n H [some (.ref (a0)), some (.int (i1))] [] 0 0 := by
  refine gG_iload_n dX12_entire_31 rfl rfl ?_
  refine gG_bipush (v := 60) dX12_entire_32 (by decide) ?_
  refine gG_ic_gt (tgt := 55) dX12_entire_34 (by decide) (fun c => ?_) (fun c => ?_)
  · have h := h.1 c
    refine gG_locals ?_ h
    exact ⟨rfl, ⟨rfl, trivial⟩⟩
  · have h := h.2 c
    refine gG_aload_n dX12_entire_37 rfl rfl ?_
    obtain ⟨hrc, d2, P2, hdd, hC, h⟩ := h
    refine gG_cvi (As := []) (st := []) dX12_entire_38 mV_X12_442 hdd hrc rfl rfl (Nat.le_of_ble_eq_true rfl) (Nat.le_refl _) ⟨Nat.le_refl _, Nat.le_refl _⟩ hC (fun H1 x2 hp => ?_)
    have h := h H1 x2 hp
    refine gG_if_ge (tgt := 55) dX12_entire_41 (by decide) (fun c => ?_) (fun c => ?_)
    · have h := h.1 c
      refine gG_locals ?_ h
      exact ⟨rfl, ⟨rfl, trivial⟩⟩
    · have h := h.2 c
      refine gG_aload_n dX12_entire_44 rfl rfl ?_
      obtain ⟨hrc, d2, P2, hdd, hC, h⟩ := h
      refine gG_cvi (As := []) (st := []) dX12_entire_45 mV_X12_408 hdd hrc rfl rfl (Nat.le_of_ble_eq_true rfl) (Nat.le_refl _) ⟨Nat.le_refl _, Nat.le_refl _⟩ hC (fun H3 x4 hp => ?_)
      have h := h H3 x4 hp
      refine gG_pop dX12_entire_48 rfl ?_
      refine gG_iinc (v := i1 + 1) dX12_entire_49 rfl rfl (Nat.le_of_ble_eq_true rfl) ?_
      refine gG_goto (tgt := 31) dX12_entire_52 (by decide) ?_
      refine gG_locals ?_ h
      exact ⟨rfl, ⟨rfl, trivial⟩⟩
theorem kX12_entire_55 {d n : Nat} {H : gHp} {P : gHp → Int32 → Prop} {a0 : Nat} {i1 : Int32} (h : g_gr H (a0) 12 49 (fun q1 => g_gr H (a0) 12 47 (fun q2 => g_cvd d mX12_copies n H [.ref (q1), .int ((0 : Int32)), .ref (q2), .int ((0 : Int32))] (fun H3 => (i1 ≤ (60 : Int32) → P H3 (i1)) ∧ (¬ (i1 ≤ (60 : Int32)) → P H3 ((-1 : Int32))))))) : gG d mX12_entire 0 0 (g_Xj mX12_entire n 0 0 P) 55 n H [some (.ref (a0)), some (.int (i1))] [] 0 0 := by
  refine gG_aload_n dX12_entire_55 rfl rfl ?_
  obtain ⟨fs, q1, e1, e2, h⟩ := h
  refine gG_gr dX12_entire_56 fl_X12_123 ⟨fs, q1, e1, e2, ?_⟩
  refine gG_iconst (v := 0) dX12_entire_59 (by decide) ?_
  refine gG_aload_n dX12_entire_60 rfl rfl ?_
  obtain ⟨fs, q2, e1, e2, h⟩ := h
  refine gG_gr dX12_entire_61 fl_X12_117 ⟨fs, q2, e1, e2, ?_⟩
  refine gG_iconst (v := 0) dX12_entire_64 (by decide) ?_
  obtain ⟨d2, P2, hdd, hC, h⟩ := h
  refine gG_csv (As := [.ref (q1), .int ((0 : Int32)), .ref (q2), .int ((0 : Int32))]) (st := []) dX12_entire_65 mS_X12_401 hdd rfl rfl (Nat.le_of_ble_eq_true rfl) (Nat.le_refl _) ⟨Nat.le_refl _, Nat.le_refl _⟩ hC (fun H3 hp => ?_)
  have h := h H3 hp
  refine gG_iload_n dX12_entire_68 rfl rfl ?_
  refine gG_bipush (v := 60) dX12_entire_69 (by decide) ?_
  refine gG_ic_le (tgt := 78) dX12_entire_71 (by decide) (fun c => ?_) (fun c => ?_)
  · have h := h.1 c
    refine gG_iload_n dX12_entire_78 rfl rfl ?_
    exact gG_exit ⟨rfl, rfl, rfl, dX12_entire_79, _, rfl, h⟩
  · have h := h.2 c
    refine gG_iconst (v := (-1)) dX12_entire_74 (by decide) ?_
    refine gG_goto (tgt := 79) dX12_entire_75 (by decide) ?_
    exact gG_exit ⟨rfl, rfl, rfl, dX12_entire_79, _, rfl, h⟩

theorem kX12_aimOf_0 {d n : Nat} {H : gHp} {P : gHp → Int32 → Prop} {a0 : Nat} {i1 : Int32} {i2 : Int32} (h : gG d mX12_aimOf 0 0 (g_Xj mX12_aimOf n 0 0 P) 2 n H [some (.ref (a0)), some (.int (i1)), some (.int (i2)), some (.int ((0 : Int32))), none] [] (0) (0)) : gG d mX12_aimOf 0 0 (g_Xj mX12_aimOf n 0 0 P) 0 n H [some (.ref (a0)), some (.int (i1)), some (.int (i2)), none, none] [] 0 0 := by
  refine gG_iconst (v := 0) dX12_aimOf_0 (by decide) ?_
  refine gG_istore_n dX12_aimOf_1 rfl (Nat.le_of_ble_eq_true rfl) ?_
  refine gG_locals ?_ h
  exact ⟨rfl, ⟨rfl, ⟨rfl, ⟨rfl, trivial⟩⟩⟩⟩
theorem kX12_aimOf_2 {d n : Nat} {H : gHp} {P : gHp → Int32 → Prop} {a0 : Nat} {i1 : Int32} {i2 : Int32} {i3 : Int32} (h : g_gr H (a0) 12 10 (fun q1 => g_al 0 H (q1) ((0 : Int32)) (fun x2 => (x2 ≤ i3 → P H ((-1 : Int32))) ∧ (¬ (x2 ≤ i3) → g_gr H (a0) 12 47 (fun q3 => g_gr H (a0) 12 49 (fun q4 => g_cvd d mX12_copies n H [.ref (q3), .int ((0 : Int32)), .ref (q4), .int ((0 : Int32))] (fun H5 => (∃ fs, H5 (a0) = .inr (12, fs)) ∧ g_cvd d mX12_pours n H5 [.ref (a0), .int (i3), .int (i2)] (fun H6 => (∃ fs, H6 (a0) = .inr (12, fs)) ∧ g_ci d mX12_passesAsTold n H6 [.ref (a0)] (fun H7 x8 => (¬ (x8 = i1) → gG d mX12_aimOf 0 0 (g_Xj mX12_aimOf n 0 0 P) 46 n H7 [some (.ref (a0)), some (.int (i1)), some (.int (i2)), some (.int (i3)), some (.int ((0 : Int32)))] [] (0) (0)) ∧ (x8 = i1 → gG d mX12_aimOf 0 0 (g_Xj mX12_aimOf n 0 0 P) 46 n H7 [some (.ref (a0)), some (.int (i1)), some (.int (i2)), some (.int (i3)), some (.int ((1 : Int32)))] [] (0) (0))))))))))) : gG d mX12_aimOf 0 0 (g_Xj mX12_aimOf n 0 0 P) 2 n H [some (.ref (a0)), some (.int (i1)), some (.int (i2)), some (.int (i3)), none] [] 0 0 := by
  refine gG_iload_n dX12_aimOf_2 rfl rfl ?_
  refine gG_aload_n dX12_aimOf_3 rfl rfl ?_
  obtain ⟨fs, q1, e1, e2, h⟩ := h
  refine gG_gr dX12_aimOf_4 fl_X12_13 ⟨fs, q1, e1, e2, ?_⟩
  refine gG_iconst (v := 0) dX12_aimOf_7 (by decide) ?_
  obtain ⟨m0, f0, e1, e2, h⟩ := h
  refine gG_iald dX12_aimOf_8 ⟨m0, f0, e1, e2, ?_⟩
  obtain ⟨x2, eH⟩ : ∃ z, z = f0 (Int32.toNatClampNeg ((0 : Int32))) := ⟨_, rfl⟩
  rw [← eH] at h ⊢
  refine gG_ic_ge (tgt := 72) dX12_aimOf_9 (by decide) (fun c => ?_) (fun c => ?_)
  · have h := h.1 c
    refine gG_iconst (v := (-1)) dX12_aimOf_72 (by decide) ?_
    exact gG_exit ⟨rfl, rfl, rfl, dX12_aimOf_73, _, rfl, h⟩
  · have h := h.2 c
    refine gG_aload_n dX12_aimOf_12 rfl rfl ?_
    obtain ⟨fs, q3, e1, e2, h⟩ := h
    refine gG_gr dX12_aimOf_13 fl_X12_117 ⟨fs, q3, e1, e2, ?_⟩
    refine gG_iconst (v := 0) dX12_aimOf_16 (by decide) ?_
    refine gG_aload_n dX12_aimOf_17 rfl rfl ?_
    obtain ⟨fs, q4, e1, e2, h⟩ := h
    refine gG_gr dX12_aimOf_18 fl_X12_123 ⟨fs, q4, e1, e2, ?_⟩
    refine gG_iconst (v := 0) dX12_aimOf_21 (by decide) ?_
    obtain ⟨d2, P2, hdd, hC, h⟩ := h
    refine gG_csv (As := [.ref (q3), .int ((0 : Int32)), .ref (q4), .int ((0 : Int32))]) (st := []) dX12_aimOf_22 mS_X12_401 hdd rfl rfl (Nat.le_of_ble_eq_true rfl) (Nat.le_refl _) ⟨Nat.le_refl _, Nat.le_refl _⟩ hC (fun H5 hp => ?_)
    have h := h H5 hp
    refine gG_aload_n dX12_aimOf_25 rfl rfl ?_
    refine gG_iload_n dX12_aimOf_26 rfl rfl ?_
    refine gG_iload_n dX12_aimOf_27 rfl rfl ?_
    obtain ⟨hrc, d2, P2, hdd, hC, h⟩ := h
    refine gG_cvv (As := [.int (i3), .int (i2)]) (st := []) dX12_aimOf_28 mV_X12_411 hdd hrc rfl rfl (Nat.le_of_ble_eq_true rfl) (Nat.le_refl _) ⟨Nat.le_refl _, Nat.le_refl _⟩ hC (fun H6 hp => ?_)
    have h := h H6 hp
    refine gG_aload_n dX12_aimOf_31 rfl rfl ?_
    obtain ⟨hrc, d2, P2, hdd, hC, h⟩ := h
    refine gG_cvi (As := []) (st := []) dX12_aimOf_32 mV_X12_408 hdd hrc rfl rfl (Nat.le_of_ble_eq_true rfl) (Nat.le_refl _) ⟨Nat.le_refl _, Nat.le_refl _⟩ hC (fun H7 x8 hp => ?_)
    have h := h H7 x8 hp
    refine gG_iload_n dX12_aimOf_35 rfl rfl ?_
    refine gG_ic_ne (tgt := 43) dX12_aimOf_36 (by decide) (fun c => ?_) (fun c => ?_)
    · have h := h.1 c
      refine gG_iconst (v := 0) dX12_aimOf_43 (by decide) ?_
      refine gG_istore dX12_aimOf_44 (Nat.le_of_ble_eq_true rfl) ?_
      refine gG_locals ?_ h
      exact ⟨rfl, ⟨rfl, ⟨rfl, ⟨rfl, ⟨rfl, trivial⟩⟩⟩⟩⟩
    · have h := h.2 c
      refine gG_iconst (v := 1) dX12_aimOf_39 (by decide) ?_
      refine gG_goto (tgt := 44) dX12_aimOf_40 (by decide) ?_
      refine gG_istore dX12_aimOf_44 (Nat.le_of_ble_eq_true rfl) ?_
      refine gG_locals ?_ h
      exact ⟨rfl, ⟨rfl, ⟨rfl, ⟨rfl, ⟨rfl, trivial⟩⟩⟩⟩⟩
theorem kX12_aimOf_46 {d n : Nat} {H : gHp} {P : gHp → Int32 → Prop} {a0 : Nat} {i1 : Int32} {i2 : Int32} {i3 : Int32} {i4 : Int32} (h : g_gr H (a0) 12 49 (fun q1 => g_gr H (a0) 12 47 (fun q2 => g_cvd d mX12_copies n H [.ref (q1), .int ((0 : Int32)), .ref (q2), .int ((0 : Int32))] (fun H3 => (i4 = 0 → gG d mX12_aimOf 0 0 (g_Xj mX12_aimOf n 0 0 P) 2 n H3 [some (.ref (a0)), some (.int (i1)), some (.int (i2)), some (.int ((i3 + 1))), none] [] (0) (0)) ∧ (¬ (i4 = 0) → P H3 (i3)))))) : gG d mX12_aimOf 0 0 (g_Xj mX12_aimOf n 0 0 P) 46 n H [some (.ref (a0)), some (.int (i1)), some (.int (i2)), some (.int (i3)), some (.int (i4))] [] 0 0 := by
  refine gG_aload_n dX12_aimOf_46 rfl rfl ?_
  obtain ⟨fs, q1, e1, e2, h⟩ := h
  refine gG_gr dX12_aimOf_47 fl_X12_123 ⟨fs, q1, e1, e2, ?_⟩
  refine gG_iconst (v := 0) dX12_aimOf_50 (by decide) ?_
  refine gG_aload_n dX12_aimOf_51 rfl rfl ?_
  obtain ⟨fs, q2, e1, e2, h⟩ := h
  refine gG_gr dX12_aimOf_52 fl_X12_117 ⟨fs, q2, e1, e2, ?_⟩
  refine gG_iconst (v := 0) dX12_aimOf_55 (by decide) ?_
  obtain ⟨d2, P2, hdd, hC, h⟩ := h
  refine gG_csv (As := [.ref (q1), .int ((0 : Int32)), .ref (q2), .int ((0 : Int32))]) (st := []) dX12_aimOf_56 mS_X12_401 hdd rfl rfl (Nat.le_of_ble_eq_true rfl) (Nat.le_refl _) ⟨Nat.le_refl _, Nat.le_refl _⟩ hC (fun H3 hp => ?_)
  have h := h H3 hp
  refine gG_iload dX12_aimOf_59 rfl ?_
  refine gG_if_eq (tgt := 66) dX12_aimOf_61 (by decide) (fun c => ?_) (fun c => ?_)
  · have h := h.1 c
    refine gG_iinc (v := i3 + 1) dX12_aimOf_66 rfl rfl (Nat.le_of_ble_eq_true rfl) ?_
    refine gG_goto (tgt := 2) dX12_aimOf_69 (by decide) ?_
    refine gG_locals ?_ h
    exact ⟨rfl, ⟨rfl, ⟨rfl, ⟨rfl, trivial⟩⟩⟩⟩
  · have h := h.2 c
    refine gG_iload_n dX12_aimOf_64 rfl rfl ?_
    exact gG_exit ⟨rfl, rfl, rfl, dX12_aimOf_65, _, rfl, h⟩

theorem kX12_aim_0 {d n : Nat} {H : gHp} {P : gHp → Int32 → Prop} {a0 : Nat} {i1 : Int32} {i2 : Int32} (h : g_pf H (a0) 12 0 (.int ((0 : Int32))) (fun H1 => (∃ fs, H1 (a0) = .inr (12, fs)) ∧ g_cz d mX12_isLetter0 n H1 [.ref (a0), .int (i1)] (fun H2 b3 => (b3 = false → P H2 ((-2 : Int32))) ∧ (b3 = true → g_cz d mX12_within n H2 [.int (i2), .int ((0 : Int32)), .int ((1 : Int32))] (fun H4 b5 => (b5 = true → gG d mX12_aim 0 0 (g_Xj mX12_aim n 0 0 P) 27 n H4 [some (.ref (a0)), some (.int (i1)), some (.int (i2)), some (.int ((0 : Int32))), none] [] (0) (0)) ∧ (b5 = false → P H4 ((-2 : Int32)))))))) : gG d mX12_aim 0 0 (g_Xj mX12_aim n 0 0 P) 0 n H [some (.ref (a0)), some (.int (i1)), some (.int (i2)), none, none] [] 0 0 := by
  refine gG_aload_n dX12_aim_0 rfl rfl ?_
  refine gG_iconst (v := 0) dX12_aim_1 (by decide) ?_
  obtain ⟨fs, e1, e2, h⟩ := h
  refine gG_pi dX12_aim_2 fl_X12_147 ⟨fs, e1, e2, ?_⟩
  obtain ⟨H1, eH⟩ : ∃ z, z = va_up H (a0) (.inr (12, fs.set 0 (.int ((0 : Int32))))) := ⟨_, rfl⟩
  rw [← eH] at h ⊢
  refine gG_aload_n dX12_aim_5 rfl rfl ?_
  refine gG_iload_n dX12_aim_6 rfl rfl ?_
  obtain ⟨hrc, d2, P2, hdd, hC, h⟩ := h
  refine gG_cvi (As := [.int (i1)]) (st := []) dX12_aim_7 mV_X12_398 hdd hrc rfl rfl (Nat.le_of_ble_eq_true rfl) (Nat.le_refl _) ⟨Nat.le_refl _, Nat.le_refl _⟩ hC (fun H2 x9 hp => ?_)
  obtain ⟨b3, rfl, hp⟩ := hp
  have h := h H2 b3 hp
  refine gG_if_eq (tgt := 22) dX12_aim_10 (by decide) (fun c => ?_) (fun c => ?_)
  · have h := h.1 (g_b_f c)
    refine gG_bipush (v := (-2)) dX12_aim_22 (by decide) ?_
    exact gG_exit ⟨rfl, rfl, rfl, dX12_aim_24, _, rfl, h⟩
  · have h := h.2 (g_b_t c)
    refine gG_iload_n dX12_aim_13 rfl rfl ?_
    refine gG_iconst (v := 0) dX12_aim_14 (by decide) ?_
    refine gG_iconst (v := 1) dX12_aim_15 (by decide) ?_
    obtain ⟨d2, P2, hdd, hC, h⟩ := h
    refine gG_csi (As := [.int (i2), .int ((0 : Int32)), .int ((1 : Int32))]) (st := []) dX12_aim_16 mS_X12_268 hdd rfl rfl (Nat.le_of_ble_eq_true rfl) (Nat.le_refl _) ⟨Nat.le_refl _, Nat.le_refl _⟩ hC (fun H4 x9 hp => ?_)
    obtain ⟨b5, rfl, hp⟩ := hp
    have h := h H4 b5 hp
    refine gG_if_ne (tgt := 25) dX12_aim_19 (by decide) (fun c => ?_) (fun c => ?_)
    · have h := h.1 (g_b_t c)
      refine gG_iconst (v := 0) dX12_aim_25 (by decide) ?_
      refine gG_istore_n dX12_aim_26 rfl (Nat.le_of_ble_eq_true rfl) ?_
      refine gG_locals ?_ h
      exact ⟨rfl, ⟨rfl, ⟨rfl, ⟨rfl, trivial⟩⟩⟩⟩
    · have h := h.2 (g_b_f c)
      refine gG_bipush (v := (-2)) dX12_aim_22 (by decide) ?_
      exact gG_exit ⟨rfl, rfl, rfl, dX12_aim_24, _, rfl, h⟩
theorem kX12_aim_27 {d n : Nat} {H : gHp} {P : gHp → Int32 → Prop} {a0 : Nat} {i1 : Int32} {i2 : Int32} {i3 : Int32} (h : ((20 : Int32) < i3 → P H ((-2 : Int32))) ∧ (¬ ((20 : Int32) < i3) → (∃ fs, H (a0) = .inr (12, fs)) ∧ g_ci d mX12_aimOf n H [.ref (a0), .int (i1), .int (i3)] (fun H1 x2 => (x2 < 0 → gG d mX12_aim 0 0 (g_Xj mX12_aim n 0 0 P) 27 n H1 [some (.ref (a0)), some (.int (i1)), some (.int (i2)), some (.int ((i3 + 1))), none] [] (0) (0)) ∧ (¬ (x2 < 0) → (¬ (i2 = 0) → (¬ (i3 = 0) → P H1 (x2)) ∧ (i3 = 0 → P H1 ((-1 : Int32)))) ∧ (i2 = 0 → P H1 (i3)))))) : gG d mX12_aim 0 0 (g_Xj mX12_aim n 0 0 P) 27 n H [some (.ref (a0)), some (.int (i1)), some (.int (i2)), some (.int (i3)), none] [] 0 0 := by
  refine gG_iload_n dX12_aim_27 rfl rfl ?_
  refine gG_bipush (v := 20) dX12_aim_28 (by decide) ?_
  refine gG_ic_gt (tgt := 71) dX12_aim_30 (by decide) (fun c => ?_) (fun c => ?_)
  · have h := h.1 c
    refine gG_bipush (v := (-2)) dX12_aim_71 (by decide) ?_
    exact gG_exit ⟨rfl, rfl, rfl, dX12_aim_73, _, rfl, h⟩
  · have h := h.2 c
    refine gG_aload_n dX12_aim_33 rfl rfl ?_
    refine gG_iload_n dX12_aim_34 rfl rfl ?_
    refine gG_iload_n dX12_aim_35 rfl rfl ?_
    obtain ⟨hrc, d2, P2, hdd, hC, h⟩ := h
    refine gG_cvi (As := [.int (i1), .int (i3)]) (st := []) dX12_aim_36 mV_X12_445 hdd hrc rfl rfl (Nat.le_of_ble_eq_true rfl) (Nat.le_refl _) ⟨Nat.le_refl _, Nat.le_refl _⟩ hC (fun H1 x2 hp => ?_)
    have h := h H1 x2 hp
    refine gG_istore dX12_aim_39 (Nat.le_of_ble_eq_true rfl) ?_
    refine gG_iload dX12_aim_41 rfl ?_
    refine gG_if_lt (tgt := 65) dX12_aim_43 (by decide) (fun c => ?_) (fun c => ?_)
    · have h := h.1 c
      refine gG_iinc (v := i3 + 1) dX12_aim_65 rfl rfl (Nat.le_of_ble_eq_true rfl) ?_
      refine gG_goto (tgt := 27) dX12_aim_68 (by decide) ?_
      refine gG_locals ?_ h
      exact ⟨rfl, ⟨rfl, ⟨rfl, ⟨rfl, trivial⟩⟩⟩⟩
    · have h := h.2 c
      refine gG_iload_n dX12_aim_46 rfl rfl ?_
      refine gG_if_ne (tgt := 54) dX12_aim_47 (by decide) (fun c => ?_) (fun c => ?_)
      · have h := h.1 c
        refine gG_iload_n dX12_aim_54 rfl rfl ?_
        refine gG_if_ne (tgt := 62) dX12_aim_55 (by decide) (fun c => ?_) (fun c => ?_)
        · have h := h.1 c
          refine gG_iload dX12_aim_62 rfl ?_
          exact gG_exit ⟨rfl, rfl, rfl, dX12_aim_64, _, rfl, h⟩
        · have h := h.2 c
          refine gG_iconst (v := (-1)) dX12_aim_58 (by decide) ?_
          refine gG_goto (tgt := 64) dX12_aim_59 (by decide) ?_
          exact gG_exit ⟨rfl, rfl, rfl, dX12_aim_64, _, rfl, h⟩
      · have h := h.2 c
        refine gG_iload_n dX12_aim_50 rfl rfl ?_
        refine gG_goto (tgt := 64) dX12_aim_51 (by decide) ?_
        exact gG_exit ⟨rfl, rfl, rfl, dX12_aim_64, _, rfl, h⟩

theorem kX12_hush_0 {d n : Nat} {H : gHp} {P : gHp → Int32 → Prop} {a0 : Nat} {i1 : Int32} (h : g_pf H (a0) 12 0 (.int ((0 : Int32))) (fun H1 => (∃ fs, H1 (a0) = .inr (12, fs)) ∧ g_cz d mX12_isLetter0 n H1 [.ref (a0), .int (i1)] (fun H2 b3 => (b3 = true → gG d mX12_hush 0 0 (g_Xj mX12_hush n 0 0 P) 19 n H2 [some (.ref (a0)), some (.int (i1)), some (.int ((-1 : Int32))), some (.int ((0 : Int32)))] [] (0) (0)) ∧ (b3 = false → P H2 ((-1 : Int32)))))) : gG d mX12_hush 0 0 (g_Xj mX12_hush n 0 0 P) 0 n H [some (.ref (a0)), some (.int (i1)), none, none] [] 0 0 := by
  refine gG_aload_n dX12_hush_0 rfl rfl ?_
  refine gG_iconst (v := 0) dX12_hush_1 (by decide) ?_
  obtain ⟨fs, e1, e2, h⟩ := h
  refine gG_pi dX12_hush_2 fl_X12_147 ⟨fs, e1, e2, ?_⟩
  obtain ⟨H1, eH⟩ : ∃ z, z = va_up H (a0) (.inr (12, fs.set 0 (.int ((0 : Int32))))) := ⟨_, rfl⟩
  rw [← eH] at h ⊢
  refine gG_aload_n dX12_hush_5 rfl rfl ?_
  refine gG_iload_n dX12_hush_6 rfl rfl ?_
  obtain ⟨hrc, d2, P2, hdd, hC, h⟩ := h
  refine gG_cvi (As := [.int (i1)]) (st := []) dX12_hush_7 mV_X12_398 hdd hrc rfl rfl (Nat.le_of_ble_eq_true rfl) (Nat.le_refl _) ⟨Nat.le_refl _, Nat.le_refl _⟩ hC (fun H2 x9 hp => ?_)
  obtain ⟨b3, rfl, hp⟩ := hp
  have h := h H2 b3 hp
  refine gG_if_ne (tgt := 15) dX12_hush_10 (by decide) (fun c => ?_) (fun c => ?_)
  · have h := h.1 (g_b_t c)
    refine gG_iconst (v := (-1)) dX12_hush_15 (by decide) ?_
    refine gG_istore_n dX12_hush_16 rfl (Nat.le_of_ble_eq_true rfl) ?_
    refine gG_iconst (v := 0) dX12_hush_17 (by decide) ?_
    refine gG_istore_n dX12_hush_18 rfl (Nat.le_of_ble_eq_true rfl) ?_
    refine gG_locals ?_ h
    exact ⟨rfl, ⟨rfl, ⟨rfl, ⟨rfl, trivial⟩⟩⟩⟩
  · have h := h.2 (g_b_f c)
    refine gG_iconst (v := (-1)) dX12_hush_13 (by decide) ?_
    exact gG_exit ⟨rfl, rfl, rfl, dX12_hush_14, _, rfl, h⟩
theorem kX12_hush_19 {d n : Nat} {H : gHp} {P : gHp → Int32 → Prop} {a0 : Nat} {i1 : Int32} {i2 : Int32} {i3 : Int32} (h : (∃ fs, H (a0) = .inr (12, fs)) ∧ g_ci d mX12_every n H [.ref (a0)] (fun H1 x2 => (x2 < i3 → P H1 (i2)) ∧ (¬ (x2 < i3) → (i2 < 0 → gG d mX12_hush 0 0 (g_Xj mX12_hush n 0 0 P) 45 n H1 [some (.ref (a0)), some (.int (i1)), some (.int (i2)), some (.int (i3))] [] (0) (0)) ∧ (¬ (i2 < 0) → g_ci d mX12_bits n H1 [.int (i3)] (fun H3 x4 => g_ci d mX12_bits n H3 [.int (i2)] (fun H5 x6 => (x4 < x6 → gG d mX12_hush 0 0 (g_Xj mX12_hush n 0 0 P) 45 n H5 [some (.ref (a0)), some (.int (i1)), some (.int (i2)), some (.int (i3))] [] (0) (0)) ∧ (¬ (x4 < x6) → gG d mX12_hush 0 0 (g_Xj mX12_hush n 0 0 P) 19 n H5 [some (.ref (a0)), some (.int (i1)), some (.int (i2)), some (.int ((i3 + 1)))] [] (0) (0)))))))) : gG d mX12_hush 0 0 (g_Xj mX12_hush n 0 0 P) 19 n H [some (.ref (a0)), some (.int (i1)), some (.int (i2)), some (.int (i3))] [] 0 0 := by
  refine gG_iload_n dX12_hush_19 rfl rfl ?_
  refine gG_aload_n dX12_hush_20 rfl rfl ?_
  obtain ⟨hrc, d2, P2, hdd, hC, h⟩ := h
  refine gG_cvi (As := []) (st := [.int (i3)]) dX12_hush_21 mV_X12_423 hdd hrc rfl rfl (Nat.le_of_ble_eq_true rfl) (Nat.le_refl _) ⟨Nat.le_refl _, Nat.le_refl _⟩ hC (fun H1 x2 hp => ?_)
  have h := h H1 x2 hp
  refine gG_ic_gt (tgt := 97) dX12_hush_24 (by decide) (fun c => ?_) (fun c => ?_)
  · have h := h.1 c
    refine gG_iload_n dX12_hush_97 rfl rfl ?_
    exact gG_exit ⟨rfl, rfl, rfl, dX12_hush_98, _, rfl, h⟩
  · have h := h.2 c
    refine gG_iload_n dX12_hush_27 rfl rfl ?_
    refine gG_if_lt (tgt := 45) dX12_hush_28 (by decide) (fun c => ?_) (fun c => ?_)
    · have h := h.1 c
      refine gG_locals ?_ h
      exact ⟨rfl, ⟨rfl, ⟨rfl, ⟨rfl, trivial⟩⟩⟩⟩
    · have h := h.2 c
      refine gG_iload_n dX12_hush_31 rfl rfl ?_
      obtain ⟨d2, P2, hdd, hC, h⟩ := h
      refine gG_csi (As := [.int (i3)]) (st := []) dX12_hush_32 mS_X12_429 hdd rfl rfl (Nat.le_of_ble_eq_true rfl) (Nat.le_refl _) ⟨Nat.le_refl _, Nat.le_refl _⟩ hC (fun H3 x4 hp => ?_)
      have h := h H3 x4 hp
      refine gG_iload_n dX12_hush_35 rfl rfl ?_
      obtain ⟨d2, P2, hdd, hC, h⟩ := h
      refine gG_csi (As := [.int (i2)]) (st := [.int (x4)]) dX12_hush_36 mS_X12_429 hdd rfl rfl (Nat.le_of_ble_eq_true rfl) (Nat.le_refl _) ⟨Nat.le_refl _, Nat.le_refl _⟩ hC (fun H5 x6 hp => ?_)
      have h := h H5 x6 hp
      refine gG_ic_lt (tgt := 45) dX12_hush_39 (by decide) (fun c => ?_) (fun c => ?_)
      · have h := h.1 c
        refine gG_locals ?_ h
        exact ⟨rfl, ⟨rfl, ⟨rfl, ⟨rfl, trivial⟩⟩⟩⟩
      · have h := h.2 c
        refine gG_goto (tgt := 91) dX12_hush_42 (by decide) ?_
        refine gG_iinc (v := i3 + 1) dX12_hush_91 rfl rfl (Nat.le_of_ble_eq_true rfl) ?_
        refine gG_goto (tgt := 19) dX12_hush_94 (by decide) ?_
        refine gG_locals ?_ h
        exact ⟨rfl, ⟨rfl, ⟨rfl, ⟨rfl, trivial⟩⟩⟩⟩
theorem kX12_hush_45 {d n : Nat} {H : gHp} {P : gHp → Int32 → Prop} {a0 : Nat} {i1 : Int32} {i2 : Int32} {i3 : Int32} (h : g_gr H (a0) 12 47 (fun q1 => g_gr H (a0) 12 49 (fun q2 => g_cvd d mX12_copies n H [.ref (q1), .int ((0 : Int32)), .ref (q2), .int ((0 : Int32))] (fun H3 => g_gr H3 (a0) 12 47 (fun q4 => g_al 0 H3 (q4) ((1 : Int32)) (fun x5 => g_as 0 H3 (q4) ((1 : Int32)) ((x5 ^^^ i3)) (fun H6 => (∃ fs, H6 (a0) = .inr (12, fs)) ∧ g_ci d mX12_passesAsTold n H6 [.ref (a0)] (fun H7 x8 => (¬ (x8 = i1) → gG d mX12_hush 0 0 (g_Xj mX12_hush n 0 0 P) 78 n H7 [some (.ref (a0)), some (.int (i1)), some (.int (i2)), some (.int (i3))] [] (0) (0)) ∧ (x8 = i1 → gG d mX12_hush 0 0 (g_Xj mX12_hush n 0 0 P) 78 n H7 [some (.ref (a0)), some (.int (i1)), some (.int (i3)), some (.int (i3))] [] (0) (0)))))))))) : gG d mX12_hush 0 0 (g_Xj mX12_hush n 0 0 P) 45 n H [some (.ref (a0)), some (.int (i1)), some (.int (i2)), some (.int (i3))] [] 0 0 := by
  refine gG_aload_n dX12_hush_45 rfl rfl ?_
  obtain ⟨fs, q1, e1, e2, h⟩ := h
  refine gG_gr dX12_hush_46 fl_X12_117 ⟨fs, q1, e1, e2, ?_⟩
  refine gG_iconst (v := 0) dX12_hush_49 (by decide) ?_
  refine gG_aload_n dX12_hush_50 rfl rfl ?_
  obtain ⟨fs, q2, e1, e2, h⟩ := h
  refine gG_gr dX12_hush_51 fl_X12_123 ⟨fs, q2, e1, e2, ?_⟩
  refine gG_iconst (v := 0) dX12_hush_54 (by decide) ?_
  obtain ⟨d2, P2, hdd, hC, h⟩ := h
  refine gG_csv (As := [.ref (q1), .int ((0 : Int32)), .ref (q2), .int ((0 : Int32))]) (st := []) dX12_hush_55 mS_X12_401 hdd rfl rfl (Nat.le_of_ble_eq_true rfl) (Nat.le_refl _) ⟨Nat.le_refl _, Nat.le_refl _⟩ hC (fun H3 hp => ?_)
  have h := h H3 hp
  refine gG_aload_n dX12_hush_58 rfl rfl ?_
  obtain ⟨fs, q4, e1, e2, h⟩ := h
  refine gG_gr dX12_hush_59 fl_X12_117 ⟨fs, q4, e1, e2, ?_⟩
  refine gG_iconst (v := 1) dX12_hush_62 (by decide) ?_
  refine gG_dup2 dX12_hush_63 rfl rfl ?_
  obtain ⟨m0, f0, e1, e2, h⟩ := h
  refine gG_iald dX12_hush_64 ⟨m0, f0, e1, e2, ?_⟩
  obtain ⟨x5, eH⟩ : ∃ z, z = f0 (Int32.toNatClampNeg ((1 : Int32))) := ⟨_, rfl⟩
  rw [← eH] at h ⊢
  refine gG_iload_n dX12_hush_65 rfl rfl ?_
  refine gG_ixor dX12_hush_66 ?_
  obtain ⟨m0, f0, e1, e2, h⟩ := h
  refine gG_iast dX12_hush_67 ⟨m0, f0, e1, e2, ?_⟩
  obtain ⟨H6, eH⟩ : ∃ z, z = va_up H3 (q4) (.inl (0, m0, .inl (upd f0 (Int32.toNatClampNeg ((1 : Int32))) ((x5 ^^^ i3))))) := ⟨_, rfl⟩
  rw [← eH] at h ⊢
  refine gG_aload_n dX12_hush_68 rfl rfl ?_
  obtain ⟨hrc, d2, P2, hdd, hC, h⟩ := h
  refine gG_cvi (As := []) (st := []) dX12_hush_69 mV_X12_408 hdd hrc rfl rfl (Nat.le_of_ble_eq_true rfl) (Nat.le_refl _) ⟨Nat.le_refl _, Nat.le_refl _⟩ hC (fun H7 x8 hp => ?_)
  have h := h H7 x8 hp
  refine gG_iload_n dX12_hush_72 rfl rfl ?_
  refine gG_ic_ne (tgt := 78) dX12_hush_73 (by decide) (fun c => ?_) (fun c => ?_)
  · have h := h.1 c
    refine gG_locals ?_ h
    exact ⟨rfl, ⟨rfl, ⟨rfl, ⟨rfl, trivial⟩⟩⟩⟩
  · have h := h.2 c
    refine gG_iload_n dX12_hush_76 rfl rfl ?_
    refine gG_istore_n dX12_hush_77 rfl (Nat.le_of_ble_eq_true rfl) ?_
    refine gG_locals ?_ h
    exact ⟨rfl, ⟨rfl, ⟨rfl, ⟨rfl, trivial⟩⟩⟩⟩
theorem kX12_hush_78 {d n : Nat} {H : gHp} {P : gHp → Int32 → Prop} {a0 : Nat} {i1 : Int32} {i2 : Int32} {i3 : Int32} (h : g_gr H (a0) 12 49 (fun q1 => g_gr H (a0) 12 47 (fun q2 => g_cvd d mX12_copies n H [.ref (q1), .int ((0 : Int32)), .ref (q2), .int ((0 : Int32))] (fun H3 => gG d mX12_hush 0 0 (g_Xj mX12_hush n 0 0 P) 19 n H3 [some (.ref (a0)), some (.int (i1)), some (.int (i2)), some (.int ((i3 + 1)))] [] (0) (0))))) : gG d mX12_hush 0 0 (g_Xj mX12_hush n 0 0 P) 78 n H [some (.ref (a0)), some (.int (i1)), some (.int (i2)), some (.int (i3))] [] 0 0 := by
  refine gG_aload_n dX12_hush_78 rfl rfl ?_
  obtain ⟨fs, q1, e1, e2, h⟩ := h
  refine gG_gr dX12_hush_79 fl_X12_123 ⟨fs, q1, e1, e2, ?_⟩
  refine gG_iconst (v := 0) dX12_hush_82 (by decide) ?_
  refine gG_aload_n dX12_hush_83 rfl rfl ?_
  obtain ⟨fs, q2, e1, e2, h⟩ := h
  refine gG_gr dX12_hush_84 fl_X12_117 ⟨fs, q2, e1, e2, ?_⟩
  refine gG_iconst (v := 0) dX12_hush_87 (by decide) ?_
  obtain ⟨d2, P2, hdd, hC, h⟩ := h
  refine gG_csv (As := [.ref (q1), .int ((0 : Int32)), .ref (q2), .int ((0 : Int32))]) (st := []) dX12_hush_88 mS_X12_401 hdd rfl rfl (Nat.le_of_ble_eq_true rfl) (Nat.le_refl _) ⟨Nat.le_refl _, Nat.le_refl _⟩ hC (fun H3 hp => ?_)
  have h := h H3 hp
  refine gG_iinc (v := i3 + 1) dX12_hush_91 rfl rfl (Nat.le_of_ble_eq_true rfl) ?_
  refine gG_goto (tgt := 19) dX12_hush_94 (by decide) ?_
  refine gG_locals ?_ h
  exact ⟨rfl, ⟨rfl, ⟨rfl, ⟨rfl, trivial⟩⟩⟩⟩

theorem kX12_laysSounds_0 {d n : Nat} {H : gHp} {P : gHp → Prop} {a0 : Nat} (h : g_gr H (a0) 12 47 (fun q1 => g_gr H (a0) 12 49 (fun q2 => g_cvd d mX12_copies n H [.ref (q1), .int ((0 : Int32)), .ref (q2), .int ((0 : Int32))] (fun H3 => gG d mX12_laysSounds 0 0 (g_Xv mX12_laysSounds n 0 0 P) 15 n H3 [some (.ref (a0)), some (.int ((0 : Int32)))] [] (0) (0))))) : gG d mX12_laysSounds 0 0 (g_Xv mX12_laysSounds n 0 0 P) 0 n H [some (.ref (a0)), none] [] 0 0 := by
  refine gG_aload_n dX12_laysSounds_0 rfl rfl ?_
  obtain ⟨fs, q1, e1, e2, h⟩ := h
  refine gG_gr dX12_laysSounds_1 fl_X12_117 ⟨fs, q1, e1, e2, ?_⟩
  refine gG_iconst (v := 0) dX12_laysSounds_4 (by decide) ?_
  refine gG_aload_n dX12_laysSounds_5 rfl rfl ?_
  obtain ⟨fs, q2, e1, e2, h⟩ := h
  refine gG_gr dX12_laysSounds_6 fl_X12_123 ⟨fs, q2, e1, e2, ?_⟩
  refine gG_iconst (v := 0) dX12_laysSounds_9 (by decide) ?_
  obtain ⟨d2, P2, hdd, hC, h⟩ := h
  refine gG_csv (As := [.ref (q1), .int ((0 : Int32)), .ref (q2), .int ((0 : Int32))]) (st := []) dX12_laysSounds_10 mS_X12_401 hdd rfl rfl (Nat.le_of_ble_eq_true rfl) (Nat.le_refl _) ⟨Nat.le_refl _, Nat.le_refl _⟩ hC (fun H3 hp => ?_)
  have h := h H3 hp
  refine gG_iconst (v := 0) dX12_laysSounds_13 (by decide) ?_
  refine gG_istore_n dX12_laysSounds_14 rfl (Nat.le_of_ble_eq_true rfl) ?_
  refine gG_locals ?_ h
  exact ⟨rfl, ⟨rfl, trivial⟩⟩
theorem kX12_laysSounds_15 {d n : Nat} {H : gHp} {P : gHp → Prop} {a0 : Nat} {i1 : Int32} (h : ((10 : Int32) ≤ i1 → P H) ∧ (¬ ((10 : Int32) ≤ i1) → (∃ fs, H (a0) = .inr (12, fs)) ∧ g_ci d mX12_passes n H [.ref (a0), .int (i1)] (fun H1 x2 => g_gr H1 (a0) 12 58 (fun q3 => g_gr H1 (a0) 12 47 (fun q4 => g_al 0 H1 (q4) ((2 : Int32)) (fun x5 => g_as 0 H1 (q3) (i1) (x5) (fun H6 => g_gr H6 (a0) 12 49 (fun q7 => g_gr H6 (a0) 12 47 (fun q8 => g_cvd d mX12_copies n H6 [.ref (q7), .int ((0 : Int32)), .ref (q8), .int ((0 : Int32))] (fun H9 => gG d mX12_laysSounds 0 0 (g_Xv mX12_laysSounds n 0 0 P) 15 n H9 [some (.ref (a0)), some (.int ((i1 + 1)))] [] (0) (0))))))))))) : gG d mX12_laysSounds 0 0 (g_Xv mX12_laysSounds n 0 0 P) 15 n H [some (.ref (a0)), some (.int (i1))] [] 0 0 := by
  refine gG_iload_n dX12_laysSounds_15 rfl rfl ?_
  refine gG_bipush (v := 10) dX12_laysSounds_16 (by decide) ?_
  refine gG_ic_ge (tgt := 58) dX12_laysSounds_18 (by decide) (fun c => ?_) (fun c => ?_)
  · have h := h.1 c
    exact gG_exit ⟨rfl, rfl, rfl, dX12_laysSounds_58, rfl, h⟩
  · have h := h.2 c
    refine gG_aload_n dX12_laysSounds_21 rfl rfl ?_
    refine gG_iload_n dX12_laysSounds_22 rfl rfl ?_
    obtain ⟨hrc, d2, P2, hdd, hC, h⟩ := h
    refine gG_cvi (As := [.int (i1)]) (st := []) dX12_laysSounds_23 mV_X12_392 hdd hrc rfl rfl (Nat.le_of_ble_eq_true rfl) (Nat.le_refl _) ⟨Nat.le_refl _, Nat.le_refl _⟩ hC (fun H1 x2 hp => ?_)
    have h := h H1 x2 hp
    refine gG_pop dX12_laysSounds_26 rfl ?_
    refine gG_aload_n dX12_laysSounds_27 rfl rfl ?_
    obtain ⟨fs, q3, e1, e2, h⟩ := h
    refine gG_gr dX12_laysSounds_28 fl_X12_141 ⟨fs, q3, e1, e2, ?_⟩
    refine gG_iload_n dX12_laysSounds_31 rfl rfl ?_
    refine gG_aload_n dX12_laysSounds_32 rfl rfl ?_
    obtain ⟨fs, q4, e1, e2, h⟩ := h
    refine gG_gr dX12_laysSounds_33 fl_X12_117 ⟨fs, q4, e1, e2, ?_⟩
    refine gG_iconst (v := 2) dX12_laysSounds_36 (by decide) ?_
    obtain ⟨m0, f0, e1, e2, h⟩ := h
    refine gG_iald dX12_laysSounds_37 ⟨m0, f0, e1, e2, ?_⟩
    obtain ⟨x5, eH⟩ : ∃ z, z = f0 (Int32.toNatClampNeg ((2 : Int32))) := ⟨_, rfl⟩
    rw [← eH] at h ⊢
    obtain ⟨m0, f0, e1, e2, h⟩ := h
    refine gG_iast dX12_laysSounds_38 ⟨m0, f0, e1, e2, ?_⟩
    obtain ⟨H6, eH⟩ : ∃ z, z = va_up H1 (q3) (.inl (0, m0, .inl (upd f0 (Int32.toNatClampNeg (i1)) (x5)))) := ⟨_, rfl⟩
    rw [← eH] at h ⊢
    refine gG_aload_n dX12_laysSounds_39 rfl rfl ?_
    obtain ⟨fs, q7, e1, e2, h⟩ := h
    refine gG_gr dX12_laysSounds_40 fl_X12_123 ⟨fs, q7, e1, e2, ?_⟩
    refine gG_iconst (v := 0) dX12_laysSounds_43 (by decide) ?_
    refine gG_aload_n dX12_laysSounds_44 rfl rfl ?_
    obtain ⟨fs, q8, e1, e2, h⟩ := h
    refine gG_gr dX12_laysSounds_45 fl_X12_117 ⟨fs, q8, e1, e2, ?_⟩
    refine gG_iconst (v := 0) dX12_laysSounds_48 (by decide) ?_
    obtain ⟨d2, P2, hdd, hC, h⟩ := h
    refine gG_csv (As := [.ref (q7), .int ((0 : Int32)), .ref (q8), .int ((0 : Int32))]) (st := []) dX12_laysSounds_49 mS_X12_401 hdd rfl rfl (Nat.le_of_ble_eq_true rfl) (Nat.le_refl _) ⟨Nat.le_refl _, Nat.le_refl _⟩ hC (fun H9 hp => ?_)
    have h := h H9 hp
    refine gG_iinc (v := i1 + 1) dX12_laysSounds_52 rfl rfl (Nat.le_of_ble_eq_true rfl) ?_
    refine gG_goto (tgt := 15) dX12_laysSounds_55 (by decide) ?_
    refine gG_locals ?_ h
    exact ⟨rfl, ⟨rfl, trivial⟩⟩

theorem kX12_see_0 {d n : Nat} {H : gHp} {P : gHp → Bool → Prop} {a0 : Nat} {i1 : Int32} {i2 : Int32} (h : g_pf H (a0) 12 0 (.int ((0 : Int32))) (fun H1 => (∃ fs, H1 (a0) = .inr (12, fs)) ∧ g_cz d mX12_isMouth n H1 [.ref (a0), .int (i1)] (fun H2 b3 => (b3 = false → P H2 false) ∧ (b3 = true → g_gr H2 (a0) 12 44 (fun q4 => g_al 0 H2 (q4) ((0 : Int32)) (fun x5 => (¬ (x5 = (8 : Int32)) → g_gr H2 (a0) 12 45 (fun q6 => g_gr H2 (a0) 12 44 (fun q7 => g_al 0 H2 (q7) ((0 : Int32)) (fun x8 => g_as 0 H2 (q6) (x8) (i1) (fun H9 => g_gr H9 (a0) 12 46 (fun q10 => g_gr H9 (a0) 12 44 (fun q11 => g_al 0 H9 (q11) ((0 : Int32)) (fun x12 => g_as 3 H9 (q10) (x12) (vp_nar .boolean (i2)) (fun H13 => g_gr H13 (a0) 12 44 (fun q14 => g_al 0 H13 (q14) ((0 : Int32)) (fun x15 => g_as 0 H13 (q14) ((0 : Int32)) ((x15 + (1 : Int32))) (fun H16 => P H16 true)))))))))))) ∧ (x5 = (8 : Int32) → P H2 false))))))) : gG d mX12_see 0 0 (g_Xz mX12_see n 0 0 P) 0 n H [some (.ref (a0)), some (.int (i1)), some (.int (i2))] [] 0 0 := by
  refine gG_aload_n dX12_see_0 rfl rfl ?_
  refine gG_iconst (v := 0) dX12_see_1 (by decide) ?_
  obtain ⟨fs, e1, e2, h⟩ := h
  refine gG_pi dX12_see_2 fl_X12_147 ⟨fs, e1, e2, ?_⟩
  obtain ⟨H1, eH⟩ : ∃ z, z = va_up H (a0) (.inr (12, fs.set 0 (.int ((0 : Int32))))) := ⟨_, rfl⟩
  rw [← eH] at h ⊢
  refine gG_aload_n dX12_see_5 rfl rfl ?_
  refine gG_iload_n dX12_see_6 rfl rfl ?_
  obtain ⟨hrc, d2, P2, hdd, hC, h⟩ := h
  refine gG_cvi (As := [.int (i1)]) (st := []) dX12_see_7 mV_X12_395 hdd hrc rfl rfl (Nat.le_of_ble_eq_true rfl) (Nat.le_refl _) ⟨Nat.le_refl _, Nat.le_refl _⟩ hC (fun H2 x9 hp => ?_)
  obtain ⟨b3, rfl, hp⟩ := hp
  have h := h H2 b3 hp
  refine gG_if_eq (tgt := 24) dX12_see_10 (by decide) (fun c => ?_) (fun c => ?_)
  · have h := h.1 (g_b_f c)
    refine gG_iconst (v := 0) dX12_see_24 (by decide) ?_
    exact gG_exit ⟨rfl, rfl, rfl, dX12_see_25, false, rfl, h⟩
  · have h := h.2 (g_b_t c)
    refine gG_aload_n dX12_see_13 rfl rfl ?_
    obtain ⟨fs, q4, e1, e2, h⟩ := h
    refine gG_gr dX12_see_14 fl_X12_108 ⟨fs, q4, e1, e2, ?_⟩
    refine gG_iconst (v := 0) dX12_see_17 (by decide) ?_
    obtain ⟨m0, f0, e1, e2, h⟩ := h
    refine gG_iald dX12_see_18 ⟨m0, f0, e1, e2, ?_⟩
    obtain ⟨x5, eH⟩ : ∃ z, z = f0 (Int32.toNatClampNeg ((0 : Int32))) := ⟨_, rfl⟩
    rw [← eH] at h ⊢
    refine gG_bipush (v := 8) dX12_see_19 (by decide) ?_
    refine gG_ic_ne (tgt := 26) dX12_see_21 (by decide) (fun c => ?_) (fun c => ?_)
    · have h := h.1 c
      refine gG_aload_n dX12_see_26 rfl rfl ?_
      obtain ⟨fs, q6, e1, e2, h⟩ := h
      refine gG_gr dX12_see_27 fl_X12_111 ⟨fs, q6, e1, e2, ?_⟩
      refine gG_aload_n dX12_see_30 rfl rfl ?_
      obtain ⟨fs, q7, e1, e2, h⟩ := h
      refine gG_gr dX12_see_31 fl_X12_108 ⟨fs, q7, e1, e2, ?_⟩
      refine gG_iconst (v := 0) dX12_see_34 (by decide) ?_
      obtain ⟨m0, f0, e1, e2, h⟩ := h
      refine gG_iald dX12_see_35 ⟨m0, f0, e1, e2, ?_⟩
      obtain ⟨x8, eH⟩ : ∃ z, z = f0 (Int32.toNatClampNeg ((0 : Int32))) := ⟨_, rfl⟩
      rw [← eH] at h ⊢
      refine gG_iload_n dX12_see_36 rfl rfl ?_
      obtain ⟨m0, f0, e1, e2, h⟩ := h
      refine gG_iast dX12_see_37 ⟨m0, f0, e1, e2, ?_⟩
      obtain ⟨H9, eH⟩ : ∃ z, z = va_up H2 (q6) (.inl (0, m0, .inl (upd f0 (Int32.toNatClampNeg (x8)) (i1)))) := ⟨_, rfl⟩
      rw [← eH] at h ⊢
      refine gG_aload_n dX12_see_38 rfl rfl ?_
      obtain ⟨fs, q10, e1, e2, h⟩ := h
      refine gG_gr dX12_see_39 fl_X12_114 ⟨fs, q10, e1, e2, ?_⟩
      refine gG_aload_n dX12_see_42 rfl rfl ?_
      obtain ⟨fs, q11, e1, e2, h⟩ := h
      refine gG_gr dX12_see_43 fl_X12_108 ⟨fs, q11, e1, e2, ?_⟩
      refine gG_iconst (v := 0) dX12_see_46 (by decide) ?_
      obtain ⟨m0, f0, e1, e2, h⟩ := h
      refine gG_iald dX12_see_47 ⟨m0, f0, e1, e2, ?_⟩
      obtain ⟨x12, eH⟩ : ∃ z, z = f0 (Int32.toNatClampNeg ((0 : Int32))) := ⟨_, rfl⟩
      rw [← eH] at h ⊢
      refine gG_iload_n dX12_see_48 rfl rfl ?_
      obtain ⟨m0, f0, e1, e2, h⟩ := h
      refine gG_zast dX12_see_49 ⟨m0, f0, e1, e2, ?_⟩
      obtain ⟨H13, eH⟩ : ∃ z, z = va_up H9 (q10) (.inl (3, m0, .inl (upd f0 (Int32.toNatClampNeg (x12)) (vp_nar .boolean (i2))))) := ⟨_, rfl⟩
      rw [← eH] at h ⊢
      refine gG_aload_n dX12_see_50 rfl rfl ?_
      obtain ⟨fs, q14, e1, e2, h⟩ := h
      refine gG_gr dX12_see_51 fl_X12_108 ⟨fs, q14, e1, e2, ?_⟩
      refine gG_iconst (v := 0) dX12_see_54 (by decide) ?_
      refine gG_dup2 dX12_see_55 rfl rfl ?_
      obtain ⟨m0, f0, e1, e2, h⟩ := h
      refine gG_iald dX12_see_56 ⟨m0, f0, e1, e2, ?_⟩
      obtain ⟨x15, eH⟩ : ∃ z, z = f0 (Int32.toNatClampNeg ((0 : Int32))) := ⟨_, rfl⟩
      rw [← eH] at h ⊢
      refine gG_iconst (v := 1) dX12_see_57 (by decide) ?_
      refine gG_iadd dX12_see_58 ?_
      obtain ⟨m0, f0, e1, e2, h⟩ := h
      refine gG_iast dX12_see_59 ⟨m0, f0, e1, e2, ?_⟩
      obtain ⟨H16, eH⟩ : ∃ z, z = va_up H13 (q14) (.inl (0, m0, .inl (upd f0 (Int32.toNatClampNeg ((0 : Int32))) ((x15 + (1 : Int32)))))) := ⟨_, rfl⟩
      rw [← eH] at h ⊢
      refine gG_iconst (v := 1) dX12_see_60 (by decide) ?_
      exact gG_exit ⟨rfl, rfl, rfl, dX12_see_61, true, rfl, h⟩
    · have h := h.2 c
      refine gG_iconst (v := 0) dX12_see_24 (by decide) ?_
      exact gG_exit ⟨rfl, rfl, rfl, dX12_see_25, false, rfl, h⟩

theorem kX12_isAsSeen_0 {d n : Nat} {H : gHp} {P : gHp → Bool → Prop} {a0 : Nat} {i1 : Int32} (h : gG d mX12_isAsSeen 0 0 (g_Xz mX12_isAsSeen n 0 0 P) 2 n H [some (.ref (a0)), some (.int (i1)), some (.int ((0 : Int32)))] [] (0) (0)) : gG d mX12_isAsSeen 0 0 (g_Xz mX12_isAsSeen n 0 0 P) 0 n H [some (.ref (a0)), some (.int (i1)), none] [] 0 0 := by
  refine gG_iconst (v := 0) dX12_isAsSeen_0 (by decide) ?_
  refine gG_istore_n dX12_isAsSeen_1 rfl (Nat.le_of_ble_eq_true rfl) ?_
  refine gG_locals ?_ h
  exact ⟨rfl, ⟨rfl, ⟨rfl, trivial⟩⟩⟩
theorem kX12_isAsSeen_2 {d n : Nat} {H : gHp} {P : gHp → Bool → Prop} {a0 : Nat} {i1 : Int32} {i2 : Int32} (h : g_gr H (a0) 12 44 (fun q1 => g_al 0 H (q1) ((0 : Int32)) (fun x2 => (x2 ≤ i2 → P H true) ∧ (¬ (x2 ≤ i2) → g_gr H (a0) 12 58 (fun q3 => g_al 0 H (q3) (i1) (fun x4 => g_gr H (a0) 12 45 (fun q5 => g_al 0 H (q5) (i2) (fun x6 => (¬ (((x4 >>> (x6 &&& 31)) &&& (1 : Int32)) = (1 : Int32)) → g_gr H (a0) 12 46 (fun q7 => g_al 3 H (q7) (i2) (fun x8 => ((0 : Int32) = x8 → gG d mX12_isAsSeen 0 0 (g_Xz mX12_isAsSeen n 0 0 P) 2 n H [some (.ref (a0)), some (.int (i1)), some (.int ((i2 + 1)))] [] (0) (0)) ∧ (¬ ((0 : Int32) = x8) → P H false)))) ∧ (((x4 >>> (x6 &&& 31)) &&& (1 : Int32)) = (1 : Int32) → g_gr H (a0) 12 46 (fun q9 => g_al 3 H (q9) (i2) (fun x10 => ((1 : Int32) = x10 → gG d mX12_isAsSeen 0 0 (g_Xz mX12_isAsSeen n 0 0 P) 2 n H [some (.ref (a0)), some (.int (i1)), some (.int ((i2 + 1)))] [] (0) (0)) ∧ (¬ ((1 : Int32) = x10) → P H false)))))))))))) : gG d mX12_isAsSeen 0 0 (g_Xz mX12_isAsSeen n 0 0 P) 2 n H [some (.ref (a0)), some (.int (i1)), some (.int (i2))] [] 0 0 := by
  refine gG_iload_n dX12_isAsSeen_2 rfl rfl ?_
  refine gG_aload_n dX12_isAsSeen_3 rfl rfl ?_
  obtain ⟨fs, q1, e1, e2, h⟩ := h
  refine gG_gr dX12_isAsSeen_4 fl_X12_108 ⟨fs, q1, e1, e2, ?_⟩
  refine gG_iconst (v := 0) dX12_isAsSeen_7 (by decide) ?_
  obtain ⟨m0, f0, e1, e2, h⟩ := h
  refine gG_iald dX12_isAsSeen_8 ⟨m0, f0, e1, e2, ?_⟩
  obtain ⟨x2, eH⟩ : ∃ z, z = f0 (Int32.toNatClampNeg ((0 : Int32))) := ⟨_, rfl⟩
  rw [← eH] at h ⊢
  refine gG_ic_ge (tgt := 53) dX12_isAsSeen_9 (by decide) (fun c => ?_) (fun c => ?_)
  · have h := h.1 c
    refine gG_iconst (v := 1) dX12_isAsSeen_53 (by decide) ?_
    exact gG_exit ⟨rfl, rfl, rfl, dX12_isAsSeen_54, true, rfl, h⟩
  · have h := h.2 c
    refine gG_aload_n dX12_isAsSeen_12 rfl rfl ?_
    obtain ⟨fs, q3, e1, e2, h⟩ := h
    refine gG_gr dX12_isAsSeen_13 fl_X12_141 ⟨fs, q3, e1, e2, ?_⟩
    refine gG_iload_n dX12_isAsSeen_16 rfl rfl ?_
    obtain ⟨m0, f0, e1, e2, h⟩ := h
    refine gG_iald dX12_isAsSeen_17 ⟨m0, f0, e1, e2, ?_⟩
    obtain ⟨x4, eH⟩ : ∃ z, z = f0 (Int32.toNatClampNeg (i1)) := ⟨_, rfl⟩
    rw [← eH] at h ⊢
    refine gG_aload_n dX12_isAsSeen_18 rfl rfl ?_
    obtain ⟨fs, q5, e1, e2, h⟩ := h
    refine gG_gr dX12_isAsSeen_19 fl_X12_111 ⟨fs, q5, e1, e2, ?_⟩
    refine gG_iload_n dX12_isAsSeen_22 rfl rfl ?_
    obtain ⟨m0, f0, e1, e2, h⟩ := h
    refine gG_iald dX12_isAsSeen_23 ⟨m0, f0, e1, e2, ?_⟩
    obtain ⟨x6, eH⟩ : ∃ z, z = f0 (Int32.toNatClampNeg (i2)) := ⟨_, rfl⟩
    rw [← eH] at h ⊢
    refine gG_ishr dX12_isAsSeen_24 ?_
    refine gG_iconst (v := 1) dX12_isAsSeen_25 (by decide) ?_
    refine gG_iand dX12_isAsSeen_26 ?_
    refine gG_iconst (v := 1) dX12_isAsSeen_27 (by decide) ?_
    refine gG_ic_ne (tgt := 35) dX12_isAsSeen_28 (by decide) (fun c => ?_) (fun c => ?_)
    · have h := h.1 c
      refine gG_iconst (v := 0) dX12_isAsSeen_35 (by decide) ?_
      refine gG_aload_n dX12_isAsSeen_36 rfl rfl ?_
      obtain ⟨fs, q7, e1, e2, h⟩ := h
      refine gG_gr dX12_isAsSeen_37 fl_X12_114 ⟨fs, q7, e1, e2, ?_⟩
      refine gG_iload_n dX12_isAsSeen_40 rfl rfl ?_
      obtain ⟨m0, f0, e1, e2, h⟩ := h
      refine gG_zald dX12_isAsSeen_41 ⟨m0, f0, e1, e2, ?_⟩
      obtain ⟨x8, eH⟩ : ∃ z, z = f0 (Int32.toNatClampNeg (i2)) := ⟨_, rfl⟩
      rw [← eH] at h ⊢
      refine gG_ic_eq (tgt := 47) dX12_isAsSeen_42 (by decide) (fun c => ?_) (fun c => ?_)
      · have h := h.1 c
        refine gG_iinc (v := i2 + 1) dX12_isAsSeen_47 rfl rfl (Nat.le_of_ble_eq_true rfl) ?_
        refine gG_goto (tgt := 2) dX12_isAsSeen_50 (by decide) ?_
        refine gG_locals ?_ h
        exact ⟨rfl, ⟨rfl, ⟨rfl, trivial⟩⟩⟩
      · have h := h.2 c
        refine gG_iconst (v := 0) dX12_isAsSeen_45 (by decide) ?_
        exact gG_exit ⟨rfl, rfl, rfl, dX12_isAsSeen_46, false, rfl, h⟩
    · have h := h.2 c
      refine gG_iconst (v := 1) dX12_isAsSeen_31 (by decide) ?_
      refine gG_goto (tgt := 36) dX12_isAsSeen_32 (by decide) ?_
      refine gG_aload_n dX12_isAsSeen_36 rfl rfl ?_
      obtain ⟨fs, q9, e1, e2, h⟩ := h
      refine gG_gr dX12_isAsSeen_37 fl_X12_114 ⟨fs, q9, e1, e2, ?_⟩
      refine gG_iload_n dX12_isAsSeen_40 rfl rfl ?_
      obtain ⟨m0, f0, e1, e2, h⟩ := h
      refine gG_zald dX12_isAsSeen_41 ⟨m0, f0, e1, e2, ?_⟩
      obtain ⟨x10, eH⟩ : ∃ z, z = f0 (Int32.toNatClampNeg (i2)) := ⟨_, rfl⟩
      rw [← eH] at h ⊢
      refine gG_ic_eq (tgt := 47) dX12_isAsSeen_42 (by decide) (fun c => ?_) (fun c => ?_)
      · have h := h.1 c
        refine gG_iinc (v := i2 + 1) dX12_isAsSeen_47 rfl rfl (Nat.le_of_ble_eq_true rfl) ?_
        refine gG_goto (tgt := 2) dX12_isAsSeen_50 (by decide) ?_
        refine gG_locals ?_ h
        exact ⟨rfl, ⟨rfl, ⟨rfl, trivial⟩⟩⟩
      · have h := h.2 c
        refine gG_iconst (v := 0) dX12_isAsSeen_45 (by decide) ?_
        exact gG_exit ⟨rfl, rfl, rfl, dX12_isAsSeen_46, false, rfl, h⟩

theorem kX12_rains_0 {d n : Nat} {H : gHp} {P : gHp → Int32 → Prop} {a0 : Nat} (h : g_pf H (a0) 12 0 (.int ((0 : Int32))) (fun H1 => (∃ fs, H1 (a0) = .inr (12, fs)) ∧ g_cvd d mX12_laysSounds n H1 [.ref (a0)] (fun H2 => gG d mX12_rains 0 0 (g_Xj mX12_rains n 0 0 P) 13 n H2 [some (.ref (a0)), some (.int ((0 : Int32))), some (.int ((0 : Int32)))] [] (0) (0)))) : gG d mX12_rains 0 0 (g_Xj mX12_rains n 0 0 P) 0 n H [some (.ref (a0)), none, none] [] 0 0 := by
  refine gG_aload_n dX12_rains_0 rfl rfl ?_
  refine gG_iconst (v := 0) dX12_rains_1 (by decide) ?_
  obtain ⟨fs, e1, e2, h⟩ := h
  refine gG_pi dX12_rains_2 fl_X12_147 ⟨fs, e1, e2, ?_⟩
  obtain ⟨H1, eH⟩ : ∃ z, z = va_up H (a0) (.inr (12, fs.set 0 (.int ((0 : Int32))))) := ⟨_, rfl⟩
  rw [← eH] at h ⊢
  refine gG_aload_n dX12_rains_5 rfl rfl ?_
  obtain ⟨hrc, d2, P2, hdd, hC, h⟩ := h
  refine gG_cvv (As := []) (st := []) dX12_rains_6 mV_X12_448 hdd hrc rfl rfl (Nat.le_of_ble_eq_true rfl) (Nat.le_refl _) ⟨Nat.le_refl _, Nat.le_refl _⟩ hC (fun H2 hp => ?_)
  have h := h H2 hp
  refine gG_iconst (v := 0) dX12_rains_9 (by decide) ?_
  refine gG_istore_n dX12_rains_10 rfl (Nat.le_of_ble_eq_true rfl) ?_
  refine gG_iconst (v := 0) dX12_rains_11 (by decide) ?_
  refine gG_istore_n dX12_rains_12 rfl (Nat.le_of_ble_eq_true rfl) ?_
  refine gG_locals ?_ h
  exact ⟨rfl, ⟨rfl, ⟨rfl, trivial⟩⟩⟩
theorem kX12_rains_13 {d n : Nat} {H : gHp} {P : gHp → Int32 → Prop} {a0 : Nat} {i1 : Int32} {i2 : Int32} (h : ((10 : Int32) ≤ i2 → P H (i1)) ∧ (¬ ((10 : Int32) ≤ i2) → (∃ fs, H (a0) = .inr (12, fs)) ∧ g_cz d mX12_isAsSeen n H [.ref (a0), .int (i2)] (fun H1 b2 => (b2 = false → gG d mX12_rains 0 0 (g_Xj mX12_rains n 0 0 P) 13 n H1 [some (.ref (a0)), some (.int ((i1 ||| (0 : Int32)))), some (.int ((i2 + 1)))] [] (0) (0)) ∧ (b2 = true → gG d mX12_rains 0 0 (g_Xj mX12_rains n 0 0 P) 13 n H1 [some (.ref (a0)), some (.int ((i1 ||| ((1 : Int32) <<< (i2 &&& 31))))), some (.int ((i2 + 1)))] [] (0) (0))))) : gG d mX12_rains 0 0 (g_Xj mX12_rains n 0 0 P) 13 n H [some (.ref (a0)), some (.int (i1)), some (.int (i2))] [] 0 0 := by
  refine gG_iload_n dX12_rains_13 rfl rfl ?_
  refine gG_bipush (v := 10) dX12_rains_14 (by decide) ?_
  refine gG_ic_ge (tgt := 43) dX12_rains_16 (by decide) (fun c => ?_) (fun c => ?_)
  · have h := h.1 c
    refine gG_iload_n dX12_rains_43 rfl rfl ?_
    exact gG_exit ⟨rfl, rfl, rfl, dX12_rains_44, _, rfl, h⟩
  · have h := h.2 c
    refine gG_iload_n dX12_rains_19 rfl rfl ?_
    refine gG_aload_n dX12_rains_20 rfl rfl ?_
    refine gG_iload_n dX12_rains_21 rfl rfl ?_
    obtain ⟨hrc, d2, P2, hdd, hC, h⟩ := h
    refine gG_cvi (As := [.int (i2)]) (st := [.int (i1)]) dX12_rains_22 mV_X12_451 hdd hrc rfl rfl (Nat.le_of_ble_eq_true rfl) (Nat.le_refl _) ⟨Nat.le_refl _, Nat.le_refl _⟩ hC (fun H1 x9 hp => ?_)
    obtain ⟨b2, rfl, hp⟩ := hp
    have h := h H1 b2 hp
    refine gG_if_eq (tgt := 34) dX12_rains_25 (by decide) (fun c => ?_) (fun c => ?_)
    · have h := h.1 (g_b_f c)
      refine gG_iconst (v := 0) dX12_rains_34 (by decide) ?_
      refine gG_ior dX12_rains_35 ?_
      refine gG_istore_n dX12_rains_36 rfl (Nat.le_of_ble_eq_true rfl) ?_
      refine gG_iinc (v := i2 + 1) dX12_rains_37 rfl rfl (Nat.le_of_ble_eq_true rfl) ?_
      refine gG_goto (tgt := 13) dX12_rains_40 (by decide) ?_
      refine gG_locals ?_ h
      exact ⟨rfl, ⟨rfl, ⟨rfl, trivial⟩⟩⟩
    · have h := h.2 (g_b_t c)
      refine gG_iconst (v := 1) dX12_rains_28 (by decide) ?_
      refine gG_iload_n dX12_rains_29 rfl rfl ?_
      refine gG_ishl dX12_rains_30 ?_
      refine gG_goto (tgt := 35) dX12_rains_31 (by decide) ?_
      refine gG_ior dX12_rains_35 ?_
      refine gG_istore_n dX12_rains_36 rfl (Nat.le_of_ble_eq_true rfl) ?_
      refine gG_iinc (v := i2 + 1) dX12_rains_37 rfl rfl (Nat.le_of_ble_eq_true rfl) ?_
      refine gG_goto (tgt := 13) dX12_rains_40 (by decide) ?_
      refine gG_locals ?_ h
      exact ⟨rfl, ⟨rfl, ⟨rfl, trivial⟩⟩⟩

theorem kX12_look_0 {d n : Nat} {H : gHp} {P : gHp → Int32 → Prop} {a0 : Nat} (h : g_pf H (a0) 12 0 (.int ((0 : Int32))) (fun H1 => (∃ fs, H1 (a0) = .inr (12, fs)) ∧ g_ci d mX12_rains n H1 [.ref (a0)] (fun H2 x3 => g_ci d mX12_bits n H2 [.int (x3)] (fun H4 x5 => gG d mX12_look 0 0 (g_Xj mX12_look n 0 0 P) 23 n H4 [some (.ref (a0)), some (.int (x3)), some (.int (x5)), some (.int (x5)), some (.int ((-1 : Int32))), some (.int ((0 : Int32))), none, none] [] (0) (0))))) : gG d mX12_look 0 0 (g_Xj mX12_look n 0 0 P) 0 n H [some (.ref (a0)), none, none, none, none, none, none, none] [] 0 0 := by
  refine gG_aload_n dX12_look_0 rfl rfl ?_
  refine gG_iconst (v := 0) dX12_look_1 (by decide) ?_
  obtain ⟨fs, e1, e2, h⟩ := h
  refine gG_pi dX12_look_2 fl_X12_147 ⟨fs, e1, e2, ?_⟩
  obtain ⟨H1, eH⟩ : ∃ z, z = va_up H (a0) (.inr (12, fs.set 0 (.int ((0 : Int32))))) := ⟨_, rfl⟩
  rw [← eH] at h ⊢
  refine gG_aload_n dX12_look_5 rfl rfl ?_
  obtain ⟨hrc, d2, P2, hdd, hC, h⟩ := h
  refine gG_cvi (As := []) (st := []) dX12_look_6 mV_X12_454 hdd hrc rfl rfl (Nat.le_of_ble_eq_true rfl) (Nat.le_refl _) ⟨Nat.le_refl _, Nat.le_refl _⟩ hC (fun H2 x3 hp => ?_)
  have h := h H2 x3 hp
  refine gG_istore_n dX12_look_9 rfl (Nat.le_of_ble_eq_true rfl) ?_
  refine gG_iload_n dX12_look_10 rfl rfl ?_
  obtain ⟨d2, P2, hdd, hC, h⟩ := h
  refine gG_csi (As := [.int (x3)]) (st := []) dX12_look_11 mS_X12_429 hdd rfl rfl (Nat.le_of_ble_eq_true rfl) (Nat.le_refl _) ⟨Nat.le_refl _, Nat.le_refl _⟩ hC (fun H4 x5 hp => ?_)
  have h := h H4 x5 hp
  refine gG_istore_n dX12_look_14 rfl (Nat.le_of_ble_eq_true rfl) ?_
  refine gG_iload_n dX12_look_15 rfl rfl ?_
  refine gG_istore_n dX12_look_16 rfl (Nat.le_of_ble_eq_true rfl) ?_
  refine gG_iconst (v := (-1)) dX12_look_17 (by decide) ?_
  refine gG_istore dX12_look_18 (Nat.le_of_ble_eq_true rfl) ?_
  refine gG_iconst (v := 0) dX12_look_20 (by decide) ?_
  refine gG_istore dX12_look_21 (Nat.le_of_ble_eq_true rfl) ?_
  refine gG_locals ?_ h
  exact ⟨rfl, ⟨rfl, ⟨rfl, ⟨rfl, ⟨rfl, ⟨rfl, trivial⟩⟩⟩⟩⟩⟩
theorem kX12_look_23 {d n : Nat} {H : gHp} {P : gHp → Int32 → Prop} {a0 : Nat} {i1 : Int32} {i2 : Int32} {i3 : Int32} {i4 : Int32} {i5 : Int32} (h : g_gr H (a0) 12 10 (fun q1 => g_al 0 H (q1) ((0 : Int32)) (fun x2 => (x2 ≤ i5 → P H (i4)) ∧ (¬ (x2 ≤ i5) → gG d mX12_look 0 0 (g_Xj mX12_look n 0 0 P) 40 n H [some (.ref (a0)), some (.int (i1)), some (.int (i2)), some (.int (i3)), some (.int (i4)), some (.int (i5)), some (.int ((0 : Int32))), some (.int ((0 : Int32)))] [] (0) (0))))) : gG d mX12_look 0 0 (g_Xj mX12_look n 0 0 P) 23 n H [some (.ref (a0)), some (.int (i1)), some (.int (i2)), some (.int (i3)), some (.int (i4)), some (.int (i5)), none, none] [] 0 0 := by
  refine gG_iload dX12_look_23 rfl ?_
  refine gG_aload_n dX12_look_25 rfl rfl ?_
  obtain ⟨fs, q1, e1, e2, h⟩ := h
  refine gG_gr dX12_look_26 fl_X12_13 ⟨fs, q1, e1, e2, ?_⟩
  refine gG_iconst (v := 0) dX12_look_29 (by decide) ?_
  obtain ⟨m0, f0, e1, e2, h⟩ := h
  refine gG_iald dX12_look_30 ⟨m0, f0, e1, e2, ?_⟩
  obtain ⟨x2, eH⟩ : ∃ z, z = f0 (Int32.toNatClampNeg ((0 : Int32))) := ⟨_, rfl⟩
  rw [← eH] at h ⊢
  refine gG_ic_ge (tgt := 122) dX12_look_31 (by decide) (fun c => ?_) (fun c => ?_)
  · have h := h.1 c
    refine gG_iload dX12_look_122 rfl ?_
    exact gG_exit ⟨rfl, rfl, rfl, dX12_look_124, _, rfl, h⟩
  · have h := h.2 c
    refine gG_iconst (v := 0) dX12_look_34 (by decide) ?_
    refine gG_istore dX12_look_35 (Nat.le_of_ble_eq_true rfl) ?_
    refine gG_iconst (v := 0) dX12_look_37 (by decide) ?_
    refine gG_istore dX12_look_38 (Nat.le_of_ble_eq_true rfl) ?_
    refine gG_locals ?_ h
    exact ⟨rfl, ⟨rfl, ⟨rfl, ⟨rfl, ⟨rfl, ⟨rfl, ⟨rfl, ⟨rfl, trivial⟩⟩⟩⟩⟩⟩⟩⟩
theorem kX12_look_40 {d n : Nat} {H : gHp} {P : gHp → Int32 → Prop} {a0 : Nat} {i1 : Int32} {i2 : Int32} {i3 : Int32} {i4 : Int32} {i5 : Int32} {i6 : Int32} {i7 : Int32} (hd1 : 1 ≤ d) (h : ((10 : Int32) ≤ i7 → ((if i6 < (i2 - i6) then (i2 - i6) else i6) < i3 → gG d mX12_look 0 0 (g_Xj mX12_look n 0 0 P) 23 n H [some (.ref (a0)), some (.int (i1)), some (.int (i2)), some (.int ((if i6 < (i2 - i6) then (i2 - i6) else i6))), some (.int (i5)), some (.int ((i5 + 1))), none, none] [] (0) (0)) ∧ (¬ ((if i6 < (i2 - i6) then (i2 - i6) else i6) < i3) → gG d mX12_look 0 0 (g_Xj mX12_look n 0 0 P) 23 n H [some (.ref (a0)), some (.int (i1)), some (.int (i2)), some (.int (i3)), some (.int (i4)), some (.int ((i5 + 1))), none, none] [] (0) (0))) ∧ (¬ ((10 : Int32) ≤ i7) → (¬ (((i1 >>> (i7 &&& 31)) &&& (1 : Int32)) = (1 : Int32)) → gG d mX12_look 0 0 (g_Xj mX12_look n 0 0 P) 40 n H [some (.ref (a0)), some (.int (i1)), some (.int (i2)), some (.int (i3)), some (.int (i4)), some (.int (i5)), some (.int ((i6 + (0 : Int32)))), some (.int ((i7 + 1)))] [] (0) (0)) ∧ (((i1 >>> (i7 &&& 31)) &&& (1 : Int32)) = (1 : Int32) → g_gr H (a0) 12 58 (fun q1 => g_al 0 H (q1) (i7) (fun x2 => (¬ (((x2 >>> (i5 &&& 31)) &&& (1 : Int32)) = (1 : Int32)) → gG d mX12_look 0 0 (g_Xj mX12_look n 0 0 P) 40 n H [some (.ref (a0)), some (.int (i1)), some (.int (i2)), some (.int (i3)), some (.int (i4)), some (.int (i5)), some (.int ((i6 + (0 : Int32)))), some (.int ((i7 + 1)))] [] (0) (0)) ∧ (((x2 >>> (i5 &&& 31)) &&& (1 : Int32)) = (1 : Int32) → gG d mX12_look 0 0 (g_Xj mX12_look n 0 0 P) 40 n H [some (.ref (a0)), some (.int (i1)), some (.int (i2)), some (.int (i3)), some (.int (i4)), some (.int (i5)), some (.int ((i6 + (1 : Int32)))), some (.int ((i7 + 1)))] [] (0) (0))))))) : gG d mX12_look 0 0 (g_Xj mX12_look n 0 0 P) 40 n H [some (.ref (a0)), some (.int (i1)), some (.int (i2)), some (.int (i3)), some (.int (i4)), some (.int (i5)), some (.int (i6)), some (.int (i7))] [] 0 0 := by
  refine gG_iload dX12_look_40 rfl ?_
  refine gG_bipush (v := 10) dX12_look_42 (by decide) ?_
  refine gG_ic_ge (tgt := 89) dX12_look_44 (by decide) (fun c => ?_) (fun c => ?_)
  · have h := h.1 c
    refine gG_iload dX12_look_89 rfl ?_
    refine gG_iload_n dX12_look_91 rfl rfl ?_
    refine gG_iload dX12_look_92 rfl ?_
    refine gG_isub dX12_look_94 ?_
    refine gG_max dX12_look_95 lk_X12_435 st_max ini_Math co_max hd1 (Nat.le_of_ble_eq_true rfl) (Nat.le_refl _) (Nat.le_refl _) ?_
    refine gG_istore dX12_look_98 (Nat.le_of_ble_eq_true rfl) ?_
    refine gG_iload dX12_look_100 rfl ?_
    refine gG_iload_n dX12_look_102 rfl rfl ?_
    refine gG_ic_lt (tgt := 109) dX12_look_103 (by decide) (fun c => ?_) (fun c => ?_)
    · have h := h.1 c
      refine gG_iload dX12_look_109 rfl ?_
      refine gG_istore_n dX12_look_111 rfl (Nat.le_of_ble_eq_true rfl) ?_
      refine gG_iload dX12_look_112 rfl ?_
      refine gG_istore dX12_look_114 (Nat.le_of_ble_eq_true rfl) ?_
      refine gG_iinc (v := i5 + 1) dX12_look_116 rfl rfl (Nat.le_of_ble_eq_true rfl) ?_
      refine gG_goto (tgt := 23) dX12_look_119 (by decide) ?_
      refine gG_locals ?_ h
      exact ⟨rfl, ⟨rfl, ⟨rfl, ⟨rfl, ⟨rfl, ⟨rfl, trivial⟩⟩⟩⟩⟩⟩
    · have h := h.2 c
      refine gG_goto (tgt := 116) dX12_look_106 (by decide) ?_
      refine gG_iinc (v := i5 + 1) dX12_look_116 rfl rfl (Nat.le_of_ble_eq_true rfl) ?_
      refine gG_goto (tgt := 23) dX12_look_119 (by decide) ?_
      refine gG_locals ?_ h
      exact ⟨rfl, ⟨rfl, ⟨rfl, ⟨rfl, ⟨rfl, ⟨rfl, trivial⟩⟩⟩⟩⟩⟩
  · have h := h.2 c
    refine gG_iload dX12_look_47 rfl ?_
    refine gG_iload_n dX12_look_49 rfl rfl ?_
    refine gG_iload dX12_look_50 rfl ?_
    refine gG_ishr dX12_look_52 ?_
    refine gG_iconst (v := 1) dX12_look_53 (by decide) ?_
    refine gG_iand dX12_look_54 ?_
    refine gG_iconst (v := 1) dX12_look_55 (by decide) ?_
    refine gG_ic_ne (tgt := 79) dX12_look_56 (by decide) (fun c => ?_) (fun c => ?_)
    · have h := h.1 c
      refine gG_iconst (v := 0) dX12_look_79 (by decide) ?_
      refine gG_iadd dX12_look_80 ?_
      refine gG_istore dX12_look_81 (Nat.le_of_ble_eq_true rfl) ?_
      refine gG_iinc (v := i7 + 1) dX12_look_83 rfl rfl (Nat.le_of_ble_eq_true rfl) ?_
      refine gG_goto (tgt := 40) dX12_look_86 (by decide) ?_
      refine gG_locals ?_ h
      exact ⟨rfl, ⟨rfl, ⟨rfl, ⟨rfl, ⟨rfl, ⟨rfl, ⟨rfl, ⟨rfl, trivial⟩⟩⟩⟩⟩⟩⟩⟩
    · have h := h.2 c
      refine gG_aload_n dX12_look_59 rfl rfl ?_
      obtain ⟨fs, q1, e1, e2, h⟩ := h
      refine gG_gr dX12_look_60 fl_X12_141 ⟨fs, q1, e1, e2, ?_⟩
      refine gG_iload dX12_look_63 rfl ?_
      obtain ⟨m0, f0, e1, e2, h⟩ := h
      refine gG_iald dX12_look_65 ⟨m0, f0, e1, e2, ?_⟩
      obtain ⟨x2, eH⟩ : ∃ z, z = f0 (Int32.toNatClampNeg (i7)) := ⟨_, rfl⟩
      rw [← eH] at h ⊢
      refine gG_iload dX12_look_66 rfl ?_
      refine gG_ishr dX12_look_68 ?_
      refine gG_iconst (v := 1) dX12_look_69 (by decide) ?_
      refine gG_iand dX12_look_70 ?_
      refine gG_iconst (v := 1) dX12_look_71 (by decide) ?_
      refine gG_ic_ne (tgt := 79) dX12_look_72 (by decide) (fun c => ?_) (fun c => ?_)
      · have h := h.1 c
        refine gG_iconst (v := 0) dX12_look_79 (by decide) ?_
        refine gG_iadd dX12_look_80 ?_
        refine gG_istore dX12_look_81 (Nat.le_of_ble_eq_true rfl) ?_
        refine gG_iinc (v := i7 + 1) dX12_look_83 rfl rfl (Nat.le_of_ble_eq_true rfl) ?_
        refine gG_goto (tgt := 40) dX12_look_86 (by decide) ?_
        refine gG_locals ?_ h
        exact ⟨rfl, ⟨rfl, ⟨rfl, ⟨rfl, ⟨rfl, ⟨rfl, ⟨rfl, ⟨rfl, trivial⟩⟩⟩⟩⟩⟩⟩⟩
      · have h := h.2 c
        refine gG_iconst (v := 1) dX12_look_75 (by decide) ?_
        refine gG_goto (tgt := 80) dX12_look_76 (by decide) ?_
        refine gG_iadd dX12_look_80 ?_
        refine gG_istore dX12_look_81 (Nat.le_of_ble_eq_true rfl) ?_
        refine gG_iinc (v := i7 + 1) dX12_look_83 rfl rfl (Nat.le_of_ble_eq_true rfl) ?_
        refine gG_goto (tgt := 40) dX12_look_86 (by decide) ?_
        refine gG_locals ?_ h
        exact ⟨rfl, ⟨rfl, ⟨rfl, ⟨rfl, ⟨rfl, ⟨rfl, ⟨rfl, ⟨rfl, trivial⟩⟩⟩⟩⟩⟩⟩⟩

theorem kX12_chance_0 {d n : Nat} {H : gHp} {P : gHp → Int32 → Prop} {a0 : Nat} {i1 : Int32} {i2 : Int32} {i3 : Int32} (h : g_pf H (a0) 12 0 (.int ((0 : Int32))) (fun H1 => (∃ fs, H1 (a0) = .inr (12, fs)) ∧ g_cz d mX12_isLetter0 n H1 [.ref (a0), .int (i1)] (fun H2 b3 => (b3 = false → P H2 ((-1 : Int32))) ∧ (b3 = true → g_cz d mX12_within n H2 [.int (i2), .int ((1 : Int32)), .int ((6 : Int32))] (fun H4 b5 => (b5 = false → P H4 ((-1 : Int32))) ∧ (b5 = true → g_cz d mX12_within n H4 [.int (i3), .int ((0 : Int32)), .int ((10 : Int32))] (fun H6 b7 => (b7 = true → gG d mX12_chance 0 0 (g_Xj mX12_chance n 0 0 P) 44 n H6 [some (.ref (a0)), some (.int (i1)), some (.int (i2)), some (.int (i3)), some (.long ((0 : Int64))), none, some (.long ((1 : Int64))), none, some (.int ((0 : Int32))), none, none, none, none, none] [] (0) (0)) ∧ (b7 = false → P H6 ((-1 : Int32)))))))))) : gG d mX12_chance 0 0 (g_Xj mX12_chance n 0 0 P) 0 n H [some (.ref (a0)), some (.int (i1)), some (.int (i2)), some (.int (i3)), none, none, none, none, none, none, none, none, none, none] [] 0 0 := by
  refine gG_aload_n dX12_chance_0 rfl rfl ?_
  refine gG_iconst (v := 0) dX12_chance_1 (by decide) ?_
  obtain ⟨fs, e1, e2, h⟩ := h
  refine gG_pi dX12_chance_2 fl_X12_147 ⟨fs, e1, e2, ?_⟩
  obtain ⟨H1, eH⟩ : ∃ z, z = va_up H (a0) (.inr (12, fs.set 0 (.int ((0 : Int32))))) := ⟨_, rfl⟩
  rw [← eH] at h ⊢
  refine gG_aload_n dX12_chance_5 rfl rfl ?_
  refine gG_iload_n dX12_chance_6 rfl rfl ?_
  obtain ⟨hrc, d2, P2, hdd, hC, h⟩ := h
  refine gG_cvi (As := [.int (i1)]) (st := []) dX12_chance_7 mV_X12_398 hdd hrc rfl rfl (Nat.le_of_ble_eq_true rfl) (Nat.le_refl _) ⟨Nat.le_refl _, Nat.le_refl _⟩ hC (fun H2 x9 hp => ?_)
  obtain ⟨b3, rfl, hp⟩ := hp
  have h := h H2 b3 hp
  refine gG_if_eq (tgt := 33) dX12_chance_10 (by decide) (fun c => ?_) (fun c => ?_)
  · have h := h.1 (g_b_f c)
    refine gG_iconst (v := (-1)) dX12_chance_33 (by decide) ?_
    exact gG_exit ⟨rfl, rfl, rfl, dX12_chance_34, _, rfl, h⟩
  · have h := h.2 (g_b_t c)
    refine gG_iload_n dX12_chance_13 rfl rfl ?_
    refine gG_iconst (v := 1) dX12_chance_14 (by decide) ?_
    refine gG_bipush (v := 6) dX12_chance_15 (by decide) ?_
    obtain ⟨d2, P2, hdd, hC, h⟩ := h
    refine gG_csi (As := [.int (i2), .int ((1 : Int32)), .int ((6 : Int32))]) (st := []) dX12_chance_17 mS_X12_268 hdd rfl rfl (Nat.le_of_ble_eq_true rfl) (Nat.le_refl _) ⟨Nat.le_refl _, Nat.le_refl _⟩ hC (fun H4 x9 hp => ?_)
    obtain ⟨b5, rfl, hp⟩ := hp
    have h := h H4 b5 hp
    refine gG_if_eq (tgt := 33) dX12_chance_20 (by decide) (fun c => ?_) (fun c => ?_)
    · have h := h.1 (g_b_f c)
      refine gG_iconst (v := (-1)) dX12_chance_33 (by decide) ?_
      exact gG_exit ⟨rfl, rfl, rfl, dX12_chance_34, _, rfl, h⟩
    · have h := h.2 (g_b_t c)
      refine gG_iload_n dX12_chance_23 rfl rfl ?_
      refine gG_iconst (v := 0) dX12_chance_24 (by decide) ?_
      refine gG_bipush (v := 10) dX12_chance_25 (by decide) ?_
      obtain ⟨d2, P2, hdd, hC, h⟩ := h
      refine gG_csi (As := [.int (i3), .int ((0 : Int32)), .int ((10 : Int32))]) (st := []) dX12_chance_27 mS_X12_268 hdd rfl rfl (Nat.le_of_ble_eq_true rfl) (Nat.le_refl _) ⟨Nat.le_refl _, Nat.le_refl _⟩ hC (fun H6 x9 hp => ?_)
      obtain ⟨b7, rfl, hp⟩ := hp
      have h := h H6 b7 hp
      refine gG_if_ne (tgt := 35) dX12_chance_30 (by decide) (fun c => ?_) (fun c => ?_)
      · have h := h.1 (g_b_t c)
        refine gG_lconst (v := 0) dX12_chance_35 (by decide) ?_
        refine gG_lstore dX12_chance_36 (Nat.le_of_ble_eq_true rfl) ?_
        refine gG_lconst (v := 1) dX12_chance_38 (by decide) ?_
        refine gG_lstore dX12_chance_39 (Nat.le_of_ble_eq_true rfl) ?_
        refine gG_iconst (v := 0) dX12_chance_41 (by decide) ?_
        refine gG_istore dX12_chance_42 (Nat.le_of_ble_eq_true rfl) ?_
        refine gG_locals ?_ h
        exact ⟨rfl, ⟨rfl, ⟨rfl, ⟨rfl, ⟨rfl, ⟨rfl, ⟨rfl, trivial⟩⟩⟩⟩⟩⟩⟩
      · have h := h.2 (g_b_f c)
        refine gG_iconst (v := (-1)) dX12_chance_33 (by decide) ?_
        exact gG_exit ⟨rfl, rfl, rfl, dX12_chance_34, _, rfl, h⟩
theorem kX12_chance_44 {d n : Nat} {H : gHp} {P : gHp → Int32 → Prop} {a0 : Nat} {i1 : Int32} {i2 : Int32} {i3 : Int32} {j4 : Int64} {j6 : Int64} {i8 : Int32} (h : (i2 ≤ i8 → g_gr H (a0) 12 47 (fun q1 => g_gr H (a0) 12 49 (fun q2 => g_cvd d mX12_copies n H [.ref (q1), .int ((0 : Int32)), .ref (q2), .int ((0 : Int32))] (fun H3 => gG d mX12_chance 0 0 (g_Xj mX12_chance n 0 0 P) 80 n H3 [some (.ref (a0)), some (.int (i1)), some (.int (i2)), some (.int (i3)), some (.long (j4)), none, some (.long (j6)), none, some (.int ((0 : Int32))), none, none, none, none, none] [] (0) (0))))) ∧ (¬ (i2 ≤ i8) → gG d mX12_chance 0 0 (g_Xj mX12_chance n 0 0 P) 44 n H [some (.ref (a0)), some (.int (i1)), some (.int (i2)), some (.int (i3)), some (.long (j4)), none, some (.long ((j6 * (10 : Int64)))), none, some (.int ((i8 + 1))), none, none, none, none, none] [] (0) (0))) : gG d mX12_chance 0 0 (g_Xj mX12_chance n 0 0 P) 44 n H [some (.ref (a0)), some (.int (i1)), some (.int (i2)), some (.int (i3)), some (.long (j4)), none, some (.long (j6)), none, some (.int (i8)), none, none, none, none, none] [] 0 0 := by
  refine gG_iload dX12_chance_44 rfl ?_
  refine gG_iload_n dX12_chance_46 rfl rfl ?_
  refine gG_ic_ge (tgt := 64) dX12_chance_47 (by decide) (fun c => ?_) (fun c => ?_)
  · have h := h.1 c
    refine gG_aload_n dX12_chance_64 rfl rfl ?_
    obtain ⟨fs, q1, e1, e2, h⟩ := h
    refine gG_gr dX12_chance_65 fl_X12_117 ⟨fs, q1, e1, e2, ?_⟩
    refine gG_iconst (v := 0) dX12_chance_68 (by decide) ?_
    refine gG_aload_n dX12_chance_69 rfl rfl ?_
    obtain ⟨fs, q2, e1, e2, h⟩ := h
    refine gG_gr dX12_chance_70 fl_X12_123 ⟨fs, q2, e1, e2, ?_⟩
    refine gG_iconst (v := 0) dX12_chance_73 (by decide) ?_
    obtain ⟨d2, P2, hdd, hC, h⟩ := h
    refine gG_csv (As := [.ref (q1), .int ((0 : Int32)), .ref (q2), .int ((0 : Int32))]) (st := []) dX12_chance_74 mS_X12_401 hdd rfl rfl (Nat.le_of_ble_eq_true rfl) (Nat.le_refl _) ⟨Nat.le_refl _, Nat.le_refl _⟩ hC (fun H3 hp => ?_)
    have h := h H3 hp
    refine gG_iconst (v := 0) dX12_chance_77 (by decide) ?_
    refine gG_istore dX12_chance_78 (Nat.le_of_ble_eq_true rfl) ?_
    refine gG_locals ?_ h
    exact ⟨rfl, ⟨rfl, ⟨rfl, ⟨rfl, ⟨rfl, ⟨rfl, ⟨rfl, trivial⟩⟩⟩⟩⟩⟩⟩
  · have h := h.2 c
    refine gG_lload dX12_chance_50 rfl ?_
    refine gG_ldc2 dX12_chance_52 cl_X12_457 ?_
    refine gG_lmul dX12_chance_55 ?_
    refine gG_lstore dX12_chance_56 (Nat.le_of_ble_eq_true rfl) ?_
    refine gG_iinc (v := i8 + 1) dX12_chance_58 rfl rfl (Nat.le_of_ble_eq_true rfl) ?_
    refine gG_goto (tgt := 44) dX12_chance_61 (by decide) ?_
    refine gG_locals ?_ h
    exact ⟨rfl, ⟨rfl, ⟨rfl, ⟨rfl, ⟨rfl, ⟨rfl, ⟨rfl, trivial⟩⟩⟩⟩⟩⟩⟩
theorem kX12_chance_80 {d n : Nat} {H : gHp} {P : gHp → Int32 → Prop} {a0 : Nat} {i1 : Int32} {i2 : Int32} {i3 : Int32} {j4 : Int64} {j6 : Int64} {i8 : Int32} (h : (((1 : Int32) <<< (i2 &&& 31)) ≤ i8 → ¬ (j6 = 0) ∧ (P H ((Int64.toInt32 (((j4 * (1000000 : Int64)) / j6)))))) ∧ (¬ (((1 : Int32) <<< (i2 &&& 31)) ≤ i8) → gG d mX12_chance 0 0 (g_Xj mX12_chance n 0 0 P) 97 n H [some (.ref (a0)), some (.int (i1)), some (.int (i2)), some (.int (i3)), some (.long (j4)), none, some (.long (j6)), none, some (.int (i8)), some (.long ((1 : Int64))), none, some (.int ((-1 : Int32))), some (.int ((0 : Int32))), none] [] (0) (0))) : gG d mX12_chance 0 0 (g_Xj mX12_chance n 0 0 P) 80 n H [some (.ref (a0)), some (.int (i1)), some (.int (i2)), some (.int (i3)), some (.long (j4)), none, some (.long (j6)), none, some (.int (i8)), none, none, none, none, none] [] 0 0 := by
  refine gG_iload dX12_chance_80 rfl ?_
  refine gG_iconst (v := 1) dX12_chance_82 (by decide) ?_
  refine gG_iload_n dX12_chance_83 rfl rfl ?_
  refine gG_ishl dX12_chance_84 ?_
  refine gG_ic_ge (tgt := 196) dX12_chance_85 (by decide) (fun c => ?_) (fun c => ?_)
  · have h := h.1 c
    refine gG_lload dX12_chance_196 rfl ?_
    refine gG_ldc2 dX12_chance_198 cl_X12_459 ?_
    refine gG_lmul dX12_chance_201 ?_
    refine gG_lload dX12_chance_202 rfl ?_
    obtain ⟨hz, h⟩ := h
    refine gG_ldiv dX12_chance_204 hz ?_
    refine gG_l2i dX12_chance_205 ?_
    exact gG_exit ⟨rfl, rfl, rfl, dX12_chance_206, _, rfl, h⟩
  · have h := h.2 c
    refine gG_lconst (v := 1) dX12_chance_88 (by decide) ?_
    refine gG_lstore dX12_chance_89 (Nat.le_of_ble_eq_true rfl) ?_
    refine gG_iconst (v := (-1)) dX12_chance_91 (by decide) ?_
    refine gG_istore dX12_chance_92 (Nat.le_of_ble_eq_true rfl) ?_
    refine gG_iconst (v := 0) dX12_chance_94 (by decide) ?_
    refine gG_istore dX12_chance_95 (Nat.le_of_ble_eq_true rfl) ?_
    refine gG_locals ?_ h
    exact ⟨rfl, ⟨rfl, ⟨rfl, ⟨rfl, ⟨rfl, ⟨rfl, ⟨rfl, ⟨rfl, ⟨rfl, ⟨rfl, trivial⟩⟩⟩⟩⟩⟩⟩⟩⟩⟩
theorem kX12_chance_97 {d n : Nat} {H : gHp} {P : gHp → Int32 → Prop} {a0 : Nat} {i1 : Int32} {i2 : Int32} {i3 : Int32} {j4 : Int64} {j6 : Int64} {i8 : Int32} {j9 : Int64} {i11 : Int32} {i12 : Int32} (h : (i2 ≤ i12 → (¬ (i11 = i1) → gG d mX12_chance 0 0 (g_Xj mX12_chance n 0 0 P) 177 n H [some (.ref (a0)), some (.int (i1)), some (.int (i2)), some (.int (i3)), some (.long (j4)), none, some (.long (j6)), none, some (.int (i8)), none, none, none, none, none] [] (0) (0)) ∧ (i11 = i1 → gG d mX12_chance 0 0 (g_Xj mX12_chance n 0 0 P) 177 n H [some (.ref (a0)), some (.int (i1)), some (.int (i2)), some (.int (i3)), some (.long ((j4 + j9))), none, some (.long (j6)), none, some (.int (i8)), none, none, none, none, none] [] (0) (0))) ∧ (¬ (i2 ≤ i12) → (¬ (((i8 >>> (i12 &&& 31)) &&& (1 : Int32)) = (1 : Int32)) → gG d mX12_chance 0 0 (g_Xj mX12_chance n 0 0 P) 121 n H [some (.ref (a0)), some (.int (i1)), some (.int (i2)), some (.int (i3)), some (.long (j4)), none, some (.long (j6)), none, some (.int (i8)), some (.long (j9)), none, none, some (.int (i12)), some (.int ((0 : Int32)))] [] (0) (0)) ∧ (((i8 >>> (i12 &&& 31)) &&& (1 : Int32)) = (1 : Int32) → gG d mX12_chance 0 0 (g_Xj mX12_chance n 0 0 P) 121 n H [some (.ref (a0)), some (.int (i1)), some (.int (i2)), some (.int (i3)), some (.long (j4)), none, some (.long (j6)), none, some (.int (i8)), some (.long (j9)), none, none, some (.int (i12)), some (.int ((1 : Int32)))] [] (0) (0)))) : gG d mX12_chance 0 0 (g_Xj mX12_chance n 0 0 P) 97 n H [some (.ref (a0)), some (.int (i1)), some (.int (i2)), some (.int (i3)), some (.long (j4)), none, some (.long (j6)), none, some (.int (i8)), some (.long (j9)), none, some (.int (i11)), some (.int (i12)), none] [] 0 0 := by
  refine gG_iload dX12_chance_97 rfl ?_
  refine gG_iload_n dX12_chance_99 rfl rfl ?_
  refine gG_ic_ge (tgt := 164) dX12_chance_100 (by decide) (fun c => ?_) (fun c => ?_)
  · have h := h.1 c
    refine gG_iload dX12_chance_164 rfl ?_
    refine gG_iload_n dX12_chance_166 rfl rfl ?_
    refine gG_ic_ne (tgt := 177) dX12_chance_167 (by decide) (fun c => ?_) (fun c => ?_)
    · have h := h.1 c
      refine gG_locals ?_ h
      exact ⟨rfl, ⟨rfl, ⟨rfl, ⟨rfl, ⟨rfl, ⟨rfl, ⟨rfl, trivial⟩⟩⟩⟩⟩⟩⟩
    · have h := h.2 c
      refine gG_lload dX12_chance_170 rfl ?_
      refine gG_lload dX12_chance_172 rfl ?_
      refine gG_ladd dX12_chance_174 ?_
      refine gG_lstore dX12_chance_175 (Nat.le_of_ble_eq_true rfl) ?_
      refine gG_locals ?_ h
      exact ⟨rfl, ⟨rfl, ⟨rfl, ⟨rfl, ⟨rfl, ⟨rfl, ⟨rfl, trivial⟩⟩⟩⟩⟩⟩⟩
  · have h := h.2 c
    refine gG_iload dX12_chance_103 rfl ?_
    refine gG_iload dX12_chance_105 rfl ?_
    refine gG_ishr dX12_chance_107 ?_
    refine gG_iconst (v := 1) dX12_chance_108 (by decide) ?_
    refine gG_iand dX12_chance_109 ?_
    refine gG_iconst (v := 1) dX12_chance_110 (by decide) ?_
    refine gG_ic_ne (tgt := 118) dX12_chance_111 (by decide) (fun c => ?_) (fun c => ?_)
    · have h := h.1 c
      refine gG_iconst (v := 0) dX12_chance_118 (by decide) ?_
      refine gG_istore dX12_chance_119 (Nat.le_of_ble_eq_true rfl) ?_
      refine gG_locals ?_ h
      exact ⟨rfl, ⟨rfl, ⟨rfl, ⟨rfl, ⟨rfl, ⟨rfl, ⟨rfl, ⟨rfl, ⟨rfl, ⟨rfl, trivial⟩⟩⟩⟩⟩⟩⟩⟩⟩⟩
    · have h := h.2 c
      refine gG_iconst (v := 1) dX12_chance_114 (by decide) ?_
      refine gG_goto (tgt := 119) dX12_chance_115 (by decide) ?_
      refine gG_istore dX12_chance_119 (Nat.le_of_ble_eq_true rfl) ?_
      refine gG_locals ?_ h
      exact ⟨rfl, ⟨rfl, ⟨rfl, ⟨rfl, ⟨rfl, ⟨rfl, ⟨rfl, ⟨rfl, ⟨rfl, ⟨rfl, trivial⟩⟩⟩⟩⟩⟩⟩⟩⟩⟩
theorem kX12_chance_121 {d n : Nat} {H : gHp} {P : gHp → Int32 → Prop} {a0 : Nat} {i1 : Int32} {i2 : Int32} {i3 : Int32} {j4 : Int64} {j6 : Int64} {i8 : Int32} {j9 : Int64} {i12 : Int32} {i13 : Int32} (h : (i13 = 0 → gG d mX12_chance 0 0 (g_Xj mX12_chance n 0 0 P) 141 n H [some (.ref (a0)), some (.int (i1)), some (.int (i2)), some (.int (i3)), some (.long (j4)), none, some (.long (j6)), none, some (.int (i8)), some (.long ((j9 * (Int32.toInt64 (((10 : Int32) - i3)))))), none, none, some (.int (i12)), some (.int (i13))] [] (0) (0)) ∧ (¬ (i13 = 0) → gG d mX12_chance 0 0 (g_Xj mX12_chance n 0 0 P) 141 n H [some (.ref (a0)), some (.int (i1)), some (.int (i2)), some (.int (i3)), some (.long (j4)), none, some (.long (j6)), none, some (.int (i8)), some (.long ((j9 * (Int32.toInt64 (i3))))), none, none, some (.int (i12)), some (.int (i13))] [] (0) (0))) : gG d mX12_chance 0 0 (g_Xj mX12_chance n 0 0 P) 121 n H [some (.ref (a0)), some (.int (i1)), some (.int (i2)), some (.int (i3)), some (.long (j4)), none, some (.long (j6)), none, some (.int (i8)), some (.long (j9)), none, none, some (.int (i12)), some (.int (i13))] [] 0 0 := by
  refine gG_lload dX12_chance_121 rfl ?_
  refine gG_iload dX12_chance_123 rfl ?_
  refine gG_if_eq (tgt := 133) dX12_chance_125 (by decide) (fun c => ?_) (fun c => ?_)
  · have h := h.1 c
    refine gG_bipush (v := 10) dX12_chance_133 (by decide) ?_
    refine gG_iload_n dX12_chance_135 rfl rfl ?_
    refine gG_isub dX12_chance_136 ?_
    refine gG_i2l dX12_chance_137 ?_
    refine gG_lmul dX12_chance_138 ?_
    refine gG_lstore dX12_chance_139 (Nat.le_of_ble_eq_true rfl) ?_
    refine gG_locals ?_ h
    exact ⟨rfl, ⟨rfl, ⟨rfl, ⟨rfl, ⟨rfl, ⟨rfl, ⟨rfl, ⟨rfl, ⟨rfl, ⟨rfl, trivial⟩⟩⟩⟩⟩⟩⟩⟩⟩⟩
  · have h := h.2 c
    refine gG_iload_n dX12_chance_128 rfl rfl ?_
    refine gG_i2l dX12_chance_129 ?_
    refine gG_goto (tgt := 138) dX12_chance_130 (by decide) ?_
    refine gG_lmul dX12_chance_138 ?_
    refine gG_lstore dX12_chance_139 (Nat.le_of_ble_eq_true rfl) ?_
    refine gG_locals ?_ h
    exact ⟨rfl, ⟨rfl, ⟨rfl, ⟨rfl, ⟨rfl, ⟨rfl, ⟨rfl, ⟨rfl, ⟨rfl, ⟨rfl, trivial⟩⟩⟩⟩⟩⟩⟩⟩⟩⟩
theorem kX12_chance_141 {d n : Nat} {H : gHp} {P : gHp → Int32 → Prop} {a0 : Nat} {i1 : Int32} {i2 : Int32} {i3 : Int32} {j4 : Int64} {j6 : Int64} {i8 : Int32} {j9 : Int64} {i12 : Int32} {i13 : Int32} (h : (i13 = 0 → (∃ fs, H (a0) = .inr (12, fs)) ∧ g_ci d mX12_passes n H [.ref (a0), .int ((0 : Int32))] (fun H1 x2 => gG d mX12_chance 0 0 (g_Xj mX12_chance n 0 0 P) 97 n H1 [some (.ref (a0)), some (.int (i1)), some (.int (i2)), some (.int (i3)), some (.long (j4)), none, some (.long (j6)), none, some (.int (i8)), some (.long (j9)), none, some (.int (x2)), some (.int ((i12 + 1))), none] [] (0) (0))) ∧ (¬ (i13 = 0) → (∃ fs, H (a0) = .inr (12, fs)) ∧ g_ci d mX12_passes n H [.ref (a0), .int ((9 : Int32))] (fun H3 x4 => gG d mX12_chance 0 0 (g_Xj mX12_chance n 0 0 P) 97 n H3 [some (.ref (a0)), some (.int (i1)), some (.int (i2)), some (.int (i3)), some (.long (j4)), none, some (.long (j6)), none, some (.int (i8)), some (.long (j9)), none, some (.int (x4)), some (.int ((i12 + 1))), none] [] (0) (0)))) : gG d mX12_chance 0 0 (g_Xj mX12_chance n 0 0 P) 141 n H [some (.ref (a0)), some (.int (i1)), some (.int (i2)), some (.int (i3)), some (.long (j4)), none, some (.long (j6)), none, some (.int (i8)), some (.long (j9)), none, none, some (.int (i12)), some (.int (i13))] [] 0 0 := by
  refine gG_aload_n dX12_chance_141 rfl rfl ?_
  refine gG_iload dX12_chance_142 rfl ?_
  refine gG_if_eq (tgt := 152) dX12_chance_144 (by decide) (fun c => ?_) (fun c => ?_)
  · have h := h.1 c
    refine gG_iconst (v := 0) dX12_chance_152 (by decide) ?_
    obtain ⟨hrc, d2, P2, hdd, hC, h⟩ := h
    refine gG_cvi (As := [.int ((0 : Int32))]) (st := []) dX12_chance_153 mV_X12_392 hdd hrc rfl rfl (Nat.le_of_ble_eq_true rfl) (Nat.le_refl _) ⟨Nat.le_refl _, Nat.le_refl _⟩ hC (fun H1 x2 hp => ?_)
    have h := h H1 x2 hp
    refine gG_istore dX12_chance_156 (Nat.le_of_ble_eq_true rfl) ?_
    refine gG_iinc (v := i12 + 1) dX12_chance_158 rfl rfl (Nat.le_of_ble_eq_true rfl) ?_
    refine gG_goto (tgt := 97) dX12_chance_161 (by decide) ?_
    refine gG_locals ?_ h
    exact ⟨rfl, ⟨rfl, ⟨rfl, ⟨rfl, ⟨rfl, ⟨rfl, ⟨rfl, ⟨rfl, ⟨rfl, ⟨rfl, trivial⟩⟩⟩⟩⟩⟩⟩⟩⟩⟩
  · have h := h.2 c
    refine gG_bipush (v := 9) dX12_chance_147 (by decide) ?_
    refine gG_goto (tgt := 153) dX12_chance_149 (by decide) ?_
    obtain ⟨hrc, d2, P2, hdd, hC, h⟩ := h
    refine gG_cvi (As := [.int ((9 : Int32))]) (st := []) dX12_chance_153 mV_X12_392 hdd hrc rfl rfl (Nat.le_of_ble_eq_true rfl) (Nat.le_refl _) ⟨Nat.le_refl _, Nat.le_refl _⟩ hC (fun H3 x4 hp => ?_)
    have h := h H3 x4 hp
    refine gG_istore dX12_chance_156 (Nat.le_of_ble_eq_true rfl) ?_
    refine gG_iinc (v := i12 + 1) dX12_chance_158 rfl rfl (Nat.le_of_ble_eq_true rfl) ?_
    refine gG_goto (tgt := 97) dX12_chance_161 (by decide) ?_
    refine gG_locals ?_ h
    exact ⟨rfl, ⟨rfl, ⟨rfl, ⟨rfl, ⟨rfl, ⟨rfl, ⟨rfl, ⟨rfl, ⟨rfl, ⟨rfl, trivial⟩⟩⟩⟩⟩⟩⟩⟩⟩⟩
theorem kX12_chance_177 {d n : Nat} {H : gHp} {P : gHp → Int32 → Prop} {a0 : Nat} {i1 : Int32} {i2 : Int32} {i3 : Int32} {j4 : Int64} {j6 : Int64} {i8 : Int32} (h : g_gr H (a0) 12 49 (fun q1 => g_gr H (a0) 12 47 (fun q2 => g_cvd d mX12_copies n H [.ref (q1), .int ((0 : Int32)), .ref (q2), .int ((0 : Int32))] (fun H3 => gG d mX12_chance 0 0 (g_Xj mX12_chance n 0 0 P) 80 n H3 [some (.ref (a0)), some (.int (i1)), some (.int (i2)), some (.int (i3)), some (.long (j4)), none, some (.long (j6)), none, some (.int ((i8 + 1))), none, none, none, none, none] [] (0) (0))))) : gG d mX12_chance 0 0 (g_Xj mX12_chance n 0 0 P) 177 n H [some (.ref (a0)), some (.int (i1)), some (.int (i2)), some (.int (i3)), some (.long (j4)), none, some (.long (j6)), none, some (.int (i8)), none, none, none, none, none] [] 0 0 := by
  refine gG_aload_n dX12_chance_177 rfl rfl ?_
  obtain ⟨fs, q1, e1, e2, h⟩ := h
  refine gG_gr dX12_chance_178 fl_X12_123 ⟨fs, q1, e1, e2, ?_⟩
  refine gG_iconst (v := 0) dX12_chance_181 (by decide) ?_
  refine gG_aload_n dX12_chance_182 rfl rfl ?_
  obtain ⟨fs, q2, e1, e2, h⟩ := h
  refine gG_gr dX12_chance_183 fl_X12_117 ⟨fs, q2, e1, e2, ?_⟩
  refine gG_iconst (v := 0) dX12_chance_186 (by decide) ?_
  obtain ⟨d2, P2, hdd, hC, h⟩ := h
  refine gG_csv (As := [.ref (q1), .int ((0 : Int32)), .ref (q2), .int ((0 : Int32))]) (st := []) dX12_chance_187 mS_X12_401 hdd rfl rfl (Nat.le_of_ble_eq_true rfl) (Nat.le_refl _) ⟨Nat.le_refl _, Nat.le_refl _⟩ hC (fun H3 hp => ?_)
  have h := h H3 hp
  refine gG_iinc (v := i8 + 1) dX12_chance_190 rfl rfl (Nat.le_of_ble_eq_true rfl) ?_
  refine gG_goto (tgt := 80) dX12_chance_193 (by decide) ?_
  refine gG_locals ?_ h
  exact ⟨rfl, ⟨rfl, ⟨rfl, ⟨rfl, ⟨rfl, ⟨rfl, ⟨rfl, trivial⟩⟩⟩⟩⟩⟩⟩

theorem kX12_getsBy_0 {d n : Nat} {H : gHp} {P : gHp → Int32 → Prop} {i0 : Int32} {i1 : Int32} {i2 : Int32} {i3 : Int32} {i4 : Int32} (h : (¬ (i3 = (1 : Int32)) → (¬ (i4 = (1 : Int32)) → P H ((0 : Int32))) ∧ (i4 = (1 : Int32) → P H (i2))) ∧ (i3 = (1 : Int32) → (¬ (i4 = (1 : Int32)) → P H (i1)) ∧ (i4 = (1 : Int32) → P H ((-i0))))) : gG d mX12_getsBy 0 0 (g_Xj mX12_getsBy n 0 0 P) 0 n H [some (.int (i0)), some (.int (i1)), some (.int (i2)), some (.int (i3)), some (.int (i4))] [] 0 0 := by
  refine gG_iload_n dX12_getsBy_0 rfl rfl ?_
  refine gG_iconst (v := 1) dX12_getsBy_1 (by decide) ?_
  refine gG_ic_ne (tgt := 20) dX12_getsBy_2 (by decide) (fun c => ?_) (fun c => ?_)
  · have h := h.1 c
    refine gG_iload dX12_getsBy_20 rfl ?_
    refine gG_iconst (v := 1) dX12_getsBy_22 (by decide) ?_
    refine gG_ic_ne (tgt := 30) dX12_getsBy_23 (by decide) (fun c => ?_) (fun c => ?_)
    · have h := h.1 c
      refine gG_iconst (v := 0) dX12_getsBy_30 (by decide) ?_
      exact gG_exit ⟨rfl, rfl, rfl, dX12_getsBy_31, _, rfl, h⟩
    · have h := h.2 c
      refine gG_iload_n dX12_getsBy_26 rfl rfl ?_
      refine gG_goto (tgt := 31) dX12_getsBy_27 (by decide) ?_
      exact gG_exit ⟨rfl, rfl, rfl, dX12_getsBy_31, _, rfl, h⟩
  · have h := h.2 c
    refine gG_iload dX12_getsBy_5 rfl ?_
    refine gG_iconst (v := 1) dX12_getsBy_7 (by decide) ?_
    refine gG_ic_ne (tgt := 16) dX12_getsBy_8 (by decide) (fun c => ?_) (fun c => ?_)
    · have h := h.1 c
      refine gG_iload_n dX12_getsBy_16 rfl rfl ?_
      refine gG_goto (tgt := 31) dX12_getsBy_17 (by decide) ?_
      exact gG_exit ⟨rfl, rfl, rfl, dX12_getsBy_31, _, rfl, h⟩
    · have h := h.2 c
      refine gG_iload_n dX12_getsBy_11 rfl rfl ?_
      refine gG_ineg dX12_getsBy_12 ?_
      refine gG_goto (tgt := 31) dX12_getsBy_13 (by decide) ?_
      exact gG_exit ⟨rfl, rfl, rfl, dX12_getsBy_31, _, rfl, h⟩

theorem kX12_rests_0 {d n : Nat} {H : gHp} {P : gHp → Int32 → Prop} {a0 : Nat} {i1 : Int32} {i2 : Int32} {i3 : Int32} {i4 : Int32} (h : g_cz d mX12_within n H [.int (i1), .int ((0 : Int32)), .int ((9 : Int32))] (fun H1 b2 => (b2 = false → g_pf H1 (a0) 12 0 (.int ((1 : Int32))) (fun H3 => gG d mX12_rests 0 0 (g_Xj mX12_rests n 0 0 P) 45 n H3 [some (.ref (a0)), some (.int (i1)), some (.int (i2)), some (.int (i3)), some (.int (i4)), none, none, none, none] [] (0) (0))) ∧ (b2 = true → g_cz d mX12_within n H1 [.int (i2), .int ((0 : Int32)), .int ((9 : Int32))] (fun H4 b5 => (b5 = false → g_pf H4 (a0) 12 0 (.int ((1 : Int32))) (fun H6 => gG d mX12_rests 0 0 (g_Xj mX12_rests n 0 0 P) 45 n H6 [some (.ref (a0)), some (.int (i1)), some (.int (i2)), some (.int (i3)), some (.int (i4)), none, none, none, none] [] (0) (0))) ∧ (b5 = true → g_cz d mX12_within n H4 [.int (i3), .int ((0 : Int32)), .int ((9 : Int32))] (fun H7 b8 => (b8 = false → g_pf H7 (a0) 12 0 (.int ((1 : Int32))) (fun H9 => gG d mX12_rests 0 0 (g_Xj mX12_rests n 0 0 P) 45 n H9 [some (.ref (a0)), some (.int (i1)), some (.int (i2)), some (.int (i3)), some (.int (i4)), none, none, none, none] [] (0) (0))) ∧ (b8 = true → (i4 < (-1 : Int32) → g_pf H7 (a0) 12 0 (.int ((1 : Int32))) (fun H10 => gG d mX12_rests 0 0 (g_Xj mX12_rests n 0 0 P) 45 n H10 [some (.ref (a0)), some (.int (i1)), some (.int (i2)), some (.int (i3)), some (.int (i4)), none, none, none, none] [] (0) (0))) ∧ (¬ (i4 < (-1 : Int32)) → g_pf H7 (a0) 12 0 (.int ((0 : Int32))) (fun H11 => gG d mX12_rests 0 0 (g_Xj mX12_rests n 0 0 P) 45 n H11 [some (.ref (a0)), some (.int (i1)), some (.int (i2)), some (.int (i3)), some (.int (i4)), none, none, none, none] [] (0) (0)))))))))) : gG d mX12_rests 0 0 (g_Xj mX12_rests n 0 0 P) 0 n H [some (.ref (a0)), some (.int (i1)), some (.int (i2)), some (.int (i3)), some (.int (i4)), none, none, none, none] [] 0 0 := by
  refine gG_aload_n dX12_rests_0 rfl rfl ?_
  refine gG_iload_n dX12_rests_1 rfl rfl ?_
  refine gG_iconst (v := 0) dX12_rests_2 (by decide) ?_
  refine gG_bipush (v := 9) dX12_rests_3 (by decide) ?_
  obtain ⟨d2, P2, hdd, hC, h⟩ := h
  refine gG_csi (As := [.int (i1), .int ((0 : Int32)), .int ((9 : Int32))]) (st := [.ref (a0)]) dX12_rests_5 mS_X12_268 hdd rfl rfl (Nat.le_of_ble_eq_true rfl) (Nat.le_refl _) ⟨Nat.le_refl _, Nat.le_refl _⟩ hC (fun H1 x9 hp => ?_)
  obtain ⟨b2, rfl, hp⟩ := hp
  have h := h H1 b2 hp
  refine gG_if_eq (tgt := 41) dX12_rests_8 (by decide) (fun c => ?_) (fun c => ?_)
  · have h := h.1 (g_b_f c)
    refine gG_iconst (v := 1) dX12_rests_41 (by decide) ?_
    obtain ⟨fs, e1, e2, h⟩ := h
    refine gG_pi dX12_rests_42 fl_X12_147 ⟨fs, e1, e2, ?_⟩
    obtain ⟨H3, eH⟩ : ∃ z, z = va_up H1 (a0) (.inr (12, fs.set 0 (.int ((1 : Int32))))) := ⟨_, rfl⟩
    rw [← eH] at h ⊢
    refine gG_locals ?_ h
    exact ⟨rfl, ⟨rfl, ⟨rfl, ⟨rfl, ⟨rfl, trivial⟩⟩⟩⟩⟩
  · have h := h.2 (g_b_t c)
    refine gG_iload_n dX12_rests_11 rfl rfl ?_
    refine gG_iconst (v := 0) dX12_rests_12 (by decide) ?_
    refine gG_bipush (v := 9) dX12_rests_13 (by decide) ?_
    obtain ⟨d2, P2, hdd, hC, h⟩ := h
    refine gG_csi (As := [.int (i2), .int ((0 : Int32)), .int ((9 : Int32))]) (st := [.ref (a0)]) dX12_rests_15 mS_X12_268 hdd rfl rfl (Nat.le_of_ble_eq_true rfl) (Nat.le_refl _) ⟨Nat.le_refl _, Nat.le_refl _⟩ hC (fun H4 x9 hp => ?_)
    obtain ⟨b5, rfl, hp⟩ := hp
    have h := h H4 b5 hp
    refine gG_if_eq (tgt := 41) dX12_rests_18 (by decide) (fun c => ?_) (fun c => ?_)
    · have h := h.1 (g_b_f c)
      refine gG_iconst (v := 1) dX12_rests_41 (by decide) ?_
      obtain ⟨fs, e1, e2, h⟩ := h
      refine gG_pi dX12_rests_42 fl_X12_147 ⟨fs, e1, e2, ?_⟩
      obtain ⟨H6, eH⟩ : ∃ z, z = va_up H4 (a0) (.inr (12, fs.set 0 (.int ((1 : Int32))))) := ⟨_, rfl⟩
      rw [← eH] at h ⊢
      refine gG_locals ?_ h
      exact ⟨rfl, ⟨rfl, ⟨rfl, ⟨rfl, ⟨rfl, trivial⟩⟩⟩⟩⟩
    · have h := h.2 (g_b_t c)
      refine gG_iload_n dX12_rests_21 rfl rfl ?_
      refine gG_iconst (v := 0) dX12_rests_22 (by decide) ?_
      refine gG_bipush (v := 9) dX12_rests_23 (by decide) ?_
      obtain ⟨d2, P2, hdd, hC, h⟩ := h
      refine gG_csi (As := [.int (i3), .int ((0 : Int32)), .int ((9 : Int32))]) (st := [.ref (a0)]) dX12_rests_25 mS_X12_268 hdd rfl rfl (Nat.le_of_ble_eq_true rfl) (Nat.le_refl _) ⟨Nat.le_refl _, Nat.le_refl _⟩ hC (fun H7 x9 hp => ?_)
      obtain ⟨b8, rfl, hp⟩ := hp
      have h := h H7 b8 hp
      refine gG_if_eq (tgt := 41) dX12_rests_28 (by decide) (fun c => ?_) (fun c => ?_)
      · have h := h.1 (g_b_f c)
        refine gG_iconst (v := 1) dX12_rests_41 (by decide) ?_
        obtain ⟨fs, e1, e2, h⟩ := h
        refine gG_pi dX12_rests_42 fl_X12_147 ⟨fs, e1, e2, ?_⟩
        obtain ⟨H9, eH⟩ : ∃ z, z = va_up H7 (a0) (.inr (12, fs.set 0 (.int ((1 : Int32))))) := ⟨_, rfl⟩
        rw [← eH] at h ⊢
        refine gG_locals ?_ h
        exact ⟨rfl, ⟨rfl, ⟨rfl, ⟨rfl, ⟨rfl, trivial⟩⟩⟩⟩⟩
      · have h := h.2 (g_b_t c)
        refine gG_iload dX12_rests_31 rfl ?_
        refine gG_iconst (v := (-1)) dX12_rests_33 (by decide) ?_
        refine gG_ic_lt (tgt := 41) dX12_rests_34 (by decide) (fun c => ?_) (fun c => ?_)
        · have h := h.1 c
          refine gG_iconst (v := 1) dX12_rests_41 (by decide) ?_
          obtain ⟨fs, e1, e2, h⟩ := h
          refine gG_pi dX12_rests_42 fl_X12_147 ⟨fs, e1, e2, ?_⟩
          obtain ⟨H10, eH⟩ : ∃ z, z = va_up H7 (a0) (.inr (12, fs.set 0 (.int ((1 : Int32))))) := ⟨_, rfl⟩
          rw [← eH] at h ⊢
          refine gG_locals ?_ h
          exact ⟨rfl, ⟨rfl, ⟨rfl, ⟨rfl, ⟨rfl, trivial⟩⟩⟩⟩⟩
        · have h := h.2 c
          refine gG_iconst (v := 0) dX12_rests_37 (by decide) ?_
          refine gG_goto (tgt := 42) dX12_rests_38 (by decide) ?_
          obtain ⟨fs, e1, e2, h⟩ := h
          refine gG_pi dX12_rests_42 fl_X12_147 ⟨fs, e1, e2, ?_⟩
          obtain ⟨H11, eH⟩ : ∃ z, z = va_up H7 (a0) (.inr (12, fs.set 0 (.int ((0 : Int32))))) := ⟨_, rfl⟩
          rw [← eH] at h ⊢
          refine gG_locals ?_ h
          exact ⟨rfl, ⟨rfl, ⟨rfl, ⟨rfl, ⟨rfl, trivial⟩⟩⟩⟩⟩
theorem kX12_rests_45 {d n : Nat} {H : gHp} {P : gHp → Int32 → Prop} {a0 : Nat} {i1 : Int32} {i2 : Int32} {i3 : Int32} {i4 : Int32} (h : g_gi H (a0) 12 0 (fun x1 => (¬ (x1 = (1 : Int32)) → gG d mX12_rests 0 0 (g_Xj mX12_rests n 0 0 P) 61 n H [some (.ref (a0)), some (.int (i1)), some (.int (i2)), some (.int (i3)), some (.int (i4)), some (.int ((0 : Int32))), some (.int ((0 : Int32))), none, none] [] (0) (0)) ∧ (x1 = (1 : Int32) → P H ((0 : Int32))))) : gG d mX12_rests 0 0 (g_Xj mX12_rests n 0 0 P) 45 n H [some (.ref (a0)), some (.int (i1)), some (.int (i2)), some (.int (i3)), some (.int (i4)), none, none, none, none] [] 0 0 := by
  refine gG_aload_n dX12_rests_45 rfl rfl ?_
  obtain ⟨fs, x1, e1, e2, h⟩ := h
  refine gG_gi dX12_rests_46 fl_X12_147 ⟨fs, x1, e1, e2, ?_⟩
  refine gG_iconst (v := 1) dX12_rests_49 (by decide) ?_
  refine gG_ic_ne (tgt := 55) dX12_rests_50 (by decide) (fun c => ?_) (fun c => ?_)
  · have h := h.1 c
    refine gG_iconst (v := 0) dX12_rests_55 (by decide) ?_
    refine gG_istore dX12_rests_56 (Nat.le_of_ble_eq_true rfl) ?_
    refine gG_iconst (v := 0) dX12_rests_58 (by decide) ?_
    refine gG_istore dX12_rests_59 (Nat.le_of_ble_eq_true rfl) ?_
    refine gG_locals ?_ h
    exact ⟨rfl, ⟨rfl, ⟨rfl, ⟨rfl, ⟨rfl, ⟨rfl, ⟨rfl, trivial⟩⟩⟩⟩⟩⟩⟩
  · have h := h.2 c
    refine gG_iconst (v := 0) dX12_rests_53 (by decide) ?_
    exact gG_exit ⟨rfl, rfl, rfl, dX12_rests_54, _, rfl, h⟩
theorem kX12_rests_61 {d n : Nat} {H : gHp} {P : gHp → Int32 → Prop} {a0 : Nat} {i1 : Int32} {i2 : Int32} {i3 : Int32} {i4 : Int32} {i5 : Int32} {i6 : Int32} (h : ((4 : Int32) ≤ i6 → (¬ (i4 = (-1 : Int32)) → g_pf H (a0) 12 0 (.int ((1 : Int32))) (fun H1 => (¬ (i4 = (-1 : Int32)) → P H1 ((0 : Int32))) ∧ (i4 = (-1 : Int32) → P H1 (i5)))) ∧ (i4 = (-1 : Int32) → g_pf H (a0) 12 0 (.int ((0 : Int32))) (fun H2 => (¬ (i4 = (-1 : Int32)) → P H2 ((0 : Int32))) ∧ (i4 = (-1 : Int32) → P H2 (i5))))) ∧ (¬ ((4 : Int32) ≤ i6) → g_ci d mX12_getsBy n H [.int (i1), .int (i2), .int (i3), .int (((1 : Int32) - (i6 / (2 : Int32)))), .int ((i6 - i6 / (2 : Int32) * (2 : Int32)))] (fun H3 x4 => g_ci d mX12_getsBy n H3 [.int (i1), .int (i2), .int (i3), .int ((i6 / (2 : Int32))), .int ((i6 - i6 / (2 : Int32) * (2 : Int32)))] (fun H5 x6 => (x6 < x4 → gG d mX12_rests 0 0 (g_Xj mX12_rests n 0 0 P) 61 n H5 [some (.ref (a0)), some (.int (i1)), some (.int (i2)), some (.int (i3)), some (.int (i4)), some (.int (i5)), some (.int ((i6 + 1))), none, none] [] (0) (0)) ∧ (¬ (x6 < x4) → g_ci d mX12_getsBy n H5 [.int (i1), .int (i2), .int (i3), .int (((1 : Int32) - (i6 - i6 / (2 : Int32) * (2 : Int32)))), .int ((i6 / (2 : Int32)))] (fun H7 x8 => g_ci d mX12_getsBy n H7 [.int (i1), .int (i2), .int (i3), .int ((i6 - i6 / (2 : Int32) * (2 : Int32))), .int ((i6 / (2 : Int32)))] (fun H9 x10 => (x8 ≤ x10 → (¬ (i5 = i4) → gG d mX12_rests 0 0 (g_Xj mX12_rests n 0 0 P) 61 n H9 [some (.ref (a0)), some (.int (i1)), some (.int (i2)), some (.int (i3)), some (.int (i4)), some (.int ((i5 + 1))), some (.int ((i6 + 1))), none, none] [] (0) (0)) ∧ (i5 = i4 → P H9 (i6))) ∧ (¬ (x8 ≤ x10) → gG d mX12_rests 0 0 (g_Xj mX12_rests n 0 0 P) 61 n H9 [some (.ref (a0)), some (.int (i1)), some (.int (i2)), some (.int (i3)), some (.int (i4)), some (.int (i5)), some (.int ((i6 + 1))), none, none] [] (0) (0))))))))) : gG d mX12_rests 0 0 (g_Xj mX12_rests n 0 0 P) 61 n H [some (.ref (a0)), some (.int (i1)), some (.int (i2)), some (.int (i3)), some (.int (i4)), some (.int (i5)), some (.int (i6)), none, none] [] 0 0 := by
  refine gG_iload dX12_rests_61 rfl ?_
  refine gG_iconst (v := 4) dX12_rests_63 (by decide) ?_
  refine gG_ic_ge (tgt := 151) dX12_rests_64 (by decide) (fun c => ?_) (fun c => ?_)
  · have h := h.1 c
    refine gG_aload_n dX12_rests_151 rfl rfl ?_
    refine gG_iload dX12_rests_152 rfl ?_
    refine gG_iconst (v := (-1)) dX12_rests_154 (by decide) ?_
    refine gG_ic_ne (tgt := 162) dX12_rests_155 (by decide) (fun c => ?_) (fun c => ?_)
    · have h := h.1 c
      refine gG_iconst (v := 1) dX12_rests_162 (by decide) ?_
      obtain ⟨fs, e1, e2, h⟩ := h
      refine gG_pi dX12_rests_163 fl_X12_147 ⟨fs, e1, e2, ?_⟩
      obtain ⟨H1, eH⟩ : ∃ z, z = va_up H (a0) (.inr (12, fs.set 0 (.int ((1 : Int32))))) := ⟨_, rfl⟩
      rw [← eH] at h ⊢
      refine gG_iload dX12_rests_166 rfl ?_
      refine gG_iconst (v := (-1)) dX12_rests_168 (by decide) ?_
      refine gG_ic_ne (tgt := 177) dX12_rests_169 (by decide) (fun c => ?_) (fun c => ?_)
      · have h := h.1 c
        refine gG_iconst (v := 0) dX12_rests_177 (by decide) ?_
        exact gG_exit ⟨rfl, rfl, rfl, dX12_rests_178, _, rfl, h⟩
      · have h := h.2 c
        refine gG_iload dX12_rests_172 rfl ?_
        refine gG_goto (tgt := 178) dX12_rests_174 (by decide) ?_
        exact gG_exit ⟨rfl, rfl, rfl, dX12_rests_178, _, rfl, h⟩
    · have h := h.2 c
      refine gG_iconst (v := 0) dX12_rests_158 (by decide) ?_
      refine gG_goto (tgt := 163) dX12_rests_159 (by decide) ?_
      obtain ⟨fs, e1, e2, h⟩ := h
      refine gG_pi dX12_rests_163 fl_X12_147 ⟨fs, e1, e2, ?_⟩
      obtain ⟨H2, eH⟩ : ∃ z, z = va_up H (a0) (.inr (12, fs.set 0 (.int ((0 : Int32))))) := ⟨_, rfl⟩
      rw [← eH] at h ⊢
      refine gG_iload dX12_rests_166 rfl ?_
      refine gG_iconst (v := (-1)) dX12_rests_168 (by decide) ?_
      refine gG_ic_ne (tgt := 177) dX12_rests_169 (by decide) (fun c => ?_) (fun c => ?_)
      · have h := h.1 c
        refine gG_iconst (v := 0) dX12_rests_177 (by decide) ?_
        exact gG_exit ⟨rfl, rfl, rfl, dX12_rests_178, _, rfl, h⟩
      · have h := h.2 c
        refine gG_iload dX12_rests_172 rfl ?_
        refine gG_goto (tgt := 178) dX12_rests_174 (by decide) ?_
        exact gG_exit ⟨rfl, rfl, rfl, dX12_rests_178, _, rfl, h⟩
  · have h := h.2 c
    refine gG_iload dX12_rests_67 rfl ?_
    refine gG_iconst (v := 2) dX12_rests_69 (by decide) ?_
    refine gG_idiv dX12_rests_70 (by decide) ?_
    refine gG_istore dX12_rests_71 (Nat.le_of_ble_eq_true rfl) ?_
    refine gG_iload dX12_rests_73 rfl ?_
    refine gG_iconst (v := 2) dX12_rests_75 (by decide) ?_
    refine gG_irem dX12_rests_76 (by decide) ?_
    refine gG_istore dX12_rests_77 (Nat.le_of_ble_eq_true rfl) ?_
    refine gG_iload_n dX12_rests_79 rfl rfl ?_
    refine gG_iload_n dX12_rests_80 rfl rfl ?_
    refine gG_iload_n dX12_rests_81 rfl rfl ?_
    refine gG_iconst (v := 1) dX12_rests_82 (by decide) ?_
    refine gG_iload dX12_rests_83 rfl ?_
    refine gG_isub dX12_rests_85 ?_
    refine gG_iload dX12_rests_86 rfl ?_
    obtain ⟨d2, P2, hdd, hC, h⟩ := h
    refine gG_csi (As := [.int (i1), .int (i2), .int (i3), .int (((1 : Int32) - (i6 / (2 : Int32)))), .int ((i6 - i6 / (2 : Int32) * (2 : Int32)))]) (st := []) dX12_rests_88 mS_X12_461 hdd rfl rfl (Nat.le_of_ble_eq_true rfl) (Nat.le_refl _) ⟨Nat.le_refl _, Nat.le_refl _⟩ hC (fun H3 x4 hp => ?_)
    have h := h H3 x4 hp
    refine gG_iload_n dX12_rests_91 rfl rfl ?_
    refine gG_iload_n dX12_rests_92 rfl rfl ?_
    refine gG_iload_n dX12_rests_93 rfl rfl ?_
    refine gG_iload dX12_rests_94 rfl ?_
    refine gG_iload dX12_rests_96 rfl ?_
    obtain ⟨d2, P2, hdd, hC, h⟩ := h
    refine gG_csi (As := [.int (i1), .int (i2), .int (i3), .int ((i6 / (2 : Int32))), .int ((i6 - i6 / (2 : Int32) * (2 : Int32)))]) (st := [.int (x4)]) dX12_rests_98 mS_X12_461 hdd rfl rfl (Nat.le_of_ble_eq_true rfl) (Nat.le_refl _) ⟨Nat.le_refl _, Nat.le_refl _⟩ hC (fun H5 x6 hp => ?_)
    have h := h H5 x6 hp
    refine gG_ic_gt (tgt := 145) dX12_rests_101 (by decide) (fun c => ?_) (fun c => ?_)
    · have h := h.1 c
      refine gG_iinc (v := i6 + 1) dX12_rests_145 rfl rfl (Nat.le_of_ble_eq_true rfl) ?_
      refine gG_goto (tgt := 61) dX12_rests_148 (by decide) ?_
      refine gG_locals ?_ h
      exact ⟨rfl, ⟨rfl, ⟨rfl, ⟨rfl, ⟨rfl, ⟨rfl, ⟨rfl, trivial⟩⟩⟩⟩⟩⟩⟩
    · have h := h.2 c
      refine gG_iload_n dX12_rests_104 rfl rfl ?_
      refine gG_iload_n dX12_rests_105 rfl rfl ?_
      refine gG_iload_n dX12_rests_106 rfl rfl ?_
      refine gG_iconst (v := 1) dX12_rests_107 (by decide) ?_
      refine gG_iload dX12_rests_108 rfl ?_
      refine gG_isub dX12_rests_110 ?_
      refine gG_iload dX12_rests_111 rfl ?_
      obtain ⟨d2, P2, hdd, hC, h⟩ := h
      refine gG_csi (As := [.int (i1), .int (i2), .int (i3), .int (((1 : Int32) - (i6 - i6 / (2 : Int32) * (2 : Int32)))), .int ((i6 / (2 : Int32)))]) (st := []) dX12_rests_113 mS_X12_461 hdd rfl rfl (Nat.le_of_ble_eq_true rfl) (Nat.le_refl _) ⟨Nat.le_refl _, Nat.le_refl _⟩ hC (fun H7 x8 hp => ?_)
      have h := h H7 x8 hp
      refine gG_iload_n dX12_rests_116 rfl rfl ?_
      refine gG_iload_n dX12_rests_117 rfl rfl ?_
      refine gG_iload_n dX12_rests_118 rfl rfl ?_
      refine gG_iload dX12_rests_119 rfl ?_
      refine gG_iload dX12_rests_121 rfl ?_
      obtain ⟨d2, P2, hdd, hC, h⟩ := h
      refine gG_csi (As := [.int (i1), .int (i2), .int (i3), .int ((i6 - i6 / (2 : Int32) * (2 : Int32))), .int ((i6 / (2 : Int32)))]) (st := [.int (x8)]) dX12_rests_123 mS_X12_461 hdd rfl rfl (Nat.le_of_ble_eq_true rfl) (Nat.le_refl _) ⟨Nat.le_refl _, Nat.le_refl _⟩ hC (fun H9 x10 hp => ?_)
      have h := h H9 x10 hp
      refine gG_ic_le (tgt := 132) dX12_rests_126 (by decide) (fun c => ?_) (fun c => ?_)
      · have h := h.1 c
        refine gG_iload dX12_rests_132 rfl ?_
        refine gG_iload dX12_rests_134 rfl ?_
        refine gG_ic_ne (tgt := 142) dX12_rests_136 (by decide) (fun c => ?_) (fun c => ?_)
        · have h := h.1 c
          refine gG_iinc (v := i5 + 1) dX12_rests_142 rfl rfl (Nat.le_of_ble_eq_true rfl) ?_
          refine gG_iinc (v := i6 + 1) dX12_rests_145 rfl rfl (Nat.le_of_ble_eq_true rfl) ?_
          refine gG_goto (tgt := 61) dX12_rests_148 (by decide) ?_
          refine gG_locals ?_ h
          exact ⟨rfl, ⟨rfl, ⟨rfl, ⟨rfl, ⟨rfl, ⟨rfl, ⟨rfl, trivial⟩⟩⟩⟩⟩⟩⟩
        · have h := h.2 c
          refine gG_iload dX12_rests_139 rfl ?_
          exact gG_exit ⟨rfl, rfl, rfl, dX12_rests_141, _, rfl, h⟩
      · have h := h.2 c
        refine gG_goto (tgt := 145) dX12_rests_129 (by decide) ?_
        refine gG_iinc (v := i6 + 1) dX12_rests_145 rfl rfl (Nat.le_of_ble_eq_true rfl) ?_
        refine gG_goto (tgt := 61) dX12_rests_148 (by decide) ?_
        refine gG_locals ?_ h
        exact ⟨rfl, ⟨rfl, ⟨rfl, ⟨rfl, ⟨rfl, ⟨rfl, ⟨rfl, trivial⟩⟩⟩⟩⟩⟩⟩

theorem kX12_draws_0 {d n : Nat} {H : gHp} {P : gHp → Int32 → Prop} {a0 : Nat} {i1 : Int32} (h : g_gl H (a0) 12 59 (fun y1 => g_pf H (a0) 12 59 (.long ((((y1 * (1103515245 : Int64)) + (12345 : Int64)) - ((y1 * (1103515245 : Int64)) + (12345 : Int64)) / (2147483648 : Int64) * (2147483648 : Int64)))) (fun H2 => g_gl H2 (a0) 12 59 (fun y3 => ¬ ((Int32.toInt64 (i1)) = 0) ∧ (P H2 ((Int64.toInt32 (((y3 / (65536 : Int64)) - (y3 / (65536 : Int64)) / (Int32.toInt64 (i1)) * (Int32.toInt64 (i1))))))))))) : gG d mX12_draws 0 0 (g_Xj mX12_draws n 0 0 P) 0 n H [some (.ref (a0)), some (.int (i1))] [] 0 0 := by
  refine gG_aload_n dX12_draws_0 rfl rfl ?_
  refine gG_aload_n dX12_draws_1 rfl rfl ?_
  obtain ⟨fs, y1, e1, e2, h⟩ := h
  refine gG_gl dX12_draws_2 fl_X12_465 ⟨fs, y1, e1, e2, ?_⟩
  refine gG_ldc2 dX12_draws_5 cl_X12_468 ?_
  refine gG_lmul dX12_draws_8 ?_
  refine gG_ldc2 dX12_draws_9 cl_X12_470 ?_
  refine gG_ladd dX12_draws_12 ?_
  refine gG_ldc2 dX12_draws_13 cl_X12_472 ?_
  refine gG_lrem dX12_draws_16 (by decide) ?_
  obtain ⟨fs, e1, e2, h⟩ := h
  refine gG_pl dX12_draws_17 fl_X12_465 ⟨fs, e1, e2, ?_⟩
  obtain ⟨H2, eH⟩ : ∃ z, z = va_up H (a0) (.inr (12, fs.set 59 (.long ((((y1 * (1103515245 : Int64)) + (12345 : Int64)) - ((y1 * (1103515245 : Int64)) + (12345 : Int64)) / (2147483648 : Int64) * (2147483648 : Int64)))))) := ⟨_, rfl⟩
  rw [← eH] at h ⊢
  refine gG_aload_n dX12_draws_20 rfl rfl ?_
  obtain ⟨fs, y3, e1, e2, h⟩ := h
  refine gG_gl dX12_draws_21 fl_X12_465 ⟨fs, y3, e1, e2, ?_⟩
  refine gG_ldc2 dX12_draws_24 cl_X12_474 ?_
  refine gG_ldiv dX12_draws_27 (by decide) ?_
  refine gG_iload_n dX12_draws_28 rfl rfl ?_
  refine gG_i2l dX12_draws_29 ?_
  obtain ⟨hz, h⟩ := h
  refine gG_lrem dX12_draws_30 hz ?_
  refine gG_l2i dX12_draws_31 ?_
  exact gG_exit ⟨rfl, rfl, rfl, dX12_draws_32, _, rfl, h⟩

theorem kX12_livesMinute_0 {d n : Nat} {H : gHp} {P : gHp → Int32 → Prop} {a0 : Nat} (h : g_gr H (a0) 12 10 (fun q1 => g_al 0 H (q1) ((0 : Int32)) (fun x2 => (x2 ≤ 0 → (∃ fs, H (a0) = .inr (12, fs)) ∧ g_ci d mX12_passesAsTold n H [.ref (a0)] (fun H3 x4 => P H3 (x4))) ∧ (¬ (x2 ≤ 0) → g_gr H (a0) 12 10 (fun q5 => g_al 0 H (q5) ((0 : Int32)) (fun x6 => (∃ fs, H (a0) = .inr (12, fs)) ∧ g_ci d mX12_draws n H [.ref (a0), .int (x6)] (fun H7 x8 => (∃ fs, H7 (a0) = .inr (12, fs)) ∧ g_ci d mX12_draws n H7 [.ref (a0), .int ((5 : Int32))] (fun H9 x10 => (¬ (x10 = 0) → gG d mX12_livesMinute 0 0 (g_Xj mX12_livesMinute n 0 0 P) 43 n H9 [some (.ref (a0)), some (.int (x8)), some (.int (x10))] [] (0) (0)) ∧ (x10 = 0 → (∃ fs, H9 (a0) = .inr (12, fs)) ∧ g_ci d mX12_draws n H9 [.ref (a0), .int ((9 : Int32))] (fun H11 x12 => (∃ fs, H11 (a0) = .inr (12, fs)) ∧ g_cvd d mX12_pours n H11 [.ref (a0), .int (x8), .int ((x12 + (1 : Int32)))] (fun H13 => gG d mX12_livesMinute 0 0 (g_Xj mX12_livesMinute n 0 0 P) 43 n H13 [some (.ref (a0)), some (.int (x8)), some (.int (x10))] [] (0) (0)))))))))))) : gG d mX12_livesMinute 0 0 (g_Xj mX12_livesMinute n 0 0 P) 0 n H [some (.ref (a0)), none, none] [] 0 0 := by
  refine gG_aload_n dX12_livesMinute_0 rfl rfl ?_
  obtain ⟨fs, q1, e1, e2, h⟩ := h
  refine gG_gr dX12_livesMinute_1 fl_X12_13 ⟨fs, q1, e1, e2, ?_⟩
  refine gG_iconst (v := 0) dX12_livesMinute_4 (by decide) ?_
  obtain ⟨m0, f0, e1, e2, h⟩ := h
  refine gG_iald dX12_livesMinute_5 ⟨m0, f0, e1, e2, ?_⟩
  obtain ⟨x2, eH⟩ : ∃ z, z = f0 (Int32.toNatClampNeg ((0 : Int32))) := ⟨_, rfl⟩
  rw [← eH] at h ⊢
  refine gG_if_le (tgt := 79) dX12_livesMinute_6 (by decide) (fun c => ?_) (fun c => ?_)
  · have h := h.1 c
    refine gG_aload_n dX12_livesMinute_79 rfl rfl ?_
    obtain ⟨hrc, d2, P2, hdd, hC, h⟩ := h
    refine gG_cvi (As := []) (st := []) dX12_livesMinute_80 mV_X12_408 hdd hrc rfl rfl (Nat.le_of_ble_eq_true rfl) (Nat.le_refl _) ⟨Nat.le_refl _, Nat.le_refl _⟩ hC (fun H3 x4 hp => ?_)
    have h := h H3 x4 hp
    exact gG_exit ⟨rfl, rfl, rfl, dX12_livesMinute_83, _, rfl, h⟩
  · have h := h.2 c
    refine gG_aload_n dX12_livesMinute_9 rfl rfl ?_
    refine gG_aload_n dX12_livesMinute_10 rfl rfl ?_
    obtain ⟨fs, q5, e1, e2, h⟩ := h
    refine gG_gr dX12_livesMinute_11 fl_X12_13 ⟨fs, q5, e1, e2, ?_⟩
    refine gG_iconst (v := 0) dX12_livesMinute_14 (by decide) ?_
    obtain ⟨m0, f0, e1, e2, h⟩ := h
    refine gG_iald dX12_livesMinute_15 ⟨m0, f0, e1, e2, ?_⟩
    obtain ⟨x6, eH⟩ : ∃ z, z = f0 (Int32.toNatClampNeg ((0 : Int32))) := ⟨_, rfl⟩
    rw [← eH] at h ⊢
    obtain ⟨hrc, d2, P2, hdd, hC, h⟩ := h
    refine gG_cvi (As := [.int (x6)]) (st := []) dX12_livesMinute_16 mV_X12_476 hdd hrc rfl rfl (Nat.le_of_ble_eq_true rfl) (Nat.le_refl _) ⟨Nat.le_refl _, Nat.le_refl _⟩ hC (fun H7 x8 hp => ?_)
    have h := h H7 x8 hp
    refine gG_istore_n dX12_livesMinute_19 rfl (Nat.le_of_ble_eq_true rfl) ?_
    refine gG_aload_n dX12_livesMinute_20 rfl rfl ?_
    refine gG_iconst (v := 5) dX12_livesMinute_21 (by decide) ?_
    obtain ⟨hrc, d2, P2, hdd, hC, h⟩ := h
    refine gG_cvi (As := [.int ((5 : Int32))]) (st := []) dX12_livesMinute_22 mV_X12_476 hdd hrc rfl rfl (Nat.le_of_ble_eq_true rfl) (Nat.le_refl _) ⟨Nat.le_refl _, Nat.le_refl _⟩ hC (fun H9 x10 hp => ?_)
    have h := h H9 x10 hp
    refine gG_istore_n dX12_livesMinute_25 rfl (Nat.le_of_ble_eq_true rfl) ?_
    refine gG_iload_n dX12_livesMinute_26 rfl rfl ?_
    refine gG_if_ne (tgt := 43) dX12_livesMinute_27 (by decide) (fun c => ?_) (fun c => ?_)
    · have h := h.1 c
      refine gG_locals ?_ h
      exact ⟨rfl, ⟨rfl, ⟨rfl, trivial⟩⟩⟩
    · have h := h.2 c
      refine gG_aload_n dX12_livesMinute_30 rfl rfl ?_
      refine gG_iload_n dX12_livesMinute_31 rfl rfl ?_
      refine gG_aload_n dX12_livesMinute_32 rfl rfl ?_
      refine gG_bipush (v := 9) dX12_livesMinute_33 (by decide) ?_
      obtain ⟨hrc, d2, P2, hdd, hC, h⟩ := h
      refine gG_cvi (As := [.int ((9 : Int32))]) (st := [.int (x8), .ref (a0)]) dX12_livesMinute_35 mV_X12_476 hdd hrc rfl rfl (Nat.le_of_ble_eq_true rfl) (Nat.le_refl _) ⟨Nat.le_refl _, Nat.le_refl _⟩ hC (fun H11 x12 hp => ?_)
      have h := h H11 x12 hp
      refine gG_iconst (v := 1) dX12_livesMinute_38 (by decide) ?_
      refine gG_iadd dX12_livesMinute_39 ?_
      obtain ⟨hrc, d2, P2, hdd, hC, h⟩ := h
      refine gG_cvv (As := [.int (x8), .int ((x12 + (1 : Int32)))]) (st := []) dX12_livesMinute_40 mV_X12_411 hdd hrc rfl rfl (Nat.le_of_ble_eq_true rfl) (Nat.le_refl _) ⟨Nat.le_refl _, Nat.le_refl _⟩ hC (fun H13 hp => ?_)
      have h := h H13 hp
      refine gG_locals ?_ h
      exact ⟨rfl, ⟨rfl, ⟨rfl, trivial⟩⟩⟩
theorem kX12_livesMinute_43 {d n : Nat} {H : gHp} {P : gHp → Int32 → Prop} {a0 : Nat} {i1 : Int32} {i2 : Int32} (h : (¬ (i2 = (1 : Int32)) → gG d mX12_livesMinute 0 0 (g_Xj mX12_livesMinute n 0 0 P) 60 n H [some (.ref (a0)), some (.int (i1)), some (.int (i2))] [] (0) (0)) ∧ (i2 = (1 : Int32) → g_gr H (a0) 12 47 (fun q1 => g_al 0 H (q1) ((1 : Int32)) (fun x2 => g_as 0 H (q1) ((1 : Int32)) ((x2 ||| ((1 : Int32) <<< (i1 &&& 31)))) (fun H3 => gG d mX12_livesMinute 0 0 (g_Xj mX12_livesMinute n 0 0 P) 60 n H3 [some (.ref (a0)), some (.int (i1)), some (.int (i2))] [] (0) (0)))))) : gG d mX12_livesMinute 0 0 (g_Xj mX12_livesMinute n 0 0 P) 43 n H [some (.ref (a0)), some (.int (i1)), some (.int (i2))] [] 0 0 := by
  refine gG_iload_n dX12_livesMinute_43 rfl rfl ?_
  refine gG_iconst (v := 1) dX12_livesMinute_44 (by decide) ?_
  refine gG_ic_ne (tgt := 60) dX12_livesMinute_45 (by decide) (fun c => ?_) (fun c => ?_)
  · have h := h.1 c
    refine gG_locals ?_ h
    exact ⟨rfl, ⟨rfl, ⟨rfl, trivial⟩⟩⟩
  · have h := h.2 c
    refine gG_aload_n dX12_livesMinute_48 rfl rfl ?_
    obtain ⟨fs, q1, e1, e2, h⟩ := h
    refine gG_gr dX12_livesMinute_49 fl_X12_117 ⟨fs, q1, e1, e2, ?_⟩
    refine gG_iconst (v := 1) dX12_livesMinute_52 (by decide) ?_
    refine gG_dup2 dX12_livesMinute_53 rfl rfl ?_
    obtain ⟨m0, f0, e1, e2, h⟩ := h
    refine gG_iald dX12_livesMinute_54 ⟨m0, f0, e1, e2, ?_⟩
    obtain ⟨x2, eH⟩ : ∃ z, z = f0 (Int32.toNatClampNeg ((1 : Int32))) := ⟨_, rfl⟩
    rw [← eH] at h ⊢
    refine gG_iconst (v := 1) dX12_livesMinute_55 (by decide) ?_
    refine gG_iload_n dX12_livesMinute_56 rfl rfl ?_
    refine gG_ishl dX12_livesMinute_57 ?_
    refine gG_ior dX12_livesMinute_58 ?_
    obtain ⟨m0, f0, e1, e2, h⟩ := h
    refine gG_iast dX12_livesMinute_59 ⟨m0, f0, e1, e2, ?_⟩
    obtain ⟨H3, eH⟩ : ∃ z, z = va_up H (q1) (.inl (0, m0, .inl (upd f0 (Int32.toNatClampNeg ((1 : Int32))) ((x2 ||| ((1 : Int32) <<< (i1 &&& 31))))))) := ⟨_, rfl⟩
    rw [← eH] at h ⊢
    refine gG_locals ?_ h
    exact ⟨rfl, ⟨rfl, ⟨rfl, trivial⟩⟩⟩
theorem kX12_livesMinute_60 {d n : Nat} {H : gHp} {P : gHp → Int32 → Prop} {a0 : Nat} {i1 : Int32} {i2 : Int32} (h : (¬ (i2 = (2 : Int32)) → (∃ fs, H (a0) = .inr (12, fs)) ∧ g_ci d mX12_passesAsTold n H [.ref (a0)] (fun H1 x2 => P H1 (x2))) ∧ (i2 = (2 : Int32) → g_gr H (a0) 12 47 (fun q3 => g_al 0 H (q3) ((1 : Int32)) (fun x4 => g_as 0 H (q3) ((1 : Int32)) ((x4 &&& (((1 : Int32) <<< (i1 &&& 31)) ^^^ (-1 : Int32)))) (fun H5 => (∃ fs, H5 (a0) = .inr (12, fs)) ∧ g_ci d mX12_passesAsTold n H5 [.ref (a0)] (fun H6 x7 => P H6 (x7))))))) : gG d mX12_livesMinute 0 0 (g_Xj mX12_livesMinute n 0 0 P) 60 n H [some (.ref (a0)), some (.int (i1)), some (.int (i2))] [] 0 0 := by
  refine gG_iload_n dX12_livesMinute_60 rfl rfl ?_
  refine gG_iconst (v := 2) dX12_livesMinute_61 (by decide) ?_
  refine gG_ic_ne (tgt := 79) dX12_livesMinute_62 (by decide) (fun c => ?_) (fun c => ?_)
  · have h := h.1 c
    refine gG_aload_n dX12_livesMinute_79 rfl rfl ?_
    obtain ⟨hrc, d2, P2, hdd, hC, h⟩ := h
    refine gG_cvi (As := []) (st := []) dX12_livesMinute_80 mV_X12_408 hdd hrc rfl rfl (Nat.le_of_ble_eq_true rfl) (Nat.le_refl _) ⟨Nat.le_refl _, Nat.le_refl _⟩ hC (fun H1 x2 hp => ?_)
    have h := h H1 x2 hp
    exact gG_exit ⟨rfl, rfl, rfl, dX12_livesMinute_83, _, rfl, h⟩
  · have h := h.2 c
    refine gG_aload_n dX12_livesMinute_65 rfl rfl ?_
    obtain ⟨fs, q3, e1, e2, h⟩ := h
    refine gG_gr dX12_livesMinute_66 fl_X12_117 ⟨fs, q3, e1, e2, ?_⟩
    refine gG_iconst (v := 1) dX12_livesMinute_69 (by decide) ?_
    refine gG_dup2 dX12_livesMinute_70 rfl rfl ?_
    obtain ⟨m0, f0, e1, e2, h⟩ := h
    refine gG_iald dX12_livesMinute_71 ⟨m0, f0, e1, e2, ?_⟩
    obtain ⟨x4, eH⟩ : ∃ z, z = f0 (Int32.toNatClampNeg ((1 : Int32))) := ⟨_, rfl⟩
    rw [← eH] at h ⊢
    refine gG_iconst (v := 1) dX12_livesMinute_72 (by decide) ?_
    refine gG_iload_n dX12_livesMinute_73 rfl rfl ?_
    refine gG_ishl dX12_livesMinute_74 ?_
    refine gG_iconst (v := (-1)) dX12_livesMinute_75 (by decide) ?_
    refine gG_ixor dX12_livesMinute_76 ?_
    refine gG_iand dX12_livesMinute_77 ?_
    obtain ⟨m0, f0, e1, e2, h⟩ := h
    refine gG_iast dX12_livesMinute_78 ⟨m0, f0, e1, e2, ?_⟩
    obtain ⟨H5, eH⟩ : ∃ z, z = va_up H (q3) (.inl (0, m0, .inl (upd f0 (Int32.toNatClampNeg ((1 : Int32))) ((x4 &&& (((1 : Int32) <<< (i1 &&& 31)) ^^^ (-1 : Int32))))))) := ⟨_, rfl⟩
    rw [← eH] at h ⊢
    refine gG_aload_n dX12_livesMinute_79 rfl rfl ?_
    obtain ⟨hrc, d2, P2, hdd, hC, h⟩ := h
    refine gG_cvi (As := []) (st := []) dX12_livesMinute_80 mV_X12_408 hdd hrc rfl rfl (Nat.le_of_ble_eq_true rfl) (Nat.le_refl _) ⟨Nat.le_refl _, Nat.le_refl _⟩ hC (fun H6 x7 hp => ?_)
    have h := h H6 x7 hp
    exact gG_exit ⟨rfl, rfl, rfl, dX12_livesMinute_83, _, rfl, h⟩

theorem kX12_days_0 {d n : Nat} {H : gHp} {P : gHp → Int32 → Prop} {a0 : Nat} {i1 : Int32} {i2 : Int32} {i3 : Int32} (h : g_pf H (a0) 12 0 (.int ((0 : Int32))) (fun H1 => g_cz d mX12_within n H1 [.int (i1), .int ((0 : Int32)), .int ((9999 : Int32))] (fun H2 b3 => (b3 = false → P H2 ((-1 : Int32))) ∧ (b3 = true → g_cz d mX12_within n H2 [.int (i2), .int ((1 : Int32)), .int ((99 : Int32))] (fun H4 b5 => (b5 = false → P H4 ((-1 : Int32))) ∧ (b5 = true → g_cz d mX12_within n H4 [.int (i3), .int ((0 : Int32)), .int ((2 : Int32))] (fun H6 b7 => (b7 = true → g_pf H6 (a0) 12 59 (.long ((Int32.toInt64 (i1)))) (fun H8 => g_gr H8 (a0) 12 47 (fun q9 => g_gr H8 (a0) 12 48 (fun q10 => g_cvd d mX12_copies n H8 [.ref (q9), .int ((0 : Int32)), .ref (q10), .int ((0 : Int32))] (fun H11 => gG d mX12_days 0 0 (g_Xj mX12_days n 0 0 P) 65 n H11 [some (.ref (a0)), none, some (.int (i2)), some (.int (i3)), some (.int ((0 : Int32))), some (.int ((0 : Int32))), some (.int ((0 : Int32))), none] [] (0) (0)))))) ∧ (b7 = false → P H6 ((-1 : Int32)))))))))) : gG d mX12_days 0 0 (g_Xj mX12_days n 0 0 P) 0 n H [some (.ref (a0)), some (.int (i1)), some (.int (i2)), some (.int (i3)), none, none, none, none] [] 0 0 := by
  refine gG_aload_n dX12_days_0 rfl rfl ?_
  refine gG_iconst (v := 0) dX12_days_1 (by decide) ?_
  obtain ⟨fs, e1, e2, h⟩ := h
  refine gG_pi dX12_days_2 fl_X12_147 ⟨fs, e1, e2, ?_⟩
  obtain ⟨H1, eH⟩ : ∃ z, z = va_up H (a0) (.inr (12, fs.set 0 (.int ((0 : Int32))))) := ⟨_, rfl⟩
  rw [← eH] at h ⊢
  refine gG_iload_n dX12_days_5 rfl rfl ?_
  refine gG_iconst (v := 0) dX12_days_6 (by decide) ?_
  refine gG_sipush (v := 9999) dX12_days_7 (by decide) ?_
  obtain ⟨d2, P2, hdd, hC, h⟩ := h
  refine gG_csi (As := [.int (i1), .int ((0 : Int32)), .int ((9999 : Int32))]) (st := []) dX12_days_10 mS_X12_268 hdd rfl rfl (Nat.le_of_ble_eq_true rfl) (Nat.le_refl _) ⟨Nat.le_refl _, Nat.le_refl _⟩ hC (fun H2 x9 hp => ?_)
  obtain ⟨b3, rfl, hp⟩ := hp
  have h := h H2 b3 hp
  refine gG_if_eq (tgt := 35) dX12_days_13 (by decide) (fun c => ?_) (fun c => ?_)
  · have h := h.1 (g_b_f c)
    refine gG_iconst (v := (-1)) dX12_days_35 (by decide) ?_
    exact gG_exit ⟨rfl, rfl, rfl, dX12_days_36, _, rfl, h⟩
  · have h := h.2 (g_b_t c)
    refine gG_iload_n dX12_days_16 rfl rfl ?_
    refine gG_iconst (v := 1) dX12_days_17 (by decide) ?_
    refine gG_bipush (v := 99) dX12_days_18 (by decide) ?_
    obtain ⟨d2, P2, hdd, hC, h⟩ := h
    refine gG_csi (As := [.int (i2), .int ((1 : Int32)), .int ((99 : Int32))]) (st := []) dX12_days_20 mS_X12_268 hdd rfl rfl (Nat.le_of_ble_eq_true rfl) (Nat.le_refl _) ⟨Nat.le_refl _, Nat.le_refl _⟩ hC (fun H4 x9 hp => ?_)
    obtain ⟨b5, rfl, hp⟩ := hp
    have h := h H4 b5 hp
    refine gG_if_eq (tgt := 35) dX12_days_23 (by decide) (fun c => ?_) (fun c => ?_)
    · have h := h.1 (g_b_f c)
      refine gG_iconst (v := (-1)) dX12_days_35 (by decide) ?_
      exact gG_exit ⟨rfl, rfl, rfl, dX12_days_36, _, rfl, h⟩
    · have h := h.2 (g_b_t c)
      refine gG_iload_n dX12_days_26 rfl rfl ?_
      refine gG_iconst (v := 0) dX12_days_27 (by decide) ?_
      refine gG_iconst (v := 2) dX12_days_28 (by decide) ?_
      obtain ⟨d2, P2, hdd, hC, h⟩ := h
      refine gG_csi (As := [.int (i3), .int ((0 : Int32)), .int ((2 : Int32))]) (st := []) dX12_days_29 mS_X12_268 hdd rfl rfl (Nat.le_of_ble_eq_true rfl) (Nat.le_refl _) ⟨Nat.le_refl _, Nat.le_refl _⟩ hC (fun H6 x9 hp => ?_)
      obtain ⟨b7, rfl, hp⟩ := hp
      have h := h H6 b7 hp
      refine gG_if_ne (tgt := 37) dX12_days_32 (by decide) (fun c => ?_) (fun c => ?_)
      · have h := h.1 (g_b_t c)
        refine gG_aload_n dX12_days_37 rfl rfl ?_
        refine gG_iload_n dX12_days_38 rfl rfl ?_
        refine gG_i2l dX12_days_39 ?_
        obtain ⟨fs, e1, e2, h⟩ := h
        refine gG_pl dX12_days_40 fl_X12_465 ⟨fs, e1, e2, ?_⟩
        obtain ⟨H8, eH⟩ : ∃ z, z = va_up H6 (a0) (.inr (12, fs.set 59 (.long ((Int32.toInt64 (i1)))))) := ⟨_, rfl⟩
        rw [← eH] at h ⊢
        refine gG_aload_n dX12_days_43 rfl rfl ?_
        obtain ⟨fs, q9, e1, e2, h⟩ := h
        refine gG_gr dX12_days_44 fl_X12_117 ⟨fs, q9, e1, e2, ?_⟩
        refine gG_iconst (v := 0) dX12_days_47 (by decide) ?_
        refine gG_aload_n dX12_days_48 rfl rfl ?_
        obtain ⟨fs, q10, e1, e2, h⟩ := h
        refine gG_gr dX12_days_49 fl_X12_120 ⟨fs, q10, e1, e2, ?_⟩
        refine gG_iconst (v := 0) dX12_days_52 (by decide) ?_
        obtain ⟨d2, P2, hdd, hC, h⟩ := h
        refine gG_csv (As := [.ref (q9), .int ((0 : Int32)), .ref (q10), .int ((0 : Int32))]) (st := []) dX12_days_53 mS_X12_401 hdd rfl rfl (Nat.le_of_ble_eq_true rfl) (Nat.le_refl _) ⟨Nat.le_refl _, Nat.le_refl _⟩ hC (fun H11 hp => ?_)
        have h := h H11 hp
        refine gG_iconst (v := 0) dX12_days_56 (by decide) ?_
        refine gG_istore dX12_days_57 (Nat.le_of_ble_eq_true rfl) ?_
        refine gG_iconst (v := 0) dX12_days_59 (by decide) ?_
        refine gG_istore dX12_days_60 (Nat.le_of_ble_eq_true rfl) ?_
        refine gG_iconst (v := 0) dX12_days_62 (by decide) ?_
        refine gG_istore dX12_days_63 (Nat.le_of_ble_eq_true rfl) ?_
        refine gG_locals ?_ h
        exact ⟨rfl, ⟨rfl, ⟨rfl, ⟨rfl, ⟨rfl, ⟨rfl, trivial⟩⟩⟩⟩⟩⟩
      · have h := h.2 (g_b_f c)
        refine gG_iconst (v := (-1)) dX12_days_35 (by decide) ?_
        exact gG_exit ⟨rfl, rfl, rfl, dX12_days_36, _, rfl, h⟩
theorem kX12_days_65 {d n : Nat} {H : gHp} {P : gHp → Int32 → Prop} {a0 : Nat} {i2 : Int32} {i3 : Int32} {i4 : Int32} {i5 : Int32} {i6 : Int32} (h : (i2 ≤ i6 → (∃ fs, H (a0) = .inr (12, fs)) ∧ g_ci d mX12_allStands n H [.ref (a0)] (fun H1 x2 => g_gr H1 (a0) 12 48 (fun q3 => g_gr H1 (a0) 12 47 (fun q4 => g_cvd d mX12_copies n H1 [.ref (q3), .int ((0 : Int32)), .ref (q4), .int ((0 : Int32))] (fun H5 => (¬ (i3 = 0) → (¬ (i3 = (1 : Int32)) → P H5 (x2)) ∧ (i3 = (1 : Int32) → P H5 (i5))) ∧ (i3 = 0 → P H5 (i4))))))) ∧ (¬ (i2 ≤ i6) → (∃ fs, H (a0) = .inr (12, fs)) ∧ g_ci d mX12_livesMinute n H [.ref (a0)] (fun H6 x7 => (x7 < 0 → gG d mX12_days 0 0 (g_Xj mX12_days n 0 0 P) 99 n H6 [some (.ref (a0)), none, some (.int (i2)), some (.int (i3)), some (.int ((i4 + (0 : Int32)))), some (.int (i5)), some (.int (i6)), some (.int (x7))] [] (0) (0)) ∧ (¬ (x7 < 0) → (x7 = (6 : Int32) → gG d mX12_days 0 0 (g_Xj mX12_days n 0 0 P) 99 n H6 [some (.ref (a0)), none, some (.int (i2)), some (.int (i3)), some (.int ((i4 + (0 : Int32)))), some (.int (i5)), some (.int (i6)), some (.int (x7))] [] (0) (0)) ∧ (¬ (x7 = (6 : Int32)) → gG d mX12_days 0 0 (g_Xj mX12_days n 0 0 P) 99 n H6 [some (.ref (a0)), none, some (.int (i2)), some (.int (i3)), some (.int ((i4 + (1 : Int32)))), some (.int (i5)), some (.int (i6)), some (.int (x7))] [] (0) (0)))))) : gG d mX12_days 0 0 (g_Xj mX12_days n 0 0 P) 65 n H [some (.ref (a0)), none, some (.int (i2)), some (.int (i3)), some (.int (i4)), some (.int (i5)), some (.int (i6)), none] [] 0 0 := by
  refine gG_iload dX12_days_65 rfl ?_
  refine gG_iload_n dX12_days_67 rfl rfl ?_
  refine gG_ic_ge (tgt := 122) dX12_days_68 (by decide) (fun c => ?_) (fun c => ?_)
  · have h := h.1 c
    refine gG_aload_n dX12_days_122 rfl rfl ?_
    obtain ⟨hrc, d2, P2, hdd, hC, h⟩ := h
    refine gG_cvi (As := []) (st := []) dX12_days_123 mV_X12_417 hdd hrc rfl rfl (Nat.le_of_ble_eq_true rfl) (Nat.le_refl _) ⟨Nat.le_refl _, Nat.le_refl _⟩ hC (fun H1 x2 hp => ?_)
    have h := h H1 x2 hp
    refine gG_istore dX12_days_126 (Nat.le_of_ble_eq_true rfl) ?_
    refine gG_aload_n dX12_days_128 rfl rfl ?_
    obtain ⟨fs, q3, e1, e2, h⟩ := h
    refine gG_gr dX12_days_129 fl_X12_120 ⟨fs, q3, e1, e2, ?_⟩
    refine gG_iconst (v := 0) dX12_days_132 (by decide) ?_
    refine gG_aload_n dX12_days_133 rfl rfl ?_
    obtain ⟨fs, q4, e1, e2, h⟩ := h
    refine gG_gr dX12_days_134 fl_X12_117 ⟨fs, q4, e1, e2, ?_⟩
    refine gG_iconst (v := 0) dX12_days_137 (by decide) ?_
    obtain ⟨d2, P2, hdd, hC, h⟩ := h
    refine gG_csv (As := [.ref (q3), .int ((0 : Int32)), .ref (q4), .int ((0 : Int32))]) (st := []) dX12_days_138 mS_X12_401 hdd rfl rfl (Nat.le_of_ble_eq_true rfl) (Nat.le_refl _) ⟨Nat.le_refl _, Nat.le_refl _⟩ hC (fun H5 hp => ?_)
    have h := h H5 hp
    refine gG_iload_n dX12_days_141 rfl rfl ?_
    refine gG_if_ne (tgt := 150) dX12_days_142 (by decide) (fun c => ?_) (fun c => ?_)
    · have h := h.1 c
      refine gG_iload_n dX12_days_150 rfl rfl ?_
      refine gG_iconst (v := 1) dX12_days_151 (by decide) ?_
      refine gG_ic_ne (tgt := 160) dX12_days_152 (by decide) (fun c => ?_) (fun c => ?_)
      · have h := h.1 c
        refine gG_iload dX12_days_160 rfl ?_
        exact gG_exit ⟨rfl, rfl, rfl, dX12_days_162, _, rfl, h⟩
      · have h := h.2 c
        refine gG_iload dX12_days_155 rfl ?_
        refine gG_goto (tgt := 162) dX12_days_157 (by decide) ?_
        exact gG_exit ⟨rfl, rfl, rfl, dX12_days_162, _, rfl, h⟩
    · have h := h.2 c
      refine gG_iload dX12_days_145 rfl ?_
      refine gG_goto (tgt := 162) dX12_days_147 (by decide) ?_
      exact gG_exit ⟨rfl, rfl, rfl, dX12_days_162, _, rfl, h⟩
  · have h := h.2 c
    refine gG_aload_n dX12_days_71 rfl rfl ?_
    obtain ⟨hrc, d2, P2, hdd, hC, h⟩ := h
    refine gG_cvi (As := []) (st := []) dX12_days_72 mV_X12_479 hdd hrc rfl rfl (Nat.le_of_ble_eq_true rfl) (Nat.le_refl _) ⟨Nat.le_refl _, Nat.le_refl _⟩ hC (fun H6 x7 hp => ?_)
    have h := h H6 x7 hp
    refine gG_istore dX12_days_75 (Nat.le_of_ble_eq_true rfl) ?_
    refine gG_iload dX12_days_77 rfl ?_
    refine gG_iload dX12_days_79 rfl ?_
    refine gG_if_lt (tgt := 95) dX12_days_81 (by decide) (fun c => ?_) (fun c => ?_)
    · have h := h.1 c
      refine gG_iconst (v := 0) dX12_days_95 (by decide) ?_
      refine gG_iadd dX12_days_96 ?_
      refine gG_istore dX12_days_97 (Nat.le_of_ble_eq_true rfl) ?_
      refine gG_locals ?_ h
      exact ⟨rfl, ⟨rfl, ⟨rfl, ⟨rfl, ⟨rfl, ⟨rfl, ⟨rfl, trivial⟩⟩⟩⟩⟩⟩⟩
    · have h := h.2 c
      refine gG_iload dX12_days_84 rfl ?_
      refine gG_bipush (v := 6) dX12_days_86 (by decide) ?_
      refine gG_ic_eq (tgt := 95) dX12_days_88 (by decide) (fun c => ?_) (fun c => ?_)
      · have h := h.1 c
        refine gG_iconst (v := 0) dX12_days_95 (by decide) ?_
        refine gG_iadd dX12_days_96 ?_
        refine gG_istore dX12_days_97 (Nat.le_of_ble_eq_true rfl) ?_
        refine gG_locals ?_ h
        exact ⟨rfl, ⟨rfl, ⟨rfl, ⟨rfl, ⟨rfl, ⟨rfl, ⟨rfl, trivial⟩⟩⟩⟩⟩⟩⟩
      · have h := h.2 c
        refine gG_iconst (v := 1) dX12_days_91 (by decide) ?_
        refine gG_goto (tgt := 96) dX12_days_92 (by decide) ?_
        refine gG_iadd dX12_days_96 ?_
        refine gG_istore dX12_days_97 (Nat.le_of_ble_eq_true rfl) ?_
        refine gG_locals ?_ h
        exact ⟨rfl, ⟨rfl, ⟨rfl, ⟨rfl, ⟨rfl, ⟨rfl, ⟨rfl, trivial⟩⟩⟩⟩⟩⟩⟩
theorem kX12_days_99 {d n : Nat} {H : gHp} {P : gHp → Int32 → Prop} {a0 : Nat} {i2 : Int32} {i3 : Int32} {i4 : Int32} {i5 : Int32} {i6 : Int32} {i7 : Int32} (h : (¬ (i7 = (6 : Int32)) → gG d mX12_days 0 0 (g_Xj mX12_days n 0 0 P) 65 n H [some (.ref (a0)), none, some (.int (i2)), some (.int (i3)), some (.int (i4)), some (.int ((i5 + (0 : Int32)))), some (.int ((i6 + 1))), none] [] (0) (0)) ∧ (i7 = (6 : Int32) → gG d mX12_days 0 0 (g_Xj mX12_days n 0 0 P) 65 n H [some (.ref (a0)), none, some (.int (i2)), some (.int (i3)), some (.int (i4)), some (.int ((i5 + (1 : Int32)))), some (.int ((i6 + 1))), none] [] (0) (0))) : gG d mX12_days 0 0 (g_Xj mX12_days n 0 0 P) 99 n H [some (.ref (a0)), none, some (.int (i2)), some (.int (i3)), some (.int (i4)), some (.int (i5)), some (.int (i6)), some (.int (i7))] [] 0 0 := by
  refine gG_iload dX12_days_99 rfl ?_
  refine gG_iload dX12_days_101 rfl ?_
  refine gG_bipush (v := 6) dX12_days_103 (by decide) ?_
  refine gG_ic_ne (tgt := 112) dX12_days_105 (by decide) (fun c => ?_) (fun c => ?_)
  · have h := h.1 c
    refine gG_iconst (v := 0) dX12_days_112 (by decide) ?_
    refine gG_iadd dX12_days_113 ?_
    refine gG_istore dX12_days_114 (Nat.le_of_ble_eq_true rfl) ?_
    refine gG_iinc (v := i6 + 1) dX12_days_116 rfl rfl (Nat.le_of_ble_eq_true rfl) ?_
    refine gG_goto (tgt := 65) dX12_days_119 (by decide) ?_
    refine gG_locals ?_ h
    exact ⟨rfl, ⟨rfl, ⟨rfl, ⟨rfl, ⟨rfl, ⟨rfl, trivial⟩⟩⟩⟩⟩⟩
  · have h := h.2 c
    refine gG_iconst (v := 1) dX12_days_108 (by decide) ?_
    refine gG_goto (tgt := 113) dX12_days_109 (by decide) ?_
    refine gG_iadd dX12_days_113 ?_
    refine gG_istore dX12_days_114 (Nat.le_of_ble_eq_true rfl) ?_
    refine gG_iinc (v := i6 + 1) dX12_days_116 rfl rfl (Nat.le_of_ble_eq_true rfl) ?_
    refine gG_goto (tgt := 65) dX12_days_119 (by decide) ?_
    refine gG_locals ?_ h
    exact ⟨rfl, ⟨rfl, ⟨rfl, ⟨rfl, ⟨rfl, ⟨rfl, trivial⟩⟩⟩⟩⟩⟩

theorem kX12_mark_0 {d n : Nat} {H : gHp} {P : gHp → Bool → Prop} {a0 : Nat} {i1 : Int32} {i2 : Int32} (h : g_pf H (a0) 12 0 (.int ((0 : Int32))) (fun H1 => g_cz d mX12_within n H1 [.int (i1), .int ((0 : Int32)), .int ((3 : Int32))] (fun H2 b3 => (b3 = false → P H2 false) ∧ (b3 = true → (i2 = 0 → gG d mX12_mark 0 0 (g_Xz mX12_mark n 0 0 P) 29 n H2 [some (.ref (a0)), some (.int (i1)), some (.int (i2)), none, none] [] (0) (0)) ∧ (¬ (i2 = 0) → g_gr H2 (a0) 12 52 (fun q4 => g_al 3 H2 (q4) (i1) (fun x5 => (¬ (x5 = 0) → gG d mX12_mark 0 0 (g_Xz mX12_mark n 0 0 P) 29 n H2 [some (.ref (a0)), some (.int (i1)), some (.int (i2)), none, none] [] (0) (0)) ∧ (x5 = 0 → P H2 false)))))))) : gG d mX12_mark 0 0 (g_Xz mX12_mark n 0 0 P) 0 n H [some (.ref (a0)), some (.int (i1)), some (.int (i2)), none, none] [] 0 0 := by
  refine gG_aload_n dX12_mark_0 rfl rfl ?_
  refine gG_iconst (v := 0) dX12_mark_1 (by decide) ?_
  obtain ⟨fs, e1, e2, h⟩ := h
  refine gG_pi dX12_mark_2 fl_X12_147 ⟨fs, e1, e2, ?_⟩
  obtain ⟨H1, eH⟩ : ∃ z, z = va_up H (a0) (.inr (12, fs.set 0 (.int ((0 : Int32))))) := ⟨_, rfl⟩
  rw [← eH] at h ⊢
  refine gG_iload_n dX12_mark_5 rfl rfl ?_
  refine gG_iconst (v := 0) dX12_mark_6 (by decide) ?_
  refine gG_iconst (v := 3) dX12_mark_7 (by decide) ?_
  obtain ⟨d2, P2, hdd, hC, h⟩ := h
  refine gG_csi (As := [.int (i1), .int ((0 : Int32)), .int ((3 : Int32))]) (st := []) dX12_mark_8 mS_X12_268 hdd rfl rfl (Nat.le_of_ble_eq_true rfl) (Nat.le_refl _) ⟨Nat.le_refl _, Nat.le_refl _⟩ hC (fun H2 x9 hp => ?_)
  obtain ⟨b3, rfl, hp⟩ := hp
  have h := h H2 b3 hp
  refine gG_if_eq (tgt := 27) dX12_mark_11 (by decide) (fun c => ?_) (fun c => ?_)
  · have h := h.1 (g_b_f c)
    refine gG_iconst (v := 0) dX12_mark_27 (by decide) ?_
    exact gG_exit ⟨rfl, rfl, rfl, dX12_mark_28, false, rfl, h⟩
  · have h := h.2 (g_b_t c)
    refine gG_iload_n dX12_mark_14 rfl rfl ?_
    refine gG_if_eq (tgt := 29) dX12_mark_15 (by decide) (fun c => ?_) (fun c => ?_)
    · have h := h.1 c
      refine gG_locals ?_ h
      exact ⟨rfl, ⟨rfl, ⟨rfl, trivial⟩⟩⟩
    · have h := h.2 c
      refine gG_aload_n dX12_mark_18 rfl rfl ?_
      obtain ⟨fs, q4, e1, e2, h⟩ := h
      refine gG_gr dX12_mark_19 fl_X12_132 ⟨fs, q4, e1, e2, ?_⟩
      refine gG_iload_n dX12_mark_22 rfl rfl ?_
      obtain ⟨m0, f0, e1, e2, h⟩ := h
      refine gG_zald dX12_mark_23 ⟨m0, f0, e1, e2, ?_⟩
      obtain ⟨x5, eH⟩ : ∃ z, z = f0 (Int32.toNatClampNeg (i1)) := ⟨_, rfl⟩
      rw [← eH] at h ⊢
      refine gG_if_ne (tgt := 29) dX12_mark_24 (by decide) (fun c => ?_) (fun c => ?_)
      · have h := h.1 c
        refine gG_locals ?_ h
        exact ⟨rfl, ⟨rfl, ⟨rfl, trivial⟩⟩⟩
      · have h := h.2 c
        refine gG_iconst (v := 0) dX12_mark_27 (by decide) ?_
        exact gG_exit ⟨rfl, rfl, rfl, dX12_mark_28, false, rfl, h⟩
theorem kX12_mark_29 {d n : Nat} {H : gHp} {P : gHp → Bool → Prop} {a0 : Nat} {i1 : Int32} {i2 : Int32} (h : g_gr H (a0) 12 52 (fun q1 => g_as 3 H (q1) (i1) (vp_nar .boolean ((1 : Int32))) (fun H2 => (i2 = 0 → gG d mX12_mark 0 0 (g_Xz mX12_mark n 0 0 P) 48 n H2 [some (.ref (a0)), some (.int (i1)), some (.int (i2)), some (.int ((0 : Int32))), none] [] (0) (0)) ∧ (¬ (i2 = 0) → gG d mX12_mark 0 0 (g_Xz mX12_mark n 0 0 P) 48 n H2 [some (.ref (a0)), some (.int (i1)), some (.int (i2)), some (.int (((1 : Int32) + i1))), none] [] (0) (0))))) : gG d mX12_mark 0 0 (g_Xz mX12_mark n 0 0 P) 29 n H [some (.ref (a0)), some (.int (i1)), some (.int (i2)), none, none] [] 0 0 := by
  refine gG_aload_n dX12_mark_29 rfl rfl ?_
  obtain ⟨fs, q1, e1, e2, h⟩ := h
  refine gG_gr dX12_mark_30 fl_X12_132 ⟨fs, q1, e1, e2, ?_⟩
  refine gG_iload_n dX12_mark_33 rfl rfl ?_
  refine gG_iconst (v := 1) dX12_mark_34 (by decide) ?_
  obtain ⟨m0, f0, e1, e2, h⟩ := h
  refine gG_zast dX12_mark_35 ⟨m0, f0, e1, e2, ?_⟩
  obtain ⟨H2, eH⟩ : ∃ z, z = va_up H (q1) (.inl (3, m0, .inl (upd f0 (Int32.toNatClampNeg (i1)) (vp_nar .boolean ((1 : Int32)))))) := ⟨_, rfl⟩
  rw [← eH] at h ⊢
  refine gG_iload_n dX12_mark_36 rfl rfl ?_
  refine gG_if_eq (tgt := 46) dX12_mark_37 (by decide) (fun c => ?_) (fun c => ?_)
  · have h := h.1 c
    refine gG_iconst (v := 0) dX12_mark_46 (by decide) ?_
    refine gG_istore_n dX12_mark_47 rfl (Nat.le_of_ble_eq_true rfl) ?_
    refine gG_locals ?_ h
    exact ⟨rfl, ⟨rfl, ⟨rfl, ⟨rfl, trivial⟩⟩⟩⟩
  · have h := h.2 c
    refine gG_iconst (v := 1) dX12_mark_40 (by decide) ?_
    refine gG_iload_n dX12_mark_41 rfl rfl ?_
    refine gG_iadd dX12_mark_42 ?_
    refine gG_goto (tgt := 47) dX12_mark_43 (by decide) ?_
    refine gG_istore_n dX12_mark_47 rfl (Nat.le_of_ble_eq_true rfl) ?_
    refine gG_locals ?_ h
    exact ⟨rfl, ⟨rfl, ⟨rfl, ⟨rfl, trivial⟩⟩⟩⟩
theorem kX12_mark_48 {d n : Nat} {H : gHp} {P : gHp → Bool → Prop} {a0 : Nat} {i1 : Int32} {i2 : Int32} {i3 : Int32} (h : (i2 = 0 → gG d mX12_mark 0 0 (g_Xz mX12_mark n 0 0 P) 61 n H [some (.ref (a0)), some (.int (i1)), some (.int (i2)), some (.int (i3)), some (.int (((1 : Int32) + i1)))] [] (0) (0)) ∧ (¬ (i2 = 0) → gG d mX12_mark 0 0 (g_Xz mX12_mark n 0 0 P) 61 n H [some (.ref (a0)), some (.int (i1)), some (.int (i2)), some (.int (i3)), some (.int ((0 : Int32)))] [] (0) (0))) : gG d mX12_mark 0 0 (g_Xz mX12_mark n 0 0 P) 48 n H [some (.ref (a0)), some (.int (i1)), some (.int (i2)), some (.int (i3)), none] [] 0 0 := by
  refine gG_iload_n dX12_mark_48 rfl rfl ?_
  refine gG_if_eq (tgt := 56) dX12_mark_49 (by decide) (fun c => ?_) (fun c => ?_)
  · have h := h.1 c
    refine gG_iconst (v := 1) dX12_mark_56 (by decide) ?_
    refine gG_iload_n dX12_mark_57 rfl rfl ?_
    refine gG_iadd dX12_mark_58 ?_
    refine gG_istore dX12_mark_59 (Nat.le_of_ble_eq_true rfl) ?_
    refine gG_locals ?_ h
    exact ⟨rfl, ⟨rfl, ⟨rfl, ⟨rfl, ⟨rfl, trivial⟩⟩⟩⟩⟩
  · have h := h.2 c
    refine gG_iconst (v := 0) dX12_mark_52 (by decide) ?_
    refine gG_goto (tgt := 59) dX12_mark_53 (by decide) ?_
    refine gG_istore dX12_mark_59 (Nat.le_of_ble_eq_true rfl) ?_
    refine gG_locals ?_ h
    exact ⟨rfl, ⟨rfl, ⟨rfl, ⟨rfl, ⟨rfl, trivial⟩⟩⟩⟩⟩
theorem kX12_mark_61 {d n : Nat} {H : gHp} {P : gHp → Bool → Prop} {a0 : Nat} {i1 : Int32} {i2 : Int32} {i3 : Int32} {i4 : Int32} (h : (∃ fs, H (a0) = .inr (12, fs)) ∧ g_cvd d mX12_laysLines n H [.ref (a0), .int (i3), .int (i4)] (fun H1 => (∃ fs, H1 (a0) = .inr (12, fs)) ∧ g_cvd d mX12_laysWord n H1 [.ref (a0), .int (i3), .int (i4)] (fun H2 => (∃ fs, H2 (a0) = .inr (12, fs)) ∧ g_cvd d mX12_laysSeen n H2 [.ref (a0), .int (i3), .int (i4)] (fun H3 => (i2 = 0 → g_gr H3 (a0) 12 47 (fun q4 => g_gr H3 (a0) 12 50 (fun q5 => g_cvd d mX12_copies n H3 [.ref (q4), .int ((0 : Int32)), .ref (q5), .int (((59 : Int32) * i1))] (fun H6 => P H6 true)))) ∧ (¬ (i2 = 0) → g_gr H3 (a0) 12 50 (fun q7 => g_gr H3 (a0) 12 47 (fun q8 => g_cvd d mX12_copies n H3 [.ref (q7), .int (((59 : Int32) * i1)), .ref (q8), .int ((0 : Int32))] (fun H9 => g_pf H9 (a0) 12 53 (.int ((0 : Int32))) (fun H10 => P H10 true))))))))) : gG d mX12_mark 0 0 (g_Xz mX12_mark n 0 0 P) 61 n H [some (.ref (a0)), some (.int (i1)), some (.int (i2)), some (.int (i3)), some (.int (i4))] [] 0 0 := by
  refine gG_aload_n dX12_mark_61 rfl rfl ?_
  refine gG_iload_n dX12_mark_62 rfl rfl ?_
  refine gG_iload dX12_mark_63 rfl ?_
  obtain ⟨hrc, d2, P2, hdd, hC, h⟩ := h
  refine gG_cvv (As := [.int (i3), .int (i4)]) (st := []) dX12_mark_65 mV_X12_349 hdd hrc rfl rfl (Nat.le_of_ble_eq_true rfl) (Nat.le_refl _) ⟨Nat.le_refl _, Nat.le_refl _⟩ hC (fun H1 hp => ?_)
  have h := h H1 hp
  refine gG_aload_n dX12_mark_68 rfl rfl ?_
  refine gG_iload_n dX12_mark_69 rfl rfl ?_
  refine gG_iload dX12_mark_70 rfl ?_
  obtain ⟨hrc, d2, P2, hdd, hC, h⟩ := h
  refine gG_cvv (As := [.int (i3), .int (i4)]) (st := []) dX12_mark_72 mV_X12_356 hdd hrc rfl rfl (Nat.le_of_ble_eq_true rfl) (Nat.le_refl _) ⟨Nat.le_refl _, Nat.le_refl _⟩ hC (fun H2 hp => ?_)
  have h := h H2 hp
  refine gG_aload_n dX12_mark_75 rfl rfl ?_
  refine gG_iload_n dX12_mark_76 rfl rfl ?_
  refine gG_iload dX12_mark_77 rfl ?_
  obtain ⟨hrc, d2, P2, hdd, hC, h⟩ := h
  refine gG_cvv (As := [.int (i3), .int (i4)]) (st := []) dX12_mark_79 mV_X12_482 hdd hrc rfl rfl (Nat.le_of_ble_eq_true rfl) (Nat.le_refl _) ⟨Nat.le_refl _, Nat.le_refl _⟩ hC (fun H3 hp => ?_)
  have h := h H3 hp
  refine gG_iload_n dX12_mark_82 rfl rfl ?_
  refine gG_if_eq (tgt := 110) dX12_mark_83 (by decide) (fun c => ?_) (fun c => ?_)
  · have h := h.1 c
    refine gG_aload_n dX12_mark_110 rfl rfl ?_
    obtain ⟨fs, q4, e1, e2, h⟩ := h
    refine gG_gr dX12_mark_111 fl_X12_117 ⟨fs, q4, e1, e2, ?_⟩
    refine gG_iconst (v := 0) dX12_mark_114 (by decide) ?_
    refine gG_aload_n dX12_mark_115 rfl rfl ?_
    obtain ⟨fs, q5, e1, e2, h⟩ := h
    refine gG_gr dX12_mark_116 fl_X12_126 ⟨fs, q5, e1, e2, ?_⟩
    refine gG_bipush (v := 59) dX12_mark_119 (by decide) ?_
    refine gG_iload_n dX12_mark_121 rfl rfl ?_
    refine gG_imul dX12_mark_122 ?_
    obtain ⟨d2, P2, hdd, hC, h⟩ := h
    refine gG_csv (As := [.ref (q4), .int ((0 : Int32)), .ref (q5), .int (((59 : Int32) * i1))]) (st := []) dX12_mark_123 mS_X12_401 hdd rfl rfl (Nat.le_of_ble_eq_true rfl) (Nat.le_refl _) ⟨Nat.le_refl _, Nat.le_refl _⟩ hC (fun H6 hp => ?_)
    have h := h H6 hp
    refine gG_iconst (v := 1) dX12_mark_126 (by decide) ?_
    exact gG_exit ⟨rfl, rfl, rfl, dX12_mark_127, true, rfl, h⟩
  · have h := h.2 c
    refine gG_aload_n dX12_mark_86 rfl rfl ?_
    obtain ⟨fs, q7, e1, e2, h⟩ := h
    refine gG_gr dX12_mark_87 fl_X12_126 ⟨fs, q7, e1, e2, ?_⟩
    refine gG_bipush (v := 59) dX12_mark_90 (by decide) ?_
    refine gG_iload_n dX12_mark_92 rfl rfl ?_
    refine gG_imul dX12_mark_93 ?_
    refine gG_aload_n dX12_mark_94 rfl rfl ?_
    obtain ⟨fs, q8, e1, e2, h⟩ := h
    refine gG_gr dX12_mark_95 fl_X12_117 ⟨fs, q8, e1, e2, ?_⟩
    refine gG_iconst (v := 0) dX12_mark_98 (by decide) ?_
    obtain ⟨d2, P2, hdd, hC, h⟩ := h
    refine gG_csv (As := [.ref (q7), .int (((59 : Int32) * i1)), .ref (q8), .int ((0 : Int32))]) (st := []) dX12_mark_99 mS_X12_401 hdd rfl rfl (Nat.le_of_ble_eq_true rfl) (Nat.le_refl _) ⟨Nat.le_refl _, Nat.le_refl _⟩ hC (fun H9 hp => ?_)
    have h := h H9 hp
    refine gG_aload_n dX12_mark_102 rfl rfl ?_
    refine gG_iconst (v := 0) dX12_mark_103 (by decide) ?_
    obtain ⟨fs, e1, e2, h⟩ := h
    refine gG_pi dX12_mark_104 fl_X12_343 ⟨fs, e1, e2, ?_⟩
    obtain ⟨H10, eH⟩ : ∃ z, z = va_up H9 (a0) (.inr (12, fs.set 53 (.int ((0 : Int32))))) := ⟨_, rfl⟩
    rw [← eH] at h ⊢
    refine gG_goto (tgt := 126) dX12_mark_107 (by decide) ?_
    refine gG_iconst (v := 1) dX12_mark_126 (by decide) ?_
    exact gG_exit ⟨rfl, rfl, rfl, dX12_mark_127, true, rfl, h⟩

theorem kX12_count_0 {d n : Nat} {H : gHp} {P : gHp → Int32 → Prop} {a0 : Nat} {i1 : Int32} (h : g_pf H (a0) 12 0 (.int ((0 : Int32))) (fun H1 => g_cz d mX12_within n H1 [.int (i1), .int ((0 : Int32)), .int ((12 : Int32))] (fun H2 b3 => (b3 = true → ((2 : Int32) ≤ i1 → ((5 : Int32) ≤ i1 → ((8 : Int32) ≤ i1 → ((11 : Int32) ≤ i1 → (¬ (i1 = (11 : Int32)) → g_gi H2 (a0) 12 1 (fun x4 => P H2 (x4))) ∧ (i1 = (11 : Int32) → g_gi H2 (a0) 12 53 (fun x5 => P H2 (x5)))) ∧ (¬ ((11 : Int32) ≤ i1) → (¬ (i1 = (8 : Int32)) → (¬ (i1 = (9 : Int32)) → g_gr H2 (a0) 12 44 (fun q6 => g_al 0 H2 (q6) ((0 : Int32)) (fun x7 => P H2 (x7)))) ∧ (i1 = (9 : Int32) → g_gr H2 (a0) 12 42 (fun q8 => g_al 0 H2 (q8) ((0 : Int32)) (fun x9 => P H2 (x9))))) ∧ (i1 = (8 : Int32) → g_gr H2 (a0) 12 38 (fun q10 => g_al 0 H2 (q10) ((0 : Int32)) (fun x11 => P H2 (x11)))))) ∧ (¬ ((8 : Int32) ≤ i1) → (¬ (i1 = (5 : Int32)) → (¬ (i1 = (6 : Int32)) → (∃ fs, H2 (a0) = .inr (12, fs)) ∧ g_ci d mX12_holesNow n H2 [.ref (a0)] (fun H12 x13 => P H12 (x13))) ∧ (i1 = (6 : Int32) → g_gr H2 (a0) 12 47 (fun q14 => g_al 0 H2 (q14) ((4 : Int32)) (fun x15 => P H2 (x15))))) ∧ (i1 = (5 : Int32) → g_gr H2 (a0) 12 47 (fun q16 => g_al 0 H2 (q16) ((1 : Int32)) (fun x17 => P H2 (x17)))))) ∧ (¬ ((5 : Int32) ≤ i1) → (¬ (i1 = (2 : Int32)) → (¬ (i1 = (3 : Int32)) → (∃ fs, H2 (a0) = .inr (12, fs)) ∧ g_ci d mX12_allStands n H2 [.ref (a0)] (fun H18 x19 => P H18 (x19))) ∧ (i1 = (3 : Int32) → g_gr H2 (a0) 12 47 (fun q20 => g_al 0 H2 (q20) ((0 : Int32)) (fun x21 => (∃ fs, H2 (a0) = .inr (12, fs)) ∧ g_ci d mX12_rainOf n H2 [.ref (a0), .int (x21)] (fun H22 x23 => P H22 (x23)))))) ∧ (i1 = (2 : Int32) → g_gr H2 (a0) 12 47 (fun q24 => g_al 0 H2 (q24) ((0 : Int32)) (fun x25 => P H2 (x25)))))) ∧ (¬ ((2 : Int32) ≤ i1) → g_gr H2 (a0) 12 10 (fun q26 => g_al 0 H2 (q26) (i1) (fun x27 => P H2 (x27))))) ∧ (b3 = false → P H2 ((-1 : Int32)))))) : gG d mX12_count 0 0 (g_Xj mX12_count n 0 0 P) 0 n H [some (.ref (a0)), some (.int (i1))] [] 0 0 := by
  refine gG_aload_n dX12_count_0 rfl rfl ?_
  refine gG_iconst (v := 0) dX12_count_1 (by decide) ?_
  obtain ⟨fs, e1, e2, h⟩ := h
  refine gG_pi dX12_count_2 fl_X12_147 ⟨fs, e1, e2, ?_⟩
  obtain ⟨H1, eH⟩ : ∃ z, z = va_up H (a0) (.inr (12, fs.set 0 (.int ((0 : Int32))))) := ⟨_, rfl⟩
  rw [← eH] at h ⊢
  refine gG_iload_n dX12_count_5 rfl rfl ?_
  refine gG_iconst (v := 0) dX12_count_6 (by decide) ?_
  refine gG_bipush (v := 12) dX12_count_7 (by decide) ?_
  obtain ⟨d2, P2, hdd, hC, h⟩ := h
  refine gG_csi (As := [.int (i1), .int ((0 : Int32)), .int ((12 : Int32))]) (st := []) dX12_count_9 mS_X12_268 hdd rfl rfl (Nat.le_of_ble_eq_true rfl) (Nat.le_refl _) ⟨Nat.le_refl _, Nat.le_refl _⟩ hC (fun H2 x9 hp => ?_)
  obtain ⟨b3, rfl, hp⟩ := hp
  have h := h H2 b3 hp
  refine gG_if_ne (tgt := 17) dX12_count_12 (by decide) (fun c => ?_) (fun c => ?_)
  · have h := h.1 (g_b_t c)
    refine gG_iload_n dX12_count_17 rfl rfl ?_
    refine gG_iconst (v := 2) dX12_count_18 (by decide) ?_
    refine gG_ic_ge (tgt := 29) dX12_count_19 (by decide) (fun c => ?_) (fun c => ?_)
    · have h := h.1 c
      refine gG_iload_n dX12_count_29 rfl rfl ?_
      refine gG_iconst (v := 5) dX12_count_30 (by decide) ?_
      refine gG_ic_ge (tgt := 71) dX12_count_31 (by decide) (fun c => ?_) (fun c => ?_)
      · have h := h.1 c
        refine gG_iload_n dX12_count_71 rfl rfl ?_
        refine gG_bipush (v := 8) dX12_count_72 (by decide) ?_
        refine gG_ic_ge (tgt := 111) dX12_count_74 (by decide) (fun c => ?_) (fun c => ?_)
        · have h := h.1 c
          refine gG_iload_n dX12_count_111 rfl rfl ?_
          refine gG_bipush (v := 11) dX12_count_112 (by decide) ?_
          refine gG_ic_ge (tgt := 154) dX12_count_114 (by decide) (fun c => ?_) (fun c => ?_)
          · have h := h.1 c
            refine gG_iload_n dX12_count_154 rfl rfl ?_
            refine gG_bipush (v := 11) dX12_count_155 (by decide) ?_
            refine gG_ic_ne (tgt := 167) dX12_count_157 (by decide) (fun c => ?_) (fun c => ?_)
            · have h := h.1 c
              refine gG_aload_n dX12_count_167 rfl rfl ?_
              obtain ⟨fs, x4, e1, e2, h⟩ := h
              refine gG_gi dX12_count_168 fl_X12_153 ⟨fs, x4, e1, e2, ?_⟩
              exact gG_exit ⟨rfl, rfl, rfl, dX12_count_171, _, rfl, h⟩
            · have h := h.2 c
              refine gG_aload_n dX12_count_160 rfl rfl ?_
              obtain ⟨fs, x5, e1, e2, h⟩ := h
              refine gG_gi dX12_count_161 fl_X12_343 ⟨fs, x5, e1, e2, ?_⟩
              refine gG_goto (tgt := 171) dX12_count_164 (by decide) ?_
              exact gG_exit ⟨rfl, rfl, rfl, dX12_count_171, _, rfl, h⟩
          · have h := h.2 c
            refine gG_iload_n dX12_count_117 rfl rfl ?_
            refine gG_bipush (v := 8) dX12_count_118 (by decide) ?_
            refine gG_ic_ne (tgt := 132) dX12_count_120 (by decide) (fun c => ?_) (fun c => ?_)
            · have h := h.1 c
              refine gG_iload_n dX12_count_132 rfl rfl ?_
              refine gG_bipush (v := 9) dX12_count_133 (by decide) ?_
              refine gG_ic_ne (tgt := 147) dX12_count_135 (by decide) (fun c => ?_) (fun c => ?_)
              · have h := h.1 c
                refine gG_aload_n dX12_count_147 rfl rfl ?_
                obtain ⟨fs, q6, e1, e2, h⟩ := h
                refine gG_gr dX12_count_148 fl_X12_108 ⟨fs, q6, e1, e2, ?_⟩
                refine gG_iconst (v := 0) dX12_count_151 (by decide) ?_
                obtain ⟨m0, f0, e1, e2, h⟩ := h
                refine gG_iald dX12_count_152 ⟨m0, f0, e1, e2, ?_⟩
                obtain ⟨x7, eH⟩ : ∃ z, z = f0 (Int32.toNatClampNeg ((0 : Int32))) := ⟨_, rfl⟩
                rw [← eH] at h ⊢
                exact gG_exit ⟨rfl, rfl, rfl, dX12_count_153, _, rfl, h⟩
              · have h := h.2 c
                refine gG_aload_n dX12_count_138 rfl rfl ?_
                obtain ⟨fs, q8, e1, e2, h⟩ := h
                refine gG_gr dX12_count_139 fl_X12_102 ⟨fs, q8, e1, e2, ?_⟩
                refine gG_iconst (v := 0) dX12_count_142 (by decide) ?_
                obtain ⟨m0, f0, e1, e2, h⟩ := h
                refine gG_iald dX12_count_143 ⟨m0, f0, e1, e2, ?_⟩
                obtain ⟨x9, eH⟩ : ∃ z, z = f0 (Int32.toNatClampNeg ((0 : Int32))) := ⟨_, rfl⟩
                rw [← eH] at h ⊢
                refine gG_goto (tgt := 153) dX12_count_144 (by decide) ?_
                exact gG_exit ⟨rfl, rfl, rfl, dX12_count_153, _, rfl, h⟩
            · have h := h.2 c
              refine gG_aload_n dX12_count_123 rfl rfl ?_
              obtain ⟨fs, q10, e1, e2, h⟩ := h
              refine gG_gr dX12_count_124 fl_X12_90 ⟨fs, q10, e1, e2, ?_⟩
              refine gG_iconst (v := 0) dX12_count_127 (by decide) ?_
              obtain ⟨m0, f0, e1, e2, h⟩ := h
              refine gG_iald dX12_count_128 ⟨m0, f0, e1, e2, ?_⟩
              obtain ⟨x11, eH⟩ : ∃ z, z = f0 (Int32.toNatClampNeg ((0 : Int32))) := ⟨_, rfl⟩
              rw [← eH] at h ⊢
              refine gG_goto (tgt := 153) dX12_count_129 (by decide) ?_
              exact gG_exit ⟨rfl, rfl, rfl, dX12_count_153, _, rfl, h⟩
        · have h := h.2 c
          refine gG_iload_n dX12_count_77 rfl rfl ?_
          refine gG_iconst (v := 5) dX12_count_78 (by decide) ?_
          refine gG_ic_ne (tgt := 91) dX12_count_79 (by decide) (fun c => ?_) (fun c => ?_)
          · have h := h.1 c
            refine gG_iload_n dX12_count_91 rfl rfl ?_
            refine gG_bipush (v := 6) dX12_count_92 (by decide) ?_
            refine gG_ic_ne (tgt := 106) dX12_count_94 (by decide) (fun c => ?_) (fun c => ?_)
            · have h := h.1 c
              refine gG_aload_n dX12_count_106 rfl rfl ?_
              obtain ⟨hrc, d2, P2, hdd, hC, h⟩ := h
              refine gG_cvi (As := []) (st := []) dX12_count_107 mV_X12_414 hdd hrc rfl rfl (Nat.le_of_ble_eq_true rfl) (Nat.le_refl _) ⟨Nat.le_refl _, Nat.le_refl _⟩ hC (fun H12 x13 hp => ?_)
              have h := h H12 x13 hp
              exact gG_exit ⟨rfl, rfl, rfl, dX12_count_110, _, rfl, h⟩
            · have h := h.2 c
              refine gG_aload_n dX12_count_97 rfl rfl ?_
              obtain ⟨fs, q14, e1, e2, h⟩ := h
              refine gG_gr dX12_count_98 fl_X12_117 ⟨fs, q14, e1, e2, ?_⟩
              refine gG_iconst (v := 4) dX12_count_101 (by decide) ?_
              obtain ⟨m0, f0, e1, e2, h⟩ := h
              refine gG_iald dX12_count_102 ⟨m0, f0, e1, e2, ?_⟩
              obtain ⟨x15, eH⟩ : ∃ z, z = f0 (Int32.toNatClampNeg ((4 : Int32))) := ⟨_, rfl⟩
              rw [← eH] at h ⊢
              refine gG_goto (tgt := 110) dX12_count_103 (by decide) ?_
              exact gG_exit ⟨rfl, rfl, rfl, dX12_count_110, _, rfl, h⟩
          · have h := h.2 c
            refine gG_aload_n dX12_count_82 rfl rfl ?_
            obtain ⟨fs, q16, e1, e2, h⟩ := h
            refine gG_gr dX12_count_83 fl_X12_117 ⟨fs, q16, e1, e2, ?_⟩
            refine gG_iconst (v := 1) dX12_count_86 (by decide) ?_
            obtain ⟨m0, f0, e1, e2, h⟩ := h
            refine gG_iald dX12_count_87 ⟨m0, f0, e1, e2, ?_⟩
            obtain ⟨x17, eH⟩ : ∃ z, z = f0 (Int32.toNatClampNeg ((1 : Int32))) := ⟨_, rfl⟩
            rw [← eH] at h ⊢
            refine gG_goto (tgt := 110) dX12_count_88 (by decide) ?_
            exact gG_exit ⟨rfl, rfl, rfl, dX12_count_110, _, rfl, h⟩
      · have h := h.2 c
        refine gG_iload_n dX12_count_34 rfl rfl ?_
        refine gG_iconst (v := 2) dX12_count_35 (by decide) ?_
        refine gG_ic_ne (tgt := 48) dX12_count_36 (by decide) (fun c => ?_) (fun c => ?_)
        · have h := h.1 c
          refine gG_iload_n dX12_count_48 rfl rfl ?_
          refine gG_iconst (v := 3) dX12_count_49 (by decide) ?_
          refine gG_ic_ne (tgt := 66) dX12_count_50 (by decide) (fun c => ?_) (fun c => ?_)
          · have h := h.1 c
            refine gG_aload_n dX12_count_66 rfl rfl ?_
            obtain ⟨hrc, d2, P2, hdd, hC, h⟩ := h
            refine gG_cvi (As := []) (st := []) dX12_count_67 mV_X12_417 hdd hrc rfl rfl (Nat.le_of_ble_eq_true rfl) (Nat.le_refl _) ⟨Nat.le_refl _, Nat.le_refl _⟩ hC (fun H18 x19 hp => ?_)
            have h := h H18 x19 hp
            exact gG_exit ⟨rfl, rfl, rfl, dX12_count_70, _, rfl, h⟩
          · have h := h.2 c
            refine gG_aload_n dX12_count_53 rfl rfl ?_
            refine gG_aload_n dX12_count_54 rfl rfl ?_
            obtain ⟨fs, q20, e1, e2, h⟩ := h
            refine gG_gr dX12_count_55 fl_X12_117 ⟨fs, q20, e1, e2, ?_⟩
            refine gG_iconst (v := 0) dX12_count_58 (by decide) ?_
            obtain ⟨m0, f0, e1, e2, h⟩ := h
            refine gG_iald dX12_count_59 ⟨m0, f0, e1, e2, ?_⟩
            obtain ⟨x21, eH⟩ : ∃ z, z = f0 (Int32.toNatClampNeg ((0 : Int32))) := ⟨_, rfl⟩
            rw [← eH] at h ⊢
            obtain ⟨hrc, d2, P2, hdd, hC, h⟩ := h
            refine gG_cvi (As := [.int (x21)]) (st := []) dX12_count_60 mV_X12_389 hdd hrc rfl rfl (Nat.le_of_ble_eq_true rfl) (Nat.le_refl _) ⟨Nat.le_refl _, Nat.le_refl _⟩ hC (fun H22 x23 hp => ?_)
            have h := h H22 x23 hp
            refine gG_goto (tgt := 70) dX12_count_63 (by decide) ?_
            exact gG_exit ⟨rfl, rfl, rfl, dX12_count_70, _, rfl, h⟩
        · have h := h.2 c
          refine gG_aload_n dX12_count_39 rfl rfl ?_
          obtain ⟨fs, q24, e1, e2, h⟩ := h
          refine gG_gr dX12_count_40 fl_X12_117 ⟨fs, q24, e1, e2, ?_⟩
          refine gG_iconst (v := 0) dX12_count_43 (by decide) ?_
          obtain ⟨m0, f0, e1, e2, h⟩ := h
          refine gG_iald dX12_count_44 ⟨m0, f0, e1, e2, ?_⟩
          obtain ⟨x25, eH⟩ : ∃ z, z = f0 (Int32.toNatClampNeg ((0 : Int32))) := ⟨_, rfl⟩
          rw [← eH] at h ⊢
          refine gG_goto (tgt := 70) dX12_count_45 (by decide) ?_
          exact gG_exit ⟨rfl, rfl, rfl, dX12_count_70, _, rfl, h⟩
    · have h := h.2 c
      refine gG_aload_n dX12_count_22 rfl rfl ?_
      obtain ⟨fs, q26, e1, e2, h⟩ := h
      refine gG_gr dX12_count_23 fl_X12_13 ⟨fs, q26, e1, e2, ?_⟩
      refine gG_iload_n dX12_count_26 rfl rfl ?_
      obtain ⟨m0, f0, e1, e2, h⟩ := h
      refine gG_iald dX12_count_27 ⟨m0, f0, e1, e2, ?_⟩
      obtain ⟨x27, eH⟩ : ∃ z, z = f0 (Int32.toNatClampNeg (i1)) := ⟨_, rfl⟩
      rw [← eH] at h ⊢
      exact gG_exit ⟨rfl, rfl, rfl, dX12_count_28, _, rfl, h⟩
  · have h := h.2 (g_b_f c)
    refine gG_iconst (v := (-1)) dX12_count_15 (by decide) ?_
    exact gG_exit ⟨rfl, rfl, rfl, dX12_count_16, _, rfl, h⟩
