theorem kX2_readFront_0 {d n : Nat} {H : gHp} {P : gHp → Int32 → Prop} {a0 : Nat} {a1 : Nat} (h : (∃ fs, H (a1) = .inr (1, fs)) ∧ g_cvd d mX1_forget n H [.ref (a1)] (fun H1 => g_gr H1 (a0) 2 0 (fun q2 => (∃ fs, H1 (q2) = .inr (8, fs)) ∧ g_cvd d mX8_open n H1 [.ref (q2)] (fun H3 => gG d mX2_readFront 0 0 (g_Xj mX2_readFront n 0 0 P) 15 n H3 [some (.ref (a0)), some (.ref (a1)), some (.int ((1 : Int32))), some (.int ((0 : Int32)))] [] (0) (0))))) : gG d mX2_readFront 0 0 (g_Xj mX2_readFront n 0 0 P) 0 n H [some (.ref (a0)), some (.ref (a1)), none, none] [] 0 0 := by
  refine gG_aload_n dX2_readFront_0 rfl rfl ?_
  obtain ⟨hrc, d2, P2, hdd, hC, h⟩ := h
  refine gG_cvv (As := []) (st := []) dX2_readFront_1 mV_X2_24 hdd hrc rfl rfl (Nat.le_of_ble_eq_true rfl) (Nat.le_refl _) ⟨Nat.le_refl _, Nat.le_refl _⟩ hC (fun H1 hp => ?_)
  have h := h H1 hp
  refine gG_aload_n dX2_readFront_4 rfl rfl ?_
  obtain ⟨fs, q2, e1, e2, h⟩ := h
  refine gG_gr dX2_readFront_5 fl_X2_9 ⟨fs, q2, e1, e2, ?_⟩
  obtain ⟨hrc, d2, P2, hdd, hC, h⟩ := h
  refine gG_cvv (As := []) (st := []) dX2_readFront_8 mV_X2_29 hdd hrc rfl rfl (Nat.le_of_ble_eq_true rfl) (Nat.le_refl _) ⟨Nat.le_refl _, Nat.le_refl _⟩ hC (fun H3 hp => ?_)
  have h := h H3 hp
  refine gG_iconst (v := 1) dX2_readFront_11 (by decide) ?_
  refine gG_istore_n dX2_readFront_12 rfl (Nat.le_of_ble_eq_true rfl) ?_
  refine gG_iconst (v := 0) dX2_readFront_13 (by decide) ?_
  refine gG_istore_n dX2_readFront_14 rfl (Nat.le_of_ble_eq_true rfl) ?_
  refine gG_locals ?_ h
  exact ⟨rfl, ⟨rfl, ⟨rfl, ⟨rfl, trivial⟩⟩⟩⟩
theorem kX2_readFront_15 {d n : Nat} {H : gHp} {P : gHp → Int32 → Prop} {a0 : Nat} {a1 : Nat} {i2 : Int32} {i3 : Int32} (h : ((1000 : Int32) ≤ i3 → g_gr H (a0) 2 0 (fun q1 => (∃ fs, H (q1) = .inr (8, fs)) ∧ g_ci d mX8_close n H [.ref (q1)] (fun H2 x3 => P H2 (x3)))) ∧ (¬ ((1000 : Int32) ≤ i3) → (i2 = 0 → g_gr H (a0) 2 0 (fun q4 => (∃ fs, H (q4) = .inr (8, fs)) ∧ g_ci d mX8_close n H [.ref (q4)] (fun H5 x6 => P H5 (x6)))) ∧ (¬ (i2 = 0) → g_gr H (a0) 2 0 (fun q7 => (∃ fs, H (q7) = .inr (8, fs)) ∧ g_cz d mX8_isEnd n H [.ref (q7)] (fun H8 b9 => (b9 = true → g_gr H8 (a0) 2 0 (fun q10 => (∃ fs, H8 (q10) = .inr (8, fs)) ∧ g_ci d mX8_close n H8 [.ref (q10)] (fun H11 x12 => P H11 (x12)))) ∧ (b9 = false → (∃ fs, H8 (a0) = .inr (2, fs)) ∧ g_cz d mX2_readLine n H8 [.ref (a0), .ref (a1)] (fun H13 b14 => (b14 = false → gG d mX2_readFront 0 0 (g_Xj mX2_readFront n 0 0 P) 15 n H13 [some (.ref (a0)), some (.ref (a1)), some (.int ((0 : Int32))), some (.int ((i3 + 1)))] [] (0) (0)) ∧ (b14 = true → g_gr H13 (a0) 2 0 (fun q15 => (∃ fs, H13 (q15) = .inr (8, fs)) ∧ g_cz d mX8_takeSign n H13 [.ref (q15), .int ((59 : Int32))] (fun H16 b17 => (b17 = false → gG d mX2_readFront 0 0 (g_Xj mX2_readFront n 0 0 P) 15 n H16 [some (.ref (a0)), some (.ref (a1)), some (.int ((0 : Int32))), some (.int ((i3 + 1)))] [] (0) (0)) ∧ (b17 = true → gG d mX2_readFront 0 0 (g_Xj mX2_readFront n 0 0 P) 15 n H16 [some (.ref (a0)), some (.ref (a1)), some (.int ((1 : Int32))), some (.int ((i3 + 1)))] [] (0) (0)))))))))))) : gG d mX2_readFront 0 0 (g_Xj mX2_readFront n 0 0 P) 15 n H [some (.ref (a0)), some (.ref (a1)), some (.int (i2)), some (.int (i3))] [] 0 0 := by
  refine gG_iload_n dX2_readFront_15 rfl rfl ?_
  refine gG_sipush (v := 1000) dX2_readFront_16 (by decide) ?_
  refine gG_ic_ge (tgt := 68) dX2_readFront_19 (by decide) (fun c => ?_) (fun c => ?_)
  · have h := h.1 c
    refine gG_aload_n dX2_readFront_68 rfl rfl ?_
    obtain ⟨fs, q1, e1, e2, h⟩ := h
    refine gG_gr dX2_readFront_69 fl_X2_9 ⟨fs, q1, e1, e2, ?_⟩
    obtain ⟨hrc, d2, P2, hdd, hC, h⟩ := h
    refine gG_cvi (As := []) (st := []) dX2_readFront_72 mV_X2_46 hdd hrc rfl rfl (Nat.le_of_ble_eq_true rfl) (Nat.le_refl _) ⟨Nat.le_refl _, Nat.le_refl _⟩ hC (fun H2 x3 hp => ?_)
    have h := h H2 x3 hp
    exact gG_exit ⟨rfl, rfl, rfl, dX2_readFront_75, _, rfl, h⟩
  · have h := h.2 c
    refine gG_iload_n dX2_readFront_22 rfl rfl ?_
    refine gG_if_eq (tgt := 68) dX2_readFront_23 (by decide) (fun c => ?_) (fun c => ?_)
    · have h := h.1 c
      refine gG_aload_n dX2_readFront_68 rfl rfl ?_
      obtain ⟨fs, q4, e1, e2, h⟩ := h
      refine gG_gr dX2_readFront_69 fl_X2_9 ⟨fs, q4, e1, e2, ?_⟩
      obtain ⟨hrc, d2, P2, hdd, hC, h⟩ := h
      refine gG_cvi (As := []) (st := []) dX2_readFront_72 mV_X2_46 hdd hrc rfl rfl (Nat.le_of_ble_eq_true rfl) (Nat.le_refl _) ⟨Nat.le_refl _, Nat.le_refl _⟩ hC (fun H5 x6 hp => ?_)
      have h := h H5 x6 hp
      exact gG_exit ⟨rfl, rfl, rfl, dX2_readFront_75, _, rfl, h⟩
    · have h := h.2 c
      refine gG_aload_n dX2_readFront_26 rfl rfl ?_
      obtain ⟨fs, q7, e1, e2, h⟩ := h
      refine gG_gr dX2_readFront_27 fl_X2_9 ⟨fs, q7, e1, e2, ?_⟩
      obtain ⟨hrc, d2, P2, hdd, hC, h⟩ := h
      refine gG_cvi (As := []) (st := []) dX2_readFront_30 mV_X2_34 hdd hrc rfl rfl (Nat.le_of_ble_eq_true rfl) (Nat.le_refl _) ⟨Nat.le_refl _, Nat.le_refl _⟩ hC (fun H8 x9 hp => ?_)
      obtain ⟨b9, rfl, hp⟩ := hp
      have h := h H8 b9 hp
      refine gG_if_ne (tgt := 68) dX2_readFront_33 (by decide) (fun c => ?_) (fun c => ?_)
      · have h := h.1 (g_b_t c)
        refine gG_aload_n dX2_readFront_68 rfl rfl ?_
        obtain ⟨fs, q10, e1, e2, h⟩ := h
        refine gG_gr dX2_readFront_69 fl_X2_9 ⟨fs, q10, e1, e2, ?_⟩
        obtain ⟨hrc, d2, P2, hdd, hC, h⟩ := h
        refine gG_cvi (As := []) (st := []) dX2_readFront_72 mV_X2_46 hdd hrc rfl rfl (Nat.le_of_ble_eq_true rfl) (Nat.le_refl _) ⟨Nat.le_refl _, Nat.le_refl _⟩ hC (fun H11 x12 hp => ?_)
        have h := h H11 x12 hp
        exact gG_exit ⟨rfl, rfl, rfl, dX2_readFront_75, _, rfl, h⟩
      · have h := h.2 (g_b_f c)
        refine gG_aload_n dX2_readFront_36 rfl rfl ?_
        refine gG_aload_n dX2_readFront_37 rfl rfl ?_
        obtain ⟨hrc, d2, P2, hdd, hC, h⟩ := h
        refine gG_cvi (As := [.ref (a1)]) (st := []) dX2_readFront_38 mV_X2_38 hdd hrc rfl rfl (Nat.le_of_ble_eq_true rfl) (Nat.le_refl _) ⟨Nat.le_refl _, Nat.le_refl _⟩ hC (fun H13 x9 hp => ?_)
        obtain ⟨b14, rfl, hp⟩ := hp
        have h := h H13 b14 hp
        refine gG_if_eq (tgt := 60) dX2_readFront_41 (by decide) (fun c => ?_) (fun c => ?_)
        · have h := h.1 (g_b_f c)
          refine gG_iconst (v := 0) dX2_readFront_60 (by decide) ?_
          refine gG_istore_n dX2_readFront_61 rfl (Nat.le_of_ble_eq_true rfl) ?_
          refine gG_iinc (v := i3 + 1) dX2_readFront_62 rfl rfl (Nat.le_of_ble_eq_true rfl) ?_
          refine gG_goto (tgt := 15) dX2_readFront_65 (by decide) ?_
          refine gG_locals ?_ h
          exact ⟨rfl, ⟨rfl, ⟨rfl, ⟨rfl, trivial⟩⟩⟩⟩
        · have h := h.2 (g_b_t c)
          refine gG_aload_n dX2_readFront_44 rfl rfl ?_
          obtain ⟨fs, q15, e1, e2, h⟩ := h
          refine gG_gr dX2_readFront_45 fl_X2_9 ⟨fs, q15, e1, e2, ?_⟩
          refine gG_bipush (v := 59) dX2_readFront_48 (by decide) ?_
          obtain ⟨hrc, d2, P2, hdd, hC, h⟩ := h
          refine gG_cvi (As := [.int ((59 : Int32))]) (st := []) dX2_readFront_50 mV_X2_42 hdd hrc rfl rfl (Nat.le_of_ble_eq_true rfl) (Nat.le_refl _) ⟨Nat.le_refl _, Nat.le_refl _⟩ hC (fun H16 x9 hp => ?_)
          obtain ⟨b17, rfl, hp⟩ := hp
          have h := h H16 b17 hp
          refine gG_if_eq (tgt := 60) dX2_readFront_53 (by decide) (fun c => ?_) (fun c => ?_)
          · have h := h.1 (g_b_f c)
            refine gG_iconst (v := 0) dX2_readFront_60 (by decide) ?_
            refine gG_istore_n dX2_readFront_61 rfl (Nat.le_of_ble_eq_true rfl) ?_
            refine gG_iinc (v := i3 + 1) dX2_readFront_62 rfl rfl (Nat.le_of_ble_eq_true rfl) ?_
            refine gG_goto (tgt := 15) dX2_readFront_65 (by decide) ?_
            refine gG_locals ?_ h
            exact ⟨rfl, ⟨rfl, ⟨rfl, ⟨rfl, trivial⟩⟩⟩⟩
          · have h := h.2 (g_b_t c)
            refine gG_iconst (v := 1) dX2_readFront_56 (by decide) ?_
            refine gG_goto (tgt := 61) dX2_readFront_57 (by decide) ?_
            refine gG_istore_n dX2_readFront_61 rfl (Nat.le_of_ble_eq_true rfl) ?_
            refine gG_iinc (v := i3 + 1) dX2_readFront_62 rfl rfl (Nat.le_of_ble_eq_true rfl) ?_
            refine gG_goto (tgt := 15) dX2_readFront_65 (by decide) ?_
            refine gG_locals ?_ h
            exact ⟨rfl, ⟨rfl, ⟨rfl, ⟨rfl, trivial⟩⟩⟩⟩

theorem kX2_readLine_0 {d n : Nat} {H : gHp} {P : gHp → Bool → Prop} {a0 : Nat} {a1 : Nat} (h : g_gr H (a0) 2 0 (fun q1 => (∃ fs, H (q1) = .inr (8, fs)) ∧ g_cz d mX8_isWord n H [.ref (q1), .float (1)] (fun H2 b3 => (b3 = false → g_gr H2 (a0) 2 0 (fun q4 => (∃ fs, H2 (q4) = .inr (8, fs)) ∧ g_cz d mX8_isWord n H2 [.ref (q4), .float (29)] (fun H5 b6 => (b6 = false → g_gr H5 (a0) 2 0 (fun q7 => (∃ fs, H5 (q7) = .inr (8, fs)) ∧ g_cz d mX8_isWord n H5 [.ref (q7), .float (30)] (fun H8 b9 => (b9 = false → g_gr H8 (a0) 2 0 (fun q10 => (∃ fs, H8 (q10) = .inr (8, fs)) ∧ g_cz d mX8_isWord n H8 [.ref (q10), .float (32)] (fun H11 b12 => (b12 = false → g_gr H11 (a0) 2 0 (fun q13 => (∃ fs, H11 (q13) = .inr (8, fs)) ∧ g_cz d mX8_isWord n H11 [.ref (q13), .float (33)] (fun H14 b15 => (b15 = true → g_gr H14 (a1) 1 13 (fun q16 => g_gi H14 (q16) 3 1 (fun x17 => (x17 ≤ 0 → g_gr H14 (a0) 2 0 (fun q18 => (∃ fs, H14 (q18) = .inr (8, fs)) ∧ g_cvd d mX8_advance n H14 [.ref (q18)] (fun H19 => g_gr H19 (a0) 2 1 (fun q20 => g_gr H19 (a1) 1 13 (fun q21 => (∃ fs, H19 (q20) = .inr (4, fs)) ∧ g_cz d mX4_readLevel n H19 [.ref (q20), .ref (q21), .int ((0 : Int32)), .int ((0 : Int32))] (fun H22 b23 => P H22 b23)))))) ∧ (¬ (x17 ≤ 0) → g_gr H14 (a0) 2 0 (fun q24 => (∃ fs, H14 (q24) = .inr (8, fs)) ∧ g_cz d mX8_fail n H14 [.ref (q24), .int ((3 : Int32))] (fun H25 b26 => P H25 b26)))))) ∧ (b15 = false → g_gr H14 (a0) 2 0 (fun q27 => (∃ fs, H14 (q27) = .inr (8, fs)) ∧ g_cz d mX8_fail n H14 [.ref (q27), .int ((1 : Int32))] (fun H28 b29 => P H28 b29)))))) ∧ (b12 = true → (∃ fs, H11 (a0) = .inr (2, fs)) ∧ g_cz d mX2_readRain n H11 [.ref (a0), .ref (a1)] (fun H30 b31 => P H30 b31))))) ∧ (b9 = true → (∃ fs, H8 (a0) = .inr (2, fs)) ∧ g_cz d mX2_readLetterNamed n H8 [.ref (a0), .ref (a1)] (fun H32 b33 => (b33 = false → P H32 false) ∧ (b33 = true → (∃ fs, H32 (a0) = .inr (2, fs)) ∧ g_cz d mX2_readLetterMouths n H32 [.ref (a0), .ref (a1)] (fun H34 b35 => (b35 = false → P H34 false) ∧ (b35 = true → P H34 true)))))))) ∧ (b6 = true → (∃ fs, H5 (a0) = .inr (2, fs)) ∧ g_cz d mX2_readGutter n H5 [.ref (a0), .ref (a1)] (fun H36 b37 => P H36 b37))))) ∧ (b3 = true → (∃ fs, H2 (a0) = .inr (2, fs)) ∧ g_cz d mX2_readMouth n H2 [.ref (a0), .ref (a1)] (fun H38 b39 => P H38 b39))))) : gG d mX2_readLine 0 0 (g_Xz mX2_readLine n 0 0 P) 0 n H [some (.ref (a0)), some (.ref (a1))] [] 0 0 := by
  refine gG_aload_n dX2_readLine_0 rfl rfl ?_
  obtain ⟨fs, q1, e1, e2, h⟩ := h
  refine gG_gr dX2_readLine_1 fl_X2_9 ⟨fs, q1, e1, e2, ?_⟩
  refine gG_ldcS (t := 1) dX2_readLine_4 rfl ?_
  obtain ⟨hrc, d2, P2, hdd, hC, h⟩ := h
  refine gG_cvi (As := [.float (1)]) (st := []) dX2_readLine_6 mV_X2_52 hdd hrc rfl rfl (Nat.le_of_ble_eq_true rfl) (Nat.le_refl _) ⟨Nat.le_refl _, Nat.le_refl _⟩ hC (fun H2 x9 hp => ?_)
  obtain ⟨b3, rfl, hp⟩ := hp
  have h := h H2 b3 hp
  refine gG_if_eq (tgt := 18) dX2_readLine_9 (by decide) (fun c => ?_) (fun c => ?_)
  · have h := h.1 (g_b_f c)
    refine gG_aload_n dX2_readLine_18 rfl rfl ?_
    obtain ⟨fs, q4, e1, e2, h⟩ := h
    refine gG_gr dX2_readLine_19 fl_X2_9 ⟨fs, q4, e1, e2, ?_⟩
    refine gG_ldcS (t := 29) dX2_readLine_22 rfl ?_
    obtain ⟨hrc, d2, P2, hdd, hC, h⟩ := h
    refine gG_cvi (As := [.float (29)]) (st := []) dX2_readLine_24 mV_X2_52 hdd hrc rfl rfl (Nat.le_of_ble_eq_true rfl) (Nat.le_refl _) ⟨Nat.le_refl _, Nat.le_refl _⟩ hC (fun H5 x9 hp => ?_)
    obtain ⟨b6, rfl, hp⟩ := hp
    have h := h H5 b6 hp
    refine gG_if_eq (tgt := 36) dX2_readLine_27 (by decide) (fun c => ?_) (fun c => ?_)
    · have h := h.1 (g_b_f c)
      refine gG_aload_n dX2_readLine_36 rfl rfl ?_
      obtain ⟨fs, q7, e1, e2, h⟩ := h
      refine gG_gr dX2_readLine_37 fl_X2_9 ⟨fs, q7, e1, e2, ?_⟩
      refine gG_ldcS (t := 30) dX2_readLine_40 rfl ?_
      obtain ⟨hrc, d2, P2, hdd, hC, h⟩ := h
      refine gG_cvi (As := [.float (30)]) (st := []) dX2_readLine_42 mV_X2_52 hdd hrc rfl rfl (Nat.le_of_ble_eq_true rfl) (Nat.le_refl _) ⟨Nat.le_refl _, Nat.le_refl _⟩ hC (fun H8 x9 hp => ?_)
      obtain ⟨b9, rfl, hp⟩ := hp
      have h := h H8 b9 hp
      refine gG_if_eq (tgt := 70) dX2_readLine_45 (by decide) (fun c => ?_) (fun c => ?_)
      · have h := h.1 (g_b_f c)
        refine gG_aload_n dX2_readLine_70 rfl rfl ?_
        obtain ⟨fs, q10, e1, e2, h⟩ := h
        refine gG_gr dX2_readLine_71 fl_X2_9 ⟨fs, q10, e1, e2, ?_⟩
        refine gG_ldcS (t := 32) dX2_readLine_74 rfl ?_
        obtain ⟨hrc, d2, P2, hdd, hC, h⟩ := h
        refine gG_cvi (As := [.float (32)]) (st := []) dX2_readLine_76 mV_X2_52 hdd hrc rfl rfl (Nat.le_of_ble_eq_true rfl) (Nat.le_refl _) ⟨Nat.le_refl _, Nat.le_refl _⟩ hC (fun H11 x9 hp => ?_)
        obtain ⟨b12, rfl, hp⟩ := hp
        have h := h H11 b12 hp
        refine gG_if_eq (tgt := 88) dX2_readLine_79 (by decide) (fun c => ?_) (fun c => ?_)
        · have h := h.1 (g_b_f c)
          refine gG_aload_n dX2_readLine_88 rfl rfl ?_
          obtain ⟨fs, q13, e1, e2, h⟩ := h
          refine gG_gr dX2_readLine_89 fl_X2_9 ⟨fs, q13, e1, e2, ?_⟩
          refine gG_ldcS (t := 33) dX2_readLine_92 rfl ?_
          obtain ⟨hrc, d2, P2, hdd, hC, h⟩ := h
          refine gG_cvi (As := [.float (33)]) (st := []) dX2_readLine_94 mV_X2_52 hdd hrc rfl rfl (Nat.le_of_ble_eq_true rfl) (Nat.le_refl _) ⟨Nat.le_refl _, Nat.le_refl _⟩ hC (fun H14 x9 hp => ?_)
          obtain ⟨b15, rfl, hp⟩ := hp
          have h := h H14 b15 hp
          refine gG_if_ne (tgt := 109) dX2_readLine_97 (by decide) (fun c => ?_) (fun c => ?_)
          · have h := h.1 (g_b_t c)
            refine gG_aload_n dX2_readLine_109 rfl rfl ?_
            obtain ⟨fs, q16, e1, e2, h⟩ := h
            refine gG_gr dX2_readLine_110 fl_X2_83 ⟨fs, q16, e1, e2, ?_⟩
            obtain ⟨fs, x17, e1, e2, h⟩ := h
            refine gG_gi dX2_readLine_113 fl_X2_87 ⟨fs, x17, e1, e2, ?_⟩
            refine gG_if_le (tgt := 128) dX2_readLine_116 (by decide) (fun c => ?_) (fun c => ?_)
            · have h := h.1 c
              refine gG_aload_n dX2_readLine_128 rfl rfl ?_
              obtain ⟨fs, q18, e1, e2, h⟩ := h
              refine gG_gr dX2_readLine_129 fl_X2_9 ⟨fs, q18, e1, e2, ?_⟩
              obtain ⟨hrc, d2, P2, hdd, hC, h⟩ := h
              refine gG_cvv (As := []) (st := []) dX2_readLine_132 mV_X2_93 hdd hrc rfl rfl (Nat.le_of_ble_eq_true rfl) (Nat.le_refl _) ⟨Nat.le_refl _, Nat.le_refl _⟩ hC (fun H19 hp => ?_)
              have h := h H19 hp
              refine gG_aload_n dX2_readLine_135 rfl rfl ?_
              obtain ⟨fs, q20, e1, e2, h⟩ := h
              refine gG_gr dX2_readLine_136 fl_X2_20 ⟨fs, q20, e1, e2, ?_⟩
              refine gG_aload_n dX2_readLine_139 rfl rfl ?_
              obtain ⟨fs, q21, e1, e2, h⟩ := h
              refine gG_gr dX2_readLine_140 fl_X2_83 ⟨fs, q21, e1, e2, ?_⟩
              refine gG_iconst (v := 0) dX2_readLine_143 (by decide) ?_
              refine gG_iconst (v := 0) dX2_readLine_144 (by decide) ?_
              obtain ⟨hrc, d2, P2, hdd, hC, h⟩ := h
              refine gG_cvi (As := [.ref (q21), .int ((0 : Int32)), .int ((0 : Int32))]) (st := []) dX2_readLine_145 mV_X2_96 hdd hrc rfl rfl (Nat.le_of_ble_eq_true rfl) (Nat.le_refl _) ⟨Nat.le_refl _, Nat.le_refl _⟩ hC (fun H22 x9 hp => ?_)
              obtain ⟨b23, rfl, hp⟩ := hp
              have h := h H22 b23 hp
              exact gG_exit ⟨rfl, rfl, rfl, dX2_readLine_148, b23, rfl, h⟩
            · have h := h.2 c
              refine gG_aload_n dX2_readLine_119 rfl rfl ?_
              obtain ⟨fs, q24, e1, e2, h⟩ := h
              refine gG_gr dX2_readLine_120 fl_X2_9 ⟨fs, q24, e1, e2, ?_⟩
              refine gG_iconst (v := 3) dX2_readLine_123 (by decide) ?_
              obtain ⟨hrc, d2, P2, hdd, hC, h⟩ := h
              refine gG_cvi (As := [.int ((3 : Int32))]) (st := []) dX2_readLine_124 mV_X2_79 hdd hrc rfl rfl (Nat.le_of_ble_eq_true rfl) (Nat.le_refl _) ⟨Nat.le_refl _, Nat.le_refl _⟩ hC (fun H25 x9 hp => ?_)
              obtain ⟨b26, rfl, hp⟩ := hp
              have h := h H25 b26 hp
              exact gG_exit ⟨rfl, rfl, rfl, dX2_readLine_127, b26, rfl, h⟩
          · have h := h.2 (g_b_f c)
            refine gG_aload_n dX2_readLine_100 rfl rfl ?_
            obtain ⟨fs, q27, e1, e2, h⟩ := h
            refine gG_gr dX2_readLine_101 fl_X2_9 ⟨fs, q27, e1, e2, ?_⟩
            refine gG_iconst (v := 1) dX2_readLine_104 (by decide) ?_
            obtain ⟨hrc, d2, P2, hdd, hC, h⟩ := h
            refine gG_cvi (As := [.int ((1 : Int32))]) (st := []) dX2_readLine_105 mV_X2_79 hdd hrc rfl rfl (Nat.le_of_ble_eq_true rfl) (Nat.le_refl _) ⟨Nat.le_refl _, Nat.le_refl _⟩ hC (fun H28 x9 hp => ?_)
            obtain ⟨b29, rfl, hp⟩ := hp
            have h := h H28 b29 hp
            exact gG_exit ⟨rfl, rfl, rfl, dX2_readLine_108, b29, rfl, h⟩
        · have h := h.2 (g_b_t c)
          refine gG_aload_n dX2_readLine_82 rfl rfl ?_
          refine gG_aload_n dX2_readLine_83 rfl rfl ?_
          obtain ⟨hrc, d2, P2, hdd, hC, h⟩ := h
          refine gG_cvi (As := [.ref (a1)]) (st := []) dX2_readLine_84 mV_X2_74 hdd hrc rfl rfl (Nat.le_of_ble_eq_true rfl) (Nat.le_refl _) ⟨Nat.le_refl _, Nat.le_refl _⟩ hC (fun H30 x9 hp => ?_)
          obtain ⟨b31, rfl, hp⟩ := hp
          have h := h H30 b31 hp
          exact gG_exit ⟨rfl, rfl, rfl, dX2_readLine_87, b31, rfl, h⟩
      · have h := h.2 (g_b_t c)
        refine gG_aload_n dX2_readLine_48 rfl rfl ?_
        refine gG_aload_n dX2_readLine_49 rfl rfl ?_
        obtain ⟨hrc, d2, P2, hdd, hC, h⟩ := h
        refine gG_cvi (As := [.ref (a1)]) (st := []) dX2_readLine_50 mV_X2_66 hdd hrc rfl rfl (Nat.le_of_ble_eq_true rfl) (Nat.le_refl _) ⟨Nat.le_refl _, Nat.le_refl _⟩ hC (fun H32 x9 hp => ?_)
        obtain ⟨b33, rfl, hp⟩ := hp
        have h := h H32 b33 hp
        refine gG_if_eq (tgt := 68) dX2_readLine_53 (by decide) (fun c => ?_) (fun c => ?_)
        · have h := h.1 (g_b_f c)
          refine gG_iconst (v := 0) dX2_readLine_68 (by decide) ?_
          exact gG_exit ⟨rfl, rfl, rfl, dX2_readLine_69, false, rfl, h⟩
        · have h := h.2 (g_b_t c)
          refine gG_aload_n dX2_readLine_56 rfl rfl ?_
          refine gG_aload_n dX2_readLine_57 rfl rfl ?_
          obtain ⟨hrc, d2, P2, hdd, hC, h⟩ := h
          refine gG_cvi (As := [.ref (a1)]) (st := []) dX2_readLine_58 mV_X2_69 hdd hrc rfl rfl (Nat.le_of_ble_eq_true rfl) (Nat.le_refl _) ⟨Nat.le_refl _, Nat.le_refl _⟩ hC (fun H34 x9 hp => ?_)
          obtain ⟨b35, rfl, hp⟩ := hp
          have h := h H34 b35 hp
          refine gG_if_eq (tgt := 68) dX2_readLine_61 (by decide) (fun c => ?_) (fun c => ?_)
          · have h := h.1 (g_b_f c)
            refine gG_iconst (v := 0) dX2_readLine_68 (by decide) ?_
            exact gG_exit ⟨rfl, rfl, rfl, dX2_readLine_69, false, rfl, h⟩
          · have h := h.2 (g_b_t c)
            refine gG_iconst (v := 1) dX2_readLine_64 (by decide) ?_
            refine gG_goto (tgt := 69) dX2_readLine_65 (by decide) ?_
            exact gG_exit ⟨rfl, rfl, rfl, dX2_readLine_69, true, rfl, h⟩
    · have h := h.2 (g_b_t c)
      refine gG_aload_n dX2_readLine_30 rfl rfl ?_
      refine gG_aload_n dX2_readLine_31 rfl rfl ?_
      obtain ⟨hrc, d2, P2, hdd, hC, h⟩ := h
      refine gG_cvi (As := [.ref (a1)]) (st := []) dX2_readLine_32 mV_X2_61 hdd hrc rfl rfl (Nat.le_of_ble_eq_true rfl) (Nat.le_refl _) ⟨Nat.le_refl _, Nat.le_refl _⟩ hC (fun H36 x9 hp => ?_)
      obtain ⟨b37, rfl, hp⟩ := hp
      have h := h H36 b37 hp
      exact gG_exit ⟨rfl, rfl, rfl, dX2_readLine_35, b37, rfl, h⟩
  · have h := h.2 (g_b_t c)
    refine gG_aload_n dX2_readLine_12 rfl rfl ?_
    refine gG_aload_n dX2_readLine_13 rfl rfl ?_
    obtain ⟨hrc, d2, P2, hdd, hC, h⟩ := h
    refine gG_cvi (As := [.ref (a1)]) (st := []) dX2_readLine_14 mV_X2_56 hdd hrc rfl rfl (Nat.le_of_ble_eq_true rfl) (Nat.le_refl _) ⟨Nat.le_refl _, Nat.le_refl _⟩ hC (fun H38 x9 hp => ?_)
    obtain ⟨b39, rfl, hp⟩ := hp
    have h := h H38 b39 hp
    exact gG_exit ⟨rfl, rfl, rfl, dX2_readLine_17, b39, rfl, h⟩

theorem kX2_readMouth_0 {d n : Nat} {H : gHp} {P : gHp → Bool → Prop} {a0 : Nat} {a1 : Nat} (h : g_gi H (a1) 1 0 (fun x1 => (x1 < (7 : Int32) → g_gr H (a0) 2 0 (fun q2 => (∃ fs, H (q2) = .inr (8, fs)) ∧ g_cvd d mX8_advance n H [.ref (q2)] (fun H3 => (∃ fs, H3 (a0) = .inr (2, fs)) ∧ g_cz d mX2_isNewName n H3 [.ref (a0), .ref (a1)] (fun H4 b5 => (b5 = true → g_gr H4 (a1) 1 1 (fun q6 => g_gr H4 (a0) 2 0 (fun q7 => g_gl H4 (q7) 8 5 (fun y8 => g_lst H4 (q6) (x1) (y8) (fun H9 => g_gr H9 (a0) 2 0 (fun q10 => (∃ fs, H9 (q10) = .inr (8, fs)) ∧ g_cvd d mX8_advance n H9 [.ref (q10)] (fun H11 => g_gr H11 (a1) 1 2 (fun q12 => (∃ fs, H11 (a0) = .inr (2, fs)) ∧ g_ci d mX2_kindHere n H11 [.ref (a0)] (fun H13 x14 => g_as 0 H13 (q12) (x1) (x14) (fun H15 => g_gr H15 (a1) 1 2 (fun q16 => g_al 0 H15 (q16) (x1) (fun x17 => (¬ (x17 = (-1 : Int32)) → g_gr H15 (a0) 2 0 (fun q18 => (∃ fs, H15 (q18) = .inr (8, fs)) ∧ g_cvd d mX8_advance n H15 [.ref (q18)] (fun H19 => g_gr H19 (a1) 1 3 (fun q20 => (∃ fs, H19 (a0) = .inr (2, fs)) ∧ g_ci d mX2_readMeasure n H19 [.ref (a0), .float (26), .int ((1 : Int32)), .int ((20 : Int32))] (fun H21 x22 => g_as 0 H21 (q20) (x1) (x22) (fun H23 => g_gr H23 (a1) 1 4 (fun q24 => g_gr H23 (a1) 1 3 (fun q25 => g_al 0 H23 (q25) (x1) (fun x26 => (¬ (x26 = (-1 : Int32)) → (∃ fs, H23 (a0) = .inr (2, fs)) ∧ g_ci d mX2_readMeasure n H23 [.ref (a0), .float (27), .int ((0 : Int32)), .int ((9 : Int32))] (fun H27 x28 => g_as 0 H27 (q24) (x1) (x28) (fun H29 => gG d mX2_readMouth 0 0 (g_Xz mX2_readMouth n 0 0 P) 137 n H29 [some (.ref (a0)), some (.ref (a1)), some (.int (x1))] [] (0) (0)))) ∧ (x26 = (-1 : Int32) → g_as 0 H23 (q24) (x1) ((-1 : Int32)) (fun H30 => gG d mX2_readMouth 0 0 (g_Xz mX2_readMouth n 0 0 P) 137 n H30 [some (.ref (a0)), some (.ref (a1)), some (.int (x1))] [] (0) (0)))))))))))) ∧ (x17 = (-1 : Int32) → g_gr H15 (a0) 2 0 (fun q31 => (∃ fs, H15 (q31) = .inr (8, fs)) ∧ g_cz d mX8_fail n H15 [.ref (q31), .int ((1 : Int32))] (fun H32 b33 => P H32 b33))))))))))))))) ∧ (b5 = false → P H4 false))))) ∧ (¬ (x1 < (7 : Int32)) → g_gr H (a0) 2 0 (fun q34 => (∃ fs, H (q34) = .inr (8, fs)) ∧ g_cz d mX8_fail n H [.ref (q34), .int ((5 : Int32))] (fun H35 b36 => P H35 b36))))) : gG d mX2_readMouth 0 0 (g_Xz mX2_readMouth n 0 0 P) 0 n H [some (.ref (a0)), some (.ref (a1)), none] [] 0 0 := by
  refine gG_aload_n dX2_readMouth_0 rfl rfl ?_
  obtain ⟨fs, x1, e1, e2, h⟩ := h
  refine gG_gi dX2_readMouth_1 fl_X2_100 ⟨fs, x1, e1, e2, ?_⟩
  refine gG_istore_n dX2_readMouth_4 rfl (Nat.le_of_ble_eq_true rfl) ?_
  refine gG_iload_n dX2_readMouth_5 rfl rfl ?_
  refine gG_bipush (v := 7) dX2_readMouth_6 (by decide) ?_
  refine gG_ic_lt (tgt := 20) dX2_readMouth_8 (by decide) (fun c => ?_) (fun c => ?_)
  · have h := h.1 c
    refine gG_aload_n dX2_readMouth_20 rfl rfl ?_
    obtain ⟨fs, q2, e1, e2, h⟩ := h
    refine gG_gr dX2_readMouth_21 fl_X2_9 ⟨fs, q2, e1, e2, ?_⟩
    obtain ⟨hrc, d2, P2, hdd, hC, h⟩ := h
    refine gG_cvv (As := []) (st := []) dX2_readMouth_24 mV_X2_93 hdd hrc rfl rfl (Nat.le_of_ble_eq_true rfl) (Nat.le_refl _) ⟨Nat.le_refl _, Nat.le_refl _⟩ hC (fun H3 hp => ?_)
    have h := h H3 hp
    refine gG_aload_n dX2_readMouth_27 rfl rfl ?_
    refine gG_aload_n dX2_readMouth_28 rfl rfl ?_
    obtain ⟨hrc, d2, P2, hdd, hC, h⟩ := h
    refine gG_cvi (As := [.ref (a1)]) (st := []) dX2_readMouth_29 mV_X2_103 hdd hrc rfl rfl (Nat.le_of_ble_eq_true rfl) (Nat.le_refl _) ⟨Nat.le_refl _, Nat.le_refl _⟩ hC (fun H4 x9 hp => ?_)
    obtain ⟨b5, rfl, hp⟩ := hp
    have h := h H4 b5 hp
    refine gG_if_ne (tgt := 37) dX2_readMouth_32 (by decide) (fun c => ?_) (fun c => ?_)
    · have h := h.1 (g_b_t c)
      refine gG_aload_n dX2_readMouth_37 rfl rfl ?_
      obtain ⟨fs, q6, e1, e2, h⟩ := h
      refine gG_gr dX2_readMouth_38 fl_X2_106 ⟨fs, q6, e1, e2, ?_⟩
      refine gG_iload_n dX2_readMouth_41 rfl rfl ?_
      refine gG_aload_n dX2_readMouth_42 rfl rfl ?_
      obtain ⟨fs, q7, e1, e2, h⟩ := h
      refine gG_gr dX2_readMouth_43 fl_X2_9 ⟨fs, q7, e1, e2, ?_⟩
      obtain ⟨fs, y8, e1, e2, h⟩ := h
      refine gG_gl dX2_readMouth_46 fl_X2_110 ⟨fs, y8, e1, e2, ?_⟩
      obtain ⟨m0, f0, e1, e2, h⟩ := h
      refine gG_last dX2_readMouth_49 ⟨m0, f0, e1, e2, ?_⟩
      obtain ⟨H9, eH⟩ : ∃ z, z = va_up H4 (q6) (.inl (1, m0, .inr (.inl (vp_updL f0 (Int32.toNatClampNeg (x1)) (y8))))) := ⟨_, rfl⟩
      rw [← eH] at h ⊢
      refine gG_aload_n dX2_readMouth_50 rfl rfl ?_
      obtain ⟨fs, q10, e1, e2, h⟩ := h
      refine gG_gr dX2_readMouth_51 fl_X2_9 ⟨fs, q10, e1, e2, ?_⟩
      obtain ⟨hrc, d2, P2, hdd, hC, h⟩ := h
      refine gG_cvv (As := []) (st := []) dX2_readMouth_54 mV_X2_93 hdd hrc rfl rfl (Nat.le_of_ble_eq_true rfl) (Nat.le_refl _) ⟨Nat.le_refl _, Nat.le_refl _⟩ hC (fun H11 hp => ?_)
      have h := h H11 hp
      refine gG_aload_n dX2_readMouth_57 rfl rfl ?_
      obtain ⟨fs, q12, e1, e2, h⟩ := h
      refine gG_gr dX2_readMouth_58 fl_X2_114 ⟨fs, q12, e1, e2, ?_⟩
      refine gG_iload_n dX2_readMouth_61 rfl rfl ?_
      refine gG_aload_n dX2_readMouth_62 rfl rfl ?_
      obtain ⟨hrc, d2, P2, hdd, hC, h⟩ := h
      refine gG_cvi (As := []) (st := [.int (x1), .ref (q12)]) dX2_readMouth_63 mV_X2_118 hdd hrc rfl rfl (Nat.le_of_ble_eq_true rfl) (Nat.le_refl _) ⟨Nat.le_refl _, Nat.le_refl _⟩ hC (fun H13 x14 hp => ?_)
      have h := h H13 x14 hp
      obtain ⟨m0, f0, e1, e2, h⟩ := h
      refine gG_iast dX2_readMouth_66 ⟨m0, f0, e1, e2, ?_⟩
      obtain ⟨H15, eH⟩ : ∃ z, z = va_up H13 (q12) (.inl (0, m0, .inl (upd f0 (Int32.toNatClampNeg (x1)) (x14)))) := ⟨_, rfl⟩
      rw [← eH] at h ⊢
      refine gG_aload_n dX2_readMouth_67 rfl rfl ?_
      obtain ⟨fs, q16, e1, e2, h⟩ := h
      refine gG_gr dX2_readMouth_68 fl_X2_114 ⟨fs, q16, e1, e2, ?_⟩
      refine gG_iload_n dX2_readMouth_71 rfl rfl ?_
      obtain ⟨m0, f0, e1, e2, h⟩ := h
      refine gG_iald dX2_readMouth_72 ⟨m0, f0, e1, e2, ?_⟩
      obtain ⟨x17, eH⟩ : ∃ z, z = f0 (Int32.toNatClampNeg (x1)) := ⟨_, rfl⟩
      rw [← eH] at h ⊢
      refine gG_iconst (v := (-1)) dX2_readMouth_73 (by decide) ?_
      refine gG_ic_ne (tgt := 86) dX2_readMouth_74 (by decide) (fun c => ?_) (fun c => ?_)
      · have h := h.1 c
        refine gG_aload_n dX2_readMouth_86 rfl rfl ?_
        obtain ⟨fs, q18, e1, e2, h⟩ := h
        refine gG_gr dX2_readMouth_87 fl_X2_9 ⟨fs, q18, e1, e2, ?_⟩
        obtain ⟨hrc, d2, P2, hdd, hC, h⟩ := h
        refine gG_cvv (As := []) (st := []) dX2_readMouth_90 mV_X2_93 hdd hrc rfl rfl (Nat.le_of_ble_eq_true rfl) (Nat.le_refl _) ⟨Nat.le_refl _, Nat.le_refl _⟩ hC (fun H19 hp => ?_)
        have h := h H19 hp
        refine gG_aload_n dX2_readMouth_93 rfl rfl ?_
        obtain ⟨fs, q20, e1, e2, h⟩ := h
        refine gG_gr dX2_readMouth_94 fl_X2_121 ⟨fs, q20, e1, e2, ?_⟩
        refine gG_iload_n dX2_readMouth_97 rfl rfl ?_
        refine gG_aload_n dX2_readMouth_98 rfl rfl ?_
        refine gG_ldcS (t := 26) dX2_readMouth_99 rfl ?_
        refine gG_iconst (v := 1) dX2_readMouth_101 (by decide) ?_
        refine gG_bipush (v := 20) dX2_readMouth_102 (by decide) ?_
        obtain ⟨hrc, d2, P2, hdd, hC, h⟩ := h
        refine gG_cvi (As := [.float (26), .int ((1 : Int32)), .int ((20 : Int32))]) (st := [.int (x1), .ref (q20)]) dX2_readMouth_104 mV_X2_125 hdd hrc rfl rfl (Nat.le_of_ble_eq_true rfl) (Nat.le_refl _) ⟨Nat.le_refl _, Nat.le_refl _⟩ hC (fun H21 x22 hp => ?_)
        have h := h H21 x22 hp
        obtain ⟨m0, f0, e1, e2, h⟩ := h
        refine gG_iast dX2_readMouth_107 ⟨m0, f0, e1, e2, ?_⟩
        obtain ⟨H23, eH⟩ : ∃ z, z = va_up H21 (q20) (.inl (0, m0, .inl (upd f0 (Int32.toNatClampNeg (x1)) (x22)))) := ⟨_, rfl⟩
        rw [← eH] at h ⊢
        refine gG_aload_n dX2_readMouth_108 rfl rfl ?_
        obtain ⟨fs, q24, e1, e2, h⟩ := h
        refine gG_gr dX2_readMouth_109 fl_X2_129 ⟨fs, q24, e1, e2, ?_⟩
        refine gG_iload_n dX2_readMouth_112 rfl rfl ?_
        refine gG_aload_n dX2_readMouth_113 rfl rfl ?_
        obtain ⟨fs, q25, e1, e2, h⟩ := h
        refine gG_gr dX2_readMouth_114 fl_X2_121 ⟨fs, q25, e1, e2, ?_⟩
        refine gG_iload_n dX2_readMouth_117 rfl rfl ?_
        obtain ⟨m0, f0, e1, e2, h⟩ := h
        refine gG_iald dX2_readMouth_118 ⟨m0, f0, e1, e2, ?_⟩
        obtain ⟨x26, eH⟩ : ∃ z, z = f0 (Int32.toNatClampNeg (x1)) := ⟨_, rfl⟩
        rw [← eH] at h ⊢
        refine gG_iconst (v := (-1)) dX2_readMouth_119 (by decide) ?_
        refine gG_ic_ne (tgt := 127) dX2_readMouth_120 (by decide) (fun c => ?_) (fun c => ?_)
        · have h := h.1 c
          refine gG_aload_n dX2_readMouth_127 rfl rfl ?_
          refine gG_ldcS (t := 27) dX2_readMouth_128 rfl ?_
          refine gG_iconst (v := 0) dX2_readMouth_130 (by decide) ?_
          refine gG_bipush (v := 9) dX2_readMouth_131 (by decide) ?_
          obtain ⟨hrc, d2, P2, hdd, hC, h⟩ := h
          refine gG_cvi (As := [.float (27), .int ((0 : Int32)), .int ((9 : Int32))]) (st := [.int (x1), .ref (q24)]) dX2_readMouth_133 mV_X2_125 hdd hrc rfl rfl (Nat.le_of_ble_eq_true rfl) (Nat.le_refl _) ⟨Nat.le_refl _, Nat.le_refl _⟩ hC (fun H27 x28 hp => ?_)
          have h := h H27 x28 hp
          obtain ⟨m0, f0, e1, e2, h⟩ := h
          refine gG_iast dX2_readMouth_136 ⟨m0, f0, e1, e2, ?_⟩
          obtain ⟨H29, eH⟩ : ∃ z, z = va_up H27 (q24) (.inl (0, m0, .inl (upd f0 (Int32.toNatClampNeg (x1)) (x28)))) := ⟨_, rfl⟩
          rw [← eH] at h ⊢
          refine gG_locals ?_ h
          exact ⟨rfl, ⟨rfl, ⟨rfl, trivial⟩⟩⟩
        · have h := h.2 c
          refine gG_iconst (v := (-1)) dX2_readMouth_123 (by decide) ?_
          refine gG_goto (tgt := 136) dX2_readMouth_124 (by decide) ?_
          obtain ⟨m0, f0, e1, e2, h⟩ := h
          refine gG_iast dX2_readMouth_136 ⟨m0, f0, e1, e2, ?_⟩
          obtain ⟨H30, eH⟩ : ∃ z, z = va_up H23 (q24) (.inl (0, m0, .inl (upd f0 (Int32.toNatClampNeg (x1)) ((-1 : Int32))))) := ⟨_, rfl⟩
          rw [← eH] at h ⊢
          refine gG_locals ?_ h
          exact ⟨rfl, ⟨rfl, ⟨rfl, trivial⟩⟩⟩
      · have h := h.2 c
        refine gG_aload_n dX2_readMouth_77 rfl rfl ?_
        obtain ⟨fs, q31, e1, e2, h⟩ := h
        refine gG_gr dX2_readMouth_78 fl_X2_9 ⟨fs, q31, e1, e2, ?_⟩
        refine gG_iconst (v := 1) dX2_readMouth_81 (by decide) ?_
        obtain ⟨hrc, d2, P2, hdd, hC, h⟩ := h
        refine gG_cvi (As := [.int ((1 : Int32))]) (st := []) dX2_readMouth_82 mV_X2_79 hdd hrc rfl rfl (Nat.le_of_ble_eq_true rfl) (Nat.le_refl _) ⟨Nat.le_refl _, Nat.le_refl _⟩ hC (fun H32 x9 hp => ?_)
        obtain ⟨b33, rfl, hp⟩ := hp
        have h := h H32 b33 hp
        exact gG_exit ⟨rfl, rfl, rfl, dX2_readMouth_85, b33, rfl, h⟩
    · have h := h.2 (g_b_f c)
      refine gG_iconst (v := 0) dX2_readMouth_35 (by decide) ?_
      exact gG_exit ⟨rfl, rfl, rfl, dX2_readMouth_36, false, rfl, h⟩
  · have h := h.2 c
    refine gG_aload_n dX2_readMouth_11 rfl rfl ?_
    obtain ⟨fs, q34, e1, e2, h⟩ := h
    refine gG_gr dX2_readMouth_12 fl_X2_9 ⟨fs, q34, e1, e2, ?_⟩
    refine gG_iconst (v := 5) dX2_readMouth_15 (by decide) ?_
    obtain ⟨hrc, d2, P2, hdd, hC, h⟩ := h
    refine gG_cvi (As := [.int ((5 : Int32))]) (st := []) dX2_readMouth_16 mV_X2_79 hdd hrc rfl rfl (Nat.le_of_ble_eq_true rfl) (Nat.le_refl _) ⟨Nat.le_refl _, Nat.le_refl _⟩ hC (fun H35 x9 hp => ?_)
    obtain ⟨b36, rfl, hp⟩ := hp
    have h := h H35 b36 hp
    exact gG_exit ⟨rfl, rfl, rfl, dX2_readMouth_19, b36, rfl, h⟩
theorem kX2_readMouth_137 {d n : Nat} {H : gHp} {P : gHp → Bool → Prop} {a0 : Nat} {a1 : Nat} {i2 : Int32} (h : g_gr H (a1) 1 5 (fun q1 => g_gr H (a1) 1 4 (fun q2 => g_al 0 H (q2) (i2) (fun x3 => (¬ (x3 = (-1 : Int32)) → (∃ fs, H (a0) = .inr (2, fs)) ∧ g_ci d mX2_readMeasure n H [.ref (a0), .float (28), .int ((0 : Int32)), .int ((40 : Int32))] (fun H4 x5 => g_as 0 H4 (q1) (i2) (x5) (fun H6 => gG d mX2_readMouth 0 0 (g_Xz mX2_readMouth n 0 0 P) 166 n H6 [none, some (.ref (a1)), some (.int (i2))] [] (0) (0)))) ∧ (x3 = (-1 : Int32) → g_as 0 H (q1) (i2) ((-1 : Int32)) (fun H7 => gG d mX2_readMouth 0 0 (g_Xz mX2_readMouth n 0 0 P) 166 n H7 [none, some (.ref (a1)), some (.int (i2))] [] (0) (0))))))) : gG d mX2_readMouth 0 0 (g_Xz mX2_readMouth n 0 0 P) 137 n H [some (.ref (a0)), some (.ref (a1)), some (.int (i2))] [] 0 0 := by
  refine gG_aload_n dX2_readMouth_137 rfl rfl ?_
  obtain ⟨fs, q1, e1, e2, h⟩ := h
  refine gG_gr dX2_readMouth_138 fl_X2_133 ⟨fs, q1, e1, e2, ?_⟩
  refine gG_iload_n dX2_readMouth_141 rfl rfl ?_
  refine gG_aload_n dX2_readMouth_142 rfl rfl ?_
  obtain ⟨fs, q2, e1, e2, h⟩ := h
  refine gG_gr dX2_readMouth_143 fl_X2_129 ⟨fs, q2, e1, e2, ?_⟩
  refine gG_iload_n dX2_readMouth_146 rfl rfl ?_
  obtain ⟨m0, f0, e1, e2, h⟩ := h
  refine gG_iald dX2_readMouth_147 ⟨m0, f0, e1, e2, ?_⟩
  obtain ⟨x3, eH⟩ : ∃ z, z = f0 (Int32.toNatClampNeg (i2)) := ⟨_, rfl⟩
  rw [← eH] at h ⊢
  refine gG_iconst (v := (-1)) dX2_readMouth_148 (by decide) ?_
  refine gG_ic_ne (tgt := 156) dX2_readMouth_149 (by decide) (fun c => ?_) (fun c => ?_)
  · have h := h.1 c
    refine gG_aload_n dX2_readMouth_156 rfl rfl ?_
    refine gG_ldcS (t := 28) dX2_readMouth_157 rfl ?_
    refine gG_iconst (v := 0) dX2_readMouth_159 (by decide) ?_
    refine gG_bipush (v := 40) dX2_readMouth_160 (by decide) ?_
    obtain ⟨hrc, d2, P2, hdd, hC, h⟩ := h
    refine gG_cvi (As := [.float (28), .int ((0 : Int32)), .int ((40 : Int32))]) (st := [.int (i2), .ref (q1)]) dX2_readMouth_162 mV_X2_125 hdd hrc rfl rfl (Nat.le_of_ble_eq_true rfl) (Nat.le_refl _) ⟨Nat.le_refl _, Nat.le_refl _⟩ hC (fun H4 x5 hp => ?_)
    have h := h H4 x5 hp
    obtain ⟨m0, f0, e1, e2, h⟩ := h
    refine gG_iast dX2_readMouth_165 ⟨m0, f0, e1, e2, ?_⟩
    obtain ⟨H6, eH⟩ : ∃ z, z = va_up H4 (q1) (.inl (0, m0, .inl (upd f0 (Int32.toNatClampNeg (i2)) (x5)))) := ⟨_, rfl⟩
    rw [← eH] at h ⊢
    refine gG_locals ?_ h
    exact ⟨rfl, ⟨rfl, trivial⟩⟩
  · have h := h.2 c
    refine gG_iconst (v := (-1)) dX2_readMouth_152 (by decide) ?_
    refine gG_goto (tgt := 165) dX2_readMouth_153 (by decide) ?_
    obtain ⟨m0, f0, e1, e2, h⟩ := h
    refine gG_iast dX2_readMouth_165 ⟨m0, f0, e1, e2, ?_⟩
    obtain ⟨H7, eH⟩ : ∃ z, z = va_up H (q1) (.inl (0, m0, .inl (upd f0 (Int32.toNatClampNeg (i2)) ((-1 : Int32))))) := ⟨_, rfl⟩
    rw [← eH] at h ⊢
    refine gG_locals ?_ h
    exact ⟨rfl, ⟨rfl, trivial⟩⟩
theorem kX2_readMouth_166 {d n : Nat} {H : gHp} {P : gHp → Bool → Prop} {a1 : Nat} {i2 : Int32} (h : g_gr H (a1) 1 5 (fun q1 => g_al 0 H (q1) (i2) (fun x2 => (¬ (x2 = (-1 : Int32)) → g_gr H (a1) 1 6 (fun q3 => g_as 0 H (q3) (i2) ((-1 : Int32)) (fun H4 => (∃ fs, H4 (a1) = .inr (1, fs)) ∧ g_cvd d mX1_putInOrder n H4 [.ref (a1), .int (i2)] (fun H5 => g_gi H5 (a1) 1 0 (fun x6 => g_pf H5 (a1) 1 0 (.int ((x6 + (1 : Int32)))) (fun H7 => P H7 true)))))) ∧ (x2 = (-1 : Int32) → P H false)))) : gG d mX2_readMouth 0 0 (g_Xz mX2_readMouth n 0 0 P) 166 n H [none, some (.ref (a1)), some (.int (i2))] [] 0 0 := by
  refine gG_aload_n dX2_readMouth_166 rfl rfl ?_
  obtain ⟨fs, q1, e1, e2, h⟩ := h
  refine gG_gr dX2_readMouth_167 fl_X2_133 ⟨fs, q1, e1, e2, ?_⟩
  refine gG_iload_n dX2_readMouth_170 rfl rfl ?_
  obtain ⟨m0, f0, e1, e2, h⟩ := h
  refine gG_iald dX2_readMouth_171 ⟨m0, f0, e1, e2, ?_⟩
  obtain ⟨x2, eH⟩ : ∃ z, z = f0 (Int32.toNatClampNeg (i2)) := ⟨_, rfl⟩
  rw [← eH] at h ⊢
  refine gG_iconst (v := (-1)) dX2_readMouth_172 (by decide) ?_
  refine gG_ic_ne (tgt := 178) dX2_readMouth_173 (by decide) (fun c => ?_) (fun c => ?_)
  · have h := h.1 c
    refine gG_aload_n dX2_readMouth_178 rfl rfl ?_
    obtain ⟨fs, q3, e1, e2, h⟩ := h
    refine gG_gr dX2_readMouth_179 fl_X2_137 ⟨fs, q3, e1, e2, ?_⟩
    refine gG_iload_n dX2_readMouth_182 rfl rfl ?_
    refine gG_iconst (v := (-1)) dX2_readMouth_183 (by decide) ?_
    obtain ⟨m0, f0, e1, e2, h⟩ := h
    refine gG_iast dX2_readMouth_184 ⟨m0, f0, e1, e2, ?_⟩
    obtain ⟨H4, eH⟩ : ∃ z, z = va_up H (q3) (.inl (0, m0, .inl (upd f0 (Int32.toNatClampNeg (i2)) ((-1 : Int32))))) := ⟨_, rfl⟩
    rw [← eH] at h ⊢
    refine gG_aload_n dX2_readMouth_185 rfl rfl ?_
    refine gG_iload_n dX2_readMouth_186 rfl rfl ?_
    obtain ⟨hrc, d2, P2, hdd, hC, h⟩ := h
    refine gG_cvv (As := [.int (i2)]) (st := []) dX2_readMouth_187 mV_X2_139 hdd hrc rfl rfl (Nat.le_of_ble_eq_true rfl) (Nat.le_refl _) ⟨Nat.le_refl _, Nat.le_refl _⟩ hC (fun H5 hp => ?_)
    have h := h H5 hp
    refine gG_aload_n dX2_readMouth_190 rfl rfl ?_
    refine gG_dup dX2_readMouth_191 rfl ?_
    obtain ⟨fs, x6, e1, e2, h⟩ := h
    refine gG_gi dX2_readMouth_192 fl_X2_100 ⟨fs, x6, e1, e2, ?_⟩
    refine gG_iconst (v := 1) dX2_readMouth_195 (by decide) ?_
    refine gG_iadd dX2_readMouth_196 ?_
    obtain ⟨fs, e1, e2, h⟩ := h
    refine gG_pi dX2_readMouth_197 fl_X2_100 ⟨fs, e1, e2, ?_⟩
    obtain ⟨H7, eH⟩ : ∃ z, z = va_up H5 (a1) (.inr (1, fs.set 0 (.int ((x6 + (1 : Int32)))))) := ⟨_, rfl⟩
    rw [← eH] at h ⊢
    refine gG_iconst (v := 1) dX2_readMouth_200 (by decide) ?_
    exact gG_exit ⟨rfl, rfl, rfl, dX2_readMouth_201, true, rfl, h⟩
  · have h := h.2 c
    refine gG_iconst (v := 0) dX2_readMouth_176 (by decide) ?_
    exact gG_exit ⟨rfl, rfl, rfl, dX2_readMouth_177, false, rfl, h⟩

theorem kX2_isNewName_0 {d n : Nat} {H : gHp} {P : gHp → Bool → Prop} {a0 : Nat} {a1 : Nat} (h : g_gr H (a0) 2 0 (fun q1 => (∃ fs, H (q1) = .inr (8, fs)) ∧ g_cz d mX8_isName n H [.ref (q1)] (fun H2 b3 => (b3 = true → g_gr H2 (a0) 2 0 (fun q4 => g_gl H2 (q4) 8 5 (fun y5 => (∃ fs, H2 (a1) = .inr (1, fs)) ∧ g_cz d mX1_isTold n H2 [.ref (a1), .long (y5)] (fun H6 b7 => (b7 = false → P H6 true) ∧ (b7 = true → g_gr H6 (a0) 2 0 (fun q8 => (∃ fs, H6 (q8) = .inr (8, fs)) ∧ g_cz d mX8_fail n H6 [.ref (q8), .int ((3 : Int32))] (fun H9 b10 => (b10 = false → P H9 false) ∧ (b10 = true → P H9 true)))))))) ∧ (b3 = false → g_gr H2 (a0) 2 0 (fun q11 => (∃ fs, H2 (q11) = .inr (8, fs)) ∧ g_cz d mX8_fail n H2 [.ref (q11), .int ((1 : Int32))] (fun H12 b13 => P H12 b13)))))) : gG d mX2_isNewName 0 0 (g_Xz mX2_isNewName n 0 0 P) 0 n H [some (.ref (a0)), some (.ref (a1))] [] 0 0 := by
  refine gG_aload_n dX2_isNewName_0 rfl rfl ?_
  obtain ⟨fs, q1, e1, e2, h⟩ := h
  refine gG_gr dX2_isNewName_1 fl_X2_9 ⟨fs, q1, e1, e2, ?_⟩
  obtain ⟨hrc, d2, P2, hdd, hC, h⟩ := h
  refine gG_cvi (As := []) (st := []) dX2_isNewName_4 mV_X2_143 hdd hrc rfl rfl (Nat.le_of_ble_eq_true rfl) (Nat.le_refl _) ⟨Nat.le_refl _, Nat.le_refl _⟩ hC (fun H2 x9 hp => ?_)
  obtain ⟨b3, rfl, hp⟩ := hp
  have h := h H2 b3 hp
  refine gG_if_ne (tgt := 19) dX2_isNewName_7 (by decide) (fun c => ?_) (fun c => ?_)
  · have h := h.1 (g_b_t c)
    refine gG_aload_n dX2_isNewName_19 rfl rfl ?_
    refine gG_aload_n dX2_isNewName_20 rfl rfl ?_
    obtain ⟨fs, q4, e1, e2, h⟩ := h
    refine gG_gr dX2_isNewName_21 fl_X2_9 ⟨fs, q4, e1, e2, ?_⟩
    obtain ⟨fs, y5, e1, e2, h⟩ := h
    refine gG_gl dX2_isNewName_24 fl_X2_110 ⟨fs, y5, e1, e2, ?_⟩
    obtain ⟨hrc, d2, P2, hdd, hC, h⟩ := h
    refine gG_cvi (As := [.long (y5)]) (st := []) dX2_isNewName_27 mV_X2_146 hdd hrc rfl rfl (Nat.le_of_ble_eq_true rfl) (Nat.le_refl _) ⟨Nat.le_refl _, Nat.le_refl _⟩ hC (fun H6 x9 hp => ?_)
    obtain ⟨b7, rfl, hp⟩ := hp
    have h := h H6 b7 hp
    refine gG_if_eq (tgt := 44) dX2_isNewName_30 (by decide) (fun c => ?_) (fun c => ?_)
    · have h := h.1 (g_b_f c)
      refine gG_iconst (v := 1) dX2_isNewName_44 (by decide) ?_
      refine gG_goto (tgt := 49) dX2_isNewName_45 (by decide) ?_
      exact gG_exit ⟨rfl, rfl, rfl, dX2_isNewName_49, true, rfl, h⟩
    · have h := h.2 (g_b_t c)
      refine gG_aload_n dX2_isNewName_33 rfl rfl ?_
      obtain ⟨fs, q8, e1, e2, h⟩ := h
      refine gG_gr dX2_isNewName_34 fl_X2_9 ⟨fs, q8, e1, e2, ?_⟩
      refine gG_iconst (v := 3) dX2_isNewName_37 (by decide) ?_
      obtain ⟨hrc, d2, P2, hdd, hC, h⟩ := h
      refine gG_cvi (As := [.int ((3 : Int32))]) (st := []) dX2_isNewName_38 mV_X2_79 hdd hrc rfl rfl (Nat.le_of_ble_eq_true rfl) (Nat.le_refl _) ⟨Nat.le_refl _, Nat.le_refl _⟩ hC (fun H9 x9 hp => ?_)
      obtain ⟨b10, rfl, hp⟩ := hp
      have h := h H9 b10 hp
      refine gG_if_eq (tgt := 48) dX2_isNewName_41 (by decide) (fun c => ?_) (fun c => ?_)
      · have h := h.1 (g_b_f c)
        refine gG_iconst (v := 0) dX2_isNewName_48 (by decide) ?_
        exact gG_exit ⟨rfl, rfl, rfl, dX2_isNewName_49, false, rfl, h⟩
      · have h := h.2 (g_b_t c)
        refine gG_iconst (v := 1) dX2_isNewName_44 (by decide) ?_
        refine gG_goto (tgt := 49) dX2_isNewName_45 (by decide) ?_
        exact gG_exit ⟨rfl, rfl, rfl, dX2_isNewName_49, true, rfl, h⟩
  · have h := h.2 (g_b_f c)
    refine gG_aload_n dX2_isNewName_10 rfl rfl ?_
    obtain ⟨fs, q11, e1, e2, h⟩ := h
    refine gG_gr dX2_isNewName_11 fl_X2_9 ⟨fs, q11, e1, e2, ?_⟩
    refine gG_iconst (v := 1) dX2_isNewName_14 (by decide) ?_
    obtain ⟨hrc, d2, P2, hdd, hC, h⟩ := h
    refine gG_cvi (As := [.int ((1 : Int32))]) (st := []) dX2_isNewName_15 mV_X2_79 hdd hrc rfl rfl (Nat.le_of_ble_eq_true rfl) (Nat.le_refl _) ⟨Nat.le_refl _, Nat.le_refl _⟩ hC (fun H12 x9 hp => ?_)
    obtain ⟨b13, rfl, hp⟩ := hp
    have h := h H12 b13 hp
    exact gG_exit ⟨rfl, rfl, rfl, dX2_isNewName_18, b13, rfl, h⟩

theorem kX2_kindHere_0 {d n : Nat} {H : gHp} {P : gHp → Int32 → Prop} {a0 : Nat} (h : g_gr H (a0) 2 0 (fun q1 => (∃ fs, H (q1) = .inr (8, fs)) ∧ g_cz d mX8_isWord n H [.ref (q1), .float (22)] (fun H2 b3 => (b3 = false → g_gr H2 (a0) 2 0 (fun q4 => (∃ fs, H2 (q4) = .inr (8, fs)) ∧ g_cz d mX8_isWord n H2 [.ref (q4), .float (23)] (fun H5 b6 => (b6 = false → g_gr H5 (a0) 2 0 (fun q7 => (∃ fs, H5 (q7) = .inr (8, fs)) ∧ g_cz d mX8_isWord n H5 [.ref (q7), .float (24)] (fun H8 b9 => (b9 = false → g_gr H8 (a0) 2 0 (fun q10 => (∃ fs, H8 (q10) = .inr (8, fs)) ∧ g_cz d mX8_isWord n H8 [.ref (q10), .float (25)] (fun H11 b12 => (b12 = false → P H11 ((-1 : Int32))) ∧ (b12 = true → P H11 ((3 : Int32)))))) ∧ (b9 = true → P H8 ((2 : Int32)))))) ∧ (b6 = true → P H5 ((1 : Int32)))))) ∧ (b3 = true → P H2 ((0 : Int32)))))) : gG d mX2_kindHere 0 0 (g_Xj mX2_kindHere n 0 0 P) 0 n H [some (.ref (a0))] [] 0 0 := by
  refine gG_aload_n dX2_kindHere_0 rfl rfl ?_
  obtain ⟨fs, q1, e1, e2, h⟩ := h
  refine gG_gr dX2_kindHere_1 fl_X2_9 ⟨fs, q1, e1, e2, ?_⟩
  refine gG_ldcS (t := 22) dX2_kindHere_4 rfl ?_
  obtain ⟨hrc, d2, P2, hdd, hC, h⟩ := h
  refine gG_cvi (As := [.float (22)]) (st := []) dX2_kindHere_6 mV_X2_52 hdd hrc rfl rfl (Nat.le_of_ble_eq_true rfl) (Nat.le_refl _) ⟨Nat.le_refl _, Nat.le_refl _⟩ hC (fun H2 x9 hp => ?_)
  obtain ⟨b3, rfl, hp⟩ := hp
  have h := h H2 b3 hp
  refine gG_if_eq (tgt := 14) dX2_kindHere_9 (by decide) (fun c => ?_) (fun c => ?_)
  · have h := h.1 (g_b_f c)
    refine gG_aload_n dX2_kindHere_14 rfl rfl ?_
    obtain ⟨fs, q4, e1, e2, h⟩ := h
    refine gG_gr dX2_kindHere_15 fl_X2_9 ⟨fs, q4, e1, e2, ?_⟩
    refine gG_ldcS (t := 23) dX2_kindHere_18 rfl ?_
    obtain ⟨hrc, d2, P2, hdd, hC, h⟩ := h
    refine gG_cvi (As := [.float (23)]) (st := []) dX2_kindHere_20 mV_X2_52 hdd hrc rfl rfl (Nat.le_of_ble_eq_true rfl) (Nat.le_refl _) ⟨Nat.le_refl _, Nat.le_refl _⟩ hC (fun H5 x9 hp => ?_)
    obtain ⟨b6, rfl, hp⟩ := hp
    have h := h H5 b6 hp
    refine gG_if_eq (tgt := 28) dX2_kindHere_23 (by decide) (fun c => ?_) (fun c => ?_)
    · have h := h.1 (g_b_f c)
      refine gG_aload_n dX2_kindHere_28 rfl rfl ?_
      obtain ⟨fs, q7, e1, e2, h⟩ := h
      refine gG_gr dX2_kindHere_29 fl_X2_9 ⟨fs, q7, e1, e2, ?_⟩
      refine gG_ldcS (t := 24) dX2_kindHere_32 rfl ?_
      obtain ⟨hrc, d2, P2, hdd, hC, h⟩ := h
      refine gG_cvi (As := [.float (24)]) (st := []) dX2_kindHere_34 mV_X2_52 hdd hrc rfl rfl (Nat.le_of_ble_eq_true rfl) (Nat.le_refl _) ⟨Nat.le_refl _, Nat.le_refl _⟩ hC (fun H8 x9 hp => ?_)
      obtain ⟨b9, rfl, hp⟩ := hp
      have h := h H8 b9 hp
      refine gG_if_eq (tgt := 42) dX2_kindHere_37 (by decide) (fun c => ?_) (fun c => ?_)
      · have h := h.1 (g_b_f c)
        refine gG_aload_n dX2_kindHere_42 rfl rfl ?_
        obtain ⟨fs, q10, e1, e2, h⟩ := h
        refine gG_gr dX2_kindHere_43 fl_X2_9 ⟨fs, q10, e1, e2, ?_⟩
        refine gG_ldcS (t := 25) dX2_kindHere_46 rfl ?_
        obtain ⟨hrc, d2, P2, hdd, hC, h⟩ := h
        refine gG_cvi (As := [.float (25)]) (st := []) dX2_kindHere_48 mV_X2_52 hdd hrc rfl rfl (Nat.le_of_ble_eq_true rfl) (Nat.le_refl _) ⟨Nat.le_refl _, Nat.le_refl _⟩ hC (fun H11 x9 hp => ?_)
        obtain ⟨b12, rfl, hp⟩ := hp
        have h := h H11 b12 hp
        refine gG_if_eq (tgt := 58) dX2_kindHere_51 (by decide) (fun c => ?_) (fun c => ?_)
        · have h := h.1 (g_b_f c)
          refine gG_iconst (v := (-1)) dX2_kindHere_58 (by decide) ?_
          exact gG_exit ⟨rfl, rfl, rfl, dX2_kindHere_59, _, rfl, h⟩
        · have h := h.2 (g_b_t c)
          refine gG_iconst (v := 3) dX2_kindHere_54 (by decide) ?_
          refine gG_goto (tgt := 59) dX2_kindHere_55 (by decide) ?_
          exact gG_exit ⟨rfl, rfl, rfl, dX2_kindHere_59, _, rfl, h⟩
      · have h := h.2 (g_b_t c)
        refine gG_iconst (v := 2) dX2_kindHere_40 (by decide) ?_
        exact gG_exit ⟨rfl, rfl, rfl, dX2_kindHere_41, _, rfl, h⟩
    · have h := h.2 (g_b_t c)
      refine gG_iconst (v := 1) dX2_kindHere_26 (by decide) ?_
      exact gG_exit ⟨rfl, rfl, rfl, dX2_kindHere_27, _, rfl, h⟩
  · have h := h.2 (g_b_t c)
    refine gG_iconst (v := 0) dX2_kindHere_12 (by decide) ?_
    exact gG_exit ⟨rfl, rfl, rfl, dX2_kindHere_13, _, rfl, h⟩

theorem kX2_readMeasure_0 {d n : Nat} {H : gHp} {P : gHp → Int32 → Prop} {a0 : Nat} {t1 : UInt32} {i2 : Int32} {i3 : Int32} (ht1 : (t1).toNat < 45) (h : g_gr H (a0) 2 0 (fun q1 => (∃ fs, H (q1) = .inr (8, fs)) ∧ g_cz d mX8_takeWord n H [.ref (q1), .float (t1)] (fun H2 b3 => (b3 = false → P H2 ((-1 : Int32))) ∧ (b3 = true → g_gr H2 (a0) 2 0 (fun q4 => (∃ fs, H2 (q4) = .inr (8, fs)) ∧ g_ci d mX8_takeNumber n H2 [.ref (q4), .int (i2), .int (i3)] (fun H5 x6 => P H5 (x6))))))) : gG d mX2_readMeasure 0 0 (g_Xj mX2_readMeasure n 0 0 P) 0 n H [some (.ref (a0)), some (.float (t1)), some (.int (i2)), some (.int (i3))] [] 0 0 := by
  refine gG_aload_n dX2_readMeasure_0 rfl rfl ?_
  obtain ⟨fs, q1, e1, e2, h⟩ := h
  refine gG_gr dX2_readMeasure_1 fl_X2_9 ⟨fs, q1, e1, e2, ?_⟩
  refine gG_aload_nT dX2_readMeasure_4 rfl rfl ?_
  obtain ⟨hrc, d2, P2, hdd, hC, h⟩ := h
  refine gG_cvi (As := [.float (t1)]) (st := []) dX2_readMeasure_5 mV_X2_158 hdd hrc rfl rfl (Nat.le_of_ble_eq_true rfl) (Nat.le_refl _) ⟨Nat.le_refl _, Nat.le_refl _⟩ hC (fun H2 x9 hp => ?_)
  obtain ⟨b3, rfl, hp⟩ := hp
  have h := h H2 b3 hp
  refine gG_if_eq (tgt := 23) dX2_readMeasure_8 (by decide) (fun c => ?_) (fun c => ?_)
  · have h := h.1 (g_b_f c)
    refine gG_iconst (v := (-1)) dX2_readMeasure_23 (by decide) ?_
    exact gG_exit ⟨rfl, rfl, rfl, dX2_readMeasure_24, _, rfl, h⟩
  · have h := h.2 (g_b_t c)
    refine gG_aload_n dX2_readMeasure_11 rfl rfl ?_
    obtain ⟨fs, q4, e1, e2, h⟩ := h
    refine gG_gr dX2_readMeasure_12 fl_X2_9 ⟨fs, q4, e1, e2, ?_⟩
    refine gG_iload_n dX2_readMeasure_15 rfl rfl ?_
    refine gG_iload_n dX2_readMeasure_16 rfl rfl ?_
    obtain ⟨hrc, d2, P2, hdd, hC, h⟩ := h
    refine gG_cvi (As := [.int (i2), .int (i3)]) (st := []) dX2_readMeasure_17 mV_X2_161 hdd hrc rfl rfl (Nat.le_of_ble_eq_true rfl) (Nat.le_refl _) ⟨Nat.le_refl _, Nat.le_refl _⟩ hC (fun H5 x6 hp => ?_)
    have h := h H5 x6 hp
    refine gG_goto (tgt := 24) dX2_readMeasure_20 (by decide) ?_
    exact gG_exit ⟨rfl, rfl, rfl, dX2_readMeasure_24, _, rfl, h⟩

theorem kX2_readGutter_0 {d n : Nat} {H : gHp} {P : gHp → Bool → Prop} {a0 : Nat} {a1 : Nat} (h : g_gr H (a0) 2 0 (fun q1 => (∃ fs, H (q1) = .inr (8, fs)) ∧ g_cvd d mX8_advance n H [.ref (q1)] (fun H2 => g_gr H2 (a0) 2 0 (fun q3 => (∃ fs, H2 (q3) = .inr (8, fs)) ∧ g_ci d mX8_mouthHere n H2 [.ref (q3), .ref (a1)] (fun H4 x5 => (¬ (x5 = (-1 : Int32)) → g_gr H4 (a1) 1 6 (fun q6 => g_al 0 H4 (q6) (x5) (fun x7 => (x7 = (-1 : Int32) → g_gr H4 (a0) 2 0 (fun q8 => (∃ fs, H4 (q8) = .inr (8, fs)) ∧ g_cvd d mX8_advance n H4 [.ref (q8)] (fun H9 => g_gr H9 (a0) 2 0 (fun q10 => (∃ fs, H9 (q10) = .inr (8, fs)) ∧ g_ci d mX8_mouthHere n H9 [.ref (q10), .ref (a1)] (fun H11 x12 => (¬ (x12 = (-1 : Int32)) → g_gr H11 (a1) 1 3 (fun q13 => g_al 0 H11 (q13) (x12) (fun x14 => g_gr H11 (a1) 1 3 (fun q15 => g_al 0 H11 (q15) (x5) (fun x16 => (x14 < x16 → g_gr H11 (a0) 2 0 (fun q17 => (∃ fs, H11 (q17) = .inr (8, fs)) ∧ g_cvd d mX8_advance n H11 [.ref (q17)] (fun H18 => g_gr H18 (a1) 1 6 (fun q19 => g_as 0 H18 (q19) (x5) (x12) (fun H20 => P H20 true))))) ∧ (¬ (x14 < x16) → g_gr H11 (a0) 2 0 (fun q21 => (∃ fs, H11 (q21) = .inr (8, fs)) ∧ g_cz d mX8_fail n H11 [.ref (q21), .int ((3 : Int32))] (fun H22 b23 => P H22 b23)))))))) ∧ (x12 = (-1 : Int32) → P H11 false)))))) ∧ (¬ (x7 = (-1 : Int32)) → g_gr H4 (a0) 2 0 (fun q24 => (∃ fs, H4 (q24) = .inr (8, fs)) ∧ g_cz d mX8_fail n H4 [.ref (q24), .int ((3 : Int32))] (fun H25 b26 => P H25 b26)))))) ∧ (x5 = (-1 : Int32) → P H4 false)))))) : gG d mX2_readGutter 0 0 (g_Xz mX2_readGutter n 0 0 P) 0 n H [some (.ref (a0)), some (.ref (a1)), none, none] [] 0 0 := by
  refine gG_aload_n dX2_readGutter_0 rfl rfl ?_
  obtain ⟨fs, q1, e1, e2, h⟩ := h
  refine gG_gr dX2_readGutter_1 fl_X2_9 ⟨fs, q1, e1, e2, ?_⟩
  obtain ⟨hrc, d2, P2, hdd, hC, h⟩ := h
  refine gG_cvv (As := []) (st := []) dX2_readGutter_4 mV_X2_93 hdd hrc rfl rfl (Nat.le_of_ble_eq_true rfl) (Nat.le_refl _) ⟨Nat.le_refl _, Nat.le_refl _⟩ hC (fun H2 hp => ?_)
  have h := h H2 hp
  refine gG_aload_n dX2_readGutter_7 rfl rfl ?_
  obtain ⟨fs, q3, e1, e2, h⟩ := h
  refine gG_gr dX2_readGutter_8 fl_X2_9 ⟨fs, q3, e1, e2, ?_⟩
  refine gG_aload_n dX2_readGutter_11 rfl rfl ?_
  obtain ⟨hrc, d2, P2, hdd, hC, h⟩ := h
  refine gG_cvi (As := [.ref (a1)]) (st := []) dX2_readGutter_12 mV_X2_165 hdd hrc rfl rfl (Nat.le_of_ble_eq_true rfl) (Nat.le_refl _) ⟨Nat.le_refl _, Nat.le_refl _⟩ hC (fun H4 x5 hp => ?_)
  have h := h H4 x5 hp
  refine gG_istore_n dX2_readGutter_15 rfl (Nat.le_of_ble_eq_true rfl) ?_
  refine gG_iload_n dX2_readGutter_16 rfl rfl ?_
  refine gG_iconst (v := (-1)) dX2_readGutter_17 (by decide) ?_
  refine gG_ic_ne (tgt := 23) dX2_readGutter_18 (by decide) (fun c => ?_) (fun c => ?_)
  · have h := h.1 c
    refine gG_aload_n dX2_readGutter_23 rfl rfl ?_
    obtain ⟨fs, q6, e1, e2, h⟩ := h
    refine gG_gr dX2_readGutter_24 fl_X2_137 ⟨fs, q6, e1, e2, ?_⟩
    refine gG_iload_n dX2_readGutter_27 rfl rfl ?_
    obtain ⟨m0, f0, e1, e2, h⟩ := h
    refine gG_iald dX2_readGutter_28 ⟨m0, f0, e1, e2, ?_⟩
    obtain ⟨x7, eH⟩ : ∃ z, z = f0 (Int32.toNatClampNeg (x5)) := ⟨_, rfl⟩
    rw [← eH] at h ⊢
    refine gG_iconst (v := (-1)) dX2_readGutter_29 (by decide) ?_
    refine gG_ic_eq (tgt := 42) dX2_readGutter_30 (by decide) (fun c => ?_) (fun c => ?_)
    · have h := h.1 c
      refine gG_aload_n dX2_readGutter_42 rfl rfl ?_
      obtain ⟨fs, q8, e1, e2, h⟩ := h
      refine gG_gr dX2_readGutter_43 fl_X2_9 ⟨fs, q8, e1, e2, ?_⟩
      obtain ⟨hrc, d2, P2, hdd, hC, h⟩ := h
      refine gG_cvv (As := []) (st := []) dX2_readGutter_46 mV_X2_93 hdd hrc rfl rfl (Nat.le_of_ble_eq_true rfl) (Nat.le_refl _) ⟨Nat.le_refl _, Nat.le_refl _⟩ hC (fun H9 hp => ?_)
      have h := h H9 hp
      refine gG_aload_n dX2_readGutter_49 rfl rfl ?_
      obtain ⟨fs, q10, e1, e2, h⟩ := h
      refine gG_gr dX2_readGutter_50 fl_X2_9 ⟨fs, q10, e1, e2, ?_⟩
      refine gG_aload_n dX2_readGutter_53 rfl rfl ?_
      obtain ⟨hrc, d2, P2, hdd, hC, h⟩ := h
      refine gG_cvi (As := [.ref (a1)]) (st := []) dX2_readGutter_54 mV_X2_165 hdd hrc rfl rfl (Nat.le_of_ble_eq_true rfl) (Nat.le_refl _) ⟨Nat.le_refl _, Nat.le_refl _⟩ hC (fun H11 x12 hp => ?_)
      have h := h H11 x12 hp
      refine gG_istore_n dX2_readGutter_57 rfl (Nat.le_of_ble_eq_true rfl) ?_
      refine gG_iload_n dX2_readGutter_58 rfl rfl ?_
      refine gG_iconst (v := (-1)) dX2_readGutter_59 (by decide) ?_
      refine gG_ic_ne (tgt := 65) dX2_readGutter_60 (by decide) (fun c => ?_) (fun c => ?_)
      · have h := h.1 c
        refine gG_aload_n dX2_readGutter_65 rfl rfl ?_
        obtain ⟨fs, q13, e1, e2, h⟩ := h
        refine gG_gr dX2_readGutter_66 fl_X2_121 ⟨fs, q13, e1, e2, ?_⟩
        refine gG_iload_n dX2_readGutter_69 rfl rfl ?_
        obtain ⟨m0, f0, e1, e2, h⟩ := h
        refine gG_iald dX2_readGutter_70 ⟨m0, f0, e1, e2, ?_⟩
        obtain ⟨x14, eH⟩ : ∃ z, z = f0 (Int32.toNatClampNeg (x12)) := ⟨_, rfl⟩
        rw [← eH] at h ⊢
        refine gG_aload_n dX2_readGutter_71 rfl rfl ?_
        obtain ⟨fs, q15, e1, e2, h⟩ := h
        refine gG_gr dX2_readGutter_72 fl_X2_121 ⟨fs, q15, e1, e2, ?_⟩
        refine gG_iload_n dX2_readGutter_75 rfl rfl ?_
        obtain ⟨m0, f0, e1, e2, h⟩ := h
        refine gG_iald dX2_readGutter_76 ⟨m0, f0, e1, e2, ?_⟩
        obtain ⟨x16, eH⟩ : ∃ z, z = f0 (Int32.toNatClampNeg (x5)) := ⟨_, rfl⟩
        rw [← eH] at h ⊢
        refine gG_ic_lt (tgt := 89) dX2_readGutter_77 (by decide) (fun c => ?_) (fun c => ?_)
        · have h := h.1 c
          refine gG_aload_n dX2_readGutter_89 rfl rfl ?_
          obtain ⟨fs, q17, e1, e2, h⟩ := h
          refine gG_gr dX2_readGutter_90 fl_X2_9 ⟨fs, q17, e1, e2, ?_⟩
          obtain ⟨hrc, d2, P2, hdd, hC, h⟩ := h
          refine gG_cvv (As := []) (st := []) dX2_readGutter_93 mV_X2_93 hdd hrc rfl rfl (Nat.le_of_ble_eq_true rfl) (Nat.le_refl _) ⟨Nat.le_refl _, Nat.le_refl _⟩ hC (fun H18 hp => ?_)
          have h := h H18 hp
          refine gG_aload_n dX2_readGutter_96 rfl rfl ?_
          obtain ⟨fs, q19, e1, e2, h⟩ := h
          refine gG_gr dX2_readGutter_97 fl_X2_137 ⟨fs, q19, e1, e2, ?_⟩
          refine gG_iload_n dX2_readGutter_100 rfl rfl ?_
          refine gG_iload_n dX2_readGutter_101 rfl rfl ?_
          obtain ⟨m0, f0, e1, e2, h⟩ := h
          refine gG_iast dX2_readGutter_102 ⟨m0, f0, e1, e2, ?_⟩
          obtain ⟨H20, eH⟩ : ∃ z, z = va_up H18 (q19) (.inl (0, m0, .inl (upd f0 (Int32.toNatClampNeg (x5)) (x12)))) := ⟨_, rfl⟩
          rw [← eH] at h ⊢
          refine gG_iconst (v := 1) dX2_readGutter_103 (by decide) ?_
          exact gG_exit ⟨rfl, rfl, rfl, dX2_readGutter_104, true, rfl, h⟩
        · have h := h.2 c
          refine gG_aload_n dX2_readGutter_80 rfl rfl ?_
          obtain ⟨fs, q21, e1, e2, h⟩ := h
          refine gG_gr dX2_readGutter_81 fl_X2_9 ⟨fs, q21, e1, e2, ?_⟩
          refine gG_iconst (v := 3) dX2_readGutter_84 (by decide) ?_
          obtain ⟨hrc, d2, P2, hdd, hC, h⟩ := h
          refine gG_cvi (As := [.int ((3 : Int32))]) (st := []) dX2_readGutter_85 mV_X2_79 hdd hrc rfl rfl (Nat.le_of_ble_eq_true rfl) (Nat.le_refl _) ⟨Nat.le_refl _, Nat.le_refl _⟩ hC (fun H22 x9 hp => ?_)
          obtain ⟨b23, rfl, hp⟩ := hp
          have h := h H22 b23 hp
          exact gG_exit ⟨rfl, rfl, rfl, dX2_readGutter_88, b23, rfl, h⟩
      · have h := h.2 c
        refine gG_iconst (v := 0) dX2_readGutter_63 (by decide) ?_
        exact gG_exit ⟨rfl, rfl, rfl, dX2_readGutter_64, false, rfl, h⟩
    · have h := h.2 c
      refine gG_aload_n dX2_readGutter_33 rfl rfl ?_
      obtain ⟨fs, q24, e1, e2, h⟩ := h
      refine gG_gr dX2_readGutter_34 fl_X2_9 ⟨fs, q24, e1, e2, ?_⟩
      refine gG_iconst (v := 3) dX2_readGutter_37 (by decide) ?_
      obtain ⟨hrc, d2, P2, hdd, hC, h⟩ := h
      refine gG_cvi (As := [.int ((3 : Int32))]) (st := []) dX2_readGutter_38 mV_X2_79 hdd hrc rfl rfl (Nat.le_of_ble_eq_true rfl) (Nat.le_refl _) ⟨Nat.le_refl _, Nat.le_refl _⟩ hC (fun H25 x9 hp => ?_)
      obtain ⟨b26, rfl, hp⟩ := hp
      have h := h H25 b26 hp
      exact gG_exit ⟨rfl, rfl, rfl, dX2_readGutter_41, b26, rfl, h⟩
  · have h := h.2 c
    refine gG_iconst (v := 0) dX2_readGutter_21 (by decide) ?_
    exact gG_exit ⟨rfl, rfl, rfl, dX2_readGutter_22, false, rfl, h⟩

theorem kX2_readLetterNamed_0 {d n : Nat} {H : gHp} {P : gHp → Bool → Prop} {a0 : Nat} {a1 : Nat} (h : g_gi H (a1) 1 8 (fun x1 => (x1 < (6 : Int32) → g_gr H (a0) 2 0 (fun q2 => (∃ fs, H (q2) = .inr (8, fs)) ∧ g_cvd d mX8_advance n H [.ref (q2)] (fun H3 => (∃ fs, H3 (a0) = .inr (2, fs)) ∧ g_cz d mX2_isNewName n H3 [.ref (a0), .ref (a1)] (fun H4 b5 => (b5 = true → g_gr H4 (a1) 1 9 (fun q6 => g_gr H4 (a0) 2 0 (fun q7 => g_gl H4 (q7) 8 5 (fun y8 => g_lst H4 (q6) (x1) (y8) (fun H9 => g_gr H9 (a0) 2 0 (fun q10 => (∃ fs, H9 (q10) = .inr (8, fs)) ∧ g_cvd d mX8_advance n H9 [.ref (q10)] (fun H11 => g_gr H11 (a0) 2 0 (fun q12 => (∃ fs, H11 (q12) = .inr (8, fs)) ∧ g_cz d mX8_takeWord n H11 [.ref (q12), .float (31)] (fun H13 b14 => P H13 b14))))))))) ∧ (b5 = false → P H4 false))))) ∧ (¬ (x1 < (6 : Int32)) → g_gr H (a0) 2 0 (fun q15 => (∃ fs, H (q15) = .inr (8, fs)) ∧ g_cz d mX8_fail n H [.ref (q15), .int ((5 : Int32))] (fun H16 b17 => P H16 b17))))) : gG d mX2_readLetterNamed 0 0 (g_Xz mX2_readLetterNamed n 0 0 P) 0 n H [some (.ref (a0)), some (.ref (a1)), none] [] 0 0 := by
  refine gG_aload_n dX2_readLetterNamed_0 rfl rfl ?_
  obtain ⟨fs, x1, e1, e2, h⟩ := h
  refine gG_gi dX2_readLetterNamed_1 fl_X2_169 ⟨fs, x1, e1, e2, ?_⟩
  refine gG_istore_n dX2_readLetterNamed_4 rfl (Nat.le_of_ble_eq_true rfl) ?_
  refine gG_iload_n dX2_readLetterNamed_5 rfl rfl ?_
  refine gG_bipush (v := 6) dX2_readLetterNamed_6 (by decide) ?_
  refine gG_ic_lt (tgt := 20) dX2_readLetterNamed_8 (by decide) (fun c => ?_) (fun c => ?_)
  · have h := h.1 c
    refine gG_aload_n dX2_readLetterNamed_20 rfl rfl ?_
    obtain ⟨fs, q2, e1, e2, h⟩ := h
    refine gG_gr dX2_readLetterNamed_21 fl_X2_9 ⟨fs, q2, e1, e2, ?_⟩
    obtain ⟨hrc, d2, P2, hdd, hC, h⟩ := h
    refine gG_cvv (As := []) (st := []) dX2_readLetterNamed_24 mV_X2_93 hdd hrc rfl rfl (Nat.le_of_ble_eq_true rfl) (Nat.le_refl _) ⟨Nat.le_refl _, Nat.le_refl _⟩ hC (fun H3 hp => ?_)
    have h := h H3 hp
    refine gG_aload_n dX2_readLetterNamed_27 rfl rfl ?_
    refine gG_aload_n dX2_readLetterNamed_28 rfl rfl ?_
    obtain ⟨hrc, d2, P2, hdd, hC, h⟩ := h
    refine gG_cvi (As := [.ref (a1)]) (st := []) dX2_readLetterNamed_29 mV_X2_103 hdd hrc rfl rfl (Nat.le_of_ble_eq_true rfl) (Nat.le_refl _) ⟨Nat.le_refl _, Nat.le_refl _⟩ hC (fun H4 x9 hp => ?_)
    obtain ⟨b5, rfl, hp⟩ := hp
    have h := h H4 b5 hp
    refine gG_if_ne (tgt := 37) dX2_readLetterNamed_32 (by decide) (fun c => ?_) (fun c => ?_)
    · have h := h.1 (g_b_t c)
      refine gG_aload_n dX2_readLetterNamed_37 rfl rfl ?_
      obtain ⟨fs, q6, e1, e2, h⟩ := h
      refine gG_gr dX2_readLetterNamed_38 fl_X2_172 ⟨fs, q6, e1, e2, ?_⟩
      refine gG_iload_n dX2_readLetterNamed_41 rfl rfl ?_
      refine gG_aload_n dX2_readLetterNamed_42 rfl rfl ?_
      obtain ⟨fs, q7, e1, e2, h⟩ := h
      refine gG_gr dX2_readLetterNamed_43 fl_X2_9 ⟨fs, q7, e1, e2, ?_⟩
      obtain ⟨fs, y8, e1, e2, h⟩ := h
      refine gG_gl dX2_readLetterNamed_46 fl_X2_110 ⟨fs, y8, e1, e2, ?_⟩
      obtain ⟨m0, f0, e1, e2, h⟩ := h
      refine gG_last dX2_readLetterNamed_49 ⟨m0, f0, e1, e2, ?_⟩
      obtain ⟨H9, eH⟩ : ∃ z, z = va_up H4 (q6) (.inl (1, m0, .inr (.inl (vp_updL f0 (Int32.toNatClampNeg (x1)) (y8))))) := ⟨_, rfl⟩
      rw [← eH] at h ⊢
      refine gG_aload_n dX2_readLetterNamed_50 rfl rfl ?_
      obtain ⟨fs, q10, e1, e2, h⟩ := h
      refine gG_gr dX2_readLetterNamed_51 fl_X2_9 ⟨fs, q10, e1, e2, ?_⟩
      obtain ⟨hrc, d2, P2, hdd, hC, h⟩ := h
      refine gG_cvv (As := []) (st := []) dX2_readLetterNamed_54 mV_X2_93 hdd hrc rfl rfl (Nat.le_of_ble_eq_true rfl) (Nat.le_refl _) ⟨Nat.le_refl _, Nat.le_refl _⟩ hC (fun H11 hp => ?_)
      have h := h H11 hp
      refine gG_aload_n dX2_readLetterNamed_57 rfl rfl ?_
      obtain ⟨fs, q12, e1, e2, h⟩ := h
      refine gG_gr dX2_readLetterNamed_58 fl_X2_9 ⟨fs, q12, e1, e2, ?_⟩
      refine gG_ldcS (t := 31) dX2_readLetterNamed_61 rfl ?_
      obtain ⟨hrc, d2, P2, hdd, hC, h⟩ := h
      refine gG_cvi (As := [.float (31)]) (st := []) dX2_readLetterNamed_63 mV_X2_158 hdd hrc rfl rfl (Nat.le_of_ble_eq_true rfl) (Nat.le_refl _) ⟨Nat.le_refl _, Nat.le_refl _⟩ hC (fun H13 x9 hp => ?_)
      obtain ⟨b14, rfl, hp⟩ := hp
      have h := h H13 b14 hp
      exact gG_exit ⟨rfl, rfl, rfl, dX2_readLetterNamed_66, b14, rfl, h⟩
    · have h := h.2 (g_b_f c)
      refine gG_iconst (v := 0) dX2_readLetterNamed_35 (by decide) ?_
      exact gG_exit ⟨rfl, rfl, rfl, dX2_readLetterNamed_36, false, rfl, h⟩
  · have h := h.2 c
    refine gG_aload_n dX2_readLetterNamed_11 rfl rfl ?_
    obtain ⟨fs, q15, e1, e2, h⟩ := h
    refine gG_gr dX2_readLetterNamed_12 fl_X2_9 ⟨fs, q15, e1, e2, ?_⟩
    refine gG_iconst (v := 5) dX2_readLetterNamed_15 (by decide) ?_
    obtain ⟨hrc, d2, P2, hdd, hC, h⟩ := h
    refine gG_cvi (As := [.int ((5 : Int32))]) (st := []) dX2_readLetterNamed_16 mV_X2_79 hdd hrc rfl rfl (Nat.le_of_ble_eq_true rfl) (Nat.le_refl _) ⟨Nat.le_refl _, Nat.le_refl _⟩ hC (fun H16 x9 hp => ?_)
    obtain ⟨b17, rfl, hp⟩ := hp
    have h := h H16 b17 hp
    exact gG_exit ⟨rfl, rfl, rfl, dX2_readLetterNamed_19, b17, rfl, h⟩

theorem kX2_readLetterMouths_0 {d n : Nat} {H : gHp} {P : gHp → Bool → Prop} {a0 : Nat} {a1 : Nat} (h : gG d mX2_readLetterMouths 0 0 (g_Xz mX2_readLetterMouths n 0 0 P) 4 n H [some (.ref (a0)), some (.ref (a1)), some (.int ((0 : Int32))), some (.int ((0 : Int32))), none] [] (0) (0)) : gG d mX2_readLetterMouths 0 0 (g_Xz mX2_readLetterMouths n 0 0 P) 0 n H [some (.ref (a0)), some (.ref (a1)), none, none, none] [] 0 0 := by
  refine gG_iconst (v := 0) dX2_readLetterMouths_0 (by decide) ?_
  refine gG_istore_n dX2_readLetterMouths_1 rfl (Nat.le_of_ble_eq_true rfl) ?_
  refine gG_iconst (v := 0) dX2_readLetterMouths_2 (by decide) ?_
  refine gG_istore_n dX2_readLetterMouths_3 rfl (Nat.le_of_ble_eq_true rfl) ?_
  refine gG_locals ?_ h
  exact ⟨rfl, ⟨rfl, ⟨rfl, ⟨rfl, trivial⟩⟩⟩⟩
theorem kX2_readLetterMouths_4 {d n : Nat} {H : gHp} {P : gHp → Bool → Prop} {a0 : Nat} {a1 : Nat} {i2 : Int32} {i3 : Int32} (h : ((7 : Int32) < i3 → gG d mX2_readLetterMouths 0 0 (g_Xz mX2_readLetterMouths n 0 0 P) 82 n H [some (.ref (a0)), some (.ref (a1)), some (.int (i2)), none, none] [] (0) (0)) ∧ (¬ ((7 : Int32) < i3) → (i2 = 0 → gG d mX2_readLetterMouths 0 0 (g_Xz mX2_readLetterMouths n 0 0 P) 26 n H [some (.ref (a0)), some (.ref (a1)), some (.int (i2)), some (.int (i3)), none] [] (0) (0)) ∧ (¬ (i2 = 0) → g_gr H (a0) 2 0 (fun q1 => (∃ fs, H (q1) = .inr (8, fs)) ∧ g_cz d mX8_isSign n H [.ref (q1), .int ((59 : Int32))] (fun H2 b3 => (b3 = true → gG d mX2_readLetterMouths 0 0 (g_Xz mX2_readLetterMouths n 0 0 P) 82 n H2 [some (.ref (a0)), some (.ref (a1)), some (.int (i2)), none, none] [] (0) (0)) ∧ (b3 = false → gG d mX2_readLetterMouths 0 0 (g_Xz mX2_readLetterMouths n 0 0 P) 26 n H2 [some (.ref (a0)), some (.ref (a1)), some (.int (i2)), some (.int (i3)), none] [] (0) (0))))))) : gG d mX2_readLetterMouths 0 0 (g_Xz mX2_readLetterMouths n 0 0 P) 4 n H [some (.ref (a0)), some (.ref (a1)), some (.int (i2)), some (.int (i3)), none] [] 0 0 := by
  refine gG_iload_n dX2_readLetterMouths_4 rfl rfl ?_
  refine gG_bipush (v := 7) dX2_readLetterMouths_5 (by decide) ?_
  refine gG_ic_gt (tgt := 82) dX2_readLetterMouths_7 (by decide) (fun c => ?_) (fun c => ?_)
  · have h := h.1 c
    refine gG_locals ?_ h
    exact ⟨rfl, ⟨rfl, ⟨rfl, trivial⟩⟩⟩
  · have h := h.2 c
    refine gG_iload_n dX2_readLetterMouths_10 rfl rfl ?_
    refine gG_if_eq (tgt := 26) dX2_readLetterMouths_11 (by decide) (fun c => ?_) (fun c => ?_)
    · have h := h.1 c
      refine gG_locals ?_ h
      exact ⟨rfl, ⟨rfl, ⟨rfl, ⟨rfl, trivial⟩⟩⟩⟩
    · have h := h.2 c
      refine gG_aload_n dX2_readLetterMouths_14 rfl rfl ?_
      obtain ⟨fs, q1, e1, e2, h⟩ := h
      refine gG_gr dX2_readLetterMouths_15 fl_X2_9 ⟨fs, q1, e1, e2, ?_⟩
      refine gG_bipush (v := 59) dX2_readLetterMouths_18 (by decide) ?_
      obtain ⟨hrc, d2, P2, hdd, hC, h⟩ := h
      refine gG_cvi (As := [.int ((59 : Int32))]) (st := []) dX2_readLetterMouths_20 mV_X2_177 hdd hrc rfl rfl (Nat.le_of_ble_eq_true rfl) (Nat.le_refl _) ⟨Nat.le_refl _, Nat.le_refl _⟩ hC (fun H2 x9 hp => ?_)
      obtain ⟨b3, rfl, hp⟩ := hp
      have h := h H2 b3 hp
      refine gG_if_ne (tgt := 82) dX2_readLetterMouths_23 (by decide) (fun c => ?_) (fun c => ?_)
      · have h := h.1 (g_b_t c)
        refine gG_locals ?_ h
        exact ⟨rfl, ⟨rfl, ⟨rfl, trivial⟩⟩⟩
      · have h := h.2 (g_b_f c)
        refine gG_locals ?_ h
        exact ⟨rfl, ⟨rfl, ⟨rfl, ⟨rfl, trivial⟩⟩⟩⟩
theorem kX2_readLetterMouths_26 {d n : Nat} {H : gHp} {P : gHp → Bool → Prop} {a0 : Nat} {a1 : Nat} {i2 : Int32} {i3 : Int32} (h : g_gr H (a0) 2 0 (fun q1 => (∃ fs, H (q1) = .inr (8, fs)) ∧ g_ci d mX8_mouthHere n H [.ref (q1), .ref (a1)] (fun H2 x3 => (¬ (x3 = (-1 : Int32)) → (((i2 >>> (x3 &&& 31)) &&& (1 : Int32)) = 0 → g_gr H2 (a0) 2 0 (fun q4 => (∃ fs, H2 (q4) = .inr (8, fs)) ∧ g_cvd d mX8_advance n H2 [.ref (q4)] (fun H5 => gG d mX2_readLetterMouths 0 0 (g_Xz mX2_readLetterMouths n 0 0 P) 4 n H5 [some (.ref (a0)), some (.ref (a1)), some (.int ((i2 ||| ((1 : Int32) <<< (x3 &&& 31))))), some (.int ((i3 + 1))), none] [] (0) (0)))) ∧ (¬ (((i2 >>> (x3 &&& 31)) &&& (1 : Int32)) = 0) → g_gr H2 (a0) 2 0 (fun q6 => (∃ fs, H2 (q6) = .inr (8, fs)) ∧ g_cz d mX8_fail n H2 [.ref (q6), .int ((3 : Int32))] (fun H7 b8 => P H7 b8)))) ∧ (x3 = (-1 : Int32) → P H2 false)))) : gG d mX2_readLetterMouths 0 0 (g_Xz mX2_readLetterMouths n 0 0 P) 26 n H [some (.ref (a0)), some (.ref (a1)), some (.int (i2)), some (.int (i3)), none] [] 0 0 := by
  refine gG_aload_n dX2_readLetterMouths_26 rfl rfl ?_
  obtain ⟨fs, q1, e1, e2, h⟩ := h
  refine gG_gr dX2_readLetterMouths_27 fl_X2_9 ⟨fs, q1, e1, e2, ?_⟩
  refine gG_aload_n dX2_readLetterMouths_30 rfl rfl ?_
  obtain ⟨hrc, d2, P2, hdd, hC, h⟩ := h
  refine gG_cvi (As := [.ref (a1)]) (st := []) dX2_readLetterMouths_31 mV_X2_165 hdd hrc rfl rfl (Nat.le_of_ble_eq_true rfl) (Nat.le_refl _) ⟨Nat.le_refl _, Nat.le_refl _⟩ hC (fun H2 x3 hp => ?_)
  have h := h H2 x3 hp
  refine gG_istore dX2_readLetterMouths_34 (Nat.le_of_ble_eq_true rfl) ?_
  refine gG_iload dX2_readLetterMouths_36 rfl ?_
  refine gG_iconst (v := (-1)) dX2_readLetterMouths_38 (by decide) ?_
  refine gG_ic_ne (tgt := 44) dX2_readLetterMouths_39 (by decide) (fun c => ?_) (fun c => ?_)
  · have h := h.1 c
    refine gG_iload_n dX2_readLetterMouths_44 rfl rfl ?_
    refine gG_iload dX2_readLetterMouths_45 rfl ?_
    refine gG_ishr dX2_readLetterMouths_47 ?_
    refine gG_iconst (v := 1) dX2_readLetterMouths_48 (by decide) ?_
    refine gG_iand dX2_readLetterMouths_49 ?_
    refine gG_if_eq (tgt := 62) dX2_readLetterMouths_50 (by decide) (fun c => ?_) (fun c => ?_)
    · have h := h.1 c
      refine gG_iload_n dX2_readLetterMouths_62 rfl rfl ?_
      refine gG_iconst (v := 1) dX2_readLetterMouths_63 (by decide) ?_
      refine gG_iload dX2_readLetterMouths_64 rfl ?_
      refine gG_ishl dX2_readLetterMouths_66 ?_
      refine gG_ior dX2_readLetterMouths_67 ?_
      refine gG_istore_n dX2_readLetterMouths_68 rfl (Nat.le_of_ble_eq_true rfl) ?_
      refine gG_aload_n dX2_readLetterMouths_69 rfl rfl ?_
      obtain ⟨fs, q4, e1, e2, h⟩ := h
      refine gG_gr dX2_readLetterMouths_70 fl_X2_9 ⟨fs, q4, e1, e2, ?_⟩
      obtain ⟨hrc, d2, P2, hdd, hC, h⟩ := h
      refine gG_cvv (As := []) (st := []) dX2_readLetterMouths_73 mV_X2_93 hdd hrc rfl rfl (Nat.le_of_ble_eq_true rfl) (Nat.le_refl _) ⟨Nat.le_refl _, Nat.le_refl _⟩ hC (fun H5 hp => ?_)
      have h := h H5 hp
      refine gG_iinc (v := i3 + 1) dX2_readLetterMouths_76 rfl rfl (Nat.le_of_ble_eq_true rfl) ?_
      refine gG_goto (tgt := 4) dX2_readLetterMouths_79 (by decide) ?_
      refine gG_locals ?_ h
      exact ⟨rfl, ⟨rfl, ⟨rfl, ⟨rfl, trivial⟩⟩⟩⟩
    · have h := h.2 c
      refine gG_aload_n dX2_readLetterMouths_53 rfl rfl ?_
      obtain ⟨fs, q6, e1, e2, h⟩ := h
      refine gG_gr dX2_readLetterMouths_54 fl_X2_9 ⟨fs, q6, e1, e2, ?_⟩
      refine gG_iconst (v := 3) dX2_readLetterMouths_57 (by decide) ?_
      obtain ⟨hrc, d2, P2, hdd, hC, h⟩ := h
      refine gG_cvi (As := [.int ((3 : Int32))]) (st := []) dX2_readLetterMouths_58 mV_X2_79 hdd hrc rfl rfl (Nat.le_of_ble_eq_true rfl) (Nat.le_refl _) ⟨Nat.le_refl _, Nat.le_refl _⟩ hC (fun H7 x9 hp => ?_)
      obtain ⟨b8, rfl, hp⟩ := hp
      have h := h H7 b8 hp
      exact gG_exit ⟨rfl, rfl, rfl, dX2_readLetterMouths_61, b8, rfl, h⟩
  · have h := h.2 c
    refine gG_iconst (v := 0) dX2_readLetterMouths_42 (by decide) ?_
    exact gG_exit ⟨rfl, rfl, rfl, dX2_readLetterMouths_43, false, rfl, h⟩
theorem kX2_readLetterMouths_82 {d n : Nat} {H : gHp} {P : gHp → Bool → Prop} {a0 : Nat} {a1 : Nat} {i2 : Int32} (h : (∃ fs, H (a1) = .inr (1, fs)) ∧ g_ci d mX1_letterOf n H [.ref (a1), .int (i2)] (fun H1 x2 => (x2 = (-1 : Int32) → g_gi H1 (a1) 1 8 (fun x3 => (x3 < (6 : Int32) → g_gr H1 (a1) 1 10 (fun q4 => g_as 0 H1 (q4) (x3) (i2) (fun H5 => g_gi H5 (a1) 1 8 (fun x6 => g_pf H5 (a1) 1 8 (.int ((x6 + (1 : Int32)))) (fun H7 => P H7 true))))) ∧ (¬ (x3 < (6 : Int32)) → g_gr H1 (a0) 2 0 (fun q8 => (∃ fs, H1 (q8) = .inr (8, fs)) ∧ g_cz d mX8_fail n H1 [.ref (q8), .int ((5 : Int32))] (fun H9 b10 => P H9 b10))))) ∧ (¬ (x2 = (-1 : Int32)) → g_gr H1 (a0) 2 0 (fun q11 => (∃ fs, H1 (q11) = .inr (8, fs)) ∧ g_cz d mX8_fail n H1 [.ref (q11), .int ((3 : Int32))] (fun H12 b13 => P H12 b13))))) : gG d mX2_readLetterMouths 0 0 (g_Xz mX2_readLetterMouths n 0 0 P) 82 n H [some (.ref (a0)), some (.ref (a1)), some (.int (i2)), none, none] [] 0 0 := by
  refine gG_aload_n dX2_readLetterMouths_82 rfl rfl ?_
  refine gG_iload_n dX2_readLetterMouths_83 rfl rfl ?_
  obtain ⟨hrc, d2, P2, hdd, hC, h⟩ := h
  refine gG_cvi (As := [.int (i2)]) (st := []) dX2_readLetterMouths_84 mV_X2_180 hdd hrc rfl rfl (Nat.le_of_ble_eq_true rfl) (Nat.le_refl _) ⟨Nat.le_refl _, Nat.le_refl _⟩ hC (fun H1 x2 hp => ?_)
  have h := h H1 x2 hp
  refine gG_iconst (v := (-1)) dX2_readLetterMouths_87 (by decide) ?_
  refine gG_ic_eq (tgt := 100) dX2_readLetterMouths_88 (by decide) (fun c => ?_) (fun c => ?_)
  · have h := h.1 c
    refine gG_aload_n dX2_readLetterMouths_100 rfl rfl ?_
    obtain ⟨fs, x3, e1, e2, h⟩ := h
    refine gG_gi dX2_readLetterMouths_101 fl_X2_169 ⟨fs, x3, e1, e2, ?_⟩
    refine gG_istore_n dX2_readLetterMouths_104 rfl (Nat.le_of_ble_eq_true rfl) ?_
    refine gG_iload_n dX2_readLetterMouths_105 rfl rfl ?_
    refine gG_bipush (v := 6) dX2_readLetterMouths_106 (by decide) ?_
    refine gG_ic_lt (tgt := 120) dX2_readLetterMouths_108 (by decide) (fun c => ?_) (fun c => ?_)
    · have h := h.1 c
      refine gG_aload_n dX2_readLetterMouths_120 rfl rfl ?_
      obtain ⟨fs, q4, e1, e2, h⟩ := h
      refine gG_gr dX2_readLetterMouths_121 fl_X2_184 ⟨fs, q4, e1, e2, ?_⟩
      refine gG_iload_n dX2_readLetterMouths_124 rfl rfl ?_
      refine gG_iload_n dX2_readLetterMouths_125 rfl rfl ?_
      obtain ⟨m0, f0, e1, e2, h⟩ := h
      refine gG_iast dX2_readLetterMouths_126 ⟨m0, f0, e1, e2, ?_⟩
      obtain ⟨H5, eH⟩ : ∃ z, z = va_up H1 (q4) (.inl (0, m0, .inl (upd f0 (Int32.toNatClampNeg (x3)) (i2)))) := ⟨_, rfl⟩
      rw [← eH] at h ⊢
      refine gG_aload_n dX2_readLetterMouths_127 rfl rfl ?_
      refine gG_dup dX2_readLetterMouths_128 rfl ?_
      obtain ⟨fs, x6, e1, e2, h⟩ := h
      refine gG_gi dX2_readLetterMouths_129 fl_X2_169 ⟨fs, x6, e1, e2, ?_⟩
      refine gG_iconst (v := 1) dX2_readLetterMouths_132 (by decide) ?_
      refine gG_iadd dX2_readLetterMouths_133 ?_
      obtain ⟨fs, e1, e2, h⟩ := h
      refine gG_pi dX2_readLetterMouths_134 fl_X2_169 ⟨fs, e1, e2, ?_⟩
      obtain ⟨H7, eH⟩ : ∃ z, z = va_up H5 (a1) (.inr (1, fs.set 8 (.int ((x6 + (1 : Int32)))))) := ⟨_, rfl⟩
      rw [← eH] at h ⊢
      refine gG_iconst (v := 1) dX2_readLetterMouths_137 (by decide) ?_
      exact gG_exit ⟨rfl, rfl, rfl, dX2_readLetterMouths_138, true, rfl, h⟩
    · have h := h.2 c
      refine gG_aload_n dX2_readLetterMouths_111 rfl rfl ?_
      obtain ⟨fs, q8, e1, e2, h⟩ := h
      refine gG_gr dX2_readLetterMouths_112 fl_X2_9 ⟨fs, q8, e1, e2, ?_⟩
      refine gG_iconst (v := 5) dX2_readLetterMouths_115 (by decide) ?_
      obtain ⟨hrc, d2, P2, hdd, hC, h⟩ := h
      refine gG_cvi (As := [.int ((5 : Int32))]) (st := []) dX2_readLetterMouths_116 mV_X2_79 hdd hrc rfl rfl (Nat.le_of_ble_eq_true rfl) (Nat.le_refl _) ⟨Nat.le_refl _, Nat.le_refl _⟩ hC (fun H9 x9 hp => ?_)
      obtain ⟨b10, rfl, hp⟩ := hp
      have h := h H9 b10 hp
      exact gG_exit ⟨rfl, rfl, rfl, dX2_readLetterMouths_119, b10, rfl, h⟩
  · have h := h.2 c
    refine gG_aload_n dX2_readLetterMouths_91 rfl rfl ?_
    obtain ⟨fs, q11, e1, e2, h⟩ := h
    refine gG_gr dX2_readLetterMouths_92 fl_X2_9 ⟨fs, q11, e1, e2, ?_⟩
    refine gG_iconst (v := 3) dX2_readLetterMouths_95 (by decide) ?_
    obtain ⟨hrc, d2, P2, hdd, hC, h⟩ := h
    refine gG_cvi (As := [.int ((3 : Int32))]) (st := []) dX2_readLetterMouths_96 mV_X2_79 hdd hrc rfl rfl (Nat.le_of_ble_eq_true rfl) (Nat.le_refl _) ⟨Nat.le_refl _, Nat.le_refl _⟩ hC (fun H12 x9 hp => ?_)
    obtain ⟨b13, rfl, hp⟩ := hp
    have h := h H12 b13 hp
    exact gG_exit ⟨rfl, rfl, rfl, dX2_readLetterMouths_99, b13, rfl, h⟩

theorem kX2_readRain_0 {d n : Nat} {H : gHp} {P : gHp → Bool → Prop} {a0 : Nat} {a1 : Nat} (h : g_gi H (a1) 1 11 (fun x1 => (x1 ≤ 0 → g_gr H (a0) 2 0 (fun q2 => (∃ fs, H (q2) = .inr (8, fs)) ∧ g_cvd d mX8_advance n H [.ref (q2)] (fun H3 => gG d mX2_readRain 0 0 (g_Xz mX2_readRain n 0 0 P) 25 n H3 [some (.ref (a0)), some (.ref (a1)), some (.int ((0 : Int32)))] [] (0) (0)))) ∧ (¬ (x1 ≤ 0) → g_gr H (a0) 2 0 (fun q4 => (∃ fs, H (q4) = .inr (8, fs)) ∧ g_cz d mX8_fail n H [.ref (q4), .int ((3 : Int32))] (fun H5 b6 => P H5 b6))))) : gG d mX2_readRain 0 0 (g_Xz mX2_readRain n 0 0 P) 0 n H [some (.ref (a0)), some (.ref (a1)), none] [] 0 0 := by
  refine gG_aload_n dX2_readRain_0 rfl rfl ?_
  obtain ⟨fs, x1, e1, e2, h⟩ := h
  refine gG_gi dX2_readRain_1 fl_X2_187 ⟨fs, x1, e1, e2, ?_⟩
  refine gG_if_le (tgt := 16) dX2_readRain_4 (by decide) (fun c => ?_) (fun c => ?_)
  · have h := h.1 c
    refine gG_aload_n dX2_readRain_16 rfl rfl ?_
    obtain ⟨fs, q2, e1, e2, h⟩ := h
    refine gG_gr dX2_readRain_17 fl_X2_9 ⟨fs, q2, e1, e2, ?_⟩
    obtain ⟨hrc, d2, P2, hdd, hC, h⟩ := h
    refine gG_cvv (As := []) (st := []) dX2_readRain_20 mV_X2_93 hdd hrc rfl rfl (Nat.le_of_ble_eq_true rfl) (Nat.le_refl _) ⟨Nat.le_refl _, Nat.le_refl _⟩ hC (fun H3 hp => ?_)
    have h := h H3 hp
    refine gG_iconst (v := 0) dX2_readRain_23 (by decide) ?_
    refine gG_istore_n dX2_readRain_24 rfl (Nat.le_of_ble_eq_true rfl) ?_
    refine gG_locals ?_ h
    exact ⟨rfl, ⟨rfl, ⟨rfl, trivial⟩⟩⟩
  · have h := h.2 c
    refine gG_aload_n dX2_readRain_7 rfl rfl ?_
    obtain ⟨fs, q4, e1, e2, h⟩ := h
    refine gG_gr dX2_readRain_8 fl_X2_9 ⟨fs, q4, e1, e2, ?_⟩
    refine gG_iconst (v := 3) dX2_readRain_11 (by decide) ?_
    obtain ⟨hrc, d2, P2, hdd, hC, h⟩ := h
    refine gG_cvi (As := [.int ((3 : Int32))]) (st := []) dX2_readRain_12 mV_X2_79 hdd hrc rfl rfl (Nat.le_of_ble_eq_true rfl) (Nat.le_refl _) ⟨Nat.le_refl _, Nat.le_refl _⟩ hC (fun H5 x9 hp => ?_)
    obtain ⟨b6, rfl, hp⟩ := hp
    have h := h H5 b6 hp
    exact gG_exit ⟨rfl, rfl, rfl, dX2_readRain_15, b6, rfl, h⟩
theorem kX2_readRain_25 {d n : Nat} {H : gHp} {P : gHp → Bool → Prop} {a0 : Nat} {a1 : Nat} {i2 : Int32} (h : ((12 : Int32) ≤ i2 → gG d mX2_readRain 0 0 (g_Xz mX2_readRain n 0 0 P) 88 n H [some (.ref (a0)), none, none] [] (0) (0)) ∧ (¬ ((12 : Int32) ≤ i2) → (i2 = 0 → gG d mX2_readRain 0 0 (g_Xz mX2_readRain n 0 0 P) 47 n H [some (.ref (a0)), some (.ref (a1)), some (.int (i2))] [] (0) (0)) ∧ (¬ (i2 = 0) → g_gr H (a0) 2 0 (fun q1 => (∃ fs, H (q1) = .inr (8, fs)) ∧ g_cz d mX8_isSign n H [.ref (q1), .int ((59 : Int32))] (fun H2 b3 => (b3 = true → gG d mX2_readRain 0 0 (g_Xz mX2_readRain n 0 0 P) 88 n H2 [some (.ref (a0)), none, none] [] (0) (0)) ∧ (b3 = false → gG d mX2_readRain 0 0 (g_Xz mX2_readRain n 0 0 P) 47 n H2 [some (.ref (a0)), some (.ref (a1)), some (.int (i2))] [] (0) (0))))))) : gG d mX2_readRain 0 0 (g_Xz mX2_readRain n 0 0 P) 25 n H [some (.ref (a0)), some (.ref (a1)), some (.int (i2))] [] 0 0 := by
  refine gG_iload_n dX2_readRain_25 rfl rfl ?_
  refine gG_bipush (v := 12) dX2_readRain_26 (by decide) ?_
  refine gG_ic_ge (tgt := 88) dX2_readRain_28 (by decide) (fun c => ?_) (fun c => ?_)
  · have h := h.1 c
    refine gG_locals ?_ h
    exact ⟨rfl, trivial⟩
  · have h := h.2 c
    refine gG_iload_n dX2_readRain_31 rfl rfl ?_
    refine gG_if_eq (tgt := 47) dX2_readRain_32 (by decide) (fun c => ?_) (fun c => ?_)
    · have h := h.1 c
      refine gG_locals ?_ h
      exact ⟨rfl, ⟨rfl, ⟨rfl, trivial⟩⟩⟩
    · have h := h.2 c
      refine gG_aload_n dX2_readRain_35 rfl rfl ?_
      obtain ⟨fs, q1, e1, e2, h⟩ := h
      refine gG_gr dX2_readRain_36 fl_X2_9 ⟨fs, q1, e1, e2, ?_⟩
      refine gG_bipush (v := 59) dX2_readRain_39 (by decide) ?_
      obtain ⟨hrc, d2, P2, hdd, hC, h⟩ := h
      refine gG_cvi (As := [.int ((59 : Int32))]) (st := []) dX2_readRain_41 mV_X2_177 hdd hrc rfl rfl (Nat.le_of_ble_eq_true rfl) (Nat.le_refl _) ⟨Nat.le_refl _, Nat.le_refl _⟩ hC (fun H2 x9 hp => ?_)
      obtain ⟨b3, rfl, hp⟩ := hp
      have h := h H2 b3 hp
      refine gG_if_ne (tgt := 88) dX2_readRain_44 (by decide) (fun c => ?_) (fun c => ?_)
      · have h := h.1 (g_b_t c)
        refine gG_locals ?_ h
        exact ⟨rfl, trivial⟩
      · have h := h.2 (g_b_f c)
        refine gG_locals ?_ h
        exact ⟨rfl, ⟨rfl, ⟨rfl, trivial⟩⟩⟩
theorem kX2_readRain_47 {d n : Nat} {H : gHp} {P : gHp → Bool → Prop} {a0 : Nat} {a1 : Nat} {i2 : Int32} (h : g_gr H (a1) 1 12 (fun q1 => g_gr H (a0) 2 0 (fun q2 => (∃ fs, H (q2) = .inr (8, fs)) ∧ g_ci d mX8_takeNumber n H [.ref (q2), .int ((0 : Int32)), .int ((9 : Int32))] (fun H3 x4 => g_as 0 H3 (q1) (i2) (x4) (fun H5 => g_gr H5 (a1) 1 12 (fun q6 => g_al 0 H5 (q6) (i2) (fun x7 => (¬ (x7 = (-1 : Int32)) → g_pf H5 (a1) 1 11 (.int ((i2 + (1 : Int32)))) (fun H8 => gG d mX2_readRain 0 0 (g_Xz mX2_readRain n 0 0 P) 25 n H8 [some (.ref (a0)), some (.ref (a1)), some (.int ((i2 + 1)))] [] (0) (0))) ∧ (x7 = (-1 : Int32) → P H5 false)))))))) : gG d mX2_readRain 0 0 (g_Xz mX2_readRain n 0 0 P) 47 n H [some (.ref (a0)), some (.ref (a1)), some (.int (i2))] [] 0 0 := by
  refine gG_aload_n dX2_readRain_47 rfl rfl ?_
  obtain ⟨fs, q1, e1, e2, h⟩ := h
  refine gG_gr dX2_readRain_48 fl_X2_190 ⟨fs, q1, e1, e2, ?_⟩
  refine gG_iload_n dX2_readRain_51 rfl rfl ?_
  refine gG_aload_n dX2_readRain_52 rfl rfl ?_
  obtain ⟨fs, q2, e1, e2, h⟩ := h
  refine gG_gr dX2_readRain_53 fl_X2_9 ⟨fs, q2, e1, e2, ?_⟩
  refine gG_iconst (v := 0) dX2_readRain_56 (by decide) ?_
  refine gG_bipush (v := 9) dX2_readRain_57 (by decide) ?_
  obtain ⟨hrc, d2, P2, hdd, hC, h⟩ := h
  refine gG_cvi (As := [.int ((0 : Int32)), .int ((9 : Int32))]) (st := [.int (i2), .ref (q1)]) dX2_readRain_59 mV_X2_161 hdd hrc rfl rfl (Nat.le_of_ble_eq_true rfl) (Nat.le_refl _) ⟨Nat.le_refl _, Nat.le_refl _⟩ hC (fun H3 x4 hp => ?_)
  have h := h H3 x4 hp
  obtain ⟨m0, f0, e1, e2, h⟩ := h
  refine gG_iast dX2_readRain_62 ⟨m0, f0, e1, e2, ?_⟩
  obtain ⟨H5, eH⟩ : ∃ z, z = va_up H3 (q1) (.inl (0, m0, .inl (upd f0 (Int32.toNatClampNeg (i2)) (x4)))) := ⟨_, rfl⟩
  rw [← eH] at h ⊢
  refine gG_aload_n dX2_readRain_63 rfl rfl ?_
  obtain ⟨fs, q6, e1, e2, h⟩ := h
  refine gG_gr dX2_readRain_64 fl_X2_190 ⟨fs, q6, e1, e2, ?_⟩
  refine gG_iload_n dX2_readRain_67 rfl rfl ?_
  obtain ⟨m0, f0, e1, e2, h⟩ := h
  refine gG_iald dX2_readRain_68 ⟨m0, f0, e1, e2, ?_⟩
  obtain ⟨x7, eH⟩ : ∃ z, z = f0 (Int32.toNatClampNeg (i2)) := ⟨_, rfl⟩
  rw [← eH] at h ⊢
  refine gG_iconst (v := (-1)) dX2_readRain_69 (by decide) ?_
  refine gG_ic_ne (tgt := 75) dX2_readRain_70 (by decide) (fun c => ?_) (fun c => ?_)
  · have h := h.1 c
    refine gG_aload_n dX2_readRain_75 rfl rfl ?_
    refine gG_iload_n dX2_readRain_76 rfl rfl ?_
    refine gG_iconst (v := 1) dX2_readRain_77 (by decide) ?_
    refine gG_iadd dX2_readRain_78 ?_
    obtain ⟨fs, e1, e2, h⟩ := h
    refine gG_pi dX2_readRain_79 fl_X2_187 ⟨fs, e1, e2, ?_⟩
    obtain ⟨H8, eH⟩ : ∃ z, z = va_up H5 (a1) (.inr (1, fs.set 11 (.int ((i2 + (1 : Int32)))))) := ⟨_, rfl⟩
    rw [← eH] at h ⊢
    refine gG_iinc (v := i2 + 1) dX2_readRain_82 rfl rfl (Nat.le_of_ble_eq_true rfl) ?_
    refine gG_goto (tgt := 25) dX2_readRain_85 (by decide) ?_
    refine gG_locals ?_ h
    exact ⟨rfl, ⟨rfl, ⟨rfl, trivial⟩⟩⟩
  · have h := h.2 c
    refine gG_iconst (v := 0) dX2_readRain_73 (by decide) ?_
    exact gG_exit ⟨rfl, rfl, rfl, dX2_readRain_74, false, rfl, h⟩
theorem kX2_readRain_88 {d n : Nat} {H : gHp} {P : gHp → Bool → Prop} {a0 : Nat} (h : g_gr H (a0) 2 0 (fun q1 => (∃ fs, H (q1) = .inr (8, fs)) ∧ g_cz d mX8_isNumber n H [.ref (q1)] (fun H2 b3 => (b3 = false → P H2 true) ∧ (b3 = true → g_gr H2 (a0) 2 0 (fun q4 => g_gi H2 (q4) 8 6 (fun x5 => ((9 : Int32) < x5 → gG d mX2_readRain 0 0 (g_Xz mX2_readRain n 0 0 P) 116 n H2 [some (.ref (a0)), none, some (.int ((0 : Int32)))] [] (0) (0)) ∧ (¬ ((9 : Int32) < x5) → gG d mX2_readRain 0 0 (g_Xz mX2_readRain n 0 0 P) 116 n H2 [some (.ref (a0)), none, some (.int ((1 : Int32)))] [] (0) (0)))))))) : gG d mX2_readRain 0 0 (g_Xz mX2_readRain n 0 0 P) 88 n H [some (.ref (a0)), none, none] [] 0 0 := by
  refine gG_aload_n dX2_readRain_88 rfl rfl ?_
  obtain ⟨fs, q1, e1, e2, h⟩ := h
  refine gG_gr dX2_readRain_89 fl_X2_9 ⟨fs, q1, e1, e2, ?_⟩
  obtain ⟨hrc, d2, P2, hdd, hC, h⟩ := h
  refine gG_cvi (As := []) (st := []) dX2_readRain_92 mV_X2_192 hdd hrc rfl rfl (Nat.le_of_ble_eq_true rfl) (Nat.le_refl _) ⟨Nat.le_refl _, Nat.le_refl _⟩ hC (fun H2 x9 hp => ?_)
  obtain ⟨b3, rfl, hp⟩ := hp
  have h := h H2 b3 hp
  refine gG_if_eq (tgt := 133) dX2_readRain_95 (by decide) (fun c => ?_) (fun c => ?_)
  · have h := h.1 (g_b_f c)
    refine gG_iconst (v := 1) dX2_readRain_133 (by decide) ?_
    exact gG_exit ⟨rfl, rfl, rfl, dX2_readRain_134, true, rfl, h⟩
  · have h := h.2 (g_b_t c)
    refine gG_aload_n dX2_readRain_98 rfl rfl ?_
    obtain ⟨fs, q4, e1, e2, h⟩ := h
    refine gG_gr dX2_readRain_99 fl_X2_9 ⟨fs, q4, e1, e2, ?_⟩
    obtain ⟨fs, x5, e1, e2, h⟩ := h
    refine gG_gi dX2_readRain_102 fl_X2_195 ⟨fs, x5, e1, e2, ?_⟩
    refine gG_bipush (v := 9) dX2_readRain_105 (by decide) ?_
    refine gG_ic_gt (tgt := 114) dX2_readRain_107 (by decide) (fun c => ?_) (fun c => ?_)
    · have h := h.1 c
      refine gG_iconst (v := 0) dX2_readRain_114 (by decide) ?_
      refine gG_istore_n dX2_readRain_115 rfl (Nat.le_of_ble_eq_true rfl) ?_
      refine gG_locals ?_ h
      exact ⟨rfl, ⟨rfl, trivial⟩⟩
    · have h := h.2 c
      refine gG_iconst (v := 1) dX2_readRain_110 (by decide) ?_
      refine gG_goto (tgt := 115) dX2_readRain_111 (by decide) ?_
      refine gG_istore_n dX2_readRain_115 rfl (Nat.le_of_ble_eq_true rfl) ?_
      refine gG_locals ?_ h
      exact ⟨rfl, ⟨rfl, trivial⟩⟩
theorem kX2_readRain_116 {d n : Nat} {H : gHp} {P : gHp → Bool → Prop} {a0 : Nat} {i2 : Int32} (h : g_gr H (a0) 2 0 (fun q1 => (i2 = 0 → (∃ fs, H (q1) = .inr (8, fs)) ∧ g_cz d mX8_fail n H [.ref (q1), .int ((4 : Int32))] (fun H2 b3 => P H2 b3)) ∧ (¬ (i2 = 0) → (∃ fs, H (q1) = .inr (8, fs)) ∧ g_cz d mX8_fail n H [.ref (q1), .int ((5 : Int32))] (fun H4 b5 => P H4 b5)))) : gG d mX2_readRain 0 0 (g_Xz mX2_readRain n 0 0 P) 116 n H [some (.ref (a0)), none, some (.int (i2))] [] 0 0 := by
  refine gG_aload_n dX2_readRain_116 rfl rfl ?_
  obtain ⟨fs, q1, e1, e2, h⟩ := h
  refine gG_gr dX2_readRain_117 fl_X2_9 ⟨fs, q1, e1, e2, ?_⟩
  refine gG_iload_n dX2_readRain_120 rfl rfl ?_
  refine gG_if_eq (tgt := 128) dX2_readRain_121 (by decide) (fun c => ?_) (fun c => ?_)
  · have h := h.1 c
    refine gG_iconst (v := 4) dX2_readRain_128 (by decide) ?_
    obtain ⟨hrc, d2, P2, hdd, hC, h⟩ := h
    refine gG_cvi (As := [.int ((4 : Int32))]) (st := []) dX2_readRain_129 mV_X2_79 hdd hrc rfl rfl (Nat.le_of_ble_eq_true rfl) (Nat.le_refl _) ⟨Nat.le_refl _, Nat.le_refl _⟩ hC (fun H2 x9 hp => ?_)
    obtain ⟨b3, rfl, hp⟩ := hp
    have h := h H2 b3 hp
    exact gG_exit ⟨rfl, rfl, rfl, dX2_readRain_132, b3, rfl, h⟩
  · have h := h.2 c
    refine gG_iconst (v := 5) dX2_readRain_124 (by decide) ?_
    refine gG_goto (tgt := 129) dX2_readRain_125 (by decide) ?_
    obtain ⟨hrc, d2, P2, hdd, hC, h⟩ := h
    refine gG_cvi (As := [.int ((5 : Int32))]) (st := []) dX2_readRain_129 mV_X2_79 hdd hrc rfl rfl (Nat.le_of_ble_eq_true rfl) (Nat.le_refl _) ⟨Nat.le_refl _, Nat.le_refl _⟩ hC (fun H4 x9 hp => ?_)
    obtain ⟨b5, rfl, hp⟩ := hp
    have h := h H4 b5 hp
    exact gG_exit ⟨rfl, rfl, rfl, dX2_readRain_132, b5, rfl, h⟩

theorem kX4_readLevel_0 {d n : Nat} {H : gHp} {P : gHp → Bool → Prop} {a0 : Nat} {a1 : Nat} {i2 : Int32} {i3 : Int32} (h : (i2 ≤ (3 : Int32) → (∃ fs, H (a0) = .inr (4, fs)) ∧ g_cz d mX4_readLevel n H [.ref (a0), .ref (a1), .int ((i2 + (1 : Int32))), .int (i3)] (fun H1 b2 => (∃ fs, H1 (a0) = .inr (4, fs)) ∧ g_ci d mX4_joinHere n H1 [.ref (a0), .int (i2)] (fun H3 x4 => gG d mX4_readLevel 0 0 (g_Xz mX4_readLevel n 0 0 P) 33 n H3 [some (.ref (a0)), some (.ref (a1)), some (.int (i2)), some (.int (i3)), some (.int (g_b b2)), some (.int (x4)), some (.int ((0 : Int32)))] [] (0) (0)))) ∧ (¬ (i2 ≤ (3 : Int32)) → (∃ fs, H (a0) = .inr (4, fs)) ∧ g_cz d mX4_readPart n H [.ref (a0), .ref (a1), .int (i3)] (fun H5 b6 => P H5 b6))) : gG d mX4_readLevel 0 0 (g_Xz mX4_readLevel n 0 0 P) 0 n H [some (.ref (a0)), some (.ref (a1)), some (.int (i2)), some (.int (i3)), none, none, none] [] 0 0 := by
  refine gG_iload_n dX4_readLevel_0 rfl rfl ?_
  refine gG_iconst (v := 3) dX4_readLevel_1 (by decide) ?_
  refine gG_ic_le (tgt := 12) dX4_readLevel_2 (by decide) (fun c => ?_) (fun c => ?_)
  · have h := h.1 c
    refine gG_aload_n dX4_readLevel_12 rfl rfl ?_
    refine gG_aload_n dX4_readLevel_13 rfl rfl ?_
    refine gG_iload_n dX4_readLevel_14 rfl rfl ?_
    refine gG_iconst (v := 1) dX4_readLevel_15 (by decide) ?_
    refine gG_iadd dX4_readLevel_16 ?_
    refine gG_iload_n dX4_readLevel_17 rfl rfl ?_
    obtain ⟨hrc, d2, P2, hdd, hC, h⟩ := h
    refine gG_cvi (As := [.ref (a1), .int ((i2 + (1 : Int32))), .int (i3)]) (st := []) dX4_readLevel_18 mV_X4_19 hdd hrc rfl rfl (Nat.le_of_ble_eq_true rfl) (Nat.le_refl _) ⟨Nat.le_refl _, Nat.le_refl _⟩ hC (fun H1 x9 hp => ?_)
    obtain ⟨b2, rfl, hp⟩ := hp
    have h := h H1 b2 hp
    refine gG_istore dX4_readLevel_21 (Nat.le_of_ble_eq_true rfl) ?_
    refine gG_aload_n dX4_readLevel_23 rfl rfl ?_
    refine gG_iload_n dX4_readLevel_24 rfl rfl ?_
    obtain ⟨hrc, d2, P2, hdd, hC, h⟩ := h
    refine gG_cvi (As := [.int (i2)]) (st := []) dX4_readLevel_25 mV_X4_23 hdd hrc rfl rfl (Nat.le_of_ble_eq_true rfl) (Nat.le_refl _) ⟨Nat.le_refl _, Nat.le_refl _⟩ hC (fun H3 x4 hp => ?_)
    have h := h H3 x4 hp
    refine gG_istore dX4_readLevel_28 (Nat.le_of_ble_eq_true rfl) ?_
    refine gG_iconst (v := 0) dX4_readLevel_30 (by decide) ?_
    refine gG_istore dX4_readLevel_31 (Nat.le_of_ble_eq_true rfl) ?_
    refine gG_locals ?_ h
    exact ⟨rfl, ⟨rfl, ⟨rfl, ⟨rfl, ⟨rfl, ⟨rfl, ⟨rfl, trivial⟩⟩⟩⟩⟩⟩⟩
  · have h := h.2 c
    refine gG_aload_n dX4_readLevel_5 rfl rfl ?_
    refine gG_aload_n dX4_readLevel_6 rfl rfl ?_
    refine gG_iload_n dX4_readLevel_7 rfl rfl ?_
    obtain ⟨hrc, d2, P2, hdd, hC, h⟩ := h
    refine gG_cvi (As := [.ref (a1), .int (i3)]) (st := []) dX4_readLevel_8 mV_X4_15 hdd hrc rfl rfl (Nat.le_of_ble_eq_true rfl) (Nat.le_refl _) ⟨Nat.le_refl _, Nat.le_refl _⟩ hC (fun H5 x9 hp => ?_)
    obtain ⟨b6, rfl, hp⟩ := hp
    have h := h H5 b6 hp
    exact gG_exit ⟨rfl, rfl, rfl, dX4_readLevel_11, b6, rfl, h⟩
theorem kX4_readLevel_33 {d n : Nat} {H : gHp} {P : gHp → Bool → Prop} {a0 : Nat} {a1 : Nat} {i2 : Int32} {i3 : Int32} {i4 : Int32} {i5 : Int32} {i6 : Int32} (h : ((1000 : Int32) ≤ i6 → ∃ b, i4 = g_b b ∧ P H b) ∧ (¬ ((1000 : Int32) ≤ i6) → (i4 = 0 → ∃ b, i4 = g_b b ∧ P H b) ∧ (¬ (i4 = 0) → (i5 = 0 → ∃ b, i4 = g_b b ∧ P H b) ∧ (¬ (i5 = 0) → g_gr H (a0) 4 0 (fun q1 => (∃ fs, H (q1) = .inr (8, fs)) ∧ g_cvd d mX8_advance n H [.ref (q1)] (fun H2 => (∃ fs, H2 (a0) = .inr (4, fs)) ∧ g_cz d mX4_readLevel n H2 [.ref (a0), .ref (a1), .int ((i2 + (1 : Int32))), .int (i3)] (fun H3 b4 => (∃ fs, H3 (a1) = .inr (3, fs)) ∧ g_cvd d mX3_add n H3 [.ref (a1), .int (i5)] (fun H5 => (¬ (i2 = (1 : Int32)) → (∃ fs, H5 (a0) = .inr (4, fs)) ∧ g_ci d mX4_joinHere n H5 [.ref (a0), .int (i2)] (fun H6 x7 => gG d mX4_readLevel 0 0 (g_Xz mX4_readLevel n 0 0 P) 33 n H6 [some (.ref (a0)), some (.ref (a1)), some (.int (i2)), some (.int (i3)), some (.int (g_b b4)), some (.int (x7)), some (.int ((i6 + 1)))] [] (0) (0))) ∧ (i2 = (1 : Int32) → gG d mX4_readLevel 0 0 (g_Xz mX4_readLevel n 0 0 P) 33 n H5 [some (.ref (a0)), some (.ref (a1)), some (.int (i2)), some (.int (i3)), some (.int (g_b b4)), some (.int ((0 : Int32))), some (.int ((i6 + 1)))] [] (0) (0)))))))))) : gG d mX4_readLevel 0 0 (g_Xz mX4_readLevel n 0 0 P) 33 n H [some (.ref (a0)), some (.ref (a1)), some (.int (i2)), some (.int (i3)), some (.int (i4)), some (.int (i5)), some (.int (i6))] [] 0 0 := by
  refine gG_iload dX4_readLevel_33 rfl ?_
  refine gG_sipush (v := 1000) dX4_readLevel_35 (by decide) ?_
  refine gG_ic_ge (tgt := 97) dX4_readLevel_38 (by decide) (fun c => ?_) (fun c => ?_)
  · have h := h.1 c
    refine gG_iload dX4_readLevel_97 rfl ?_
    obtain ⟨b, hb, h⟩ := h
    exact gG_exit ⟨rfl, rfl, rfl, dX4_readLevel_99, b, by rw [hb], h⟩
  · have h := h.2 c
    refine gG_iload dX4_readLevel_41 rfl ?_
    refine gG_if_eq (tgt := 97) dX4_readLevel_43 (by decide) (fun c => ?_) (fun c => ?_)
    · have h := h.1 c
      refine gG_iload dX4_readLevel_97 rfl ?_
      obtain ⟨b, hb, h⟩ := h
      exact gG_exit ⟨rfl, rfl, rfl, dX4_readLevel_99, b, by rw [hb], h⟩
    · have h := h.2 c
      refine gG_iload dX4_readLevel_46 rfl ?_
      refine gG_if_eq (tgt := 97) dX4_readLevel_48 (by decide) (fun c => ?_) (fun c => ?_)
      · have h := h.1 c
        refine gG_iload dX4_readLevel_97 rfl ?_
        obtain ⟨b, hb, h⟩ := h
        exact gG_exit ⟨rfl, rfl, rfl, dX4_readLevel_99, b, by rw [hb], h⟩
      · have h := h.2 c
        refine gG_aload_n dX4_readLevel_51 rfl rfl ?_
        obtain ⟨fs, q1, e1, e2, h⟩ := h
        refine gG_gr dX4_readLevel_52 fl_X4_9 ⟨fs, q1, e1, e2, ?_⟩
        obtain ⟨hrc, d2, P2, hdd, hC, h⟩ := h
        refine gG_cvv (As := []) (st := []) dX4_readLevel_55 mV_X4_27 hdd hrc rfl rfl (Nat.le_of_ble_eq_true rfl) (Nat.le_refl _) ⟨Nat.le_refl _, Nat.le_refl _⟩ hC (fun H2 hp => ?_)
        have h := h H2 hp
        refine gG_aload_n dX4_readLevel_58 rfl rfl ?_
        refine gG_aload_n dX4_readLevel_59 rfl rfl ?_
        refine gG_iload_n dX4_readLevel_60 rfl rfl ?_
        refine gG_iconst (v := 1) dX4_readLevel_61 (by decide) ?_
        refine gG_iadd dX4_readLevel_62 ?_
        refine gG_iload_n dX4_readLevel_63 rfl rfl ?_
        obtain ⟨hrc, d2, P2, hdd, hC, h⟩ := h
        refine gG_cvi (As := [.ref (a1), .int ((i2 + (1 : Int32))), .int (i3)]) (st := []) dX4_readLevel_64 mV_X4_19 hdd hrc rfl rfl (Nat.le_of_ble_eq_true rfl) (Nat.le_refl _) ⟨Nat.le_refl _, Nat.le_refl _⟩ hC (fun H3 x9 hp => ?_)
        obtain ⟨b4, rfl, hp⟩ := hp
        have h := h H3 b4 hp
        refine gG_istore dX4_readLevel_67 (Nat.le_of_ble_eq_true rfl) ?_
        refine gG_aload_n dX4_readLevel_69 rfl rfl ?_
        refine gG_iload dX4_readLevel_70 rfl ?_
        obtain ⟨hrc, d2, P2, hdd, hC, h⟩ := h
        refine gG_cvv (As := [.int (i5)]) (st := []) dX4_readLevel_72 mV_X4_32 hdd hrc rfl rfl (Nat.le_of_ble_eq_true rfl) (Nat.le_refl _) ⟨Nat.le_refl _, Nat.le_refl _⟩ hC (fun H5 hp => ?_)
        have h := h H5 hp
        refine gG_iload_n dX4_readLevel_75 rfl rfl ?_
        refine gG_iconst (v := 1) dX4_readLevel_76 (by decide) ?_
        refine gG_ic_ne (tgt := 84) dX4_readLevel_77 (by decide) (fun c => ?_) (fun c => ?_)
        · have h := h.1 c
          refine gG_aload_n dX4_readLevel_84 rfl rfl ?_
          refine gG_iload_n dX4_readLevel_85 rfl rfl ?_
          obtain ⟨hrc, d2, P2, hdd, hC, h⟩ := h
          refine gG_cvi (As := [.int (i2)]) (st := []) dX4_readLevel_86 mV_X4_23 hdd hrc rfl rfl (Nat.le_of_ble_eq_true rfl) (Nat.le_refl _) ⟨Nat.le_refl _, Nat.le_refl _⟩ hC (fun H6 x7 hp => ?_)
          have h := h H6 x7 hp
          refine gG_istore dX4_readLevel_89 (Nat.le_of_ble_eq_true rfl) ?_
          refine gG_iinc (v := i6 + 1) dX4_readLevel_91 rfl rfl (Nat.le_of_ble_eq_true rfl) ?_
          refine gG_goto (tgt := 33) dX4_readLevel_94 (by decide) ?_
          refine gG_locals ?_ h
          exact ⟨rfl, ⟨rfl, ⟨rfl, ⟨rfl, ⟨rfl, ⟨rfl, ⟨rfl, trivial⟩⟩⟩⟩⟩⟩⟩
        · have h := h.2 c
          refine gG_iconst (v := 0) dX4_readLevel_80 (by decide) ?_
          refine gG_goto (tgt := 89) dX4_readLevel_81 (by decide) ?_
          refine gG_istore dX4_readLevel_89 (Nat.le_of_ble_eq_true rfl) ?_
          refine gG_iinc (v := i6 + 1) dX4_readLevel_91 rfl rfl (Nat.le_of_ble_eq_true rfl) ?_
          refine gG_goto (tgt := 33) dX4_readLevel_94 (by decide) ?_
          refine gG_locals ?_ h
          exact ⟨rfl, ⟨rfl, ⟨rfl, ⟨rfl, ⟨rfl, ⟨rfl, ⟨rfl, trivial⟩⟩⟩⟩⟩⟩⟩

theorem kX4_readPart_0 {d n : Nat} {H : gHp} {P : gHp → Bool → Prop} {a0 : Nat} {a1 : Nat} {i2 : Int32} (h : (∃ fs, H (a0) = .inr (4, fs)) ∧ g_ci d mX4_factHere n H [.ref (a0)] (fun H1 x2 => g_gr H1 (a0) 4 0 (fun q3 => (∃ fs, H1 (q3) = .inr (8, fs)) ∧ g_cz d mX8_isWord n H1 [.ref (q3), .float (38)] (fun H4 b5 => g_gr H4 (a0) 4 0 (fun q6 => (∃ fs, H4 (q6) = .inr (8, fs)) ∧ g_cz d mX8_isSign n H4 [.ref (q6), .int ((40 : Int32))] (fun H7 b8 => (¬ (x2 = 0) → gG d mX4_readPart 0 0 (g_Xz mX4_readPart n 0 0 P) 60 n H7 [some (.ref (a0)), some (.ref (a1)), some (.int (i2)), some (.int (x2)), some (.int (g_b b5)), some (.int (g_b b8)), none] [] (0) (0)) ∧ (x2 = 0 → (b5 = true → gG d mX4_readPart 0 0 (g_Xz mX4_readPart n 0 0 P) 60 n H7 [some (.ref (a0)), some (.ref (a1)), some (.int (i2)), some (.int (x2)), some (.int (g_b b5)), some (.int (g_b b8)), none] [] (0) (0)) ∧ (b5 = false → (b8 = true → gG d mX4_readPart 0 0 (g_Xz mX4_readPart n 0 0 P) 60 n H7 [some (.ref (a0)), some (.ref (a1)), some (.int (i2)), some (.int (x2)), some (.int (g_b b5)), some (.int (g_b b8)), none] [] (0) (0)) ∧ (b8 = false → g_gr H7 (a0) 4 0 (fun q9 => (∃ fs, H7 (q9) = .inr (8, fs)) ∧ g_cz d mX8_isNumber n H7 [.ref (q9)] (fun H10 b11 => (b11 = true → gG d mX4_readPart 0 0 (g_Xz mX4_readPart n 0 0 P) 60 n H10 [some (.ref (a0)), some (.ref (a1)), some (.int (i2)), some (.int (x2)), some (.int (g_b b5)), some (.int (g_b b8)), none] [] (0) (0)) ∧ (b11 = false → g_gr H10 (a0) 4 0 (fun q12 => (∃ fs, H10 (q12) = .inr (8, fs)) ∧ g_cz d mX8_fail n H10 [.ref (q12), .int ((1 : Int32))] (fun H13 b14 => P H13 b14)))))))))))))) : gG d mX4_readPart 0 0 (g_Xz mX4_readPart n 0 0 P) 0 n H [some (.ref (a0)), some (.ref (a1)), some (.int (i2)), none, none, none, none] [] 0 0 := by
  refine gG_aload_n dX4_readPart_0 rfl rfl ?_
  obtain ⟨hrc, d2, P2, hdd, hC, h⟩ := h
  refine gG_cvi (As := []) (st := []) dX4_readPart_1 mV_X4_38 hdd hrc rfl rfl (Nat.le_of_ble_eq_true rfl) (Nat.le_refl _) ⟨Nat.le_refl _, Nat.le_refl _⟩ hC (fun H1 x2 hp => ?_)
  have h := h H1 x2 hp
  refine gG_istore_n dX4_readPart_4 rfl (Nat.le_of_ble_eq_true rfl) ?_
  refine gG_aload_n dX4_readPart_5 rfl rfl ?_
  obtain ⟨fs, q3, e1, e2, h⟩ := h
  refine gG_gr dX4_readPart_6 fl_X4_9 ⟨fs, q3, e1, e2, ?_⟩
  refine gG_ldcS (t := 38) dX4_readPart_9 rfl ?_
  obtain ⟨hrc, d2, P2, hdd, hC, h⟩ := h
  refine gG_cvi (As := [.float (38)]) (st := []) dX4_readPart_11 mV_X4_44 hdd hrc rfl rfl (Nat.le_of_ble_eq_true rfl) (Nat.le_refl _) ⟨Nat.le_refl _, Nat.le_refl _⟩ hC (fun H4 x9 hp => ?_)
  obtain ⟨b5, rfl, hp⟩ := hp
  have h := h H4 b5 hp
  refine gG_istore dX4_readPart_14 (Nat.le_of_ble_eq_true rfl) ?_
  refine gG_aload_n dX4_readPart_16 rfl rfl ?_
  obtain ⟨fs, q6, e1, e2, h⟩ := h
  refine gG_gr dX4_readPart_17 fl_X4_9 ⟨fs, q6, e1, e2, ?_⟩
  refine gG_bipush (v := 40) dX4_readPart_20 (by decide) ?_
  obtain ⟨hrc, d2, P2, hdd, hC, h⟩ := h
  refine gG_cvi (As := [.int ((40 : Int32))]) (st := []) dX4_readPart_22 mV_X4_48 hdd hrc rfl rfl (Nat.le_of_ble_eq_true rfl) (Nat.le_refl _) ⟨Nat.le_refl _, Nat.le_refl _⟩ hC (fun H7 x9 hp => ?_)
  obtain ⟨b8, rfl, hp⟩ := hp
  have h := h H7 b8 hp
  refine gG_istore dX4_readPart_25 (Nat.le_of_ble_eq_true rfl) ?_
  refine gG_iload_n dX4_readPart_27 rfl rfl ?_
  refine gG_if_ne (tgt := 60) dX4_readPart_28 (by decide) (fun c => ?_) (fun c => ?_)
  · have h := h.1 c
    refine gG_locals ?_ h
    exact ⟨rfl, ⟨rfl, ⟨rfl, ⟨rfl, ⟨rfl, ⟨rfl, trivial⟩⟩⟩⟩⟩⟩
  · have h := h.2 c
    refine gG_iload dX4_readPart_31 rfl ?_
    refine gG_if_ne (tgt := 60) dX4_readPart_33 (by decide) (fun c => ?_) (fun c => ?_)
    · have h := h.1 (g_b_t c)
      refine gG_locals ?_ h
      exact ⟨rfl, ⟨rfl, ⟨rfl, ⟨rfl, ⟨rfl, ⟨rfl, trivial⟩⟩⟩⟩⟩⟩
    · have h := h.2 (g_b_f c)
      refine gG_iload dX4_readPart_36 rfl ?_
      refine gG_if_ne (tgt := 60) dX4_readPart_38 (by decide) (fun c => ?_) (fun c => ?_)
      · have h := h.1 (g_b_t c)
        refine gG_locals ?_ h
        exact ⟨rfl, ⟨rfl, ⟨rfl, ⟨rfl, ⟨rfl, ⟨rfl, trivial⟩⟩⟩⟩⟩⟩
      · have h := h.2 (g_b_f c)
        refine gG_aload_n dX4_readPart_41 rfl rfl ?_
        obtain ⟨fs, q9, e1, e2, h⟩ := h
        refine gG_gr dX4_readPart_42 fl_X4_9 ⟨fs, q9, e1, e2, ?_⟩
        obtain ⟨hrc, d2, P2, hdd, hC, h⟩ := h
        refine gG_cvi (As := []) (st := []) dX4_readPart_45 mV_X4_52 hdd hrc rfl rfl (Nat.le_of_ble_eq_true rfl) (Nat.le_refl _) ⟨Nat.le_refl _, Nat.le_refl _⟩ hC (fun H10 x9 hp => ?_)
        obtain ⟨b11, rfl, hp⟩ := hp
        have h := h H10 b11 hp
        refine gG_if_ne (tgt := 60) dX4_readPart_48 (by decide) (fun c => ?_) (fun c => ?_)
        · have h := h.1 (g_b_t c)
          refine gG_locals ?_ h
          exact ⟨rfl, ⟨rfl, ⟨rfl, ⟨rfl, ⟨rfl, ⟨rfl, trivial⟩⟩⟩⟩⟩⟩
        · have h := h.2 (g_b_f c)
          refine gG_aload_n dX4_readPart_51 rfl rfl ?_
          obtain ⟨fs, q12, e1, e2, h⟩ := h
          refine gG_gr dX4_readPart_52 fl_X4_9 ⟨fs, q12, e1, e2, ?_⟩
          refine gG_iconst (v := 1) dX4_readPart_55 (by decide) ?_
          obtain ⟨hrc, d2, P2, hdd, hC, h⟩ := h
          refine gG_cvi (As := [.int ((1 : Int32))]) (st := []) dX4_readPart_56 mV_X4_56 hdd hrc rfl rfl (Nat.le_of_ble_eq_true rfl) (Nat.le_refl _) ⟨Nat.le_refl _, Nat.le_refl _⟩ hC (fun H13 x9 hp => ?_)
          obtain ⟨b14, rfl, hp⟩ := hp
          have h := h H13 b14 hp
          exact gG_exit ⟨rfl, rfl, rfl, dX4_readPart_59, b14, rfl, h⟩
theorem kX4_readPart_60 {d n : Nat} {H : gHp} {P : gHp → Bool → Prop} {a0 : Nat} {a1 : Nat} {i2 : Int32} {i3 : Int32} {i4 : Int32} {i5 : Int32} (h : (i2 < (5 : Int32) → (¬ (i4 = 0) → gG d mX4_readPart 0 0 (g_Xz mX4_readPart n 0 0 P) 103 n H [some (.ref (a0)), some (.ref (a1)), some (.int (i2)), none, some (.int (i4)), some (.int (i5)), none] [] (0) (0)) ∧ (i4 = 0 → (¬ (i5 = 0) → gG d mX4_readPart 0 0 (g_Xz mX4_readPart n 0 0 P) 103 n H [some (.ref (a0)), some (.ref (a1)), some (.int (i2)), none, some (.int (i4)), some (.int (i5)), none] [] (0) (0)) ∧ (i5 = 0 → (¬ (i3 = 0) → (∃ fs, H (a1) = .inr (3, fs)) ∧ g_cvd d mX3_add n H [.ref (a1), .int (i3)] (fun H1 => gG d mX4_readPart 0 0 (g_Xz mX4_readPart n 0 0 P) 103 n H1 [some (.ref (a0)), some (.ref (a1)), some (.int (i2)), none, some (.int (i4)), some (.int (i5)), none] [] (0) (0))) ∧ (i3 = 0 → g_gr H (a0) 4 0 (fun q2 => g_gi H (q2) 8 6 (fun x3 => (∃ fs, H (a1) = .inr (3, fs)) ∧ g_cvd d mX3_add n H [.ref (a1), .int (x3)] (fun H4 => gG d mX4_readPart 0 0 (g_Xz mX4_readPart n 0 0 P) 103 n H4 [some (.ref (a0)), some (.ref (a1)), some (.int (i2)), none, some (.int (i4)), some (.int (i5)), none] [] (0) (0)))))))) ∧ (¬ (i2 < (5 : Int32)) → g_gr H (a0) 4 0 (fun q5 => (∃ fs, H (q5) = .inr (8, fs)) ∧ g_cz d mX8_fail n H [.ref (q5), .int ((5 : Int32))] (fun H6 b7 => P H6 b7)))) : gG d mX4_readPart 0 0 (g_Xz mX4_readPart n 0 0 P) 60 n H [some (.ref (a0)), some (.ref (a1)), some (.int (i2)), some (.int (i3)), some (.int (i4)), some (.int (i5)), none] [] 0 0 := by
  refine gG_iload_n dX4_readPart_60 rfl rfl ?_
  refine gG_iconst (v := 5) dX4_readPart_61 (by decide) ?_
  refine gG_ic_lt (tgt := 74) dX4_readPart_62 (by decide) (fun c => ?_) (fun c => ?_)
  · have h := h.1 c
    refine gG_iload dX4_readPart_74 rfl ?_
    refine gG_if_ne (tgt := 103) dX4_readPart_76 (by decide) (fun c => ?_) (fun c => ?_)
    · have h := h.1 c
      refine gG_locals ?_ h
      exact ⟨rfl, ⟨rfl, ⟨rfl, ⟨rfl, ⟨rfl, trivial⟩⟩⟩⟩⟩
    · have h := h.2 c
      refine gG_iload dX4_readPart_79 rfl ?_
      refine gG_if_ne (tgt := 103) dX4_readPart_81 (by decide) (fun c => ?_) (fun c => ?_)
      · have h := h.1 c
        refine gG_locals ?_ h
        exact ⟨rfl, ⟨rfl, ⟨rfl, ⟨rfl, ⟨rfl, trivial⟩⟩⟩⟩⟩
      · have h := h.2 c
        refine gG_aload_n dX4_readPart_84 rfl rfl ?_
        refine gG_iload_n dX4_readPart_85 rfl rfl ?_
        refine gG_if_ne (tgt := 99) dX4_readPart_86 (by decide) (fun c => ?_) (fun c => ?_)
        · have h := h.1 c
          refine gG_iload_n dX4_readPart_99 rfl rfl ?_
          obtain ⟨hrc, d2, P2, hdd, hC, h⟩ := h
          refine gG_cvv (As := [.int (i3)]) (st := []) dX4_readPart_100 mV_X4_32 hdd hrc rfl rfl (Nat.le_of_ble_eq_true rfl) (Nat.le_refl _) ⟨Nat.le_refl _, Nat.le_refl _⟩ hC (fun H1 hp => ?_)
          have h := h H1 hp
          refine gG_locals ?_ h
          exact ⟨rfl, ⟨rfl, ⟨rfl, ⟨rfl, ⟨rfl, trivial⟩⟩⟩⟩⟩
        · have h := h.2 c
          refine gG_aload_n dX4_readPart_89 rfl rfl ?_
          obtain ⟨fs, q2, e1, e2, h⟩ := h
          refine gG_gr dX4_readPart_90 fl_X4_9 ⟨fs, q2, e1, e2, ?_⟩
          obtain ⟨fs, x3, e1, e2, h⟩ := h
          refine gG_gi dX4_readPart_93 fl_X4_60 ⟨fs, x3, e1, e2, ?_⟩
          refine gG_goto (tgt := 100) dX4_readPart_96 (by decide) ?_
          obtain ⟨hrc, d2, P2, hdd, hC, h⟩ := h
          refine gG_cvv (As := [.int (x3)]) (st := []) dX4_readPart_100 mV_X4_32 hdd hrc rfl rfl (Nat.le_of_ble_eq_true rfl) (Nat.le_refl _) ⟨Nat.le_refl _, Nat.le_refl _⟩ hC (fun H4 hp => ?_)
          have h := h H4 hp
          refine gG_locals ?_ h
          exact ⟨rfl, ⟨rfl, ⟨rfl, ⟨rfl, ⟨rfl, trivial⟩⟩⟩⟩⟩
  · have h := h.2 c
    refine gG_aload_n dX4_readPart_65 rfl rfl ?_
    obtain ⟨fs, q5, e1, e2, h⟩ := h
    refine gG_gr dX4_readPart_66 fl_X4_9 ⟨fs, q5, e1, e2, ?_⟩
    refine gG_iconst (v := 5) dX4_readPart_69 (by decide) ?_
    obtain ⟨hrc, d2, P2, hdd, hC, h⟩ := h
    refine gG_cvi (As := [.int ((5 : Int32))]) (st := []) dX4_readPart_70 mV_X4_56 hdd hrc rfl rfl (Nat.le_of_ble_eq_true rfl) (Nat.le_refl _) ⟨Nat.le_refl _, Nat.le_refl _⟩ hC (fun H6 x9 hp => ?_)
    obtain ⟨b7, rfl, hp⟩ := hp
    have h := h H6 b7 hp
    exact gG_exit ⟨rfl, rfl, rfl, dX4_readPart_73, b7, rfl, h⟩
theorem kX4_readPart_103 {d n : Nat} {H : gHp} {P : gHp → Bool → Prop} {a0 : Nat} {a1 : Nat} {i2 : Int32} {i4 : Int32} {i5 : Int32} (h : g_gr H (a0) 4 0 (fun q1 => (∃ fs, H (q1) = .inr (8, fs)) ∧ g_cvd d mX8_advance n H [.ref (q1)] (fun H2 => (i4 = 0 → (i5 = 0 → P H2 true) ∧ (¬ (i5 = 0) → (∃ fs, H2 (a0) = .inr (4, fs)) ∧ g_cz d mX4_readLevel n H2 [.ref (a0), .ref (a1), .int ((0 : Int32)), .int ((i2 + (1 : Int32)))] (fun H3 b4 => (b4 = false → P H3 false) ∧ (b4 = true → g_gr H3 (a0) 4 0 (fun q5 => (∃ fs, H3 (q5) = .inr (8, fs)) ∧ g_cz d mX8_takeSign n H3 [.ref (q5), .int ((41 : Int32))] (fun H6 b7 => (b7 = false → P H6 false) ∧ (b7 = true → P H6 true))))))) ∧ (¬ (i4 = 0) → (∃ fs, H2 (a0) = .inr (4, fs)) ∧ g_cz d mX4_readPart n H2 [.ref (a0), .ref (a1), .int ((i2 + (1 : Int32)))] (fun H8 b9 => (∃ fs, H8 (a1) = .inr (3, fs)) ∧ g_cvd d mX3_add n H8 [.ref (a1), .int ((-5 : Int32))] (fun H10 => P H10 b9)))))) : gG d mX4_readPart 0 0 (g_Xz mX4_readPart n 0 0 P) 103 n H [some (.ref (a0)), some (.ref (a1)), some (.int (i2)), none, some (.int (i4)), some (.int (i5)), none] [] 0 0 := by
  refine gG_aload_n dX4_readPart_103 rfl rfl ?_
  obtain ⟨fs, q1, e1, e2, h⟩ := h
  refine gG_gr dX4_readPart_104 fl_X4_9 ⟨fs, q1, e1, e2, ?_⟩
  obtain ⟨hrc, d2, P2, hdd, hC, h⟩ := h
  refine gG_cvv (As := []) (st := []) dX4_readPart_107 mV_X4_27 hdd hrc rfl rfl (Nat.le_of_ble_eq_true rfl) (Nat.le_refl _) ⟨Nat.le_refl _, Nat.le_refl _⟩ hC (fun H2 hp => ?_)
  have h := h H2 hp
  refine gG_iload dX4_readPart_110 rfl ?_
  refine gG_if_eq (tgt := 134) dX4_readPart_112 (by decide) (fun c => ?_) (fun c => ?_)
  · have h := h.1 c
    refine gG_iload dX4_readPart_134 rfl ?_
    refine gG_if_eq (tgt := 163) dX4_readPart_136 (by decide) (fun c => ?_) (fun c => ?_)
    · have h := h.1 c
      refine gG_iconst (v := 1) dX4_readPart_163 (by decide) ?_
      refine gG_goto (tgt := 168) dX4_readPart_164 (by decide) ?_
      exact gG_exit ⟨rfl, rfl, rfl, dX4_readPart_168, true, rfl, h⟩
    · have h := h.2 c
      refine gG_aload_n dX4_readPart_139 rfl rfl ?_
      refine gG_aload_n dX4_readPart_140 rfl rfl ?_
      refine gG_iconst (v := 0) dX4_readPart_141 (by decide) ?_
      refine gG_iload_n dX4_readPart_142 rfl rfl ?_
      refine gG_iconst (v := 1) dX4_readPart_143 (by decide) ?_
      refine gG_iadd dX4_readPart_144 ?_
      obtain ⟨hrc, d2, P2, hdd, hC, h⟩ := h
      refine gG_cvi (As := [.ref (a1), .int ((0 : Int32)), .int ((i2 + (1 : Int32)))]) (st := []) dX4_readPart_145 mV_X4_19 hdd hrc rfl rfl (Nat.le_of_ble_eq_true rfl) (Nat.le_refl _) ⟨Nat.le_refl _, Nat.le_refl _⟩ hC (fun H3 x9 hp => ?_)
      obtain ⟨b4, rfl, hp⟩ := hp
      have h := h H3 b4 hp
      refine gG_if_eq (tgt := 167) dX4_readPart_148 (by decide) (fun c => ?_) (fun c => ?_)
      · have h := h.1 (g_b_f c)
        refine gG_iconst (v := 0) dX4_readPart_167 (by decide) ?_
        exact gG_exit ⟨rfl, rfl, rfl, dX4_readPart_168, false, rfl, h⟩
      · have h := h.2 (g_b_t c)
        refine gG_aload_n dX4_readPart_151 rfl rfl ?_
        obtain ⟨fs, q5, e1, e2, h⟩ := h
        refine gG_gr dX4_readPart_152 fl_X4_9 ⟨fs, q5, e1, e2, ?_⟩
        refine gG_bipush (v := 41) dX4_readPart_155 (by decide) ?_
        obtain ⟨hrc, d2, P2, hdd, hC, h⟩ := h
        refine gG_cvi (As := [.int ((41 : Int32))]) (st := []) dX4_readPart_157 mV_X4_64 hdd hrc rfl rfl (Nat.le_of_ble_eq_true rfl) (Nat.le_refl _) ⟨Nat.le_refl _, Nat.le_refl _⟩ hC (fun H6 x9 hp => ?_)
        obtain ⟨b7, rfl, hp⟩ := hp
        have h := h H6 b7 hp
        refine gG_if_eq (tgt := 167) dX4_readPart_160 (by decide) (fun c => ?_) (fun c => ?_)
        · have h := h.1 (g_b_f c)
          refine gG_iconst (v := 0) dX4_readPart_167 (by decide) ?_
          exact gG_exit ⟨rfl, rfl, rfl, dX4_readPart_168, false, rfl, h⟩
        · have h := h.2 (g_b_t c)
          refine gG_iconst (v := 1) dX4_readPart_163 (by decide) ?_
          refine gG_goto (tgt := 168) dX4_readPart_164 (by decide) ?_
          exact gG_exit ⟨rfl, rfl, rfl, dX4_readPart_168, true, rfl, h⟩
  · have h := h.2 c
    refine gG_aload_n dX4_readPart_115 rfl rfl ?_
    refine gG_aload_n dX4_readPart_116 rfl rfl ?_
    refine gG_iload_n dX4_readPart_117 rfl rfl ?_
    refine gG_iconst (v := 1) dX4_readPart_118 (by decide) ?_
    refine gG_iadd dX4_readPart_119 ?_
    obtain ⟨hrc, d2, P2, hdd, hC, h⟩ := h
    refine gG_cvi (As := [.ref (a1), .int ((i2 + (1 : Int32)))]) (st := []) dX4_readPart_120 mV_X4_15 hdd hrc rfl rfl (Nat.le_of_ble_eq_true rfl) (Nat.le_refl _) ⟨Nat.le_refl _, Nat.le_refl _⟩ hC (fun H8 x9 hp => ?_)
    obtain ⟨b9, rfl, hp⟩ := hp
    have h := h H8 b9 hp
    refine gG_istore dX4_readPart_123 (Nat.le_of_ble_eq_true rfl) ?_
    refine gG_aload_n dX4_readPart_125 rfl rfl ?_
    refine gG_bipush (v := (-5)) dX4_readPart_126 (by decide) ?_
    obtain ⟨hrc, d2, P2, hdd, hC, h⟩ := h
    refine gG_cvv (As := [.int ((-5 : Int32))]) (st := []) dX4_readPart_128 mV_X4_32 hdd hrc rfl rfl (Nat.le_of_ble_eq_true rfl) (Nat.le_refl _) ⟨Nat.le_refl _, Nat.le_refl _⟩ hC (fun H10 hp => ?_)
    have h := h H10 hp
    refine gG_iload dX4_readPart_131 rfl ?_
    exact gG_exit ⟨rfl, rfl, rfl, dX4_readPart_133, b9, rfl, h⟩

theorem kX4_factHere_0 {d n : Nat} {H : gHp} {P : gHp → Int32 → Prop} {a0 : Nat} (h : g_gr H (a0) 4 0 (fun q1 => (∃ fs, H (q1) = .inr (8, fs)) ∧ g_cz d mX8_isWord n H [.ref (q1), .float (34)] (fun H2 b3 => (b3 = false → g_gr H2 (a0) 4 0 (fun q4 => (∃ fs, H2 (q4) = .inr (8, fs)) ∧ g_cz d mX8_isWord n H2 [.ref (q4), .float (35)] (fun H5 b6 => (b6 = false → g_gr H5 (a0) 4 0 (fun q7 => (∃ fs, H5 (q7) = .inr (8, fs)) ∧ g_cz d mX8_isWord n H5 [.ref (q7), .float (36)] (fun H8 b9 => (b9 = false → g_gr H8 (a0) 4 0 (fun q10 => (∃ fs, H8 (q10) = .inr (8, fs)) ∧ g_cz d mX8_isWord n H8 [.ref (q10), .float (37)] (fun H11 b12 => (b12 = false → P H11 ((0 : Int32))) ∧ (b12 = true → P H11 ((-4 : Int32)))))) ∧ (b9 = true → P H8 ((-3 : Int32)))))) ∧ (b6 = true → P H5 ((-2 : Int32)))))) ∧ (b3 = true → P H2 ((-1 : Int32)))))) : gG d mX4_factHere 0 0 (g_Xj mX4_factHere n 0 0 P) 0 n H [some (.ref (a0))] [] 0 0 := by
  refine gG_aload_n dX4_factHere_0 rfl rfl ?_
  obtain ⟨fs, q1, e1, e2, h⟩ := h
  refine gG_gr dX4_factHere_1 fl_X4_9 ⟨fs, q1, e1, e2, ?_⟩
  refine gG_ldcS (t := 34) dX4_factHere_4 rfl ?_
  obtain ⟨hrc, d2, P2, hdd, hC, h⟩ := h
  refine gG_cvi (As := [.float (34)]) (st := []) dX4_factHere_6 mV_X4_44 hdd hrc rfl rfl (Nat.le_of_ble_eq_true rfl) (Nat.le_refl _) ⟨Nat.le_refl _, Nat.le_refl _⟩ hC (fun H2 x9 hp => ?_)
  obtain ⟨b3, rfl, hp⟩ := hp
  have h := h H2 b3 hp
  refine gG_if_eq (tgt := 14) dX4_factHere_9 (by decide) (fun c => ?_) (fun c => ?_)
  · have h := h.1 (g_b_f c)
    refine gG_aload_n dX4_factHere_14 rfl rfl ?_
    obtain ⟨fs, q4, e1, e2, h⟩ := h
    refine gG_gr dX4_factHere_15 fl_X4_9 ⟨fs, q4, e1, e2, ?_⟩
    refine gG_ldcS (t := 35) dX4_factHere_18 rfl ?_
    obtain ⟨hrc, d2, P2, hdd, hC, h⟩ := h
    refine gG_cvi (As := [.float (35)]) (st := []) dX4_factHere_20 mV_X4_44 hdd hrc rfl rfl (Nat.le_of_ble_eq_true rfl) (Nat.le_refl _) ⟨Nat.le_refl _, Nat.le_refl _⟩ hC (fun H5 x9 hp => ?_)
    obtain ⟨b6, rfl, hp⟩ := hp
    have h := h H5 b6 hp
    refine gG_if_eq (tgt := 29) dX4_factHere_23 (by decide) (fun c => ?_) (fun c => ?_)
    · have h := h.1 (g_b_f c)
      refine gG_aload_n dX4_factHere_29 rfl rfl ?_
      obtain ⟨fs, q7, e1, e2, h⟩ := h
      refine gG_gr dX4_factHere_30 fl_X4_9 ⟨fs, q7, e1, e2, ?_⟩
      refine gG_ldcS (t := 36) dX4_factHere_33 rfl ?_
      obtain ⟨hrc, d2, P2, hdd, hC, h⟩ := h
      refine gG_cvi (As := [.float (36)]) (st := []) dX4_factHere_35 mV_X4_44 hdd hrc rfl rfl (Nat.le_of_ble_eq_true rfl) (Nat.le_refl _) ⟨Nat.le_refl _, Nat.le_refl _⟩ hC (fun H8 x9 hp => ?_)
      obtain ⟨b9, rfl, hp⟩ := hp
      have h := h H8 b9 hp
      refine gG_if_eq (tgt := 44) dX4_factHere_38 (by decide) (fun c => ?_) (fun c => ?_)
      · have h := h.1 (g_b_f c)
        refine gG_aload_n dX4_factHere_44 rfl rfl ?_
        obtain ⟨fs, q10, e1, e2, h⟩ := h
        refine gG_gr dX4_factHere_45 fl_X4_9 ⟨fs, q10, e1, e2, ?_⟩
        refine gG_ldcS (t := 37) dX4_factHere_48 rfl ?_
        obtain ⟨hrc, d2, P2, hdd, hC, h⟩ := h
        refine gG_cvi (As := [.float (37)]) (st := []) dX4_factHere_50 mV_X4_44 hdd hrc rfl rfl (Nat.le_of_ble_eq_true rfl) (Nat.le_refl _) ⟨Nat.le_refl _, Nat.le_refl _⟩ hC (fun H11 x9 hp => ?_)
        obtain ⟨b12, rfl, hp⟩ := hp
        have h := h H11 b12 hp
        refine gG_if_eq (tgt := 61) dX4_factHere_53 (by decide) (fun c => ?_) (fun c => ?_)
        · have h := h.1 (g_b_f c)
          refine gG_iconst (v := 0) dX4_factHere_61 (by decide) ?_
          exact gG_exit ⟨rfl, rfl, rfl, dX4_factHere_62, _, rfl, h⟩
        · have h := h.2 (g_b_t c)
          refine gG_bipush (v := (-4)) dX4_factHere_56 (by decide) ?_
          refine gG_goto (tgt := 62) dX4_factHere_58 (by decide) ?_
          exact gG_exit ⟨rfl, rfl, rfl, dX4_factHere_62, _, rfl, h⟩
      · have h := h.2 (g_b_t c)
        refine gG_bipush (v := (-3)) dX4_factHere_41 (by decide) ?_
        exact gG_exit ⟨rfl, rfl, rfl, dX4_factHere_43, _, rfl, h⟩
    · have h := h.2 (g_b_t c)
      refine gG_bipush (v := (-2)) dX4_factHere_26 (by decide) ?_
      exact gG_exit ⟨rfl, rfl, rfl, dX4_factHere_28, _, rfl, h⟩
  · have h := h.2 (g_b_t c)
    refine gG_iconst (v := (-1)) dX4_factHere_12 (by decide) ?_
    exact gG_exit ⟨rfl, rfl, rfl, dX4_factHere_13, _, rfl, h⟩

theorem kX4_joinHere_0 {d n : Nat} {H : gHp} {P : gHp → Int32 → Prop} {a0 : Nat} {i1 : Int32} (h : ((i1).toInt < 0 ∨ 2 < (i1).toInt → g_gr H (a0) 4 0 (fun q1 => (∃ fs, H (q1) = .inr (8, fs)) ∧ g_cz d mX8_isSign n H [.ref (q1), .int ((42 : Int32))] (fun H2 b3 => (b3 = false → P H2 ((0 : Int32))) ∧ (b3 = true → P H2 ((-12 : Int32)))))) ∧ (i1 = 0 → g_gr H (a0) 4 0 (fun q4 => (∃ fs, H (q4) = .inr (8, fs)) ∧ g_cz d mX8_isWord n H [.ref (q4), .float (39)] (fun H5 b6 => (b6 = false → g_gr H5 (a0) 4 0 (fun q7 => (∃ fs, H5 (q7) = .inr (8, fs)) ∧ g_cz d mX8_isWord n H5 [.ref (q7), .float (40)] (fun H8 b9 => (b9 = false → P H8 ((0 : Int32))) ∧ (b9 = true → P H8 ((-7 : Int32)))))) ∧ (b6 = true → P H5 ((-6 : Int32)))))) ∧ (i1 = 1 → g_gr H (a0) 4 0 (fun q10 => (∃ fs, H (q10) = .inr (8, fs)) ∧ g_cz d mX8_isSign n H [.ref (q10), .int ((60 : Int32))] (fun H11 b12 => (b12 = false → g_gr H11 (a0) 4 0 (fun q13 => (∃ fs, H11 (q13) = .inr (8, fs)) ∧ g_cz d mX8_isSign n H11 [.ref (q13), .int ((61 : Int32))] (fun H14 b15 => (b15 = false → P H14 ((0 : Int32))) ∧ (b15 = true → P H14 ((-9 : Int32)))))) ∧ (b12 = true → P H11 ((-8 : Int32)))))) ∧ (i1 = 2 → g_gr H (a0) 4 0 (fun q16 => (∃ fs, H (q16) = .inr (8, fs)) ∧ g_cz d mX8_isSign n H [.ref (q16), .int ((43 : Int32))] (fun H17 b18 => (b18 = false → g_gr H17 (a0) 4 0 (fun q19 => (∃ fs, H17 (q19) = .inr (8, fs)) ∧ g_cz d mX8_isSign n H17 [.ref (q19), .int ((45 : Int32))] (fun H20 b21 => (b21 = false → P H20 ((0 : Int32))) ∧ (b21 = true → P H20 ((-11 : Int32)))))) ∧ (b18 = true → P H17 ((-10 : Int32))))))) : gG d mX4_joinHere 0 0 (g_Xj mX4_joinHere n 0 0 P) 0 n H [some (.ref (a0)), some (.int (i1))] [] 0 0 := by
  refine gG_iload_n dX4_joinHere_0 rfl rfl ?_
  by_cases hz : (i1).toInt < 0 ∨ 2 < (i1).toInt
  · refine gG_tableOut (tgt := 136) dX4_joinHere_1 hz (by decide) ?_
    have h := h.1 hz
    refine gG_aload_n dX4_joinHere_136 rfl rfl ?_
    obtain ⟨fs, q1, e1, e2, h⟩ := h
    refine gG_gr dX4_joinHere_137 fl_X4_9 ⟨fs, q1, e1, e2, ?_⟩
    refine gG_bipush (v := 42) dX4_joinHere_140 (by decide) ?_
    obtain ⟨hrc, d2, P2, hdd, hC, h⟩ := h
    refine gG_cvi (As := [.int ((42 : Int32))]) (st := []) dX4_joinHere_142 mV_X4_48 hdd hrc rfl rfl (Nat.le_of_ble_eq_true rfl) (Nat.le_refl _) ⟨Nat.le_refl _, Nat.le_refl _⟩ hC (fun H2 x9 hp => ?_)
    obtain ⟨b3, rfl, hp⟩ := hp
    have h := h H2 b3 hp
    refine gG_if_eq (tgt := 153) dX4_joinHere_145 (by decide) (fun c => ?_) (fun c => ?_)
    · have h := h.1 (g_b_f c)
      refine gG_iconst (v := 0) dX4_joinHere_153 (by decide) ?_
      exact gG_exit ⟨rfl, rfl, rfl, dX4_joinHere_154, _, rfl, h⟩
    · have h := h.2 (g_b_t c)
      refine gG_bipush (v := (-12)) dX4_joinHere_148 (by decide) ?_
      refine gG_goto (tgt := 154) dX4_joinHere_150 (by decide) ?_
      exact gG_exit ⟨rfl, rfl, rfl, dX4_joinHere_154, _, rfl, h⟩
  · have h := h.2
    obtain ⟨x9, e9⟩ : ∃ x9 : Int32, x9 = i1 := ⟨_, rfl⟩
    have hz2 : x9 = 0 ∨ x9 = 1 ∨ x9 = 2 := by
      rw [← e9] at hz
      exact g_sw_0_2 hz
    rw [← e9]; rw [← e9] at h
    rcases hz2 with z | z | z <;> rw [z] at h ⊢
    · refine gG_tableIn (tgt := 28) dX4_joinHere_1 (by decide) (by decide) rfl (by decide) ?_
      have h := h.1 rfl
      refine gG_aload_n dX4_joinHere_28 rfl rfl ?_
      obtain ⟨fs, q4, e1, e2, h⟩ := h
      refine gG_gr dX4_joinHere_29 fl_X4_9 ⟨fs, q4, e1, e2, ?_⟩
      refine gG_ldcS (t := 39) dX4_joinHere_32 rfl ?_
      obtain ⟨hrc, d2, P2, hdd, hC, h⟩ := h
      refine gG_cvi (As := [.float (39)]) (st := []) dX4_joinHere_34 mV_X4_44 hdd hrc rfl rfl (Nat.le_of_ble_eq_true rfl) (Nat.le_refl _) ⟨Nat.le_refl _, Nat.le_refl _⟩ hC (fun H5 x9 hp => ?_)
      obtain ⟨b6, rfl, hp⟩ := hp
      have h := h H5 b6 hp
      refine gG_if_eq (tgt := 45) dX4_joinHere_37 (by decide) (fun c => ?_) (fun c => ?_)
      · have h := h.1 (g_b_f c)
        refine gG_aload_n dX4_joinHere_45 rfl rfl ?_
        obtain ⟨fs, q7, e1, e2, h⟩ := h
        refine gG_gr dX4_joinHere_46 fl_X4_9 ⟨fs, q7, e1, e2, ?_⟩
        refine gG_ldcS (t := 40) dX4_joinHere_49 rfl ?_
        obtain ⟨hrc, d2, P2, hdd, hC, h⟩ := h
        refine gG_cvi (As := [.float (40)]) (st := []) dX4_joinHere_51 mV_X4_44 hdd hrc rfl rfl (Nat.le_of_ble_eq_true rfl) (Nat.le_refl _) ⟨Nat.le_refl _, Nat.le_refl _⟩ hC (fun H8 x9 hp => ?_)
        obtain ⟨b9, rfl, hp⟩ := hp
        have h := h H8 b9 hp
        refine gG_if_eq (tgt := 62) dX4_joinHere_54 (by decide) (fun c => ?_) (fun c => ?_)
        · have h := h.1 (g_b_f c)
          refine gG_iconst (v := 0) dX4_joinHere_62 (by decide) ?_
          exact gG_exit ⟨rfl, rfl, rfl, dX4_joinHere_63, _, rfl, h⟩
        · have h := h.2 (g_b_t c)
          refine gG_bipush (v := (-7)) dX4_joinHere_57 (by decide) ?_
          refine gG_goto (tgt := 63) dX4_joinHere_59 (by decide) ?_
          exact gG_exit ⟨rfl, rfl, rfl, dX4_joinHere_63, _, rfl, h⟩
      · have h := h.2 (g_b_t c)
        refine gG_bipush (v := (-6)) dX4_joinHere_40 (by decide) ?_
        refine gG_goto (tgt := 63) dX4_joinHere_42 (by decide) ?_
        exact gG_exit ⟨rfl, rfl, rfl, dX4_joinHere_63, _, rfl, h⟩
    · refine gG_tableIn (tgt := 64) dX4_joinHere_1 (by decide) (by decide) rfl (by decide) ?_
      have h := h.2.1 rfl
      refine gG_aload_n dX4_joinHere_64 rfl rfl ?_
      obtain ⟨fs, q10, e1, e2, h⟩ := h
      refine gG_gr dX4_joinHere_65 fl_X4_9 ⟨fs, q10, e1, e2, ?_⟩
      refine gG_bipush (v := 60) dX4_joinHere_68 (by decide) ?_
      obtain ⟨hrc, d2, P2, hdd, hC, h⟩ := h
      refine gG_cvi (As := [.int ((60 : Int32))]) (st := []) dX4_joinHere_70 mV_X4_48 hdd hrc rfl rfl (Nat.le_of_ble_eq_true rfl) (Nat.le_refl _) ⟨Nat.le_refl _, Nat.le_refl _⟩ hC (fun H11 x9 hp => ?_)
      obtain ⟨b12, rfl, hp⟩ := hp
      have h := h H11 b12 hp
      refine gG_if_eq (tgt := 81) dX4_joinHere_73 (by decide) (fun c => ?_) (fun c => ?_)
      · have h := h.1 (g_b_f c)
        refine gG_aload_n dX4_joinHere_81 rfl rfl ?_
        obtain ⟨fs, q13, e1, e2, h⟩ := h
        refine gG_gr dX4_joinHere_82 fl_X4_9 ⟨fs, q13, e1, e2, ?_⟩
        refine gG_bipush (v := 61) dX4_joinHere_85 (by decide) ?_
        obtain ⟨hrc, d2, P2, hdd, hC, h⟩ := h
        refine gG_cvi (As := [.int ((61 : Int32))]) (st := []) dX4_joinHere_87 mV_X4_48 hdd hrc rfl rfl (Nat.le_of_ble_eq_true rfl) (Nat.le_refl _) ⟨Nat.le_refl _, Nat.le_refl _⟩ hC (fun H14 x9 hp => ?_)
        obtain ⟨b15, rfl, hp⟩ := hp
        have h := h H14 b15 hp
        refine gG_if_eq (tgt := 98) dX4_joinHere_90 (by decide) (fun c => ?_) (fun c => ?_)
        · have h := h.1 (g_b_f c)
          refine gG_iconst (v := 0) dX4_joinHere_98 (by decide) ?_
          exact gG_exit ⟨rfl, rfl, rfl, dX4_joinHere_99, _, rfl, h⟩
        · have h := h.2 (g_b_t c)
          refine gG_bipush (v := (-9)) dX4_joinHere_93 (by decide) ?_
          refine gG_goto (tgt := 99) dX4_joinHere_95 (by decide) ?_
          exact gG_exit ⟨rfl, rfl, rfl, dX4_joinHere_99, _, rfl, h⟩
      · have h := h.2 (g_b_t c)
        refine gG_bipush (v := (-8)) dX4_joinHere_76 (by decide) ?_
        refine gG_goto (tgt := 99) dX4_joinHere_78 (by decide) ?_
        exact gG_exit ⟨rfl, rfl, rfl, dX4_joinHere_99, _, rfl, h⟩
    · refine gG_tableIn (tgt := 100) dX4_joinHere_1 (by decide) (by decide) rfl (by decide) ?_
      have h := h.2.2 rfl
      refine gG_aload_n dX4_joinHere_100 rfl rfl ?_
      obtain ⟨fs, q16, e1, e2, h⟩ := h
      refine gG_gr dX4_joinHere_101 fl_X4_9 ⟨fs, q16, e1, e2, ?_⟩
      refine gG_bipush (v := 43) dX4_joinHere_104 (by decide) ?_
      obtain ⟨hrc, d2, P2, hdd, hC, h⟩ := h
      refine gG_cvi (As := [.int ((43 : Int32))]) (st := []) dX4_joinHere_106 mV_X4_48 hdd hrc rfl rfl (Nat.le_of_ble_eq_true rfl) (Nat.le_refl _) ⟨Nat.le_refl _, Nat.le_refl _⟩ hC (fun H17 x9 hp => ?_)
      obtain ⟨b18, rfl, hp⟩ := hp
      have h := h H17 b18 hp
      refine gG_if_eq (tgt := 117) dX4_joinHere_109 (by decide) (fun c => ?_) (fun c => ?_)
      · have h := h.1 (g_b_f c)
        refine gG_aload_n dX4_joinHere_117 rfl rfl ?_
        obtain ⟨fs, q19, e1, e2, h⟩ := h
        refine gG_gr dX4_joinHere_118 fl_X4_9 ⟨fs, q19, e1, e2, ?_⟩
        refine gG_bipush (v := 45) dX4_joinHere_121 (by decide) ?_
        obtain ⟨hrc, d2, P2, hdd, hC, h⟩ := h
        refine gG_cvi (As := [.int ((45 : Int32))]) (st := []) dX4_joinHere_123 mV_X4_48 hdd hrc rfl rfl (Nat.le_of_ble_eq_true rfl) (Nat.le_refl _) ⟨Nat.le_refl _, Nat.le_refl _⟩ hC (fun H20 x9 hp => ?_)
        obtain ⟨b21, rfl, hp⟩ := hp
        have h := h H20 b21 hp
        refine gG_if_eq (tgt := 134) dX4_joinHere_126 (by decide) (fun c => ?_) (fun c => ?_)
        · have h := h.1 (g_b_f c)
          refine gG_iconst (v := 0) dX4_joinHere_134 (by decide) ?_
          exact gG_exit ⟨rfl, rfl, rfl, dX4_joinHere_135, _, rfl, h⟩
        · have h := h.2 (g_b_t c)
          refine gG_bipush (v := (-11)) dX4_joinHere_129 (by decide) ?_
          refine gG_goto (tgt := 135) dX4_joinHere_131 (by decide) ?_
          exact gG_exit ⟨rfl, rfl, rfl, dX4_joinHere_135, _, rfl, h⟩
      · have h := h.2 (g_b_t c)
        refine gG_bipush (v := (-10)) dX4_joinHere_112 (by decide) ?_
        refine gG_goto (tgt := 135) dX4_joinHere_114 (by decide) ?_
        exact gG_exit ⟨rfl, rfl, rfl, dX4_joinHere_135, _, rfl, h⟩

theorem kX5_readDay_0 {d n : Nat} {H : gHp} {P : gHp → Int32 → Prop} {a0 : Nat} {a1 : Nat} {a2 : Nat} (h : g_pf H (a2) 0 0 (.int ((0 : Int32))) (fun H1 => g_gr H1 (a0) 5 0 (fun q2 => (∃ fs, H1 (q2) = .inr (8, fs)) ∧ g_cvd d mX8_open n H1 [.ref (q2)] (fun H3 => gG d mX5_readDay 0 0 (g_Xj mX5_readDay n 0 0 P) 17 n H3 [some (.ref (a0)), some (.ref (a1)), some (.ref (a2)), some (.int ((1 : Int32))), some (.int ((0 : Int32)))] [] (0) (0))))) : gG d mX5_readDay 0 0 (g_Xj mX5_readDay n 0 0 P) 0 n H [some (.ref (a0)), some (.ref (a1)), some (.ref (a2)), none, none] [] 0 0 := by
  refine gG_aload_n dX5_readDay_0 rfl rfl ?_
  refine gG_iconst (v := 0) dX5_readDay_1 (by decide) ?_
  obtain ⟨fs, e1, e2, h⟩ := h
  refine gG_pi dX5_readDay_2 fl_X5_15 ⟨fs, e1, e2, ?_⟩
  obtain ⟨H1, eH⟩ : ∃ z, z = va_up H (a2) (.inr (0, fs.set 0 (.int ((0 : Int32))))) := ⟨_, rfl⟩
  rw [← eH] at h ⊢
  refine gG_aload_n dX5_readDay_5 rfl rfl ?_
  obtain ⟨fs, q2, e1, e2, h⟩ := h
  refine gG_gr dX5_readDay_6 fl_X5_9 ⟨fs, q2, e1, e2, ?_⟩
  obtain ⟨hrc, d2, P2, hdd, hC, h⟩ := h
  refine gG_cvv (As := []) (st := []) dX5_readDay_9 mV_X5_21 hdd hrc rfl rfl (Nat.le_of_ble_eq_true rfl) (Nat.le_refl _) ⟨Nat.le_refl _, Nat.le_refl _⟩ hC (fun H3 hp => ?_)
  have h := h H3 hp
  refine gG_iconst (v := 1) dX5_readDay_12 (by decide) ?_
  refine gG_istore_n dX5_readDay_13 rfl (Nat.le_of_ble_eq_true rfl) ?_
  refine gG_iconst (v := 0) dX5_readDay_14 (by decide) ?_
  refine gG_istore dX5_readDay_15 (Nat.le_of_ble_eq_true rfl) ?_
  refine gG_locals ?_ h
  exact ⟨rfl, ⟨rfl, ⟨rfl, ⟨rfl, ⟨rfl, trivial⟩⟩⟩⟩⟩
theorem kX5_readDay_17 {d n : Nat} {H : gHp} {P : gHp → Int32 → Prop} {a0 : Nat} {a1 : Nat} {a2 : Nat} {i3 : Int32} {i4 : Int32} (h : ((40 : Int32) < i4 → g_gr H (a0) 5 0 (fun q1 => (∃ fs, H (q1) = .inr (8, fs)) ∧ g_ci d mX8_close n H [.ref (q1)] (fun H2 x3 => P H2 (x3)))) ∧ (¬ ((40 : Int32) < i4) → (i3 = 0 → g_gr H (a0) 5 0 (fun q4 => (∃ fs, H (q4) = .inr (8, fs)) ∧ g_ci d mX8_close n H [.ref (q4)] (fun H5 x6 => P H5 (x6)))) ∧ (¬ (i3 = 0) → g_gr H (a0) 5 0 (fun q7 => (∃ fs, H (q7) = .inr (8, fs)) ∧ g_cz d mX8_isEnd n H [.ref (q7)] (fun H8 b9 => (b9 = true → g_gr H8 (a0) 5 0 (fun q10 => (∃ fs, H8 (q10) = .inr (8, fs)) ∧ g_ci d mX8_close n H8 [.ref (q10)] (fun H11 x12 => P H11 (x12)))) ∧ (b9 = false → (∃ fs, H8 (a0) = .inr (5, fs)) ∧ g_cz d mX5_readLine n H8 [.ref (a0), .ref (a1), .ref (a2)] (fun H13 b14 => (b14 = false → gG d mX5_readDay 0 0 (g_Xj mX5_readDay n 0 0 P) 17 n H13 [some (.ref (a0)), some (.ref (a1)), some (.ref (a2)), some (.int ((0 : Int32))), some (.int ((i4 + 1)))] [] (0) (0)) ∧ (b14 = true → g_gr H13 (a0) 5 0 (fun q15 => (∃ fs, H13 (q15) = .inr (8, fs)) ∧ g_cz d mX8_takeSign n H13 [.ref (q15), .int ((59 : Int32))] (fun H16 b17 => (b17 = false → gG d mX5_readDay 0 0 (g_Xj mX5_readDay n 0 0 P) 17 n H16 [some (.ref (a0)), some (.ref (a1)), some (.ref (a2)), some (.int ((0 : Int32))), some (.int ((i4 + 1)))] [] (0) (0)) ∧ (b17 = true → gG d mX5_readDay 0 0 (g_Xj mX5_readDay n 0 0 P) 17 n H16 [some (.ref (a0)), some (.ref (a1)), some (.ref (a2)), some (.int ((1 : Int32))), some (.int ((i4 + 1)))] [] (0) (0)))))))))))) : gG d mX5_readDay 0 0 (g_Xj mX5_readDay n 0 0 P) 17 n H [some (.ref (a0)), some (.ref (a1)), some (.ref (a2)), some (.int (i3)), some (.int (i4))] [] 0 0 := by
  refine gG_iload dX5_readDay_17 rfl ?_
  refine gG_bipush (v := 40) dX5_readDay_19 (by decide) ?_
  refine gG_ic_gt (tgt := 71) dX5_readDay_21 (by decide) (fun c => ?_) (fun c => ?_)
  · have h := h.1 c
    refine gG_aload_n dX5_readDay_71 rfl rfl ?_
    obtain ⟨fs, q1, e1, e2, h⟩ := h
    refine gG_gr dX5_readDay_72 fl_X5_9 ⟨fs, q1, e1, e2, ?_⟩
    obtain ⟨hrc, d2, P2, hdd, hC, h⟩ := h
    refine gG_cvi (As := []) (st := []) dX5_readDay_75 mV_X5_38 hdd hrc rfl rfl (Nat.le_of_ble_eq_true rfl) (Nat.le_refl _) ⟨Nat.le_refl _, Nat.le_refl _⟩ hC (fun H2 x3 hp => ?_)
    have h := h H2 x3 hp
    exact gG_exit ⟨rfl, rfl, rfl, dX5_readDay_78, _, rfl, h⟩
  · have h := h.2 c
    refine gG_iload_n dX5_readDay_24 rfl rfl ?_
    refine gG_if_eq (tgt := 71) dX5_readDay_25 (by decide) (fun c => ?_) (fun c => ?_)
    · have h := h.1 c
      refine gG_aload_n dX5_readDay_71 rfl rfl ?_
      obtain ⟨fs, q4, e1, e2, h⟩ := h
      refine gG_gr dX5_readDay_72 fl_X5_9 ⟨fs, q4, e1, e2, ?_⟩
      obtain ⟨hrc, d2, P2, hdd, hC, h⟩ := h
      refine gG_cvi (As := []) (st := []) dX5_readDay_75 mV_X5_38 hdd hrc rfl rfl (Nat.le_of_ble_eq_true rfl) (Nat.le_refl _) ⟨Nat.le_refl _, Nat.le_refl _⟩ hC (fun H5 x6 hp => ?_)
      have h := h H5 x6 hp
      exact gG_exit ⟨rfl, rfl, rfl, dX5_readDay_78, _, rfl, h⟩
    · have h := h.2 c
      refine gG_aload_n dX5_readDay_28 rfl rfl ?_
      obtain ⟨fs, q7, e1, e2, h⟩ := h
      refine gG_gr dX5_readDay_29 fl_X5_9 ⟨fs, q7, e1, e2, ?_⟩
      obtain ⟨hrc, d2, P2, hdd, hC, h⟩ := h
      refine gG_cvi (As := []) (st := []) dX5_readDay_32 mV_X5_26 hdd hrc rfl rfl (Nat.le_of_ble_eq_true rfl) (Nat.le_refl _) ⟨Nat.le_refl _, Nat.le_refl _⟩ hC (fun H8 x9 hp => ?_)
      obtain ⟨b9, rfl, hp⟩ := hp
      have h := h H8 b9 hp
      refine gG_if_ne (tgt := 71) dX5_readDay_35 (by decide) (fun c => ?_) (fun c => ?_)
      · have h := h.1 (g_b_t c)
        refine gG_aload_n dX5_readDay_71 rfl rfl ?_
        obtain ⟨fs, q10, e1, e2, h⟩ := h
        refine gG_gr dX5_readDay_72 fl_X5_9 ⟨fs, q10, e1, e2, ?_⟩
        obtain ⟨hrc, d2, P2, hdd, hC, h⟩ := h
        refine gG_cvi (As := []) (st := []) dX5_readDay_75 mV_X5_38 hdd hrc rfl rfl (Nat.le_of_ble_eq_true rfl) (Nat.le_refl _) ⟨Nat.le_refl _, Nat.le_refl _⟩ hC (fun H11 x12 hp => ?_)
        have h := h H11 x12 hp
        exact gG_exit ⟨rfl, rfl, rfl, dX5_readDay_78, _, rfl, h⟩
      · have h := h.2 (g_b_f c)
        refine gG_aload_n dX5_readDay_38 rfl rfl ?_
        refine gG_aload_n dX5_readDay_39 rfl rfl ?_
        refine gG_aload_n dX5_readDay_40 rfl rfl ?_
        obtain ⟨hrc, d2, P2, hdd, hC, h⟩ := h
        refine gG_cvi (As := [.ref (a1), .ref (a2)]) (st := []) dX5_readDay_41 mV_X5_30 hdd hrc rfl rfl (Nat.le_of_ble_eq_true rfl) (Nat.le_refl _) ⟨Nat.le_refl _, Nat.le_refl _⟩ hC (fun H13 x9 hp => ?_)
        obtain ⟨b14, rfl, hp⟩ := hp
        have h := h H13 b14 hp
        refine gG_if_eq (tgt := 63) dX5_readDay_44 (by decide) (fun c => ?_) (fun c => ?_)
        · have h := h.1 (g_b_f c)
          refine gG_iconst (v := 0) dX5_readDay_63 (by decide) ?_
          refine gG_istore_n dX5_readDay_64 rfl (Nat.le_of_ble_eq_true rfl) ?_
          refine gG_iinc (v := i4 + 1) dX5_readDay_65 rfl rfl (Nat.le_of_ble_eq_true rfl) ?_
          refine gG_goto (tgt := 17) dX5_readDay_68 (by decide) ?_
          refine gG_locals ?_ h
          exact ⟨rfl, ⟨rfl, ⟨rfl, ⟨rfl, ⟨rfl, trivial⟩⟩⟩⟩⟩
        · have h := h.2 (g_b_t c)
          refine gG_aload_n dX5_readDay_47 rfl rfl ?_
          obtain ⟨fs, q15, e1, e2, h⟩ := h
          refine gG_gr dX5_readDay_48 fl_X5_9 ⟨fs, q15, e1, e2, ?_⟩
          refine gG_bipush (v := 59) dX5_readDay_51 (by decide) ?_
          obtain ⟨hrc, d2, P2, hdd, hC, h⟩ := h
          refine gG_cvi (As := [.int ((59 : Int32))]) (st := []) dX5_readDay_53 mV_X5_34 hdd hrc rfl rfl (Nat.le_of_ble_eq_true rfl) (Nat.le_refl _) ⟨Nat.le_refl _, Nat.le_refl _⟩ hC (fun H16 x9 hp => ?_)
          obtain ⟨b17, rfl, hp⟩ := hp
          have h := h H16 b17 hp
          refine gG_if_eq (tgt := 63) dX5_readDay_56 (by decide) (fun c => ?_) (fun c => ?_)
          · have h := h.1 (g_b_f c)
            refine gG_iconst (v := 0) dX5_readDay_63 (by decide) ?_
            refine gG_istore_n dX5_readDay_64 rfl (Nat.le_of_ble_eq_true rfl) ?_
            refine gG_iinc (v := i4 + 1) dX5_readDay_65 rfl rfl (Nat.le_of_ble_eq_true rfl) ?_
            refine gG_goto (tgt := 17) dX5_readDay_68 (by decide) ?_
            refine gG_locals ?_ h
            exact ⟨rfl, ⟨rfl, ⟨rfl, ⟨rfl, ⟨rfl, trivial⟩⟩⟩⟩⟩
          · have h := h.2 (g_b_t c)
            refine gG_iconst (v := 1) dX5_readDay_59 (by decide) ?_
            refine gG_goto (tgt := 64) dX5_readDay_60 (by decide) ?_
            refine gG_istore_n dX5_readDay_64 rfl (Nat.le_of_ble_eq_true rfl) ?_
            refine gG_iinc (v := i4 + 1) dX5_readDay_65 rfl rfl (Nat.le_of_ble_eq_true rfl) ?_
            refine gG_goto (tgt := 17) dX5_readDay_68 (by decide) ?_
            refine gG_locals ?_ h
            exact ⟨rfl, ⟨rfl, ⟨rfl, ⟨rfl, ⟨rfl, trivial⟩⟩⟩⟩⟩

theorem kX5_readLine_0 {d n : Nat} {H : gHp} {P : gHp → Bool → Prop} {a0 : Nat} {a1 : Nat} {a2 : Nat} (h : (∃ fs, H (a0) = .inr (5, fs)) ∧ g_ci d mX5_actHere n H [.ref (a0)] (fun H1 x2 => (¬ (x2 = (-1 : Int32)) → g_gi H1 (a2) 0 0 (fun x3 => (x3 < (40 : Int32) → g_gr H1 (a0) 5 0 (fun q4 => (∃ fs, H1 (q4) = .inr (8, fs)) ∧ g_cvd d mX8_advance n H1 [.ref (q4)] (fun H5 => g_gr H5 (a2) 0 1 (fun q6 => g_as 0 H5 (q6) (x3) (x2) (fun H7 => g_gi H7 (a2) 0 0 (fun x8 => g_pf H7 (a2) 0 0 (.int ((x8 + (1 : Int32)))) (fun H9 => (¬ (x2 = 0) → g_gr H9 (a0) 5 0 (fun q10 => (∃ fs, H9 (q10) = .inr (8, fs)) ∧ g_ci d mX8_mouthHere n H9 [.ref (q10), .ref (a1)] (fun H11 x12 => (¬ (x12 = (-1 : Int32)) → g_gr H11 (a0) 5 0 (fun q13 => (∃ fs, H11 (q13) = .inr (8, fs)) ∧ g_cvd d mX8_advance n H11 [.ref (q13)] (fun H14 => g_gr H14 (a2) 0 2 (fun q15 => g_as 0 H14 (q15) (x3) (x12) (fun H16 => (¬ (x2 = (1 : Int32)) → P H16 true) ∧ (x2 = (1 : Int32) → g_gr H16 (a2) 0 3 (fun q17 => g_gr H16 (a0) 5 0 (fun q18 => (∃ fs, H16 (q18) = .inr (8, fs)) ∧ g_ci d mX8_takeNumber n H16 [.ref (q18), .int ((1 : Int32)), .int ((20 : Int32))] (fun H19 x20 => g_as 0 H19 (q17) (x3) (x20) (fun H21 => g_gr H21 (a2) 0 3 (fun q22 => g_al 0 H21 (q22) (x3) (fun x23 => (x23 = (-1 : Int32) → P H21 false) ∧ (¬ (x23 = (-1 : Int32)) → P H21 true))))))))))))) ∧ (x12 = (-1 : Int32) → P H11 false)))) ∧ (x2 = 0 → P H9 true)))))))) ∧ (¬ (x3 < (40 : Int32)) → g_gr H1 (a0) 5 0 (fun q24 => (∃ fs, H1 (q24) = .inr (8, fs)) ∧ g_cz d mX8_fail n H1 [.ref (q24), .int ((5 : Int32))] (fun H25 b26 => P H25 b26))))) ∧ (x2 = (-1 : Int32) → g_gr H1 (a0) 5 0 (fun q27 => (∃ fs, H1 (q27) = .inr (8, fs)) ∧ g_cz d mX8_fail n H1 [.ref (q27), .int ((1 : Int32))] (fun H28 b29 => P H28 b29))))) : gG d mX5_readLine 0 0 (g_Xz mX5_readLine n 0 0 P) 0 n H [some (.ref (a0)), some (.ref (a1)), some (.ref (a2)), none, none, none] [] 0 0 := by
  refine gG_aload_n dX5_readLine_0 rfl rfl ?_
  obtain ⟨hrc, d2, P2, hdd, hC, h⟩ := h
  refine gG_cvi (As := []) (st := []) dX5_readLine_1 mV_X5_42 hdd hrc rfl rfl (Nat.le_of_ble_eq_true rfl) (Nat.le_refl _) ⟨Nat.le_refl _, Nat.le_refl _⟩ hC (fun H1 x2 hp => ?_)
  have h := h H1 x2 hp
  refine gG_istore_n dX5_readLine_4 rfl (Nat.le_of_ble_eq_true rfl) ?_
  refine gG_iload_n dX5_readLine_5 rfl rfl ?_
  refine gG_iconst (v := (-1)) dX5_readLine_6 (by decide) ?_
  refine gG_ic_ne (tgt := 19) dX5_readLine_7 (by decide) (fun c => ?_) (fun c => ?_)
  · have h := h.1 c
    refine gG_aload_n dX5_readLine_19 rfl rfl ?_
    obtain ⟨fs, x3, e1, e2, h⟩ := h
    refine gG_gi dX5_readLine_20 fl_X5_15 ⟨fs, x3, e1, e2, ?_⟩
    refine gG_istore dX5_readLine_23 (Nat.le_of_ble_eq_true rfl) ?_
    refine gG_iload dX5_readLine_25 rfl ?_
    refine gG_bipush (v := 40) dX5_readLine_27 (by decide) ?_
    refine gG_ic_lt (tgt := 41) dX5_readLine_29 (by decide) (fun c => ?_) (fun c => ?_)
    · have h := h.1 c
      refine gG_aload_n dX5_readLine_41 rfl rfl ?_
      obtain ⟨fs, q4, e1, e2, h⟩ := h
      refine gG_gr dX5_readLine_42 fl_X5_9 ⟨fs, q4, e1, e2, ?_⟩
      obtain ⟨hrc, d2, P2, hdd, hC, h⟩ := h
      refine gG_cvv (As := []) (st := []) dX5_readLine_45 mV_X5_49 hdd hrc rfl rfl (Nat.le_of_ble_eq_true rfl) (Nat.le_refl _) ⟨Nat.le_refl _, Nat.le_refl _⟩ hC (fun H5 hp => ?_)
      have h := h H5 hp
      refine gG_aload_n dX5_readLine_48 rfl rfl ?_
      obtain ⟨fs, q6, e1, e2, h⟩ := h
      refine gG_gr dX5_readLine_49 fl_X5_52 ⟨fs, q6, e1, e2, ?_⟩
      refine gG_iload dX5_readLine_52 rfl ?_
      refine gG_iload_n dX5_readLine_54 rfl rfl ?_
      obtain ⟨m0, f0, e1, e2, h⟩ := h
      refine gG_iast dX5_readLine_55 ⟨m0, f0, e1, e2, ?_⟩
      obtain ⟨H7, eH⟩ : ∃ z, z = va_up H5 (q6) (.inl (0, m0, .inl (upd f0 (Int32.toNatClampNeg (x3)) (x2)))) := ⟨_, rfl⟩
      rw [← eH] at h ⊢
      refine gG_aload_n dX5_readLine_56 rfl rfl ?_
      refine gG_dup dX5_readLine_57 rfl ?_
      obtain ⟨fs, x8, e1, e2, h⟩ := h
      refine gG_gi dX5_readLine_58 fl_X5_15 ⟨fs, x8, e1, e2, ?_⟩
      refine gG_iconst (v := 1) dX5_readLine_61 (by decide) ?_
      refine gG_iadd dX5_readLine_62 ?_
      obtain ⟨fs, e1, e2, h⟩ := h
      refine gG_pi dX5_readLine_63 fl_X5_15 ⟨fs, e1, e2, ?_⟩
      obtain ⟨H9, eH⟩ : ∃ z, z = va_up H7 (a2) (.inr (0, fs.set 0 (.int ((x8 + (1 : Int32)))))) := ⟨_, rfl⟩
      rw [← eH] at h ⊢
      refine gG_iload_n dX5_readLine_66 rfl rfl ?_
      refine gG_if_ne (tgt := 72) dX5_readLine_67 (by decide) (fun c => ?_) (fun c => ?_)
      · have h := h.1 c
        refine gG_aload_n dX5_readLine_72 rfl rfl ?_
        obtain ⟨fs, q10, e1, e2, h⟩ := h
        refine gG_gr dX5_readLine_73 fl_X5_9 ⟨fs, q10, e1, e2, ?_⟩
        refine gG_aload_n dX5_readLine_76 rfl rfl ?_
        obtain ⟨hrc, d2, P2, hdd, hC, h⟩ := h
        refine gG_cvi (As := [.ref (a1)]) (st := []) dX5_readLine_77 mV_X5_56 hdd hrc rfl rfl (Nat.le_of_ble_eq_true rfl) (Nat.le_refl _) ⟨Nat.le_refl _, Nat.le_refl _⟩ hC (fun H11 x12 hp => ?_)
        have h := h H11 x12 hp
        refine gG_istore dX5_readLine_80 (Nat.le_of_ble_eq_true rfl) ?_
        refine gG_iload dX5_readLine_82 rfl ?_
        refine gG_iconst (v := (-1)) dX5_readLine_84 (by decide) ?_
        refine gG_ic_ne (tgt := 90) dX5_readLine_85 (by decide) (fun c => ?_) (fun c => ?_)
        · have h := h.1 c
          refine gG_aload_n dX5_readLine_90 rfl rfl ?_
          obtain ⟨fs, q13, e1, e2, h⟩ := h
          refine gG_gr dX5_readLine_91 fl_X5_9 ⟨fs, q13, e1, e2, ?_⟩
          obtain ⟨hrc, d2, P2, hdd, hC, h⟩ := h
          refine gG_cvv (As := []) (st := []) dX5_readLine_94 mV_X5_49 hdd hrc rfl rfl (Nat.le_of_ble_eq_true rfl) (Nat.le_refl _) ⟨Nat.le_refl _, Nat.le_refl _⟩ hC (fun H14 hp => ?_)
          have h := h H14 hp
          refine gG_aload_n dX5_readLine_97 rfl rfl ?_
          obtain ⟨fs, q15, e1, e2, h⟩ := h
          refine gG_gr dX5_readLine_98 fl_X5_60 ⟨fs, q15, e1, e2, ?_⟩
          refine gG_iload dX5_readLine_101 rfl ?_
          refine gG_iload dX5_readLine_103 rfl ?_
          obtain ⟨m0, f0, e1, e2, h⟩ := h
          refine gG_iast dX5_readLine_105 ⟨m0, f0, e1, e2, ?_⟩
          obtain ⟨H16, eH⟩ : ∃ z, z = va_up H14 (q15) (.inl (0, m0, .inl (upd f0 (Int32.toNatClampNeg (x3)) (x12)))) := ⟨_, rfl⟩
          rw [← eH] at h ⊢
          refine gG_iload_n dX5_readLine_106 rfl rfl ?_
          refine gG_iconst (v := 1) dX5_readLine_107 (by decide) ?_
          refine gG_ic_ne (tgt := 145) dX5_readLine_108 (by decide) (fun c => ?_) (fun c => ?_)
          · have h := h.1 c
            refine gG_iconst (v := 1) dX5_readLine_145 (by decide) ?_
            exact gG_exit ⟨rfl, rfl, rfl, dX5_readLine_146, true, rfl, h⟩
          · have h := h.2 c
            refine gG_aload_n dX5_readLine_111 rfl rfl ?_
            obtain ⟨fs, q17, e1, e2, h⟩ := h
            refine gG_gr dX5_readLine_112 fl_X5_63 ⟨fs, q17, e1, e2, ?_⟩
            refine gG_iload dX5_readLine_115 rfl ?_
            refine gG_aload_n dX5_readLine_117 rfl rfl ?_
            obtain ⟨fs, q18, e1, e2, h⟩ := h
            refine gG_gr dX5_readLine_118 fl_X5_9 ⟨fs, q18, e1, e2, ?_⟩
            refine gG_iconst (v := 1) dX5_readLine_121 (by decide) ?_
            refine gG_bipush (v := 20) dX5_readLine_122 (by decide) ?_
            obtain ⟨hrc, d2, P2, hdd, hC, h⟩ := h
            refine gG_cvi (As := [.int ((1 : Int32)), .int ((20 : Int32))]) (st := [.int (x3), .ref (q17)]) dX5_readLine_124 mV_X5_66 hdd hrc rfl rfl (Nat.le_of_ble_eq_true rfl) (Nat.le_refl _) ⟨Nat.le_refl _, Nat.le_refl _⟩ hC (fun H19 x20 hp => ?_)
            have h := h H19 x20 hp
            obtain ⟨m0, f0, e1, e2, h⟩ := h
            refine gG_iast dX5_readLine_127 ⟨m0, f0, e1, e2, ?_⟩
            obtain ⟨H21, eH⟩ : ∃ z, z = va_up H19 (q17) (.inl (0, m0, .inl (upd f0 (Int32.toNatClampNeg (x3)) (x20)))) := ⟨_, rfl⟩
            rw [← eH] at h ⊢
            refine gG_aload_n dX5_readLine_128 rfl rfl ?_
            obtain ⟨fs, q22, e1, e2, h⟩ := h
            refine gG_gr dX5_readLine_129 fl_X5_63 ⟨fs, q22, e1, e2, ?_⟩
            refine gG_iload dX5_readLine_132 rfl ?_
            obtain ⟨m0, f0, e1, e2, h⟩ := h
            refine gG_iald dX5_readLine_134 ⟨m0, f0, e1, e2, ?_⟩
            obtain ⟨x23, eH⟩ : ∃ z, z = f0 (Int32.toNatClampNeg (x3)) := ⟨_, rfl⟩
            rw [← eH] at h ⊢
            refine gG_iconst (v := (-1)) dX5_readLine_135 (by decide) ?_
            refine gG_ic_eq (tgt := 143) dX5_readLine_136 (by decide) (fun c => ?_) (fun c => ?_)
            · have h := h.1 c
              refine gG_iconst (v := 0) dX5_readLine_143 (by decide) ?_
              exact gG_exit ⟨rfl, rfl, rfl, dX5_readLine_144, false, rfl, h⟩
            · have h := h.2 c
              refine gG_iconst (v := 1) dX5_readLine_139 (by decide) ?_
              refine gG_goto (tgt := 144) dX5_readLine_140 (by decide) ?_
              exact gG_exit ⟨rfl, rfl, rfl, dX5_readLine_144, true, rfl, h⟩
        · have h := h.2 c
          refine gG_iconst (v := 0) dX5_readLine_88 (by decide) ?_
          exact gG_exit ⟨rfl, rfl, rfl, dX5_readLine_89, false, rfl, h⟩
      · have h := h.2 c
        refine gG_iconst (v := 1) dX5_readLine_70 (by decide) ?_
        exact gG_exit ⟨rfl, rfl, rfl, dX5_readLine_71, true, rfl, h⟩
    · have h := h.2 c
      refine gG_aload_n dX5_readLine_32 rfl rfl ?_
      obtain ⟨fs, q24, e1, e2, h⟩ := h
      refine gG_gr dX5_readLine_33 fl_X5_9 ⟨fs, q24, e1, e2, ?_⟩
      refine gG_iconst (v := 5) dX5_readLine_36 (by decide) ?_
      obtain ⟨hrc, d2, P2, hdd, hC, h⟩ := h
      refine gG_cvi (As := [.int ((5 : Int32))]) (st := []) dX5_readLine_37 mV_X5_45 hdd hrc rfl rfl (Nat.le_of_ble_eq_true rfl) (Nat.le_refl _) ⟨Nat.le_refl _, Nat.le_refl _⟩ hC (fun H25 x9 hp => ?_)
      obtain ⟨b26, rfl, hp⟩ := hp
      have h := h H25 b26 hp
      exact gG_exit ⟨rfl, rfl, rfl, dX5_readLine_40, b26, rfl, h⟩
  · have h := h.2 c
    refine gG_aload_n dX5_readLine_10 rfl rfl ?_
    obtain ⟨fs, q27, e1, e2, h⟩ := h
    refine gG_gr dX5_readLine_11 fl_X5_9 ⟨fs, q27, e1, e2, ?_⟩
    refine gG_iconst (v := 1) dX5_readLine_14 (by decide) ?_
    obtain ⟨hrc, d2, P2, hdd, hC, h⟩ := h
    refine gG_cvi (As := [.int ((1 : Int32))]) (st := []) dX5_readLine_15 mV_X5_45 hdd hrc rfl rfl (Nat.le_of_ble_eq_true rfl) (Nat.le_refl _) ⟨Nat.le_refl _, Nat.le_refl _⟩ hC (fun H28 x9 hp => ?_)
    obtain ⟨b29, rfl, hp⟩ := hp
    have h := h H28 b29 hp
    exact gG_exit ⟨rfl, rfl, rfl, dX5_readLine_18, b29, rfl, h⟩

theorem kX5_actHere_0 {d n : Nat} {H : gHp} {P : gHp → Int32 → Prop} {a0 : Nat} (h : g_gr H (a0) 5 0 (fun q1 => (∃ fs, H (q1) = .inr (8, fs)) ∧ g_cz d mX8_isWord n H [.ref (q1), .float (41)] (fun H2 b3 => (b3 = false → g_gr H2 (a0) 5 0 (fun q4 => (∃ fs, H2 (q4) = .inr (8, fs)) ∧ g_cz d mX8_isWord n H2 [.ref (q4), .float (42)] (fun H5 b6 => (b6 = false → g_gr H5 (a0) 5 0 (fun q7 => (∃ fs, H5 (q7) = .inr (8, fs)) ∧ g_cz d mX8_isWord n H5 [.ref (q7), .float (43)] (fun H8 b9 => (b9 = false → g_gr H8 (a0) 5 0 (fun q10 => (∃ fs, H8 (q10) = .inr (8, fs)) ∧ g_cz d mX8_isWord n H8 [.ref (q10), .float (44)] (fun H11 b12 => (b12 = false → P H11 ((-1 : Int32))) ∧ (b12 = true → P H11 ((3 : Int32)))))) ∧ (b9 = true → P H8 ((2 : Int32)))))) ∧ (b6 = true → P H5 ((1 : Int32)))))) ∧ (b3 = true → P H2 ((0 : Int32)))))) : gG d mX5_actHere 0 0 (g_Xj mX5_actHere n 0 0 P) 0 n H [some (.ref (a0))] [] 0 0 := by
  refine gG_aload_n dX5_actHere_0 rfl rfl ?_
  obtain ⟨fs, q1, e1, e2, h⟩ := h
  refine gG_gr dX5_actHere_1 fl_X5_9 ⟨fs, q1, e1, e2, ?_⟩
  refine gG_ldcS (t := 41) dX5_actHere_4 rfl ?_
  obtain ⟨hrc, d2, P2, hdd, hC, h⟩ := h
  refine gG_cvi (As := [.float (41)]) (st := []) dX5_actHere_6 mV_X5_72 hdd hrc rfl rfl (Nat.le_of_ble_eq_true rfl) (Nat.le_refl _) ⟨Nat.le_refl _, Nat.le_refl _⟩ hC (fun H2 x9 hp => ?_)
  obtain ⟨b3, rfl, hp⟩ := hp
  have h := h H2 b3 hp
  refine gG_if_eq (tgt := 14) dX5_actHere_9 (by decide) (fun c => ?_) (fun c => ?_)
  · have h := h.1 (g_b_f c)
    refine gG_aload_n dX5_actHere_14 rfl rfl ?_
    obtain ⟨fs, q4, e1, e2, h⟩ := h
    refine gG_gr dX5_actHere_15 fl_X5_9 ⟨fs, q4, e1, e2, ?_⟩
    refine gG_ldcS (t := 42) dX5_actHere_18 rfl ?_
    obtain ⟨hrc, d2, P2, hdd, hC, h⟩ := h
    refine gG_cvi (As := [.float (42)]) (st := []) dX5_actHere_20 mV_X5_72 hdd hrc rfl rfl (Nat.le_of_ble_eq_true rfl) (Nat.le_refl _) ⟨Nat.le_refl _, Nat.le_refl _⟩ hC (fun H5 x9 hp => ?_)
    obtain ⟨b6, rfl, hp⟩ := hp
    have h := h H5 b6 hp
    refine gG_if_eq (tgt := 28) dX5_actHere_23 (by decide) (fun c => ?_) (fun c => ?_)
    · have h := h.1 (g_b_f c)
      refine gG_aload_n dX5_actHere_28 rfl rfl ?_
      obtain ⟨fs, q7, e1, e2, h⟩ := h
      refine gG_gr dX5_actHere_29 fl_X5_9 ⟨fs, q7, e1, e2, ?_⟩
      refine gG_ldcS (t := 43) dX5_actHere_32 rfl ?_
      obtain ⟨hrc, d2, P2, hdd, hC, h⟩ := h
      refine gG_cvi (As := [.float (43)]) (st := []) dX5_actHere_34 mV_X5_72 hdd hrc rfl rfl (Nat.le_of_ble_eq_true rfl) (Nat.le_refl _) ⟨Nat.le_refl _, Nat.le_refl _⟩ hC (fun H8 x9 hp => ?_)
      obtain ⟨b9, rfl, hp⟩ := hp
      have h := h H8 b9 hp
      refine gG_if_eq (tgt := 42) dX5_actHere_37 (by decide) (fun c => ?_) (fun c => ?_)
      · have h := h.1 (g_b_f c)
        refine gG_aload_n dX5_actHere_42 rfl rfl ?_
        obtain ⟨fs, q10, e1, e2, h⟩ := h
        refine gG_gr dX5_actHere_43 fl_X5_9 ⟨fs, q10, e1, e2, ?_⟩
        refine gG_ldcS (t := 44) dX5_actHere_46 rfl ?_
        obtain ⟨hrc, d2, P2, hdd, hC, h⟩ := h
        refine gG_cvi (As := [.float (44)]) (st := []) dX5_actHere_48 mV_X5_72 hdd hrc rfl rfl (Nat.le_of_ble_eq_true rfl) (Nat.le_refl _) ⟨Nat.le_refl _, Nat.le_refl _⟩ hC (fun H11 x9 hp => ?_)
        obtain ⟨b12, rfl, hp⟩ := hp
        have h := h H11 b12 hp
        refine gG_if_eq (tgt := 58) dX5_actHere_51 (by decide) (fun c => ?_) (fun c => ?_)
        · have h := h.1 (g_b_f c)
          refine gG_iconst (v := (-1)) dX5_actHere_58 (by decide) ?_
          exact gG_exit ⟨rfl, rfl, rfl, dX5_actHere_59, _, rfl, h⟩
        · have h := h.2 (g_b_t c)
          refine gG_iconst (v := 3) dX5_actHere_54 (by decide) ?_
          refine gG_goto (tgt := 59) dX5_actHere_55 (by decide) ?_
          exact gG_exit ⟨rfl, rfl, rfl, dX5_actHere_59, _, rfl, h⟩
      · have h := h.2 (g_b_t c)
        refine gG_iconst (v := 2) dX5_actHere_40 (by decide) ?_
        exact gG_exit ⟨rfl, rfl, rfl, dX5_actHere_41, _, rfl, h⟩
    · have h := h.2 (g_b_t c)
      refine gG_iconst (v := 1) dX5_actHere_26 (by decide) ?_
      exact gG_exit ⟨rfl, rfl, rfl, dX5_actHere_27, _, rfl, h⟩
  · have h := h.2 (g_b_t c)
    refine gG_iconst (v := 0) dX5_actHere_12 (by decide) ?_
    exact gG_exit ⟨rfl, rfl, rfl, dX5_actHere_13, _, rfl, h⟩

theorem kX5_readWord_0 {d n : Nat} {H : gHp} {P : gHp → Int32 → Prop} {a0 : Nat} {a1 : Nat} {a2 : Nat} (h : g_pf H (a2) 10 0 (.int ((0 : Int32))) (fun H1 => g_gr H1 (a0) 5 0 (fun q2 => (∃ fs, H1 (q2) = .inr (8, fs)) ∧ g_cvd d mX8_open n H1 [.ref (q2)] (fun H3 => gG d mX5_readWord 0 0 (g_Xj mX5_readWord n 0 0 P) 17 n H3 [some (.ref (a0)), some (.ref (a1)), some (.ref (a2)), some (.int ((1 : Int32))), some (.int ((0 : Int32)))] [] (0) (0))))) : gG d mX5_readWord 0 0 (g_Xj mX5_readWord n 0 0 P) 0 n H [some (.ref (a0)), some (.ref (a1)), some (.ref (a2)), none, none] [] 0 0 := by
  refine gG_aload_n dX5_readWord_0 rfl rfl ?_
  refine gG_iconst (v := 0) dX5_readWord_1 (by decide) ?_
  obtain ⟨fs, e1, e2, h⟩ := h
  refine gG_pi dX5_readWord_2 fl_X5_82 ⟨fs, e1, e2, ?_⟩
  obtain ⟨H1, eH⟩ : ∃ z, z = va_up H (a2) (.inr (10, fs.set 0 (.int ((0 : Int32))))) := ⟨_, rfl⟩
  rw [← eH] at h ⊢
  refine gG_aload_n dX5_readWord_5 rfl rfl ?_
  obtain ⟨fs, q2, e1, e2, h⟩ := h
  refine gG_gr dX5_readWord_6 fl_X5_9 ⟨fs, q2, e1, e2, ?_⟩
  obtain ⟨hrc, d2, P2, hdd, hC, h⟩ := h
  refine gG_cvv (As := []) (st := []) dX5_readWord_9 mV_X5_21 hdd hrc rfl rfl (Nat.le_of_ble_eq_true rfl) (Nat.le_refl _) ⟨Nat.le_refl _, Nat.le_refl _⟩ hC (fun H3 hp => ?_)
  have h := h H3 hp
  refine gG_iconst (v := 1) dX5_readWord_12 (by decide) ?_
  refine gG_istore_n dX5_readWord_13 rfl (Nat.le_of_ble_eq_true rfl) ?_
  refine gG_iconst (v := 0) dX5_readWord_14 (by decide) ?_
  refine gG_istore dX5_readWord_15 (Nat.le_of_ble_eq_true rfl) ?_
  refine gG_locals ?_ h
  exact ⟨rfl, ⟨rfl, ⟨rfl, ⟨rfl, ⟨rfl, trivial⟩⟩⟩⟩⟩
theorem kX5_readWord_17 {d n : Nat} {H : gHp} {P : gHp → Int32 → Prop} {a0 : Nat} {a1 : Nat} {a2 : Nat} {i3 : Int32} {i4 : Int32} (h : ((7 : Int32) < i4 → g_gr H (a0) 5 0 (fun q1 => (∃ fs, H (q1) = .inr (8, fs)) ∧ g_ci d mX8_close n H [.ref (q1)] (fun H2 x3 => P H2 (x3)))) ∧ (¬ ((7 : Int32) < i4) → (i3 = 0 → g_gr H (a0) 5 0 (fun q4 => (∃ fs, H (q4) = .inr (8, fs)) ∧ g_ci d mX8_close n H [.ref (q4)] (fun H5 x6 => P H5 (x6)))) ∧ (¬ (i3 = 0) → (i4 = 0 → (∃ fs, H (a0) = .inr (5, fs)) ∧ g_cz d mX5_readLetterName n H [.ref (a0), .ref (a1), .ref (a2)] (fun H7 b8 => gG d mX5_readWord 0 0 (g_Xj mX5_readWord n 0 0 P) 17 n H7 [some (.ref (a0)), some (.ref (a1)), some (.ref (a2)), some (.int (g_b b8)), some (.int ((i4 + 1)))] [] (0) (0))) ∧ (¬ (i4 = 0) → g_gr H (a0) 5 0 (fun q9 => (∃ fs, H (q9) = .inr (8, fs)) ∧ g_cz d mX8_isEnd n H [.ref (q9)] (fun H10 b11 => (b11 = true → g_gr H10 (a0) 5 0 (fun q12 => (∃ fs, H10 (q12) = .inr (8, fs)) ∧ g_ci d mX8_close n H10 [.ref (q12)] (fun H13 x14 => P H13 (x14)))) ∧ (b11 = false → (∃ fs, H10 (a0) = .inr (5, fs)) ∧ g_cz d mX5_readLetterName n H10 [.ref (a0), .ref (a1), .ref (a2)] (fun H15 b16 => gG d mX5_readWord 0 0 (g_Xj mX5_readWord n 0 0 P) 17 n H15 [some (.ref (a0)), some (.ref (a1)), some (.ref (a2)), some (.int (g_b b16)), some (.int ((i4 + 1)))] [] (0) (0))))))))) : gG d mX5_readWord 0 0 (g_Xj mX5_readWord n 0 0 P) 17 n H [some (.ref (a0)), some (.ref (a1)), some (.ref (a2)), some (.int (i3)), some (.int (i4))] [] 0 0 := by
  refine gG_iload dX5_readWord_17 rfl ?_
  refine gG_bipush (v := 7) dX5_readWord_19 (by decide) ?_
  refine gG_ic_gt (tgt := 56) dX5_readWord_21 (by decide) (fun c => ?_) (fun c => ?_)
  · have h := h.1 c
    refine gG_aload_n dX5_readWord_56 rfl rfl ?_
    obtain ⟨fs, q1, e1, e2, h⟩ := h
    refine gG_gr dX5_readWord_57 fl_X5_9 ⟨fs, q1, e1, e2, ?_⟩
    obtain ⟨hrc, d2, P2, hdd, hC, h⟩ := h
    refine gG_cvi (As := []) (st := []) dX5_readWord_60 mV_X5_38 hdd hrc rfl rfl (Nat.le_of_ble_eq_true rfl) (Nat.le_refl _) ⟨Nat.le_refl _, Nat.le_refl _⟩ hC (fun H2 x3 hp => ?_)
    have h := h H2 x3 hp
    exact gG_exit ⟨rfl, rfl, rfl, dX5_readWord_63, _, rfl, h⟩
  · have h := h.2 c
    refine gG_iload_n dX5_readWord_24 rfl rfl ?_
    refine gG_if_eq (tgt := 56) dX5_readWord_25 (by decide) (fun c => ?_) (fun c => ?_)
    · have h := h.1 c
      refine gG_aload_n dX5_readWord_56 rfl rfl ?_
      obtain ⟨fs, q4, e1, e2, h⟩ := h
      refine gG_gr dX5_readWord_57 fl_X5_9 ⟨fs, q4, e1, e2, ?_⟩
      obtain ⟨hrc, d2, P2, hdd, hC, h⟩ := h
      refine gG_cvi (As := []) (st := []) dX5_readWord_60 mV_X5_38 hdd hrc rfl rfl (Nat.le_of_ble_eq_true rfl) (Nat.le_refl _) ⟨Nat.le_refl _, Nat.le_refl _⟩ hC (fun H5 x6 hp => ?_)
      have h := h H5 x6 hp
      exact gG_exit ⟨rfl, rfl, rfl, dX5_readWord_63, _, rfl, h⟩
    · have h := h.2 c
      refine gG_iload dX5_readWord_28 rfl ?_
      refine gG_if_eq (tgt := 43) dX5_readWord_30 (by decide) (fun c => ?_) (fun c => ?_)
      · have h := h.1 c
        refine gG_aload_n dX5_readWord_43 rfl rfl ?_
        refine gG_aload_n dX5_readWord_44 rfl rfl ?_
        refine gG_aload_n dX5_readWord_45 rfl rfl ?_
        obtain ⟨hrc, d2, P2, hdd, hC, h⟩ := h
        refine gG_cvi (As := [.ref (a1), .ref (a2)]) (st := []) dX5_readWord_46 mV_X5_85 hdd hrc rfl rfl (Nat.le_of_ble_eq_true rfl) (Nat.le_refl _) ⟨Nat.le_refl _, Nat.le_refl _⟩ hC (fun H7 x9 hp => ?_)
        obtain ⟨b8, rfl, hp⟩ := hp
        have h := h H7 b8 hp
        refine gG_istore_n dX5_readWord_49 rfl (Nat.le_of_ble_eq_true rfl) ?_
        refine gG_iinc (v := i4 + 1) dX5_readWord_50 rfl rfl (Nat.le_of_ble_eq_true rfl) ?_
        refine gG_goto (tgt := 17) dX5_readWord_53 (by decide) ?_
        refine gG_locals ?_ h
        exact ⟨rfl, ⟨rfl, ⟨rfl, ⟨rfl, ⟨rfl, trivial⟩⟩⟩⟩⟩
      · have h := h.2 c
        refine gG_aload_n dX5_readWord_33 rfl rfl ?_
        obtain ⟨fs, q9, e1, e2, h⟩ := h
        refine gG_gr dX5_readWord_34 fl_X5_9 ⟨fs, q9, e1, e2, ?_⟩
        obtain ⟨hrc, d2, P2, hdd, hC, h⟩ := h
        refine gG_cvi (As := []) (st := []) dX5_readWord_37 mV_X5_26 hdd hrc rfl rfl (Nat.le_of_ble_eq_true rfl) (Nat.le_refl _) ⟨Nat.le_refl _, Nat.le_refl _⟩ hC (fun H10 x9 hp => ?_)
        obtain ⟨b11, rfl, hp⟩ := hp
        have h := h H10 b11 hp
        refine gG_if_ne (tgt := 56) dX5_readWord_40 (by decide) (fun c => ?_) (fun c => ?_)
        · have h := h.1 (g_b_t c)
          refine gG_aload_n dX5_readWord_56 rfl rfl ?_
          obtain ⟨fs, q12, e1, e2, h⟩ := h
          refine gG_gr dX5_readWord_57 fl_X5_9 ⟨fs, q12, e1, e2, ?_⟩
          obtain ⟨hrc, d2, P2, hdd, hC, h⟩ := h
          refine gG_cvi (As := []) (st := []) dX5_readWord_60 mV_X5_38 hdd hrc rfl rfl (Nat.le_of_ble_eq_true rfl) (Nat.le_refl _) ⟨Nat.le_refl _, Nat.le_refl _⟩ hC (fun H13 x14 hp => ?_)
          have h := h H13 x14 hp
          exact gG_exit ⟨rfl, rfl, rfl, dX5_readWord_63, _, rfl, h⟩
        · have h := h.2 (g_b_f c)
          refine gG_aload_n dX5_readWord_43 rfl rfl ?_
          refine gG_aload_n dX5_readWord_44 rfl rfl ?_
          refine gG_aload_n dX5_readWord_45 rfl rfl ?_
          obtain ⟨hrc, d2, P2, hdd, hC, h⟩ := h
          refine gG_cvi (As := [.ref (a1), .ref (a2)]) (st := []) dX5_readWord_46 mV_X5_85 hdd hrc rfl rfl (Nat.le_of_ble_eq_true rfl) (Nat.le_refl _) ⟨Nat.le_refl _, Nat.le_refl _⟩ hC (fun H15 x9 hp => ?_)
          obtain ⟨b16, rfl, hp⟩ := hp
          have h := h H15 b16 hp
          refine gG_istore_n dX5_readWord_49 rfl (Nat.le_of_ble_eq_true rfl) ?_
          refine gG_iinc (v := i4 + 1) dX5_readWord_50 rfl rfl (Nat.le_of_ble_eq_true rfl) ?_
          refine gG_goto (tgt := 17) dX5_readWord_53 (by decide) ?_
          refine gG_locals ?_ h
          exact ⟨rfl, ⟨rfl, ⟨rfl, ⟨rfl, ⟨rfl, trivial⟩⟩⟩⟩⟩

theorem kX5_readLetterName_0 {d n : Nat} {H : gHp} {P : gHp → Bool → Prop} {a0 : Nat} {a1 : Nat} {a2 : Nat} (h : g_gr H (a0) 5 0 (fun q1 => (∃ fs, H (q1) = .inr (8, fs)) ∧ g_cz d mX8_isName n H [.ref (q1)] (fun H2 b3 => (b3 = true → g_gr H2 (a0) 5 0 (fun q4 => g_gl H2 (q4) 8 5 (fun y5 => (∃ fs, H2 (a1) = .inr (1, fs)) ∧ g_ci d mX1_letterNamed n H2 [.ref (a1), .long (y5)] (fun H6 x7 => (¬ (x7 = (-1 : Int32)) → g_gi H6 (a2) 10 0 (fun x8 => (x8 < (7 : Int32) → g_gr H6 (a2) 10 1 (fun q9 => g_gi H6 (a2) 10 0 (fun x10 => g_as 0 H6 (q9) (x10) (x7) (fun H11 => g_gi H11 (a2) 10 0 (fun x12 => g_pf H11 (a2) 10 0 (.int ((x12 + (1 : Int32)))) (fun H13 => g_gr H13 (a0) 5 0 (fun q14 => (∃ fs, H13 (q14) = .inr (8, fs)) ∧ g_cvd d mX8_advance n H13 [.ref (q14)] (fun H15 => P H15 true)))))))) ∧ (¬ (x8 < (7 : Int32)) → g_gr H6 (a0) 5 0 (fun q16 => (∃ fs, H6 (q16) = .inr (8, fs)) ∧ g_cz d mX8_fail n H6 [.ref (q16), .int ((5 : Int32))] (fun H17 b18 => P H17 b18))))) ∧ (x7 = (-1 : Int32) → g_gr H6 (a0) 5 0 (fun q19 => (∃ fs, H6 (q19) = .inr (8, fs)) ∧ g_cz d mX8_fail n H6 [.ref (q19), .int ((2 : Int32))] (fun H20 b21 => P H20 b21))))))) ∧ (b3 = false → g_gr H2 (a0) 5 0 (fun q22 => (∃ fs, H2 (q22) = .inr (8, fs)) ∧ g_cz d mX8_fail n H2 [.ref (q22), .int ((1 : Int32))] (fun H23 b24 => P H23 b24)))))) : gG d mX5_readLetterName 0 0 (g_Xz mX5_readLetterName n 0 0 P) 0 n H [some (.ref (a0)), some (.ref (a1)), some (.ref (a2)), none] [] 0 0 := by
  refine gG_aload_n dX5_readLetterName_0 rfl rfl ?_
  obtain ⟨fs, q1, e1, e2, h⟩ := h
  refine gG_gr dX5_readLetterName_1 fl_X5_9 ⟨fs, q1, e1, e2, ?_⟩
  obtain ⟨hrc, d2, P2, hdd, hC, h⟩ := h
  refine gG_cvi (As := []) (st := []) dX5_readLetterName_4 mV_X5_89 hdd hrc rfl rfl (Nat.le_of_ble_eq_true rfl) (Nat.le_refl _) ⟨Nat.le_refl _, Nat.le_refl _⟩ hC (fun H2 x9 hp => ?_)
  obtain ⟨b3, rfl, hp⟩ := hp
  have h := h H2 b3 hp
  refine gG_if_ne (tgt := 19) dX5_readLetterName_7 (by decide) (fun c => ?_) (fun c => ?_)
  · have h := h.1 (g_b_t c)
    refine gG_aload_n dX5_readLetterName_19 rfl rfl ?_
    refine gG_aload_n dX5_readLetterName_20 rfl rfl ?_
    obtain ⟨fs, q4, e1, e2, h⟩ := h
    refine gG_gr dX5_readLetterName_21 fl_X5_9 ⟨fs, q4, e1, e2, ?_⟩
    obtain ⟨fs, y5, e1, e2, h⟩ := h
    refine gG_gl dX5_readLetterName_24 fl_X5_92 ⟨fs, y5, e1, e2, ?_⟩
    obtain ⟨hrc, d2, P2, hdd, hC, h⟩ := h
    refine gG_cvi (As := [.long (y5)]) (st := []) dX5_readLetterName_27 mV_X5_96 hdd hrc rfl rfl (Nat.le_of_ble_eq_true rfl) (Nat.le_refl _) ⟨Nat.le_refl _, Nat.le_refl _⟩ hC (fun H6 x7 hp => ?_)
    have h := h H6 x7 hp
    refine gG_istore_n dX5_readLetterName_30 rfl (Nat.le_of_ble_eq_true rfl) ?_
    refine gG_iload_n dX5_readLetterName_31 rfl rfl ?_
    refine gG_iconst (v := (-1)) dX5_readLetterName_32 (by decide) ?_
    refine gG_ic_ne (tgt := 45) dX5_readLetterName_33 (by decide) (fun c => ?_) (fun c => ?_)
    · have h := h.1 c
      refine gG_aload_n dX5_readLetterName_45 rfl rfl ?_
      obtain ⟨fs, x8, e1, e2, h⟩ := h
      refine gG_gi dX5_readLetterName_46 fl_X5_82 ⟨fs, x8, e1, e2, ?_⟩
      refine gG_bipush (v := 7) dX5_readLetterName_49 (by decide) ?_
      refine gG_ic_lt (tgt := 63) dX5_readLetterName_51 (by decide) (fun c => ?_) (fun c => ?_)
      · have h := h.1 c
        refine gG_aload_n dX5_readLetterName_63 rfl rfl ?_
        obtain ⟨fs, q9, e1, e2, h⟩ := h
        refine gG_gr dX5_readLetterName_64 fl_X5_102 ⟨fs, q9, e1, e2, ?_⟩
        refine gG_aload_n dX5_readLetterName_67 rfl rfl ?_
        obtain ⟨fs, x10, e1, e2, h⟩ := h
        refine gG_gi dX5_readLetterName_68 fl_X5_82 ⟨fs, x10, e1, e2, ?_⟩
        refine gG_iload_n dX5_readLetterName_71 rfl rfl ?_
        obtain ⟨m0, f0, e1, e2, h⟩ := h
        refine gG_iast dX5_readLetterName_72 ⟨m0, f0, e1, e2, ?_⟩
        obtain ⟨H11, eH⟩ : ∃ z, z = va_up H6 (q9) (.inl (0, m0, .inl (upd f0 (Int32.toNatClampNeg (x10)) (x7)))) := ⟨_, rfl⟩
        rw [← eH] at h ⊢
        refine gG_aload_n dX5_readLetterName_73 rfl rfl ?_
        refine gG_dup dX5_readLetterName_74 rfl ?_
        obtain ⟨fs, x12, e1, e2, h⟩ := h
        refine gG_gi dX5_readLetterName_75 fl_X5_82 ⟨fs, x12, e1, e2, ?_⟩
        refine gG_iconst (v := 1) dX5_readLetterName_78 (by decide) ?_
        refine gG_iadd dX5_readLetterName_79 ?_
        obtain ⟨fs, e1, e2, h⟩ := h
        refine gG_pi dX5_readLetterName_80 fl_X5_82 ⟨fs, e1, e2, ?_⟩
        obtain ⟨H13, eH⟩ : ∃ z, z = va_up H11 (a2) (.inr (10, fs.set 0 (.int ((x12 + (1 : Int32)))))) := ⟨_, rfl⟩
        rw [← eH] at h ⊢
        refine gG_aload_n dX5_readLetterName_83 rfl rfl ?_
        obtain ⟨fs, q14, e1, e2, h⟩ := h
        refine gG_gr dX5_readLetterName_84 fl_X5_9 ⟨fs, q14, e1, e2, ?_⟩
        obtain ⟨hrc, d2, P2, hdd, hC, h⟩ := h
        refine gG_cvv (As := []) (st := []) dX5_readLetterName_87 mV_X5_49 hdd hrc rfl rfl (Nat.le_of_ble_eq_true rfl) (Nat.le_refl _) ⟨Nat.le_refl _, Nat.le_refl _⟩ hC (fun H15 hp => ?_)
        have h := h H15 hp
        refine gG_iconst (v := 1) dX5_readLetterName_90 (by decide) ?_
        exact gG_exit ⟨rfl, rfl, rfl, dX5_readLetterName_91, true, rfl, h⟩
      · have h := h.2 c
        refine gG_aload_n dX5_readLetterName_54 rfl rfl ?_
        obtain ⟨fs, q16, e1, e2, h⟩ := h
        refine gG_gr dX5_readLetterName_55 fl_X5_9 ⟨fs, q16, e1, e2, ?_⟩
        refine gG_iconst (v := 5) dX5_readLetterName_58 (by decide) ?_
        obtain ⟨hrc, d2, P2, hdd, hC, h⟩ := h
        refine gG_cvi (As := [.int ((5 : Int32))]) (st := []) dX5_readLetterName_59 mV_X5_45 hdd hrc rfl rfl (Nat.le_of_ble_eq_true rfl) (Nat.le_refl _) ⟨Nat.le_refl _, Nat.le_refl _⟩ hC (fun H17 x9 hp => ?_)
        obtain ⟨b18, rfl, hp⟩ := hp
        have h := h H17 b18 hp
        exact gG_exit ⟨rfl, rfl, rfl, dX5_readLetterName_62, b18, rfl, h⟩
    · have h := h.2 c
      refine gG_aload_n dX5_readLetterName_36 rfl rfl ?_
      obtain ⟨fs, q19, e1, e2, h⟩ := h
      refine gG_gr dX5_readLetterName_37 fl_X5_9 ⟨fs, q19, e1, e2, ?_⟩
      refine gG_iconst (v := 2) dX5_readLetterName_40 (by decide) ?_
      obtain ⟨hrc, d2, P2, hdd, hC, h⟩ := h
      refine gG_cvi (As := [.int ((2 : Int32))]) (st := []) dX5_readLetterName_41 mV_X5_45 hdd hrc rfl rfl (Nat.le_of_ble_eq_true rfl) (Nat.le_refl _) ⟨Nat.le_refl _, Nat.le_refl _⟩ hC (fun H20 x9 hp => ?_)
      obtain ⟨b21, rfl, hp⟩ := hp
      have h := h H20 b21 hp
      exact gG_exit ⟨rfl, rfl, rfl, dX5_readLetterName_44, b21, rfl, h⟩
  · have h := h.2 (g_b_f c)
    refine gG_aload_n dX5_readLetterName_10 rfl rfl ?_
    obtain ⟨fs, q22, e1, e2, h⟩ := h
    refine gG_gr dX5_readLetterName_11 fl_X5_9 ⟨fs, q22, e1, e2, ?_⟩
    refine gG_iconst (v := 1) dX5_readLetterName_14 (by decide) ?_
    obtain ⟨hrc, d2, P2, hdd, hC, h⟩ := h
    refine gG_cvi (As := [.int ((1 : Int32))]) (st := []) dX5_readLetterName_15 mV_X5_45 hdd hrc rfl rfl (Nat.le_of_ble_eq_true rfl) (Nat.le_refl _) ⟨Nat.le_refl _, Nat.le_refl _⟩ hC (fun H23 x9 hp => ?_)
    obtain ⟨b24, rfl, hp⟩ := hp
    have h := h H23 b24 hp
    exact gG_exit ⟨rfl, rfl, rfl, dX5_readLetterName_18, b24, rfl, h⟩

theorem kX8_addBytes_0 {d n : Nat} {H : gHp} {P : gHp → Prop} {a0 : Nat} {j1 : Int64} (h : gG d mX8_addBytes 0 0 (g_Xv mX8_addBytes n 0 0 P) 3 n H [some (.ref (a0)), some (.long (j1)), none, some (.int ((56 : Int32))), none, none] [] (0) (0)) : gG d mX8_addBytes 0 0 (g_Xv mX8_addBytes n 0 0 P) 0 n H [some (.ref (a0)), some (.long (j1)), none, none, none, none] [] 0 0 := by
  refine gG_bipush (v := 56) dX8_addBytes_0 (by decide) ?_
  refine gG_istore_n dX8_addBytes_2 rfl (Nat.le_of_ble_eq_true rfl) ?_
  refine gG_locals ?_ h
  exact ⟨rfl, ⟨rfl, ⟨rfl, trivial⟩⟩⟩
theorem kX8_addBytes_3 {d n : Nat} {H : gHp} {P : gHp → Prop} {a0 : Nat} {j1 : Int64} {i3 : Int32} (h : (i3 < 0 → P H) ∧ (¬ (i3 < 0) → ((Int64.toInt32 ((((Int64.toUInt64 (j1) >>> ((Int32.toInt64 (i3)).toUInt64 &&& Int64.toUInt64 63)).toInt64) &&& (255 : Int64)))) = (10 : Int32) → gG d mX8_addBytes 0 0 (g_Xv mX8_addBytes n 0 0 P) 45 n H [some (.ref (a0)), some (.long (j1)), none, some (.int (i3)), some (.int ((Int64.toInt32 ((((Int64.toUInt64 (j1) >>> ((Int32.toInt64 (i3)).toUInt64 &&& Int64.toUInt64 63)).toInt64) &&& (255 : Int64)))))), some (.int ((1 : Int32)))] [] (0) (0)) ∧ (¬ ((Int64.toInt32 ((((Int64.toUInt64 (j1) >>> ((Int32.toInt64 (i3)).toUInt64 &&& Int64.toUInt64 63)).toInt64) &&& (255 : Int64)))) = (10 : Int32)) → ((Int64.toInt32 ((((Int64.toUInt64 (j1) >>> ((Int32.toInt64 (i3)).toUInt64 &&& Int64.toUInt64 63)).toInt64) &&& (255 : Int64)))) < (32 : Int32) → gG d mX8_addBytes 0 0 (g_Xv mX8_addBytes n 0 0 P) 45 n H [some (.ref (a0)), some (.long (j1)), none, some (.int (i3)), some (.int ((Int64.toInt32 ((((Int64.toUInt64 (j1) >>> ((Int32.toInt64 (i3)).toUInt64 &&& Int64.toUInt64 63)).toInt64) &&& (255 : Int64)))))), some (.int ((0 : Int32)))] [] (0) (0)) ∧ (¬ ((Int64.toInt32 ((((Int64.toUInt64 (j1) >>> ((Int32.toInt64 (i3)).toUInt64 &&& Int64.toUInt64 63)).toInt64) &&& (255 : Int64)))) < (32 : Int32)) → ((126 : Int32) < (Int64.toInt32 ((((Int64.toUInt64 (j1) >>> ((Int32.toInt64 (i3)).toUInt64 &&& Int64.toUInt64 63)).toInt64) &&& (255 : Int64)))) → gG d mX8_addBytes 0 0 (g_Xv mX8_addBytes n 0 0 P) 45 n H [some (.ref (a0)), some (.long (j1)), none, some (.int (i3)), some (.int ((Int64.toInt32 ((((Int64.toUInt64 (j1) >>> ((Int32.toInt64 (i3)).toUInt64 &&& Int64.toUInt64 63)).toInt64) &&& (255 : Int64)))))), some (.int ((0 : Int32)))] [] (0) (0)) ∧ (¬ ((126 : Int32) < (Int64.toInt32 ((((Int64.toUInt64 (j1) >>> ((Int32.toInt64 (i3)).toUInt64 &&& Int64.toUInt64 63)).toInt64) &&& (255 : Int64))))) → gG d mX8_addBytes 0 0 (g_Xv mX8_addBytes n 0 0 P) 45 n H [some (.ref (a0)), some (.long (j1)), none, some (.int (i3)), some (.int ((Int64.toInt32 ((((Int64.toUInt64 (j1) >>> ((Int32.toInt64 (i3)).toUInt64 &&& Int64.toUInt64 63)).toInt64) &&& (255 : Int64)))))), some (.int ((1 : Int32)))] [] (0) (0)))))) : gG d mX8_addBytes 0 0 (g_Xv mX8_addBytes n 0 0 P) 3 n H [some (.ref (a0)), some (.long (j1)), none, some (.int (i3)), none, none] [] 0 0 := by
  refine gG_iload_n dX8_addBytes_3 rfl rfl ?_
  refine gG_if_lt (tgt := 88) dX8_addBytes_4 (by decide) (fun c => ?_) (fun c => ?_)
  · have h := h.1 c
    exact gG_exit ⟨rfl, rfl, rfl, dX8_addBytes_88, rfl, h⟩
  · have h := h.2 c
    refine gG_lload_n dX8_addBytes_7 rfl rfl ?_
    refine gG_iload_n dX8_addBytes_8 rfl rfl ?_
    refine gG_lushr dX8_addBytes_9 ?_
    refine gG_ldc2 dX8_addBytes_10 cl_X8_15 ?_
    refine gG_land dX8_addBytes_13 ?_
    refine gG_l2i dX8_addBytes_14 ?_
    refine gG_istore dX8_addBytes_15 (Nat.le_of_ble_eq_true rfl) ?_
    refine gG_iload dX8_addBytes_17 rfl ?_
    refine gG_bipush (v := 10) dX8_addBytes_19 (by decide) ?_
    refine gG_ic_eq (tgt := 38) dX8_addBytes_21 (by decide) (fun c => ?_) (fun c => ?_)
    · have h := h.1 c
      refine gG_iconst (v := 1) dX8_addBytes_38 (by decide) ?_
      refine gG_goto (tgt := 43) dX8_addBytes_39 (by decide) ?_
      refine gG_istore dX8_addBytes_43 (Nat.le_of_ble_eq_true rfl) ?_
      refine gG_locals ?_ h
      exact ⟨rfl, ⟨rfl, ⟨rfl, ⟨rfl, ⟨rfl, trivial⟩⟩⟩⟩⟩
    · have h := h.2 c
      refine gG_iload dX8_addBytes_24 rfl ?_
      refine gG_bipush (v := 32) dX8_addBytes_26 (by decide) ?_
      refine gG_ic_lt (tgt := 42) dX8_addBytes_28 (by decide) (fun c => ?_) (fun c => ?_)
      · have h := h.1 c
        refine gG_iconst (v := 0) dX8_addBytes_42 (by decide) ?_
        refine gG_istore dX8_addBytes_43 (Nat.le_of_ble_eq_true rfl) ?_
        refine gG_locals ?_ h
        exact ⟨rfl, ⟨rfl, ⟨rfl, ⟨rfl, ⟨rfl, trivial⟩⟩⟩⟩⟩
      · have h := h.2 c
        refine gG_iload dX8_addBytes_31 rfl ?_
        refine gG_bipush (v := 126) dX8_addBytes_33 (by decide) ?_
        refine gG_ic_gt (tgt := 42) dX8_addBytes_35 (by decide) (fun c => ?_) (fun c => ?_)
        · have h := h.1 c
          refine gG_iconst (v := 0) dX8_addBytes_42 (by decide) ?_
          refine gG_istore dX8_addBytes_43 (Nat.le_of_ble_eq_true rfl) ?_
          refine gG_locals ?_ h
          exact ⟨rfl, ⟨rfl, ⟨rfl, ⟨rfl, ⟨rfl, trivial⟩⟩⟩⟩⟩
        · have h := h.2 c
          refine gG_iconst (v := 1) dX8_addBytes_38 (by decide) ?_
          refine gG_goto (tgt := 43) dX8_addBytes_39 (by decide) ?_
          refine gG_istore dX8_addBytes_43 (Nat.le_of_ble_eq_true rfl) ?_
          refine gG_locals ?_ h
          exact ⟨rfl, ⟨rfl, ⟨rfl, ⟨rfl, ⟨rfl, trivial⟩⟩⟩⟩⟩
theorem kX8_addBytes_45 {d n : Nat} {H : gHp} {P : gHp → Prop} {a0 : Nat} {j1 : Int64} {i3 : Int32} {i4 : Int32} {i5 : Int32} (h : (i5 = 0 → gG d mX8_addBytes 0 0 (g_Xv mX8_addBytes n 0 0 P) 3 n H [some (.ref (a0)), some (.long (j1)), none, some (.int ((i3 + (-8)))), none, none] [] (0) (0)) ∧ (¬ (i5 = 0) → g_gi H (a0) 8 1 (fun x1 => ((1000 : Int32) ≤ x1 → gG d mX8_addBytes 0 0 (g_Xv mX8_addBytes n 0 0 P) 3 n H [some (.ref (a0)), some (.long (j1)), none, some (.int ((i3 + (-8)))), none, none] [] (0) (0)) ∧ (¬ ((1000 : Int32) ≤ x1) → g_gr H (a0) 8 0 (fun q2 => g_gi H (a0) 8 1 (fun x3 => g_as 2 H (q2) (x3) (vp_nar .char ((Int32.toUInt32 (i4) % 65536).toInt32)) (fun H4 => g_gi H4 (a0) 8 1 (fun x5 => g_pf H4 (a0) 8 1 (.int ((x5 + (1 : Int32)))) (fun H6 => gG d mX8_addBytes 0 0 (g_Xv mX8_addBytes n 0 0 P) 3 n H6 [some (.ref (a0)), some (.long (j1)), none, some (.int ((i3 + (-8)))), none, none] [] (0) (0)))))))))) : gG d mX8_addBytes 0 0 (g_Xv mX8_addBytes n 0 0 P) 45 n H [some (.ref (a0)), some (.long (j1)), none, some (.int (i3)), some (.int (i4)), some (.int (i5))] [] 0 0 := by
  refine gG_iload dX8_addBytes_45 rfl ?_
  refine gG_if_eq (tgt := 82) dX8_addBytes_47 (by decide) (fun c => ?_) (fun c => ?_)
  · have h := h.1 c
    refine gG_iinc (v := i3 + (-8)) dX8_addBytes_82 rfl rfl (Nat.le_of_ble_eq_true rfl) ?_
    refine gG_goto (tgt := 3) dX8_addBytes_85 (by decide) ?_
    refine gG_locals ?_ h
    exact ⟨rfl, ⟨rfl, ⟨rfl, trivial⟩⟩⟩
  · have h := h.2 c
    refine gG_aload_n dX8_addBytes_50 rfl rfl ?_
    obtain ⟨fs, x1, e1, e2, h⟩ := h
    refine gG_gi dX8_addBytes_51 fl_X8_17 ⟨fs, x1, e1, e2, ?_⟩
    refine gG_sipush (v := 1000) dX8_addBytes_54 (by decide) ?_
    refine gG_ic_ge (tgt := 82) dX8_addBytes_57 (by decide) (fun c => ?_) (fun c => ?_)
    · have h := h.1 c
      refine gG_iinc (v := i3 + (-8)) dX8_addBytes_82 rfl rfl (Nat.le_of_ble_eq_true rfl) ?_
      refine gG_goto (tgt := 3) dX8_addBytes_85 (by decide) ?_
      refine gG_locals ?_ h
      exact ⟨rfl, ⟨rfl, ⟨rfl, trivial⟩⟩⟩
    · have h := h.2 c
      refine gG_aload_n dX8_addBytes_60 rfl rfl ?_
      obtain ⟨fs, q2, e1, e2, h⟩ := h
      refine gG_gr dX8_addBytes_61 fl_X8_9 ⟨fs, q2, e1, e2, ?_⟩
      refine gG_aload_n dX8_addBytes_64 rfl rfl ?_
      obtain ⟨fs, x3, e1, e2, h⟩ := h
      refine gG_gi dX8_addBytes_65 fl_X8_17 ⟨fs, x3, e1, e2, ?_⟩
      refine gG_iload dX8_addBytes_68 rfl ?_
      refine gG_i2c dX8_addBytes_70 ?_
      obtain ⟨m0, f0, e1, e2, h⟩ := h
      refine gG_cast dX8_addBytes_71 ⟨m0, f0, e1, e2, ?_⟩
      obtain ⟨H4, eH⟩ : ∃ z, z = va_up H (q2) (.inl (2, m0, .inl (upd f0 (Int32.toNatClampNeg (x3)) (vp_nar .char ((Int32.toUInt32 (i4) % 65536).toInt32))))) := ⟨_, rfl⟩
      rw [← eH] at h ⊢
      refine gG_aload_n dX8_addBytes_72 rfl rfl ?_
      refine gG_dup dX8_addBytes_73 rfl ?_
      obtain ⟨fs, x5, e1, e2, h⟩ := h
      refine gG_gi dX8_addBytes_74 fl_X8_17 ⟨fs, x5, e1, e2, ?_⟩
      refine gG_iconst (v := 1) dX8_addBytes_77 (by decide) ?_
      refine gG_iadd dX8_addBytes_78 ?_
      obtain ⟨fs, e1, e2, h⟩ := h
      refine gG_pi dX8_addBytes_79 fl_X8_17 ⟨fs, e1, e2, ?_⟩
      obtain ⟨H6, eH⟩ : ∃ z, z = va_up H4 (a0) (.inr (8, fs.set 1 (.int ((x5 + (1 : Int32)))))) := ⟨_, rfl⟩
      rw [← eH] at h ⊢
      refine gG_iinc (v := i3 + (-8)) dX8_addBytes_82 rfl rfl (Nat.le_of_ble_eq_true rfl) ?_
      refine gG_goto (tgt := 3) dX8_addBytes_85 (by decide) ?_
      refine gG_locals ?_ h
      exact ⟨rfl, ⟨rfl, ⟨rfl, trivial⟩⟩⟩

theorem kX8_open_0 {d n : Nat} {H : gHp} {P : gHp → Prop} {a0 : Nat} (h : g_pf H (a0) 8 4 (.int ((0 : Int32))) (fun H1 => g_pf H1 (a0) 8 7 (.int ((0 : Int32))) (fun H2 => (∃ fs, H2 (a0) = .inr (8, fs)) ∧ g_cvd d mX8_advance n H2 [.ref (a0)] (fun H3 => P H3)))) : gG d mX8_open 0 0 (g_Xv mX8_open n 0 0 P) 0 n H [some (.ref (a0))] [] 0 0 := by
  refine gG_aload_n dX8_open_0 rfl rfl ?_
  refine gG_iconst (v := 0) dX8_open_1 (by decide) ?_
  obtain ⟨fs, e1, e2, h⟩ := h
  refine gG_pi dX8_open_2 fl_X8_21 ⟨fs, e1, e2, ?_⟩
  obtain ⟨H1, eH⟩ : ∃ z, z = va_up H (a0) (.inr (8, fs.set 4 (.int ((0 : Int32))))) := ⟨_, rfl⟩
  rw [← eH] at h ⊢
  refine gG_aload_n dX8_open_5 rfl rfl ?_
  refine gG_iconst (v := 0) dX8_open_6 (by decide) ?_
  obtain ⟨fs, e1, e2, h⟩ := h
  refine gG_pi dX8_open_7 fl_X8_24 ⟨fs, e1, e2, ?_⟩
  obtain ⟨H2, eH⟩ : ∃ z, z = va_up H1 (a0) (.inr (8, fs.set 7 (.int ((0 : Int32))))) := ⟨_, rfl⟩
  rw [← eH] at h ⊢
  refine gG_aload_n dX8_open_10 rfl rfl ?_
  obtain ⟨hrc, d2, P2, hdd, hC, h⟩ := h
  refine gG_cvv (As := []) (st := []) dX8_open_11 mV_X8_27 hdd hrc rfl rfl (Nat.le_of_ble_eq_true rfl) (Nat.le_refl _) ⟨Nat.le_refl _, Nat.le_refl _⟩ hC (fun H3 hp => ?_)
  have h := h H3 hp
  exact gG_exit ⟨rfl, rfl, rfl, dX8_open_14, rfl, h⟩

theorem kX8_close_0 {d n : Nat} {H : gHp} {P : gHp → Int32 → Prop} {a0 : Nat} (h : g_pf H (a0) 8 1 (.int ((0 : Int32))) (fun H1 => g_gi H1 (a0) 8 7 (fun x2 => P H1 (x2)))) : gG d mX8_close 0 0 (g_Xj mX8_close n 0 0 P) 0 n H [some (.ref (a0))] [] 0 0 := by
  refine gG_aload_n dX8_close_0 rfl rfl ?_
  refine gG_iconst (v := 0) dX8_close_1 (by decide) ?_
  obtain ⟨fs, e1, e2, h⟩ := h
  refine gG_pi dX8_close_2 fl_X8_17 ⟨fs, e1, e2, ?_⟩
  obtain ⟨H1, eH⟩ : ∃ z, z = va_up H (a0) (.inr (8, fs.set 1 (.int ((0 : Int32))))) := ⟨_, rfl⟩
  rw [← eH] at h ⊢
  refine gG_aload_n dX8_close_5 rfl rfl ?_
  obtain ⟨fs, x2, e1, e2, h⟩ := h
  refine gG_gi dX8_close_6 fl_X8_24 ⟨fs, x2, e1, e2, ?_⟩
  exact gG_exit ⟨rfl, rfl, rfl, dX8_close_9, _, rfl, h⟩

theorem kX8_fail_0 {d n : Nat} {H : gHp} {P : gHp → Bool → Prop} {a0 : Nat} {i1 : Int32} (h : g_gi H (a0) 8 7 (fun x1 => (¬ (x1 = 0) → P H false) ∧ (x1 = 0 → g_gi H (a0) 8 3 (fun x2 => g_pf H (a0) 8 7 (.int ((i1 + ((16 : Int32) * x2)))) (fun H3 => P H3 false))))) : gG d mX8_fail 0 0 (g_Xz mX8_fail n 0 0 P) 0 n H [some (.ref (a0)), some (.int (i1))] [] 0 0 := by
  refine gG_aload_n dX8_fail_0 rfl rfl ?_
  obtain ⟨fs, x1, e1, e2, h⟩ := h
  refine gG_gi dX8_fail_1 fl_X8_24 ⟨fs, x1, e1, e2, ?_⟩
  refine gG_if_ne (tgt := 20) dX8_fail_4 (by decide) (fun c => ?_) (fun c => ?_)
  · have h := h.1 c
    refine gG_iconst (v := 0) dX8_fail_20 (by decide) ?_
    exact gG_exit ⟨rfl, rfl, rfl, dX8_fail_21, false, rfl, h⟩
  · have h := h.2 c
    refine gG_aload_n dX8_fail_7 rfl rfl ?_
    refine gG_iload_n dX8_fail_8 rfl rfl ?_
    refine gG_bipush (v := 16) dX8_fail_9 (by decide) ?_
    refine gG_aload_n dX8_fail_11 rfl rfl ?_
    obtain ⟨fs, x2, e1, e2, h⟩ := h
    refine gG_gi dX8_fail_12 fl_X8_30 ⟨fs, x2, e1, e2, ?_⟩
    refine gG_imul dX8_fail_15 ?_
    refine gG_iadd dX8_fail_16 ?_
    obtain ⟨fs, e1, e2, h⟩ := h
    refine gG_pi dX8_fail_17 fl_X8_24 ⟨fs, e1, e2, ?_⟩
    obtain ⟨H3, eH⟩ : ∃ z, z = va_up H (a0) (.inr (8, fs.set 7 (.int ((i1 + ((16 : Int32) * x2)))))) := ⟨_, rfl⟩
    rw [← eH] at h ⊢
    refine gG_iconst (v := 0) dX8_fail_20 (by decide) ?_
    exact gG_exit ⟨rfl, rfl, rfl, dX8_fail_21, false, rfl, h⟩

theorem kX8_advance_0 {d n : Nat} {H : gHp} {P : gHp → Prop} {a0 : Nat} (h : g_gi H (a0) 8 4 (fun x1 => gG d mX8_advance 0 0 (g_Xv mX8_advance n 0 0 P) 5 n H [some (.ref (a0)), some (.int (x1)), none] [] (0) (0))) : gG d mX8_advance 0 0 (g_Xv mX8_advance n 0 0 P) 0 n H [some (.ref (a0)), none, none] [] 0 0 := by
  refine gG_aload_n dX8_advance_0 rfl rfl ?_
  obtain ⟨fs, x1, e1, e2, h⟩ := h
  refine gG_gi dX8_advance_1 fl_X8_21 ⟨fs, x1, e1, e2, ?_⟩
  refine gG_istore_n dX8_advance_4 rfl (Nat.le_of_ble_eq_true rfl) ?_
  refine gG_locals ?_ h
  exact ⟨rfl, ⟨rfl, trivial⟩⟩
theorem kX8_advance_5 {d n : Nat} {H : gHp} {P : gHp → Prop} {a0 : Nat} {i1 : Int32} (h : g_gi H (a0) 8 1 (fun x1 => (x1 ≤ i1 → gG d mX8_advance 0 0 (g_Xv mX8_advance n 0 0 P) 41 n H [some (.ref (a0)), some (.int (i1)), none] [] (0) (0)) ∧ (¬ (x1 ≤ i1) → g_gr H (a0) 8 0 (fun q2 => g_al 2 H (q2) (i1) (fun x3 => (x3 = (10 : Int32) → gG d mX8_advance 0 0 (g_Xv mX8_advance n 0 0 P) 5 n H [some (.ref (a0)), some (.int ((i1 + 1))), none] [] (0) (0)) ∧ (¬ (x3 = (10 : Int32)) → g_gr H (a0) 8 0 (fun q4 => g_al 2 H (q4) (i1) (fun x5 => (¬ (x5 = (32 : Int32)) → gG d mX8_advance 0 0 (g_Xv mX8_advance n 0 0 P) 41 n H [some (.ref (a0)), some (.int (i1)), none] [] (0) (0)) ∧ (x5 = (32 : Int32) → gG d mX8_advance 0 0 (g_Xv mX8_advance n 0 0 P) 5 n H [some (.ref (a0)), some (.int ((i1 + 1))), none] [] (0) (0)))))))))) : gG d mX8_advance 0 0 (g_Xv mX8_advance n 0 0 P) 5 n H [some (.ref (a0)), some (.int (i1)), none] [] 0 0 := by
  refine gG_iload_n dX8_advance_5 rfl rfl ?_
  refine gG_aload_n dX8_advance_6 rfl rfl ?_
  obtain ⟨fs, x1, e1, e2, h⟩ := h
  refine gG_gi dX8_advance_7 fl_X8_17 ⟨fs, x1, e1, e2, ?_⟩
  refine gG_ic_ge (tgt := 41) dX8_advance_10 (by decide) (fun c => ?_) (fun c => ?_)
  · have h := h.1 c
    refine gG_locals ?_ h
    exact ⟨rfl, ⟨rfl, trivial⟩⟩
  · have h := h.2 c
    refine gG_aload_n dX8_advance_13 rfl rfl ?_
    obtain ⟨fs, q2, e1, e2, h⟩ := h
    refine gG_gr dX8_advance_14 fl_X8_9 ⟨fs, q2, e1, e2, ?_⟩
    refine gG_iload_n dX8_advance_17 rfl rfl ?_
    obtain ⟨m0, f0, e1, e2, h⟩ := h
    refine gG_cald dX8_advance_18 ⟨m0, f0, e1, e2, ?_⟩
    obtain ⟨x3, eH⟩ : ∃ z, z = f0 (Int32.toNatClampNeg (i1)) := ⟨_, rfl⟩
    rw [← eH] at h ⊢
    refine gG_bipush (v := 10) dX8_advance_19 (by decide) ?_
    refine gG_ic_eq (tgt := 35) dX8_advance_21 (by decide) (fun c => ?_) (fun c => ?_)
    · have h := h.1 c
      refine gG_iinc (v := i1 + 1) dX8_advance_35 rfl rfl (Nat.le_of_ble_eq_true rfl) ?_
      refine gG_goto (tgt := 5) dX8_advance_38 (by decide) ?_
      refine gG_locals ?_ h
      exact ⟨rfl, ⟨rfl, trivial⟩⟩
    · have h := h.2 c
      refine gG_aload_n dX8_advance_24 rfl rfl ?_
      obtain ⟨fs, q4, e1, e2, h⟩ := h
      refine gG_gr dX8_advance_25 fl_X8_9 ⟨fs, q4, e1, e2, ?_⟩
      refine gG_iload_n dX8_advance_28 rfl rfl ?_
      obtain ⟨m0, f0, e1, e2, h⟩ := h
      refine gG_cald dX8_advance_29 ⟨m0, f0, e1, e2, ?_⟩
      obtain ⟨x5, eH⟩ : ∃ z, z = f0 (Int32.toNatClampNeg (i1)) := ⟨_, rfl⟩
      rw [← eH] at h ⊢
      refine gG_bipush (v := 32) dX8_advance_30 (by decide) ?_
      refine gG_ic_ne (tgt := 41) dX8_advance_32 (by decide) (fun c => ?_) (fun c => ?_)
      · have h := h.1 c
        refine gG_locals ?_ h
        exact ⟨rfl, ⟨rfl, trivial⟩⟩
      · have h := h.2 c
        refine gG_iinc (v := i1 + 1) dX8_advance_35 rfl rfl (Nat.le_of_ble_eq_true rfl) ?_
        refine gG_goto (tgt := 5) dX8_advance_38 (by decide) ?_
        refine gG_locals ?_ h
        exact ⟨rfl, ⟨rfl, trivial⟩⟩
theorem kX8_advance_41 {d n : Nat} {H : gHp} {P : gHp → Prop} {a0 : Nat} {i1 : Int32} (h : g_pf H (a0) 8 3 (.int (i1)) (fun H1 => g_pf H1 (a0) 8 4 (.int (i1)) (fun H2 => g_gi H2 (a0) 8 1 (fun x3 => (i1 < x3 → g_gr H2 (a0) 8 0 (fun q4 => g_al 2 H2 (q4) (i1) (fun x5 => (x5 < (97 : Int32) → gG d mX8_advance 0 0 (g_Xv mX8_advance n 0 0 P) 91 n H2 [some (.ref (a0)), some (.int (i1)), some (.int (x5))] [] (0) (0)) ∧ (¬ (x5 < (97 : Int32)) → ((122 : Int32) < x5 → gG d mX8_advance 0 0 (g_Xv mX8_advance n 0 0 P) 91 n H2 [some (.ref (a0)), some (.int (i1)), some (.int (x5))] [] (0) (0)) ∧ (¬ ((122 : Int32) < x5) → (∃ fs, H2 (a0) = .inr (8, fs)) ∧ g_cvd d mX8_scanWord n H2 [.ref (a0)] (fun H6 => P H6)))))) ∧ (¬ (i1 < x3) → g_pf H2 (a0) 8 2 (.int ((0 : Int32))) (fun H7 => P H7)))))) : gG d mX8_advance 0 0 (g_Xv mX8_advance n 0 0 P) 41 n H [some (.ref (a0)), some (.int (i1)), none] [] 0 0 := by
  refine gG_aload_n dX8_advance_41 rfl rfl ?_
  refine gG_iload_n dX8_advance_42 rfl rfl ?_
  obtain ⟨fs, e1, e2, h⟩ := h
  refine gG_pi dX8_advance_43 fl_X8_30 ⟨fs, e1, e2, ?_⟩
  obtain ⟨H1, eH⟩ : ∃ z, z = va_up H (a0) (.inr (8, fs.set 3 (.int (i1)))) := ⟨_, rfl⟩
  rw [← eH] at h ⊢
  refine gG_aload_n dX8_advance_46 rfl rfl ?_
  refine gG_iload_n dX8_advance_47 rfl rfl ?_
  obtain ⟨fs, e1, e2, h⟩ := h
  refine gG_pi dX8_advance_48 fl_X8_21 ⟨fs, e1, e2, ?_⟩
  obtain ⟨H2, eH⟩ : ∃ z, z = va_up H1 (a0) (.inr (8, fs.set 4 (.int (i1)))) := ⟨_, rfl⟩
  rw [← eH] at h ⊢
  refine gG_iload_n dX8_advance_51 rfl rfl ?_
  refine gG_aload_n dX8_advance_52 rfl rfl ?_
  obtain ⟨fs, x3, e1, e2, h⟩ := h
  refine gG_gi dX8_advance_53 fl_X8_17 ⟨fs, x3, e1, e2, ?_⟩
  refine gG_ic_lt (tgt := 65) dX8_advance_56 (by decide) (fun c => ?_) (fun c => ?_)
  · have h := h.1 c
    refine gG_aload_n dX8_advance_65 rfl rfl ?_
    obtain ⟨fs, q4, e1, e2, h⟩ := h
    refine gG_gr dX8_advance_66 fl_X8_9 ⟨fs, q4, e1, e2, ?_⟩
    refine gG_iload_n dX8_advance_69 rfl rfl ?_
    obtain ⟨m0, f0, e1, e2, h⟩ := h
    refine gG_cald dX8_advance_70 ⟨m0, f0, e1, e2, ?_⟩
    obtain ⟨x5, eH⟩ : ∃ z, z = f0 (Int32.toNatClampNeg (i1)) := ⟨_, rfl⟩
    rw [← eH] at h ⊢
    refine gG_istore_n dX8_advance_71 rfl (Nat.le_of_ble_eq_true rfl) ?_
    refine gG_iload_n dX8_advance_72 rfl rfl ?_
    refine gG_bipush (v := 97) dX8_advance_73 (by decide) ?_
    refine gG_ic_lt (tgt := 91) dX8_advance_75 (by decide) (fun c => ?_) (fun c => ?_)
    · have h := h.1 c
      refine gG_locals ?_ h
      exact ⟨rfl, ⟨rfl, ⟨rfl, trivial⟩⟩⟩
    · have h := h.2 c
      refine gG_iload_n dX8_advance_78 rfl rfl ?_
      refine gG_bipush (v := 122) dX8_advance_79 (by decide) ?_
      refine gG_ic_gt (tgt := 91) dX8_advance_81 (by decide) (fun c => ?_) (fun c => ?_)
      · have h := h.1 c
        refine gG_locals ?_ h
        exact ⟨rfl, ⟨rfl, ⟨rfl, trivial⟩⟩⟩
      · have h := h.2 c
        refine gG_aload_n dX8_advance_84 rfl rfl ?_
        obtain ⟨hrc, d2, P2, hdd, hC, h⟩ := h
        refine gG_cvv (As := []) (st := []) dX8_advance_85 mV_X8_36 hdd hrc rfl rfl (Nat.le_of_ble_eq_true rfl) (Nat.le_refl _) ⟨Nat.le_refl _, Nat.le_refl _⟩ hC (fun H6 hp => ?_)
        have h := h H6 hp
        refine gG_goto (tgt := 135) dX8_advance_88 (by decide) ?_
        exact gG_exit ⟨rfl, rfl, rfl, dX8_advance_135, rfl, h⟩
  · have h := h.2 c
    refine gG_aload_n dX8_advance_59 rfl rfl ?_
    refine gG_iconst (v := 0) dX8_advance_60 (by decide) ?_
    obtain ⟨fs, e1, e2, h⟩ := h
    refine gG_pi dX8_advance_61 fl_X8_33 ⟨fs, e1, e2, ?_⟩
    obtain ⟨H7, eH⟩ : ∃ z, z = va_up H2 (a0) (.inr (8, fs.set 2 (.int ((0 : Int32))))) := ⟨_, rfl⟩
    rw [← eH] at h ⊢
    exact gG_exit ⟨rfl, rfl, rfl, dX8_advance_64, rfl, h⟩
theorem kX8_advance_91 {d n : Nat} {H : gHp} {P : gHp → Prop} {a0 : Nat} {i1 : Int32} {i2 : Int32} (h : (i2 < (48 : Int32) → gG d mX8_advance 0 0 (g_Xv mX8_advance n 0 0 P) 110 n H [some (.ref (a0)), some (.int (i1)), some (.int (i2))] [] (0) (0)) ∧ (¬ (i2 < (48 : Int32)) → ((57 : Int32) < i2 → gG d mX8_advance 0 0 (g_Xv mX8_advance n 0 0 P) 110 n H [some (.ref (a0)), some (.int (i1)), some (.int (i2))] [] (0) (0)) ∧ (¬ ((57 : Int32) < i2) → (∃ fs, H (a0) = .inr (8, fs)) ∧ g_cvd d mX8_scanNumber n H [.ref (a0)] (fun H1 => P H1)))) : gG d mX8_advance 0 0 (g_Xv mX8_advance n 0 0 P) 91 n H [some (.ref (a0)), some (.int (i1)), some (.int (i2))] [] 0 0 := by
  refine gG_iload_n dX8_advance_91 rfl rfl ?_
  refine gG_bipush (v := 48) dX8_advance_92 (by decide) ?_
  refine gG_ic_lt (tgt := 110) dX8_advance_94 (by decide) (fun c => ?_) (fun c => ?_)
  · have h := h.1 c
    refine gG_locals ?_ h
    exact ⟨rfl, ⟨rfl, ⟨rfl, trivial⟩⟩⟩
  · have h := h.2 c
    refine gG_iload_n dX8_advance_97 rfl rfl ?_
    refine gG_bipush (v := 57) dX8_advance_98 (by decide) ?_
    refine gG_ic_gt (tgt := 110) dX8_advance_100 (by decide) (fun c => ?_) (fun c => ?_)
    · have h := h.1 c
      refine gG_locals ?_ h
      exact ⟨rfl, ⟨rfl, ⟨rfl, trivial⟩⟩⟩
    · have h := h.2 c
      refine gG_aload_n dX8_advance_103 rfl rfl ?_
      obtain ⟨hrc, d2, P2, hdd, hC, h⟩ := h
      refine gG_cvv (As := []) (st := []) dX8_advance_104 mV_X8_39 hdd hrc rfl rfl (Nat.le_of_ble_eq_true rfl) (Nat.le_refl _) ⟨Nat.le_refl _, Nat.le_refl _⟩ hC (fun H1 hp => ?_)
      have h := h H1 hp
      refine gG_goto (tgt := 135) dX8_advance_107 (by decide) ?_
      exact gG_exit ⟨rfl, rfl, rfl, dX8_advance_135, rfl, h⟩
theorem kX8_advance_110 {d n : Nat} {H : gHp} {P : gHp → Prop} {a0 : Nat} {i1 : Int32} {i2 : Int32} (h : g_ci d mJ0_indexOf_0f7a4 n H [.float (0), .int (i2)] (fun H1 x2 => (x2 < 0 → g_pf H1 (a0) 8 2 (.int ((1 : Int32))) (fun H3 => g_pf H3 (a0) 8 4 (.int ((i1 + (1 : Int32)))) (fun H4 => P H4))) ∧ (¬ (x2 < 0) → g_pf H1 (a0) 8 2 (.int ((4 : Int32))) (fun H5 => g_pf H5 (a0) 8 4 (.int ((i1 + (1 : Int32)))) (fun H6 => P H6))))) : gG d mX8_advance 0 0 (g_Xv mX8_advance n 0 0 P) 110 n H [some (.ref (a0)), some (.int (i1)), some (.int (i2))] [] 0 0 := by
  refine gG_aload_n dX8_advance_110 rfl rfl ?_
  refine gG_ldcS (t := 0) dX8_advance_111 rfl ?_
  refine gG_iload_n dX8_advance_113 rfl rfl ?_
  obtain ⟨d2, P2, hdd, hC, h⟩ := h
  refine gG_cTi (As := [.int (i2)]) (st := [.ref (a0)]) dX8_advance_114 mT_X8_44 hdd (by decide) rfl rfl (Nat.le_of_ble_eq_true rfl) (Nat.le_refl _) ⟨Nat.le_refl _, Nat.le_refl _⟩ hC (fun H1 x2 hp => ?_)
  have h := h H1 x2 hp
  refine gG_if_lt (tgt := 124) dX8_advance_117 (by decide) (fun c => ?_) (fun c => ?_)
  · have h := h.1 c
    refine gG_iconst (v := 1) dX8_advance_124 (by decide) ?_
    obtain ⟨fs, e1, e2, h⟩ := h
    refine gG_pi dX8_advance_125 fl_X8_33 ⟨fs, e1, e2, ?_⟩
    obtain ⟨H3, eH⟩ : ∃ z, z = va_up H1 (a0) (.inr (8, fs.set 2 (.int ((1 : Int32))))) := ⟨_, rfl⟩
    rw [← eH] at h ⊢
    refine gG_aload_n dX8_advance_128 rfl rfl ?_
    refine gG_iload_n dX8_advance_129 rfl rfl ?_
    refine gG_iconst (v := 1) dX8_advance_130 (by decide) ?_
    refine gG_iadd dX8_advance_131 ?_
    obtain ⟨fs, e1, e2, h⟩ := h
    refine gG_pi dX8_advance_132 fl_X8_21 ⟨fs, e1, e2, ?_⟩
    obtain ⟨H4, eH⟩ : ∃ z, z = va_up H3 (a0) (.inr (8, fs.set 4 (.int ((i1 + (1 : Int32)))))) := ⟨_, rfl⟩
    rw [← eH] at h ⊢
    exact gG_exit ⟨rfl, rfl, rfl, dX8_advance_135, rfl, h⟩
  · have h := h.2 c
    refine gG_iconst (v := 4) dX8_advance_120 (by decide) ?_
    refine gG_goto (tgt := 125) dX8_advance_121 (by decide) ?_
    obtain ⟨fs, e1, e2, h⟩ := h
    refine gG_pi dX8_advance_125 fl_X8_33 ⟨fs, e1, e2, ?_⟩
    obtain ⟨H5, eH⟩ : ∃ z, z = va_up H1 (a0) (.inr (8, fs.set 2 (.int ((4 : Int32))))) := ⟨_, rfl⟩
    rw [← eH] at h ⊢
    refine gG_aload_n dX8_advance_128 rfl rfl ?_
    refine gG_iload_n dX8_advance_129 rfl rfl ?_
    refine gG_iconst (v := 1) dX8_advance_130 (by decide) ?_
    refine gG_iadd dX8_advance_131 ?_
    obtain ⟨fs, e1, e2, h⟩ := h
    refine gG_pi dX8_advance_132 fl_X8_21 ⟨fs, e1, e2, ?_⟩
    obtain ⟨H6, eH⟩ : ∃ z, z = va_up H5 (a0) (.inr (8, fs.set 4 (.int ((i1 + (1 : Int32)))))) := ⟨_, rfl⟩
    rw [← eH] at h ⊢
    exact gG_exit ⟨rfl, rfl, rfl, dX8_advance_135, rfl, h⟩

theorem kX8_scanWord_0 {d n : Nat} {H : gHp} {P : gHp → Prop} {a0 : Nat} (h : g_pf H (a0) 8 5 (.long ((0 : Int64))) (fun H1 => gG d mX8_scanWord 0 0 (g_Xv mX8_scanWord n 0 0 P) 5 n H1 [some (.ref (a0))] [] (0) (0))) : gG d mX8_scanWord 0 0 (g_Xv mX8_scanWord n 0 0 P) 0 n H [some (.ref (a0))] [] 0 0 := by
  refine gG_aload_n dX8_scanWord_0 rfl rfl ?_
  refine gG_lconst (v := 0) dX8_scanWord_1 (by decide) ?_
  obtain ⟨fs, e1, e2, h⟩ := h
  refine gG_pl dX8_scanWord_2 fl_X8_50 ⟨fs, e1, e2, ?_⟩
  obtain ⟨H1, eH⟩ : ∃ z, z = va_up H (a0) (.inr (8, fs.set 5 (.long ((0 : Int64))))) := ⟨_, rfl⟩
  rw [← eH] at h ⊢
  refine gG_locals ?_ h
  exact ⟨rfl, trivial⟩
theorem kX8_scanWord_5 {d n : Nat} {H : gHp} {P : gHp → Prop} {a0 : Nat} (h : g_gi H (a0) 8 4 (fun x1 => g_gi H (a0) 8 1 (fun x2 => (x2 ≤ x1 → gG d mX8_scanWord 0 0 (g_Xv mX8_scanWord n 0 0 P) 85 n H [some (.ref (a0))] [] (0) (0)) ∧ (¬ (x2 ≤ x1) → g_gr H (a0) 8 0 (fun q3 => g_gi H (a0) 8 4 (fun x4 => g_al 2 H (q3) (x4) (fun x5 => (x5 < (97 : Int32) → gG d mX8_scanWord 0 0 (g_Xv mX8_scanWord n 0 0 P) 85 n H [some (.ref (a0))] [] (0) (0)) ∧ (¬ (x5 < (97 : Int32)) → g_gr H (a0) 8 0 (fun q6 => g_gi H (a0) 8 4 (fun x7 => g_al 2 H (q6) (x7) (fun x8 => ((122 : Int32) < x8 → gG d mX8_scanWord 0 0 (g_Xv mX8_scanWord n 0 0 P) 85 n H [some (.ref (a0))] [] (0) (0)) ∧ (¬ ((122 : Int32) < x8) → g_gl H (a0) 8 5 (fun y9 => g_gr H (a0) 8 0 (fun q10 => g_gi H (a0) 8 4 (fun x11 => g_al 2 H (q10) (x11) (fun x12 => g_pf H (a0) 8 5 (.long (((y9 * (32 : Int64)) + (Int32.toInt64 (((x12 - (97 : Int32)) + (1 : Int32))))))) (fun H13 => g_gi H13 (a0) 8 4 (fun x14 => g_pf H13 (a0) 8 4 (.int ((x14 + (1 : Int32)))) (fun H15 => gG d mX8_scanWord 0 0 (g_Xv mX8_scanWord n 0 0 P) 5 n H15 [some (.ref (a0))] [] (0) (0)))))))))))))))))))) : gG d mX8_scanWord 0 0 (g_Xv mX8_scanWord n 0 0 P) 5 n H [some (.ref (a0))] [] 0 0 := by
  refine gG_aload_n dX8_scanWord_5 rfl rfl ?_
  obtain ⟨fs, x1, e1, e2, h⟩ := h
  refine gG_gi dX8_scanWord_6 fl_X8_21 ⟨fs, x1, e1, e2, ?_⟩
  refine gG_aload_n dX8_scanWord_9 rfl rfl ?_
  obtain ⟨fs, x2, e1, e2, h⟩ := h
  refine gG_gi dX8_scanWord_10 fl_X8_17 ⟨fs, x2, e1, e2, ?_⟩
  refine gG_ic_ge (tgt := 85) dX8_scanWord_13 (by decide) (fun c => ?_) (fun c => ?_)
  · have h := h.1 c
    refine gG_locals ?_ h
    exact ⟨rfl, trivial⟩
  · have h := h.2 c
    refine gG_aload_n dX8_scanWord_16 rfl rfl ?_
    obtain ⟨fs, q3, e1, e2, h⟩ := h
    refine gG_gr dX8_scanWord_17 fl_X8_9 ⟨fs, q3, e1, e2, ?_⟩
    refine gG_aload_n dX8_scanWord_20 rfl rfl ?_
    obtain ⟨fs, x4, e1, e2, h⟩ := h
    refine gG_gi dX8_scanWord_21 fl_X8_21 ⟨fs, x4, e1, e2, ?_⟩
    obtain ⟨m0, f0, e1, e2, h⟩ := h
    refine gG_cald dX8_scanWord_24 ⟨m0, f0, e1, e2, ?_⟩
    obtain ⟨x5, eH⟩ : ∃ z, z = f0 (Int32.toNatClampNeg (x4)) := ⟨_, rfl⟩
    rw [← eH] at h ⊢
    refine gG_bipush (v := 97) dX8_scanWord_25 (by decide) ?_
    refine gG_ic_lt (tgt := 85) dX8_scanWord_27 (by decide) (fun c => ?_) (fun c => ?_)
    · have h := h.1 c
      refine gG_locals ?_ h
      exact ⟨rfl, trivial⟩
    · have h := h.2 c
      refine gG_aload_n dX8_scanWord_30 rfl rfl ?_
      obtain ⟨fs, q6, e1, e2, h⟩ := h
      refine gG_gr dX8_scanWord_31 fl_X8_9 ⟨fs, q6, e1, e2, ?_⟩
      refine gG_aload_n dX8_scanWord_34 rfl rfl ?_
      obtain ⟨fs, x7, e1, e2, h⟩ := h
      refine gG_gi dX8_scanWord_35 fl_X8_21 ⟨fs, x7, e1, e2, ?_⟩
      obtain ⟨m0, f0, e1, e2, h⟩ := h
      refine gG_cald dX8_scanWord_38 ⟨m0, f0, e1, e2, ?_⟩
      obtain ⟨x8, eH⟩ : ∃ z, z = f0 (Int32.toNatClampNeg (x7)) := ⟨_, rfl⟩
      rw [← eH] at h ⊢
      refine gG_bipush (v := 122) dX8_scanWord_39 (by decide) ?_
      refine gG_ic_gt (tgt := 85) dX8_scanWord_41 (by decide) (fun c => ?_) (fun c => ?_)
      · have h := h.1 c
        refine gG_locals ?_ h
        exact ⟨rfl, trivial⟩
      · have h := h.2 c
        refine gG_aload_n dX8_scanWord_44 rfl rfl ?_
        refine gG_aload_n dX8_scanWord_45 rfl rfl ?_
        obtain ⟨fs, y9, e1, e2, h⟩ := h
        refine gG_gl dX8_scanWord_46 fl_X8_50 ⟨fs, y9, e1, e2, ?_⟩
        refine gG_ldc2 dX8_scanWord_49 cl_X8_54 ?_
        refine gG_lmul dX8_scanWord_52 ?_
        refine gG_aload_n dX8_scanWord_53 rfl rfl ?_
        obtain ⟨fs, q10, e1, e2, h⟩ := h
        refine gG_gr dX8_scanWord_54 fl_X8_9 ⟨fs, q10, e1, e2, ?_⟩
        refine gG_aload_n dX8_scanWord_57 rfl rfl ?_
        obtain ⟨fs, x11, e1, e2, h⟩ := h
        refine gG_gi dX8_scanWord_58 fl_X8_21 ⟨fs, x11, e1, e2, ?_⟩
        obtain ⟨m0, f0, e1, e2, h⟩ := h
        refine gG_cald dX8_scanWord_61 ⟨m0, f0, e1, e2, ?_⟩
        obtain ⟨x12, eH⟩ : ∃ z, z = f0 (Int32.toNatClampNeg (x11)) := ⟨_, rfl⟩
        rw [← eH] at h ⊢
        refine gG_bipush (v := 97) dX8_scanWord_62 (by decide) ?_
        refine gG_isub dX8_scanWord_64 ?_
        refine gG_iconst (v := 1) dX8_scanWord_65 (by decide) ?_
        refine gG_iadd dX8_scanWord_66 ?_
        refine gG_i2l dX8_scanWord_67 ?_
        refine gG_ladd dX8_scanWord_68 ?_
        obtain ⟨fs, e1, e2, h⟩ := h
        refine gG_pl dX8_scanWord_69 fl_X8_50 ⟨fs, e1, e2, ?_⟩
        obtain ⟨H13, eH⟩ : ∃ z, z = va_up H (a0) (.inr (8, fs.set 5 (.long (((y9 * (32 : Int64)) + (Int32.toInt64 (((x12 - (97 : Int32)) + (1 : Int32))))))))) := ⟨_, rfl⟩
        rw [← eH] at h ⊢
        refine gG_aload_n dX8_scanWord_72 rfl rfl ?_
        refine gG_dup dX8_scanWord_73 rfl ?_
        obtain ⟨fs, x14, e1, e2, h⟩ := h
        refine gG_gi dX8_scanWord_74 fl_X8_21 ⟨fs, x14, e1, e2, ?_⟩
        refine gG_iconst (v := 1) dX8_scanWord_77 (by decide) ?_
        refine gG_iadd dX8_scanWord_78 ?_
        obtain ⟨fs, e1, e2, h⟩ := h
        refine gG_pi dX8_scanWord_79 fl_X8_21 ⟨fs, e1, e2, ?_⟩
        obtain ⟨H15, eH⟩ : ∃ z, z = va_up H13 (a0) (.inr (8, fs.set 4 (.int ((x14 + (1 : Int32)))))) := ⟨_, rfl⟩
        rw [← eH] at h ⊢
        refine gG_goto (tgt := 5) dX8_scanWord_82 (by decide) ?_
        refine gG_locals ?_ h
        exact ⟨rfl, trivial⟩
theorem kX8_scanWord_85 {d n : Nat} {H : gHp} {P : gHp → Prop} {a0 : Nat} (h : g_gi H (a0) 8 4 (fun x1 => g_gi H (a0) 8 3 (fun x2 => ((8 : Int32) < (x1 - x2) → g_pf H (a0) 8 2 (.int ((1 : Int32))) (fun H3 => P H3)) ∧ (¬ ((8 : Int32) < (x1 - x2)) → g_pf H (a0) 8 2 (.int ((2 : Int32))) (fun H4 => P H4))))) : gG d mX8_scanWord 0 0 (g_Xv mX8_scanWord n 0 0 P) 85 n H [some (.ref (a0))] [] 0 0 := by
  refine gG_aload_n dX8_scanWord_85 rfl rfl ?_
  refine gG_aload_n dX8_scanWord_86 rfl rfl ?_
  obtain ⟨fs, x1, e1, e2, h⟩ := h
  refine gG_gi dX8_scanWord_87 fl_X8_21 ⟨fs, x1, e1, e2, ?_⟩
  refine gG_aload_n dX8_scanWord_90 rfl rfl ?_
  obtain ⟨fs, x2, e1, e2, h⟩ := h
  refine gG_gi dX8_scanWord_91 fl_X8_30 ⟨fs, x2, e1, e2, ?_⟩
  refine gG_isub dX8_scanWord_94 ?_
  refine gG_bipush (v := 8) dX8_scanWord_95 (by decide) ?_
  refine gG_ic_gt (tgt := 104) dX8_scanWord_97 (by decide) (fun c => ?_) (fun c => ?_)
  · have h := h.1 c
    refine gG_iconst (v := 1) dX8_scanWord_104 (by decide) ?_
    obtain ⟨fs, e1, e2, h⟩ := h
    refine gG_pi dX8_scanWord_105 fl_X8_33 ⟨fs, e1, e2, ?_⟩
    obtain ⟨H3, eH⟩ : ∃ z, z = va_up H (a0) (.inr (8, fs.set 2 (.int ((1 : Int32))))) := ⟨_, rfl⟩
    rw [← eH] at h ⊢
    exact gG_exit ⟨rfl, rfl, rfl, dX8_scanWord_108, rfl, h⟩
  · have h := h.2 c
    refine gG_iconst (v := 2) dX8_scanWord_100 (by decide) ?_
    refine gG_goto (tgt := 105) dX8_scanWord_101 (by decide) ?_
    obtain ⟨fs, e1, e2, h⟩ := h
    refine gG_pi dX8_scanWord_105 fl_X8_33 ⟨fs, e1, e2, ?_⟩
    obtain ⟨H4, eH⟩ : ∃ z, z = va_up H (a0) (.inr (8, fs.set 2 (.int ((2 : Int32))))) := ⟨_, rfl⟩
    rw [← eH] at h ⊢
    exact gG_exit ⟨rfl, rfl, rfl, dX8_scanWord_108, rfl, h⟩

theorem kX8_scanNumber_0 {d n : Nat} {H : gHp} {P : gHp → Prop} {a0 : Nat} (h : g_pf H (a0) 8 6 (.int ((0 : Int32))) (fun H1 => gG d mX8_scanNumber 0 0 (g_Xv mX8_scanNumber n 0 0 P) 5 n H1 [some (.ref (a0))] [] (0) (0))) : gG d mX8_scanNumber 0 0 (g_Xv mX8_scanNumber n 0 0 P) 0 n H [some (.ref (a0))] [] 0 0 := by
  refine gG_aload_n dX8_scanNumber_0 rfl rfl ?_
  refine gG_iconst (v := 0) dX8_scanNumber_1 (by decide) ?_
  obtain ⟨fs, e1, e2, h⟩ := h
  refine gG_pi dX8_scanNumber_2 fl_X8_56 ⟨fs, e1, e2, ?_⟩
  obtain ⟨H1, eH⟩ : ∃ z, z = va_up H (a0) (.inr (8, fs.set 6 (.int ((0 : Int32))))) := ⟨_, rfl⟩
  rw [← eH] at h ⊢
  refine gG_locals ?_ h
  exact ⟨rfl, trivial⟩
theorem kX8_scanNumber_5 {d n : Nat} {H : gHp} {P : gHp → Prop} {a0 : Nat} (h : g_gi H (a0) 8 4 (fun x1 => g_gi H (a0) 8 1 (fun x2 => (x2 ≤ x1 → gG d mX8_scanNumber 0 0 (g_Xv mX8_scanNumber n 0 0 P) 81 n H [some (.ref (a0))] [] (0) (0)) ∧ (¬ (x2 ≤ x1) → g_gr H (a0) 8 0 (fun q3 => g_gi H (a0) 8 4 (fun x4 => g_al 2 H (q3) (x4) (fun x5 => (x5 < (48 : Int32) → gG d mX8_scanNumber 0 0 (g_Xv mX8_scanNumber n 0 0 P) 81 n H [some (.ref (a0))] [] (0) (0)) ∧ (¬ (x5 < (48 : Int32)) → g_gr H (a0) 8 0 (fun q6 => g_gi H (a0) 8 4 (fun x7 => g_al 2 H (q6) (x7) (fun x8 => ((57 : Int32) < x8 → gG d mX8_scanNumber 0 0 (g_Xv mX8_scanNumber n 0 0 P) 81 n H [some (.ref (a0))] [] (0) (0)) ∧ (¬ ((57 : Int32) < x8) → g_gi H (a0) 8 6 (fun x9 => g_gr H (a0) 8 0 (fun q10 => g_gi H (a0) 8 4 (fun x11 => g_al 2 H (q10) (x11) (fun x12 => g_pf H (a0) 8 6 (.int (((x9 * (10 : Int32)) + (x12 - (48 : Int32))))) (fun H13 => g_gi H13 (a0) 8 4 (fun x14 => g_pf H13 (a0) 8 4 (.int ((x14 + (1 : Int32)))) (fun H15 => gG d mX8_scanNumber 0 0 (g_Xv mX8_scanNumber n 0 0 P) 5 n H15 [some (.ref (a0))] [] (0) (0)))))))))))))))))))) : gG d mX8_scanNumber 0 0 (g_Xv mX8_scanNumber n 0 0 P) 5 n H [some (.ref (a0))] [] 0 0 := by
  refine gG_aload_n dX8_scanNumber_5 rfl rfl ?_
  obtain ⟨fs, x1, e1, e2, h⟩ := h
  refine gG_gi dX8_scanNumber_6 fl_X8_21 ⟨fs, x1, e1, e2, ?_⟩
  refine gG_aload_n dX8_scanNumber_9 rfl rfl ?_
  obtain ⟨fs, x2, e1, e2, h⟩ := h
  refine gG_gi dX8_scanNumber_10 fl_X8_17 ⟨fs, x2, e1, e2, ?_⟩
  refine gG_ic_ge (tgt := 81) dX8_scanNumber_13 (by decide) (fun c => ?_) (fun c => ?_)
  · have h := h.1 c
    refine gG_locals ?_ h
    exact ⟨rfl, trivial⟩
  · have h := h.2 c
    refine gG_aload_n dX8_scanNumber_16 rfl rfl ?_
    obtain ⟨fs, q3, e1, e2, h⟩ := h
    refine gG_gr dX8_scanNumber_17 fl_X8_9 ⟨fs, q3, e1, e2, ?_⟩
    refine gG_aload_n dX8_scanNumber_20 rfl rfl ?_
    obtain ⟨fs, x4, e1, e2, h⟩ := h
    refine gG_gi dX8_scanNumber_21 fl_X8_21 ⟨fs, x4, e1, e2, ?_⟩
    obtain ⟨m0, f0, e1, e2, h⟩ := h
    refine gG_cald dX8_scanNumber_24 ⟨m0, f0, e1, e2, ?_⟩
    obtain ⟨x5, eH⟩ : ∃ z, z = f0 (Int32.toNatClampNeg (x4)) := ⟨_, rfl⟩
    rw [← eH] at h ⊢
    refine gG_bipush (v := 48) dX8_scanNumber_25 (by decide) ?_
    refine gG_ic_lt (tgt := 81) dX8_scanNumber_27 (by decide) (fun c => ?_) (fun c => ?_)
    · have h := h.1 c
      refine gG_locals ?_ h
      exact ⟨rfl, trivial⟩
    · have h := h.2 c
      refine gG_aload_n dX8_scanNumber_30 rfl rfl ?_
      obtain ⟨fs, q6, e1, e2, h⟩ := h
      refine gG_gr dX8_scanNumber_31 fl_X8_9 ⟨fs, q6, e1, e2, ?_⟩
      refine gG_aload_n dX8_scanNumber_34 rfl rfl ?_
      obtain ⟨fs, x7, e1, e2, h⟩ := h
      refine gG_gi dX8_scanNumber_35 fl_X8_21 ⟨fs, x7, e1, e2, ?_⟩
      obtain ⟨m0, f0, e1, e2, h⟩ := h
      refine gG_cald dX8_scanNumber_38 ⟨m0, f0, e1, e2, ?_⟩
      obtain ⟨x8, eH⟩ : ∃ z, z = f0 (Int32.toNatClampNeg (x7)) := ⟨_, rfl⟩
      rw [← eH] at h ⊢
      refine gG_bipush (v := 57) dX8_scanNumber_39 (by decide) ?_
      refine gG_ic_gt (tgt := 81) dX8_scanNumber_41 (by decide) (fun c => ?_) (fun c => ?_)
      · have h := h.1 c
        refine gG_locals ?_ h
        exact ⟨rfl, trivial⟩
      · have h := h.2 c
        refine gG_aload_n dX8_scanNumber_44 rfl rfl ?_
        refine gG_aload_n dX8_scanNumber_45 rfl rfl ?_
        obtain ⟨fs, x9, e1, e2, h⟩ := h
        refine gG_gi dX8_scanNumber_46 fl_X8_56 ⟨fs, x9, e1, e2, ?_⟩
        refine gG_bipush (v := 10) dX8_scanNumber_49 (by decide) ?_
        refine gG_imul dX8_scanNumber_51 ?_
        refine gG_aload_n dX8_scanNumber_52 rfl rfl ?_
        obtain ⟨fs, q10, e1, e2, h⟩ := h
        refine gG_gr dX8_scanNumber_53 fl_X8_9 ⟨fs, q10, e1, e2, ?_⟩
        refine gG_aload_n dX8_scanNumber_56 rfl rfl ?_
        obtain ⟨fs, x11, e1, e2, h⟩ := h
        refine gG_gi dX8_scanNumber_57 fl_X8_21 ⟨fs, x11, e1, e2, ?_⟩
        obtain ⟨m0, f0, e1, e2, h⟩ := h
        refine gG_cald dX8_scanNumber_60 ⟨m0, f0, e1, e2, ?_⟩
        obtain ⟨x12, eH⟩ : ∃ z, z = f0 (Int32.toNatClampNeg (x11)) := ⟨_, rfl⟩
        rw [← eH] at h ⊢
        refine gG_bipush (v := 48) dX8_scanNumber_61 (by decide) ?_
        refine gG_isub dX8_scanNumber_63 ?_
        refine gG_iadd dX8_scanNumber_64 ?_
        obtain ⟨fs, e1, e2, h⟩ := h
        refine gG_pi dX8_scanNumber_65 fl_X8_56 ⟨fs, e1, e2, ?_⟩
        obtain ⟨H13, eH⟩ : ∃ z, z = va_up H (a0) (.inr (8, fs.set 6 (.int (((x9 * (10 : Int32)) + (x12 - (48 : Int32))))))) := ⟨_, rfl⟩
        rw [← eH] at h ⊢
        refine gG_aload_n dX8_scanNumber_68 rfl rfl ?_
        refine gG_dup dX8_scanNumber_69 rfl ?_
        obtain ⟨fs, x14, e1, e2, h⟩ := h
        refine gG_gi dX8_scanNumber_70 fl_X8_21 ⟨fs, x14, e1, e2, ?_⟩
        refine gG_iconst (v := 1) dX8_scanNumber_73 (by decide) ?_
        refine gG_iadd dX8_scanNumber_74 ?_
        obtain ⟨fs, e1, e2, h⟩ := h
        refine gG_pi dX8_scanNumber_75 fl_X8_21 ⟨fs, e1, e2, ?_⟩
        obtain ⟨H15, eH⟩ : ∃ z, z = va_up H13 (a0) (.inr (8, fs.set 4 (.int ((x14 + (1 : Int32)))))) := ⟨_, rfl⟩
        rw [← eH] at h ⊢
        refine gG_goto (tgt := 5) dX8_scanNumber_78 (by decide) ?_
        refine gG_locals ?_ h
        exact ⟨rfl, trivial⟩
theorem kX8_scanNumber_81 {d n : Nat} {H : gHp} {P : gHp → Prop} {a0 : Nat} (h : g_gi H (a0) 8 4 (fun x1 => g_gi H (a0) 8 3 (fun x2 => ((4 : Int32) < (x1 - x2) → g_pf H (a0) 8 2 (.int ((1 : Int32))) (fun H3 => P H3)) ∧ (¬ ((4 : Int32) < (x1 - x2)) → g_pf H (a0) 8 2 (.int ((3 : Int32))) (fun H4 => P H4))))) : gG d mX8_scanNumber 0 0 (g_Xv mX8_scanNumber n 0 0 P) 81 n H [some (.ref (a0))] [] 0 0 := by
  refine gG_aload_n dX8_scanNumber_81 rfl rfl ?_
  refine gG_aload_n dX8_scanNumber_82 rfl rfl ?_
  obtain ⟨fs, x1, e1, e2, h⟩ := h
  refine gG_gi dX8_scanNumber_83 fl_X8_21 ⟨fs, x1, e1, e2, ?_⟩
  refine gG_aload_n dX8_scanNumber_86 rfl rfl ?_
  obtain ⟨fs, x2, e1, e2, h⟩ := h
  refine gG_gi dX8_scanNumber_87 fl_X8_30 ⟨fs, x2, e1, e2, ?_⟩
  refine gG_isub dX8_scanNumber_90 ?_
  refine gG_iconst (v := 4) dX8_scanNumber_91 (by decide) ?_
  refine gG_ic_gt (tgt := 99) dX8_scanNumber_92 (by decide) (fun c => ?_) (fun c => ?_)
  · have h := h.1 c
    refine gG_iconst (v := 1) dX8_scanNumber_99 (by decide) ?_
    obtain ⟨fs, e1, e2, h⟩ := h
    refine gG_pi dX8_scanNumber_100 fl_X8_33 ⟨fs, e1, e2, ?_⟩
    obtain ⟨H3, eH⟩ : ∃ z, z = va_up H (a0) (.inr (8, fs.set 2 (.int ((1 : Int32))))) := ⟨_, rfl⟩
    rw [← eH] at h ⊢
    exact gG_exit ⟨rfl, rfl, rfl, dX8_scanNumber_103, rfl, h⟩
  · have h := h.2 c
    refine gG_iconst (v := 3) dX8_scanNumber_95 (by decide) ?_
    refine gG_goto (tgt := 100) dX8_scanNumber_96 (by decide) ?_
    obtain ⟨fs, e1, e2, h⟩ := h
    refine gG_pi dX8_scanNumber_100 fl_X8_33 ⟨fs, e1, e2, ?_⟩
    obtain ⟨H4, eH⟩ : ∃ z, z = va_up H (a0) (.inr (8, fs.set 2 (.int ((3 : Int32))))) := ⟨_, rfl⟩
    rw [← eH] at h ⊢
    exact gG_exit ⟨rfl, rfl, rfl, dX8_scanNumber_103, rfl, h⟩

theorem kX8_isEnd_0 {d n : Nat} {H : gHp} {P : gHp → Bool → Prop} {a0 : Nat} (h : g_gi H (a0) 8 2 (fun x1 => (¬ (x1 = 0) → P H false) ∧ (x1 = 0 → P H true))) : gG d mX8_isEnd 0 0 (g_Xz mX8_isEnd n 0 0 P) 0 n H [some (.ref (a0))] [] 0 0 := by
  refine gG_aload_n dX8_isEnd_0 rfl rfl ?_
  obtain ⟨fs, x1, e1, e2, h⟩ := h
  refine gG_gi dX8_isEnd_1 fl_X8_33 ⟨fs, x1, e1, e2, ?_⟩
  refine gG_if_ne (tgt := 11) dX8_isEnd_4 (by decide) (fun c => ?_) (fun c => ?_)
  · have h := h.1 c
    refine gG_iconst (v := 0) dX8_isEnd_11 (by decide) ?_
    exact gG_exit ⟨rfl, rfl, rfl, dX8_isEnd_12, false, rfl, h⟩
  · have h := h.2 c
    refine gG_iconst (v := 1) dX8_isEnd_7 (by decide) ?_
    refine gG_goto (tgt := 12) dX8_isEnd_8 (by decide) ?_
    exact gG_exit ⟨rfl, rfl, rfl, dX8_isEnd_12, true, rfl, h⟩

theorem kX8_isNumber_0 {d n : Nat} {H : gHp} {P : gHp → Bool → Prop} {a0 : Nat} (h : g_gi H (a0) 8 2 (fun x1 => (¬ (x1 = (3 : Int32)) → P H false) ∧ (x1 = (3 : Int32) → P H true))) : gG d mX8_isNumber 0 0 (g_Xz mX8_isNumber n 0 0 P) 0 n H [some (.ref (a0))] [] 0 0 := by
  refine gG_aload_n dX8_isNumber_0 rfl rfl ?_
  obtain ⟨fs, x1, e1, e2, h⟩ := h
  refine gG_gi dX8_isNumber_1 fl_X8_33 ⟨fs, x1, e1, e2, ?_⟩
  refine gG_iconst (v := 3) dX8_isNumber_4 (by decide) ?_
  refine gG_ic_ne (tgt := 12) dX8_isNumber_5 (by decide) (fun c => ?_) (fun c => ?_)
  · have h := h.1 c
    refine gG_iconst (v := 0) dX8_isNumber_12 (by decide) ?_
    exact gG_exit ⟨rfl, rfl, rfl, dX8_isNumber_13, false, rfl, h⟩
  · have h := h.2 c
    refine gG_iconst (v := 1) dX8_isNumber_8 (by decide) ?_
    refine gG_goto (tgt := 13) dX8_isNumber_9 (by decide) ?_
    exact gG_exit ⟨rfl, rfl, rfl, dX8_isNumber_13, true, rfl, h⟩

theorem kX8_isSign_0 {d n : Nat} {H : gHp} {P : gHp → Bool → Prop} {a0 : Nat} {i1 : Int32} (h : g_gi H (a0) 8 2 (fun x1 => (¬ (x1 = (4 : Int32)) → P H false) ∧ (x1 = (4 : Int32) → g_gi H (a0) 8 3 (fun x2 => g_gi H (a0) 8 1 (fun x3 => (x3 ≤ x2 → P H false) ∧ (¬ (x3 ≤ x2) → g_gr H (a0) 8 0 (fun q4 => g_gi H (a0) 8 3 (fun x5 => g_al 2 H (q4) (x5) (fun x6 => (¬ (x6 = i1) → P H false) ∧ (x6 = i1 → P H true)))))))))) : gG d mX8_isSign 0 0 (g_Xz mX8_isSign n 0 0 P) 0 n H [some (.ref (a0)), some (.int (i1))] [] 0 0 := by
  refine gG_aload_n dX8_isSign_0 rfl rfl ?_
  obtain ⟨fs, x1, e1, e2, h⟩ := h
  refine gG_gi dX8_isSign_1 fl_X8_33 ⟨fs, x1, e1, e2, ?_⟩
  refine gG_iconst (v := 4) dX8_isSign_4 (by decide) ?_
  refine gG_ic_ne (tgt := 36) dX8_isSign_5 (by decide) (fun c => ?_) (fun c => ?_)
  · have h := h.1 c
    refine gG_iconst (v := 0) dX8_isSign_36 (by decide) ?_
    exact gG_exit ⟨rfl, rfl, rfl, dX8_isSign_37, false, rfl, h⟩
  · have h := h.2 c
    refine gG_aload_n dX8_isSign_8 rfl rfl ?_
    obtain ⟨fs, x2, e1, e2, h⟩ := h
    refine gG_gi dX8_isSign_9 fl_X8_30 ⟨fs, x2, e1, e2, ?_⟩
    refine gG_aload_n dX8_isSign_12 rfl rfl ?_
    obtain ⟨fs, x3, e1, e2, h⟩ := h
    refine gG_gi dX8_isSign_13 fl_X8_17 ⟨fs, x3, e1, e2, ?_⟩
    refine gG_ic_ge (tgt := 36) dX8_isSign_16 (by decide) (fun c => ?_) (fun c => ?_)
    · have h := h.1 c
      refine gG_iconst (v := 0) dX8_isSign_36 (by decide) ?_
      exact gG_exit ⟨rfl, rfl, rfl, dX8_isSign_37, false, rfl, h⟩
    · have h := h.2 c
      refine gG_aload_n dX8_isSign_19 rfl rfl ?_
      obtain ⟨fs, q4, e1, e2, h⟩ := h
      refine gG_gr dX8_isSign_20 fl_X8_9 ⟨fs, q4, e1, e2, ?_⟩
      refine gG_aload_n dX8_isSign_23 rfl rfl ?_
      obtain ⟨fs, x5, e1, e2, h⟩ := h
      refine gG_gi dX8_isSign_24 fl_X8_30 ⟨fs, x5, e1, e2, ?_⟩
      obtain ⟨m0, f0, e1, e2, h⟩ := h
      refine gG_cald dX8_isSign_27 ⟨m0, f0, e1, e2, ?_⟩
      obtain ⟨x6, eH⟩ : ∃ z, z = f0 (Int32.toNatClampNeg (x5)) := ⟨_, rfl⟩
      rw [← eH] at h ⊢
      refine gG_iload_n dX8_isSign_28 rfl rfl ?_
      refine gG_ic_ne (tgt := 36) dX8_isSign_29 (by decide) (fun c => ?_) (fun c => ?_)
      · have h := h.1 c
        refine gG_iconst (v := 0) dX8_isSign_36 (by decide) ?_
        exact gG_exit ⟨rfl, rfl, rfl, dX8_isSign_37, false, rfl, h⟩
      · have h := h.2 c
        refine gG_iconst (v := 1) dX8_isSign_32 (by decide) ?_
        refine gG_goto (tgt := 37) dX8_isSign_33 (by decide) ?_
        exact gG_exit ⟨rfl, rfl, rfl, dX8_isSign_37, true, rfl, h⟩

theorem kX8_isWord_0 {d n : Nat} {H : gHp} {P : gHp → Bool → Prop} {a0 : Nat} {t1 : UInt32} (ht1 : (t1).toNat < 45) (h : g_gi H (a0) 8 2 (fun x1 => (¬ (x1 = (2 : Int32)) → P H false) ∧ (x1 = (2 : Int32) → g_gi H (a0) 8 4 (fun x2 => g_gi H (a0) 8 3 (fun x3 => g_ci d mJ0_length_8abf5 n H [.float (t1)] (fun H4 x5 => (¬ ((x2 - x3) = x5) → P H4 false) ∧ ((x2 - x3) = x5 → g_gi H4 (a0) 8 4 (fun x6 => g_gi H4 (a0) 8 1 (fun x7 => (x6 ≤ x7 → gG d mX8_isWord 0 0 (g_Xz mX8_isWord n 0 0 P) 39 n H4 [some (.ref (a0)), some (.float (t1)), some (.int ((0 : Int32)))] [] (0) (0)) ∧ (¬ (x6 ≤ x7) → P H4 false)))))))))) : gG d mX8_isWord 0 0 (g_Xz mX8_isWord n 0 0 P) 0 n H [some (.ref (a0)), some (.float (t1)), none] [] 0 0 := by
  refine gG_aload_n dX8_isWord_0 rfl rfl ?_
  obtain ⟨fs, x1, e1, e2, h⟩ := h
  refine gG_gi dX8_isWord_1 fl_X8_33 ⟨fs, x1, e1, e2, ?_⟩
  refine gG_iconst (v := 2) dX8_isWord_4 (by decide) ?_
  refine gG_ic_ne (tgt := 35) dX8_isWord_5 (by decide) (fun c => ?_) (fun c => ?_)
  · have h := h.1 c
    refine gG_iconst (v := 0) dX8_isWord_35 (by decide) ?_
    exact gG_exit ⟨rfl, rfl, rfl, dX8_isWord_36, false, rfl, h⟩
  · have h := h.2 c
    refine gG_aload_n dX8_isWord_8 rfl rfl ?_
    obtain ⟨fs, x2, e1, e2, h⟩ := h
    refine gG_gi dX8_isWord_9 fl_X8_21 ⟨fs, x2, e1, e2, ?_⟩
    refine gG_aload_n dX8_isWord_12 rfl rfl ?_
    obtain ⟨fs, x3, e1, e2, h⟩ := h
    refine gG_gi dX8_isWord_13 fl_X8_30 ⟨fs, x3, e1, e2, ?_⟩
    refine gG_isub dX8_isWord_16 ?_
    refine gG_aload_nT dX8_isWord_17 rfl rfl ?_
    obtain ⟨d2, P2, hdd, hC, h⟩ := h
    refine gG_cTi (As := []) (st := [.int ((x2 - x3))]) dX8_isWord_18 mT_X8_59 hdd ht1 rfl rfl (Nat.le_of_ble_eq_true rfl) (Nat.le_refl _) ⟨Nat.le_refl _, Nat.le_refl _⟩ hC (fun H4 x5 hp => ?_)
    have h := h H4 x5 hp
    refine gG_ic_ne (tgt := 35) dX8_isWord_21 (by decide) (fun c => ?_) (fun c => ?_)
    · have h := h.1 c
      refine gG_iconst (v := 0) dX8_isWord_35 (by decide) ?_
      exact gG_exit ⟨rfl, rfl, rfl, dX8_isWord_36, false, rfl, h⟩
    · have h := h.2 c
      refine gG_aload_n dX8_isWord_24 rfl rfl ?_
      obtain ⟨fs, x6, e1, e2, h⟩ := h
      refine gG_gi dX8_isWord_25 fl_X8_21 ⟨fs, x6, e1, e2, ?_⟩
      refine gG_aload_n dX8_isWord_28 rfl rfl ?_
      obtain ⟨fs, x7, e1, e2, h⟩ := h
      refine gG_gi dX8_isWord_29 fl_X8_17 ⟨fs, x7, e1, e2, ?_⟩
      refine gG_ic_le (tgt := 37) dX8_isWord_32 (by decide) (fun c => ?_) (fun c => ?_)
      · have h := h.1 c
        refine gG_iconst (v := 0) dX8_isWord_37 (by decide) ?_
        refine gG_istore_n dX8_isWord_38 rfl (Nat.le_of_ble_eq_true rfl) ?_
        refine gG_locals ?_ h
        exact ⟨rfl, ⟨rfl, ⟨rfl, trivial⟩⟩⟩
      · have h := h.2 c
        refine gG_iconst (v := 0) dX8_isWord_35 (by decide) ?_
        exact gG_exit ⟨rfl, rfl, rfl, dX8_isWord_36, false, rfl, h⟩
theorem kX8_isWord_39 {d n : Nat} {H : gHp} {P : gHp → Bool → Prop} {a0 : Nat} {t1 : UInt32} {i2 : Int32} (ht1 : (t1).toNat < 45) (h : g_ci d mJ0_length_8abf5 n H [.float (t1)] (fun H1 x2 => (x2 ≤ i2 → P H1 true) ∧ (¬ (x2 ≤ i2) → g_gr H1 (a0) 8 0 (fun q3 => g_gi H1 (a0) 8 3 (fun x4 => g_al 2 H1 (q3) ((x4 + i2)) (fun x5 => g_ci d mJ0_charAt_5068e n H1 [.float (t1), .int (i2)] (fun H6 x7 => (x5 = x7 → gG d mX8_isWord 0 0 (g_Xz mX8_isWord n 0 0 P) 39 n H6 [some (.ref (a0)), some (.float (t1)), some (.int ((i2 + 1)))] [] (0) (0)) ∧ (¬ (x5 = x7) → P H6 false)))))))) : gG d mX8_isWord 0 0 (g_Xz mX8_isWord n 0 0 P) 39 n H [some (.ref (a0)), some (.float (t1)), some (.int (i2))] [] 0 0 := by
  refine gG_iload_n dX8_isWord_39 rfl rfl ?_
  refine gG_aload_nT dX8_isWord_40 rfl rfl ?_
  obtain ⟨d2, P2, hdd, hC, h⟩ := h
  refine gG_cTi (As := []) (st := [.int (i2)]) dX8_isWord_41 mT_X8_59 hdd ht1 rfl rfl (Nat.le_of_ble_eq_true rfl) (Nat.le_refl _) ⟨Nat.le_refl _, Nat.le_refl _⟩ hC (fun H1 x2 hp => ?_)
  have h := h H1 x2 hp
  refine gG_ic_ge (tgt := 74) dX8_isWord_44 (by decide) (fun c => ?_) (fun c => ?_)
  · have h := h.1 c
    refine gG_iconst (v := 1) dX8_isWord_74 (by decide) ?_
    exact gG_exit ⟨rfl, rfl, rfl, dX8_isWord_75, true, rfl, h⟩
  · have h := h.2 c
    refine gG_aload_n dX8_isWord_47 rfl rfl ?_
    obtain ⟨fs, q3, e1, e2, h⟩ := h
    refine gG_gr dX8_isWord_48 fl_X8_9 ⟨fs, q3, e1, e2, ?_⟩
    refine gG_aload_n dX8_isWord_51 rfl rfl ?_
    obtain ⟨fs, x4, e1, e2, h⟩ := h
    refine gG_gi dX8_isWord_52 fl_X8_30 ⟨fs, x4, e1, e2, ?_⟩
    refine gG_iload_n dX8_isWord_55 rfl rfl ?_
    refine gG_iadd dX8_isWord_56 ?_
    obtain ⟨m0, f0, e1, e2, h⟩ := h
    refine gG_cald dX8_isWord_57 ⟨m0, f0, e1, e2, ?_⟩
    obtain ⟨x5, eH⟩ : ∃ z, z = f0 (Int32.toNatClampNeg ((x4 + i2))) := ⟨_, rfl⟩
    rw [← eH] at h ⊢
    refine gG_aload_nT dX8_isWord_58 rfl rfl ?_
    refine gG_iload_n dX8_isWord_59 rfl rfl ?_
    obtain ⟨d2, P2, hdd, hC, h⟩ := h
    refine gG_cTi (As := [.int (i2)]) (st := [.int (x5)]) dX8_isWord_60 mT_X8_63 hdd ht1 rfl rfl (Nat.le_of_ble_eq_true rfl) (Nat.le_refl _) ⟨Nat.le_refl _, Nat.le_refl _⟩ hC (fun H6 x7 hp => ?_)
    have h := h H6 x7 hp
    refine gG_ic_eq (tgt := 68) dX8_isWord_63 (by decide) (fun c => ?_) (fun c => ?_)
    · have h := h.1 c
      refine gG_iinc (v := i2 + 1) dX8_isWord_68 rfl rfl (Nat.le_of_ble_eq_true rfl) ?_
      refine gG_goto (tgt := 39) dX8_isWord_71 (by decide) ?_
      refine gG_locals ?_ h
      exact ⟨rfl, ⟨rfl, ⟨rfl, trivial⟩⟩⟩
    · have h := h.2 c
      refine gG_iconst (v := 0) dX8_isWord_66 (by decide) ?_
      exact gG_exit ⟨rfl, rfl, rfl, dX8_isWord_67, false, rfl, h⟩

theorem kX8_isName_0 {d n : Nat} {H : gHp} {P : gHp → Bool → Prop} {a0 : Nat} (h : g_gi H (a0) 8 2 (fun x1 => (¬ (x1 = (2 : Int32)) → P H false) ∧ (x1 = (2 : Int32) → (∃ fs, H (a0) = .inr (8, fs)) ∧ g_cz d mX8_isWord n H [.ref (a0), .float (2)] (fun H2 b3 => (b3 = true → P H2 false) ∧ (b3 = false → (∃ fs, H2 (a0) = .inr (8, fs)) ∧ g_cz d mX8_isWord n H2 [.ref (a0), .float (3)] (fun H4 b5 => (b5 = true → P H4 false) ∧ (b5 = false → (∃ fs, H4 (a0) = .inr (8, fs)) ∧ g_cz d mX8_isWord n H4 [.ref (a0), .float (4)] (fun H6 b7 => (b7 = true → P H6 false) ∧ (b7 = false → (∃ fs, H6 (a0) = .inr (8, fs)) ∧ g_cz d mX8_isWord n H6 [.ref (a0), .float (5)] (fun H8 b9 => (b9 = true → P H8 false) ∧ (b9 = false → (∃ fs, H8 (a0) = .inr (8, fs)) ∧ g_cz d mX8_isWord n H8 [.ref (a0), .float (6)] (fun H10 b11 => (b11 = true → P H10 false) ∧ (b11 = false → (∃ fs, H10 (a0) = .inr (8, fs)) ∧ g_cz d mX8_isWord n H10 [.ref (a0), .float (7)] (fun H12 b13 => (b13 = true → P H12 false) ∧ (b13 = false → (∃ fs, H12 (a0) = .inr (8, fs)) ∧ g_cz d mX8_isWord n H12 [.ref (a0), .float (8)] (fun H14 b15 => (b15 = true → P H14 false) ∧ (b15 = false → (∃ fs, H14 (a0) = .inr (8, fs)) ∧ g_cz d mX8_isWord n H14 [.ref (a0), .float (9)] (fun H16 b17 => (b17 = true → P H16 false) ∧ (b17 = false → (∃ fs, H16 (a0) = .inr (8, fs)) ∧ g_cz d mX8_isWord n H16 [.ref (a0), .float (10)] (fun H18 b19 => (b19 = true → P H18 false) ∧ (b19 = false → (∃ fs, H18 (a0) = .inr (8, fs)) ∧ g_cz d mX8_isWord n H18 [.ref (a0), .float (11)] (fun H20 b21 => (b21 = true → P H20 false) ∧ (b21 = false → (∃ fs, H20 (a0) = .inr (8, fs)) ∧ g_cz d mX8_isWord n H20 [.ref (a0), .float (12)] (fun H22 b23 => (b23 = true → P H22 false) ∧ (b23 = false → (∃ fs, H22 (a0) = .inr (8, fs)) ∧ g_cz d mX8_isWord n H22 [.ref (a0), .float (13)] (fun H24 b25 => (b25 = true → P H24 false) ∧ (b25 = false → (∃ fs, H24 (a0) = .inr (8, fs)) ∧ g_cz d mX8_isWord n H24 [.ref (a0), .float (14)] (fun H26 b27 => (b27 = true → P H26 false) ∧ (b27 = false → (∃ fs, H26 (a0) = .inr (8, fs)) ∧ g_cz d mX8_isWord n H26 [.ref (a0), .float (15)] (fun H28 b29 => (b29 = true → P H28 false) ∧ (b29 = false → (∃ fs, H28 (a0) = .inr (8, fs)) ∧ g_cz d mX8_isWord n H28 [.ref (a0), .float (16)] (fun H30 b31 => (b31 = true → P H30 false) ∧ (b31 = false → (∃ fs, H30 (a0) = .inr (8, fs)) ∧ g_cz d mX8_isWord n H30 [.ref (a0), .float (17)] (fun H32 b33 => (b33 = true → P H32 false) ∧ (b33 = false → (∃ fs, H32 (a0) = .inr (8, fs)) ∧ g_cz d mX8_isWord n H32 [.ref (a0), .float (18)] (fun H34 b35 => (b35 = true → P H34 false) ∧ (b35 = false → (∃ fs, H34 (a0) = .inr (8, fs)) ∧ g_cz d mX8_isWord n H34 [.ref (a0), .float (19)] (fun H36 b37 => (b37 = true → P H36 false) ∧ (b37 = false → (∃ fs, H36 (a0) = .inr (8, fs)) ∧ g_cz d mX8_isWord n H36 [.ref (a0), .float (20)] (fun H38 b39 => (b39 = true → P H38 false) ∧ (b39 = false → (∃ fs, H38 (a0) = .inr (8, fs)) ∧ g_cz d mX8_isWord n H38 [.ref (a0), .float (21)] (fun H40 b41 => (b41 = true → P H40 false) ∧ (b41 = false → P H40 true))))))))))))))))))))))))))))))))))))))))))) : gG d mX8_isName 0 0 (g_Xz mX8_isName n 0 0 P) 0 n H [some (.ref (a0))] [] 0 0 := by
  refine gG_aload_n dX8_isName_0 rfl rfl ?_
  obtain ⟨fs, x1, e1, e2, h⟩ := h
  refine gG_gi dX8_isName_1 fl_X8_33 ⟨fs, x1, e1, e2, ?_⟩
  refine gG_iconst (v := 2) dX8_isName_4 (by decide) ?_
  refine gG_ic_ne (tgt := 192) dX8_isName_5 (by decide) (fun c => ?_) (fun c => ?_)
  · have h := h.1 c
    refine gG_iconst (v := 0) dX8_isName_192 (by decide) ?_
    exact gG_exit ⟨rfl, rfl, rfl, dX8_isName_193, false, rfl, h⟩
  · have h := h.2 c
    refine gG_aload_n dX8_isName_8 rfl rfl ?_
    refine gG_ldcS (t := 2) dX8_isName_9 rfl ?_
    obtain ⟨hrc, d2, P2, hdd, hC, h⟩ := h
    refine gG_cvi (As := [.float (2)]) (st := []) dX8_isName_11 mV_X8_69 hdd hrc rfl rfl (Nat.le_of_ble_eq_true rfl) (Nat.le_refl _) ⟨Nat.le_refl _, Nat.le_refl _⟩ hC (fun H2 x9 hp => ?_)
    obtain ⟨b3, rfl, hp⟩ := hp
    have h := h H2 b3 hp
    refine gG_if_ne (tgt := 192) dX8_isName_14 (by decide) (fun c => ?_) (fun c => ?_)
    · have h := h.1 (g_b_t c)
      refine gG_iconst (v := 0) dX8_isName_192 (by decide) ?_
      exact gG_exit ⟨rfl, rfl, rfl, dX8_isName_193, false, rfl, h⟩
    · have h := h.2 (g_b_f c)
      refine gG_aload_n dX8_isName_17 rfl rfl ?_
      refine gG_ldcS (t := 3) dX8_isName_18 rfl ?_
      obtain ⟨hrc, d2, P2, hdd, hC, h⟩ := h
      refine gG_cvi (As := [.float (3)]) (st := []) dX8_isName_20 mV_X8_69 hdd hrc rfl rfl (Nat.le_of_ble_eq_true rfl) (Nat.le_refl _) ⟨Nat.le_refl _, Nat.le_refl _⟩ hC (fun H4 x9 hp => ?_)
      obtain ⟨b5, rfl, hp⟩ := hp
      have h := h H4 b5 hp
      refine gG_if_ne (tgt := 192) dX8_isName_23 (by decide) (fun c => ?_) (fun c => ?_)
      · have h := h.1 (g_b_t c)
        refine gG_iconst (v := 0) dX8_isName_192 (by decide) ?_
        exact gG_exit ⟨rfl, rfl, rfl, dX8_isName_193, false, rfl, h⟩
      · have h := h.2 (g_b_f c)
        refine gG_aload_n dX8_isName_26 rfl rfl ?_
        refine gG_ldcS (t := 4) dX8_isName_27 rfl ?_
        obtain ⟨hrc, d2, P2, hdd, hC, h⟩ := h
        refine gG_cvi (As := [.float (4)]) (st := []) dX8_isName_29 mV_X8_69 hdd hrc rfl rfl (Nat.le_of_ble_eq_true rfl) (Nat.le_refl _) ⟨Nat.le_refl _, Nat.le_refl _⟩ hC (fun H6 x9 hp => ?_)
        obtain ⟨b7, rfl, hp⟩ := hp
        have h := h H6 b7 hp
        refine gG_if_ne (tgt := 192) dX8_isName_32 (by decide) (fun c => ?_) (fun c => ?_)
        · have h := h.1 (g_b_t c)
          refine gG_iconst (v := 0) dX8_isName_192 (by decide) ?_
          exact gG_exit ⟨rfl, rfl, rfl, dX8_isName_193, false, rfl, h⟩
        · have h := h.2 (g_b_f c)
          refine gG_aload_n dX8_isName_35 rfl rfl ?_
          refine gG_ldcS (t := 5) dX8_isName_36 rfl ?_
          obtain ⟨hrc, d2, P2, hdd, hC, h⟩ := h
          refine gG_cvi (As := [.float (5)]) (st := []) dX8_isName_38 mV_X8_69 hdd hrc rfl rfl (Nat.le_of_ble_eq_true rfl) (Nat.le_refl _) ⟨Nat.le_refl _, Nat.le_refl _⟩ hC (fun H8 x9 hp => ?_)
          obtain ⟨b9, rfl, hp⟩ := hp
          have h := h H8 b9 hp
          refine gG_if_ne (tgt := 192) dX8_isName_41 (by decide) (fun c => ?_) (fun c => ?_)
          · have h := h.1 (g_b_t c)
            refine gG_iconst (v := 0) dX8_isName_192 (by decide) ?_
            exact gG_exit ⟨rfl, rfl, rfl, dX8_isName_193, false, rfl, h⟩
          · have h := h.2 (g_b_f c)
            refine gG_aload_n dX8_isName_44 rfl rfl ?_
            refine gG_ldcS (t := 6) dX8_isName_45 rfl ?_
            obtain ⟨hrc, d2, P2, hdd, hC, h⟩ := h
            refine gG_cvi (As := [.float (6)]) (st := []) dX8_isName_47 mV_X8_69 hdd hrc rfl rfl (Nat.le_of_ble_eq_true rfl) (Nat.le_refl _) ⟨Nat.le_refl _, Nat.le_refl _⟩ hC (fun H10 x9 hp => ?_)
            obtain ⟨b11, rfl, hp⟩ := hp
            have h := h H10 b11 hp
            refine gG_if_ne (tgt := 192) dX8_isName_50 (by decide) (fun c => ?_) (fun c => ?_)
            · have h := h.1 (g_b_t c)
              refine gG_iconst (v := 0) dX8_isName_192 (by decide) ?_
              exact gG_exit ⟨rfl, rfl, rfl, dX8_isName_193, false, rfl, h⟩
            · have h := h.2 (g_b_f c)
              refine gG_aload_n dX8_isName_53 rfl rfl ?_
              refine gG_ldcS (t := 7) dX8_isName_54 rfl ?_
              obtain ⟨hrc, d2, P2, hdd, hC, h⟩ := h
              refine gG_cvi (As := [.float (7)]) (st := []) dX8_isName_56 mV_X8_69 hdd hrc rfl rfl (Nat.le_of_ble_eq_true rfl) (Nat.le_refl _) ⟨Nat.le_refl _, Nat.le_refl _⟩ hC (fun H12 x9 hp => ?_)
              obtain ⟨b13, rfl, hp⟩ := hp
              have h := h H12 b13 hp
              refine gG_if_ne (tgt := 192) dX8_isName_59 (by decide) (fun c => ?_) (fun c => ?_)
              · have h := h.1 (g_b_t c)
                refine gG_iconst (v := 0) dX8_isName_192 (by decide) ?_
                exact gG_exit ⟨rfl, rfl, rfl, dX8_isName_193, false, rfl, h⟩
              · have h := h.2 (g_b_f c)
                refine gG_aload_n dX8_isName_62 rfl rfl ?_
                refine gG_ldcS (t := 8) dX8_isName_63 rfl ?_
                obtain ⟨hrc, d2, P2, hdd, hC, h⟩ := h
                refine gG_cvi (As := [.float (8)]) (st := []) dX8_isName_65 mV_X8_69 hdd hrc rfl rfl (Nat.le_of_ble_eq_true rfl) (Nat.le_refl _) ⟨Nat.le_refl _, Nat.le_refl _⟩ hC (fun H14 x9 hp => ?_)
                obtain ⟨b15, rfl, hp⟩ := hp
                have h := h H14 b15 hp
                refine gG_if_ne (tgt := 192) dX8_isName_68 (by decide) (fun c => ?_) (fun c => ?_)
                · have h := h.1 (g_b_t c)
                  refine gG_iconst (v := 0) dX8_isName_192 (by decide) ?_
                  exact gG_exit ⟨rfl, rfl, rfl, dX8_isName_193, false, rfl, h⟩
                · have h := h.2 (g_b_f c)
                  refine gG_aload_n dX8_isName_71 rfl rfl ?_
                  refine gG_ldcS (t := 9) dX8_isName_72 rfl ?_
                  obtain ⟨hrc, d2, P2, hdd, hC, h⟩ := h
                  refine gG_cvi (As := [.float (9)]) (st := []) dX8_isName_74 mV_X8_69 hdd hrc rfl rfl (Nat.le_of_ble_eq_true rfl) (Nat.le_refl _) ⟨Nat.le_refl _, Nat.le_refl _⟩ hC (fun H16 x9 hp => ?_)
                  obtain ⟨b17, rfl, hp⟩ := hp
                  have h := h H16 b17 hp
                  refine gG_if_ne (tgt := 192) dX8_isName_77 (by decide) (fun c => ?_) (fun c => ?_)
                  · have h := h.1 (g_b_t c)
                    refine gG_iconst (v := 0) dX8_isName_192 (by decide) ?_
                    exact gG_exit ⟨rfl, rfl, rfl, dX8_isName_193, false, rfl, h⟩
                  · have h := h.2 (g_b_f c)
                    refine gG_aload_n dX8_isName_80 rfl rfl ?_
                    refine gG_ldcS (t := 10) dX8_isName_81 rfl ?_
                    obtain ⟨hrc, d2, P2, hdd, hC, h⟩ := h
                    refine gG_cvi (As := [.float (10)]) (st := []) dX8_isName_83 mV_X8_69 hdd hrc rfl rfl (Nat.le_of_ble_eq_true rfl) (Nat.le_refl _) ⟨Nat.le_refl _, Nat.le_refl _⟩ hC (fun H18 x9 hp => ?_)
                    obtain ⟨b19, rfl, hp⟩ := hp
                    have h := h H18 b19 hp
                    refine gG_if_ne (tgt := 192) dX8_isName_86 (by decide) (fun c => ?_) (fun c => ?_)
                    · have h := h.1 (g_b_t c)
                      refine gG_iconst (v := 0) dX8_isName_192 (by decide) ?_
                      exact gG_exit ⟨rfl, rfl, rfl, dX8_isName_193, false, rfl, h⟩
                    · have h := h.2 (g_b_f c)
                      refine gG_aload_n dX8_isName_89 rfl rfl ?_
                      refine gG_ldcS (t := 11) dX8_isName_90 rfl ?_
                      obtain ⟨hrc, d2, P2, hdd, hC, h⟩ := h
                      refine gG_cvi (As := [.float (11)]) (st := []) dX8_isName_92 mV_X8_69 hdd hrc rfl rfl (Nat.le_of_ble_eq_true rfl) (Nat.le_refl _) ⟨Nat.le_refl _, Nat.le_refl _⟩ hC (fun H20 x9 hp => ?_)
                      obtain ⟨b21, rfl, hp⟩ := hp
                      have h := h H20 b21 hp
                      refine gG_if_ne (tgt := 192) dX8_isName_95 (by decide) (fun c => ?_) (fun c => ?_)
                      · have h := h.1 (g_b_t c)
                        refine gG_iconst (v := 0) dX8_isName_192 (by decide) ?_
                        exact gG_exit ⟨rfl, rfl, rfl, dX8_isName_193, false, rfl, h⟩
                      · have h := h.2 (g_b_f c)
                        refine gG_aload_n dX8_isName_98 rfl rfl ?_
                        refine gG_ldcS (t := 12) dX8_isName_99 rfl ?_
                        obtain ⟨hrc, d2, P2, hdd, hC, h⟩ := h
                        refine gG_cvi (As := [.float (12)]) (st := []) dX8_isName_101 mV_X8_69 hdd hrc rfl rfl (Nat.le_of_ble_eq_true rfl) (Nat.le_refl _) ⟨Nat.le_refl _, Nat.le_refl _⟩ hC (fun H22 x9 hp => ?_)
                        obtain ⟨b23, rfl, hp⟩ := hp
                        have h := h H22 b23 hp
                        refine gG_if_ne (tgt := 192) dX8_isName_104 (by decide) (fun c => ?_) (fun c => ?_)
                        · have h := h.1 (g_b_t c)
                          refine gG_iconst (v := 0) dX8_isName_192 (by decide) ?_
                          exact gG_exit ⟨rfl, rfl, rfl, dX8_isName_193, false, rfl, h⟩
                        · have h := h.2 (g_b_f c)
                          refine gG_aload_n dX8_isName_107 rfl rfl ?_
                          refine gG_ldcS (t := 13) dX8_isName_108 rfl ?_
                          obtain ⟨hrc, d2, P2, hdd, hC, h⟩ := h
                          refine gG_cvi (As := [.float (13)]) (st := []) dX8_isName_110 mV_X8_69 hdd hrc rfl rfl (Nat.le_of_ble_eq_true rfl) (Nat.le_refl _) ⟨Nat.le_refl _, Nat.le_refl _⟩ hC (fun H24 x9 hp => ?_)
                          obtain ⟨b25, rfl, hp⟩ := hp
                          have h := h H24 b25 hp
                          refine gG_if_ne (tgt := 192) dX8_isName_113 (by decide) (fun c => ?_) (fun c => ?_)
                          · have h := h.1 (g_b_t c)
                            refine gG_iconst (v := 0) dX8_isName_192 (by decide) ?_
                            exact gG_exit ⟨rfl, rfl, rfl, dX8_isName_193, false, rfl, h⟩
                          · have h := h.2 (g_b_f c)
                            refine gG_aload_n dX8_isName_116 rfl rfl ?_
                            refine gG_ldcS (t := 14) dX8_isName_117 rfl ?_
                            obtain ⟨hrc, d2, P2, hdd, hC, h⟩ := h
                            refine gG_cvi (As := [.float (14)]) (st := []) dX8_isName_119 mV_X8_69 hdd hrc rfl rfl (Nat.le_of_ble_eq_true rfl) (Nat.le_refl _) ⟨Nat.le_refl _, Nat.le_refl _⟩ hC (fun H26 x9 hp => ?_)
                            obtain ⟨b27, rfl, hp⟩ := hp
                            have h := h H26 b27 hp
                            refine gG_if_ne (tgt := 192) dX8_isName_122 (by decide) (fun c => ?_) (fun c => ?_)
                            · have h := h.1 (g_b_t c)
                              refine gG_iconst (v := 0) dX8_isName_192 (by decide) ?_
                              exact gG_exit ⟨rfl, rfl, rfl, dX8_isName_193, false, rfl, h⟩
                            · have h := h.2 (g_b_f c)
                              refine gG_aload_n dX8_isName_125 rfl rfl ?_
                              refine gG_ldcS (t := 15) dX8_isName_126 rfl ?_
                              obtain ⟨hrc, d2, P2, hdd, hC, h⟩ := h
                              refine gG_cvi (As := [.float (15)]) (st := []) dX8_isName_128 mV_X8_69 hdd hrc rfl rfl (Nat.le_of_ble_eq_true rfl) (Nat.le_refl _) ⟨Nat.le_refl _, Nat.le_refl _⟩ hC (fun H28 x9 hp => ?_)
                              obtain ⟨b29, rfl, hp⟩ := hp
                              have h := h H28 b29 hp
                              refine gG_if_ne (tgt := 192) dX8_isName_131 (by decide) (fun c => ?_) (fun c => ?_)
                              · have h := h.1 (g_b_t c)
                                refine gG_iconst (v := 0) dX8_isName_192 (by decide) ?_
                                exact gG_exit ⟨rfl, rfl, rfl, dX8_isName_193, false, rfl, h⟩
                              · have h := h.2 (g_b_f c)
                                refine gG_aload_n dX8_isName_134 rfl rfl ?_
                                refine gG_ldcS (t := 16) dX8_isName_135 rfl ?_
                                obtain ⟨hrc, d2, P2, hdd, hC, h⟩ := h
                                refine gG_cvi (As := [.float (16)]) (st := []) dX8_isName_137 mV_X8_69 hdd hrc rfl rfl (Nat.le_of_ble_eq_true rfl) (Nat.le_refl _) ⟨Nat.le_refl _, Nat.le_refl _⟩ hC (fun H30 x9 hp => ?_)
                                obtain ⟨b31, rfl, hp⟩ := hp
                                have h := h H30 b31 hp
                                refine gG_if_ne (tgt := 192) dX8_isName_140 (by decide) (fun c => ?_) (fun c => ?_)
                                · have h := h.1 (g_b_t c)
                                  refine gG_iconst (v := 0) dX8_isName_192 (by decide) ?_
                                  exact gG_exit ⟨rfl, rfl, rfl, dX8_isName_193, false, rfl, h⟩
                                · have h := h.2 (g_b_f c)
                                  refine gG_aload_n dX8_isName_143 rfl rfl ?_
                                  refine gG_ldcS (t := 17) dX8_isName_144 rfl ?_
                                  obtain ⟨hrc, d2, P2, hdd, hC, h⟩ := h
                                  refine gG_cvi (As := [.float (17)]) (st := []) dX8_isName_146 mV_X8_69 hdd hrc rfl rfl (Nat.le_of_ble_eq_true rfl) (Nat.le_refl _) ⟨Nat.le_refl _, Nat.le_refl _⟩ hC (fun H32 x9 hp => ?_)
                                  obtain ⟨b33, rfl, hp⟩ := hp
                                  have h := h H32 b33 hp
                                  refine gG_if_ne (tgt := 192) dX8_isName_149 (by decide) (fun c => ?_) (fun c => ?_)
                                  · have h := h.1 (g_b_t c)
                                    refine gG_iconst (v := 0) dX8_isName_192 (by decide) ?_
                                    exact gG_exit ⟨rfl, rfl, rfl, dX8_isName_193, false, rfl, h⟩
                                  · have h := h.2 (g_b_f c)
                                    refine gG_aload_n dX8_isName_152 rfl rfl ?_
                                    refine gG_ldcS (t := 18) dX8_isName_153 rfl ?_
                                    obtain ⟨hrc, d2, P2, hdd, hC, h⟩ := h
                                    refine gG_cvi (As := [.float (18)]) (st := []) dX8_isName_155 mV_X8_69 hdd hrc rfl rfl (Nat.le_of_ble_eq_true rfl) (Nat.le_refl _) ⟨Nat.le_refl _, Nat.le_refl _⟩ hC (fun H34 x9 hp => ?_)
                                    obtain ⟨b35, rfl, hp⟩ := hp
                                    have h := h H34 b35 hp
                                    refine gG_if_ne (tgt := 192) dX8_isName_158 (by decide) (fun c => ?_) (fun c => ?_)
                                    · have h := h.1 (g_b_t c)
                                      refine gG_iconst (v := 0) dX8_isName_192 (by decide) ?_
                                      exact gG_exit ⟨rfl, rfl, rfl, dX8_isName_193, false, rfl, h⟩
                                    · have h := h.2 (g_b_f c)
                                      refine gG_aload_n dX8_isName_161 rfl rfl ?_
                                      refine gG_ldcS (t := 19) dX8_isName_162 rfl ?_
                                      obtain ⟨hrc, d2, P2, hdd, hC, h⟩ := h
                                      refine gG_cvi (As := [.float (19)]) (st := []) dX8_isName_164 mV_X8_69 hdd hrc rfl rfl (Nat.le_of_ble_eq_true rfl) (Nat.le_refl _) ⟨Nat.le_refl _, Nat.le_refl _⟩ hC (fun H36 x9 hp => ?_)
                                      obtain ⟨b37, rfl, hp⟩ := hp
                                      have h := h H36 b37 hp
                                      refine gG_if_ne (tgt := 192) dX8_isName_167 (by decide) (fun c => ?_) (fun c => ?_)
                                      · have h := h.1 (g_b_t c)
                                        refine gG_iconst (v := 0) dX8_isName_192 (by decide) ?_
                                        exact gG_exit ⟨rfl, rfl, rfl, dX8_isName_193, false, rfl, h⟩
                                      · have h := h.2 (g_b_f c)
                                        refine gG_aload_n dX8_isName_170 rfl rfl ?_
                                        refine gG_ldcS (t := 20) dX8_isName_171 rfl ?_
                                        obtain ⟨hrc, d2, P2, hdd, hC, h⟩ := h
                                        refine gG_cvi (As := [.float (20)]) (st := []) dX8_isName_173 mV_X8_69 hdd hrc rfl rfl (Nat.le_of_ble_eq_true rfl) (Nat.le_refl _) ⟨Nat.le_refl _, Nat.le_refl _⟩ hC (fun H38 x9 hp => ?_)
                                        obtain ⟨b39, rfl, hp⟩ := hp
                                        have h := h H38 b39 hp
                                        refine gG_if_ne (tgt := 192) dX8_isName_176 (by decide) (fun c => ?_) (fun c => ?_)
                                        · have h := h.1 (g_b_t c)
                                          refine gG_iconst (v := 0) dX8_isName_192 (by decide) ?_
                                          exact gG_exit ⟨rfl, rfl, rfl, dX8_isName_193, false, rfl, h⟩
                                        · have h := h.2 (g_b_f c)
                                          refine gG_aload_n dX8_isName_179 rfl rfl ?_
                                          refine gG_ldcS (t := 21) dX8_isName_180 rfl ?_
                                          obtain ⟨hrc, d2, P2, hdd, hC, h⟩ := h
                                          refine gG_cvi (As := [.float (21)]) (st := []) dX8_isName_182 mV_X8_69 hdd hrc rfl rfl (Nat.le_of_ble_eq_true rfl) (Nat.le_refl _) ⟨Nat.le_refl _, Nat.le_refl _⟩ hC (fun H40 x9 hp => ?_)
                                          obtain ⟨b41, rfl, hp⟩ := hp
                                          have h := h H40 b41 hp
                                          refine gG_if_ne (tgt := 192) dX8_isName_185 (by decide) (fun c => ?_) (fun c => ?_)
                                          · have h := h.1 (g_b_t c)
                                            refine gG_iconst (v := 0) dX8_isName_192 (by decide) ?_
                                            exact gG_exit ⟨rfl, rfl, rfl, dX8_isName_193, false, rfl, h⟩
                                          · have h := h.2 (g_b_f c)
                                            refine gG_iconst (v := 1) dX8_isName_188 (by decide) ?_
                                            refine gG_goto (tgt := 193) dX8_isName_189 (by decide) ?_
                                            exact gG_exit ⟨rfl, rfl, rfl, dX8_isName_193, true, rfl, h⟩

theorem kX8_takeWord_0 {d n : Nat} {H : gHp} {P : gHp → Bool → Prop} {a0 : Nat} {t1 : UInt32} (ht1 : (t1).toNat < 45) (h : (∃ fs, H (a0) = .inr (8, fs)) ∧ g_cz d mX8_isWord n H [.ref (a0), .float (t1)] (fun H1 b2 => (b2 = true → (∃ fs, H1 (a0) = .inr (8, fs)) ∧ g_cvd d mX8_advance n H1 [.ref (a0)] (fun H3 => P H3 true)) ∧ (b2 = false → (∃ fs, H1 (a0) = .inr (8, fs)) ∧ g_cz d mX8_fail n H1 [.ref (a0), .int ((1 : Int32))] (fun H4 b5 => P H4 b5)))) : gG d mX8_takeWord 0 0 (g_Xz mX8_takeWord n 0 0 P) 0 n H [some (.ref (a0)), some (.float (t1))] [] 0 0 := by
  refine gG_aload_n dX8_takeWord_0 rfl rfl ?_
  refine gG_aload_nT dX8_takeWord_1 rfl rfl ?_
  obtain ⟨hrc, d2, P2, hdd, hC, h⟩ := h
  refine gG_cvi (As := [.float (t1)]) (st := []) dX8_takeWord_2 mV_X8_69 hdd hrc rfl rfl (Nat.le_of_ble_eq_true rfl) (Nat.le_refl _) ⟨Nat.le_refl _, Nat.le_refl _⟩ hC (fun H1 x9 hp => ?_)
  obtain ⟨b2, rfl, hp⟩ := hp
  have h := h H1 b2 hp
  refine gG_if_ne (tgt := 14) dX8_takeWord_5 (by decide) (fun c => ?_) (fun c => ?_)
  · have h := h.1 (g_b_t c)
    refine gG_aload_n dX8_takeWord_14 rfl rfl ?_
    obtain ⟨hrc, d2, P2, hdd, hC, h⟩ := h
    refine gG_cvv (As := []) (st := []) dX8_takeWord_15 mV_X8_27 hdd hrc rfl rfl (Nat.le_of_ble_eq_true rfl) (Nat.le_refl _) ⟨Nat.le_refl _, Nat.le_refl _⟩ hC (fun H3 hp => ?_)
    have h := h H3 hp
    refine gG_iconst (v := 1) dX8_takeWord_18 (by decide) ?_
    exact gG_exit ⟨rfl, rfl, rfl, dX8_takeWord_19, true, rfl, h⟩
  · have h := h.2 (g_b_f c)
    refine gG_aload_n dX8_takeWord_8 rfl rfl ?_
    refine gG_iconst (v := 1) dX8_takeWord_9 (by decide) ?_
    obtain ⟨hrc, d2, P2, hdd, hC, h⟩ := h
    refine gG_cvi (As := [.int ((1 : Int32))]) (st := []) dX8_takeWord_10 mV_X8_111 hdd hrc rfl rfl (Nat.le_of_ble_eq_true rfl) (Nat.le_refl _) ⟨Nat.le_refl _, Nat.le_refl _⟩ hC (fun H4 x9 hp => ?_)
    obtain ⟨b5, rfl, hp⟩ := hp
    have h := h H4 b5 hp
    exact gG_exit ⟨rfl, rfl, rfl, dX8_takeWord_13, b5, rfl, h⟩

theorem kX8_takeSign_0 {d n : Nat} {H : gHp} {P : gHp → Bool → Prop} {a0 : Nat} {i1 : Int32} (h : (∃ fs, H (a0) = .inr (8, fs)) ∧ g_cz d mX8_isSign n H [.ref (a0), .int (i1)] (fun H1 b2 => (b2 = true → (∃ fs, H1 (a0) = .inr (8, fs)) ∧ g_cvd d mX8_advance n H1 [.ref (a0)] (fun H3 => P H3 true)) ∧ (b2 = false → (∃ fs, H1 (a0) = .inr (8, fs)) ∧ g_cz d mX8_fail n H1 [.ref (a0), .int ((1 : Int32))] (fun H4 b5 => P H4 b5)))) : gG d mX8_takeSign 0 0 (g_Xz mX8_takeSign n 0 0 P) 0 n H [some (.ref (a0)), some (.int (i1))] [] 0 0 := by
  refine gG_aload_n dX8_takeSign_0 rfl rfl ?_
  refine gG_iload_n dX8_takeSign_1 rfl rfl ?_
  obtain ⟨hrc, d2, P2, hdd, hC, h⟩ := h
  refine gG_cvi (As := [.int (i1)]) (st := []) dX8_takeSign_2 mV_X8_115 hdd hrc rfl rfl (Nat.le_of_ble_eq_true rfl) (Nat.le_refl _) ⟨Nat.le_refl _, Nat.le_refl _⟩ hC (fun H1 x9 hp => ?_)
  obtain ⟨b2, rfl, hp⟩ := hp
  have h := h H1 b2 hp
  refine gG_if_ne (tgt := 14) dX8_takeSign_5 (by decide) (fun c => ?_) (fun c => ?_)
  · have h := h.1 (g_b_t c)
    refine gG_aload_n dX8_takeSign_14 rfl rfl ?_
    obtain ⟨hrc, d2, P2, hdd, hC, h⟩ := h
    refine gG_cvv (As := []) (st := []) dX8_takeSign_15 mV_X8_27 hdd hrc rfl rfl (Nat.le_of_ble_eq_true rfl) (Nat.le_refl _) ⟨Nat.le_refl _, Nat.le_refl _⟩ hC (fun H3 hp => ?_)
    have h := h H3 hp
    refine gG_iconst (v := 1) dX8_takeSign_18 (by decide) ?_
    exact gG_exit ⟨rfl, rfl, rfl, dX8_takeSign_19, true, rfl, h⟩
  · have h := h.2 (g_b_f c)
    refine gG_aload_n dX8_takeSign_8 rfl rfl ?_
    refine gG_iconst (v := 1) dX8_takeSign_9 (by decide) ?_
    obtain ⟨hrc, d2, P2, hdd, hC, h⟩ := h
    refine gG_cvi (As := [.int ((1 : Int32))]) (st := []) dX8_takeSign_10 mV_X8_111 hdd hrc rfl rfl (Nat.le_of_ble_eq_true rfl) (Nat.le_refl _) ⟨Nat.le_refl _, Nat.le_refl _⟩ hC (fun H4 x9 hp => ?_)
    obtain ⟨b5, rfl, hp⟩ := hp
    have h := h H4 b5 hp
    exact gG_exit ⟨rfl, rfl, rfl, dX8_takeSign_13, b5, rfl, h⟩

theorem kX8_takeNumber_0 {d n : Nat} {H : gHp} {P : gHp → Int32 → Prop} {a0 : Nat} {i1 : Int32} {i2 : Int32} (h : g_gi H (a0) 8 2 (fun x1 => (x1 = (3 : Int32) → g_gi H (a0) 8 6 (fun x2 => (x2 < i1 → (∃ fs, H (a0) = .inr (8, fs)) ∧ g_cz d mX8_fail n H [.ref (a0), .int ((4 : Int32))] (fun H3 b4 => P H3 ((-1 : Int32)))) ∧ (¬ (x2 < i1) → g_gi H (a0) 8 6 (fun x5 => (x5 ≤ i2 → g_gi H (a0) 8 6 (fun x6 => (∃ fs, H (a0) = .inr (8, fs)) ∧ g_cvd d mX8_advance n H [.ref (a0)] (fun H7 => P H7 (x6)))) ∧ (¬ (x5 ≤ i2) → (∃ fs, H (a0) = .inr (8, fs)) ∧ g_cz d mX8_fail n H [.ref (a0), .int ((4 : Int32))] (fun H8 b9 => P H8 ((-1 : Int32)))))))) ∧ (¬ (x1 = (3 : Int32)) → (∃ fs, H (a0) = .inr (8, fs)) ∧ g_cz d mX8_fail n H [.ref (a0), .int ((1 : Int32))] (fun H10 b11 => P H10 ((-1 : Int32)))))) : gG d mX8_takeNumber 0 0 (g_Xj mX8_takeNumber n 0 0 P) 0 n H [some (.ref (a0)), some (.int (i1)), some (.int (i2)), none] [] 0 0 := by
  refine gG_aload_n dX8_takeNumber_0 rfl rfl ?_
  obtain ⟨fs, x1, e1, e2, h⟩ := h
  refine gG_gi dX8_takeNumber_1 fl_X8_33 ⟨fs, x1, e1, e2, ?_⟩
  refine gG_iconst (v := 3) dX8_takeNumber_4 (by decide) ?_
  refine gG_ic_eq (tgt := 16) dX8_takeNumber_5 (by decide) (fun c => ?_) (fun c => ?_)
  · have h := h.1 c
    refine gG_aload_n dX8_takeNumber_16 rfl rfl ?_
    obtain ⟨fs, x2, e1, e2, h⟩ := h
    refine gG_gi dX8_takeNumber_17 fl_X8_56 ⟨fs, x2, e1, e2, ?_⟩
    refine gG_iload_n dX8_takeNumber_20 rfl rfl ?_
    refine gG_ic_lt (tgt := 32) dX8_takeNumber_21 (by decide) (fun c => ?_) (fun c => ?_)
    · have h := h.1 c
      refine gG_aload_n dX8_takeNumber_32 rfl rfl ?_
      refine gG_iconst (v := 4) dX8_takeNumber_33 (by decide) ?_
      obtain ⟨hrc, d2, P2, hdd, hC, h⟩ := h
      refine gG_cvi (As := [.int ((4 : Int32))]) (st := []) dX8_takeNumber_34 mV_X8_111 hdd hrc rfl rfl (Nat.le_of_ble_eq_true rfl) (Nat.le_refl _) ⟨Nat.le_refl _, Nat.le_refl _⟩ hC (fun H3 x9 hp => ?_)
      obtain ⟨b4, rfl, hp⟩ := hp
      have h := h H3 b4 hp
      refine gG_pop dX8_takeNumber_37 rfl ?_
      refine gG_iconst (v := (-1)) dX8_takeNumber_38 (by decide) ?_
      exact gG_exit ⟨rfl, rfl, rfl, dX8_takeNumber_39, _, rfl, h⟩
    · have h := h.2 c
      refine gG_aload_n dX8_takeNumber_24 rfl rfl ?_
      obtain ⟨fs, x5, e1, e2, h⟩ := h
      refine gG_gi dX8_takeNumber_25 fl_X8_56 ⟨fs, x5, e1, e2, ?_⟩
      refine gG_iload_n dX8_takeNumber_28 rfl rfl ?_
      refine gG_ic_le (tgt := 40) dX8_takeNumber_29 (by decide) (fun c => ?_) (fun c => ?_)
      · have h := h.1 c
        refine gG_aload_n dX8_takeNumber_40 rfl rfl ?_
        obtain ⟨fs, x6, e1, e2, h⟩ := h
        refine gG_gi dX8_takeNumber_41 fl_X8_56 ⟨fs, x6, e1, e2, ?_⟩
        refine gG_istore_n dX8_takeNumber_44 rfl (Nat.le_of_ble_eq_true rfl) ?_
        refine gG_aload_n dX8_takeNumber_45 rfl rfl ?_
        obtain ⟨hrc, d2, P2, hdd, hC, h⟩ := h
        refine gG_cvv (As := []) (st := []) dX8_takeNumber_46 mV_X8_27 hdd hrc rfl rfl (Nat.le_of_ble_eq_true rfl) (Nat.le_refl _) ⟨Nat.le_refl _, Nat.le_refl _⟩ hC (fun H7 hp => ?_)
        have h := h H7 hp
        refine gG_iload_n dX8_takeNumber_49 rfl rfl ?_
        exact gG_exit ⟨rfl, rfl, rfl, dX8_takeNumber_50, _, rfl, h⟩
      · have h := h.2 c
        refine gG_aload_n dX8_takeNumber_32 rfl rfl ?_
        refine gG_iconst (v := 4) dX8_takeNumber_33 (by decide) ?_
        obtain ⟨hrc, d2, P2, hdd, hC, h⟩ := h
        refine gG_cvi (As := [.int ((4 : Int32))]) (st := []) dX8_takeNumber_34 mV_X8_111 hdd hrc rfl rfl (Nat.le_of_ble_eq_true rfl) (Nat.le_refl _) ⟨Nat.le_refl _, Nat.le_refl _⟩ hC (fun H8 x9 hp => ?_)
        obtain ⟨b9, rfl, hp⟩ := hp
        have h := h H8 b9 hp
        refine gG_pop dX8_takeNumber_37 rfl ?_
        refine gG_iconst (v := (-1)) dX8_takeNumber_38 (by decide) ?_
        exact gG_exit ⟨rfl, rfl, rfl, dX8_takeNumber_39, _, rfl, h⟩
  · have h := h.2 c
    refine gG_aload_n dX8_takeNumber_8 rfl rfl ?_
    refine gG_iconst (v := 1) dX8_takeNumber_9 (by decide) ?_
    obtain ⟨hrc, d2, P2, hdd, hC, h⟩ := h
    refine gG_cvi (As := [.int ((1 : Int32))]) (st := []) dX8_takeNumber_10 mV_X8_111 hdd hrc rfl rfl (Nat.le_of_ble_eq_true rfl) (Nat.le_refl _) ⟨Nat.le_refl _, Nat.le_refl _⟩ hC (fun H10 x9 hp => ?_)
    obtain ⟨b11, rfl, hp⟩ := hp
    have h := h H10 b11 hp
    refine gG_pop dX8_takeNumber_13 rfl ?_
    refine gG_iconst (v := (-1)) dX8_takeNumber_14 (by decide) ?_
    exact gG_exit ⟨rfl, rfl, rfl, dX8_takeNumber_15, _, rfl, h⟩

theorem kX8_mouthHere_0 {d n : Nat} {H : gHp} {P : gHp → Int32 → Prop} {a0 : Nat} {a1 : Nat} (h : (∃ fs, H (a0) = .inr (8, fs)) ∧ g_cz d mX8_isName n H [.ref (a0)] (fun H1 b2 => (b2 = true → g_gl H1 (a0) 8 5 (fun y3 => (∃ fs, H1 (a1) = .inr (1, fs)) ∧ g_ci d mX1_mouthNamed n H1 [.ref (a1), .long (y3)] (fun H4 x5 => (¬ (x5 = (-1 : Int32)) → P H4 (x5)) ∧ (x5 = (-1 : Int32) → (∃ fs, H4 (a0) = .inr (8, fs)) ∧ g_cz d mX8_fail n H4 [.ref (a0), .int ((2 : Int32))] (fun H6 b7 => P H6 (x5)))))) ∧ (b2 = false → (∃ fs, H1 (a0) = .inr (8, fs)) ∧ g_cz d mX8_fail n H1 [.ref (a0), .int ((1 : Int32))] (fun H8 b9 => P H8 ((-1 : Int32)))))) : gG d mX8_mouthHere 0 0 (g_Xj mX8_mouthHere n 0 0 P) 0 n H [some (.ref (a0)), some (.ref (a1)), none] [] 0 0 := by
  refine gG_aload_n dX8_mouthHere_0 rfl rfl ?_
  obtain ⟨hrc, d2, P2, hdd, hC, h⟩ := h
  refine gG_cvi (As := []) (st := []) dX8_mouthHere_1 mV_X8_119 hdd hrc rfl rfl (Nat.le_of_ble_eq_true rfl) (Nat.le_refl _) ⟨Nat.le_refl _, Nat.le_refl _⟩ hC (fun H1 x9 hp => ?_)
  obtain ⟨b2, rfl, hp⟩ := hp
  have h := h H1 b2 hp
  refine gG_if_ne (tgt := 15) dX8_mouthHere_4 (by decide) (fun c => ?_) (fun c => ?_)
  · have h := h.1 (g_b_t c)
    refine gG_aload_n dX8_mouthHere_15 rfl rfl ?_
    refine gG_aload_n dX8_mouthHere_16 rfl rfl ?_
    obtain ⟨fs, y3, e1, e2, h⟩ := h
    refine gG_gl dX8_mouthHere_17 fl_X8_50 ⟨fs, y3, e1, e2, ?_⟩
    obtain ⟨hrc, d2, P2, hdd, hC, h⟩ := h
    refine gG_cvi (As := [.long (y3)]) (st := []) dX8_mouthHere_20 mV_X8_123 hdd hrc rfl rfl (Nat.le_of_ble_eq_true rfl) (Nat.le_refl _) ⟨Nat.le_refl _, Nat.le_refl _⟩ hC (fun H4 x5 hp => ?_)
    have h := h H4 x5 hp
    refine gG_istore_n dX8_mouthHere_23 rfl (Nat.le_of_ble_eq_true rfl) ?_
    refine gG_iload_n dX8_mouthHere_24 rfl rfl ?_
    refine gG_iconst (v := (-1)) dX8_mouthHere_25 (by decide) ?_
    refine gG_ic_ne (tgt := 35) dX8_mouthHere_26 (by decide) (fun c => ?_) (fun c => ?_)
    · have h := h.1 c
      refine gG_iload_n dX8_mouthHere_35 rfl rfl ?_
      exact gG_exit ⟨rfl, rfl, rfl, dX8_mouthHere_36, _, rfl, h⟩
    · have h := h.2 c
      refine gG_aload_n dX8_mouthHere_29 rfl rfl ?_
      refine gG_iconst (v := 2) dX8_mouthHere_30 (by decide) ?_
      obtain ⟨hrc, d2, P2, hdd, hC, h⟩ := h
      refine gG_cvi (As := [.int ((2 : Int32))]) (st := []) dX8_mouthHere_31 mV_X8_111 hdd hrc rfl rfl (Nat.le_of_ble_eq_true rfl) (Nat.le_refl _) ⟨Nat.le_refl _, Nat.le_refl _⟩ hC (fun H6 x9 hp => ?_)
      obtain ⟨b7, rfl, hp⟩ := hp
      have h := h H6 b7 hp
      refine gG_pop dX8_mouthHere_34 rfl ?_
      refine gG_iload_n dX8_mouthHere_35 rfl rfl ?_
      exact gG_exit ⟨rfl, rfl, rfl, dX8_mouthHere_36, _, rfl, h⟩
  · have h := h.2 (g_b_f c)
    refine gG_aload_n dX8_mouthHere_7 rfl rfl ?_
    refine gG_iconst (v := 1) dX8_mouthHere_8 (by decide) ?_
    obtain ⟨hrc, d2, P2, hdd, hC, h⟩ := h
    refine gG_cvi (As := [.int ((1 : Int32))]) (st := []) dX8_mouthHere_9 mV_X8_111 hdd hrc rfl rfl (Nat.le_of_ble_eq_true rfl) (Nat.le_refl _) ⟨Nat.le_refl _, Nat.le_refl _⟩ hC (fun H8 x9 hp => ?_)
    obtain ⟨b9, rfl, hp⟩ := hp
    have h := h H8 b9 hp
    refine gG_pop dX8_mouthHere_12 rfl ?_
    refine gG_iconst (v := (-1)) dX8_mouthHere_13 (by decide) ?_
    exact gG_exit ⟨rfl, rfl, rfl, dX8_mouthHere_14, _, rfl, h⟩
