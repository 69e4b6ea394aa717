theorem kX11_feed_0 {d n : Nat} {H : gHp} {P : gHp → Int32 → Prop} {a0 : Nat} {j1 : Int64} {j3 : Int64} {j5 : Int64} (h : g_gr H (a0) 11 0 (fun q1 => (∃ fs, H (q1) = .inr (8, fs)) ∧ g_cvd d mX8_addBytes n H [.ref (q1), .long (j1)] (fun H2 => g_gr H2 (a0) 11 0 (fun q3 => (∃ fs, H2 (q3) = .inr (8, fs)) ∧ g_cvd d mX8_addBytes n H2 [.ref (q3), .long (j3)] (fun H4 => g_gr H4 (a0) 11 0 (fun q5 => (∃ fs, H4 (q5) = .inr (8, fs)) ∧ g_cvd d mX8_addBytes n H4 [.ref (q5), .long (j5)] (fun H6 => g_gr H6 (a0) 11 0 (fun q7 => g_gi H6 (q7) 8 1 (fun x8 => P H6 (x8)))))))))) : gG d mX11_feed 0 0 (g_Xj mX11_feed n 0 0 P) 0 n H [some (.ref (a0)), some (.long (j1)), none, some (.long (j3)), none, some (.long (j5)), none] [] 0 0 := by
  refine gG_aload_n dX11_feed_0 rfl rfl ?_
  obtain ⟨fs, q1, e1, e2, h⟩ := h
  refine gG_gr dX11_feed_1 fl_X11_10 ⟨fs, q1, e1, e2, ?_⟩
  refine gG_lload_n dX11_feed_4 rfl rfl ?_
  obtain ⟨hrc, d2, P2, hdd, hC, h⟩ := h
  refine gG_cvv (As := [.long (j1)]) (st := []) dX11_feed_5 mV_X11_94 hdd hrc rfl rfl (Nat.le_of_ble_eq_true rfl) (Nat.le_refl _) ⟨Nat.le_refl _, Nat.le_refl _⟩ hC (fun H2 hp => ?_)
  have h := h H2 hp
  refine gG_aload_n dX11_feed_8 rfl rfl ?_
  obtain ⟨fs, q3, e1, e2, h⟩ := h
  refine gG_gr dX11_feed_9 fl_X11_10 ⟨fs, q3, e1, e2, ?_⟩
  refine gG_lload_n dX11_feed_12 rfl rfl ?_
  obtain ⟨hrc, d2, P2, hdd, hC, h⟩ := h
  refine gG_cvv (As := [.long (j3)]) (st := []) dX11_feed_13 mV_X11_94 hdd hrc rfl rfl (Nat.le_of_ble_eq_true rfl) (Nat.le_refl _) ⟨Nat.le_refl _, Nat.le_refl _⟩ hC (fun H4 hp => ?_)
  have h := h H4 hp
  refine gG_aload_n dX11_feed_16 rfl rfl ?_
  obtain ⟨fs, q5, e1, e2, h⟩ := h
  refine gG_gr dX11_feed_17 fl_X11_10 ⟨fs, q5, e1, e2, ?_⟩
  refine gG_lload dX11_feed_20 rfl ?_
  obtain ⟨hrc, d2, P2, hdd, hC, h⟩ := h
  refine gG_cvv (As := [.long (j5)]) (st := []) dX11_feed_22 mV_X11_94 hdd hrc rfl rfl (Nat.le_of_ble_eq_true rfl) (Nat.le_refl _) ⟨Nat.le_refl _, Nat.le_refl _⟩ hC (fun H6 hp => ?_)
  have h := h H6 hp
  refine gG_aload_n dX11_feed_25 rfl rfl ?_
  obtain ⟨fs, q7, e1, e2, h⟩ := h
  refine gG_gr dX11_feed_26 fl_X11_10 ⟨fs, q7, e1, e2, ?_⟩
  obtain ⟨fs, x8, e1, e2, h⟩ := h
  refine gG_gi dX11_feed_29 fl_X11_98 ⟨fs, x8, e1, e2, ?_⟩
  exact gG_exit ⟨rfl, rfl, rfl, dX11_feed_32, _, rfl, h⟩

theorem kX11_front_0 {d n : Nat} {H : gHp} {P : gHp → Int32 → Prop} {a0 : Nat} (h : g_gr H (a0) 11 1 (fun q1 => g_gr H (a0) 11 4 (fun q2 => (∃ fs, H (q1) = .inr (2, fs)) ∧ g_ci d mX2_readFront n H [.ref (q1), .ref (q2)] (fun H3 x4 => (¬ (x4 = 0) → P H3 (x4)) ∧ (x4 = 0 → g_gr H3 (a0) 11 3 (fun q5 => g_gr H3 (a0) 11 4 (fun q6 => g_pf H3 (a0) 11 3 (.ref (q6)) (fun H7 => g_pf H7 (a0) 11 4 (.ref (q5)) (fun H8 => (∃ fs, H8 (a0) = .inr (11, fs)) ∧ g_cvd d mX11_beginAnew n H8 [.ref (a0)] (fun H9 => P H9 (x4))))))))))) : gG d mX11_front 0 0 (g_Xj mX11_front n 0 0 P) 0 n H [some (.ref (a0)), none, none] [] 0 0 := by
  refine gG_aload_n dX11_front_0 rfl rfl ?_
  obtain ⟨fs, q1, e1, e2, h⟩ := h
  refine gG_gr dX11_front_1 fl_X11_21 ⟨fs, q1, e1, e2, ?_⟩
  refine gG_aload_n dX11_front_4 rfl rfl ?_
  obtain ⟨fs, q2, e1, e2, h⟩ := h
  refine gG_gr dX11_front_5 fl_X11_39 ⟨fs, q2, e1, e2, ?_⟩
  obtain ⟨hrc, d2, P2, hdd, hC, h⟩ := h
  refine gG_cvi (As := [.ref (q2)]) (st := []) dX11_front_8 mV_X11_102 hdd hrc rfl rfl (Nat.le_of_ble_eq_true rfl) (Nat.le_refl _) ⟨Nat.le_refl _, Nat.le_refl _⟩ hC (fun H3 x4 hp => ?_)
  have h := h H3 x4 hp
  refine gG_istore_n dX11_front_11 rfl (Nat.le_of_ble_eq_true rfl) ?_
  refine gG_iload_n dX11_front_12 rfl rfl ?_
  refine gG_if_ne (tgt := 38) dX11_front_13 (by decide) (fun c => ?_) (fun c => ?_)
  · have h := h.1 c
    refine gG_iload_n dX11_front_38 rfl rfl ?_
    exact gG_exit ⟨rfl, rfl, rfl, dX11_front_39, _, rfl, h⟩
  · have h := h.2 c
    refine gG_aload_n dX11_front_16 rfl rfl ?_
    obtain ⟨fs, q5, e1, e2, h⟩ := h
    refine gG_gr dX11_front_17 fl_X11_35 ⟨fs, q5, e1, e2, ?_⟩
    refine gG_astore_n dX11_front_20 rfl (Nat.le_of_ble_eq_true rfl) ?_
    refine gG_aload_n dX11_front_21 rfl rfl ?_
    refine gG_aload_n dX11_front_22 rfl rfl ?_
    obtain ⟨fs, q6, e1, e2, h⟩ := h
    refine gG_gr dX11_front_23 fl_X11_39 ⟨fs, q6, e1, e2, ?_⟩
    obtain ⟨fs, e1, e2, h⟩ := h
    refine gG_pr (Or.inl ⟨_, rfl⟩) dX11_front_26 fl_X11_35 (Or.inl rfl) ⟨fs, e1, e2, ?_⟩
    obtain ⟨H7, eH⟩ : ∃ z, z = va_up H3 (a0) (.inr (11, fs.set 3 (.ref (q6)))) := ⟨_, rfl⟩
    rw [← eH] at h ⊢
    refine gG_aload_n dX11_front_29 rfl rfl ?_
    refine gG_aload_n dX11_front_30 rfl rfl ?_
    obtain ⟨fs, e1, e2, h⟩ := h
    refine gG_pr (Or.inl ⟨_, rfl⟩) dX11_front_31 fl_X11_39 (Or.inl rfl) ⟨fs, e1, e2, ?_⟩
    obtain ⟨H8, eH⟩ : ∃ z, z = va_up H7 (a0) (.inr (11, fs.set 4 (.ref (q5)))) := ⟨_, rfl⟩
    rw [← eH] at h ⊢
    refine gG_aload_n dX11_front_34 rfl rfl ?_
    obtain ⟨hrc, d2, P2, hdd, hC, h⟩ := h
    refine gG_cvv (As := []) (st := []) dX11_front_35 mV_X11_106 hdd hrc rfl rfl (Nat.le_of_ble_eq_true rfl) (Nat.le_refl _) ⟨Nat.le_refl _, Nat.le_refl _⟩ hC (fun H9 hp => ?_)
    have h := h H9 hp
    refine gG_iload_n dX11_front_38 rfl rfl ?_
    exact gG_exit ⟨rfl, rfl, rfl, dX11_front_39, _, rfl, h⟩

theorem kX11_day_0 {d n : Nat} {H : gHp} {P : gHp → Int32 → Prop} {a0 : Nat} (h : g_gr H (a0) 11 2 (fun q1 => g_gr H (a0) 11 3 (fun q2 => g_gr H (a0) 11 6 (fun q3 => (∃ fs, H (q1) = .inr (5, fs)) ∧ g_ci d mX5_readDay n H [.ref (q1), .ref (q2), .ref (q3)] (fun H4 x5 => (¬ (x5 = 0) → P H4 (x5)) ∧ (x5 = 0 → g_gr H4 (a0) 11 5 (fun q6 => g_gr H4 (a0) 11 6 (fun q7 => g_pf H4 (a0) 11 5 (.ref (q7)) (fun H8 => g_pf H8 (a0) 11 6 (.ref (q6)) (fun H9 => P H9 (x5))))))))))) : gG d mX11_day 0 0 (g_Xj mX11_day n 0 0 P) 0 n H [some (.ref (a0)), none, none] [] 0 0 := by
  refine gG_aload_n dX11_day_0 rfl rfl ?_
  obtain ⟨fs, q1, e1, e2, h⟩ := h
  refine gG_gr dX11_day_1 fl_X11_28 ⟨fs, q1, e1, e2, ?_⟩
  refine gG_aload_n dX11_day_4 rfl rfl ?_
  obtain ⟨fs, q2, e1, e2, h⟩ := h
  refine gG_gr dX11_day_5 fl_X11_35 ⟨fs, q2, e1, e2, ?_⟩
  refine gG_aload_n dX11_day_8 rfl rfl ?_
  obtain ⟨fs, q3, e1, e2, h⟩ := h
  refine gG_gr dX11_day_9 fl_X11_49 ⟨fs, q3, e1, e2, ?_⟩
  obtain ⟨hrc, d2, P2, hdd, hC, h⟩ := h
  refine gG_cvi (As := [.ref (q2), .ref (q3)]) (st := []) dX11_day_12 mV_X11_109 hdd hrc rfl rfl (Nat.le_of_ble_eq_true rfl) (Nat.le_refl _) ⟨Nat.le_refl _, Nat.le_refl _⟩ hC (fun H4 x5 hp => ?_)
  have h := h H4 x5 hp
  refine gG_istore_n dX11_day_15 rfl (Nat.le_of_ble_eq_true rfl) ?_
  refine gG_iload_n dX11_day_16 rfl rfl ?_
  refine gG_if_ne (tgt := 38) dX11_day_17 (by decide) (fun c => ?_) (fun c => ?_)
  · have h := h.1 c
    refine gG_iload_n dX11_day_38 rfl rfl ?_
    exact gG_exit ⟨rfl, rfl, rfl, dX11_day_39, _, rfl, h⟩
  · have h := h.2 c
    refine gG_aload_n dX11_day_20 rfl rfl ?_
    obtain ⟨fs, q6, e1, e2, h⟩ := h
    refine gG_gr dX11_day_21 fl_X11_45 ⟨fs, q6, e1, e2, ?_⟩
    refine gG_astore_n dX11_day_24 rfl (Nat.le_of_ble_eq_true rfl) ?_
    refine gG_aload_n dX11_day_25 rfl rfl ?_
    refine gG_aload_n dX11_day_26 rfl rfl ?_
    obtain ⟨fs, q7, e1, e2, h⟩ := h
    refine gG_gr dX11_day_27 fl_X11_49 ⟨fs, q7, e1, e2, ?_⟩
    obtain ⟨fs, e1, e2, h⟩ := h
    refine gG_pr (Or.inl ⟨_, rfl⟩) dX11_day_30 fl_X11_45 (Or.inl rfl) ⟨fs, e1, e2, ?_⟩
    obtain ⟨H8, eH⟩ : ∃ z, z = va_up H4 (a0) (.inr (11, fs.set 5 (.ref (q7)))) := ⟨_, rfl⟩
    rw [← eH] at h ⊢
    refine gG_aload_n dX11_day_33 rfl rfl ?_
    refine gG_aload_n dX11_day_34 rfl rfl ?_
    obtain ⟨fs, e1, e2, h⟩ := h
    refine gG_pr (Or.inl ⟨_, rfl⟩) dX11_day_35 fl_X11_49 (Or.inl rfl) ⟨fs, e1, e2, ?_⟩
    obtain ⟨H9, eH⟩ : ∃ z, z = va_up H8 (a0) (.inr (11, fs.set 6 (.ref (q6)))) := ⟨_, rfl⟩
    rw [← eH] at h ⊢
    refine gG_iload_n dX11_day_38 rfl rfl ?_
    exact gG_exit ⟨rfl, rfl, rfl, dX11_day_39, _, rfl, h⟩

theorem kX11_word_0 {d n : Nat} {H : gHp} {P : gHp → Int32 → Prop} {a0 : Nat} (h : g_gr H (a0) 11 2 (fun q1 => g_gr H (a0) 11 3 (fun q2 => g_gr H (a0) 11 8 (fun q3 => (∃ fs, H (q1) = .inr (5, fs)) ∧ g_ci d mX5_readWord n H [.ref (q1), .ref (q2), .ref (q3)] (fun H4 x5 => (¬ (x5 = 0) → P H4 (x5)) ∧ (x5 = 0 → g_gr H4 (a0) 11 7 (fun q6 => g_gr H4 (a0) 11 8 (fun q7 => g_pf H4 (a0) 11 7 (.ref (q7)) (fun H8 => g_pf H8 (a0) 11 8 (.ref (q6)) (fun H9 => P H9 (x5))))))))))) : gG d mX11_word 0 0 (g_Xj mX11_word n 0 0 P) 0 n H [some (.ref (a0)), none, none] [] 0 0 := by
  refine gG_aload_n dX11_word_0 rfl rfl ?_
  obtain ⟨fs, q1, e1, e2, h⟩ := h
  refine gG_gr dX11_word_1 fl_X11_28 ⟨fs, q1, e1, e2, ?_⟩
  refine gG_aload_n dX11_word_4 rfl rfl ?_
  obtain ⟨fs, q2, e1, e2, h⟩ := h
  refine gG_gr dX11_word_5 fl_X11_35 ⟨fs, q2, e1, e2, ?_⟩
  refine gG_aload_n dX11_word_8 rfl rfl ?_
  obtain ⟨fs, q3, e1, e2, h⟩ := h
  refine gG_gr dX11_word_9 fl_X11_59 ⟨fs, q3, e1, e2, ?_⟩
  obtain ⟨hrc, d2, P2, hdd, hC, h⟩ := h
  refine gG_cvi (As := [.ref (q2), .ref (q3)]) (st := []) dX11_word_12 mV_X11_113 hdd hrc rfl rfl (Nat.le_of_ble_eq_true rfl) (Nat.le_refl _) ⟨Nat.le_refl _, Nat.le_refl _⟩ hC (fun H4 x5 hp => ?_)
  have h := h H4 x5 hp
  refine gG_istore_n dX11_word_15 rfl (Nat.le_of_ble_eq_true rfl) ?_
  refine gG_iload_n dX11_word_16 rfl rfl ?_
  refine gG_if_ne (tgt := 38) dX11_word_17 (by decide) (fun c => ?_) (fun c => ?_)
  · have h := h.1 c
    refine gG_iload_n dX11_word_38 rfl rfl ?_
    exact gG_exit ⟨rfl, rfl, rfl, dX11_word_39, _, rfl, h⟩
  · have h := h.2 c
    refine gG_aload_n dX11_word_20 rfl rfl ?_
    obtain ⟨fs, q6, e1, e2, h⟩ := h
    refine gG_gr dX11_word_21 fl_X11_55 ⟨fs, q6, e1, e2, ?_⟩
    refine gG_astore_n dX11_word_24 rfl (Nat.le_of_ble_eq_true rfl) ?_
    refine gG_aload_n dX11_word_25 rfl rfl ?_
    refine gG_aload_n dX11_word_26 rfl rfl ?_
    obtain ⟨fs, q7, e1, e2, h⟩ := h
    refine gG_gr dX11_word_27 fl_X11_59 ⟨fs, q7, e1, e2, ?_⟩
    obtain ⟨fs, e1, e2, h⟩ := h
    refine gG_pr (Or.inl ⟨_, rfl⟩) dX11_word_30 fl_X11_55 (Or.inl rfl) ⟨fs, e1, e2, ?_⟩
    obtain ⟨H8, eH⟩ : ∃ z, z = va_up H4 (a0) (.inr (11, fs.set 7 (.ref (q7)))) := ⟨_, rfl⟩
    rw [← eH] at h ⊢
    refine gG_aload_n dX11_word_33 rfl rfl ?_
    refine gG_aload_n dX11_word_34 rfl rfl ?_
    obtain ⟨fs, e1, e2, h⟩ := h
    refine gG_pr (Or.inl ⟨_, rfl⟩) dX11_word_35 fl_X11_59 (Or.inl rfl) ⟨fs, e1, e2, ?_⟩
    obtain ⟨H9, eH⟩ : ∃ z, z = va_up H8 (a0) (.inr (11, fs.set 8 (.ref (q6)))) := ⟨_, rfl⟩
    rw [← eH] at h ⊢
    refine gG_iload_n dX11_word_38 rfl rfl ?_
    exact gG_exit ⟨rfl, rfl, rfl, dX11_word_39, _, rfl, h⟩

theorem kX11_mouth_0 {d n : Nat} {H : gHp} {P : gHp → Int32 → Prop} {a0 : Nat} {i1 : Int32} {i2 : Int32} (h : (∃ fs, H (a0) = .inr (11, fs)) ∧ g_cz d mX11_isMouth n H [.ref (a0), .int (i1)] (fun H1 b2 => (b2 = true → ((i2).toInt < 0 ∨ 7 < (i2).toInt → P H1 ((-2 : Int32))) ∧ (i2 = 0 → g_gr H1 (a0) 11 3 (fun q3 => g_gr H1 (q3) 1 2 (fun q4 => g_al 0 H1 (q4) (i1) (fun x5 => P H1 (x5))))) ∧ (i2 = 1 → g_gr H1 (a0) 11 3 (fun q6 => g_gr H1 (q6) 1 3 (fun q7 => g_al 0 H1 (q7) (i1) (fun x8 => P H1 (x8))))) ∧ (i2 = 2 → g_gr H1 (a0) 11 3 (fun q9 => g_gr H1 (q9) 1 4 (fun q10 => g_al 0 H1 (q10) (i1) (fun x11 => P H1 (x11))))) ∧ (i2 = 3 → g_gr H1 (a0) 11 3 (fun q12 => g_gr H1 (q12) 1 5 (fun q13 => g_al 0 H1 (q13) (i1) (fun x14 => P H1 (x14))))) ∧ (i2 = 4 → g_gr H1 (a0) 11 3 (fun q15 => g_gr H1 (q15) 1 6 (fun q16 => g_al 0 H1 (q16) (i1) (fun x17 => P H1 (x17))))) ∧ (i2 = 5 → g_gr H1 (a0) 11 10 (fun q18 => g_gr H1 (q18) 9 2 (fun q19 => g_al 0 H1 (q19) (i1) (fun x20 => P H1 (x20))))) ∧ (i2 = 6 → g_gr H1 (a0) 11 10 (fun q21 => (∃ fs, H1 (q21) = .inr (9, fs)) ∧ g_cz d mX9_isStopped n H1 [.ref (q21), .int (i1)] (fun H22 b23 => (b23 = false → P H22 ((0 : Int32))) ∧ (b23 = true → P H22 ((1 : Int32)))))) ∧ (i2 = 7 → g_gr H1 (a0) 11 10 (fun q24 => g_gr H1 (q24) 9 3 (fun q25 => g_al 0 H1 (q25) (i1) (fun x26 => P H1 (x26)))))) ∧ (b2 = false → P H1 ((-2 : Int32))))) : gG d mX11_mouth 0 0 (g_Xj mX11_mouth n 0 0 P) 0 n H [some (.ref (a0)), some (.int (i1)), some (.int (i2))] [] 0 0 := by
  refine gG_aload_n dX11_mouth_0 rfl rfl ?_
  refine gG_iload_n dX11_mouth_1 rfl rfl ?_
  obtain ⟨hrc, d2, P2, hdd, hC, h⟩ := h
  refine gG_cvi (As := [.int (i1)]) (st := []) dX11_mouth_2 mV_X11_117 hdd hrc rfl rfl (Nat.le_of_ble_eq_true rfl) (Nat.le_refl _) ⟨Nat.le_refl _, Nat.le_refl _⟩ hC (fun H1 x9 hp => ?_)
  obtain ⟨b2, rfl, hp⟩ := hp
  have h := h H1 b2 hp
  refine gG_if_ne (tgt := 11) dX11_mouth_5 (by decide) (fun c => ?_) (fun c => ?_)
  · have h := h.1 (g_b_t c)
    refine gG_iload_n dX11_mouth_11 rfl rfl ?_
    by_cases hz : (i2).toInt < 0 ∨ 7 < (i2).toInt
    · refine gG_tableOut (tgt := 147) dX11_mouth_12 hz (by decide) ?_
      have h := h.1 hz
      refine gG_bipush (v := (-2)) dX11_mouth_147 (by decide) ?_
      exact gG_exit ⟨rfl, rfl, rfl, dX11_mouth_149, _, rfl, h⟩
    · have h := h.2
      obtain ⟨x9, e9⟩ : ∃ x9 : Int32, x9 = i2 := ⟨_, rfl⟩
      have hz2 : x9 = 0 ∨ x9 = 1 ∨ x9 = 2 ∨ x9 = 3 ∨ x9 = 4 ∨ x9 = 5 ∨ x9 = 6 ∨ x9 = 7 := by
        rw [← e9] at hz
        exact g_sw_0_7 hz
      rw [← e9]; rw [← e9] at h
      rcases hz2 with z | z | z | z | z | z | z | z <;> rw [z] at h ⊢
      · refine gG_tableIn (tgt := 60) dX11_mouth_12 (by decide) (by decide) rfl (by decide) ?_
        have h := h.1 rfl
        refine gG_aload_n dX11_mouth_60 rfl rfl ?_
        obtain ⟨fs, q3, e1, e2, h⟩ := h
        refine gG_gr dX11_mouth_61 fl_X11_35 ⟨fs, q3, e1, e2, ?_⟩
        obtain ⟨fs, q4, e1, e2, h⟩ := h
        refine gG_gr dX11_mouth_64 fl_X11_121 ⟨fs, q4, e1, e2, ?_⟩
        refine gG_iload_n dX11_mouth_67 rfl rfl ?_
        obtain ⟨m0, f0, e1, e2, h⟩ := h
        refine gG_iald dX11_mouth_68 ⟨m0, f0, e1, e2, ?_⟩
        obtain ⟨x5, eH⟩ : ∃ z, z = f0 (Int32.toNatClampNeg (i1)) := ⟨_, rfl⟩
        rw [← eH] at h ⊢
        exact gG_exit ⟨rfl, rfl, rfl, dX11_mouth_69, _, rfl, h⟩
      · refine gG_tableIn (tgt := 70) dX11_mouth_12 (by decide) (by decide) rfl (by decide) ?_
        have h := h.2.1 rfl
        refine gG_aload_n dX11_mouth_70 rfl rfl ?_
        obtain ⟨fs, q6, e1, e2, h⟩ := h
        refine gG_gr dX11_mouth_71 fl_X11_35 ⟨fs, q6, e1, e2, ?_⟩
        obtain ⟨fs, q7, e1, e2, h⟩ := h
        refine gG_gr dX11_mouth_74 fl_X11_124 ⟨fs, q7, e1, e2, ?_⟩
        refine gG_iload_n dX11_mouth_77 rfl rfl ?_
        obtain ⟨m0, f0, e1, e2, h⟩ := h
        refine gG_iald dX11_mouth_78 ⟨m0, f0, e1, e2, ?_⟩
        obtain ⟨x8, eH⟩ : ∃ z, z = f0 (Int32.toNatClampNeg (i1)) := ⟨_, rfl⟩
        rw [← eH] at h ⊢
        exact gG_exit ⟨rfl, rfl, rfl, dX11_mouth_79, _, rfl, h⟩
      · refine gG_tableIn (tgt := 80) dX11_mouth_12 (by decide) (by decide) rfl (by decide) ?_
        have h := h.2.2.1 rfl
        refine gG_aload_n dX11_mouth_80 rfl rfl ?_
        obtain ⟨fs, q9, e1, e2, h⟩ := h
        refine gG_gr dX11_mouth_81 fl_X11_35 ⟨fs, q9, e1, e2, ?_⟩
        obtain ⟨fs, q10, e1, e2, h⟩ := h
        refine gG_gr dX11_mouth_84 fl_X11_127 ⟨fs, q10, e1, e2, ?_⟩
        refine gG_iload_n dX11_mouth_87 rfl rfl ?_
        obtain ⟨m0, f0, e1, e2, h⟩ := h
        refine gG_iald dX11_mouth_88 ⟨m0, f0, e1, e2, ?_⟩
        obtain ⟨x11, eH⟩ : ∃ z, z = f0 (Int32.toNatClampNeg (i1)) := ⟨_, rfl⟩
        rw [← eH] at h ⊢
        exact gG_exit ⟨rfl, rfl, rfl, dX11_mouth_89, _, rfl, h⟩
      · refine gG_tableIn (tgt := 90) dX11_mouth_12 (by decide) (by decide) rfl (by decide) ?_
        have h := h.2.2.2.1 rfl
        refine gG_aload_n dX11_mouth_90 rfl rfl ?_
        obtain ⟨fs, q12, e1, e2, h⟩ := h
        refine gG_gr dX11_mouth_91 fl_X11_35 ⟨fs, q12, e1, e2, ?_⟩
        obtain ⟨fs, q13, e1, e2, h⟩ := h
        refine gG_gr dX11_mouth_94 fl_X11_130 ⟨fs, q13, e1, e2, ?_⟩
        refine gG_iload_n dX11_mouth_97 rfl rfl ?_
        obtain ⟨m0, f0, e1, e2, h⟩ := h
        refine gG_iald dX11_mouth_98 ⟨m0, f0, e1, e2, ?_⟩
        obtain ⟨x14, eH⟩ : ∃ z, z = f0 (Int32.toNatClampNeg (i1)) := ⟨_, rfl⟩
        rw [← eH] at h ⊢
        exact gG_exit ⟨rfl, rfl, rfl, dX11_mouth_99, _, rfl, h⟩
      · refine gG_tableIn (tgt := 100) dX11_mouth_12 (by decide) (by decide) rfl (by decide) ?_
        have h := h.2.2.2.2.1 rfl
        refine gG_aload_n dX11_mouth_100 rfl rfl ?_
        obtain ⟨fs, q15, e1, e2, h⟩ := h
        refine gG_gr dX11_mouth_101 fl_X11_35 ⟨fs, q15, e1, e2, ?_⟩
        obtain ⟨fs, q16, e1, e2, h⟩ := h
        refine gG_gr dX11_mouth_104 fl_X11_133 ⟨fs, q16, e1, e2, ?_⟩
        refine gG_iload_n dX11_mouth_107 rfl rfl ?_
        obtain ⟨m0, f0, e1, e2, h⟩ := h
        refine gG_iald dX11_mouth_108 ⟨m0, f0, e1, e2, ?_⟩
        obtain ⟨x17, eH⟩ : ∃ z, z = f0 (Int32.toNatClampNeg (i1)) := ⟨_, rfl⟩
        rw [← eH] at h ⊢
        exact gG_exit ⟨rfl, rfl, rfl, dX11_mouth_109, _, rfl, h⟩
      · refine gG_tableIn (tgt := 110) dX11_mouth_12 (by decide) (by decide) rfl (by decide) ?_
        have h := h.2.2.2.2.2.1 rfl
        refine gG_aload_n dX11_mouth_110 rfl rfl ?_
        obtain ⟨fs, q18, e1, e2, h⟩ := h
        refine gG_gr dX11_mouth_111 fl_X11_72 ⟨fs, q18, e1, e2, ?_⟩
        obtain ⟨fs, q19, e1, e2, h⟩ := h
        refine gG_gr dX11_mouth_114 fl_X11_136 ⟨fs, q19, e1, e2, ?_⟩
        refine gG_iload_n dX11_mouth_117 rfl rfl ?_
        obtain ⟨m0, f0, e1, e2, h⟩ := h
        refine gG_iald dX11_mouth_118 ⟨m0, f0, e1, e2, ?_⟩
        obtain ⟨x20, eH⟩ : ∃ z, z = f0 (Int32.toNatClampNeg (i1)) := ⟨_, rfl⟩
        rw [← eH] at h ⊢
        exact gG_exit ⟨rfl, rfl, rfl, dX11_mouth_119, _, rfl, h⟩
      · refine gG_tableIn (tgt := 120) dX11_mouth_12 (by decide) (by decide) rfl (by decide) ?_
        have h := h.2.2.2.2.2.2.1 rfl
        refine gG_aload_n dX11_mouth_120 rfl rfl ?_
        obtain ⟨fs, q21, e1, e2, h⟩ := h
        refine gG_gr dX11_mouth_121 fl_X11_72 ⟨fs, q21, e1, e2, ?_⟩
        refine gG_iload_n dX11_mouth_124 rfl rfl ?_
        obtain ⟨hrc, d2, P2, hdd, hC, h⟩ := h
        refine gG_cvi (As := [.int (i1)]) (st := []) dX11_mouth_125 mV_X11_139 hdd hrc rfl rfl (Nat.le_of_ble_eq_true rfl) (Nat.le_refl _) ⟨Nat.le_refl _, Nat.le_refl _⟩ hC (fun H22 x9 hp => ?_)
        obtain ⟨b23, rfl, hp⟩ := hp
        have h := h H22 b23 hp
        refine gG_if_eq (tgt := 135) dX11_mouth_128 (by decide) (fun c => ?_) (fun c => ?_)
        · have h := h.1 (g_b_f c)
          refine gG_iconst (v := 0) dX11_mouth_135 (by decide) ?_
          exact gG_exit ⟨rfl, rfl, rfl, dX11_mouth_136, _, rfl, h⟩
        · have h := h.2 (g_b_t c)
          refine gG_iconst (v := 1) dX11_mouth_131 (by decide) ?_
          refine gG_goto (tgt := 136) dX11_mouth_132 (by decide) ?_
          exact gG_exit ⟨rfl, rfl, rfl, dX11_mouth_136, _, rfl, h⟩
      · refine gG_tableIn (tgt := 137) dX11_mouth_12 (by decide) (by decide) rfl (by decide) ?_
        have h := h.2.2.2.2.2.2.2 rfl
        refine gG_aload_n dX11_mouth_137 rfl rfl ?_
        obtain ⟨fs, q24, e1, e2, h⟩ := h
        refine gG_gr dX11_mouth_138 fl_X11_72 ⟨fs, q24, e1, e2, ?_⟩
        obtain ⟨fs, q25, e1, e2, h⟩ := h
        refine gG_gr dX11_mouth_141 fl_X11_142 ⟨fs, q25, e1, e2, ?_⟩
        refine gG_iload_n dX11_mouth_144 rfl rfl ?_
        obtain ⟨m0, f0, e1, e2, h⟩ := h
        refine gG_iald dX11_mouth_145 ⟨m0, f0, e1, e2, ?_⟩
        obtain ⟨x26, eH⟩ : ∃ z, z = f0 (Int32.toNatClampNeg (i1)) := ⟨_, rfl⟩
        rw [← eH] at h ⊢
        exact gG_exit ⟨rfl, rfl, rfl, dX11_mouth_146, _, rfl, h⟩
  · have h := h.2 (g_b_f c)
    refine gG_bipush (v := (-2)) dX11_mouth_8 (by decide) ?_
    exact gG_exit ⟨rfl, rfl, rfl, dX11_mouth_10, _, rfl, h⟩

theorem kX11_letter_0 {d n : Nat} {H : gHp} {P : gHp → Int32 → Prop} {a0 : Nat} {i1 : Int32} (h : (∃ fs, H (a0) = .inr (11, fs)) ∧ g_cz d mX11_isLetter n H [.ref (a0), .int (i1)] (fun H1 b2 => (b2 = false → P H1 ((-1 : Int32))) ∧ (b2 = true → g_gr H1 (a0) 11 3 (fun q3 => g_gr H1 (q3) 1 10 (fun q4 => g_al 0 H1 (q4) (i1) (fun x5 => P H1 (x5))))))) : gG d mX11_letter 0 0 (g_Xj mX11_letter n 0 0 P) 0 n H [some (.ref (a0)), some (.int (i1))] [] 0 0 := by
  refine gG_aload_n dX11_letter_0 rfl rfl ?_
  refine gG_iload_n dX11_letter_1 rfl rfl ?_
  obtain ⟨hrc, d2, P2, hdd, hC, h⟩ := h
  refine gG_cvi (As := [.int (i1)]) (st := []) dX11_letter_2 mV_X11_145 hdd hrc rfl rfl (Nat.le_of_ble_eq_true rfl) (Nat.le_refl _) ⟨Nat.le_refl _, Nat.le_refl _⟩ hC (fun H1 x9 hp => ?_)
  obtain ⟨b2, rfl, hp⟩ := hp
  have h := h H1 b2 hp
  refine gG_if_eq (tgt := 20) dX11_letter_5 (by decide) (fun c => ?_) (fun c => ?_)
  · have h := h.1 (g_b_f c)
    refine gG_iconst (v := (-1)) dX11_letter_20 (by decide) ?_
    exact gG_exit ⟨rfl, rfl, rfl, dX11_letter_21, _, rfl, h⟩
  · have h := h.2 (g_b_t c)
    refine gG_aload_n dX11_letter_8 rfl rfl ?_
    obtain ⟨fs, q3, e1, e2, h⟩ := h
    refine gG_gr dX11_letter_9 fl_X11_35 ⟨fs, q3, e1, e2, ?_⟩
    obtain ⟨fs, q4, e1, e2, h⟩ := h
    refine gG_gr dX11_letter_12 fl_X11_148 ⟨fs, q4, e1, e2, ?_⟩
    refine gG_iload_n dX11_letter_15 rfl rfl ?_
    obtain ⟨m0, f0, e1, e2, h⟩ := h
    refine gG_iald dX11_letter_16 ⟨m0, f0, e1, e2, ?_⟩
    obtain ⟨x5, eH⟩ : ∃ z, z = f0 (Int32.toNatClampNeg (i1)) := ⟨_, rfl⟩
    rw [← eH] at h ⊢
    refine gG_goto (tgt := 21) dX11_letter_17 (by decide) ?_
    exact gG_exit ⟨rfl, rfl, rfl, dX11_letter_21, _, rfl, h⟩

theorem kX11_slate_0 {d n : Nat} {H : gHp} {P : gHp → Int32 → Prop} {a0 : Nat} {i1 : Int32} (h : (i1 < 0 → P H ((-1 : Int32))) ∧ (¬ (i1 < 0) → g_gr H (a0) 11 10 (fun q1 => g_gi H (q1) 9 9 (fun x2 => (x2 ≤ i1 → P H ((-1 : Int32))) ∧ (¬ (x2 ≤ i1) → g_gr H (a0) 11 10 (fun q3 => g_gr H (q3) 9 8 (fun q4 => g_al 0 H (q4) (i1) (fun x5 => P H (x5))))))))) : gG d mX11_slate 0 0 (g_Xj mX11_slate n 0 0 P) 0 n H [some (.ref (a0)), some (.int (i1))] [] 0 0 := by
  refine gG_iload_n dX11_slate_0 rfl rfl ?_
  refine gG_if_lt (tgt := 27) dX11_slate_1 (by decide) (fun c => ?_) (fun c => ?_)
  · have h := h.1 c
    refine gG_iconst (v := (-1)) dX11_slate_27 (by decide) ?_
    exact gG_exit ⟨rfl, rfl, rfl, dX11_slate_28, _, rfl, h⟩
  · have h := h.2 c
    refine gG_iload_n dX11_slate_4 rfl rfl ?_
    refine gG_aload_n dX11_slate_5 rfl rfl ?_
    obtain ⟨fs, q1, e1, e2, h⟩ := h
    refine gG_gr dX11_slate_6 fl_X11_72 ⟨fs, q1, e1, e2, ?_⟩
    obtain ⟨fs, x2, e1, e2, h⟩ := h
    refine gG_gi dX11_slate_9 fl_X11_151 ⟨fs, x2, e1, e2, ?_⟩
    refine gG_ic_ge (tgt := 27) dX11_slate_12 (by decide) (fun c => ?_) (fun c => ?_)
    · have h := h.1 c
      refine gG_iconst (v := (-1)) dX11_slate_27 (by decide) ?_
      exact gG_exit ⟨rfl, rfl, rfl, dX11_slate_28, _, rfl, h⟩
    · have h := h.2 c
      refine gG_aload_n dX11_slate_15 rfl rfl ?_
      obtain ⟨fs, q3, e1, e2, h⟩ := h
      refine gG_gr dX11_slate_16 fl_X11_72 ⟨fs, q3, e1, e2, ?_⟩
      obtain ⟨fs, q4, e1, e2, h⟩ := h
      refine gG_gr dX11_slate_19 fl_X11_154 ⟨fs, q4, e1, e2, ?_⟩
      refine gG_iload_n dX11_slate_22 rfl rfl ?_
      obtain ⟨m0, f0, e1, e2, h⟩ := h
      refine gG_iald dX11_slate_23 ⟨m0, f0, e1, e2, ?_⟩
      obtain ⟨x5, eH⟩ : ∃ z, z = f0 (Int32.toNatClampNeg (i1)) := ⟨_, rfl⟩
      rw [← eH] at h ⊢
      refine gG_goto (tgt := 28) dX11_slate_24 (by decide) ?_
      exact gG_exit ⟨rfl, rfl, rfl, dX11_slate_28, _, rfl, h⟩

theorem kX11_minute_0 {d n : Nat} {H : gHp} {P : gHp → Int32 → Prop} {a0 : Nat} (h : (∃ fs, H (a0) = .inr (11, fs)) ∧ g_cvd d mX11_keepPast n H [.ref (a0)] (fun H1 => g_gr H1 (a0) 11 10 (fun q2 => g_gr H1 (a0) 11 3 (fun q3 => g_gr H1 (a0) 11 3 (fun q4 => g_gr H1 (a0) 11 10 (fun q5 => g_gi H1 (q5) 9 0 (fun x6 => (∃ fs, H1 (q4) = .inr (1, fs)) ∧ g_ci d mX1_rainOf n H1 [.ref (q4), .int (x6)] (fun H7 x8 => (∃ fs, H7 (q2) = .inr (9, fs)) ∧ g_ci d mX9_passMinute n H7 [.ref (q2), .ref (q3), .int (x8)] (fun H9 x10 => P H9 (x10)))))))))) : gG d mX11_minute 0 0 (g_Xj mX11_minute n 0 0 P) 0 n H [some (.ref (a0))] [] 0 0 := by
  refine gG_aload_n dX11_minute_0 rfl rfl ?_
  obtain ⟨hrc, d2, P2, hdd, hC, h⟩ := h
  refine gG_cvv (As := []) (st := []) dX11_minute_1 mV_X11_157 hdd hrc rfl rfl (Nat.le_of_ble_eq_true rfl) (Nat.le_refl _) ⟨Nat.le_refl _, Nat.le_refl _⟩ hC (fun H1 hp => ?_)
  have h := h H1 hp
  refine gG_aload_n dX11_minute_4 rfl rfl ?_
  obtain ⟨fs, q2, e1, e2, h⟩ := h
  refine gG_gr dX11_minute_5 fl_X11_72 ⟨fs, q2, e1, e2, ?_⟩
  refine gG_aload_n dX11_minute_8 rfl rfl ?_
  obtain ⟨fs, q3, e1, e2, h⟩ := h
  refine gG_gr dX11_minute_9 fl_X11_35 ⟨fs, q3, e1, e2, ?_⟩
  refine gG_aload_n dX11_minute_12 rfl rfl ?_
  obtain ⟨fs, q4, e1, e2, h⟩ := h
  refine gG_gr dX11_minute_13 fl_X11_35 ⟨fs, q4, e1, e2, ?_⟩
  refine gG_aload_n dX11_minute_16 rfl rfl ?_
  obtain ⟨fs, q5, e1, e2, h⟩ := h
  refine gG_gr dX11_minute_17 fl_X11_72 ⟨fs, q5, e1, e2, ?_⟩
  obtain ⟨fs, x6, e1, e2, h⟩ := h
  refine gG_gi dX11_minute_20 fl_X11_160 ⟨fs, x6, e1, e2, ?_⟩
  obtain ⟨hrc, d2, P2, hdd, hC, h⟩ := h
  refine gG_cvi (As := [.int (x6)]) (st := [.ref (q3), .ref (q2)]) dX11_minute_23 mV_X11_163 hdd hrc rfl rfl (Nat.le_of_ble_eq_true rfl) (Nat.le_refl _) ⟨Nat.le_refl _, Nat.le_refl _⟩ hC (fun H7 x8 hp => ?_)
  have h := h H7 x8 hp
  obtain ⟨hrc, d2, P2, hdd, hC, h⟩ := h
  refine gG_cvi (As := [.ref (q3), .int (x8)]) (st := []) dX11_minute_26 mV_X11_167 hdd hrc rfl rfl (Nat.le_of_ble_eq_true rfl) (Nat.le_refl _) ⟨Nat.le_refl _, Nat.le_refl _⟩ hC (fun H9 x10 hp => ?_)
  have h := h H9 x10 hp
  exact gG_exit ⟨rfl, rfl, rfl, dX11_minute_29, _, rfl, h⟩

theorem kX11_pour_0 {d n : Nat} {H : gHp} {P : gHp → Int32 → Prop} {a0 : Nat} {i1 : Int32} {i2 : Int32} (h : (∃ fs, H (a0) = .inr (11, fs)) ∧ g_cz d mX11_isMouth n H [.ref (a0), .int (i1)] (fun H1 b2 => (b2 = false → P H1 ((-1 : Int32))) ∧ (b2 = true → (i2 < (1 : Int32) → P H1 ((-1 : Int32))) ∧ (¬ (i2 < (1 : Int32)) → (i2 ≤ (20 : Int32) → (∃ fs, H1 (a0) = .inr (11, fs)) ∧ g_cvd d mX11_keepPast n H1 [.ref (a0)] (fun H3 => g_gr H3 (a0) 11 10 (fun q4 => (∃ fs, H3 (q4) = .inr (9, fs)) ∧ g_cvd d mX9_addWater n H3 [.ref (q4), .int (i1), .int (i2)] (fun H5 => g_gr H5 (a0) 11 10 (fun q6 => g_gr H5 (q6) 9 2 (fun q7 => g_al 0 H5 (q7) (i1) (fun x8 => P H5 (x8)))))))) ∧ (¬ (i2 ≤ (20 : Int32)) → P H1 ((-1 : Int32))))))) : gG d mX11_pour 0 0 (g_Xj mX11_pour n 0 0 P) 0 n H [some (.ref (a0)), some (.int (i1)), some (.int (i2))] [] 0 0 := by
  refine gG_aload_n dX11_pour_0 rfl rfl ?_
  refine gG_iload_n dX11_pour_1 rfl rfl ?_
  obtain ⟨hrc, d2, P2, hdd, hC, h⟩ := h
  refine gG_cvi (As := [.int (i1)]) (st := []) dX11_pour_2 mV_X11_117 hdd hrc rfl rfl (Nat.le_of_ble_eq_true rfl) (Nat.le_refl _) ⟨Nat.le_refl _, Nat.le_refl _⟩ hC (fun H1 x9 hp => ?_)
  obtain ⟨b2, rfl, hp⟩ := hp
  have h := h H1 b2 hp
  refine gG_if_eq (tgt := 19) dX11_pour_5 (by decide) (fun c => ?_) (fun c => ?_)
  · have h := h.1 (g_b_f c)
    refine gG_iconst (v := (-1)) dX11_pour_19 (by decide) ?_
    exact gG_exit ⟨rfl, rfl, rfl, dX11_pour_20, _, rfl, h⟩
  · have h := h.2 (g_b_t c)
    refine gG_iload_n dX11_pour_8 rfl rfl ?_
    refine gG_iconst (v := 1) dX11_pour_9 (by decide) ?_
    refine gG_ic_lt (tgt := 19) dX11_pour_10 (by decide) (fun c => ?_) (fun c => ?_)
    · have h := h.1 c
      refine gG_iconst (v := (-1)) dX11_pour_19 (by decide) ?_
      exact gG_exit ⟨rfl, rfl, rfl, dX11_pour_20, _, rfl, h⟩
    · have h := h.2 c
      refine gG_iload_n dX11_pour_13 rfl rfl ?_
      refine gG_bipush (v := 20) dX11_pour_14 (by decide) ?_
      refine gG_ic_le (tgt := 21) dX11_pour_16 (by decide) (fun c => ?_) (fun c => ?_)
      · have h := h.1 c
        refine gG_aload_n dX11_pour_21 rfl rfl ?_
        obtain ⟨hrc, d2, P2, hdd, hC, h⟩ := h
        refine gG_cvv (As := []) (st := []) dX11_pour_22 mV_X11_157 hdd hrc rfl rfl (Nat.le_of_ble_eq_true rfl) (Nat.le_refl _) ⟨Nat.le_refl _, Nat.le_refl _⟩ hC (fun H3 hp => ?_)
        have h := h H3 hp
        refine gG_aload_n dX11_pour_25 rfl rfl ?_
        obtain ⟨fs, q4, e1, e2, h⟩ := h
        refine gG_gr dX11_pour_26 fl_X11_72 ⟨fs, q4, e1, e2, ?_⟩
        refine gG_iload_n dX11_pour_29 rfl rfl ?_
        refine gG_iload_n dX11_pour_30 rfl rfl ?_
        obtain ⟨hrc, d2, P2, hdd, hC, h⟩ := h
        refine gG_cvv (As := [.int (i1), .int (i2)]) (st := []) dX11_pour_31 mV_X11_171 hdd hrc rfl rfl (Nat.le_of_ble_eq_true rfl) (Nat.le_refl _) ⟨Nat.le_refl _, Nat.le_refl _⟩ hC (fun H5 hp => ?_)
        have h := h H5 hp
        refine gG_aload_n dX11_pour_34 rfl rfl ?_
        obtain ⟨fs, q6, e1, e2, h⟩ := h
        refine gG_gr dX11_pour_35 fl_X11_72 ⟨fs, q6, e1, e2, ?_⟩
        obtain ⟨fs, q7, e1, e2, h⟩ := h
        refine gG_gr dX11_pour_38 fl_X11_136 ⟨fs, q7, e1, e2, ?_⟩
        refine gG_iload_n dX11_pour_41 rfl rfl ?_
        obtain ⟨m0, f0, e1, e2, h⟩ := h
        refine gG_iald dX11_pour_42 ⟨m0, f0, e1, e2, ?_⟩
        obtain ⟨x8, eH⟩ : ∃ z, z = f0 (Int32.toNatClampNeg (i1)) := ⟨_, rfl⟩
        rw [← eH] at h ⊢
        exact gG_exit ⟨rfl, rfl, rfl, dX11_pour_43, _, rfl, h⟩
      · have h := h.2 c
        refine gG_iconst (v := (-1)) dX11_pour_19 (by decide) ?_
        exact gG_exit ⟨rfl, rfl, rfl, dX11_pour_20, _, rfl, h⟩

theorem kX11_stop_0 {d n : Nat} {H : gHp} {P : gHp → Bool → Prop} {a0 : Nat} {i1 : Int32} (h : (∃ fs, H (a0) = .inr (11, fs)) ∧ g_cz d mX11_isMouth n H [.ref (a0), .int (i1)] (fun H1 b2 => (b2 = false → P H1 false) ∧ (b2 = true → g_gr H1 (a0) 11 10 (fun q3 => (∃ fs, H1 (q3) = .inr (9, fs)) ∧ g_cz d mX9_isStopped n H1 [.ref (q3), .int (i1)] (fun H4 b5 => (b5 = false → (∃ fs, H4 (a0) = .inr (11, fs)) ∧ g_cvd d mX11_keepPast n H4 [.ref (a0)] (fun H6 => g_gr H6 (a0) 11 10 (fun q7 => (∃ fs, H6 (q7) = .inr (9, fs)) ∧ g_cz d mX9_stopMouth n H6 [.ref (q7), .int (i1)] (fun H8 b9 => P H8 b9)))) ∧ (b5 = true → P H4 false)))))) : gG d mX11_stop 0 0 (g_Xz mX11_stop n 0 0 P) 0 n H [some (.ref (a0)), some (.int (i1))] [] 0 0 := by
  refine gG_aload_n dX11_stop_0 rfl rfl ?_
  refine gG_iload_n dX11_stop_1 rfl rfl ?_
  obtain ⟨hrc, d2, P2, hdd, hC, h⟩ := h
  refine gG_cvi (As := [.int (i1)]) (st := []) dX11_stop_2 mV_X11_117 hdd hrc rfl rfl (Nat.le_of_ble_eq_true rfl) (Nat.le_refl _) ⟨Nat.le_refl _, Nat.le_refl _⟩ hC (fun H1 x9 hp => ?_)
  obtain ⟨b2, rfl, hp⟩ := hp
  have h := h H1 b2 hp
  refine gG_if_eq (tgt := 19) dX11_stop_5 (by decide) (fun c => ?_) (fun c => ?_)
  · have h := h.1 (g_b_f c)
    refine gG_iconst (v := 0) dX11_stop_19 (by decide) ?_
    exact gG_exit ⟨rfl, rfl, rfl, dX11_stop_20, false, rfl, h⟩
  · have h := h.2 (g_b_t c)
    refine gG_aload_n dX11_stop_8 rfl rfl ?_
    obtain ⟨fs, q3, e1, e2, h⟩ := h
    refine gG_gr dX11_stop_9 fl_X11_72 ⟨fs, q3, e1, e2, ?_⟩
    refine gG_iload_n dX11_stop_12 rfl rfl ?_
    obtain ⟨hrc, d2, P2, hdd, hC, h⟩ := h
    refine gG_cvi (As := [.int (i1)]) (st := []) dX11_stop_13 mV_X11_139 hdd hrc rfl rfl (Nat.le_of_ble_eq_true rfl) (Nat.le_refl _) ⟨Nat.le_refl _, Nat.le_refl _⟩ hC (fun H4 x9 hp => ?_)
    obtain ⟨b5, rfl, hp⟩ := hp
    have h := h H4 b5 hp
    refine gG_if_eq (tgt := 21) dX11_stop_16 (by decide) (fun c => ?_) (fun c => ?_)
    · have h := h.1 (g_b_f c)
      refine gG_aload_n dX11_stop_21 rfl rfl ?_
      obtain ⟨hrc, d2, P2, hdd, hC, h⟩ := h
      refine gG_cvv (As := []) (st := []) dX11_stop_22 mV_X11_157 hdd hrc rfl rfl (Nat.le_of_ble_eq_true rfl) (Nat.le_refl _) ⟨Nat.le_refl _, Nat.le_refl _⟩ hC (fun H6 hp => ?_)
      have h := h H6 hp
      refine gG_aload_n dX11_stop_25 rfl rfl ?_
      obtain ⟨fs, q7, e1, e2, h⟩ := h
      refine gG_gr dX11_stop_26 fl_X11_72 ⟨fs, q7, e1, e2, ?_⟩
      refine gG_iload_n dX11_stop_29 rfl rfl ?_
      obtain ⟨hrc, d2, P2, hdd, hC, h⟩ := h
      refine gG_cvi (As := [.int (i1)]) (st := []) dX11_stop_30 mV_X11_175 hdd hrc rfl rfl (Nat.le_of_ble_eq_true rfl) (Nat.le_refl _) ⟨Nat.le_refl _, Nat.le_refl _⟩ hC (fun H8 x9 hp => ?_)
      obtain ⟨b9, rfl, hp⟩ := hp
      have h := h H8 b9 hp
      exact gG_exit ⟨rfl, rfl, rfl, dX11_stop_33, b9, rfl, h⟩
    · have h := h.2 (g_b_t c)
      refine gG_iconst (v := 0) dX11_stop_19 (by decide) ?_
      exact gG_exit ⟨rfl, rfl, rfl, dX11_stop_20, false, rfl, h⟩

theorem kX11_clear_0 {d n : Nat} {H : gHp} {P : gHp → Bool → Prop} {a0 : Nat} {i1 : Int32} (h : (∃ fs, H (a0) = .inr (11, fs)) ∧ g_cz d mX11_isMouth n H [.ref (a0), .int (i1)] (fun H1 b2 => (b2 = false → P H1 false) ∧ (b2 = true → g_gr H1 (a0) 11 10 (fun q3 => (∃ fs, H1 (q3) = .inr (9, fs)) ∧ g_cz d mX9_isStopped n H1 [.ref (q3), .int (i1)] (fun H4 b5 => (b5 = true → (∃ fs, H4 (a0) = .inr (11, fs)) ∧ g_cvd d mX11_keepPast n H4 [.ref (a0)] (fun H6 => g_gr H6 (a0) 11 10 (fun q7 => (∃ fs, H6 (q7) = .inr (9, fs)) ∧ g_cz d mX9_clearMouth n H6 [.ref (q7), .int (i1)] (fun H8 b9 => P H8 b9)))) ∧ (b5 = false → P H4 false)))))) : gG d mX11_clear 0 0 (g_Xz mX11_clear n 0 0 P) 0 n H [some (.ref (a0)), some (.int (i1))] [] 0 0 := by
  refine gG_aload_n dX11_clear_0 rfl rfl ?_
  refine gG_iload_n dX11_clear_1 rfl rfl ?_
  obtain ⟨hrc, d2, P2, hdd, hC, h⟩ := h
  refine gG_cvi (As := [.int (i1)]) (st := []) dX11_clear_2 mV_X11_117 hdd hrc rfl rfl (Nat.le_of_ble_eq_true rfl) (Nat.le_refl _) ⟨Nat.le_refl _, Nat.le_refl _⟩ hC (fun H1 x9 hp => ?_)
  obtain ⟨b2, rfl, hp⟩ := hp
  have h := h H1 b2 hp
  refine gG_if_eq (tgt := 19) dX11_clear_5 (by decide) (fun c => ?_) (fun c => ?_)
  · have h := h.1 (g_b_f c)
    refine gG_iconst (v := 0) dX11_clear_19 (by decide) ?_
    exact gG_exit ⟨rfl, rfl, rfl, dX11_clear_20, false, rfl, h⟩
  · have h := h.2 (g_b_t c)
    refine gG_aload_n dX11_clear_8 rfl rfl ?_
    obtain ⟨fs, q3, e1, e2, h⟩ := h
    refine gG_gr dX11_clear_9 fl_X11_72 ⟨fs, q3, e1, e2, ?_⟩
    refine gG_iload_n dX11_clear_12 rfl rfl ?_
    obtain ⟨hrc, d2, P2, hdd, hC, h⟩ := h
    refine gG_cvi (As := [.int (i1)]) (st := []) dX11_clear_13 mV_X11_139 hdd hrc rfl rfl (Nat.le_of_ble_eq_true rfl) (Nat.le_refl _) ⟨Nat.le_refl _, Nat.le_refl _⟩ hC (fun H4 x9 hp => ?_)
    obtain ⟨b5, rfl, hp⟩ := hp
    have h := h H4 b5 hp
    refine gG_if_ne (tgt := 21) dX11_clear_16 (by decide) (fun c => ?_) (fun c => ?_)
    · have h := h.1 (g_b_t c)
      refine gG_aload_n dX11_clear_21 rfl rfl ?_
      obtain ⟨hrc, d2, P2, hdd, hC, h⟩ := h
      refine gG_cvv (As := []) (st := []) dX11_clear_22 mV_X11_157 hdd hrc rfl rfl (Nat.le_of_ble_eq_true rfl) (Nat.le_refl _) ⟨Nat.le_refl _, Nat.le_refl _⟩ hC (fun H6 hp => ?_)
      have h := h H6 hp
      refine gG_aload_n dX11_clear_25 rfl rfl ?_
      obtain ⟨fs, q7, e1, e2, h⟩ := h
      refine gG_gr dX11_clear_26 fl_X11_72 ⟨fs, q7, e1, e2, ?_⟩
      refine gG_iload_n dX11_clear_29 rfl rfl ?_
      obtain ⟨hrc, d2, P2, hdd, hC, h⟩ := h
      refine gG_cvi (As := [.int (i1)]) (st := []) dX11_clear_30 mV_X11_178 hdd hrc rfl rfl (Nat.le_of_ble_eq_true rfl) (Nat.le_refl _) ⟨Nat.le_refl _, Nat.le_refl _⟩ hC (fun H8 x9 hp => ?_)
      obtain ⟨b9, rfl, hp⟩ := hp
      have h := h H8 b9 hp
      exact gG_exit ⟨rfl, rfl, rfl, dX11_clear_33, b9, rfl, h⟩
    · have h := h.2 (g_b_f c)
      refine gG_iconst (v := 0) dX11_clear_19 (by decide) ?_
      exact gG_exit ⟨rfl, rfl, rfl, dX11_clear_20, false, rfl, h⟩

theorem kX11_undo_0 {d n : Nat} {H : gHp} {P : gHp → Bool → Prop} {a0 : Nat} (h : g_gi H (a0) 11 14 (fun x1 => (¬ (x1 = 0) → g_gi H (a0) 11 13 (fun x2 => g_pf H (a0) 11 13 (.int (((x2 - (1 : Int32)) &&& (15 : Int32)))) (fun H3 => g_gi H3 (a0) 11 14 (fun x4 => g_pf H3 (a0) 11 14 (.int ((x4 - (1 : Int32)))) (fun H5 => g_gr H5 (a0) 11 10 (fun q6 => g_gr H5 (a0) 11 12 (fun q7 => g_gi H5 (a0) 11 13 (fun x8 => g_rl 4 H5 (q7) (x8) (fun q9 => (∃ fs, H5 (q6) = .inr (9, fs)) ∧ g_cvd d mX9_copyFrom n H5 [.ref (q6), .ref (q9)] (fun H10 => P H10 true)))))))))) ∧ (x1 = 0 → P H false))) : gG d mX11_undo 0 0 (g_Xz mX11_undo n 0 0 P) 0 n H [some (.ref (a0))] [] 0 0 := by
  refine gG_aload_n dX11_undo_0 rfl rfl ?_
  obtain ⟨fs, x1, e1, e2, h⟩ := h
  refine gG_gi dX11_undo_1 fl_X11_181 ⟨fs, x1, e1, e2, ?_⟩
  refine gG_if_ne (tgt := 9) dX11_undo_4 (by decide) (fun c => ?_) (fun c => ?_)
  · have h := h.1 c
    refine gG_aload_n dX11_undo_9 rfl rfl ?_
    refine gG_aload_n dX11_undo_10 rfl rfl ?_
    obtain ⟨fs, x2, e1, e2, h⟩ := h
    refine gG_gi dX11_undo_11 fl_X11_184 ⟨fs, x2, e1, e2, ?_⟩
    refine gG_iconst (v := 1) dX11_undo_14 (by decide) ?_
    refine gG_isub dX11_undo_15 ?_
    refine gG_bipush (v := 15) dX11_undo_16 (by decide) ?_
    refine gG_iand dX11_undo_18 ?_
    obtain ⟨fs, e1, e2, h⟩ := h
    refine gG_pi dX11_undo_19 fl_X11_184 ⟨fs, e1, e2, ?_⟩
    obtain ⟨H3, eH⟩ : ∃ z, z = va_up H (a0) (.inr (11, fs.set 13 (.int (((x2 - (1 : Int32)) &&& (15 : Int32)))))) := ⟨_, rfl⟩
    rw [← eH] at h ⊢
    refine gG_aload_n dX11_undo_22 rfl rfl ?_
    refine gG_dup dX11_undo_23 rfl ?_
    obtain ⟨fs, x4, e1, e2, h⟩ := h
    refine gG_gi dX11_undo_24 fl_X11_181 ⟨fs, x4, e1, e2, ?_⟩
    refine gG_iconst (v := 1) dX11_undo_27 (by decide) ?_
    refine gG_isub dX11_undo_28 ?_
    obtain ⟨fs, e1, e2, h⟩ := h
    refine gG_pi dX11_undo_29 fl_X11_181 ⟨fs, e1, e2, ?_⟩
    obtain ⟨H5, eH⟩ : ∃ z, z = va_up H3 (a0) (.inr (11, fs.set 14 (.int ((x4 - (1 : Int32)))))) := ⟨_, rfl⟩
    rw [← eH] at h ⊢
    refine gG_aload_n dX11_undo_32 rfl rfl ?_
    obtain ⟨fs, q6, e1, e2, h⟩ := h
    refine gG_gr dX11_undo_33 fl_X11_72 ⟨fs, q6, e1, e2, ?_⟩
    refine gG_aload_n dX11_undo_36 rfl rfl ?_
    obtain ⟨fs, q7, e1, e2, h⟩ := h
    refine gG_gr dX11_undo_37 fl_X11_79 ⟨fs, q7, e1, e2, ?_⟩
    refine gG_aload_n dX11_undo_40 rfl rfl ?_
    obtain ⟨fs, x8, e1, e2, h⟩ := h
    refine gG_gi dX11_undo_41 fl_X11_184 ⟨fs, x8, e1, e2, ?_⟩
    obtain ⟨m0, f0, q9, e1, e2, e3, h⟩ := h
    refine gG_aald (t := 4) (by decide) dX11_undo_44 ⟨m0, f0, q9, e1, e2, e3, ?_⟩
    obtain ⟨hrc, d2, P2, hdd, hC, h⟩ := h
    refine gG_cvv (As := [.ref (q9)]) (st := []) dX11_undo_45 mV_X11_187 hdd hrc rfl rfl (Nat.le_of_ble_eq_true rfl) (Nat.le_refl _) ⟨Nat.le_refl _, Nat.le_refl _⟩ hC (fun H10 hp => ?_)
    have h := h H10 hp
    refine gG_iconst (v := 1) dX11_undo_48 (by decide) ?_
    exact gG_exit ⟨rfl, rfl, rfl, dX11_undo_49, true, rfl, h⟩
  · have h := h.2 c
    refine gG_iconst (v := 0) dX11_undo_7 (by decide) ?_
    exact gG_exit ⟨rfl, rfl, rfl, dX11_undo_8, false, rfl, h⟩

theorem kX11_judged_0 {d n : Nat} {H : gHp} {P : gHp → Int32 → Prop} {a0 : Nat} {i1 : Int32} (h : (i1 < 0 → P H ((-2 : Int32))) ∧ (¬ (i1 < 0) → (i1 ≤ (2 : Int32) → g_gr H (a0) 11 11 (fun q1 => g_gr H (a0) 11 3 (fun q2 => (∃ fs, H (q1) = .inr (9, fs)) ∧ g_cvd d mX9_begin n H [.ref (q1), .ref (q2)] (fun H3 => gG d mX11_judged 0 0 (g_Xj mX11_judged n 0 0 P) 30 n H3 [some (.ref (a0)), some (.int (i1)), some (.int ((-1 : Int32))), some (.int ((-1 : Int32))), some (.int ((0 : Int32))), none] [] (0) (0))))) ∧ (¬ (i1 ≤ (2 : Int32)) → P H ((-2 : Int32))))) : gG d mX11_judged 0 0 (g_Xj mX11_judged n 0 0 P) 0 n H [some (.ref (a0)), some (.int (i1)), none, none, none, none] [] 0 0 := by
  refine gG_iload_n dX11_judged_0 rfl rfl ?_
  refine gG_if_lt (tgt := 9) dX11_judged_1 (by decide) (fun c => ?_) (fun c => ?_)
  · have h := h.1 c
    refine gG_bipush (v := (-2)) dX11_judged_9 (by decide) ?_
    exact gG_exit ⟨rfl, rfl, rfl, dX11_judged_11, _, rfl, h⟩
  · have h := h.2 c
    refine gG_iload_n dX11_judged_4 rfl rfl ?_
    refine gG_iconst (v := 2) dX11_judged_5 (by decide) ?_
    refine gG_ic_le (tgt := 12) dX11_judged_6 (by decide) (fun c => ?_) (fun c => ?_)
    · have h := h.1 c
      refine gG_iconst (v := (-1)) dX11_judged_12 (by decide) ?_
      refine gG_istore_n dX11_judged_13 rfl (Nat.le_of_ble_eq_true rfl) ?_
      refine gG_iconst (v := (-1)) dX11_judged_14 (by decide) ?_
      refine gG_istore_n dX11_judged_15 rfl (Nat.le_of_ble_eq_true rfl) ?_
      refine gG_aload_n dX11_judged_16 rfl rfl ?_
      obtain ⟨fs, q1, e1, e2, h⟩ := h
      refine gG_gr dX11_judged_17 fl_X11_76 ⟨fs, q1, e1, e2, ?_⟩
      refine gG_aload_n dX11_judged_20 rfl rfl ?_
      obtain ⟨fs, q2, e1, e2, h⟩ := h
      refine gG_gr dX11_judged_21 fl_X11_35 ⟨fs, q2, e1, e2, ?_⟩
      obtain ⟨hrc, d2, P2, hdd, hC, h⟩ := h
      refine gG_cvv (As := [.ref (q2)]) (st := []) dX11_judged_24 mV_X11_191 hdd hrc rfl rfl (Nat.le_of_ble_eq_true rfl) (Nat.le_refl _) ⟨Nat.le_refl _, Nat.le_refl _⟩ hC (fun H3 hp => ?_)
      have h := h H3 hp
      refine gG_iconst (v := 0) dX11_judged_27 (by decide) ?_
      refine gG_istore dX11_judged_28 (Nat.le_of_ble_eq_true rfl) ?_
      refine gG_locals ?_ h
      exact ⟨rfl, ⟨rfl, ⟨rfl, ⟨rfl, ⟨rfl, trivial⟩⟩⟩⟩⟩
    · have h := h.2 c
      refine gG_bipush (v := (-2)) dX11_judged_9 (by decide) ?_
      exact gG_exit ⟨rfl, rfl, rfl, dX11_judged_11, _, rfl, h⟩
theorem kX11_judged_30 {d n : Nat} {H : gHp} {P : gHp → Int32 → Prop} {a0 : Nat} {i1 : Int32} {i2 : Int32} {i3 : Int32} {i4 : Int32} (h : g_gr H (a0) 11 5 (fun q1 => g_gi H (q1) 0 0 (fun x2 => (x2 ≤ i4 → (¬ (i1 = (2 : Int32)) → (¬ (i1 = 0) → P H (i3)) ∧ (i1 = 0 → P H (i2))) ∧ (i1 = (2 : Int32) → g_gr H (a0) 11 11 (fun q3 => (∃ fs, H (q3) = .inr (9, fs)) ∧ g_ci d mX9_signsLike n H [.ref (q3), .int ((6 : Int32))] (fun H4 x5 => P H4 (x5))))) ∧ (¬ (x2 ≤ i4) → (∃ fs, H (a0) = .inr (11, fs)) ∧ g_ci d mX11_doLine n H [.ref (a0), .int (i4)] (fun H6 x7 => (¬ (x7 = (-2 : Int32)) → gG d mX11_judged 0 0 (g_Xj mX11_judged n 0 0 P) 65 n H6 [some (.ref (a0)), some (.int (i1)), some (.int (i2)), some (.int (i3)), some (.int (i4)), some (.int (x7))] [] (0) (0)) ∧ (x7 = (-2 : Int32) → (¬ (i2 = (-1 : Int32)) → gG d mX11_judged 0 0 (g_Xj mX11_judged n 0 0 P) 65 n H6 [some (.ref (a0)), some (.int (i1)), some (.int (i2)), some (.int (i3)), some (.int (i4)), some (.int (x7))] [] (0) (0)) ∧ (i2 = (-1 : Int32) → gG d mX11_judged 0 0 (g_Xj mX11_judged n 0 0 P) 65 n H6 [some (.ref (a0)), some (.int (i1)), some (.int (i4)), some (.int (i3)), some (.int (i4)), some (.int (x7))] [] (0) (0)))))))) : gG d mX11_judged 0 0 (g_Xj mX11_judged n 0 0 P) 30 n H [some (.ref (a0)), some (.int (i1)), some (.int (i2)), some (.int (i3)), some (.int (i4)), none] [] 0 0 := by
  refine gG_iload dX11_judged_30 rfl ?_
  refine gG_aload_n dX11_judged_32 rfl rfl ?_
  obtain ⟨fs, q1, e1, e2, h⟩ := h
  refine gG_gr dX11_judged_33 fl_X11_45 ⟨fs, q1, e1, e2, ?_⟩
  obtain ⟨fs, x2, e1, e2, h⟩ := h
  refine gG_gi dX11_judged_36 fl_X11_195 ⟨fs, x2, e1, e2, ?_⟩
  refine gG_ic_ge (tgt := 91) dX11_judged_39 (by decide) (fun c => ?_) (fun c => ?_)
  · have h := h.1 c
    refine gG_iload_n dX11_judged_91 rfl rfl ?_
    refine gG_iconst (v := 2) dX11_judged_92 (by decide) ?_
    refine gG_ic_ne (tgt := 106) dX11_judged_93 (by decide) (fun c => ?_) (fun c => ?_)
    · have h := h.1 c
      refine gG_iload_n dX11_judged_106 rfl rfl ?_
      refine gG_if_ne (tgt := 114) dX11_judged_107 (by decide) (fun c => ?_) (fun c => ?_)
      · have h := h.1 c
        refine gG_iload_n dX11_judged_114 rfl rfl ?_
        exact gG_exit ⟨rfl, rfl, rfl, dX11_judged_115, _, rfl, h⟩
      · have h := h.2 c
        refine gG_iload_n dX11_judged_110 rfl rfl ?_
        refine gG_goto (tgt := 115) dX11_judged_111 (by decide) ?_
        exact gG_exit ⟨rfl, rfl, rfl, dX11_judged_115, _, rfl, h⟩
    · have h := h.2 c
      refine gG_aload_n dX11_judged_96 rfl rfl ?_
      obtain ⟨fs, q3, e1, e2, h⟩ := h
      refine gG_gr dX11_judged_97 fl_X11_76 ⟨fs, q3, e1, e2, ?_⟩
      refine gG_bipush (v := 6) dX11_judged_100 (by decide) ?_
      obtain ⟨hrc, d2, P2, hdd, hC, h⟩ := h
      refine gG_cvi (As := [.int ((6 : Int32))]) (st := []) dX11_judged_102 mV_X11_199 hdd hrc rfl rfl (Nat.le_of_ble_eq_true rfl) (Nat.le_refl _) ⟨Nat.le_refl _, Nat.le_refl _⟩ hC (fun H4 x5 hp => ?_)
      have h := h H4 x5 hp
      exact gG_exit ⟨rfl, rfl, rfl, dX11_judged_105, _, rfl, h⟩
  · have h := h.2 c
    refine gG_aload_n dX11_judged_42 rfl rfl ?_
    refine gG_iload dX11_judged_43 rfl ?_
    obtain ⟨hrc, d2, P2, hdd, hC, h⟩ := h
    refine gG_cvi (As := [.int (i4)]) (st := []) dX11_judged_45 mV_X11_196 hdd hrc rfl rfl (Nat.le_of_ble_eq_true rfl) (Nat.le_refl _) ⟨Nat.le_refl _, Nat.le_refl _⟩ hC (fun H6 x7 hp => ?_)
    have h := h H6 x7 hp
    refine gG_istore dX11_judged_48 (Nat.le_of_ble_eq_true rfl) ?_
    refine gG_iload dX11_judged_50 rfl ?_
    refine gG_bipush (v := (-2)) dX11_judged_52 (by decide) ?_
    refine gG_ic_ne (tgt := 65) dX11_judged_54 (by decide) (fun c => ?_) (fun c => ?_)
    · have h := h.1 c
      refine gG_locals ?_ h
      exact ⟨rfl, ⟨rfl, ⟨rfl, ⟨rfl, ⟨rfl, ⟨rfl, trivial⟩⟩⟩⟩⟩⟩
    · have h := h.2 c
      refine gG_iload_n dX11_judged_57 rfl rfl ?_
      refine gG_iconst (v := (-1)) dX11_judged_58 (by decide) ?_
      refine gG_ic_ne (tgt := 65) dX11_judged_59 (by decide) (fun c => ?_) (fun c => ?_)
      · have h := h.1 c
        refine gG_locals ?_ h
        exact ⟨rfl, ⟨rfl, ⟨rfl, ⟨rfl, ⟨rfl, ⟨rfl, trivial⟩⟩⟩⟩⟩⟩
      · have h := h.2 c
        refine gG_iload dX11_judged_62 rfl ?_
        refine gG_istore_n dX11_judged_64 rfl (Nat.le_of_ble_eq_true rfl) ?_
        refine gG_locals ?_ h
        exact ⟨rfl, ⟨rfl, ⟨rfl, ⟨rfl, ⟨rfl, ⟨rfl, trivial⟩⟩⟩⟩⟩⟩
theorem kX11_judged_65 {d n : Nat} {H : gHp} {P : gHp → Int32 → Prop} {a0 : Nat} {i1 : Int32} {i2 : Int32} {i3 : Int32} {i4 : Int32} {i5 : Int32} (h : (i5 < 0 → gG d mX11_judged 0 0 (g_Xj mX11_judged n 0 0 P) 30 n H [some (.ref (a0)), some (.int (i1)), some (.int (i2)), some (.int (i3)), some (.int ((i4 + 1))), none] [] (0) (0)) ∧ (¬ (i5 < 0) → (i5 = (6 : Int32) → gG d mX11_judged 0 0 (g_Xj mX11_judged n 0 0 P) 30 n H [some (.ref (a0)), some (.int (i1)), some (.int (i2)), some (.int (i3)), some (.int ((i4 + 1))), none] [] (0) (0)) ∧ (¬ (i5 = (6 : Int32)) → (¬ (i3 = (-1 : Int32)) → gG d mX11_judged 0 0 (g_Xj mX11_judged n 0 0 P) 30 n H [some (.ref (a0)), some (.int (i1)), some (.int (i2)), some (.int (i3)), some (.int ((i4 + 1))), none] [] (0) (0)) ∧ (i3 = (-1 : Int32) → gG d mX11_judged 0 0 (g_Xj mX11_judged n 0 0 P) 30 n H [some (.ref (a0)), some (.int (i1)), some (.int (i2)), some (.int (i4)), some (.int ((i4 + 1))), none] [] (0) (0))))) : gG d mX11_judged 0 0 (g_Xj mX11_judged n 0 0 P) 65 n H [some (.ref (a0)), some (.int (i1)), some (.int (i2)), some (.int (i3)), some (.int (i4)), some (.int (i5))] [] 0 0 := by
  refine gG_iload dX11_judged_65 rfl ?_
  refine gG_if_lt (tgt := 85) dX11_judged_67 (by decide) (fun c => ?_) (fun c => ?_)
  · have h := h.1 c
    refine gG_iinc (v := i4 + 1) dX11_judged_85 rfl rfl (Nat.le_of_ble_eq_true rfl) ?_
    refine gG_goto (tgt := 30) dX11_judged_88 (by decide) ?_
    refine gG_locals ?_ h
    exact ⟨rfl, ⟨rfl, ⟨rfl, ⟨rfl, ⟨rfl, trivial⟩⟩⟩⟩⟩
  · have h := h.2 c
    refine gG_iload dX11_judged_70 rfl ?_
    refine gG_bipush (v := 6) dX11_judged_72 (by decide) ?_
    refine gG_ic_eq (tgt := 85) dX11_judged_74 (by decide) (fun c => ?_) (fun c => ?_)
    · have h := h.1 c
      refine gG_iinc (v := i4 + 1) dX11_judged_85 rfl rfl (Nat.le_of_ble_eq_true rfl) ?_
      refine gG_goto (tgt := 30) dX11_judged_88 (by decide) ?_
      refine gG_locals ?_ h
      exact ⟨rfl, ⟨rfl, ⟨rfl, ⟨rfl, ⟨rfl, trivial⟩⟩⟩⟩⟩
    · have h := h.2 c
      refine gG_iload_n dX11_judged_77 rfl rfl ?_
      refine gG_iconst (v := (-1)) dX11_judged_78 (by decide) ?_
      refine gG_ic_ne (tgt := 85) dX11_judged_79 (by decide) (fun c => ?_) (fun c => ?_)
      · have h := h.1 c
        refine gG_iinc (v := i4 + 1) dX11_judged_85 rfl rfl (Nat.le_of_ble_eq_true rfl) ?_
        refine gG_goto (tgt := 30) dX11_judged_88 (by decide) ?_
        refine gG_locals ?_ h
        exact ⟨rfl, ⟨rfl, ⟨rfl, ⟨rfl, ⟨rfl, trivial⟩⟩⟩⟩⟩
      · have h := h.2 c
        refine gG_iload dX11_judged_82 rfl ?_
        refine gG_istore_n dX11_judged_84 rfl (Nat.le_of_ble_eq_true rfl) ?_
        refine gG_iinc (v := i4 + 1) dX11_judged_85 rfl rfl (Nat.le_of_ble_eq_true rfl) ?_
        refine gG_goto (tgt := 30) dX11_judged_88 (by decide) ?_
        refine gG_locals ?_ h
        exact ⟨rfl, ⟨rfl, ⟨rfl, ⟨rfl, ⟨rfl, trivial⟩⟩⟩⟩⟩

theorem kX11_later_0 {d n : Nat} {H : gHp} {P : gHp → Int32 → Prop} {a0 : Nat} {i1 : Int32} {i2 : Int32} (h : (∃ fs, H (a0) = .inr (11, fs)) ∧ g_cz d mX11_isMouth n H [.ref (a0), .int (i1)] (fun H1 b2 => (b2 = false → P H1 ((-1 : Int32))) ∧ (b2 = true → (i2 < 0 → P H1 ((-1 : Int32))) ∧ (¬ (i2 < 0) → (i2 ≤ (60 : Int32) → g_gr H1 (a0) 11 11 (fun q3 => g_gr H1 (a0) 11 10 (fun q4 => (∃ fs, H1 (q3) = .inr (9, fs)) ∧ g_cvd d mX9_copyFrom n H1 [.ref (q3), .ref (q4)] (fun H5 => gG d mX11_later 0 0 (g_Xj mX11_later n 0 0 P) 33 n H5 [some (.ref (a0)), some (.int (i1)), some (.int (i2)), some (.int ((0 : Int32)))] [] (0) (0))))) ∧ (¬ (i2 ≤ (60 : Int32)) → P H1 ((-1 : Int32))))))) : gG d mX11_later 0 0 (g_Xj mX11_later n 0 0 P) 0 n H [some (.ref (a0)), some (.int (i1)), some (.int (i2)), none] [] 0 0 := by
  refine gG_aload_n dX11_later_0 rfl rfl ?_
  refine gG_iload_n dX11_later_1 rfl rfl ?_
  obtain ⟨hrc, d2, P2, hdd, hC, h⟩ := h
  refine gG_cvi (As := [.int (i1)]) (st := []) dX11_later_2 mV_X11_117 hdd hrc rfl rfl (Nat.le_of_ble_eq_true rfl) (Nat.le_refl _) ⟨Nat.le_refl _, Nat.le_refl _⟩ hC (fun H1 x9 hp => ?_)
  obtain ⟨b2, rfl, hp⟩ := hp
  have h := h H1 b2 hp
  refine gG_if_eq (tgt := 18) dX11_later_5 (by decide) (fun c => ?_) (fun c => ?_)
  · have h := h.1 (g_b_f c)
    refine gG_iconst (v := (-1)) dX11_later_18 (by decide) ?_
    exact gG_exit ⟨rfl, rfl, rfl, dX11_later_19, _, rfl, h⟩
  · have h := h.2 (g_b_t c)
    refine gG_iload_n dX11_later_8 rfl rfl ?_
    refine gG_if_lt (tgt := 18) dX11_later_9 (by decide) (fun c => ?_) (fun c => ?_)
    · have h := h.1 c
      refine gG_iconst (v := (-1)) dX11_later_18 (by decide) ?_
      exact gG_exit ⟨rfl, rfl, rfl, dX11_later_19, _, rfl, h⟩
    · have h := h.2 c
      refine gG_iload_n dX11_later_12 rfl rfl ?_
      refine gG_bipush (v := 60) dX11_later_13 (by decide) ?_
      refine gG_ic_le (tgt := 20) dX11_later_15 (by decide) (fun c => ?_) (fun c => ?_)
      · have h := h.1 c
        refine gG_aload_n dX11_later_20 rfl rfl ?_
        obtain ⟨fs, q3, e1, e2, h⟩ := h
        refine gG_gr dX11_later_21 fl_X11_76 ⟨fs, q3, e1, e2, ?_⟩
        refine gG_aload_n dX11_later_24 rfl rfl ?_
        obtain ⟨fs, q4, e1, e2, h⟩ := h
        refine gG_gr dX11_later_25 fl_X11_72 ⟨fs, q4, e1, e2, ?_⟩
        obtain ⟨hrc, d2, P2, hdd, hC, h⟩ := h
        refine gG_cvv (As := [.ref (q4)]) (st := []) dX11_later_28 mV_X11_187 hdd hrc rfl rfl (Nat.le_of_ble_eq_true rfl) (Nat.le_refl _) ⟨Nat.le_refl _, Nat.le_refl _⟩ hC (fun H5 hp => ?_)
        have h := h H5 hp
        refine gG_iconst (v := 0) dX11_later_31 (by decide) ?_
        refine gG_istore_n dX11_later_32 rfl (Nat.le_of_ble_eq_true rfl) ?_
        refine gG_locals ?_ h
        exact ⟨rfl, ⟨rfl, ⟨rfl, ⟨rfl, trivial⟩⟩⟩⟩
      · have h := h.2 c
        refine gG_iconst (v := (-1)) dX11_later_18 (by decide) ?_
        exact gG_exit ⟨rfl, rfl, rfl, dX11_later_19, _, rfl, h⟩
theorem kX11_later_33 {d n : Nat} {H : gHp} {P : gHp → Int32 → Prop} {a0 : Nat} {i1 : Int32} {i2 : Int32} {i3 : Int32} (h : (i2 ≤ i3 → g_gr H (a0) 11 11 (fun q1 => g_gr H (q1) 9 2 (fun q2 => g_al 0 H (q2) (i1) (fun x3 => P H (x3))))) ∧ (¬ (i2 ≤ i3) → (∃ fs, H (a0) = .inr (11, fs)) ∧ g_ci d mX11_passTrialMinute n H [.ref (a0)] (fun H4 x5 => gG d mX11_later 0 0 (g_Xj mX11_later n 0 0 P) 33 n H4 [some (.ref (a0)), some (.int (i1)), some (.int (i2)), some (.int ((i3 + 1)))] [] (0) (0)))) : gG d mX11_later 0 0 (g_Xj mX11_later n 0 0 P) 33 n H [some (.ref (a0)), some (.int (i1)), some (.int (i2)), some (.int (i3))] [] 0 0 := by
  refine gG_iload_n dX11_later_33 rfl rfl ?_
  refine gG_iload_n dX11_later_34 rfl rfl ?_
  refine gG_ic_ge (tgt := 49) dX11_later_35 (by decide) (fun c => ?_) (fun c => ?_)
  · have h := h.1 c
    refine gG_aload_n dX11_later_49 rfl rfl ?_
    obtain ⟨fs, q1, e1, e2, h⟩ := h
    refine gG_gr dX11_later_50 fl_X11_76 ⟨fs, q1, e1, e2, ?_⟩
    obtain ⟨fs, q2, e1, e2, h⟩ := h
    refine gG_gr dX11_later_53 fl_X11_136 ⟨fs, q2, e1, e2, ?_⟩
    refine gG_iload_n dX11_later_56 rfl rfl ?_
    obtain ⟨m0, f0, e1, e2, h⟩ := h
    refine gG_iald dX11_later_57 ⟨m0, f0, e1, e2, ?_⟩
    obtain ⟨x3, eH⟩ : ∃ z, z = f0 (Int32.toNatClampNeg (i1)) := ⟨_, rfl⟩
    rw [← eH] at h ⊢
    exact gG_exit ⟨rfl, rfl, rfl, dX11_later_58, _, rfl, h⟩
  · have h := h.2 c
    refine gG_aload_n dX11_later_38 rfl rfl ?_
    obtain ⟨hrc, d2, P2, hdd, hC, h⟩ := h
    refine gG_cvi (As := []) (st := []) dX11_later_39 mV_X11_202 hdd hrc rfl rfl (Nat.le_of_ble_eq_true rfl) (Nat.le_refl _) ⟨Nat.le_refl _, Nat.le_refl _⟩ hC (fun H4 x5 hp => ?_)
    have h := h H4 x5 hp
    refine gG_pop dX11_later_42 rfl ?_
    refine gG_iinc (v := i3 + 1) dX11_later_43 rfl rfl (Nat.le_of_ble_eq_true rfl) ?_
    refine gG_goto (tgt := 33) dX11_later_46 (by decide) ?_
    refine gG_locals ?_ h
    exact ⟨rfl, ⟨rfl, ⟨rfl, ⟨rfl, trivial⟩⟩⟩⟩

theorem kX11_reads_0 {d n : Nat} {H : gHp} {P : gHp → Int32 → Prop} {a0 : Nat} {i1 : Int32} (h : g_cz d mX11_isAhead n H [.int (i1)] (fun H1 b2 => (b2 = true → g_gr H1 (a0) 11 11 (fun q3 => g_gr H1 (a0) 11 10 (fun q4 => (∃ fs, H1 (q3) = .inr (9, fs)) ∧ g_cvd d mX9_copyFrom n H1 [.ref (q3), .ref (q4)] (fun H5 => gG d mX11_reads 0 0 (g_Xj mX11_reads n 0 0 P) 23 n H5 [some (.ref (a0)), some (.int (i1)), some (.int ((0 : Int32)))] [] (0) (0))))) ∧ (b2 = false → P H1 ((-2 : Int32))))) : gG d mX11_reads 0 0 (g_Xj mX11_reads n 0 0 P) 0 n H [some (.ref (a0)), some (.int (i1)), none] [] 0 0 := by
  refine gG_iload_n dX11_reads_0 rfl rfl ?_
  obtain ⟨d2, P2, hdd, hC, h⟩ := h
  refine gG_csi (As := [.int (i1)]) (st := []) dX11_reads_1 mS_X11_206 hdd rfl rfl (Nat.le_of_ble_eq_true rfl) (Nat.le_refl _) ⟨Nat.le_refl _, Nat.le_refl _⟩ hC (fun H1 x9 hp => ?_)
  obtain ⟨b2, rfl, hp⟩ := hp
  have h := h H1 b2 hp
  refine gG_if_ne (tgt := 10) dX11_reads_4 (by decide) (fun c => ?_) (fun c => ?_)
  · have h := h.1 (g_b_t c)
    refine gG_aload_n dX11_reads_10 rfl rfl ?_
    obtain ⟨fs, q3, e1, e2, h⟩ := h
    refine gG_gr dX11_reads_11 fl_X11_76 ⟨fs, q3, e1, e2, ?_⟩
    refine gG_aload_n dX11_reads_14 rfl rfl ?_
    obtain ⟨fs, q4, e1, e2, h⟩ := h
    refine gG_gr dX11_reads_15 fl_X11_72 ⟨fs, q4, e1, e2, ?_⟩
    obtain ⟨hrc, d2, P2, hdd, hC, h⟩ := h
    refine gG_cvv (As := [.ref (q4)]) (st := []) dX11_reads_18 mV_X11_187 hdd hrc rfl rfl (Nat.le_of_ble_eq_true rfl) (Nat.le_refl _) ⟨Nat.le_refl _, Nat.le_refl _⟩ hC (fun H5 hp => ?_)
    have h := h H5 hp
    refine gG_iconst (v := 0) dX11_reads_21 (by decide) ?_
    refine gG_istore_n dX11_reads_22 rfl (Nat.le_of_ble_eq_true rfl) ?_
    refine gG_locals ?_ h
    exact ⟨rfl, ⟨rfl, ⟨rfl, trivial⟩⟩⟩
  · have h := h.2 (g_b_f c)
    refine gG_bipush (v := (-2)) dX11_reads_7 (by decide) ?_
    exact gG_exit ⟨rfl, rfl, rfl, dX11_reads_9, _, rfl, h⟩
theorem kX11_reads_23 {d n : Nat} {H : gHp} {P : gHp → Int32 → Prop} {a0 : Nat} {i1 : Int32} {i2 : Int32} (h : (i1 ≤ i2 → g_gr H (a0) 11 11 (fun q1 => g_gi H (q1) 9 5 (fun x2 => P H (x2)))) ∧ (¬ (i1 ≤ i2) → (∃ fs, H (a0) = .inr (11, fs)) ∧ g_ci d mX11_passTrialMinute n H [.ref (a0)] (fun H3 x4 => gG d mX11_reads 0 0 (g_Xj mX11_reads n 0 0 P) 23 n H3 [some (.ref (a0)), some (.int (i1)), some (.int ((i2 + 1)))] [] (0) (0)))) : gG d mX11_reads 0 0 (g_Xj mX11_reads n 0 0 P) 23 n H [some (.ref (a0)), some (.int (i1)), some (.int (i2))] [] 0 0 := by
  refine gG_iload_n dX11_reads_23 rfl rfl ?_
  refine gG_iload_n dX11_reads_24 rfl rfl ?_
  refine gG_ic_ge (tgt := 39) dX11_reads_25 (by decide) (fun c => ?_) (fun c => ?_)
  · have h := h.1 c
    refine gG_aload_n dX11_reads_39 rfl rfl ?_
    obtain ⟨fs, q1, e1, e2, h⟩ := h
    refine gG_gr dX11_reads_40 fl_X11_76 ⟨fs, q1, e1, e2, ?_⟩
    obtain ⟨fs, x2, e1, e2, h⟩ := h
    refine gG_gi dX11_reads_43 fl_X11_209 ⟨fs, x2, e1, e2, ?_⟩
    exact gG_exit ⟨rfl, rfl, rfl, dX11_reads_46, _, rfl, h⟩
  · have h := h.2 c
    refine gG_aload_n dX11_reads_28 rfl rfl ?_
    obtain ⟨hrc, d2, P2, hdd, hC, h⟩ := h
    refine gG_cvi (As := []) (st := []) dX11_reads_29 mV_X11_202 hdd hrc rfl rfl (Nat.le_of_ble_eq_true rfl) (Nat.le_refl _) ⟨Nat.le_refl _, Nat.le_refl _⟩ hC (fun H3 x4 hp => ?_)
    have h := h H3 x4 hp
    refine gG_pop dX11_reads_32 rfl ?_
    refine gG_iinc (v := i2 + 1) dX11_reads_33 rfl rfl (Nat.le_of_ble_eq_true rfl) ?_
    refine gG_goto (tgt := 23) dX11_reads_36 (by decide) ?_
    refine gG_locals ?_ h
    exact ⟨rfl, ⟨rfl, ⟨rfl, trivial⟩⟩⟩

theorem kX11_when_0 {d n : Nat} {H : gHp} {P : gHp → Int32 → Prop} {a0 : Nat} {i1 : Int32} (h : (∃ fs, H (a0) = .inr (11, fs)) ∧ g_cz d mX11_isLetter n H [.ref (a0), .int (i1)] (fun H1 b2 => (b2 = true → g_gr H1 (a0) 11 11 (fun q3 => g_gr H1 (a0) 11 10 (fun q4 => (∃ fs, H1 (q3) = .inr (9, fs)) ∧ g_cvd d mX9_copyFrom n H1 [.ref (q3), .ref (q4)] (fun H5 => gG d mX11_when 0 0 (g_Xj mX11_when n 0 0 P) 23 n H5 [some (.ref (a0)), some (.int (i1)), some (.int ((1 : Int32)))] [] (0) (0))))) ∧ (b2 = false → P H1 ((-1 : Int32))))) : gG d mX11_when 0 0 (g_Xj mX11_when n 0 0 P) 0 n H [some (.ref (a0)), some (.int (i1)), none] [] 0 0 := by
  refine gG_aload_n dX11_when_0 rfl rfl ?_
  refine gG_iload_n dX11_when_1 rfl rfl ?_
  obtain ⟨hrc, d2, P2, hdd, hC, h⟩ := h
  refine gG_cvi (As := [.int (i1)]) (st := []) dX11_when_2 mV_X11_145 hdd hrc rfl rfl (Nat.le_of_ble_eq_true rfl) (Nat.le_refl _) ⟨Nat.le_refl _, Nat.le_refl _⟩ hC (fun H1 x9 hp => ?_)
  obtain ⟨b2, rfl, hp⟩ := hp
  have h := h H1 b2 hp
  refine gG_if_ne (tgt := 10) dX11_when_5 (by decide) (fun c => ?_) (fun c => ?_)
  · have h := h.1 (g_b_t c)
    refine gG_aload_n dX11_when_10 rfl rfl ?_
    obtain ⟨fs, q3, e1, e2, h⟩ := h
    refine gG_gr dX11_when_11 fl_X11_76 ⟨fs, q3, e1, e2, ?_⟩
    refine gG_aload_n dX11_when_14 rfl rfl ?_
    obtain ⟨fs, q4, e1, e2, h⟩ := h
    refine gG_gr dX11_when_15 fl_X11_72 ⟨fs, q4, e1, e2, ?_⟩
    obtain ⟨hrc, d2, P2, hdd, hC, h⟩ := h
    refine gG_cvv (As := [.ref (q4)]) (st := []) dX11_when_18 mV_X11_187 hdd hrc rfl rfl (Nat.le_of_ble_eq_true rfl) (Nat.le_refl _) ⟨Nat.le_refl _, Nat.le_refl _⟩ hC (fun H5 hp => ?_)
    have h := h H5 hp
    refine gG_iconst (v := 1) dX11_when_21 (by decide) ?_
    refine gG_istore_n dX11_when_22 rfl (Nat.le_of_ble_eq_true rfl) ?_
    refine gG_locals ?_ h
    exact ⟨rfl, ⟨rfl, ⟨rfl, trivial⟩⟩⟩
  · have h := h.2 (g_b_f c)
    refine gG_iconst (v := (-1)) dX11_when_8 (by decide) ?_
    exact gG_exit ⟨rfl, rfl, rfl, dX11_when_9, _, rfl, h⟩
theorem kX11_when_23 {d n : Nat} {H : gHp} {P : gHp → Int32 → Prop} {a0 : Nat} {i1 : Int32} {i2 : Int32} (h : ((60 : Int32) < i2 → P H ((-1 : Int32))) ∧ (¬ ((60 : Int32) < i2) → (∃ fs, H (a0) = .inr (11, fs)) ∧ g_ci d mX11_passTrialMinute n H [.ref (a0)] (fun H1 x2 => (¬ (x2 = i1) → gG d mX11_when 0 0 (g_Xj mX11_when n 0 0 P) 23 n H1 [some (.ref (a0)), some (.int (i1)), some (.int ((i2 + 1)))] [] (0) (0)) ∧ (x2 = i1 → P H1 (i2))))) : gG d mX11_when 0 0 (g_Xj mX11_when n 0 0 P) 23 n H [some (.ref (a0)), some (.int (i1)), some (.int (i2))] [] 0 0 := by
  refine gG_iload_n dX11_when_23 rfl rfl ?_
  refine gG_bipush (v := 60) dX11_when_24 (by decide) ?_
  refine gG_ic_gt (tgt := 45) dX11_when_26 (by decide) (fun c => ?_) (fun c => ?_)
  · have h := h.1 c
    refine gG_iconst (v := (-1)) dX11_when_45 (by decide) ?_
    exact gG_exit ⟨rfl, rfl, rfl, dX11_when_46, _, rfl, h⟩
  · have h := h.2 c
    refine gG_aload_n dX11_when_29 rfl rfl ?_
    obtain ⟨hrc, d2, P2, hdd, hC, h⟩ := h
    refine gG_cvi (As := []) (st := []) dX11_when_30 mV_X11_202 hdd hrc rfl rfl (Nat.le_of_ble_eq_true rfl) (Nat.le_refl _) ⟨Nat.le_refl _, Nat.le_refl _⟩ hC (fun H1 x2 hp => ?_)
    have h := h H1 x2 hp
    refine gG_iload_n dX11_when_33 rfl rfl ?_
    refine gG_ic_ne (tgt := 39) dX11_when_34 (by decide) (fun c => ?_) (fun c => ?_)
    · have h := h.1 c
      refine gG_iinc (v := i2 + 1) dX11_when_39 rfl rfl (Nat.le_of_ble_eq_true rfl) ?_
      refine gG_goto (tgt := 23) dX11_when_42 (by decide) ?_
      refine gG_locals ?_ h
      exact ⟨rfl, ⟨rfl, ⟨rfl, trivial⟩⟩⟩
    · have h := h.2 c
      refine gG_iload_n dX11_when_37 rfl rfl ?_
      exact gG_exit ⟨rfl, rfl, rfl, dX11_when_38, _, rfl, h⟩

theorem kX11_dry_0 {d n : Nat} {H : gHp} {P : gHp → Int32 → Prop} {a0 : Nat} (h : g_gr H (a0) 11 11 (fun q1 => g_gr H (a0) 11 10 (fun q2 => (∃ fs, H (q1) = .inr (9, fs)) ∧ g_cvd d mX9_copyFrom n H [.ref (q1), .ref (q2)] (fun H3 => gG d mX11_dry 0 0 (g_Xj mX11_dry n 0 0 P) 13 n H3 [some (.ref (a0)), some (.int ((0 : Int32)))] [] (0) (0))))) : gG d mX11_dry 0 0 (g_Xj mX11_dry n 0 0 P) 0 n H [some (.ref (a0)), none] [] 0 0 := by
  refine gG_aload_n dX11_dry_0 rfl rfl ?_
  obtain ⟨fs, q1, e1, e2, h⟩ := h
  refine gG_gr dX11_dry_1 fl_X11_76 ⟨fs, q1, e1, e2, ?_⟩
  refine gG_aload_n dX11_dry_4 rfl rfl ?_
  obtain ⟨fs, q2, e1, e2, h⟩ := h
  refine gG_gr dX11_dry_5 fl_X11_72 ⟨fs, q2, e1, e2, ?_⟩
  obtain ⟨hrc, d2, P2, hdd, hC, h⟩ := h
  refine gG_cvv (As := [.ref (q2)]) (st := []) dX11_dry_8 mV_X11_187 hdd hrc rfl rfl (Nat.le_of_ble_eq_true rfl) (Nat.le_refl _) ⟨Nat.le_refl _, Nat.le_refl _⟩ hC (fun H3 hp => ?_)
  have h := h H3 hp
  refine gG_iconst (v := 0) dX11_dry_11 (by decide) ?_
  refine gG_istore_n dX11_dry_12 rfl (Nat.le_of_ble_eq_true rfl) ?_
  refine gG_locals ?_ h
  exact ⟨rfl, ⟨rfl, trivial⟩⟩
theorem kX11_dry_13 {d n : Nat} {H : gHp} {P : gHp → Int32 → Prop} {a0 : Nat} {i1 : Int32} (h : ((60 : Int32) < i1 → P H ((-1 : Int32))) ∧ (¬ ((60 : Int32) < i1) → g_gr H (a0) 11 11 (fun q1 => g_gr H (a0) 11 3 (fun q2 => g_gi H (q2) 1 0 (fun x3 => (∃ fs, H (q1) = .inr (9, fs)) ∧ g_ci d mX9_allWater n H [.ref (q1), .int (x3)] (fun H4 x5 => (¬ (x5 = 0) → (∃ fs, H4 (a0) = .inr (11, fs)) ∧ g_ci d mX11_passTrialMinute n H4 [.ref (a0)] (fun H6 x7 => gG d mX11_dry 0 0 (g_Xj mX11_dry n 0 0 P) 13 n H6 [some (.ref (a0)), some (.int ((i1 + 1)))] [] (0) (0))) ∧ (x5 = 0 → P H4 (i1)))))))) : gG d mX11_dry 0 0 (g_Xj mX11_dry n 0 0 P) 13 n H [some (.ref (a0)), some (.int (i1))] [] 0 0 := by
  refine gG_iload_n dX11_dry_13 rfl rfl ?_
  refine gG_bipush (v := 60) dX11_dry_14 (by decide) ?_
  refine gG_ic_gt (tgt := 49) dX11_dry_16 (by decide) (fun c => ?_) (fun c => ?_)
  · have h := h.1 c
    refine gG_iconst (v := (-1)) dX11_dry_49 (by decide) ?_
    exact gG_exit ⟨rfl, rfl, rfl, dX11_dry_50, _, rfl, h⟩
  · have h := h.2 c
    refine gG_aload_n dX11_dry_19 rfl rfl ?_
    obtain ⟨fs, q1, e1, e2, h⟩ := h
    refine gG_gr dX11_dry_20 fl_X11_76 ⟨fs, q1, e1, e2, ?_⟩
    refine gG_aload_n dX11_dry_23 rfl rfl ?_
    obtain ⟨fs, q2, e1, e2, h⟩ := h
    refine gG_gr dX11_dry_24 fl_X11_35 ⟨fs, q2, e1, e2, ?_⟩
    obtain ⟨fs, x3, e1, e2, h⟩ := h
    refine gG_gi dX11_dry_27 fl_X11_212 ⟨fs, x3, e1, e2, ?_⟩
    obtain ⟨hrc, d2, P2, hdd, hC, h⟩ := h
    refine gG_cvi (As := [.int (x3)]) (st := []) dX11_dry_30 mV_X11_215 hdd hrc rfl rfl (Nat.le_of_ble_eq_true rfl) (Nat.le_refl _) ⟨Nat.le_refl _, Nat.le_refl _⟩ hC (fun H4 x5 hp => ?_)
    have h := h H4 x5 hp
    refine gG_if_ne (tgt := 38) dX11_dry_33 (by decide) (fun c => ?_) (fun c => ?_)
    · have h := h.1 c
      refine gG_aload_n dX11_dry_38 rfl rfl ?_
      obtain ⟨hrc, d2, P2, hdd, hC, h⟩ := h
      refine gG_cvi (As := []) (st := []) dX11_dry_39 mV_X11_202 hdd hrc rfl rfl (Nat.le_of_ble_eq_true rfl) (Nat.le_refl _) ⟨Nat.le_refl _, Nat.le_refl _⟩ hC (fun H6 x7 hp => ?_)
      have h := h H6 x7 hp
      refine gG_pop dX11_dry_42 rfl ?_
      refine gG_iinc (v := i1 + 1) dX11_dry_43 rfl rfl (Nat.le_of_ble_eq_true rfl) ?_
      refine gG_goto (tgt := 13) dX11_dry_46 (by decide) ?_
      refine gG_locals ?_ h
      exact ⟨rfl, ⟨rfl, trivial⟩⟩
    · have h := h.2 c
      refine gG_iload_n dX11_dry_36 rfl rfl ?_
      exact gG_exit ⟨rfl, rfl, rfl, dX11_dry_37, _, rfl, h⟩

theorem kX11_spill_0 {d n : Nat} {H : gHp} {P : gHp → Int32 → Prop} {a0 : Nat} {i1 : Int32} (h : g_cz d mX11_isAhead n H [.int (i1)] (fun H1 b2 => (b2 = true → g_gr H1 (a0) 11 11 (fun q3 => g_gr H1 (a0) 11 10 (fun q4 => (∃ fs, H1 (q3) = .inr (9, fs)) ∧ g_cvd d mX9_copyFrom n H1 [.ref (q3), .ref (q4)] (fun H5 => gG d mX11_spill 0 0 (g_Xj mX11_spill n 0 0 P) 24 n H5 [some (.ref (a0)), some (.int (i1)), some (.int ((0 : Int32))), some (.int ((0 : Int32)))] [] (0) (0))))) ∧ (b2 = false → P H1 ((-1 : Int32))))) : gG d mX11_spill 0 0 (g_Xj mX11_spill n 0 0 P) 0 n H [some (.ref (a0)), some (.int (i1)), none, none] [] 0 0 := by
  refine gG_iload_n dX11_spill_0 rfl rfl ?_
  obtain ⟨d2, P2, hdd, hC, h⟩ := h
  refine gG_csi (As := [.int (i1)]) (st := []) dX11_spill_1 mS_X11_206 hdd rfl rfl (Nat.le_of_ble_eq_true rfl) (Nat.le_refl _) ⟨Nat.le_refl _, Nat.le_refl _⟩ hC (fun H1 x9 hp => ?_)
  obtain ⟨b2, rfl, hp⟩ := hp
  have h := h H1 b2 hp
  refine gG_if_ne (tgt := 9) dX11_spill_4 (by decide) (fun c => ?_) (fun c => ?_)
  · have h := h.1 (g_b_t c)
    refine gG_iconst (v := 0) dX11_spill_9 (by decide) ?_
    refine gG_istore_n dX11_spill_10 rfl (Nat.le_of_ble_eq_true rfl) ?_
    refine gG_aload_n dX11_spill_11 rfl rfl ?_
    obtain ⟨fs, q3, e1, e2, h⟩ := h
    refine gG_gr dX11_spill_12 fl_X11_76 ⟨fs, q3, e1, e2, ?_⟩
    refine gG_aload_n dX11_spill_15 rfl rfl ?_
    obtain ⟨fs, q4, e1, e2, h⟩ := h
    refine gG_gr dX11_spill_16 fl_X11_72 ⟨fs, q4, e1, e2, ?_⟩
    obtain ⟨hrc, d2, P2, hdd, hC, h⟩ := h
    refine gG_cvv (As := [.ref (q4)]) (st := []) dX11_spill_19 mV_X11_187 hdd hrc rfl rfl (Nat.le_of_ble_eq_true rfl) (Nat.le_refl _) ⟨Nat.le_refl _, Nat.le_refl _⟩ hC (fun H5 hp => ?_)
    have h := h H5 hp
    refine gG_iconst (v := 0) dX11_spill_22 (by decide) ?_
    refine gG_istore_n dX11_spill_23 rfl (Nat.le_of_ble_eq_true rfl) ?_
    refine gG_locals ?_ h
    exact ⟨rfl, ⟨rfl, ⟨rfl, ⟨rfl, trivial⟩⟩⟩⟩
  · have h := h.2 (g_b_f c)
    refine gG_iconst (v := (-1)) dX11_spill_7 (by decide) ?_
    exact gG_exit ⟨rfl, rfl, rfl, dX11_spill_8, _, rfl, h⟩
theorem kX11_spill_24 {d n : Nat} {H : gHp} {P : gHp → Int32 → Prop} {a0 : Nat} {i1 : Int32} {i2 : Int32} {i3 : Int32} (h : (i1 ≤ i3 → P H (i2)) ∧ (¬ (i1 ≤ i3) → (∃ fs, H (a0) = .inr (11, fs)) ∧ g_ci d mX11_passTrialMinute n H [.ref (a0)] (fun H1 x2 => g_gr H1 (a0) 11 11 (fun q3 => g_gi H1 (q3) 9 7 (fun x4 => gG d mX11_spill 0 0 (g_Xj mX11_spill n 0 0 P) 24 n H1 [some (.ref (a0)), some (.int (i1)), some (.int ((i2 + x4))), some (.int ((i3 + 1)))] [] (0) (0)))))) : gG d mX11_spill 0 0 (g_Xj mX11_spill n 0 0 P) 24 n H [some (.ref (a0)), some (.int (i1)), some (.int (i2)), some (.int (i3))] [] 0 0 := by
  refine gG_iload_n dX11_spill_24 rfl rfl ?_
  refine gG_iload_n dX11_spill_25 rfl rfl ?_
  refine gG_ic_ge (tgt := 50) dX11_spill_26 (by decide) (fun c => ?_) (fun c => ?_)
  · have h := h.1 c
    refine gG_iload_n dX11_spill_50 rfl rfl ?_
    exact gG_exit ⟨rfl, rfl, rfl, dX11_spill_51, _, rfl, h⟩
  · have h := h.2 c
    refine gG_aload_n dX11_spill_29 rfl rfl ?_
    obtain ⟨hrc, d2, P2, hdd, hC, h⟩ := h
    refine gG_cvi (As := []) (st := []) dX11_spill_30 mV_X11_202 hdd hrc rfl rfl (Nat.le_of_ble_eq_true rfl) (Nat.le_refl _) ⟨Nat.le_refl _, Nat.le_refl _⟩ hC (fun H1 x2 hp => ?_)
    have h := h H1 x2 hp
    refine gG_pop dX11_spill_33 rfl ?_
    refine gG_iload_n dX11_spill_34 rfl rfl ?_
    refine gG_aload_n dX11_spill_35 rfl rfl ?_
    obtain ⟨fs, q3, e1, e2, h⟩ := h
    refine gG_gr dX11_spill_36 fl_X11_76 ⟨fs, q3, e1, e2, ?_⟩
    obtain ⟨fs, x4, e1, e2, h⟩ := h
    refine gG_gi dX11_spill_39 fl_X11_218 ⟨fs, x4, e1, e2, ?_⟩
    refine gG_iadd dX11_spill_42 ?_
    refine gG_istore_n dX11_spill_43 rfl (Nat.le_of_ble_eq_true rfl) ?_
    refine gG_iinc (v := i3 + 1) dX11_spill_44 rfl rfl (Nat.le_of_ble_eq_true rfl) ?_
    refine gG_goto (tgt := 24) dX11_spill_47 (by decide) ?_
    refine gG_locals ?_ h
    exact ⟨rfl, ⟨rfl, ⟨rfl, ⟨rfl, trivial⟩⟩⟩⟩

theorem kX11_over_0 {d n : Nat} {H : gHp} {P : gHp → Int32 → Prop} {a0 : Nat} {i1 : Int32} (h : (∃ fs, H (a0) = .inr (11, fs)) ∧ g_cz d mX11_isMouth n H [.ref (a0), .int (i1)] (fun H1 b2 => (b2 = true → g_gr H1 (a0) 11 11 (fun q3 => g_gr H1 (a0) 11 10 (fun q4 => (∃ fs, H1 (q3) = .inr (9, fs)) ∧ g_cvd d mX9_copyFrom n H1 [.ref (q3), .ref (q4)] (fun H5 => gG d mX11_over 0 0 (g_Xj mX11_over n 0 0 P) 23 n H5 [some (.ref (a0)), some (.int (i1)), some (.int ((1 : Int32)))] [] (0) (0))))) ∧ (b2 = false → P H1 ((-1 : Int32))))) : gG d mX11_over 0 0 (g_Xj mX11_over n 0 0 P) 0 n H [some (.ref (a0)), some (.int (i1)), none] [] 0 0 := by
  refine gG_aload_n dX11_over_0 rfl rfl ?_
  refine gG_iload_n dX11_over_1 rfl rfl ?_
  obtain ⟨hrc, d2, P2, hdd, hC, h⟩ := h
  refine gG_cvi (As := [.int (i1)]) (st := []) dX11_over_2 mV_X11_117 hdd hrc rfl rfl (Nat.le_of_ble_eq_true rfl) (Nat.le_refl _) ⟨Nat.le_refl _, Nat.le_refl _⟩ hC (fun H1 x9 hp => ?_)
  obtain ⟨b2, rfl, hp⟩ := hp
  have h := h H1 b2 hp
  refine gG_if_ne (tgt := 10) dX11_over_5 (by decide) (fun c => ?_) (fun c => ?_)
  · have h := h.1 (g_b_t c)
    refine gG_aload_n dX11_over_10 rfl rfl ?_
    obtain ⟨fs, q3, e1, e2, h⟩ := h
    refine gG_gr dX11_over_11 fl_X11_76 ⟨fs, q3, e1, e2, ?_⟩
    refine gG_aload_n dX11_over_14 rfl rfl ?_
    obtain ⟨fs, q4, e1, e2, h⟩ := h
    refine gG_gr dX11_over_15 fl_X11_72 ⟨fs, q4, e1, e2, ?_⟩
    obtain ⟨hrc, d2, P2, hdd, hC, h⟩ := h
    refine gG_cvv (As := [.ref (q4)]) (st := []) dX11_over_18 mV_X11_187 hdd hrc rfl rfl (Nat.le_of_ble_eq_true rfl) (Nat.le_refl _) ⟨Nat.le_refl _, Nat.le_refl _⟩ hC (fun H5 hp => ?_)
    have h := h H5 hp
    refine gG_iconst (v := 1) dX11_over_21 (by decide) ?_
    refine gG_istore_n dX11_over_22 rfl (Nat.le_of_ble_eq_true rfl) ?_
    refine gG_locals ?_ h
    exact ⟨rfl, ⟨rfl, ⟨rfl, trivial⟩⟩⟩
  · have h := h.2 (g_b_f c)
    refine gG_iconst (v := (-1)) dX11_over_8 (by decide) ?_
    exact gG_exit ⟨rfl, rfl, rfl, dX11_over_9, _, rfl, h⟩
theorem kX11_over_23 {d n : Nat} {H : gHp} {P : gHp → Int32 → Prop} {a0 : Nat} {i1 : Int32} {i2 : Int32} (h : ((60 : Int32) < i2 → P H ((-1 : Int32))) ∧ (¬ ((60 : Int32) < i2) → (∃ fs, H (a0) = .inr (11, fs)) ∧ g_ci d mX11_passTrialMinute n H [.ref (a0)] (fun H1 x2 => g_gr H1 (a0) 11 11 (fun q3 => (∃ fs, H1 (q3) = .inr (9, fs)) ∧ g_cz d mX9_ranOver n H1 [.ref (q3), .int (i1)] (fun H4 b5 => (b5 = false → gG d mX11_over 0 0 (g_Xj mX11_over n 0 0 P) 23 n H4 [some (.ref (a0)), some (.int (i1)), some (.int ((i2 + 1)))] [] (0) (0)) ∧ (b5 = true → P H4 (i2))))))) : gG d mX11_over 0 0 (g_Xj mX11_over n 0 0 P) 23 n H [some (.ref (a0)), some (.int (i1)), some (.int (i2))] [] 0 0 := by
  refine gG_iload_n dX11_over_23 rfl rfl ?_
  refine gG_bipush (v := 60) dX11_over_24 (by decide) ?_
  refine gG_ic_gt (tgt := 53) dX11_over_26 (by decide) (fun c => ?_) (fun c => ?_)
  · have h := h.1 c
    refine gG_iconst (v := (-1)) dX11_over_53 (by decide) ?_
    exact gG_exit ⟨rfl, rfl, rfl, dX11_over_54, _, rfl, h⟩
  · have h := h.2 c
    refine gG_aload_n dX11_over_29 rfl rfl ?_
    obtain ⟨hrc, d2, P2, hdd, hC, h⟩ := h
    refine gG_cvi (As := []) (st := []) dX11_over_30 mV_X11_202 hdd hrc rfl rfl (Nat.le_of_ble_eq_true rfl) (Nat.le_refl _) ⟨Nat.le_refl _, Nat.le_refl _⟩ hC (fun H1 x2 hp => ?_)
    have h := h H1 x2 hp
    refine gG_pop dX11_over_33 rfl ?_
    refine gG_aload_n dX11_over_34 rfl rfl ?_
    obtain ⟨fs, q3, e1, e2, h⟩ := h
    refine gG_gr dX11_over_35 fl_X11_76 ⟨fs, q3, e1, e2, ?_⟩
    refine gG_iload_n dX11_over_38 rfl rfl ?_
    obtain ⟨hrc, d2, P2, hdd, hC, h⟩ := h
    refine gG_cvi (As := [.int (i1)]) (st := []) dX11_over_39 mV_X11_221 hdd hrc rfl rfl (Nat.le_of_ble_eq_true rfl) (Nat.le_refl _) ⟨Nat.le_refl _, Nat.le_refl _⟩ hC (fun H4 x9 hp => ?_)
    obtain ⟨b5, rfl, hp⟩ := hp
    have h := h H4 b5 hp
    refine gG_if_eq (tgt := 47) dX11_over_42 (by decide) (fun c => ?_) (fun c => ?_)
    · have h := h.1 (g_b_f c)
      refine gG_iinc (v := i2 + 1) dX11_over_47 rfl rfl (Nat.le_of_ble_eq_true rfl) ?_
      refine gG_goto (tgt := 23) dX11_over_50 (by decide) ?_
      refine gG_locals ?_ h
      exact ⟨rfl, ⟨rfl, ⟨rfl, trivial⟩⟩⟩
    · have h := h.2 (g_b_t c)
      refine gG_iload_n dX11_over_45 rfl rfl ?_
      exact gG_exit ⟨rfl, rfl, rfl, dX11_over_46, _, rfl, h⟩

theorem kX11_first_0 {d n : Nat} {H : gHp} {P : gHp → Int32 → Prop} {a0 : Nat} (h : g_gr H (a0) 11 11 (fun q1 => g_gr H (a0) 11 10 (fun q2 => (∃ fs, H (q1) = .inr (9, fs)) ∧ g_cvd d mX9_copyFrom n H [.ref (q1), .ref (q2)] (fun H3 => gG d mX11_first 0 0 (g_Xj mX11_first n 0 0 P) 13 n H3 [some (.ref (a0)), some (.int ((1 : Int32))), none] [] (0) (0))))) : gG d mX11_first 0 0 (g_Xj mX11_first n 0 0 P) 0 n H [some (.ref (a0)), none, none] [] 0 0 := by
  refine gG_aload_n dX11_first_0 rfl rfl ?_
  obtain ⟨fs, q1, e1, e2, h⟩ := h
  refine gG_gr dX11_first_1 fl_X11_76 ⟨fs, q1, e1, e2, ?_⟩
  refine gG_aload_n dX11_first_4 rfl rfl ?_
  obtain ⟨fs, q2, e1, e2, h⟩ := h
  refine gG_gr dX11_first_5 fl_X11_72 ⟨fs, q2, e1, e2, ?_⟩
  obtain ⟨hrc, d2, P2, hdd, hC, h⟩ := h
  refine gG_cvv (As := [.ref (q2)]) (st := []) dX11_first_8 mV_X11_187 hdd hrc rfl rfl (Nat.le_of_ble_eq_true rfl) (Nat.le_refl _) ⟨Nat.le_refl _, Nat.le_refl _⟩ hC (fun H3 hp => ?_)
  have h := h H3 hp
  refine gG_iconst (v := 1) dX11_first_11 (by decide) ?_
  refine gG_istore_n dX11_first_12 rfl (Nat.le_of_ble_eq_true rfl) ?_
  refine gG_locals ?_ h
  exact ⟨rfl, ⟨rfl, trivial⟩⟩
theorem kX11_first_13 {d n : Nat} {H : gHp} {P : gHp → Int32 → Prop} {a0 : Nat} {i1 : Int32} (h : ((60 : Int32) < i1 → P H ((-1 : Int32))) ∧ (¬ ((60 : Int32) < i1) → (∃ fs, H (a0) = .inr (11, fs)) ∧ g_ci d mX11_passTrialMinute n H [.ref (a0)] (fun H1 x2 => gG d mX11_first 0 0 (g_Xj mX11_first n 0 0 P) 26 n H1 [some (.ref (a0)), some (.int (i1)), some (.int ((0 : Int32)))] [] (0) (0)))) : gG d mX11_first 0 0 (g_Xj mX11_first n 0 0 P) 13 n H [some (.ref (a0)), some (.int (i1)), none] [] 0 0 := by
  refine gG_iload_n dX11_first_13 rfl rfl ?_
  refine gG_bipush (v := 60) dX11_first_14 (by decide) ?_
  refine gG_ic_gt (tgt := 62) dX11_first_16 (by decide) (fun c => ?_) (fun c => ?_)
  · have h := h.1 c
    refine gG_iconst (v := (-1)) dX11_first_62 (by decide) ?_
    exact gG_exit ⟨rfl, rfl, rfl, dX11_first_63, _, rfl, h⟩
  · have h := h.2 c
    refine gG_aload_n dX11_first_19 rfl rfl ?_
    obtain ⟨hrc, d2, P2, hdd, hC, h⟩ := h
    refine gG_cvi (As := []) (st := []) dX11_first_20 mV_X11_202 hdd hrc rfl rfl (Nat.le_of_ble_eq_true rfl) (Nat.le_refl _) ⟨Nat.le_refl _, Nat.le_refl _⟩ hC (fun H1 x2 hp => ?_)
    have h := h H1 x2 hp
    refine gG_pop dX11_first_23 rfl ?_
    refine gG_iconst (v := 0) dX11_first_24 (by decide) ?_
    refine gG_istore_n dX11_first_25 rfl (Nat.le_of_ble_eq_true rfl) ?_
    refine gG_locals ?_ h
    exact ⟨rfl, ⟨rfl, ⟨rfl, trivial⟩⟩⟩
theorem kX11_first_26 {d n : Nat} {H : gHp} {P : gHp → Int32 → Prop} {a0 : Nat} {i1 : Int32} {i2 : Int32} (h : g_gr H (a0) 11 3 (fun q1 => g_gi H (q1) 1 0 (fun x2 => (x2 ≤ i2 → gG d mX11_first 0 0 (g_Xj mX11_first n 0 0 P) 13 n H [some (.ref (a0)), some (.int ((i1 + 1))), none] [] (0) (0)) ∧ (¬ (x2 ≤ i2) → g_gr H (a0) 11 11 (fun q3 => (∃ fs, H (q3) = .inr (9, fs)) ∧ g_cz d mX9_ranOver n H [.ref (q3), .int (i2)] (fun H4 b5 => (b5 = false → gG d mX11_first 0 0 (g_Xj mX11_first n 0 0 P) 26 n H4 [some (.ref (a0)), some (.int (i1)), some (.int ((i2 + 1)))] [] (0) (0)) ∧ (b5 = true → P H4 (i2)))))))) : gG d mX11_first 0 0 (g_Xj mX11_first n 0 0 P) 26 n H [some (.ref (a0)), some (.int (i1)), some (.int (i2))] [] 0 0 := by
  refine gG_iload_n dX11_first_26 rfl rfl ?_
  refine gG_aload_n dX11_first_27 rfl rfl ?_
  obtain ⟨fs, q1, e1, e2, h⟩ := h
  refine gG_gr dX11_first_28 fl_X11_35 ⟨fs, q1, e1, e2, ?_⟩
  obtain ⟨fs, x2, e1, e2, h⟩ := h
  refine gG_gi dX11_first_31 fl_X11_212 ⟨fs, x2, e1, e2, ?_⟩
  refine gG_ic_ge (tgt := 56) dX11_first_34 (by decide) (fun c => ?_) (fun c => ?_)
  · have h := h.1 c
    refine gG_iinc (v := i1 + 1) dX11_first_56 rfl rfl (Nat.le_of_ble_eq_true rfl) ?_
    refine gG_goto (tgt := 13) dX11_first_59 (by decide) ?_
    refine gG_locals ?_ h
    exact ⟨rfl, ⟨rfl, trivial⟩⟩
  · have h := h.2 c
    refine gG_aload_n dX11_first_37 rfl rfl ?_
    obtain ⟨fs, q3, e1, e2, h⟩ := h
    refine gG_gr dX11_first_38 fl_X11_76 ⟨fs, q3, e1, e2, ?_⟩
    refine gG_iload_n dX11_first_41 rfl rfl ?_
    obtain ⟨hrc, d2, P2, hdd, hC, h⟩ := h
    refine gG_cvi (As := [.int (i2)]) (st := []) dX11_first_42 mV_X11_221 hdd hrc rfl rfl (Nat.le_of_ble_eq_true rfl) (Nat.le_refl _) ⟨Nat.le_refl _, Nat.le_refl _⟩ hC (fun H4 x9 hp => ?_)
    obtain ⟨b5, rfl, hp⟩ := hp
    have h := h H4 b5 hp
    refine gG_if_eq (tgt := 50) dX11_first_45 (by decide) (fun c => ?_) (fun c => ?_)
    · have h := h.1 (g_b_f c)
      refine gG_iinc (v := i2 + 1) dX11_first_50 rfl rfl (Nat.le_of_ble_eq_true rfl) ?_
      refine gG_goto (tgt := 26) dX11_first_53 (by decide) ?_
      refine gG_locals ?_ h
      exact ⟨rfl, ⟨rfl, ⟨rfl, trivial⟩⟩⟩
    · have h := h.2 (g_b_t c)
      refine gG_iload_n dX11_first_48 rfl rfl ?_
      exact gG_exit ⟨rfl, rfl, rfl, dX11_first_49, _, rfl, h⟩

theorem kX11_great_0 {d n : Nat} {H : gHp} {P : gHp → Int32 → Prop} {a0 : Nat} {i1 : Int32} (h : g_cz d mX11_isAhead n H [.int (i1)] (fun H1 b2 => (b2 = false → P H1 ((-1 : Int32))) ∧ (b2 = true → g_gr H1 (a0) 11 3 (fun q3 => g_gi H1 (q3) 1 0 (fun x4 => (¬ (x4 = 0) → (∃ fs, H1 (a0) = .inr (11, fs)) ∧ g_cvd d mX11_emptyRow n H1 [.ref (a0)] (fun H5 => g_gr H5 (a0) 11 11 (fun q6 => g_gr H5 (a0) 11 10 (fun q7 => (∃ fs, H5 (q6) = .inr (9, fs)) ∧ g_cvd d mX9_copyFrom n H5 [.ref (q6), .ref (q7)] (fun H8 => gG d mX11_great 0 0 (g_Xj mX11_great n 0 0 P) 36 n H8 [some (.ref (a0)), some (.int (i1)), some (.int ((0 : Int32))), none] [] (0) (0)))))) ∧ (x4 = 0 → P H1 ((-1 : Int32)))))))) : gG d mX11_great 0 0 (g_Xj mX11_great n 0 0 P) 0 n H [some (.ref (a0)), some (.int (i1)), none, none] [] 0 0 := by
  refine gG_iload_n dX11_great_0 rfl rfl ?_
  obtain ⟨d2, P2, hdd, hC, h⟩ := h
  refine gG_csi (As := [.int (i1)]) (st := []) dX11_great_1 mS_X11_206 hdd rfl rfl (Nat.le_of_ble_eq_true rfl) (Nat.le_refl _) ⟨Nat.le_refl _, Nat.le_refl _⟩ hC (fun H1 x9 hp => ?_)
  obtain ⟨b2, rfl, hp⟩ := hp
  have h := h H1 b2 hp
  refine gG_if_eq (tgt := 17) dX11_great_4 (by decide) (fun c => ?_) (fun c => ?_)
  · have h := h.1 (g_b_f c)
    refine gG_iconst (v := (-1)) dX11_great_17 (by decide) ?_
    exact gG_exit ⟨rfl, rfl, rfl, dX11_great_18, _, rfl, h⟩
  · have h := h.2 (g_b_t c)
    refine gG_aload_n dX11_great_7 rfl rfl ?_
    obtain ⟨fs, q3, e1, e2, h⟩ := h
    refine gG_gr dX11_great_8 fl_X11_35 ⟨fs, q3, e1, e2, ?_⟩
    obtain ⟨fs, x4, e1, e2, h⟩ := h
    refine gG_gi dX11_great_11 fl_X11_212 ⟨fs, x4, e1, e2, ?_⟩
    refine gG_if_ne (tgt := 19) dX11_great_14 (by decide) (fun c => ?_) (fun c => ?_)
    · have h := h.1 c
      refine gG_aload_n dX11_great_19 rfl rfl ?_
      obtain ⟨hrc, d2, P2, hdd, hC, h⟩ := h
      refine gG_cvv (As := []) (st := []) dX11_great_20 mV_X11_224 hdd hrc rfl rfl (Nat.le_of_ble_eq_true rfl) (Nat.le_refl _) ⟨Nat.le_refl _, Nat.le_refl _⟩ hC (fun H5 hp => ?_)
      have h := h H5 hp
      refine gG_aload_n dX11_great_23 rfl rfl ?_
      obtain ⟨fs, q6, e1, e2, h⟩ := h
      refine gG_gr dX11_great_24 fl_X11_76 ⟨fs, q6, e1, e2, ?_⟩
      refine gG_aload_n dX11_great_27 rfl rfl ?_
      obtain ⟨fs, q7, e1, e2, h⟩ := h
      refine gG_gr dX11_great_28 fl_X11_72 ⟨fs, q7, e1, e2, ?_⟩
      obtain ⟨hrc, d2, P2, hdd, hC, h⟩ := h
      refine gG_cvv (As := [.ref (q7)]) (st := []) dX11_great_31 mV_X11_187 hdd hrc rfl rfl (Nat.le_of_ble_eq_true rfl) (Nat.le_refl _) ⟨Nat.le_refl _, Nat.le_refl _⟩ hC (fun H8 hp => ?_)
      have h := h H8 hp
      refine gG_iconst (v := 0) dX11_great_34 (by decide) ?_
      refine gG_istore_n dX11_great_35 rfl (Nat.le_of_ble_eq_true rfl) ?_
      refine gG_locals ?_ h
      exact ⟨rfl, ⟨rfl, ⟨rfl, trivial⟩⟩⟩
    · have h := h.2 c
      refine gG_iconst (v := (-1)) dX11_great_17 (by decide) ?_
      exact gG_exit ⟨rfl, rfl, rfl, dX11_great_18, _, rfl, h⟩
theorem kX11_great_36 {d n : Nat} {H : gHp} {P : gHp → Int32 → Prop} {a0 : Nat} {i1 : Int32} {i2 : Int32} (h : (i1 ≤ i2 → g_gr H (a0) 11 3 (fun q1 => g_gi H (q1) 1 0 (fun x2 => (∃ fs, H (a0) = .inr (11, fs)) ∧ g_ci d mX11_greatestOfRow n H [.ref (a0), .int (x2)] (fun H3 x4 => P H3 (x4))))) ∧ (¬ (i1 ≤ i2) → (∃ fs, H (a0) = .inr (11, fs)) ∧ g_ci d mX11_passTrialMinute n H [.ref (a0)] (fun H5 x6 => gG d mX11_great 0 0 (g_Xj mX11_great n 0 0 P) 48 n H5 [some (.ref (a0)), some (.int (i1)), some (.int (i2)), some (.int ((0 : Int32)))] [] (0) (0)))) : gG d mX11_great 0 0 (g_Xj mX11_great n 0 0 P) 36 n H [some (.ref (a0)), some (.int (i1)), some (.int (i2)), none] [] 0 0 := by
  refine gG_iload_n dX11_great_36 rfl rfl ?_
  refine gG_iload_n dX11_great_37 rfl rfl ?_
  refine gG_ic_ge (tgt := 89) dX11_great_38 (by decide) (fun c => ?_) (fun c => ?_)
  · have h := h.1 c
    refine gG_aload_n dX11_great_89 rfl rfl ?_
    refine gG_aload_n dX11_great_90 rfl rfl ?_
    obtain ⟨fs, q1, e1, e2, h⟩ := h
    refine gG_gr dX11_great_91 fl_X11_35 ⟨fs, q1, e1, e2, ?_⟩
    obtain ⟨fs, x2, e1, e2, h⟩ := h
    refine gG_gi dX11_great_94 fl_X11_212 ⟨fs, x2, e1, e2, ?_⟩
    obtain ⟨hrc, d2, P2, hdd, hC, h⟩ := h
    refine gG_cvi (As := [.int (x2)]) (st := []) dX11_great_97 mV_X11_227 hdd hrc rfl rfl (Nat.le_of_ble_eq_true rfl) (Nat.le_refl _) ⟨Nat.le_refl _, Nat.le_refl _⟩ hC (fun H3 x4 hp => ?_)
    have h := h H3 x4 hp
    exact gG_exit ⟨rfl, rfl, rfl, dX11_great_100, _, rfl, h⟩
  · have h := h.2 c
    refine gG_aload_n dX11_great_41 rfl rfl ?_
    obtain ⟨hrc, d2, P2, hdd, hC, h⟩ := h
    refine gG_cvi (As := []) (st := []) dX11_great_42 mV_X11_202 hdd hrc rfl rfl (Nat.le_of_ble_eq_true rfl) (Nat.le_refl _) ⟨Nat.le_refl _, Nat.le_refl _⟩ hC (fun H5 x6 hp => ?_)
    have h := h H5 x6 hp
    refine gG_pop dX11_great_45 rfl ?_
    refine gG_iconst (v := 0) dX11_great_46 (by decide) ?_
    refine gG_istore_n dX11_great_47 rfl (Nat.le_of_ble_eq_true rfl) ?_
    refine gG_locals ?_ h
    exact ⟨rfl, ⟨rfl, ⟨rfl, ⟨rfl, trivial⟩⟩⟩⟩
theorem kX11_great_48 {d n : Nat} {H : gHp} {P : gHp → Int32 → Prop} {a0 : Nat} {i1 : Int32} {i2 : Int32} {i3 : Int32} (h : g_gr H (a0) 11 3 (fun q1 => g_gi H (q1) 1 0 (fun x2 => (x2 ≤ i3 → gG d mX11_great 0 0 (g_Xj mX11_great n 0 0 P) 36 n H [some (.ref (a0)), some (.int (i1)), some (.int ((i2 + 1))), none] [] (0) (0)) ∧ (¬ (x2 ≤ i3) → g_gr H (a0) 11 16 (fun q3 => g_al 0 H (q3) (i3) (fun x4 => g_gr H (a0) 11 11 (fun q5 => g_gr H (q5) 9 3 (fun q6 => g_al 0 H (q6) (i3) (fun x7 => g_as 0 H (q3) (i3) ((x4 + x7)) (fun H8 => gG d mX11_great 0 0 (g_Xj mX11_great n 0 0 P) 48 n H8 [some (.ref (a0)), some (.int (i1)), some (.int (i2)), some (.int ((i3 + 1)))] [] (0) (0))))))))))) : gG d mX11_great 0 0 (g_Xj mX11_great n 0 0 P) 48 n H [some (.ref (a0)), some (.int (i1)), some (.int (i2)), some (.int (i3))] [] 0 0 := by
  refine gG_iload_n dX11_great_48 rfl rfl ?_
  refine gG_aload_n dX11_great_49 rfl rfl ?_
  obtain ⟨fs, q1, e1, e2, h⟩ := h
  refine gG_gr dX11_great_50 fl_X11_35 ⟨fs, q1, e1, e2, ?_⟩
  obtain ⟨fs, x2, e1, e2, h⟩ := h
  refine gG_gi dX11_great_53 fl_X11_212 ⟨fs, x2, e1, e2, ?_⟩
  refine gG_ic_ge (tgt := 83) dX11_great_56 (by decide) (fun c => ?_) (fun c => ?_)
  · have h := h.1 c
    refine gG_iinc (v := i2 + 1) dX11_great_83 rfl rfl (Nat.le_of_ble_eq_true rfl) ?_
    refine gG_goto (tgt := 36) dX11_great_86 (by decide) ?_
    refine gG_locals ?_ h
    exact ⟨rfl, ⟨rfl, ⟨rfl, trivial⟩⟩⟩
  · have h := h.2 c
    refine gG_aload_n dX11_great_59 rfl rfl ?_
    obtain ⟨fs, q3, e1, e2, h⟩ := h
    refine gG_gr dX11_great_60 fl_X11_90 ⟨fs, q3, e1, e2, ?_⟩
    refine gG_iload_n dX11_great_63 rfl rfl ?_
    refine gG_dup2 dX11_great_64 rfl rfl ?_
    obtain ⟨m0, f0, e1, e2, h⟩ := h
    refine gG_iald dX11_great_65 ⟨m0, f0, e1, e2, ?_⟩
    obtain ⟨x4, eH⟩ : ∃ z, z = f0 (Int32.toNatClampNeg (i3)) := ⟨_, rfl⟩
    rw [← eH] at h ⊢
    refine gG_aload_n dX11_great_66 rfl rfl ?_
    obtain ⟨fs, q5, e1, e2, h⟩ := h
    refine gG_gr dX11_great_67 fl_X11_76 ⟨fs, q5, e1, e2, ?_⟩
    obtain ⟨fs, q6, e1, e2, h⟩ := h
    refine gG_gr dX11_great_70 fl_X11_142 ⟨fs, q6, e1, e2, ?_⟩
    refine gG_iload_n dX11_great_73 rfl rfl ?_
    obtain ⟨m0, f0, e1, e2, h⟩ := h
    refine gG_iald dX11_great_74 ⟨m0, f0, e1, e2, ?_⟩
    obtain ⟨x7, eH⟩ : ∃ z, z = f0 (Int32.toNatClampNeg (i3)) := ⟨_, rfl⟩
    rw [← eH] at h ⊢
    refine gG_iadd dX11_great_75 ?_
    obtain ⟨m0, f0, e1, e2, h⟩ := h
    refine gG_iast dX11_great_76 ⟨m0, f0, e1, e2, ?_⟩
    obtain ⟨H8, eH⟩ : ∃ z, z = va_up H (q3) (.inl (0, m0, .inl (upd f0 (Int32.toNatClampNeg (i3)) ((x4 + x7))))) := ⟨_, rfl⟩
    rw [← eH] at h ⊢
    refine gG_iinc (v := i3 + 1) dX11_great_77 rfl rfl (Nat.le_of_ble_eq_true rfl) ?_
    refine gG_goto (tgt := 48) dX11_great_80 (by decide) ?_
    refine gG_locals ?_ h
    exact ⟨rfl, ⟨rfl, ⟨rfl, ⟨rfl, trivial⟩⟩⟩⟩

theorem kX11_twins_0 {d n : Nat} {H : gHp} {P : gHp → Int32 → Prop} {a0 : Nat} {i1 : Int32} (h : g_cz d mX11_isAhead n H [.int (i1)] (fun H1 b2 => (b2 = true → (∃ fs, H1 (a0) = .inr (11, fs)) ∧ g_cvd d mX11_emptyRow n H1 [.ref (a0)] (fun H3 => g_gr H3 (a0) 11 11 (fun q4 => g_gr H3 (a0) 11 10 (fun q5 => (∃ fs, H3 (q4) = .inr (9, fs)) ∧ g_cvd d mX9_copyFrom n H3 [.ref (q4), .ref (q5)] (fun H6 => gG d mX11_twins 0 0 (g_Xj mX11_twins n 0 0 P) 26 n H6 [some (.ref (a0)), some (.int (i1)), some (.int ((0 : Int32))), none, none] [] (0) (0)))))) ∧ (b2 = false → P H1 ((-1 : Int32))))) : gG d mX11_twins 0 0 (g_Xj mX11_twins n 0 0 P) 0 n H [some (.ref (a0)), some (.int (i1)), none, none, none] [] 0 0 := by
  refine gG_iload_n dX11_twins_0 rfl rfl ?_
  obtain ⟨d2, P2, hdd, hC, h⟩ := h
  refine gG_csi (As := [.int (i1)]) (st := []) dX11_twins_1 mS_X11_206 hdd rfl rfl (Nat.le_of_ble_eq_true rfl) (Nat.le_refl _) ⟨Nat.le_refl _, Nat.le_refl _⟩ hC (fun H1 x9 hp => ?_)
  obtain ⟨b2, rfl, hp⟩ := hp
  have h := h H1 b2 hp
  refine gG_if_ne (tgt := 9) dX11_twins_4 (by decide) (fun c => ?_) (fun c => ?_)
  · have h := h.1 (g_b_t c)
    refine gG_aload_n dX11_twins_9 rfl rfl ?_
    obtain ⟨hrc, d2, P2, hdd, hC, h⟩ := h
    refine gG_cvv (As := []) (st := []) dX11_twins_10 mV_X11_224 hdd hrc rfl rfl (Nat.le_of_ble_eq_true rfl) (Nat.le_refl _) ⟨Nat.le_refl _, Nat.le_refl _⟩ hC (fun H3 hp => ?_)
    have h := h H3 hp
    refine gG_aload_n dX11_twins_13 rfl rfl ?_
    obtain ⟨fs, q4, e1, e2, h⟩ := h
    refine gG_gr dX11_twins_14 fl_X11_76 ⟨fs, q4, e1, e2, ?_⟩
    refine gG_aload_n dX11_twins_17 rfl rfl ?_
    obtain ⟨fs, q5, e1, e2, h⟩ := h
    refine gG_gr dX11_twins_18 fl_X11_72 ⟨fs, q5, e1, e2, ?_⟩
    obtain ⟨hrc, d2, P2, hdd, hC, h⟩ := h
    refine gG_cvv (As := [.ref (q5)]) (st := []) dX11_twins_21 mV_X11_187 hdd hrc rfl rfl (Nat.le_of_ble_eq_true rfl) (Nat.le_refl _) ⟨Nat.le_refl _, Nat.le_refl _⟩ hC (fun H6 hp => ?_)
    have h := h H6 hp
    refine gG_iconst (v := 0) dX11_twins_24 (by decide) ?_
    refine gG_istore_n dX11_twins_25 rfl (Nat.le_of_ble_eq_true rfl) ?_
    refine gG_locals ?_ h
    exact ⟨rfl, ⟨rfl, ⟨rfl, trivial⟩⟩⟩
  · have h := h.2 (g_b_f c)
    refine gG_iconst (v := (-1)) dX11_twins_7 (by decide) ?_
    exact gG_exit ⟨rfl, rfl, rfl, dX11_twins_8, _, rfl, h⟩
theorem kX11_twins_26 {d n : Nat} {H : gHp} {P : gHp → Int32 → Prop} {a0 : Nat} {i1 : Int32} {i2 : Int32} (h : (i1 ≤ i2 → gG d mX11_twins 0 0 (g_Xj mX11_twins n 0 0 P) 89 n H [some (.ref (a0)), none, some (.int ((0 : Int32))), some (.int ((0 : Int32))), none] [] (0) (0)) ∧ (¬ (i1 ≤ i2) → (∃ fs, H (a0) = .inr (11, fs)) ∧ g_ci d mX11_passTrialMinute n H [.ref (a0)] (fun H1 x2 => gG d mX11_twins 0 0 (g_Xj mX11_twins n 0 0 P) 38 n H1 [some (.ref (a0)), some (.int (i1)), some (.int (i2)), some (.int ((0 : Int32))), none] [] (0) (0)))) : gG d mX11_twins 0 0 (g_Xj mX11_twins n 0 0 P) 26 n H [some (.ref (a0)), some (.int (i1)), some (.int (i2)), none, none] [] 0 0 := by
  refine gG_iload_n dX11_twins_26 rfl rfl ?_
  refine gG_iload_n dX11_twins_27 rfl rfl ?_
  refine gG_ic_ge (tgt := 85) dX11_twins_28 (by decide) (fun c => ?_) (fun c => ?_)
  · have h := h.1 c
    refine gG_iconst (v := 0) dX11_twins_85 (by decide) ?_
    refine gG_istore_n dX11_twins_86 rfl (Nat.le_of_ble_eq_true rfl) ?_
    refine gG_iconst (v := 0) dX11_twins_87 (by decide) ?_
    refine gG_istore_n dX11_twins_88 rfl (Nat.le_of_ble_eq_true rfl) ?_
    refine gG_locals ?_ h
    exact ⟨rfl, ⟨rfl, ⟨rfl, trivial⟩⟩⟩
  · have h := h.2 c
    refine gG_aload_n dX11_twins_31 rfl rfl ?_
    obtain ⟨hrc, d2, P2, hdd, hC, h⟩ := h
    refine gG_cvi (As := []) (st := []) dX11_twins_32 mV_X11_202 hdd hrc rfl rfl (Nat.le_of_ble_eq_true rfl) (Nat.le_refl _) ⟨Nat.le_refl _, Nat.le_refl _⟩ hC (fun H1 x2 hp => ?_)
    have h := h H1 x2 hp
    refine gG_pop dX11_twins_35 rfl ?_
    refine gG_iconst (v := 0) dX11_twins_36 (by decide) ?_
    refine gG_istore_n dX11_twins_37 rfl (Nat.le_of_ble_eq_true rfl) ?_
    refine gG_locals ?_ h
    exact ⟨rfl, ⟨rfl, ⟨rfl, ⟨rfl, trivial⟩⟩⟩⟩
theorem kX11_twins_38 {d n : Nat} {H : gHp} {P : gHp → Int32 → Prop} {a0 : Nat} {i1 : Int32} {i2 : Int32} {i3 : Int32} (h : g_gr H (a0) 11 3 (fun q1 => g_gi H (q1) 1 0 (fun x2 => (x2 ≤ i3 → gG d mX11_twins 0 0 (g_Xj mX11_twins n 0 0 P) 26 n H [some (.ref (a0)), some (.int (i1)), some (.int ((i2 + 1))), none, none] [] (0) (0)) ∧ (¬ (x2 ≤ i3) → g_gr H (a0) 11 16 (fun q3 => g_al 0 H (q3) (i3) (fun x4 => g_gr H (a0) 11 11 (fun q5 => g_gr H (a0) 11 3 (fun q6 => g_gi H (q6) 1 0 (fun x7 => (∃ fs, H (q5) = .inr (9, fs)) ∧ g_ci d mX9_flowsUnlike n H [.ref (q5), .int (i3), .int (x7)] (fun H8 x9 => g_as 0 H8 (q3) (i3) ((x4 ||| x9)) (fun H10 => gG d mX11_twins 0 0 (g_Xj mX11_twins n 0 0 P) 38 n H10 [some (.ref (a0)), some (.int (i1)), some (.int (i2)), some (.int ((i3 + 1))), none] [] (0) (0)))))))))))) : gG d mX11_twins 0 0 (g_Xj mX11_twins n 0 0 P) 38 n H [some (.ref (a0)), some (.int (i1)), some (.int (i2)), some (.int (i3)), none] [] 0 0 := by
  refine gG_iload_n dX11_twins_38 rfl rfl ?_
  refine gG_aload_n dX11_twins_39 rfl rfl ?_
  obtain ⟨fs, q1, e1, e2, h⟩ := h
  refine gG_gr dX11_twins_40 fl_X11_35 ⟨fs, q1, e1, e2, ?_⟩
  obtain ⟨fs, x2, e1, e2, h⟩ := h
  refine gG_gi dX11_twins_43 fl_X11_212 ⟨fs, x2, e1, e2, ?_⟩
  refine gG_ic_ge (tgt := 79) dX11_twins_46 (by decide) (fun c => ?_) (fun c => ?_)
  · have h := h.1 c
    refine gG_iinc (v := i2 + 1) dX11_twins_79 rfl rfl (Nat.le_of_ble_eq_true rfl) ?_
    refine gG_goto (tgt := 26) dX11_twins_82 (by decide) ?_
    refine gG_locals ?_ h
    exact ⟨rfl, ⟨rfl, ⟨rfl, trivial⟩⟩⟩
  · have h := h.2 c
    refine gG_aload_n dX11_twins_49 rfl rfl ?_
    obtain ⟨fs, q3, e1, e2, h⟩ := h
    refine gG_gr dX11_twins_50 fl_X11_90 ⟨fs, q3, e1, e2, ?_⟩
    refine gG_iload_n dX11_twins_53 rfl rfl ?_
    refine gG_dup2 dX11_twins_54 rfl rfl ?_
    obtain ⟨m0, f0, e1, e2, h⟩ := h
    refine gG_iald dX11_twins_55 ⟨m0, f0, e1, e2, ?_⟩
    obtain ⟨x4, eH⟩ : ∃ z, z = f0 (Int32.toNatClampNeg (i3)) := ⟨_, rfl⟩
    rw [← eH] at h ⊢
    refine gG_aload_n dX11_twins_56 rfl rfl ?_
    obtain ⟨fs, q5, e1, e2, h⟩ := h
    refine gG_gr dX11_twins_57 fl_X11_76 ⟨fs, q5, e1, e2, ?_⟩
    refine gG_iload_n dX11_twins_60 rfl rfl ?_
    refine gG_aload_n dX11_twins_61 rfl rfl ?_
    obtain ⟨fs, q6, e1, e2, h⟩ := h
    refine gG_gr dX11_twins_62 fl_X11_35 ⟨fs, q6, e1, e2, ?_⟩
    obtain ⟨fs, x7, e1, e2, h⟩ := h
    refine gG_gi dX11_twins_65 fl_X11_212 ⟨fs, x7, e1, e2, ?_⟩
    obtain ⟨hrc, d2, P2, hdd, hC, h⟩ := h
    refine gG_cvi (As := [.int (i3), .int (x7)]) (st := [.int (x4), .int (i3), .ref (q3)]) dX11_twins_68 mV_X11_230 hdd hrc rfl rfl (Nat.le_of_ble_eq_true rfl) (Nat.le_refl _) ⟨Nat.le_refl _, Nat.le_refl _⟩ hC (fun H8 x9 hp => ?_)
    have h := h H8 x9 hp
    refine gG_ior dX11_twins_71 ?_
    obtain ⟨m0, f0, e1, e2, h⟩ := h
    refine gG_iast dX11_twins_72 ⟨m0, f0, e1, e2, ?_⟩
    obtain ⟨H10, eH⟩ : ∃ z, z = va_up H8 (q3) (.inl (0, m0, .inl (upd f0 (Int32.toNatClampNeg (i3)) ((x4 ||| x9))))) := ⟨_, rfl⟩
    rw [← eH] at h ⊢
    refine gG_iinc (v := i3 + 1) dX11_twins_73 rfl rfl (Nat.le_of_ble_eq_true rfl) ?_
    refine gG_goto (tgt := 38) dX11_twins_76 (by decide) ?_
    refine gG_locals ?_ h
    exact ⟨rfl, ⟨rfl, ⟨rfl, ⟨rfl, trivial⟩⟩⟩⟩
theorem kX11_twins_89 {d n : Nat} {H : gHp} {P : gHp → Int32 → Prop} {a0 : Nat} {i2 : Int32} {i3 : Int32} (h : g_gr H (a0) 11 3 (fun q1 => g_gi H (q1) 1 0 (fun x2 => (x2 ≤ i3 → P H (i2)) ∧ (¬ (x2 ≤ i3) → g_gr H (a0) 11 3 (fun q3 => g_gi H (q3) 1 0 (fun x4 => g_gr H (a0) 11 16 (fun q5 => g_al 0 H (q5) (i3) (fun x6 => g_ci d mJ6_bitCount_0f7a4 n H [.int ((x6 >>> ((i3 + (1 : Int32)) &&& 31)))] (fun H7 x8 => gG d mX11_twins 0 0 (g_Xj mX11_twins n 0 0 P) 89 n H7 [some (.ref (a0)), none, some (.int ((i2 + (((x4 - (1 : Int32)) - i3) - x8)))), some (.int ((i3 + 1))), none] [] (0) (0)))))))))) : gG d mX11_twins 0 0 (g_Xj mX11_twins n 0 0 P) 89 n H [some (.ref (a0)), none, some (.int (i2)), some (.int (i3)), none] [] 0 0 := by
  refine gG_iload_n dX11_twins_89 rfl rfl ?_
  refine gG_aload_n dX11_twins_90 rfl rfl ?_
  obtain ⟨fs, q1, e1, e2, h⟩ := h
  refine gG_gr dX11_twins_91 fl_X11_35 ⟨fs, q1, e1, e2, ?_⟩
  obtain ⟨fs, x2, e1, e2, h⟩ := h
  refine gG_gi dX11_twins_94 fl_X11_212 ⟨fs, x2, e1, e2, ?_⟩
  refine gG_ic_ge (tgt := 138) dX11_twins_97 (by decide) (fun c => ?_) (fun c => ?_)
  · have h := h.1 c
    refine gG_iload_n dX11_twins_138 rfl rfl ?_
    exact gG_exit ⟨rfl, rfl, rfl, dX11_twins_139, _, rfl, h⟩
  · have h := h.2 c
    refine gG_aload_n dX11_twins_100 rfl rfl ?_
    obtain ⟨fs, q3, e1, e2, h⟩ := h
    refine gG_gr dX11_twins_101 fl_X11_35 ⟨fs, q3, e1, e2, ?_⟩
    obtain ⟨fs, x4, e1, e2, h⟩ := h
    refine gG_gi dX11_twins_104 fl_X11_212 ⟨fs, x4, e1, e2, ?_⟩
    refine gG_iconst (v := 1) dX11_twins_107 (by decide) ?_
    refine gG_isub dX11_twins_108 ?_
    refine gG_iload_n dX11_twins_109 rfl rfl ?_
    refine gG_isub dX11_twins_110 ?_
    refine gG_istore dX11_twins_111 (Nat.le_of_ble_eq_true rfl) ?_
    refine gG_iload_n dX11_twins_113 rfl rfl ?_
    refine gG_iload dX11_twins_114 rfl ?_
    refine gG_aload_n dX11_twins_116 rfl rfl ?_
    obtain ⟨fs, q5, e1, e2, h⟩ := h
    refine gG_gr dX11_twins_117 fl_X11_90 ⟨fs, q5, e1, e2, ?_⟩
    refine gG_iload_n dX11_twins_120 rfl rfl ?_
    obtain ⟨m0, f0, e1, e2, h⟩ := h
    refine gG_iald dX11_twins_121 ⟨m0, f0, e1, e2, ?_⟩
    obtain ⟨x6, eH⟩ : ∃ z, z = f0 (Int32.toNatClampNeg (i3)) := ⟨_, rfl⟩
    rw [← eH] at h ⊢
    refine gG_iload_n dX11_twins_122 rfl rfl ?_
    refine gG_iconst (v := 1) dX11_twins_123 (by decide) ?_
    refine gG_iadd dX11_twins_124 ?_
    refine gG_ishr dX11_twins_125 ?_
    obtain ⟨d2, P2, hdd, hC, h⟩ := h
    refine gG_csi (As := [.int ((x6 >>> ((i3 + (1 : Int32)) &&& 31)))]) (st := [.int (((x4 - (1 : Int32)) - i3)), .int (i2)]) dX11_twins_126 mS_X11_234 hdd rfl rfl (Nat.le_of_ble_eq_true rfl) (Nat.le_refl _) ⟨Nat.le_refl _, Nat.le_refl _⟩ hC (fun H7 x8 hp => ?_)
    have h := h H7 x8 hp
    refine gG_isub dX11_twins_129 ?_
    refine gG_iadd dX11_twins_130 ?_
    refine gG_istore_n dX11_twins_131 rfl (Nat.le_of_ble_eq_true rfl) ?_
    refine gG_iinc (v := i3 + 1) dX11_twins_132 rfl rfl (Nat.le_of_ble_eq_true rfl) ?_
    refine gG_goto (tgt := 89) dX11_twins_135 (by decide) ?_
    refine gG_locals ?_ h
    exact ⟨rfl, ⟨rfl, ⟨rfl, trivial⟩⟩⟩

theorem kX11_down_0 {d n : Nat} {H : gHp} {P : gHp → Int32 → Prop} {a0 : Nat} {i1 : Int32} (h : (∃ fs, H (a0) = .inr (11, fs)) ∧ g_cz d mX11_isMouth n H [.ref (a0), .int (i1)] (fun H1 b2 => (b2 = false → P H1 ((-1 : Int32))) ∧ (b2 = true → g_gr H1 (a0) 11 3 (fun q3 => (∃ fs, H1 (q3) = .inr (1, fs)) ∧ g_ci d mX1_below n H1 [.ref (q3), .int (i1)] (fun H4 x5 => P H4 (x5)))))) : gG d mX11_down 0 0 (g_Xj mX11_down n 0 0 P) 0 n H [some (.ref (a0)), some (.int (i1))] [] 0 0 := by
  refine gG_aload_n dX11_down_0 rfl rfl ?_
  refine gG_iload_n dX11_down_1 rfl rfl ?_
  obtain ⟨hrc, d2, P2, hdd, hC, h⟩ := h
  refine gG_cvi (As := [.int (i1)]) (st := []) dX11_down_2 mV_X11_117 hdd hrc rfl rfl (Nat.le_of_ble_eq_true rfl) (Nat.le_refl _) ⟨Nat.le_refl _, Nat.le_refl _⟩ hC (fun H1 x9 hp => ?_)
  obtain ⟨b2, rfl, hp⟩ := hp
  have h := h H1 b2 hp
  refine gG_if_eq (tgt := 19) dX11_down_5 (by decide) (fun c => ?_) (fun c => ?_)
  · have h := h.1 (g_b_f c)
    refine gG_iconst (v := (-1)) dX11_down_19 (by decide) ?_
    exact gG_exit ⟨rfl, rfl, rfl, dX11_down_20, _, rfl, h⟩
  · have h := h.2 (g_b_t c)
    refine gG_aload_n dX11_down_8 rfl rfl ?_
    obtain ⟨fs, q3, e1, e2, h⟩ := h
    refine gG_gr dX11_down_9 fl_X11_35 ⟨fs, q3, e1, e2, ?_⟩
    refine gG_iload_n dX11_down_12 rfl rfl ?_
    obtain ⟨hrc, d2, P2, hdd, hC, h⟩ := h
    refine gG_cvi (As := [.int (i1)]) (st := []) dX11_down_13 mV_X11_239 hdd hrc rfl rfl (Nat.le_of_ble_eq_true rfl) (Nat.le_refl _) ⟨Nat.le_refl _, Nat.le_refl _⟩ hC (fun H4 x5 hp => ?_)
    have h := h H4 x5 hp
    refine gG_goto (tgt := 20) dX11_down_16 (by decide) ?_
    exact gG_exit ⟨rfl, rfl, rfl, dX11_down_20, _, rfl, h⟩

theorem kX11_up_0 {d n : Nat} {H : gHp} {P : gHp → Int32 → Prop} {a0 : Nat} {i1 : Int32} (h : (∃ fs, H (a0) = .inr (11, fs)) ∧ g_cz d mX11_isMouth n H [.ref (a0), .int (i1)] (fun H1 b2 => (b2 = true → gG d mX11_up 0 0 (g_Xj mX11_up n 0 0 P) 14 n H1 [some (.ref (a0)), some (.int (i1)), some (.int ((0 : Int32))), some (.int ((0 : Int32)))] [] (0) (0)) ∧ (b2 = false → P H1 ((-1 : Int32))))) : gG d mX11_up 0 0 (g_Xj mX11_up n 0 0 P) 0 n H [some (.ref (a0)), some (.int (i1)), none, none] [] 0 0 := by
  refine gG_aload_n dX11_up_0 rfl rfl ?_
  refine gG_iload_n dX11_up_1 rfl rfl ?_
  obtain ⟨hrc, d2, P2, hdd, hC, h⟩ := h
  refine gG_cvi (As := [.int (i1)]) (st := []) dX11_up_2 mV_X11_117 hdd hrc rfl rfl (Nat.le_of_ble_eq_true rfl) (Nat.le_refl _) ⟨Nat.le_refl _, Nat.le_refl _⟩ hC (fun H1 x9 hp => ?_)
  obtain ⟨b2, rfl, hp⟩ := hp
  have h := h H1 b2 hp
  refine gG_if_ne (tgt := 10) dX11_up_5 (by decide) (fun c => ?_) (fun c => ?_)
  · have h := h.1 (g_b_t c)
    refine gG_iconst (v := 0) dX11_up_10 (by decide) ?_
    refine gG_istore_n dX11_up_11 rfl (Nat.le_of_ble_eq_true rfl) ?_
    refine gG_iconst (v := 0) dX11_up_12 (by decide) ?_
    refine gG_istore_n dX11_up_13 rfl (Nat.le_of_ble_eq_true rfl) ?_
    refine gG_locals ?_ h
    exact ⟨rfl, ⟨rfl, ⟨rfl, ⟨rfl, trivial⟩⟩⟩⟩
  · have h := h.2 (g_b_f c)
    refine gG_iconst (v := (-1)) dX11_up_8 (by decide) ?_
    exact gG_exit ⟨rfl, rfl, rfl, dX11_up_9, _, rfl, h⟩
theorem kX11_up_14 {d n : Nat} {H : gHp} {P : gHp → Int32 → Prop} {a0 : Nat} {i1 : Int32} {i2 : Int32} {i3 : Int32} (h : g_gr H (a0) 11 3 (fun q1 => g_gi H (q1) 1 0 (fun x2 => (x2 ≤ i3 → P H (i2)) ∧ (¬ (x2 ≤ i3) → g_gr H (a0) 11 3 (fun q3 => (∃ fs, H (q3) = .inr (1, fs)) ∧ g_ci d mX1_below n H [.ref (q3), .int (i3)] (fun H4 x5 => (((x5 >>> (i1 &&& 31)) &&& (1 : Int32)) = 0 → gG d mX11_up 0 0 (g_Xj mX11_up n 0 0 P) 14 n H4 [some (.ref (a0)), some (.int (i1)), some (.int (i2)), some (.int ((i3 + 1)))] [] (0) (0)) ∧ (¬ (((x5 >>> (i1 &&& 31)) &&& (1 : Int32)) = 0) → gG d mX11_up 0 0 (g_Xj mX11_up n 0 0 P) 14 n H4 [some (.ref (a0)), some (.int (i1)), some (.int ((i2 ||| ((1 : Int32) <<< (i3 &&& 31))))), some (.int ((i3 + 1)))] [] (0) (0)))))))) : gG d mX11_up 0 0 (g_Xj mX11_up n 0 0 P) 14 n H [some (.ref (a0)), some (.int (i1)), some (.int (i2)), some (.int (i3))] [] 0 0 := by
  refine gG_iload_n dX11_up_14 rfl rfl ?_
  refine gG_aload_n dX11_up_15 rfl rfl ?_
  obtain ⟨fs, q1, e1, e2, h⟩ := h
  refine gG_gr dX11_up_16 fl_X11_35 ⟨fs, q1, e1, e2, ?_⟩
  obtain ⟨fs, x2, e1, e2, h⟩ := h
  refine gG_gi dX11_up_19 fl_X11_212 ⟨fs, x2, e1, e2, ?_⟩
  refine gG_ic_ge (tgt := 52) dX11_up_22 (by decide) (fun c => ?_) (fun c => ?_)
  · have h := h.1 c
    refine gG_iload_n dX11_up_52 rfl rfl ?_
    exact gG_exit ⟨rfl, rfl, rfl, dX11_up_53, _, rfl, h⟩
  · have h := h.2 c
    refine gG_aload_n dX11_up_25 rfl rfl ?_
    obtain ⟨fs, q3, e1, e2, h⟩ := h
    refine gG_gr dX11_up_26 fl_X11_35 ⟨fs, q3, e1, e2, ?_⟩
    refine gG_iload_n dX11_up_29 rfl rfl ?_
    obtain ⟨hrc, d2, P2, hdd, hC, h⟩ := h
    refine gG_cvi (As := [.int (i3)]) (st := []) dX11_up_30 mV_X11_239 hdd hrc rfl rfl (Nat.le_of_ble_eq_true rfl) (Nat.le_refl _) ⟨Nat.le_refl _, Nat.le_refl _⟩ hC (fun H4 x5 hp => ?_)
    have h := h H4 x5 hp
    refine gG_iload_n dX11_up_33 rfl rfl ?_
    refine gG_ishr dX11_up_34 ?_
    refine gG_iconst (v := 1) dX11_up_35 (by decide) ?_
    refine gG_iand dX11_up_36 ?_
    refine gG_if_eq (tgt := 46) dX11_up_37 (by decide) (fun c => ?_) (fun c => ?_)
    · have h := h.1 c
      refine gG_iinc (v := i3 + 1) dX11_up_46 rfl rfl (Nat.le_of_ble_eq_true rfl) ?_
      refine gG_goto (tgt := 14) dX11_up_49 (by decide) ?_
      refine gG_locals ?_ h
      exact ⟨rfl, ⟨rfl, ⟨rfl, ⟨rfl, trivial⟩⟩⟩⟩
    · have h := h.2 c
      refine gG_iload_n dX11_up_40 rfl rfl ?_
      refine gG_iconst (v := 1) dX11_up_41 (by decide) ?_
      refine gG_iload_n dX11_up_42 rfl rfl ?_
      refine gG_ishl dX11_up_43 ?_
      refine gG_ior dX11_up_44 ?_
      refine gG_istore_n dX11_up_45 rfl (Nat.le_of_ble_eq_true rfl) ?_
      refine gG_iinc (v := i3 + 1) dX11_up_46 rfl rfl (Nat.le_of_ble_eq_true rfl) ?_
      refine gG_goto (tgt := 14) dX11_up_49 (by decide) ?_
      refine gG_locals ?_ h
      exact ⟨rfl, ⟨rfl, ⟨rfl, ⟨rfl, trivial⟩⟩⟩⟩

theorem kX11_chain_0 {d n : Nat} {H : gHp} {P : gHp → Int32 → Prop} {a0 : Nat} (h : gG d mX11_chain 0 0 (g_Xj mX11_chain n 0 0 P) 4 n H [some (.ref (a0)), some (.int ((0 : Int32))), some (.int ((0 : Int32)))] [] (0) (0)) : gG d mX11_chain 0 0 (g_Xj mX11_chain n 0 0 P) 0 n H [some (.ref (a0)), none, none] [] 0 0 := by
  refine gG_iconst (v := 0) dX11_chain_0 (by decide) ?_
  refine gG_istore_n dX11_chain_1 rfl (Nat.le_of_ble_eq_true rfl) ?_
  refine gG_iconst (v := 0) dX11_chain_2 (by decide) ?_
  refine gG_istore_n dX11_chain_3 rfl (Nat.le_of_ble_eq_true rfl) ?_
  refine gG_locals ?_ h
  exact ⟨rfl, ⟨rfl, ⟨rfl, trivial⟩⟩⟩
theorem kX11_chain_4 {d n : Nat} {H : gHp} {P : gHp → Int32 → Prop} {a0 : Nat} {i1 : Int32} {i2 : Int32} (hd1 : 1 ≤ d) (h : g_gr H (a0) 11 3 (fun q1 => g_gi H (q1) 1 0 (fun x2 => (x2 ≤ i2 → P H (i1)) ∧ (¬ (x2 ≤ i2) → g_gr H (a0) 11 3 (fun q3 => (∃ fs, H (q3) = .inr (1, fs)) ∧ g_ci d mX1_below n H [.ref (q3), .int (i2)] (fun H4 x5 => g_ci d mJ6_bitCount_0f7a4 n H4 [.int (x5)] (fun H6 x7 => gG d mX11_chain 0 0 (g_Xj mX11_chain n 0 0 P) 4 n H6 [some (.ref (a0)), some (.int ((if i1 < ((1 : Int32) + x7) then ((1 : Int32) + x7) else i1))), some (.int ((i2 + 1)))] [] (0) (0)))))))) : gG d mX11_chain 0 0 (g_Xj mX11_chain n 0 0 P) 4 n H [some (.ref (a0)), some (.int (i1)), some (.int (i2))] [] 0 0 := by
  refine gG_iload_n dX11_chain_4 rfl rfl ?_
  refine gG_aload_n dX11_chain_5 rfl rfl ?_
  obtain ⟨fs, q1, e1, e2, h⟩ := h
  refine gG_gr dX11_chain_6 fl_X11_35 ⟨fs, q1, e1, e2, ?_⟩
  obtain ⟨fs, x2, e1, e2, h⟩ := h
  refine gG_gi dX11_chain_9 fl_X11_212 ⟨fs, x2, e1, e2, ?_⟩
  refine gG_ic_ge (tgt := 39) dX11_chain_12 (by decide) (fun c => ?_) (fun c => ?_)
  · have h := h.1 c
    refine gG_iload_n dX11_chain_39 rfl rfl ?_
    exact gG_exit ⟨rfl, rfl, rfl, dX11_chain_40, _, rfl, h⟩
  · have h := h.2 c
    refine gG_iload_n dX11_chain_15 rfl rfl ?_
    refine gG_iconst (v := 1) dX11_chain_16 (by decide) ?_
    refine gG_aload_n dX11_chain_17 rfl rfl ?_
    obtain ⟨fs, q3, e1, e2, h⟩ := h
    refine gG_gr dX11_chain_18 fl_X11_35 ⟨fs, q3, e1, e2, ?_⟩
    refine gG_iload_n dX11_chain_21 rfl rfl ?_
    obtain ⟨hrc, d2, P2, hdd, hC, h⟩ := h
    refine gG_cvi (As := [.int (i2)]) (st := [.int ((1 : Int32)), .int (i1)]) dX11_chain_22 mV_X11_239 hdd hrc rfl rfl (Nat.le_of_ble_eq_true rfl) (Nat.le_refl _) ⟨Nat.le_refl _, Nat.le_refl _⟩ hC (fun H4 x5 hp => ?_)
    have h := h H4 x5 hp
    obtain ⟨d2, P2, hdd, hC, h⟩ := h
    refine gG_csi (As := [.int (x5)]) (st := [.int ((1 : Int32)), .int (i1)]) dX11_chain_25 mS_X11_234 hdd rfl rfl (Nat.le_of_ble_eq_true rfl) (Nat.le_refl _) ⟨Nat.le_refl _, Nat.le_refl _⟩ hC (fun H6 x7 hp => ?_)
    have h := h H6 x7 hp
    refine gG_iadd dX11_chain_28 ?_
    refine gG_max dX11_chain_29 lk_X11_242 st_max ini_Math co_max hd1 (Nat.le_of_ble_eq_true rfl) (Nat.le_refl _) (Nat.le_refl _) ?_
    refine gG_istore_n dX11_chain_32 rfl (Nat.le_of_ble_eq_true rfl) ?_
    refine gG_iinc (v := i2 + 1) dX11_chain_33 rfl rfl (Nat.le_of_ble_eq_true rfl) ?_
    refine gG_goto (tgt := 4) dX11_chain_36 (by decide) ?_
    refine gG_locals ?_ h
    exact ⟨rfl, ⟨rfl, ⟨rfl, trivial⟩⟩⟩

theorem kX11_sounds_0 {d n : Nat} {H : gHp} {P : gHp → Int32 → Prop} {a0 : Nat} (h : g_gr H (a0) 11 10 (fun q1 => g_gi H (q1) 9 4 (fun x2 => P H (x2)))) : gG d mX11_sounds 0 0 (g_Xj mX11_sounds n 0 0 P) 0 n H [some (.ref (a0))] [] 0 0 := by
  refine gG_aload_n dX11_sounds_0 rfl rfl ?_
  obtain ⟨fs, q1, e1, e2, h⟩ := h
  refine gG_gr dX11_sounds_1 fl_X11_72 ⟨fs, q1, e1, e2, ?_⟩
  obtain ⟨fs, x2, e1, e2, h⟩ := h
  refine gG_gi dX11_sounds_4 fl_X11_247 ⟨fs, x2, e1, e2, ?_⟩
  exact gG_exit ⟨rfl, rfl, rfl, dX11_sounds_7, _, rfl, h⟩

theorem kX11_last_0 {d n : Nat} {H : gHp} {P : gHp → Int32 → Prop} {a0 : Nat} (h : g_gr H (a0) 11 10 (fun q1 => g_gi H (q1) 9 5 (fun x2 => P H (x2)))) : gG d mX11_last 0 0 (g_Xj mX11_last n 0 0 P) 0 n H [some (.ref (a0))] [] 0 0 := by
  refine gG_aload_n dX11_last_0 rfl rfl ?_
  obtain ⟨fs, q1, e1, e2, h⟩ := h
  refine gG_gr dX11_last_1 fl_X11_72 ⟨fs, q1, e1, e2, ?_⟩
  obtain ⟨fs, x2, e1, e2, h⟩ := h
  refine gG_gi dX11_last_4 fl_X11_209 ⟨fs, x2, e1, e2, ?_⟩
  exact gG_exit ⟨rfl, rfl, rfl, dX11_last_7, _, rfl, h⟩

theorem kX11_often_0 {d n : Nat} {H : gHp} {P : gHp → Int32 → Prop} {a0 : Nat} (h : gG d mX11_often 0 0 (g_Xj mX11_often n 0 0 P) 2 n H [some (.ref (a0)), some (.int ((0 : Int32)))] [] (0) (0)) : gG d mX11_often 0 0 (g_Xj mX11_often n 0 0 P) 0 n H [some (.ref (a0)), none] [] 0 0 := by
  refine gG_iconst (v := 0) dX11_often_0 (by decide) ?_
  refine gG_istore_n dX11_often_1 rfl (Nat.le_of_ble_eq_true rfl) ?_
  refine gG_locals ?_ h
  exact ⟨rfl, ⟨rfl, trivial⟩⟩
theorem kX11_often_2 {d n : Nat} {H : gHp} {P : gHp → Int32 → Prop} {a0 : Nat} {i1 : Int32} (h : g_gr H (a0) 11 3 (fun q1 => g_gi H (q1) 1 8 (fun x2 => (x2 ≤ i1 → g_gr H (a0) 11 3 (fun q3 => g_gi H (q3) 1 8 (fun x4 => (∃ fs, H (a0) = .inr (11, fs)) ∧ g_ci d mX11_greatestOfRow n H [.ref (a0), .int (x4)] (fun H5 x6 => (x6 = (-1 : Int32) → P H5 ((-1 : Int32))) ∧ (¬ (x6 = (-1 : Int32)) → g_gr H5 (a0) 11 16 (fun q7 => g_al 0 H5 (q7) (x6) (fun x8 => (x8 ≤ 0 → P H5 ((-1 : Int32))) ∧ (¬ (x8 ≤ 0) → P H5 (x6))))))))) ∧ (¬ (x2 ≤ i1) → g_gr H (a0) 11 16 (fun q9 => g_gr H (a0) 11 10 (fun q10 => (∃ fs, H (q10) = .inr (9, fs)) ∧ g_ci d mX9_signsLike n H [.ref (q10), .int (i1)] (fun H11 x12 => g_as 0 H11 (q9) (i1) (x12) (fun H13 => gG d mX11_often 0 0 (g_Xj mX11_often n 0 0 P) 2 n H13 [some (.ref (a0)), some (.int ((i1 + 1)))] [] (0) (0))))))))) : gG d mX11_often 0 0 (g_Xj mX11_often n 0 0 P) 2 n H [some (.ref (a0)), some (.int (i1))] [] 0 0 := by
  refine gG_iload_n dX11_often_2 rfl rfl ?_
  refine gG_aload_n dX11_often_3 rfl rfl ?_
  obtain ⟨fs, q1, e1, e2, h⟩ := h
  refine gG_gr dX11_often_4 fl_X11_35 ⟨fs, q1, e1, e2, ?_⟩
  obtain ⟨fs, x2, e1, e2, h⟩ := h
  refine gG_gi dX11_often_7 fl_X11_250 ⟨fs, x2, e1, e2, ?_⟩
  refine gG_ic_ge (tgt := 33) dX11_often_10 (by decide) (fun c => ?_) (fun c => ?_)
  · have h := h.1 c
    refine gG_aload_n dX11_often_33 rfl rfl ?_
    refine gG_aload_n dX11_often_34 rfl rfl ?_
    obtain ⟨fs, q3, e1, e2, h⟩ := h
    refine gG_gr dX11_often_35 fl_X11_35 ⟨fs, q3, e1, e2, ?_⟩
    obtain ⟨fs, x4, e1, e2, h⟩ := h
    refine gG_gi dX11_often_38 fl_X11_250 ⟨fs, x4, e1, e2, ?_⟩
    obtain ⟨hrc, d2, P2, hdd, hC, h⟩ := h
    refine gG_cvi (As := [.int (x4)]) (st := []) dX11_often_41 mV_X11_227 hdd hrc rfl rfl (Nat.le_of_ble_eq_true rfl) (Nat.le_refl _) ⟨Nat.le_refl _, Nat.le_refl _⟩ hC (fun H5 x6 hp => ?_)
    have h := h H5 x6 hp
    refine gG_istore_n dX11_often_44 rfl (Nat.le_of_ble_eq_true rfl) ?_
    refine gG_iload_n dX11_often_45 rfl rfl ?_
    refine gG_iconst (v := (-1)) dX11_often_46 (by decide) ?_
    refine gG_ic_eq (tgt := 63) dX11_often_47 (by decide) (fun c => ?_) (fun c => ?_)
    · have h := h.1 c
      refine gG_iconst (v := (-1)) dX11_often_63 (by decide) ?_
      exact gG_exit ⟨rfl, rfl, rfl, dX11_often_64, _, rfl, h⟩
    · have h := h.2 c
      refine gG_aload_n dX11_often_50 rfl rfl ?_
      obtain ⟨fs, q7, e1, e2, h⟩ := h
      refine gG_gr dX11_often_51 fl_X11_90 ⟨fs, q7, e1, e2, ?_⟩
      refine gG_iload_n dX11_often_54 rfl rfl ?_
      obtain ⟨m0, f0, e1, e2, h⟩ := h
      refine gG_iald dX11_often_55 ⟨m0, f0, e1, e2, ?_⟩
      obtain ⟨x8, eH⟩ : ∃ z, z = f0 (Int32.toNatClampNeg (x6)) := ⟨_, rfl⟩
      rw [← eH] at h ⊢
      refine gG_if_le (tgt := 63) dX11_often_56 (by decide) (fun c => ?_) (fun c => ?_)
      · have h := h.1 c
        refine gG_iconst (v := (-1)) dX11_often_63 (by decide) ?_
        exact gG_exit ⟨rfl, rfl, rfl, dX11_often_64, _, rfl, h⟩
      · have h := h.2 c
        refine gG_iload_n dX11_often_59 rfl rfl ?_
        refine gG_goto (tgt := 64) dX11_often_60 (by decide) ?_
        exact gG_exit ⟨rfl, rfl, rfl, dX11_often_64, _, rfl, h⟩
  · have h := h.2 c
    refine gG_aload_n dX11_often_13 rfl rfl ?_
    obtain ⟨fs, q9, e1, e2, h⟩ := h
    refine gG_gr dX11_often_14 fl_X11_90 ⟨fs, q9, e1, e2, ?_⟩
    refine gG_iload_n dX11_often_17 rfl rfl ?_
    refine gG_aload_n dX11_often_18 rfl rfl ?_
    obtain ⟨fs, q10, e1, e2, h⟩ := h
    refine gG_gr dX11_often_19 fl_X11_72 ⟨fs, q10, e1, e2, ?_⟩
    refine gG_iload_n dX11_often_22 rfl rfl ?_
    obtain ⟨hrc, d2, P2, hdd, hC, h⟩ := h
    refine gG_cvi (As := [.int (i1)]) (st := [.int (i1), .ref (q9)]) dX11_often_23 mV_X11_199 hdd hrc rfl rfl (Nat.le_of_ble_eq_true rfl) (Nat.le_refl _) ⟨Nat.le_refl _, Nat.le_refl _⟩ hC (fun H11 x12 hp => ?_)
    have h := h H11 x12 hp
    obtain ⟨m0, f0, e1, e2, h⟩ := h
    refine gG_iast dX11_often_26 ⟨m0, f0, e1, e2, ?_⟩
    obtain ⟨H13, eH⟩ : ∃ z, z = va_up H11 (q9) (.inl (0, m0, .inl (upd f0 (Int32.toNatClampNeg (i1)) (x12)))) := ⟨_, rfl⟩
    rw [← eH] at h ⊢
    refine gG_iinc (v := i1 + 1) dX11_often_27 rfl rfl (Nat.le_of_ble_eq_true rfl) ?_
    refine gG_goto (tgt := 2) dX11_often_30 (by decide) ?_
    refine gG_locals ?_ h
    exact ⟨rfl, ⟨rfl, trivial⟩⟩

theorem kX11_run_0 {d n : Nat} {H : gHp} {P : gHp → Int32 → Prop} {a0 : Nat} (h : gG d mX11_run 0 0 (g_Xj mX11_run n 0 0 P) 6 n H [some (.ref (a0)), some (.int ((0 : Int32))), some (.int ((0 : Int32))), some (.int ((0 : Int32))), none] [] (0) (0)) : gG d mX11_run 0 0 (g_Xj mX11_run n 0 0 P) 0 n H [some (.ref (a0)), none, none, none, none] [] 0 0 := by
  refine gG_iconst (v := 0) dX11_run_0 (by decide) ?_
  refine gG_istore_n dX11_run_1 rfl (Nat.le_of_ble_eq_true rfl) ?_
  refine gG_iconst (v := 0) dX11_run_2 (by decide) ?_
  refine gG_istore_n dX11_run_3 rfl (Nat.le_of_ble_eq_true rfl) ?_
  refine gG_iconst (v := 0) dX11_run_4 (by decide) ?_
  refine gG_istore_n dX11_run_5 rfl (Nat.le_of_ble_eq_true rfl) ?_
  refine gG_locals ?_ h
  exact ⟨rfl, ⟨rfl, ⟨rfl, ⟨rfl, trivial⟩⟩⟩⟩
theorem kX11_run_6 {d n : Nat} {H : gHp} {P : gHp → Int32 → Prop} {a0 : Nat} {i1 : Int32} {i2 : Int32} {i3 : Int32} (h : g_gr H (a0) 11 10 (fun q1 => g_gi H (q1) 9 9 (fun x2 => (x2 ≤ i3 → P H (i1)) ∧ (¬ (x2 ≤ i3) → (i3 ≤ 0 → gG d mX11_run 0 0 (g_Xj mX11_run n 0 0 P) 51 n H [some (.ref (a0)), some (.int (i1)), some (.int (i2)), some (.int (i3)), some (.int ((0 : Int32)))] [] (0) (0)) ∧ (¬ (i3 ≤ 0) → g_gr H (a0) 11 10 (fun q3 => g_gr H (q3) 9 8 (fun q4 => g_al 0 H (q4) (i3) (fun x5 => g_gr H (a0) 11 10 (fun q6 => g_gr H (q6) 9 8 (fun q7 => g_al 0 H (q7) ((i3 - (1 : Int32))) (fun x8 => (¬ (x5 = x8) → gG d mX11_run 0 0 (g_Xj mX11_run n 0 0 P) 51 n H [some (.ref (a0)), some (.int (i1)), some (.int (i2)), some (.int (i3)), some (.int ((0 : Int32)))] [] (0) (0)) ∧ (x5 = x8 → gG d mX11_run 0 0 (g_Xj mX11_run n 0 0 P) 51 n H [some (.ref (a0)), some (.int (i1)), some (.int (i2)), some (.int (i3)), some (.int ((1 : Int32)))] [] (0) (0))))))))))))) : gG d mX11_run 0 0 (g_Xj mX11_run n 0 0 P) 6 n H [some (.ref (a0)), some (.int (i1)), some (.int (i2)), some (.int (i3)), none] [] 0 0 := by
  refine gG_iload_n dX11_run_6 rfl rfl ?_
  refine gG_aload_n dX11_run_7 rfl rfl ?_
  obtain ⟨fs, q1, e1, e2, h⟩ := h
  refine gG_gr dX11_run_8 fl_X11_72 ⟨fs, q1, e1, e2, ?_⟩
  obtain ⟨fs, x2, e1, e2, h⟩ := h
  refine gG_gi dX11_run_11 fl_X11_151 ⟨fs, x2, e1, e2, ?_⟩
  refine gG_ic_ge (tgt := 90) dX11_run_14 (by decide) (fun c => ?_) (fun c => ?_)
  · have h := h.1 c
    refine gG_iload_n dX11_run_90 rfl rfl ?_
    exact gG_exit ⟨rfl, rfl, rfl, dX11_run_91, _, rfl, h⟩
  · have h := h.2 c
    refine gG_iload_n dX11_run_17 rfl rfl ?_
    refine gG_if_le (tgt := 48) dX11_run_18 (by decide) (fun c => ?_) (fun c => ?_)
    · have h := h.1 c
      refine gG_iconst (v := 0) dX11_run_48 (by decide) ?_
      refine gG_istore dX11_run_49 (Nat.le_of_ble_eq_true rfl) ?_
      refine gG_locals ?_ h
      exact ⟨rfl, ⟨rfl, ⟨rfl, ⟨rfl, ⟨rfl, trivial⟩⟩⟩⟩⟩
    · have h := h.2 c
      refine gG_aload_n dX11_run_21 rfl rfl ?_
      obtain ⟨fs, q3, e1, e2, h⟩ := h
      refine gG_gr dX11_run_22 fl_X11_72 ⟨fs, q3, e1, e2, ?_⟩
      obtain ⟨fs, q4, e1, e2, h⟩ := h
      refine gG_gr dX11_run_25 fl_X11_154 ⟨fs, q4, e1, e2, ?_⟩
      refine gG_iload_n dX11_run_28 rfl rfl ?_
      obtain ⟨m0, f0, e1, e2, h⟩ := h
      refine gG_iald dX11_run_29 ⟨m0, f0, e1, e2, ?_⟩
      obtain ⟨x5, eH⟩ : ∃ z, z = f0 (Int32.toNatClampNeg (i3)) := ⟨_, rfl⟩
      rw [← eH] at h ⊢
      refine gG_aload_n dX11_run_30 rfl rfl ?_
      obtain ⟨fs, q6, e1, e2, h⟩ := h
      refine gG_gr dX11_run_31 fl_X11_72 ⟨fs, q6, e1, e2, ?_⟩
      obtain ⟨fs, q7, e1, e2, h⟩ := h
      refine gG_gr dX11_run_34 fl_X11_154 ⟨fs, q7, e1, e2, ?_⟩
      refine gG_iload_n dX11_run_37 rfl rfl ?_
      refine gG_iconst (v := 1) dX11_run_38 (by decide) ?_
      refine gG_isub dX11_run_39 ?_
      obtain ⟨m0, f0, e1, e2, h⟩ := h
      refine gG_iald dX11_run_40 ⟨m0, f0, e1, e2, ?_⟩
      obtain ⟨x8, eH⟩ : ∃ z, z = f0 (Int32.toNatClampNeg ((i3 - (1 : Int32)))) := ⟨_, rfl⟩
      rw [← eH] at h ⊢
      refine gG_ic_ne (tgt := 48) dX11_run_41 (by decide) (fun c => ?_) (fun c => ?_)
      · have h := h.1 c
        refine gG_iconst (v := 0) dX11_run_48 (by decide) ?_
        refine gG_istore dX11_run_49 (Nat.le_of_ble_eq_true rfl) ?_
        refine gG_locals ?_ h
        exact ⟨rfl, ⟨rfl, ⟨rfl, ⟨rfl, ⟨rfl, trivial⟩⟩⟩⟩⟩
      · have h := h.2 c
        refine gG_iconst (v := 1) dX11_run_44 (by decide) ?_
        refine gG_goto (tgt := 49) dX11_run_45 (by decide) ?_
        refine gG_istore dX11_run_49 (Nat.le_of_ble_eq_true rfl) ?_
        refine gG_locals ?_ h
        exact ⟨rfl, ⟨rfl, ⟨rfl, ⟨rfl, ⟨rfl, trivial⟩⟩⟩⟩⟩
theorem kX11_run_51 {d n : Nat} {H : gHp} {P : gHp → Int32 → Prop} {a0 : Nat} {i1 : Int32} {i2 : Int32} {i3 : Int32} {i4 : Int32} (h : (i4 = 0 → gG d mX11_run 0 0 (g_Xj mX11_run n 0 0 P) 64 n H [some (.ref (a0)), some (.int (i1)), some (.int ((1 : Int32))), some (.int (i3)), none] [] (0) (0)) ∧ (¬ (i4 = 0) → gG d mX11_run 0 0 (g_Xj mX11_run n 0 0 P) 64 n H [some (.ref (a0)), some (.int (i1)), some (.int ((i2 + (1 : Int32)))), some (.int (i3)), none] [] (0) (0))) : gG d mX11_run 0 0 (g_Xj mX11_run n 0 0 P) 51 n H [some (.ref (a0)), some (.int (i1)), some (.int (i2)), some (.int (i3)), some (.int (i4))] [] 0 0 := by
  refine gG_iload dX11_run_51 rfl ?_
  refine gG_if_eq (tgt := 62) dX11_run_53 (by decide) (fun c => ?_) (fun c => ?_)
  · have h := h.1 c
    refine gG_iconst (v := 1) dX11_run_62 (by decide) ?_
    refine gG_istore_n dX11_run_63 rfl (Nat.le_of_ble_eq_true rfl) ?_
    refine gG_locals ?_ h
    exact ⟨rfl, ⟨rfl, ⟨rfl, ⟨rfl, trivial⟩⟩⟩⟩
  · have h := h.2 c
    refine gG_iload_n dX11_run_56 rfl rfl ?_
    refine gG_iconst (v := 1) dX11_run_57 (by decide) ?_
    refine gG_iadd dX11_run_58 ?_
    refine gG_goto (tgt := 63) dX11_run_59 (by decide) ?_
    refine gG_istore_n dX11_run_63 rfl (Nat.le_of_ble_eq_true rfl) ?_
    refine gG_locals ?_ h
    exact ⟨rfl, ⟨rfl, ⟨rfl, ⟨rfl, trivial⟩⟩⟩⟩
theorem kX11_run_64 {d n : Nat} {H : gHp} {P : gHp → Int32 → Prop} {a0 : Nat} {i1 : Int32} {i2 : Int32} {i3 : Int32} (hd1 : 1 ≤ d) (h : g_gr H (a0) 11 10 (fun q1 => g_gr H (q1) 9 8 (fun q2 => g_al 0 H (q2) (i3) (fun x3 => (x3 = (6 : Int32) → gG d mX11_run 0 0 (g_Xj mX11_run n 0 0 P) 6 n H [some (.ref (a0)), some (.int (i1)), some (.int (i2)), some (.int ((i3 + 1))), none] [] (0) (0)) ∧ (¬ (x3 = (6 : Int32)) → gG d mX11_run 0 0 (g_Xj mX11_run n 0 0 P) 6 n H [some (.ref (a0)), some (.int ((if i1 < i2 then i2 else i1))), some (.int (i2)), some (.int ((i3 + 1))), none] [] (0) (0)))))) : gG d mX11_run 0 0 (g_Xj mX11_run n 0 0 P) 64 n H [some (.ref (a0)), some (.int (i1)), some (.int (i2)), some (.int (i3)), none] [] 0 0 := by
  refine gG_aload_n dX11_run_64 rfl rfl ?_
  obtain ⟨fs, q1, e1, e2, h⟩ := h
  refine gG_gr dX11_run_65 fl_X11_72 ⟨fs, q1, e1, e2, ?_⟩
  obtain ⟨fs, q2, e1, e2, h⟩ := h
  refine gG_gr dX11_run_68 fl_X11_154 ⟨fs, q2, e1, e2, ?_⟩
  refine gG_iload_n dX11_run_71 rfl rfl ?_
  obtain ⟨m0, f0, e1, e2, h⟩ := h
  refine gG_iald dX11_run_72 ⟨m0, f0, e1, e2, ?_⟩
  obtain ⟨x3, eH⟩ : ∃ z, z = f0 (Int32.toNatClampNeg (i3)) := ⟨_, rfl⟩
  rw [← eH] at h ⊢
  refine gG_bipush (v := 6) dX11_run_73 (by decide) ?_
  refine gG_ic_eq (tgt := 84) dX11_run_75 (by decide) (fun c => ?_) (fun c => ?_)
  · have h := h.1 c
    refine gG_iinc (v := i3 + 1) dX11_run_84 rfl rfl (Nat.le_of_ble_eq_true rfl) ?_
    refine gG_goto (tgt := 6) dX11_run_87 (by decide) ?_
    refine gG_locals ?_ h
    exact ⟨rfl, ⟨rfl, ⟨rfl, ⟨rfl, trivial⟩⟩⟩⟩
  · have h := h.2 c
    refine gG_iload_n dX11_run_78 rfl rfl ?_
    refine gG_iload_n dX11_run_79 rfl rfl ?_
    refine gG_max dX11_run_80 lk_X11_242 st_max ini_Math co_max hd1 (Nat.le_of_ble_eq_true rfl) (Nat.le_refl _) (Nat.le_refl _) ?_
    refine gG_istore_n dX11_run_83 rfl (Nat.le_of_ble_eq_true rfl) ?_
    refine gG_iinc (v := i3 + 1) dX11_run_84 rfl rfl (Nat.le_of_ble_eq_true rfl) ?_
    refine gG_goto (tgt := 6) dX11_run_87 (by decide) ?_
    refine gG_locals ?_ h
    exact ⟨rfl, ⟨rfl, ⟨rfl, ⟨rfl, trivial⟩⟩⟩⟩

theorem kX11_stands_0 {d n : Nat} {H : gHp} {P : gHp → Int32 → Prop} {a0 : Nat} (h : g_gr H (a0) 11 10 (fun q1 => g_gr H (a0) 11 7 (fun q2 => (∃ fs, H (q1) = .inr (9, fs)) ∧ g_ci d mX9_placeOf n H [.ref (q1), .ref (q2)] (fun H3 x4 => P H3 (x4))))) : gG d mX11_stands 0 0 (g_Xj mX11_stands n 0 0 P) 0 n H [some (.ref (a0))] [] 0 0 := by
  refine gG_aload_n dX11_stands_0 rfl rfl ?_
  obtain ⟨fs, q1, e1, e2, h⟩ := h
  refine gG_gr dX11_stands_1 fl_X11_72 ⟨fs, q1, e1, e2, ?_⟩
  refine gG_aload_n dX11_stands_4 rfl rfl ?_
  obtain ⟨fs, q2, e1, e2, h⟩ := h
  refine gG_gr dX11_stands_5 fl_X11_55 ⟨fs, q2, e1, e2, ?_⟩
  obtain ⟨hrc, d2, P2, hdd, hC, h⟩ := h
  refine gG_cvi (As := [.ref (q2)]) (st := []) dX11_stands_8 mV_X11_253 hdd hrc rfl rfl (Nat.le_of_ble_eq_true rfl) (Nat.le_refl _) ⟨Nat.le_refl _, Nat.le_refl _⟩ hC (fun H3 x4 hp => ?_)
  have h := h H3 x4 hp
  exact gG_exit ⟨rfl, rfl, rfl, dX11_stands_11, _, rfl, h⟩

theorem kX11_maybe_0 {d n : Nat} {H : gHp} {P : gHp → Int32 → Prop} {a0 : Nat} (h : g_gr H (a0) 11 7 (fun q1 => g_gi H (q1) 10 0 (fun x2 => (¬ (x2 = 0) → g_gr H (a0) 11 10 (fun q3 => g_gr H (a0) 11 7 (fun q4 => (∃ fs, H (q3) = .inr (9, fs)) ∧ g_ci d mX9_placesFor n H [.ref (q3), .ref (q4)] (fun H5 x6 => P H5 (x6))))) ∧ (x2 = 0 → P H ((-1 : Int32)))))) : gG d mX11_maybe 0 0 (g_Xj mX11_maybe n 0 0 P) 0 n H [some (.ref (a0))] [] 0 0 := by
  refine gG_aload_n dX11_maybe_0 rfl rfl ?_
  obtain ⟨fs, q1, e1, e2, h⟩ := h
  refine gG_gr dX11_maybe_1 fl_X11_55 ⟨fs, q1, e1, e2, ?_⟩
  obtain ⟨fs, x2, e1, e2, h⟩ := h
  refine gG_gi dX11_maybe_4 fl_X11_257 ⟨fs, x2, e1, e2, ?_⟩
  refine gG_if_ne (tgt := 14) dX11_maybe_7 (by decide) (fun c => ?_) (fun c => ?_)
  · have h := h.1 c
    refine gG_aload_n dX11_maybe_14 rfl rfl ?_
    obtain ⟨fs, q3, e1, e2, h⟩ := h
    refine gG_gr dX11_maybe_15 fl_X11_72 ⟨fs, q3, e1, e2, ?_⟩
    refine gG_aload_n dX11_maybe_18 rfl rfl ?_
    obtain ⟨fs, q4, e1, e2, h⟩ := h
    refine gG_gr dX11_maybe_19 fl_X11_55 ⟨fs, q4, e1, e2, ?_⟩
    obtain ⟨hrc, d2, P2, hdd, hC, h⟩ := h
    refine gG_cvi (As := [.ref (q4)]) (st := []) dX11_maybe_22 mV_X11_258 hdd hrc rfl rfl (Nat.le_of_ble_eq_true rfl) (Nat.le_refl _) ⟨Nat.le_refl _, Nat.le_refl _⟩ hC (fun H5 x6 hp => ?_)
    have h := h H5 x6 hp
    exact gG_exit ⟨rfl, rfl, rfl, dX11_maybe_25, _, rfl, h⟩
  · have h := h.2 c
    refine gG_iconst (v := (-1)) dX11_maybe_10 (by decide) ?_
    refine gG_goto (tgt := 25) dX11_maybe_11 (by decide) ?_
    exact gG_exit ⟨rfl, rfl, rfl, dX11_maybe_25, _, rfl, h⟩

theorem kX11_entire_0 {d n : Nat} {H : gHp} {P : gHp → Int32 → Prop} {a0 : Nat} (h : g_gr H (a0) 11 11 (fun q1 => g_gr H (a0) 11 10 (fun q2 => (∃ fs, H (q1) = .inr (9, fs)) ∧ g_cvd d mX9_copyFrom n H [.ref (q1), .ref (q2)] (fun H3 => gG d mX11_entire 0 0 (g_Xj mX11_entire n 0 0 P) 13 n H3 [some (.ref (a0)), some (.int ((0 : Int32)))] [] (0) (0))))) : gG d mX11_entire 0 0 (g_Xj mX11_entire n 0 0 P) 0 n H [some (.ref (a0)), none] [] 0 0 := by
  refine gG_aload_n dX11_entire_0 rfl rfl ?_
  obtain ⟨fs, q1, e1, e2, h⟩ := h
  refine gG_gr dX11_entire_1 fl_X11_76 ⟨fs, q1, e1, e2, ?_⟩
  refine gG_aload_n dX11_entire_4 rfl rfl ?_
  obtain ⟨fs, q2, e1, e2, h⟩ := h
  refine gG_gr dX11_entire_5 fl_X11_72 ⟨fs, q2, e1, e2, ?_⟩
  obtain ⟨hrc, d2, P2, hdd, hC, h⟩ := h
  refine gG_cvv (As := [.ref (q2)]) (st := []) dX11_entire_8 mV_X11_187 hdd hrc rfl rfl (Nat.le_of_ble_eq_true rfl) (Nat.le_refl _) ⟨Nat.le_refl _, Nat.le_refl _⟩ hC (fun H3 hp => ?_)
  have h := h H3 hp
  refine gG_iconst (v := 0) dX11_entire_11 (by decide) ?_
  refine gG_istore_n dX11_entire_12 rfl (Nat.le_of_ble_eq_true rfl) ?_
  refine gG_locals ?_ h
  exact ⟨rfl, ⟨rfl, trivial⟩⟩
theorem kX11_entire_13 {d n : Nat} {H : gHp} {P : gHp → Int32 → Prop} {a0 : Nat} {i1 : Int32} (h : ((60 : Int32) < i1 → P H ((-1 : Int32))) ∧ (¬ ((60 : Int32) < i1) → g_gr H (a0) 11 11 (fun q1 => g_gr H (a0) 11 7 (fun q2 => (∃ fs, H (q1) = .inr (9, fs)) ∧ g_ci d mX9_placeOf n H [.ref (q1), .ref (q2)] (fun H3 x4 => (x4 = (-1 : Int32) → (∃ fs, H3 (a0) = .inr (11, fs)) ∧ g_ci d mX11_passTrialMinute n H3 [.ref (a0)] (fun H5 x6 => gG d mX11_entire 0 0 (g_Xj mX11_entire n 0 0 P) 13 n H5 [some (.ref (a0)), some (.int ((i1 + 1)))] [] (0) (0))) ∧ (¬ (x4 = (-1 : Int32)) → P H3 (i1))))))) : gG d mX11_entire 0 0 (g_Xj mX11_entire n 0 0 P) 13 n H [some (.ref (a0)), some (.int (i1))] [] 0 0 := by
  refine gG_iload_n dX11_entire_13 rfl rfl ?_
  refine gG_bipush (v := 60) dX11_entire_14 (by decide) ?_
  refine gG_ic_gt (tgt := 47) dX11_entire_16 (by decide) (fun c => ?_) (fun c => ?_)
  · have h := h.1 c
    refine gG_iconst (v := (-1)) dX11_entire_47 (by decide) ?_
    exact gG_exit ⟨rfl, rfl, rfl, dX11_entire_48, _, rfl, h⟩
  · have h := h.2 c
    refine gG_aload_n dX11_entire_19 rfl rfl ?_
    obtain ⟨fs, q1, e1, e2, h⟩ := h
    refine gG_gr dX11_entire_20 fl_X11_76 ⟨fs, q1, e1, e2, ?_⟩
    refine gG_aload_n dX11_entire_23 rfl rfl ?_
    obtain ⟨fs, q2, e1, e2, h⟩ := h
    refine gG_gr dX11_entire_24 fl_X11_55 ⟨fs, q2, e1, e2, ?_⟩
    obtain ⟨hrc, d2, P2, hdd, hC, h⟩ := h
    refine gG_cvi (As := [.ref (q2)]) (st := []) dX11_entire_27 mV_X11_253 hdd hrc rfl rfl (Nat.le_of_ble_eq_true rfl) (Nat.le_refl _) ⟨Nat.le_refl _, Nat.le_refl _⟩ hC (fun H3 x4 hp => ?_)
    have h := h H3 x4 hp
    refine gG_iconst (v := (-1)) dX11_entire_30 (by decide) ?_
    refine gG_ic_eq (tgt := 36) dX11_entire_31 (by decide) (fun c => ?_) (fun c => ?_)
    · have h := h.1 c
      refine gG_aload_n dX11_entire_36 rfl rfl ?_
      obtain ⟨hrc, d2, P2, hdd, hC, h⟩ := h
      refine gG_cvi (As := []) (st := []) dX11_entire_37 mV_X11_202 hdd hrc rfl rfl (Nat.le_of_ble_eq_true rfl) (Nat.le_refl _) ⟨Nat.le_refl _, Nat.le_refl _⟩ hC (fun H5 x6 hp => ?_)
      have h := h H5 x6 hp
      refine gG_pop dX11_entire_40 rfl ?_
      refine gG_iinc (v := i1 + 1) dX11_entire_41 rfl rfl (Nat.le_of_ble_eq_true rfl) ?_
      refine gG_goto (tgt := 13) dX11_entire_44 (by decide) ?_
      refine gG_locals ?_ h
      exact ⟨rfl, ⟨rfl, trivial⟩⟩
    · have h := h.2 c
      refine gG_iload_n dX11_entire_34 rfl rfl ?_
      exact gG_exit ⟨rfl, rfl, rfl, dX11_entire_35, _, rfl, h⟩

theorem kX11_aim_0 {d n : Nat} {H : gHp} {P : gHp → Int32 → Prop} {a0 : Nat} {i1 : Int32} {i2 : Int32} (h : (∃ fs, H (a0) = .inr (11, fs)) ∧ g_cz d mX11_isLetter n H [.ref (a0), .int (i1)] (fun H1 b2 => (b2 = false → P H1 ((-2 : Int32))) ∧ (b2 = true → (i2 < 0 → P H1 ((-2 : Int32))) ∧ (¬ (i2 < 0) → (i2 ≤ (1 : Int32) → (∃ fs, H1 (a0) = .inr (11, fs)) ∧ g_cz d mX11_isReadWith n H1 [.ref (a0), .int (i1), .int ((-1 : Int32)), .int ((0 : Int32))] (fun H3 b4 => (b4 = false → gG d mX11_aim 0 0 (g_Xj mX11_aim n 0 0 P) 42 n H3 [some (.ref (a0)), some (.int (i1)), some (.int (i2)), some (.int ((1 : Int32))), none] [] (0) (0)) ∧ (b4 = true → (¬ (i2 = 0) → P H3 ((-1 : Int32))) ∧ (i2 = 0 → P H3 ((0 : Int32)))))) ∧ (¬ (i2 ≤ (1 : Int32)) → P H1 ((-2 : Int32))))))) : gG d mX11_aim 0 0 (g_Xj mX11_aim n 0 0 P) 0 n H [some (.ref (a0)), some (.int (i1)), some (.int (i2)), none, none] [] 0 0 := by
  refine gG_aload_n dX11_aim_0 rfl rfl ?_
  refine gG_iload_n dX11_aim_1 rfl rfl ?_
  obtain ⟨hrc, d2, P2, hdd, hC, h⟩ := h
  refine gG_cvi (As := [.int (i1)]) (st := []) dX11_aim_2 mV_X11_145 hdd hrc rfl rfl (Nat.le_of_ble_eq_true rfl) (Nat.le_refl _) ⟨Nat.le_refl _, Nat.le_refl _⟩ hC (fun H1 x9 hp => ?_)
  obtain ⟨b2, rfl, hp⟩ := hp
  have h := h H1 b2 hp
  refine gG_if_eq (tgt := 17) dX11_aim_5 (by decide) (fun c => ?_) (fun c => ?_)
  · have h := h.1 (g_b_f c)
    refine gG_bipush (v := (-2)) dX11_aim_17 (by decide) ?_
    exact gG_exit ⟨rfl, rfl, rfl, dX11_aim_19, _, rfl, h⟩
  · have h := h.2 (g_b_t c)
    refine gG_iload_n dX11_aim_8 rfl rfl ?_
    refine gG_if_lt (tgt := 17) dX11_aim_9 (by decide) (fun c => ?_) (fun c => ?_)
    · have h := h.1 c
      refine gG_bipush (v := (-2)) dX11_aim_17 (by decide) ?_
      exact gG_exit ⟨rfl, rfl, rfl, dX11_aim_19, _, rfl, h⟩
    · have h := h.2 c
      refine gG_iload_n dX11_aim_12 rfl rfl ?_
      refine gG_iconst (v := 1) dX11_aim_13 (by decide) ?_
      refine gG_ic_le (tgt := 20) dX11_aim_14 (by decide) (fun c => ?_) (fun c => ?_)
      · have h := h.1 c
        refine gG_aload_n dX11_aim_20 rfl rfl ?_
        refine gG_iload_n dX11_aim_21 rfl rfl ?_
        refine gG_iconst (v := (-1)) dX11_aim_22 (by decide) ?_
        refine gG_iconst (v := 0) dX11_aim_23 (by decide) ?_
        obtain ⟨hrc, d2, P2, hdd, hC, h⟩ := h
        refine gG_cvi (As := [.int (i1), .int ((-1 : Int32)), .int ((0 : Int32))]) (st := []) dX11_aim_24 mV_X11_261 hdd hrc rfl rfl (Nat.le_of_ble_eq_true rfl) (Nat.le_refl _) ⟨Nat.le_refl _, Nat.le_refl _⟩ hC (fun H3 x9 hp => ?_)
        obtain ⟨b4, rfl, hp⟩ := hp
        have h := h H3 b4 hp
        refine gG_if_eq (tgt := 40) dX11_aim_27 (by decide) (fun c => ?_) (fun c => ?_)
        · have h := h.1 (g_b_f c)
          refine gG_iconst (v := 1) dX11_aim_40 (by decide) ?_
          refine gG_istore_n dX11_aim_41 rfl (Nat.le_of_ble_eq_true rfl) ?_
          refine gG_locals ?_ h
          exact ⟨rfl, ⟨rfl, ⟨rfl, ⟨rfl, trivial⟩⟩⟩⟩
        · have h := h.2 (g_b_t c)
          refine gG_iload_n dX11_aim_30 rfl rfl ?_
          refine gG_if_ne (tgt := 38) dX11_aim_31 (by decide) (fun c => ?_) (fun c => ?_)
          · have h := h.1 c
            refine gG_iconst (v := (-1)) dX11_aim_38 (by decide) ?_
            exact gG_exit ⟨rfl, rfl, rfl, dX11_aim_39, _, rfl, h⟩
          · have h := h.2 c
            refine gG_iconst (v := 0) dX11_aim_34 (by decide) ?_
            refine gG_goto (tgt := 39) dX11_aim_35 (by decide) ?_
            exact gG_exit ⟨rfl, rfl, rfl, dX11_aim_39, _, rfl, h⟩
      · have h := h.2 c
        refine gG_bipush (v := (-2)) dX11_aim_17 (by decide) ?_
        exact gG_exit ⟨rfl, rfl, rfl, dX11_aim_19, _, rfl, h⟩
theorem kX11_aim_42 {d n : Nat} {H : gHp} {P : gHp → Int32 → Prop} {a0 : Nat} {i1 : Int32} {i2 : Int32} {i3 : Int32} (h : ((20 : Int32) < i3 → P H ((-2 : Int32))) ∧ (¬ ((20 : Int32) < i3) → gG d mX11_aim 0 0 (g_Xj mX11_aim n 0 0 P) 51 n H [some (.ref (a0)), some (.int (i1)), some (.int (i2)), some (.int (i3)), some (.int ((0 : Int32)))] [] (0) (0))) : gG d mX11_aim 0 0 (g_Xj mX11_aim n 0 0 P) 42 n H [some (.ref (a0)), some (.int (i1)), some (.int (i2)), some (.int (i3)), none] [] 0 0 := by
  refine gG_iload_n dX11_aim_42 rfl rfl ?_
  refine gG_bipush (v := 20) dX11_aim_43 (by decide) ?_
  refine gG_ic_gt (tgt := 97) dX11_aim_45 (by decide) (fun c => ?_) (fun c => ?_)
  · have h := h.1 c
    refine gG_bipush (v := (-2)) dX11_aim_97 (by decide) ?_
    exact gG_exit ⟨rfl, rfl, rfl, dX11_aim_99, _, rfl, h⟩
  · have h := h.2 c
    refine gG_iconst (v := 0) dX11_aim_48 (by decide) ?_
    refine gG_istore dX11_aim_49 (Nat.le_of_ble_eq_true rfl) ?_
    refine gG_locals ?_ h
    exact ⟨rfl, ⟨rfl, ⟨rfl, ⟨rfl, ⟨rfl, trivial⟩⟩⟩⟩⟩
theorem kX11_aim_51 {d n : Nat} {H : gHp} {P : gHp → Int32 → Prop} {a0 : Nat} {i1 : Int32} {i2 : Int32} {i3 : Int32} {i4 : Int32} (h : g_gr H (a0) 11 3 (fun q1 => g_gi H (q1) 1 0 (fun x2 => (x2 ≤ i4 → gG d mX11_aim 0 0 (g_Xj mX11_aim n 0 0 P) 42 n H [some (.ref (a0)), some (.int (i1)), some (.int (i2)), some (.int ((i3 + 1))), none] [] (0) (0)) ∧ (¬ (x2 ≤ i4) → (∃ fs, H (a0) = .inr (11, fs)) ∧ g_cz d mX11_isReadWith n H [.ref (a0), .int (i1), .int (i4), .int (i3)] (fun H3 b4 => (b4 = false → gG d mX11_aim 0 0 (g_Xj mX11_aim n 0 0 P) 51 n H3 [some (.ref (a0)), some (.int (i1)), some (.int (i2)), some (.int (i3)), some (.int ((i4 + 1)))] [] (0) (0)) ∧ (b4 = true → (¬ (i2 = 0) → P H3 (i4)) ∧ (i2 = 0 → P H3 (i3)))))))) : gG d mX11_aim 0 0 (g_Xj mX11_aim n 0 0 P) 51 n H [some (.ref (a0)), some (.int (i1)), some (.int (i2)), some (.int (i3)), some (.int (i4))] [] 0 0 := by
  refine gG_iload dX11_aim_51 rfl ?_
  refine gG_aload_n dX11_aim_53 rfl rfl ?_
  obtain ⟨fs, q1, e1, e2, h⟩ := h
  refine gG_gr dX11_aim_54 fl_X11_35 ⟨fs, q1, e1, e2, ?_⟩
  obtain ⟨fs, x2, e1, e2, h⟩ := h
  refine gG_gi dX11_aim_57 fl_X11_212 ⟨fs, x2, e1, e2, ?_⟩
  refine gG_ic_ge (tgt := 91) dX11_aim_60 (by decide) (fun c => ?_) (fun c => ?_)
  · have h := h.1 c
    refine gG_iinc (v := i3 + 1) dX11_aim_91 rfl rfl (Nat.le_of_ble_eq_true rfl) ?_
    refine gG_goto (tgt := 42) dX11_aim_94 (by decide) ?_
    refine gG_locals ?_ h
    exact ⟨rfl, ⟨rfl, ⟨rfl, ⟨rfl, trivial⟩⟩⟩⟩
  · have h := h.2 c
    refine gG_aload_n dX11_aim_63 rfl rfl ?_
    refine gG_iload_n dX11_aim_64 rfl rfl ?_
    refine gG_iload dX11_aim_65 rfl ?_
    refine gG_iload_n dX11_aim_67 rfl rfl ?_
    obtain ⟨hrc, d2, P2, hdd, hC, h⟩ := h
    refine gG_cvi (As := [.int (i1), .int (i4), .int (i3)]) (st := []) dX11_aim_68 mV_X11_261 hdd hrc rfl rfl (Nat.le_of_ble_eq_true rfl) (Nat.le_refl _) ⟨Nat.le_refl _, Nat.le_refl _⟩ hC (fun H3 x9 hp => ?_)
    obtain ⟨b4, rfl, hp⟩ := hp
    have h := h H3 b4 hp
    refine gG_if_eq (tgt := 85) dX11_aim_71 (by decide) (fun c => ?_) (fun c => ?_)
    · have h := h.1 (g_b_f c)
      refine gG_iinc (v := i4 + 1) dX11_aim_85 rfl rfl (Nat.le_of_ble_eq_true rfl) ?_
      refine gG_goto (tgt := 51) dX11_aim_88 (by decide) ?_
      refine gG_locals ?_ h
      exact ⟨rfl, ⟨rfl, ⟨rfl, ⟨rfl, ⟨rfl, trivial⟩⟩⟩⟩⟩
    · have h := h.2 (g_b_t c)
      refine gG_iload_n dX11_aim_74 rfl rfl ?_
      refine gG_if_ne (tgt := 82) dX11_aim_75 (by decide) (fun c => ?_) (fun c => ?_)
      · have h := h.1 c
        refine gG_iload dX11_aim_82 rfl ?_
        exact gG_exit ⟨rfl, rfl, rfl, dX11_aim_84, _, rfl, h⟩
      · have h := h.2 c
        refine gG_iload_n dX11_aim_78 rfl rfl ?_
        refine gG_goto (tgt := 84) dX11_aim_79 (by decide) ?_
        exact gG_exit ⟨rfl, rfl, rfl, dX11_aim_84, _, rfl, h⟩

theorem kX11_hush_0 {d n : Nat} {H : gHp} {P : gHp → Int32 → Prop} {a0 : Nat} {i1 : Int32} (h : (∃ fs, H (a0) = .inr (11, fs)) ∧ g_cz d mX11_isLetter n H [.ref (a0), .int (i1)] (fun H1 b2 => (b2 = true → g_gr H1 (a0) 11 3 (fun q3 => g_gi H1 (q3) 1 0 (fun x4 => gG d mX11_hush 0 0 (g_Xj mX11_hush n 0 0 P) 29 n H1 [some (.ref (a0)), some (.int (i1)), some (.int ((-1 : Int32))), some (.int ((8 : Int32))), some (.int (((1 : Int32) <<< (x4 &&& 31)))), some (.int ((0 : Int32)))] [] (0) (0)))) ∧ (b2 = false → P H1 ((-1 : Int32))))) : gG d mX11_hush 0 0 (g_Xj mX11_hush n 0 0 P) 0 n H [some (.ref (a0)), some (.int (i1)), none, none, none, none] [] 0 0 := by
  refine gG_aload_n dX11_hush_0 rfl rfl ?_
  refine gG_iload_n dX11_hush_1 rfl rfl ?_
  obtain ⟨hrc, d2, P2, hdd, hC, h⟩ := h
  refine gG_cvi (As := [.int (i1)]) (st := []) dX11_hush_2 mV_X11_145 hdd hrc rfl rfl (Nat.le_of_ble_eq_true rfl) (Nat.le_refl _) ⟨Nat.le_refl _, Nat.le_refl _⟩ hC (fun H1 x9 hp => ?_)
  obtain ⟨b2, rfl, hp⟩ := hp
  have h := h H1 b2 hp
  refine gG_if_ne (tgt := 10) dX11_hush_5 (by decide) (fun c => ?_) (fun c => ?_)
  · have h := h.1 (g_b_t c)
    refine gG_iconst (v := (-1)) dX11_hush_10 (by decide) ?_
    refine gG_istore_n dX11_hush_11 rfl (Nat.le_of_ble_eq_true rfl) ?_
    refine gG_bipush (v := 8) dX11_hush_12 (by decide) ?_
    refine gG_istore_n dX11_hush_14 rfl (Nat.le_of_ble_eq_true rfl) ?_
    refine gG_iconst (v := 1) dX11_hush_15 (by decide) ?_
    refine gG_aload_n dX11_hush_16 rfl rfl ?_
    obtain ⟨fs, q3, e1, e2, h⟩ := h
    refine gG_gr dX11_hush_17 fl_X11_35 ⟨fs, q3, e1, e2, ?_⟩
    obtain ⟨fs, x4, e1, e2, h⟩ := h
    refine gG_gi dX11_hush_20 fl_X11_212 ⟨fs, x4, e1, e2, ?_⟩
    refine gG_ishl dX11_hush_23 ?_
    refine gG_istore dX11_hush_24 (Nat.le_of_ble_eq_true rfl) ?_
    refine gG_iconst (v := 0) dX11_hush_26 (by decide) ?_
    refine gG_istore dX11_hush_27 (Nat.le_of_ble_eq_true rfl) ?_
    refine gG_locals ?_ h
    exact ⟨rfl, ⟨rfl, ⟨rfl, ⟨rfl, ⟨rfl, ⟨rfl, trivial⟩⟩⟩⟩⟩⟩
  · have h := h.2 (g_b_f c)
    refine gG_iconst (v := (-1)) dX11_hush_8 (by decide) ?_
    exact gG_exit ⟨rfl, rfl, rfl, dX11_hush_9, _, rfl, h⟩
theorem kX11_hush_29 {d n : Nat} {H : gHp} {P : gHp → Int32 → Prop} {a0 : Nat} {i1 : Int32} {i2 : Int32} {i3 : Int32} {i4 : Int32} {i5 : Int32} (h : (i4 ≤ i5 → P H (i2)) ∧ (¬ (i4 ≤ i5) → g_ci d mJ6_bitCount_0f7a4 n H [.int (i5)] (fun H1 x2 => (i3 ≤ x2 → gG d mX11_hush 0 0 (g_Xj mX11_hush n 0 0 P) 29 n H1 [some (.ref (a0)), some (.int (i1)), some (.int (i2)), some (.int (i3)), some (.int (i4)), some (.int ((i5 + 1)))] [] (0) (0)) ∧ (¬ (i3 ≤ x2) → (∃ fs, H1 (a0) = .inr (11, fs)) ∧ g_cz d mX11_isReadTurned n H1 [.ref (a0), .int (i1), .int (i5)] (fun H3 b4 => (b4 = false → gG d mX11_hush 0 0 (g_Xj mX11_hush n 0 0 P) 29 n H3 [some (.ref (a0)), some (.int (i1)), some (.int (i2)), some (.int (i3)), some (.int (i4)), some (.int ((i5 + 1)))] [] (0) (0)) ∧ (b4 = true → g_ci d mJ6_bitCount_0f7a4 n H3 [.int (i5)] (fun H5 x6 => gG d mX11_hush 0 0 (g_Xj mX11_hush n 0 0 P) 29 n H5 [some (.ref (a0)), some (.int (i1)), some (.int (i5)), some (.int (x6)), some (.int (i4)), some (.int ((i5 + 1)))] [] (0) (0)))))))) : gG d mX11_hush 0 0 (g_Xj mX11_hush n 0 0 P) 29 n H [some (.ref (a0)), some (.int (i1)), some (.int (i2)), some (.int (i3)), some (.int (i4)), some (.int (i5))] [] 0 0 := by
  refine gG_iload dX11_hush_29 rfl ?_
  refine gG_iload dX11_hush_31 rfl ?_
  refine gG_ic_ge (tgt := 70) dX11_hush_33 (by decide) (fun c => ?_) (fun c => ?_)
  · have h := h.1 c
    refine gG_iload_n dX11_hush_70 rfl rfl ?_
    exact gG_exit ⟨rfl, rfl, rfl, dX11_hush_71, _, rfl, h⟩
  · have h := h.2 c
    refine gG_iload dX11_hush_36 rfl ?_
    obtain ⟨d2, P2, hdd, hC, h⟩ := h
    refine gG_csi (As := [.int (i5)]) (st := []) dX11_hush_38 mS_X11_234 hdd rfl rfl (Nat.le_of_ble_eq_true rfl) (Nat.le_refl _) ⟨Nat.le_refl _, Nat.le_refl _⟩ hC (fun H1 x2 hp => ?_)
    have h := h H1 x2 hp
    refine gG_iload_n dX11_hush_41 rfl rfl ?_
    refine gG_ic_ge (tgt := 64) dX11_hush_42 (by decide) (fun c => ?_) (fun c => ?_)
    · have h := h.1 c
      refine gG_iinc (v := i5 + 1) dX11_hush_64 rfl rfl (Nat.le_of_ble_eq_true rfl) ?_
      refine gG_goto (tgt := 29) dX11_hush_67 (by decide) ?_
      refine gG_locals ?_ h
      exact ⟨rfl, ⟨rfl, ⟨rfl, ⟨rfl, ⟨rfl, ⟨rfl, trivial⟩⟩⟩⟩⟩⟩
    · have h := h.2 c
      refine gG_aload_n dX11_hush_45 rfl rfl ?_
      refine gG_iload_n dX11_hush_46 rfl rfl ?_
      refine gG_iload dX11_hush_47 rfl ?_
      obtain ⟨hrc, d2, P2, hdd, hC, h⟩ := h
      refine gG_cvi (As := [.int (i1), .int (i5)]) (st := []) dX11_hush_49 mV_X11_265 hdd hrc rfl rfl (Nat.le_of_ble_eq_true rfl) (Nat.le_refl _) ⟨Nat.le_refl _, Nat.le_refl _⟩ hC (fun H3 x9 hp => ?_)
      obtain ⟨b4, rfl, hp⟩ := hp
      have h := h H3 b4 hp
      refine gG_if_eq (tgt := 64) dX11_hush_52 (by decide) (fun c => ?_) (fun c => ?_)
      · have h := h.1 (g_b_f c)
        refine gG_iinc (v := i5 + 1) dX11_hush_64 rfl rfl (Nat.le_of_ble_eq_true rfl) ?_
        refine gG_goto (tgt := 29) dX11_hush_67 (by decide) ?_
        refine gG_locals ?_ h
        exact ⟨rfl, ⟨rfl, ⟨rfl, ⟨rfl, ⟨rfl, ⟨rfl, trivial⟩⟩⟩⟩⟩⟩
      · have h := h.2 (g_b_t c)
        refine gG_iload dX11_hush_55 rfl ?_
        refine gG_istore_n dX11_hush_57 rfl (Nat.le_of_ble_eq_true rfl) ?_
        refine gG_iload dX11_hush_58 rfl ?_
        obtain ⟨d2, P2, hdd, hC, h⟩ := h
        refine gG_csi (As := [.int (i5)]) (st := []) dX11_hush_60 mS_X11_234 hdd rfl rfl (Nat.le_of_ble_eq_true rfl) (Nat.le_refl _) ⟨Nat.le_refl _, Nat.le_refl _⟩ hC (fun H5 x6 hp => ?_)
        have h := h H5 x6 hp
        refine gG_istore_n dX11_hush_63 rfl (Nat.le_of_ble_eq_true rfl) ?_
        refine gG_iinc (v := i5 + 1) dX11_hush_64 rfl rfl (Nat.le_of_ble_eq_true rfl) ?_
        refine gG_goto (tgt := 29) dX11_hush_67 (by decide) ?_
        refine gG_locals ?_ h
        exact ⟨rfl, ⟨rfl, ⟨rfl, ⟨rfl, ⟨rfl, ⟨rfl, trivial⟩⟩⟩⟩⟩⟩

theorem kX11_see_0 {d n : Nat} {H : gHp} {P : gHp → Bool → Prop} {a0 : Nat} {i1 : Int32} {i2 : Int32} (h : (∃ fs, H (a0) = .inr (11, fs)) ∧ g_cz d mX11_isMouth n H [.ref (a0), .int (i1)] (fun H1 b2 => (b2 = false → P H1 false) ∧ (b2 = true → g_gr H1 (a0) 11 9 (fun q3 => (∃ fs, H1 (q3) = .inr (7, fs)) ∧ g_cz d mX7_add n H1 [.ref (q3), .int (i1), .int (i2)] (fun H4 b5 => (b5 = false → P H4 false) ∧ (b5 = true → P H4 true)))))) : gG d mX11_see 0 0 (g_Xz mX11_see n 0 0 P) 0 n H [some (.ref (a0)), some (.int (i1)), some (.int (i2))] [] 0 0 := by
  refine gG_aload_n dX11_see_0 rfl rfl ?_
  refine gG_iload_n dX11_see_1 rfl rfl ?_
  obtain ⟨hrc, d2, P2, hdd, hC, h⟩ := h
  refine gG_cvi (As := [.int (i1)]) (st := []) dX11_see_2 mV_X11_117 hdd hrc rfl rfl (Nat.le_of_ble_eq_true rfl) (Nat.le_refl _) ⟨Nat.le_refl _, Nat.le_refl _⟩ hC (fun H1 x9 hp => ?_)
  obtain ⟨b2, rfl, hp⟩ := hp
  have h := h H1 b2 hp
  refine gG_if_eq (tgt := 24) dX11_see_5 (by decide) (fun c => ?_) (fun c => ?_)
  · have h := h.1 (g_b_f c)
    refine gG_iconst (v := 0) dX11_see_24 (by decide) ?_
    exact gG_exit ⟨rfl, rfl, rfl, dX11_see_25, false, rfl, h⟩
  · have h := h.2 (g_b_t c)
    refine gG_aload_n dX11_see_8 rfl rfl ?_
    obtain ⟨fs, q3, e1, e2, h⟩ := h
    refine gG_gr dX11_see_9 fl_X11_65 ⟨fs, q3, e1, e2, ?_⟩
    refine gG_iload_n dX11_see_12 rfl rfl ?_
    refine gG_iload_n dX11_see_13 rfl rfl ?_
    obtain ⟨hrc, d2, P2, hdd, hC, h⟩ := h
    refine gG_cvi (As := [.int (i1), .int (i2)]) (st := []) dX11_see_14 mV_X11_269 hdd hrc rfl rfl (Nat.le_of_ble_eq_true rfl) (Nat.le_refl _) ⟨Nat.le_refl _, Nat.le_refl _⟩ hC (fun H4 x9 hp => ?_)
    obtain ⟨b5, rfl, hp⟩ := hp
    have h := h H4 b5 hp
    refine gG_if_eq (tgt := 24) dX11_see_17 (by decide) (fun c => ?_) (fun c => ?_)
    · have h := h.1 (g_b_f c)
      refine gG_iconst (v := 0) dX11_see_24 (by decide) ?_
      exact gG_exit ⟨rfl, rfl, rfl, dX11_see_25, false, rfl, h⟩
    · have h := h.2 (g_b_t c)
      refine gG_iconst (v := 1) dX11_see_20 (by decide) ?_
      refine gG_goto (tgt := 25) dX11_see_21 (by decide) ?_
      exact gG_exit ⟨rfl, rfl, rfl, dX11_see_25, true, rfl, h⟩

theorem kX11_rains_0 {d n : Nat} {H : gHp} {P : gHp → Int32 → Prop} {a0 : Nat} (h : gG d mX11_rains 0 0 (g_Xj mX11_rains n 0 0 P) 4 n H [some (.ref (a0)), some (.int ((0 : Int32))), some (.int ((0 : Int32)))] [] (0) (0)) : gG d mX11_rains 0 0 (g_Xj mX11_rains n 0 0 P) 0 n H [some (.ref (a0)), none, none] [] 0 0 := by
  refine gG_iconst (v := 0) dX11_rains_0 (by decide) ?_
  refine gG_istore_n dX11_rains_1 rfl (Nat.le_of_ble_eq_true rfl) ?_
  refine gG_iconst (v := 0) dX11_rains_2 (by decide) ?_
  refine gG_istore_n dX11_rains_3 rfl (Nat.le_of_ble_eq_true rfl) ?_
  refine gG_locals ?_ h
  exact ⟨rfl, ⟨rfl, ⟨rfl, trivial⟩⟩⟩
theorem kX11_rains_4 {d n : Nat} {H : gHp} {P : gHp → Int32 → Prop} {a0 : Nat} {i1 : Int32} {i2 : Int32} (h : ((10 : Int32) ≤ i2 → P H (i1)) ∧ (¬ ((10 : Int32) ≤ i2) → g_gr H (a0) 11 9 (fun q1 => (∃ fs, H (a0) = .inr (11, fs)) ∧ g_ci d mX11_soundingIn n H [.ref (a0), .int (i2)] (fun H2 x3 => (∃ fs, H2 (q1) = .inr (7, fs)) ∧ g_cz d mX7_agreesWith n H2 [.ref (q1), .int (x3)] (fun H4 b5 => (b5 = false → gG d mX11_rains 0 0 (g_Xj mX11_rains n 0 0 P) 4 n H4 [some (.ref (a0)), some (.int (i1)), some (.int ((i2 + 1)))] [] (0) (0)) ∧ (b5 = true → gG d mX11_rains 0 0 (g_Xj mX11_rains n 0 0 P) 4 n H4 [some (.ref (a0)), some (.int ((i1 ||| ((1 : Int32) <<< (i2 &&& 31))))), some (.int ((i2 + 1)))] [] (0) (0))))))) : gG d mX11_rains 0 0 (g_Xj mX11_rains n 0 0 P) 4 n H [some (.ref (a0)), some (.int (i1)), some (.int (i2))] [] 0 0 := by
  refine gG_iload_n dX11_rains_4 rfl rfl ?_
  refine gG_bipush (v := 10) dX11_rains_5 (by decide) ?_
  refine gG_ic_ge (tgt := 37) dX11_rains_7 (by decide) (fun c => ?_) (fun c => ?_)
  · have h := h.1 c
    refine gG_iload_n dX11_rains_37 rfl rfl ?_
    exact gG_exit ⟨rfl, rfl, rfl, dX11_rains_38, _, rfl, h⟩
  · have h := h.2 c
    refine gG_aload_n dX11_rains_10 rfl rfl ?_
    obtain ⟨fs, q1, e1, e2, h⟩ := h
    refine gG_gr dX11_rains_11 fl_X11_65 ⟨fs, q1, e1, e2, ?_⟩
    refine gG_aload_n dX11_rains_14 rfl rfl ?_
    refine gG_iload_n dX11_rains_15 rfl rfl ?_
    obtain ⟨hrc, d2, P2, hdd, hC, h⟩ := h
    refine gG_cvi (As := [.int (i2)]) (st := [.ref (q1)]) dX11_rains_16 mV_X11_273 hdd hrc rfl rfl (Nat.le_of_ble_eq_true rfl) (Nat.le_refl _) ⟨Nat.le_refl _, Nat.le_refl _⟩ hC (fun H2 x3 hp => ?_)
    have h := h H2 x3 hp
    obtain ⟨hrc, d2, P2, hdd, hC, h⟩ := h
    refine gG_cvi (As := [.int (x3)]) (st := []) dX11_rains_19 mV_X11_276 hdd hrc rfl rfl (Nat.le_of_ble_eq_true rfl) (Nat.le_refl _) ⟨Nat.le_refl _, Nat.le_refl _⟩ hC (fun H4 x9 hp => ?_)
    obtain ⟨b5, rfl, hp⟩ := hp
    have h := h H4 b5 hp
    refine gG_if_eq (tgt := 31) dX11_rains_22 (by decide) (fun c => ?_) (fun c => ?_)
    · have h := h.1 (g_b_f c)
      refine gG_iinc (v := i2 + 1) dX11_rains_31 rfl rfl (Nat.le_of_ble_eq_true rfl) ?_
      refine gG_goto (tgt := 4) dX11_rains_34 (by decide) ?_
      refine gG_locals ?_ h
      exact ⟨rfl, ⟨rfl, ⟨rfl, trivial⟩⟩⟩
    · have h := h.2 (g_b_t c)
      refine gG_iload_n dX11_rains_25 rfl rfl ?_
      refine gG_iconst (v := 1) dX11_rains_26 (by decide) ?_
      refine gG_iload_n dX11_rains_27 rfl rfl ?_
      refine gG_ishl dX11_rains_28 ?_
      refine gG_ior dX11_rains_29 ?_
      refine gG_istore_n dX11_rains_30 rfl (Nat.le_of_ble_eq_true rfl) ?_
      refine gG_iinc (v := i2 + 1) dX11_rains_31 rfl rfl (Nat.le_of_ble_eq_true rfl) ?_
      refine gG_goto (tgt := 4) dX11_rains_34 (by decide) ?_
      refine gG_locals ?_ h
      exact ⟨rfl, ⟨rfl, ⟨rfl, trivial⟩⟩⟩

theorem kX11_look_0 {d n : Nat} {H : gHp} {P : gHp → Int32 → Prop} {a0 : Nat} (h : (∃ fs, H (a0) = .inr (11, fs)) ∧ g_cvd d mX11_emptyRow n H [.ref (a0)] (fun H1 => gG d mX11_look 0 0 (g_Xj mX11_look n 0 0 P) 8 n H1 [some (.ref (a0)), some (.int ((0 : Int32))), some (.int ((0 : Int32))), none, none, none] [] (0) (0))) : gG d mX11_look 0 0 (g_Xj mX11_look n 0 0 P) 0 n H [some (.ref (a0)), none, none, none, none, none] [] 0 0 := by
  refine gG_aload_n dX11_look_0 rfl rfl ?_
  obtain ⟨hrc, d2, P2, hdd, hC, h⟩ := h
  refine gG_cvv (As := []) (st := []) dX11_look_1 mV_X11_224 hdd hrc rfl rfl (Nat.le_of_ble_eq_true rfl) (Nat.le_refl _) ⟨Nat.le_refl _, Nat.le_refl _⟩ hC (fun H1 hp => ?_)
  have h := h H1 hp
  refine gG_iconst (v := 0) dX11_look_4 (by decide) ?_
  refine gG_istore_n dX11_look_5 rfl (Nat.le_of_ble_eq_true rfl) ?_
  refine gG_iconst (v := 0) dX11_look_6 (by decide) ?_
  refine gG_istore_n dX11_look_7 rfl (Nat.le_of_ble_eq_true rfl) ?_
  refine gG_locals ?_ h
  exact ⟨rfl, ⟨rfl, ⟨rfl, trivial⟩⟩⟩
theorem kX11_look_8 {d n : Nat} {H : gHp} {P : gHp → Int32 → Prop} {a0 : Nat} {i1 : Int32} {i2 : Int32} (h : ((10 : Int32) ≤ i2 → gG d mX11_look 0 0 (g_Xj mX11_look n 0 0 P) 52 n H [some (.ref (a0)), some (.int (i1)), some (.int ((-1 : Int32))), some (.int (i1)), some (.int ((0 : Int32))), none] [] (0) (0)) ∧ (¬ ((10 : Int32) ≤ i2) → (∃ fs, H (a0) = .inr (11, fs)) ∧ g_ci d mX11_soundingIn n H [.ref (a0), .int (i2)] (fun H1 x2 => g_gr H1 (a0) 11 9 (fun q3 => (∃ fs, H1 (q3) = .inr (7, fs)) ∧ g_cz d mX7_agreesWith n H1 [.ref (q3), .int (x2)] (fun H4 b5 => (b5 = false → gG d mX11_look 0 0 (g_Xj mX11_look n 0 0 P) 8 n H4 [some (.ref (a0)), some (.int (i1)), some (.int ((i2 + 1))), none, none, none] [] (0) (0)) ∧ (b5 = true → (∃ fs, H4 (a0) = .inr (11, fs)) ∧ g_cvd d mX11_addBitsToRow n H4 [.ref (a0), .int (x2)] (fun H6 => gG d mX11_look 0 0 (g_Xj mX11_look n 0 0 P) 8 n H6 [some (.ref (a0)), some (.int ((i1 + 1))), some (.int ((i2 + 1))), none, none, none] [] (0) (0)))))))) : gG d mX11_look 0 0 (g_Xj mX11_look n 0 0 P) 8 n H [some (.ref (a0)), some (.int (i1)), some (.int (i2)), none, none, none] [] 0 0 := by
  refine gG_iload_n dX11_look_8 rfl rfl ?_
  refine gG_bipush (v := 10) dX11_look_9 (by decide) ?_
  refine gG_ic_ge (tgt := 45) dX11_look_11 (by decide) (fun c => ?_) (fun c => ?_)
  · have h := h.1 c
    refine gG_iconst (v := (-1)) dX11_look_45 (by decide) ?_
    refine gG_istore_n dX11_look_46 rfl (Nat.le_of_ble_eq_true rfl) ?_
    refine gG_iload_n dX11_look_47 rfl rfl ?_
    refine gG_istore_n dX11_look_48 rfl (Nat.le_of_ble_eq_true rfl) ?_
    refine gG_iconst (v := 0) dX11_look_49 (by decide) ?_
    refine gG_istore dX11_look_50 (Nat.le_of_ble_eq_true rfl) ?_
    refine gG_locals ?_ h
    exact ⟨rfl, ⟨rfl, ⟨rfl, ⟨rfl, ⟨rfl, trivial⟩⟩⟩⟩⟩
  · have h := h.2 c
    refine gG_aload_n dX11_look_14 rfl rfl ?_
    refine gG_iload_n dX11_look_15 rfl rfl ?_
    obtain ⟨hrc, d2, P2, hdd, hC, h⟩ := h
    refine gG_cvi (As := [.int (i2)]) (st := []) dX11_look_16 mV_X11_273 hdd hrc rfl rfl (Nat.le_of_ble_eq_true rfl) (Nat.le_refl _) ⟨Nat.le_refl _, Nat.le_refl _⟩ hC (fun H1 x2 hp => ?_)
    have h := h H1 x2 hp
    refine gG_istore_n dX11_look_19 rfl (Nat.le_of_ble_eq_true rfl) ?_
    refine gG_aload_n dX11_look_20 rfl rfl ?_
    obtain ⟨fs, q3, e1, e2, h⟩ := h
    refine gG_gr dX11_look_21 fl_X11_65 ⟨fs, q3, e1, e2, ?_⟩
    refine gG_iload_n dX11_look_24 rfl rfl ?_
    obtain ⟨hrc, d2, P2, hdd, hC, h⟩ := h
    refine gG_cvi (As := [.int (x2)]) (st := []) dX11_look_25 mV_X11_276 hdd hrc rfl rfl (Nat.le_of_ble_eq_true rfl) (Nat.le_refl _) ⟨Nat.le_refl _, Nat.le_refl _⟩ hC (fun H4 x9 hp => ?_)
    obtain ⟨b5, rfl, hp⟩ := hp
    have h := h H4 b5 hp
    refine gG_if_eq (tgt := 39) dX11_look_28 (by decide) (fun c => ?_) (fun c => ?_)
    · have h := h.1 (g_b_f c)
      refine gG_iinc (v := i2 + 1) dX11_look_39 rfl rfl (Nat.le_of_ble_eq_true rfl) ?_
      refine gG_goto (tgt := 8) dX11_look_42 (by decide) ?_
      refine gG_locals ?_ h
      exact ⟨rfl, ⟨rfl, ⟨rfl, trivial⟩⟩⟩
    · have h := h.2 (g_b_t c)
      refine gG_iinc (v := i1 + 1) dX11_look_31 rfl rfl (Nat.le_of_ble_eq_true rfl) ?_
      refine gG_aload_n dX11_look_34 rfl rfl ?_
      refine gG_iload_n dX11_look_35 rfl rfl ?_
      obtain ⟨hrc, d2, P2, hdd, hC, h⟩ := h
      refine gG_cvv (As := [.int (x2)]) (st := []) dX11_look_36 mV_X11_279 hdd hrc rfl rfl (Nat.le_of_ble_eq_true rfl) (Nat.le_refl _) ⟨Nat.le_refl _, Nat.le_refl _⟩ hC (fun H6 hp => ?_)
      have h := h H6 hp
      refine gG_iinc (v := i2 + 1) dX11_look_39 rfl rfl (Nat.le_of_ble_eq_true rfl) ?_
      refine gG_goto (tgt := 8) dX11_look_42 (by decide) ?_
      refine gG_locals ?_ h
      exact ⟨rfl, ⟨rfl, ⟨rfl, trivial⟩⟩⟩
theorem kX11_look_52 {d n : Nat} {H : gHp} {P : gHp → Int32 → Prop} {a0 : Nat} {i1 : Int32} {i2 : Int32} {i3 : Int32} {i4 : Int32} (hd1 : 1 ≤ d) (h : g_gr H (a0) 11 3 (fun q1 => g_gi H (q1) 1 0 (fun x2 => (x2 ≤ i4 → P H (i2)) ∧ (¬ (x2 ≤ i4) → g_gr H (a0) 11 16 (fun q3 => g_al 0 H (q3) (i4) (fun x4 => g_gr H (a0) 11 16 (fun q5 => g_al 0 H (q5) (i4) (fun x6 => (i3 ≤ (if x4 < (i1 - x6) then (i1 - x6) else x4) → gG d mX11_look 0 0 (g_Xj mX11_look n 0 0 P) 52 n H [some (.ref (a0)), some (.int (i1)), some (.int (i2)), some (.int (i3)), some (.int ((i4 + 1))), none] [] (0) (0)) ∧ (¬ (i3 ≤ (if x4 < (i1 - x6) then (i1 - x6) else x4)) → gG d mX11_look 0 0 (g_Xj mX11_look n 0 0 P) 52 n H [some (.ref (a0)), some (.int (i1)), some (.int (i4)), some (.int ((if x4 < (i1 - x6) then (i1 - x6) else x4))), some (.int ((i4 + 1))), none] [] (0) (0)))))))))) : gG d mX11_look 0 0 (g_Xj mX11_look n 0 0 P) 52 n H [some (.ref (a0)), some (.int (i1)), some (.int (i2)), some (.int (i3)), some (.int (i4)), none] [] 0 0 := by
  refine gG_iload dX11_look_52 rfl ?_
  refine gG_aload_n dX11_look_54 rfl rfl ?_
  obtain ⟨fs, q1, e1, e2, h⟩ := h
  refine gG_gr dX11_look_55 fl_X11_35 ⟨fs, q1, e1, e2, ?_⟩
  obtain ⟨fs, x2, e1, e2, h⟩ := h
  refine gG_gi dX11_look_58 fl_X11_212 ⟨fs, x2, e1, e2, ?_⟩
  refine gG_ic_ge (tgt := 103) dX11_look_61 (by decide) (fun c => ?_) (fun c => ?_)
  · have h := h.1 c
    refine gG_iload_n dX11_look_103 rfl rfl ?_
    exact gG_exit ⟨rfl, rfl, rfl, dX11_look_104, _, rfl, h⟩
  · have h := h.2 c
    refine gG_aload_n dX11_look_64 rfl rfl ?_
    obtain ⟨fs, q3, e1, e2, h⟩ := h
    refine gG_gr dX11_look_65 fl_X11_90 ⟨fs, q3, e1, e2, ?_⟩
    refine gG_iload dX11_look_68 rfl ?_
    obtain ⟨m0, f0, e1, e2, h⟩ := h
    refine gG_iald dX11_look_70 ⟨m0, f0, e1, e2, ?_⟩
    obtain ⟨x4, eH⟩ : ∃ z, z = f0 (Int32.toNatClampNeg (i4)) := ⟨_, rfl⟩
    rw [← eH] at h ⊢
    refine gG_iload_n dX11_look_71 rfl rfl ?_
    refine gG_aload_n dX11_look_72 rfl rfl ?_
    obtain ⟨fs, q5, e1, e2, h⟩ := h
    refine gG_gr dX11_look_73 fl_X11_90 ⟨fs, q5, e1, e2, ?_⟩
    refine gG_iload dX11_look_76 rfl ?_
    obtain ⟨m0, f0, e1, e2, h⟩ := h
    refine gG_iald dX11_look_78 ⟨m0, f0, e1, e2, ?_⟩
    obtain ⟨x6, eH⟩ : ∃ z, z = f0 (Int32.toNatClampNeg (i4)) := ⟨_, rfl⟩
    rw [← eH] at h ⊢
    refine gG_isub dX11_look_79 ?_
    refine gG_max dX11_look_80 lk_X11_242 st_max ini_Math co_max hd1 (Nat.le_of_ble_eq_true rfl) (Nat.le_refl _) (Nat.le_refl _) ?_
    refine gG_istore dX11_look_83 (Nat.le_of_ble_eq_true rfl) ?_
    refine gG_iload dX11_look_85 rfl ?_
    refine gG_iload_n dX11_look_87 rfl rfl ?_
    refine gG_ic_ge (tgt := 97) dX11_look_88 (by decide) (fun c => ?_) (fun c => ?_)
    · have h := h.1 c
      refine gG_iinc (v := i4 + 1) dX11_look_97 rfl rfl (Nat.le_of_ble_eq_true rfl) ?_
      refine gG_goto (tgt := 52) dX11_look_100 (by decide) ?_
      refine gG_locals ?_ h
      exact ⟨rfl, ⟨rfl, ⟨rfl, ⟨rfl, ⟨rfl, trivial⟩⟩⟩⟩⟩
    · have h := h.2 c
      refine gG_iload dX11_look_91 rfl ?_
      refine gG_istore_n dX11_look_93 rfl (Nat.le_of_ble_eq_true rfl) ?_
      refine gG_iload dX11_look_94 rfl ?_
      refine gG_istore_n dX11_look_96 rfl (Nat.le_of_ble_eq_true rfl) ?_
      refine gG_iinc (v := i4 + 1) dX11_look_97 rfl rfl (Nat.le_of_ble_eq_true rfl) ?_
      refine gG_goto (tgt := 52) dX11_look_100 (by decide) ?_
      refine gG_locals ?_ h
      exact ⟨rfl, ⟨rfl, ⟨rfl, ⟨rfl, ⟨rfl, trivial⟩⟩⟩⟩⟩

theorem kX11_chance_0 {d n : Nat} {H : gHp} {P : gHp → Int32 → Prop} {a0 : Nat} {i1 : Int32} {i2 : Int32} {i3 : Int32} (h : (i2 < (1 : Int32) → gG d mX11_chance 0 0 (g_Xj mX11_chance n 0 0 P) 18 n H [some (.ref (a0)), some (.int (i1)), some (.int (i2)), some (.int (i3)), some (.int ((0 : Int32))), none, none, none, none] [] (0) (0)) ∧ (¬ (i2 < (1 : Int32)) → ((6 : Int32) < i2 → gG d mX11_chance 0 0 (g_Xj mX11_chance n 0 0 P) 18 n H [some (.ref (a0)), some (.int (i1)), some (.int (i2)), some (.int (i3)), some (.int ((0 : Int32))), none, none, none, none] [] (0) (0)) ∧ (¬ ((6 : Int32) < i2) → gG d mX11_chance 0 0 (g_Xj mX11_chance n 0 0 P) 18 n H [some (.ref (a0)), some (.int (i1)), some (.int (i2)), some (.int (i3)), some (.int ((1 : Int32))), none, none, none, none] [] (0) (0)))) : gG d mX11_chance 0 0 (g_Xj mX11_chance n 0 0 P) 0 n H [some (.ref (a0)), some (.int (i1)), some (.int (i2)), some (.int (i3)), none, none, none, none, none] [] 0 0 := by
  refine gG_iload_n dX11_chance_0 rfl rfl ?_
  refine gG_iconst (v := 1) dX11_chance_1 (by decide) ?_
  refine gG_ic_lt (tgt := 15) dX11_chance_2 (by decide) (fun c => ?_) (fun c => ?_)
  · have h := h.1 c
    refine gG_iconst (v := 0) dX11_chance_15 (by decide) ?_
    refine gG_istore dX11_chance_16 (Nat.le_of_ble_eq_true rfl) ?_
    refine gG_locals ?_ h
    exact ⟨rfl, ⟨rfl, ⟨rfl, ⟨rfl, ⟨rfl, trivial⟩⟩⟩⟩⟩
  · have h := h.2 c
    refine gG_iload_n dX11_chance_5 rfl rfl ?_
    refine gG_bipush (v := 6) dX11_chance_6 (by decide) ?_
    refine gG_ic_gt (tgt := 15) dX11_chance_8 (by decide) (fun c => ?_) (fun c => ?_)
    · have h := h.1 c
      refine gG_iconst (v := 0) dX11_chance_15 (by decide) ?_
      refine gG_istore dX11_chance_16 (Nat.le_of_ble_eq_true rfl) ?_
      refine gG_locals ?_ h
      exact ⟨rfl, ⟨rfl, ⟨rfl, ⟨rfl, ⟨rfl, trivial⟩⟩⟩⟩⟩
    · have h := h.2 c
      refine gG_iconst (v := 1) dX11_chance_11 (by decide) ?_
      refine gG_goto (tgt := 16) dX11_chance_12 (by decide) ?_
      refine gG_istore dX11_chance_16 (Nat.le_of_ble_eq_true rfl) ?_
      refine gG_locals ?_ h
      exact ⟨rfl, ⟨rfl, ⟨rfl, ⟨rfl, ⟨rfl, trivial⟩⟩⟩⟩⟩
theorem kX11_chance_18 {d n : Nat} {H : gHp} {P : gHp → Int32 → Prop} {a0 : Nat} {i1 : Int32} {i2 : Int32} {i3 : Int32} {i4 : Int32} (h : (∃ fs, H (a0) = .inr (11, fs)) ∧ g_cz d mX11_isLetter n H [.ref (a0), .int (i1)] (fun H1 b2 => (b2 = false → P H1 ((-1 : Int32))) ∧ (b2 = true → (i4 = 0 → P H1 ((-1 : Int32))) ∧ (¬ (i4 = 0) → (i3 < 0 → P H1 ((-1 : Int32))) ∧ (¬ (i3 < 0) → (i3 ≤ (10 : Int32) → gG d mX11_chance 0 0 (g_Xj mX11_chance n 0 0 P) 54 n H1 [some (.ref (a0)), some (.int (i1)), some (.int (i2)), some (.int (i3)), none, some (.int ((0 : Int32))), some (.int (((1 : Int32) <<< (i2 &&& 31)))), some (.int ((0 : Int32))), none] [] (0) (0)) ∧ (¬ (i3 ≤ (10 : Int32)) → P H1 ((-1 : Int32)))))))) : gG d mX11_chance 0 0 (g_Xj mX11_chance n 0 0 P) 18 n H [some (.ref (a0)), some (.int (i1)), some (.int (i2)), some (.int (i3)), some (.int (i4)), none, none, none, none] [] 0 0 := by
  refine gG_aload_n dX11_chance_18 rfl rfl ?_
  refine gG_iload_n dX11_chance_19 rfl rfl ?_
  obtain ⟨hrc, d2, P2, hdd, hC, h⟩ := h
  refine gG_cvi (As := [.int (i1)]) (st := []) dX11_chance_20 mV_X11_145 hdd hrc rfl rfl (Nat.le_of_ble_eq_true rfl) (Nat.le_refl _) ⟨Nat.le_refl _, Nat.le_refl _⟩ hC (fun H1 x9 hp => ?_)
  obtain ⟨b2, rfl, hp⟩ := hp
  have h := h H1 b2 hp
  refine gG_if_eq (tgt := 41) dX11_chance_23 (by decide) (fun c => ?_) (fun c => ?_)
  · have h := h.1 (g_b_f c)
    refine gG_iconst (v := (-1)) dX11_chance_41 (by decide) ?_
    exact gG_exit ⟨rfl, rfl, rfl, dX11_chance_42, _, rfl, h⟩
  · have h := h.2 (g_b_t c)
    refine gG_iload dX11_chance_26 rfl ?_
    refine gG_if_eq (tgt := 41) dX11_chance_28 (by decide) (fun c => ?_) (fun c => ?_)
    · have h := h.1 c
      refine gG_iconst (v := (-1)) dX11_chance_41 (by decide) ?_
      exact gG_exit ⟨rfl, rfl, rfl, dX11_chance_42, _, rfl, h⟩
    · have h := h.2 c
      refine gG_iload_n dX11_chance_31 rfl rfl ?_
      refine gG_if_lt (tgt := 41) dX11_chance_32 (by decide) (fun c => ?_) (fun c => ?_)
      · have h := h.1 c
        refine gG_iconst (v := (-1)) dX11_chance_41 (by decide) ?_
        exact gG_exit ⟨rfl, rfl, rfl, dX11_chance_42, _, rfl, h⟩
      · have h := h.2 c
        refine gG_iload_n dX11_chance_35 rfl rfl ?_
        refine gG_bipush (v := 10) dX11_chance_36 (by decide) ?_
        refine gG_ic_le (tgt := 43) dX11_chance_38 (by decide) (fun c => ?_) (fun c => ?_)
        · have h := h.1 c
          refine gG_iconst (v := 0) dX11_chance_43 (by decide) ?_
          refine gG_istore dX11_chance_44 (Nat.le_of_ble_eq_true rfl) ?_
          refine gG_iconst (v := 1) dX11_chance_46 (by decide) ?_
          refine gG_iload_n dX11_chance_47 rfl rfl ?_
          refine gG_ishl dX11_chance_48 ?_
          refine gG_istore dX11_chance_49 (Nat.le_of_ble_eq_true rfl) ?_
          refine gG_iconst (v := 0) dX11_chance_51 (by decide) ?_
          refine gG_istore dX11_chance_52 (Nat.le_of_ble_eq_true rfl) ?_
          refine gG_locals ?_ h
          exact ⟨rfl, ⟨rfl, ⟨rfl, ⟨rfl, ⟨rfl, ⟨rfl, ⟨rfl, trivial⟩⟩⟩⟩⟩⟩⟩
        · have h := h.2 c
          refine gG_iconst (v := (-1)) dX11_chance_41 (by decide) ?_
          exact gG_exit ⟨rfl, rfl, rfl, dX11_chance_42, _, rfl, h⟩
theorem kX11_chance_54 {d n : Nat} {H : gHp} {P : gHp → Int32 → Prop} {a0 : Nat} {i1 : Int32} {i2 : Int32} {i3 : Int32} {i5 : Int32} {i6 : Int32} {i7 : Int32} (h : (i6 ≤ i7 → gG d mX11_chance 0 0 (g_Xj mX11_chance n 0 0 P) 102 n H [none, none, none, none, none, some (.int (i5)), none, some (.int (i2)), none] [] (0) (0)) ∧ (¬ (i6 ≤ i7) → g_ci d mX11_weightOf n H [.int (i7), .int (i2), .int (i3)] (fun H1 x2 => (x2 ≤ 0 → gG d mX11_chance 0 0 (g_Xj mX11_chance n 0 0 P) 54 n H1 [some (.ref (a0)), some (.int (i1)), some (.int (i2)), some (.int (i3)), none, some (.int (i5)), some (.int (i6)), some (.int ((i7 + 1))), none] [] (0) (0)) ∧ (¬ (x2 ≤ 0) → (∃ fs, H1 (a0) = .inr (11, fs)) ∧ g_cz d mX11_isReadInOddRain n H1 [.ref (a0), .int (i1), .int (i7), .int (i2)] (fun H3 b4 => (b4 = false → gG d mX11_chance 0 0 (g_Xj mX11_chance n 0 0 P) 54 n H3 [some (.ref (a0)), some (.int (i1)), some (.int (i2)), some (.int (i3)), none, some (.int (i5)), some (.int (i6)), some (.int ((i7 + 1))), none] [] (0) (0)) ∧ (b4 = true → gG d mX11_chance 0 0 (g_Xj mX11_chance n 0 0 P) 54 n H3 [some (.ref (a0)), some (.int (i1)), some (.int (i2)), some (.int (i3)), none, some (.int ((i5 + x2))), some (.int (i6)), some (.int ((i7 + 1))), none] [] (0) (0))))))) : gG d mX11_chance 0 0 (g_Xj mX11_chance n 0 0 P) 54 n H [some (.ref (a0)), some (.int (i1)), some (.int (i2)), some (.int (i3)), none, some (.int (i5)), some (.int (i6)), some (.int (i7)), none] [] 0 0 := by
  refine gG_iload dX11_chance_54 rfl ?_
  refine gG_iload dX11_chance_56 rfl ?_
  refine gG_ic_ge (tgt := 99) dX11_chance_58 (by decide) (fun c => ?_) (fun c => ?_)
  · have h := h.1 c
    refine gG_iload_n dX11_chance_99 rfl rfl ?_
    refine gG_istore dX11_chance_100 (Nat.le_of_ble_eq_true rfl) ?_
    refine gG_locals ?_ h
    exact ⟨rfl, ⟨rfl, trivial⟩⟩
  · have h := h.2 c
    refine gG_iload dX11_chance_61 rfl ?_
    refine gG_iload_n dX11_chance_63 rfl rfl ?_
    refine gG_iload_n dX11_chance_64 rfl rfl ?_
    obtain ⟨d2, P2, hdd, hC, h⟩ := h
    refine gG_csi (As := [.int (i7), .int (i2), .int (i3)]) (st := []) dX11_chance_65 mS_X11_283 hdd rfl rfl (Nat.le_of_ble_eq_true rfl) (Nat.le_refl _) ⟨Nat.le_refl _, Nat.le_refl _⟩ hC (fun H1 x2 hp => ?_)
    have h := h H1 x2 hp
    refine gG_istore dX11_chance_68 (Nat.le_of_ble_eq_true rfl) ?_
    refine gG_iload dX11_chance_70 rfl ?_
    refine gG_if_le (tgt := 93) dX11_chance_72 (by decide) (fun c => ?_) (fun c => ?_)
    · have h := h.1 c
      refine gG_iinc (v := i7 + 1) dX11_chance_93 rfl rfl (Nat.le_of_ble_eq_true rfl) ?_
      refine gG_goto (tgt := 54) dX11_chance_96 (by decide) ?_
      refine gG_locals ?_ h
      exact ⟨rfl, ⟨rfl, ⟨rfl, ⟨rfl, ⟨rfl, ⟨rfl, ⟨rfl, trivial⟩⟩⟩⟩⟩⟩⟩
    · have h := h.2 c
      refine gG_aload_n dX11_chance_75 rfl rfl ?_
      refine gG_iload_n dX11_chance_76 rfl rfl ?_
      refine gG_iload dX11_chance_77 rfl ?_
      refine gG_iload_n dX11_chance_79 rfl rfl ?_
      obtain ⟨hrc, d2, P2, hdd, hC, h⟩ := h
      refine gG_cvi (As := [.int (i1), .int (i7), .int (i2)]) (st := []) dX11_chance_80 mV_X11_287 hdd hrc rfl rfl (Nat.le_of_ble_eq_true rfl) (Nat.le_refl _) ⟨Nat.le_refl _, Nat.le_refl _⟩ hC (fun H3 x9 hp => ?_)
      obtain ⟨b4, rfl, hp⟩ := hp
      have h := h H3 b4 hp
      refine gG_if_eq (tgt := 93) dX11_chance_83 (by decide) (fun c => ?_) (fun c => ?_)
      · have h := h.1 (g_b_f c)
        refine gG_iinc (v := i7 + 1) dX11_chance_93 rfl rfl (Nat.le_of_ble_eq_true rfl) ?_
        refine gG_goto (tgt := 54) dX11_chance_96 (by decide) ?_
        refine gG_locals ?_ h
        exact ⟨rfl, ⟨rfl, ⟨rfl, ⟨rfl, ⟨rfl, ⟨rfl, ⟨rfl, trivial⟩⟩⟩⟩⟩⟩⟩
      · have h := h.2 (g_b_t c)
        refine gG_iload dX11_chance_86 rfl ?_
        refine gG_iload dX11_chance_88 rfl ?_
        refine gG_iadd dX11_chance_90 ?_
        refine gG_istore dX11_chance_91 (Nat.le_of_ble_eq_true rfl) ?_
        refine gG_iinc (v := i7 + 1) dX11_chance_93 rfl rfl (Nat.le_of_ble_eq_true rfl) ?_
        refine gG_goto (tgt := 54) dX11_chance_96 (by decide) ?_
        refine gG_locals ?_ h
        exact ⟨rfl, ⟨rfl, ⟨rfl, ⟨rfl, ⟨rfl, ⟨rfl, ⟨rfl, trivial⟩⟩⟩⟩⟩⟩⟩
theorem kX11_chance_102 {d n : Nat} {H : gHp} {P : gHp → Int32 → Prop} {i5 : Int32} {i7 : Int32} (h : ((6 : Int32) ≤ i7 → P H (i5)) ∧ (¬ ((6 : Int32) ≤ i7) → gG d mX11_chance 0 0 (g_Xj mX11_chance n 0 0 P) 102 n H [none, none, none, none, none, some (.int ((i5 * (10 : Int32)))), none, some (.int ((i7 + 1))), none] [] (0) (0))) : gG d mX11_chance 0 0 (g_Xj mX11_chance n 0 0 P) 102 n H [none, none, none, none, none, some (.int (i5)), none, some (.int (i7)), none] [] 0 0 := by
  refine gG_iload dX11_chance_102 rfl ?_
  refine gG_bipush (v := 6) dX11_chance_104 (by decide) ?_
  refine gG_ic_ge (tgt := 122) dX11_chance_106 (by decide) (fun c => ?_) (fun c => ?_)
  · have h := h.1 c
    refine gG_iload dX11_chance_122 rfl ?_
    exact gG_exit ⟨rfl, rfl, rfl, dX11_chance_124, _, rfl, h⟩
  · have h := h.2 c
    refine gG_iload dX11_chance_109 rfl ?_
    refine gG_bipush (v := 10) dX11_chance_111 (by decide) ?_
    refine gG_imul dX11_chance_113 ?_
    refine gG_istore dX11_chance_114 (Nat.le_of_ble_eq_true rfl) ?_
    refine gG_iinc (v := i7 + 1) dX11_chance_116 rfl rfl (Nat.le_of_ble_eq_true rfl) ?_
    refine gG_goto (tgt := 102) dX11_chance_119 (by decide) ?_
    refine gG_locals ?_ h
    exact ⟨rfl, ⟨rfl, trivial⟩⟩

theorem kX11_days_0 {d n : Nat} {H : gHp} {P : gHp → Int32 → Prop} {a0 : Nat} {i1 : Int32} {i2 : Int32} {i3 : Int32} (h : (i1 < 0 → gG d mX11_days 0 0 (g_Xj mX11_days n 0 0 P) 18 n H [some (.ref (a0)), some (.int (i1)), some (.int (i2)), some (.int (i3)), some (.int ((0 : Int32))), none, none, none, none] [] (0) (0)) ∧ (¬ (i1 < 0) → ((9999 : Int32) < i1 → gG d mX11_days 0 0 (g_Xj mX11_days n 0 0 P) 18 n H [some (.ref (a0)), some (.int (i1)), some (.int (i2)), some (.int (i3)), some (.int ((0 : Int32))), none, none, none, none] [] (0) (0)) ∧ (¬ ((9999 : Int32) < i1) → gG d mX11_days 0 0 (g_Xj mX11_days n 0 0 P) 18 n H [some (.ref (a0)), some (.int (i1)), some (.int (i2)), some (.int (i3)), some (.int ((1 : Int32))), none, none, none, none] [] (0) (0)))) : gG d mX11_days 0 0 (g_Xj mX11_days n 0 0 P) 0 n H [some (.ref (a0)), some (.int (i1)), some (.int (i2)), some (.int (i3)), none, none, none, none, none] [] 0 0 := by
  refine gG_iload_n dX11_days_0 rfl rfl ?_
  refine gG_if_lt (tgt := 15) dX11_days_1 (by decide) (fun c => ?_) (fun c => ?_)
  · have h := h.1 c
    refine gG_iconst (v := 0) dX11_days_15 (by decide) ?_
    refine gG_istore dX11_days_16 (Nat.le_of_ble_eq_true rfl) ?_
    refine gG_locals ?_ h
    exact ⟨rfl, ⟨rfl, ⟨rfl, ⟨rfl, ⟨rfl, trivial⟩⟩⟩⟩⟩
  · have h := h.2 c
    refine gG_iload_n dX11_days_4 rfl rfl ?_
    refine gG_sipush (v := 9999) dX11_days_5 (by decide) ?_
    refine gG_ic_gt (tgt := 15) dX11_days_8 (by decide) (fun c => ?_) (fun c => ?_)
    · have h := h.1 c
      refine gG_iconst (v := 0) dX11_days_15 (by decide) ?_
      refine gG_istore dX11_days_16 (Nat.le_of_ble_eq_true rfl) ?_
      refine gG_locals ?_ h
      exact ⟨rfl, ⟨rfl, ⟨rfl, ⟨rfl, ⟨rfl, trivial⟩⟩⟩⟩⟩
    · have h := h.2 c
      refine gG_iconst (v := 1) dX11_days_11 (by decide) ?_
      refine gG_goto (tgt := 16) dX11_days_12 (by decide) ?_
      refine gG_istore dX11_days_16 (Nat.le_of_ble_eq_true rfl) ?_
      refine gG_locals ?_ h
      exact ⟨rfl, ⟨rfl, ⟨rfl, ⟨rfl, ⟨rfl, trivial⟩⟩⟩⟩⟩
theorem kX11_days_18 {d n : Nat} {H : gHp} {P : gHp → Int32 → Prop} {a0 : Nat} {i1 : Int32} {i2 : Int32} {i3 : Int32} {i4 : Int32} (h : (i4 = 0 → P H ((-1 : Int32))) ∧ (¬ (i4 = 0) → (i2 < (1 : Int32) → P H ((-1 : Int32))) ∧ (¬ (i2 < (1 : Int32)) → ((99 : Int32) < i2 → P H ((-1 : Int32))) ∧ (¬ ((99 : Int32) < i2) → (i3 < 0 → P H ((-1 : Int32))) ∧ (¬ (i3 < 0) → (i3 ≤ (2 : Int32) → g_pf H (a0) 11 17 (.long ((Int32.toInt64 (i1)))) (fun H1 => g_gr H1 (a0) 11 11 (fun q2 => g_gr H1 (a0) 11 10 (fun q3 => (∃ fs, H1 (q2) = .inr (9, fs)) ∧ g_cvd d mX9_copyFrom n H1 [.ref (q2), .ref (q3)] (fun H4 => gG d mX11_days 0 0 (g_Xj mX11_days n 0 0 P) 71 n H4 [some (.ref (a0)), none, some (.int (i2)), some (.int (i3)), none, some (.int ((0 : Int32))), some (.int ((0 : Int32))), some (.int ((0 : Int32))), none] [] (0) (0)))))) ∧ (¬ (i3 ≤ (2 : Int32)) → P H ((-1 : Int32)))))))) : gG d mX11_days 0 0 (g_Xj mX11_days n 0 0 P) 18 n H [some (.ref (a0)), some (.int (i1)), some (.int (i2)), some (.int (i3)), some (.int (i4)), none, none, none, none] [] 0 0 := by
  refine gG_iload dX11_days_18 rfl ?_
  refine gG_if_eq (tgt := 43) dX11_days_20 (by decide) (fun c => ?_) (fun c => ?_)
  · have h := h.1 c
    refine gG_iconst (v := (-1)) dX11_days_43 (by decide) ?_
    exact gG_exit ⟨rfl, rfl, rfl, dX11_days_44, _, rfl, h⟩
  · have h := h.2 c
    refine gG_iload_n dX11_days_23 rfl rfl ?_
    refine gG_iconst (v := 1) dX11_days_24 (by decide) ?_
    refine gG_ic_lt (tgt := 43) dX11_days_25 (by decide) (fun c => ?_) (fun c => ?_)
    · have h := h.1 c
      refine gG_iconst (v := (-1)) dX11_days_43 (by decide) ?_
      exact gG_exit ⟨rfl, rfl, rfl, dX11_days_44, _, rfl, h⟩
    · have h := h.2 c
      refine gG_iload_n dX11_days_28 rfl rfl ?_
      refine gG_bipush (v := 99) dX11_days_29 (by decide) ?_
      refine gG_ic_gt (tgt := 43) dX11_days_31 (by decide) (fun c => ?_) (fun c => ?_)
      · have h := h.1 c
        refine gG_iconst (v := (-1)) dX11_days_43 (by decide) ?_
        exact gG_exit ⟨rfl, rfl, rfl, dX11_days_44, _, rfl, h⟩
      · have h := h.2 c
        refine gG_iload_n dX11_days_34 rfl rfl ?_
        refine gG_if_lt (tgt := 43) dX11_days_35 (by decide) (fun c => ?_) (fun c => ?_)
        · have h := h.1 c
          refine gG_iconst (v := (-1)) dX11_days_43 (by decide) ?_
          exact gG_exit ⟨rfl, rfl, rfl, dX11_days_44, _, rfl, h⟩
        · have h := h.2 c
          refine gG_iload_n dX11_days_38 rfl rfl ?_
          refine gG_iconst (v := 2) dX11_days_39 (by decide) ?_
          refine gG_ic_le (tgt := 45) dX11_days_40 (by decide) (fun c => ?_) (fun c => ?_)
          · have h := h.1 c
            refine gG_iconst (v := 0) dX11_days_45 (by decide) ?_
            refine gG_istore dX11_days_46 (Nat.le_of_ble_eq_true rfl) ?_
            refine gG_iconst (v := 0) dX11_days_48 (by decide) ?_
            refine gG_istore dX11_days_49 (Nat.le_of_ble_eq_true rfl) ?_
            refine gG_aload_n dX11_days_51 rfl rfl ?_
            refine gG_iload_n dX11_days_52 rfl rfl ?_
            refine gG_i2l dX11_days_53 ?_
            obtain ⟨fs, e1, e2, h⟩ := h
            refine gG_pl dX11_days_54 fl_X11_300 ⟨fs, e1, e2, ?_⟩
            obtain ⟨H1, eH⟩ : ∃ z, z = va_up H (a0) (.inr (11, fs.set 17 (.long ((Int32.toInt64 (i1)))))) := ⟨_, rfl⟩
            rw [← eH] at h ⊢
            refine gG_aload_n dX11_days_57 rfl rfl ?_
            obtain ⟨fs, q2, e1, e2, h⟩ := h
            refine gG_gr dX11_days_58 fl_X11_76 ⟨fs, q2, e1, e2, ?_⟩
            refine gG_aload_n dX11_days_61 rfl rfl ?_
            obtain ⟨fs, q3, e1, e2, h⟩ := h
            refine gG_gr dX11_days_62 fl_X11_72 ⟨fs, q3, e1, e2, ?_⟩
            obtain ⟨hrc, d2, P2, hdd, hC, h⟩ := h
            refine gG_cvv (As := [.ref (q3)]) (st := []) dX11_days_65 mV_X11_187 hdd hrc rfl rfl (Nat.le_of_ble_eq_true rfl) (Nat.le_refl _) ⟨Nat.le_refl _, Nat.le_refl _⟩ hC (fun H4 hp => ?_)
            have h := h H4 hp
            refine gG_iconst (v := 0) dX11_days_68 (by decide) ?_
            refine gG_istore dX11_days_69 (Nat.le_of_ble_eq_true rfl) ?_
            refine gG_locals ?_ h
            exact ⟨rfl, ⟨rfl, ⟨rfl, ⟨rfl, ⟨rfl, ⟨rfl, trivial⟩⟩⟩⟩⟩⟩
          · have h := h.2 c
            refine gG_iconst (v := (-1)) dX11_days_43 (by decide) ?_
            exact gG_exit ⟨rfl, rfl, rfl, dX11_days_44, _, rfl, h⟩
theorem kX11_days_71 {d n : Nat} {H : gHp} {P : gHp → Int32 → Prop} {a0 : Nat} {i2 : Int32} {i3 : Int32} {i5 : Int32} {i6 : Int32} {i7 : Int32} (h : (i2 ≤ i7 → (¬ (i3 = (2 : Int32)) → (¬ (i3 = 0) → P H (i6)) ∧ (i3 = 0 → P H (i5))) ∧ (i3 = (2 : Int32) → g_gr H (a0) 11 11 (fun q1 => g_gr H (a0) 11 3 (fun q2 => g_gi H (q2) 1 0 (fun x3 => (∃ fs, H (q1) = .inr (9, fs)) ∧ g_ci d mX9_allWater n H [.ref (q1), .int (x3)] (fun H4 x5 => P H4 (x5))))))) ∧ (¬ (i2 ≤ i7) → (∃ fs, H (a0) = .inr (11, fs)) ∧ g_cvd d mX11_doDrawn n H [.ref (a0)] (fun H6 => (∃ fs, H6 (a0) = .inr (11, fs)) ∧ g_ci d mX11_passTrialMinute n H6 [.ref (a0)] (fun H7 x8 => (¬ (x8 = (6 : Int32)) → (x8 = (-1 : Int32) → gG d mX11_days 0 0 (g_Xj mX11_days n 0 0 P) 71 n H7 [some (.ref (a0)), none, some (.int (i2)), some (.int (i3)), none, some (.int (i5)), some (.int (i6)), some (.int ((i7 + 1))), none] [] (0) (0)) ∧ (¬ (x8 = (-1 : Int32)) → gG d mX11_days 0 0 (g_Xj mX11_days n 0 0 P) 71 n H7 [some (.ref (a0)), none, some (.int (i2)), some (.int (i3)), none, some (.int ((i5 + 1))), some (.int (i6)), some (.int ((i7 + 1))), none] [] (0) (0))) ∧ (x8 = (6 : Int32) → gG d mX11_days 0 0 (g_Xj mX11_days n 0 0 P) 71 n H7 [some (.ref (a0)), none, some (.int (i2)), some (.int (i3)), none, some (.int (i5)), some (.int ((i6 + 1))), some (.int ((i7 + 1))), none] [] (0) (0)))))) : gG d mX11_days 0 0 (g_Xj mX11_days n 0 0 P) 71 n H [some (.ref (a0)), none, some (.int (i2)), some (.int (i3)), none, some (.int (i5)), some (.int (i6)), some (.int (i7)), none] [] 0 0 := by
  refine gG_iload dX11_days_71 rfl ?_
  refine gG_iload_n dX11_days_73 rfl rfl ?_
  refine gG_ic_ge (tgt := 115) dX11_days_74 (by decide) (fun c => ?_) (fun c => ?_)
  · have h := h.1 c
    refine gG_iload_n dX11_days_115 rfl rfl ?_
    refine gG_iconst (v := 2) dX11_days_116 (by decide) ?_
    refine gG_ic_ne (tgt := 135) dX11_days_117 (by decide) (fun c => ?_) (fun c => ?_)
    · have h := h.1 c
      refine gG_iload_n dX11_days_135 rfl rfl ?_
      refine gG_if_ne (tgt := 144) dX11_days_136 (by decide) (fun c => ?_) (fun c => ?_)
      · have h := h.1 c
        refine gG_iload dX11_days_144 rfl ?_
        exact gG_exit ⟨rfl, rfl, rfl, dX11_days_146, _, rfl, h⟩
      · have h := h.2 c
        refine gG_iload dX11_days_139 rfl ?_
        refine gG_goto (tgt := 146) dX11_days_141 (by decide) ?_
        exact gG_exit ⟨rfl, rfl, rfl, dX11_days_146, _, rfl, h⟩
    · have h := h.2 c
      refine gG_aload_n dX11_days_120 rfl rfl ?_
      obtain ⟨fs, q1, e1, e2, h⟩ := h
      refine gG_gr dX11_days_121 fl_X11_76 ⟨fs, q1, e1, e2, ?_⟩
      refine gG_aload_n dX11_days_124 rfl rfl ?_
      obtain ⟨fs, q2, e1, e2, h⟩ := h
      refine gG_gr dX11_days_125 fl_X11_35 ⟨fs, q2, e1, e2, ?_⟩
      obtain ⟨fs, x3, e1, e2, h⟩ := h
      refine gG_gi dX11_days_128 fl_X11_212 ⟨fs, x3, e1, e2, ?_⟩
      obtain ⟨hrc, d2, P2, hdd, hC, h⟩ := h
      refine gG_cvi (As := [.int (x3)]) (st := []) dX11_days_131 mV_X11_215 hdd hrc rfl rfl (Nat.le_of_ble_eq_true rfl) (Nat.le_refl _) ⟨Nat.le_refl _, Nat.le_refl _⟩ hC (fun H4 x5 hp => ?_)
      have h := h H4 x5 hp
      exact gG_exit ⟨rfl, rfl, rfl, dX11_days_134, _, rfl, h⟩
  · have h := h.2 c
    refine gG_aload_n dX11_days_77 rfl rfl ?_
    obtain ⟨hrc, d2, P2, hdd, hC, h⟩ := h
    refine gG_cvv (As := []) (st := []) dX11_days_78 mV_X11_304 hdd hrc rfl rfl (Nat.le_of_ble_eq_true rfl) (Nat.le_refl _) ⟨Nat.le_refl _, Nat.le_refl _⟩ hC (fun H6 hp => ?_)
    have h := h H6 hp
    refine gG_aload_n dX11_days_81 rfl rfl ?_
    obtain ⟨hrc, d2, P2, hdd, hC, h⟩ := h
    refine gG_cvi (As := []) (st := []) dX11_days_82 mV_X11_202 hdd hrc rfl rfl (Nat.le_of_ble_eq_true rfl) (Nat.le_refl _) ⟨Nat.le_refl _, Nat.le_refl _⟩ hC (fun H7 x8 hp => ?_)
    have h := h H7 x8 hp
    refine gG_istore dX11_days_85 (Nat.le_of_ble_eq_true rfl) ?_
    refine gG_iload dX11_days_87 rfl ?_
    refine gG_bipush (v := 6) dX11_days_89 (by decide) ?_
    refine gG_ic_ne (tgt := 100) dX11_days_91 (by decide) (fun c => ?_) (fun c => ?_)
    · have h := h.1 c
      refine gG_iload dX11_days_100 rfl ?_
      refine gG_iconst (v := (-1)) dX11_days_102 (by decide) ?_
      refine gG_ic_eq (tgt := 109) dX11_days_103 (by decide) (fun c => ?_) (fun c => ?_)
      · have h := h.1 c
        refine gG_iinc (v := i7 + 1) dX11_days_109 rfl rfl (Nat.le_of_ble_eq_true rfl) ?_
        refine gG_goto (tgt := 71) dX11_days_112 (by decide) ?_
        refine gG_locals ?_ h
        exact ⟨rfl, ⟨rfl, ⟨rfl, ⟨rfl, ⟨rfl, ⟨rfl, trivial⟩⟩⟩⟩⟩⟩
      · have h := h.2 c
        refine gG_iinc (v := i5 + 1) dX11_days_106 rfl rfl (Nat.le_of_ble_eq_true rfl) ?_
        refine gG_iinc (v := i7 + 1) dX11_days_109 rfl rfl (Nat.le_of_ble_eq_true rfl) ?_
        refine gG_goto (tgt := 71) dX11_days_112 (by decide) ?_
        refine gG_locals ?_ h
        exact ⟨rfl, ⟨rfl, ⟨rfl, ⟨rfl, ⟨rfl, ⟨rfl, trivial⟩⟩⟩⟩⟩⟩
    · have h := h.2 c
      refine gG_iinc (v := i6 + 1) dX11_days_94 rfl rfl (Nat.le_of_ble_eq_true rfl) ?_
      refine gG_goto (tgt := 109) dX11_days_97 (by decide) ?_
      refine gG_iinc (v := i7 + 1) dX11_days_109 rfl rfl (Nat.le_of_ble_eq_true rfl) ?_
      refine gG_goto (tgt := 71) dX11_days_112 (by decide) ?_
      refine gG_locals ?_ h
      exact ⟨rfl, ⟨rfl, ⟨rfl, ⟨rfl, ⟨rfl, ⟨rfl, trivial⟩⟩⟩⟩⟩⟩

theorem kX11_mark_0 {d n : Nat} {H : gHp} {P : gHp → Bool → Prop} {a0 : Nat} {i1 : Int32} {i2 : Int32} (h : (i1 < 0 → P H false) ∧ (¬ (i1 < 0) → (i1 < (4 : Int32) → g_gr H (a0) 11 15 (fun q1 => g_rl 5 H (q1) (i1) (fun q2 => (¬ (i2 = 0) → g_gi H (q2) 6 0 (fun x3 => (¬ (x3 = 0) → g_gr H (a0) 11 10 (fun q4 => g_gr H (q2) 6 1 (fun q5 => (∃ fs, H (q4) = .inr (9, fs)) ∧ g_cvd d mX9_copyFrom n H [.ref (q4), .ref (q5)] (fun H6 => g_gr H6 (a0) 11 5 (fun q7 => g_gr H6 (q2) 6 2 (fun q8 => (∃ fs, H6 (q7) = .inr (0, fs)) ∧ g_cvd d mX0_copyFrom n H6 [.ref (q7), .ref (q8)] (fun H9 => g_gr H9 (a0) 11 7 (fun q10 => g_gr H9 (q2) 6 3 (fun q11 => (∃ fs, H9 (q10) = .inr (10, fs)) ∧ g_cvd d mX10_copyFrom n H9 [.ref (q10), .ref (q11)] (fun H12 => g_gr H12 (a0) 11 9 (fun q13 => g_gr H12 (q2) 6 4 (fun q14 => (∃ fs, H12 (q13) = .inr (7, fs)) ∧ g_cvd d mX7_copyFrom n H12 [.ref (q13), .ref (q14)] (fun H15 => g_pf H15 (a0) 11 14 (.int ((0 : Int32))) (fun H16 => P H16 true)))))))))))))) ∧ (x3 = 0 → P H false))) ∧ (i2 = 0 → g_pf H (q2) 6 0 (.int (g_b true)) (fun H17 => g_gr H17 (q2) 6 1 (fun q18 => g_gr H17 (a0) 11 10 (fun q19 => (∃ fs, H17 (q18) = .inr (9, fs)) ∧ g_cvd d mX9_copyFrom n H17 [.ref (q18), .ref (q19)] (fun H20 => g_gr H20 (q2) 6 2 (fun q21 => g_gr H20 (a0) 11 5 (fun q22 => (∃ fs, H20 (q21) = .inr (0, fs)) ∧ g_cvd d mX0_copyFrom n H20 [.ref (q21), .ref (q22)] (fun H23 => g_gr H23 (q2) 6 3 (fun q24 => g_gr H23 (a0) 11 7 (fun q25 => (∃ fs, H23 (q24) = .inr (10, fs)) ∧ g_cvd d mX10_copyFrom n H23 [.ref (q24), .ref (q25)] (fun H26 => g_gr H26 (q2) 6 4 (fun q27 => g_gr H26 (a0) 11 9 (fun q28 => (∃ fs, H26 (q27) = .inr (7, fs)) ∧ g_cvd d mX7_copyFrom n H26 [.ref (q27), .ref (q28)] (fun H29 => P H29 true))))))))))))))))) ∧ (¬ (i1 < (4 : Int32)) → P H false))) : gG d mX11_mark 0 0 (g_Xz mX11_mark n 0 0 P) 0 n H [some (.ref (a0)), some (.int (i1)), some (.int (i2)), none] [] 0 0 := by
  refine gG_iload_n dX11_mark_0 rfl rfl ?_
  refine gG_if_lt (tgt := 9) dX11_mark_1 (by decide) (fun c => ?_) (fun c => ?_)
  · have h := h.1 c
    refine gG_iconst (v := 0) dX11_mark_9 (by decide) ?_
    exact gG_exit ⟨rfl, rfl, rfl, dX11_mark_10, false, rfl, h⟩
  · have h := h.2 c
    refine gG_iload_n dX11_mark_4 rfl rfl ?_
    refine gG_iconst (v := 4) dX11_mark_5 (by decide) ?_
    refine gG_ic_lt (tgt := 11) dX11_mark_6 (by decide) (fun c => ?_) (fun c => ?_)
    · have h := h.1 c
      refine gG_aload_n dX11_mark_11 rfl rfl ?_
      obtain ⟨fs, q1, e1, e2, h⟩ := h
      refine gG_gr dX11_mark_12 fl_X11_85 ⟨fs, q1, e1, e2, ?_⟩
      refine gG_iload_n dX11_mark_15 rfl rfl ?_
      obtain ⟨m0, f0, q2, e1, e2, e3, h⟩ := h
      refine gG_aald (t := 5) (by decide) dX11_mark_16 ⟨m0, f0, q2, e1, e2, e3, ?_⟩
      refine gG_astore_n dX11_mark_17 rfl (Nat.le_of_ble_eq_true rfl) ?_
      refine gG_iload_n dX11_mark_18 rfl rfl ?_
      refine gG_if_ne (tgt := 73) dX11_mark_19 (by decide) (fun c => ?_) (fun c => ?_)
      · have h := h.1 c
        refine gG_aload_n dX11_mark_73 rfl rfl ?_
        obtain ⟨fs, x3, e1, e2, h⟩ := h
        refine gG_gi dX11_mark_74 fl_X11_307 ⟨fs, x3, e1, e2, ?_⟩
        refine gG_if_ne (tgt := 82) dX11_mark_77 (by decide) (fun c => ?_) (fun c => ?_)
        · have h := h.1 c
          refine gG_aload_n dX11_mark_82 rfl rfl ?_
          obtain ⟨fs, q4, e1, e2, h⟩ := h
          refine gG_gr dX11_mark_83 fl_X11_72 ⟨fs, q4, e1, e2, ?_⟩
          refine gG_aload_n dX11_mark_86 rfl rfl ?_
          obtain ⟨fs, q5, e1, e2, h⟩ := h
          refine gG_gr dX11_mark_87 fl_X11_311 ⟨fs, q5, e1, e2, ?_⟩
          obtain ⟨hrc, d2, P2, hdd, hC, h⟩ := h
          refine gG_cvv (As := [.ref (q5)]) (st := []) dX11_mark_90 mV_X11_187 hdd hrc rfl rfl (Nat.le_of_ble_eq_true rfl) (Nat.le_refl _) ⟨Nat.le_refl _, Nat.le_refl _⟩ hC (fun H6 hp => ?_)
          have h := h H6 hp
          refine gG_aload_n dX11_mark_93 rfl rfl ?_
          obtain ⟨fs, q7, e1, e2, h⟩ := h
          refine gG_gr dX11_mark_94 fl_X11_45 ⟨fs, q7, e1, e2, ?_⟩
          refine gG_aload_n dX11_mark_97 rfl rfl ?_
          obtain ⟨fs, q8, e1, e2, h⟩ := h
          refine gG_gr dX11_mark_98 fl_X11_314 ⟨fs, q8, e1, e2, ?_⟩
          obtain ⟨hrc, d2, P2, hdd, hC, h⟩ := h
          refine gG_cvv (As := [.ref (q8)]) (st := []) dX11_mark_101 mV_X11_317 hdd hrc rfl rfl (Nat.le_of_ble_eq_true rfl) (Nat.le_refl _) ⟨Nat.le_refl _, Nat.le_refl _⟩ hC (fun H9 hp => ?_)
          have h := h H9 hp
          refine gG_aload_n dX11_mark_104 rfl rfl ?_
          obtain ⟨fs, q10, e1, e2, h⟩ := h
          refine gG_gr dX11_mark_105 fl_X11_55 ⟨fs, q10, e1, e2, ?_⟩
          refine gG_aload_n dX11_mark_108 rfl rfl ?_
          obtain ⟨fs, q11, e1, e2, h⟩ := h
          refine gG_gr dX11_mark_109 fl_X11_320 ⟨fs, q11, e1, e2, ?_⟩
          obtain ⟨hrc, d2, P2, hdd, hC, h⟩ := h
          refine gG_cvv (As := [.ref (q11)]) (st := []) dX11_mark_112 mV_X11_323 hdd hrc rfl rfl (Nat.le_of_ble_eq_true rfl) (Nat.le_refl _) ⟨Nat.le_refl _, Nat.le_refl _⟩ hC (fun H12 hp => ?_)
          have h := h H12 hp
          refine gG_aload_n dX11_mark_115 rfl rfl ?_
          obtain ⟨fs, q13, e1, e2, h⟩ := h
          refine gG_gr dX11_mark_116 fl_X11_65 ⟨fs, q13, e1, e2, ?_⟩
          refine gG_aload_n dX11_mark_119 rfl rfl ?_
          obtain ⟨fs, q14, e1, e2, h⟩ := h
          refine gG_gr dX11_mark_120 fl_X11_326 ⟨fs, q14, e1, e2, ?_⟩
          obtain ⟨hrc, d2, P2, hdd, hC, h⟩ := h
          refine gG_cvv (As := [.ref (q14)]) (st := []) dX11_mark_123 mV_X11_327 hdd hrc rfl rfl (Nat.le_of_ble_eq_true rfl) (Nat.le_refl _) ⟨Nat.le_refl _, Nat.le_refl _⟩ hC (fun H15 hp => ?_)
          have h := h H15 hp
          refine gG_aload_n dX11_mark_126 rfl rfl ?_
          refine gG_iconst (v := 0) dX11_mark_127 (by decide) ?_
          obtain ⟨fs, e1, e2, h⟩ := h
          refine gG_pi dX11_mark_128 fl_X11_181 ⟨fs, e1, e2, ?_⟩
          obtain ⟨H16, eH⟩ : ∃ z, z = va_up H15 (a0) (.inr (11, fs.set 14 (.int ((0 : Int32))))) := ⟨_, rfl⟩
          rw [← eH] at h ⊢
          refine gG_iconst (v := 1) dX11_mark_131 (by decide) ?_
          exact gG_exit ⟨rfl, rfl, rfl, dX11_mark_132, true, rfl, h⟩
        · have h := h.2 c
          refine gG_iconst (v := 0) dX11_mark_80 (by decide) ?_
          exact gG_exit ⟨rfl, rfl, rfl, dX11_mark_81, false, rfl, h⟩
      · have h := h.2 c
        refine gG_aload_n dX11_mark_22 rfl rfl ?_
        refine gG_iconst (v := 1) dX11_mark_23 (by decide) ?_
        obtain ⟨fs, e1, e2, h⟩ := h
        refine gG_pz (b := true) rfl dX11_mark_24 fl_X11_307 ⟨fs, e1, e2, ?_⟩
        obtain ⟨H17, eH⟩ : ∃ z, z = va_up H (q2) (.inr (6, fs.set 0 (.int (g_b true)))) := ⟨_, rfl⟩
        rw [← eH] at h ⊢
        refine gG_aload_n dX11_mark_27 rfl rfl ?_
        obtain ⟨fs, q18, e1, e2, h⟩ := h
        refine gG_gr dX11_mark_28 fl_X11_311 ⟨fs, q18, e1, e2, ?_⟩
        refine gG_aload_n dX11_mark_31 rfl rfl ?_
        obtain ⟨fs, q19, e1, e2, h⟩ := h
        refine gG_gr dX11_mark_32 fl_X11_72 ⟨fs, q19, e1, e2, ?_⟩
        obtain ⟨hrc, d2, P2, hdd, hC, h⟩ := h
        refine gG_cvv (As := [.ref (q19)]) (st := []) dX11_mark_35 mV_X11_187 hdd hrc rfl rfl (Nat.le_of_ble_eq_true rfl) (Nat.le_refl _) ⟨Nat.le_refl _, Nat.le_refl _⟩ hC (fun H20 hp => ?_)
        have h := h H20 hp
        refine gG_aload_n dX11_mark_38 rfl rfl ?_
        obtain ⟨fs, q21, e1, e2, h⟩ := h
        refine gG_gr dX11_mark_39 fl_X11_314 ⟨fs, q21, e1, e2, ?_⟩
        refine gG_aload_n dX11_mark_42 rfl rfl ?_
        obtain ⟨fs, q22, e1, e2, h⟩ := h
        refine gG_gr dX11_mark_43 fl_X11_45 ⟨fs, q22, e1, e2, ?_⟩
        obtain ⟨hrc, d2, P2, hdd, hC, h⟩ := h
        refine gG_cvv (As := [.ref (q22)]) (st := []) dX11_mark_46 mV_X11_317 hdd hrc rfl rfl (Nat.le_of_ble_eq_true rfl) (Nat.le_refl _) ⟨Nat.le_refl _, Nat.le_refl _⟩ hC (fun H23 hp => ?_)
        have h := h H23 hp
        refine gG_aload_n dX11_mark_49 rfl rfl ?_
        obtain ⟨fs, q24, e1, e2, h⟩ := h
        refine gG_gr dX11_mark_50 fl_X11_320 ⟨fs, q24, e1, e2, ?_⟩
        refine gG_aload_n dX11_mark_53 rfl rfl ?_
        obtain ⟨fs, q25, e1, e2, h⟩ := h
        refine gG_gr dX11_mark_54 fl_X11_55 ⟨fs, q25, e1, e2, ?_⟩
        obtain ⟨hrc, d2, P2, hdd, hC, h⟩ := h
        refine gG_cvv (As := [.ref (q25)]) (st := []) dX11_mark_57 mV_X11_323 hdd hrc rfl rfl (Nat.le_of_ble_eq_true rfl) (Nat.le_refl _) ⟨Nat.le_refl _, Nat.le_refl _⟩ hC (fun H26 hp => ?_)
        have h := h H26 hp
        refine gG_aload_n dX11_mark_60 rfl rfl ?_
        obtain ⟨fs, q27, e1, e2, h⟩ := h
        refine gG_gr dX11_mark_61 fl_X11_326 ⟨fs, q27, e1, e2, ?_⟩
        refine gG_aload_n dX11_mark_64 rfl rfl ?_
        obtain ⟨fs, q28, e1, e2, h⟩ := h
        refine gG_gr dX11_mark_65 fl_X11_65 ⟨fs, q28, e1, e2, ?_⟩
        obtain ⟨hrc, d2, P2, hdd, hC, h⟩ := h
        refine gG_cvv (As := [.ref (q28)]) (st := []) dX11_mark_68 mV_X11_327 hdd hrc rfl rfl (Nat.le_of_ble_eq_true rfl) (Nat.le_refl _) ⟨Nat.le_refl _, Nat.le_refl _⟩ hC (fun H29 hp => ?_)
        have h := h H29 hp
        refine gG_iconst (v := 1) dX11_mark_71 (by decide) ?_
        exact gG_exit ⟨rfl, rfl, rfl, dX11_mark_72, true, rfl, h⟩
    · have h := h.2 c
      refine gG_iconst (v := 0) dX11_mark_9 (by decide) ?_
      exact gG_exit ⟨rfl, rfl, rfl, dX11_mark_10, false, rfl, h⟩

theorem kX11_count_0 {d n : Nat} {H : gHp} {P : gHp → Int32 → Prop} {a0 : Nat} {i1 : Int32} (h : ((i1).toInt < 0 ∨ 12 < (i1).toInt → P H ((-1 : Int32))) ∧ (i1 = 0 → g_gr H (a0) 11 3 (fun q1 => g_gi H (q1) 1 0 (fun x2 => P H (x2)))) ∧ (i1 = 1 → g_gr H (a0) 11 3 (fun q3 => g_gi H (q3) 1 8 (fun x4 => P H (x4)))) ∧ (i1 = 2 → g_gr H (a0) 11 10 (fun q5 => g_gi H (q5) 9 0 (fun x6 => P H (x6)))) ∧ (i1 = 3 → g_gr H (a0) 11 3 (fun q7 => g_gr H (a0) 11 10 (fun q8 => g_gi H (q8) 9 0 (fun x9 => (∃ fs, H (q7) = .inr (1, fs)) ∧ g_ci d mX1_rainOf n H [.ref (q7), .int (x9)] (fun H10 x11 => P H10 (x11)))))) ∧ (i1 = 4 → g_gr H (a0) 11 10 (fun q12 => g_gr H (a0) 11 3 (fun q13 => g_gi H (q13) 1 0 (fun x14 => (∃ fs, H (q12) = .inr (9, fs)) ∧ g_ci d mX9_allWater n H [.ref (q12), .int (x14)] (fun H15 x16 => P H15 (x16)))))) ∧ (i1 = 5 → g_gr H (a0) 11 10 (fun q17 => g_gi H (q17) 9 1 (fun x18 => P H (x18)))) ∧ (i1 = 6 → g_gr H (a0) 11 10 (fun q19 => g_gi H (q19) 9 9 (fun x20 => P H (x20)))) ∧ (i1 = 7 → g_gr H (a0) 11 10 (fun q21 => (∃ fs, H (q21) = .inr (9, fs)) ∧ g_ci d mX9_signsLike n H [.ref (q21), .int ((6 : Int32))] (fun H22 x23 => P H22 (x23)))) ∧ (i1 = 8 → g_gr H (a0) 11 5 (fun q24 => g_gi H (q24) 0 0 (fun x25 => P H (x25)))) ∧ (i1 = 9 → g_gr H (a0) 11 7 (fun q26 => g_gi H (q26) 10 0 (fun x27 => P H (x27)))) ∧ (i1 = 10 → g_gr H (a0) 11 9 (fun q28 => g_gi H (q28) 7 0 (fun x29 => P H (x29)))) ∧ (i1 = 11 → g_gi H (a0) 11 14 (fun x30 => P H (x30))) ∧ (i1 = 12 → g_gr H (a0) 11 0 (fun q31 => g_gi H (q31) 8 1 (fun x32 => P H (x32))))) : gG d mX11_count 0 0 (g_Xj mX11_count n 0 0 P) 0 n H [some (.ref (a0)), some (.int (i1))] [] 0 0 := by
  refine gG_iload_n dX11_count_0 rfl rfl ?_
  by_cases hz : (i1).toInt < 0 ∨ 12 < (i1).toInt
  · refine gG_tableOut (tgt := 185) dX11_count_1 hz (by decide) ?_
    have h := h.1 hz
    refine gG_iconst (v := (-1)) dX11_count_185 (by decide) ?_
    exact gG_exit ⟨rfl, rfl, rfl, dX11_count_186, _, rfl, h⟩
  · have h := h.2
    obtain ⟨x9, e9⟩ : ∃ x9 : Int32, x9 = i1 := ⟨_, rfl⟩
    have hz2 : x9 = 0 ∨ x9 = 1 ∨ x9 = 2 ∨ x9 = 3 ∨ x9 = 4 ∨ x9 = 5 ∨ x9 = 6 ∨ x9 = 7 ∨ x9 = 8 ∨ x9 = 9 ∨ x9 = 10 ∨ x9 = 11 ∨ x9 = 12 := by
      rw [← e9] at hz
      exact g_sw_0_12 hz
    rw [← e9]; rw [← e9] at h
    rcases hz2 with z | z | z | z | z | z | z | z | z | z | z | z | z <;> rw [z] at h ⊢
    · refine gG_tableIn (tgt := 68) dX11_count_1 (by decide) (by decide) rfl (by decide) ?_
      have h := h.1 rfl
      refine gG_aload_n dX11_count_68 rfl rfl ?_
      obtain ⟨fs, q1, e1, e2, h⟩ := h
      refine gG_gr dX11_count_69 fl_X11_35 ⟨fs, q1, e1, e2, ?_⟩
      obtain ⟨fs, x2, e1, e2, h⟩ := h
      refine gG_gi dX11_count_72 fl_X11_212 ⟨fs, x2, e1, e2, ?_⟩
      exact gG_exit ⟨rfl, rfl, rfl, dX11_count_75, _, rfl, h⟩
    · refine gG_tableIn (tgt := 76) dX11_count_1 (by decide) (by decide) rfl (by decide) ?_
      have h := h.2.1 rfl
      refine gG_aload_n dX11_count_76 rfl rfl ?_
      obtain ⟨fs, q3, e1, e2, h⟩ := h
      refine gG_gr dX11_count_77 fl_X11_35 ⟨fs, q3, e1, e2, ?_⟩
      obtain ⟨fs, x4, e1, e2, h⟩ := h
      refine gG_gi dX11_count_80 fl_X11_250 ⟨fs, x4, e1, e2, ?_⟩
      exact gG_exit ⟨rfl, rfl, rfl, dX11_count_83, _, rfl, h⟩
    · refine gG_tableIn (tgt := 84) dX11_count_1 (by decide) (by decide) rfl (by decide) ?_
      have h := h.2.2.1 rfl
      refine gG_aload_n dX11_count_84 rfl rfl ?_
      obtain ⟨fs, q5, e1, e2, h⟩ := h
      refine gG_gr dX11_count_85 fl_X11_72 ⟨fs, q5, e1, e2, ?_⟩
      obtain ⟨fs, x6, e1, e2, h⟩ := h
      refine gG_gi dX11_count_88 fl_X11_160 ⟨fs, x6, e1, e2, ?_⟩
      exact gG_exit ⟨rfl, rfl, rfl, dX11_count_91, _, rfl, h⟩
    · refine gG_tableIn (tgt := 92) dX11_count_1 (by decide) (by decide) rfl (by decide) ?_
      have h := h.2.2.2.1 rfl
      refine gG_aload_n dX11_count_92 rfl rfl ?_
      obtain ⟨fs, q7, e1, e2, h⟩ := h
      refine gG_gr dX11_count_93 fl_X11_35 ⟨fs, q7, e1, e2, ?_⟩
      refine gG_aload_n dX11_count_96 rfl rfl ?_
      obtain ⟨fs, q8, e1, e2, h⟩ := h
      refine gG_gr dX11_count_97 fl_X11_72 ⟨fs, q8, e1, e2, ?_⟩
      obtain ⟨fs, x9, e1, e2, h⟩ := h
      refine gG_gi dX11_count_100 fl_X11_160 ⟨fs, x9, e1, e2, ?_⟩
      obtain ⟨hrc, d2, P2, hdd, hC, h⟩ := h
      refine gG_cvi (As := [.int (x9)]) (st := []) dX11_count_103 mV_X11_163 hdd hrc rfl rfl (Nat.le_of_ble_eq_true rfl) (Nat.le_refl _) ⟨Nat.le_refl _, Nat.le_refl _⟩ hC (fun H10 x11 hp => ?_)
      have h := h H10 x11 hp
      exact gG_exit ⟨rfl, rfl, rfl, dX11_count_106, _, rfl, h⟩
    · refine gG_tableIn (tgt := 107) dX11_count_1 (by decide) (by decide) rfl (by decide) ?_
      have h := h.2.2.2.2.1 rfl
      refine gG_aload_n dX11_count_107 rfl rfl ?_
      obtain ⟨fs, q12, e1, e2, h⟩ := h
      refine gG_gr dX11_count_108 fl_X11_72 ⟨fs, q12, e1, e2, ?_⟩
      refine gG_aload_n dX11_count_111 rfl rfl ?_
      obtain ⟨fs, q13, e1, e2, h⟩ := h
      refine gG_gr dX11_count_112 fl_X11_35 ⟨fs, q13, e1, e2, ?_⟩
      obtain ⟨fs, x14, e1, e2, h⟩ := h
      refine gG_gi dX11_count_115 fl_X11_212 ⟨fs, x14, e1, e2, ?_⟩
      obtain ⟨hrc, d2, P2, hdd, hC, h⟩ := h
      refine gG_cvi (As := [.int (x14)]) (st := []) dX11_count_118 mV_X11_215 hdd hrc rfl rfl (Nat.le_of_ble_eq_true rfl) (Nat.le_refl _) ⟨Nat.le_refl _, Nat.le_refl _⟩ hC (fun H15 x16 hp => ?_)
      have h := h H15 x16 hp
      exact gG_exit ⟨rfl, rfl, rfl, dX11_count_121, _, rfl, h⟩
    · refine gG_tableIn (tgt := 122) dX11_count_1 (by decide) (by decide) rfl (by decide) ?_
      have h := h.2.2.2.2.2.1 rfl
      refine gG_aload_n dX11_count_122 rfl rfl ?_
      obtain ⟨fs, q17, e1, e2, h⟩ := h
      refine gG_gr dX11_count_123 fl_X11_72 ⟨fs, q17, e1, e2, ?_⟩
      obtain ⟨fs, x18, e1, e2, h⟩ := h
      refine gG_gi dX11_count_126 fl_X11_330 ⟨fs, x18, e1, e2, ?_⟩
      exact gG_exit ⟨rfl, rfl, rfl, dX11_count_129, _, rfl, h⟩
    · refine gG_tableIn (tgt := 130) dX11_count_1 (by decide) (by decide) rfl (by decide) ?_
      have h := h.2.2.2.2.2.2.1 rfl
      refine gG_aload_n dX11_count_130 rfl rfl ?_
      obtain ⟨fs, q19, e1, e2, h⟩ := h
      refine gG_gr dX11_count_131 fl_X11_72 ⟨fs, q19, e1, e2, ?_⟩
      obtain ⟨fs, x20, e1, e2, h⟩ := h
      refine gG_gi dX11_count_134 fl_X11_151 ⟨fs, x20, e1, e2, ?_⟩
      exact gG_exit ⟨rfl, rfl, rfl, dX11_count_137, _, rfl, h⟩
    · refine gG_tableIn (tgt := 138) dX11_count_1 (by decide) (by decide) rfl (by decide) ?_
      have h := h.2.2.2.2.2.2.2.1 rfl
      refine gG_aload_n dX11_count_138 rfl rfl ?_
      obtain ⟨fs, q21, e1, e2, h⟩ := h
      refine gG_gr dX11_count_139 fl_X11_72 ⟨fs, q21, e1, e2, ?_⟩
      refine gG_bipush (v := 6) dX11_count_142 (by decide) ?_
      obtain ⟨hrc, d2, P2, hdd, hC, h⟩ := h
      refine gG_cvi (As := [.int ((6 : Int32))]) (st := []) dX11_count_144 mV_X11_199 hdd hrc rfl rfl (Nat.le_of_ble_eq_true rfl) (Nat.le_refl _) ⟨Nat.le_refl _, Nat.le_refl _⟩ hC (fun H22 x23 hp => ?_)
      have h := h H22 x23 hp
      exact gG_exit ⟨rfl, rfl, rfl, dX11_count_147, _, rfl, h⟩
    · refine gG_tableIn (tgt := 148) dX11_count_1 (by decide) (by decide) rfl (by decide) ?_
      have h := h.2.2.2.2.2.2.2.2.1 rfl
      refine gG_aload_n dX11_count_148 rfl rfl ?_
      obtain ⟨fs, q24, e1, e2, h⟩ := h
      refine gG_gr dX11_count_149 fl_X11_45 ⟨fs, q24, e1, e2, ?_⟩
      obtain ⟨fs, x25, e1, e2, h⟩ := h
      refine gG_gi dX11_count_152 fl_X11_195 ⟨fs, x25, e1, e2, ?_⟩
      exact gG_exit ⟨rfl, rfl, rfl, dX11_count_155, _, rfl, h⟩
    · refine gG_tableIn (tgt := 156) dX11_count_1 (by decide) (by decide) rfl (by decide) ?_
      have h := h.2.2.2.2.2.2.2.2.2.1 rfl
      refine gG_aload_n dX11_count_156 rfl rfl ?_
      obtain ⟨fs, q26, e1, e2, h⟩ := h
      refine gG_gr dX11_count_157 fl_X11_55 ⟨fs, q26, e1, e2, ?_⟩
      obtain ⟨fs, x27, e1, e2, h⟩ := h
      refine gG_gi dX11_count_160 fl_X11_257 ⟨fs, x27, e1, e2, ?_⟩
      exact gG_exit ⟨rfl, rfl, rfl, dX11_count_163, _, rfl, h⟩
    · refine gG_tableIn (tgt := 164) dX11_count_1 (by decide) (by decide) rfl (by decide) ?_
      have h := h.2.2.2.2.2.2.2.2.2.2.1 rfl
      refine gG_aload_n dX11_count_164 rfl rfl ?_
      obtain ⟨fs, q28, e1, e2, h⟩ := h
      refine gG_gr dX11_count_165 fl_X11_65 ⟨fs, q28, e1, e2, ?_⟩
      obtain ⟨fs, x29, e1, e2, h⟩ := h
      refine gG_gi dX11_count_168 fl_X11_333 ⟨fs, x29, e1, e2, ?_⟩
      exact gG_exit ⟨rfl, rfl, rfl, dX11_count_171, _, rfl, h⟩
    · refine gG_tableIn (tgt := 172) dX11_count_1 (by decide) (by decide) rfl (by decide) ?_
      have h := h.2.2.2.2.2.2.2.2.2.2.2.1 rfl
      refine gG_aload_n dX11_count_172 rfl rfl ?_
      obtain ⟨fs, x30, e1, e2, h⟩ := h
      refine gG_gi dX11_count_173 fl_X11_181 ⟨fs, x30, e1, e2, ?_⟩
      exact gG_exit ⟨rfl, rfl, rfl, dX11_count_176, _, rfl, h⟩
    · refine gG_tableIn (tgt := 177) dX11_count_1 (by decide) (by decide) rfl (by decide) ?_
      have h := h.2.2.2.2.2.2.2.2.2.2.2.2 rfl
      refine gG_aload_n dX11_count_177 rfl rfl ?_
      obtain ⟨fs, q31, e1, e2, h⟩ := h
      refine gG_gr dX11_count_178 fl_X11_10 ⟨fs, q31, e1, e2, ?_⟩
      obtain ⟨fs, x32, e1, e2, h⟩ := h
      refine gG_gi dX11_count_181 fl_X11_98 ⟨fs, x32, e1, e2, ?_⟩
      exact gG_exit ⟨rfl, rfl, rfl, dX11_count_184, _, rfl, h⟩

theorem kX11_isMouth_0 {d n : Nat} {H : gHp} {P : gHp → Bool → Prop} {a0 : Nat} {i1 : Int32} (h : (i1 < 0 → P H false) ∧ (¬ (i1 < 0) → g_gr H (a0) 11 3 (fun q1 => g_gi H (q1) 1 0 (fun x2 => (x2 ≤ i1 → P H false) ∧ (¬ (x2 ≤ i1) → P H true))))) : gG d mX11_isMouth 0 0 (g_Xz mX11_isMouth n 0 0 P) 0 n H [some (.ref (a0)), some (.int (i1))] [] 0 0 := by
  refine gG_iload_n dX11_isMouth_0 rfl rfl ?_
  refine gG_if_lt (tgt := 19) dX11_isMouth_1 (by decide) (fun c => ?_) (fun c => ?_)
  · have h := h.1 c
    refine gG_iconst (v := 0) dX11_isMouth_19 (by decide) ?_
    exact gG_exit ⟨rfl, rfl, rfl, dX11_isMouth_20, false, rfl, h⟩
  · have h := h.2 c
    refine gG_iload_n dX11_isMouth_4 rfl rfl ?_
    refine gG_aload_n dX11_isMouth_5 rfl rfl ?_
    obtain ⟨fs, q1, e1, e2, h⟩ := h
    refine gG_gr dX11_isMouth_6 fl_X11_35 ⟨fs, q1, e1, e2, ?_⟩
    obtain ⟨fs, x2, e1, e2, h⟩ := h
    refine gG_gi dX11_isMouth_9 fl_X11_212 ⟨fs, x2, e1, e2, ?_⟩
    refine gG_ic_ge (tgt := 19) dX11_isMouth_12 (by decide) (fun c => ?_) (fun c => ?_)
    · have h := h.1 c
      refine gG_iconst (v := 0) dX11_isMouth_19 (by decide) ?_
      exact gG_exit ⟨rfl, rfl, rfl, dX11_isMouth_20, false, rfl, h⟩
    · have h := h.2 c
      refine gG_iconst (v := 1) dX11_isMouth_15 (by decide) ?_
      refine gG_goto (tgt := 20) dX11_isMouth_16 (by decide) ?_
      exact gG_exit ⟨rfl, rfl, rfl, dX11_isMouth_20, true, rfl, h⟩

theorem kX11_isLetter_0 {d n : Nat} {H : gHp} {P : gHp → Bool → Prop} {a0 : Nat} {i1 : Int32} (h : (i1 < 0 → P H false) ∧ (¬ (i1 < 0) → g_gr H (a0) 11 3 (fun q1 => g_gi H (q1) 1 8 (fun x2 => (x2 ≤ i1 → P H false) ∧ (¬ (x2 ≤ i1) → P H true))))) : gG d mX11_isLetter 0 0 (g_Xz mX11_isLetter n 0 0 P) 0 n H [some (.ref (a0)), some (.int (i1))] [] 0 0 := by
  refine gG_iload_n dX11_isLetter_0 rfl rfl ?_
  refine gG_if_lt (tgt := 19) dX11_isLetter_1 (by decide) (fun c => ?_) (fun c => ?_)
  · have h := h.1 c
    refine gG_iconst (v := 0) dX11_isLetter_19 (by decide) ?_
    exact gG_exit ⟨rfl, rfl, rfl, dX11_isLetter_20, false, rfl, h⟩
  · have h := h.2 c
    refine gG_iload_n dX11_isLetter_4 rfl rfl ?_
    refine gG_aload_n dX11_isLetter_5 rfl rfl ?_
    obtain ⟨fs, q1, e1, e2, h⟩ := h
    refine gG_gr dX11_isLetter_6 fl_X11_35 ⟨fs, q1, e1, e2, ?_⟩
    obtain ⟨fs, x2, e1, e2, h⟩ := h
    refine gG_gi dX11_isLetter_9 fl_X11_250 ⟨fs, x2, e1, e2, ?_⟩
    refine gG_ic_ge (tgt := 19) dX11_isLetter_12 (by decide) (fun c => ?_) (fun c => ?_)
    · have h := h.1 c
      refine gG_iconst (v := 0) dX11_isLetter_19 (by decide) ?_
      exact gG_exit ⟨rfl, rfl, rfl, dX11_isLetter_20, false, rfl, h⟩
    · have h := h.2 c
      refine gG_iconst (v := 1) dX11_isLetter_15 (by decide) ?_
      refine gG_goto (tgt := 20) dX11_isLetter_16 (by decide) ?_
      exact gG_exit ⟨rfl, rfl, rfl, dX11_isLetter_20, true, rfl, h⟩

theorem kX11_isAhead_0 {d n : Nat} {H : gHp} {P : gHp → Bool → Prop} {i0 : Int32} (h : (i0 < (1 : Int32) → P H false) ∧ (¬ (i0 < (1 : Int32)) → ((60 : Int32) < i0 → P H false) ∧ (¬ ((60 : Int32) < i0) → P H true))) : gG d mX11_isAhead 0 0 (g_Xz mX11_isAhead n 0 0 P) 0 n H [some (.int (i0))] [] 0 0 := by
  refine gG_iload_n dX11_isAhead_0 rfl rfl ?_
  refine gG_iconst (v := 1) dX11_isAhead_1 (by decide) ?_
  refine gG_ic_lt (tgt := 15) dX11_isAhead_2 (by decide) (fun c => ?_) (fun c => ?_)
  · have h := h.1 c
    refine gG_iconst (v := 0) dX11_isAhead_15 (by decide) ?_
    exact gG_exit ⟨rfl, rfl, rfl, dX11_isAhead_16, false, rfl, h⟩
  · have h := h.2 c
    refine gG_iload_n dX11_isAhead_5 rfl rfl ?_
    refine gG_bipush (v := 60) dX11_isAhead_6 (by decide) ?_
    refine gG_ic_gt (tgt := 15) dX11_isAhead_8 (by decide) (fun c => ?_) (fun c => ?_)
    · have h := h.1 c
      refine gG_iconst (v := 0) dX11_isAhead_15 (by decide) ?_
      exact gG_exit ⟨rfl, rfl, rfl, dX11_isAhead_16, false, rfl, h⟩
    · have h := h.2 c
      refine gG_iconst (v := 1) dX11_isAhead_11 (by decide) ?_
      refine gG_goto (tgt := 16) dX11_isAhead_12 (by decide) ?_
      exact gG_exit ⟨rfl, rfl, rfl, dX11_isAhead_16, true, rfl, h⟩

theorem kX11_isDigit_0 {d n : Nat} {H : gHp} {P : gHp → Bool → Prop} {i0 : Int32} (h : (i0 < 0 → P H false) ∧ (¬ (i0 < 0) → ((9 : Int32) < i0 → P H false) ∧ (¬ ((9 : Int32) < i0) → P H true))) : gG d mX11_isDigit 0 0 (g_Xz mX11_isDigit n 0 0 P) 0 n H [some (.int (i0))] [] 0 0 := by
  refine gG_iload_n dX11_isDigit_0 rfl rfl ?_
  refine gG_if_lt (tgt := 14) dX11_isDigit_1 (by decide) (fun c => ?_) (fun c => ?_)
  · have h := h.1 c
    refine gG_iconst (v := 0) dX11_isDigit_14 (by decide) ?_
    exact gG_exit ⟨rfl, rfl, rfl, dX11_isDigit_15, false, rfl, h⟩
  · have h := h.2 c
    refine gG_iload_n dX11_isDigit_4 rfl rfl ?_
    refine gG_bipush (v := 9) dX11_isDigit_5 (by decide) ?_
    refine gG_ic_gt (tgt := 14) dX11_isDigit_7 (by decide) (fun c => ?_) (fun c => ?_)
    · have h := h.1 c
      refine gG_iconst (v := 0) dX11_isDigit_14 (by decide) ?_
      exact gG_exit ⟨rfl, rfl, rfl, dX11_isDigit_15, false, rfl, h⟩
    · have h := h.2 c
      refine gG_iconst (v := 1) dX11_isDigit_10 (by decide) ?_
      refine gG_goto (tgt := 15) dX11_isDigit_11 (by decide) ?_
      exact gG_exit ⟨rfl, rfl, rfl, dX11_isDigit_15, true, rfl, h⟩

theorem kX11_beginAnew_0 {d n : Nat} {H : gHp} {P : gHp → Prop} {a0 : Nat} (h : g_gr H (a0) 11 10 (fun q1 => g_gr H (a0) 11 3 (fun q2 => (∃ fs, H (q1) = .inr (9, fs)) ∧ g_cvd d mX9_begin n H [.ref (q1), .ref (q2)] (fun H3 => g_gr H3 (a0) 11 5 (fun q4 => g_pf H3 (q4) 0 0 (.int ((0 : Int32))) (fun H5 => g_gr H5 (a0) 11 7 (fun q6 => g_pf H5 (q6) 10 0 (.int ((0 : Int32))) (fun H7 => g_gr H7 (a0) 11 9 (fun q8 => g_pf H7 (q8) 7 0 (.int ((0 : Int32))) (fun H9 => g_pf H9 (a0) 11 14 (.int ((0 : Int32))) (fun H10 => gG d mX11_beginAnew 0 0 (g_Xv mX11_beginAnew n 0 0 P) 42 n H10 [some (.ref (a0)), some (.int ((0 : Int32)))] [] (0) (0)))))))))))) : gG d mX11_beginAnew 0 0 (g_Xv mX11_beginAnew n 0 0 P) 0 n H [some (.ref (a0)), none] [] 0 0 := by
  refine gG_aload_n dX11_beginAnew_0 rfl rfl ?_
  obtain ⟨fs, q1, e1, e2, h⟩ := h
  refine gG_gr dX11_beginAnew_1 fl_X11_72 ⟨fs, q1, e1, e2, ?_⟩
  refine gG_aload_n dX11_beginAnew_4 rfl rfl ?_
  obtain ⟨fs, q2, e1, e2, h⟩ := h
  refine gG_gr dX11_beginAnew_5 fl_X11_35 ⟨fs, q2, e1, e2, ?_⟩
  obtain ⟨hrc, d2, P2, hdd, hC, h⟩ := h
  refine gG_cvv (As := [.ref (q2)]) (st := []) dX11_beginAnew_8 mV_X11_191 hdd hrc rfl rfl (Nat.le_of_ble_eq_true rfl) (Nat.le_refl _) ⟨Nat.le_refl _, Nat.le_refl _⟩ hC (fun H3 hp => ?_)
  have h := h H3 hp
  refine gG_aload_n dX11_beginAnew_11 rfl rfl ?_
  obtain ⟨fs, q4, e1, e2, h⟩ := h
  refine gG_gr dX11_beginAnew_12 fl_X11_45 ⟨fs, q4, e1, e2, ?_⟩
  refine gG_iconst (v := 0) dX11_beginAnew_15 (by decide) ?_
  obtain ⟨fs, e1, e2, h⟩ := h
  refine gG_pi dX11_beginAnew_16 fl_X11_195 ⟨fs, e1, e2, ?_⟩
  obtain ⟨H5, eH⟩ : ∃ z, z = va_up H3 (q4) (.inr (0, fs.set 0 (.int ((0 : Int32))))) := ⟨_, rfl⟩
  rw [← eH] at h ⊢
  refine gG_aload_n dX11_beginAnew_19 rfl rfl ?_
  obtain ⟨fs, q6, e1, e2, h⟩ := h
  refine gG_gr dX11_beginAnew_20 fl_X11_55 ⟨fs, q6, e1, e2, ?_⟩
  refine gG_iconst (v := 0) dX11_beginAnew_23 (by decide) ?_
  obtain ⟨fs, e1, e2, h⟩ := h
  refine gG_pi dX11_beginAnew_24 fl_X11_257 ⟨fs, e1, e2, ?_⟩
  obtain ⟨H7, eH⟩ : ∃ z, z = va_up H5 (q6) (.inr (10, fs.set 0 (.int ((0 : Int32))))) := ⟨_, rfl⟩
  rw [← eH] at h ⊢
  refine gG_aload_n dX11_beginAnew_27 rfl rfl ?_
  obtain ⟨fs, q8, e1, e2, h⟩ := h
  refine gG_gr dX11_beginAnew_28 fl_X11_65 ⟨fs, q8, e1, e2, ?_⟩
  refine gG_iconst (v := 0) dX11_beginAnew_31 (by decide) ?_
  obtain ⟨fs, e1, e2, h⟩ := h
  refine gG_pi dX11_beginAnew_32 fl_X11_333 ⟨fs, e1, e2, ?_⟩
  obtain ⟨H9, eH⟩ : ∃ z, z = va_up H7 (q8) (.inr (7, fs.set 0 (.int ((0 : Int32))))) := ⟨_, rfl⟩
  rw [← eH] at h ⊢
  refine gG_aload_n dX11_beginAnew_35 rfl rfl ?_
  refine gG_iconst (v := 0) dX11_beginAnew_36 (by decide) ?_
  obtain ⟨fs, e1, e2, h⟩ := h
  refine gG_pi dX11_beginAnew_37 fl_X11_181 ⟨fs, e1, e2, ?_⟩
  obtain ⟨H10, eH⟩ : ∃ z, z = va_up H9 (a0) (.inr (11, fs.set 14 (.int ((0 : Int32))))) := ⟨_, rfl⟩
  rw [← eH] at h ⊢
  refine gG_iconst (v := 0) dX11_beginAnew_40 (by decide) ?_
  refine gG_istore_n dX11_beginAnew_41 rfl (Nat.le_of_ble_eq_true rfl) ?_
  refine gG_locals ?_ h
  exact ⟨rfl, ⟨rfl, trivial⟩⟩
theorem kX11_beginAnew_42 {d n : Nat} {H : gHp} {P : gHp → Prop} {a0 : Nat} {i1 : Int32} (h : ((4 : Int32) ≤ i1 → P H) ∧ (¬ ((4 : Int32) ≤ i1) → g_gr H (a0) 11 15 (fun q1 => g_rl 5 H (q1) (i1) (fun q2 => g_pf H (q2) 6 0 (.int (g_b false)) (fun H3 => gG d mX11_beginAnew 0 0 (g_Xv mX11_beginAnew n 0 0 P) 42 n H3 [some (.ref (a0)), some (.int ((i1 + 1)))] [] (0) (0)))))) : gG d mX11_beginAnew 0 0 (g_Xv mX11_beginAnew n 0 0 P) 42 n H [some (.ref (a0)), some (.int (i1))] [] 0 0 := by
  refine gG_iload_n dX11_beginAnew_42 rfl rfl ?_
  refine gG_iconst (v := 4) dX11_beginAnew_43 (by decide) ?_
  refine gG_ic_ge (tgt := 63) dX11_beginAnew_44 (by decide) (fun c => ?_) (fun c => ?_)
  · have h := h.1 c
    exact gG_exit ⟨rfl, rfl, rfl, dX11_beginAnew_63, rfl, h⟩
  · have h := h.2 c
    refine gG_aload_n dX11_beginAnew_47 rfl rfl ?_
    obtain ⟨fs, q1, e1, e2, h⟩ := h
    refine gG_gr dX11_beginAnew_48 fl_X11_85 ⟨fs, q1, e1, e2, ?_⟩
    refine gG_iload_n dX11_beginAnew_51 rfl rfl ?_
    obtain ⟨m0, f0, q2, e1, e2, e3, h⟩ := h
    refine gG_aald (t := 5) (by decide) dX11_beginAnew_52 ⟨m0, f0, q2, e1, e2, e3, ?_⟩
    refine gG_iconst (v := 0) dX11_beginAnew_53 (by decide) ?_
    obtain ⟨fs, e1, e2, h⟩ := h
    refine gG_pz (b := false) rfl dX11_beginAnew_54 fl_X11_307 ⟨fs, e1, e2, ?_⟩
    obtain ⟨H3, eH⟩ : ∃ z, z = va_up H (q2) (.inr (6, fs.set 0 (.int (g_b false)))) := ⟨_, rfl⟩
    rw [← eH] at h ⊢
    refine gG_iinc (v := i1 + 1) dX11_beginAnew_57 rfl rfl (Nat.le_of_ble_eq_true rfl) ?_
    refine gG_goto (tgt := 42) dX11_beginAnew_60 (by decide) ?_
    refine gG_locals ?_ h
    exact ⟨rfl, ⟨rfl, trivial⟩⟩

theorem kX11_keepPast_0 {d n : Nat} {H : gHp} {P : gHp → Prop} {a0 : Nat} (hd1 : 1 ≤ d) (h : g_gr H (a0) 11 12 (fun q1 => g_gi H (a0) 11 13 (fun x2 => g_rl 4 H (q1) (x2) (fun q3 => g_gr H (a0) 11 10 (fun q4 => (∃ fs, H (q3) = .inr (9, fs)) ∧ g_cvd d mX9_copyFrom n H [.ref (q3), .ref (q4)] (fun H5 => g_gi H5 (a0) 11 13 (fun x6 => g_pf H5 (a0) 11 13 (.int (((x6 + (1 : Int32)) &&& (15 : Int32)))) (fun H7 => g_gi H7 (a0) 11 14 (fun x8 => g_pf H7 (a0) 11 14 (.int ((if (16 : Int32) < (x8 + (1 : Int32)) then (16 : Int32) else (x8 + (1 : Int32))))) (fun H9 => P H9)))))))))) : gG d mX11_keepPast 0 0 (g_Xv mX11_keepPast n 0 0 P) 0 n H [some (.ref (a0))] [] 0 0 := by
  refine gG_aload_n dX11_keepPast_0 rfl rfl ?_
  obtain ⟨fs, q1, e1, e2, h⟩ := h
  refine gG_gr dX11_keepPast_1 fl_X11_79 ⟨fs, q1, e1, e2, ?_⟩
  refine gG_aload_n dX11_keepPast_4 rfl rfl ?_
  obtain ⟨fs, x2, e1, e2, h⟩ := h
  refine gG_gi dX11_keepPast_5 fl_X11_184 ⟨fs, x2, e1, e2, ?_⟩
  obtain ⟨m0, f0, q3, e1, e2, e3, h⟩ := h
  refine gG_aald (t := 4) (by decide) dX11_keepPast_8 ⟨m0, f0, q3, e1, e2, e3, ?_⟩
  refine gG_aload_n dX11_keepPast_9 rfl rfl ?_
  obtain ⟨fs, q4, e1, e2, h⟩ := h
  refine gG_gr dX11_keepPast_10 fl_X11_72 ⟨fs, q4, e1, e2, ?_⟩
  obtain ⟨hrc, d2, P2, hdd, hC, h⟩ := h
  refine gG_cvv (As := [.ref (q4)]) (st := []) dX11_keepPast_13 mV_X11_187 hdd hrc rfl rfl (Nat.le_of_ble_eq_true rfl) (Nat.le_refl _) ⟨Nat.le_refl _, Nat.le_refl _⟩ hC (fun H5 hp => ?_)
  have h := h H5 hp
  refine gG_aload_n dX11_keepPast_16 rfl rfl ?_
  refine gG_aload_n dX11_keepPast_17 rfl rfl ?_
  obtain ⟨fs, x6, e1, e2, h⟩ := h
  refine gG_gi dX11_keepPast_18 fl_X11_184 ⟨fs, x6, e1, e2, ?_⟩
  refine gG_iconst (v := 1) dX11_keepPast_21 (by decide) ?_
  refine gG_iadd dX11_keepPast_22 ?_
  refine gG_bipush (v := 15) dX11_keepPast_23 (by decide) ?_
  refine gG_iand dX11_keepPast_25 ?_
  obtain ⟨fs, e1, e2, h⟩ := h
  refine gG_pi dX11_keepPast_26 fl_X11_184 ⟨fs, e1, e2, ?_⟩
  obtain ⟨H7, eH⟩ : ∃ z, z = va_up H5 (a0) (.inr (11, fs.set 13 (.int (((x6 + (1 : Int32)) &&& (15 : Int32)))))) := ⟨_, rfl⟩
  rw [← eH] at h ⊢
  refine gG_aload_n dX11_keepPast_29 rfl rfl ?_
  refine gG_aload_n dX11_keepPast_30 rfl rfl ?_
  obtain ⟨fs, x8, e1, e2, h⟩ := h
  refine gG_gi dX11_keepPast_31 fl_X11_181 ⟨fs, x8, e1, e2, ?_⟩
  refine gG_iconst (v := 1) dX11_keepPast_34 (by decide) ?_
  refine gG_iadd dX11_keepPast_35 ?_
  refine gG_bipush (v := 16) dX11_keepPast_36 (by decide) ?_
  refine gG_min dX11_keepPast_38 lk_X11_334 st_min ini_Math co_min hd1 (Nat.le_of_ble_eq_true rfl) (Nat.le_refl _) (Nat.le_refl _) ?_
  obtain ⟨fs, e1, e2, h⟩ := h
  refine gG_pi dX11_keepPast_41 fl_X11_181 ⟨fs, e1, e2, ?_⟩
  obtain ⟨H9, eH⟩ : ∃ z, z = va_up H7 (a0) (.inr (11, fs.set 14 (.int ((if (16 : Int32) < (x8 + (1 : Int32)) then (16 : Int32) else (x8 + (1 : Int32))))))) := ⟨_, rfl⟩
  rw [← eH] at h ⊢
  exact gG_exit ⟨rfl, rfl, rfl, dX11_keepPast_44, rfl, h⟩

theorem kX11_passTrialMinute_0 {d n : Nat} {H : gHp} {P : gHp → Int32 → Prop} {a0 : Nat} (h : g_gr H (a0) 11 11 (fun q1 => g_gr H (a0) 11 3 (fun q2 => g_gr H (a0) 11 3 (fun q3 => g_gr H (a0) 11 11 (fun q4 => g_gi H (q4) 9 0 (fun x5 => (∃ fs, H (q3) = .inr (1, fs)) ∧ g_ci d mX1_rainOf n H [.ref (q3), .int (x5)] (fun H6 x7 => (∃ fs, H6 (q1) = .inr (9, fs)) ∧ g_ci d mX9_passMinute n H6 [.ref (q1), .ref (q2), .int (x7)] (fun H8 x9 => P H8 (x9))))))))) : gG d mX11_passTrialMinute 0 0 (g_Xj mX11_passTrialMinute n 0 0 P) 0 n H [some (.ref (a0))] [] 0 0 := by
  refine gG_aload_n dX11_passTrialMinute_0 rfl rfl ?_
  obtain ⟨fs, q1, e1, e2, h⟩ := h
  refine gG_gr dX11_passTrialMinute_1 fl_X11_76 ⟨fs, q1, e1, e2, ?_⟩
  refine gG_aload_n dX11_passTrialMinute_4 rfl rfl ?_
  obtain ⟨fs, q2, e1, e2, h⟩ := h
  refine gG_gr dX11_passTrialMinute_5 fl_X11_35 ⟨fs, q2, e1, e2, ?_⟩
  refine gG_aload_n dX11_passTrialMinute_8 rfl rfl ?_
  obtain ⟨fs, q3, e1, e2, h⟩ := h
  refine gG_gr dX11_passTrialMinute_9 fl_X11_35 ⟨fs, q3, e1, e2, ?_⟩
  refine gG_aload_n dX11_passTrialMinute_12 rfl rfl ?_
  obtain ⟨fs, q4, e1, e2, h⟩ := h
  refine gG_gr dX11_passTrialMinute_13 fl_X11_76 ⟨fs, q4, e1, e2, ?_⟩
  obtain ⟨fs, x5, e1, e2, h⟩ := h
  refine gG_gi dX11_passTrialMinute_16 fl_X11_160 ⟨fs, x5, e1, e2, ?_⟩
  obtain ⟨hrc, d2, P2, hdd, hC, h⟩ := h
  refine gG_cvi (As := [.int (x5)]) (st := [.ref (q2), .ref (q1)]) dX11_passTrialMinute_19 mV_X11_163 hdd hrc rfl rfl (Nat.le_of_ble_eq_true rfl) (Nat.le_refl _) ⟨Nat.le_refl _, Nat.le_refl _⟩ hC (fun H6 x7 hp => ?_)
  have h := h H6 x7 hp
  obtain ⟨hrc, d2, P2, hdd, hC, h⟩ := h
  refine gG_cvi (As := [.ref (q2), .int (x7)]) (st := []) dX11_passTrialMinute_22 mV_X11_167 hdd hrc rfl rfl (Nat.le_of_ble_eq_true rfl) (Nat.le_refl _) ⟨Nat.le_refl _, Nat.le_refl _⟩ hC (fun H8 x9 hp => ?_)
  have h := h H8 x9 hp
  exact gG_exit ⟨rfl, rfl, rfl, dX11_passTrialMinute_25, _, rfl, h⟩

theorem kX11_doLine_0 {d n : Nat} {H : gHp} {P : gHp → Int32 → Prop} {a0 : Nat} {i1 : Int32} (h : g_gr H (a0) 11 5 (fun q1 => g_gr H (q1) 0 2 (fun q2 => g_al 0 H (q2) (i1) (fun x3 => g_gr H (a0) 11 5 (fun q4 => g_gr H (q4) 0 1 (fun q5 => g_al 0 H (q5) (i1) (fun x6 => ((x6).toInt < 0 ∨ 2 < (x6).toInt → g_gr H (a0) 11 11 (fun q7 => (∃ fs, H (q7) = .inr (9, fs)) ∧ g_cz d mX9_clearMouth n H [.ref (q7), .int (x3)] (fun H8 b9 => (b9 = false → P H8 ((-2 : Int32))) ∧ (b9 = true → P H8 ((-1 : Int32)))))) ∧ (x6 = 0 → (∃ fs, H (a0) = .inr (11, fs)) ∧ g_ci d mX11_passTrialMinute n H [.ref (a0)] (fun H10 x11 => P H10 (x11))) ∧ (x6 = 1 → g_gr H (a0) 11 11 (fun q12 => g_gr H (a0) 11 5 (fun q13 => g_gr H (q13) 0 3 (fun q14 => g_al 0 H (q14) (i1) (fun x15 => (∃ fs, H (q12) = .inr (9, fs)) ∧ g_cvd d mX9_addWater n H [.ref (q12), .int (x3), .int (x15)] (fun H16 => P H16 ((-1 : Int32)))))))) ∧ (x6 = 2 → g_gr H (a0) 11 11 (fun q17 => (∃ fs, H (q17) = .inr (9, fs)) ∧ g_cz d mX9_stopMouth n H [.ref (q17), .int (x3)] (fun H18 b19 => (b19 = false → P H18 ((-2 : Int32))) ∧ (b19 = true → P H18 ((-1 : Int32))))))))))))) : gG d mX11_doLine 0 0 (g_Xj mX11_doLine n 0 0 P) 0 n H [some (.ref (a0)), some (.int (i1)), none] [] 0 0 := by
  refine gG_aload_n dX11_doLine_0 rfl rfl ?_
  obtain ⟨fs, q1, e1, e2, h⟩ := h
  refine gG_gr dX11_doLine_1 fl_X11_45 ⟨fs, q1, e1, e2, ?_⟩
  obtain ⟨fs, q2, e1, e2, h⟩ := h
  refine gG_gr dX11_doLine_4 fl_X11_337 ⟨fs, q2, e1, e2, ?_⟩
  refine gG_iload_n dX11_doLine_7 rfl rfl ?_
  obtain ⟨m0, f0, e1, e2, h⟩ := h
  refine gG_iald dX11_doLine_8 ⟨m0, f0, e1, e2, ?_⟩
  obtain ⟨x3, eH⟩ : ∃ z, z = f0 (Int32.toNatClampNeg (i1)) := ⟨_, rfl⟩
  rw [← eH] at h ⊢
  refine gG_istore_n dX11_doLine_9 rfl (Nat.le_of_ble_eq_true rfl) ?_
  refine gG_aload_n dX11_doLine_10 rfl rfl ?_
  obtain ⟨fs, q4, e1, e2, h⟩ := h
  refine gG_gr dX11_doLine_11 fl_X11_45 ⟨fs, q4, e1, e2, ?_⟩
  obtain ⟨fs, q5, e1, e2, h⟩ := h
  refine gG_gr dX11_doLine_14 fl_X11_340 ⟨fs, q5, e1, e2, ?_⟩
  refine gG_iload_n dX11_doLine_17 rfl rfl ?_
  obtain ⟨m0, f0, e1, e2, h⟩ := h
  refine gG_iald dX11_doLine_18 ⟨m0, f0, e1, e2, ?_⟩
  obtain ⟨x6, eH⟩ : ∃ z, z = f0 (Int32.toNatClampNeg (i1)) := ⟨_, rfl⟩
  rw [← eH] at h ⊢
  by_cases hz : (x6).toInt < 0 ∨ 2 < (x6).toInt
  · refine gG_tableOut (tgt := 86) dX11_doLine_19 hz (by decide) ?_
    have h := h.1 hz
    refine gG_aload_n dX11_doLine_86 rfl rfl ?_
    obtain ⟨fs, q7, e1, e2, h⟩ := h
    refine gG_gr dX11_doLine_87 fl_X11_76 ⟨fs, q7, e1, e2, ?_⟩
    refine gG_iload_n dX11_doLine_90 rfl rfl ?_
    obtain ⟨hrc, d2, P2, hdd, hC, h⟩ := h
    refine gG_cvi (As := [.int (x3)]) (st := []) dX11_doLine_91 mV_X11_178 hdd hrc rfl rfl (Nat.le_of_ble_eq_true rfl) (Nat.le_refl _) ⟨Nat.le_refl _, Nat.le_refl _⟩ hC (fun H8 x9 hp => ?_)
    obtain ⟨b9, rfl, hp⟩ := hp
    have h := h H8 b9 hp
    refine gG_if_eq (tgt := 101) dX11_doLine_94 (by decide) (fun c => ?_) (fun c => ?_)
    · have h := h.1 (g_b_f c)
      refine gG_bipush (v := (-2)) dX11_doLine_101 (by decide) ?_
      exact gG_exit ⟨rfl, rfl, rfl, dX11_doLine_103, _, rfl, h⟩
    · have h := h.2 (g_b_t c)
      refine gG_iconst (v := (-1)) dX11_doLine_97 (by decide) ?_
      refine gG_goto (tgt := 103) dX11_doLine_98 (by decide) ?_
      exact gG_exit ⟨rfl, rfl, rfl, dX11_doLine_103, _, rfl, h⟩
  · have h := h.2
    obtain ⟨x9, e9⟩ : ∃ x9 : Int32, x9 = x6 := ⟨_, rfl⟩
    have hz2 : x9 = 0 ∨ x9 = 1 ∨ x9 = 2 := by
      rw [← e9] at hz
      exact g_sw_0_2 hz
    rw [← e9]; rw [← e9] at h
    rcases hz2 with z | z | z <;> rw [z] at h ⊢
    · refine gG_tableIn (tgt := 44) dX11_doLine_19 (by decide) (by decide) rfl (by decide) ?_
      have h := h.1 rfl
      refine gG_aload_n dX11_doLine_44 rfl rfl ?_
      obtain ⟨hrc, d2, P2, hdd, hC, h⟩ := h
      refine gG_cvi (As := []) (st := []) dX11_doLine_45 mV_X11_202 hdd hrc rfl rfl (Nat.le_of_ble_eq_true rfl) (Nat.le_refl _) ⟨Nat.le_refl _, Nat.le_refl _⟩ hC (fun H10 x11 hp => ?_)
      have h := h H10 x11 hp
      exact gG_exit ⟨rfl, rfl, rfl, dX11_doLine_48, _, rfl, h⟩
    · refine gG_tableIn (tgt := 49) dX11_doLine_19 (by decide) (by decide) rfl (by decide) ?_
      have h := h.2.1 rfl
      refine gG_aload_n dX11_doLine_49 rfl rfl ?_
      obtain ⟨fs, q12, e1, e2, h⟩ := h
      refine gG_gr dX11_doLine_50 fl_X11_76 ⟨fs, q12, e1, e2, ?_⟩
      refine gG_iload_n dX11_doLine_53 rfl rfl ?_
      refine gG_aload_n dX11_doLine_54 rfl rfl ?_
      obtain ⟨fs, q13, e1, e2, h⟩ := h
      refine gG_gr dX11_doLine_55 fl_X11_45 ⟨fs, q13, e1, e2, ?_⟩
      obtain ⟨fs, q14, e1, e2, h⟩ := h
      refine gG_gr dX11_doLine_58 fl_X11_343 ⟨fs, q14, e1, e2, ?_⟩
      refine gG_iload_n dX11_doLine_61 rfl rfl ?_
      obtain ⟨m0, f0, e1, e2, h⟩ := h
      refine gG_iald dX11_doLine_62 ⟨m0, f0, e1, e2, ?_⟩
      obtain ⟨x15, eH⟩ : ∃ z, z = f0 (Int32.toNatClampNeg (i1)) := ⟨_, rfl⟩
      rw [← eH] at h ⊢
      obtain ⟨hrc, d2, P2, hdd, hC, h⟩ := h
      refine gG_cvv (As := [.int (x3), .int (x15)]) (st := []) dX11_doLine_63 mV_X11_171 hdd hrc rfl rfl (Nat.le_of_ble_eq_true rfl) (Nat.le_refl _) ⟨Nat.le_refl _, Nat.le_refl _⟩ hC (fun H16 hp => ?_)
      have h := h H16 hp
      refine gG_iconst (v := (-1)) dX11_doLine_66 (by decide) ?_
      exact gG_exit ⟨rfl, rfl, rfl, dX11_doLine_67, _, rfl, h⟩
    · refine gG_tableIn (tgt := 68) dX11_doLine_19 (by decide) (by decide) rfl (by decide) ?_
      have h := h.2.2 rfl
      refine gG_aload_n dX11_doLine_68 rfl rfl ?_
      obtain ⟨fs, q17, e1, e2, h⟩ := h
      refine gG_gr dX11_doLine_69 fl_X11_76 ⟨fs, q17, e1, e2, ?_⟩
      refine gG_iload_n dX11_doLine_72 rfl rfl ?_
      obtain ⟨hrc, d2, P2, hdd, hC, h⟩ := h
      refine gG_cvi (As := [.int (x3)]) (st := []) dX11_doLine_73 mV_X11_175 hdd hrc rfl rfl (Nat.le_of_ble_eq_true rfl) (Nat.le_refl _) ⟨Nat.le_refl _, Nat.le_refl _⟩ hC (fun H18 x9 hp => ?_)
      obtain ⟨b19, rfl, hp⟩ := hp
      have h := h H18 b19 hp
      refine gG_if_eq (tgt := 83) dX11_doLine_76 (by decide) (fun c => ?_) (fun c => ?_)
      · have h := h.1 (g_b_f c)
        refine gG_bipush (v := (-2)) dX11_doLine_83 (by decide) ?_
        exact gG_exit ⟨rfl, rfl, rfl, dX11_doLine_85, _, rfl, h⟩
      · have h := h.2 (g_b_t c)
        refine gG_iconst (v := (-1)) dX11_doLine_79 (by decide) ?_
        refine gG_goto (tgt := 85) dX11_doLine_80 (by decide) ?_
        exact gG_exit ⟨rfl, rfl, rfl, dX11_doLine_85, _, rfl, h⟩

theorem kX11_isReadWith_0 {d n : Nat} {H : gHp} {P : gHp → Bool → Prop} {a0 : Nat} {i1 : Int32} {i2 : Int32} {i3 : Int32} (h : g_gr H (a0) 11 11 (fun q1 => g_gr H (a0) 11 10 (fun q2 => (∃ fs, H (q1) = .inr (9, fs)) ∧ g_cvd d mX9_copyFrom n H [.ref (q1), .ref (q2)] (fun H3 => (i2 = (-1 : Int32) → (∃ fs, H3 (a0) = .inr (11, fs)) ∧ g_ci d mX11_passTrialMinute n H3 [.ref (a0)] (fun H4 x5 => (¬ (x5 = i1) → P H4 false) ∧ (x5 = i1 → P H4 true))) ∧ (¬ (i2 = (-1 : Int32)) → g_gr H3 (a0) 11 11 (fun q6 => (∃ fs, H3 (q6) = .inr (9, fs)) ∧ g_cvd d mX9_addWater n H3 [.ref (q6), .int (i2), .int (i3)] (fun H7 => (∃ fs, H7 (a0) = .inr (11, fs)) ∧ g_ci d mX11_passTrialMinute n H7 [.ref (a0)] (fun H8 x9 => (¬ (x9 = i1) → P H8 false) ∧ (x9 = i1 → P H8 true))))))))) : gG d mX11_isReadWith 0 0 (g_Xz mX11_isReadWith n 0 0 P) 0 n H [some (.ref (a0)), some (.int (i1)), some (.int (i2)), some (.int (i3))] [] 0 0 := by
  refine gG_aload_n dX11_isReadWith_0 rfl rfl ?_
  obtain ⟨fs, q1, e1, e2, h⟩ := h
  refine gG_gr dX11_isReadWith_1 fl_X11_76 ⟨fs, q1, e1, e2, ?_⟩
  refine gG_aload_n dX11_isReadWith_4 rfl rfl ?_
  obtain ⟨fs, q2, e1, e2, h⟩ := h
  refine gG_gr dX11_isReadWith_5 fl_X11_72 ⟨fs, q2, e1, e2, ?_⟩
  obtain ⟨hrc, d2, P2, hdd, hC, h⟩ := h
  refine gG_cvv (As := [.ref (q2)]) (st := []) dX11_isReadWith_8 mV_X11_187 hdd hrc rfl rfl (Nat.le_of_ble_eq_true rfl) (Nat.le_refl _) ⟨Nat.le_refl _, Nat.le_refl _⟩ hC (fun H3 hp => ?_)
  have h := h H3 hp
  refine gG_iload_n dX11_isReadWith_11 rfl rfl ?_
  refine gG_iconst (v := (-1)) dX11_isReadWith_12 (by decide) ?_
  refine gG_ic_eq (tgt := 25) dX11_isReadWith_13 (by decide) (fun c => ?_) (fun c => ?_)
  · have h := h.1 c
    refine gG_aload_n dX11_isReadWith_25 rfl rfl ?_
    obtain ⟨hrc, d2, P2, hdd, hC, h⟩ := h
    refine gG_cvi (As := []) (st := []) dX11_isReadWith_26 mV_X11_202 hdd hrc rfl rfl (Nat.le_of_ble_eq_true rfl) (Nat.le_refl _) ⟨Nat.le_refl _, Nat.le_refl _⟩ hC (fun H4 x5 hp => ?_)
    have h := h H4 x5 hp
    refine gG_iload_n dX11_isReadWith_29 rfl rfl ?_
    refine gG_ic_ne (tgt := 37) dX11_isReadWith_30 (by decide) (fun c => ?_) (fun c => ?_)
    · have h := h.1 c
      refine gG_iconst (v := 0) dX11_isReadWith_37 (by decide) ?_
      exact gG_exit ⟨rfl, rfl, rfl, dX11_isReadWith_38, false, rfl, h⟩
    · have h := h.2 c
      refine gG_iconst (v := 1) dX11_isReadWith_33 (by decide) ?_
      refine gG_goto (tgt := 38) dX11_isReadWith_34 (by decide) ?_
      exact gG_exit ⟨rfl, rfl, rfl, dX11_isReadWith_38, true, rfl, h⟩
  · have h := h.2 c
    refine gG_aload_n dX11_isReadWith_16 rfl rfl ?_
    obtain ⟨fs, q6, e1, e2, h⟩ := h
    refine gG_gr dX11_isReadWith_17 fl_X11_76 ⟨fs, q6, e1, e2, ?_⟩
    refine gG_iload_n dX11_isReadWith_20 rfl rfl ?_
    refine gG_iload_n dX11_isReadWith_21 rfl rfl ?_
    obtain ⟨hrc, d2, P2, hdd, hC, h⟩ := h
    refine gG_cvv (As := [.int (i2), .int (i3)]) (st := []) dX11_isReadWith_22 mV_X11_171 hdd hrc rfl rfl (Nat.le_of_ble_eq_true rfl) (Nat.le_refl _) ⟨Nat.le_refl _, Nat.le_refl _⟩ hC (fun H7 hp => ?_)
    have h := h H7 hp
    refine gG_aload_n dX11_isReadWith_25 rfl rfl ?_
    obtain ⟨hrc, d2, P2, hdd, hC, h⟩ := h
    refine gG_cvi (As := []) (st := []) dX11_isReadWith_26 mV_X11_202 hdd hrc rfl rfl (Nat.le_of_ble_eq_true rfl) (Nat.le_refl _) ⟨Nat.le_refl _, Nat.le_refl _⟩ hC (fun H8 x9 hp => ?_)
    have h := h H8 x9 hp
    refine gG_iload_n dX11_isReadWith_29 rfl rfl ?_
    refine gG_ic_ne (tgt := 37) dX11_isReadWith_30 (by decide) (fun c => ?_) (fun c => ?_)
    · have h := h.1 c
      refine gG_iconst (v := 0) dX11_isReadWith_37 (by decide) ?_
      exact gG_exit ⟨rfl, rfl, rfl, dX11_isReadWith_38, false, rfl, h⟩
    · have h := h.2 c
      refine gG_iconst (v := 1) dX11_isReadWith_33 (by decide) ?_
      refine gG_goto (tgt := 38) dX11_isReadWith_34 (by decide) ?_
      exact gG_exit ⟨rfl, rfl, rfl, dX11_isReadWith_38, true, rfl, h⟩

theorem kX11_isReadTurned_0 {d n : Nat} {H : gHp} {P : gHp → Bool → Prop} {a0 : Nat} {i1 : Int32} {i2 : Int32} (h : g_gr H (a0) 11 11 (fun q1 => g_gr H (a0) 11 10 (fun q2 => (∃ fs, H (q1) = .inr (9, fs)) ∧ g_cvd d mX9_copyFrom n H [.ref (q1), .ref (q2)] (fun H3 => g_gr H3 (a0) 11 11 (fun q4 => g_gi H3 (q4) 9 1 (fun x5 => g_pf H3 (q4) 9 1 (.int ((x5 ^^^ i2))) (fun H6 => (∃ fs, H6 (a0) = .inr (11, fs)) ∧ g_ci d mX11_passTrialMinute n H6 [.ref (a0)] (fun H7 x8 => (¬ (x8 = i1) → P H7 false) ∧ (x8 = i1 → P H7 true))))))))) : gG d mX11_isReadTurned 0 0 (g_Xz mX11_isReadTurned n 0 0 P) 0 n H [some (.ref (a0)), some (.int (i1)), some (.int (i2))] [] 0 0 := by
  refine gG_aload_n dX11_isReadTurned_0 rfl rfl ?_
  obtain ⟨fs, q1, e1, e2, h⟩ := h
  refine gG_gr dX11_isReadTurned_1 fl_X11_76 ⟨fs, q1, e1, e2, ?_⟩
  refine gG_aload_n dX11_isReadTurned_4 rfl rfl ?_
  obtain ⟨fs, q2, e1, e2, h⟩ := h
  refine gG_gr dX11_isReadTurned_5 fl_X11_72 ⟨fs, q2, e1, e2, ?_⟩
  obtain ⟨hrc, d2, P2, hdd, hC, h⟩ := h
  refine gG_cvv (As := [.ref (q2)]) (st := []) dX11_isReadTurned_8 mV_X11_187 hdd hrc rfl rfl (Nat.le_of_ble_eq_true rfl) (Nat.le_refl _) ⟨Nat.le_refl _, Nat.le_refl _⟩ hC (fun H3 hp => ?_)
  have h := h H3 hp
  refine gG_aload_n dX11_isReadTurned_11 rfl rfl ?_
  obtain ⟨fs, q4, e1, e2, h⟩ := h
  refine gG_gr dX11_isReadTurned_12 fl_X11_76 ⟨fs, q4, e1, e2, ?_⟩
  refine gG_dup dX11_isReadTurned_15 rfl ?_
  obtain ⟨fs, x5, e1, e2, h⟩ := h
  refine gG_gi dX11_isReadTurned_16 fl_X11_330 ⟨fs, x5, e1, e2, ?_⟩
  refine gG_iload_n dX11_isReadTurned_19 rfl rfl ?_
  refine gG_ixor dX11_isReadTurned_20 ?_
  obtain ⟨fs, e1, e2, h⟩ := h
  refine gG_pi dX11_isReadTurned_21 fl_X11_330 ⟨fs, e1, e2, ?_⟩
  obtain ⟨H6, eH⟩ : ∃ z, z = va_up H3 (q4) (.inr (9, fs.set 1 (.int ((x5 ^^^ i2))))) := ⟨_, rfl⟩
  rw [← eH] at h ⊢
  refine gG_aload_n dX11_isReadTurned_24 rfl rfl ?_
  obtain ⟨hrc, d2, P2, hdd, hC, h⟩ := h
  refine gG_cvi (As := []) (st := []) dX11_isReadTurned_25 mV_X11_202 hdd hrc rfl rfl (Nat.le_of_ble_eq_true rfl) (Nat.le_refl _) ⟨Nat.le_refl _, Nat.le_refl _⟩ hC (fun H7 x8 hp => ?_)
  have h := h H7 x8 hp
  refine gG_iload_n dX11_isReadTurned_28 rfl rfl ?_
  refine gG_ic_ne (tgt := 36) dX11_isReadTurned_29 (by decide) (fun c => ?_) (fun c => ?_)
  · have h := h.1 c
    refine gG_iconst (v := 0) dX11_isReadTurned_36 (by decide) ?_
    exact gG_exit ⟨rfl, rfl, rfl, dX11_isReadTurned_37, false, rfl, h⟩
  · have h := h.2 c
    refine gG_iconst (v := 1) dX11_isReadTurned_32 (by decide) ?_
    refine gG_goto (tgt := 37) dX11_isReadTurned_33 (by decide) ?_
    exact gG_exit ⟨rfl, rfl, rfl, dX11_isReadTurned_37, true, rfl, h⟩

theorem kX11_soundingIn_0 {d n : Nat} {H : gHp} {P : gHp → Int32 → Prop} {a0 : Nat} {i1 : Int32} (h : g_gr H (a0) 11 11 (fun q1 => g_gr H (a0) 11 10 (fun q2 => (∃ fs, H (q1) = .inr (9, fs)) ∧ g_cvd d mX9_copyFrom n H [.ref (q1), .ref (q2)] (fun H3 => g_gr H3 (a0) 11 11 (fun q4 => g_gr H3 (a0) 11 3 (fun q5 => (∃ fs, H3 (q4) = .inr (9, fs)) ∧ g_ci d mX9_passMinute n H3 [.ref (q4), .ref (q5), .int (i1)] (fun H6 x7 => g_gr H6 (a0) 11 11 (fun q8 => g_gi H6 (q8) 9 4 (fun x9 => P H6 (x9)))))))))) : gG d mX11_soundingIn 0 0 (g_Xj mX11_soundingIn n 0 0 P) 0 n H [some (.ref (a0)), some (.int (i1))] [] 0 0 := by
  refine gG_aload_n dX11_soundingIn_0 rfl rfl ?_
  obtain ⟨fs, q1, e1, e2, h⟩ := h
  refine gG_gr dX11_soundingIn_1 fl_X11_76 ⟨fs, q1, e1, e2, ?_⟩
  refine gG_aload_n dX11_soundingIn_4 rfl rfl ?_
  obtain ⟨fs, q2, e1, e2, h⟩ := h
  refine gG_gr dX11_soundingIn_5 fl_X11_72 ⟨fs, q2, e1, e2, ?_⟩
  obtain ⟨hrc, d2, P2, hdd, hC, h⟩ := h
  refine gG_cvv (As := [.ref (q2)]) (st := []) dX11_soundingIn_8 mV_X11_187 hdd hrc rfl rfl (Nat.le_of_ble_eq_true rfl) (Nat.le_refl _) ⟨Nat.le_refl _, Nat.le_refl _⟩ hC (fun H3 hp => ?_)
  have h := h H3 hp
  refine gG_aload_n dX11_soundingIn_11 rfl rfl ?_
  obtain ⟨fs, q4, e1, e2, h⟩ := h
  refine gG_gr dX11_soundingIn_12 fl_X11_76 ⟨fs, q4, e1, e2, ?_⟩
  refine gG_aload_n dX11_soundingIn_15 rfl rfl ?_
  obtain ⟨fs, q5, e1, e2, h⟩ := h
  refine gG_gr dX11_soundingIn_16 fl_X11_35 ⟨fs, q5, e1, e2, ?_⟩
  refine gG_iload_n dX11_soundingIn_19 rfl rfl ?_
  obtain ⟨hrc, d2, P2, hdd, hC, h⟩ := h
  refine gG_cvi (As := [.ref (q5), .int (i1)]) (st := []) dX11_soundingIn_20 mV_X11_167 hdd hrc rfl rfl (Nat.le_of_ble_eq_true rfl) (Nat.le_refl _) ⟨Nat.le_refl _, Nat.le_refl _⟩ hC (fun H6 x7 hp => ?_)
  have h := h H6 x7 hp
  refine gG_pop dX11_soundingIn_23 rfl ?_
  refine gG_aload_n dX11_soundingIn_24 rfl rfl ?_
  obtain ⟨fs, q8, e1, e2, h⟩ := h
  refine gG_gr dX11_soundingIn_25 fl_X11_76 ⟨fs, q8, e1, e2, ?_⟩
  obtain ⟨fs, x9, e1, e2, h⟩ := h
  refine gG_gi dX11_soundingIn_28 fl_X11_247 ⟨fs, x9, e1, e2, ?_⟩
  exact gG_exit ⟨rfl, rfl, rfl, dX11_soundingIn_31, _, rfl, h⟩

theorem kX11_isReadInOddRain_0 {d n : Nat} {H : gHp} {P : gHp → Bool → Prop} {a0 : Nat} {i1 : Int32} {i2 : Int32} {i3 : Int32} (h : g_gr H (a0) 11 11 (fun q1 => g_gr H (a0) 11 10 (fun q2 => (∃ fs, H (q1) = .inr (9, fs)) ∧ g_cvd d mX9_copyFrom n H [.ref (q1), .ref (q2)] (fun H3 => gG d mX11_isReadInOddRain 0 0 (g_Xz mX11_isReadInOddRain n 0 0 P) 14 n H3 [some (.ref (a0)), some (.int (i1)), some (.int (i2)), some (.int (i3)), some (.int ((0 : Int32)))] [] (0) (0))))) : gG d mX11_isReadInOddRain 0 0 (g_Xz mX11_isReadInOddRain n 0 0 P) 0 n H [some (.ref (a0)), some (.int (i1)), some (.int (i2)), some (.int (i3)), none] [] 0 0 := by
  refine gG_aload_n dX11_isReadInOddRain_0 rfl rfl ?_
  obtain ⟨fs, q1, e1, e2, h⟩ := h
  refine gG_gr dX11_isReadInOddRain_1 fl_X11_76 ⟨fs, q1, e1, e2, ?_⟩
  refine gG_aload_n dX11_isReadInOddRain_4 rfl rfl ?_
  obtain ⟨fs, q2, e1, e2, h⟩ := h
  refine gG_gr dX11_isReadInOddRain_5 fl_X11_72 ⟨fs, q2, e1, e2, ?_⟩
  obtain ⟨hrc, d2, P2, hdd, hC, h⟩ := h
  refine gG_cvv (As := [.ref (q2)]) (st := []) dX11_isReadInOddRain_8 mV_X11_187 hdd hrc rfl rfl (Nat.le_of_ble_eq_true rfl) (Nat.le_refl _) ⟨Nat.le_refl _, Nat.le_refl _⟩ hC (fun H3 hp => ?_)
  have h := h H3 hp
  refine gG_iconst (v := 0) dX11_isReadInOddRain_11 (by decide) ?_
  refine gG_istore dX11_isReadInOddRain_12 (Nat.le_of_ble_eq_true rfl) ?_
  refine gG_locals ?_ h
  exact ⟨rfl, ⟨rfl, ⟨rfl, ⟨rfl, ⟨rfl, trivial⟩⟩⟩⟩⟩
theorem kX11_isReadInOddRain_14 {d n : Nat} {H : gHp} {P : gHp → Bool → Prop} {a0 : Nat} {i1 : Int32} {i2 : Int32} {i3 : Int32} {i4 : Int32} (h : (i3 ≤ i4 → g_gr H (a0) 11 11 (fun q1 => g_gi H (q1) 9 5 (fun x2 => (¬ (x2 = i1) → P H false) ∧ (x2 = i1 → P H true)))) ∧ (¬ (i3 ≤ i4) → g_gr H (a0) 11 11 (fun q3 => g_gr H (a0) 11 3 (fun q4 => (((i2 >>> (i4 &&& 31)) &&& (1 : Int32)) = 0 → (∃ fs, H (q3) = .inr (9, fs)) ∧ g_ci d mX9_passMinute n H [.ref (q3), .ref (q4), .int ((0 : Int32))] (fun H5 x6 => gG d mX11_isReadInOddRain 0 0 (g_Xz mX11_isReadInOddRain n 0 0 P) 14 n H5 [some (.ref (a0)), some (.int (i1)), some (.int (i2)), some (.int (i3)), some (.int ((i4 + 1)))] [] (0) (0))) ∧ (¬ (((i2 >>> (i4 &&& 31)) &&& (1 : Int32)) = 0) → (∃ fs, H (q3) = .inr (9, fs)) ∧ g_ci d mX9_passMinute n H [.ref (q3), .ref (q4), .int ((9 : Int32))] (fun H7 x8 => gG d mX11_isReadInOddRain 0 0 (g_Xz mX11_isReadInOddRain n 0 0 P) 14 n H7 [some (.ref (a0)), some (.int (i1)), some (.int (i2)), some (.int (i3)), some (.int ((i4 + 1)))] [] (0) (0))))))) : gG d mX11_isReadInOddRain 0 0 (g_Xz mX11_isReadInOddRain n 0 0 P) 14 n H [some (.ref (a0)), some (.int (i1)), some (.int (i2)), some (.int (i3)), some (.int (i4))] [] 0 0 := by
  refine gG_iload dX11_isReadInOddRain_14 rfl ?_
  refine gG_iload_n dX11_isReadInOddRain_16 rfl rfl ?_
  refine gG_ic_ge (tgt := 53) dX11_isReadInOddRain_17 (by decide) (fun c => ?_) (fun c => ?_)
  · have h := h.1 c
    refine gG_aload_n dX11_isReadInOddRain_53 rfl rfl ?_
    obtain ⟨fs, q1, e1, e2, h⟩ := h
    refine gG_gr dX11_isReadInOddRain_54 fl_X11_76 ⟨fs, q1, e1, e2, ?_⟩
    obtain ⟨fs, x2, e1, e2, h⟩ := h
    refine gG_gi dX11_isReadInOddRain_57 fl_X11_209 ⟨fs, x2, e1, e2, ?_⟩
    refine gG_iload_n dX11_isReadInOddRain_60 rfl rfl ?_
    refine gG_ic_ne (tgt := 68) dX11_isReadInOddRain_61 (by decide) (fun c => ?_) (fun c => ?_)
    · have h := h.1 c
      refine gG_iconst (v := 0) dX11_isReadInOddRain_68 (by decide) ?_
      exact gG_exit ⟨rfl, rfl, rfl, dX11_isReadInOddRain_69, false, rfl, h⟩
    · have h := h.2 c
      refine gG_iconst (v := 1) dX11_isReadInOddRain_64 (by decide) ?_
      refine gG_goto (tgt := 69) dX11_isReadInOddRain_65 (by decide) ?_
      exact gG_exit ⟨rfl, rfl, rfl, dX11_isReadInOddRain_69, true, rfl, h⟩
  · have h := h.2 c
    refine gG_aload_n dX11_isReadInOddRain_20 rfl rfl ?_
    obtain ⟨fs, q3, e1, e2, h⟩ := h
    refine gG_gr dX11_isReadInOddRain_21 fl_X11_76 ⟨fs, q3, e1, e2, ?_⟩
    refine gG_aload_n dX11_isReadInOddRain_24 rfl rfl ?_
    obtain ⟨fs, q4, e1, e2, h⟩ := h
    refine gG_gr dX11_isReadInOddRain_25 fl_X11_35 ⟨fs, q4, e1, e2, ?_⟩
    refine gG_iload_n dX11_isReadInOddRain_28 rfl rfl ?_
    refine gG_iload dX11_isReadInOddRain_29 rfl ?_
    refine gG_ishr dX11_isReadInOddRain_31 ?_
    refine gG_iconst (v := 1) dX11_isReadInOddRain_32 (by decide) ?_
    refine gG_iand dX11_isReadInOddRain_33 ?_
    refine gG_if_eq (tgt := 42) dX11_isReadInOddRain_34 (by decide) (fun c => ?_) (fun c => ?_)
    · have h := h.1 c
      refine gG_iconst (v := 0) dX11_isReadInOddRain_42 (by decide) ?_
      obtain ⟨hrc, d2, P2, hdd, hC, h⟩ := h
      refine gG_cvi (As := [.ref (q4), .int ((0 : Int32))]) (st := []) dX11_isReadInOddRain_43 mV_X11_167 hdd hrc rfl rfl (Nat.le_of_ble_eq_true rfl) (Nat.le_refl _) ⟨Nat.le_refl _, Nat.le_refl _⟩ hC (fun H5 x6 hp => ?_)
      have h := h H5 x6 hp
      refine gG_pop dX11_isReadInOddRain_46 rfl ?_
      refine gG_iinc (v := i4 + 1) dX11_isReadInOddRain_47 rfl rfl (Nat.le_of_ble_eq_true rfl) ?_
      refine gG_goto (tgt := 14) dX11_isReadInOddRain_50 (by decide) ?_
      refine gG_locals ?_ h
      exact ⟨rfl, ⟨rfl, ⟨rfl, ⟨rfl, ⟨rfl, trivial⟩⟩⟩⟩⟩
    · have h := h.2 c
      refine gG_bipush (v := 9) dX11_isReadInOddRain_37 (by decide) ?_
      refine gG_goto (tgt := 43) dX11_isReadInOddRain_39 (by decide) ?_
      obtain ⟨hrc, d2, P2, hdd, hC, h⟩ := h
      refine gG_cvi (As := [.ref (q4), .int ((9 : Int32))]) (st := []) dX11_isReadInOddRain_43 mV_X11_167 hdd hrc rfl rfl (Nat.le_of_ble_eq_true rfl) (Nat.le_refl _) ⟨Nat.le_refl _, Nat.le_refl _⟩ hC (fun H7 x8 hp => ?_)
      have h := h H7 x8 hp
      refine gG_pop dX11_isReadInOddRain_46 rfl ?_
      refine gG_iinc (v := i4 + 1) dX11_isReadInOddRain_47 rfl rfl (Nat.le_of_ble_eq_true rfl) ?_
      refine gG_goto (tgt := 14) dX11_isReadInOddRain_50 (by decide) ?_
      refine gG_locals ?_ h
      exact ⟨rfl, ⟨rfl, ⟨rfl, ⟨rfl, ⟨rfl, trivial⟩⟩⟩⟩⟩

theorem kX11_weightOf_0 {d n : Nat} {H : gHp} {P : gHp → Int32 → Prop} {i0 : Int32} {i1 : Int32} {i2 : Int32} (h : gG d mX11_weightOf 0 0 (g_Xj mX11_weightOf n 0 0 P) 5 n H [some (.int (i0)), some (.int (i1)), some (.int (i2)), some (.int ((1 : Int32))), some (.int ((0 : Int32)))] [] (0) (0)) : gG d mX11_weightOf 0 0 (g_Xj mX11_weightOf n 0 0 P) 0 n H [some (.int (i0)), some (.int (i1)), some (.int (i2)), none, none] [] 0 0 := by
  refine gG_iconst (v := 1) dX11_weightOf_0 (by decide) ?_
  refine gG_istore_n dX11_weightOf_1 rfl (Nat.le_of_ble_eq_true rfl) ?_
  refine gG_iconst (v := 0) dX11_weightOf_2 (by decide) ?_
  refine gG_istore dX11_weightOf_3 (Nat.le_of_ble_eq_true rfl) ?_
  refine gG_locals ?_ h
  exact ⟨rfl, ⟨rfl, ⟨rfl, ⟨rfl, ⟨rfl, trivial⟩⟩⟩⟩⟩
theorem kX11_weightOf_5 {d n : Nat} {H : gHp} {P : gHp → Int32 → Prop} {i0 : Int32} {i1 : Int32} {i2 : Int32} {i3 : Int32} {i4 : Int32} (h : (i1 ≤ i4 → P H (i3)) ∧ (¬ (i1 ≤ i4) → (((i0 >>> (i4 &&& 31)) &&& (1 : Int32)) = 0 → gG d mX11_weightOf 0 0 (g_Xj mX11_weightOf n 0 0 P) 5 n H [some (.int (i0)), some (.int (i1)), some (.int (i2)), some (.int ((i3 * ((10 : Int32) - i2)))), some (.int ((i4 + 1)))] [] (0) (0)) ∧ (¬ (((i0 >>> (i4 &&& 31)) &&& (1 : Int32)) = 0) → gG d mX11_weightOf 0 0 (g_Xj mX11_weightOf n 0 0 P) 5 n H [some (.int (i0)), some (.int (i1)), some (.int (i2)), some (.int ((i3 * i2))), some (.int ((i4 + 1)))] [] (0) (0)))) : gG d mX11_weightOf 0 0 (g_Xj mX11_weightOf n 0 0 P) 5 n H [some (.int (i0)), some (.int (i1)), some (.int (i2)), some (.int (i3)), some (.int (i4))] [] 0 0 := by
  refine gG_iload dX11_weightOf_5 rfl ?_
  refine gG_iload_n dX11_weightOf_7 rfl rfl ?_
  refine gG_ic_ge (tgt := 37) dX11_weightOf_8 (by decide) (fun c => ?_) (fun c => ?_)
  · have h := h.1 c
    refine gG_iload_n dX11_weightOf_37 rfl rfl ?_
    exact gG_exit ⟨rfl, rfl, rfl, dX11_weightOf_38, _, rfl, h⟩
  · have h := h.2 c
    refine gG_iload_n dX11_weightOf_11 rfl rfl ?_
    refine gG_iload_n dX11_weightOf_12 rfl rfl ?_
    refine gG_iload dX11_weightOf_13 rfl ?_
    refine gG_ishr dX11_weightOf_15 ?_
    refine gG_iconst (v := 1) dX11_weightOf_16 (by decide) ?_
    refine gG_iand dX11_weightOf_17 ?_
    refine gG_if_eq (tgt := 25) dX11_weightOf_18 (by decide) (fun c => ?_) (fun c => ?_)
    · have h := h.1 c
      refine gG_bipush (v := 10) dX11_weightOf_25 (by decide) ?_
      refine gG_iload_n dX11_weightOf_27 rfl rfl ?_
      refine gG_isub dX11_weightOf_28 ?_
      refine gG_imul dX11_weightOf_29 ?_
      refine gG_istore_n dX11_weightOf_30 rfl (Nat.le_of_ble_eq_true rfl) ?_
      refine gG_iinc (v := i4 + 1) dX11_weightOf_31 rfl rfl (Nat.le_of_ble_eq_true rfl) ?_
      refine gG_goto (tgt := 5) dX11_weightOf_34 (by decide) ?_
      refine gG_locals ?_ h
      exact ⟨rfl, ⟨rfl, ⟨rfl, ⟨rfl, ⟨rfl, trivial⟩⟩⟩⟩⟩
    · have h := h.2 c
      refine gG_iload_n dX11_weightOf_21 rfl rfl ?_
      refine gG_goto (tgt := 29) dX11_weightOf_22 (by decide) ?_
      refine gG_imul dX11_weightOf_29 ?_
      refine gG_istore_n dX11_weightOf_30 rfl (Nat.le_of_ble_eq_true rfl) ?_
      refine gG_iinc (v := i4 + 1) dX11_weightOf_31 rfl rfl (Nat.le_of_ble_eq_true rfl) ?_
      refine gG_goto (tgt := 5) dX11_weightOf_34 (by decide) ?_
      refine gG_locals ?_ h
      exact ⟨rfl, ⟨rfl, ⟨rfl, ⟨rfl, ⟨rfl, trivial⟩⟩⟩⟩⟩

theorem kX11_isRest_0 {d n : Nat} {H : gHp} {P : gHp → Bool → Prop} {i0 : Int32} {i1 : Int32} {i2 : Int32} {i3 : Int32} (h : g_ci d mX11_gain n H [.int (i0), .int (i1), .int (i2), .int ((i3 >>> ((1 : Int32) &&& 31))), .int ((i3 &&& (1 : Int32)))] (fun H1 x2 => g_ci d mX11_gain n H1 [.int (i0), .int (i1), .int (i2), .int (((1 : Int32) - (i3 >>> ((1 : Int32) &&& 31)))), .int ((i3 &&& (1 : Int32)))] (fun H3 x4 => (x2 < x4 → gG d mX11_isRest 0 0 (g_Xz mX11_isRest n 0 0 P) 42 n H3 [some (.int (i0)), some (.int (i1)), some (.int (i2)), none, some (.int ((i3 >>> ((1 : Int32) &&& 31)))), some (.int ((i3 &&& (1 : Int32)))), some (.int ((0 : Int32))), none] [] (0) (0)) ∧ (¬ (x2 < x4) → gG d mX11_isRest 0 0 (g_Xz mX11_isRest n 0 0 P) 42 n H3 [some (.int (i0)), some (.int (i1)), some (.int (i2)), none, some (.int ((i3 >>> ((1 : Int32) &&& 31)))), some (.int ((i3 &&& (1 : Int32)))), some (.int ((1 : Int32))), none] [] (0) (0))))) : gG d mX11_isRest 0 0 (g_Xz mX11_isRest n 0 0 P) 0 n H [some (.int (i0)), some (.int (i1)), some (.int (i2)), some (.int (i3)), none, none, none, none] [] 0 0 := by
  refine gG_iload_n dX11_isRest_0 rfl rfl ?_
  refine gG_iconst (v := 1) dX11_isRest_1 (by decide) ?_
  refine gG_ishr dX11_isRest_2 ?_
  refine gG_istore dX11_isRest_3 (Nat.le_of_ble_eq_true rfl) ?_
  refine gG_iload_n dX11_isRest_5 rfl rfl ?_
  refine gG_iconst (v := 1) dX11_isRest_6 (by decide) ?_
  refine gG_iand dX11_isRest_7 ?_
  refine gG_istore dX11_isRest_8 (Nat.le_of_ble_eq_true rfl) ?_
  refine gG_iload_n dX11_isRest_10 rfl rfl ?_
  refine gG_iload_n dX11_isRest_11 rfl rfl ?_
  refine gG_iload_n dX11_isRest_12 rfl rfl ?_
  refine gG_iload dX11_isRest_13 rfl ?_
  refine gG_iload dX11_isRest_15 rfl ?_
  obtain ⟨d2, P2, hdd, hC, h⟩ := h
  refine gG_csi (As := [.int (i0), .int (i1), .int (i2), .int ((i3 >>> ((1 : Int32) &&& 31))), .int ((i3 &&& (1 : Int32)))]) (st := []) dX11_isRest_17 mS_X11_344 hdd rfl rfl (Nat.le_of_ble_eq_true rfl) (Nat.le_refl _) ⟨Nat.le_refl _, Nat.le_refl _⟩ hC (fun H1 x2 hp => ?_)
  have h := h H1 x2 hp
  refine gG_iload_n dX11_isRest_20 rfl rfl ?_
  refine gG_iload_n dX11_isRest_21 rfl rfl ?_
  refine gG_iload_n dX11_isRest_22 rfl rfl ?_
  refine gG_iconst (v := 1) dX11_isRest_23 (by decide) ?_
  refine gG_iload dX11_isRest_24 rfl ?_
  refine gG_isub dX11_isRest_26 ?_
  refine gG_iload dX11_isRest_27 rfl ?_
  obtain ⟨d2, P2, hdd, hC, h⟩ := h
  refine gG_csi (As := [.int (i0), .int (i1), .int (i2), .int (((1 : Int32) - (i3 >>> ((1 : Int32) &&& 31)))), .int ((i3 &&& (1 : Int32)))]) (st := [.int (x2)]) dX11_isRest_29 mS_X11_344 hdd rfl rfl (Nat.le_of_ble_eq_true rfl) (Nat.le_refl _) ⟨Nat.le_refl _, Nat.le_refl _⟩ hC (fun H3 x4 hp => ?_)
  have h := h H3 x4 hp
  refine gG_ic_lt (tgt := 39) dX11_isRest_32 (by decide) (fun c => ?_) (fun c => ?_)
  · have h := h.1 c
    refine gG_iconst (v := 0) dX11_isRest_39 (by decide) ?_
    refine gG_istore dX11_isRest_40 (Nat.le_of_ble_eq_true rfl) ?_
    refine gG_locals ?_ h
    exact ⟨rfl, ⟨rfl, ⟨rfl, ⟨rfl, ⟨rfl, ⟨rfl, trivial⟩⟩⟩⟩⟩⟩
  · have h := h.2 c
    refine gG_iconst (v := 1) dX11_isRest_35 (by decide) ?_
    refine gG_goto (tgt := 40) dX11_isRest_36 (by decide) ?_
    refine gG_istore dX11_isRest_40 (Nat.le_of_ble_eq_true rfl) ?_
    refine gG_locals ?_ h
    exact ⟨rfl, ⟨rfl, ⟨rfl, ⟨rfl, ⟨rfl, ⟨rfl, trivial⟩⟩⟩⟩⟩⟩
theorem kX11_isRest_42 {d n : Nat} {H : gHp} {P : gHp → Bool → Prop} {i0 : Int32} {i1 : Int32} {i2 : Int32} {i4 : Int32} {i5 : Int32} {i6 : Int32} (h : g_ci d mX11_gain n H [.int (i0), .int (i1), .int (i2), .int (i5), .int (i4)] (fun H1 x2 => g_ci d mX11_gain n H1 [.int (i0), .int (i1), .int (i2), .int (((1 : Int32) - i5)), .int (i4)] (fun H3 x4 => (x2 < x4 → gG d mX11_isRest 0 0 (g_Xz mX11_isRest n 0 0 P) 74 n H3 [none, none, none, none, none, none, some (.int (i6)), some (.int ((0 : Int32)))] [] (0) (0)) ∧ (¬ (x2 < x4) → gG d mX11_isRest 0 0 (g_Xz mX11_isRest n 0 0 P) 74 n H3 [none, none, none, none, none, none, some (.int (i6)), some (.int ((1 : Int32)))] [] (0) (0))))) : gG d mX11_isRest 0 0 (g_Xz mX11_isRest n 0 0 P) 42 n H [some (.int (i0)), some (.int (i1)), some (.int (i2)), none, some (.int (i4)), some (.int (i5)), some (.int (i6)), none] [] 0 0 := by
  refine gG_iload_n dX11_isRest_42 rfl rfl ?_
  refine gG_iload_n dX11_isRest_43 rfl rfl ?_
  refine gG_iload_n dX11_isRest_44 rfl rfl ?_
  refine gG_iload dX11_isRest_45 rfl ?_
  refine gG_iload dX11_isRest_47 rfl ?_
  obtain ⟨d2, P2, hdd, hC, h⟩ := h
  refine gG_csi (As := [.int (i0), .int (i1), .int (i2), .int (i5), .int (i4)]) (st := []) dX11_isRest_49 mS_X11_344 hdd rfl rfl (Nat.le_of_ble_eq_true rfl) (Nat.le_refl _) ⟨Nat.le_refl _, Nat.le_refl _⟩ hC (fun H1 x2 hp => ?_)
  have h := h H1 x2 hp
  refine gG_iload_n dX11_isRest_52 rfl rfl ?_
  refine gG_iload_n dX11_isRest_53 rfl rfl ?_
  refine gG_iload_n dX11_isRest_54 rfl rfl ?_
  refine gG_iconst (v := 1) dX11_isRest_55 (by decide) ?_
  refine gG_iload dX11_isRest_56 rfl ?_
  refine gG_isub dX11_isRest_58 ?_
  refine gG_iload dX11_isRest_59 rfl ?_
  obtain ⟨d2, P2, hdd, hC, h⟩ := h
  refine gG_csi (As := [.int (i0), .int (i1), .int (i2), .int (((1 : Int32) - i5)), .int (i4)]) (st := [.int (x2)]) dX11_isRest_61 mS_X11_344 hdd rfl rfl (Nat.le_of_ble_eq_true rfl) (Nat.le_refl _) ⟨Nat.le_refl _, Nat.le_refl _⟩ hC (fun H3 x4 hp => ?_)
  have h := h H3 x4 hp
  refine gG_ic_lt (tgt := 71) dX11_isRest_64 (by decide) (fun c => ?_) (fun c => ?_)
  · have h := h.1 c
    refine gG_iconst (v := 0) dX11_isRest_71 (by decide) ?_
    refine gG_istore dX11_isRest_72 (Nat.le_of_ble_eq_true rfl) ?_
    refine gG_locals ?_ h
    exact ⟨rfl, ⟨rfl, trivial⟩⟩
  · have h := h.2 c
    refine gG_iconst (v := 1) dX11_isRest_67 (by decide) ?_
    refine gG_goto (tgt := 72) dX11_isRest_68 (by decide) ?_
    refine gG_istore dX11_isRest_72 (Nat.le_of_ble_eq_true rfl) ?_
    refine gG_locals ?_ h
    exact ⟨rfl, ⟨rfl, trivial⟩⟩
theorem kX11_isRest_74 {d n : Nat} {H : gHp} {P : gHp → Bool → Prop} {i6 : Int32} {i7 : Int32} (h : (i6 = 0 → P H false) ∧ (¬ (i6 = 0) → (i7 = 0 → P H false) ∧ (¬ (i7 = 0) → P H true))) : gG d mX11_isRest 0 0 (g_Xz mX11_isRest n 0 0 P) 74 n H [none, none, none, none, none, none, some (.int (i6)), some (.int (i7))] [] 0 0 := by
  refine gG_iload dX11_isRest_74 rfl ?_
  refine gG_if_eq (tgt := 88) dX11_isRest_76 (by decide) (fun c => ?_) (fun c => ?_)
  · have h := h.1 c
    refine gG_iconst (v := 0) dX11_isRest_88 (by decide) ?_
    exact gG_exit ⟨rfl, rfl, rfl, dX11_isRest_89, false, rfl, h⟩
  · have h := h.2 c
    refine gG_iload dX11_isRest_79 rfl ?_
    refine gG_if_eq (tgt := 88) dX11_isRest_81 (by decide) (fun c => ?_) (fun c => ?_)
    · have h := h.1 c
      refine gG_iconst (v := 0) dX11_isRest_88 (by decide) ?_
      exact gG_exit ⟨rfl, rfl, rfl, dX11_isRest_89, false, rfl, h⟩
    · have h := h.2 c
      refine gG_iconst (v := 1) dX11_isRest_84 (by decide) ?_
      refine gG_goto (tgt := 89) dX11_isRest_85 (by decide) ?_
      exact gG_exit ⟨rfl, rfl, rfl, dX11_isRest_89, true, rfl, h⟩

theorem kX11_gain_0 {d n : Nat} {H : gHp} {P : gHp → Int32 → Prop} {i0 : Int32} {i1 : Int32} {i2 : Int32} {i3 : Int32} {i4 : Int32} (h : (¬ (i3 = (1 : Int32)) → (¬ (i4 = (1 : Int32)) → P H ((0 : Int32))) ∧ (i4 = (1 : Int32) → P H (i2))) ∧ (i3 = (1 : Int32) → (¬ (i4 = (1 : Int32)) → P H (i1)) ∧ (i4 = (1 : Int32) → P H ((-i0))))) : gG d mX11_gain 0 0 (g_Xj mX11_gain n 0 0 P) 0 n H [some (.int (i0)), some (.int (i1)), some (.int (i2)), some (.int (i3)), some (.int (i4))] [] 0 0 := by
  refine gG_iload_n dX11_gain_0 rfl rfl ?_
  refine gG_iconst (v := 1) dX11_gain_1 (by decide) ?_
  refine gG_ic_ne (tgt := 18) dX11_gain_2 (by decide) (fun c => ?_) (fun c => ?_)
  · have h := h.1 c
    refine gG_iload dX11_gain_18 rfl ?_
    refine gG_iconst (v := 1) dX11_gain_20 (by decide) ?_
    refine gG_ic_ne (tgt := 28) dX11_gain_21 (by decide) (fun c => ?_) (fun c => ?_)
    · have h := h.1 c
      refine gG_iconst (v := 0) dX11_gain_28 (by decide) ?_
      exact gG_exit ⟨rfl, rfl, rfl, dX11_gain_29, _, rfl, h⟩
    · have h := h.2 c
      refine gG_iload_n dX11_gain_24 rfl rfl ?_
      refine gG_goto (tgt := 29) dX11_gain_25 (by decide) ?_
      exact gG_exit ⟨rfl, rfl, rfl, dX11_gain_29, _, rfl, h⟩
  · have h := h.2 c
    refine gG_iload dX11_gain_5 rfl ?_
    refine gG_iconst (v := 1) dX11_gain_7 (by decide) ?_
    refine gG_ic_ne (tgt := 16) dX11_gain_8 (by decide) (fun c => ?_) (fun c => ?_)
    · have h := h.1 c
      refine gG_iload_n dX11_gain_16 rfl rfl ?_
      exact gG_exit ⟨rfl, rfl, rfl, dX11_gain_17, _, rfl, h⟩
    · have h := h.2 c
      refine gG_iload_n dX11_gain_11 rfl rfl ?_
      refine gG_ineg dX11_gain_12 ?_
      refine gG_goto (tgt := 17) dX11_gain_13 (by decide) ?_
      exact gG_exit ⟨rfl, rfl, rfl, dX11_gain_17, _, rfl, h⟩

theorem kX11_doDrawn_0 {d n : Nat} {H : gHp} {P : gHp → Prop} {a0 : Nat} (h : g_gr H (a0) 11 3 (fun q1 => g_gi H (q1) 1 0 (fun x2 => (¬ (x2 = 0) → g_gr H (a0) 11 3 (fun q3 => g_gi H (q3) 1 0 (fun x4 => (∃ fs, H (a0) = .inr (11, fs)) ∧ g_ci d mX11_draw n H [.ref (a0), .int (x4)] (fun H5 x6 => (∃ fs, H5 (a0) = .inr (11, fs)) ∧ g_ci d mX11_draw n H5 [.ref (a0), .int ((5 : Int32))] (fun H7 x8 => (¬ (x8 = 0) → (¬ (x8 = (1 : Int32)) → (¬ (x8 = (2 : Int32)) → P H7) ∧ (x8 = (2 : Int32) → g_gr H7 (a0) 11 11 (fun q9 => (∃ fs, H7 (q9) = .inr (9, fs)) ∧ g_cz d mX9_clearMouth n H7 [.ref (q9), .int (x6)] (fun H10 b11 => P H10)))) ∧ (x8 = (1 : Int32) → g_gr H7 (a0) 11 11 (fun q12 => (∃ fs, H7 (q12) = .inr (9, fs)) ∧ g_cz d mX9_stopMouth n H7 [.ref (q12), .int (x6)] (fun H13 b14 => P H13)))) ∧ (x8 = 0 → g_gr H7 (a0) 11 11 (fun q15 => (∃ fs, H7 (a0) = .inr (11, fs)) ∧ g_ci d mX11_draw n H7 [.ref (a0), .int ((9 : Int32))] (fun H16 x17 => (∃ fs, H16 (q15) = .inr (9, fs)) ∧ g_cvd d mX9_addWater n H16 [.ref (q15), .int (x6), .int ((x17 + (1 : Int32)))] (fun H18 => P H18))))))))) ∧ (x2 = 0 → P H)))) : gG d mX11_doDrawn 0 0 (g_Xv mX11_doDrawn n 0 0 P) 0 n H [some (.ref (a0)), none, none] [] 0 0 := by
  refine gG_aload_n dX11_doDrawn_0 rfl rfl ?_
  obtain ⟨fs, q1, e1, e2, h⟩ := h
  refine gG_gr dX11_doDrawn_1 fl_X11_35 ⟨fs, q1, e1, e2, ?_⟩
  obtain ⟨fs, x2, e1, e2, h⟩ := h
  refine gG_gi dX11_doDrawn_4 fl_X11_212 ⟨fs, x2, e1, e2, ?_⟩
  refine gG_if_ne (tgt := 11) dX11_doDrawn_7 (by decide) (fun c => ?_) (fun c => ?_)
  · have h := h.1 c
    refine gG_aload_n dX11_doDrawn_11 rfl rfl ?_
    refine gG_aload_n dX11_doDrawn_12 rfl rfl ?_
    obtain ⟨fs, q3, e1, e2, h⟩ := h
    refine gG_gr dX11_doDrawn_13 fl_X11_35 ⟨fs, q3, e1, e2, ?_⟩
    obtain ⟨fs, x4, e1, e2, h⟩ := h
    refine gG_gi dX11_doDrawn_16 fl_X11_212 ⟨fs, x4, e1, e2, ?_⟩
    obtain ⟨hrc, d2, P2, hdd, hC, h⟩ := h
    refine gG_cvi (As := [.int (x4)]) (st := []) dX11_doDrawn_19 mV_X11_348 hdd hrc rfl rfl (Nat.le_of_ble_eq_true rfl) (Nat.le_refl _) ⟨Nat.le_refl _, Nat.le_refl _⟩ hC (fun H5 x6 hp => ?_)
    have h := h H5 x6 hp
    refine gG_istore_n dX11_doDrawn_22 rfl (Nat.le_of_ble_eq_true rfl) ?_
    refine gG_aload_n dX11_doDrawn_23 rfl rfl ?_
    refine gG_iconst (v := 5) dX11_doDrawn_24 (by decide) ?_
    obtain ⟨hrc, d2, P2, hdd, hC, h⟩ := h
    refine gG_cvi (As := [.int ((5 : Int32))]) (st := []) dX11_doDrawn_25 mV_X11_348 hdd hrc rfl rfl (Nat.le_of_ble_eq_true rfl) (Nat.le_refl _) ⟨Nat.le_refl _, Nat.le_refl _⟩ hC (fun H7 x8 hp => ?_)
    have h := h H7 x8 hp
    refine gG_istore_n dX11_doDrawn_28 rfl (Nat.le_of_ble_eq_true rfl) ?_
    refine gG_iload_n dX11_doDrawn_29 rfl rfl ?_
    refine gG_if_ne (tgt := 52) dX11_doDrawn_30 (by decide) (fun c => ?_) (fun c => ?_)
    · have h := h.1 c
      refine gG_iload_n dX11_doDrawn_52 rfl rfl ?_
      refine gG_iconst (v := 1) dX11_doDrawn_53 (by decide) ?_
      refine gG_ic_ne (tgt := 69) dX11_doDrawn_54 (by decide) (fun c => ?_) (fun c => ?_)
      · have h := h.1 c
        refine gG_iload_n dX11_doDrawn_69 rfl rfl ?_
        refine gG_iconst (v := 2) dX11_doDrawn_70 (by decide) ?_
        refine gG_ic_ne (tgt := 83) dX11_doDrawn_71 (by decide) (fun c => ?_) (fun c => ?_)
        · have h := h.1 c
          exact gG_exit ⟨rfl, rfl, rfl, dX11_doDrawn_83, rfl, h⟩
        · have h := h.2 c
          refine gG_aload_n dX11_doDrawn_74 rfl rfl ?_
          obtain ⟨fs, q9, e1, e2, h⟩ := h
          refine gG_gr dX11_doDrawn_75 fl_X11_76 ⟨fs, q9, e1, e2, ?_⟩
          refine gG_iload_n dX11_doDrawn_78 rfl rfl ?_
          obtain ⟨hrc, d2, P2, hdd, hC, h⟩ := h
          refine gG_cvi (As := [.int (x6)]) (st := []) dX11_doDrawn_79 mV_X11_178 hdd hrc rfl rfl (Nat.le_of_ble_eq_true rfl) (Nat.le_refl _) ⟨Nat.le_refl _, Nat.le_refl _⟩ hC (fun H10 x9 hp => ?_)
          obtain ⟨b11, rfl, hp⟩ := hp
          have h := h H10 b11 hp
          refine gG_pop dX11_doDrawn_82 rfl ?_
          exact gG_exit ⟨rfl, rfl, rfl, dX11_doDrawn_83, rfl, h⟩
      · have h := h.2 c
        refine gG_aload_n dX11_doDrawn_57 rfl rfl ?_
        obtain ⟨fs, q12, e1, e2, h⟩ := h
        refine gG_gr dX11_doDrawn_58 fl_X11_76 ⟨fs, q12, e1, e2, ?_⟩
        refine gG_iload_n dX11_doDrawn_61 rfl rfl ?_
        obtain ⟨hrc, d2, P2, hdd, hC, h⟩ := h
        refine gG_cvi (As := [.int (x6)]) (st := []) dX11_doDrawn_62 mV_X11_175 hdd hrc rfl rfl (Nat.le_of_ble_eq_true rfl) (Nat.le_refl _) ⟨Nat.le_refl _, Nat.le_refl _⟩ hC (fun H13 x9 hp => ?_)
        obtain ⟨b14, rfl, hp⟩ := hp
        have h := h H13 b14 hp
        refine gG_pop dX11_doDrawn_65 rfl ?_
        refine gG_goto (tgt := 83) dX11_doDrawn_66 (by decide) ?_
        exact gG_exit ⟨rfl, rfl, rfl, dX11_doDrawn_83, rfl, h⟩
    · have h := h.2 c
      refine gG_aload_n dX11_doDrawn_33 rfl rfl ?_
      obtain ⟨fs, q15, e1, e2, h⟩ := h
      refine gG_gr dX11_doDrawn_34 fl_X11_76 ⟨fs, q15, e1, e2, ?_⟩
      refine gG_iload_n dX11_doDrawn_37 rfl rfl ?_
      refine gG_aload_n dX11_doDrawn_38 rfl rfl ?_
      refine gG_bipush (v := 9) dX11_doDrawn_39 (by decide) ?_
      obtain ⟨hrc, d2, P2, hdd, hC, h⟩ := h
      refine gG_cvi (As := [.int ((9 : Int32))]) (st := [.int (x6), .ref (q15)]) dX11_doDrawn_41 mV_X11_348 hdd hrc rfl rfl (Nat.le_of_ble_eq_true rfl) (Nat.le_refl _) ⟨Nat.le_refl _, Nat.le_refl _⟩ hC (fun H16 x17 hp => ?_)
      have h := h H16 x17 hp
      refine gG_iconst (v := 1) dX11_doDrawn_44 (by decide) ?_
      refine gG_iadd dX11_doDrawn_45 ?_
      obtain ⟨hrc, d2, P2, hdd, hC, h⟩ := h
      refine gG_cvv (As := [.int (x6), .int ((x17 + (1 : Int32)))]) (st := []) dX11_doDrawn_46 mV_X11_171 hdd hrc rfl rfl (Nat.le_of_ble_eq_true rfl) (Nat.le_refl _) ⟨Nat.le_refl _, Nat.le_refl _⟩ hC (fun H18 hp => ?_)
      have h := h H18 hp
      refine gG_goto (tgt := 83) dX11_doDrawn_49 (by decide) ?_
      exact gG_exit ⟨rfl, rfl, rfl, dX11_doDrawn_83, rfl, h⟩
  · have h := h.2 c
    exact gG_exit ⟨rfl, rfl, rfl, dX11_doDrawn_10, rfl, h⟩

theorem kX11_draw_0 {d n : Nat} {H : gHp} {P : gHp → Int32 → Prop} {a0 : Nat} {i1 : Int32} (h : g_gl H (a0) 11 17 (fun y1 => g_pf H (a0) 11 17 (.long ((((y1 * (1103515245 : Int64)) + (12345 : Int64)) - ((y1 * (1103515245 : Int64)) + (12345 : Int64)) / (2147483648 : Int64) * (2147483648 : Int64)))) (fun H2 => g_gl H2 (a0) 11 17 (fun y3 => (i1 ≤ 0 → P H2 ((0 : Int32))) ∧ (¬ (i1 ≤ 0) → ¬ (i1 = 0) ∧ (P H2 (((Int64.toInt32 ((y3 / (65536 : Int64)))) - (Int64.toInt32 ((y3 / (65536 : Int64)))) / i1 * i1)))))))) : gG d mX11_draw 0 0 (g_Xj mX11_draw n 0 0 P) 0 n H [some (.ref (a0)), some (.int (i1)), none] [] 0 0 := by
  refine gG_aload_n dX11_draw_0 rfl rfl ?_
  refine gG_aload_n dX11_draw_1 rfl rfl ?_
  obtain ⟨fs, y1, e1, e2, h⟩ := h
  refine gG_gl dX11_draw_2 fl_X11_300 ⟨fs, y1, e1, e2, ?_⟩
  refine gG_ldc2 dX11_draw_5 cl_X11_351 ?_
  refine gG_lmul dX11_draw_8 ?_
  refine gG_ldc2 dX11_draw_9 cl_X11_353 ?_
  refine gG_ladd dX11_draw_12 ?_
  refine gG_ldc2 dX11_draw_13 cl_X11_355 ?_
  refine gG_lrem dX11_draw_16 (by decide) ?_
  obtain ⟨fs, e1, e2, h⟩ := h
  refine gG_pl dX11_draw_17 fl_X11_300 ⟨fs, e1, e2, ?_⟩
  obtain ⟨H2, eH⟩ : ∃ z, z = va_up H (a0) (.inr (11, fs.set 17 (.long ((((y1 * (1103515245 : Int64)) + (12345 : Int64)) - ((y1 * (1103515245 : Int64)) + (12345 : Int64)) / (2147483648 : Int64) * (2147483648 : Int64)))))) := ⟨_, rfl⟩
  rw [← eH] at h ⊢
  refine gG_aload_n dX11_draw_20 rfl rfl ?_
  obtain ⟨fs, y3, e1, e2, h⟩ := h
  refine gG_gl dX11_draw_21 fl_X11_300 ⟨fs, y3, e1, e2, ?_⟩
  refine gG_ldc2 dX11_draw_24 cl_X11_357 ?_
  refine gG_ldiv dX11_draw_27 (by decide) ?_
  refine gG_l2i dX11_draw_28 ?_
  refine gG_istore_n dX11_draw_29 rfl (Nat.le_of_ble_eq_true rfl) ?_
  refine gG_iload_n dX11_draw_30 rfl rfl ?_
  refine gG_if_le (tgt := 40) dX11_draw_31 (by decide) (fun c => ?_) (fun c => ?_)
  · have h := h.1 c
    refine gG_iconst (v := 0) dX11_draw_40 (by decide) ?_
    exact gG_exit ⟨rfl, rfl, rfl, dX11_draw_41, _, rfl, h⟩
  · have h := h.2 c
    refine gG_iload_n dX11_draw_34 rfl rfl ?_
    refine gG_iload_n dX11_draw_35 rfl rfl ?_
    obtain ⟨hz, h⟩ := h
    refine gG_irem dX11_draw_36 hz ?_
    refine gG_goto (tgt := 41) dX11_draw_37 (by decide) ?_
    exact gG_exit ⟨rfl, rfl, rfl, dX11_draw_41, _, rfl, h⟩

theorem kX11_emptyRow_0 {d n : Nat} {H : gHp} {P : gHp → Prop} {a0 : Nat} (h : gG d mX11_emptyRow 0 0 (g_Xv mX11_emptyRow n 0 0 P) 2 n H [some (.ref (a0)), some (.int ((0 : Int32)))] [] (0) (0)) : gG d mX11_emptyRow 0 0 (g_Xv mX11_emptyRow n 0 0 P) 0 n H [some (.ref (a0)), none] [] 0 0 := by
  refine gG_iconst (v := 0) dX11_emptyRow_0 (by decide) ?_
  refine gG_istore_n dX11_emptyRow_1 rfl (Nat.le_of_ble_eq_true rfl) ?_
  refine gG_locals ?_ h
  exact ⟨rfl, ⟨rfl, trivial⟩⟩
theorem kX11_emptyRow_2 {d n : Nat} {H : gHp} {P : gHp → Prop} {a0 : Nat} {i1 : Int32} (h : ((7 : Int32) ≤ i1 → P H) ∧ (¬ ((7 : Int32) ≤ i1) → g_gr H (a0) 11 16 (fun q1 => g_as 0 H (q1) (i1) ((0 : Int32)) (fun H2 => gG d mX11_emptyRow 0 0 (g_Xv mX11_emptyRow n 0 0 P) 2 n H2 [some (.ref (a0)), some (.int ((i1 + 1)))] [] (0) (0))))) : gG d mX11_emptyRow 0 0 (g_Xv mX11_emptyRow n 0 0 P) 2 n H [some (.ref (a0)), some (.int (i1))] [] 0 0 := by
  refine gG_iload_n dX11_emptyRow_2 rfl rfl ?_
  refine gG_bipush (v := 7) dX11_emptyRow_3 (by decide) ?_
  refine gG_ic_ge (tgt := 21) dX11_emptyRow_5 (by decide) (fun c => ?_) (fun c => ?_)
  · have h := h.1 c
    exact gG_exit ⟨rfl, rfl, rfl, dX11_emptyRow_21, rfl, h⟩
  · have h := h.2 c
    refine gG_aload_n dX11_emptyRow_8 rfl rfl ?_
    obtain ⟨fs, q1, e1, e2, h⟩ := h
    refine gG_gr dX11_emptyRow_9 fl_X11_90 ⟨fs, q1, e1, e2, ?_⟩
    refine gG_iload_n dX11_emptyRow_12 rfl rfl ?_
    refine gG_iconst (v := 0) dX11_emptyRow_13 (by decide) ?_
    obtain ⟨m0, f0, e1, e2, h⟩ := h
    refine gG_iast dX11_emptyRow_14 ⟨m0, f0, e1, e2, ?_⟩
    obtain ⟨H2, eH⟩ : ∃ z, z = va_up H (q1) (.inl (0, m0, .inl (upd f0 (Int32.toNatClampNeg (i1)) ((0 : Int32))))) := ⟨_, rfl⟩
    rw [← eH] at h ⊢
    refine gG_iinc (v := i1 + 1) dX11_emptyRow_15 rfl rfl (Nat.le_of_ble_eq_true rfl) ?_
    refine gG_goto (tgt := 2) dX11_emptyRow_18 (by decide) ?_
    refine gG_locals ?_ h
    exact ⟨rfl, ⟨rfl, trivial⟩⟩

theorem kX11_addBitsToRow_0 {d n : Nat} {H : gHp} {P : gHp → Prop} {a0 : Nat} {i1 : Int32} (h : gG d mX11_addBitsToRow 0 0 (g_Xv mX11_addBitsToRow n 0 0 P) 2 n H [some (.ref (a0)), some (.int (i1)), some (.int ((0 : Int32)))] [] (0) (0)) : gG d mX11_addBitsToRow 0 0 (g_Xv mX11_addBitsToRow n 0 0 P) 0 n H [some (.ref (a0)), some (.int (i1)), none] [] 0 0 := by
  refine gG_iconst (v := 0) dX11_addBitsToRow_0 (by decide) ?_
  refine gG_istore_n dX11_addBitsToRow_1 rfl (Nat.le_of_ble_eq_true rfl) ?_
  refine gG_locals ?_ h
  exact ⟨rfl, ⟨rfl, ⟨rfl, trivial⟩⟩⟩
theorem kX11_addBitsToRow_2 {d n : Nat} {H : gHp} {P : gHp → Prop} {a0 : Nat} {i1 : Int32} {i2 : Int32} (h : ((7 : Int32) ≤ i2 → P H) ∧ (¬ ((7 : Int32) ≤ i2) → g_gr H (a0) 11 16 (fun q1 => g_al 0 H (q1) (i2) (fun x2 => g_as 0 H (q1) (i2) ((x2 + ((i1 >>> (i2 &&& 31)) &&& (1 : Int32)))) (fun H3 => gG d mX11_addBitsToRow 0 0 (g_Xv mX11_addBitsToRow n 0 0 P) 2 n H3 [some (.ref (a0)), some (.int (i1)), some (.int ((i2 + 1)))] [] (0) (0)))))) : gG d mX11_addBitsToRow 0 0 (g_Xv mX11_addBitsToRow n 0 0 P) 2 n H [some (.ref (a0)), some (.int (i1)), some (.int (i2))] [] 0 0 := by
  refine gG_iload_n dX11_addBitsToRow_2 rfl rfl ?_
  refine gG_bipush (v := 7) dX11_addBitsToRow_3 (by decide) ?_
  refine gG_ic_ge (tgt := 28) dX11_addBitsToRow_5 (by decide) (fun c => ?_) (fun c => ?_)
  · have h := h.1 c
    exact gG_exit ⟨rfl, rfl, rfl, dX11_addBitsToRow_28, rfl, h⟩
  · have h := h.2 c
    refine gG_aload_n dX11_addBitsToRow_8 rfl rfl ?_
    obtain ⟨fs, q1, e1, e2, h⟩ := h
    refine gG_gr dX11_addBitsToRow_9 fl_X11_90 ⟨fs, q1, e1, e2, ?_⟩
    refine gG_iload_n dX11_addBitsToRow_12 rfl rfl ?_
    refine gG_dup2 dX11_addBitsToRow_13 rfl rfl ?_
    obtain ⟨m0, f0, e1, e2, h⟩ := h
    refine gG_iald dX11_addBitsToRow_14 ⟨m0, f0, e1, e2, ?_⟩
    obtain ⟨x2, eH⟩ : ∃ z, z = f0 (Int32.toNatClampNeg (i2)) := ⟨_, rfl⟩
    rw [← eH] at h ⊢
    refine gG_iload_n dX11_addBitsToRow_15 rfl rfl ?_
    refine gG_iload_n dX11_addBitsToRow_16 rfl rfl ?_
    refine gG_ishr dX11_addBitsToRow_17 ?_
    refine gG_iconst (v := 1) dX11_addBitsToRow_18 (by decide) ?_
    refine gG_iand dX11_addBitsToRow_19 ?_
    refine gG_iadd dX11_addBitsToRow_20 ?_
    obtain ⟨m0, f0, e1, e2, h⟩ := h
    refine gG_iast dX11_addBitsToRow_21 ⟨m0, f0, e1, e2, ?_⟩
    obtain ⟨H3, eH⟩ : ∃ z, z = va_up H (q1) (.inl (0, m0, .inl (upd f0 (Int32.toNatClampNeg (i2)) ((x2 + ((i1 >>> (i2 &&& 31)) &&& (1 : Int32))))))) := ⟨_, rfl⟩
    rw [← eH] at h ⊢
    refine gG_iinc (v := i2 + 1) dX11_addBitsToRow_22 rfl rfl (Nat.le_of_ble_eq_true rfl) ?_
    refine gG_goto (tgt := 2) dX11_addBitsToRow_25 (by decide) ?_
    refine gG_locals ?_ h
    exact ⟨rfl, ⟨rfl, ⟨rfl, trivial⟩⟩⟩

theorem kX11_greatestOfRow_0 {d n : Nat} {H : gHp} {P : gHp → Int32 → Prop} {a0 : Nat} {i1 : Int32} (h : gG d mX11_greatestOfRow 0 0 (g_Xj mX11_greatestOfRow n 0 0 P) 4 n H [some (.ref (a0)), some (.int (i1)), some (.int ((-1 : Int32))), some (.int ((0 : Int32)))] [] (0) (0)) : gG d mX11_greatestOfRow 0 0 (g_Xj mX11_greatestOfRow n 0 0 P) 0 n H [some (.ref (a0)), some (.int (i1)), none, none] [] 0 0 := by
  refine gG_iconst (v := (-1)) dX11_greatestOfRow_0 (by decide) ?_
  refine gG_istore_n dX11_greatestOfRow_1 rfl (Nat.le_of_ble_eq_true rfl) ?_
  refine gG_iconst (v := 0) dX11_greatestOfRow_2 (by decide) ?_
  refine gG_istore_n dX11_greatestOfRow_3 rfl (Nat.le_of_ble_eq_true rfl) ?_
  refine gG_locals ?_ h
  exact ⟨rfl, ⟨rfl, ⟨rfl, ⟨rfl, trivial⟩⟩⟩⟩
theorem kX11_greatestOfRow_4 {d n : Nat} {H : gHp} {P : gHp → Int32 → Prop} {a0 : Nat} {i1 : Int32} {i2 : Int32} {i3 : Int32} (h : (i1 ≤ i3 → P H (i2)) ∧ (¬ (i1 ≤ i3) → ((7 : Int32) ≤ i3 → P H (i2)) ∧ (¬ ((7 : Int32) ≤ i3) → (i2 = (-1 : Int32) → gG d mX11_greatestOfRow 0 0 (g_Xj mX11_greatestOfRow n 0 0 P) 4 n H [some (.ref (a0)), some (.int (i1)), some (.int (i3)), some (.int ((i3 + 1)))] [] (0) (0)) ∧ (¬ (i2 = (-1 : Int32)) → g_gr H (a0) 11 16 (fun q1 => g_al 0 H (q1) (i3) (fun x2 => g_gr H (a0) 11 16 (fun q3 => g_al 0 H (q3) (i2) (fun x4 => (x2 ≤ x4 → gG d mX11_greatestOfRow 0 0 (g_Xj mX11_greatestOfRow n 0 0 P) 4 n H [some (.ref (a0)), some (.int (i1)), some (.int (i2)), some (.int ((i3 + 1)))] [] (0) (0)) ∧ (¬ (x2 ≤ x4) → gG d mX11_greatestOfRow 0 0 (g_Xj mX11_greatestOfRow n 0 0 P) 4 n H [some (.ref (a0)), some (.int (i1)), some (.int (i3)), some (.int ((i3 + 1)))] [] (0) (0)))))))))) : gG d mX11_greatestOfRow 0 0 (g_Xj mX11_greatestOfRow n 0 0 P) 4 n H [some (.ref (a0)), some (.int (i1)), some (.int (i2)), some (.int (i3))] [] 0 0 := by
  refine gG_iload_n dX11_greatestOfRow_4 rfl rfl ?_
  refine gG_iload_n dX11_greatestOfRow_5 rfl rfl ?_
  refine gG_ic_ge (tgt := 43) dX11_greatestOfRow_6 (by decide) (fun c => ?_) (fun c => ?_)
  · have h := h.1 c
    refine gG_iload_n dX11_greatestOfRow_43 rfl rfl ?_
    exact gG_exit ⟨rfl, rfl, rfl, dX11_greatestOfRow_44, _, rfl, h⟩
  · have h := h.2 c
    refine gG_iload_n dX11_greatestOfRow_9 rfl rfl ?_
    refine gG_bipush (v := 7) dX11_greatestOfRow_10 (by decide) ?_
    refine gG_ic_ge (tgt := 43) dX11_greatestOfRow_12 (by decide) (fun c => ?_) (fun c => ?_)
    · have h := h.1 c
      refine gG_iload_n dX11_greatestOfRow_43 rfl rfl ?_
      exact gG_exit ⟨rfl, rfl, rfl, dX11_greatestOfRow_44, _, rfl, h⟩
    · have h := h.2 c
      refine gG_iload_n dX11_greatestOfRow_15 rfl rfl ?_
      refine gG_iconst (v := (-1)) dX11_greatestOfRow_16 (by decide) ?_
      refine gG_ic_eq (tgt := 35) dX11_greatestOfRow_17 (by decide) (fun c => ?_) (fun c => ?_)
      · have h := h.1 c
        refine gG_iload_n dX11_greatestOfRow_35 rfl rfl ?_
        refine gG_istore_n dX11_greatestOfRow_36 rfl (Nat.le_of_ble_eq_true rfl) ?_
        refine gG_iinc (v := i3 + 1) dX11_greatestOfRow_37 rfl rfl (Nat.le_of_ble_eq_true rfl) ?_
        refine gG_goto (tgt := 4) dX11_greatestOfRow_40 (by decide) ?_
        refine gG_locals ?_ h
        exact ⟨rfl, ⟨rfl, ⟨rfl, ⟨rfl, trivial⟩⟩⟩⟩
      · have h := h.2 c
        refine gG_aload_n dX11_greatestOfRow_20 rfl rfl ?_
        obtain ⟨fs, q1, e1, e2, h⟩ := h
        refine gG_gr dX11_greatestOfRow_21 fl_X11_90 ⟨fs, q1, e1, e2, ?_⟩
        refine gG_iload_n dX11_greatestOfRow_24 rfl rfl ?_
        obtain ⟨m0, f0, e1, e2, h⟩ := h
        refine gG_iald dX11_greatestOfRow_25 ⟨m0, f0, e1, e2, ?_⟩
        obtain ⟨x2, eH⟩ : ∃ z, z = f0 (Int32.toNatClampNeg (i3)) := ⟨_, rfl⟩
        rw [← eH] at h ⊢
        refine gG_aload_n dX11_greatestOfRow_26 rfl rfl ?_
        obtain ⟨fs, q3, e1, e2, h⟩ := h
        refine gG_gr dX11_greatestOfRow_27 fl_X11_90 ⟨fs, q3, e1, e2, ?_⟩
        refine gG_iload_n dX11_greatestOfRow_30 rfl rfl ?_
        obtain ⟨m0, f0, e1, e2, h⟩ := h
        refine gG_iald dX11_greatestOfRow_31 ⟨m0, f0, e1, e2, ?_⟩
        obtain ⟨x4, eH⟩ : ∃ z, z = f0 (Int32.toNatClampNeg (i2)) := ⟨_, rfl⟩
        rw [← eH] at h ⊢
        refine gG_ic_le (tgt := 37) dX11_greatestOfRow_32 (by decide) (fun c => ?_) (fun c => ?_)
        · have h := h.1 c
          refine gG_iinc (v := i3 + 1) dX11_greatestOfRow_37 rfl rfl (Nat.le_of_ble_eq_true rfl) ?_
          refine gG_goto (tgt := 4) dX11_greatestOfRow_40 (by decide) ?_
          refine gG_locals ?_ h
          exact ⟨rfl, ⟨rfl, ⟨rfl, ⟨rfl, trivial⟩⟩⟩⟩
        · have h := h.2 c
          refine gG_iload_n dX11_greatestOfRow_35 rfl rfl ?_
          refine gG_istore_n dX11_greatestOfRow_36 rfl (Nat.le_of_ble_eq_true rfl) ?_
          refine gG_iinc (v := i3 + 1) dX11_greatestOfRow_37 rfl rfl (Nat.le_of_ble_eq_true rfl) ?_
          refine gG_goto (tgt := 4) dX11_greatestOfRow_40 (by decide) ?_
          refine gG_locals ?_ h
          exact ⟨rfl, ⟨rfl, ⟨rfl, ⟨rfl, trivial⟩⟩⟩⟩
