theorem kX0_copyFrom_0 {d n : Nat} {H : gHp} {P : gHp → Prop} {a0 : Nat} {a1 : Nat} (hd1 : 1 ≤ d) (h : g_gi H (a1) 0 0 (fun x1 => g_pf H (a0) 0 0 (.int (x1)) (fun H2 => g_gr H2 (a1) 0 1 (fun q3 => g_gr H2 (a0) 0 1 (fun q4 => g_cp H2 (q3) ((0 : Int32)) (q4) ((0 : Int32)) ((40 : Int32)) (fun H5 => g_gr H5 (a1) 0 2 (fun q6 => g_gr H5 (a0) 0 2 (fun q7 => g_cp H5 (q6) ((0 : Int32)) (q7) ((0 : Int32)) ((40 : Int32)) (fun H8 => g_gr H8 (a1) 0 3 (fun q9 => g_gr H8 (a0) 0 3 (fun q10 => g_cp H8 (q9) ((0 : Int32)) (q10) ((0 : Int32)) ((40 : Int32)) (fun H11 => P H11)))))))))))) : gG d mX0_copyFrom 0 0 (g_Xv mX0_copyFrom n 0 0 P) 0 n H [some (.ref (a0)), some (.ref (a1))] [] 0 0 := by
  refine gG_aload_n dX0_copyFrom_0 rfl rfl ?_
  refine gG_aload_n dX0_copyFrom_1 rfl rfl ?_
  obtain ⟨fs, x1, e1, e2, h⟩ := h
  refine gG_gi dX0_copyFrom_2 fl_X0_21 ⟨fs, x1, e1, e2, ?_⟩
  obtain ⟨fs, e1, e2, h⟩ := h
  refine gG_pi dX0_copyFrom_5 fl_X0_21 ⟨fs, e1, e2, ?_⟩
  obtain ⟨H2, eH⟩ : ∃ z, z = va_up H (a0) (.inr (0, fs.set 0 (.int (x1)))) := ⟨_, rfl⟩
  rw [← eH] at h ⊢
  refine gG_aload_n dX0_copyFrom_8 rfl rfl ?_
  obtain ⟨fs, q3, e1, e2, h⟩ := h
  refine gG_gr dX0_copyFrom_9 fl_X0_9 ⟨fs, q3, e1, e2, ?_⟩
  refine gG_iconst (v := 0) dX0_copyFrom_12 (by decide) ?_
  refine gG_aload_n dX0_copyFrom_13 rfl rfl ?_
  obtain ⟨fs, q4, e1, e2, h⟩ := h
  refine gG_gr dX0_copyFrom_14 fl_X0_9 ⟨fs, q4, e1, e2, ?_⟩
  refine gG_iconst (v := 0) dX0_copyFrom_17 (by decide) ?_
  refine gG_bipush (v := 40) dX0_copyFrom_18 (by decide) ?_
  obtain ⟨m0, m1, f0, g0, e1, e2, z1, z2, z3, z4, z5, h⟩ := h
  refine gG_copy dX0_copyFrom_20 lk_X0_25 nat_copy st_copy ini_System hd1 (Nat.le_of_ble_eq_true rfl) ⟨m0, m1, f0, g0, e1, e2, z1, z2, z3, z4, z5, ?_⟩
  obtain ⟨H5, eH⟩ : ∃ z, z = va_up H2 (q4) (.inl (0, m1, .inl (va_cpy f0 g0 (Int32.toNatClampNeg ((0 : Int32))) (Int32.toNatClampNeg ((0 : Int32))) (Int32.toNatClampNeg ((40 : Int32)))))) := ⟨_, rfl⟩
  rw [← eH] at h ⊢
  refine gG_aload_n dX0_copyFrom_23 rfl rfl ?_
  obtain ⟨fs, q6, e1, e2, h⟩ := h
  refine gG_gr dX0_copyFrom_24 fl_X0_15 ⟨fs, q6, e1, e2, ?_⟩
  refine gG_iconst (v := 0) dX0_copyFrom_27 (by decide) ?_
  refine gG_aload_n dX0_copyFrom_28 rfl rfl ?_
  obtain ⟨fs, q7, e1, e2, h⟩ := h
  refine gG_gr dX0_copyFrom_29 fl_X0_15 ⟨fs, q7, e1, e2, ?_⟩
  refine gG_iconst (v := 0) dX0_copyFrom_32 (by decide) ?_
  refine gG_bipush (v := 40) dX0_copyFrom_33 (by decide) ?_
  obtain ⟨m0, m1, f0, g0, e1, e2, z1, z2, z3, z4, z5, h⟩ := h
  refine gG_copy dX0_copyFrom_35 lk_X0_25 nat_copy st_copy ini_System hd1 (Nat.le_of_ble_eq_true rfl) ⟨m0, m1, f0, g0, e1, e2, z1, z2, z3, z4, z5, ?_⟩
  obtain ⟨H8, eH⟩ : ∃ z, z = va_up H5 (q7) (.inl (0, m1, .inl (va_cpy f0 g0 (Int32.toNatClampNeg ((0 : Int32))) (Int32.toNatClampNeg ((0 : Int32))) (Int32.toNatClampNeg ((40 : Int32)))))) := ⟨_, rfl⟩
  rw [← eH] at h ⊢
  refine gG_aload_n dX0_copyFrom_38 rfl rfl ?_
  obtain ⟨fs, q9, e1, e2, h⟩ := h
  refine gG_gr dX0_copyFrom_39 fl_X0_18 ⟨fs, q9, e1, e2, ?_⟩
  refine gG_iconst (v := 0) dX0_copyFrom_42 (by decide) ?_
  refine gG_aload_n dX0_copyFrom_43 rfl rfl ?_
  obtain ⟨fs, q10, e1, e2, h⟩ := h
  refine gG_gr dX0_copyFrom_44 fl_X0_18 ⟨fs, q10, e1, e2, ?_⟩
  refine gG_iconst (v := 0) dX0_copyFrom_47 (by decide) ?_
  refine gG_bipush (v := 40) dX0_copyFrom_48 (by decide) ?_
  obtain ⟨m0, m1, f0, g0, e1, e2, z1, z2, z3, z4, z5, h⟩ := h
  refine gG_copy dX0_copyFrom_50 lk_X0_25 nat_copy st_copy ini_System hd1 (Nat.le_of_ble_eq_true rfl) ⟨m0, m1, f0, g0, e1, e2, z1, z2, z3, z4, z5, ?_⟩
  obtain ⟨H11, eH⟩ : ∃ z, z = va_up H8 (q10) (.inl (0, m1, .inl (va_cpy f0 g0 (Int32.toNatClampNeg ((0 : Int32))) (Int32.toNatClampNeg ((0 : Int32))) (Int32.toNatClampNeg ((40 : Int32)))))) := ⟨_, rfl⟩
  rw [← eH] at h ⊢
  exact gG_exit ⟨rfl, rfl, rfl, dX0_copyFrom_53, rfl, h⟩

theorem kX1_forget_0 {d n : Nat} {H : gHp} {P : gHp → Prop} {a0 : Nat} (h : g_pf H (a0) 1 0 (.int ((0 : Int32))) (fun H1 => g_pf H1 (a0) 1 8 (.int ((0 : Int32))) (fun H2 => g_pf H2 (a0) 1 11 (.int ((0 : Int32))) (fun H3 => g_gr H3 (a0) 1 13 (fun q4 => g_pf H3 (q4) 3 1 (.int ((0 : Int32))) (fun H5 => P H5)))))) : gG d mX1_forget 0 0 (g_Xv mX1_forget n 0 0 P) 0 n H [some (.ref (a0))] [] 0 0 := by
  refine gG_aload_n dX1_forget_0 rfl rfl ?_
  refine gG_iconst (v := 0) dX1_forget_1 (by decide) ?_
  obtain ⟨fs, e1, e2, h⟩ := h
  refine gG_pi dX1_forget_2 fl_X1_50 ⟨fs, e1, e2, ?_⟩
  obtain ⟨H1, eH⟩ : ∃ z, z = va_up H (a0) (.inr (1, fs.set 0 (.int ((0 : Int32))))) := ⟨_, rfl⟩
  rw [← eH] at h ⊢
  refine gG_aload_n dX1_forget_5 rfl rfl ?_
  refine gG_iconst (v := 0) dX1_forget_6 (by decide) ?_
  obtain ⟨fs, e1, e2, h⟩ := h
  refine gG_pi dX1_forget_7 fl_X1_54 ⟨fs, e1, e2, ?_⟩
  obtain ⟨H2, eH⟩ : ∃ z, z = va_up H1 (a0) (.inr (1, fs.set 8 (.int ((0 : Int32))))) := ⟨_, rfl⟩
  rw [← eH] at h ⊢
  refine gG_aload_n dX1_forget_10 rfl rfl ?_
  refine gG_iconst (v := 0) dX1_forget_11 (by decide) ?_
  obtain ⟨fs, e1, e2, h⟩ := h
  refine gG_pi dX1_forget_12 fl_X1_57 ⟨fs, e1, e2, ?_⟩
  obtain ⟨H3, eH⟩ : ∃ z, z = va_up H2 (a0) (.inr (1, fs.set 11 (.int ((0 : Int32))))) := ⟨_, rfl⟩
  rw [← eH] at h ⊢
  refine gG_aload_n dX1_forget_15 rfl rfl ?_
  obtain ⟨fs, q4, e1, e2, h⟩ := h
  refine gG_gr dX1_forget_16 fl_X1_46 ⟨fs, q4, e1, e2, ?_⟩
  refine gG_iconst (v := 0) dX1_forget_19 (by decide) ?_
  obtain ⟨fs, e1, e2, h⟩ := h
  refine gG_pi dX1_forget_20 fl_X1_60 ⟨fs, e1, e2, ?_⟩
  obtain ⟨H5, eH⟩ : ∃ z, z = va_up H3 (q4) (.inr (3, fs.set 1 (.int ((0 : Int32))))) := ⟨_, rfl⟩
  rw [← eH] at h ⊢
  exact gG_exit ⟨rfl, rfl, rfl, dX1_forget_23, rfl, h⟩

theorem kX1_mouthNamed_0 {d n : Nat} {H : gHp} {P : gHp → Int32 → Prop} {a0 : Nat} {j1 : Int64} (h : gG d mX1_mouthNamed 0 0 (g_Xj mX1_mouthNamed n 0 0 P) 2 n H [some (.ref (a0)), some (.long (j1)), none, some (.int ((0 : Int32)))] [] (0) (0)) : gG d mX1_mouthNamed 0 0 (g_Xj mX1_mouthNamed n 0 0 P) 0 n H [some (.ref (a0)), some (.long (j1)), none, none] [] 0 0 := by
  refine gG_iconst (v := 0) dX1_mouthNamed_0 (by decide) ?_
  refine gG_istore_n dX1_mouthNamed_1 rfl (Nat.le_of_ble_eq_true rfl) ?_
  refine gG_locals ?_ h
  exact ⟨rfl, ⟨rfl, ⟨rfl, trivial⟩⟩⟩
theorem kX1_mouthNamed_2 {d n : Nat} {H : gHp} {P : gHp → Int32 → Prop} {a0 : Nat} {j1 : Int64} {i3 : Int32} (h : g_gi H (a0) 1 0 (fun x1 => (x1 ≤ i3 → P H ((-1 : Int32))) ∧ (¬ (x1 ≤ i3) → g_gr H (a0) 1 1 (fun q2 => g_ll H (q2) (i3) (fun y3 => (¬ ((lg_cmp y3 j1) = 0) → gG d mX1_mouthNamed 0 0 (g_Xj mX1_mouthNamed n 0 0 P) 2 n H [some (.ref (a0)), some (.long (j1)), none, some (.int ((i3 + 1)))] [] (0) (0)) ∧ ((lg_cmp y3 j1) = 0 → P H (i3))))))) : gG d mX1_mouthNamed 0 0 (g_Xj mX1_mouthNamed n 0 0 P) 2 n H [some (.ref (a0)), some (.long (j1)), none, some (.int (i3))] [] 0 0 := by
  refine gG_iload_n dX1_mouthNamed_2 rfl rfl ?_
  refine gG_aload_n dX1_mouthNamed_3 rfl rfl ?_
  obtain ⟨fs, x1, e1, e2, h⟩ := h
  refine gG_gi dX1_mouthNamed_4 fl_X1_50 ⟨fs, x1, e1, e2, ?_⟩
  refine gG_ic_ge (tgt := 29) dX1_mouthNamed_7 (by decide) (fun c => ?_) (fun c => ?_)
  · have h := h.1 c
    refine gG_iconst (v := (-1)) dX1_mouthNamed_29 (by decide) ?_
    exact gG_exit ⟨rfl, rfl, rfl, dX1_mouthNamed_30, _, rfl, h⟩
  · have h := h.2 c
    refine gG_aload_n dX1_mouthNamed_10 rfl rfl ?_
    obtain ⟨fs, q2, e1, e2, h⟩ := h
    refine gG_gr dX1_mouthNamed_11 fl_X1_9 ⟨fs, q2, e1, e2, ?_⟩
    refine gG_iload_n dX1_mouthNamed_14 rfl rfl ?_
    obtain ⟨m0, f0, e1, e2, h⟩ := h
    refine gG_lald dX1_mouthNamed_15 ⟨m0, f0, e1, e2, ?_⟩
    obtain ⟨y3, eH⟩ : ∃ z, z = f0 (Int32.toNatClampNeg (i3)) := ⟨_, rfl⟩
    rw [← eH] at h ⊢
    refine gG_lload_n dX1_mouthNamed_16 rfl rfl ?_
    refine gG_lcmp dX1_mouthNamed_17 ?_
    refine gG_if_ne (tgt := 23) dX1_mouthNamed_18 (by decide) (fun c => ?_) (fun c => ?_)
    · have h := h.1 c
      refine gG_iinc (v := i3 + 1) dX1_mouthNamed_23 rfl rfl (Nat.le_of_ble_eq_true rfl) ?_
      refine gG_goto (tgt := 2) dX1_mouthNamed_26 (by decide) ?_
      refine gG_locals ?_ h
      exact ⟨rfl, ⟨rfl, ⟨rfl, trivial⟩⟩⟩
    · have h := h.2 c
      refine gG_iload_n dX1_mouthNamed_21 rfl rfl ?_
      exact gG_exit ⟨rfl, rfl, rfl, dX1_mouthNamed_22, _, rfl, h⟩

theorem kX1_letterNamed_0 {d n : Nat} {H : gHp} {P : gHp → Int32 → Prop} {a0 : Nat} {j1 : Int64} (h : gG d mX1_letterNamed 0 0 (g_Xj mX1_letterNamed n 0 0 P) 2 n H [some (.ref (a0)), some (.long (j1)), none, some (.int ((0 : Int32)))] [] (0) (0)) : gG d mX1_letterNamed 0 0 (g_Xj mX1_letterNamed n 0 0 P) 0 n H [some (.ref (a0)), some (.long (j1)), none, none] [] 0 0 := by
  refine gG_iconst (v := 0) dX1_letterNamed_0 (by decide) ?_
  refine gG_istore_n dX1_letterNamed_1 rfl (Nat.le_of_ble_eq_true rfl) ?_
  refine gG_locals ?_ h
  exact ⟨rfl, ⟨rfl, ⟨rfl, trivial⟩⟩⟩
theorem kX1_letterNamed_2 {d n : Nat} {H : gHp} {P : gHp → Int32 → Prop} {a0 : Nat} {j1 : Int64} {i3 : Int32} (h : g_gi H (a0) 1 8 (fun x1 => (x1 ≤ i3 → P H ((-1 : Int32))) ∧ (¬ (x1 ≤ i3) → g_gr H (a0) 1 9 (fun q2 => g_ll H (q2) (i3) (fun y3 => (¬ ((lg_cmp y3 j1) = 0) → gG d mX1_letterNamed 0 0 (g_Xj mX1_letterNamed n 0 0 P) 2 n H [some (.ref (a0)), some (.long (j1)), none, some (.int ((i3 + 1)))] [] (0) (0)) ∧ ((lg_cmp y3 j1) = 0 → P H (i3))))))) : gG d mX1_letterNamed 0 0 (g_Xj mX1_letterNamed n 0 0 P) 2 n H [some (.ref (a0)), some (.long (j1)), none, some (.int (i3))] [] 0 0 := by
  refine gG_iload_n dX1_letterNamed_2 rfl rfl ?_
  refine gG_aload_n dX1_letterNamed_3 rfl rfl ?_
  obtain ⟨fs, x1, e1, e2, h⟩ := h
  refine gG_gi dX1_letterNamed_4 fl_X1_54 ⟨fs, x1, e1, e2, ?_⟩
  refine gG_ic_ge (tgt := 29) dX1_letterNamed_7 (by decide) (fun c => ?_) (fun c => ?_)
  · have h := h.1 c
    refine gG_iconst (v := (-1)) dX1_letterNamed_29 (by decide) ?_
    exact gG_exit ⟨rfl, rfl, rfl, dX1_letterNamed_30, _, rfl, h⟩
  · have h := h.2 c
    refine gG_aload_n dX1_letterNamed_10 rfl rfl ?_
    obtain ⟨fs, q2, e1, e2, h⟩ := h
    refine gG_gr dX1_letterNamed_11 fl_X1_34 ⟨fs, q2, e1, e2, ?_⟩
    refine gG_iload_n dX1_letterNamed_14 rfl rfl ?_
    obtain ⟨m0, f0, e1, e2, h⟩ := h
    refine gG_lald dX1_letterNamed_15 ⟨m0, f0, e1, e2, ?_⟩
    obtain ⟨y3, eH⟩ : ∃ z, z = f0 (Int32.toNatClampNeg (i3)) := ⟨_, rfl⟩
    rw [← eH] at h ⊢
    refine gG_lload_n dX1_letterNamed_16 rfl rfl ?_
    refine gG_lcmp dX1_letterNamed_17 ?_
    refine gG_if_ne (tgt := 23) dX1_letterNamed_18 (by decide) (fun c => ?_) (fun c => ?_)
    · have h := h.1 c
      refine gG_iinc (v := i3 + 1) dX1_letterNamed_23 rfl rfl (Nat.le_of_ble_eq_true rfl) ?_
      refine gG_goto (tgt := 2) dX1_letterNamed_26 (by decide) ?_
      refine gG_locals ?_ h
      exact ⟨rfl, ⟨rfl, ⟨rfl, trivial⟩⟩⟩
    · have h := h.2 c
      refine gG_iload_n dX1_letterNamed_21 rfl rfl ?_
      exact gG_exit ⟨rfl, rfl, rfl, dX1_letterNamed_22, _, rfl, h⟩

theorem kX1_isTold_0 {d n : Nat} {H : gHp} {P : gHp → Bool → Prop} {a0 : Nat} {j1 : Int64} (h : (∃ fs, H (a0) = .inr (1, fs)) ∧ g_ci d mX1_mouthNamed n H [.ref (a0), .long (j1)] (fun H1 x2 => (¬ (x2 = (-1 : Int32)) → P H1 true) ∧ (x2 = (-1 : Int32) → (∃ fs, H1 (a0) = .inr (1, fs)) ∧ g_ci d mX1_letterNamed n H1 [.ref (a0), .long (j1)] (fun H3 x4 => (x4 = (-1 : Int32) → P H3 false) ∧ (¬ (x4 = (-1 : Int32)) → P H3 true))))) : gG d mX1_isTold 0 0 (g_Xz mX1_isTold n 0 0 P) 0 n H [some (.ref (a0)), some (.long (j1)), none] [] 0 0 := by
  refine gG_aload_n dX1_isTold_0 rfl rfl ?_
  refine gG_lload_n dX1_isTold_1 rfl rfl ?_
  obtain ⟨hrc, d2, P2, hdd, hC, h⟩ := h
  refine gG_cvi (As := [.long (j1)]) (st := []) dX1_isTold_2 mV_X1_63 hdd hrc rfl rfl (Nat.le_of_ble_eq_true rfl) (Nat.le_refl _) ⟨Nat.le_refl _, Nat.le_refl _⟩ hC (fun H1 x2 hp => ?_)
  have h := h H1 x2 hp
  refine gG_iconst (v := (-1)) dX1_isTold_5 (by decide) ?_
  refine gG_ic_ne (tgt := 18) dX1_isTold_6 (by decide) (fun c => ?_) (fun c => ?_)
  · have h := h.1 c
    refine gG_iconst (v := 1) dX1_isTold_18 (by decide) ?_
    refine gG_goto (tgt := 23) dX1_isTold_19 (by decide) ?_
    exact gG_exit ⟨rfl, rfl, rfl, dX1_isTold_23, true, rfl, h⟩
  · have h := h.2 c
    refine gG_aload_n dX1_isTold_9 rfl rfl ?_
    refine gG_lload_n dX1_isTold_10 rfl rfl ?_
    obtain ⟨hrc, d2, P2, hdd, hC, h⟩ := h
    refine gG_cvi (As := [.long (j1)]) (st := []) dX1_isTold_11 mV_X1_67 hdd hrc rfl rfl (Nat.le_of_ble_eq_true rfl) (Nat.le_refl _) ⟨Nat.le_refl _, Nat.le_refl _⟩ hC (fun H3 x4 hp => ?_)
    have h := h H3 x4 hp
    refine gG_iconst (v := (-1)) dX1_isTold_14 (by decide) ?_
    refine gG_ic_eq (tgt := 22) dX1_isTold_15 (by decide) (fun c => ?_) (fun c => ?_)
    · have h := h.1 c
      refine gG_iconst (v := 0) dX1_isTold_22 (by decide) ?_
      exact gG_exit ⟨rfl, rfl, rfl, dX1_isTold_23, false, rfl, h⟩
    · have h := h.2 c
      refine gG_iconst (v := 1) dX1_isTold_18 (by decide) ?_
      refine gG_goto (tgt := 23) dX1_isTold_19 (by decide) ?_
      exact gG_exit ⟨rfl, rfl, rfl, dX1_isTold_23, true, rfl, h⟩

theorem kX1_letterOf_0 {d n : Nat} {H : gHp} {P : gHp → Int32 → Prop} {a0 : Nat} {i1 : Int32} (h : gG d mX1_letterOf 0 0 (g_Xj mX1_letterOf n 0 0 P) 2 n H [some (.ref (a0)), some (.int (i1)), some (.int ((0 : Int32)))] [] (0) (0)) : gG d mX1_letterOf 0 0 (g_Xj mX1_letterOf n 0 0 P) 0 n H [some (.ref (a0)), some (.int (i1)), none] [] 0 0 := by
  refine gG_iconst (v := 0) dX1_letterOf_0 (by decide) ?_
  refine gG_istore_n dX1_letterOf_1 rfl (Nat.le_of_ble_eq_true rfl) ?_
  refine gG_locals ?_ h
  exact ⟨rfl, ⟨rfl, ⟨rfl, trivial⟩⟩⟩
theorem kX1_letterOf_2 {d n : Nat} {H : gHp} {P : gHp → Int32 → Prop} {a0 : Nat} {i1 : Int32} {i2 : Int32} (h : g_gi H (a0) 1 8 (fun x1 => (x1 ≤ i2 → P H ((-1 : Int32))) ∧ (¬ (x1 ≤ i2) → g_gr H (a0) 1 10 (fun q2 => g_al 0 H (q2) (i2) (fun x3 => (¬ (x3 = i1) → gG d mX1_letterOf 0 0 (g_Xj mX1_letterOf n 0 0 P) 2 n H [some (.ref (a0)), some (.int (i1)), some (.int ((i2 + 1)))] [] (0) (0)) ∧ (x3 = i1 → P H (i2))))))) : gG d mX1_letterOf 0 0 (g_Xj mX1_letterOf n 0 0 P) 2 n H [some (.ref (a0)), some (.int (i1)), some (.int (i2))] [] 0 0 := by
  refine gG_iload_n dX1_letterOf_2 rfl rfl ?_
  refine gG_aload_n dX1_letterOf_3 rfl rfl ?_
  obtain ⟨fs, x1, e1, e2, h⟩ := h
  refine gG_gi dX1_letterOf_4 fl_X1_54 ⟨fs, x1, e1, e2, ?_⟩
  refine gG_ic_ge (tgt := 28) dX1_letterOf_7 (by decide) (fun c => ?_) (fun c => ?_)
  · have h := h.1 c
    refine gG_iconst (v := (-1)) dX1_letterOf_28 (by decide) ?_
    exact gG_exit ⟨rfl, rfl, rfl, dX1_letterOf_29, _, rfl, h⟩
  · have h := h.2 c
    refine gG_aload_n dX1_letterOf_10 rfl rfl ?_
    obtain ⟨fs, q2, e1, e2, h⟩ := h
    refine gG_gr dX1_letterOf_11 fl_X1_37 ⟨fs, q2, e1, e2, ?_⟩
    refine gG_iload_n dX1_letterOf_14 rfl rfl ?_
    obtain ⟨m0, f0, e1, e2, h⟩ := h
    refine gG_iald dX1_letterOf_15 ⟨m0, f0, e1, e2, ?_⟩
    obtain ⟨x3, eH⟩ : ∃ z, z = f0 (Int32.toNatClampNeg (i2)) := ⟨_, rfl⟩
    rw [← eH] at h ⊢
    refine gG_iload_n dX1_letterOf_16 rfl rfl ?_
    refine gG_ic_ne (tgt := 22) dX1_letterOf_17 (by decide) (fun c => ?_) (fun c => ?_)
    · have h := h.1 c
      refine gG_iinc (v := i2 + 1) dX1_letterOf_22 rfl rfl (Nat.le_of_ble_eq_true rfl) ?_
      refine gG_goto (tgt := 2) dX1_letterOf_25 (by decide) ?_
      refine gG_locals ?_ h
      exact ⟨rfl, ⟨rfl, ⟨rfl, trivial⟩⟩⟩
    · have h := h.2 c
      refine gG_iload_n dX1_letterOf_20 rfl rfl ?_
      exact gG_exit ⟨rfl, rfl, rfl, dX1_letterOf_21, _, rfl, h⟩

theorem kX1_readOf_0 {d n : Nat} {H : gHp} {P : gHp → Int32 → Prop} {a0 : Nat} {i1 : Int32} (h : (∃ fs, H (a0) = .inr (1, fs)) ∧ g_ci d mX1_letterOf n H [.ref (a0), .int (i1)] (fun H1 x2 => (¬ (x2 = (-1 : Int32)) → P H1 (x2)) ∧ (x2 = (-1 : Int32) → (i1 = 0 → P H1 (x2)) ∧ (¬ (i1 = 0) → P H1 ((6 : Int32)))))) : gG d mX1_readOf 0 0 (g_Xj mX1_readOf n 0 0 P) 0 n H [some (.ref (a0)), some (.int (i1)), none] [] 0 0 := by
  refine gG_aload_n dX1_readOf_0 rfl rfl ?_
  refine gG_iload_n dX1_readOf_1 rfl rfl ?_
  obtain ⟨hrc, d2, P2, hdd, hC, h⟩ := h
  refine gG_cvi (As := [.int (i1)]) (st := []) dX1_readOf_2 mV_X1_70 hdd hrc rfl rfl (Nat.le_of_ble_eq_true rfl) (Nat.le_refl _) ⟨Nat.le_refl _, Nat.le_refl _⟩ hC (fun H1 x2 hp => ?_)
  have h := h H1 x2 hp
  refine gG_istore_n dX1_readOf_5 rfl (Nat.le_of_ble_eq_true rfl) ?_
  refine gG_iload_n dX1_readOf_6 rfl rfl ?_
  refine gG_iconst (v := (-1)) dX1_readOf_7 (by decide) ?_
  refine gG_ic_ne (tgt := 20) dX1_readOf_8 (by decide) (fun c => ?_) (fun c => ?_)
  · have h := h.1 c
    refine gG_iload_n dX1_readOf_20 rfl rfl ?_
    exact gG_exit ⟨rfl, rfl, rfl, dX1_readOf_21, _, rfl, h⟩
  · have h := h.2 c
    refine gG_iload_n dX1_readOf_11 rfl rfl ?_
    refine gG_if_eq (tgt := 20) dX1_readOf_12 (by decide) (fun c => ?_) (fun c => ?_)
    · have h := h.1 c
      refine gG_iload_n dX1_readOf_20 rfl rfl ?_
      exact gG_exit ⟨rfl, rfl, rfl, dX1_readOf_21, _, rfl, h⟩
    · have h := h.2 c
      refine gG_bipush (v := 6) dX1_readOf_15 (by decide) ?_
      refine gG_goto (tgt := 21) dX1_readOf_17 (by decide) ?_
      exact gG_exit ⟨rfl, rfl, rfl, dX1_readOf_21, _, rfl, h⟩

theorem kX1_rainOf_0 {d n : Nat} {H : gHp} {P : gHp → Int32 → Prop} {a0 : Nat} {i1 : Int32} (h : g_gi H (a0) 1 11 (fun x1 => (x1 ≤ 0 → P H ((0 : Int32))) ∧ (¬ (x1 ≤ 0) → (i1 < 0 → P H ((0 : Int32))) ∧ (¬ (i1 < 0) → g_gr H (a0) 1 12 (fun q2 => g_gi H (a0) 1 11 (fun x3 => ¬ (x3 = 0) ∧ (g_al 0 H (q2) ((i1 - i1 / x3 * x3)) (fun x4 => P H (x4))))))))) : gG d mX1_rainOf 0 0 (g_Xj mX1_rainOf n 0 0 P) 0 n H [some (.ref (a0)), some (.int (i1))] [] 0 0 := by
  refine gG_aload_n dX1_rainOf_0 rfl rfl ?_
  obtain ⟨fs, x1, e1, e2, h⟩ := h
  refine gG_gi dX1_rainOf_1 fl_X1_57 ⟨fs, x1, e1, e2, ?_⟩
  refine gG_if_le (tgt := 25) dX1_rainOf_4 (by decide) (fun c => ?_) (fun c => ?_)
  · have h := h.1 c
    refine gG_iconst (v := 0) dX1_rainOf_25 (by decide) ?_
    exact gG_exit ⟨rfl, rfl, rfl, dX1_rainOf_26, _, rfl, h⟩
  · have h := h.2 c
    refine gG_iload_n dX1_rainOf_7 rfl rfl ?_
    refine gG_if_lt (tgt := 25) dX1_rainOf_8 (by decide) (fun c => ?_) (fun c => ?_)
    · have h := h.1 c
      refine gG_iconst (v := 0) dX1_rainOf_25 (by decide) ?_
      exact gG_exit ⟨rfl, rfl, rfl, dX1_rainOf_26, _, rfl, h⟩
    · have h := h.2 c
      refine gG_aload_n dX1_rainOf_11 rfl rfl ?_
      obtain ⟨fs, q2, e1, e2, h⟩ := h
      refine gG_gr dX1_rainOf_12 fl_X1_40 ⟨fs, q2, e1, e2, ?_⟩
      refine gG_iload_n dX1_rainOf_15 rfl rfl ?_
      refine gG_aload_n dX1_rainOf_16 rfl rfl ?_
      obtain ⟨fs, x3, e1, e2, h⟩ := h
      refine gG_gi dX1_rainOf_17 fl_X1_57 ⟨fs, x3, e1, e2, ?_⟩
      obtain ⟨hz, h⟩ := h
      refine gG_irem dX1_rainOf_20 hz ?_
      obtain ⟨m0, f0, e1, e2, h⟩ := h
      refine gG_iald dX1_rainOf_21 ⟨m0, f0, e1, e2, ?_⟩
      obtain ⟨x4, eH⟩ : ∃ z, z = f0 (Int32.toNatClampNeg ((i1 - i1 / x3 * x3))) := ⟨_, rfl⟩
      rw [← eH] at h ⊢
      refine gG_goto (tgt := 26) dX1_rainOf_22 (by decide) ?_
      exact gG_exit ⟨rfl, rfl, rfl, dX1_rainOf_26, _, rfl, h⟩

theorem kX1_nests_0 {d n : Nat} {H : gHp} {P : gHp → Int32 → Prop} {a0 : Nat} (h : gG d mX1_nests 0 0 (g_Xj mX1_nests n 0 0 P) 4 n H [some (.ref (a0)), some (.int ((0 : Int32))), some (.int ((0 : Int32)))] [] (0) (0)) : gG d mX1_nests 0 0 (g_Xj mX1_nests n 0 0 P) 0 n H [some (.ref (a0)), none, none] [] 0 0 := by
  refine gG_iconst (v := 0) dX1_nests_0 (by decide) ?_
  refine gG_istore_n dX1_nests_1 rfl (Nat.le_of_ble_eq_true rfl) ?_
  refine gG_iconst (v := 0) dX1_nests_2 (by decide) ?_
  refine gG_istore_n dX1_nests_3 rfl (Nat.le_of_ble_eq_true rfl) ?_
  refine gG_locals ?_ h
  exact ⟨rfl, ⟨rfl, ⟨rfl, trivial⟩⟩⟩
theorem kX1_nests_4 {d n : Nat} {H : gHp} {P : gHp → Int32 → Prop} {a0 : Nat} {i1 : Int32} {i2 : Int32} (h : g_gi H (a0) 1 0 (fun x1 => (x1 ≤ i2 → P H (i1)) ∧ (¬ (x1 ≤ i2) → g_gr H (a0) 1 2 (fun q2 => g_al 0 H (q2) (i2) (fun x3 => (¬ (x3 = (3 : Int32)) → gG d mX1_nests 0 0 (g_Xj mX1_nests n 0 0 P) 4 n H [some (.ref (a0)), some (.int (i1)), some (.int ((i2 + 1)))] [] (0) (0)) ∧ (x3 = (3 : Int32) → gG d mX1_nests 0 0 (g_Xj mX1_nests n 0 0 P) 4 n H [some (.ref (a0)), some (.int ((i1 ||| ((1 : Int32) <<< (i2 &&& 31))))), some (.int ((i2 + 1)))] [] (0) (0))))))) : gG d mX1_nests 0 0 (g_Xj mX1_nests n 0 0 P) 4 n H [some (.ref (a0)), some (.int (i1)), some (.int (i2))] [] 0 0 := by
  refine gG_iload_n dX1_nests_4 rfl rfl ?_
  refine gG_aload_n dX1_nests_5 rfl rfl ?_
  obtain ⟨fs, x1, e1, e2, h⟩ := h
  refine gG_gi dX1_nests_6 fl_X1_50 ⟨fs, x1, e1, e2, ?_⟩
  refine gG_ic_ge (tgt := 34) dX1_nests_9 (by decide) (fun c => ?_) (fun c => ?_)
  · have h := h.1 c
    refine gG_iload_n dX1_nests_34 rfl rfl ?_
    exact gG_exit ⟨rfl, rfl, rfl, dX1_nests_35, _, rfl, h⟩
  · have h := h.2 c
    refine gG_aload_n dX1_nests_12 rfl rfl ?_
    obtain ⟨fs, q2, e1, e2, h⟩ := h
    refine gG_gr dX1_nests_13 fl_X1_15 ⟨fs, q2, e1, e2, ?_⟩
    refine gG_iload_n dX1_nests_16 rfl rfl ?_
    obtain ⟨m0, f0, e1, e2, h⟩ := h
    refine gG_iald dX1_nests_17 ⟨m0, f0, e1, e2, ?_⟩
    obtain ⟨x3, eH⟩ : ∃ z, z = f0 (Int32.toNatClampNeg (i2)) := ⟨_, rfl⟩
    rw [← eH] at h ⊢
    refine gG_iconst (v := 3) dX1_nests_18 (by decide) ?_
    refine gG_ic_ne (tgt := 28) dX1_nests_19 (by decide) (fun c => ?_) (fun c => ?_)
    · have h := h.1 c
      refine gG_iinc (v := i2 + 1) dX1_nests_28 rfl rfl (Nat.le_of_ble_eq_true rfl) ?_
      refine gG_goto (tgt := 4) dX1_nests_31 (by decide) ?_
      refine gG_locals ?_ h
      exact ⟨rfl, ⟨rfl, ⟨rfl, trivial⟩⟩⟩
    · have h := h.2 c
      refine gG_iload_n dX1_nests_22 rfl rfl ?_
      refine gG_iconst (v := 1) dX1_nests_23 (by decide) ?_
      refine gG_iload_n dX1_nests_24 rfl rfl ?_
      refine gG_ishl dX1_nests_25 ?_
      refine gG_ior dX1_nests_26 ?_
      refine gG_istore_n dX1_nests_27 rfl (Nat.le_of_ble_eq_true rfl) ?_
      refine gG_iinc (v := i2 + 1) dX1_nests_28 rfl rfl (Nat.le_of_ble_eq_true rfl) ?_
      refine gG_goto (tgt := 4) dX1_nests_31 (by decide) ?_
      refine gG_locals ?_ h
      exact ⟨rfl, ⟨rfl, ⟨rfl, trivial⟩⟩⟩

theorem kX1_mostSpouted_0 {d n : Nat} {H : gHp} {P : gHp → Int32 → Prop} {a0 : Nat} {i1 : Int32} (h : g_gr H (a0) 1 2 (fun q1 => g_al 0 H (q1) (i1) (fun x2 => (¬ (x2 = (1 : Int32)) → g_gr H (a0) 1 2 (fun q3 => g_al 0 H (q3) (i1) (fun x4 => (¬ (x4 = (2 : Int32)) → P H ((3 : Int32))) ∧ (x4 = (2 : Int32) → P H ((1 : Int32)))))) ∧ (x2 = (1 : Int32) → P H ((6 : Int32)))))) : gG d mX1_mostSpouted 0 0 (g_Xj mX1_mostSpouted n 0 0 P) 0 n H [some (.ref (a0)), some (.int (i1))] [] 0 0 := by
  refine gG_aload_n dX1_mostSpouted_0 rfl rfl ?_
  obtain ⟨fs, q1, e1, e2, h⟩ := h
  refine gG_gr dX1_mostSpouted_1 fl_X1_15 ⟨fs, q1, e1, e2, ?_⟩
  refine gG_iload_n dX1_mostSpouted_4 rfl rfl ?_
  obtain ⟨m0, f0, e1, e2, h⟩ := h
  refine gG_iald dX1_mostSpouted_5 ⟨m0, f0, e1, e2, ?_⟩
  obtain ⟨x2, eH⟩ : ∃ z, z = f0 (Int32.toNatClampNeg (i1)) := ⟨_, rfl⟩
  rw [← eH] at h ⊢
  refine gG_iconst (v := 1) dX1_mostSpouted_6 (by decide) ?_
  refine gG_ic_ne (tgt := 13) dX1_mostSpouted_7 (by decide) (fun c => ?_) (fun c => ?_)
  · have h := h.1 c
    refine gG_aload_n dX1_mostSpouted_13 rfl rfl ?_
    obtain ⟨fs, q3, e1, e2, h⟩ := h
    refine gG_gr dX1_mostSpouted_14 fl_X1_15 ⟨fs, q3, e1, e2, ?_⟩
    refine gG_iload_n dX1_mostSpouted_17 rfl rfl ?_
    obtain ⟨m0, f0, e1, e2, h⟩ := h
    refine gG_iald dX1_mostSpouted_18 ⟨m0, f0, e1, e2, ?_⟩
    obtain ⟨x4, eH⟩ : ∃ z, z = f0 (Int32.toNatClampNeg (i1)) := ⟨_, rfl⟩
    rw [← eH] at h ⊢
    refine gG_iconst (v := 2) dX1_mostSpouted_19 (by decide) ?_
    refine gG_ic_ne (tgt := 27) dX1_mostSpouted_20 (by decide) (fun c => ?_) (fun c => ?_)
    · have h := h.1 c
      refine gG_iconst (v := 3) dX1_mostSpouted_27 (by decide) ?_
      exact gG_exit ⟨rfl, rfl, rfl, dX1_mostSpouted_28, _, rfl, h⟩
    · have h := h.2 c
      refine gG_iconst (v := 1) dX1_mostSpouted_23 (by decide) ?_
      refine gG_goto (tgt := 28) dX1_mostSpouted_24 (by decide) ?_
      exact gG_exit ⟨rfl, rfl, rfl, dX1_mostSpouted_28, _, rfl, h⟩
  · have h := h.2 c
    refine gG_bipush (v := 6) dX1_mostSpouted_10 (by decide) ?_
    exact gG_exit ⟨rfl, rfl, rfl, dX1_mostSpouted_12, _, rfl, h⟩

theorem kX1_below_0 {d n : Nat} {H : gHp} {P : gHp → Int32 → Prop} {a0 : Nat} {i1 : Int32} (h : g_gr H (a0) 1 6 (fun q1 => g_al 0 H (q1) (i1) (fun x2 => gG d mX1_below 0 0 (g_Xj mX1_below n 0 0 P) 12 n H [some (.ref (a0)), none, some (.int ((0 : Int32))), some (.int (x2)), some (.int ((0 : Int32)))] [] (0) (0)))) : gG d mX1_below 0 0 (g_Xj mX1_below n 0 0 P) 0 n H [some (.ref (a0)), some (.int (i1)), none, none, none] [] 0 0 := by
  refine gG_iconst (v := 0) dX1_below_0 (by decide) ?_
  refine gG_istore_n dX1_below_1 rfl (Nat.le_of_ble_eq_true rfl) ?_
  refine gG_aload_n dX1_below_2 rfl rfl ?_
  obtain ⟨fs, q1, e1, e2, h⟩ := h
  refine gG_gr dX1_below_3 fl_X1_28 ⟨fs, q1, e1, e2, ?_⟩
  refine gG_iload_n dX1_below_6 rfl rfl ?_
  obtain ⟨m0, f0, e1, e2, h⟩ := h
  refine gG_iald dX1_below_7 ⟨m0, f0, e1, e2, ?_⟩
  obtain ⟨x2, eH⟩ : ∃ z, z = f0 (Int32.toNatClampNeg (i1)) := ⟨_, rfl⟩
  rw [← eH] at h ⊢
  refine gG_istore_n dX1_below_8 rfl (Nat.le_of_ble_eq_true rfl) ?_
  refine gG_iconst (v := 0) dX1_below_9 (by decide) ?_
  refine gG_istore dX1_below_10 (Nat.le_of_ble_eq_true rfl) ?_
  refine gG_locals ?_ h
  exact ⟨rfl, ⟨rfl, ⟨rfl, ⟨rfl, trivial⟩⟩⟩⟩
theorem kX1_below_12 {d n : Nat} {H : gHp} {P : gHp → Int32 → Prop} {a0 : Nat} {i2 : Int32} {i3 : Int32} {i4 : Int32} (h : ((7 : Int32) ≤ i4 → P H (i2)) ∧ (¬ ((7 : Int32) ≤ i4) → (i3 = (-1 : Int32) → P H (i2)) ∧ (¬ (i3 = (-1 : Int32)) → g_gr H (a0) 1 6 (fun q1 => g_al 0 H (q1) (i3) (fun x2 => gG d mX1_below 0 0 (g_Xj mX1_below n 0 0 P) 12 n H [some (.ref (a0)), none, some (.int ((i2 ||| ((1 : Int32) <<< (i3 &&& 31))))), some (.int (x2)), some (.int ((i4 + 1)))] [] (0) (0)))))) : gG d mX1_below 0 0 (g_Xj mX1_below n 0 0 P) 12 n H [some (.ref (a0)), none, some (.int (i2)), some (.int (i3)), some (.int (i4))] [] 0 0 := by
  refine gG_iload dX1_below_12 rfl ?_
  refine gG_bipush (v := 7) dX1_below_14 (by decide) ?_
  refine gG_ic_ge (tgt := 43) dX1_below_16 (by decide) (fun c => ?_) (fun c => ?_)
  · have h := h.1 c
    refine gG_iload_n dX1_below_43 rfl rfl ?_
    exact gG_exit ⟨rfl, rfl, rfl, dX1_below_44, _, rfl, h⟩
  · have h := h.2 c
    refine gG_iload_n dX1_below_19 rfl rfl ?_
    refine gG_iconst (v := (-1)) dX1_below_20 (by decide) ?_
    refine gG_ic_eq (tgt := 43) dX1_below_21 (by decide) (fun c => ?_) (fun c => ?_)
    · have h := h.1 c
      refine gG_iload_n dX1_below_43 rfl rfl ?_
      exact gG_exit ⟨rfl, rfl, rfl, dX1_below_44, _, rfl, h⟩
    · have h := h.2 c
      refine gG_iload_n dX1_below_24 rfl rfl ?_
      refine gG_iconst (v := 1) dX1_below_25 (by decide) ?_
      refine gG_iload_n dX1_below_26 rfl rfl ?_
      refine gG_ishl dX1_below_27 ?_
      refine gG_ior dX1_below_28 ?_
      refine gG_istore_n dX1_below_29 rfl (Nat.le_of_ble_eq_true rfl) ?_
      refine gG_aload_n dX1_below_30 rfl rfl ?_
      obtain ⟨fs, q1, e1, e2, h⟩ := h
      refine gG_gr dX1_below_31 fl_X1_28 ⟨fs, q1, e1, e2, ?_⟩
      refine gG_iload_n dX1_below_34 rfl rfl ?_
      obtain ⟨m0, f0, e1, e2, h⟩ := h
      refine gG_iald dX1_below_35 ⟨m0, f0, e1, e2, ?_⟩
      obtain ⟨x2, eH⟩ : ∃ z, z = f0 (Int32.toNatClampNeg (i3)) := ⟨_, rfl⟩
      rw [← eH] at h ⊢
      refine gG_istore_n dX1_below_36 rfl (Nat.le_of_ble_eq_true rfl) ?_
      refine gG_iinc (v := i4 + 1) dX1_below_37 rfl rfl (Nat.le_of_ble_eq_true rfl) ?_
      refine gG_goto (tgt := 12) dX1_below_40 (by decide) ?_
      refine gG_locals ?_ h
      exact ⟨rfl, ⟨rfl, ⟨rfl, ⟨rfl, trivial⟩⟩⟩⟩

theorem kX1_putInOrder_0 {d n : Nat} {H : gHp} {P : gHp → Prop} {a0 : Nat} {i1 : Int32} (h : gG d mX1_putInOrder 0 0 (g_Xv mX1_putInOrder n 0 0 P) 2 n H [some (.ref (a0)), some (.int (i1)), some (.int (i1))] [] (0) (0)) : gG d mX1_putInOrder 0 0 (g_Xv mX1_putInOrder n 0 0 P) 0 n H [some (.ref (a0)), some (.int (i1)), none] [] 0 0 := by
  refine gG_iload_n dX1_putInOrder_0 rfl rfl ?_
  refine gG_istore_n dX1_putInOrder_1 rfl (Nat.le_of_ble_eq_true rfl) ?_
  refine gG_locals ?_ h
  exact ⟨rfl, ⟨rfl, ⟨rfl, trivial⟩⟩⟩
theorem kX1_putInOrder_2 {d n : Nat} {H : gHp} {P : gHp → Prop} {a0 : Nat} {i1 : Int32} {i2 : Int32} (h : (i2 ≤ 0 → g_gr H (a0) 1 7 (fun q1 => g_as 0 H (q1) (i2) (i1) (fun H2 => P H2))) ∧ (¬ (i2 ≤ 0) → g_gr H (a0) 1 3 (fun q3 => g_gr H (a0) 1 7 (fun q4 => g_al 0 H (q4) ((i2 - (1 : Int32))) (fun x5 => g_al 0 H (q3) (x5) (fun x6 => g_gr H (a0) 1 3 (fun q7 => g_al 0 H (q7) (i1) (fun x8 => (x8 ≤ x6 → g_gr H (a0) 1 7 (fun q9 => g_as 0 H (q9) (i2) (i1) (fun H10 => P H10))) ∧ (¬ (x8 ≤ x6) → g_gr H (a0) 1 7 (fun q11 => g_gr H (a0) 1 7 (fun q12 => g_al 0 H (q12) ((i2 - (1 : Int32))) (fun x13 => g_as 0 H (q11) (i2) (x13) (fun H14 => gG d mX1_putInOrder 0 0 (g_Xv mX1_putInOrder n 0 0 P) 2 n H14 [some (.ref (a0)), some (.int (i1)), some (.int ((i2 + (-1))))] [] (0) (0)))))))))))))) : gG d mX1_putInOrder 0 0 (g_Xv mX1_putInOrder n 0 0 P) 2 n H [some (.ref (a0)), some (.int (i1)), some (.int (i2))] [] 0 0 := by
  refine gG_iload_n dX1_putInOrder_2 rfl rfl ?_
  refine gG_if_le (tgt := 48) dX1_putInOrder_3 (by decide) (fun c => ?_) (fun c => ?_)
  · have h := h.1 c
    refine gG_aload_n dX1_putInOrder_48 rfl rfl ?_
    obtain ⟨fs, q1, e1, e2, h⟩ := h
    refine gG_gr dX1_putInOrder_49 fl_X1_31 ⟨fs, q1, e1, e2, ?_⟩
    refine gG_iload_n dX1_putInOrder_52 rfl rfl ?_
    refine gG_iload_n dX1_putInOrder_53 rfl rfl ?_
    obtain ⟨m0, f0, e1, e2, h⟩ := h
    refine gG_iast dX1_putInOrder_54 ⟨m0, f0, e1, e2, ?_⟩
    obtain ⟨H2, eH⟩ : ∃ z, z = va_up H (q1) (.inl (0, m0, .inl (upd f0 (Int32.toNatClampNeg (i2)) (i1)))) := ⟨_, rfl⟩
    rw [← eH] at h ⊢
    exact gG_exit ⟨rfl, rfl, rfl, dX1_putInOrder_55, rfl, h⟩
  · have h := h.2 c
    refine gG_aload_n dX1_putInOrder_6 rfl rfl ?_
    obtain ⟨fs, q3, e1, e2, h⟩ := h
    refine gG_gr dX1_putInOrder_7 fl_X1_19 ⟨fs, q3, e1, e2, ?_⟩
    refine gG_aload_n dX1_putInOrder_10 rfl rfl ?_
    obtain ⟨fs, q4, e1, e2, h⟩ := h
    refine gG_gr dX1_putInOrder_11 fl_X1_31 ⟨fs, q4, e1, e2, ?_⟩
    refine gG_iload_n dX1_putInOrder_14 rfl rfl ?_
    refine gG_iconst (v := 1) dX1_putInOrder_15 (by decide) ?_
    refine gG_isub dX1_putInOrder_16 ?_
    obtain ⟨m0, f0, e1, e2, h⟩ := h
    refine gG_iald dX1_putInOrder_17 ⟨m0, f0, e1, e2, ?_⟩
    obtain ⟨x5, eH⟩ : ∃ z, z = f0 (Int32.toNatClampNeg ((i2 - (1 : Int32)))) := ⟨_, rfl⟩
    rw [← eH] at h ⊢
    obtain ⟨m0, f0, e1, e2, h⟩ := h
    refine gG_iald dX1_putInOrder_18 ⟨m0, f0, e1, e2, ?_⟩
    obtain ⟨x6, eH⟩ : ∃ z, z = f0 (Int32.toNatClampNeg (x5)) := ⟨_, rfl⟩
    rw [← eH] at h ⊢
    refine gG_aload_n dX1_putInOrder_19 rfl rfl ?_
    obtain ⟨fs, q7, e1, e2, h⟩ := h
    refine gG_gr dX1_putInOrder_20 fl_X1_19 ⟨fs, q7, e1, e2, ?_⟩
    refine gG_iload_n dX1_putInOrder_23 rfl rfl ?_
    obtain ⟨m0, f0, e1, e2, h⟩ := h
    refine gG_iald dX1_putInOrder_24 ⟨m0, f0, e1, e2, ?_⟩
    obtain ⟨x8, eH⟩ : ∃ z, z = f0 (Int32.toNatClampNeg (i1)) := ⟨_, rfl⟩
    rw [← eH] at h ⊢
    refine gG_ic_ge (tgt := 48) dX1_putInOrder_25 (by decide) (fun c => ?_) (fun c => ?_)
    · have h := h.1 c
      refine gG_aload_n dX1_putInOrder_48 rfl rfl ?_
      obtain ⟨fs, q9, e1, e2, h⟩ := h
      refine gG_gr dX1_putInOrder_49 fl_X1_31 ⟨fs, q9, e1, e2, ?_⟩
      refine gG_iload_n dX1_putInOrder_52 rfl rfl ?_
      refine gG_iload_n dX1_putInOrder_53 rfl rfl ?_
      obtain ⟨m0, f0, e1, e2, h⟩ := h
      refine gG_iast dX1_putInOrder_54 ⟨m0, f0, e1, e2, ?_⟩
      obtain ⟨H10, eH⟩ : ∃ z, z = va_up H (q9) (.inl (0, m0, .inl (upd f0 (Int32.toNatClampNeg (i2)) (i1)))) := ⟨_, rfl⟩
      rw [← eH] at h ⊢
      exact gG_exit ⟨rfl, rfl, rfl, dX1_putInOrder_55, rfl, h⟩
    · have h := h.2 c
      refine gG_aload_n dX1_putInOrder_28 rfl rfl ?_
      obtain ⟨fs, q11, e1, e2, h⟩ := h
      refine gG_gr dX1_putInOrder_29 fl_X1_31 ⟨fs, q11, e1, e2, ?_⟩
      refine gG_iload_n dX1_putInOrder_32 rfl rfl ?_
      refine gG_aload_n dX1_putInOrder_33 rfl rfl ?_
      obtain ⟨fs, q12, e1, e2, h⟩ := h
      refine gG_gr dX1_putInOrder_34 fl_X1_31 ⟨fs, q12, e1, e2, ?_⟩
      refine gG_iload_n dX1_putInOrder_37 rfl rfl ?_
      refine gG_iconst (v := 1) dX1_putInOrder_38 (by decide) ?_
      refine gG_isub dX1_putInOrder_39 ?_
      obtain ⟨m0, f0, e1, e2, h⟩ := h
      refine gG_iald dX1_putInOrder_40 ⟨m0, f0, e1, e2, ?_⟩
      obtain ⟨x13, eH⟩ : ∃ z, z = f0 (Int32.toNatClampNeg ((i2 - (1 : Int32)))) := ⟨_, rfl⟩
      rw [← eH] at h ⊢
      obtain ⟨m0, f0, e1, e2, h⟩ := h
      refine gG_iast dX1_putInOrder_41 ⟨m0, f0, e1, e2, ?_⟩
      obtain ⟨H14, eH⟩ : ∃ z, z = va_up H (q11) (.inl (0, m0, .inl (upd f0 (Int32.toNatClampNeg (i2)) (x13)))) := ⟨_, rfl⟩
      rw [← eH] at h ⊢
      refine gG_iinc (v := i2 + (-1)) dX1_putInOrder_42 rfl rfl (Nat.le_of_ble_eq_true rfl) ?_
      refine gG_goto (tgt := 2) dX1_putInOrder_45 (by decide) ?_
      refine gG_locals ?_ h
      exact ⟨rfl, ⟨rfl, ⟨rfl, trivial⟩⟩⟩

theorem kX3_add_0 {d n : Nat} {H : gHp} {P : gHp → Prop} {a0 : Nat} {i1 : Int32} (h : g_gi H (a0) 3 1 (fun x1 => ((1000 : Int32) ≤ x1 → P H) ∧ (¬ ((1000 : Int32) ≤ x1) → g_gr H (a0) 3 0 (fun q2 => g_gi H (a0) 3 1 (fun x3 => g_as 0 H (q2) (x3) (i1) (fun H4 => g_gi H4 (a0) 3 1 (fun x5 => g_pf H4 (a0) 3 1 (.int ((x5 + (1 : Int32)))) (fun H6 => P H6)))))))) : gG d mX3_add 0 0 (g_Xv mX3_add n 0 0 P) 0 n H [some (.ref (a0)), some (.int (i1))] [] 0 0 := by
  refine gG_aload_n dX3_add_0 rfl rfl ?_
  obtain ⟨fs, x1, e1, e2, h⟩ := h
  refine gG_gi dX3_add_1 fl_X3_18 ⟨fs, x1, e1, e2, ?_⟩
  refine gG_sipush (v := 1000) dX3_add_4 (by decide) ?_
  refine gG_ic_ge (tgt := 30) dX3_add_7 (by decide) (fun c => ?_) (fun c => ?_)
  · have h := h.1 c
    exact gG_exit ⟨rfl, rfl, rfl, dX3_add_30, rfl, h⟩
  · have h := h.2 c
    refine gG_aload_n dX3_add_10 rfl rfl ?_
    obtain ⟨fs, q2, e1, e2, h⟩ := h
    refine gG_gr dX3_add_11 fl_X3_9 ⟨fs, q2, e1, e2, ?_⟩
    refine gG_aload_n dX3_add_14 rfl rfl ?_
    obtain ⟨fs, x3, e1, e2, h⟩ := h
    refine gG_gi dX3_add_15 fl_X3_18 ⟨fs, x3, e1, e2, ?_⟩
    refine gG_iload_n dX3_add_18 rfl rfl ?_
    obtain ⟨m0, f0, e1, e2, h⟩ := h
    refine gG_iast dX3_add_19 ⟨m0, f0, e1, e2, ?_⟩
    obtain ⟨H4, eH⟩ : ∃ z, z = va_up H (q2) (.inl (0, m0, .inl (upd f0 (Int32.toNatClampNeg (x3)) (i1)))) := ⟨_, rfl⟩
    rw [← eH] at h ⊢
    refine gG_aload_n dX3_add_20 rfl rfl ?_
    refine gG_dup dX3_add_21 rfl ?_
    obtain ⟨fs, x5, e1, e2, h⟩ := h
    refine gG_gi dX3_add_22 fl_X3_18 ⟨fs, x5, e1, e2, ?_⟩
    refine gG_iconst (v := 1) dX3_add_25 (by decide) ?_
    refine gG_iadd dX3_add_26 ?_
    obtain ⟨fs, e1, e2, h⟩ := h
    refine gG_pi dX3_add_27 fl_X3_18 ⟨fs, e1, e2, ?_⟩
    obtain ⟨H6, eH⟩ : ∃ z, z = va_up H4 (a0) (.inr (3, fs.set 1 (.int ((x5 + (1 : Int32)))))) := ⟨_, rfl⟩
    rw [← eH] at h ⊢
    exact gG_exit ⟨rfl, rfl, rfl, dX3_add_30, rfl, h⟩

theorem kX3_valueFor_0 {d n : Nat} {H : gHp} {P : gHp → Int32 → Prop} {a0 : Nat} {i1 : Int32} {i2 : Int32} {i3 : Int32} {i4 : Int32} (h : g_gi H (a0) 3 1 (fun x1 => (¬ (x1 = 0) → gG d mX3_valueFor 0 0 (g_Xj mX3_valueFor n 0 0 P) 15 n H [some (.ref (a0)), some (.int (i1)), some (.int (i2)), some (.int (i3)), some (.int (i4)), some (.int ((0 : Int32))), some (.int ((0 : Int32))), none] [] (0) (0)) ∧ (x1 = 0 → P H (i1)))) : gG d mX3_valueFor 0 0 (g_Xj mX3_valueFor n 0 0 P) 0 n H [some (.ref (a0)), some (.int (i1)), some (.int (i2)), some (.int (i3)), some (.int (i4)), none, none, none] [] 0 0 := by
  refine gG_aload_n dX3_valueFor_0 rfl rfl ?_
  obtain ⟨fs, x1, e1, e2, h⟩ := h
  refine gG_gi dX3_valueFor_1 fl_X3_18 ⟨fs, x1, e1, e2, ?_⟩
  refine gG_if_ne (tgt := 9) dX3_valueFor_4 (by decide) (fun c => ?_) (fun c => ?_)
  · have h := h.1 c
    refine gG_iconst (v := 0) dX3_valueFor_9 (by decide) ?_
    refine gG_istore dX3_valueFor_10 (Nat.le_of_ble_eq_true rfl) ?_
    refine gG_iconst (v := 0) dX3_valueFor_12 (by decide) ?_
    refine gG_istore dX3_valueFor_13 (Nat.le_of_ble_eq_true rfl) ?_
    refine gG_locals ?_ h
    exact ⟨rfl, ⟨rfl, ⟨rfl, ⟨rfl, ⟨rfl, ⟨rfl, ⟨rfl, trivial⟩⟩⟩⟩⟩⟩⟩
  · have h := h.2 c
    refine gG_iload_n dX3_valueFor_7 rfl rfl ?_
    exact gG_exit ⟨rfl, rfl, rfl, dX3_valueFor_8, _, rfl, h⟩
theorem kX3_valueFor_15 {d n : Nat} {H : gHp} {P : gHp → Int32 → Prop} {a0 : Nat} {i1 : Int32} {i2 : Int32} {i3 : Int32} {i4 : Int32} {i5 : Int32} {i6 : Int32} (h : g_gi H (a0) 3 1 (fun x1 => (x1 ≤ i6 → g_gr H (a0) 3 2 (fun q2 => g_al 0 H (q2) ((0 : Int32)) (fun x3 => P H (x3)))) ∧ (¬ (x1 ≤ i6) → g_gr H (a0) 3 0 (fun q4 => g_al 0 H (q4) (i6) (fun x5 => ((-6 : Int32) < x5 → (¬ (x5 = (-5 : Int32)) → ((24 : Int32) ≤ i5 → gG d mX3_valueFor 0 0 (g_Xj mX3_valueFor n 0 0 P) 15 n H [some (.ref (a0)), some (.int (i1)), some (.int (i2)), some (.int (i3)), some (.int (i4)), some (.int (i5)), some (.int ((i6 + 1))), none] [] (0) (0)) ∧ (¬ ((24 : Int32) ≤ i5) → g_gr H (a0) 3 2 (fun q6 => (x5 < 0 → g_ci d mX3_fact n H [.int (x5), .int (i1), .int (i2), .int (i3), .int (i4)] (fun H7 x8 => g_as 0 H7 (q6) (i5) (x8) (fun H9 => gG d mX3_valueFor 0 0 (g_Xj mX3_valueFor n 0 0 P) 15 n H9 [some (.ref (a0)), some (.int (i1)), some (.int (i2)), some (.int (i3)), some (.int (i4)), some (.int ((i5 + 1))), some (.int ((i6 + 1))), none] [] (0) (0)))) ∧ (¬ (x5 < 0) → g_as 0 H (q6) (i5) (x5) (fun H10 => gG d mX3_valueFor 0 0 (g_Xj mX3_valueFor n 0 0 P) 15 n H10 [some (.ref (a0)), some (.int (i1)), some (.int (i2)), some (.int (i3)), some (.int (i4)), some (.int ((i5 + 1))), some (.int ((i6 + 1))), none] [] (0) (0)))))) ∧ (x5 = (-5 : Int32) → (i5 < (1 : Int32) → gG d mX3_valueFor 0 0 (g_Xj mX3_valueFor n 0 0 P) 15 n H [some (.ref (a0)), some (.int (i1)), some (.int (i2)), some (.int (i3)), some (.int (i4)), some (.int (i5)), some (.int ((i6 + 1))), none] [] (0) (0)) ∧ (¬ (i5 < (1 : Int32)) → g_gr H (a0) 3 2 (fun q11 => g_gr H (a0) 3 2 (fun q12 => g_al 0 H (q12) ((i5 - (1 : Int32))) (fun x13 => (¬ (x13 = 0) → g_as 0 H (q11) ((i5 - (1 : Int32))) ((0 : Int32)) (fun H14 => gG d mX3_valueFor 0 0 (g_Xj mX3_valueFor n 0 0 P) 15 n H14 [some (.ref (a0)), some (.int (i1)), some (.int (i2)), some (.int (i3)), some (.int (i4)), some (.int (i5)), some (.int ((i6 + 1))), none] [] (0) (0))) ∧ (x13 = 0 → g_as 0 H (q11) ((i5 - (1 : Int32))) ((1 : Int32)) (fun H15 => gG d mX3_valueFor 0 0 (g_Xj mX3_valueFor n 0 0 P) 15 n H15 [some (.ref (a0)), some (.int (i1)), some (.int (i2)), some (.int (i3)), some (.int (i4)), some (.int (i5)), some (.int ((i6 + 1))), none] [] (0) (0))))))))) ∧ (¬ ((-6 : Int32) < x5) → (i5 < (2 : Int32) → gG d mX3_valueFor 0 0 (g_Xj mX3_valueFor n 0 0 P) 15 n H [some (.ref (a0)), some (.int (i1)), some (.int (i2)), some (.int (i3)), some (.int (i4)), some (.int (i5)), some (.int ((i6 + 1))), none] [] (0) (0)) ∧ (¬ (i5 < (2 : Int32)) → g_gr H (a0) 3 2 (fun q16 => g_gr H (a0) 3 2 (fun q17 => g_al 0 H (q17) (((i5 + (-1)) - (1 : Int32))) (fun x18 => g_gr H (a0) 3 2 (fun q19 => g_al 0 H (q19) ((i5 + (-1))) (fun x20 => g_ci d mX3_join n H [.int (x5), .int (x18), .int (x20)] (fun H21 x22 => g_as 0 H21 (q16) (((i5 + (-1)) - (1 : Int32))) (x22) (fun H23 => gG d mX3_valueFor 0 0 (g_Xj mX3_valueFor n 0 0 P) 15 n H23 [some (.ref (a0)), some (.int (i1)), some (.int (i2)), some (.int (i3)), some (.int (i4)), some (.int ((i5 + (-1)))), some (.int ((i6 + 1))), none] [] (0) (0))))))))))))))) : gG d mX3_valueFor 0 0 (g_Xj mX3_valueFor n 0 0 P) 15 n H [some (.ref (a0)), some (.int (i1)), some (.int (i2)), some (.int (i3)), some (.int (i4)), some (.int (i5)), some (.int (i6)), none] [] 0 0 := by
  refine gG_iload dX3_valueFor_15 rfl ?_
  refine gG_aload_n dX3_valueFor_17 rfl rfl ?_
  obtain ⟨fs, x1, e1, e2, h⟩ := h
  refine gG_gi dX3_valueFor_18 fl_X3_18 ⟨fs, x1, e1, e2, ?_⟩
  refine gG_ic_ge (tgt := 167) dX3_valueFor_21 (by decide) (fun c => ?_) (fun c => ?_)
  · have h := h.1 c
    refine gG_aload_n dX3_valueFor_167 rfl rfl ?_
    obtain ⟨fs, q2, e1, e2, h⟩ := h
    refine gG_gr dX3_valueFor_168 fl_X3_15 ⟨fs, q2, e1, e2, ?_⟩
    refine gG_iconst (v := 0) dX3_valueFor_171 (by decide) ?_
    obtain ⟨m0, f0, e1, e2, h⟩ := h
    refine gG_iald dX3_valueFor_172 ⟨m0, f0, e1, e2, ?_⟩
    obtain ⟨x3, eH⟩ : ∃ z, z = f0 (Int32.toNatClampNeg ((0 : Int32))) := ⟨_, rfl⟩
    rw [← eH] at h ⊢
    exact gG_exit ⟨rfl, rfl, rfl, dX3_valueFor_173, _, rfl, h⟩
  · have h := h.2 c
    refine gG_aload_n dX3_valueFor_24 rfl rfl ?_
    obtain ⟨fs, q4, e1, e2, h⟩ := h
    refine gG_gr dX3_valueFor_25 fl_X3_9 ⟨fs, q4, e1, e2, ?_⟩
    refine gG_iload dX3_valueFor_28 rfl ?_
    obtain ⟨m0, f0, e1, e2, h⟩ := h
    refine gG_iald dX3_valueFor_30 ⟨m0, f0, e1, e2, ?_⟩
    obtain ⟨x5, eH⟩ : ∃ z, z = f0 (Int32.toNatClampNeg (i6)) := ⟨_, rfl⟩
    rw [← eH] at h ⊢
    refine gG_istore dX3_valueFor_31 (Nat.le_of_ble_eq_true rfl) ?_
    refine gG_iload dX3_valueFor_33 rfl ?_
    refine gG_bipush (v := (-6)) dX3_valueFor_35 (by decide) ?_
    refine gG_ic_gt (tgt := 82) dX3_valueFor_37 (by decide) (fun c => ?_) (fun c => ?_)
    · have h := h.1 c
      refine gG_iload dX3_valueFor_82 rfl ?_
      refine gG_bipush (v := (-5)) dX3_valueFor_84 (by decide) ?_
      refine gG_ic_ne (tgt := 124) dX3_valueFor_86 (by decide) (fun c => ?_) (fun c => ?_)
      · have h := h.1 c
        refine gG_iload dX3_valueFor_124 rfl ?_
        refine gG_bipush (v := 24) dX3_valueFor_126 (by decide) ?_
        refine gG_ic_ge (tgt := 161) dX3_valueFor_128 (by decide) (fun c => ?_) (fun c => ?_)
        · have h := h.1 c
          refine gG_iinc (v := i6 + 1) dX3_valueFor_161 rfl rfl (Nat.le_of_ble_eq_true rfl) ?_
          refine gG_goto (tgt := 15) dX3_valueFor_164 (by decide) ?_
          refine gG_locals ?_ h
          exact ⟨rfl, ⟨rfl, ⟨rfl, ⟨rfl, ⟨rfl, ⟨rfl, ⟨rfl, trivial⟩⟩⟩⟩⟩⟩⟩
        · have h := h.2 c
          refine gG_aload_n dX3_valueFor_131 rfl rfl ?_
          obtain ⟨fs, q6, e1, e2, h⟩ := h
          refine gG_gr dX3_valueFor_132 fl_X3_15 ⟨fs, q6, e1, e2, ?_⟩
          refine gG_iload dX3_valueFor_135 rfl ?_
          refine gG_iload dX3_valueFor_137 rfl ?_
          refine gG_if_lt (tgt := 147) dX3_valueFor_139 (by decide) (fun c => ?_) (fun c => ?_)
          · have h := h.1 c
            refine gG_iload dX3_valueFor_147 rfl ?_
            refine gG_iload_n dX3_valueFor_149 rfl rfl ?_
            refine gG_iload_n dX3_valueFor_150 rfl rfl ?_
            refine gG_iload_n dX3_valueFor_151 rfl rfl ?_
            refine gG_iload dX3_valueFor_152 rfl ?_
            obtain ⟨d2, P2, hdd, hC, h⟩ := h
            refine gG_csi (As := [.int (x5), .int (i1), .int (i2), .int (i3), .int (i4)]) (st := [.int (i5), .ref (q6)]) dX3_valueFor_154 mS_X3_26 hdd rfl rfl (Nat.le_of_ble_eq_true rfl) (Nat.le_refl _) ⟨Nat.le_refl _, Nat.le_refl _⟩ hC (fun H7 x8 hp => ?_)
            have h := h H7 x8 hp
            obtain ⟨m0, f0, e1, e2, h⟩ := h
            refine gG_iast dX3_valueFor_157 ⟨m0, f0, e1, e2, ?_⟩
            obtain ⟨H9, eH⟩ : ∃ z, z = va_up H7 (q6) (.inl (0, m0, .inl (upd f0 (Int32.toNatClampNeg (i5)) (x8)))) := ⟨_, rfl⟩
            rw [← eH] at h ⊢
            refine gG_iinc (v := i5 + 1) dX3_valueFor_158 rfl rfl (Nat.le_of_ble_eq_true rfl) ?_
            refine gG_iinc (v := i6 + 1) dX3_valueFor_161 rfl rfl (Nat.le_of_ble_eq_true rfl) ?_
            refine gG_goto (tgt := 15) dX3_valueFor_164 (by decide) ?_
            refine gG_locals ?_ h
            exact ⟨rfl, ⟨rfl, ⟨rfl, ⟨rfl, ⟨rfl, ⟨rfl, ⟨rfl, trivial⟩⟩⟩⟩⟩⟩⟩
          · have h := h.2 c
            refine gG_iload dX3_valueFor_142 rfl ?_
            refine gG_goto (tgt := 157) dX3_valueFor_144 (by decide) ?_
            obtain ⟨m0, f0, e1, e2, h⟩ := h
            refine gG_iast dX3_valueFor_157 ⟨m0, f0, e1, e2, ?_⟩
            obtain ⟨H10, eH⟩ : ∃ z, z = va_up H (q6) (.inl (0, m0, .inl (upd f0 (Int32.toNatClampNeg (i5)) (x5)))) := ⟨_, rfl⟩
            rw [← eH] at h ⊢
            refine gG_iinc (v := i5 + 1) dX3_valueFor_158 rfl rfl (Nat.le_of_ble_eq_true rfl) ?_
            refine gG_iinc (v := i6 + 1) dX3_valueFor_161 rfl rfl (Nat.le_of_ble_eq_true rfl) ?_
            refine gG_goto (tgt := 15) dX3_valueFor_164 (by decide) ?_
            refine gG_locals ?_ h
            exact ⟨rfl, ⟨rfl, ⟨rfl, ⟨rfl, ⟨rfl, ⟨rfl, ⟨rfl, trivial⟩⟩⟩⟩⟩⟩⟩
      · have h := h.2 c
        refine gG_iload dX3_valueFor_89 rfl ?_
        refine gG_iconst (v := 1) dX3_valueFor_91 (by decide) ?_
        refine gG_ic_lt (tgt := 161) dX3_valueFor_92 (by decide) (fun c => ?_) (fun c => ?_)
        · have h := h.1 c
          refine gG_iinc (v := i6 + 1) dX3_valueFor_161 rfl rfl (Nat.le_of_ble_eq_true rfl) ?_
          refine gG_goto (tgt := 15) dX3_valueFor_164 (by decide) ?_
          refine gG_locals ?_ h
          exact ⟨rfl, ⟨rfl, ⟨rfl, ⟨rfl, ⟨rfl, ⟨rfl, ⟨rfl, trivial⟩⟩⟩⟩⟩⟩⟩
        · have h := h.2 c
          refine gG_aload_n dX3_valueFor_95 rfl rfl ?_
          obtain ⟨fs, q11, e1, e2, h⟩ := h
          refine gG_gr dX3_valueFor_96 fl_X3_15 ⟨fs, q11, e1, e2, ?_⟩
          refine gG_iload dX3_valueFor_99 rfl ?_
          refine gG_iconst (v := 1) dX3_valueFor_101 (by decide) ?_
          refine gG_isub dX3_valueFor_102 ?_
          refine gG_aload_n dX3_valueFor_103 rfl rfl ?_
          obtain ⟨fs, q12, e1, e2, h⟩ := h
          refine gG_gr dX3_valueFor_104 fl_X3_15 ⟨fs, q12, e1, e2, ?_⟩
          refine gG_iload dX3_valueFor_107 rfl ?_
          refine gG_iconst (v := 1) dX3_valueFor_109 (by decide) ?_
          refine gG_isub dX3_valueFor_110 ?_
          obtain ⟨m0, f0, e1, e2, h⟩ := h
          refine gG_iald dX3_valueFor_111 ⟨m0, f0, e1, e2, ?_⟩
          obtain ⟨x13, eH⟩ : ∃ z, z = f0 (Int32.toNatClampNeg ((i5 - (1 : Int32)))) := ⟨_, rfl⟩
          rw [← eH] at h ⊢
          refine gG_if_ne (tgt := 119) dX3_valueFor_112 (by decide) (fun c => ?_) (fun c => ?_)
          · have h := h.1 c
            refine gG_iconst (v := 0) dX3_valueFor_119 (by decide) ?_
            obtain ⟨m0, f0, e1, e2, h⟩ := h
            refine gG_iast dX3_valueFor_120 ⟨m0, f0, e1, e2, ?_⟩
            obtain ⟨H14, eH⟩ : ∃ z, z = va_up H (q11) (.inl (0, m0, .inl (upd f0 (Int32.toNatClampNeg ((i5 - (1 : Int32)))) ((0 : Int32))))) := ⟨_, rfl⟩
            rw [← eH] at h ⊢
            refine gG_goto (tgt := 161) dX3_valueFor_121 (by decide) ?_
            refine gG_iinc (v := i6 + 1) dX3_valueFor_161 rfl rfl (Nat.le_of_ble_eq_true rfl) ?_
            refine gG_goto (tgt := 15) dX3_valueFor_164 (by decide) ?_
            refine gG_locals ?_ h
            exact ⟨rfl, ⟨rfl, ⟨rfl, ⟨rfl, ⟨rfl, ⟨rfl, ⟨rfl, trivial⟩⟩⟩⟩⟩⟩⟩
          · have h := h.2 c
            refine gG_iconst (v := 1) dX3_valueFor_115 (by decide) ?_
            refine gG_goto (tgt := 120) dX3_valueFor_116 (by decide) ?_
            obtain ⟨m0, f0, e1, e2, h⟩ := h
            refine gG_iast dX3_valueFor_120 ⟨m0, f0, e1, e2, ?_⟩
            obtain ⟨H15, eH⟩ : ∃ z, z = va_up H (q11) (.inl (0, m0, .inl (upd f0 (Int32.toNatClampNeg ((i5 - (1 : Int32)))) ((1 : Int32))))) := ⟨_, rfl⟩
            rw [← eH] at h ⊢
            refine gG_goto (tgt := 161) dX3_valueFor_121 (by decide) ?_
            refine gG_iinc (v := i6 + 1) dX3_valueFor_161 rfl rfl (Nat.le_of_ble_eq_true rfl) ?_
            refine gG_goto (tgt := 15) dX3_valueFor_164 (by decide) ?_
            refine gG_locals ?_ h
            exact ⟨rfl, ⟨rfl, ⟨rfl, ⟨rfl, ⟨rfl, ⟨rfl, ⟨rfl, trivial⟩⟩⟩⟩⟩⟩⟩
    · have h := h.2 c
      refine gG_iload dX3_valueFor_40 rfl ?_
      refine gG_iconst (v := 2) dX3_valueFor_42 (by decide) ?_
      refine gG_ic_lt (tgt := 161) dX3_valueFor_43 (by decide) (fun c => ?_) (fun c => ?_)
      · have h := h.1 c
        refine gG_iinc (v := i6 + 1) dX3_valueFor_161 rfl rfl (Nat.le_of_ble_eq_true rfl) ?_
        refine gG_goto (tgt := 15) dX3_valueFor_164 (by decide) ?_
        refine gG_locals ?_ h
        exact ⟨rfl, ⟨rfl, ⟨rfl, ⟨rfl, ⟨rfl, ⟨rfl, ⟨rfl, trivial⟩⟩⟩⟩⟩⟩⟩
      · have h := h.2 c
        refine gG_iinc (v := i5 + (-1)) dX3_valueFor_46 rfl rfl (Nat.le_of_ble_eq_true rfl) ?_
        refine gG_aload_n dX3_valueFor_49 rfl rfl ?_
        obtain ⟨fs, q16, e1, e2, h⟩ := h
        refine gG_gr dX3_valueFor_50 fl_X3_15 ⟨fs, q16, e1, e2, ?_⟩
        refine gG_iload dX3_valueFor_53 rfl ?_
        refine gG_iconst (v := 1) dX3_valueFor_55 (by decide) ?_
        refine gG_isub dX3_valueFor_56 ?_
        refine gG_iload dX3_valueFor_57 rfl ?_
        refine gG_aload_n dX3_valueFor_59 rfl rfl ?_
        obtain ⟨fs, q17, e1, e2, h⟩ := h
        refine gG_gr dX3_valueFor_60 fl_X3_15 ⟨fs, q17, e1, e2, ?_⟩
        refine gG_iload dX3_valueFor_63 rfl ?_
        refine gG_iconst (v := 1) dX3_valueFor_65 (by decide) ?_
        refine gG_isub dX3_valueFor_66 ?_
        obtain ⟨m0, f0, e1, e2, h⟩ := h
        refine gG_iald dX3_valueFor_67 ⟨m0, f0, e1, e2, ?_⟩
        obtain ⟨x18, eH⟩ : ∃ z, z = f0 (Int32.toNatClampNeg (((i5 + (-1)) - (1 : Int32)))) := ⟨_, rfl⟩
        rw [← eH] at h ⊢
        refine gG_aload_n dX3_valueFor_68 rfl rfl ?_
        obtain ⟨fs, q19, e1, e2, h⟩ := h
        refine gG_gr dX3_valueFor_69 fl_X3_15 ⟨fs, q19, e1, e2, ?_⟩
        refine gG_iload dX3_valueFor_72 rfl ?_
        obtain ⟨m0, f0, e1, e2, h⟩ := h
        refine gG_iald dX3_valueFor_74 ⟨m0, f0, e1, e2, ?_⟩
        obtain ⟨x20, eH⟩ : ∃ z, z = f0 (Int32.toNatClampNeg ((i5 + (-1)))) := ⟨_, rfl⟩
        rw [← eH] at h ⊢
        obtain ⟨d2, P2, hdd, hC, h⟩ := h
        refine gG_csi (As := [.int (x5), .int (x18), .int (x20)]) (st := [.int (((i5 + (-1)) - (1 : Int32))), .ref (q16)]) dX3_valueFor_75 mS_X3_22 hdd rfl rfl (Nat.le_of_ble_eq_true rfl) (Nat.le_refl _) ⟨Nat.le_refl _, Nat.le_refl _⟩ hC (fun H21 x22 hp => ?_)
        have h := h H21 x22 hp
        obtain ⟨m0, f0, e1, e2, h⟩ := h
        refine gG_iast dX3_valueFor_78 ⟨m0, f0, e1, e2, ?_⟩
        obtain ⟨H23, eH⟩ : ∃ z, z = va_up H21 (q16) (.inl (0, m0, .inl (upd f0 (Int32.toNatClampNeg (((i5 + (-1)) - (1 : Int32)))) (x22)))) := ⟨_, rfl⟩
        rw [← eH] at h ⊢
        refine gG_goto (tgt := 161) dX3_valueFor_79 (by decide) ?_
        refine gG_iinc (v := i6 + 1) dX3_valueFor_161 rfl rfl (Nat.le_of_ble_eq_true rfl) ?_
        refine gG_goto (tgt := 15) dX3_valueFor_164 (by decide) ?_
        refine gG_locals ?_ h
        exact ⟨rfl, ⟨rfl, ⟨rfl, ⟨rfl, ⟨rfl, ⟨rfl, ⟨rfl, trivial⟩⟩⟩⟩⟩⟩⟩

theorem kX3_fact_0 {d n : Nat} {H : gHp} {P : gHp → Int32 → Prop} {i0 : Int32} {i1 : Int32} {i2 : Int32} {i3 : Int32} {i4 : Int32} (h : ((i0).toInt < (-3) ∨ (-1) < (i0).toInt → P H (i4)) ∧ (i0 = (-3) → P H (i3)) ∧ (i0 = (-2) → P H (i2)) ∧ (i0 = (-1) → P H (i1))) : gG d mX3_fact 0 0 (g_Xj mX3_fact n 0 0 P) 0 n H [some (.int (i0)), some (.int (i1)), some (.int (i2)), some (.int (i3)), some (.int (i4))] [] 0 0 := by
  refine gG_iload_n dX3_fact_0 rfl rfl ?_
  by_cases hz : (i0).toInt < (-3) ∨ (-1) < (i0).toInt
  · refine gG_tableOut (tgt := 34) dX3_fact_1 hz (by decide) ?_
    have h := h.1 hz
    refine gG_iload dX3_fact_34 rfl ?_
    exact gG_exit ⟨rfl, rfl, rfl, dX3_fact_36, _, rfl, h⟩
  · have h := h.2
    obtain ⟨x9, e9⟩ : ∃ x9 : Int32, x9 = i0 := ⟨_, rfl⟩
    have hz2 : x9 = (-3) ∨ x9 = (-2) ∨ x9 = (-1) := by
      rw [← e9] at hz
      exact g_sw_m3_m1 hz
    rw [← e9]; rw [← e9] at h
    rcases hz2 with z | z | z <;> rw [z] at h ⊢
    · refine gG_tableIn (tgt := 32) dX3_fact_1 (by decide) (by decide) rfl (by decide) ?_
      have h := h.1 rfl
      refine gG_iload_n dX3_fact_32 rfl rfl ?_
      exact gG_exit ⟨rfl, rfl, rfl, dX3_fact_33, _, rfl, h⟩
    · refine gG_tableIn (tgt := 30) dX3_fact_1 (by decide) (by decide) rfl (by decide) ?_
      have h := h.2.1 rfl
      refine gG_iload_n dX3_fact_30 rfl rfl ?_
      exact gG_exit ⟨rfl, rfl, rfl, dX3_fact_31, _, rfl, h⟩
    · refine gG_tableIn (tgt := 28) dX3_fact_1 (by decide) (by decide) rfl (by decide) ?_
      have h := h.2.2 rfl
      refine gG_iload_n dX3_fact_28 rfl rfl ?_
      exact gG_exit ⟨rfl, rfl, rfl, dX3_fact_29, _, rfl, h⟩

theorem kX3_join_0 {d n : Nat} {H : gHp} {P : gHp → Int32 → Prop} {i0 : Int32} {i1 : Int32} {i2 : Int32} (h : ((i0).toInt < (-11) ∨ (-6) < (i0).toInt → P H ((i1 * i2))) ∧ (i0 = (-11) → P H ((i1 - i2))) ∧ (i0 = (-10) → P H ((i1 + i2))) ∧ (i0 = (-9) → (¬ (i1 = i2) → P H ((0 : Int32))) ∧ (i1 = i2 → P H ((1 : Int32)))) ∧ (i0 = (-8) → (i2 ≤ i1 → P H ((0 : Int32))) ∧ (¬ (i2 ≤ i1) → P H ((1 : Int32)))) ∧ (i0 = (-7) → (¬ (i1 = 0) → P H ((1 : Int32))) ∧ (i1 = 0 → (i2 = 0 → P H ((0 : Int32))) ∧ (¬ (i2 = 0) → P H ((1 : Int32))))) ∧ (i0 = (-6) → (i1 = 0 → P H ((0 : Int32))) ∧ (¬ (i1 = 0) → (i2 = 0 → P H ((0 : Int32))) ∧ (¬ (i2 = 0) → P H ((1 : Int32)))))) : gG d mX3_join 0 0 (g_Xj mX3_join n 0 0 P) 0 n H [some (.int (i0)), some (.int (i1)), some (.int (i2))] [] 0 0 := by
  refine gG_iload_n dX3_join_0 rfl rfl ?_
  by_cases hz : (i0).toInt < (-11) ∨ (-6) < (i0).toInt
  · refine gG_tableOut (tgt := 98) dX3_join_1 hz (by decide) ?_
    have h := h.1 hz
    refine gG_iload_n dX3_join_98 rfl rfl ?_
    refine gG_iload_n dX3_join_99 rfl rfl ?_
    refine gG_imul dX3_join_100 ?_
    exact gG_exit ⟨rfl, rfl, rfl, dX3_join_101, _, rfl, h⟩
  · have h := h.2
    obtain ⟨x9, e9⟩ : ∃ x9 : Int32, x9 = i0 := ⟨_, rfl⟩
    have hz2 : x9 = (-11) ∨ x9 = (-10) ∨ x9 = (-9) ∨ x9 = (-8) ∨ x9 = (-7) ∨ x9 = (-6) := by
      rw [← e9] at hz
      exact g_sw_m11_m6 hz
    rw [← e9]; rw [← e9] at h
    rcases hz2 with z | z | z | z | z | z <;> rw [z] at h ⊢
    · refine gG_tableIn (tgt := 94) dX3_join_1 (by decide) (by decide) rfl (by decide) ?_
      have h := h.1 rfl
      refine gG_iload_n dX3_join_94 rfl rfl ?_
      refine gG_iload_n dX3_join_95 rfl rfl ?_
      refine gG_isub dX3_join_96 ?_
      exact gG_exit ⟨rfl, rfl, rfl, dX3_join_97, _, rfl, h⟩
    · refine gG_tableIn (tgt := 90) dX3_join_1 (by decide) (by decide) rfl (by decide) ?_
      have h := h.2.1 rfl
      refine gG_iload_n dX3_join_90 rfl rfl ?_
      refine gG_iload_n dX3_join_91 rfl rfl ?_
      refine gG_iadd dX3_join_92 ?_
      exact gG_exit ⟨rfl, rfl, rfl, dX3_join_93, _, rfl, h⟩
    · refine gG_tableIn (tgt := 79) dX3_join_1 (by decide) (by decide) rfl (by decide) ?_
      have h := h.2.2.1 rfl
      refine gG_iload_n dX3_join_79 rfl rfl ?_
      refine gG_iload_n dX3_join_80 rfl rfl ?_
      refine gG_ic_ne (tgt := 88) dX3_join_81 (by decide) (fun c => ?_) (fun c => ?_)
      · have h := h.1 c
        refine gG_iconst (v := 0) dX3_join_88 (by decide) ?_
        exact gG_exit ⟨rfl, rfl, rfl, dX3_join_89, _, rfl, h⟩
      · have h := h.2 c
        refine gG_iconst (v := 1) dX3_join_84 (by decide) ?_
        refine gG_goto (tgt := 89) dX3_join_85 (by decide) ?_
        exact gG_exit ⟨rfl, rfl, rfl, dX3_join_89, _, rfl, h⟩
    · refine gG_tableIn (tgt := 68) dX3_join_1 (by decide) (by decide) rfl (by decide) ?_
      have h := h.2.2.2.1 rfl
      refine gG_iload_n dX3_join_68 rfl rfl ?_
      refine gG_iload_n dX3_join_69 rfl rfl ?_
      refine gG_ic_ge (tgt := 77) dX3_join_70 (by decide) (fun c => ?_) (fun c => ?_)
      · have h := h.1 c
        refine gG_iconst (v := 0) dX3_join_77 (by decide) ?_
        exact gG_exit ⟨rfl, rfl, rfl, dX3_join_78, _, rfl, h⟩
      · have h := h.2 c
        refine gG_iconst (v := 1) dX3_join_73 (by decide) ?_
        refine gG_goto (tgt := 78) dX3_join_74 (by decide) ?_
        exact gG_exit ⟨rfl, rfl, rfl, dX3_join_78, _, rfl, h⟩
    · refine gG_tableIn (tgt := 54) dX3_join_1 (by decide) (by decide) rfl (by decide) ?_
      have h := h.2.2.2.2.1 rfl
      refine gG_iload_n dX3_join_54 rfl rfl ?_
      refine gG_if_ne (tgt := 62) dX3_join_55 (by decide) (fun c => ?_) (fun c => ?_)
      · have h := h.1 c
        refine gG_iconst (v := 1) dX3_join_62 (by decide) ?_
        refine gG_goto (tgt := 67) dX3_join_63 (by decide) ?_
        exact gG_exit ⟨rfl, rfl, rfl, dX3_join_67, _, rfl, h⟩
      · have h := h.2 c
        refine gG_iload_n dX3_join_58 rfl rfl ?_
        refine gG_if_eq (tgt := 66) dX3_join_59 (by decide) (fun c => ?_) (fun c => ?_)
        · have h := h.1 c
          refine gG_iconst (v := 0) dX3_join_66 (by decide) ?_
          exact gG_exit ⟨rfl, rfl, rfl, dX3_join_67, _, rfl, h⟩
        · have h := h.2 c
          refine gG_iconst (v := 1) dX3_join_62 (by decide) ?_
          refine gG_goto (tgt := 67) dX3_join_63 (by decide) ?_
          exact gG_exit ⟨rfl, rfl, rfl, dX3_join_67, _, rfl, h⟩
    · refine gG_tableIn (tgt := 40) dX3_join_1 (by decide) (by decide) rfl (by decide) ?_
      have h := h.2.2.2.2.2 rfl
      refine gG_iload_n dX3_join_40 rfl rfl ?_
      refine gG_if_eq (tgt := 52) dX3_join_41 (by decide) (fun c => ?_) (fun c => ?_)
      · have h := h.1 c
        refine gG_iconst (v := 0) dX3_join_52 (by decide) ?_
        exact gG_exit ⟨rfl, rfl, rfl, dX3_join_53, _, rfl, h⟩
      · have h := h.2 c
        refine gG_iload_n dX3_join_44 rfl rfl ?_
        refine gG_if_eq (tgt := 52) dX3_join_45 (by decide) (fun c => ?_) (fun c => ?_)
        · have h := h.1 c
          refine gG_iconst (v := 0) dX3_join_52 (by decide) ?_
          exact gG_exit ⟨rfl, rfl, rfl, dX3_join_53, _, rfl, h⟩
        · have h := h.2 c
          refine gG_iconst (v := 1) dX3_join_48 (by decide) ?_
          refine gG_goto (tgt := 53) dX3_join_49 (by decide) ?_
          exact gG_exit ⟨rfl, rfl, rfl, dX3_join_53, _, rfl, h⟩

theorem kX7_add_0 {d n : Nat} {H : gHp} {P : gHp → Bool → Prop} {a0 : Nat} {i1 : Int32} {i2 : Int32} (h : g_gi H (a0) 7 0 (fun x1 => (x1 < (8 : Int32) → g_gr H (a0) 7 1 (fun q2 => g_gi H (a0) 7 0 (fun x3 => g_as 0 H (q2) (x3) (i1) (fun H4 => g_gr H4 (a0) 7 2 (fun q5 => g_gi H4 (a0) 7 0 (fun x6 => g_as 3 H4 (q5) (x6) (vp_nar .boolean (i2)) (fun H7 => g_gi H7 (a0) 7 0 (fun x8 => g_pf H7 (a0) 7 0 (.int ((x8 + (1 : Int32)))) (fun H9 => P H9 true))))))))) ∧ (¬ (x1 < (8 : Int32)) → P H false))) : gG d mX7_add 0 0 (g_Xz mX7_add n 0 0 P) 0 n H [some (.ref (a0)), some (.int (i1)), some (.int (i2))] [] 0 0 := by
  refine gG_aload_n dX7_add_0 rfl rfl ?_
  obtain ⟨fs, x1, e1, e2, h⟩ := h
  refine gG_gi dX7_add_1 fl_X7_19 ⟨fs, x1, e1, e2, ?_⟩
  refine gG_bipush (v := 8) dX7_add_4 (by decide) ?_
  refine gG_ic_lt (tgt := 11) dX7_add_6 (by decide) (fun c => ?_) (fun c => ?_)
  · have h := h.1 c
    refine gG_aload_n dX7_add_11 rfl rfl ?_
    obtain ⟨fs, q2, e1, e2, h⟩ := h
    refine gG_gr dX7_add_12 fl_X7_9 ⟨fs, q2, e1, e2, ?_⟩
    refine gG_aload_n dX7_add_15 rfl rfl ?_
    obtain ⟨fs, x3, e1, e2, h⟩ := h
    refine gG_gi dX7_add_16 fl_X7_19 ⟨fs, x3, e1, e2, ?_⟩
    refine gG_iload_n dX7_add_19 rfl rfl ?_
    obtain ⟨m0, f0, e1, e2, h⟩ := h
    refine gG_iast dX7_add_20 ⟨m0, f0, e1, e2, ?_⟩
    obtain ⟨H4, eH⟩ : ∃ z, z = va_up H (q2) (.inl (0, m0, .inl (upd f0 (Int32.toNatClampNeg (x3)) (i1)))) := ⟨_, rfl⟩
    rw [← eH] at h ⊢
    refine gG_aload_n dX7_add_21 rfl rfl ?_
    obtain ⟨fs, q5, e1, e2, h⟩ := h
    refine gG_gr dX7_add_22 fl_X7_15 ⟨fs, q5, e1, e2, ?_⟩
    refine gG_aload_n dX7_add_25 rfl rfl ?_
    obtain ⟨fs, x6, e1, e2, h⟩ := h
    refine gG_gi dX7_add_26 fl_X7_19 ⟨fs, x6, e1, e2, ?_⟩
    refine gG_iload_n dX7_add_29 rfl rfl ?_
    obtain ⟨m0, f0, e1, e2, h⟩ := h
    refine gG_zast dX7_add_30 ⟨m0, f0, e1, e2, ?_⟩
    obtain ⟨H7, eH⟩ : ∃ z, z = va_up H4 (q5) (.inl (3, m0, .inl (upd f0 (Int32.toNatClampNeg (x6)) (vp_nar .boolean (i2))))) := ⟨_, rfl⟩
    rw [← eH] at h ⊢
    refine gG_aload_n dX7_add_31 rfl rfl ?_
    refine gG_dup dX7_add_32 rfl ?_
    obtain ⟨fs, x8, e1, e2, h⟩ := h
    refine gG_gi dX7_add_33 fl_X7_19 ⟨fs, x8, e1, e2, ?_⟩
    refine gG_iconst (v := 1) dX7_add_36 (by decide) ?_
    refine gG_iadd dX7_add_37 ?_
    obtain ⟨fs, e1, e2, h⟩ := h
    refine gG_pi dX7_add_38 fl_X7_19 ⟨fs, e1, e2, ?_⟩
    obtain ⟨H9, eH⟩ : ∃ z, z = va_up H7 (a0) (.inr (7, fs.set 0 (.int ((x8 + (1 : Int32)))))) := ⟨_, rfl⟩
    rw [← eH] at h ⊢
    refine gG_iconst (v := 1) dX7_add_41 (by decide) ?_
    exact gG_exit ⟨rfl, rfl, rfl, dX7_add_42, true, rfl, h⟩
  · have h := h.2 c
    refine gG_iconst (v := 0) dX7_add_9 (by decide) ?_
    exact gG_exit ⟨rfl, rfl, rfl, dX7_add_10, false, rfl, h⟩

theorem kX7_agreesWith_0 {d n : Nat} {H : gHp} {P : gHp → Bool → Prop} {a0 : Nat} {i1 : Int32} (h : gG d mX7_agreesWith 0 0 (g_Xz mX7_agreesWith n 0 0 P) 2 n H [some (.ref (a0)), some (.int (i1)), some (.int ((0 : Int32))), none] [] (0) (0)) : gG d mX7_agreesWith 0 0 (g_Xz mX7_agreesWith n 0 0 P) 0 n H [some (.ref (a0)), some (.int (i1)), none, none] [] 0 0 := by
  refine gG_iconst (v := 0) dX7_agreesWith_0 (by decide) ?_
  refine gG_istore_n dX7_agreesWith_1 rfl (Nat.le_of_ble_eq_true rfl) ?_
  refine gG_locals ?_ h
  exact ⟨rfl, ⟨rfl, ⟨rfl, trivial⟩⟩⟩
theorem kX7_agreesWith_2 {d n : Nat} {H : gHp} {P : gHp → Bool → Prop} {a0 : Nat} {i1 : Int32} {i2 : Int32} (h : g_gi H (a0) 7 0 (fun x1 => (x1 ≤ i2 → P H true) ∧ (¬ (x1 ≤ i2) → g_gr H (a0) 7 1 (fun q2 => g_al 0 H (q2) (i2) (fun x3 => (((i1 >>> (x3 &&& 31)) &&& (1 : Int32)) = 0 → gG d mX7_agreesWith 0 0 (g_Xz mX7_agreesWith n 0 0 P) 29 n H [some (.ref (a0)), some (.int (i1)), some (.int (i2)), some (.int ((0 : Int32)))] [] (0) (0)) ∧ (¬ (((i1 >>> (x3 &&& 31)) &&& (1 : Int32)) = 0) → gG d mX7_agreesWith 0 0 (g_Xz mX7_agreesWith n 0 0 P) 29 n H [some (.ref (a0)), some (.int (i1)), some (.int (i2)), some (.int ((1 : Int32)))] [] (0) (0))))))) : gG d mX7_agreesWith 0 0 (g_Xz mX7_agreesWith n 0 0 P) 2 n H [some (.ref (a0)), some (.int (i1)), some (.int (i2)), none] [] 0 0 := by
  refine gG_iload_n dX7_agreesWith_2 rfl rfl ?_
  refine gG_aload_n dX7_agreesWith_3 rfl rfl ?_
  obtain ⟨fs, x1, e1, e2, h⟩ := h
  refine gG_gi dX7_agreesWith_4 fl_X7_19 ⟨fs, x1, e1, e2, ?_⟩
  refine gG_ic_ge (tgt := 47) dX7_agreesWith_7 (by decide) (fun c => ?_) (fun c => ?_)
  · have h := h.1 c
    refine gG_iconst (v := 1) dX7_agreesWith_47 (by decide) ?_
    exact gG_exit ⟨rfl, rfl, rfl, dX7_agreesWith_48, true, rfl, h⟩
  · have h := h.2 c
    refine gG_iload_n dX7_agreesWith_10 rfl rfl ?_
    refine gG_aload_n dX7_agreesWith_11 rfl rfl ?_
    obtain ⟨fs, q2, e1, e2, h⟩ := h
    refine gG_gr dX7_agreesWith_12 fl_X7_9 ⟨fs, q2, e1, e2, ?_⟩
    refine gG_iload_n dX7_agreesWith_15 rfl rfl ?_
    obtain ⟨m0, f0, e1, e2, h⟩ := h
    refine gG_iald dX7_agreesWith_16 ⟨m0, f0, e1, e2, ?_⟩
    obtain ⟨x3, eH⟩ : ∃ z, z = f0 (Int32.toNatClampNeg (i2)) := ⟨_, rfl⟩
    rw [← eH] at h ⊢
    refine gG_ishr dX7_agreesWith_17 ?_
    refine gG_iconst (v := 1) dX7_agreesWith_18 (by decide) ?_
    refine gG_iand dX7_agreesWith_19 ?_
    refine gG_if_eq (tgt := 27) dX7_agreesWith_20 (by decide) (fun c => ?_) (fun c => ?_)
    · have h := h.1 c
      refine gG_iconst (v := 0) dX7_agreesWith_27 (by decide) ?_
      refine gG_istore_n dX7_agreesWith_28 rfl (Nat.le_of_ble_eq_true rfl) ?_
      refine gG_locals ?_ h
      exact ⟨rfl, ⟨rfl, ⟨rfl, ⟨rfl, trivial⟩⟩⟩⟩
    · have h := h.2 c
      refine gG_iconst (v := 1) dX7_agreesWith_23 (by decide) ?_
      refine gG_goto (tgt := 28) dX7_agreesWith_24 (by decide) ?_
      refine gG_istore_n dX7_agreesWith_28 rfl (Nat.le_of_ble_eq_true rfl) ?_
      refine gG_locals ?_ h
      exact ⟨rfl, ⟨rfl, ⟨rfl, ⟨rfl, trivial⟩⟩⟩⟩
theorem kX7_agreesWith_29 {d n : Nat} {H : gHp} {P : gHp → Bool → Prop} {a0 : Nat} {i1 : Int32} {i2 : Int32} {i3 : Int32} (h : g_gr H (a0) 7 2 (fun q1 => g_al 3 H (q1) (i2) (fun x2 => (i3 = x2 → gG d mX7_agreesWith 0 0 (g_Xz mX7_agreesWith n 0 0 P) 2 n H [some (.ref (a0)), some (.int (i1)), some (.int ((i2 + 1))), none] [] (0) (0)) ∧ (¬ (i3 = x2) → P H false)))) : gG d mX7_agreesWith 0 0 (g_Xz mX7_agreesWith n 0 0 P) 29 n H [some (.ref (a0)), some (.int (i1)), some (.int (i2)), some (.int (i3))] [] 0 0 := by
  refine gG_iload_n dX7_agreesWith_29 rfl rfl ?_
  refine gG_aload_n dX7_agreesWith_30 rfl rfl ?_
  obtain ⟨fs, q1, e1, e2, h⟩ := h
  refine gG_gr dX7_agreesWith_31 fl_X7_15 ⟨fs, q1, e1, e2, ?_⟩
  refine gG_iload_n dX7_agreesWith_34 rfl rfl ?_
  obtain ⟨m0, f0, e1, e2, h⟩ := h
  refine gG_zald dX7_agreesWith_35 ⟨m0, f0, e1, e2, ?_⟩
  obtain ⟨x2, eH⟩ : ∃ z, z = f0 (Int32.toNatClampNeg (i2)) := ⟨_, rfl⟩
  rw [← eH] at h ⊢
  refine gG_ic_eq (tgt := 41) dX7_agreesWith_36 (by decide) (fun c => ?_) (fun c => ?_)
  · have h := h.1 c
    refine gG_iinc (v := i2 + 1) dX7_agreesWith_41 rfl rfl (Nat.le_of_ble_eq_true rfl) ?_
    refine gG_goto (tgt := 2) dX7_agreesWith_44 (by decide) ?_
    refine gG_locals ?_ h
    exact ⟨rfl, ⟨rfl, ⟨rfl, trivial⟩⟩⟩
  · have h := h.2 c
    refine gG_iconst (v := 0) dX7_agreesWith_39 (by decide) ?_
    exact gG_exit ⟨rfl, rfl, rfl, dX7_agreesWith_40, false, rfl, h⟩

theorem kX7_copyFrom_0 {d n : Nat} {H : gHp} {P : gHp → Prop} {a0 : Nat} {a1 : Nat} (h : g_gi H (a1) 7 0 (fun x1 => g_pf H (a0) 7 0 (.int (x1)) (fun H2 => gG d mX7_copyFrom 0 0 (g_Xv mX7_copyFrom n 0 0 P) 10 n H2 [some (.ref (a0)), some (.ref (a1)), some (.int ((0 : Int32)))] [] (0) (0)))) : gG d mX7_copyFrom 0 0 (g_Xv mX7_copyFrom n 0 0 P) 0 n H [some (.ref (a0)), some (.ref (a1)), none] [] 0 0 := by
  refine gG_aload_n dX7_copyFrom_0 rfl rfl ?_
  refine gG_aload_n dX7_copyFrom_1 rfl rfl ?_
  obtain ⟨fs, x1, e1, e2, h⟩ := h
  refine gG_gi dX7_copyFrom_2 fl_X7_19 ⟨fs, x1, e1, e2, ?_⟩
  obtain ⟨fs, e1, e2, h⟩ := h
  refine gG_pi dX7_copyFrom_5 fl_X7_19 ⟨fs, e1, e2, ?_⟩
  obtain ⟨H2, eH⟩ : ∃ z, z = va_up H (a0) (.inr (7, fs.set 0 (.int (x1)))) := ⟨_, rfl⟩
  rw [← eH] at h ⊢
  refine gG_iconst (v := 0) dX7_copyFrom_8 (by decide) ?_
  refine gG_istore_n dX7_copyFrom_9 rfl (Nat.le_of_ble_eq_true rfl) ?_
  refine gG_locals ?_ h
  exact ⟨rfl, ⟨rfl, ⟨rfl, trivial⟩⟩⟩
theorem kX7_copyFrom_10 {d n : Nat} {H : gHp} {P : gHp → Prop} {a0 : Nat} {a1 : Nat} {i2 : Int32} (h : ((8 : Int32) ≤ i2 → P H) ∧ (¬ ((8 : Int32) ≤ i2) → g_gr H (a0) 7 1 (fun q1 => g_gr H (a1) 7 1 (fun q2 => g_al 0 H (q2) (i2) (fun x3 => g_as 0 H (q1) (i2) (x3) (fun H4 => g_gr H4 (a0) 7 2 (fun q5 => g_gr H4 (a1) 7 2 (fun q6 => g_al 3 H4 (q6) (i2) (fun x7 => g_as 3 H4 (q5) (i2) (vp_nar .boolean (x7)) (fun H8 => gG d mX7_copyFrom 0 0 (g_Xv mX7_copyFrom n 0 0 P) 10 n H8 [some (.ref (a0)), some (.ref (a1)), some (.int ((i2 + 1)))] [] (0) (0))))))))))) : gG d mX7_copyFrom 0 0 (g_Xv mX7_copyFrom n 0 0 P) 10 n H [some (.ref (a0)), some (.ref (a1)), some (.int (i2))] [] 0 0 := by
  refine gG_iload_n dX7_copyFrom_10 rfl rfl ?_
  refine gG_bipush (v := 8) dX7_copyFrom_11 (by decide) ?_
  refine gG_ic_ge (tgt := 46) dX7_copyFrom_13 (by decide) (fun c => ?_) (fun c => ?_)
  · have h := h.1 c
    exact gG_exit ⟨rfl, rfl, rfl, dX7_copyFrom_46, rfl, h⟩
  · have h := h.2 c
    refine gG_aload_n dX7_copyFrom_16 rfl rfl ?_
    obtain ⟨fs, q1, e1, e2, h⟩ := h
    refine gG_gr dX7_copyFrom_17 fl_X7_9 ⟨fs, q1, e1, e2, ?_⟩
    refine gG_iload_n dX7_copyFrom_20 rfl rfl ?_
    refine gG_aload_n dX7_copyFrom_21 rfl rfl ?_
    obtain ⟨fs, q2, e1, e2, h⟩ := h
    refine gG_gr dX7_copyFrom_22 fl_X7_9 ⟨fs, q2, e1, e2, ?_⟩
    refine gG_iload_n dX7_copyFrom_25 rfl rfl ?_
    obtain ⟨m0, f0, e1, e2, h⟩ := h
    refine gG_iald dX7_copyFrom_26 ⟨m0, f0, e1, e2, ?_⟩
    obtain ⟨x3, eH⟩ : ∃ z, z = f0 (Int32.toNatClampNeg (i2)) := ⟨_, rfl⟩
    rw [← eH] at h ⊢
    obtain ⟨m0, f0, e1, e2, h⟩ := h
    refine gG_iast dX7_copyFrom_27 ⟨m0, f0, e1, e2, ?_⟩
    obtain ⟨H4, eH⟩ : ∃ z, z = va_up H (q1) (.inl (0, m0, .inl (upd f0 (Int32.toNatClampNeg (i2)) (x3)))) := ⟨_, rfl⟩
    rw [← eH] at h ⊢
    refine gG_aload_n dX7_copyFrom_28 rfl rfl ?_
    obtain ⟨fs, q5, e1, e2, h⟩ := h
    refine gG_gr dX7_copyFrom_29 fl_X7_15 ⟨fs, q5, e1, e2, ?_⟩
    refine gG_iload_n dX7_copyFrom_32 rfl rfl ?_
    refine gG_aload_n dX7_copyFrom_33 rfl rfl ?_
    obtain ⟨fs, q6, e1, e2, h⟩ := h
    refine gG_gr dX7_copyFrom_34 fl_X7_15 ⟨fs, q6, e1, e2, ?_⟩
    refine gG_iload_n dX7_copyFrom_37 rfl rfl ?_
    obtain ⟨m0, f0, e1, e2, h⟩ := h
    refine gG_zald dX7_copyFrom_38 ⟨m0, f0, e1, e2, ?_⟩
    obtain ⟨x7, eH⟩ : ∃ z, z = f0 (Int32.toNatClampNeg (i2)) := ⟨_, rfl⟩
    rw [← eH] at h ⊢
    obtain ⟨m0, f0, e1, e2, h⟩ := h
    refine gG_zast dX7_copyFrom_39 ⟨m0, f0, e1, e2, ?_⟩
    obtain ⟨H8, eH⟩ : ∃ z, z = va_up H4 (q5) (.inl (3, m0, .inl (upd f0 (Int32.toNatClampNeg (i2)) (vp_nar .boolean (x7))))) := ⟨_, rfl⟩
    rw [← eH] at h ⊢
    refine gG_iinc (v := i2 + 1) dX7_copyFrom_40 rfl rfl (Nat.le_of_ble_eq_true rfl) ?_
    refine gG_goto (tgt := 10) dX7_copyFrom_43 (by decide) ?_
    refine gG_locals ?_ h
    exact ⟨rfl, ⟨rfl, ⟨rfl, trivial⟩⟩⟩

theorem kX9_begin_0 {d n : Nat} {H : gHp} {P : gHp → Prop} {a0 : Nat} {a1 : Nat} (h : g_pf H (a0) 9 0 (.int ((0 : Int32))) (fun H1 => (∃ fs, H1 (a1) = .inr (1, fs)) ∧ g_ci d mX1_nests n H1 [.ref (a1)] (fun H2 x3 => g_pf H2 (a0) 9 1 (.int (x3)) (fun H4 => gG d mX9_begin 0 0 (g_Xv mX9_begin n 0 0 P) 15 n H4 [some (.ref (a0)), none, some (.int ((0 : Int32)))] [] (0) (0))))) : gG d mX9_begin 0 0 (g_Xv mX9_begin n 0 0 P) 0 n H [some (.ref (a0)), some (.ref (a1)), none] [] 0 0 := by
  refine gG_aload_n dX9_begin_0 rfl rfl ?_
  refine gG_iconst (v := 0) dX9_begin_1 (by decide) ?_
  obtain ⟨fs, e1, e2, h⟩ := h
  refine gG_pi dX9_begin_2 fl_X9_25 ⟨fs, e1, e2, ?_⟩
  obtain ⟨H1, eH⟩ : ∃ z, z = va_up H (a0) (.inr (9, fs.set 0 (.int ((0 : Int32))))) := ⟨_, rfl⟩
  rw [← eH] at h ⊢
  refine gG_aload_n dX9_begin_5 rfl rfl ?_
  refine gG_aload_n dX9_begin_6 rfl rfl ?_
  obtain ⟨hrc, d2, P2, hdd, hC, h⟩ := h
  refine gG_cvi (As := []) (st := [.ref (a0)]) dX9_begin_7 mV_X9_28 hdd hrc rfl rfl (Nat.le_of_ble_eq_true rfl) (Nat.le_refl _) ⟨Nat.le_refl _, Nat.le_refl _⟩ hC (fun H2 x3 hp => ?_)
  have h := h H2 x3 hp
  obtain ⟨fs, e1, e2, h⟩ := h
  refine gG_pi dX9_begin_10 fl_X9_34 ⟨fs, e1, e2, ?_⟩
  obtain ⟨H4, eH⟩ : ∃ z, z = va_up H2 (a0) (.inr (9, fs.set 1 (.int (x3)))) := ⟨_, rfl⟩
  rw [← eH] at h ⊢
  refine gG_iconst (v := 0) dX9_begin_13 (by decide) ?_
  refine gG_istore_n dX9_begin_14 rfl (Nat.le_of_ble_eq_true rfl) ?_
  refine gG_locals ?_ h
  exact ⟨rfl, ⟨rfl, trivial⟩⟩
theorem kX9_begin_15 {d n : Nat} {H : gHp} {P : gHp → Prop} {a0 : Nat} {i2 : Int32} (h : ((7 : Int32) ≤ i2 → g_pf H (a0) 9 4 (.int ((0 : Int32))) (fun H1 => g_pf H1 (a0) 9 5 (.int ((-1 : Int32))) (fun H2 => g_pf H2 (a0) 9 9 (.int ((0 : Int32))) (fun H3 => P H3)))) ∧ (¬ ((7 : Int32) ≤ i2) → g_gr H (a0) 9 2 (fun q4 => g_as 0 H (q4) (i2) ((0 : Int32)) (fun H5 => g_gr H5 (a0) 9 3 (fun q6 => g_as 0 H5 (q6) (i2) ((0 : Int32)) (fun H7 => gG d mX9_begin 0 0 (g_Xv mX9_begin n 0 0 P) 15 n H7 [some (.ref (a0)), none, some (.int ((i2 + 1)))] [] (0) (0))))))) : gG d mX9_begin 0 0 (g_Xv mX9_begin n 0 0 P) 15 n H [some (.ref (a0)), none, some (.int (i2))] [] 0 0 := by
  refine gG_iload_n dX9_begin_15 rfl rfl ?_
  refine gG_bipush (v := 7) dX9_begin_16 (by decide) ?_
  refine gG_ic_ge (tgt := 41) dX9_begin_18 (by decide) (fun c => ?_) (fun c => ?_)
  · have h := h.1 c
    refine gG_aload_n dX9_begin_41 rfl rfl ?_
    refine gG_iconst (v := 0) dX9_begin_42 (by decide) ?_
    obtain ⟨fs, e1, e2, h⟩ := h
    refine gG_pi dX9_begin_43 fl_X9_37 ⟨fs, e1, e2, ?_⟩
    obtain ⟨H1, eH⟩ : ∃ z, z = va_up H (a0) (.inr (9, fs.set 4 (.int ((0 : Int32))))) := ⟨_, rfl⟩
    rw [← eH] at h ⊢
    refine gG_aload_n dX9_begin_46 rfl rfl ?_
    refine gG_iconst (v := (-1)) dX9_begin_47 (by decide) ?_
    obtain ⟨fs, e1, e2, h⟩ := h
    refine gG_pi dX9_begin_48 fl_X9_21 ⟨fs, e1, e2, ?_⟩
    obtain ⟨H2, eH⟩ : ∃ z, z = va_up H1 (a0) (.inr (9, fs.set 5 (.int ((-1 : Int32))))) := ⟨_, rfl⟩
    rw [← eH] at h ⊢
    refine gG_aload_n dX9_begin_51 rfl rfl ?_
    refine gG_iconst (v := 0) dX9_begin_52 (by decide) ?_
    obtain ⟨fs, e1, e2, h⟩ := h
    refine gG_pi dX9_begin_53 fl_X9_40 ⟨fs, e1, e2, ?_⟩
    obtain ⟨H3, eH⟩ : ∃ z, z = va_up H2 (a0) (.inr (9, fs.set 9 (.int ((0 : Int32))))) := ⟨_, rfl⟩
    rw [← eH] at h ⊢
    exact gG_exit ⟨rfl, rfl, rfl, dX9_begin_56, rfl, h⟩
  · have h := h.2 c
    refine gG_aload_n dX9_begin_21 rfl rfl ?_
    obtain ⟨fs, q4, e1, e2, h⟩ := h
    refine gG_gr dX9_begin_22 fl_X9_9 ⟨fs, q4, e1, e2, ?_⟩
    refine gG_iload_n dX9_begin_25 rfl rfl ?_
    refine gG_iconst (v := 0) dX9_begin_26 (by decide) ?_
    obtain ⟨m0, f0, e1, e2, h⟩ := h
    refine gG_iast dX9_begin_27 ⟨m0, f0, e1, e2, ?_⟩
    obtain ⟨H5, eH⟩ : ∃ z, z = va_up H (q4) (.inl (0, m0, .inl (upd f0 (Int32.toNatClampNeg (i2)) ((0 : Int32))))) := ⟨_, rfl⟩
    rw [← eH] at h ⊢
    refine gG_aload_n dX9_begin_28 rfl rfl ?_
    obtain ⟨fs, q6, e1, e2, h⟩ := h
    refine gG_gr dX9_begin_29 fl_X9_15 ⟨fs, q6, e1, e2, ?_⟩
    refine gG_iload_n dX9_begin_32 rfl rfl ?_
    refine gG_iconst (v := 0) dX9_begin_33 (by decide) ?_
    obtain ⟨m0, f0, e1, e2, h⟩ := h
    refine gG_iast dX9_begin_34 ⟨m0, f0, e1, e2, ?_⟩
    obtain ⟨H7, eH⟩ : ∃ z, z = va_up H5 (q6) (.inl (0, m0, .inl (upd f0 (Int32.toNatClampNeg (i2)) ((0 : Int32))))) := ⟨_, rfl⟩
    rw [← eH] at h ⊢
    refine gG_iinc (v := i2 + 1) dX9_begin_35 rfl rfl (Nat.le_of_ble_eq_true rfl) ?_
    refine gG_goto (tgt := 15) dX9_begin_38 (by decide) ?_
    refine gG_locals ?_ h
    exact ⟨rfl, ⟨rfl, trivial⟩⟩

theorem kX9_copyFrom_0 {d n : Nat} {H : gHp} {P : gHp → Prop} {a0 : Nat} {a1 : Nat} (hd1 : 1 ≤ d) (h : g_gi H (a1) 9 0 (fun x1 => g_pf H (a0) 9 0 (.int (x1)) (fun H2 => g_gi H2 (a1) 9 1 (fun x3 => g_pf H2 (a0) 9 1 (.int (x3)) (fun H4 => g_gr H4 (a1) 9 2 (fun q5 => g_gr H4 (a0) 9 2 (fun q6 => g_cp H4 (q5) ((0 : Int32)) (q6) ((0 : Int32)) ((7 : Int32)) (fun H7 => g_gr H7 (a1) 9 3 (fun q8 => g_gr H7 (a0) 9 3 (fun q9 => g_cp H7 (q8) ((0 : Int32)) (q9) ((0 : Int32)) ((7 : Int32)) (fun H10 => g_gi H10 (a1) 9 4 (fun x11 => g_pf H10 (a0) 9 4 (.int (x11)) (fun H12 => g_gi H12 (a1) 9 5 (fun x13 => g_pf H12 (a0) 9 5 (.int (x13)) (fun H14 => g_gr H14 (a1) 9 8 (fun q15 => g_gr H14 (a0) 9 8 (fun q16 => g_cp H14 (q15) ((0 : Int32)) (q16) ((0 : Int32)) ((40 : Int32)) (fun H17 => g_gi H17 (a1) 9 9 (fun x18 => g_pf H17 (a0) 9 9 (.int (x18)) (fun H19 => P H19)))))))))))))))))))) : gG d mX9_copyFrom 0 0 (g_Xv mX9_copyFrom n 0 0 P) 0 n H [some (.ref (a0)), some (.ref (a1))] [] 0 0 := by
  refine gG_aload_n dX9_copyFrom_0 rfl rfl ?_
  refine gG_aload_n dX9_copyFrom_1 rfl rfl ?_
  obtain ⟨fs, x1, e1, e2, h⟩ := h
  refine gG_gi dX9_copyFrom_2 fl_X9_25 ⟨fs, x1, e1, e2, ?_⟩
  obtain ⟨fs, e1, e2, h⟩ := h
  refine gG_pi dX9_copyFrom_5 fl_X9_25 ⟨fs, e1, e2, ?_⟩
  obtain ⟨H2, eH⟩ : ∃ z, z = va_up H (a0) (.inr (9, fs.set 0 (.int (x1)))) := ⟨_, rfl⟩
  rw [← eH] at h ⊢
  refine gG_aload_n dX9_copyFrom_8 rfl rfl ?_
  refine gG_aload_n dX9_copyFrom_9 rfl rfl ?_
  obtain ⟨fs, x3, e1, e2, h⟩ := h
  refine gG_gi dX9_copyFrom_10 fl_X9_34 ⟨fs, x3, e1, e2, ?_⟩
  obtain ⟨fs, e1, e2, h⟩ := h
  refine gG_pi dX9_copyFrom_13 fl_X9_34 ⟨fs, e1, e2, ?_⟩
  obtain ⟨H4, eH⟩ : ∃ z, z = va_up H2 (a0) (.inr (9, fs.set 1 (.int (x3)))) := ⟨_, rfl⟩
  rw [← eH] at h ⊢
  refine gG_aload_n dX9_copyFrom_16 rfl rfl ?_
  obtain ⟨fs, q5, e1, e2, h⟩ := h
  refine gG_gr dX9_copyFrom_17 fl_X9_9 ⟨fs, q5, e1, e2, ?_⟩
  refine gG_iconst (v := 0) dX9_copyFrom_20 (by decide) ?_
  refine gG_aload_n dX9_copyFrom_21 rfl rfl ?_
  obtain ⟨fs, q6, e1, e2, h⟩ := h
  refine gG_gr dX9_copyFrom_22 fl_X9_9 ⟨fs, q6, e1, e2, ?_⟩
  refine gG_iconst (v := 0) dX9_copyFrom_25 (by decide) ?_
  refine gG_bipush (v := 7) dX9_copyFrom_26 (by decide) ?_
  obtain ⟨m0, m1, f0, g0, e1, e2, z1, z2, z3, z4, z5, h⟩ := h
  refine gG_copy dX9_copyFrom_28 lk_X9_43 nat_copy st_copy ini_System hd1 (Nat.le_of_ble_eq_true rfl) ⟨m0, m1, f0, g0, e1, e2, z1, z2, z3, z4, z5, ?_⟩
  obtain ⟨H7, eH⟩ : ∃ z, z = va_up H4 (q6) (.inl (0, m1, .inl (va_cpy f0 g0 (Int32.toNatClampNeg ((0 : Int32))) (Int32.toNatClampNeg ((0 : Int32))) (Int32.toNatClampNeg ((7 : Int32)))))) := ⟨_, rfl⟩
  rw [← eH] at h ⊢
  refine gG_aload_n dX9_copyFrom_31 rfl rfl ?_
  obtain ⟨fs, q8, e1, e2, h⟩ := h
  refine gG_gr dX9_copyFrom_32 fl_X9_15 ⟨fs, q8, e1, e2, ?_⟩
  refine gG_iconst (v := 0) dX9_copyFrom_35 (by decide) ?_
  refine gG_aload_n dX9_copyFrom_36 rfl rfl ?_
  obtain ⟨fs, q9, e1, e2, h⟩ := h
  refine gG_gr dX9_copyFrom_37 fl_X9_15 ⟨fs, q9, e1, e2, ?_⟩
  refine gG_iconst (v := 0) dX9_copyFrom_40 (by decide) ?_
  refine gG_bipush (v := 7) dX9_copyFrom_41 (by decide) ?_
  obtain ⟨m0, m1, f0, g0, e1, e2, z1, z2, z3, z4, z5, h⟩ := h
  refine gG_copy dX9_copyFrom_43 lk_X9_43 nat_copy st_copy ini_System hd1 (Nat.le_of_ble_eq_true rfl) ⟨m0, m1, f0, g0, e1, e2, z1, z2, z3, z4, z5, ?_⟩
  obtain ⟨H10, eH⟩ : ∃ z, z = va_up H7 (q9) (.inl (0, m1, .inl (va_cpy f0 g0 (Int32.toNatClampNeg ((0 : Int32))) (Int32.toNatClampNeg ((0 : Int32))) (Int32.toNatClampNeg ((7 : Int32)))))) := ⟨_, rfl⟩
  rw [← eH] at h ⊢
  refine gG_aload_n dX9_copyFrom_46 rfl rfl ?_
  refine gG_aload_n dX9_copyFrom_47 rfl rfl ?_
  obtain ⟨fs, x11, e1, e2, h⟩ := h
  refine gG_gi dX9_copyFrom_48 fl_X9_37 ⟨fs, x11, e1, e2, ?_⟩
  obtain ⟨fs, e1, e2, h⟩ := h
  refine gG_pi dX9_copyFrom_51 fl_X9_37 ⟨fs, e1, e2, ?_⟩
  obtain ⟨H12, eH⟩ : ∃ z, z = va_up H10 (a0) (.inr (9, fs.set 4 (.int (x11)))) := ⟨_, rfl⟩
  rw [← eH] at h ⊢
  refine gG_aload_n dX9_copyFrom_54 rfl rfl ?_
  refine gG_aload_n dX9_copyFrom_55 rfl rfl ?_
  obtain ⟨fs, x13, e1, e2, h⟩ := h
  refine gG_gi dX9_copyFrom_56 fl_X9_21 ⟨fs, x13, e1, e2, ?_⟩
  obtain ⟨fs, e1, e2, h⟩ := h
  refine gG_pi dX9_copyFrom_59 fl_X9_21 ⟨fs, e1, e2, ?_⟩
  obtain ⟨H14, eH⟩ : ∃ z, z = va_up H12 (a0) (.inr (9, fs.set 5 (.int (x13)))) := ⟨_, rfl⟩
  rw [← eH] at h ⊢
  refine gG_aload_n dX9_copyFrom_62 rfl rfl ?_
  obtain ⟨fs, q15, e1, e2, h⟩ := h
  refine gG_gr dX9_copyFrom_63 fl_X9_18 ⟨fs, q15, e1, e2, ?_⟩
  refine gG_iconst (v := 0) dX9_copyFrom_66 (by decide) ?_
  refine gG_aload_n dX9_copyFrom_67 rfl rfl ?_
  obtain ⟨fs, q16, e1, e2, h⟩ := h
  refine gG_gr dX9_copyFrom_68 fl_X9_18 ⟨fs, q16, e1, e2, ?_⟩
  refine gG_iconst (v := 0) dX9_copyFrom_71 (by decide) ?_
  refine gG_bipush (v := 40) dX9_copyFrom_72 (by decide) ?_
  obtain ⟨m0, m1, f0, g0, e1, e2, z1, z2, z3, z4, z5, h⟩ := h
  refine gG_copy dX9_copyFrom_74 lk_X9_43 nat_copy st_copy ini_System hd1 (Nat.le_of_ble_eq_true rfl) ⟨m0, m1, f0, g0, e1, e2, z1, z2, z3, z4, z5, ?_⟩
  obtain ⟨H17, eH⟩ : ∃ z, z = va_up H14 (q16) (.inl (0, m1, .inl (va_cpy f0 g0 (Int32.toNatClampNeg ((0 : Int32))) (Int32.toNatClampNeg ((0 : Int32))) (Int32.toNatClampNeg ((40 : Int32)))))) := ⟨_, rfl⟩
  rw [← eH] at h ⊢
  refine gG_aload_n dX9_copyFrom_77 rfl rfl ?_
  refine gG_aload_n dX9_copyFrom_78 rfl rfl ?_
  obtain ⟨fs, x18, e1, e2, h⟩ := h
  refine gG_gi dX9_copyFrom_79 fl_X9_40 ⟨fs, x18, e1, e2, ?_⟩
  obtain ⟨fs, e1, e2, h⟩ := h
  refine gG_pi dX9_copyFrom_82 fl_X9_40 ⟨fs, e1, e2, ?_⟩
  obtain ⟨H19, eH⟩ : ∃ z, z = va_up H17 (a0) (.inr (9, fs.set 9 (.int (x18)))) := ⟨_, rfl⟩
  rw [← eH] at h ⊢
  exact gG_exit ⟨rfl, rfl, rfl, dX9_copyFrom_85, rfl, h⟩

theorem kX9_isStopped_0 {d n : Nat} {H : gHp} {P : gHp → Bool → Prop} {a0 : Nat} {i1 : Int32} (h : g_gi H (a0) 9 1 (fun x1 => (((x1 >>> (i1 &&& 31)) &&& (1 : Int32)) = 0 → P H false) ∧ (¬ (((x1 >>> (i1 &&& 31)) &&& (1 : Int32)) = 0) → P H true))) : gG d mX9_isStopped 0 0 (g_Xz mX9_isStopped n 0 0 P) 0 n H [some (.ref (a0)), some (.int (i1))] [] 0 0 := by
  refine gG_aload_n dX9_isStopped_0 rfl rfl ?_
  obtain ⟨fs, x1, e1, e2, h⟩ := h
  refine gG_gi dX9_isStopped_1 fl_X9_34 ⟨fs, x1, e1, e2, ?_⟩
  refine gG_iload_n dX9_isStopped_4 rfl rfl ?_
  refine gG_ishr dX9_isStopped_5 ?_
  refine gG_iconst (v := 1) dX9_isStopped_6 (by decide) ?_
  refine gG_iand dX9_isStopped_7 ?_
  refine gG_if_eq (tgt := 15) dX9_isStopped_8 (by decide) (fun c => ?_) (fun c => ?_)
  · have h := h.1 c
    refine gG_iconst (v := 0) dX9_isStopped_15 (by decide) ?_
    exact gG_exit ⟨rfl, rfl, rfl, dX9_isStopped_16, false, rfl, h⟩
  · have h := h.2 c
    refine gG_iconst (v := 1) dX9_isStopped_11 (by decide) ?_
    refine gG_goto (tgt := 16) dX9_isStopped_12 (by decide) ?_
    exact gG_exit ⟨rfl, rfl, rfl, dX9_isStopped_16, true, rfl, h⟩

theorem kX9_ranOver_0 {d n : Nat} {H : gHp} {P : gHp → Bool → Prop} {a0 : Nat} {i1 : Int32} (h : g_gi H (a0) 9 6 (fun x1 => (((x1 >>> (i1 &&& 31)) &&& (1 : Int32)) = 0 → P H false) ∧ (¬ (((x1 >>> (i1 &&& 31)) &&& (1 : Int32)) = 0) → P H true))) : gG d mX9_ranOver 0 0 (g_Xz mX9_ranOver n 0 0 P) 0 n H [some (.ref (a0)), some (.int (i1))] [] 0 0 := by
  refine gG_aload_n dX9_ranOver_0 rfl rfl ?_
  obtain ⟨fs, x1, e1, e2, h⟩ := h
  refine gG_gi dX9_ranOver_1 fl_X9_49 ⟨fs, x1, e1, e2, ?_⟩
  refine gG_iload_n dX9_ranOver_4 rfl rfl ?_
  refine gG_ishr dX9_ranOver_5 ?_
  refine gG_iconst (v := 1) dX9_ranOver_6 (by decide) ?_
  refine gG_iand dX9_ranOver_7 ?_
  refine gG_if_eq (tgt := 15) dX9_ranOver_8 (by decide) (fun c => ?_) (fun c => ?_)
  · have h := h.1 c
    refine gG_iconst (v := 0) dX9_ranOver_15 (by decide) ?_
    exact gG_exit ⟨rfl, rfl, rfl, dX9_ranOver_16, false, rfl, h⟩
  · have h := h.2 c
    refine gG_iconst (v := 1) dX9_ranOver_11 (by decide) ?_
    refine gG_goto (tgt := 16) dX9_ranOver_12 (by decide) ?_
    exact gG_exit ⟨rfl, rfl, rfl, dX9_ranOver_16, true, rfl, h⟩

theorem kX9_addWater_0 {d n : Nat} {H : gHp} {P : gHp → Prop} {a0 : Nat} {i1 : Int32} {i2 : Int32} (hd1 : 1 ≤ d) (h : g_gr H (a0) 9 2 (fun q1 => g_gr H (a0) 9 2 (fun q2 => g_al 0 H (q2) (i1) (fun x3 => g_as 0 H (q1) (i1) ((if (99 : Int32) < (x3 + i2) then (99 : Int32) else (x3 + i2))) (fun H4 => P H4))))) : gG d mX9_addWater 0 0 (g_Xv mX9_addWater n 0 0 P) 0 n H [some (.ref (a0)), some (.int (i1)), some (.int (i2))] [] 0 0 := by
  refine gG_aload_n dX9_addWater_0 rfl rfl ?_
  obtain ⟨fs, q1, e1, e2, h⟩ := h
  refine gG_gr dX9_addWater_1 fl_X9_9 ⟨fs, q1, e1, e2, ?_⟩
  refine gG_iload_n dX9_addWater_4 rfl rfl ?_
  refine gG_aload_n dX9_addWater_5 rfl rfl ?_
  obtain ⟨fs, q2, e1, e2, h⟩ := h
  refine gG_gr dX9_addWater_6 fl_X9_9 ⟨fs, q2, e1, e2, ?_⟩
  refine gG_iload_n dX9_addWater_9 rfl rfl ?_
  obtain ⟨m0, f0, e1, e2, h⟩ := h
  refine gG_iald dX9_addWater_10 ⟨m0, f0, e1, e2, ?_⟩
  obtain ⟨x3, eH⟩ : ∃ z, z = f0 (Int32.toNatClampNeg (i1)) := ⟨_, rfl⟩
  rw [← eH] at h ⊢
  refine gG_iload_n dX9_addWater_11 rfl rfl ?_
  refine gG_iadd dX9_addWater_12 ?_
  refine gG_bipush (v := 99) dX9_addWater_13 (by decide) ?_
  refine gG_min dX9_addWater_15 lk_X9_52 st_min ini_Math co_min hd1 (Nat.le_of_ble_eq_true rfl) (Nat.le_refl _) (Nat.le_refl _) ?_
  obtain ⟨m0, f0, e1, e2, h⟩ := h
  refine gG_iast dX9_addWater_18 ⟨m0, f0, e1, e2, ?_⟩
  obtain ⟨H4, eH⟩ : ∃ z, z = va_up H (q1) (.inl (0, m0, .inl (upd f0 (Int32.toNatClampNeg (i1)) ((if (99 : Int32) < (x3 + i2) then (99 : Int32) else (x3 + i2)))))) := ⟨_, rfl⟩
  rw [← eH] at h ⊢
  exact gG_exit ⟨rfl, rfl, rfl, dX9_addWater_19, rfl, h⟩

theorem kX9_stopMouth_0 {d n : Nat} {H : gHp} {P : gHp → Bool → Prop} {a0 : Nat} {i1 : Int32} (h : (∃ fs, H (a0) = .inr (9, fs)) ∧ g_cz d mX9_isStopped n H [.ref (a0), .int (i1)] (fun H1 b2 => (b2 = true → gG d mX9_stopMouth 0 0 (g_Xz mX9_stopMouth n 0 0 P) 14 n H1 [some (.ref (a0)), some (.int (i1)), some (.int ((0 : Int32)))] [] (0) (0)) ∧ (b2 = false → gG d mX9_stopMouth 0 0 (g_Xz mX9_stopMouth n 0 0 P) 14 n H1 [some (.ref (a0)), some (.int (i1)), some (.int ((1 : Int32)))] [] (0) (0)))) : gG d mX9_stopMouth 0 0 (g_Xz mX9_stopMouth n 0 0 P) 0 n H [some (.ref (a0)), some (.int (i1)), none] [] 0 0 := by
  refine gG_aload_n dX9_stopMouth_0 rfl rfl ?_
  refine gG_iload_n dX9_stopMouth_1 rfl rfl ?_
  obtain ⟨hrc, d2, P2, hdd, hC, h⟩ := h
  refine gG_cvi (As := [.int (i1)]) (st := []) dX9_stopMouth_2 mV_X9_58 hdd hrc rfl rfl (Nat.le_of_ble_eq_true rfl) (Nat.le_refl _) ⟨Nat.le_refl _, Nat.le_refl _⟩ hC (fun H1 x9 hp => ?_)
  obtain ⟨b2, rfl, hp⟩ := hp
  have h := h H1 b2 hp
  refine gG_if_ne (tgt := 12) dX9_stopMouth_5 (by decide) (fun c => ?_) (fun c => ?_)
  · have h := h.1 (g_b_t c)
    refine gG_iconst (v := 0) dX9_stopMouth_12 (by decide) ?_
    refine gG_istore_n dX9_stopMouth_13 rfl (Nat.le_of_ble_eq_true rfl) ?_
    refine gG_locals ?_ h
    exact ⟨rfl, ⟨rfl, ⟨rfl, trivial⟩⟩⟩
  · have h := h.2 (g_b_f c)
    refine gG_iconst (v := 1) dX9_stopMouth_8 (by decide) ?_
    refine gG_goto (tgt := 13) dX9_stopMouth_9 (by decide) ?_
    refine gG_istore_n dX9_stopMouth_13 rfl (Nat.le_of_ble_eq_true rfl) ?_
    refine gG_locals ?_ h
    exact ⟨rfl, ⟨rfl, ⟨rfl, trivial⟩⟩⟩
theorem kX9_stopMouth_14 {d n : Nat} {H : gHp} {P : gHp → Bool → Prop} {a0 : Nat} {i1 : Int32} {i2 : Int32} (h : g_gi H (a0) 9 1 (fun x1 => g_pf H (a0) 9 1 (.int ((x1 ||| ((1 : Int32) <<< (i1 &&& 31))))) (fun H2 => ∃ b, i2 = g_b b ∧ P H2 b))) : gG d mX9_stopMouth 0 0 (g_Xz mX9_stopMouth n 0 0 P) 14 n H [some (.ref (a0)), some (.int (i1)), some (.int (i2))] [] 0 0 := by
  refine gG_aload_n dX9_stopMouth_14 rfl rfl ?_
  refine gG_dup dX9_stopMouth_15 rfl ?_
  obtain ⟨fs, x1, e1, e2, h⟩ := h
  refine gG_gi dX9_stopMouth_16 fl_X9_34 ⟨fs, x1, e1, e2, ?_⟩
  refine gG_iconst (v := 1) dX9_stopMouth_19 (by decide) ?_
  refine gG_iload_n dX9_stopMouth_20 rfl rfl ?_
  refine gG_ishl dX9_stopMouth_21 ?_
  refine gG_ior dX9_stopMouth_22 ?_
  obtain ⟨fs, e1, e2, h⟩ := h
  refine gG_pi dX9_stopMouth_23 fl_X9_34 ⟨fs, e1, e2, ?_⟩
  obtain ⟨H2, eH⟩ : ∃ z, z = va_up H (a0) (.inr (9, fs.set 1 (.int ((x1 ||| ((1 : Int32) <<< (i1 &&& 31))))))) := ⟨_, rfl⟩
  rw [← eH] at h ⊢
  refine gG_iload_n dX9_stopMouth_26 rfl rfl ?_
  obtain ⟨b, hb, h⟩ := h
  exact gG_exit ⟨rfl, rfl, rfl, dX9_stopMouth_27, b, by rw [hb], h⟩

theorem kX9_clearMouth_0 {d n : Nat} {H : gHp} {P : gHp → Bool → Prop} {a0 : Nat} {i1 : Int32} (h : (∃ fs, H (a0) = .inr (9, fs)) ∧ g_cz d mX9_isStopped n H [.ref (a0), .int (i1)] (fun H1 b2 => g_gi H1 (a0) 9 1 (fun x3 => g_pf H1 (a0) 9 1 (.int ((x3 &&& (((1 : Int32) <<< (i1 &&& 31)) ^^^ (-1 : Int32))))) (fun H4 => P H4 b2)))) : gG d mX9_clearMouth 0 0 (g_Xz mX9_clearMouth n 0 0 P) 0 n H [some (.ref (a0)), some (.int (i1)), none] [] 0 0 := by
  refine gG_aload_n dX9_clearMouth_0 rfl rfl ?_
  refine gG_iload_n dX9_clearMouth_1 rfl rfl ?_
  obtain ⟨hrc, d2, P2, hdd, hC, h⟩ := h
  refine gG_cvi (As := [.int (i1)]) (st := []) dX9_clearMouth_2 mV_X9_58 hdd hrc rfl rfl (Nat.le_of_ble_eq_true rfl) (Nat.le_refl _) ⟨Nat.le_refl _, Nat.le_refl _⟩ hC (fun H1 x9 hp => ?_)
  obtain ⟨b2, rfl, hp⟩ := hp
  have h := h H1 b2 hp
  refine gG_istore_n dX9_clearMouth_5 rfl (Nat.le_of_ble_eq_true rfl) ?_
  refine gG_aload_n dX9_clearMouth_6 rfl rfl ?_
  refine gG_dup dX9_clearMouth_7 rfl ?_
  obtain ⟨fs, x3, e1, e2, h⟩ := h
  refine gG_gi dX9_clearMouth_8 fl_X9_34 ⟨fs, x3, e1, e2, ?_⟩
  refine gG_iconst (v := 1) dX9_clearMouth_11 (by decide) ?_
  refine gG_iload_n dX9_clearMouth_12 rfl rfl ?_
  refine gG_ishl dX9_clearMouth_13 ?_
  refine gG_iconst (v := (-1)) dX9_clearMouth_14 (by decide) ?_
  refine gG_ixor dX9_clearMouth_15 ?_
  refine gG_iand dX9_clearMouth_16 ?_
  obtain ⟨fs, e1, e2, h⟩ := h
  refine gG_pi dX9_clearMouth_17 fl_X9_34 ⟨fs, e1, e2, ?_⟩
  obtain ⟨H4, eH⟩ : ∃ z, z = va_up H1 (a0) (.inr (9, fs.set 1 (.int ((x3 &&& (((1 : Int32) <<< (i1 &&& 31)) ^^^ (-1 : Int32))))))) := ⟨_, rfl⟩
  rw [← eH] at h ⊢
  refine gG_iload_n dX9_clearMouth_20 rfl rfl ?_
  exact gG_exit ⟨rfl, rfl, rfl, dX9_clearMouth_21, b2, rfl, h⟩

theorem kX9_passMinute_0 {d n : Nat} {H : gHp} {P : gHp → Int32 → Prop} {a0 : Nat} {a1 : Nat} {i2 : Int32} (h : g_pf H (a0) 9 6 (.int ((0 : Int32))) (fun H1 => g_pf H1 (a0) 9 7 (.int ((0 : Int32))) (fun H2 => gG d mX9_passMinute 0 0 (g_Xj mX9_passMinute n 0 0 P) 12 n H2 [some (.ref (a0)), some (.ref (a1)), some (.int (i2)), some (.int ((0 : Int32)))] [] (0) (0)))) : gG d mX9_passMinute 0 0 (g_Xj mX9_passMinute n 0 0 P) 0 n H [some (.ref (a0)), some (.ref (a1)), some (.int (i2)), none] [] 0 0 := by
  refine gG_aload_n dX9_passMinute_0 rfl rfl ?_
  refine gG_iconst (v := 0) dX9_passMinute_1 (by decide) ?_
  obtain ⟨fs, e1, e2, h⟩ := h
  refine gG_pi dX9_passMinute_2 fl_X9_49 ⟨fs, e1, e2, ?_⟩
  obtain ⟨H1, eH⟩ : ∃ z, z = va_up H (a0) (.inr (9, fs.set 6 (.int ((0 : Int32))))) := ⟨_, rfl⟩
  rw [← eH] at h ⊢
  refine gG_aload_n dX9_passMinute_5 rfl rfl ?_
  refine gG_iconst (v := 0) dX9_passMinute_6 (by decide) ?_
  obtain ⟨fs, e1, e2, h⟩ := h
  refine gG_pi dX9_passMinute_7 fl_X9_62 ⟨fs, e1, e2, ?_⟩
  obtain ⟨H2, eH⟩ : ∃ z, z = va_up H1 (a0) (.inr (9, fs.set 7 (.int ((0 : Int32))))) := ⟨_, rfl⟩
  rw [← eH] at h ⊢
  refine gG_iconst (v := 0) dX9_passMinute_10 (by decide) ?_
  refine gG_istore_n dX9_passMinute_11 rfl (Nat.le_of_ble_eq_true rfl) ?_
  refine gG_locals ?_ h
  exact ⟨rfl, ⟨rfl, ⟨rfl, ⟨rfl, trivial⟩⟩⟩⟩
theorem kX9_passMinute_12 {d n : Nat} {H : gHp} {P : gHp → Int32 → Prop} {a0 : Nat} {a1 : Nat} {i2 : Int32} {i3 : Int32} (h : g_gi H (a1) 1 0 (fun x1 => (x1 ≤ i3 → gG d mX9_passMinute 0 0 (g_Xj mX9_passMinute n 0 0 P) 45 n H [some (.ref (a0)), some (.ref (a1)), some (.int (i2)), some (.int ((0 : Int32)))] [] (0) (0)) ∧ (¬ (x1 ≤ i3) → g_gr H (a0) 9 2 (fun q2 => g_al 0 H (q2) (i3) (fun x3 => g_gr H (a1) 1 4 (fun q4 => g_al 0 H (q4) (i3) (fun x5 => g_as 0 H (q2) (i3) ((x3 + (i2 * x5))) (fun H6 => gG d mX9_passMinute 0 0 (g_Xj mX9_passMinute n 0 0 P) 12 n H6 [some (.ref (a0)), some (.ref (a1)), some (.int (i2)), some (.int ((i3 + 1)))] [] (0) (0))))))))) : gG d mX9_passMinute 0 0 (g_Xj mX9_passMinute n 0 0 P) 12 n H [some (.ref (a0)), some (.ref (a1)), some (.int (i2)), some (.int (i3))] [] 0 0 := by
  refine gG_iload_n dX9_passMinute_12 rfl rfl ?_
  refine gG_aload_n dX9_passMinute_13 rfl rfl ?_
  obtain ⟨fs, x1, e1, e2, h⟩ := h
  refine gG_gi dX9_passMinute_14 fl_X9_65 ⟨fs, x1, e1, e2, ?_⟩
  refine gG_ic_ge (tgt := 43) dX9_passMinute_17 (by decide) (fun c => ?_) (fun c => ?_)
  · have h := h.1 c
    refine gG_iconst (v := 0) dX9_passMinute_43 (by decide) ?_
    refine gG_istore_n dX9_passMinute_44 rfl (Nat.le_of_ble_eq_true rfl) ?_
    refine gG_locals ?_ h
    exact ⟨rfl, ⟨rfl, ⟨rfl, ⟨rfl, trivial⟩⟩⟩⟩
  · have h := h.2 c
    refine gG_aload_n dX9_passMinute_20 rfl rfl ?_
    obtain ⟨fs, q2, e1, e2, h⟩ := h
    refine gG_gr dX9_passMinute_21 fl_X9_9 ⟨fs, q2, e1, e2, ?_⟩
    refine gG_iload_n dX9_passMinute_24 rfl rfl ?_
    refine gG_dup2 dX9_passMinute_25 rfl rfl ?_
    obtain ⟨m0, f0, e1, e2, h⟩ := h
    refine gG_iald dX9_passMinute_26 ⟨m0, f0, e1, e2, ?_⟩
    obtain ⟨x3, eH⟩ : ∃ z, z = f0 (Int32.toNatClampNeg (i3)) := ⟨_, rfl⟩
    rw [← eH] at h ⊢
    refine gG_iload_n dX9_passMinute_27 rfl rfl ?_
    refine gG_aload_n dX9_passMinute_28 rfl rfl ?_
    obtain ⟨fs, q4, e1, e2, h⟩ := h
    refine gG_gr dX9_passMinute_29 fl_X9_68 ⟨fs, q4, e1, e2, ?_⟩
    refine gG_iload_n dX9_passMinute_32 rfl rfl ?_
    obtain ⟨m0, f0, e1, e2, h⟩ := h
    refine gG_iald dX9_passMinute_33 ⟨m0, f0, e1, e2, ?_⟩
    obtain ⟨x5, eH⟩ : ∃ z, z = f0 (Int32.toNatClampNeg (i3)) := ⟨_, rfl⟩
    rw [← eH] at h ⊢
    refine gG_imul dX9_passMinute_34 ?_
    refine gG_iadd dX9_passMinute_35 ?_
    obtain ⟨m0, f0, e1, e2, h⟩ := h
    refine gG_iast dX9_passMinute_36 ⟨m0, f0, e1, e2, ?_⟩
    obtain ⟨H6, eH⟩ : ∃ z, z = va_up H (q2) (.inl (0, m0, .inl (upd f0 (Int32.toNatClampNeg (i3)) ((x3 + (i2 * x5)))))) := ⟨_, rfl⟩
    rw [← eH] at h ⊢
    refine gG_iinc (v := i3 + 1) dX9_passMinute_37 rfl rfl (Nat.le_of_ble_eq_true rfl) ?_
    refine gG_goto (tgt := 12) dX9_passMinute_40 (by decide) ?_
    refine gG_locals ?_ h
    exact ⟨rfl, ⟨rfl, ⟨rfl, ⟨rfl, trivial⟩⟩⟩⟩
theorem kX9_passMinute_45 {d n : Nat} {H : gHp} {P : gHp → Int32 → Prop} {a0 : Nat} {a1 : Nat} {i2 : Int32} {i3 : Int32} (h : g_gi H (a1) 1 0 (fun x1 => (x1 ≤ i3 → (∃ fs, H (a0) = .inr (9, fs)) ∧ g_ci d mX9_soundingNow n H [.ref (a0), .ref (a1), .int (i2)] (fun H2 x3 => g_pf H2 (a0) 9 4 (.int (x3)) (fun H4 => g_gi H4 (a0) 9 4 (fun x5 => (∃ fs, H4 (a1) = .inr (1, fs)) ∧ g_ci d mX1_readOf n H4 [.ref (a1), .int (x5)] (fun H6 x7 => g_pf H6 (a0) 9 5 (.int (x7)) (fun H8 => g_gi H8 (a0) 9 5 (fun x9 => (x9 = (-1 : Int32) → g_gi H8 (a0) 9 0 (fun x10 => g_pf H8 (a0) 9 0 (.int ((x10 + (1 : Int32)))) (fun H11 => g_gi H11 (a0) 9 5 (fun x12 => P H11 (x12))))) ∧ (¬ (x9 = (-1 : Int32)) → g_gi H8 (a0) 9 9 (fun x13 => ((40 : Int32) ≤ x13 → g_gi H8 (a0) 9 0 (fun x14 => g_pf H8 (a0) 9 0 (.int ((x14 + (1 : Int32)))) (fun H15 => g_gi H15 (a0) 9 5 (fun x16 => P H15 (x16))))) ∧ (¬ ((40 : Int32) ≤ x13) → g_gr H8 (a0) 9 8 (fun q17 => g_gi H8 (a0) 9 9 (fun x18 => g_gi H8 (a0) 9 5 (fun x19 => g_as 0 H8 (q17) (x18) (x19) (fun H20 => g_gi H20 (a0) 9 9 (fun x21 => g_pf H20 (a0) 9 9 (.int ((x21 + (1 : Int32)))) (fun H22 => g_gi H22 (a0) 9 0 (fun x23 => g_pf H22 (a0) 9 0 (.int ((x23 + (1 : Int32)))) (fun H24 => g_gi H24 (a0) 9 5 (fun x25 => P H24 (x25)))))))))))))))))))) ∧ (¬ (x1 ≤ i3) → g_gr H (a1) 1 7 (fun q26 => g_al 0 H (q26) (i3) (fun x27 => (∃ fs, H (a0) = .inr (9, fs)) ∧ g_cvd d mX9_runOver n H [.ref (a0), .ref (a1), .int (x27)] (fun H28 => g_gr H28 (a1) 1 7 (fun q29 => g_al 0 H28 (q29) (i3) (fun x30 => (∃ fs, H28 (a0) = .inr (9, fs)) ∧ g_cvd d mX9_spout n H28 [.ref (a0), .ref (a1), .int (x30)] (fun H31 => gG d mX9_passMinute 0 0 (g_Xj mX9_passMinute n 0 0 P) 45 n H31 [some (.ref (a0)), some (.ref (a1)), some (.int (i2)), some (.int ((i3 + 1)))] [] (0) (0)))))))))) : gG d mX9_passMinute 0 0 (g_Xj mX9_passMinute n 0 0 P) 45 n H [some (.ref (a0)), some (.ref (a1)), some (.int (i2)), some (.int (i3))] [] 0 0 := by
  refine gG_iload_n dX9_passMinute_45 rfl rfl ?_
  refine gG_aload_n dX9_passMinute_46 rfl rfl ?_
  obtain ⟨fs, x1, e1, e2, h⟩ := h
  refine gG_gi dX9_passMinute_47 fl_X9_65 ⟨fs, x1, e1, e2, ?_⟩
  refine gG_ic_ge (tgt := 81) dX9_passMinute_50 (by decide) (fun c => ?_) (fun c => ?_)
  · have h := h.1 c
    refine gG_aload_n dX9_passMinute_81 rfl rfl ?_
    refine gG_aload_n dX9_passMinute_82 rfl rfl ?_
    refine gG_aload_n dX9_passMinute_83 rfl rfl ?_
    refine gG_iload_n dX9_passMinute_84 rfl rfl ?_
    obtain ⟨hrc, d2, P2, hdd, hC, h⟩ := h
    refine gG_cvi (As := [.ref (a1), .int (i2)]) (st := [.ref (a0)]) dX9_passMinute_85 mV_X9_81 hdd hrc rfl rfl (Nat.le_of_ble_eq_true rfl) (Nat.le_refl _) ⟨Nat.le_refl _, Nat.le_refl _⟩ hC (fun H2 x3 hp => ?_)
    have h := h H2 x3 hp
    obtain ⟨fs, e1, e2, h⟩ := h
    refine gG_pi dX9_passMinute_88 fl_X9_37 ⟨fs, e1, e2, ?_⟩
    obtain ⟨H4, eH⟩ : ∃ z, z = va_up H2 (a0) (.inr (9, fs.set 4 (.int (x3)))) := ⟨_, rfl⟩
    rw [← eH] at h ⊢
    refine gG_aload_n dX9_passMinute_91 rfl rfl ?_
    refine gG_aload_n dX9_passMinute_92 rfl rfl ?_
    refine gG_aload_n dX9_passMinute_93 rfl rfl ?_
    obtain ⟨fs, x5, e1, e2, h⟩ := h
    refine gG_gi dX9_passMinute_94 fl_X9_37 ⟨fs, x5, e1, e2, ?_⟩
    obtain ⟨hrc, d2, P2, hdd, hC, h⟩ := h
    refine gG_cvi (As := [.int (x5)]) (st := [.ref (a0)]) dX9_passMinute_97 mV_X9_85 hdd hrc rfl rfl (Nat.le_of_ble_eq_true rfl) (Nat.le_refl _) ⟨Nat.le_refl _, Nat.le_refl _⟩ hC (fun H6 x7 hp => ?_)
    have h := h H6 x7 hp
    obtain ⟨fs, e1, e2, h⟩ := h
    refine gG_pi dX9_passMinute_100 fl_X9_21 ⟨fs, e1, e2, ?_⟩
    obtain ⟨H8, eH⟩ : ∃ z, z = va_up H6 (a0) (.inr (9, fs.set 5 (.int (x7)))) := ⟨_, rfl⟩
    rw [← eH] at h ⊢
    refine gG_aload_n dX9_passMinute_103 rfl rfl ?_
    obtain ⟨fs, x9, e1, e2, h⟩ := h
    refine gG_gi dX9_passMinute_104 fl_X9_21 ⟨fs, x9, e1, e2, ?_⟩
    refine gG_iconst (v := (-1)) dX9_passMinute_107 (by decide) ?_
    refine gG_ic_eq (tgt := 143) dX9_passMinute_108 (by decide) (fun c => ?_) (fun c => ?_)
    · have h := h.1 c
      refine gG_aload_n dX9_passMinute_143 rfl rfl ?_
      refine gG_dup dX9_passMinute_144 rfl ?_
      obtain ⟨fs, x10, e1, e2, h⟩ := h
      refine gG_gi dX9_passMinute_145 fl_X9_25 ⟨fs, x10, e1, e2, ?_⟩
      refine gG_iconst (v := 1) dX9_passMinute_148 (by decide) ?_
      refine gG_iadd dX9_passMinute_149 ?_
      obtain ⟨fs, e1, e2, h⟩ := h
      refine gG_pi dX9_passMinute_150 fl_X9_25 ⟨fs, e1, e2, ?_⟩
      obtain ⟨H11, eH⟩ : ∃ z, z = va_up H8 (a0) (.inr (9, fs.set 0 (.int ((x10 + (1 : Int32)))))) := ⟨_, rfl⟩
      rw [← eH] at h ⊢
      refine gG_aload_n dX9_passMinute_153 rfl rfl ?_
      obtain ⟨fs, x12, e1, e2, h⟩ := h
      refine gG_gi dX9_passMinute_154 fl_X9_21 ⟨fs, x12, e1, e2, ?_⟩
      exact gG_exit ⟨rfl, rfl, rfl, dX9_passMinute_157, _, rfl, h⟩
    · have h := h.2 c
      refine gG_aload_n dX9_passMinute_111 rfl rfl ?_
      obtain ⟨fs, x13, e1, e2, h⟩ := h
      refine gG_gi dX9_passMinute_112 fl_X9_40 ⟨fs, x13, e1, e2, ?_⟩
      refine gG_bipush (v := 40) dX9_passMinute_115 (by decide) ?_
      refine gG_ic_ge (tgt := 143) dX9_passMinute_117 (by decide) (fun c => ?_) (fun c => ?_)
      · have h := h.1 c
        refine gG_aload_n dX9_passMinute_143 rfl rfl ?_
        refine gG_dup dX9_passMinute_144 rfl ?_
        obtain ⟨fs, x14, e1, e2, h⟩ := h
        refine gG_gi dX9_passMinute_145 fl_X9_25 ⟨fs, x14, e1, e2, ?_⟩
        refine gG_iconst (v := 1) dX9_passMinute_148 (by decide) ?_
        refine gG_iadd dX9_passMinute_149 ?_
        obtain ⟨fs, e1, e2, h⟩ := h
        refine gG_pi dX9_passMinute_150 fl_X9_25 ⟨fs, e1, e2, ?_⟩
        obtain ⟨H15, eH⟩ : ∃ z, z = va_up H8 (a0) (.inr (9, fs.set 0 (.int ((x14 + (1 : Int32)))))) := ⟨_, rfl⟩
        rw [← eH] at h ⊢
        refine gG_aload_n dX9_passMinute_153 rfl rfl ?_
        obtain ⟨fs, x16, e1, e2, h⟩ := h
        refine gG_gi dX9_passMinute_154 fl_X9_21 ⟨fs, x16, e1, e2, ?_⟩
        exact gG_exit ⟨rfl, rfl, rfl, dX9_passMinute_157, _, rfl, h⟩
      · have h := h.2 c
        refine gG_aload_n dX9_passMinute_120 rfl rfl ?_
        obtain ⟨fs, q17, e1, e2, h⟩ := h
        refine gG_gr dX9_passMinute_121 fl_X9_18 ⟨fs, q17, e1, e2, ?_⟩
        refine gG_aload_n dX9_passMinute_124 rfl rfl ?_
        obtain ⟨fs, x18, e1, e2, h⟩ := h
        refine gG_gi dX9_passMinute_125 fl_X9_40 ⟨fs, x18, e1, e2, ?_⟩
        refine gG_aload_n dX9_passMinute_128 rfl rfl ?_
        obtain ⟨fs, x19, e1, e2, h⟩ := h
        refine gG_gi dX9_passMinute_129 fl_X9_21 ⟨fs, x19, e1, e2, ?_⟩
        obtain ⟨m0, f0, e1, e2, h⟩ := h
        refine gG_iast dX9_passMinute_132 ⟨m0, f0, e1, e2, ?_⟩
        obtain ⟨H20, eH⟩ : ∃ z, z = va_up H8 (q17) (.inl (0, m0, .inl (upd f0 (Int32.toNatClampNeg (x18)) (x19)))) := ⟨_, rfl⟩
        rw [← eH] at h ⊢
        refine gG_aload_n dX9_passMinute_133 rfl rfl ?_
        refine gG_dup dX9_passMinute_134 rfl ?_
        obtain ⟨fs, x21, e1, e2, h⟩ := h
        refine gG_gi dX9_passMinute_135 fl_X9_40 ⟨fs, x21, e1, e2, ?_⟩
        refine gG_iconst (v := 1) dX9_passMinute_138 (by decide) ?_
        refine gG_iadd dX9_passMinute_139 ?_
        obtain ⟨fs, e1, e2, h⟩ := h
        refine gG_pi dX9_passMinute_140 fl_X9_40 ⟨fs, e1, e2, ?_⟩
        obtain ⟨H22, eH⟩ : ∃ z, z = va_up H20 (a0) (.inr (9, fs.set 9 (.int ((x21 + (1 : Int32)))))) := ⟨_, rfl⟩
        rw [← eH] at h ⊢
        refine gG_aload_n dX9_passMinute_143 rfl rfl ?_
        refine gG_dup dX9_passMinute_144 rfl ?_
        obtain ⟨fs, x23, e1, e2, h⟩ := h
        refine gG_gi dX9_passMinute_145 fl_X9_25 ⟨fs, x23, e1, e2, ?_⟩
        refine gG_iconst (v := 1) dX9_passMinute_148 (by decide) ?_
        refine gG_iadd dX9_passMinute_149 ?_
        obtain ⟨fs, e1, e2, h⟩ := h
        refine gG_pi dX9_passMinute_150 fl_X9_25 ⟨fs, e1, e2, ?_⟩
        obtain ⟨H24, eH⟩ : ∃ z, z = va_up H22 (a0) (.inr (9, fs.set 0 (.int ((x23 + (1 : Int32)))))) := ⟨_, rfl⟩
        rw [← eH] at h ⊢
        refine gG_aload_n dX9_passMinute_153 rfl rfl ?_
        obtain ⟨fs, x25, e1, e2, h⟩ := h
        refine gG_gi dX9_passMinute_154 fl_X9_21 ⟨fs, x25, e1, e2, ?_⟩
        exact gG_exit ⟨rfl, rfl, rfl, dX9_passMinute_157, _, rfl, h⟩
  · have h := h.2 c
    refine gG_aload_n dX9_passMinute_53 rfl rfl ?_
    refine gG_aload_n dX9_passMinute_54 rfl rfl ?_
    refine gG_aload_n dX9_passMinute_55 rfl rfl ?_
    obtain ⟨fs, q26, e1, e2, h⟩ := h
    refine gG_gr dX9_passMinute_56 fl_X9_71 ⟨fs, q26, e1, e2, ?_⟩
    refine gG_iload_n dX9_passMinute_59 rfl rfl ?_
    obtain ⟨m0, f0, e1, e2, h⟩ := h
    refine gG_iald dX9_passMinute_60 ⟨m0, f0, e1, e2, ?_⟩
    obtain ⟨x27, eH⟩ : ∃ z, z = f0 (Int32.toNatClampNeg (i3)) := ⟨_, rfl⟩
    rw [← eH] at h ⊢
    obtain ⟨hrc, d2, P2, hdd, hC, h⟩ := h
    refine gG_cvv (As := [.ref (a1), .int (x27)]) (st := []) dX9_passMinute_61 mV_X9_74 hdd hrc rfl rfl (Nat.le_of_ble_eq_true rfl) (Nat.le_refl _) ⟨Nat.le_refl _, Nat.le_refl _⟩ hC (fun H28 hp => ?_)
    have h := h H28 hp
    refine gG_aload_n dX9_passMinute_64 rfl rfl ?_
    refine gG_aload_n dX9_passMinute_65 rfl rfl ?_
    refine gG_aload_n dX9_passMinute_66 rfl rfl ?_
    obtain ⟨fs, q29, e1, e2, h⟩ := h
    refine gG_gr dX9_passMinute_67 fl_X9_71 ⟨fs, q29, e1, e2, ?_⟩
    refine gG_iload_n dX9_passMinute_70 rfl rfl ?_
    obtain ⟨m0, f0, e1, e2, h⟩ := h
    refine gG_iald dX9_passMinute_71 ⟨m0, f0, e1, e2, ?_⟩
    obtain ⟨x30, eH⟩ : ∃ z, z = f0 (Int32.toNatClampNeg (i3)) := ⟨_, rfl⟩
    rw [← eH] at h ⊢
    obtain ⟨hrc, d2, P2, hdd, hC, h⟩ := h
    refine gG_cvv (As := [.ref (a1), .int (x30)]) (st := []) dX9_passMinute_72 mV_X9_78 hdd hrc rfl rfl (Nat.le_of_ble_eq_true rfl) (Nat.le_refl _) ⟨Nat.le_refl _, Nat.le_refl _⟩ hC (fun H31 hp => ?_)
    have h := h H31 hp
    refine gG_iinc (v := i3 + 1) dX9_passMinute_75 rfl rfl (Nat.le_of_ble_eq_true rfl) ?_
    refine gG_goto (tgt := 45) dX9_passMinute_78 (by decide) ?_
    refine gG_locals ?_ h
    exact ⟨rfl, ⟨rfl, ⟨rfl, ⟨rfl, trivial⟩⟩⟩⟩

theorem kX9_runOver_0 {d n : Nat} {H : gHp} {P : gHp → Prop} {a0 : Nat} {a1 : Nat} {i2 : Int32} (h : g_gr H (a0) 9 2 (fun q1 => g_al 0 H (q1) (i2) (fun x2 => g_gr H (a1) 1 5 (fun q3 => g_al 0 H (q3) (i2) (fun x4 => (0 < (x2 - x4) → g_gr H (a0) 9 2 (fun q5 => g_al 0 H (q5) (i2) (fun x6 => g_as 0 H (q5) (i2) ((x6 - (x2 - x4))) (fun H7 => g_gi H7 (a0) 9 6 (fun x8 => g_pf H7 (a0) 9 6 (.int ((x8 ||| ((1 : Int32) <<< (i2 &&& 31))))) (fun H9 => g_gr H9 (a1) 1 6 (fun q10 => g_al 0 H9 (q10) (i2) (fun x11 => (¬ (x11 = (-1 : Int32)) → g_gr H9 (a0) 9 2 (fun q12 => g_al 0 H9 (q12) (x11) (fun x13 => g_as 0 H9 (q12) (x11) ((x13 + (x2 - x4))) (fun H14 => P H14)))) ∧ (x11 = (-1 : Int32) → g_gi H9 (a0) 9 7 (fun x15 => g_pf H9 (a0) 9 7 (.int ((x15 + (x2 - x4)))) (fun H16 => P H16))))))))))) ∧ (¬ (0 < (x2 - x4)) → P H)))))) : gG d mX9_runOver 0 0 (g_Xv mX9_runOver n 0 0 P) 0 n H [some (.ref (a0)), some (.ref (a1)), some (.int (i2)), none, none] [] 0 0 := by
  refine gG_aload_n dX9_runOver_0 rfl rfl ?_
  obtain ⟨fs, q1, e1, e2, h⟩ := h
  refine gG_gr dX9_runOver_1 fl_X9_9 ⟨fs, q1, e1, e2, ?_⟩
  refine gG_iload_n dX9_runOver_4 rfl rfl ?_
  obtain ⟨m0, f0, e1, e2, h⟩ := h
  refine gG_iald dX9_runOver_5 ⟨m0, f0, e1, e2, ?_⟩
  obtain ⟨x2, eH⟩ : ∃ z, z = f0 (Int32.toNatClampNeg (i2)) := ⟨_, rfl⟩
  rw [← eH] at h ⊢
  refine gG_aload_n dX9_runOver_6 rfl rfl ?_
  obtain ⟨fs, q3, e1, e2, h⟩ := h
  refine gG_gr dX9_runOver_7 fl_X9_89 ⟨fs, q3, e1, e2, ?_⟩
  refine gG_iload_n dX9_runOver_10 rfl rfl ?_
  obtain ⟨m0, f0, e1, e2, h⟩ := h
  refine gG_iald dX9_runOver_11 ⟨m0, f0, e1, e2, ?_⟩
  obtain ⟨x4, eH⟩ : ∃ z, z = f0 (Int32.toNatClampNeg (i2)) := ⟨_, rfl⟩
  rw [← eH] at h ⊢
  refine gG_isub dX9_runOver_12 ?_
  refine gG_istore_n dX9_runOver_13 rfl (Nat.le_of_ble_eq_true rfl) ?_
  refine gG_iload_n dX9_runOver_14 rfl rfl ?_
  refine gG_if_gt (tgt := 19) dX9_runOver_15 (by decide) (fun c => ?_) (fun c => ?_)
  · have h := h.1 c
    refine gG_aload_n dX9_runOver_19 rfl rfl ?_
    obtain ⟨fs, q5, e1, e2, h⟩ := h
    refine gG_gr dX9_runOver_20 fl_X9_9 ⟨fs, q5, e1, e2, ?_⟩
    refine gG_iload_n dX9_runOver_23 rfl rfl ?_
    refine gG_dup2 dX9_runOver_24 rfl rfl ?_
    obtain ⟨m0, f0, e1, e2, h⟩ := h
    refine gG_iald dX9_runOver_25 ⟨m0, f0, e1, e2, ?_⟩
    obtain ⟨x6, eH⟩ : ∃ z, z = f0 (Int32.toNatClampNeg (i2)) := ⟨_, rfl⟩
    rw [← eH] at h ⊢
    refine gG_iload_n dX9_runOver_26 rfl rfl ?_
    refine gG_isub dX9_runOver_27 ?_
    obtain ⟨m0, f0, e1, e2, h⟩ := h
    refine gG_iast dX9_runOver_28 ⟨m0, f0, e1, e2, ?_⟩
    obtain ⟨H7, eH⟩ : ∃ z, z = va_up H (q5) (.inl (0, m0, .inl (upd f0 (Int32.toNatClampNeg (i2)) ((x6 - (x2 - x4)))))) := ⟨_, rfl⟩
    rw [← eH] at h ⊢
    refine gG_aload_n dX9_runOver_29 rfl rfl ?_
    refine gG_dup dX9_runOver_30 rfl ?_
    obtain ⟨fs, x8, e1, e2, h⟩ := h
    refine gG_gi dX9_runOver_31 fl_X9_49 ⟨fs, x8, e1, e2, ?_⟩
    refine gG_iconst (v := 1) dX9_runOver_34 (by decide) ?_
    refine gG_iload_n dX9_runOver_35 rfl rfl ?_
    refine gG_ishl dX9_runOver_36 ?_
    refine gG_ior dX9_runOver_37 ?_
    obtain ⟨fs, e1, e2, h⟩ := h
    refine gG_pi dX9_runOver_38 fl_X9_49 ⟨fs, e1, e2, ?_⟩
    obtain ⟨H9, eH⟩ : ∃ z, z = va_up H7 (a0) (.inr (9, fs.set 6 (.int ((x8 ||| ((1 : Int32) <<< (i2 &&& 31))))))) := ⟨_, rfl⟩
    rw [← eH] at h ⊢
    refine gG_aload_n dX9_runOver_41 rfl rfl ?_
    obtain ⟨fs, q10, e1, e2, h⟩ := h
    refine gG_gr dX9_runOver_42 fl_X9_92 ⟨fs, q10, e1, e2, ?_⟩
    refine gG_iload_n dX9_runOver_45 rfl rfl ?_
    obtain ⟨m0, f0, e1, e2, h⟩ := h
    refine gG_iald dX9_runOver_46 ⟨m0, f0, e1, e2, ?_⟩
    obtain ⟨x11, eH⟩ : ∃ z, z = f0 (Int32.toNatClampNeg (i2)) := ⟨_, rfl⟩
    rw [← eH] at h ⊢
    refine gG_istore dX9_runOver_47 (Nat.le_of_ble_eq_true rfl) ?_
    refine gG_iload dX9_runOver_49 rfl ?_
    refine gG_iconst (v := (-1)) dX9_runOver_51 (by decide) ?_
    refine gG_ic_ne (tgt := 68) dX9_runOver_52 (by decide) (fun c => ?_) (fun c => ?_)
    · have h := h.1 c
      refine gG_aload_n dX9_runOver_68 rfl rfl ?_
      obtain ⟨fs, q12, e1, e2, h⟩ := h
      refine gG_gr dX9_runOver_69 fl_X9_9 ⟨fs, q12, e1, e2, ?_⟩
      refine gG_iload dX9_runOver_72 rfl ?_
      refine gG_dup2 dX9_runOver_74 rfl rfl ?_
      obtain ⟨m0, f0, e1, e2, h⟩ := h
      refine gG_iald dX9_runOver_75 ⟨m0, f0, e1, e2, ?_⟩
      obtain ⟨x13, eH⟩ : ∃ z, z = f0 (Int32.toNatClampNeg (x11)) := ⟨_, rfl⟩
      rw [← eH] at h ⊢
      refine gG_iload_n dX9_runOver_76 rfl rfl ?_
      refine gG_iadd dX9_runOver_77 ?_
      obtain ⟨m0, f0, e1, e2, h⟩ := h
      refine gG_iast dX9_runOver_78 ⟨m0, f0, e1, e2, ?_⟩
      obtain ⟨H14, eH⟩ : ∃ z, z = va_up H9 (q12) (.inl (0, m0, .inl (upd f0 (Int32.toNatClampNeg (x11)) ((x13 + (x2 - x4)))))) := ⟨_, rfl⟩
      rw [← eH] at h ⊢
      exact gG_exit ⟨rfl, rfl, rfl, dX9_runOver_79, rfl, h⟩
    · have h := h.2 c
      refine gG_aload_n dX9_runOver_55 rfl rfl ?_
      refine gG_dup dX9_runOver_56 rfl ?_
      obtain ⟨fs, x15, e1, e2, h⟩ := h
      refine gG_gi dX9_runOver_57 fl_X9_62 ⟨fs, x15, e1, e2, ?_⟩
      refine gG_iload_n dX9_runOver_60 rfl rfl ?_
      refine gG_iadd dX9_runOver_61 ?_
      obtain ⟨fs, e1, e2, h⟩ := h
      refine gG_pi dX9_runOver_62 fl_X9_62 ⟨fs, e1, e2, ?_⟩
      obtain ⟨H16, eH⟩ : ∃ z, z = va_up H9 (a0) (.inr (9, fs.set 7 (.int ((x15 + (x2 - x4)))))) := ⟨_, rfl⟩
      rw [← eH] at h ⊢
      refine gG_goto (tgt := 79) dX9_runOver_65 (by decide) ?_
      exact gG_exit ⟨rfl, rfl, rfl, dX9_runOver_79, rfl, h⟩
  · have h := h.2 c
    exact gG_exit ⟨rfl, rfl, rfl, dX9_runOver_18, rfl, h⟩

theorem kX9_spout_0 {d n : Nat} {H : gHp} {P : gHp → Prop} {a0 : Nat} {a1 : Nat} {i2 : Int32} (hd1 : 1 ≤ d) (h : g_gr H (a0) 9 3 (fun q1 => (∃ fs, H (a0) = .inr (9, fs)) ∧ g_cz d mX9_isStopped n H [.ref (a0), .int (i2)] (fun H2 b3 => (b3 = false → g_gr H2 (a0) 9 2 (fun q4 => g_al 0 H2 (q4) (i2) (fun x5 => (∃ fs, H2 (a1) = .inr (1, fs)) ∧ g_ci d mX1_mostSpouted n H2 [.ref (a1), .int (i2)] (fun H6 x7 => g_as 0 H6 (q1) (i2) ((if x7 < x5 then x7 else x5)) (fun H8 => gG d mX9_spout 0 0 (g_Xv mX9_spout n 0 0 P) 32 n H8 [some (.ref (a0)), none, some (.int (i2))] [] (0) (0)))))) ∧ (b3 = true → g_as 0 H2 (q1) (i2) ((0 : Int32)) (fun H9 => gG d mX9_spout 0 0 (g_Xv mX9_spout n 0 0 P) 32 n H9 [some (.ref (a0)), none, some (.int (i2))] [] (0) (0)))))) : gG d mX9_spout 0 0 (g_Xv mX9_spout n 0 0 P) 0 n H [some (.ref (a0)), some (.ref (a1)), some (.int (i2))] [] 0 0 := by
  refine gG_aload_n dX9_spout_0 rfl rfl ?_
  obtain ⟨fs, q1, e1, e2, h⟩ := h
  refine gG_gr dX9_spout_1 fl_X9_15 ⟨fs, q1, e1, e2, ?_⟩
  refine gG_iload_n dX9_spout_4 rfl rfl ?_
  refine gG_aload_n dX9_spout_5 rfl rfl ?_
  refine gG_iload_n dX9_spout_6 rfl rfl ?_
  obtain ⟨hrc, d2, P2, hdd, hC, h⟩ := h
  refine gG_cvi (As := [.int (i2)]) (st := [.int (i2), .ref (q1)]) dX9_spout_7 mV_X9_58 hdd hrc rfl rfl (Nat.le_of_ble_eq_true rfl) (Nat.le_refl _) ⟨Nat.le_refl _, Nat.le_refl _⟩ hC (fun H2 x9 hp => ?_)
  obtain ⟨b3, rfl, hp⟩ := hp
  have h := h H2 b3 hp
  refine gG_if_eq (tgt := 17) dX9_spout_10 (by decide) (fun c => ?_) (fun c => ?_)
  · have h := h.1 (g_b_f c)
    refine gG_aload_n dX9_spout_17 rfl rfl ?_
    obtain ⟨fs, q4, e1, e2, h⟩ := h
    refine gG_gr dX9_spout_18 fl_X9_9 ⟨fs, q4, e1, e2, ?_⟩
    refine gG_iload_n dX9_spout_21 rfl rfl ?_
    obtain ⟨m0, f0, e1, e2, h⟩ := h
    refine gG_iald dX9_spout_22 ⟨m0, f0, e1, e2, ?_⟩
    obtain ⟨x5, eH⟩ : ∃ z, z = f0 (Int32.toNatClampNeg (i2)) := ⟨_, rfl⟩
    rw [← eH] at h ⊢
    refine gG_aload_n dX9_spout_23 rfl rfl ?_
    refine gG_iload_n dX9_spout_24 rfl rfl ?_
    obtain ⟨hrc, d2, P2, hdd, hC, h⟩ := h
    refine gG_cvi (As := [.int (i2)]) (st := [.int (x5), .int (i2), .ref (q1)]) dX9_spout_25 mV_X9_95 hdd hrc rfl rfl (Nat.le_of_ble_eq_true rfl) (Nat.le_refl _) ⟨Nat.le_refl _, Nat.le_refl _⟩ hC (fun H6 x7 hp => ?_)
    have h := h H6 x7 hp
    refine gG_min dX9_spout_28 lk_X9_52 st_min ini_Math co_min hd1 (Nat.le_of_ble_eq_true rfl) (Nat.le_refl _) (Nat.le_refl _) ?_
    obtain ⟨m0, f0, e1, e2, h⟩ := h
    refine gG_iast dX9_spout_31 ⟨m0, f0, e1, e2, ?_⟩
    obtain ⟨H8, eH⟩ : ∃ z, z = va_up H6 (q1) (.inl (0, m0, .inl (upd f0 (Int32.toNatClampNeg (i2)) ((if x7 < x5 then x7 else x5))))) := ⟨_, rfl⟩
    rw [← eH] at h ⊢
    refine gG_locals ?_ h
    exact ⟨rfl, ⟨rfl, trivial⟩⟩
  · have h := h.2 (g_b_t c)
    refine gG_iconst (v := 0) dX9_spout_13 (by decide) ?_
    refine gG_goto (tgt := 31) dX9_spout_14 (by decide) ?_
    obtain ⟨m0, f0, e1, e2, h⟩ := h
    refine gG_iast dX9_spout_31 ⟨m0, f0, e1, e2, ?_⟩
    obtain ⟨H9, eH⟩ : ∃ z, z = va_up H2 (q1) (.inl (0, m0, .inl (upd f0 (Int32.toNatClampNeg (i2)) ((0 : Int32))))) := ⟨_, rfl⟩
    rw [← eH] at h ⊢
    refine gG_locals ?_ h
    exact ⟨rfl, ⟨rfl, trivial⟩⟩
theorem kX9_spout_32 {d n : Nat} {H : gHp} {P : gHp → Prop} {a0 : Nat} {i2 : Int32} (h : g_gr H (a0) 9 2 (fun q1 => g_al 0 H (q1) (i2) (fun x2 => g_gr H (a0) 9 3 (fun q3 => g_al 0 H (q3) (i2) (fun x4 => g_as 0 H (q1) (i2) ((x2 - x4)) (fun H5 => P H5)))))) : gG d mX9_spout 0 0 (g_Xv mX9_spout n 0 0 P) 32 n H [some (.ref (a0)), none, some (.int (i2))] [] 0 0 := by
  refine gG_aload_n dX9_spout_32 rfl rfl ?_
  obtain ⟨fs, q1, e1, e2, h⟩ := h
  refine gG_gr dX9_spout_33 fl_X9_9 ⟨fs, q1, e1, e2, ?_⟩
  refine gG_iload_n dX9_spout_36 rfl rfl ?_
  refine gG_dup2 dX9_spout_37 rfl rfl ?_
  obtain ⟨m0, f0, e1, e2, h⟩ := h
  refine gG_iald dX9_spout_38 ⟨m0, f0, e1, e2, ?_⟩
  obtain ⟨x2, eH⟩ : ∃ z, z = f0 (Int32.toNatClampNeg (i2)) := ⟨_, rfl⟩
  rw [← eH] at h ⊢
  refine gG_aload_n dX9_spout_39 rfl rfl ?_
  obtain ⟨fs, q3, e1, e2, h⟩ := h
  refine gG_gr dX9_spout_40 fl_X9_15 ⟨fs, q3, e1, e2, ?_⟩
  refine gG_iload_n dX9_spout_43 rfl rfl ?_
  obtain ⟨m0, f0, e1, e2, h⟩ := h
  refine gG_iald dX9_spout_44 ⟨m0, f0, e1, e2, ?_⟩
  obtain ⟨x4, eH⟩ : ∃ z, z = f0 (Int32.toNatClampNeg (i2)) := ⟨_, rfl⟩
  rw [← eH] at h ⊢
  refine gG_isub dX9_spout_45 ?_
  obtain ⟨m0, f0, e1, e2, h⟩ := h
  refine gG_iast dX9_spout_46 ⟨m0, f0, e1, e2, ?_⟩
  obtain ⟨H5, eH⟩ : ∃ z, z = va_up H (q1) (.inl (0, m0, .inl (upd f0 (Int32.toNatClampNeg (i2)) ((x2 - x4))))) := ⟨_, rfl⟩
  rw [← eH] at h ⊢
  exact gG_exit ⟨rfl, rfl, rfl, dX9_spout_47, rfl, h⟩

theorem kX9_soundingNow_0 {d n : Nat} {H : gHp} {P : gHp → Int32 → Prop} {a0 : Nat} {a1 : Nat} {i2 : Int32} (h : gG d mX9_soundingNow 0 0 (g_Xj mX9_soundingNow n 0 0 P) 5 n H [some (.ref (a0)), some (.ref (a1)), some (.int (i2)), some (.int ((0 : Int32))), some (.int ((0 : Int32)))] [] (0) (0)) : gG d mX9_soundingNow 0 0 (g_Xj mX9_soundingNow n 0 0 P) 0 n H [some (.ref (a0)), some (.ref (a1)), some (.int (i2)), none, none] [] 0 0 := by
  refine gG_iconst (v := 0) dX9_soundingNow_0 (by decide) ?_
  refine gG_istore_n dX9_soundingNow_1 rfl (Nat.le_of_ble_eq_true rfl) ?_
  refine gG_iconst (v := 0) dX9_soundingNow_2 (by decide) ?_
  refine gG_istore dX9_soundingNow_3 (Nat.le_of_ble_eq_true rfl) ?_
  refine gG_locals ?_ h
  exact ⟨rfl, ⟨rfl, ⟨rfl, ⟨rfl, ⟨rfl, trivial⟩⟩⟩⟩⟩
theorem kX9_soundingNow_5 {d n : Nat} {H : gHp} {P : gHp → Int32 → Prop} {a0 : Nat} {a1 : Nat} {i2 : Int32} {i3 : Int32} {i4 : Int32} (h : g_gi H (a1) 1 0 (fun x1 => (x1 ≤ i4 → P H (i3)) ∧ (¬ (x1 ≤ i4) → g_gr H (a1) 1 13 (fun q2 => g_gr H (a0) 9 3 (fun q3 => g_al 0 H (q3) (i4) (fun x4 => g_gr H (a0) 9 2 (fun q5 => g_al 0 H (q5) (i4) (fun x6 => g_gr H (a1) 1 3 (fun q7 => g_al 0 H (q7) (i4) (fun x8 => (∃ fs, H (q2) = .inr (3, fs)) ∧ g_ci d mX3_valueFor n H [.ref (q2), .int (x4), .int (x6), .int (x8), .int (i2)] (fun H9 x10 => (x10 = 0 → gG d mX9_soundingNow 0 0 (g_Xj mX9_soundingNow n 0 0 P) 5 n H9 [some (.ref (a0)), some (.ref (a1)), some (.int (i2)), some (.int (i3)), some (.int ((i4 + 1)))] [] (0) (0)) ∧ (¬ (x10 = 0) → gG d mX9_soundingNow 0 0 (g_Xj mX9_soundingNow n 0 0 P) 5 n H9 [some (.ref (a0)), some (.ref (a1)), some (.int (i2)), some (.int ((i3 ||| ((1 : Int32) <<< (i4 &&& 31))))), some (.int ((i4 + 1)))] [] (0) (0))))))))))))) : gG d mX9_soundingNow 0 0 (g_Xj mX9_soundingNow n 0 0 P) 5 n H [some (.ref (a0)), some (.ref (a1)), some (.int (i2)), some (.int (i3)), some (.int (i4))] [] 0 0 := by
  refine gG_iload dX9_soundingNow_5 rfl ?_
  refine gG_aload_n dX9_soundingNow_7 rfl rfl ?_
  obtain ⟨fs, x1, e1, e2, h⟩ := h
  refine gG_gi dX9_soundingNow_8 fl_X9_65 ⟨fs, x1, e1, e2, ?_⟩
  refine gG_ic_ge (tgt := 59) dX9_soundingNow_11 (by decide) (fun c => ?_) (fun c => ?_)
  · have h := h.1 c
    refine gG_iload_n dX9_soundingNow_59 rfl rfl ?_
    exact gG_exit ⟨rfl, rfl, rfl, dX9_soundingNow_60, _, rfl, h⟩
  · have h := h.2 c
    refine gG_aload_n dX9_soundingNow_14 rfl rfl ?_
    obtain ⟨fs, q2, e1, e2, h⟩ := h
    refine gG_gr dX9_soundingNow_15 fl_X9_98 ⟨fs, q2, e1, e2, ?_⟩
    refine gG_aload_n dX9_soundingNow_18 rfl rfl ?_
    obtain ⟨fs, q3, e1, e2, h⟩ := h
    refine gG_gr dX9_soundingNow_19 fl_X9_15 ⟨fs, q3, e1, e2, ?_⟩
    refine gG_iload dX9_soundingNow_22 rfl ?_
    obtain ⟨m0, f0, e1, e2, h⟩ := h
    refine gG_iald dX9_soundingNow_24 ⟨m0, f0, e1, e2, ?_⟩
    obtain ⟨x4, eH⟩ : ∃ z, z = f0 (Int32.toNatClampNeg (i4)) := ⟨_, rfl⟩
    rw [← eH] at h ⊢
    refine gG_aload_n dX9_soundingNow_25 rfl rfl ?_
    obtain ⟨fs, q5, e1, e2, h⟩ := h
    refine gG_gr dX9_soundingNow_26 fl_X9_9 ⟨fs, q5, e1, e2, ?_⟩
    refine gG_iload dX9_soundingNow_29 rfl ?_
    obtain ⟨m0, f0, e1, e2, h⟩ := h
    refine gG_iald dX9_soundingNow_31 ⟨m0, f0, e1, e2, ?_⟩
    obtain ⟨x6, eH⟩ : ∃ z, z = f0 (Int32.toNatClampNeg (i4)) := ⟨_, rfl⟩
    rw [← eH] at h ⊢
    refine gG_aload_n dX9_soundingNow_32 rfl rfl ?_
    obtain ⟨fs, q7, e1, e2, h⟩ := h
    refine gG_gr dX9_soundingNow_33 fl_X9_102 ⟨fs, q7, e1, e2, ?_⟩
    refine gG_iload dX9_soundingNow_36 rfl ?_
    obtain ⟨m0, f0, e1, e2, h⟩ := h
    refine gG_iald dX9_soundingNow_38 ⟨m0, f0, e1, e2, ?_⟩
    obtain ⟨x8, eH⟩ : ∃ z, z = f0 (Int32.toNatClampNeg (i4)) := ⟨_, rfl⟩
    rw [← eH] at h ⊢
    refine gG_iload_n dX9_soundingNow_39 rfl rfl ?_
    obtain ⟨hrc, d2, P2, hdd, hC, h⟩ := h
    refine gG_cvi (As := [.int (x4), .int (x6), .int (x8), .int (i2)]) (st := []) dX9_soundingNow_40 mV_X9_105 hdd hrc rfl rfl (Nat.le_of_ble_eq_true rfl) (Nat.le_refl _) ⟨Nat.le_refl _, Nat.le_refl _⟩ hC (fun H9 x10 hp => ?_)
    have h := h H9 x10 hp
    refine gG_if_eq (tgt := 53) dX9_soundingNow_43 (by decide) (fun c => ?_) (fun c => ?_)
    · have h := h.1 c
      refine gG_iinc (v := i4 + 1) dX9_soundingNow_53 rfl rfl (Nat.le_of_ble_eq_true rfl) ?_
      refine gG_goto (tgt := 5) dX9_soundingNow_56 (by decide) ?_
      refine gG_locals ?_ h
      exact ⟨rfl, ⟨rfl, ⟨rfl, ⟨rfl, ⟨rfl, trivial⟩⟩⟩⟩⟩
    · have h := h.2 c
      refine gG_iload_n dX9_soundingNow_46 rfl rfl ?_
      refine gG_iconst (v := 1) dX9_soundingNow_47 (by decide) ?_
      refine gG_iload dX9_soundingNow_48 rfl ?_
      refine gG_ishl dX9_soundingNow_50 ?_
      refine gG_ior dX9_soundingNow_51 ?_
      refine gG_istore_n dX9_soundingNow_52 rfl (Nat.le_of_ble_eq_true rfl) ?_
      refine gG_iinc (v := i4 + 1) dX9_soundingNow_53 rfl rfl (Nat.le_of_ble_eq_true rfl) ?_
      refine gG_goto (tgt := 5) dX9_soundingNow_56 (by decide) ?_
      refine gG_locals ?_ h
      exact ⟨rfl, ⟨rfl, ⟨rfl, ⟨rfl, ⟨rfl, trivial⟩⟩⟩⟩⟩

theorem kX9_allWater_0 {d n : Nat} {H : gHp} {P : gHp → Int32 → Prop} {a0 : Nat} {i1 : Int32} (h : gG d mX9_allWater 0 0 (g_Xj mX9_allWater n 0 0 P) 4 n H [some (.ref (a0)), some (.int (i1)), some (.int ((0 : Int32))), some (.int ((0 : Int32)))] [] (0) (0)) : gG d mX9_allWater 0 0 (g_Xj mX9_allWater n 0 0 P) 0 n H [some (.ref (a0)), some (.int (i1)), none, none] [] 0 0 := by
  refine gG_iconst (v := 0) dX9_allWater_0 (by decide) ?_
  refine gG_istore_n dX9_allWater_1 rfl (Nat.le_of_ble_eq_true rfl) ?_
  refine gG_iconst (v := 0) dX9_allWater_2 (by decide) ?_
  refine gG_istore_n dX9_allWater_3 rfl (Nat.le_of_ble_eq_true rfl) ?_
  refine gG_locals ?_ h
  exact ⟨rfl, ⟨rfl, ⟨rfl, ⟨rfl, trivial⟩⟩⟩⟩
theorem kX9_allWater_4 {d n : Nat} {H : gHp} {P : gHp → Int32 → Prop} {a0 : Nat} {i1 : Int32} {i2 : Int32} {i3 : Int32} (h : (i1 ≤ i3 → P H (i2)) ∧ (¬ (i1 ≤ i3) → ((7 : Int32) ≤ i3 → P H (i2)) ∧ (¬ ((7 : Int32) ≤ i3) → g_gr H (a0) 9 2 (fun q1 => g_al 0 H (q1) (i3) (fun x2 => gG d mX9_allWater 0 0 (g_Xj mX9_allWater n 0 0 P) 4 n H [some (.ref (a0)), some (.int (i1)), some (.int ((i2 + x2))), some (.int ((i3 + 1)))] [] (0) (0)))))) : gG d mX9_allWater 0 0 (g_Xj mX9_allWater n 0 0 P) 4 n H [some (.ref (a0)), some (.int (i1)), some (.int (i2)), some (.int (i3))] [] 0 0 := by
  refine gG_iload_n dX9_allWater_4 rfl rfl ?_
  refine gG_iload_n dX9_allWater_5 rfl rfl ?_
  refine gG_ic_ge (tgt := 30) dX9_allWater_6 (by decide) (fun c => ?_) (fun c => ?_)
  · have h := h.1 c
    refine gG_iload_n dX9_allWater_30 rfl rfl ?_
    exact gG_exit ⟨rfl, rfl, rfl, dX9_allWater_31, _, rfl, h⟩
  · have h := h.2 c
    refine gG_iload_n dX9_allWater_9 rfl rfl ?_
    refine gG_bipush (v := 7) dX9_allWater_10 (by decide) ?_
    refine gG_ic_ge (tgt := 30) dX9_allWater_12 (by decide) (fun c => ?_) (fun c => ?_)
    · have h := h.1 c
      refine gG_iload_n dX9_allWater_30 rfl rfl ?_
      exact gG_exit ⟨rfl, rfl, rfl, dX9_allWater_31, _, rfl, h⟩
    · have h := h.2 c
      refine gG_iload_n dX9_allWater_15 rfl rfl ?_
      refine gG_aload_n dX9_allWater_16 rfl rfl ?_
      obtain ⟨fs, q1, e1, e2, h⟩ := h
      refine gG_gr dX9_allWater_17 fl_X9_9 ⟨fs, q1, e1, e2, ?_⟩
      refine gG_iload_n dX9_allWater_20 rfl rfl ?_
      obtain ⟨m0, f0, e1, e2, h⟩ := h
      refine gG_iald dX9_allWater_21 ⟨m0, f0, e1, e2, ?_⟩
      obtain ⟨x2, eH⟩ : ∃ z, z = f0 (Int32.toNatClampNeg (i3)) := ⟨_, rfl⟩
      rw [← eH] at h ⊢
      refine gG_iadd dX9_allWater_22 ?_
      refine gG_istore_n dX9_allWater_23 rfl (Nat.le_of_ble_eq_true rfl) ?_
      refine gG_iinc (v := i3 + 1) dX9_allWater_24 rfl rfl (Nat.le_of_ble_eq_true rfl) ?_
      refine gG_goto (tgt := 4) dX9_allWater_27 (by decide) ?_
      refine gG_locals ?_ h
      exact ⟨rfl, ⟨rfl, ⟨rfl, ⟨rfl, trivial⟩⟩⟩⟩

theorem kX9_flowsUnlike_0 {d n : Nat} {H : gHp} {P : gHp → Int32 → Prop} {a0 : Nat} {i1 : Int32} {i2 : Int32} (h : gG d mX9_flowsUnlike 0 0 (g_Xj mX9_flowsUnlike n 0 0 P) 5 n H [some (.ref (a0)), some (.int (i1)), some (.int (i2)), some (.int ((0 : Int32))), some (.int ((0 : Int32)))] [] (0) (0)) : gG d mX9_flowsUnlike 0 0 (g_Xj mX9_flowsUnlike n 0 0 P) 0 n H [some (.ref (a0)), some (.int (i1)), some (.int (i2)), none, none] [] 0 0 := by
  refine gG_iconst (v := 0) dX9_flowsUnlike_0 (by decide) ?_
  refine gG_istore_n dX9_flowsUnlike_1 rfl (Nat.le_of_ble_eq_true rfl) ?_
  refine gG_iconst (v := 0) dX9_flowsUnlike_2 (by decide) ?_
  refine gG_istore dX9_flowsUnlike_3 (Nat.le_of_ble_eq_true rfl) ?_
  refine gG_locals ?_ h
  exact ⟨rfl, ⟨rfl, ⟨rfl, ⟨rfl, ⟨rfl, trivial⟩⟩⟩⟩⟩
theorem kX9_flowsUnlike_5 {d n : Nat} {H : gHp} {P : gHp → Int32 → Prop} {a0 : Nat} {i1 : Int32} {i2 : Int32} {i3 : Int32} {i4 : Int32} (h : (i2 ≤ i4 → P H (i3)) ∧ (¬ (i2 ≤ i4) → ((7 : Int32) ≤ i4 → P H (i3)) ∧ (¬ ((7 : Int32) ≤ i4) → g_gr H (a0) 9 3 (fun q1 => g_al 0 H (q1) (i4) (fun x2 => g_gr H (a0) 9 3 (fun q3 => g_al 0 H (q3) (i1) (fun x4 => (x2 = x4 → gG d mX9_flowsUnlike 0 0 (g_Xj mX9_flowsUnlike n 0 0 P) 5 n H [some (.ref (a0)), some (.int (i1)), some (.int (i2)), some (.int (i3)), some (.int ((i4 + 1)))] [] (0) (0)) ∧ (¬ (x2 = x4) → gG d mX9_flowsUnlike 0 0 (g_Xj mX9_flowsUnlike n 0 0 P) 5 n H [some (.ref (a0)), some (.int (i1)), some (.int (i2)), some (.int ((i3 ||| ((1 : Int32) <<< (i4 &&& 31))))), some (.int ((i4 + 1)))] [] (0) (0))))))))) : gG d mX9_flowsUnlike 0 0 (g_Xj mX9_flowsUnlike n 0 0 P) 5 n H [some (.ref (a0)), some (.int (i1)), some (.int (i2)), some (.int (i3)), some (.int (i4))] [] 0 0 := by
  refine gG_iload dX9_flowsUnlike_5 rfl ?_
  refine gG_iload_n dX9_flowsUnlike_7 rfl rfl ?_
  refine gG_ic_ge (tgt := 47) dX9_flowsUnlike_8 (by decide) (fun c => ?_) (fun c => ?_)
  · have h := h.1 c
    refine gG_iload_n dX9_flowsUnlike_47 rfl rfl ?_
    exact gG_exit ⟨rfl, rfl, rfl, dX9_flowsUnlike_48, _, rfl, h⟩
  · have h := h.2 c
    refine gG_iload dX9_flowsUnlike_11 rfl ?_
    refine gG_bipush (v := 7) dX9_flowsUnlike_13 (by decide) ?_
    refine gG_ic_ge (tgt := 47) dX9_flowsUnlike_15 (by decide) (fun c => ?_) (fun c => ?_)
    · have h := h.1 c
      refine gG_iload_n dX9_flowsUnlike_47 rfl rfl ?_
      exact gG_exit ⟨rfl, rfl, rfl, dX9_flowsUnlike_48, _, rfl, h⟩
    · have h := h.2 c
      refine gG_aload_n dX9_flowsUnlike_18 rfl rfl ?_
      obtain ⟨fs, q1, e1, e2, h⟩ := h
      refine gG_gr dX9_flowsUnlike_19 fl_X9_15 ⟨fs, q1, e1, e2, ?_⟩
      refine gG_iload dX9_flowsUnlike_22 rfl ?_
      obtain ⟨m0, f0, e1, e2, h⟩ := h
      refine gG_iald dX9_flowsUnlike_24 ⟨m0, f0, e1, e2, ?_⟩
      obtain ⟨x2, eH⟩ : ∃ z, z = f0 (Int32.toNatClampNeg (i4)) := ⟨_, rfl⟩
      rw [← eH] at h ⊢
      refine gG_aload_n dX9_flowsUnlike_25 rfl rfl ?_
      obtain ⟨fs, q3, e1, e2, h⟩ := h
      refine gG_gr dX9_flowsUnlike_26 fl_X9_15 ⟨fs, q3, e1, e2, ?_⟩
      refine gG_iload_n dX9_flowsUnlike_29 rfl rfl ?_
      obtain ⟨m0, f0, e1, e2, h⟩ := h
      refine gG_iald dX9_flowsUnlike_30 ⟨m0, f0, e1, e2, ?_⟩
      obtain ⟨x4, eH⟩ : ∃ z, z = f0 (Int32.toNatClampNeg (i1)) := ⟨_, rfl⟩
      rw [← eH] at h ⊢
      refine gG_ic_eq (tgt := 41) dX9_flowsUnlike_31 (by decide) (fun c => ?_) (fun c => ?_)
      · have h := h.1 c
        refine gG_iinc (v := i4 + 1) dX9_flowsUnlike_41 rfl rfl (Nat.le_of_ble_eq_true rfl) ?_
        refine gG_goto (tgt := 5) dX9_flowsUnlike_44 (by decide) ?_
        refine gG_locals ?_ h
        exact ⟨rfl, ⟨rfl, ⟨rfl, ⟨rfl, ⟨rfl, trivial⟩⟩⟩⟩⟩
      · have h := h.2 c
        refine gG_iload_n dX9_flowsUnlike_34 rfl rfl ?_
        refine gG_iconst (v := 1) dX9_flowsUnlike_35 (by decide) ?_
        refine gG_iload dX9_flowsUnlike_36 rfl ?_
        refine gG_ishl dX9_flowsUnlike_38 ?_
        refine gG_ior dX9_flowsUnlike_39 ?_
        refine gG_istore_n dX9_flowsUnlike_40 rfl (Nat.le_of_ble_eq_true rfl) ?_
        refine gG_iinc (v := i4 + 1) dX9_flowsUnlike_41 rfl rfl (Nat.le_of_ble_eq_true rfl) ?_
        refine gG_goto (tgt := 5) dX9_flowsUnlike_44 (by decide) ?_
        refine gG_locals ?_ h
        exact ⟨rfl, ⟨rfl, ⟨rfl, ⟨rfl, ⟨rfl, trivial⟩⟩⟩⟩⟩

theorem kX9_signsLike_0 {d n : Nat} {H : gHp} {P : gHp → Int32 → Prop} {a0 : Nat} {i1 : Int32} (h : gG d mX9_signsLike 0 0 (g_Xj mX9_signsLike n 0 0 P) 4 n H [some (.ref (a0)), some (.int (i1)), some (.int ((0 : Int32))), some (.int ((0 : Int32)))] [] (0) (0)) : gG d mX9_signsLike 0 0 (g_Xj mX9_signsLike n 0 0 P) 0 n H [some (.ref (a0)), some (.int (i1)), none, none] [] 0 0 := by
  refine gG_iconst (v := 0) dX9_signsLike_0 (by decide) ?_
  refine gG_istore_n dX9_signsLike_1 rfl (Nat.le_of_ble_eq_true rfl) ?_
  refine gG_iconst (v := 0) dX9_signsLike_2 (by decide) ?_
  refine gG_istore_n dX9_signsLike_3 rfl (Nat.le_of_ble_eq_true rfl) ?_
  refine gG_locals ?_ h
  exact ⟨rfl, ⟨rfl, ⟨rfl, ⟨rfl, trivial⟩⟩⟩⟩
theorem kX9_signsLike_4 {d n : Nat} {H : gHp} {P : gHp → Int32 → Prop} {a0 : Nat} {i1 : Int32} {i2 : Int32} {i3 : Int32} (h : g_gi H (a0) 9 9 (fun x1 => (x1 ≤ i3 → P H (i2)) ∧ (¬ (x1 ≤ i3) → g_gr H (a0) 9 8 (fun q2 => g_al 0 H (q2) (i3) (fun x3 => (¬ (x3 = i1) → gG d mX9_signsLike 0 0 (g_Xj mX9_signsLike n 0 0 P) 4 n H [some (.ref (a0)), some (.int (i1)), some (.int (i2)), some (.int ((i3 + 1)))] [] (0) (0)) ∧ (x3 = i1 → gG d mX9_signsLike 0 0 (g_Xj mX9_signsLike n 0 0 P) 4 n H [some (.ref (a0)), some (.int (i1)), some (.int ((i2 + 1))), some (.int ((i3 + 1)))] [] (0) (0))))))) : gG d mX9_signsLike 0 0 (g_Xj mX9_signsLike n 0 0 P) 4 n H [some (.ref (a0)), some (.int (i1)), some (.int (i2)), some (.int (i3))] [] 0 0 := by
  refine gG_iload_n dX9_signsLike_4 rfl rfl ?_
  refine gG_aload_n dX9_signsLike_5 rfl rfl ?_
  obtain ⟨fs, x1, e1, e2, h⟩ := h
  refine gG_gi dX9_signsLike_6 fl_X9_40 ⟨fs, x1, e1, e2, ?_⟩
  refine gG_ic_ge (tgt := 31) dX9_signsLike_9 (by decide) (fun c => ?_) (fun c => ?_)
  · have h := h.1 c
    refine gG_iload_n dX9_signsLike_31 rfl rfl ?_
    exact gG_exit ⟨rfl, rfl, rfl, dX9_signsLike_32, _, rfl, h⟩
  · have h := h.2 c
    refine gG_aload_n dX9_signsLike_12 rfl rfl ?_
    obtain ⟨fs, q2, e1, e2, h⟩ := h
    refine gG_gr dX9_signsLike_13 fl_X9_18 ⟨fs, q2, e1, e2, ?_⟩
    refine gG_iload_n dX9_signsLike_16 rfl rfl ?_
    obtain ⟨m0, f0, e1, e2, h⟩ := h
    refine gG_iald dX9_signsLike_17 ⟨m0, f0, e1, e2, ?_⟩
    obtain ⟨x3, eH⟩ : ∃ z, z = f0 (Int32.toNatClampNeg (i3)) := ⟨_, rfl⟩
    rw [← eH] at h ⊢
    refine gG_iload_n dX9_signsLike_18 rfl rfl ?_
    refine gG_ic_ne (tgt := 25) dX9_signsLike_19 (by decide) (fun c => ?_) (fun c => ?_)
    · have h := h.1 c
      refine gG_iinc (v := i3 + 1) dX9_signsLike_25 rfl rfl (Nat.le_of_ble_eq_true rfl) ?_
      refine gG_goto (tgt := 4) dX9_signsLike_28 (by decide) ?_
      refine gG_locals ?_ h
      exact ⟨rfl, ⟨rfl, ⟨rfl, ⟨rfl, trivial⟩⟩⟩⟩
    · have h := h.2 c
      refine gG_iinc (v := i2 + 1) dX9_signsLike_22 rfl rfl (Nat.le_of_ble_eq_true rfl) ?_
      refine gG_iinc (v := i3 + 1) dX9_signsLike_25 rfl rfl (Nat.le_of_ble_eq_true rfl) ?_
      refine gG_goto (tgt := 4) dX9_signsLike_28 (by decide) ?_
      refine gG_locals ?_ h
      exact ⟨rfl, ⟨rfl, ⟨rfl, ⟨rfl, trivial⟩⟩⟩⟩

theorem kX9_placeOf_0 {d n : Nat} {H : gHp} {P : gHp → Int32 → Prop} {a0 : Nat} {a1 : Nat} (h : g_gi H (a1) 10 0 (fun x1 => (¬ (x1 = 0) → gG d mX9_placeOf 0 0 (g_Xj mX9_placeOf n 0 0 P) 11 n H [some (.ref (a0)), some (.ref (a1)), some (.int ((0 : Int32)))] [] (0) (0)) ∧ (x1 = 0 → P H ((-1 : Int32))))) : gG d mX9_placeOf 0 0 (g_Xj mX9_placeOf n 0 0 P) 0 n H [some (.ref (a0)), some (.ref (a1)), none] [] 0 0 := by
  refine gG_aload_n dX9_placeOf_0 rfl rfl ?_
  obtain ⟨fs, x1, e1, e2, h⟩ := h
  refine gG_gi dX9_placeOf_1 fl_X9_111 ⟨fs, x1, e1, e2, ?_⟩
  refine gG_if_ne (tgt := 9) dX9_placeOf_4 (by decide) (fun c => ?_) (fun c => ?_)
  · have h := h.1 c
    refine gG_iconst (v := 0) dX9_placeOf_9 (by decide) ?_
    refine gG_istore_n dX9_placeOf_10 rfl (Nat.le_of_ble_eq_true rfl) ?_
    refine gG_locals ?_ h
    exact ⟨rfl, ⟨rfl, ⟨rfl, trivial⟩⟩⟩
  · have h := h.2 c
    refine gG_iconst (v := (-1)) dX9_placeOf_7 (by decide) ?_
    exact gG_exit ⟨rfl, rfl, rfl, dX9_placeOf_8, _, rfl, h⟩
theorem kX9_placeOf_11 {d n : Nat} {H : gHp} {P : gHp → Int32 → Prop} {a0 : Nat} {a1 : Nat} {i2 : Int32} (h : g_gi H (a1) 10 0 (fun x1 => g_gi H (a0) 9 9 (fun x2 => (x2 < (i2 + x1) → P H ((-1 : Int32))) ∧ (¬ (x2 < (i2 + x1)) → (∃ fs, H (a0) = .inr (9, fs)) ∧ g_cz d mX9_fitsAt n H [.ref (a0), .int (i2), .ref (a1), .int ((0 : Int32))] (fun H3 b4 => (b4 = false → gG d mX9_placeOf 0 0 (g_Xj mX9_placeOf n 0 0 P) 11 n H3 [some (.ref (a0)), some (.ref (a1)), some (.int ((i2 + 1)))] [] (0) (0)) ∧ (b4 = true → P H3 (i2))))))) : gG d mX9_placeOf 0 0 (g_Xj mX9_placeOf n 0 0 P) 11 n H [some (.ref (a0)), some (.ref (a1)), some (.int (i2))] [] 0 0 := by
  refine gG_iload_n dX9_placeOf_11 rfl rfl ?_
  refine gG_aload_n dX9_placeOf_12 rfl rfl ?_
  obtain ⟨fs, x1, e1, e2, h⟩ := h
  refine gG_gi dX9_placeOf_13 fl_X9_111 ⟨fs, x1, e1, e2, ?_⟩
  refine gG_iadd dX9_placeOf_16 ?_
  refine gG_aload_n dX9_placeOf_17 rfl rfl ?_
  obtain ⟨fs, x2, e1, e2, h⟩ := h
  refine gG_gi dX9_placeOf_18 fl_X9_40 ⟨fs, x2, e1, e2, ?_⟩
  refine gG_ic_gt (tgt := 42) dX9_placeOf_21 (by decide) (fun c => ?_) (fun c => ?_)
  · have h := h.1 c
    refine gG_iconst (v := (-1)) dX9_placeOf_42 (by decide) ?_
    exact gG_exit ⟨rfl, rfl, rfl, dX9_placeOf_43, _, rfl, h⟩
  · have h := h.2 c
    refine gG_aload_n dX9_placeOf_24 rfl rfl ?_
    refine gG_iload_n dX9_placeOf_25 rfl rfl ?_
    refine gG_aload_n dX9_placeOf_26 rfl rfl ?_
    refine gG_iconst (v := 0) dX9_placeOf_27 (by decide) ?_
    obtain ⟨hrc, d2, P2, hdd, hC, h⟩ := h
    refine gG_cvi (As := [.int (i2), .ref (a1), .int ((0 : Int32))]) (st := []) dX9_placeOf_28 mV_X9_116 hdd hrc rfl rfl (Nat.le_of_ble_eq_true rfl) (Nat.le_refl _) ⟨Nat.le_refl _, Nat.le_refl _⟩ hC (fun H3 x9 hp => ?_)
    obtain ⟨b4, rfl, hp⟩ := hp
    have h := h H3 b4 hp
    refine gG_if_eq (tgt := 36) dX9_placeOf_31 (by decide) (fun c => ?_) (fun c => ?_)
    · have h := h.1 (g_b_f c)
      refine gG_iinc (v := i2 + 1) dX9_placeOf_36 rfl rfl (Nat.le_of_ble_eq_true rfl) ?_
      refine gG_goto (tgt := 11) dX9_placeOf_39 (by decide) ?_
      refine gG_locals ?_ h
      exact ⟨rfl, ⟨rfl, ⟨rfl, trivial⟩⟩⟩
    · have h := h.2 (g_b_t c)
      refine gG_iload_n dX9_placeOf_34 rfl rfl ?_
      exact gG_exit ⟨rfl, rfl, rfl, dX9_placeOf_35, _, rfl, h⟩

theorem kX9_placesFor_0 {d n : Nat} {H : gHp} {P : gHp → Int32 → Prop} {a0 : Nat} {a1 : Nat} (h : gG d mX9_placesFor 0 0 (g_Xj mX9_placesFor n 0 0 P) 4 n H [some (.ref (a0)), some (.ref (a1)), some (.int ((0 : Int32))), some (.int ((0 : Int32)))] [] (0) (0)) : gG d mX9_placesFor 0 0 (g_Xj mX9_placesFor n 0 0 P) 0 n H [some (.ref (a0)), some (.ref (a1)), none, none] [] 0 0 := by
  refine gG_iconst (v := 0) dX9_placesFor_0 (by decide) ?_
  refine gG_istore_n dX9_placesFor_1 rfl (Nat.le_of_ble_eq_true rfl) ?_
  refine gG_iconst (v := 0) dX9_placesFor_2 (by decide) ?_
  refine gG_istore_n dX9_placesFor_3 rfl (Nat.le_of_ble_eq_true rfl) ?_
  refine gG_locals ?_ h
  exact ⟨rfl, ⟨rfl, ⟨rfl, ⟨rfl, trivial⟩⟩⟩⟩
theorem kX9_placesFor_4 {d n : Nat} {H : gHp} {P : gHp → Int32 → Prop} {a0 : Nat} {a1 : Nat} {i2 : Int32} {i3 : Int32} (h : g_gi H (a1) 10 0 (fun x1 => g_gi H (a0) 9 9 (fun x2 => (x2 < (i3 + x1) → P H (i2)) ∧ (¬ (x2 < (i3 + x1)) → (∃ fs, H (a0) = .inr (9, fs)) ∧ g_cz d mX9_fitsAt n H [.ref (a0), .int (i3), .ref (a1), .int ((1 : Int32))] (fun H3 b4 => (b4 = false → gG d mX9_placesFor 0 0 (g_Xj mX9_placesFor n 0 0 P) 4 n H3 [some (.ref (a0)), some (.ref (a1)), some (.int (i2)), some (.int ((i3 + 1)))] [] (0) (0)) ∧ (b4 = true → gG d mX9_placesFor 0 0 (g_Xj mX9_placesFor n 0 0 P) 4 n H3 [some (.ref (a0)), some (.ref (a1)), some (.int ((i2 + 1))), some (.int ((i3 + 1)))] [] (0) (0))))))) : gG d mX9_placesFor 0 0 (g_Xj mX9_placesFor n 0 0 P) 4 n H [some (.ref (a0)), some (.ref (a1)), some (.int (i2)), some (.int (i3))] [] 0 0 := by
  refine gG_iload_n dX9_placesFor_4 rfl rfl ?_
  refine gG_aload_n dX9_placesFor_5 rfl rfl ?_
  obtain ⟨fs, x1, e1, e2, h⟩ := h
  refine gG_gi dX9_placesFor_6 fl_X9_111 ⟨fs, x1, e1, e2, ?_⟩
  refine gG_iadd dX9_placesFor_9 ?_
  refine gG_aload_n dX9_placesFor_10 rfl rfl ?_
  obtain ⟨fs, x2, e1, e2, h⟩ := h
  refine gG_gi dX9_placesFor_11 fl_X9_40 ⟨fs, x2, e1, e2, ?_⟩
  refine gG_ic_gt (tgt := 36) dX9_placesFor_14 (by decide) (fun c => ?_) (fun c => ?_)
  · have h := h.1 c
    refine gG_iload_n dX9_placesFor_36 rfl rfl ?_
    exact gG_exit ⟨rfl, rfl, rfl, dX9_placesFor_37, _, rfl, h⟩
  · have h := h.2 c
    refine gG_aload_n dX9_placesFor_17 rfl rfl ?_
    refine gG_iload_n dX9_placesFor_18 rfl rfl ?_
    refine gG_aload_n dX9_placesFor_19 rfl rfl ?_
    refine gG_iconst (v := 1) dX9_placesFor_20 (by decide) ?_
    obtain ⟨hrc, d2, P2, hdd, hC, h⟩ := h
    refine gG_cvi (As := [.int (i3), .ref (a1), .int ((1 : Int32))]) (st := []) dX9_placesFor_21 mV_X9_116 hdd hrc rfl rfl (Nat.le_of_ble_eq_true rfl) (Nat.le_refl _) ⟨Nat.le_refl _, Nat.le_refl _⟩ hC (fun H3 x9 hp => ?_)
    obtain ⟨b4, rfl, hp⟩ := hp
    have h := h H3 b4 hp
    refine gG_if_eq (tgt := 30) dX9_placesFor_24 (by decide) (fun c => ?_) (fun c => ?_)
    · have h := h.1 (g_b_f c)
      refine gG_iinc (v := i3 + 1) dX9_placesFor_30 rfl rfl (Nat.le_of_ble_eq_true rfl) ?_
      refine gG_goto (tgt := 4) dX9_placesFor_33 (by decide) ?_
      refine gG_locals ?_ h
      exact ⟨rfl, ⟨rfl, ⟨rfl, ⟨rfl, trivial⟩⟩⟩⟩
    · have h := h.2 (g_b_t c)
      refine gG_iinc (v := i2 + 1) dX9_placesFor_27 rfl rfl (Nat.le_of_ble_eq_true rfl) ?_
      refine gG_iinc (v := i3 + 1) dX9_placesFor_30 rfl rfl (Nat.le_of_ble_eq_true rfl) ?_
      refine gG_goto (tgt := 4) dX9_placesFor_33 (by decide) ?_
      refine gG_locals ?_ h
      exact ⟨rfl, ⟨rfl, ⟨rfl, ⟨rfl, trivial⟩⟩⟩⟩

theorem kX9_fitsAt_0 {d n : Nat} {H : gHp} {P : gHp → Bool → Prop} {a0 : Nat} {i1 : Int32} {a2 : Nat} {i3 : Int32} (h : gG d mX9_fitsAt 0 0 (g_Xz mX9_fitsAt n 0 0 P) 3 n H [some (.ref (a0)), some (.int (i1)), some (.ref (a2)), some (.int (i3)), some (.int ((0 : Int32))), none, none] [] (0) (0)) : gG d mX9_fitsAt 0 0 (g_Xz mX9_fitsAt n 0 0 P) 0 n H [some (.ref (a0)), some (.int (i1)), some (.ref (a2)), some (.int (i3)), none, none, none] [] 0 0 := by
  refine gG_iconst (v := 0) dX9_fitsAt_0 (by decide) ?_
  refine gG_istore dX9_fitsAt_1 (Nat.le_of_ble_eq_true rfl) ?_
  refine gG_locals ?_ h
  exact ⟨rfl, ⟨rfl, ⟨rfl, ⟨rfl, ⟨rfl, trivial⟩⟩⟩⟩⟩
theorem kX9_fitsAt_3 {d n : Nat} {H : gHp} {P : gHp → Bool → Prop} {a0 : Nat} {i1 : Int32} {a2 : Nat} {i3 : Int32} {i4 : Int32} (h : g_gi H (a2) 10 0 (fun x1 => (x1 ≤ i4 → P H true) ∧ (¬ (x1 ≤ i4) → g_gr H (a0) 9 8 (fun q2 => g_al 0 H (q2) ((i1 + i4)) (fun x3 => g_gr H (a2) 10 1 (fun q4 => g_al 0 H (q4) (i4) (fun x5 => (x3 = x5 → gG d mX9_fitsAt 0 0 (g_Xz mX9_fitsAt n 0 0 P) 46 n H [some (.ref (a0)), some (.int (i1)), some (.ref (a2)), some (.int (i3)), some (.int (i4)), none, none] [] (0) (0)) ∧ (¬ (x3 = x5) → (i3 = 0 → P H false) ∧ (¬ (i3 = 0) → (¬ (x3 = (6 : Int32)) → P H false) ∧ (x3 = (6 : Int32) → gG d mX9_fitsAt 0 0 (g_Xz mX9_fitsAt n 0 0 P) 46 n H [some (.ref (a0)), some (.int (i1)), some (.ref (a2)), some (.int (i3)), some (.int (i4)), none, none] [] (0) (0))))))))))) : gG d mX9_fitsAt 0 0 (g_Xz mX9_fitsAt n 0 0 P) 3 n H [some (.ref (a0)), some (.int (i1)), some (.ref (a2)), some (.int (i3)), some (.int (i4)), none, none] [] 0 0 := by
  refine gG_iload dX9_fitsAt_3 rfl ?_
  refine gG_aload_n dX9_fitsAt_5 rfl rfl ?_
  obtain ⟨fs, x1, e1, e2, h⟩ := h
  refine gG_gi dX9_fitsAt_6 fl_X9_111 ⟨fs, x1, e1, e2, ?_⟩
  refine gG_ic_ge (tgt := 66) dX9_fitsAt_9 (by decide) (fun c => ?_) (fun c => ?_)
  · have h := h.1 c
    refine gG_iconst (v := 1) dX9_fitsAt_66 (by decide) ?_
    exact gG_exit ⟨rfl, rfl, rfl, dX9_fitsAt_67, true, rfl, h⟩
  · have h := h.2 c
    refine gG_aload_n dX9_fitsAt_12 rfl rfl ?_
    obtain ⟨fs, q2, e1, e2, h⟩ := h
    refine gG_gr dX9_fitsAt_13 fl_X9_18 ⟨fs, q2, e1, e2, ?_⟩
    refine gG_iload_n dX9_fitsAt_16 rfl rfl ?_
    refine gG_iload dX9_fitsAt_17 rfl ?_
    refine gG_iadd dX9_fitsAt_19 ?_
    obtain ⟨m0, f0, e1, e2, h⟩ := h
    refine gG_iald dX9_fitsAt_20 ⟨m0, f0, e1, e2, ?_⟩
    obtain ⟨x3, eH⟩ : ∃ z, z = f0 (Int32.toNatClampNeg ((i1 + i4))) := ⟨_, rfl⟩
    rw [← eH] at h ⊢
    refine gG_istore dX9_fitsAt_21 (Nat.le_of_ble_eq_true rfl) ?_
    refine gG_iload dX9_fitsAt_23 rfl ?_
    refine gG_aload_n dX9_fitsAt_25 rfl rfl ?_
    obtain ⟨fs, q4, e1, e2, h⟩ := h
    refine gG_gr dX9_fitsAt_26 fl_X9_120 ⟨fs, q4, e1, e2, ?_⟩
    refine gG_iload dX9_fitsAt_29 rfl ?_
    obtain ⟨m0, f0, e1, e2, h⟩ := h
    refine gG_iald dX9_fitsAt_31 ⟨m0, f0, e1, e2, ?_⟩
    obtain ⟨x5, eH⟩ : ∃ z, z = f0 (Int32.toNatClampNeg (i4)) := ⟨_, rfl⟩
    rw [← eH] at h ⊢
    refine gG_ic_eq (tgt := 46) dX9_fitsAt_32 (by decide) (fun c => ?_) (fun c => ?_)
    · have h := h.1 c
      refine gG_locals ?_ h
      exact ⟨rfl, ⟨rfl, ⟨rfl, ⟨rfl, ⟨rfl, trivial⟩⟩⟩⟩⟩
    · have h := h.2 c
      refine gG_iload_n dX9_fitsAt_35 rfl rfl ?_
      refine gG_if_eq (tgt := 50) dX9_fitsAt_36 (by decide) (fun c => ?_) (fun c => ?_)
      · have h := h.1 c
        refine gG_iconst (v := 0) dX9_fitsAt_50 (by decide) ?_
        refine gG_istore dX9_fitsAt_51 (Nat.le_of_ble_eq_true rfl) ?_
        refine gG_iload dX9_fitsAt_53 rfl ?_
        refine gG_if_ne (tgt := 60) dX9_fitsAt_55 (by decide) (fun c => absurd c (by decide)) (fun c => ?_)
        refine gG_iconst (v := 0) dX9_fitsAt_58 (by decide) ?_
        exact gG_exit ⟨rfl, rfl, rfl, dX9_fitsAt_59, false, rfl, h⟩
      · have h := h.2 c
        refine gG_iload dX9_fitsAt_39 rfl ?_
        refine gG_bipush (v := 6) dX9_fitsAt_41 (by decide) ?_
        refine gG_ic_ne (tgt := 50) dX9_fitsAt_43 (by decide) (fun c => ?_) (fun c => ?_)
        · have h := h.1 c
          refine gG_iconst (v := 0) dX9_fitsAt_50 (by decide) ?_
          refine gG_istore dX9_fitsAt_51 (Nat.le_of_ble_eq_true rfl) ?_
          refine gG_iload dX9_fitsAt_53 rfl ?_
          refine gG_if_ne (tgt := 60) dX9_fitsAt_55 (by decide) (fun c => absurd c (by decide)) (fun c => ?_)
          refine gG_iconst (v := 0) dX9_fitsAt_58 (by decide) ?_
          exact gG_exit ⟨rfl, rfl, rfl, dX9_fitsAt_59, false, rfl, h⟩
        · have h := h.2 c
          refine gG_locals ?_ h
          exact ⟨rfl, ⟨rfl, ⟨rfl, ⟨rfl, ⟨rfl, trivial⟩⟩⟩⟩⟩
theorem kX9_fitsAt_46 {d n : Nat} {H : gHp} {P : gHp → Bool → Prop} {a0 : Nat} {i1 : Int32} {a2 : Nat} {i3 : Int32} {i4 : Int32} (h : gG d mX9_fitsAt 0 0 (g_Xz mX9_fitsAt n 0 0 P) 3 n H [some (.ref (a0)), some (.int (i1)), some (.ref (a2)), some (.int (i3)), some (.int ((i4 + 1))), none, none] [] (0) (0)) : gG d mX9_fitsAt 0 0 (g_Xz mX9_fitsAt n 0 0 P) 46 n H [some (.ref (a0)), some (.int (i1)), some (.ref (a2)), some (.int (i3)), some (.int (i4)), none, none] [] 0 0 := by
  refine gG_iconst (v := 1) dX9_fitsAt_46 (by decide) ?_
  refine gG_goto (tgt := 51) dX9_fitsAt_47 (by decide) ?_
  refine gG_istore dX9_fitsAt_51 (Nat.le_of_ble_eq_true rfl) ?_
  refine gG_iload dX9_fitsAt_53 rfl ?_
  refine gG_if_ne (tgt := 60) dX9_fitsAt_55 (by decide) (fun c => ?_) (fun c => absurd c (by decide))
  refine gG_iinc (v := i4 + 1) dX9_fitsAt_60 rfl rfl (Nat.le_of_ble_eq_true rfl) ?_
  refine gG_goto (tgt := 3) dX9_fitsAt_63 (by decide) ?_
  refine gG_locals ?_ h
  exact ⟨rfl, ⟨rfl, ⟨rfl, ⟨rfl, ⟨rfl, trivial⟩⟩⟩⟩⟩

theorem kX10_copyFrom_0 {d n : Nat} {H : gHp} {P : gHp → Prop} {a0 : Nat} {a1 : Nat} (hd1 : 1 ≤ d) (h : g_gi H (a1) 10 0 (fun x1 => g_pf H (a0) 10 0 (.int (x1)) (fun H2 => g_gr H2 (a1) 10 1 (fun q3 => g_gr H2 (a0) 10 1 (fun q4 => g_cp H2 (q3) ((0 : Int32)) (q4) ((0 : Int32)) ((7 : Int32)) (fun H5 => P H5)))))) : gG d mX10_copyFrom 0 0 (g_Xv mX10_copyFrom n 0 0 P) 0 n H [some (.ref (a0)), some (.ref (a1))] [] 0 0 := by
  refine gG_aload_n dX10_copyFrom_0 rfl rfl ?_
  refine gG_aload_n dX10_copyFrom_1 rfl rfl ?_
  obtain ⟨fs, x1, e1, e2, h⟩ := h
  refine gG_gi dX10_copyFrom_2 fl_X10_15 ⟨fs, x1, e1, e2, ?_⟩
  obtain ⟨fs, e1, e2, h⟩ := h
  refine gG_pi dX10_copyFrom_5 fl_X10_15 ⟨fs, e1, e2, ?_⟩
  obtain ⟨H2, eH⟩ : ∃ z, z = va_up H (a0) (.inr (10, fs.set 0 (.int (x1)))) := ⟨_, rfl⟩
  rw [← eH] at h ⊢
  refine gG_aload_n dX10_copyFrom_8 rfl rfl ?_
  obtain ⟨fs, q3, e1, e2, h⟩ := h
  refine gG_gr dX10_copyFrom_9 fl_X10_9 ⟨fs, q3, e1, e2, ?_⟩
  refine gG_iconst (v := 0) dX10_copyFrom_12 (by decide) ?_
  refine gG_aload_n dX10_copyFrom_13 rfl rfl ?_
  obtain ⟨fs, q4, e1, e2, h⟩ := h
  refine gG_gr dX10_copyFrom_14 fl_X10_9 ⟨fs, q4, e1, e2, ?_⟩
  refine gG_iconst (v := 0) dX10_copyFrom_17 (by decide) ?_
  refine gG_bipush (v := 7) dX10_copyFrom_18 (by decide) ?_
  obtain ⟨m0, m1, f0, g0, e1, e2, z1, z2, z3, z4, z5, h⟩ := h
  refine gG_copy dX10_copyFrom_20 lk_X10_19 nat_copy st_copy ini_System hd1 (Nat.le_of_ble_eq_true rfl) ⟨m0, m1, f0, g0, e1, e2, z1, z2, z3, z4, z5, ?_⟩
  obtain ⟨H5, eH⟩ : ∃ z, z = va_up H2 (q4) (.inl (0, m1, .inl (va_cpy f0 g0 (Int32.toNatClampNeg ((0 : Int32))) (Int32.toNatClampNeg ((0 : Int32))) (Int32.toNatClampNeg ((7 : Int32)))))) := ⟨_, rfl⟩
  rw [← eH] at h ⊢
  exact gG_exit ⟨rfl, rfl, rfl, dX10_copyFrom_23, rfl, h⟩
