theorem kX0_init_0 {d n n' kc ks mc ms : Nat} {H : gHp} {P : gHp → Prop} {a0 : Nat} (hd1 : 1 ≤ d) (h : kc + 1 ≤ mc ∧ ks + 40 ≤ ms ∧ g_mk H (n) (.inl (0, 40, .inl (fun _ => 0))) (fun H1 => g_pf H1 (a0) 0 1 (.ref (n)) (fun H2 => kc + 1 + 1 ≤ mc ∧ ks + 40 + 40 ≤ ms ∧ g_mk H2 (n + 1) (.inl (0, 40, .inl (fun _ => 0))) (fun H3 => g_pf H3 (a0) 0 2 (.ref (n + 1)) (fun H4 => kc + 2 + 1 ≤ mc ∧ ks + 80 + 40 ≤ ms ∧ g_mk H4 (n + 2) (.inl (0, 40, .inl (fun _ => 0))) (fun H5 => g_pf H5 (a0) 0 3 (.ref (n + 2)) (fun H6 => n + 3 = n' ∧ kc + 3 = mc ∧ ks + 120 = ms ∧ P H6))))))) : gG d mX0_init mc ms (g_Xv mX0_init n' mc ms P) 0 n H [some (.ref (a0))] [] kc ks := by
  refine gG_aload_n dX0_init_0 rfl rfl ?_
  refine gG_oinit dX0_init_1 lk_X0_3 mi_obj mc_obj hd1 (Nat.le_of_ble_eq_true rfl) ?_
  refine gG_aload_n dX0_init_4 rfl rfl ?_
  refine gG_bipush (v := 40) dX0_init_5 (by decide) ?_
  obtain ⟨hk1, hk2, H1, eH, h⟩ := h
  refine gG_newi (m1 := 40) dX0_init_7 ac_int (by decide) (by decide) (by decide) hk1 hk2 ?_
  rw [← eH]
  obtain ⟨fs, e1, e2, h⟩ := h
  refine gG_pr (Or.inr ⟨_, rfl⟩) dX0_init_9 fl_X0_9 (Or.inr ⟨rfl, _, _, _, rfl, rfl, fd_X0_9⟩) ⟨fs, e1, e2, ?_⟩
  obtain ⟨H2, eH⟩ : ∃ z, z = va_up H1 (a0) (.inr (0, fs.set 1 (.ref (n)))) := ⟨_, rfl⟩
  rw [← eH] at h ⊢
  refine gG_aload_n dX0_init_12 rfl rfl ?_
  refine gG_bipush (v := 40) dX0_init_13 (by decide) ?_
  obtain ⟨hk1, hk2, H3, eH, h⟩ := h
  refine gG_newi (m1 := 40) dX0_init_15 ac_int (by decide) (by decide) (by decide) hk1 hk2 ?_
  rw [← eH]
  obtain ⟨fs, e1, e2, h⟩ := h
  refine gG_pr (Or.inr ⟨_, rfl⟩) dX0_init_17 fl_X0_15 (Or.inr ⟨rfl, _, _, _, rfl, rfl, fd_X0_15⟩) ⟨fs, e1, e2, ?_⟩
  obtain ⟨H4, eH⟩ : ∃ z, z = va_up H3 (a0) (.inr (0, fs.set 2 (.ref (n + 1)))) := ⟨_, rfl⟩
  rw [← eH] at h ⊢
  refine gG_aload_n dX0_init_20 rfl rfl ?_
  refine gG_bipush (v := 40) dX0_init_21 (by decide) ?_
  obtain ⟨hk1, hk2, H5, eH, h⟩ := h
  refine gG_newi (m1 := 40) dX0_init_23 ac_int (by decide) (by decide) (by decide) hk1 hk2 ?_
  rw [← eH]
  obtain ⟨fs, e1, e2, h⟩ := h
  refine gG_pr (Or.inr ⟨_, rfl⟩) dX0_init_25 fl_X0_18 (Or.inr ⟨rfl, _, _, _, rfl, rfl, fd_X0_18⟩) ⟨fs, e1, e2, ?_⟩
  obtain ⟨H6, eH⟩ : ∃ z, z = va_up H5 (a0) (.inr (0, fs.set 3 (.ref (n + 2)))) := ⟨_, rfl⟩
  rw [← eH] at h ⊢
  obtain ⟨z1, z2, z3, h⟩ := h
  exact gG_exit ⟨z1, z2, z3, dX0_init_28, rfl, h⟩

theorem kX1_init_0 {d n n' kc ks mc ms : Nat} {H : gHp} {P : gHp → Prop} {a0 : Nat} (hd1 : 1 ≤ d) (h : kc + 1 ≤ mc ∧ ks + 7 ≤ ms ∧ g_mk H (n) (.inl (1, 7, .inr (.inl (fun _ => 0)))) (fun H1 => g_pf H1 (a0) 1 1 (.ref (n)) (fun H2 => kc + 1 + 1 ≤ mc ∧ ks + 7 + 7 ≤ ms ∧ g_mk H2 (n + 1) (.inl (0, 7, .inl (fun _ => 0))) (fun H3 => g_pf H3 (a0) 1 2 (.ref (n + 1)) (fun H4 => kc + 2 + 1 ≤ mc ∧ ks + 14 + 7 ≤ ms ∧ g_mk H4 (n + 2) (.inl (0, 7, .inl (fun _ => 0))) (fun H5 => g_pf H5 (a0) 1 3 (.ref (n + 2)) (fun H6 => kc + 3 + 1 ≤ mc ∧ ks + 21 + 7 ≤ ms ∧ g_mk H6 (n + 3) (.inl (0, 7, .inl (fun _ => 0))) (fun H7 => g_pf H7 (a0) 1 4 (.ref (n + 3)) (fun H8 => kc + 4 + 1 ≤ mc ∧ ks + 28 + 7 ≤ ms ∧ g_mk H8 (n + 4) (.inl (0, 7, .inl (fun _ => 0))) (fun H9 => g_pf H9 (a0) 1 5 (.ref (n + 4)) (fun H10 => kc + 5 + 1 ≤ mc ∧ ks + 35 + 7 ≤ ms ∧ g_mk H10 (n + 5) (.inl (0, 7, .inl (fun _ => 0))) (fun H11 => g_pf H11 (a0) 1 6 (.ref (n + 5)) (fun H12 => kc + 6 + 1 ≤ mc ∧ ks + 42 + 7 ≤ ms ∧ g_mk H12 (n + 6) (.inl (0, 7, .inl (fun _ => 0))) (fun H13 => g_pf H13 (a0) 1 7 (.ref (n + 6)) (fun H14 => kc + 7 + 1 ≤ mc ∧ ks + 49 + 6 ≤ ms ∧ g_mk H14 (n + 7) (.inl (1, 6, .inr (.inl (fun _ => 0)))) (fun H15 => g_pf H15 (a0) 1 9 (.ref (n + 7)) (fun H16 => kc + 8 + 1 ≤ mc ∧ ks + 55 + 6 ≤ ms ∧ g_mk H16 (n + 8) (.inl (0, 6, .inl (fun _ => 0))) (fun H17 => g_pf H17 (a0) 1 10 (.ref (n + 8)) (fun H18 => kc + 9 + 1 ≤ mc ∧ ks + 61 + 12 ≤ ms ∧ g_mk H18 (n + 9) (.inl (0, 12, .inl (fun _ => 0))) (fun H19 => g_pf H19 (a0) 1 12 (.ref (n + 9)) (fun H20 => kc + 10 + 1 ≤ mc ∧ ks + 73 + 3 ≤ ms ∧ g_mk H20 (n + 10) (.inr (3, [.null, .int 0, .null])) (fun H21 => g_cI d mX3_init (n + 11) H21 [.ref (n + 10)] (kc + 11) (ks + 76) mc ms (fun n23 c24 s25 H22 => g_pf H22 (a0) 1 13 (.ref (n + 10)) (fun H26 => n23 = n' ∧ kc + 11 + c24 = mc ∧ ks + 76 + s25 = ms ∧ P H26)))))))))))))))))))))))) : gG d mX1_init mc ms (g_Xv mX1_init n' mc ms P) 0 n H [some (.ref (a0))] [] kc ks := by
  refine gG_aload_n dX1_init_0 rfl rfl ?_
  refine gG_oinit dX1_init_1 lk_X1_3 mi_obj mc_obj hd1 (Nat.le_of_ble_eq_true rfl) ?_
  refine gG_aload_n dX1_init_4 rfl rfl ?_
  refine gG_bipush (v := 7) dX1_init_5 (by decide) ?_
  obtain ⟨hk1, hk2, H1, eH, h⟩ := h
  refine gG_newl (m1 := 7) dX1_init_7 ac_long (by decide) (by decide) (by decide) hk1 hk2 ?_
  rw [← eH]
  obtain ⟨fs, e1, e2, h⟩ := h
  refine gG_pr (Or.inr ⟨_, rfl⟩) dX1_init_9 fl_X1_9 (Or.inr ⟨rfl, _, _, _, rfl, rfl, fd_X1_9⟩) ⟨fs, e1, e2, ?_⟩
  obtain ⟨H2, eH⟩ : ∃ z, z = va_up H1 (a0) (.inr (1, fs.set 1 (.ref (n)))) := ⟨_, rfl⟩
  rw [← eH] at h ⊢
  refine gG_aload_n dX1_init_12 rfl rfl ?_
  refine gG_bipush (v := 7) dX1_init_13 (by decide) ?_
  obtain ⟨hk1, hk2, H3, eH, h⟩ := h
  refine gG_newi (m1 := 7) dX1_init_15 ac_int (by decide) (by decide) (by decide) hk1 hk2 ?_
  rw [← eH]
  obtain ⟨fs, e1, e2, h⟩ := h
  refine gG_pr (Or.inr ⟨_, rfl⟩) dX1_init_17 fl_X1_15 (Or.inr ⟨rfl, _, _, _, rfl, rfl, fd_X1_15⟩) ⟨fs, e1, e2, ?_⟩
  obtain ⟨H4, eH⟩ : ∃ z, z = va_up H3 (a0) (.inr (1, fs.set 2 (.ref (n + 1)))) := ⟨_, rfl⟩
  rw [← eH] at h ⊢
  refine gG_aload_n dX1_init_20 rfl rfl ?_
  refine gG_bipush (v := 7) dX1_init_21 (by decide) ?_
  obtain ⟨hk1, hk2, H5, eH, h⟩ := h
  refine gG_newi (m1 := 7) dX1_init_23 ac_int (by decide) (by decide) (by decide) hk1 hk2 ?_
  rw [← eH]
  obtain ⟨fs, e1, e2, h⟩ := h
  refine gG_pr (Or.inr ⟨_, rfl⟩) dX1_init_25 fl_X1_19 (Or.inr ⟨rfl, _, _, _, rfl, rfl, fd_X1_19⟩) ⟨fs, e1, e2, ?_⟩
  obtain ⟨H6, eH⟩ : ∃ z, z = va_up H5 (a0) (.inr (1, fs.set 3 (.ref (n + 2)))) := ⟨_, rfl⟩
  rw [← eH] at h ⊢
  refine gG_aload_n dX1_init_28 rfl rfl ?_
  refine gG_bipush (v := 7) dX1_init_29 (by decide) ?_
  obtain ⟨hk1, hk2, H7, eH, h⟩ := h
  refine gG_newi (m1 := 7) dX1_init_31 ac_int (by decide) (by decide) (by decide) hk1 hk2 ?_
  rw [← eH]
  obtain ⟨fs, e1, e2, h⟩ := h
  refine gG_pr (Or.inr ⟨_, rfl⟩) dX1_init_33 fl_X1_22 (Or.inr ⟨rfl, _, _, _, rfl, rfl, fd_X1_22⟩) ⟨fs, e1, e2, ?_⟩
  obtain ⟨H8, eH⟩ : ∃ z, z = va_up H7 (a0) (.inr (1, fs.set 4 (.ref (n + 3)))) := ⟨_, rfl⟩
  rw [← eH] at h ⊢
  refine gG_aload_n dX1_init_36 rfl rfl ?_
  refine gG_bipush (v := 7) dX1_init_37 (by decide) ?_
  obtain ⟨hk1, hk2, H9, eH, h⟩ := h
  refine gG_newi (m1 := 7) dX1_init_39 ac_int (by decide) (by decide) (by decide) hk1 hk2 ?_
  rw [← eH]
  obtain ⟨fs, e1, e2, h⟩ := h
  refine gG_pr (Or.inr ⟨_, rfl⟩) dX1_init_41 fl_X1_25 (Or.inr ⟨rfl, _, _, _, rfl, rfl, fd_X1_25⟩) ⟨fs, e1, e2, ?_⟩
  obtain ⟨H10, eH⟩ : ∃ z, z = va_up H9 (a0) (.inr (1, fs.set 5 (.ref (n + 4)))) := ⟨_, rfl⟩
  rw [← eH] at h ⊢
  refine gG_aload_n dX1_init_44 rfl rfl ?_
  refine gG_bipush (v := 7) dX1_init_45 (by decide) ?_
  obtain ⟨hk1, hk2, H11, eH, h⟩ := h
  refine gG_newi (m1 := 7) dX1_init_47 ac_int (by decide) (by decide) (by decide) hk1 hk2 ?_
  rw [← eH]
  obtain ⟨fs, e1, e2, h⟩ := h
  refine gG_pr (Or.inr ⟨_, rfl⟩) dX1_init_49 fl_X1_28 (Or.inr ⟨rfl, _, _, _, rfl, rfl, fd_X1_28⟩) ⟨fs, e1, e2, ?_⟩
  obtain ⟨H12, eH⟩ : ∃ z, z = va_up H11 (a0) (.inr (1, fs.set 6 (.ref (n + 5)))) := ⟨_, rfl⟩
  rw [← eH] at h ⊢
  refine gG_aload_n dX1_init_52 rfl rfl ?_
  refine gG_bipush (v := 7) dX1_init_53 (by decide) ?_
  obtain ⟨hk1, hk2, H13, eH, h⟩ := h
  refine gG_newi (m1 := 7) dX1_init_55 ac_int (by decide) (by decide) (by decide) hk1 hk2 ?_
  rw [← eH]
  obtain ⟨fs, e1, e2, h⟩ := h
  refine gG_pr (Or.inr ⟨_, rfl⟩) dX1_init_57 fl_X1_31 (Or.inr ⟨rfl, _, _, _, rfl, rfl, fd_X1_31⟩) ⟨fs, e1, e2, ?_⟩
  obtain ⟨H14, eH⟩ : ∃ z, z = va_up H13 (a0) (.inr (1, fs.set 7 (.ref (n + 6)))) := ⟨_, rfl⟩
  rw [← eH] at h ⊢
  refine gG_aload_n dX1_init_60 rfl rfl ?_
  refine gG_bipush (v := 6) dX1_init_61 (by decide) ?_
  obtain ⟨hk1, hk2, H15, eH, h⟩ := h
  refine gG_newl (m1 := 6) dX1_init_63 ac_long (by decide) (by decide) (by decide) hk1 hk2 ?_
  rw [← eH]
  obtain ⟨fs, e1, e2, h⟩ := h
  refine gG_pr (Or.inr ⟨_, rfl⟩) dX1_init_65 fl_X1_34 (Or.inr ⟨rfl, _, _, _, rfl, rfl, fd_X1_34⟩) ⟨fs, e1, e2, ?_⟩
  obtain ⟨H16, eH⟩ : ∃ z, z = va_up H15 (a0) (.inr (1, fs.set 9 (.ref (n + 7)))) := ⟨_, rfl⟩
  rw [← eH] at h ⊢
  refine gG_aload_n dX1_init_68 rfl rfl ?_
  refine gG_bipush (v := 6) dX1_init_69 (by decide) ?_
  obtain ⟨hk1, hk2, H17, eH, h⟩ := h
  refine gG_newi (m1 := 6) dX1_init_71 ac_int (by decide) (by decide) (by decide) hk1 hk2 ?_
  rw [← eH]
  obtain ⟨fs, e1, e2, h⟩ := h
  refine gG_pr (Or.inr ⟨_, rfl⟩) dX1_init_73 fl_X1_37 (Or.inr ⟨rfl, _, _, _, rfl, rfl, fd_X1_37⟩) ⟨fs, e1, e2, ?_⟩
  obtain ⟨H18, eH⟩ : ∃ z, z = va_up H17 (a0) (.inr (1, fs.set 10 (.ref (n + 8)))) := ⟨_, rfl⟩
  rw [← eH] at h ⊢
  refine gG_aload_n dX1_init_76 rfl rfl ?_
  refine gG_bipush (v := 12) dX1_init_77 (by decide) ?_
  obtain ⟨hk1, hk2, H19, eH, h⟩ := h
  refine gG_newi (m1 := 12) dX1_init_79 ac_int (by decide) (by decide) (by decide) hk1 hk2 ?_
  rw [← eH]
  obtain ⟨fs, e1, e2, h⟩ := h
  refine gG_pr (Or.inr ⟨_, rfl⟩) dX1_init_81 fl_X1_40 (Or.inr ⟨rfl, _, _, _, rfl, rfl, fd_X1_40⟩) ⟨fs, e1, e2, ?_⟩
  obtain ⟨H20, eH⟩ : ∃ z, z = va_up H19 (a0) (.inr (1, fs.set 12 (.ref (n + 9)))) := ⟨_, rfl⟩
  rw [← eH] at h ⊢
  refine gG_aload_n dX1_init_84 rfl rfl ?_
  obtain ⟨hk1, hk2, H21, eH, h⟩ := h
  refine gG_new dX1_init_85 cn_X1_43 hk1 hk2 ?_
  rw [← eH]
  refine gG_dup dX1_init_88 rfl ?_
  obtain ⟨n23, c24, s25, hnn, hk1, hk2, d2, P2, hdd, hC, h⟩ := h
  refine gG_cIv (As := []) (st := [.ref (n + 10), .ref (a0)]) dX1_init_89 mI_X1_45 hdd rfl rfl (Nat.le_of_ble_eq_true rfl) hnn ⟨hk1, hk2⟩ hC (fun H22 hp => ?_)
  have h := h H22 hp
  obtain ⟨fs, e1, e2, h⟩ := h
  refine gG_pr (Or.inl ⟨_, rfl⟩) dX1_init_92 fl_X1_46 (Or.inr ⟨rfl, _, _, _, rfl, rfl, fd_X1_46⟩) ⟨fs, e1, e2, ?_⟩
  obtain ⟨H26, eH⟩ : ∃ z, z = va_up H22 (a0) (.inr (1, fs.set 13 (.ref (n + 10)))) := ⟨_, rfl⟩
  rw [← eH] at h ⊢
  obtain ⟨z1, z2, z3, h⟩ := h
  exact gG_exit ⟨z1, z2, z3, dX1_init_95, rfl, h⟩

theorem kX2_init_0 {d n n' kc ks mc ms : Nat} {H : gHp} {P : gHp → Prop} {a0 : Nat} {a1 : Nat} (hd1 : 1 ≤ d) (h : g_pf H (a0) 2 0 (.ref (a1)) (fun H1 => kc + 1 ≤ mc ∧ ks + 1 ≤ ms ∧ g_mk H1 (n) (.inr (4, [.null])) (fun H2 => g_cI d mX4_init (n + 1) H2 [.ref (n), .ref (a1)] (kc + 1) (ks + 1) mc ms (fun n4 c5 s6 H3 => g_pf H3 (a0) 2 1 (.ref (n)) (fun H7 => n4 = n' ∧ kc + 1 + c5 = mc ∧ ks + 1 + s6 = ms ∧ P H7))))) : gG d mX2_init mc ms (g_Xv mX2_init n' mc ms P) 0 n H [some (.ref (a0)), some (.ref (a1))] [] kc ks := by
  refine gG_aload_n dX2_init_0 rfl rfl ?_
  refine gG_oinit dX2_init_1 lk_X2_3 mi_obj mc_obj hd1 (Nat.le_of_ble_eq_true rfl) ?_
  refine gG_aload_n dX2_init_4 rfl rfl ?_
  refine gG_aload_n dX2_init_5 rfl rfl ?_
  obtain ⟨fs, e1, e2, h⟩ := h
  refine gG_pr (Or.inl ⟨_, rfl⟩) dX2_init_6 fl_X2_9 (Or.inr ⟨rfl, _, _, _, rfl, rfl, fd_X2_9⟩) ⟨fs, e1, e2, ?_⟩
  obtain ⟨H1, eH⟩ : ∃ z, z = va_up H (a0) (.inr (2, fs.set 0 (.ref (a1)))) := ⟨_, rfl⟩
  rw [← eH] at h ⊢
  refine gG_aload_n dX2_init_9 rfl rfl ?_
  obtain ⟨hk1, hk2, H2, eH, h⟩ := h
  refine gG_new dX2_init_10 cn_X2_15 hk1 hk2 ?_
  rw [← eH]
  refine gG_dup dX2_init_13 rfl ?_
  refine gG_aload_n dX2_init_14 rfl rfl ?_
  obtain ⟨n4, c5, s6, hnn, hk1, hk2, d2, P2, hdd, hC, h⟩ := h
  refine gG_cIv (As := [.ref (a1)]) (st := [.ref (n), .ref (a0)]) dX2_init_15 mI_X2_17 hdd rfl rfl (Nat.le_of_ble_eq_true rfl) hnn ⟨hk1, hk2⟩ hC (fun H3 hp => ?_)
  have h := h H3 hp
  obtain ⟨fs, e1, e2, h⟩ := h
  refine gG_pr (Or.inl ⟨_, rfl⟩) dX2_init_18 fl_X2_20 (Or.inr ⟨rfl, _, _, _, rfl, rfl, fd_X2_20⟩) ⟨fs, e1, e2, ?_⟩
  obtain ⟨H7, eH⟩ : ∃ z, z = va_up H3 (a0) (.inr (2, fs.set 1 (.ref (n)))) := ⟨_, rfl⟩
  rw [← eH] at h ⊢
  obtain ⟨z1, z2, z3, h⟩ := h
  exact gG_exit ⟨z1, z2, z3, dX2_init_21, rfl, h⟩

theorem kX3_init_0 {d n n' kc ks mc ms : Nat} {H : gHp} {P : gHp → Prop} {a0 : Nat} (hd1 : 1 ≤ d) (h : kc + 1 ≤ mc ∧ ks + 1000 ≤ ms ∧ g_mk H (n) (.inl (0, 1000, .inl (fun _ => 0))) (fun H1 => g_pf H1 (a0) 3 0 (.ref (n)) (fun H2 => kc + 1 + 1 ≤ mc ∧ ks + 1000 + 24 ≤ ms ∧ g_mk H2 (n + 1) (.inl (0, 24, .inl (fun _ => 0))) (fun H3 => g_pf H3 (a0) 3 2 (.ref (n + 1)) (fun H4 => n + 2 = n' ∧ kc + 2 = mc ∧ ks + 1024 = ms ∧ P H4))))) : gG d mX3_init mc ms (g_Xv mX3_init n' mc ms P) 0 n H [some (.ref (a0))] [] kc ks := by
  refine gG_aload_n dX3_init_0 rfl rfl ?_
  refine gG_oinit dX3_init_1 lk_X3_3 mi_obj mc_obj hd1 (Nat.le_of_ble_eq_true rfl) ?_
  refine gG_aload_n dX3_init_4 rfl rfl ?_
  refine gG_sipush (v := 1000) dX3_init_5 (by decide) ?_
  obtain ⟨hk1, hk2, H1, eH, h⟩ := h
  refine gG_newi (m1 := 1000) dX3_init_8 ac_int (by decide) (by decide) (by decide) hk1 hk2 ?_
  rw [← eH]
  obtain ⟨fs, e1, e2, h⟩ := h
  refine gG_pr (Or.inr ⟨_, rfl⟩) dX3_init_10 fl_X3_9 (Or.inr ⟨rfl, _, _, _, rfl, rfl, fd_X3_9⟩) ⟨fs, e1, e2, ?_⟩
  obtain ⟨H2, eH⟩ : ∃ z, z = va_up H1 (a0) (.inr (3, fs.set 0 (.ref (n)))) := ⟨_, rfl⟩
  rw [← eH] at h ⊢
  refine gG_aload_n dX3_init_13 rfl rfl ?_
  refine gG_bipush (v := 24) dX3_init_14 (by decide) ?_
  obtain ⟨hk1, hk2, H3, eH, h⟩ := h
  refine gG_newi (m1 := 24) dX3_init_16 ac_int (by decide) (by decide) (by decide) hk1 hk2 ?_
  rw [← eH]
  obtain ⟨fs, e1, e2, h⟩ := h
  refine gG_pr (Or.inr ⟨_, rfl⟩) dX3_init_18 fl_X3_15 (Or.inr ⟨rfl, _, _, _, rfl, rfl, fd_X3_15⟩) ⟨fs, e1, e2, ?_⟩
  obtain ⟨H4, eH⟩ : ∃ z, z = va_up H3 (a0) (.inr (3, fs.set 2 (.ref (n + 1)))) := ⟨_, rfl⟩
  rw [← eH] at h ⊢
  obtain ⟨z1, z2, z3, h⟩ := h
  exact gG_exit ⟨z1, z2, z3, dX3_init_21, rfl, h⟩

theorem kX4_init_0 {d n n' kc ks mc ms : Nat} {H : gHp} {P : gHp → Prop} {a0 : Nat} {a1 : Nat} (hd1 : 1 ≤ d) (h : g_pf H (a0) 4 0 (.ref (a1)) (fun H1 => n = n' ∧ kc = mc ∧ ks = ms ∧ P H1)) : gG d mX4_init mc ms (g_Xv mX4_init n' mc ms P) 0 n H [some (.ref (a0)), some (.ref (a1))] [] kc ks := by
  refine gG_aload_n dX4_init_0 rfl rfl ?_
  refine gG_oinit dX4_init_1 lk_X4_3 mi_obj mc_obj hd1 (Nat.le_of_ble_eq_true rfl) ?_
  refine gG_aload_n dX4_init_4 rfl rfl ?_
  refine gG_aload_n dX4_init_5 rfl rfl ?_
  obtain ⟨fs, e1, e2, h⟩ := h
  refine gG_pr (Or.inl ⟨_, rfl⟩) dX4_init_6 fl_X4_9 (Or.inr ⟨rfl, _, _, _, rfl, rfl, fd_X4_9⟩) ⟨fs, e1, e2, ?_⟩
  obtain ⟨H1, eH⟩ : ∃ z, z = va_up H (a0) (.inr (4, fs.set 0 (.ref (a1)))) := ⟨_, rfl⟩
  rw [← eH] at h ⊢
  obtain ⟨z1, z2, z3, h⟩ := h
  exact gG_exit ⟨z1, z2, z3, dX4_init_9, rfl, h⟩

theorem kX5_init_0 {d n n' kc ks mc ms : Nat} {H : gHp} {P : gHp → Prop} {a0 : Nat} {a1 : Nat} (hd1 : 1 ≤ d) (h : g_pf H (a0) 5 0 (.ref (a1)) (fun H1 => n = n' ∧ kc = mc ∧ ks = ms ∧ P H1)) : gG d mX5_init mc ms (g_Xv mX5_init n' mc ms P) 0 n H [some (.ref (a0)), some (.ref (a1))] [] kc ks := by
  refine gG_aload_n dX5_init_0 rfl rfl ?_
  refine gG_oinit dX5_init_1 lk_X5_3 mi_obj mc_obj hd1 (Nat.le_of_ble_eq_true rfl) ?_
  refine gG_aload_n dX5_init_4 rfl rfl ?_
  refine gG_aload_n dX5_init_5 rfl rfl ?_
  obtain ⟨fs, e1, e2, h⟩ := h
  refine gG_pr (Or.inl ⟨_, rfl⟩) dX5_init_6 fl_X5_9 (Or.inr ⟨rfl, _, _, _, rfl, rfl, fd_X5_9⟩) ⟨fs, e1, e2, ?_⟩
  obtain ⟨H1, eH⟩ : ∃ z, z = va_up H (a0) (.inr (5, fs.set 0 (.ref (a1)))) := ⟨_, rfl⟩
  rw [← eH] at h ⊢
  obtain ⟨z1, z2, z3, h⟩ := h
  exact gG_exit ⟨z1, z2, z3, dX5_init_9, rfl, h⟩

theorem kX6_init_0 {d n n' kc ks mc ms : Nat} {H : gHp} {P : gHp → Prop} {a0 : Nat} (hd1 : 1 ≤ d) (h : kc + 1 ≤ mc ∧ ks + 10 ≤ ms ∧ g_mk H (n) (.inr (9, [.int 0, .int 0, .null, .null, .int 0, .int 0, .int 0, .int 0, .null, .int 0])) (fun H1 => g_cI d mX9_init (n + 1) H1 [.ref (n)] (kc + 1) (ks + 10) mc ms (fun n3 c4 s5 H2 => g_pf H2 (a0) 6 1 (.ref (n)) (fun H6 => kc + 1 + c4 + 1 ≤ mc ∧ ks + 10 + s5 + 4 ≤ ms ∧ g_mk H6 (n3) (.inr (0, [.int 0, .null, .null, .null])) (fun H7 => g_cI d mX0_init (n3 + 1) H7 [.ref (n3)] (kc + 1 + c4 + 1) (ks + 10 + s5 + 4) mc ms (fun n9 c10 s11 H8 => g_pf H8 (a0) 6 2 (.ref (n3)) (fun H12 => kc + 1 + c4 + 1 + c10 + 1 ≤ mc ∧ ks + 10 + s5 + 4 + s11 + 2 ≤ ms ∧ g_mk H12 (n9) (.inr (10, [.int 0, .null])) (fun H13 => g_cI d mX10_init (n9 + 1) H13 [.ref (n9)] (kc + 1 + c4 + 1 + c10 + 1) (ks + 10 + s5 + 4 + s11 + 2) mc ms (fun n15 c16 s17 H14 => g_pf H14 (a0) 6 3 (.ref (n9)) (fun H18 => kc + 1 + c4 + 1 + c10 + 1 + c16 + 1 ≤ mc ∧ ks + 10 + s5 + 4 + s11 + 2 + s17 + 3 ≤ ms ∧ g_mk H18 (n15) (.inr (7, [.int 0, .null, .null])) (fun H19 => g_cI d mX7_init (n15 + 1) H19 [.ref (n15)] (kc + 1 + c4 + 1 + c10 + 1 + c16 + 1) (ks + 10 + s5 + 4 + s11 + 2 + s17 + 3) mc ms (fun n21 c22 s23 H20 => g_pf H20 (a0) 6 4 (.ref (n15)) (fun H24 => n21 = n' ∧ kc + 1 + c4 + 1 + c10 + 1 + c16 + 1 + c22 = mc ∧ ks + 10 + s5 + 4 + s11 + 2 + s17 + 3 + s23 = ms ∧ P H24))))))))))))) : gG d mX6_init mc ms (g_Xv mX6_init n' mc ms P) 0 n H [some (.ref (a0))] [] kc ks := by
  refine gG_aload_n dX6_init_0 rfl rfl ?_
  refine gG_oinit dX6_init_1 lk_X6_1 mi_obj mc_obj hd1 (Nat.le_of_ble_eq_true rfl) ?_
  refine gG_aload_n dX6_init_4 rfl rfl ?_
  obtain ⟨hk1, hk2, H1, eH, h⟩ := h
  refine gG_new dX6_init_5 cn_X6_7 hk1 hk2 ?_
  rw [← eH]
  refine gG_dup dX6_init_8 rfl ?_
  obtain ⟨n3, c4, s5, hnn, hk1, hk2, d2, P2, hdd, hC, h⟩ := h
  refine gG_cIv (As := []) (st := [.ref (n), .ref (a0)]) dX6_init_9 mI_X6_9 hdd rfl rfl (Nat.le_of_ble_eq_true rfl) hnn ⟨hk1, hk2⟩ hC (fun H2 hp => ?_)
  have h := h H2 hp
  obtain ⟨fs, e1, e2, h⟩ := h
  refine gG_pr (Or.inl ⟨_, rfl⟩) dX6_init_12 fl_X6_10 (Or.inr ⟨rfl, _, _, _, rfl, rfl, fd_X6_10⟩) ⟨fs, e1, e2, ?_⟩
  obtain ⟨H6, eH⟩ : ∃ z, z = va_up H2 (a0) (.inr (6, fs.set 1 (.ref (n)))) := ⟨_, rfl⟩
  rw [← eH] at h ⊢
  refine gG_aload_n dX6_init_15 rfl rfl ?_
  obtain ⟨hk1, hk2, H7, eH, h⟩ := h
  refine gG_new dX6_init_16 cn_X6_16 hk1 hk2 ?_
  rw [← eH]
  refine gG_dup dX6_init_19 rfl ?_
  obtain ⟨n9, c10, s11, hnn, hk1, hk2, d2, P2, hdd, hC, h⟩ := h
  refine gG_cIv (As := []) (st := [.ref (n3), .ref (a0)]) dX6_init_20 mI_X6_18 hdd rfl rfl (Nat.le_of_ble_eq_true rfl) hnn ⟨hk1, hk2⟩ hC (fun H8 hp => ?_)
  have h := h H8 hp
  obtain ⟨fs, e1, e2, h⟩ := h
  refine gG_pr (Or.inl ⟨_, rfl⟩) dX6_init_23 fl_X6_19 (Or.inr ⟨rfl, _, _, _, rfl, rfl, fd_X6_19⟩) ⟨fs, e1, e2, ?_⟩
  obtain ⟨H12, eH⟩ : ∃ z, z = va_up H8 (a0) (.inr (6, fs.set 2 (.ref (n3)))) := ⟨_, rfl⟩
  rw [← eH] at h ⊢
  refine gG_aload_n dX6_init_26 rfl rfl ?_
  obtain ⟨hk1, hk2, H13, eH, h⟩ := h
  refine gG_new dX6_init_27 cn_X6_23 hk1 hk2 ?_
  rw [← eH]
  refine gG_dup dX6_init_30 rfl ?_
  obtain ⟨n15, c16, s17, hnn, hk1, hk2, d2, P2, hdd, hC, h⟩ := h
  refine gG_cIv (As := []) (st := [.ref (n9), .ref (a0)]) dX6_init_31 mI_X6_25 hdd rfl rfl (Nat.le_of_ble_eq_true rfl) hnn ⟨hk1, hk2⟩ hC (fun H14 hp => ?_)
  have h := h H14 hp
  obtain ⟨fs, e1, e2, h⟩ := h
  refine gG_pr (Or.inl ⟨_, rfl⟩) dX6_init_34 fl_X6_26 (Or.inr ⟨rfl, _, _, _, rfl, rfl, fd_X6_26⟩) ⟨fs, e1, e2, ?_⟩
  obtain ⟨H18, eH⟩ : ∃ z, z = va_up H14 (a0) (.inr (6, fs.set 3 (.ref (n9)))) := ⟨_, rfl⟩
  rw [← eH] at h ⊢
  refine gG_aload_n dX6_init_37 rfl rfl ?_
  obtain ⟨hk1, hk2, H19, eH, h⟩ := h
  refine gG_new dX6_init_38 cn_X6_30 hk1 hk2 ?_
  rw [← eH]
  refine gG_dup dX6_init_41 rfl ?_
  obtain ⟨n21, c22, s23, hnn, hk1, hk2, d2, P2, hdd, hC, h⟩ := h
  refine gG_cIv (As := []) (st := [.ref (n15), .ref (a0)]) dX6_init_42 mI_X6_32 hdd rfl rfl (Nat.le_of_ble_eq_true rfl) hnn ⟨hk1, hk2⟩ hC (fun H20 hp => ?_)
  have h := h H20 hp
  obtain ⟨fs, e1, e2, h⟩ := h
  refine gG_pr (Or.inl ⟨_, rfl⟩) dX6_init_45 fl_X6_33 (Or.inr ⟨rfl, _, _, _, rfl, rfl, fd_X6_33⟩) ⟨fs, e1, e2, ?_⟩
  obtain ⟨H24, eH⟩ : ∃ z, z = va_up H20 (a0) (.inr (6, fs.set 4 (.ref (n15)))) := ⟨_, rfl⟩
  rw [← eH] at h ⊢
  obtain ⟨z1, z2, z3, h⟩ := h
  exact gG_exit ⟨z1, z2, z3, dX6_init_48, rfl, h⟩

theorem kX7_init_0 {d n n' kc ks mc ms : Nat} {H : gHp} {P : gHp → Prop} {a0 : Nat} (hd1 : 1 ≤ d) (h : kc + 1 ≤ mc ∧ ks + 8 ≤ ms ∧ g_mk H (n) (.inl (0, 8, .inl (fun _ => 0))) (fun H1 => g_pf H1 (a0) 7 1 (.ref (n)) (fun H2 => kc + 1 + 1 ≤ mc ∧ ks + 8 + 8 ≤ ms ∧ g_mk H2 (n + 1) (.inl (3, 8, .inl (fun _ => 0))) (fun H3 => g_pf H3 (a0) 7 2 (.ref (n + 1)) (fun H4 => n + 2 = n' ∧ kc + 2 = mc ∧ ks + 16 = ms ∧ P H4))))) : gG d mX7_init mc ms (g_Xv mX7_init n' mc ms P) 0 n H [some (.ref (a0))] [] kc ks := by
  refine gG_aload_n dX7_init_0 rfl rfl ?_
  refine gG_oinit dX7_init_1 lk_X7_3 mi_obj mc_obj hd1 (Nat.le_of_ble_eq_true rfl) ?_
  refine gG_aload_n dX7_init_4 rfl rfl ?_
  refine gG_bipush (v := 8) dX7_init_5 (by decide) ?_
  obtain ⟨hk1, hk2, H1, eH, h⟩ := h
  refine gG_newi (m1 := 8) dX7_init_7 ac_int (by decide) (by decide) (by decide) hk1 hk2 ?_
  rw [← eH]
  obtain ⟨fs, e1, e2, h⟩ := h
  refine gG_pr (Or.inr ⟨_, rfl⟩) dX7_init_9 fl_X7_9 (Or.inr ⟨rfl, _, _, _, rfl, rfl, fd_X7_9⟩) ⟨fs, e1, e2, ?_⟩
  obtain ⟨H2, eH⟩ : ∃ z, z = va_up H1 (a0) (.inr (7, fs.set 1 (.ref (n)))) := ⟨_, rfl⟩
  rw [← eH] at h ⊢
  refine gG_aload_n dX7_init_12 rfl rfl ?_
  refine gG_bipush (v := 8) dX7_init_13 (by decide) ?_
  obtain ⟨hk1, hk2, H3, eH, h⟩ := h
  refine gG_newz (m1 := 8) dX7_init_15 ac_boolean (by decide) (by decide) (by decide) hk1 hk2 ?_
  rw [← eH]
  obtain ⟨fs, e1, e2, h⟩ := h
  refine gG_pr (Or.inr ⟨_, rfl⟩) dX7_init_17 fl_X7_15 (Or.inr ⟨rfl, _, _, _, rfl, rfl, fd_X7_15⟩) ⟨fs, e1, e2, ?_⟩
  obtain ⟨H4, eH⟩ : ∃ z, z = va_up H3 (a0) (.inr (7, fs.set 2 (.ref (n + 1)))) := ⟨_, rfl⟩
  rw [← eH] at h ⊢
  obtain ⟨z1, z2, z3, h⟩ := h
  exact gG_exit ⟨z1, z2, z3, dX7_init_20, rfl, h⟩

theorem kX8_init_0 {d n n' kc ks mc ms : Nat} {H : gHp} {P : gHp → Prop} {a0 : Nat} (hd1 : 1 ≤ d) (h : kc + 1 ≤ mc ∧ ks + 1000 ≤ ms ∧ g_mk H (n) (.inl (2, 1000, .inl (fun _ => 0))) (fun H1 => g_pf H1 (a0) 8 0 (.ref (n)) (fun H2 => n + 1 = n' ∧ kc + 1 = mc ∧ ks + 1000 = ms ∧ P H2))) : gG d mX8_init mc ms (g_Xv mX8_init n' mc ms P) 0 n H [some (.ref (a0))] [] kc ks := by
  refine gG_aload_n dX8_init_0 rfl rfl ?_
  refine gG_oinit dX8_init_1 lk_X8_3 mi_obj mc_obj hd1 (Nat.le_of_ble_eq_true rfl) ?_
  refine gG_aload_n dX8_init_4 rfl rfl ?_
  refine gG_sipush (v := 1000) dX8_init_5 (by decide) ?_
  obtain ⟨hk1, hk2, H1, eH, h⟩ := h
  refine gG_newc (m1 := 1000) dX8_init_8 ac_char (by decide) (by decide) (by decide) hk1 hk2 ?_
  rw [← eH]
  obtain ⟨fs, e1, e2, h⟩ := h
  refine gG_pr (Or.inr ⟨_, rfl⟩) dX8_init_10 fl_X8_9 (Or.inr ⟨rfl, _, _, _, rfl, rfl, fd_X8_9⟩) ⟨fs, e1, e2, ?_⟩
  obtain ⟨H2, eH⟩ : ∃ z, z = va_up H1 (a0) (.inr (8, fs.set 0 (.ref (n)))) := ⟨_, rfl⟩
  rw [← eH] at h ⊢
  obtain ⟨z1, z2, z3, h⟩ := h
  exact gG_exit ⟨z1, z2, z3, dX8_init_13, rfl, h⟩

theorem kX9_init_0 {d n n' kc ks mc ms : Nat} {H : gHp} {P : gHp → Prop} {a0 : Nat} (hd1 : 1 ≤ d) (h : kc + 1 ≤ mc ∧ ks + 7 ≤ ms ∧ g_mk H (n) (.inl (0, 7, .inl (fun _ => 0))) (fun H1 => g_pf H1 (a0) 9 2 (.ref (n)) (fun H2 => kc + 1 + 1 ≤ mc ∧ ks + 7 + 7 ≤ ms ∧ g_mk H2 (n + 1) (.inl (0, 7, .inl (fun _ => 0))) (fun H3 => g_pf H3 (a0) 9 3 (.ref (n + 1)) (fun H4 => kc + 2 + 1 ≤ mc ∧ ks + 14 + 40 ≤ ms ∧ g_mk H4 (n + 2) (.inl (0, 40, .inl (fun _ => 0))) (fun H5 => g_pf H5 (a0) 9 8 (.ref (n + 2)) (fun H6 => g_pf H6 (a0) 9 5 (.int ((-1 : Int32))) (fun H7 => n + 3 = n' ∧ kc + 3 = mc ∧ ks + 54 = ms ∧ P H7)))))))) : gG d mX9_init mc ms (g_Xv mX9_init n' mc ms P) 0 n H [some (.ref (a0))] [] kc ks := by
  refine gG_aload_n dX9_init_0 rfl rfl ?_
  refine gG_oinit dX9_init_1 lk_X9_3 mi_obj mc_obj hd1 (Nat.le_of_ble_eq_true rfl) ?_
  refine gG_aload_n dX9_init_4 rfl rfl ?_
  refine gG_bipush (v := 7) dX9_init_5 (by decide) ?_
  obtain ⟨hk1, hk2, H1, eH, h⟩ := h
  refine gG_newi (m1 := 7) dX9_init_7 ac_int (by decide) (by decide) (by decide) hk1 hk2 ?_
  rw [← eH]
  obtain ⟨fs, e1, e2, h⟩ := h
  refine gG_pr (Or.inr ⟨_, rfl⟩) dX9_init_9 fl_X9_9 (Or.inr ⟨rfl, _, _, _, rfl, rfl, fd_X9_9⟩) ⟨fs, e1, e2, ?_⟩
  obtain ⟨H2, eH⟩ : ∃ z, z = va_up H1 (a0) (.inr (9, fs.set 2 (.ref (n)))) := ⟨_, rfl⟩
  rw [← eH] at h ⊢
  refine gG_aload_n dX9_init_12 rfl rfl ?_
  refine gG_bipush (v := 7) dX9_init_13 (by decide) ?_
  obtain ⟨hk1, hk2, H3, eH, h⟩ := h
  refine gG_newi (m1 := 7) dX9_init_15 ac_int (by decide) (by decide) (by decide) hk1 hk2 ?_
  rw [← eH]
  obtain ⟨fs, e1, e2, h⟩ := h
  refine gG_pr (Or.inr ⟨_, rfl⟩) dX9_init_17 fl_X9_15 (Or.inr ⟨rfl, _, _, _, rfl, rfl, fd_X9_15⟩) ⟨fs, e1, e2, ?_⟩
  obtain ⟨H4, eH⟩ : ∃ z, z = va_up H3 (a0) (.inr (9, fs.set 3 (.ref (n + 1)))) := ⟨_, rfl⟩
  rw [← eH] at h ⊢
  refine gG_aload_n dX9_init_20 rfl rfl ?_
  refine gG_bipush (v := 40) dX9_init_21 (by decide) ?_
  obtain ⟨hk1, hk2, H5, eH, h⟩ := h
  refine gG_newi (m1 := 40) dX9_init_23 ac_int (by decide) (by decide) (by decide) hk1 hk2 ?_
  rw [← eH]
  obtain ⟨fs, e1, e2, h⟩ := h
  refine gG_pr (Or.inr ⟨_, rfl⟩) dX9_init_25 fl_X9_18 (Or.inr ⟨rfl, _, _, _, rfl, rfl, fd_X9_18⟩) ⟨fs, e1, e2, ?_⟩
  obtain ⟨H6, eH⟩ : ∃ z, z = va_up H5 (a0) (.inr (9, fs.set 8 (.ref (n + 2)))) := ⟨_, rfl⟩
  rw [← eH] at h ⊢
  refine gG_aload_n dX9_init_28 rfl rfl ?_
  refine gG_iconst (v := (-1)) dX9_init_29 (by decide) ?_
  obtain ⟨fs, e1, e2, h⟩ := h
  refine gG_pi dX9_init_30 fl_X9_21 ⟨fs, e1, e2, ?_⟩
  obtain ⟨H7, eH⟩ : ∃ z, z = va_up H6 (a0) (.inr (9, fs.set 5 (.int ((-1 : Int32))))) := ⟨_, rfl⟩
  rw [← eH] at h ⊢
  obtain ⟨z1, z2, z3, h⟩ := h
  exact gG_exit ⟨z1, z2, z3, dX9_init_33, rfl, h⟩

theorem kX10_init_0 {d n n' kc ks mc ms : Nat} {H : gHp} {P : gHp → Prop} {a0 : Nat} (hd1 : 1 ≤ d) (h : kc + 1 ≤ mc ∧ ks + 7 ≤ ms ∧ g_mk H (n) (.inl (0, 7, .inl (fun _ => 0))) (fun H1 => g_pf H1 (a0) 10 1 (.ref (n)) (fun H2 => n + 1 = n' ∧ kc + 1 = mc ∧ ks + 7 = ms ∧ P H2))) : gG d mX10_init mc ms (g_Xv mX10_init n' mc ms P) 0 n H [some (.ref (a0))] [] kc ks := by
  refine gG_aload_n dX10_init_0 rfl rfl ?_
  refine gG_oinit dX10_init_1 lk_X10_3 mi_obj mc_obj hd1 (Nat.le_of_ble_eq_true rfl) ?_
  refine gG_aload_n dX10_init_4 rfl rfl ?_
  refine gG_bipush (v := 7) dX10_init_5 (by decide) ?_
  obtain ⟨hk1, hk2, H1, eH, h⟩ := h
  refine gG_newi (m1 := 7) dX10_init_7 ac_int (by decide) (by decide) (by decide) hk1 hk2 ?_
  rw [← eH]
  obtain ⟨fs, e1, e2, h⟩ := h
  refine gG_pr (Or.inr ⟨_, rfl⟩) dX10_init_9 fl_X10_9 (Or.inr ⟨rfl, _, _, _, rfl, rfl, fd_X10_9⟩) ⟨fs, e1, e2, ?_⟩
  obtain ⟨H2, eH⟩ : ∃ z, z = va_up H1 (a0) (.inr (10, fs.set 1 (.ref (n)))) := ⟨_, rfl⟩
  rw [← eH] at h ⊢
  obtain ⟨z1, z2, z3, h⟩ := h
  exact gG_exit ⟨z1, z2, z3, dX10_init_12, rfl, h⟩

theorem kX11_init_0 {d n n' kc ks mc ms : Nat} {H : gHp} {P : gHp → Prop} {a0 : Nat} (hd1 : 1 ≤ d) (h : kc + 1 ≤ mc ∧ ks + 8 ≤ ms ∧ g_mk H (n) (.inr (8, [.null, .int 0, .int 0, .int 0, .int 0, .long 0, .int 0, .int 0])) (fun H1 => g_cI d mX8_init (n + 1) H1 [.ref (n)] (kc + 1) (ks + 8) mc ms (fun n3 c4 s5 H2 => g_pf H2 (a0) 11 0 (.ref (n)) (fun H6 => kc + 1 + c4 + 1 ≤ mc ∧ ks + 8 + s5 + 2 ≤ ms ∧ g_mk H6 (n3) (.inr (2, [.null, .null])) (fun H7 => g_gr H7 (a0) 11 0 (fun q8 => g_cI d mX2_init (n3 + 1) H7 [.ref (n3), .ref (q8)] (kc + 1 + c4 + 1) (ks + 8 + s5 + 2) mc ms (fun n10 c11 s12 H9 => g_pf H9 (a0) 11 1 (.ref (n3)) (fun H13 => kc + 1 + c4 + 1 + c11 + 1 ≤ mc ∧ ks + 8 + s5 + 2 + s12 + 1 ≤ ms ∧ g_mk H13 (n10) (.inr (5, [.null])) (fun H14 => g_gr H14 (a0) 11 0 (fun q15 => g_cI d mX5_init (n10 + 1) H14 [.ref (n10), .ref (q15)] (kc + 1 + c4 + 1 + c11 + 1) (ks + 8 + s5 + 2 + s12 + 1) mc ms (fun n17 c18 s19 H16 => g_pf H16 (a0) 11 2 (.ref (n10)) (fun H20 => kc + 1 + c4 + 1 + c11 + 1 + c18 + 1 ≤ mc ∧ ks + 8 + s5 + 2 + s12 + 1 + s19 + 14 ≤ ms ∧ g_mk H20 (n17) (.inr (1, [.int 0, .null, .null, .null, .null, .null, .null, .null, .int 0, .null, .null, .int 0, .null, .null])) (fun H21 => g_cI d mX1_init (n17 + 1) H21 [.ref (n17)] (kc + 1 + c4 + 1 + c11 + 1 + c18 + 1) (ks + 8 + s5 + 2 + s12 + 1 + s19 + 14) mc ms (fun n23 c24 s25 H22 => g_pf H22 (a0) 11 3 (.ref (n17)) (fun H26 => kc + 1 + c4 + 1 + c11 + 1 + c18 + 1 + c24 + 1 ≤ mc ∧ ks + 8 + s5 + 2 + s12 + 1 + s19 + 14 + s25 + 14 ≤ ms ∧ g_mk H26 (n23) (.inr (1, [.int 0, .null, .null, .null, .null, .null, .null, .null, .int 0, .null, .null, .int 0, .null, .null])) (fun H27 => g_cI d mX1_init (n23 + 1) H27 [.ref (n23)] (kc + 1 + c4 + 1 + c11 + 1 + c18 + 1 + c24 + 1) (ks + 8 + s5 + 2 + s12 + 1 + s19 + 14 + s25 + 14) mc ms (fun n29 c30 s31 H28 => g_pf H28 (a0) 11 4 (.ref (n23)) (fun H32 => kc + 1 + c4 + 1 + c11 + 1 + c18 + 1 + c24 + 1 + c30 + 1 ≤ mc ∧ ks + 8 + s5 + 2 + s12 + 1 + s19 + 14 + s25 + 14 + s31 + 4 ≤ ms ∧ g_mk H32 (n29) (.inr (0, [.int 0, .null, .null, .null])) (fun H33 => g_cI d mX0_init (n29 + 1) H33 [.ref (n29)] (kc + 1 + c4 + 1 + c11 + 1 + c18 + 1 + c24 + 1 + c30 + 1) (ks + 8 + s5 + 2 + s12 + 1 + s19 + 14 + s25 + 14 + s31 + 4) mc ms (fun n35 c36 s37 H34 => g_pf H34 (a0) 11 5 (.ref (n29)) (fun H38 => kc + 1 + c4 + 1 + c11 + 1 + c18 + 1 + c24 + 1 + c30 + 1 + c36 + 1 ≤ mc ∧ ks + 8 + s5 + 2 + s12 + 1 + s19 + 14 + s25 + 14 + s31 + 4 + s37 + 4 ≤ ms ∧ g_mk H38 (n35) (.inr (0, [.int 0, .null, .null, .null])) (fun H39 => g_cI d mX0_init (n35 + 1) H39 [.ref (n35)] (kc + 1 + c4 + 1 + c11 + 1 + c18 + 1 + c24 + 1 + c30 + 1 + c36 + 1) (ks + 8 + s5 + 2 + s12 + 1 + s19 + 14 + s25 + 14 + s31 + 4 + s37 + 4) mc ms (fun n41 c42 s43 H40 => g_pf H40 (a0) 11 6 (.ref (n35)) (fun H44 => kc + 1 + c4 + 1 + c11 + 1 + c18 + 1 + c24 + 1 + c30 + 1 + c36 + 1 + c42 + 1 ≤ mc ∧ ks + 8 + s5 + 2 + s12 + 1 + s19 + 14 + s25 + 14 + s31 + 4 + s37 + 4 + s43 + 2 ≤ ms ∧ g_mk H44 (n41) (.inr (10, [.int 0, .null])) (fun H45 => g_cI d mX10_init (n41 + 1) H45 [.ref (n41)] (kc + 1 + c4 + 1 + c11 + 1 + c18 + 1 + c24 + 1 + c30 + 1 + c36 + 1 + c42 + 1) (ks + 8 + s5 + 2 + s12 + 1 + s19 + 14 + s25 + 14 + s31 + 4 + s37 + 4 + s43 + 2) mc ms (fun n47 c48 s49 H46 => g_pf H46 (a0) 11 7 (.ref (n41)) (fun H50 => kc + 1 + c4 + 1 + c11 + 1 + c18 + 1 + c24 + 1 + c30 + 1 + c36 + 1 + c42 + 1 + c48 + 1 ≤ mc ∧ ks + 8 + s5 + 2 + s12 + 1 + s19 + 14 + s25 + 14 + s31 + 4 + s37 + 4 + s43 + 2 + s49 + 2 ≤ ms ∧ g_mk H50 (n47) (.inr (10, [.int 0, .null])) (fun H51 => g_cI d mX10_init (n47 + 1) H51 [.ref (n47)] (kc + 1 + c4 + 1 + c11 + 1 + c18 + 1 + c24 + 1 + c30 + 1 + c36 + 1 + c42 + 1 + c48 + 1) (ks + 8 + s5 + 2 + s12 + 1 + s19 + 14 + s25 + 14 + s31 + 4 + s37 + 4 + s43 + 2 + s49 + 2) mc ms (fun n53 c54 s55 H52 => g_pf H52 (a0) 11 8 (.ref (n47)) (fun H56 => kc + 1 + c4 + 1 + c11 + 1 + c18 + 1 + c24 + 1 + c30 + 1 + c36 + 1 + c42 + 1 + c48 + 1 + c54 + 1 ≤ mc ∧ ks + 8 + s5 + 2 + s12 + 1 + s19 + 14 + s25 + 14 + s31 + 4 + s37 + 4 + s43 + 2 + s49 + 2 + s55 + 3 ≤ ms ∧ g_mk H56 (n53) (.inr (7, [.int 0, .null, .null])) (fun H57 => g_cI d mX7_init (n53 + 1) H57 [.ref (n53)] (kc + 1 + c4 + 1 + c11 + 1 + c18 + 1 + c24 + 1 + c30 + 1 + c36 + 1 + c42 + 1 + c48 + 1 + c54 + 1) (ks + 8 + s5 + 2 + s12 + 1 + s19 + 14 + s25 + 14 + s31 + 4 + s37 + 4 + s43 + 2 + s49 + 2 + s55 + 3) mc ms (fun n59 c60 s61 H58 => g_pf H58 (a0) 11 9 (.ref (n53)) (fun H62 => kc + 1 + c4 + 1 + c11 + 1 + c18 + 1 + c24 + 1 + c30 + 1 + c36 + 1 + c42 + 1 + c48 + 1 + c54 + 1 + c60 + 1 ≤ mc ∧ ks + 8 + s5 + 2 + s12 + 1 + s19 + 14 + s25 + 14 + s31 + 4 + s37 + 4 + s43 + 2 + s49 + 2 + s55 + 3 + s61 + 10 ≤ ms ∧ g_mk H62 (n59) (.inr (9, [.int 0, .int 0, .null, .null, .int 0, .int 0, .int 0, .int 0, .null, .int 0])) (fun H63 => g_cI d mX9_init (n59 + 1) H63 [.ref (n59)] (kc + 1 + c4 + 1 + c11 + 1 + c18 + 1 + c24 + 1 + c30 + 1 + c36 + 1 + c42 + 1 + c48 + 1 + c54 + 1 + c60 + 1) (ks + 8 + s5 + 2 + s12 + 1 + s19 + 14 + s25 + 14 + s31 + 4 + s37 + 4 + s43 + 2 + s49 + 2 + s55 + 3 + s61 + 10) mc ms (fun n65 c66 s67 H64 => g_pf H64 (a0) 11 10 (.ref (n59)) (fun H68 => kc + 1 + c4 + 1 + c11 + 1 + c18 + 1 + c24 + 1 + c30 + 1 + c36 + 1 + c42 + 1 + c48 + 1 + c54 + 1 + c60 + 1 + c66 + 1 ≤ mc ∧ ks + 8 + s5 + 2 + s12 + 1 + s19 + 14 + s25 + 14 + s31 + 4 + s37 + 4 + s43 + 2 + s49 + 2 + s55 + 3 + s61 + 10 + s67 + 10 ≤ ms ∧ g_mk H68 (n65) (.inr (9, [.int 0, .int 0, .null, .null, .int 0, .int 0, .int 0, .int 0, .null, .int 0])) (fun H69 => g_cI d mX9_init (n65 + 1) H69 [.ref (n65)] (kc + 1 + c4 + 1 + c11 + 1 + c18 + 1 + c24 + 1 + c30 + 1 + c36 + 1 + c42 + 1 + c48 + 1 + c54 + 1 + c60 + 1 + c66 + 1) (ks + 8 + s5 + 2 + s12 + 1 + s19 + 14 + s25 + 14 + s31 + 4 + s37 + 4 + s43 + 2 + s49 + 2 + s55 + 3 + s61 + 10 + s67 + 10) mc ms (fun n71 c72 s73 H70 => g_pf H70 (a0) 11 11 (.ref (n65)) (fun H74 => kc + 1 + c4 + 1 + c11 + 1 + c18 + 1 + c24 + 1 + c30 + 1 + c36 + 1 + c42 + 1 + c48 + 1 + c54 + 1 + c60 + 1 + c66 + 1 + c72 + 1 ≤ mc ∧ ks + 8 + s5 + 2 + s12 + 1 + s19 + 14 + s25 + 14 + s31 + 4 + s37 + 4 + s43 + 2 + s49 + 2 + s55 + 3 + s61 + 10 + s67 + 10 + s73 + 16 ≤ ms ∧ g_mk H74 (n71) (.inl (4, 16, .inr (.inr (.inr (.inr (fun _ => none)))))) (fun H75 => g_pf H75 (a0) 11 12 (.ref (n71)) (fun H76 => gG d mX11_init mc ms (g_Xv mX11_init n' mc ms P) 155 (n71 + 1) H76 [some (.ref (a0)), some (.int ((0 : Int32)))] [] (kc + 1 + c4 + 1 + c11 + 1 + c18 + 1 + c24 + 1 + c30 + 1 + c36 + 1 + c42 + 1 + c48 + 1 + c54 + 1 + c60 + 1 + c66 + 1 + c72 + 1) (ks + 8 + s5 + 2 + s12 + 1 + s19 + 14 + s25 + 14 + s31 + 4 + s37 + 4 + s43 + 2 + s49 + 2 + s55 + 3 + s61 + 10 + s67 + 10 + s73 + 16)))))))))))))))))))))))))))))))))))))))))) : gG d mX11_init mc ms (g_Xv mX11_init n' mc ms P) 0 n H [some (.ref (a0)), none] [] kc ks := by
  refine gG_aload_n dX11_init_0 rfl rfl ?_
  refine gG_oinit dX11_init_1 lk_X11_1 mi_obj mc_obj hd1 (Nat.le_of_ble_eq_true rfl) ?_
  refine gG_aload_n dX11_init_4 rfl rfl ?_
  obtain ⟨hk1, hk2, H1, eH, h⟩ := h
  refine gG_new dX11_init_5 cn_X11_7 hk1 hk2 ?_
  rw [← eH]
  refine gG_dup dX11_init_8 rfl ?_
  obtain ⟨n3, c4, s5, hnn, hk1, hk2, d2, P2, hdd, hC, h⟩ := h
  refine gG_cIv (As := []) (st := [.ref (n), .ref (a0)]) dX11_init_9 mI_X11_9 hdd rfl rfl (Nat.le_of_ble_eq_true rfl) hnn ⟨hk1, hk2⟩ hC (fun H2 hp => ?_)
  have h := h H2 hp
  obtain ⟨fs, e1, e2, h⟩ := h
  refine gG_pr (Or.inl ⟨_, rfl⟩) dX11_init_12 fl_X11_10 (Or.inr ⟨rfl, _, _, _, rfl, rfl, fd_X11_10⟩) ⟨fs, e1, e2, ?_⟩
  obtain ⟨H6, eH⟩ : ∃ z, z = va_up H2 (a0) (.inr (11, fs.set 0 (.ref (n)))) := ⟨_, rfl⟩
  rw [← eH] at h ⊢
  refine gG_aload_n dX11_init_15 rfl rfl ?_
  obtain ⟨hk1, hk2, H7, eH, h⟩ := h
  refine gG_new dX11_init_16 cn_X11_16 hk1 hk2 ?_
  rw [← eH]
  refine gG_dup dX11_init_19 rfl ?_
  refine gG_aload_n dX11_init_20 rfl rfl ?_
  obtain ⟨fs, q8, e1, e2, h⟩ := h
  refine gG_gr dX11_init_21 fl_X11_10 ⟨fs, q8, e1, e2, ?_⟩
  obtain ⟨n10, c11, s12, hnn, hk1, hk2, d2, P2, hdd, hC, h⟩ := h
  refine gG_cIv (As := [.ref (q8)]) (st := [.ref (n3), .ref (a0)]) dX11_init_24 mI_X11_18 hdd rfl rfl (Nat.le_of_ble_eq_true rfl) hnn ⟨hk1, hk2⟩ hC (fun H9 hp => ?_)
  have h := h H9 hp
  obtain ⟨fs, e1, e2, h⟩ := h
  refine gG_pr (Or.inl ⟨_, rfl⟩) dX11_init_27 fl_X11_21 (Or.inr ⟨rfl, _, _, _, rfl, rfl, fd_X11_21⟩) ⟨fs, e1, e2, ?_⟩
  obtain ⟨H13, eH⟩ : ∃ z, z = va_up H9 (a0) (.inr (11, fs.set 1 (.ref (n3)))) := ⟨_, rfl⟩
  rw [← eH] at h ⊢
  refine gG_aload_n dX11_init_30 rfl rfl ?_
  obtain ⟨hk1, hk2, H14, eH, h⟩ := h
  refine gG_new dX11_init_31 cn_X11_25 hk1 hk2 ?_
  rw [← eH]
  refine gG_dup dX11_init_34 rfl ?_
  refine gG_aload_n dX11_init_35 rfl rfl ?_
  obtain ⟨fs, q15, e1, e2, h⟩ := h
  refine gG_gr dX11_init_36 fl_X11_10 ⟨fs, q15, e1, e2, ?_⟩
  obtain ⟨n17, c18, s19, hnn, hk1, hk2, d2, P2, hdd, hC, h⟩ := h
  refine gG_cIv (As := [.ref (q15)]) (st := [.ref (n10), .ref (a0)]) dX11_init_39 mI_X11_27 hdd rfl rfl (Nat.le_of_ble_eq_true rfl) hnn ⟨hk1, hk2⟩ hC (fun H16 hp => ?_)
  have h := h H16 hp
  obtain ⟨fs, e1, e2, h⟩ := h
  refine gG_pr (Or.inl ⟨_, rfl⟩) dX11_init_42 fl_X11_28 (Or.inr ⟨rfl, _, _, _, rfl, rfl, fd_X11_28⟩) ⟨fs, e1, e2, ?_⟩
  obtain ⟨H20, eH⟩ : ∃ z, z = va_up H16 (a0) (.inr (11, fs.set 2 (.ref (n10)))) := ⟨_, rfl⟩
  rw [← eH] at h ⊢
  refine gG_aload_n dX11_init_45 rfl rfl ?_
  obtain ⟨hk1, hk2, H21, eH, h⟩ := h
  refine gG_new dX11_init_46 cn_X11_32 hk1 hk2 ?_
  rw [← eH]
  refine gG_dup dX11_init_49 rfl ?_
  obtain ⟨n23, c24, s25, hnn, hk1, hk2, d2, P2, hdd, hC, h⟩ := h
  refine gG_cIv (As := []) (st := [.ref (n17), .ref (a0)]) dX11_init_50 mI_X11_34 hdd rfl rfl (Nat.le_of_ble_eq_true rfl) hnn ⟨hk1, hk2⟩ hC (fun H22 hp => ?_)
  have h := h H22 hp
  obtain ⟨fs, e1, e2, h⟩ := h
  refine gG_pr (Or.inl ⟨_, rfl⟩) dX11_init_53 fl_X11_35 (Or.inl rfl) ⟨fs, e1, e2, ?_⟩
  obtain ⟨H26, eH⟩ : ∃ z, z = va_up H22 (a0) (.inr (11, fs.set 3 (.ref (n17)))) := ⟨_, rfl⟩
  rw [← eH] at h ⊢
  refine gG_aload_n dX11_init_56 rfl rfl ?_
  obtain ⟨hk1, hk2, H27, eH, h⟩ := h
  refine gG_new dX11_init_57 cn_X11_32 hk1 hk2 ?_
  rw [← eH]
  refine gG_dup dX11_init_60 rfl ?_
  obtain ⟨n29, c30, s31, hnn, hk1, hk2, d2, P2, hdd, hC, h⟩ := h
  refine gG_cIv (As := []) (st := [.ref (n23), .ref (a0)]) dX11_init_61 mI_X11_34 hdd rfl rfl (Nat.le_of_ble_eq_true rfl) hnn ⟨hk1, hk2⟩ hC (fun H28 hp => ?_)
  have h := h H28 hp
  obtain ⟨fs, e1, e2, h⟩ := h
  refine gG_pr (Or.inl ⟨_, rfl⟩) dX11_init_64 fl_X11_39 (Or.inl rfl) ⟨fs, e1, e2, ?_⟩
  obtain ⟨H32, eH⟩ : ∃ z, z = va_up H28 (a0) (.inr (11, fs.set 4 (.ref (n23)))) := ⟨_, rfl⟩
  rw [← eH] at h ⊢
  refine gG_aload_n dX11_init_67 rfl rfl ?_
  obtain ⟨hk1, hk2, H33, eH, h⟩ := h
  refine gG_new dX11_init_68 cn_X11_42 hk1 hk2 ?_
  rw [← eH]
  refine gG_dup dX11_init_71 rfl ?_
  obtain ⟨n35, c36, s37, hnn, hk1, hk2, d2, P2, hdd, hC, h⟩ := h
  refine gG_cIv (As := []) (st := [.ref (n29), .ref (a0)]) dX11_init_72 mI_X11_44 hdd rfl rfl (Nat.le_of_ble_eq_true rfl) hnn ⟨hk1, hk2⟩ hC (fun H34 hp => ?_)
  have h := h H34 hp
  obtain ⟨fs, e1, e2, h⟩ := h
  refine gG_pr (Or.inl ⟨_, rfl⟩) dX11_init_75 fl_X11_45 (Or.inl rfl) ⟨fs, e1, e2, ?_⟩
  obtain ⟨H38, eH⟩ : ∃ z, z = va_up H34 (a0) (.inr (11, fs.set 5 (.ref (n29)))) := ⟨_, rfl⟩
  rw [← eH] at h ⊢
  refine gG_aload_n dX11_init_78 rfl rfl ?_
  obtain ⟨hk1, hk2, H39, eH, h⟩ := h
  refine gG_new dX11_init_79 cn_X11_42 hk1 hk2 ?_
  rw [← eH]
  refine gG_dup dX11_init_82 rfl ?_
  obtain ⟨n41, c42, s43, hnn, hk1, hk2, d2, P2, hdd, hC, h⟩ := h
  refine gG_cIv (As := []) (st := [.ref (n35), .ref (a0)]) dX11_init_83 mI_X11_44 hdd rfl rfl (Nat.le_of_ble_eq_true rfl) hnn ⟨hk1, hk2⟩ hC (fun H40 hp => ?_)
  have h := h H40 hp
  obtain ⟨fs, e1, e2, h⟩ := h
  refine gG_pr (Or.inl ⟨_, rfl⟩) dX11_init_86 fl_X11_49 (Or.inl rfl) ⟨fs, e1, e2, ?_⟩
  obtain ⟨H44, eH⟩ : ∃ z, z = va_up H40 (a0) (.inr (11, fs.set 6 (.ref (n35)))) := ⟨_, rfl⟩
  rw [← eH] at h ⊢
  refine gG_aload_n dX11_init_89 rfl rfl ?_
  obtain ⟨hk1, hk2, H45, eH, h⟩ := h
  refine gG_new dX11_init_90 cn_X11_52 hk1 hk2 ?_
  rw [← eH]
  refine gG_dup dX11_init_93 rfl ?_
  obtain ⟨n47, c48, s49, hnn, hk1, hk2, d2, P2, hdd, hC, h⟩ := h
  refine gG_cIv (As := []) (st := [.ref (n41), .ref (a0)]) dX11_init_94 mI_X11_54 hdd rfl rfl (Nat.le_of_ble_eq_true rfl) hnn ⟨hk1, hk2⟩ hC (fun H46 hp => ?_)
  have h := h H46 hp
  obtain ⟨fs, e1, e2, h⟩ := h
  refine gG_pr (Or.inl ⟨_, rfl⟩) dX11_init_97 fl_X11_55 (Or.inl rfl) ⟨fs, e1, e2, ?_⟩
  obtain ⟨H50, eH⟩ : ∃ z, z = va_up H46 (a0) (.inr (11, fs.set 7 (.ref (n41)))) := ⟨_, rfl⟩
  rw [← eH] at h ⊢
  refine gG_aload_n dX11_init_100 rfl rfl ?_
  obtain ⟨hk1, hk2, H51, eH, h⟩ := h
  refine gG_new dX11_init_101 cn_X11_52 hk1 hk2 ?_
  rw [← eH]
  refine gG_dup dX11_init_104 rfl ?_
  obtain ⟨n53, c54, s55, hnn, hk1, hk2, d2, P2, hdd, hC, h⟩ := h
  refine gG_cIv (As := []) (st := [.ref (n47), .ref (a0)]) dX11_init_105 mI_X11_54 hdd rfl rfl (Nat.le_of_ble_eq_true rfl) hnn ⟨hk1, hk2⟩ hC (fun H52 hp => ?_)
  have h := h H52 hp
  obtain ⟨fs, e1, e2, h⟩ := h
  refine gG_pr (Or.inl ⟨_, rfl⟩) dX11_init_108 fl_X11_59 (Or.inl rfl) ⟨fs, e1, e2, ?_⟩
  obtain ⟨H56, eH⟩ : ∃ z, z = va_up H52 (a0) (.inr (11, fs.set 8 (.ref (n47)))) := ⟨_, rfl⟩
  rw [← eH] at h ⊢
  refine gG_aload_n dX11_init_111 rfl rfl ?_
  obtain ⟨hk1, hk2, H57, eH, h⟩ := h
  refine gG_new dX11_init_112 cn_X11_62 hk1 hk2 ?_
  rw [← eH]
  refine gG_dup dX11_init_115 rfl ?_
  obtain ⟨n59, c60, s61, hnn, hk1, hk2, d2, P2, hdd, hC, h⟩ := h
  refine gG_cIv (As := []) (st := [.ref (n53), .ref (a0)]) dX11_init_116 mI_X11_64 hdd rfl rfl (Nat.le_of_ble_eq_true rfl) hnn ⟨hk1, hk2⟩ hC (fun H58 hp => ?_)
  have h := h H58 hp
  obtain ⟨fs, e1, e2, h⟩ := h
  refine gG_pr (Or.inl ⟨_, rfl⟩) dX11_init_119 fl_X11_65 (Or.inr ⟨rfl, _, _, _, rfl, rfl, fd_X11_65⟩) ⟨fs, e1, e2, ?_⟩
  obtain ⟨H62, eH⟩ : ∃ z, z = va_up H58 (a0) (.inr (11, fs.set 9 (.ref (n53)))) := ⟨_, rfl⟩
  rw [← eH] at h ⊢
  refine gG_aload_n dX11_init_122 rfl rfl ?_
  obtain ⟨hk1, hk2, H63, eH, h⟩ := h
  refine gG_new dX11_init_123 cn_X11_69 hk1 hk2 ?_
  rw [← eH]
  refine gG_dup dX11_init_126 rfl ?_
  obtain ⟨n65, c66, s67, hnn, hk1, hk2, d2, P2, hdd, hC, h⟩ := h
  refine gG_cIv (As := []) (st := [.ref (n59), .ref (a0)]) dX11_init_127 mI_X11_71 hdd rfl rfl (Nat.le_of_ble_eq_true rfl) hnn ⟨hk1, hk2⟩ hC (fun H64 hp => ?_)
  have h := h H64 hp
  obtain ⟨fs, e1, e2, h⟩ := h
  refine gG_pr (Or.inl ⟨_, rfl⟩) dX11_init_130 fl_X11_72 (Or.inr ⟨rfl, _, _, _, rfl, rfl, fd_X11_72⟩) ⟨fs, e1, e2, ?_⟩
  obtain ⟨H68, eH⟩ : ∃ z, z = va_up H64 (a0) (.inr (11, fs.set 10 (.ref (n59)))) := ⟨_, rfl⟩
  rw [← eH] at h ⊢
  refine gG_aload_n dX11_init_133 rfl rfl ?_
  obtain ⟨hk1, hk2, H69, eH, h⟩ := h
  refine gG_new dX11_init_134 cn_X11_69 hk1 hk2 ?_
  rw [← eH]
  refine gG_dup dX11_init_137 rfl ?_
  obtain ⟨n71, c72, s73, hnn, hk1, hk2, d2, P2, hdd, hC, h⟩ := h
  refine gG_cIv (As := []) (st := [.ref (n65), .ref (a0)]) dX11_init_138 mI_X11_71 hdd rfl rfl (Nat.le_of_ble_eq_true rfl) hnn ⟨hk1, hk2⟩ hC (fun H70 hp => ?_)
  have h := h H70 hp
  obtain ⟨fs, e1, e2, h⟩ := h
  refine gG_pr (Or.inl ⟨_, rfl⟩) dX11_init_141 fl_X11_76 (Or.inr ⟨rfl, _, _, _, rfl, rfl, fd_X11_76⟩) ⟨fs, e1, e2, ?_⟩
  obtain ⟨H74, eH⟩ : ∃ z, z = va_up H70 (a0) (.inr (11, fs.set 11 (.ref (n65)))) := ⟨_, rfl⟩
  rw [← eH] at h ⊢
  refine gG_aload_n dX11_init_144 rfl rfl ?_
  refine gG_bipush (v := 16) dX11_init_145 (by decide) ?_
  obtain ⟨hk1, hk2, H75, eH, h⟩ := h
  refine gG_newW (m1 := 16) dX11_init_147 ck_X11_69 (by decide) (by decide) (by decide) hk1 hk2 ?_
  rw [← eH]
  obtain ⟨fs, e1, e2, h⟩ := h
  refine gG_pr (Or.inr ⟨_, rfl⟩) dX11_init_150 fl_X11_79 (Or.inr ⟨rfl, _, _, _, rfl, rfl, fd_X11_79⟩) ⟨fs, e1, e2, ?_⟩
  obtain ⟨H76, eH⟩ : ∃ z, z = va_up H75 (a0) (.inr (11, fs.set 12 (.ref (n71)))) := ⟨_, rfl⟩
  rw [← eH] at h ⊢
  refine gG_iconst (v := 0) dX11_init_153 (by decide) ?_
  refine gG_istore_n dX11_init_154 rfl (Nat.le_of_ble_eq_true rfl) ?_
  refine gG_locals ?_ h
  exact ⟨rfl, ⟨rfl, trivial⟩⟩
theorem kX11_init_155 {d n n' kc ks mc ms : Nat} {H : gHp} {P : gHp → Prop} {a0 : Nat} {i1 : Int32} (h : ((16 : Int32) ≤ i1 → kc + 1 ≤ mc ∧ ks + 4 ≤ ms ∧ g_mk H (n) (.inl (5, 4, .inr (.inr (.inr (.inr (fun _ => none)))))) (fun H1 => g_pf H1 (a0) 11 15 (.ref (n)) (fun H2 => gG d mX11_init mc ms (g_Xv mX11_init n' mc ms P) 190 (n + 1) H2 [some (.ref (a0)), some (.int ((0 : Int32)))] [] (kc + 1) (ks + 4)))) ∧ (¬ ((16 : Int32) ≤ i1) → g_gr H (a0) 11 12 (fun q3 => kc + 1 ≤ mc ∧ ks + 10 ≤ ms ∧ g_mk H (n) (.inr (9, [.int 0, .int 0, .null, .null, .int 0, .int 0, .int 0, .int 0, .null, .int 0])) (fun H4 => g_cI d mX9_init (n + 1) H4 [.ref (n)] (kc + 1) (ks + 10) mc ms (fun n6 c7 s8 H5 => g_rs 4 9 H5 (q3) (i1) (n) (fun H9 => gG d mX11_init mc ms (g_Xv mX11_init n' mc ms P) 155 (n6) H9 [some (.ref (a0)), some (.int ((i1 + 1)))] [] (kc + 1 + c7) (ks + 10 + s8))))))) : gG d mX11_init mc ms (g_Xv mX11_init n' mc ms P) 155 n H [some (.ref (a0)), some (.int (i1))] [] kc ks := by
  refine gG_iload_n dX11_init_155 rfl rfl ?_
  refine gG_bipush (v := 16) dX11_init_156 (by decide) ?_
  refine gG_ic_ge (tgt := 180) dX11_init_158 (by decide) (fun c => ?_) (fun c => ?_)
  · have h := h.1 c
    refine gG_aload_n dX11_init_180 rfl rfl ?_
    refine gG_iconst (v := 4) dX11_init_181 (by decide) ?_
    obtain ⟨hk1, hk2, H1, eH, h⟩ := h
    refine gG_newM (m1 := 4) dX11_init_182 ck_X11_83 (by decide) (by decide) (by decide) hk1 hk2 ?_
    rw [← eH]
    obtain ⟨fs, e1, e2, h⟩ := h
    refine gG_pr (Or.inr ⟨_, rfl⟩) dX11_init_185 fl_X11_85 (Or.inr ⟨rfl, _, _, _, rfl, rfl, fd_X11_85⟩) ⟨fs, e1, e2, ?_⟩
    obtain ⟨H2, eH⟩ : ∃ z, z = va_up H1 (a0) (.inr (11, fs.set 15 (.ref (n)))) := ⟨_, rfl⟩
    rw [← eH] at h ⊢
    refine gG_iconst (v := 0) dX11_init_188 (by decide) ?_
    refine gG_istore_n dX11_init_189 rfl (Nat.le_of_ble_eq_true rfl) ?_
    refine gG_locals ?_ h
    exact ⟨rfl, ⟨rfl, trivial⟩⟩
  · have h := h.2 c
    refine gG_aload_n dX11_init_161 rfl rfl ?_
    obtain ⟨fs, q3, e1, e2, h⟩ := h
    refine gG_gr dX11_init_162 fl_X11_79 ⟨fs, q3, e1, e2, ?_⟩
    refine gG_iload_n dX11_init_165 rfl rfl ?_
    obtain ⟨hk1, hk2, H4, eH, h⟩ := h
    refine gG_new dX11_init_166 cn_X11_69 hk1 hk2 ?_
    rw [← eH]
    refine gG_dup dX11_init_169 rfl ?_
    obtain ⟨n6, c7, s8, hnn, hk1, hk2, d2, P2, hdd, hC, h⟩ := h
    refine gG_cIv (As := []) (st := [.ref (n), .int (i1), .ref (q3)]) dX11_init_170 mI_X11_71 hdd rfl rfl (Nat.le_of_ble_eq_true rfl) hnn ⟨hk1, hk2⟩ hC (fun H5 hp => ?_)
    have h := h H5 hp
    obtain ⟨m1, f1, vs1, e1, e2, e3, h⟩ := h
    refine gG_aast (t := 4) (ci := 9) (by decide) dX11_init_173 ⟨m1, f1, vs1, e1, e2, e3, ?_⟩
    obtain ⟨H9, eH⟩ : ∃ z, z = va_up H5 (q3) (.inl (4, m1, .inr (.inr (.inr (.inr (va_up f1 (Int32.toNatClampNeg (i1)) (some (n)))))))) := ⟨_, rfl⟩
    rw [← eH] at h ⊢
    refine gG_iinc (v := i1 + 1) dX11_init_174 rfl rfl (Nat.le_of_ble_eq_true rfl) ?_
    refine gG_goto (tgt := 155) dX11_init_177 (by decide) ?_
    refine gG_locals ?_ h
    exact ⟨rfl, ⟨rfl, trivial⟩⟩
theorem kX11_init_190 {d n n' kc ks mc ms : Nat} {H : gHp} {P : gHp → Prop} {a0 : Nat} {i1 : Int32} (h : ((4 : Int32) ≤ i1 → kc + 1 ≤ mc ∧ ks + 7 ≤ ms ∧ g_mk H (n) (.inl (0, 7, .inl (fun _ => 0))) (fun H1 => g_pf H1 (a0) 11 16 (.ref (n)) (fun H2 => n + 1 = n' ∧ kc + 1 = mc ∧ ks + 7 = ms ∧ P H2))) ∧ (¬ ((4 : Int32) ≤ i1) → g_gr H (a0) 11 15 (fun q3 => kc + 1 ≤ mc ∧ ks + 5 ≤ ms ∧ g_mk H (n) (.inr (6, [.int 0, .null, .null, .null, .null])) (fun H4 => g_cI d mX6_init (n + 1) H4 [.ref (n)] (kc + 1) (ks + 5) mc ms (fun n6 c7 s8 H5 => g_rs 5 6 H5 (q3) (i1) (n) (fun H9 => gG d mX11_init mc ms (g_Xv mX11_init n' mc ms P) 190 (n6) H9 [some (.ref (a0)), some (.int ((i1 + 1)))] [] (kc + 1 + c7) (ks + 5 + s8))))))) : gG d mX11_init mc ms (g_Xv mX11_init n' mc ms P) 190 n H [some (.ref (a0)), some (.int (i1))] [] kc ks := by
  refine gG_iload_n dX11_init_190 rfl rfl ?_
  refine gG_iconst (v := 4) dX11_init_191 (by decide) ?_
  refine gG_ic_ge (tgt := 214) dX11_init_192 (by decide) (fun c => ?_) (fun c => ?_)
  · have h := h.1 c
    refine gG_aload_n dX11_init_214 rfl rfl ?_
    refine gG_bipush (v := 7) dX11_init_215 (by decide) ?_
    obtain ⟨hk1, hk2, H1, eH, h⟩ := h
    refine gG_newi (m1 := 7) dX11_init_217 ac_int (by decide) (by decide) (by decide) hk1 hk2 ?_
    rw [← eH]
    obtain ⟨fs, e1, e2, h⟩ := h
    refine gG_pr (Or.inr ⟨_, rfl⟩) dX11_init_219 fl_X11_90 (Or.inr ⟨rfl, _, _, _, rfl, rfl, fd_X11_90⟩) ⟨fs, e1, e2, ?_⟩
    obtain ⟨H2, eH⟩ : ∃ z, z = va_up H1 (a0) (.inr (11, fs.set 16 (.ref (n)))) := ⟨_, rfl⟩
    rw [← eH] at h ⊢
    obtain ⟨z1, z2, z3, h⟩ := h
    exact gG_exit ⟨z1, z2, z3, dX11_init_222, rfl, h⟩
  · have h := h.2 c
    refine gG_aload_n dX11_init_195 rfl rfl ?_
    obtain ⟨fs, q3, e1, e2, h⟩ := h
    refine gG_gr dX11_init_196 fl_X11_85 ⟨fs, q3, e1, e2, ?_⟩
    refine gG_iload_n dX11_init_199 rfl rfl ?_
    obtain ⟨hk1, hk2, H4, eH, h⟩ := h
    refine gG_new dX11_init_200 cn_X11_83 hk1 hk2 ?_
    rw [← eH]
    refine gG_dup dX11_init_203 rfl ?_
    obtain ⟨n6, c7, s8, hnn, hk1, hk2, d2, P2, hdd, hC, h⟩ := h
    refine gG_cIv (As := []) (st := [.ref (n), .int (i1), .ref (q3)]) dX11_init_204 mI_X11_89 hdd rfl rfl (Nat.le_of_ble_eq_true rfl) hnn ⟨hk1, hk2⟩ hC (fun H5 hp => ?_)
    have h := h H5 hp
    obtain ⟨m1, f1, vs1, e1, e2, e3, h⟩ := h
    refine gG_aast (t := 5) (ci := 6) (by decide) dX11_init_207 ⟨m1, f1, vs1, e1, e2, e3, ?_⟩
    obtain ⟨H9, eH⟩ : ∃ z, z = va_up H5 (q3) (.inl (5, m1, .inr (.inr (.inr (.inr (va_up f1 (Int32.toNatClampNeg (i1)) (some (n)))))))) := ⟨_, rfl⟩
    rw [← eH] at h ⊢
    refine gG_iinc (v := i1 + 1) dX11_init_208 rfl rfl (Nat.le_of_ble_eq_true rfl) ?_
    refine gG_goto (tgt := 190) dX11_init_211 (by decide) ?_
    refine gG_locals ?_ h
    exact ⟨rfl, ⟨rfl, trivial⟩⟩

theorem kX12_init_0 {d n n' kc ks mc ms : Nat} {H : gHp} {P : gHp → Prop} {a0 : Nat} (hd1 : 1 ≤ d) (h : kc + 1 ≤ mc ∧ ks + 1000 ≤ ms ∧ g_mk H (n) (.inl (0, 1000, .inl (fun _ => 0))) (fun H1 => g_pf H1 (a0) 12 2 (.ref (n)) (fun H2 => kc + 1 + 1 ≤ mc ∧ ks + 1000 + 6 ≤ ms ∧ g_mk H2 (n + 1) (.inl (0, 6, .inl (fun _ => 0))) (fun H3 => g_pf H3 (a0) 12 10 (.ref (n + 1)) (fun H4 => kc + 2 + 1 ≤ mc ∧ ks + 1006 + 14 ≤ ms ∧ g_mk H4 (n + 2) (.inl (1, 14, .inr (.inl (fun _ => 0)))) (fun H5 => g_pf H5 (a0) 12 11 (.ref (n + 2)) (fun H6 => kc + 3 + 1 ≤ mc ∧ ks + 1020 + 12 ≤ ms ∧ g_mk H6 (n + 3) (.inl (1, 12, .inr (.inl (fun _ => 0)))) (fun H7 => g_pf H7 (a0) 12 12 (.ref (n + 3)) (fun H8 => kc + 4 + 1 ≤ mc ∧ ks + 1032 + 14 ≤ ms ∧ g_mk H8 (n + 4) (.inl (0, 14, .inl (fun _ => 0))) (fun H9 => g_pf H9 (a0) 12 13 (.ref (n + 4)) (fun H10 => kc + 5 + 1 ≤ mc ∧ ks + 1046 + 14 ≤ ms ∧ g_mk H10 (n + 5) (.inl (0, 14, .inl (fun _ => 0))) (fun H11 => g_pf H11 (a0) 12 14 (.ref (n + 5)) (fun H12 => kc + 6 + 1 ≤ mc ∧ ks + 1060 + 14 ≤ ms ∧ g_mk H12 (n + 6) (.inl (0, 14, .inl (fun _ => 0))) (fun H13 => g_pf H13 (a0) 12 15 (.ref (n + 6)) (fun H14 => kc + 7 + 1 ≤ mc ∧ ks + 1074 + 14 ≤ ms ∧ g_mk H14 (n + 7) (.inl (0, 14, .inl (fun _ => 0))) (fun H15 => g_pf H15 (a0) 12 16 (.ref (n + 7)) (fun H16 => kc + 8 + 1 ≤ mc ∧ ks + 1088 + 14 ≤ ms ∧ g_mk H16 (n + 8) (.inl (0, 14, .inl (fun _ => 0))) (fun H17 => g_pf H17 (a0) 12 17 (.ref (n + 8)) (fun H18 => kc + 9 + 1 ≤ mc ∧ ks + 1102 + 12 ≤ ms ∧ g_mk H18 (n + 9) (.inl (0, 12, .inl (fun _ => 0))) (fun H19 => g_pf H19 (a0) 12 18 (.ref (n + 9)) (fun H20 => kc + 10 + 1 ≤ mc ∧ ks + 1114 + 24 ≤ ms ∧ g_mk H20 (n + 10) (.inl (0, 24, .inl (fun _ => 0))) (fun H21 => g_pf H21 (a0) 12 19 (.ref (n + 10)) (fun H22 => kc + 11 + 1 ≤ mc ∧ ks + 1138 + 2 ≤ ms ∧ g_mk H22 (n + 11) (.inl (0, 2, .inl (fun _ => 0))) (fun H23 => g_pf H23 (a0) 12 20 (.ref (n + 11)) (fun H24 => kc + 12 + 1 ≤ mc ∧ ks + 1140 + 2 ≤ ms ∧ g_mk H24 (n + 12) (.inl (0, 2, .inl (fun _ => 0))) (fun H25 => g_pf H25 (a0) 12 21 (.ref (n + 12)) (fun H26 => kc + 13 + 1 ≤ mc ∧ ks + 1142 + 2000 ≤ ms ∧ g_mk H26 (n + 13) (.inl (0, 2000, .inl (fun _ => 0))) (fun H27 => g_pf H27 (a0) 12 22 (.ref (n + 13)) (fun H28 => kc + 14 + 1 ≤ mc ∧ ks + 3142 + 7 ≤ ms ∧ g_mk H28 (n + 14) (.inl (0, 7, .inl (fun _ => 0))) (fun H29 => g_pf H29 (a0) 12 24 (.ref (n + 14)) (fun H30 => kc + 15 + 1 ≤ mc ∧ ks + 3149 + 7 ≤ ms ∧ g_mk H30 (n + 15) (.inl (3, 7, .inl (fun _ => 0))) (fun H31 => g_pf H31 (a0) 12 25 (.ref (n + 15)) (fun H32 => kc + 16 + 1 ≤ mc ∧ ks + 3156 + 7 ≤ ms ∧ g_mk H32 (n + 16) (.inl (0, 7, .inl (fun _ => 0))) (fun H33 => g_pf H33 (a0) 12 26 (.ref (n + 16)) (fun H34 => kc + 17 + 1 ≤ mc ∧ ks + 3163 + 7 ≤ ms ∧ g_mk H34 (n + 17) (.inl (0, 7, .inl (fun _ => 0))) (fun H35 => g_pf H35 (a0) 12 27 (.ref (n + 17)) (fun H36 => kc + 18 + 1 ≤ mc ∧ ks + 3170 + 7 ≤ ms ∧ g_mk H36 (n + 18) (.inl (0, 7, .inl (fun _ => 0))) (fun H37 => g_pf H37 (a0) 12 28 (.ref (n + 18)) (fun H38 => kc + 19 + 1 ≤ mc ∧ ks + 3177 + 7 ≤ ms ∧ g_mk H38 (n + 19) (.inl (0, 7, .inl (fun _ => 0))) (fun H39 => g_pf H39 (a0) 12 29 (.ref (n + 19)) (fun H40 => kc + 20 + 1 ≤ mc ∧ ks + 3184 + 7 ≤ ms ∧ g_mk H40 (n + 20) (.inl (0, 7, .inl (fun _ => 0))) (fun H41 => g_pf H41 (a0) 12 30 (.ref (n + 20)) (fun H42 => kc + 21 + 1 ≤ mc ∧ ks + 3191 + 7 ≤ ms ∧ g_mk H42 (n + 21) (.inl (0, 7, .inl (fun _ => 0))) (fun H43 => g_pf H43 (a0) 12 31 (.ref (n + 21)) (fun H44 => kc + 22 + 1 ≤ mc ∧ ks + 3198 + 7 ≤ ms ∧ g_mk H44 (n + 22) (.inl (0, 7, .inl (fun _ => 0))) (fun H45 => g_pf H45 (a0) 12 32 (.ref (n + 22)) (fun H46 => kc + 23 + 1 ≤ mc ∧ ks + 3205 + 7 ≤ ms ∧ g_mk H46 (n + 23) (.inl (0, 7, .inl (fun _ => 0))) (fun H47 => g_pf H47 (a0) 12 33 (.ref (n + 23)) (fun H48 => kc + 24 + 1 ≤ mc ∧ ks + 3212 + 7 ≤ ms ∧ g_mk H48 (n + 24) (.inl (0, 7, .inl (fun _ => 0))) (fun H49 => g_pf H49 (a0) 12 34 (.ref (n + 24)) (fun H50 => kc + 25 + 1 ≤ mc ∧ ks + 3219 + 20 ≤ ms ∧ g_mk H50 (n + 25) (.inl (0, 20, .inl (fun _ => 0))) (fun H51 => g_pf H51 (a0) 12 35 (.ref (n + 25)) (fun H52 => kc + 26 + 1 ≤ mc ∧ ks + 3239 + 6 ≤ ms ∧ g_mk H52 (n + 26) (.inl (0, 6, .inl (fun _ => 0))) (fun H53 => g_pf H53 (a0) 12 38 (.ref (n + 26)) (fun H54 => kc + 27 + 1 ≤ mc ∧ ks + 3245 + 240 ≤ ms ∧ g_mk H54 (n + 27) (.inl (0, 240, .inl (fun _ => 0))) (fun H55 => g_pf H55 (a0) 12 39 (.ref (n + 27)) (fun H56 => kc + 28 + 1 ≤ mc ∧ ks + 3485 + 240 ≤ ms ∧ g_mk H56 (n + 28) (.inl (0, 240, .inl (fun _ => 0))) (fun H57 => g_pf H57 (a0) 12 40 (.ref (n + 28)) (fun H58 => kc + 29 + 1 ≤ mc ∧ ks + 3725 + 240 ≤ ms ∧ g_mk H58 (n + 29) (.inl (0, 240, .inl (fun _ => 0))) (fun H59 => g_pf H59 (a0) 12 41 (.ref (n + 29)) (fun H60 => kc + 30 + 1 ≤ mc ∧ ks + 3965 + 6 ≤ ms ∧ g_mk H60 (n + 30) (.inl (0, 6, .inl (fun _ => 0))) (fun H61 => g_pf H61 (a0) 12 42 (.ref (n + 30)) (fun H62 => kc + 31 + 1 ≤ mc ∧ ks + 3971 + 42 ≤ ms ∧ g_mk H62 (n + 31) (.inl (0, 42, .inl (fun _ => 0))) (fun H63 => g_pf H63 (a0) 12 43 (.ref (n + 31)) (fun H64 => kc + 32 + 1 ≤ mc ∧ ks + 4013 + 5 ≤ ms ∧ g_mk H64 (n + 32) (.inl (0, 5, .inl (fun _ => 0))) (fun H65 => g_pf H65 (a0) 12 44 (.ref (n + 32)) (fun H66 => kc + 33 + 1 ≤ mc ∧ ks + 4018 + 40 ≤ ms ∧ g_mk H66 (n + 33) (.inl (0, 40, .inl (fun _ => 0))) (fun H67 => g_pf H67 (a0) 12 45 (.ref (n + 33)) (fun H68 => kc + 34 + 1 ≤ mc ∧ ks + 4058 + 40 ≤ ms ∧ g_mk H68 (n + 34) (.inl (3, 40, .inl (fun _ => 0))) (fun H69 => g_pf H69 (a0) 12 46 (.ref (n + 34)) (fun H70 => kc + 35 + 1 ≤ mc ∧ ks + 4098 + 59 ≤ ms ∧ g_mk H70 (n + 35) (.inl (0, 59, .inl (fun _ => 0))) (fun H71 => g_pf H71 (a0) 12 47 (.ref (n + 35)) (fun H72 => kc + 36 + 1 ≤ mc ∧ ks + 4157 + 59 ≤ ms ∧ g_mk H72 (n + 36) (.inl (0, 59, .inl (fun _ => 0))) (fun H73 => g_pf H73 (a0) 12 48 (.ref (n + 36)) (fun H74 => kc + 37 + 1 ≤ mc ∧ ks + 4216 + 59 ≤ ms ∧ g_mk H74 (n + 37) (.inl (0, 59, .inl (fun _ => 0))) (fun H75 => g_pf H75 (a0) 12 49 (.ref (n + 37)) (fun H76 => kc + 38 + 1 ≤ mc ∧ ks + 4275 + 236 ≤ ms ∧ g_mk H76 (n + 38) (.inl (0, 236, .inl (fun _ => 0))) (fun H77 => g_pf H77 (a0) 12 50 (.ref (n + 38)) (fun H78 => kc + 39 + 1 ≤ mc ∧ ks + 4511 + 944 ≤ ms ∧ g_mk H78 (n + 39) (.inl (0, 944, .inl (fun _ => 0))) (fun H79 => g_pf H79 (a0) 12 51 (.ref (n + 39)) (fun H80 => kc + 40 + 1 ≤ mc ∧ ks + 5455 + 4 ≤ ms ∧ g_mk H80 (n + 40) (.inl (3, 4, .inl (fun _ => 0))) (fun H81 => g_pf H81 (a0) 12 52 (.ref (n + 40)) (fun H82 => kc + 41 + 1 ≤ mc ∧ ks + 5459 + 7 ≤ ms ∧ g_mk H82 (n + 41) (.inl (0, 7, .inl (fun _ => 0))) (fun H83 => g_pf H83 (a0) 12 54 (.ref (n + 41)) (fun H84 => kc + 42 + 1 ≤ mc ∧ ks + 5466 + 7 ≤ ms ∧ g_mk H84 (n + 42) (.inl (0, 7, .inl (fun _ => 0))) (fun H85 => g_pf H85 (a0) 12 57 (.ref (n + 42)) (fun H86 => kc + 43 + 1 ≤ mc ∧ ks + 5473 + 10 ≤ ms ∧ g_mk H86 (n + 43) (.inl (0, 10, .inl (fun _ => 0))) (fun H87 => g_pf H87 (a0) 12 58 (.ref (n + 43)) (fun H88 => kc + 44 ≤ mc ∧ ks + 5483 ≤ ms ∧ (∃ fs, H88 (a0) = .inr (12, fs)) ∧ g_cvd d mX12_fresh0 (n + 44) H88 [.ref (a0)] (fun H89 => n + 44 = n' ∧ kc + 44 = mc ∧ ks + 5483 = ms ∧ P H89)))))))))))))))))))))))))))))))))))))))))))))))))))))))))))))))))))))))))))))))))))))))))) : gG d mX12_init mc ms (g_Xv mX12_init n' mc ms P) 0 n H [some (.ref (a0))] [] kc ks := by
  refine gG_aload_n dX12_init_0 rfl rfl ?_
  refine gG_oinit dX12_init_1 lk_X12_1 mi_obj mc_obj hd1 (Nat.le_of_ble_eq_true rfl) ?_
  refine gG_aload_n dX12_init_4 rfl rfl ?_
  refine gG_sipush (v := 1000) dX12_init_5 (by decide) ?_
  obtain ⟨hk1, hk2, H1, eH, h⟩ := h
  refine gG_newi (m1 := 1000) dX12_init_8 ac_int (by decide) (by decide) (by decide) hk1 hk2 ?_
  rw [← eH]
  obtain ⟨fs, e1, e2, h⟩ := h
  refine gG_pr (Or.inr ⟨_, rfl⟩) dX12_init_10 fl_X12_7 (Or.inr ⟨rfl, _, _, _, rfl, rfl, fd_X12_7⟩) ⟨fs, e1, e2, ?_⟩
  obtain ⟨H2, eH⟩ : ∃ z, z = va_up H1 (a0) (.inr (12, fs.set 2 (.ref (n)))) := ⟨_, rfl⟩
  rw [← eH] at h ⊢
  refine gG_aload_n dX12_init_13 rfl rfl ?_
  refine gG_bipush (v := 6) dX12_init_14 (by decide) ?_
  obtain ⟨hk1, hk2, H3, eH, h⟩ := h
  refine gG_newi (m1 := 6) dX12_init_16 ac_int (by decide) (by decide) (by decide) hk1 hk2 ?_
  rw [← eH]
  obtain ⟨fs, e1, e2, h⟩ := h
  refine gG_pr (Or.inr ⟨_, rfl⟩) dX12_init_18 fl_X12_13 (Or.inr ⟨rfl, _, _, _, rfl, rfl, fd_X12_13⟩) ⟨fs, e1, e2, ?_⟩
  obtain ⟨H4, eH⟩ : ∃ z, z = va_up H3 (a0) (.inr (12, fs.set 10 (.ref (n + 1)))) := ⟨_, rfl⟩
  rw [← eH] at h ⊢
  refine gG_aload_n dX12_init_21 rfl rfl ?_
  refine gG_bipush (v := 14) dX12_init_22 (by decide) ?_
  obtain ⟨hk1, hk2, H5, eH, h⟩ := h
  refine gG_newl (m1 := 14) dX12_init_24 ac_long (by decide) (by decide) (by decide) hk1 hk2 ?_
  rw [← eH]
  obtain ⟨fs, e1, e2, h⟩ := h
  refine gG_pr (Or.inr ⟨_, rfl⟩) dX12_init_26 fl_X12_16 (Or.inr ⟨rfl, _, _, _, rfl, rfl, fd_X12_16⟩) ⟨fs, e1, e2, ?_⟩
  obtain ⟨H6, eH⟩ : ∃ z, z = va_up H5 (a0) (.inr (12, fs.set 11 (.ref (n + 2)))) := ⟨_, rfl⟩
  rw [← eH] at h ⊢
  refine gG_aload_n dX12_init_29 rfl rfl ?_
  refine gG_bipush (v := 12) dX12_init_30 (by decide) ?_
  obtain ⟨hk1, hk2, H7, eH, h⟩ := h
  refine gG_newl (m1 := 12) dX12_init_32 ac_long (by decide) (by decide) (by decide) hk1 hk2 ?_
  rw [← eH]
  obtain ⟨fs, e1, e2, h⟩ := h
  refine gG_pr (Or.inr ⟨_, rfl⟩) dX12_init_34 fl_X12_20 (Or.inr ⟨rfl, _, _, _, rfl, rfl, fd_X12_20⟩) ⟨fs, e1, e2, ?_⟩
  obtain ⟨H8, eH⟩ : ∃ z, z = va_up H7 (a0) (.inr (12, fs.set 12 (.ref (n + 3)))) := ⟨_, rfl⟩
  rw [← eH] at h ⊢
  refine gG_aload_n dX12_init_37 rfl rfl ?_
  refine gG_bipush (v := 14) dX12_init_38 (by decide) ?_
  obtain ⟨hk1, hk2, H9, eH, h⟩ := h
  refine gG_newi (m1 := 14) dX12_init_40 ac_int (by decide) (by decide) (by decide) hk1 hk2 ?_
  rw [← eH]
  obtain ⟨fs, e1, e2, h⟩ := h
  refine gG_pr (Or.inr ⟨_, rfl⟩) dX12_init_42 fl_X12_23 (Or.inr ⟨rfl, _, _, _, rfl, rfl, fd_X12_23⟩) ⟨fs, e1, e2, ?_⟩
  obtain ⟨H10, eH⟩ : ∃ z, z = va_up H9 (a0) (.inr (12, fs.set 13 (.ref (n + 4)))) := ⟨_, rfl⟩
  rw [← eH] at h ⊢
  refine gG_aload_n dX12_init_45 rfl rfl ?_
  refine gG_bipush (v := 14) dX12_init_46 (by decide) ?_
  obtain ⟨hk1, hk2, H11, eH, h⟩ := h
  refine gG_newi (m1 := 14) dX12_init_48 ac_int (by decide) (by decide) (by decide) hk1 hk2 ?_
  rw [← eH]
  obtain ⟨fs, e1, e2, h⟩ := h
  refine gG_pr (Or.inr ⟨_, rfl⟩) dX12_init_50 fl_X12_26 (Or.inr ⟨rfl, _, _, _, rfl, rfl, fd_X12_26⟩) ⟨fs, e1, e2, ?_⟩
  obtain ⟨H12, eH⟩ : ∃ z, z = va_up H11 (a0) (.inr (12, fs.set 14 (.ref (n + 5)))) := ⟨_, rfl⟩
  rw [← eH] at h ⊢
  refine gG_aload_n dX12_init_53 rfl rfl ?_
  refine gG_bipush (v := 14) dX12_init_54 (by decide) ?_
  obtain ⟨hk1, hk2, H13, eH, h⟩ := h
  refine gG_newi (m1 := 14) dX12_init_56 ac_int (by decide) (by decide) (by decide) hk1 hk2 ?_
  rw [← eH]
  obtain ⟨fs, e1, e2, h⟩ := h
  refine gG_pr (Or.inr ⟨_, rfl⟩) dX12_init_58 fl_X12_29 (Or.inr ⟨rfl, _, _, _, rfl, rfl, fd_X12_29⟩) ⟨fs, e1, e2, ?_⟩
  obtain ⟨H14, eH⟩ : ∃ z, z = va_up H13 (a0) (.inr (12, fs.set 15 (.ref (n + 6)))) := ⟨_, rfl⟩
  rw [← eH] at h ⊢
  refine gG_aload_n dX12_init_61 rfl rfl ?_
  refine gG_bipush (v := 14) dX12_init_62 (by decide) ?_
  obtain ⟨hk1, hk2, H15, eH, h⟩ := h
  refine gG_newi (m1 := 14) dX12_init_64 ac_int (by decide) (by decide) (by decide) hk1 hk2 ?_
  rw [← eH]
  obtain ⟨fs, e1, e2, h⟩ := h
  refine gG_pr (Or.inr ⟨_, rfl⟩) dX12_init_66 fl_X12_32 (Or.inr ⟨rfl, _, _, _, rfl, rfl, fd_X12_32⟩) ⟨fs, e1, e2, ?_⟩
  obtain ⟨H16, eH⟩ : ∃ z, z = va_up H15 (a0) (.inr (12, fs.set 16 (.ref (n + 7)))) := ⟨_, rfl⟩
  rw [← eH] at h ⊢
  refine gG_aload_n dX12_init_69 rfl rfl ?_
  refine gG_bipush (v := 14) dX12_init_70 (by decide) ?_
  obtain ⟨hk1, hk2, H17, eH, h⟩ := h
  refine gG_newi (m1 := 14) dX12_init_72 ac_int (by decide) (by decide) (by decide) hk1 hk2 ?_
  rw [← eH]
  obtain ⟨fs, e1, e2, h⟩ := h
  refine gG_pr (Or.inr ⟨_, rfl⟩) dX12_init_74 fl_X12_35 (Or.inr ⟨rfl, _, _, _, rfl, rfl, fd_X12_35⟩) ⟨fs, e1, e2, ?_⟩
  obtain ⟨H18, eH⟩ : ∃ z, z = va_up H17 (a0) (.inr (12, fs.set 17 (.ref (n + 8)))) := ⟨_, rfl⟩
  rw [← eH] at h ⊢
  refine gG_aload_n dX12_init_77 rfl rfl ?_
  refine gG_bipush (v := 12) dX12_init_78 (by decide) ?_
  obtain ⟨hk1, hk2, H19, eH, h⟩ := h
  refine gG_newi (m1 := 12) dX12_init_80 ac_int (by decide) (by decide) (by decide) hk1 hk2 ?_
  rw [← eH]
  obtain ⟨fs, e1, e2, h⟩ := h
  refine gG_pr (Or.inr ⟨_, rfl⟩) dX12_init_82 fl_X12_38 (Or.inr ⟨rfl, _, _, _, rfl, rfl, fd_X12_38⟩) ⟨fs, e1, e2, ?_⟩
  obtain ⟨H20, eH⟩ : ∃ z, z = va_up H19 (a0) (.inr (12, fs.set 18 (.ref (n + 9)))) := ⟨_, rfl⟩
  rw [← eH] at h ⊢
  refine gG_aload_n dX12_init_85 rfl rfl ?_
  refine gG_bipush (v := 24) dX12_init_86 (by decide) ?_
  obtain ⟨hk1, hk2, H21, eH, h⟩ := h
  refine gG_newi (m1 := 24) dX12_init_88 ac_int (by decide) (by decide) (by decide) hk1 hk2 ?_
  rw [← eH]
  obtain ⟨fs, e1, e2, h⟩ := h
  refine gG_pr (Or.inr ⟨_, rfl⟩) dX12_init_90 fl_X12_41 (Or.inr ⟨rfl, _, _, _, rfl, rfl, fd_X12_41⟩) ⟨fs, e1, e2, ?_⟩
  obtain ⟨H22, eH⟩ : ∃ z, z = va_up H21 (a0) (.inr (12, fs.set 19 (.ref (n + 10)))) := ⟨_, rfl⟩
  rw [← eH] at h ⊢
  refine gG_aload_n dX12_init_93 rfl rfl ?_
  refine gG_iconst (v := 2) dX12_init_94 (by decide) ?_
  obtain ⟨hk1, hk2, H23, eH, h⟩ := h
  refine gG_newi (m1 := 2) dX12_init_95 ac_int (by decide) (by decide) (by decide) hk1 hk2 ?_
  rw [← eH]
  obtain ⟨fs, e1, e2, h⟩ := h
  refine gG_pr (Or.inr ⟨_, rfl⟩) dX12_init_97 fl_X12_44 (Or.inr ⟨rfl, _, _, _, rfl, rfl, fd_X12_44⟩) ⟨fs, e1, e2, ?_⟩
  obtain ⟨H24, eH⟩ : ∃ z, z = va_up H23 (a0) (.inr (12, fs.set 20 (.ref (n + 11)))) := ⟨_, rfl⟩
  rw [← eH] at h ⊢
  refine gG_aload_n dX12_init_100 rfl rfl ?_
  refine gG_iconst (v := 2) dX12_init_101 (by decide) ?_
  obtain ⟨hk1, hk2, H25, eH, h⟩ := h
  refine gG_newi (m1 := 2) dX12_init_102 ac_int (by decide) (by decide) (by decide) hk1 hk2 ?_
  rw [← eH]
  obtain ⟨fs, e1, e2, h⟩ := h
  refine gG_pr (Or.inr ⟨_, rfl⟩) dX12_init_104 fl_X12_47 (Or.inr ⟨rfl, _, _, _, rfl, rfl, fd_X12_47⟩) ⟨fs, e1, e2, ?_⟩
  obtain ⟨H26, eH⟩ : ∃ z, z = va_up H25 (a0) (.inr (12, fs.set 21 (.ref (n + 12)))) := ⟨_, rfl⟩
  rw [← eH] at h ⊢
  refine gG_aload_n dX12_init_107 rfl rfl ?_
  refine gG_sipush (v := 2000) dX12_init_108 (by decide) ?_
  obtain ⟨hk1, hk2, H27, eH, h⟩ := h
  refine gG_newi (m1 := 2000) dX12_init_111 ac_int (by decide) (by decide) (by decide) hk1 hk2 ?_
  rw [← eH]
  obtain ⟨fs, e1, e2, h⟩ := h
  refine gG_pr (Or.inr ⟨_, rfl⟩) dX12_init_113 fl_X12_50 (Or.inr ⟨rfl, _, _, _, rfl, rfl, fd_X12_50⟩) ⟨fs, e1, e2, ?_⟩
  obtain ⟨H28, eH⟩ : ∃ z, z = va_up H27 (a0) (.inr (12, fs.set 22 (.ref (n + 13)))) := ⟨_, rfl⟩
  rw [← eH] at h ⊢
  refine gG_aload_n dX12_init_116 rfl rfl ?_
  refine gG_bipush (v := 7) dX12_init_117 (by decide) ?_
  obtain ⟨hk1, hk2, H29, eH, h⟩ := h
  refine gG_newi (m1 := 7) dX12_init_119 ac_int (by decide) (by decide) (by decide) hk1 hk2 ?_
  rw [← eH]
  obtain ⟨fs, e1, e2, h⟩ := h
  refine gG_pr (Or.inr ⟨_, rfl⟩) dX12_init_121 fl_X12_53 (Or.inr ⟨rfl, _, _, _, rfl, rfl, fd_X12_53⟩) ⟨fs, e1, e2, ?_⟩
  obtain ⟨H30, eH⟩ : ∃ z, z = va_up H29 (a0) (.inr (12, fs.set 24 (.ref (n + 14)))) := ⟨_, rfl⟩
  rw [← eH] at h ⊢
  refine gG_aload_n dX12_init_124 rfl rfl ?_
  refine gG_bipush (v := 7) dX12_init_125 (by decide) ?_
  obtain ⟨hk1, hk2, H31, eH, h⟩ := h
  refine gG_newz (m1 := 7) dX12_init_127 ac_boolean (by decide) (by decide) (by decide) hk1 hk2 ?_
  rw [← eH]
  obtain ⟨fs, e1, e2, h⟩ := h
  refine gG_pr (Or.inr ⟨_, rfl⟩) dX12_init_129 fl_X12_56 (Or.inr ⟨rfl, _, _, _, rfl, rfl, fd_X12_56⟩) ⟨fs, e1, e2, ?_⟩
  obtain ⟨H32, eH⟩ : ∃ z, z = va_up H31 (a0) (.inr (12, fs.set 25 (.ref (n + 15)))) := ⟨_, rfl⟩
  rw [← eH] at h ⊢
  refine gG_aload_n dX12_init_132 rfl rfl ?_
  refine gG_bipush (v := 7) dX12_init_133 (by decide) ?_
  obtain ⟨hk1, hk2, H33, eH, h⟩ := h
  refine gG_newi (m1 := 7) dX12_init_135 ac_int (by decide) (by decide) (by decide) hk1 hk2 ?_
  rw [← eH]
  obtain ⟨fs, e1, e2, h⟩ := h
  refine gG_pr (Or.inr ⟨_, rfl⟩) dX12_init_137 fl_X12_60 (Or.inr ⟨rfl, _, _, _, rfl, rfl, fd_X12_60⟩) ⟨fs, e1, e2, ?_⟩
  obtain ⟨H34, eH⟩ : ∃ z, z = va_up H33 (a0) (.inr (12, fs.set 26 (.ref (n + 16)))) := ⟨_, rfl⟩
  rw [← eH] at h ⊢
  refine gG_aload_n dX12_init_140 rfl rfl ?_
  refine gG_bipush (v := 7) dX12_init_141 (by decide) ?_
  obtain ⟨hk1, hk2, H35, eH, h⟩ := h
  refine gG_newi (m1 := 7) dX12_init_143 ac_int (by decide) (by decide) (by decide) hk1 hk2 ?_
  rw [← eH]
  obtain ⟨fs, e1, e2, h⟩ := h
  refine gG_pr (Or.inr ⟨_, rfl⟩) dX12_init_145 fl_X12_63 (Or.inr ⟨rfl, _, _, _, rfl, rfl, fd_X12_63⟩) ⟨fs, e1, e2, ?_⟩
  obtain ⟨H36, eH⟩ : ∃ z, z = va_up H35 (a0) (.inr (12, fs.set 27 (.ref (n + 17)))) := ⟨_, rfl⟩
  rw [← eH] at h ⊢
  refine gG_aload_n dX12_init_148 rfl rfl ?_
  refine gG_bipush (v := 7) dX12_init_149 (by decide) ?_
  obtain ⟨hk1, hk2, H37, eH, h⟩ := h
  refine gG_newi (m1 := 7) dX12_init_151 ac_int (by decide) (by decide) (by decide) hk1 hk2 ?_
  rw [← eH]
  obtain ⟨fs, e1, e2, h⟩ := h
  refine gG_pr (Or.inr ⟨_, rfl⟩) dX12_init_153 fl_X12_66 (Or.inr ⟨rfl, _, _, _, rfl, rfl, fd_X12_66⟩) ⟨fs, e1, e2, ?_⟩
  obtain ⟨H38, eH⟩ : ∃ z, z = va_up H37 (a0) (.inr (12, fs.set 28 (.ref (n + 18)))) := ⟨_, rfl⟩
  rw [← eH] at h ⊢
  refine gG_aload_n dX12_init_156 rfl rfl ?_
  refine gG_bipush (v := 7) dX12_init_157 (by decide) ?_
  obtain ⟨hk1, hk2, H39, eH, h⟩ := h
  refine gG_newi (m1 := 7) dX12_init_159 ac_int (by decide) (by decide) (by decide) hk1 hk2 ?_
  rw [← eH]
  obtain ⟨fs, e1, e2, h⟩ := h
  refine gG_pr (Or.inr ⟨_, rfl⟩) dX12_init_161 fl_X12_69 (Or.inr ⟨rfl, _, _, _, rfl, rfl, fd_X12_69⟩) ⟨fs, e1, e2, ?_⟩
  obtain ⟨H40, eH⟩ : ∃ z, z = va_up H39 (a0) (.inr (12, fs.set 29 (.ref (n + 19)))) := ⟨_, rfl⟩
  rw [← eH] at h ⊢
  refine gG_aload_n dX12_init_164 rfl rfl ?_
  refine gG_bipush (v := 7) dX12_init_165 (by decide) ?_
  obtain ⟨hk1, hk2, H41, eH, h⟩ := h
  refine gG_newi (m1 := 7) dX12_init_167 ac_int (by decide) (by decide) (by decide) hk1 hk2 ?_
  rw [← eH]
  obtain ⟨fs, e1, e2, h⟩ := h
  refine gG_pr (Or.inr ⟨_, rfl⟩) dX12_init_169 fl_X12_72 (Or.inr ⟨rfl, _, _, _, rfl, rfl, fd_X12_72⟩) ⟨fs, e1, e2, ?_⟩
  obtain ⟨H42, eH⟩ : ∃ z, z = va_up H41 (a0) (.inr (12, fs.set 30 (.ref (n + 20)))) := ⟨_, rfl⟩
  rw [← eH] at h ⊢
  refine gG_aload_n dX12_init_172 rfl rfl ?_
  refine gG_bipush (v := 7) dX12_init_173 (by decide) ?_
  obtain ⟨hk1, hk2, H43, eH, h⟩ := h
  refine gG_newi (m1 := 7) dX12_init_175 ac_int (by decide) (by decide) (by decide) hk1 hk2 ?_
  rw [← eH]
  obtain ⟨fs, e1, e2, h⟩ := h
  refine gG_pr (Or.inr ⟨_, rfl⟩) dX12_init_177 fl_X12_75 (Or.inr ⟨rfl, _, _, _, rfl, rfl, fd_X12_75⟩) ⟨fs, e1, e2, ?_⟩
  obtain ⟨H44, eH⟩ : ∃ z, z = va_up H43 (a0) (.inr (12, fs.set 31 (.ref (n + 21)))) := ⟨_, rfl⟩
  rw [← eH] at h ⊢
  refine gG_aload_n dX12_init_180 rfl rfl ?_
  refine gG_bipush (v := 7) dX12_init_181 (by decide) ?_
  obtain ⟨hk1, hk2, H45, eH, h⟩ := h
  refine gG_newi (m1 := 7) dX12_init_183 ac_int (by decide) (by decide) (by decide) hk1 hk2 ?_
  rw [← eH]
  obtain ⟨fs, e1, e2, h⟩ := h
  refine gG_pr (Or.inr ⟨_, rfl⟩) dX12_init_185 fl_X12_78 (Or.inr ⟨rfl, _, _, _, rfl, rfl, fd_X12_78⟩) ⟨fs, e1, e2, ?_⟩
  obtain ⟨H46, eH⟩ : ∃ z, z = va_up H45 (a0) (.inr (12, fs.set 32 (.ref (n + 22)))) := ⟨_, rfl⟩
  rw [← eH] at h ⊢
  refine gG_aload_n dX12_init_188 rfl rfl ?_
  refine gG_bipush (v := 7) dX12_init_189 (by decide) ?_
  obtain ⟨hk1, hk2, H47, eH, h⟩ := h
  refine gG_newi (m1 := 7) dX12_init_191 ac_int (by decide) (by decide) (by decide) hk1 hk2 ?_
  rw [← eH]
  obtain ⟨fs, e1, e2, h⟩ := h
  refine gG_pr (Or.inr ⟨_, rfl⟩) dX12_init_193 fl_X12_81 (Or.inr ⟨rfl, _, _, _, rfl, rfl, fd_X12_81⟩) ⟨fs, e1, e2, ?_⟩
  obtain ⟨H48, eH⟩ : ∃ z, z = va_up H47 (a0) (.inr (12, fs.set 33 (.ref (n + 23)))) := ⟨_, rfl⟩
  rw [← eH] at h ⊢
  refine gG_aload_n dX12_init_196 rfl rfl ?_
  refine gG_bipush (v := 7) dX12_init_197 (by decide) ?_
  obtain ⟨hk1, hk2, H49, eH, h⟩ := h
  refine gG_newi (m1 := 7) dX12_init_199 ac_int (by decide) (by decide) (by decide) hk1 hk2 ?_
  rw [← eH]
  obtain ⟨fs, e1, e2, h⟩ := h
  refine gG_pr (Or.inr ⟨_, rfl⟩) dX12_init_201 fl_X12_84 (Or.inr ⟨rfl, _, _, _, rfl, rfl, fd_X12_84⟩) ⟨fs, e1, e2, ?_⟩
  obtain ⟨H50, eH⟩ : ∃ z, z = va_up H49 (a0) (.inr (12, fs.set 34 (.ref (n + 24)))) := ⟨_, rfl⟩
  rw [← eH] at h ⊢
  refine gG_aload_n dX12_init_204 rfl rfl ?_
  refine gG_bipush (v := 20) dX12_init_205 (by decide) ?_
  obtain ⟨hk1, hk2, H51, eH, h⟩ := h
  refine gG_newi (m1 := 20) dX12_init_207 ac_int (by decide) (by decide) (by decide) hk1 hk2 ?_
  rw [← eH]
  obtain ⟨fs, e1, e2, h⟩ := h
  refine gG_pr (Or.inr ⟨_, rfl⟩) dX12_init_209 fl_X12_87 (Or.inr ⟨rfl, _, _, _, rfl, rfl, fd_X12_87⟩) ⟨fs, e1, e2, ?_⟩
  obtain ⟨H52, eH⟩ : ∃ z, z = va_up H51 (a0) (.inr (12, fs.set 35 (.ref (n + 25)))) := ⟨_, rfl⟩
  rw [← eH] at h ⊢
  refine gG_aload_n dX12_init_212 rfl rfl ?_
  refine gG_bipush (v := 6) dX12_init_213 (by decide) ?_
  obtain ⟨hk1, hk2, H53, eH, h⟩ := h
  refine gG_newi (m1 := 6) dX12_init_215 ac_int (by decide) (by decide) (by decide) hk1 hk2 ?_
  rw [← eH]
  obtain ⟨fs, e1, e2, h⟩ := h
  refine gG_pr (Or.inr ⟨_, rfl⟩) dX12_init_217 fl_X12_90 (Or.inr ⟨rfl, _, _, _, rfl, rfl, fd_X12_90⟩) ⟨fs, e1, e2, ?_⟩
  obtain ⟨H54, eH⟩ : ∃ z, z = va_up H53 (a0) (.inr (12, fs.set 38 (.ref (n + 26)))) := ⟨_, rfl⟩
  rw [← eH] at h ⊢
  refine gG_aload_n dX12_init_220 rfl rfl ?_
  refine gG_sipush (v := 240) dX12_init_221 (by decide) ?_
  obtain ⟨hk1, hk2, H55, eH, h⟩ := h
  refine gG_newi (m1 := 240) dX12_init_224 ac_int (by decide) (by decide) (by decide) hk1 hk2 ?_
  rw [← eH]
  obtain ⟨fs, e1, e2, h⟩ := h
  refine gG_pr (Or.inr ⟨_, rfl⟩) dX12_init_226 fl_X12_93 (Or.inr ⟨rfl, _, _, _, rfl, rfl, fd_X12_93⟩) ⟨fs, e1, e2, ?_⟩
  obtain ⟨H56, eH⟩ : ∃ z, z = va_up H55 (a0) (.inr (12, fs.set 39 (.ref (n + 27)))) := ⟨_, rfl⟩
  rw [← eH] at h ⊢
  refine gG_aload_n dX12_init_229 rfl rfl ?_
  refine gG_sipush (v := 240) dX12_init_230 (by decide) ?_
  obtain ⟨hk1, hk2, H57, eH, h⟩ := h
  refine gG_newi (m1 := 240) dX12_init_233 ac_int (by decide) (by decide) (by decide) hk1 hk2 ?_
  rw [← eH]
  obtain ⟨fs, e1, e2, h⟩ := h
  refine gG_pr (Or.inr ⟨_, rfl⟩) dX12_init_235 fl_X12_96 (Or.inr ⟨rfl, _, _, _, rfl, rfl, fd_X12_96⟩) ⟨fs, e1, e2, ?_⟩
  obtain ⟨H58, eH⟩ : ∃ z, z = va_up H57 (a0) (.inr (12, fs.set 40 (.ref (n + 28)))) := ⟨_, rfl⟩
  rw [← eH] at h ⊢
  refine gG_aload_n dX12_init_238 rfl rfl ?_
  refine gG_sipush (v := 240) dX12_init_239 (by decide) ?_
  obtain ⟨hk1, hk2, H59, eH, h⟩ := h
  refine gG_newi (m1 := 240) dX12_init_242 ac_int (by decide) (by decide) (by decide) hk1 hk2 ?_
  rw [← eH]
  obtain ⟨fs, e1, e2, h⟩ := h
  refine gG_pr (Or.inr ⟨_, rfl⟩) dX12_init_244 fl_X12_99 (Or.inr ⟨rfl, _, _, _, rfl, rfl, fd_X12_99⟩) ⟨fs, e1, e2, ?_⟩
  obtain ⟨H60, eH⟩ : ∃ z, z = va_up H59 (a0) (.inr (12, fs.set 41 (.ref (n + 29)))) := ⟨_, rfl⟩
  rw [← eH] at h ⊢
  refine gG_aload_n dX12_init_247 rfl rfl ?_
  refine gG_bipush (v := 6) dX12_init_248 (by decide) ?_
  obtain ⟨hk1, hk2, H61, eH, h⟩ := h
  refine gG_newi (m1 := 6) dX12_init_250 ac_int (by decide) (by decide) (by decide) hk1 hk2 ?_
  rw [← eH]
  obtain ⟨fs, e1, e2, h⟩ := h
  refine gG_pr (Or.inr ⟨_, rfl⟩) dX12_init_252 fl_X12_102 (Or.inr ⟨rfl, _, _, _, rfl, rfl, fd_X12_102⟩) ⟨fs, e1, e2, ?_⟩
  obtain ⟨H62, eH⟩ : ∃ z, z = va_up H61 (a0) (.inr (12, fs.set 42 (.ref (n + 30)))) := ⟨_, rfl⟩
  rw [← eH] at h ⊢
  refine gG_aload_n dX12_init_255 rfl rfl ?_
  refine gG_bipush (v := 42) dX12_init_256 (by decide) ?_
  obtain ⟨hk1, hk2, H63, eH, h⟩ := h
  refine gG_newi (m1 := 42) dX12_init_258 ac_int (by decide) (by decide) (by decide) hk1 hk2 ?_
  rw [← eH]
  obtain ⟨fs, e1, e2, h⟩ := h
  refine gG_pr (Or.inr ⟨_, rfl⟩) dX12_init_260 fl_X12_105 (Or.inr ⟨rfl, _, _, _, rfl, rfl, fd_X12_105⟩) ⟨fs, e1, e2, ?_⟩
  obtain ⟨H64, eH⟩ : ∃ z, z = va_up H63 (a0) (.inr (12, fs.set 43 (.ref (n + 31)))) := ⟨_, rfl⟩
  rw [← eH] at h ⊢
  refine gG_aload_n dX12_init_263 rfl rfl ?_
  refine gG_iconst (v := 5) dX12_init_264 (by decide) ?_
  obtain ⟨hk1, hk2, H65, eH, h⟩ := h
  refine gG_newi (m1 := 5) dX12_init_265 ac_int (by decide) (by decide) (by decide) hk1 hk2 ?_
  rw [← eH]
  obtain ⟨fs, e1, e2, h⟩ := h
  refine gG_pr (Or.inr ⟨_, rfl⟩) dX12_init_267 fl_X12_108 (Or.inr ⟨rfl, _, _, _, rfl, rfl, fd_X12_108⟩) ⟨fs, e1, e2, ?_⟩
  obtain ⟨H66, eH⟩ : ∃ z, z = va_up H65 (a0) (.inr (12, fs.set 44 (.ref (n + 32)))) := ⟨_, rfl⟩
  rw [← eH] at h ⊢
  refine gG_aload_n dX12_init_270 rfl rfl ?_
  refine gG_bipush (v := 40) dX12_init_271 (by decide) ?_
  obtain ⟨hk1, hk2, H67, eH, h⟩ := h
  refine gG_newi (m1 := 40) dX12_init_273 ac_int (by decide) (by decide) (by decide) hk1 hk2 ?_
  rw [← eH]
  obtain ⟨fs, e1, e2, h⟩ := h
  refine gG_pr (Or.inr ⟨_, rfl⟩) dX12_init_275 fl_X12_111 (Or.inr ⟨rfl, _, _, _, rfl, rfl, fd_X12_111⟩) ⟨fs, e1, e2, ?_⟩
  obtain ⟨H68, eH⟩ : ∃ z, z = va_up H67 (a0) (.inr (12, fs.set 45 (.ref (n + 33)))) := ⟨_, rfl⟩
  rw [← eH] at h ⊢
  refine gG_aload_n dX12_init_278 rfl rfl ?_
  refine gG_bipush (v := 40) dX12_init_279 (by decide) ?_
  obtain ⟨hk1, hk2, H69, eH, h⟩ := h
  refine gG_newz (m1 := 40) dX12_init_281 ac_boolean (by decide) (by decide) (by decide) hk1 hk2 ?_
  rw [← eH]
  obtain ⟨fs, e1, e2, h⟩ := h
  refine gG_pr (Or.inr ⟨_, rfl⟩) dX12_init_283 fl_X12_114 (Or.inr ⟨rfl, _, _, _, rfl, rfl, fd_X12_114⟩) ⟨fs, e1, e2, ?_⟩
  obtain ⟨H70, eH⟩ : ∃ z, z = va_up H69 (a0) (.inr (12, fs.set 46 (.ref (n + 34)))) := ⟨_, rfl⟩
  rw [← eH] at h ⊢
  refine gG_aload_n dX12_init_286 rfl rfl ?_
  refine gG_bipush (v := 59) dX12_init_287 (by decide) ?_
  obtain ⟨hk1, hk2, H71, eH, h⟩ := h
  refine gG_newi (m1 := 59) dX12_init_289 ac_int (by decide) (by decide) (by decide) hk1 hk2 ?_
  rw [← eH]
  obtain ⟨fs, e1, e2, h⟩ := h
  refine gG_pr (Or.inr ⟨_, rfl⟩) dX12_init_291 fl_X12_117 (Or.inr ⟨rfl, _, _, _, rfl, rfl, fd_X12_117⟩) ⟨fs, e1, e2, ?_⟩
  obtain ⟨H72, eH⟩ : ∃ z, z = va_up H71 (a0) (.inr (12, fs.set 47 (.ref (n + 35)))) := ⟨_, rfl⟩
  rw [← eH] at h ⊢
  refine gG_aload_n dX12_init_294 rfl rfl ?_
  refine gG_bipush (v := 59) dX12_init_295 (by decide) ?_
  obtain ⟨hk1, hk2, H73, eH, h⟩ := h
  refine gG_newi (m1 := 59) dX12_init_297 ac_int (by decide) (by decide) (by decide) hk1 hk2 ?_
  rw [← eH]
  obtain ⟨fs, e1, e2, h⟩ := h
  refine gG_pr (Or.inr ⟨_, rfl⟩) dX12_init_299 fl_X12_120 (Or.inr ⟨rfl, _, _, _, rfl, rfl, fd_X12_120⟩) ⟨fs, e1, e2, ?_⟩
  obtain ⟨H74, eH⟩ : ∃ z, z = va_up H73 (a0) (.inr (12, fs.set 48 (.ref (n + 36)))) := ⟨_, rfl⟩
  rw [← eH] at h ⊢
  refine gG_aload_n dX12_init_302 rfl rfl ?_
  refine gG_bipush (v := 59) dX12_init_303 (by decide) ?_
  obtain ⟨hk1, hk2, H75, eH, h⟩ := h
  refine gG_newi (m1 := 59) dX12_init_305 ac_int (by decide) (by decide) (by decide) hk1 hk2 ?_
  rw [← eH]
  obtain ⟨fs, e1, e2, h⟩ := h
  refine gG_pr (Or.inr ⟨_, rfl⟩) dX12_init_307 fl_X12_123 (Or.inr ⟨rfl, _, _, _, rfl, rfl, fd_X12_123⟩) ⟨fs, e1, e2, ?_⟩
  obtain ⟨H76, eH⟩ : ∃ z, z = va_up H75 (a0) (.inr (12, fs.set 49 (.ref (n + 37)))) := ⟨_, rfl⟩
  rw [← eH] at h ⊢
  refine gG_aload_n dX12_init_310 rfl rfl ?_
  refine gG_sipush (v := 236) dX12_init_311 (by decide) ?_
  obtain ⟨hk1, hk2, H77, eH, h⟩ := h
  refine gG_newi (m1 := 236) dX12_init_314 ac_int (by decide) (by decide) (by decide) hk1 hk2 ?_
  rw [← eH]
  obtain ⟨fs, e1, e2, h⟩ := h
  refine gG_pr (Or.inr ⟨_, rfl⟩) dX12_init_316 fl_X12_126 (Or.inr ⟨rfl, _, _, _, rfl, rfl, fd_X12_126⟩) ⟨fs, e1, e2, ?_⟩
  obtain ⟨H78, eH⟩ : ∃ z, z = va_up H77 (a0) (.inr (12, fs.set 50 (.ref (n + 38)))) := ⟨_, rfl⟩
  rw [← eH] at h ⊢
  refine gG_aload_n dX12_init_319 rfl rfl ?_
  refine gG_sipush (v := 944) dX12_init_320 (by decide) ?_
  obtain ⟨hk1, hk2, H79, eH, h⟩ := h
  refine gG_newi (m1 := 944) dX12_init_323 ac_int (by decide) (by decide) (by decide) hk1 hk2 ?_
  rw [← eH]
  obtain ⟨fs, e1, e2, h⟩ := h
  refine gG_pr (Or.inr ⟨_, rfl⟩) dX12_init_325 fl_X12_129 (Or.inr ⟨rfl, _, _, _, rfl, rfl, fd_X12_129⟩) ⟨fs, e1, e2, ?_⟩
  obtain ⟨H80, eH⟩ : ∃ z, z = va_up H79 (a0) (.inr (12, fs.set 51 (.ref (n + 39)))) := ⟨_, rfl⟩
  rw [← eH] at h ⊢
  refine gG_aload_n dX12_init_328 rfl rfl ?_
  refine gG_iconst (v := 4) dX12_init_329 (by decide) ?_
  obtain ⟨hk1, hk2, H81, eH, h⟩ := h
  refine gG_newz (m1 := 4) dX12_init_330 ac_boolean (by decide) (by decide) (by decide) hk1 hk2 ?_
  rw [← eH]
  obtain ⟨fs, e1, e2, h⟩ := h
  refine gG_pr (Or.inr ⟨_, rfl⟩) dX12_init_332 fl_X12_132 (Or.inr ⟨rfl, _, _, _, rfl, rfl, fd_X12_132⟩) ⟨fs, e1, e2, ?_⟩
  obtain ⟨H82, eH⟩ : ∃ z, z = va_up H81 (a0) (.inr (12, fs.set 52 (.ref (n + 40)))) := ⟨_, rfl⟩
  rw [← eH] at h ⊢
  refine gG_aload_n dX12_init_335 rfl rfl ?_
  refine gG_bipush (v := 7) dX12_init_336 (by decide) ?_
  obtain ⟨hk1, hk2, H83, eH, h⟩ := h
  refine gG_newi (m1 := 7) dX12_init_338 ac_int (by decide) (by decide) (by decide) hk1 hk2 ?_
  rw [← eH]
  obtain ⟨fs, e1, e2, h⟩ := h
  refine gG_pr (Or.inr ⟨_, rfl⟩) dX12_init_340 fl_X12_135 (Or.inr ⟨rfl, _, _, _, rfl, rfl, fd_X12_135⟩) ⟨fs, e1, e2, ?_⟩
  obtain ⟨H84, eH⟩ : ∃ z, z = va_up H83 (a0) (.inr (12, fs.set 54 (.ref (n + 41)))) := ⟨_, rfl⟩
  rw [← eH] at h ⊢
  refine gG_aload_n dX12_init_343 rfl rfl ?_
  refine gG_bipush (v := 7) dX12_init_344 (by decide) ?_
  obtain ⟨hk1, hk2, H85, eH, h⟩ := h
  refine gG_newi (m1 := 7) dX12_init_346 ac_int (by decide) (by decide) (by decide) hk1 hk2 ?_
  rw [← eH]
  obtain ⟨fs, e1, e2, h⟩ := h
  refine gG_pr (Or.inr ⟨_, rfl⟩) dX12_init_348 fl_X12_138 (Or.inr ⟨rfl, _, _, _, rfl, rfl, fd_X12_138⟩) ⟨fs, e1, e2, ?_⟩
  obtain ⟨H86, eH⟩ : ∃ z, z = va_up H85 (a0) (.inr (12, fs.set 57 (.ref (n + 42)))) := ⟨_, rfl⟩
  rw [← eH] at h ⊢
  refine gG_aload_n dX12_init_351 rfl rfl ?_
  refine gG_bipush (v := 10) dX12_init_352 (by decide) ?_
  obtain ⟨hk1, hk2, H87, eH, h⟩ := h
  refine gG_newi (m1 := 10) dX12_init_354 ac_int (by decide) (by decide) (by decide) hk1 hk2 ?_
  rw [← eH]
  obtain ⟨fs, e1, e2, h⟩ := h
  refine gG_pr (Or.inr ⟨_, rfl⟩) dX12_init_356 fl_X12_141 (Or.inr ⟨rfl, _, _, _, rfl, rfl, fd_X12_141⟩) ⟨fs, e1, e2, ?_⟩
  obtain ⟨H88, eH⟩ : ∃ z, z = va_up H87 (a0) (.inr (12, fs.set 58 (.ref (n + 43)))) := ⟨_, rfl⟩
  rw [← eH] at h ⊢
  refine gG_aload_n dX12_init_359 rfl rfl ?_
  obtain ⟨hk1, hk2, hrc, d2, P2, hdd, hC, h⟩ := h
  refine gG_cvv (As := []) (st := []) dX12_init_360 mV_X12_144 hdd hrc rfl rfl (Nat.le_of_ble_eq_true rfl) (Nat.le_refl _) ⟨hk1, hk2⟩ hC (fun H89 hp => ?_)
  have h := h H89 hp
  obtain ⟨z1, z2, z3, h⟩ := h
  exact gG_exit ⟨z1, z2, z3, dX12_init_363, rfl, h⟩
