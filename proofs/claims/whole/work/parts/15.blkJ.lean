theorem kJ0_length_8abf5_0 {d n : Nat} {H : gHp} {P : gHp → Int32 → Prop} {t0 : UInt32} (ht0 : (t0).toNat < 45) (h : g_ci d mJ0_coder_7d493 n H [.float (t0)] (fun H1 x2 => P H1 (((Int32.ofNat (g_by t0).length) >>> (x2 &&& 31))))) : gG d mJ0_length_8abf5 0 0 (g_Xj mJ0_length_8abf5 n 0 0 P) 0 n H [some (.float (t0))] [] 0 0 := by
  refine gG_aload_nT dJ0_length_8abf5_0 rfl rfl ?_
  refine gG_gva (u := (100 + t0)) ht0 (g_tu ht0) dJ0_length_8abf5_1 fj_J0_9 ?_
  refine gG_tlen ht0 (g_tu ht0) dJ0_length_8abf5_4 ?_
  refine gG_aload_nT dJ0_length_8abf5_5 rfl rfl ?_
  obtain ⟨d2, P2, hdd, hC, h⟩ := h
  refine gG_cTi (As := []) (st := [.int ((Int32.ofNat (g_by t0).length))]) dJ0_length_8abf5_6 mT_J0_335 hdd ht0 rfl rfl (Nat.le_of_ble_eq_true rfl) (Nat.le_refl _) ⟨Nat.le_refl _, Nat.le_refl _⟩ hC (fun H1 x2 hp => ?_)
  have h := h H1 x2 hp
  refine gG_ishr dJ0_length_8abf5_9 ?_
  exact gG_exit ⟨rfl, rfl, rfl, dJ0_length_8abf5_10, _, rfl, h⟩

theorem kJ0_coder_7d493_0 {d n : Nat} {H : gHp} {P : gHp → Int32 → Prop} {t0 : UInt32} (ht0 : (t0).toNat < 45) (h : narrow .byte (.int ((0 : Int32))) = .int ((0 : Int32)) ∧ P H ((0 : Int32))) : gG d mJ0_coder_7d493 0 0 (g_Xt mJ0_coder_7d493 n 0 0 P) 0 n H [some (.float (t0))] [] 0 0 := by
  refine gG_gscs dJ0_coder_7d493_0 fj_J0_38 ?_
  refine gG_if_eq (tgt := 13) dJ0_coder_7d493_3 (by decide) (fun c => absurd c (by decide)) (fun c => ?_)
  refine gG_aload_nT dJ0_coder_7d493_6 rfl rfl ?_
  refine gG_gco ht0 dJ0_coder_7d493_7 fj_J0_15 ?_
  refine gG_goto (tgt := 14) dJ0_coder_7d493_10 (by decide) ?_
  exact gG_exit ⟨rfl, rfl, rfl, dJ0_coder_7d493_14, _, rfl, h.2, fun ty e => by cases e; exact h.1⟩

theorem kJ0_isLatin1_aae02_0 {d n : Nat} {H : gHp} {P : gHp → Bool → Prop} {t0 : UInt32} (ht0 : (t0).toNat < 45) (h : P H true) : gG d mJ0_isLatin1_aae02 0 0 (g_Xz mJ0_isLatin1_aae02 n 0 0 P) 0 n H [some (.float (t0))] [] 0 0 := by
  refine gG_gscs dJ0_isLatin1_aae02_0 fj_J0_38 ?_
  refine gG_if_eq (tgt := 17) dJ0_isLatin1_aae02_3 (by decide) (fun c => absurd c (by decide)) (fun c => ?_)
  refine gG_aload_nT dJ0_isLatin1_aae02_6 rfl rfl ?_
  refine gG_gco ht0 dJ0_isLatin1_aae02_7 fj_J0_15 ?_
  refine gG_if_ne (tgt := 17) dJ0_isLatin1_aae02_10 (by decide) (fun c => absurd c (by decide)) (fun c => ?_)
  refine gG_iconst (v := 1) dJ0_isLatin1_aae02_13 (by decide) ?_
  refine gG_goto (tgt := 18) dJ0_isLatin1_aae02_14 (by decide) ?_
  exact gG_exit ⟨rfl, rfl, rfl, dJ0_isLatin1_aae02_18, true, rfl, h⟩

theorem kJ0_charAt_5068e_0 {d n : Nat} {H : gHp} {P : gHp → Int32 → Prop} {t0 : UInt32} {i1 : Int32} (ht0 : (t0).toNat < 45) (h : g_cz d mJ0_isLatin1_aae02 n H [.float (t0)] (fun H1 b2 => (b2 = false → g_ci d mJ2_charAt_3b067 n H1 [.float ((100 + t0)), .int (i1)] (fun H3 x4 => narrow .char (.int (x4)) = .int (x4) ∧ P H3 (x4))) ∧ (b2 = true → g_ci d mJ1_charAt_3b067 n H1 [.float ((100 + t0)), .int (i1)] (fun H5 x6 => narrow .char (.int (x6)) = .int (x6) ∧ P H5 (x6))))) : gG d mJ0_charAt_5068e 0 0 (g_Xt mJ0_charAt_5068e n 0 0 P) 0 n H [some (.float (t0)), some (.int (i1))] [] 0 0 := by
  refine gG_aload_nT dJ0_charAt_5068e_0 rfl rfl ?_
  obtain ⟨d2, P2, hdd, hC, h⟩ := h
  refine gG_cTi (As := []) (st := []) dJ0_charAt_5068e_1 mT_J0_492 hdd ht0 rfl rfl (Nat.le_of_ble_eq_true rfl) (Nat.le_refl _) ⟨Nat.le_refl _, Nat.le_refl _⟩ hC (fun H1 x9 hp => ?_)
  obtain ⟨b2, rfl, hp⟩ := hp
  have h := h H1 b2 hp
  refine gG_if_eq (tgt := 16) dJ0_charAt_5068e_4 (by decide) (fun c => ?_) (fun c => ?_)
  · have h := h.1 (g_b_f c)
    refine gG_aload_nT dJ0_charAt_5068e_16 rfl rfl ?_
    refine gG_gva (u := (100 + t0)) ht0 (g_tu ht0) dJ0_charAt_5068e_17 fj_J0_9 ?_
    refine gG_iload_n dJ0_charAt_5068e_20 rfl rfl ?_
    obtain ⟨d2, P2, hdd, hC, h⟩ := h
    refine gG_csi (As := [.float ((100 + t0)), .int (i1)]) (st := []) dJ0_charAt_5068e_21 mS_J0_498 hdd rfl rfl (Nat.le_of_ble_eq_true rfl) (Nat.le_refl _) ⟨Nat.le_refl _, Nat.le_refl _⟩ hC (fun H3 x4 hp => ?_)
    have h := h H3 x4 hp
    exact gG_exit ⟨rfl, rfl, rfl, dJ0_charAt_5068e_24, _, rfl, h.2, fun ty e => by cases e; exact h.1⟩
  · have h := h.2 (g_b_t c)
    refine gG_aload_nT dJ0_charAt_5068e_7 rfl rfl ?_
    refine gG_gva (u := (100 + t0)) ht0 (g_tu ht0) dJ0_charAt_5068e_8 fj_J0_9 ?_
    refine gG_iload_n dJ0_charAt_5068e_11 rfl rfl ?_
    obtain ⟨d2, P2, hdd, hC, h⟩ := h
    refine gG_csi (As := [.float ((100 + t0)), .int (i1)]) (st := []) dJ0_charAt_5068e_12 mS_J0_495 hdd rfl rfl (Nat.le_of_ble_eq_true rfl) (Nat.le_refl _) ⟨Nat.le_refl _, Nat.le_refl _⟩ hC (fun H5 x6 hp => ?_)
    have h := h H5 x6 hp
    exact gG_exit ⟨rfl, rfl, rfl, dJ0_charAt_5068e_15, _, rfl, h.2, fun ty e => by cases e; exact h.1⟩

theorem kJ0_checkIndex_df160_0 {d n : Nat} {H : gHp} {P : gHp → Prop} {i0 : Int32} {i1 : Int32} (h : g_ci d mJ3_checkIndex_8e157 n H [.int (i0), .int (i1), .float (200)] (fun H1 x2 => P H1)) : gG d mJ0_checkIndex_df160 0 0 (g_Xv mJ0_checkIndex_df160 n 0 0 P) 0 n H [some (.int (i0)), some (.int (i1))] [] 0 0 := by
  refine gG_iload_n dJ0_checkIndex_df160_0 rfl rfl ?_
  refine gG_iload_n dJ0_checkIndex_df160_1 rfl rfl ?_
  refine gG_gsfo dJ0_checkIndex_df160_2 fj_J0_1053 ?_
  obtain ⟨d2, P2, hdd, hC, h⟩ := h
  refine gG_csi (As := [.int (i0), .int (i1), .float (200)]) (st := []) dJ0_checkIndex_df160_5 mS_J0_1059 hdd rfl rfl (Nat.le_of_ble_eq_true rfl) (Nat.le_refl _) ⟨Nat.le_refl _, Nat.le_refl _⟩ hC (fun H1 x2 hp => ?_)
  have h := h H1 x2 hp
  refine gG_pop dJ0_checkIndex_df160_8 rfl ?_
  exact gG_exit ⟨rfl, rfl, rfl, dJ0_checkIndex_df160_9, rfl, h⟩

theorem kJ1_charAt_3b067_0 {d n : Nat} {H : gHp} {P : gHp → Int32 → Prop} {u0 : UInt32} {t0 : UInt32} {i1 : Int32} (hu0 : (u0).toNat = 100 + (t0).toNat) (ht0 : (t0).toNat < 45) (h : g_cvd d mJ0_checkIndex_df160 n H [.int (i1), .int ((Int32.ofNat (g_by t0).length))] (fun H1 => vp_in (i1) (g_by t0).length ∧ (narrow .char (.int ((Int32.toUInt32 ((((g_by t0).getD (Int32.toNatClampNeg (i1)) 0) &&& (255 : Int32))) % 65536).toInt32)) = .int ((Int32.toUInt32 ((((g_by t0).getD (Int32.toNatClampNeg (i1)) 0) &&& (255 : Int32))) % 65536).toInt32) ∧ P H1 ((Int32.toUInt32 ((((g_by t0).getD (Int32.toNatClampNeg (i1)) 0) &&& (255 : Int32))) % 65536).toInt32)))) : gG d mJ1_charAt_3b067 0 0 (g_Xt mJ1_charAt_3b067 n 0 0 P) 0 n H [some (.float (u0)), some (.int (i1))] [] 0 0 := by
  refine gG_iload_n dJ1_charAt_3b067_0 rfl rfl ?_
  refine gG_aload_nT dJ1_charAt_3b067_1 rfl rfl ?_
  refine gG_tlen ht0 hu0 dJ1_charAt_3b067_2 ?_
  obtain ⟨d2, P2, hdd, hC, h⟩ := h
  refine gG_csv (As := [.int (i1), .int ((Int32.ofNat (g_by t0).length))]) (st := []) dJ1_charAt_3b067_3 mS_J1_9 hdd rfl rfl (Nat.le_of_ble_eq_true rfl) (Nat.le_refl _) ⟨Nat.le_refl _, Nat.le_refl _⟩ hC (fun H1 hp => ?_)
  have h := h H1 hp
  refine gG_aload_nT dJ1_charAt_3b067_6 rfl rfl ?_
  refine gG_iload_n dJ1_charAt_3b067_7 rfl rfl ?_
  obtain ⟨e1, h⟩ := h
  refine gG_tb ht0 hu0 dJ1_charAt_3b067_8 e1 ?_
  refine gG_sipush (v := 255) dJ1_charAt_3b067_9 (by decide) ?_
  refine gG_iand dJ1_charAt_3b067_12 ?_
  refine gG_i2c dJ1_charAt_3b067_13 ?_
  exact gG_exit ⟨rfl, rfl, rfl, dJ1_charAt_3b067_14, _, rfl, h.2, fun ty e => by cases e; exact h.1⟩

theorem kJ3_checkIndex_8e157_0 {d n : Nat} {H : gHp} {P : gHp → Int32 → Prop} {i0 : Int32} {i1 : Int32} {w2 : UInt32} (h : (i0 < 0 → False) ∧ (¬ (i0 < 0) → (i0 < i1 → P H (i0)) ∧ (¬ (i0 < i1) → False))) : gG d mJ3_checkIndex_8e157 0 0 (g_Xj mJ3_checkIndex_8e157 n 0 0 P) 0 n H [some (.int (i0)), some (.int (i1)), some (.float (w2))] [] 0 0 := by
  refine gG_iload_n dJ3_checkIndex_8e157_0 rfl rfl ?_
  refine gG_if_lt (tgt := 9) dJ3_checkIndex_8e157_1 (by decide) (fun c => ?_) (fun c => ?_)
  · have h := h.1 c
    refine gG_aload_nT dJ3_checkIndex_8e157_9 rfl rfl ?_
    refine gG_iload_n dJ3_checkIndex_8e157_10 rfl rfl ?_
    refine gG_iload_n dJ3_checkIndex_8e157_11 rfl rfl ?_
    exact h.elim
  · have h := h.2 c
    refine gG_iload_n dJ3_checkIndex_8e157_4 rfl rfl ?_
    refine gG_iload_n dJ3_checkIndex_8e157_5 rfl rfl ?_
    refine gG_ic_lt (tgt := 16) dJ3_checkIndex_8e157_6 (by decide) (fun c => ?_) (fun c => ?_)
    · have h := h.1 c
      refine gG_iload_n dJ3_checkIndex_8e157_16 rfl rfl ?_
      exact gG_exit ⟨rfl, rfl, rfl, dJ3_checkIndex_8e157_17, _, rfl, h⟩
    · have h := h.2 c
      refine gG_aload_nT dJ3_checkIndex_8e157_9 rfl rfl ?_
      refine gG_iload_n dJ3_checkIndex_8e157_10 rfl rfl ?_
      refine gG_iload_n dJ3_checkIndex_8e157_11 rfl rfl ?_
      exact h.elim

theorem kJ0_indexOf_0f7a4_0 {d n : Nat} {H : gHp} {P : gHp → Int32 → Prop} {t0 : UInt32} {i1 : Int32} (ht0 : (t0).toNat < 45) (h : g_ci d mJ0_indexOf_7cf53 n H [.float (t0), .int (i1), .int ((0 : Int32))] (fun H1 x2 => P H1 (x2))) : gG d mJ0_indexOf_0f7a4 0 0 (g_Xj mJ0_indexOf_0f7a4 n 0 0 P) 0 n H [some (.float (t0)), some (.int (i1))] [] 0 0 := by
  refine gG_aload_nT dJ0_indexOf_0f7a4_0 rfl rfl ?_
  refine gG_iload_n dJ0_indexOf_0f7a4_1 rfl rfl ?_
  refine gG_iconst (v := 0) dJ0_indexOf_0f7a4_2 (by decide) ?_
  obtain ⟨d2, P2, hdd, hC, h⟩ := h
  refine gG_cTi (As := [.int (i1), .int ((0 : Int32))]) (st := []) dJ0_indexOf_0f7a4_3 mT_J0_633 hdd ht0 rfl rfl (Nat.le_of_ble_eq_true rfl) (Nat.le_refl _) ⟨Nat.le_refl _, Nat.le_refl _⟩ hC (fun H1 x2 hp => ?_)
  have h := h H1 x2 hp
  exact gG_exit ⟨rfl, rfl, rfl, dJ0_indexOf_0f7a4_6, _, rfl, h⟩

theorem kJ0_indexOf_7cf53_0 {d n : Nat} {H : gHp} {P : gHp → Int32 → Prop} {t0 : UInt32} {i1 : Int32} {i2 : Int32} (ht0 : (t0).toNat < 45) (h : g_cz d mJ0_isLatin1_aae02 n H [.float (t0)] (fun H1 b2 => (b2 = false → g_ci d mJ0_length_8abf5 n H1 [.float (t0)] (fun H3 x4 => g_ci d mJ2_indexOf_4cfef n H3 [.float ((100 + t0)), .int (i1), .int (i2), .int (x4)] (fun H5 x6 => P H5 (x6)))) ∧ (b2 = true → g_ci d mJ0_length_8abf5 n H1 [.float (t0)] (fun H7 x8 => g_ci d mJ1_indexOf_4cfef n H7 [.float ((100 + t0)), .int (i1), .int (i2), .int (x8)] (fun H9 x10 => P H9 (x10)))))) : gG d mJ0_indexOf_7cf53 0 0 (g_Xj mJ0_indexOf_7cf53 n 0 0 P) 0 n H [some (.float (t0)), some (.int (i1)), some (.int (i2))] [] 0 0 := by
  refine gG_aload_nT dJ0_indexOf_7cf53_0 rfl rfl ?_
  obtain ⟨d2, P2, hdd, hC, h⟩ := h
  refine gG_cTi (As := []) (st := []) dJ0_indexOf_7cf53_1 mT_J0_492 hdd ht0 rfl rfl (Nat.le_of_ble_eq_true rfl) (Nat.le_refl _) ⟨Nat.le_refl _, Nat.le_refl _⟩ hC (fun H1 x9 hp => ?_)
  obtain ⟨b2, rfl, hp⟩ := hp
  have h := h H1 b2 hp
  refine gG_if_eq (tgt := 23) dJ0_indexOf_7cf53_4 (by decide) (fun c => ?_) (fun c => ?_)
  · have h := h.1 (g_b_f c)
    refine gG_aload_nT dJ0_indexOf_7cf53_23 rfl rfl ?_
    refine gG_gva (u := (100 + t0)) ht0 (g_tu ht0) dJ0_indexOf_7cf53_24 fj_J0_9 ?_
    refine gG_iload_n dJ0_indexOf_7cf53_27 rfl rfl ?_
    refine gG_iload_n dJ0_indexOf_7cf53_28 rfl rfl ?_
    refine gG_aload_nT dJ0_indexOf_7cf53_29 rfl rfl ?_
    obtain ⟨d2, P2, hdd, hC, h⟩ := h
    refine gG_cTi (As := []) (st := [.int (i2), .int (i1), .float ((100 + t0))]) dJ0_indexOf_7cf53_30 mT_J0_505 hdd ht0 rfl rfl (Nat.le_of_ble_eq_true rfl) (Nat.le_refl _) ⟨Nat.le_refl _, Nat.le_refl _⟩ hC (fun H3 x4 hp => ?_)
    have h := h H3 x4 hp
    obtain ⟨d2, P2, hdd, hC, h⟩ := h
    refine gG_csi (As := [.float ((100 + t0)), .int (i1), .int (i2), .int (x4)]) (st := []) dJ0_indexOf_7cf53_33 mS_J0_640 hdd rfl rfl (Nat.le_of_ble_eq_true rfl) (Nat.le_refl _) ⟨Nat.le_refl _, Nat.le_refl _⟩ hC (fun H5 x6 hp => ?_)
    have h := h H5 x6 hp
    exact gG_exit ⟨rfl, rfl, rfl, dJ0_indexOf_7cf53_36, _, rfl, h⟩
  · have h := h.2 (g_b_t c)
    refine gG_aload_nT dJ0_indexOf_7cf53_7 rfl rfl ?_
    refine gG_gva (u := (100 + t0)) ht0 (g_tu ht0) dJ0_indexOf_7cf53_8 fj_J0_9 ?_
    refine gG_iload_n dJ0_indexOf_7cf53_11 rfl rfl ?_
    refine gG_iload_n dJ0_indexOf_7cf53_12 rfl rfl ?_
    refine gG_aload_nT dJ0_indexOf_7cf53_13 rfl rfl ?_
    obtain ⟨d2, P2, hdd, hC, h⟩ := h
    refine gG_cTi (As := []) (st := [.int (i2), .int (i1), .float ((100 + t0))]) dJ0_indexOf_7cf53_14 mT_J0_505 hdd ht0 rfl rfl (Nat.le_of_ble_eq_true rfl) (Nat.le_refl _) ⟨Nat.le_refl _, Nat.le_refl _⟩ hC (fun H7 x8 hp => ?_)
    have h := h H7 x8 hp
    obtain ⟨d2, P2, hdd, hC, h⟩ := h
    refine gG_csi (As := [.float ((100 + t0)), .int (i1), .int (i2), .int (x8)]) (st := []) dJ0_indexOf_7cf53_17 mS_J0_637 hdd rfl rfl (Nat.le_of_ble_eq_true rfl) (Nat.le_refl _) ⟨Nat.le_refl _, Nat.le_refl _⟩ hC (fun H9 x10 hp => ?_)
    have h := h H9 x10 hp
    refine gG_goto (tgt := 36) dJ0_indexOf_7cf53_20 (by decide) ?_
    exact gG_exit ⟨rfl, rfl, rfl, dJ0_indexOf_7cf53_36, _, rfl, h⟩

theorem kJ1_canEncode_9a6ad_0 {d n : Nat} {H : gHp} {P : gHp → Bool → Prop} {i0 : Int32} (h : (i0 < 0 → P H false) ∧ (¬ (i0 < 0) → ((255 : Int32) < i0 → P H false) ∧ (¬ ((255 : Int32) < i0) → P H true))) : gG d mJ1_canEncode_9a6ad 0 0 (g_Xz mJ1_canEncode_9a6ad n 0 0 P) 0 n H [some (.int (i0))] [] 0 0 := by
  refine gG_iload_n dJ1_canEncode_9a6ad_0 rfl rfl ?_
  refine gG_if_lt (tgt := 15) dJ1_canEncode_9a6ad_1 (by decide) (fun c => ?_) (fun c => ?_)
  · have h := h.1 c
    refine gG_iconst (v := 0) dJ1_canEncode_9a6ad_15 (by decide) ?_
    exact gG_exit ⟨rfl, rfl, rfl, dJ1_canEncode_9a6ad_16, false, rfl, h⟩
  · have h := h.2 c
    refine gG_iload_n dJ1_canEncode_9a6ad_4 rfl rfl ?_
    refine gG_sipush (v := 255) dJ1_canEncode_9a6ad_5 (by decide) ?_
    refine gG_ic_gt (tgt := 15) dJ1_canEncode_9a6ad_8 (by decide) (fun c => ?_) (fun c => ?_)
    · have h := h.1 c
      refine gG_iconst (v := 0) dJ1_canEncode_9a6ad_15 (by decide) ?_
      exact gG_exit ⟨rfl, rfl, rfl, dJ1_canEncode_9a6ad_16, false, rfl, h⟩
    · have h := h.2 c
      refine gG_iconst (v := 1) dJ1_canEncode_9a6ad_11 (by decide) ?_
      refine gG_goto (tgt := 16) dJ1_canEncode_9a6ad_12 (by decide) ?_
      exact gG_exit ⟨rfl, rfl, rfl, dJ1_canEncode_9a6ad_16, true, rfl, h⟩

theorem kJ1_indexOf_4cfef_0 {d n : Nat} {H : gHp} {P : gHp → Int32 → Prop} {u0 : UInt32} {t0 : UInt32} {i1 : Int32} {i2 : Int32} {i3 : Int32} (hu0 : (u0).toNat = 100 + (t0).toNat) (ht0 : (t0).toNat < 45) (hd1 : 1 ≤ d) (h : g_cz d mJ1_canEncode_9a6ad n H [.int (i1)] (fun H1 b2 => (b2 = true → ((if i2 < (0 : Int32) then (0 : Int32) else i2) < (if (Int32.ofNat (g_by t0).length) < i3 then (Int32.ofNat (g_by t0).length) else i3) → g_ci d mJ1_indexOfChar_4cfef n H1 [.float (u0), .int (i1), .int ((if i2 < (0 : Int32) then (0 : Int32) else i2)), .int ((if (Int32.ofNat (g_by t0).length) < i3 then (Int32.ofNat (g_by t0).length) else i3))] (fun H3 x4 => P H3 (x4))) ∧ (¬ ((if i2 < (0 : Int32) then (0 : Int32) else i2) < (if (Int32.ofNat (g_by t0).length) < i3 then (Int32.ofNat (g_by t0).length) else i3)) → P H1 ((-1 : Int32)))) ∧ (b2 = false → P H1 ((-1 : Int32))))) : gG d mJ1_indexOf_4cfef 0 0 (g_Xj mJ1_indexOf_4cfef n 0 0 P) 0 n H [some (.float (u0)), some (.int (i1)), some (.int (i2)), some (.int (i3))] [] 0 0 := by
  refine gG_iload_n dJ1_indexOf_4cfef_0 rfl rfl ?_
  obtain ⟨d2, P2, hdd, hC, h⟩ := h
  refine gG_csi (As := [.int (i1)]) (st := []) dJ1_indexOf_4cfef_1 mS_J1_88 hdd rfl rfl (Nat.le_of_ble_eq_true rfl) (Nat.le_refl _) ⟨Nat.le_refl _, Nat.le_refl _⟩ hC (fun H1 x9 hp => ?_)
  obtain ⟨b2, rfl, hp⟩ := hp
  have h := h H1 b2 hp
  refine gG_if_ne (tgt := 9) dJ1_indexOf_4cfef_4 (by decide) (fun c => ?_) (fun c => ?_)
  · have h := h.1 (g_b_t c)
    refine gG_iload_n dJ1_indexOf_4cfef_9 rfl rfl ?_
    refine gG_iconst (v := 0) dJ1_indexOf_4cfef_10 (by decide) ?_
    refine gG_max dJ1_indexOf_4cfef_11 lk_J1_92 st_max ini_Math co_max hd1 (Nat.le_of_ble_eq_true rfl) (Nat.le_refl _) (Nat.le_refl _) ?_
    refine gG_istore_n dJ1_indexOf_4cfef_14 rfl (Nat.le_of_ble_eq_true rfl) ?_
    refine gG_iload_n dJ1_indexOf_4cfef_15 rfl rfl ?_
    refine gG_aload_nT dJ1_indexOf_4cfef_16 rfl rfl ?_
    refine gG_tlen ht0 hu0 dJ1_indexOf_4cfef_17 ?_
    refine gG_min dJ1_indexOf_4cfef_18 lk_J1_38 st_min ini_Math co_min hd1 (Nat.le_of_ble_eq_true rfl) (Nat.le_refl _) (Nat.le_refl _) ?_
    refine gG_istore_n dJ1_indexOf_4cfef_21 rfl (Nat.le_of_ble_eq_true rfl) ?_
    refine gG_iload_n dJ1_indexOf_4cfef_22 rfl rfl ?_
    refine gG_iload_n dJ1_indexOf_4cfef_23 rfl rfl ?_
    refine gG_ic_lt (tgt := 29) dJ1_indexOf_4cfef_24 (by decide) (fun c => ?_) (fun c => ?_)
    · have h := h.1 c
      refine gG_aload_nT dJ1_indexOf_4cfef_29 rfl rfl ?_
      refine gG_iload_n dJ1_indexOf_4cfef_30 rfl rfl ?_
      refine gG_iload_n dJ1_indexOf_4cfef_31 rfl rfl ?_
      refine gG_iload_n dJ1_indexOf_4cfef_32 rfl rfl ?_
      obtain ⟨d2, P2, hdd, hC, h⟩ := h
      refine gG_csi (As := [.float (u0), .int (i1), .int ((if i2 < (0 : Int32) then (0 : Int32) else i2)), .int ((if (Int32.ofNat (g_by t0).length) < i3 then (Int32.ofNat (g_by t0).length) else i3))]) (st := []) dJ1_indexOf_4cfef_33 mS_J1_95 hdd rfl rfl (Nat.le_of_ble_eq_true rfl) (Nat.le_refl _) ⟨Nat.le_refl _, Nat.le_refl _⟩ hC (fun H3 x4 hp => ?_)
      have h := h H3 x4 hp
      exact gG_exit ⟨rfl, rfl, rfl, dJ1_indexOf_4cfef_36, _, rfl, h⟩
    · have h := h.2 c
      refine gG_iconst (v := (-1)) dJ1_indexOf_4cfef_27 (by decide) ?_
      exact gG_exit ⟨rfl, rfl, rfl, dJ1_indexOf_4cfef_28, _, rfl, h⟩
  · have h := h.2 (g_b_f c)
    refine gG_iconst (v := (-1)) dJ1_indexOf_4cfef_7 (by decide) ?_
    exact gG_exit ⟨rfl, rfl, rfl, dJ1_indexOf_4cfef_8, _, rfl, h⟩

theorem kJ1_indexOfChar_4cfef_0 {d n : Nat} {H : gHp} {P : gHp → Int32 → Prop} {u0 : UInt32} {t0 : UInt32} {i1 : Int32} {i2 : Int32} {i3 : Int32} (hu0 : (u0).toNat = 100 + (t0).toNat) (ht0 : (t0).toNat < 45) (h : gG d mJ1_indexOfChar_4cfef 0 0 (g_Xj mJ1_indexOfChar_4cfef n 0 0 P) 7 n H [some (.float (u0)), none, none, some (.int (i3)), some (.int ((Int8.toInt32 (Int32.toInt8 (i1))))), some (.int (i2))] [] (0) (0)) : gG d mJ1_indexOfChar_4cfef 0 0 (g_Xj mJ1_indexOfChar_4cfef n 0 0 P) 0 n H [some (.float (u0)), some (.int (i1)), some (.int (i2)), some (.int (i3)), none, none] [] 0 0 := by
  refine gG_iload_n dJ1_indexOfChar_4cfef_0 rfl rfl ?_
  refine gG_i2b dJ1_indexOfChar_4cfef_1 ?_
  refine gG_istore dJ1_indexOfChar_4cfef_2 (Nat.le_of_ble_eq_true rfl) ?_
  refine gG_iload_n dJ1_indexOfChar_4cfef_4 rfl rfl ?_
  refine gG_istore dJ1_indexOfChar_4cfef_5 (Nat.le_of_ble_eq_true rfl) ?_
  refine gG_locals ?_ h
  exact ⟨rfl, ⟨rfl, ⟨rfl, ⟨rfl, trivial⟩⟩⟩⟩
theorem kJ1_indexOfChar_4cfef_7 {d n : Nat} {H : gHp} {P : gHp → Int32 → Prop} {u0 : UInt32} {t0 : UInt32} {i3 : Int32} {i4 : Int32} {i5 : Int32} (hu0 : (u0).toNat = 100 + (t0).toNat) (ht0 : (t0).toNat < 45) (h : (i3 ≤ i5 → P H ((-1 : Int32))) ∧ (¬ (i3 ≤ i5) → vp_in (i5) (g_by t0).length ∧ ((¬ (((g_by t0).getD (Int32.toNatClampNeg (i5)) 0) = i4) → gG d mJ1_indexOfChar_4cfef 0 0 (g_Xj mJ1_indexOfChar_4cfef n 0 0 P) 7 n H [some (.float (u0)), none, none, some (.int (i3)), some (.int (i4)), some (.int ((i5 + 1)))] [] (0) (0)) ∧ (((g_by t0).getD (Int32.toNatClampNeg (i5)) 0) = i4 → P H (i5))))) : gG d mJ1_indexOfChar_4cfef 0 0 (g_Xj mJ1_indexOfChar_4cfef n 0 0 P) 7 n H [some (.float (u0)), none, none, some (.int (i3)), some (.int (i4)), some (.int (i5))] [] 0 0 := by
  refine gG_iload dJ1_indexOfChar_4cfef_7 rfl ?_
  refine gG_iload_n dJ1_indexOfChar_4cfef_9 rfl rfl ?_
  refine gG_ic_ge (tgt := 31) dJ1_indexOfChar_4cfef_10 (by decide) (fun c => ?_) (fun c => ?_)
  · have h := h.1 c
    refine gG_iconst (v := (-1)) dJ1_indexOfChar_4cfef_31 (by decide) ?_
    exact gG_exit ⟨rfl, rfl, rfl, dJ1_indexOfChar_4cfef_32, _, rfl, h⟩
  · have h := h.2 c
    refine gG_aload_nT dJ1_indexOfChar_4cfef_13 rfl rfl ?_
    refine gG_iload dJ1_indexOfChar_4cfef_14 rfl ?_
    obtain ⟨e1, h⟩ := h
    refine gG_tb ht0 hu0 dJ1_indexOfChar_4cfef_16 e1 ?_
    refine gG_iload dJ1_indexOfChar_4cfef_17 rfl ?_
    refine gG_ic_ne (tgt := 25) dJ1_indexOfChar_4cfef_19 (by decide) (fun c => ?_) (fun c => ?_)
    · have h := h.1 c
      refine gG_iinc (v := i5 + 1) dJ1_indexOfChar_4cfef_25 rfl rfl (Nat.le_of_ble_eq_true rfl) ?_
      refine gG_goto (tgt := 7) dJ1_indexOfChar_4cfef_28 (by decide) ?_
      refine gG_locals ?_ h
      exact ⟨rfl, ⟨rfl, ⟨rfl, ⟨rfl, trivial⟩⟩⟩⟩
    · have h := h.2 c
      refine gG_iload dJ1_indexOfChar_4cfef_22 rfl ?_
      exact gG_exit ⟨rfl, rfl, rfl, dJ1_indexOfChar_4cfef_24, _, rfl, h⟩

theorem kJ6_bitCount_0f7a4_0 {d n : Nat} {H : gHp} {P : gHp → Int32 → Prop} {i0 : Int32} (h : P H (((((((((i0 - (((Int32.toUInt32 (i0) >>> (Int32.toUInt32 ((1 : Int32)) &&& Int32.toUInt32 31)).toInt32) &&& (1431655765 : Int32))) &&& (858993459 : Int32)) + (((Int32.toUInt32 ((i0 - (((Int32.toUInt32 (i0) >>> (Int32.toUInt32 ((1 : Int32)) &&& Int32.toUInt32 31)).toInt32) &&& (1431655765 : Int32)))) >>> (Int32.toUInt32 ((2 : Int32)) &&& Int32.toUInt32 31)).toInt32) &&& (858993459 : Int32))) + ((Int32.toUInt32 ((((i0 - (((Int32.toUInt32 (i0) >>> (Int32.toUInt32 ((1 : Int32)) &&& Int32.toUInt32 31)).toInt32) &&& (1431655765 : Int32))) &&& (858993459 : Int32)) + (((Int32.toUInt32 ((i0 - (((Int32.toUInt32 (i0) >>> (Int32.toUInt32 ((1 : Int32)) &&& Int32.toUInt32 31)).toInt32) &&& (1431655765 : Int32)))) >>> (Int32.toUInt32 ((2 : Int32)) &&& Int32.toUInt32 31)).toInt32) &&& (858993459 : Int32)))) >>> (Int32.toUInt32 ((4 : Int32)) &&& Int32.toUInt32 31)).toInt32)) &&& (252645135 : Int32)) + ((Int32.toUInt32 ((((((i0 - (((Int32.toUInt32 (i0) >>> (Int32.toUInt32 ((1 : Int32)) &&& Int32.toUInt32 31)).toInt32) &&& (1431655765 : Int32))) &&& (858993459 : Int32)) + (((Int32.toUInt32 ((i0 - (((Int32.toUInt32 (i0) >>> (Int32.toUInt32 ((1 : Int32)) &&& Int32.toUInt32 31)).toInt32) &&& (1431655765 : Int32)))) >>> (Int32.toUInt32 ((2 : Int32)) &&& Int32.toUInt32 31)).toInt32) &&& (858993459 : Int32))) + ((Int32.toUInt32 ((((i0 - (((Int32.toUInt32 (i0) >>> (Int32.toUInt32 ((1 : Int32)) &&& Int32.toUInt32 31)).toInt32) &&& (1431655765 : Int32))) &&& (858993459 : Int32)) + (((Int32.toUInt32 ((i0 - (((Int32.toUInt32 (i0) >>> (Int32.toUInt32 ((1 : Int32)) &&& Int32.toUInt32 31)).toInt32) &&& (1431655765 : Int32)))) >>> (Int32.toUInt32 ((2 : Int32)) &&& Int32.toUInt32 31)).toInt32) &&& (858993459 : Int32)))) >>> (Int32.toUInt32 ((4 : Int32)) &&& Int32.toUInt32 31)).toInt32)) &&& (252645135 : Int32))) >>> (Int32.toUInt32 ((8 : Int32)) &&& Int32.toUInt32 31)).toInt32)) + ((Int32.toUInt32 (((((((i0 - (((Int32.toUInt32 (i0) >>> (Int32.toUInt32 ((1 : Int32)) &&& Int32.toUInt32 31)).toInt32) &&& (1431655765 : Int32))) &&& (858993459 : Int32)) + (((Int32.toUInt32 ((i0 - (((Int32.toUInt32 (i0) >>> (Int32.toUInt32 ((1 : Int32)) &&& Int32.toUInt32 31)).toInt32) &&& (1431655765 : Int32)))) >>> (Int32.toUInt32 ((2 : Int32)) &&& Int32.toUInt32 31)).toInt32) &&& (858993459 : Int32))) + ((Int32.toUInt32 ((((i0 - (((Int32.toUInt32 (i0) >>> (Int32.toUInt32 ((1 : Int32)) &&& Int32.toUInt32 31)).toInt32) &&& (1431655765 : Int32))) &&& (858993459 : Int32)) + (((Int32.toUInt32 ((i0 - (((Int32.toUInt32 (i0) >>> (Int32.toUInt32 ((1 : Int32)) &&& Int32.toUInt32 31)).toInt32) &&& (1431655765 : Int32)))) >>> (Int32.toUInt32 ((2 : Int32)) &&& Int32.toUInt32 31)).toInt32) &&& (858993459 : Int32)))) >>> (Int32.toUInt32 ((4 : Int32)) &&& Int32.toUInt32 31)).toInt32)) &&& (252645135 : Int32)) + ((Int32.toUInt32 ((((((i0 - (((Int32.toUInt32 (i0) >>> (Int32.toUInt32 ((1 : Int32)) &&& Int32.toUInt32 31)).toInt32) &&& (1431655765 : Int32))) &&& (858993459 : Int32)) + (((Int32.toUInt32 ((i0 - (((Int32.toUInt32 (i0) >>> (Int32.toUInt32 ((1 : Int32)) &&& Int32.toUInt32 31)).toInt32) &&& (1431655765 : Int32)))) >>> (Int32.toUInt32 ((2 : Int32)) &&& Int32.toUInt32 31)).toInt32) &&& (858993459 : Int32))) + ((Int32.toUInt32 ((((i0 - (((Int32.toUInt32 (i0) >>> (Int32.toUInt32 ((1 : Int32)) &&& Int32.toUInt32 31)).toInt32) &&& (1431655765 : Int32))) &&& (858993459 : Int32)) + (((Int32.toUInt32 ((i0 - (((Int32.toUInt32 (i0) >>> (Int32.toUInt32 ((1 : Int32)) &&& Int32.toUInt32 31)).toInt32) &&& (1431655765 : Int32)))) >>> (Int32.toUInt32 ((2 : Int32)) &&& Int32.toUInt32 31)).toInt32) &&& (858993459 : Int32)))) >>> (Int32.toUInt32 ((4 : Int32)) &&& Int32.toUInt32 31)).toInt32)) &&& (252645135 : Int32))) >>> (Int32.toUInt32 ((8 : Int32)) &&& Int32.toUInt32 31)).toInt32))) >>> (Int32.toUInt32 ((16 : Int32)) &&& Int32.toUInt32 31)).toInt32)) &&& (63 : Int32)))) : gG d mJ6_bitCount_0f7a4 0 0 (g_Xj mJ6_bitCount_0f7a4 n 0 0 P) 0 n H [some (.int (i0))] [] 0 0 := by
  refine gG_iload_n dJ6_bitCount_0f7a4_0 rfl rfl ?_
  refine gG_iload_n dJ6_bitCount_0f7a4_1 rfl rfl ?_
  refine gG_iconst (v := 1) dJ6_bitCount_0f7a4_2 (by decide) ?_
  refine gG_iushr dJ6_bitCount_0f7a4_3 ?_
  refine gG_ldc_w dJ6_bitCount_0f7a4_4 ci_J6_265 ?_
  refine gG_iand dJ6_bitCount_0f7a4_7 ?_
  refine gG_isub dJ6_bitCount_0f7a4_8 ?_
  refine gG_istore_n dJ6_bitCount_0f7a4_9 rfl (Nat.le_of_ble_eq_true rfl) ?_
  refine gG_iload_n dJ6_bitCount_0f7a4_10 rfl rfl ?_
  refine gG_ldc_w dJ6_bitCount_0f7a4_11 ci_J6_266 ?_
  refine gG_iand dJ6_bitCount_0f7a4_14 ?_
  refine gG_iload_n dJ6_bitCount_0f7a4_15 rfl rfl ?_
  refine gG_iconst (v := 2) dJ6_bitCount_0f7a4_16 (by decide) ?_
  refine gG_iushr dJ6_bitCount_0f7a4_17 ?_
  refine gG_ldc_w dJ6_bitCount_0f7a4_18 ci_J6_266 ?_
  refine gG_iand dJ6_bitCount_0f7a4_21 ?_
  refine gG_iadd dJ6_bitCount_0f7a4_22 ?_
  refine gG_istore_n dJ6_bitCount_0f7a4_23 rfl (Nat.le_of_ble_eq_true rfl) ?_
  refine gG_iload_n dJ6_bitCount_0f7a4_24 rfl rfl ?_
  refine gG_iload_n dJ6_bitCount_0f7a4_25 rfl rfl ?_
  refine gG_iconst (v := 4) dJ6_bitCount_0f7a4_26 (by decide) ?_
  refine gG_iushr dJ6_bitCount_0f7a4_27 ?_
  refine gG_iadd dJ6_bitCount_0f7a4_28 ?_
  refine gG_ldc_w dJ6_bitCount_0f7a4_29 ci_J6_267 ?_
  refine gG_iand dJ6_bitCount_0f7a4_32 ?_
  refine gG_istore_n dJ6_bitCount_0f7a4_33 rfl (Nat.le_of_ble_eq_true rfl) ?_
  refine gG_iload_n dJ6_bitCount_0f7a4_34 rfl rfl ?_
  refine gG_iload_n dJ6_bitCount_0f7a4_35 rfl rfl ?_
  refine gG_bipush (v := 8) dJ6_bitCount_0f7a4_36 (by decide) ?_
  refine gG_iushr dJ6_bitCount_0f7a4_38 ?_
  refine gG_iadd dJ6_bitCount_0f7a4_39 ?_
  refine gG_istore_n dJ6_bitCount_0f7a4_40 rfl (Nat.le_of_ble_eq_true rfl) ?_
  refine gG_iload_n dJ6_bitCount_0f7a4_41 rfl rfl ?_
  refine gG_iload_n dJ6_bitCount_0f7a4_42 rfl rfl ?_
  refine gG_bipush (v := 16) dJ6_bitCount_0f7a4_43 (by decide) ?_
  refine gG_iushr dJ6_bitCount_0f7a4_45 ?_
  refine gG_iadd dJ6_bitCount_0f7a4_46 ?_
  refine gG_istore_n dJ6_bitCount_0f7a4_47 rfl (Nat.le_of_ble_eq_true rfl) ?_
  refine gG_iload_n dJ6_bitCount_0f7a4_48 rfl rfl ?_
  refine gG_bipush (v := 63) dJ6_bitCount_0f7a4_49 (by decide) ?_
  refine gG_iand dJ6_bitCount_0f7a4_51 ?_
  exact gG_exit ⟨rfl, rfl, rfl, dJ6_bitCount_0f7a4_52, _, rfl, h⟩
