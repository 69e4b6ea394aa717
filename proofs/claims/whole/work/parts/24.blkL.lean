def g_Xr (M : gMD) (n' : Nat) (P : gHp → Int32 → Prop) (PT : gHp → Prop) : gX := fun pc n H _ st kc ks => n = n' ∧ kc = 0 ∧ ks = 0 ∧ ((decode M.2.1 pc = .ok (.ireturn, 1) ∧ ∃ x, st = [.int x] ∧ P H x) ∨ ((pc = 27 ∨ pc = 83) ∧ st = [] ∧ PT H))
theorem kL_law_0 {S : Nat × (Nat → Int32)} {d n kc ks mc ms : Nat} {H : gHp} {X : gX}  (h : kc + 1 ≤ mc ∧ ks + 18 ≤ ms ∧ g_mk H (n) (.inr (11, [.null, .null, .null, .null, .null, .null, .null, .null, .null, .null, .null, .null, .null, .int 0, .int 0, .null, .null, .long 0])) (fun H1 => g_cI d mX11_init (n + 1) H1 [.ref (n)] (kc + 1) (ks + 18) mc ms (fun n3 c4 s5 H2 => kc + 1 + c4 + 1 ≤ mc ∧ ks + 18 + s5 + 60 ≤ ms ∧ g_mk H2 (n3) (.inr (12, [.int 0, .int 0, .null, .int 0, .int 0, .int 0, .int 0, .long 0, .int 0, .int 0, .null, .null, .null, .null, .null, .null, .null, .null, .null, .null, .null, .null, .null, .int 0, .null, .null, .null, .null, .null, .null, .null, .null, .null, .null, .null, .null, .int 0, .long 0, .null, .null, .null, .null, .null, .null, .null, .null, .null, .null, .null, .null, .null, .null, .null, .int 0, .null, .int 0, .int 0, .null, .null, .long 0])) (fun H6 => g_cI d mX12_init (n3 + 1) H6 [.ref (n3)] (kc + 1 + c4 + 1) (ks + 18 + s5 + 60) mc ms (fun n8 c9 s10 H7 => kc + 1 + c4 + 1 + c9 + 1 ≤ mc ∧ ks + 18 + s5 + 60 + s10 + 1 ≤ ms ∧ g_mk H7 (n8) (.inl (1, 1, .inr (.inl (fun _ => 0)))) (fun H11 => gG d (mL_law S) mc ms X 23 (n8 + 1) H11 [some (.float 300), some (.ref (n)), some (.ref (n3)), some (.ref (n8)), some (.int ((0 : Int32))), none, none] [] (kc + 1 + c4 + 1 + c9 + 1) (ks + 18 + s5 + 60 + s10 + 1))))))) : gG d (mL_law S) mc ms X 0 n H [some (.float 300), none, none, none, none, none, none] [] kc ks := by
  obtain ⟨hk1, hk2, H1, eH, h⟩ := h
  refine gG_new dL_law_0 cn_L_8 hk1 hk2 ?_
  rw [← eH]
  refine gG_dup dL_law_3 rfl ?_
  obtain ⟨n3, c4, s5, hnn, hk1, hk2, d2, P2, hdd, hC, h⟩ := h
  refine gG_cIv (As := []) (st := [.ref (n)]) dL_law_4 mI_L_15 hdd rfl rfl (Nat.le_of_ble_eq_true rfl) hnn ⟨hk1, hk2⟩ hC (fun H2 hp => ?_)
  have h := h H2 hp
  refine gG_astore_n dL_law_7 rfl (Nat.le_of_ble_eq_true rfl) ?_
  obtain ⟨hk1, hk2, H6, eH, h⟩ := h
  refine gG_new dL_law_8 cn_L_16 hk1 hk2 ?_
  rw [← eH]
  refine gG_dup dL_law_11 rfl ?_
  obtain ⟨n8, c9, s10, hnn, hk1, hk2, d2, P2, hdd, hC, h⟩ := h
  refine gG_cIv (As := []) (st := [.ref (n3)]) dL_law_12 mI_L_18 hdd rfl rfl (Nat.le_of_ble_eq_true rfl) hnn ⟨hk1, hk2⟩ hC (fun H7 hp => ?_)
  have h := h H7 hp
  refine gG_astore_n dL_law_15 rfl (Nat.le_of_ble_eq_true rfl) ?_
  refine gG_iconst (v := 1) dL_law_16 (by decide) ?_
  obtain ⟨hk1, hk2, H11, eH, h⟩ := h
  refine gG_newl (m1 := 1) dL_law_17 ac_long (by decide) (by decide) (by decide) hk1 hk2 ?_
  rw [← eH]
  refine gG_astore_n dL_law_19 rfl (Nat.le_of_ble_eq_true rfl) ?_
  refine gG_iconst (v := 0) dL_law_20 (by decide) ?_
  refine gG_istore dL_law_21 (Nat.le_of_ble_eq_true rfl) ?_
  refine gG_locals ?_ h
  exact ⟨rfl, ⟨rfl, ⟨rfl, ⟨rfl, ⟨rfl, trivial⟩⟩⟩⟩⟩
theorem kL_law_23 {S : Nat × (Nat → Int32)} {d n kc ks mc ms : Nat} {H : gHp} {X : gX} {a1 : Nat} {a2 : Nat} {a3 : Nat} {i4 : Int32} (h : (((Int32.ofNat S.1) - (7 : Int32)) < i4 → X 1418 (n) H [some (.float 300), some (.ref (a1)), some (.ref (a2)), some (.ref (a3)), some (.int (i4)), none, none] [.int ((1 : Int32))] (kc) (ks)) ∧ (¬ (((Int32.ofNat S.1) - (7 : Int32)) < i4) → vp_in (i4) S.1 ∧ (((((S.2 (Int32.toNatClampNeg (i4))) &&& (63 : Int32))).toInt < 0 ∨ 41 < (((S.2 (Int32.toNatClampNeg (i4))) &&& (63 : Int32))).toInt → gG d (mL_law S) mc ms X 1411 (n) H [some (.float 300), some (.ref (a1)), some (.ref (a2)), some (.ref (a3)), some (.int (i4)), none, none] [] (kc) (ks)) ∧ (((S.2 (Int32.toNatClampNeg (i4))) &&& (63 : Int32)) = 0 → gG d (mL_law S) mc ms X 224 (n) H [some (.float 300), some (.ref (a1)), some (.ref (a2)), some (.ref (a3)), some (.int (i4)), none, none] [] (kc) (ks)) ∧ (((S.2 (Int32.toNatClampNeg (i4))) &&& (63 : Int32)) = 1 → gG d (mL_law S) mc ms X 371 (n) H [some (.float 300), some (.ref (a1)), some (.ref (a2)), some (.ref (a3)), some (.int (i4)), none, none] [] (kc) (ks)) ∧ (((S.2 (Int32.toNatClampNeg (i4))) &&& (63 : Int32)) = 2 → gG d (mL_law S) mc ms X 384 (n) H [some (.float 300), some (.ref (a1)), some (.ref (a2)), some (.ref (a3)), some (.int (i4)), none, none] [] (kc) (ks)) ∧ (((S.2 (Int32.toNatClampNeg (i4))) &&& (63 : Int32)) = 3 → gG d (mL_law S) mc ms X 397 (n) H [some (.float 300), some (.ref (a1)), some (.ref (a2)), some (.ref (a3)), some (.int (i4)), none, none] [] (kc) (ks)) ∧ (((S.2 (Int32.toNatClampNeg (i4))) &&& (63 : Int32)) = 4 → gG d (mL_law S) mc ms X 410 (n) H [some (.float 300), some (.ref (a1)), some (.ref (a2)), some (.ref (a3)), some (.int (i4)), none, none] [] (kc) (ks)) ∧ (((S.2 (Int32.toNatClampNeg (i4))) &&& (63 : Int32)) = 5 → gG d (mL_law S) mc ms X 447 (n) H [some (.float 300), some (.ref (a1)), some (.ref (a2)), some (.ref (a3)), some (.int (i4)), none, none] [] (kc) (ks)) ∧ (((S.2 (Int32.toNatClampNeg (i4))) &&& (63 : Int32)) = 6 → gG d (mL_law S) mc ms X 472 (n) H [some (.float 300), some (.ref (a1)), some (.ref (a2)), some (.ref (a3)), some (.int (i4)), none, none] [] (kc) (ks)) ∧ (((S.2 (Int32.toNatClampNeg (i4))) &&& (63 : Int32)) = 7 → gG d (mL_law S) mc ms X 497 (n) H [some (.float 300), some (.ref (a1)), some (.ref (a2)), some (.ref (a3)), some (.int (i4)), none, none] [] (kc) (ks)) ∧ (((S.2 (Int32.toNatClampNeg (i4))) &&& (63 : Int32)) = 8 → gG d (mL_law S) mc ms X 510 (n) H [some (.float 300), some (.ref (a1)), some (.ref (a2)), some (.ref (a3)), some (.int (i4)), none, none] [] (kc) (ks)) ∧ (((S.2 (Int32.toNatClampNeg (i4))) &&& (63 : Int32)) = 9 → gG d (mL_law S) mc ms X 547 (n) H [some (.float 300), some (.ref (a1)), some (.ref (a2)), some (.ref (a3)), some (.int (i4)), none, none] [] (kc) (ks)) ∧ (((S.2 (Int32.toNatClampNeg (i4))) &&& (63 : Int32)) = 10 → gG d (mL_law S) mc ms X 572 (n) H [some (.float 300), some (.ref (a1)), some (.ref (a2)), some (.ref (a3)), some (.int (i4)), none, none] [] (kc) (ks)) ∧ (((S.2 (Int32.toNatClampNeg (i4))) &&& (63 : Int32)) = 11 → gG d (mL_law S) mc ms X 597 (n) H [some (.float 300), some (.ref (a1)), some (.ref (a2)), some (.ref (a3)), some (.int (i4)), none, none] [] (kc) (ks)) ∧ (((S.2 (Int32.toNatClampNeg (i4))) &&& (63 : Int32)) = 12 → gG d (mL_law S) mc ms X 610 (n) H [some (.float 300), some (.ref (a1)), some (.ref (a2)), some (.ref (a3)), some (.int (i4)), none, none] [] (kc) (ks)) ∧ (((S.2 (Int32.toNatClampNeg (i4))) &&& (63 : Int32)) = 13 → gG d (mL_law S) mc ms X 635 (n) H [some (.float 300), some (.ref (a1)), some (.ref (a2)), some (.ref (a3)), some (.int (i4)), none, none] [] (kc) (ks)) ∧ (((S.2 (Int32.toNatClampNeg (i4))) &&& (63 : Int32)) = 14 → gG d (mL_law S) mc ms X 672 (n) H [some (.float 300), some (.ref (a1)), some (.ref (a2)), some (.ref (a3)), some (.int (i4)), none, none] [] (kc) (ks)) ∧ (((S.2 (Int32.toNatClampNeg (i4))) &&& (63 : Int32)) = 15 → gG d (mL_law S) mc ms X 697 (n) H [some (.float 300), some (.ref (a1)), some (.ref (a2)), some (.ref (a3)), some (.int (i4)), none, none] [] (kc) (ks)) ∧ (((S.2 (Int32.toNatClampNeg (i4))) &&& (63 : Int32)) = 16 → gG d (mL_law S) mc ms X 722 (n) H [some (.float 300), some (.ref (a1)), some (.ref (a2)), some (.ref (a3)), some (.int (i4)), none, none] [] (kc) (ks)) ∧ (((S.2 (Int32.toNatClampNeg (i4))) &&& (63 : Int32)) = 17 → gG d (mL_law S) mc ms X 735 (n) H [some (.float 300), some (.ref (a1)), some (.ref (a2)), some (.ref (a3)), some (.int (i4)), none, none] [] (kc) (ks)) ∧ (((S.2 (Int32.toNatClampNeg (i4))) &&& (63 : Int32)) = 18 → gG d (mL_law S) mc ms X 760 (n) H [some (.float 300), some (.ref (a1)), some (.ref (a2)), some (.ref (a3)), some (.int (i4)), none, none] [] (kc) (ks)) ∧ (((S.2 (Int32.toNatClampNeg (i4))) &&& (63 : Int32)) = 19 → gG d (mL_law S) mc ms X 785 (n) H [some (.float 300), some (.ref (a1)), some (.ref (a2)), some (.ref (a3)), some (.int (i4)), none, none] [] (kc) (ks)) ∧ (((S.2 (Int32.toNatClampNeg (i4))) &&& (63 : Int32)) = 20 → gG d (mL_law S) mc ms X 798 (n) H [some (.float 300), some (.ref (a1)), some (.ref (a2)), some (.ref (a3)), some (.int (i4)), none, none] [] (kc) (ks)) ∧ (((S.2 (Int32.toNatClampNeg (i4))) &&& (63 : Int32)) = 21 → gG d (mL_law S) mc ms X 823 (n) H [some (.float 300), some (.ref (a1)), some (.ref (a2)), some (.ref (a3)), some (.int (i4)), none, none] [] (kc) (ks)) ∧ (((S.2 (Int32.toNatClampNeg (i4))) &&& (63 : Int32)) = 22 → gG d (mL_law S) mc ms X 848 (n) H [some (.float 300), some (.ref (a1)), some (.ref (a2)), some (.ref (a3)), some (.int (i4)), none, none] [] (kc) (ks)) ∧ (((S.2 (Int32.toNatClampNeg (i4))) &&& (63 : Int32)) = 23 → gG d (mL_law S) mc ms X 873 (n) H [some (.float 300), some (.ref (a1)), some (.ref (a2)), some (.ref (a3)), some (.int (i4)), none, none] [] (kc) (ks)) ∧ (((S.2 (Int32.toNatClampNeg (i4))) &&& (63 : Int32)) = 24 → gG d (mL_law S) mc ms X 898 (n) H [some (.float 300), some (.ref (a1)), some (.ref (a2)), some (.ref (a3)), some (.int (i4)), none, none] [] (kc) (ks)) ∧ (((S.2 (Int32.toNatClampNeg (i4))) &&& (63 : Int32)) = 25 → gG d (mL_law S) mc ms X 911 (n) H [some (.float 300), some (.ref (a1)), some (.ref (a2)), some (.ref (a3)), some (.int (i4)), none, none] [] (kc) (ks)) ∧ (((S.2 (Int32.toNatClampNeg (i4))) &&& (63 : Int32)) = 26 → gG d (mL_law S) mc ms X 924 (n) H [some (.float 300), some (.ref (a1)), some (.ref (a2)), some (.ref (a3)), some (.int (i4)), none, none] [] (kc) (ks)) ∧ (((S.2 (Int32.toNatClampNeg (i4))) &&& (63 : Int32)) = 27 → gG d (mL_law S) mc ms X 937 (n) H [some (.float 300), some (.ref (a1)), some (.ref (a2)), some (.ref (a3)), some (.int (i4)), none, none] [] (kc) (ks)) ∧ (((S.2 (Int32.toNatClampNeg (i4))) &&& (63 : Int32)) = 28 → gG d (mL_law S) mc ms X 950 (n) H [some (.float 300), some (.ref (a1)), some (.ref (a2)), some (.ref (a3)), some (.int (i4)), none, none] [] (kc) (ks)) ∧ (((S.2 (Int32.toNatClampNeg (i4))) &&& (63 : Int32)) = 29 → gG d (mL_law S) mc ms X 963 (n) H [some (.float 300), some (.ref (a1)), some (.ref (a2)), some (.ref (a3)), some (.int (i4)), none, none] [] (kc) (ks)) ∧ (((S.2 (Int32.toNatClampNeg (i4))) &&& (63 : Int32)) = 30 → gG d (mL_law S) mc ms X 976 (n) H [some (.float 300), some (.ref (a1)), some (.ref (a2)), some (.ref (a3)), some (.int (i4)), none, none] [] (kc) (ks)) ∧ (((S.2 (Int32.toNatClampNeg (i4))) &&& (63 : Int32)) = 31 → gG d (mL_law S) mc ms X 989 (n) H [some (.float 300), some (.ref (a1)), some (.ref (a2)), some (.ref (a3)), some (.int (i4)), none, none] [] (kc) (ks)) ∧ (((S.2 (Int32.toNatClampNeg (i4))) &&& (63 : Int32)) = 32 → gG d (mL_law S) mc ms X 1002 (n) H [some (.float 300), some (.ref (a1)), some (.ref (a2)), some (.ref (a3)), some (.int (i4)), none, none] [] (kc) (ks)) ∧ (((S.2 (Int32.toNatClampNeg (i4))) &&& (63 : Int32)) = 33 → gG d (mL_law S) mc ms X 1039 (n) H [some (.float 300), some (.ref (a1)), some (.ref (a2)), some (.ref (a3)), some (.int (i4)), none, none] [] (kc) (ks)) ∧ (((S.2 (Int32.toNatClampNeg (i4))) &&& (63 : Int32)) = 34 → gG d (mL_law S) mc ms X 1064 (n) H [some (.float 300), some (.ref (a1)), some (.ref (a2)), some (.ref (a3)), some (.int (i4)), none, none] [] (kc) (ks)) ∧ (((S.2 (Int32.toNatClampNeg (i4))) &&& (63 : Int32)) = 35 → gG d (mL_law S) mc ms X 1117 (n) H [some (.float 300), some (.ref (a1)), some (.ref (a2)), some (.ref (a3)), some (.int (i4)), none, none] [] (kc) (ks)) ∧ (((S.2 (Int32.toNatClampNeg (i4))) &&& (63 : Int32)) = 36 → gG d (mL_law S) mc ms X 1130 (n) H [some (.float 300), some (.ref (a1)), some (.ref (a2)), some (.ref (a3)), some (.int (i4)), none, none] [] (kc) (ks)) ∧ (((S.2 (Int32.toNatClampNeg (i4))) &&& (63 : Int32)) = 37 → gG d (mL_law S) mc ms X 1143 (n) H [some (.float 300), some (.ref (a1)), some (.ref (a2)), some (.ref (a3)), some (.int (i4)), none, none] [] (kc) (ks)) ∧ (((S.2 (Int32.toNatClampNeg (i4))) &&& (63 : Int32)) = 38 → gG d (mL_law S) mc ms X 1192 (n) H [some (.float 300), some (.ref (a1)), some (.ref (a2)), some (.ref (a3)), some (.int (i4)), none, none] [] (kc) (ks)) ∧ (((S.2 (Int32.toNatClampNeg (i4))) &&& (63 : Int32)) = 39 → gG d (mL_law S) mc ms X 1284 (n) H [some (.float 300), some (.ref (a1)), some (.ref (a2)), some (.ref (a3)), some (.int (i4)), none, none] [] (kc) (ks)) ∧ (((S.2 (Int32.toNatClampNeg (i4))) &&& (63 : Int32)) = 40 → gG d (mL_law S) mc ms X 1333 (n) H [some (.float 300), some (.ref (a1)), some (.ref (a2)), some (.ref (a3)), some (.int (i4)), none, none] [] (kc) (ks)) ∧ (((S.2 (Int32.toNatClampNeg (i4))) &&& (63 : Int32)) = 41 → gG d (mL_law S) mc ms X 1386 (n) H [some (.float 300), some (.ref (a1)), some (.ref (a2)), some (.ref (a3)), some (.int (i4)), none, none] [] (kc) (ks))))) : gG d (mL_law S) mc ms X 23 n H [some (.float 300), some (.ref (a1)), some (.ref (a2)), some (.ref (a3)), some (.int (i4)), none, none] [] kc ks := by
  refine gG_iload dL_law_23 rfl ?_
  refine gG_aload_nT dL_law_25 rfl rfl ?_
  refine gG_slen rfl dL_law_26 ?_
  refine gG_bipush (v := 7) dL_law_27 (by decide) ?_
  refine gG_isub dL_law_29 ?_
  refine gG_ic_gt (tgt := 1417) dL_law_30 (by decide) (fun c => ?_) (fun c => ?_)
  · have h := h.1 c
    refine gG_iconst (v := 1) dL_law_1417 (by decide) ?_
    refine gG_exit h
  · have h := h.2 c
    refine gG_aload_nT dL_law_33 rfl rfl ?_
    refine gG_iload dL_law_34 rfl ?_
    obtain ⟨e1, h⟩ := h
    refine gG_sld rfl dL_law_36 e1 ?_
    refine gG_bipush (v := 63) dL_law_37 (by decide) ?_
    refine gG_iand dL_law_39 ?_
    by_cases hz : (((S.2 (Int32.toNatClampNeg (i4))) &&& (63 : Int32))).toInt < 0 ∨ 41 < (((S.2 (Int32.toNatClampNeg (i4))) &&& (63 : Int32))).toInt
    · refine gG_tableOut (tgt := 1411) dL_law_40 hz (by decide) ?_
      have h := h.1 hz
      refine gG_locals ?_ h
      exact ⟨rfl, ⟨rfl, ⟨rfl, ⟨rfl, ⟨rfl, trivial⟩⟩⟩⟩⟩
    · have h := h.2
      obtain ⟨x9, e9⟩ : ∃ x9 : Int32, x9 = ((S.2 (Int32.toNatClampNeg (i4))) &&& (63 : Int32)) := ⟨_, rfl⟩
      have hz2 : x9 = 0 ∨ x9 = 1 ∨ x9 = 2 ∨ x9 = 3 ∨ x9 = 4 ∨ x9 = 5 ∨ x9 = 6 ∨ x9 = 7 ∨ x9 = 8 ∨ x9 = 9 ∨ x9 = 10 ∨ x9 = 11 ∨ x9 = 12 ∨ x9 = 13 ∨ x9 = 14 ∨ x9 = 15 ∨ x9 = 16 ∨ x9 = 17 ∨ x9 = 18 ∨ x9 = 19 ∨ x9 = 20 ∨ x9 = 21 ∨ x9 = 22 ∨ x9 = 23 ∨ x9 = 24 ∨ x9 = 25 ∨ x9 = 26 ∨ x9 = 27 ∨ x9 = 28 ∨ x9 = 29 ∨ x9 = 30 ∨ x9 = 31 ∨ x9 = 32 ∨ x9 = 33 ∨ x9 = 34 ∨ x9 = 35 ∨ x9 = 36 ∨ x9 = 37 ∨ x9 = 38 ∨ x9 = 39 ∨ x9 = 40 ∨ x9 = 41 := by
        rw [← e9] at hz
        exact g_sw_0_41 hz
      rw [← e9]; rw [← e9] at h
      rcases hz2 with z | z | z | z | z | z | z | z | z | z | z | z | z | z | z | z | z | z | z | z | z | z | z | z | z | z | z | z | z | z | z | z | z | z | z | z | z | z | z | z | z | z <;> rw [z] at h ⊢
      · refine gG_tableIn (tgt := 224) dL_law_40 (by decide) (by decide) rfl (by decide) ?_
        have h := h.1 rfl
        refine gG_locals ?_ h
        exact ⟨rfl, ⟨rfl, ⟨rfl, ⟨rfl, ⟨rfl, trivial⟩⟩⟩⟩⟩
      · refine gG_tableIn (tgt := 371) dL_law_40 (by decide) (by decide) rfl (by decide) ?_
        have h := h.2.1 rfl
        refine gG_locals ?_ h
        exact ⟨rfl, ⟨rfl, ⟨rfl, ⟨rfl, ⟨rfl, trivial⟩⟩⟩⟩⟩
      · refine gG_tableIn (tgt := 384) dL_law_40 (by decide) (by decide) rfl (by decide) ?_
        have h := h.2.2.1 rfl
        refine gG_locals ?_ h
        exact ⟨rfl, ⟨rfl, ⟨rfl, ⟨rfl, ⟨rfl, trivial⟩⟩⟩⟩⟩
      · refine gG_tableIn (tgt := 397) dL_law_40 (by decide) (by decide) rfl (by decide) ?_
        have h := h.2.2.2.1 rfl
        refine gG_locals ?_ h
        exact ⟨rfl, ⟨rfl, ⟨rfl, ⟨rfl, ⟨rfl, trivial⟩⟩⟩⟩⟩
      · refine gG_tableIn (tgt := 410) dL_law_40 (by decide) (by decide) rfl (by decide) ?_
        have h := h.2.2.2.2.1 rfl
        refine gG_locals ?_ h
        exact ⟨rfl, ⟨rfl, ⟨rfl, ⟨rfl, ⟨rfl, trivial⟩⟩⟩⟩⟩
      · refine gG_tableIn (tgt := 447) dL_law_40 (by decide) (by decide) rfl (by decide) ?_
        have h := h.2.2.2.2.2.1 rfl
        refine gG_locals ?_ h
        exact ⟨rfl, ⟨rfl, ⟨rfl, ⟨rfl, ⟨rfl, trivial⟩⟩⟩⟩⟩
      · refine gG_tableIn (tgt := 472) dL_law_40 (by decide) (by decide) rfl (by decide) ?_
        have h := h.2.2.2.2.2.2.1 rfl
        refine gG_locals ?_ h
        exact ⟨rfl, ⟨rfl, ⟨rfl, ⟨rfl, ⟨rfl, trivial⟩⟩⟩⟩⟩
      · refine gG_tableIn (tgt := 497) dL_law_40 (by decide) (by decide) rfl (by decide) ?_
        have h := h.2.2.2.2.2.2.2.1 rfl
        refine gG_locals ?_ h
        exact ⟨rfl, ⟨rfl, ⟨rfl, ⟨rfl, ⟨rfl, trivial⟩⟩⟩⟩⟩
      · refine gG_tableIn (tgt := 510) dL_law_40 (by decide) (by decide) rfl (by decide) ?_
        have h := h.2.2.2.2.2.2.2.2.1 rfl
        refine gG_locals ?_ h
        exact ⟨rfl, ⟨rfl, ⟨rfl, ⟨rfl, ⟨rfl, trivial⟩⟩⟩⟩⟩
      · refine gG_tableIn (tgt := 547) dL_law_40 (by decide) (by decide) rfl (by decide) ?_
        have h := h.2.2.2.2.2.2.2.2.2.1 rfl
        refine gG_locals ?_ h
        exact ⟨rfl, ⟨rfl, ⟨rfl, ⟨rfl, ⟨rfl, trivial⟩⟩⟩⟩⟩
      · refine gG_tableIn (tgt := 572) dL_law_40 (by decide) (by decide) rfl (by decide) ?_
        have h := h.2.2.2.2.2.2.2.2.2.2.1 rfl
        refine gG_locals ?_ h
        exact ⟨rfl, ⟨rfl, ⟨rfl, ⟨rfl, ⟨rfl, trivial⟩⟩⟩⟩⟩
      · refine gG_tableIn (tgt := 597) dL_law_40 (by decide) (by decide) rfl (by decide) ?_
        have h := h.2.2.2.2.2.2.2.2.2.2.2.1 rfl
        refine gG_locals ?_ h
        exact ⟨rfl, ⟨rfl, ⟨rfl, ⟨rfl, ⟨rfl, trivial⟩⟩⟩⟩⟩
      · refine gG_tableIn (tgt := 610) dL_law_40 (by decide) (by decide) rfl (by decide) ?_
        have h := h.2.2.2.2.2.2.2.2.2.2.2.2.1 rfl
        refine gG_locals ?_ h
        exact ⟨rfl, ⟨rfl, ⟨rfl, ⟨rfl, ⟨rfl, trivial⟩⟩⟩⟩⟩
      · refine gG_tableIn (tgt := 635) dL_law_40 (by decide) (by decide) rfl (by decide) ?_
        have h := h.2.2.2.2.2.2.2.2.2.2.2.2.2.1 rfl
        refine gG_locals ?_ h
        exact ⟨rfl, ⟨rfl, ⟨rfl, ⟨rfl, ⟨rfl, trivial⟩⟩⟩⟩⟩
      · refine gG_tableIn (tgt := 672) dL_law_40 (by decide) (by decide) rfl (by decide) ?_
        have h := h.2.2.2.2.2.2.2.2.2.2.2.2.2.2.1 rfl
        refine gG_locals ?_ h
        exact ⟨rfl, ⟨rfl, ⟨rfl, ⟨rfl, ⟨rfl, trivial⟩⟩⟩⟩⟩
      · refine gG_tableIn (tgt := 697) dL_law_40 (by decide) (by decide) rfl (by decide) ?_
        have h := h.2.2.2.2.2.2.2.2.2.2.2.2.2.2.2.1 rfl
        refine gG_locals ?_ h
        exact ⟨rfl, ⟨rfl, ⟨rfl, ⟨rfl, ⟨rfl, trivial⟩⟩⟩⟩⟩
      · refine gG_tableIn (tgt := 722) dL_law_40 (by decide) (by decide) rfl (by decide) ?_
        have h := h.2.2.2.2.2.2.2.2.2.2.2.2.2.2.2.2.1 rfl
        refine gG_locals ?_ h
        exact ⟨rfl, ⟨rfl, ⟨rfl, ⟨rfl, ⟨rfl, trivial⟩⟩⟩⟩⟩
      · refine gG_tableIn (tgt := 735) dL_law_40 (by decide) (by decide) rfl (by decide) ?_
        have h := h.2.2.2.2.2.2.2.2.2.2.2.2.2.2.2.2.2.1 rfl
        refine gG_locals ?_ h
        exact ⟨rfl, ⟨rfl, ⟨rfl, ⟨rfl, ⟨rfl, trivial⟩⟩⟩⟩⟩
      · refine gG_tableIn (tgt := 760) dL_law_40 (by decide) (by decide) rfl (by decide) ?_
        have h := h.2.2.2.2.2.2.2.2.2.2.2.2.2.2.2.2.2.2.1 rfl
        refine gG_locals ?_ h
        exact ⟨rfl, ⟨rfl, ⟨rfl, ⟨rfl, ⟨rfl, trivial⟩⟩⟩⟩⟩
      · refine gG_tableIn (tgt := 785) dL_law_40 (by decide) (by decide) rfl (by decide) ?_
        have h := h.2.2.2.2.2.2.2.2.2.2.2.2.2.2.2.2.2.2.2.1 rfl
        refine gG_locals ?_ h
        exact ⟨rfl, ⟨rfl, ⟨rfl, ⟨rfl, ⟨rfl, trivial⟩⟩⟩⟩⟩
      · refine gG_tableIn (tgt := 798) dL_law_40 (by decide) (by decide) rfl (by decide) ?_
        have h := h.2.2.2.2.2.2.2.2.2.2.2.2.2.2.2.2.2.2.2.2.1 rfl
        refine gG_locals ?_ h
        exact ⟨rfl, ⟨rfl, ⟨rfl, ⟨rfl, ⟨rfl, trivial⟩⟩⟩⟩⟩
      · refine gG_tableIn (tgt := 823) dL_law_40 (by decide) (by decide) rfl (by decide) ?_
        have h := h.2.2.2.2.2.2.2.2.2.2.2.2.2.2.2.2.2.2.2.2.2.1 rfl
        refine gG_locals ?_ h
        exact ⟨rfl, ⟨rfl, ⟨rfl, ⟨rfl, ⟨rfl, trivial⟩⟩⟩⟩⟩
      · refine gG_tableIn (tgt := 848) dL_law_40 (by decide) (by decide) rfl (by decide) ?_
        have h := h.2.2.2.2.2.2.2.2.2.2.2.2.2.2.2.2.2.2.2.2.2.2.1 rfl
        refine gG_locals ?_ h
        exact ⟨rfl, ⟨rfl, ⟨rfl, ⟨rfl, ⟨rfl, trivial⟩⟩⟩⟩⟩
      · refine gG_tableIn (tgt := 873) dL_law_40 (by decide) (by decide) rfl (by decide) ?_
        have h := h.2.2.2.2.2.2.2.2.2.2.2.2.2.2.2.2.2.2.2.2.2.2.2.1 rfl
        refine gG_locals ?_ h
        exact ⟨rfl, ⟨rfl, ⟨rfl, ⟨rfl, ⟨rfl, trivial⟩⟩⟩⟩⟩
      · refine gG_tableIn (tgt := 898) dL_law_40 (by decide) (by decide) rfl (by decide) ?_
        have h := h.2.2.2.2.2.2.2.2.2.2.2.2.2.2.2.2.2.2.2.2.2.2.2.2.1 rfl
        refine gG_locals ?_ h
        exact ⟨rfl, ⟨rfl, ⟨rfl, ⟨rfl, ⟨rfl, trivial⟩⟩⟩⟩⟩
      · refine gG_tableIn (tgt := 911) dL_law_40 (by decide) (by decide) rfl (by decide) ?_
        have h := h.2.2.2.2.2.2.2.2.2.2.2.2.2.2.2.2.2.2.2.2.2.2.2.2.2.1 rfl
        refine gG_locals ?_ h
        exact ⟨rfl, ⟨rfl, ⟨rfl, ⟨rfl, ⟨rfl, trivial⟩⟩⟩⟩⟩
      · refine gG_tableIn (tgt := 924) dL_law_40 (by decide) (by decide) rfl (by decide) ?_
        have h := h.2.2.2.2.2.2.2.2.2.2.2.2.2.2.2.2.2.2.2.2.2.2.2.2.2.2.1 rfl
        refine gG_locals ?_ h
        exact ⟨rfl, ⟨rfl, ⟨rfl, ⟨rfl, ⟨rfl, trivial⟩⟩⟩⟩⟩
      · refine gG_tableIn (tgt := 937) dL_law_40 (by decide) (by decide) rfl (by decide) ?_
        have h := h.2.2.2.2.2.2.2.2.2.2.2.2.2.2.2.2.2.2.2.2.2.2.2.2.2.2.2.1 rfl
        refine gG_locals ?_ h
        exact ⟨rfl, ⟨rfl, ⟨rfl, ⟨rfl, ⟨rfl, trivial⟩⟩⟩⟩⟩
      · refine gG_tableIn (tgt := 950) dL_law_40 (by decide) (by decide) rfl (by decide) ?_
        have h := h.2.2.2.2.2.2.2.2.2.2.2.2.2.2.2.2.2.2.2.2.2.2.2.2.2.2.2.2.1 rfl
        refine gG_locals ?_ h
        exact ⟨rfl, ⟨rfl, ⟨rfl, ⟨rfl, ⟨rfl, trivial⟩⟩⟩⟩⟩
      · refine gG_tableIn (tgt := 963) dL_law_40 (by decide) (by decide) rfl (by decide) ?_
        have h := h.2.2.2.2.2.2.2.2.2.2.2.2.2.2.2.2.2.2.2.2.2.2.2.2.2.2.2.2.2.1 rfl
        refine gG_locals ?_ h
        exact ⟨rfl, ⟨rfl, ⟨rfl, ⟨rfl, ⟨rfl, trivial⟩⟩⟩⟩⟩
      · refine gG_tableIn (tgt := 976) dL_law_40 (by decide) (by decide) rfl (by decide) ?_
        have h := h.2.2.2.2.2.2.2.2.2.2.2.2.2.2.2.2.2.2.2.2.2.2.2.2.2.2.2.2.2.2.1 rfl
        refine gG_locals ?_ h
        exact ⟨rfl, ⟨rfl, ⟨rfl, ⟨rfl, ⟨rfl, trivial⟩⟩⟩⟩⟩
      · refine gG_tableIn (tgt := 989) dL_law_40 (by decide) (by decide) rfl (by decide) ?_
        have h := h.2.2.2.2.2.2.2.2.2.2.2.2.2.2.2.2.2.2.2.2.2.2.2.2.2.2.2.2.2.2.2.1 rfl
        refine gG_locals ?_ h
        exact ⟨rfl, ⟨rfl, ⟨rfl, ⟨rfl, ⟨rfl, trivial⟩⟩⟩⟩⟩
      · refine gG_tableIn (tgt := 1002) dL_law_40 (by decide) (by decide) rfl (by decide) ?_
        have h := h.2.2.2.2.2.2.2.2.2.2.2.2.2.2.2.2.2.2.2.2.2.2.2.2.2.2.2.2.2.2.2.2.1 rfl
        refine gG_locals ?_ h
        exact ⟨rfl, ⟨rfl, ⟨rfl, ⟨rfl, ⟨rfl, trivial⟩⟩⟩⟩⟩
      · refine gG_tableIn (tgt := 1039) dL_law_40 (by decide) (by decide) rfl (by decide) ?_
        have h := h.2.2.2.2.2.2.2.2.2.2.2.2.2.2.2.2.2.2.2.2.2.2.2.2.2.2.2.2.2.2.2.2.2.1 rfl
        refine gG_locals ?_ h
        exact ⟨rfl, ⟨rfl, ⟨rfl, ⟨rfl, ⟨rfl, trivial⟩⟩⟩⟩⟩
      · refine gG_tableIn (tgt := 1064) dL_law_40 (by decide) (by decide) rfl (by decide) ?_
        have h := h.2.2.2.2.2.2.2.2.2.2.2.2.2.2.2.2.2.2.2.2.2.2.2.2.2.2.2.2.2.2.2.2.2.2.1 rfl
        refine gG_locals ?_ h
        exact ⟨rfl, ⟨rfl, ⟨rfl, ⟨rfl, ⟨rfl, trivial⟩⟩⟩⟩⟩
      · refine gG_tableIn (tgt := 1117) dL_law_40 (by decide) (by decide) rfl (by decide) ?_
        have h := h.2.2.2.2.2.2.2.2.2.2.2.2.2.2.2.2.2.2.2.2.2.2.2.2.2.2.2.2.2.2.2.2.2.2.2.1 rfl
        refine gG_locals ?_ h
        exact ⟨rfl, ⟨rfl, ⟨rfl, ⟨rfl, ⟨rfl, trivial⟩⟩⟩⟩⟩
      · refine gG_tableIn (tgt := 1130) dL_law_40 (by decide) (by decide) rfl (by decide) ?_
        have h := h.2.2.2.2.2.2.2.2.2.2.2.2.2.2.2.2.2.2.2.2.2.2.2.2.2.2.2.2.2.2.2.2.2.2.2.2.1 rfl
        refine gG_locals ?_ h
        exact ⟨rfl, ⟨rfl, ⟨rfl, ⟨rfl, ⟨rfl, trivial⟩⟩⟩⟩⟩
      · refine gG_tableIn (tgt := 1143) dL_law_40 (by decide) (by decide) rfl (by decide) ?_
        have h := h.2.2.2.2.2.2.2.2.2.2.2.2.2.2.2.2.2.2.2.2.2.2.2.2.2.2.2.2.2.2.2.2.2.2.2.2.2.1 rfl
        refine gG_locals ?_ h
        exact ⟨rfl, ⟨rfl, ⟨rfl, ⟨rfl, ⟨rfl, trivial⟩⟩⟩⟩⟩
      · refine gG_tableIn (tgt := 1192) dL_law_40 (by decide) (by decide) rfl (by decide) ?_
        have h := h.2.2.2.2.2.2.2.2.2.2.2.2.2.2.2.2.2.2.2.2.2.2.2.2.2.2.2.2.2.2.2.2.2.2.2.2.2.2.1 rfl
        refine gG_locals ?_ h
        exact ⟨rfl, ⟨rfl, ⟨rfl, ⟨rfl, ⟨rfl, trivial⟩⟩⟩⟩⟩
      · refine gG_tableIn (tgt := 1284) dL_law_40 (by decide) (by decide) rfl (by decide) ?_
        have h := h.2.2.2.2.2.2.2.2.2.2.2.2.2.2.2.2.2.2.2.2.2.2.2.2.2.2.2.2.2.2.2.2.2.2.2.2.2.2.2.1 rfl
        refine gG_locals ?_ h
        exact ⟨rfl, ⟨rfl, ⟨rfl, ⟨rfl, ⟨rfl, trivial⟩⟩⟩⟩⟩
      · refine gG_tableIn (tgt := 1333) dL_law_40 (by decide) (by decide) rfl (by decide) ?_
        have h := h.2.2.2.2.2.2.2.2.2.2.2.2.2.2.2.2.2.2.2.2.2.2.2.2.2.2.2.2.2.2.2.2.2.2.2.2.2.2.2.2.1 rfl
        refine gG_locals ?_ h
        exact ⟨rfl, ⟨rfl, ⟨rfl, ⟨rfl, ⟨rfl, trivial⟩⟩⟩⟩⟩
      · refine gG_tableIn (tgt := 1386) dL_law_40 (by decide) (by decide) rfl (by decide) ?_
        have h := h.2.2.2.2.2.2.2.2.2.2.2.2.2.2.2.2.2.2.2.2.2.2.2.2.2.2.2.2.2.2.2.2.2.2.2.2.2.2.2.2.2 rfl
        refine gG_locals ?_ h
        exact ⟨rfl, ⟨rfl, ⟨rfl, ⟨rfl, ⟨rfl, trivial⟩⟩⟩⟩⟩
theorem kL_law_224 {S : Nat × (Nat → Int32)} {d n kc ks mc ms : Nat} {H : gHp} {X : gX} {a1 : Nat} {a2 : Nat} {a3 : Nat} {i4 : Int32} (h : vp_in ((i4 + (1 : Int32))) S.1 ∧ (vp_in ((i4 + (2 : Int32))) S.1 ∧ (vp_in ((i4 + (3 : Int32))) S.1 ∧ (vp_in ((i4 + (4 : Int32))) S.1 ∧ (vp_in ((i4 + (5 : Int32))) S.1 ∧ (vp_in ((i4 + (6 : Int32))) S.1 ∧ (kc ≤ mc ∧ ks ≤ ms ∧ (∃ fs, H (a1) = .inr (11, fs)) ∧ g_ci d mX11_feed (n) H [.ref (a1), .long ((((Int32.toInt64 ((S.2 (Int32.toNatClampNeg ((i4 + (1 : Int32))))))) <<< (Int32.toInt64 ((32 : Int32)) &&& 63)) ||| ((Int32.toInt64 ((S.2 (Int32.toNatClampNeg ((i4 + (2 : Int32))))))) &&& (4294967295 : Int64)))), .long ((((Int32.toInt64 ((S.2 (Int32.toNatClampNeg ((i4 + (3 : Int32))))))) <<< (Int32.toInt64 ((32 : Int32)) &&& 63)) ||| ((Int32.toInt64 ((S.2 (Int32.toNatClampNeg ((i4 + (4 : Int32))))))) &&& (4294967295 : Int64)))), .long ((((Int32.toInt64 ((S.2 (Int32.toNatClampNeg ((i4 + (5 : Int32))))))) <<< (Int32.toInt64 ((32 : Int32)) &&& 63)) ||| ((Int32.toInt64 ((S.2 (Int32.toNatClampNeg ((i4 + (6 : Int32))))))) &&& (4294967295 : Int64))))] (fun H1 x2 => vp_in ((i4 + (1 : Int32))) S.1 ∧ (vp_in ((i4 + (2 : Int32))) S.1 ∧ (vp_in ((i4 + (3 : Int32))) S.1 ∧ (vp_in ((i4 + (4 : Int32))) S.1 ∧ (vp_in ((i4 + (5 : Int32))) S.1 ∧ (vp_in ((i4 + (6 : Int32))) S.1 ∧ (kc ≤ mc ∧ ks ≤ ms ∧ (∃ fs, H1 (a2) = .inr (12, fs)) ∧ g_ci d mX12_feed (n) H1 [.ref (a2), .long ((((Int32.toInt64 ((S.2 (Int32.toNatClampNeg ((i4 + (1 : Int32))))))) <<< (Int32.toInt64 ((32 : Int32)) &&& 63)) ||| ((Int32.toInt64 ((S.2 (Int32.toNatClampNeg ((i4 + (2 : Int32))))))) &&& (4294967295 : Int64)))), .long ((((Int32.toInt64 ((S.2 (Int32.toNatClampNeg ((i4 + (3 : Int32))))))) <<< (Int32.toInt64 ((32 : Int32)) &&& 63)) ||| ((Int32.toInt64 ((S.2 (Int32.toNatClampNeg ((i4 + (4 : Int32))))))) &&& (4294967295 : Int64)))), .long ((((Int32.toInt64 ((S.2 (Int32.toNatClampNeg ((i4 + (5 : Int32))))))) <<< (Int32.toInt64 ((32 : Int32)) &&& 63)) ||| ((Int32.toInt64 ((S.2 (Int32.toNatClampNeg ((i4 + (6 : Int32))))))) &&& (4294967295 : Int64))))] (fun H3 x4 => (x2 = x4 → gG d (mL_law S) mc ms X 1411 (n) H3 [some (.float 300), some (.ref (a1)), some (.ref (a2)), some (.ref (a3)), some (.int (i4)), none, none] [] (kc) (ks)) ∧ (¬ (x2 = x4) → X 370 (n) H3 [some (.float 300), some (.ref (a1)), some (.ref (a2)), some (.ref (a3)), some (.int (i4)), none, none] [.int ((0 : Int32))] (kc) (ks))))))))))))))))) : gG d (mL_law S) mc ms X 224 n H [some (.float 300), some (.ref (a1)), some (.ref (a2)), some (.ref (a3)), some (.int (i4)), none, none] [] kc ks := by
  refine gG_aload_n dL_law_224 rfl rfl ?_
  refine gG_aload_nT dL_law_225 rfl rfl ?_
  refine gG_iload dL_law_226 rfl ?_
  refine gG_iconst (v := 1) dL_law_228 (by decide) ?_
  refine gG_iadd dL_law_229 ?_
  obtain ⟨e1, h⟩ := h
  refine gG_sld rfl dL_law_230 e1 ?_
  refine gG_i2l dL_law_231 ?_
  refine gG_bipush (v := 32) dL_law_232 (by decide) ?_
  refine gG_lshl dL_law_234 ?_
  refine gG_aload_nT dL_law_235 rfl rfl ?_
  refine gG_iload dL_law_236 rfl ?_
  refine gG_iconst (v := 2) dL_law_238 (by decide) ?_
  refine gG_iadd dL_law_239 ?_
  obtain ⟨e1, h⟩ := h
  refine gG_sld rfl dL_law_240 e1 ?_
  refine gG_i2l dL_law_241 ?_
  refine gG_ldc2 dL_law_242 cl_L_19 ?_
  refine gG_land dL_law_245 ?_
  refine gG_lor dL_law_246 ?_
  refine gG_aload_nT dL_law_247 rfl rfl ?_
  refine gG_iload dL_law_248 rfl ?_
  refine gG_iconst (v := 3) dL_law_250 (by decide) ?_
  refine gG_iadd dL_law_251 ?_
  obtain ⟨e1, h⟩ := h
  refine gG_sld rfl dL_law_252 e1 ?_
  refine gG_i2l dL_law_253 ?_
  refine gG_bipush (v := 32) dL_law_254 (by decide) ?_
  refine gG_lshl dL_law_256 ?_
  refine gG_aload_nT dL_law_257 rfl rfl ?_
  refine gG_iload dL_law_258 rfl ?_
  refine gG_iconst (v := 4) dL_law_260 (by decide) ?_
  refine gG_iadd dL_law_261 ?_
  obtain ⟨e1, h⟩ := h
  refine gG_sld rfl dL_law_262 e1 ?_
  refine gG_i2l dL_law_263 ?_
  refine gG_ldc2 dL_law_264 cl_L_19 ?_
  refine gG_land dL_law_267 ?_
  refine gG_lor dL_law_268 ?_
  refine gG_aload_nT dL_law_269 rfl rfl ?_
  refine gG_iload dL_law_270 rfl ?_
  refine gG_iconst (v := 5) dL_law_272 (by decide) ?_
  refine gG_iadd dL_law_273 ?_
  obtain ⟨e1, h⟩ := h
  refine gG_sld rfl dL_law_274 e1 ?_
  refine gG_i2l dL_law_275 ?_
  refine gG_bipush (v := 32) dL_law_276 (by decide) ?_
  refine gG_lshl dL_law_278 ?_
  refine gG_aload_nT dL_law_279 rfl rfl ?_
  refine gG_iload dL_law_280 rfl ?_
  refine gG_bipush (v := 6) dL_law_282 (by decide) ?_
  refine gG_iadd dL_law_284 ?_
  obtain ⟨e1, h⟩ := h
  refine gG_sld rfl dL_law_285 e1 ?_
  refine gG_i2l dL_law_286 ?_
  refine gG_ldc2 dL_law_287 cl_L_19 ?_
  refine gG_land dL_law_290 ?_
  refine gG_lor dL_law_291 ?_
  obtain ⟨hk1, hk2, hrc, d2, P2, hdd, hC, h⟩ := h
  refine gG_cvi (As := [.long ((((Int32.toInt64 ((S.2 (Int32.toNatClampNeg ((i4 + (1 : Int32))))))) <<< (Int32.toInt64 ((32 : Int32)) &&& 63)) ||| ((Int32.toInt64 ((S.2 (Int32.toNatClampNeg ((i4 + (2 : Int32))))))) &&& (4294967295 : Int64)))), .long ((((Int32.toInt64 ((S.2 (Int32.toNatClampNeg ((i4 + (3 : Int32))))))) <<< (Int32.toInt64 ((32 : Int32)) &&& 63)) ||| ((Int32.toInt64 ((S.2 (Int32.toNatClampNeg ((i4 + (4 : Int32))))))) &&& (4294967295 : Int64)))), .long ((((Int32.toInt64 ((S.2 (Int32.toNatClampNeg ((i4 + (5 : Int32))))))) <<< (Int32.toInt64 ((32 : Int32)) &&& 63)) ||| ((Int32.toInt64 ((S.2 (Int32.toNatClampNeg ((i4 + (6 : Int32))))))) &&& (4294967295 : Int64))))]) (st := []) dL_law_292 mV_L_21 hdd hrc rfl rfl (Nat.le_of_ble_eq_true rfl) (Nat.le_refl _) ⟨hk1, hk2⟩ hC (fun H1 x2 hp => ?_)
  have h := h H1 x2 hp
  refine gG_aload_n dL_law_295 rfl rfl ?_
  refine gG_aload_nT dL_law_296 rfl rfl ?_
  refine gG_iload dL_law_297 rfl ?_
  refine gG_iconst (v := 1) dL_law_299 (by decide) ?_
  refine gG_iadd dL_law_300 ?_
  obtain ⟨e1, h⟩ := h
  refine gG_sld rfl dL_law_301 e1 ?_
  refine gG_i2l dL_law_302 ?_
  refine gG_bipush (v := 32) dL_law_303 (by decide) ?_
  refine gG_lshl dL_law_305 ?_
  refine gG_aload_nT dL_law_306 rfl rfl ?_
  refine gG_iload dL_law_307 rfl ?_
  refine gG_iconst (v := 2) dL_law_309 (by decide) ?_
  refine gG_iadd dL_law_310 ?_
  obtain ⟨e1, h⟩ := h
  refine gG_sld rfl dL_law_311 e1 ?_
  refine gG_i2l dL_law_312 ?_
  refine gG_ldc2 dL_law_313 cl_L_19 ?_
  refine gG_land dL_law_316 ?_
  refine gG_lor dL_law_317 ?_
  refine gG_aload_nT dL_law_318 rfl rfl ?_
  refine gG_iload dL_law_319 rfl ?_
  refine gG_iconst (v := 3) dL_law_321 (by decide) ?_
  refine gG_iadd dL_law_322 ?_
  obtain ⟨e1, h⟩ := h
  refine gG_sld rfl dL_law_323 e1 ?_
  refine gG_i2l dL_law_324 ?_
  refine gG_bipush (v := 32) dL_law_325 (by decide) ?_
  refine gG_lshl dL_law_327 ?_
  refine gG_aload_nT dL_law_328 rfl rfl ?_
  refine gG_iload dL_law_329 rfl ?_
  refine gG_iconst (v := 4) dL_law_331 (by decide) ?_
  refine gG_iadd dL_law_332 ?_
  obtain ⟨e1, h⟩ := h
  refine gG_sld rfl dL_law_333 e1 ?_
  refine gG_i2l dL_law_334 ?_
  refine gG_ldc2 dL_law_335 cl_L_19 ?_
  refine gG_land dL_law_338 ?_
  refine gG_lor dL_law_339 ?_
  refine gG_aload_nT dL_law_340 rfl rfl ?_
  refine gG_iload dL_law_341 rfl ?_
  refine gG_iconst (v := 5) dL_law_343 (by decide) ?_
  refine gG_iadd dL_law_344 ?_
  obtain ⟨e1, h⟩ := h
  refine gG_sld rfl dL_law_345 e1 ?_
  refine gG_i2l dL_law_346 ?_
  refine gG_bipush (v := 32) dL_law_347 (by decide) ?_
  refine gG_lshl dL_law_349 ?_
  refine gG_aload_nT dL_law_350 rfl rfl ?_
  refine gG_iload dL_law_351 rfl ?_
  refine gG_bipush (v := 6) dL_law_353 (by decide) ?_
  refine gG_iadd dL_law_355 ?_
  obtain ⟨e1, h⟩ := h
  refine gG_sld rfl dL_law_356 e1 ?_
  refine gG_i2l dL_law_357 ?_
  refine gG_ldc2 dL_law_358 cl_L_19 ?_
  refine gG_land dL_law_361 ?_
  refine gG_lor dL_law_362 ?_
  obtain ⟨hk1, hk2, hrc, d2, P2, hdd, hC, h⟩ := h
  refine gG_cvi (As := [.long ((((Int32.toInt64 ((S.2 (Int32.toNatClampNeg ((i4 + (1 : Int32))))))) <<< (Int32.toInt64 ((32 : Int32)) &&& 63)) ||| ((Int32.toInt64 ((S.2 (Int32.toNatClampNeg ((i4 + (2 : Int32))))))) &&& (4294967295 : Int64)))), .long ((((Int32.toInt64 ((S.2 (Int32.toNatClampNeg ((i4 + (3 : Int32))))))) <<< (Int32.toInt64 ((32 : Int32)) &&& 63)) ||| ((Int32.toInt64 ((S.2 (Int32.toNatClampNeg ((i4 + (4 : Int32))))))) &&& (4294967295 : Int64)))), .long ((((Int32.toInt64 ((S.2 (Int32.toNatClampNeg ((i4 + (5 : Int32))))))) <<< (Int32.toInt64 ((32 : Int32)) &&& 63)) ||| ((Int32.toInt64 ((S.2 (Int32.toNatClampNeg ((i4 + (6 : Int32))))))) &&& (4294967295 : Int64))))]) (st := [.int (x2)]) dL_law_363 mV_L_25 hdd hrc rfl rfl (Nat.le_of_ble_eq_true rfl) (Nat.le_refl _) ⟨hk1, hk2⟩ hC (fun H3 x4 hp => ?_)
  have h := h H3 x4 hp
  refine gG_ic_eq (tgt := 1411) dL_law_366 (by decide) (fun c => ?_) (fun c => ?_)
  · have h := h.1 c
    refine gG_locals ?_ h
    exact ⟨rfl, ⟨rfl, ⟨rfl, ⟨rfl, ⟨rfl, trivial⟩⟩⟩⟩⟩
  · have h := h.2 c
    refine gG_iconst (v := 0) dL_law_369 (by decide) ?_
    refine gG_exit h
theorem kL_law_371 {S : Nat × (Nat → Int32)} {d n kc ks mc ms : Nat} {H : gHp} {X : gX} {a1 : Nat} {a2 : Nat} {a3 : Nat} {i4 : Int32} (h : kc ≤ mc ∧ ks ≤ ms ∧ (∃ fs, H (a1) = .inr (11, fs)) ∧ g_ci d mX11_front (n) H [.ref (a1)] (fun H1 x2 => kc ≤ mc ∧ ks ≤ ms ∧ (∃ fs, H1 (a2) = .inr (12, fs)) ∧ g_ci d mX12_front (n) H1 [.ref (a2)] (fun H3 x4 => (x2 = x4 → gG d (mL_law S) mc ms X 1411 (n) H3 [some (.float 300), some (.ref (a1)), some (.ref (a2)), some (.ref (a3)), some (.int (i4)), none, none] [] (kc) (ks)) ∧ (¬ (x2 = x4) → X 383 (n) H3 [some (.float 300), some (.ref (a1)), some (.ref (a2)), some (.ref (a3)), some (.int (i4)), none, none] [.int ((0 : Int32))] (kc) (ks))))) : gG d (mL_law S) mc ms X 371 n H [some (.float 300), some (.ref (a1)), some (.ref (a2)), some (.ref (a3)), some (.int (i4)), none, none] [] kc ks := by
  refine gG_aload_n dL_law_371 rfl rfl ?_
  obtain ⟨hk1, hk2, hrc, d2, P2, hdd, hC, h⟩ := h
  refine gG_cvi (As := []) (st := []) dL_law_372 mV_L_26 hdd hrc rfl rfl (Nat.le_of_ble_eq_true rfl) (Nat.le_refl _) ⟨hk1, hk2⟩ hC (fun H1 x2 hp => ?_)
  have h := h H1 x2 hp
  refine gG_aload_n dL_law_375 rfl rfl ?_
  obtain ⟨hk1, hk2, hrc, d2, P2, hdd, hC, h⟩ := h
  refine gG_cvi (As := []) (st := [.int (x2)]) dL_law_376 mV_L_30 hdd hrc rfl rfl (Nat.le_of_ble_eq_true rfl) (Nat.le_refl _) ⟨hk1, hk2⟩ hC (fun H3 x4 hp => ?_)
  have h := h H3 x4 hp
  refine gG_ic_eq (tgt := 1411) dL_law_379 (by decide) (fun c => ?_) (fun c => ?_)
  · have h := h.1 c
    refine gG_locals ?_ h
    exact ⟨rfl, ⟨rfl, ⟨rfl, ⟨rfl, ⟨rfl, trivial⟩⟩⟩⟩⟩
  · have h := h.2 c
    refine gG_iconst (v := 0) dL_law_382 (by decide) ?_
    refine gG_exit h
theorem kL_law_384 {S : Nat × (Nat → Int32)} {d n kc ks mc ms : Nat} {H : gHp} {X : gX} {a1 : Nat} {a2 : Nat} {a3 : Nat} {i4 : Int32} (h : kc ≤ mc ∧ ks ≤ ms ∧ (∃ fs, H (a1) = .inr (11, fs)) ∧ g_ci d mX11_day (n) H [.ref (a1)] (fun H1 x2 => kc ≤ mc ∧ ks ≤ ms ∧ (∃ fs, H1 (a2) = .inr (12, fs)) ∧ g_ci d mX12_day (n) H1 [.ref (a2)] (fun H3 x4 => (x2 = x4 → gG d (mL_law S) mc ms X 1411 (n) H3 [some (.float 300), some (.ref (a1)), some (.ref (a2)), some (.ref (a3)), some (.int (i4)), none, none] [] (kc) (ks)) ∧ (¬ (x2 = x4) → X 396 (n) H3 [some (.float 300), some (.ref (a1)), some (.ref (a2)), some (.ref (a3)), some (.int (i4)), none, none] [.int ((0 : Int32))] (kc) (ks))))) : gG d (mL_law S) mc ms X 384 n H [some (.float 300), some (.ref (a1)), some (.ref (a2)), some (.ref (a3)), some (.int (i4)), none, none] [] kc ks := by
  refine gG_aload_n dL_law_384 rfl rfl ?_
  obtain ⟨hk1, hk2, hrc, d2, P2, hdd, hC, h⟩ := h
  refine gG_cvi (As := []) (st := []) dL_law_385 mV_L_31 hdd hrc rfl rfl (Nat.le_of_ble_eq_true rfl) (Nat.le_refl _) ⟨hk1, hk2⟩ hC (fun H1 x2 hp => ?_)
  have h := h H1 x2 hp
  refine gG_aload_n dL_law_388 rfl rfl ?_
  obtain ⟨hk1, hk2, hrc, d2, P2, hdd, hC, h⟩ := h
  refine gG_cvi (As := []) (st := [.int (x2)]) dL_law_389 mV_L_34 hdd hrc rfl rfl (Nat.le_of_ble_eq_true rfl) (Nat.le_refl _) ⟨hk1, hk2⟩ hC (fun H3 x4 hp => ?_)
  have h := h H3 x4 hp
  refine gG_ic_eq (tgt := 1411) dL_law_392 (by decide) (fun c => ?_) (fun c => ?_)
  · have h := h.1 c
    refine gG_locals ?_ h
    exact ⟨rfl, ⟨rfl, ⟨rfl, ⟨rfl, ⟨rfl, trivial⟩⟩⟩⟩⟩
  · have h := h.2 c
    refine gG_iconst (v := 0) dL_law_395 (by decide) ?_
    refine gG_exit h
theorem kL_law_397 {S : Nat × (Nat → Int32)} {d n kc ks mc ms : Nat} {H : gHp} {X : gX} {a1 : Nat} {a2 : Nat} {a3 : Nat} {i4 : Int32} (h : kc ≤ mc ∧ ks ≤ ms ∧ (∃ fs, H (a1) = .inr (11, fs)) ∧ g_ci d mX11_word (n) H [.ref (a1)] (fun H1 x2 => kc ≤ mc ∧ ks ≤ ms ∧ (∃ fs, H1 (a2) = .inr (12, fs)) ∧ g_ci d mX12_word (n) H1 [.ref (a2)] (fun H3 x4 => (x2 = x4 → gG d (mL_law S) mc ms X 1411 (n) H3 [some (.float 300), some (.ref (a1)), some (.ref (a2)), some (.ref (a3)), some (.int (i4)), none, none] [] (kc) (ks)) ∧ (¬ (x2 = x4) → X 409 (n) H3 [some (.float 300), some (.ref (a1)), some (.ref (a2)), some (.ref (a3)), some (.int (i4)), none, none] [.int ((0 : Int32))] (kc) (ks))))) : gG d (mL_law S) mc ms X 397 n H [some (.float 300), some (.ref (a1)), some (.ref (a2)), some (.ref (a3)), some (.int (i4)), none, none] [] kc ks := by
  refine gG_aload_n dL_law_397 rfl rfl ?_
  obtain ⟨hk1, hk2, hrc, d2, P2, hdd, hC, h⟩ := h
  refine gG_cvi (As := []) (st := []) dL_law_398 mV_L_35 hdd hrc rfl rfl (Nat.le_of_ble_eq_true rfl) (Nat.le_refl _) ⟨hk1, hk2⟩ hC (fun H1 x2 hp => ?_)
  have h := h H1 x2 hp
  refine gG_aload_n dL_law_401 rfl rfl ?_
  obtain ⟨hk1, hk2, hrc, d2, P2, hdd, hC, h⟩ := h
  refine gG_cvi (As := []) (st := [.int (x2)]) dL_law_402 mV_L_38 hdd hrc rfl rfl (Nat.le_of_ble_eq_true rfl) (Nat.le_refl _) ⟨hk1, hk2⟩ hC (fun H3 x4 hp => ?_)
  have h := h H3 x4 hp
  refine gG_ic_eq (tgt := 1411) dL_law_405 (by decide) (fun c => ?_) (fun c => ?_)
  · have h := h.1 c
    refine gG_locals ?_ h
    exact ⟨rfl, ⟨rfl, ⟨rfl, ⟨rfl, ⟨rfl, trivial⟩⟩⟩⟩⟩
  · have h := h.2 c
    refine gG_iconst (v := 0) dL_law_408 (by decide) ?_
    refine gG_exit h
theorem kL_law_410 {S : Nat × (Nat → Int32)} {d n kc ks mc ms : Nat} {H : gHp} {X : gX} {a1 : Nat} {a2 : Nat} {a3 : Nat} {i4 : Int32} (h : vp_in ((i4 + (1 : Int32))) S.1 ∧ (vp_in ((i4 + (2 : Int32))) S.1 ∧ (kc ≤ mc ∧ ks ≤ ms ∧ (∃ fs, H (a1) = .inr (11, fs)) ∧ g_ci d mX11_mouth (n) H [.ref (a1), .int ((S.2 (Int32.toNatClampNeg ((i4 + (1 : Int32)))))), .int ((S.2 (Int32.toNatClampNeg ((i4 + (2 : Int32))))))] (fun H1 x2 => vp_in ((i4 + (1 : Int32))) S.1 ∧ (vp_in ((i4 + (2 : Int32))) S.1 ∧ (kc ≤ mc ∧ ks ≤ ms ∧ (∃ fs, H1 (a2) = .inr (12, fs)) ∧ g_ci d mX12_mouth (n) H1 [.ref (a2), .int ((S.2 (Int32.toNatClampNeg ((i4 + (1 : Int32)))))), .int ((S.2 (Int32.toNatClampNeg ((i4 + (2 : Int32))))))] (fun H3 x4 => (x2 = x4 → gG d (mL_law S) mc ms X 1411 (n) H3 [some (.float 300), some (.ref (a1)), some (.ref (a2)), some (.ref (a3)), some (.int (i4)), none, none] [] (kc) (ks)) ∧ (¬ (x2 = x4) → X 446 (n) H3 [some (.float 300), some (.ref (a1)), some (.ref (a2)), some (.ref (a3)), some (.int (i4)), none, none] [.int ((0 : Int32))] (kc) (ks))))))))) : gG d (mL_law S) mc ms X 410 n H [some (.float 300), some (.ref (a1)), some (.ref (a2)), some (.ref (a3)), some (.int (i4)), none, none] [] kc ks := by
  refine gG_aload_n dL_law_410 rfl rfl ?_
  refine gG_aload_nT dL_law_411 rfl rfl ?_
  refine gG_iload dL_law_412 rfl ?_
  refine gG_iconst (v := 1) dL_law_414 (by decide) ?_
  refine gG_iadd dL_law_415 ?_
  obtain ⟨e1, h⟩ := h
  refine gG_sld rfl dL_law_416 e1 ?_
  refine gG_aload_nT dL_law_417 rfl rfl ?_
  refine gG_iload dL_law_418 rfl ?_
  refine gG_iconst (v := 2) dL_law_420 (by decide) ?_
  refine gG_iadd dL_law_421 ?_
  obtain ⟨e1, h⟩ := h
  refine gG_sld rfl dL_law_422 e1 ?_
  obtain ⟨hk1, hk2, hrc, d2, P2, hdd, hC, h⟩ := h
  refine gG_cvi (As := [.int ((S.2 (Int32.toNatClampNeg ((i4 + (1 : Int32)))))), .int ((S.2 (Int32.toNatClampNeg ((i4 + (2 : Int32))))))]) (st := []) dL_law_423 mV_L_39 hdd hrc rfl rfl (Nat.le_of_ble_eq_true rfl) (Nat.le_refl _) ⟨hk1, hk2⟩ hC (fun H1 x2 hp => ?_)
  have h := h H1 x2 hp
  refine gG_aload_n dL_law_426 rfl rfl ?_
  refine gG_aload_nT dL_law_427 rfl rfl ?_
  refine gG_iload dL_law_428 rfl ?_
  refine gG_iconst (v := 1) dL_law_430 (by decide) ?_
  refine gG_iadd dL_law_431 ?_
  obtain ⟨e1, h⟩ := h
  refine gG_sld rfl dL_law_432 e1 ?_
  refine gG_aload_nT dL_law_433 rfl rfl ?_
  refine gG_iload dL_law_434 rfl ?_
  refine gG_iconst (v := 2) dL_law_436 (by decide) ?_
  refine gG_iadd dL_law_437 ?_
  obtain ⟨e1, h⟩ := h
  refine gG_sld rfl dL_law_438 e1 ?_
  obtain ⟨hk1, hk2, hrc, d2, P2, hdd, hC, h⟩ := h
  refine gG_cvi (As := [.int ((S.2 (Int32.toNatClampNeg ((i4 + (1 : Int32)))))), .int ((S.2 (Int32.toNatClampNeg ((i4 + (2 : Int32))))))]) (st := [.int (x2)]) dL_law_439 mV_L_43 hdd hrc rfl rfl (Nat.le_of_ble_eq_true rfl) (Nat.le_refl _) ⟨hk1, hk2⟩ hC (fun H3 x4 hp => ?_)
  have h := h H3 x4 hp
  refine gG_ic_eq (tgt := 1411) dL_law_442 (by decide) (fun c => ?_) (fun c => ?_)
  · have h := h.1 c
    refine gG_locals ?_ h
    exact ⟨rfl, ⟨rfl, ⟨rfl, ⟨rfl, ⟨rfl, trivial⟩⟩⟩⟩⟩
  · have h := h.2 c
    refine gG_iconst (v := 0) dL_law_445 (by decide) ?_
    refine gG_exit h
theorem kL_law_447 {S : Nat × (Nat → Int32)} {d n kc ks mc ms : Nat} {H : gHp} {X : gX} {a1 : Nat} {a2 : Nat} {a3 : Nat} {i4 : Int32} (h : vp_in ((i4 + (1 : Int32))) S.1 ∧ (kc ≤ mc ∧ ks ≤ ms ∧ (∃ fs, H (a1) = .inr (11, fs)) ∧ g_ci d mX11_letter (n) H [.ref (a1), .int ((S.2 (Int32.toNatClampNeg ((i4 + (1 : Int32))))))] (fun H1 x2 => vp_in ((i4 + (1 : Int32))) S.1 ∧ (kc ≤ mc ∧ ks ≤ ms ∧ (∃ fs, H1 (a2) = .inr (12, fs)) ∧ g_ci d mX12_letter (n) H1 [.ref (a2), .int ((S.2 (Int32.toNatClampNeg ((i4 + (1 : Int32))))))] (fun H3 x4 => (x2 = x4 → gG d (mL_law S) mc ms X 1411 (n) H3 [some (.float 300), some (.ref (a1)), some (.ref (a2)), some (.ref (a3)), some (.int (i4)), none, none] [] (kc) (ks)) ∧ (¬ (x2 = x4) → X 471 (n) H3 [some (.float 300), some (.ref (a1)), some (.ref (a2)), some (.ref (a3)), some (.int (i4)), none, none] [.int ((0 : Int32))] (kc) (ks))))))) : gG d (mL_law S) mc ms X 447 n H [some (.float 300), some (.ref (a1)), some (.ref (a2)), some (.ref (a3)), some (.int (i4)), none, none] [] kc ks := by
  refine gG_aload_n dL_law_447 rfl rfl ?_
  refine gG_aload_nT dL_law_448 rfl rfl ?_
  refine gG_iload dL_law_449 rfl ?_
  refine gG_iconst (v := 1) dL_law_451 (by decide) ?_
  refine gG_iadd dL_law_452 ?_
  obtain ⟨e1, h⟩ := h
  refine gG_sld rfl dL_law_453 e1 ?_
  obtain ⟨hk1, hk2, hrc, d2, P2, hdd, hC, h⟩ := h
  refine gG_cvi (As := [.int ((S.2 (Int32.toNatClampNeg ((i4 + (1 : Int32))))))]) (st := []) dL_law_454 mV_L_44 hdd hrc rfl rfl (Nat.le_of_ble_eq_true rfl) (Nat.le_refl _) ⟨hk1, hk2⟩ hC (fun H1 x2 hp => ?_)
  have h := h H1 x2 hp
  refine gG_aload_n dL_law_457 rfl rfl ?_
  refine gG_aload_nT dL_law_458 rfl rfl ?_
  refine gG_iload dL_law_459 rfl ?_
  refine gG_iconst (v := 1) dL_law_461 (by decide) ?_
  refine gG_iadd dL_law_462 ?_
  obtain ⟨e1, h⟩ := h
  refine gG_sld rfl dL_law_463 e1 ?_
  obtain ⟨hk1, hk2, hrc, d2, P2, hdd, hC, h⟩ := h
  refine gG_cvi (As := [.int ((S.2 (Int32.toNatClampNeg ((i4 + (1 : Int32))))))]) (st := [.int (x2)]) dL_law_464 mV_L_48 hdd hrc rfl rfl (Nat.le_of_ble_eq_true rfl) (Nat.le_refl _) ⟨hk1, hk2⟩ hC (fun H3 x4 hp => ?_)
  have h := h H3 x4 hp
  refine gG_ic_eq (tgt := 1411) dL_law_467 (by decide) (fun c => ?_) (fun c => ?_)
  · have h := h.1 c
    refine gG_locals ?_ h
    exact ⟨rfl, ⟨rfl, ⟨rfl, ⟨rfl, ⟨rfl, trivial⟩⟩⟩⟩⟩
  · have h := h.2 c
    refine gG_iconst (v := 0) dL_law_470 (by decide) ?_
    refine gG_exit h
theorem kL_law_472 {S : Nat × (Nat → Int32)} {d n kc ks mc ms : Nat} {H : gHp} {X : gX} {a1 : Nat} {a2 : Nat} {a3 : Nat} {i4 : Int32} (h : vp_in ((i4 + (1 : Int32))) S.1 ∧ (kc ≤ mc ∧ ks ≤ ms ∧ (∃ fs, H (a1) = .inr (11, fs)) ∧ g_ci d mX11_slate (n) H [.ref (a1), .int ((S.2 (Int32.toNatClampNeg ((i4 + (1 : Int32))))))] (fun H1 x2 => vp_in ((i4 + (1 : Int32))) S.1 ∧ (kc ≤ mc ∧ ks ≤ ms ∧ (∃ fs, H1 (a2) = .inr (12, fs)) ∧ g_ci d mX12_slate (n) H1 [.ref (a2), .int ((S.2 (Int32.toNatClampNeg ((i4 + (1 : Int32))))))] (fun H3 x4 => (x2 = x4 → gG d (mL_law S) mc ms X 1411 (n) H3 [some (.float 300), some (.ref (a1)), some (.ref (a2)), some (.ref (a3)), some (.int (i4)), none, none] [] (kc) (ks)) ∧ (¬ (x2 = x4) → X 496 (n) H3 [some (.float 300), some (.ref (a1)), some (.ref (a2)), some (.ref (a3)), some (.int (i4)), none, none] [.int ((0 : Int32))] (kc) (ks))))))) : gG d (mL_law S) mc ms X 472 n H [some (.float 300), some (.ref (a1)), some (.ref (a2)), some (.ref (a3)), some (.int (i4)), none, none] [] kc ks := by
  refine gG_aload_n dL_law_472 rfl rfl ?_
  refine gG_aload_nT dL_law_473 rfl rfl ?_
  refine gG_iload dL_law_474 rfl ?_
  refine gG_iconst (v := 1) dL_law_476 (by decide) ?_
  refine gG_iadd dL_law_477 ?_
  obtain ⟨e1, h⟩ := h
  refine gG_sld rfl dL_law_478 e1 ?_
  obtain ⟨hk1, hk2, hrc, d2, P2, hdd, hC, h⟩ := h
  refine gG_cvi (As := [.int ((S.2 (Int32.toNatClampNeg ((i4 + (1 : Int32))))))]) (st := []) dL_law_479 mV_L_49 hdd hrc rfl rfl (Nat.le_of_ble_eq_true rfl) (Nat.le_refl _) ⟨hk1, hk2⟩ hC (fun H1 x2 hp => ?_)
  have h := h H1 x2 hp
  refine gG_aload_n dL_law_482 rfl rfl ?_
  refine gG_aload_nT dL_law_483 rfl rfl ?_
  refine gG_iload dL_law_484 rfl ?_
  refine gG_iconst (v := 1) dL_law_486 (by decide) ?_
  refine gG_iadd dL_law_487 ?_
  obtain ⟨e1, h⟩ := h
  refine gG_sld rfl dL_law_488 e1 ?_
  obtain ⟨hk1, hk2, hrc, d2, P2, hdd, hC, h⟩ := h
  refine gG_cvi (As := [.int ((S.2 (Int32.toNatClampNeg ((i4 + (1 : Int32))))))]) (st := [.int (x2)]) dL_law_489 mV_L_52 hdd hrc rfl rfl (Nat.le_of_ble_eq_true rfl) (Nat.le_refl _) ⟨hk1, hk2⟩ hC (fun H3 x4 hp => ?_)
  have h := h H3 x4 hp
  refine gG_ic_eq (tgt := 1411) dL_law_492 (by decide) (fun c => ?_) (fun c => ?_)
  · have h := h.1 c
    refine gG_locals ?_ h
    exact ⟨rfl, ⟨rfl, ⟨rfl, ⟨rfl, ⟨rfl, trivial⟩⟩⟩⟩⟩
  · have h := h.2 c
    refine gG_iconst (v := 0) dL_law_495 (by decide) ?_
    refine gG_exit h
theorem kL_law_497 {S : Nat × (Nat → Int32)} {d n kc ks mc ms : Nat} {H : gHp} {X : gX} {a1 : Nat} {a2 : Nat} {a3 : Nat} {i4 : Int32} (h : kc ≤ mc ∧ ks ≤ ms ∧ (∃ fs, H (a1) = .inr (11, fs)) ∧ g_ci d mX11_minute (n) H [.ref (a1)] (fun H1 x2 => kc ≤ mc ∧ ks ≤ ms ∧ (∃ fs, H1 (a2) = .inr (12, fs)) ∧ g_ci d mX12_minute (n) H1 [.ref (a2)] (fun H3 x4 => (x2 = x4 → gG d (mL_law S) mc ms X 1411 (n) H3 [some (.float 300), some (.ref (a1)), some (.ref (a2)), some (.ref (a3)), some (.int (i4)), none, none] [] (kc) (ks)) ∧ (¬ (x2 = x4) → X 509 (n) H3 [some (.float 300), some (.ref (a1)), some (.ref (a2)), some (.ref (a3)), some (.int (i4)), none, none] [.int ((0 : Int32))] (kc) (ks))))) : gG d (mL_law S) mc ms X 497 n H [some (.float 300), some (.ref (a1)), some (.ref (a2)), some (.ref (a3)), some (.int (i4)), none, none] [] kc ks := by
  refine gG_aload_n dL_law_497 rfl rfl ?_
  obtain ⟨hk1, hk2, hrc, d2, P2, hdd, hC, h⟩ := h
  refine gG_cvi (As := []) (st := []) dL_law_498 mV_L_53 hdd hrc rfl rfl (Nat.le_of_ble_eq_true rfl) (Nat.le_refl _) ⟨hk1, hk2⟩ hC (fun H1 x2 hp => ?_)
  have h := h H1 x2 hp
  refine gG_aload_n dL_law_501 rfl rfl ?_
  obtain ⟨hk1, hk2, hrc, d2, P2, hdd, hC, h⟩ := h
  refine gG_cvi (As := []) (st := [.int (x2)]) dL_law_502 mV_L_56 hdd hrc rfl rfl (Nat.le_of_ble_eq_true rfl) (Nat.le_refl _) ⟨hk1, hk2⟩ hC (fun H3 x4 hp => ?_)
  have h := h H3 x4 hp
  refine gG_ic_eq (tgt := 1411) dL_law_505 (by decide) (fun c => ?_) (fun c => ?_)
  · have h := h.1 c
    refine gG_locals ?_ h
    exact ⟨rfl, ⟨rfl, ⟨rfl, ⟨rfl, ⟨rfl, trivial⟩⟩⟩⟩⟩
  · have h := h.2 c
    refine gG_iconst (v := 0) dL_law_508 (by decide) ?_
    refine gG_exit h
theorem kL_law_510 {S : Nat × (Nat → Int32)} {d n kc ks mc ms : Nat} {H : gHp} {X : gX} {a1 : Nat} {a2 : Nat} {a3 : Nat} {i4 : Int32} (h : vp_in ((i4 + (1 : Int32))) S.1 ∧ (vp_in ((i4 + (2 : Int32))) S.1 ∧ (kc ≤ mc ∧ ks ≤ ms ∧ (∃ fs, H (a1) = .inr (11, fs)) ∧ g_ci d mX11_pour (n) H [.ref (a1), .int ((S.2 (Int32.toNatClampNeg ((i4 + (1 : Int32)))))), .int ((S.2 (Int32.toNatClampNeg ((i4 + (2 : Int32))))))] (fun H1 x2 => vp_in ((i4 + (1 : Int32))) S.1 ∧ (vp_in ((i4 + (2 : Int32))) S.1 ∧ (kc ≤ mc ∧ ks ≤ ms ∧ (∃ fs, H1 (a2) = .inr (12, fs)) ∧ g_ci d mX12_pour (n) H1 [.ref (a2), .int ((S.2 (Int32.toNatClampNeg ((i4 + (1 : Int32)))))), .int ((S.2 (Int32.toNatClampNeg ((i4 + (2 : Int32))))))] (fun H3 x4 => (x2 = x4 → gG d (mL_law S) mc ms X 1411 (n) H3 [some (.float 300), some (.ref (a1)), some (.ref (a2)), some (.ref (a3)), some (.int (i4)), none, none] [] (kc) (ks)) ∧ (¬ (x2 = x4) → X 546 (n) H3 [some (.float 300), some (.ref (a1)), some (.ref (a2)), some (.ref (a3)), some (.int (i4)), none, none] [.int ((0 : Int32))] (kc) (ks))))))))) : gG d (mL_law S) mc ms X 510 n H [some (.float 300), some (.ref (a1)), some (.ref (a2)), some (.ref (a3)), some (.int (i4)), none, none] [] kc ks := by
  refine gG_aload_n dL_law_510 rfl rfl ?_
  refine gG_aload_nT dL_law_511 rfl rfl ?_
  refine gG_iload dL_law_512 rfl ?_
  refine gG_iconst (v := 1) dL_law_514 (by decide) ?_
  refine gG_iadd dL_law_515 ?_
  obtain ⟨e1, h⟩ := h
  refine gG_sld rfl dL_law_516 e1 ?_
  refine gG_aload_nT dL_law_517 rfl rfl ?_
  refine gG_iload dL_law_518 rfl ?_
  refine gG_iconst (v := 2) dL_law_520 (by decide) ?_
  refine gG_iadd dL_law_521 ?_
  obtain ⟨e1, h⟩ := h
  refine gG_sld rfl dL_law_522 e1 ?_
  obtain ⟨hk1, hk2, hrc, d2, P2, hdd, hC, h⟩ := h
  refine gG_cvi (As := [.int ((S.2 (Int32.toNatClampNeg ((i4 + (1 : Int32)))))), .int ((S.2 (Int32.toNatClampNeg ((i4 + (2 : Int32))))))]) (st := []) dL_law_523 mV_L_57 hdd hrc rfl rfl (Nat.le_of_ble_eq_true rfl) (Nat.le_refl _) ⟨hk1, hk2⟩ hC (fun H1 x2 hp => ?_)
  have h := h H1 x2 hp
  refine gG_aload_n dL_law_526 rfl rfl ?_
  refine gG_aload_nT dL_law_527 rfl rfl ?_
  refine gG_iload dL_law_528 rfl ?_
  refine gG_iconst (v := 1) dL_law_530 (by decide) ?_
  refine gG_iadd dL_law_531 ?_
  obtain ⟨e1, h⟩ := h
  refine gG_sld rfl dL_law_532 e1 ?_
  refine gG_aload_nT dL_law_533 rfl rfl ?_
  refine gG_iload dL_law_534 rfl ?_
  refine gG_iconst (v := 2) dL_law_536 (by decide) ?_
  refine gG_iadd dL_law_537 ?_
  obtain ⟨e1, h⟩ := h
  refine gG_sld rfl dL_law_538 e1 ?_
  obtain ⟨hk1, hk2, hrc, d2, P2, hdd, hC, h⟩ := h
  refine gG_cvi (As := [.int ((S.2 (Int32.toNatClampNeg ((i4 + (1 : Int32)))))), .int ((S.2 (Int32.toNatClampNeg ((i4 + (2 : Int32))))))]) (st := [.int (x2)]) dL_law_539 mV_L_60 hdd hrc rfl rfl (Nat.le_of_ble_eq_true rfl) (Nat.le_refl _) ⟨hk1, hk2⟩ hC (fun H3 x4 hp => ?_)
  have h := h H3 x4 hp
  refine gG_ic_eq (tgt := 1411) dL_law_542 (by decide) (fun c => ?_) (fun c => ?_)
  · have h := h.1 c
    refine gG_locals ?_ h
    exact ⟨rfl, ⟨rfl, ⟨rfl, ⟨rfl, ⟨rfl, trivial⟩⟩⟩⟩⟩
  · have h := h.2 c
    refine gG_iconst (v := 0) dL_law_545 (by decide) ?_
    refine gG_exit h
theorem kL_law_547 {S : Nat × (Nat → Int32)} {d n kc ks mc ms : Nat} {H : gHp} {X : gX} {a1 : Nat} {a2 : Nat} {a3 : Nat} {i4 : Int32} (h : vp_in ((i4 + (1 : Int32))) S.1 ∧ (kc ≤ mc ∧ ks ≤ ms ∧ (∃ fs, H (a1) = .inr (11, fs)) ∧ g_cz d mX11_stop (n) H [.ref (a1), .int ((S.2 (Int32.toNatClampNeg ((i4 + (1 : Int32))))))] (fun H1 b2 => vp_in ((i4 + (1 : Int32))) S.1 ∧ (kc ≤ mc ∧ ks ≤ ms ∧ (∃ fs, H1 (a2) = .inr (12, fs)) ∧ g_cz d mX12_stop (n) H1 [.ref (a2), .int ((S.2 (Int32.toNatClampNeg ((i4 + (1 : Int32))))))] (fun H3 b4 => ((g_b b2) = (g_b b4) → gG d (mL_law S) mc ms X 1411 (n) H3 [some (.float 300), some (.ref (a1)), some (.ref (a2)), some (.ref (a3)), some (.int (i4)), none, none] [] (kc) (ks)) ∧ (¬ ((g_b b2) = (g_b b4)) → X 571 (n) H3 [some (.float 300), some (.ref (a1)), some (.ref (a2)), some (.ref (a3)), some (.int (i4)), none, none] [.int ((0 : Int32))] (kc) (ks))))))) : gG d (mL_law S) mc ms X 547 n H [some (.float 300), some (.ref (a1)), some (.ref (a2)), some (.ref (a3)), some (.int (i4)), none, none] [] kc ks := by
  refine gG_aload_n dL_law_547 rfl rfl ?_
  refine gG_aload_nT dL_law_548 rfl rfl ?_
  refine gG_iload dL_law_549 rfl ?_
  refine gG_iconst (v := 1) dL_law_551 (by decide) ?_
  refine gG_iadd dL_law_552 ?_
  obtain ⟨e1, h⟩ := h
  refine gG_sld rfl dL_law_553 e1 ?_
  obtain ⟨hk1, hk2, hrc, d2, P2, hdd, hC, h⟩ := h
  refine gG_cvi (As := [.int ((S.2 (Int32.toNatClampNeg ((i4 + (1 : Int32))))))]) (st := []) dL_law_554 mV_L_61 hdd hrc rfl rfl (Nat.le_of_ble_eq_true rfl) (Nat.le_refl _) ⟨hk1, hk2⟩ hC (fun H1 x9 hp => ?_)
  obtain ⟨b2, rfl, hp⟩ := hp
  have h := h H1 b2 hp
  refine gG_aload_n dL_law_557 rfl rfl ?_
  refine gG_aload_nT dL_law_558 rfl rfl ?_
  refine gG_iload dL_law_559 rfl ?_
  refine gG_iconst (v := 1) dL_law_561 (by decide) ?_
  refine gG_iadd dL_law_562 ?_
  obtain ⟨e1, h⟩ := h
  refine gG_sld rfl dL_law_563 e1 ?_
  obtain ⟨hk1, hk2, hrc, d2, P2, hdd, hC, h⟩ := h
  refine gG_cvi (As := [.int ((S.2 (Int32.toNatClampNeg ((i4 + (1 : Int32))))))]) (st := [.int (g_b b2)]) dL_law_564 mV_L_65 hdd hrc rfl rfl (Nat.le_of_ble_eq_true rfl) (Nat.le_refl _) ⟨hk1, hk2⟩ hC (fun H3 x9 hp => ?_)
  obtain ⟨b4, rfl, hp⟩ := hp
  have h := h H3 b4 hp
  refine gG_ic_eq (tgt := 1411) dL_law_567 (by decide) (fun c => ?_) (fun c => ?_)
  · have h := h.1 c
    refine gG_locals ?_ h
    exact ⟨rfl, ⟨rfl, ⟨rfl, ⟨rfl, ⟨rfl, trivial⟩⟩⟩⟩⟩
  · have h := h.2 c
    refine gG_iconst (v := 0) dL_law_570 (by decide) ?_
    refine gG_exit h
theorem kL_law_572 {S : Nat × (Nat → Int32)} {d n kc ks mc ms : Nat} {H : gHp} {X : gX} {a1 : Nat} {a2 : Nat} {a3 : Nat} {i4 : Int32} (h : vp_in ((i4 + (1 : Int32))) S.1 ∧ (kc ≤ mc ∧ ks ≤ ms ∧ (∃ fs, H (a1) = .inr (11, fs)) ∧ g_cz d mX11_clear (n) H [.ref (a1), .int ((S.2 (Int32.toNatClampNeg ((i4 + (1 : Int32))))))] (fun H1 b2 => vp_in ((i4 + (1 : Int32))) S.1 ∧ (kc ≤ mc ∧ ks ≤ ms ∧ (∃ fs, H1 (a2) = .inr (12, fs)) ∧ g_cz d mX12_clear (n) H1 [.ref (a2), .int ((S.2 (Int32.toNatClampNeg ((i4 + (1 : Int32))))))] (fun H3 b4 => ((g_b b2) = (g_b b4) → gG d (mL_law S) mc ms X 1411 (n) H3 [some (.float 300), some (.ref (a1)), some (.ref (a2)), some (.ref (a3)), some (.int (i4)), none, none] [] (kc) (ks)) ∧ (¬ ((g_b b2) = (g_b b4)) → X 596 (n) H3 [some (.float 300), some (.ref (a1)), some (.ref (a2)), some (.ref (a3)), some (.int (i4)), none, none] [.int ((0 : Int32))] (kc) (ks))))))) : gG d (mL_law S) mc ms X 572 n H [some (.float 300), some (.ref (a1)), some (.ref (a2)), some (.ref (a3)), some (.int (i4)), none, none] [] kc ks := by
  refine gG_aload_n dL_law_572 rfl rfl ?_
  refine gG_aload_nT dL_law_573 rfl rfl ?_
  refine gG_iload dL_law_574 rfl ?_
  refine gG_iconst (v := 1) dL_law_576 (by decide) ?_
  refine gG_iadd dL_law_577 ?_
  obtain ⟨e1, h⟩ := h
  refine gG_sld rfl dL_law_578 e1 ?_
  obtain ⟨hk1, hk2, hrc, d2, P2, hdd, hC, h⟩ := h
  refine gG_cvi (As := [.int ((S.2 (Int32.toNatClampNeg ((i4 + (1 : Int32))))))]) (st := []) dL_law_579 mV_L_66 hdd hrc rfl rfl (Nat.le_of_ble_eq_true rfl) (Nat.le_refl _) ⟨hk1, hk2⟩ hC (fun H1 x9 hp => ?_)
  obtain ⟨b2, rfl, hp⟩ := hp
  have h := h H1 b2 hp
  refine gG_aload_n dL_law_582 rfl rfl ?_
  refine gG_aload_nT dL_law_583 rfl rfl ?_
  refine gG_iload dL_law_584 rfl ?_
  refine gG_iconst (v := 1) dL_law_586 (by decide) ?_
  refine gG_iadd dL_law_587 ?_
  obtain ⟨e1, h⟩ := h
  refine gG_sld rfl dL_law_588 e1 ?_
  obtain ⟨hk1, hk2, hrc, d2, P2, hdd, hC, h⟩ := h
  refine gG_cvi (As := [.int ((S.2 (Int32.toNatClampNeg ((i4 + (1 : Int32))))))]) (st := [.int (g_b b2)]) dL_law_589 mV_L_69 hdd hrc rfl rfl (Nat.le_of_ble_eq_true rfl) (Nat.le_refl _) ⟨hk1, hk2⟩ hC (fun H3 x9 hp => ?_)
  obtain ⟨b4, rfl, hp⟩ := hp
  have h := h H3 b4 hp
  refine gG_ic_eq (tgt := 1411) dL_law_592 (by decide) (fun c => ?_) (fun c => ?_)
  · have h := h.1 c
    refine gG_locals ?_ h
    exact ⟨rfl, ⟨rfl, ⟨rfl, ⟨rfl, ⟨rfl, trivial⟩⟩⟩⟩⟩
  · have h := h.2 c
    refine gG_iconst (v := 0) dL_law_595 (by decide) ?_
    refine gG_exit h
theorem kL_law_597 {S : Nat × (Nat → Int32)} {d n kc ks mc ms : Nat} {H : gHp} {X : gX} {a1 : Nat} {a2 : Nat} {a3 : Nat} {i4 : Int32} (h : kc ≤ mc ∧ ks ≤ ms ∧ (∃ fs, H (a1) = .inr (11, fs)) ∧ g_cz d mX11_undo (n) H [.ref (a1)] (fun H1 b2 => kc ≤ mc ∧ ks ≤ ms ∧ (∃ fs, H1 (a2) = .inr (12, fs)) ∧ g_cz d mX12_undo (n) H1 [.ref (a2)] (fun H3 b4 => ((g_b b2) = (g_b b4) → gG d (mL_law S) mc ms X 1411 (n) H3 [some (.float 300), some (.ref (a1)), some (.ref (a2)), some (.ref (a3)), some (.int (i4)), none, none] [] (kc) (ks)) ∧ (¬ ((g_b b2) = (g_b b4)) → X 609 (n) H3 [some (.float 300), some (.ref (a1)), some (.ref (a2)), some (.ref (a3)), some (.int (i4)), none, none] [.int ((0 : Int32))] (kc) (ks))))) : gG d (mL_law S) mc ms X 597 n H [some (.float 300), some (.ref (a1)), some (.ref (a2)), some (.ref (a3)), some (.int (i4)), none, none] [] kc ks := by
  refine gG_aload_n dL_law_597 rfl rfl ?_
  obtain ⟨hk1, hk2, hrc, d2, P2, hdd, hC, h⟩ := h
  refine gG_cvi (As := []) (st := []) dL_law_598 mV_L_70 hdd hrc rfl rfl (Nat.le_of_ble_eq_true rfl) (Nat.le_refl _) ⟨hk1, hk2⟩ hC (fun H1 x9 hp => ?_)
  obtain ⟨b2, rfl, hp⟩ := hp
  have h := h H1 b2 hp
  refine gG_aload_n dL_law_601 rfl rfl ?_
  obtain ⟨hk1, hk2, hrc, d2, P2, hdd, hC, h⟩ := h
  refine gG_cvi (As := []) (st := [.int (g_b b2)]) dL_law_602 mV_L_74 hdd hrc rfl rfl (Nat.le_of_ble_eq_true rfl) (Nat.le_refl _) ⟨hk1, hk2⟩ hC (fun H3 x9 hp => ?_)
  obtain ⟨b4, rfl, hp⟩ := hp
  have h := h H3 b4 hp
  refine gG_ic_eq (tgt := 1411) dL_law_605 (by decide) (fun c => ?_) (fun c => ?_)
  · have h := h.1 c
    refine gG_locals ?_ h
    exact ⟨rfl, ⟨rfl, ⟨rfl, ⟨rfl, ⟨rfl, trivial⟩⟩⟩⟩⟩
  · have h := h.2 c
    refine gG_iconst (v := 0) dL_law_608 (by decide) ?_
    refine gG_exit h
theorem kL_law_610 {S : Nat × (Nat → Int32)} {d n kc ks mc ms : Nat} {H : gHp} {X : gX} {a1 : Nat} {a2 : Nat} {a3 : Nat} {i4 : Int32} (h : vp_in ((i4 + (1 : Int32))) S.1 ∧ (kc ≤ mc ∧ ks ≤ ms ∧ (∃ fs, H (a1) = .inr (11, fs)) ∧ g_ci d mX11_judged (n) H [.ref (a1), .int ((S.2 (Int32.toNatClampNeg ((i4 + (1 : Int32))))))] (fun H1 x2 => vp_in ((i4 + (1 : Int32))) S.1 ∧ (kc ≤ mc ∧ ks ≤ ms ∧ (∃ fs, H1 (a2) = .inr (12, fs)) ∧ g_ci d mX12_judged (n) H1 [.ref (a2), .int ((S.2 (Int32.toNatClampNeg ((i4 + (1 : Int32))))))] (fun H3 x4 => (x2 = x4 → gG d (mL_law S) mc ms X 1411 (n) H3 [some (.float 300), some (.ref (a1)), some (.ref (a2)), some (.ref (a3)), some (.int (i4)), none, none] [] (kc) (ks)) ∧ (¬ (x2 = x4) → X 634 (n) H3 [some (.float 300), some (.ref (a1)), some (.ref (a2)), some (.ref (a3)), some (.int (i4)), none, none] [.int ((0 : Int32))] (kc) (ks))))))) : gG d (mL_law S) mc ms X 610 n H [some (.float 300), some (.ref (a1)), some (.ref (a2)), some (.ref (a3)), some (.int (i4)), none, none] [] kc ks := by
  refine gG_aload_n dL_law_610 rfl rfl ?_
  refine gG_aload_nT dL_law_611 rfl rfl ?_
  refine gG_iload dL_law_612 rfl ?_
  refine gG_iconst (v := 1) dL_law_614 (by decide) ?_
  refine gG_iadd dL_law_615 ?_
  obtain ⟨e1, h⟩ := h
  refine gG_sld rfl dL_law_616 e1 ?_
  obtain ⟨hk1, hk2, hrc, d2, P2, hdd, hC, h⟩ := h
  refine gG_cvi (As := [.int ((S.2 (Int32.toNatClampNeg ((i4 + (1 : Int32))))))]) (st := []) dL_law_617 mV_L_75 hdd hrc rfl rfl (Nat.le_of_ble_eq_true rfl) (Nat.le_refl _) ⟨hk1, hk2⟩ hC (fun H1 x2 hp => ?_)
  have h := h H1 x2 hp
  refine gG_aload_n dL_law_620 rfl rfl ?_
  refine gG_aload_nT dL_law_621 rfl rfl ?_
  refine gG_iload dL_law_622 rfl ?_
  refine gG_iconst (v := 1) dL_law_624 (by decide) ?_
  refine gG_iadd dL_law_625 ?_
  obtain ⟨e1, h⟩ := h
  refine gG_sld rfl dL_law_626 e1 ?_
  obtain ⟨hk1, hk2, hrc, d2, P2, hdd, hC, h⟩ := h
  refine gG_cvi (As := [.int ((S.2 (Int32.toNatClampNeg ((i4 + (1 : Int32))))))]) (st := [.int (x2)]) dL_law_627 mV_L_78 hdd hrc rfl rfl (Nat.le_of_ble_eq_true rfl) (Nat.le_refl _) ⟨hk1, hk2⟩ hC (fun H3 x4 hp => ?_)
  have h := h H3 x4 hp
  refine gG_ic_eq (tgt := 1411) dL_law_630 (by decide) (fun c => ?_) (fun c => ?_)
  · have h := h.1 c
    refine gG_locals ?_ h
    exact ⟨rfl, ⟨rfl, ⟨rfl, ⟨rfl, ⟨rfl, trivial⟩⟩⟩⟩⟩
  · have h := h.2 c
    refine gG_iconst (v := 0) dL_law_633 (by decide) ?_
    refine gG_exit h
theorem kL_law_635 {S : Nat × (Nat → Int32)} {d n kc ks mc ms : Nat} {H : gHp} {X : gX} {a1 : Nat} {a2 : Nat} {a3 : Nat} {i4 : Int32} (h : vp_in ((i4 + (1 : Int32))) S.1 ∧ (vp_in ((i4 + (2 : Int32))) S.1 ∧ (kc ≤ mc ∧ ks ≤ ms ∧ (∃ fs, H (a1) = .inr (11, fs)) ∧ g_ci d mX11_later (n) H [.ref (a1), .int ((S.2 (Int32.toNatClampNeg ((i4 + (1 : Int32)))))), .int ((S.2 (Int32.toNatClampNeg ((i4 + (2 : Int32))))))] (fun H1 x2 => vp_in ((i4 + (1 : Int32))) S.1 ∧ (vp_in ((i4 + (2 : Int32))) S.1 ∧ (kc ≤ mc ∧ ks ≤ ms ∧ (∃ fs, H1 (a2) = .inr (12, fs)) ∧ g_ci d mX12_later (n) H1 [.ref (a2), .int ((S.2 (Int32.toNatClampNeg ((i4 + (1 : Int32)))))), .int ((S.2 (Int32.toNatClampNeg ((i4 + (2 : Int32))))))] (fun H3 x4 => (x2 = x4 → gG d (mL_law S) mc ms X 1411 (n) H3 [some (.float 300), some (.ref (a1)), some (.ref (a2)), some (.ref (a3)), some (.int (i4)), none, none] [] (kc) (ks)) ∧ (¬ (x2 = x4) → X 671 (n) H3 [some (.float 300), some (.ref (a1)), some (.ref (a2)), some (.ref (a3)), some (.int (i4)), none, none] [.int ((0 : Int32))] (kc) (ks))))))))) : gG d (mL_law S) mc ms X 635 n H [some (.float 300), some (.ref (a1)), some (.ref (a2)), some (.ref (a3)), some (.int (i4)), none, none] [] kc ks := by
  refine gG_aload_n dL_law_635 rfl rfl ?_
  refine gG_aload_nT dL_law_636 rfl rfl ?_
  refine gG_iload dL_law_637 rfl ?_
  refine gG_iconst (v := 1) dL_law_639 (by decide) ?_
  refine gG_iadd dL_law_640 ?_
  obtain ⟨e1, h⟩ := h
  refine gG_sld rfl dL_law_641 e1 ?_
  refine gG_aload_nT dL_law_642 rfl rfl ?_
  refine gG_iload dL_law_643 rfl ?_
  refine gG_iconst (v := 2) dL_law_645 (by decide) ?_
  refine gG_iadd dL_law_646 ?_
  obtain ⟨e1, h⟩ := h
  refine gG_sld rfl dL_law_647 e1 ?_
  obtain ⟨hk1, hk2, hrc, d2, P2, hdd, hC, h⟩ := h
  refine gG_cvi (As := [.int ((S.2 (Int32.toNatClampNeg ((i4 + (1 : Int32)))))), .int ((S.2 (Int32.toNatClampNeg ((i4 + (2 : Int32))))))]) (st := []) dL_law_648 mV_L_79 hdd hrc rfl rfl (Nat.le_of_ble_eq_true rfl) (Nat.le_refl _) ⟨hk1, hk2⟩ hC (fun H1 x2 hp => ?_)
  have h := h H1 x2 hp
  refine gG_aload_n dL_law_651 rfl rfl ?_
  refine gG_aload_nT dL_law_652 rfl rfl ?_
  refine gG_iload dL_law_653 rfl ?_
  refine gG_iconst (v := 1) dL_law_655 (by decide) ?_
  refine gG_iadd dL_law_656 ?_
  obtain ⟨e1, h⟩ := h
  refine gG_sld rfl dL_law_657 e1 ?_
  refine gG_aload_nT dL_law_658 rfl rfl ?_
  refine gG_iload dL_law_659 rfl ?_
  refine gG_iconst (v := 2) dL_law_661 (by decide) ?_
  refine gG_iadd dL_law_662 ?_
  obtain ⟨e1, h⟩ := h
  refine gG_sld rfl dL_law_663 e1 ?_
  obtain ⟨hk1, hk2, hrc, d2, P2, hdd, hC, h⟩ := h
  refine gG_cvi (As := [.int ((S.2 (Int32.toNatClampNeg ((i4 + (1 : Int32)))))), .int ((S.2 (Int32.toNatClampNeg ((i4 + (2 : Int32))))))]) (st := [.int (x2)]) dL_law_664 mV_L_82 hdd hrc rfl rfl (Nat.le_of_ble_eq_true rfl) (Nat.le_refl _) ⟨hk1, hk2⟩ hC (fun H3 x4 hp => ?_)
  have h := h H3 x4 hp
  refine gG_ic_eq (tgt := 1411) dL_law_667 (by decide) (fun c => ?_) (fun c => ?_)
  · have h := h.1 c
    refine gG_locals ?_ h
    exact ⟨rfl, ⟨rfl, ⟨rfl, ⟨rfl, ⟨rfl, trivial⟩⟩⟩⟩⟩
  · have h := h.2 c
    refine gG_iconst (v := 0) dL_law_670 (by decide) ?_
    refine gG_exit h
theorem kL_law_672 {S : Nat × (Nat → Int32)} {d n kc ks mc ms : Nat} {H : gHp} {X : gX} {a1 : Nat} {a2 : Nat} {a3 : Nat} {i4 : Int32} (h : vp_in ((i4 + (1 : Int32))) S.1 ∧ (kc ≤ mc ∧ ks ≤ ms ∧ (∃ fs, H (a1) = .inr (11, fs)) ∧ g_ci d mX11_reads (n) H [.ref (a1), .int ((S.2 (Int32.toNatClampNeg ((i4 + (1 : Int32))))))] (fun H1 x2 => vp_in ((i4 + (1 : Int32))) S.1 ∧ (kc ≤ mc ∧ ks ≤ ms ∧ (∃ fs, H1 (a2) = .inr (12, fs)) ∧ g_ci d mX12_reads (n) H1 [.ref (a2), .int ((S.2 (Int32.toNatClampNeg ((i4 + (1 : Int32))))))] (fun H3 x4 => (x2 = x4 → gG d (mL_law S) mc ms X 1411 (n) H3 [some (.float 300), some (.ref (a1)), some (.ref (a2)), some (.ref (a3)), some (.int (i4)), none, none] [] (kc) (ks)) ∧ (¬ (x2 = x4) → X 696 (n) H3 [some (.float 300), some (.ref (a1)), some (.ref (a2)), some (.ref (a3)), some (.int (i4)), none, none] [.int ((0 : Int32))] (kc) (ks))))))) : gG d (mL_law S) mc ms X 672 n H [some (.float 300), some (.ref (a1)), some (.ref (a2)), some (.ref (a3)), some (.int (i4)), none, none] [] kc ks := by
  refine gG_aload_n dL_law_672 rfl rfl ?_
  refine gG_aload_nT dL_law_673 rfl rfl ?_
  refine gG_iload dL_law_674 rfl ?_
  refine gG_iconst (v := 1) dL_law_676 (by decide) ?_
  refine gG_iadd dL_law_677 ?_
  obtain ⟨e1, h⟩ := h
  refine gG_sld rfl dL_law_678 e1 ?_
  obtain ⟨hk1, hk2, hrc, d2, P2, hdd, hC, h⟩ := h
  refine gG_cvi (As := [.int ((S.2 (Int32.toNatClampNeg ((i4 + (1 : Int32))))))]) (st := []) dL_law_679 mV_L_83 hdd hrc rfl rfl (Nat.le_of_ble_eq_true rfl) (Nat.le_refl _) ⟨hk1, hk2⟩ hC (fun H1 x2 hp => ?_)
  have h := h H1 x2 hp
  refine gG_aload_n dL_law_682 rfl rfl ?_
  refine gG_aload_nT dL_law_683 rfl rfl ?_
  refine gG_iload dL_law_684 rfl ?_
  refine gG_iconst (v := 1) dL_law_686 (by decide) ?_
  refine gG_iadd dL_law_687 ?_
  obtain ⟨e1, h⟩ := h
  refine gG_sld rfl dL_law_688 e1 ?_
  obtain ⟨hk1, hk2, hrc, d2, P2, hdd, hC, h⟩ := h
  refine gG_cvi (As := [.int ((S.2 (Int32.toNatClampNeg ((i4 + (1 : Int32))))))]) (st := [.int (x2)]) dL_law_689 mV_L_86 hdd hrc rfl rfl (Nat.le_of_ble_eq_true rfl) (Nat.le_refl _) ⟨hk1, hk2⟩ hC (fun H3 x4 hp => ?_)
  have h := h H3 x4 hp
  refine gG_ic_eq (tgt := 1411) dL_law_692 (by decide) (fun c => ?_) (fun c => ?_)
  · have h := h.1 c
    refine gG_locals ?_ h
    exact ⟨rfl, ⟨rfl, ⟨rfl, ⟨rfl, ⟨rfl, trivial⟩⟩⟩⟩⟩
  · have h := h.2 c
    refine gG_iconst (v := 0) dL_law_695 (by decide) ?_
    refine gG_exit h
theorem kL_law_697 {S : Nat × (Nat → Int32)} {d n kc ks mc ms : Nat} {H : gHp} {X : gX} {a1 : Nat} {a2 : Nat} {a3 : Nat} {i4 : Int32} (h : vp_in ((i4 + (1 : Int32))) S.1 ∧ (kc ≤ mc ∧ ks ≤ ms ∧ (∃ fs, H (a1) = .inr (11, fs)) ∧ g_ci d mX11_when (n) H [.ref (a1), .int ((S.2 (Int32.toNatClampNeg ((i4 + (1 : Int32))))))] (fun H1 x2 => vp_in ((i4 + (1 : Int32))) S.1 ∧ (kc ≤ mc ∧ ks ≤ ms ∧ (∃ fs, H1 (a2) = .inr (12, fs)) ∧ g_ci d mX12_when (n) H1 [.ref (a2), .int ((S.2 (Int32.toNatClampNeg ((i4 + (1 : Int32))))))] (fun H3 x4 => (x2 = x4 → gG d (mL_law S) mc ms X 1411 (n) H3 [some (.float 300), some (.ref (a1)), some (.ref (a2)), some (.ref (a3)), some (.int (i4)), none, none] [] (kc) (ks)) ∧ (¬ (x2 = x4) → X 721 (n) H3 [some (.float 300), some (.ref (a1)), some (.ref (a2)), some (.ref (a3)), some (.int (i4)), none, none] [.int ((0 : Int32))] (kc) (ks))))))) : gG d (mL_law S) mc ms X 697 n H [some (.float 300), some (.ref (a1)), some (.ref (a2)), some (.ref (a3)), some (.int (i4)), none, none] [] kc ks := by
  refine gG_aload_n dL_law_697 rfl rfl ?_
  refine gG_aload_nT dL_law_698 rfl rfl ?_
  refine gG_iload dL_law_699 rfl ?_
  refine gG_iconst (v := 1) dL_law_701 (by decide) ?_
  refine gG_iadd dL_law_702 ?_
  obtain ⟨e1, h⟩ := h
  refine gG_sld rfl dL_law_703 e1 ?_
  obtain ⟨hk1, hk2, hrc, d2, P2, hdd, hC, h⟩ := h
  refine gG_cvi (As := [.int ((S.2 (Int32.toNatClampNeg ((i4 + (1 : Int32))))))]) (st := []) dL_law_704 mV_L_87 hdd hrc rfl rfl (Nat.le_of_ble_eq_true rfl) (Nat.le_refl _) ⟨hk1, hk2⟩ hC (fun H1 x2 hp => ?_)
  have h := h H1 x2 hp
  refine gG_aload_n dL_law_707 rfl rfl ?_
  refine gG_aload_nT dL_law_708 rfl rfl ?_
  refine gG_iload dL_law_709 rfl ?_
  refine gG_iconst (v := 1) dL_law_711 (by decide) ?_
  refine gG_iadd dL_law_712 ?_
  obtain ⟨e1, h⟩ := h
  refine gG_sld rfl dL_law_713 e1 ?_
  obtain ⟨hk1, hk2, hrc, d2, P2, hdd, hC, h⟩ := h
  refine gG_cvi (As := [.int ((S.2 (Int32.toNatClampNeg ((i4 + (1 : Int32))))))]) (st := [.int (x2)]) dL_law_714 mV_L_90 hdd hrc rfl rfl (Nat.le_of_ble_eq_true rfl) (Nat.le_refl _) ⟨hk1, hk2⟩ hC (fun H3 x4 hp => ?_)
  have h := h H3 x4 hp
  refine gG_ic_eq (tgt := 1411) dL_law_717 (by decide) (fun c => ?_) (fun c => ?_)
  · have h := h.1 c
    refine gG_locals ?_ h
    exact ⟨rfl, ⟨rfl, ⟨rfl, ⟨rfl, ⟨rfl, trivial⟩⟩⟩⟩⟩
  · have h := h.2 c
    refine gG_iconst (v := 0) dL_law_720 (by decide) ?_
    refine gG_exit h
theorem kL_law_722 {S : Nat × (Nat → Int32)} {d n kc ks mc ms : Nat} {H : gHp} {X : gX} {a1 : Nat} {a2 : Nat} {a3 : Nat} {i4 : Int32} (h : kc ≤ mc ∧ ks ≤ ms ∧ (∃ fs, H (a1) = .inr (11, fs)) ∧ g_ci d mX11_dry (n) H [.ref (a1)] (fun H1 x2 => kc ≤ mc ∧ ks ≤ ms ∧ (∃ fs, H1 (a2) = .inr (12, fs)) ∧ g_ci d mX12_dry (n) H1 [.ref (a2)] (fun H3 x4 => (x2 = x4 → gG d (mL_law S) mc ms X 1411 (n) H3 [some (.float 300), some (.ref (a1)), some (.ref (a2)), some (.ref (a3)), some (.int (i4)), none, none] [] (kc) (ks)) ∧ (¬ (x2 = x4) → X 734 (n) H3 [some (.float 300), some (.ref (a1)), some (.ref (a2)), some (.ref (a3)), some (.int (i4)), none, none] [.int ((0 : Int32))] (kc) (ks))))) : gG d (mL_law S) mc ms X 722 n H [some (.float 300), some (.ref (a1)), some (.ref (a2)), some (.ref (a3)), some (.int (i4)), none, none] [] kc ks := by
  refine gG_aload_n dL_law_722 rfl rfl ?_
  obtain ⟨hk1, hk2, hrc, d2, P2, hdd, hC, h⟩ := h
  refine gG_cvi (As := []) (st := []) dL_law_723 mV_L_91 hdd hrc rfl rfl (Nat.le_of_ble_eq_true rfl) (Nat.le_refl _) ⟨hk1, hk2⟩ hC (fun H1 x2 hp => ?_)
  have h := h H1 x2 hp
  refine gG_aload_n dL_law_726 rfl rfl ?_
  obtain ⟨hk1, hk2, hrc, d2, P2, hdd, hC, h⟩ := h
  refine gG_cvi (As := []) (st := [.int (x2)]) dL_law_727 mV_L_94 hdd hrc rfl rfl (Nat.le_of_ble_eq_true rfl) (Nat.le_refl _) ⟨hk1, hk2⟩ hC (fun H3 x4 hp => ?_)
  have h := h H3 x4 hp
  refine gG_ic_eq (tgt := 1411) dL_law_730 (by decide) (fun c => ?_) (fun c => ?_)
  · have h := h.1 c
    refine gG_locals ?_ h
    exact ⟨rfl, ⟨rfl, ⟨rfl, ⟨rfl, ⟨rfl, trivial⟩⟩⟩⟩⟩
  · have h := h.2 c
    refine gG_iconst (v := 0) dL_law_733 (by decide) ?_
    refine gG_exit h
theorem kL_law_735 {S : Nat × (Nat → Int32)} {d n kc ks mc ms : Nat} {H : gHp} {X : gX} {a1 : Nat} {a2 : Nat} {a3 : Nat} {i4 : Int32} (h : vp_in ((i4 + (1 : Int32))) S.1 ∧ (kc ≤ mc ∧ ks ≤ ms ∧ (∃ fs, H (a1) = .inr (11, fs)) ∧ g_ci d mX11_spill (n) H [.ref (a1), .int ((S.2 (Int32.toNatClampNeg ((i4 + (1 : Int32))))))] (fun H1 x2 => vp_in ((i4 + (1 : Int32))) S.1 ∧ (kc ≤ mc ∧ ks ≤ ms ∧ (∃ fs, H1 (a2) = .inr (12, fs)) ∧ g_ci d mX12_spill (n) H1 [.ref (a2), .int ((S.2 (Int32.toNatClampNeg ((i4 + (1 : Int32))))))] (fun H3 x4 => (x2 = x4 → gG d (mL_law S) mc ms X 1411 (n) H3 [some (.float 300), some (.ref (a1)), some (.ref (a2)), some (.ref (a3)), some (.int (i4)), none, none] [] (kc) (ks)) ∧ (¬ (x2 = x4) → X 759 (n) H3 [some (.float 300), some (.ref (a1)), some (.ref (a2)), some (.ref (a3)), some (.int (i4)), none, none] [.int ((0 : Int32))] (kc) (ks))))))) : gG d (mL_law S) mc ms X 735 n H [some (.float 300), some (.ref (a1)), some (.ref (a2)), some (.ref (a3)), some (.int (i4)), none, none] [] kc ks := by
  refine gG_aload_n dL_law_735 rfl rfl ?_
  refine gG_aload_nT dL_law_736 rfl rfl ?_
  refine gG_iload dL_law_737 rfl ?_
  refine gG_iconst (v := 1) dL_law_739 (by decide) ?_
  refine gG_iadd dL_law_740 ?_
  obtain ⟨e1, h⟩ := h
  refine gG_sld rfl dL_law_741 e1 ?_
  obtain ⟨hk1, hk2, hrc, d2, P2, hdd, hC, h⟩ := h
  refine gG_cvi (As := [.int ((S.2 (Int32.toNatClampNeg ((i4 + (1 : Int32))))))]) (st := []) dL_law_742 mV_L_95 hdd hrc rfl rfl (Nat.le_of_ble_eq_true rfl) (Nat.le_refl _) ⟨hk1, hk2⟩ hC (fun H1 x2 hp => ?_)
  have h := h H1 x2 hp
  refine gG_aload_n dL_law_745 rfl rfl ?_
  refine gG_aload_nT dL_law_746 rfl rfl ?_
  refine gG_iload dL_law_747 rfl ?_
  refine gG_iconst (v := 1) dL_law_749 (by decide) ?_
  refine gG_iadd dL_law_750 ?_
  obtain ⟨e1, h⟩ := h
  refine gG_sld rfl dL_law_751 e1 ?_
  obtain ⟨hk1, hk2, hrc, d2, P2, hdd, hC, h⟩ := h
  refine gG_cvi (As := [.int ((S.2 (Int32.toNatClampNeg ((i4 + (1 : Int32))))))]) (st := [.int (x2)]) dL_law_752 mV_L_98 hdd hrc rfl rfl (Nat.le_of_ble_eq_true rfl) (Nat.le_refl _) ⟨hk1, hk2⟩ hC (fun H3 x4 hp => ?_)
  have h := h H3 x4 hp
  refine gG_ic_eq (tgt := 1411) dL_law_755 (by decide) (fun c => ?_) (fun c => ?_)
  · have h := h.1 c
    refine gG_locals ?_ h
    exact ⟨rfl, ⟨rfl, ⟨rfl, ⟨rfl, ⟨rfl, trivial⟩⟩⟩⟩⟩
  · have h := h.2 c
    refine gG_iconst (v := 0) dL_law_758 (by decide) ?_
    refine gG_exit h
theorem kL_law_760 {S : Nat × (Nat → Int32)} {d n kc ks mc ms : Nat} {H : gHp} {X : gX} {a1 : Nat} {a2 : Nat} {a3 : Nat} {i4 : Int32} (h : vp_in ((i4 + (1 : Int32))) S.1 ∧ (kc ≤ mc ∧ ks ≤ ms ∧ (∃ fs, H (a1) = .inr (11, fs)) ∧ g_ci d mX11_over (n) H [.ref (a1), .int ((S.2 (Int32.toNatClampNeg ((i4 + (1 : Int32))))))] (fun H1 x2 => vp_in ((i4 + (1 : Int32))) S.1 ∧ (kc ≤ mc ∧ ks ≤ ms ∧ (∃ fs, H1 (a2) = .inr (12, fs)) ∧ g_ci d mX12_over (n) H1 [.ref (a2), .int ((S.2 (Int32.toNatClampNeg ((i4 + (1 : Int32))))))] (fun H3 x4 => (x2 = x4 → gG d (mL_law S) mc ms X 1411 (n) H3 [some (.float 300), some (.ref (a1)), some (.ref (a2)), some (.ref (a3)), some (.int (i4)), none, none] [] (kc) (ks)) ∧ (¬ (x2 = x4) → X 784 (n) H3 [some (.float 300), some (.ref (a1)), some (.ref (a2)), some (.ref (a3)), some (.int (i4)), none, none] [.int ((0 : Int32))] (kc) (ks))))))) : gG d (mL_law S) mc ms X 760 n H [some (.float 300), some (.ref (a1)), some (.ref (a2)), some (.ref (a3)), some (.int (i4)), none, none] [] kc ks := by
  refine gG_aload_n dL_law_760 rfl rfl ?_
  refine gG_aload_nT dL_law_761 rfl rfl ?_
  refine gG_iload dL_law_762 rfl ?_
  refine gG_iconst (v := 1) dL_law_764 (by decide) ?_
  refine gG_iadd dL_law_765 ?_
  obtain ⟨e1, h⟩ := h
  refine gG_sld rfl dL_law_766 e1 ?_
  obtain ⟨hk1, hk2, hrc, d2, P2, hdd, hC, h⟩ := h
  refine gG_cvi (As := [.int ((S.2 (Int32.toNatClampNeg ((i4 + (1 : Int32))))))]) (st := []) dL_law_767 mV_L_99 hdd hrc rfl rfl (Nat.le_of_ble_eq_true rfl) (Nat.le_refl _) ⟨hk1, hk2⟩ hC (fun H1 x2 hp => ?_)
  have h := h H1 x2 hp
  refine gG_aload_n dL_law_770 rfl rfl ?_
  refine gG_aload_nT dL_law_771 rfl rfl ?_
  refine gG_iload dL_law_772 rfl ?_
  refine gG_iconst (v := 1) dL_law_774 (by decide) ?_
  refine gG_iadd dL_law_775 ?_
  obtain ⟨e1, h⟩ := h
  refine gG_sld rfl dL_law_776 e1 ?_
  obtain ⟨hk1, hk2, hrc, d2, P2, hdd, hC, h⟩ := h
  refine gG_cvi (As := [.int ((S.2 (Int32.toNatClampNeg ((i4 + (1 : Int32))))))]) (st := [.int (x2)]) dL_law_777 mV_L_102 hdd hrc rfl rfl (Nat.le_of_ble_eq_true rfl) (Nat.le_refl _) ⟨hk1, hk2⟩ hC (fun H3 x4 hp => ?_)
  have h := h H3 x4 hp
  refine gG_ic_eq (tgt := 1411) dL_law_780 (by decide) (fun c => ?_) (fun c => ?_)
  · have h := h.1 c
    refine gG_locals ?_ h
    exact ⟨rfl, ⟨rfl, ⟨rfl, ⟨rfl, ⟨rfl, trivial⟩⟩⟩⟩⟩
  · have h := h.2 c
    refine gG_iconst (v := 0) dL_law_783 (by decide) ?_
    refine gG_exit h
theorem kL_law_785 {S : Nat × (Nat → Int32)} {d n kc ks mc ms : Nat} {H : gHp} {X : gX} {a1 : Nat} {a2 : Nat} {a3 : Nat} {i4 : Int32} (h : kc ≤ mc ∧ ks ≤ ms ∧ (∃ fs, H (a1) = .inr (11, fs)) ∧ g_ci d mX11_first (n) H [.ref (a1)] (fun H1 x2 => kc ≤ mc ∧ ks ≤ ms ∧ (∃ fs, H1 (a2) = .inr (12, fs)) ∧ g_ci d mX12_first (n) H1 [.ref (a2)] (fun H3 x4 => (x2 = x4 → gG d (mL_law S) mc ms X 1411 (n) H3 [some (.float 300), some (.ref (a1)), some (.ref (a2)), some (.ref (a3)), some (.int (i4)), none, none] [] (kc) (ks)) ∧ (¬ (x2 = x4) → X 797 (n) H3 [some (.float 300), some (.ref (a1)), some (.ref (a2)), some (.ref (a3)), some (.int (i4)), none, none] [.int ((0 : Int32))] (kc) (ks))))) : gG d (mL_law S) mc ms X 785 n H [some (.float 300), some (.ref (a1)), some (.ref (a2)), some (.ref (a3)), some (.int (i4)), none, none] [] kc ks := by
  refine gG_aload_n dL_law_785 rfl rfl ?_
  obtain ⟨hk1, hk2, hrc, d2, P2, hdd, hC, h⟩ := h
  refine gG_cvi (As := []) (st := []) dL_law_786 mV_L_103 hdd hrc rfl rfl (Nat.le_of_ble_eq_true rfl) (Nat.le_refl _) ⟨hk1, hk2⟩ hC (fun H1 x2 hp => ?_)
  have h := h H1 x2 hp
  refine gG_aload_n dL_law_789 rfl rfl ?_
  obtain ⟨hk1, hk2, hrc, d2, P2, hdd, hC, h⟩ := h
  refine gG_cvi (As := []) (st := [.int (x2)]) dL_law_790 mV_L_106 hdd hrc rfl rfl (Nat.le_of_ble_eq_true rfl) (Nat.le_refl _) ⟨hk1, hk2⟩ hC (fun H3 x4 hp => ?_)
  have h := h H3 x4 hp
  refine gG_ic_eq (tgt := 1411) dL_law_793 (by decide) (fun c => ?_) (fun c => ?_)
  · have h := h.1 c
    refine gG_locals ?_ h
    exact ⟨rfl, ⟨rfl, ⟨rfl, ⟨rfl, ⟨rfl, trivial⟩⟩⟩⟩⟩
  · have h := h.2 c
    refine gG_iconst (v := 0) dL_law_796 (by decide) ?_
    refine gG_exit h
theorem kL_law_798 {S : Nat × (Nat → Int32)} {d n kc ks mc ms : Nat} {H : gHp} {X : gX} {a1 : Nat} {a2 : Nat} {a3 : Nat} {i4 : Int32} (h : vp_in ((i4 + (1 : Int32))) S.1 ∧ (kc ≤ mc ∧ ks ≤ ms ∧ (∃ fs, H (a1) = .inr (11, fs)) ∧ g_ci d mX11_great (n) H [.ref (a1), .int ((S.2 (Int32.toNatClampNeg ((i4 + (1 : Int32))))))] (fun H1 x2 => vp_in ((i4 + (1 : Int32))) S.1 ∧ (kc ≤ mc ∧ ks ≤ ms ∧ (∃ fs, H1 (a2) = .inr (12, fs)) ∧ g_ci d mX12_great (n) H1 [.ref (a2), .int ((S.2 (Int32.toNatClampNeg ((i4 + (1 : Int32))))))] (fun H3 x4 => (x2 = x4 → gG d (mL_law S) mc ms X 1411 (n) H3 [some (.float 300), some (.ref (a1)), some (.ref (a2)), some (.ref (a3)), some (.int (i4)), none, none] [] (kc) (ks)) ∧ (¬ (x2 = x4) → X 822 (n) H3 [some (.float 300), some (.ref (a1)), some (.ref (a2)), some (.ref (a3)), some (.int (i4)), none, none] [.int ((0 : Int32))] (kc) (ks))))))) : gG d (mL_law S) mc ms X 798 n H [some (.float 300), some (.ref (a1)), some (.ref (a2)), some (.ref (a3)), some (.int (i4)), none, none] [] kc ks := by
  refine gG_aload_n dL_law_798 rfl rfl ?_
  refine gG_aload_nT dL_law_799 rfl rfl ?_
  refine gG_iload dL_law_800 rfl ?_
  refine gG_iconst (v := 1) dL_law_802 (by decide) ?_
  refine gG_iadd dL_law_803 ?_
  obtain ⟨e1, h⟩ := h
  refine gG_sld rfl dL_law_804 e1 ?_
  obtain ⟨hk1, hk2, hrc, d2, P2, hdd, hC, h⟩ := h
  refine gG_cvi (As := [.int ((S.2 (Int32.toNatClampNeg ((i4 + (1 : Int32))))))]) (st := []) dL_law_805 mV_L_107 hdd hrc rfl rfl (Nat.le_of_ble_eq_true rfl) (Nat.le_refl _) ⟨hk1, hk2⟩ hC (fun H1 x2 hp => ?_)
  have h := h H1 x2 hp
  refine gG_aload_n dL_law_808 rfl rfl ?_
  refine gG_aload_nT dL_law_809 rfl rfl ?_
  refine gG_iload dL_law_810 rfl ?_
  refine gG_iconst (v := 1) dL_law_812 (by decide) ?_
  refine gG_iadd dL_law_813 ?_
  obtain ⟨e1, h⟩ := h
  refine gG_sld rfl dL_law_814 e1 ?_
  obtain ⟨hk1, hk2, hrc, d2, P2, hdd, hC, h⟩ := h
  refine gG_cvi (As := [.int ((S.2 (Int32.toNatClampNeg ((i4 + (1 : Int32))))))]) (st := [.int (x2)]) dL_law_815 mV_L_110 hdd hrc rfl rfl (Nat.le_of_ble_eq_true rfl) (Nat.le_refl _) ⟨hk1, hk2⟩ hC (fun H3 x4 hp => ?_)
  have h := h H3 x4 hp
  refine gG_ic_eq (tgt := 1411) dL_law_818 (by decide) (fun c => ?_) (fun c => ?_)
  · have h := h.1 c
    refine gG_locals ?_ h
    exact ⟨rfl, ⟨rfl, ⟨rfl, ⟨rfl, ⟨rfl, trivial⟩⟩⟩⟩⟩
  · have h := h.2 c
    refine gG_iconst (v := 0) dL_law_821 (by decide) ?_
    refine gG_exit h
theorem kL_law_823 {S : Nat × (Nat → Int32)} {d n kc ks mc ms : Nat} {H : gHp} {X : gX} {a1 : Nat} {a2 : Nat} {a3 : Nat} {i4 : Int32} (h : vp_in ((i4 + (1 : Int32))) S.1 ∧ (kc ≤ mc ∧ ks ≤ ms ∧ (∃ fs, H (a1) = .inr (11, fs)) ∧ g_ci d mX11_twins (n) H [.ref (a1), .int ((S.2 (Int32.toNatClampNeg ((i4 + (1 : Int32))))))] (fun H1 x2 => vp_in ((i4 + (1 : Int32))) S.1 ∧ (kc ≤ mc ∧ ks ≤ ms ∧ (∃ fs, H1 (a2) = .inr (12, fs)) ∧ g_ci d mX12_twins (n) H1 [.ref (a2), .int ((S.2 (Int32.toNatClampNeg ((i4 + (1 : Int32))))))] (fun H3 x4 => (x2 = x4 → gG d (mL_law S) mc ms X 1411 (n) H3 [some (.float 300), some (.ref (a1)), some (.ref (a2)), some (.ref (a3)), some (.int (i4)), none, none] [] (kc) (ks)) ∧ (¬ (x2 = x4) → X 847 (n) H3 [some (.float 300), some (.ref (a1)), some (.ref (a2)), some (.ref (a3)), some (.int (i4)), none, none] [.int ((0 : Int32))] (kc) (ks))))))) : gG d (mL_law S) mc ms X 823 n H [some (.float 300), some (.ref (a1)), some (.ref (a2)), some (.ref (a3)), some (.int (i4)), none, none] [] kc ks := by
  refine gG_aload_n dL_law_823 rfl rfl ?_
  refine gG_aload_nT dL_law_824 rfl rfl ?_
  refine gG_iload dL_law_825 rfl ?_
  refine gG_iconst (v := 1) dL_law_827 (by decide) ?_
  refine gG_iadd dL_law_828 ?_
  obtain ⟨e1, h⟩ := h
  refine gG_sld rfl dL_law_829 e1 ?_
  obtain ⟨hk1, hk2, hrc, d2, P2, hdd, hC, h⟩ := h
  refine gG_cvi (As := [.int ((S.2 (Int32.toNatClampNeg ((i4 + (1 : Int32))))))]) (st := []) dL_law_830 mV_L_111 hdd hrc rfl rfl (Nat.le_of_ble_eq_true rfl) (Nat.le_refl _) ⟨hk1, hk2⟩ hC (fun H1 x2 hp => ?_)
  have h := h H1 x2 hp
  refine gG_aload_n dL_law_833 rfl rfl ?_
  refine gG_aload_nT dL_law_834 rfl rfl ?_
  refine gG_iload dL_law_835 rfl ?_
  refine gG_iconst (v := 1) dL_law_837 (by decide) ?_
  refine gG_iadd dL_law_838 ?_
  obtain ⟨e1, h⟩ := h
  refine gG_sld rfl dL_law_839 e1 ?_
  obtain ⟨hk1, hk2, hrc, d2, P2, hdd, hC, h⟩ := h
  refine gG_cvi (As := [.int ((S.2 (Int32.toNatClampNeg ((i4 + (1 : Int32))))))]) (st := [.int (x2)]) dL_law_840 mV_L_114 hdd hrc rfl rfl (Nat.le_of_ble_eq_true rfl) (Nat.le_refl _) ⟨hk1, hk2⟩ hC (fun H3 x4 hp => ?_)
  have h := h H3 x4 hp
  refine gG_ic_eq (tgt := 1411) dL_law_843 (by decide) (fun c => ?_) (fun c => ?_)
  · have h := h.1 c
    refine gG_locals ?_ h
    exact ⟨rfl, ⟨rfl, ⟨rfl, ⟨rfl, ⟨rfl, trivial⟩⟩⟩⟩⟩
  · have h := h.2 c
    refine gG_iconst (v := 0) dL_law_846 (by decide) ?_
    refine gG_exit h
theorem kL_law_848 {S : Nat × (Nat → Int32)} {d n kc ks mc ms : Nat} {H : gHp} {X : gX} {a1 : Nat} {a2 : Nat} {a3 : Nat} {i4 : Int32} (h : vp_in ((i4 + (1 : Int32))) S.1 ∧ (kc ≤ mc ∧ ks ≤ ms ∧ (∃ fs, H (a1) = .inr (11, fs)) ∧ g_ci d mX11_down (n) H [.ref (a1), .int ((S.2 (Int32.toNatClampNeg ((i4 + (1 : Int32))))))] (fun H1 x2 => vp_in ((i4 + (1 : Int32))) S.1 ∧ (kc ≤ mc ∧ ks ≤ ms ∧ (∃ fs, H1 (a2) = .inr (12, fs)) ∧ g_ci d mX12_down (n) H1 [.ref (a2), .int ((S.2 (Int32.toNatClampNeg ((i4 + (1 : Int32))))))] (fun H3 x4 => (x2 = x4 → gG d (mL_law S) mc ms X 1411 (n) H3 [some (.float 300), some (.ref (a1)), some (.ref (a2)), some (.ref (a3)), some (.int (i4)), none, none] [] (kc) (ks)) ∧ (¬ (x2 = x4) → X 872 (n) H3 [some (.float 300), some (.ref (a1)), some (.ref (a2)), some (.ref (a3)), some (.int (i4)), none, none] [.int ((0 : Int32))] (kc) (ks))))))) : gG d (mL_law S) mc ms X 848 n H [some (.float 300), some (.ref (a1)), some (.ref (a2)), some (.ref (a3)), some (.int (i4)), none, none] [] kc ks := by
  refine gG_aload_n dL_law_848 rfl rfl ?_
  refine gG_aload_nT dL_law_849 rfl rfl ?_
  refine gG_iload dL_law_850 rfl ?_
  refine gG_iconst (v := 1) dL_law_852 (by decide) ?_
  refine gG_iadd dL_law_853 ?_
  obtain ⟨e1, h⟩ := h
  refine gG_sld rfl dL_law_854 e1 ?_
  obtain ⟨hk1, hk2, hrc, d2, P2, hdd, hC, h⟩ := h
  refine gG_cvi (As := [.int ((S.2 (Int32.toNatClampNeg ((i4 + (1 : Int32))))))]) (st := []) dL_law_855 mV_L_115 hdd hrc rfl rfl (Nat.le_of_ble_eq_true rfl) (Nat.le_refl _) ⟨hk1, hk2⟩ hC (fun H1 x2 hp => ?_)
  have h := h H1 x2 hp
  refine gG_aload_n dL_law_858 rfl rfl ?_
  refine gG_aload_nT dL_law_859 rfl rfl ?_
  refine gG_iload dL_law_860 rfl ?_
  refine gG_iconst (v := 1) dL_law_862 (by decide) ?_
  refine gG_iadd dL_law_863 ?_
  obtain ⟨e1, h⟩ := h
  refine gG_sld rfl dL_law_864 e1 ?_
  obtain ⟨hk1, hk2, hrc, d2, P2, hdd, hC, h⟩ := h
  refine gG_cvi (As := [.int ((S.2 (Int32.toNatClampNeg ((i4 + (1 : Int32))))))]) (st := [.int (x2)]) dL_law_865 mV_L_118 hdd hrc rfl rfl (Nat.le_of_ble_eq_true rfl) (Nat.le_refl _) ⟨hk1, hk2⟩ hC (fun H3 x4 hp => ?_)
  have h := h H3 x4 hp
  refine gG_ic_eq (tgt := 1411) dL_law_868 (by decide) (fun c => ?_) (fun c => ?_)
  · have h := h.1 c
    refine gG_locals ?_ h
    exact ⟨rfl, ⟨rfl, ⟨rfl, ⟨rfl, ⟨rfl, trivial⟩⟩⟩⟩⟩
  · have h := h.2 c
    refine gG_iconst (v := 0) dL_law_871 (by decide) ?_
    refine gG_exit h
theorem kL_law_873 {S : Nat × (Nat → Int32)} {d n kc ks mc ms : Nat} {H : gHp} {X : gX} {a1 : Nat} {a2 : Nat} {a3 : Nat} {i4 : Int32} (h : vp_in ((i4 + (1 : Int32))) S.1 ∧ (kc ≤ mc ∧ ks ≤ ms ∧ (∃ fs, H (a1) = .inr (11, fs)) ∧ g_ci d mX11_up (n) H [.ref (a1), .int ((S.2 (Int32.toNatClampNeg ((i4 + (1 : Int32))))))] (fun H1 x2 => vp_in ((i4 + (1 : Int32))) S.1 ∧ (kc ≤ mc ∧ ks ≤ ms ∧ (∃ fs, H1 (a2) = .inr (12, fs)) ∧ g_ci d mX12_up (n) H1 [.ref (a2), .int ((S.2 (Int32.toNatClampNeg ((i4 + (1 : Int32))))))] (fun H3 x4 => (x2 = x4 → gG d (mL_law S) mc ms X 1411 (n) H3 [some (.float 300), some (.ref (a1)), some (.ref (a2)), some (.ref (a3)), some (.int (i4)), none, none] [] (kc) (ks)) ∧ (¬ (x2 = x4) → X 897 (n) H3 [some (.float 300), some (.ref (a1)), some (.ref (a2)), some (.ref (a3)), some (.int (i4)), none, none] [.int ((0 : Int32))] (kc) (ks))))))) : gG d (mL_law S) mc ms X 873 n H [some (.float 300), some (.ref (a1)), some (.ref (a2)), some (.ref (a3)), some (.int (i4)), none, none] [] kc ks := by
  refine gG_aload_n dL_law_873 rfl rfl ?_
  refine gG_aload_nT dL_law_874 rfl rfl ?_
  refine gG_iload dL_law_875 rfl ?_
  refine gG_iconst (v := 1) dL_law_877 (by decide) ?_
  refine gG_iadd dL_law_878 ?_
  obtain ⟨e1, h⟩ := h
  refine gG_sld rfl dL_law_879 e1 ?_
  obtain ⟨hk1, hk2, hrc, d2, P2, hdd, hC, h⟩ := h
  refine gG_cvi (As := [.int ((S.2 (Int32.toNatClampNeg ((i4 + (1 : Int32))))))]) (st := []) dL_law_880 mV_L_119 hdd hrc rfl rfl (Nat.le_of_ble_eq_true rfl) (Nat.le_refl _) ⟨hk1, hk2⟩ hC (fun H1 x2 hp => ?_)
  have h := h H1 x2 hp
  refine gG_aload_n dL_law_883 rfl rfl ?_
  refine gG_aload_nT dL_law_884 rfl rfl ?_
  refine gG_iload dL_law_885 rfl ?_
  refine gG_iconst (v := 1) dL_law_887 (by decide) ?_
  refine gG_iadd dL_law_888 ?_
  obtain ⟨e1, h⟩ := h
  refine gG_sld rfl dL_law_889 e1 ?_
  obtain ⟨hk1, hk2, hrc, d2, P2, hdd, hC, h⟩ := h
  refine gG_cvi (As := [.int ((S.2 (Int32.toNatClampNeg ((i4 + (1 : Int32))))))]) (st := [.int (x2)]) dL_law_890 mV_L_122 hdd hrc rfl rfl (Nat.le_of_ble_eq_true rfl) (Nat.le_refl _) ⟨hk1, hk2⟩ hC (fun H3 x4 hp => ?_)
  have h := h H3 x4 hp
  refine gG_ic_eq (tgt := 1411) dL_law_893 (by decide) (fun c => ?_) (fun c => ?_)
  · have h := h.1 c
    refine gG_locals ?_ h
    exact ⟨rfl, ⟨rfl, ⟨rfl, ⟨rfl, ⟨rfl, trivial⟩⟩⟩⟩⟩
  · have h := h.2 c
    refine gG_iconst (v := 0) dL_law_896 (by decide) ?_
    refine gG_exit h
theorem kL_law_898 {S : Nat × (Nat → Int32)} {d n kc ks mc ms : Nat} {H : gHp} {X : gX} {a1 : Nat} {a2 : Nat} {a3 : Nat} {i4 : Int32} (h : kc ≤ mc ∧ ks ≤ ms ∧ (∃ fs, H (a1) = .inr (11, fs)) ∧ g_ci d mX11_chain (n) H [.ref (a1)] (fun H1 x2 => kc ≤ mc ∧ ks ≤ ms ∧ (∃ fs, H1 (a2) = .inr (12, fs)) ∧ g_ci d mX12_chain (n) H1 [.ref (a2)] (fun H3 x4 => (x2 = x4 → gG d (mL_law S) mc ms X 1411 (n) H3 [some (.float 300), some (.ref (a1)), some (.ref (a2)), some (.ref (a3)), some (.int (i4)), none, none] [] (kc) (ks)) ∧ (¬ (x2 = x4) → X 910 (n) H3 [some (.float 300), some (.ref (a1)), some (.ref (a2)), some (.ref (a3)), some (.int (i4)), none, none] [.int ((0 : Int32))] (kc) (ks))))) : gG d (mL_law S) mc ms X 898 n H [some (.float 300), some (.ref (a1)), some (.ref (a2)), some (.ref (a3)), some (.int (i4)), none, none] [] kc ks := by
  refine gG_aload_n dL_law_898 rfl rfl ?_
  obtain ⟨hk1, hk2, hrc, d2, P2, hdd, hC, h⟩ := h
  refine gG_cvi (As := []) (st := []) dL_law_899 mV_L_123 hdd hrc rfl rfl (Nat.le_of_ble_eq_true rfl) (Nat.le_refl _) ⟨hk1, hk2⟩ hC (fun H1 x2 hp => ?_)
  have h := h H1 x2 hp
  refine gG_aload_n dL_law_902 rfl rfl ?_
  obtain ⟨hk1, hk2, hrc, d2, P2, hdd, hC, h⟩ := h
  refine gG_cvi (As := []) (st := [.int (x2)]) dL_law_903 mV_L_126 hdd hrc rfl rfl (Nat.le_of_ble_eq_true rfl) (Nat.le_refl _) ⟨hk1, hk2⟩ hC (fun H3 x4 hp => ?_)
  have h := h H3 x4 hp
  refine gG_ic_eq (tgt := 1411) dL_law_906 (by decide) (fun c => ?_) (fun c => ?_)
  · have h := h.1 c
    refine gG_locals ?_ h
    exact ⟨rfl, ⟨rfl, ⟨rfl, ⟨rfl, ⟨rfl, trivial⟩⟩⟩⟩⟩
  · have h := h.2 c
    refine gG_iconst (v := 0) dL_law_909 (by decide) ?_
    refine gG_exit h
theorem kL_law_911 {S : Nat × (Nat → Int32)} {d n kc ks mc ms : Nat} {H : gHp} {X : gX} {a1 : Nat} {a2 : Nat} {a3 : Nat} {i4 : Int32} (h : kc ≤ mc ∧ ks ≤ ms ∧ (∃ fs, H (a1) = .inr (11, fs)) ∧ g_ci d mX11_sounds (n) H [.ref (a1)] (fun H1 x2 => kc ≤ mc ∧ ks ≤ ms ∧ (∃ fs, H1 (a2) = .inr (12, fs)) ∧ g_ci d mX12_sounds (n) H1 [.ref (a2)] (fun H3 x4 => (x2 = x4 → gG d (mL_law S) mc ms X 1411 (n) H3 [some (.float 300), some (.ref (a1)), some (.ref (a2)), some (.ref (a3)), some (.int (i4)), none, none] [] (kc) (ks)) ∧ (¬ (x2 = x4) → X 923 (n) H3 [some (.float 300), some (.ref (a1)), some (.ref (a2)), some (.ref (a3)), some (.int (i4)), none, none] [.int ((0 : Int32))] (kc) (ks))))) : gG d (mL_law S) mc ms X 911 n H [some (.float 300), some (.ref (a1)), some (.ref (a2)), some (.ref (a3)), some (.int (i4)), none, none] [] kc ks := by
  refine gG_aload_n dL_law_911 rfl rfl ?_
  obtain ⟨hk1, hk2, hrc, d2, P2, hdd, hC, h⟩ := h
  refine gG_cvi (As := []) (st := []) dL_law_912 mV_L_127 hdd hrc rfl rfl (Nat.le_of_ble_eq_true rfl) (Nat.le_refl _) ⟨hk1, hk2⟩ hC (fun H1 x2 hp => ?_)
  have h := h H1 x2 hp
  refine gG_aload_n dL_law_915 rfl rfl ?_
  obtain ⟨hk1, hk2, hrc, d2, P2, hdd, hC, h⟩ := h
  refine gG_cvi (As := []) (st := [.int (x2)]) dL_law_916 mV_L_130 hdd hrc rfl rfl (Nat.le_of_ble_eq_true rfl) (Nat.le_refl _) ⟨hk1, hk2⟩ hC (fun H3 x4 hp => ?_)
  have h := h H3 x4 hp
  refine gG_ic_eq (tgt := 1411) dL_law_919 (by decide) (fun c => ?_) (fun c => ?_)
  · have h := h.1 c
    refine gG_locals ?_ h
    exact ⟨rfl, ⟨rfl, ⟨rfl, ⟨rfl, ⟨rfl, trivial⟩⟩⟩⟩⟩
  · have h := h.2 c
    refine gG_iconst (v := 0) dL_law_922 (by decide) ?_
    refine gG_exit h
theorem kL_law_924 {S : Nat × (Nat → Int32)} {d n kc ks mc ms : Nat} {H : gHp} {X : gX} {a1 : Nat} {a2 : Nat} {a3 : Nat} {i4 : Int32} (h : kc ≤ mc ∧ ks ≤ ms ∧ (∃ fs, H (a1) = .inr (11, fs)) ∧ g_ci d mX11_last (n) H [.ref (a1)] (fun H1 x2 => kc ≤ mc ∧ ks ≤ ms ∧ (∃ fs, H1 (a2) = .inr (12, fs)) ∧ g_ci d mX12_last (n) H1 [.ref (a2)] (fun H3 x4 => (x2 = x4 → gG d (mL_law S) mc ms X 1411 (n) H3 [some (.float 300), some (.ref (a1)), some (.ref (a2)), some (.ref (a3)), some (.int (i4)), none, none] [] (kc) (ks)) ∧ (¬ (x2 = x4) → X 936 (n) H3 [some (.float 300), some (.ref (a1)), some (.ref (a2)), some (.ref (a3)), some (.int (i4)), none, none] [.int ((0 : Int32))] (kc) (ks))))) : gG d (mL_law S) mc ms X 924 n H [some (.float 300), some (.ref (a1)), some (.ref (a2)), some (.ref (a3)), some (.int (i4)), none, none] [] kc ks := by
  refine gG_aload_n dL_law_924 rfl rfl ?_
  obtain ⟨hk1, hk2, hrc, d2, P2, hdd, hC, h⟩ := h
  refine gG_cvi (As := []) (st := []) dL_law_925 mV_L_131 hdd hrc rfl rfl (Nat.le_of_ble_eq_true rfl) (Nat.le_refl _) ⟨hk1, hk2⟩ hC (fun H1 x2 hp => ?_)
  have h := h H1 x2 hp
  refine gG_aload_n dL_law_928 rfl rfl ?_
  obtain ⟨hk1, hk2, hrc, d2, P2, hdd, hC, h⟩ := h
  refine gG_cvi (As := []) (st := [.int (x2)]) dL_law_929 mV_L_134 hdd hrc rfl rfl (Nat.le_of_ble_eq_true rfl) (Nat.le_refl _) ⟨hk1, hk2⟩ hC (fun H3 x4 hp => ?_)
  have h := h H3 x4 hp
  refine gG_ic_eq (tgt := 1411) dL_law_932 (by decide) (fun c => ?_) (fun c => ?_)
  · have h := h.1 c
    refine gG_locals ?_ h
    exact ⟨rfl, ⟨rfl, ⟨rfl, ⟨rfl, ⟨rfl, trivial⟩⟩⟩⟩⟩
  · have h := h.2 c
    refine gG_iconst (v := 0) dL_law_935 (by decide) ?_
    refine gG_exit h
theorem kL_law_937 {S : Nat × (Nat → Int32)} {d n kc ks mc ms : Nat} {H : gHp} {X : gX} {a1 : Nat} {a2 : Nat} {a3 : Nat} {i4 : Int32} (h : kc ≤ mc ∧ ks ≤ ms ∧ (∃ fs, H (a1) = .inr (11, fs)) ∧ g_ci d mX11_often (n) H [.ref (a1)] (fun H1 x2 => kc ≤ mc ∧ ks ≤ ms ∧ (∃ fs, H1 (a2) = .inr (12, fs)) ∧ g_ci d mX12_often (n) H1 [.ref (a2)] (fun H3 x4 => (x2 = x4 → gG d (mL_law S) mc ms X 1411 (n) H3 [some (.float 300), some (.ref (a1)), some (.ref (a2)), some (.ref (a3)), some (.int (i4)), none, none] [] (kc) (ks)) ∧ (¬ (x2 = x4) → X 949 (n) H3 [some (.float 300), some (.ref (a1)), some (.ref (a2)), some (.ref (a3)), some (.int (i4)), none, none] [.int ((0 : Int32))] (kc) (ks))))) : gG d (mL_law S) mc ms X 937 n H [some (.float 300), some (.ref (a1)), some (.ref (a2)), some (.ref (a3)), some (.int (i4)), none, none] [] kc ks := by
  refine gG_aload_n dL_law_937 rfl rfl ?_
  obtain ⟨hk1, hk2, hrc, d2, P2, hdd, hC, h⟩ := h
  refine gG_cvi (As := []) (st := []) dL_law_938 mV_L_135 hdd hrc rfl rfl (Nat.le_of_ble_eq_true rfl) (Nat.le_refl _) ⟨hk1, hk2⟩ hC (fun H1 x2 hp => ?_)
  have h := h H1 x2 hp
  refine gG_aload_n dL_law_941 rfl rfl ?_
  obtain ⟨hk1, hk2, hrc, d2, P2, hdd, hC, h⟩ := h
  refine gG_cvi (As := []) (st := [.int (x2)]) dL_law_942 mV_L_138 hdd hrc rfl rfl (Nat.le_of_ble_eq_true rfl) (Nat.le_refl _) ⟨hk1, hk2⟩ hC (fun H3 x4 hp => ?_)
  have h := h H3 x4 hp
  refine gG_ic_eq (tgt := 1411) dL_law_945 (by decide) (fun c => ?_) (fun c => ?_)
  · have h := h.1 c
    refine gG_locals ?_ h
    exact ⟨rfl, ⟨rfl, ⟨rfl, ⟨rfl, ⟨rfl, trivial⟩⟩⟩⟩⟩
  · have h := h.2 c
    refine gG_iconst (v := 0) dL_law_948 (by decide) ?_
    refine gG_exit h
theorem kL_law_950 {S : Nat × (Nat → Int32)} {d n kc ks mc ms : Nat} {H : gHp} {X : gX} {a1 : Nat} {a2 : Nat} {a3 : Nat} {i4 : Int32} (h : kc ≤ mc ∧ ks ≤ ms ∧ (∃ fs, H (a1) = .inr (11, fs)) ∧ g_ci d mX11_run (n) H [.ref (a1)] (fun H1 x2 => kc ≤ mc ∧ ks ≤ ms ∧ (∃ fs, H1 (a2) = .inr (12, fs)) ∧ g_ci d mX12_run (n) H1 [.ref (a2)] (fun H3 x4 => (x2 = x4 → gG d (mL_law S) mc ms X 1411 (n) H3 [some (.float 300), some (.ref (a1)), some (.ref (a2)), some (.ref (a3)), some (.int (i4)), none, none] [] (kc) (ks)) ∧ (¬ (x2 = x4) → X 962 (n) H3 [some (.float 300), some (.ref (a1)), some (.ref (a2)), some (.ref (a3)), some (.int (i4)), none, none] [.int ((0 : Int32))] (kc) (ks))))) : gG d (mL_law S) mc ms X 950 n H [some (.float 300), some (.ref (a1)), some (.ref (a2)), some (.ref (a3)), some (.int (i4)), none, none] [] kc ks := by
  refine gG_aload_n dL_law_950 rfl rfl ?_
  obtain ⟨hk1, hk2, hrc, d2, P2, hdd, hC, h⟩ := h
  refine gG_cvi (As := []) (st := []) dL_law_951 mV_L_139 hdd hrc rfl rfl (Nat.le_of_ble_eq_true rfl) (Nat.le_refl _) ⟨hk1, hk2⟩ hC (fun H1 x2 hp => ?_)
  have h := h H1 x2 hp
  refine gG_aload_n dL_law_954 rfl rfl ?_
  obtain ⟨hk1, hk2, hrc, d2, P2, hdd, hC, h⟩ := h
  refine gG_cvi (As := []) (st := [.int (x2)]) dL_law_955 mV_L_142 hdd hrc rfl rfl (Nat.le_of_ble_eq_true rfl) (Nat.le_refl _) ⟨hk1, hk2⟩ hC (fun H3 x4 hp => ?_)
  have h := h H3 x4 hp
  refine gG_ic_eq (tgt := 1411) dL_law_958 (by decide) (fun c => ?_) (fun c => ?_)
  · have h := h.1 c
    refine gG_locals ?_ h
    exact ⟨rfl, ⟨rfl, ⟨rfl, ⟨rfl, ⟨rfl, trivial⟩⟩⟩⟩⟩
  · have h := h.2 c
    refine gG_iconst (v := 0) dL_law_961 (by decide) ?_
    refine gG_exit h
theorem kL_law_963 {S : Nat × (Nat → Int32)} {d n kc ks mc ms : Nat} {H : gHp} {X : gX} {a1 : Nat} {a2 : Nat} {a3 : Nat} {i4 : Int32} (h : kc ≤ mc ∧ ks ≤ ms ∧ (∃ fs, H (a1) = .inr (11, fs)) ∧ g_ci d mX11_stands (n) H [.ref (a1)] (fun H1 x2 => kc ≤ mc ∧ ks ≤ ms ∧ (∃ fs, H1 (a2) = .inr (12, fs)) ∧ g_ci d mX12_stands (n) H1 [.ref (a2)] (fun H3 x4 => (x2 = x4 → gG d (mL_law S) mc ms X 1411 (n) H3 [some (.float 300), some (.ref (a1)), some (.ref (a2)), some (.ref (a3)), some (.int (i4)), none, none] [] (kc) (ks)) ∧ (¬ (x2 = x4) → X 975 (n) H3 [some (.float 300), some (.ref (a1)), some (.ref (a2)), some (.ref (a3)), some (.int (i4)), none, none] [.int ((0 : Int32))] (kc) (ks))))) : gG d (mL_law S) mc ms X 963 n H [some (.float 300), some (.ref (a1)), some (.ref (a2)), some (.ref (a3)), some (.int (i4)), none, none] [] kc ks := by
  refine gG_aload_n dL_law_963 rfl rfl ?_
  obtain ⟨hk1, hk2, hrc, d2, P2, hdd, hC, h⟩ := h
  refine gG_cvi (As := []) (st := []) dL_law_964 mV_L_143 hdd hrc rfl rfl (Nat.le_of_ble_eq_true rfl) (Nat.le_refl _) ⟨hk1, hk2⟩ hC (fun H1 x2 hp => ?_)
  have h := h H1 x2 hp
  refine gG_aload_n dL_law_967 rfl rfl ?_
  obtain ⟨hk1, hk2, hrc, d2, P2, hdd, hC, h⟩ := h
  refine gG_cvi (As := []) (st := [.int (x2)]) dL_law_968 mV_L_146 hdd hrc rfl rfl (Nat.le_of_ble_eq_true rfl) (Nat.le_refl _) ⟨hk1, hk2⟩ hC (fun H3 x4 hp => ?_)
  have h := h H3 x4 hp
  refine gG_ic_eq (tgt := 1411) dL_law_971 (by decide) (fun c => ?_) (fun c => ?_)
  · have h := h.1 c
    refine gG_locals ?_ h
    exact ⟨rfl, ⟨rfl, ⟨rfl, ⟨rfl, ⟨rfl, trivial⟩⟩⟩⟩⟩
  · have h := h.2 c
    refine gG_iconst (v := 0) dL_law_974 (by decide) ?_
    refine gG_exit h
theorem kL_law_976 {S : Nat × (Nat → Int32)} {d n kc ks mc ms : Nat} {H : gHp} {X : gX} {a1 : Nat} {a2 : Nat} {a3 : Nat} {i4 : Int32} (h : kc ≤ mc ∧ ks ≤ ms ∧ (∃ fs, H (a1) = .inr (11, fs)) ∧ g_ci d mX11_maybe (n) H [.ref (a1)] (fun H1 x2 => kc ≤ mc ∧ ks ≤ ms ∧ (∃ fs, H1 (a2) = .inr (12, fs)) ∧ g_ci d mX12_maybe (n) H1 [.ref (a2)] (fun H3 x4 => (x2 = x4 → gG d (mL_law S) mc ms X 1411 (n) H3 [some (.float 300), some (.ref (a1)), some (.ref (a2)), some (.ref (a3)), some (.int (i4)), none, none] [] (kc) (ks)) ∧ (¬ (x2 = x4) → X 988 (n) H3 [some (.float 300), some (.ref (a1)), some (.ref (a2)), some (.ref (a3)), some (.int (i4)), none, none] [.int ((0 : Int32))] (kc) (ks))))) : gG d (mL_law S) mc ms X 976 n H [some (.float 300), some (.ref (a1)), some (.ref (a2)), some (.ref (a3)), some (.int (i4)), none, none] [] kc ks := by
  refine gG_aload_n dL_law_976 rfl rfl ?_
  obtain ⟨hk1, hk2, hrc, d2, P2, hdd, hC, h⟩ := h
  refine gG_cvi (As := []) (st := []) dL_law_977 mV_L_147 hdd hrc rfl rfl (Nat.le_of_ble_eq_true rfl) (Nat.le_refl _) ⟨hk1, hk2⟩ hC (fun H1 x2 hp => ?_)
  have h := h H1 x2 hp
  refine gG_aload_n dL_law_980 rfl rfl ?_
  obtain ⟨hk1, hk2, hrc, d2, P2, hdd, hC, h⟩ := h
  refine gG_cvi (As := []) (st := [.int (x2)]) dL_law_981 mV_L_150 hdd hrc rfl rfl (Nat.le_of_ble_eq_true rfl) (Nat.le_refl _) ⟨hk1, hk2⟩ hC (fun H3 x4 hp => ?_)
  have h := h H3 x4 hp
  refine gG_ic_eq (tgt := 1411) dL_law_984 (by decide) (fun c => ?_) (fun c => ?_)
  · have h := h.1 c
    refine gG_locals ?_ h
    exact ⟨rfl, ⟨rfl, ⟨rfl, ⟨rfl, ⟨rfl, trivial⟩⟩⟩⟩⟩
  · have h := h.2 c
    refine gG_iconst (v := 0) dL_law_987 (by decide) ?_
    refine gG_exit h
theorem kL_law_989 {S : Nat × (Nat → Int32)} {d n kc ks mc ms : Nat} {H : gHp} {X : gX} {a1 : Nat} {a2 : Nat} {a3 : Nat} {i4 : Int32} (h : kc ≤ mc ∧ ks ≤ ms ∧ (∃ fs, H (a1) = .inr (11, fs)) ∧ g_ci d mX11_entire (n) H [.ref (a1)] (fun H1 x2 => kc ≤ mc ∧ ks ≤ ms ∧ (∃ fs, H1 (a2) = .inr (12, fs)) ∧ g_ci d mX12_entire (n) H1 [.ref (a2)] (fun H3 x4 => (x2 = x4 → gG d (mL_law S) mc ms X 1411 (n) H3 [some (.float 300), some (.ref (a1)), some (.ref (a2)), some (.ref (a3)), some (.int (i4)), none, none] [] (kc) (ks)) ∧ (¬ (x2 = x4) → X 1001 (n) H3 [some (.float 300), some (.ref (a1)), some (.ref (a2)), some (.ref (a3)), some (.int (i4)), none, none] [.int ((0 : Int32))] (kc) (ks))))) : gG d (mL_law S) mc ms X 989 n H [some (.float 300), some (.ref (a1)), some (.ref (a2)), some (.ref (a3)), some (.int (i4)), none, none] [] kc ks := by
  refine gG_aload_n dL_law_989 rfl rfl ?_
  obtain ⟨hk1, hk2, hrc, d2, P2, hdd, hC, h⟩ := h
  refine gG_cvi (As := []) (st := []) dL_law_990 mV_L_151 hdd hrc rfl rfl (Nat.le_of_ble_eq_true rfl) (Nat.le_refl _) ⟨hk1, hk2⟩ hC (fun H1 x2 hp => ?_)
  have h := h H1 x2 hp
  refine gG_aload_n dL_law_993 rfl rfl ?_
  obtain ⟨hk1, hk2, hrc, d2, P2, hdd, hC, h⟩ := h
  refine gG_cvi (As := []) (st := [.int (x2)]) dL_law_994 mV_L_154 hdd hrc rfl rfl (Nat.le_of_ble_eq_true rfl) (Nat.le_refl _) ⟨hk1, hk2⟩ hC (fun H3 x4 hp => ?_)
  have h := h H3 x4 hp
  refine gG_ic_eq (tgt := 1411) dL_law_997 (by decide) (fun c => ?_) (fun c => ?_)
  · have h := h.1 c
    refine gG_locals ?_ h
    exact ⟨rfl, ⟨rfl, ⟨rfl, ⟨rfl, ⟨rfl, trivial⟩⟩⟩⟩⟩
  · have h := h.2 c
    refine gG_iconst (v := 0) dL_law_1000 (by decide) ?_
    refine gG_exit h
theorem kL_law_1002 {S : Nat × (Nat → Int32)} {d n kc ks mc ms : Nat} {H : gHp} {X : gX} {a1 : Nat} {a2 : Nat} {a3 : Nat} {i4 : Int32} (h : vp_in ((i4 + (1 : Int32))) S.1 ∧ (vp_in ((i4 + (2 : Int32))) S.1 ∧ (kc ≤ mc ∧ ks ≤ ms ∧ (∃ fs, H (a1) = .inr (11, fs)) ∧ g_ci d mX11_aim (n) H [.ref (a1), .int ((S.2 (Int32.toNatClampNeg ((i4 + (1 : Int32)))))), .int ((S.2 (Int32.toNatClampNeg ((i4 + (2 : Int32))))))] (fun H1 x2 => vp_in ((i4 + (1 : Int32))) S.1 ∧ (vp_in ((i4 + (2 : Int32))) S.1 ∧ (kc ≤ mc ∧ ks ≤ ms ∧ (∃ fs, H1 (a2) = .inr (12, fs)) ∧ g_ci d mX12_aim (n) H1 [.ref (a2), .int ((S.2 (Int32.toNatClampNeg ((i4 + (1 : Int32)))))), .int ((S.2 (Int32.toNatClampNeg ((i4 + (2 : Int32))))))] (fun H3 x4 => (x2 = x4 → gG d (mL_law S) mc ms X 1411 (n) H3 [some (.float 300), some (.ref (a1)), some (.ref (a2)), some (.ref (a3)), some (.int (i4)), none, none] [] (kc) (ks)) ∧ (¬ (x2 = x4) → X 1038 (n) H3 [some (.float 300), some (.ref (a1)), some (.ref (a2)), some (.ref (a3)), some (.int (i4)), none, none] [.int ((0 : Int32))] (kc) (ks))))))))) : gG d (mL_law S) mc ms X 1002 n H [some (.float 300), some (.ref (a1)), some (.ref (a2)), some (.ref (a3)), some (.int (i4)), none, none] [] kc ks := by
  refine gG_aload_n dL_law_1002 rfl rfl ?_
  refine gG_aload_nT dL_law_1003 rfl rfl ?_
  refine gG_iload dL_law_1004 rfl ?_
  refine gG_iconst (v := 1) dL_law_1006 (by decide) ?_
  refine gG_iadd dL_law_1007 ?_
  obtain ⟨e1, h⟩ := h
  refine gG_sld rfl dL_law_1008 e1 ?_
  refine gG_aload_nT dL_law_1009 rfl rfl ?_
  refine gG_iload dL_law_1010 rfl ?_
  refine gG_iconst (v := 2) dL_law_1012 (by decide) ?_
  refine gG_iadd dL_law_1013 ?_
  obtain ⟨e1, h⟩ := h
  refine gG_sld rfl dL_law_1014 e1 ?_
  obtain ⟨hk1, hk2, hrc, d2, P2, hdd, hC, h⟩ := h
  refine gG_cvi (As := [.int ((S.2 (Int32.toNatClampNeg ((i4 + (1 : Int32)))))), .int ((S.2 (Int32.toNatClampNeg ((i4 + (2 : Int32))))))]) (st := []) dL_law_1015 mV_L_155 hdd hrc rfl rfl (Nat.le_of_ble_eq_true rfl) (Nat.le_refl _) ⟨hk1, hk2⟩ hC (fun H1 x2 hp => ?_)
  have h := h H1 x2 hp
  refine gG_aload_n dL_law_1018 rfl rfl ?_
  refine gG_aload_nT dL_law_1019 rfl rfl ?_
  refine gG_iload dL_law_1020 rfl ?_
  refine gG_iconst (v := 1) dL_law_1022 (by decide) ?_
  refine gG_iadd dL_law_1023 ?_
  obtain ⟨e1, h⟩ := h
  refine gG_sld rfl dL_law_1024 e1 ?_
  refine gG_aload_nT dL_law_1025 rfl rfl ?_
  refine gG_iload dL_law_1026 rfl ?_
  refine gG_iconst (v := 2) dL_law_1028 (by decide) ?_
  refine gG_iadd dL_law_1029 ?_
  obtain ⟨e1, h⟩ := h
  refine gG_sld rfl dL_law_1030 e1 ?_
  obtain ⟨hk1, hk2, hrc, d2, P2, hdd, hC, h⟩ := h
  refine gG_cvi (As := [.int ((S.2 (Int32.toNatClampNeg ((i4 + (1 : Int32)))))), .int ((S.2 (Int32.toNatClampNeg ((i4 + (2 : Int32))))))]) (st := [.int (x2)]) dL_law_1031 mV_L_158 hdd hrc rfl rfl (Nat.le_of_ble_eq_true rfl) (Nat.le_refl _) ⟨hk1, hk2⟩ hC (fun H3 x4 hp => ?_)
  have h := h H3 x4 hp
  refine gG_ic_eq (tgt := 1411) dL_law_1034 (by decide) (fun c => ?_) (fun c => ?_)
  · have h := h.1 c
    refine gG_locals ?_ h
    exact ⟨rfl, ⟨rfl, ⟨rfl, ⟨rfl, ⟨rfl, trivial⟩⟩⟩⟩⟩
  · have h := h.2 c
    refine gG_iconst (v := 0) dL_law_1037 (by decide) ?_
    refine gG_exit h
theorem kL_law_1039 {S : Nat × (Nat → Int32)} {d n kc ks mc ms : Nat} {H : gHp} {X : gX} {a1 : Nat} {a2 : Nat} {a3 : Nat} {i4 : Int32} (h : vp_in ((i4 + (1 : Int32))) S.1 ∧ (kc ≤ mc ∧ ks ≤ ms ∧ (∃ fs, H (a1) = .inr (11, fs)) ∧ g_ci d mX11_hush (n) H [.ref (a1), .int ((S.2 (Int32.toNatClampNeg ((i4 + (1 : Int32))))))] (fun H1 x2 => vp_in ((i4 + (1 : Int32))) S.1 ∧ (kc ≤ mc ∧ ks ≤ ms ∧ (∃ fs, H1 (a2) = .inr (12, fs)) ∧ g_ci d mX12_hush (n) H1 [.ref (a2), .int ((S.2 (Int32.toNatClampNeg ((i4 + (1 : Int32))))))] (fun H3 x4 => (x2 = x4 → gG d (mL_law S) mc ms X 1411 (n) H3 [some (.float 300), some (.ref (a1)), some (.ref (a2)), some (.ref (a3)), some (.int (i4)), none, none] [] (kc) (ks)) ∧ (¬ (x2 = x4) → X 1063 (n) H3 [some (.float 300), some (.ref (a1)), some (.ref (a2)), some (.ref (a3)), some (.int (i4)), none, none] [.int ((0 : Int32))] (kc) (ks))))))) : gG d (mL_law S) mc ms X 1039 n H [some (.float 300), some (.ref (a1)), some (.ref (a2)), some (.ref (a3)), some (.int (i4)), none, none] [] kc ks := by
  refine gG_aload_n dL_law_1039 rfl rfl ?_
  refine gG_aload_nT dL_law_1040 rfl rfl ?_
  refine gG_iload dL_law_1041 rfl ?_
  refine gG_iconst (v := 1) dL_law_1043 (by decide) ?_
  refine gG_iadd dL_law_1044 ?_
  obtain ⟨e1, h⟩ := h
  refine gG_sld rfl dL_law_1045 e1 ?_
  obtain ⟨hk1, hk2, hrc, d2, P2, hdd, hC, h⟩ := h
  refine gG_cvi (As := [.int ((S.2 (Int32.toNatClampNeg ((i4 + (1 : Int32))))))]) (st := []) dL_law_1046 mV_L_159 hdd hrc rfl rfl (Nat.le_of_ble_eq_true rfl) (Nat.le_refl _) ⟨hk1, hk2⟩ hC (fun H1 x2 hp => ?_)
  have h := h H1 x2 hp
  refine gG_aload_n dL_law_1049 rfl rfl ?_
  refine gG_aload_nT dL_law_1050 rfl rfl ?_
  refine gG_iload dL_law_1051 rfl ?_
  refine gG_iconst (v := 1) dL_law_1053 (by decide) ?_
  refine gG_iadd dL_law_1054 ?_
  obtain ⟨e1, h⟩ := h
  refine gG_sld rfl dL_law_1055 e1 ?_
  obtain ⟨hk1, hk2, hrc, d2, P2, hdd, hC, h⟩ := h
  refine gG_cvi (As := [.int ((S.2 (Int32.toNatClampNeg ((i4 + (1 : Int32))))))]) (st := [.int (x2)]) dL_law_1056 mV_L_162 hdd hrc rfl rfl (Nat.le_of_ble_eq_true rfl) (Nat.le_refl _) ⟨hk1, hk2⟩ hC (fun H3 x4 hp => ?_)
  have h := h H3 x4 hp
  refine gG_ic_eq (tgt := 1411) dL_law_1059 (by decide) (fun c => ?_) (fun c => ?_)
  · have h := h.1 c
    refine gG_locals ?_ h
    exact ⟨rfl, ⟨rfl, ⟨rfl, ⟨rfl, ⟨rfl, trivial⟩⟩⟩⟩⟩
  · have h := h.2 c
    refine gG_iconst (v := 0) dL_law_1062 (by decide) ?_
    refine gG_exit h
theorem kL_law_1064 {S : Nat × (Nat → Int32)} {d n kc ks mc ms : Nat} {H : gHp} {X : gX} {a1 : Nat} {a2 : Nat} {a3 : Nat} {i4 : Int32} (h : vp_in ((i4 + (1 : Int32))) S.1 ∧ (vp_in ((i4 + (2 : Int32))) S.1 ∧ (((S.2 (Int32.toNatClampNeg ((i4 + (2 : Int32))))) = 0 → kc ≤ mc ∧ ks ≤ ms ∧ (∃ fs, H (a1) = .inr (11, fs)) ∧ g_cz d mX11_see (n) H [.ref (a1), .int ((S.2 (Int32.toNatClampNeg ((i4 + (1 : Int32)))))), .int ((0 : Int32))] (fun H1 b2 => vp_in ((i4 + (1 : Int32))) S.1 ∧ (vp_in ((i4 + (2 : Int32))) S.1 ∧ (((S.2 (Int32.toNatClampNeg ((i4 + (2 : Int32))))) = 0 → kc ≤ mc ∧ ks ≤ ms ∧ (∃ fs, H1 (a2) = .inr (12, fs)) ∧ g_cz d mX12_see (n) H1 [.ref (a2), .int ((S.2 (Int32.toNatClampNeg ((i4 + (1 : Int32)))))), .int ((0 : Int32))] (fun H3 b4 => ((g_b b2) = (g_b b4) → gG d (mL_law S) mc ms X 1411 (n) H3 [some (.float 300), some (.ref (a1)), some (.ref (a2)), some (.ref (a3)), some (.int (i4)), none, none] [] (kc) (ks)) ∧ (¬ ((g_b b2) = (g_b b4)) → X 1116 (n) H3 [some (.float 300), some (.ref (a1)), some (.ref (a2)), some (.ref (a3)), some (.int (i4)), none, none] [.int ((0 : Int32))] (kc) (ks)))) ∧ (¬ ((S.2 (Int32.toNatClampNeg ((i4 + (2 : Int32))))) = 0) → kc ≤ mc ∧ ks ≤ ms ∧ (∃ fs, H1 (a2) = .inr (12, fs)) ∧ g_cz d mX12_see (n) H1 [.ref (a2), .int ((S.2 (Int32.toNatClampNeg ((i4 + (1 : Int32)))))), .int ((1 : Int32))] (fun H5 b6 => ((g_b b2) = (g_b b6) → gG d (mL_law S) mc ms X 1411 (n) H5 [some (.float 300), some (.ref (a1)), some (.ref (a2)), some (.ref (a3)), some (.int (i4)), none, none] [] (kc) (ks)) ∧ (¬ ((g_b b2) = (g_b b6)) → X 1116 (n) H5 [some (.float 300), some (.ref (a1)), some (.ref (a2)), some (.ref (a3)), some (.int (i4)), none, none] [.int ((0 : Int32))] (kc) (ks)))))))) ∧ (¬ ((S.2 (Int32.toNatClampNeg ((i4 + (2 : Int32))))) = 0) → kc ≤ mc ∧ ks ≤ ms ∧ (∃ fs, H (a1) = .inr (11, fs)) ∧ g_cz d mX11_see (n) H [.ref (a1), .int ((S.2 (Int32.toNatClampNeg ((i4 + (1 : Int32)))))), .int ((1 : Int32))] (fun H7 b8 => vp_in ((i4 + (1 : Int32))) S.1 ∧ (vp_in ((i4 + (2 : Int32))) S.1 ∧ (((S.2 (Int32.toNatClampNeg ((i4 + (2 : Int32))))) = 0 → kc ≤ mc ∧ ks ≤ ms ∧ (∃ fs, H7 (a2) = .inr (12, fs)) ∧ g_cz d mX12_see (n) H7 [.ref (a2), .int ((S.2 (Int32.toNatClampNeg ((i4 + (1 : Int32)))))), .int ((0 : Int32))] (fun H9 b10 => ((g_b b8) = (g_b b10) → gG d (mL_law S) mc ms X 1411 (n) H9 [some (.float 300), some (.ref (a1)), some (.ref (a2)), some (.ref (a3)), some (.int (i4)), none, none] [] (kc) (ks)) ∧ (¬ ((g_b b8) = (g_b b10)) → X 1116 (n) H9 [some (.float 300), some (.ref (a1)), some (.ref (a2)), some (.ref (a3)), some (.int (i4)), none, none] [.int ((0 : Int32))] (kc) (ks)))) ∧ (¬ ((S.2 (Int32.toNatClampNeg ((i4 + (2 : Int32))))) = 0) → kc ≤ mc ∧ ks ≤ ms ∧ (∃ fs, H7 (a2) = .inr (12, fs)) ∧ g_cz d mX12_see (n) H7 [.ref (a2), .int ((S.2 (Int32.toNatClampNeg ((i4 + (1 : Int32)))))), .int ((1 : Int32))] (fun H11 b12 => ((g_b b8) = (g_b b12) → gG d (mL_law S) mc ms X 1411 (n) H11 [some (.float 300), some (.ref (a1)), some (.ref (a2)), some (.ref (a3)), some (.int (i4)), none, none] [] (kc) (ks)) ∧ (¬ ((g_b b8) = (g_b b12)) → X 1116 (n) H11 [some (.float 300), some (.ref (a1)), some (.ref (a2)), some (.ref (a3)), some (.int (i4)), none, none] [.int ((0 : Int32))] (kc) (ks))))))))))) : gG d (mL_law S) mc ms X 1064 n H [some (.float 300), some (.ref (a1)), some (.ref (a2)), some (.ref (a3)), some (.int (i4)), none, none] [] kc ks := by
  refine gG_aload_n dL_law_1064 rfl rfl ?_
  refine gG_aload_nT dL_law_1065 rfl rfl ?_
  refine gG_iload dL_law_1066 rfl ?_
  refine gG_iconst (v := 1) dL_law_1068 (by decide) ?_
  refine gG_iadd dL_law_1069 ?_
  obtain ⟨e1, h⟩ := h
  refine gG_sld rfl dL_law_1070 e1 ?_
  refine gG_aload_nT dL_law_1071 rfl rfl ?_
  refine gG_iload dL_law_1072 rfl ?_
  refine gG_iconst (v := 2) dL_law_1074 (by decide) ?_
  refine gG_iadd dL_law_1075 ?_
  obtain ⟨e1, h⟩ := h
  refine gG_sld rfl dL_law_1076 e1 ?_
  refine gG_if_eq (tgt := 1084) dL_law_1077 (by decide) (fun c => ?_) (fun c => ?_)
  · have h := h.1 c
    refine gG_iconst (v := 0) dL_law_1084 (by decide) ?_
    obtain ⟨hk1, hk2, hrc, d2, P2, hdd, hC, h⟩ := h
    refine gG_cvi (As := [.int ((S.2 (Int32.toNatClampNeg ((i4 + (1 : Int32)))))), .int ((0 : Int32))]) (st := []) dL_law_1085 mV_L_163 hdd hrc rfl rfl (Nat.le_of_ble_eq_true rfl) (Nat.le_refl _) ⟨hk1, hk2⟩ hC (fun H1 x9 hp => ?_)
    obtain ⟨b2, rfl, hp⟩ := hp
    have h := h H1 b2 hp
    refine gG_aload_n dL_law_1088 rfl rfl ?_
    refine gG_aload_nT dL_law_1089 rfl rfl ?_
    refine gG_iload dL_law_1090 rfl ?_
    refine gG_iconst (v := 1) dL_law_1092 (by decide) ?_
    refine gG_iadd dL_law_1093 ?_
    obtain ⟨e1, h⟩ := h
    refine gG_sld rfl dL_law_1094 e1 ?_
    refine gG_aload_nT dL_law_1095 rfl rfl ?_
    refine gG_iload dL_law_1096 rfl ?_
    refine gG_iconst (v := 2) dL_law_1098 (by decide) ?_
    refine gG_iadd dL_law_1099 ?_
    obtain ⟨e1, h⟩ := h
    refine gG_sld rfl dL_law_1100 e1 ?_
    refine gG_if_eq (tgt := 1108) dL_law_1101 (by decide) (fun c => ?_) (fun c => ?_)
    · have h := h.1 c
      refine gG_iconst (v := 0) dL_law_1108 (by decide) ?_
      obtain ⟨hk1, hk2, hrc, d2, P2, hdd, hC, h⟩ := h
      refine gG_cvi (As := [.int ((S.2 (Int32.toNatClampNeg ((i4 + (1 : Int32)))))), .int ((0 : Int32))]) (st := [.int (g_b b2)]) dL_law_1109 mV_L_167 hdd hrc rfl rfl (Nat.le_of_ble_eq_true rfl) (Nat.le_refl _) ⟨hk1, hk2⟩ hC (fun H3 x9 hp => ?_)
      obtain ⟨b4, rfl, hp⟩ := hp
      have h := h H3 b4 hp
      refine gG_ic_eq (tgt := 1411) dL_law_1112 (by decide) (fun c => ?_) (fun c => ?_)
      · have h := h.1 c
        refine gG_locals ?_ h
        exact ⟨rfl, ⟨rfl, ⟨rfl, ⟨rfl, ⟨rfl, trivial⟩⟩⟩⟩⟩
      · have h := h.2 c
        refine gG_iconst (v := 0) dL_law_1115 (by decide) ?_
        refine gG_exit h
    · have h := h.2 c
      refine gG_iconst (v := 1) dL_law_1104 (by decide) ?_
      refine gG_goto (tgt := 1109) dL_law_1105 (by decide) ?_
      obtain ⟨hk1, hk2, hrc, d2, P2, hdd, hC, h⟩ := h
      refine gG_cvi (As := [.int ((S.2 (Int32.toNatClampNeg ((i4 + (1 : Int32)))))), .int ((1 : Int32))]) (st := [.int (g_b b2)]) dL_law_1109 mV_L_167 hdd hrc rfl rfl (Nat.le_of_ble_eq_true rfl) (Nat.le_refl _) ⟨hk1, hk2⟩ hC (fun H5 x9 hp => ?_)
      obtain ⟨b6, rfl, hp⟩ := hp
      have h := h H5 b6 hp
      refine gG_ic_eq (tgt := 1411) dL_law_1112 (by decide) (fun c => ?_) (fun c => ?_)
      · have h := h.1 c
        refine gG_locals ?_ h
        exact ⟨rfl, ⟨rfl, ⟨rfl, ⟨rfl, ⟨rfl, trivial⟩⟩⟩⟩⟩
      · have h := h.2 c
        refine gG_iconst (v := 0) dL_law_1115 (by decide) ?_
        refine gG_exit h
  · have h := h.2 c
    refine gG_iconst (v := 1) dL_law_1080 (by decide) ?_
    refine gG_goto (tgt := 1085) dL_law_1081 (by decide) ?_
    obtain ⟨hk1, hk2, hrc, d2, P2, hdd, hC, h⟩ := h
    refine gG_cvi (As := [.int ((S.2 (Int32.toNatClampNeg ((i4 + (1 : Int32)))))), .int ((1 : Int32))]) (st := []) dL_law_1085 mV_L_163 hdd hrc rfl rfl (Nat.le_of_ble_eq_true rfl) (Nat.le_refl _) ⟨hk1, hk2⟩ hC (fun H7 x9 hp => ?_)
    obtain ⟨b8, rfl, hp⟩ := hp
    have h := h H7 b8 hp
    refine gG_aload_n dL_law_1088 rfl rfl ?_
    refine gG_aload_nT dL_law_1089 rfl rfl ?_
    refine gG_iload dL_law_1090 rfl ?_
    refine gG_iconst (v := 1) dL_law_1092 (by decide) ?_
    refine gG_iadd dL_law_1093 ?_
    obtain ⟨e1, h⟩ := h
    refine gG_sld rfl dL_law_1094 e1 ?_
    refine gG_aload_nT dL_law_1095 rfl rfl ?_
    refine gG_iload dL_law_1096 rfl ?_
    refine gG_iconst (v := 2) dL_law_1098 (by decide) ?_
    refine gG_iadd dL_law_1099 ?_
    obtain ⟨e1, h⟩ := h
    refine gG_sld rfl dL_law_1100 e1 ?_
    refine gG_if_eq (tgt := 1108) dL_law_1101 (by decide) (fun c => ?_) (fun c => ?_)
    · have h := h.1 c
      refine gG_iconst (v := 0) dL_law_1108 (by decide) ?_
      obtain ⟨hk1, hk2, hrc, d2, P2, hdd, hC, h⟩ := h
      refine gG_cvi (As := [.int ((S.2 (Int32.toNatClampNeg ((i4 + (1 : Int32)))))), .int ((0 : Int32))]) (st := [.int (g_b b8)]) dL_law_1109 mV_L_167 hdd hrc rfl rfl (Nat.le_of_ble_eq_true rfl) (Nat.le_refl _) ⟨hk1, hk2⟩ hC (fun H9 x9 hp => ?_)
      obtain ⟨b10, rfl, hp⟩ := hp
      have h := h H9 b10 hp
      refine gG_ic_eq (tgt := 1411) dL_law_1112 (by decide) (fun c => ?_) (fun c => ?_)
      · have h := h.1 c
        refine gG_locals ?_ h
        exact ⟨rfl, ⟨rfl, ⟨rfl, ⟨rfl, ⟨rfl, trivial⟩⟩⟩⟩⟩
      · have h := h.2 c
        refine gG_iconst (v := 0) dL_law_1115 (by decide) ?_
        refine gG_exit h
    · have h := h.2 c
      refine gG_iconst (v := 1) dL_law_1104 (by decide) ?_
      refine gG_goto (tgt := 1109) dL_law_1105 (by decide) ?_
      obtain ⟨hk1, hk2, hrc, d2, P2, hdd, hC, h⟩ := h
      refine gG_cvi (As := [.int ((S.2 (Int32.toNatClampNeg ((i4 + (1 : Int32)))))), .int ((1 : Int32))]) (st := [.int (g_b b8)]) dL_law_1109 mV_L_167 hdd hrc rfl rfl (Nat.le_of_ble_eq_true rfl) (Nat.le_refl _) ⟨hk1, hk2⟩ hC (fun H11 x9 hp => ?_)
      obtain ⟨b12, rfl, hp⟩ := hp
      have h := h H11 b12 hp
      refine gG_ic_eq (tgt := 1411) dL_law_1112 (by decide) (fun c => ?_) (fun c => ?_)
      · have h := h.1 c
        refine gG_locals ?_ h
        exact ⟨rfl, ⟨rfl, ⟨rfl, ⟨rfl, ⟨rfl, trivial⟩⟩⟩⟩⟩
      · have h := h.2 c
        refine gG_iconst (v := 0) dL_law_1115 (by decide) ?_
        refine gG_exit h
theorem kL_law_1117 {S : Nat × (Nat → Int32)} {d n kc ks mc ms : Nat} {H : gHp} {X : gX} {a1 : Nat} {a2 : Nat} {a3 : Nat} {i4 : Int32} (h : kc ≤ mc ∧ ks ≤ ms ∧ (∃ fs, H (a1) = .inr (11, fs)) ∧ g_ci d mX11_rains (n) H [.ref (a1)] (fun H1 x2 => kc ≤ mc ∧ ks ≤ ms ∧ (∃ fs, H1 (a2) = .inr (12, fs)) ∧ g_ci d mX12_rains (n) H1 [.ref (a2)] (fun H3 x4 => (x2 = x4 → gG d (mL_law S) mc ms X 1411 (n) H3 [some (.float 300), some (.ref (a1)), some (.ref (a2)), some (.ref (a3)), some (.int (i4)), none, none] [] (kc) (ks)) ∧ (¬ (x2 = x4) → X 1129 (n) H3 [some (.float 300), some (.ref (a1)), some (.ref (a2)), some (.ref (a3)), some (.int (i4)), none, none] [.int ((0 : Int32))] (kc) (ks))))) : gG d (mL_law S) mc ms X 1117 n H [some (.float 300), some (.ref (a1)), some (.ref (a2)), some (.ref (a3)), some (.int (i4)), none, none] [] kc ks := by
  refine gG_aload_n dL_law_1117 rfl rfl ?_
  obtain ⟨hk1, hk2, hrc, d2, P2, hdd, hC, h⟩ := h
  refine gG_cvi (As := []) (st := []) dL_law_1118 mV_L_168 hdd hrc rfl rfl (Nat.le_of_ble_eq_true rfl) (Nat.le_refl _) ⟨hk1, hk2⟩ hC (fun H1 x2 hp => ?_)
  have h := h H1 x2 hp
  refine gG_aload_n dL_law_1121 rfl rfl ?_
  obtain ⟨hk1, hk2, hrc, d2, P2, hdd, hC, h⟩ := h
  refine gG_cvi (As := []) (st := [.int (x2)]) dL_law_1122 mV_L_171 hdd hrc rfl rfl (Nat.le_of_ble_eq_true rfl) (Nat.le_refl _) ⟨hk1, hk2⟩ hC (fun H3 x4 hp => ?_)
  have h := h H3 x4 hp
  refine gG_ic_eq (tgt := 1411) dL_law_1125 (by decide) (fun c => ?_) (fun c => ?_)
  · have h := h.1 c
    refine gG_locals ?_ h
    exact ⟨rfl, ⟨rfl, ⟨rfl, ⟨rfl, ⟨rfl, trivial⟩⟩⟩⟩⟩
  · have h := h.2 c
    refine gG_iconst (v := 0) dL_law_1128 (by decide) ?_
    refine gG_exit h
theorem kL_law_1130 {S : Nat × (Nat → Int32)} {d n kc ks mc ms : Nat} {H : gHp} {X : gX} {a1 : Nat} {a2 : Nat} {a3 : Nat} {i4 : Int32} (h : kc ≤ mc ∧ ks ≤ ms ∧ (∃ fs, H (a1) = .inr (11, fs)) ∧ g_ci d mX11_look (n) H [.ref (a1)] (fun H1 x2 => kc ≤ mc ∧ ks ≤ ms ∧ (∃ fs, H1 (a2) = .inr (12, fs)) ∧ g_ci d mX12_look (n) H1 [.ref (a2)] (fun H3 x4 => (x2 = x4 → gG d (mL_law S) mc ms X 1411 (n) H3 [some (.float 300), some (.ref (a1)), some (.ref (a2)), some (.ref (a3)), some (.int (i4)), none, none] [] (kc) (ks)) ∧ (¬ (x2 = x4) → X 1142 (n) H3 [some (.float 300), some (.ref (a1)), some (.ref (a2)), some (.ref (a3)), some (.int (i4)), none, none] [.int ((0 : Int32))] (kc) (ks))))) : gG d (mL_law S) mc ms X 1130 n H [some (.float 300), some (.ref (a1)), some (.ref (a2)), some (.ref (a3)), some (.int (i4)), none, none] [] kc ks := by
  refine gG_aload_n dL_law_1130 rfl rfl ?_
  obtain ⟨hk1, hk2, hrc, d2, P2, hdd, hC, h⟩ := h
  refine gG_cvi (As := []) (st := []) dL_law_1131 mV_L_172 hdd hrc rfl rfl (Nat.le_of_ble_eq_true rfl) (Nat.le_refl _) ⟨hk1, hk2⟩ hC (fun H1 x2 hp => ?_)
  have h := h H1 x2 hp
  refine gG_aload_n dL_law_1134 rfl rfl ?_
  obtain ⟨hk1, hk2, hrc, d2, P2, hdd, hC, h⟩ := h
  refine gG_cvi (As := []) (st := [.int (x2)]) dL_law_1135 mV_L_175 hdd hrc rfl rfl (Nat.le_of_ble_eq_true rfl) (Nat.le_refl _) ⟨hk1, hk2⟩ hC (fun H3 x4 hp => ?_)
  have h := h H3 x4 hp
  refine gG_ic_eq (tgt := 1411) dL_law_1138 (by decide) (fun c => ?_) (fun c => ?_)
  · have h := h.1 c
    refine gG_locals ?_ h
    exact ⟨rfl, ⟨rfl, ⟨rfl, ⟨rfl, ⟨rfl, trivial⟩⟩⟩⟩⟩
  · have h := h.2 c
    refine gG_iconst (v := 0) dL_law_1141 (by decide) ?_
    refine gG_exit h
theorem kL_law_1143 {S : Nat × (Nat → Int32)} {d n kc ks mc ms : Nat} {H : gHp} {X : gX} {a1 : Nat} {a2 : Nat} {a3 : Nat} {i4 : Int32} (h : vp_in ((i4 + (1 : Int32))) S.1 ∧ (vp_in ((i4 + (2 : Int32))) S.1 ∧ (vp_in ((i4 + (3 : Int32))) S.1 ∧ (kc ≤ mc ∧ ks ≤ ms ∧ (∃ fs, H (a1) = .inr (11, fs)) ∧ g_ci d mX11_chance (n) H [.ref (a1), .int ((S.2 (Int32.toNatClampNeg ((i4 + (1 : Int32)))))), .int ((S.2 (Int32.toNatClampNeg ((i4 + (2 : Int32)))))), .int ((S.2 (Int32.toNatClampNeg ((i4 + (3 : Int32))))))] (fun H1 x2 => vp_in ((i4 + (1 : Int32))) S.1 ∧ (vp_in ((i4 + (2 : Int32))) S.1 ∧ (vp_in ((i4 + (3 : Int32))) S.1 ∧ (kc ≤ mc ∧ ks ≤ ms ∧ (∃ fs, H1 (a2) = .inr (12, fs)) ∧ g_ci d mX12_chance (n) H1 [.ref (a2), .int ((S.2 (Int32.toNatClampNeg ((i4 + (1 : Int32)))))), .int ((S.2 (Int32.toNatClampNeg ((i4 + (2 : Int32)))))), .int ((S.2 (Int32.toNatClampNeg ((i4 + (3 : Int32))))))] (fun H3 x4 => (x2 = x4 → gG d (mL_law S) mc ms X 1411 (n) H3 [some (.float 300), some (.ref (a1)), some (.ref (a2)), some (.ref (a3)), some (.int (i4)), none, none] [] (kc) (ks)) ∧ (¬ (x2 = x4) → X 1191 (n) H3 [some (.float 300), some (.ref (a1)), some (.ref (a2)), some (.ref (a3)), some (.int (i4)), none, none] [.int ((0 : Int32))] (kc) (ks))))))))))) : gG d (mL_law S) mc ms X 1143 n H [some (.float 300), some (.ref (a1)), some (.ref (a2)), some (.ref (a3)), some (.int (i4)), none, none] [] kc ks := by
  refine gG_aload_n dL_law_1143 rfl rfl ?_
  refine gG_aload_nT dL_law_1144 rfl rfl ?_
  refine gG_iload dL_law_1145 rfl ?_
  refine gG_iconst (v := 1) dL_law_1147 (by decide) ?_
  refine gG_iadd dL_law_1148 ?_
  obtain ⟨e1, h⟩ := h
  refine gG_sld rfl dL_law_1149 e1 ?_
  refine gG_aload_nT dL_law_1150 rfl rfl ?_
  refine gG_iload dL_law_1151 rfl ?_
  refine gG_iconst (v := 2) dL_law_1153 (by decide) ?_
  refine gG_iadd dL_law_1154 ?_
  obtain ⟨e1, h⟩ := h
  refine gG_sld rfl dL_law_1155 e1 ?_
  refine gG_aload_nT dL_law_1156 rfl rfl ?_
  refine gG_iload dL_law_1157 rfl ?_
  refine gG_iconst (v := 3) dL_law_1159 (by decide) ?_
  refine gG_iadd dL_law_1160 ?_
  obtain ⟨e1, h⟩ := h
  refine gG_sld rfl dL_law_1161 e1 ?_
  obtain ⟨hk1, hk2, hrc, d2, P2, hdd, hC, h⟩ := h
  refine gG_cvi (As := [.int ((S.2 (Int32.toNatClampNeg ((i4 + (1 : Int32)))))), .int ((S.2 (Int32.toNatClampNeg ((i4 + (2 : Int32)))))), .int ((S.2 (Int32.toNatClampNeg ((i4 + (3 : Int32))))))]) (st := []) dL_law_1162 mV_L_176 hdd hrc rfl rfl (Nat.le_of_ble_eq_true rfl) (Nat.le_refl _) ⟨hk1, hk2⟩ hC (fun H1 x2 hp => ?_)
  have h := h H1 x2 hp
  refine gG_aload_n dL_law_1165 rfl rfl ?_
  refine gG_aload_nT dL_law_1166 rfl rfl ?_
  refine gG_iload dL_law_1167 rfl ?_
  refine gG_iconst (v := 1) dL_law_1169 (by decide) ?_
  refine gG_iadd dL_law_1170 ?_
  obtain ⟨e1, h⟩ := h
  refine gG_sld rfl dL_law_1171 e1 ?_
  refine gG_aload_nT dL_law_1172 rfl rfl ?_
  refine gG_iload dL_law_1173 rfl ?_
  refine gG_iconst (v := 2) dL_law_1175 (by decide) ?_
  refine gG_iadd dL_law_1176 ?_
  obtain ⟨e1, h⟩ := h
  refine gG_sld rfl dL_law_1177 e1 ?_
  refine gG_aload_nT dL_law_1178 rfl rfl ?_
  refine gG_iload dL_law_1179 rfl ?_
  refine gG_iconst (v := 3) dL_law_1181 (by decide) ?_
  refine gG_iadd dL_law_1182 ?_
  obtain ⟨e1, h⟩ := h
  refine gG_sld rfl dL_law_1183 e1 ?_
  obtain ⟨hk1, hk2, hrc, d2, P2, hdd, hC, h⟩ := h
  refine gG_cvi (As := [.int ((S.2 (Int32.toNatClampNeg ((i4 + (1 : Int32)))))), .int ((S.2 (Int32.toNatClampNeg ((i4 + (2 : Int32)))))), .int ((S.2 (Int32.toNatClampNeg ((i4 + (3 : Int32))))))]) (st := [.int (x2)]) dL_law_1184 mV_L_180 hdd hrc rfl rfl (Nat.le_of_ble_eq_true rfl) (Nat.le_refl _) ⟨hk1, hk2⟩ hC (fun H3 x4 hp => ?_)
  have h := h H3 x4 hp
  refine gG_ic_eq (tgt := 1411) dL_law_1187 (by decide) (fun c => ?_) (fun c => ?_)
  · have h := h.1 c
    refine gG_locals ?_ h
    exact ⟨rfl, ⟨rfl, ⟨rfl, ⟨rfl, ⟨rfl, trivial⟩⟩⟩⟩⟩
  · have h := h.2 c
    refine gG_iconst (v := 0) dL_law_1190 (by decide) ?_
    refine gG_exit h
theorem kL_law_1192 {S : Nat × (Nat → Int32)} {d n kc ks mc ms : Nat} {H : gHp} {X : gX} {a1 : Nat} {a2 : Nat} {a3 : Nat} {i4 : Int32} (h : vp_in ((i4 + (1 : Int32))) S.1 ∧ (vp_in ((i4 + (2 : Int32))) S.1 ∧ (vp_in ((i4 + (3 : Int32))) S.1 ∧ (vp_in ((i4 + (4 : Int32))) S.1 ∧ (gG d (mL_law S) mc ms X 1218 (n) H [some (.float 300), some (.ref (a1)), some (.ref (a2)), some (.ref (a3)), some (.int (i4)), none, none] [.ref (a3), .int ((S.2 (Int32.toNatClampNeg ((i4 + (4 : Int32)))))), .int ((S.2 (Int32.toNatClampNeg ((i4 + (3 : Int32)))))), .int ((S.2 (Int32.toNatClampNeg ((i4 + (2 : Int32)))))), .int ((S.2 (Int32.toNatClampNeg ((i4 + (1 : Int32)))))), .ref (a1)] (kc) (ks)))))) : gG d (mL_law S) mc ms X 1192 n H [some (.float 300), some (.ref (a1)), some (.ref (a2)), some (.ref (a3)), some (.int (i4)), none, none] [] kc ks := by
  refine gG_aload_n dL_law_1192 rfl rfl ?_
  refine gG_aload_nT dL_law_1193 rfl rfl ?_
  refine gG_iload dL_law_1194 rfl ?_
  refine gG_iconst (v := 1) dL_law_1196 (by decide) ?_
  refine gG_iadd dL_law_1197 ?_
  obtain ⟨e1, h⟩ := h
  refine gG_sld rfl dL_law_1198 e1 ?_
  refine gG_aload_nT dL_law_1199 rfl rfl ?_
  refine gG_iload dL_law_1200 rfl ?_
  refine gG_iconst (v := 2) dL_law_1202 (by decide) ?_
  refine gG_iadd dL_law_1203 ?_
  obtain ⟨e1, h⟩ := h
  refine gG_sld rfl dL_law_1204 e1 ?_
  refine gG_aload_nT dL_law_1205 rfl rfl ?_
  refine gG_iload dL_law_1206 rfl ?_
  refine gG_iconst (v := 3) dL_law_1208 (by decide) ?_
  refine gG_iadd dL_law_1209 ?_
  obtain ⟨e1, h⟩ := h
  refine gG_sld rfl dL_law_1210 e1 ?_
  refine gG_aload_nT dL_law_1211 rfl rfl ?_
  refine gG_iload dL_law_1212 rfl ?_
  refine gG_iconst (v := 4) dL_law_1214 (by decide) ?_
  refine gG_iadd dL_law_1215 ?_
  obtain ⟨e1, h⟩ := h
  refine gG_sld rfl dL_law_1216 e1 ?_
  refine gG_aload_n dL_law_1217 rfl rfl ?_
  refine gG_locals ?_ h
  exact ⟨rfl, ⟨rfl, ⟨rfl, ⟨rfl, ⟨rfl, trivial⟩⟩⟩⟩⟩
theorem kL_law_1284 {S : Nat × (Nat → Int32)} {d n kc ks mc ms : Nat} {H : gHp} {X : gX} {a1 : Nat} {a2 : Nat} {a3 : Nat} {i4 : Int32} (h : vp_in ((i4 + (1 : Int32))) S.1 ∧ (vp_in ((i4 + (2 : Int32))) S.1 ∧ (vp_in ((i4 + (3 : Int32))) S.1 ∧ (kc ≤ mc ∧ ks ≤ ms ∧ (∃ fs, H (a1) = .inr (11, fs)) ∧ g_ci d mX11_days (n) H [.ref (a1), .int ((S.2 (Int32.toNatClampNeg ((i4 + (1 : Int32)))))), .int ((S.2 (Int32.toNatClampNeg ((i4 + (2 : Int32)))))), .int ((S.2 (Int32.toNatClampNeg ((i4 + (3 : Int32))))))] (fun H1 x2 => vp_in ((i4 + (1 : Int32))) S.1 ∧ (vp_in ((i4 + (2 : Int32))) S.1 ∧ (vp_in ((i4 + (3 : Int32))) S.1 ∧ (kc ≤ mc ∧ ks ≤ ms ∧ (∃ fs, H1 (a2) = .inr (12, fs)) ∧ g_ci d mX12_days (n) H1 [.ref (a2), .int ((S.2 (Int32.toNatClampNeg ((i4 + (1 : Int32)))))), .int ((S.2 (Int32.toNatClampNeg ((i4 + (2 : Int32)))))), .int ((S.2 (Int32.toNatClampNeg ((i4 + (3 : Int32))))))] (fun H3 x4 => (x2 = x4 → gG d (mL_law S) mc ms X 1411 (n) H3 [some (.float 300), some (.ref (a1)), some (.ref (a2)), some (.ref (a3)), some (.int (i4)), none, none] [] (kc) (ks)) ∧ (¬ (x2 = x4) → X 1332 (n) H3 [some (.float 300), some (.ref (a1)), some (.ref (a2)), some (.ref (a3)), some (.int (i4)), none, none] [.int ((0 : Int32))] (kc) (ks))))))))))) : gG d (mL_law S) mc ms X 1284 n H [some (.float 300), some (.ref (a1)), some (.ref (a2)), some (.ref (a3)), some (.int (i4)), none, none] [] kc ks := by
  refine gG_aload_n dL_law_1284 rfl rfl ?_
  refine gG_aload_nT dL_law_1285 rfl rfl ?_
  refine gG_iload dL_law_1286 rfl ?_
  refine gG_iconst (v := 1) dL_law_1288 (by decide) ?_
  refine gG_iadd dL_law_1289 ?_
  obtain ⟨e1, h⟩ := h
  refine gG_sld rfl dL_law_1290 e1 ?_
  refine gG_aload_nT dL_law_1291 rfl rfl ?_
  refine gG_iload dL_law_1292 rfl ?_
  refine gG_iconst (v := 2) dL_law_1294 (by decide) ?_
  refine gG_iadd dL_law_1295 ?_
  obtain ⟨e1, h⟩ := h
  refine gG_sld rfl dL_law_1296 e1 ?_
  refine gG_aload_nT dL_law_1297 rfl rfl ?_
  refine gG_iload dL_law_1298 rfl ?_
  refine gG_iconst (v := 3) dL_law_1300 (by decide) ?_
  refine gG_iadd dL_law_1301 ?_
  obtain ⟨e1, h⟩ := h
  refine gG_sld rfl dL_law_1302 e1 ?_
  obtain ⟨hk1, hk2, hrc, d2, P2, hdd, hC, h⟩ := h
  refine gG_cvi (As := [.int ((S.2 (Int32.toNatClampNeg ((i4 + (1 : Int32)))))), .int ((S.2 (Int32.toNatClampNeg ((i4 + (2 : Int32)))))), .int ((S.2 (Int32.toNatClampNeg ((i4 + (3 : Int32))))))]) (st := []) dL_law_1303 mV_L_190 hdd hrc rfl rfl (Nat.le_of_ble_eq_true rfl) (Nat.le_refl _) ⟨hk1, hk2⟩ hC (fun H1 x2 hp => ?_)
  have h := h H1 x2 hp
  refine gG_aload_n dL_law_1306 rfl rfl ?_
  refine gG_aload_nT dL_law_1307 rfl rfl ?_
  refine gG_iload dL_law_1308 rfl ?_
  refine gG_iconst (v := 1) dL_law_1310 (by decide) ?_
  refine gG_iadd dL_law_1311 ?_
  obtain ⟨e1, h⟩ := h
  refine gG_sld rfl dL_law_1312 e1 ?_
  refine gG_aload_nT dL_law_1313 rfl rfl ?_
  refine gG_iload dL_law_1314 rfl ?_
  refine gG_iconst (v := 2) dL_law_1316 (by decide) ?_
  refine gG_iadd dL_law_1317 ?_
  obtain ⟨e1, h⟩ := h
  refine gG_sld rfl dL_law_1318 e1 ?_
  refine gG_aload_nT dL_law_1319 rfl rfl ?_
  refine gG_iload dL_law_1320 rfl ?_
  refine gG_iconst (v := 3) dL_law_1322 (by decide) ?_
  refine gG_iadd dL_law_1323 ?_
  obtain ⟨e1, h⟩ := h
  refine gG_sld rfl dL_law_1324 e1 ?_
  obtain ⟨hk1, hk2, hrc, d2, P2, hdd, hC, h⟩ := h
  refine gG_cvi (As := [.int ((S.2 (Int32.toNatClampNeg ((i4 + (1 : Int32)))))), .int ((S.2 (Int32.toNatClampNeg ((i4 + (2 : Int32)))))), .int ((S.2 (Int32.toNatClampNeg ((i4 + (3 : Int32))))))]) (st := [.int (x2)]) dL_law_1325 mV_L_193 hdd hrc rfl rfl (Nat.le_of_ble_eq_true rfl) (Nat.le_refl _) ⟨hk1, hk2⟩ hC (fun H3 x4 hp => ?_)
  have h := h H3 x4 hp
  refine gG_ic_eq (tgt := 1411) dL_law_1328 (by decide) (fun c => ?_) (fun c => ?_)
  · have h := h.1 c
    refine gG_locals ?_ h
    exact ⟨rfl, ⟨rfl, ⟨rfl, ⟨rfl, ⟨rfl, trivial⟩⟩⟩⟩⟩
  · have h := h.2 c
    refine gG_iconst (v := 0) dL_law_1331 (by decide) ?_
    refine gG_exit h
theorem kL_law_1333 {S : Nat × (Nat → Int32)} {d n kc ks mc ms : Nat} {H : gHp} {X : gX} {a1 : Nat} {a2 : Nat} {a3 : Nat} {i4 : Int32} (h : vp_in ((i4 + (1 : Int32))) S.1 ∧ (vp_in ((i4 + (2 : Int32))) S.1 ∧ (((S.2 (Int32.toNatClampNeg ((i4 + (2 : Int32))))) = 0 → kc ≤ mc ∧ ks ≤ ms ∧ (∃ fs, H (a1) = .inr (11, fs)) ∧ g_cz d mX11_mark (n) H [.ref (a1), .int ((S.2 (Int32.toNatClampNeg ((i4 + (1 : Int32)))))), .int ((0 : Int32))] (fun H1 b2 => vp_in ((i4 + (1 : Int32))) S.1 ∧ (vp_in ((i4 + (2 : Int32))) S.1 ∧ (((S.2 (Int32.toNatClampNeg ((i4 + (2 : Int32))))) = 0 → kc ≤ mc ∧ ks ≤ ms ∧ (∃ fs, H1 (a2) = .inr (12, fs)) ∧ g_cz d mX12_mark (n) H1 [.ref (a2), .int ((S.2 (Int32.toNatClampNeg ((i4 + (1 : Int32)))))), .int ((0 : Int32))] (fun H3 b4 => ((g_b b2) = (g_b b4) → gG d (mL_law S) mc ms X 1411 (n) H3 [some (.float 300), some (.ref (a1)), some (.ref (a2)), some (.ref (a3)), some (.int (i4)), none, none] [] (kc) (ks)) ∧ (¬ ((g_b b2) = (g_b b4)) → X 1385 (n) H3 [some (.float 300), some (.ref (a1)), some (.ref (a2)), some (.ref (a3)), some (.int (i4)), none, none] [.int ((0 : Int32))] (kc) (ks)))) ∧ (¬ ((S.2 (Int32.toNatClampNeg ((i4 + (2 : Int32))))) = 0) → kc ≤ mc ∧ ks ≤ ms ∧ (∃ fs, H1 (a2) = .inr (12, fs)) ∧ g_cz d mX12_mark (n) H1 [.ref (a2), .int ((S.2 (Int32.toNatClampNeg ((i4 + (1 : Int32)))))), .int ((1 : Int32))] (fun H5 b6 => ((g_b b2) = (g_b b6) → gG d (mL_law S) mc ms X 1411 (n) H5 [some (.float 300), some (.ref (a1)), some (.ref (a2)), some (.ref (a3)), some (.int (i4)), none, none] [] (kc) (ks)) ∧ (¬ ((g_b b2) = (g_b b6)) → X 1385 (n) H5 [some (.float 300), some (.ref (a1)), some (.ref (a2)), some (.ref (a3)), some (.int (i4)), none, none] [.int ((0 : Int32))] (kc) (ks)))))))) ∧ (¬ ((S.2 (Int32.toNatClampNeg ((i4 + (2 : Int32))))) = 0) → kc ≤ mc ∧ ks ≤ ms ∧ (∃ fs, H (a1) = .inr (11, fs)) ∧ g_cz d mX11_mark (n) H [.ref (a1), .int ((S.2 (Int32.toNatClampNeg ((i4 + (1 : Int32)))))), .int ((1 : Int32))] (fun H7 b8 => vp_in ((i4 + (1 : Int32))) S.1 ∧ (vp_in ((i4 + (2 : Int32))) S.1 ∧ (((S.2 (Int32.toNatClampNeg ((i4 + (2 : Int32))))) = 0 → kc ≤ mc ∧ ks ≤ ms ∧ (∃ fs, H7 (a2) = .inr (12, fs)) ∧ g_cz d mX12_mark (n) H7 [.ref (a2), .int ((S.2 (Int32.toNatClampNeg ((i4 + (1 : Int32)))))), .int ((0 : Int32))] (fun H9 b10 => ((g_b b8) = (g_b b10) → gG d (mL_law S) mc ms X 1411 (n) H9 [some (.float 300), some (.ref (a1)), some (.ref (a2)), some (.ref (a3)), some (.int (i4)), none, none] [] (kc) (ks)) ∧ (¬ ((g_b b8) = (g_b b10)) → X 1385 (n) H9 [some (.float 300), some (.ref (a1)), some (.ref (a2)), some (.ref (a3)), some (.int (i4)), none, none] [.int ((0 : Int32))] (kc) (ks)))) ∧ (¬ ((S.2 (Int32.toNatClampNeg ((i4 + (2 : Int32))))) = 0) → kc ≤ mc ∧ ks ≤ ms ∧ (∃ fs, H7 (a2) = .inr (12, fs)) ∧ g_cz d mX12_mark (n) H7 [.ref (a2), .int ((S.2 (Int32.toNatClampNeg ((i4 + (1 : Int32)))))), .int ((1 : Int32))] (fun H11 b12 => ((g_b b8) = (g_b b12) → gG d (mL_law S) mc ms X 1411 (n) H11 [some (.float 300), some (.ref (a1)), some (.ref (a2)), some (.ref (a3)), some (.int (i4)), none, none] [] (kc) (ks)) ∧ (¬ ((g_b b8) = (g_b b12)) → X 1385 (n) H11 [some (.float 300), some (.ref (a1)), some (.ref (a2)), some (.ref (a3)), some (.int (i4)), none, none] [.int ((0 : Int32))] (kc) (ks))))))))))) : gG d (mL_law S) mc ms X 1333 n H [some (.float 300), some (.ref (a1)), some (.ref (a2)), some (.ref (a3)), some (.int (i4)), none, none] [] kc ks := by
  refine gG_aload_n dL_law_1333 rfl rfl ?_
  refine gG_aload_nT dL_law_1334 rfl rfl ?_
  refine gG_iload dL_law_1335 rfl ?_
  refine gG_iconst (v := 1) dL_law_1337 (by decide) ?_
  refine gG_iadd dL_law_1338 ?_
  obtain ⟨e1, h⟩ := h
  refine gG_sld rfl dL_law_1339 e1 ?_
  refine gG_aload_nT dL_law_1340 rfl rfl ?_
  refine gG_iload dL_law_1341 rfl ?_
  refine gG_iconst (v := 2) dL_law_1343 (by decide) ?_
  refine gG_iadd dL_law_1344 ?_
  obtain ⟨e1, h⟩ := h
  refine gG_sld rfl dL_law_1345 e1 ?_
  refine gG_if_eq (tgt := 1353) dL_law_1346 (by decide) (fun c => ?_) (fun c => ?_)
  · have h := h.1 c
    refine gG_iconst (v := 0) dL_law_1353 (by decide) ?_
    obtain ⟨hk1, hk2, hrc, d2, P2, hdd, hC, h⟩ := h
    refine gG_cvi (As := [.int ((S.2 (Int32.toNatClampNeg ((i4 + (1 : Int32)))))), .int ((0 : Int32))]) (st := []) dL_law_1354 mV_L_194 hdd hrc rfl rfl (Nat.le_of_ble_eq_true rfl) (Nat.le_refl _) ⟨hk1, hk2⟩ hC (fun H1 x9 hp => ?_)
    obtain ⟨b2, rfl, hp⟩ := hp
    have h := h H1 b2 hp
    refine gG_aload_n dL_law_1357 rfl rfl ?_
    refine gG_aload_nT dL_law_1358 rfl rfl ?_
    refine gG_iload dL_law_1359 rfl ?_
    refine gG_iconst (v := 1) dL_law_1361 (by decide) ?_
    refine gG_iadd dL_law_1362 ?_
    obtain ⟨e1, h⟩ := h
    refine gG_sld rfl dL_law_1363 e1 ?_
    refine gG_aload_nT dL_law_1364 rfl rfl ?_
    refine gG_iload dL_law_1365 rfl ?_
    refine gG_iconst (v := 2) dL_law_1367 (by decide) ?_
    refine gG_iadd dL_law_1368 ?_
    obtain ⟨e1, h⟩ := h
    refine gG_sld rfl dL_law_1369 e1 ?_
    refine gG_if_eq (tgt := 1377) dL_law_1370 (by decide) (fun c => ?_) (fun c => ?_)
    · have h := h.1 c
      refine gG_iconst (v := 0) dL_law_1377 (by decide) ?_
      obtain ⟨hk1, hk2, hrc, d2, P2, hdd, hC, h⟩ := h
      refine gG_cvi (As := [.int ((S.2 (Int32.toNatClampNeg ((i4 + (1 : Int32)))))), .int ((0 : Int32))]) (st := [.int (g_b b2)]) dL_law_1378 mV_L_197 hdd hrc rfl rfl (Nat.le_of_ble_eq_true rfl) (Nat.le_refl _) ⟨hk1, hk2⟩ hC (fun H3 x9 hp => ?_)
      obtain ⟨b4, rfl, hp⟩ := hp
      have h := h H3 b4 hp
      refine gG_ic_eq (tgt := 1411) dL_law_1381 (by decide) (fun c => ?_) (fun c => ?_)
      · have h := h.1 c
        refine gG_locals ?_ h
        exact ⟨rfl, ⟨rfl, ⟨rfl, ⟨rfl, ⟨rfl, trivial⟩⟩⟩⟩⟩
      · have h := h.2 c
        refine gG_iconst (v := 0) dL_law_1384 (by decide) ?_
        refine gG_exit h
    · have h := h.2 c
      refine gG_iconst (v := 1) dL_law_1373 (by decide) ?_
      refine gG_goto (tgt := 1378) dL_law_1374 (by decide) ?_
      obtain ⟨hk1, hk2, hrc, d2, P2, hdd, hC, h⟩ := h
      refine gG_cvi (As := [.int ((S.2 (Int32.toNatClampNeg ((i4 + (1 : Int32)))))), .int ((1 : Int32))]) (st := [.int (g_b b2)]) dL_law_1378 mV_L_197 hdd hrc rfl rfl (Nat.le_of_ble_eq_true rfl) (Nat.le_refl _) ⟨hk1, hk2⟩ hC (fun H5 x9 hp => ?_)
      obtain ⟨b6, rfl, hp⟩ := hp
      have h := h H5 b6 hp
      refine gG_ic_eq (tgt := 1411) dL_law_1381 (by decide) (fun c => ?_) (fun c => ?_)
      · have h := h.1 c
        refine gG_locals ?_ h
        exact ⟨rfl, ⟨rfl, ⟨rfl, ⟨rfl, ⟨rfl, trivial⟩⟩⟩⟩⟩
      · have h := h.2 c
        refine gG_iconst (v := 0) dL_law_1384 (by decide) ?_
        refine gG_exit h
  · have h := h.2 c
    refine gG_iconst (v := 1) dL_law_1349 (by decide) ?_
    refine gG_goto (tgt := 1354) dL_law_1350 (by decide) ?_
    obtain ⟨hk1, hk2, hrc, d2, P2, hdd, hC, h⟩ := h
    refine gG_cvi (As := [.int ((S.2 (Int32.toNatClampNeg ((i4 + (1 : Int32)))))), .int ((1 : Int32))]) (st := []) dL_law_1354 mV_L_194 hdd hrc rfl rfl (Nat.le_of_ble_eq_true rfl) (Nat.le_refl _) ⟨hk1, hk2⟩ hC (fun H7 x9 hp => ?_)
    obtain ⟨b8, rfl, hp⟩ := hp
    have h := h H7 b8 hp
    refine gG_aload_n dL_law_1357 rfl rfl ?_
    refine gG_aload_nT dL_law_1358 rfl rfl ?_
    refine gG_iload dL_law_1359 rfl ?_
    refine gG_iconst (v := 1) dL_law_1361 (by decide) ?_
    refine gG_iadd dL_law_1362 ?_
    obtain ⟨e1, h⟩ := h
    refine gG_sld rfl dL_law_1363 e1 ?_
    refine gG_aload_nT dL_law_1364 rfl rfl ?_
    refine gG_iload dL_law_1365 rfl ?_
    refine gG_iconst (v := 2) dL_law_1367 (by decide) ?_
    refine gG_iadd dL_law_1368 ?_
    obtain ⟨e1, h⟩ := h
    refine gG_sld rfl dL_law_1369 e1 ?_
    refine gG_if_eq (tgt := 1377) dL_law_1370 (by decide) (fun c => ?_) (fun c => ?_)
    · have h := h.1 c
      refine gG_iconst (v := 0) dL_law_1377 (by decide) ?_
      obtain ⟨hk1, hk2, hrc, d2, P2, hdd, hC, h⟩ := h
      refine gG_cvi (As := [.int ((S.2 (Int32.toNatClampNeg ((i4 + (1 : Int32)))))), .int ((0 : Int32))]) (st := [.int (g_b b8)]) dL_law_1378 mV_L_197 hdd hrc rfl rfl (Nat.le_of_ble_eq_true rfl) (Nat.le_refl _) ⟨hk1, hk2⟩ hC (fun H9 x9 hp => ?_)
      obtain ⟨b10, rfl, hp⟩ := hp
      have h := h H9 b10 hp
      refine gG_ic_eq (tgt := 1411) dL_law_1381 (by decide) (fun c => ?_) (fun c => ?_)
      · have h := h.1 c
        refine gG_locals ?_ h
        exact ⟨rfl, ⟨rfl, ⟨rfl, ⟨rfl, ⟨rfl, trivial⟩⟩⟩⟩⟩
      · have h := h.2 c
        refine gG_iconst (v := 0) dL_law_1384 (by decide) ?_
        refine gG_exit h
    · have h := h.2 c
      refine gG_iconst (v := 1) dL_law_1373 (by decide) ?_
      refine gG_goto (tgt := 1378) dL_law_1374 (by decide) ?_
      obtain ⟨hk1, hk2, hrc, d2, P2, hdd, hC, h⟩ := h
      refine gG_cvi (As := [.int ((S.2 (Int32.toNatClampNeg ((i4 + (1 : Int32)))))), .int ((1 : Int32))]) (st := [.int (g_b b8)]) dL_law_1378 mV_L_197 hdd hrc rfl rfl (Nat.le_of_ble_eq_true rfl) (Nat.le_refl _) ⟨hk1, hk2⟩ hC (fun H11 x9 hp => ?_)
      obtain ⟨b12, rfl, hp⟩ := hp
      have h := h H11 b12 hp
      refine gG_ic_eq (tgt := 1411) dL_law_1381 (by decide) (fun c => ?_) (fun c => ?_)
      · have h := h.1 c
        refine gG_locals ?_ h
        exact ⟨rfl, ⟨rfl, ⟨rfl, ⟨rfl, ⟨rfl, trivial⟩⟩⟩⟩⟩
      · have h := h.2 c
        refine gG_iconst (v := 0) dL_law_1384 (by decide) ?_
        refine gG_exit h
theorem kL_law_1386 {S : Nat × (Nat → Int32)} {d n kc ks mc ms : Nat} {H : gHp} {X : gX} {a1 : Nat} {a2 : Nat} {a3 : Nat} {i4 : Int32} (h : vp_in ((i4 + (1 : Int32))) S.1 ∧ (kc ≤ mc ∧ ks ≤ ms ∧ (∃ fs, H (a1) = .inr (11, fs)) ∧ g_ci d mX11_count (n) H [.ref (a1), .int ((S.2 (Int32.toNatClampNeg ((i4 + (1 : Int32))))))] (fun H1 x2 => vp_in ((i4 + (1 : Int32))) S.1 ∧ (kc ≤ mc ∧ ks ≤ ms ∧ (∃ fs, H1 (a2) = .inr (12, fs)) ∧ g_ci d mX12_count (n) H1 [.ref (a2), .int ((S.2 (Int32.toNatClampNeg ((i4 + (1 : Int32))))))] (fun H3 x4 => (x2 = x4 → gG d (mL_law S) mc ms X 1411 (n) H3 [some (.float 300), some (.ref (a1)), some (.ref (a2)), some (.ref (a3)), some (.int (i4)), none, none] [] (kc) (ks)) ∧ (¬ (x2 = x4) → X 1410 (n) H3 [some (.float 300), some (.ref (a1)), some (.ref (a2)), some (.ref (a3)), some (.int (i4)), none, none] [.int ((0 : Int32))] (kc) (ks))))))) : gG d (mL_law S) mc ms X 1386 n H [some (.float 300), some (.ref (a1)), some (.ref (a2)), some (.ref (a3)), some (.int (i4)), none, none] [] kc ks := by
  refine gG_aload_n dL_law_1386 rfl rfl ?_
  refine gG_aload_nT dL_law_1387 rfl rfl ?_
  refine gG_iload dL_law_1388 rfl ?_
  refine gG_iconst (v := 1) dL_law_1390 (by decide) ?_
  refine gG_iadd dL_law_1391 ?_
  obtain ⟨e1, h⟩ := h
  refine gG_sld rfl dL_law_1392 e1 ?_
  obtain ⟨hk1, hk2, hrc, d2, P2, hdd, hC, h⟩ := h
  refine gG_cvi (As := [.int ((S.2 (Int32.toNatClampNeg ((i4 + (1 : Int32))))))]) (st := []) dL_law_1393 mV_L_198 hdd hrc rfl rfl (Nat.le_of_ble_eq_true rfl) (Nat.le_refl _) ⟨hk1, hk2⟩ hC (fun H1 x2 hp => ?_)
  have h := h H1 x2 hp
  refine gG_aload_n dL_law_1396 rfl rfl ?_
  refine gG_aload_nT dL_law_1397 rfl rfl ?_
  refine gG_iload dL_law_1398 rfl ?_
  refine gG_iconst (v := 1) dL_law_1400 (by decide) ?_
  refine gG_iadd dL_law_1401 ?_
  obtain ⟨e1, h⟩ := h
  refine gG_sld rfl dL_law_1402 e1 ?_
  obtain ⟨hk1, hk2, hrc, d2, P2, hdd, hC, h⟩ := h
  refine gG_cvi (As := [.int ((S.2 (Int32.toNatClampNeg ((i4 + (1 : Int32))))))]) (st := [.int (x2)]) dL_law_1403 mV_L_201 hdd hrc rfl rfl (Nat.le_of_ble_eq_true rfl) (Nat.le_refl _) ⟨hk1, hk2⟩ hC (fun H3 x4 hp => ?_)
  have h := h H3 x4 hp
  refine gG_ic_eq (tgt := 1411) dL_law_1406 (by decide) (fun c => ?_) (fun c => ?_)
  · have h := h.1 c
    refine gG_locals ?_ h
    exact ⟨rfl, ⟨rfl, ⟨rfl, ⟨rfl, ⟨rfl, trivial⟩⟩⟩⟩⟩
  · have h := h.2 c
    refine gG_iconst (v := 0) dL_law_1409 (by decide) ?_
    refine gG_exit h
theorem kL_law_1411 {S : Nat × (Nat → Int32)} {d n kc ks mc ms : Nat} {H : gHp} {X : gX} {a1 : Nat} {a2 : Nat} {a3 : Nat} {i4 : Int32} (h : gG d (mL_law S) mc ms X 23 (n) H [some (.float 300), some (.ref (a1)), some (.ref (a2)), some (.ref (a3)), some (.int ((i4 + 7))), none, none] [] (kc) (ks)) : gG d (mL_law S) mc ms X 1411 n H [some (.float 300), some (.ref (a1)), some (.ref (a2)), some (.ref (a3)), some (.int (i4)), none, none] [] kc ks := by
  refine gG_iinc (v := i4 + 7) dL_law_1411 rfl rfl (Nat.le_of_ble_eq_true rfl) ?_
  refine gG_goto (tgt := 23) dL_law_1414 (by decide) ?_
  refine gG_locals ?_ h
  exact ⟨rfl, ⟨rfl, ⟨rfl, ⟨rfl, ⟨rfl, trivial⟩⟩⟩⟩⟩
theorem kL_law_1221s {S : Nat × (Nat → Int32)} {d n kc ks mc ms : Nat} {H : gHp} {X : gX} {a1 : Nat} {a2 : Nat} {a3 : Nat} {i4 : Int32} {r9 : Int32} (h : vp_in ((i4 + (1 : Int32))) S.1 ∧ (vp_in ((i4 + (2 : Int32))) S.1 ∧ (vp_in ((i4 + (3 : Int32))) S.1 ∧ (vp_in ((i4 + (4 : Int32))) S.1 ∧ (kc ≤ mc ∧ ks ≤ ms ∧ (∃ fs, H (a2) = .inr (12, fs)) ∧ g_ci d mX12_rests (n) H [.ref (a2), .int ((S.2 (Int32.toNatClampNeg ((i4 + (1 : Int32)))))), .int ((S.2 (Int32.toNatClampNeg ((i4 + (2 : Int32)))))), .int ((S.2 (Int32.toNatClampNeg ((i4 + (3 : Int32)))))), .int ((S.2 (Int32.toNatClampNeg ((i4 + (4 : Int32))))))] (fun H1 x2 => kc ≤ mc ∧ ks ≤ ms ∧ (∃ fs, H1 (a2) = .inr (12, fs)) ∧ g_ci d mX12_thrown (n) H1 [.ref (a2)] (fun H3 x4 => (x4 = r9 → (¬ (r9 = 0) → gG d (mL_law S) mc ms X 1411 (n) H3 [some (.float 300), some (.ref (a1)), some (.ref (a2)), some (.ref (a3)), some (.int (i4)), none, none] [] (kc) (ks)) ∧ (r9 = 0 → g_ll H3 (a3) ((0 : Int32)) (fun y5 => ((lg_cmp y5 (Int32.toInt64 (x2))) = 0 → gG d (mL_law S) mc ms X 1411 (n) H3 [some (.float 300), some (.ref (a1)), some (.ref (a2)), some (.ref (a3)), some (.int (i4)), none, none] [] (kc) (ks)) ∧ (¬ ((lg_cmp y5 (Int32.toInt64 (x2))) = 0) → X 1280 (n) H3 [some (.float 300), some (.ref (a1)), some (.ref (a2)), some (.ref (a3)), some (.int (i4)), some (.int (r9)), some (.int (x2))] [.int ((0 : Int32))] (kc) (ks))))) ∧ (¬ (x4 = r9) → X 1263 (n) H3 [some (.float 300), some (.ref (a1)), some (.ref (a2)), some (.ref (a3)), some (.int (i4)), some (.int (r9)), some (.int (x2))] [.int ((0 : Int32))] (kc) (ks))))))))) : gG d (mL_law S) mc ms X 1221 n H [some (.float 300), some (.ref (a1)), some (.ref (a2)), some (.ref (a3)), some (.int (i4)), none, none] [.int (r9)] kc ks := by
  refine gG_istore dL_law_1221 (Nat.le_of_ble_eq_true rfl) ?_
  refine gG_aload_n dL_law_1223 rfl rfl ?_
  refine gG_aload_nT dL_law_1224 rfl rfl ?_
  refine gG_iload dL_law_1225 rfl ?_
  refine gG_iconst (v := 1) dL_law_1227 (by decide) ?_
  refine gG_iadd dL_law_1228 ?_
  obtain ⟨e1, h⟩ := h
  refine gG_sld rfl dL_law_1229 e1 ?_
  refine gG_aload_nT dL_law_1230 rfl rfl ?_
  refine gG_iload dL_law_1231 rfl ?_
  refine gG_iconst (v := 2) dL_law_1233 (by decide) ?_
  refine gG_iadd dL_law_1234 ?_
  obtain ⟨e1, h⟩ := h
  refine gG_sld rfl dL_law_1235 e1 ?_
  refine gG_aload_nT dL_law_1236 rfl rfl ?_
  refine gG_iload dL_law_1237 rfl ?_
  refine gG_iconst (v := 3) dL_law_1239 (by decide) ?_
  refine gG_iadd dL_law_1240 ?_
  obtain ⟨e1, h⟩ := h
  refine gG_sld rfl dL_law_1241 e1 ?_
  refine gG_aload_nT dL_law_1242 rfl rfl ?_
  refine gG_iload dL_law_1243 rfl ?_
  refine gG_iconst (v := 4) dL_law_1245 (by decide) ?_
  refine gG_iadd dL_law_1246 ?_
  obtain ⟨e1, h⟩ := h
  refine gG_sld rfl dL_law_1247 e1 ?_
  obtain ⟨hk1, hk2, hrc, d2, P2, hdd, hC, h⟩ := h
  refine gG_cvi (As := [.int ((S.2 (Int32.toNatClampNeg ((i4 + (1 : Int32)))))), .int ((S.2 (Int32.toNatClampNeg ((i4 + (2 : Int32)))))), .int ((S.2 (Int32.toNatClampNeg ((i4 + (3 : Int32)))))), .int ((S.2 (Int32.toNatClampNeg ((i4 + (4 : Int32))))))]) (st := []) dL_law_1248 mV_L_186 hdd hrc rfl rfl (Nat.le_of_ble_eq_true rfl) (Nat.le_refl _) ⟨hk1, hk2⟩ hC (fun H1 x2 hp => ?_)
  have h := h H1 x2 hp
  refine gG_istore dL_law_1251 (Nat.le_of_ble_eq_true rfl) ?_
  refine gG_aload_n dL_law_1253 rfl rfl ?_
  obtain ⟨hk1, hk2, hrc, d2, P2, hdd, hC, h⟩ := h
  refine gG_cvi (As := []) (st := []) dL_law_1254 mV_L_187 hdd hrc rfl rfl (Nat.le_of_ble_eq_true rfl) (Nat.le_refl _) ⟨hk1, hk2⟩ hC (fun H3 x4 hp => ?_)
  have h := h H3 x4 hp
  refine gG_iload dL_law_1257 rfl ?_
  refine gG_ic_eq (tgt := 1264) dL_law_1259 (by decide) (fun c => ?_) (fun c => ?_)
  · have h := h.1 c
    refine gG_iload dL_law_1264 rfl ?_
    refine gG_if_ne (tgt := 1281) dL_law_1266 (by decide) (fun c => ?_) (fun c => ?_)
    · have h := h.1 c
      refine gG_goto (tgt := 1411) dL_law_1281 (by decide) ?_
      refine gG_locals ?_ h
      exact ⟨rfl, ⟨rfl, ⟨rfl, ⟨rfl, ⟨rfl, trivial⟩⟩⟩⟩⟩
    · have h := h.2 c
      refine gG_aload_n dL_law_1269 rfl rfl ?_
      refine gG_iconst (v := 0) dL_law_1270 (by decide) ?_
      obtain ⟨m0, f0, e1, e2, h⟩ := h
      refine gG_lald dL_law_1271 ⟨m0, f0, e1, e2, ?_⟩
      obtain ⟨y5, eH⟩ : ∃ z, z = f0 (Int32.toNatClampNeg ((0 : Int32))) := ⟨_, rfl⟩
      rw [← eH] at h ⊢
      refine gG_iload dL_law_1272 rfl ?_
      refine gG_i2l dL_law_1274 ?_
      refine gG_lcmp dL_law_1275 ?_
      refine gG_if_eq (tgt := 1281) dL_law_1276 (by decide) (fun c => ?_) (fun c => ?_)
      · have h := h.1 c
        refine gG_goto (tgt := 1411) dL_law_1281 (by decide) ?_
        refine gG_locals ?_ h
        exact ⟨rfl, ⟨rfl, ⟨rfl, ⟨rfl, ⟨rfl, trivial⟩⟩⟩⟩⟩
      · have h := h.2 c
        refine gG_iconst (v := 0) dL_law_1279 (by decide) ?_
        refine gG_exit h
  · have h := h.2 c
    refine gG_iconst (v := 0) dL_law_1262 (by decide) ?_
    refine gG_exit h
theorem kX11_rests_0 {d n : Nat} {H : gHp} {P : gHp → Int32 → Prop} {PT : gHp → Prop} {a0 : Nat} {i1 : Int32} {i2 : Int32} {i3 : Int32} {i4 : Int32} (h : g_cz d mX11_isDigit n H [.int (i1)] (fun H1 b2 => (b2 = false → PT H1) ∧ (b2 = true → g_cz d mX11_isDigit n H1 [.int (i2)] (fun H3 b4 => (b4 = false → PT H3) ∧ (b4 = true → g_cz d mX11_isDigit n H3 [.int (i3)] (fun H5 b6 => (b6 = false → PT H5) ∧ (b6 = true → ((-1 : Int32) ≤ i4 → gG d mX11_rests 1 6 (g_Xr mX11_rests n P PT) 41 n H5 [none, some (.int (i1)), some (.int (i2)), some (.int (i3)), some (.int (i4)), some (.int ((0 : Int32))), some (.int ((0 : Int32)))] [] (0) (0)) ∧ (¬ ((-1 : Int32) ≤ i4) → PT H5)))))))) : gG d mX11_rests 1 6 (g_Xr mX11_rests n P PT) 0 n H [some (.ref (a0)), some (.int (i1)), some (.int (i2)), some (.int (i3)), some (.int (i4)), none, none] [] 0 0 := by
  refine gG_iload_n dX11_rests_0 rfl rfl ?_
  obtain ⟨d2, P2, hdd, hC, h⟩ := h
  refine gG_csi (As := [.int (i1)]) (st := []) dX11_rests_1 mS_X11_290 hdd rfl rfl (Nat.le_of_ble_eq_true rfl) (Nat.le_refl _) ⟨Nat.zero_le _, Nat.zero_le _⟩ hC (fun H1 x9 hp => ?_)
  obtain ⟨b2, rfl, hp⟩ := hp
  have h := h H1 b2 hp
  refine gG_if_eq (tgt := 27) dX11_rests_4 (by decide) (fun c => ?_) (fun c => ?_)
  · have h := h.1 (g_b_f c)
    exact gG_exit ⟨rfl, rfl, rfl, Or.inr ⟨by decide, rfl, h⟩⟩
  · have h := h.2 (g_b_t c)
    refine gG_iload_n dX11_rests_7 rfl rfl ?_
    obtain ⟨d2, P2, hdd, hC, h⟩ := h
    refine gG_csi (As := [.int (i2)]) (st := []) dX11_rests_8 mS_X11_290 hdd rfl rfl (Nat.le_of_ble_eq_true rfl) (Nat.le_refl _) ⟨Nat.zero_le _, Nat.zero_le _⟩ hC (fun H3 x9 hp => ?_)
    obtain ⟨b4, rfl, hp⟩ := hp
    have h := h H3 b4 hp
    refine gG_if_eq (tgt := 27) dX11_rests_11 (by decide) (fun c => ?_) (fun c => ?_)
    · have h := h.1 (g_b_f c)
      exact gG_exit ⟨rfl, rfl, rfl, Or.inr ⟨by decide, rfl, h⟩⟩
    · have h := h.2 (g_b_t c)
      refine gG_iload_n dX11_rests_14 rfl rfl ?_
      obtain ⟨d2, P2, hdd, hC, h⟩ := h
      refine gG_csi (As := [.int (i3)]) (st := []) dX11_rests_15 mS_X11_290 hdd rfl rfl (Nat.le_of_ble_eq_true rfl) (Nat.le_refl _) ⟨Nat.zero_le _, Nat.zero_le _⟩ hC (fun H5 x9 hp => ?_)
      obtain ⟨b6, rfl, hp⟩ := hp
      have h := h H5 b6 hp
      refine gG_if_eq (tgt := 27) dX11_rests_18 (by decide) (fun c => ?_) (fun c => ?_)
      · have h := h.1 (g_b_f c)
        exact gG_exit ⟨rfl, rfl, rfl, Or.inr ⟨by decide, rfl, h⟩⟩
      · have h := h.2 (g_b_t c)
        refine gG_iload dX11_rests_21 rfl ?_
        refine gG_iconst (v := (-1)) dX11_rests_23 (by decide) ?_
        refine gG_ic_ge (tgt := 35) dX11_rests_24 (by decide) (fun c => ?_) (fun c => ?_)
        · have h := h.1 c
          refine gG_iconst (v := 0) dX11_rests_35 (by decide) ?_
          refine gG_istore dX11_rests_36 (Nat.le_of_ble_eq_true rfl) ?_
          refine gG_iconst (v := 0) dX11_rests_38 (by decide) ?_
          refine gG_istore dX11_rests_39 (Nat.le_of_ble_eq_true rfl) ?_
          refine gG_locals ?_ h
          exact ⟨rfl, ⟨rfl, ⟨rfl, ⟨rfl, ⟨rfl, ⟨rfl, trivial⟩⟩⟩⟩⟩⟩
        · have h := h.2 c
          exact gG_exit ⟨rfl, rfl, rfl, Or.inr ⟨by decide, rfl, h⟩⟩
theorem kX11_rests_41 {d n : Nat} {H : gHp} {P : gHp → Int32 → Prop} {PT : gHp → Prop} {i1 : Int32} {i2 : Int32} {i3 : Int32} {i4 : Int32} {i5 : Int32} {i6 : Int32} (h : ((4 : Int32) ≤ i6 → (i4 = (-1 : Int32) → P H (i5)) ∧ (¬ (i4 = (-1 : Int32)) → PT H)) ∧ (¬ ((4 : Int32) ≤ i6) → g_cz d mX11_isRest n H [.int (i1), .int (i2), .int (i3), .int (i6)] (fun H1 b2 => (b2 = false → gG d mX11_rests 1 6 (g_Xr mX11_rests n P PT) 41 n H1 [none, some (.int (i1)), some (.int (i2)), some (.int (i3)), some (.int (i4)), some (.int (i5)), some (.int ((i6 + 1)))] [] (0) (0)) ∧ (b2 = true → (¬ (i5 = i4) → gG d mX11_rests 1 6 (g_Xr mX11_rests n P PT) 41 n H1 [none, some (.int (i1)), some (.int (i2)), some (.int (i3)), some (.int (i4)), some (.int ((i5 + 1))), some (.int ((i6 + 1)))] [] (0) (0)) ∧ (i5 = i4 → P H1 (i6)))))) : gG d mX11_rests 1 6 (g_Xr mX11_rests n P PT) 41 n H [none, some (.int (i1)), some (.int (i2)), some (.int (i3)), some (.int (i4)), some (.int (i5)), some (.int (i6))] [] 0 0 := by
  refine gG_iload dX11_rests_41 rfl ?_
  refine gG_iconst (v := 4) dX11_rests_43 (by decide) ?_
  refine gG_ic_ge (tgt := 77) dX11_rests_44 (by decide) (fun c => ?_) (fun c => ?_)
  · have h := h.1 c
    refine gG_iload dX11_rests_77 rfl ?_
    refine gG_iconst (v := (-1)) dX11_rests_79 (by decide) ?_
    refine gG_ic_eq (tgt := 91) dX11_rests_80 (by decide) (fun c => ?_) (fun c => ?_)
    · have h := h.1 c
      refine gG_iload dX11_rests_91 rfl ?_
      exact gG_exit ⟨rfl, rfl, rfl, Or.inl ⟨dX11_rests_93, _, rfl, h⟩⟩
    · have h := h.2 c
      exact gG_exit ⟨rfl, rfl, rfl, Or.inr ⟨by decide, rfl, h⟩⟩
  · have h := h.2 c
    refine gG_iload_n dX11_rests_47 rfl rfl ?_
    refine gG_iload_n dX11_rests_48 rfl rfl ?_
    refine gG_iload_n dX11_rests_49 rfl rfl ?_
    refine gG_iload dX11_rests_50 rfl ?_
    obtain ⟨d2, P2, hdd, hC, h⟩ := h
    refine gG_csi (As := [.int (i1), .int (i2), .int (i3), .int (i6)]) (st := []) dX11_rests_52 mS_X11_296 hdd rfl rfl (Nat.le_of_ble_eq_true rfl) (Nat.le_refl _) ⟨Nat.zero_le _, Nat.zero_le _⟩ hC (fun H1 x9 hp => ?_)
    obtain ⟨b2, rfl, hp⟩ := hp
    have h := h H1 b2 hp
    refine gG_if_eq (tgt := 71) dX11_rests_55 (by decide) (fun c => ?_) (fun c => ?_)
    · have h := h.1 (g_b_f c)
      refine gG_iinc (v := i6 + 1) dX11_rests_71 rfl rfl (Nat.le_of_ble_eq_true rfl) ?_
      refine gG_goto (tgt := 41) dX11_rests_74 (by decide) ?_
      refine gG_locals ?_ h
      exact ⟨rfl, ⟨rfl, ⟨rfl, ⟨rfl, ⟨rfl, ⟨rfl, trivial⟩⟩⟩⟩⟩⟩
    · have h := h.2 (g_b_t c)
      refine gG_iload dX11_rests_58 rfl ?_
      refine gG_iload dX11_rests_60 rfl ?_
      refine gG_ic_ne (tgt := 68) dX11_rests_62 (by decide) (fun c => ?_) (fun c => ?_)
      · have h := h.1 c
        refine gG_iinc (v := i5 + 1) dX11_rests_68 rfl rfl (Nat.le_of_ble_eq_true rfl) ?_
        refine gG_iinc (v := i6 + 1) dX11_rests_71 rfl rfl (Nat.le_of_ble_eq_true rfl) ?_
        refine gG_goto (tgt := 41) dX11_rests_74 (by decide) ?_
        refine gG_locals ?_ h
        exact ⟨rfl, ⟨rfl, ⟨rfl, ⟨rfl, ⟨rfl, ⟨rfl, trivial⟩⟩⟩⟩⟩⟩
      · have h := h.2 c
        refine gG_iload dX11_rests_65 rfl ?_
        exact gG_exit ⟨rfl, rfl, rfl, Or.inl ⟨dX11_rests_67, _, rfl, h⟩⟩
