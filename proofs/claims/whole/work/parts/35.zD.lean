theorem zX2_readFront_0 {d n : Nat} {S : gS} {P : gS → Int32 → Prop} {a1 : Nat} (hs1 : isF a1) (h : s_cv d mX1_forget n S [.ref (a1)] (fun S1 => s_cv d mX8_open n S1 [.ref (1)] (fun S2 => gG d mX2_readFront 0 0 (g_Xj mX2_readFront n 0 0 (hPi P)) 15 n (hH S2) [some (.ref (3)), some (.ref (a1)), some (.int ((1 : Int32))), some (.int ((0 : Int32)))] [] 0 0))) : gG d mX2_readFront 0 0 (g_Xj mX2_readFront n 0 0 (hPi P)) 0 n (hH S) [some (.ref (3)), some (.ref (a1)), none, none] [] 0 0 := by
  refine kX2_readFront_0  ?_
  refine ⟨q_rc hs1.1, ?_⟩
  obtain ⟨d2, P2, hdd, hC, h⟩ := h
  refine ⟨d2, _, hdd, hC, fun H9 hp => ?_⟩
  obtain ⟨S1, rfl, hp⟩ := hp
  have h := h S1 hp
  refine q_gc rfl rfl ?_
  refine ⟨q_rc rfl, ?_⟩
  obtain ⟨d2, P2, hdd, hC, h⟩ := h
  refine ⟨d2, _, hdd, hC, fun H9 hp => ?_⟩
  obtain ⟨S2, rfl, hp⟩ := hp
  have h := h S2 hp
  exact h
theorem zX2_readFront_15 {d n : Nat} {S : gS} {P : gS → Int32 → Prop} {a1 : Nat} {i2 : Int32} {i3 : Int32} (hs1 : isF a1) (h : ((1000 : Int32) ≤ i3 → s_ci d mX8_close n S [.ref (1)] (fun S1 x2 => P S1 (x2))) ∧ (¬ ((1000 : Int32) ≤ i3) → (i2 = 0 → s_ci d mX8_close n S [.ref (1)] (fun S3 x4 => P S3 (x4))) ∧ (¬ (i2 = 0) → s_cz d mX8_isEnd n S [.ref (1)] (fun S5 b6 => (b6 = true → s_ci d mX8_close n S5 [.ref (1)] (fun S7 x8 => P S7 (x8))) ∧ (b6 = false → s_cz d mX2_readLine n S5 [.ref (3), .ref (a1)] (fun S9 b10 => (b10 = false → gG d mX2_readFront 0 0 (g_Xj mX2_readFront n 0 0 (hPi P)) 15 n (hH S9) [some (.ref (3)), some (.ref (a1)), some (.int ((0 : Int32))), some (.int ((i3 + 1)))] [] 0 0) ∧ (b10 = true → s_cz d mX8_takeSign n S9 [.ref (1), .int ((59 : Int32))] (fun S11 b12 => (b12 = false → gG d mX2_readFront 0 0 (g_Xj mX2_readFront n 0 0 (hPi P)) 15 n (hH S11) [some (.ref (3)), some (.ref (a1)), some (.int ((0 : Int32))), some (.int ((i3 + 1)))] [] 0 0) ∧ (b12 = true → gG d mX2_readFront 0 0 (g_Xj mX2_readFront n 0 0 (hPi P)) 15 n (hH S11) [some (.ref (3)), some (.ref (a1)), some (.int ((1 : Int32))), some (.int ((i3 + 1)))] [] 0 0))))))))) : gG d mX2_readFront 0 0 (g_Xj mX2_readFront n 0 0 (hPi P)) 15 n (hH S) [some (.ref (3)), some (.ref (a1)), some (.int (i2)), some (.int (i3))] [] 0 0 := by
  refine kX2_readFront_15  ?_
  refine ⟨fun c => ?_, fun c => ?_⟩
  · have h := h.1 c
    refine q_gc rfl rfl ?_
    refine ⟨q_rc rfl, ?_⟩
    obtain ⟨d2, P2, hdd, hC, h⟩ := h
    refine ⟨d2, _, hdd, hC, fun H9 x2 hp => ?_⟩
    obtain ⟨S1, rfl, hp⟩ := hp
    have h := h S1 x2 hp
    exact ⟨_, rfl, h⟩
  · have h := h.2 c
    refine ⟨fun c => ?_, fun c => ?_⟩
    · have h := h.1 c
      refine q_gc rfl rfl ?_
      refine ⟨q_rc rfl, ?_⟩
      obtain ⟨d2, P2, hdd, hC, h⟩ := h
      refine ⟨d2, _, hdd, hC, fun H9 x4 hp => ?_⟩
      obtain ⟨S3, rfl, hp⟩ := hp
      have h := h S3 x4 hp
      exact ⟨_, rfl, h⟩
    · have h := h.2 c
      refine q_gc rfl rfl ?_
      refine ⟨q_rc rfl, ?_⟩
      obtain ⟨d2, P2, hdd, hC, h⟩ := h
      refine ⟨d2, _, hdd, hC, fun H9 b6 hp => ?_⟩
      obtain ⟨S5, rfl, hp⟩ := hp
      have h := h S5 b6 hp
      refine ⟨fun c => ?_, fun c => ?_⟩
      · have h := h.1 c
        refine q_gc rfl rfl ?_
        refine ⟨q_rc rfl, ?_⟩
        obtain ⟨d2, P2, hdd, hC, h⟩ := h
        refine ⟨d2, _, hdd, hC, fun H9 x8 hp => ?_⟩
        obtain ⟨S7, rfl, hp⟩ := hp
        have h := h S7 x8 hp
        exact ⟨_, rfl, h⟩
      · have h := h.2 c
        refine ⟨q_rc rfl, ?_⟩
        obtain ⟨d2, P2, hdd, hC, h⟩ := h
        refine ⟨d2, _, hdd, hC, fun H9 b10 hp => ?_⟩
        obtain ⟨S9, rfl, hp⟩ := hp
        have h := h S9 b10 hp
        refine ⟨fun c => ?_, fun c => ?_⟩
        · have h := h.1 c
          exact h
        · have h := h.2 c
          refine q_gc rfl rfl ?_
          refine ⟨q_rc rfl, ?_⟩
          obtain ⟨d2, P2, hdd, hC, h⟩ := h
          refine ⟨d2, _, hdd, hC, fun H9 b12 hp => ?_⟩
          obtain ⟨S11, rfl, hp⟩ := hp
          have h := h S11 b12 hp
          refine ⟨fun c => ?_, fun c => ?_⟩
          · have h := h.1 c
            exact h
          · have h := h.2 c
            exact h

theorem zX2_readLine_0 {d n : Nat} {S : gS} {P : gS → Bool → Prop} {a1 : Nat} (hs1 : isF a1) (h : s_cz d mX8_isWord n S [.ref (1), .float (1)] (fun S1 b2 => (b2 = false → s_cz d mX8_isWord n S1 [.ref (1), .float (29)] (fun S3 b4 => (b4 = false → s_cz d mX8_isWord n S3 [.ref (1), .float (30)] (fun S5 b6 => (b6 = false → s_cz d mX8_isWord n S5 [.ref (1), .float (32)] (fun S7 b8 => (b8 = false → s_cz d mX8_isWord n S7 [.ref (1), .float (33)] (fun S9 b10 => (b10 = true → ((sI S9 ((a1 + 11)) 1) ≤ 0 → s_cv d mX8_advance n S9 [.ref (1)] (fun S11 => s_cz d mX4_readLevel n S11 [.ref (4), .ref ((a1 + 11)), .int ((0 : Int32)), .int ((0 : Int32))] (fun S12 b13 => P S12 b13))) ∧ (¬ ((sI S9 ((a1 + 11)) 1) ≤ 0) → s_cz d mX8_fail n S9 [.ref (1), .int ((3 : Int32))] (fun S14 b15 => P S14 b15))) ∧ (b10 = false → s_cz d mX8_fail n S9 [.ref (1), .int ((1 : Int32))] (fun S16 b17 => P S16 b17)))) ∧ (b8 = true → s_cz d mX2_readRain n S7 [.ref (3), .ref (a1)] (fun S18 b19 => P S18 b19)))) ∧ (b6 = true → s_cz d mX2_readLetterNamed n S5 [.ref (3), .ref (a1)] (fun S20 b21 => (b21 = false → P S20 false) ∧ (b21 = true → s_cz d mX2_readLetterMouths n S20 [.ref (3), .ref (a1)] (fun S22 b23 => (b23 = false → P S22 false) ∧ (b23 = true → P S22 true))))))) ∧ (b4 = true → s_cz d mX2_readGutter n S3 [.ref (3), .ref (a1)] (fun S24 b25 => P S24 b25)))) ∧ (b2 = true → s_cz d mX2_readMouth n S1 [.ref (3), .ref (a1)] (fun S26 b27 => P S26 b27)))) : gG d mX2_readLine 0 0 (g_Xz mX2_readLine n 0 0 (hPz P)) 0 n (hH S) [some (.ref (3)), some (.ref (a1))] [] 0 0 := by
  refine kX2_readLine_0  ?_
  refine q_gc rfl rfl ?_
  refine ⟨q_rc rfl, ?_⟩
  obtain ⟨d2, P2, hdd, hC, h⟩ := h
  refine ⟨d2, _, hdd, hC, fun H9 b2 hp => ?_⟩
  obtain ⟨S1, rfl, hp⟩ := hp
  have h := h S1 b2 hp
  refine ⟨fun c => ?_, fun c => ?_⟩
  · have h := h.1 c
    refine q_gc rfl rfl ?_
    refine ⟨q_rc rfl, ?_⟩
    obtain ⟨d2, P2, hdd, hC, h⟩ := h
    refine ⟨d2, _, hdd, hC, fun H9 b4 hp => ?_⟩
    obtain ⟨S3, rfl, hp⟩ := hp
    have h := h S3 b4 hp
    refine ⟨fun c => ?_, fun c => ?_⟩
    · have h := h.1 c
      refine q_gc rfl rfl ?_
      refine ⟨q_rc rfl, ?_⟩
      obtain ⟨d2, P2, hdd, hC, h⟩ := h
      refine ⟨d2, _, hdd, hC, fun H9 b6 hp => ?_⟩
      obtain ⟨S5, rfl, hp⟩ := hp
      have h := h S5 b6 hp
      refine ⟨fun c => ?_, fun c => ?_⟩
      · have h := h.1 c
        refine q_gc rfl rfl ?_
        refine ⟨q_rc rfl, ?_⟩
        obtain ⟨d2, P2, hdd, hC, h⟩ := h
        refine ⟨d2, _, hdd, hC, fun H9 b8 hp => ?_⟩
        obtain ⟨S7, rfl, hp⟩ := hp
        have h := h S7 b8 hp
        refine ⟨fun c => ?_, fun c => ?_⟩
        · have h := h.1 c
          refine q_gc rfl rfl ?_
          refine ⟨q_rc rfl, ?_⟩
          obtain ⟨d2, P2, hdd, hC, h⟩ := h
          refine ⟨d2, _, hdd, hC, fun H9 b10 hp => ?_⟩
          obtain ⟨S9, rfl, hp⟩ := hp
          have h := h S9 b10 hp
          refine ⟨fun c => ?_, fun c => ?_⟩
          · have h := h.1 c
            refine q_gp hs1.1 rfl ?_
            refine q_gi hs1.2.2.2.2.2.2.2.2.2.2.2.1 rfl ?_
            refine ⟨fun c => ?_, fun c => ?_⟩
            · have h := h.1 c
              refine q_gc rfl rfl ?_
              refine ⟨q_rc rfl, ?_⟩
              obtain ⟨d2, P2, hdd, hC, h⟩ := h
              refine ⟨d2, _, hdd, hC, fun H9 hp => ?_⟩
              obtain ⟨S11, rfl, hp⟩ := hp
              have h := h S11 hp
              refine q_gc rfl rfl ?_
              refine q_gp hs1.1 rfl ?_
              refine ⟨q_rc rfl, ?_⟩
              obtain ⟨d2, P2, hdd, hC, h⟩ := h
              refine ⟨d2, _, hdd, hC, fun H9 b13 hp => ?_⟩
              obtain ⟨S12, rfl, hp⟩ := hp
              have h := h S12 b13 hp
              exact ⟨_, rfl, h⟩
            · have h := h.2 c
              refine q_gc rfl rfl ?_
              refine ⟨q_rc rfl, ?_⟩
              obtain ⟨d2, P2, hdd, hC, h⟩ := h
              refine ⟨d2, _, hdd, hC, fun H9 b15 hp => ?_⟩
              obtain ⟨S14, rfl, hp⟩ := hp
              have h := h S14 b15 hp
              exact ⟨_, rfl, h⟩
          · have h := h.2 c
            refine q_gc rfl rfl ?_
            refine ⟨q_rc rfl, ?_⟩
            obtain ⟨d2, P2, hdd, hC, h⟩ := h
            refine ⟨d2, _, hdd, hC, fun H9 b17 hp => ?_⟩
            obtain ⟨S16, rfl, hp⟩ := hp
            have h := h S16 b17 hp
            exact ⟨_, rfl, h⟩
        · have h := h.2 c
          refine ⟨q_rc rfl, ?_⟩
          obtain ⟨d2, P2, hdd, hC, h⟩ := h
          refine ⟨d2, _, hdd, hC, fun H9 b19 hp => ?_⟩
          obtain ⟨S18, rfl, hp⟩ := hp
          have h := h S18 b19 hp
          exact ⟨_, rfl, h⟩
      · have h := h.2 c
        refine ⟨q_rc rfl, ?_⟩
        obtain ⟨d2, P2, hdd, hC, h⟩ := h
        refine ⟨d2, _, hdd, hC, fun H9 b21 hp => ?_⟩
        obtain ⟨S20, rfl, hp⟩ := hp
        have h := h S20 b21 hp
        refine ⟨fun c => ?_, fun c => ?_⟩
        · have h := h.1 c
          exact ⟨_, rfl, h⟩
        · have h := h.2 c
          refine ⟨q_rc rfl, ?_⟩
          obtain ⟨d2, P2, hdd, hC, h⟩ := h
          refine ⟨d2, _, hdd, hC, fun H9 b23 hp => ?_⟩
          obtain ⟨S22, rfl, hp⟩ := hp
          have h := h S22 b23 hp
          refine ⟨fun c => ?_, fun c => ?_⟩
          · have h := h.1 c
            exact ⟨_, rfl, h⟩
          · have h := h.2 c
            exact ⟨_, rfl, h⟩
    · have h := h.2 c
      refine ⟨q_rc rfl, ?_⟩
      obtain ⟨d2, P2, hdd, hC, h⟩ := h
      refine ⟨d2, _, hdd, hC, fun H9 b25 hp => ?_⟩
      obtain ⟨S24, rfl, hp⟩ := hp
      have h := h S24 b25 hp
      exact ⟨_, rfl, h⟩
  · have h := h.2 c
    refine ⟨q_rc rfl, ?_⟩
    obtain ⟨d2, P2, hdd, hC, h⟩ := h
    refine ⟨d2, _, hdd, hC, fun H9 b27 hp => ?_⟩
    obtain ⟨S26, rfl, hp⟩ := hp
    have h := h S26 b27 hp
    exact ⟨_, rfl, h⟩

theorem zX2_readMouth_0 {d n : Nat} {S : gS} {P : gS → Bool → Prop} {a1 : Nat} (hs1 : isF a1) (h : ((sI S (a1) 0) < (7 : Int32) → s_cv d mX8_advance n S [.ref (1)] (fun S1 => s_cz d mX2_isNewName n S1 [.ref (3), .ref (a1)] (fun S2 b3 => (b3 = true → vp_in ((sI S (a1) 0)) 7 ∧ (∀ S5, S5 = uL S2 ((a1 + 1)) (Int32.toNatClampNeg ((sI S (a1) 0))) ((sJ S2 (1) 5)) → s_cv d mX8_advance n S5 [.ref (1)] (fun S6 => s_ci d mX2_kindHere n S6 [.ref (3)] (fun S7 x8 => (∀ S9, S9 = uR S7 ((a1 + 2)) (Int32.toNatClampNeg ((sI S (a1) 0))) (x8) → ((¬ ((sR S9 ((a1 + 2)) (Int32.toNatClampNeg ((sI S (a1) 0)))) = (-1 : Int32)) → s_cv d mX8_advance n S9 [.ref (1)] (fun S10 => s_ci d mX2_readMeasure n S10 [.ref (3), .float (26), .int ((1 : Int32)), .int ((20 : Int32))] (fun S11 x12 => (∀ S13, S13 = uR S11 ((a1 + 3)) (Int32.toNatClampNeg ((sI S (a1) 0))) (x12) → ((¬ ((sR S13 ((a1 + 3)) (Int32.toNatClampNeg ((sI S (a1) 0)))) = (-1 : Int32)) → s_ci d mX2_readMeasure n S13 [.ref (3), .float (27), .int ((0 : Int32)), .int ((9 : Int32))] (fun S14 x15 => (∀ S16, S16 = uR S14 ((a1 + 4)) (Int32.toNatClampNeg ((sI S (a1) 0))) (x15) → gG d mX2_readMouth 0 0 (g_Xz mX2_readMouth n 0 0 (hPz P)) 137 n (hH S16) [some (.ref (3)), some (.ref (a1)), some (.int ((sI S (a1) 0)))] [] 0 0))) ∧ ((sR S13 ((a1 + 3)) (Int32.toNatClampNeg ((sI S (a1) 0)))) = (-1 : Int32) → (∀ S17, S17 = uR S13 ((a1 + 4)) (Int32.toNatClampNeg ((sI S (a1) 0))) ((-1 : Int32)) → gG d mX2_readMouth 0 0 (g_Xz mX2_readMouth n 0 0 (hPz P)) 137 n (hH S17) [some (.ref (3)), some (.ref (a1)), some (.int ((sI S (a1) 0)))] [] 0 0))))))) ∧ ((sR S9 ((a1 + 2)) (Int32.toNatClampNeg ((sI S (a1) 0)))) = (-1 : Int32) → s_cz d mX8_fail n S9 [.ref (1), .int ((1 : Int32))] (fun S18 b19 => P S18 b19)))))))) ∧ (b3 = false → P S2 false)))) ∧ (¬ ((sI S (a1) 0) < (7 : Int32)) → s_cz d mX8_fail n S [.ref (1), .int ((5 : Int32))] (fun S20 b21 => P S20 b21))) : gG d mX2_readMouth 0 0 (g_Xz mX2_readMouth n 0 0 (hPz P)) 0 n (hH S) [some (.ref (3)), some (.ref (a1)), none] [] 0 0 := by
  refine kX2_readMouth_0  ?_
  refine q_gi hs1.1 rfl ?_
  refine ⟨fun c => ?_, fun c => ?_⟩
  · have h := h.1 c
    refine q_gc rfl rfl ?_
    refine ⟨q_rc rfl, ?_⟩
    obtain ⟨d2, P2, hdd, hC, h⟩ := h
    refine ⟨d2, _, hdd, hC, fun H9 hp => ?_⟩
    obtain ⟨S1, rfl, hp⟩ := hp
    have h := h S1 hp
    refine ⟨q_rc rfl, ?_⟩
    obtain ⟨d2, P2, hdd, hC, h⟩ := h
    refine ⟨d2, _, hdd, hC, fun H9 b3 hp => ?_⟩
    obtain ⟨S2, rfl, hp⟩ := hp
    have h := h S2 b3 hp
    refine ⟨fun c => ?_, fun c => ?_⟩
    · have h := h.1 c
      refine q_gp hs1.1 rfl ?_
      refine q_gc rfl rfl ?_
      refine q_gl rfl rfl ?_
      obtain ⟨hv4, h⟩ := h
      refine q_lst (k := Int32.toNatClampNeg ((sI S (a1) 0))) hs1.2.1 hv4 rfl ?_
      obtain ⟨S5, eS⟩ : ∃ z, z = uL S2 ((a1 + 1)) (Int32.toNatClampNeg ((sI S (a1) 0))) ((sJ S2 (1) 5)) := ⟨_, rfl⟩
      rw [← eS]
      have h := h S5 eS
      refine q_gc rfl rfl ?_
      refine ⟨q_rc rfl, ?_⟩
      obtain ⟨d2, P2, hdd, hC, h⟩ := h
      refine ⟨d2, _, hdd, hC, fun H9 hp => ?_⟩
      obtain ⟨S6, rfl, hp⟩ := hp
      have h := h S6 hp
      refine q_gp hs1.1 rfl ?_
      refine ⟨q_rc rfl, ?_⟩
      obtain ⟨d2, P2, hdd, hC, h⟩ := h
      refine ⟨d2, _, hdd, hC, fun H9 x8 hp => ?_⟩
      obtain ⟨S7, rfl, hp⟩ := hp
      have h := h S7 x8 hp
      refine q_as (k := Int32.toNatClampNeg ((sI S (a1) 0))) hs1.2.2.1 (by decide) hv4 rfl ?_
      obtain ⟨S9, eS⟩ : ∃ z, z = uR S7 ((a1 + 2)) (Int32.toNatClampNeg ((sI S (a1) 0))) (x8) := ⟨_, rfl⟩
      rw [← eS]
      have h := h S9 eS
      refine q_gp hs1.1 rfl ?_
      refine q_al (k := Int32.toNatClampNeg ((sI S (a1) 0))) hs1.2.2.1 (by decide) hv4 rfl ?_
      refine ⟨fun c => ?_, fun c => ?_⟩
      · have h := h.1 c
        refine q_gc rfl rfl ?_
        refine ⟨q_rc rfl, ?_⟩
        obtain ⟨d2, P2, hdd, hC, h⟩ := h
        refine ⟨d2, _, hdd, hC, fun H9 hp => ?_⟩
        obtain ⟨S10, rfl, hp⟩ := hp
        have h := h S10 hp
        refine q_gp hs1.1 rfl ?_
        refine ⟨q_rc rfl, ?_⟩
        obtain ⟨d2, P2, hdd, hC, h⟩ := h
        refine ⟨d2, _, hdd, hC, fun H9 x12 hp => ?_⟩
        obtain ⟨S11, rfl, hp⟩ := hp
        have h := h S11 x12 hp
        refine q_as (k := Int32.toNatClampNeg ((sI S (a1) 0))) hs1.2.2.2.1 (by decide) hv4 rfl ?_
        obtain ⟨S13, eS⟩ : ∃ z, z = uR S11 ((a1 + 3)) (Int32.toNatClampNeg ((sI S (a1) 0))) (x12) := ⟨_, rfl⟩
        rw [← eS]
        have h := h S13 eS
        refine q_gp hs1.1 rfl ?_
        refine q_gp hs1.1 rfl ?_
        refine q_al (k := Int32.toNatClampNeg ((sI S (a1) 0))) hs1.2.2.2.1 (by decide) hv4 rfl ?_
        refine ⟨fun c => ?_, fun c => ?_⟩
        · have h := h.1 c
          refine ⟨q_rc rfl, ?_⟩
          obtain ⟨d2, P2, hdd, hC, h⟩ := h
          refine ⟨d2, _, hdd, hC, fun H9 x15 hp => ?_⟩
          obtain ⟨S14, rfl, hp⟩ := hp
          have h := h S14 x15 hp
          refine q_as (k := Int32.toNatClampNeg ((sI S (a1) 0))) hs1.2.2.2.2.1 (by decide) hv4 rfl ?_
          obtain ⟨S16, eS⟩ : ∃ z, z = uR S14 ((a1 + 4)) (Int32.toNatClampNeg ((sI S (a1) 0))) (x15) := ⟨_, rfl⟩
          rw [← eS]
          have h := h S16 eS
          exact h
        · have h := h.2 c
          refine q_as (k := Int32.toNatClampNeg ((sI S (a1) 0))) hs1.2.2.2.2.1 (by decide) hv4 rfl ?_
          obtain ⟨S17, eS⟩ : ∃ z, z = uR S13 ((a1 + 4)) (Int32.toNatClampNeg ((sI S (a1) 0))) ((-1 : Int32)) := ⟨_, rfl⟩
          rw [← eS]
          have h := h S17 eS
          exact h
      · have h := h.2 c
        refine q_gc rfl rfl ?_
        refine ⟨q_rc rfl, ?_⟩
        obtain ⟨d2, P2, hdd, hC, h⟩ := h
        refine ⟨d2, _, hdd, hC, fun H9 b19 hp => ?_⟩
        obtain ⟨S18, rfl, hp⟩ := hp
        have h := h S18 b19 hp
        exact ⟨_, rfl, h⟩
    · have h := h.2 c
      exact ⟨_, rfl, h⟩
  · have h := h.2 c
    refine q_gc rfl rfl ?_
    refine ⟨q_rc rfl, ?_⟩
    obtain ⟨d2, P2, hdd, hC, h⟩ := h
    refine ⟨d2, _, hdd, hC, fun H9 b21 hp => ?_⟩
    obtain ⟨S20, rfl, hp⟩ := hp
    have h := h S20 b21 hp
    exact ⟨_, rfl, h⟩
theorem zX2_readMouth_137 {d n : Nat} {S : gS} {P : gS → Bool → Prop} {a1 : Nat} {i2 : Int32} (hs1 : isF a1) (h : vp_in (i2) 7 ∧ ((¬ ((sR S ((a1 + 4)) (Int32.toNatClampNeg (i2))) = (-1 : Int32)) → s_ci d mX2_readMeasure n S [.ref (3), .float (28), .int ((0 : Int32)), .int ((40 : Int32))] (fun S2 x3 => (∀ S4, S4 = uR S2 ((a1 + 5)) (Int32.toNatClampNeg (i2)) (x3) → gG d mX2_readMouth 0 0 (g_Xz mX2_readMouth n 0 0 (hPz P)) 166 n (hH S4) [none, some (.ref (a1)), some (.int (i2))] [] 0 0))) ∧ ((sR S ((a1 + 4)) (Int32.toNatClampNeg (i2))) = (-1 : Int32) → (∀ S5, S5 = uR S ((a1 + 5)) (Int32.toNatClampNeg (i2)) ((-1 : Int32)) → gG d mX2_readMouth 0 0 (g_Xz mX2_readMouth n 0 0 (hPz P)) 166 n (hH S5) [none, some (.ref (a1)), some (.int (i2))] [] 0 0)))) : gG d mX2_readMouth 0 0 (g_Xz mX2_readMouth n 0 0 (hPz P)) 137 n (hH S) [some (.ref (3)), some (.ref (a1)), some (.int (i2))] [] 0 0 := by
  refine kX2_readMouth_137  ?_
  refine q_gp hs1.1 rfl ?_
  refine q_gp hs1.1 rfl ?_
  obtain ⟨hv1, h⟩ := h
  refine q_al (k := Int32.toNatClampNeg (i2)) hs1.2.2.2.2.1 (by decide) hv1 rfl ?_
  refine ⟨fun c => ?_, fun c => ?_⟩
  · have h := h.1 c
    refine ⟨q_rc rfl, ?_⟩
    obtain ⟨d2, P2, hdd, hC, h⟩ := h
    refine ⟨d2, _, hdd, hC, fun H9 x3 hp => ?_⟩
    obtain ⟨S2, rfl, hp⟩ := hp
    have h := h S2 x3 hp
    refine q_as (k := Int32.toNatClampNeg (i2)) hs1.2.2.2.2.2.1 (by decide) hv1 rfl ?_
    obtain ⟨S4, eS⟩ : ∃ z, z = uR S2 ((a1 + 5)) (Int32.toNatClampNeg (i2)) (x3) := ⟨_, rfl⟩
    rw [← eS]
    have h := h S4 eS
    exact h
  · have h := h.2 c
    refine q_as (k := Int32.toNatClampNeg (i2)) hs1.2.2.2.2.2.1 (by decide) hv1 rfl ?_
    obtain ⟨S5, eS⟩ : ∃ z, z = uR S ((a1 + 5)) (Int32.toNatClampNeg (i2)) ((-1 : Int32)) := ⟨_, rfl⟩
    rw [← eS]
    have h := h S5 eS
    exact h
theorem zX2_readMouth_166 {d n : Nat} {S : gS} {P : gS → Bool → Prop} {a1 : Nat} {i2 : Int32} (hs1 : isF a1) (h : vp_in (i2) 7 ∧ ((¬ ((sR S ((a1 + 5)) (Int32.toNatClampNeg (i2))) = (-1 : Int32)) → (∀ S2, S2 = uR S ((a1 + 6)) (Int32.toNatClampNeg (i2)) ((-1 : Int32)) → s_cv d mX1_putInOrder n S2 [.ref (a1), .int (i2)] (fun S3 => ∀ S4, S4 = uI S3 (a1) 0 (((sI S3 (a1) 0) + (1 : Int32))) → P S4 true))) ∧ ((sR S ((a1 + 5)) (Int32.toNatClampNeg (i2))) = (-1 : Int32) → P S false))) : gG d mX2_readMouth 0 0 (g_Xz mX2_readMouth n 0 0 (hPz P)) 166 n (hH S) [none, some (.ref (a1)), some (.int (i2))] [] 0 0 := by
  refine kX2_readMouth_166  ?_
  refine q_gp hs1.1 rfl ?_
  obtain ⟨hv1, h⟩ := h
  refine q_al (k := Int32.toNatClampNeg (i2)) hs1.2.2.2.2.2.1 (by decide) hv1 rfl ?_
  refine ⟨fun c => ?_, fun c => ?_⟩
  · have h := h.1 c
    refine q_gp hs1.1 rfl ?_
    refine q_as (k := Int32.toNatClampNeg (i2)) hs1.2.2.2.2.2.2.1 (by decide) hv1 rfl ?_
    obtain ⟨S2, eS⟩ : ∃ z, z = uR S ((a1 + 6)) (Int32.toNatClampNeg (i2)) ((-1 : Int32)) := ⟨_, rfl⟩
    rw [← eS]
    have h := h S2 eS
    refine ⟨q_rc hs1.1, ?_⟩
    obtain ⟨d2, P2, hdd, hC, h⟩ := h
    refine ⟨d2, _, hdd, hC, fun H9 hp => ?_⟩
    obtain ⟨S3, rfl, hp⟩ := hp
    have h := h S3 hp
    refine q_gi hs1.1 rfl ?_
    refine q_pi hs1.1 rfl ?_
    obtain ⟨S4, eS⟩ : ∃ z, z = uI S3 (a1) 0 (((sI S3 (a1) 0) + (1 : Int32))) := ⟨_, rfl⟩
    rw [← eS]
    have h := h S4 eS
    exact ⟨_, rfl, h⟩
  · have h := h.2 c
    exact ⟨_, rfl, h⟩

theorem zX2_isNewName_0 {d n : Nat} {S : gS} {P : gS → Bool → Prop} {a1 : Nat} (hs1 : isF a1) (h : s_cz d mX8_isName n S [.ref (1)] (fun S1 b2 => (b2 = true → s_cz d mX1_isTold n S1 [.ref (a1), .long ((sJ S1 (1) 5))] (fun S3 b4 => (b4 = false → P S3 true) ∧ (b4 = true → s_cz d mX8_fail n S3 [.ref (1), .int ((3 : Int32))] (fun S5 b6 => (b6 = false → P S5 false) ∧ (b6 = true → P S5 true))))) ∧ (b2 = false → s_cz d mX8_fail n S1 [.ref (1), .int ((1 : Int32))] (fun S7 b8 => P S7 b8)))) : gG d mX2_isNewName 0 0 (g_Xz mX2_isNewName n 0 0 (hPz P)) 0 n (hH S) [some (.ref (3)), some (.ref (a1))] [] 0 0 := by
  refine kX2_isNewName_0  ?_
  refine q_gc rfl rfl ?_
  refine ⟨q_rc rfl, ?_⟩
  obtain ⟨d2, P2, hdd, hC, h⟩ := h
  refine ⟨d2, _, hdd, hC, fun H9 b2 hp => ?_⟩
  obtain ⟨S1, rfl, hp⟩ := hp
  have h := h S1 b2 hp
  refine ⟨fun c => ?_, fun c => ?_⟩
  · have h := h.1 c
    refine q_gc rfl rfl ?_
    refine q_gl rfl rfl ?_
    refine ⟨q_rc hs1.1, ?_⟩
    obtain ⟨d2, P2, hdd, hC, h⟩ := h
    refine ⟨d2, _, hdd, hC, fun H9 b4 hp => ?_⟩
    obtain ⟨S3, rfl, hp⟩ := hp
    have h := h S3 b4 hp
    refine ⟨fun c => ?_, fun c => ?_⟩
    · have h := h.1 c
      exact ⟨_, rfl, h⟩
    · have h := h.2 c
      refine q_gc rfl rfl ?_
      refine ⟨q_rc rfl, ?_⟩
      obtain ⟨d2, P2, hdd, hC, h⟩ := h
      refine ⟨d2, _, hdd, hC, fun H9 b6 hp => ?_⟩
      obtain ⟨S5, rfl, hp⟩ := hp
      have h := h S5 b6 hp
      refine ⟨fun c => ?_, fun c => ?_⟩
      · have h := h.1 c
        exact ⟨_, rfl, h⟩
      · have h := h.2 c
        exact ⟨_, rfl, h⟩
  · have h := h.2 c
    refine q_gc rfl rfl ?_
    refine ⟨q_rc rfl, ?_⟩
    obtain ⟨d2, P2, hdd, hC, h⟩ := h
    refine ⟨d2, _, hdd, hC, fun H9 b8 hp => ?_⟩
    obtain ⟨S7, rfl, hp⟩ := hp
    have h := h S7 b8 hp
    exact ⟨_, rfl, h⟩

theorem zX2_kindHere_0 {d n : Nat} {S : gS} {P : gS → Int32 → Prop}   (h : s_cz d mX8_isWord n S [.ref (1), .float (22)] (fun S1 b2 => (b2 = false → s_cz d mX8_isWord n S1 [.ref (1), .float (23)] (fun S3 b4 => (b4 = false → s_cz d mX8_isWord n S3 [.ref (1), .float (24)] (fun S5 b6 => (b6 = false → s_cz d mX8_isWord n S5 [.ref (1), .float (25)] (fun S7 b8 => (b8 = false → P S7 ((-1 : Int32))) ∧ (b8 = true → P S7 ((3 : Int32))))) ∧ (b6 = true → P S5 ((2 : Int32))))) ∧ (b4 = true → P S3 ((1 : Int32))))) ∧ (b2 = true → P S1 ((0 : Int32))))) : gG d mX2_kindHere 0 0 (g_Xj mX2_kindHere n 0 0 (hPi P)) 0 n (hH S) [some (.ref (3))] [] 0 0 := by
  refine kX2_kindHere_0  ?_
  refine q_gc rfl rfl ?_
  refine ⟨q_rc rfl, ?_⟩
  obtain ⟨d2, P2, hdd, hC, h⟩ := h
  refine ⟨d2, _, hdd, hC, fun H9 b2 hp => ?_⟩
  obtain ⟨S1, rfl, hp⟩ := hp
  have h := h S1 b2 hp
  refine ⟨fun c => ?_, fun c => ?_⟩
  · have h := h.1 c
    refine q_gc rfl rfl ?_
    refine ⟨q_rc rfl, ?_⟩
    obtain ⟨d2, P2, hdd, hC, h⟩ := h
    refine ⟨d2, _, hdd, hC, fun H9 b4 hp => ?_⟩
    obtain ⟨S3, rfl, hp⟩ := hp
    have h := h S3 b4 hp
    refine ⟨fun c => ?_, fun c => ?_⟩
    · have h := h.1 c
      refine q_gc rfl rfl ?_
      refine ⟨q_rc rfl, ?_⟩
      obtain ⟨d2, P2, hdd, hC, h⟩ := h
      refine ⟨d2, _, hdd, hC, fun H9 b6 hp => ?_⟩
      obtain ⟨S5, rfl, hp⟩ := hp
      have h := h S5 b6 hp
      refine ⟨fun c => ?_, fun c => ?_⟩
      · have h := h.1 c
        refine q_gc rfl rfl ?_
        refine ⟨q_rc rfl, ?_⟩
        obtain ⟨d2, P2, hdd, hC, h⟩ := h
        refine ⟨d2, _, hdd, hC, fun H9 b8 hp => ?_⟩
        obtain ⟨S7, rfl, hp⟩ := hp
        have h := h S7 b8 hp
        refine ⟨fun c => ?_, fun c => ?_⟩
        · have h := h.1 c
          exact ⟨_, rfl, h⟩
        · have h := h.2 c
          exact ⟨_, rfl, h⟩
      · have h := h.2 c
        exact ⟨_, rfl, h⟩
    · have h := h.2 c
      exact ⟨_, rfl, h⟩
  · have h := h.2 c
    exact ⟨_, rfl, h⟩

theorem zX2_readMeasure_0 {d n : Nat} {S : gS} {P : gS → Int32 → Prop} {t1 : UInt32} {i2 : Int32} {i3 : Int32} (ht1 : (t1).toNat < 45) (h : s_cz d mX8_takeWord n S [.ref (1), .float (t1)] (fun S1 b2 => (b2 = false → P S1 ((-1 : Int32))) ∧ (b2 = true → s_ci d mX8_takeNumber n S1 [.ref (1), .int (i2), .int (i3)] (fun S3 x4 => P S3 (x4))))) : gG d mX2_readMeasure 0 0 (g_Xj mX2_readMeasure n 0 0 (hPi P)) 0 n (hH S) [some (.ref (3)), some (.float (t1)), some (.int (i2)), some (.int (i3))] [] 0 0 := by
  refine kX2_readMeasure_0 ht1 ?_
  refine q_gc rfl rfl ?_
  refine ⟨q_rc rfl, ?_⟩
  obtain ⟨d2, P2, hdd, hC, h⟩ := h
  refine ⟨d2, _, hdd, hC, fun H9 b2 hp => ?_⟩
  obtain ⟨S1, rfl, hp⟩ := hp
  have h := h S1 b2 hp
  refine ⟨fun c => ?_, fun c => ?_⟩
  · have h := h.1 c
    exact ⟨_, rfl, h⟩
  · have h := h.2 c
    refine q_gc rfl rfl ?_
    refine ⟨q_rc rfl, ?_⟩
    obtain ⟨d2, P2, hdd, hC, h⟩ := h
    refine ⟨d2, _, hdd, hC, fun H9 x4 hp => ?_⟩
    obtain ⟨S3, rfl, hp⟩ := hp
    have h := h S3 x4 hp
    exact ⟨_, rfl, h⟩

theorem zX2_readGutter_0 {d n : Nat} {S : gS} {P : gS → Bool → Prop} {a1 : Nat} (hs1 : isF a1) (h : s_cv d mX8_advance n S [.ref (1)] (fun S1 => s_ci d mX8_mouthHere n S1 [.ref (1), .ref (a1)] (fun S2 x3 => (¬ (x3 = (-1 : Int32)) → vp_in (x3) 7 ∧ (((sR S2 ((a1 + 6)) (Int32.toNatClampNeg (x3))) = (-1 : Int32) → s_cv d mX8_advance n S2 [.ref (1)] (fun S5 => s_ci d mX8_mouthHere n S5 [.ref (1), .ref (a1)] (fun S6 x7 => (¬ (x7 = (-1 : Int32)) → vp_in (x7) 7 ∧ ((((sR S6 ((a1 + 3)) (Int32.toNatClampNeg (x7))) < (sR S6 ((a1 + 3)) (Int32.toNatClampNeg (x3))) → s_cv d mX8_advance n S6 [.ref (1)] (fun S9 => (∀ S10, S10 = uR S9 ((a1 + 6)) (Int32.toNatClampNeg (x3)) (x7) → P S10 true))) ∧ (¬ ((sR S6 ((a1 + 3)) (Int32.toNatClampNeg (x7))) < (sR S6 ((a1 + 3)) (Int32.toNatClampNeg (x3)))) → s_cz d mX8_fail n S6 [.ref (1), .int ((3 : Int32))] (fun S11 b12 => P S11 b12))))) ∧ (x7 = (-1 : Int32) → P S6 false)))) ∧ (¬ ((sR S2 ((a1 + 6)) (Int32.toNatClampNeg (x3))) = (-1 : Int32)) → s_cz d mX8_fail n S2 [.ref (1), .int ((3 : Int32))] (fun S13 b14 => P S13 b14)))) ∧ (x3 = (-1 : Int32) → P S2 false)))) : gG d mX2_readGutter 0 0 (g_Xz mX2_readGutter n 0 0 (hPz P)) 0 n (hH S) [some (.ref (3)), some (.ref (a1)), none, none] [] 0 0 := by
  refine kX2_readGutter_0  ?_
  refine q_gc rfl rfl ?_
  refine ⟨q_rc rfl, ?_⟩
  obtain ⟨d2, P2, hdd, hC, h⟩ := h
  refine ⟨d2, _, hdd, hC, fun H9 hp => ?_⟩
  obtain ⟨S1, rfl, hp⟩ := hp
  have h := h S1 hp
  refine q_gc rfl rfl ?_
  refine ⟨q_rc rfl, ?_⟩
  obtain ⟨d2, P2, hdd, hC, h⟩ := h
  refine ⟨d2, _, hdd, hC, fun H9 x3 hp => ?_⟩
  obtain ⟨S2, rfl, hp⟩ := hp
  have h := h S2 x3 hp
  refine ⟨fun c => ?_, fun c => ?_⟩
  · have h := h.1 c
    refine q_gp hs1.1 rfl ?_
    obtain ⟨hv4, h⟩ := h
    refine q_al (k := Int32.toNatClampNeg (x3)) hs1.2.2.2.2.2.2.1 (by decide) hv4 rfl ?_
    refine ⟨fun c => ?_, fun c => ?_⟩
    · have h := h.1 c
      refine q_gc rfl rfl ?_
      refine ⟨q_rc rfl, ?_⟩
      obtain ⟨d2, P2, hdd, hC, h⟩ := h
      refine ⟨d2, _, hdd, hC, fun H9 hp => ?_⟩
      obtain ⟨S5, rfl, hp⟩ := hp
      have h := h S5 hp
      refine q_gc rfl rfl ?_
      refine ⟨q_rc rfl, ?_⟩
      obtain ⟨d2, P2, hdd, hC, h⟩ := h
      refine ⟨d2, _, hdd, hC, fun H9 x7 hp => ?_⟩
      obtain ⟨S6, rfl, hp⟩ := hp
      have h := h S6 x7 hp
      refine ⟨fun c => ?_, fun c => ?_⟩
      · have h := h.1 c
        refine q_gp hs1.1 rfl ?_
        obtain ⟨hv8, h⟩ := h
        refine q_al (k := Int32.toNatClampNeg (x7)) hs1.2.2.2.1 (by decide) hv8 rfl ?_
        refine q_gp hs1.1 rfl ?_
        refine q_al (k := Int32.toNatClampNeg (x3)) hs1.2.2.2.1 (by decide) hv4 rfl ?_
        refine ⟨fun c => ?_, fun c => ?_⟩
        · have h := h.1 c
          refine q_gc rfl rfl ?_
          refine ⟨q_rc rfl, ?_⟩
          obtain ⟨d2, P2, hdd, hC, h⟩ := h
          refine ⟨d2, _, hdd, hC, fun H9 hp => ?_⟩
          obtain ⟨S9, rfl, hp⟩ := hp
          have h := h S9 hp
          refine q_gp hs1.1 rfl ?_
          refine q_as (k := Int32.toNatClampNeg (x3)) hs1.2.2.2.2.2.2.1 (by decide) hv4 rfl ?_
          obtain ⟨S10, eS⟩ : ∃ z, z = uR S9 ((a1 + 6)) (Int32.toNatClampNeg (x3)) (x7) := ⟨_, rfl⟩
          rw [← eS]
          have h := h S10 eS
          exact ⟨_, rfl, h⟩
        · have h := h.2 c
          refine q_gc rfl rfl ?_
          refine ⟨q_rc rfl, ?_⟩
          obtain ⟨d2, P2, hdd, hC, h⟩ := h
          refine ⟨d2, _, hdd, hC, fun H9 b12 hp => ?_⟩
          obtain ⟨S11, rfl, hp⟩ := hp
          have h := h S11 b12 hp
          exact ⟨_, rfl, h⟩
      · have h := h.2 c
        exact ⟨_, rfl, h⟩
    · have h := h.2 c
      refine q_gc rfl rfl ?_
      refine ⟨q_rc rfl, ?_⟩
      obtain ⟨d2, P2, hdd, hC, h⟩ := h
      refine ⟨d2, _, hdd, hC, fun H9 b14 hp => ?_⟩
      obtain ⟨S13, rfl, hp⟩ := hp
      have h := h S13 b14 hp
      exact ⟨_, rfl, h⟩
  · have h := h.2 c
    exact ⟨_, rfl, h⟩

theorem zX2_readLetterNamed_0 {d n : Nat} {S : gS} {P : gS → Bool → Prop} {a1 : Nat} (hs1 : isF a1) (h : ((sI S (a1) 8) < (6 : Int32) → s_cv d mX8_advance n S [.ref (1)] (fun S1 => s_cz d mX2_isNewName n S1 [.ref (3), .ref (a1)] (fun S2 b3 => (b3 = true → vp_in ((sI S (a1) 8)) 6 ∧ (∀ S5, S5 = uL S2 ((a1 + 8)) (Int32.toNatClampNeg ((sI S (a1) 8))) ((sJ S2 (1) 5)) → s_cv d mX8_advance n S5 [.ref (1)] (fun S6 => s_cz d mX8_takeWord n S6 [.ref (1), .float (31)] (fun S7 b8 => P S7 b8)))) ∧ (b3 = false → P S2 false)))) ∧ (¬ ((sI S (a1) 8) < (6 : Int32)) → s_cz d mX8_fail n S [.ref (1), .int ((5 : Int32))] (fun S9 b10 => P S9 b10))) : gG d mX2_readLetterNamed 0 0 (g_Xz mX2_readLetterNamed n 0 0 (hPz P)) 0 n (hH S) [some (.ref (3)), some (.ref (a1)), none] [] 0 0 := by
  refine kX2_readLetterNamed_0  ?_
  refine q_gi hs1.1 rfl ?_
  refine ⟨fun c => ?_, fun c => ?_⟩
  · have h := h.1 c
    refine q_gc rfl rfl ?_
    refine ⟨q_rc rfl, ?_⟩
    obtain ⟨d2, P2, hdd, hC, h⟩ := h
    refine ⟨d2, _, hdd, hC, fun H9 hp => ?_⟩
    obtain ⟨S1, rfl, hp⟩ := hp
    have h := h S1 hp
    refine ⟨q_rc rfl, ?_⟩
    obtain ⟨d2, P2, hdd, hC, h⟩ := h
    refine ⟨d2, _, hdd, hC, fun H9 b3 hp => ?_⟩
    obtain ⟨S2, rfl, hp⟩ := hp
    have h := h S2 b3 hp
    refine ⟨fun c => ?_, fun c => ?_⟩
    · have h := h.1 c
      refine q_gp hs1.1 rfl ?_
      refine q_gc rfl rfl ?_
      refine q_gl rfl rfl ?_
      obtain ⟨hv4, h⟩ := h
      refine q_lst (k := Int32.toNatClampNeg ((sI S (a1) 8))) hs1.2.2.2.2.2.2.2.2.1 hv4 rfl ?_
      obtain ⟨S5, eS⟩ : ∃ z, z = uL S2 ((a1 + 8)) (Int32.toNatClampNeg ((sI S (a1) 8))) ((sJ S2 (1) 5)) := ⟨_, rfl⟩
      rw [← eS]
      have h := h S5 eS
      refine q_gc rfl rfl ?_
      refine ⟨q_rc rfl, ?_⟩
      obtain ⟨d2, P2, hdd, hC, h⟩ := h
      refine ⟨d2, _, hdd, hC, fun H9 hp => ?_⟩
      obtain ⟨S6, rfl, hp⟩ := hp
      have h := h S6 hp
      refine q_gc rfl rfl ?_
      refine ⟨q_rc rfl, ?_⟩
      obtain ⟨d2, P2, hdd, hC, h⟩ := h
      refine ⟨d2, _, hdd, hC, fun H9 b8 hp => ?_⟩
      obtain ⟨S7, rfl, hp⟩ := hp
      have h := h S7 b8 hp
      exact ⟨_, rfl, h⟩
    · have h := h.2 c
      exact ⟨_, rfl, h⟩
  · have h := h.2 c
    refine q_gc rfl rfl ?_
    refine ⟨q_rc rfl, ?_⟩
    obtain ⟨d2, P2, hdd, hC, h⟩ := h
    refine ⟨d2, _, hdd, hC, fun H9 b10 hp => ?_⟩
    obtain ⟨S9, rfl, hp⟩ := hp
    have h := h S9 b10 hp
    exact ⟨_, rfl, h⟩

theorem zX2_readLetterMouths_0 {d n : Nat} {S : gS} {P : gS → Bool → Prop} {a1 : Nat} (hs1 : isF a1) (h : gG d mX2_readLetterMouths 0 0 (g_Xz mX2_readLetterMouths n 0 0 (hPz P)) 4 n (hH S) [some (.ref (3)), some (.ref (a1)), some (.int ((0 : Int32))), some (.int ((0 : Int32))), none] [] 0 0) : gG d mX2_readLetterMouths 0 0 (g_Xz mX2_readLetterMouths n 0 0 (hPz P)) 0 n (hH S) [some (.ref (3)), some (.ref (a1)), none, none, none] [] 0 0 := by
  refine kX2_readLetterMouths_0  ?_
  exact h
theorem zX2_readLetterMouths_4 {d n : Nat} {S : gS} {P : gS → Bool → Prop} {a1 : Nat} {i2 : Int32} {i3 : Int32} (hs1 : isF a1) (h : ((7 : Int32) < i3 → gG d mX2_readLetterMouths 0 0 (g_Xz mX2_readLetterMouths n 0 0 (hPz P)) 82 n (hH S) [some (.ref (3)), some (.ref (a1)), some (.int (i2)), none, none] [] 0 0) ∧ (¬ ((7 : Int32) < i3) → (i2 = 0 → gG d mX2_readLetterMouths 0 0 (g_Xz mX2_readLetterMouths n 0 0 (hPz P)) 26 n (hH S) [some (.ref (3)), some (.ref (a1)), some (.int (i2)), some (.int (i3)), none] [] 0 0) ∧ (¬ (i2 = 0) → s_cz d mX8_isSign n S [.ref (1), .int ((59 : Int32))] (fun S1 b2 => (b2 = true → gG d mX2_readLetterMouths 0 0 (g_Xz mX2_readLetterMouths n 0 0 (hPz P)) 82 n (hH S1) [some (.ref (3)), some (.ref (a1)), some (.int (i2)), none, none] [] 0 0) ∧ (b2 = false → gG d mX2_readLetterMouths 0 0 (g_Xz mX2_readLetterMouths n 0 0 (hPz P)) 26 n (hH S1) [some (.ref (3)), some (.ref (a1)), some (.int (i2)), some (.int (i3)), none] [] 0 0))))) : gG d mX2_readLetterMouths 0 0 (g_Xz mX2_readLetterMouths n 0 0 (hPz P)) 4 n (hH S) [some (.ref (3)), some (.ref (a1)), some (.int (i2)), some (.int (i3)), none] [] 0 0 := by
  refine kX2_readLetterMouths_4  ?_
  refine ⟨fun c => ?_, fun c => ?_⟩
  · have h := h.1 c
    exact h
  · have h := h.2 c
    refine ⟨fun c => ?_, fun c => ?_⟩
    · have h := h.1 c
      exact h
    · have h := h.2 c
      refine q_gc rfl rfl ?_
      refine ⟨q_rc rfl, ?_⟩
      obtain ⟨d2, P2, hdd, hC, h⟩ := h
      refine ⟨d2, _, hdd, hC, fun H9 b2 hp => ?_⟩
      obtain ⟨S1, rfl, hp⟩ := hp
      have h := h S1 b2 hp
      refine ⟨fun c => ?_, fun c => ?_⟩
      · have h := h.1 c
        exact h
      · have h := h.2 c
        exact h
theorem zX2_readLetterMouths_26 {d n : Nat} {S : gS} {P : gS → Bool → Prop} {a1 : Nat} {i2 : Int32} {i3 : Int32} (hs1 : isF a1) (h : s_ci d mX8_mouthHere n S [.ref (1), .ref (a1)] (fun S1 x2 => (¬ (x2 = (-1 : Int32)) → (((i2 >>> (x2 &&& 31)) &&& (1 : Int32)) = 0 → s_cv d mX8_advance n S1 [.ref (1)] (fun S3 => gG d mX2_readLetterMouths 0 0 (g_Xz mX2_readLetterMouths n 0 0 (hPz P)) 4 n (hH S3) [some (.ref (3)), some (.ref (a1)), some (.int ((i2 ||| ((1 : Int32) <<< (x2 &&& 31))))), some (.int ((i3 + 1))), none] [] 0 0)) ∧ (¬ (((i2 >>> (x2 &&& 31)) &&& (1 : Int32)) = 0) → s_cz d mX8_fail n S1 [.ref (1), .int ((3 : Int32))] (fun S4 b5 => P S4 b5))) ∧ (x2 = (-1 : Int32) → P S1 false))) : gG d mX2_readLetterMouths 0 0 (g_Xz mX2_readLetterMouths n 0 0 (hPz P)) 26 n (hH S) [some (.ref (3)), some (.ref (a1)), some (.int (i2)), some (.int (i3)), none] [] 0 0 := by
  refine kX2_readLetterMouths_26  ?_
  refine q_gc rfl rfl ?_
  refine ⟨q_rc rfl, ?_⟩
  obtain ⟨d2, P2, hdd, hC, h⟩ := h
  refine ⟨d2, _, hdd, hC, fun H9 x2 hp => ?_⟩
  obtain ⟨S1, rfl, hp⟩ := hp
  have h := h S1 x2 hp
  refine ⟨fun c => ?_, fun c => ?_⟩
  · have h := h.1 c
    refine ⟨fun c => ?_, fun c => ?_⟩
    · have h := h.1 c
      refine q_gc rfl rfl ?_
      refine ⟨q_rc rfl, ?_⟩
      obtain ⟨d2, P2, hdd, hC, h⟩ := h
      refine ⟨d2, _, hdd, hC, fun H9 hp => ?_⟩
      obtain ⟨S3, rfl, hp⟩ := hp
      have h := h S3 hp
      exact h
    · have h := h.2 c
      refine q_gc rfl rfl ?_
      refine ⟨q_rc rfl, ?_⟩
      obtain ⟨d2, P2, hdd, hC, h⟩ := h
      refine ⟨d2, _, hdd, hC, fun H9 b5 hp => ?_⟩
      obtain ⟨S4, rfl, hp⟩ := hp
      have h := h S4 b5 hp
      exact ⟨_, rfl, h⟩
  · have h := h.2 c
    exact ⟨_, rfl, h⟩
theorem zX2_readLetterMouths_82 {d n : Nat} {S : gS} {P : gS → Bool → Prop} {a1 : Nat} {i2 : Int32} (hs1 : isF a1) (h : s_ci d mX1_letterOf n S [.ref (a1), .int (i2)] (fun S1 x2 => (x2 = (-1 : Int32) → ((sI S1 (a1) 8) < (6 : Int32) → vp_in ((sI S1 (a1) 8)) 6 ∧ (∀ S4, S4 = uR S1 ((a1 + 9)) (Int32.toNatClampNeg ((sI S1 (a1) 8))) (i2) → ∀ S5, S5 = uI S4 (a1) 8 (((sI S4 (a1) 8) + (1 : Int32))) → P S5 true)) ∧ (¬ ((sI S1 (a1) 8) < (6 : Int32)) → s_cz d mX8_fail n S1 [.ref (1), .int ((5 : Int32))] (fun S6 b7 => P S6 b7))) ∧ (¬ (x2 = (-1 : Int32)) → s_cz d mX8_fail n S1 [.ref (1), .int ((3 : Int32))] (fun S8 b9 => P S8 b9)))) : gG d mX2_readLetterMouths 0 0 (g_Xz mX2_readLetterMouths n 0 0 (hPz P)) 82 n (hH S) [some (.ref (3)), some (.ref (a1)), some (.int (i2)), none, none] [] 0 0 := by
  refine kX2_readLetterMouths_82  ?_
  refine ⟨q_rc hs1.1, ?_⟩
  obtain ⟨d2, P2, hdd, hC, h⟩ := h
  refine ⟨d2, _, hdd, hC, fun H9 x2 hp => ?_⟩
  obtain ⟨S1, rfl, hp⟩ := hp
  have h := h S1 x2 hp
  refine ⟨fun c => ?_, fun c => ?_⟩
  · have h := h.1 c
    refine q_gi hs1.1 rfl ?_
    refine ⟨fun c => ?_, fun c => ?_⟩
    · have h := h.1 c
      refine q_gp hs1.1 rfl ?_
      obtain ⟨hv3, h⟩ := h
      refine q_as (k := Int32.toNatClampNeg ((sI S1 (a1) 8))) hs1.2.2.2.2.2.2.2.2.2.1 (by decide) hv3 rfl ?_
      obtain ⟨S4, eS⟩ : ∃ z, z = uR S1 ((a1 + 9)) (Int32.toNatClampNeg ((sI S1 (a1) 8))) (i2) := ⟨_, rfl⟩
      rw [← eS]
      have h := h S4 eS
      refine q_gi hs1.1 rfl ?_
      refine q_pi hs1.1 rfl ?_
      obtain ⟨S5, eS⟩ : ∃ z, z = uI S4 (a1) 8 (((sI S4 (a1) 8) + (1 : Int32))) := ⟨_, rfl⟩
      rw [← eS]
      have h := h S5 eS
      exact ⟨_, rfl, h⟩
    · have h := h.2 c
      refine q_gc rfl rfl ?_
      refine ⟨q_rc rfl, ?_⟩
      obtain ⟨d2, P2, hdd, hC, h⟩ := h
      refine ⟨d2, _, hdd, hC, fun H9 b7 hp => ?_⟩
      obtain ⟨S6, rfl, hp⟩ := hp
      have h := h S6 b7 hp
      exact ⟨_, rfl, h⟩
  · have h := h.2 c
    refine q_gc rfl rfl ?_
    refine ⟨q_rc rfl, ?_⟩
    obtain ⟨d2, P2, hdd, hC, h⟩ := h
    refine ⟨d2, _, hdd, hC, fun H9 b9 hp => ?_⟩
    obtain ⟨S8, rfl, hp⟩ := hp
    have h := h S8 b9 hp
    exact ⟨_, rfl, h⟩

theorem zX2_readRain_0 {d n : Nat} {S : gS} {P : gS → Bool → Prop} {a1 : Nat} (hs1 : isF a1) (h : ((sI S (a1) 11) ≤ 0 → s_cv d mX8_advance n S [.ref (1)] (fun S1 => gG d mX2_readRain 0 0 (g_Xz mX2_readRain n 0 0 (hPz P)) 25 n (hH S1) [some (.ref (3)), some (.ref (a1)), some (.int ((0 : Int32)))] [] 0 0)) ∧ (¬ ((sI S (a1) 11) ≤ 0) → s_cz d mX8_fail n S [.ref (1), .int ((3 : Int32))] (fun S2 b3 => P S2 b3))) : gG d mX2_readRain 0 0 (g_Xz mX2_readRain n 0 0 (hPz P)) 0 n (hH S) [some (.ref (3)), some (.ref (a1)), none] [] 0 0 := by
  refine kX2_readRain_0  ?_
  refine q_gi hs1.1 rfl ?_
  refine ⟨fun c => ?_, fun c => ?_⟩
  · have h := h.1 c
    refine q_gc rfl rfl ?_
    refine ⟨q_rc rfl, ?_⟩
    obtain ⟨d2, P2, hdd, hC, h⟩ := h
    refine ⟨d2, _, hdd, hC, fun H9 hp => ?_⟩
    obtain ⟨S1, rfl, hp⟩ := hp
    have h := h S1 hp
    exact h
  · have h := h.2 c
    refine q_gc rfl rfl ?_
    refine ⟨q_rc rfl, ?_⟩
    obtain ⟨d2, P2, hdd, hC, h⟩ := h
    refine ⟨d2, _, hdd, hC, fun H9 b3 hp => ?_⟩
    obtain ⟨S2, rfl, hp⟩ := hp
    have h := h S2 b3 hp
    exact ⟨_, rfl, h⟩
theorem zX2_readRain_25 {d n : Nat} {S : gS} {P : gS → Bool → Prop} {a1 : Nat} {i2 : Int32} (hs1 : isF a1) (h : ((12 : Int32) ≤ i2 → gG d mX2_readRain 0 0 (g_Xz mX2_readRain n 0 0 (hPz P)) 88 n (hH S) [some (.ref (3)), none, none] [] 0 0) ∧ (¬ ((12 : Int32) ≤ i2) → (i2 = 0 → gG d mX2_readRain 0 0 (g_Xz mX2_readRain n 0 0 (hPz P)) 47 n (hH S) [some (.ref (3)), some (.ref (a1)), some (.int (i2))] [] 0 0) ∧ (¬ (i2 = 0) → s_cz d mX8_isSign n S [.ref (1), .int ((59 : Int32))] (fun S1 b2 => (b2 = true → gG d mX2_readRain 0 0 (g_Xz mX2_readRain n 0 0 (hPz P)) 88 n (hH S1) [some (.ref (3)), none, none] [] 0 0) ∧ (b2 = false → gG d mX2_readRain 0 0 (g_Xz mX2_readRain n 0 0 (hPz P)) 47 n (hH S1) [some (.ref (3)), some (.ref (a1)), some (.int (i2))] [] 0 0))))) : gG d mX2_readRain 0 0 (g_Xz mX2_readRain n 0 0 (hPz P)) 25 n (hH S) [some (.ref (3)), some (.ref (a1)), some (.int (i2))] [] 0 0 := by
  refine kX2_readRain_25  ?_
  refine ⟨fun c => ?_, fun c => ?_⟩
  · have h := h.1 c
    exact h
  · have h := h.2 c
    refine ⟨fun c => ?_, fun c => ?_⟩
    · have h := h.1 c
      exact h
    · have h := h.2 c
      refine q_gc rfl rfl ?_
      refine ⟨q_rc rfl, ?_⟩
      obtain ⟨d2, P2, hdd, hC, h⟩ := h
      refine ⟨d2, _, hdd, hC, fun H9 b2 hp => ?_⟩
      obtain ⟨S1, rfl, hp⟩ := hp
      have h := h S1 b2 hp
      refine ⟨fun c => ?_, fun c => ?_⟩
      · have h := h.1 c
        exact h
      · have h := h.2 c
        exact h
theorem zX2_readRain_47 {d n : Nat} {S : gS} {P : gS → Bool → Prop} {a1 : Nat} {i2 : Int32} (hs1 : isF a1) (h : s_ci d mX8_takeNumber n S [.ref (1), .int ((0 : Int32)), .int ((9 : Int32))] (fun S1 x2 => vp_in (i2) 12 ∧ (∀ S4, S4 = uR S1 ((a1 + 10)) (Int32.toNatClampNeg (i2)) (x2) → ((¬ ((sR S4 ((a1 + 10)) (Int32.toNatClampNeg (i2))) = (-1 : Int32)) → ∀ S5, S5 = uI S4 (a1) 11 ((i2 + (1 : Int32))) → gG d mX2_readRain 0 0 (g_Xz mX2_readRain n 0 0 (hPz P)) 25 n (hH S5) [some (.ref (3)), some (.ref (a1)), some (.int ((i2 + 1)))] [] 0 0) ∧ ((sR S4 ((a1 + 10)) (Int32.toNatClampNeg (i2))) = (-1 : Int32) → P S4 false))))) : gG d mX2_readRain 0 0 (g_Xz mX2_readRain n 0 0 (hPz P)) 47 n (hH S) [some (.ref (3)), some (.ref (a1)), some (.int (i2))] [] 0 0 := by
  refine kX2_readRain_47  ?_
  refine q_gp hs1.1 rfl ?_
  refine q_gc rfl rfl ?_
  refine ⟨q_rc rfl, ?_⟩
  obtain ⟨d2, P2, hdd, hC, h⟩ := h
  refine ⟨d2, _, hdd, hC, fun H9 x2 hp => ?_⟩
  obtain ⟨S1, rfl, hp⟩ := hp
  have h := h S1 x2 hp
  obtain ⟨hv3, h⟩ := h
  refine q_as (k := Int32.toNatClampNeg (i2)) hs1.2.2.2.2.2.2.2.2.2.2.1 (by decide) hv3 rfl ?_
  obtain ⟨S4, eS⟩ : ∃ z, z = uR S1 ((a1 + 10)) (Int32.toNatClampNeg (i2)) (x2) := ⟨_, rfl⟩
  rw [← eS]
  have h := h S4 eS
  refine q_gp hs1.1 rfl ?_
  refine q_al (k := Int32.toNatClampNeg (i2)) hs1.2.2.2.2.2.2.2.2.2.2.1 (by decide) hv3 rfl ?_
  refine ⟨fun c => ?_, fun c => ?_⟩
  · have h := h.1 c
    refine q_pi hs1.1 rfl ?_
    obtain ⟨S5, eS⟩ : ∃ z, z = uI S4 (a1) 11 ((i2 + (1 : Int32))) := ⟨_, rfl⟩
    rw [← eS]
    have h := h S5 eS
    exact h
  · have h := h.2 c
    exact ⟨_, rfl, h⟩
theorem zX2_readRain_88 {d n : Nat} {S : gS} {P : gS → Bool → Prop}   (h : s_cz d mX8_isNumber n S [.ref (1)] (fun S1 b2 => (b2 = false → P S1 true) ∧ (b2 = true → ((9 : Int32) < (sI S1 (1) 6) → gG d mX2_readRain 0 0 (g_Xz mX2_readRain n 0 0 (hPz P)) 116 n (hH S1) [some (.ref (3)), none, some (.int ((0 : Int32)))] [] 0 0) ∧ (¬ ((9 : Int32) < (sI S1 (1) 6)) → gG d mX2_readRain 0 0 (g_Xz mX2_readRain n 0 0 (hPz P)) 116 n (hH S1) [some (.ref (3)), none, some (.int ((1 : Int32)))] [] 0 0)))) : gG d mX2_readRain 0 0 (g_Xz mX2_readRain n 0 0 (hPz P)) 88 n (hH S) [some (.ref (3)), none, none] [] 0 0 := by
  refine kX2_readRain_88  ?_
  refine q_gc rfl rfl ?_
  refine ⟨q_rc rfl, ?_⟩
  obtain ⟨d2, P2, hdd, hC, h⟩ := h
  refine ⟨d2, _, hdd, hC, fun H9 b2 hp => ?_⟩
  obtain ⟨S1, rfl, hp⟩ := hp
  have h := h S1 b2 hp
  refine ⟨fun c => ?_, fun c => ?_⟩
  · have h := h.1 c
    exact ⟨_, rfl, h⟩
  · have h := h.2 c
    refine q_gc rfl rfl ?_
    refine q_gi rfl rfl ?_
    refine ⟨fun c => ?_, fun c => ?_⟩
    · have h := h.1 c
      exact h
    · have h := h.2 c
      exact h
theorem zX2_readRain_116 {d n : Nat} {S : gS} {P : gS → Bool → Prop} {i2 : Int32}  (h : (i2 = 0 → s_cz d mX8_fail n S [.ref (1), .int ((4 : Int32))] (fun S1 b2 => P S1 b2)) ∧ (¬ (i2 = 0) → s_cz d mX8_fail n S [.ref (1), .int ((5 : Int32))] (fun S3 b4 => P S3 b4))) : gG d mX2_readRain 0 0 (g_Xz mX2_readRain n 0 0 (hPz P)) 116 n (hH S) [some (.ref (3)), none, some (.int (i2))] [] 0 0 := by
  refine kX2_readRain_116  ?_
  refine q_gc rfl rfl ?_
  refine ⟨fun c => ?_, fun c => ?_⟩
  · have h := h.1 c
    refine ⟨q_rc rfl, ?_⟩
    obtain ⟨d2, P2, hdd, hC, h⟩ := h
    refine ⟨d2, _, hdd, hC, fun H9 b2 hp => ?_⟩
    obtain ⟨S1, rfl, hp⟩ := hp
    have h := h S1 b2 hp
    exact ⟨_, rfl, h⟩
  · have h := h.2 c
    refine ⟨q_rc rfl, ?_⟩
    obtain ⟨d2, P2, hdd, hC, h⟩ := h
    refine ⟨d2, _, hdd, hC, fun H9 b4 hp => ?_⟩
    obtain ⟨S3, rfl, hp⟩ := hp
    have h := h S3 b4 hp
    exact ⟨_, rfl, h⟩

theorem zX4_readLevel_0 {d n : Nat} {S : gS} {P : gS → Bool → Prop} {a1 : Nat} {i2 : Int32} {i3 : Int32} (hs1 : isLw a1) (h : (i2 ≤ (3 : Int32) → s_cz d mX4_readLevel n S [.ref (4), .ref (a1), .int ((i2 + (1 : Int32))), .int (i3)] (fun S1 b2 => s_ci d mX4_joinHere n S1 [.ref (4), .int (i2)] (fun S3 x4 => gG d mX4_readLevel 0 0 (g_Xz mX4_readLevel n 0 0 (hPz P)) 33 n (hH S3) [some (.ref (4)), some (.ref (a1)), some (.int (i2)), some (.int (i3)), some (.int (g_b b2)), some (.int (x4)), some (.int ((0 : Int32)))] [] 0 0))) ∧ (¬ (i2 ≤ (3 : Int32)) → s_cz d mX4_readPart n S [.ref (4), .ref (a1), .int (i3)] (fun S5 b6 => P S5 b6))) : gG d mX4_readLevel 0 0 (g_Xz mX4_readLevel n 0 0 (hPz P)) 0 n (hH S) [some (.ref (4)), some (.ref (a1)), some (.int (i2)), some (.int (i3)), none, none, none] [] 0 0 := by
  refine kX4_readLevel_0  ?_
  refine ⟨fun c => ?_, fun c => ?_⟩
  · have h := h.1 c
    refine ⟨q_rc rfl, ?_⟩
    obtain ⟨d2, P2, hdd, hC, h⟩ := h
    refine ⟨d2, _, hdd, hC, fun H9 b2 hp => ?_⟩
    obtain ⟨S1, rfl, hp⟩ := hp
    have h := h S1 b2 hp
    refine ⟨q_rc rfl, ?_⟩
    obtain ⟨d2, P2, hdd, hC, h⟩ := h
    refine ⟨d2, _, hdd, hC, fun H9 x4 hp => ?_⟩
    obtain ⟨S3, rfl, hp⟩ := hp
    have h := h S3 x4 hp
    exact h
  · have h := h.2 c
    refine ⟨q_rc rfl, ?_⟩
    obtain ⟨d2, P2, hdd, hC, h⟩ := h
    refine ⟨d2, _, hdd, hC, fun H9 b6 hp => ?_⟩
    obtain ⟨S5, rfl, hp⟩ := hp
    have h := h S5 b6 hp
    exact ⟨_, rfl, h⟩
theorem zX4_readLevel_33 {d n : Nat} {S : gS} {P : gS → Bool → Prop} {a1 : Nat} {i2 : Int32} {i3 : Int32} {i4 : Int32} {i5 : Int32} {i6 : Int32} (hs1 : isLw a1) (h : ((1000 : Int32) ≤ i6 → ∃ b, i4 = g_b b ∧ P S b) ∧ (¬ ((1000 : Int32) ≤ i6) → (i4 = 0 → ∃ b, i4 = g_b b ∧ P S b) ∧ (¬ (i4 = 0) → (i5 = 0 → ∃ b, i4 = g_b b ∧ P S b) ∧ (¬ (i5 = 0) → s_cv d mX8_advance n S [.ref (1)] (fun S1 => s_cz d mX4_readLevel n S1 [.ref (4), .ref (a1), .int ((i2 + (1 : Int32))), .int (i3)] (fun S2 b3 => s_cv d mX3_add n S2 [.ref (a1), .int (i5)] (fun S4 => (¬ (i2 = (1 : Int32)) → s_ci d mX4_joinHere n S4 [.ref (4), .int (i2)] (fun S5 x6 => gG d mX4_readLevel 0 0 (g_Xz mX4_readLevel n 0 0 (hPz P)) 33 n (hH S5) [some (.ref (4)), some (.ref (a1)), some (.int (i2)), some (.int (i3)), some (.int (g_b b3)), some (.int (x6)), some (.int ((i6 + 1)))] [] 0 0)) ∧ (i2 = (1 : Int32) → gG d mX4_readLevel 0 0 (g_Xz mX4_readLevel n 0 0 (hPz P)) 33 n (hH S4) [some (.ref (4)), some (.ref (a1)), some (.int (i2)), some (.int (i3)), some (.int (g_b b3)), some (.int ((0 : Int32))), some (.int ((i6 + 1)))] [] 0 0)))))))) : gG d mX4_readLevel 0 0 (g_Xz mX4_readLevel n 0 0 (hPz P)) 33 n (hH S) [some (.ref (4)), some (.ref (a1)), some (.int (i2)), some (.int (i3)), some (.int (i4)), some (.int (i5)), some (.int (i6))] [] 0 0 := by
  refine kX4_readLevel_33  ?_
  refine ⟨fun c => ?_, fun c => ?_⟩
  · have h := h.1 c
    obtain ⟨b, hb, h⟩ := h
    exact ⟨b, hb, _, rfl, h⟩
  · have h := h.2 c
    refine ⟨fun c => ?_, fun c => ?_⟩
    · have h := h.1 c
      obtain ⟨b, hb, h⟩ := h
      exact ⟨b, hb, _, rfl, h⟩
    · have h := h.2 c
      refine ⟨fun c => ?_, fun c => ?_⟩
      · have h := h.1 c
        obtain ⟨b, hb, h⟩ := h
        exact ⟨b, hb, _, rfl, h⟩
      · have h := h.2 c
        refine q_gc rfl rfl ?_
        refine ⟨q_rc rfl, ?_⟩
        obtain ⟨d2, P2, hdd, hC, h⟩ := h
        refine ⟨d2, _, hdd, hC, fun H9 hp => ?_⟩
        obtain ⟨S1, rfl, hp⟩ := hp
        have h := h S1 hp
        refine ⟨q_rc rfl, ?_⟩
        obtain ⟨d2, P2, hdd, hC, h⟩ := h
        refine ⟨d2, _, hdd, hC, fun H9 b3 hp => ?_⟩
        obtain ⟨S2, rfl, hp⟩ := hp
        have h := h S2 b3 hp
        refine ⟨q_rc hs1.1, ?_⟩
        obtain ⟨d2, P2, hdd, hC, h⟩ := h
        refine ⟨d2, _, hdd, hC, fun H9 hp => ?_⟩
        obtain ⟨S4, rfl, hp⟩ := hp
        have h := h S4 hp
        refine ⟨fun c => ?_, fun c => ?_⟩
        · have h := h.1 c
          refine ⟨q_rc rfl, ?_⟩
          obtain ⟨d2, P2, hdd, hC, h⟩ := h
          refine ⟨d2, _, hdd, hC, fun H9 x6 hp => ?_⟩
          obtain ⟨S5, rfl, hp⟩ := hp
          have h := h S5 x6 hp
          exact h
        · have h := h.2 c
          exact h

theorem zX4_readPart_0 {d n : Nat} {S : gS} {P : gS → Bool → Prop} {a1 : Nat} {i2 : Int32} (hs1 : isLw a1) (h : s_ci d mX4_factHere n S [.ref (4)] (fun S1 x2 => s_cz d mX8_isWord n S1 [.ref (1), .float (38)] (fun S3 b4 => s_cz d mX8_isSign n S3 [.ref (1), .int ((40 : Int32))] (fun S5 b6 => (¬ (x2 = 0) → gG d mX4_readPart 0 0 (g_Xz mX4_readPart n 0 0 (hPz P)) 60 n (hH S5) [some (.ref (4)), some (.ref (a1)), some (.int (i2)), some (.int (x2)), some (.int (g_b b4)), some (.int (g_b b6)), none] [] 0 0) ∧ (x2 = 0 → (b4 = true → gG d mX4_readPart 0 0 (g_Xz mX4_readPart n 0 0 (hPz P)) 60 n (hH S5) [some (.ref (4)), some (.ref (a1)), some (.int (i2)), some (.int (x2)), some (.int (g_b b4)), some (.int (g_b b6)), none] [] 0 0) ∧ (b4 = false → (b6 = true → gG d mX4_readPart 0 0 (g_Xz mX4_readPart n 0 0 (hPz P)) 60 n (hH S5) [some (.ref (4)), some (.ref (a1)), some (.int (i2)), some (.int (x2)), some (.int (g_b b4)), some (.int (g_b b6)), none] [] 0 0) ∧ (b6 = false → s_cz d mX8_isNumber n S5 [.ref (1)] (fun S7 b8 => (b8 = true → gG d mX4_readPart 0 0 (g_Xz mX4_readPart n 0 0 (hPz P)) 60 n (hH S7) [some (.ref (4)), some (.ref (a1)), some (.int (i2)), some (.int (x2)), some (.int (g_b b4)), some (.int (g_b b6)), none] [] 0 0) ∧ (b8 = false → s_cz d mX8_fail n S7 [.ref (1), .int ((1 : Int32))] (fun S9 b10 => P S9 b10)))))))))) : gG d mX4_readPart 0 0 (g_Xz mX4_readPart n 0 0 (hPz P)) 0 n (hH S) [some (.ref (4)), some (.ref (a1)), some (.int (i2)), none, none, none, none] [] 0 0 := by
  refine kX4_readPart_0  ?_
  refine ⟨q_rc rfl, ?_⟩
  obtain ⟨d2, P2, hdd, hC, h⟩ := h
  refine ⟨d2, _, hdd, hC, fun H9 x2 hp => ?_⟩
  obtain ⟨S1, rfl, hp⟩ := hp
  have h := h S1 x2 hp
  refine q_gc rfl rfl ?_
  refine ⟨q_rc rfl, ?_⟩
  obtain ⟨d2, P2, hdd, hC, h⟩ := h
  refine ⟨d2, _, hdd, hC, fun H9 b4 hp => ?_⟩
  obtain ⟨S3, rfl, hp⟩ := hp
  have h := h S3 b4 hp
  refine q_gc rfl rfl ?_
  refine ⟨q_rc rfl, ?_⟩
  obtain ⟨d2, P2, hdd, hC, h⟩ := h
  refine ⟨d2, _, hdd, hC, fun H9 b6 hp => ?_⟩
  obtain ⟨S5, rfl, hp⟩ := hp
  have h := h S5 b6 hp
  refine ⟨fun c => ?_, fun c => ?_⟩
  · have h := h.1 c
    exact h
  · have h := h.2 c
    refine ⟨fun c => ?_, fun c => ?_⟩
    · have h := h.1 c
      exact h
    · have h := h.2 c
      refine ⟨fun c => ?_, fun c => ?_⟩
      · have h := h.1 c
        exact h
      · have h := h.2 c
        refine q_gc rfl rfl ?_
        refine ⟨q_rc rfl, ?_⟩
        obtain ⟨d2, P2, hdd, hC, h⟩ := h
        refine ⟨d2, _, hdd, hC, fun H9 b8 hp => ?_⟩
        obtain ⟨S7, rfl, hp⟩ := hp
        have h := h S7 b8 hp
        refine ⟨fun c => ?_, fun c => ?_⟩
        · have h := h.1 c
          exact h
        · have h := h.2 c
          refine q_gc rfl rfl ?_
          refine ⟨q_rc rfl, ?_⟩
          obtain ⟨d2, P2, hdd, hC, h⟩ := h
          refine ⟨d2, _, hdd, hC, fun H9 b10 hp => ?_⟩
          obtain ⟨S9, rfl, hp⟩ := hp
          have h := h S9 b10 hp
          exact ⟨_, rfl, h⟩
theorem zX4_readPart_60 {d n : Nat} {S : gS} {P : gS → Bool → Prop} {a1 : Nat} {i2 : Int32} {i3 : Int32} {i4 : Int32} {i5 : Int32} (hs1 : isLw a1) (h : (i2 < (5 : Int32) → (¬ (i4 = 0) → gG d mX4_readPart 0 0 (g_Xz mX4_readPart n 0 0 (hPz P)) 103 n (hH S) [some (.ref (4)), some (.ref (a1)), some (.int (i2)), none, some (.int (i4)), some (.int (i5)), none] [] 0 0) ∧ (i4 = 0 → (¬ (i5 = 0) → gG d mX4_readPart 0 0 (g_Xz mX4_readPart n 0 0 (hPz P)) 103 n (hH S) [some (.ref (4)), some (.ref (a1)), some (.int (i2)), none, some (.int (i4)), some (.int (i5)), none] [] 0 0) ∧ (i5 = 0 → (¬ (i3 = 0) → s_cv d mX3_add n S [.ref (a1), .int (i3)] (fun S1 => gG d mX4_readPart 0 0 (g_Xz mX4_readPart n 0 0 (hPz P)) 103 n (hH S1) [some (.ref (4)), some (.ref (a1)), some (.int (i2)), none, some (.int (i4)), some (.int (i5)), none] [] 0 0)) ∧ (i3 = 0 → s_cv d mX3_add n S [.ref (a1), .int ((sI S (1) 6))] (fun S2 => gG d mX4_readPart 0 0 (g_Xz mX4_readPart n 0 0 (hPz P)) 103 n (hH S2) [some (.ref (4)), some (.ref (a1)), some (.int (i2)), none, some (.int (i4)), some (.int (i5)), none] [] 0 0))))) ∧ (¬ (i2 < (5 : Int32)) → s_cz d mX8_fail n S [.ref (1), .int ((5 : Int32))] (fun S3 b4 => P S3 b4))) : gG d mX4_readPart 0 0 (g_Xz mX4_readPart n 0 0 (hPz P)) 60 n (hH S) [some (.ref (4)), some (.ref (a1)), some (.int (i2)), some (.int (i3)), some (.int (i4)), some (.int (i5)), none] [] 0 0 := by
  refine kX4_readPart_60  ?_
  refine ⟨fun c => ?_, fun c => ?_⟩
  · have h := h.1 c
    refine ⟨fun c => ?_, fun c => ?_⟩
    · have h := h.1 c
      exact h
    · have h := h.2 c
      refine ⟨fun c => ?_, fun c => ?_⟩
      · have h := h.1 c
        exact h
      · have h := h.2 c
        refine ⟨fun c => ?_, fun c => ?_⟩
        · have h := h.1 c
          refine ⟨q_rc hs1.1, ?_⟩
          obtain ⟨d2, P2, hdd, hC, h⟩ := h
          refine ⟨d2, _, hdd, hC, fun H9 hp => ?_⟩
          obtain ⟨S1, rfl, hp⟩ := hp
          have h := h S1 hp
          exact h
        · have h := h.2 c
          refine q_gc rfl rfl ?_
          refine q_gi rfl rfl ?_
          refine ⟨q_rc hs1.1, ?_⟩
          obtain ⟨d2, P2, hdd, hC, h⟩ := h
          refine ⟨d2, _, hdd, hC, fun H9 hp => ?_⟩
          obtain ⟨S2, rfl, hp⟩ := hp
          have h := h S2 hp
          exact h
  · have h := h.2 c
    refine q_gc rfl rfl ?_
    refine ⟨q_rc rfl, ?_⟩
    obtain ⟨d2, P2, hdd, hC, h⟩ := h
    refine ⟨d2, _, hdd, hC, fun H9 b4 hp => ?_⟩
    obtain ⟨S3, rfl, hp⟩ := hp
    have h := h S3 b4 hp
    exact ⟨_, rfl, h⟩
theorem zX4_readPart_103 {d n : Nat} {S : gS} {P : gS → Bool → Prop} {a1 : Nat} {i2 : Int32} {i4 : Int32} {i5 : Int32} (hs1 : isLw a1) (h : s_cv d mX8_advance n S [.ref (1)] (fun S1 => (i4 = 0 → (i5 = 0 → P S1 true) ∧ (¬ (i5 = 0) → s_cz d mX4_readLevel n S1 [.ref (4), .ref (a1), .int ((0 : Int32)), .int ((i2 + (1 : Int32)))] (fun S2 b3 => (b3 = false → P S2 false) ∧ (b3 = true → s_cz d mX8_takeSign n S2 [.ref (1), .int ((41 : Int32))] (fun S4 b5 => (b5 = false → P S4 false) ∧ (b5 = true → P S4 true)))))) ∧ (¬ (i4 = 0) → s_cz d mX4_readPart n S1 [.ref (4), .ref (a1), .int ((i2 + (1 : Int32)))] (fun S6 b7 => s_cv d mX3_add n S6 [.ref (a1), .int ((-5 : Int32))] (fun S8 => P S8 b7))))) : gG d mX4_readPart 0 0 (g_Xz mX4_readPart n 0 0 (hPz P)) 103 n (hH S) [some (.ref (4)), some (.ref (a1)), some (.int (i2)), none, some (.int (i4)), some (.int (i5)), none] [] 0 0 := by
  refine kX4_readPart_103  ?_
  refine q_gc rfl rfl ?_
  refine ⟨q_rc rfl, ?_⟩
  obtain ⟨d2, P2, hdd, hC, h⟩ := h
  refine ⟨d2, _, hdd, hC, fun H9 hp => ?_⟩
  obtain ⟨S1, rfl, hp⟩ := hp
  have h := h S1 hp
  refine ⟨fun c => ?_, fun c => ?_⟩
  · have h := h.1 c
    refine ⟨fun c => ?_, fun c => ?_⟩
    · have h := h.1 c
      exact ⟨_, rfl, h⟩
    · have h := h.2 c
      refine ⟨q_rc rfl, ?_⟩
      obtain ⟨d2, P2, hdd, hC, h⟩ := h
      refine ⟨d2, _, hdd, hC, fun H9 b3 hp => ?_⟩
      obtain ⟨S2, rfl, hp⟩ := hp
      have h := h S2 b3 hp
      refine ⟨fun c => ?_, fun c => ?_⟩
      · have h := h.1 c
        exact ⟨_, rfl, h⟩
      · have h := h.2 c
        refine q_gc rfl rfl ?_
        refine ⟨q_rc rfl, ?_⟩
        obtain ⟨d2, P2, hdd, hC, h⟩ := h
        refine ⟨d2, _, hdd, hC, fun H9 b5 hp => ?_⟩
        obtain ⟨S4, rfl, hp⟩ := hp
        have h := h S4 b5 hp
        refine ⟨fun c => ?_, fun c => ?_⟩
        · have h := h.1 c
          exact ⟨_, rfl, h⟩
        · have h := h.2 c
          exact ⟨_, rfl, h⟩
  · have h := h.2 c
    refine ⟨q_rc rfl, ?_⟩
    obtain ⟨d2, P2, hdd, hC, h⟩ := h
    refine ⟨d2, _, hdd, hC, fun H9 b7 hp => ?_⟩
    obtain ⟨S6, rfl, hp⟩ := hp
    have h := h S6 b7 hp
    refine ⟨q_rc hs1.1, ?_⟩
    obtain ⟨d2, P2, hdd, hC, h⟩ := h
    refine ⟨d2, _, hdd, hC, fun H9 hp => ?_⟩
    obtain ⟨S8, rfl, hp⟩ := hp
    have h := h S8 hp
    exact ⟨_, rfl, h⟩

theorem zX4_factHere_0 {d n : Nat} {S : gS} {P : gS → Int32 → Prop}   (h : s_cz d mX8_isWord n S [.ref (1), .float (34)] (fun S1 b2 => (b2 = false → s_cz d mX8_isWord n S1 [.ref (1), .float (35)] (fun S3 b4 => (b4 = false → s_cz d mX8_isWord n S3 [.ref (1), .float (36)] (fun S5 b6 => (b6 = false → s_cz d mX8_isWord n S5 [.ref (1), .float (37)] (fun S7 b8 => (b8 = false → P S7 ((0 : Int32))) ∧ (b8 = true → P S7 ((-4 : Int32))))) ∧ (b6 = true → P S5 ((-3 : Int32))))) ∧ (b4 = true → P S3 ((-2 : Int32))))) ∧ (b2 = true → P S1 ((-1 : Int32))))) : gG d mX4_factHere 0 0 (g_Xj mX4_factHere n 0 0 (hPi P)) 0 n (hH S) [some (.ref (4))] [] 0 0 := by
  refine kX4_factHere_0  ?_
  refine q_gc rfl rfl ?_
  refine ⟨q_rc rfl, ?_⟩
  obtain ⟨d2, P2, hdd, hC, h⟩ := h
  refine ⟨d2, _, hdd, hC, fun H9 b2 hp => ?_⟩
  obtain ⟨S1, rfl, hp⟩ := hp
  have h := h S1 b2 hp
  refine ⟨fun c => ?_, fun c => ?_⟩
  · have h := h.1 c
    refine q_gc rfl rfl ?_
    refine ⟨q_rc rfl, ?_⟩
    obtain ⟨d2, P2, hdd, hC, h⟩ := h
    refine ⟨d2, _, hdd, hC, fun H9 b4 hp => ?_⟩
    obtain ⟨S3, rfl, hp⟩ := hp
    have h := h S3 b4 hp
    refine ⟨fun c => ?_, fun c => ?_⟩
    · have h := h.1 c
      refine q_gc rfl rfl ?_
      refine ⟨q_rc rfl, ?_⟩
      obtain ⟨d2, P2, hdd, hC, h⟩ := h
      refine ⟨d2, _, hdd, hC, fun H9 b6 hp => ?_⟩
      obtain ⟨S5, rfl, hp⟩ := hp
      have h := h S5 b6 hp
      refine ⟨fun c => ?_, fun c => ?_⟩
      · have h := h.1 c
        refine q_gc rfl rfl ?_
        refine ⟨q_rc rfl, ?_⟩
        obtain ⟨d2, P2, hdd, hC, h⟩ := h
        refine ⟨d2, _, hdd, hC, fun H9 b8 hp => ?_⟩
        obtain ⟨S7, rfl, hp⟩ := hp
        have h := h S7 b8 hp
        refine ⟨fun c => ?_, fun c => ?_⟩
        · have h := h.1 c
          exact ⟨_, rfl, h⟩
        · have h := h.2 c
          exact ⟨_, rfl, h⟩
      · have h := h.2 c
        exact ⟨_, rfl, h⟩
    · have h := h.2 c
      exact ⟨_, rfl, h⟩
  · have h := h.2 c
    exact ⟨_, rfl, h⟩

theorem zX4_joinHere_0 {d n : Nat} {S : gS} {P : gS → Int32 → Prop} {i1 : Int32}  (h : ((i1).toInt < 0 ∨ 2 < (i1).toInt → s_cz d mX8_isSign n S [.ref (1), .int ((42 : Int32))] (fun S1 b2 => (b2 = false → P S1 ((0 : Int32))) ∧ (b2 = true → P S1 ((-12 : Int32))))) ∧ (i1 = 0 → s_cz d mX8_isWord n S [.ref (1), .float (39)] (fun S3 b4 => (b4 = false → s_cz d mX8_isWord n S3 [.ref (1), .float (40)] (fun S5 b6 => (b6 = false → P S5 ((0 : Int32))) ∧ (b6 = true → P S5 ((-7 : Int32))))) ∧ (b4 = true → P S3 ((-6 : Int32))))) ∧ (i1 = 1 → s_cz d mX8_isSign n S [.ref (1), .int ((60 : Int32))] (fun S7 b8 => (b8 = false → s_cz d mX8_isSign n S7 [.ref (1), .int ((61 : Int32))] (fun S9 b10 => (b10 = false → P S9 ((0 : Int32))) ∧ (b10 = true → P S9 ((-9 : Int32))))) ∧ (b8 = true → P S7 ((-8 : Int32))))) ∧ (i1 = 2 → s_cz d mX8_isSign n S [.ref (1), .int ((43 : Int32))] (fun S11 b12 => (b12 = false → s_cz d mX8_isSign n S11 [.ref (1), .int ((45 : Int32))] (fun S13 b14 => (b14 = false → P S13 ((0 : Int32))) ∧ (b14 = true → P S13 ((-11 : Int32))))) ∧ (b12 = true → P S11 ((-10 : Int32)))))) : gG d mX4_joinHere 0 0 (g_Xj mX4_joinHere n 0 0 (hPi P)) 0 n (hH S) [some (.ref (4)), some (.int (i1))] [] 0 0 := by
  refine kX4_joinHere_0  ?_
  refine ⟨fun c => ?_, fun c => ?_, fun c => ?_, fun c => ?_⟩
  · have h := h.1 c
    refine q_gc rfl rfl ?_
    refine ⟨q_rc rfl, ?_⟩
    obtain ⟨d2, P2, hdd, hC, h⟩ := h
    refine ⟨d2, _, hdd, hC, fun H9 b2 hp => ?_⟩
    obtain ⟨S1, rfl, hp⟩ := hp
    have h := h S1 b2 hp
    refine ⟨fun c => ?_, fun c => ?_⟩
    · have h := h.1 c
      exact ⟨_, rfl, h⟩
    · have h := h.2 c
      exact ⟨_, rfl, h⟩
  · have h := h.2.1 c
    refine q_gc rfl rfl ?_
    refine ⟨q_rc rfl, ?_⟩
    obtain ⟨d2, P2, hdd, hC, h⟩ := h
    refine ⟨d2, _, hdd, hC, fun H9 b4 hp => ?_⟩
    obtain ⟨S3, rfl, hp⟩ := hp
    have h := h S3 b4 hp
    refine ⟨fun c => ?_, fun c => ?_⟩
    · have h := h.1 c
      refine q_gc rfl rfl ?_
      refine ⟨q_rc rfl, ?_⟩
      obtain ⟨d2, P2, hdd, hC, h⟩ := h
      refine ⟨d2, _, hdd, hC, fun H9 b6 hp => ?_⟩
      obtain ⟨S5, rfl, hp⟩ := hp
      have h := h S5 b6 hp
      refine ⟨fun c => ?_, fun c => ?_⟩
      · have h := h.1 c
        exact ⟨_, rfl, h⟩
      · have h := h.2 c
        exact ⟨_, rfl, h⟩
    · have h := h.2 c
      exact ⟨_, rfl, h⟩
  · have h := h.2.2.1 c
    refine q_gc rfl rfl ?_
    refine ⟨q_rc rfl, ?_⟩
    obtain ⟨d2, P2, hdd, hC, h⟩ := h
    refine ⟨d2, _, hdd, hC, fun H9 b8 hp => ?_⟩
    obtain ⟨S7, rfl, hp⟩ := hp
    have h := h S7 b8 hp
    refine ⟨fun c => ?_, fun c => ?_⟩
    · have h := h.1 c
      refine q_gc rfl rfl ?_
      refine ⟨q_rc rfl, ?_⟩
      obtain ⟨d2, P2, hdd, hC, h⟩ := h
      refine ⟨d2, _, hdd, hC, fun H9 b10 hp => ?_⟩
      obtain ⟨S9, rfl, hp⟩ := hp
      have h := h S9 b10 hp
      refine ⟨fun c => ?_, fun c => ?_⟩
      · have h := h.1 c
        exact ⟨_, rfl, h⟩
      · have h := h.2 c
        exact ⟨_, rfl, h⟩
    · have h := h.2 c
      exact ⟨_, rfl, h⟩
  · have h := h.2.2.2 c
    refine q_gc rfl rfl ?_
    refine ⟨q_rc rfl, ?_⟩
    obtain ⟨d2, P2, hdd, hC, h⟩ := h
    refine ⟨d2, _, hdd, hC, fun H9 b12 hp => ?_⟩
    obtain ⟨S11, rfl, hp⟩ := hp
    have h := h S11 b12 hp
    refine ⟨fun c => ?_, fun c => ?_⟩
    · have h := h.1 c
      refine q_gc rfl rfl ?_
      refine ⟨q_rc rfl, ?_⟩
      obtain ⟨d2, P2, hdd, hC, h⟩ := h
      refine ⟨d2, _, hdd, hC, fun H9 b14 hp => ?_⟩
      obtain ⟨S13, rfl, hp⟩ := hp
      have h := h S13 b14 hp
      refine ⟨fun c => ?_, fun c => ?_⟩
      · have h := h.1 c
        exact ⟨_, rfl, h⟩
      · have h := h.2 c
        exact ⟨_, rfl, h⟩
    · have h := h.2 c
      exact ⟨_, rfl, h⟩

theorem zX5_readDay_0 {d n : Nat} {S : gS} {P : gS → Int32 → Prop} {a1 : Nat} {a2 : Nat} (hs1 : isF a1) (hs2 : isD a2) (h : ∀ S1, S1 = uI S (a2) 0 ((0 : Int32)) → s_cv d mX8_open n S1 [.ref (1)] (fun S2 => gG d mX5_readDay 0 0 (g_Xj mX5_readDay n 0 0 (hPi P)) 17 n (hH S2) [some (.ref (5)), some (.ref (a1)), some (.ref (a2)), some (.int ((1 : Int32))), some (.int ((0 : Int32)))] [] 0 0)) : gG d mX5_readDay 0 0 (g_Xj mX5_readDay n 0 0 (hPi P)) 0 n (hH S) [some (.ref (5)), some (.ref (a1)), some (.ref (a2)), none, none] [] 0 0 := by
  refine kX5_readDay_0  ?_
  refine q_pi hs2.1 rfl ?_
  obtain ⟨S1, eS⟩ : ∃ z, z = uI S (a2) 0 ((0 : Int32)) := ⟨_, rfl⟩
  rw [← eS]
  have h := h S1 eS
  refine q_gc rfl rfl ?_
  refine ⟨q_rc rfl, ?_⟩
  obtain ⟨d2, P2, hdd, hC, h⟩ := h
  refine ⟨d2, _, hdd, hC, fun H9 hp => ?_⟩
  obtain ⟨S2, rfl, hp⟩ := hp
  have h := h S2 hp
  exact h
theorem zX5_readDay_17 {d n : Nat} {S : gS} {P : gS → Int32 → Prop} {a1 : Nat} {a2 : Nat} {i3 : Int32} {i4 : Int32} (hs1 : isF a1) (hs2 : isD a2) (h : ((40 : Int32) < i4 → s_ci d mX8_close n S [.ref (1)] (fun S1 x2 => P S1 (x2))) ∧ (¬ ((40 : Int32) < i4) → (i3 = 0 → s_ci d mX8_close n S [.ref (1)] (fun S3 x4 => P S3 (x4))) ∧ (¬ (i3 = 0) → s_cz d mX8_isEnd n S [.ref (1)] (fun S5 b6 => (b6 = true → s_ci d mX8_close n S5 [.ref (1)] (fun S7 x8 => P S7 (x8))) ∧ (b6 = false → s_cz d mX5_readLine n S5 [.ref (5), .ref (a1), .ref (a2)] (fun S9 b10 => (b10 = false → gG d mX5_readDay 0 0 (g_Xj mX5_readDay n 0 0 (hPi P)) 17 n (hH S9) [some (.ref (5)), some (.ref (a1)), some (.ref (a2)), some (.int ((0 : Int32))), some (.int ((i4 + 1)))] [] 0 0) ∧ (b10 = true → s_cz d mX8_takeSign n S9 [.ref (1), .int ((59 : Int32))] (fun S11 b12 => (b12 = false → gG d mX5_readDay 0 0 (g_Xj mX5_readDay n 0 0 (hPi P)) 17 n (hH S11) [some (.ref (5)), some (.ref (a1)), some (.ref (a2)), some (.int ((0 : Int32))), some (.int ((i4 + 1)))] [] 0 0) ∧ (b12 = true → gG d mX5_readDay 0 0 (g_Xj mX5_readDay n 0 0 (hPi P)) 17 n (hH S11) [some (.ref (5)), some (.ref (a1)), some (.ref (a2)), some (.int ((1 : Int32))), some (.int ((i4 + 1)))] [] 0 0))))))))) : gG d mX5_readDay 0 0 (g_Xj mX5_readDay n 0 0 (hPi P)) 17 n (hH S) [some (.ref (5)), some (.ref (a1)), some (.ref (a2)), some (.int (i3)), some (.int (i4))] [] 0 0 := by
  refine kX5_readDay_17  ?_
  refine ⟨fun c => ?_, fun c => ?_⟩
  · have h := h.1 c
    refine q_gc rfl rfl ?_
    refine ⟨q_rc rfl, ?_⟩
    obtain ⟨d2, P2, hdd, hC, h⟩ := h
    refine ⟨d2, _, hdd, hC, fun H9 x2 hp => ?_⟩
    obtain ⟨S1, rfl, hp⟩ := hp
    have h := h S1 x2 hp
    exact ⟨_, rfl, h⟩
  · have h := h.2 c
    refine ⟨fun c => ?_, fun c => ?_⟩
    · have h := h.1 c
      refine q_gc rfl rfl ?_
      refine ⟨q_rc rfl, ?_⟩
      obtain ⟨d2, P2, hdd, hC, h⟩ := h
      refine ⟨d2, _, hdd, hC, fun H9 x4 hp => ?_⟩
      obtain ⟨S3, rfl, hp⟩ := hp
      have h := h S3 x4 hp
      exact ⟨_, rfl, h⟩
    · have h := h.2 c
      refine q_gc rfl rfl ?_
      refine ⟨q_rc rfl, ?_⟩
      obtain ⟨d2, P2, hdd, hC, h⟩ := h
      refine ⟨d2, _, hdd, hC, fun H9 b6 hp => ?_⟩
      obtain ⟨S5, rfl, hp⟩ := hp
      have h := h S5 b6 hp
      refine ⟨fun c => ?_, fun c => ?_⟩
      · have h := h.1 c
        refine q_gc rfl rfl ?_
        refine ⟨q_rc rfl, ?_⟩
        obtain ⟨d2, P2, hdd, hC, h⟩ := h
        refine ⟨d2, _, hdd, hC, fun H9 x8 hp => ?_⟩
        obtain ⟨S7, rfl, hp⟩ := hp
        have h := h S7 x8 hp
        exact ⟨_, rfl, h⟩
      · have h := h.2 c
        refine ⟨q_rc rfl, ?_⟩
        obtain ⟨d2, P2, hdd, hC, h⟩ := h
        refine ⟨d2, _, hdd, hC, fun H9 b10 hp => ?_⟩
        obtain ⟨S9, rfl, hp⟩ := hp
        have h := h S9 b10 hp
        refine ⟨fun c => ?_, fun c => ?_⟩
        · have h := h.1 c
          exact h
        · have h := h.2 c
          refine q_gc rfl rfl ?_
          refine ⟨q_rc rfl, ?_⟩
          obtain ⟨d2, P2, hdd, hC, h⟩ := h
          refine ⟨d2, _, hdd, hC, fun H9 b12 hp => ?_⟩
          obtain ⟨S11, rfl, hp⟩ := hp
          have h := h S11 b12 hp
          refine ⟨fun c => ?_, fun c => ?_⟩
          · have h := h.1 c
            exact h
          · have h := h.2 c
            exact h

theorem zX5_readLine_0 {d n : Nat} {S : gS} {P : gS → Bool → Prop} {a1 : Nat} {a2 : Nat} (hs1 : isF a1) (hs2 : isD a2) (h : s_ci d mX5_actHere n S [.ref (5)] (fun S1 x2 => (¬ (x2 = (-1 : Int32)) → ((sI S1 (a2) 0) < (40 : Int32) → s_cv d mX8_advance n S1 [.ref (1)] (fun S3 => vp_in ((sI S1 (a2) 0)) 40 ∧ (∀ S5, S5 = uR S3 ((a2 + 1)) (Int32.toNatClampNeg ((sI S1 (a2) 0))) (x2) → ∀ S6, S6 = uI S5 (a2) 0 (((sI S5 (a2) 0) + (1 : Int32))) → (¬ (x2 = 0) → s_ci d mX8_mouthHere n S6 [.ref (1), .ref (a1)] (fun S7 x8 => (¬ (x8 = (-1 : Int32)) → s_cv d mX8_advance n S7 [.ref (1)] (fun S9 => (∀ S10, S10 = uR S9 ((a2 + 2)) (Int32.toNatClampNeg ((sI S1 (a2) 0))) (x8) → (¬ (x2 = (1 : Int32)) → P S10 true) ∧ (x2 = (1 : Int32) → s_ci d mX8_takeNumber n S10 [.ref (1), .int ((1 : Int32)), .int ((20 : Int32))] (fun S11 x12 => (∀ S13, S13 = uR S11 ((a2 + 3)) (Int32.toNatClampNeg ((sI S1 (a2) 0))) (x12) → (((sR S13 ((a2 + 3)) (Int32.toNatClampNeg ((sI S1 (a2) 0)))) = (-1 : Int32) → P S13 false) ∧ (¬ ((sR S13 ((a2 + 3)) (Int32.toNatClampNeg ((sI S1 (a2) 0)))) = (-1 : Int32)) → P S13 true)))))))) ∧ (x8 = (-1 : Int32) → P S7 false))) ∧ (x2 = 0 → P S6 true)))) ∧ (¬ ((sI S1 (a2) 0) < (40 : Int32)) → s_cz d mX8_fail n S1 [.ref (1), .int ((5 : Int32))] (fun S14 b15 => P S14 b15))) ∧ (x2 = (-1 : Int32) → s_cz d mX8_fail n S1 [.ref (1), .int ((1 : Int32))] (fun S16 b17 => P S16 b17)))) : gG d mX5_readLine 0 0 (g_Xz mX5_readLine n 0 0 (hPz P)) 0 n (hH S) [some (.ref (5)), some (.ref (a1)), some (.ref (a2)), none, none, none] [] 0 0 := by
  refine kX5_readLine_0  ?_
  refine ⟨q_rc rfl, ?_⟩
  obtain ⟨d2, P2, hdd, hC, h⟩ := h
  refine ⟨d2, _, hdd, hC, fun H9 x2 hp => ?_⟩
  obtain ⟨S1, rfl, hp⟩ := hp
  have h := h S1 x2 hp
  refine ⟨fun c => ?_, fun c => ?_⟩
  · have h := h.1 c
    refine q_gi hs2.1 rfl ?_
    refine ⟨fun c => ?_, fun c => ?_⟩
    · have h := h.1 c
      refine q_gc rfl rfl ?_
      refine ⟨q_rc rfl, ?_⟩
      obtain ⟨d2, P2, hdd, hC, h⟩ := h
      refine ⟨d2, _, hdd, hC, fun H9 hp => ?_⟩
      obtain ⟨S3, rfl, hp⟩ := hp
      have h := h S3 hp
      refine q_gp hs2.1 rfl ?_
      obtain ⟨hv4, h⟩ := h
      refine q_as (k := Int32.toNatClampNeg ((sI S1 (a2) 0))) hs2.2.1 (by decide) hv4 rfl ?_
      obtain ⟨S5, eS⟩ : ∃ z, z = uR S3 ((a2 + 1)) (Int32.toNatClampNeg ((sI S1 (a2) 0))) (x2) := ⟨_, rfl⟩
      rw [← eS]
      have h := h S5 eS
      refine q_gi hs2.1 rfl ?_
      refine q_pi hs2.1 rfl ?_
      obtain ⟨S6, eS⟩ : ∃ z, z = uI S5 (a2) 0 (((sI S5 (a2) 0) + (1 : Int32))) := ⟨_, rfl⟩
      rw [← eS]
      have h := h S6 eS
      refine ⟨fun c => ?_, fun c => ?_⟩
      · have h := h.1 c
        refine q_gc rfl rfl ?_
        refine ⟨q_rc rfl, ?_⟩
        obtain ⟨d2, P2, hdd, hC, h⟩ := h
        refine ⟨d2, _, hdd, hC, fun H9 x8 hp => ?_⟩
        obtain ⟨S7, rfl, hp⟩ := hp
        have h := h S7 x8 hp
        refine ⟨fun c => ?_, fun c => ?_⟩
        · have h := h.1 c
          refine q_gc rfl rfl ?_
          refine ⟨q_rc rfl, ?_⟩
          obtain ⟨d2, P2, hdd, hC, h⟩ := h
          refine ⟨d2, _, hdd, hC, fun H9 hp => ?_⟩
          obtain ⟨S9, rfl, hp⟩ := hp
          have h := h S9 hp
          refine q_gp hs2.1 rfl ?_
          refine q_as (k := Int32.toNatClampNeg ((sI S1 (a2) 0))) hs2.2.2.1 (by decide) hv4 rfl ?_
          obtain ⟨S10, eS⟩ : ∃ z, z = uR S9 ((a2 + 2)) (Int32.toNatClampNeg ((sI S1 (a2) 0))) (x8) := ⟨_, rfl⟩
          rw [← eS]
          have h := h S10 eS
          refine ⟨fun c => ?_, fun c => ?_⟩
          · have h := h.1 c
            exact ⟨_, rfl, h⟩
          · have h := h.2 c
            refine q_gp hs2.1 rfl ?_
            refine q_gc rfl rfl ?_
            refine ⟨q_rc rfl, ?_⟩
            obtain ⟨d2, P2, hdd, hC, h⟩ := h
            refine ⟨d2, _, hdd, hC, fun H9 x12 hp => ?_⟩
            obtain ⟨S11, rfl, hp⟩ := hp
            have h := h S11 x12 hp
            refine q_as (k := Int32.toNatClampNeg ((sI S1 (a2) 0))) hs2.2.2.2 (by decide) hv4 rfl ?_
            obtain ⟨S13, eS⟩ : ∃ z, z = uR S11 ((a2 + 3)) (Int32.toNatClampNeg ((sI S1 (a2) 0))) (x12) := ⟨_, rfl⟩
            rw [← eS]
            have h := h S13 eS
            refine q_gp hs2.1 rfl ?_
            refine q_al (k := Int32.toNatClampNeg ((sI S1 (a2) 0))) hs2.2.2.2 (by decide) hv4 rfl ?_
            refine ⟨fun c => ?_, fun c => ?_⟩
            · have h := h.1 c
              exact ⟨_, rfl, h⟩
            · have h := h.2 c
              exact ⟨_, rfl, h⟩
        · have h := h.2 c
          exact ⟨_, rfl, h⟩
      · have h := h.2 c
        exact ⟨_, rfl, h⟩
    · have h := h.2 c
      refine q_gc rfl rfl ?_
      refine ⟨q_rc rfl, ?_⟩
      obtain ⟨d2, P2, hdd, hC, h⟩ := h
      refine ⟨d2, _, hdd, hC, fun H9 b15 hp => ?_⟩
      obtain ⟨S14, rfl, hp⟩ := hp
      have h := h S14 b15 hp
      exact ⟨_, rfl, h⟩
  · have h := h.2 c
    refine q_gc rfl rfl ?_
    refine ⟨q_rc rfl, ?_⟩
    obtain ⟨d2, P2, hdd, hC, h⟩ := h
    refine ⟨d2, _, hdd, hC, fun H9 b17 hp => ?_⟩
    obtain ⟨S16, rfl, hp⟩ := hp
    have h := h S16 b17 hp
    exact ⟨_, rfl, h⟩

theorem zX5_actHere_0 {d n : Nat} {S : gS} {P : gS → Int32 → Prop}   (h : s_cz d mX8_isWord n S [.ref (1), .float (41)] (fun S1 b2 => (b2 = false → s_cz d mX8_isWord n S1 [.ref (1), .float (42)] (fun S3 b4 => (b4 = false → s_cz d mX8_isWord n S3 [.ref (1), .float (43)] (fun S5 b6 => (b6 = false → s_cz d mX8_isWord n S5 [.ref (1), .float (44)] (fun S7 b8 => (b8 = false → P S7 ((-1 : Int32))) ∧ (b8 = true → P S7 ((3 : Int32))))) ∧ (b6 = true → P S5 ((2 : Int32))))) ∧ (b4 = true → P S3 ((1 : Int32))))) ∧ (b2 = true → P S1 ((0 : Int32))))) : gG d mX5_actHere 0 0 (g_Xj mX5_actHere n 0 0 (hPi P)) 0 n (hH S) [some (.ref (5))] [] 0 0 := by
  refine kX5_actHere_0  ?_
  refine q_gc rfl rfl ?_
  refine ⟨q_rc rfl, ?_⟩
  obtain ⟨d2, P2, hdd, hC, h⟩ := h
  refine ⟨d2, _, hdd, hC, fun H9 b2 hp => ?_⟩
  obtain ⟨S1, rfl, hp⟩ := hp
  have h := h S1 b2 hp
  refine ⟨fun c => ?_, fun c => ?_⟩
  · have h := h.1 c
    refine q_gc rfl rfl ?_
    refine ⟨q_rc rfl, ?_⟩
    obtain ⟨d2, P2, hdd, hC, h⟩ := h
    refine ⟨d2, _, hdd, hC, fun H9 b4 hp => ?_⟩
    obtain ⟨S3, rfl, hp⟩ := hp
    have h := h S3 b4 hp
    refine ⟨fun c => ?_, fun c => ?_⟩
    · have h := h.1 c
      refine q_gc rfl rfl ?_
      refine ⟨q_rc rfl, ?_⟩
      obtain ⟨d2, P2, hdd, hC, h⟩ := h
      refine ⟨d2, _, hdd, hC, fun H9 b6 hp => ?_⟩
      obtain ⟨S5, rfl, hp⟩ := hp
      have h := h S5 b6 hp
      refine ⟨fun c => ?_, fun c => ?_⟩
      · have h := h.1 c
        refine q_gc rfl rfl ?_
        refine ⟨q_rc rfl, ?_⟩
        obtain ⟨d2, P2, hdd, hC, h⟩ := h
        refine ⟨d2, _, hdd, hC, fun H9 b8 hp => ?_⟩
        obtain ⟨S7, rfl, hp⟩ := hp
        have h := h S7 b8 hp
        refine ⟨fun c => ?_, fun c => ?_⟩
        · have h := h.1 c
          exact ⟨_, rfl, h⟩
        · have h := h.2 c
          exact ⟨_, rfl, h⟩
      · have h := h.2 c
        exact ⟨_, rfl, h⟩
    · have h := h.2 c
      exact ⟨_, rfl, h⟩
  · have h := h.2 c
    exact ⟨_, rfl, h⟩

theorem zX5_readWord_0 {d n : Nat} {S : gS} {P : gS → Int32 → Prop} {a1 : Nat} {a2 : Nat} (hs1 : isF a1) (hs2 : isWd a2) (h : ∀ S1, S1 = uI S (a2) 0 ((0 : Int32)) → s_cv d mX8_open n S1 [.ref (1)] (fun S2 => gG d mX5_readWord 0 0 (g_Xj mX5_readWord n 0 0 (hPi P)) 17 n (hH S2) [some (.ref (5)), some (.ref (a1)), some (.ref (a2)), some (.int ((1 : Int32))), some (.int ((0 : Int32)))] [] 0 0)) : gG d mX5_readWord 0 0 (g_Xj mX5_readWord n 0 0 (hPi P)) 0 n (hH S) [some (.ref (5)), some (.ref (a1)), some (.ref (a2)), none, none] [] 0 0 := by
  refine kX5_readWord_0  ?_
  refine q_pi hs2.1 rfl ?_
  obtain ⟨S1, eS⟩ : ∃ z, z = uI S (a2) 0 ((0 : Int32)) := ⟨_, rfl⟩
  rw [← eS]
  have h := h S1 eS
  refine q_gc rfl rfl ?_
  refine ⟨q_rc rfl, ?_⟩
  obtain ⟨d2, P2, hdd, hC, h⟩ := h
  refine ⟨d2, _, hdd, hC, fun H9 hp => ?_⟩
  obtain ⟨S2, rfl, hp⟩ := hp
  have h := h S2 hp
  exact h
theorem zX5_readWord_17 {d n : Nat} {S : gS} {P : gS → Int32 → Prop} {a1 : Nat} {a2 : Nat} {i3 : Int32} {i4 : Int32} (hs1 : isF a1) (hs2 : isWd a2) (h : ((7 : Int32) < i4 → s_ci d mX8_close n S [.ref (1)] (fun S1 x2 => P S1 (x2))) ∧ (¬ ((7 : Int32) < i4) → (i3 = 0 → s_ci d mX8_close n S [.ref (1)] (fun S3 x4 => P S3 (x4))) ∧ (¬ (i3 = 0) → (i4 = 0 → s_cz d mX5_readLetterName n S [.ref (5), .ref (a1), .ref (a2)] (fun S5 b6 => gG d mX5_readWord 0 0 (g_Xj mX5_readWord n 0 0 (hPi P)) 17 n (hH S5) [some (.ref (5)), some (.ref (a1)), some (.ref (a2)), some (.int (g_b b6)), some (.int ((i4 + 1)))] [] 0 0)) ∧ (¬ (i4 = 0) → s_cz d mX8_isEnd n S [.ref (1)] (fun S7 b8 => (b8 = true → s_ci d mX8_close n S7 [.ref (1)] (fun S9 x10 => P S9 (x10))) ∧ (b8 = false → s_cz d mX5_readLetterName n S7 [.ref (5), .ref (a1), .ref (a2)] (fun S11 b12 => gG d mX5_readWord 0 0 (g_Xj mX5_readWord n 0 0 (hPi P)) 17 n (hH S11) [some (.ref (5)), some (.ref (a1)), some (.ref (a2)), some (.int (g_b b12)), some (.int ((i4 + 1)))] [] 0 0))))))) : gG d mX5_readWord 0 0 (g_Xj mX5_readWord n 0 0 (hPi P)) 17 n (hH S) [some (.ref (5)), some (.ref (a1)), some (.ref (a2)), some (.int (i3)), some (.int (i4))] [] 0 0 := by
  refine kX5_readWord_17  ?_
  refine ⟨fun c => ?_, fun c => ?_⟩
  · have h := h.1 c
    refine q_gc rfl rfl ?_
    refine ⟨q_rc rfl, ?_⟩
    obtain ⟨d2, P2, hdd, hC, h⟩ := h
    refine ⟨d2, _, hdd, hC, fun H9 x2 hp => ?_⟩
    obtain ⟨S1, rfl, hp⟩ := hp
    have h := h S1 x2 hp
    exact ⟨_, rfl, h⟩
  · have h := h.2 c
    refine ⟨fun c => ?_, fun c => ?_⟩
    · have h := h.1 c
      refine q_gc rfl rfl ?_
      refine ⟨q_rc rfl, ?_⟩
      obtain ⟨d2, P2, hdd, hC, h⟩ := h
      refine ⟨d2, _, hdd, hC, fun H9 x4 hp => ?_⟩
      obtain ⟨S3, rfl, hp⟩ := hp
      have h := h S3 x4 hp
      exact ⟨_, rfl, h⟩
    · have h := h.2 c
      refine ⟨fun c => ?_, fun c => ?_⟩
      · have h := h.1 c
        refine ⟨q_rc rfl, ?_⟩
        obtain ⟨d2, P2, hdd, hC, h⟩ := h
        refine ⟨d2, _, hdd, hC, fun H9 b6 hp => ?_⟩
        obtain ⟨S5, rfl, hp⟩ := hp
        have h := h S5 b6 hp
        exact h
      · have h := h.2 c
        refine q_gc rfl rfl ?_
        refine ⟨q_rc rfl, ?_⟩
        obtain ⟨d2, P2, hdd, hC, h⟩ := h
        refine ⟨d2, _, hdd, hC, fun H9 b8 hp => ?_⟩
        obtain ⟨S7, rfl, hp⟩ := hp
        have h := h S7 b8 hp
        refine ⟨fun c => ?_, fun c => ?_⟩
        · have h := h.1 c
          refine q_gc rfl rfl ?_
          refine ⟨q_rc rfl, ?_⟩
          obtain ⟨d2, P2, hdd, hC, h⟩ := h
          refine ⟨d2, _, hdd, hC, fun H9 x10 hp => ?_⟩
          obtain ⟨S9, rfl, hp⟩ := hp
          have h := h S9 x10 hp
          exact ⟨_, rfl, h⟩
        · have h := h.2 c
          refine ⟨q_rc rfl, ?_⟩
          obtain ⟨d2, P2, hdd, hC, h⟩ := h
          refine ⟨d2, _, hdd, hC, fun H9 b12 hp => ?_⟩
          obtain ⟨S11, rfl, hp⟩ := hp
          have h := h S11 b12 hp
          exact h

theorem zX5_readLetterName_0 {d n : Nat} {S : gS} {P : gS → Bool → Prop} {a1 : Nat} {a2 : Nat} (hs1 : isF a1) (hs2 : isWd a2) (h : s_cz d mX8_isName n S [.ref (1)] (fun S1 b2 => (b2 = true → s_ci d mX1_letterNamed n S1 [.ref (a1), .long ((sJ S1 (1) 5))] (fun S3 x4 => (¬ (x4 = (-1 : Int32)) → ((sI S3 (a2) 0) < (7 : Int32) → vp_in ((sI S3 (a2) 0)) 7 ∧ (∀ S6, S6 = uR S3 ((a2 + 1)) (Int32.toNatClampNeg ((sI S3 (a2) 0))) (x4) → ∀ S7, S7 = uI S6 (a2) 0 (((sI S6 (a2) 0) + (1 : Int32))) → s_cv d mX8_advance n S7 [.ref (1)] (fun S8 => P S8 true))) ∧ (¬ ((sI S3 (a2) 0) < (7 : Int32)) → s_cz d mX8_fail n S3 [.ref (1), .int ((5 : Int32))] (fun S9 b10 => P S9 b10))) ∧ (x4 = (-1 : Int32) → s_cz d mX8_fail n S3 [.ref (1), .int ((2 : Int32))] (fun S11 b12 => P S11 b12)))) ∧ (b2 = false → s_cz d mX8_fail n S1 [.ref (1), .int ((1 : Int32))] (fun S13 b14 => P S13 b14)))) : gG d mX5_readLetterName 0 0 (g_Xz mX5_readLetterName n 0 0 (hPz P)) 0 n (hH S) [some (.ref (5)), some (.ref (a1)), some (.ref (a2)), none] [] 0 0 := by
  refine kX5_readLetterName_0  ?_
  refine q_gc rfl rfl ?_
  refine ⟨q_rc rfl, ?_⟩
  obtain ⟨d2, P2, hdd, hC, h⟩ := h
  refine ⟨d2, _, hdd, hC, fun H9 b2 hp => ?_⟩
  obtain ⟨S1, rfl, hp⟩ := hp
  have h := h S1 b2 hp
  refine ⟨fun c => ?_, fun c => ?_⟩
  · have h := h.1 c
    refine q_gc rfl rfl ?_
    refine q_gl rfl rfl ?_
    refine ⟨q_rc hs1.1, ?_⟩
    obtain ⟨d2, P2, hdd, hC, h⟩ := h
    refine ⟨d2, _, hdd, hC, fun H9 x4 hp => ?_⟩
    obtain ⟨S3, rfl, hp⟩ := hp
    have h := h S3 x4 hp
    refine ⟨fun c => ?_, fun c => ?_⟩
    · have h := h.1 c
      refine q_gi hs2.1 rfl ?_
      refine ⟨fun c => ?_, fun c => ?_⟩
      · have h := h.1 c
        refine q_gp hs2.1 rfl ?_
        refine q_gi hs2.1 rfl ?_
        obtain ⟨hv5, h⟩ := h
        refine q_as (k := Int32.toNatClampNeg ((sI S3 (a2) 0))) hs2.2 (by decide) hv5 rfl ?_
        obtain ⟨S6, eS⟩ : ∃ z, z = uR S3 ((a2 + 1)) (Int32.toNatClampNeg ((sI S3 (a2) 0))) (x4) := ⟨_, rfl⟩
        rw [← eS]
        have h := h S6 eS
        refine q_gi hs2.1 rfl ?_
        refine q_pi hs2.1 rfl ?_
        obtain ⟨S7, eS⟩ : ∃ z, z = uI S6 (a2) 0 (((sI S6 (a2) 0) + (1 : Int32))) := ⟨_, rfl⟩
        rw [← eS]
        have h := h S7 eS
        refine q_gc rfl rfl ?_
        refine ⟨q_rc rfl, ?_⟩
        obtain ⟨d2, P2, hdd, hC, h⟩ := h
        refine ⟨d2, _, hdd, hC, fun H9 hp => ?_⟩
        obtain ⟨S8, rfl, hp⟩ := hp
        have h := h S8 hp
        exact ⟨_, rfl, h⟩
      · have h := h.2 c
        refine q_gc rfl rfl ?_
        refine ⟨q_rc rfl, ?_⟩
        obtain ⟨d2, P2, hdd, hC, h⟩ := h
        refine ⟨d2, _, hdd, hC, fun H9 b10 hp => ?_⟩
        obtain ⟨S9, rfl, hp⟩ := hp
        have h := h S9 b10 hp
        exact ⟨_, rfl, h⟩
    · have h := h.2 c
      refine q_gc rfl rfl ?_
      refine ⟨q_rc rfl, ?_⟩
      obtain ⟨d2, P2, hdd, hC, h⟩ := h
      refine ⟨d2, _, hdd, hC, fun H9 b12 hp => ?_⟩
      obtain ⟨S11, rfl, hp⟩ := hp
      have h := h S11 b12 hp
      exact ⟨_, rfl, h⟩
  · have h := h.2 c
    refine q_gc rfl rfl ?_
    refine ⟨q_rc rfl, ?_⟩
    obtain ⟨d2, P2, hdd, hC, h⟩ := h
    refine ⟨d2, _, hdd, hC, fun H9 b14 hp => ?_⟩
    obtain ⟨S13, rfl, hp⟩ := hp
    have h := h S13 b14 hp
    exact ⟨_, rfl, h⟩

theorem zX8_addBytes_0 {d n : Nat} {S : gS} {P : gS → Prop} {j1 : Int64}  (h : gG d mX8_addBytes 0 0 (g_Xv mX8_addBytes n 0 0 (hPv P)) 3 n (hH S) [some (.ref (1)), some (.long (j1)), none, some (.int ((56 : Int32))), none, none] [] 0 0) : gG d mX8_addBytes 0 0 (g_Xv mX8_addBytes n 0 0 (hPv P)) 0 n (hH S) [some (.ref (1)), some (.long (j1)), none, none, none, none] [] 0 0 := by
  refine kX8_addBytes_0  ?_
  exact h
theorem zX8_addBytes_3 {d n : Nat} {S : gS} {P : gS → Prop} {j1 : Int64} {i3 : Int32}  (h : (i3 < 0 → P S) ∧ (¬ (i3 < 0) → ((Int64.toInt32 ((((Int64.toUInt64 (j1) >>> ((Int32.toInt64 (i3)).toUInt64 &&& Int64.toUInt64 63)).toInt64) &&& (255 : Int64)))) = (10 : Int32) → gG d mX8_addBytes 0 0 (g_Xv mX8_addBytes n 0 0 (hPv P)) 45 n (hH S) [some (.ref (1)), some (.long (j1)), none, some (.int (i3)), some (.int ((Int64.toInt32 ((((Int64.toUInt64 (j1) >>> ((Int32.toInt64 (i3)).toUInt64 &&& Int64.toUInt64 63)).toInt64) &&& (255 : Int64)))))), some (.int ((1 : Int32)))] [] 0 0) ∧ (¬ ((Int64.toInt32 ((((Int64.toUInt64 (j1) >>> ((Int32.toInt64 (i3)).toUInt64 &&& Int64.toUInt64 63)).toInt64) &&& (255 : Int64)))) = (10 : Int32)) → ((Int64.toInt32 ((((Int64.toUInt64 (j1) >>> ((Int32.toInt64 (i3)).toUInt64 &&& Int64.toUInt64 63)).toInt64) &&& (255 : Int64)))) < (32 : Int32) → gG d mX8_addBytes 0 0 (g_Xv mX8_addBytes n 0 0 (hPv P)) 45 n (hH S) [some (.ref (1)), some (.long (j1)), none, some (.int (i3)), some (.int ((Int64.toInt32 ((((Int64.toUInt64 (j1) >>> ((Int32.toInt64 (i3)).toUInt64 &&& Int64.toUInt64 63)).toInt64) &&& (255 : Int64)))))), some (.int ((0 : Int32)))] [] 0 0) ∧ (¬ ((Int64.toInt32 ((((Int64.toUInt64 (j1) >>> ((Int32.toInt64 (i3)).toUInt64 &&& Int64.toUInt64 63)).toInt64) &&& (255 : Int64)))) < (32 : Int32)) → ((126 : Int32) < (Int64.toInt32 ((((Int64.toUInt64 (j1) >>> ((Int32.toInt64 (i3)).toUInt64 &&& Int64.toUInt64 63)).toInt64) &&& (255 : Int64)))) → gG d mX8_addBytes 0 0 (g_Xv mX8_addBytes n 0 0 (hPv P)) 45 n (hH S) [some (.ref (1)), some (.long (j1)), none, some (.int (i3)), some (.int ((Int64.toInt32 ((((Int64.toUInt64 (j1) >>> ((Int32.toInt64 (i3)).toUInt64 &&& Int64.toUInt64 63)).toInt64) &&& (255 : Int64)))))), some (.int ((0 : Int32)))] [] 0 0) ∧ (¬ ((126 : Int32) < (Int64.toInt32 ((((Int64.toUInt64 (j1) >>> ((Int32.toInt64 (i3)).toUInt64 &&& Int64.toUInt64 63)).toInt64) &&& (255 : Int64))))) → gG d mX8_addBytes 0 0 (g_Xv mX8_addBytes n 0 0 (hPv P)) 45 n (hH S) [some (.ref (1)), some (.long (j1)), none, some (.int (i3)), some (.int ((Int64.toInt32 ((((Int64.toUInt64 (j1) >>> ((Int32.toInt64 (i3)).toUInt64 &&& Int64.toUInt64 63)).toInt64) &&& (255 : Int64)))))), some (.int ((1 : Int32)))] [] 0 0))))) : gG d mX8_addBytes 0 0 (g_Xv mX8_addBytes n 0 0 (hPv P)) 3 n (hH S) [some (.ref (1)), some (.long (j1)), none, some (.int (i3)), none, none] [] 0 0 := by
  refine kX8_addBytes_3  ?_
  refine ⟨fun c => ?_, fun c => ?_⟩
  · have h := h.1 c
    exact ⟨_, rfl, h⟩
  · have h := h.2 c
    refine ⟨fun c => ?_, fun c => ?_⟩
    · have h := h.1 c
      exact h
    · have h := h.2 c
      refine ⟨fun c => ?_, fun c => ?_⟩
      · have h := h.1 c
        exact h
      · have h := h.2 c
        refine ⟨fun c => ?_, fun c => ?_⟩
        · have h := h.1 c
          exact h
        · have h := h.2 c
          exact h
theorem zX8_addBytes_45 {d n : Nat} {S : gS} {P : gS → Prop} {j1 : Int64} {i3 : Int32} {i4 : Int32} {i5 : Int32}  (h : (i5 = 0 → gG d mX8_addBytes 0 0 (g_Xv mX8_addBytes n 0 0 (hPv P)) 3 n (hH S) [some (.ref (1)), some (.long (j1)), none, some (.int ((i3 + (-8)))), none, none] [] 0 0) ∧ (¬ (i5 = 0) → ((1000 : Int32) ≤ (sI S (1) 1) → gG d mX8_addBytes 0 0 (g_Xv mX8_addBytes n 0 0 (hPv P)) 3 n (hH S) [some (.ref (1)), some (.long (j1)), none, some (.int ((i3 + (-8)))), none, none] [] 0 0) ∧ (¬ ((1000 : Int32) ≤ (sI S (1) 1)) → vp_in ((sI S (1) 1)) 1000 ∧ (∀ S2, S2 = uR S (2) (Int32.toNatClampNeg ((sI S (1) 1))) (vp_nar .char ((Int32.toUInt32 (i4) % 65536).toInt32)) → ∀ S3, S3 = uI S2 (1) 1 (((sI S2 (1) 1) + (1 : Int32))) → gG d mX8_addBytes 0 0 (g_Xv mX8_addBytes n 0 0 (hPv P)) 3 n (hH S3) [some (.ref (1)), some (.long (j1)), none, some (.int ((i3 + (-8)))), none, none] [] 0 0)))) : gG d mX8_addBytes 0 0 (g_Xv mX8_addBytes n 0 0 (hPv P)) 45 n (hH S) [some (.ref (1)), some (.long (j1)), none, some (.int (i3)), some (.int (i4)), some (.int (i5))] [] 0 0 := by
  refine kX8_addBytes_45  ?_
  refine ⟨fun c => ?_, fun c => ?_⟩
  · have h := h.1 c
    exact h
  · have h := h.2 c
    refine q_gi rfl rfl ?_
    refine ⟨fun c => ?_, fun c => ?_⟩
    · have h := h.1 c
      exact h
    · have h := h.2 c
      refine q_gc rfl rfl ?_
      refine q_gi rfl rfl ?_
      obtain ⟨hv1, h⟩ := h
      refine q_as (k := Int32.toNatClampNeg ((sI S (1) 1))) rfl (by decide) hv1 rfl ?_
      obtain ⟨S2, eS⟩ : ∃ z, z = uR S (2) (Int32.toNatClampNeg ((sI S (1) 1))) (vp_nar .char ((Int32.toUInt32 (i4) % 65536).toInt32)) := ⟨_, rfl⟩
      rw [← eS]
      have h := h S2 eS
      refine q_gi rfl rfl ?_
      refine q_pi rfl rfl ?_
      obtain ⟨S3, eS⟩ : ∃ z, z = uI S2 (1) 1 (((sI S2 (1) 1) + (1 : Int32))) := ⟨_, rfl⟩
      rw [← eS]
      have h := h S3 eS
      exact h

theorem zX8_open_0 {d n : Nat} {S : gS} {P : gS → Prop}   (h : ∀ S1, S1 = uI S (1) 4 ((0 : Int32)) → ∀ S2, S2 = uI S1 (1) 7 ((0 : Int32)) → s_cv d mX8_advance n S2 [.ref (1)] (fun S3 => P S3)) : gG d mX8_open 0 0 (g_Xv mX8_open n 0 0 (hPv P)) 0 n (hH S) [some (.ref (1))] [] 0 0 := by
  refine kX8_open_0  ?_
  refine q_pi rfl rfl ?_
  obtain ⟨S1, eS⟩ : ∃ z, z = uI S (1) 4 ((0 : Int32)) := ⟨_, rfl⟩
  rw [← eS]
  have h := h S1 eS
  refine q_pi rfl rfl ?_
  obtain ⟨S2, eS⟩ : ∃ z, z = uI S1 (1) 7 ((0 : Int32)) := ⟨_, rfl⟩
  rw [← eS]
  have h := h S2 eS
  refine ⟨q_rc rfl, ?_⟩
  obtain ⟨d2, P2, hdd, hC, h⟩ := h
  refine ⟨d2, _, hdd, hC, fun H9 hp => ?_⟩
  obtain ⟨S3, rfl, hp⟩ := hp
  have h := h S3 hp
  exact ⟨_, rfl, h⟩

theorem zX8_close_0 {d n : Nat} {S : gS} {P : gS → Int32 → Prop}   (h : ∀ S1, S1 = uI S (1) 1 ((0 : Int32)) → P S1 ((sI S1 (1) 7))) : gG d mX8_close 0 0 (g_Xj mX8_close n 0 0 (hPi P)) 0 n (hH S) [some (.ref (1))] [] 0 0 := by
  refine kX8_close_0  ?_
  refine q_pi rfl rfl ?_
  obtain ⟨S1, eS⟩ : ∃ z, z = uI S (1) 1 ((0 : Int32)) := ⟨_, rfl⟩
  rw [← eS]
  have h := h S1 eS
  refine q_gi rfl rfl ?_
  exact ⟨_, rfl, h⟩

theorem zX8_fail_0 {d n : Nat} {S : gS} {P : gS → Bool → Prop} {i1 : Int32}  (h : (¬ ((sI S (1) 7) = 0) → P S false) ∧ ((sI S (1) 7) = 0 → ∀ S1, S1 = uI S (1) 7 ((i1 + ((16 : Int32) * (sI S (1) 3)))) → P S1 false)) : gG d mX8_fail 0 0 (g_Xz mX8_fail n 0 0 (hPz P)) 0 n (hH S) [some (.ref (1)), some (.int (i1))] [] 0 0 := by
  refine kX8_fail_0  ?_
  refine q_gi rfl rfl ?_
  refine ⟨fun c => ?_, fun c => ?_⟩
  · have h := h.1 c
    exact ⟨_, rfl, h⟩
  · have h := h.2 c
    refine q_gi rfl rfl ?_
    refine q_pi rfl rfl ?_
    obtain ⟨S1, eS⟩ : ∃ z, z = uI S (1) 7 ((i1 + ((16 : Int32) * (sI S (1) 3)))) := ⟨_, rfl⟩
    rw [← eS]
    have h := h S1 eS
    exact ⟨_, rfl, h⟩

theorem zX8_advance_0 {d n : Nat} {S : gS} {P : gS → Prop}   (h : gG d mX8_advance 0 0 (g_Xv mX8_advance n 0 0 (hPv P)) 5 n (hH S) [some (.ref (1)), some (.int ((sI S (1) 4))), none] [] 0 0) : gG d mX8_advance 0 0 (g_Xv mX8_advance n 0 0 (hPv P)) 0 n (hH S) [some (.ref (1)), none, none] [] 0 0 := by
  refine kX8_advance_0  ?_
  refine q_gi rfl rfl ?_
  exact h
theorem zX8_advance_5 {d n : Nat} {S : gS} {P : gS → Prop} {i1 : Int32}  (h : ((sI S (1) 1) ≤ i1 → gG d mX8_advance 0 0 (g_Xv mX8_advance n 0 0 (hPv P)) 41 n (hH S) [some (.ref (1)), some (.int (i1)), none] [] 0 0) ∧ (¬ ((sI S (1) 1) ≤ i1) → vp_in (i1) 1000 ∧ (((sR S (2) (Int32.toNatClampNeg (i1))) = (10 : Int32) → gG d mX8_advance 0 0 (g_Xv mX8_advance n 0 0 (hPv P)) 5 n (hH S) [some (.ref (1)), some (.int ((i1 + 1))), none] [] 0 0) ∧ (¬ ((sR S (2) (Int32.toNatClampNeg (i1))) = (10 : Int32)) → ((¬ ((sR S (2) (Int32.toNatClampNeg (i1))) = (32 : Int32)) → gG d mX8_advance 0 0 (g_Xv mX8_advance n 0 0 (hPv P)) 41 n (hH S) [some (.ref (1)), some (.int (i1)), none] [] 0 0) ∧ ((sR S (2) (Int32.toNatClampNeg (i1))) = (32 : Int32) → gG d mX8_advance 0 0 (g_Xv mX8_advance n 0 0 (hPv P)) 5 n (hH S) [some (.ref (1)), some (.int ((i1 + 1))), none] [] 0 0)))))) : gG d mX8_advance 0 0 (g_Xv mX8_advance n 0 0 (hPv P)) 5 n (hH S) [some (.ref (1)), some (.int (i1)), none] [] 0 0 := by
  refine kX8_advance_5  ?_
  refine q_gi rfl rfl ?_
  refine ⟨fun c => ?_, fun c => ?_⟩
  · have h := h.1 c
    exact h
  · have h := h.2 c
    refine q_gc rfl rfl ?_
    obtain ⟨hv1, h⟩ := h
    refine q_al (k := Int32.toNatClampNeg (i1)) rfl (by decide) hv1 rfl ?_
    refine ⟨fun c => ?_, fun c => ?_⟩
    · have h := h.1 c
      exact h
    · have h := h.2 c
      refine q_gc rfl rfl ?_
      refine q_al (k := Int32.toNatClampNeg (i1)) rfl (by decide) hv1 rfl ?_
      refine ⟨fun c => ?_, fun c => ?_⟩
      · have h := h.1 c
        exact h
      · have h := h.2 c
        exact h
theorem zX8_advance_41 {d n : Nat} {S : gS} {P : gS → Prop} {i1 : Int32}  (h : ∀ S1, S1 = uI S (1) 3 (i1) → ∀ S2, S2 = uI S1 (1) 4 (i1) → (i1 < (sI S2 (1) 1) → vp_in (i1) 1000 ∧ (((sR S2 (2) (Int32.toNatClampNeg (i1))) < (97 : Int32) → gG d mX8_advance 0 0 (g_Xv mX8_advance n 0 0 (hPv P)) 91 n (hH S2) [some (.ref (1)), some (.int (i1)), some (.int ((sR S2 (2) (Int32.toNatClampNeg (i1)))))] [] 0 0) ∧ (¬ ((sR S2 (2) (Int32.toNatClampNeg (i1))) < (97 : Int32)) → ((122 : Int32) < (sR S2 (2) (Int32.toNatClampNeg (i1))) → gG d mX8_advance 0 0 (g_Xv mX8_advance n 0 0 (hPv P)) 91 n (hH S2) [some (.ref (1)), some (.int (i1)), some (.int ((sR S2 (2) (Int32.toNatClampNeg (i1)))))] [] 0 0) ∧ (¬ ((122 : Int32) < (sR S2 (2) (Int32.toNatClampNeg (i1)))) → s_cv d mX8_scanWord n S2 [.ref (1)] (fun S4 => P S4))))) ∧ (¬ (i1 < (sI S2 (1) 1)) → ∀ S5, S5 = uI S2 (1) 2 ((0 : Int32)) → P S5)) : gG d mX8_advance 0 0 (g_Xv mX8_advance n 0 0 (hPv P)) 41 n (hH S) [some (.ref (1)), some (.int (i1)), none] [] 0 0 := by
  refine kX8_advance_41  ?_
  refine q_pi rfl rfl ?_
  obtain ⟨S1, eS⟩ : ∃ z, z = uI S (1) 3 (i1) := ⟨_, rfl⟩
  rw [← eS]
  have h := h S1 eS
  refine q_pi rfl rfl ?_
  obtain ⟨S2, eS⟩ : ∃ z, z = uI S1 (1) 4 (i1) := ⟨_, rfl⟩
  rw [← eS]
  have h := h S2 eS
  refine q_gi rfl rfl ?_
  refine ⟨fun c => ?_, fun c => ?_⟩
  · have h := h.1 c
    refine q_gc rfl rfl ?_
    obtain ⟨hv3, h⟩ := h
    refine q_al (k := Int32.toNatClampNeg (i1)) rfl (by decide) hv3 rfl ?_
    refine ⟨fun c => ?_, fun c => ?_⟩
    · have h := h.1 c
      exact h
    · have h := h.2 c
      refine ⟨fun c => ?_, fun c => ?_⟩
      · have h := h.1 c
        exact h
      · have h := h.2 c
        refine ⟨q_rc rfl, ?_⟩
        obtain ⟨d2, P2, hdd, hC, h⟩ := h
        refine ⟨d2, _, hdd, hC, fun H9 hp => ?_⟩
        obtain ⟨S4, rfl, hp⟩ := hp
        have h := h S4 hp
        exact ⟨_, rfl, h⟩
  · have h := h.2 c
    refine q_pi rfl rfl ?_
    obtain ⟨S5, eS⟩ : ∃ z, z = uI S2 (1) 2 ((0 : Int32)) := ⟨_, rfl⟩
    rw [← eS]
    have h := h S5 eS
    exact ⟨_, rfl, h⟩
theorem zX8_advance_91 {d n : Nat} {S : gS} {P : gS → Prop} {i1 : Int32} {i2 : Int32}  (h : (i2 < (48 : Int32) → gG d mX8_advance 0 0 (g_Xv mX8_advance n 0 0 (hPv P)) 110 n (hH S) [some (.ref (1)), some (.int (i1)), some (.int (i2))] [] 0 0) ∧ (¬ (i2 < (48 : Int32)) → ((57 : Int32) < i2 → gG d mX8_advance 0 0 (g_Xv mX8_advance n 0 0 (hPv P)) 110 n (hH S) [some (.ref (1)), some (.int (i1)), some (.int (i2))] [] 0 0) ∧ (¬ ((57 : Int32) < i2) → s_cv d mX8_scanNumber n S [.ref (1)] (fun S1 => P S1)))) : gG d mX8_advance 0 0 (g_Xv mX8_advance n 0 0 (hPv P)) 91 n (hH S) [some (.ref (1)), some (.int (i1)), some (.int (i2))] [] 0 0 := by
  refine kX8_advance_91  ?_
  refine ⟨fun c => ?_, fun c => ?_⟩
  · have h := h.1 c
    exact h
  · have h := h.2 c
    refine ⟨fun c => ?_, fun c => ?_⟩
    · have h := h.1 c
      exact h
    · have h := h.2 c
      refine ⟨q_rc rfl, ?_⟩
      obtain ⟨d2, P2, hdd, hC, h⟩ := h
      refine ⟨d2, _, hdd, hC, fun H9 hp => ?_⟩
      obtain ⟨S1, rfl, hp⟩ := hp
      have h := h S1 hp
      exact ⟨_, rfl, h⟩
theorem zX8_advance_110 {d n : Nat} {S : gS} {P : gS → Prop} {i1 : Int32} {i2 : Int32}  (h : s_ci d mJ0_indexOf_0f7a4 n S [.float (0), .int (i2)] (fun S1 x2 => (x2 < 0 → ∀ S3, S3 = uI S1 (1) 2 ((1 : Int32)) → ∀ S4, S4 = uI S3 (1) 4 ((i1 + (1 : Int32))) → P S4) ∧ (¬ (x2 < 0) → ∀ S5, S5 = uI S1 (1) 2 ((4 : Int32)) → ∀ S6, S6 = uI S5 (1) 4 ((i1 + (1 : Int32))) → P S6))) : gG d mX8_advance 0 0 (g_Xv mX8_advance n 0 0 (hPv P)) 110 n (hH S) [some (.ref (1)), some (.int (i1)), some (.int (i2))] [] 0 0 := by
  refine kX8_advance_110  ?_
  obtain ⟨d2, P2, hdd, hC, h⟩ := h
  refine ⟨d2, _, hdd, hC, fun H9 x2 hp => ?_⟩
  obtain ⟨S1, rfl, hp⟩ := hp
  have h := h S1 x2 hp
  refine ⟨fun c => ?_, fun c => ?_⟩
  · have h := h.1 c
    refine q_pi rfl rfl ?_
    obtain ⟨S3, eS⟩ : ∃ z, z = uI S1 (1) 2 ((1 : Int32)) := ⟨_, rfl⟩
    rw [← eS]
    have h := h S3 eS
    refine q_pi rfl rfl ?_
    obtain ⟨S4, eS⟩ : ∃ z, z = uI S3 (1) 4 ((i1 + (1 : Int32))) := ⟨_, rfl⟩
    rw [← eS]
    have h := h S4 eS
    exact ⟨_, rfl, h⟩
  · have h := h.2 c
    refine q_pi rfl rfl ?_
    obtain ⟨S5, eS⟩ : ∃ z, z = uI S1 (1) 2 ((4 : Int32)) := ⟨_, rfl⟩
    rw [← eS]
    have h := h S5 eS
    refine q_pi rfl rfl ?_
    obtain ⟨S6, eS⟩ : ∃ z, z = uI S5 (1) 4 ((i1 + (1 : Int32))) := ⟨_, rfl⟩
    rw [← eS]
    have h := h S6 eS
    exact ⟨_, rfl, h⟩

theorem zX8_scanWord_0 {d n : Nat} {S : gS} {P : gS → Prop}   (h : ∀ S1, S1 = uJ S (1) 5 ((0 : Int64)) → gG d mX8_scanWord 0 0 (g_Xv mX8_scanWord n 0 0 (hPv P)) 5 n (hH S1) [some (.ref (1))] [] 0 0) : gG d mX8_scanWord 0 0 (g_Xv mX8_scanWord n 0 0 (hPv P)) 0 n (hH S) [some (.ref (1))] [] 0 0 := by
  refine kX8_scanWord_0  ?_
  refine q_pl rfl rfl ?_
  obtain ⟨S1, eS⟩ : ∃ z, z = uJ S (1) 5 ((0 : Int64)) := ⟨_, rfl⟩
  rw [← eS]
  have h := h S1 eS
  exact h
theorem zX8_scanWord_5 {d n : Nat} {S : gS} {P : gS → Prop}   (h : ((sI S (1) 1) ≤ (sI S (1) 4) → gG d mX8_scanWord 0 0 (g_Xv mX8_scanWord n 0 0 (hPv P)) 85 n (hH S) [some (.ref (1))] [] 0 0) ∧ (¬ ((sI S (1) 1) ≤ (sI S (1) 4)) → vp_in ((sI S (1) 4)) 1000 ∧ (((sR S (2) (Int32.toNatClampNeg ((sI S (1) 4)))) < (97 : Int32) → gG d mX8_scanWord 0 0 (g_Xv mX8_scanWord n 0 0 (hPv P)) 85 n (hH S) [some (.ref (1))] [] 0 0) ∧ (¬ ((sR S (2) (Int32.toNatClampNeg ((sI S (1) 4)))) < (97 : Int32)) → (((122 : Int32) < (sR S (2) (Int32.toNatClampNeg ((sI S (1) 4)))) → gG d mX8_scanWord 0 0 (g_Xv mX8_scanWord n 0 0 (hPv P)) 85 n (hH S) [some (.ref (1))] [] 0 0) ∧ (¬ ((122 : Int32) < (sR S (2) (Int32.toNatClampNeg ((sI S (1) 4))))) → (∀ S2, S2 = uJ S (1) 5 ((((sJ S (1) 5) * (32 : Int64)) + (Int32.toInt64 ((((sR S (2) (Int32.toNatClampNeg ((sI S (1) 4)))) - (97 : Int32)) + (1 : Int32)))))) → ∀ S3, S3 = uI S2 (1) 4 (((sI S2 (1) 4) + (1 : Int32))) → gG d mX8_scanWord 0 0 (g_Xv mX8_scanWord n 0 0 (hPv P)) 5 n (hH S3) [some (.ref (1))] [] 0 0))))))) : gG d mX8_scanWord 0 0 (g_Xv mX8_scanWord n 0 0 (hPv P)) 5 n (hH S) [some (.ref (1))] [] 0 0 := by
  refine kX8_scanWord_5  ?_
  refine q_gi rfl rfl ?_
  refine q_gi rfl rfl ?_
  refine ⟨fun c => ?_, fun c => ?_⟩
  · have h := h.1 c
    exact h
  · have h := h.2 c
    refine q_gc rfl rfl ?_
    refine q_gi rfl rfl ?_
    obtain ⟨hv1, h⟩ := h
    refine q_al (k := Int32.toNatClampNeg ((sI S (1) 4))) rfl (by decide) hv1 rfl ?_
    refine ⟨fun c => ?_, fun c => ?_⟩
    · have h := h.1 c
      exact h
    · have h := h.2 c
      refine q_gc rfl rfl ?_
      refine q_gi rfl rfl ?_
      refine q_al (k := Int32.toNatClampNeg ((sI S (1) 4))) rfl (by decide) hv1 rfl ?_
      refine ⟨fun c => ?_, fun c => ?_⟩
      · have h := h.1 c
        exact h
      · have h := h.2 c
        refine q_gl rfl rfl ?_
        refine q_gc rfl rfl ?_
        refine q_gi rfl rfl ?_
        refine q_al (k := Int32.toNatClampNeg ((sI S (1) 4))) rfl (by decide) hv1 rfl ?_
        refine q_pl rfl rfl ?_
        obtain ⟨S2, eS⟩ : ∃ z, z = uJ S (1) 5 ((((sJ S (1) 5) * (32 : Int64)) + (Int32.toInt64 ((((sR S (2) (Int32.toNatClampNeg ((sI S (1) 4)))) - (97 : Int32)) + (1 : Int32)))))) := ⟨_, rfl⟩
        rw [← eS]
        have h := h S2 eS
        refine q_gi rfl rfl ?_
        refine q_pi rfl rfl ?_
        obtain ⟨S3, eS⟩ : ∃ z, z = uI S2 (1) 4 (((sI S2 (1) 4) + (1 : Int32))) := ⟨_, rfl⟩
        rw [← eS]
        have h := h S3 eS
        exact h
theorem zX8_scanWord_85 {d n : Nat} {S : gS} {P : gS → Prop}   (h : ((8 : Int32) < ((sI S (1) 4) - (sI S (1) 3)) → ∀ S1, S1 = uI S (1) 2 ((1 : Int32)) → P S1) ∧ (¬ ((8 : Int32) < ((sI S (1) 4) - (sI S (1) 3))) → ∀ S2, S2 = uI S (1) 2 ((2 : Int32)) → P S2)) : gG d mX8_scanWord 0 0 (g_Xv mX8_scanWord n 0 0 (hPv P)) 85 n (hH S) [some (.ref (1))] [] 0 0 := by
  refine kX8_scanWord_85  ?_
  refine q_gi rfl rfl ?_
  refine q_gi rfl rfl ?_
  refine ⟨fun c => ?_, fun c => ?_⟩
  · have h := h.1 c
    refine q_pi rfl rfl ?_
    obtain ⟨S1, eS⟩ : ∃ z, z = uI S (1) 2 ((1 : Int32)) := ⟨_, rfl⟩
    rw [← eS]
    have h := h S1 eS
    exact ⟨_, rfl, h⟩
  · have h := h.2 c
    refine q_pi rfl rfl ?_
    obtain ⟨S2, eS⟩ : ∃ z, z = uI S (1) 2 ((2 : Int32)) := ⟨_, rfl⟩
    rw [← eS]
    have h := h S2 eS
    exact ⟨_, rfl, h⟩

theorem zX8_scanNumber_0 {d n : Nat} {S : gS} {P : gS → Prop}   (h : ∀ S1, S1 = uI S (1) 6 ((0 : Int32)) → gG d mX8_scanNumber 0 0 (g_Xv mX8_scanNumber n 0 0 (hPv P)) 5 n (hH S1) [some (.ref (1))] [] 0 0) : gG d mX8_scanNumber 0 0 (g_Xv mX8_scanNumber n 0 0 (hPv P)) 0 n (hH S) [some (.ref (1))] [] 0 0 := by
  refine kX8_scanNumber_0  ?_
  refine q_pi rfl rfl ?_
  obtain ⟨S1, eS⟩ : ∃ z, z = uI S (1) 6 ((0 : Int32)) := ⟨_, rfl⟩
  rw [← eS]
  have h := h S1 eS
  exact h
theorem zX8_scanNumber_5 {d n : Nat} {S : gS} {P : gS → Prop}   (h : ((sI S (1) 1) ≤ (sI S (1) 4) → gG d mX8_scanNumber 0 0 (g_Xv mX8_scanNumber n 0 0 (hPv P)) 81 n (hH S) [some (.ref (1))] [] 0 0) ∧ (¬ ((sI S (1) 1) ≤ (sI S (1) 4)) → vp_in ((sI S (1) 4)) 1000 ∧ (((sR S (2) (Int32.toNatClampNeg ((sI S (1) 4)))) < (48 : Int32) → gG d mX8_scanNumber 0 0 (g_Xv mX8_scanNumber n 0 0 (hPv P)) 81 n (hH S) [some (.ref (1))] [] 0 0) ∧ (¬ ((sR S (2) (Int32.toNatClampNeg ((sI S (1) 4)))) < (48 : Int32)) → (((57 : Int32) < (sR S (2) (Int32.toNatClampNeg ((sI S (1) 4)))) → gG d mX8_scanNumber 0 0 (g_Xv mX8_scanNumber n 0 0 (hPv P)) 81 n (hH S) [some (.ref (1))] [] 0 0) ∧ (¬ ((57 : Int32) < (sR S (2) (Int32.toNatClampNeg ((sI S (1) 4))))) → (∀ S2, S2 = uI S (1) 6 ((((sI S (1) 6) * (10 : Int32)) + ((sR S (2) (Int32.toNatClampNeg ((sI S (1) 4)))) - (48 : Int32)))) → ∀ S3, S3 = uI S2 (1) 4 (((sI S2 (1) 4) + (1 : Int32))) → gG d mX8_scanNumber 0 0 (g_Xv mX8_scanNumber n 0 0 (hPv P)) 5 n (hH S3) [some (.ref (1))] [] 0 0))))))) : gG d mX8_scanNumber 0 0 (g_Xv mX8_scanNumber n 0 0 (hPv P)) 5 n (hH S) [some (.ref (1))] [] 0 0 := by
  refine kX8_scanNumber_5  ?_
  refine q_gi rfl rfl ?_
  refine q_gi rfl rfl ?_
  refine ⟨fun c => ?_, fun c => ?_⟩
  · have h := h.1 c
    exact h
  · have h := h.2 c
    refine q_gc rfl rfl ?_
    refine q_gi rfl rfl ?_
    obtain ⟨hv1, h⟩ := h
    refine q_al (k := Int32.toNatClampNeg ((sI S (1) 4))) rfl (by decide) hv1 rfl ?_
    refine ⟨fun c => ?_, fun c => ?_⟩
    · have h := h.1 c
      exact h
    · have h := h.2 c
      refine q_gc rfl rfl ?_
      refine q_gi rfl rfl ?_
      refine q_al (k := Int32.toNatClampNeg ((sI S (1) 4))) rfl (by decide) hv1 rfl ?_
      refine ⟨fun c => ?_, fun c => ?_⟩
      · have h := h.1 c
        exact h
      · have h := h.2 c
        refine q_gi rfl rfl ?_
        refine q_gc rfl rfl ?_
        refine q_gi rfl rfl ?_
        refine q_al (k := Int32.toNatClampNeg ((sI S (1) 4))) rfl (by decide) hv1 rfl ?_
        refine q_pi rfl rfl ?_
        obtain ⟨S2, eS⟩ : ∃ z, z = uI S (1) 6 ((((sI S (1) 6) * (10 : Int32)) + ((sR S (2) (Int32.toNatClampNeg ((sI S (1) 4)))) - (48 : Int32)))) := ⟨_, rfl⟩
        rw [← eS]
        have h := h S2 eS
        refine q_gi rfl rfl ?_
        refine q_pi rfl rfl ?_
        obtain ⟨S3, eS⟩ : ∃ z, z = uI S2 (1) 4 (((sI S2 (1) 4) + (1 : Int32))) := ⟨_, rfl⟩
        rw [← eS]
        have h := h S3 eS
        exact h
theorem zX8_scanNumber_81 {d n : Nat} {S : gS} {P : gS → Prop}   (h : ((4 : Int32) < ((sI S (1) 4) - (sI S (1) 3)) → ∀ S1, S1 = uI S (1) 2 ((1 : Int32)) → P S1) ∧ (¬ ((4 : Int32) < ((sI S (1) 4) - (sI S (1) 3))) → ∀ S2, S2 = uI S (1) 2 ((3 : Int32)) → P S2)) : gG d mX8_scanNumber 0 0 (g_Xv mX8_scanNumber n 0 0 (hPv P)) 81 n (hH S) [some (.ref (1))] [] 0 0 := by
  refine kX8_scanNumber_81  ?_
  refine q_gi rfl rfl ?_
  refine q_gi rfl rfl ?_
  refine ⟨fun c => ?_, fun c => ?_⟩
  · have h := h.1 c
    refine q_pi rfl rfl ?_
    obtain ⟨S1, eS⟩ : ∃ z, z = uI S (1) 2 ((1 : Int32)) := ⟨_, rfl⟩
    rw [← eS]
    have h := h S1 eS
    exact ⟨_, rfl, h⟩
  · have h := h.2 c
    refine q_pi rfl rfl ?_
    obtain ⟨S2, eS⟩ : ∃ z, z = uI S (1) 2 ((3 : Int32)) := ⟨_, rfl⟩
    rw [← eS]
    have h := h S2 eS
    exact ⟨_, rfl, h⟩

theorem zX8_isEnd_0 {d n : Nat} {S : gS} {P : gS → Bool → Prop}   (h : (¬ ((sI S (1) 2) = 0) → P S false) ∧ ((sI S (1) 2) = 0 → P S true)) : gG d mX8_isEnd 0 0 (g_Xz mX8_isEnd n 0 0 (hPz P)) 0 n (hH S) [some (.ref (1))] [] 0 0 := by
  refine kX8_isEnd_0  ?_
  refine q_gi rfl rfl ?_
  refine ⟨fun c => ?_, fun c => ?_⟩
  · have h := h.1 c
    exact ⟨_, rfl, h⟩
  · have h := h.2 c
    exact ⟨_, rfl, h⟩

theorem zX8_isNumber_0 {d n : Nat} {S : gS} {P : gS → Bool → Prop}   (h : (¬ ((sI S (1) 2) = (3 : Int32)) → P S false) ∧ ((sI S (1) 2) = (3 : Int32) → P S true)) : gG d mX8_isNumber 0 0 (g_Xz mX8_isNumber n 0 0 (hPz P)) 0 n (hH S) [some (.ref (1))] [] 0 0 := by
  refine kX8_isNumber_0  ?_
  refine q_gi rfl rfl ?_
  refine ⟨fun c => ?_, fun c => ?_⟩
  · have h := h.1 c
    exact ⟨_, rfl, h⟩
  · have h := h.2 c
    exact ⟨_, rfl, h⟩

theorem zX8_isSign_0 {d n : Nat} {S : gS} {P : gS → Bool → Prop} {i1 : Int32}  (h : (¬ ((sI S (1) 2) = (4 : Int32)) → P S false) ∧ ((sI S (1) 2) = (4 : Int32) → ((sI S (1) 1) ≤ (sI S (1) 3) → P S false) ∧ (¬ ((sI S (1) 1) ≤ (sI S (1) 3)) → vp_in ((sI S (1) 3)) 1000 ∧ ((¬ ((sR S (2) (Int32.toNatClampNeg ((sI S (1) 3)))) = i1) → P S false) ∧ ((sR S (2) (Int32.toNatClampNeg ((sI S (1) 3)))) = i1 → P S true))))) : gG d mX8_isSign 0 0 (g_Xz mX8_isSign n 0 0 (hPz P)) 0 n (hH S) [some (.ref (1)), some (.int (i1))] [] 0 0 := by
  refine kX8_isSign_0  ?_
  refine q_gi rfl rfl ?_
  refine ⟨fun c => ?_, fun c => ?_⟩
  · have h := h.1 c
    exact ⟨_, rfl, h⟩
  · have h := h.2 c
    refine q_gi rfl rfl ?_
    refine q_gi rfl rfl ?_
    refine ⟨fun c => ?_, fun c => ?_⟩
    · have h := h.1 c
      exact ⟨_, rfl, h⟩
    · have h := h.2 c
      refine q_gc rfl rfl ?_
      refine q_gi rfl rfl ?_
      obtain ⟨hv1, h⟩ := h
      refine q_al (k := Int32.toNatClampNeg ((sI S (1) 3))) rfl (by decide) hv1 rfl ?_
      refine ⟨fun c => ?_, fun c => ?_⟩
      · have h := h.1 c
        exact ⟨_, rfl, h⟩
      · have h := h.2 c
        exact ⟨_, rfl, h⟩

theorem zX8_isWord_0 {d n : Nat} {S : gS} {P : gS → Bool → Prop} {t1 : UInt32} (ht1 : (t1).toNat < 45) (h : (¬ ((sI S (1) 2) = (2 : Int32)) → P S false) ∧ ((sI S (1) 2) = (2 : Int32) → s_ci d mJ0_length_8abf5 n S [.float (t1)] (fun S1 x2 => (¬ (((sI S (1) 4) - (sI S (1) 3)) = x2) → P S1 false) ∧ (((sI S (1) 4) - (sI S (1) 3)) = x2 → ((sI S1 (1) 4) ≤ (sI S1 (1) 1) → gG d mX8_isWord 0 0 (g_Xz mX8_isWord n 0 0 (hPz P)) 39 n (hH S1) [some (.ref (1)), some (.float (t1)), some (.int ((0 : Int32)))] [] 0 0) ∧ (¬ ((sI S1 (1) 4) ≤ (sI S1 (1) 1)) → P S1 false))))) : gG d mX8_isWord 0 0 (g_Xz mX8_isWord n 0 0 (hPz P)) 0 n (hH S) [some (.ref (1)), some (.float (t1)), none] [] 0 0 := by
  refine kX8_isWord_0 ht1 ?_
  refine q_gi rfl rfl ?_
  refine ⟨fun c => ?_, fun c => ?_⟩
  · have h := h.1 c
    exact ⟨_, rfl, h⟩
  · have h := h.2 c
    refine q_gi rfl rfl ?_
    refine q_gi rfl rfl ?_
    obtain ⟨d2, P2, hdd, hC, h⟩ := h
    refine ⟨d2, _, hdd, hC, fun H9 x2 hp => ?_⟩
    obtain ⟨S1, rfl, hp⟩ := hp
    have h := h S1 x2 hp
    refine ⟨fun c => ?_, fun c => ?_⟩
    · have h := h.1 c
      exact ⟨_, rfl, h⟩
    · have h := h.2 c
      refine q_gi rfl rfl ?_
      refine q_gi rfl rfl ?_
      refine ⟨fun c => ?_, fun c => ?_⟩
      · have h := h.1 c
        exact h
      · have h := h.2 c
        exact ⟨_, rfl, h⟩
theorem zX8_isWord_39 {d n : Nat} {S : gS} {P : gS → Bool → Prop} {t1 : UInt32} {i2 : Int32} (ht1 : (t1).toNat < 45) (h : s_ci d mJ0_length_8abf5 n S [.float (t1)] (fun S1 x2 => (x2 ≤ i2 → P S1 true) ∧ (¬ (x2 ≤ i2) → vp_in (((sI S1 (1) 3) + i2)) 1000 ∧ (s_ci d mJ0_charAt_5068e n S1 [.float (t1), .int (i2)] (fun S4 x5 => ((sR S1 (2) (Int32.toNatClampNeg (((sI S1 (1) 3) + i2)))) = x5 → gG d mX8_isWord 0 0 (g_Xz mX8_isWord n 0 0 (hPz P)) 39 n (hH S4) [some (.ref (1)), some (.float (t1)), some (.int ((i2 + 1)))] [] 0 0) ∧ (¬ ((sR S1 (2) (Int32.toNatClampNeg (((sI S1 (1) 3) + i2)))) = x5) → P S4 false)))))) : gG d mX8_isWord 0 0 (g_Xz mX8_isWord n 0 0 (hPz P)) 39 n (hH S) [some (.ref (1)), some (.float (t1)), some (.int (i2))] [] 0 0 := by
  refine kX8_isWord_39 ht1 ?_
  obtain ⟨d2, P2, hdd, hC, h⟩ := h
  refine ⟨d2, _, hdd, hC, fun H9 x2 hp => ?_⟩
  obtain ⟨S1, rfl, hp⟩ := hp
  have h := h S1 x2 hp
  refine ⟨fun c => ?_, fun c => ?_⟩
  · have h := h.1 c
    exact ⟨_, rfl, h⟩
  · have h := h.2 c
    refine q_gc rfl rfl ?_
    refine q_gi rfl rfl ?_
    obtain ⟨hv3, h⟩ := h
    refine q_al (k := Int32.toNatClampNeg (((sI S1 (1) 3) + i2))) rfl (by decide) hv3 rfl ?_
    obtain ⟨d2, P2, hdd, hC, h⟩ := h
    refine ⟨d2, _, hdd, hC, fun H9 x5 hp => ?_⟩
    obtain ⟨S4, rfl, hp⟩ := hp
    have h := h S4 x5 hp
    refine ⟨fun c => ?_, fun c => ?_⟩
    · have h := h.1 c
      exact h
    · have h := h.2 c
      exact ⟨_, rfl, h⟩

theorem zX8_isName_0 {d n : Nat} {S : gS} {P : gS → Bool → Prop}   (h : (¬ ((sI S (1) 2) = (2 : Int32)) → P S false) ∧ ((sI S (1) 2) = (2 : Int32) → s_cz d mX8_isWord n S [.ref (1), .float (2)] (fun S1 b2 => (b2 = true → P S1 false) ∧ (b2 = false → s_cz d mX8_isWord n S1 [.ref (1), .float (3)] (fun S3 b4 => (b4 = true → P S3 false) ∧ (b4 = false → s_cz d mX8_isWord n S3 [.ref (1), .float (4)] (fun S5 b6 => (b6 = true → P S5 false) ∧ (b6 = false → s_cz d mX8_isWord n S5 [.ref (1), .float (5)] (fun S7 b8 => (b8 = true → P S7 false) ∧ (b8 = false → s_cz d mX8_isWord n S7 [.ref (1), .float (6)] (fun S9 b10 => (b10 = true → P S9 false) ∧ (b10 = false → s_cz d mX8_isWord n S9 [.ref (1), .float (7)] (fun S11 b12 => (b12 = true → P S11 false) ∧ (b12 = false → s_cz d mX8_isWord n S11 [.ref (1), .float (8)] (fun S13 b14 => (b14 = true → P S13 false) ∧ (b14 = false → s_cz d mX8_isWord n S13 [.ref (1), .float (9)] (fun S15 b16 => (b16 = true → P S15 false) ∧ (b16 = false → s_cz d mX8_isWord n S15 [.ref (1), .float (10)] (fun S17 b18 => (b18 = true → P S17 false) ∧ (b18 = false → s_cz d mX8_isWord n S17 [.ref (1), .float (11)] (fun S19 b20 => (b20 = true → P S19 false) ∧ (b20 = false → s_cz d mX8_isWord n S19 [.ref (1), .float (12)] (fun S21 b22 => (b22 = true → P S21 false) ∧ (b22 = false → s_cz d mX8_isWord n S21 [.ref (1), .float (13)] (fun S23 b24 => (b24 = true → P S23 false) ∧ (b24 = false → s_cz d mX8_isWord n S23 [.ref (1), .float (14)] (fun S25 b26 => (b26 = true → P S25 false) ∧ (b26 = false → s_cz d mX8_isWord n S25 [.ref (1), .float (15)] (fun S27 b28 => (b28 = true → P S27 false) ∧ (b28 = false → s_cz d mX8_isWord n S27 [.ref (1), .float (16)] (fun S29 b30 => (b30 = true → P S29 false) ∧ (b30 = false → s_cz d mX8_isWord n S29 [.ref (1), .float (17)] (fun S31 b32 => (b32 = true → P S31 false) ∧ (b32 = false → s_cz d mX8_isWord n S31 [.ref (1), .float (18)] (fun S33 b34 => (b34 = true → P S33 false) ∧ (b34 = false → s_cz d mX8_isWord n S33 [.ref (1), .float (19)] (fun S35 b36 => (b36 = true → P S35 false) ∧ (b36 = false → s_cz d mX8_isWord n S35 [.ref (1), .float (20)] (fun S37 b38 => (b38 = true → P S37 false) ∧ (b38 = false → s_cz d mX8_isWord n S37 [.ref (1), .float (21)] (fun S39 b40 => (b40 = true → P S39 false) ∧ (b40 = false → P S39 true)))))))))))))))))))))))))))))))))))))))))) : gG d mX8_isName 0 0 (g_Xz mX8_isName n 0 0 (hPz P)) 0 n (hH S) [some (.ref (1))] [] 0 0 := by
  refine kX8_isName_0  ?_
  refine q_gi rfl rfl ?_
  refine ⟨fun c => ?_, fun c => ?_⟩
  · have h := h.1 c
    exact ⟨_, rfl, h⟩
  · have h := h.2 c
    refine ⟨q_rc rfl, ?_⟩
    obtain ⟨d2, P2, hdd, hC, h⟩ := h
    refine ⟨d2, _, hdd, hC, fun H9 b2 hp => ?_⟩
    obtain ⟨S1, rfl, hp⟩ := hp
    have h := h S1 b2 hp
    refine ⟨fun c => ?_, fun c => ?_⟩
    · have h := h.1 c
      exact ⟨_, rfl, h⟩
    · have h := h.2 c
      refine ⟨q_rc rfl, ?_⟩
      obtain ⟨d2, P2, hdd, hC, h⟩ := h
      refine ⟨d2, _, hdd, hC, fun H9 b4 hp => ?_⟩
      obtain ⟨S3, rfl, hp⟩ := hp
      have h := h S3 b4 hp
      refine ⟨fun c => ?_, fun c => ?_⟩
      · have h := h.1 c
        exact ⟨_, rfl, h⟩
      · have h := h.2 c
        refine ⟨q_rc rfl, ?_⟩
        obtain ⟨d2, P2, hdd, hC, h⟩ := h
        refine ⟨d2, _, hdd, hC, fun H9 b6 hp => ?_⟩
        obtain ⟨S5, rfl, hp⟩ := hp
        have h := h S5 b6 hp
        refine ⟨fun c => ?_, fun c => ?_⟩
        · have h := h.1 c
          exact ⟨_, rfl, h⟩
        · have h := h.2 c
          refine ⟨q_rc rfl, ?_⟩
          obtain ⟨d2, P2, hdd, hC, h⟩ := h
          refine ⟨d2, _, hdd, hC, fun H9 b8 hp => ?_⟩
          obtain ⟨S7, rfl, hp⟩ := hp
          have h := h S7 b8 hp
          refine ⟨fun c => ?_, fun c => ?_⟩
          · have h := h.1 c
            exact ⟨_, rfl, h⟩
          · have h := h.2 c
            refine ⟨q_rc rfl, ?_⟩
            obtain ⟨d2, P2, hdd, hC, h⟩ := h
            refine ⟨d2, _, hdd, hC, fun H9 b10 hp => ?_⟩
            obtain ⟨S9, rfl, hp⟩ := hp
            have h := h S9 b10 hp
            refine ⟨fun c => ?_, fun c => ?_⟩
            · have h := h.1 c
              exact ⟨_, rfl, h⟩
            · have h := h.2 c
              refine ⟨q_rc rfl, ?_⟩
              obtain ⟨d2, P2, hdd, hC, h⟩ := h
              refine ⟨d2, _, hdd, hC, fun H9 b12 hp => ?_⟩
              obtain ⟨S11, rfl, hp⟩ := hp
              have h := h S11 b12 hp
              refine ⟨fun c => ?_, fun c => ?_⟩
              · have h := h.1 c
                exact ⟨_, rfl, h⟩
              · have h := h.2 c
                refine ⟨q_rc rfl, ?_⟩
                obtain ⟨d2, P2, hdd, hC, h⟩ := h
                refine ⟨d2, _, hdd, hC, fun H9 b14 hp => ?_⟩
                obtain ⟨S13, rfl, hp⟩ := hp
                have h := h S13 b14 hp
                refine ⟨fun c => ?_, fun c => ?_⟩
                · have h := h.1 c
                  exact ⟨_, rfl, h⟩
                · have h := h.2 c
                  refine ⟨q_rc rfl, ?_⟩
                  obtain ⟨d2, P2, hdd, hC, h⟩ := h
                  refine ⟨d2, _, hdd, hC, fun H9 b16 hp => ?_⟩
                  obtain ⟨S15, rfl, hp⟩ := hp
                  have h := h S15 b16 hp
                  refine ⟨fun c => ?_, fun c => ?_⟩
                  · have h := h.1 c
                    exact ⟨_, rfl, h⟩
                  · have h := h.2 c
                    refine ⟨q_rc rfl, ?_⟩
                    obtain ⟨d2, P2, hdd, hC, h⟩ := h
                    refine ⟨d2, _, hdd, hC, fun H9 b18 hp => ?_⟩
                    obtain ⟨S17, rfl, hp⟩ := hp
                    have h := h S17 b18 hp
                    refine ⟨fun c => ?_, fun c => ?_⟩
                    · have h := h.1 c
                      exact ⟨_, rfl, h⟩
                    · have h := h.2 c
                      refine ⟨q_rc rfl, ?_⟩
                      obtain ⟨d2, P2, hdd, hC, h⟩ := h
                      refine ⟨d2, _, hdd, hC, fun H9 b20 hp => ?_⟩
                      obtain ⟨S19, rfl, hp⟩ := hp
                      have h := h S19 b20 hp
                      refine ⟨fun c => ?_, fun c => ?_⟩
                      · have h := h.1 c
                        exact ⟨_, rfl, h⟩
                      · have h := h.2 c
                        refine ⟨q_rc rfl, ?_⟩
                        obtain ⟨d2, P2, hdd, hC, h⟩ := h
                        refine ⟨d2, _, hdd, hC, fun H9 b22 hp => ?_⟩
                        obtain ⟨S21, rfl, hp⟩ := hp
                        have h := h S21 b22 hp
                        refine ⟨fun c => ?_, fun c => ?_⟩
                        · have h := h.1 c
                          exact ⟨_, rfl, h⟩
                        · have h := h.2 c
                          refine ⟨q_rc rfl, ?_⟩
                          obtain ⟨d2, P2, hdd, hC, h⟩ := h
                          refine ⟨d2, _, hdd, hC, fun H9 b24 hp => ?_⟩
                          obtain ⟨S23, rfl, hp⟩ := hp
                          have h := h S23 b24 hp
                          refine ⟨fun c => ?_, fun c => ?_⟩
                          · have h := h.1 c
                            exact ⟨_, rfl, h⟩
                          · have h := h.2 c
                            refine ⟨q_rc rfl, ?_⟩
                            obtain ⟨d2, P2, hdd, hC, h⟩ := h
                            refine ⟨d2, _, hdd, hC, fun H9 b26 hp => ?_⟩
                            obtain ⟨S25, rfl, hp⟩ := hp
                            have h := h S25 b26 hp
                            refine ⟨fun c => ?_, fun c => ?_⟩
                            · have h := h.1 c
                              exact ⟨_, rfl, h⟩
                            · have h := h.2 c
                              refine ⟨q_rc rfl, ?_⟩
                              obtain ⟨d2, P2, hdd, hC, h⟩ := h
                              refine ⟨d2, _, hdd, hC, fun H9 b28 hp => ?_⟩
                              obtain ⟨S27, rfl, hp⟩ := hp
                              have h := h S27 b28 hp
                              refine ⟨fun c => ?_, fun c => ?_⟩
                              · have h := h.1 c
                                exact ⟨_, rfl, h⟩
                              · have h := h.2 c
                                refine ⟨q_rc rfl, ?_⟩
                                obtain ⟨d2, P2, hdd, hC, h⟩ := h
                                refine ⟨d2, _, hdd, hC, fun H9 b30 hp => ?_⟩
                                obtain ⟨S29, rfl, hp⟩ := hp
                                have h := h S29 b30 hp
                                refine ⟨fun c => ?_, fun c => ?_⟩
                                · have h := h.1 c
                                  exact ⟨_, rfl, h⟩
                                · have h := h.2 c
                                  refine ⟨q_rc rfl, ?_⟩
                                  obtain ⟨d2, P2, hdd, hC, h⟩ := h
                                  refine ⟨d2, _, hdd, hC, fun H9 b32 hp => ?_⟩
                                  obtain ⟨S31, rfl, hp⟩ := hp
                                  have h := h S31 b32 hp
                                  refine ⟨fun c => ?_, fun c => ?_⟩
                                  · have h := h.1 c
                                    exact ⟨_, rfl, h⟩
                                  · have h := h.2 c
                                    refine ⟨q_rc rfl, ?_⟩
                                    obtain ⟨d2, P2, hdd, hC, h⟩ := h
                                    refine ⟨d2, _, hdd, hC, fun H9 b34 hp => ?_⟩
                                    obtain ⟨S33, rfl, hp⟩ := hp
                                    have h := h S33 b34 hp
                                    refine ⟨fun c => ?_, fun c => ?_⟩
                                    · have h := h.1 c
                                      exact ⟨_, rfl, h⟩
                                    · have h := h.2 c
                                      refine ⟨q_rc rfl, ?_⟩
                                      obtain ⟨d2, P2, hdd, hC, h⟩ := h
                                      refine ⟨d2, _, hdd, hC, fun H9 b36 hp => ?_⟩
                                      obtain ⟨S35, rfl, hp⟩ := hp
                                      have h := h S35 b36 hp
                                      refine ⟨fun c => ?_, fun c => ?_⟩
                                      · have h := h.1 c
                                        exact ⟨_, rfl, h⟩
                                      · have h := h.2 c
                                        refine ⟨q_rc rfl, ?_⟩
                                        obtain ⟨d2, P2, hdd, hC, h⟩ := h
                                        refine ⟨d2, _, hdd, hC, fun H9 b38 hp => ?_⟩
                                        obtain ⟨S37, rfl, hp⟩ := hp
                                        have h := h S37 b38 hp
                                        refine ⟨fun c => ?_, fun c => ?_⟩
                                        · have h := h.1 c
                                          exact ⟨_, rfl, h⟩
                                        · have h := h.2 c
                                          refine ⟨q_rc rfl, ?_⟩
                                          obtain ⟨d2, P2, hdd, hC, h⟩ := h
                                          refine ⟨d2, _, hdd, hC, fun H9 b40 hp => ?_⟩
                                          obtain ⟨S39, rfl, hp⟩ := hp
                                          have h := h S39 b40 hp
                                          refine ⟨fun c => ?_, fun c => ?_⟩
                                          · have h := h.1 c
                                            exact ⟨_, rfl, h⟩
                                          · have h := h.2 c
                                            exact ⟨_, rfl, h⟩

theorem zX8_takeWord_0 {d n : Nat} {S : gS} {P : gS → Bool → Prop} {t1 : UInt32} (ht1 : (t1).toNat < 45) (h : s_cz d mX8_isWord n S [.ref (1), .float (t1)] (fun S1 b2 => (b2 = true → s_cv d mX8_advance n S1 [.ref (1)] (fun S3 => P S3 true)) ∧ (b2 = false → s_cz d mX8_fail n S1 [.ref (1), .int ((1 : Int32))] (fun S4 b5 => P S4 b5)))) : gG d mX8_takeWord 0 0 (g_Xz mX8_takeWord n 0 0 (hPz P)) 0 n (hH S) [some (.ref (1)), some (.float (t1))] [] 0 0 := by
  refine kX8_takeWord_0 ht1 ?_
  refine ⟨q_rc rfl, ?_⟩
  obtain ⟨d2, P2, hdd, hC, h⟩ := h
  refine ⟨d2, _, hdd, hC, fun H9 b2 hp => ?_⟩
  obtain ⟨S1, rfl, hp⟩ := hp
  have h := h S1 b2 hp
  refine ⟨fun c => ?_, fun c => ?_⟩
  · have h := h.1 c
    refine ⟨q_rc rfl, ?_⟩
    obtain ⟨d2, P2, hdd, hC, h⟩ := h
    refine ⟨d2, _, hdd, hC, fun H9 hp => ?_⟩
    obtain ⟨S3, rfl, hp⟩ := hp
    have h := h S3 hp
    exact ⟨_, rfl, h⟩
  · have h := h.2 c
    refine ⟨q_rc rfl, ?_⟩
    obtain ⟨d2, P2, hdd, hC, h⟩ := h
    refine ⟨d2, _, hdd, hC, fun H9 b5 hp => ?_⟩
    obtain ⟨S4, rfl, hp⟩ := hp
    have h := h S4 b5 hp
    exact ⟨_, rfl, h⟩

theorem zX8_takeSign_0 {d n : Nat} {S : gS} {P : gS → Bool → Prop} {i1 : Int32}  (h : s_cz d mX8_isSign n S [.ref (1), .int (i1)] (fun S1 b2 => (b2 = true → s_cv d mX8_advance n S1 [.ref (1)] (fun S3 => P S3 true)) ∧ (b2 = false → s_cz d mX8_fail n S1 [.ref (1), .int ((1 : Int32))] (fun S4 b5 => P S4 b5)))) : gG d mX8_takeSign 0 0 (g_Xz mX8_takeSign n 0 0 (hPz P)) 0 n (hH S) [some (.ref (1)), some (.int (i1))] [] 0 0 := by
  refine kX8_takeSign_0  ?_
  refine ⟨q_rc rfl, ?_⟩
  obtain ⟨d2, P2, hdd, hC, h⟩ := h
  refine ⟨d2, _, hdd, hC, fun H9 b2 hp => ?_⟩
  obtain ⟨S1, rfl, hp⟩ := hp
  have h := h S1 b2 hp
  refine ⟨fun c => ?_, fun c => ?_⟩
  · have h := h.1 c
    refine ⟨q_rc rfl, ?_⟩
    obtain ⟨d2, P2, hdd, hC, h⟩ := h
    refine ⟨d2, _, hdd, hC, fun H9 hp => ?_⟩
    obtain ⟨S3, rfl, hp⟩ := hp
    have h := h S3 hp
    exact ⟨_, rfl, h⟩
  · have h := h.2 c
    refine ⟨q_rc rfl, ?_⟩
    obtain ⟨d2, P2, hdd, hC, h⟩ := h
    refine ⟨d2, _, hdd, hC, fun H9 b5 hp => ?_⟩
    obtain ⟨S4, rfl, hp⟩ := hp
    have h := h S4 b5 hp
    exact ⟨_, rfl, h⟩

theorem zX8_takeNumber_0 {d n : Nat} {S : gS} {P : gS → Int32 → Prop} {i1 : Int32} {i2 : Int32}  (h : ((sI S (1) 2) = (3 : Int32) → ((sI S (1) 6) < i1 → s_cz d mX8_fail n S [.ref (1), .int ((4 : Int32))] (fun S1 b2 => P S1 ((-1 : Int32)))) ∧ (¬ ((sI S (1) 6) < i1) → ((sI S (1) 6) ≤ i2 → s_cv d mX8_advance n S [.ref (1)] (fun S3 => P S3 ((sI S (1) 6)))) ∧ (¬ ((sI S (1) 6) ≤ i2) → s_cz d mX8_fail n S [.ref (1), .int ((4 : Int32))] (fun S4 b5 => P S4 ((-1 : Int32)))))) ∧ (¬ ((sI S (1) 2) = (3 : Int32)) → s_cz d mX8_fail n S [.ref (1), .int ((1 : Int32))] (fun S6 b7 => P S6 ((-1 : Int32))))) : gG d mX8_takeNumber 0 0 (g_Xj mX8_takeNumber n 0 0 (hPi P)) 0 n (hH S) [some (.ref (1)), some (.int (i1)), some (.int (i2)), none] [] 0 0 := by
  refine kX8_takeNumber_0  ?_
  refine q_gi rfl rfl ?_
  refine ⟨fun c => ?_, fun c => ?_⟩
  · have h := h.1 c
    refine q_gi rfl rfl ?_
    refine ⟨fun c => ?_, fun c => ?_⟩
    · have h := h.1 c
      refine ⟨q_rc rfl, ?_⟩
      obtain ⟨d2, P2, hdd, hC, h⟩ := h
      refine ⟨d2, _, hdd, hC, fun H9 b2 hp => ?_⟩
      obtain ⟨S1, rfl, hp⟩ := hp
      have h := h S1 b2 hp
      exact ⟨_, rfl, h⟩
    · have h := h.2 c
      refine q_gi rfl rfl ?_
      refine ⟨fun c => ?_, fun c => ?_⟩
      · have h := h.1 c
        refine q_gi rfl rfl ?_
        refine ⟨q_rc rfl, ?_⟩
        obtain ⟨d2, P2, hdd, hC, h⟩ := h
        refine ⟨d2, _, hdd, hC, fun H9 hp => ?_⟩
        obtain ⟨S3, rfl, hp⟩ := hp
        have h := h S3 hp
        exact ⟨_, rfl, h⟩
      · have h := h.2 c
        refine ⟨q_rc rfl, ?_⟩
        obtain ⟨d2, P2, hdd, hC, h⟩ := h
        refine ⟨d2, _, hdd, hC, fun H9 b5 hp => ?_⟩
        obtain ⟨S4, rfl, hp⟩ := hp
        have h := h S4 b5 hp
        exact ⟨_, rfl, h⟩
  · have h := h.2 c
    refine ⟨q_rc rfl, ?_⟩
    obtain ⟨d2, P2, hdd, hC, h⟩ := h
    refine ⟨d2, _, hdd, hC, fun H9 b7 hp => ?_⟩
    obtain ⟨S6, rfl, hp⟩ := hp
    have h := h S6 b7 hp
    exact ⟨_, rfl, h⟩

theorem zX8_mouthHere_0 {d n : Nat} {S : gS} {P : gS → Int32 → Prop} {a1 : Nat} (hs1 : isF a1) (h : s_cz d mX8_isName n S [.ref (1)] (fun S1 b2 => (b2 = true → s_ci d mX1_mouthNamed n S1 [.ref (a1), .long ((sJ S1 (1) 5))] (fun S3 x4 => (¬ (x4 = (-1 : Int32)) → P S3 (x4)) ∧ (x4 = (-1 : Int32) → s_cz d mX8_fail n S3 [.ref (1), .int ((2 : Int32))] (fun S5 b6 => P S5 (x4))))) ∧ (b2 = false → s_cz d mX8_fail n S1 [.ref (1), .int ((1 : Int32))] (fun S7 b8 => P S7 ((-1 : Int32)))))) : gG d mX8_mouthHere 0 0 (g_Xj mX8_mouthHere n 0 0 (hPi P)) 0 n (hH S) [some (.ref (1)), some (.ref (a1)), none] [] 0 0 := by
  refine kX8_mouthHere_0  ?_
  refine ⟨q_rc rfl, ?_⟩
  obtain ⟨d2, P2, hdd, hC, h⟩ := h
  refine ⟨d2, _, hdd, hC, fun H9 b2 hp => ?_⟩
  obtain ⟨S1, rfl, hp⟩ := hp
  have h := h S1 b2 hp
  refine ⟨fun c => ?_, fun c => ?_⟩
  · have h := h.1 c
    refine q_gl rfl rfl ?_
    refine ⟨q_rc hs1.1, ?_⟩
    obtain ⟨d2, P2, hdd, hC, h⟩ := h
    refine ⟨d2, _, hdd, hC, fun H9 x4 hp => ?_⟩
    obtain ⟨S3, rfl, hp⟩ := hp
    have h := h S3 x4 hp
    refine ⟨fun c => ?_, fun c => ?_⟩
    · have h := h.1 c
      exact ⟨_, rfl, h⟩
    · have h := h.2 c
      refine ⟨q_rc rfl, ?_⟩
      obtain ⟨d2, P2, hdd, hC, h⟩ := h
      refine ⟨d2, _, hdd, hC, fun H9 b6 hp => ?_⟩
      obtain ⟨S5, rfl, hp⟩ := hp
      have h := h S5 b6 hp
      exact ⟨_, rfl, h⟩
  · have h := h.2 c
    refine ⟨q_rc rfl, ?_⟩
    obtain ⟨d2, P2, hdd, hC, h⟩ := h
    refine ⟨d2, _, hdd, hC, fun H9 b8 hp => ?_⟩
    obtain ⟨S7, rfl, hp⟩ := hp
    have h := h S7 b8 hp
    exact ⟨_, rfl, h⟩
