theorem zX11_feed_0 {d n : Nat} {S : gS} {P : gS → Int32 → Prop} {j1 : Int64} {j3 : Int64} {j5 : Int64}  (h : s_cv d mX8_addBytes n S [.ref (1), .long (j1)] (fun S1 => s_cv d mX8_addBytes n S1 [.ref (1), .long (j3)] (fun S2 => s_cv d mX8_addBytes n S2 [.ref (1), .long (j5)] (fun S3 => P S3 ((sI S3 (1) 1)))))) : gG d mX11_feed 0 0 (g_Xj mX11_feed n 0 0 (hPi P)) 0 n (hH S) [some (.ref (0)), some (.long (j1)), none, some (.long (j3)), none, some (.long (j5)), none] [] 0 0 := by
  refine kX11_feed_0  ?_
  refine q_gc rfl rfl ?_
  refine ⟨q_rc rfl, ?_⟩
  obtain ⟨d2, P2, hdd, hC, h⟩ := h
  refine ⟨d2, _, hdd, hC, fun H9 hp => ?_⟩
  obtain ⟨S1, rfl, hp⟩ := hp
  have h := h S1 hp
  refine q_gc rfl rfl ?_
  refine ⟨q_rc rfl, ?_⟩
  obtain ⟨d2, P2, hdd, hC, h⟩ := h
  refine ⟨d2, _, hdd, hC, fun H9 hp => ?_⟩
  obtain ⟨S2, rfl, hp⟩ := hp
  have h := h S2 hp
  refine q_gc rfl rfl ?_
  refine ⟨q_rc rfl, ?_⟩
  obtain ⟨d2, P2, hdd, hC, h⟩ := h
  refine ⟨d2, _, hdd, hC, fun H9 hp => ?_⟩
  obtain ⟨S3, rfl, hp⟩ := hp
  have h := h S3 hp
  refine q_gc rfl rfl ?_
  refine q_gi rfl rfl ?_
  exact ⟨_, rfl, h⟩

theorem zX11_front_0 {d n : Nat} {S : gS} {P : gS → Int32 → Prop}   (h : isF (sQ S 4) ∧ (s_ci d mX2_readFront n S [.ref (3), .ref ((sQ S 4))] (fun S2 x3 => (¬ (x3 = 0) → P S2 (x3)) ∧ (x3 = 0 → isF (sQ S2 3) ∧ (isF (sQ S2 4) ∧ (∀ S6, S6 = uQ S2 3 ((sQ S2 4)) → ∀ S7, S7 = uQ S6 4 ((sQ S2 3)) → s_cv d mX11_beginAnew n S7 [.ref (0)] (fun S8 => P S8 (x3)))))))) : gG d mX11_front 0 0 (g_Xj mX11_front n 0 0 (hPi P)) 0 n (hH S) [some (.ref (0)), none, none] [] 0 0 := by
  refine kX11_front_0  ?_
  refine q_gc rfl rfl ?_
  obtain ⟨hq1, h⟩ := h
  refine q_gq rfl rfl ?_
  refine ⟨q_rc rfl, ?_⟩
  obtain ⟨d2, P2, hdd, hC, h⟩ := h
  refine ⟨d2, _, hdd, hC, fun H9 x3 hp => ?_⟩
  obtain ⟨S2, rfl, hp⟩ := hp
  have h := h S2 x3 hp
  refine ⟨fun c => ?_, fun c => ?_⟩
  · have h := h.1 c
    exact ⟨_, rfl, h⟩
  · have h := h.2 c
    obtain ⟨hq4, h⟩ := h
    refine q_gq rfl rfl ?_
    obtain ⟨hq5, h⟩ := h
    refine q_gq rfl rfl ?_
    refine q_pq rfl ?_
    obtain ⟨S6, eS⟩ : ∃ z, z = uQ S2 3 ((sQ S2 4)) := ⟨_, rfl⟩
    rw [← eS]
    have h := h S6 eS
    refine q_pq rfl ?_
    obtain ⟨S7, eS⟩ : ∃ z, z = uQ S6 4 ((sQ S2 3)) := ⟨_, rfl⟩
    rw [← eS]
    have h := h S7 eS
    refine ⟨q_rc rfl, ?_⟩
    obtain ⟨d2, P2, hdd, hC, h⟩ := h
    refine ⟨d2, _, hdd, hC, fun H9 hp => ?_⟩
    obtain ⟨S8, rfl, hp⟩ := hp
    have h := h S8 hp
    exact ⟨_, rfl, h⟩

theorem zX11_day_0 {d n : Nat} {S : gS} {P : gS → Int32 → Prop}   (h : isF (sQ S 3) ∧ (isD (sQ S 6) ∧ (s_ci d mX5_readDay n S [.ref (5), .ref ((sQ S 3)), .ref ((sQ S 6))] (fun S3 x4 => (¬ (x4 = 0) → P S3 (x4)) ∧ (x4 = 0 → isD (sQ S3 5) ∧ (isD (sQ S3 6) ∧ (∀ S7, S7 = uQ S3 5 ((sQ S3 6)) → ∀ S8, S8 = uQ S7 6 ((sQ S3 5)) → P S8 (x4)))))))) : gG d mX11_day 0 0 (g_Xj mX11_day n 0 0 (hPi P)) 0 n (hH S) [some (.ref (0)), none, none] [] 0 0 := by
  refine kX11_day_0  ?_
  refine q_gc rfl rfl ?_
  obtain ⟨hq1, h⟩ := h
  refine q_gq rfl rfl ?_
  obtain ⟨hq2, h⟩ := h
  refine q_gq rfl rfl ?_
  refine ⟨q_rc rfl, ?_⟩
  obtain ⟨d2, P2, hdd, hC, h⟩ := h
  refine ⟨d2, _, hdd, hC, fun H9 x4 hp => ?_⟩
  obtain ⟨S3, rfl, hp⟩ := hp
  have h := h S3 x4 hp
  refine ⟨fun c => ?_, fun c => ?_⟩
  · have h := h.1 c
    exact ⟨_, rfl, h⟩
  · have h := h.2 c
    obtain ⟨hq5, h⟩ := h
    refine q_gq rfl rfl ?_
    obtain ⟨hq6, h⟩ := h
    refine q_gq rfl rfl ?_
    refine q_pq rfl ?_
    obtain ⟨S7, eS⟩ : ∃ z, z = uQ S3 5 ((sQ S3 6)) := ⟨_, rfl⟩
    rw [← eS]
    have h := h S7 eS
    refine q_pq rfl ?_
    obtain ⟨S8, eS⟩ : ∃ z, z = uQ S7 6 ((sQ S3 5)) := ⟨_, rfl⟩
    rw [← eS]
    have h := h S8 eS
    exact ⟨_, rfl, h⟩

theorem zX11_word_0 {d n : Nat} {S : gS} {P : gS → Int32 → Prop}   (h : isF (sQ S 3) ∧ (isWd (sQ S 8) ∧ (s_ci d mX5_readWord n S [.ref (5), .ref ((sQ S 3)), .ref ((sQ S 8))] (fun S3 x4 => (¬ (x4 = 0) → P S3 (x4)) ∧ (x4 = 0 → isWd (sQ S3 7) ∧ (isWd (sQ S3 8) ∧ (∀ S7, S7 = uQ S3 7 ((sQ S3 8)) → ∀ S8, S8 = uQ S7 8 ((sQ S3 7)) → P S8 (x4)))))))) : gG d mX11_word 0 0 (g_Xj mX11_word n 0 0 (hPi P)) 0 n (hH S) [some (.ref (0)), none, none] [] 0 0 := by
  refine kX11_word_0  ?_
  refine q_gc rfl rfl ?_
  obtain ⟨hq1, h⟩ := h
  refine q_gq rfl rfl ?_
  obtain ⟨hq2, h⟩ := h
  refine q_gq rfl rfl ?_
  refine ⟨q_rc rfl, ?_⟩
  obtain ⟨d2, P2, hdd, hC, h⟩ := h
  refine ⟨d2, _, hdd, hC, fun H9 x4 hp => ?_⟩
  obtain ⟨S3, rfl, hp⟩ := hp
  have h := h S3 x4 hp
  refine ⟨fun c => ?_, fun c => ?_⟩
  · have h := h.1 c
    exact ⟨_, rfl, h⟩
  · have h := h.2 c
    obtain ⟨hq5, h⟩ := h
    refine q_gq rfl rfl ?_
    obtain ⟨hq6, h⟩ := h
    refine q_gq rfl rfl ?_
    refine q_pq rfl ?_
    obtain ⟨S7, eS⟩ : ∃ z, z = uQ S3 7 ((sQ S3 8)) := ⟨_, rfl⟩
    rw [← eS]
    have h := h S7 eS
    refine q_pq rfl ?_
    obtain ⟨S8, eS⟩ : ∃ z, z = uQ S7 8 ((sQ S3 7)) := ⟨_, rfl⟩
    rw [← eS]
    have h := h S8 eS
    exact ⟨_, rfl, h⟩

theorem zX11_mouth_0 {d n : Nat} {S : gS} {P : gS → Int32 → Prop} {i1 : Int32} {i2 : Int32}  (h : s_cz d mX11_isMouth n S [.ref (0), .int (i1)] (fun S1 b2 => (b2 = true → ((i2).toInt < 0 ∨ 7 < (i2).toInt → P S1 ((-2 : Int32))) ∧ (i2 = 0 → isF (sQ S1 3) ∧ (vp_in (i1) 7 ∧ (P S1 ((sR S1 (((sQ S1 3) + 2)) (Int32.toNatClampNeg (i1))))))) ∧ (i2 = 1 → isF (sQ S1 3) ∧ (vp_in (i1) 7 ∧ (P S1 ((sR S1 (((sQ S1 3) + 3)) (Int32.toNatClampNeg (i1))))))) ∧ (i2 = 2 → isF (sQ S1 3) ∧ (vp_in (i1) 7 ∧ (P S1 ((sR S1 (((sQ S1 3) + 4)) (Int32.toNatClampNeg (i1))))))) ∧ (i2 = 3 → isF (sQ S1 3) ∧ (vp_in (i1) 7 ∧ (P S1 ((sR S1 (((sQ S1 3) + 5)) (Int32.toNatClampNeg (i1))))))) ∧ (i2 = 4 → isF (sQ S1 3) ∧ (vp_in (i1) 7 ∧ (P S1 ((sR S1 (((sQ S1 3) + 6)) (Int32.toNatClampNeg (i1))))))) ∧ (i2 = 5 → vp_in (i1) 7 ∧ (P S1 ((sR S1 ((49 + 1)) (Int32.toNatClampNeg (i1)))))) ∧ (i2 = 6 → s_cz d mX9_isStopped n S1 [.ref (49), .int (i1)] (fun S14 b15 => (b15 = false → P S14 ((0 : Int32))) ∧ (b15 = true → P S14 ((1 : Int32))))) ∧ (i2 = 7 → vp_in (i1) 7 ∧ (P S1 ((sR S1 ((49 + 2)) (Int32.toNatClampNeg (i1))))))) ∧ (b2 = false → P S1 ((-2 : Int32))))) : gG d mX11_mouth 0 0 (g_Xj mX11_mouth n 0 0 (hPi P)) 0 n (hH S) [some (.ref (0)), some (.int (i1)), some (.int (i2))] [] 0 0 := by
  refine kX11_mouth_0  ?_
  refine ⟨q_rc rfl, ?_⟩
  obtain ⟨d2, P2, hdd, hC, h⟩ := h
  refine ⟨d2, _, hdd, hC, fun H9 b2 hp => ?_⟩
  obtain ⟨S1, rfl, hp⟩ := hp
  have h := h S1 b2 hp
  refine ⟨fun c => ?_, fun c => ?_⟩
  · have h := h.1 c
    refine ⟨fun c => ?_, fun c => ?_, fun c => ?_, fun c => ?_, fun c => ?_, fun c => ?_, fun c => ?_, fun c => ?_, fun c => ?_⟩
    · have h := h.1 c
      exact ⟨_, rfl, h⟩
    · have h := h.2.1 c
      obtain ⟨hq3, h⟩ := h
      refine q_gq rfl rfl ?_
      refine q_gp hq3.1 rfl ?_
      obtain ⟨hv4, h⟩ := h
      refine q_al (k := Int32.toNatClampNeg (i1)) hq3.2.2.1 (by decide) hv4 rfl ?_
      exact ⟨_, rfl, h⟩
    · have h := h.2.2.1 c
      obtain ⟨hq5, h⟩ := h
      refine q_gq rfl rfl ?_
      refine q_gp hq5.1 rfl ?_
      obtain ⟨hv6, h⟩ := h
      refine q_al (k := Int32.toNatClampNeg (i1)) hq5.2.2.2.1 (by decide) hv6 rfl ?_
      exact ⟨_, rfl, h⟩
    · have h := h.2.2.2.1 c
      obtain ⟨hq7, h⟩ := h
      refine q_gq rfl rfl ?_
      refine q_gp hq7.1 rfl ?_
      obtain ⟨hv8, h⟩ := h
      refine q_al (k := Int32.toNatClampNeg (i1)) hq7.2.2.2.2.1 (by decide) hv8 rfl ?_
      exact ⟨_, rfl, h⟩
    · have h := h.2.2.2.2.1 c
      obtain ⟨hq9, h⟩ := h
      refine q_gq rfl rfl ?_
      refine q_gp hq9.1 rfl ?_
      obtain ⟨hv10, h⟩ := h
      refine q_al (k := Int32.toNatClampNeg (i1)) hq9.2.2.2.2.2.1 (by decide) hv10 rfl ?_
      exact ⟨_, rfl, h⟩
    · have h := h.2.2.2.2.2.1 c
      obtain ⟨hq11, h⟩ := h
      refine q_gq rfl rfl ?_
      refine q_gp hq11.1 rfl ?_
      obtain ⟨hv12, h⟩ := h
      refine q_al (k := Int32.toNatClampNeg (i1)) hq11.2.2.2.2.2.2.1 (by decide) hv12 rfl ?_
      exact ⟨_, rfl, h⟩
    · have h := h.2.2.2.2.2.2.1 c
      refine q_gc rfl rfl ?_
      refine q_gp is_49.1 rfl ?_
      obtain ⟨hv13, h⟩ := h
      refine q_al (k := Int32.toNatClampNeg (i1)) is_49.2.1 (by decide) hv13 rfl ?_
      exact ⟨_, rfl, h⟩
    · have h := h.2.2.2.2.2.2.2.1 c
      refine q_gc rfl rfl ?_
      refine ⟨q_rc is_49.1, ?_⟩
      obtain ⟨d2, P2, hdd, hC, h⟩ := h
      refine ⟨d2, _, hdd, hC, fun H9 b15 hp => ?_⟩
      obtain ⟨S14, rfl, hp⟩ := hp
      have h := h S14 b15 hp
      refine ⟨fun c => ?_, fun c => ?_⟩
      · have h := h.1 c
        exact ⟨_, rfl, h⟩
      · have h := h.2 c
        exact ⟨_, rfl, h⟩
    · have h := h.2.2.2.2.2.2.2.2 c
      refine q_gc rfl rfl ?_
      refine q_gp is_49.1 rfl ?_
      obtain ⟨hv16, h⟩ := h
      refine q_al (k := Int32.toNatClampNeg (i1)) is_49.2.2.1 (by decide) hv16 rfl ?_
      exact ⟨_, rfl, h⟩
  · have h := h.2 c
    exact ⟨_, rfl, h⟩

theorem zX11_letter_0 {d n : Nat} {S : gS} {P : gS → Int32 → Prop} {i1 : Int32}  (h : s_cz d mX11_isLetter n S [.ref (0), .int (i1)] (fun S1 b2 => (b2 = false → P S1 ((-1 : Int32))) ∧ (b2 = true → isF (sQ S1 3) ∧ (vp_in (i1) 6 ∧ (P S1 ((sR S1 (((sQ S1 3) + 9)) (Int32.toNatClampNeg (i1))))))))) : gG d mX11_letter 0 0 (g_Xj mX11_letter n 0 0 (hPi P)) 0 n (hH S) [some (.ref (0)), some (.int (i1))] [] 0 0 := by
  refine kX11_letter_0  ?_
  refine ⟨q_rc rfl, ?_⟩
  obtain ⟨d2, P2, hdd, hC, h⟩ := h
  refine ⟨d2, _, hdd, hC, fun H9 b2 hp => ?_⟩
  obtain ⟨S1, rfl, hp⟩ := hp
  have h := h S1 b2 hp
  refine ⟨fun c => ?_, fun c => ?_⟩
  · have h := h.1 c
    exact ⟨_, rfl, h⟩
  · have h := h.2 c
    obtain ⟨hq3, h⟩ := h
    refine q_gq rfl rfl ?_
    refine q_gp hq3.1 rfl ?_
    obtain ⟨hv4, h⟩ := h
    refine q_al (k := Int32.toNatClampNeg (i1)) hq3.2.2.2.2.2.2.2.2.2.1 (by decide) hv4 rfl ?_
    exact ⟨_, rfl, h⟩

theorem zX11_slate_0 {d n : Nat} {S : gS} {P : gS → Int32 → Prop} {i1 : Int32}  (h : (i1 < 0 → P S ((-1 : Int32))) ∧ (¬ (i1 < 0) → ((sI S (49) 9) ≤ i1 → P S ((-1 : Int32))) ∧ (¬ ((sI S (49) 9) ≤ i1) → vp_in (i1) 40 ∧ (P S ((sR S ((49 + 3)) (Int32.toNatClampNeg (i1)))))))) : gG d mX11_slate 0 0 (g_Xj mX11_slate n 0 0 (hPi P)) 0 n (hH S) [some (.ref (0)), some (.int (i1))] [] 0 0 := by
  refine kX11_slate_0  ?_
  refine ⟨fun c => ?_, fun c => ?_⟩
  · have h := h.1 c
    exact ⟨_, rfl, h⟩
  · have h := h.2 c
    refine q_gc rfl rfl ?_
    refine q_gi is_49.1 rfl ?_
    refine ⟨fun c => ?_, fun c => ?_⟩
    · have h := h.1 c
      exact ⟨_, rfl, h⟩
    · have h := h.2 c
      refine q_gc rfl rfl ?_
      refine q_gp is_49.1 rfl ?_
      obtain ⟨hv1, h⟩ := h
      refine q_al (k := Int32.toNatClampNeg (i1)) is_49.2.2.2 (by decide) hv1 rfl ?_
      exact ⟨_, rfl, h⟩

theorem zX11_minute_0 {d n : Nat} {S : gS} {P : gS → Int32 → Prop}   (h : s_cv d mX11_keepPast n S [.ref (0)] (fun S1 => isF (sQ S1 3) ∧ (isF (sQ S1 3) ∧ (s_ci d mX1_rainOf n S1 [.ref ((sQ S1 3)), .int ((sI S1 (49) 0))] (fun S4 x5 => s_ci d mX9_passMinute n S4 [.ref (49), .ref ((sQ S1 3)), .int (x5)] (fun S6 x7 => P S6 (x7))))))) : gG d mX11_minute 0 0 (g_Xj mX11_minute n 0 0 (hPi P)) 0 n (hH S) [some (.ref (0))] [] 0 0 := by
  refine kX11_minute_0  ?_
  refine ⟨q_rc rfl, ?_⟩
  obtain ⟨d2, P2, hdd, hC, h⟩ := h
  refine ⟨d2, _, hdd, hC, fun H9 hp => ?_⟩
  obtain ⟨S1, rfl, hp⟩ := hp
  have h := h S1 hp
  refine q_gc rfl rfl ?_
  obtain ⟨hq2, h⟩ := h
  refine q_gq rfl rfl ?_
  obtain ⟨hq3, h⟩ := h
  refine q_gq rfl rfl ?_
  refine q_gc rfl rfl ?_
  refine q_gi is_49.1 rfl ?_
  refine ⟨q_rc hq3.1, ?_⟩
  obtain ⟨d2, P2, hdd, hC, h⟩ := h
  refine ⟨d2, _, hdd, hC, fun H9 x5 hp => ?_⟩
  obtain ⟨S4, rfl, hp⟩ := hp
  have h := h S4 x5 hp
  refine ⟨q_rc is_49.1, ?_⟩
  obtain ⟨d2, P2, hdd, hC, h⟩ := h
  refine ⟨d2, _, hdd, hC, fun H9 x7 hp => ?_⟩
  obtain ⟨S6, rfl, hp⟩ := hp
  have h := h S6 x7 hp
  exact ⟨_, rfl, h⟩

theorem zX11_pour_0 {d n : Nat} {S : gS} {P : gS → Int32 → Prop} {i1 : Int32} {i2 : Int32}  (h : s_cz d mX11_isMouth n S [.ref (0), .int (i1)] (fun S1 b2 => (b2 = false → P S1 ((-1 : Int32))) ∧ (b2 = true → (i2 < (1 : Int32) → P S1 ((-1 : Int32))) ∧ (¬ (i2 < (1 : Int32)) → (i2 ≤ (20 : Int32) → s_cv d mX11_keepPast n S1 [.ref (0)] (fun S3 => s_cv d mX9_addWater n S3 [.ref (49), .int (i1), .int (i2)] (fun S4 => vp_in (i1) 7 ∧ (P S4 ((sR S4 ((49 + 1)) (Int32.toNatClampNeg (i1)))))))) ∧ (¬ (i2 ≤ (20 : Int32)) → P S1 ((-1 : Int32))))))) : gG d mX11_pour 0 0 (g_Xj mX11_pour n 0 0 (hPi P)) 0 n (hH S) [some (.ref (0)), some (.int (i1)), some (.int (i2))] [] 0 0 := by
  refine kX11_pour_0  ?_
  refine ⟨q_rc rfl, ?_⟩
  obtain ⟨d2, P2, hdd, hC, h⟩ := h
  refine ⟨d2, _, hdd, hC, fun H9 b2 hp => ?_⟩
  obtain ⟨S1, rfl, hp⟩ := hp
  have h := h S1 b2 hp
  refine ⟨fun c => ?_, fun c => ?_⟩
  · have h := h.1 c
    exact ⟨_, rfl, h⟩
  · have h := h.2 c
    refine ⟨fun c => ?_, fun c => ?_⟩
    · have h := h.1 c
      exact ⟨_, rfl, h⟩
    · have h := h.2 c
      refine ⟨fun c => ?_, fun c => ?_⟩
      · have h := h.1 c
        refine ⟨q_rc rfl, ?_⟩
        obtain ⟨d2, P2, hdd, hC, h⟩ := h
        refine ⟨d2, _, hdd, hC, fun H9 hp => ?_⟩
        obtain ⟨S3, rfl, hp⟩ := hp
        have h := h S3 hp
        refine q_gc rfl rfl ?_
        refine ⟨q_rc is_49.1, ?_⟩
        obtain ⟨d2, P2, hdd, hC, h⟩ := h
        refine ⟨d2, _, hdd, hC, fun H9 hp => ?_⟩
        obtain ⟨S4, rfl, hp⟩ := hp
        have h := h S4 hp
        refine q_gc rfl rfl ?_
        refine q_gp is_49.1 rfl ?_
        obtain ⟨hv5, h⟩ := h
        refine q_al (k := Int32.toNatClampNeg (i1)) is_49.2.1 (by decide) hv5 rfl ?_
        exact ⟨_, rfl, h⟩
      · have h := h.2 c
        exact ⟨_, rfl, h⟩

theorem zX11_stop_0 {d n : Nat} {S : gS} {P : gS → Bool → Prop} {i1 : Int32}  (h : s_cz d mX11_isMouth n S [.ref (0), .int (i1)] (fun S1 b2 => (b2 = false → P S1 false) ∧ (b2 = true → s_cz d mX9_isStopped n S1 [.ref (49), .int (i1)] (fun S3 b4 => (b4 = false → s_cv d mX11_keepPast n S3 [.ref (0)] (fun S5 => s_cz d mX9_stopMouth n S5 [.ref (49), .int (i1)] (fun S6 b7 => P S6 b7))) ∧ (b4 = true → P S3 false))))) : gG d mX11_stop 0 0 (g_Xz mX11_stop n 0 0 (hPz P)) 0 n (hH S) [some (.ref (0)), some (.int (i1))] [] 0 0 := by
  refine kX11_stop_0  ?_
  refine ⟨q_rc rfl, ?_⟩
  obtain ⟨d2, P2, hdd, hC, h⟩ := h
  refine ⟨d2, _, hdd, hC, fun H9 b2 hp => ?_⟩
  obtain ⟨S1, rfl, hp⟩ := hp
  have h := h S1 b2 hp
  refine ⟨fun c => ?_, fun c => ?_⟩
  · have h := h.1 c
    exact ⟨_, rfl, h⟩
  · have h := h.2 c
    refine q_gc rfl rfl ?_
    refine ⟨q_rc is_49.1, ?_⟩
    obtain ⟨d2, P2, hdd, hC, h⟩ := h
    refine ⟨d2, _, hdd, hC, fun H9 b4 hp => ?_⟩
    obtain ⟨S3, rfl, hp⟩ := hp
    have h := h S3 b4 hp
    refine ⟨fun c => ?_, fun c => ?_⟩
    · have h := h.1 c
      refine ⟨q_rc rfl, ?_⟩
      obtain ⟨d2, P2, hdd, hC, h⟩ := h
      refine ⟨d2, _, hdd, hC, fun H9 hp => ?_⟩
      obtain ⟨S5, rfl, hp⟩ := hp
      have h := h S5 hp
      refine q_gc rfl rfl ?_
      refine ⟨q_rc is_49.1, ?_⟩
      obtain ⟨d2, P2, hdd, hC, h⟩ := h
      refine ⟨d2, _, hdd, hC, fun H9 b7 hp => ?_⟩
      obtain ⟨S6, rfl, hp⟩ := hp
      have h := h S6 b7 hp
      exact ⟨_, rfl, h⟩
    · have h := h.2 c
      exact ⟨_, rfl, h⟩

theorem zX11_clear_0 {d n : Nat} {S : gS} {P : gS → Bool → Prop} {i1 : Int32}  (h : s_cz d mX11_isMouth n S [.ref (0), .int (i1)] (fun S1 b2 => (b2 = false → P S1 false) ∧ (b2 = true → s_cz d mX9_isStopped n S1 [.ref (49), .int (i1)] (fun S3 b4 => (b4 = true → s_cv d mX11_keepPast n S3 [.ref (0)] (fun S5 => s_cz d mX9_clearMouth n S5 [.ref (49), .int (i1)] (fun S6 b7 => P S6 b7))) ∧ (b4 = false → P S3 false))))) : gG d mX11_clear 0 0 (g_Xz mX11_clear n 0 0 (hPz P)) 0 n (hH S) [some (.ref (0)), some (.int (i1))] [] 0 0 := by
  refine kX11_clear_0  ?_
  refine ⟨q_rc rfl, ?_⟩
  obtain ⟨d2, P2, hdd, hC, h⟩ := h
  refine ⟨d2, _, hdd, hC, fun H9 b2 hp => ?_⟩
  obtain ⟨S1, rfl, hp⟩ := hp
  have h := h S1 b2 hp
  refine ⟨fun c => ?_, fun c => ?_⟩
  · have h := h.1 c
    exact ⟨_, rfl, h⟩
  · have h := h.2 c
    refine q_gc rfl rfl ?_
    refine ⟨q_rc is_49.1, ?_⟩
    obtain ⟨d2, P2, hdd, hC, h⟩ := h
    refine ⟨d2, _, hdd, hC, fun H9 b4 hp => ?_⟩
    obtain ⟨S3, rfl, hp⟩ := hp
    have h := h S3 b4 hp
    refine ⟨fun c => ?_, fun c => ?_⟩
    · have h := h.1 c
      refine ⟨q_rc rfl, ?_⟩
      obtain ⟨d2, P2, hdd, hC, h⟩ := h
      refine ⟨d2, _, hdd, hC, fun H9 hp => ?_⟩
      obtain ⟨S5, rfl, hp⟩ := hp
      have h := h S5 hp
      refine q_gc rfl rfl ?_
      refine ⟨q_rc is_49.1, ?_⟩
      obtain ⟨d2, P2, hdd, hC, h⟩ := h
      refine ⟨d2, _, hdd, hC, fun H9 b7 hp => ?_⟩
      obtain ⟨S6, rfl, hp⟩ := hp
      have h := h S6 b7 hp
      exact ⟨_, rfl, h⟩
    · have h := h.2 c
      exact ⟨_, rfl, h⟩

theorem zX11_undo_0 {d n : Nat} {S : gS} {P : gS → Bool → Prop}   (h : (¬ ((sI S (0) 14) = 0) → ∀ S1, S1 = uI S (0) 13 ((((sI S (0) 13) - (1 : Int32)) &&& (15 : Int32))) → ∀ S2, S2 = uI S1 (0) 14 (((sI S1 (0) 14) - (1 : Int32))) → vp_in ((sI S2 (0) 13)) 16 ∧ (s_cv d mX9_copyFrom n S2 [.ref (49), .ref ((58 + 4 * (Int32.toNatClampNeg ((sI S2 (0) 13)))))] (fun S4 => P S4 true))) ∧ ((sI S (0) 14) = 0 → P S false)) : gG d mX11_undo 0 0 (g_Xz mX11_undo n 0 0 (hPz P)) 0 n (hH S) [some (.ref (0))] [] 0 0 := by
  refine kX11_undo_0  ?_
  refine q_gi rfl rfl ?_
  refine ⟨fun c => ?_, fun c => ?_⟩
  · have h := h.1 c
    refine q_gi rfl rfl ?_
    refine q_pi rfl rfl ?_
    obtain ⟨S1, eS⟩ : ∃ z, z = uI S (0) 13 ((((sI S (0) 13) - (1 : Int32)) &&& (15 : Int32))) := ⟨_, rfl⟩
    rw [← eS]
    have h := h S1 eS
    refine q_gi rfl rfl ?_
    refine q_pi rfl rfl ?_
    obtain ⟨S2, eS⟩ : ∃ z, z = uI S1 (0) 14 (((sI S1 (0) 14) - (1 : Int32))) := ⟨_, rfl⟩
    rw [← eS]
    have h := h S2 eS
    refine q_gc rfl rfl ?_
    refine q_gc rfl rfl ?_
    refine q_gi rfl rfl ?_
    obtain ⟨hv3, h⟩ := h
    refine q_rl rfl (by decide) hv3 (rq_past hv3) ?_
    refine ⟨q_rc is_49.1, ?_⟩
    obtain ⟨d2, P2, hdd, hC, h⟩ := h
    refine ⟨d2, _, hdd, hC, fun H9 hp => ?_⟩
    obtain ⟨S4, rfl, hp⟩ := hp
    have h := h S4 hp
    exact ⟨_, rfl, h⟩
  · have h := h.2 c
    exact ⟨_, rfl, h⟩

theorem zX11_judged_0 {d n : Nat} {S : gS} {P : gS → Int32 → Prop} {i1 : Int32}  (h : (i1 < 0 → P S ((-2 : Int32))) ∧ (¬ (i1 < 0) → (i1 ≤ (2 : Int32) → isF (sQ S 3) ∧ (s_cv d mX9_begin n S [.ref (53), .ref ((sQ S 3))] (fun S2 => gG d mX11_judged 0 0 (g_Xj mX11_judged n 0 0 (hPi P)) 30 n (hH S2) [some (.ref (0)), some (.int (i1)), some (.int ((-1 : Int32))), some (.int ((-1 : Int32))), some (.int ((0 : Int32))), none] [] 0 0))) ∧ (¬ (i1 ≤ (2 : Int32)) → P S ((-2 : Int32))))) : gG d mX11_judged 0 0 (g_Xj mX11_judged n 0 0 (hPi P)) 0 n (hH S) [some (.ref (0)), some (.int (i1)), none, none, none, none] [] 0 0 := by
  refine kX11_judged_0  ?_
  refine ⟨fun c => ?_, fun c => ?_⟩
  · have h := h.1 c
    exact ⟨_, rfl, h⟩
  · have h := h.2 c
    refine ⟨fun c => ?_, fun c => ?_⟩
    · have h := h.1 c
      refine q_gc rfl rfl ?_
      obtain ⟨hq1, h⟩ := h
      refine q_gq rfl rfl ?_
      refine ⟨q_rc is_53.1, ?_⟩
      obtain ⟨d2, P2, hdd, hC, h⟩ := h
      refine ⟨d2, _, hdd, hC, fun H9 hp => ?_⟩
      obtain ⟨S2, rfl, hp⟩ := hp
      have h := h S2 hp
      exact h
    · have h := h.2 c
      exact ⟨_, rfl, h⟩
theorem zX11_judged_30 {d n : Nat} {S : gS} {P : gS → Int32 → Prop} {i1 : Int32} {i2 : Int32} {i3 : Int32} {i4 : Int32}  (h : isD (sQ S 5) ∧ (((sI S ((sQ S 5)) 0) ≤ i4 → (¬ (i1 = (2 : Int32)) → (¬ (i1 = 0) → P S (i3)) ∧ (i1 = 0 → P S (i2))) ∧ (i1 = (2 : Int32) → s_ci d mX9_signsLike n S [.ref (53), .int ((6 : Int32))] (fun S2 x3 => P S2 (x3)))) ∧ (¬ ((sI S ((sQ S 5)) 0) ≤ i4) → s_ci d mX11_doLine n S [.ref (0), .int (i4)] (fun S4 x5 => (¬ (x5 = (-2 : Int32)) → gG d mX11_judged 0 0 (g_Xj mX11_judged n 0 0 (hPi P)) 65 n (hH S4) [some (.ref (0)), some (.int (i1)), some (.int (i2)), some (.int (i3)), some (.int (i4)), some (.int (x5))] [] 0 0) ∧ (x5 = (-2 : Int32) → (¬ (i2 = (-1 : Int32)) → gG d mX11_judged 0 0 (g_Xj mX11_judged n 0 0 (hPi P)) 65 n (hH S4) [some (.ref (0)), some (.int (i1)), some (.int (i2)), some (.int (i3)), some (.int (i4)), some (.int (x5))] [] 0 0) ∧ (i2 = (-1 : Int32) → gG d mX11_judged 0 0 (g_Xj mX11_judged n 0 0 (hPi P)) 65 n (hH S4) [some (.ref (0)), some (.int (i1)), some (.int (i4)), some (.int (i3)), some (.int (i4)), some (.int (x5))] [] 0 0)))))) : gG d mX11_judged 0 0 (g_Xj mX11_judged n 0 0 (hPi P)) 30 n (hH S) [some (.ref (0)), some (.int (i1)), some (.int (i2)), some (.int (i3)), some (.int (i4)), none] [] 0 0 := by
  refine kX11_judged_30  ?_
  obtain ⟨hq1, h⟩ := h
  refine q_gq rfl rfl ?_
  refine q_gi hq1.1 rfl ?_
  refine ⟨fun c => ?_, fun c => ?_⟩
  · have h := h.1 c
    refine ⟨fun c => ?_, fun c => ?_⟩
    · have h := h.1 c
      refine ⟨fun c => ?_, fun c => ?_⟩
      · have h := h.1 c
        exact ⟨_, rfl, h⟩
      · have h := h.2 c
        exact ⟨_, rfl, h⟩
    · have h := h.2 c
      refine q_gc rfl rfl ?_
      refine ⟨q_rc is_53.1, ?_⟩
      obtain ⟨d2, P2, hdd, hC, h⟩ := h
      refine ⟨d2, _, hdd, hC, fun H9 x3 hp => ?_⟩
      obtain ⟨S2, rfl, hp⟩ := hp
      have h := h S2 x3 hp
      exact ⟨_, rfl, h⟩
  · have h := h.2 c
    refine ⟨q_rc rfl, ?_⟩
    obtain ⟨d2, P2, hdd, hC, h⟩ := h
    refine ⟨d2, _, hdd, hC, fun H9 x5 hp => ?_⟩
    obtain ⟨S4, rfl, hp⟩ := hp
    have h := h S4 x5 hp
    refine ⟨fun c => ?_, fun c => ?_⟩
    · have h := h.1 c
      exact h
    · have h := h.2 c
      refine ⟨fun c => ?_, fun c => ?_⟩
      · have h := h.1 c
        exact h
      · have h := h.2 c
        exact h
theorem zX11_judged_65 {d n : Nat} {S : gS} {P : gS → Int32 → Prop} {i1 : Int32} {i2 : Int32} {i3 : Int32} {i4 : Int32} {i5 : Int32}  (h : (i5 < 0 → gG d mX11_judged 0 0 (g_Xj mX11_judged n 0 0 (hPi P)) 30 n (hH S) [some (.ref (0)), some (.int (i1)), some (.int (i2)), some (.int (i3)), some (.int ((i4 + 1))), none] [] 0 0) ∧ (¬ (i5 < 0) → (i5 = (6 : Int32) → gG d mX11_judged 0 0 (g_Xj mX11_judged n 0 0 (hPi P)) 30 n (hH S) [some (.ref (0)), some (.int (i1)), some (.int (i2)), some (.int (i3)), some (.int ((i4 + 1))), none] [] 0 0) ∧ (¬ (i5 = (6 : Int32)) → (¬ (i3 = (-1 : Int32)) → gG d mX11_judged 0 0 (g_Xj mX11_judged n 0 0 (hPi P)) 30 n (hH S) [some (.ref (0)), some (.int (i1)), some (.int (i2)), some (.int (i3)), some (.int ((i4 + 1))), none] [] 0 0) ∧ (i3 = (-1 : Int32) → gG d mX11_judged 0 0 (g_Xj mX11_judged n 0 0 (hPi P)) 30 n (hH S) [some (.ref (0)), some (.int (i1)), some (.int (i2)), some (.int (i4)), some (.int ((i4 + 1))), none] [] 0 0)))) : gG d mX11_judged 0 0 (g_Xj mX11_judged n 0 0 (hPi P)) 65 n (hH S) [some (.ref (0)), some (.int (i1)), some (.int (i2)), some (.int (i3)), some (.int (i4)), some (.int (i5))] [] 0 0 := by
  refine kX11_judged_65  ?_
  refine ⟨fun c => ?_, fun c => ?_⟩
  · have h := h.1 c
    exact h
  · have h := h.2 c
    refine ⟨fun c => ?_, fun c => ?_⟩
    · have h := h.1 c
      exact h
    · have h := h.2 c
      refine ⟨fun c => ?_, fun c => ?_⟩
      · have h := h.1 c
        exact h
      · have h := h.2 c
        exact h

theorem zX11_later_0 {d n : Nat} {S : gS} {P : gS → Int32 → Prop} {i1 : Int32} {i2 : Int32}  (h : s_cz d mX11_isMouth n S [.ref (0), .int (i1)] (fun S1 b2 => (b2 = false → P S1 ((-1 : Int32))) ∧ (b2 = true → (i2 < 0 → P S1 ((-1 : Int32))) ∧ (¬ (i2 < 0) → (i2 ≤ (60 : Int32) → s_cv d mX9_copyFrom n S1 [.ref (53), .ref (49)] (fun S3 => gG d mX11_later 0 0 (g_Xj mX11_later n 0 0 (hPi P)) 33 n (hH S3) [some (.ref (0)), some (.int (i1)), some (.int (i2)), some (.int ((0 : Int32)))] [] 0 0)) ∧ (¬ (i2 ≤ (60 : Int32)) → P S1 ((-1 : Int32))))))) : gG d mX11_later 0 0 (g_Xj mX11_later n 0 0 (hPi P)) 0 n (hH S) [some (.ref (0)), some (.int (i1)), some (.int (i2)), none] [] 0 0 := by
  refine kX11_later_0  ?_
  refine ⟨q_rc rfl, ?_⟩
  obtain ⟨d2, P2, hdd, hC, h⟩ := h
  refine ⟨d2, _, hdd, hC, fun H9 b2 hp => ?_⟩
  obtain ⟨S1, rfl, hp⟩ := hp
  have h := h S1 b2 hp
  refine ⟨fun c => ?_, fun c => ?_⟩
  · have h := h.1 c
    exact ⟨_, rfl, h⟩
  · have h := h.2 c
    refine ⟨fun c => ?_, fun c => ?_⟩
    · have h := h.1 c
      exact ⟨_, rfl, h⟩
    · have h := h.2 c
      refine ⟨fun c => ?_, fun c => ?_⟩
      · have h := h.1 c
        refine q_gc rfl rfl ?_
        refine q_gc rfl rfl ?_
        refine ⟨q_rc is_53.1, ?_⟩
        obtain ⟨d2, P2, hdd, hC, h⟩ := h
        refine ⟨d2, _, hdd, hC, fun H9 hp => ?_⟩
        obtain ⟨S3, rfl, hp⟩ := hp
        have h := h S3 hp
        exact h
      · have h := h.2 c
        exact ⟨_, rfl, h⟩
theorem zX11_later_33 {d n : Nat} {S : gS} {P : gS → Int32 → Prop} {i1 : Int32} {i2 : Int32} {i3 : Int32}  (h : (i2 ≤ i3 → vp_in (i1) 7 ∧ (P S ((sR S ((53 + 1)) (Int32.toNatClampNeg (i1)))))) ∧ (¬ (i2 ≤ i3) → s_ci d mX11_passTrialMinute n S [.ref (0)] (fun S2 x3 => gG d mX11_later 0 0 (g_Xj mX11_later n 0 0 (hPi P)) 33 n (hH S2) [some (.ref (0)), some (.int (i1)), some (.int (i2)), some (.int ((i3 + 1)))] [] 0 0))) : gG d mX11_later 0 0 (g_Xj mX11_later n 0 0 (hPi P)) 33 n (hH S) [some (.ref (0)), some (.int (i1)), some (.int (i2)), some (.int (i3))] [] 0 0 := by
  refine kX11_later_33  ?_
  refine ⟨fun c => ?_, fun c => ?_⟩
  · have h := h.1 c
    refine q_gc rfl rfl ?_
    refine q_gp is_53.1 rfl ?_
    obtain ⟨hv1, h⟩ := h
    refine q_al (k := Int32.toNatClampNeg (i1)) is_53.2.1 (by decide) hv1 rfl ?_
    exact ⟨_, rfl, h⟩
  · have h := h.2 c
    refine ⟨q_rc rfl, ?_⟩
    obtain ⟨d2, P2, hdd, hC, h⟩ := h
    refine ⟨d2, _, hdd, hC, fun H9 x3 hp => ?_⟩
    obtain ⟨S2, rfl, hp⟩ := hp
    have h := h S2 x3 hp
    exact h

theorem zX11_reads_0 {d n : Nat} {S : gS} {P : gS → Int32 → Prop} {i1 : Int32}  (h : s_cz d mX11_isAhead n S [.int (i1)] (fun S1 b2 => (b2 = true → s_cv d mX9_copyFrom n S1 [.ref (53), .ref (49)] (fun S3 => gG d mX11_reads 0 0 (g_Xj mX11_reads n 0 0 (hPi P)) 23 n (hH S3) [some (.ref (0)), some (.int (i1)), some (.int ((0 : Int32)))] [] 0 0)) ∧ (b2 = false → P S1 ((-2 : Int32))))) : gG d mX11_reads 0 0 (g_Xj mX11_reads n 0 0 (hPi P)) 0 n (hH S) [some (.ref (0)), some (.int (i1)), none] [] 0 0 := by
  refine kX11_reads_0  ?_
  obtain ⟨d2, P2, hdd, hC, h⟩ := h
  refine ⟨d2, _, hdd, hC, fun H9 b2 hp => ?_⟩
  obtain ⟨S1, rfl, hp⟩ := hp
  have h := h S1 b2 hp
  refine ⟨fun c => ?_, fun c => ?_⟩
  · have h := h.1 c
    refine q_gc rfl rfl ?_
    refine q_gc rfl rfl ?_
    refine ⟨q_rc is_53.1, ?_⟩
    obtain ⟨d2, P2, hdd, hC, h⟩ := h
    refine ⟨d2, _, hdd, hC, fun H9 hp => ?_⟩
    obtain ⟨S3, rfl, hp⟩ := hp
    have h := h S3 hp
    exact h
  · have h := h.2 c
    exact ⟨_, rfl, h⟩
theorem zX11_reads_23 {d n : Nat} {S : gS} {P : gS → Int32 → Prop} {i1 : Int32} {i2 : Int32}  (h : (i1 ≤ i2 → P S ((sI S (53) 5))) ∧ (¬ (i1 ≤ i2) → s_ci d mX11_passTrialMinute n S [.ref (0)] (fun S1 x2 => gG d mX11_reads 0 0 (g_Xj mX11_reads n 0 0 (hPi P)) 23 n (hH S1) [some (.ref (0)), some (.int (i1)), some (.int ((i2 + 1)))] [] 0 0))) : gG d mX11_reads 0 0 (g_Xj mX11_reads n 0 0 (hPi P)) 23 n (hH S) [some (.ref (0)), some (.int (i1)), some (.int (i2))] [] 0 0 := by
  refine kX11_reads_23  ?_
  refine ⟨fun c => ?_, fun c => ?_⟩
  · have h := h.1 c
    refine q_gc rfl rfl ?_
    refine q_gi is_53.1 rfl ?_
    exact ⟨_, rfl, h⟩
  · have h := h.2 c
    refine ⟨q_rc rfl, ?_⟩
    obtain ⟨d2, P2, hdd, hC, h⟩ := h
    refine ⟨d2, _, hdd, hC, fun H9 x2 hp => ?_⟩
    obtain ⟨S1, rfl, hp⟩ := hp
    have h := h S1 x2 hp
    exact h

theorem zX11_when_0 {d n : Nat} {S : gS} {P : gS → Int32 → Prop} {i1 : Int32}  (h : s_cz d mX11_isLetter n S [.ref (0), .int (i1)] (fun S1 b2 => (b2 = true → s_cv d mX9_copyFrom n S1 [.ref (53), .ref (49)] (fun S3 => gG d mX11_when 0 0 (g_Xj mX11_when n 0 0 (hPi P)) 23 n (hH S3) [some (.ref (0)), some (.int (i1)), some (.int ((1 : Int32)))] [] 0 0)) ∧ (b2 = false → P S1 ((-1 : Int32))))) : gG d mX11_when 0 0 (g_Xj mX11_when n 0 0 (hPi P)) 0 n (hH S) [some (.ref (0)), some (.int (i1)), none] [] 0 0 := by
  refine kX11_when_0  ?_
  refine ⟨q_rc rfl, ?_⟩
  obtain ⟨d2, P2, hdd, hC, h⟩ := h
  refine ⟨d2, _, hdd, hC, fun H9 b2 hp => ?_⟩
  obtain ⟨S1, rfl, hp⟩ := hp
  have h := h S1 b2 hp
  refine ⟨fun c => ?_, fun c => ?_⟩
  · have h := h.1 c
    refine q_gc rfl rfl ?_
    refine q_gc rfl rfl ?_
    refine ⟨q_rc is_53.1, ?_⟩
    obtain ⟨d2, P2, hdd, hC, h⟩ := h
    refine ⟨d2, _, hdd, hC, fun H9 hp => ?_⟩
    obtain ⟨S3, rfl, hp⟩ := hp
    have h := h S3 hp
    exact h
  · have h := h.2 c
    exact ⟨_, rfl, h⟩
theorem zX11_when_23 {d n : Nat} {S : gS} {P : gS → Int32 → Prop} {i1 : Int32} {i2 : Int32}  (h : ((60 : Int32) < i2 → P S ((-1 : Int32))) ∧ (¬ ((60 : Int32) < i2) → s_ci d mX11_passTrialMinute n S [.ref (0)] (fun S1 x2 => (¬ (x2 = i1) → gG d mX11_when 0 0 (g_Xj mX11_when n 0 0 (hPi P)) 23 n (hH S1) [some (.ref (0)), some (.int (i1)), some (.int ((i2 + 1)))] [] 0 0) ∧ (x2 = i1 → P S1 (i2))))) : gG d mX11_when 0 0 (g_Xj mX11_when n 0 0 (hPi P)) 23 n (hH S) [some (.ref (0)), some (.int (i1)), some (.int (i2))] [] 0 0 := by
  refine kX11_when_23  ?_
  refine ⟨fun c => ?_, fun c => ?_⟩
  · have h := h.1 c
    exact ⟨_, rfl, h⟩
  · have h := h.2 c
    refine ⟨q_rc rfl, ?_⟩
    obtain ⟨d2, P2, hdd, hC, h⟩ := h
    refine ⟨d2, _, hdd, hC, fun H9 x2 hp => ?_⟩
    obtain ⟨S1, rfl, hp⟩ := hp
    have h := h S1 x2 hp
    refine ⟨fun c => ?_, fun c => ?_⟩
    · have h := h.1 c
      exact h
    · have h := h.2 c
      exact ⟨_, rfl, h⟩

theorem zX11_dry_0 {d n : Nat} {S : gS} {P : gS → Int32 → Prop}   (h : s_cv d mX9_copyFrom n S [.ref (53), .ref (49)] (fun S1 => gG d mX11_dry 0 0 (g_Xj mX11_dry n 0 0 (hPi P)) 13 n (hH S1) [some (.ref (0)), some (.int ((0 : Int32)))] [] 0 0)) : gG d mX11_dry 0 0 (g_Xj mX11_dry n 0 0 (hPi P)) 0 n (hH S) [some (.ref (0)), none] [] 0 0 := by
  refine kX11_dry_0  ?_
  refine q_gc rfl rfl ?_
  refine q_gc rfl rfl ?_
  refine ⟨q_rc is_53.1, ?_⟩
  obtain ⟨d2, P2, hdd, hC, h⟩ := h
  refine ⟨d2, _, hdd, hC, fun H9 hp => ?_⟩
  obtain ⟨S1, rfl, hp⟩ := hp
  have h := h S1 hp
  exact h
theorem zX11_dry_13 {d n : Nat} {S : gS} {P : gS → Int32 → Prop} {i1 : Int32}  (h : ((60 : Int32) < i1 → P S ((-1 : Int32))) ∧ (¬ ((60 : Int32) < i1) → isF (sQ S 3) ∧ (s_ci d mX9_allWater n S [.ref (53), .int ((sI S ((sQ S 3)) 0))] (fun S2 x3 => (¬ (x3 = 0) → s_ci d mX11_passTrialMinute n S2 [.ref (0)] (fun S4 x5 => gG d mX11_dry 0 0 (g_Xj mX11_dry n 0 0 (hPi P)) 13 n (hH S4) [some (.ref (0)), some (.int ((i1 + 1)))] [] 0 0)) ∧ (x3 = 0 → P S2 (i1)))))) : gG d mX11_dry 0 0 (g_Xj mX11_dry n 0 0 (hPi P)) 13 n (hH S) [some (.ref (0)), some (.int (i1))] [] 0 0 := by
  refine kX11_dry_13  ?_
  refine ⟨fun c => ?_, fun c => ?_⟩
  · have h := h.1 c
    exact ⟨_, rfl, h⟩
  · have h := h.2 c
    refine q_gc rfl rfl ?_
    obtain ⟨hq1, h⟩ := h
    refine q_gq rfl rfl ?_
    refine q_gi hq1.1 rfl ?_
    refine ⟨q_rc is_53.1, ?_⟩
    obtain ⟨d2, P2, hdd, hC, h⟩ := h
    refine ⟨d2, _, hdd, hC, fun H9 x3 hp => ?_⟩
    obtain ⟨S2, rfl, hp⟩ := hp
    have h := h S2 x3 hp
    refine ⟨fun c => ?_, fun c => ?_⟩
    · have h := h.1 c
      refine ⟨q_rc rfl, ?_⟩
      obtain ⟨d2, P2, hdd, hC, h⟩ := h
      refine ⟨d2, _, hdd, hC, fun H9 x5 hp => ?_⟩
      obtain ⟨S4, rfl, hp⟩ := hp
      have h := h S4 x5 hp
      exact h
    · have h := h.2 c
      exact ⟨_, rfl, h⟩

theorem zX11_spill_0 {d n : Nat} {S : gS} {P : gS → Int32 → Prop} {i1 : Int32}  (h : s_cz d mX11_isAhead n S [.int (i1)] (fun S1 b2 => (b2 = true → s_cv d mX9_copyFrom n S1 [.ref (53), .ref (49)] (fun S3 => gG d mX11_spill 0 0 (g_Xj mX11_spill n 0 0 (hPi P)) 24 n (hH S3) [some (.ref (0)), some (.int (i1)), some (.int ((0 : Int32))), some (.int ((0 : Int32)))] [] 0 0)) ∧ (b2 = false → P S1 ((-1 : Int32))))) : gG d mX11_spill 0 0 (g_Xj mX11_spill n 0 0 (hPi P)) 0 n (hH S) [some (.ref (0)), some (.int (i1)), none, none] [] 0 0 := by
  refine kX11_spill_0  ?_
  obtain ⟨d2, P2, hdd, hC, h⟩ := h
  refine ⟨d2, _, hdd, hC, fun H9 b2 hp => ?_⟩
  obtain ⟨S1, rfl, hp⟩ := hp
  have h := h S1 b2 hp
  refine ⟨fun c => ?_, fun c => ?_⟩
  · have h := h.1 c
    refine q_gc rfl rfl ?_
    refine q_gc rfl rfl ?_
    refine ⟨q_rc is_53.1, ?_⟩
    obtain ⟨d2, P2, hdd, hC, h⟩ := h
    refine ⟨d2, _, hdd, hC, fun H9 hp => ?_⟩
    obtain ⟨S3, rfl, hp⟩ := hp
    have h := h S3 hp
    exact h
  · have h := h.2 c
    exact ⟨_, rfl, h⟩
theorem zX11_spill_24 {d n : Nat} {S : gS} {P : gS → Int32 → Prop} {i1 : Int32} {i2 : Int32} {i3 : Int32}  (h : (i1 ≤ i3 → P S (i2)) ∧ (¬ (i1 ≤ i3) → s_ci d mX11_passTrialMinute n S [.ref (0)] (fun S1 x2 => gG d mX11_spill 0 0 (g_Xj mX11_spill n 0 0 (hPi P)) 24 n (hH S1) [some (.ref (0)), some (.int (i1)), some (.int ((i2 + (sI S1 (53) 7)))), some (.int ((i3 + 1)))] [] 0 0))) : gG d mX11_spill 0 0 (g_Xj mX11_spill n 0 0 (hPi P)) 24 n (hH S) [some (.ref (0)), some (.int (i1)), some (.int (i2)), some (.int (i3))] [] 0 0 := by
  refine kX11_spill_24  ?_
  refine ⟨fun c => ?_, fun c => ?_⟩
  · have h := h.1 c
    exact ⟨_, rfl, h⟩
  · have h := h.2 c
    refine ⟨q_rc rfl, ?_⟩
    obtain ⟨d2, P2, hdd, hC, h⟩ := h
    refine ⟨d2, _, hdd, hC, fun H9 x2 hp => ?_⟩
    obtain ⟨S1, rfl, hp⟩ := hp
    have h := h S1 x2 hp
    refine q_gc rfl rfl ?_
    refine q_gi is_53.1 rfl ?_
    exact h

theorem zX11_over_0 {d n : Nat} {S : gS} {P : gS → Int32 → Prop} {i1 : Int32}  (h : s_cz d mX11_isMouth n S [.ref (0), .int (i1)] (fun S1 b2 => (b2 = true → s_cv d mX9_copyFrom n S1 [.ref (53), .ref (49)] (fun S3 => gG d mX11_over 0 0 (g_Xj mX11_over n 0 0 (hPi P)) 23 n (hH S3) [some (.ref (0)), some (.int (i1)), some (.int ((1 : Int32)))] [] 0 0)) ∧ (b2 = false → P S1 ((-1 : Int32))))) : gG d mX11_over 0 0 (g_Xj mX11_over n 0 0 (hPi P)) 0 n (hH S) [some (.ref (0)), some (.int (i1)), none] [] 0 0 := by
  refine kX11_over_0  ?_
  refine ⟨q_rc rfl, ?_⟩
  obtain ⟨d2, P2, hdd, hC, h⟩ := h
  refine ⟨d2, _, hdd, hC, fun H9 b2 hp => ?_⟩
  obtain ⟨S1, rfl, hp⟩ := hp
  have h := h S1 b2 hp
  refine ⟨fun c => ?_, fun c => ?_⟩
  · have h := h.1 c
    refine q_gc rfl rfl ?_
    refine q_gc rfl rfl ?_
    refine ⟨q_rc is_53.1, ?_⟩
    obtain ⟨d2, P2, hdd, hC, h⟩ := h
    refine ⟨d2, _, hdd, hC, fun H9 hp => ?_⟩
    obtain ⟨S3, rfl, hp⟩ := hp
    have h := h S3 hp
    exact h
  · have h := h.2 c
    exact ⟨_, rfl, h⟩
theorem zX11_over_23 {d n : Nat} {S : gS} {P : gS → Int32 → Prop} {i1 : Int32} {i2 : Int32}  (h : ((60 : Int32) < i2 → P S ((-1 : Int32))) ∧ (¬ ((60 : Int32) < i2) → s_ci d mX11_passTrialMinute n S [.ref (0)] (fun S1 x2 => s_cz d mX9_ranOver n S1 [.ref (53), .int (i1)] (fun S3 b4 => (b4 = false → gG d mX11_over 0 0 (g_Xj mX11_over n 0 0 (hPi P)) 23 n (hH S3) [some (.ref (0)), some (.int (i1)), some (.int ((i2 + 1)))] [] 0 0) ∧ (b4 = true → P S3 (i2)))))) : gG d mX11_over 0 0 (g_Xj mX11_over n 0 0 (hPi P)) 23 n (hH S) [some (.ref (0)), some (.int (i1)), some (.int (i2))] [] 0 0 := by
  refine kX11_over_23  ?_
  refine ⟨fun c => ?_, fun c => ?_⟩
  · have h := h.1 c
    exact ⟨_, rfl, h⟩
  · have h := h.2 c
    refine ⟨q_rc rfl, ?_⟩
    obtain ⟨d2, P2, hdd, hC, h⟩ := h
    refine ⟨d2, _, hdd, hC, fun H9 x2 hp => ?_⟩
    obtain ⟨S1, rfl, hp⟩ := hp
    have h := h S1 x2 hp
    refine q_gc rfl rfl ?_
    refine ⟨q_rc is_53.1, ?_⟩
    obtain ⟨d2, P2, hdd, hC, h⟩ := h
    refine ⟨d2, _, hdd, hC, fun H9 b4 hp => ?_⟩
    obtain ⟨S3, rfl, hp⟩ := hp
    have h := h S3 b4 hp
    refine ⟨fun c => ?_, fun c => ?_⟩
    · have h := h.1 c
      exact h
    · have h := h.2 c
      exact ⟨_, rfl, h⟩

theorem zX11_first_0 {d n : Nat} {S : gS} {P : gS → Int32 → Prop}   (h : s_cv d mX9_copyFrom n S [.ref (53), .ref (49)] (fun S1 => gG d mX11_first 0 0 (g_Xj mX11_first n 0 0 (hPi P)) 13 n (hH S1) [some (.ref (0)), some (.int ((1 : Int32))), none] [] 0 0)) : gG d mX11_first 0 0 (g_Xj mX11_first n 0 0 (hPi P)) 0 n (hH S) [some (.ref (0)), none, none] [] 0 0 := by
  refine kX11_first_0  ?_
  refine q_gc rfl rfl ?_
  refine q_gc rfl rfl ?_
  refine ⟨q_rc is_53.1, ?_⟩
  obtain ⟨d2, P2, hdd, hC, h⟩ := h
  refine ⟨d2, _, hdd, hC, fun H9 hp => ?_⟩
  obtain ⟨S1, rfl, hp⟩ := hp
  have h := h S1 hp
  exact h
theorem zX11_first_13 {d n : Nat} {S : gS} {P : gS → Int32 → Prop} {i1 : Int32}  (h : ((60 : Int32) < i1 → P S ((-1 : Int32))) ∧ (¬ ((60 : Int32) < i1) → s_ci d mX11_passTrialMinute n S [.ref (0)] (fun S1 x2 => gG d mX11_first 0 0 (g_Xj mX11_first n 0 0 (hPi P)) 26 n (hH S1) [some (.ref (0)), some (.int (i1)), some (.int ((0 : Int32)))] [] 0 0))) : gG d mX11_first 0 0 (g_Xj mX11_first n 0 0 (hPi P)) 13 n (hH S) [some (.ref (0)), some (.int (i1)), none] [] 0 0 := by
  refine kX11_first_13  ?_
  refine ⟨fun c => ?_, fun c => ?_⟩
  · have h := h.1 c
    exact ⟨_, rfl, h⟩
  · have h := h.2 c
    refine ⟨q_rc rfl, ?_⟩
    obtain ⟨d2, P2, hdd, hC, h⟩ := h
    refine ⟨d2, _, hdd, hC, fun H9 x2 hp => ?_⟩
    obtain ⟨S1, rfl, hp⟩ := hp
    have h := h S1 x2 hp
    exact h
theorem zX11_first_26 {d n : Nat} {S : gS} {P : gS → Int32 → Prop} {i1 : Int32} {i2 : Int32}  (h : isF (sQ S 3) ∧ (((sI S ((sQ S 3)) 0) ≤ i2 → gG d mX11_first 0 0 (g_Xj mX11_first n 0 0 (hPi P)) 13 n (hH S) [some (.ref (0)), some (.int ((i1 + 1))), none] [] 0 0) ∧ (¬ ((sI S ((sQ S 3)) 0) ≤ i2) → s_cz d mX9_ranOver n S [.ref (53), .int (i2)] (fun S2 b3 => (b3 = false → gG d mX11_first 0 0 (g_Xj mX11_first n 0 0 (hPi P)) 26 n (hH S2) [some (.ref (0)), some (.int (i1)), some (.int ((i2 + 1)))] [] 0 0) ∧ (b3 = true → P S2 (i2)))))) : gG d mX11_first 0 0 (g_Xj mX11_first n 0 0 (hPi P)) 26 n (hH S) [some (.ref (0)), some (.int (i1)), some (.int (i2))] [] 0 0 := by
  refine kX11_first_26  ?_
  obtain ⟨hq1, h⟩ := h
  refine q_gq rfl rfl ?_
  refine q_gi hq1.1 rfl ?_
  refine ⟨fun c => ?_, fun c => ?_⟩
  · have h := h.1 c
    exact h
  · have h := h.2 c
    refine q_gc rfl rfl ?_
    refine ⟨q_rc is_53.1, ?_⟩
    obtain ⟨d2, P2, hdd, hC, h⟩ := h
    refine ⟨d2, _, hdd, hC, fun H9 b3 hp => ?_⟩
    obtain ⟨S2, rfl, hp⟩ := hp
    have h := h S2 b3 hp
    refine ⟨fun c => ?_, fun c => ?_⟩
    · have h := h.1 c
      exact h
    · have h := h.2 c
      exact ⟨_, rfl, h⟩

theorem zX11_great_0 {d n : Nat} {S : gS} {P : gS → Int32 → Prop} {i1 : Int32}  (h : s_cz d mX11_isAhead n S [.int (i1)] (fun S1 b2 => (b2 = false → P S1 ((-1 : Int32))) ∧ (b2 = true → isF (sQ S1 3) ∧ ((¬ ((sI S1 ((sQ S1 3)) 0) = 0) → s_cv d mX11_emptyRow n S1 [.ref (0)] (fun S4 => s_cv d mX9_copyFrom n S4 [.ref (53), .ref (49)] (fun S5 => gG d mX11_great 0 0 (g_Xj mX11_great n 0 0 (hPi P)) 36 n (hH S5) [some (.ref (0)), some (.int (i1)), some (.int ((0 : Int32))), none] [] 0 0))) ∧ ((sI S1 ((sQ S1 3)) 0) = 0 → P S1 ((-1 : Int32))))))) : gG d mX11_great 0 0 (g_Xj mX11_great n 0 0 (hPi P)) 0 n (hH S) [some (.ref (0)), some (.int (i1)), none, none] [] 0 0 := by
  refine kX11_great_0  ?_
  obtain ⟨d2, P2, hdd, hC, h⟩ := h
  refine ⟨d2, _, hdd, hC, fun H9 b2 hp => ?_⟩
  obtain ⟨S1, rfl, hp⟩ := hp
  have h := h S1 b2 hp
  refine ⟨fun c => ?_, fun c => ?_⟩
  · have h := h.1 c
    exact ⟨_, rfl, h⟩
  · have h := h.2 c
    obtain ⟨hq3, h⟩ := h
    refine q_gq rfl rfl ?_
    refine q_gi hq3.1 rfl ?_
    refine ⟨fun c => ?_, fun c => ?_⟩
    · have h := h.1 c
      refine ⟨q_rc rfl, ?_⟩
      obtain ⟨d2, P2, hdd, hC, h⟩ := h
      refine ⟨d2, _, hdd, hC, fun H9 hp => ?_⟩
      obtain ⟨S4, rfl, hp⟩ := hp
      have h := h S4 hp
      refine q_gc rfl rfl ?_
      refine q_gc rfl rfl ?_
      refine ⟨q_rc is_53.1, ?_⟩
      obtain ⟨d2, P2, hdd, hC, h⟩ := h
      refine ⟨d2, _, hdd, hC, fun H9 hp => ?_⟩
      obtain ⟨S5, rfl, hp⟩ := hp
      have h := h S5 hp
      exact h
    · have h := h.2 c
      exact ⟨_, rfl, h⟩
theorem zX11_great_36 {d n : Nat} {S : gS} {P : gS → Int32 → Prop} {i1 : Int32} {i2 : Int32}  (h : (i1 ≤ i2 → isF (sQ S 3) ∧ (s_ci d mX11_greatestOfRow n S [.ref (0), .int ((sI S ((sQ S 3)) 0))] (fun S2 x3 => P S2 (x3)))) ∧ (¬ (i1 ≤ i2) → s_ci d mX11_passTrialMinute n S [.ref (0)] (fun S4 x5 => gG d mX11_great 0 0 (g_Xj mX11_great n 0 0 (hPi P)) 48 n (hH S4) [some (.ref (0)), some (.int (i1)), some (.int (i2)), some (.int ((0 : Int32)))] [] 0 0))) : gG d mX11_great 0 0 (g_Xj mX11_great n 0 0 (hPi P)) 36 n (hH S) [some (.ref (0)), some (.int (i1)), some (.int (i2)), none] [] 0 0 := by
  refine kX11_great_36  ?_
  refine ⟨fun c => ?_, fun c => ?_⟩
  · have h := h.1 c
    obtain ⟨hq1, h⟩ := h
    refine q_gq rfl rfl ?_
    refine q_gi hq1.1 rfl ?_
    refine ⟨q_rc rfl, ?_⟩
    obtain ⟨d2, P2, hdd, hC, h⟩ := h
    refine ⟨d2, _, hdd, hC, fun H9 x3 hp => ?_⟩
    obtain ⟨S2, rfl, hp⟩ := hp
    have h := h S2 x3 hp
    exact ⟨_, rfl, h⟩
  · have h := h.2 c
    refine ⟨q_rc rfl, ?_⟩
    obtain ⟨d2, P2, hdd, hC, h⟩ := h
    refine ⟨d2, _, hdd, hC, fun H9 x5 hp => ?_⟩
    obtain ⟨S4, rfl, hp⟩ := hp
    have h := h S4 x5 hp
    exact h
theorem zX11_great_48 {d n : Nat} {S : gS} {P : gS → Int32 → Prop} {i1 : Int32} {i2 : Int32} {i3 : Int32}  (h : isF (sQ S 3) ∧ (((sI S ((sQ S 3)) 0) ≤ i3 → gG d mX11_great 0 0 (g_Xj mX11_great n 0 0 (hPi P)) 36 n (hH S) [some (.ref (0)), some (.int (i1)), some (.int ((i2 + 1))), none] [] 0 0) ∧ (¬ ((sI S ((sQ S 3)) 0) ≤ i3) → vp_in (i3) 7 ∧ (((∀ S3, S3 = uR S (179) (Int32.toNatClampNeg (i3)) (((sR S (179) (Int32.toNatClampNeg (i3))) + (sR S ((53 + 2)) (Int32.toNatClampNeg (i3))))) → gG d mX11_great 0 0 (g_Xj mX11_great n 0 0 (hPi P)) 48 n (hH S3) [some (.ref (0)), some (.int (i1)), some (.int (i2)), some (.int ((i3 + 1)))] [] 0 0)))))) : gG d mX11_great 0 0 (g_Xj mX11_great n 0 0 (hPi P)) 48 n (hH S) [some (.ref (0)), some (.int (i1)), some (.int (i2)), some (.int (i3))] [] 0 0 := by
  refine kX11_great_48  ?_
  obtain ⟨hq1, h⟩ := h
  refine q_gq rfl rfl ?_
  refine q_gi hq1.1 rfl ?_
  refine ⟨fun c => ?_, fun c => ?_⟩
  · have h := h.1 c
    exact h
  · have h := h.2 c
    refine q_gc rfl rfl ?_
    obtain ⟨hv2, h⟩ := h
    refine q_al (k := Int32.toNatClampNeg (i3)) rfl (by decide) hv2 rfl ?_
    refine q_gc rfl rfl ?_
    refine q_gp is_53.1 rfl ?_
    refine q_al (k := Int32.toNatClampNeg (i3)) is_53.2.2.1 (by decide) hv2 rfl ?_
    refine q_as (k := Int32.toNatClampNeg (i3)) rfl (by decide) hv2 rfl ?_
    obtain ⟨S3, eS⟩ : ∃ z, z = uR S (179) (Int32.toNatClampNeg (i3)) (((sR S (179) (Int32.toNatClampNeg (i3))) + (sR S ((53 + 2)) (Int32.toNatClampNeg (i3))))) := ⟨_, rfl⟩
    rw [← eS]
    have h := h S3 eS
    exact h

theorem zX11_twins_0 {d n : Nat} {S : gS} {P : gS → Int32 → Prop} {i1 : Int32}  (h : s_cz d mX11_isAhead n S [.int (i1)] (fun S1 b2 => (b2 = true → s_cv d mX11_emptyRow n S1 [.ref (0)] (fun S3 => s_cv d mX9_copyFrom n S3 [.ref (53), .ref (49)] (fun S4 => gG d mX11_twins 0 0 (g_Xj mX11_twins n 0 0 (hPi P)) 26 n (hH S4) [some (.ref (0)), some (.int (i1)), some (.int ((0 : Int32))), none, none] [] 0 0))) ∧ (b2 = false → P S1 ((-1 : Int32))))) : gG d mX11_twins 0 0 (g_Xj mX11_twins n 0 0 (hPi P)) 0 n (hH S) [some (.ref (0)), some (.int (i1)), none, none, none] [] 0 0 := by
  refine kX11_twins_0  ?_
  obtain ⟨d2, P2, hdd, hC, h⟩ := h
  refine ⟨d2, _, hdd, hC, fun H9 b2 hp => ?_⟩
  obtain ⟨S1, rfl, hp⟩ := hp
  have h := h S1 b2 hp
  refine ⟨fun c => ?_, fun c => ?_⟩
  · have h := h.1 c
    refine ⟨q_rc rfl, ?_⟩
    obtain ⟨d2, P2, hdd, hC, h⟩ := h
    refine ⟨d2, _, hdd, hC, fun H9 hp => ?_⟩
    obtain ⟨S3, rfl, hp⟩ := hp
    have h := h S3 hp
    refine q_gc rfl rfl ?_
    refine q_gc rfl rfl ?_
    refine ⟨q_rc is_53.1, ?_⟩
    obtain ⟨d2, P2, hdd, hC, h⟩ := h
    refine ⟨d2, _, hdd, hC, fun H9 hp => ?_⟩
    obtain ⟨S4, rfl, hp⟩ := hp
    have h := h S4 hp
    exact h
  · have h := h.2 c
    exact ⟨_, rfl, h⟩
theorem zX11_twins_26 {d n : Nat} {S : gS} {P : gS → Int32 → Prop} {i1 : Int32} {i2 : Int32}  (h : (i1 ≤ i2 → gG d mX11_twins 0 0 (g_Xj mX11_twins n 0 0 (hPi P)) 89 n (hH S) [some (.ref (0)), none, some (.int ((0 : Int32))), some (.int ((0 : Int32))), none] [] 0 0) ∧ (¬ (i1 ≤ i2) → s_ci d mX11_passTrialMinute n S [.ref (0)] (fun S1 x2 => gG d mX11_twins 0 0 (g_Xj mX11_twins n 0 0 (hPi P)) 38 n (hH S1) [some (.ref (0)), some (.int (i1)), some (.int (i2)), some (.int ((0 : Int32))), none] [] 0 0))) : gG d mX11_twins 0 0 (g_Xj mX11_twins n 0 0 (hPi P)) 26 n (hH S) [some (.ref (0)), some (.int (i1)), some (.int (i2)), none, none] [] 0 0 := by
  refine kX11_twins_26  ?_
  refine ⟨fun c => ?_, fun c => ?_⟩
  · have h := h.1 c
    exact h
  · have h := h.2 c
    refine ⟨q_rc rfl, ?_⟩
    obtain ⟨d2, P2, hdd, hC, h⟩ := h
    refine ⟨d2, _, hdd, hC, fun H9 x2 hp => ?_⟩
    obtain ⟨S1, rfl, hp⟩ := hp
    have h := h S1 x2 hp
    exact h
theorem zX11_twins_38 {d n : Nat} {S : gS} {P : gS → Int32 → Prop} {i1 : Int32} {i2 : Int32} {i3 : Int32}  (h : isF (sQ S 3) ∧ (((sI S ((sQ S 3)) 0) ≤ i3 → gG d mX11_twins 0 0 (g_Xj mX11_twins n 0 0 (hPi P)) 26 n (hH S) [some (.ref (0)), some (.int (i1)), some (.int ((i2 + 1))), none, none] [] 0 0) ∧ (¬ ((sI S ((sQ S 3)) 0) ≤ i3) → vp_in (i3) 7 ∧ (isF (sQ S 3) ∧ (s_ci d mX9_flowsUnlike n S [.ref (53), .int (i3), .int ((sI S ((sQ S 3)) 0))] (fun S4 x5 => (∀ S6, S6 = uR S4 (179) (Int32.toNatClampNeg (i3)) (((sR S (179) (Int32.toNatClampNeg (i3))) ||| x5)) → gG d mX11_twins 0 0 (g_Xj mX11_twins n 0 0 (hPi P)) 38 n (hH S6) [some (.ref (0)), some (.int (i1)), some (.int (i2)), some (.int ((i3 + 1))), none] [] 0 0))))))) : gG d mX11_twins 0 0 (g_Xj mX11_twins n 0 0 (hPi P)) 38 n (hH S) [some (.ref (0)), some (.int (i1)), some (.int (i2)), some (.int (i3)), none] [] 0 0 := by
  refine kX11_twins_38  ?_
  obtain ⟨hq1, h⟩ := h
  refine q_gq rfl rfl ?_
  refine q_gi hq1.1 rfl ?_
  refine ⟨fun c => ?_, fun c => ?_⟩
  · have h := h.1 c
    exact h
  · have h := h.2 c
    refine q_gc rfl rfl ?_
    obtain ⟨hv2, h⟩ := h
    refine q_al (k := Int32.toNatClampNeg (i3)) rfl (by decide) hv2 rfl ?_
    refine q_gc rfl rfl ?_
    obtain ⟨hq3, h⟩ := h
    refine q_gq rfl rfl ?_
    refine q_gi hq3.1 rfl ?_
    refine ⟨q_rc is_53.1, ?_⟩
    obtain ⟨d2, P2, hdd, hC, h⟩ := h
    refine ⟨d2, _, hdd, hC, fun H9 x5 hp => ?_⟩
    obtain ⟨S4, rfl, hp⟩ := hp
    have h := h S4 x5 hp
    refine q_as (k := Int32.toNatClampNeg (i3)) rfl (by decide) hv2 rfl ?_
    obtain ⟨S6, eS⟩ : ∃ z, z = uR S4 (179) (Int32.toNatClampNeg (i3)) (((sR S (179) (Int32.toNatClampNeg (i3))) ||| x5)) := ⟨_, rfl⟩
    rw [← eS]
    have h := h S6 eS
    exact h
theorem zX11_twins_89 {d n : Nat} {S : gS} {P : gS → Int32 → Prop} {i2 : Int32} {i3 : Int32}  (h : isF (sQ S 3) ∧ (((sI S ((sQ S 3)) 0) ≤ i3 → P S (i2)) ∧ (¬ ((sI S ((sQ S 3)) 0) ≤ i3) → isF (sQ S 3) ∧ (vp_in (i3) 7 ∧ (s_ci d mJ6_bitCount_0f7a4 n S [.int (((sR S (179) (Int32.toNatClampNeg (i3))) >>> ((i3 + (1 : Int32)) &&& 31)))] (fun S4 x5 => gG d mX11_twins 0 0 (g_Xj mX11_twins n 0 0 (hPi P)) 89 n (hH S4) [some (.ref (0)), none, some (.int ((i2 + ((((sI S ((sQ S 3)) 0) - (1 : Int32)) - i3) - x5)))), some (.int ((i3 + 1))), none] [] 0 0)))))) : gG d mX11_twins 0 0 (g_Xj mX11_twins n 0 0 (hPi P)) 89 n (hH S) [some (.ref (0)), none, some (.int (i2)), some (.int (i3)), none] [] 0 0 := by
  refine kX11_twins_89  ?_
  obtain ⟨hq1, h⟩ := h
  refine q_gq rfl rfl ?_
  refine q_gi hq1.1 rfl ?_
  refine ⟨fun c => ?_, fun c => ?_⟩
  · have h := h.1 c
    exact ⟨_, rfl, h⟩
  · have h := h.2 c
    obtain ⟨hq2, h⟩ := h
    refine q_gq rfl rfl ?_
    refine q_gi hq2.1 rfl ?_
    refine q_gc rfl rfl ?_
    obtain ⟨hv3, h⟩ := h
    refine q_al (k := Int32.toNatClampNeg (i3)) rfl (by decide) hv3 rfl ?_
    obtain ⟨d2, P2, hdd, hC, h⟩ := h
    refine ⟨d2, _, hdd, hC, fun H9 x5 hp => ?_⟩
    obtain ⟨S4, rfl, hp⟩ := hp
    have h := h S4 x5 hp
    exact h

theorem zX11_down_0 {d n : Nat} {S : gS} {P : gS → Int32 → Prop} {i1 : Int32}  (h : s_cz d mX11_isMouth n S [.ref (0), .int (i1)] (fun S1 b2 => (b2 = false → P S1 ((-1 : Int32))) ∧ (b2 = true → isF (sQ S1 3) ∧ (s_ci d mX1_below n S1 [.ref ((sQ S1 3)), .int (i1)] (fun S4 x5 => P S4 (x5)))))) : gG d mX11_down 0 0 (g_Xj mX11_down n 0 0 (hPi P)) 0 n (hH S) [some (.ref (0)), some (.int (i1))] [] 0 0 := by
  refine kX11_down_0  ?_
  refine ⟨q_rc rfl, ?_⟩
  obtain ⟨d2, P2, hdd, hC, h⟩ := h
  refine ⟨d2, _, hdd, hC, fun H9 b2 hp => ?_⟩
  obtain ⟨S1, rfl, hp⟩ := hp
  have h := h S1 b2 hp
  refine ⟨fun c => ?_, fun c => ?_⟩
  · have h := h.1 c
    exact ⟨_, rfl, h⟩
  · have h := h.2 c
    obtain ⟨hq3, h⟩ := h
    refine q_gq rfl rfl ?_
    refine ⟨q_rc hq3.1, ?_⟩
    obtain ⟨d2, P2, hdd, hC, h⟩ := h
    refine ⟨d2, _, hdd, hC, fun H9 x5 hp => ?_⟩
    obtain ⟨S4, rfl, hp⟩ := hp
    have h := h S4 x5 hp
    exact ⟨_, rfl, h⟩

theorem zX11_up_0 {d n : Nat} {S : gS} {P : gS → Int32 → Prop} {i1 : Int32}  (h : s_cz d mX11_isMouth n S [.ref (0), .int (i1)] (fun S1 b2 => (b2 = true → gG d mX11_up 0 0 (g_Xj mX11_up n 0 0 (hPi P)) 14 n (hH S1) [some (.ref (0)), some (.int (i1)), some (.int ((0 : Int32))), some (.int ((0 : Int32)))] [] 0 0) ∧ (b2 = false → P S1 ((-1 : Int32))))) : gG d mX11_up 0 0 (g_Xj mX11_up n 0 0 (hPi P)) 0 n (hH S) [some (.ref (0)), some (.int (i1)), none, none] [] 0 0 := by
  refine kX11_up_0  ?_
  refine ⟨q_rc rfl, ?_⟩
  obtain ⟨d2, P2, hdd, hC, h⟩ := h
  refine ⟨d2, _, hdd, hC, fun H9 b2 hp => ?_⟩
  obtain ⟨S1, rfl, hp⟩ := hp
  have h := h S1 b2 hp
  refine ⟨fun c => ?_, fun c => ?_⟩
  · have h := h.1 c
    exact h
  · have h := h.2 c
    exact ⟨_, rfl, h⟩
theorem zX11_up_14 {d n : Nat} {S : gS} {P : gS → Int32 → Prop} {i1 : Int32} {i2 : Int32} {i3 : Int32}  (h : isF (sQ S 3) ∧ (((sI S ((sQ S 3)) 0) ≤ i3 → P S (i2)) ∧ (¬ ((sI S ((sQ S 3)) 0) ≤ i3) → isF (sQ S 3) ∧ (s_ci d mX1_below n S [.ref ((sQ S 3)), .int (i3)] (fun S3 x4 => (((x4 >>> (i1 &&& 31)) &&& (1 : Int32)) = 0 → gG d mX11_up 0 0 (g_Xj mX11_up n 0 0 (hPi P)) 14 n (hH S3) [some (.ref (0)), some (.int (i1)), some (.int (i2)), some (.int ((i3 + 1)))] [] 0 0) ∧ (¬ (((x4 >>> (i1 &&& 31)) &&& (1 : Int32)) = 0) → gG d mX11_up 0 0 (g_Xj mX11_up n 0 0 (hPi P)) 14 n (hH S3) [some (.ref (0)), some (.int (i1)), some (.int ((i2 ||| ((1 : Int32) <<< (i3 &&& 31))))), some (.int ((i3 + 1)))] [] 0 0)))))) : gG d mX11_up 0 0 (g_Xj mX11_up n 0 0 (hPi P)) 14 n (hH S) [some (.ref (0)), some (.int (i1)), some (.int (i2)), some (.int (i3))] [] 0 0 := by
  refine kX11_up_14  ?_
  obtain ⟨hq1, h⟩ := h
  refine q_gq rfl rfl ?_
  refine q_gi hq1.1 rfl ?_
  refine ⟨fun c => ?_, fun c => ?_⟩
  · have h := h.1 c
    exact ⟨_, rfl, h⟩
  · have h := h.2 c
    obtain ⟨hq2, h⟩ := h
    refine q_gq rfl rfl ?_
    refine ⟨q_rc hq2.1, ?_⟩
    obtain ⟨d2, P2, hdd, hC, h⟩ := h
    refine ⟨d2, _, hdd, hC, fun H9 x4 hp => ?_⟩
    obtain ⟨S3, rfl, hp⟩ := hp
    have h := h S3 x4 hp
    refine ⟨fun c => ?_, fun c => ?_⟩
    · have h := h.1 c
      exact h
    · have h := h.2 c
      exact h

theorem zX11_chain_0 {d n : Nat} {S : gS} {P : gS → Int32 → Prop}   (h : gG d mX11_chain 0 0 (g_Xj mX11_chain n 0 0 (hPi P)) 4 n (hH S) [some (.ref (0)), some (.int ((0 : Int32))), some (.int ((0 : Int32)))] [] 0 0) : gG d mX11_chain 0 0 (g_Xj mX11_chain n 0 0 (hPi P)) 0 n (hH S) [some (.ref (0)), none, none] [] 0 0 := by
  refine kX11_chain_0  ?_
  exact h
theorem zX11_chain_4 {d n : Nat} {S : gS} {P : gS → Int32 → Prop} {i1 : Int32} {i2 : Int32}  (hd1 : 1 ≤ d) (h : isF (sQ S 3) ∧ (((sI S ((sQ S 3)) 0) ≤ i2 → P S (i1)) ∧ (¬ ((sI S ((sQ S 3)) 0) ≤ i2) → isF (sQ S 3) ∧ (s_ci d mX1_below n S [.ref ((sQ S 3)), .int (i2)] (fun S3 x4 => s_ci d mJ6_bitCount_0f7a4 n S3 [.int (x4)] (fun S5 x6 => gG d mX11_chain 0 0 (g_Xj mX11_chain n 0 0 (hPi P)) 4 n (hH S5) [some (.ref (0)), some (.int ((if i1 < ((1 : Int32) + x6) then ((1 : Int32) + x6) else i1))), some (.int ((i2 + 1)))] [] 0 0)))))) : gG d mX11_chain 0 0 (g_Xj mX11_chain n 0 0 (hPi P)) 4 n (hH S) [some (.ref (0)), some (.int (i1)), some (.int (i2))] [] 0 0 := by
  refine kX11_chain_4 hd1 ?_
  obtain ⟨hq1, h⟩ := h
  refine q_gq rfl rfl ?_
  refine q_gi hq1.1 rfl ?_
  refine ⟨fun c => ?_, fun c => ?_⟩
  · have h := h.1 c
    exact ⟨_, rfl, h⟩
  · have h := h.2 c
    obtain ⟨hq2, h⟩ := h
    refine q_gq rfl rfl ?_
    refine ⟨q_rc hq2.1, ?_⟩
    obtain ⟨d2, P2, hdd, hC, h⟩ := h
    refine ⟨d2, _, hdd, hC, fun H9 x4 hp => ?_⟩
    obtain ⟨S3, rfl, hp⟩ := hp
    have h := h S3 x4 hp
    obtain ⟨d2, P2, hdd, hC, h⟩ := h
    refine ⟨d2, _, hdd, hC, fun H9 x6 hp => ?_⟩
    obtain ⟨S5, rfl, hp⟩ := hp
    have h := h S5 x6 hp
    exact h

theorem zX11_sounds_0 {d n : Nat} {S : gS} {P : gS → Int32 → Prop}   (h : P S ((sI S (49) 4))) : gG d mX11_sounds 0 0 (g_Xj mX11_sounds n 0 0 (hPi P)) 0 n (hH S) [some (.ref (0))] [] 0 0 := by
  refine kX11_sounds_0  ?_
  refine q_gc rfl rfl ?_
  refine q_gi is_49.1 rfl ?_
  exact ⟨_, rfl, h⟩

theorem zX11_last_0 {d n : Nat} {S : gS} {P : gS → Int32 → Prop}   (h : P S ((sI S (49) 5))) : gG d mX11_last 0 0 (g_Xj mX11_last n 0 0 (hPi P)) 0 n (hH S) [some (.ref (0))] [] 0 0 := by
  refine kX11_last_0  ?_
  refine q_gc rfl rfl ?_
  refine q_gi is_49.1 rfl ?_
  exact ⟨_, rfl, h⟩

theorem zX11_often_0 {d n : Nat} {S : gS} {P : gS → Int32 → Prop}   (h : gG d mX11_often 0 0 (g_Xj mX11_often n 0 0 (hPi P)) 2 n (hH S) [some (.ref (0)), some (.int ((0 : Int32)))] [] 0 0) : gG d mX11_often 0 0 (g_Xj mX11_often n 0 0 (hPi P)) 0 n (hH S) [some (.ref (0)), none] [] 0 0 := by
  refine kX11_often_0  ?_
  exact h
theorem zX11_often_2 {d n : Nat} {S : gS} {P : gS → Int32 → Prop} {i1 : Int32}  (h : isF (sQ S 3) ∧ (((sI S ((sQ S 3)) 8) ≤ i1 → isF (sQ S 3) ∧ (s_ci d mX11_greatestOfRow n S [.ref (0), .int ((sI S ((sQ S 3)) 8))] (fun S3 x4 => (x4 = (-1 : Int32) → P S3 ((-1 : Int32))) ∧ (¬ (x4 = (-1 : Int32)) → vp_in (x4) 7 ∧ (((sR S3 (179) (Int32.toNatClampNeg (x4))) ≤ 0 → P S3 ((-1 : Int32))) ∧ (¬ ((sR S3 (179) (Int32.toNatClampNeg (x4))) ≤ 0) → P S3 (x4))))))) ∧ (¬ ((sI S ((sQ S 3)) 8) ≤ i1) → s_ci d mX9_signsLike n S [.ref (49), .int (i1)] (fun S6 x7 => vp_in (i1) 7 ∧ (∀ S9, S9 = uR S6 (179) (Int32.toNatClampNeg (i1)) (x7) → gG d mX11_often 0 0 (g_Xj mX11_often n 0 0 (hPi P)) 2 n (hH S9) [some (.ref (0)), some (.int ((i1 + 1)))] [] 0 0))))) : gG d mX11_often 0 0 (g_Xj mX11_often n 0 0 (hPi P)) 2 n (hH S) [some (.ref (0)), some (.int (i1))] [] 0 0 := by
  refine kX11_often_2  ?_
  obtain ⟨hq1, h⟩ := h
  refine q_gq rfl rfl ?_
  refine q_gi hq1.1 rfl ?_
  refine ⟨fun c => ?_, fun c => ?_⟩
  · have h := h.1 c
    obtain ⟨hq2, h⟩ := h
    refine q_gq rfl rfl ?_
    refine q_gi hq2.1 rfl ?_
    refine ⟨q_rc rfl, ?_⟩
    obtain ⟨d2, P2, hdd, hC, h⟩ := h
    refine ⟨d2, _, hdd, hC, fun H9 x4 hp => ?_⟩
    obtain ⟨S3, rfl, hp⟩ := hp
    have h := h S3 x4 hp
    refine ⟨fun c => ?_, fun c => ?_⟩
    · have h := h.1 c
      exact ⟨_, rfl, h⟩
    · have h := h.2 c
      refine q_gc rfl rfl ?_
      obtain ⟨hv5, h⟩ := h
      refine q_al (k := Int32.toNatClampNeg (x4)) rfl (by decide) hv5 rfl ?_
      refine ⟨fun c => ?_, fun c => ?_⟩
      · have h := h.1 c
        exact ⟨_, rfl, h⟩
      · have h := h.2 c
        exact ⟨_, rfl, h⟩
  · have h := h.2 c
    refine q_gc rfl rfl ?_
    refine q_gc rfl rfl ?_
    refine ⟨q_rc is_49.1, ?_⟩
    obtain ⟨d2, P2, hdd, hC, h⟩ := h
    refine ⟨d2, _, hdd, hC, fun H9 x7 hp => ?_⟩
    obtain ⟨S6, rfl, hp⟩ := hp
    have h := h S6 x7 hp
    obtain ⟨hv8, h⟩ := h
    refine q_as (k := Int32.toNatClampNeg (i1)) rfl (by decide) hv8 rfl ?_
    obtain ⟨S9, eS⟩ : ∃ z, z = uR S6 (179) (Int32.toNatClampNeg (i1)) (x7) := ⟨_, rfl⟩
    rw [← eS]
    have h := h S9 eS
    exact h

theorem zX11_run_0 {d n : Nat} {S : gS} {P : gS → Int32 → Prop}   (h : gG d mX11_run 0 0 (g_Xj mX11_run n 0 0 (hPi P)) 6 n (hH S) [some (.ref (0)), some (.int ((0 : Int32))), some (.int ((0 : Int32))), some (.int ((0 : Int32))), none] [] 0 0) : gG d mX11_run 0 0 (g_Xj mX11_run n 0 0 (hPi P)) 0 n (hH S) [some (.ref (0)), none, none, none, none] [] 0 0 := by
  refine kX11_run_0  ?_
  exact h
theorem zX11_run_6 {d n : Nat} {S : gS} {P : gS → Int32 → Prop} {i1 : Int32} {i2 : Int32} {i3 : Int32}  (h : ((sI S (49) 9) ≤ i3 → P S (i1)) ∧ (¬ ((sI S (49) 9) ≤ i3) → (i3 ≤ 0 → gG d mX11_run 0 0 (g_Xj mX11_run n 0 0 (hPi P)) 51 n (hH S) [some (.ref (0)), some (.int (i1)), some (.int (i2)), some (.int (i3)), some (.int ((0 : Int32)))] [] 0 0) ∧ (¬ (i3 ≤ 0) → vp_in (i3) 40 ∧ (vp_in ((i3 - (1 : Int32))) 40 ∧ ((¬ ((sR S ((49 + 3)) (Int32.toNatClampNeg (i3))) = (sR S ((49 + 3)) (Int32.toNatClampNeg ((i3 - (1 : Int32)))))) → gG d mX11_run 0 0 (g_Xj mX11_run n 0 0 (hPi P)) 51 n (hH S) [some (.ref (0)), some (.int (i1)), some (.int (i2)), some (.int (i3)), some (.int ((0 : Int32)))] [] 0 0) ∧ ((sR S ((49 + 3)) (Int32.toNatClampNeg (i3))) = (sR S ((49 + 3)) (Int32.toNatClampNeg ((i3 - (1 : Int32))))) → gG d mX11_run 0 0 (g_Xj mX11_run n 0 0 (hPi P)) 51 n (hH S) [some (.ref (0)), some (.int (i1)), some (.int (i2)), some (.int (i3)), some (.int ((1 : Int32)))] [] 0 0)))))) : gG d mX11_run 0 0 (g_Xj mX11_run n 0 0 (hPi P)) 6 n (hH S) [some (.ref (0)), some (.int (i1)), some (.int (i2)), some (.int (i3)), none] [] 0 0 := by
  refine kX11_run_6  ?_
  refine q_gc rfl rfl ?_
  refine q_gi is_49.1 rfl ?_
  refine ⟨fun c => ?_, fun c => ?_⟩
  · have h := h.1 c
    exact ⟨_, rfl, h⟩
  · have h := h.2 c
    refine ⟨fun c => ?_, fun c => ?_⟩
    · have h := h.1 c
      exact h
    · have h := h.2 c
      refine q_gc rfl rfl ?_
      refine q_gp is_49.1 rfl ?_
      obtain ⟨hv1, h⟩ := h
      refine q_al (k := Int32.toNatClampNeg (i3)) is_49.2.2.2 (by decide) hv1 rfl ?_
      refine q_gc rfl rfl ?_
      refine q_gp is_49.1 rfl ?_
      obtain ⟨hv2, h⟩ := h
      refine q_al (k := Int32.toNatClampNeg ((i3 - (1 : Int32)))) is_49.2.2.2 (by decide) hv2 rfl ?_
      refine ⟨fun c => ?_, fun c => ?_⟩
      · have h := h.1 c
        exact h
      · have h := h.2 c
        exact h
theorem zX11_run_51 {d n : Nat} {S : gS} {P : gS → Int32 → Prop} {i1 : Int32} {i2 : Int32} {i3 : Int32} {i4 : Int32}  (h : (i4 = 0 → gG d mX11_run 0 0 (g_Xj mX11_run n 0 0 (hPi P)) 64 n (hH S) [some (.ref (0)), some (.int (i1)), some (.int ((1 : Int32))), some (.int (i3)), none] [] 0 0) ∧ (¬ (i4 = 0) → gG d mX11_run 0 0 (g_Xj mX11_run n 0 0 (hPi P)) 64 n (hH S) [some (.ref (0)), some (.int (i1)), some (.int ((i2 + (1 : Int32)))), some (.int (i3)), none] [] 0 0)) : gG d mX11_run 0 0 (g_Xj mX11_run n 0 0 (hPi P)) 51 n (hH S) [some (.ref (0)), some (.int (i1)), some (.int (i2)), some (.int (i3)), some (.int (i4))] [] 0 0 := by
  refine kX11_run_51  ?_
  refine ⟨fun c => ?_, fun c => ?_⟩
  · have h := h.1 c
    exact h
  · have h := h.2 c
    exact h
theorem zX11_run_64 {d n : Nat} {S : gS} {P : gS → Int32 → Prop} {i1 : Int32} {i2 : Int32} {i3 : Int32}  (hd1 : 1 ≤ d) (h : vp_in (i3) 40 ∧ (((sR S ((49 + 3)) (Int32.toNatClampNeg (i3))) = (6 : Int32) → gG d mX11_run 0 0 (g_Xj mX11_run n 0 0 (hPi P)) 6 n (hH S) [some (.ref (0)), some (.int (i1)), some (.int (i2)), some (.int ((i3 + 1))), none] [] 0 0) ∧ (¬ ((sR S ((49 + 3)) (Int32.toNatClampNeg (i3))) = (6 : Int32)) → gG d mX11_run 0 0 (g_Xj mX11_run n 0 0 (hPi P)) 6 n (hH S) [some (.ref (0)), some (.int ((if i1 < i2 then i2 else i1))), some (.int (i2)), some (.int ((i3 + 1))), none] [] 0 0))) : gG d mX11_run 0 0 (g_Xj mX11_run n 0 0 (hPi P)) 64 n (hH S) [some (.ref (0)), some (.int (i1)), some (.int (i2)), some (.int (i3)), none] [] 0 0 := by
  refine kX11_run_64 hd1 ?_
  refine q_gc rfl rfl ?_
  refine q_gp is_49.1 rfl ?_
  obtain ⟨hv1, h⟩ := h
  refine q_al (k := Int32.toNatClampNeg (i3)) is_49.2.2.2 (by decide) hv1 rfl ?_
  refine ⟨fun c => ?_, fun c => ?_⟩
  · have h := h.1 c
    exact h
  · have h := h.2 c
    exact h

theorem zX11_stands_0 {d n : Nat} {S : gS} {P : gS → Int32 → Prop}   (h : isWd (sQ S 7) ∧ (s_ci d mX9_placeOf n S [.ref (49), .ref ((sQ S 7))] (fun S2 x3 => P S2 (x3)))) : gG d mX11_stands 0 0 (g_Xj mX11_stands n 0 0 (hPi P)) 0 n (hH S) [some (.ref (0))] [] 0 0 := by
  refine kX11_stands_0  ?_
  refine q_gc rfl rfl ?_
  obtain ⟨hq1, h⟩ := h
  refine q_gq rfl rfl ?_
  refine ⟨q_rc is_49.1, ?_⟩
  obtain ⟨d2, P2, hdd, hC, h⟩ := h
  refine ⟨d2, _, hdd, hC, fun H9 x3 hp => ?_⟩
  obtain ⟨S2, rfl, hp⟩ := hp
  have h := h S2 x3 hp
  exact ⟨_, rfl, h⟩

theorem zX11_maybe_0 {d n : Nat} {S : gS} {P : gS → Int32 → Prop}   (h : isWd (sQ S 7) ∧ ((¬ ((sI S ((sQ S 7)) 0) = 0) → isWd (sQ S 7) ∧ (s_ci d mX9_placesFor n S [.ref (49), .ref ((sQ S 7))] (fun S3 x4 => P S3 (x4)))) ∧ ((sI S ((sQ S 7)) 0) = 0 → P S ((-1 : Int32))))) : gG d mX11_maybe 0 0 (g_Xj mX11_maybe n 0 0 (hPi P)) 0 n (hH S) [some (.ref (0))] [] 0 0 := by
  refine kX11_maybe_0  ?_
  obtain ⟨hq1, h⟩ := h
  refine q_gq rfl rfl ?_
  refine q_gi hq1.1 rfl ?_
  refine ⟨fun c => ?_, fun c => ?_⟩
  · have h := h.1 c
    refine q_gc rfl rfl ?_
    obtain ⟨hq2, h⟩ := h
    refine q_gq rfl rfl ?_
    refine ⟨q_rc is_49.1, ?_⟩
    obtain ⟨d2, P2, hdd, hC, h⟩ := h
    refine ⟨d2, _, hdd, hC, fun H9 x4 hp => ?_⟩
    obtain ⟨S3, rfl, hp⟩ := hp
    have h := h S3 x4 hp
    exact ⟨_, rfl, h⟩
  · have h := h.2 c
    exact ⟨_, rfl, h⟩

theorem zX11_entire_0 {d n : Nat} {S : gS} {P : gS → Int32 → Prop}   (h : s_cv d mX9_copyFrom n S [.ref (53), .ref (49)] (fun S1 => gG d mX11_entire 0 0 (g_Xj mX11_entire n 0 0 (hPi P)) 13 n (hH S1) [some (.ref (0)), some (.int ((0 : Int32)))] [] 0 0)) : gG d mX11_entire 0 0 (g_Xj mX11_entire n 0 0 (hPi P)) 0 n (hH S) [some (.ref (0)), none] [] 0 0 := by
  refine kX11_entire_0  ?_
  refine q_gc rfl rfl ?_
  refine q_gc rfl rfl ?_
  refine ⟨q_rc is_53.1, ?_⟩
  obtain ⟨d2, P2, hdd, hC, h⟩ := h
  refine ⟨d2, _, hdd, hC, fun H9 hp => ?_⟩
  obtain ⟨S1, rfl, hp⟩ := hp
  have h := h S1 hp
  exact h
theorem zX11_entire_13 {d n : Nat} {S : gS} {P : gS → Int32 → Prop} {i1 : Int32}  (h : ((60 : Int32) < i1 → P S ((-1 : Int32))) ∧ (¬ ((60 : Int32) < i1) → isWd (sQ S 7) ∧ (s_ci d mX9_placeOf n S [.ref (53), .ref ((sQ S 7))] (fun S2 x3 => (x3 = (-1 : Int32) → s_ci d mX11_passTrialMinute n S2 [.ref (0)] (fun S4 x5 => gG d mX11_entire 0 0 (g_Xj mX11_entire n 0 0 (hPi P)) 13 n (hH S4) [some (.ref (0)), some (.int ((i1 + 1)))] [] 0 0)) ∧ (¬ (x3 = (-1 : Int32)) → P S2 (i1)))))) : gG d mX11_entire 0 0 (g_Xj mX11_entire n 0 0 (hPi P)) 13 n (hH S) [some (.ref (0)), some (.int (i1))] [] 0 0 := by
  refine kX11_entire_13  ?_
  refine ⟨fun c => ?_, fun c => ?_⟩
  · have h := h.1 c
    exact ⟨_, rfl, h⟩
  · have h := h.2 c
    refine q_gc rfl rfl ?_
    obtain ⟨hq1, h⟩ := h
    refine q_gq rfl rfl ?_
    refine ⟨q_rc is_53.1, ?_⟩
    obtain ⟨d2, P2, hdd, hC, h⟩ := h
    refine ⟨d2, _, hdd, hC, fun H9 x3 hp => ?_⟩
    obtain ⟨S2, rfl, hp⟩ := hp
    have h := h S2 x3 hp
    refine ⟨fun c => ?_, fun c => ?_⟩
    · have h := h.1 c
      refine ⟨q_rc rfl, ?_⟩
      obtain ⟨d2, P2, hdd, hC, h⟩ := h
      refine ⟨d2, _, hdd, hC, fun H9 x5 hp => ?_⟩
      obtain ⟨S4, rfl, hp⟩ := hp
      have h := h S4 x5 hp
      exact h
    · have h := h.2 c
      exact ⟨_, rfl, h⟩

theorem zX11_aim_0 {d n : Nat} {S : gS} {P : gS → Int32 → Prop} {i1 : Int32} {i2 : Int32}  (h : s_cz d mX11_isLetter n S [.ref (0), .int (i1)] (fun S1 b2 => (b2 = false → P S1 ((-2 : Int32))) ∧ (b2 = true → (i2 < 0 → P S1 ((-2 : Int32))) ∧ (¬ (i2 < 0) → (i2 ≤ (1 : Int32) → s_cz d mX11_isReadWith n S1 [.ref (0), .int (i1), .int ((-1 : Int32)), .int ((0 : Int32))] (fun S3 b4 => (b4 = false → gG d mX11_aim 0 0 (g_Xj mX11_aim n 0 0 (hPi P)) 42 n (hH S3) [some (.ref (0)), some (.int (i1)), some (.int (i2)), some (.int ((1 : Int32))), none] [] 0 0) ∧ (b4 = true → (¬ (i2 = 0) → P S3 ((-1 : Int32))) ∧ (i2 = 0 → P S3 ((0 : Int32)))))) ∧ (¬ (i2 ≤ (1 : Int32)) → P S1 ((-2 : Int32))))))) : gG d mX11_aim 0 0 (g_Xj mX11_aim n 0 0 (hPi P)) 0 n (hH S) [some (.ref (0)), some (.int (i1)), some (.int (i2)), none, none] [] 0 0 := by
  refine kX11_aim_0  ?_
  refine ⟨q_rc rfl, ?_⟩
  obtain ⟨d2, P2, hdd, hC, h⟩ := h
  refine ⟨d2, _, hdd, hC, fun H9 b2 hp => ?_⟩
  obtain ⟨S1, rfl, hp⟩ := hp
  have h := h S1 b2 hp
  refine ⟨fun c => ?_, fun c => ?_⟩
  · have h := h.1 c
    exact ⟨_, rfl, h⟩
  · have h := h.2 c
    refine ⟨fun c => ?_, fun c => ?_⟩
    · have h := h.1 c
      exact ⟨_, rfl, h⟩
    · have h := h.2 c
      refine ⟨fun c => ?_, fun c => ?_⟩
      · have h := h.1 c
        refine ⟨q_rc rfl, ?_⟩
        obtain ⟨d2, P2, hdd, hC, h⟩ := h
        refine ⟨d2, _, hdd, hC, fun H9 b4 hp => ?_⟩
        obtain ⟨S3, rfl, hp⟩ := hp
        have h := h S3 b4 hp
        refine ⟨fun c => ?_, fun c => ?_⟩
        · have h := h.1 c
          exact h
        · have h := h.2 c
          refine ⟨fun c => ?_, fun c => ?_⟩
          · have h := h.1 c
            exact ⟨_, rfl, h⟩
          · have h := h.2 c
            exact ⟨_, rfl, h⟩
      · have h := h.2 c
        exact ⟨_, rfl, h⟩
theorem zX11_aim_42 {d n : Nat} {S : gS} {P : gS → Int32 → Prop} {i1 : Int32} {i2 : Int32} {i3 : Int32}  (h : ((20 : Int32) < i3 → P S ((-2 : Int32))) ∧ (¬ ((20 : Int32) < i3) → gG d mX11_aim 0 0 (g_Xj mX11_aim n 0 0 (hPi P)) 51 n (hH S) [some (.ref (0)), some (.int (i1)), some (.int (i2)), some (.int (i3)), some (.int ((0 : Int32)))] [] 0 0)) : gG d mX11_aim 0 0 (g_Xj mX11_aim n 0 0 (hPi P)) 42 n (hH S) [some (.ref (0)), some (.int (i1)), some (.int (i2)), some (.int (i3)), none] [] 0 0 := by
  refine kX11_aim_42  ?_
  refine ⟨fun c => ?_, fun c => ?_⟩
  · have h := h.1 c
    exact ⟨_, rfl, h⟩
  · have h := h.2 c
    exact h
theorem zX11_aim_51 {d n : Nat} {S : gS} {P : gS → Int32 → Prop} {i1 : Int32} {i2 : Int32} {i3 : Int32} {i4 : Int32}  (h : isF (sQ S 3) ∧ (((sI S ((sQ S 3)) 0) ≤ i4 → gG d mX11_aim 0 0 (g_Xj mX11_aim n 0 0 (hPi P)) 42 n (hH S) [some (.ref (0)), some (.int (i1)), some (.int (i2)), some (.int ((i3 + 1))), none] [] 0 0) ∧ (¬ ((sI S ((sQ S 3)) 0) ≤ i4) → s_cz d mX11_isReadWith n S [.ref (0), .int (i1), .int (i4), .int (i3)] (fun S2 b3 => (b3 = false → gG d mX11_aim 0 0 (g_Xj mX11_aim n 0 0 (hPi P)) 51 n (hH S2) [some (.ref (0)), some (.int (i1)), some (.int (i2)), some (.int (i3)), some (.int ((i4 + 1)))] [] 0 0) ∧ (b3 = true → (¬ (i2 = 0) → P S2 (i4)) ∧ (i2 = 0 → P S2 (i3))))))) : gG d mX11_aim 0 0 (g_Xj mX11_aim n 0 0 (hPi P)) 51 n (hH S) [some (.ref (0)), some (.int (i1)), some (.int (i2)), some (.int (i3)), some (.int (i4))] [] 0 0 := by
  refine kX11_aim_51  ?_
  obtain ⟨hq1, h⟩ := h
  refine q_gq rfl rfl ?_
  refine q_gi hq1.1 rfl ?_
  refine ⟨fun c => ?_, fun c => ?_⟩
  · have h := h.1 c
    exact h
  · have h := h.2 c
    refine ⟨q_rc rfl, ?_⟩
    obtain ⟨d2, P2, hdd, hC, h⟩ := h
    refine ⟨d2, _, hdd, hC, fun H9 b3 hp => ?_⟩
    obtain ⟨S2, rfl, hp⟩ := hp
    have h := h S2 b3 hp
    refine ⟨fun c => ?_, fun c => ?_⟩
    · have h := h.1 c
      exact h
    · have h := h.2 c
      refine ⟨fun c => ?_, fun c => ?_⟩
      · have h := h.1 c
        exact ⟨_, rfl, h⟩
      · have h := h.2 c
        exact ⟨_, rfl, h⟩

theorem zX11_hush_0 {d n : Nat} {S : gS} {P : gS → Int32 → Prop} {i1 : Int32}  (h : s_cz d mX11_isLetter n S [.ref (0), .int (i1)] (fun S1 b2 => (b2 = true → isF (sQ S1 3) ∧ (gG d mX11_hush 0 0 (g_Xj mX11_hush n 0 0 (hPi P)) 29 n (hH S1) [some (.ref (0)), some (.int (i1)), some (.int ((-1 : Int32))), some (.int ((8 : Int32))), some (.int (((1 : Int32) <<< ((sI S1 ((sQ S1 3)) 0) &&& 31)))), some (.int ((0 : Int32)))] [] 0 0)) ∧ (b2 = false → P S1 ((-1 : Int32))))) : gG d mX11_hush 0 0 (g_Xj mX11_hush n 0 0 (hPi P)) 0 n (hH S) [some (.ref (0)), some (.int (i1)), none, none, none, none] [] 0 0 := by
  refine kX11_hush_0  ?_
  refine ⟨q_rc rfl, ?_⟩
  obtain ⟨d2, P2, hdd, hC, h⟩ := h
  refine ⟨d2, _, hdd, hC, fun H9 b2 hp => ?_⟩
  obtain ⟨S1, rfl, hp⟩ := hp
  have h := h S1 b2 hp
  refine ⟨fun c => ?_, fun c => ?_⟩
  · have h := h.1 c
    obtain ⟨hq3, h⟩ := h
    refine q_gq rfl rfl ?_
    refine q_gi hq3.1 rfl ?_
    exact h
  · have h := h.2 c
    exact ⟨_, rfl, h⟩
theorem zX11_hush_29 {d n : Nat} {S : gS} {P : gS → Int32 → Prop} {i1 : Int32} {i2 : Int32} {i3 : Int32} {i4 : Int32} {i5 : Int32}  (h : (i4 ≤ i5 → P S (i2)) ∧ (¬ (i4 ≤ i5) → s_ci d mJ6_bitCount_0f7a4 n S [.int (i5)] (fun S1 x2 => (i3 ≤ x2 → gG d mX11_hush 0 0 (g_Xj mX11_hush n 0 0 (hPi P)) 29 n (hH S1) [some (.ref (0)), some (.int (i1)), some (.int (i2)), some (.int (i3)), some (.int (i4)), some (.int ((i5 + 1)))] [] 0 0) ∧ (¬ (i3 ≤ x2) → s_cz d mX11_isReadTurned n S1 [.ref (0), .int (i1), .int (i5)] (fun S3 b4 => (b4 = false → gG d mX11_hush 0 0 (g_Xj mX11_hush n 0 0 (hPi P)) 29 n (hH S3) [some (.ref (0)), some (.int (i1)), some (.int (i2)), some (.int (i3)), some (.int (i4)), some (.int ((i5 + 1)))] [] 0 0) ∧ (b4 = true → s_ci d mJ6_bitCount_0f7a4 n S3 [.int (i5)] (fun S5 x6 => gG d mX11_hush 0 0 (g_Xj mX11_hush n 0 0 (hPi P)) 29 n (hH S5) [some (.ref (0)), some (.int (i1)), some (.int (i5)), some (.int (x6)), some (.int (i4)), some (.int ((i5 + 1)))] [] 0 0))))))) : gG d mX11_hush 0 0 (g_Xj mX11_hush n 0 0 (hPi P)) 29 n (hH S) [some (.ref (0)), some (.int (i1)), some (.int (i2)), some (.int (i3)), some (.int (i4)), some (.int (i5))] [] 0 0 := by
  refine kX11_hush_29  ?_
  refine ⟨fun c => ?_, fun c => ?_⟩
  · have h := h.1 c
    exact ⟨_, rfl, h⟩
  · have h := h.2 c
    obtain ⟨d2, P2, hdd, hC, h⟩ := h
    refine ⟨d2, _, hdd, hC, fun H9 x2 hp => ?_⟩
    obtain ⟨S1, rfl, hp⟩ := hp
    have h := h S1 x2 hp
    refine ⟨fun c => ?_, fun c => ?_⟩
    · have h := h.1 c
      exact h
    · have h := h.2 c
      refine ⟨q_rc rfl, ?_⟩
      obtain ⟨d2, P2, hdd, hC, h⟩ := h
      refine ⟨d2, _, hdd, hC, fun H9 b4 hp => ?_⟩
      obtain ⟨S3, rfl, hp⟩ := hp
      have h := h S3 b4 hp
      refine ⟨fun c => ?_, fun c => ?_⟩
      · have h := h.1 c
        exact h
      · have h := h.2 c
        obtain ⟨d2, P2, hdd, hC, h⟩ := h
        refine ⟨d2, _, hdd, hC, fun H9 x6 hp => ?_⟩
        obtain ⟨S5, rfl, hp⟩ := hp
        have h := h S5 x6 hp
        exact h

theorem zX11_see_0 {d n : Nat} {S : gS} {P : gS → Bool → Prop} {i1 : Int32} {i2 : Int32}  (h : s_cz d mX11_isMouth n S [.ref (0), .int (i1)] (fun S1 b2 => (b2 = false → P S1 false) ∧ (b2 = true → s_cz d mX7_add n S1 [.ref (46), .int (i1), .int (i2)] (fun S3 b4 => (b4 = false → P S3 false) ∧ (b4 = true → P S3 true))))) : gG d mX11_see 0 0 (g_Xz mX11_see n 0 0 (hPz P)) 0 n (hH S) [some (.ref (0)), some (.int (i1)), some (.int (i2))] [] 0 0 := by
  refine kX11_see_0  ?_
  refine ⟨q_rc rfl, ?_⟩
  obtain ⟨d2, P2, hdd, hC, h⟩ := h
  refine ⟨d2, _, hdd, hC, fun H9 b2 hp => ?_⟩
  obtain ⟨S1, rfl, hp⟩ := hp
  have h := h S1 b2 hp
  refine ⟨fun c => ?_, fun c => ?_⟩
  · have h := h.1 c
    exact ⟨_, rfl, h⟩
  · have h := h.2 c
    refine q_gc rfl rfl ?_
    refine ⟨q_rc is_46.1, ?_⟩
    obtain ⟨d2, P2, hdd, hC, h⟩ := h
    refine ⟨d2, _, hdd, hC, fun H9 b4 hp => ?_⟩
    obtain ⟨S3, rfl, hp⟩ := hp
    have h := h S3 b4 hp
    refine ⟨fun c => ?_, fun c => ?_⟩
    · have h := h.1 c
      exact ⟨_, rfl, h⟩
    · have h := h.2 c
      exact ⟨_, rfl, h⟩

theorem zX11_rains_0 {d n : Nat} {S : gS} {P : gS → Int32 → Prop}   (h : gG d mX11_rains 0 0 (g_Xj mX11_rains n 0 0 (hPi P)) 4 n (hH S) [some (.ref (0)), some (.int ((0 : Int32))), some (.int ((0 : Int32)))] [] 0 0) : gG d mX11_rains 0 0 (g_Xj mX11_rains n 0 0 (hPi P)) 0 n (hH S) [some (.ref (0)), none, none] [] 0 0 := by
  refine kX11_rains_0  ?_
  exact h
theorem zX11_rains_4 {d n : Nat} {S : gS} {P : gS → Int32 → Prop} {i1 : Int32} {i2 : Int32}  (h : ((10 : Int32) ≤ i2 → P S (i1)) ∧ (¬ ((10 : Int32) ≤ i2) → s_ci d mX11_soundingIn n S [.ref (0), .int (i2)] (fun S1 x2 => s_cz d mX7_agreesWith n S1 [.ref (46), .int (x2)] (fun S3 b4 => (b4 = false → gG d mX11_rains 0 0 (g_Xj mX11_rains n 0 0 (hPi P)) 4 n (hH S3) [some (.ref (0)), some (.int (i1)), some (.int ((i2 + 1)))] [] 0 0) ∧ (b4 = true → gG d mX11_rains 0 0 (g_Xj mX11_rains n 0 0 (hPi P)) 4 n (hH S3) [some (.ref (0)), some (.int ((i1 ||| ((1 : Int32) <<< (i2 &&& 31))))), some (.int ((i2 + 1)))] [] 0 0))))) : gG d mX11_rains 0 0 (g_Xj mX11_rains n 0 0 (hPi P)) 4 n (hH S) [some (.ref (0)), some (.int (i1)), some (.int (i2))] [] 0 0 := by
  refine kX11_rains_4  ?_
  refine ⟨fun c => ?_, fun c => ?_⟩
  · have h := h.1 c
    exact ⟨_, rfl, h⟩
  · have h := h.2 c
    refine q_gc rfl rfl ?_
    refine ⟨q_rc rfl, ?_⟩
    obtain ⟨d2, P2, hdd, hC, h⟩ := h
    refine ⟨d2, _, hdd, hC, fun H9 x2 hp => ?_⟩
    obtain ⟨S1, rfl, hp⟩ := hp
    have h := h S1 x2 hp
    refine ⟨q_rc is_46.1, ?_⟩
    obtain ⟨d2, P2, hdd, hC, h⟩ := h
    refine ⟨d2, _, hdd, hC, fun H9 b4 hp => ?_⟩
    obtain ⟨S3, rfl, hp⟩ := hp
    have h := h S3 b4 hp
    refine ⟨fun c => ?_, fun c => ?_⟩
    · have h := h.1 c
      exact h
    · have h := h.2 c
      exact h

theorem zX11_look_0 {d n : Nat} {S : gS} {P : gS → Int32 → Prop}   (h : s_cv d mX11_emptyRow n S [.ref (0)] (fun S1 => gG d mX11_look 0 0 (g_Xj mX11_look n 0 0 (hPi P)) 8 n (hH S1) [some (.ref (0)), some (.int ((0 : Int32))), some (.int ((0 : Int32))), none, none, none] [] 0 0)) : gG d mX11_look 0 0 (g_Xj mX11_look n 0 0 (hPi P)) 0 n (hH S) [some (.ref (0)), none, none, none, none, none] [] 0 0 := by
  refine kX11_look_0  ?_
  refine ⟨q_rc rfl, ?_⟩
  obtain ⟨d2, P2, hdd, hC, h⟩ := h
  refine ⟨d2, _, hdd, hC, fun H9 hp => ?_⟩
  obtain ⟨S1, rfl, hp⟩ := hp
  have h := h S1 hp
  exact h
theorem zX11_look_8 {d n : Nat} {S : gS} {P : gS → Int32 → Prop} {i1 : Int32} {i2 : Int32}  (h : ((10 : Int32) ≤ i2 → gG d mX11_look 0 0 (g_Xj mX11_look n 0 0 (hPi P)) 52 n (hH S) [some (.ref (0)), some (.int (i1)), some (.int ((-1 : Int32))), some (.int (i1)), some (.int ((0 : Int32))), none] [] 0 0) ∧ (¬ ((10 : Int32) ≤ i2) → s_ci d mX11_soundingIn n S [.ref (0), .int (i2)] (fun S1 x2 => s_cz d mX7_agreesWith n S1 [.ref (46), .int (x2)] (fun S3 b4 => (b4 = false → gG d mX11_look 0 0 (g_Xj mX11_look n 0 0 (hPi P)) 8 n (hH S3) [some (.ref (0)), some (.int (i1)), some (.int ((i2 + 1))), none, none, none] [] 0 0) ∧ (b4 = true → s_cv d mX11_addBitsToRow n S3 [.ref (0), .int (x2)] (fun S5 => gG d mX11_look 0 0 (g_Xj mX11_look n 0 0 (hPi P)) 8 n (hH S5) [some (.ref (0)), some (.int ((i1 + 1))), some (.int ((i2 + 1))), none, none, none] [] 0 0)))))) : gG d mX11_look 0 0 (g_Xj mX11_look n 0 0 (hPi P)) 8 n (hH S) [some (.ref (0)), some (.int (i1)), some (.int (i2)), none, none, none] [] 0 0 := by
  refine kX11_look_8  ?_
  refine ⟨fun c => ?_, fun c => ?_⟩
  · have h := h.1 c
    exact h
  · have h := h.2 c
    refine ⟨q_rc rfl, ?_⟩
    obtain ⟨d2, P2, hdd, hC, h⟩ := h
    refine ⟨d2, _, hdd, hC, fun H9 x2 hp => ?_⟩
    obtain ⟨S1, rfl, hp⟩ := hp
    have h := h S1 x2 hp
    refine q_gc rfl rfl ?_
    refine ⟨q_rc is_46.1, ?_⟩
    obtain ⟨d2, P2, hdd, hC, h⟩ := h
    refine ⟨d2, _, hdd, hC, fun H9 b4 hp => ?_⟩
    obtain ⟨S3, rfl, hp⟩ := hp
    have h := h S3 b4 hp
    refine ⟨fun c => ?_, fun c => ?_⟩
    · have h := h.1 c
      exact h
    · have h := h.2 c
      refine ⟨q_rc rfl, ?_⟩
      obtain ⟨d2, P2, hdd, hC, h⟩ := h
      refine ⟨d2, _, hdd, hC, fun H9 hp => ?_⟩
      obtain ⟨S5, rfl, hp⟩ := hp
      have h := h S5 hp
      exact h
theorem zX11_look_52 {d n : Nat} {S : gS} {P : gS → Int32 → Prop} {i1 : Int32} {i2 : Int32} {i3 : Int32} {i4 : Int32}  (hd1 : 1 ≤ d) (h : isF (sQ S 3) ∧ (((sI S ((sQ S 3)) 0) ≤ i4 → P S (i2)) ∧ (¬ ((sI S ((sQ S 3)) 0) ≤ i4) → vp_in (i4) 7 ∧ (((i3 ≤ (if (sR S (179) (Int32.toNatClampNeg (i4))) < (i1 - (sR S (179) (Int32.toNatClampNeg (i4)))) then (i1 - (sR S (179) (Int32.toNatClampNeg (i4)))) else (sR S (179) (Int32.toNatClampNeg (i4)))) → gG d mX11_look 0 0 (g_Xj mX11_look n 0 0 (hPi P)) 52 n (hH S) [some (.ref (0)), some (.int (i1)), some (.int (i2)), some (.int (i3)), some (.int ((i4 + 1))), none] [] 0 0) ∧ (¬ (i3 ≤ (if (sR S (179) (Int32.toNatClampNeg (i4))) < (i1 - (sR S (179) (Int32.toNatClampNeg (i4)))) then (i1 - (sR S (179) (Int32.toNatClampNeg (i4)))) else (sR S (179) (Int32.toNatClampNeg (i4))))) → gG d mX11_look 0 0 (g_Xj mX11_look n 0 0 (hPi P)) 52 n (hH S) [some (.ref (0)), some (.int (i1)), some (.int (i4)), some (.int ((if (sR S (179) (Int32.toNatClampNeg (i4))) < (i1 - (sR S (179) (Int32.toNatClampNeg (i4)))) then (i1 - (sR S (179) (Int32.toNatClampNeg (i4)))) else (sR S (179) (Int32.toNatClampNeg (i4)))))), some (.int ((i4 + 1))), none] [] 0 0)))))) : gG d mX11_look 0 0 (g_Xj mX11_look n 0 0 (hPi P)) 52 n (hH S) [some (.ref (0)), some (.int (i1)), some (.int (i2)), some (.int (i3)), some (.int (i4)), none] [] 0 0 := by
  refine kX11_look_52 hd1 ?_
  obtain ⟨hq1, h⟩ := h
  refine q_gq rfl rfl ?_
  refine q_gi hq1.1 rfl ?_
  refine ⟨fun c => ?_, fun c => ?_⟩
  · have h := h.1 c
    exact ⟨_, rfl, h⟩
  · have h := h.2 c
    refine q_gc rfl rfl ?_
    obtain ⟨hv2, h⟩ := h
    refine q_al (k := Int32.toNatClampNeg (i4)) rfl (by decide) hv2 rfl ?_
    refine q_gc rfl rfl ?_
    refine q_al (k := Int32.toNatClampNeg (i4)) rfl (by decide) hv2 rfl ?_
    refine ⟨fun c => ?_, fun c => ?_⟩
    · have h := h.1 c
      exact h
    · have h := h.2 c
      exact h

theorem zX11_chance_0 {d n : Nat} {S : gS} {P : gS → Int32 → Prop} {i1 : Int32} {i2 : Int32} {i3 : Int32}  (h : (i2 < (1 : Int32) → gG d mX11_chance 0 0 (g_Xj mX11_chance n 0 0 (hPi P)) 18 n (hH S) [some (.ref (0)), some (.int (i1)), some (.int (i2)), some (.int (i3)), some (.int ((0 : Int32))), none, none, none, none] [] 0 0) ∧ (¬ (i2 < (1 : Int32)) → ((6 : Int32) < i2 → gG d mX11_chance 0 0 (g_Xj mX11_chance n 0 0 (hPi P)) 18 n (hH S) [some (.ref (0)), some (.int (i1)), some (.int (i2)), some (.int (i3)), some (.int ((0 : Int32))), none, none, none, none] [] 0 0) ∧ (¬ ((6 : Int32) < i2) → gG d mX11_chance 0 0 (g_Xj mX11_chance n 0 0 (hPi P)) 18 n (hH S) [some (.ref (0)), some (.int (i1)), some (.int (i2)), some (.int (i3)), some (.int ((1 : Int32))), none, none, none, none] [] 0 0))) : gG d mX11_chance 0 0 (g_Xj mX11_chance n 0 0 (hPi P)) 0 n (hH S) [some (.ref (0)), some (.int (i1)), some (.int (i2)), some (.int (i3)), none, none, none, none, none] [] 0 0 := by
  refine kX11_chance_0  ?_
  refine ⟨fun c => ?_, fun c => ?_⟩
  · have h := h.1 c
    exact h
  · have h := h.2 c
    refine ⟨fun c => ?_, fun c => ?_⟩
    · have h := h.1 c
      exact h
    · have h := h.2 c
      exact h
theorem zX11_chance_18 {d n : Nat} {S : gS} {P : gS → Int32 → Prop} {i1 : Int32} {i2 : Int32} {i3 : Int32} {i4 : Int32}  (h : s_cz d mX11_isLetter n S [.ref (0), .int (i1)] (fun S1 b2 => (b2 = false → P S1 ((-1 : Int32))) ∧ (b2 = true → (i4 = 0 → P S1 ((-1 : Int32))) ∧ (¬ (i4 = 0) → (i3 < 0 → P S1 ((-1 : Int32))) ∧ (¬ (i3 < 0) → (i3 ≤ (10 : Int32) → gG d mX11_chance 0 0 (g_Xj mX11_chance n 0 0 (hPi P)) 54 n (hH S1) [some (.ref (0)), some (.int (i1)), some (.int (i2)), some (.int (i3)), none, some (.int ((0 : Int32))), some (.int (((1 : Int32) <<< (i2 &&& 31)))), some (.int ((0 : Int32))), none] [] 0 0) ∧ (¬ (i3 ≤ (10 : Int32)) → P S1 ((-1 : Int32)))))))) : gG d mX11_chance 0 0 (g_Xj mX11_chance n 0 0 (hPi P)) 18 n (hH S) [some (.ref (0)), some (.int (i1)), some (.int (i2)), some (.int (i3)), some (.int (i4)), none, none, none, none] [] 0 0 := by
  refine kX11_chance_18  ?_
  refine ⟨q_rc rfl, ?_⟩
  obtain ⟨d2, P2, hdd, hC, h⟩ := h
  refine ⟨d2, _, hdd, hC, fun H9 b2 hp => ?_⟩
  obtain ⟨S1, rfl, hp⟩ := hp
  have h := h S1 b2 hp
  refine ⟨fun c => ?_, fun c => ?_⟩
  · have h := h.1 c
    exact ⟨_, rfl, h⟩
  · have h := h.2 c
    refine ⟨fun c => ?_, fun c => ?_⟩
    · have h := h.1 c
      exact ⟨_, rfl, h⟩
    · have h := h.2 c
      refine ⟨fun c => ?_, fun c => ?_⟩
      · have h := h.1 c
        exact ⟨_, rfl, h⟩
      · have h := h.2 c
        refine ⟨fun c => ?_, fun c => ?_⟩
        · have h := h.1 c
          exact h
        · have h := h.2 c
          exact ⟨_, rfl, h⟩
theorem zX11_chance_54 {d n : Nat} {S : gS} {P : gS → Int32 → Prop} {i1 : Int32} {i2 : Int32} {i3 : Int32} {i5 : Int32} {i6 : Int32} {i7 : Int32}  (h : (i6 ≤ i7 → gG d mX11_chance 0 0 (g_Xj mX11_chance n 0 0 (hPi P)) 102 n (hH S) [none, none, none, none, none, some (.int (i5)), none, some (.int (i2)), none] [] 0 0) ∧ (¬ (i6 ≤ i7) → s_ci d mX11_weightOf n S [.int (i7), .int (i2), .int (i3)] (fun S1 x2 => (x2 ≤ 0 → gG d mX11_chance 0 0 (g_Xj mX11_chance n 0 0 (hPi P)) 54 n (hH S1) [some (.ref (0)), some (.int (i1)), some (.int (i2)), some (.int (i3)), none, some (.int (i5)), some (.int (i6)), some (.int ((i7 + 1))), none] [] 0 0) ∧ (¬ (x2 ≤ 0) → s_cz d mX11_isReadInOddRain n S1 [.ref (0), .int (i1), .int (i7), .int (i2)] (fun S3 b4 => (b4 = false → gG d mX11_chance 0 0 (g_Xj mX11_chance n 0 0 (hPi P)) 54 n (hH S3) [some (.ref (0)), some (.int (i1)), some (.int (i2)), some (.int (i3)), none, some (.int (i5)), some (.int (i6)), some (.int ((i7 + 1))), none] [] 0 0) ∧ (b4 = true → gG d mX11_chance 0 0 (g_Xj mX11_chance n 0 0 (hPi P)) 54 n (hH S3) [some (.ref (0)), some (.int (i1)), some (.int (i2)), some (.int (i3)), none, some (.int ((i5 + x2))), some (.int (i6)), some (.int ((i7 + 1))), none] [] 0 0)))))) : gG d mX11_chance 0 0 (g_Xj mX11_chance n 0 0 (hPi P)) 54 n (hH S) [some (.ref (0)), some (.int (i1)), some (.int (i2)), some (.int (i3)), none, some (.int (i5)), some (.int (i6)), some (.int (i7)), none] [] 0 0 := by
  refine kX11_chance_54  ?_
  refine ⟨fun c => ?_, fun c => ?_⟩
  · have h := h.1 c
    exact h
  · have h := h.2 c
    obtain ⟨d2, P2, hdd, hC, h⟩ := h
    refine ⟨d2, _, hdd, hC, fun H9 x2 hp => ?_⟩
    obtain ⟨S1, rfl, hp⟩ := hp
    have h := h S1 x2 hp
    refine ⟨fun c => ?_, fun c => ?_⟩
    · have h := h.1 c
      exact h
    · have h := h.2 c
      refine ⟨q_rc rfl, ?_⟩
      obtain ⟨d2, P2, hdd, hC, h⟩ := h
      refine ⟨d2, _, hdd, hC, fun H9 b4 hp => ?_⟩
      obtain ⟨S3, rfl, hp⟩ := hp
      have h := h S3 b4 hp
      refine ⟨fun c => ?_, fun c => ?_⟩
      · have h := h.1 c
        exact h
      · have h := h.2 c
        exact h
theorem zX11_chance_102 {d n : Nat} {S : gS} {P : gS → Int32 → Prop} {i5 : Int32} {i7 : Int32}  (h : ((6 : Int32) ≤ i7 → P S (i5)) ∧ (¬ ((6 : Int32) ≤ i7) → gG d mX11_chance 0 0 (g_Xj mX11_chance n 0 0 (hPi P)) 102 n (hH S) [none, none, none, none, none, some (.int ((i5 * (10 : Int32)))), none, some (.int ((i7 + 1))), none] [] 0 0)) : gG d mX11_chance 0 0 (g_Xj mX11_chance n 0 0 (hPi P)) 102 n (hH S) [none, none, none, none, none, some (.int (i5)), none, some (.int (i7)), none] [] 0 0 := by
  refine kX11_chance_102  ?_
  refine ⟨fun c => ?_, fun c => ?_⟩
  · have h := h.1 c
    exact ⟨_, rfl, h⟩
  · have h := h.2 c
    exact h

theorem zX11_days_0 {d n : Nat} {S : gS} {P : gS → Int32 → Prop} {i1 : Int32} {i2 : Int32} {i3 : Int32}  (h : (i1 < 0 → gG d mX11_days 0 0 (g_Xj mX11_days n 0 0 (hPi P)) 18 n (hH S) [some (.ref (0)), some (.int (i1)), some (.int (i2)), some (.int (i3)), some (.int ((0 : Int32))), none, none, none, none] [] 0 0) ∧ (¬ (i1 < 0) → ((9999 : Int32) < i1 → gG d mX11_days 0 0 (g_Xj mX11_days n 0 0 (hPi P)) 18 n (hH S) [some (.ref (0)), some (.int (i1)), some (.int (i2)), some (.int (i3)), some (.int ((0 : Int32))), none, none, none, none] [] 0 0) ∧ (¬ ((9999 : Int32) < i1) → gG d mX11_days 0 0 (g_Xj mX11_days n 0 0 (hPi P)) 18 n (hH S) [some (.ref (0)), some (.int (i1)), some (.int (i2)), some (.int (i3)), some (.int ((1 : Int32))), none, none, none, none] [] 0 0))) : gG d mX11_days 0 0 (g_Xj mX11_days n 0 0 (hPi P)) 0 n (hH S) [some (.ref (0)), some (.int (i1)), some (.int (i2)), some (.int (i3)), none, none, none, none, none] [] 0 0 := by
  refine kX11_days_0  ?_
  refine ⟨fun c => ?_, fun c => ?_⟩
  · have h := h.1 c
    exact h
  · have h := h.2 c
    refine ⟨fun c => ?_, fun c => ?_⟩
    · have h := h.1 c
      exact h
    · have h := h.2 c
      exact h
theorem zX11_days_18 {d n : Nat} {S : gS} {P : gS → Int32 → Prop} {i1 : Int32} {i2 : Int32} {i3 : Int32} {i4 : Int32}  (h : (i4 = 0 → P S ((-1 : Int32))) ∧ (¬ (i4 = 0) → (i2 < (1 : Int32) → P S ((-1 : Int32))) ∧ (¬ (i2 < (1 : Int32)) → ((99 : Int32) < i2 → P S ((-1 : Int32))) ∧ (¬ ((99 : Int32) < i2) → (i3 < 0 → P S ((-1 : Int32))) ∧ (¬ (i3 < 0) → (i3 ≤ (2 : Int32) → ∀ S1, S1 = uJ S (0) 17 ((Int32.toInt64 (i1))) → s_cv d mX9_copyFrom n S1 [.ref (53), .ref (49)] (fun S2 => gG d mX11_days 0 0 (g_Xj mX11_days n 0 0 (hPi P)) 71 n (hH S2) [some (.ref (0)), none, some (.int (i2)), some (.int (i3)), none, some (.int ((0 : Int32))), some (.int ((0 : Int32))), some (.int ((0 : Int32))), none] [] 0 0)) ∧ (¬ (i3 ≤ (2 : Int32)) → P S ((-1 : Int32)))))))) : gG d mX11_days 0 0 (g_Xj mX11_days n 0 0 (hPi P)) 18 n (hH S) [some (.ref (0)), some (.int (i1)), some (.int (i2)), some (.int (i3)), some (.int (i4)), none, none, none, none] [] 0 0 := by
  refine kX11_days_18  ?_
  refine ⟨fun c => ?_, fun c => ?_⟩
  · have h := h.1 c
    exact ⟨_, rfl, h⟩
  · have h := h.2 c
    refine ⟨fun c => ?_, fun c => ?_⟩
    · have h := h.1 c
      exact ⟨_, rfl, h⟩
    · have h := h.2 c
      refine ⟨fun c => ?_, fun c => ?_⟩
      · have h := h.1 c
        exact ⟨_, rfl, h⟩
      · have h := h.2 c
        refine ⟨fun c => ?_, fun c => ?_⟩
        · have h := h.1 c
          exact ⟨_, rfl, h⟩
        · have h := h.2 c
          refine ⟨fun c => ?_, fun c => ?_⟩
          · have h := h.1 c
            refine q_pl rfl rfl ?_
            obtain ⟨S1, eS⟩ : ∃ z, z = uJ S (0) 17 ((Int32.toInt64 (i1))) := ⟨_, rfl⟩
            rw [← eS]
            have h := h S1 eS
            refine q_gc rfl rfl ?_
            refine q_gc rfl rfl ?_
            refine ⟨q_rc is_53.1, ?_⟩
            obtain ⟨d2, P2, hdd, hC, h⟩ := h
            refine ⟨d2, _, hdd, hC, fun H9 hp => ?_⟩
            obtain ⟨S2, rfl, hp⟩ := hp
            have h := h S2 hp
            exact h
          · have h := h.2 c
            exact ⟨_, rfl, h⟩
theorem zX11_days_71 {d n : Nat} {S : gS} {P : gS → Int32 → Prop} {i2 : Int32} {i3 : Int32} {i5 : Int32} {i6 : Int32} {i7 : Int32}  (h : (i2 ≤ i7 → (¬ (i3 = (2 : Int32)) → (¬ (i3 = 0) → P S (i6)) ∧ (i3 = 0 → P S (i5))) ∧ (i3 = (2 : Int32) → isF (sQ S 3) ∧ (s_ci d mX9_allWater n S [.ref (53), .int ((sI S ((sQ S 3)) 0))] (fun S2 x3 => P S2 (x3))))) ∧ (¬ (i2 ≤ i7) → s_cv d mX11_doDrawn n S [.ref (0)] (fun S4 => s_ci d mX11_passTrialMinute n S4 [.ref (0)] (fun S5 x6 => (¬ (x6 = (6 : Int32)) → (x6 = (-1 : Int32) → gG d mX11_days 0 0 (g_Xj mX11_days n 0 0 (hPi P)) 71 n (hH S5) [some (.ref (0)), none, some (.int (i2)), some (.int (i3)), none, some (.int (i5)), some (.int (i6)), some (.int ((i7 + 1))), none] [] 0 0) ∧ (¬ (x6 = (-1 : Int32)) → gG d mX11_days 0 0 (g_Xj mX11_days n 0 0 (hPi P)) 71 n (hH S5) [some (.ref (0)), none, some (.int (i2)), some (.int (i3)), none, some (.int ((i5 + 1))), some (.int (i6)), some (.int ((i7 + 1))), none] [] 0 0)) ∧ (x6 = (6 : Int32) → gG d mX11_days 0 0 (g_Xj mX11_days n 0 0 (hPi P)) 71 n (hH S5) [some (.ref (0)), none, some (.int (i2)), some (.int (i3)), none, some (.int (i5)), some (.int ((i6 + 1))), some (.int ((i7 + 1))), none] [] 0 0))))) : gG d mX11_days 0 0 (g_Xj mX11_days n 0 0 (hPi P)) 71 n (hH S) [some (.ref (0)), none, some (.int (i2)), some (.int (i3)), none, some (.int (i5)), some (.int (i6)), some (.int (i7)), none] [] 0 0 := by
  refine kX11_days_71  ?_
  refine ⟨fun c => ?_, fun c => ?_⟩
  · have h := h.1 c
    refine ⟨fun c => ?_, fun c => ?_⟩
    · have h := h.1 c
      refine ⟨fun c => ?_, fun c => ?_⟩
      · have h := h.1 c
        exact ⟨_, rfl, h⟩
      · have h := h.2 c
        exact ⟨_, rfl, h⟩
    · have h := h.2 c
      refine q_gc rfl rfl ?_
      obtain ⟨hq1, h⟩ := h
      refine q_gq rfl rfl ?_
      refine q_gi hq1.1 rfl ?_
      refine ⟨q_rc is_53.1, ?_⟩
      obtain ⟨d2, P2, hdd, hC, h⟩ := h
      refine ⟨d2, _, hdd, hC, fun H9 x3 hp => ?_⟩
      obtain ⟨S2, rfl, hp⟩ := hp
      have h := h S2 x3 hp
      exact ⟨_, rfl, h⟩
  · have h := h.2 c
    refine ⟨q_rc rfl, ?_⟩
    obtain ⟨d2, P2, hdd, hC, h⟩ := h
    refine ⟨d2, _, hdd, hC, fun H9 hp => ?_⟩
    obtain ⟨S4, rfl, hp⟩ := hp
    have h := h S4 hp
    refine ⟨q_rc rfl, ?_⟩
    obtain ⟨d2, P2, hdd, hC, h⟩ := h
    refine ⟨d2, _, hdd, hC, fun H9 x6 hp => ?_⟩
    obtain ⟨S5, rfl, hp⟩ := hp
    have h := h S5 x6 hp
    refine ⟨fun c => ?_, fun c => ?_⟩
    · have h := h.1 c
      refine ⟨fun c => ?_, fun c => ?_⟩
      · have h := h.1 c
        exact h
      · have h := h.2 c
        exact h
    · have h := h.2 c
      exact h

theorem zX11_mark_0 {d n : Nat} {S : gS} {P : gS → Bool → Prop} {i1 : Int32} {i2 : Int32}  (h : (i1 < 0 → P S false) ∧ (¬ (i1 < 0) → (i1 < (4 : Int32) → vp_in (i1) 4 ∧ ((¬ (i2 = 0) → (¬ ((sI S ((123 + 14 * (Int32.toNatClampNeg (i1)))) 0) = 0) → s_cv d mX9_copyFrom n S [.ref (49), .ref (((123 + 14 * (Int32.toNatClampNeg (i1))) + 1))] (fun S2 => isD (sQ S2 5) ∧ (s_cv d mX0_copyFrom n S2 [.ref ((sQ S2 5)), .ref (((123 + 14 * (Int32.toNatClampNeg (i1))) + 5))] (fun S4 => isWd (sQ S4 7) ∧ (s_cv d mX10_copyFrom n S4 [.ref ((sQ S4 7)), .ref (((123 + 14 * (Int32.toNatClampNeg (i1))) + 9))] (fun S6 => s_cv d mX7_copyFrom n S6 [.ref (46), .ref (((123 + 14 * (Int32.toNatClampNeg (i1))) + 11))] (fun S7 => ∀ S8, S8 = uI S7 (0) 14 ((0 : Int32)) → P S8 true))))))) ∧ ((sI S ((123 + 14 * (Int32.toNatClampNeg (i1)))) 0) = 0 → P S false)) ∧ (i2 = 0 → ∀ S9, S9 = uI S ((123 + 14 * (Int32.toNatClampNeg (i1)))) 0 ((g_b true)) → s_cv d mX9_copyFrom n S9 [.ref (((123 + 14 * (Int32.toNatClampNeg (i1))) + 1)), .ref (49)] (fun S10 => isD (sQ S10 5) ∧ (s_cv d mX0_copyFrom n S10 [.ref (((123 + 14 * (Int32.toNatClampNeg (i1))) + 5)), .ref ((sQ S10 5))] (fun S12 => isWd (sQ S12 7) ∧ (s_cv d mX10_copyFrom n S12 [.ref (((123 + 14 * (Int32.toNatClampNeg (i1))) + 9)), .ref ((sQ S12 7))] (fun S14 => s_cv d mX7_copyFrom n S14 [.ref (((123 + 14 * (Int32.toNatClampNeg (i1))) + 11)), .ref (46)] (fun S15 => P S15 true))))))))) ∧ (¬ (i1 < (4 : Int32)) → P S false))) : gG d mX11_mark 0 0 (g_Xz mX11_mark n 0 0 (hPz P)) 0 n (hH S) [some (.ref (0)), some (.int (i1)), some (.int (i2)), none] [] 0 0 := by
  refine kX11_mark_0  ?_
  refine ⟨fun c => ?_, fun c => ?_⟩
  · have h := h.1 c
    exact ⟨_, rfl, h⟩
  · have h := h.2 c
    refine ⟨fun c => ?_, fun c => ?_⟩
    · have h := h.1 c
      refine q_gc rfl rfl ?_
      obtain ⟨hv1, h⟩ := h
      refine q_rl rfl (by decide) hv1 (rq_marks hv1) ?_
      refine ⟨fun c => ?_, fun c => ?_⟩
      · have h := h.1 c
        refine q_gi (is_marks hv1).1 rfl ?_
        refine ⟨fun c => ?_, fun c => ?_⟩
        · have h := h.1 c
          refine q_gc rfl rfl ?_
          refine q_gp (is_marks hv1).1 rfl ?_
          refine ⟨q_rc is_49.1, ?_⟩
          obtain ⟨d2, P2, hdd, hC, h⟩ := h
          refine ⟨d2, _, hdd, hC, fun H9 hp => ?_⟩
          obtain ⟨S2, rfl, hp⟩ := hp
          have h := h S2 hp
          obtain ⟨hq3, h⟩ := h
          refine q_gq rfl rfl ?_
          refine q_gp (is_marks hv1).1 rfl ?_
          refine ⟨q_rc hq3.1, ?_⟩
          obtain ⟨d2, P2, hdd, hC, h⟩ := h
          refine ⟨d2, _, hdd, hC, fun H9 hp => ?_⟩
          obtain ⟨S4, rfl, hp⟩ := hp
          have h := h S4 hp
          obtain ⟨hq5, h⟩ := h
          refine q_gq rfl rfl ?_
          refine q_gp (is_marks hv1).1 rfl ?_
          refine ⟨q_rc hq5.1, ?_⟩
          obtain ⟨d2, P2, hdd, hC, h⟩ := h
          refine ⟨d2, _, hdd, hC, fun H9 hp => ?_⟩
          obtain ⟨S6, rfl, hp⟩ := hp
          have h := h S6 hp
          refine q_gc rfl rfl ?_
          refine q_gp (is_marks hv1).1 rfl ?_
          refine ⟨q_rc is_46.1, ?_⟩
          obtain ⟨d2, P2, hdd, hC, h⟩ := h
          refine ⟨d2, _, hdd, hC, fun H9 hp => ?_⟩
          obtain ⟨S7, rfl, hp⟩ := hp
          have h := h S7 hp
          refine q_pi rfl rfl ?_
          obtain ⟨S8, eS⟩ : ∃ z, z = uI S7 (0) 14 ((0 : Int32)) := ⟨_, rfl⟩
          rw [← eS]
          have h := h S8 eS
          exact ⟨_, rfl, h⟩
        · have h := h.2 c
          exact ⟨_, rfl, h⟩
      · have h := h.2 c
        refine q_pi (is_marks hv1).1 rfl ?_
        obtain ⟨S9, eS⟩ : ∃ z, z = uI S ((123 + 14 * (Int32.toNatClampNeg (i1)))) 0 ((g_b true)) := ⟨_, rfl⟩
        rw [← eS]
        have h := h S9 eS
        refine q_gp (is_marks hv1).1 rfl ?_
        refine q_gc rfl rfl ?_
        refine ⟨q_rc (is_marks hv1).2.1.1, ?_⟩
        obtain ⟨d2, P2, hdd, hC, h⟩ := h
        refine ⟨d2, _, hdd, hC, fun H9 hp => ?_⟩
        obtain ⟨S10, rfl, hp⟩ := hp
        have h := h S10 hp
        refine q_gp (is_marks hv1).1 rfl ?_
        obtain ⟨hq11, h⟩ := h
        refine q_gq rfl rfl ?_
        refine ⟨q_rc (is_marks hv1).2.2.1.1, ?_⟩
        obtain ⟨d2, P2, hdd, hC, h⟩ := h
        refine ⟨d2, _, hdd, hC, fun H9 hp => ?_⟩
        obtain ⟨S12, rfl, hp⟩ := hp
        have h := h S12 hp
        refine q_gp (is_marks hv1).1 rfl ?_
        obtain ⟨hq13, h⟩ := h
        refine q_gq rfl rfl ?_
        refine ⟨q_rc (is_marks hv1).2.2.2.1.1, ?_⟩
        obtain ⟨d2, P2, hdd, hC, h⟩ := h
        refine ⟨d2, _, hdd, hC, fun H9 hp => ?_⟩
        obtain ⟨S14, rfl, hp⟩ := hp
        have h := h S14 hp
        refine q_gp (is_marks hv1).1 rfl ?_
        refine q_gc rfl rfl ?_
        refine ⟨q_rc (is_marks hv1).2.2.2.2.1, ?_⟩
        obtain ⟨d2, P2, hdd, hC, h⟩ := h
        refine ⟨d2, _, hdd, hC, fun H9 hp => ?_⟩
        obtain ⟨S15, rfl, hp⟩ := hp
        have h := h S15 hp
        exact ⟨_, rfl, h⟩
    · have h := h.2 c
      exact ⟨_, rfl, h⟩

theorem zX11_count_0 {d n : Nat} {S : gS} {P : gS → Int32 → Prop} {i1 : Int32}  (h : ((i1).toInt < 0 ∨ 12 < (i1).toInt → P S ((-1 : Int32))) ∧ (i1 = 0 → isF (sQ S 3) ∧ (P S ((sI S ((sQ S 3)) 0)))) ∧ (i1 = 1 → isF (sQ S 3) ∧ (P S ((sI S ((sQ S 3)) 8)))) ∧ (i1 = 2 → P S ((sI S (49) 0))) ∧ (i1 = 3 → isF (sQ S 3) ∧ (s_ci d mX1_rainOf n S [.ref ((sQ S 3)), .int ((sI S (49) 0))] (fun S4 x5 => P S4 (x5)))) ∧ (i1 = 4 → isF (sQ S 3) ∧ (s_ci d mX9_allWater n S [.ref (49), .int ((sI S ((sQ S 3)) 0))] (fun S7 x8 => P S7 (x8)))) ∧ (i1 = 5 → P S ((sI S (49) 1))) ∧ (i1 = 6 → P S ((sI S (49) 9))) ∧ (i1 = 7 → s_ci d mX9_signsLike n S [.ref (49), .int ((6 : Int32))] (fun S9 x10 => P S9 (x10))) ∧ (i1 = 8 → isD (sQ S 5) ∧ (P S ((sI S ((sQ S 5)) 0)))) ∧ (i1 = 9 → isWd (sQ S 7) ∧ (P S ((sI S ((sQ S 7)) 0)))) ∧ (i1 = 10 → P S ((sI S (46) 0))) ∧ (i1 = 11 → P S ((sI S (0) 14))) ∧ (i1 = 12 → P S ((sI S (1) 1)))) : gG d mX11_count 0 0 (g_Xj mX11_count n 0 0 (hPi P)) 0 n (hH S) [some (.ref (0)), some (.int (i1))] [] 0 0 := by
  refine kX11_count_0  ?_
  refine ⟨fun c => ?_, fun c => ?_, fun c => ?_, fun c => ?_, fun c => ?_, fun c => ?_, fun c => ?_, fun c => ?_, fun c => ?_, fun c => ?_, fun c => ?_, fun c => ?_, fun c => ?_, fun c => ?_⟩
  · have h := h.1 c
    exact ⟨_, rfl, h⟩
  · have h := h.2.1 c
    obtain ⟨hq1, h⟩ := h
    refine q_gq rfl rfl ?_
    refine q_gi hq1.1 rfl ?_
    exact ⟨_, rfl, h⟩
  · have h := h.2.2.1 c
    obtain ⟨hq2, h⟩ := h
    refine q_gq rfl rfl ?_
    refine q_gi hq2.1 rfl ?_
    exact ⟨_, rfl, h⟩
  · have h := h.2.2.2.1 c
    refine q_gc rfl rfl ?_
    refine q_gi is_49.1 rfl ?_
    exact ⟨_, rfl, h⟩
  · have h := h.2.2.2.2.1 c
    obtain ⟨hq3, h⟩ := h
    refine q_gq rfl rfl ?_
    refine q_gc rfl rfl ?_
    refine q_gi is_49.1 rfl ?_
    refine ⟨q_rc hq3.1, ?_⟩
    obtain ⟨d2, P2, hdd, hC, h⟩ := h
    refine ⟨d2, _, hdd, hC, fun H9 x5 hp => ?_⟩
    obtain ⟨S4, rfl, hp⟩ := hp
    have h := h S4 x5 hp
    exact ⟨_, rfl, h⟩
  · have h := h.2.2.2.2.2.1 c
    refine q_gc rfl rfl ?_
    obtain ⟨hq6, h⟩ := h
    refine q_gq rfl rfl ?_
    refine q_gi hq6.1 rfl ?_
    refine ⟨q_rc is_49.1, ?_⟩
    obtain ⟨d2, P2, hdd, hC, h⟩ := h
    refine ⟨d2, _, hdd, hC, fun H9 x8 hp => ?_⟩
    obtain ⟨S7, rfl, hp⟩ := hp
    have h := h S7 x8 hp
    exact ⟨_, rfl, h⟩
  · have h := h.2.2.2.2.2.2.1 c
    refine q_gc rfl rfl ?_
    refine q_gi is_49.1 rfl ?_
    exact ⟨_, rfl, h⟩
  · have h := h.2.2.2.2.2.2.2.1 c
    refine q_gc rfl rfl ?_
    refine q_gi is_49.1 rfl ?_
    exact ⟨_, rfl, h⟩
  · have h := h.2.2.2.2.2.2.2.2.1 c
    refine q_gc rfl rfl ?_
    refine ⟨q_rc is_49.1, ?_⟩
    obtain ⟨d2, P2, hdd, hC, h⟩ := h
    refine ⟨d2, _, hdd, hC, fun H9 x10 hp => ?_⟩
    obtain ⟨S9, rfl, hp⟩ := hp
    have h := h S9 x10 hp
    exact ⟨_, rfl, h⟩
  · have h := h.2.2.2.2.2.2.2.2.2.1 c
    obtain ⟨hq11, h⟩ := h
    refine q_gq rfl rfl ?_
    refine q_gi hq11.1 rfl ?_
    exact ⟨_, rfl, h⟩
  · have h := h.2.2.2.2.2.2.2.2.2.2.1 c
    obtain ⟨hq12, h⟩ := h
    refine q_gq rfl rfl ?_
    refine q_gi hq12.1 rfl ?_
    exact ⟨_, rfl, h⟩
  · have h := h.2.2.2.2.2.2.2.2.2.2.2.1 c
    refine q_gc rfl rfl ?_
    refine q_gi is_46.1 rfl ?_
    exact ⟨_, rfl, h⟩
  · have h := h.2.2.2.2.2.2.2.2.2.2.2.2.1 c
    refine q_gi rfl rfl ?_
    exact ⟨_, rfl, h⟩
  · have h := h.2.2.2.2.2.2.2.2.2.2.2.2.2 c
    refine q_gc rfl rfl ?_
    refine q_gi rfl rfl ?_
    exact ⟨_, rfl, h⟩

theorem zX11_isMouth_0 {d n : Nat} {S : gS} {P : gS → Bool → Prop} {i1 : Int32}  (h : (i1 < 0 → P S false) ∧ (¬ (i1 < 0) → isF (sQ S 3) ∧ (((sI S ((sQ S 3)) 0) ≤ i1 → P S false) ∧ (¬ ((sI S ((sQ S 3)) 0) ≤ i1) → P S true)))) : gG d mX11_isMouth 0 0 (g_Xz mX11_isMouth n 0 0 (hPz P)) 0 n (hH S) [some (.ref (0)), some (.int (i1))] [] 0 0 := by
  refine kX11_isMouth_0  ?_
  refine ⟨fun c => ?_, fun c => ?_⟩
  · have h := h.1 c
    exact ⟨_, rfl, h⟩
  · have h := h.2 c
    obtain ⟨hq1, h⟩ := h
    refine q_gq rfl rfl ?_
    refine q_gi hq1.1 rfl ?_
    refine ⟨fun c => ?_, fun c => ?_⟩
    · have h := h.1 c
      exact ⟨_, rfl, h⟩
    · have h := h.2 c
      exact ⟨_, rfl, h⟩

theorem zX11_isLetter_0 {d n : Nat} {S : gS} {P : gS → Bool → Prop} {i1 : Int32}  (h : (i1 < 0 → P S false) ∧ (¬ (i1 < 0) → isF (sQ S 3) ∧ (((sI S ((sQ S 3)) 8) ≤ i1 → P S false) ∧ (¬ ((sI S ((sQ S 3)) 8) ≤ i1) → P S true)))) : gG d mX11_isLetter 0 0 (g_Xz mX11_isLetter n 0 0 (hPz P)) 0 n (hH S) [some (.ref (0)), some (.int (i1))] [] 0 0 := by
  refine kX11_isLetter_0  ?_
  refine ⟨fun c => ?_, fun c => ?_⟩
  · have h := h.1 c
    exact ⟨_, rfl, h⟩
  · have h := h.2 c
    obtain ⟨hq1, h⟩ := h
    refine q_gq rfl rfl ?_
    refine q_gi hq1.1 rfl ?_
    refine ⟨fun c => ?_, fun c => ?_⟩
    · have h := h.1 c
      exact ⟨_, rfl, h⟩
    · have h := h.2 c
      exact ⟨_, rfl, h⟩

theorem zX11_isAhead_0 {d n : Nat} {S : gS} {P : gS → Bool → Prop} {i0 : Int32}  (h : (i0 < (1 : Int32) → P S false) ∧ (¬ (i0 < (1 : Int32)) → ((60 : Int32) < i0 → P S false) ∧ (¬ ((60 : Int32) < i0) → P S true))) : gG d mX11_isAhead 0 0 (g_Xz mX11_isAhead n 0 0 (hPz P)) 0 n (hH S) [some (.int (i0))] [] 0 0 := by
  refine kX11_isAhead_0  ?_
  refine ⟨fun c => ?_, fun c => ?_⟩
  · have h := h.1 c
    exact ⟨_, rfl, h⟩
  · have h := h.2 c
    refine ⟨fun c => ?_, fun c => ?_⟩
    · have h := h.1 c
      exact ⟨_, rfl, h⟩
    · have h := h.2 c
      exact ⟨_, rfl, h⟩

theorem zX11_isDigit_0 {d n : Nat} {S : gS} {P : gS → Bool → Prop} {i0 : Int32}  (h : (i0 < 0 → P S false) ∧ (¬ (i0 < 0) → ((9 : Int32) < i0 → P S false) ∧ (¬ ((9 : Int32) < i0) → P S true))) : gG d mX11_isDigit 0 0 (g_Xz mX11_isDigit n 0 0 (hPz P)) 0 n (hH S) [some (.int (i0))] [] 0 0 := by
  refine kX11_isDigit_0  ?_
  refine ⟨fun c => ?_, fun c => ?_⟩
  · have h := h.1 c
    exact ⟨_, rfl, h⟩
  · have h := h.2 c
    refine ⟨fun c => ?_, fun c => ?_⟩
    · have h := h.1 c
      exact ⟨_, rfl, h⟩
    · have h := h.2 c
      exact ⟨_, rfl, h⟩

theorem zX11_beginAnew_0 {d n : Nat} {S : gS} {P : gS → Prop}   (h : isF (sQ S 3) ∧ (s_cv d mX9_begin n S [.ref (49), .ref ((sQ S 3))] (fun S2 => isD (sQ S2 5) ∧ (∀ S4, S4 = uI S2 ((sQ S2 5)) 0 ((0 : Int32)) → isWd (sQ S4 7) ∧ (∀ S6, S6 = uI S4 ((sQ S4 7)) 0 ((0 : Int32)) → ∀ S7, S7 = uI S6 (46) 0 ((0 : Int32)) → ∀ S8, S8 = uI S7 (0) 14 ((0 : Int32)) → gG d mX11_beginAnew 0 0 (g_Xv mX11_beginAnew n 0 0 (hPv P)) 42 n (hH S8) [some (.ref (0)), some (.int ((0 : Int32)))] [] 0 0))))) : gG d mX11_beginAnew 0 0 (g_Xv mX11_beginAnew n 0 0 (hPv P)) 0 n (hH S) [some (.ref (0)), none] [] 0 0 := by
  refine kX11_beginAnew_0  ?_
  refine q_gc rfl rfl ?_
  obtain ⟨hq1, h⟩ := h
  refine q_gq rfl rfl ?_
  refine ⟨q_rc is_49.1, ?_⟩
  obtain ⟨d2, P2, hdd, hC, h⟩ := h
  refine ⟨d2, _, hdd, hC, fun H9 hp => ?_⟩
  obtain ⟨S2, rfl, hp⟩ := hp
  have h := h S2 hp
  obtain ⟨hq3, h⟩ := h
  refine q_gq rfl rfl ?_
  refine q_pi hq3.1 rfl ?_
  obtain ⟨S4, eS⟩ : ∃ z, z = uI S2 ((sQ S2 5)) 0 ((0 : Int32)) := ⟨_, rfl⟩
  rw [← eS]
  have h := h S4 eS
  obtain ⟨hq5, h⟩ := h
  refine q_gq rfl rfl ?_
  refine q_pi hq5.1 rfl ?_
  obtain ⟨S6, eS⟩ : ∃ z, z = uI S4 ((sQ S4 7)) 0 ((0 : Int32)) := ⟨_, rfl⟩
  rw [← eS]
  have h := h S6 eS
  refine q_gc rfl rfl ?_
  refine q_pi is_46.1 rfl ?_
  obtain ⟨S7, eS⟩ : ∃ z, z = uI S6 (46) 0 ((0 : Int32)) := ⟨_, rfl⟩
  rw [← eS]
  have h := h S7 eS
  refine q_pi rfl rfl ?_
  obtain ⟨S8, eS⟩ : ∃ z, z = uI S7 (0) 14 ((0 : Int32)) := ⟨_, rfl⟩
  rw [← eS]
  have h := h S8 eS
  exact h
theorem zX11_beginAnew_42 {d n : Nat} {S : gS} {P : gS → Prop} {i1 : Int32}  (h : ((4 : Int32) ≤ i1 → P S) ∧ (¬ ((4 : Int32) ≤ i1) → vp_in (i1) 4 ∧ (∀ S2, S2 = uI S ((123 + 14 * (Int32.toNatClampNeg (i1)))) 0 ((g_b false)) → gG d mX11_beginAnew 0 0 (g_Xv mX11_beginAnew n 0 0 (hPv P)) 42 n (hH S2) [some (.ref (0)), some (.int ((i1 + 1)))] [] 0 0))) : gG d mX11_beginAnew 0 0 (g_Xv mX11_beginAnew n 0 0 (hPv P)) 42 n (hH S) [some (.ref (0)), some (.int (i1))] [] 0 0 := by
  refine kX11_beginAnew_42  ?_
  refine ⟨fun c => ?_, fun c => ?_⟩
  · have h := h.1 c
    exact ⟨_, rfl, h⟩
  · have h := h.2 c
    refine q_gc rfl rfl ?_
    obtain ⟨hv1, h⟩ := h
    refine q_rl rfl (by decide) hv1 (rq_marks hv1) ?_
    refine q_pi (is_marks hv1).1 rfl ?_
    obtain ⟨S2, eS⟩ : ∃ z, z = uI S ((123 + 14 * (Int32.toNatClampNeg (i1)))) 0 ((g_b false)) := ⟨_, rfl⟩
    rw [← eS]
    have h := h S2 eS
    exact h

theorem zX11_keepPast_0 {d n : Nat} {S : gS} {P : gS → Prop}   (hd1 : 1 ≤ d) (h : vp_in ((sI S (0) 13)) 16 ∧ (s_cv d mX9_copyFrom n S [.ref ((58 + 4 * (Int32.toNatClampNeg ((sI S (0) 13))))), .ref (49)] (fun S2 => ∀ S3, S3 = uI S2 (0) 13 ((((sI S2 (0) 13) + (1 : Int32)) &&& (15 : Int32))) → ∀ S4, S4 = uI S3 (0) 14 ((if (16 : Int32) < ((sI S3 (0) 14) + (1 : Int32)) then (16 : Int32) else ((sI S3 (0) 14) + (1 : Int32)))) → P S4))) : gG d mX11_keepPast 0 0 (g_Xv mX11_keepPast n 0 0 (hPv P)) 0 n (hH S) [some (.ref (0))] [] 0 0 := by
  refine kX11_keepPast_0 hd1 ?_
  refine q_gc rfl rfl ?_
  refine q_gi rfl rfl ?_
  obtain ⟨hv1, h⟩ := h
  refine q_rl rfl (by decide) hv1 (rq_past hv1) ?_
  refine q_gc rfl rfl ?_
  refine ⟨q_rc (is_past hv1).1, ?_⟩
  obtain ⟨d2, P2, hdd, hC, h⟩ := h
  refine ⟨d2, _, hdd, hC, fun H9 hp => ?_⟩
  obtain ⟨S2, rfl, hp⟩ := hp
  have h := h S2 hp
  refine q_gi rfl rfl ?_
  refine q_pi rfl rfl ?_
  obtain ⟨S3, eS⟩ : ∃ z, z = uI S2 (0) 13 ((((sI S2 (0) 13) + (1 : Int32)) &&& (15 : Int32))) := ⟨_, rfl⟩
  rw [← eS]
  have h := h S3 eS
  refine q_gi rfl rfl ?_
  refine q_pi rfl rfl ?_
  obtain ⟨S4, eS⟩ : ∃ z, z = uI S3 (0) 14 ((if (16 : Int32) < ((sI S3 (0) 14) + (1 : Int32)) then (16 : Int32) else ((sI S3 (0) 14) + (1 : Int32)))) := ⟨_, rfl⟩
  rw [← eS]
  have h := h S4 eS
  exact ⟨_, rfl, h⟩

theorem zX11_passTrialMinute_0 {d n : Nat} {S : gS} {P : gS → Int32 → Prop}   (h : isF (sQ S 3) ∧ (isF (sQ S 3) ∧ (s_ci d mX1_rainOf n S [.ref ((sQ S 3)), .int ((sI S (53) 0))] (fun S3 x4 => s_ci d mX9_passMinute n S3 [.ref (53), .ref ((sQ S 3)), .int (x4)] (fun S5 x6 => P S5 (x6)))))) : gG d mX11_passTrialMinute 0 0 (g_Xj mX11_passTrialMinute n 0 0 (hPi P)) 0 n (hH S) [some (.ref (0))] [] 0 0 := by
  refine kX11_passTrialMinute_0  ?_
  refine q_gc rfl rfl ?_
  obtain ⟨hq1, h⟩ := h
  refine q_gq rfl rfl ?_
  obtain ⟨hq2, h⟩ := h
  refine q_gq rfl rfl ?_
  refine q_gc rfl rfl ?_
  refine q_gi is_53.1 rfl ?_
  refine ⟨q_rc hq2.1, ?_⟩
  obtain ⟨d2, P2, hdd, hC, h⟩ := h
  refine ⟨d2, _, hdd, hC, fun H9 x4 hp => ?_⟩
  obtain ⟨S3, rfl, hp⟩ := hp
  have h := h S3 x4 hp
  refine ⟨q_rc is_53.1, ?_⟩
  obtain ⟨d2, P2, hdd, hC, h⟩ := h
  refine ⟨d2, _, hdd, hC, fun H9 x6 hp => ?_⟩
  obtain ⟨S5, rfl, hp⟩ := hp
  have h := h S5 x6 hp
  exact ⟨_, rfl, h⟩

theorem zX11_doLine_0 {d n : Nat} {S : gS} {P : gS → Int32 → Prop} {i1 : Int32}  (h : isD (sQ S 5) ∧ (vp_in (i1) 40 ∧ (isD (sQ S 5) ∧ (((((sR S (((sQ S 5) + 1)) (Int32.toNatClampNeg (i1)))).toInt < 0 ∨ 2 < ((sR S (((sQ S 5) + 1)) (Int32.toNatClampNeg (i1)))).toInt → s_cz d mX9_clearMouth n S [.ref (53), .int ((sR S (((sQ S 5) + 2)) (Int32.toNatClampNeg (i1))))] (fun S4 b5 => (b5 = false → P S4 ((-2 : Int32))) ∧ (b5 = true → P S4 ((-1 : Int32))))) ∧ ((sR S (((sQ S 5) + 1)) (Int32.toNatClampNeg (i1))) = 0 → s_ci d mX11_passTrialMinute n S [.ref (0)] (fun S6 x7 => P S6 (x7))) ∧ ((sR S (((sQ S 5) + 1)) (Int32.toNatClampNeg (i1))) = 1 → isD (sQ S 5) ∧ ((s_cv d mX9_addWater n S [.ref (53), .int ((sR S (((sQ S 5) + 2)) (Int32.toNatClampNeg (i1)))), .int ((sR S (((sQ S 5) + 3)) (Int32.toNatClampNeg (i1))))] (fun S9 => P S9 ((-1 : Int32)))))) ∧ ((sR S (((sQ S 5) + 1)) (Int32.toNatClampNeg (i1))) = 2 → s_cz d mX9_stopMouth n S [.ref (53), .int ((sR S (((sQ S 5) + 2)) (Int32.toNatClampNeg (i1))))] (fun S10 b11 => (b11 = false → P S10 ((-2 : Int32))) ∧ (b11 = true → P S10 ((-1 : Int32)))))))))) : gG d mX11_doLine 0 0 (g_Xj mX11_doLine n 0 0 (hPi P)) 0 n (hH S) [some (.ref (0)), some (.int (i1)), none] [] 0 0 := by
  refine kX11_doLine_0  ?_
  obtain ⟨hq1, h⟩ := h
  refine q_gq rfl rfl ?_
  refine q_gp hq1.1 rfl ?_
  obtain ⟨hv2, h⟩ := h
  refine q_al (k := Int32.toNatClampNeg (i1)) hq1.2.2.1 (by decide) hv2 rfl ?_
  obtain ⟨hq3, h⟩ := h
  refine q_gq rfl rfl ?_
  refine q_gp hq3.1 rfl ?_
  refine q_al (k := Int32.toNatClampNeg (i1)) hq3.2.1 (by decide) hv2 rfl ?_
  refine ⟨fun c => ?_, fun c => ?_, fun c => ?_, fun c => ?_⟩
  · have h := h.1 c
    refine q_gc rfl rfl ?_
    refine ⟨q_rc is_53.1, ?_⟩
    obtain ⟨d2, P2, hdd, hC, h⟩ := h
    refine ⟨d2, _, hdd, hC, fun H9 b5 hp => ?_⟩
    obtain ⟨S4, rfl, hp⟩ := hp
    have h := h S4 b5 hp
    refine ⟨fun c => ?_, fun c => ?_⟩
    · have h := h.1 c
      exact ⟨_, rfl, h⟩
    · have h := h.2 c
      exact ⟨_, rfl, h⟩
  · have h := h.2.1 c
    refine ⟨q_rc rfl, ?_⟩
    obtain ⟨d2, P2, hdd, hC, h⟩ := h
    refine ⟨d2, _, hdd, hC, fun H9 x7 hp => ?_⟩
    obtain ⟨S6, rfl, hp⟩ := hp
    have h := h S6 x7 hp
    exact ⟨_, rfl, h⟩
  · have h := h.2.2.1 c
    refine q_gc rfl rfl ?_
    obtain ⟨hq8, h⟩ := h
    refine q_gq rfl rfl ?_
    refine q_gp hq8.1 rfl ?_
    refine q_al (k := Int32.toNatClampNeg (i1)) hq8.2.2.2 (by decide) hv2 rfl ?_
    refine ⟨q_rc is_53.1, ?_⟩
    obtain ⟨d2, P2, hdd, hC, h⟩ := h
    refine ⟨d2, _, hdd, hC, fun H9 hp => ?_⟩
    obtain ⟨S9, rfl, hp⟩ := hp
    have h := h S9 hp
    exact ⟨_, rfl, h⟩
  · have h := h.2.2.2 c
    refine q_gc rfl rfl ?_
    refine ⟨q_rc is_53.1, ?_⟩
    obtain ⟨d2, P2, hdd, hC, h⟩ := h
    refine ⟨d2, _, hdd, hC, fun H9 b11 hp => ?_⟩
    obtain ⟨S10, rfl, hp⟩ := hp
    have h := h S10 b11 hp
    refine ⟨fun c => ?_, fun c => ?_⟩
    · have h := h.1 c
      exact ⟨_, rfl, h⟩
    · have h := h.2 c
      exact ⟨_, rfl, h⟩

theorem zX11_isReadWith_0 {d n : Nat} {S : gS} {P : gS → Bool → Prop} {i1 : Int32} {i2 : Int32} {i3 : Int32}  (h : s_cv d mX9_copyFrom n S [.ref (53), .ref (49)] (fun S1 => (i2 = (-1 : Int32) → s_ci d mX11_passTrialMinute n S1 [.ref (0)] (fun S2 x3 => (¬ (x3 = i1) → P S2 false) ∧ (x3 = i1 → P S2 true))) ∧ (¬ (i2 = (-1 : Int32)) → s_cv d mX9_addWater n S1 [.ref (53), .int (i2), .int (i3)] (fun S4 => s_ci d mX11_passTrialMinute n S4 [.ref (0)] (fun S5 x6 => (¬ (x6 = i1) → P S5 false) ∧ (x6 = i1 → P S5 true)))))) : gG d mX11_isReadWith 0 0 (g_Xz mX11_isReadWith n 0 0 (hPz P)) 0 n (hH S) [some (.ref (0)), some (.int (i1)), some (.int (i2)), some (.int (i3))] [] 0 0 := by
  refine kX11_isReadWith_0  ?_
  refine q_gc rfl rfl ?_
  refine q_gc rfl rfl ?_
  refine ⟨q_rc is_53.1, ?_⟩
  obtain ⟨d2, P2, hdd, hC, h⟩ := h
  refine ⟨d2, _, hdd, hC, fun H9 hp => ?_⟩
  obtain ⟨S1, rfl, hp⟩ := hp
  have h := h S1 hp
  refine ⟨fun c => ?_, fun c => ?_⟩
  · have h := h.1 c
    refine ⟨q_rc rfl, ?_⟩
    obtain ⟨d2, P2, hdd, hC, h⟩ := h
    refine ⟨d2, _, hdd, hC, fun H9 x3 hp => ?_⟩
    obtain ⟨S2, rfl, hp⟩ := hp
    have h := h S2 x3 hp
    refine ⟨fun c => ?_, fun c => ?_⟩
    · have h := h.1 c
      exact ⟨_, rfl, h⟩
    · have h := h.2 c
      exact ⟨_, rfl, h⟩
  · have h := h.2 c
    refine q_gc rfl rfl ?_
    refine ⟨q_rc is_53.1, ?_⟩
    obtain ⟨d2, P2, hdd, hC, h⟩ := h
    refine ⟨d2, _, hdd, hC, fun H9 hp => ?_⟩
    obtain ⟨S4, rfl, hp⟩ := hp
    have h := h S4 hp
    refine ⟨q_rc rfl, ?_⟩
    obtain ⟨d2, P2, hdd, hC, h⟩ := h
    refine ⟨d2, _, hdd, hC, fun H9 x6 hp => ?_⟩
    obtain ⟨S5, rfl, hp⟩ := hp
    have h := h S5 x6 hp
    refine ⟨fun c => ?_, fun c => ?_⟩
    · have h := h.1 c
      exact ⟨_, rfl, h⟩
    · have h := h.2 c
      exact ⟨_, rfl, h⟩

theorem zX11_isReadTurned_0 {d n : Nat} {S : gS} {P : gS → Bool → Prop} {i1 : Int32} {i2 : Int32}  (h : s_cv d mX9_copyFrom n S [.ref (53), .ref (49)] (fun S1 => ∀ S2, S2 = uI S1 (53) 1 (((sI S1 (53) 1) ^^^ i2)) → s_ci d mX11_passTrialMinute n S2 [.ref (0)] (fun S3 x4 => (¬ (x4 = i1) → P S3 false) ∧ (x4 = i1 → P S3 true)))) : gG d mX11_isReadTurned 0 0 (g_Xz mX11_isReadTurned n 0 0 (hPz P)) 0 n (hH S) [some (.ref (0)), some (.int (i1)), some (.int (i2))] [] 0 0 := by
  refine kX11_isReadTurned_0  ?_
  refine q_gc rfl rfl ?_
  refine q_gc rfl rfl ?_
  refine ⟨q_rc is_53.1, ?_⟩
  obtain ⟨d2, P2, hdd, hC, h⟩ := h
  refine ⟨d2, _, hdd, hC, fun H9 hp => ?_⟩
  obtain ⟨S1, rfl, hp⟩ := hp
  have h := h S1 hp
  refine q_gc rfl rfl ?_
  refine q_gi is_53.1 rfl ?_
  refine q_pi is_53.1 rfl ?_
  obtain ⟨S2, eS⟩ : ∃ z, z = uI S1 (53) 1 (((sI S1 (53) 1) ^^^ i2)) := ⟨_, rfl⟩
  rw [← eS]
  have h := h S2 eS
  refine ⟨q_rc rfl, ?_⟩
  obtain ⟨d2, P2, hdd, hC, h⟩ := h
  refine ⟨d2, _, hdd, hC, fun H9 x4 hp => ?_⟩
  obtain ⟨S3, rfl, hp⟩ := hp
  have h := h S3 x4 hp
  refine ⟨fun c => ?_, fun c => ?_⟩
  · have h := h.1 c
    exact ⟨_, rfl, h⟩
  · have h := h.2 c
    exact ⟨_, rfl, h⟩

theorem zX11_soundingIn_0 {d n : Nat} {S : gS} {P : gS → Int32 → Prop} {i1 : Int32}  (h : s_cv d mX9_copyFrom n S [.ref (53), .ref (49)] (fun S1 => isF (sQ S1 3) ∧ (s_ci d mX9_passMinute n S1 [.ref (53), .ref ((sQ S1 3)), .int (i1)] (fun S3 x4 => P S3 ((sI S3 (53) 4)))))) : gG d mX11_soundingIn 0 0 (g_Xj mX11_soundingIn n 0 0 (hPi P)) 0 n (hH S) [some (.ref (0)), some (.int (i1))] [] 0 0 := by
  refine kX11_soundingIn_0  ?_
  refine q_gc rfl rfl ?_
  refine q_gc rfl rfl ?_
  refine ⟨q_rc is_53.1, ?_⟩
  obtain ⟨d2, P2, hdd, hC, h⟩ := h
  refine ⟨d2, _, hdd, hC, fun H9 hp => ?_⟩
  obtain ⟨S1, rfl, hp⟩ := hp
  have h := h S1 hp
  refine q_gc rfl rfl ?_
  obtain ⟨hq2, h⟩ := h
  refine q_gq rfl rfl ?_
  refine ⟨q_rc is_53.1, ?_⟩
  obtain ⟨d2, P2, hdd, hC, h⟩ := h
  refine ⟨d2, _, hdd, hC, fun H9 x4 hp => ?_⟩
  obtain ⟨S3, rfl, hp⟩ := hp
  have h := h S3 x4 hp
  refine q_gc rfl rfl ?_
  refine q_gi is_53.1 rfl ?_
  exact ⟨_, rfl, h⟩

theorem zX11_isReadInOddRain_0 {d n : Nat} {S : gS} {P : gS → Bool → Prop} {i1 : Int32} {i2 : Int32} {i3 : Int32}  (h : s_cv d mX9_copyFrom n S [.ref (53), .ref (49)] (fun S1 => gG d mX11_isReadInOddRain 0 0 (g_Xz mX11_isReadInOddRain n 0 0 (hPz P)) 14 n (hH S1) [some (.ref (0)), some (.int (i1)), some (.int (i2)), some (.int (i3)), some (.int ((0 : Int32)))] [] 0 0)) : gG d mX11_isReadInOddRain 0 0 (g_Xz mX11_isReadInOddRain n 0 0 (hPz P)) 0 n (hH S) [some (.ref (0)), some (.int (i1)), some (.int (i2)), some (.int (i3)), none] [] 0 0 := by
  refine kX11_isReadInOddRain_0  ?_
  refine q_gc rfl rfl ?_
  refine q_gc rfl rfl ?_
  refine ⟨q_rc is_53.1, ?_⟩
  obtain ⟨d2, P2, hdd, hC, h⟩ := h
  refine ⟨d2, _, hdd, hC, fun H9 hp => ?_⟩
  obtain ⟨S1, rfl, hp⟩ := hp
  have h := h S1 hp
  exact h
theorem zX11_isReadInOddRain_14 {d n : Nat} {S : gS} {P : gS → Bool → Prop} {i1 : Int32} {i2 : Int32} {i3 : Int32} {i4 : Int32}  (h : (i3 ≤ i4 → (¬ ((sI S (53) 5) = i1) → P S false) ∧ ((sI S (53) 5) = i1 → P S true)) ∧ (¬ (i3 ≤ i4) → isF (sQ S 3) ∧ ((((i2 >>> (i4 &&& 31)) &&& (1 : Int32)) = 0 → s_ci d mX9_passMinute n S [.ref (53), .ref ((sQ S 3)), .int ((0 : Int32))] (fun S2 x3 => gG d mX11_isReadInOddRain 0 0 (g_Xz mX11_isReadInOddRain n 0 0 (hPz P)) 14 n (hH S2) [some (.ref (0)), some (.int (i1)), some (.int (i2)), some (.int (i3)), some (.int ((i4 + 1)))] [] 0 0)) ∧ (¬ (((i2 >>> (i4 &&& 31)) &&& (1 : Int32)) = 0) → s_ci d mX9_passMinute n S [.ref (53), .ref ((sQ S 3)), .int ((9 : Int32))] (fun S4 x5 => gG d mX11_isReadInOddRain 0 0 (g_Xz mX11_isReadInOddRain n 0 0 (hPz P)) 14 n (hH S4) [some (.ref (0)), some (.int (i1)), some (.int (i2)), some (.int (i3)), some (.int ((i4 + 1)))] [] 0 0))))) : gG d mX11_isReadInOddRain 0 0 (g_Xz mX11_isReadInOddRain n 0 0 (hPz P)) 14 n (hH S) [some (.ref (0)), some (.int (i1)), some (.int (i2)), some (.int (i3)), some (.int (i4))] [] 0 0 := by
  refine kX11_isReadInOddRain_14  ?_
  refine ⟨fun c => ?_, fun c => ?_⟩
  · have h := h.1 c
    refine q_gc rfl rfl ?_
    refine q_gi is_53.1 rfl ?_
    refine ⟨fun c => ?_, fun c => ?_⟩
    · have h := h.1 c
      exact ⟨_, rfl, h⟩
    · have h := h.2 c
      exact ⟨_, rfl, h⟩
  · have h := h.2 c
    refine q_gc rfl rfl ?_
    obtain ⟨hq1, h⟩ := h
    refine q_gq rfl rfl ?_
    refine ⟨fun c => ?_, fun c => ?_⟩
    · have h := h.1 c
      refine ⟨q_rc is_53.1, ?_⟩
      obtain ⟨d2, P2, hdd, hC, h⟩ := h
      refine ⟨d2, _, hdd, hC, fun H9 x3 hp => ?_⟩
      obtain ⟨S2, rfl, hp⟩ := hp
      have h := h S2 x3 hp
      exact h
    · have h := h.2 c
      refine ⟨q_rc is_53.1, ?_⟩
      obtain ⟨d2, P2, hdd, hC, h⟩ := h
      refine ⟨d2, _, hdd, hC, fun H9 x5 hp => ?_⟩
      obtain ⟨S4, rfl, hp⟩ := hp
      have h := h S4 x5 hp
      exact h

theorem zX11_weightOf_0 {d n : Nat} {S : gS} {P : gS → Int32 → Prop} {i0 : Int32} {i1 : Int32} {i2 : Int32}  (h : gG d mX11_weightOf 0 0 (g_Xj mX11_weightOf n 0 0 (hPi P)) 5 n (hH S) [some (.int (i0)), some (.int (i1)), some (.int (i2)), some (.int ((1 : Int32))), some (.int ((0 : Int32)))] [] 0 0) : gG d mX11_weightOf 0 0 (g_Xj mX11_weightOf n 0 0 (hPi P)) 0 n (hH S) [some (.int (i0)), some (.int (i1)), some (.int (i2)), none, none] [] 0 0 := by
  refine kX11_weightOf_0  ?_
  exact h
theorem zX11_weightOf_5 {d n : Nat} {S : gS} {P : gS → Int32 → Prop} {i0 : Int32} {i1 : Int32} {i2 : Int32} {i3 : Int32} {i4 : Int32}  (h : (i1 ≤ i4 → P S (i3)) ∧ (¬ (i1 ≤ i4) → (((i0 >>> (i4 &&& 31)) &&& (1 : Int32)) = 0 → gG d mX11_weightOf 0 0 (g_Xj mX11_weightOf n 0 0 (hPi P)) 5 n (hH S) [some (.int (i0)), some (.int (i1)), some (.int (i2)), some (.int ((i3 * ((10 : Int32) - i2)))), some (.int ((i4 + 1)))] [] 0 0) ∧ (¬ (((i0 >>> (i4 &&& 31)) &&& (1 : Int32)) = 0) → gG d mX11_weightOf 0 0 (g_Xj mX11_weightOf n 0 0 (hPi P)) 5 n (hH S) [some (.int (i0)), some (.int (i1)), some (.int (i2)), some (.int ((i3 * i2))), some (.int ((i4 + 1)))] [] 0 0))) : gG d mX11_weightOf 0 0 (g_Xj mX11_weightOf n 0 0 (hPi P)) 5 n (hH S) [some (.int (i0)), some (.int (i1)), some (.int (i2)), some (.int (i3)), some (.int (i4))] [] 0 0 := by
  refine kX11_weightOf_5  ?_
  refine ⟨fun c => ?_, fun c => ?_⟩
  · have h := h.1 c
    exact ⟨_, rfl, h⟩
  · have h := h.2 c
    refine ⟨fun c => ?_, fun c => ?_⟩
    · have h := h.1 c
      exact h
    · have h := h.2 c
      exact h

theorem zX11_isRest_0 {d n : Nat} {S : gS} {P : gS → Bool → Prop} {i0 : Int32} {i1 : Int32} {i2 : Int32} {i3 : Int32}  (h : s_ci d mX11_gain n S [.int (i0), .int (i1), .int (i2), .int ((i3 >>> ((1 : Int32) &&& 31))), .int ((i3 &&& (1 : Int32)))] (fun S1 x2 => s_ci d mX11_gain n S1 [.int (i0), .int (i1), .int (i2), .int (((1 : Int32) - (i3 >>> ((1 : Int32) &&& 31)))), .int ((i3 &&& (1 : Int32)))] (fun S3 x4 => (x2 < x4 → gG d mX11_isRest 0 0 (g_Xz mX11_isRest n 0 0 (hPz P)) 42 n (hH S3) [some (.int (i0)), some (.int (i1)), some (.int (i2)), none, some (.int ((i3 >>> ((1 : Int32) &&& 31)))), some (.int ((i3 &&& (1 : Int32)))), some (.int ((0 : Int32))), none] [] 0 0) ∧ (¬ (x2 < x4) → gG d mX11_isRest 0 0 (g_Xz mX11_isRest n 0 0 (hPz P)) 42 n (hH S3) [some (.int (i0)), some (.int (i1)), some (.int (i2)), none, some (.int ((i3 >>> ((1 : Int32) &&& 31)))), some (.int ((i3 &&& (1 : Int32)))), some (.int ((1 : Int32))), none] [] 0 0)))) : gG d mX11_isRest 0 0 (g_Xz mX11_isRest n 0 0 (hPz P)) 0 n (hH S) [some (.int (i0)), some (.int (i1)), some (.int (i2)), some (.int (i3)), none, none, none, none] [] 0 0 := by
  refine kX11_isRest_0  ?_
  obtain ⟨d2, P2, hdd, hC, h⟩ := h
  refine ⟨d2, _, hdd, hC, fun H9 x2 hp => ?_⟩
  obtain ⟨S1, rfl, hp⟩ := hp
  have h := h S1 x2 hp
  obtain ⟨d2, P2, hdd, hC, h⟩ := h
  refine ⟨d2, _, hdd, hC, fun H9 x4 hp => ?_⟩
  obtain ⟨S3, rfl, hp⟩ := hp
  have h := h S3 x4 hp
  refine ⟨fun c => ?_, fun c => ?_⟩
  · have h := h.1 c
    exact h
  · have h := h.2 c
    exact h
theorem zX11_isRest_42 {d n : Nat} {S : gS} {P : gS → Bool → Prop} {i0 : Int32} {i1 : Int32} {i2 : Int32} {i4 : Int32} {i5 : Int32} {i6 : Int32}  (h : s_ci d mX11_gain n S [.int (i0), .int (i1), .int (i2), .int (i5), .int (i4)] (fun S1 x2 => s_ci d mX11_gain n S1 [.int (i0), .int (i1), .int (i2), .int (((1 : Int32) - i5)), .int (i4)] (fun S3 x4 => (x2 < x4 → gG d mX11_isRest 0 0 (g_Xz mX11_isRest n 0 0 (hPz P)) 74 n (hH S3) [none, none, none, none, none, none, some (.int (i6)), some (.int ((0 : Int32)))] [] 0 0) ∧ (¬ (x2 < x4) → gG d mX11_isRest 0 0 (g_Xz mX11_isRest n 0 0 (hPz P)) 74 n (hH S3) [none, none, none, none, none, none, some (.int (i6)), some (.int ((1 : Int32)))] [] 0 0)))) : gG d mX11_isRest 0 0 (g_Xz mX11_isRest n 0 0 (hPz P)) 42 n (hH S) [some (.int (i0)), some (.int (i1)), some (.int (i2)), none, some (.int (i4)), some (.int (i5)), some (.int (i6)), none] [] 0 0 := by
  refine kX11_isRest_42  ?_
  obtain ⟨d2, P2, hdd, hC, h⟩ := h
  refine ⟨d2, _, hdd, hC, fun H9 x2 hp => ?_⟩
  obtain ⟨S1, rfl, hp⟩ := hp
  have h := h S1 x2 hp
  obtain ⟨d2, P2, hdd, hC, h⟩ := h
  refine ⟨d2, _, hdd, hC, fun H9 x4 hp => ?_⟩
  obtain ⟨S3, rfl, hp⟩ := hp
  have h := h S3 x4 hp
  refine ⟨fun c => ?_, fun c => ?_⟩
  · have h := h.1 c
    exact h
  · have h := h.2 c
    exact h
theorem zX11_isRest_74 {d n : Nat} {S : gS} {P : gS → Bool → Prop} {i6 : Int32} {i7 : Int32}  (h : (i6 = 0 → P S false) ∧ (¬ (i6 = 0) → (i7 = 0 → P S false) ∧ (¬ (i7 = 0) → P S true))) : gG d mX11_isRest 0 0 (g_Xz mX11_isRest n 0 0 (hPz P)) 74 n (hH S) [none, none, none, none, none, none, some (.int (i6)), some (.int (i7))] [] 0 0 := by
  refine kX11_isRest_74  ?_
  refine ⟨fun c => ?_, fun c => ?_⟩
  · have h := h.1 c
    exact ⟨_, rfl, h⟩
  · have h := h.2 c
    refine ⟨fun c => ?_, fun c => ?_⟩
    · have h := h.1 c
      exact ⟨_, rfl, h⟩
    · have h := h.2 c
      exact ⟨_, rfl, h⟩

theorem zX11_gain_0 {d n : Nat} {S : gS} {P : gS → Int32 → Prop} {i0 : Int32} {i1 : Int32} {i2 : Int32} {i3 : Int32} {i4 : Int32}  (h : (¬ (i3 = (1 : Int32)) → (¬ (i4 = (1 : Int32)) → P S ((0 : Int32))) ∧ (i4 = (1 : Int32) → P S (i2))) ∧ (i3 = (1 : Int32) → (¬ (i4 = (1 : Int32)) → P S (i1)) ∧ (i4 = (1 : Int32) → P S ((-i0))))) : gG d mX11_gain 0 0 (g_Xj mX11_gain n 0 0 (hPi P)) 0 n (hH S) [some (.int (i0)), some (.int (i1)), some (.int (i2)), some (.int (i3)), some (.int (i4))] [] 0 0 := by
  refine kX11_gain_0  ?_
  refine ⟨fun c => ?_, fun c => ?_⟩
  · have h := h.1 c
    refine ⟨fun c => ?_, fun c => ?_⟩
    · have h := h.1 c
      exact ⟨_, rfl, h⟩
    · have h := h.2 c
      exact ⟨_, rfl, h⟩
  · have h := h.2 c
    refine ⟨fun c => ?_, fun c => ?_⟩
    · have h := h.1 c
      exact ⟨_, rfl, h⟩
    · have h := h.2 c
      exact ⟨_, rfl, h⟩

theorem zX11_doDrawn_0 {d n : Nat} {S : gS} {P : gS → Prop}   (h : isF (sQ S 3) ∧ ((¬ ((sI S ((sQ S 3)) 0) = 0) → isF (sQ S 3) ∧ (s_ci d mX11_draw n S [.ref (0), .int ((sI S ((sQ S 3)) 0))] (fun S3 x4 => s_ci d mX11_draw n S3 [.ref (0), .int ((5 : Int32))] (fun S5 x6 => (¬ (x6 = 0) → (¬ (x6 = (1 : Int32)) → (¬ (x6 = (2 : Int32)) → P S5) ∧ (x6 = (2 : Int32) → s_cz d mX9_clearMouth n S5 [.ref (53), .int (x4)] (fun S7 b8 => P S7))) ∧ (x6 = (1 : Int32) → s_cz d mX9_stopMouth n S5 [.ref (53), .int (x4)] (fun S9 b10 => P S9))) ∧ (x6 = 0 → s_ci d mX11_draw n S5 [.ref (0), .int ((9 : Int32))] (fun S11 x12 => s_cv d mX9_addWater n S11 [.ref (53), .int (x4), .int ((x12 + (1 : Int32)))] (fun S13 => P S13))))))) ∧ ((sI S ((sQ S 3)) 0) = 0 → P S))) : gG d mX11_doDrawn 0 0 (g_Xv mX11_doDrawn n 0 0 (hPv P)) 0 n (hH S) [some (.ref (0)), none, none] [] 0 0 := by
  refine kX11_doDrawn_0  ?_
  obtain ⟨hq1, h⟩ := h
  refine q_gq rfl rfl ?_
  refine q_gi hq1.1 rfl ?_
  refine ⟨fun c => ?_, fun c => ?_⟩
  · have h := h.1 c
    obtain ⟨hq2, h⟩ := h
    refine q_gq rfl rfl ?_
    refine q_gi hq2.1 rfl ?_
    refine ⟨q_rc rfl, ?_⟩
    obtain ⟨d2, P2, hdd, hC, h⟩ := h
    refine ⟨d2, _, hdd, hC, fun H9 x4 hp => ?_⟩
    obtain ⟨S3, rfl, hp⟩ := hp
    have h := h S3 x4 hp
    refine ⟨q_rc rfl, ?_⟩
    obtain ⟨d2, P2, hdd, hC, h⟩ := h
    refine ⟨d2, _, hdd, hC, fun H9 x6 hp => ?_⟩
    obtain ⟨S5, rfl, hp⟩ := hp
    have h := h S5 x6 hp
    refine ⟨fun c => ?_, fun c => ?_⟩
    · have h := h.1 c
      refine ⟨fun c => ?_, fun c => ?_⟩
      · have h := h.1 c
        refine ⟨fun c => ?_, fun c => ?_⟩
        · have h := h.1 c
          exact ⟨_, rfl, h⟩
        · have h := h.2 c
          refine q_gc rfl rfl ?_
          refine ⟨q_rc is_53.1, ?_⟩
          obtain ⟨d2, P2, hdd, hC, h⟩ := h
          refine ⟨d2, _, hdd, hC, fun H9 b8 hp => ?_⟩
          obtain ⟨S7, rfl, hp⟩ := hp
          have h := h S7 b8 hp
          exact ⟨_, rfl, h⟩
      · have h := h.2 c
        refine q_gc rfl rfl ?_
        refine ⟨q_rc is_53.1, ?_⟩
        obtain ⟨d2, P2, hdd, hC, h⟩ := h
        refine ⟨d2, _, hdd, hC, fun H9 b10 hp => ?_⟩
        obtain ⟨S9, rfl, hp⟩ := hp
        have h := h S9 b10 hp
        exact ⟨_, rfl, h⟩
    · have h := h.2 c
      refine q_gc rfl rfl ?_
      refine ⟨q_rc rfl, ?_⟩
      obtain ⟨d2, P2, hdd, hC, h⟩ := h
      refine ⟨d2, _, hdd, hC, fun H9 x12 hp => ?_⟩
      obtain ⟨S11, rfl, hp⟩ := hp
      have h := h S11 x12 hp
      refine ⟨q_rc is_53.1, ?_⟩
      obtain ⟨d2, P2, hdd, hC, h⟩ := h
      refine ⟨d2, _, hdd, hC, fun H9 hp => ?_⟩
      obtain ⟨S13, rfl, hp⟩ := hp
      have h := h S13 hp
      exact ⟨_, rfl, h⟩
  · have h := h.2 c
    exact ⟨_, rfl, h⟩

theorem zX11_draw_0 {d n : Nat} {S : gS} {P : gS → Int32 → Prop} {i1 : Int32}  (h : ∀ S1, S1 = uJ S (0) 17 (((((sJ S (0) 17) * (1103515245 : Int64)) + (12345 : Int64)) - (((sJ S (0) 17) * (1103515245 : Int64)) + (12345 : Int64)) / (2147483648 : Int64) * (2147483648 : Int64))) → (i1 ≤ 0 → P S1 ((0 : Int32))) ∧ (¬ (i1 ≤ 0) → ¬ (i1 = 0) ∧ (P S1 (((Int64.toInt32 (((sJ S1 (0) 17) / (65536 : Int64)))) - (Int64.toInt32 (((sJ S1 (0) 17) / (65536 : Int64)))) / i1 * i1))))) : gG d mX11_draw 0 0 (g_Xj mX11_draw n 0 0 (hPi P)) 0 n (hH S) [some (.ref (0)), some (.int (i1)), none] [] 0 0 := by
  refine kX11_draw_0  ?_
  refine q_gl rfl rfl ?_
  refine q_pl rfl rfl ?_
  obtain ⟨S1, eS⟩ : ∃ z, z = uJ S (0) 17 (((((sJ S (0) 17) * (1103515245 : Int64)) + (12345 : Int64)) - (((sJ S (0) 17) * (1103515245 : Int64)) + (12345 : Int64)) / (2147483648 : Int64) * (2147483648 : Int64))) := ⟨_, rfl⟩
  rw [← eS]
  have h := h S1 eS
  refine q_gl rfl rfl ?_
  refine ⟨fun c => ?_, fun c => ?_⟩
  · have h := h.1 c
    exact ⟨_, rfl, h⟩
  · have h := h.2 c
    refine ⟨h.1, ?_⟩
    have h := h.2
    exact ⟨_, rfl, h⟩

theorem zX11_emptyRow_0 {d n : Nat} {S : gS} {P : gS → Prop}   (h : gG d mX11_emptyRow 0 0 (g_Xv mX11_emptyRow n 0 0 (hPv P)) 2 n (hH S) [some (.ref (0)), some (.int ((0 : Int32)))] [] 0 0) : gG d mX11_emptyRow 0 0 (g_Xv mX11_emptyRow n 0 0 (hPv P)) 0 n (hH S) [some (.ref (0)), none] [] 0 0 := by
  refine kX11_emptyRow_0  ?_
  exact h
theorem zX11_emptyRow_2 {d n : Nat} {S : gS} {P : gS → Prop} {i1 : Int32}  (h : ((7 : Int32) ≤ i1 → P S) ∧ (¬ ((7 : Int32) ≤ i1) → vp_in (i1) 7 ∧ (∀ S2, S2 = uR S (179) (Int32.toNatClampNeg (i1)) ((0 : Int32)) → gG d mX11_emptyRow 0 0 (g_Xv mX11_emptyRow n 0 0 (hPv P)) 2 n (hH S2) [some (.ref (0)), some (.int ((i1 + 1)))] [] 0 0))) : gG d mX11_emptyRow 0 0 (g_Xv mX11_emptyRow n 0 0 (hPv P)) 2 n (hH S) [some (.ref (0)), some (.int (i1))] [] 0 0 := by
  refine kX11_emptyRow_2  ?_
  refine ⟨fun c => ?_, fun c => ?_⟩
  · have h := h.1 c
    exact ⟨_, rfl, h⟩
  · have h := h.2 c
    refine q_gc rfl rfl ?_
    obtain ⟨hv1, h⟩ := h
    refine q_as (k := Int32.toNatClampNeg (i1)) rfl (by decide) hv1 rfl ?_
    obtain ⟨S2, eS⟩ : ∃ z, z = uR S (179) (Int32.toNatClampNeg (i1)) ((0 : Int32)) := ⟨_, rfl⟩
    rw [← eS]
    have h := h S2 eS
    exact h

theorem zX11_addBitsToRow_0 {d n : Nat} {S : gS} {P : gS → Prop} {i1 : Int32}  (h : gG d mX11_addBitsToRow 0 0 (g_Xv mX11_addBitsToRow n 0 0 (hPv P)) 2 n (hH S) [some (.ref (0)), some (.int (i1)), some (.int ((0 : Int32)))] [] 0 0) : gG d mX11_addBitsToRow 0 0 (g_Xv mX11_addBitsToRow n 0 0 (hPv P)) 0 n (hH S) [some (.ref (0)), some (.int (i1)), none] [] 0 0 := by
  refine kX11_addBitsToRow_0  ?_
  exact h
theorem zX11_addBitsToRow_2 {d n : Nat} {S : gS} {P : gS → Prop} {i1 : Int32} {i2 : Int32}  (h : ((7 : Int32) ≤ i2 → P S) ∧ (¬ ((7 : Int32) ≤ i2) → vp_in (i2) 7 ∧ ((∀ S2, S2 = uR S (179) (Int32.toNatClampNeg (i2)) (((sR S (179) (Int32.toNatClampNeg (i2))) + ((i1 >>> (i2 &&& 31)) &&& (1 : Int32)))) → gG d mX11_addBitsToRow 0 0 (g_Xv mX11_addBitsToRow n 0 0 (hPv P)) 2 n (hH S2) [some (.ref (0)), some (.int (i1)), some (.int ((i2 + 1)))] [] 0 0)))) : gG d mX11_addBitsToRow 0 0 (g_Xv mX11_addBitsToRow n 0 0 (hPv P)) 2 n (hH S) [some (.ref (0)), some (.int (i1)), some (.int (i2))] [] 0 0 := by
  refine kX11_addBitsToRow_2  ?_
  refine ⟨fun c => ?_, fun c => ?_⟩
  · have h := h.1 c
    exact ⟨_, rfl, h⟩
  · have h := h.2 c
    refine q_gc rfl rfl ?_
    obtain ⟨hv1, h⟩ := h
    refine q_al (k := Int32.toNatClampNeg (i2)) rfl (by decide) hv1 rfl ?_
    refine q_as (k := Int32.toNatClampNeg (i2)) rfl (by decide) hv1 rfl ?_
    obtain ⟨S2, eS⟩ : ∃ z, z = uR S (179) (Int32.toNatClampNeg (i2)) (((sR S (179) (Int32.toNatClampNeg (i2))) + ((i1 >>> (i2 &&& 31)) &&& (1 : Int32)))) := ⟨_, rfl⟩
    rw [← eS]
    have h := h S2 eS
    exact h

theorem zX11_greatestOfRow_0 {d n : Nat} {S : gS} {P : gS → Int32 → Prop} {i1 : Int32}  (h : gG d mX11_greatestOfRow 0 0 (g_Xj mX11_greatestOfRow n 0 0 (hPi P)) 4 n (hH S) [some (.ref (0)), some (.int (i1)), some (.int ((-1 : Int32))), some (.int ((0 : Int32)))] [] 0 0) : gG d mX11_greatestOfRow 0 0 (g_Xj mX11_greatestOfRow n 0 0 (hPi P)) 0 n (hH S) [some (.ref (0)), some (.int (i1)), none, none] [] 0 0 := by
  refine kX11_greatestOfRow_0  ?_
  exact h
theorem zX11_greatestOfRow_4 {d n : Nat} {S : gS} {P : gS → Int32 → Prop} {i1 : Int32} {i2 : Int32} {i3 : Int32}  (h : (i1 ≤ i3 → P S (i2)) ∧ (¬ (i1 ≤ i3) → ((7 : Int32) ≤ i3 → P S (i2)) ∧ (¬ ((7 : Int32) ≤ i3) → (i2 = (-1 : Int32) → gG d mX11_greatestOfRow 0 0 (g_Xj mX11_greatestOfRow n 0 0 (hPi P)) 4 n (hH S) [some (.ref (0)), some (.int (i1)), some (.int (i3)), some (.int ((i3 + 1)))] [] 0 0) ∧ (¬ (i2 = (-1 : Int32)) → vp_in (i3) 7 ∧ (vp_in (i2) 7 ∧ (((sR S (179) (Int32.toNatClampNeg (i3))) ≤ (sR S (179) (Int32.toNatClampNeg (i2))) → gG d mX11_greatestOfRow 0 0 (g_Xj mX11_greatestOfRow n 0 0 (hPi P)) 4 n (hH S) [some (.ref (0)), some (.int (i1)), some (.int (i2)), some (.int ((i3 + 1)))] [] 0 0) ∧ (¬ ((sR S (179) (Int32.toNatClampNeg (i3))) ≤ (sR S (179) (Int32.toNatClampNeg (i2)))) → gG d mX11_greatestOfRow 0 0 (g_Xj mX11_greatestOfRow n 0 0 (hPi P)) 4 n (hH S) [some (.ref (0)), some (.int (i1)), some (.int (i3)), some (.int ((i3 + 1)))] [] 0 0))))))) : gG d mX11_greatestOfRow 0 0 (g_Xj mX11_greatestOfRow n 0 0 (hPi P)) 4 n (hH S) [some (.ref (0)), some (.int (i1)), some (.int (i2)), some (.int (i3))] [] 0 0 := by
  refine kX11_greatestOfRow_4  ?_
  refine ⟨fun c => ?_, fun c => ?_⟩
  · have h := h.1 c
    exact ⟨_, rfl, h⟩
  · have h := h.2 c
    refine ⟨fun c => ?_, fun c => ?_⟩
    · have h := h.1 c
      exact ⟨_, rfl, h⟩
    · have h := h.2 c
      refine ⟨fun c => ?_, fun c => ?_⟩
      · have h := h.1 c
        exact h
      · have h := h.2 c
        refine q_gc rfl rfl ?_
        obtain ⟨hv1, h⟩ := h
        refine q_al (k := Int32.toNatClampNeg (i3)) rfl (by decide) hv1 rfl ?_
        refine q_gc rfl rfl ?_
        obtain ⟨hv2, h⟩ := h
        refine q_al (k := Int32.toNatClampNeg (i2)) rfl (by decide) hv2 rfl ?_
        refine ⟨fun c => ?_, fun c => ?_⟩
        · have h := h.1 c
          exact h
        · have h := h.2 c
          exact h
