theorem zX0_copyFrom_0 {d n : Nat} {S : gS} {P : gS → Prop} {a0 : Nat} {a1 : Nat} (hs0 : isD a0) (hs1 : isD a1) (hd1 : 1 ≤ d) (h : ∀ S1, S1 = uI S (a0) 0 ((sI S (a1) 0)) → ∀ S2, S2 = uA S1 ((a0 + 1)) (va_cpy (sR S1 ((a1 + 1))) (sR S1 ((a0 + 1))) (Int32.toNatClampNeg ((0 : Int32))) (Int32.toNatClampNeg ((0 : Int32))) (Int32.toNatClampNeg ((40 : Int32)))) → ∀ S3, S3 = uA S2 ((a0 + 2)) (va_cpy (sR S2 ((a1 + 2))) (sR S2 ((a0 + 2))) (Int32.toNatClampNeg ((0 : Int32))) (Int32.toNatClampNeg ((0 : Int32))) (Int32.toNatClampNeg ((40 : Int32)))) → ∀ S4, S4 = uA S3 ((a0 + 3)) (va_cpy (sR S3 ((a1 + 3))) (sR S3 ((a0 + 3))) (Int32.toNatClampNeg ((0 : Int32))) (Int32.toNatClampNeg ((0 : Int32))) (Int32.toNatClampNeg ((40 : Int32)))) → P S4) : gG d mX0_copyFrom 0 0 (g_Xv mX0_copyFrom n 0 0 (hPv P)) 0 n (hH S) [some (.ref (a0)), some (.ref (a1))] [] 0 0 := by
  refine kX0_copyFrom_0 hd1 ?_
  refine q_gi hs1.1 rfl ?_
  refine q_pi hs0.1 rfl ?_
  obtain ⟨S1, eS⟩ : ∃ z, z = uI S (a0) 0 ((sI S (a1) 0)) := ⟨_, rfl⟩
  rw [← eS]
  have h := h S1 eS
  refine q_gp hs1.1 rfl ?_
  refine q_gp hs0.1 rfl ?_
  refine q_cp hs1.2.1 hs0.2.1 (by decide) (by decide) (by decide) (by decide) (by decide) ?_
  obtain ⟨S2, eS⟩ : ∃ z, z = uA S1 ((a0 + 1)) (va_cpy (sR S1 ((a1 + 1))) (sR S1 ((a0 + 1))) (Int32.toNatClampNeg ((0 : Int32))) (Int32.toNatClampNeg ((0 : Int32))) (Int32.toNatClampNeg ((40 : Int32)))) := ⟨_, rfl⟩
  rw [← eS]
  have h := h S2 eS
  refine q_gp hs1.1 rfl ?_
  refine q_gp hs0.1 rfl ?_
  refine q_cp hs1.2.2.1 hs0.2.2.1 (by decide) (by decide) (by decide) (by decide) (by decide) ?_
  obtain ⟨S3, eS⟩ : ∃ z, z = uA S2 ((a0 + 2)) (va_cpy (sR S2 ((a1 + 2))) (sR S2 ((a0 + 2))) (Int32.toNatClampNeg ((0 : Int32))) (Int32.toNatClampNeg ((0 : Int32))) (Int32.toNatClampNeg ((40 : Int32)))) := ⟨_, rfl⟩
  rw [← eS]
  have h := h S3 eS
  refine q_gp hs1.1 rfl ?_
  refine q_gp hs0.1 rfl ?_
  refine q_cp hs1.2.2.2 hs0.2.2.2 (by decide) (by decide) (by decide) (by decide) (by decide) ?_
  obtain ⟨S4, eS⟩ : ∃ z, z = uA S3 ((a0 + 3)) (va_cpy (sR S3 ((a1 + 3))) (sR S3 ((a0 + 3))) (Int32.toNatClampNeg ((0 : Int32))) (Int32.toNatClampNeg ((0 : Int32))) (Int32.toNatClampNeg ((40 : Int32)))) := ⟨_, rfl⟩
  rw [← eS]
  have h := h S4 eS
  exact ⟨_, rfl, h⟩

theorem zX1_forget_0 {d n : Nat} {S : gS} {P : gS → Prop} {a0 : Nat} (hs0 : isF a0) (h : ∀ S1, S1 = uI S (a0) 0 ((0 : Int32)) → ∀ S2, S2 = uI S1 (a0) 8 ((0 : Int32)) → ∀ S3, S3 = uI S2 (a0) 11 ((0 : Int32)) → ∀ S4, S4 = uI S3 ((a0 + 11)) 1 ((0 : Int32)) → P S4) : gG d mX1_forget 0 0 (g_Xv mX1_forget n 0 0 (hPv P)) 0 n (hH S) [some (.ref (a0))] [] 0 0 := by
  refine kX1_forget_0  ?_
  refine q_pi hs0.1 rfl ?_
  obtain ⟨S1, eS⟩ : ∃ z, z = uI S (a0) 0 ((0 : Int32)) := ⟨_, rfl⟩
  rw [← eS]
  have h := h S1 eS
  refine q_pi hs0.1 rfl ?_
  obtain ⟨S2, eS⟩ : ∃ z, z = uI S1 (a0) 8 ((0 : Int32)) := ⟨_, rfl⟩
  rw [← eS]
  have h := h S2 eS
  refine q_pi hs0.1 rfl ?_
  obtain ⟨S3, eS⟩ : ∃ z, z = uI S2 (a0) 11 ((0 : Int32)) := ⟨_, rfl⟩
  rw [← eS]
  have h := h S3 eS
  refine q_gp hs0.1 rfl ?_
  refine q_pi hs0.2.2.2.2.2.2.2.2.2.2.2.1 rfl ?_
  obtain ⟨S4, eS⟩ : ∃ z, z = uI S3 ((a0 + 11)) 1 ((0 : Int32)) := ⟨_, rfl⟩
  rw [← eS]
  have h := h S4 eS
  exact ⟨_, rfl, h⟩

theorem zX1_mouthNamed_0 {d n : Nat} {S : gS} {P : gS → Int32 → Prop} {a0 : Nat} {j1 : Int64} (hs0 : isF a0) (h : gG d mX1_mouthNamed 0 0 (g_Xj mX1_mouthNamed n 0 0 (hPi P)) 2 n (hH S) [some (.ref (a0)), some (.long (j1)), none, some (.int ((0 : Int32)))] [] 0 0) : gG d mX1_mouthNamed 0 0 (g_Xj mX1_mouthNamed n 0 0 (hPi P)) 0 n (hH S) [some (.ref (a0)), some (.long (j1)), none, none] [] 0 0 := by
  refine kX1_mouthNamed_0  ?_
  exact h
theorem zX1_mouthNamed_2 {d n : Nat} {S : gS} {P : gS → Int32 → Prop} {a0 : Nat} {j1 : Int64} {i3 : Int32} (hs0 : isF a0) (h : ((sI S (a0) 0) ≤ i3 → P S ((-1 : Int32))) ∧ (¬ ((sI S (a0) 0) ≤ i3) → vp_in (i3) 7 ∧ ((¬ ((lg_cmp (sL S ((a0 + 1)) (Int32.toNatClampNeg (i3))) j1) = 0) → gG d mX1_mouthNamed 0 0 (g_Xj mX1_mouthNamed n 0 0 (hPi P)) 2 n (hH S) [some (.ref (a0)), some (.long (j1)), none, some (.int ((i3 + 1)))] [] 0 0) ∧ ((lg_cmp (sL S ((a0 + 1)) (Int32.toNatClampNeg (i3))) j1) = 0 → P S (i3))))) : gG d mX1_mouthNamed 0 0 (g_Xj mX1_mouthNamed n 0 0 (hPi P)) 2 n (hH S) [some (.ref (a0)), some (.long (j1)), none, some (.int (i3))] [] 0 0 := by
  refine kX1_mouthNamed_2  ?_
  refine q_gi hs0.1 rfl ?_
  refine ⟨fun c => ?_, fun c => ?_⟩
  · have h := h.1 c
    exact ⟨_, rfl, h⟩
  · have h := h.2 c
    refine q_gp hs0.1 rfl ?_
    obtain ⟨hv1, h⟩ := h
    refine q_ll (k := Int32.toNatClampNeg (i3)) hs0.2.1 hv1 rfl ?_
    refine ⟨fun c => ?_, fun c => ?_⟩
    · have h := h.1 c
      exact h
    · have h := h.2 c
      exact ⟨_, rfl, h⟩

theorem zX1_letterNamed_0 {d n : Nat} {S : gS} {P : gS → Int32 → Prop} {a0 : Nat} {j1 : Int64} (hs0 : isF a0) (h : gG d mX1_letterNamed 0 0 (g_Xj mX1_letterNamed n 0 0 (hPi P)) 2 n (hH S) [some (.ref (a0)), some (.long (j1)), none, some (.int ((0 : Int32)))] [] 0 0) : gG d mX1_letterNamed 0 0 (g_Xj mX1_letterNamed n 0 0 (hPi P)) 0 n (hH S) [some (.ref (a0)), some (.long (j1)), none, none] [] 0 0 := by
  refine kX1_letterNamed_0  ?_
  exact h
theorem zX1_letterNamed_2 {d n : Nat} {S : gS} {P : gS → Int32 → Prop} {a0 : Nat} {j1 : Int64} {i3 : Int32} (hs0 : isF a0) (h : ((sI S (a0) 8) ≤ i3 → P S ((-1 : Int32))) ∧ (¬ ((sI S (a0) 8) ≤ i3) → vp_in (i3) 6 ∧ ((¬ ((lg_cmp (sL S ((a0 + 8)) (Int32.toNatClampNeg (i3))) j1) = 0) → gG d mX1_letterNamed 0 0 (g_Xj mX1_letterNamed n 0 0 (hPi P)) 2 n (hH S) [some (.ref (a0)), some (.long (j1)), none, some (.int ((i3 + 1)))] [] 0 0) ∧ ((lg_cmp (sL S ((a0 + 8)) (Int32.toNatClampNeg (i3))) j1) = 0 → P S (i3))))) : gG d mX1_letterNamed 0 0 (g_Xj mX1_letterNamed n 0 0 (hPi P)) 2 n (hH S) [some (.ref (a0)), some (.long (j1)), none, some (.int (i3))] [] 0 0 := by
  refine kX1_letterNamed_2  ?_
  refine q_gi hs0.1 rfl ?_
  refine ⟨fun c => ?_, fun c => ?_⟩
  · have h := h.1 c
    exact ⟨_, rfl, h⟩
  · have h := h.2 c
    refine q_gp hs0.1 rfl ?_
    obtain ⟨hv1, h⟩ := h
    refine q_ll (k := Int32.toNatClampNeg (i3)) hs0.2.2.2.2.2.2.2.2.1 hv1 rfl ?_
    refine ⟨fun c => ?_, fun c => ?_⟩
    · have h := h.1 c
      exact h
    · have h := h.2 c
      exact ⟨_, rfl, h⟩

theorem zX1_isTold_0 {d n : Nat} {S : gS} {P : gS → Bool → Prop} {a0 : Nat} {j1 : Int64} (hs0 : isF a0) (h : s_ci d mX1_mouthNamed n S [.ref (a0), .long (j1)] (fun S1 x2 => (¬ (x2 = (-1 : Int32)) → P S1 true) ∧ (x2 = (-1 : Int32) → s_ci d mX1_letterNamed n S1 [.ref (a0), .long (j1)] (fun S3 x4 => (x4 = (-1 : Int32) → P S3 false) ∧ (¬ (x4 = (-1 : Int32)) → P S3 true))))) : gG d mX1_isTold 0 0 (g_Xz mX1_isTold n 0 0 (hPz P)) 0 n (hH S) [some (.ref (a0)), some (.long (j1)), none] [] 0 0 := by
  refine kX1_isTold_0  ?_
  refine ⟨q_rc hs0.1, ?_⟩
  obtain ⟨d2, P2, hdd, hC, h⟩ := h
  refine ⟨d2, _, hdd, hC, fun H9 x2 hp => ?_⟩
  obtain ⟨S1, rfl, hp⟩ := hp
  have h := h S1 x2 hp
  refine ⟨fun c => ?_, fun c => ?_⟩
  · have h := h.1 c
    exact ⟨_, rfl, h⟩
  · have h := h.2 c
    refine ⟨q_rc hs0.1, ?_⟩
    obtain ⟨d2, P2, hdd, hC, h⟩ := h
    refine ⟨d2, _, hdd, hC, fun H9 x4 hp => ?_⟩
    obtain ⟨S3, rfl, hp⟩ := hp
    have h := h S3 x4 hp
    refine ⟨fun c => ?_, fun c => ?_⟩
    · have h := h.1 c
      exact ⟨_, rfl, h⟩
    · have h := h.2 c
      exact ⟨_, rfl, h⟩

theorem zX1_letterOf_0 {d n : Nat} {S : gS} {P : gS → Int32 → Prop} {a0 : Nat} {i1 : Int32} (hs0 : isF a0) (h : gG d mX1_letterOf 0 0 (g_Xj mX1_letterOf n 0 0 (hPi P)) 2 n (hH S) [some (.ref (a0)), some (.int (i1)), some (.int ((0 : Int32)))] [] 0 0) : gG d mX1_letterOf 0 0 (g_Xj mX1_letterOf n 0 0 (hPi P)) 0 n (hH S) [some (.ref (a0)), some (.int (i1)), none] [] 0 0 := by
  refine kX1_letterOf_0  ?_
  exact h
theorem zX1_letterOf_2 {d n : Nat} {S : gS} {P : gS → Int32 → Prop} {a0 : Nat} {i1 : Int32} {i2 : Int32} (hs0 : isF a0) (h : ((sI S (a0) 8) ≤ i2 → P S ((-1 : Int32))) ∧ (¬ ((sI S (a0) 8) ≤ i2) → vp_in (i2) 6 ∧ ((¬ ((sR S ((a0 + 9)) (Int32.toNatClampNeg (i2))) = i1) → gG d mX1_letterOf 0 0 (g_Xj mX1_letterOf n 0 0 (hPi P)) 2 n (hH S) [some (.ref (a0)), some (.int (i1)), some (.int ((i2 + 1)))] [] 0 0) ∧ ((sR S ((a0 + 9)) (Int32.toNatClampNeg (i2))) = i1 → P S (i2))))) : gG d mX1_letterOf 0 0 (g_Xj mX1_letterOf n 0 0 (hPi P)) 2 n (hH S) [some (.ref (a0)), some (.int (i1)), some (.int (i2))] [] 0 0 := by
  refine kX1_letterOf_2  ?_
  refine q_gi hs0.1 rfl ?_
  refine ⟨fun c => ?_, fun c => ?_⟩
  · have h := h.1 c
    exact ⟨_, rfl, h⟩
  · have h := h.2 c
    refine q_gp hs0.1 rfl ?_
    obtain ⟨hv1, h⟩ := h
    refine q_al (k := Int32.toNatClampNeg (i2)) hs0.2.2.2.2.2.2.2.2.2.1 (by decide) hv1 rfl ?_
    refine ⟨fun c => ?_, fun c => ?_⟩
    · have h := h.1 c
      exact h
    · have h := h.2 c
      exact ⟨_, rfl, h⟩

theorem zX1_readOf_0 {d n : Nat} {S : gS} {P : gS → Int32 → Prop} {a0 : Nat} {i1 : Int32} (hs0 : isF a0) (h : s_ci d mX1_letterOf n S [.ref (a0), .int (i1)] (fun S1 x2 => (¬ (x2 = (-1 : Int32)) → P S1 (x2)) ∧ (x2 = (-1 : Int32) → (i1 = 0 → P S1 (x2)) ∧ (¬ (i1 = 0) → P S1 ((6 : Int32)))))) : gG d mX1_readOf 0 0 (g_Xj mX1_readOf n 0 0 (hPi P)) 0 n (hH S) [some (.ref (a0)), some (.int (i1)), none] [] 0 0 := by
  refine kX1_readOf_0  ?_
  refine ⟨q_rc hs0.1, ?_⟩
  obtain ⟨d2, P2, hdd, hC, h⟩ := h
  refine ⟨d2, _, hdd, hC, fun H9 x2 hp => ?_⟩
  obtain ⟨S1, rfl, hp⟩ := hp
  have h := h S1 x2 hp
  refine ⟨fun c => ?_, fun c => ?_⟩
  · have h := h.1 c
    exact ⟨_, rfl, h⟩
  · have h := h.2 c
    refine ⟨fun c => ?_, fun c => ?_⟩
    · have h := h.1 c
      exact ⟨_, rfl, h⟩
    · have h := h.2 c
      exact ⟨_, rfl, h⟩

theorem zX1_rainOf_0 {d n : Nat} {S : gS} {P : gS → Int32 → Prop} {a0 : Nat} {i1 : Int32} (hs0 : isF a0) (h : ((sI S (a0) 11) ≤ 0 → P S ((0 : Int32))) ∧ (¬ ((sI S (a0) 11) ≤ 0) → (i1 < 0 → P S ((0 : Int32))) ∧ (¬ (i1 < 0) → ¬ ((sI S (a0) 11) = 0) ∧ (vp_in ((i1 - i1 / (sI S (a0) 11) * (sI S (a0) 11))) 12 ∧ (P S ((sR S ((a0 + 10)) (Int32.toNatClampNeg ((i1 - i1 / (sI S (a0) 11) * (sI S (a0) 11))))))))))) : gG d mX1_rainOf 0 0 (g_Xj mX1_rainOf n 0 0 (hPi P)) 0 n (hH S) [some (.ref (a0)), some (.int (i1))] [] 0 0 := by
  refine kX1_rainOf_0  ?_
  refine q_gi hs0.1 rfl ?_
  refine ⟨fun c => ?_, fun c => ?_⟩
  · have h := h.1 c
    exact ⟨_, rfl, h⟩
  · have h := h.2 c
    refine ⟨fun c => ?_, fun c => ?_⟩
    · have h := h.1 c
      exact ⟨_, rfl, h⟩
    · have h := h.2 c
      refine q_gp hs0.1 rfl ?_
      refine q_gi hs0.1 rfl ?_
      refine ⟨h.1, ?_⟩
      have h := h.2
      obtain ⟨hv1, h⟩ := h
      refine q_al (k := Int32.toNatClampNeg ((i1 - i1 / (sI S (a0) 11) * (sI S (a0) 11)))) hs0.2.2.2.2.2.2.2.2.2.2.1 (by decide) hv1 rfl ?_
      exact ⟨_, rfl, h⟩

theorem zX1_nests_0 {d n : Nat} {S : gS} {P : gS → Int32 → Prop} {a0 : Nat} (hs0 : isF a0) (h : gG d mX1_nests 0 0 (g_Xj mX1_nests n 0 0 (hPi P)) 4 n (hH S) [some (.ref (a0)), some (.int ((0 : Int32))), some (.int ((0 : Int32)))] [] 0 0) : gG d mX1_nests 0 0 (g_Xj mX1_nests n 0 0 (hPi P)) 0 n (hH S) [some (.ref (a0)), none, none] [] 0 0 := by
  refine kX1_nests_0  ?_
  exact h
theorem zX1_nests_4 {d n : Nat} {S : gS} {P : gS → Int32 → Prop} {a0 : Nat} {i1 : Int32} {i2 : Int32} (hs0 : isF a0) (h : ((sI S (a0) 0) ≤ i2 → P S (i1)) ∧ (¬ ((sI S (a0) 0) ≤ i2) → vp_in (i2) 7 ∧ ((¬ ((sR S ((a0 + 2)) (Int32.toNatClampNeg (i2))) = (3 : Int32)) → gG d mX1_nests 0 0 (g_Xj mX1_nests n 0 0 (hPi P)) 4 n (hH S) [some (.ref (a0)), some (.int (i1)), some (.int ((i2 + 1)))] [] 0 0) ∧ ((sR S ((a0 + 2)) (Int32.toNatClampNeg (i2))) = (3 : Int32) → gG d mX1_nests 0 0 (g_Xj mX1_nests n 0 0 (hPi P)) 4 n (hH S) [some (.ref (a0)), some (.int ((i1 ||| ((1 : Int32) <<< (i2 &&& 31))))), some (.int ((i2 + 1)))] [] 0 0)))) : gG d mX1_nests 0 0 (g_Xj mX1_nests n 0 0 (hPi P)) 4 n (hH S) [some (.ref (a0)), some (.int (i1)), some (.int (i2))] [] 0 0 := by
  refine kX1_nests_4  ?_
  refine q_gi hs0.1 rfl ?_
  refine ⟨fun c => ?_, fun c => ?_⟩
  · have h := h.1 c
    exact ⟨_, rfl, h⟩
  · have h := h.2 c
    refine q_gp hs0.1 rfl ?_
    obtain ⟨hv1, h⟩ := h
    refine q_al (k := Int32.toNatClampNeg (i2)) hs0.2.2.1 (by decide) hv1 rfl ?_
    refine ⟨fun c => ?_, fun c => ?_⟩
    · have h := h.1 c
      exact h
    · have h := h.2 c
      exact h

theorem zX1_mostSpouted_0 {d n : Nat} {S : gS} {P : gS → Int32 → Prop} {a0 : Nat} {i1 : Int32} (hs0 : isF a0) (h : vp_in (i1) 7 ∧ ((¬ ((sR S ((a0 + 2)) (Int32.toNatClampNeg (i1))) = (1 : Int32)) → ((¬ ((sR S ((a0 + 2)) (Int32.toNatClampNeg (i1))) = (2 : Int32)) → P S ((3 : Int32))) ∧ ((sR S ((a0 + 2)) (Int32.toNatClampNeg (i1))) = (2 : Int32) → P S ((1 : Int32))))) ∧ ((sR S ((a0 + 2)) (Int32.toNatClampNeg (i1))) = (1 : Int32) → P S ((6 : Int32))))) : gG d mX1_mostSpouted 0 0 (g_Xj mX1_mostSpouted n 0 0 (hPi P)) 0 n (hH S) [some (.ref (a0)), some (.int (i1))] [] 0 0 := by
  refine kX1_mostSpouted_0  ?_
  refine q_gp hs0.1 rfl ?_
  obtain ⟨hv1, h⟩ := h
  refine q_al (k := Int32.toNatClampNeg (i1)) hs0.2.2.1 (by decide) hv1 rfl ?_
  refine ⟨fun c => ?_, fun c => ?_⟩
  · have h := h.1 c
    refine q_gp hs0.1 rfl ?_
    refine q_al (k := Int32.toNatClampNeg (i1)) hs0.2.2.1 (by decide) hv1 rfl ?_
    refine ⟨fun c => ?_, fun c => ?_⟩
    · have h := h.1 c
      exact ⟨_, rfl, h⟩
    · have h := h.2 c
      exact ⟨_, rfl, h⟩
  · have h := h.2 c
    exact ⟨_, rfl, h⟩

theorem zX1_below_0 {d n : Nat} {S : gS} {P : gS → Int32 → Prop} {a0 : Nat} {i1 : Int32} (hs0 : isF a0) (h : vp_in (i1) 7 ∧ (gG d mX1_below 0 0 (g_Xj mX1_below n 0 0 (hPi P)) 12 n (hH S) [some (.ref (a0)), none, some (.int ((0 : Int32))), some (.int ((sR S ((a0 + 6)) (Int32.toNatClampNeg (i1))))), some (.int ((0 : Int32)))] [] 0 0)) : gG d mX1_below 0 0 (g_Xj mX1_below n 0 0 (hPi P)) 0 n (hH S) [some (.ref (a0)), some (.int (i1)), none, none, none] [] 0 0 := by
  refine kX1_below_0  ?_
  refine q_gp hs0.1 rfl ?_
  obtain ⟨hv1, h⟩ := h
  refine q_al (k := Int32.toNatClampNeg (i1)) hs0.2.2.2.2.2.2.1 (by decide) hv1 rfl ?_
  exact h
theorem zX1_below_12 {d n : Nat} {S : gS} {P : gS → Int32 → Prop} {a0 : Nat} {i2 : Int32} {i3 : Int32} {i4 : Int32} (hs0 : isF a0) (h : ((7 : Int32) ≤ i4 → P S (i2)) ∧ (¬ ((7 : Int32) ≤ i4) → (i3 = (-1 : Int32) → P S (i2)) ∧ (¬ (i3 = (-1 : Int32)) → vp_in (i3) 7 ∧ (gG d mX1_below 0 0 (g_Xj mX1_below n 0 0 (hPi P)) 12 n (hH S) [some (.ref (a0)), none, some (.int ((i2 ||| ((1 : Int32) <<< (i3 &&& 31))))), some (.int ((sR S ((a0 + 6)) (Int32.toNatClampNeg (i3))))), some (.int ((i4 + 1)))] [] 0 0)))) : gG d mX1_below 0 0 (g_Xj mX1_below n 0 0 (hPi P)) 12 n (hH S) [some (.ref (a0)), none, some (.int (i2)), some (.int (i3)), some (.int (i4))] [] 0 0 := by
  refine kX1_below_12  ?_
  refine ⟨fun c => ?_, fun c => ?_⟩
  · have h := h.1 c
    exact ⟨_, rfl, h⟩
  · have h := h.2 c
    refine ⟨fun c => ?_, fun c => ?_⟩
    · have h := h.1 c
      exact ⟨_, rfl, h⟩
    · have h := h.2 c
      refine q_gp hs0.1 rfl ?_
      obtain ⟨hv1, h⟩ := h
      refine q_al (k := Int32.toNatClampNeg (i3)) hs0.2.2.2.2.2.2.1 (by decide) hv1 rfl ?_
      exact h

theorem zX1_putInOrder_0 {d n : Nat} {S : gS} {P : gS → Prop} {a0 : Nat} {i1 : Int32} (hs0 : isF a0) (h : gG d mX1_putInOrder 0 0 (g_Xv mX1_putInOrder n 0 0 (hPv P)) 2 n (hH S) [some (.ref (a0)), some (.int (i1)), some (.int (i1))] [] 0 0) : gG d mX1_putInOrder 0 0 (g_Xv mX1_putInOrder n 0 0 (hPv P)) 0 n (hH S) [some (.ref (a0)), some (.int (i1)), none] [] 0 0 := by
  refine kX1_putInOrder_0  ?_
  exact h
theorem zX1_putInOrder_2 {d n : Nat} {S : gS} {P : gS → Prop} {a0 : Nat} {i1 : Int32} {i2 : Int32} (hs0 : isF a0) (h : (i2 ≤ 0 → vp_in (i2) 7 ∧ (∀ S2, S2 = uR S ((a0 + 7)) (Int32.toNatClampNeg (i2)) (i1) → P S2)) ∧ (¬ (i2 ≤ 0) → vp_in ((i2 - (1 : Int32))) 7 ∧ (vp_in ((sR S ((a0 + 7)) (Int32.toNatClampNeg ((i2 - (1 : Int32)))))) 7 ∧ (vp_in (i1) 7 ∧ (((sR S ((a0 + 3)) (Int32.toNatClampNeg (i1))) ≤ (sR S ((a0 + 3)) (Int32.toNatClampNeg ((sR S ((a0 + 7)) (Int32.toNatClampNeg ((i2 - (1 : Int32)))))))) → vp_in (i2) 7 ∧ (∀ S7, S7 = uR S ((a0 + 7)) (Int32.toNatClampNeg (i2)) (i1) → P S7)) ∧ (¬ ((sR S ((a0 + 3)) (Int32.toNatClampNeg (i1))) ≤ (sR S ((a0 + 3)) (Int32.toNatClampNeg ((sR S ((a0 + 7)) (Int32.toNatClampNeg ((i2 - (1 : Int32))))))))) → (vp_in (i2) 7 ∧ (∀ S9, S9 = uR S ((a0 + 7)) (Int32.toNatClampNeg (i2)) ((sR S ((a0 + 7)) (Int32.toNatClampNeg ((i2 - (1 : Int32)))))) → gG d mX1_putInOrder 0 0 (g_Xv mX1_putInOrder n 0 0 (hPv P)) 2 n (hH S9) [some (.ref (a0)), some (.int (i1)), some (.int ((i2 + (-1))))] [] 0 0)))))))) : gG d mX1_putInOrder 0 0 (g_Xv mX1_putInOrder n 0 0 (hPv P)) 2 n (hH S) [some (.ref (a0)), some (.int (i1)), some (.int (i2))] [] 0 0 := by
  refine kX1_putInOrder_2  ?_
  refine ⟨fun c => ?_, fun c => ?_⟩
  · have h := h.1 c
    refine q_gp hs0.1 rfl ?_
    obtain ⟨hv1, h⟩ := h
    refine q_as (k := Int32.toNatClampNeg (i2)) hs0.2.2.2.2.2.2.2.1 (by decide) hv1 rfl ?_
    obtain ⟨S2, eS⟩ : ∃ z, z = uR S ((a0 + 7)) (Int32.toNatClampNeg (i2)) (i1) := ⟨_, rfl⟩
    rw [← eS]
    have h := h S2 eS
    exact ⟨_, rfl, h⟩
  · have h := h.2 c
    refine q_gp hs0.1 rfl ?_
    refine q_gp hs0.1 rfl ?_
    obtain ⟨hv3, h⟩ := h
    refine q_al (k := Int32.toNatClampNeg ((i2 - (1 : Int32)))) hs0.2.2.2.2.2.2.2.1 (by decide) hv3 rfl ?_
    obtain ⟨hv4, h⟩ := h
    refine q_al (k := Int32.toNatClampNeg ((sR S ((a0 + 7)) (Int32.toNatClampNeg ((i2 - (1 : Int32))))))) hs0.2.2.2.1 (by decide) hv4 rfl ?_
    refine q_gp hs0.1 rfl ?_
    obtain ⟨hv5, h⟩ := h
    refine q_al (k := Int32.toNatClampNeg (i1)) hs0.2.2.2.1 (by decide) hv5 rfl ?_
    refine ⟨fun c => ?_, fun c => ?_⟩
    · have h := h.1 c
      refine q_gp hs0.1 rfl ?_
      obtain ⟨hv6, h⟩ := h
      refine q_as (k := Int32.toNatClampNeg (i2)) hs0.2.2.2.2.2.2.2.1 (by decide) hv6 rfl ?_
      obtain ⟨S7, eS⟩ : ∃ z, z = uR S ((a0 + 7)) (Int32.toNatClampNeg (i2)) (i1) := ⟨_, rfl⟩
      rw [← eS]
      have h := h S7 eS
      exact ⟨_, rfl, h⟩
    · have h := h.2 c
      refine q_gp hs0.1 rfl ?_
      refine q_gp hs0.1 rfl ?_
      refine q_al (k := Int32.toNatClampNeg ((i2 - (1 : Int32)))) hs0.2.2.2.2.2.2.2.1 (by decide) hv3 rfl ?_
      obtain ⟨hv8, h⟩ := h
      refine q_as (k := Int32.toNatClampNeg (i2)) hs0.2.2.2.2.2.2.2.1 (by decide) hv8 rfl ?_
      obtain ⟨S9, eS⟩ : ∃ z, z = uR S ((a0 + 7)) (Int32.toNatClampNeg (i2)) ((sR S ((a0 + 7)) (Int32.toNatClampNeg ((i2 - (1 : Int32)))))) := ⟨_, rfl⟩
      rw [← eS]
      have h := h S9 eS
      exact h

theorem zX3_add_0 {d n : Nat} {S : gS} {P : gS → Prop} {a0 : Nat} {i1 : Int32} (hs0 : isLw a0) (h : ((1000 : Int32) ≤ (sI S (a0) 1) → P S) ∧ (¬ ((1000 : Int32) ≤ (sI S (a0) 1)) → vp_in ((sI S (a0) 1)) 1000 ∧ (∀ S2, S2 = uR S ((a0 + 1)) (Int32.toNatClampNeg ((sI S (a0) 1))) (i1) → ∀ S3, S3 = uI S2 (a0) 1 (((sI S2 (a0) 1) + (1 : Int32))) → P S3))) : gG d mX3_add 0 0 (g_Xv mX3_add n 0 0 (hPv P)) 0 n (hH S) [some (.ref (a0)), some (.int (i1))] [] 0 0 := by
  refine kX3_add_0  ?_
  refine q_gi hs0.1 rfl ?_
  refine ⟨fun c => ?_, fun c => ?_⟩
  · have h := h.1 c
    exact ⟨_, rfl, h⟩
  · have h := h.2 c
    refine q_gp hs0.1 rfl ?_
    refine q_gi hs0.1 rfl ?_
    obtain ⟨hv1, h⟩ := h
    refine q_as (k := Int32.toNatClampNeg ((sI S (a0) 1))) hs0.2.1 (by decide) hv1 rfl ?_
    obtain ⟨S2, eS⟩ : ∃ z, z = uR S ((a0 + 1)) (Int32.toNatClampNeg ((sI S (a0) 1))) (i1) := ⟨_, rfl⟩
    rw [← eS]
    have h := h S2 eS
    refine q_gi hs0.1 rfl ?_
    refine q_pi hs0.1 rfl ?_
    obtain ⟨S3, eS⟩ : ∃ z, z = uI S2 (a0) 1 (((sI S2 (a0) 1) + (1 : Int32))) := ⟨_, rfl⟩
    rw [← eS]
    have h := h S3 eS
    exact ⟨_, rfl, h⟩

theorem zX3_valueFor_0 {d n : Nat} {S : gS} {P : gS → Int32 → Prop} {a0 : Nat} {i1 : Int32} {i2 : Int32} {i3 : Int32} {i4 : Int32} (hs0 : isLw a0) (h : (¬ ((sI S (a0) 1) = 0) → gG d mX3_valueFor 0 0 (g_Xj mX3_valueFor n 0 0 (hPi P)) 15 n (hH S) [some (.ref (a0)), some (.int (i1)), some (.int (i2)), some (.int (i3)), some (.int (i4)), some (.int ((0 : Int32))), some (.int ((0 : Int32))), none] [] 0 0) ∧ ((sI S (a0) 1) = 0 → P S (i1))) : gG d mX3_valueFor 0 0 (g_Xj mX3_valueFor n 0 0 (hPi P)) 0 n (hH S) [some (.ref (a0)), some (.int (i1)), some (.int (i2)), some (.int (i3)), some (.int (i4)), none, none, none] [] 0 0 := by
  refine kX3_valueFor_0  ?_
  refine q_gi hs0.1 rfl ?_
  refine ⟨fun c => ?_, fun c => ?_⟩
  · have h := h.1 c
    exact h
  · have h := h.2 c
    exact ⟨_, rfl, h⟩
theorem zX3_valueFor_15 {d n : Nat} {S : gS} {P : gS → Int32 → Prop} {a0 : Nat} {i1 : Int32} {i2 : Int32} {i3 : Int32} {i4 : Int32} {i5 : Int32} {i6 : Int32} (hs0 : isLw a0) (h : ((sI S (a0) 1) ≤ i6 → (P S ((sR S ((a0 + 2)) (0))))) ∧ (¬ ((sI S (a0) 1) ≤ i6) → vp_in (i6) 1000 ∧ (((-6 : Int32) < (sR S ((a0 + 1)) (Int32.toNatClampNeg (i6))) → (¬ ((sR S ((a0 + 1)) (Int32.toNatClampNeg (i6))) = (-5 : Int32)) → ((24 : Int32) ≤ i5 → gG d mX3_valueFor 0 0 (g_Xj mX3_valueFor n 0 0 (hPi P)) 15 n (hH S) [some (.ref (a0)), some (.int (i1)), some (.int (i2)), some (.int (i3)), some (.int (i4)), some (.int (i5)), some (.int ((i6 + 1))), none] [] 0 0) ∧ (¬ ((24 : Int32) ≤ i5) → ((sR S ((a0 + 1)) (Int32.toNatClampNeg (i6))) < 0 → s_ci d mX3_fact n S [.int ((sR S ((a0 + 1)) (Int32.toNatClampNeg (i6)))), .int (i1), .int (i2), .int (i3), .int (i4)] (fun S2 x3 => vp_in (i5) 24 ∧ (∀ S5, S5 = uR S2 ((a0 + 2)) (Int32.toNatClampNeg (i5)) (x3) → gG d mX3_valueFor 0 0 (g_Xj mX3_valueFor n 0 0 (hPi P)) 15 n (hH S5) [some (.ref (a0)), some (.int (i1)), some (.int (i2)), some (.int (i3)), some (.int (i4)), some (.int ((i5 + 1))), some (.int ((i6 + 1))), none] [] 0 0))) ∧ (¬ ((sR S ((a0 + 1)) (Int32.toNatClampNeg (i6))) < 0) → vp_in (i5) 24 ∧ (∀ S7, S7 = uR S ((a0 + 2)) (Int32.toNatClampNeg (i5)) ((sR S ((a0 + 1)) (Int32.toNatClampNeg (i6)))) → gG d mX3_valueFor 0 0 (g_Xj mX3_valueFor n 0 0 (hPi P)) 15 n (hH S7) [some (.ref (a0)), some (.int (i1)), some (.int (i2)), some (.int (i3)), some (.int (i4)), some (.int ((i5 + 1))), some (.int ((i6 + 1))), none] [] 0 0)))) ∧ ((sR S ((a0 + 1)) (Int32.toNatClampNeg (i6))) = (-5 : Int32) → (i5 < (1 : Int32) → gG d mX3_valueFor 0 0 (g_Xj mX3_valueFor n 0 0 (hPi P)) 15 n (hH S) [some (.ref (a0)), some (.int (i1)), some (.int (i2)), some (.int (i3)), some (.int (i4)), some (.int (i5)), some (.int ((i6 + 1))), none] [] 0 0) ∧ (¬ (i5 < (1 : Int32)) → vp_in ((i5 - (1 : Int32))) 24 ∧ ((¬ ((sR S ((a0 + 2)) (Int32.toNatClampNeg ((i5 - (1 : Int32))))) = 0) → (∀ S9, S9 = uR S ((a0 + 2)) (Int32.toNatClampNeg ((i5 - (1 : Int32)))) ((0 : Int32)) → gG d mX3_valueFor 0 0 (g_Xj mX3_valueFor n 0 0 (hPi P)) 15 n (hH S9) [some (.ref (a0)), some (.int (i1)), some (.int (i2)), some (.int (i3)), some (.int (i4)), some (.int (i5)), some (.int ((i6 + 1))), none] [] 0 0)) ∧ ((sR S ((a0 + 2)) (Int32.toNatClampNeg ((i5 - (1 : Int32))))) = 0 → (∀ S10, S10 = uR S ((a0 + 2)) (Int32.toNatClampNeg ((i5 - (1 : Int32)))) ((1 : Int32)) → gG d mX3_valueFor 0 0 (g_Xj mX3_valueFor n 0 0 (hPi P)) 15 n (hH S10) [some (.ref (a0)), some (.int (i1)), some (.int (i2)), some (.int (i3)), some (.int (i4)), some (.int (i5)), some (.int ((i6 + 1))), none] [] 0 0)))))) ∧ (¬ ((-6 : Int32) < (sR S ((a0 + 1)) (Int32.toNatClampNeg (i6)))) → (i5 < (2 : Int32) → gG d mX3_valueFor 0 0 (g_Xj mX3_valueFor n 0 0 (hPi P)) 15 n (hH S) [some (.ref (a0)), some (.int (i1)), some (.int (i2)), some (.int (i3)), some (.int (i4)), some (.int (i5)), some (.int ((i6 + 1))), none] [] 0 0) ∧ (¬ (i5 < (2 : Int32)) → vp_in (((i5 + (-1)) - (1 : Int32))) 24 ∧ (vp_in ((i5 + (-1))) 24 ∧ (s_ci d mX3_join n S [.int ((sR S ((a0 + 1)) (Int32.toNatClampNeg (i6)))), .int ((sR S ((a0 + 2)) (Int32.toNatClampNeg (((i5 + (-1)) - (1 : Int32)))))), .int ((sR S ((a0 + 2)) (Int32.toNatClampNeg ((i5 + (-1))))))] (fun S13 x14 => (∀ S15, S15 = uR S13 ((a0 + 2)) (Int32.toNatClampNeg (((i5 + (-1)) - (1 : Int32)))) (x14) → gG d mX3_valueFor 0 0 (g_Xj mX3_valueFor n 0 0 (hPi P)) 15 n (hH S15) [some (.ref (a0)), some (.int (i1)), some (.int (i2)), some (.int (i3)), some (.int (i4)), some (.int ((i5 + (-1)))), some (.int ((i6 + 1))), none] [] 0 0))))))))) : gG d mX3_valueFor 0 0 (g_Xj mX3_valueFor n 0 0 (hPi P)) 15 n (hH S) [some (.ref (a0)), some (.int (i1)), some (.int (i2)), some (.int (i3)), some (.int (i4)), some (.int (i5)), some (.int (i6)), none] [] 0 0 := by
  refine kX3_valueFor_15  ?_
  refine q_gi hs0.1 rfl ?_
  refine ⟨fun c => ?_, fun c => ?_⟩
  · have h := h.1 c
    refine q_gp hs0.1 rfl ?_
    refine q_al (k := 0) hs0.2.2 (by decide) (vp_l (by decide)) (by decide) ?_
    exact ⟨_, rfl, h⟩
  · have h := h.2 c
    refine q_gp hs0.1 rfl ?_
    obtain ⟨hv1, h⟩ := h
    refine q_al (k := Int32.toNatClampNeg (i6)) hs0.2.1 (by decide) hv1 rfl ?_
    refine ⟨fun c => ?_, fun c => ?_⟩
    · have h := h.1 c
      refine ⟨fun c => ?_, fun c => ?_⟩
      · have h := h.1 c
        refine ⟨fun c => ?_, fun c => ?_⟩
        · have h := h.1 c
          exact h
        · have h := h.2 c
          refine q_gp hs0.1 rfl ?_
          refine ⟨fun c => ?_, fun c => ?_⟩
          · have h := h.1 c
            obtain ⟨d2, P2, hdd, hC, h⟩ := h
            refine ⟨d2, _, hdd, hC, fun H9 x3 hp => ?_⟩
            obtain ⟨S2, rfl, hp⟩ := hp
            have h := h S2 x3 hp
            obtain ⟨hv4, h⟩ := h
            refine q_as (k := Int32.toNatClampNeg (i5)) hs0.2.2 (by decide) hv4 rfl ?_
            obtain ⟨S5, eS⟩ : ∃ z, z = uR S2 ((a0 + 2)) (Int32.toNatClampNeg (i5)) (x3) := ⟨_, rfl⟩
            rw [← eS]
            have h := h S5 eS
            exact h
          · have h := h.2 c
            obtain ⟨hv6, h⟩ := h
            refine q_as (k := Int32.toNatClampNeg (i5)) hs0.2.2 (by decide) hv6 rfl ?_
            obtain ⟨S7, eS⟩ : ∃ z, z = uR S ((a0 + 2)) (Int32.toNatClampNeg (i5)) ((sR S ((a0 + 1)) (Int32.toNatClampNeg (i6)))) := ⟨_, rfl⟩
            rw [← eS]
            have h := h S7 eS
            exact h
      · have h := h.2 c
        refine ⟨fun c => ?_, fun c => ?_⟩
        · have h := h.1 c
          exact h
        · have h := h.2 c
          refine q_gp hs0.1 rfl ?_
          refine q_gp hs0.1 rfl ?_
          obtain ⟨hv8, h⟩ := h
          refine q_al (k := Int32.toNatClampNeg ((i5 - (1 : Int32)))) hs0.2.2 (by decide) hv8 rfl ?_
          refine ⟨fun c => ?_, fun c => ?_⟩
          · have h := h.1 c
            refine q_as (k := Int32.toNatClampNeg ((i5 - (1 : Int32)))) hs0.2.2 (by decide) hv8 rfl ?_
            obtain ⟨S9, eS⟩ : ∃ z, z = uR S ((a0 + 2)) (Int32.toNatClampNeg ((i5 - (1 : Int32)))) ((0 : Int32)) := ⟨_, rfl⟩
            rw [← eS]
            have h := h S9 eS
            exact h
          · have h := h.2 c
            refine q_as (k := Int32.toNatClampNeg ((i5 - (1 : Int32)))) hs0.2.2 (by decide) hv8 rfl ?_
            obtain ⟨S10, eS⟩ : ∃ z, z = uR S ((a0 + 2)) (Int32.toNatClampNeg ((i5 - (1 : Int32)))) ((1 : Int32)) := ⟨_, rfl⟩
            rw [← eS]
            have h := h S10 eS
            exact h
    · have h := h.2 c
      refine ⟨fun c => ?_, fun c => ?_⟩
      · have h := h.1 c
        exact h
      · have h := h.2 c
        refine q_gp hs0.1 rfl ?_
        refine q_gp hs0.1 rfl ?_
        obtain ⟨hv11, h⟩ := h
        refine q_al (k := Int32.toNatClampNeg (((i5 + (-1)) - (1 : Int32)))) hs0.2.2 (by decide) hv11 rfl ?_
        refine q_gp hs0.1 rfl ?_
        obtain ⟨hv12, h⟩ := h
        refine q_al (k := Int32.toNatClampNeg ((i5 + (-1)))) hs0.2.2 (by decide) hv12 rfl ?_
        obtain ⟨d2, P2, hdd, hC, h⟩ := h
        refine ⟨d2, _, hdd, hC, fun H9 x14 hp => ?_⟩
        obtain ⟨S13, rfl, hp⟩ := hp
        have h := h S13 x14 hp
        refine q_as (k := Int32.toNatClampNeg (((i5 + (-1)) - (1 : Int32)))) hs0.2.2 (by decide) hv11 rfl ?_
        obtain ⟨S15, eS⟩ : ∃ z, z = uR S13 ((a0 + 2)) (Int32.toNatClampNeg (((i5 + (-1)) - (1 : Int32)))) (x14) := ⟨_, rfl⟩
        rw [← eS]
        have h := h S15 eS
        exact h

theorem zX3_fact_0 {d n : Nat} {S : gS} {P : gS → Int32 → Prop} {i0 : Int32} {i1 : Int32} {i2 : Int32} {i3 : Int32} {i4 : Int32}  (h : ((i0).toInt < (-3) ∨ (-1) < (i0).toInt → P S (i4)) ∧ (i0 = (-3) → P S (i3)) ∧ (i0 = (-2) → P S (i2)) ∧ (i0 = (-1) → P S (i1))) : gG d mX3_fact 0 0 (g_Xj mX3_fact n 0 0 (hPi P)) 0 n (hH S) [some (.int (i0)), some (.int (i1)), some (.int (i2)), some (.int (i3)), some (.int (i4))] [] 0 0 := by
  refine kX3_fact_0  ?_
  refine ⟨fun c => ?_, fun c => ?_, fun c => ?_, fun c => ?_⟩
  · have h := h.1 c
    exact ⟨_, rfl, h⟩
  · have h := h.2.1 c
    exact ⟨_, rfl, h⟩
  · have h := h.2.2.1 c
    exact ⟨_, rfl, h⟩
  · have h := h.2.2.2 c
    exact ⟨_, rfl, h⟩

theorem zX3_join_0 {d n : Nat} {S : gS} {P : gS → Int32 → Prop} {i0 : Int32} {i1 : Int32} {i2 : Int32}  (h : ((i0).toInt < (-11) ∨ (-6) < (i0).toInt → P S ((i1 * i2))) ∧ (i0 = (-11) → P S ((i1 - i2))) ∧ (i0 = (-10) → P S ((i1 + i2))) ∧ (i0 = (-9) → (¬ (i1 = i2) → P S ((0 : Int32))) ∧ (i1 = i2 → P S ((1 : Int32)))) ∧ (i0 = (-8) → (i2 ≤ i1 → P S ((0 : Int32))) ∧ (¬ (i2 ≤ i1) → P S ((1 : Int32)))) ∧ (i0 = (-7) → (¬ (i1 = 0) → P S ((1 : Int32))) ∧ (i1 = 0 → (i2 = 0 → P S ((0 : Int32))) ∧ (¬ (i2 = 0) → P S ((1 : Int32))))) ∧ (i0 = (-6) → (i1 = 0 → P S ((0 : Int32))) ∧ (¬ (i1 = 0) → (i2 = 0 → P S ((0 : Int32))) ∧ (¬ (i2 = 0) → P S ((1 : Int32)))))) : gG d mX3_join 0 0 (g_Xj mX3_join n 0 0 (hPi P)) 0 n (hH S) [some (.int (i0)), some (.int (i1)), some (.int (i2))] [] 0 0 := by
  refine kX3_join_0  ?_
  refine ⟨fun c => ?_, fun c => ?_, fun c => ?_, fun c => ?_, fun c => ?_, fun c => ?_, fun c => ?_⟩
  · have h := h.1 c
    exact ⟨_, rfl, h⟩
  · have h := h.2.1 c
    exact ⟨_, rfl, h⟩
  · have h := h.2.2.1 c
    exact ⟨_, rfl, h⟩
  · have h := h.2.2.2.1 c
    refine ⟨fun c => ?_, fun c => ?_⟩
    · have h := h.1 c
      exact ⟨_, rfl, h⟩
    · have h := h.2 c
      exact ⟨_, rfl, h⟩
  · have h := h.2.2.2.2.1 c
    refine ⟨fun c => ?_, fun c => ?_⟩
    · have h := h.1 c
      exact ⟨_, rfl, h⟩
    · have h := h.2 c
      exact ⟨_, rfl, h⟩
  · have h := h.2.2.2.2.2.1 c
    refine ⟨fun c => ?_, fun c => ?_⟩
    · have h := h.1 c
      exact ⟨_, rfl, h⟩
    · have h := h.2 c
      refine ⟨fun c => ?_, fun c => ?_⟩
      · have h := h.1 c
        exact ⟨_, rfl, h⟩
      · have h := h.2 c
        exact ⟨_, rfl, h⟩
  · have h := h.2.2.2.2.2.2 c
    refine ⟨fun c => ?_, fun c => ?_⟩
    · have h := h.1 c
      exact ⟨_, rfl, h⟩
    · have h := h.2 c
      refine ⟨fun c => ?_, fun c => ?_⟩
      · have h := h.1 c
        exact ⟨_, rfl, h⟩
      · have h := h.2 c
        exact ⟨_, rfl, h⟩

theorem zX7_add_0 {d n : Nat} {S : gS} {P : gS → Bool → Prop} {a0 : Nat} {i1 : Int32} {i2 : Int32} (hs0 : isSn a0) (h : ((sI S (a0) 0) < (8 : Int32) → vp_in ((sI S (a0) 0)) 8 ∧ (∀ S2, S2 = uR S ((a0 + 1)) (Int32.toNatClampNeg ((sI S (a0) 0))) (i1) → vp_in ((sI S2 (a0) 0)) 8 ∧ (∀ S4, S4 = uR S2 ((a0 + 2)) (Int32.toNatClampNeg ((sI S2 (a0) 0))) (vp_nar .boolean (i2)) → ∀ S5, S5 = uI S4 (a0) 0 (((sI S4 (a0) 0) + (1 : Int32))) → P S5 true))) ∧ (¬ ((sI S (a0) 0) < (8 : Int32)) → P S false)) : gG d mX7_add 0 0 (g_Xz mX7_add n 0 0 (hPz P)) 0 n (hH S) [some (.ref (a0)), some (.int (i1)), some (.int (i2))] [] 0 0 := by
  refine kX7_add_0  ?_
  refine q_gi hs0.1 rfl ?_
  refine ⟨fun c => ?_, fun c => ?_⟩
  · have h := h.1 c
    refine q_gp hs0.1 rfl ?_
    refine q_gi hs0.1 rfl ?_
    obtain ⟨hv1, h⟩ := h
    refine q_as (k := Int32.toNatClampNeg ((sI S (a0) 0))) hs0.2.1 (by decide) hv1 rfl ?_
    obtain ⟨S2, eS⟩ : ∃ z, z = uR S ((a0 + 1)) (Int32.toNatClampNeg ((sI S (a0) 0))) (i1) := ⟨_, rfl⟩
    rw [← eS]
    have h := h S2 eS
    refine q_gp hs0.1 rfl ?_
    refine q_gi hs0.1 rfl ?_
    obtain ⟨hv3, h⟩ := h
    refine q_as (k := Int32.toNatClampNeg ((sI S2 (a0) 0))) hs0.2.2 (by decide) hv3 rfl ?_
    obtain ⟨S4, eS⟩ : ∃ z, z = uR S2 ((a0 + 2)) (Int32.toNatClampNeg ((sI S2 (a0) 0))) (vp_nar .boolean (i2)) := ⟨_, rfl⟩
    rw [← eS]
    have h := h S4 eS
    refine q_gi hs0.1 rfl ?_
    refine q_pi hs0.1 rfl ?_
    obtain ⟨S5, eS⟩ : ∃ z, z = uI S4 (a0) 0 (((sI S4 (a0) 0) + (1 : Int32))) := ⟨_, rfl⟩
    rw [← eS]
    have h := h S5 eS
    exact ⟨_, rfl, h⟩
  · have h := h.2 c
    exact ⟨_, rfl, h⟩

theorem zX7_agreesWith_0 {d n : Nat} {S : gS} {P : gS → Bool → Prop} {a0 : Nat} {i1 : Int32} (hs0 : isSn a0) (h : gG d mX7_agreesWith 0 0 (g_Xz mX7_agreesWith n 0 0 (hPz P)) 2 n (hH S) [some (.ref (a0)), some (.int (i1)), some (.int ((0 : Int32))), none] [] 0 0) : gG d mX7_agreesWith 0 0 (g_Xz mX7_agreesWith n 0 0 (hPz P)) 0 n (hH S) [some (.ref (a0)), some (.int (i1)), none, none] [] 0 0 := by
  refine kX7_agreesWith_0  ?_
  exact h
theorem zX7_agreesWith_2 {d n : Nat} {S : gS} {P : gS → Bool → Prop} {a0 : Nat} {i1 : Int32} {i2 : Int32} (hs0 : isSn a0) (h : ((sI S (a0) 0) ≤ i2 → P S true) ∧ (¬ ((sI S (a0) 0) ≤ i2) → vp_in (i2) 8 ∧ ((((i1 >>> ((sR S ((a0 + 1)) (Int32.toNatClampNeg (i2))) &&& 31)) &&& (1 : Int32)) = 0 → gG d mX7_agreesWith 0 0 (g_Xz mX7_agreesWith n 0 0 (hPz P)) 29 n (hH S) [some (.ref (a0)), some (.int (i1)), some (.int (i2)), some (.int ((0 : Int32)))] [] 0 0) ∧ (¬ (((i1 >>> ((sR S ((a0 + 1)) (Int32.toNatClampNeg (i2))) &&& 31)) &&& (1 : Int32)) = 0) → gG d mX7_agreesWith 0 0 (g_Xz mX7_agreesWith n 0 0 (hPz P)) 29 n (hH S) [some (.ref (a0)), some (.int (i1)), some (.int (i2)), some (.int ((1 : Int32)))] [] 0 0)))) : gG d mX7_agreesWith 0 0 (g_Xz mX7_agreesWith n 0 0 (hPz P)) 2 n (hH S) [some (.ref (a0)), some (.int (i1)), some (.int (i2)), none] [] 0 0 := by
  refine kX7_agreesWith_2  ?_
  refine q_gi hs0.1 rfl ?_
  refine ⟨fun c => ?_, fun c => ?_⟩
  · have h := h.1 c
    exact ⟨_, rfl, h⟩
  · have h := h.2 c
    refine q_gp hs0.1 rfl ?_
    obtain ⟨hv1, h⟩ := h
    refine q_al (k := Int32.toNatClampNeg (i2)) hs0.2.1 (by decide) hv1 rfl ?_
    refine ⟨fun c => ?_, fun c => ?_⟩
    · have h := h.1 c
      exact h
    · have h := h.2 c
      exact h
theorem zX7_agreesWith_29 {d n : Nat} {S : gS} {P : gS → Bool → Prop} {a0 : Nat} {i1 : Int32} {i2 : Int32} {i3 : Int32} (hs0 : isSn a0) (h : vp_in (i2) 8 ∧ ((i3 = (sR S ((a0 + 2)) (Int32.toNatClampNeg (i2))) → gG d mX7_agreesWith 0 0 (g_Xz mX7_agreesWith n 0 0 (hPz P)) 2 n (hH S) [some (.ref (a0)), some (.int (i1)), some (.int ((i2 + 1))), none] [] 0 0) ∧ (¬ (i3 = (sR S ((a0 + 2)) (Int32.toNatClampNeg (i2)))) → P S false))) : gG d mX7_agreesWith 0 0 (g_Xz mX7_agreesWith n 0 0 (hPz P)) 29 n (hH S) [some (.ref (a0)), some (.int (i1)), some (.int (i2)), some (.int (i3))] [] 0 0 := by
  refine kX7_agreesWith_29  ?_
  refine q_gp hs0.1 rfl ?_
  obtain ⟨hv1, h⟩ := h
  refine q_al (k := Int32.toNatClampNeg (i2)) hs0.2.2 (by decide) hv1 rfl ?_
  refine ⟨fun c => ?_, fun c => ?_⟩
  · have h := h.1 c
    exact h
  · have h := h.2 c
    exact ⟨_, rfl, h⟩

theorem zX7_copyFrom_0 {d n : Nat} {S : gS} {P : gS → Prop} {a0 : Nat} {a1 : Nat} (hs0 : isSn a0) (hs1 : isSn a1) (h : ∀ S1, S1 = uI S (a0) 0 ((sI S (a1) 0)) → gG d mX7_copyFrom 0 0 (g_Xv mX7_copyFrom n 0 0 (hPv P)) 10 n (hH S1) [some (.ref (a0)), some (.ref (a1)), some (.int ((0 : Int32)))] [] 0 0) : gG d mX7_copyFrom 0 0 (g_Xv mX7_copyFrom n 0 0 (hPv P)) 0 n (hH S) [some (.ref (a0)), some (.ref (a1)), none] [] 0 0 := by
  refine kX7_copyFrom_0  ?_
  refine q_gi hs1.1 rfl ?_
  refine q_pi hs0.1 rfl ?_
  obtain ⟨S1, eS⟩ : ∃ z, z = uI S (a0) 0 ((sI S (a1) 0)) := ⟨_, rfl⟩
  rw [← eS]
  have h := h S1 eS
  exact h
theorem zX7_copyFrom_10 {d n : Nat} {S : gS} {P : gS → Prop} {a0 : Nat} {a1 : Nat} {i2 : Int32} (hs0 : isSn a0) (hs1 : isSn a1) (h : ((8 : Int32) ≤ i2 → P S) ∧ (¬ ((8 : Int32) ≤ i2) → vp_in (i2) 8 ∧ ((∀ S2, S2 = uR S ((a0 + 1)) (Int32.toNatClampNeg (i2)) ((sR S ((a1 + 1)) (Int32.toNatClampNeg (i2)))) → ((∀ S3, S3 = uR S2 ((a0 + 2)) (Int32.toNatClampNeg (i2)) (vp_nar .boolean ((sR S2 ((a1 + 2)) (Int32.toNatClampNeg (i2))))) → gG d mX7_copyFrom 0 0 (g_Xv mX7_copyFrom n 0 0 (hPv P)) 10 n (hH S3) [some (.ref (a0)), some (.ref (a1)), some (.int ((i2 + 1)))] [] 0 0)))))) : gG d mX7_copyFrom 0 0 (g_Xv mX7_copyFrom n 0 0 (hPv P)) 10 n (hH S) [some (.ref (a0)), some (.ref (a1)), some (.int (i2))] [] 0 0 := by
  refine kX7_copyFrom_10  ?_
  refine ⟨fun c => ?_, fun c => ?_⟩
  · have h := h.1 c
    exact ⟨_, rfl, h⟩
  · have h := h.2 c
    refine q_gp hs0.1 rfl ?_
    refine q_gp hs1.1 rfl ?_
    obtain ⟨hv1, h⟩ := h
    refine q_al (k := Int32.toNatClampNeg (i2)) hs1.2.1 (by decide) hv1 rfl ?_
    refine q_as (k := Int32.toNatClampNeg (i2)) hs0.2.1 (by decide) hv1 rfl ?_
    obtain ⟨S2, eS⟩ : ∃ z, z = uR S ((a0 + 1)) (Int32.toNatClampNeg (i2)) ((sR S ((a1 + 1)) (Int32.toNatClampNeg (i2)))) := ⟨_, rfl⟩
    rw [← eS]
    have h := h S2 eS
    refine q_gp hs0.1 rfl ?_
    refine q_gp hs1.1 rfl ?_
    refine q_al (k := Int32.toNatClampNeg (i2)) hs1.2.2 (by decide) hv1 rfl ?_
    refine q_as (k := Int32.toNatClampNeg (i2)) hs0.2.2 (by decide) hv1 rfl ?_
    obtain ⟨S3, eS⟩ : ∃ z, z = uR S2 ((a0 + 2)) (Int32.toNatClampNeg (i2)) (vp_nar .boolean ((sR S2 ((a1 + 2)) (Int32.toNatClampNeg (i2))))) := ⟨_, rfl⟩
    rw [← eS]
    have h := h S3 eS
    exact h

theorem zX9_begin_0 {d n : Nat} {S : gS} {P : gS → Prop} {a0 : Nat} {a1 : Nat} (hs0 : isW a0) (hs1 : isF a1) (h : ∀ S1, S1 = uI S (a0) 0 ((0 : Int32)) → s_ci d mX1_nests n S1 [.ref (a1)] (fun S2 x3 => ∀ S4, S4 = uI S2 (a0) 1 (x3) → gG d mX9_begin 0 0 (g_Xv mX9_begin n 0 0 (hPv P)) 15 n (hH S4) [some (.ref (a0)), none, some (.int ((0 : Int32)))] [] 0 0)) : gG d mX9_begin 0 0 (g_Xv mX9_begin n 0 0 (hPv P)) 0 n (hH S) [some (.ref (a0)), some (.ref (a1)), none] [] 0 0 := by
  refine kX9_begin_0  ?_
  refine q_pi hs0.1 rfl ?_
  obtain ⟨S1, eS⟩ : ∃ z, z = uI S (a0) 0 ((0 : Int32)) := ⟨_, rfl⟩
  rw [← eS]
  have h := h S1 eS
  refine ⟨q_rc hs1.1, ?_⟩
  obtain ⟨d2, P2, hdd, hC, h⟩ := h
  refine ⟨d2, _, hdd, hC, fun H9 x3 hp => ?_⟩
  obtain ⟨S2, rfl, hp⟩ := hp
  have h := h S2 x3 hp
  refine q_pi hs0.1 rfl ?_
  obtain ⟨S4, eS⟩ : ∃ z, z = uI S2 (a0) 1 (x3) := ⟨_, rfl⟩
  rw [← eS]
  have h := h S4 eS
  exact h
theorem zX9_begin_15 {d n : Nat} {S : gS} {P : gS → Prop} {a0 : Nat} {i2 : Int32} (hs0 : isW a0) (h : ((7 : Int32) ≤ i2 → ∀ S1, S1 = uI S (a0) 4 ((0 : Int32)) → ∀ S2, S2 = uI S1 (a0) 5 ((-1 : Int32)) → ∀ S3, S3 = uI S2 (a0) 9 ((0 : Int32)) → P S3) ∧ (¬ ((7 : Int32) ≤ i2) → vp_in (i2) 7 ∧ (∀ S5, S5 = uR S ((a0 + 1)) (Int32.toNatClampNeg (i2)) ((0 : Int32)) → (∀ S6, S6 = uR S5 ((a0 + 2)) (Int32.toNatClampNeg (i2)) ((0 : Int32)) → gG d mX9_begin 0 0 (g_Xv mX9_begin n 0 0 (hPv P)) 15 n (hH S6) [some (.ref (a0)), none, some (.int ((i2 + 1)))] [] 0 0)))) : gG d mX9_begin 0 0 (g_Xv mX9_begin n 0 0 (hPv P)) 15 n (hH S) [some (.ref (a0)), none, some (.int (i2))] [] 0 0 := by
  refine kX9_begin_15  ?_
  refine ⟨fun c => ?_, fun c => ?_⟩
  · have h := h.1 c
    refine q_pi hs0.1 rfl ?_
    obtain ⟨S1, eS⟩ : ∃ z, z = uI S (a0) 4 ((0 : Int32)) := ⟨_, rfl⟩
    rw [← eS]
    have h := h S1 eS
    refine q_pi hs0.1 rfl ?_
    obtain ⟨S2, eS⟩ : ∃ z, z = uI S1 (a0) 5 ((-1 : Int32)) := ⟨_, rfl⟩
    rw [← eS]
    have h := h S2 eS
    refine q_pi hs0.1 rfl ?_
    obtain ⟨S3, eS⟩ : ∃ z, z = uI S2 (a0) 9 ((0 : Int32)) := ⟨_, rfl⟩
    rw [← eS]
    have h := h S3 eS
    exact ⟨_, rfl, h⟩
  · have h := h.2 c
    refine q_gp hs0.1 rfl ?_
    obtain ⟨hv4, h⟩ := h
    refine q_as (k := Int32.toNatClampNeg (i2)) hs0.2.1 (by decide) hv4 rfl ?_
    obtain ⟨S5, eS⟩ : ∃ z, z = uR S ((a0 + 1)) (Int32.toNatClampNeg (i2)) ((0 : Int32)) := ⟨_, rfl⟩
    rw [← eS]
    have h := h S5 eS
    refine q_gp hs0.1 rfl ?_
    refine q_as (k := Int32.toNatClampNeg (i2)) hs0.2.2.1 (by decide) hv4 rfl ?_
    obtain ⟨S6, eS⟩ : ∃ z, z = uR S5 ((a0 + 2)) (Int32.toNatClampNeg (i2)) ((0 : Int32)) := ⟨_, rfl⟩
    rw [← eS]
    have h := h S6 eS
    exact h

theorem zX9_copyFrom_0 {d n : Nat} {S : gS} {P : gS → Prop} {a0 : Nat} {a1 : Nat} (hs0 : isW a0) (hs1 : isW a1) (hd1 : 1 ≤ d) (h : ∀ S1, S1 = uI S (a0) 0 ((sI S (a1) 0)) → ∀ S2, S2 = uI S1 (a0) 1 ((sI S1 (a1) 1)) → ∀ S3, S3 = uA S2 ((a0 + 1)) (va_cpy (sR S2 ((a1 + 1))) (sR S2 ((a0 + 1))) (Int32.toNatClampNeg ((0 : Int32))) (Int32.toNatClampNeg ((0 : Int32))) (Int32.toNatClampNeg ((7 : Int32)))) → ∀ S4, S4 = uA S3 ((a0 + 2)) (va_cpy (sR S3 ((a1 + 2))) (sR S3 ((a0 + 2))) (Int32.toNatClampNeg ((0 : Int32))) (Int32.toNatClampNeg ((0 : Int32))) (Int32.toNatClampNeg ((7 : Int32)))) → ∀ S5, S5 = uI S4 (a0) 4 ((sI S4 (a1) 4)) → ∀ S6, S6 = uI S5 (a0) 5 ((sI S5 (a1) 5)) → ∀ S7, S7 = uA S6 ((a0 + 3)) (va_cpy (sR S6 ((a1 + 3))) (sR S6 ((a0 + 3))) (Int32.toNatClampNeg ((0 : Int32))) (Int32.toNatClampNeg ((0 : Int32))) (Int32.toNatClampNeg ((40 : Int32)))) → ∀ S8, S8 = uI S7 (a0) 9 ((sI S7 (a1) 9)) → P S8) : gG d mX9_copyFrom 0 0 (g_Xv mX9_copyFrom n 0 0 (hPv P)) 0 n (hH S) [some (.ref (a0)), some (.ref (a1))] [] 0 0 := by
  refine kX9_copyFrom_0 hd1 ?_
  refine q_gi hs1.1 rfl ?_
  refine q_pi hs0.1 rfl ?_
  obtain ⟨S1, eS⟩ : ∃ z, z = uI S (a0) 0 ((sI S (a1) 0)) := ⟨_, rfl⟩
  rw [← eS]
  have h := h S1 eS
  refine q_gi hs1.1 rfl ?_
  refine q_pi hs0.1 rfl ?_
  obtain ⟨S2, eS⟩ : ∃ z, z = uI S1 (a0) 1 ((sI S1 (a1) 1)) := ⟨_, rfl⟩
  rw [← eS]
  have h := h S2 eS
  refine q_gp hs1.1 rfl ?_
  refine q_gp hs0.1 rfl ?_
  refine q_cp hs1.2.1 hs0.2.1 (by decide) (by decide) (by decide) (by decide) (by decide) ?_
  obtain ⟨S3, eS⟩ : ∃ z, z = uA S2 ((a0 + 1)) (va_cpy (sR S2 ((a1 + 1))) (sR S2 ((a0 + 1))) (Int32.toNatClampNeg ((0 : Int32))) (Int32.toNatClampNeg ((0 : Int32))) (Int32.toNatClampNeg ((7 : Int32)))) := ⟨_, rfl⟩
  rw [← eS]
  have h := h S3 eS
  refine q_gp hs1.1 rfl ?_
  refine q_gp hs0.1 rfl ?_
  refine q_cp hs1.2.2.1 hs0.2.2.1 (by decide) (by decide) (by decide) (by decide) (by decide) ?_
  obtain ⟨S4, eS⟩ : ∃ z, z = uA S3 ((a0 + 2)) (va_cpy (sR S3 ((a1 + 2))) (sR S3 ((a0 + 2))) (Int32.toNatClampNeg ((0 : Int32))) (Int32.toNatClampNeg ((0 : Int32))) (Int32.toNatClampNeg ((7 : Int32)))) := ⟨_, rfl⟩
  rw [← eS]
  have h := h S4 eS
  refine q_gi hs1.1 rfl ?_
  refine q_pi hs0.1 rfl ?_
  obtain ⟨S5, eS⟩ : ∃ z, z = uI S4 (a0) 4 ((sI S4 (a1) 4)) := ⟨_, rfl⟩
  rw [← eS]
  have h := h S5 eS
  refine q_gi hs1.1 rfl ?_
  refine q_pi hs0.1 rfl ?_
  obtain ⟨S6, eS⟩ : ∃ z, z = uI S5 (a0) 5 ((sI S5 (a1) 5)) := ⟨_, rfl⟩
  rw [← eS]
  have h := h S6 eS
  refine q_gp hs1.1 rfl ?_
  refine q_gp hs0.1 rfl ?_
  refine q_cp hs1.2.2.2 hs0.2.2.2 (by decide) (by decide) (by decide) (by decide) (by decide) ?_
  obtain ⟨S7, eS⟩ : ∃ z, z = uA S6 ((a0 + 3)) (va_cpy (sR S6 ((a1 + 3))) (sR S6 ((a0 + 3))) (Int32.toNatClampNeg ((0 : Int32))) (Int32.toNatClampNeg ((0 : Int32))) (Int32.toNatClampNeg ((40 : Int32)))) := ⟨_, rfl⟩
  rw [← eS]
  have h := h S7 eS
  refine q_gi hs1.1 rfl ?_
  refine q_pi hs0.1 rfl ?_
  obtain ⟨S8, eS⟩ : ∃ z, z = uI S7 (a0) 9 ((sI S7 (a1) 9)) := ⟨_, rfl⟩
  rw [← eS]
  have h := h S8 eS
  exact ⟨_, rfl, h⟩

theorem zX9_isStopped_0 {d n : Nat} {S : gS} {P : gS → Bool → Prop} {a0 : Nat} {i1 : Int32} (hs0 : isW a0) (h : ((((sI S (a0) 1) >>> (i1 &&& 31)) &&& (1 : Int32)) = 0 → P S false) ∧ (¬ ((((sI S (a0) 1) >>> (i1 &&& 31)) &&& (1 : Int32)) = 0) → P S true)) : gG d mX9_isStopped 0 0 (g_Xz mX9_isStopped n 0 0 (hPz P)) 0 n (hH S) [some (.ref (a0)), some (.int (i1))] [] 0 0 := by
  refine kX9_isStopped_0  ?_
  refine q_gi hs0.1 rfl ?_
  refine ⟨fun c => ?_, fun c => ?_⟩
  · have h := h.1 c
    exact ⟨_, rfl, h⟩
  · have h := h.2 c
    exact ⟨_, rfl, h⟩

theorem zX9_ranOver_0 {d n : Nat} {S : gS} {P : gS → Bool → Prop} {a0 : Nat} {i1 : Int32} (hs0 : isW a0) (h : ((((sI S (a0) 6) >>> (i1 &&& 31)) &&& (1 : Int32)) = 0 → P S false) ∧ (¬ ((((sI S (a0) 6) >>> (i1 &&& 31)) &&& (1 : Int32)) = 0) → P S true)) : gG d mX9_ranOver 0 0 (g_Xz mX9_ranOver n 0 0 (hPz P)) 0 n (hH S) [some (.ref (a0)), some (.int (i1))] [] 0 0 := by
  refine kX9_ranOver_0  ?_
  refine q_gi hs0.1 rfl ?_
  refine ⟨fun c => ?_, fun c => ?_⟩
  · have h := h.1 c
    exact ⟨_, rfl, h⟩
  · have h := h.2 c
    exact ⟨_, rfl, h⟩

theorem zX9_addWater_0 {d n : Nat} {S : gS} {P : gS → Prop} {a0 : Nat} {i1 : Int32} {i2 : Int32} (hs0 : isW a0) (hd1 : 1 ≤ d) (h : vp_in (i1) 7 ∧ ((∀ S2, S2 = uR S ((a0 + 1)) (Int32.toNatClampNeg (i1)) ((if (99 : Int32) < ((sR S ((a0 + 1)) (Int32.toNatClampNeg (i1))) + i2) then (99 : Int32) else ((sR S ((a0 + 1)) (Int32.toNatClampNeg (i1))) + i2))) → P S2))) : gG d mX9_addWater 0 0 (g_Xv mX9_addWater n 0 0 (hPv P)) 0 n (hH S) [some (.ref (a0)), some (.int (i1)), some (.int (i2))] [] 0 0 := by
  refine kX9_addWater_0 hd1 ?_
  refine q_gp hs0.1 rfl ?_
  refine q_gp hs0.1 rfl ?_
  obtain ⟨hv1, h⟩ := h
  refine q_al (k := Int32.toNatClampNeg (i1)) hs0.2.1 (by decide) hv1 rfl ?_
  refine q_as (k := Int32.toNatClampNeg (i1)) hs0.2.1 (by decide) hv1 rfl ?_
  obtain ⟨S2, eS⟩ : ∃ z, z = uR S ((a0 + 1)) (Int32.toNatClampNeg (i1)) ((if (99 : Int32) < ((sR S ((a0 + 1)) (Int32.toNatClampNeg (i1))) + i2) then (99 : Int32) else ((sR S ((a0 + 1)) (Int32.toNatClampNeg (i1))) + i2))) := ⟨_, rfl⟩
  rw [← eS]
  have h := h S2 eS
  exact ⟨_, rfl, h⟩

theorem zX9_stopMouth_0 {d n : Nat} {S : gS} {P : gS → Bool → Prop} {a0 : Nat} {i1 : Int32} (hs0 : isW a0) (h : s_cz d mX9_isStopped n S [.ref (a0), .int (i1)] (fun S1 b2 => (b2 = true → gG d mX9_stopMouth 0 0 (g_Xz mX9_stopMouth n 0 0 (hPz P)) 14 n (hH S1) [some (.ref (a0)), some (.int (i1)), some (.int ((0 : Int32)))] [] 0 0) ∧ (b2 = false → gG d mX9_stopMouth 0 0 (g_Xz mX9_stopMouth n 0 0 (hPz P)) 14 n (hH S1) [some (.ref (a0)), some (.int (i1)), some (.int ((1 : Int32)))] [] 0 0))) : gG d mX9_stopMouth 0 0 (g_Xz mX9_stopMouth n 0 0 (hPz P)) 0 n (hH S) [some (.ref (a0)), some (.int (i1)), none] [] 0 0 := by
  refine kX9_stopMouth_0  ?_
  refine ⟨q_rc hs0.1, ?_⟩
  obtain ⟨d2, P2, hdd, hC, h⟩ := h
  refine ⟨d2, _, hdd, hC, fun H9 b2 hp => ?_⟩
  obtain ⟨S1, rfl, hp⟩ := hp
  have h := h S1 b2 hp
  refine ⟨fun c => ?_, fun c => ?_⟩
  · have h := h.1 c
    exact h
  · have h := h.2 c
    exact h
theorem zX9_stopMouth_14 {d n : Nat} {S : gS} {P : gS → Bool → Prop} {a0 : Nat} {i1 : Int32} {i2 : Int32} (hs0 : isW a0) (h : ∀ S1, S1 = uI S (a0) 1 (((sI S (a0) 1) ||| ((1 : Int32) <<< (i1 &&& 31)))) → ∃ b, i2 = g_b b ∧ P S1 b) : gG d mX9_stopMouth 0 0 (g_Xz mX9_stopMouth n 0 0 (hPz P)) 14 n (hH S) [some (.ref (a0)), some (.int (i1)), some (.int (i2))] [] 0 0 := by
  refine kX9_stopMouth_14  ?_
  refine q_gi hs0.1 rfl ?_
  refine q_pi hs0.1 rfl ?_
  obtain ⟨S1, eS⟩ : ∃ z, z = uI S (a0) 1 (((sI S (a0) 1) ||| ((1 : Int32) <<< (i1 &&& 31)))) := ⟨_, rfl⟩
  rw [← eS]
  have h := h S1 eS
  obtain ⟨b, hb, h⟩ := h
  exact ⟨b, hb, _, rfl, h⟩

theorem zX9_clearMouth_0 {d n : Nat} {S : gS} {P : gS → Bool → Prop} {a0 : Nat} {i1 : Int32} (hs0 : isW a0) (h : s_cz d mX9_isStopped n S [.ref (a0), .int (i1)] (fun S1 b2 => ∀ S3, S3 = uI S1 (a0) 1 (((sI S1 (a0) 1) &&& (((1 : Int32) <<< (i1 &&& 31)) ^^^ (-1 : Int32)))) → P S3 b2)) : gG d mX9_clearMouth 0 0 (g_Xz mX9_clearMouth n 0 0 (hPz P)) 0 n (hH S) [some (.ref (a0)), some (.int (i1)), none] [] 0 0 := by
  refine kX9_clearMouth_0  ?_
  refine ⟨q_rc hs0.1, ?_⟩
  obtain ⟨d2, P2, hdd, hC, h⟩ := h
  refine ⟨d2, _, hdd, hC, fun H9 b2 hp => ?_⟩
  obtain ⟨S1, rfl, hp⟩ := hp
  have h := h S1 b2 hp
  refine q_gi hs0.1 rfl ?_
  refine q_pi hs0.1 rfl ?_
  obtain ⟨S3, eS⟩ : ∃ z, z = uI S1 (a0) 1 (((sI S1 (a0) 1) &&& (((1 : Int32) <<< (i1 &&& 31)) ^^^ (-1 : Int32)))) := ⟨_, rfl⟩
  rw [← eS]
  have h := h S3 eS
  exact ⟨_, rfl, h⟩

theorem zX9_passMinute_0 {d n : Nat} {S : gS} {P : gS → Int32 → Prop} {a0 : Nat} {a1 : Nat} {i2 : Int32} (hs0 : isW a0) (hs1 : isF a1) (h : ∀ S1, S1 = uI S (a0) 6 ((0 : Int32)) → ∀ S2, S2 = uI S1 (a0) 7 ((0 : Int32)) → gG d mX9_passMinute 0 0 (g_Xj mX9_passMinute n 0 0 (hPi P)) 12 n (hH S2) [some (.ref (a0)), some (.ref (a1)), some (.int (i2)), some (.int ((0 : Int32)))] [] 0 0) : gG d mX9_passMinute 0 0 (g_Xj mX9_passMinute n 0 0 (hPi P)) 0 n (hH S) [some (.ref (a0)), some (.ref (a1)), some (.int (i2)), none] [] 0 0 := by
  refine kX9_passMinute_0  ?_
  refine q_pi hs0.1 rfl ?_
  obtain ⟨S1, eS⟩ : ∃ z, z = uI S (a0) 6 ((0 : Int32)) := ⟨_, rfl⟩
  rw [← eS]
  have h := h S1 eS
  refine q_pi hs0.1 rfl ?_
  obtain ⟨S2, eS⟩ : ∃ z, z = uI S1 (a0) 7 ((0 : Int32)) := ⟨_, rfl⟩
  rw [← eS]
  have h := h S2 eS
  exact h
theorem zX9_passMinute_12 {d n : Nat} {S : gS} {P : gS → Int32 → Prop} {a0 : Nat} {a1 : Nat} {i2 : Int32} {i3 : Int32} (hs0 : isW a0) (hs1 : isF a1) (h : ((sI S (a1) 0) ≤ i3 → gG d mX9_passMinute 0 0 (g_Xj mX9_passMinute n 0 0 (hPi P)) 45 n (hH S) [some (.ref (a0)), some (.ref (a1)), some (.int (i2)), some (.int ((0 : Int32)))] [] 0 0) ∧ (¬ ((sI S (a1) 0) ≤ i3) → vp_in (i3) 7 ∧ (((∀ S2, S2 = uR S ((a0 + 1)) (Int32.toNatClampNeg (i3)) (((sR S ((a0 + 1)) (Int32.toNatClampNeg (i3))) + (i2 * (sR S ((a1 + 4)) (Int32.toNatClampNeg (i3)))))) → gG d mX9_passMinute 0 0 (g_Xj mX9_passMinute n 0 0 (hPi P)) 12 n (hH S2) [some (.ref (a0)), some (.ref (a1)), some (.int (i2)), some (.int ((i3 + 1)))] [] 0 0))))) : gG d mX9_passMinute 0 0 (g_Xj mX9_passMinute n 0 0 (hPi P)) 12 n (hH S) [some (.ref (a0)), some (.ref (a1)), some (.int (i2)), some (.int (i3))] [] 0 0 := by
  refine kX9_passMinute_12  ?_
  refine q_gi hs1.1 rfl ?_
  refine ⟨fun c => ?_, fun c => ?_⟩
  · have h := h.1 c
    exact h
  · have h := h.2 c
    refine q_gp hs0.1 rfl ?_
    obtain ⟨hv1, h⟩ := h
    refine q_al (k := Int32.toNatClampNeg (i3)) hs0.2.1 (by decide) hv1 rfl ?_
    refine q_gp hs1.1 rfl ?_
    refine q_al (k := Int32.toNatClampNeg (i3)) hs1.2.2.2.2.1 (by decide) hv1 rfl ?_
    refine q_as (k := Int32.toNatClampNeg (i3)) hs0.2.1 (by decide) hv1 rfl ?_
    obtain ⟨S2, eS⟩ : ∃ z, z = uR S ((a0 + 1)) (Int32.toNatClampNeg (i3)) (((sR S ((a0 + 1)) (Int32.toNatClampNeg (i3))) + (i2 * (sR S ((a1 + 4)) (Int32.toNatClampNeg (i3)))))) := ⟨_, rfl⟩
    rw [← eS]
    have h := h S2 eS
    exact h
theorem zX9_passMinute_45 {d n : Nat} {S : gS} {P : gS → Int32 → Prop} {a0 : Nat} {a1 : Nat} {i2 : Int32} {i3 : Int32} (hs0 : isW a0) (hs1 : isF a1) (h : ((sI S (a1) 0) ≤ i3 → s_ci d mX9_soundingNow n S [.ref (a0), .ref (a1), .int (i2)] (fun S1 x2 => ∀ S3, S3 = uI S1 (a0) 4 (x2) → s_ci d mX1_readOf n S3 [.ref (a1), .int ((sI S3 (a0) 4))] (fun S4 x5 => ∀ S6, S6 = uI S4 (a0) 5 (x5) → ((sI S6 (a0) 5) = (-1 : Int32) → ∀ S7, S7 = uI S6 (a0) 0 (((sI S6 (a0) 0) + (1 : Int32))) → P S7 ((sI S7 (a0) 5))) ∧ (¬ ((sI S6 (a0) 5) = (-1 : Int32)) → ((40 : Int32) ≤ (sI S6 (a0) 9) → ∀ S8, S8 = uI S6 (a0) 0 (((sI S6 (a0) 0) + (1 : Int32))) → P S8 ((sI S8 (a0) 5))) ∧ (¬ ((40 : Int32) ≤ (sI S6 (a0) 9)) → vp_in ((sI S6 (a0) 9)) 40 ∧ (∀ S10, S10 = uR S6 ((a0 + 3)) (Int32.toNatClampNeg ((sI S6 (a0) 9))) ((sI S6 (a0) 5)) → ∀ S11, S11 = uI S10 (a0) 9 (((sI S10 (a0) 9) + (1 : Int32))) → ∀ S12, S12 = uI S11 (a0) 0 (((sI S11 (a0) 0) + (1 : Int32))) → P S12 ((sI S12 (a0) 5)))))))) ∧ (¬ ((sI S (a1) 0) ≤ i3) → vp_in (i3) 7 ∧ (s_cv d mX9_runOver n S [.ref (a0), .ref (a1), .int ((sR S ((a1 + 7)) (Int32.toNatClampNeg (i3))))] (fun S14 => (s_cv d mX9_spout n S14 [.ref (a0), .ref (a1), .int ((sR S14 ((a1 + 7)) (Int32.toNatClampNeg (i3))))] (fun S15 => gG d mX9_passMinute 0 0 (g_Xj mX9_passMinute n 0 0 (hPi P)) 45 n (hH S15) [some (.ref (a0)), some (.ref (a1)), some (.int (i2)), some (.int ((i3 + 1)))] [] 0 0)))))) : gG d mX9_passMinute 0 0 (g_Xj mX9_passMinute n 0 0 (hPi P)) 45 n (hH S) [some (.ref (a0)), some (.ref (a1)), some (.int (i2)), some (.int (i3))] [] 0 0 := by
  refine kX9_passMinute_45  ?_
  refine q_gi hs1.1 rfl ?_
  refine ⟨fun c => ?_, fun c => ?_⟩
  · have h := h.1 c
    refine ⟨q_rc hs0.1, ?_⟩
    obtain ⟨d2, P2, hdd, hC, h⟩ := h
    refine ⟨d2, _, hdd, hC, fun H9 x2 hp => ?_⟩
    obtain ⟨S1, rfl, hp⟩ := hp
    have h := h S1 x2 hp
    refine q_pi hs0.1 rfl ?_
    obtain ⟨S3, eS⟩ : ∃ z, z = uI S1 (a0) 4 (x2) := ⟨_, rfl⟩
    rw [← eS]
    have h := h S3 eS
    refine q_gi hs0.1 rfl ?_
    refine ⟨q_rc hs1.1, ?_⟩
    obtain ⟨d2, P2, hdd, hC, h⟩ := h
    refine ⟨d2, _, hdd, hC, fun H9 x5 hp => ?_⟩
    obtain ⟨S4, rfl, hp⟩ := hp
    have h := h S4 x5 hp
    refine q_pi hs0.1 rfl ?_
    obtain ⟨S6, eS⟩ : ∃ z, z = uI S4 (a0) 5 (x5) := ⟨_, rfl⟩
    rw [← eS]
    have h := h S6 eS
    refine q_gi hs0.1 rfl ?_
    refine ⟨fun c => ?_, fun c => ?_⟩
    · have h := h.1 c
      refine q_gi hs0.1 rfl ?_
      refine q_pi hs0.1 rfl ?_
      obtain ⟨S7, eS⟩ : ∃ z, z = uI S6 (a0) 0 (((sI S6 (a0) 0) + (1 : Int32))) := ⟨_, rfl⟩
      rw [← eS]
      have h := h S7 eS
      refine q_gi hs0.1 rfl ?_
      exact ⟨_, rfl, h⟩
    · have h := h.2 c
      refine q_gi hs0.1 rfl ?_
      refine ⟨fun c => ?_, fun c => ?_⟩
      · have h := h.1 c
        refine q_gi hs0.1 rfl ?_
        refine q_pi hs0.1 rfl ?_
        obtain ⟨S8, eS⟩ : ∃ z, z = uI S6 (a0) 0 (((sI S6 (a0) 0) + (1 : Int32))) := ⟨_, rfl⟩
        rw [← eS]
        have h := h S8 eS
        refine q_gi hs0.1 rfl ?_
        exact ⟨_, rfl, h⟩
      · have h := h.2 c
        refine q_gp hs0.1 rfl ?_
        refine q_gi hs0.1 rfl ?_
        refine q_gi hs0.1 rfl ?_
        obtain ⟨hv9, h⟩ := h
        refine q_as (k := Int32.toNatClampNeg ((sI S6 (a0) 9))) hs0.2.2.2 (by decide) hv9 rfl ?_
        obtain ⟨S10, eS⟩ : ∃ z, z = uR S6 ((a0 + 3)) (Int32.toNatClampNeg ((sI S6 (a0) 9))) ((sI S6 (a0) 5)) := ⟨_, rfl⟩
        rw [← eS]
        have h := h S10 eS
        refine q_gi hs0.1 rfl ?_
        refine q_pi hs0.1 rfl ?_
        obtain ⟨S11, eS⟩ : ∃ z, z = uI S10 (a0) 9 (((sI S10 (a0) 9) + (1 : Int32))) := ⟨_, rfl⟩
        rw [← eS]
        have h := h S11 eS
        refine q_gi hs0.1 rfl ?_
        refine q_pi hs0.1 rfl ?_
        obtain ⟨S12, eS⟩ : ∃ z, z = uI S11 (a0) 0 (((sI S11 (a0) 0) + (1 : Int32))) := ⟨_, rfl⟩
        rw [← eS]
        have h := h S12 eS
        refine q_gi hs0.1 rfl ?_
        exact ⟨_, rfl, h⟩
  · have h := h.2 c
    refine q_gp hs1.1 rfl ?_
    obtain ⟨hv13, h⟩ := h
    refine q_al (k := Int32.toNatClampNeg (i3)) hs1.2.2.2.2.2.2.2.1 (by decide) hv13 rfl ?_
    refine ⟨q_rc hs0.1, ?_⟩
    obtain ⟨d2, P2, hdd, hC, h⟩ := h
    refine ⟨d2, _, hdd, hC, fun H9 hp => ?_⟩
    obtain ⟨S14, rfl, hp⟩ := hp
    have h := h S14 hp
    refine q_gp hs1.1 rfl ?_
    refine q_al (k := Int32.toNatClampNeg (i3)) hs1.2.2.2.2.2.2.2.1 (by decide) hv13 rfl ?_
    refine ⟨q_rc hs0.1, ?_⟩
    obtain ⟨d2, P2, hdd, hC, h⟩ := h
    refine ⟨d2, _, hdd, hC, fun H9 hp => ?_⟩
    obtain ⟨S15, rfl, hp⟩ := hp
    have h := h S15 hp
    exact h

theorem zX9_runOver_0 {d n : Nat} {S : gS} {P : gS → Prop} {a0 : Nat} {a1 : Nat} {i2 : Int32} (hs0 : isW a0) (hs1 : isF a1) (h : vp_in (i2) 7 ∧ (((0 < ((sR S ((a0 + 1)) (Int32.toNatClampNeg (i2))) - (sR S ((a1 + 5)) (Int32.toNatClampNeg (i2)))) → ((∀ S2, S2 = uR S ((a0 + 1)) (Int32.toNatClampNeg (i2)) (((sR S ((a0 + 1)) (Int32.toNatClampNeg (i2))) - ((sR S ((a0 + 1)) (Int32.toNatClampNeg (i2))) - (sR S ((a1 + 5)) (Int32.toNatClampNeg (i2)))))) → ∀ S3, S3 = uI S2 (a0) 6 (((sI S2 (a0) 6) ||| ((1 : Int32) <<< (i2 &&& 31)))) → ((¬ ((sR S3 ((a1 + 6)) (Int32.toNatClampNeg (i2))) = (-1 : Int32)) → vp_in ((sR S3 ((a1 + 6)) (Int32.toNatClampNeg (i2)))) 7 ∧ ((∀ S5, S5 = uR S3 ((a0 + 1)) (Int32.toNatClampNeg ((sR S3 ((a1 + 6)) (Int32.toNatClampNeg (i2))))) (((sR S3 ((a0 + 1)) (Int32.toNatClampNeg ((sR S3 ((a1 + 6)) (Int32.toNatClampNeg (i2)))))) + ((sR S ((a0 + 1)) (Int32.toNatClampNeg (i2))) - (sR S ((a1 + 5)) (Int32.toNatClampNeg (i2)))))) → P S5))) ∧ ((sR S3 ((a1 + 6)) (Int32.toNatClampNeg (i2))) = (-1 : Int32) → ∀ S6, S6 = uI S3 (a0) 7 (((sI S3 (a0) 7) + ((sR S ((a0 + 1)) (Int32.toNatClampNeg (i2))) - (sR S ((a1 + 5)) (Int32.toNatClampNeg (i2)))))) → P S6))))) ∧ (¬ (0 < ((sR S ((a0 + 1)) (Int32.toNatClampNeg (i2))) - (sR S ((a1 + 5)) (Int32.toNatClampNeg (i2))))) → P S)))) : gG d mX9_runOver 0 0 (g_Xv mX9_runOver n 0 0 (hPv P)) 0 n (hH S) [some (.ref (a0)), some (.ref (a1)), some (.int (i2)), none, none] [] 0 0 := by
  refine kX9_runOver_0  ?_
  refine q_gp hs0.1 rfl ?_
  obtain ⟨hv1, h⟩ := h
  refine q_al (k := Int32.toNatClampNeg (i2)) hs0.2.1 (by decide) hv1 rfl ?_
  refine q_gp hs1.1 rfl ?_
  refine q_al (k := Int32.toNatClampNeg (i2)) hs1.2.2.2.2.2.1 (by decide) hv1 rfl ?_
  refine ⟨fun c => ?_, fun c => ?_⟩
  · have h := h.1 c
    refine q_gp hs0.1 rfl ?_
    refine q_al (k := Int32.toNatClampNeg (i2)) hs0.2.1 (by decide) hv1 rfl ?_
    refine q_as (k := Int32.toNatClampNeg (i2)) hs0.2.1 (by decide) hv1 rfl ?_
    obtain ⟨S2, eS⟩ : ∃ z, z = uR S ((a0 + 1)) (Int32.toNatClampNeg (i2)) (((sR S ((a0 + 1)) (Int32.toNatClampNeg (i2))) - ((sR S ((a0 + 1)) (Int32.toNatClampNeg (i2))) - (sR S ((a1 + 5)) (Int32.toNatClampNeg (i2)))))) := ⟨_, rfl⟩
    rw [← eS]
    have h := h S2 eS
    refine q_gi hs0.1 rfl ?_
    refine q_pi hs0.1 rfl ?_
    obtain ⟨S3, eS⟩ : ∃ z, z = uI S2 (a0) 6 (((sI S2 (a0) 6) ||| ((1 : Int32) <<< (i2 &&& 31)))) := ⟨_, rfl⟩
    rw [← eS]
    have h := h S3 eS
    refine q_gp hs1.1 rfl ?_
    refine q_al (k := Int32.toNatClampNeg (i2)) hs1.2.2.2.2.2.2.1 (by decide) hv1 rfl ?_
    refine ⟨fun c => ?_, fun c => ?_⟩
    · have h := h.1 c
      refine q_gp hs0.1 rfl ?_
      obtain ⟨hv4, h⟩ := h
      refine q_al (k := Int32.toNatClampNeg ((sR S3 ((a1 + 6)) (Int32.toNatClampNeg (i2))))) hs0.2.1 (by decide) hv4 rfl ?_
      refine q_as (k := Int32.toNatClampNeg ((sR S3 ((a1 + 6)) (Int32.toNatClampNeg (i2))))) hs0.2.1 (by decide) hv4 rfl ?_
      obtain ⟨S5, eS⟩ : ∃ z, z = uR S3 ((a0 + 1)) (Int32.toNatClampNeg ((sR S3 ((a1 + 6)) (Int32.toNatClampNeg (i2))))) (((sR S3 ((a0 + 1)) (Int32.toNatClampNeg ((sR S3 ((a1 + 6)) (Int32.toNatClampNeg (i2)))))) + ((sR S ((a0 + 1)) (Int32.toNatClampNeg (i2))) - (sR S ((a1 + 5)) (Int32.toNatClampNeg (i2)))))) := ⟨_, rfl⟩
      rw [← eS]
      have h := h S5 eS
      exact ⟨_, rfl, h⟩
    · have h := h.2 c
      refine q_gi hs0.1 rfl ?_
      refine q_pi hs0.1 rfl ?_
      obtain ⟨S6, eS⟩ : ∃ z, z = uI S3 (a0) 7 (((sI S3 (a0) 7) + ((sR S ((a0 + 1)) (Int32.toNatClampNeg (i2))) - (sR S ((a1 + 5)) (Int32.toNatClampNeg (i2)))))) := ⟨_, rfl⟩
      rw [← eS]
      have h := h S6 eS
      exact ⟨_, rfl, h⟩
  · have h := h.2 c
    exact ⟨_, rfl, h⟩

theorem zX9_spout_0 {d n : Nat} {S : gS} {P : gS → Prop} {a0 : Nat} {a1 : Nat} {i2 : Int32} (hs0 : isW a0) (hs1 : isF a1) (hd1 : 1 ≤ d) (h : s_cz d mX9_isStopped n S [.ref (a0), .int (i2)] (fun S1 b2 => (b2 = false → vp_in (i2) 7 ∧ (s_ci d mX1_mostSpouted n S1 [.ref (a1), .int (i2)] (fun S4 x5 => (∀ S6, S6 = uR S4 ((a0 + 2)) (Int32.toNatClampNeg (i2)) ((if x5 < (sR S1 ((a0 + 1)) (Int32.toNatClampNeg (i2))) then x5 else (sR S1 ((a0 + 1)) (Int32.toNatClampNeg (i2))))) → gG d mX9_spout 0 0 (g_Xv mX9_spout n 0 0 (hPv P)) 32 n (hH S6) [some (.ref (a0)), none, some (.int (i2))] [] 0 0)))) ∧ (b2 = true → vp_in (i2) 7 ∧ (∀ S8, S8 = uR S1 ((a0 + 2)) (Int32.toNatClampNeg (i2)) ((0 : Int32)) → gG d mX9_spout 0 0 (g_Xv mX9_spout n 0 0 (hPv P)) 32 n (hH S8) [some (.ref (a0)), none, some (.int (i2))] [] 0 0)))) : gG d mX9_spout 0 0 (g_Xv mX9_spout n 0 0 (hPv P)) 0 n (hH S) [some (.ref (a0)), some (.ref (a1)), some (.int (i2))] [] 0 0 := by
  refine kX9_spout_0 hd1 ?_
  refine q_gp hs0.1 rfl ?_
  refine ⟨q_rc hs0.1, ?_⟩
  obtain ⟨d2, P2, hdd, hC, h⟩ := h
  refine ⟨d2, _, hdd, hC, fun H9 b2 hp => ?_⟩
  obtain ⟨S1, rfl, hp⟩ := hp
  have h := h S1 b2 hp
  refine ⟨fun c => ?_, fun c => ?_⟩
  · have h := h.1 c
    refine q_gp hs0.1 rfl ?_
    obtain ⟨hv3, h⟩ := h
    refine q_al (k := Int32.toNatClampNeg (i2)) hs0.2.1 (by decide) hv3 rfl ?_
    refine ⟨q_rc hs1.1, ?_⟩
    obtain ⟨d2, P2, hdd, hC, h⟩ := h
    refine ⟨d2, _, hdd, hC, fun H9 x5 hp => ?_⟩
    obtain ⟨S4, rfl, hp⟩ := hp
    have h := h S4 x5 hp
    refine q_as (k := Int32.toNatClampNeg (i2)) hs0.2.2.1 (by decide) hv3 rfl ?_
    obtain ⟨S6, eS⟩ : ∃ z, z = uR S4 ((a0 + 2)) (Int32.toNatClampNeg (i2)) ((if x5 < (sR S1 ((a0 + 1)) (Int32.toNatClampNeg (i2))) then x5 else (sR S1 ((a0 + 1)) (Int32.toNatClampNeg (i2))))) := ⟨_, rfl⟩
    rw [← eS]
    have h := h S6 eS
    exact h
  · have h := h.2 c
    obtain ⟨hv7, h⟩ := h
    refine q_as (k := Int32.toNatClampNeg (i2)) hs0.2.2.1 (by decide) hv7 rfl ?_
    obtain ⟨S8, eS⟩ : ∃ z, z = uR S1 ((a0 + 2)) (Int32.toNatClampNeg (i2)) ((0 : Int32)) := ⟨_, rfl⟩
    rw [← eS]
    have h := h S8 eS
    exact h
theorem zX9_spout_32 {d n : Nat} {S : gS} {P : gS → Prop} {a0 : Nat} {i2 : Int32} (hs0 : isW a0) (h : vp_in (i2) 7 ∧ (((∀ S2, S2 = uR S ((a0 + 1)) (Int32.toNatClampNeg (i2)) (((sR S ((a0 + 1)) (Int32.toNatClampNeg (i2))) - (sR S ((a0 + 2)) (Int32.toNatClampNeg (i2))))) → P S2)))) : gG d mX9_spout 0 0 (g_Xv mX9_spout n 0 0 (hPv P)) 32 n (hH S) [some (.ref (a0)), none, some (.int (i2))] [] 0 0 := by
  refine kX9_spout_32  ?_
  refine q_gp hs0.1 rfl ?_
  obtain ⟨hv1, h⟩ := h
  refine q_al (k := Int32.toNatClampNeg (i2)) hs0.2.1 (by decide) hv1 rfl ?_
  refine q_gp hs0.1 rfl ?_
  refine q_al (k := Int32.toNatClampNeg (i2)) hs0.2.2.1 (by decide) hv1 rfl ?_
  refine q_as (k := Int32.toNatClampNeg (i2)) hs0.2.1 (by decide) hv1 rfl ?_
  obtain ⟨S2, eS⟩ : ∃ z, z = uR S ((a0 + 1)) (Int32.toNatClampNeg (i2)) (((sR S ((a0 + 1)) (Int32.toNatClampNeg (i2))) - (sR S ((a0 + 2)) (Int32.toNatClampNeg (i2))))) := ⟨_, rfl⟩
  rw [← eS]
  have h := h S2 eS
  exact ⟨_, rfl, h⟩

theorem zX9_soundingNow_0 {d n : Nat} {S : gS} {P : gS → Int32 → Prop} {a0 : Nat} {a1 : Nat} {i2 : Int32} (hs0 : isW a0) (hs1 : isF a1) (h : gG d mX9_soundingNow 0 0 (g_Xj mX9_soundingNow n 0 0 (hPi P)) 5 n (hH S) [some (.ref (a0)), some (.ref (a1)), some (.int (i2)), some (.int ((0 : Int32))), some (.int ((0 : Int32)))] [] 0 0) : gG d mX9_soundingNow 0 0 (g_Xj mX9_soundingNow n 0 0 (hPi P)) 0 n (hH S) [some (.ref (a0)), some (.ref (a1)), some (.int (i2)), none, none] [] 0 0 := by
  refine kX9_soundingNow_0  ?_
  exact h
theorem zX9_soundingNow_5 {d n : Nat} {S : gS} {P : gS → Int32 → Prop} {a0 : Nat} {a1 : Nat} {i2 : Int32} {i3 : Int32} {i4 : Int32} (hs0 : isW a0) (hs1 : isF a1) (h : ((sI S (a1) 0) ≤ i4 → P S (i3)) ∧ (¬ ((sI S (a1) 0) ≤ i4) → vp_in (i4) 7 ∧ (((s_ci d mX3_valueFor n S [.ref ((a1 + 11)), .int ((sR S ((a0 + 2)) (Int32.toNatClampNeg (i4)))), .int ((sR S ((a0 + 1)) (Int32.toNatClampNeg (i4)))), .int ((sR S ((a1 + 3)) (Int32.toNatClampNeg (i4)))), .int (i2)] (fun S2 x3 => (x3 = 0 → gG d mX9_soundingNow 0 0 (g_Xj mX9_soundingNow n 0 0 (hPi P)) 5 n (hH S2) [some (.ref (a0)), some (.ref (a1)), some (.int (i2)), some (.int (i3)), some (.int ((i4 + 1)))] [] 0 0) ∧ (¬ (x3 = 0) → gG d mX9_soundingNow 0 0 (g_Xj mX9_soundingNow n 0 0 (hPi P)) 5 n (hH S2) [some (.ref (a0)), some (.ref (a1)), some (.int (i2)), some (.int ((i3 ||| ((1 : Int32) <<< (i4 &&& 31))))), some (.int ((i4 + 1)))] [] 0 0))))))) : gG d mX9_soundingNow 0 0 (g_Xj mX9_soundingNow n 0 0 (hPi P)) 5 n (hH S) [some (.ref (a0)), some (.ref (a1)), some (.int (i2)), some (.int (i3)), some (.int (i4))] [] 0 0 := by
  refine kX9_soundingNow_5  ?_
  refine q_gi hs1.1 rfl ?_
  refine ⟨fun c => ?_, fun c => ?_⟩
  · have h := h.1 c
    exact ⟨_, rfl, h⟩
  · have h := h.2 c
    refine q_gp hs1.1 rfl ?_
    refine q_gp hs0.1 rfl ?_
    obtain ⟨hv1, h⟩ := h
    refine q_al (k := Int32.toNatClampNeg (i4)) hs0.2.2.1 (by decide) hv1 rfl ?_
    refine q_gp hs0.1 rfl ?_
    refine q_al (k := Int32.toNatClampNeg (i4)) hs0.2.1 (by decide) hv1 rfl ?_
    refine q_gp hs1.1 rfl ?_
    refine q_al (k := Int32.toNatClampNeg (i4)) hs1.2.2.2.1 (by decide) hv1 rfl ?_
    refine ⟨q_rc hs1.2.2.2.2.2.2.2.2.2.2.2.1, ?_⟩
    obtain ⟨d2, P2, hdd, hC, h⟩ := h
    refine ⟨d2, _, hdd, hC, fun H9 x3 hp => ?_⟩
    obtain ⟨S2, rfl, hp⟩ := hp
    have h := h S2 x3 hp
    refine ⟨fun c => ?_, fun c => ?_⟩
    · have h := h.1 c
      exact h
    · have h := h.2 c
      exact h

theorem zX9_allWater_0 {d n : Nat} {S : gS} {P : gS → Int32 → Prop} {a0 : Nat} {i1 : Int32} (hs0 : isW a0) (h : gG d mX9_allWater 0 0 (g_Xj mX9_allWater n 0 0 (hPi P)) 4 n (hH S) [some (.ref (a0)), some (.int (i1)), some (.int ((0 : Int32))), some (.int ((0 : Int32)))] [] 0 0) : gG d mX9_allWater 0 0 (g_Xj mX9_allWater n 0 0 (hPi P)) 0 n (hH S) [some (.ref (a0)), some (.int (i1)), none, none] [] 0 0 := by
  refine kX9_allWater_0  ?_
  exact h
theorem zX9_allWater_4 {d n : Nat} {S : gS} {P : gS → Int32 → Prop} {a0 : Nat} {i1 : Int32} {i2 : Int32} {i3 : Int32} (hs0 : isW a0) (h : (i1 ≤ i3 → P S (i2)) ∧ (¬ (i1 ≤ i3) → ((7 : Int32) ≤ i3 → P S (i2)) ∧ (¬ ((7 : Int32) ≤ i3) → vp_in (i3) 7 ∧ (gG d mX9_allWater 0 0 (g_Xj mX9_allWater n 0 0 (hPi P)) 4 n (hH S) [some (.ref (a0)), some (.int (i1)), some (.int ((i2 + (sR S ((a0 + 1)) (Int32.toNatClampNeg (i3)))))), some (.int ((i3 + 1)))] [] 0 0)))) : gG d mX9_allWater 0 0 (g_Xj mX9_allWater n 0 0 (hPi P)) 4 n (hH S) [some (.ref (a0)), some (.int (i1)), some (.int (i2)), some (.int (i3))] [] 0 0 := by
  refine kX9_allWater_4  ?_
  refine ⟨fun c => ?_, fun c => ?_⟩
  · have h := h.1 c
    exact ⟨_, rfl, h⟩
  · have h := h.2 c
    refine ⟨fun c => ?_, fun c => ?_⟩
    · have h := h.1 c
      exact ⟨_, rfl, h⟩
    · have h := h.2 c
      refine q_gp hs0.1 rfl ?_
      obtain ⟨hv1, h⟩ := h
      refine q_al (k := Int32.toNatClampNeg (i3)) hs0.2.1 (by decide) hv1 rfl ?_
      exact h

theorem zX9_flowsUnlike_0 {d n : Nat} {S : gS} {P : gS → Int32 → Prop} {a0 : Nat} {i1 : Int32} {i2 : Int32} (hs0 : isW a0) (h : gG d mX9_flowsUnlike 0 0 (g_Xj mX9_flowsUnlike n 0 0 (hPi P)) 5 n (hH S) [some (.ref (a0)), some (.int (i1)), some (.int (i2)), some (.int ((0 : Int32))), some (.int ((0 : Int32)))] [] 0 0) : gG d mX9_flowsUnlike 0 0 (g_Xj mX9_flowsUnlike n 0 0 (hPi P)) 0 n (hH S) [some (.ref (a0)), some (.int (i1)), some (.int (i2)), none, none] [] 0 0 := by
  refine kX9_flowsUnlike_0  ?_
  exact h
theorem zX9_flowsUnlike_5 {d n : Nat} {S : gS} {P : gS → Int32 → Prop} {a0 : Nat} {i1 : Int32} {i2 : Int32} {i3 : Int32} {i4 : Int32} (hs0 : isW a0) (h : (i2 ≤ i4 → P S (i3)) ∧ (¬ (i2 ≤ i4) → ((7 : Int32) ≤ i4 → P S (i3)) ∧ (¬ ((7 : Int32) ≤ i4) → vp_in (i4) 7 ∧ (vp_in (i1) 7 ∧ (((sR S ((a0 + 2)) (Int32.toNatClampNeg (i4))) = (sR S ((a0 + 2)) (Int32.toNatClampNeg (i1))) → gG d mX9_flowsUnlike 0 0 (g_Xj mX9_flowsUnlike n 0 0 (hPi P)) 5 n (hH S) [some (.ref (a0)), some (.int (i1)), some (.int (i2)), some (.int (i3)), some (.int ((i4 + 1)))] [] 0 0) ∧ (¬ ((sR S ((a0 + 2)) (Int32.toNatClampNeg (i4))) = (sR S ((a0 + 2)) (Int32.toNatClampNeg (i1)))) → gG d mX9_flowsUnlike 0 0 (g_Xj mX9_flowsUnlike n 0 0 (hPi P)) 5 n (hH S) [some (.ref (a0)), some (.int (i1)), some (.int (i2)), some (.int ((i3 ||| ((1 : Int32) <<< (i4 &&& 31))))), some (.int ((i4 + 1)))] [] 0 0)))))) : gG d mX9_flowsUnlike 0 0 (g_Xj mX9_flowsUnlike n 0 0 (hPi P)) 5 n (hH S) [some (.ref (a0)), some (.int (i1)), some (.int (i2)), some (.int (i3)), some (.int (i4))] [] 0 0 := by
  refine kX9_flowsUnlike_5  ?_
  refine ⟨fun c => ?_, fun c => ?_⟩
  · have h := h.1 c
    exact ⟨_, rfl, h⟩
  · have h := h.2 c
    refine ⟨fun c => ?_, fun c => ?_⟩
    · have h := h.1 c
      exact ⟨_, rfl, h⟩
    · have h := h.2 c
      refine q_gp hs0.1 rfl ?_
      obtain ⟨hv1, h⟩ := h
      refine q_al (k := Int32.toNatClampNeg (i4)) hs0.2.2.1 (by decide) hv1 rfl ?_
      refine q_gp hs0.1 rfl ?_
      obtain ⟨hv2, h⟩ := h
      refine q_al (k := Int32.toNatClampNeg (i1)) hs0.2.2.1 (by decide) hv2 rfl ?_
      refine ⟨fun c => ?_, fun c => ?_⟩
      · have h := h.1 c
        exact h
      · have h := h.2 c
        exact h

theorem zX9_signsLike_0 {d n : Nat} {S : gS} {P : gS → Int32 → Prop} {a0 : Nat} {i1 : Int32} (hs0 : isW a0) (h : gG d mX9_signsLike 0 0 (g_Xj mX9_signsLike n 0 0 (hPi P)) 4 n (hH S) [some (.ref (a0)), some (.int (i1)), some (.int ((0 : Int32))), some (.int ((0 : Int32)))] [] 0 0) : gG d mX9_signsLike 0 0 (g_Xj mX9_signsLike n 0 0 (hPi P)) 0 n (hH S) [some (.ref (a0)), some (.int (i1)), none, none] [] 0 0 := by
  refine kX9_signsLike_0  ?_
  exact h
theorem zX9_signsLike_4 {d n : Nat} {S : gS} {P : gS → Int32 → Prop} {a0 : Nat} {i1 : Int32} {i2 : Int32} {i3 : Int32} (hs0 : isW a0) (h : ((sI S (a0) 9) ≤ i3 → P S (i2)) ∧ (¬ ((sI S (a0) 9) ≤ i3) → vp_in (i3) 40 ∧ ((¬ ((sR S ((a0 + 3)) (Int32.toNatClampNeg (i3))) = i1) → gG d mX9_signsLike 0 0 (g_Xj mX9_signsLike n 0 0 (hPi P)) 4 n (hH S) [some (.ref (a0)), some (.int (i1)), some (.int (i2)), some (.int ((i3 + 1)))] [] 0 0) ∧ ((sR S ((a0 + 3)) (Int32.toNatClampNeg (i3))) = i1 → gG d mX9_signsLike 0 0 (g_Xj mX9_signsLike n 0 0 (hPi P)) 4 n (hH S) [some (.ref (a0)), some (.int (i1)), some (.int ((i2 + 1))), some (.int ((i3 + 1)))] [] 0 0)))) : gG d mX9_signsLike 0 0 (g_Xj mX9_signsLike n 0 0 (hPi P)) 4 n (hH S) [some (.ref (a0)), some (.int (i1)), some (.int (i2)), some (.int (i3))] [] 0 0 := by
  refine kX9_signsLike_4  ?_
  refine q_gi hs0.1 rfl ?_
  refine ⟨fun c => ?_, fun c => ?_⟩
  · have h := h.1 c
    exact ⟨_, rfl, h⟩
  · have h := h.2 c
    refine q_gp hs0.1 rfl ?_
    obtain ⟨hv1, h⟩ := h
    refine q_al (k := Int32.toNatClampNeg (i3)) hs0.2.2.2 (by decide) hv1 rfl ?_
    refine ⟨fun c => ?_, fun c => ?_⟩
    · have h := h.1 c
      exact h
    · have h := h.2 c
      exact h

theorem zX9_placeOf_0 {d n : Nat} {S : gS} {P : gS → Int32 → Prop} {a0 : Nat} {a1 : Nat} (hs0 : isW a0) (hs1 : isWd a1) (h : (¬ ((sI S (a1) 0) = 0) → gG d mX9_placeOf 0 0 (g_Xj mX9_placeOf n 0 0 (hPi P)) 11 n (hH S) [some (.ref (a0)), some (.ref (a1)), some (.int ((0 : Int32)))] [] 0 0) ∧ ((sI S (a1) 0) = 0 → P S ((-1 : Int32)))) : gG d mX9_placeOf 0 0 (g_Xj mX9_placeOf n 0 0 (hPi P)) 0 n (hH S) [some (.ref (a0)), some (.ref (a1)), none] [] 0 0 := by
  refine kX9_placeOf_0  ?_
  refine q_gi hs1.1 rfl ?_
  refine ⟨fun c => ?_, fun c => ?_⟩
  · have h := h.1 c
    exact h
  · have h := h.2 c
    exact ⟨_, rfl, h⟩
theorem zX9_placeOf_11 {d n : Nat} {S : gS} {P : gS → Int32 → Prop} {a0 : Nat} {a1 : Nat} {i2 : Int32} (hs0 : isW a0) (hs1 : isWd a1) (h : ((sI S (a0) 9) < (i2 + (sI S (a1) 0)) → P S ((-1 : Int32))) ∧ (¬ ((sI S (a0) 9) < (i2 + (sI S (a1) 0))) → s_cz d mX9_fitsAt n S [.ref (a0), .int (i2), .ref (a1), .int ((0 : Int32))] (fun S1 b2 => (b2 = false → gG d mX9_placeOf 0 0 (g_Xj mX9_placeOf n 0 0 (hPi P)) 11 n (hH S1) [some (.ref (a0)), some (.ref (a1)), some (.int ((i2 + 1)))] [] 0 0) ∧ (b2 = true → P S1 (i2))))) : gG d mX9_placeOf 0 0 (g_Xj mX9_placeOf n 0 0 (hPi P)) 11 n (hH S) [some (.ref (a0)), some (.ref (a1)), some (.int (i2))] [] 0 0 := by
  refine kX9_placeOf_11  ?_
  refine q_gi hs1.1 rfl ?_
  refine q_gi hs0.1 rfl ?_
  refine ⟨fun c => ?_, fun c => ?_⟩
  · have h := h.1 c
    exact ⟨_, rfl, h⟩
  · have h := h.2 c
    refine ⟨q_rc hs0.1, ?_⟩
    obtain ⟨d2, P2, hdd, hC, h⟩ := h
    refine ⟨d2, _, hdd, hC, fun H9 b2 hp => ?_⟩
    obtain ⟨S1, rfl, hp⟩ := hp
    have h := h S1 b2 hp
    refine ⟨fun c => ?_, fun c => ?_⟩
    · have h := h.1 c
      exact h
    · have h := h.2 c
      exact ⟨_, rfl, h⟩

theorem zX9_placesFor_0 {d n : Nat} {S : gS} {P : gS → Int32 → Prop} {a0 : Nat} {a1 : Nat} (hs0 : isW a0) (hs1 : isWd a1) (h : gG d mX9_placesFor 0 0 (g_Xj mX9_placesFor n 0 0 (hPi P)) 4 n (hH S) [some (.ref (a0)), some (.ref (a1)), some (.int ((0 : Int32))), some (.int ((0 : Int32)))] [] 0 0) : gG d mX9_placesFor 0 0 (g_Xj mX9_placesFor n 0 0 (hPi P)) 0 n (hH S) [some (.ref (a0)), some (.ref (a1)), none, none] [] 0 0 := by
  refine kX9_placesFor_0  ?_
  exact h
theorem zX9_placesFor_4 {d n : Nat} {S : gS} {P : gS → Int32 → Prop} {a0 : Nat} {a1 : Nat} {i2 : Int32} {i3 : Int32} (hs0 : isW a0) (hs1 : isWd a1) (h : ((sI S (a0) 9) < (i3 + (sI S (a1) 0)) → P S (i2)) ∧ (¬ ((sI S (a0) 9) < (i3 + (sI S (a1) 0))) → s_cz d mX9_fitsAt n S [.ref (a0), .int (i3), .ref (a1), .int ((1 : Int32))] (fun S1 b2 => (b2 = false → gG d mX9_placesFor 0 0 (g_Xj mX9_placesFor n 0 0 (hPi P)) 4 n (hH S1) [some (.ref (a0)), some (.ref (a1)), some (.int (i2)), some (.int ((i3 + 1)))] [] 0 0) ∧ (b2 = true → gG d mX9_placesFor 0 0 (g_Xj mX9_placesFor n 0 0 (hPi P)) 4 n (hH S1) [some (.ref (a0)), some (.ref (a1)), some (.int ((i2 + 1))), some (.int ((i3 + 1)))] [] 0 0)))) : gG d mX9_placesFor 0 0 (g_Xj mX9_placesFor n 0 0 (hPi P)) 4 n (hH S) [some (.ref (a0)), some (.ref (a1)), some (.int (i2)), some (.int (i3))] [] 0 0 := by
  refine kX9_placesFor_4  ?_
  refine q_gi hs1.1 rfl ?_
  refine q_gi hs0.1 rfl ?_
  refine ⟨fun c => ?_, fun c => ?_⟩
  · have h := h.1 c
    exact ⟨_, rfl, h⟩
  · have h := h.2 c
    refine ⟨q_rc hs0.1, ?_⟩
    obtain ⟨d2, P2, hdd, hC, h⟩ := h
    refine ⟨d2, _, hdd, hC, fun H9 b2 hp => ?_⟩
    obtain ⟨S1, rfl, hp⟩ := hp
    have h := h S1 b2 hp
    refine ⟨fun c => ?_, fun c => ?_⟩
    · have h := h.1 c
      exact h
    · have h := h.2 c
      exact h

theorem zX9_fitsAt_0 {d n : Nat} {S : gS} {P : gS → Bool → Prop} {a0 : Nat} {i1 : Int32} {a2 : Nat} {i3 : Int32} (hs0 : isW a0) (hs2 : isWd a2) (h : gG d mX9_fitsAt 0 0 (g_Xz mX9_fitsAt n 0 0 (hPz P)) 3 n (hH S) [some (.ref (a0)), some (.int (i1)), some (.ref (a2)), some (.int (i3)), some (.int ((0 : Int32))), none, none] [] 0 0) : gG d mX9_fitsAt 0 0 (g_Xz mX9_fitsAt n 0 0 (hPz P)) 0 n (hH S) [some (.ref (a0)), some (.int (i1)), some (.ref (a2)), some (.int (i3)), none, none, none] [] 0 0 := by
  refine kX9_fitsAt_0  ?_
  exact h
theorem zX9_fitsAt_3 {d n : Nat} {S : gS} {P : gS → Bool → Prop} {a0 : Nat} {i1 : Int32} {a2 : Nat} {i3 : Int32} {i4 : Int32} (hs0 : isW a0) (hs2 : isWd a2) (h : ((sI S (a2) 0) ≤ i4 → P S true) ∧ (¬ ((sI S (a2) 0) ≤ i4) → vp_in ((i1 + i4)) 40 ∧ (vp_in (i4) 7 ∧ (((sR S ((a0 + 3)) (Int32.toNatClampNeg ((i1 + i4)))) = (sR S ((a2 + 1)) (Int32.toNatClampNeg (i4))) → gG d mX9_fitsAt 0 0 (g_Xz mX9_fitsAt n 0 0 (hPz P)) 46 n (hH S) [some (.ref (a0)), some (.int (i1)), some (.ref (a2)), some (.int (i3)), some (.int (i4)), none, none] [] 0 0) ∧ (¬ ((sR S ((a0 + 3)) (Int32.toNatClampNeg ((i1 + i4)))) = (sR S ((a2 + 1)) (Int32.toNatClampNeg (i4)))) → (i3 = 0 → P S false) ∧ (¬ (i3 = 0) → (¬ ((sR S ((a0 + 3)) (Int32.toNatClampNeg ((i1 + i4)))) = (6 : Int32)) → P S false) ∧ ((sR S ((a0 + 3)) (Int32.toNatClampNeg ((i1 + i4)))) = (6 : Int32) → gG d mX9_fitsAt 0 0 (g_Xz mX9_fitsAt n 0 0 (hPz P)) 46 n (hH S) [some (.ref (a0)), some (.int (i1)), some (.ref (a2)), some (.int (i3)), some (.int (i4)), none, none] [] 0 0))))))) : gG d mX9_fitsAt 0 0 (g_Xz mX9_fitsAt n 0 0 (hPz P)) 3 n (hH S) [some (.ref (a0)), some (.int (i1)), some (.ref (a2)), some (.int (i3)), some (.int (i4)), none, none] [] 0 0 := by
  refine kX9_fitsAt_3  ?_
  refine q_gi hs2.1 rfl ?_
  refine ⟨fun c => ?_, fun c => ?_⟩
  · have h := h.1 c
    exact ⟨_, rfl, h⟩
  · have h := h.2 c
    refine q_gp hs0.1 rfl ?_
    obtain ⟨hv1, h⟩ := h
    refine q_al (k := Int32.toNatClampNeg ((i1 + i4))) hs0.2.2.2 (by decide) hv1 rfl ?_
    refine q_gp hs2.1 rfl ?_
    obtain ⟨hv2, h⟩ := h
    refine q_al (k := Int32.toNatClampNeg (i4)) hs2.2 (by decide) hv2 rfl ?_
    refine ⟨fun c => ?_, fun c => ?_⟩
    · have h := h.1 c
      exact h
    · have h := h.2 c
      refine ⟨fun c => ?_, fun c => ?_⟩
      · have h := h.1 c
        exact ⟨_, rfl, h⟩
      · have h := h.2 c
        refine ⟨fun c => ?_, fun c => ?_⟩
        · have h := h.1 c
          exact ⟨_, rfl, h⟩
        · have h := h.2 c
          exact h
theorem zX9_fitsAt_46 {d n : Nat} {S : gS} {P : gS → Bool → Prop} {a0 : Nat} {i1 : Int32} {a2 : Nat} {i3 : Int32} {i4 : Int32} (hs0 : isW a0) (hs2 : isWd a2) (h : gG d mX9_fitsAt 0 0 (g_Xz mX9_fitsAt n 0 0 (hPz P)) 3 n (hH S) [some (.ref (a0)), some (.int (i1)), some (.ref (a2)), some (.int (i3)), some (.int ((i4 + 1))), none, none] [] 0 0) : gG d mX9_fitsAt 0 0 (g_Xz mX9_fitsAt n 0 0 (hPz P)) 46 n (hH S) [some (.ref (a0)), some (.int (i1)), some (.ref (a2)), some (.int (i3)), some (.int (i4)), none, none] [] 0 0 := by
  refine kX9_fitsAt_46  ?_
  exact h

theorem zX10_copyFrom_0 {d n : Nat} {S : gS} {P : gS → Prop} {a0 : Nat} {a1 : Nat} (hs0 : isWd a0) (hs1 : isWd a1) (hd1 : 1 ≤ d) (h : ∀ S1, S1 = uI S (a0) 0 ((sI S (a1) 0)) → ∀ S2, S2 = uA S1 ((a0 + 1)) (va_cpy (sR S1 ((a1 + 1))) (sR S1 ((a0 + 1))) (Int32.toNatClampNeg ((0 : Int32))) (Int32.toNatClampNeg ((0 : Int32))) (Int32.toNatClampNeg ((7 : Int32)))) → P S2) : gG d mX10_copyFrom 0 0 (g_Xv mX10_copyFrom n 0 0 (hPv P)) 0 n (hH S) [some (.ref (a0)), some (.ref (a1))] [] 0 0 := by
  refine kX10_copyFrom_0 hd1 ?_
  refine q_gi hs1.1 rfl ?_
  refine q_pi hs0.1 rfl ?_
  obtain ⟨S1, eS⟩ : ∃ z, z = uI S (a0) 0 ((sI S (a1) 0)) := ⟨_, rfl⟩
  rw [← eS]
  have h := h S1 eS
  refine q_gp hs1.1 rfl ?_
  refine q_gp hs0.1 rfl ?_
  refine q_cp hs1.2 hs0.2 (by decide) (by decide) (by decide) (by decide) (by decide) ?_
  obtain ⟨S2, eS⟩ : ∃ z, z = uA S1 ((a0 + 1)) (va_cpy (sR S1 ((a1 + 1))) (sR S1 ((a0 + 1))) (Int32.toNatClampNeg ((0 : Int32))) (Int32.toNatClampNeg ((0 : Int32))) (Int32.toNatClampNeg ((7 : Int32)))) := ⟨_, rfl⟩
  rw [← eS]
  have h := h S2 eS
  exact ⟨_, rfl, h⟩
