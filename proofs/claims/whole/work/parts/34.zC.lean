theorem zX12_thrown_0 {d n : Nat} {S : gS} {P : gS → Int32 → Prop}   (h : P S ((sI S (180) 0))) : gG d mX12_thrown 0 0 (g_Xj mX12_thrown n 0 0 (hPi P)) 0 n (hH S) [some (.ref (180))] [] 0 0 := by
  refine kX12_thrown_0  ?_
  refine q_gi rfl rfl ?_
  exact ⟨_, rfl, h⟩

theorem zX12_within_0 {d n : Nat} {S : gS} {P : gS → Bool → Prop} {i0 : Int32} {i1 : Int32} {i2 : Int32}  (h : (i0 < i1 → P S false) ∧ (¬ (i0 < i1) → (i2 < i0 → P S false) ∧ (¬ (i2 < i0) → P S true))) : gG d mX12_within 0 0 (g_Xz mX12_within n 0 0 (hPz P)) 0 n (hH S) [some (.int (i0)), some (.int (i1)), some (.int (i2))] [] 0 0 := by
  refine kX12_within_0  ?_
  refine ⟨fun c => ?_, fun c => ?_⟩
  · have h := h.1 c
    exact ⟨_, rfl, h⟩
  · have h := h.2 c
    refine ⟨fun c => ?_, fun c => ?_⟩
    · have h := h.1 c
      exact ⟨_, rfl, h⟩
    · have h := h.2 c
      exact ⟨_, rfl, h⟩

theorem zX12_bits_0 {d n : Nat} {S : gS} {P : gS → Int32 → Prop} {i0 : Int32}  (h : gG d mX12_bits 0 0 (g_Xj mX12_bits n 0 0 (hPi P)) 4 n (hH S) [some (.int (i0)), some (.int ((0 : Int32))), some (.int ((0 : Int32)))] [] 0 0) : gG d mX12_bits 0 0 (g_Xj mX12_bits n 0 0 (hPi P)) 0 n (hH S) [some (.int (i0)), none, none] [] 0 0 := by
  refine kX12_bits_0  ?_
  exact h
theorem zX12_bits_4 {d n : Nat} {S : gS} {P : gS → Int32 → Prop} {i0 : Int32} {i1 : Int32} {i2 : Int32}  (h : ((10 : Int32) ≤ i2 → P S (i1)) ∧ (¬ ((10 : Int32) ≤ i2) → gG d mX12_bits 0 0 (g_Xj mX12_bits n 0 0 (hPi P)) 4 n (hH S) [some (.int (i0)), some (.int ((i1 + ((i0 >>> (i2 &&& 31)) &&& (1 : Int32))))), some (.int ((i2 + 1)))] [] 0 0)) : gG d mX12_bits 0 0 (g_Xj mX12_bits n 0 0 (hPi P)) 4 n (hH S) [some (.int (i0)), some (.int (i1)), some (.int (i2))] [] 0 0 := by
  refine kX12_bits_4  ?_
  refine ⟨fun c => ?_, fun c => ?_⟩
  · have h := h.1 c
    exact ⟨_, rfl, h⟩
  · have h := h.2 c
    exact h

theorem zX12_feed_0 {d n : Nat} {S : gS} {P : gS → Int32 → Prop} {j1 : Int64} {j3 : Int64} {j5 : Int64}  (h : ∀ S1, S1 = uI S (180) 0 ((0 : Int32)) → gG d mX12_feed 0 0 (g_Xj mX12_feed n 0 0 (hPi P)) 8 n (hH S1) [some (.ref (180)), some (.long (j1)), none, some (.long (j3)), none, some (.long (j5)), none, some (.int ((0 : Int32))), none, none, none] [] 0 0) : gG d mX12_feed 0 0 (g_Xj mX12_feed n 0 0 (hPi P)) 0 n (hH S) [some (.ref (180)), some (.long (j1)), none, some (.long (j3)), none, some (.long (j5)), none, none, none, none, none] [] 0 0 := by
  refine kX12_feed_0  ?_
  refine q_pi rfl rfl ?_
  obtain ⟨S1, eS⟩ : ∃ z, z = uI S (180) 0 ((0 : Int32)) := ⟨_, rfl⟩
  rw [← eS]
  have h := h S1 eS
  exact h
theorem zX12_feed_8 {d n : Nat} {S : gS} {P : gS → Int32 → Prop} {j1 : Int64} {j3 : Int64} {j5 : Int64} {i7 : Int32}  (h : ((24 : Int32) ≤ i7 → P S ((sI S (180) 1))) ∧ (¬ ((24 : Int32) ≤ i7) → ((8 : Int32) ≤ i7 → ((16 : Int32) ≤ i7 → gG d mX12_feed 0 0 (g_Xj mX12_feed n 0 0 (hPi P)) 41 n (hH S) [some (.ref (180)), some (.long (j1)), none, some (.long (j3)), none, some (.long (j5)), none, some (.int (i7)), some (.long (j5)), none, none] [] 0 0) ∧ (¬ ((16 : Int32) ≤ i7) → gG d mX12_feed 0 0 (g_Xj mX12_feed n 0 0 (hPi P)) 41 n (hH S) [some (.ref (180)), some (.long (j1)), none, some (.long (j3)), none, some (.long (j5)), none, some (.int (i7)), some (.long (j3)), none, none] [] 0 0)) ∧ (¬ ((8 : Int32) ≤ i7) → gG d mX12_feed 0 0 (g_Xj mX12_feed n 0 0 (hPi P)) 41 n (hH S) [some (.ref (180)), some (.long (j1)), none, some (.long (j3)), none, some (.long (j5)), none, some (.int (i7)), some (.long (j1)), none, none] [] 0 0))) : gG d mX12_feed 0 0 (g_Xj mX12_feed n 0 0 (hPi P)) 8 n (hH S) [some (.ref (180)), some (.long (j1)), none, some (.long (j3)), none, some (.long (j5)), none, some (.int (i7)), none, none, none] [] 0 0 := by
  refine kX12_feed_8  ?_
  refine ⟨fun c => ?_, fun c => ?_⟩
  · have h := h.1 c
    refine q_gi rfl rfl ?_
    exact ⟨_, rfl, h⟩
  · have h := h.2 c
    refine ⟨fun c => ?_, fun c => ?_⟩
    · have h := h.1 c
      refine ⟨fun c => ?_, fun c => ?_⟩
      · have h := h.1 c
        exact h
      · have h := h.2 c
        exact h
    · have h := h.2 c
      exact h
theorem zX12_feed_41 {d n : Nat} {S : gS} {P : gS → Int32 → Prop} {j1 : Int64} {j3 : Int64} {j5 : Int64} {i7 : Int32} {j8 : Int64}  (h : ((1000 : Int32) ≤ (sI S (180) 1) → gG d mX12_feed 0 0 (g_Xj mX12_feed n 0 0 (hPi P)) 8 n (hH S) [some (.ref (180)), some (.long (j1)), none, some (.long (j3)), none, some (.long (j5)), none, some (.int ((i7 + 1))), none, none, none] [] 0 0) ∧ (¬ ((1000 : Int32) ≤ (sI S (180) 1)) → ((Int64.toInt32 ((((Int64.toUInt64 (j8) >>> ((Int32.toInt64 (((56 : Int32) - ((8 : Int32) * (i7 &&& (7 : Int32)))))).toUInt64 &&& Int64.toUInt64 63)).toInt64) &&& (255 : Int64)))) = (10 : Int32) → gG d mX12_feed 0 0 (g_Xj mX12_feed n 0 0 (hPi P)) 93 n (hH S) [some (.ref (180)), some (.long (j1)), none, some (.long (j3)), none, some (.long (j5)), none, some (.int (i7)), none, none, some (.int ((Int64.toInt32 ((((Int64.toUInt64 (j8) >>> ((Int32.toInt64 (((56 : Int32) - ((8 : Int32) * (i7 &&& (7 : Int32)))))).toUInt64 &&& Int64.toUInt64 63)).toInt64) &&& (255 : Int64))))))] [] 0 0) ∧ (¬ ((Int64.toInt32 ((((Int64.toUInt64 (j8) >>> ((Int32.toInt64 (((56 : Int32) - ((8 : Int32) * (i7 &&& (7 : Int32)))))).toUInt64 &&& Int64.toUInt64 63)).toInt64) &&& (255 : Int64)))) = (10 : Int32)) → ((Int64.toInt32 ((((Int64.toUInt64 (j8) >>> ((Int32.toInt64 (((56 : Int32) - ((8 : Int32) * (i7 &&& (7 : Int32)))))).toUInt64 &&& Int64.toUInt64 63)).toInt64) &&& (255 : Int64)))) < (32 : Int32) → gG d mX12_feed 0 0 (g_Xj mX12_feed n 0 0 (hPi P)) 8 n (hH S) [some (.ref (180)), some (.long (j1)), none, some (.long (j3)), none, some (.long (j5)), none, some (.int ((i7 + 1))), none, none, none] [] 0 0) ∧ (¬ ((Int64.toInt32 ((((Int64.toUInt64 (j8) >>> ((Int32.toInt64 (((56 : Int32) - ((8 : Int32) * (i7 &&& (7 : Int32)))))).toUInt64 &&& Int64.toUInt64 63)).toInt64) &&& (255 : Int64)))) < (32 : Int32)) → ((126 : Int32) < (Int64.toInt32 ((((Int64.toUInt64 (j8) >>> ((Int32.toInt64 (((56 : Int32) - ((8 : Int32) * (i7 &&& (7 : Int32)))))).toUInt64 &&& Int64.toUInt64 63)).toInt64) &&& (255 : Int64)))) → gG d mX12_feed 0 0 (g_Xj mX12_feed n 0 0 (hPi P)) 8 n (hH S) [some (.ref (180)), some (.long (j1)), none, some (.long (j3)), none, some (.long (j5)), none, some (.int ((i7 + 1))), none, none, none] [] 0 0) ∧ (¬ ((126 : Int32) < (Int64.toInt32 ((((Int64.toUInt64 (j8) >>> ((Int32.toInt64 (((56 : Int32) - ((8 : Int32) * (i7 &&& (7 : Int32)))))).toUInt64 &&& Int64.toUInt64 63)).toInt64) &&& (255 : Int64))))) → gG d mX12_feed 0 0 (g_Xj mX12_feed n 0 0 (hPi P)) 93 n (hH S) [some (.ref (180)), some (.long (j1)), none, some (.long (j3)), none, some (.long (j5)), none, some (.int (i7)), none, none, some (.int ((Int64.toInt32 ((((Int64.toUInt64 (j8) >>> ((Int32.toInt64 (((56 : Int32) - ((8 : Int32) * (i7 &&& (7 : Int32)))))).toUInt64 &&& Int64.toUInt64 63)).toInt64) &&& (255 : Int64))))))] [] 0 0))))) : gG d mX12_feed 0 0 (g_Xj mX12_feed n 0 0 (hPi P)) 41 n (hH S) [some (.ref (180)), some (.long (j1)), none, some (.long (j3)), none, some (.long (j5)), none, some (.int (i7)), some (.long (j8)), none, none] [] 0 0 := by
  refine kX12_feed_41  ?_
  refine q_gi rfl rfl ?_
  refine ⟨fun c => ?_, fun c => ?_⟩
  · have h := h.1 c
    exact h
  · have h := h.2 c
    refine ⟨fun c => ?_, fun c => ?_⟩
    · have h := h.1 c
      exact h
    · have h := h.2 c
      refine ⟨fun c => ?_, fun c => ?_⟩
      · have h := h.1 c
        exact h
      · have h := h.2 c
        refine ⟨fun c => ?_, fun c => ?_⟩
        · have h := h.1 c
          exact h
        · have h := h.2 c
          exact h
theorem zX12_feed_93 {d n : Nat} {S : gS} {P : gS → Int32 → Prop} {j1 : Int64} {j3 : Int64} {j5 : Int64} {i7 : Int32} {i10 : Int32}  (h : vp_in ((sI S (180) 1)) 1000 ∧ (∀ S2, S2 = uR S (181) (Int32.toNatClampNeg ((sI S (180) 1))) (i10) → ∀ S3, S3 = uI S2 (180) 1 (((sI S2 (180) 1) + (1 : Int32))) → gG d mX12_feed 0 0 (g_Xj mX12_feed n 0 0 (hPi P)) 8 n (hH S3) [some (.ref (180)), some (.long (j1)), none, some (.long (j3)), none, some (.long (j5)), none, some (.int ((i7 + 1))), none, none, none] [] 0 0)) : gG d mX12_feed 0 0 (g_Xj mX12_feed n 0 0 (hPi P)) 93 n (hH S) [some (.ref (180)), some (.long (j1)), none, some (.long (j3)), none, some (.long (j5)), none, some (.int (i7)), none, none, some (.int (i10))] [] 0 0 := by
  refine kX12_feed_93  ?_
  refine q_gc rfl rfl ?_
  refine q_gi rfl rfl ?_
  obtain ⟨hv1, h⟩ := h
  refine q_as (k := Int32.toNatClampNeg ((sI S (180) 1))) rfl (by decide) hv1 rfl ?_
  obtain ⟨S2, eS⟩ : ∃ z, z = uR S (181) (Int32.toNatClampNeg ((sI S (180) 1))) (i10) := ⟨_, rfl⟩
  rw [← eS]
  have h := h S2 eS
  refine q_gi rfl rfl ?_
  refine q_pi rfl rfl ?_
  obtain ⟨S3, eS⟩ : ∃ z, z = uI S2 (180) 1 (((sI S2 (180) 1) + (1 : Int32))) := ⟨_, rfl⟩
  rw [← eS]
  have h := h S3 eS
  exact h

theorem zX12_signAt_0 {d n : Nat} {S : gS} {P : gS → Int32 → Prop} {i1 : Int32}  (h : ((sI S (180) 3) ≤ i1 → P S ((0 : Int32))) ∧ (¬ ((sI S (180) 3) ≤ i1) → vp_in (i1) 1000 ∧ (P S ((sR S (181) (Int32.toNatClampNeg (i1))))))) : gG d mX12_signAt 0 0 (g_Xj mX12_signAt n 0 0 (hPi P)) 0 n (hH S) [some (.ref (180)), some (.int (i1))] [] 0 0 := by
  refine kX12_signAt_0  ?_
  refine q_gi rfl rfl ?_
  refine ⟨fun c => ?_, fun c => ?_⟩
  · have h := h.1 c
    exact ⟨_, rfl, h⟩
  · have h := h.2 c
    refine q_gc rfl rfl ?_
    obtain ⟨hv1, h⟩ := h
    refine q_al (k := Int32.toNatClampNeg (i1)) rfl (by decide) hv1 rfl ?_
    exact ⟨_, rfl, h⟩

theorem zX12_nextToken_0 {d n : Nat} {S : gS} {P : gS → Prop}   (h : ((sI S (180) 3) ≤ (sI S (180) 4) → gG d mX12_nextToken 0 0 (g_Xv mX12_nextToken n 0 0 (hPv P)) 52 n (hH S) [some (.ref (180)), none] [] 0 0) ∧ (¬ ((sI S (180) 3) ≤ (sI S (180) 4)) → vp_in ((sI S (180) 4)) 1000 ∧ (((sR S (181) (Int32.toNatClampNeg ((sI S (180) 4)))) = (32 : Int32) → ∀ S2, S2 = uI S (180) 4 (((sI S (180) 4) + (1 : Int32))) → gG d mX12_nextToken 0 0 (g_Xv mX12_nextToken n 0 0 (hPv P)) 0 n (hH S2) [some (.ref (180)), none] [] 0 0) ∧ (¬ ((sR S (181) (Int32.toNatClampNeg ((sI S (180) 4)))) = (32 : Int32)) → ((¬ ((sR S (181) (Int32.toNatClampNeg ((sI S (180) 4)))) = (10 : Int32)) → gG d mX12_nextToken 0 0 (g_Xv mX12_nextToken n 0 0 (hPv P)) 52 n (hH S) [some (.ref (180)), none] [] 0 0) ∧ ((sR S (181) (Int32.toNatClampNeg ((sI S (180) 4)))) = (10 : Int32) → ∀ S3, S3 = uI S (180) 4 (((sI S (180) 4) + (1 : Int32))) → gG d mX12_nextToken 0 0 (g_Xv mX12_nextToken n 0 0 (hPv P)) 0 n (hH S3) [some (.ref (180)), none] [] 0 0)))))) : gG d mX12_nextToken 0 0 (g_Xv mX12_nextToken n 0 0 (hPv P)) 0 n (hH S) [some (.ref (180)), none] [] 0 0 := by
  refine kX12_nextToken_0  ?_
  refine q_gi rfl rfl ?_
  refine q_gi rfl rfl ?_
  refine ⟨fun c => ?_, fun c => ?_⟩
  · have h := h.1 c
    exact h
  · have h := h.2 c
    refine q_gc rfl rfl ?_
    refine q_gi rfl rfl ?_
    obtain ⟨hv1, h⟩ := h
    refine q_al (k := Int32.toNatClampNeg ((sI S (180) 4))) rfl (by decide) hv1 rfl ?_
    refine ⟨fun c => ?_, fun c => ?_⟩
    · have h := h.1 c
      refine q_gi rfl rfl ?_
      refine q_pi rfl rfl ?_
      obtain ⟨S2, eS⟩ : ∃ z, z = uI S (180) 4 (((sI S (180) 4) + (1 : Int32))) := ⟨_, rfl⟩
      rw [← eS]
      have h := h S2 eS
      exact h
    · have h := h.2 c
      refine q_gc rfl rfl ?_
      refine q_gi rfl rfl ?_
      refine q_al (k := Int32.toNatClampNeg ((sI S (180) 4))) rfl (by decide) hv1 rfl ?_
      refine ⟨fun c => ?_, fun c => ?_⟩
      · have h := h.1 c
        exact h
      · have h := h.2 c
        refine q_gi rfl rfl ?_
        refine q_pi rfl rfl ?_
        obtain ⟨S3, eS⟩ : ∃ z, z = uI S (180) 4 (((sI S (180) 4) + (1 : Int32))) := ⟨_, rfl⟩
        rw [← eS]
        have h := h S3 eS
        exact h
theorem zX12_nextToken_52 {d n : Nat} {S : gS} {P : gS → Prop}   (h : ∀ S1, S1 = uI S (180) 5 ((sI S (180) 4)) → ∀ S2, S2 = uJ S1 (180) 7 ((0 : Int64)) → ∀ S3, S3 = uI S2 (180) 8 ((0 : Int32)) → (¬ ((sI S3 (180) 4) = (sI S3 (180) 3)) → vp_in ((sI S3 (180) 4)) 1000 ∧ (((sR S3 (181) (Int32.toNatClampNeg ((sI S3 (180) 4)))) < (97 : Int32) → ((sR S3 (181) (Int32.toNatClampNeg ((sI S3 (180) 4)))) < (48 : Int32) → gG d mX12_nextToken 0 0 (g_Xv mX12_nextToken n 0 0 (hPv P)) 322 n (hH S3) [some (.ref (180)), some (.int ((sR S3 (181) (Int32.toNatClampNeg ((sI S3 (180) 4))))))] [] 0 0) ∧ (¬ ((sR S3 (181) (Int32.toNatClampNeg ((sI S3 (180) 4)))) < (48 : Int32)) → ((57 : Int32) < (sR S3 (181) (Int32.toNatClampNeg ((sI S3 (180) 4)))) → gG d mX12_nextToken 0 0 (g_Xv mX12_nextToken n 0 0 (hPv P)) 322 n (hH S3) [some (.ref (180)), some (.int ((sR S3 (181) (Int32.toNatClampNeg ((sI S3 (180) 4))))))] [] 0 0) ∧ (¬ ((57 : Int32) < (sR S3 (181) (Int32.toNatClampNeg ((sI S3 (180) 4))))) → gG d mX12_nextToken 0 0 (g_Xv mX12_nextToken n 0 0 (hPv P)) 224 n (hH S3) [some (.ref (180)), none] [] 0 0))) ∧ (¬ ((sR S3 (181) (Int32.toNatClampNeg ((sI S3 (180) 4)))) < (97 : Int32)) → ((122 : Int32) < (sR S3 (181) (Int32.toNatClampNeg ((sI S3 (180) 4)))) → ((sR S3 (181) (Int32.toNatClampNeg ((sI S3 (180) 4)))) < (48 : Int32) → gG d mX12_nextToken 0 0 (g_Xv mX12_nextToken n 0 0 (hPv P)) 322 n (hH S3) [some (.ref (180)), some (.int ((sR S3 (181) (Int32.toNatClampNeg ((sI S3 (180) 4))))))] [] 0 0) ∧ (¬ ((sR S3 (181) (Int32.toNatClampNeg ((sI S3 (180) 4)))) < (48 : Int32)) → ((57 : Int32) < (sR S3 (181) (Int32.toNatClampNeg ((sI S3 (180) 4)))) → gG d mX12_nextToken 0 0 (g_Xv mX12_nextToken n 0 0 (hPv P)) 322 n (hH S3) [some (.ref (180)), some (.int ((sR S3 (181) (Int32.toNatClampNeg ((sI S3 (180) 4))))))] [] 0 0) ∧ (¬ ((57 : Int32) < (sR S3 (181) (Int32.toNatClampNeg ((sI S3 (180) 4))))) → gG d mX12_nextToken 0 0 (g_Xv mX12_nextToken n 0 0 (hPv P)) 224 n (hH S3) [some (.ref (180)), none] [] 0 0))) ∧ (¬ ((122 : Int32) < (sR S3 (181) (Int32.toNatClampNeg ((sI S3 (180) 4))))) → gG d mX12_nextToken 0 0 (g_Xv mX12_nextToken n 0 0 (hPv P)) 109 n (hH S3) [some (.ref (180)), none] [] 0 0)))) ∧ ((sI S3 (180) 4) = (sI S3 (180) 3) → ∀ S5, S5 = uI S3 (180) 6 ((0 : Int32)) → P S5)) : gG d mX12_nextToken 0 0 (g_Xv mX12_nextToken n 0 0 (hPv P)) 52 n (hH S) [some (.ref (180)), none] [] 0 0 := by
  refine kX12_nextToken_52  ?_
  refine q_gi rfl rfl ?_
  refine q_pi rfl rfl ?_
  obtain ⟨S1, eS⟩ : ∃ z, z = uI S (180) 5 ((sI S (180) 4)) := ⟨_, rfl⟩
  rw [← eS]
  have h := h S1 eS
  refine q_pl rfl rfl ?_
  obtain ⟨S2, eS⟩ : ∃ z, z = uJ S1 (180) 7 ((0 : Int64)) := ⟨_, rfl⟩
  rw [← eS]
  have h := h S2 eS
  refine q_pi rfl rfl ?_
  obtain ⟨S3, eS⟩ : ∃ z, z = uI S2 (180) 8 ((0 : Int32)) := ⟨_, rfl⟩
  rw [← eS]
  have h := h S3 eS
  refine q_gi rfl rfl ?_
  refine q_gi rfl rfl ?_
  refine ⟨fun c => ?_, fun c => ?_⟩
  · have h := h.1 c
    refine q_gc rfl rfl ?_
    refine q_gi rfl rfl ?_
    obtain ⟨hv4, h⟩ := h
    refine q_al (k := Int32.toNatClampNeg ((sI S3 (180) 4))) rfl (by decide) hv4 rfl ?_
    refine ⟨fun c => ?_, fun c => ?_⟩
    · have h := h.1 c
      refine ⟨fun c => ?_, fun c => ?_⟩
      · have h := h.1 c
        exact h
      · have h := h.2 c
        refine ⟨fun c => ?_, fun c => ?_⟩
        · have h := h.1 c
          exact h
        · have h := h.2 c
          exact h
    · have h := h.2 c
      refine ⟨fun c => ?_, fun c => ?_⟩
      · have h := h.1 c
        refine ⟨fun c => ?_, fun c => ?_⟩
        · have h := h.1 c
          exact h
        · have h := h.2 c
          refine ⟨fun c => ?_, fun c => ?_⟩
          · have h := h.1 c
            exact h
          · have h := h.2 c
            exact h
      · have h := h.2 c
        exact h
  · have h := h.2 c
    refine q_pi rfl rfl ?_
    obtain ⟨S5, eS⟩ : ∃ z, z = uI S3 (180) 6 ((0 : Int32)) := ⟨_, rfl⟩
    rw [← eS]
    have h := h S5 eS
    exact ⟨_, rfl, h⟩
theorem zX12_nextToken_109 {d n : Nat} {S : gS} {P : gS → Prop}   (h : s_ci d mX12_signAt n S [.ref (180), .int ((sI S (180) 4))] (fun S1 x2 => (x2 < (97 : Int32) → gG d mX12_nextToken 0 0 (g_Xv mX12_nextToken n 0 0 (hPv P)) 188 n (hH S1) [some (.ref (180)), none] [] 0 0) ∧ (¬ (x2 < (97 : Int32)) → s_ci d mX12_signAt n S1 [.ref (180), .int ((sI S1 (180) 4))] (fun S3 x4 => ((122 : Int32) < x4 → gG d mX12_nextToken 0 0 (g_Xv mX12_nextToken n 0 0 (hPv P)) 188 n (hH S3) [some (.ref (180)), none] [] 0 0) ∧ (¬ ((122 : Int32) < x4) → ((8 : Int32) ≤ ((sI S3 (180) 4) - (sI S3 (180) 5)) → ∀ S5, S5 = uI S3 (180) 4 (((sI S3 (180) 4) + (1 : Int32))) → gG d mX12_nextToken 0 0 (g_Xv mX12_nextToken n 0 0 (hPv P)) 109 n (hH S5) [some (.ref (180)), none] [] 0 0) ∧ (¬ ((8 : Int32) ≤ ((sI S3 (180) 4) - (sI S3 (180) 5))) → s_ci d mX12_signAt n S3 [.ref (180), .int ((sI S3 (180) 4))] (fun S6 x7 => ∀ S8, S8 = uJ S6 (180) 7 (((((sJ S3 (180) 7) * (27 : Int64)) + (Int32.toInt64 (x7))) - (96 : Int64))) → ∀ S9, S9 = uI S8 (180) 4 (((sI S8 (180) 4) + (1 : Int32))) → gG d mX12_nextToken 0 0 (g_Xv mX12_nextToken n 0 0 (hPv P)) 109 n (hH S9) [some (.ref (180)), none] [] 0 0))))))) : gG d mX12_nextToken 0 0 (g_Xv mX12_nextToken n 0 0 (hPv P)) 109 n (hH S) [some (.ref (180)), none] [] 0 0 := by
  refine kX12_nextToken_109  ?_
  refine q_gi rfl rfl ?_
  refine ⟨q_rc rfl, ?_⟩
  obtain ⟨d2, P2, hdd, hC, h⟩ := h
  refine ⟨d2, _, hdd, hC, fun H9 x2 hp => ?_⟩
  obtain ⟨S1, rfl, hp⟩ := hp
  have h := h S1 x2 hp
  refine ⟨fun c => ?_, fun c => ?_⟩
  · have h := h.1 c
    exact h
  · have h := h.2 c
    refine q_gi rfl rfl ?_
    refine ⟨q_rc rfl, ?_⟩
    obtain ⟨d2, P2, hdd, hC, h⟩ := h
    refine ⟨d2, _, hdd, hC, fun H9 x4 hp => ?_⟩
    obtain ⟨S3, rfl, hp⟩ := hp
    have h := h S3 x4 hp
    refine ⟨fun c => ?_, fun c => ?_⟩
    · have h := h.1 c
      exact h
    · have h := h.2 c
      refine q_gi rfl rfl ?_
      refine q_gi rfl rfl ?_
      refine ⟨fun c => ?_, fun c => ?_⟩
      · have h := h.1 c
        refine q_gi rfl rfl ?_
        refine q_pi rfl rfl ?_
        obtain ⟨S5, eS⟩ : ∃ z, z = uI S3 (180) 4 (((sI S3 (180) 4) + (1 : Int32))) := ⟨_, rfl⟩
        rw [← eS]
        have h := h S5 eS
        exact h
      · have h := h.2 c
        refine q_gl rfl rfl ?_
        refine q_gi rfl rfl ?_
        refine ⟨q_rc rfl, ?_⟩
        obtain ⟨d2, P2, hdd, hC, h⟩ := h
        refine ⟨d2, _, hdd, hC, fun H9 x7 hp => ?_⟩
        obtain ⟨S6, rfl, hp⟩ := hp
        have h := h S6 x7 hp
        refine q_pl rfl rfl ?_
        obtain ⟨S8, eS⟩ : ∃ z, z = uJ S6 (180) 7 (((((sJ S3 (180) 7) * (27 : Int64)) + (Int32.toInt64 (x7))) - (96 : Int64))) := ⟨_, rfl⟩
        rw [← eS]
        have h := h S8 eS
        refine q_gi rfl rfl ?_
        refine q_pi rfl rfl ?_
        obtain ⟨S9, eS⟩ : ∃ z, z = uI S8 (180) 4 (((sI S8 (180) 4) + (1 : Int32))) := ⟨_, rfl⟩
        rw [← eS]
        have h := h S9 eS
        exact h
theorem zX12_nextToken_188 {d n : Nat} {S : gS} {P : gS → Prop}   (h : (((sI S (180) 4) - (sI S (180) 5)) ≤ (8 : Int32) → ∀ S1, S1 = uI S (180) 6 ((1 : Int32)) → P S1) ∧ (¬ (((sI S (180) 4) - (sI S (180) 5)) ≤ (8 : Int32)) → ∀ S2, S2 = uI S (180) 6 ((4 : Int32)) → P S2)) : gG d mX12_nextToken 0 0 (g_Xv mX12_nextToken n 0 0 (hPv P)) 188 n (hH S) [some (.ref (180)), none] [] 0 0 := by
  refine kX12_nextToken_188  ?_
  refine q_gi rfl rfl ?_
  refine q_gi rfl rfl ?_
  refine ⟨fun c => ?_, fun c => ?_⟩
  · have h := h.1 c
    refine q_pi rfl rfl ?_
    obtain ⟨S1, eS⟩ : ∃ z, z = uI S (180) 6 ((1 : Int32)) := ⟨_, rfl⟩
    rw [← eS]
    have h := h S1 eS
    exact ⟨_, rfl, h⟩
  · have h := h.2 c
    refine q_pi rfl rfl ?_
    obtain ⟨S2, eS⟩ : ∃ z, z = uI S (180) 6 ((4 : Int32)) := ⟨_, rfl⟩
    rw [← eS]
    have h := h S2 eS
    exact ⟨_, rfl, h⟩
theorem zX12_nextToken_224 {d n : Nat} {S : gS} {P : gS → Prop}   (h : s_ci d mX12_signAt n S [.ref (180), .int ((sI S (180) 4))] (fun S1 x2 => (x2 < (48 : Int32) → gG d mX12_nextToken 0 0 (g_Xv mX12_nextToken n 0 0 (hPv P)) 299 n (hH S1) [some (.ref (180)), none] [] 0 0) ∧ (¬ (x2 < (48 : Int32)) → s_ci d mX12_signAt n S1 [.ref (180), .int ((sI S1 (180) 4))] (fun S3 x4 => ((57 : Int32) < x4 → gG d mX12_nextToken 0 0 (g_Xv mX12_nextToken n 0 0 (hPv P)) 299 n (hH S3) [some (.ref (180)), none] [] 0 0) ∧ (¬ ((57 : Int32) < x4) → ((4 : Int32) ≤ ((sI S3 (180) 4) - (sI S3 (180) 5)) → ∀ S5, S5 = uI S3 (180) 4 (((sI S3 (180) 4) + (1 : Int32))) → gG d mX12_nextToken 0 0 (g_Xv mX12_nextToken n 0 0 (hPv P)) 224 n (hH S5) [some (.ref (180)), none] [] 0 0) ∧ (¬ ((4 : Int32) ≤ ((sI S3 (180) 4) - (sI S3 (180) 5))) → s_ci d mX12_signAt n S3 [.ref (180), .int ((sI S3 (180) 4))] (fun S6 x7 => ∀ S8, S8 = uI S6 (180) 8 (((((sI S3 (180) 8) * (10 : Int32)) + x7) - (48 : Int32))) → ∀ S9, S9 = uI S8 (180) 4 (((sI S8 (180) 4) + (1 : Int32))) → gG d mX12_nextToken 0 0 (g_Xv mX12_nextToken n 0 0 (hPv P)) 224 n (hH S9) [some (.ref (180)), none] [] 0 0))))))) : gG d mX12_nextToken 0 0 (g_Xv mX12_nextToken n 0 0 (hPv P)) 224 n (hH S) [some (.ref (180)), none] [] 0 0 := by
  refine kX12_nextToken_224  ?_
  refine q_gi rfl rfl ?_
  refine ⟨q_rc rfl, ?_⟩
  obtain ⟨d2, P2, hdd, hC, h⟩ := h
  refine ⟨d2, _, hdd, hC, fun H9 x2 hp => ?_⟩
  obtain ⟨S1, rfl, hp⟩ := hp
  have h := h S1 x2 hp
  refine ⟨fun c => ?_, fun c => ?_⟩
  · have h := h.1 c
    exact h
  · have h := h.2 c
    refine q_gi rfl rfl ?_
    refine ⟨q_rc rfl, ?_⟩
    obtain ⟨d2, P2, hdd, hC, h⟩ := h
    refine ⟨d2, _, hdd, hC, fun H9 x4 hp => ?_⟩
    obtain ⟨S3, rfl, hp⟩ := hp
    have h := h S3 x4 hp
    refine ⟨fun c => ?_, fun c => ?_⟩
    · have h := h.1 c
      exact h
    · have h := h.2 c
      refine q_gi rfl rfl ?_
      refine q_gi rfl rfl ?_
      refine ⟨fun c => ?_, fun c => ?_⟩
      · have h := h.1 c
        refine q_gi rfl rfl ?_
        refine q_pi rfl rfl ?_
        obtain ⟨S5, eS⟩ : ∃ z, z = uI S3 (180) 4 (((sI S3 (180) 4) + (1 : Int32))) := ⟨_, rfl⟩
        rw [← eS]
        have h := h S5 eS
        exact h
      · have h := h.2 c
        refine q_gi rfl rfl ?_
        refine q_gi rfl rfl ?_
        refine ⟨q_rc rfl, ?_⟩
        obtain ⟨d2, P2, hdd, hC, h⟩ := h
        refine ⟨d2, _, hdd, hC, fun H9 x7 hp => ?_⟩
        obtain ⟨S6, rfl, hp⟩ := hp
        have h := h S6 x7 hp
        refine q_pi rfl rfl ?_
        obtain ⟨S8, eS⟩ : ∃ z, z = uI S6 (180) 8 (((((sI S3 (180) 8) * (10 : Int32)) + x7) - (48 : Int32))) := ⟨_, rfl⟩
        rw [← eS]
        have h := h S8 eS
        refine q_gi rfl rfl ?_
        refine q_pi rfl rfl ?_
        obtain ⟨S9, eS⟩ : ∃ z, z = uI S8 (180) 4 (((sI S8 (180) 4) + (1 : Int32))) := ⟨_, rfl⟩
        rw [← eS]
        have h := h S9 eS
        exact h
theorem zX12_nextToken_299 {d n : Nat} {S : gS} {P : gS → Prop}   (h : (((sI S (180) 4) - (sI S (180) 5)) ≤ (4 : Int32) → ∀ S1, S1 = uI S (180) 6 ((2 : Int32)) → P S1) ∧ (¬ (((sI S (180) 4) - (sI S (180) 5)) ≤ (4 : Int32)) → ∀ S2, S2 = uI S (180) 6 ((4 : Int32)) → P S2)) : gG d mX12_nextToken 0 0 (g_Xv mX12_nextToken n 0 0 (hPv P)) 299 n (hH S) [some (.ref (180)), none] [] 0 0 := by
  refine kX12_nextToken_299  ?_
  refine q_gi rfl rfl ?_
  refine q_gi rfl rfl ?_
  refine ⟨fun c => ?_, fun c => ?_⟩
  · have h := h.1 c
    refine q_pi rfl rfl ?_
    obtain ⟨S1, eS⟩ : ∃ z, z = uI S (180) 6 ((2 : Int32)) := ⟨_, rfl⟩
    rw [← eS]
    have h := h S1 eS
    exact ⟨_, rfl, h⟩
  · have h := h.2 c
    refine q_pi rfl rfl ?_
    obtain ⟨S2, eS⟩ : ∃ z, z = uI S (180) 6 ((4 : Int32)) := ⟨_, rfl⟩
    rw [← eS]
    have h := h S2 eS
    exact ⟨_, rfl, h⟩
theorem zX12_nextToken_322 {d n : Nat} {S : gS} {P : gS → Prop} {i1 : Int32}  (h : ∀ S1, S1 = uI S (180) 4 (((sI S (180) 4) + (1 : Int32))) → (i1 < (40 : Int32) → (i1 = (45 : Int32) → ∀ S2, S2 = uI S1 (180) 6 ((3 : Int32)) → P S2) ∧ (¬ (i1 = (45 : Int32)) → (i1 < (59 : Int32) → ∀ S3, S3 = uI S1 (180) 6 ((4 : Int32)) → P S3) ∧ (¬ (i1 < (59 : Int32)) → ((61 : Int32) < i1 → ∀ S4, S4 = uI S1 (180) 6 ((4 : Int32)) → P S4) ∧ (¬ ((61 : Int32) < i1) → ∀ S5, S5 = uI S1 (180) 6 ((3 : Int32)) → P S5)))) ∧ (¬ (i1 < (40 : Int32)) → (i1 ≤ (43 : Int32) → ∀ S6, S6 = uI S1 (180) 6 ((3 : Int32)) → P S6) ∧ (¬ (i1 ≤ (43 : Int32)) → (i1 = (45 : Int32) → ∀ S7, S7 = uI S1 (180) 6 ((3 : Int32)) → P S7) ∧ (¬ (i1 = (45 : Int32)) → (i1 < (59 : Int32) → ∀ S8, S8 = uI S1 (180) 6 ((4 : Int32)) → P S8) ∧ (¬ (i1 < (59 : Int32)) → ((61 : Int32) < i1 → ∀ S9, S9 = uI S1 (180) 6 ((4 : Int32)) → P S9) ∧ (¬ ((61 : Int32) < i1) → ∀ S10, S10 = uI S1 (180) 6 ((3 : Int32)) → P S10)))))) : gG d mX12_nextToken 0 0 (g_Xv mX12_nextToken n 0 0 (hPv P)) 322 n (hH S) [some (.ref (180)), some (.int (i1))] [] 0 0 := by
  refine kX12_nextToken_322  ?_
  refine q_gi rfl rfl ?_
  refine q_pi rfl rfl ?_
  obtain ⟨S1, eS⟩ : ∃ z, z = uI S (180) 4 (((sI S (180) 4) + (1 : Int32))) := ⟨_, rfl⟩
  rw [← eS]
  have h := h S1 eS
  refine ⟨fun c => ?_, fun c => ?_⟩
  · have h := h.1 c
    refine ⟨fun c => ?_, fun c => ?_⟩
    · have h := h.1 c
      refine q_pi rfl rfl ?_
      obtain ⟨S2, eS⟩ : ∃ z, z = uI S1 (180) 6 ((3 : Int32)) := ⟨_, rfl⟩
      rw [← eS]
      have h := h S2 eS
      exact ⟨_, rfl, h⟩
    · have h := h.2 c
      refine ⟨fun c => ?_, fun c => ?_⟩
      · have h := h.1 c
        refine q_pi rfl rfl ?_
        obtain ⟨S3, eS⟩ : ∃ z, z = uI S1 (180) 6 ((4 : Int32)) := ⟨_, rfl⟩
        rw [← eS]
        have h := h S3 eS
        exact ⟨_, rfl, h⟩
      · have h := h.2 c
        refine ⟨fun c => ?_, fun c => ?_⟩
        · have h := h.1 c
          refine q_pi rfl rfl ?_
          obtain ⟨S4, eS⟩ : ∃ z, z = uI S1 (180) 6 ((4 : Int32)) := ⟨_, rfl⟩
          rw [← eS]
          have h := h S4 eS
          exact ⟨_, rfl, h⟩
        · have h := h.2 c
          refine q_pi rfl rfl ?_
          obtain ⟨S5, eS⟩ : ∃ z, z = uI S1 (180) 6 ((3 : Int32)) := ⟨_, rfl⟩
          rw [← eS]
          have h := h S5 eS
          exact ⟨_, rfl, h⟩
  · have h := h.2 c
    refine ⟨fun c => ?_, fun c => ?_⟩
    · have h := h.1 c
      refine q_pi rfl rfl ?_
      obtain ⟨S6, eS⟩ : ∃ z, z = uI S1 (180) 6 ((3 : Int32)) := ⟨_, rfl⟩
      rw [← eS]
      have h := h S6 eS
      exact ⟨_, rfl, h⟩
    · have h := h.2 c
      refine ⟨fun c => ?_, fun c => ?_⟩
      · have h := h.1 c
        refine q_pi rfl rfl ?_
        obtain ⟨S7, eS⟩ : ∃ z, z = uI S1 (180) 6 ((3 : Int32)) := ⟨_, rfl⟩
        rw [← eS]
        have h := h S7 eS
        exact ⟨_, rfl, h⟩
      · have h := h.2 c
        refine ⟨fun c => ?_, fun c => ?_⟩
        · have h := h.1 c
          refine q_pi rfl rfl ?_
          obtain ⟨S8, eS⟩ : ∃ z, z = uI S1 (180) 6 ((4 : Int32)) := ⟨_, rfl⟩
          rw [← eS]
          have h := h S8 eS
          exact ⟨_, rfl, h⟩
        · have h := h.2 c
          refine ⟨fun c => ?_, fun c => ?_⟩
          · have h := h.1 c
            refine q_pi rfl rfl ?_
            obtain ⟨S9, eS⟩ : ∃ z, z = uI S1 (180) 6 ((4 : Int32)) := ⟨_, rfl⟩
            rw [← eS]
            have h := h S9 eS
            exact ⟨_, rfl, h⟩
          · have h := h.2 c
            refine q_pi rfl rfl ?_
            obtain ⟨S10, eS⟩ : ∃ z, z = uI S1 (180) 6 ((3 : Int32)) := ⟨_, rfl⟩
            rw [← eS]
            have h := h S10 eS
            exact ⟨_, rfl, h⟩

theorem zX12_isWord_0 {d n : Nat} {S : gS} {P : gS → Bool → Prop} {j1 : Int64}  (h : (¬ ((sI S (180) 6) = (1 : Int32)) → P S false) ∧ ((sI S (180) 6) = (1 : Int32) → (¬ ((lg_cmp (sJ S (180) 7) j1) = 0) → P S false) ∧ ((lg_cmp (sJ S (180) 7) j1) = 0 → P S true))) : gG d mX12_isWord 0 0 (g_Xz mX12_isWord n 0 0 (hPz P)) 0 n (hH S) [some (.ref (180)), some (.long (j1)), none] [] 0 0 := by
  refine kX12_isWord_0  ?_
  refine q_gi rfl rfl ?_
  refine ⟨fun c => ?_, fun c => ?_⟩
  · have h := h.1 c
    exact ⟨_, rfl, h⟩
  · have h := h.2 c
    refine q_gl rfl rfl ?_
    refine ⟨fun c => ?_, fun c => ?_⟩
    · have h := h.1 c
      exact ⟨_, rfl, h⟩
    · have h := h.2 c
      exact ⟨_, rfl, h⟩

theorem zX12_isSign_0 {d n : Nat} {S : gS} {P : gS → Bool → Prop} {i1 : Int32}  (h : (¬ ((sI S (180) 6) = (3 : Int32)) → P S false) ∧ ((sI S (180) 6) = (3 : Int32) → vp_in ((sI S (180) 5)) 1000 ∧ ((¬ ((sR S (181) (Int32.toNatClampNeg ((sI S (180) 5)))) = i1) → P S false) ∧ ((sR S (181) (Int32.toNatClampNeg ((sI S (180) 5)))) = i1 → P S true)))) : gG d mX12_isSign 0 0 (g_Xz mX12_isSign n 0 0 (hPz P)) 0 n (hH S) [some (.ref (180)), some (.int (i1))] [] 0 0 := by
  refine kX12_isSign_0  ?_
  refine q_gi rfl rfl ?_
  refine ⟨fun c => ?_, fun c => ?_⟩
  · have h := h.1 c
    exact ⟨_, rfl, h⟩
  · have h := h.2 c
    refine q_gc rfl rfl ?_
    refine q_gi rfl rfl ?_
    obtain ⟨hv1, h⟩ := h
    refine q_al (k := Int32.toNatClampNeg ((sI S (180) 5))) rfl (by decide) hv1 rfl ?_
    refine ⟨fun c => ?_, fun c => ?_⟩
    · have h := h.1 c
      exact ⟨_, rfl, h⟩
    · have h := h.2 c
      exact ⟨_, rfl, h⟩

theorem zX12_fails_0 {d n : Nat} {S : gS} {P : gS → Bool → Prop} {i1 : Int32}  (h : ∀ S1, S1 = uI S (180) 9 ((i1 + ((16 : Int32) * (sI S (180) 5)))) → P S1 false) : gG d mX12_fails 0 0 (g_Xz mX12_fails n 0 0 (hPz P)) 0 n (hH S) [some (.ref (180)), some (.int (i1))] [] 0 0 := by
  refine kX12_fails_0  ?_
  refine q_gi rfl rfl ?_
  refine q_pi rfl rfl ?_
  obtain ⟨S1, eS⟩ : ∃ z, z = uI S (180) 9 ((i1 + ((16 : Int32) * (sI S (180) 5)))) := ⟨_, rfl⟩
  rw [← eS]
  have h := h S1 eS
  exact ⟨_, rfl, h⟩

theorem zX12_puts_0 {d n : Nat} {S : gS} {P : gS → Prop} {i1 : Int32}  (h : vp_in ((sI S (180) 23)) 2000 ∧ (∀ S2, S2 = uR S (194) (Int32.toNatClampNeg ((sI S (180) 23))) (i1) → ∀ S3, S3 = uI S2 (180) 23 (((sI S2 (180) 23) + (1 : Int32))) → P S3)) : gG d mX12_puts 0 0 (g_Xv mX12_puts n 0 0 (hPv P)) 0 n (hH S) [some (.ref (180)), some (.int (i1))] [] 0 0 := by
  refine kX12_puts_0  ?_
  refine q_gc rfl rfl ?_
  refine q_gi rfl rfl ?_
  obtain ⟨hv1, h⟩ := h
  refine q_as (k := Int32.toNatClampNeg ((sI S (180) 23))) rfl (by decide) hv1 rfl ?_
  obtain ⟨S2, eS⟩ : ∃ z, z = uR S (194) (Int32.toNatClampNeg ((sI S (180) 23))) (i1) := ⟨_, rfl⟩
  rw [← eS]
  have h := h S2 eS
  refine q_gi rfl rfl ?_
  refine q_pi rfl rfl ?_
  obtain ⟨S3, eS⟩ : ∃ z, z = uI S2 (180) 23 (((sI S2 (180) 23) + (1 : Int32))) := ⟨_, rfl⟩
  rw [← eS]
  have h := h S3 eS
  exact ⟨_, rfl, h⟩

theorem zX12_fact_0 {d n : Nat} {S : gS} {P : gS → Int32 → Prop}   (h : ((sI S (180) 6) = (1 : Int32) → (¬ ((lg_cmp (sJ S (180) 7) (127274 : Int64)) = 0) → (¬ ((lg_cmp (sJ S (180) 7) (283288069 : Int64)) = 0) → (¬ ((lg_cmp (sJ S (180) 7) (394725 : Int64)) = 0) → (¬ ((lg_cmp (sJ S (180) 7) (16922 : Int64)) = 0) → P S ((0 : Int32))) ∧ ((lg_cmp (sJ S (180) 7) (16922 : Int64)) = 0 → P S ((4 : Int32)))) ∧ ((lg_cmp (sJ S (180) 7) (394725 : Int64)) = 0 → P S ((3 : Int32)))) ∧ ((lg_cmp (sJ S (180) 7) (283288069 : Int64)) = 0 → P S ((2 : Int32)))) ∧ ((lg_cmp (sJ S (180) 7) (127274 : Int64)) = 0 → P S ((1 : Int32)))) ∧ (¬ ((sI S (180) 6) = (1 : Int32)) → P S ((0 : Int32)))) : gG d mX12_fact 0 0 (g_Xj mX12_fact n 0 0 (hPi P)) 0 n (hH S) [some (.ref (180))] [] 0 0 := by
  refine kX12_fact_0  ?_
  refine q_gi rfl rfl ?_
  refine ⟨fun c => ?_, fun c => ?_⟩
  · have h := h.1 c
    refine q_gl rfl rfl ?_
    refine ⟨fun c => ?_, fun c => ?_⟩
    · have h := h.1 c
      refine q_gl rfl rfl ?_
      refine ⟨fun c => ?_, fun c => ?_⟩
      · have h := h.1 c
        refine q_gl rfl rfl ?_
        refine ⟨fun c => ?_, fun c => ?_⟩
        · have h := h.1 c
          refine q_gl rfl rfl ?_
          refine ⟨fun c => ?_, fun c => ?_⟩
          · have h := h.1 c
            exact ⟨_, rfl, h⟩
          · have h := h.2 c
            exact ⟨_, rfl, h⟩
        · have h := h.2 c
          exact ⟨_, rfl, h⟩
      · have h := h.2 c
        exact ⟨_, rfl, h⟩
    · have h := h.2 c
      exact ⟨_, rfl, h⟩
  · have h := h.2 c
    exact ⟨_, rfl, h⟩

theorem zX12_readsLaw_0 {d n : Nat} {S : gS} {P : gS → Bool → Prop}   (h : (∀ S1, S1 = uR S (196) (0) (vp_nar .boolean ((0 : Int32))) → gG d mX12_readsLaw 0 0 (g_Xz mX12_readsLaw n 0 0 (hPz P)) 11 n (hH S1) [some (.ref (180)), some (.int ((0 : Int32))), some (.int ((1 : Int32))), none, none, none] [] 0 0)) : gG d mX12_readsLaw 0 0 (g_Xz mX12_readsLaw n 0 0 (hPz P)) 0 n (hH S) [some (.ref (180)), none, none, none, none, none] [] 0 0 := by
  refine kX12_readsLaw_0  ?_
  refine q_gc rfl rfl ?_
  refine q_as (k := 0) rfl (by decide) (vp_l (by decide)) (by decide) ?_
  obtain ⟨S1, eS⟩ : ∃ z, z = uR S (196) (0) (vp_nar .boolean ((0 : Int32))) := ⟨_, rfl⟩
  rw [← eS]
  have h := h S1 eS
  exact h
theorem zX12_readsLaw_11 {d n : Nat} {S : gS} {P : gS → Bool → Prop} {i1 : Int32} {i2 : Int32}  (h : (i2 = 0 → s_cz d mX12_isSign n S [.ref (180), .int ((43 : Int32))] (fun S1 b2 => (b2 = true → gG d mX12_readsLaw 0 0 (g_Xz mX12_readsLaw n 0 0 (hPz P)) 206 n (hH S1) [some (.ref (180)), some (.int (i1)), none, none, none, none] [] 0 0) ∧ (b2 = false → s_cz d mX12_isSign n S1 [.ref (180), .int ((45 : Int32))] (fun S3 b4 => (b4 = true → gG d mX12_readsLaw 0 0 (g_Xz mX12_readsLaw n 0 0 (hPz P)) 206 n (hH S3) [some (.ref (180)), some (.int (i1)), none, none, none, none] [] 0 0) ∧ (b4 = false → s_cz d mX12_isSign n S3 [.ref (180), .int ((42 : Int32))] (fun S5 b6 => (b6 = false → s_cz d mX12_isSign n S5 [.ref (180), .int ((60 : Int32))] (fun S7 b8 => (b8 = true → gG d mX12_readsLaw 0 0 (g_Xz mX12_readsLaw n 0 0 (hPz P)) 263 n (hH S7) [some (.ref (180)), some (.int (i1)), some (.int (i2)), none, none, none] [] 0 0) ∧ (b8 = false → s_cz d mX12_isSign n S7 [.ref (180), .int ((61 : Int32))] (fun S9 b10 => (b10 = false → gG d mX12_readsLaw 0 0 (g_Xz mX12_readsLaw n 0 0 (hPz P)) 304 n (hH S9) [some (.ref (180)), some (.int (i1)), some (.int (i2)), none, none, none] [] 0 0) ∧ (b10 = true → gG d mX12_readsLaw 0 0 (g_Xz mX12_readsLaw n 0 0 (hPz P)) 263 n (hH S9) [some (.ref (180)), some (.int (i1)), some (.int (i2)), none, none, none] [] 0 0))))) ∧ (b6 = true → gG d mX12_readsLaw 0 0 (g_Xz mX12_readsLaw n 0 0 (hPz P)) 206 n (hH S5) [some (.ref (180)), some (.int (i1)), none, none, none, none] [] 0 0))))))) ∧ (¬ (i2 = 0) → s_ci d mX12_fact n S [.ref (180)] (fun S11 x12 => s_cz d mX12_isWord n S11 [.ref (180), .long ((10631 : Int64))] (fun S13 b14 => s_cz d mX12_isSign n S13 [.ref (180), .int ((40 : Int32))] (fun S15 b16 => (¬ (x12 = 0) → gG d mX12_readsLaw 0 0 (g_Xz mX12_readsLaw n 0 0 (hPz P)) 65 n (hH S15) [some (.ref (180)), some (.int (i1)), some (.int (i2)), some (.int (x12)), some (.int (g_b b14)), some (.int (g_b b16))] [] 0 0) ∧ (x12 = 0 → (b14 = true → gG d mX12_readsLaw 0 0 (g_Xz mX12_readsLaw n 0 0 (hPz P)) 65 n (hH S15) [some (.ref (180)), some (.int (i1)), some (.int (i2)), some (.int (x12)), some (.int (g_b b14)), some (.int (g_b b16))] [] 0 0) ∧ (b14 = false → (b16 = true → gG d mX12_readsLaw 0 0 (g_Xz mX12_readsLaw n 0 0 (hPz P)) 65 n (hH S15) [some (.ref (180)), some (.int (i1)), some (.int (i2)), some (.int (x12)), some (.int (g_b b14)), some (.int (g_b b16))] [] 0 0) ∧ (b16 = false → ((sI S15 (180) 6) = (2 : Int32) → gG d mX12_readsLaw 0 0 (g_Xz mX12_readsLaw n 0 0 (hPz P)) 65 n (hH S15) [some (.ref (180)), some (.int (i1)), some (.int (i2)), some (.int (x12)), some (.int (g_b b14)), some (.int (g_b b16))] [] 0 0) ∧ (¬ ((sI S15 (180) 6) = (2 : Int32)) → s_cz d mX12_fails n S15 [.ref (180), .int ((1 : Int32))] (fun S17 b18 => P S17 b18)))))))))) : gG d mX12_readsLaw 0 0 (g_Xz mX12_readsLaw n 0 0 (hPz P)) 11 n (hH S) [some (.ref (180)), some (.int (i1)), some (.int (i2)), none, none, none] [] 0 0 := by
  refine kX12_readsLaw_11  ?_
  refine ⟨fun c => ?_, fun c => ?_⟩
  · have h := h.1 c
    refine ⟨q_rc rfl, ?_⟩
    obtain ⟨d2, P2, hdd, hC, h⟩ := h
    refine ⟨d2, _, hdd, hC, fun H9 b2 hp => ?_⟩
    obtain ⟨S1, rfl, hp⟩ := hp
    have h := h S1 b2 hp
    refine ⟨fun c => ?_, fun c => ?_⟩
    · have h := h.1 c
      exact h
    · have h := h.2 c
      refine ⟨q_rc rfl, ?_⟩
      obtain ⟨d2, P2, hdd, hC, h⟩ := h
      refine ⟨d2, _, hdd, hC, fun H9 b4 hp => ?_⟩
      obtain ⟨S3, rfl, hp⟩ := hp
      have h := h S3 b4 hp
      refine ⟨fun c => ?_, fun c => ?_⟩
      · have h := h.1 c
        exact h
      · have h := h.2 c
        refine ⟨q_rc rfl, ?_⟩
        obtain ⟨d2, P2, hdd, hC, h⟩ := h
        refine ⟨d2, _, hdd, hC, fun H9 b6 hp => ?_⟩
        obtain ⟨S5, rfl, hp⟩ := hp
        have h := h S5 b6 hp
        refine ⟨fun c => ?_, fun c => ?_⟩
        · have h := h.1 c
          refine ⟨q_rc rfl, ?_⟩
          obtain ⟨d2, P2, hdd, hC, h⟩ := h
          refine ⟨d2, _, hdd, hC, fun H9 b8 hp => ?_⟩
          obtain ⟨S7, rfl, hp⟩ := hp
          have h := h S7 b8 hp
          refine ⟨fun c => ?_, fun c => ?_⟩
          · have h := h.1 c
            exact h
          · have h := h.2 c
            refine ⟨q_rc rfl, ?_⟩
            obtain ⟨d2, P2, hdd, hC, h⟩ := h
            refine ⟨d2, _, hdd, hC, fun H9 b10 hp => ?_⟩
            obtain ⟨S9, rfl, hp⟩ := hp
            have h := h S9 b10 hp
            refine ⟨fun c => ?_, fun c => ?_⟩
            · have h := h.1 c
              exact h
            · have h := h.2 c
              exact h
        · have h := h.2 c
          exact h
  · have h := h.2 c
    refine ⟨q_rc rfl, ?_⟩
    obtain ⟨d2, P2, hdd, hC, h⟩ := h
    refine ⟨d2, _, hdd, hC, fun H9 x12 hp => ?_⟩
    obtain ⟨S11, rfl, hp⟩ := hp
    have h := h S11 x12 hp
    refine ⟨q_rc rfl, ?_⟩
    obtain ⟨d2, P2, hdd, hC, h⟩ := h
    refine ⟨d2, _, hdd, hC, fun H9 b14 hp => ?_⟩
    obtain ⟨S13, rfl, hp⟩ := hp
    have h := h S13 b14 hp
    refine ⟨q_rc rfl, ?_⟩
    obtain ⟨d2, P2, hdd, hC, h⟩ := h
    refine ⟨d2, _, hdd, hC, fun H9 b16 hp => ?_⟩
    obtain ⟨S15, rfl, hp⟩ := hp
    have h := h S15 b16 hp
    refine ⟨fun c => ?_, fun c => ?_⟩
    · have h := h.1 c
      exact h
    · have h := h.2 c
      refine ⟨fun c => ?_, fun c => ?_⟩
      · have h := h.1 c
        exact h
      · have h := h.2 c
        refine ⟨fun c => ?_, fun c => ?_⟩
        · have h := h.1 c
          exact h
        · have h := h.2 c
          refine q_gi rfl rfl ?_
          refine ⟨fun c => ?_, fun c => ?_⟩
          · have h := h.1 c
            exact h
          · have h := h.2 c
            refine ⟨q_rc rfl, ?_⟩
            obtain ⟨d2, P2, hdd, hC, h⟩ := h
            refine ⟨d2, _, hdd, hC, fun H9 b18 hp => ?_⟩
            obtain ⟨S17, rfl, hp⟩ := hp
            have h := h S17 b18 hp
            exact ⟨_, rfl, h⟩
theorem zX12_readsLaw_65 {d n : Nat} {S : gS} {P : gS → Bool → Prop} {i1 : Int32} {i2 : Int32} {i3 : Int32} {i4 : Int32} {i5 : Int32}  (h : (¬ (i1 = (5 : Int32)) → (¬ (i4 = 0) → gG d mX12_readsLaw 0 0 (g_Xz mX12_readsLaw n 0 0 (hPz P)) 86 n (hH S) [some (.ref (180)), some (.int (i1)), some (.int (i2)), none, some (.int (i4)), none] [] 0 0) ∧ (i4 = 0 → (i5 = 0 → (i3 ≤ 0 → s_cv d mX12_puts n S [.ref (180), .int (((100 : Int32) + (sI S (180) 8)))] (fun S1 => gG d mX12_readsLaw 0 0 (g_Xz mX12_readsLaw n 0 0 (hPz P)) 152 n (hH S1) [some (.ref (180)), some (.int (i1)), some (.int ((0 : Int32))), none, none, none] [] 0 0)) ∧ (¬ (i3 ≤ 0) → s_cv d mX12_puts n S [.ref (180), .int (i3)] (fun S2 => gG d mX12_readsLaw 0 0 (g_Xz mX12_readsLaw n 0 0 (hPz P)) 152 n (hH S2) [some (.ref (180)), some (.int (i1)), some (.int ((0 : Int32))), none, none, none] [] 0 0))) ∧ (¬ (i5 = 0) → gG d mX12_readsLaw 0 0 (g_Xz mX12_readsLaw n 0 0 (hPz P)) 86 n (hH S) [some (.ref (180)), some (.int (i1)), some (.int (i2)), none, some (.int (i4)), none] [] 0 0))) ∧ (i1 = (5 : Int32) → s_cz d mX12_fails n S [.ref (180), .int ((5 : Int32))] (fun S3 b4 => P S3 b4))) : gG d mX12_readsLaw 0 0 (g_Xz mX12_readsLaw n 0 0 (hPz P)) 65 n (hH S) [some (.ref (180)), some (.int (i1)), some (.int (i2)), some (.int (i3)), some (.int (i4)), some (.int (i5))] [] 0 0 := by
  refine kX12_readsLaw_65  ?_
  refine ⟨fun c => ?_, fun c => ?_⟩
  · have h := h.1 c
    refine ⟨fun c => ?_, fun c => ?_⟩
    · have h := h.1 c
      exact h
    · have h := h.2 c
      refine ⟨fun c => ?_, fun c => ?_⟩
      · have h := h.1 c
        refine ⟨fun c => ?_, fun c => ?_⟩
        · have h := h.1 c
          refine q_gi rfl rfl ?_
          refine ⟨q_rc rfl, ?_⟩
          obtain ⟨d2, P2, hdd, hC, h⟩ := h
          refine ⟨d2, _, hdd, hC, fun H9 hp => ?_⟩
          obtain ⟨S1, rfl, hp⟩ := hp
          have h := h S1 hp
          exact h
        · have h := h.2 c
          refine ⟨q_rc rfl, ?_⟩
          obtain ⟨d2, P2, hdd, hC, h⟩ := h
          refine ⟨d2, _, hdd, hC, fun H9 hp => ?_⟩
          obtain ⟨S2, rfl, hp⟩ := hp
          have h := h S2 hp
          exact h
      · have h := h.2 c
        exact h
  · have h := h.2 c
    refine ⟨q_rc rfl, ?_⟩
    obtain ⟨d2, P2, hdd, hC, h⟩ := h
    refine ⟨d2, _, hdd, hC, fun H9 b4 hp => ?_⟩
    obtain ⟨S3, rfl, hp⟩ := hp
    have h := h S3 b4 hp
    exact ⟨_, rfl, h⟩
theorem zX12_readsLaw_86 {d n : Nat} {S : gS} {P : gS → Bool → Prop} {i1 : Int32} {i2 : Int32} {i4 : Int32}  (h : (i4 = 0 → s_cv d mX12_puts n S [.ref (180), .int ((28 : Int32))] (fun S1 => gG d mX12_readsLaw 0 0 (g_Xz mX12_readsLaw n 0 0 (hPz P)) 102 n (hH S1) [some (.ref (180)), some (.int (i1)), some (.int (i2)), none, some (.int (i4)), none] [] 0 0)) ∧ (¬ (i4 = 0) → s_cv d mX12_puts n S [.ref (180), .int ((30 : Int32))] (fun S2 => gG d mX12_readsLaw 0 0 (g_Xz mX12_readsLaw n 0 0 (hPz P)) 102 n (hH S2) [some (.ref (180)), some (.int (i1)), some (.int (i2)), none, some (.int (i4)), none] [] 0 0))) : gG d mX12_readsLaw 0 0 (g_Xz mX12_readsLaw n 0 0 (hPz P)) 86 n (hH S) [some (.ref (180)), some (.int (i1)), some (.int (i2)), none, some (.int (i4)), none] [] 0 0 := by
  refine kX12_readsLaw_86  ?_
  refine ⟨fun c => ?_, fun c => ?_⟩
  · have h := h.1 c
    refine ⟨q_rc rfl, ?_⟩
    obtain ⟨d2, P2, hdd, hC, h⟩ := h
    refine ⟨d2, _, hdd, hC, fun H9 hp => ?_⟩
    obtain ⟨S1, rfl, hp⟩ := hp
    have h := h S1 hp
    exact h
  · have h := h.2 c
    refine ⟨q_rc rfl, ?_⟩
    obtain ⟨d2, P2, hdd, hC, h⟩ := h
    refine ⟨d2, _, hdd, hC, fun H9 hp => ?_⟩
    obtain ⟨S2, rfl, hp⟩ := hp
    have h := h S2 hp
    exact h
theorem zX12_readsLaw_102 {d n : Nat} {S : gS} {P : gS → Bool → Prop} {i1 : Int32} {i2 : Int32} {i4 : Int32}  (h : (i4 = 0 → vp_in ((i1 + 1)) 7 ∧ (∀ S2, S2 = uR S (195) (Int32.toNatClampNeg ((i1 + 1))) ((2 : Int32)) → gG d mX12_readsLaw 0 0 (g_Xz mX12_readsLaw n 0 0 (hPz P)) 121 n (hH S2) [some (.ref (180)), some (.int ((i1 + 1))), some (.int (i2)), none, none, none] [] 0 0)) ∧ (¬ (i4 = 0) → vp_in ((i1 + 1)) 7 ∧ (∀ S4, S4 = uR S (195) (Int32.toNatClampNeg ((i1 + 1))) ((1 : Int32)) → gG d mX12_readsLaw 0 0 (g_Xz mX12_readsLaw n 0 0 (hPz P)) 121 n (hH S4) [some (.ref (180)), some (.int ((i1 + 1))), some (.int (i2)), none, none, none] [] 0 0))) : gG d mX12_readsLaw 0 0 (g_Xz mX12_readsLaw n 0 0 (hPz P)) 102 n (hH S) [some (.ref (180)), some (.int (i1)), some (.int (i2)), none, some (.int (i4)), none] [] 0 0 := by
  refine kX12_readsLaw_102  ?_
  refine q_gc rfl rfl ?_
  refine ⟨fun c => ?_, fun c => ?_⟩
  · have h := h.1 c
    obtain ⟨hv1, h⟩ := h
    refine q_as (k := Int32.toNatClampNeg ((i1 + 1))) rfl (by decide) hv1 rfl ?_
    obtain ⟨S2, eS⟩ : ∃ z, z = uR S (195) (Int32.toNatClampNeg ((i1 + 1))) ((2 : Int32)) := ⟨_, rfl⟩
    rw [← eS]
    have h := h S2 eS
    exact h
  · have h := h.2 c
    obtain ⟨hv3, h⟩ := h
    refine q_as (k := Int32.toNatClampNeg ((i1 + 1))) rfl (by decide) hv3 rfl ?_
    obtain ⟨S4, eS⟩ : ∃ z, z = uR S (195) (Int32.toNatClampNeg ((i1 + 1))) ((1 : Int32)) := ⟨_, rfl⟩
    rw [← eS]
    have h := h S4 eS
    exact h
theorem zX12_readsLaw_121 {d n : Nat} {S : gS} {P : gS → Bool → Prop} {i1 : Int32} {i2 : Int32}  (h : vp_in (i1) 7 ∧ (∀ S2, S2 = uR S (196) (Int32.toNatClampNeg (i1)) (vp_nar .boolean ((0 : Int32))) → s_cv d mX12_nextToken n S2 [.ref (180)] (fun S3 => gG d mX12_readsLaw 0 0 (g_Xz mX12_readsLaw n 0 0 (hPz P)) 11 n (hH S3) [some (.ref (180)), some (.int (i1)), some (.int (i2)), none, none, none] [] 0 0))) : gG d mX12_readsLaw 0 0 (g_Xz mX12_readsLaw n 0 0 (hPz P)) 121 n (hH S) [some (.ref (180)), some (.int (i1)), some (.int (i2)), none, none, none] [] 0 0 := by
  refine kX12_readsLaw_121  ?_
  refine q_gc rfl rfl ?_
  obtain ⟨hv1, h⟩ := h
  refine q_as (k := Int32.toNatClampNeg (i1)) rfl (by decide) hv1 rfl ?_
  obtain ⟨S2, eS⟩ : ∃ z, z = uR S (196) (Int32.toNatClampNeg (i1)) (vp_nar .boolean ((0 : Int32))) := ⟨_, rfl⟩
  rw [← eS]
  have h := h S2 eS
  refine ⟨q_rc rfl, ?_⟩
  obtain ⟨d2, P2, hdd, hC, h⟩ := h
  refine ⟨d2, _, hdd, hC, fun H9 hp => ?_⟩
  obtain ⟨S3, rfl, hp⟩ := hp
  have h := h S3 hp
  exact h
theorem zX12_readsLaw_152 {d n : Nat} {S : gS} {P : gS → Bool → Prop} {i1 : Int32} {i2 : Int32}  (h : (i1 ≤ 0 → s_cv d mX12_nextToken n S [.ref (180)] (fun S1 => gG d mX12_readsLaw 0 0 (g_Xz mX12_readsLaw n 0 0 (hPz P)) 11 n (hH S1) [some (.ref (180)), some (.int (i1)), some (.int (i2)), none, none, none] [] 0 0)) ∧ (¬ (i1 ≤ 0) → vp_in (i1) 7 ∧ ((¬ ((sR S (195) (Int32.toNatClampNeg (i1))) = (1 : Int32)) → s_cv d mX12_nextToken n S [.ref (180)] (fun S3 => gG d mX12_readsLaw 0 0 (g_Xz mX12_readsLaw n 0 0 (hPz P)) 11 n (hH S3) [some (.ref (180)), some (.int (i1)), some (.int (i2)), none, none, none] [] 0 0)) ∧ ((sR S (195) (Int32.toNatClampNeg (i1))) = (1 : Int32) → gG d mX12_readsLaw 0 0 (g_Xz mX12_readsLaw n 0 0 (hPz P)) 152 n (hH S) [some (.ref (180)), some (.int ((i1 + (-1)))), some (.int (i2)), none, none, none] [] 0 0)))) : gG d mX12_readsLaw 0 0 (g_Xz mX12_readsLaw n 0 0 (hPz P)) 152 n (hH S) [some (.ref (180)), some (.int (i1)), some (.int (i2)), none, none, none] [] 0 0 := by
  refine kX12_readsLaw_152  ?_
  refine ⟨fun c => ?_, fun c => ?_⟩
  · have h := h.1 c
    refine ⟨q_rc rfl, ?_⟩
    obtain ⟨d2, P2, hdd, hC, h⟩ := h
    refine ⟨d2, _, hdd, hC, fun H9 hp => ?_⟩
    obtain ⟨S1, rfl, hp⟩ := hp
    have h := h S1 hp
    exact h
  · have h := h.2 c
    refine q_gc rfl rfl ?_
    obtain ⟨hv2, h⟩ := h
    refine q_al (k := Int32.toNatClampNeg (i1)) rfl (by decide) hv2 rfl ?_
    refine ⟨fun c => ?_, fun c => ?_⟩
    · have h := h.1 c
      refine ⟨q_rc rfl, ?_⟩
      obtain ⟨d2, P2, hdd, hC, h⟩ := h
      refine ⟨d2, _, hdd, hC, fun H9 hp => ?_⟩
      obtain ⟨S3, rfl, hp⟩ := hp
      have h := h S3 hp
      exact h
    · have h := h.2 c
      exact h
theorem zX12_readsLaw_206 {d n : Nat} {S : gS} {P : gS → Bool → Prop} {i1 : Int32}  (h : s_cz d mX12_isSign n S [.ref (180), .int ((43 : Int32))] (fun S1 b2 => (b2 = false → s_cz d mX12_isSign n S1 [.ref (180), .int ((45 : Int32))] (fun S3 b4 => (b4 = false → s_cv d mX12_puts n S3 [.ref (180), .int ((22 : Int32))] (fun S5 => s_cv d mX12_nextToken n S5 [.ref (180)] (fun S6 => gG d mX12_readsLaw 0 0 (g_Xz mX12_readsLaw n 0 0 (hPz P)) 11 n (hH S6) [some (.ref (180)), some (.int (i1)), some (.int ((1 : Int32))), none, none, none] [] 0 0))) ∧ (b4 = true → s_cv d mX12_puts n S3 [.ref (180), .int ((21 : Int32))] (fun S7 => s_cv d mX12_nextToken n S7 [.ref (180)] (fun S8 => gG d mX12_readsLaw 0 0 (g_Xz mX12_readsLaw n 0 0 (hPz P)) 11 n (hH S8) [some (.ref (180)), some (.int (i1)), some (.int ((1 : Int32))), none, none, none] [] 0 0))))) ∧ (b2 = true → s_cv d mX12_puts n S1 [.ref (180), .int ((20 : Int32))] (fun S9 => s_cv d mX12_nextToken n S9 [.ref (180)] (fun S10 => gG d mX12_readsLaw 0 0 (g_Xz mX12_readsLaw n 0 0 (hPz P)) 11 n (hH S10) [some (.ref (180)), some (.int (i1)), some (.int ((1 : Int32))), none, none, none] [] 0 0))))) : gG d mX12_readsLaw 0 0 (g_Xz mX12_readsLaw n 0 0 (hPz P)) 206 n (hH S) [some (.ref (180)), some (.int (i1)), none, none, none, none] [] 0 0 := by
  refine kX12_readsLaw_206  ?_
  refine ⟨q_rc rfl, ?_⟩
  obtain ⟨d2, P2, hdd, hC, h⟩ := h
  refine ⟨d2, _, hdd, hC, fun H9 b2 hp => ?_⟩
  obtain ⟨S1, rfl, hp⟩ := hp
  have h := h S1 b2 hp
  refine ⟨fun c => ?_, fun c => ?_⟩
  · have h := h.1 c
    refine ⟨q_rc rfl, ?_⟩
    obtain ⟨d2, P2, hdd, hC, h⟩ := h
    refine ⟨d2, _, hdd, hC, fun H9 b4 hp => ?_⟩
    obtain ⟨S3, rfl, hp⟩ := hp
    have h := h S3 b4 hp
    refine ⟨fun c => ?_, fun c => ?_⟩
    · have h := h.1 c
      refine ⟨q_rc rfl, ?_⟩
      obtain ⟨d2, P2, hdd, hC, h⟩ := h
      refine ⟨d2, _, hdd, hC, fun H9 hp => ?_⟩
      obtain ⟨S5, rfl, hp⟩ := hp
      have h := h S5 hp
      refine ⟨q_rc rfl, ?_⟩
      obtain ⟨d2, P2, hdd, hC, h⟩ := h
      refine ⟨d2, _, hdd, hC, fun H9 hp => ?_⟩
      obtain ⟨S6, rfl, hp⟩ := hp
      have h := h S6 hp
      exact h
    · have h := h.2 c
      refine ⟨q_rc rfl, ?_⟩
      obtain ⟨d2, P2, hdd, hC, h⟩ := h
      refine ⟨d2, _, hdd, hC, fun H9 hp => ?_⟩
      obtain ⟨S7, rfl, hp⟩ := hp
      have h := h S7 hp
      refine ⟨q_rc rfl, ?_⟩
      obtain ⟨d2, P2, hdd, hC, h⟩ := h
      refine ⟨d2, _, hdd, hC, fun H9 hp => ?_⟩
      obtain ⟨S8, rfl, hp⟩ := hp
      have h := h S8 hp
      exact h
  · have h := h.2 c
    refine ⟨q_rc rfl, ?_⟩
    obtain ⟨d2, P2, hdd, hC, h⟩ := h
    refine ⟨d2, _, hdd, hC, fun H9 hp => ?_⟩
    obtain ⟨S9, rfl, hp⟩ := hp
    have h := h S9 hp
    refine ⟨q_rc rfl, ?_⟩
    obtain ⟨d2, P2, hdd, hC, h⟩ := h
    refine ⟨d2, _, hdd, hC, fun H9 hp => ?_⟩
    obtain ⟨S10, rfl, hp⟩ := hp
    have h := h S10 hp
    exact h
theorem zX12_readsLaw_263 {d n : Nat} {S : gS} {P : gS → Bool → Prop} {i1 : Int32} {i2 : Int32}  (h : vp_in (i1) 7 ∧ ((¬ ((sR S (196) (Int32.toNatClampNeg (i1))) = 0) → gG d mX12_readsLaw 0 0 (g_Xz mX12_readsLaw n 0 0 (hPz P)) 304 n (hH S) [some (.ref (180)), some (.int (i1)), some (.int (i2)), none, none, none] [] 0 0) ∧ ((sR S (196) (Int32.toNatClampNeg (i1))) = 0 → s_cz d mX12_isSign n S [.ref (180), .int ((60 : Int32))] (fun S2 b3 => (b3 = false → s_cv d mX12_puts n S2 [.ref (180), .int ((25 : Int32))] (fun S4 => gG d mX12_readsLaw 0 0 (g_Xz mX12_readsLaw n 0 0 (hPz P)) 292 n (hH S4) [some (.ref (180)), some (.int (i1)), none, none, none, none] [] 0 0)) ∧ (b3 = true → s_cv d mX12_puts n S2 [.ref (180), .int ((24 : Int32))] (fun S5 => gG d mX12_readsLaw 0 0 (g_Xz mX12_readsLaw n 0 0 (hPz P)) 292 n (hH S5) [some (.ref (180)), some (.int (i1)), none, none, none, none] [] 0 0)))))) : gG d mX12_readsLaw 0 0 (g_Xz mX12_readsLaw n 0 0 (hPz P)) 263 n (hH S) [some (.ref (180)), some (.int (i1)), some (.int (i2)), none, none, none] [] 0 0 := by
  refine kX12_readsLaw_263  ?_
  refine q_gc rfl rfl ?_
  obtain ⟨hv1, h⟩ := h
  refine q_al (k := Int32.toNatClampNeg (i1)) rfl (by decide) hv1 rfl ?_
  refine ⟨fun c => ?_, fun c => ?_⟩
  · have h := h.1 c
    exact h
  · have h := h.2 c
    refine ⟨q_rc rfl, ?_⟩
    obtain ⟨d2, P2, hdd, hC, h⟩ := h
    refine ⟨d2, _, hdd, hC, fun H9 b3 hp => ?_⟩
    obtain ⟨S2, rfl, hp⟩ := hp
    have h := h S2 b3 hp
    refine ⟨fun c => ?_, fun c => ?_⟩
    · have h := h.1 c
      refine ⟨q_rc rfl, ?_⟩
      obtain ⟨d2, P2, hdd, hC, h⟩ := h
      refine ⟨d2, _, hdd, hC, fun H9 hp => ?_⟩
      obtain ⟨S4, rfl, hp⟩ := hp
      have h := h S4 hp
      exact h
    · have h := h.2 c
      refine ⟨q_rc rfl, ?_⟩
      obtain ⟨d2, P2, hdd, hC, h⟩ := h
      refine ⟨d2, _, hdd, hC, fun H9 hp => ?_⟩
      obtain ⟨S5, rfl, hp⟩ := hp
      have h := h S5 hp
      exact h
theorem zX12_readsLaw_292 {d n : Nat} {S : gS} {P : gS → Bool → Prop} {i1 : Int32}  (h : vp_in (i1) 7 ∧ (∀ S2, S2 = uR S (196) (Int32.toNatClampNeg (i1)) (vp_nar .boolean ((1 : Int32))) → s_cv d mX12_nextToken n S2 [.ref (180)] (fun S3 => gG d mX12_readsLaw 0 0 (g_Xz mX12_readsLaw n 0 0 (hPz P)) 11 n (hH S3) [some (.ref (180)), some (.int (i1)), some (.int ((1 : Int32))), none, none, none] [] 0 0))) : gG d mX12_readsLaw 0 0 (g_Xz mX12_readsLaw n 0 0 (hPz P)) 292 n (hH S) [some (.ref (180)), some (.int (i1)), none, none, none, none] [] 0 0 := by
  refine kX12_readsLaw_292  ?_
  refine q_gc rfl rfl ?_
  obtain ⟨hv1, h⟩ := h
  refine q_as (k := Int32.toNatClampNeg (i1)) rfl (by decide) hv1 rfl ?_
  obtain ⟨S2, eS⟩ : ∃ z, z = uR S (196) (Int32.toNatClampNeg (i1)) (vp_nar .boolean ((1 : Int32))) := ⟨_, rfl⟩
  rw [← eS]
  have h := h S2 eS
  refine ⟨q_rc rfl, ?_⟩
  obtain ⟨d2, P2, hdd, hC, h⟩ := h
  refine ⟨d2, _, hdd, hC, fun H9 hp => ?_⟩
  obtain ⟨S3, rfl, hp⟩ := hp
  have h := h S3 hp
  exact h
theorem zX12_readsLaw_304 {d n : Nat} {S : gS} {P : gS → Bool → Prop} {i1 : Int32} {i2 : Int32}  (h : s_cz d mX12_isWord n S [.ref (180), .long ((1111 : Int64))] (fun S1 b2 => (b2 = true → gG d mX12_readsLaw 0 0 (g_Xz mX12_readsLaw n 0 0 (hPz P)) 324 n (hH S1) [some (.ref (180)), some (.int (i1)), none, none, none, none] [] 0 0) ∧ (b2 = false → s_cz d mX12_isWord n S1 [.ref (180), .long ((423 : Int64))] (fun S3 b4 => (b4 = false → s_cz d mX12_isSign n S3 [.ref (180), .int ((41 : Int32))] (fun S5 b6 => (b6 = false → gG d mX12_readsLaw 0 0 (g_Xz mX12_readsLaw n 0 0 (hPz P)) 399 n (hH S5) [some (.ref (180)), some (.int (i1)), none, none, none, none] [] 0 0) ∧ (b6 = true → (i1 ≤ 0 → gG d mX12_readsLaw 0 0 (g_Xz mX12_readsLaw n 0 0 (hPz P)) 399 n (hH S5) [some (.ref (180)), some (.int (i1)), none, none, none, none] [] 0 0) ∧ (¬ (i1 ≤ 0) → s_cv d mX12_puts n S5 [.ref (180), .int ((29 : Int32))] (fun S7 => gG d mX12_readsLaw 0 0 (g_Xz mX12_readsLaw n 0 0 (hPz P)) 379 n (hH S7) [some (.ref (180)), some (.int ((i1 + (-1)))), some (.int (i2)), none, none, none] [] 0 0))))) ∧ (b4 = true → gG d mX12_readsLaw 0 0 (g_Xz mX12_readsLaw n 0 0 (hPz P)) 324 n (hH S3) [some (.ref (180)), some (.int (i1)), none, none, none, none] [] 0 0))))) : gG d mX12_readsLaw 0 0 (g_Xz mX12_readsLaw n 0 0 (hPz P)) 304 n (hH S) [some (.ref (180)), some (.int (i1)), some (.int (i2)), none, none, none] [] 0 0 := by
  refine kX12_readsLaw_304  ?_
  refine ⟨q_rc rfl, ?_⟩
  obtain ⟨d2, P2, hdd, hC, h⟩ := h
  refine ⟨d2, _, hdd, hC, fun H9 b2 hp => ?_⟩
  obtain ⟨S1, rfl, hp⟩ := hp
  have h := h S1 b2 hp
  refine ⟨fun c => ?_, fun c => ?_⟩
  · have h := h.1 c
    exact h
  · have h := h.2 c
    refine ⟨q_rc rfl, ?_⟩
    obtain ⟨d2, P2, hdd, hC, h⟩ := h
    refine ⟨d2, _, hdd, hC, fun H9 b4 hp => ?_⟩
    obtain ⟨S3, rfl, hp⟩ := hp
    have h := h S3 b4 hp
    refine ⟨fun c => ?_, fun c => ?_⟩
    · have h := h.1 c
      refine ⟨q_rc rfl, ?_⟩
      obtain ⟨d2, P2, hdd, hC, h⟩ := h
      refine ⟨d2, _, hdd, hC, fun H9 b6 hp => ?_⟩
      obtain ⟨S5, rfl, hp⟩ := hp
      have h := h S5 b6 hp
      refine ⟨fun c => ?_, fun c => ?_⟩
      · have h := h.1 c
        exact h
      · have h := h.2 c
        refine ⟨fun c => ?_, fun c => ?_⟩
        · have h := h.1 c
          exact h
        · have h := h.2 c
          refine ⟨q_rc rfl, ?_⟩
          obtain ⟨d2, P2, hdd, hC, h⟩ := h
          refine ⟨d2, _, hdd, hC, fun H9 hp => ?_⟩
          obtain ⟨S7, rfl, hp⟩ := hp
          have h := h S7 hp
          exact h
    · have h := h.2 c
      exact h
theorem zX12_readsLaw_324 {d n : Nat} {S : gS} {P : gS → Bool → Prop} {i1 : Int32}  (h : s_cz d mX12_isWord n S [.ref (180), .long ((1111 : Int64))] (fun S1 b2 => (b2 = false → s_cv d mX12_puts n S1 [.ref (180), .int ((27 : Int32))] (fun S3 => gG d mX12_readsLaw 0 0 (g_Xz mX12_readsLaw n 0 0 (hPz P)) 345 n (hH S3) [some (.ref (180)), some (.int (i1)), none, none, none, none] [] 0 0)) ∧ (b2 = true → s_cv d mX12_puts n S1 [.ref (180), .int ((26 : Int32))] (fun S4 => gG d mX12_readsLaw 0 0 (g_Xz mX12_readsLaw n 0 0 (hPz P)) 345 n (hH S4) [some (.ref (180)), some (.int (i1)), none, none, none, none] [] 0 0)))) : gG d mX12_readsLaw 0 0 (g_Xz mX12_readsLaw n 0 0 (hPz P)) 324 n (hH S) [some (.ref (180)), some (.int (i1)), none, none, none, none] [] 0 0 := by
  refine kX12_readsLaw_324  ?_
  refine ⟨q_rc rfl, ?_⟩
  obtain ⟨d2, P2, hdd, hC, h⟩ := h
  refine ⟨d2, _, hdd, hC, fun H9 b2 hp => ?_⟩
  obtain ⟨S1, rfl, hp⟩ := hp
  have h := h S1 b2 hp
  refine ⟨fun c => ?_, fun c => ?_⟩
  · have h := h.1 c
    refine ⟨q_rc rfl, ?_⟩
    obtain ⟨d2, P2, hdd, hC, h⟩ := h
    refine ⟨d2, _, hdd, hC, fun H9 hp => ?_⟩
    obtain ⟨S3, rfl, hp⟩ := hp
    have h := h S3 hp
    exact h
  · have h := h.2 c
    refine ⟨q_rc rfl, ?_⟩
    obtain ⟨d2, P2, hdd, hC, h⟩ := h
    refine ⟨d2, _, hdd, hC, fun H9 hp => ?_⟩
    obtain ⟨S4, rfl, hp⟩ := hp
    have h := h S4 hp
    exact h
theorem zX12_readsLaw_345 {d n : Nat} {S : gS} {P : gS → Bool → Prop} {i1 : Int32}  (h : vp_in (i1) 7 ∧ (∀ S2, S2 = uR S (196) (Int32.toNatClampNeg (i1)) (vp_nar .boolean ((0 : Int32))) → s_cv d mX12_nextToken n S2 [.ref (180)] (fun S3 => gG d mX12_readsLaw 0 0 (g_Xz mX12_readsLaw n 0 0 (hPz P)) 11 n (hH S3) [some (.ref (180)), some (.int (i1)), some (.int ((1 : Int32))), none, none, none] [] 0 0))) : gG d mX12_readsLaw 0 0 (g_Xz mX12_readsLaw n 0 0 (hPz P)) 345 n (hH S) [some (.ref (180)), some (.int (i1)), none, none, none, none] [] 0 0 := by
  refine kX12_readsLaw_345  ?_
  refine q_gc rfl rfl ?_
  obtain ⟨hv1, h⟩ := h
  refine q_as (k := Int32.toNatClampNeg (i1)) rfl (by decide) hv1 rfl ?_
  obtain ⟨S2, eS⟩ : ∃ z, z = uR S (196) (Int32.toNatClampNeg (i1)) (vp_nar .boolean ((0 : Int32))) := ⟨_, rfl⟩
  rw [← eS]
  have h := h S2 eS
  refine ⟨q_rc rfl, ?_⟩
  obtain ⟨d2, P2, hdd, hC, h⟩ := h
  refine ⟨d2, _, hdd, hC, fun H9 hp => ?_⟩
  obtain ⟨S3, rfl, hp⟩ := hp
  have h := h S3 hp
  exact h
theorem zX12_readsLaw_379 {d n : Nat} {S : gS} {P : gS → Bool → Prop} {i1 : Int32} {i2 : Int32}  (h : (i1 ≤ 0 → s_cv d mX12_nextToken n S [.ref (180)] (fun S1 => gG d mX12_readsLaw 0 0 (g_Xz mX12_readsLaw n 0 0 (hPz P)) 11 n (hH S1) [some (.ref (180)), some (.int (i1)), some (.int (i2)), none, none, none] [] 0 0)) ∧ (¬ (i1 ≤ 0) → vp_in (i1) 7 ∧ ((¬ ((sR S (195) (Int32.toNatClampNeg (i1))) = (1 : Int32)) → s_cv d mX12_nextToken n S [.ref (180)] (fun S3 => gG d mX12_readsLaw 0 0 (g_Xz mX12_readsLaw n 0 0 (hPz P)) 11 n (hH S3) [some (.ref (180)), some (.int (i1)), some (.int (i2)), none, none, none] [] 0 0)) ∧ ((sR S (195) (Int32.toNatClampNeg (i1))) = (1 : Int32) → gG d mX12_readsLaw 0 0 (g_Xz mX12_readsLaw n 0 0 (hPz P)) 379 n (hH S) [some (.ref (180)), some (.int ((i1 + (-1)))), some (.int (i2)), none, none, none] [] 0 0)))) : gG d mX12_readsLaw 0 0 (g_Xz mX12_readsLaw n 0 0 (hPz P)) 379 n (hH S) [some (.ref (180)), some (.int (i1)), some (.int (i2)), none, none, none] [] 0 0 := by
  refine kX12_readsLaw_379  ?_
  refine ⟨fun c => ?_, fun c => ?_⟩
  · have h := h.1 c
    refine ⟨q_rc rfl, ?_⟩
    obtain ⟨d2, P2, hdd, hC, h⟩ := h
    refine ⟨d2, _, hdd, hC, fun H9 hp => ?_⟩
    obtain ⟨S1, rfl, hp⟩ := hp
    have h := h S1 hp
    exact h
  · have h := h.2 c
    refine q_gc rfl rfl ?_
    obtain ⟨hv2, h⟩ := h
    refine q_al (k := Int32.toNatClampNeg (i1)) rfl (by decide) hv2 rfl ?_
    refine ⟨fun c => ?_, fun c => ?_⟩
    · have h := h.1 c
      refine ⟨q_rc rfl, ?_⟩
      obtain ⟨d2, P2, hdd, hC, h⟩ := h
      refine ⟨d2, _, hdd, hC, fun H9 hp => ?_⟩
      obtain ⟨S3, rfl, hp⟩ := hp
      have h := h S3 hp
      exact h
    · have h := h.2 c
      exact h
theorem zX12_readsLaw_399 {d n : Nat} {S : gS} {P : gS → Bool → Prop} {i1 : Int32}  (h : (¬ (i1 = 0) → s_cz d mX12_fails n S [.ref (180), .int ((1 : Int32))] (fun S1 b2 => P S1 b2)) ∧ (i1 = 0 → s_cz d mX12_isSign n S [.ref (180), .int ((59 : Int32))] (fun S3 b4 => (b4 = false → s_cz d mX12_fails n S3 [.ref (180), .int ((1 : Int32))] (fun S5 b6 => P S5 b6)) ∧ (b4 = true → s_cv d mX12_nextToken n S3 [.ref (180)] (fun S7 => P S7 true))))) : gG d mX12_readsLaw 0 0 (g_Xz mX12_readsLaw n 0 0 (hPz P)) 399 n (hH S) [some (.ref (180)), some (.int (i1)), none, none, none, none] [] 0 0 := by
  refine kX12_readsLaw_399  ?_
  refine ⟨fun c => ?_, fun c => ?_⟩
  · have h := h.1 c
    refine ⟨q_rc rfl, ?_⟩
    obtain ⟨d2, P2, hdd, hC, h⟩ := h
    refine ⟨d2, _, hdd, hC, fun H9 b2 hp => ?_⟩
    obtain ⟨S1, rfl, hp⟩ := hp
    have h := h S1 b2 hp
    exact ⟨_, rfl, h⟩
  · have h := h.2 c
    refine ⟨q_rc rfl, ?_⟩
    obtain ⟨d2, P2, hdd, hC, h⟩ := h
    refine ⟨d2, _, hdd, hC, fun H9 b4 hp => ?_⟩
    obtain ⟨S3, rfl, hp⟩ := hp
    have h := h S3 b4 hp
    refine ⟨fun c => ?_, fun c => ?_⟩
    · have h := h.1 c
      refine ⟨q_rc rfl, ?_⟩
      obtain ⟨d2, P2, hdd, hC, h⟩ := h
      refine ⟨d2, _, hdd, hC, fun H9 b6 hp => ?_⟩
      obtain ⟨S5, rfl, hp⟩ := hp
      have h := h S5 b6 hp
      exact ⟨_, rfl, h⟩
    · have h := h.2 c
      refine ⟨q_rc rfl, ?_⟩
      obtain ⟨d2, P2, hdd, hC, h⟩ := h
      refine ⟨d2, _, hdd, hC, fun H9 hp => ?_⟩
      obtain ⟨S7, rfl, hp⟩ := hp
      have h := h S7 hp
      exact ⟨_, rfl, h⟩

theorem zX12_opens_0 {d n : Nat} {S : gS} {P : gS → Prop} {i1 : Int32}  (h : vp_in (i1) 7 ∧ (∀ S2, S2 = uR S (198) (Int32.toNatClampNeg (i1)) ((0 : Int32)) → (∀ S3, S3 = uR S2 (200) (Int32.toNatClampNeg (i1)) ((0 : Int32)) → (∀ S4, S4 = uR S3 (201) (Int32.toNatClampNeg (i1)) ((0 : Int32)) → (∀ S5, S5 = uR S4 (202) (Int32.toNatClampNeg (i1)) ((20 : Int32)) → (∀ S6, S6 = uR S5 (204) (Int32.toNatClampNeg (i1)) ((0 : Int32)) → P S6)))))) : gG d mX12_opens 0 0 (g_Xv mX12_opens n 0 0 (hPv P)) 0 n (hH S) [some (.ref (180)), some (.int (i1))] [] 0 0 := by
  refine kX12_opens_0  ?_
  refine q_gc rfl rfl ?_
  obtain ⟨hv1, h⟩ := h
  refine q_as (k := Int32.toNatClampNeg (i1)) rfl (by decide) hv1 rfl ?_
  obtain ⟨S2, eS⟩ : ∃ z, z = uR S (198) (Int32.toNatClampNeg (i1)) ((0 : Int32)) := ⟨_, rfl⟩
  rw [← eS]
  have h := h S2 eS
  refine q_gc rfl rfl ?_
  refine q_as (k := Int32.toNatClampNeg (i1)) rfl (by decide) hv1 rfl ?_
  obtain ⟨S3, eS⟩ : ∃ z, z = uR S2 (200) (Int32.toNatClampNeg (i1)) ((0 : Int32)) := ⟨_, rfl⟩
  rw [← eS]
  have h := h S3 eS
  refine q_gc rfl rfl ?_
  refine q_as (k := Int32.toNatClampNeg (i1)) rfl (by decide) hv1 rfl ?_
  obtain ⟨S4, eS⟩ : ∃ z, z = uR S3 (201) (Int32.toNatClampNeg (i1)) ((0 : Int32)) := ⟨_, rfl⟩
  rw [← eS]
  have h := h S4 eS
  refine q_gc rfl rfl ?_
  refine q_as (k := Int32.toNatClampNeg (i1)) rfl (by decide) hv1 rfl ?_
  obtain ⟨S5, eS⟩ : ∃ z, z = uR S4 (202) (Int32.toNatClampNeg (i1)) ((20 : Int32)) := ⟨_, rfl⟩
  rw [← eS]
  have h := h S5 eS
  refine q_gc rfl rfl ?_
  refine q_as (k := Int32.toNatClampNeg (i1)) rfl (by decide) hv1 rfl ?_
  obtain ⟨S6, eS⟩ : ∃ z, z = uR S5 (204) (Int32.toNatClampNeg (i1)) ((0 : Int32)) := ⟨_, rfl⟩
  rw [← eS]
  have h := h S6 eS
  exact ⟨_, rfl, h⟩

theorem zX12_sums_0 {d n : Nat} {S : gS} {P : gS → Prop} {i1 : Int32}  (h : vp_in (i1) 7 ∧ ((¬ ((sR S (202) (Int32.toNatClampNeg (i1))) = (21 : Int32)) → (((∀ S2, S2 = uR S (201) (Int32.toNatClampNeg (i1)) (((sR S (201) (Int32.toNatClampNeg (i1))) + (sR S (203) (Int32.toNatClampNeg (i1))))) → (∀ S3, S3 = uR S2 (204) (Int32.toNatClampNeg (i1)) ((0 : Int32)) → P S3))))) ∧ ((sR S (202) (Int32.toNatClampNeg (i1))) = (21 : Int32) → (((∀ S4, S4 = uR S (201) (Int32.toNatClampNeg (i1)) (((sR S (201) (Int32.toNatClampNeg (i1))) - (sR S (203) (Int32.toNatClampNeg (i1))))) → (∀ S5, S5 = uR S4 (204) (Int32.toNatClampNeg (i1)) ((0 : Int32)) → P S5))))))) : gG d mX12_sums 0 0 (g_Xv mX12_sums n 0 0 (hPv P)) 0 n (hH S) [some (.ref (180)), some (.int (i1))] [] 0 0 := by
  refine kX12_sums_0  ?_
  refine q_gc rfl rfl ?_
  refine q_gc rfl rfl ?_
  obtain ⟨hv1, h⟩ := h
  refine q_al (k := Int32.toNatClampNeg (i1)) rfl (by decide) hv1 rfl ?_
  refine ⟨fun c => ?_, fun c => ?_⟩
  · have h := h.1 c
    refine q_gc rfl rfl ?_
    refine q_al (k := Int32.toNatClampNeg (i1)) rfl (by decide) hv1 rfl ?_
    refine q_gc rfl rfl ?_
    refine q_al (k := Int32.toNatClampNeg (i1)) rfl (by decide) hv1 rfl ?_
    refine q_as (k := Int32.toNatClampNeg (i1)) rfl (by decide) hv1 rfl ?_
    obtain ⟨S2, eS⟩ : ∃ z, z = uR S (201) (Int32.toNatClampNeg (i1)) (((sR S (201) (Int32.toNatClampNeg (i1))) + (sR S (203) (Int32.toNatClampNeg (i1))))) := ⟨_, rfl⟩
    rw [← eS]
    have h := h S2 eS
    refine q_gc rfl rfl ?_
    refine q_as (k := Int32.toNatClampNeg (i1)) rfl (by decide) hv1 rfl ?_
    obtain ⟨S3, eS⟩ : ∃ z, z = uR S2 (204) (Int32.toNatClampNeg (i1)) ((0 : Int32)) := ⟨_, rfl⟩
    rw [← eS]
    have h := h S3 eS
    exact ⟨_, rfl, h⟩
  · have h := h.2 c
    refine q_gc rfl rfl ?_
    refine q_al (k := Int32.toNatClampNeg (i1)) rfl (by decide) hv1 rfl ?_
    refine q_gc rfl rfl ?_
    refine q_al (k := Int32.toNatClampNeg (i1)) rfl (by decide) hv1 rfl ?_
    refine q_as (k := Int32.toNatClampNeg (i1)) rfl (by decide) hv1 rfl ?_
    obtain ⟨S4, eS⟩ : ∃ z, z = uR S (201) (Int32.toNatClampNeg (i1)) (((sR S (201) (Int32.toNatClampNeg (i1))) - (sR S (203) (Int32.toNatClampNeg (i1))))) := ⟨_, rfl⟩
    rw [← eS]
    have h := h S4 eS
    refine q_gc rfl rfl ?_
    refine q_as (k := Int32.toNatClampNeg (i1)) rfl (by decide) hv1 rfl ?_
    obtain ⟨S5, eS⟩ : ∃ z, z = uR S4 (204) (Int32.toNatClampNeg (i1)) ((0 : Int32)) := ⟨_, rfl⟩
    rw [← eS]
    have h := h S5 eS
    exact ⟨_, rfl, h⟩

theorem zX12_tests_0 {d n : Nat} {S : gS} {P : gS → Prop} {i1 : Int32}  (h : s_cv d mX12_sums n S [.ref (180), .int (i1)] (fun S1 => vp_in (i1) 7 ∧ (((¬ ((sR S1 (200) (Int32.toNatClampNeg (i1))) = (24 : Int32)) → gG d mX12_tests 0 0 (g_Xv mX12_tests n 0 0 (hPv P)) 44 n (hH S1) [some (.ref (180)), some (.int (i1)), some (.int ((sR S1 (201) (Int32.toNatClampNeg (i1)))))] [] 0 0) ∧ ((sR S1 (200) (Int32.toNatClampNeg (i1))) = (24 : Int32) → ((((sR S1 (201) (Int32.toNatClampNeg (i1))) ≤ (sR S1 (199) (Int32.toNatClampNeg (i1))) → gG d mX12_tests 0 0 (g_Xv mX12_tests n 0 0 (hPv P)) 44 n (hH S1) [some (.ref (180)), some (.int (i1)), some (.int ((0 : Int32)))] [] 0 0) ∧ (¬ ((sR S1 (201) (Int32.toNatClampNeg (i1))) ≤ (sR S1 (199) (Int32.toNatClampNeg (i1)))) → gG d mX12_tests 0 0 (g_Xv mX12_tests n 0 0 (hPv P)) 44 n (hH S1) [some (.ref (180)), some (.int (i1)), some (.int ((1 : Int32)))] [] 0 0)))))))) : gG d mX12_tests 0 0 (g_Xv mX12_tests n 0 0 (hPv P)) 0 n (hH S) [some (.ref (180)), some (.int (i1)), none] [] 0 0 := by
  refine kX12_tests_0  ?_
  refine ⟨q_rc rfl, ?_⟩
  obtain ⟨d2, P2, hdd, hC, h⟩ := h
  refine ⟨d2, _, hdd, hC, fun H9 hp => ?_⟩
  obtain ⟨S1, rfl, hp⟩ := hp
  have h := h S1 hp
  refine q_gc rfl rfl ?_
  obtain ⟨hv2, h⟩ := h
  refine q_al (k := Int32.toNatClampNeg (i1)) rfl (by decide) hv2 rfl ?_
  refine q_gc rfl rfl ?_
  refine q_al (k := Int32.toNatClampNeg (i1)) rfl (by decide) hv2 rfl ?_
  refine ⟨fun c => ?_, fun c => ?_⟩
  · have h := h.1 c
    exact h
  · have h := h.2 c
    refine q_gc rfl rfl ?_
    refine q_al (k := Int32.toNatClampNeg (i1)) rfl (by decide) hv2 rfl ?_
    refine q_gc rfl rfl ?_
    refine q_al (k := Int32.toNatClampNeg (i1)) rfl (by decide) hv2 rfl ?_
    refine ⟨fun c => ?_, fun c => ?_⟩
    · have h := h.1 c
      exact h
    · have h := h.2 c
      exact h
theorem zX12_tests_44 {d n : Nat} {S : gS} {P : gS → Prop} {i1 : Int32} {i2 : Int32}  (h : vp_in (i1) 7 ∧ ((¬ ((sR S (200) (Int32.toNatClampNeg (i1))) = (25 : Int32)) → gG d mX12_tests 0 0 (g_Xv mX12_tests n 0 0 (hPv P)) 76 n (hH S) [some (.ref (180)), some (.int (i1)), some (.int (i2))] [] 0 0) ∧ ((sR S (200) (Int32.toNatClampNeg (i1))) = (25 : Int32) → (((¬ ((sR S (199) (Int32.toNatClampNeg (i1))) = (sR S (201) (Int32.toNatClampNeg (i1)))) → gG d mX12_tests 0 0 (g_Xv mX12_tests n 0 0 (hPv P)) 76 n (hH S) [some (.ref (180)), some (.int (i1)), some (.int ((0 : Int32)))] [] 0 0) ∧ ((sR S (199) (Int32.toNatClampNeg (i1))) = (sR S (201) (Int32.toNatClampNeg (i1))) → gG d mX12_tests 0 0 (g_Xv mX12_tests n 0 0 (hPv P)) 76 n (hH S) [some (.ref (180)), some (.int (i1)), some (.int ((1 : Int32)))] [] 0 0)))))) : gG d mX12_tests 0 0 (g_Xv mX12_tests n 0 0 (hPv P)) 44 n (hH S) [some (.ref (180)), some (.int (i1)), some (.int (i2))] [] 0 0 := by
  refine kX12_tests_44  ?_
  refine q_gc rfl rfl ?_
  obtain ⟨hv1, h⟩ := h
  refine q_al (k := Int32.toNatClampNeg (i1)) rfl (by decide) hv1 rfl ?_
  refine ⟨fun c => ?_, fun c => ?_⟩
  · have h := h.1 c
    exact h
  · have h := h.2 c
    refine q_gc rfl rfl ?_
    refine q_al (k := Int32.toNatClampNeg (i1)) rfl (by decide) hv1 rfl ?_
    refine q_gc rfl rfl ?_
    refine q_al (k := Int32.toNatClampNeg (i1)) rfl (by decide) hv1 rfl ?_
    refine ⟨fun c => ?_, fun c => ?_⟩
    · have h := h.1 c
      exact h
    · have h := h.2 c
      exact h
theorem zX12_tests_76 {d n : Nat} {S : gS} {P : gS → Prop} {i1 : Int32} {i2 : Int32}  (h : vp_in (i1) 7 ∧ ((¬ ((sR S (198) (Int32.toNatClampNeg (i1))) = (26 : Int32)) → gG d mX12_tests 0 0 (g_Xv mX12_tests n 0 0 (hPv P)) 106 n (hH S) [some (.ref (180)), some (.int (i1)), some (.int (i2))] [] 0 0) ∧ ((sR S (198) (Int32.toNatClampNeg (i1))) = (26 : Int32) → (((sR S (197) (Int32.toNatClampNeg (i1))) = 0 → gG d mX12_tests 0 0 (g_Xv mX12_tests n 0 0 (hPv P)) 106 n (hH S) [some (.ref (180)), some (.int (i1)), some (.int ((0 : Int32)))] [] 0 0) ∧ (¬ ((sR S (197) (Int32.toNatClampNeg (i1))) = 0) → (i2 = 0 → gG d mX12_tests 0 0 (g_Xv mX12_tests n 0 0 (hPv P)) 106 n (hH S) [some (.ref (180)), some (.int (i1)), some (.int ((0 : Int32)))] [] 0 0) ∧ (¬ (i2 = 0) → gG d mX12_tests 0 0 (g_Xv mX12_tests n 0 0 (hPv P)) 106 n (hH S) [some (.ref (180)), some (.int (i1)), some (.int ((1 : Int32)))] [] 0 0)))))) : gG d mX12_tests 0 0 (g_Xv mX12_tests n 0 0 (hPv P)) 76 n (hH S) [some (.ref (180)), some (.int (i1)), some (.int (i2))] [] 0 0 := by
  refine kX12_tests_76  ?_
  refine q_gc rfl rfl ?_
  obtain ⟨hv1, h⟩ := h
  refine q_al (k := Int32.toNatClampNeg (i1)) rfl (by decide) hv1 rfl ?_
  refine ⟨fun c => ?_, fun c => ?_⟩
  · have h := h.1 c
    exact h
  · have h := h.2 c
    refine q_gc rfl rfl ?_
    refine q_al (k := Int32.toNatClampNeg (i1)) rfl (by decide) hv1 rfl ?_
    refine ⟨fun c => ?_, fun c => ?_⟩
    · have h := h.1 c
      exact h
    · have h := h.2 c
      refine ⟨fun c => ?_, fun c => ?_⟩
      · have h := h.1 c
        exact h
      · have h := h.2 c
        exact h
theorem zX12_tests_106 {d n : Nat} {S : gS} {P : gS → Prop} {i1 : Int32} {i2 : Int32}  (h : vp_in (i1) 7 ∧ ((¬ ((sR S (198) (Int32.toNatClampNeg (i1))) = (27 : Int32)) → gG d mX12_tests 0 0 (g_Xv mX12_tests n 0 0 (hPv P)) 136 n (hH S) [some (.ref (180)), some (.int (i1)), some (.int (i2))] [] 0 0) ∧ ((sR S (198) (Int32.toNatClampNeg (i1))) = (27 : Int32) → ((¬ ((sR S (197) (Int32.toNatClampNeg (i1))) = 0) → gG d mX12_tests 0 0 (g_Xv mX12_tests n 0 0 (hPv P)) 136 n (hH S) [some (.ref (180)), some (.int (i1)), some (.int ((1 : Int32)))] [] 0 0) ∧ ((sR S (197) (Int32.toNatClampNeg (i1))) = 0 → (i2 = 0 → gG d mX12_tests 0 0 (g_Xv mX12_tests n 0 0 (hPv P)) 136 n (hH S) [some (.ref (180)), some (.int (i1)), some (.int ((0 : Int32)))] [] 0 0) ∧ (¬ (i2 = 0) → gG d mX12_tests 0 0 (g_Xv mX12_tests n 0 0 (hPv P)) 136 n (hH S) [some (.ref (180)), some (.int (i1)), some (.int ((1 : Int32)))] [] 0 0)))))) : gG d mX12_tests 0 0 (g_Xv mX12_tests n 0 0 (hPv P)) 106 n (hH S) [some (.ref (180)), some (.int (i1)), some (.int (i2))] [] 0 0 := by
  refine kX12_tests_106  ?_
  refine q_gc rfl rfl ?_
  obtain ⟨hv1, h⟩ := h
  refine q_al (k := Int32.toNatClampNeg (i1)) rfl (by decide) hv1 rfl ?_
  refine ⟨fun c => ?_, fun c => ?_⟩
  · have h := h.1 c
    exact h
  · have h := h.2 c
    refine q_gc rfl rfl ?_
    refine q_al (k := Int32.toNatClampNeg (i1)) rfl (by decide) hv1 rfl ?_
    refine ⟨fun c => ?_, fun c => ?_⟩
    · have h := h.1 c
      exact h
    · have h := h.2 c
      refine ⟨fun c => ?_, fun c => ?_⟩
      · have h := h.1 c
        exact h
      · have h := h.2 c
        exact h
theorem zX12_tests_136 {d n : Nat} {S : gS} {P : gS → Prop} {i1 : Int32} {i2 : Int32}  (h : vp_in (i1) 7 ∧ (∀ S2, S2 = uR S (197) (Int32.toNatClampNeg (i1)) (i2) → (∀ S3, S3 = uR S2 (200) (Int32.toNatClampNeg (i1)) ((0 : Int32)) → (∀ S4, S4 = uR S3 (201) (Int32.toNatClampNeg (i1)) ((0 : Int32)) → (∀ S5, S5 = uR S4 (202) (Int32.toNatClampNeg (i1)) ((20 : Int32)) → P S5))))) : gG d mX12_tests 0 0 (g_Xv mX12_tests n 0 0 (hPv P)) 136 n (hH S) [some (.ref (180)), some (.int (i1)), some (.int (i2))] [] 0 0 := by
  refine kX12_tests_136  ?_
  refine q_gc rfl rfl ?_
  obtain ⟨hv1, h⟩ := h
  refine q_as (k := Int32.toNatClampNeg (i1)) rfl (by decide) hv1 rfl ?_
  obtain ⟨S2, eS⟩ : ∃ z, z = uR S (197) (Int32.toNatClampNeg (i1)) (i2) := ⟨_, rfl⟩
  rw [← eS]
  have h := h S2 eS
  refine q_gc rfl rfl ?_
  refine q_as (k := Int32.toNatClampNeg (i1)) rfl (by decide) hv1 rfl ?_
  obtain ⟨S3, eS⟩ : ∃ z, z = uR S2 (200) (Int32.toNatClampNeg (i1)) ((0 : Int32)) := ⟨_, rfl⟩
  rw [← eS]
  have h := h S3 eS
  refine q_gc rfl rfl ?_
  refine q_as (k := Int32.toNatClampNeg (i1)) rfl (by decide) hv1 rfl ?_
  obtain ⟨S4, eS⟩ : ∃ z, z = uR S3 (201) (Int32.toNatClampNeg (i1)) ((0 : Int32)) := ⟨_, rfl⟩
  rw [← eS]
  have h := h S4 eS
  refine q_gc rfl rfl ?_
  refine q_as (k := Int32.toNatClampNeg (i1)) rfl (by decide) hv1 rfl ?_
  obtain ⟨S5, eS⟩ : ∃ z, z = uR S4 (202) (Int32.toNatClampNeg (i1)) ((20 : Int32)) := ⟨_, rfl⟩
  rw [← eS]
  have h := h S5 eS
  exact ⟨_, rfl, h⟩

theorem zX12_worked_0 {d n : Nat} {S : gS} {P : gS → Int32 → Prop} {i1 : Int32}  (h : s_cv d mX12_opens n S [.ref (180), .int ((0 : Int32))] (fun S1 => vp_in (i1) 2 ∧ (gG d mX12_worked 0 0 (g_Xj mX12_worked n 0 0 (hPi P)) 14 n (hH S1) [some (.ref (180)), some (.int (i1)), some (.int ((0 : Int32))), some (.int ((sR S1 (192) (Int32.toNatClampNeg (i1))))), none, none] [] 0 0))) : gG d mX12_worked 0 0 (g_Xj mX12_worked n 0 0 (hPi P)) 0 n (hH S) [some (.ref (180)), some (.int (i1)), none, none, none, none] [] 0 0 := by
  refine kX12_worked_0  ?_
  refine ⟨q_rc rfl, ?_⟩
  obtain ⟨d2, P2, hdd, hC, h⟩ := h
  refine ⟨d2, _, hdd, hC, fun H9 hp => ?_⟩
  obtain ⟨S1, rfl, hp⟩ := hp
  have h := h S1 hp
  refine q_gc rfl rfl ?_
  obtain ⟨hv2, h⟩ := h
  refine q_al (k := Int32.toNatClampNeg (i1)) rfl (by decide) hv2 rfl ?_
  exact h
theorem zX12_worked_14 {d n : Nat} {S : gS} {P : gS → Int32 → Prop} {i1 : Int32} {i2 : Int32} {i3 : Int32}  (h : vp_in (i1) 2 ∧ (((sR S (193) (Int32.toNatClampNeg (i1))) ≤ i3 → s_cv d mX12_tests n S [.ref (180), .int ((0 : Int32))] (fun S2 => (P S2 ((sR S2 (197) (0)))))) ∧ (¬ ((sR S (193) (Int32.toNatClampNeg (i1))) ≤ i3) → vp_in (i3) 2000 ∧ (((sR S (194) (Int32.toNatClampNeg (i3))) = (28 : Int32) → gG d mX12_worked 0 0 (g_Xj mX12_worked n 0 0 (hPi P)) 46 n (hH S) [some (.ref (180)), some (.int (i1)), some (.int (i2)), some (.int (i3)), some (.int ((sR S (194) (Int32.toNatClampNeg (i3))))), none] [] 0 0) ∧ (¬ ((sR S (194) (Int32.toNatClampNeg (i3))) = (28 : Int32)) → (¬ ((sR S (194) (Int32.toNatClampNeg (i3))) = (30 : Int32)) → ((sR S (194) (Int32.toNatClampNeg (i3))) = (20 : Int32) → gG d mX12_worked 0 0 (g_Xj mX12_worked n 0 0 (hPi P)) 89 n (hH S) [some (.ref (180)), some (.int (i1)), some (.int (i2)), some (.int (i3)), some (.int ((sR S (194) (Int32.toNatClampNeg (i3))))), none] [] 0 0) ∧ (¬ ((sR S (194) (Int32.toNatClampNeg (i3))) = (20 : Int32)) → (¬ ((sR S (194) (Int32.toNatClampNeg (i3))) = (21 : Int32)) → (¬ ((sR S (194) (Int32.toNatClampNeg (i3))) = (22 : Int32)) → ((sR S (194) (Int32.toNatClampNeg (i3))) = (24 : Int32) → gG d mX12_worked 0 0 (g_Xj mX12_worked n 0 0 (hPi P)) 137 n (hH S) [some (.ref (180)), some (.int (i1)), some (.int (i2)), some (.int (i3)), some (.int ((sR S (194) (Int32.toNatClampNeg (i3))))), none] [] 0 0) ∧ (¬ ((sR S (194) (Int32.toNatClampNeg (i3))) = (24 : Int32)) → (¬ ((sR S (194) (Int32.toNatClampNeg (i3))) = (25 : Int32)) → ((sR S (194) (Int32.toNatClampNeg (i3))) = (26 : Int32) → gG d mX12_worked 0 0 (g_Xj mX12_worked n 0 0 (hPi P)) 194 n (hH S) [some (.ref (180)), some (.int (i1)), some (.int (i2)), some (.int (i3)), some (.int ((sR S (194) (Int32.toNatClampNeg (i3))))), none] [] 0 0) ∧ (¬ ((sR S (194) (Int32.toNatClampNeg (i3))) = (26 : Int32)) → (¬ ((sR S (194) (Int32.toNatClampNeg (i3))) = (27 : Int32)) → ((sR S (194) (Int32.toNatClampNeg (i3))) < (100 : Int32) → ((20 : Int32) ≤ (sR S (194) (Int32.toNatClampNeg (i3))) → gG d mX12_worked 0 0 (g_Xj mX12_worked n 0 0 (hPi P)) 245 n (hH S) [some (.ref (180)), some (.int (i1)), some (.int (i2)), some (.int (i3)), some (.int ((sR S (194) (Int32.toNatClampNeg (i3))))), some (.int ((0 : Int32)))] [] 0 0) ∧ (¬ ((20 : Int32) ≤ (sR S (194) (Int32.toNatClampNeg (i3)))) → vp_in ((sR S (194) (Int32.toNatClampNeg (i3)))) 20 ∧ (gG d mX12_worked 0 0 (g_Xj mX12_worked n 0 0 (hPi P)) 245 n (hH S) [some (.ref (180)), some (.int (i1)), some (.int (i2)), some (.int (i3)), some (.int ((sR S (194) (Int32.toNatClampNeg (i3))))), some (.int ((sR S (206) (Int32.toNatClampNeg ((sR S (194) (Int32.toNatClampNeg (i3))))))))] [] 0 0))) ∧ (¬ ((sR S (194) (Int32.toNatClampNeg (i3))) < (100 : Int32)) → gG d mX12_worked 0 0 (g_Xj mX12_worked n 0 0 (hPi P)) 245 n (hH S) [some (.ref (180)), some (.int (i1)), some (.int (i2)), some (.int (i3)), some (.int ((sR S (194) (Int32.toNatClampNeg (i3))))), some (.int (((sR S (194) (Int32.toNatClampNeg (i3))) - (100 : Int32))))] [] 0 0)) ∧ ((sR S (194) (Int32.toNatClampNeg (i3))) = (27 : Int32) → gG d mX12_worked 0 0 (g_Xj mX12_worked n 0 0 (hPi P)) 194 n (hH S) [some (.ref (180)), some (.int (i1)), some (.int (i2)), some (.int (i3)), some (.int ((sR S (194) (Int32.toNatClampNeg (i3))))), none] [] 0 0))) ∧ ((sR S (194) (Int32.toNatClampNeg (i3))) = (25 : Int32) → gG d mX12_worked 0 0 (g_Xj mX12_worked n 0 0 (hPi P)) 137 n (hH S) [some (.ref (180)), some (.int (i1)), some (.int (i2)), some (.int (i3)), some (.int ((sR S (194) (Int32.toNatClampNeg (i3))))), none] [] 0 0))) ∧ ((sR S (194) (Int32.toNatClampNeg (i3))) = (22 : Int32) → vp_in (i2) 7 ∧ (∀ S6, S6 = uR S (204) (Int32.toNatClampNeg (i2)) ((sR S (194) (Int32.toNatClampNeg (i3)))) → gG d mX12_worked 0 0 (g_Xj mX12_worked n 0 0 (hPi P)) 14 n (hH S6) [some (.ref (180)), some (.int (i1)), some (.int (i2)), some (.int ((i3 + 1))), none, none] [] 0 0))) ∧ ((sR S (194) (Int32.toNatClampNeg (i3))) = (21 : Int32) → gG d mX12_worked 0 0 (g_Xj mX12_worked n 0 0 (hPi P)) 89 n (hH S) [some (.ref (180)), some (.int (i1)), some (.int (i2)), some (.int (i3)), some (.int ((sR S (194) (Int32.toNatClampNeg (i3))))), none] [] 0 0))) ∧ ((sR S (194) (Int32.toNatClampNeg (i3))) = (30 : Int32) → gG d mX12_worked 0 0 (g_Xj mX12_worked n 0 0 (hPi P)) 46 n (hH S) [some (.ref (180)), some (.int (i1)), some (.int (i2)), some (.int (i3)), some (.int ((sR S (194) (Int32.toNatClampNeg (i3))))), none] [] 0 0)))))) : gG d mX12_worked 0 0 (g_Xj mX12_worked n 0 0 (hPi P)) 14 n (hH S) [some (.ref (180)), some (.int (i1)), some (.int (i2)), some (.int (i3)), none, none] [] 0 0 := by
  refine kX12_worked_14  ?_
  refine q_gc rfl rfl ?_
  obtain ⟨hv1, h⟩ := h
  refine q_al (k := Int32.toNatClampNeg (i1)) rfl (by decide) hv1 rfl ?_
  refine ⟨fun c => ?_, fun c => ?_⟩
  · have h := h.1 c
    refine ⟨q_rc rfl, ?_⟩
    obtain ⟨d2, P2, hdd, hC, h⟩ := h
    refine ⟨d2, _, hdd, hC, fun H9 hp => ?_⟩
    obtain ⟨S2, rfl, hp⟩ := hp
    have h := h S2 hp
    refine q_gc rfl rfl ?_
    refine q_al (k := 0) rfl (by decide) (vp_l (by decide)) (by decide) ?_
    exact ⟨_, rfl, h⟩
  · have h := h.2 c
    refine q_gc rfl rfl ?_
    obtain ⟨hv3, h⟩ := h
    refine q_al (k := Int32.toNatClampNeg (i3)) rfl (by decide) hv3 rfl ?_
    refine ⟨fun c => ?_, fun c => ?_⟩
    · have h := h.1 c
      exact h
    · have h := h.2 c
      refine ⟨fun c => ?_, fun c => ?_⟩
      · have h := h.1 c
        refine ⟨fun c => ?_, fun c => ?_⟩
        · have h := h.1 c
          exact h
        · have h := h.2 c
          refine ⟨fun c => ?_, fun c => ?_⟩
          · have h := h.1 c
            refine ⟨fun c => ?_, fun c => ?_⟩
            · have h := h.1 c
              refine ⟨fun c => ?_, fun c => ?_⟩
              · have h := h.1 c
                exact h
              · have h := h.2 c
                refine ⟨fun c => ?_, fun c => ?_⟩
                · have h := h.1 c
                  refine ⟨fun c => ?_, fun c => ?_⟩
                  · have h := h.1 c
                    exact h
                  · have h := h.2 c
                    refine ⟨fun c => ?_, fun c => ?_⟩
                    · have h := h.1 c
                      refine ⟨fun c => ?_, fun c => ?_⟩
                      · have h := h.1 c
                        refine ⟨fun c => ?_, fun c => ?_⟩
                        · have h := h.1 c
                          exact h
                        · have h := h.2 c
                          refine q_gc rfl rfl ?_
                          obtain ⟨hv4, h⟩ := h
                          refine q_al (k := Int32.toNatClampNeg ((sR S (194) (Int32.toNatClampNeg (i3))))) rfl (by decide) hv4 rfl ?_
                          exact h
                      · have h := h.2 c
                        exact h
                    · have h := h.2 c
                      exact h
                · have h := h.2 c
                  exact h
            · have h := h.2 c
              refine q_gc rfl rfl ?_
              obtain ⟨hv5, h⟩ := h
              refine q_as (k := Int32.toNatClampNeg (i2)) rfl (by decide) hv5 rfl ?_
              obtain ⟨S6, eS⟩ : ∃ z, z = uR S (204) (Int32.toNatClampNeg (i2)) ((sR S (194) (Int32.toNatClampNeg (i3)))) := ⟨_, rfl⟩
              rw [← eS]
              have h := h S6 eS
              exact h
          · have h := h.2 c
            exact h
      · have h := h.2 c
        exact h
theorem zX12_worked_46 {d n : Nat} {S : gS} {P : gS → Int32 → Prop} {i1 : Int32} {i2 : Int32} {i3 : Int32} {i4 : Int32}  (h : (¬ (i4 = (30 : Int32)) → vp_in ((i2 + 1)) 7 ∧ (∀ S2, S2 = uR S (205) (Int32.toNatClampNeg ((i2 + 1))) ((0 : Int32)) → s_cv d mX12_opens n S2 [.ref (180), .int ((i2 + 1))] (fun S3 => gG d mX12_worked 0 0 (g_Xj mX12_worked n 0 0 (hPi P)) 14 n (hH S3) [some (.ref (180)), some (.int (i1)), some (.int ((i2 + 1))), some (.int ((i3 + 1))), none, none] [] 0 0))) ∧ (i4 = (30 : Int32) → vp_in ((i2 + 1)) 7 ∧ (∀ S5, S5 = uR S (205) (Int32.toNatClampNeg ((i2 + 1))) ((1 : Int32)) → s_cv d mX12_opens n S5 [.ref (180), .int ((i2 + 1))] (fun S6 => gG d mX12_worked 0 0 (g_Xj mX12_worked n 0 0 (hPi P)) 14 n (hH S6) [some (.ref (180)), some (.int (i1)), some (.int ((i2 + 1))), some (.int ((i3 + 1))), none, none] [] 0 0)))) : gG d mX12_worked 0 0 (g_Xj mX12_worked n 0 0 (hPi P)) 46 n (hH S) [some (.ref (180)), some (.int (i1)), some (.int (i2)), some (.int (i3)), some (.int (i4)), none] [] 0 0 := by
  refine kX12_worked_46  ?_
  refine q_gc rfl rfl ?_
  refine ⟨fun c => ?_, fun c => ?_⟩
  · have h := h.1 c
    obtain ⟨hv1, h⟩ := h
    refine q_as (k := Int32.toNatClampNeg ((i2 + 1))) rfl (by decide) hv1 rfl ?_
    obtain ⟨S2, eS⟩ : ∃ z, z = uR S (205) (Int32.toNatClampNeg ((i2 + 1))) ((0 : Int32)) := ⟨_, rfl⟩
    rw [← eS]
    have h := h S2 eS
    refine ⟨q_rc rfl, ?_⟩
    obtain ⟨d2, P2, hdd, hC, h⟩ := h
    refine ⟨d2, _, hdd, hC, fun H9 hp => ?_⟩
    obtain ⟨S3, rfl, hp⟩ := hp
    have h := h S3 hp
    exact h
  · have h := h.2 c
    obtain ⟨hv4, h⟩ := h
    refine q_as (k := Int32.toNatClampNeg ((i2 + 1))) rfl (by decide) hv4 rfl ?_
    obtain ⟨S5, eS⟩ : ∃ z, z = uR S (205) (Int32.toNatClampNeg ((i2 + 1))) ((1 : Int32)) := ⟨_, rfl⟩
    rw [← eS]
    have h := h S5 eS
    refine ⟨q_rc rfl, ?_⟩
    obtain ⟨d2, P2, hdd, hC, h⟩ := h
    refine ⟨d2, _, hdd, hC, fun H9 hp => ?_⟩
    obtain ⟨S6, rfl, hp⟩ := hp
    have h := h S6 hp
    exact h
theorem zX12_worked_89 {d n : Nat} {S : gS} {P : gS → Int32 → Prop} {i1 : Int32} {i2 : Int32} {i3 : Int32} {i4 : Int32}  (h : s_cv d mX12_sums n S [.ref (180), .int (i2)] (fun S1 => vp_in (i2) 7 ∧ (∀ S3, S3 = uR S1 (202) (Int32.toNatClampNeg (i2)) (i4) → gG d mX12_worked 0 0 (g_Xj mX12_worked n 0 0 (hPi P)) 14 n (hH S3) [some (.ref (180)), some (.int (i1)), some (.int (i2)), some (.int ((i3 + 1))), none, none] [] 0 0))) : gG d mX12_worked 0 0 (g_Xj mX12_worked n 0 0 (hPi P)) 89 n (hH S) [some (.ref (180)), some (.int (i1)), some (.int (i2)), some (.int (i3)), some (.int (i4)), none] [] 0 0 := by
  refine kX12_worked_89  ?_
  refine ⟨q_rc rfl, ?_⟩
  obtain ⟨d2, P2, hdd, hC, h⟩ := h
  refine ⟨d2, _, hdd, hC, fun H9 hp => ?_⟩
  obtain ⟨S1, rfl, hp⟩ := hp
  have h := h S1 hp
  refine q_gc rfl rfl ?_
  obtain ⟨hv2, h⟩ := h
  refine q_as (k := Int32.toNatClampNeg (i2)) rfl (by decide) hv2 rfl ?_
  obtain ⟨S3, eS⟩ : ∃ z, z = uR S1 (202) (Int32.toNatClampNeg (i2)) (i4) := ⟨_, rfl⟩
  rw [← eS]
  have h := h S3 eS
  exact h
theorem zX12_worked_137 {d n : Nat} {S : gS} {P : gS → Int32 → Prop} {i1 : Int32} {i2 : Int32} {i3 : Int32} {i4 : Int32}  (h : s_cv d mX12_sums n S [.ref (180), .int (i2)] (fun S1 => vp_in (i2) 7 ∧ ((∀ S3, S3 = uR S1 (199) (Int32.toNatClampNeg (i2)) ((sR S1 (201) (Int32.toNatClampNeg (i2)))) → (∀ S4, S4 = uR S3 (200) (Int32.toNatClampNeg (i2)) (i4) → (∀ S5, S5 = uR S4 (201) (Int32.toNatClampNeg (i2)) ((0 : Int32)) → (∀ S6, S6 = uR S5 (202) (Int32.toNatClampNeg (i2)) ((20 : Int32)) → gG d mX12_worked 0 0 (g_Xj mX12_worked n 0 0 (hPi P)) 14 n (hH S6) [some (.ref (180)), some (.int (i1)), some (.int (i2)), some (.int ((i3 + 1))), none, none] [] 0 0))))))) : gG d mX12_worked 0 0 (g_Xj mX12_worked n 0 0 (hPi P)) 137 n (hH S) [some (.ref (180)), some (.int (i1)), some (.int (i2)), some (.int (i3)), some (.int (i4)), none] [] 0 0 := by
  refine kX12_worked_137  ?_
  refine ⟨q_rc rfl, ?_⟩
  obtain ⟨d2, P2, hdd, hC, h⟩ := h
  refine ⟨d2, _, hdd, hC, fun H9 hp => ?_⟩
  obtain ⟨S1, rfl, hp⟩ := hp
  have h := h S1 hp
  refine q_gc rfl rfl ?_
  refine q_gc rfl rfl ?_
  obtain ⟨hv2, h⟩ := h
  refine q_al (k := Int32.toNatClampNeg (i2)) rfl (by decide) hv2 rfl ?_
  refine q_as (k := Int32.toNatClampNeg (i2)) rfl (by decide) hv2 rfl ?_
  obtain ⟨S3, eS⟩ : ∃ z, z = uR S1 (199) (Int32.toNatClampNeg (i2)) ((sR S1 (201) (Int32.toNatClampNeg (i2)))) := ⟨_, rfl⟩
  rw [← eS]
  have h := h S3 eS
  refine q_gc rfl rfl ?_
  refine q_as (k := Int32.toNatClampNeg (i2)) rfl (by decide) hv2 rfl ?_
  obtain ⟨S4, eS⟩ : ∃ z, z = uR S3 (200) (Int32.toNatClampNeg (i2)) (i4) := ⟨_, rfl⟩
  rw [← eS]
  have h := h S4 eS
  refine q_gc rfl rfl ?_
  refine q_as (k := Int32.toNatClampNeg (i2)) rfl (by decide) hv2 rfl ?_
  obtain ⟨S5, eS⟩ : ∃ z, z = uR S4 (201) (Int32.toNatClampNeg (i2)) ((0 : Int32)) := ⟨_, rfl⟩
  rw [← eS]
  have h := h S5 eS
  refine q_gc rfl rfl ?_
  refine q_as (k := Int32.toNatClampNeg (i2)) rfl (by decide) hv2 rfl ?_
  obtain ⟨S6, eS⟩ : ∃ z, z = uR S5 (202) (Int32.toNatClampNeg (i2)) ((20 : Int32)) := ⟨_, rfl⟩
  rw [← eS]
  have h := h S6 eS
  exact h
theorem zX12_worked_194 {d n : Nat} {S : gS} {P : gS → Int32 → Prop} {i1 : Int32} {i2 : Int32} {i3 : Int32} {i4 : Int32}  (h : s_cv d mX12_tests n S [.ref (180), .int (i2)] (fun S1 => vp_in (i2) 7 ∧ (∀ S3, S3 = uR S1 (198) (Int32.toNatClampNeg (i2)) (i4) → gG d mX12_worked 0 0 (g_Xj mX12_worked n 0 0 (hPi P)) 14 n (hH S3) [some (.ref (180)), some (.int (i1)), some (.int (i2)), some (.int ((i3 + 1))), none, none] [] 0 0))) : gG d mX12_worked 0 0 (g_Xj mX12_worked n 0 0 (hPi P)) 194 n (hH S) [some (.ref (180)), some (.int (i1)), some (.int (i2)), some (.int (i3)), some (.int (i4)), none] [] 0 0 := by
  refine kX12_worked_194  ?_
  refine ⟨q_rc rfl, ?_⟩
  obtain ⟨d2, P2, hdd, hC, h⟩ := h
  refine ⟨d2, _, hdd, hC, fun H9 hp => ?_⟩
  obtain ⟨S1, rfl, hp⟩ := hp
  have h := h S1 hp
  refine q_gc rfl rfl ?_
  obtain ⟨hv2, h⟩ := h
  refine q_as (k := Int32.toNatClampNeg (i2)) rfl (by decide) hv2 rfl ?_
  obtain ⟨S3, eS⟩ : ∃ z, z = uR S1 (198) (Int32.toNatClampNeg (i2)) (i4) := ⟨_, rfl⟩
  rw [← eS]
  have h := h S3 eS
  exact h
theorem zX12_worked_245 {d n : Nat} {S : gS} {P : gS → Int32 → Prop} {i1 : Int32} {i2 : Int32} {i3 : Int32} {i4 : Int32} {i5 : Int32}  (h : (¬ (i4 = (29 : Int32)) → gG d mX12_worked 0 0 (g_Xj mX12_worked n 0 0 (hPi P)) 268 n (hH S) [some (.ref (180)), some (.int (i1)), some (.int (i2)), some (.int (i3)), none, some (.int (i5))] [] 0 0) ∧ (i4 = (29 : Int32) → s_cv d mX12_tests n S [.ref (180), .int (i2)] (fun S1 => vp_in (i2) 7 ∧ (gG d mX12_worked 0 0 (g_Xj mX12_worked n 0 0 (hPi P)) 268 n (hH S1) [some (.ref (180)), some (.int (i1)), some (.int ((i2 + (-1)))), some (.int (i3)), none, some (.int ((sR S1 (197) (Int32.toNatClampNeg (i2)))))] [] 0 0)))) : gG d mX12_worked 0 0 (g_Xj mX12_worked n 0 0 (hPi P)) 245 n (hH S) [some (.ref (180)), some (.int (i1)), some (.int (i2)), some (.int (i3)), some (.int (i4)), some (.int (i5))] [] 0 0 := by
  refine kX12_worked_245  ?_
  refine ⟨fun c => ?_, fun c => ?_⟩
  · have h := h.1 c
    exact h
  · have h := h.2 c
    refine ⟨q_rc rfl, ?_⟩
    obtain ⟨d2, P2, hdd, hC, h⟩ := h
    refine ⟨d2, _, hdd, hC, fun H9 hp => ?_⟩
    obtain ⟨S1, rfl, hp⟩ := hp
    have h := h S1 hp
    refine q_gc rfl rfl ?_
    obtain ⟨hv2, h⟩ := h
    refine q_al (k := Int32.toNatClampNeg (i2)) rfl (by decide) hv2 rfl ?_
    exact h
theorem zX12_worked_268 {d n : Nat} {S : gS} {P : gS → Int32 → Prop} {i1 : Int32} {i2 : Int32} {i3 : Int32} {i5 : Int32}  (h : (i2 ≤ 0 → gG d mX12_worked 0 0 (g_Xj mX12_worked n 0 0 (hPi P)) 300 n (hH S) [some (.ref (180)), some (.int (i1)), some (.int (i2)), some (.int (i3)), none, some (.int (i5))] [] 0 0) ∧ (¬ (i2 ≤ 0) → vp_in (i2) 7 ∧ ((¬ ((sR S (205) (Int32.toNatClampNeg (i2))) = (1 : Int32)) → gG d mX12_worked 0 0 (g_Xj mX12_worked n 0 0 (hPi P)) 300 n (hH S) [some (.ref (180)), some (.int (i1)), some (.int (i2)), some (.int (i3)), none, some (.int (i5))] [] 0 0) ∧ ((sR S (205) (Int32.toNatClampNeg (i2))) = (1 : Int32) → (¬ (i5 = 0) → gG d mX12_worked 0 0 (g_Xj mX12_worked n 0 0 (hPi P)) 268 n (hH S) [some (.ref (180)), some (.int (i1)), some (.int ((i2 + (-1)))), some (.int (i3)), none, some (.int ((0 : Int32)))] [] 0 0) ∧ (i5 = 0 → gG d mX12_worked 0 0 (g_Xj mX12_worked n 0 0 (hPi P)) 268 n (hH S) [some (.ref (180)), some (.int (i1)), some (.int ((i2 + (-1)))), some (.int (i3)), none, some (.int ((1 : Int32)))] [] 0 0))))) : gG d mX12_worked 0 0 (g_Xj mX12_worked n 0 0 (hPi P)) 268 n (hH S) [some (.ref (180)), some (.int (i1)), some (.int (i2)), some (.int (i3)), none, some (.int (i5))] [] 0 0 := by
  refine kX12_worked_268  ?_
  refine ⟨fun c => ?_, fun c => ?_⟩
  · have h := h.1 c
    exact h
  · have h := h.2 c
    refine q_gc rfl rfl ?_
    obtain ⟨hv1, h⟩ := h
    refine q_al (k := Int32.toNatClampNeg (i2)) rfl (by decide) hv1 rfl ?_
    refine ⟨fun c => ?_, fun c => ?_⟩
    · have h := h.1 c
      exact h
    · have h := h.2 c
      refine ⟨fun c => ?_, fun c => ?_⟩
      · have h := h.1 c
        exact h
      · have h := h.2 c
        exact h
theorem zX12_worked_300 {d n : Nat} {S : gS} {P : gS → Int32 → Prop} {i1 : Int32} {i2 : Int32} {i3 : Int32} {i5 : Int32}  (h : vp_in (i2) 7 ∧ ((¬ ((sR S (204) (Int32.toNatClampNeg (i2))) = 0) → ((∀ S2, S2 = uR S (203) (Int32.toNatClampNeg (i2)) (((sR S (203) (Int32.toNatClampNeg (i2))) * i5)) → gG d mX12_worked 0 0 (g_Xj mX12_worked n 0 0 (hPi P)) 14 n (hH S2) [some (.ref (180)), some (.int (i1)), some (.int (i2)), some (.int ((i3 + 1))), none, none] [] 0 0))) ∧ ((sR S (204) (Int32.toNatClampNeg (i2))) = 0 → (∀ S3, S3 = uR S (203) (Int32.toNatClampNeg (i2)) (i5) → gG d mX12_worked 0 0 (g_Xj mX12_worked n 0 0 (hPi P)) 14 n (hH S3) [some (.ref (180)), some (.int (i1)), some (.int (i2)), some (.int ((i3 + 1))), none, none] [] 0 0)))) : gG d mX12_worked 0 0 (g_Xj mX12_worked n 0 0 (hPi P)) 300 n (hH S) [some (.ref (180)), some (.int (i1)), some (.int (i2)), some (.int (i3)), none, some (.int (i5))] [] 0 0 := by
  refine kX12_worked_300  ?_
  refine q_gc rfl rfl ?_
  refine q_gc rfl rfl ?_
  obtain ⟨hv1, h⟩ := h
  refine q_al (k := Int32.toNatClampNeg (i2)) rfl (by decide) hv1 rfl ?_
  refine ⟨fun c => ?_, fun c => ?_⟩
  · have h := h.1 c
    refine q_gc rfl rfl ?_
    refine q_al (k := Int32.toNatClampNeg (i2)) rfl (by decide) hv1 rfl ?_
    refine q_as (k := Int32.toNatClampNeg (i2)) rfl (by decide) hv1 rfl ?_
    obtain ⟨S2, eS⟩ : ∃ z, z = uR S (203) (Int32.toNatClampNeg (i2)) (((sR S (203) (Int32.toNatClampNeg (i2))) * i5)) := ⟨_, rfl⟩
    rw [← eS]
    have h := h S2 eS
    exact h
  · have h := h.2 c
    refine q_as (k := Int32.toNatClampNeg (i2)) rfl (by decide) hv1 rfl ?_
    obtain ⟨S3, eS⟩ : ∃ z, z = uR S (203) (Int32.toNatClampNeg (i2)) (i5) := ⟨_, rfl⟩
    rw [← eS]
    have h := h S3 eS
    exact h

theorem zX12_isKept_0 {d n : Nat} {S : gS} {P : gS → Bool → Prop}   (h : ((sI S (180) 6) = (1 : Int32) → ((lg_cmp (sJ S (180) 7) (7219835 : Int64)) = 0 → P S true) ∧ (¬ ((lg_cmp (sJ S (180) 7) (7219835 : Int64)) = 0) → ((lg_cmp (sJ S (180) 7) (164222 : Int64)) = 0 → P S true) ∧ (¬ ((lg_cmp (sJ S (180) 7) (164222 : Int64)) = 0) → ((lg_cmp (sJ S (180) 7) (10656676 : Int64)) = 0 → P S true) ∧ (¬ ((lg_cmp (sJ S (180) 7) (10656676 : Int64)) = 0) → ((lg_cmp (sJ S (180) 7) (4555648 : Int64)) = 0 → P S true) ∧ (¬ ((lg_cmp (sJ S (180) 7) (4555648 : Int64)) = 0) → ((lg_cmp (sJ S (180) 7) (112011003 : Int64)) = 0 → P S true) ∧ (¬ ((lg_cmp (sJ S (180) 7) (112011003 : Int64)) = 0) → ((lg_cmp (sJ S (180) 7) (175252482 : Int64)) = 0 → P S true) ∧ (¬ ((lg_cmp (sJ S (180) 7) (175252482 : Int64)) = 0) → ((lg_cmp (sJ S (180) 7) (411 : Int64)) = 0 → P S true) ∧ (¬ ((lg_cmp (sJ S (180) 7) (411 : Int64)) = 0) → ((lg_cmp (sJ S (180) 7) (355280 : Int64)) = 0 → P S true) ∧ (¬ ((lg_cmp (sJ S (180) 7) (355280 : Int64)) = 0) → ((lg_cmp (sJ S (180) 7) (281024524 : Int64)) = 0 → P S true) ∧ (¬ ((lg_cmp (sJ S (180) 7) (281024524 : Int64)) = 0) → ((lg_cmp (sJ S (180) 7) (191610176 : Int64)) = 0 → P S true) ∧ (¬ ((lg_cmp (sJ S (180) 7) (191610176 : Int64)) = 0) → ((lg_cmp (sJ S (180) 7) (326448 : Int64)) = 0 → P S true) ∧ (¬ ((lg_cmp (sJ S (180) 7) (326448 : Int64)) = 0) → ((lg_cmp (sJ S (180) 7) (388978 : Int64)) = 0 → P S true) ∧ (¬ ((lg_cmp (sJ S (180) 7) (388978 : Int64)) = 0) → ((lg_cmp (sJ S (180) 7) (1834209 : Int64)) = 0 → P S true) ∧ (¬ ((lg_cmp (sJ S (180) 7) (1834209 : Int64)) = 0) → ((lg_cmp (sJ S (180) 7) (8740238 : Int64)) = 0 → P S true) ∧ (¬ ((lg_cmp (sJ S (180) 7) (8740238 : Int64)) = 0) → ((lg_cmp (sJ S (180) 7) (459383 : Int64)) = 0 → P S true) ∧ (¬ ((lg_cmp (sJ S (180) 7) (459383 : Int64)) = 0) → ((lg_cmp (sJ S (180) 7) (383153 : Int64)) = 0 → P S true) ∧ (¬ ((lg_cmp (sJ S (180) 7) (383153 : Int64)) = 0) → ((lg_cmp (sJ S (180) 7) (279740 : Int64)) = 0 → P S true) ∧ (¬ ((lg_cmp (sJ S (180) 7) (279740 : Int64)) = 0) → ((lg_cmp (sJ S (180) 7) (10631 : Int64)) = 0 → P S true) ∧ (¬ ((lg_cmp (sJ S (180) 7) (10631 : Int64)) = 0) → ((lg_cmp (sJ S (180) 7) (1111 : Int64)) = 0 → P S true) ∧ (¬ ((lg_cmp (sJ S (180) 7) (1111 : Int64)) = 0) → (¬ ((lg_cmp (sJ S (180) 7) (423 : Int64)) = 0) → P S false) ∧ ((lg_cmp (sJ S (180) 7) (423 : Int64)) = 0 → P S true))))))))))))))))))))) ∧ (¬ ((sI S (180) 6) = (1 : Int32)) → P S true)) : gG d mX12_isKept 0 0 (g_Xz mX12_isKept n 0 0 (hPz P)) 0 n (hH S) [some (.ref (180))] [] 0 0 := by
  refine kX12_isKept_0  ?_
  refine q_gi rfl rfl ?_
  refine ⟨fun c => ?_, fun c => ?_⟩
  · have h := h.1 c
    refine q_gl rfl rfl ?_
    refine ⟨fun c => ?_, fun c => ?_⟩
    · have h := h.1 c
      exact ⟨_, rfl, h⟩
    · have h := h.2 c
      refine q_gl rfl rfl ?_
      refine ⟨fun c => ?_, fun c => ?_⟩
      · have h := h.1 c
        exact ⟨_, rfl, h⟩
      · have h := h.2 c
        refine q_gl rfl rfl ?_
        refine ⟨fun c => ?_, fun c => ?_⟩
        · have h := h.1 c
          exact ⟨_, rfl, h⟩
        · have h := h.2 c
          refine q_gl rfl rfl ?_
          refine ⟨fun c => ?_, fun c => ?_⟩
          · have h := h.1 c
            exact ⟨_, rfl, h⟩
          · have h := h.2 c
            refine q_gl rfl rfl ?_
            refine ⟨fun c => ?_, fun c => ?_⟩
            · have h := h.1 c
              exact ⟨_, rfl, h⟩
            · have h := h.2 c
              refine q_gl rfl rfl ?_
              refine ⟨fun c => ?_, fun c => ?_⟩
              · have h := h.1 c
                exact ⟨_, rfl, h⟩
              · have h := h.2 c
                refine q_gl rfl rfl ?_
                refine ⟨fun c => ?_, fun c => ?_⟩
                · have h := h.1 c
                  exact ⟨_, rfl, h⟩
                · have h := h.2 c
                  refine q_gl rfl rfl ?_
                  refine ⟨fun c => ?_, fun c => ?_⟩
                  · have h := h.1 c
                    exact ⟨_, rfl, h⟩
                  · have h := h.2 c
                    refine q_gl rfl rfl ?_
                    refine ⟨fun c => ?_, fun c => ?_⟩
                    · have h := h.1 c
                      exact ⟨_, rfl, h⟩
                    · have h := h.2 c
                      refine q_gl rfl rfl ?_
                      refine ⟨fun c => ?_, fun c => ?_⟩
                      · have h := h.1 c
                        exact ⟨_, rfl, h⟩
                      · have h := h.2 c
                        refine q_gl rfl rfl ?_
                        refine ⟨fun c => ?_, fun c => ?_⟩
                        · have h := h.1 c
                          exact ⟨_, rfl, h⟩
                        · have h := h.2 c
                          refine q_gl rfl rfl ?_
                          refine ⟨fun c => ?_, fun c => ?_⟩
                          · have h := h.1 c
                            exact ⟨_, rfl, h⟩
                          · have h := h.2 c
                            refine q_gl rfl rfl ?_
                            refine ⟨fun c => ?_, fun c => ?_⟩
                            · have h := h.1 c
                              exact ⟨_, rfl, h⟩
                            · have h := h.2 c
                              refine q_gl rfl rfl ?_
                              refine ⟨fun c => ?_, fun c => ?_⟩
                              · have h := h.1 c
                                exact ⟨_, rfl, h⟩
                              · have h := h.2 c
                                refine q_gl rfl rfl ?_
                                refine ⟨fun c => ?_, fun c => ?_⟩
                                · have h := h.1 c
                                  exact ⟨_, rfl, h⟩
                                · have h := h.2 c
                                  refine q_gl rfl rfl ?_
                                  refine ⟨fun c => ?_, fun c => ?_⟩
                                  · have h := h.1 c
                                    exact ⟨_, rfl, h⟩
                                  · have h := h.2 c
                                    refine q_gl rfl rfl ?_
                                    refine ⟨fun c => ?_, fun c => ?_⟩
                                    · have h := h.1 c
                                      exact ⟨_, rfl, h⟩
                                    · have h := h.2 c
                                      refine q_gl rfl rfl ?_
                                      refine ⟨fun c => ?_, fun c => ?_⟩
                                      · have h := h.1 c
                                        exact ⟨_, rfl, h⟩
                                      · have h := h.2 c
                                        refine q_gl rfl rfl ?_
                                        refine ⟨fun c => ?_, fun c => ?_⟩
                                        · have h := h.1 c
                                          exact ⟨_, rfl, h⟩
                                        · have h := h.2 c
                                          refine q_gl rfl rfl ?_
                                          refine ⟨fun c => ?_, fun c => ?_⟩
                                          · have h := h.1 c
                                            exact ⟨_, rfl, h⟩
                                          · have h := h.2 c
                                            exact ⟨_, rfl, h⟩
  · have h := h.2 c
    exact ⟨_, rfl, h⟩

theorem zX12_mouthNamed_0 {d n : Nat} {S : gS} {P : gS → Int32 → Prop} {i1 : Int32}  (h : gG d mX12_mouthNamed 0 0 (g_Xj mX12_mouthNamed n 0 0 (hPi P)) 5 n (hH S) [some (.ref (180)), some (.int (i1)), some (.int (((7 : Int32) * i1)))] [] 0 0) : gG d mX12_mouthNamed 0 0 (g_Xj mX12_mouthNamed n 0 0 (hPi P)) 0 n (hH S) [some (.ref (180)), some (.int (i1)), none] [] 0 0 := by
  refine kX12_mouthNamed_0  ?_
  exact h
theorem zX12_mouthNamed_5 {d n : Nat} {S : gS} {P : gS → Int32 → Prop} {i1 : Int32} {i2 : Int32}  (h : vp_in ((((3 : Int32) * i1) + (0 : Int32))) 6 ∧ (((((7 : Int32) * i1) + (sR S (182) (Int32.toNatClampNeg ((((3 : Int32) * i1) + (0 : Int32)))))) ≤ i2 → P S ((-1 : Int32))) ∧ (¬ ((((7 : Int32) * i1) + (sR S (182) (Int32.toNatClampNeg ((((3 : Int32) * i1) + (0 : Int32)))))) ≤ i2) → vp_in (i2) 14 ∧ ((¬ ((lg_cmp (sL S (183) (Int32.toNatClampNeg (i2))) (sJ S (180) 7)) = 0) → gG d mX12_mouthNamed 0 0 (g_Xj mX12_mouthNamed n 0 0 (hPi P)) 5 n (hH S) [some (.ref (180)), some (.int (i1)), some (.int ((i2 + 1)))] [] 0 0) ∧ ((lg_cmp (sL S (183) (Int32.toNatClampNeg (i2))) (sJ S (180) 7)) = 0 → P S ((i2 - ((7 : Int32) * i1)))))))) : gG d mX12_mouthNamed 0 0 (g_Xj mX12_mouthNamed n 0 0 (hPi P)) 5 n (hH S) [some (.ref (180)), some (.int (i1)), some (.int (i2))] [] 0 0 := by
  refine kX12_mouthNamed_5  ?_
  refine q_gc rfl rfl ?_
  obtain ⟨hv1, h⟩ := h
  refine q_al (k := Int32.toNatClampNeg ((((3 : Int32) * i1) + (0 : Int32)))) rfl (by decide) hv1 rfl ?_
  refine ⟨fun c => ?_, fun c => ?_⟩
  · have h := h.1 c
    exact ⟨_, rfl, h⟩
  · have h := h.2 c
    refine q_gc rfl rfl ?_
    obtain ⟨hv2, h⟩ := h
    refine q_ll (k := Int32.toNatClampNeg (i2)) rfl hv2 rfl ?_
    refine q_gl rfl rfl ?_
    refine ⟨fun c => ?_, fun c => ?_⟩
    · have h := h.1 c
      exact h
    · have h := h.2 c
      exact ⟨_, rfl, h⟩

theorem zX12_letterNamed_0 {d n : Nat} {S : gS} {P : gS → Int32 → Prop} {i1 : Int32}  (h : gG d mX12_letterNamed 0 0 (g_Xj mX12_letterNamed n 0 0 (hPi P)) 5 n (hH S) [some (.ref (180)), some (.int (i1)), some (.int (((6 : Int32) * i1)))] [] 0 0) : gG d mX12_letterNamed 0 0 (g_Xj mX12_letterNamed n 0 0 (hPi P)) 0 n (hH S) [some (.ref (180)), some (.int (i1)), none] [] 0 0 := by
  refine kX12_letterNamed_0  ?_
  exact h
theorem zX12_letterNamed_5 {d n : Nat} {S : gS} {P : gS → Int32 → Prop} {i1 : Int32} {i2 : Int32}  (h : vp_in ((((3 : Int32) * i1) + (1 : Int32))) 6 ∧ (((((6 : Int32) * i1) + (sR S (182) (Int32.toNatClampNeg ((((3 : Int32) * i1) + (1 : Int32)))))) ≤ i2 → P S ((-1 : Int32))) ∧ (¬ ((((6 : Int32) * i1) + (sR S (182) (Int32.toNatClampNeg ((((3 : Int32) * i1) + (1 : Int32)))))) ≤ i2) → vp_in (i2) 12 ∧ ((¬ ((lg_cmp (sL S (184) (Int32.toNatClampNeg (i2))) (sJ S (180) 7)) = 0) → gG d mX12_letterNamed 0 0 (g_Xj mX12_letterNamed n 0 0 (hPi P)) 5 n (hH S) [some (.ref (180)), some (.int (i1)), some (.int ((i2 + 1)))] [] 0 0) ∧ ((lg_cmp (sL S (184) (Int32.toNatClampNeg (i2))) (sJ S (180) 7)) = 0 → P S ((i2 - ((6 : Int32) * i1)))))))) : gG d mX12_letterNamed 0 0 (g_Xj mX12_letterNamed n 0 0 (hPi P)) 5 n (hH S) [some (.ref (180)), some (.int (i1)), some (.int (i2))] [] 0 0 := by
  refine kX12_letterNamed_5  ?_
  refine q_gc rfl rfl ?_
  obtain ⟨hv1, h⟩ := h
  refine q_al (k := Int32.toNatClampNeg ((((3 : Int32) * i1) + (1 : Int32)))) rfl (by decide) hv1 rfl ?_
  refine ⟨fun c => ?_, fun c => ?_⟩
  · have h := h.1 c
    exact ⟨_, rfl, h⟩
  · have h := h.2 c
    refine q_gc rfl rfl ?_
    obtain ⟨hv2, h⟩ := h
    refine q_ll (k := Int32.toNatClampNeg (i2)) rfl hv2 rfl ?_
    refine q_gl rfl rfl ?_
    refine ⟨fun c => ?_, fun c => ?_⟩
    · have h := h.1 c
      exact h
    · have h := h.2 c
      exact ⟨_, rfl, h⟩

theorem zX12_needsNumber_0 {d n : Nat} {S : gS} {P : gS → Bool → Prop} {i1 : Int32} {i2 : Int32}  (h : ((sI S (180) 6) = (2 : Int32) → s_cz d mX12_within n S [.int ((sI S (180) 8)), .int (i1), .int (i2)] (fun S1 b2 => (b2 = true → ∀ S3, S3 = uI S1 (180) 36 ((sI S1 (180) 8)) → s_cv d mX12_nextToken n S3 [.ref (180)] (fun S4 => P S4 true)) ∧ (b2 = false → s_cz d mX12_fails n S1 [.ref (180), .int ((4 : Int32))] (fun S5 b6 => P S5 b6)))) ∧ (¬ ((sI S (180) 6) = (2 : Int32)) → s_cz d mX12_fails n S [.ref (180), .int ((1 : Int32))] (fun S7 b8 => P S7 b8))) : gG d mX12_needsNumber 0 0 (g_Xz mX12_needsNumber n 0 0 (hPz P)) 0 n (hH S) [some (.ref (180)), some (.int (i1)), some (.int (i2))] [] 0 0 := by
  refine kX12_needsNumber_0  ?_
  refine q_gi rfl rfl ?_
  refine ⟨fun c => ?_, fun c => ?_⟩
  · have h := h.1 c
    refine q_gi rfl rfl ?_
    obtain ⟨d2, P2, hdd, hC, h⟩ := h
    refine ⟨d2, _, hdd, hC, fun H9 b2 hp => ?_⟩
    obtain ⟨S1, rfl, hp⟩ := hp
    have h := h S1 b2 hp
    refine ⟨fun c => ?_, fun c => ?_⟩
    · have h := h.1 c
      refine q_gi rfl rfl ?_
      refine q_pi rfl rfl ?_
      obtain ⟨S3, eS⟩ : ∃ z, z = uI S1 (180) 36 ((sI S1 (180) 8)) := ⟨_, rfl⟩
      rw [← eS]
      have h := h S3 eS
      refine ⟨q_rc rfl, ?_⟩
      obtain ⟨d2, P2, hdd, hC, h⟩ := h
      refine ⟨d2, _, hdd, hC, fun H9 hp => ?_⟩
      obtain ⟨S4, rfl, hp⟩ := hp
      have h := h S4 hp
      exact ⟨_, rfl, h⟩
    · have h := h.2 c
      refine ⟨q_rc rfl, ?_⟩
      obtain ⟨d2, P2, hdd, hC, h⟩ := h
      refine ⟨d2, _, hdd, hC, fun H9 b6 hp => ?_⟩
      obtain ⟨S5, rfl, hp⟩ := hp
      have h := h S5 b6 hp
      exact ⟨_, rfl, h⟩
  · have h := h.2 c
    refine ⟨q_rc rfl, ?_⟩
    obtain ⟨d2, P2, hdd, hC, h⟩ := h
    refine ⟨d2, _, hdd, hC, fun H9 b8 hp => ?_⟩
    obtain ⟨S7, rfl, hp⟩ := hp
    have h := h S7 b8 hp
    exact ⟨_, rfl, h⟩

theorem zX12_needsBoth_0 {d n : Nat} {S : gS} {P : gS → Bool → Prop} {j1 : Int64} {i3 : Int32} {i4 : Int32}  (h : s_cz d mX12_isWord n S [.ref (180), .long (j1)] (fun S1 b2 => (b2 = true → s_cv d mX12_nextToken n S1 [.ref (180)] (fun S3 => s_cz d mX12_needsNumber n S3 [.ref (180), .int (i3), .int (i4)] (fun S4 b5 => P S4 b5))) ∧ (b2 = false → s_cz d mX12_fails n S1 [.ref (180), .int ((1 : Int32))] (fun S6 b7 => P S6 b7)))) : gG d mX12_needsBoth 0 0 (g_Xz mX12_needsBoth n 0 0 (hPz P)) 0 n (hH S) [some (.ref (180)), some (.long (j1)), none, some (.int (i3)), some (.int (i4))] [] 0 0 := by
  refine kX12_needsBoth_0  ?_
  refine ⟨q_rc rfl, ?_⟩
  obtain ⟨d2, P2, hdd, hC, h⟩ := h
  refine ⟨d2, _, hdd, hC, fun H9 b2 hp => ?_⟩
  obtain ⟨S1, rfl, hp⟩ := hp
  have h := h S1 b2 hp
  refine ⟨fun c => ?_, fun c => ?_⟩
  · have h := h.1 c
    refine ⟨q_rc rfl, ?_⟩
    obtain ⟨d2, P2, hdd, hC, h⟩ := h
    refine ⟨d2, _, hdd, hC, fun H9 hp => ?_⟩
    obtain ⟨S3, rfl, hp⟩ := hp
    have h := h S3 hp
    refine ⟨q_rc rfl, ?_⟩
    obtain ⟨d2, P2, hdd, hC, h⟩ := h
    refine ⟨d2, _, hdd, hC, fun H9 b5 hp => ?_⟩
    obtain ⟨S4, rfl, hp⟩ := hp
    have h := h S4 b5 hp
    exact ⟨_, rfl, h⟩
  · have h := h.2 c
    refine ⟨q_rc rfl, ?_⟩
    obtain ⟨d2, P2, hdd, hC, h⟩ := h
    refine ⟨d2, _, hdd, hC, fun H9 b7 hp => ?_⟩
    obtain ⟨S6, rfl, hp⟩ := hp
    have h := h S6 b7 hp
    exact ⟨_, rfl, h⟩

theorem zX12_closes_0 {d n : Nat} {S : gS} {P : gS → Bool → Prop}   (h : s_cz d mX12_isSign n S [.ref (180), .int ((59 : Int32))] (fun S1 b2 => (b2 = true → s_cv d mX12_nextToken n S1 [.ref (180)] (fun S3 => P S3 true)) ∧ (b2 = false → s_cz d mX12_fails n S1 [.ref (180), .int ((1 : Int32))] (fun S4 b5 => P S4 b5)))) : gG d mX12_closes 0 0 (g_Xz mX12_closes n 0 0 (hPz P)) 0 n (hH S) [some (.ref (180))] [] 0 0 := by
  refine kX12_closes_0  ?_
  refine ⟨q_rc rfl, ?_⟩
  obtain ⟨d2, P2, hdd, hC, h⟩ := h
  refine ⟨d2, _, hdd, hC, fun H9 b2 hp => ?_⟩
  obtain ⟨S1, rfl, hp⟩ := hp
  have h := h S1 b2 hp
  refine ⟨fun c => ?_, fun c => ?_⟩
  · have h := h.1 c
    refine ⟨q_rc rfl, ?_⟩
    obtain ⟨d2, P2, hdd, hC, h⟩ := h
    refine ⟨d2, _, hdd, hC, fun H9 hp => ?_⟩
    obtain ⟨S3, rfl, hp⟩ := hp
    have h := h S3 hp
    exact ⟨_, rfl, h⟩
  · have h := h.2 c
    refine ⟨q_rc rfl, ?_⟩
    obtain ⟨d2, P2, hdd, hC, h⟩ := h
    refine ⟨d2, _, hdd, hC, fun H9 b5 hp => ?_⟩
    obtain ⟨S4, rfl, hp⟩ := hp
    have h := h S4 b5 hp
    exact ⟨_, rfl, h⟩

theorem zX12_needsNew_0 {d n : Nat} {S : gS} {P : gS → Bool → Prop}   (h : s_cz d mX12_isKept n S [.ref (180)] (fun S1 b2 => (b2 = false → s_ci d mX12_mouthNamed n S1 [.ref (180), .int ((1 : Int32))] (fun S3 x4 => (0 ≤ x4 → s_cz d mX12_fails n S3 [.ref (180), .int ((3 : Int32))] (fun S5 b6 => P S5 b6)) ∧ (¬ (0 ≤ x4) → s_ci d mX12_letterNamed n S3 [.ref (180), .int ((1 : Int32))] (fun S7 x8 => (x8 < 0 → ∀ S9, S9 = uJ S7 (180) 37 ((sJ S7 (180) 7)) → s_cv d mX12_nextToken n S9 [.ref (180)] (fun S10 => P S10 true)) ∧ (¬ (x8 < 0) → s_cz d mX12_fails n S7 [.ref (180), .int ((3 : Int32))] (fun S11 b12 => P S11 b12)))))) ∧ (b2 = true → s_cz d mX12_fails n S1 [.ref (180), .int ((1 : Int32))] (fun S13 b14 => P S13 b14)))) : gG d mX12_needsNew 0 0 (g_Xz mX12_needsNew n 0 0 (hPz P)) 0 n (hH S) [some (.ref (180))] [] 0 0 := by
  refine kX12_needsNew_0  ?_
  refine ⟨q_rc rfl, ?_⟩
  obtain ⟨d2, P2, hdd, hC, h⟩ := h
  refine ⟨d2, _, hdd, hC, fun H9 b2 hp => ?_⟩
  obtain ⟨S1, rfl, hp⟩ := hp
  have h := h S1 b2 hp
  refine ⟨fun c => ?_, fun c => ?_⟩
  · have h := h.1 c
    refine ⟨q_rc rfl, ?_⟩
    obtain ⟨d2, P2, hdd, hC, h⟩ := h
    refine ⟨d2, _, hdd, hC, fun H9 x4 hp => ?_⟩
    obtain ⟨S3, rfl, hp⟩ := hp
    have h := h S3 x4 hp
    refine ⟨fun c => ?_, fun c => ?_⟩
    · have h := h.1 c
      refine ⟨q_rc rfl, ?_⟩
      obtain ⟨d2, P2, hdd, hC, h⟩ := h
      refine ⟨d2, _, hdd, hC, fun H9 b6 hp => ?_⟩
      obtain ⟨S5, rfl, hp⟩ := hp
      have h := h S5 b6 hp
      exact ⟨_, rfl, h⟩
    · have h := h.2 c
      refine ⟨q_rc rfl, ?_⟩
      obtain ⟨d2, P2, hdd, hC, h⟩ := h
      refine ⟨d2, _, hdd, hC, fun H9 x8 hp => ?_⟩
      obtain ⟨S7, rfl, hp⟩ := hp
      have h := h S7 x8 hp
      refine ⟨fun c => ?_, fun c => ?_⟩
      · have h := h.1 c
        refine q_gl rfl rfl ?_
        refine q_pl rfl rfl ?_
        obtain ⟨S9, eS⟩ : ∃ z, z = uJ S7 (180) 37 ((sJ S7 (180) 7)) := ⟨_, rfl⟩
        rw [← eS]
        have h := h S9 eS
        refine ⟨q_rc rfl, ?_⟩
        obtain ⟨d2, P2, hdd, hC, h⟩ := h
        refine ⟨d2, _, hdd, hC, fun H9 hp => ?_⟩
        obtain ⟨S10, rfl, hp⟩ := hp
        have h := h S10 hp
        exact ⟨_, rfl, h⟩
      · have h := h.2 c
        refine ⟨q_rc rfl, ?_⟩
        obtain ⟨d2, P2, hdd, hC, h⟩ := h
        refine ⟨d2, _, hdd, hC, fun H9 b12 hp => ?_⟩
        obtain ⟨S11, rfl, hp⟩ := hp
        have h := h S11 b12 hp
        exact ⟨_, rfl, h⟩
  · have h := h.2 c
    refine ⟨q_rc rfl, ?_⟩
    obtain ⟨d2, P2, hdd, hC, h⟩ := h
    refine ⟨d2, _, hdd, hC, fun H9 b14 hp => ?_⟩
    obtain ⟨S13, rfl, hp⟩ := hp
    have h := h S13 b14 hp
    exact ⟨_, rfl, h⟩

theorem zX12_needsMouth_0 {d n : Nat} {S : gS} {P : gS → Bool → Prop} {i1 : Int32}  (h : s_cz d mX12_isKept n S [.ref (180)] (fun S1 b2 => (b2 = false → s_ci d mX12_mouthNamed n S1 [.ref (180), .int (i1)] (fun S3 x4 => ∀ S5, S5 = uI S3 (180) 36 (x4) → (0 ≤ (sI S5 (180) 36) → P S5 true) ∧ (¬ (0 ≤ (sI S5 (180) 36)) → s_cz d mX12_fails n S5 [.ref (180), .int ((2 : Int32))] (fun S6 b7 => (b7 = false → P S6 false) ∧ (b7 = true → P S6 true))))) ∧ (b2 = true → s_cz d mX12_fails n S1 [.ref (180), .int ((1 : Int32))] (fun S8 b9 => P S8 b9)))) : gG d mX12_needsMouth 0 0 (g_Xz mX12_needsMouth n 0 0 (hPz P)) 0 n (hH S) [some (.ref (180)), some (.int (i1))] [] 0 0 := by
  refine kX12_needsMouth_0  ?_
  refine ⟨q_rc rfl, ?_⟩
  obtain ⟨d2, P2, hdd, hC, h⟩ := h
  refine ⟨d2, _, hdd, hC, fun H9 b2 hp => ?_⟩
  obtain ⟨S1, rfl, hp⟩ := hp
  have h := h S1 b2 hp
  refine ⟨fun c => ?_, fun c => ?_⟩
  · have h := h.1 c
    refine ⟨q_rc rfl, ?_⟩
    obtain ⟨d2, P2, hdd, hC, h⟩ := h
    refine ⟨d2, _, hdd, hC, fun H9 x4 hp => ?_⟩
    obtain ⟨S3, rfl, hp⟩ := hp
    have h := h S3 x4 hp
    refine q_pi rfl rfl ?_
    obtain ⟨S5, eS⟩ : ∃ z, z = uI S3 (180) 36 (x4) := ⟨_, rfl⟩
    rw [← eS]
    have h := h S5 eS
    refine q_gi rfl rfl ?_
    refine ⟨fun c => ?_, fun c => ?_⟩
    · have h := h.1 c
      exact ⟨_, rfl, h⟩
    · have h := h.2 c
      refine ⟨q_rc rfl, ?_⟩
      obtain ⟨d2, P2, hdd, hC, h⟩ := h
      refine ⟨d2, _, hdd, hC, fun H9 b7 hp => ?_⟩
      obtain ⟨S6, rfl, hp⟩ := hp
      have h := h S6 b7 hp
      refine ⟨fun c => ?_, fun c => ?_⟩
      · have h := h.1 c
        exact ⟨_, rfl, h⟩
      · have h := h.2 c
        exact ⟨_, rfl, h⟩
  · have h := h.2 c
    refine ⟨q_rc rfl, ?_⟩
    obtain ⟨d2, P2, hdd, hC, h⟩ := h
    refine ⟨d2, _, hdd, hC, fun H9 b9 hp => ?_⟩
    obtain ⟨S8, rfl, hp⟩ := hp
    have h := h S8 b9 hp
    exact ⟨_, rfl, h⟩

theorem zX12_readsMouth_0 {d n : Nat} {S : gS} {P : gS → Bool → Prop}   (h : ((¬ (((7 : Int32) + (sR S (182) (3))) = (14 : Int32)) → s_cv d mX12_nextToken n S [.ref (180)] (fun S1 => s_cz d mX12_needsNew n S1 [.ref (180)] (fun S2 b3 => (b3 = true → s_cz d mX12_isWord n S2 [.ref (180), .long ((8740238 : Int64))] (fun S4 b5 => (b5 = false → s_cz d mX12_isWord n S4 [.ref (180), .long ((459383 : Int64))] (fun S6 b7 => (b7 = false → s_cz d mX12_isWord n S6 [.ref (180), .long ((383153 : Int64))] (fun S8 b9 => (b9 = false → s_cz d mX12_isWord n S8 [.ref (180), .long ((279740 : Int64))] (fun S10 b11 => (b11 = false → vp_in (((7 : Int32) + (sR S (182) (3)))) 14 ∧ (∀ S13, S13 = uR S10 (185) (Int32.toNatClampNeg (((7 : Int32) + (sR S (182) (3))))) ((-1 : Int32)) → gG d mX12_readsMouth 0 0 (g_Xz mX12_readsMouth n 0 0 (hPz P)) 98 n (hH S13) [some (.ref (180)), some (.int (((7 : Int32) + (sR S (182) (3)))))] [] 0 0)) ∧ (b11 = true → vp_in (((7 : Int32) + (sR S (182) (3)))) 14 ∧ (∀ S15, S15 = uR S10 (185) (Int32.toNatClampNeg (((7 : Int32) + (sR S (182) (3))))) ((3 : Int32)) → gG d mX12_readsMouth 0 0 (g_Xz mX12_readsMouth n 0 0 (hPz P)) 98 n (hH S15) [some (.ref (180)), some (.int (((7 : Int32) + (sR S (182) (3)))))] [] 0 0)))) ∧ (b9 = true → vp_in (((7 : Int32) + (sR S (182) (3)))) 14 ∧ (∀ S17, S17 = uR S8 (185) (Int32.toNatClampNeg (((7 : Int32) + (sR S (182) (3))))) ((2 : Int32)) → gG d mX12_readsMouth 0 0 (g_Xz mX12_readsMouth n 0 0 (hPz P)) 98 n (hH S17) [some (.ref (180)), some (.int (((7 : Int32) + (sR S (182) (3)))))] [] 0 0)))) ∧ (b7 = true → vp_in (((7 : Int32) + (sR S (182) (3)))) 14 ∧ (∀ S19, S19 = uR S6 (185) (Int32.toNatClampNeg (((7 : Int32) + (sR S (182) (3))))) ((1 : Int32)) → gG d mX12_readsMouth 0 0 (g_Xz mX12_readsMouth n 0 0 (hPz P)) 98 n (hH S19) [some (.ref (180)), some (.int (((7 : Int32) + (sR S (182) (3)))))] [] 0 0)))) ∧ (b5 = true → vp_in (((7 : Int32) + (sR S (182) (3)))) 14 ∧ (∀ S21, S21 = uR S4 (185) (Int32.toNatClampNeg (((7 : Int32) + (sR S (182) (3))))) ((0 : Int32)) → gG d mX12_readsMouth 0 0 (g_Xz mX12_readsMouth n 0 0 (hPz P)) 98 n (hH S21) [some (.ref (180)), some (.int (((7 : Int32) + (sR S (182) (3)))))] [] 0 0)))) ∧ (b3 = false → P S2 false)))) ∧ (((7 : Int32) + (sR S (182) (3))) = (14 : Int32) → s_cz d mX12_fails n S [.ref (180), .int ((5 : Int32))] (fun S22 b23 => P S22 b23)))) : gG d mX12_readsMouth 0 0 (g_Xz mX12_readsMouth n 0 0 (hPz P)) 0 n (hH S) [some (.ref (180)), none] [] 0 0 := by
  refine kX12_readsMouth_0  ?_
  refine q_gc rfl rfl ?_
  refine q_al (k := 3) rfl (by decide) (vp_l (by decide)) (by decide) ?_
  refine ⟨fun c => ?_, fun c => ?_⟩
  · have h := h.1 c
    refine ⟨q_rc rfl, ?_⟩
    obtain ⟨d2, P2, hdd, hC, h⟩ := h
    refine ⟨d2, _, hdd, hC, fun H9 hp => ?_⟩
    obtain ⟨S1, rfl, hp⟩ := hp
    have h := h S1 hp
    refine ⟨q_rc rfl, ?_⟩
    obtain ⟨d2, P2, hdd, hC, h⟩ := h
    refine ⟨d2, _, hdd, hC, fun H9 b3 hp => ?_⟩
    obtain ⟨S2, rfl, hp⟩ := hp
    have h := h S2 b3 hp
    refine ⟨fun c => ?_, fun c => ?_⟩
    · have h := h.1 c
      refine q_gc rfl rfl ?_
      refine ⟨q_rc rfl, ?_⟩
      obtain ⟨d2, P2, hdd, hC, h⟩ := h
      refine ⟨d2, _, hdd, hC, fun H9 b5 hp => ?_⟩
      obtain ⟨S4, rfl, hp⟩ := hp
      have h := h S4 b5 hp
      refine ⟨fun c => ?_, fun c => ?_⟩
      · have h := h.1 c
        refine ⟨q_rc rfl, ?_⟩
        obtain ⟨d2, P2, hdd, hC, h⟩ := h
        refine ⟨d2, _, hdd, hC, fun H9 b7 hp => ?_⟩
        obtain ⟨S6, rfl, hp⟩ := hp
        have h := h S6 b7 hp
        refine ⟨fun c => ?_, fun c => ?_⟩
        · have h := h.1 c
          refine ⟨q_rc rfl, ?_⟩
          obtain ⟨d2, P2, hdd, hC, h⟩ := h
          refine ⟨d2, _, hdd, hC, fun H9 b9 hp => ?_⟩
          obtain ⟨S8, rfl, hp⟩ := hp
          have h := h S8 b9 hp
          refine ⟨fun c => ?_, fun c => ?_⟩
          · have h := h.1 c
            refine ⟨q_rc rfl, ?_⟩
            obtain ⟨d2, P2, hdd, hC, h⟩ := h
            refine ⟨d2, _, hdd, hC, fun H9 b11 hp => ?_⟩
            obtain ⟨S10, rfl, hp⟩ := hp
            have h := h S10 b11 hp
            refine ⟨fun c => ?_, fun c => ?_⟩
            · have h := h.1 c
              obtain ⟨hv12, h⟩ := h
              refine q_as (k := Int32.toNatClampNeg (((7 : Int32) + (sR S (182) (3))))) rfl (by decide) hv12 rfl ?_
              obtain ⟨S13, eS⟩ : ∃ z, z = uR S10 (185) (Int32.toNatClampNeg (((7 : Int32) + (sR S (182) (3))))) ((-1 : Int32)) := ⟨_, rfl⟩
              rw [← eS]
              have h := h S13 eS
              exact h
            · have h := h.2 c
              obtain ⟨hv14, h⟩ := h
              refine q_as (k := Int32.toNatClampNeg (((7 : Int32) + (sR S (182) (3))))) rfl (by decide) hv14 rfl ?_
              obtain ⟨S15, eS⟩ : ∃ z, z = uR S10 (185) (Int32.toNatClampNeg (((7 : Int32) + (sR S (182) (3))))) ((3 : Int32)) := ⟨_, rfl⟩
              rw [← eS]
              have h := h S15 eS
              exact h
          · have h := h.2 c
            obtain ⟨hv16, h⟩ := h
            refine q_as (k := Int32.toNatClampNeg (((7 : Int32) + (sR S (182) (3))))) rfl (by decide) hv16 rfl ?_
            obtain ⟨S17, eS⟩ : ∃ z, z = uR S8 (185) (Int32.toNatClampNeg (((7 : Int32) + (sR S (182) (3))))) ((2 : Int32)) := ⟨_, rfl⟩
            rw [← eS]
            have h := h S17 eS
            exact h
        · have h := h.2 c
          obtain ⟨hv18, h⟩ := h
          refine q_as (k := Int32.toNatClampNeg (((7 : Int32) + (sR S (182) (3))))) rfl (by decide) hv18 rfl ?_
          obtain ⟨S19, eS⟩ : ∃ z, z = uR S6 (185) (Int32.toNatClampNeg (((7 : Int32) + (sR S (182) (3))))) ((1 : Int32)) := ⟨_, rfl⟩
          rw [← eS]
          have h := h S19 eS
          exact h
      · have h := h.2 c
        obtain ⟨hv20, h⟩ := h
        refine q_as (k := Int32.toNatClampNeg (((7 : Int32) + (sR S (182) (3))))) rfl (by decide) hv20 rfl ?_
        obtain ⟨S21, eS⟩ : ∃ z, z = uR S4 (185) (Int32.toNatClampNeg (((7 : Int32) + (sR S (182) (3))))) ((0 : Int32)) := ⟨_, rfl⟩
        rw [← eS]
        have h := h S21 eS
        exact h
    · have h := h.2 c
      exact ⟨_, rfl, h⟩
  · have h := h.2 c
    refine ⟨q_rc rfl, ?_⟩
    obtain ⟨d2, P2, hdd, hC, h⟩ := h
    refine ⟨d2, _, hdd, hC, fun H9 b23 hp => ?_⟩
    obtain ⟨S22, rfl, hp⟩ := hp
    have h := h S22 b23 hp
    exact ⟨_, rfl, h⟩
theorem zX12_readsMouth_98 {d n : Nat} {S : gS} {P : gS → Bool → Prop} {i1 : Int32}  (h : vp_in (i1) 14 ∧ ((0 ≤ (sR S (185) (Int32.toNatClampNeg (i1))) → s_cv d mX12_nextToken n S [.ref (180)] (fun S2 => s_cz d mX12_needsBoth n S2 [.ref (180), .long ((164222 : Int64)), .int ((1 : Int32)), .int ((20 : Int32))] (fun S3 b4 => (b4 = true → (∀ S5, S5 = uR S3 (186) (Int32.toNatClampNeg (i1)) ((sI S3 (180) 36)) → s_cz d mX12_needsBoth n S5 [.ref (180), .long ((10656676 : Int64)), .int ((0 : Int32)), .int ((9 : Int32))] (fun S6 b7 => (b7 = true → (∀ S8, S8 = uR S6 (187) (Int32.toNatClampNeg (i1)) ((sI S6 (180) 36)) → s_cz d mX12_needsBoth n S8 [.ref (180), .long ((4555648 : Int64)), .int ((0 : Int32)), .int ((40 : Int32))] (fun S9 b10 => (b10 = true → (∀ S11, S11 = uR S9 (188) (Int32.toNatClampNeg (i1)) ((sI S9 (180) 36)) → (∀ S12, S12 = uR S11 (189) (Int32.toNatClampNeg (i1)) ((-1 : Int32)) → (∀ S13, S13 = uL S12 (183) (Int32.toNatClampNeg (i1)) ((sJ S12 (180) 37)) → ((∀ S14, S14 = uR S13 (182) (3) (((sR S13 (182) (3)) + (1 : Int32))) → s_cz d mX12_closes n S14 [.ref (180)] (fun S15 b16 => P S15 b16))))))) ∧ (b10 = false → P S9 false)))) ∧ (b7 = false → P S6 false)))) ∧ (b4 = false → P S3 false)))) ∧ (¬ (0 ≤ (sR S (185) (Int32.toNatClampNeg (i1)))) → s_cz d mX12_fails n S [.ref (180), .int ((1 : Int32))] (fun S17 b18 => P S17 b18)))) : gG d mX12_readsMouth 0 0 (g_Xz mX12_readsMouth n 0 0 (hPz P)) 98 n (hH S) [some (.ref (180)), some (.int (i1))] [] 0 0 := by
  refine kX12_readsMouth_98  ?_
  refine q_gc rfl rfl ?_
  obtain ⟨hv1, h⟩ := h
  refine q_al (k := Int32.toNatClampNeg (i1)) rfl (by decide) hv1 rfl ?_
  refine ⟨fun c => ?_, fun c => ?_⟩
  · have h := h.1 c
    refine ⟨q_rc rfl, ?_⟩
    obtain ⟨d2, P2, hdd, hC, h⟩ := h
    refine ⟨d2, _, hdd, hC, fun H9 hp => ?_⟩
    obtain ⟨S2, rfl, hp⟩ := hp
    have h := h S2 hp
    refine ⟨q_rc rfl, ?_⟩
    obtain ⟨d2, P2, hdd, hC, h⟩ := h
    refine ⟨d2, _, hdd, hC, fun H9 b4 hp => ?_⟩
    obtain ⟨S3, rfl, hp⟩ := hp
    have h := h S3 b4 hp
    refine ⟨fun c => ?_, fun c => ?_⟩
    · have h := h.1 c
      refine q_gc rfl rfl ?_
      refine q_gi rfl rfl ?_
      refine q_as (k := Int32.toNatClampNeg (i1)) rfl (by decide) hv1 rfl ?_
      obtain ⟨S5, eS⟩ : ∃ z, z = uR S3 (186) (Int32.toNatClampNeg (i1)) ((sI S3 (180) 36)) := ⟨_, rfl⟩
      rw [← eS]
      have h := h S5 eS
      refine ⟨q_rc rfl, ?_⟩
      obtain ⟨d2, P2, hdd, hC, h⟩ := h
      refine ⟨d2, _, hdd, hC, fun H9 b7 hp => ?_⟩
      obtain ⟨S6, rfl, hp⟩ := hp
      have h := h S6 b7 hp
      refine ⟨fun c => ?_, fun c => ?_⟩
      · have h := h.1 c
        refine q_gc rfl rfl ?_
        refine q_gi rfl rfl ?_
        refine q_as (k := Int32.toNatClampNeg (i1)) rfl (by decide) hv1 rfl ?_
        obtain ⟨S8, eS⟩ : ∃ z, z = uR S6 (187) (Int32.toNatClampNeg (i1)) ((sI S6 (180) 36)) := ⟨_, rfl⟩
        rw [← eS]
        have h := h S8 eS
        refine ⟨q_rc rfl, ?_⟩
        obtain ⟨d2, P2, hdd, hC, h⟩ := h
        refine ⟨d2, _, hdd, hC, fun H9 b10 hp => ?_⟩
        obtain ⟨S9, rfl, hp⟩ := hp
        have h := h S9 b10 hp
        refine ⟨fun c => ?_, fun c => ?_⟩
        · have h := h.1 c
          refine q_gc rfl rfl ?_
          refine q_gi rfl rfl ?_
          refine q_as (k := Int32.toNatClampNeg (i1)) rfl (by decide) hv1 rfl ?_
          obtain ⟨S11, eS⟩ : ∃ z, z = uR S9 (188) (Int32.toNatClampNeg (i1)) ((sI S9 (180) 36)) := ⟨_, rfl⟩
          rw [← eS]
          have h := h S11 eS
          refine q_gc rfl rfl ?_
          refine q_as (k := Int32.toNatClampNeg (i1)) rfl (by decide) hv1 rfl ?_
          obtain ⟨S12, eS⟩ : ∃ z, z = uR S11 (189) (Int32.toNatClampNeg (i1)) ((-1 : Int32)) := ⟨_, rfl⟩
          rw [← eS]
          have h := h S12 eS
          refine q_gc rfl rfl ?_
          refine q_gl rfl rfl ?_
          refine q_lst (k := Int32.toNatClampNeg (i1)) rfl hv1 rfl ?_
          obtain ⟨S13, eS⟩ : ∃ z, z = uL S12 (183) (Int32.toNatClampNeg (i1)) ((sJ S12 (180) 37)) := ⟨_, rfl⟩
          rw [← eS]
          have h := h S13 eS
          refine q_gc rfl rfl ?_
          refine q_al (k := 3) rfl (by decide) (vp_l (by decide)) (by decide) ?_
          refine q_as (k := 3) rfl (by decide) (vp_l (by decide)) (by decide) ?_
          obtain ⟨S14, eS⟩ : ∃ z, z = uR S13 (182) (3) (((sR S13 (182) (3)) + (1 : Int32))) := ⟨_, rfl⟩
          rw [← eS]
          have h := h S14 eS
          refine ⟨q_rc rfl, ?_⟩
          obtain ⟨d2, P2, hdd, hC, h⟩ := h
          refine ⟨d2, _, hdd, hC, fun H9 b16 hp => ?_⟩
          obtain ⟨S15, rfl, hp⟩ := hp
          have h := h S15 b16 hp
          exact ⟨_, rfl, h⟩
        · have h := h.2 c
          exact ⟨_, rfl, h⟩
      · have h := h.2 c
        exact ⟨_, rfl, h⟩
    · have h := h.2 c
      exact ⟨_, rfl, h⟩
  · have h := h.2 c
    refine ⟨q_rc rfl, ?_⟩
    obtain ⟨d2, P2, hdd, hC, h⟩ := h
    refine ⟨d2, _, hdd, hC, fun H9 b18 hp => ?_⟩
    obtain ⟨S17, rfl, hp⟩ := hp
    have h := h S17 b18 hp
    exact ⟨_, rfl, h⟩

theorem zX12_readsGutter_0 {d n : Nat} {S : gS} {P : gS → Bool → Prop}   (h : s_cv d mX12_nextToken n S [.ref (180)] (fun S1 => s_cz d mX12_needsMouth n S1 [.ref (180), .int ((1 : Int32))] (fun S2 b3 => (b3 = true → vp_in (((7 : Int32) + (sI S2 (180) 36))) 14 ∧ (((sR S2 (189) (Int32.toNatClampNeg (((7 : Int32) + (sI S2 (180) 36))))) < 0 → s_cv d mX12_nextToken n S2 [.ref (180)] (fun S5 => s_cz d mX12_needsMouth n S5 [.ref (180), .int ((1 : Int32))] (fun S6 b7 => (b7 = true → vp_in (((7 : Int32) + (sI S6 (180) 36))) 14 ∧ ((((sR S6 (186) (Int32.toNatClampNeg (((7 : Int32) + (sI S6 (180) 36))))) < (sR S6 (186) (Int32.toNatClampNeg (((7 : Int32) + (sI S2 (180) 36))))) → (∀ S9, S9 = uR S6 (189) (Int32.toNatClampNeg (((7 : Int32) + (sI S2 (180) 36)))) ((sI S6 (180) 36)) → s_cv d mX12_nextToken n S9 [.ref (180)] (fun S10 => s_cz d mX12_closes n S10 [.ref (180)] (fun S11 b12 => P S11 b12)))) ∧ (¬ ((sR S6 (186) (Int32.toNatClampNeg (((7 : Int32) + (sI S6 (180) 36))))) < (sR S6 (186) (Int32.toNatClampNeg (((7 : Int32) + (sI S2 (180) 36)))))) → s_cz d mX12_fails n S6 [.ref (180), .int ((3 : Int32))] (fun S13 b14 => P S13 b14))))) ∧ (b7 = false → P S6 false)))) ∧ (¬ ((sR S2 (189) (Int32.toNatClampNeg (((7 : Int32) + (sI S2 (180) 36))))) < 0) → s_cz d mX12_fails n S2 [.ref (180), .int ((3 : Int32))] (fun S15 b16 => P S15 b16)))) ∧ (b3 = false → P S2 false)))) : gG d mX12_readsGutter 0 0 (g_Xz mX12_readsGutter n 0 0 (hPz P)) 0 n (hH S) [some (.ref (180)), none] [] 0 0 := by
  refine kX12_readsGutter_0  ?_
  refine ⟨q_rc rfl, ?_⟩
  obtain ⟨d2, P2, hdd, hC, h⟩ := h
  refine ⟨d2, _, hdd, hC, fun H9 hp => ?_⟩
  obtain ⟨S1, rfl, hp⟩ := hp
  have h := h S1 hp
  refine ⟨q_rc rfl, ?_⟩
  obtain ⟨d2, P2, hdd, hC, h⟩ := h
  refine ⟨d2, _, hdd, hC, fun H9 b3 hp => ?_⟩
  obtain ⟨S2, rfl, hp⟩ := hp
  have h := h S2 b3 hp
  refine ⟨fun c => ?_, fun c => ?_⟩
  · have h := h.1 c
    refine q_gi rfl rfl ?_
    refine q_gc rfl rfl ?_
    obtain ⟨hv4, h⟩ := h
    refine q_al (k := Int32.toNatClampNeg (((7 : Int32) + (sI S2 (180) 36)))) rfl (by decide) hv4 rfl ?_
    refine ⟨fun c => ?_, fun c => ?_⟩
    · have h := h.1 c
      refine ⟨q_rc rfl, ?_⟩
      obtain ⟨d2, P2, hdd, hC, h⟩ := h
      refine ⟨d2, _, hdd, hC, fun H9 hp => ?_⟩
      obtain ⟨S5, rfl, hp⟩ := hp
      have h := h S5 hp
      refine ⟨q_rc rfl, ?_⟩
      obtain ⟨d2, P2, hdd, hC, h⟩ := h
      refine ⟨d2, _, hdd, hC, fun H9 b7 hp => ?_⟩
      obtain ⟨S6, rfl, hp⟩ := hp
      have h := h S6 b7 hp
      refine ⟨fun c => ?_, fun c => ?_⟩
      · have h := h.1 c
        refine q_gc rfl rfl ?_
        refine q_gi rfl rfl ?_
        obtain ⟨hv8, h⟩ := h
        refine q_al (k := Int32.toNatClampNeg (((7 : Int32) + (sI S6 (180) 36)))) rfl (by decide) hv8 rfl ?_
        refine q_gc rfl rfl ?_
        refine q_al (k := Int32.toNatClampNeg (((7 : Int32) + (sI S2 (180) 36)))) rfl (by decide) hv4 rfl ?_
        refine ⟨fun c => ?_, fun c => ?_⟩
        · have h := h.1 c
          refine q_gc rfl rfl ?_
          refine q_gi rfl rfl ?_
          refine q_as (k := Int32.toNatClampNeg (((7 : Int32) + (sI S2 (180) 36)))) rfl (by decide) hv4 rfl ?_
          obtain ⟨S9, eS⟩ : ∃ z, z = uR S6 (189) (Int32.toNatClampNeg (((7 : Int32) + (sI S2 (180) 36)))) ((sI S6 (180) 36)) := ⟨_, rfl⟩
          rw [← eS]
          have h := h S9 eS
          refine ⟨q_rc rfl, ?_⟩
          obtain ⟨d2, P2, hdd, hC, h⟩ := h
          refine ⟨d2, _, hdd, hC, fun H9 hp => ?_⟩
          obtain ⟨S10, rfl, hp⟩ := hp
          have h := h S10 hp
          refine ⟨q_rc rfl, ?_⟩
          obtain ⟨d2, P2, hdd, hC, h⟩ := h
          refine ⟨d2, _, hdd, hC, fun H9 b12 hp => ?_⟩
          obtain ⟨S11, rfl, hp⟩ := hp
          have h := h S11 b12 hp
          exact ⟨_, rfl, h⟩
        · have h := h.2 c
          refine ⟨q_rc rfl, ?_⟩
          obtain ⟨d2, P2, hdd, hC, h⟩ := h
          refine ⟨d2, _, hdd, hC, fun H9 b14 hp => ?_⟩
          obtain ⟨S13, rfl, hp⟩ := hp
          have h := h S13 b14 hp
          exact ⟨_, rfl, h⟩
      · have h := h.2 c
        exact ⟨_, rfl, h⟩
    · have h := h.2 c
      refine ⟨q_rc rfl, ?_⟩
      obtain ⟨d2, P2, hdd, hC, h⟩ := h
      refine ⟨d2, _, hdd, hC, fun H9 b16 hp => ?_⟩
      obtain ⟨S15, rfl, hp⟩ := hp
      have h := h S15 b16 hp
      exact ⟨_, rfl, h⟩
  · have h := h.2 c
    exact ⟨_, rfl, h⟩

theorem zX12_readsLetter_0 {d n : Nat} {S : gS} {P : gS → Bool → Prop}   (h : ((¬ (((6 : Int32) + (sR S (182) (4))) = (12 : Int32)) → s_cv d mX12_nextToken n S [.ref (180)] (fun S1 => s_cz d mX12_needsNew n S1 [.ref (180)] (fun S2 b3 => (b3 = true → s_cz d mX12_isWord n S2 [.ref (180), .long ((411 : Int64))] (fun S4 b5 => (b5 = true → s_cv d mX12_nextToken n S4 [.ref (180)] (fun S6 => gG d mX12_readsLetter 0 0 (g_Xz mX12_readsLetter n 0 0 (hPz P)) 57 n (hH S6) [some (.ref (180)), some (.int (((6 : Int32) + (sR S (182) (4))))), some (.int ((0 : Int32))), none] [] 0 0)) ∧ (b5 = false → s_cz d mX12_fails n S4 [.ref (180), .int ((1 : Int32))] (fun S7 b8 => P S7 b8)))) ∧ (b3 = false → P S2 false)))) ∧ (((6 : Int32) + (sR S (182) (4))) = (12 : Int32) → s_cz d mX12_fails n S [.ref (180), .int ((5 : Int32))] (fun S9 b10 => P S9 b10)))) : gG d mX12_readsLetter 0 0 (g_Xz mX12_readsLetter n 0 0 (hPz P)) 0 n (hH S) [some (.ref (180)), none, none, none] [] 0 0 := by
  refine kX12_readsLetter_0  ?_
  refine q_gc rfl rfl ?_
  refine q_al (k := 4) rfl (by decide) (vp_l (by decide)) (by decide) ?_
  refine ⟨fun c => ?_, fun c => ?_⟩
  · have h := h.1 c
    refine ⟨q_rc rfl, ?_⟩
    obtain ⟨d2, P2, hdd, hC, h⟩ := h
    refine ⟨d2, _, hdd, hC, fun H9 hp => ?_⟩
    obtain ⟨S1, rfl, hp⟩ := hp
    have h := h S1 hp
    refine ⟨q_rc rfl, ?_⟩
    obtain ⟨d2, P2, hdd, hC, h⟩ := h
    refine ⟨d2, _, hdd, hC, fun H9 b3 hp => ?_⟩
    obtain ⟨S2, rfl, hp⟩ := hp
    have h := h S2 b3 hp
    refine ⟨fun c => ?_, fun c => ?_⟩
    · have h := h.1 c
      refine ⟨q_rc rfl, ?_⟩
      obtain ⟨d2, P2, hdd, hC, h⟩ := h
      refine ⟨d2, _, hdd, hC, fun H9 b5 hp => ?_⟩
      obtain ⟨S4, rfl, hp⟩ := hp
      have h := h S4 b5 hp
      refine ⟨fun c => ?_, fun c => ?_⟩
      · have h := h.1 c
        refine ⟨q_rc rfl, ?_⟩
        obtain ⟨d2, P2, hdd, hC, h⟩ := h
        refine ⟨d2, _, hdd, hC, fun H9 hp => ?_⟩
        obtain ⟨S6, rfl, hp⟩ := hp
        have h := h S6 hp
        exact h
      · have h := h.2 c
        refine ⟨q_rc rfl, ?_⟩
        obtain ⟨d2, P2, hdd, hC, h⟩ := h
        refine ⟨d2, _, hdd, hC, fun H9 b8 hp => ?_⟩
        obtain ⟨S7, rfl, hp⟩ := hp
        have h := h S7 b8 hp
        exact ⟨_, rfl, h⟩
    · have h := h.2 c
      exact ⟨_, rfl, h⟩
  · have h := h.2 c
    refine ⟨q_rc rfl, ?_⟩
    obtain ⟨d2, P2, hdd, hC, h⟩ := h
    refine ⟨d2, _, hdd, hC, fun H9 b10 hp => ?_⟩
    obtain ⟨S9, rfl, hp⟩ := hp
    have h := h S9 b10 hp
    exact ⟨_, rfl, h⟩
theorem zX12_readsLetter_57 {d n : Nat} {S : gS} {P : gS → Bool → Prop} {i1 : Int32} {i2 : Int32}  (h : (i2 = 0 → gG d mX12_readsLetter 0 0 (g_Xz mX12_readsLetter n 0 0 (hPz P)) 70 n (hH S) [some (.ref (180)), some (.int (i1)), some (.int (i2)), none] [] 0 0) ∧ (¬ (i2 = 0) → s_cz d mX12_isSign n S [.ref (180), .int ((59 : Int32))] (fun S1 b2 => (b2 = true → gG d mX12_readsLetter 0 0 (g_Xz mX12_readsLetter n 0 0 (hPz P)) 117 n (hH S1) [some (.ref (180)), some (.int (i1)), some (.int (i2)), some (.int ((6 : Int32)))] [] 0 0) ∧ (b2 = false → gG d mX12_readsLetter 0 0 (g_Xz mX12_readsLetter n 0 0 (hPz P)) 70 n (hH S1) [some (.ref (180)), some (.int (i1)), some (.int (i2)), none] [] 0 0)))) : gG d mX12_readsLetter 0 0 (g_Xz mX12_readsLetter n 0 0 (hPz P)) 57 n (hH S) [some (.ref (180)), some (.int (i1)), some (.int (i2)), none] [] 0 0 := by
  refine kX12_readsLetter_57  ?_
  refine ⟨fun c => ?_, fun c => ?_⟩
  · have h := h.1 c
    exact h
  · have h := h.2 c
    refine ⟨q_rc rfl, ?_⟩
    obtain ⟨d2, P2, hdd, hC, h⟩ := h
    refine ⟨d2, _, hdd, hC, fun H9 b2 hp => ?_⟩
    obtain ⟨S1, rfl, hp⟩ := hp
    have h := h S1 b2 hp
    refine ⟨fun c => ?_, fun c => ?_⟩
    · have h := h.1 c
      exact h
    · have h := h.2 c
      exact h
theorem zX12_readsLetter_70 {d n : Nat} {S : gS} {P : gS → Bool → Prop} {i1 : Int32} {i2 : Int32}  (h : s_cz d mX12_needsMouth n S [.ref (180), .int ((1 : Int32))] (fun S1 b2 => (b2 = true → (¬ (((i2 >>> ((sI S1 (180) 36) &&& 31)) &&& (1 : Int32)) = (1 : Int32)) → s_cv d mX12_nextToken n S1 [.ref (180)] (fun S3 => gG d mX12_readsLetter 0 0 (g_Xz mX12_readsLetter n 0 0 (hPz P)) 57 n (hH S3) [some (.ref (180)), some (.int (i1)), some (.int ((i2 ||| ((1 : Int32) <<< ((sI S1 (180) 36) &&& 31))))), none] [] 0 0)) ∧ (((i2 >>> ((sI S1 (180) 36) &&& 31)) &&& (1 : Int32)) = (1 : Int32) → s_cz d mX12_fails n S1 [.ref (180), .int ((3 : Int32))] (fun S4 b5 => P S4 b5))) ∧ (b2 = false → P S1 false))) : gG d mX12_readsLetter 0 0 (g_Xz mX12_readsLetter n 0 0 (hPz P)) 70 n (hH S) [some (.ref (180)), some (.int (i1)), some (.int (i2)), none] [] 0 0 := by
  refine kX12_readsLetter_70  ?_
  refine ⟨q_rc rfl, ?_⟩
  obtain ⟨d2, P2, hdd, hC, h⟩ := h
  refine ⟨d2, _, hdd, hC, fun H9 b2 hp => ?_⟩
  obtain ⟨S1, rfl, hp⟩ := hp
  have h := h S1 b2 hp
  refine ⟨fun c => ?_, fun c => ?_⟩
  · have h := h.1 c
    refine q_gi rfl rfl ?_
    refine ⟨fun c => ?_, fun c => ?_⟩
    · have h := h.1 c
      refine q_gi rfl rfl ?_
      refine ⟨q_rc rfl, ?_⟩
      obtain ⟨d2, P2, hdd, hC, h⟩ := h
      refine ⟨d2, _, hdd, hC, fun H9 hp => ?_⟩
      obtain ⟨S3, rfl, hp⟩ := hp
      have h := h S3 hp
      exact h
    · have h := h.2 c
      refine ⟨q_rc rfl, ?_⟩
      obtain ⟨d2, P2, hdd, hC, h⟩ := h
      refine ⟨d2, _, hdd, hC, fun H9 b5 hp => ?_⟩
      obtain ⟨S4, rfl, hp⟩ := hp
      have h := h S4 b5 hp
      exact ⟨_, rfl, h⟩
  · have h := h.2 c
    exact ⟨_, rfl, h⟩
theorem zX12_readsLetter_117 {d n : Nat} {S : gS} {P : gS → Bool → Prop} {i1 : Int32} {i2 : Int32} {i3 : Int32}  (h : (i1 ≤ i3 → vp_in (i1) 12 ∧ (∀ S2, S2 = uR S (190) (Int32.toNatClampNeg (i1)) (i2) → (∀ S3, S3 = uL S2 (184) (Int32.toNatClampNeg (i1)) ((sJ S2 (180) 37)) → ((∀ S4, S4 = uR S3 (182) (4) (((sR S3 (182) (4)) + (1 : Int32))) → s_cz d mX12_closes n S4 [.ref (180)] (fun S5 b6 => P S5 b6)))))) ∧ (¬ (i1 ≤ i3) → vp_in (i3) 12 ∧ ((¬ ((sR S (190) (Int32.toNatClampNeg (i3))) = i2) → gG d mX12_readsLetter 0 0 (g_Xz mX12_readsLetter n 0 0 (hPz P)) 117 n (hH S) [some (.ref (180)), some (.int (i1)), some (.int (i2)), some (.int ((i3 + 1)))] [] 0 0) ∧ ((sR S (190) (Int32.toNatClampNeg (i3))) = i2 → s_cz d mX12_fails n S [.ref (180), .int ((3 : Int32))] (fun S8 b9 => P S8 b9))))) : gG d mX12_readsLetter 0 0 (g_Xz mX12_readsLetter n 0 0 (hPz P)) 117 n (hH S) [some (.ref (180)), some (.int (i1)), some (.int (i2)), some (.int (i3))] [] 0 0 := by
  refine kX12_readsLetter_117  ?_
  refine ⟨fun c => ?_, fun c => ?_⟩
  · have h := h.1 c
    refine q_gc rfl rfl ?_
    obtain ⟨hv1, h⟩ := h
    refine q_as (k := Int32.toNatClampNeg (i1)) rfl (by decide) hv1 rfl ?_
    obtain ⟨S2, eS⟩ : ∃ z, z = uR S (190) (Int32.toNatClampNeg (i1)) (i2) := ⟨_, rfl⟩
    rw [← eS]
    have h := h S2 eS
    refine q_gc rfl rfl ?_
    refine q_gl rfl rfl ?_
    refine q_lst (k := Int32.toNatClampNeg (i1)) rfl hv1 rfl ?_
    obtain ⟨S3, eS⟩ : ∃ z, z = uL S2 (184) (Int32.toNatClampNeg (i1)) ((sJ S2 (180) 37)) := ⟨_, rfl⟩
    rw [← eS]
    have h := h S3 eS
    refine q_gc rfl rfl ?_
    refine q_al (k := 4) rfl (by decide) (vp_l (by decide)) (by decide) ?_
    refine q_as (k := 4) rfl (by decide) (vp_l (by decide)) (by decide) ?_
    obtain ⟨S4, eS⟩ : ∃ z, z = uR S3 (182) (4) (((sR S3 (182) (4)) + (1 : Int32))) := ⟨_, rfl⟩
    rw [← eS]
    have h := h S4 eS
    refine ⟨q_rc rfl, ?_⟩
    obtain ⟨d2, P2, hdd, hC, h⟩ := h
    refine ⟨d2, _, hdd, hC, fun H9 b6 hp => ?_⟩
    obtain ⟨S5, rfl, hp⟩ := hp
    have h := h S5 b6 hp
    exact ⟨_, rfl, h⟩
  · have h := h.2 c
    refine q_gc rfl rfl ?_
    obtain ⟨hv7, h⟩ := h
    refine q_al (k := Int32.toNatClampNeg (i3)) rfl (by decide) hv7 rfl ?_
    refine ⟨fun c => ?_, fun c => ?_⟩
    · have h := h.1 c
      exact h
    · have h := h.2 c
      refine ⟨q_rc rfl, ?_⟩
      obtain ⟨d2, P2, hdd, hC, h⟩ := h
      refine ⟨d2, _, hdd, hC, fun H9 b9 hp => ?_⟩
      obtain ⟨S8, rfl, hp⟩ := hp
      have h := h S8 b9 hp
      exact ⟨_, rfl, h⟩

theorem zX12_readsRain_0 {d n : Nat} {S : gS} {P : gS → Bool → Prop}   (h : (((sR S (182) (5)) ≤ 0 → s_cv d mX12_nextToken n S [.ref (180)] (fun S1 => gG d mX12_readsRain 0 0 (g_Xz mX12_readsRain n 0 0 (hPz P)) 19 n (hH S1) [some (.ref (180))] [] 0 0)) ∧ (¬ ((sR S (182) (5)) ≤ 0) → s_cz d mX12_fails n S [.ref (180), .int ((3 : Int32))] (fun S2 b3 => P S2 b3)))) : gG d mX12_readsRain 0 0 (g_Xz mX12_readsRain n 0 0 (hPz P)) 0 n (hH S) [some (.ref (180))] [] 0 0 := by
  refine kX12_readsRain_0  ?_
  refine q_gc rfl rfl ?_
  refine q_al (k := 5) rfl (by decide) (vp_l (by decide)) (by decide) ?_
  refine ⟨fun c => ?_, fun c => ?_⟩
  · have h := h.1 c
    refine ⟨q_rc rfl, ?_⟩
    obtain ⟨d2, P2, hdd, hC, h⟩ := h
    refine ⟨d2, _, hdd, hC, fun H9 hp => ?_⟩
    obtain ⟨S1, rfl, hp⟩ := hp
    have h := h S1 hp
    exact h
  · have h := h.2 c
    refine ⟨q_rc rfl, ?_⟩
    obtain ⟨d2, P2, hdd, hC, h⟩ := h
    refine ⟨d2, _, hdd, hC, fun H9 b3 hp => ?_⟩
    obtain ⟨S2, rfl, hp⟩ := hp
    have h := h S2 b3 hp
    exact ⟨_, rfl, h⟩
theorem zX12_readsRain_19 {d n : Nat} {S : gS} {P : gS → Bool → Prop}   (h : (((sR S (182) (5)) = 0 → gG d mX12_readsRain 0 0 (g_Xz mX12_readsRain n 0 0 (hPz P)) 36 n (hH S) [some (.ref (180))] [] 0 0) ∧ (¬ ((sR S (182) (5)) = 0) → (¬ ((sI S (180) 6) = (2 : Int32)) → s_cz d mX12_closes n S [.ref (180)] (fun S1 b2 => P S1 b2)) ∧ ((sI S (180) 6) = (2 : Int32) → gG d mX12_readsRain 0 0 (g_Xz mX12_readsRain n 0 0 (hPz P)) 36 n (hH S) [some (.ref (180))] [] 0 0)))) : gG d mX12_readsRain 0 0 (g_Xz mX12_readsRain n 0 0 (hPz P)) 19 n (hH S) [some (.ref (180))] [] 0 0 := by
  refine kX12_readsRain_19  ?_
  refine q_gc rfl rfl ?_
  refine q_al (k := 5) rfl (by decide) (vp_l (by decide)) (by decide) ?_
  refine ⟨fun c => ?_, fun c => ?_⟩
  · have h := h.1 c
    exact h
  · have h := h.2 c
    refine q_gi rfl rfl ?_
    refine ⟨fun c => ?_, fun c => ?_⟩
    · have h := h.1 c
      refine ⟨q_rc rfl, ?_⟩
      obtain ⟨d2, P2, hdd, hC, h⟩ := h
      refine ⟨d2, _, hdd, hC, fun H9 b2 hp => ?_⟩
      obtain ⟨S1, rfl, hp⟩ := hp
      have h := h S1 b2 hp
      exact ⟨_, rfl, h⟩
    · have h := h.2 c
      exact h
theorem zX12_readsRain_36 {d n : Nat} {S : gS} {P : gS → Bool → Prop}   (h : ((sI S (180) 6) = (2 : Int32) → ((sI S (180) 8) ≤ (9 : Int32) → ((¬ ((sR S (182) (5)) = (12 : Int32)) → (vp_in (((12 : Int32) + (sR S (182) (5)))) 24 ∧ (∀ S2, S2 = uR S (191) (Int32.toNatClampNeg (((12 : Int32) + (sR S (182) (5))))) ((sI S (180) 8)) → ((∀ S3, S3 = uR S2 (182) (5) (((sR S2 (182) (5)) + (1 : Int32))) → s_cv d mX12_nextToken n S3 [.ref (180)] (fun S4 => gG d mX12_readsRain 0 0 (g_Xz mX12_readsRain n 0 0 (hPz P)) 19 n (hH S4) [some (.ref (180))] [] 0 0)))))) ∧ ((sR S (182) (5)) = (12 : Int32) → s_cz d mX12_fails n S [.ref (180), .int ((5 : Int32))] (fun S5 b6 => P S5 b6)))) ∧ (¬ ((sI S (180) 8) ≤ (9 : Int32)) → s_cz d mX12_fails n S [.ref (180), .int ((4 : Int32))] (fun S7 b8 => P S7 b8))) ∧ (¬ ((sI S (180) 6) = (2 : Int32)) → s_cz d mX12_fails n S [.ref (180), .int ((1 : Int32))] (fun S9 b10 => P S9 b10))) : gG d mX12_readsRain 0 0 (g_Xz mX12_readsRain n 0 0 (hPz P)) 36 n (hH S) [some (.ref (180))] [] 0 0 := by
  refine kX12_readsRain_36  ?_
  refine q_gi rfl rfl ?_
  refine ⟨fun c => ?_, fun c => ?_⟩
  · have h := h.1 c
    refine q_gi rfl rfl ?_
    refine ⟨fun c => ?_, fun c => ?_⟩
    · have h := h.1 c
      refine q_gc rfl rfl ?_
      refine q_al (k := 5) rfl (by decide) (vp_l (by decide)) (by decide) ?_
      refine ⟨fun c => ?_, fun c => ?_⟩
      · have h := h.1 c
        refine q_gc rfl rfl ?_
        refine q_gc rfl rfl ?_
        refine q_al (k := 5) rfl (by decide) (vp_l (by decide)) (by decide) ?_
        refine q_gi rfl rfl ?_
        obtain ⟨hv1, h⟩ := h
        refine q_as (k := Int32.toNatClampNeg (((12 : Int32) + (sR S (182) (5))))) rfl (by decide) hv1 rfl ?_
        obtain ⟨S2, eS⟩ : ∃ z, z = uR S (191) (Int32.toNatClampNeg (((12 : Int32) + (sR S (182) (5))))) ((sI S (180) 8)) := ⟨_, rfl⟩
        rw [← eS]
        have h := h S2 eS
        refine q_gc rfl rfl ?_
        refine q_al (k := 5) rfl (by decide) (vp_l (by decide)) (by decide) ?_
        refine q_as (k := 5) rfl (by decide) (vp_l (by decide)) (by decide) ?_
        obtain ⟨S3, eS⟩ : ∃ z, z = uR S2 (182) (5) (((sR S2 (182) (5)) + (1 : Int32))) := ⟨_, rfl⟩
        rw [← eS]
        have h := h S3 eS
        refine ⟨q_rc rfl, ?_⟩
        obtain ⟨d2, P2, hdd, hC, h⟩ := h
        refine ⟨d2, _, hdd, hC, fun H9 hp => ?_⟩
        obtain ⟨S4, rfl, hp⟩ := hp
        have h := h S4 hp
        exact h
      · have h := h.2 c
        refine ⟨q_rc rfl, ?_⟩
        obtain ⟨d2, P2, hdd, hC, h⟩ := h
        refine ⟨d2, _, hdd, hC, fun H9 b6 hp => ?_⟩
        obtain ⟨S5, rfl, hp⟩ := hp
        have h := h S5 b6 hp
        exact ⟨_, rfl, h⟩
    · have h := h.2 c
      refine ⟨q_rc rfl, ?_⟩
      obtain ⟨d2, P2, hdd, hC, h⟩ := h
      refine ⟨d2, _, hdd, hC, fun H9 b8 hp => ?_⟩
      obtain ⟨S7, rfl, hp⟩ := hp
      have h := h S7 b8 hp
      exact ⟨_, rfl, h⟩
  · have h := h.2 c
    refine ⟨q_rc rfl, ?_⟩
    obtain ⟨d2, P2, hdd, hC, h⟩ := h
    refine ⟨d2, _, hdd, hC, fun H9 b10 hp => ?_⟩
    obtain ⟨S9, rfl, hp⟩ := hp
    have h := h S9 b10 hp
    exact ⟨_, rfl, h⟩

theorem zX12_readsSounds_0 {d n : Nat} {S : gS} {P : gS → Bool → Prop}   (h : ((((sR S (193) (1)) ≤ (sR S (192) (1)) → s_cv d mX12_nextToken n S [.ref (180)] (fun S1 => (∀ S2, S2 = uR S1 (192) (1) ((sI S1 (180) 23)) → s_cz d mX12_readsLaw n S2 [.ref (180)] (fun S3 b4 => (b4 = true → (∀ S5, S5 = uR S3 (193) (1) ((sI S3 (180) 23)) → P S5 true)) ∧ (b4 = false → P S3 false))))) ∧ (¬ ((sR S (193) (1)) ≤ (sR S (192) (1))) → s_cz d mX12_fails n S [.ref (180), .int ((3 : Int32))] (fun S6 b7 => P S6 b7))))) : gG d mX12_readsSounds 0 0 (g_Xz mX12_readsSounds n 0 0 (hPz P)) 0 n (hH S) [some (.ref (180))] [] 0 0 := by
  refine kX12_readsSounds_0  ?_
  refine q_gc rfl rfl ?_
  refine q_al (k := 1) rfl (by decide) (vp_l (by decide)) (by decide) ?_
  refine q_gc rfl rfl ?_
  refine q_al (k := 1) rfl (by decide) (vp_l (by decide)) (by decide) ?_
  refine ⟨fun c => ?_, fun c => ?_⟩
  · have h := h.1 c
    refine ⟨q_rc rfl, ?_⟩
    obtain ⟨d2, P2, hdd, hC, h⟩ := h
    refine ⟨d2, _, hdd, hC, fun H9 hp => ?_⟩
    obtain ⟨S1, rfl, hp⟩ := hp
    have h := h S1 hp
    refine q_gc rfl rfl ?_
    refine q_gi rfl rfl ?_
    refine q_as (k := 1) rfl (by decide) (vp_l (by decide)) (by decide) ?_
    obtain ⟨S2, eS⟩ : ∃ z, z = uR S1 (192) (1) ((sI S1 (180) 23)) := ⟨_, rfl⟩
    rw [← eS]
    have h := h S2 eS
    refine ⟨q_rc rfl, ?_⟩
    obtain ⟨d2, P2, hdd, hC, h⟩ := h
    refine ⟨d2, _, hdd, hC, fun H9 b4 hp => ?_⟩
    obtain ⟨S3, rfl, hp⟩ := hp
    have h := h S3 b4 hp
    refine ⟨fun c => ?_, fun c => ?_⟩
    · have h := h.1 c
      refine q_gc rfl rfl ?_
      refine q_gi rfl rfl ?_
      refine q_as (k := 1) rfl (by decide) (vp_l (by decide)) (by decide) ?_
      obtain ⟨S5, eS⟩ : ∃ z, z = uR S3 (193) (1) ((sI S3 (180) 23)) := ⟨_, rfl⟩
      rw [← eS]
      have h := h S5 eS
      exact ⟨_, rfl, h⟩
    · have h := h.2 c
      exact ⟨_, rfl, h⟩
  · have h := h.2 c
    refine ⟨q_rc rfl, ?_⟩
    obtain ⟨d2, P2, hdd, hC, h⟩ := h
    refine ⟨d2, _, hdd, hC, fun H9 b7 hp => ?_⟩
    obtain ⟨S6, rfl, hp⟩ := hp
    have h := h S6 b7 hp
    exact ⟨_, rfl, h⟩

theorem zX12_begins_0 {d n : Nat} {S : gS} {P : gS → Prop}   (h : ∀ S1, S1 = uI S (180) 3 ((sI S (180) 1)) → ∀ S2, S2 = uI S1 (180) 1 ((0 : Int32)) → ∀ S3, S3 = uI S2 (180) 4 ((0 : Int32)) → s_cv d mX12_nextToken n S3 [.ref (180)] (fun S4 => P S4)) : gG d mX12_begins 0 0 (g_Xv mX12_begins n 0 0 (hPv P)) 0 n (hH S) [some (.ref (180))] [] 0 0 := by
  refine kX12_begins_0  ?_
  refine q_gi rfl rfl ?_
  refine q_pi rfl rfl ?_
  obtain ⟨S1, eS⟩ : ∃ z, z = uI S (180) 3 ((sI S (180) 1)) := ⟨_, rfl⟩
  rw [← eS]
  have h := h S1 eS
  refine q_pi rfl rfl ?_
  obtain ⟨S2, eS⟩ : ∃ z, z = uI S1 (180) 1 ((0 : Int32)) := ⟨_, rfl⟩
  rw [← eS]
  have h := h S2 eS
  refine q_pi rfl rfl ?_
  obtain ⟨S3, eS⟩ : ∃ z, z = uI S2 (180) 4 ((0 : Int32)) := ⟨_, rfl⟩
  rw [← eS]
  have h := h S3 eS
  refine ⟨q_rc rfl, ?_⟩
  obtain ⟨d2, P2, hdd, hC, h⟩ := h
  refine ⟨d2, _, hdd, hC, fun H9 hp => ?_⟩
  obtain ⟨S4, rfl, hp⟩ := hp
  have h := h S4 hp
  exact ⟨_, rfl, h⟩

theorem zX12_readsAll_0 {d n : Nat} {S : gS} {P : gS → Bool → Prop}   (h : gG d mX12_readsAll 0 0 (g_Xz mX12_readsAll n 0 0 (hPz P)) 2 n (hH S) [some (.ref (180)), some (.int ((0 : Int32)))] [] 0 0) : gG d mX12_readsAll 0 0 (g_Xz mX12_readsAll n 0 0 (hPz P)) 0 n (hH S) [some (.ref (180)), none] [] 0 0 := by
  refine kX12_readsAll_0  ?_
  exact h
theorem zX12_readsAll_2 {d n : Nat} {S : gS} {P : gS → Bool → Prop} {i1 : Int32}  (h : ((3 : Int32) ≤ i1 → (∀ S1, S1 = uR S (192) (1) ((1000 : Int32)) → (∀ S2, S2 = uR S1 (193) (1) ((1000 : Int32)) → ∀ S3, S3 = uI S2 (180) 23 ((1000 : Int32)) → s_cv d mX12_begins n S3 [.ref (180)] (fun S4 => gG d mX12_readsAll 0 0 (g_Xz mX12_readsAll n 0 0 (hPz P)) 51 n (hH S4) [some (.ref (180)), none] [] 0 0)))) ∧ (¬ ((3 : Int32) ≤ i1) → vp_in (((3 : Int32) + i1)) 6 ∧ (∀ S6, S6 = uR S (182) (Int32.toNatClampNeg (((3 : Int32) + i1))) ((0 : Int32)) → gG d mX12_readsAll 0 0 (g_Xz mX12_readsAll n 0 0 (hPz P)) 2 n (hH S6) [some (.ref (180)), some (.int ((i1 + 1)))] [] 0 0))) : gG d mX12_readsAll 0 0 (g_Xz mX12_readsAll n 0 0 (hPz P)) 2 n (hH S) [some (.ref (180)), some (.int (i1))] [] 0 0 := by
  refine kX12_readsAll_2  ?_
  refine ⟨fun c => ?_, fun c => ?_⟩
  · have h := h.1 c
    refine q_gc rfl rfl ?_
    refine q_as (k := 1) rfl (by decide) (vp_l (by decide)) (by decide) ?_
    obtain ⟨S1, eS⟩ : ∃ z, z = uR S (192) (1) ((1000 : Int32)) := ⟨_, rfl⟩
    rw [← eS]
    have h := h S1 eS
    refine q_gc rfl rfl ?_
    refine q_as (k := 1) rfl (by decide) (vp_l (by decide)) (by decide) ?_
    obtain ⟨S2, eS⟩ : ∃ z, z = uR S1 (193) (1) ((1000 : Int32)) := ⟨_, rfl⟩
    rw [← eS]
    have h := h S2 eS
    refine q_pi rfl rfl ?_
    obtain ⟨S3, eS⟩ : ∃ z, z = uI S2 (180) 23 ((1000 : Int32)) := ⟨_, rfl⟩
    rw [← eS]
    have h := h S3 eS
    refine ⟨q_rc rfl, ?_⟩
    obtain ⟨d2, P2, hdd, hC, h⟩ := h
    refine ⟨d2, _, hdd, hC, fun H9 hp => ?_⟩
    obtain ⟨S4, rfl, hp⟩ := hp
    have h := h S4 hp
    exact h
  · have h := h.2 c
    refine q_gc rfl rfl ?_
    obtain ⟨hv5, h⟩ := h
    refine q_as (k := Int32.toNatClampNeg (((3 : Int32) + i1))) rfl (by decide) hv5 rfl ?_
    obtain ⟨S6, eS⟩ : ∃ z, z = uR S (182) (Int32.toNatClampNeg (((3 : Int32) + i1))) ((0 : Int32)) := ⟨_, rfl⟩
    rw [← eS]
    have h := h S6 eS
    exact h
theorem zX12_readsAll_51 {d n : Nat} {S : gS} {P : gS → Bool → Prop}   (h : ((sI S (180) 6) = 0 → P S true) ∧ (¬ ((sI S (180) 6) = 0) → s_cz d mX12_isWord n S [.ref (180), .long ((7219835 : Int64))] (fun S1 b2 => (b2 = false → s_cz d mX12_isWord n S1 [.ref (180), .long ((112011003 : Int64))] (fun S3 b4 => (b4 = false → s_cz d mX12_isWord n S3 [.ref (180), .long ((175252482 : Int64))] (fun S5 b6 => (b6 = false → s_cz d mX12_isWord n S5 [.ref (180), .long ((355280 : Int64))] (fun S7 b8 => (b8 = false → s_cz d mX12_isWord n S7 [.ref (180), .long ((281024524 : Int64))] (fun S9 b10 => (b10 = false → s_cz d mX12_fails n S9 [.ref (180), .int ((1 : Int32))] (fun S11 b12 => (b12 = true → gG d mX12_readsAll 0 0 (g_Xz mX12_readsAll n 0 0 (hPz P)) 51 n (hH S11) [some (.ref (180)), none] [] 0 0) ∧ (b12 = false → P S11 false))) ∧ (b10 = true → s_cz d mX12_readsSounds n S9 [.ref (180)] (fun S13 b14 => (b14 = true → gG d mX12_readsAll 0 0 (g_Xz mX12_readsAll n 0 0 (hPz P)) 51 n (hH S13) [some (.ref (180)), none] [] 0 0) ∧ (b14 = false → P S13 false))))) ∧ (b8 = true → s_cz d mX12_readsRain n S7 [.ref (180)] (fun S15 b16 => (b16 = true → gG d mX12_readsAll 0 0 (g_Xz mX12_readsAll n 0 0 (hPz P)) 51 n (hH S15) [some (.ref (180)), none] [] 0 0) ∧ (b16 = false → P S15 false))))) ∧ (b6 = true → s_cz d mX12_readsLetter n S5 [.ref (180)] (fun S17 b18 => (b18 = true → gG d mX12_readsAll 0 0 (g_Xz mX12_readsAll n 0 0 (hPz P)) 51 n (hH S17) [some (.ref (180)), none] [] 0 0) ∧ (b18 = false → P S17 false))))) ∧ (b4 = true → s_cz d mX12_readsGutter n S3 [.ref (180)] (fun S19 b20 => (b20 = true → gG d mX12_readsAll 0 0 (g_Xz mX12_readsAll n 0 0 (hPz P)) 51 n (hH S19) [some (.ref (180)), none] [] 0 0) ∧ (b20 = false → P S19 false))))) ∧ (b2 = true → s_cz d mX12_readsMouth n S1 [.ref (180)] (fun S21 b22 => (b22 = true → gG d mX12_readsAll 0 0 (g_Xz mX12_readsAll n 0 0 (hPz P)) 51 n (hH S21) [some (.ref (180)), none] [] 0 0) ∧ (b22 = false → P S21 false)))))) : gG d mX12_readsAll 0 0 (g_Xz mX12_readsAll n 0 0 (hPz P)) 51 n (hH S) [some (.ref (180)), none] [] 0 0 := by
  refine kX12_readsAll_51  ?_
  refine q_gi rfl rfl ?_
  refine ⟨fun c => ?_, fun c => ?_⟩
  · have h := h.1 c
    exact ⟨_, rfl, h⟩
  · have h := h.2 c
    refine ⟨q_rc rfl, ?_⟩
    obtain ⟨d2, P2, hdd, hC, h⟩ := h
    refine ⟨d2, _, hdd, hC, fun H9 b2 hp => ?_⟩
    obtain ⟨S1, rfl, hp⟩ := hp
    have h := h S1 b2 hp
    refine ⟨fun c => ?_, fun c => ?_⟩
    · have h := h.1 c
      refine ⟨q_rc rfl, ?_⟩
      obtain ⟨d2, P2, hdd, hC, h⟩ := h
      refine ⟨d2, _, hdd, hC, fun H9 b4 hp => ?_⟩
      obtain ⟨S3, rfl, hp⟩ := hp
      have h := h S3 b4 hp
      refine ⟨fun c => ?_, fun c => ?_⟩
      · have h := h.1 c
        refine ⟨q_rc rfl, ?_⟩
        obtain ⟨d2, P2, hdd, hC, h⟩ := h
        refine ⟨d2, _, hdd, hC, fun H9 b6 hp => ?_⟩
        obtain ⟨S5, rfl, hp⟩ := hp
        have h := h S5 b6 hp
        refine ⟨fun c => ?_, fun c => ?_⟩
        · have h := h.1 c
          refine ⟨q_rc rfl, ?_⟩
          obtain ⟨d2, P2, hdd, hC, h⟩ := h
          refine ⟨d2, _, hdd, hC, fun H9 b8 hp => ?_⟩
          obtain ⟨S7, rfl, hp⟩ := hp
          have h := h S7 b8 hp
          refine ⟨fun c => ?_, fun c => ?_⟩
          · have h := h.1 c
            refine ⟨q_rc rfl, ?_⟩
            obtain ⟨d2, P2, hdd, hC, h⟩ := h
            refine ⟨d2, _, hdd, hC, fun H9 b10 hp => ?_⟩
            obtain ⟨S9, rfl, hp⟩ := hp
            have h := h S9 b10 hp
            refine ⟨fun c => ?_, fun c => ?_⟩
            · have h := h.1 c
              refine ⟨q_rc rfl, ?_⟩
              obtain ⟨d2, P2, hdd, hC, h⟩ := h
              refine ⟨d2, _, hdd, hC, fun H9 b12 hp => ?_⟩
              obtain ⟨S11, rfl, hp⟩ := hp
              have h := h S11 b12 hp
              refine ⟨fun c => ?_, fun c => ?_⟩
              · have h := h.1 c
                exact h
              · have h := h.2 c
                exact ⟨_, rfl, h⟩
            · have h := h.2 c
              refine ⟨q_rc rfl, ?_⟩
              obtain ⟨d2, P2, hdd, hC, h⟩ := h
              refine ⟨d2, _, hdd, hC, fun H9 b14 hp => ?_⟩
              obtain ⟨S13, rfl, hp⟩ := hp
              have h := h S13 b14 hp
              refine ⟨fun c => ?_, fun c => ?_⟩
              · have h := h.1 c
                exact h
              · have h := h.2 c
                exact ⟨_, rfl, h⟩
          · have h := h.2 c
            refine ⟨q_rc rfl, ?_⟩
            obtain ⟨d2, P2, hdd, hC, h⟩ := h
            refine ⟨d2, _, hdd, hC, fun H9 b16 hp => ?_⟩
            obtain ⟨S15, rfl, hp⟩ := hp
            have h := h S15 b16 hp
            refine ⟨fun c => ?_, fun c => ?_⟩
            · have h := h.1 c
              exact h
            · have h := h.2 c
              exact ⟨_, rfl, h⟩
        · have h := h.2 c
          refine ⟨q_rc rfl, ?_⟩
          obtain ⟨d2, P2, hdd, hC, h⟩ := h
          refine ⟨d2, _, hdd, hC, fun H9 b18 hp => ?_⟩
          obtain ⟨S17, rfl, hp⟩ := hp
          have h := h S17 b18 hp
          refine ⟨fun c => ?_, fun c => ?_⟩
          · have h := h.1 c
            exact h
          · have h := h.2 c
            exact ⟨_, rfl, h⟩
      · have h := h.2 c
        refine ⟨q_rc rfl, ?_⟩
        obtain ⟨d2, P2, hdd, hC, h⟩ := h
        refine ⟨d2, _, hdd, hC, fun H9 b20 hp => ?_⟩
        obtain ⟨S19, rfl, hp⟩ := hp
        have h := h S19 b20 hp
        refine ⟨fun c => ?_, fun c => ?_⟩
        · have h := h.1 c
          exact h
        · have h := h.2 c
          exact ⟨_, rfl, h⟩
    · have h := h.2 c
      refine ⟨q_rc rfl, ?_⟩
      obtain ⟨d2, P2, hdd, hC, h⟩ := h
      refine ⟨d2, _, hdd, hC, fun H9 b22 hp => ?_⟩
      obtain ⟨S21, rfl, hp⟩ := hp
      have h := h S21 b22 hp
      refine ⟨fun c => ?_, fun c => ?_⟩
      · have h := h.1 c
        exact h
      · have h := h.2 c
        exact ⟨_, rfl, h⟩

theorem zX12_shifts_0 {d n : Nat} {S : gS} {P : gS → Prop} {a0 : Nat} {m0 : Nat} {i1 : Int32} (hs0 : isA 0 m0 a0) (h : gG d mX12_shifts 0 0 (g_Xv mX12_shifts n 0 0 (hPv P)) 2 n (hH S) [some (.ref (a0)), some (.int (i1)), some (.int ((0 : Int32)))] [] 0 0) : gG d mX12_shifts 0 0 (g_Xv mX12_shifts n 0 0 (hPv P)) 0 n (hH S) [some (.ref (a0)), some (.int (i1)), none] [] 0 0 := by
  refine kX12_shifts_0  ?_
  exact h
theorem zX12_shifts_2 {d n : Nat} {S : gS} {P : gS → Prop} {a0 : Nat} {m0 : Nat} {i1 : Int32} {i2 : Int32} (hs0 : isA 0 m0 a0) (h : (i1 ≤ i2 → P S) ∧ (¬ (i1 ≤ i2) → vp_in ((i1 + i2)) m0 ∧ (vp_in (i2) m0 ∧ (∀ S3, S3 = uR S (a0) (Int32.toNatClampNeg (i2)) ((sR S (a0) (Int32.toNatClampNeg ((i1 + i2))))) → gG d mX12_shifts 0 0 (g_Xv mX12_shifts n 0 0 (hPv P)) 2 n (hH S3) [some (.ref (a0)), some (.int (i1)), some (.int ((i2 + 1)))] [] 0 0)))) : gG d mX12_shifts 0 0 (g_Xv mX12_shifts n 0 0 (hPv P)) 2 n (hH S) [some (.ref (a0)), some (.int (i1)), some (.int (i2))] [] 0 0 := by
  refine kX12_shifts_2  ?_
  refine ⟨fun c => ?_, fun c => ?_⟩
  · have h := h.1 c
    exact ⟨_, rfl, h⟩
  · have h := h.2 c
    obtain ⟨hv1, h⟩ := h
    refine q_al (k := Int32.toNatClampNeg ((i1 + i2))) hs0 (by decide) hv1 rfl ?_
    obtain ⟨hv2, h⟩ := h
    refine q_as (k := Int32.toNatClampNeg (i2)) hs0 (by decide) hv2 rfl ?_
    obtain ⟨S3, eS⟩ : ∃ z, z = uR S (a0) (Int32.toNatClampNeg (i2)) ((sR S (a0) (Int32.toNatClampNeg ((i1 + i2))))) := ⟨_, rfl⟩
    rw [← eS]
    have h := h S3 eS
    exact h

theorem zX12_shiftsNames_0 {d n : Nat} {S : gS} {P : gS → Prop} {a0 : Nat} {m0 : Nat} {i1 : Int32} (hs0 : isA 1 m0 a0) (h : gG d mX12_shiftsNames 0 0 (g_Xv mX12_shiftsNames n 0 0 (hPv P)) 2 n (hH S) [some (.ref (a0)), some (.int (i1)), some (.int ((0 : Int32)))] [] 0 0) : gG d mX12_shiftsNames 0 0 (g_Xv mX12_shiftsNames n 0 0 (hPv P)) 0 n (hH S) [some (.ref (a0)), some (.int (i1)), none] [] 0 0 := by
  refine kX12_shiftsNames_0  ?_
  exact h
theorem zX12_shiftsNames_2 {d n : Nat} {S : gS} {P : gS → Prop} {a0 : Nat} {m0 : Nat} {i1 : Int32} {i2 : Int32} (hs0 : isA 1 m0 a0) (h : (i1 ≤ i2 → P S) ∧ (¬ (i1 ≤ i2) → vp_in ((i1 + i2)) m0 ∧ (vp_in (i2) m0 ∧ (∀ S3, S3 = uL S (a0) (Int32.toNatClampNeg (i2)) ((sL S (a0) (Int32.toNatClampNeg ((i1 + i2))))) → gG d mX12_shiftsNames 0 0 (g_Xv mX12_shiftsNames n 0 0 (hPv P)) 2 n (hH S3) [some (.ref (a0)), some (.int (i1)), some (.int ((i2 + 1)))] [] 0 0)))) : gG d mX12_shiftsNames 0 0 (g_Xv mX12_shiftsNames n 0 0 (hPv P)) 2 n (hH S) [some (.ref (a0)), some (.int (i1)), some (.int (i2))] [] 0 0 := by
  refine kX12_shiftsNames_2  ?_
  refine ⟨fun c => ?_, fun c => ?_⟩
  · have h := h.1 c
    exact ⟨_, rfl, h⟩
  · have h := h.2 c
    obtain ⟨hv1, h⟩ := h
    refine q_ll (k := Int32.toNatClampNeg ((i1 + i2))) hs0 hv1 rfl ?_
    obtain ⟨hv2, h⟩ := h
    refine q_lst (k := Int32.toNatClampNeg (i2)) hs0 hv2 rfl ?_
    obtain ⟨S3, eS⟩ : ∃ z, z = uL S (a0) (Int32.toNatClampNeg (i2)) ((sL S (a0) (Int32.toNatClampNeg ((i1 + i2))))) := ⟨_, rfl⟩
    rw [← eS]
    have h := h S3 eS
    exact h

theorem zX12_lays_0 {d n : Nat} {S : gS} {P : gS → Prop}   (h : s_cv d mX12_shifts n S [.ref (182), .int ((3 : Int32))] (fun S1 => s_cv d mX12_shiftsNames n S1 [.ref (183), .int ((7 : Int32))] (fun S2 => s_cv d mX12_shiftsNames n S2 [.ref (184), .int ((6 : Int32))] (fun S3 => s_cv d mX12_shifts n S3 [.ref (185), .int ((7 : Int32))] (fun S4 => s_cv d mX12_shifts n S4 [.ref (186), .int ((7 : Int32))] (fun S5 => s_cv d mX12_shifts n S5 [.ref (187), .int ((7 : Int32))] (fun S6 => s_cv d mX12_shifts n S6 [.ref (188), .int ((7 : Int32))] (fun S7 => s_cv d mX12_shifts n S7 [.ref (189), .int ((7 : Int32))] (fun S8 => s_cv d mX12_shifts n S8 [.ref (190), .int ((6 : Int32))] (fun S9 => s_cv d mX12_shifts n S9 [.ref (191), .int ((12 : Int32))] (fun S10 => s_cv d mX12_shifts n S10 [.ref (194), .int ((1000 : Int32))] (fun S11 => ((∀ S12, S12 = uR S11 (192) (0) (((sR S11 (192) (1)) - (1000 : Int32))) → ((∀ S13, S13 = uR S12 (193) (0) (((sR S12 (193) (1)) - (1000 : Int32))) → P S13)))))))))))))))) : gG d mX12_lays 0 0 (g_Xv mX12_lays n 0 0 (hPv P)) 0 n (hH S) [some (.ref (180))] [] 0 0 := by
  refine kX12_lays_0  ?_
  refine q_gc rfl rfl ?_
  obtain ⟨d2, P2, hdd, hC, h⟩ := h
  refine ⟨d2, _, hdd, hC, fun H9 hp => ?_⟩
  obtain ⟨S1, rfl, hp⟩ := hp
  have h := h S1 hp
  refine q_gc rfl rfl ?_
  obtain ⟨d2, P2, hdd, hC, h⟩ := h
  refine ⟨d2, _, hdd, hC, fun H9 hp => ?_⟩
  obtain ⟨S2, rfl, hp⟩ := hp
  have h := h S2 hp
  refine q_gc rfl rfl ?_
  obtain ⟨d2, P2, hdd, hC, h⟩ := h
  refine ⟨d2, _, hdd, hC, fun H9 hp => ?_⟩
  obtain ⟨S3, rfl, hp⟩ := hp
  have h := h S3 hp
  refine q_gc rfl rfl ?_
  obtain ⟨d2, P2, hdd, hC, h⟩ := h
  refine ⟨d2, _, hdd, hC, fun H9 hp => ?_⟩
  obtain ⟨S4, rfl, hp⟩ := hp
  have h := h S4 hp
  refine q_gc rfl rfl ?_
  obtain ⟨d2, P2, hdd, hC, h⟩ := h
  refine ⟨d2, _, hdd, hC, fun H9 hp => ?_⟩
  obtain ⟨S5, rfl, hp⟩ := hp
  have h := h S5 hp
  refine q_gc rfl rfl ?_
  obtain ⟨d2, P2, hdd, hC, h⟩ := h
  refine ⟨d2, _, hdd, hC, fun H9 hp => ?_⟩
  obtain ⟨S6, rfl, hp⟩ := hp
  have h := h S6 hp
  refine q_gc rfl rfl ?_
  obtain ⟨d2, P2, hdd, hC, h⟩ := h
  refine ⟨d2, _, hdd, hC, fun H9 hp => ?_⟩
  obtain ⟨S7, rfl, hp⟩ := hp
  have h := h S7 hp
  refine q_gc rfl rfl ?_
  obtain ⟨d2, P2, hdd, hC, h⟩ := h
  refine ⟨d2, _, hdd, hC, fun H9 hp => ?_⟩
  obtain ⟨S8, rfl, hp⟩ := hp
  have h := h S8 hp
  refine q_gc rfl rfl ?_
  obtain ⟨d2, P2, hdd, hC, h⟩ := h
  refine ⟨d2, _, hdd, hC, fun H9 hp => ?_⟩
  obtain ⟨S9, rfl, hp⟩ := hp
  have h := h S9 hp
  refine q_gc rfl rfl ?_
  obtain ⟨d2, P2, hdd, hC, h⟩ := h
  refine ⟨d2, _, hdd, hC, fun H9 hp => ?_⟩
  obtain ⟨S10, rfl, hp⟩ := hp
  have h := h S10 hp
  refine q_gc rfl rfl ?_
  obtain ⟨d2, P2, hdd, hC, h⟩ := h
  refine ⟨d2, _, hdd, hC, fun H9 hp => ?_⟩
  obtain ⟨S11, rfl, hp⟩ := hp
  have h := h S11 hp
  refine q_gc rfl rfl ?_
  refine q_gc rfl rfl ?_
  refine q_al (k := 1) rfl (by decide) (vp_l (by decide)) (by decide) ?_
  refine q_as (k := 0) rfl (by decide) (vp_l (by decide)) (by decide) ?_
  obtain ⟨S12, eS⟩ : ∃ z, z = uR S11 (192) (0) (((sR S11 (192) (1)) - (1000 : Int32))) := ⟨_, rfl⟩
  rw [← eS]
  have h := h S12 eS
  refine q_gc rfl rfl ?_
  refine q_gc rfl rfl ?_
  refine q_al (k := 1) rfl (by decide) (vp_l (by decide)) (by decide) ?_
  refine q_as (k := 0) rfl (by decide) (vp_l (by decide)) (by decide) ?_
  obtain ⟨S13, eS⟩ : ∃ z, z = uR S12 (193) (0) (((sR S12 (193) (1)) - (1000 : Int32))) := ⟨_, rfl⟩
  rw [← eS]
  have h := h S13 eS
  exact ⟨_, rfl, h⟩

theorem zX12_copies_0 {d n : Nat} {S : gS} {P : gS → Prop} {a0 : Nat} {m0 : Nat} {i1 : Int32} {a2 : Nat} {m2 : Nat} {i3 : Int32} (hs0 : isA 0 m0 a0) (hs2 : isA 0 m2 a2) (h : gG d mX12_copies 0 0 (g_Xv mX12_copies n 0 0 (hPv P)) 3 n (hH S) [some (.ref (a0)), some (.int (i1)), some (.ref (a2)), some (.int (i3)), some (.int ((0 : Int32)))] [] 0 0) : gG d mX12_copies 0 0 (g_Xv mX12_copies n 0 0 (hPv P)) 0 n (hH S) [some (.ref (a0)), some (.int (i1)), some (.ref (a2)), some (.int (i3)), none] [] 0 0 := by
  refine kX12_copies_0  ?_
  exact h
theorem zX12_copies_3 {d n : Nat} {S : gS} {P : gS → Prop} {a0 : Nat} {m0 : Nat} {i1 : Int32} {a2 : Nat} {m2 : Nat} {i3 : Int32} {i4 : Int32} (hs0 : isA 0 m0 a0) (hs2 : isA 0 m2 a2) (h : ((59 : Int32) ≤ i4 → P S) ∧ (¬ ((59 : Int32) ≤ i4) → vp_in ((i1 + i4)) m0 ∧ (vp_in ((i3 + i4)) m2 ∧ (∀ S3, S3 = uR S (a2) (Int32.toNatClampNeg ((i3 + i4))) ((sR S (a0) (Int32.toNatClampNeg ((i1 + i4))))) → gG d mX12_copies 0 0 (g_Xv mX12_copies n 0 0 (hPv P)) 3 n (hH S3) [some (.ref (a0)), some (.int (i1)), some (.ref (a2)), some (.int (i3)), some (.int ((i4 + 1)))] [] 0 0)))) : gG d mX12_copies 0 0 (g_Xv mX12_copies n 0 0 (hPv P)) 3 n (hH S) [some (.ref (a0)), some (.int (i1)), some (.ref (a2)), some (.int (i3)), some (.int (i4))] [] 0 0 := by
  refine kX12_copies_3  ?_
  refine ⟨fun c => ?_, fun c => ?_⟩
  · have h := h.1 c
    exact ⟨_, rfl, h⟩
  · have h := h.2 c
    obtain ⟨hv1, h⟩ := h
    refine q_al (k := Int32.toNatClampNeg ((i1 + i4))) hs0 (by decide) hv1 rfl ?_
    obtain ⟨hv2, h⟩ := h
    refine q_as (k := Int32.toNatClampNeg ((i3 + i4))) hs2 (by decide) hv2 rfl ?_
    obtain ⟨S3, eS⟩ : ∃ z, z = uR S (a2) (Int32.toNatClampNeg ((i3 + i4))) ((sR S (a0) (Int32.toNatClampNeg ((i1 + i4))))) := ⟨_, rfl⟩
    rw [← eS]
    have h := h S3 eS
    exact h

theorem zX12_readsLine_0 {d n : Nat} {S : gS} {P : gS → Bool → Prop}   (h : s_cz d mX12_isWord n S [.ref (180), .long ((191610176 : Int64))] (fun S1 b2 => (b2 = false → s_cz d mX12_isWord n S1 [.ref (180), .long ((326448 : Int64))] (fun S3 b4 => (b4 = false → s_cz d mX12_isWord n S3 [.ref (180), .long ((388978 : Int64))] (fun S5 b6 => (b6 = false → s_cz d mX12_isWord n S5 [.ref (180), .long ((1834209 : Int64))] (fun S7 b8 => (b8 = false → gG d mX12_readsLine 0 0 (g_Xz mX12_readsLine n 0 0 (hPz P)) 58 n (hH S7) [some (.ref (180)), some (.int ((-1 : Int32))), none] [] 0 0) ∧ (b8 = true → gG d mX12_readsLine 0 0 (g_Xz mX12_readsLine n 0 0 (hPz P)) 58 n (hH S7) [some (.ref (180)), some (.int ((3 : Int32))), none] [] 0 0))) ∧ (b6 = true → gG d mX12_readsLine 0 0 (g_Xz mX12_readsLine n 0 0 (hPz P)) 58 n (hH S5) [some (.ref (180)), some (.int ((2 : Int32))), none] [] 0 0))) ∧ (b4 = true → gG d mX12_readsLine 0 0 (g_Xz mX12_readsLine n 0 0 (hPz P)) 58 n (hH S3) [some (.ref (180)), some (.int ((1 : Int32))), none] [] 0 0))) ∧ (b2 = true → gG d mX12_readsLine 0 0 (g_Xz mX12_readsLine n 0 0 (hPz P)) 58 n (hH S1) [some (.ref (180)), some (.int ((0 : Int32))), none] [] 0 0))) : gG d mX12_readsLine 0 0 (g_Xz mX12_readsLine n 0 0 (hPz P)) 0 n (hH S) [some (.ref (180)), none, none] [] 0 0 := by
  refine kX12_readsLine_0  ?_
  refine ⟨q_rc rfl, ?_⟩
  obtain ⟨d2, P2, hdd, hC, h⟩ := h
  refine ⟨d2, _, hdd, hC, fun H9 b2 hp => ?_⟩
  obtain ⟨S1, rfl, hp⟩ := hp
  have h := h S1 b2 hp
  refine ⟨fun c => ?_, fun c => ?_⟩
  · have h := h.1 c
    refine ⟨q_rc rfl, ?_⟩
    obtain ⟨d2, P2, hdd, hC, h⟩ := h
    refine ⟨d2, _, hdd, hC, fun H9 b4 hp => ?_⟩
    obtain ⟨S3, rfl, hp⟩ := hp
    have h := h S3 b4 hp
    refine ⟨fun c => ?_, fun c => ?_⟩
    · have h := h.1 c
      refine ⟨q_rc rfl, ?_⟩
      obtain ⟨d2, P2, hdd, hC, h⟩ := h
      refine ⟨d2, _, hdd, hC, fun H9 b6 hp => ?_⟩
      obtain ⟨S5, rfl, hp⟩ := hp
      have h := h S5 b6 hp
      refine ⟨fun c => ?_, fun c => ?_⟩
      · have h := h.1 c
        refine ⟨q_rc rfl, ?_⟩
        obtain ⟨d2, P2, hdd, hC, h⟩ := h
        refine ⟨d2, _, hdd, hC, fun H9 b8 hp => ?_⟩
        obtain ⟨S7, rfl, hp⟩ := hp
        have h := h S7 b8 hp
        refine ⟨fun c => ?_, fun c => ?_⟩
        · have h := h.1 c
          exact h
        · have h := h.2 c
          exact h
      · have h := h.2 c
        exact h
    · have h := h.2 c
      exact h
  · have h := h.2 c
    exact h
theorem zX12_readsLine_58 {d n : Nat} {S : gS} {P : gS → Bool → Prop} {i1 : Int32}  (h : (0 ≤ i1 → ((¬ ((sR S (207) (5)) = (40 : Int32)) → s_cv d mX12_nextToken n S [.ref (180)] (fun S1 => (vp_in (((200 : Int32) + (sR S1 (207) (5)))) 240 ∧ (∀ S3, S3 = uR S1 (208) (Int32.toNatClampNeg (((200 : Int32) + (sR S1 (207) (5))))) (i1) → (i1 = 0 → gG d mX12_readsLine 0 0 (g_Xz mX12_readsLine n 0 0 (hPz P)) 135 n (hH S3) [some (.ref (180)), some (.int (i1)), some (.int (((200 : Int32) + (sR S1 (207) (5)))))] [] 0 0) ∧ (¬ (i1 = 0) → s_cz d mX12_needsMouth n S3 [.ref (180), .int ((0 : Int32))] (fun S4 b5 => (b5 = true → (∀ S6, S6 = uR S4 (209) (Int32.toNatClampNeg (((200 : Int32) + (sR S1 (207) (5))))) ((sI S4 (180) 36)) → s_cv d mX12_nextToken n S6 [.ref (180)] (fun S7 => gG d mX12_readsLine 0 0 (g_Xz mX12_readsLine n 0 0 (hPz P)) 135 n (hH S7) [some (.ref (180)), some (.int (i1)), some (.int (((200 : Int32) + (sR S1 (207) (5)))))] [] 0 0))) ∧ (b5 = false → P S4 false))))))) ∧ ((sR S (207) (5)) = (40 : Int32) → s_cz d mX12_fails n S [.ref (180), .int ((5 : Int32))] (fun S8 b9 => P S8 b9)))) ∧ (¬ (0 ≤ i1) → s_cz d mX12_fails n S [.ref (180), .int ((1 : Int32))] (fun S10 b11 => P S10 b11))) : gG d mX12_readsLine 0 0 (g_Xz mX12_readsLine n 0 0 (hPz P)) 58 n (hH S) [some (.ref (180)), some (.int (i1)), none] [] 0 0 := by
  refine kX12_readsLine_58  ?_
  refine ⟨fun c => ?_, fun c => ?_⟩
  · have h := h.1 c
    refine q_gc rfl rfl ?_
    refine q_al (k := 5) rfl (by decide) (vp_l (by decide)) (by decide) ?_
    refine ⟨fun c => ?_, fun c => ?_⟩
    · have h := h.1 c
      refine ⟨q_rc rfl, ?_⟩
      obtain ⟨d2, P2, hdd, hC, h⟩ := h
      refine ⟨d2, _, hdd, hC, fun H9 hp => ?_⟩
      obtain ⟨S1, rfl, hp⟩ := hp
      have h := h S1 hp
      refine q_gc rfl rfl ?_
      refine q_al (k := 5) rfl (by decide) (vp_l (by decide)) (by decide) ?_
      refine q_gc rfl rfl ?_
      obtain ⟨hv2, h⟩ := h
      refine q_as (k := Int32.toNatClampNeg (((200 : Int32) + (sR S1 (207) (5))))) rfl (by decide) hv2 rfl ?_
      obtain ⟨S3, eS⟩ : ∃ z, z = uR S1 (208) (Int32.toNatClampNeg (((200 : Int32) + (sR S1 (207) (5))))) (i1) := ⟨_, rfl⟩
      rw [← eS]
      have h := h S3 eS
      refine ⟨fun c => ?_, fun c => ?_⟩
      · have h := h.1 c
        exact h
      · have h := h.2 c
        refine ⟨q_rc rfl, ?_⟩
        obtain ⟨d2, P2, hdd, hC, h⟩ := h
        refine ⟨d2, _, hdd, hC, fun H9 b5 hp => ?_⟩
        obtain ⟨S4, rfl, hp⟩ := hp
        have h := h S4 b5 hp
        refine ⟨fun c => ?_, fun c => ?_⟩
        · have h := h.1 c
          refine q_gc rfl rfl ?_
          refine q_gi rfl rfl ?_
          refine q_as (k := Int32.toNatClampNeg (((200 : Int32) + (sR S1 (207) (5))))) rfl (by decide) hv2 rfl ?_
          obtain ⟨S6, eS⟩ : ∃ z, z = uR S4 (209) (Int32.toNatClampNeg (((200 : Int32) + (sR S1 (207) (5))))) ((sI S4 (180) 36)) := ⟨_, rfl⟩
          rw [← eS]
          have h := h S6 eS
          refine ⟨q_rc rfl, ?_⟩
          obtain ⟨d2, P2, hdd, hC, h⟩ := h
          refine ⟨d2, _, hdd, hC, fun H9 hp => ?_⟩
          obtain ⟨S7, rfl, hp⟩ := hp
          have h := h S7 hp
          exact h
        · have h := h.2 c
          exact ⟨_, rfl, h⟩
    · have h := h.2 c
      refine ⟨q_rc rfl, ?_⟩
      obtain ⟨d2, P2, hdd, hC, h⟩ := h
      refine ⟨d2, _, hdd, hC, fun H9 b9 hp => ?_⟩
      obtain ⟨S8, rfl, hp⟩ := hp
      have h := h S8 b9 hp
      exact ⟨_, rfl, h⟩
  · have h := h.2 c
    refine ⟨q_rc rfl, ?_⟩
    obtain ⟨d2, P2, hdd, hC, h⟩ := h
    refine ⟨d2, _, hdd, hC, fun H9 b11 hp => ?_⟩
    obtain ⟨S10, rfl, hp⟩ := hp
    have h := h S10 b11 hp
    exact ⟨_, rfl, h⟩
theorem zX12_readsLine_135 {d n : Nat} {S : gS} {P : gS → Bool → Prop} {i1 : Int32} {i2 : Int32}  (h : (¬ (i1 = (1 : Int32)) → gG d mX12_readsLine 0 0 (g_Xz mX12_readsLine n 0 0 (hPz P)) 162 n (hH S) [some (.ref (180)), none, none] [] 0 0) ∧ (i1 = (1 : Int32) → s_cz d mX12_needsNumber n S [.ref (180), .int ((1 : Int32)), .int ((20 : Int32))] (fun S1 b2 => (b2 = true → vp_in (i2) 240 ∧ (∀ S4, S4 = uR S1 (210) (Int32.toNatClampNeg (i2)) ((sI S1 (180) 36)) → gG d mX12_readsLine 0 0 (g_Xz mX12_readsLine n 0 0 (hPz P)) 162 n (hH S4) [some (.ref (180)), none, none] [] 0 0)) ∧ (b2 = false → P S1 false)))) : gG d mX12_readsLine 0 0 (g_Xz mX12_readsLine n 0 0 (hPz P)) 135 n (hH S) [some (.ref (180)), some (.int (i1)), some (.int (i2))] [] 0 0 := by
  refine kX12_readsLine_135  ?_
  refine ⟨fun c => ?_, fun c => ?_⟩
  · have h := h.1 c
    exact h
  · have h := h.2 c
    refine ⟨q_rc rfl, ?_⟩
    obtain ⟨d2, P2, hdd, hC, h⟩ := h
    refine ⟨d2, _, hdd, hC, fun H9 b2 hp => ?_⟩
    obtain ⟨S1, rfl, hp⟩ := hp
    have h := h S1 b2 hp
    refine ⟨fun c => ?_, fun c => ?_⟩
    · have h := h.1 c
      refine q_gc rfl rfl ?_
      refine q_gi rfl rfl ?_
      obtain ⟨hv3, h⟩ := h
      refine q_as (k := Int32.toNatClampNeg (i2)) rfl (by decide) hv3 rfl ?_
      obtain ⟨S4, eS⟩ : ∃ z, z = uR S1 (210) (Int32.toNatClampNeg (i2)) ((sI S1 (180) 36)) := ⟨_, rfl⟩
      rw [← eS]
      have h := h S4 eS
      exact h
    · have h := h.2 c
      exact ⟨_, rfl, h⟩
theorem zX12_readsLine_162 {d n : Nat} {S : gS} {P : gS → Bool → Prop}   (h : ((∀ S1, S1 = uR S (207) (5) (((sR S (207) (5)) + (1 : Int32))) → s_cz d mX12_closes n S1 [.ref (180)] (fun S2 b3 => P S2 b3)))) : gG d mX12_readsLine 0 0 (g_Xz mX12_readsLine n 0 0 (hPz P)) 162 n (hH S) [some (.ref (180)), none, none] [] 0 0 := by
  refine kX12_readsLine_162  ?_
  refine q_gc rfl rfl ?_
  refine q_al (k := 5) rfl (by decide) (vp_l (by decide)) (by decide) ?_
  refine q_as (k := 5) rfl (by decide) (vp_l (by decide)) (by decide) ?_
  obtain ⟨S1, eS⟩ : ∃ z, z = uR S (207) (5) (((sR S (207) (5)) + (1 : Int32))) := ⟨_, rfl⟩
  rw [← eS]
  have h := h S1 eS
  refine ⟨q_rc rfl, ?_⟩
  obtain ⟨d2, P2, hdd, hC, h⟩ := h
  refine ⟨d2, _, hdd, hC, fun H9 b3 hp => ?_⟩
  obtain ⟨S2, rfl, hp⟩ := hp
  have h := h S2 b3 hp
  exact ⟨_, rfl, h⟩

theorem zX12_laysLines_0 {d n : Nat} {S : gS} {P : gS → Prop} {i1 : Int32} {i2 : Int32}  (h : vp_in (i1) 6 ∧ (vp_in (i2) 6 ∧ (∀ S3, S3 = uR S (207) (Int32.toNatClampNeg (i2)) ((sR S (207) (Int32.toNatClampNeg (i1)))) → gG d mX12_laysLines 0 0 (g_Xv mX12_laysLines n 0 0 (hPv P)) 14 n (hH S3) [some (.ref (180)), some (.int (i1)), some (.int (i2)), some (.int ((0 : Int32)))] [] 0 0))) : gG d mX12_laysLines 0 0 (g_Xv mX12_laysLines n 0 0 (hPv P)) 0 n (hH S) [some (.ref (180)), some (.int (i1)), some (.int (i2)), none] [] 0 0 := by
  refine kX12_laysLines_0  ?_
  refine q_gc rfl rfl ?_
  refine q_gc rfl rfl ?_
  obtain ⟨hv1, h⟩ := h
  refine q_al (k := Int32.toNatClampNeg (i1)) rfl (by decide) hv1 rfl ?_
  obtain ⟨hv2, h⟩ := h
  refine q_as (k := Int32.toNatClampNeg (i2)) rfl (by decide) hv2 rfl ?_
  obtain ⟨S3, eS⟩ : ∃ z, z = uR S (207) (Int32.toNatClampNeg (i2)) ((sR S (207) (Int32.toNatClampNeg (i1)))) := ⟨_, rfl⟩
  rw [← eS]
  have h := h S3 eS
  exact h
theorem zX12_laysLines_14 {d n : Nat} {S : gS} {P : gS → Prop} {i1 : Int32} {i2 : Int32} {i3 : Int32}  (h : ((40 : Int32) ≤ i3 → P S) ∧ (¬ ((40 : Int32) ≤ i3) → vp_in ((((40 : Int32) * i1) + i3)) 240 ∧ (vp_in ((((40 : Int32) * i2) + i3)) 240 ∧ (∀ S3, S3 = uR S (208) (Int32.toNatClampNeg ((((40 : Int32) * i2) + i3))) ((sR S (208) (Int32.toNatClampNeg ((((40 : Int32) * i1) + i3))))) → ((∀ S4, S4 = uR S3 (209) (Int32.toNatClampNeg ((((40 : Int32) * i2) + i3))) ((sR S3 (209) (Int32.toNatClampNeg ((((40 : Int32) * i1) + i3))))) → ((∀ S5, S5 = uR S4 (210) (Int32.toNatClampNeg ((((40 : Int32) * i2) + i3))) ((sR S4 (210) (Int32.toNatClampNeg ((((40 : Int32) * i1) + i3))))) → gG d mX12_laysLines 0 0 (g_Xv mX12_laysLines n 0 0 (hPv P)) 14 n (hH S5) [some (.ref (180)), some (.int (i1)), some (.int (i2)), some (.int ((i3 + 1)))] [] 0 0)))))))) : gG d mX12_laysLines 0 0 (g_Xv mX12_laysLines n 0 0 (hPv P)) 14 n (hH S) [some (.ref (180)), some (.int (i1)), some (.int (i2)), some (.int (i3))] [] 0 0 := by
  refine kX12_laysLines_14  ?_
  refine ⟨fun c => ?_, fun c => ?_⟩
  · have h := h.1 c
    exact ⟨_, rfl, h⟩
  · have h := h.2 c
    refine q_gc rfl rfl ?_
    refine q_gc rfl rfl ?_
    obtain ⟨hv1, h⟩ := h
    refine q_al (k := Int32.toNatClampNeg ((((40 : Int32) * i1) + i3))) rfl (by decide) hv1 rfl ?_
    obtain ⟨hv2, h⟩ := h
    refine q_as (k := Int32.toNatClampNeg ((((40 : Int32) * i2) + i3))) rfl (by decide) hv2 rfl ?_
    obtain ⟨S3, eS⟩ : ∃ z, z = uR S (208) (Int32.toNatClampNeg ((((40 : Int32) * i2) + i3))) ((sR S (208) (Int32.toNatClampNeg ((((40 : Int32) * i1) + i3))))) := ⟨_, rfl⟩
    rw [← eS]
    have h := h S3 eS
    refine q_gc rfl rfl ?_
    refine q_gc rfl rfl ?_
    refine q_al (k := Int32.toNatClampNeg ((((40 : Int32) * i1) + i3))) rfl (by decide) hv1 rfl ?_
    refine q_as (k := Int32.toNatClampNeg ((((40 : Int32) * i2) + i3))) rfl (by decide) hv2 rfl ?_
    obtain ⟨S4, eS⟩ : ∃ z, z = uR S3 (209) (Int32.toNatClampNeg ((((40 : Int32) * i2) + i3))) ((sR S3 (209) (Int32.toNatClampNeg ((((40 : Int32) * i1) + i3))))) := ⟨_, rfl⟩
    rw [← eS]
    have h := h S4 eS
    refine q_gc rfl rfl ?_
    refine q_gc rfl rfl ?_
    refine q_al (k := Int32.toNatClampNeg ((((40 : Int32) * i1) + i3))) rfl (by decide) hv1 rfl ?_
    refine q_as (k := Int32.toNatClampNeg ((((40 : Int32) * i2) + i3))) rfl (by decide) hv2 rfl ?_
    obtain ⟨S5, eS⟩ : ∃ z, z = uR S4 (210) (Int32.toNatClampNeg ((((40 : Int32) * i2) + i3))) ((sR S4 (210) (Int32.toNatClampNeg ((((40 : Int32) * i1) + i3))))) := ⟨_, rfl⟩
    rw [← eS]
    have h := h S5 eS
    exact h

theorem zX12_laysWord_0 {d n : Nat} {S : gS} {P : gS → Prop} {i1 : Int32} {i2 : Int32}  (h : vp_in (i1) 6 ∧ (vp_in (i2) 6 ∧ (∀ S3, S3 = uR S (211) (Int32.toNatClampNeg (i2)) ((sR S (211) (Int32.toNatClampNeg (i1)))) → gG d mX12_laysWord 0 0 (g_Xv mX12_laysWord n 0 0 (hPv P)) 14 n (hH S3) [some (.ref (180)), some (.int (i1)), some (.int (i2)), some (.int ((0 : Int32)))] [] 0 0))) : gG d mX12_laysWord 0 0 (g_Xv mX12_laysWord n 0 0 (hPv P)) 0 n (hH S) [some (.ref (180)), some (.int (i1)), some (.int (i2)), none] [] 0 0 := by
  refine kX12_laysWord_0  ?_
  refine q_gc rfl rfl ?_
  refine q_gc rfl rfl ?_
  obtain ⟨hv1, h⟩ := h
  refine q_al (k := Int32.toNatClampNeg (i1)) rfl (by decide) hv1 rfl ?_
  obtain ⟨hv2, h⟩ := h
  refine q_as (k := Int32.toNatClampNeg (i2)) rfl (by decide) hv2 rfl ?_
  obtain ⟨S3, eS⟩ : ∃ z, z = uR S (211) (Int32.toNatClampNeg (i2)) ((sR S (211) (Int32.toNatClampNeg (i1)))) := ⟨_, rfl⟩
  rw [← eS]
  have h := h S3 eS
  exact h
theorem zX12_laysWord_14 {d n : Nat} {S : gS} {P : gS → Prop} {i1 : Int32} {i2 : Int32} {i3 : Int32}  (h : ((7 : Int32) ≤ i3 → P S) ∧ (¬ ((7 : Int32) ≤ i3) → vp_in ((((7 : Int32) * i1) + i3)) 42 ∧ (vp_in ((((7 : Int32) * i2) + i3)) 42 ∧ (∀ S3, S3 = uR S (212) (Int32.toNatClampNeg ((((7 : Int32) * i2) + i3))) ((sR S (212) (Int32.toNatClampNeg ((((7 : Int32) * i1) + i3))))) → gG d mX12_laysWord 0 0 (g_Xv mX12_laysWord n 0 0 (hPv P)) 14 n (hH S3) [some (.ref (180)), some (.int (i1)), some (.int (i2)), some (.int ((i3 + 1)))] [] 0 0)))) : gG d mX12_laysWord 0 0 (g_Xv mX12_laysWord n 0 0 (hPv P)) 14 n (hH S) [some (.ref (180)), some (.int (i1)), some (.int (i2)), some (.int (i3))] [] 0 0 := by
  refine kX12_laysWord_14  ?_
  refine ⟨fun c => ?_, fun c => ?_⟩
  · have h := h.1 c
    exact ⟨_, rfl, h⟩
  · have h := h.2 c
    refine q_gc rfl rfl ?_
    refine q_gc rfl rfl ?_
    obtain ⟨hv1, h⟩ := h
    refine q_al (k := Int32.toNatClampNeg ((((7 : Int32) * i1) + i3))) rfl (by decide) hv1 rfl ?_
    obtain ⟨hv2, h⟩ := h
    refine q_as (k := Int32.toNatClampNeg ((((7 : Int32) * i2) + i3))) rfl (by decide) hv2 rfl ?_
    obtain ⟨S3, eS⟩ : ∃ z, z = uR S (212) (Int32.toNatClampNeg ((((7 : Int32) * i2) + i3))) ((sR S (212) (Int32.toNatClampNeg ((((7 : Int32) * i1) + i3))))) := ⟨_, rfl⟩
    rw [← eS]
    have h := h S3 eS
    exact h

theorem zX12_laysSeen_0 {d n : Nat} {S : gS} {P : gS → Prop} {i1 : Int32} {i2 : Int32}  (h : vp_in (i1) 5 ∧ (vp_in (i2) 5 ∧ (∀ S3, S3 = uR S (213) (Int32.toNatClampNeg (i2)) ((sR S (213) (Int32.toNatClampNeg (i1)))) → gG d mX12_laysSeen 0 0 (g_Xv mX12_laysSeen n 0 0 (hPv P)) 14 n (hH S3) [some (.ref (180)), some (.int (i1)), some (.int (i2)), some (.int ((0 : Int32)))] [] 0 0))) : gG d mX12_laysSeen 0 0 (g_Xv mX12_laysSeen n 0 0 (hPv P)) 0 n (hH S) [some (.ref (180)), some (.int (i1)), some (.int (i2)), none] [] 0 0 := by
  refine kX12_laysSeen_0  ?_
  refine q_gc rfl rfl ?_
  refine q_gc rfl rfl ?_
  obtain ⟨hv1, h⟩ := h
  refine q_al (k := Int32.toNatClampNeg (i1)) rfl (by decide) hv1 rfl ?_
  obtain ⟨hv2, h⟩ := h
  refine q_as (k := Int32.toNatClampNeg (i2)) rfl (by decide) hv2 rfl ?_
  obtain ⟨S3, eS⟩ : ∃ z, z = uR S (213) (Int32.toNatClampNeg (i2)) ((sR S (213) (Int32.toNatClampNeg (i1)))) := ⟨_, rfl⟩
  rw [← eS]
  have h := h S3 eS
  exact h
theorem zX12_laysSeen_14 {d n : Nat} {S : gS} {P : gS → Prop} {i1 : Int32} {i2 : Int32} {i3 : Int32}  (h : ((8 : Int32) ≤ i3 → P S) ∧ (¬ ((8 : Int32) ≤ i3) → vp_in ((((8 : Int32) * i1) + i3)) 40 ∧ (vp_in ((((8 : Int32) * i2) + i3)) 40 ∧ (∀ S3, S3 = uR S (214) (Int32.toNatClampNeg ((((8 : Int32) * i2) + i3))) ((sR S (214) (Int32.toNatClampNeg ((((8 : Int32) * i1) + i3))))) → ((∀ S4, S4 = uR S3 (215) (Int32.toNatClampNeg ((((8 : Int32) * i2) + i3))) (vp_nar .boolean ((sR S3 (215) (Int32.toNatClampNeg ((((8 : Int32) * i1) + i3)))))) → gG d mX12_laysSeen 0 0 (g_Xv mX12_laysSeen n 0 0 (hPv P)) 14 n (hH S4) [some (.ref (180)), some (.int (i1)), some (.int (i2)), some (.int ((i3 + 1)))] [] 0 0)))))) : gG d mX12_laysSeen 0 0 (g_Xv mX12_laysSeen n 0 0 (hPv P)) 14 n (hH S) [some (.ref (180)), some (.int (i1)), some (.int (i2)), some (.int (i3))] [] 0 0 := by
  refine kX12_laysSeen_14  ?_
  refine ⟨fun c => ?_, fun c => ?_⟩
  · have h := h.1 c
    exact ⟨_, rfl, h⟩
  · have h := h.2 c
    refine q_gc rfl rfl ?_
    refine q_gc rfl rfl ?_
    obtain ⟨hv1, h⟩ := h
    refine q_al (k := Int32.toNatClampNeg ((((8 : Int32) * i1) + i3))) rfl (by decide) hv1 rfl ?_
    obtain ⟨hv2, h⟩ := h
    refine q_as (k := Int32.toNatClampNeg ((((8 : Int32) * i2) + i3))) rfl (by decide) hv2 rfl ?_
    obtain ⟨S3, eS⟩ : ∃ z, z = uR S (214) (Int32.toNatClampNeg ((((8 : Int32) * i2) + i3))) ((sR S (214) (Int32.toNatClampNeg ((((8 : Int32) * i1) + i3))))) := ⟨_, rfl⟩
    rw [← eS]
    have h := h S3 eS
    refine q_gc rfl rfl ?_
    refine q_gc rfl rfl ?_
    refine q_al (k := Int32.toNatClampNeg ((((8 : Int32) * i1) + i3))) rfl (by decide) hv1 rfl ?_
    refine q_as (k := Int32.toNatClampNeg ((((8 : Int32) * i2) + i3))) rfl (by decide) hv2 rfl ?_
    obtain ⟨S4, eS⟩ : ∃ z, z = uR S3 (215) (Int32.toNatClampNeg ((((8 : Int32) * i2) + i3))) (vp_nar .boolean ((sR S3 (215) (Int32.toNatClampNeg ((((8 : Int32) * i1) + i3)))))) := ⟨_, rfl⟩
    rw [← eS]
    have h := h S4 eS
    exact h

theorem zX12_laysOrder_0 {d n : Nat} {S : gS} {P : gS → Prop}   (h : gG d mX12_laysOrder 0 0 (g_Xv mX12_laysOrder n 0 0 (hPv P)) 2 n (hH S) [some (.ref (180)), some (.int ((0 : Int32))), none, none] [] 0 0) : gG d mX12_laysOrder 0 0 (g_Xv mX12_laysOrder n 0 0 (hPv P)) 0 n (hH S) [some (.ref (180)), none, none, none] [] 0 0 := by
  refine kX12_laysOrder_0  ?_
  exact h
theorem zX12_laysOrder_2 {d n : Nat} {S : gS} {P : gS → Prop} {i1 : Int32}  (h : (((sR S (182) (0)) ≤ i1 → P S) ∧ (¬ ((sR S (182) (0)) ≤ i1) → gG d mX12_laysOrder 0 0 (g_Xv mX12_laysOrder n 0 0 (hPv P)) 16 n (hH S) [some (.ref (180)), some (.int (i1)), some (.int ((0 : Int32))), some (.int ((0 : Int32)))] [] 0 0))) : gG d mX12_laysOrder 0 0 (g_Xv mX12_laysOrder n 0 0 (hPv P)) 2 n (hH S) [some (.ref (180)), some (.int (i1)), none, none] [] 0 0 := by
  refine kX12_laysOrder_2  ?_
  refine q_gc rfl rfl ?_
  refine q_al (k := 0) rfl (by decide) (vp_l (by decide)) (by decide) ?_
  refine ⟨fun c => ?_, fun c => ?_⟩
  · have h := h.1 c
    exact ⟨_, rfl, h⟩
  · have h := h.2 c
    exact h
theorem zX12_laysOrder_16 {d n : Nat} {S : gS} {P : gS → Prop} {i1 : Int32} {i2 : Int32} {i3 : Int32}  (h : (((sR S (182) (0)) ≤ i3 → vp_in (i2) 7 ∧ (∀ S2, S2 = uR S (222) (Int32.toNatClampNeg (i2)) (i1) → gG d mX12_laysOrder 0 0 (g_Xv mX12_laysOrder n 0 0 (hPv P)) 2 n (hH S2) [some (.ref (180)), some (.int ((i1 + 1))), none, none] [] 0 0)) ∧ (¬ ((sR S (182) (0)) ≤ i3) → vp_in (i3) 14 ∧ (vp_in (i1) 14 ∧ (((sR S (186) (Int32.toNatClampNeg (i1))) < (sR S (186) (Int32.toNatClampNeg (i3))) → gG d mX12_laysOrder 0 0 (g_Xv mX12_laysOrder n 0 0 (hPv P)) 16 n (hH S) [some (.ref (180)), some (.int (i1)), some (.int ((i2 + (1 : Int32)))), some (.int ((i3 + 1)))] [] 0 0) ∧ (¬ ((sR S (186) (Int32.toNatClampNeg (i1))) < (sR S (186) (Int32.toNatClampNeg (i3)))) → (((¬ ((sR S (186) (Int32.toNatClampNeg (i3))) = (sR S (186) (Int32.toNatClampNeg (i1)))) → gG d mX12_laysOrder 0 0 (g_Xv mX12_laysOrder n 0 0 (hPv P)) 16 n (hH S) [some (.ref (180)), some (.int (i1)), some (.int ((i2 + (0 : Int32)))), some (.int ((i3 + 1)))] [] 0 0) ∧ ((sR S (186) (Int32.toNatClampNeg (i3))) = (sR S (186) (Int32.toNatClampNeg (i1))) → (i1 ≤ i3 → gG d mX12_laysOrder 0 0 (g_Xv mX12_laysOrder n 0 0 (hPv P)) 16 n (hH S) [some (.ref (180)), some (.int (i1)), some (.int ((i2 + (0 : Int32)))), some (.int ((i3 + 1)))] [] 0 0) ∧ (¬ (i1 ≤ i3) → gG d mX12_laysOrder 0 0 (g_Xv mX12_laysOrder n 0 0 (hPv P)) 16 n (hH S) [some (.ref (180)), some (.int (i1)), some (.int ((i2 + (1 : Int32)))), some (.int ((i3 + 1)))] [] 0 0)))))))))) : gG d mX12_laysOrder 0 0 (g_Xv mX12_laysOrder n 0 0 (hPv P)) 16 n (hH S) [some (.ref (180)), some (.int (i1)), some (.int (i2)), some (.int (i3))] [] 0 0 := by
  refine kX12_laysOrder_16  ?_
  refine q_gc rfl rfl ?_
  refine q_al (k := 0) rfl (by decide) (vp_l (by decide)) (by decide) ?_
  refine ⟨fun c => ?_, fun c => ?_⟩
  · have h := h.1 c
    refine q_gc rfl rfl ?_
    obtain ⟨hv1, h⟩ := h
    refine q_as (k := Int32.toNatClampNeg (i2)) rfl (by decide) hv1 rfl ?_
    obtain ⟨S2, eS⟩ : ∃ z, z = uR S (222) (Int32.toNatClampNeg (i2)) (i1) := ⟨_, rfl⟩
    rw [← eS]
    have h := h S2 eS
    exact h
  · have h := h.2 c
    refine q_gc rfl rfl ?_
    obtain ⟨hv3, h⟩ := h
    refine q_al (k := Int32.toNatClampNeg (i3)) rfl (by decide) hv3 rfl ?_
    refine q_gc rfl rfl ?_
    obtain ⟨hv4, h⟩ := h
    refine q_al (k := Int32.toNatClampNeg (i1)) rfl (by decide) hv4 rfl ?_
    refine ⟨fun c => ?_, fun c => ?_⟩
    · have h := h.1 c
      exact h
    · have h := h.2 c
      refine q_gc rfl rfl ?_
      refine q_al (k := Int32.toNatClampNeg (i3)) rfl (by decide) hv3 rfl ?_
      refine q_gc rfl rfl ?_
      refine q_al (k := Int32.toNatClampNeg (i1)) rfl (by decide) hv4 rfl ?_
      refine ⟨fun c => ?_, fun c => ?_⟩
      · have h := h.1 c
        exact h
      · have h := h.2 c
        refine ⟨fun c => ?_, fun c => ?_⟩
        · have h := h.1 c
          exact h
        · have h := h.2 c
          exact h

theorem zX12_fresh0_0 {d n : Nat} {S : gS} {P : gS → Prop}   (h : gG d mX12_fresh0 0 0 (g_Xv mX12_fresh0 n 0 0 (hPv P)) 2 n (hH S) [some (.ref (180)), some (.int ((0 : Int32)))] [] 0 0) : gG d mX12_fresh0 0 0 (g_Xv mX12_fresh0 n 0 0 (hPv P)) 0 n (hH S) [some (.ref (180)), none] [] 0 0 := by
  refine kX12_fresh0_0  ?_
  exact h
theorem zX12_fresh0_2 {d n : Nat} {S : gS} {P : gS → Prop} {i1 : Int32}  (h : ((59 : Int32) ≤ i1 → (∀ S1, S1 = uR S (216) (3) ((-1 : Int32)) → gG d mX12_fresh0 0 0 (g_Xv mX12_fresh0 n 0 0 (hPv P)) 30 n (hH S1) [some (.ref (180)), some (.int ((0 : Int32)))] [] 0 0)) ∧ (¬ ((59 : Int32) ≤ i1) → vp_in (i1) 59 ∧ (∀ S3, S3 = uR S (216) (Int32.toNatClampNeg (i1)) ((0 : Int32)) → gG d mX12_fresh0 0 0 (g_Xv mX12_fresh0 n 0 0 (hPv P)) 2 n (hH S3) [some (.ref (180)), some (.int ((i1 + 1)))] [] 0 0))) : gG d mX12_fresh0 0 0 (g_Xv mX12_fresh0 n 0 0 (hPv P)) 2 n (hH S) [some (.ref (180)), some (.int (i1))] [] 0 0 := by
  refine kX12_fresh0_2  ?_
  refine ⟨fun c => ?_, fun c => ?_⟩
  · have h := h.1 c
    refine q_gc rfl rfl ?_
    refine q_as (k := 3) rfl (by decide) (vp_l (by decide)) (by decide) ?_
    obtain ⟨S1, eS⟩ : ∃ z, z = uR S (216) (3) ((-1 : Int32)) := ⟨_, rfl⟩
    rw [← eS]
    have h := h S1 eS
    exact h
  · have h := h.2 c
    refine q_gc rfl rfl ?_
    obtain ⟨hv2, h⟩ := h
    refine q_as (k := Int32.toNatClampNeg (i1)) rfl (by decide) hv2 rfl ?_
    obtain ⟨S3, eS⟩ : ∃ z, z = uR S (216) (Int32.toNatClampNeg (i1)) ((0 : Int32)) := ⟨_, rfl⟩
    rw [← eS]
    have h := h S3 eS
    exact h
theorem zX12_fresh0_30 {d n : Nat} {S : gS} {P : gS → Prop} {i1 : Int32}  (h : (((sR S (182) (0)) ≤ i1 → P S) ∧ (¬ ((sR S (182) (0)) ≤ i1) → (vp_in (i1) 14 ∧ ((¬ ((sR S (185) (Int32.toNatClampNeg (i1))) = (3 : Int32)) → (∀ S2, S2 = uR S (216) (1) (((sR S (216) (1)) ||| (0 : Int32))) → gG d mX12_fresh0 0 0 (g_Xv mX12_fresh0 n 0 0 (hPv P)) 30 n (hH S2) [some (.ref (180)), some (.int ((i1 + 1)))] [] 0 0)) ∧ ((sR S (185) (Int32.toNatClampNeg (i1))) = (3 : Int32) → (∀ S3, S3 = uR S (216) (1) (((sR S (216) (1)) ||| ((1 : Int32) <<< (i1 &&& 31)))) → gG d mX12_fresh0 0 0 (g_Xv mX12_fresh0 n 0 0 (hPv P)) 30 n (hH S3) [some (.ref (180)), some (.int ((i1 + 1)))] [] 0 0))))))) : gG d mX12_fresh0 0 0 (g_Xv mX12_fresh0 n 0 0 (hPv P)) 30 n (hH S) [some (.ref (180)), some (.int (i1))] [] 0 0 := by
  refine kX12_fresh0_30  ?_
  refine q_gc rfl rfl ?_
  refine q_al (k := 0) rfl (by decide) (vp_l (by decide)) (by decide) ?_
  refine ⟨fun c => ?_, fun c => ?_⟩
  · have h := h.1 c
    exact ⟨_, rfl, h⟩
  · have h := h.2 c
    refine q_gc rfl rfl ?_
    refine q_al (k := 1) rfl (by decide) (vp_l (by decide)) (by decide) ?_
    refine q_gc rfl rfl ?_
    obtain ⟨hv1, h⟩ := h
    refine q_al (k := Int32.toNatClampNeg (i1)) rfl (by decide) hv1 rfl ?_
    refine ⟨fun c => ?_, fun c => ?_⟩
    · have h := h.1 c
      refine q_as (k := 1) rfl (by decide) (vp_l (by decide)) (by decide) ?_
      obtain ⟨S2, eS⟩ : ∃ z, z = uR S (216) (1) (((sR S (216) (1)) ||| (0 : Int32))) := ⟨_, rfl⟩
      rw [← eS]
      have h := h S2 eS
      exact h
    · have h := h.2 c
      refine q_as (k := 1) rfl (by decide) (vp_l (by decide)) (by decide) ?_
      obtain ⟨S3, eS⟩ : ∃ z, z = uR S (216) (1) (((sR S (216) (1)) ||| ((1 : Int32) <<< (i1 &&& 31)))) := ⟨_, rfl⟩
      rw [← eS]
      have h := h S3 eS
      exact h

theorem zX12_front_0 {d n : Nat} {S : gS} {P : gS → Int32 → Prop}   (h : ∀ S1, S1 = uI S (180) 0 ((0 : Int32)) → s_cz d mX12_readsAll n S1 [.ref (180)] (fun S2 b3 => (b3 = true → s_cv d mX12_lays n S2 [.ref (180)] (fun S4 => s_cv d mX12_laysOrder n S4 [.ref (180)] (fun S5 => s_cv d mX12_fresh0 n S5 [.ref (180)] (fun S6 => (∀ S7, S7 = uR S6 (207) (0) ((0 : Int32)) → (∀ S8, S8 = uR S7 (211) (0) ((0 : Int32)) → (∀ S9, S9 = uR S8 (213) (0) ((0 : Int32)) → ∀ S10, S10 = uI S9 (180) 53 ((0 : Int32)) → gG d mX12_front 0 0 (g_Xj mX12_front n 0 0 (hPi P)) 57 n (hH S10) [some (.ref (180)), some (.int ((0 : Int32)))] [] 0 0))))))) ∧ (b3 = false → P S2 ((sI S2 (180) 9))))) : gG d mX12_front 0 0 (g_Xj mX12_front n 0 0 (hPi P)) 0 n (hH S) [some (.ref (180)), none] [] 0 0 := by
  refine kX12_front_0  ?_
  refine q_pi rfl rfl ?_
  obtain ⟨S1, eS⟩ : ∃ z, z = uI S (180) 0 ((0 : Int32)) := ⟨_, rfl⟩
  rw [← eS]
  have h := h S1 eS
  refine ⟨q_rc rfl, ?_⟩
  obtain ⟨d2, P2, hdd, hC, h⟩ := h
  refine ⟨d2, _, hdd, hC, fun H9 b3 hp => ?_⟩
  obtain ⟨S2, rfl, hp⟩ := hp
  have h := h S2 b3 hp
  refine ⟨fun c => ?_, fun c => ?_⟩
  · have h := h.1 c
    refine ⟨q_rc rfl, ?_⟩
    obtain ⟨d2, P2, hdd, hC, h⟩ := h
    refine ⟨d2, _, hdd, hC, fun H9 hp => ?_⟩
    obtain ⟨S4, rfl, hp⟩ := hp
    have h := h S4 hp
    refine ⟨q_rc rfl, ?_⟩
    obtain ⟨d2, P2, hdd, hC, h⟩ := h
    refine ⟨d2, _, hdd, hC, fun H9 hp => ?_⟩
    obtain ⟨S5, rfl, hp⟩ := hp
    have h := h S5 hp
    refine ⟨q_rc rfl, ?_⟩
    obtain ⟨d2, P2, hdd, hC, h⟩ := h
    refine ⟨d2, _, hdd, hC, fun H9 hp => ?_⟩
    obtain ⟨S6, rfl, hp⟩ := hp
    have h := h S6 hp
    refine q_gc rfl rfl ?_
    refine q_as (k := 0) rfl (by decide) (vp_l (by decide)) (by decide) ?_
    obtain ⟨S7, eS⟩ : ∃ z, z = uR S6 (207) (0) ((0 : Int32)) := ⟨_, rfl⟩
    rw [← eS]
    have h := h S7 eS
    refine q_gc rfl rfl ?_
    refine q_as (k := 0) rfl (by decide) (vp_l (by decide)) (by decide) ?_
    obtain ⟨S8, eS⟩ : ∃ z, z = uR S7 (211) (0) ((0 : Int32)) := ⟨_, rfl⟩
    rw [← eS]
    have h := h S8 eS
    refine q_gc rfl rfl ?_
    refine q_as (k := 0) rfl (by decide) (vp_l (by decide)) (by decide) ?_
    obtain ⟨S9, eS⟩ : ∃ z, z = uR S8 (213) (0) ((0 : Int32)) := ⟨_, rfl⟩
    rw [← eS]
    have h := h S9 eS
    refine q_pi rfl rfl ?_
    obtain ⟨S10, eS⟩ : ∃ z, z = uI S9 (180) 53 ((0 : Int32)) := ⟨_, rfl⟩
    rw [← eS]
    have h := h S10 eS
    exact h
  · have h := h.2 c
    refine q_gi rfl rfl ?_
    exact ⟨_, rfl, h⟩
theorem zX12_front_57 {d n : Nat} {S : gS} {P : gS → Int32 → Prop} {i1 : Int32}  (h : ((4 : Int32) ≤ i1 → P S ((0 : Int32))) ∧ (¬ ((4 : Int32) ≤ i1) → vp_in (i1) 4 ∧ (∀ S2, S2 = uR S (221) (Int32.toNatClampNeg (i1)) (vp_nar .boolean ((0 : Int32))) → gG d mX12_front 0 0 (g_Xj mX12_front n 0 0 (hPi P)) 57 n (hH S2) [some (.ref (180)), some (.int ((i1 + 1)))] [] 0 0))) : gG d mX12_front 0 0 (g_Xj mX12_front n 0 0 (hPi P)) 57 n (hH S) [some (.ref (180)), some (.int (i1))] [] 0 0 := by
  refine kX12_front_57  ?_
  refine ⟨fun c => ?_, fun c => ?_⟩
  · have h := h.1 c
    exact ⟨_, rfl, h⟩
  · have h := h.2 c
    refine q_gc rfl rfl ?_
    obtain ⟨hv1, h⟩ := h
    refine q_as (k := Int32.toNatClampNeg (i1)) rfl (by decide) hv1 rfl ?_
    obtain ⟨S2, eS⟩ : ∃ z, z = uR S (221) (Int32.toNatClampNeg (i1)) (vp_nar .boolean ((0 : Int32))) := ⟨_, rfl⟩
    rw [← eS]
    have h := h S2 eS
    exact h

theorem zX12_day_0 {d n : Nat} {S : gS} {P : gS → Int32 → Prop}   (h : ∀ S1, S1 = uI S (180) 0 ((0 : Int32)) → (∀ S2, S2 = uR S1 (207) (5) ((0 : Int32)) → s_cv d mX12_begins n S2 [.ref (180)] (fun S3 => gG d mX12_day 0 0 (g_Xj mX12_day n 0 0 (hPi P)) 16 n (hH S3) [some (.ref (180))] [] 0 0))) : gG d mX12_day 0 0 (g_Xj mX12_day n 0 0 (hPi P)) 0 n (hH S) [some (.ref (180))] [] 0 0 := by
  refine kX12_day_0  ?_
  refine q_pi rfl rfl ?_
  obtain ⟨S1, eS⟩ : ∃ z, z = uI S (180) 0 ((0 : Int32)) := ⟨_, rfl⟩
  rw [← eS]
  have h := h S1 eS
  refine q_gc rfl rfl ?_
  refine q_as (k := 5) rfl (by decide) (vp_l (by decide)) (by decide) ?_
  obtain ⟨S2, eS⟩ : ∃ z, z = uR S1 (207) (5) ((0 : Int32)) := ⟨_, rfl⟩
  rw [← eS]
  have h := h S2 eS
  refine ⟨q_rc rfl, ?_⟩
  obtain ⟨d2, P2, hdd, hC, h⟩ := h
  refine ⟨d2, _, hdd, hC, fun H9 hp => ?_⟩
  obtain ⟨S3, rfl, hp⟩ := hp
  have h := h S3 hp
  exact h
theorem zX12_day_16 {d n : Nat} {S : gS} {P : gS → Int32 → Prop}   (h : ((sI S (180) 6) = 0 → s_cv d mX12_laysLines n S [.ref (180), .int ((5 : Int32)), .int ((0 : Int32))] (fun S1 => P S1 ((0 : Int32)))) ∧ (¬ ((sI S (180) 6) = 0) → s_cz d mX12_readsLine n S [.ref (180)] (fun S2 b3 => (b3 = true → gG d mX12_day 0 0 (g_Xj mX12_day n 0 0 (hPi P)) 16 n (hH S2) [some (.ref (180))] [] 0 0) ∧ (b3 = false → P S2 ((sI S2 (180) 9)))))) : gG d mX12_day 0 0 (g_Xj mX12_day n 0 0 (hPi P)) 16 n (hH S) [some (.ref (180))] [] 0 0 := by
  refine kX12_day_16  ?_
  refine q_gi rfl rfl ?_
  refine ⟨fun c => ?_, fun c => ?_⟩
  · have h := h.1 c
    refine ⟨q_rc rfl, ?_⟩
    obtain ⟨d2, P2, hdd, hC, h⟩ := h
    refine ⟨d2, _, hdd, hC, fun H9 hp => ?_⟩
    obtain ⟨S1, rfl, hp⟩ := hp
    have h := h S1 hp
    exact ⟨_, rfl, h⟩
  · have h := h.2 c
    refine ⟨q_rc rfl, ?_⟩
    obtain ⟨d2, P2, hdd, hC, h⟩ := h
    refine ⟨d2, _, hdd, hC, fun H9 b3 hp => ?_⟩
    obtain ⟨S2, rfl, hp⟩ := hp
    have h := h S2 b3 hp
    refine ⟨fun c => ?_, fun c => ?_⟩
    · have h := h.1 c
      exact h
    · have h := h.2 c
      refine q_gi rfl rfl ?_
      exact ⟨_, rfl, h⟩

theorem zX12_readsWord_0 {d n : Nat} {S : gS} {P : gS → Bool → Prop}   (h : (((sR S (211) (5)) = 0 → gG d mX12_readsWord 0 0 (g_Xz mX12_readsWord n 0 0 (hPz P)) 16 n (hH S) [some (.ref (180)), none] [] 0 0) ∧ (¬ ((sR S (211) (5)) = 0) → ((sI S (180) 6) = 0 → P S true) ∧ (¬ ((sI S (180) 6) = 0) → gG d mX12_readsWord 0 0 (g_Xz mX12_readsWord n 0 0 (hPz P)) 16 n (hH S) [some (.ref (180)), none] [] 0 0)))) : gG d mX12_readsWord 0 0 (g_Xz mX12_readsWord n 0 0 (hPz P)) 0 n (hH S) [some (.ref (180)), none] [] 0 0 := by
  refine kX12_readsWord_0  ?_
  refine q_gc rfl rfl ?_
  refine q_al (k := 5) rfl (by decide) (vp_l (by decide)) (by decide) ?_
  refine ⟨fun c => ?_, fun c => ?_⟩
  · have h := h.1 c
    exact h
  · have h := h.2 c
    refine q_gi rfl rfl ?_
    refine ⟨fun c => ?_, fun c => ?_⟩
    · have h := h.1 c
      exact ⟨_, rfl, h⟩
    · have h := h.2 c
      exact h
theorem zX12_readsWord_16 {d n : Nat} {S : gS} {P : gS → Bool → Prop}   (h : s_cz d mX12_isKept n S [.ref (180)] (fun S1 b2 => (b2 = false → s_ci d mX12_letterNamed n S1 [.ref (180), .int ((0 : Int32))] (fun S3 x4 => (0 ≤ x4 → ((¬ ((sR S3 (211) (5)) = (7 : Int32)) → (vp_in (((35 : Int32) + (sR S3 (211) (5)))) 42 ∧ (∀ S6, S6 = uR S3 (212) (Int32.toNatClampNeg (((35 : Int32) + (sR S3 (211) (5))))) (x4) → ((∀ S7, S7 = uR S6 (211) (5) (((sR S6 (211) (5)) + (1 : Int32))) → s_cv d mX12_nextToken n S7 [.ref (180)] (fun S8 => gG d mX12_readsWord 0 0 (g_Xz mX12_readsWord n 0 0 (hPz P)) 0 n (hH S8) [some (.ref (180)), none] [] 0 0)))))) ∧ ((sR S3 (211) (5)) = (7 : Int32) → s_cz d mX12_fails n S3 [.ref (180), .int ((5 : Int32))] (fun S9 b10 => P S9 b10)))) ∧ (¬ (0 ≤ x4) → s_cz d mX12_fails n S3 [.ref (180), .int ((2 : Int32))] (fun S11 b12 => P S11 b12)))) ∧ (b2 = true → s_cz d mX12_fails n S1 [.ref (180), .int ((1 : Int32))] (fun S13 b14 => P S13 b14)))) : gG d mX12_readsWord 0 0 (g_Xz mX12_readsWord n 0 0 (hPz P)) 16 n (hH S) [some (.ref (180)), none] [] 0 0 := by
  refine kX12_readsWord_16  ?_
  refine ⟨q_rc rfl, ?_⟩
  obtain ⟨d2, P2, hdd, hC, h⟩ := h
  refine ⟨d2, _, hdd, hC, fun H9 b2 hp => ?_⟩
  obtain ⟨S1, rfl, hp⟩ := hp
  have h := h S1 b2 hp
  refine ⟨fun c => ?_, fun c => ?_⟩
  · have h := h.1 c
    refine ⟨q_rc rfl, ?_⟩
    obtain ⟨d2, P2, hdd, hC, h⟩ := h
    refine ⟨d2, _, hdd, hC, fun H9 x4 hp => ?_⟩
    obtain ⟨S3, rfl, hp⟩ := hp
    have h := h S3 x4 hp
    refine ⟨fun c => ?_, fun c => ?_⟩
    · have h := h.1 c
      refine q_gc rfl rfl ?_
      refine q_al (k := 5) rfl (by decide) (vp_l (by decide)) (by decide) ?_
      refine ⟨fun c => ?_, fun c => ?_⟩
      · have h := h.1 c
        refine q_gc rfl rfl ?_
        refine q_gc rfl rfl ?_
        refine q_al (k := 5) rfl (by decide) (vp_l (by decide)) (by decide) ?_
        obtain ⟨hv5, h⟩ := h
        refine q_as (k := Int32.toNatClampNeg (((35 : Int32) + (sR S3 (211) (5))))) rfl (by decide) hv5 rfl ?_
        obtain ⟨S6, eS⟩ : ∃ z, z = uR S3 (212) (Int32.toNatClampNeg (((35 : Int32) + (sR S3 (211) (5))))) (x4) := ⟨_, rfl⟩
        rw [← eS]
        have h := h S6 eS
        refine q_gc rfl rfl ?_
        refine q_al (k := 5) rfl (by decide) (vp_l (by decide)) (by decide) ?_
        refine q_as (k := 5) rfl (by decide) (vp_l (by decide)) (by decide) ?_
        obtain ⟨S7, eS⟩ : ∃ z, z = uR S6 (211) (5) (((sR S6 (211) (5)) + (1 : Int32))) := ⟨_, rfl⟩
        rw [← eS]
        have h := h S7 eS
        refine ⟨q_rc rfl, ?_⟩
        obtain ⟨d2, P2, hdd, hC, h⟩ := h
        refine ⟨d2, _, hdd, hC, fun H9 hp => ?_⟩
        obtain ⟨S8, rfl, hp⟩ := hp
        have h := h S8 hp
        exact h
      · have h := h.2 c
        refine ⟨q_rc rfl, ?_⟩
        obtain ⟨d2, P2, hdd, hC, h⟩ := h
        refine ⟨d2, _, hdd, hC, fun H9 b10 hp => ?_⟩
        obtain ⟨S9, rfl, hp⟩ := hp
        have h := h S9 b10 hp
        exact ⟨_, rfl, h⟩
    · have h := h.2 c
      refine ⟨q_rc rfl, ?_⟩
      obtain ⟨d2, P2, hdd, hC, h⟩ := h
      refine ⟨d2, _, hdd, hC, fun H9 b12 hp => ?_⟩
      obtain ⟨S11, rfl, hp⟩ := hp
      have h := h S11 b12 hp
      exact ⟨_, rfl, h⟩
  · have h := h.2 c
    refine ⟨q_rc rfl, ?_⟩
    obtain ⟨d2, P2, hdd, hC, h⟩ := h
    refine ⟨d2, _, hdd, hC, fun H9 b14 hp => ?_⟩
    obtain ⟨S13, rfl, hp⟩ := hp
    have h := h S13 b14 hp
    exact ⟨_, rfl, h⟩

theorem zX12_word_0 {d n : Nat} {S : gS} {P : gS → Int32 → Prop}   (h : ∀ S1, S1 = uI S (180) 0 ((0 : Int32)) → (∀ S2, S2 = uR S1 (211) (5) ((0 : Int32)) → s_cv d mX12_begins n S2 [.ref (180)] (fun S3 => s_cz d mX12_readsWord n S3 [.ref (180)] (fun S4 b5 => (b5 = true → s_cv d mX12_laysWord n S4 [.ref (180), .int ((5 : Int32)), .int ((0 : Int32))] (fun S6 => P S6 ((0 : Int32)))) ∧ (b5 = false → P S4 ((sI S4 (180) 9))))))) : gG d mX12_word 0 0 (g_Xj mX12_word n 0 0 (hPi P)) 0 n (hH S) [some (.ref (180))] [] 0 0 := by
  refine kX12_word_0  ?_
  refine q_pi rfl rfl ?_
  obtain ⟨S1, eS⟩ : ∃ z, z = uI S (180) 0 ((0 : Int32)) := ⟨_, rfl⟩
  rw [← eS]
  have h := h S1 eS
  refine q_gc rfl rfl ?_
  refine q_as (k := 5) rfl (by decide) (vp_l (by decide)) (by decide) ?_
  obtain ⟨S2, eS⟩ : ∃ z, z = uR S1 (211) (5) ((0 : Int32)) := ⟨_, rfl⟩
  rw [← eS]
  have h := h S2 eS
  refine ⟨q_rc rfl, ?_⟩
  obtain ⟨d2, P2, hdd, hC, h⟩ := h
  refine ⟨d2, _, hdd, hC, fun H9 hp => ?_⟩
  obtain ⟨S3, rfl, hp⟩ := hp
  have h := h S3 hp
  refine ⟨q_rc rfl, ?_⟩
  obtain ⟨d2, P2, hdd, hC, h⟩ := h
  refine ⟨d2, _, hdd, hC, fun H9 b5 hp => ?_⟩
  obtain ⟨S4, rfl, hp⟩ := hp
  have h := h S4 b5 hp
  refine ⟨fun c => ?_, fun c => ?_⟩
  · have h := h.1 c
    refine ⟨q_rc rfl, ?_⟩
    obtain ⟨d2, P2, hdd, hC, h⟩ := h
    refine ⟨d2, _, hdd, hC, fun H9 hp => ?_⟩
    obtain ⟨S6, rfl, hp⟩ := hp
    have h := h S6 hp
    exact ⟨_, rfl, h⟩
  · have h := h.2 c
    refine q_gi rfl rfl ?_
    exact ⟨_, rfl, h⟩

theorem zX12_isMouth_0 {d n : Nat} {S : gS} {P : gS → Bool → Prop} {i1 : Int32}  (h : (i1 < 0 → P S false) ∧ (¬ (i1 < 0) → (((sR S (182) (0)) ≤ i1 → P S false) ∧ (¬ ((sR S (182) (0)) ≤ i1) → P S true)))) : gG d mX12_isMouth 0 0 (g_Xz mX12_isMouth n 0 0 (hPz P)) 0 n (hH S) [some (.ref (180)), some (.int (i1))] [] 0 0 := by
  refine kX12_isMouth_0  ?_
  refine ⟨fun c => ?_, fun c => ?_⟩
  · have h := h.1 c
    exact ⟨_, rfl, h⟩
  · have h := h.2 c
    refine q_gc rfl rfl ?_
    refine q_al (k := 0) rfl (by decide) (vp_l (by decide)) (by decide) ?_
    refine ⟨fun c => ?_, fun c => ?_⟩
    · have h := h.1 c
      exact ⟨_, rfl, h⟩
    · have h := h.2 c
      exact ⟨_, rfl, h⟩

theorem zX12_isLetter0_0 {d n : Nat} {S : gS} {P : gS → Bool → Prop} {i1 : Int32}  (h : (i1 < 0 → P S false) ∧ (¬ (i1 < 0) → (((sR S (182) (1)) ≤ i1 → P S false) ∧ (¬ ((sR S (182) (1)) ≤ i1) → P S true)))) : gG d mX12_isLetter0 0 0 (g_Xz mX12_isLetter0 n 0 0 (hPz P)) 0 n (hH S) [some (.ref (180)), some (.int (i1))] [] 0 0 := by
  refine kX12_isLetter0_0  ?_
  refine ⟨fun c => ?_, fun c => ?_⟩
  · have h := h.1 c
    exact ⟨_, rfl, h⟩
  · have h := h.2 c
    refine q_gc rfl rfl ?_
    refine q_al (k := 1) rfl (by decide) (vp_l (by decide)) (by decide) ?_
    refine ⟨fun c => ?_, fun c => ?_⟩
    · have h := h.1 c
      exact ⟨_, rfl, h⟩
    · have h := h.2 c
      exact ⟨_, rfl, h⟩

theorem zX12_isStopped_0 {d n : Nat} {S : gS} {P : gS → Bool → Prop} {i1 : Int32}  (h : ((¬ ((((sR S (216) (1)) >>> (i1 &&& 31)) &&& (1 : Int32)) = (1 : Int32)) → P S false) ∧ ((((sR S (216) (1)) >>> (i1 &&& 31)) &&& (1 : Int32)) = (1 : Int32) → P S true))) : gG d mX12_isStopped 0 0 (g_Xz mX12_isStopped n 0 0 (hPz P)) 0 n (hH S) [some (.ref (180)), some (.int (i1))] [] 0 0 := by
  refine kX12_isStopped_0  ?_
  refine q_gc rfl rfl ?_
  refine q_al (k := 1) rfl (by decide) (vp_l (by decide)) (by decide) ?_
  refine ⟨fun c => ?_, fun c => ?_⟩
  · have h := h.1 c
    exact ⟨_, rfl, h⟩
  · have h := h.2 c
    exact ⟨_, rfl, h⟩

theorem zX12_every_0 {d n : Nat} {S : gS} {P : gS → Int32 → Prop}   (h : (P S ((((1 : Int32) <<< ((sR S (182) (0)) &&& 31)) - (1 : Int32))))) : gG d mX12_every 0 0 (g_Xj mX12_every n 0 0 (hPi P)) 0 n (hH S) [some (.ref (180))] [] 0 0 := by
  refine kX12_every_0  ?_
  refine q_gc rfl rfl ?_
  refine q_al (k := 0) rfl (by decide) (vp_l (by decide)) (by decide) ?_
  exact ⟨_, rfl, h⟩

theorem zX12_rainOf_0 {d n : Nat} {S : gS} {P : gS → Int32 → Prop} {i1 : Int32}  (h : ((¬ ((sR S (182) (2)) = 0) → (¬ ((sR S (182) (2)) = 0) ∧ (vp_in ((i1 - i1 / (sR S (182) (2)) * (sR S (182) (2)))) 24 ∧ (P S ((sR S (191) (Int32.toNatClampNeg ((i1 - i1 / (sR S (182) (2)) * (sR S (182) (2))))))))))) ∧ ((sR S (182) (2)) = 0 → P S ((0 : Int32))))) : gG d mX12_rainOf 0 0 (g_Xj mX12_rainOf n 0 0 (hPi P)) 0 n (hH S) [some (.ref (180)), some (.int (i1))] [] 0 0 := by
  refine kX12_rainOf_0  ?_
  refine q_gc rfl rfl ?_
  refine q_al (k := 2) rfl (by decide) (vp_l (by decide)) (by decide) ?_
  refine ⟨fun c => ?_, fun c => ?_⟩
  · have h := h.1 c
    refine q_gc rfl rfl ?_
    refine q_gc rfl rfl ?_
    refine q_al (k := 2) rfl (by decide) (vp_l (by decide)) (by decide) ?_
    refine ⟨h.1, ?_⟩
    have h := h.2
    obtain ⟨hv1, h⟩ := h
    refine q_al (k := Int32.toNatClampNeg ((i1 - i1 / (sR S (182) (2)) * (sR S (182) (2))))) rfl (by decide) hv1 rfl ?_
    exact ⟨_, rfl, h⟩
  · have h := h.2 c
    exact ⟨_, rfl, h⟩

theorem zX12_spoutOf_0 {d n : Nat} {S : gS} {P : gS → Int32 → Prop} {i1 : Int32}  (hd1 : 1 ≤ d) (h : s_cz d mX12_isStopped n S [.ref (180), .int (i1)] (fun S1 b2 => (b2 = false → vp_in (((5 : Int32) + i1)) 59 ∧ (vp_in (i1) 14 ∧ ((¬ ((sR S1 (185) (Int32.toNatClampNeg (i1))) = (1 : Int32)) → ((¬ ((sR S1 (185) (Int32.toNatClampNeg (i1))) = (2 : Int32)) → P S1 ((if (3 : Int32) < (sR S1 (216) (Int32.toNatClampNeg (((5 : Int32) + i1)))) then (3 : Int32) else (sR S1 (216) (Int32.toNatClampNeg (((5 : Int32) + i1))))))) ∧ ((sR S1 (185) (Int32.toNatClampNeg (i1))) = (2 : Int32) → P S1 ((if (1 : Int32) < (sR S1 (216) (Int32.toNatClampNeg (((5 : Int32) + i1)))) then (1 : Int32) else (sR S1 (216) (Int32.toNatClampNeg (((5 : Int32) + i1))))))))) ∧ ((sR S1 (185) (Int32.toNatClampNeg (i1))) = (1 : Int32) → P S1 ((if (6 : Int32) < (sR S1 (216) (Int32.toNatClampNeg (((5 : Int32) + i1)))) then (6 : Int32) else (sR S1 (216) (Int32.toNatClampNeg (((5 : Int32) + i1)))))))))) ∧ (b2 = true → P S1 ((0 : Int32))))) : gG d mX12_spoutOf 0 0 (g_Xj mX12_spoutOf n 0 0 (hPi P)) 0 n (hH S) [some (.ref (180)), some (.int (i1))] [] 0 0 := by
  refine kX12_spoutOf_0 hd1 ?_
  refine ⟨q_rc rfl, ?_⟩
  obtain ⟨d2, P2, hdd, hC, h⟩ := h
  refine ⟨d2, _, hdd, hC, fun H9 b2 hp => ?_⟩
  obtain ⟨S1, rfl, hp⟩ := hp
  have h := h S1 b2 hp
  refine ⟨fun c => ?_, fun c => ?_⟩
  · have h := h.1 c
    refine q_gc rfl rfl ?_
    obtain ⟨hv3, h⟩ := h
    refine q_al (k := Int32.toNatClampNeg (((5 : Int32) + i1))) rfl (by decide) hv3 rfl ?_
    refine q_gc rfl rfl ?_
    obtain ⟨hv4, h⟩ := h
    refine q_al (k := Int32.toNatClampNeg (i1)) rfl (by decide) hv4 rfl ?_
    refine ⟨fun c => ?_, fun c => ?_⟩
    · have h := h.1 c
      refine q_gc rfl rfl ?_
      refine q_al (k := Int32.toNatClampNeg (i1)) rfl (by decide) hv4 rfl ?_
      refine ⟨fun c => ?_, fun c => ?_⟩
      · have h := h.1 c
        exact ⟨_, rfl, h⟩
      · have h := h.2 c
        exact ⟨_, rfl, h⟩
    · have h := h.2 c
      exact ⟨_, rfl, h⟩
  · have h := h.2 c
    exact ⟨_, rfl, h⟩

theorem zX12_isSounding_0 {d n : Nat} {S : gS} {P : gS → Bool → Prop} {i1 : Int32} {i2 : Int32}  (h : (((¬ ((sR S (193) (0)) = (sR S (192) (0))) → vp_in (((12 : Int32) + i1)) 59 ∧ ((∀ S2, S2 = uR S (206) (1) ((sR S (216) (Int32.toNatClampNeg (((12 : Int32) + i1))))) → vp_in (((5 : Int32) + i1)) 59 ∧ ((∀ S4, S4 = uR S2 (206) (2) ((sR S2 (216) (Int32.toNatClampNeg (((5 : Int32) + i1))))) → vp_in (i1) 14 ∧ ((∀ S6, S6 = uR S4 (206) (3) ((sR S4 (186) (Int32.toNatClampNeg (i1)))) → (∀ S7, S7 = uR S6 (206) (4) (i2) → s_ci d mX12_worked n S7 [.ref (180), .int ((0 : Int32))] (fun S8 x9 => (x9 = 0 → P S8 false) ∧ (¬ (x9 = 0) → P S8 true)))))))))) ∧ ((sR S (193) (0)) = (sR S (192) (0)) → vp_in (((12 : Int32) + i1)) 59 ∧ (((sR S (216) (Int32.toNatClampNeg (((12 : Int32) + i1)))) = 0 → P S false) ∧ (¬ ((sR S (216) (Int32.toNatClampNeg (((12 : Int32) + i1)))) = 0) → P S true)))))) : gG d mX12_isSounding 0 0 (g_Xz mX12_isSounding n 0 0 (hPz P)) 0 n (hH S) [some (.ref (180)), some (.int (i1)), some (.int (i2))] [] 0 0 := by
  refine kX12_isSounding_0  ?_
  refine q_gc rfl rfl ?_
  refine q_al (k := 0) rfl (by decide) (vp_l (by decide)) (by decide) ?_
  refine q_gc rfl rfl ?_
  refine q_al (k := 0) rfl (by decide) (vp_l (by decide)) (by decide) ?_
  refine ⟨fun c => ?_, fun c => ?_⟩
  · have h := h.1 c
    refine q_gc rfl rfl ?_
    refine q_gc rfl rfl ?_
    obtain ⟨hv1, h⟩ := h
    refine q_al (k := Int32.toNatClampNeg (((12 : Int32) + i1))) rfl (by decide) hv1 rfl ?_
    refine q_as (k := 1) rfl (by decide) (vp_l (by decide)) (by decide) ?_
    obtain ⟨S2, eS⟩ : ∃ z, z = uR S (206) (1) ((sR S (216) (Int32.toNatClampNeg (((12 : Int32) + i1))))) := ⟨_, rfl⟩
    rw [← eS]
    have h := h S2 eS
    refine q_gc rfl rfl ?_
    refine q_gc rfl rfl ?_
    obtain ⟨hv3, h⟩ := h
    refine q_al (k := Int32.toNatClampNeg (((5 : Int32) + i1))) rfl (by decide) hv3 rfl ?_
    refine q_as (k := 2) rfl (by decide) (vp_l (by decide)) (by decide) ?_
    obtain ⟨S4, eS⟩ : ∃ z, z = uR S2 (206) (2) ((sR S2 (216) (Int32.toNatClampNeg (((5 : Int32) + i1))))) := ⟨_, rfl⟩
    rw [← eS]
    have h := h S4 eS
    refine q_gc rfl rfl ?_
    refine q_gc rfl rfl ?_
    obtain ⟨hv5, h⟩ := h
    refine q_al (k := Int32.toNatClampNeg (i1)) rfl (by decide) hv5 rfl ?_
    refine q_as (k := 3) rfl (by decide) (vp_l (by decide)) (by decide) ?_
    obtain ⟨S6, eS⟩ : ∃ z, z = uR S4 (206) (3) ((sR S4 (186) (Int32.toNatClampNeg (i1)))) := ⟨_, rfl⟩
    rw [← eS]
    have h := h S6 eS
    refine q_gc rfl rfl ?_
    refine q_as (k := 4) rfl (by decide) (vp_l (by decide)) (by decide) ?_
    obtain ⟨S7, eS⟩ : ∃ z, z = uR S6 (206) (4) (i2) := ⟨_, rfl⟩
    rw [← eS]
    have h := h S7 eS
    refine ⟨q_rc rfl, ?_⟩
    obtain ⟨d2, P2, hdd, hC, h⟩ := h
    refine ⟨d2, _, hdd, hC, fun H9 x9 hp => ?_⟩
    obtain ⟨S8, rfl, hp⟩ := hp
    have h := h S8 x9 hp
    refine ⟨fun c => ?_, fun c => ?_⟩
    · have h := h.1 c
      exact ⟨_, rfl, h⟩
    · have h := h.2 c
      exact ⟨_, rfl, h⟩
  · have h := h.2 c
    refine q_gc rfl rfl ?_
    obtain ⟨hv10, h⟩ := h
    refine q_al (k := Int32.toNatClampNeg (((12 : Int32) + i1))) rfl (by decide) hv10 rfl ?_
    refine ⟨fun c => ?_, fun c => ?_⟩
    · have h := h.1 c
      exact ⟨_, rfl, h⟩
    · have h := h.2 c
      exact ⟨_, rfl, h⟩

theorem zX12_runsOver_0 {d n : Nat} {S : gS} {P : gS → Prop} {i1 : Int32}  (h : vp_in (((5 : Int32) + i1)) 59 ∧ (vp_in (i1) 14 ∧ (((1 : Int32) ≤ ((sR S (216) (Int32.toNatClampNeg (((5 : Int32) + i1)))) - (sR S (188) (Int32.toNatClampNeg (i1)))) → ∀ S3, S3 = uI S (180) 56 (((sI S (180) 56) ||| ((1 : Int32) <<< (i1 &&& 31)))) → ((∀ S4, S4 = uR S3 (216) (Int32.toNatClampNeg (((5 : Int32) + i1))) ((sR S3 (188) (Int32.toNatClampNeg (i1)))) → ((0 ≤ (sR S4 (189) (Int32.toNatClampNeg (i1))) → (vp_in (((5 : Int32) + (sR S4 (189) (Int32.toNatClampNeg (i1))))) 59 ∧ ((∀ S6, S6 = uR S4 (216) (Int32.toNatClampNeg (((5 : Int32) + (sR S4 (189) (Int32.toNatClampNeg (i1)))))) (((sR S4 (216) (Int32.toNatClampNeg (((5 : Int32) + (sR S4 (189) (Int32.toNatClampNeg (i1))))))) + ((sR S (216) (Int32.toNatClampNeg (((5 : Int32) + i1)))) - (sR S (188) (Int32.toNatClampNeg (i1)))))) → P S6)))) ∧ (¬ (0 ≤ (sR S4 (189) (Int32.toNatClampNeg (i1)))) → ∀ S7, S7 = uI S4 (180) 55 (((sI S4 (180) 55) + ((sR S (216) (Int32.toNatClampNeg (((5 : Int32) + i1)))) - (sR S (188) (Int32.toNatClampNeg (i1)))))) → P S7))))) ∧ (¬ ((1 : Int32) ≤ ((sR S (216) (Int32.toNatClampNeg (((5 : Int32) + i1)))) - (sR S (188) (Int32.toNatClampNeg (i1))))) → P S)))) : gG d mX12_runsOver 0 0 (g_Xv mX12_runsOver n 0 0 (hPv P)) 0 n (hH S) [some (.ref (180)), some (.int (i1)), none] [] 0 0 := by
  refine kX12_runsOver_0  ?_
  refine q_gc rfl rfl ?_
  obtain ⟨hv1, h⟩ := h
  refine q_al (k := Int32.toNatClampNeg (((5 : Int32) + i1))) rfl (by decide) hv1 rfl ?_
  refine q_gc rfl rfl ?_
  obtain ⟨hv2, h⟩ := h
  refine q_al (k := Int32.toNatClampNeg (i1)) rfl (by decide) hv2 rfl ?_
  refine ⟨fun c => ?_, fun c => ?_⟩
  · have h := h.1 c
    refine q_gi rfl rfl ?_
    refine q_pi rfl rfl ?_
    obtain ⟨S3, eS⟩ : ∃ z, z = uI S (180) 56 (((sI S (180) 56) ||| ((1 : Int32) <<< (i1 &&& 31)))) := ⟨_, rfl⟩
    rw [← eS]
    have h := h S3 eS
    refine q_gc rfl rfl ?_
    refine q_gc rfl rfl ?_
    refine q_al (k := Int32.toNatClampNeg (i1)) rfl (by decide) hv2 rfl ?_
    refine q_as (k := Int32.toNatClampNeg (((5 : Int32) + i1))) rfl (by decide) hv1 rfl ?_
    obtain ⟨S4, eS⟩ : ∃ z, z = uR S3 (216) (Int32.toNatClampNeg (((5 : Int32) + i1))) ((sR S3 (188) (Int32.toNatClampNeg (i1)))) := ⟨_, rfl⟩
    rw [← eS]
    have h := h S4 eS
    refine q_gc rfl rfl ?_
    refine q_al (k := Int32.toNatClampNeg (i1)) rfl (by decide) hv2 rfl ?_
    refine ⟨fun c => ?_, fun c => ?_⟩
    · have h := h.1 c
      refine q_gc rfl rfl ?_
      refine q_gc rfl rfl ?_
      refine q_al (k := Int32.toNatClampNeg (i1)) rfl (by decide) hv2 rfl ?_
      obtain ⟨hv5, h⟩ := h
      refine q_al (k := Int32.toNatClampNeg (((5 : Int32) + (sR S4 (189) (Int32.toNatClampNeg (i1)))))) rfl (by decide) hv5 rfl ?_
      refine q_as (k := Int32.toNatClampNeg (((5 : Int32) + (sR S4 (189) (Int32.toNatClampNeg (i1)))))) rfl (by decide) hv5 rfl ?_
      obtain ⟨S6, eS⟩ : ∃ z, z = uR S4 (216) (Int32.toNatClampNeg (((5 : Int32) + (sR S4 (189) (Int32.toNatClampNeg (i1)))))) (((sR S4 (216) (Int32.toNatClampNeg (((5 : Int32) + (sR S4 (189) (Int32.toNatClampNeg (i1))))))) + ((sR S (216) (Int32.toNatClampNeg (((5 : Int32) + i1)))) - (sR S (188) (Int32.toNatClampNeg (i1)))))) := ⟨_, rfl⟩
      rw [← eS]
      have h := h S6 eS
      exact ⟨_, rfl, h⟩
    · have h := h.2 c
      refine q_gi rfl rfl ?_
      refine q_pi rfl rfl ?_
      obtain ⟨S7, eS⟩ : ∃ z, z = uI S4 (180) 55 (((sI S4 (180) 55) + ((sR S (216) (Int32.toNatClampNeg (((5 : Int32) + i1)))) - (sR S (188) (Int32.toNatClampNeg (i1)))))) := ⟨_, rfl⟩
      rw [← eS]
      have h := h S7 eS
      exact ⟨_, rfl, h⟩
  · have h := h.2 c
    exact ⟨_, rfl, h⟩

theorem zX12_readBy_0 {d n : Nat} {S : gS} {P : gS → Int32 → Prop} {i1 : Int32}  (h : (¬ (i1 = 0) → gG d mX12_readBy 0 0 (g_Xj mX12_readBy n 0 0 (hPi P)) 8 n (hH S) [some (.ref (180)), some (.int (i1)), some (.int ((0 : Int32)))] [] 0 0) ∧ (i1 = 0 → P S ((-1 : Int32)))) : gG d mX12_readBy 0 0 (g_Xj mX12_readBy n 0 0 (hPi P)) 0 n (hH S) [some (.ref (180)), some (.int (i1)), none] [] 0 0 := by
  refine kX12_readBy_0  ?_
  refine ⟨fun c => ?_, fun c => ?_⟩
  · have h := h.1 c
    exact h
  · have h := h.2 c
    exact ⟨_, rfl, h⟩
theorem zX12_readBy_8 {d n : Nat} {S : gS} {P : gS → Int32 → Prop} {i1 : Int32} {i2 : Int32}  (h : (((sR S (182) (1)) ≤ i2 → P S ((6 : Int32))) ∧ (¬ ((sR S (182) (1)) ≤ i2) → vp_in (i2) 12 ∧ ((¬ ((sR S (190) (Int32.toNatClampNeg (i2))) = i1) → gG d mX12_readBy 0 0 (g_Xj mX12_readBy n 0 0 (hPi P)) 8 n (hH S) [some (.ref (180)), some (.int (i1)), some (.int ((i2 + 1)))] [] 0 0) ∧ ((sR S (190) (Int32.toNatClampNeg (i2))) = i1 → P S (i2)))))) : gG d mX12_readBy 0 0 (g_Xj mX12_readBy n 0 0 (hPi P)) 8 n (hH S) [some (.ref (180)), some (.int (i1)), some (.int (i2))] [] 0 0 := by
  refine kX12_readBy_8  ?_
  refine q_gc rfl rfl ?_
  refine q_al (k := 1) rfl (by decide) (vp_l (by decide)) (by decide) ?_
  refine ⟨fun c => ?_, fun c => ?_⟩
  · have h := h.1 c
    exact ⟨_, rfl, h⟩
  · have h := h.2 c
    refine q_gc rfl rfl ?_
    obtain ⟨hv1, h⟩ := h
    refine q_al (k := Int32.toNatClampNeg (i2)) rfl (by decide) hv1 rfl ?_
    refine ⟨fun c => ?_, fun c => ?_⟩
    · have h := h.1 c
      exact h
    · have h := h.2 c
      exact ⟨_, rfl, h⟩

theorem zX12_passes_0 {d n : Nat} {S : gS} {P : gS → Int32 → Prop} {i1 : Int32}  (h : ∀ S1, S1 = uI S (180) 55 ((0 : Int32)) → ∀ S2, S2 = uI S1 (180) 56 ((0 : Int32)) → gG d mX12_passes 0 0 (g_Xj mX12_passes n 0 0 (hPi P)) 14 n (hH S2) [some (.ref (180)), some (.int (i1)), some (.int ((0 : Int32))), some (.int ((0 : Int32))), none] [] 0 0) : gG d mX12_passes 0 0 (g_Xj mX12_passes n 0 0 (hPi P)) 0 n (hH S) [some (.ref (180)), some (.int (i1)), none, none, none] [] 0 0 := by
  refine kX12_passes_0  ?_
  refine q_pi rfl rfl ?_
  obtain ⟨S1, eS⟩ : ∃ z, z = uI S (180) 55 ((0 : Int32)) := ⟨_, rfl⟩
  rw [← eS]
  have h := h S1 eS
  refine q_pi rfl rfl ?_
  obtain ⟨S2, eS⟩ : ∃ z, z = uI S1 (180) 56 ((0 : Int32)) := ⟨_, rfl⟩
  rw [← eS]
  have h := h S2 eS
  exact h
theorem zX12_passes_14 {d n : Nat} {S : gS} {P : gS → Int32 → Prop} {i1 : Int32} {i2 : Int32} {i3 : Int32}  (h : (((sR S (182) (0)) ≤ i3 → gG d mX12_passes 0 0 (g_Xj mX12_passes n 0 0 (hPi P)) 51 n (hH S) [some (.ref (180)), some (.int (i1)), some (.int (i2)), some (.int ((0 : Int32))), none] [] 0 0) ∧ (¬ ((sR S (182) (0)) ≤ i3) → vp_in (((5 : Int32) + i3)) 59 ∧ (vp_in (i3) 14 ∧ ((∀ S3, S3 = uR S (216) (Int32.toNatClampNeg (((5 : Int32) + i3))) (((sR S (216) (Int32.toNatClampNeg (((5 : Int32) + i3)))) + (i1 * (sR S (187) (Int32.toNatClampNeg (i3)))))) → gG d mX12_passes 0 0 (g_Xj mX12_passes n 0 0 (hPi P)) 14 n (hH S3) [some (.ref (180)), some (.int (i1)), some (.int (i2)), some (.int ((i3 + 1))), none] [] 0 0)))))) : gG d mX12_passes 0 0 (g_Xj mX12_passes n 0 0 (hPi P)) 14 n (hH S) [some (.ref (180)), some (.int (i1)), some (.int (i2)), some (.int (i3)), none] [] 0 0 := by
  refine kX12_passes_14  ?_
  refine q_gc rfl rfl ?_
  refine q_al (k := 0) rfl (by decide) (vp_l (by decide)) (by decide) ?_
  refine ⟨fun c => ?_, fun c => ?_⟩
  · have h := h.1 c
    exact h
  · have h := h.2 c
    refine q_gc rfl rfl ?_
    obtain ⟨hv1, h⟩ := h
    refine q_al (k := Int32.toNatClampNeg (((5 : Int32) + i3))) rfl (by decide) hv1 rfl ?_
    refine q_gc rfl rfl ?_
    obtain ⟨hv2, h⟩ := h
    refine q_al (k := Int32.toNatClampNeg (i3)) rfl (by decide) hv2 rfl ?_
    refine q_as (k := Int32.toNatClampNeg (((5 : Int32) + i3))) rfl (by decide) hv1 rfl ?_
    obtain ⟨S3, eS⟩ : ∃ z, z = uR S (216) (Int32.toNatClampNeg (((5 : Int32) + i3))) (((sR S (216) (Int32.toNatClampNeg (((5 : Int32) + i3)))) + (i1 * (sR S (187) (Int32.toNatClampNeg (i3)))))) := ⟨_, rfl⟩
    rw [← eS]
    have h := h S3 eS
    exact h
theorem zX12_passes_51 {d n : Nat} {S : gS} {P : gS → Int32 → Prop} {i1 : Int32} {i2 : Int32} {i3 : Int32}  (h : (((sR S (182) (0)) ≤ i3 → s_ci d mX12_readBy n S [.ref (180), .int (i2)] (fun S1 x2 => (∀ S3, S3 = uR S1 (216) (2) (i2) → (∀ S4, S4 = uR S3 (216) (3) (x2) → (x2 < 0 → gG d mX12_passes 0 0 (g_Xj mX12_passes n 0 0 (hPi P)) 200 n (hH S4) [some (.ref (180)), none, none, some (.int (x2)), none] [] 0 0) ∧ (¬ (x2 < 0) → (((40 : Int32) ≤ (sR S4 (216) (4)) → gG d mX12_passes 0 0 (g_Xj mX12_passes n 0 0 (hPi P)) 200 n (hH S4) [some (.ref (180)), none, none, some (.int (x2)), none] [] 0 0) ∧ (¬ ((40 : Int32) ≤ (sR S4 (216) (4))) → (vp_in (((19 : Int32) + (sR S4 (216) (4)))) 59 ∧ (∀ S6, S6 = uR S4 (216) (Int32.toNatClampNeg (((19 : Int32) + (sR S4 (216) (4))))) (x2) → ((∀ S7, S7 = uR S6 (216) (4) (((sR S6 (216) (4)) + (1 : Int32))) → gG d mX12_passes 0 0 (g_Xj mX12_passes n 0 0 (hPi P)) 200 n (hH S7) [some (.ref (180)), none, none, some (.int (x2)), none] [] 0 0))))))))))) ∧ (¬ ((sR S (182) (0)) ≤ i3) → vp_in (i3) 7 ∧ (s_cv d mX12_runsOver n S [.ref (180), .int ((sR S (222) (Int32.toNatClampNeg (i3))))] (fun S9 => s_ci d mX12_spoutOf n S9 [.ref (180), .int ((sR S (222) (Int32.toNatClampNeg (i3))))] (fun S10 x11 => vp_in (((12 : Int32) + (sR S (222) (Int32.toNatClampNeg (i3))))) 59 ∧ (∀ S13, S13 = uR S10 (216) (Int32.toNatClampNeg (((12 : Int32) + (sR S (222) (Int32.toNatClampNeg (i3)))))) (x11) → vp_in (((5 : Int32) + (sR S (222) (Int32.toNatClampNeg (i3))))) 59 ∧ (((∀ S15, S15 = uR S13 (216) (Int32.toNatClampNeg (((5 : Int32) + (sR S (222) (Int32.toNatClampNeg (i3)))))) (((sR S13 (216) (Int32.toNatClampNeg (((5 : Int32) + (sR S (222) (Int32.toNatClampNeg (i3))))))) - (sR S13 (216) (Int32.toNatClampNeg (((12 : Int32) + (sR S (222) (Int32.toNatClampNeg (i3))))))))) → s_cz d mX12_isSounding n S15 [.ref (180), .int ((sR S (222) (Int32.toNatClampNeg (i3)))), .int (i1)] (fun S16 b17 => (b17 = false → gG d mX12_passes 0 0 (g_Xj mX12_passes n 0 0 (hPi P)) 51 n (hH S16) [some (.ref (180)), some (.int (i1)), some (.int ((i2 ||| (0 : Int32)))), some (.int ((i3 + 1))), none] [] 0 0) ∧ (b17 = true → gG d mX12_passes 0 0 (g_Xj mX12_passes n 0 0 (hPi P)) 51 n (hH S16) [some (.ref (180)), some (.int (i1)), some (.int ((i2 ||| ((1 : Int32) <<< ((sR S (222) (Int32.toNatClampNeg (i3))) &&& 31))))), some (.int ((i3 + 1))), none] [] 0 0)))))))))))) : gG d mX12_passes 0 0 (g_Xj mX12_passes n 0 0 (hPi P)) 51 n (hH S) [some (.ref (180)), some (.int (i1)), some (.int (i2)), some (.int (i3)), none] [] 0 0 := by
  refine kX12_passes_51  ?_
  refine q_gc rfl rfl ?_
  refine q_al (k := 0) rfl (by decide) (vp_l (by decide)) (by decide) ?_
  refine ⟨fun c => ?_, fun c => ?_⟩
  · have h := h.1 c
    refine ⟨q_rc rfl, ?_⟩
    obtain ⟨d2, P2, hdd, hC, h⟩ := h
    refine ⟨d2, _, hdd, hC, fun H9 x2 hp => ?_⟩
    obtain ⟨S1, rfl, hp⟩ := hp
    have h := h S1 x2 hp
    refine q_gc rfl rfl ?_
    refine q_as (k := 2) rfl (by decide) (vp_l (by decide)) (by decide) ?_
    obtain ⟨S3, eS⟩ : ∃ z, z = uR S1 (216) (2) (i2) := ⟨_, rfl⟩
    rw [← eS]
    have h := h S3 eS
    refine q_gc rfl rfl ?_
    refine q_as (k := 3) rfl (by decide) (vp_l (by decide)) (by decide) ?_
    obtain ⟨S4, eS⟩ : ∃ z, z = uR S3 (216) (3) (x2) := ⟨_, rfl⟩
    rw [← eS]
    have h := h S4 eS
    refine ⟨fun c => ?_, fun c => ?_⟩
    · have h := h.1 c
      exact h
    · have h := h.2 c
      refine q_gc rfl rfl ?_
      refine q_al (k := 4) rfl (by decide) (vp_l (by decide)) (by decide) ?_
      refine ⟨fun c => ?_, fun c => ?_⟩
      · have h := h.1 c
        exact h
      · have h := h.2 c
        refine q_gc rfl rfl ?_
        refine q_gc rfl rfl ?_
        refine q_al (k := 4) rfl (by decide) (vp_l (by decide)) (by decide) ?_
        obtain ⟨hv5, h⟩ := h
        refine q_as (k := Int32.toNatClampNeg (((19 : Int32) + (sR S4 (216) (4))))) rfl (by decide) hv5 rfl ?_
        obtain ⟨S6, eS⟩ : ∃ z, z = uR S4 (216) (Int32.toNatClampNeg (((19 : Int32) + (sR S4 (216) (4))))) (x2) := ⟨_, rfl⟩
        rw [← eS]
        have h := h S6 eS
        refine q_gc rfl rfl ?_
        refine q_al (k := 4) rfl (by decide) (vp_l (by decide)) (by decide) ?_
        refine q_as (k := 4) rfl (by decide) (vp_l (by decide)) (by decide) ?_
        obtain ⟨S7, eS⟩ : ∃ z, z = uR S6 (216) (4) (((sR S6 (216) (4)) + (1 : Int32))) := ⟨_, rfl⟩
        rw [← eS]
        have h := h S7 eS
        exact h
  · have h := h.2 c
    refine q_gc rfl rfl ?_
    obtain ⟨hv8, h⟩ := h
    refine q_al (k := Int32.toNatClampNeg (i3)) rfl (by decide) hv8 rfl ?_
    refine ⟨q_rc rfl, ?_⟩
    obtain ⟨d2, P2, hdd, hC, h⟩ := h
    refine ⟨d2, _, hdd, hC, fun H9 hp => ?_⟩
    obtain ⟨S9, rfl, hp⟩ := hp
    have h := h S9 hp
    refine q_gc rfl rfl ?_
    refine ⟨q_rc rfl, ?_⟩
    obtain ⟨d2, P2, hdd, hC, h⟩ := h
    refine ⟨d2, _, hdd, hC, fun H9 x11 hp => ?_⟩
    obtain ⟨S10, rfl, hp⟩ := hp
    have h := h S10 x11 hp
    obtain ⟨hv12, h⟩ := h
    refine q_as (k := Int32.toNatClampNeg (((12 : Int32) + (sR S (222) (Int32.toNatClampNeg (i3)))))) rfl (by decide) hv12 rfl ?_
    obtain ⟨S13, eS⟩ : ∃ z, z = uR S10 (216) (Int32.toNatClampNeg (((12 : Int32) + (sR S (222) (Int32.toNatClampNeg (i3)))))) (x11) := ⟨_, rfl⟩
    rw [← eS]
    have h := h S13 eS
    refine q_gc rfl rfl ?_
    obtain ⟨hv14, h⟩ := h
    refine q_al (k := Int32.toNatClampNeg (((5 : Int32) + (sR S (222) (Int32.toNatClampNeg (i3)))))) rfl (by decide) hv14 rfl ?_
    refine q_gc rfl rfl ?_
    refine q_al (k := Int32.toNatClampNeg (((12 : Int32) + (sR S (222) (Int32.toNatClampNeg (i3)))))) rfl (by decide) hv12 rfl ?_
    refine q_as (k := Int32.toNatClampNeg (((5 : Int32) + (sR S (222) (Int32.toNatClampNeg (i3)))))) rfl (by decide) hv14 rfl ?_
    obtain ⟨S15, eS⟩ : ∃ z, z = uR S13 (216) (Int32.toNatClampNeg (((5 : Int32) + (sR S (222) (Int32.toNatClampNeg (i3)))))) (((sR S13 (216) (Int32.toNatClampNeg (((5 : Int32) + (sR S (222) (Int32.toNatClampNeg (i3))))))) - (sR S13 (216) (Int32.toNatClampNeg (((12 : Int32) + (sR S (222) (Int32.toNatClampNeg (i3))))))))) := ⟨_, rfl⟩
    rw [← eS]
    have h := h S15 eS
    refine ⟨q_rc rfl, ?_⟩
    obtain ⟨d2, P2, hdd, hC, h⟩ := h
    refine ⟨d2, _, hdd, hC, fun H9 b17 hp => ?_⟩
    obtain ⟨S16, rfl, hp⟩ := hp
    have h := h S16 b17 hp
    refine ⟨fun c => ?_, fun c => ?_⟩
    · have h := h.1 c
      exact h
    · have h := h.2 c
      exact h
theorem zX12_passes_200 {d n : Nat} {S : gS} {P : gS → Int32 → Prop} {i3 : Int32}  (h : ((∀ S1, S1 = uR S (216) (0) (((sR S (216) (0)) + (1 : Int32))) → P S1 (i3)))) : gG d mX12_passes 0 0 (g_Xj mX12_passes n 0 0 (hPi P)) 200 n (hH S) [some (.ref (180)), none, none, some (.int (i3)), none] [] 0 0 := by
  refine kX12_passes_200  ?_
  refine q_gc rfl rfl ?_
  refine q_al (k := 0) rfl (by decide) (vp_l (by decide)) (by decide) ?_
  refine q_as (k := 0) rfl (by decide) (vp_l (by decide)) (by decide) ?_
  obtain ⟨S1, eS⟩ : ∃ z, z = uR S (216) (0) (((sR S (216) (0)) + (1 : Int32))) := ⟨_, rfl⟩
  rw [← eS]
  have h := h S1 eS
  exact ⟨_, rfl, h⟩

theorem zX12_passesAsTold_0 {d n : Nat} {S : gS} {P : gS → Int32 → Prop}   (h : (s_ci d mX12_rainOf n S [.ref (180), .int ((sR S (216) (0)))] (fun S1 x2 => s_ci d mX12_passes n S1 [.ref (180), .int (x2)] (fun S3 x4 => P S3 (x4))))) : gG d mX12_passesAsTold 0 0 (g_Xj mX12_passesAsTold n 0 0 (hPi P)) 0 n (hH S) [some (.ref (180))] [] 0 0 := by
  refine kX12_passesAsTold_0  ?_
  refine q_gc rfl rfl ?_
  refine q_al (k := 0) rfl (by decide) (vp_l (by decide)) (by decide) ?_
  refine ⟨q_rc rfl, ?_⟩
  obtain ⟨d2, P2, hdd, hC, h⟩ := h
  refine ⟨d2, _, hdd, hC, fun H9 x2 hp => ?_⟩
  obtain ⟨S1, rfl, hp⟩ := hp
  have h := h S1 x2 hp
  refine ⟨q_rc rfl, ?_⟩
  obtain ⟨d2, P2, hdd, hC, h⟩ := h
  refine ⟨d2, _, hdd, hC, fun H9 x4 hp => ?_⟩
  obtain ⟨S3, rfl, hp⟩ := hp
  have h := h S3 x4 hp
  exact ⟨_, rfl, h⟩

theorem zX12_mouth_0 {d n : Nat} {S : gS} {P : gS → Int32 → Prop} {i1 : Int32} {i2 : Int32}  (h : ∀ S1, S1 = uI S (180) 0 ((0 : Int32)) → s_cz d mX12_isMouth n S1 [.ref (180), .int (i1)] (fun S2 b3 => (b3 = false → P S2 ((-2 : Int32))) ∧ (b3 = true → s_cz d mX12_within n S2 [.int (i2), .int ((0 : Int32)), .int ((7 : Int32))] (fun S4 b5 => (b5 = true → ((4 : Int32) ≤ i2 → ((6 : Int32) ≤ i2 → (¬ (i2 = (6 : Int32)) → vp_in (((12 : Int32) + i1)) 59 ∧ (P S4 ((sR S4 (216) (Int32.toNatClampNeg (((12 : Int32) + i1))))))) ∧ (i2 = (6 : Int32) → (P S4 ((((sR S4 (216) (1)) >>> (i1 &&& 31)) &&& (1 : Int32)))))) ∧ (¬ ((6 : Int32) ≤ i2) → (¬ (i2 = (4 : Int32)) → vp_in (((5 : Int32) + i1)) 59 ∧ (P S4 ((sR S4 (216) (Int32.toNatClampNeg (((5 : Int32) + i1))))))) ∧ (i2 = (4 : Int32) → vp_in (i1) 14 ∧ (P S4 ((sR S4 (189) (Int32.toNatClampNeg (i1)))))))) ∧ (¬ ((4 : Int32) ≤ i2) → (¬ (i2 = 0) → (¬ (i2 = (1 : Int32)) → (¬ (i2 = (2 : Int32)) → vp_in (i1) 14 ∧ (P S4 ((sR S4 (188) (Int32.toNatClampNeg (i1)))))) ∧ (i2 = (2 : Int32) → vp_in (i1) 14 ∧ (P S4 ((sR S4 (187) (Int32.toNatClampNeg (i1))))))) ∧ (i2 = (1 : Int32) → vp_in (i1) 14 ∧ (P S4 ((sR S4 (186) (Int32.toNatClampNeg (i1))))))) ∧ (i2 = 0 → vp_in (i1) 14 ∧ (P S4 ((sR S4 (185) (Int32.toNatClampNeg (i1)))))))) ∧ (b5 = false → P S4 ((-2 : Int32))))))) : gG d mX12_mouth 0 0 (g_Xj mX12_mouth n 0 0 (hPi P)) 0 n (hH S) [some (.ref (180)), some (.int (i1)), some (.int (i2))] [] 0 0 := by
  refine kX12_mouth_0  ?_
  refine q_pi rfl rfl ?_
  obtain ⟨S1, eS⟩ : ∃ z, z = uI S (180) 0 ((0 : Int32)) := ⟨_, rfl⟩
  rw [← eS]
  have h := h S1 eS
  refine ⟨q_rc rfl, ?_⟩
  obtain ⟨d2, P2, hdd, hC, h⟩ := h
  refine ⟨d2, _, hdd, hC, fun H9 b3 hp => ?_⟩
  obtain ⟨S2, rfl, hp⟩ := hp
  have h := h S2 b3 hp
  refine ⟨fun c => ?_, fun c => ?_⟩
  · have h := h.1 c
    exact ⟨_, rfl, h⟩
  · have h := h.2 c
    obtain ⟨d2, P2, hdd, hC, h⟩ := h
    refine ⟨d2, _, hdd, hC, fun H9 b5 hp => ?_⟩
    obtain ⟨S4, rfl, hp⟩ := hp
    have h := h S4 b5 hp
    refine ⟨fun c => ?_, fun c => ?_⟩
    · have h := h.1 c
      refine ⟨fun c => ?_, fun c => ?_⟩
      · have h := h.1 c
        refine ⟨fun c => ?_, fun c => ?_⟩
        · have h := h.1 c
          refine ⟨fun c => ?_, fun c => ?_⟩
          · have h := h.1 c
            refine q_gc rfl rfl ?_
            obtain ⟨hv6, h⟩ := h
            refine q_al (k := Int32.toNatClampNeg (((12 : Int32) + i1))) rfl (by decide) hv6 rfl ?_
            exact ⟨_, rfl, h⟩
          · have h := h.2 c
            refine q_gc rfl rfl ?_
            refine q_al (k := 1) rfl (by decide) (vp_l (by decide)) (by decide) ?_
            exact ⟨_, rfl, h⟩
        · have h := h.2 c
          refine ⟨fun c => ?_, fun c => ?_⟩
          · have h := h.1 c
            refine q_gc rfl rfl ?_
            obtain ⟨hv7, h⟩ := h
            refine q_al (k := Int32.toNatClampNeg (((5 : Int32) + i1))) rfl (by decide) hv7 rfl ?_
            exact ⟨_, rfl, h⟩
          · have h := h.2 c
            refine q_gc rfl rfl ?_
            obtain ⟨hv8, h⟩ := h
            refine q_al (k := Int32.toNatClampNeg (i1)) rfl (by decide) hv8 rfl ?_
            exact ⟨_, rfl, h⟩
      · have h := h.2 c
        refine ⟨fun c => ?_, fun c => ?_⟩
        · have h := h.1 c
          refine ⟨fun c => ?_, fun c => ?_⟩
          · have h := h.1 c
            refine ⟨fun c => ?_, fun c => ?_⟩
            · have h := h.1 c
              refine q_gc rfl rfl ?_
              obtain ⟨hv9, h⟩ := h
              refine q_al (k := Int32.toNatClampNeg (i1)) rfl (by decide) hv9 rfl ?_
              exact ⟨_, rfl, h⟩
            · have h := h.2 c
              refine q_gc rfl rfl ?_
              obtain ⟨hv10, h⟩ := h
              refine q_al (k := Int32.toNatClampNeg (i1)) rfl (by decide) hv10 rfl ?_
              exact ⟨_, rfl, h⟩
          · have h := h.2 c
            refine q_gc rfl rfl ?_
            obtain ⟨hv11, h⟩ := h
            refine q_al (k := Int32.toNatClampNeg (i1)) rfl (by decide) hv11 rfl ?_
            exact ⟨_, rfl, h⟩
        · have h := h.2 c
          refine q_gc rfl rfl ?_
          obtain ⟨hv12, h⟩ := h
          refine q_al (k := Int32.toNatClampNeg (i1)) rfl (by decide) hv12 rfl ?_
          exact ⟨_, rfl, h⟩
    · have h := h.2 c
      exact ⟨_, rfl, h⟩

theorem zX12_letter_0 {d n : Nat} {S : gS} {P : gS → Int32 → Prop} {i1 : Int32}  (h : ∀ S1, S1 = uI S (180) 0 ((0 : Int32)) → s_cz d mX12_isLetter0 n S1 [.ref (180), .int (i1)] (fun S2 b3 => (b3 = false → P S2 ((-1 : Int32))) ∧ (b3 = true → vp_in (i1) 12 ∧ (P S2 ((sR S2 (190) (Int32.toNatClampNeg (i1)))))))) : gG d mX12_letter 0 0 (g_Xj mX12_letter n 0 0 (hPi P)) 0 n (hH S) [some (.ref (180)), some (.int (i1))] [] 0 0 := by
  refine kX12_letter_0  ?_
  refine q_pi rfl rfl ?_
  obtain ⟨S1, eS⟩ : ∃ z, z = uI S (180) 0 ((0 : Int32)) := ⟨_, rfl⟩
  rw [← eS]
  have h := h S1 eS
  refine ⟨q_rc rfl, ?_⟩
  obtain ⟨d2, P2, hdd, hC, h⟩ := h
  refine ⟨d2, _, hdd, hC, fun H9 b3 hp => ?_⟩
  obtain ⟨S2, rfl, hp⟩ := hp
  have h := h S2 b3 hp
  refine ⟨fun c => ?_, fun c => ?_⟩
  · have h := h.1 c
    exact ⟨_, rfl, h⟩
  · have h := h.2 c
    refine q_gc rfl rfl ?_
    obtain ⟨hv4, h⟩ := h
    refine q_al (k := Int32.toNatClampNeg (i1)) rfl (by decide) hv4 rfl ?_
    exact ⟨_, rfl, h⟩

theorem zX12_slate_0 {d n : Nat} {S : gS} {P : gS → Int32 → Prop} {i1 : Int32}  (h : ∀ S1, S1 = uI S (180) 0 ((0 : Int32)) → (i1 < 0 → P S1 ((-1 : Int32))) ∧ (¬ (i1 < 0) → (((sR S1 (216) (4)) ≤ i1 → P S1 ((-1 : Int32))) ∧ (¬ ((sR S1 (216) (4)) ≤ i1) → vp_in (((19 : Int32) + i1)) 59 ∧ (P S1 ((sR S1 (216) (Int32.toNatClampNeg (((19 : Int32) + i1)))))))))) : gG d mX12_slate 0 0 (g_Xj mX12_slate n 0 0 (hPi P)) 0 n (hH S) [some (.ref (180)), some (.int (i1))] [] 0 0 := by
  refine kX12_slate_0  ?_
  refine q_pi rfl rfl ?_
  obtain ⟨S1, eS⟩ : ∃ z, z = uI S (180) 0 ((0 : Int32)) := ⟨_, rfl⟩
  rw [← eS]
  have h := h S1 eS
  refine ⟨fun c => ?_, fun c => ?_⟩
  · have h := h.1 c
    exact ⟨_, rfl, h⟩
  · have h := h.2 c
    refine q_gc rfl rfl ?_
    refine q_al (k := 4) rfl (by decide) (vp_l (by decide)) (by decide) ?_
    refine ⟨fun c => ?_, fun c => ?_⟩
    · have h := h.1 c
      exact ⟨_, rfl, h⟩
    · have h := h.2 c
      refine q_gc rfl rfl ?_
      obtain ⟨hv2, h⟩ := h
      refine q_al (k := Int32.toNatClampNeg (((19 : Int32) + i1))) rfl (by decide) hv2 rfl ?_
      exact ⟨_, rfl, h⟩

theorem zX12_keeps_0 {d n : Nat} {S : gS} {P : gS → Prop}   (h : (¬ ((sI S (180) 53) = (16 : Int32)) → gG d mX12_keeps 0 0 (g_Xv mX12_keeps n 0 0 (hPv P)) 49 n (hH S) [some (.ref (180)), none] [] 0 0) ∧ ((sI S (180) 53) = (16 : Int32) → gG d mX12_keeps 0 0 (g_Xv mX12_keeps n 0 0 (hPv P)) 11 n (hH S) [some (.ref (180)), some (.int ((0 : Int32)))] [] 0 0)) : gG d mX12_keeps 0 0 (g_Xv mX12_keeps n 0 0 (hPv P)) 0 n (hH S) [some (.ref (180)), none] [] 0 0 := by
  refine kX12_keeps_0  ?_
  refine q_gi rfl rfl ?_
  refine ⟨fun c => ?_, fun c => ?_⟩
  · have h := h.1 c
    exact h
  · have h := h.2 c
    exact h
theorem zX12_keeps_11 {d n : Nat} {S : gS} {P : gS → Prop} {i1 : Int32}  (h : ((885 : Int32) ≤ i1 → ∀ S1, S1 = uI S (180) 53 (((sI S (180) 53) - (1 : Int32))) → gG d mX12_keeps 0 0 (g_Xv mX12_keeps n 0 0 (hPv P)) 49 n (hH S1) [some (.ref (180)), none] [] 0 0) ∧ (¬ ((885 : Int32) ≤ i1) → vp_in ((i1 + (59 : Int32))) 944 ∧ (vp_in (i1) 944 ∧ (∀ S4, S4 = uR S (220) (Int32.toNatClampNeg (i1)) ((sR S (220) (Int32.toNatClampNeg ((i1 + (59 : Int32)))))) → gG d mX12_keeps 0 0 (g_Xv mX12_keeps n 0 0 (hPv P)) 11 n (hH S4) [some (.ref (180)), some (.int ((i1 + 1)))] [] 0 0)))) : gG d mX12_keeps 0 0 (g_Xv mX12_keeps n 0 0 (hPv P)) 11 n (hH S) [some (.ref (180)), some (.int (i1))] [] 0 0 := by
  refine kX12_keeps_11  ?_
  refine ⟨fun c => ?_, fun c => ?_⟩
  · have h := h.1 c
    refine q_gi rfl rfl ?_
    refine q_pi rfl rfl ?_
    obtain ⟨S1, eS⟩ : ∃ z, z = uI S (180) 53 (((sI S (180) 53) - (1 : Int32))) := ⟨_, rfl⟩
    rw [← eS]
    have h := h S1 eS
    exact h
  · have h := h.2 c
    refine q_gc rfl rfl ?_
    refine q_gc rfl rfl ?_
    obtain ⟨hv2, h⟩ := h
    refine q_al (k := Int32.toNatClampNeg ((i1 + (59 : Int32)))) rfl (by decide) hv2 rfl ?_
    obtain ⟨hv3, h⟩ := h
    refine q_as (k := Int32.toNatClampNeg (i1)) rfl (by decide) hv3 rfl ?_
    obtain ⟨S4, eS⟩ : ∃ z, z = uR S (220) (Int32.toNatClampNeg (i1)) ((sR S (220) (Int32.toNatClampNeg ((i1 + (59 : Int32)))))) := ⟨_, rfl⟩
    rw [← eS]
    have h := h S4 eS
    exact h
theorem zX12_keeps_49 {d n : Nat} {S : gS} {P : gS → Prop}   (h : s_cv d mX12_copies n S [.ref (216), .int ((0 : Int32)), .ref (220), .int (((59 : Int32) * (sI S (180) 53)))] (fun S1 => ∀ S2, S2 = uI S1 (180) 53 (((sI S1 (180) 53) + (1 : Int32))) → P S2)) : gG d mX12_keeps 0 0 (g_Xv mX12_keeps n 0 0 (hPv P)) 49 n (hH S) [some (.ref (180)), none] [] 0 0 := by
  refine kX12_keeps_49  ?_
  refine q_gc rfl rfl ?_
  refine q_gc rfl rfl ?_
  refine q_gi rfl rfl ?_
  obtain ⟨d2, P2, hdd, hC, h⟩ := h
  refine ⟨d2, _, hdd, hC, fun H9 hp => ?_⟩
  obtain ⟨S1, rfl, hp⟩ := hp
  have h := h S1 hp
  refine q_gi rfl rfl ?_
  refine q_pi rfl rfl ?_
  obtain ⟨S2, eS⟩ : ∃ z, z = uI S1 (180) 53 (((sI S1 (180) 53) + (1 : Int32))) := ⟨_, rfl⟩
  rw [← eS]
  have h := h S2 eS
  exact ⟨_, rfl, h⟩

theorem zX12_minute_0 {d n : Nat} {S : gS} {P : gS → Int32 → Prop}   (h : ∀ S1, S1 = uI S (180) 0 ((0 : Int32)) → s_cv d mX12_keeps n S1 [.ref (180)] (fun S2 => s_ci d mX12_passesAsTold n S2 [.ref (180)] (fun S3 x4 => P S3 (x4)))) : gG d mX12_minute 0 0 (g_Xj mX12_minute n 0 0 (hPi P)) 0 n (hH S) [some (.ref (180))] [] 0 0 := by
  refine kX12_minute_0  ?_
  refine q_pi rfl rfl ?_
  obtain ⟨S1, eS⟩ : ∃ z, z = uI S (180) 0 ((0 : Int32)) := ⟨_, rfl⟩
  rw [← eS]
  have h := h S1 eS
  refine ⟨q_rc rfl, ?_⟩
  obtain ⟨d2, P2, hdd, hC, h⟩ := h
  refine ⟨d2, _, hdd, hC, fun H9 hp => ?_⟩
  obtain ⟨S2, rfl, hp⟩ := hp
  have h := h S2 hp
  refine ⟨q_rc rfl, ?_⟩
  obtain ⟨d2, P2, hdd, hC, h⟩ := h
  refine ⟨d2, _, hdd, hC, fun H9 x4 hp => ?_⟩
  obtain ⟨S3, rfl, hp⟩ := hp
  have h := h S3 x4 hp
  exact ⟨_, rfl, h⟩

theorem zX12_pours_0 {d n : Nat} {S : gS} {P : gS → Prop} {i1 : Int32} {i2 : Int32}  (hd1 : 1 ≤ d) (h : vp_in (((5 : Int32) + i1)) 59 ∧ ((∀ S2, S2 = uR S (216) (Int32.toNatClampNeg (((5 : Int32) + i1))) ((if ((sR S (216) (Int32.toNatClampNeg (((5 : Int32) + i1)))) + i2) < (99 : Int32) then ((sR S (216) (Int32.toNatClampNeg (((5 : Int32) + i1)))) + i2) else (99 : Int32))) → P S2))) : gG d mX12_pours 0 0 (g_Xv mX12_pours n 0 0 (hPv P)) 0 n (hH S) [some (.ref (180)), some (.int (i1)), some (.int (i2))] [] 0 0 := by
  refine kX12_pours_0 hd1 ?_
  refine q_gc rfl rfl ?_
  refine q_gc rfl rfl ?_
  obtain ⟨hv1, h⟩ := h
  refine q_al (k := Int32.toNatClampNeg (((5 : Int32) + i1))) rfl (by decide) hv1 rfl ?_
  refine q_as (k := Int32.toNatClampNeg (((5 : Int32) + i1))) rfl (by decide) hv1 rfl ?_
  obtain ⟨S2, eS⟩ : ∃ z, z = uR S (216) (Int32.toNatClampNeg (((5 : Int32) + i1))) ((if ((sR S (216) (Int32.toNatClampNeg (((5 : Int32) + i1)))) + i2) < (99 : Int32) then ((sR S (216) (Int32.toNatClampNeg (((5 : Int32) + i1)))) + i2) else (99 : Int32))) := ⟨_, rfl⟩
  rw [← eS]
  have h := h S2 eS
  exact ⟨_, rfl, h⟩

theorem zX12_pour_0 {d n : Nat} {S : gS} {P : gS → Int32 → Prop} {i1 : Int32} {i2 : Int32}  (h : ∀ S1, S1 = uI S (180) 0 ((0 : Int32)) → s_cz d mX12_isMouth n S1 [.ref (180), .int (i1)] (fun S2 b3 => (b3 = false → P S2 ((-1 : Int32))) ∧ (b3 = true → s_cz d mX12_within n S2 [.int (i2), .int ((1 : Int32)), .int ((20 : Int32))] (fun S4 b5 => (b5 = true → s_cv d mX12_keeps n S4 [.ref (180)] (fun S6 => s_cv d mX12_pours n S6 [.ref (180), .int (i1), .int (i2)] (fun S7 => vp_in (((5 : Int32) + i1)) 59 ∧ (P S7 ((sR S7 (216) (Int32.toNatClampNeg (((5 : Int32) + i1))))))))) ∧ (b5 = false → P S4 ((-1 : Int32))))))) : gG d mX12_pour 0 0 (g_Xj mX12_pour n 0 0 (hPi P)) 0 n (hH S) [some (.ref (180)), some (.int (i1)), some (.int (i2))] [] 0 0 := by
  refine kX12_pour_0  ?_
  refine q_pi rfl rfl ?_
  obtain ⟨S1, eS⟩ : ∃ z, z = uI S (180) 0 ((0 : Int32)) := ⟨_, rfl⟩
  rw [← eS]
  have h := h S1 eS
  refine ⟨q_rc rfl, ?_⟩
  obtain ⟨d2, P2, hdd, hC, h⟩ := h
  refine ⟨d2, _, hdd, hC, fun H9 b3 hp => ?_⟩
  obtain ⟨S2, rfl, hp⟩ := hp
  have h := h S2 b3 hp
  refine ⟨fun c => ?_, fun c => ?_⟩
  · have h := h.1 c
    exact ⟨_, rfl, h⟩
  · have h := h.2 c
    obtain ⟨d2, P2, hdd, hC, h⟩ := h
    refine ⟨d2, _, hdd, hC, fun H9 b5 hp => ?_⟩
    obtain ⟨S4, rfl, hp⟩ := hp
    have h := h S4 b5 hp
    refine ⟨fun c => ?_, fun c => ?_⟩
    · have h := h.1 c
      refine ⟨q_rc rfl, ?_⟩
      obtain ⟨d2, P2, hdd, hC, h⟩ := h
      refine ⟨d2, _, hdd, hC, fun H9 hp => ?_⟩
      obtain ⟨S6, rfl, hp⟩ := hp
      have h := h S6 hp
      refine ⟨q_rc rfl, ?_⟩
      obtain ⟨d2, P2, hdd, hC, h⟩ := h
      refine ⟨d2, _, hdd, hC, fun H9 hp => ?_⟩
      obtain ⟨S7, rfl, hp⟩ := hp
      have h := h S7 hp
      refine q_gc rfl rfl ?_
      obtain ⟨hv8, h⟩ := h
      refine q_al (k := Int32.toNatClampNeg (((5 : Int32) + i1))) rfl (by decide) hv8 rfl ?_
      exact ⟨_, rfl, h⟩
    · have h := h.2 c
      exact ⟨_, rfl, h⟩

theorem zX12_stop_0 {d n : Nat} {S : gS} {P : gS → Bool → Prop} {i1 : Int32}  (h : ∀ S1, S1 = uI S (180) 0 ((0 : Int32)) → s_cz d mX12_isMouth n S1 [.ref (180), .int (i1)] (fun S2 b3 => (b3 = false → P S2 false) ∧ (b3 = true → s_cz d mX12_isStopped n S2 [.ref (180), .int (i1)] (fun S4 b5 => (b5 = false → s_cv d mX12_keeps n S4 [.ref (180)] (fun S6 => ((∀ S7, S7 = uR S6 (216) (1) (((sR S6 (216) (1)) ^^^ ((1 : Int32) <<< (i1 &&& 31)))) → P S7 true)))) ∧ (b5 = true → P S4 false))))) : gG d mX12_stop 0 0 (g_Xz mX12_stop n 0 0 (hPz P)) 0 n (hH S) [some (.ref (180)), some (.int (i1))] [] 0 0 := by
  refine kX12_stop_0  ?_
  refine q_pi rfl rfl ?_
  obtain ⟨S1, eS⟩ : ∃ z, z = uI S (180) 0 ((0 : Int32)) := ⟨_, rfl⟩
  rw [← eS]
  have h := h S1 eS
  refine ⟨q_rc rfl, ?_⟩
  obtain ⟨d2, P2, hdd, hC, h⟩ := h
  refine ⟨d2, _, hdd, hC, fun H9 b3 hp => ?_⟩
  obtain ⟨S2, rfl, hp⟩ := hp
  have h := h S2 b3 hp
  refine ⟨fun c => ?_, fun c => ?_⟩
  · have h := h.1 c
    exact ⟨_, rfl, h⟩
  · have h := h.2 c
    refine ⟨q_rc rfl, ?_⟩
    obtain ⟨d2, P2, hdd, hC, h⟩ := h
    refine ⟨d2, _, hdd, hC, fun H9 b5 hp => ?_⟩
    obtain ⟨S4, rfl, hp⟩ := hp
    have h := h S4 b5 hp
    refine ⟨fun c => ?_, fun c => ?_⟩
    · have h := h.1 c
      refine ⟨q_rc rfl, ?_⟩
      obtain ⟨d2, P2, hdd, hC, h⟩ := h
      refine ⟨d2, _, hdd, hC, fun H9 hp => ?_⟩
      obtain ⟨S6, rfl, hp⟩ := hp
      have h := h S6 hp
      refine q_gc rfl rfl ?_
      refine q_al (k := 1) rfl (by decide) (vp_l (by decide)) (by decide) ?_
      refine q_as (k := 1) rfl (by decide) (vp_l (by decide)) (by decide) ?_
      obtain ⟨S7, eS⟩ : ∃ z, z = uR S6 (216) (1) (((sR S6 (216) (1)) ^^^ ((1 : Int32) <<< (i1 &&& 31)))) := ⟨_, rfl⟩
      rw [← eS]
      have h := h S7 eS
      exact ⟨_, rfl, h⟩
    · have h := h.2 c
      exact ⟨_, rfl, h⟩

theorem zX12_clear_0 {d n : Nat} {S : gS} {P : gS → Bool → Prop} {i1 : Int32}  (h : ∀ S1, S1 = uI S (180) 0 ((0 : Int32)) → s_cz d mX12_isMouth n S1 [.ref (180), .int (i1)] (fun S2 b3 => (b3 = false → P S2 false) ∧ (b3 = true → s_cz d mX12_isStopped n S2 [.ref (180), .int (i1)] (fun S4 b5 => (b5 = true → s_cv d mX12_keeps n S4 [.ref (180)] (fun S6 => ((∀ S7, S7 = uR S6 (216) (1) (((sR S6 (216) (1)) ^^^ ((1 : Int32) <<< (i1 &&& 31)))) → P S7 true)))) ∧ (b5 = false → P S4 false))))) : gG d mX12_clear 0 0 (g_Xz mX12_clear n 0 0 (hPz P)) 0 n (hH S) [some (.ref (180)), some (.int (i1))] [] 0 0 := by
  refine kX12_clear_0  ?_
  refine q_pi rfl rfl ?_
  obtain ⟨S1, eS⟩ : ∃ z, z = uI S (180) 0 ((0 : Int32)) := ⟨_, rfl⟩
  rw [← eS]
  have h := h S1 eS
  refine ⟨q_rc rfl, ?_⟩
  obtain ⟨d2, P2, hdd, hC, h⟩ := h
  refine ⟨d2, _, hdd, hC, fun H9 b3 hp => ?_⟩
  obtain ⟨S2, rfl, hp⟩ := hp
  have h := h S2 b3 hp
  refine ⟨fun c => ?_, fun c => ?_⟩
  · have h := h.1 c
    exact ⟨_, rfl, h⟩
  · have h := h.2 c
    refine ⟨q_rc rfl, ?_⟩
    obtain ⟨d2, P2, hdd, hC, h⟩ := h
    refine ⟨d2, _, hdd, hC, fun H9 b5 hp => ?_⟩
    obtain ⟨S4, rfl, hp⟩ := hp
    have h := h S4 b5 hp
    refine ⟨fun c => ?_, fun c => ?_⟩
    · have h := h.1 c
      refine ⟨q_rc rfl, ?_⟩
      obtain ⟨d2, P2, hdd, hC, h⟩ := h
      refine ⟨d2, _, hdd, hC, fun H9 hp => ?_⟩
      obtain ⟨S6, rfl, hp⟩ := hp
      have h := h S6 hp
      refine q_gc rfl rfl ?_
      refine q_al (k := 1) rfl (by decide) (vp_l (by decide)) (by decide) ?_
      refine q_as (k := 1) rfl (by decide) (vp_l (by decide)) (by decide) ?_
      obtain ⟨S7, eS⟩ : ∃ z, z = uR S6 (216) (1) (((sR S6 (216) (1)) ^^^ ((1 : Int32) <<< (i1 &&& 31)))) := ⟨_, rfl⟩
      rw [← eS]
      have h := h S7 eS
      exact ⟨_, rfl, h⟩
    · have h := h.2 c
      exact ⟨_, rfl, h⟩

theorem zX12_undo_0 {d n : Nat} {S : gS} {P : gS → Bool → Prop}   (h : ∀ S1, S1 = uI S (180) 0 ((0 : Int32)) → (¬ ((sI S1 (180) 53) = 0) → ∀ S2, S2 = uI S1 (180) 53 (((sI S1 (180) 53) - (1 : Int32))) → s_cv d mX12_copies n S2 [.ref (220), .int (((59 : Int32) * (sI S2 (180) 53))), .ref (216), .int ((0 : Int32))] (fun S3 => P S3 true)) ∧ ((sI S1 (180) 53) = 0 → P S1 false)) : gG d mX12_undo 0 0 (g_Xz mX12_undo n 0 0 (hPz P)) 0 n (hH S) [some (.ref (180))] [] 0 0 := by
  refine kX12_undo_0  ?_
  refine q_pi rfl rfl ?_
  obtain ⟨S1, eS⟩ : ∃ z, z = uI S (180) 0 ((0 : Int32)) := ⟨_, rfl⟩
  rw [← eS]
  have h := h S1 eS
  refine q_gi rfl rfl ?_
  refine ⟨fun c => ?_, fun c => ?_⟩
  · have h := h.1 c
    refine q_gi rfl rfl ?_
    refine q_pi rfl rfl ?_
    obtain ⟨S2, eS⟩ : ∃ z, z = uI S1 (180) 53 (((sI S1 (180) 53) - (1 : Int32))) := ⟨_, rfl⟩
    rw [← eS]
    have h := h S2 eS
    refine q_gc rfl rfl ?_
    refine q_gi rfl rfl ?_
    refine q_gc rfl rfl ?_
    obtain ⟨d2, P2, hdd, hC, h⟩ := h
    refine ⟨d2, _, hdd, hC, fun H9 hp => ?_⟩
    obtain ⟨S3, rfl, hp⟩ := hp
    have h := h S3 hp
    exact ⟨_, rfl, h⟩
  · have h := h.2 c
    exact ⟨_, rfl, h⟩

theorem zX12_holesNow_0 {d n : Nat} {S : gS} {P : gS → Int32 → Prop}   (h : gG d mX12_holesNow 0 0 (g_Xj mX12_holesNow n 0 0 (hPi P)) 4 n (hH S) [some (.ref (180)), some (.int ((0 : Int32))), some (.int ((0 : Int32)))] [] 0 0) : gG d mX12_holesNow 0 0 (g_Xj mX12_holesNow n 0 0 (hPi P)) 0 n (hH S) [some (.ref (180)), none, none] [] 0 0 := by
  refine kX12_holesNow_0  ?_
  exact h
theorem zX12_holesNow_4 {d n : Nat} {S : gS} {P : gS → Int32 → Prop} {i1 : Int32} {i2 : Int32}  (h : (((sR S (216) (4)) ≤ i2 → P S (i1)) ∧ (¬ ((sR S (216) (4)) ≤ i2) → vp_in (((19 : Int32) + i2)) 59 ∧ ((¬ ((sR S (216) (Int32.toNatClampNeg (((19 : Int32) + i2)))) = (6 : Int32)) → gG d mX12_holesNow 0 0 (g_Xj mX12_holesNow n 0 0 (hPi P)) 4 n (hH S) [some (.ref (180)), some (.int ((i1 + (0 : Int32)))), some (.int ((i2 + 1)))] [] 0 0) ∧ ((sR S (216) (Int32.toNatClampNeg (((19 : Int32) + i2)))) = (6 : Int32) → gG d mX12_holesNow 0 0 (g_Xj mX12_holesNow n 0 0 (hPi P)) 4 n (hH S) [some (.ref (180)), some (.int ((i1 + (1 : Int32)))), some (.int ((i2 + 1)))] [] 0 0))))) : gG d mX12_holesNow 0 0 (g_Xj mX12_holesNow n 0 0 (hPi P)) 4 n (hH S) [some (.ref (180)), some (.int (i1)), some (.int (i2))] [] 0 0 := by
  refine kX12_holesNow_4  ?_
  refine q_gc rfl rfl ?_
  refine q_al (k := 4) rfl (by decide) (vp_l (by decide)) (by decide) ?_
  refine ⟨fun c => ?_, fun c => ?_⟩
  · have h := h.1 c
    exact ⟨_, rfl, h⟩
  · have h := h.2 c
    refine q_gc rfl rfl ?_
    obtain ⟨hv1, h⟩ := h
    refine q_al (k := Int32.toNatClampNeg (((19 : Int32) + i2))) rfl (by decide) hv1 rfl ?_
    refine ⟨fun c => ?_, fun c => ?_⟩
    · have h := h.1 c
      exact h
    · have h := h.2 c
      exact h

theorem zX12_judged_0 {d n : Nat} {S : gS} {P : gS → Int32 → Prop} {i1 : Int32}  (h : ∀ S1, S1 = uI S (180) 0 ((0 : Int32)) → s_cz d mX12_within n S1 [.int (i1), .int ((0 : Int32)), .int ((2 : Int32))] (fun S2 b3 => (b3 = true → s_cv d mX12_copies n S2 [.ref (216), .int ((0 : Int32)), .ref (217), .int ((0 : Int32))] (fun S4 => s_cv d mX12_fresh0 n S4 [.ref (180)] (fun S5 => gG d mX12_judged 0 0 (g_Xj mX12_judged n 0 0 (hPi P)) 41 n (hH S5) [some (.ref (180)), some (.int (i1)), some (.int ((-1 : Int32))), some (.int ((-1 : Int32))), some (.int ((0 : Int32))), none] [] 0 0))) ∧ (b3 = false → P S2 ((-2 : Int32))))) : gG d mX12_judged 0 0 (g_Xj mX12_judged n 0 0 (hPi P)) 0 n (hH S) [some (.ref (180)), some (.int (i1)), none, none, none, none] [] 0 0 := by
  refine kX12_judged_0  ?_
  refine q_pi rfl rfl ?_
  obtain ⟨S1, eS⟩ : ∃ z, z = uI S (180) 0 ((0 : Int32)) := ⟨_, rfl⟩
  rw [← eS]
  have h := h S1 eS
  obtain ⟨d2, P2, hdd, hC, h⟩ := h
  refine ⟨d2, _, hdd, hC, fun H9 b3 hp => ?_⟩
  obtain ⟨S2, rfl, hp⟩ := hp
  have h := h S2 b3 hp
  refine ⟨fun c => ?_, fun c => ?_⟩
  · have h := h.1 c
    refine q_gc rfl rfl ?_
    refine q_gc rfl rfl ?_
    obtain ⟨d2, P2, hdd, hC, h⟩ := h
    refine ⟨d2, _, hdd, hC, fun H9 hp => ?_⟩
    obtain ⟨S4, rfl, hp⟩ := hp
    have h := h S4 hp
    refine ⟨q_rc rfl, ?_⟩
    obtain ⟨d2, P2, hdd, hC, h⟩ := h
    refine ⟨d2, _, hdd, hC, fun H9 hp => ?_⟩
    obtain ⟨S5, rfl, hp⟩ := hp
    have h := h S5 hp
    exact h
  · have h := h.2 c
    exact ⟨_, rfl, h⟩
theorem zX12_judged_41 {d n : Nat} {S : gS} {P : gS → Int32 → Prop} {i1 : Int32} {i2 : Int32} {i3 : Int32} {i4 : Int32}  (h : (((sR S (207) (0)) ≤ i4 → s_ci d mX12_holesNow n S [.ref (180)] (fun S1 x2 => s_cv d mX12_copies n S1 [.ref (217), .int ((0 : Int32)), .ref (216), .int ((0 : Int32))] (fun S3 => (¬ (i1 = 0) → (¬ (i1 = (1 : Int32)) → P S3 (x2)) ∧ (i1 = (1 : Int32) → P S3 (i3))) ∧ (i1 = 0 → P S3 (i2))))) ∧ (¬ ((sR S (207) (0)) ≤ i4) → vp_in (i4) 240 ∧ (((¬ ((sR S (208) (Int32.toNatClampNeg (i4))) = 0) → ((¬ ((sR S (208) (Int32.toNatClampNeg (i4))) = (1 : Int32)) → s_cz d mX12_isStopped n S [.ref (180), .int ((sR S (209) (Int32.toNatClampNeg (i4))))] (fun S5 b6 => ((¬ ((sR S5 (208) (Int32.toNatClampNeg (i4))) = (3 : Int32)) → (¬ ((g_b b6) = (0 : Int32)) → gG d mX12_judged 0 0 (g_Xj mX12_judged n 0 0 (hPi P)) 161 n (hH S5) [some (.ref (180)), some (.int (i1)), some (.int (i2)), some (.int (i3)), some (.int (i4)), none] [] 0 0) ∧ ((g_b b6) = (0 : Int32) → gG d mX12_judged 0 0 (g_Xj mX12_judged n 0 0 (hPi P)) 145 n (hH S5) [some (.ref (180)), some (.int (i1)), some (.int (i2)), some (.int (i3)), some (.int (i4)), some (.int ((sR S (209) (Int32.toNatClampNeg (i4)))))] [] 0 0)) ∧ ((sR S5 (208) (Int32.toNatClampNeg (i4))) = (3 : Int32) → (¬ ((g_b b6) = (1 : Int32)) → gG d mX12_judged 0 0 (g_Xj mX12_judged n 0 0 (hPi P)) 161 n (hH S5) [some (.ref (180)), some (.int (i1)), some (.int (i2)), some (.int (i3)), some (.int (i4)), none] [] 0 0) ∧ ((g_b b6) = (1 : Int32) → gG d mX12_judged 0 0 (g_Xj mX12_judged n 0 0 (hPi P)) 145 n (hH S5) [some (.ref (180)), some (.int (i1)), some (.int (i2)), some (.int (i3)), some (.int (i4)), some (.int ((sR S (209) (Int32.toNatClampNeg (i4)))))] [] 0 0))))) ∧ ((sR S (208) (Int32.toNatClampNeg (i4))) = (1 : Int32) → (s_cv d mX12_pours n S [.ref (180), .int ((sR S (209) (Int32.toNatClampNeg (i4)))), .int ((sR S (210) (Int32.toNatClampNeg (i4))))] (fun S7 => gG d mX12_judged 0 0 (g_Xj mX12_judged n 0 0 (hPi P)) 41 n (hH S7) [some (.ref (180)), some (.int (i1)), some (.int (i2)), some (.int (i3)), some (.int ((i4 + 1))), none] [] 0 0))))) ∧ ((sR S (208) (Int32.toNatClampNeg (i4))) = 0 → s_ci d mX12_passesAsTold n S [.ref (180)] (fun S8 x9 => s_cz d mX12_within n S8 [.int (x9), .int ((0 : Int32)), .int ((5 : Int32))] (fun S10 b11 => (b11 = false → gG d mX12_judged 0 0 (g_Xj mX12_judged n 0 0 (hPi P)) 41 n (hH S10) [some (.ref (180)), some (.int (i1)), some (.int (i2)), some (.int (i3)), some (.int ((i4 + 1))), none] [] 0 0) ∧ (b11 = true → (0 ≤ i3 → gG d mX12_judged 0 0 (g_Xj mX12_judged n 0 0 (hPi P)) 41 n (hH S10) [some (.ref (180)), some (.int (i1)), some (.int (i2)), some (.int (i3)), some (.int ((i4 + 1))), none] [] 0 0) ∧ (¬ (0 ≤ i3) → gG d mX12_judged 0 0 (g_Xj mX12_judged n 0 0 (hPi P)) 41 n (hH S10) [some (.ref (180)), some (.int (i1)), some (.int (i2)), some (.int (i4)), some (.int ((i4 + 1))), none] [] 0 0)))))))))) : gG d mX12_judged 0 0 (g_Xj mX12_judged n 0 0 (hPi P)) 41 n (hH S) [some (.ref (180)), some (.int (i1)), some (.int (i2)), some (.int (i3)), some (.int (i4)), none] [] 0 0 := by
  refine kX12_judged_41  ?_
  refine q_gc rfl rfl ?_
  refine q_al (k := 0) rfl (by decide) (vp_l (by decide)) (by decide) ?_
  refine ⟨fun c => ?_, fun c => ?_⟩
  · have h := h.1 c
    refine ⟨q_rc rfl, ?_⟩
    obtain ⟨d2, P2, hdd, hC, h⟩ := h
    refine ⟨d2, _, hdd, hC, fun H9 x2 hp => ?_⟩
    obtain ⟨S1, rfl, hp⟩ := hp
    have h := h S1 x2 hp
    refine q_gc rfl rfl ?_
    refine q_gc rfl rfl ?_
    obtain ⟨d2, P2, hdd, hC, h⟩ := h
    refine ⟨d2, _, hdd, hC, fun H9 hp => ?_⟩
    obtain ⟨S3, rfl, hp⟩ := hp
    have h := h S3 hp
    refine ⟨fun c => ?_, fun c => ?_⟩
    · have h := h.1 c
      refine ⟨fun c => ?_, fun c => ?_⟩
      · have h := h.1 c
        exact ⟨_, rfl, h⟩
      · have h := h.2 c
        exact ⟨_, rfl, h⟩
    · have h := h.2 c
      exact ⟨_, rfl, h⟩
  · have h := h.2 c
    refine q_gc rfl rfl ?_
    obtain ⟨hv4, h⟩ := h
    refine q_al (k := Int32.toNatClampNeg (i4)) rfl (by decide) hv4 rfl ?_
    refine q_gc rfl rfl ?_
    refine q_al (k := Int32.toNatClampNeg (i4)) rfl (by decide) hv4 rfl ?_
    refine ⟨fun c => ?_, fun c => ?_⟩
    · have h := h.1 c
      refine q_gc rfl rfl ?_
      refine q_al (k := Int32.toNatClampNeg (i4)) rfl (by decide) hv4 rfl ?_
      refine ⟨fun c => ?_, fun c => ?_⟩
      · have h := h.1 c
        refine ⟨q_rc rfl, ?_⟩
        obtain ⟨d2, P2, hdd, hC, h⟩ := h
        refine ⟨d2, _, hdd, hC, fun H9 b6 hp => ?_⟩
        obtain ⟨S5, rfl, hp⟩ := hp
        have h := h S5 b6 hp
        refine q_gc rfl rfl ?_
        refine q_al (k := Int32.toNatClampNeg (i4)) rfl (by decide) hv4 rfl ?_
        refine ⟨fun c => ?_, fun c => ?_⟩
        · have h := h.1 c
          refine ⟨fun c => ?_, fun c => ?_⟩
          · have h := h.1 c
            exact h
          · have h := h.2 c
            exact h
        · have h := h.2 c
          refine ⟨fun c => ?_, fun c => ?_⟩
          · have h := h.1 c
            exact h
          · have h := h.2 c
            exact h
      · have h := h.2 c
        refine q_gc rfl rfl ?_
        refine q_al (k := Int32.toNatClampNeg (i4)) rfl (by decide) hv4 rfl ?_
        refine ⟨q_rc rfl, ?_⟩
        obtain ⟨d2, P2, hdd, hC, h⟩ := h
        refine ⟨d2, _, hdd, hC, fun H9 hp => ?_⟩
        obtain ⟨S7, rfl, hp⟩ := hp
        have h := h S7 hp
        exact h
    · have h := h.2 c
      refine ⟨q_rc rfl, ?_⟩
      obtain ⟨d2, P2, hdd, hC, h⟩ := h
      refine ⟨d2, _, hdd, hC, fun H9 x9 hp => ?_⟩
      obtain ⟨S8, rfl, hp⟩ := hp
      have h := h S8 x9 hp
      obtain ⟨d2, P2, hdd, hC, h⟩ := h
      refine ⟨d2, _, hdd, hC, fun H9 b11 hp => ?_⟩
      obtain ⟨S10, rfl, hp⟩ := hp
      have h := h S10 b11 hp
      refine ⟨fun c => ?_, fun c => ?_⟩
      · have h := h.1 c
        exact h
      · have h := h.2 c
        refine ⟨fun c => ?_, fun c => ?_⟩
        · have h := h.1 c
          exact h
        · have h := h.2 c
          exact h
theorem zX12_judged_145 {d n : Nat} {S : gS} {P : gS → Int32 → Prop} {i1 : Int32} {i2 : Int32} {i3 : Int32} {i4 : Int32} {i5 : Int32}  (h : ((∀ S1, S1 = uR S (216) (1) (((sR S (216) (1)) ^^^ ((1 : Int32) <<< (i5 &&& 31)))) → gG d mX12_judged 0 0 (g_Xj mX12_judged n 0 0 (hPi P)) 41 n (hH S1) [some (.ref (180)), some (.int (i1)), some (.int (i2)), some (.int (i3)), some (.int ((i4 + 1))), none] [] 0 0))) : gG d mX12_judged 0 0 (g_Xj mX12_judged n 0 0 (hPi P)) 145 n (hH S) [some (.ref (180)), some (.int (i1)), some (.int (i2)), some (.int (i3)), some (.int (i4)), some (.int (i5))] [] 0 0 := by
  refine kX12_judged_145  ?_
  refine q_gc rfl rfl ?_
  refine q_al (k := 1) rfl (by decide) (vp_l (by decide)) (by decide) ?_
  refine q_as (k := 1) rfl (by decide) (vp_l (by decide)) (by decide) ?_
  obtain ⟨S1, eS⟩ : ∃ z, z = uR S (216) (1) (((sR S (216) (1)) ^^^ ((1 : Int32) <<< (i5 &&& 31)))) := ⟨_, rfl⟩
  rw [← eS]
  have h := h S1 eS
  exact h
theorem zX12_judged_161 {d n : Nat} {S : gS} {P : gS → Int32 → Prop} {i1 : Int32} {i2 : Int32} {i3 : Int32} {i4 : Int32}  (h : (0 ≤ i2 → gG d mX12_judged 0 0 (g_Xj mX12_judged n 0 0 (hPi P)) 41 n (hH S) [some (.ref (180)), some (.int (i1)), some (.int (i2)), some (.int (i3)), some (.int ((i4 + 1))), none] [] 0 0) ∧ (¬ (0 ≤ i2) → gG d mX12_judged 0 0 (g_Xj mX12_judged n 0 0 (hPi P)) 41 n (hH S) [some (.ref (180)), some (.int (i1)), some (.int (i4)), some (.int (i3)), some (.int ((i4 + 1))), none] [] 0 0)) : gG d mX12_judged 0 0 (g_Xj mX12_judged n 0 0 (hPi P)) 161 n (hH S) [some (.ref (180)), some (.int (i1)), some (.int (i2)), some (.int (i3)), some (.int (i4)), none] [] 0 0 := by
  refine kX12_judged_161  ?_
  refine ⟨fun c => ?_, fun c => ?_⟩
  · have h := h.1 c
    exact h
  · have h := h.2 c
    exact h

theorem zX12_later_0 {d n : Nat} {S : gS} {P : gS → Int32 → Prop} {i1 : Int32} {i2 : Int32}  (h : ∀ S1, S1 = uI S (180) 0 ((0 : Int32)) → s_cz d mX12_isMouth n S1 [.ref (180), .int (i1)] (fun S2 b3 => (b3 = false → P S2 ((-1 : Int32))) ∧ (b3 = true → s_cz d mX12_within n S2 [.int (i2), .int ((0 : Int32)), .int ((60 : Int32))] (fun S4 b5 => (b5 = true → s_cv d mX12_copies n S4 [.ref (216), .int ((0 : Int32)), .ref (218), .int ((0 : Int32))] (fun S6 => gG d mX12_later 0 0 (g_Xj mX12_later n 0 0 (hPi P)) 40 n (hH S6) [some (.ref (180)), some (.int (i1)), some (.int (i2)), some (.int ((0 : Int32)))] [] 0 0)) ∧ (b5 = false → P S4 ((-1 : Int32))))))) : gG d mX12_later 0 0 (g_Xj mX12_later n 0 0 (hPi P)) 0 n (hH S) [some (.ref (180)), some (.int (i1)), some (.int (i2)), none] [] 0 0 := by
  refine kX12_later_0  ?_
  refine q_pi rfl rfl ?_
  obtain ⟨S1, eS⟩ : ∃ z, z = uI S (180) 0 ((0 : Int32)) := ⟨_, rfl⟩
  rw [← eS]
  have h := h S1 eS
  refine ⟨q_rc rfl, ?_⟩
  obtain ⟨d2, P2, hdd, hC, h⟩ := h
  refine ⟨d2, _, hdd, hC, fun H9 b3 hp => ?_⟩
  obtain ⟨S2, rfl, hp⟩ := hp
  have h := h S2 b3 hp
  refine ⟨fun c => ?_, fun c => ?_⟩
  · have h := h.1 c
    exact ⟨_, rfl, h⟩
  · have h := h.2 c
    obtain ⟨d2, P2, hdd, hC, h⟩ := h
    refine ⟨d2, _, hdd, hC, fun H9 b5 hp => ?_⟩
    obtain ⟨S4, rfl, hp⟩ := hp
    have h := h S4 b5 hp
    refine ⟨fun c => ?_, fun c => ?_⟩
    · have h := h.1 c
      refine q_gc rfl rfl ?_
      refine q_gc rfl rfl ?_
      obtain ⟨d2, P2, hdd, hC, h⟩ := h
      refine ⟨d2, _, hdd, hC, fun H9 hp => ?_⟩
      obtain ⟨S6, rfl, hp⟩ := hp
      have h := h S6 hp
      exact h
    · have h := h.2 c
      exact ⟨_, rfl, h⟩
theorem zX12_later_40 {d n : Nat} {S : gS} {P : gS → Int32 → Prop} {i1 : Int32} {i2 : Int32} {i3 : Int32}  (h : (i2 ≤ i3 → vp_in (((5 : Int32) + i1)) 59 ∧ (s_cv d mX12_copies n S [.ref (218), .int ((0 : Int32)), .ref (216), .int ((0 : Int32))] (fun S2 => P S2 ((sR S (216) (Int32.toNatClampNeg (((5 : Int32) + i1)))))))) ∧ (¬ (i2 ≤ i3) → s_ci d mX12_passesAsTold n S [.ref (180)] (fun S3 x4 => gG d mX12_later 0 0 (g_Xj mX12_later n 0 0 (hPi P)) 40 n (hH S3) [some (.ref (180)), some (.int (i1)), some (.int (i2)), some (.int ((i3 + 1)))] [] 0 0))) : gG d mX12_later 0 0 (g_Xj mX12_later n 0 0 (hPi P)) 40 n (hH S) [some (.ref (180)), some (.int (i1)), some (.int (i2)), some (.int (i3))] [] 0 0 := by
  refine kX12_later_40  ?_
  refine ⟨fun c => ?_, fun c => ?_⟩
  · have h := h.1 c
    refine q_gc rfl rfl ?_
    obtain ⟨hv1, h⟩ := h
    refine q_al (k := Int32.toNatClampNeg (((5 : Int32) + i1))) rfl (by decide) hv1 rfl ?_
    refine q_gc rfl rfl ?_
    refine q_gc rfl rfl ?_
    obtain ⟨d2, P2, hdd, hC, h⟩ := h
    refine ⟨d2, _, hdd, hC, fun H9 hp => ?_⟩
    obtain ⟨S2, rfl, hp⟩ := hp
    have h := h S2 hp
    exact ⟨_, rfl, h⟩
  · have h := h.2 c
    refine ⟨q_rc rfl, ?_⟩
    obtain ⟨d2, P2, hdd, hC, h⟩ := h
    refine ⟨d2, _, hdd, hC, fun H9 x4 hp => ?_⟩
    obtain ⟨S3, rfl, hp⟩ := hp
    have h := h S3 x4 hp
    exact h

theorem zX12_reads_0 {d n : Nat} {S : gS} {P : gS → Int32 → Prop} {i1 : Int32}  (h : ∀ S1, S1 = uI S (180) 0 ((0 : Int32)) → s_cz d mX12_within n S1 [.int (i1), .int ((1 : Int32)), .int ((60 : Int32))] (fun S2 b3 => (b3 = true → s_cv d mX12_copies n S2 [.ref (216), .int ((0 : Int32)), .ref (218), .int ((0 : Int32))] (fun S4 => gG d mX12_reads 0 0 (g_Xj mX12_reads n 0 0 (hPi P)) 35 n (hH S4) [some (.ref (180)), some (.int (i1)), some (.int ((-1 : Int32))), some (.int ((0 : Int32)))] [] 0 0)) ∧ (b3 = false → P S2 ((-2 : Int32))))) : gG d mX12_reads 0 0 (g_Xj mX12_reads n 0 0 (hPi P)) 0 n (hH S) [some (.ref (180)), some (.int (i1)), none, none] [] 0 0 := by
  refine kX12_reads_0  ?_
  refine q_pi rfl rfl ?_
  obtain ⟨S1, eS⟩ : ∃ z, z = uI S (180) 0 ((0 : Int32)) := ⟨_, rfl⟩
  rw [← eS]
  have h := h S1 eS
  obtain ⟨d2, P2, hdd, hC, h⟩ := h
  refine ⟨d2, _, hdd, hC, fun H9 b3 hp => ?_⟩
  obtain ⟨S2, rfl, hp⟩ := hp
  have h := h S2 b3 hp
  refine ⟨fun c => ?_, fun c => ?_⟩
  · have h := h.1 c
    refine q_gc rfl rfl ?_
    refine q_gc rfl rfl ?_
    obtain ⟨d2, P2, hdd, hC, h⟩ := h
    refine ⟨d2, _, hdd, hC, fun H9 hp => ?_⟩
    obtain ⟨S4, rfl, hp⟩ := hp
    have h := h S4 hp
    exact h
  · have h := h.2 c
    exact ⟨_, rfl, h⟩
theorem zX12_reads_35 {d n : Nat} {S : gS} {P : gS → Int32 → Prop} {i1 : Int32} {i2 : Int32} {i3 : Int32}  (h : (i1 ≤ i3 → s_cv d mX12_copies n S [.ref (218), .int ((0 : Int32)), .ref (216), .int ((0 : Int32))] (fun S1 => P S1 (i2))) ∧ (¬ (i1 ≤ i3) → s_ci d mX12_passesAsTold n S [.ref (180)] (fun S2 x3 => gG d mX12_reads 0 0 (g_Xj mX12_reads n 0 0 (hPi P)) 35 n (hH S2) [some (.ref (180)), some (.int (i1)), some (.int (x3)), some (.int ((i3 + 1)))] [] 0 0))) : gG d mX12_reads 0 0 (g_Xj mX12_reads n 0 0 (hPi P)) 35 n (hH S) [some (.ref (180)), some (.int (i1)), some (.int (i2)), some (.int (i3))] [] 0 0 := by
  refine kX12_reads_35  ?_
  refine ⟨fun c => ?_, fun c => ?_⟩
  · have h := h.1 c
    refine q_gc rfl rfl ?_
    refine q_gc rfl rfl ?_
    obtain ⟨d2, P2, hdd, hC, h⟩ := h
    refine ⟨d2, _, hdd, hC, fun H9 hp => ?_⟩
    obtain ⟨S1, rfl, hp⟩ := hp
    have h := h S1 hp
    exact ⟨_, rfl, h⟩
  · have h := h.2 c
    refine ⟨q_rc rfl, ?_⟩
    obtain ⟨d2, P2, hdd, hC, h⟩ := h
    refine ⟨d2, _, hdd, hC, fun H9 x3 hp => ?_⟩
    obtain ⟨S2, rfl, hp⟩ := hp
    have h := h S2 x3 hp
    exact h

theorem zX12_when_0 {d n : Nat} {S : gS} {P : gS → Int32 → Prop} {i1 : Int32}  (h : ∀ S1, S1 = uI S (180) 0 ((0 : Int32)) → s_cz d mX12_isLetter0 n S1 [.ref (180), .int (i1)] (fun S2 b3 => (b3 = true → s_cv d mX12_copies n S2 [.ref (216), .int ((0 : Int32)), .ref (218), .int ((0 : Int32))] (fun S4 => gG d mX12_when 0 0 (g_Xj mX12_when n 0 0 (hPi P)) 30 n (hH S4) [some (.ref (180)), some (.int (i1)), some (.int ((1 : Int32)))] [] 0 0)) ∧ (b3 = false → P S2 ((-1 : Int32))))) : gG d mX12_when 0 0 (g_Xj mX12_when n 0 0 (hPi P)) 0 n (hH S) [some (.ref (180)), some (.int (i1)), none] [] 0 0 := by
  refine kX12_when_0  ?_
  refine q_pi rfl rfl ?_
  obtain ⟨S1, eS⟩ : ∃ z, z = uI S (180) 0 ((0 : Int32)) := ⟨_, rfl⟩
  rw [← eS]
  have h := h S1 eS
  refine ⟨q_rc rfl, ?_⟩
  obtain ⟨d2, P2, hdd, hC, h⟩ := h
  refine ⟨d2, _, hdd, hC, fun H9 b3 hp => ?_⟩
  obtain ⟨S2, rfl, hp⟩ := hp
  have h := h S2 b3 hp
  refine ⟨fun c => ?_, fun c => ?_⟩
  · have h := h.1 c
    refine q_gc rfl rfl ?_
    refine q_gc rfl rfl ?_
    obtain ⟨d2, P2, hdd, hC, h⟩ := h
    refine ⟨d2, _, hdd, hC, fun H9 hp => ?_⟩
    obtain ⟨S4, rfl, hp⟩ := hp
    have h := h S4 hp
    exact h
  · have h := h.2 c
    exact ⟨_, rfl, h⟩
theorem zX12_when_30 {d n : Nat} {S : gS} {P : gS → Int32 → Prop} {i1 : Int32} {i2 : Int32}  (h : ((60 : Int32) < i2 → gG d mX12_when 0 0 (g_Xj mX12_when n 0 0 (hPi P)) 50 n (hH S) [some (.ref (180)), none, some (.int (i2))] [] 0 0) ∧ (¬ ((60 : Int32) < i2) → s_ci d mX12_passesAsTold n S [.ref (180)] (fun S1 x2 => (x2 = i1 → gG d mX12_when 0 0 (g_Xj mX12_when n 0 0 (hPi P)) 50 n (hH S1) [some (.ref (180)), none, some (.int (i2))] [] 0 0) ∧ (¬ (x2 = i1) → gG d mX12_when 0 0 (g_Xj mX12_when n 0 0 (hPi P)) 30 n (hH S1) [some (.ref (180)), some (.int (i1)), some (.int ((i2 + 1)))] [] 0 0)))) : gG d mX12_when 0 0 (g_Xj mX12_when n 0 0 (hPi P)) 30 n (hH S) [some (.ref (180)), some (.int (i1)), some (.int (i2))] [] 0 0 := by
  refine kX12_when_30  ?_
  refine ⟨fun c => ?_, fun c => ?_⟩
  · have h := h.1 c
    exact h
  · have h := h.2 c
    refine ⟨q_rc rfl, ?_⟩
    obtain ⟨d2, P2, hdd, hC, h⟩ := h
    refine ⟨d2, _, hdd, hC, fun H9 x2 hp => ?_⟩
    obtain ⟨S1, rfl, hp⟩ := hp
    have h := h S1 x2 hp
    refine ⟨fun c => ?_, fun c => ?_⟩
    · have h := h.1 c
      exact h
    · have h := h.2 c
      exact h
theorem zX12_when_50 {d n : Nat} {S : gS} {P : gS → Int32 → Prop} {i2 : Int32}  (h : s_cv d mX12_copies n S [.ref (218), .int ((0 : Int32)), .ref (216), .int ((0 : Int32))] (fun S1 => (i2 ≤ (60 : Int32) → P S1 (i2)) ∧ (¬ (i2 ≤ (60 : Int32)) → P S1 ((-1 : Int32))))) : gG d mX12_when 0 0 (g_Xj mX12_when n 0 0 (hPi P)) 50 n (hH S) [some (.ref (180)), none, some (.int (i2))] [] 0 0 := by
  refine kX12_when_50  ?_
  refine q_gc rfl rfl ?_
  refine q_gc rfl rfl ?_
  obtain ⟨d2, P2, hdd, hC, h⟩ := h
  refine ⟨d2, _, hdd, hC, fun H9 hp => ?_⟩
  obtain ⟨S1, rfl, hp⟩ := hp
  have h := h S1 hp
  refine ⟨fun c => ?_, fun c => ?_⟩
  · have h := h.1 c
    exact ⟨_, rfl, h⟩
  · have h := h.2 c
    exact ⟨_, rfl, h⟩

theorem zX12_allStands_0 {d n : Nat} {S : gS} {P : gS → Int32 → Prop}   (h : gG d mX12_allStands 0 0 (g_Xj mX12_allStands n 0 0 (hPi P)) 4 n (hH S) [some (.ref (180)), some (.int ((0 : Int32))), some (.int ((0 : Int32)))] [] 0 0) : gG d mX12_allStands 0 0 (g_Xj mX12_allStands n 0 0 (hPi P)) 0 n (hH S) [some (.ref (180)), none, none] [] 0 0 := by
  refine kX12_allStands_0  ?_
  exact h
theorem zX12_allStands_4 {d n : Nat} {S : gS} {P : gS → Int32 → Prop} {i1 : Int32} {i2 : Int32}  (h : ((7 : Int32) ≤ i2 → P S (i1)) ∧ (¬ ((7 : Int32) ≤ i2) → vp_in (((5 : Int32) + i2)) 59 ∧ (gG d mX12_allStands 0 0 (g_Xj mX12_allStands n 0 0 (hPi P)) 4 n (hH S) [some (.ref (180)), some (.int ((i1 + (sR S (216) (Int32.toNatClampNeg (((5 : Int32) + i2))))))), some (.int ((i2 + 1)))] [] 0 0))) : gG d mX12_allStands 0 0 (g_Xj mX12_allStands n 0 0 (hPi P)) 4 n (hH S) [some (.ref (180)), some (.int (i1)), some (.int (i2))] [] 0 0 := by
  refine kX12_allStands_4  ?_
  refine ⟨fun c => ?_, fun c => ?_⟩
  · have h := h.1 c
    exact ⟨_, rfl, h⟩
  · have h := h.2 c
    refine q_gc rfl rfl ?_
    obtain ⟨hv1, h⟩ := h
    refine q_al (k := Int32.toNatClampNeg (((5 : Int32) + i2))) rfl (by decide) hv1 rfl ?_
    exact h

theorem zX12_dry_0 {d n : Nat} {S : gS} {P : gS → Int32 → Prop}   (h : ∀ S1, S1 = uI S (180) 0 ((0 : Int32)) → s_cv d mX12_copies n S1 [.ref (216), .int ((0 : Int32)), .ref (218), .int ((0 : Int32))] (fun S2 => gG d mX12_dry 0 0 (g_Xj mX12_dry n 0 0 (hPi P)) 20 n (hH S2) [some (.ref (180)), some (.int ((0 : Int32)))] [] 0 0)) : gG d mX12_dry 0 0 (g_Xj mX12_dry n 0 0 (hPi P)) 0 n (hH S) [some (.ref (180)), none] [] 0 0 := by
  refine kX12_dry_0  ?_
  refine q_pi rfl rfl ?_
  obtain ⟨S1, eS⟩ : ∃ z, z = uI S (180) 0 ((0 : Int32)) := ⟨_, rfl⟩
  rw [← eS]
  have h := h S1 eS
  refine q_gc rfl rfl ?_
  refine q_gc rfl rfl ?_
  obtain ⟨d2, P2, hdd, hC, h⟩ := h
  refine ⟨d2, _, hdd, hC, fun H9 hp => ?_⟩
  obtain ⟨S2, rfl, hp⟩ := hp
  have h := h S2 hp
  exact h
theorem zX12_dry_20 {d n : Nat} {S : gS} {P : gS → Int32 → Prop} {i1 : Int32}  (h : ((60 : Int32) < i1 → gG d mX12_dry 0 0 (g_Xj mX12_dry n 0 0 (hPi P)) 44 n (hH S) [some (.ref (180)), some (.int (i1))] [] 0 0) ∧ (¬ ((60 : Int32) < i1) → s_ci d mX12_allStands n S [.ref (180)] (fun S1 x2 => (x2 ≤ 0 → gG d mX12_dry 0 0 (g_Xj mX12_dry n 0 0 (hPi P)) 44 n (hH S1) [some (.ref (180)), some (.int (i1))] [] 0 0) ∧ (¬ (x2 ≤ 0) → s_ci d mX12_passesAsTold n S1 [.ref (180)] (fun S3 x4 => gG d mX12_dry 0 0 (g_Xj mX12_dry n 0 0 (hPi P)) 20 n (hH S3) [some (.ref (180)), some (.int ((i1 + 1)))] [] 0 0))))) : gG d mX12_dry 0 0 (g_Xj mX12_dry n 0 0 (hPi P)) 20 n (hH S) [some (.ref (180)), some (.int (i1))] [] 0 0 := by
  refine kX12_dry_20  ?_
  refine ⟨fun c => ?_, fun c => ?_⟩
  · have h := h.1 c
    exact h
  · have h := h.2 c
    refine ⟨q_rc rfl, ?_⟩
    obtain ⟨d2, P2, hdd, hC, h⟩ := h
    refine ⟨d2, _, hdd, hC, fun H9 x2 hp => ?_⟩
    obtain ⟨S1, rfl, hp⟩ := hp
    have h := h S1 x2 hp
    refine ⟨fun c => ?_, fun c => ?_⟩
    · have h := h.1 c
      exact h
    · have h := h.2 c
      refine ⟨q_rc rfl, ?_⟩
      obtain ⟨d2, P2, hdd, hC, h⟩ := h
      refine ⟨d2, _, hdd, hC, fun H9 x4 hp => ?_⟩
      obtain ⟨S3, rfl, hp⟩ := hp
      have h := h S3 x4 hp
      exact h
theorem zX12_dry_44 {d n : Nat} {S : gS} {P : gS → Int32 → Prop} {i1 : Int32}  (h : s_cv d mX12_copies n S [.ref (218), .int ((0 : Int32)), .ref (216), .int ((0 : Int32))] (fun S1 => (i1 ≤ (60 : Int32) → P S1 (i1)) ∧ (¬ (i1 ≤ (60 : Int32)) → P S1 ((-1 : Int32))))) : gG d mX12_dry 0 0 (g_Xj mX12_dry n 0 0 (hPi P)) 44 n (hH S) [some (.ref (180)), some (.int (i1))] [] 0 0 := by
  refine kX12_dry_44  ?_
  refine q_gc rfl rfl ?_
  refine q_gc rfl rfl ?_
  obtain ⟨d2, P2, hdd, hC, h⟩ := h
  refine ⟨d2, _, hdd, hC, fun H9 hp => ?_⟩
  obtain ⟨S1, rfl, hp⟩ := hp
  have h := h S1 hp
  refine ⟨fun c => ?_, fun c => ?_⟩
  · have h := h.1 c
    exact ⟨_, rfl, h⟩
  · have h := h.2 c
    exact ⟨_, rfl, h⟩

theorem zX12_spill_0 {d n : Nat} {S : gS} {P : gS → Int32 → Prop} {i1 : Int32}  (h : ∀ S1, S1 = uI S (180) 0 ((0 : Int32)) → s_cz d mX12_within n S1 [.int (i1), .int ((1 : Int32)), .int ((60 : Int32))] (fun S2 b3 => (b3 = true → s_cv d mX12_copies n S2 [.ref (216), .int ((0 : Int32)), .ref (218), .int ((0 : Int32))] (fun S4 => gG d mX12_spill 0 0 (g_Xj mX12_spill n 0 0 (hPi P)) 34 n (hH S4) [some (.ref (180)), some (.int (i1)), some (.int ((0 : Int32))), some (.int ((0 : Int32)))] [] 0 0)) ∧ (b3 = false → P S2 ((-1 : Int32))))) : gG d mX12_spill 0 0 (g_Xj mX12_spill n 0 0 (hPi P)) 0 n (hH S) [some (.ref (180)), some (.int (i1)), none, none] [] 0 0 := by
  refine kX12_spill_0  ?_
  refine q_pi rfl rfl ?_
  obtain ⟨S1, eS⟩ : ∃ z, z = uI S (180) 0 ((0 : Int32)) := ⟨_, rfl⟩
  rw [← eS]
  have h := h S1 eS
  obtain ⟨d2, P2, hdd, hC, h⟩ := h
  refine ⟨d2, _, hdd, hC, fun H9 b3 hp => ?_⟩
  obtain ⟨S2, rfl, hp⟩ := hp
  have h := h S2 b3 hp
  refine ⟨fun c => ?_, fun c => ?_⟩
  · have h := h.1 c
    refine q_gc rfl rfl ?_
    refine q_gc rfl rfl ?_
    obtain ⟨d2, P2, hdd, hC, h⟩ := h
    refine ⟨d2, _, hdd, hC, fun H9 hp => ?_⟩
    obtain ⟨S4, rfl, hp⟩ := hp
    have h := h S4 hp
    exact h
  · have h := h.2 c
    exact ⟨_, rfl, h⟩
theorem zX12_spill_34 {d n : Nat} {S : gS} {P : gS → Int32 → Prop} {i1 : Int32} {i2 : Int32} {i3 : Int32}  (h : (i1 ≤ i3 → s_cv d mX12_copies n S [.ref (218), .int ((0 : Int32)), .ref (216), .int ((0 : Int32))] (fun S1 => P S1 (i2))) ∧ (¬ (i1 ≤ i3) → s_ci d mX12_passesAsTold n S [.ref (180)] (fun S2 x3 => gG d mX12_spill 0 0 (g_Xj mX12_spill n 0 0 (hPi P)) 34 n (hH S2) [some (.ref (180)), some (.int (i1)), some (.int ((i2 + (sI S2 (180) 55)))), some (.int ((i3 + 1)))] [] 0 0))) : gG d mX12_spill 0 0 (g_Xj mX12_spill n 0 0 (hPi P)) 34 n (hH S) [some (.ref (180)), some (.int (i1)), some (.int (i2)), some (.int (i3))] [] 0 0 := by
  refine kX12_spill_34  ?_
  refine ⟨fun c => ?_, fun c => ?_⟩
  · have h := h.1 c
    refine q_gc rfl rfl ?_
    refine q_gc rfl rfl ?_
    obtain ⟨d2, P2, hdd, hC, h⟩ := h
    refine ⟨d2, _, hdd, hC, fun H9 hp => ?_⟩
    obtain ⟨S1, rfl, hp⟩ := hp
    have h := h S1 hp
    exact ⟨_, rfl, h⟩
  · have h := h.2 c
    refine ⟨q_rc rfl, ?_⟩
    obtain ⟨d2, P2, hdd, hC, h⟩ := h
    refine ⟨d2, _, hdd, hC, fun H9 x3 hp => ?_⟩
    obtain ⟨S2, rfl, hp⟩ := hp
    have h := h S2 x3 hp
    refine q_gi rfl rfl ?_
    exact h

theorem zX12_overOf_0 {d n : Nat} {S : gS} {P : gS → Int32 → Prop} {i1 : Int32}  (h : s_cv d mX12_copies n S [.ref (216), .int ((0 : Int32)), .ref (218), .int ((0 : Int32))] (fun S1 => gG d mX12_overOf 0 0 (g_Xj mX12_overOf n 0 0 (hPi P)) 17 n (hH S1) [some (.ref (180)), some (.int (i1)), some (.int ((-1 : Int32))), some (.int ((1 : Int32)))] [] 0 0)) : gG d mX12_overOf 0 0 (g_Xj mX12_overOf n 0 0 (hPi P)) 0 n (hH S) [some (.ref (180)), some (.int (i1)), none, none] [] 0 0 := by
  refine kX12_overOf_0  ?_
  refine q_gc rfl rfl ?_
  refine q_gc rfl rfl ?_
  obtain ⟨d2, P2, hdd, hC, h⟩ := h
  refine ⟨d2, _, hdd, hC, fun H9 hp => ?_⟩
  obtain ⟨S1, rfl, hp⟩ := hp
  have h := h S1 hp
  exact h
theorem zX12_overOf_17 {d n : Nat} {S : gS} {P : gS → Int32 → Prop} {i1 : Int32} {i2 : Int32} {i3 : Int32}  (h : ((60 : Int32) < i3 → gG d mX12_overOf 0 0 (g_Xj mX12_overOf n 0 0 (hPi P)) 49 n (hH S) [some (.ref (180)), some (.int (i1)), some (.int (i2)), none] [] 0 0) ∧ (¬ ((60 : Int32) < i3) → (0 ≤ i2 → gG d mX12_overOf 0 0 (g_Xj mX12_overOf n 0 0 (hPi P)) 49 n (hH S) [some (.ref (180)), some (.int (i1)), some (.int (i2)), none] [] 0 0) ∧ (¬ (0 ≤ i2) → s_ci d mX12_passesAsTold n S [.ref (180)] (fun S1 x2 => (((sI S1 (180) 56) &&& i1) = 0 → gG d mX12_overOf 0 0 (g_Xj mX12_overOf n 0 0 (hPi P)) 17 n (hH S1) [some (.ref (180)), some (.int (i1)), some (.int (i2)), some (.int ((i3 + 1)))] [] 0 0) ∧ (¬ (((sI S1 (180) 56) &&& i1) = 0) → gG d mX12_overOf 0 0 (g_Xj mX12_overOf n 0 0 (hPi P)) 17 n (hH S1) [some (.ref (180)), some (.int (i1)), some (.int (i3)), some (.int ((i3 + 1)))] [] 0 0))))) : gG d mX12_overOf 0 0 (g_Xj mX12_overOf n 0 0 (hPi P)) 17 n (hH S) [some (.ref (180)), some (.int (i1)), some (.int (i2)), some (.int (i3))] [] 0 0 := by
  refine kX12_overOf_17  ?_
  refine ⟨fun c => ?_, fun c => ?_⟩
  · have h := h.1 c
    exact h
  · have h := h.2 c
    refine ⟨fun c => ?_, fun c => ?_⟩
    · have h := h.1 c
      exact h
    · have h := h.2 c
      refine ⟨q_rc rfl, ?_⟩
      obtain ⟨d2, P2, hdd, hC, h⟩ := h
      refine ⟨d2, _, hdd, hC, fun H9 x2 hp => ?_⟩
      obtain ⟨S1, rfl, hp⟩ := hp
      have h := h S1 x2 hp
      refine q_gi rfl rfl ?_
      refine ⟨fun c => ?_, fun c => ?_⟩
      · have h := h.1 c
        exact h
      · have h := h.2 c
        exact h
theorem zX12_overOf_49 {d n : Nat} {S : gS} {P : gS → Int32 → Prop} {i1 : Int32} {i2 : Int32}  (h : ∀ S1, S1 = uI S (180) 56 (((sI S (180) 56) &&& i1)) → s_cv d mX12_copies n S1 [.ref (218), .int ((0 : Int32)), .ref (216), .int ((0 : Int32))] (fun S2 => P S2 (i2))) : gG d mX12_overOf 0 0 (g_Xj mX12_overOf n 0 0 (hPi P)) 49 n (hH S) [some (.ref (180)), some (.int (i1)), some (.int (i2)), none] [] 0 0 := by
  refine kX12_overOf_49  ?_
  refine q_gi rfl rfl ?_
  refine q_pi rfl rfl ?_
  obtain ⟨S1, eS⟩ : ∃ z, z = uI S (180) 56 (((sI S (180) 56) &&& i1)) := ⟨_, rfl⟩
  rw [← eS]
  have h := h S1 eS
  refine q_gc rfl rfl ?_
  refine q_gc rfl rfl ?_
  obtain ⟨d2, P2, hdd, hC, h⟩ := h
  refine ⟨d2, _, hdd, hC, fun H9 hp => ?_⟩
  obtain ⟨S2, rfl, hp⟩ := hp
  have h := h S2 hp
  exact ⟨_, rfl, h⟩

theorem zX12_over_0 {d n : Nat} {S : gS} {P : gS → Int32 → Prop} {i1 : Int32}  (h : ∀ S1, S1 = uI S (180) 0 ((0 : Int32)) → s_cz d mX12_isMouth n S1 [.ref (180), .int (i1)] (fun S2 b3 => (b3 = false → P S2 ((-1 : Int32))) ∧ (b3 = true → s_ci d mX12_overOf n S2 [.ref (180), .int (((1 : Int32) <<< (i1 &&& 31)))] (fun S4 x5 => P S4 (x5))))) : gG d mX12_over 0 0 (g_Xj mX12_over n 0 0 (hPi P)) 0 n (hH S) [some (.ref (180)), some (.int (i1))] [] 0 0 := by
  refine kX12_over_0  ?_
  refine q_pi rfl rfl ?_
  obtain ⟨S1, eS⟩ : ∃ z, z = uI S (180) 0 ((0 : Int32)) := ⟨_, rfl⟩
  rw [← eS]
  have h := h S1 eS
  refine ⟨q_rc rfl, ?_⟩
  obtain ⟨d2, P2, hdd, hC, h⟩ := h
  refine ⟨d2, _, hdd, hC, fun H9 b3 hp => ?_⟩
  obtain ⟨S2, rfl, hp⟩ := hp
  have h := h S2 b3 hp
  refine ⟨fun c => ?_, fun c => ?_⟩
  · have h := h.1 c
    exact ⟨_, rfl, h⟩
  · have h := h.2 c
    refine ⟨q_rc rfl, ?_⟩
    obtain ⟨d2, P2, hdd, hC, h⟩ := h
    refine ⟨d2, _, hdd, hC, fun H9 x5 hp => ?_⟩
    obtain ⟨S4, rfl, hp⟩ := hp
    have h := h S4 x5 hp
    exact ⟨_, rfl, h⟩

theorem zX12_lowest_0 {d n : Nat} {S : gS} {P : gS → Int32 → Prop} {i0 : Int32}  (h : gG d mX12_lowest 0 0 (g_Xj mX12_lowest n 0 0 (hPi P)) 2 n (hH S) [some (.int (i0)), some (.int ((0 : Int32)))] [] 0 0) : gG d mX12_lowest 0 0 (g_Xj mX12_lowest n 0 0 (hPi P)) 0 n (hH S) [some (.int (i0)), none] [] 0 0 := by
  refine kX12_lowest_0  ?_
  exact h
theorem zX12_lowest_2 {d n : Nat} {S : gS} {P : gS → Int32 → Prop} {i0 : Int32} {i1 : Int32}  (h : ((7 : Int32) ≤ i1 → P S ((-1 : Int32))) ∧ (¬ ((7 : Int32) ≤ i1) → (¬ (((i0 >>> (i1 &&& 31)) &&& (1 : Int32)) = (1 : Int32)) → gG d mX12_lowest 0 0 (g_Xj mX12_lowest n 0 0 (hPi P)) 2 n (hH S) [some (.int (i0)), some (.int ((i1 + 1)))] [] 0 0) ∧ (((i0 >>> (i1 &&& 31)) &&& (1 : Int32)) = (1 : Int32) → P S (i1)))) : gG d mX12_lowest 0 0 (g_Xj mX12_lowest n 0 0 (hPi P)) 2 n (hH S) [some (.int (i0)), some (.int (i1))] [] 0 0 := by
  refine kX12_lowest_2  ?_
  refine ⟨fun c => ?_, fun c => ?_⟩
  · have h := h.1 c
    exact ⟨_, rfl, h⟩
  · have h := h.2 c
    refine ⟨fun c => ?_, fun c => ?_⟩
    · have h := h.1 c
      exact h
    · have h := h.2 c
      exact ⟨_, rfl, h⟩

theorem zX12_first_0 {d n : Nat} {S : gS} {P : gS → Int32 → Prop}   (h : ∀ S1, S1 = uI S (180) 0 ((0 : Int32)) → s_ci d mX12_every n S1 [.ref (180)] (fun S2 x3 => s_ci d mX12_overOf n S2 [.ref (180), .int (x3)] (fun S4 x5 => (0 ≤ x5 → s_ci d mX12_lowest n S4 [.int ((sI S4 (180) 56))] (fun S6 x7 => P S6 (x7))) ∧ (¬ (0 ≤ x5) → P S4 ((-1 : Int32)))))) : gG d mX12_first 0 0 (g_Xj mX12_first n 0 0 (hPi P)) 0 n (hH S) [some (.ref (180))] [] 0 0 := by
  refine kX12_first_0  ?_
  refine q_pi rfl rfl ?_
  obtain ⟨S1, eS⟩ : ∃ z, z = uI S (180) 0 ((0 : Int32)) := ⟨_, rfl⟩
  rw [← eS]
  have h := h S1 eS
  refine ⟨q_rc rfl, ?_⟩
  obtain ⟨d2, P2, hdd, hC, h⟩ := h
  refine ⟨d2, _, hdd, hC, fun H9 x3 hp => ?_⟩
  obtain ⟨S2, rfl, hp⟩ := hp
  have h := h S2 x3 hp
  refine ⟨q_rc rfl, ?_⟩
  obtain ⟨d2, P2, hdd, hC, h⟩ := h
  refine ⟨d2, _, hdd, hC, fun H9 x5 hp => ?_⟩
  obtain ⟨S4, rfl, hp⟩ := hp
  have h := h S4 x5 hp
  refine ⟨fun c => ?_, fun c => ?_⟩
  · have h := h.1 c
    refine q_gi rfl rfl ?_
    obtain ⟨d2, P2, hdd, hC, h⟩ := h
    refine ⟨d2, _, hdd, hC, fun H9 x7 hp => ?_⟩
    obtain ⟨S6, rfl, hp⟩ := hp
    have h := h S6 x7 hp
    exact ⟨_, rfl, h⟩
  · have h := h.2 c
    exact ⟨_, rfl, h⟩

theorem zX12_great_0 {d n : Nat} {S : gS} {P : gS → Int32 → Prop} {i1 : Int32}  (h : ∀ S1, S1 = uI S (180) 0 ((0 : Int32)) → s_cz d mX12_within n S1 [.int (i1), .int ((1 : Int32)), .int ((60 : Int32))] (fun S2 b3 => (b3 = true → s_cv d mX12_copies n S2 [.ref (216), .int ((0 : Int32)), .ref (218), .int ((0 : Int32))] (fun S4 => gG d mX12_great 0 0 (g_Xj mX12_great n 0 0 (hPi P)) 32 n (hH S4) [some (.ref (180)), some (.int (i1)), some (.int ((0 : Int32))), none] [] 0 0)) ∧ (b3 = false → P S2 ((-1 : Int32))))) : gG d mX12_great 0 0 (g_Xj mX12_great n 0 0 (hPi P)) 0 n (hH S) [some (.ref (180)), some (.int (i1)), none, none] [] 0 0 := by
  refine kX12_great_0  ?_
  refine q_pi rfl rfl ?_
  obtain ⟨S1, eS⟩ : ∃ z, z = uI S (180) 0 ((0 : Int32)) := ⟨_, rfl⟩
  rw [← eS]
  have h := h S1 eS
  obtain ⟨d2, P2, hdd, hC, h⟩ := h
  refine ⟨d2, _, hdd, hC, fun H9 b3 hp => ?_⟩
  obtain ⟨S2, rfl, hp⟩ := hp
  have h := h S2 b3 hp
  refine ⟨fun c => ?_, fun c => ?_⟩
  · have h := h.1 c
    refine q_gc rfl rfl ?_
    refine q_gc rfl rfl ?_
    obtain ⟨d2, P2, hdd, hC, h⟩ := h
    refine ⟨d2, _, hdd, hC, fun H9 hp => ?_⟩
    obtain ⟨S4, rfl, hp⟩ := hp
    have h := h S4 hp
    exact h
  · have h := h.2 c
    exact ⟨_, rfl, h⟩
theorem zX12_great_32 {d n : Nat} {S : gS} {P : gS → Int32 → Prop} {i1 : Int32} {i2 : Int32}  (h : ((7 : Int32) ≤ i2 → gG d mX12_great 0 0 (g_Xj mX12_great n 0 0 (hPi P)) 53 n (hH S) [some (.ref (180)), some (.int (i1)), some (.int ((0 : Int32))), none] [] 0 0) ∧ (¬ ((7 : Int32) ≤ i2) → vp_in (i2) 7 ∧ (∀ S2, S2 = uR S (223) (Int32.toNatClampNeg (i2)) ((0 : Int32)) → gG d mX12_great 0 0 (g_Xj mX12_great n 0 0 (hPi P)) 32 n (hH S2) [some (.ref (180)), some (.int (i1)), some (.int ((i2 + 1))), none] [] 0 0))) : gG d mX12_great 0 0 (g_Xj mX12_great n 0 0 (hPi P)) 32 n (hH S) [some (.ref (180)), some (.int (i1)), some (.int (i2)), none] [] 0 0 := by
  refine kX12_great_32  ?_
  refine ⟨fun c => ?_, fun c => ?_⟩
  · have h := h.1 c
    exact h
  · have h := h.2 c
    refine q_gc rfl rfl ?_
    obtain ⟨hv1, h⟩ := h
    refine q_as (k := Int32.toNatClampNeg (i2)) rfl (by decide) hv1 rfl ?_
    obtain ⟨S2, eS⟩ : ∃ z, z = uR S (223) (Int32.toNatClampNeg (i2)) ((0 : Int32)) := ⟨_, rfl⟩
    rw [← eS]
    have h := h S2 eS
    exact h
theorem zX12_great_53 {d n : Nat} {S : gS} {P : gS → Int32 → Prop} {i1 : Int32} {i2 : Int32}  (h : (i1 ≤ i2 → s_cv d mX12_copies n S [.ref (218), .int ((0 : Int32)), .ref (216), .int ((0 : Int32))] (fun S1 => gG d mX12_great 0 0 (g_Xj mX12_great n 0 0 (hPi P)) 122 n (hH S1) [some (.ref (180)), none, some (.int ((-1 : Int32))), some (.int ((0 : Int32)))] [] 0 0)) ∧ (¬ (i1 ≤ i2) → s_ci d mX12_passesAsTold n S [.ref (180)] (fun S2 x3 => gG d mX12_great 0 0 (g_Xj mX12_great n 0 0 (hPi P)) 65 n (hH S2) [some (.ref (180)), some (.int (i1)), some (.int (i2)), some (.int ((0 : Int32)))] [] 0 0))) : gG d mX12_great 0 0 (g_Xj mX12_great n 0 0 (hPi P)) 53 n (hH S) [some (.ref (180)), some (.int (i1)), some (.int (i2)), none] [] 0 0 := by
  refine kX12_great_53  ?_
  refine ⟨fun c => ?_, fun c => ?_⟩
  · have h := h.1 c
    refine q_gc rfl rfl ?_
    refine q_gc rfl rfl ?_
    obtain ⟨d2, P2, hdd, hC, h⟩ := h
    refine ⟨d2, _, hdd, hC, fun H9 hp => ?_⟩
    obtain ⟨S1, rfl, hp⟩ := hp
    have h := h S1 hp
    exact h
  · have h := h.2 c
    refine ⟨q_rc rfl, ?_⟩
    obtain ⟨d2, P2, hdd, hC, h⟩ := h
    refine ⟨d2, _, hdd, hC, fun H9 x3 hp => ?_⟩
    obtain ⟨S2, rfl, hp⟩ := hp
    have h := h S2 x3 hp
    exact h
theorem zX12_great_65 {d n : Nat} {S : gS} {P : gS → Int32 → Prop} {i1 : Int32} {i2 : Int32} {i3 : Int32}  (h : (((sR S (182) (0)) ≤ i3 → gG d mX12_great 0 0 (g_Xj mX12_great n 0 0 (hPi P)) 53 n (hH S) [some (.ref (180)), some (.int (i1)), some (.int ((i2 + 1))), none] [] 0 0) ∧ (¬ ((sR S (182) (0)) ≤ i3) → vp_in (i3) 7 ∧ (vp_in (((12 : Int32) + i3)) 59 ∧ ((∀ S3, S3 = uR S (223) (Int32.toNatClampNeg (i3)) (((sR S (223) (Int32.toNatClampNeg (i3))) + (sR S (216) (Int32.toNatClampNeg (((12 : Int32) + i3)))))) → gG d mX12_great 0 0 (g_Xj mX12_great n 0 0 (hPi P)) 65 n (hH S3) [some (.ref (180)), some (.int (i1)), some (.int (i2)), some (.int ((i3 + 1)))] [] 0 0)))))) : gG d mX12_great 0 0 (g_Xj mX12_great n 0 0 (hPi P)) 65 n (hH S) [some (.ref (180)), some (.int (i1)), some (.int (i2)), some (.int (i3))] [] 0 0 := by
  refine kX12_great_65  ?_
  refine q_gc rfl rfl ?_
  refine q_al (k := 0) rfl (by decide) (vp_l (by decide)) (by decide) ?_
  refine ⟨fun c => ?_, fun c => ?_⟩
  · have h := h.1 c
    exact h
  · have h := h.2 c
    refine q_gc rfl rfl ?_
    obtain ⟨hv1, h⟩ := h
    refine q_al (k := Int32.toNatClampNeg (i3)) rfl (by decide) hv1 rfl ?_
    refine q_gc rfl rfl ?_
    obtain ⟨hv2, h⟩ := h
    refine q_al (k := Int32.toNatClampNeg (((12 : Int32) + i3))) rfl (by decide) hv2 rfl ?_
    refine q_as (k := Int32.toNatClampNeg (i3)) rfl (by decide) hv1 rfl ?_
    obtain ⟨S3, eS⟩ : ∃ z, z = uR S (223) (Int32.toNatClampNeg (i3)) (((sR S (223) (Int32.toNatClampNeg (i3))) + (sR S (216) (Int32.toNatClampNeg (((12 : Int32) + i3)))))) := ⟨_, rfl⟩
    rw [← eS]
    have h := h S3 eS
    exact h
theorem zX12_great_122 {d n : Nat} {S : gS} {P : gS → Int32 → Prop} {i2 : Int32} {i3 : Int32}  (h : (((sR S (182) (0)) ≤ i3 → P S (i2)) ∧ (¬ ((sR S (182) (0)) ≤ i3) → (i2 < 0 → gG d mX12_great 0 0 (g_Xj mX12_great n 0 0 (hPi P)) 122 n (hH S) [some (.ref (180)), none, some (.int (i3)), some (.int ((i3 + 1)))] [] 0 0) ∧ (¬ (i2 < 0) → vp_in (i3) 7 ∧ (vp_in (i2) 7 ∧ (((sR S (223) (Int32.toNatClampNeg (i3))) ≤ (sR S (223) (Int32.toNatClampNeg (i2))) → gG d mX12_great 0 0 (g_Xj mX12_great n 0 0 (hPi P)) 122 n (hH S) [some (.ref (180)), none, some (.int (i2)), some (.int ((i3 + 1)))] [] 0 0) ∧ (¬ ((sR S (223) (Int32.toNatClampNeg (i3))) ≤ (sR S (223) (Int32.toNatClampNeg (i2)))) → gG d mX12_great 0 0 (g_Xj mX12_great n 0 0 (hPi P)) 122 n (hH S) [some (.ref (180)), none, some (.int (i3)), some (.int ((i3 + 1)))] [] 0 0))))))) : gG d mX12_great 0 0 (g_Xj mX12_great n 0 0 (hPi P)) 122 n (hH S) [some (.ref (180)), none, some (.int (i2)), some (.int (i3))] [] 0 0 := by
  refine kX12_great_122  ?_
  refine q_gc rfl rfl ?_
  refine q_al (k := 0) rfl (by decide) (vp_l (by decide)) (by decide) ?_
  refine ⟨fun c => ?_, fun c => ?_⟩
  · have h := h.1 c
    exact ⟨_, rfl, h⟩
  · have h := h.2 c
    refine ⟨fun c => ?_, fun c => ?_⟩
    · have h := h.1 c
      exact h
    · have h := h.2 c
      refine q_gc rfl rfl ?_
      obtain ⟨hv1, h⟩ := h
      refine q_al (k := Int32.toNatClampNeg (i3)) rfl (by decide) hv1 rfl ?_
      refine q_gc rfl rfl ?_
      obtain ⟨hv2, h⟩ := h
      refine q_al (k := Int32.toNatClampNeg (i2)) rfl (by decide) hv2 rfl ?_
      refine ⟨fun c => ?_, fun c => ?_⟩
      · have h := h.1 c
        exact h
      · have h := h.2 c
        exact h

theorem zX12_twins_0 {d n : Nat} {S : gS} {P : gS → Int32 → Prop} {i1 : Int32}  (h : ∀ S1, S1 = uI S (180) 0 ((0 : Int32)) → s_cz d mX12_within n S1 [.int (i1), .int ((1 : Int32)), .int ((60 : Int32))] (fun S2 b3 => (b3 = true → s_cv d mX12_copies n S2 [.ref (216), .int ((0 : Int32)), .ref (218), .int ((0 : Int32))] (fun S4 => gG d mX12_twins 0 0 (g_Xj mX12_twins n 0 0 (hPi P)) 32 n (hH S4) [some (.ref (180)), some (.int (i1)), some (.int ((0 : Int32))), none, none] [] 0 0)) ∧ (b3 = false → P S2 ((-1 : Int32))))) : gG d mX12_twins 0 0 (g_Xj mX12_twins n 0 0 (hPi P)) 0 n (hH S) [some (.ref (180)), some (.int (i1)), none, none, none] [] 0 0 := by
  refine kX12_twins_0  ?_
  refine q_pi rfl rfl ?_
  obtain ⟨S1, eS⟩ : ∃ z, z = uI S (180) 0 ((0 : Int32)) := ⟨_, rfl⟩
  rw [← eS]
  have h := h S1 eS
  obtain ⟨d2, P2, hdd, hC, h⟩ := h
  refine ⟨d2, _, hdd, hC, fun H9 b3 hp => ?_⟩
  obtain ⟨S2, rfl, hp⟩ := hp
  have h := h S2 b3 hp
  refine ⟨fun c => ?_, fun c => ?_⟩
  · have h := h.1 c
    refine q_gc rfl rfl ?_
    refine q_gc rfl rfl ?_
    obtain ⟨d2, P2, hdd, hC, h⟩ := h
    refine ⟨d2, _, hdd, hC, fun H9 hp => ?_⟩
    obtain ⟨S4, rfl, hp⟩ := hp
    have h := h S4 hp
    exact h
  · have h := h.2 c
    exact ⟨_, rfl, h⟩
theorem zX12_twins_32 {d n : Nat} {S : gS} {P : gS → Int32 → Prop} {i1 : Int32} {i2 : Int32}  (h : ((7 : Int32) ≤ i2 → gG d mX12_twins 0 0 (g_Xj mX12_twins n 0 0 (hPi P)) 53 n (hH S) [some (.ref (180)), some (.int (i1)), some (.int ((0 : Int32))), none, none] [] 0 0) ∧ (¬ ((7 : Int32) ≤ i2) → vp_in (i2) 7 ∧ (∀ S2, S2 = uR S (223) (Int32.toNatClampNeg (i2)) ((0 : Int32)) → gG d mX12_twins 0 0 (g_Xj mX12_twins n 0 0 (hPi P)) 32 n (hH S2) [some (.ref (180)), some (.int (i1)), some (.int ((i2 + 1))), none, none] [] 0 0))) : gG d mX12_twins 0 0 (g_Xj mX12_twins n 0 0 (hPi P)) 32 n (hH S) [some (.ref (180)), some (.int (i1)), some (.int (i2)), none, none] [] 0 0 := by
  refine kX12_twins_32  ?_
  refine ⟨fun c => ?_, fun c => ?_⟩
  · have h := h.1 c
    exact h
  · have h := h.2 c
    refine q_gc rfl rfl ?_
    obtain ⟨hv1, h⟩ := h
    refine q_as (k := Int32.toNatClampNeg (i2)) rfl (by decide) hv1 rfl ?_
    obtain ⟨S2, eS⟩ : ∃ z, z = uR S (223) (Int32.toNatClampNeg (i2)) ((0 : Int32)) := ⟨_, rfl⟩
    rw [← eS]
    have h := h S2 eS
    exact h
theorem zX12_twins_53 {d n : Nat} {S : gS} {P : gS → Int32 → Prop} {i1 : Int32} {i2 : Int32}  (h : (i1 ≤ i2 → s_cv d mX12_copies n S [.ref (218), .int ((0 : Int32)), .ref (216), .int ((0 : Int32))] (fun S1 => gG d mX12_twins 0 0 (g_Xj mX12_twins n 0 0 (hPi P)) 158 n (hH S1) [some (.ref (180)), none, some (.int ((0 : Int32))), some (.int ((0 : Int32))), none] [] 0 0)) ∧ (¬ (i1 ≤ i2) → s_ci d mX12_passesAsTold n S [.ref (180)] (fun S2 x3 => gG d mX12_twins 0 0 (g_Xj mX12_twins n 0 0 (hPi P)) 65 n (hH S2) [some (.ref (180)), some (.int (i1)), some (.int (i2)), some (.int ((0 : Int32))), none] [] 0 0))) : gG d mX12_twins 0 0 (g_Xj mX12_twins n 0 0 (hPi P)) 53 n (hH S) [some (.ref (180)), some (.int (i1)), some (.int (i2)), none, none] [] 0 0 := by
  refine kX12_twins_53  ?_
  refine ⟨fun c => ?_, fun c => ?_⟩
  · have h := h.1 c
    refine q_gc rfl rfl ?_
    refine q_gc rfl rfl ?_
    obtain ⟨d2, P2, hdd, hC, h⟩ := h
    refine ⟨d2, _, hdd, hC, fun H9 hp => ?_⟩
    obtain ⟨S1, rfl, hp⟩ := hp
    have h := h S1 hp
    exact h
  · have h := h.2 c
    refine ⟨q_rc rfl, ?_⟩
    obtain ⟨d2, P2, hdd, hC, h⟩ := h
    refine ⟨d2, _, hdd, hC, fun H9 x3 hp => ?_⟩
    obtain ⟨S2, rfl, hp⟩ := hp
    have h := h S2 x3 hp
    exact h
theorem zX12_twins_65 {d n : Nat} {S : gS} {P : gS → Int32 → Prop} {i1 : Int32} {i2 : Int32} {i3 : Int32}  (h : (((sR S (182) (0)) ≤ i3 → gG d mX12_twins 0 0 (g_Xj mX12_twins n 0 0 (hPi P)) 53 n (hH S) [some (.ref (180)), some (.int (i1)), some (.int ((i2 + 1))), none, none] [] 0 0) ∧ (¬ ((sR S (182) (0)) ≤ i3) → gG d mX12_twins 0 0 (g_Xj mX12_twins n 0 0 (hPi P)) 78 n (hH S) [some (.ref (180)), some (.int (i1)), some (.int (i2)), some (.int (i3)), some (.int ((0 : Int32)))] [] 0 0))) : gG d mX12_twins 0 0 (g_Xj mX12_twins n 0 0 (hPi P)) 65 n (hH S) [some (.ref (180)), some (.int (i1)), some (.int (i2)), some (.int (i3)), none] [] 0 0 := by
  refine kX12_twins_65  ?_
  refine q_gc rfl rfl ?_
  refine q_al (k := 0) rfl (by decide) (vp_l (by decide)) (by decide) ?_
  refine ⟨fun c => ?_, fun c => ?_⟩
  · have h := h.1 c
    exact h
  · have h := h.2 c
    exact h
theorem zX12_twins_78 {d n : Nat} {S : gS} {P : gS → Int32 → Prop} {i1 : Int32} {i2 : Int32} {i3 : Int32} {i4 : Int32}  (h : (i3 ≤ i4 → gG d mX12_twins 0 0 (g_Xj mX12_twins n 0 0 (hPi P)) 65 n (hH S) [some (.ref (180)), some (.int (i1)), some (.int (i2)), some (.int ((i3 + 1))), none] [] 0 0) ∧ (¬ (i3 ≤ i4) → vp_in (i3) 7 ∧ (vp_in (((12 : Int32) + i3)) 59 ∧ (vp_in (((12 : Int32) + i4)) 59 ∧ (((sR S (216) (Int32.toNatClampNeg (((12 : Int32) + i3)))) = (sR S (216) (Int32.toNatClampNeg (((12 : Int32) + i4)))) → (∀ S4, S4 = uR S (223) (Int32.toNatClampNeg (i3)) (((sR S (223) (Int32.toNatClampNeg (i3))) ||| (0 : Int32))) → gG d mX12_twins 0 0 (g_Xj mX12_twins n 0 0 (hPi P)) 78 n (hH S4) [some (.ref (180)), some (.int (i1)), some (.int (i2)), some (.int (i3)), some (.int ((i4 + 1)))] [] 0 0)) ∧ (¬ ((sR S (216) (Int32.toNatClampNeg (((12 : Int32) + i3)))) = (sR S (216) (Int32.toNatClampNeg (((12 : Int32) + i4))))) → (∀ S5, S5 = uR S (223) (Int32.toNatClampNeg (i3)) (((sR S (223) (Int32.toNatClampNeg (i3))) ||| ((1 : Int32) <<< (i4 &&& 31)))) → gG d mX12_twins 0 0 (g_Xj mX12_twins n 0 0 (hPi P)) 78 n (hH S5) [some (.ref (180)), some (.int (i1)), some (.int (i2)), some (.int (i3)), some (.int ((i4 + 1)))] [] 0 0))))))) : gG d mX12_twins 0 0 (g_Xj mX12_twins n 0 0 (hPi P)) 78 n (hH S) [some (.ref (180)), some (.int (i1)), some (.int (i2)), some (.int (i3)), some (.int (i4))] [] 0 0 := by
  refine kX12_twins_78  ?_
  refine ⟨fun c => ?_, fun c => ?_⟩
  · have h := h.1 c
    exact h
  · have h := h.2 c
    refine q_gc rfl rfl ?_
    obtain ⟨hv1, h⟩ := h
    refine q_al (k := Int32.toNatClampNeg (i3)) rfl (by decide) hv1 rfl ?_
    refine q_gc rfl rfl ?_
    obtain ⟨hv2, h⟩ := h
    refine q_al (k := Int32.toNatClampNeg (((12 : Int32) + i3))) rfl (by decide) hv2 rfl ?_
    refine q_gc rfl rfl ?_
    obtain ⟨hv3, h⟩ := h
    refine q_al (k := Int32.toNatClampNeg (((12 : Int32) + i4))) rfl (by decide) hv3 rfl ?_
    refine ⟨fun c => ?_, fun c => ?_⟩
    · have h := h.1 c
      refine q_as (k := Int32.toNatClampNeg (i3)) rfl (by decide) hv1 rfl ?_
      obtain ⟨S4, eS⟩ : ∃ z, z = uR S (223) (Int32.toNatClampNeg (i3)) (((sR S (223) (Int32.toNatClampNeg (i3))) ||| (0 : Int32))) := ⟨_, rfl⟩
      rw [← eS]
      have h := h S4 eS
      exact h
    · have h := h.2 c
      refine q_as (k := Int32.toNatClampNeg (i3)) rfl (by decide) hv1 rfl ?_
      obtain ⟨S5, eS⟩ : ∃ z, z = uR S (223) (Int32.toNatClampNeg (i3)) (((sR S (223) (Int32.toNatClampNeg (i3))) ||| ((1 : Int32) <<< (i4 &&& 31)))) := ⟨_, rfl⟩
      rw [← eS]
      have h := h S5 eS
      exact h
theorem zX12_twins_158 {d n : Nat} {S : gS} {P : gS → Int32 → Prop} {i2 : Int32} {i3 : Int32}  (h : (((sR S (182) (0)) ≤ i3 → P S (i2)) ∧ (¬ ((sR S (182) (0)) ≤ i3) → vp_in (i3) 7 ∧ (s_ci d mX12_bits n S [.int ((sR S (223) (Int32.toNatClampNeg (i3))))] (fun S2 x3 => gG d mX12_twins 0 0 (g_Xj mX12_twins n 0 0 (hPi P)) 158 n (hH S2) [some (.ref (180)), none, some (.int ((i2 + (i3 - x3)))), some (.int ((i3 + 1))), none] [] 0 0))))) : gG d mX12_twins 0 0 (g_Xj mX12_twins n 0 0 (hPi P)) 158 n (hH S) [some (.ref (180)), none, some (.int (i2)), some (.int (i3)), none] [] 0 0 := by
  refine kX12_twins_158  ?_
  refine q_gc rfl rfl ?_
  refine q_al (k := 0) rfl (by decide) (vp_l (by decide)) (by decide) ?_
  refine ⟨fun c => ?_, fun c => ?_⟩
  · have h := h.1 c
    exact ⟨_, rfl, h⟩
  · have h := h.2 c
    refine q_gc rfl rfl ?_
    obtain ⟨hv1, h⟩ := h
    refine q_al (k := Int32.toNatClampNeg (i3)) rfl (by decide) hv1 rfl ?_
    obtain ⟨d2, P2, hdd, hC, h⟩ := h
    refine ⟨d2, _, hdd, hC, fun H9 x3 hp => ?_⟩
    obtain ⟨S2, rfl, hp⟩ := hp
    have h := h S2 x3 hp
    exact h

theorem zX12_downOf_0 {d n : Nat} {S : gS} {P : gS → Int32 → Prop} {i1 : Int32}  (h : vp_in (i1) 14 ∧ (gG d mX12_downOf 0 0 (g_Xj mX12_downOf n 0 0 (hPi P)) 9 n (hH S) [some (.ref (180)), none, some (.int ((0 : Int32))), some (.int ((sR S (189) (Int32.toNatClampNeg (i1)))))] [] 0 0)) : gG d mX12_downOf 0 0 (g_Xj mX12_downOf n 0 0 (hPi P)) 0 n (hH S) [some (.ref (180)), some (.int (i1)), none, none] [] 0 0 := by
  refine kX12_downOf_0  ?_
  refine q_gc rfl rfl ?_
  obtain ⟨hv1, h⟩ := h
  refine q_al (k := Int32.toNatClampNeg (i1)) rfl (by decide) hv1 rfl ?_
  exact h
theorem zX12_downOf_9 {d n : Nat} {S : gS} {P : gS → Int32 → Prop} {i2 : Int32} {i3 : Int32}  (h : (i3 < 0 → P S (i2)) ∧ (¬ (i3 < 0) → vp_in (i3) 14 ∧ (gG d mX12_downOf 0 0 (g_Xj mX12_downOf n 0 0 (hPi P)) 9 n (hH S) [some (.ref (180)), none, some (.int ((i2 ||| ((1 : Int32) <<< (i3 &&& 31))))), some (.int ((sR S (189) (Int32.toNatClampNeg (i3)))))] [] 0 0))) : gG d mX12_downOf 0 0 (g_Xj mX12_downOf n 0 0 (hPi P)) 9 n (hH S) [some (.ref (180)), none, some (.int (i2)), some (.int (i3))] [] 0 0 := by
  refine kX12_downOf_9  ?_
  refine ⟨fun c => ?_, fun c => ?_⟩
  · have h := h.1 c
    exact ⟨_, rfl, h⟩
  · have h := h.2 c
    refine q_gc rfl rfl ?_
    obtain ⟨hv1, h⟩ := h
    refine q_al (k := Int32.toNatClampNeg (i3)) rfl (by decide) hv1 rfl ?_
    exact h

theorem zX12_down_0 {d n : Nat} {S : gS} {P : gS → Int32 → Prop} {i1 : Int32}  (h : ∀ S1, S1 = uI S (180) 0 ((0 : Int32)) → s_cz d mX12_isMouth n S1 [.ref (180), .int (i1)] (fun S2 b3 => (b3 = false → P S2 ((-1 : Int32))) ∧ (b3 = true → s_ci d mX12_downOf n S2 [.ref (180), .int (i1)] (fun S4 x5 => P S4 (x5))))) : gG d mX12_down 0 0 (g_Xj mX12_down n 0 0 (hPi P)) 0 n (hH S) [some (.ref (180)), some (.int (i1))] [] 0 0 := by
  refine kX12_down_0  ?_
  refine q_pi rfl rfl ?_
  obtain ⟨S1, eS⟩ : ∃ z, z = uI S (180) 0 ((0 : Int32)) := ⟨_, rfl⟩
  rw [← eS]
  have h := h S1 eS
  refine ⟨q_rc rfl, ?_⟩
  obtain ⟨d2, P2, hdd, hC, h⟩ := h
  refine ⟨d2, _, hdd, hC, fun H9 b3 hp => ?_⟩
  obtain ⟨S2, rfl, hp⟩ := hp
  have h := h S2 b3 hp
  refine ⟨fun c => ?_, fun c => ?_⟩
  · have h := h.1 c
    exact ⟨_, rfl, h⟩
  · have h := h.2 c
    refine ⟨q_rc rfl, ?_⟩
    obtain ⟨d2, P2, hdd, hC, h⟩ := h
    refine ⟨d2, _, hdd, hC, fun H9 x5 hp => ?_⟩
    obtain ⟨S4, rfl, hp⟩ := hp
    have h := h S4 x5 hp
    exact ⟨_, rfl, h⟩

theorem zX12_up_0 {d n : Nat} {S : gS} {P : gS → Int32 → Prop} {i1 : Int32}  (h : ∀ S1, S1 = uI S (180) 0 ((0 : Int32)) → s_cz d mX12_isMouth n S1 [.ref (180), .int (i1)] (fun S2 b3 => (b3 = true → gG d mX12_up 0 0 (g_Xj mX12_up n 0 0 (hPi P)) 19 n (hH S2) [some (.ref (180)), some (.int (i1)), some (.int ((0 : Int32))), some (.int ((0 : Int32)))] [] 0 0) ∧ (b3 = false → P S2 ((-1 : Int32))))) : gG d mX12_up 0 0 (g_Xj mX12_up n 0 0 (hPi P)) 0 n (hH S) [some (.ref (180)), some (.int (i1)), none, none] [] 0 0 := by
  refine kX12_up_0  ?_
  refine q_pi rfl rfl ?_
  obtain ⟨S1, eS⟩ : ∃ z, z = uI S (180) 0 ((0 : Int32)) := ⟨_, rfl⟩
  rw [← eS]
  have h := h S1 eS
  refine ⟨q_rc rfl, ?_⟩
  obtain ⟨d2, P2, hdd, hC, h⟩ := h
  refine ⟨d2, _, hdd, hC, fun H9 b3 hp => ?_⟩
  obtain ⟨S2, rfl, hp⟩ := hp
  have h := h S2 b3 hp
  refine ⟨fun c => ?_, fun c => ?_⟩
  · have h := h.1 c
    exact h
  · have h := h.2 c
    exact ⟨_, rfl, h⟩
theorem zX12_up_19 {d n : Nat} {S : gS} {P : gS → Int32 → Prop} {i1 : Int32} {i2 : Int32} {i3 : Int32}  (h : (((sR S (182) (0)) ≤ i3 → P S (i2)) ∧ (¬ ((sR S (182) (0)) ≤ i3) → s_ci d mX12_downOf n S [.ref (180), .int (i3)] (fun S1 x2 => gG d mX12_up 0 0 (g_Xj mX12_up n 0 0 (hPi P)) 19 n (hH S1) [some (.ref (180)), some (.int (i1)), some (.int ((i2 ||| (((x2 >>> (i1 &&& 31)) &&& (1 : Int32)) <<< (i3 &&& 31))))), some (.int ((i3 + 1)))] [] 0 0)))) : gG d mX12_up 0 0 (g_Xj mX12_up n 0 0 (hPi P)) 19 n (hH S) [some (.ref (180)), some (.int (i1)), some (.int (i2)), some (.int (i3))] [] 0 0 := by
  refine kX12_up_19  ?_
  refine q_gc rfl rfl ?_
  refine q_al (k := 0) rfl (by decide) (vp_l (by decide)) (by decide) ?_
  refine ⟨fun c => ?_, fun c => ?_⟩
  · have h := h.1 c
    exact ⟨_, rfl, h⟩
  · have h := h.2 c
    refine ⟨q_rc rfl, ?_⟩
    obtain ⟨d2, P2, hdd, hC, h⟩ := h
    refine ⟨d2, _, hdd, hC, fun H9 x2 hp => ?_⟩
    obtain ⟨S1, rfl, hp⟩ := hp
    have h := h S1 x2 hp
    exact h

theorem zX12_chain_0 {d n : Nat} {S : gS} {P : gS → Int32 → Prop}   (h : ∀ S1, S1 = uI S (180) 0 ((0 : Int32)) → gG d mX12_chain 0 0 (g_Xj mX12_chain n 0 0 (hPi P)) 9 n (hH S1) [some (.ref (180)), some (.int ((0 : Int32))), some (.int ((0 : Int32)))] [] 0 0) : gG d mX12_chain 0 0 (g_Xj mX12_chain n 0 0 (hPi P)) 0 n (hH S) [some (.ref (180)), none, none] [] 0 0 := by
  refine kX12_chain_0  ?_
  refine q_pi rfl rfl ?_
  obtain ⟨S1, eS⟩ : ∃ z, z = uI S (180) 0 ((0 : Int32)) := ⟨_, rfl⟩
  rw [← eS]
  have h := h S1 eS
  exact h
theorem zX12_chain_9 {d n : Nat} {S : gS} {P : gS → Int32 → Prop} {i1 : Int32} {i2 : Int32}  (hd1 : 1 ≤ d) (h : (((sR S (182) (0)) ≤ i2 → P S (i1)) ∧ (¬ ((sR S (182) (0)) ≤ i2) → s_ci d mX12_downOf n S [.ref (180), .int (i2)] (fun S1 x2 => s_ci d mX12_bits n S1 [.int (x2)] (fun S3 x4 => gG d mX12_chain 0 0 (g_Xj mX12_chain n 0 0 (hPi P)) 9 n (hH S3) [some (.ref (180)), some (.int ((if i1 < ((1 : Int32) + x4) then ((1 : Int32) + x4) else i1))), some (.int ((i2 + 1)))] [] 0 0))))) : gG d mX12_chain 0 0 (g_Xj mX12_chain n 0 0 (hPi P)) 9 n (hH S) [some (.ref (180)), some (.int (i1)), some (.int (i2))] [] 0 0 := by
  refine kX12_chain_9 hd1 ?_
  refine q_gc rfl rfl ?_
  refine q_al (k := 0) rfl (by decide) (vp_l (by decide)) (by decide) ?_
  refine ⟨fun c => ?_, fun c => ?_⟩
  · have h := h.1 c
    exact ⟨_, rfl, h⟩
  · have h := h.2 c
    refine ⟨q_rc rfl, ?_⟩
    obtain ⟨d2, P2, hdd, hC, h⟩ := h
    refine ⟨d2, _, hdd, hC, fun H9 x2 hp => ?_⟩
    obtain ⟨S1, rfl, hp⟩ := hp
    have h := h S1 x2 hp
    obtain ⟨d2, P2, hdd, hC, h⟩ := h
    refine ⟨d2, _, hdd, hC, fun H9 x4 hp => ?_⟩
    obtain ⟨S3, rfl, hp⟩ := hp
    have h := h S3 x4 hp
    exact h

theorem zX12_sounds_0 {d n : Nat} {S : gS} {P : gS → Int32 → Prop}   (h : ∀ S1, S1 = uI S (180) 0 ((0 : Int32)) → (P S1 ((sR S1 (216) (2))))) : gG d mX12_sounds 0 0 (g_Xj mX12_sounds n 0 0 (hPi P)) 0 n (hH S) [some (.ref (180))] [] 0 0 := by
  refine kX12_sounds_0  ?_
  refine q_pi rfl rfl ?_
  obtain ⟨S1, eS⟩ : ∃ z, z = uI S (180) 0 ((0 : Int32)) := ⟨_, rfl⟩
  rw [← eS]
  have h := h S1 eS
  refine q_gc rfl rfl ?_
  refine q_al (k := 2) rfl (by decide) (vp_l (by decide)) (by decide) ?_
  exact ⟨_, rfl, h⟩

theorem zX12_last_0 {d n : Nat} {S : gS} {P : gS → Int32 → Prop}   (h : ∀ S1, S1 = uI S (180) 0 ((0 : Int32)) → (P S1 ((sR S1 (216) (3))))) : gG d mX12_last 0 0 (g_Xj mX12_last n 0 0 (hPi P)) 0 n (hH S) [some (.ref (180))] [] 0 0 := by
  refine kX12_last_0  ?_
  refine q_pi rfl rfl ?_
  obtain ⟨S1, eS⟩ : ∃ z, z = uI S (180) 0 ((0 : Int32)) := ⟨_, rfl⟩
  rw [← eS]
  have h := h S1 eS
  refine q_gc rfl rfl ?_
  refine q_al (k := 3) rfl (by decide) (vp_l (by decide)) (by decide) ?_
  exact ⟨_, rfl, h⟩

theorem zX12_often_0 {d n : Nat} {S : gS} {P : gS → Int32 → Prop}   (h : ∀ S1, S1 = uI S (180) 0 ((0 : Int32)) → gG d mX12_often 0 0 (g_Xj mX12_often n 0 0 (hPi P)) 11 n (hH S1) [some (.ref (180)), some (.int ((-1 : Int32))), some (.int ((0 : Int32))), some (.int ((0 : Int32))), none, none] [] 0 0) : gG d mX12_often 0 0 (g_Xj mX12_often n 0 0 (hPi P)) 0 n (hH S) [some (.ref (180)), none, none, none, none, none] [] 0 0 := by
  refine kX12_often_0  ?_
  refine q_pi rfl rfl ?_
  obtain ⟨S1, eS⟩ : ∃ z, z = uI S (180) 0 ((0 : Int32)) := ⟨_, rfl⟩
  rw [← eS]
  have h := h S1 eS
  exact h
theorem zX12_often_11 {d n : Nat} {S : gS} {P : gS → Int32 → Prop} {i1 : Int32} {i2 : Int32} {i3 : Int32}  (h : (((sR S (182) (1)) ≤ i3 → P S (i1)) ∧ (¬ ((sR S (182) (1)) ≤ i3) → gG d mX12_often 0 0 (g_Xj mX12_often n 0 0 (hPi P)) 27 n (hH S) [some (.ref (180)), some (.int (i1)), some (.int (i2)), some (.int (i3)), some (.int ((0 : Int32))), some (.int ((0 : Int32)))] [] 0 0))) : gG d mX12_often 0 0 (g_Xj mX12_often n 0 0 (hPi P)) 11 n (hH S) [some (.ref (180)), some (.int (i1)), some (.int (i2)), some (.int (i3)), none, none] [] 0 0 := by
  refine kX12_often_11  ?_
  refine q_gc rfl rfl ?_
  refine q_al (k := 1) rfl (by decide) (vp_l (by decide)) (by decide) ?_
  refine ⟨fun c => ?_, fun c => ?_⟩
  · have h := h.1 c
    exact ⟨_, rfl, h⟩
  · have h := h.2 c
    exact h
theorem zX12_often_27 {d n : Nat} {S : gS} {P : gS → Int32 → Prop} {i1 : Int32} {i2 : Int32} {i3 : Int32} {i4 : Int32} {i5 : Int32}  (h : (((sR S (216) (4)) ≤ i5 → (i2 < i4 → gG d mX12_often 0 0 (g_Xj mX12_often n 0 0 (hPi P)) 11 n (hH S) [some (.ref (180)), some (.int (i3)), some (.int (i4)), some (.int ((i3 + 1))), none, none] [] 0 0) ∧ (¬ (i2 < i4) → gG d mX12_often 0 0 (g_Xj mX12_often n 0 0 (hPi P)) 11 n (hH S) [some (.ref (180)), some (.int (i1)), some (.int (i2)), some (.int ((i3 + 1))), none, none] [] 0 0)) ∧ (¬ ((sR S (216) (4)) ≤ i5) → vp_in (((19 : Int32) + i5)) 59 ∧ ((¬ ((sR S (216) (Int32.toNatClampNeg (((19 : Int32) + i5)))) = i3) → gG d mX12_often 0 0 (g_Xj mX12_often n 0 0 (hPi P)) 27 n (hH S) [some (.ref (180)), some (.int (i1)), some (.int (i2)), some (.int (i3)), some (.int ((i4 + (0 : Int32)))), some (.int ((i5 + 1)))] [] 0 0) ∧ ((sR S (216) (Int32.toNatClampNeg (((19 : Int32) + i5)))) = i3 → gG d mX12_often 0 0 (g_Xj mX12_often n 0 0 (hPi P)) 27 n (hH S) [some (.ref (180)), some (.int (i1)), some (.int (i2)), some (.int (i3)), some (.int ((i4 + (1 : Int32)))), some (.int ((i5 + 1)))] [] 0 0))))) : gG d mX12_often 0 0 (g_Xj mX12_often n 0 0 (hPi P)) 27 n (hH S) [some (.ref (180)), some (.int (i1)), some (.int (i2)), some (.int (i3)), some (.int (i4)), some (.int (i5))] [] 0 0 := by
  refine kX12_often_27  ?_
  refine q_gc rfl rfl ?_
  refine q_al (k := 4) rfl (by decide) (vp_l (by decide)) (by decide) ?_
  refine ⟨fun c => ?_, fun c => ?_⟩
  · have h := h.1 c
    refine ⟨fun c => ?_, fun c => ?_⟩
    · have h := h.1 c
      exact h
    · have h := h.2 c
      exact h
  · have h := h.2 c
    refine q_gc rfl rfl ?_
    obtain ⟨hv1, h⟩ := h
    refine q_al (k := Int32.toNatClampNeg (((19 : Int32) + i5))) rfl (by decide) hv1 rfl ?_
    refine ⟨fun c => ?_, fun c => ?_⟩
    · have h := h.1 c
      exact h
    · have h := h.2 c
      exact h

theorem zX12_run_0 {d n : Nat} {S : gS} {P : gS → Int32 → Prop}   (h : ∀ S1, S1 = uI S (180) 0 ((0 : Int32)) → gG d mX12_run 0 0 (g_Xj mX12_run n 0 0 (hPi P)) 11 n (hH S1) [some (.ref (180)), some (.int ((0 : Int32))), some (.int ((0 : Int32))), some (.int ((0 : Int32)))] [] 0 0) : gG d mX12_run 0 0 (g_Xj mX12_run n 0 0 (hPi P)) 0 n (hH S) [some (.ref (180)), none, none, none] [] 0 0 := by
  refine kX12_run_0  ?_
  refine q_pi rfl rfl ?_
  obtain ⟨S1, eS⟩ : ∃ z, z = uI S (180) 0 ((0 : Int32)) := ⟨_, rfl⟩
  rw [← eS]
  have h := h S1 eS
  exact h
theorem zX12_run_11 {d n : Nat} {S : gS} {P : gS → Int32 → Prop} {i1 : Int32} {i2 : Int32} {i3 : Int32}  (h : (((sR S (216) (4)) ≤ i3 → P S (i1)) ∧ (¬ ((sR S (216) (4)) ≤ i3) → (i3 ≤ 0 → gG d mX12_run 0 0 (g_Xj mX12_run n 0 0 (hPi P)) 56 n (hH S) [some (.ref (180)), some (.int (i1)), some (.int ((1 : Int32))), some (.int (i3))] [] 0 0) ∧ (¬ (i3 ≤ 0) → vp_in (((19 : Int32) + i3)) 59 ∧ (vp_in ((((19 : Int32) + i3) - (1 : Int32))) 59 ∧ ((¬ ((sR S (216) (Int32.toNatClampNeg (((19 : Int32) + i3)))) = (sR S (216) (Int32.toNatClampNeg ((((19 : Int32) + i3) - (1 : Int32)))))) → gG d mX12_run 0 0 (g_Xj mX12_run n 0 0 (hPi P)) 56 n (hH S) [some (.ref (180)), some (.int (i1)), some (.int ((1 : Int32))), some (.int (i3))] [] 0 0) ∧ ((sR S (216) (Int32.toNatClampNeg (((19 : Int32) + i3)))) = (sR S (216) (Int32.toNatClampNeg ((((19 : Int32) + i3) - (1 : Int32))))) → gG d mX12_run 0 0 (g_Xj mX12_run n 0 0 (hPi P)) 56 n (hH S) [some (.ref (180)), some (.int (i1)), some (.int ((i2 + (1 : Int32)))), some (.int (i3))] [] 0 0))))))) : gG d mX12_run 0 0 (g_Xj mX12_run n 0 0 (hPi P)) 11 n (hH S) [some (.ref (180)), some (.int (i1)), some (.int (i2)), some (.int (i3))] [] 0 0 := by
  refine kX12_run_11  ?_
  refine q_gc rfl rfl ?_
  refine q_al (k := 4) rfl (by decide) (vp_l (by decide)) (by decide) ?_
  refine ⟨fun c => ?_, fun c => ?_⟩
  · have h := h.1 c
    exact ⟨_, rfl, h⟩
  · have h := h.2 c
    refine ⟨fun c => ?_, fun c => ?_⟩
    · have h := h.1 c
      exact h
    · have h := h.2 c
      refine q_gc rfl rfl ?_
      obtain ⟨hv1, h⟩ := h
      refine q_al (k := Int32.toNatClampNeg (((19 : Int32) + i3))) rfl (by decide) hv1 rfl ?_
      refine q_gc rfl rfl ?_
      obtain ⟨hv2, h⟩ := h
      refine q_al (k := Int32.toNatClampNeg ((((19 : Int32) + i3) - (1 : Int32)))) rfl (by decide) hv2 rfl ?_
      refine ⟨fun c => ?_, fun c => ?_⟩
      · have h := h.1 c
        exact h
      · have h := h.2 c
        exact h
theorem zX12_run_56 {d n : Nat} {S : gS} {P : gS → Int32 → Prop} {i1 : Int32} {i2 : Int32} {i3 : Int32}  (hd1 : 1 ≤ d) (h : vp_in (((19 : Int32) + i3)) 59 ∧ (((sR S (216) (Int32.toNatClampNeg (((19 : Int32) + i3)))) = (6 : Int32) → gG d mX12_run 0 0 (g_Xj mX12_run n 0 0 (hPi P)) 11 n (hH S) [some (.ref (180)), some (.int (i1)), some (.int (i2)), some (.int ((i3 + 1)))] [] 0 0) ∧ (¬ ((sR S (216) (Int32.toNatClampNeg (((19 : Int32) + i3)))) = (6 : Int32)) → gG d mX12_run 0 0 (g_Xj mX12_run n 0 0 (hPi P)) 11 n (hH S) [some (.ref (180)), some (.int ((if i1 < i2 then i2 else i1))), some (.int (i2)), some (.int ((i3 + 1)))] [] 0 0))) : gG d mX12_run 0 0 (g_Xj mX12_run n 0 0 (hPi P)) 56 n (hH S) [some (.ref (180)), some (.int (i1)), some (.int (i2)), some (.int (i3))] [] 0 0 := by
  refine kX12_run_56 hd1 ?_
  refine q_gc rfl rfl ?_
  obtain ⟨hv1, h⟩ := h
  refine q_al (k := Int32.toNatClampNeg (((19 : Int32) + i3))) rfl (by decide) hv1 rfl ?_
  refine ⟨fun c => ?_, fun c => ?_⟩
  · have h := h.1 c
    exact h
  · have h := h.2 c
    exact h

theorem zX12_standsAt_0 {d n : Nat} {S : gS} {P : gS → Bool → Prop} {i1 : Int32} {i2 : Int32}  (h : ((((i1 + (sR S (211) (0))) ≤ (sR S (216) (4)) → gG d mX12_standsAt 0 0 (g_Xz mX12_standsAt n 0 0 (hPz P)) 21 n (hH S) [some (.ref (180)), some (.int (i1)), some (.int (i2)), some (.int ((0 : Int32)))] [] 0 0) ∧ (¬ ((i1 + (sR S (211) (0))) ≤ (sR S (216) (4))) → P S false)))) : gG d mX12_standsAt 0 0 (g_Xz mX12_standsAt n 0 0 (hPz P)) 0 n (hH S) [some (.ref (180)), some (.int (i1)), some (.int (i2)), none] [] 0 0 := by
  refine kX12_standsAt_0  ?_
  refine q_gc rfl rfl ?_
  refine q_al (k := 0) rfl (by decide) (vp_l (by decide)) (by decide) ?_
  refine q_gc rfl rfl ?_
  refine q_al (k := 4) rfl (by decide) (vp_l (by decide)) (by decide) ?_
  refine ⟨fun c => ?_, fun c => ?_⟩
  · have h := h.1 c
    exact h
  · have h := h.2 c
    exact ⟨_, rfl, h⟩
theorem zX12_standsAt_21 {d n : Nat} {S : gS} {P : gS → Bool → Prop} {i1 : Int32} {i2 : Int32} {i3 : Int32}  (h : (((sR S (211) (0)) ≤ i3 → P S true) ∧ (¬ ((sR S (211) (0)) ≤ i3) → vp_in ((((19 : Int32) + i1) + i3)) 59 ∧ (vp_in (i3) 42 ∧ (((sR S (216) (Int32.toNatClampNeg ((((19 : Int32) + i1) + i3)))) = (sR S (212) (Int32.toNatClampNeg (i3))) → gG d mX12_standsAt 0 0 (g_Xz mX12_standsAt n 0 0 (hPz P)) 21 n (hH S) [some (.ref (180)), some (.int (i1)), some (.int (i2)), some (.int ((i3 + 1)))] [] 0 0) ∧ (¬ ((sR S (216) (Int32.toNatClampNeg ((((19 : Int32) + i1) + i3)))) = (sR S (212) (Int32.toNatClampNeg (i3)))) → (i2 = 0 → P S false) ∧ (¬ (i2 = 0) → (((sR S (216) (Int32.toNatClampNeg ((((19 : Int32) + i1) + i3)))) = (6 : Int32) → gG d mX12_standsAt 0 0 (g_Xz mX12_standsAt n 0 0 (hPz P)) 21 n (hH S) [some (.ref (180)), some (.int (i1)), some (.int (i2)), some (.int ((i3 + 1)))] [] 0 0) ∧ (¬ ((sR S (216) (Int32.toNatClampNeg ((((19 : Int32) + i1) + i3)))) = (6 : Int32)) → P S false))))))))) : gG d mX12_standsAt 0 0 (g_Xz mX12_standsAt n 0 0 (hPz P)) 21 n (hH S) [some (.ref (180)), some (.int (i1)), some (.int (i2)), some (.int (i3))] [] 0 0 := by
  refine kX12_standsAt_21  ?_
  refine q_gc rfl rfl ?_
  refine q_al (k := 0) rfl (by decide) (vp_l (by decide)) (by decide) ?_
  refine ⟨fun c => ?_, fun c => ?_⟩
  · have h := h.1 c
    exact ⟨_, rfl, h⟩
  · have h := h.2 c
    refine q_gc rfl rfl ?_
    obtain ⟨hv1, h⟩ := h
    refine q_al (k := Int32.toNatClampNeg ((((19 : Int32) + i1) + i3))) rfl (by decide) hv1 rfl ?_
    refine q_gc rfl rfl ?_
    obtain ⟨hv2, h⟩ := h
    refine q_al (k := Int32.toNatClampNeg (i3)) rfl (by decide) hv2 rfl ?_
    refine ⟨fun c => ?_, fun c => ?_⟩
    · have h := h.1 c
      exact h
    · have h := h.2 c
      refine ⟨fun c => ?_, fun c => ?_⟩
      · have h := h.1 c
        exact ⟨_, rfl, h⟩
      · have h := h.2 c
        refine q_gc rfl rfl ?_
        refine q_al (k := Int32.toNatClampNeg ((((19 : Int32) + i1) + i3))) rfl (by decide) hv1 rfl ?_
        refine ⟨fun c => ?_, fun c => ?_⟩
        · have h := h.1 c
          exact h
        · have h := h.2 c
          exact ⟨_, rfl, h⟩

theorem zX12_standsFrom_0 {d n : Nat} {S : gS} {P : gS → Int32 → Prop}   (h : gG d mX12_standsFrom 0 0 (g_Xj mX12_standsFrom n 0 0 (hPi P)) 2 n (hH S) [some (.ref (180)), some (.int ((0 : Int32)))] [] 0 0) : gG d mX12_standsFrom 0 0 (g_Xj mX12_standsFrom n 0 0 (hPi P)) 0 n (hH S) [some (.ref (180)), none] [] 0 0 := by
  refine kX12_standsFrom_0  ?_
  exact h
theorem zX12_standsFrom_2 {d n : Nat} {S : gS} {P : gS → Int32 → Prop} {i1 : Int32}  (h : (((sR S (216) (4)) ≤ i1 → P S ((-1 : Int32))) ∧ (¬ ((sR S (216) (4)) ≤ i1) → s_cz d mX12_standsAt n S [.ref (180), .int (i1), .int ((0 : Int32))] (fun S1 b2 => (b2 = false → gG d mX12_standsFrom 0 0 (g_Xj mX12_standsFrom n 0 0 (hPi P)) 2 n (hH S1) [some (.ref (180)), some (.int ((i1 + 1)))] [] 0 0) ∧ (b2 = true → P S1 (i1)))))) : gG d mX12_standsFrom 0 0 (g_Xj mX12_standsFrom n 0 0 (hPi P)) 2 n (hH S) [some (.ref (180)), some (.int (i1))] [] 0 0 := by
  refine kX12_standsFrom_2  ?_
  refine q_gc rfl rfl ?_
  refine q_al (k := 4) rfl (by decide) (vp_l (by decide)) (by decide) ?_
  refine ⟨fun c => ?_, fun c => ?_⟩
  · have h := h.1 c
    exact ⟨_, rfl, h⟩
  · have h := h.2 c
    refine ⟨q_rc rfl, ?_⟩
    obtain ⟨d2, P2, hdd, hC, h⟩ := h
    refine ⟨d2, _, hdd, hC, fun H9 b2 hp => ?_⟩
    obtain ⟨S1, rfl, hp⟩ := hp
    have h := h S1 b2 hp
    refine ⟨fun c => ?_, fun c => ?_⟩
    · have h := h.1 c
      exact h
    · have h := h.2 c
      exact ⟨_, rfl, h⟩

theorem zX12_stands_0 {d n : Nat} {S : gS} {P : gS → Int32 → Prop}   (h : ∀ S1, S1 = uI S (180) 0 ((0 : Int32)) → ((¬ ((sR S1 (211) (0)) = 0) → s_ci d mX12_standsFrom n S1 [.ref (180)] (fun S2 x3 => P S2 (x3))) ∧ ((sR S1 (211) (0)) = 0 → P S1 ((-1 : Int32))))) : gG d mX12_stands 0 0 (g_Xj mX12_stands n 0 0 (hPi P)) 0 n (hH S) [some (.ref (180))] [] 0 0 := by
  refine kX12_stands_0  ?_
  refine q_pi rfl rfl ?_
  obtain ⟨S1, eS⟩ : ∃ z, z = uI S (180) 0 ((0 : Int32)) := ⟨_, rfl⟩
  rw [← eS]
  have h := h S1 eS
  refine q_gc rfl rfl ?_
  refine q_al (k := 0) rfl (by decide) (vp_l (by decide)) (by decide) ?_
  refine ⟨fun c => ?_, fun c => ?_⟩
  · have h := h.1 c
    refine ⟨q_rc rfl, ?_⟩
    obtain ⟨d2, P2, hdd, hC, h⟩ := h
    refine ⟨d2, _, hdd, hC, fun H9 x3 hp => ?_⟩
    obtain ⟨S2, rfl, hp⟩ := hp
    have h := h S2 x3 hp
    exact ⟨_, rfl, h⟩
  · have h := h.2 c
    exact ⟨_, rfl, h⟩

theorem zX12_maybe_0 {d n : Nat} {S : gS} {P : gS → Int32 → Prop}   (h : ∀ S1, S1 = uI S (180) 0 ((0 : Int32)) → ((¬ ((sR S1 (211) (0)) = 0) → gG d mX12_maybe 0 0 (g_Xj mX12_maybe n 0 0 (hPi P)) 20 n (hH S1) [some (.ref (180)), some (.int ((0 : Int32))), some (.int ((0 : Int32)))] [] 0 0) ∧ ((sR S1 (211) (0)) = 0 → P S1 ((-1 : Int32))))) : gG d mX12_maybe 0 0 (g_Xj mX12_maybe n 0 0 (hPi P)) 0 n (hH S) [some (.ref (180)), none, none] [] 0 0 := by
  refine kX12_maybe_0  ?_
  refine q_pi rfl rfl ?_
  obtain ⟨S1, eS⟩ : ∃ z, z = uI S (180) 0 ((0 : Int32)) := ⟨_, rfl⟩
  rw [← eS]
  have h := h S1 eS
  refine q_gc rfl rfl ?_
  refine q_al (k := 0) rfl (by decide) (vp_l (by decide)) (by decide) ?_
  refine ⟨fun c => ?_, fun c => ?_⟩
  · have h := h.1 c
    exact h
  · have h := h.2 c
    exact ⟨_, rfl, h⟩
theorem zX12_maybe_20 {d n : Nat} {S : gS} {P : gS → Int32 → Prop} {i1 : Int32} {i2 : Int32}  (h : (((sR S (216) (4)) ≤ i2 → P S (i1)) ∧ (¬ ((sR S (216) (4)) ≤ i2) → s_cz d mX12_standsAt n S [.ref (180), .int (i2), .int ((1 : Int32))] (fun S1 b2 => (b2 = false → gG d mX12_maybe 0 0 (g_Xj mX12_maybe n 0 0 (hPi P)) 20 n (hH S1) [some (.ref (180)), some (.int ((i1 + (0 : Int32)))), some (.int ((i2 + 1)))] [] 0 0) ∧ (b2 = true → gG d mX12_maybe 0 0 (g_Xj mX12_maybe n 0 0 (hPi P)) 20 n (hH S1) [some (.ref (180)), some (.int ((i1 + (1 : Int32)))), some (.int ((i2 + 1)))] [] 0 0))))) : gG d mX12_maybe 0 0 (g_Xj mX12_maybe n 0 0 (hPi P)) 20 n (hH S) [some (.ref (180)), some (.int (i1)), some (.int (i2))] [] 0 0 := by
  refine kX12_maybe_20  ?_
  refine q_gc rfl rfl ?_
  refine q_al (k := 4) rfl (by decide) (vp_l (by decide)) (by decide) ?_
  refine ⟨fun c => ?_, fun c => ?_⟩
  · have h := h.1 c
    exact ⟨_, rfl, h⟩
  · have h := h.2 c
    refine ⟨q_rc rfl, ?_⟩
    obtain ⟨d2, P2, hdd, hC, h⟩ := h
    refine ⟨d2, _, hdd, hC, fun H9 b2 hp => ?_⟩
    obtain ⟨S1, rfl, hp⟩ := hp
    have h := h S1 b2 hp
    refine ⟨fun c => ?_, fun c => ?_⟩
    · have h := h.1 c
      exact h
    · have h := h.2 c
      exact h

theorem zX12_entire_0 {d n : Nat} {S : gS} {P : gS → Int32 → Prop}   (h : ∀ S1, S1 = uI S (180) 0 ((0 : Int32)) → ((¬ ((sR S1 (211) (0)) = 0) → s_cv d mX12_copies n S1 [.ref (216), .int ((0 : Int32)), .ref (218), .int ((0 : Int32))] (fun S2 => gG d mX12_entire 0 0 (g_Xj mX12_entire n 0 0 (hPi P)) 31 n (hH S2) [some (.ref (180)), some (.int ((0 : Int32)))] [] 0 0)) ∧ ((sR S1 (211) (0)) = 0 → P S1 ((-1 : Int32))))) : gG d mX12_entire 0 0 (g_Xj mX12_entire n 0 0 (hPi P)) 0 n (hH S) [some (.ref (180)), none] [] 0 0 := by
  refine kX12_entire_0  ?_
  refine q_pi rfl rfl ?_
  obtain ⟨S1, eS⟩ : ∃ z, z = uI S (180) 0 ((0 : Int32)) := ⟨_, rfl⟩
  rw [← eS]
  have h := h S1 eS
  refine q_gc rfl rfl ?_
  refine q_al (k := 0) rfl (by decide) (vp_l (by decide)) (by decide) ?_
  refine ⟨fun c => ?_, fun c => ?_⟩
  · have h := h.1 c
    refine q_gc rfl rfl ?_
    refine q_gc rfl rfl ?_
    obtain ⟨d2, P2, hdd, hC, h⟩ := h
    refine ⟨d2, _, hdd, hC, fun H9 hp => ?_⟩
    obtain ⟨S2, rfl, hp⟩ := hp
    have h := h S2 hp
    exact h
  · have h := h.2 c
    exact ⟨_, rfl, h⟩
theorem zX12_entire_31 {d n : Nat} {S : gS} {P : gS → Int32 → Prop} {i1 : Int32}  (h : ((60 : Int32) < i1 → gG d mX12_entire 0 0 (g_Xj mX12_entire n 0 0 (hPi P)) 55 n (hH S) [some (.ref (180)), some (.int (i1))] [] 0 0) ∧ (¬ ((60 : Int32) < i1) → s_ci d mX12_standsFrom n S [.ref (180)] (fun S1 x2 => (0 ≤ x2 → gG d mX12_entire 0 0 (g_Xj mX12_entire n 0 0 (hPi P)) 55 n (hH S1) [some (.ref (180)), some (.int (i1))] [] 0 0) ∧ (¬ (0 ≤ x2) → s_ci d mX12_passesAsTold n S1 [.ref (180)] (fun S3 x4 => gG d mX12_entire 0 0 (g_Xj mX12_entire n 0 0 (hPi P)) 31 n (hH S3) [some (.ref (180)), some (.int ((i1 + 1)))] [] 0 0))))) : gG d mX12_entire 0 0 (g_Xj mX12_entire n 0 0 (hPi P)) 31 n (hH S) [some (.ref (180)), some (.int (i1))] [] 0 0 := by
  refine kX12_entire_31  ?_
  refine ⟨fun c => ?_, fun c => ?_⟩
  · have h := h.1 c
    exact h
  · have h := h.2 c
    refine ⟨q_rc rfl, ?_⟩
    obtain ⟨d2, P2, hdd, hC, h⟩ := h
    refine ⟨d2, _, hdd, hC, fun H9 x2 hp => ?_⟩
    obtain ⟨S1, rfl, hp⟩ := hp
    have h := h S1 x2 hp
    refine ⟨fun c => ?_, fun c => ?_⟩
    · have h := h.1 c
      exact h
    · have h := h.2 c
      refine ⟨q_rc rfl, ?_⟩
      obtain ⟨d2, P2, hdd, hC, h⟩ := h
      refine ⟨d2, _, hdd, hC, fun H9 x4 hp => ?_⟩
      obtain ⟨S3, rfl, hp⟩ := hp
      have h := h S3 x4 hp
      exact h
theorem zX12_entire_55 {d n : Nat} {S : gS} {P : gS → Int32 → Prop} {i1 : Int32}  (h : s_cv d mX12_copies n S [.ref (218), .int ((0 : Int32)), .ref (216), .int ((0 : Int32))] (fun S1 => (i1 ≤ (60 : Int32) → P S1 (i1)) ∧ (¬ (i1 ≤ (60 : Int32)) → P S1 ((-1 : Int32))))) : gG d mX12_entire 0 0 (g_Xj mX12_entire n 0 0 (hPi P)) 55 n (hH S) [some (.ref (180)), some (.int (i1))] [] 0 0 := by
  refine kX12_entire_55  ?_
  refine q_gc rfl rfl ?_
  refine q_gc rfl rfl ?_
  obtain ⟨d2, P2, hdd, hC, h⟩ := h
  refine ⟨d2, _, hdd, hC, fun H9 hp => ?_⟩
  obtain ⟨S1, rfl, hp⟩ := hp
  have h := h S1 hp
  refine ⟨fun c => ?_, fun c => ?_⟩
  · have h := h.1 c
    exact ⟨_, rfl, h⟩
  · have h := h.2 c
    exact ⟨_, rfl, h⟩

theorem zX12_aimOf_0 {d n : Nat} {S : gS} {P : gS → Int32 → Prop} {i1 : Int32} {i2 : Int32}  (h : gG d mX12_aimOf 0 0 (g_Xj mX12_aimOf n 0 0 (hPi P)) 2 n (hH S) [some (.ref (180)), some (.int (i1)), some (.int (i2)), some (.int ((0 : Int32))), none] [] 0 0) : gG d mX12_aimOf 0 0 (g_Xj mX12_aimOf n 0 0 (hPi P)) 0 n (hH S) [some (.ref (180)), some (.int (i1)), some (.int (i2)), none, none] [] 0 0 := by
  refine kX12_aimOf_0  ?_
  exact h
theorem zX12_aimOf_2 {d n : Nat} {S : gS} {P : gS → Int32 → Prop} {i1 : Int32} {i2 : Int32} {i3 : Int32}  (h : (((sR S (182) (0)) ≤ i3 → P S ((-1 : Int32))) ∧ (¬ ((sR S (182) (0)) ≤ i3) → s_cv d mX12_copies n S [.ref (216), .int ((0 : Int32)), .ref (218), .int ((0 : Int32))] (fun S1 => s_cv d mX12_pours n S1 [.ref (180), .int (i3), .int (i2)] (fun S2 => s_ci d mX12_passesAsTold n S2 [.ref (180)] (fun S3 x4 => (¬ (x4 = i1) → gG d mX12_aimOf 0 0 (g_Xj mX12_aimOf n 0 0 (hPi P)) 46 n (hH S3) [some (.ref (180)), some (.int (i1)), some (.int (i2)), some (.int (i3)), some (.int ((0 : Int32)))] [] 0 0) ∧ (x4 = i1 → gG d mX12_aimOf 0 0 (g_Xj mX12_aimOf n 0 0 (hPi P)) 46 n (hH S3) [some (.ref (180)), some (.int (i1)), some (.int (i2)), some (.int (i3)), some (.int ((1 : Int32)))] [] 0 0))))))) : gG d mX12_aimOf 0 0 (g_Xj mX12_aimOf n 0 0 (hPi P)) 2 n (hH S) [some (.ref (180)), some (.int (i1)), some (.int (i2)), some (.int (i3)), none] [] 0 0 := by
  refine kX12_aimOf_2  ?_
  refine q_gc rfl rfl ?_
  refine q_al (k := 0) rfl (by decide) (vp_l (by decide)) (by decide) ?_
  refine ⟨fun c => ?_, fun c => ?_⟩
  · have h := h.1 c
    exact ⟨_, rfl, h⟩
  · have h := h.2 c
    refine q_gc rfl rfl ?_
    refine q_gc rfl rfl ?_
    obtain ⟨d2, P2, hdd, hC, h⟩ := h
    refine ⟨d2, _, hdd, hC, fun H9 hp => ?_⟩
    obtain ⟨S1, rfl, hp⟩ := hp
    have h := h S1 hp
    refine ⟨q_rc rfl, ?_⟩
    obtain ⟨d2, P2, hdd, hC, h⟩ := h
    refine ⟨d2, _, hdd, hC, fun H9 hp => ?_⟩
    obtain ⟨S2, rfl, hp⟩ := hp
    have h := h S2 hp
    refine ⟨q_rc rfl, ?_⟩
    obtain ⟨d2, P2, hdd, hC, h⟩ := h
    refine ⟨d2, _, hdd, hC, fun H9 x4 hp => ?_⟩
    obtain ⟨S3, rfl, hp⟩ := hp
    have h := h S3 x4 hp
    refine ⟨fun c => ?_, fun c => ?_⟩
    · have h := h.1 c
      exact h
    · have h := h.2 c
      exact h
theorem zX12_aimOf_46 {d n : Nat} {S : gS} {P : gS → Int32 → Prop} {i1 : Int32} {i2 : Int32} {i3 : Int32} {i4 : Int32}  (h : s_cv d mX12_copies n S [.ref (218), .int ((0 : Int32)), .ref (216), .int ((0 : Int32))] (fun S1 => (i4 = 0 → gG d mX12_aimOf 0 0 (g_Xj mX12_aimOf n 0 0 (hPi P)) 2 n (hH S1) [some (.ref (180)), some (.int (i1)), some (.int (i2)), some (.int ((i3 + 1))), none] [] 0 0) ∧ (¬ (i4 = 0) → P S1 (i3)))) : gG d mX12_aimOf 0 0 (g_Xj mX12_aimOf n 0 0 (hPi P)) 46 n (hH S) [some (.ref (180)), some (.int (i1)), some (.int (i2)), some (.int (i3)), some (.int (i4))] [] 0 0 := by
  refine kX12_aimOf_46  ?_
  refine q_gc rfl rfl ?_
  refine q_gc rfl rfl ?_
  obtain ⟨d2, P2, hdd, hC, h⟩ := h
  refine ⟨d2, _, hdd, hC, fun H9 hp => ?_⟩
  obtain ⟨S1, rfl, hp⟩ := hp
  have h := h S1 hp
  refine ⟨fun c => ?_, fun c => ?_⟩
  · have h := h.1 c
    exact h
  · have h := h.2 c
    exact ⟨_, rfl, h⟩

theorem zX12_aim_0 {d n : Nat} {S : gS} {P : gS → Int32 → Prop} {i1 : Int32} {i2 : Int32}  (h : ∀ S1, S1 = uI S (180) 0 ((0 : Int32)) → s_cz d mX12_isLetter0 n S1 [.ref (180), .int (i1)] (fun S2 b3 => (b3 = false → P S2 ((-2 : Int32))) ∧ (b3 = true → s_cz d mX12_within n S2 [.int (i2), .int ((0 : Int32)), .int ((1 : Int32))] (fun S4 b5 => (b5 = true → gG d mX12_aim 0 0 (g_Xj mX12_aim n 0 0 (hPi P)) 27 n (hH S4) [some (.ref (180)), some (.int (i1)), some (.int (i2)), some (.int ((0 : Int32))), none] [] 0 0) ∧ (b5 = false → P S4 ((-2 : Int32))))))) : gG d mX12_aim 0 0 (g_Xj mX12_aim n 0 0 (hPi P)) 0 n (hH S) [some (.ref (180)), some (.int (i1)), some (.int (i2)), none, none] [] 0 0 := by
  refine kX12_aim_0  ?_
  refine q_pi rfl rfl ?_
  obtain ⟨S1, eS⟩ : ∃ z, z = uI S (180) 0 ((0 : Int32)) := ⟨_, rfl⟩
  rw [← eS]
  have h := h S1 eS
  refine ⟨q_rc rfl, ?_⟩
  obtain ⟨d2, P2, hdd, hC, h⟩ := h
  refine ⟨d2, _, hdd, hC, fun H9 b3 hp => ?_⟩
  obtain ⟨S2, rfl, hp⟩ := hp
  have h := h S2 b3 hp
  refine ⟨fun c => ?_, fun c => ?_⟩
  · have h := h.1 c
    exact ⟨_, rfl, h⟩
  · have h := h.2 c
    obtain ⟨d2, P2, hdd, hC, h⟩ := h
    refine ⟨d2, _, hdd, hC, fun H9 b5 hp => ?_⟩
    obtain ⟨S4, rfl, hp⟩ := hp
    have h := h S4 b5 hp
    refine ⟨fun c => ?_, fun c => ?_⟩
    · have h := h.1 c
      exact h
    · have h := h.2 c
      exact ⟨_, rfl, h⟩
theorem zX12_aim_27 {d n : Nat} {S : gS} {P : gS → Int32 → Prop} {i1 : Int32} {i2 : Int32} {i3 : Int32}  (h : ((20 : Int32) < i3 → P S ((-2 : Int32))) ∧ (¬ ((20 : Int32) < i3) → s_ci d mX12_aimOf n S [.ref (180), .int (i1), .int (i3)] (fun S1 x2 => (x2 < 0 → gG d mX12_aim 0 0 (g_Xj mX12_aim n 0 0 (hPi P)) 27 n (hH S1) [some (.ref (180)), some (.int (i1)), some (.int (i2)), some (.int ((i3 + 1))), none] [] 0 0) ∧ (¬ (x2 < 0) → (¬ (i2 = 0) → (¬ (i3 = 0) → P S1 (x2)) ∧ (i3 = 0 → P S1 ((-1 : Int32)))) ∧ (i2 = 0 → P S1 (i3)))))) : gG d mX12_aim 0 0 (g_Xj mX12_aim n 0 0 (hPi P)) 27 n (hH S) [some (.ref (180)), some (.int (i1)), some (.int (i2)), some (.int (i3)), none] [] 0 0 := by
  refine kX12_aim_27  ?_
  refine ⟨fun c => ?_, fun c => ?_⟩
  · have h := h.1 c
    exact ⟨_, rfl, h⟩
  · have h := h.2 c
    refine ⟨q_rc rfl, ?_⟩
    obtain ⟨d2, P2, hdd, hC, h⟩ := h
    refine ⟨d2, _, hdd, hC, fun H9 x2 hp => ?_⟩
    obtain ⟨S1, rfl, hp⟩ := hp
    have h := h S1 x2 hp
    refine ⟨fun c => ?_, fun c => ?_⟩
    · have h := h.1 c
      exact h
    · have h := h.2 c
      refine ⟨fun c => ?_, fun c => ?_⟩
      · have h := h.1 c
        refine ⟨fun c => ?_, fun c => ?_⟩
        · have h := h.1 c
          exact ⟨_, rfl, h⟩
        · have h := h.2 c
          exact ⟨_, rfl, h⟩
      · have h := h.2 c
        exact ⟨_, rfl, h⟩

theorem zX12_hush_0 {d n : Nat} {S : gS} {P : gS → Int32 → Prop} {i1 : Int32}  (h : ∀ S1, S1 = uI S (180) 0 ((0 : Int32)) → s_cz d mX12_isLetter0 n S1 [.ref (180), .int (i1)] (fun S2 b3 => (b3 = true → gG d mX12_hush 0 0 (g_Xj mX12_hush n 0 0 (hPi P)) 19 n (hH S2) [some (.ref (180)), some (.int (i1)), some (.int ((-1 : Int32))), some (.int ((0 : Int32)))] [] 0 0) ∧ (b3 = false → P S2 ((-1 : Int32))))) : gG d mX12_hush 0 0 (g_Xj mX12_hush n 0 0 (hPi P)) 0 n (hH S) [some (.ref (180)), some (.int (i1)), none, none] [] 0 0 := by
  refine kX12_hush_0  ?_
  refine q_pi rfl rfl ?_
  obtain ⟨S1, eS⟩ : ∃ z, z = uI S (180) 0 ((0 : Int32)) := ⟨_, rfl⟩
  rw [← eS]
  have h := h S1 eS
  refine ⟨q_rc rfl, ?_⟩
  obtain ⟨d2, P2, hdd, hC, h⟩ := h
  refine ⟨d2, _, hdd, hC, fun H9 b3 hp => ?_⟩
  obtain ⟨S2, rfl, hp⟩ := hp
  have h := h S2 b3 hp
  refine ⟨fun c => ?_, fun c => ?_⟩
  · have h := h.1 c
    exact h
  · have h := h.2 c
    exact ⟨_, rfl, h⟩
theorem zX12_hush_19 {d n : Nat} {S : gS} {P : gS → Int32 → Prop} {i1 : Int32} {i2 : Int32} {i3 : Int32}  (h : s_ci d mX12_every n S [.ref (180)] (fun S1 x2 => (x2 < i3 → P S1 (i2)) ∧ (¬ (x2 < i3) → (i2 < 0 → gG d mX12_hush 0 0 (g_Xj mX12_hush n 0 0 (hPi P)) 45 n (hH S1) [some (.ref (180)), some (.int (i1)), some (.int (i2)), some (.int (i3))] [] 0 0) ∧ (¬ (i2 < 0) → s_ci d mX12_bits n S1 [.int (i3)] (fun S3 x4 => s_ci d mX12_bits n S3 [.int (i2)] (fun S5 x6 => (x4 < x6 → gG d mX12_hush 0 0 (g_Xj mX12_hush n 0 0 (hPi P)) 45 n (hH S5) [some (.ref (180)), some (.int (i1)), some (.int (i2)), some (.int (i3))] [] 0 0) ∧ (¬ (x4 < x6) → gG d mX12_hush 0 0 (g_Xj mX12_hush n 0 0 (hPi P)) 19 n (hH S5) [some (.ref (180)), some (.int (i1)), some (.int (i2)), some (.int ((i3 + 1)))] [] 0 0))))))) : gG d mX12_hush 0 0 (g_Xj mX12_hush n 0 0 (hPi P)) 19 n (hH S) [some (.ref (180)), some (.int (i1)), some (.int (i2)), some (.int (i3))] [] 0 0 := by
  refine kX12_hush_19  ?_
  refine ⟨q_rc rfl, ?_⟩
  obtain ⟨d2, P2, hdd, hC, h⟩ := h
  refine ⟨d2, _, hdd, hC, fun H9 x2 hp => ?_⟩
  obtain ⟨S1, rfl, hp⟩ := hp
  have h := h S1 x2 hp
  refine ⟨fun c => ?_, fun c => ?_⟩
  · have h := h.1 c
    exact ⟨_, rfl, h⟩
  · have h := h.2 c
    refine ⟨fun c => ?_, fun c => ?_⟩
    · have h := h.1 c
      exact h
    · have h := h.2 c
      obtain ⟨d2, P2, hdd, hC, h⟩ := h
      refine ⟨d2, _, hdd, hC, fun H9 x4 hp => ?_⟩
      obtain ⟨S3, rfl, hp⟩ := hp
      have h := h S3 x4 hp
      obtain ⟨d2, P2, hdd, hC, h⟩ := h
      refine ⟨d2, _, hdd, hC, fun H9 x6 hp => ?_⟩
      obtain ⟨S5, rfl, hp⟩ := hp
      have h := h S5 x6 hp
      refine ⟨fun c => ?_, fun c => ?_⟩
      · have h := h.1 c
        exact h
      · have h := h.2 c
        exact h
theorem zX12_hush_45 {d n : Nat} {S : gS} {P : gS → Int32 → Prop} {i1 : Int32} {i2 : Int32} {i3 : Int32}  (h : s_cv d mX12_copies n S [.ref (216), .int ((0 : Int32)), .ref (218), .int ((0 : Int32))] (fun S1 => ((∀ S2, S2 = uR S1 (216) (1) (((sR S1 (216) (1)) ^^^ i3)) → s_ci d mX12_passesAsTold n S2 [.ref (180)] (fun S3 x4 => (¬ (x4 = i1) → gG d mX12_hush 0 0 (g_Xj mX12_hush n 0 0 (hPi P)) 78 n (hH S3) [some (.ref (180)), some (.int (i1)), some (.int (i2)), some (.int (i3))] [] 0 0) ∧ (x4 = i1 → gG d mX12_hush 0 0 (g_Xj mX12_hush n 0 0 (hPi P)) 78 n (hH S3) [some (.ref (180)), some (.int (i1)), some (.int (i3)), some (.int (i3))] [] 0 0)))))) : gG d mX12_hush 0 0 (g_Xj mX12_hush n 0 0 (hPi P)) 45 n (hH S) [some (.ref (180)), some (.int (i1)), some (.int (i2)), some (.int (i3))] [] 0 0 := by
  refine kX12_hush_45  ?_
  refine q_gc rfl rfl ?_
  refine q_gc rfl rfl ?_
  obtain ⟨d2, P2, hdd, hC, h⟩ := h
  refine ⟨d2, _, hdd, hC, fun H9 hp => ?_⟩
  obtain ⟨S1, rfl, hp⟩ := hp
  have h := h S1 hp
  refine q_gc rfl rfl ?_
  refine q_al (k := 1) rfl (by decide) (vp_l (by decide)) (by decide) ?_
  refine q_as (k := 1) rfl (by decide) (vp_l (by decide)) (by decide) ?_
  obtain ⟨S2, eS⟩ : ∃ z, z = uR S1 (216) (1) (((sR S1 (216) (1)) ^^^ i3)) := ⟨_, rfl⟩
  rw [← eS]
  have h := h S2 eS
  refine ⟨q_rc rfl, ?_⟩
  obtain ⟨d2, P2, hdd, hC, h⟩ := h
  refine ⟨d2, _, hdd, hC, fun H9 x4 hp => ?_⟩
  obtain ⟨S3, rfl, hp⟩ := hp
  have h := h S3 x4 hp
  refine ⟨fun c => ?_, fun c => ?_⟩
  · have h := h.1 c
    exact h
  · have h := h.2 c
    exact h
theorem zX12_hush_78 {d n : Nat} {S : gS} {P : gS → Int32 → Prop} {i1 : Int32} {i2 : Int32} {i3 : Int32}  (h : s_cv d mX12_copies n S [.ref (218), .int ((0 : Int32)), .ref (216), .int ((0 : Int32))] (fun S1 => gG d mX12_hush 0 0 (g_Xj mX12_hush n 0 0 (hPi P)) 19 n (hH S1) [some (.ref (180)), some (.int (i1)), some (.int (i2)), some (.int ((i3 + 1)))] [] 0 0)) : gG d mX12_hush 0 0 (g_Xj mX12_hush n 0 0 (hPi P)) 78 n (hH S) [some (.ref (180)), some (.int (i1)), some (.int (i2)), some (.int (i3))] [] 0 0 := by
  refine kX12_hush_78  ?_
  refine q_gc rfl rfl ?_
  refine q_gc rfl rfl ?_
  obtain ⟨d2, P2, hdd, hC, h⟩ := h
  refine ⟨d2, _, hdd, hC, fun H9 hp => ?_⟩
  obtain ⟨S1, rfl, hp⟩ := hp
  have h := h S1 hp
  exact h

theorem zX12_laysSounds_0 {d n : Nat} {S : gS} {P : gS → Prop}   (h : s_cv d mX12_copies n S [.ref (216), .int ((0 : Int32)), .ref (218), .int ((0 : Int32))] (fun S1 => gG d mX12_laysSounds 0 0 (g_Xv mX12_laysSounds n 0 0 (hPv P)) 15 n (hH S1) [some (.ref (180)), some (.int ((0 : Int32)))] [] 0 0)) : gG d mX12_laysSounds 0 0 (g_Xv mX12_laysSounds n 0 0 (hPv P)) 0 n (hH S) [some (.ref (180)), none] [] 0 0 := by
  refine kX12_laysSounds_0  ?_
  refine q_gc rfl rfl ?_
  refine q_gc rfl rfl ?_
  obtain ⟨d2, P2, hdd, hC, h⟩ := h
  refine ⟨d2, _, hdd, hC, fun H9 hp => ?_⟩
  obtain ⟨S1, rfl, hp⟩ := hp
  have h := h S1 hp
  exact h
theorem zX12_laysSounds_15 {d n : Nat} {S : gS} {P : gS → Prop} {i1 : Int32}  (h : ((10 : Int32) ≤ i1 → P S) ∧ (¬ ((10 : Int32) ≤ i1) → s_ci d mX12_passes n S [.ref (180), .int (i1)] (fun S1 x2 => (vp_in (i1) 10 ∧ (∀ S4, S4 = uR S1 (224) (Int32.toNatClampNeg (i1)) ((sR S1 (216) (2))) → s_cv d mX12_copies n S4 [.ref (218), .int ((0 : Int32)), .ref (216), .int ((0 : Int32))] (fun S5 => gG d mX12_laysSounds 0 0 (g_Xv mX12_laysSounds n 0 0 (hPv P)) 15 n (hH S5) [some (.ref (180)), some (.int ((i1 + 1)))] [] 0 0)))))) : gG d mX12_laysSounds 0 0 (g_Xv mX12_laysSounds n 0 0 (hPv P)) 15 n (hH S) [some (.ref (180)), some (.int (i1))] [] 0 0 := by
  refine kX12_laysSounds_15  ?_
  refine ⟨fun c => ?_, fun c => ?_⟩
  · have h := h.1 c
    exact ⟨_, rfl, h⟩
  · have h := h.2 c
    refine ⟨q_rc rfl, ?_⟩
    obtain ⟨d2, P2, hdd, hC, h⟩ := h
    refine ⟨d2, _, hdd, hC, fun H9 x2 hp => ?_⟩
    obtain ⟨S1, rfl, hp⟩ := hp
    have h := h S1 x2 hp
    refine q_gc rfl rfl ?_
    refine q_gc rfl rfl ?_
    refine q_al (k := 2) rfl (by decide) (vp_l (by decide)) (by decide) ?_
    obtain ⟨hv3, h⟩ := h
    refine q_as (k := Int32.toNatClampNeg (i1)) rfl (by decide) hv3 rfl ?_
    obtain ⟨S4, eS⟩ : ∃ z, z = uR S1 (224) (Int32.toNatClampNeg (i1)) ((sR S1 (216) (2))) := ⟨_, rfl⟩
    rw [← eS]
    have h := h S4 eS
    refine q_gc rfl rfl ?_
    refine q_gc rfl rfl ?_
    obtain ⟨d2, P2, hdd, hC, h⟩ := h
    refine ⟨d2, _, hdd, hC, fun H9 hp => ?_⟩
    obtain ⟨S5, rfl, hp⟩ := hp
    have h := h S5 hp
    exact h

theorem zX12_see_0 {d n : Nat} {S : gS} {P : gS → Bool → Prop} {i1 : Int32} {i2 : Int32}  (h : ∀ S1, S1 = uI S (180) 0 ((0 : Int32)) → s_cz d mX12_isMouth n S1 [.ref (180), .int (i1)] (fun S2 b3 => (b3 = false → P S2 false) ∧ (b3 = true → ((¬ ((sR S2 (213) (0)) = (8 : Int32)) → (vp_in ((sR S2 (213) (0))) 40 ∧ (∀ S5, S5 = uR S2 (214) (Int32.toNatClampNeg ((sR S2 (213) (0)))) (i1) → (vp_in ((sR S5 (213) (0))) 40 ∧ (∀ S7, S7 = uR S5 (215) (Int32.toNatClampNeg ((sR S5 (213) (0)))) (vp_nar .boolean (i2)) → ((∀ S8, S8 = uR S7 (213) (0) (((sR S7 (213) (0)) + (1 : Int32))) → P S8 true))))))) ∧ ((sR S2 (213) (0)) = (8 : Int32) → P S2 false))))) : gG d mX12_see 0 0 (g_Xz mX12_see n 0 0 (hPz P)) 0 n (hH S) [some (.ref (180)), some (.int (i1)), some (.int (i2))] [] 0 0 := by
  refine kX12_see_0  ?_
  refine q_pi rfl rfl ?_
  obtain ⟨S1, eS⟩ : ∃ z, z = uI S (180) 0 ((0 : Int32)) := ⟨_, rfl⟩
  rw [← eS]
  have h := h S1 eS
  refine ⟨q_rc rfl, ?_⟩
  obtain ⟨d2, P2, hdd, hC, h⟩ := h
  refine ⟨d2, _, hdd, hC, fun H9 b3 hp => ?_⟩
  obtain ⟨S2, rfl, hp⟩ := hp
  have h := h S2 b3 hp
  refine ⟨fun c => ?_, fun c => ?_⟩
  · have h := h.1 c
    exact ⟨_, rfl, h⟩
  · have h := h.2 c
    refine q_gc rfl rfl ?_
    refine q_al (k := 0) rfl (by decide) (vp_l (by decide)) (by decide) ?_
    refine ⟨fun c => ?_, fun c => ?_⟩
    · have h := h.1 c
      refine q_gc rfl rfl ?_
      refine q_gc rfl rfl ?_
      refine q_al (k := 0) rfl (by decide) (vp_l (by decide)) (by decide) ?_
      obtain ⟨hv4, h⟩ := h
      refine q_as (k := Int32.toNatClampNeg ((sR S2 (213) (0)))) rfl (by decide) hv4 rfl ?_
      obtain ⟨S5, eS⟩ : ∃ z, z = uR S2 (214) (Int32.toNatClampNeg ((sR S2 (213) (0)))) (i1) := ⟨_, rfl⟩
      rw [← eS]
      have h := h S5 eS
      refine q_gc rfl rfl ?_
      refine q_gc rfl rfl ?_
      refine q_al (k := 0) rfl (by decide) (vp_l (by decide)) (by decide) ?_
      obtain ⟨hv6, h⟩ := h
      refine q_as (k := Int32.toNatClampNeg ((sR S5 (213) (0)))) rfl (by decide) hv6 rfl ?_
      obtain ⟨S7, eS⟩ : ∃ z, z = uR S5 (215) (Int32.toNatClampNeg ((sR S5 (213) (0)))) (vp_nar .boolean (i2)) := ⟨_, rfl⟩
      rw [← eS]
      have h := h S7 eS
      refine q_gc rfl rfl ?_
      refine q_al (k := 0) rfl (by decide) (vp_l (by decide)) (by decide) ?_
      refine q_as (k := 0) rfl (by decide) (vp_l (by decide)) (by decide) ?_
      obtain ⟨S8, eS⟩ : ∃ z, z = uR S7 (213) (0) (((sR S7 (213) (0)) + (1 : Int32))) := ⟨_, rfl⟩
      rw [← eS]
      have h := h S8 eS
      exact ⟨_, rfl, h⟩
    · have h := h.2 c
      exact ⟨_, rfl, h⟩

theorem zX12_isAsSeen_0 {d n : Nat} {S : gS} {P : gS → Bool → Prop} {i1 : Int32}  (h : gG d mX12_isAsSeen 0 0 (g_Xz mX12_isAsSeen n 0 0 (hPz P)) 2 n (hH S) [some (.ref (180)), some (.int (i1)), some (.int ((0 : Int32)))] [] 0 0) : gG d mX12_isAsSeen 0 0 (g_Xz mX12_isAsSeen n 0 0 (hPz P)) 0 n (hH S) [some (.ref (180)), some (.int (i1)), none] [] 0 0 := by
  refine kX12_isAsSeen_0  ?_
  exact h
theorem zX12_isAsSeen_2 {d n : Nat} {S : gS} {P : gS → Bool → Prop} {i1 : Int32} {i2 : Int32}  (h : (((sR S (213) (0)) ≤ i2 → P S true) ∧ (¬ ((sR S (213) (0)) ≤ i2) → vp_in (i1) 10 ∧ (vp_in (i2) 40 ∧ ((¬ ((((sR S (224) (Int32.toNatClampNeg (i1))) >>> ((sR S (214) (Int32.toNatClampNeg (i2))) &&& 31)) &&& (1 : Int32)) = (1 : Int32)) → (((0 : Int32) = (sR S (215) (Int32.toNatClampNeg (i2))) → gG d mX12_isAsSeen 0 0 (g_Xz mX12_isAsSeen n 0 0 (hPz P)) 2 n (hH S) [some (.ref (180)), some (.int (i1)), some (.int ((i2 + 1)))] [] 0 0) ∧ (¬ ((0 : Int32) = (sR S (215) (Int32.toNatClampNeg (i2)))) → P S false))) ∧ ((((sR S (224) (Int32.toNatClampNeg (i1))) >>> ((sR S (214) (Int32.toNatClampNeg (i2))) &&& 31)) &&& (1 : Int32)) = (1 : Int32) → (((1 : Int32) = (sR S (215) (Int32.toNatClampNeg (i2))) → gG d mX12_isAsSeen 0 0 (g_Xz mX12_isAsSeen n 0 0 (hPz P)) 2 n (hH S) [some (.ref (180)), some (.int (i1)), some (.int ((i2 + 1)))] [] 0 0) ∧ (¬ ((1 : Int32) = (sR S (215) (Int32.toNatClampNeg (i2)))) → P S false)))))))) : gG d mX12_isAsSeen 0 0 (g_Xz mX12_isAsSeen n 0 0 (hPz P)) 2 n (hH S) [some (.ref (180)), some (.int (i1)), some (.int (i2))] [] 0 0 := by
  refine kX12_isAsSeen_2  ?_
  refine q_gc rfl rfl ?_
  refine q_al (k := 0) rfl (by decide) (vp_l (by decide)) (by decide) ?_
  refine ⟨fun c => ?_, fun c => ?_⟩
  · have h := h.1 c
    exact ⟨_, rfl, h⟩
  · have h := h.2 c
    refine q_gc rfl rfl ?_
    obtain ⟨hv1, h⟩ := h
    refine q_al (k := Int32.toNatClampNeg (i1)) rfl (by decide) hv1 rfl ?_
    refine q_gc rfl rfl ?_
    obtain ⟨hv2, h⟩ := h
    refine q_al (k := Int32.toNatClampNeg (i2)) rfl (by decide) hv2 rfl ?_
    refine ⟨fun c => ?_, fun c => ?_⟩
    · have h := h.1 c
      refine q_gc rfl rfl ?_
      refine q_al (k := Int32.toNatClampNeg (i2)) rfl (by decide) hv2 rfl ?_
      refine ⟨fun c => ?_, fun c => ?_⟩
      · have h := h.1 c
        exact h
      · have h := h.2 c
        exact ⟨_, rfl, h⟩
    · have h := h.2 c
      refine q_gc rfl rfl ?_
      refine q_al (k := Int32.toNatClampNeg (i2)) rfl (by decide) hv2 rfl ?_
      refine ⟨fun c => ?_, fun c => ?_⟩
      · have h := h.1 c
        exact h
      · have h := h.2 c
        exact ⟨_, rfl, h⟩

theorem zX12_rains_0 {d n : Nat} {S : gS} {P : gS → Int32 → Prop}   (h : ∀ S1, S1 = uI S (180) 0 ((0 : Int32)) → s_cv d mX12_laysSounds n S1 [.ref (180)] (fun S2 => gG d mX12_rains 0 0 (g_Xj mX12_rains n 0 0 (hPi P)) 13 n (hH S2) [some (.ref (180)), some (.int ((0 : Int32))), some (.int ((0 : Int32)))] [] 0 0)) : gG d mX12_rains 0 0 (g_Xj mX12_rains n 0 0 (hPi P)) 0 n (hH S) [some (.ref (180)), none, none] [] 0 0 := by
  refine kX12_rains_0  ?_
  refine q_pi rfl rfl ?_
  obtain ⟨S1, eS⟩ : ∃ z, z = uI S (180) 0 ((0 : Int32)) := ⟨_, rfl⟩
  rw [← eS]
  have h := h S1 eS
  refine ⟨q_rc rfl, ?_⟩
  obtain ⟨d2, P2, hdd, hC, h⟩ := h
  refine ⟨d2, _, hdd, hC, fun H9 hp => ?_⟩
  obtain ⟨S2, rfl, hp⟩ := hp
  have h := h S2 hp
  exact h
theorem zX12_rains_13 {d n : Nat} {S : gS} {P : gS → Int32 → Prop} {i1 : Int32} {i2 : Int32}  (h : ((10 : Int32) ≤ i2 → P S (i1)) ∧ (¬ ((10 : Int32) ≤ i2) → s_cz d mX12_isAsSeen n S [.ref (180), .int (i2)] (fun S1 b2 => (b2 = false → gG d mX12_rains 0 0 (g_Xj mX12_rains n 0 0 (hPi P)) 13 n (hH S1) [some (.ref (180)), some (.int ((i1 ||| (0 : Int32)))), some (.int ((i2 + 1)))] [] 0 0) ∧ (b2 = true → gG d mX12_rains 0 0 (g_Xj mX12_rains n 0 0 (hPi P)) 13 n (hH S1) [some (.ref (180)), some (.int ((i1 ||| ((1 : Int32) <<< (i2 &&& 31))))), some (.int ((i2 + 1)))] [] 0 0)))) : gG d mX12_rains 0 0 (g_Xj mX12_rains n 0 0 (hPi P)) 13 n (hH S) [some (.ref (180)), some (.int (i1)), some (.int (i2))] [] 0 0 := by
  refine kX12_rains_13  ?_
  refine ⟨fun c => ?_, fun c => ?_⟩
  · have h := h.1 c
    exact ⟨_, rfl, h⟩
  · have h := h.2 c
    refine ⟨q_rc rfl, ?_⟩
    obtain ⟨d2, P2, hdd, hC, h⟩ := h
    refine ⟨d2, _, hdd, hC, fun H9 b2 hp => ?_⟩
    obtain ⟨S1, rfl, hp⟩ := hp
    have h := h S1 b2 hp
    refine ⟨fun c => ?_, fun c => ?_⟩
    · have h := h.1 c
      exact h
    · have h := h.2 c
      exact h

theorem zX12_look_0 {d n : Nat} {S : gS} {P : gS → Int32 → Prop}   (h : ∀ S1, S1 = uI S (180) 0 ((0 : Int32)) → s_ci d mX12_rains n S1 [.ref (180)] (fun S2 x3 => s_ci d mX12_bits n S2 [.int (x3)] (fun S4 x5 => gG d mX12_look 0 0 (g_Xj mX12_look n 0 0 (hPi P)) 23 n (hH S4) [some (.ref (180)), some (.int (x3)), some (.int (x5)), some (.int (x5)), some (.int ((-1 : Int32))), some (.int ((0 : Int32))), none, none] [] 0 0))) : gG d mX12_look 0 0 (g_Xj mX12_look n 0 0 (hPi P)) 0 n (hH S) [some (.ref (180)), none, none, none, none, none, none, none] [] 0 0 := by
  refine kX12_look_0  ?_
  refine q_pi rfl rfl ?_
  obtain ⟨S1, eS⟩ : ∃ z, z = uI S (180) 0 ((0 : Int32)) := ⟨_, rfl⟩
  rw [← eS]
  have h := h S1 eS
  refine ⟨q_rc rfl, ?_⟩
  obtain ⟨d2, P2, hdd, hC, h⟩ := h
  refine ⟨d2, _, hdd, hC, fun H9 x3 hp => ?_⟩
  obtain ⟨S2, rfl, hp⟩ := hp
  have h := h S2 x3 hp
  obtain ⟨d2, P2, hdd, hC, h⟩ := h
  refine ⟨d2, _, hdd, hC, fun H9 x5 hp => ?_⟩
  obtain ⟨S4, rfl, hp⟩ := hp
  have h := h S4 x5 hp
  exact h
theorem zX12_look_23 {d n : Nat} {S : gS} {P : gS → Int32 → Prop} {i1 : Int32} {i2 : Int32} {i3 : Int32} {i4 : Int32} {i5 : Int32}  (h : (((sR S (182) (0)) ≤ i5 → P S (i4)) ∧ (¬ ((sR S (182) (0)) ≤ i5) → gG d mX12_look 0 0 (g_Xj mX12_look n 0 0 (hPi P)) 40 n (hH S) [some (.ref (180)), some (.int (i1)), some (.int (i2)), some (.int (i3)), some (.int (i4)), some (.int (i5)), some (.int ((0 : Int32))), some (.int ((0 : Int32)))] [] 0 0))) : gG d mX12_look 0 0 (g_Xj mX12_look n 0 0 (hPi P)) 23 n (hH S) [some (.ref (180)), some (.int (i1)), some (.int (i2)), some (.int (i3)), some (.int (i4)), some (.int (i5)), none, none] [] 0 0 := by
  refine kX12_look_23  ?_
  refine q_gc rfl rfl ?_
  refine q_al (k := 0) rfl (by decide) (vp_l (by decide)) (by decide) ?_
  refine ⟨fun c => ?_, fun c => ?_⟩
  · have h := h.1 c
    exact ⟨_, rfl, h⟩
  · have h := h.2 c
    exact h
theorem zX12_look_40 {d n : Nat} {S : gS} {P : gS → Int32 → Prop} {i1 : Int32} {i2 : Int32} {i3 : Int32} {i4 : Int32} {i5 : Int32} {i6 : Int32} {i7 : Int32}  (hd1 : 1 ≤ d) (h : ((10 : Int32) ≤ i7 → ((if i6 < (i2 - i6) then (i2 - i6) else i6) < i3 → gG d mX12_look 0 0 (g_Xj mX12_look n 0 0 (hPi P)) 23 n (hH S) [some (.ref (180)), some (.int (i1)), some (.int (i2)), some (.int ((if i6 < (i2 - i6) then (i2 - i6) else i6))), some (.int (i5)), some (.int ((i5 + 1))), none, none] [] 0 0) ∧ (¬ ((if i6 < (i2 - i6) then (i2 - i6) else i6) < i3) → gG d mX12_look 0 0 (g_Xj mX12_look n 0 0 (hPi P)) 23 n (hH S) [some (.ref (180)), some (.int (i1)), some (.int (i2)), some (.int (i3)), some (.int (i4)), some (.int ((i5 + 1))), none, none] [] 0 0)) ∧ (¬ ((10 : Int32) ≤ i7) → (¬ (((i1 >>> (i7 &&& 31)) &&& (1 : Int32)) = (1 : Int32)) → gG d mX12_look 0 0 (g_Xj mX12_look n 0 0 (hPi P)) 40 n (hH S) [some (.ref (180)), some (.int (i1)), some (.int (i2)), some (.int (i3)), some (.int (i4)), some (.int (i5)), some (.int ((i6 + (0 : Int32)))), some (.int ((i7 + 1)))] [] 0 0) ∧ (((i1 >>> (i7 &&& 31)) &&& (1 : Int32)) = (1 : Int32) → vp_in (i7) 10 ∧ ((¬ ((((sR S (224) (Int32.toNatClampNeg (i7))) >>> (i5 &&& 31)) &&& (1 : Int32)) = (1 : Int32)) → gG d mX12_look 0 0 (g_Xj mX12_look n 0 0 (hPi P)) 40 n (hH S) [some (.ref (180)), some (.int (i1)), some (.int (i2)), some (.int (i3)), some (.int (i4)), some (.int (i5)), some (.int ((i6 + (0 : Int32)))), some (.int ((i7 + 1)))] [] 0 0) ∧ ((((sR S (224) (Int32.toNatClampNeg (i7))) >>> (i5 &&& 31)) &&& (1 : Int32)) = (1 : Int32) → gG d mX12_look 0 0 (g_Xj mX12_look n 0 0 (hPi P)) 40 n (hH S) [some (.ref (180)), some (.int (i1)), some (.int (i2)), some (.int (i3)), some (.int (i4)), some (.int (i5)), some (.int ((i6 + (1 : Int32)))), some (.int ((i7 + 1)))] [] 0 0))))) : gG d mX12_look 0 0 (g_Xj mX12_look n 0 0 (hPi P)) 40 n (hH S) [some (.ref (180)), some (.int (i1)), some (.int (i2)), some (.int (i3)), some (.int (i4)), some (.int (i5)), some (.int (i6)), some (.int (i7))] [] 0 0 := by
  refine kX12_look_40 hd1 ?_
  refine ⟨fun c => ?_, fun c => ?_⟩
  · have h := h.1 c
    refine ⟨fun c => ?_, fun c => ?_⟩
    · have h := h.1 c
      exact h
    · have h := h.2 c
      exact h
  · have h := h.2 c
    refine ⟨fun c => ?_, fun c => ?_⟩
    · have h := h.1 c
      exact h
    · have h := h.2 c
      refine q_gc rfl rfl ?_
      obtain ⟨hv1, h⟩ := h
      refine q_al (k := Int32.toNatClampNeg (i7)) rfl (by decide) hv1 rfl ?_
      refine ⟨fun c => ?_, fun c => ?_⟩
      · have h := h.1 c
        exact h
      · have h := h.2 c
        exact h

theorem zX12_chance_0 {d n : Nat} {S : gS} {P : gS → Int32 → Prop} {i1 : Int32} {i2 : Int32} {i3 : Int32}  (h : ∀ S1, S1 = uI S (180) 0 ((0 : Int32)) → s_cz d mX12_isLetter0 n S1 [.ref (180), .int (i1)] (fun S2 b3 => (b3 = false → P S2 ((-1 : Int32))) ∧ (b3 = true → s_cz d mX12_within n S2 [.int (i2), .int ((1 : Int32)), .int ((6 : Int32))] (fun S4 b5 => (b5 = false → P S4 ((-1 : Int32))) ∧ (b5 = true → s_cz d mX12_within n S4 [.int (i3), .int ((0 : Int32)), .int ((10 : Int32))] (fun S6 b7 => (b7 = true → gG d mX12_chance 0 0 (g_Xj mX12_chance n 0 0 (hPi P)) 44 n (hH S6) [some (.ref (180)), some (.int (i1)), some (.int (i2)), some (.int (i3)), some (.long ((0 : Int64))), none, some (.long ((1 : Int64))), none, some (.int ((0 : Int32))), none, none, none, none, none] [] 0 0) ∧ (b7 = false → P S6 ((-1 : Int32))))))))) : gG d mX12_chance 0 0 (g_Xj mX12_chance n 0 0 (hPi P)) 0 n (hH S) [some (.ref (180)), some (.int (i1)), some (.int (i2)), some (.int (i3)), none, none, none, none, none, none, none, none, none, none] [] 0 0 := by
  refine kX12_chance_0  ?_
  refine q_pi rfl rfl ?_
  obtain ⟨S1, eS⟩ : ∃ z, z = uI S (180) 0 ((0 : Int32)) := ⟨_, rfl⟩
  rw [← eS]
  have h := h S1 eS
  refine ⟨q_rc rfl, ?_⟩
  obtain ⟨d2, P2, hdd, hC, h⟩ := h
  refine ⟨d2, _, hdd, hC, fun H9 b3 hp => ?_⟩
  obtain ⟨S2, rfl, hp⟩ := hp
  have h := h S2 b3 hp
  refine ⟨fun c => ?_, fun c => ?_⟩
  · have h := h.1 c
    exact ⟨_, rfl, h⟩
  · have h := h.2 c
    obtain ⟨d2, P2, hdd, hC, h⟩ := h
    refine ⟨d2, _, hdd, hC, fun H9 b5 hp => ?_⟩
    obtain ⟨S4, rfl, hp⟩ := hp
    have h := h S4 b5 hp
    refine ⟨fun c => ?_, fun c => ?_⟩
    · have h := h.1 c
      exact ⟨_, rfl, h⟩
    · have h := h.2 c
      obtain ⟨d2, P2, hdd, hC, h⟩ := h
      refine ⟨d2, _, hdd, hC, fun H9 b7 hp => ?_⟩
      obtain ⟨S6, rfl, hp⟩ := hp
      have h := h S6 b7 hp
      refine ⟨fun c => ?_, fun c => ?_⟩
      · have h := h.1 c
        exact h
      · have h := h.2 c
        exact ⟨_, rfl, h⟩
theorem zX12_chance_44 {d n : Nat} {S : gS} {P : gS → Int32 → Prop} {i1 : Int32} {i2 : Int32} {i3 : Int32} {j4 : Int64} {j6 : Int64} {i8 : Int32}  (h : (i2 ≤ i8 → s_cv d mX12_copies n S [.ref (216), .int ((0 : Int32)), .ref (218), .int ((0 : Int32))] (fun S1 => gG d mX12_chance 0 0 (g_Xj mX12_chance n 0 0 (hPi P)) 80 n (hH S1) [some (.ref (180)), some (.int (i1)), some (.int (i2)), some (.int (i3)), some (.long (j4)), none, some (.long (j6)), none, some (.int ((0 : Int32))), none, none, none, none, none] [] 0 0)) ∧ (¬ (i2 ≤ i8) → gG d mX12_chance 0 0 (g_Xj mX12_chance n 0 0 (hPi P)) 44 n (hH S) [some (.ref (180)), some (.int (i1)), some (.int (i2)), some (.int (i3)), some (.long (j4)), none, some (.long ((j6 * (10 : Int64)))), none, some (.int ((i8 + 1))), none, none, none, none, none] [] 0 0)) : gG d mX12_chance 0 0 (g_Xj mX12_chance n 0 0 (hPi P)) 44 n (hH S) [some (.ref (180)), some (.int (i1)), some (.int (i2)), some (.int (i3)), some (.long (j4)), none, some (.long (j6)), none, some (.int (i8)), none, none, none, none, none] [] 0 0 := by
  refine kX12_chance_44  ?_
  refine ⟨fun c => ?_, fun c => ?_⟩
  · have h := h.1 c
    refine q_gc rfl rfl ?_
    refine q_gc rfl rfl ?_
    obtain ⟨d2, P2, hdd, hC, h⟩ := h
    refine ⟨d2, _, hdd, hC, fun H9 hp => ?_⟩
    obtain ⟨S1, rfl, hp⟩ := hp
    have h := h S1 hp
    exact h
  · have h := h.2 c
    exact h
theorem zX12_chance_80 {d n : Nat} {S : gS} {P : gS → Int32 → Prop} {i1 : Int32} {i2 : Int32} {i3 : Int32} {j4 : Int64} {j6 : Int64} {i8 : Int32}  (h : (((1 : Int32) <<< (i2 &&& 31)) ≤ i8 → ¬ (j6 = 0) ∧ (P S ((Int64.toInt32 (((j4 * (1000000 : Int64)) / j6)))))) ∧ (¬ (((1 : Int32) <<< (i2 &&& 31)) ≤ i8) → gG d mX12_chance 0 0 (g_Xj mX12_chance n 0 0 (hPi P)) 97 n (hH S) [some (.ref (180)), some (.int (i1)), some (.int (i2)), some (.int (i3)), some (.long (j4)), none, some (.long (j6)), none, some (.int (i8)), some (.long ((1 : Int64))), none, some (.int ((-1 : Int32))), some (.int ((0 : Int32))), none] [] 0 0)) : gG d mX12_chance 0 0 (g_Xj mX12_chance n 0 0 (hPi P)) 80 n (hH S) [some (.ref (180)), some (.int (i1)), some (.int (i2)), some (.int (i3)), some (.long (j4)), none, some (.long (j6)), none, some (.int (i8)), none, none, none, none, none] [] 0 0 := by
  refine kX12_chance_80  ?_
  refine ⟨fun c => ?_, fun c => ?_⟩
  · have h := h.1 c
    refine ⟨h.1, ?_⟩
    have h := h.2
    exact ⟨_, rfl, h⟩
  · have h := h.2 c
    exact h
theorem zX12_chance_97 {d n : Nat} {S : gS} {P : gS → Int32 → Prop} {i1 : Int32} {i2 : Int32} {i3 : Int32} {j4 : Int64} {j6 : Int64} {i8 : Int32} {j9 : Int64} {i11 : Int32} {i12 : Int32}  (h : (i2 ≤ i12 → (¬ (i11 = i1) → gG d mX12_chance 0 0 (g_Xj mX12_chance n 0 0 (hPi P)) 177 n (hH S) [some (.ref (180)), some (.int (i1)), some (.int (i2)), some (.int (i3)), some (.long (j4)), none, some (.long (j6)), none, some (.int (i8)), none, none, none, none, none] [] 0 0) ∧ (i11 = i1 → gG d mX12_chance 0 0 (g_Xj mX12_chance n 0 0 (hPi P)) 177 n (hH S) [some (.ref (180)), some (.int (i1)), some (.int (i2)), some (.int (i3)), some (.long ((j4 + j9))), none, some (.long (j6)), none, some (.int (i8)), none, none, none, none, none] [] 0 0)) ∧ (¬ (i2 ≤ i12) → (¬ (((i8 >>> (i12 &&& 31)) &&& (1 : Int32)) = (1 : Int32)) → gG d mX12_chance 0 0 (g_Xj mX12_chance n 0 0 (hPi P)) 121 n (hH S) [some (.ref (180)), some (.int (i1)), some (.int (i2)), some (.int (i3)), some (.long (j4)), none, some (.long (j6)), none, some (.int (i8)), some (.long (j9)), none, none, some (.int (i12)), some (.int ((0 : Int32)))] [] 0 0) ∧ (((i8 >>> (i12 &&& 31)) &&& (1 : Int32)) = (1 : Int32) → gG d mX12_chance 0 0 (g_Xj mX12_chance n 0 0 (hPi P)) 121 n (hH S) [some (.ref (180)), some (.int (i1)), some (.int (i2)), some (.int (i3)), some (.long (j4)), none, some (.long (j6)), none, some (.int (i8)), some (.long (j9)), none, none, some (.int (i12)), some (.int ((1 : Int32)))] [] 0 0))) : gG d mX12_chance 0 0 (g_Xj mX12_chance n 0 0 (hPi P)) 97 n (hH S) [some (.ref (180)), some (.int (i1)), some (.int (i2)), some (.int (i3)), some (.long (j4)), none, some (.long (j6)), none, some (.int (i8)), some (.long (j9)), none, some (.int (i11)), some (.int (i12)), none] [] 0 0 := by
  refine kX12_chance_97  ?_
  refine ⟨fun c => ?_, fun c => ?_⟩
  · have h := h.1 c
    refine ⟨fun c => ?_, fun c => ?_⟩
    · have h := h.1 c
      exact h
    · have h := h.2 c
      exact h
  · have h := h.2 c
    refine ⟨fun c => ?_, fun c => ?_⟩
    · have h := h.1 c
      exact h
    · have h := h.2 c
      exact h
theorem zX12_chance_121 {d n : Nat} {S : gS} {P : gS → Int32 → Prop} {i1 : Int32} {i2 : Int32} {i3 : Int32} {j4 : Int64} {j6 : Int64} {i8 : Int32} {j9 : Int64} {i12 : Int32} {i13 : Int32}  (h : (i13 = 0 → gG d mX12_chance 0 0 (g_Xj mX12_chance n 0 0 (hPi P)) 141 n (hH S) [some (.ref (180)), some (.int (i1)), some (.int (i2)), some (.int (i3)), some (.long (j4)), none, some (.long (j6)), none, some (.int (i8)), some (.long ((j9 * (Int32.toInt64 (((10 : Int32) - i3)))))), none, none, some (.int (i12)), some (.int (i13))] [] 0 0) ∧ (¬ (i13 = 0) → gG d mX12_chance 0 0 (g_Xj mX12_chance n 0 0 (hPi P)) 141 n (hH S) [some (.ref (180)), some (.int (i1)), some (.int (i2)), some (.int (i3)), some (.long (j4)), none, some (.long (j6)), none, some (.int (i8)), some (.long ((j9 * (Int32.toInt64 (i3))))), none, none, some (.int (i12)), some (.int (i13))] [] 0 0)) : gG d mX12_chance 0 0 (g_Xj mX12_chance n 0 0 (hPi P)) 121 n (hH S) [some (.ref (180)), some (.int (i1)), some (.int (i2)), some (.int (i3)), some (.long (j4)), none, some (.long (j6)), none, some (.int (i8)), some (.long (j9)), none, none, some (.int (i12)), some (.int (i13))] [] 0 0 := by
  refine kX12_chance_121  ?_
  refine ⟨fun c => ?_, fun c => ?_⟩
  · have h := h.1 c
    exact h
  · have h := h.2 c
    exact h
theorem zX12_chance_141 {d n : Nat} {S : gS} {P : gS → Int32 → Prop} {i1 : Int32} {i2 : Int32} {i3 : Int32} {j4 : Int64} {j6 : Int64} {i8 : Int32} {j9 : Int64} {i12 : Int32} {i13 : Int32}  (h : (i13 = 0 → s_ci d mX12_passes n S [.ref (180), .int ((0 : Int32))] (fun S1 x2 => gG d mX12_chance 0 0 (g_Xj mX12_chance n 0 0 (hPi P)) 97 n (hH S1) [some (.ref (180)), some (.int (i1)), some (.int (i2)), some (.int (i3)), some (.long (j4)), none, some (.long (j6)), none, some (.int (i8)), some (.long (j9)), none, some (.int (x2)), some (.int ((i12 + 1))), none] [] 0 0)) ∧ (¬ (i13 = 0) → s_ci d mX12_passes n S [.ref (180), .int ((9 : Int32))] (fun S3 x4 => gG d mX12_chance 0 0 (g_Xj mX12_chance n 0 0 (hPi P)) 97 n (hH S3) [some (.ref (180)), some (.int (i1)), some (.int (i2)), some (.int (i3)), some (.long (j4)), none, some (.long (j6)), none, some (.int (i8)), some (.long (j9)), none, some (.int (x4)), some (.int ((i12 + 1))), none] [] 0 0))) : gG d mX12_chance 0 0 (g_Xj mX12_chance n 0 0 (hPi P)) 141 n (hH S) [some (.ref (180)), some (.int (i1)), some (.int (i2)), some (.int (i3)), some (.long (j4)), none, some (.long (j6)), none, some (.int (i8)), some (.long (j9)), none, none, some (.int (i12)), some (.int (i13))] [] 0 0 := by
  refine kX12_chance_141  ?_
  refine ⟨fun c => ?_, fun c => ?_⟩
  · have h := h.1 c
    refine ⟨q_rc rfl, ?_⟩
    obtain ⟨d2, P2, hdd, hC, h⟩ := h
    refine ⟨d2, _, hdd, hC, fun H9 x2 hp => ?_⟩
    obtain ⟨S1, rfl, hp⟩ := hp
    have h := h S1 x2 hp
    exact h
  · have h := h.2 c
    refine ⟨q_rc rfl, ?_⟩
    obtain ⟨d2, P2, hdd, hC, h⟩ := h
    refine ⟨d2, _, hdd, hC, fun H9 x4 hp => ?_⟩
    obtain ⟨S3, rfl, hp⟩ := hp
    have h := h S3 x4 hp
    exact h
theorem zX12_chance_177 {d n : Nat} {S : gS} {P : gS → Int32 → Prop} {i1 : Int32} {i2 : Int32} {i3 : Int32} {j4 : Int64} {j6 : Int64} {i8 : Int32}  (h : s_cv d mX12_copies n S [.ref (218), .int ((0 : Int32)), .ref (216), .int ((0 : Int32))] (fun S1 => gG d mX12_chance 0 0 (g_Xj mX12_chance n 0 0 (hPi P)) 80 n (hH S1) [some (.ref (180)), some (.int (i1)), some (.int (i2)), some (.int (i3)), some (.long (j4)), none, some (.long (j6)), none, some (.int ((i8 + 1))), none, none, none, none, none] [] 0 0)) : gG d mX12_chance 0 0 (g_Xj mX12_chance n 0 0 (hPi P)) 177 n (hH S) [some (.ref (180)), some (.int (i1)), some (.int (i2)), some (.int (i3)), some (.long (j4)), none, some (.long (j6)), none, some (.int (i8)), none, none, none, none, none] [] 0 0 := by
  refine kX12_chance_177  ?_
  refine q_gc rfl rfl ?_
  refine q_gc rfl rfl ?_
  obtain ⟨d2, P2, hdd, hC, h⟩ := h
  refine ⟨d2, _, hdd, hC, fun H9 hp => ?_⟩
  obtain ⟨S1, rfl, hp⟩ := hp
  have h := h S1 hp
  exact h

theorem zX12_getsBy_0 {d n : Nat} {S : gS} {P : gS → Int32 → Prop} {i0 : Int32} {i1 : Int32} {i2 : Int32} {i3 : Int32} {i4 : Int32}  (h : (¬ (i3 = (1 : Int32)) → (¬ (i4 = (1 : Int32)) → P S ((0 : Int32))) ∧ (i4 = (1 : Int32) → P S (i2))) ∧ (i3 = (1 : Int32) → (¬ (i4 = (1 : Int32)) → P S (i1)) ∧ (i4 = (1 : Int32) → P S ((-i0))))) : gG d mX12_getsBy 0 0 (g_Xj mX12_getsBy n 0 0 (hPi P)) 0 n (hH S) [some (.int (i0)), some (.int (i1)), some (.int (i2)), some (.int (i3)), some (.int (i4))] [] 0 0 := by
  refine kX12_getsBy_0  ?_
  refine ⟨fun c => ?_, fun c => ?_⟩
  · have h := h.1 c
    refine ⟨fun c => ?_, fun c => ?_⟩
    · have h := h.1 c
      exact ⟨_, rfl, h⟩
    · have h := h.2 c
      exact ⟨_, rfl, h⟩
  · have h := h.2 c
    refine ⟨fun c => ?_, fun c => ?_⟩
    · have h := h.1 c
      exact ⟨_, rfl, h⟩
    · have h := h.2 c
      exact ⟨_, rfl, h⟩

theorem zX12_rests_0 {d n : Nat} {S : gS} {P : gS → Int32 → Prop} {i1 : Int32} {i2 : Int32} {i3 : Int32} {i4 : Int32}  (h : s_cz d mX12_within n S [.int (i1), .int ((0 : Int32)), .int ((9 : Int32))] (fun S1 b2 => (b2 = false → ∀ S3, S3 = uI S1 (180) 0 ((1 : Int32)) → gG d mX12_rests 0 0 (g_Xj mX12_rests n 0 0 (hPi P)) 45 n (hH S3) [some (.ref (180)), some (.int (i1)), some (.int (i2)), some (.int (i3)), some (.int (i4)), none, none, none, none] [] 0 0) ∧ (b2 = true → s_cz d mX12_within n S1 [.int (i2), .int ((0 : Int32)), .int ((9 : Int32))] (fun S4 b5 => (b5 = false → ∀ S6, S6 = uI S4 (180) 0 ((1 : Int32)) → gG d mX12_rests 0 0 (g_Xj mX12_rests n 0 0 (hPi P)) 45 n (hH S6) [some (.ref (180)), some (.int (i1)), some (.int (i2)), some (.int (i3)), some (.int (i4)), none, none, none, none] [] 0 0) ∧ (b5 = true → s_cz d mX12_within n S4 [.int (i3), .int ((0 : Int32)), .int ((9 : Int32))] (fun S7 b8 => (b8 = false → ∀ S9, S9 = uI S7 (180) 0 ((1 : Int32)) → gG d mX12_rests 0 0 (g_Xj mX12_rests n 0 0 (hPi P)) 45 n (hH S9) [some (.ref (180)), some (.int (i1)), some (.int (i2)), some (.int (i3)), some (.int (i4)), none, none, none, none] [] 0 0) ∧ (b8 = true → (i4 < (-1 : Int32) → ∀ S10, S10 = uI S7 (180) 0 ((1 : Int32)) → gG d mX12_rests 0 0 (g_Xj mX12_rests n 0 0 (hPi P)) 45 n (hH S10) [some (.ref (180)), some (.int (i1)), some (.int (i2)), some (.int (i3)), some (.int (i4)), none, none, none, none] [] 0 0) ∧ (¬ (i4 < (-1 : Int32)) → ∀ S11, S11 = uI S7 (180) 0 ((0 : Int32)) → gG d mX12_rests 0 0 (g_Xj mX12_rests n 0 0 (hPi P)) 45 n (hH S11) [some (.ref (180)), some (.int (i1)), some (.int (i2)), some (.int (i3)), some (.int (i4)), none, none, none, none] [] 0 0)))))))) : gG d mX12_rests 0 0 (g_Xj mX12_rests n 0 0 (hPi P)) 0 n (hH S) [some (.ref (180)), some (.int (i1)), some (.int (i2)), some (.int (i3)), some (.int (i4)), none, none, none, none] [] 0 0 := by
  refine kX12_rests_0  ?_
  obtain ⟨d2, P2, hdd, hC, h⟩ := h
  refine ⟨d2, _, hdd, hC, fun H9 b2 hp => ?_⟩
  obtain ⟨S1, rfl, hp⟩ := hp
  have h := h S1 b2 hp
  refine ⟨fun c => ?_, fun c => ?_⟩
  · have h := h.1 c
    refine q_pi rfl rfl ?_
    obtain ⟨S3, eS⟩ : ∃ z, z = uI S1 (180) 0 ((1 : Int32)) := ⟨_, rfl⟩
    rw [← eS]
    have h := h S3 eS
    exact h
  · have h := h.2 c
    obtain ⟨d2, P2, hdd, hC, h⟩ := h
    refine ⟨d2, _, hdd, hC, fun H9 b5 hp => ?_⟩
    obtain ⟨S4, rfl, hp⟩ := hp
    have h := h S4 b5 hp
    refine ⟨fun c => ?_, fun c => ?_⟩
    · have h := h.1 c
      refine q_pi rfl rfl ?_
      obtain ⟨S6, eS⟩ : ∃ z, z = uI S4 (180) 0 ((1 : Int32)) := ⟨_, rfl⟩
      rw [← eS]
      have h := h S6 eS
      exact h
    · have h := h.2 c
      obtain ⟨d2, P2, hdd, hC, h⟩ := h
      refine ⟨d2, _, hdd, hC, fun H9 b8 hp => ?_⟩
      obtain ⟨S7, rfl, hp⟩ := hp
      have h := h S7 b8 hp
      refine ⟨fun c => ?_, fun c => ?_⟩
      · have h := h.1 c
        refine q_pi rfl rfl ?_
        obtain ⟨S9, eS⟩ : ∃ z, z = uI S7 (180) 0 ((1 : Int32)) := ⟨_, rfl⟩
        rw [← eS]
        have h := h S9 eS
        exact h
      · have h := h.2 c
        refine ⟨fun c => ?_, fun c => ?_⟩
        · have h := h.1 c
          refine q_pi rfl rfl ?_
          obtain ⟨S10, eS⟩ : ∃ z, z = uI S7 (180) 0 ((1 : Int32)) := ⟨_, rfl⟩
          rw [← eS]
          have h := h S10 eS
          exact h
        · have h := h.2 c
          refine q_pi rfl rfl ?_
          obtain ⟨S11, eS⟩ : ∃ z, z = uI S7 (180) 0 ((0 : Int32)) := ⟨_, rfl⟩
          rw [← eS]
          have h := h S11 eS
          exact h
theorem zX12_rests_45 {d n : Nat} {S : gS} {P : gS → Int32 → Prop} {i1 : Int32} {i2 : Int32} {i3 : Int32} {i4 : Int32}  (h : (¬ ((sI S (180) 0) = (1 : Int32)) → gG d mX12_rests 0 0 (g_Xj mX12_rests n 0 0 (hPi P)) 61 n (hH S) [some (.ref (180)), some (.int (i1)), some (.int (i2)), some (.int (i3)), some (.int (i4)), some (.int ((0 : Int32))), some (.int ((0 : Int32))), none, none] [] 0 0) ∧ ((sI S (180) 0) = (1 : Int32) → P S ((0 : Int32)))) : gG d mX12_rests 0 0 (g_Xj mX12_rests n 0 0 (hPi P)) 45 n (hH S) [some (.ref (180)), some (.int (i1)), some (.int (i2)), some (.int (i3)), some (.int (i4)), none, none, none, none] [] 0 0 := by
  refine kX12_rests_45  ?_
  refine q_gi rfl rfl ?_
  refine ⟨fun c => ?_, fun c => ?_⟩
  · have h := h.1 c
    exact h
  · have h := h.2 c
    exact ⟨_, rfl, h⟩
theorem zX12_rests_61 {d n : Nat} {S : gS} {P : gS → Int32 → Prop} {i1 : Int32} {i2 : Int32} {i3 : Int32} {i4 : Int32} {i5 : Int32} {i6 : Int32}  (h : ((4 : Int32) ≤ i6 → (¬ (i4 = (-1 : Int32)) → ∀ S1, S1 = uI S (180) 0 ((1 : Int32)) → (¬ (i4 = (-1 : Int32)) → P S1 ((0 : Int32))) ∧ (i4 = (-1 : Int32) → P S1 (i5))) ∧ (i4 = (-1 : Int32) → ∀ S2, S2 = uI S (180) 0 ((0 : Int32)) → (¬ (i4 = (-1 : Int32)) → P S2 ((0 : Int32))) ∧ (i4 = (-1 : Int32) → P S2 (i5)))) ∧ (¬ ((4 : Int32) ≤ i6) → s_ci d mX12_getsBy n S [.int (i1), .int (i2), .int (i3), .int (((1 : Int32) - (i6 / (2 : Int32)))), .int ((i6 - i6 / (2 : Int32) * (2 : Int32)))] (fun S3 x4 => s_ci d mX12_getsBy n S3 [.int (i1), .int (i2), .int (i3), .int ((i6 / (2 : Int32))), .int ((i6 - i6 / (2 : Int32) * (2 : Int32)))] (fun S5 x6 => (x6 < x4 → gG d mX12_rests 0 0 (g_Xj mX12_rests n 0 0 (hPi P)) 61 n (hH S5) [some (.ref (180)), some (.int (i1)), some (.int (i2)), some (.int (i3)), some (.int (i4)), some (.int (i5)), some (.int ((i6 + 1))), none, none] [] 0 0) ∧ (¬ (x6 < x4) → s_ci d mX12_getsBy n S5 [.int (i1), .int (i2), .int (i3), .int (((1 : Int32) - (i6 - i6 / (2 : Int32) * (2 : Int32)))), .int ((i6 / (2 : Int32)))] (fun S7 x8 => s_ci d mX12_getsBy n S7 [.int (i1), .int (i2), .int (i3), .int ((i6 - i6 / (2 : Int32) * (2 : Int32))), .int ((i6 / (2 : Int32)))] (fun S9 x10 => (x8 ≤ x10 → (¬ (i5 = i4) → gG d mX12_rests 0 0 (g_Xj mX12_rests n 0 0 (hPi P)) 61 n (hH S9) [some (.ref (180)), some (.int (i1)), some (.int (i2)), some (.int (i3)), some (.int (i4)), some (.int ((i5 + 1))), some (.int ((i6 + 1))), none, none] [] 0 0) ∧ (i5 = i4 → P S9 (i6))) ∧ (¬ (x8 ≤ x10) → gG d mX12_rests 0 0 (g_Xj mX12_rests n 0 0 (hPi P)) 61 n (hH S9) [some (.ref (180)), some (.int (i1)), some (.int (i2)), some (.int (i3)), some (.int (i4)), some (.int (i5)), some (.int ((i6 + 1))), none, none] [] 0 0)))))))) : gG d mX12_rests 0 0 (g_Xj mX12_rests n 0 0 (hPi P)) 61 n (hH S) [some (.ref (180)), some (.int (i1)), some (.int (i2)), some (.int (i3)), some (.int (i4)), some (.int (i5)), some (.int (i6)), none, none] [] 0 0 := by
  refine kX12_rests_61  ?_
  refine ⟨fun c => ?_, fun c => ?_⟩
  · have h := h.1 c
    refine ⟨fun c => ?_, fun c => ?_⟩
    · have h := h.1 c
      refine q_pi rfl rfl ?_
      obtain ⟨S1, eS⟩ : ∃ z, z = uI S (180) 0 ((1 : Int32)) := ⟨_, rfl⟩
      rw [← eS]
      have h := h S1 eS
      refine ⟨fun c => ?_, fun c => ?_⟩
      · have h := h.1 c
        exact ⟨_, rfl, h⟩
      · have h := h.2 c
        exact ⟨_, rfl, h⟩
    · have h := h.2 c
      refine q_pi rfl rfl ?_
      obtain ⟨S2, eS⟩ : ∃ z, z = uI S (180) 0 ((0 : Int32)) := ⟨_, rfl⟩
      rw [← eS]
      have h := h S2 eS
      refine ⟨fun c => ?_, fun c => ?_⟩
      · have h := h.1 c
        exact ⟨_, rfl, h⟩
      · have h := h.2 c
        exact ⟨_, rfl, h⟩
  · have h := h.2 c
    obtain ⟨d2, P2, hdd, hC, h⟩ := h
    refine ⟨d2, _, hdd, hC, fun H9 x4 hp => ?_⟩
    obtain ⟨S3, rfl, hp⟩ := hp
    have h := h S3 x4 hp
    obtain ⟨d2, P2, hdd, hC, h⟩ := h
    refine ⟨d2, _, hdd, hC, fun H9 x6 hp => ?_⟩
    obtain ⟨S5, rfl, hp⟩ := hp
    have h := h S5 x6 hp
    refine ⟨fun c => ?_, fun c => ?_⟩
    · have h := h.1 c
      exact h
    · have h := h.2 c
      obtain ⟨d2, P2, hdd, hC, h⟩ := h
      refine ⟨d2, _, hdd, hC, fun H9 x8 hp => ?_⟩
      obtain ⟨S7, rfl, hp⟩ := hp
      have h := h S7 x8 hp
      obtain ⟨d2, P2, hdd, hC, h⟩ := h
      refine ⟨d2, _, hdd, hC, fun H9 x10 hp => ?_⟩
      obtain ⟨S9, rfl, hp⟩ := hp
      have h := h S9 x10 hp
      refine ⟨fun c => ?_, fun c => ?_⟩
      · have h := h.1 c
        refine ⟨fun c => ?_, fun c => ?_⟩
        · have h := h.1 c
          exact h
        · have h := h.2 c
          exact ⟨_, rfl, h⟩
      · have h := h.2 c
        exact h

theorem zX12_draws_0 {d n : Nat} {S : gS} {P : gS → Int32 → Prop} {i1 : Int32}  (h : ∀ S1, S1 = uJ S (180) 59 (((((sJ S (180) 59) * (1103515245 : Int64)) + (12345 : Int64)) - (((sJ S (180) 59) * (1103515245 : Int64)) + (12345 : Int64)) / (2147483648 : Int64) * (2147483648 : Int64))) → ¬ ((Int32.toInt64 (i1)) = 0) ∧ (P S1 ((Int64.toInt32 ((((sJ S1 (180) 59) / (65536 : Int64)) - ((sJ S1 (180) 59) / (65536 : Int64)) / (Int32.toInt64 (i1)) * (Int32.toInt64 (i1)))))))) : gG d mX12_draws 0 0 (g_Xj mX12_draws n 0 0 (hPi P)) 0 n (hH S) [some (.ref (180)), some (.int (i1))] [] 0 0 := by
  refine kX12_draws_0  ?_
  refine q_gl rfl rfl ?_
  refine q_pl rfl rfl ?_
  obtain ⟨S1, eS⟩ : ∃ z, z = uJ S (180) 59 (((((sJ S (180) 59) * (1103515245 : Int64)) + (12345 : Int64)) - (((sJ S (180) 59) * (1103515245 : Int64)) + (12345 : Int64)) / (2147483648 : Int64) * (2147483648 : Int64))) := ⟨_, rfl⟩
  rw [← eS]
  have h := h S1 eS
  refine q_gl rfl rfl ?_
  refine ⟨h.1, ?_⟩
  have h := h.2
  exact ⟨_, rfl, h⟩

theorem zX12_livesMinute_0 {d n : Nat} {S : gS} {P : gS → Int32 → Prop}   (h : (((sR S (182) (0)) ≤ 0 → s_ci d mX12_passesAsTold n S [.ref (180)] (fun S1 x2 => P S1 (x2))) ∧ (¬ ((sR S (182) (0)) ≤ 0) → (s_ci d mX12_draws n S [.ref (180), .int ((sR S (182) (0)))] (fun S3 x4 => s_ci d mX12_draws n S3 [.ref (180), .int ((5 : Int32))] (fun S5 x6 => (¬ (x6 = 0) → gG d mX12_livesMinute 0 0 (g_Xj mX12_livesMinute n 0 0 (hPi P)) 43 n (hH S5) [some (.ref (180)), some (.int (x4)), some (.int (x6))] [] 0 0) ∧ (x6 = 0 → s_ci d mX12_draws n S5 [.ref (180), .int ((9 : Int32))] (fun S7 x8 => s_cv d mX12_pours n S7 [.ref (180), .int (x4), .int ((x8 + (1 : Int32)))] (fun S9 => gG d mX12_livesMinute 0 0 (g_Xj mX12_livesMinute n 0 0 (hPi P)) 43 n (hH S9) [some (.ref (180)), some (.int (x4)), some (.int (x6))] [] 0 0))))))))) : gG d mX12_livesMinute 0 0 (g_Xj mX12_livesMinute n 0 0 (hPi P)) 0 n (hH S) [some (.ref (180)), none, none] [] 0 0 := by
  refine kX12_livesMinute_0  ?_
  refine q_gc rfl rfl ?_
  refine q_al (k := 0) rfl (by decide) (vp_l (by decide)) (by decide) ?_
  refine ⟨fun c => ?_, fun c => ?_⟩
  · have h := h.1 c
    refine ⟨q_rc rfl, ?_⟩
    obtain ⟨d2, P2, hdd, hC, h⟩ := h
    refine ⟨d2, _, hdd, hC, fun H9 x2 hp => ?_⟩
    obtain ⟨S1, rfl, hp⟩ := hp
    have h := h S1 x2 hp
    exact ⟨_, rfl, h⟩
  · have h := h.2 c
    refine q_gc rfl rfl ?_
    refine q_al (k := 0) rfl (by decide) (vp_l (by decide)) (by decide) ?_
    refine ⟨q_rc rfl, ?_⟩
    obtain ⟨d2, P2, hdd, hC, h⟩ := h
    refine ⟨d2, _, hdd, hC, fun H9 x4 hp => ?_⟩
    obtain ⟨S3, rfl, hp⟩ := hp
    have h := h S3 x4 hp
    refine ⟨q_rc rfl, ?_⟩
    obtain ⟨d2, P2, hdd, hC, h⟩ := h
    refine ⟨d2, _, hdd, hC, fun H9 x6 hp => ?_⟩
    obtain ⟨S5, rfl, hp⟩ := hp
    have h := h S5 x6 hp
    refine ⟨fun c => ?_, fun c => ?_⟩
    · have h := h.1 c
      exact h
    · have h := h.2 c
      refine ⟨q_rc rfl, ?_⟩
      obtain ⟨d2, P2, hdd, hC, h⟩ := h
      refine ⟨d2, _, hdd, hC, fun H9 x8 hp => ?_⟩
      obtain ⟨S7, rfl, hp⟩ := hp
      have h := h S7 x8 hp
      refine ⟨q_rc rfl, ?_⟩
      obtain ⟨d2, P2, hdd, hC, h⟩ := h
      refine ⟨d2, _, hdd, hC, fun H9 hp => ?_⟩
      obtain ⟨S9, rfl, hp⟩ := hp
      have h := h S9 hp
      exact h
theorem zX12_livesMinute_43 {d n : Nat} {S : gS} {P : gS → Int32 → Prop} {i1 : Int32} {i2 : Int32}  (h : (¬ (i2 = (1 : Int32)) → gG d mX12_livesMinute 0 0 (g_Xj mX12_livesMinute n 0 0 (hPi P)) 60 n (hH S) [some (.ref (180)), some (.int (i1)), some (.int (i2))] [] 0 0) ∧ (i2 = (1 : Int32) → ((∀ S1, S1 = uR S (216) (1) (((sR S (216) (1)) ||| ((1 : Int32) <<< (i1 &&& 31)))) → gG d mX12_livesMinute 0 0 (g_Xj mX12_livesMinute n 0 0 (hPi P)) 60 n (hH S1) [some (.ref (180)), some (.int (i1)), some (.int (i2))] [] 0 0)))) : gG d mX12_livesMinute 0 0 (g_Xj mX12_livesMinute n 0 0 (hPi P)) 43 n (hH S) [some (.ref (180)), some (.int (i1)), some (.int (i2))] [] 0 0 := by
  refine kX12_livesMinute_43  ?_
  refine ⟨fun c => ?_, fun c => ?_⟩
  · have h := h.1 c
    exact h
  · have h := h.2 c
    refine q_gc rfl rfl ?_
    refine q_al (k := 1) rfl (by decide) (vp_l (by decide)) (by decide) ?_
    refine q_as (k := 1) rfl (by decide) (vp_l (by decide)) (by decide) ?_
    obtain ⟨S1, eS⟩ : ∃ z, z = uR S (216) (1) (((sR S (216) (1)) ||| ((1 : Int32) <<< (i1 &&& 31)))) := ⟨_, rfl⟩
    rw [← eS]
    have h := h S1 eS
    exact h
theorem zX12_livesMinute_60 {d n : Nat} {S : gS} {P : gS → Int32 → Prop} {i1 : Int32} {i2 : Int32}  (h : (¬ (i2 = (2 : Int32)) → s_ci d mX12_passesAsTold n S [.ref (180)] (fun S1 x2 => P S1 (x2))) ∧ (i2 = (2 : Int32) → ((∀ S3, S3 = uR S (216) (1) (((sR S (216) (1)) &&& (((1 : Int32) <<< (i1 &&& 31)) ^^^ (-1 : Int32)))) → s_ci d mX12_passesAsTold n S3 [.ref (180)] (fun S4 x5 => P S4 (x5)))))) : gG d mX12_livesMinute 0 0 (g_Xj mX12_livesMinute n 0 0 (hPi P)) 60 n (hH S) [some (.ref (180)), some (.int (i1)), some (.int (i2))] [] 0 0 := by
  refine kX12_livesMinute_60  ?_
  refine ⟨fun c => ?_, fun c => ?_⟩
  · have h := h.1 c
    refine ⟨q_rc rfl, ?_⟩
    obtain ⟨d2, P2, hdd, hC, h⟩ := h
    refine ⟨d2, _, hdd, hC, fun H9 x2 hp => ?_⟩
    obtain ⟨S1, rfl, hp⟩ := hp
    have h := h S1 x2 hp
    exact ⟨_, rfl, h⟩
  · have h := h.2 c
    refine q_gc rfl rfl ?_
    refine q_al (k := 1) rfl (by decide) (vp_l (by decide)) (by decide) ?_
    refine q_as (k := 1) rfl (by decide) (vp_l (by decide)) (by decide) ?_
    obtain ⟨S3, eS⟩ : ∃ z, z = uR S (216) (1) (((sR S (216) (1)) &&& (((1 : Int32) <<< (i1 &&& 31)) ^^^ (-1 : Int32)))) := ⟨_, rfl⟩
    rw [← eS]
    have h := h S3 eS
    refine ⟨q_rc rfl, ?_⟩
    obtain ⟨d2, P2, hdd, hC, h⟩ := h
    refine ⟨d2, _, hdd, hC, fun H9 x5 hp => ?_⟩
    obtain ⟨S4, rfl, hp⟩ := hp
    have h := h S4 x5 hp
    exact ⟨_, rfl, h⟩

theorem zX12_days_0 {d n : Nat} {S : gS} {P : gS → Int32 → Prop} {i1 : Int32} {i2 : Int32} {i3 : Int32}  (h : ∀ S1, S1 = uI S (180) 0 ((0 : Int32)) → s_cz d mX12_within n S1 [.int (i1), .int ((0 : Int32)), .int ((9999 : Int32))] (fun S2 b3 => (b3 = false → P S2 ((-1 : Int32))) ∧ (b3 = true → s_cz d mX12_within n S2 [.int (i2), .int ((1 : Int32)), .int ((99 : Int32))] (fun S4 b5 => (b5 = false → P S4 ((-1 : Int32))) ∧ (b5 = true → s_cz d mX12_within n S4 [.int (i3), .int ((0 : Int32)), .int ((2 : Int32))] (fun S6 b7 => (b7 = true → ∀ S8, S8 = uJ S6 (180) 59 ((Int32.toInt64 (i1))) → s_cv d mX12_copies n S8 [.ref (216), .int ((0 : Int32)), .ref (217), .int ((0 : Int32))] (fun S9 => gG d mX12_days 0 0 (g_Xj mX12_days n 0 0 (hPi P)) 65 n (hH S9) [some (.ref (180)), none, some (.int (i2)), some (.int (i3)), some (.int ((0 : Int32))), some (.int ((0 : Int32))), some (.int ((0 : Int32))), none] [] 0 0)) ∧ (b7 = false → P S6 ((-1 : Int32))))))))) : gG d mX12_days 0 0 (g_Xj mX12_days n 0 0 (hPi P)) 0 n (hH S) [some (.ref (180)), some (.int (i1)), some (.int (i2)), some (.int (i3)), none, none, none, none] [] 0 0 := by
  refine kX12_days_0  ?_
  refine q_pi rfl rfl ?_
  obtain ⟨S1, eS⟩ : ∃ z, z = uI S (180) 0 ((0 : Int32)) := ⟨_, rfl⟩
  rw [← eS]
  have h := h S1 eS
  obtain ⟨d2, P2, hdd, hC, h⟩ := h
  refine ⟨d2, _, hdd, hC, fun H9 b3 hp => ?_⟩
  obtain ⟨S2, rfl, hp⟩ := hp
  have h := h S2 b3 hp
  refine ⟨fun c => ?_, fun c => ?_⟩
  · have h := h.1 c
    exact ⟨_, rfl, h⟩
  · have h := h.2 c
    obtain ⟨d2, P2, hdd, hC, h⟩ := h
    refine ⟨d2, _, hdd, hC, fun H9 b5 hp => ?_⟩
    obtain ⟨S4, rfl, hp⟩ := hp
    have h := h S4 b5 hp
    refine ⟨fun c => ?_, fun c => ?_⟩
    · have h := h.1 c
      exact ⟨_, rfl, h⟩
    · have h := h.2 c
      obtain ⟨d2, P2, hdd, hC, h⟩ := h
      refine ⟨d2, _, hdd, hC, fun H9 b7 hp => ?_⟩
      obtain ⟨S6, rfl, hp⟩ := hp
      have h := h S6 b7 hp
      refine ⟨fun c => ?_, fun c => ?_⟩
      · have h := h.1 c
        refine q_pl rfl rfl ?_
        obtain ⟨S8, eS⟩ : ∃ z, z = uJ S6 (180) 59 ((Int32.toInt64 (i1))) := ⟨_, rfl⟩
        rw [← eS]
        have h := h S8 eS
        refine q_gc rfl rfl ?_
        refine q_gc rfl rfl ?_
        obtain ⟨d2, P2, hdd, hC, h⟩ := h
        refine ⟨d2, _, hdd, hC, fun H9 hp => ?_⟩
        obtain ⟨S9, rfl, hp⟩ := hp
        have h := h S9 hp
        exact h
      · have h := h.2 c
        exact ⟨_, rfl, h⟩
theorem zX12_days_65 {d n : Nat} {S : gS} {P : gS → Int32 → Prop} {i2 : Int32} {i3 : Int32} {i4 : Int32} {i5 : Int32} {i6 : Int32}  (h : (i2 ≤ i6 → s_ci d mX12_allStands n S [.ref (180)] (fun S1 x2 => s_cv d mX12_copies n S1 [.ref (217), .int ((0 : Int32)), .ref (216), .int ((0 : Int32))] (fun S3 => (¬ (i3 = 0) → (¬ (i3 = (1 : Int32)) → P S3 (x2)) ∧ (i3 = (1 : Int32) → P S3 (i5))) ∧ (i3 = 0 → P S3 (i4))))) ∧ (¬ (i2 ≤ i6) → s_ci d mX12_livesMinute n S [.ref (180)] (fun S4 x5 => (x5 < 0 → gG d mX12_days 0 0 (g_Xj mX12_days n 0 0 (hPi P)) 99 n (hH S4) [some (.ref (180)), none, some (.int (i2)), some (.int (i3)), some (.int ((i4 + (0 : Int32)))), some (.int (i5)), some (.int (i6)), some (.int (x5))] [] 0 0) ∧ (¬ (x5 < 0) → (x5 = (6 : Int32) → gG d mX12_days 0 0 (g_Xj mX12_days n 0 0 (hPi P)) 99 n (hH S4) [some (.ref (180)), none, some (.int (i2)), some (.int (i3)), some (.int ((i4 + (0 : Int32)))), some (.int (i5)), some (.int (i6)), some (.int (x5))] [] 0 0) ∧ (¬ (x5 = (6 : Int32)) → gG d mX12_days 0 0 (g_Xj mX12_days n 0 0 (hPi P)) 99 n (hH S4) [some (.ref (180)), none, some (.int (i2)), some (.int (i3)), some (.int ((i4 + (1 : Int32)))), some (.int (i5)), some (.int (i6)), some (.int (x5))] [] 0 0))))) : gG d mX12_days 0 0 (g_Xj mX12_days n 0 0 (hPi P)) 65 n (hH S) [some (.ref (180)), none, some (.int (i2)), some (.int (i3)), some (.int (i4)), some (.int (i5)), some (.int (i6)), none] [] 0 0 := by
  refine kX12_days_65  ?_
  refine ⟨fun c => ?_, fun c => ?_⟩
  · have h := h.1 c
    refine ⟨q_rc rfl, ?_⟩
    obtain ⟨d2, P2, hdd, hC, h⟩ := h
    refine ⟨d2, _, hdd, hC, fun H9 x2 hp => ?_⟩
    obtain ⟨S1, rfl, hp⟩ := hp
    have h := h S1 x2 hp
    refine q_gc rfl rfl ?_
    refine q_gc rfl rfl ?_
    obtain ⟨d2, P2, hdd, hC, h⟩ := h
    refine ⟨d2, _, hdd, hC, fun H9 hp => ?_⟩
    obtain ⟨S3, rfl, hp⟩ := hp
    have h := h S3 hp
    refine ⟨fun c => ?_, fun c => ?_⟩
    · have h := h.1 c
      refine ⟨fun c => ?_, fun c => ?_⟩
      · have h := h.1 c
        exact ⟨_, rfl, h⟩
      · have h := h.2 c
        exact ⟨_, rfl, h⟩
    · have h := h.2 c
      exact ⟨_, rfl, h⟩
  · have h := h.2 c
    refine ⟨q_rc rfl, ?_⟩
    obtain ⟨d2, P2, hdd, hC, h⟩ := h
    refine ⟨d2, _, hdd, hC, fun H9 x5 hp => ?_⟩
    obtain ⟨S4, rfl, hp⟩ := hp
    have h := h S4 x5 hp
    refine ⟨fun c => ?_, fun c => ?_⟩
    · have h := h.1 c
      exact h
    · have h := h.2 c
      refine ⟨fun c => ?_, fun c => ?_⟩
      · have h := h.1 c
        exact h
      · have h := h.2 c
        exact h
theorem zX12_days_99 {d n : Nat} {S : gS} {P : gS → Int32 → Prop} {i2 : Int32} {i3 : Int32} {i4 : Int32} {i5 : Int32} {i6 : Int32} {i7 : Int32}  (h : (¬ (i7 = (6 : Int32)) → gG d mX12_days 0 0 (g_Xj mX12_days n 0 0 (hPi P)) 65 n (hH S) [some (.ref (180)), none, some (.int (i2)), some (.int (i3)), some (.int (i4)), some (.int ((i5 + (0 : Int32)))), some (.int ((i6 + 1))), none] [] 0 0) ∧ (i7 = (6 : Int32) → gG d mX12_days 0 0 (g_Xj mX12_days n 0 0 (hPi P)) 65 n (hH S) [some (.ref (180)), none, some (.int (i2)), some (.int (i3)), some (.int (i4)), some (.int ((i5 + (1 : Int32)))), some (.int ((i6 + 1))), none] [] 0 0)) : gG d mX12_days 0 0 (g_Xj mX12_days n 0 0 (hPi P)) 99 n (hH S) [some (.ref (180)), none, some (.int (i2)), some (.int (i3)), some (.int (i4)), some (.int (i5)), some (.int (i6)), some (.int (i7))] [] 0 0 := by
  refine kX12_days_99  ?_
  refine ⟨fun c => ?_, fun c => ?_⟩
  · have h := h.1 c
    exact h
  · have h := h.2 c
    exact h

theorem zX12_mark_0 {d n : Nat} {S : gS} {P : gS → Bool → Prop} {i1 : Int32} {i2 : Int32}  (h : ∀ S1, S1 = uI S (180) 0 ((0 : Int32)) → s_cz d mX12_within n S1 [.int (i1), .int ((0 : Int32)), .int ((3 : Int32))] (fun S2 b3 => (b3 = false → P S2 false) ∧ (b3 = true → (i2 = 0 → gG d mX12_mark 0 0 (g_Xz mX12_mark n 0 0 (hPz P)) 29 n (hH S2) [some (.ref (180)), some (.int (i1)), some (.int (i2)), none, none] [] 0 0) ∧ (¬ (i2 = 0) → vp_in (i1) 4 ∧ ((¬ ((sR S2 (221) (Int32.toNatClampNeg (i1))) = 0) → gG d mX12_mark 0 0 (g_Xz mX12_mark n 0 0 (hPz P)) 29 n (hH S2) [some (.ref (180)), some (.int (i1)), some (.int (i2)), none, none] [] 0 0) ∧ ((sR S2 (221) (Int32.toNatClampNeg (i1))) = 0 → P S2 false)))))) : gG d mX12_mark 0 0 (g_Xz mX12_mark n 0 0 (hPz P)) 0 n (hH S) [some (.ref (180)), some (.int (i1)), some (.int (i2)), none, none] [] 0 0 := by
  refine kX12_mark_0  ?_
  refine q_pi rfl rfl ?_
  obtain ⟨S1, eS⟩ : ∃ z, z = uI S (180) 0 ((0 : Int32)) := ⟨_, rfl⟩
  rw [← eS]
  have h := h S1 eS
  obtain ⟨d2, P2, hdd, hC, h⟩ := h
  refine ⟨d2, _, hdd, hC, fun H9 b3 hp => ?_⟩
  obtain ⟨S2, rfl, hp⟩ := hp
  have h := h S2 b3 hp
  refine ⟨fun c => ?_, fun c => ?_⟩
  · have h := h.1 c
    exact ⟨_, rfl, h⟩
  · have h := h.2 c
    refine ⟨fun c => ?_, fun c => ?_⟩
    · have h := h.1 c
      exact h
    · have h := h.2 c
      refine q_gc rfl rfl ?_
      obtain ⟨hv4, h⟩ := h
      refine q_al (k := Int32.toNatClampNeg (i1)) rfl (by decide) hv4 rfl ?_
      refine ⟨fun c => ?_, fun c => ?_⟩
      · have h := h.1 c
        exact h
      · have h := h.2 c
        exact ⟨_, rfl, h⟩
theorem zX12_mark_29 {d n : Nat} {S : gS} {P : gS → Bool → Prop} {i1 : Int32} {i2 : Int32}  (h : vp_in (i1) 4 ∧ (∀ S2, S2 = uR S (221) (Int32.toNatClampNeg (i1)) (vp_nar .boolean ((1 : Int32))) → (i2 = 0 → gG d mX12_mark 0 0 (g_Xz mX12_mark n 0 0 (hPz P)) 48 n (hH S2) [some (.ref (180)), some (.int (i1)), some (.int (i2)), some (.int ((0 : Int32))), none] [] 0 0) ∧ (¬ (i2 = 0) → gG d mX12_mark 0 0 (g_Xz mX12_mark n 0 0 (hPz P)) 48 n (hH S2) [some (.ref (180)), some (.int (i1)), some (.int (i2)), some (.int (((1 : Int32) + i1))), none] [] 0 0))) : gG d mX12_mark 0 0 (g_Xz mX12_mark n 0 0 (hPz P)) 29 n (hH S) [some (.ref (180)), some (.int (i1)), some (.int (i2)), none, none] [] 0 0 := by
  refine kX12_mark_29  ?_
  refine q_gc rfl rfl ?_
  obtain ⟨hv1, h⟩ := h
  refine q_as (k := Int32.toNatClampNeg (i1)) rfl (by decide) hv1 rfl ?_
  obtain ⟨S2, eS⟩ : ∃ z, z = uR S (221) (Int32.toNatClampNeg (i1)) (vp_nar .boolean ((1 : Int32))) := ⟨_, rfl⟩
  rw [← eS]
  have h := h S2 eS
  refine ⟨fun c => ?_, fun c => ?_⟩
  · have h := h.1 c
    exact h
  · have h := h.2 c
    exact h
theorem zX12_mark_48 {d n : Nat} {S : gS} {P : gS → Bool → Prop} {i1 : Int32} {i2 : Int32} {i3 : Int32}  (h : (i2 = 0 → gG d mX12_mark 0 0 (g_Xz mX12_mark n 0 0 (hPz P)) 61 n (hH S) [some (.ref (180)), some (.int (i1)), some (.int (i2)), some (.int (i3)), some (.int (((1 : Int32) + i1)))] [] 0 0) ∧ (¬ (i2 = 0) → gG d mX12_mark 0 0 (g_Xz mX12_mark n 0 0 (hPz P)) 61 n (hH S) [some (.ref (180)), some (.int (i1)), some (.int (i2)), some (.int (i3)), some (.int ((0 : Int32)))] [] 0 0)) : gG d mX12_mark 0 0 (g_Xz mX12_mark n 0 0 (hPz P)) 48 n (hH S) [some (.ref (180)), some (.int (i1)), some (.int (i2)), some (.int (i3)), none] [] 0 0 := by
  refine kX12_mark_48  ?_
  refine ⟨fun c => ?_, fun c => ?_⟩
  · have h := h.1 c
    exact h
  · have h := h.2 c
    exact h
theorem zX12_mark_61 {d n : Nat} {S : gS} {P : gS → Bool → Prop} {i1 : Int32} {i2 : Int32} {i3 : Int32} {i4 : Int32}  (h : s_cv d mX12_laysLines n S [.ref (180), .int (i3), .int (i4)] (fun S1 => s_cv d mX12_laysWord n S1 [.ref (180), .int (i3), .int (i4)] (fun S2 => s_cv d mX12_laysSeen n S2 [.ref (180), .int (i3), .int (i4)] (fun S3 => (i2 = 0 → s_cv d mX12_copies n S3 [.ref (216), .int ((0 : Int32)), .ref (219), .int (((59 : Int32) * i1))] (fun S4 => P S4 true)) ∧ (¬ (i2 = 0) → s_cv d mX12_copies n S3 [.ref (219), .int (((59 : Int32) * i1)), .ref (216), .int ((0 : Int32))] (fun S5 => ∀ S6, S6 = uI S5 (180) 53 ((0 : Int32)) → P S6 true)))))) : gG d mX12_mark 0 0 (g_Xz mX12_mark n 0 0 (hPz P)) 61 n (hH S) [some (.ref (180)), some (.int (i1)), some (.int (i2)), some (.int (i3)), some (.int (i4))] [] 0 0 := by
  refine kX12_mark_61  ?_
  refine ⟨q_rc rfl, ?_⟩
  obtain ⟨d2, P2, hdd, hC, h⟩ := h
  refine ⟨d2, _, hdd, hC, fun H9 hp => ?_⟩
  obtain ⟨S1, rfl, hp⟩ := hp
  have h := h S1 hp
  refine ⟨q_rc rfl, ?_⟩
  obtain ⟨d2, P2, hdd, hC, h⟩ := h
  refine ⟨d2, _, hdd, hC, fun H9 hp => ?_⟩
  obtain ⟨S2, rfl, hp⟩ := hp
  have h := h S2 hp
  refine ⟨q_rc rfl, ?_⟩
  obtain ⟨d2, P2, hdd, hC, h⟩ := h
  refine ⟨d2, _, hdd, hC, fun H9 hp => ?_⟩
  obtain ⟨S3, rfl, hp⟩ := hp
  have h := h S3 hp
  refine ⟨fun c => ?_, fun c => ?_⟩
  · have h := h.1 c
    refine q_gc rfl rfl ?_
    refine q_gc rfl rfl ?_
    obtain ⟨d2, P2, hdd, hC, h⟩ := h
    refine ⟨d2, _, hdd, hC, fun H9 hp => ?_⟩
    obtain ⟨S4, rfl, hp⟩ := hp
    have h := h S4 hp
    exact ⟨_, rfl, h⟩
  · have h := h.2 c
    refine q_gc rfl rfl ?_
    refine q_gc rfl rfl ?_
    obtain ⟨d2, P2, hdd, hC, h⟩ := h
    refine ⟨d2, _, hdd, hC, fun H9 hp => ?_⟩
    obtain ⟨S5, rfl, hp⟩ := hp
    have h := h S5 hp
    refine q_pi rfl rfl ?_
    obtain ⟨S6, eS⟩ : ∃ z, z = uI S5 (180) 53 ((0 : Int32)) := ⟨_, rfl⟩
    rw [← eS]
    have h := h S6 eS
    exact ⟨_, rfl, h⟩

theorem zX12_count_0 {d n : Nat} {S : gS} {P : gS → Int32 → Prop} {i1 : Int32}  (h : ∀ S1, S1 = uI S (180) 0 ((0 : Int32)) → s_cz d mX12_within n S1 [.int (i1), .int ((0 : Int32)), .int ((12 : Int32))] (fun S2 b3 => (b3 = true → ((2 : Int32) ≤ i1 → ((5 : Int32) ≤ i1 → ((8 : Int32) ≤ i1 → ((11 : Int32) ≤ i1 → (¬ (i1 = (11 : Int32)) → P S2 ((sI S2 (180) 1))) ∧ (i1 = (11 : Int32) → P S2 ((sI S2 (180) 53)))) ∧ (¬ ((11 : Int32) ≤ i1) → (¬ (i1 = (8 : Int32)) → (¬ (i1 = (9 : Int32)) → (P S2 ((sR S2 (213) (0))))) ∧ (i1 = (9 : Int32) → (P S2 ((sR S2 (211) (0)))))) ∧ (i1 = (8 : Int32) → (P S2 ((sR S2 (207) (0))))))) ∧ (¬ ((8 : Int32) ≤ i1) → (¬ (i1 = (5 : Int32)) → (¬ (i1 = (6 : Int32)) → s_ci d mX12_holesNow n S2 [.ref (180)] (fun S4 x5 => P S4 (x5))) ∧ (i1 = (6 : Int32) → (P S2 ((sR S2 (216) (4)))))) ∧ (i1 = (5 : Int32) → (P S2 ((sR S2 (216) (1))))))) ∧ (¬ ((5 : Int32) ≤ i1) → (¬ (i1 = (2 : Int32)) → (¬ (i1 = (3 : Int32)) → s_ci d mX12_allStands n S2 [.ref (180)] (fun S6 x7 => P S6 (x7))) ∧ (i1 = (3 : Int32) → (s_ci d mX12_rainOf n S2 [.ref (180), .int ((sR S2 (216) (0)))] (fun S8 x9 => P S8 (x9))))) ∧ (i1 = (2 : Int32) → (P S2 ((sR S2 (216) (0))))))) ∧ (¬ ((2 : Int32) ≤ i1) → vp_in (i1) 6 ∧ (P S2 ((sR S2 (182) (Int32.toNatClampNeg (i1))))))) ∧ (b3 = false → P S2 ((-1 : Int32))))) : gG d mX12_count 0 0 (g_Xj mX12_count n 0 0 (hPi P)) 0 n (hH S) [some (.ref (180)), some (.int (i1))] [] 0 0 := by
  refine kX12_count_0  ?_
  refine q_pi rfl rfl ?_
  obtain ⟨S1, eS⟩ : ∃ z, z = uI S (180) 0 ((0 : Int32)) := ⟨_, rfl⟩
  rw [← eS]
  have h := h S1 eS
  obtain ⟨d2, P2, hdd, hC, h⟩ := h
  refine ⟨d2, _, hdd, hC, fun H9 b3 hp => ?_⟩
  obtain ⟨S2, rfl, hp⟩ := hp
  have h := h S2 b3 hp
  refine ⟨fun c => ?_, fun c => ?_⟩
  · have h := h.1 c
    refine ⟨fun c => ?_, fun c => ?_⟩
    · have h := h.1 c
      refine ⟨fun c => ?_, fun c => ?_⟩
      · have h := h.1 c
        refine ⟨fun c => ?_, fun c => ?_⟩
        · have h := h.1 c
          refine ⟨fun c => ?_, fun c => ?_⟩
          · have h := h.1 c
            refine ⟨fun c => ?_, fun c => ?_⟩
            · have h := h.1 c
              refine q_gi rfl rfl ?_
              exact ⟨_, rfl, h⟩
            · have h := h.2 c
              refine q_gi rfl rfl ?_
              exact ⟨_, rfl, h⟩
          · have h := h.2 c
            refine ⟨fun c => ?_, fun c => ?_⟩
            · have h := h.1 c
              refine ⟨fun c => ?_, fun c => ?_⟩
              · have h := h.1 c
                refine q_gc rfl rfl ?_
                refine q_al (k := 0) rfl (by decide) (vp_l (by decide)) (by decide) ?_
                exact ⟨_, rfl, h⟩
              · have h := h.2 c
                refine q_gc rfl rfl ?_
                refine q_al (k := 0) rfl (by decide) (vp_l (by decide)) (by decide) ?_
                exact ⟨_, rfl, h⟩
            · have h := h.2 c
              refine q_gc rfl rfl ?_
              refine q_al (k := 0) rfl (by decide) (vp_l (by decide)) (by decide) ?_
              exact ⟨_, rfl, h⟩
        · have h := h.2 c
          refine ⟨fun c => ?_, fun c => ?_⟩
          · have h := h.1 c
            refine ⟨fun c => ?_, fun c => ?_⟩
            · have h := h.1 c
              refine ⟨q_rc rfl, ?_⟩
              obtain ⟨d2, P2, hdd, hC, h⟩ := h
              refine ⟨d2, _, hdd, hC, fun H9 x5 hp => ?_⟩
              obtain ⟨S4, rfl, hp⟩ := hp
              have h := h S4 x5 hp
              exact ⟨_, rfl, h⟩
            · have h := h.2 c
              refine q_gc rfl rfl ?_
              refine q_al (k := 4) rfl (by decide) (vp_l (by decide)) (by decide) ?_
              exact ⟨_, rfl, h⟩
          · have h := h.2 c
            refine q_gc rfl rfl ?_
            refine q_al (k := 1) rfl (by decide) (vp_l (by decide)) (by decide) ?_
            exact ⟨_, rfl, h⟩
      · have h := h.2 c
        refine ⟨fun c => ?_, fun c => ?_⟩
        · have h := h.1 c
          refine ⟨fun c => ?_, fun c => ?_⟩
          · have h := h.1 c
            refine ⟨q_rc rfl, ?_⟩
            obtain ⟨d2, P2, hdd, hC, h⟩ := h
            refine ⟨d2, _, hdd, hC, fun H9 x7 hp => ?_⟩
            obtain ⟨S6, rfl, hp⟩ := hp
            have h := h S6 x7 hp
            exact ⟨_, rfl, h⟩
          · have h := h.2 c
            refine q_gc rfl rfl ?_
            refine q_al (k := 0) rfl (by decide) (vp_l (by decide)) (by decide) ?_
            refine ⟨q_rc rfl, ?_⟩
            obtain ⟨d2, P2, hdd, hC, h⟩ := h
            refine ⟨d2, _, hdd, hC, fun H9 x9 hp => ?_⟩
            obtain ⟨S8, rfl, hp⟩ := hp
            have h := h S8 x9 hp
            exact ⟨_, rfl, h⟩
        · have h := h.2 c
          refine q_gc rfl rfl ?_
          refine q_al (k := 0) rfl (by decide) (vp_l (by decide)) (by decide) ?_
          exact ⟨_, rfl, h⟩
    · have h := h.2 c
      refine q_gc rfl rfl ?_
      obtain ⟨hv10, h⟩ := h
      refine q_al (k := Int32.toNatClampNeg (i1)) rfl (by decide) hv10 rfl ?_
      exact ⟨_, rfl, h⟩
  · have h := h.2 c
    exact ⟨_, rfl, h⟩
