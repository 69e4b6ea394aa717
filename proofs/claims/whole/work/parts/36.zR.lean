theorem zX11_rests_0 {d n : Nat} {S : gS} {P : gS → Int32 → Prop} {PT : gS → Prop} {i1 : Int32} {i2 : Int32} {i3 : Int32} {i4 : Int32} (h : s_cz d mX11_isDigit n S [.int (i1)] (fun S1 b2 => (b2 = false → PT S1) ∧ (b2 = true → s_cz d mX11_isDigit n S1 [.int (i2)] (fun S3 b4 => (b4 = false → PT S3) ∧ (b4 = true → s_cz d mX11_isDigit n S3 [.int (i3)] (fun S5 b6 => (b6 = false → PT S5) ∧ (b6 = true → ((-1 : Int32) ≤ i4 → gG d mX11_rests 1 6 (g_Xr mX11_rests n (hPi P) (hPv PT)) 41 n (hH S5) [none, some (.int (i1)), some (.int (i2)), some (.int (i3)), some (.int (i4)), some (.int ((0 : Int32))), some (.int ((0 : Int32)))] [] 0 0) ∧ (¬ ((-1 : Int32) ≤ i4) → PT S5)))))))) : gG d mX11_rests 1 6 (g_Xr mX11_rests n (hPi P) (hPv PT)) 0 n (hH S) [some (.ref (0)), some (.int (i1)), some (.int (i2)), some (.int (i3)), some (.int (i4)), none, none] [] 0 0 := by
  refine kX11_rests_0 ?_
  obtain ⟨d2, P2, hdd, hC, h⟩ := h
  refine ⟨d2, _, hdd, hC, fun H9 b2 hp => ?_⟩
  obtain ⟨S1, rfl, hp⟩ := hp
  have h := h S1 b2 hp
  refine ⟨fun c => ?_, fun c => ?_⟩
  · have h := h.1 c
    exact ⟨_, rfl, h⟩
  · have h := h.2 c
    obtain ⟨d2, P2, hdd, hC, h⟩ := h
    refine ⟨d2, _, hdd, hC, fun H9 b4 hp => ?_⟩
    obtain ⟨S3, rfl, hp⟩ := hp
    have h := h S3 b4 hp
    refine ⟨fun c => ?_, fun c => ?_⟩
    · have h := h.1 c
      exact ⟨_, rfl, h⟩
    · have h := h.2 c
      obtain ⟨d2, P2, hdd, hC, h⟩ := h
      refine ⟨d2, _, hdd, hC, fun H9 b6 hp => ?_⟩
      obtain ⟨S5, rfl, hp⟩ := hp
      have h := h S5 b6 hp
      refine ⟨fun c => ?_, fun c => ?_⟩
      · have h := h.1 c
        exact ⟨_, rfl, h⟩
      · have h := h.2 c
        refine ⟨fun c => ?_, fun c => ?_⟩
        · have h := h.1 c
          exact h
        · have h := h.2 c
          exact ⟨_, rfl, h⟩
theorem zX11_rests_41 {d n : Nat} {S : gS} {P : gS → Int32 → Prop} {PT : gS → Prop} {i1 : Int32} {i2 : Int32} {i3 : Int32} {i4 : Int32} {i5 : Int32} {i6 : Int32} (h : ((4 : Int32) ≤ i6 → (i4 = (-1 : Int32) → P S (i5)) ∧ (¬ (i4 = (-1 : Int32)) → PT S)) ∧ (¬ ((4 : Int32) ≤ i6) → s_cz d mX11_isRest n S [.int (i1), .int (i2), .int (i3), .int (i6)] (fun S1 b2 => (b2 = false → gG d mX11_rests 1 6 (g_Xr mX11_rests n (hPi P) (hPv PT)) 41 n (hH S1) [none, some (.int (i1)), some (.int (i2)), some (.int (i3)), some (.int (i4)), some (.int (i5)), some (.int ((i6 + 1)))] [] 0 0) ∧ (b2 = true → (¬ (i5 = i4) → gG d mX11_rests 1 6 (g_Xr mX11_rests n (hPi P) (hPv PT)) 41 n (hH S1) [none, some (.int (i1)), some (.int (i2)), some (.int (i3)), some (.int (i4)), some (.int ((i5 + 1))), some (.int ((i6 + 1)))] [] 0 0) ∧ (i5 = i4 → P S1 (i6)))))) : gG d mX11_rests 1 6 (g_Xr mX11_rests n (hPi P) (hPv PT)) 41 n (hH S) [none, some (.int (i1)), some (.int (i2)), some (.int (i3)), some (.int (i4)), some (.int (i5)), some (.int (i6))] [] 0 0 := by
  refine kX11_rests_41 ?_
  refine ⟨fun c => ?_, fun c => ?_⟩
  · have h := h.1 c
    refine ⟨fun c => ?_, fun c => ?_⟩
    · have h := h.1 c
      exact ⟨_, rfl, h⟩
    · have h := h.2 c
      exact ⟨_, rfl, h⟩
  · have h := h.2 c
    obtain ⟨d2, P2, hdd, hC, h⟩ := h
    refine ⟨d2, _, hdd, hC, fun H9 b2 hp => ?_⟩
    obtain ⟨S1, rfl, hp⟩ := hp
    have h := h S1 b2 hp
    refine ⟨fun c => ?_, fun c => ?_⟩
    · have h := h.1 c
      exact h
    · have h := h.2 c
      refine ⟨fun c => ?_, fun c => ?_⟩
      · have h := h.1 c
        exact h
      · have h := h.2 c
        exact ⟨_, rfl, h⟩
