/-! the model's codes at work -/
abbrev wR : List Nat := [197, 198, 199, 200, 201, 202, 203, 204, 205]
def mW (d : Nat) (S S' : gS) : Prop := fr wR S S' ∧ ∀ r j, j < d → sR S' r j = sR S r j
theorem mW_rf {d : Nat} {S : gS} : mW d S S := ⟨fr_rf, fun _ _ _ => rfl⟩
theorem mW_tr {d : Nat} {S S1 S2 : gS} (h : mW d S S1) (h' : mW d S1 S2) : mW d S S2 := ⟨fr_tr h.1 h'.1, fun r j hj => (h'.2 r j hj).trans (h.2 r j hj)⟩
theorem mW_mo {d d' : Nat} {S S1 : gS} (hd : d ≤ d') (h : mW d' S S1) : mW d S S1 := ⟨h.1, fun r j hj => h.2 r j (by omega)⟩
theorem mW_R {d r j : Nat} {S S1 : gS} {x : Int32} (h : mW d S S1) (h1 : 197 ≤ r) (h2 : r ≤ 205) (hj : d ≤ j) : mW d S (uR S1 r j x) :=
  ⟨fr_uR h.1 (by simp only [List.mem_cons, List.not_mem_nil, or_false]; omega), fun r' j' hj' => by rw [R_uR, if_neg (by omega)]; exact h.2 r' j' hj'⟩
theorem mW_o {d b : Nat} {S S1 : gS} (h : mW d S S1) (hb : b < 197 ∨ 205 < b) : sR S1 b = sR S b :=
  frR h.1 (by simp only [List.mem_cons, List.not_mem_nil, or_false]; omega)
def sv (S : gS) (d : Nat) : Int32 := if sR S 202 d = 21 then sR S 201 d - sR S 203 d else sR S 201 d + sR S 203 d
def tv (S : gS) (d : Nat) : Int32 := if sR S 200 d = 25 then (if sR S 199 d = sv S d then 1 else 0) else if sR S 200 d = 24 then (if sv S d ≤ sR S 199 d then 0 else 1) else sv S d
def kv (S : gS) (d : Nat) : Int32 := if sR S 198 d = 27 then (if sR S 197 d = 0 then (if tv S d = 0 then 0 else 1) else 1) else if sR S 198 d = 26 then (if sR S 197 d = 0 then 0 else if tv S d = 0 then 0 else 1) else tv S d
def mSm (S : gS) (d : Nat) : gS := uR (uR S 201 d (sv S d)) 204 d 0
theorem mSums {S : gS} {d : Nat} (hd : d < 7) : FX12_sums S (N d) = some (mSm S d) := by
  unfold FX12_sums mSm sv
  rw [if_pos (vpN hd (by omega)), clN (by omega)]
  split
  · rfl
  · rfl
def mTs (S : gS) (d : Nat) : gS := uR (uR (uR (uR (mSm S d) 197 d (kv S d)) 200 d 0) 201 d 0) 202 d 20
theorem mSm_r {S : gS} {d r j : Nat} : sR (mSm S d) r j = if r = 204 ∧ j = d then 0 else if r = 201 ∧ j = d then sv S d else sR S r j := by
  unfold mSm
  rw [R_uR, R_uR]
theorem mTs_r {S : gS} {d r j : Nat} : sR (mTs S d) r j = if r = 202 ∧ j = d then 20 else if r = 201 ∧ j = d then 0 else if r = 200 ∧ j = d then 0 else if r = 197 ∧ j = d then kv S d else if r = 204 ∧ j = d then 0 else sR S r j := by
  unfold mTs
  rw [R_uR, R_uR, R_uR, R_uR, mSm_r]
  by_cases h : r = 201 ∧ j = d
  · rw [if_pos h, if_pos h]
  · rw [if_neg h, if_neg h, if_neg h]
theorem mTests {S : gS} {d : Nat} (hd : d < 7) : FX12_tests S (N d) = some (mTs S d) := by
  obtain ⟨k, ek, hk⟩ := FU_s
  obtain ⟨k, rfl, hk⟩ := kS (k := k) (m := 3) (by omega)
  obtain ⟨k, rfl, hk⟩ := kS (k := k) (m := 2) (by omega)
  obtain ⟨k, rfl, hk⟩ := kS (k := k) (m := 1) (by omega)
  have e200 : sR (mSm S d) 200 d = sR S 200 d := by rw [mSm_r, if_neg (by omega), if_neg (by omega)]
  have e199 : sR (mSm S d) 199 d = sR S 199 d := by rw [mSm_r, if_neg (by omega), if_neg (by omega)]
  have e198 : sR (mSm S d) 198 d = sR S 198 d := by rw [mSm_r, if_neg (by omega), if_neg (by omega)]
  have e197 : sR (mSm S d) 197 d = sR S 197 d := by rw [mSm_r, if_neg (by omega), if_neg (by omega)]
  have e201 : sR (mSm S d) 201 d = sv S d := by rw [mSm_r, if_neg (by omega), if_pos ⟨rfl, rfl⟩]
  have f136 : ∀ (m : Nat) (x : Int32), fX12_tests (m + 1) 136 (mSm S d) (N d) x = some (uR (uR (uR (uR (mSm S d) 197 d x) 200 d 0) 201 d 0) 202 d 20) := by
    intro m x
    rw [fX12_tests]
    simp only [if_true]
    rw [if_neg (by decide), if_neg (by decide), if_neg (by decide)]
    simp only [bX12_tests_136]
    rw [if_pos (vpN hd (by omega)), clN (by omega)]
    rfl
  have f106 : ∀ (m : Nat) (x : Int32), fX12_tests (m + 1 + 1) 106 (mSm S d) (N d) x = some (uR (uR (uR (uR (mSm S d) 197 d (if sR S 198 d = 27 then (if sR S 197 d = 0 then (if x = 0 then 0 else 1) else 1) else x)) 200 d 0) 201 d 0) 202 d 20) := by
    intro m x
    rw [fX12_tests]
    simp only [if_true]
    rw [if_neg (by decide), if_neg (by decide)]
    simp only [bX12_tests_106]
    rw [if_pos (vpN hd (by omega)), clN (by omega), e198, e197]
    repeat' split
    all_goals exact f136 _ _
  have f76 : ∀ (m : Nat) (x : Int32), fX12_tests (m + 1 + 1 + 1) 76 (mSm S d) (N d) x = some (uR (uR (uR (uR (mSm S d) 197 d (if sR S 198 d = 27 then (if sR S 197 d = 0 then (if x = 0 then 0 else 1) else 1) else if sR S 198 d = 26 then (if sR S 197 d = 0 then 0 else if x = 0 then 0 else 1) else x)) 200 d 0) 201 d 0) 202 d 20) := by
    intro m x
    rw [fX12_tests]
    simp only [if_true]
    rw [if_neg (by decide)]
    simp only [bX12_tests_76]
    rw [if_pos (vpN hd (by omega)), clN (by omega), e198, e197]
    by_cases h26 : sR S 198 d = 26
    · have h27 : ¬ sR S 198 d = 27 := by rw [h26]; decide
      rw [if_pos h26, if_neg h27, if_pos h26]
      repeat' split
      all_goals (rw [f106, if_neg h27])
    · rw [if_neg h26, if_neg h26]; exact f106 _ _
  have f44 : ∀ (x : Int32), fX12_tests FU 44 (mSm S d) (N d) x = some (uR (uR (uR (uR (mSm S d) 197 d (if sR S 198 d = 27 then (if sR S 197 d = 0 then (if (if sR S 200 d = 25 then (if sR S 199 d = sv S d then 1 else 0) else x) = 0 then 0 else 1) else 1) else if sR S 198 d = 26 then (if sR S 197 d = 0 then 0 else if (if sR S 200 d = 25 then (if sR S 199 d = sv S d then 1 else 0) else x) = 0 then 0 else 1) else (if sR S 200 d = 25 then (if sR S 199 d = sv S d then 1 else 0) else x))) 200 d 0) 201 d 0) 202 d 20) := by
    intro x
    rw [ek, fX12_tests]
    simp only [if_true, bX12_tests_44]
    rw [if_pos (vpN hd (by omega)), clN (by omega), e200, e199, e201]
    by_cases h25 : sR S 200 d = 25
    · rw [if_pos h25, if_pos h25]
      split
      · exact f76 _ _
      · exact f76 _ _
    · rw [if_neg h25, if_neg h25]; exact f76 _ _
  unfold FX12_tests
  rw [mSums hd]
  simp only [g_b1]
  rw [if_pos (vpN hd (by omega)), clN (by omega), e200, e199, e201]
  unfold mTs kv tv
  by_cases h24 : sR S 200 d = 24
  · have h25 : ¬ sR S 200 d = 25 := by rw [h24]; decide
    rw [if_pos h24, if_pos h24, if_neg h25]
    split
    · rw [f44, if_neg h25]
    · rw [f44, if_neg h25]
  · rw [if_neg h24, if_neg h24]; exact f44 _
theorem mSm_W {S : gS} {d : Nat} : mW d S (mSm S d) := mW_R (mW_R mW_rf (by omega) (by omega) (Nat.le_refl _)) (by omega) (by omega) (Nat.le_refl _)
theorem mTs_W {S : gS} {d : Nat} : mW d S (mTs S d) := mW_R (mW_R (mW_R (mW_R mSm_W (by omega) (by omega) (Nat.le_refl _)) (by omega) (by omega) (Nat.le_refl _)) (by omega) (by omega) (Nat.le_refl _)) (by omega) (by omega) (Nat.le_refl _)
/-- a stretch of codes that works v on level d -/
def vS (S : gS) (v : aVl) : Int32 := v (sR S 206 1) (sR S 206 2) (sR S 206 3) (sR S 206 4)
theorem vS_W {d : Nat} {S S1 : gS} {v : aVl} (h : mW d S S1) : vS S1 v = vS S v := by unfold vS; rw [mW_o h (by omega)]
def wk (k d i : Nat) (S : gS) (Q : gS × Int32 → Prop) : Prop := wp (fX12_worked k 14 S 0 (N d) (N i) 0 0) Q
def MSg (pre : gS → Nat → Prop) (pst : gS → gS → Nat → Int32 → Prop) (d : Nat) (cs : List Int32) (v : aVl) : Prop :=
  ∀ S i e k Q, d ≤ 5 → (d = 0 ∨ ¬ sR S 205 d = 1) → pre S d → sgm (sR S 194) i cs → sR S 193 0 = N e → i + cs.length ≤ e → e ≤ 2000 → 20 * (e - i) + 20 ≤ k →
    (∀ S' k', mW d S S' → sR S' 205 d = sR S 205 d → pst S S' d (vS S v) → 20 * (e - (i + cs.length)) + 20 ≤ k' → wk k' d (i + cs.length) S' Q) → wk k d i S Q
def MPt (d : Nat) (cs : List Int32) (v : aVl) : Prop :=
  ∀ S i e k Q, d ≤ 5 → sgm (sR S 194) i cs → sR S 193 0 = N e → i + cs.length ≤ e → e ≤ 2000 → 20 * (e - i) + 20 ≤ k →
    (∀ S' k', mW (d + 1) S S' → 20 * (e - (i + cs.length)) + 20 + d + 2 ≤ k' → wp (fX12_worked k' 268 S' 0 (N d) (N (i + cs.length - 1)) 0 (vS S v)) Q) → wk k d i S Q
/-- the code at i -/
theorem wk_c {k d i e : Nat} {S : gS} {c : Int32} {Q : gS × Int32 → Prop} (hc : sR S 194 i = c) (he : sR S 193 0 = N e) (hi : i < e) (he2 : e ≤ 2000) (h : wp (if c = (28 : Int32) then fX12_worked k 46 S 0 (N d) (N i) c 0 else if c = (30 : Int32) then fX12_worked k 46 S 0 (N d) (N i) c 0 else if c = (20 : Int32) then fX12_worked k 89 S 0 (N d) (N i) c 0 else if c = (21 : Int32) then fX12_worked k 89 S 0 (N d) (N i) c 0 else if c = (22 : Int32) then (if g_vp (N d) 7 = true then (g_lt (uR S 204 (Int32.toNatClampNeg (N d)) c) (fun S6 => fX12_worked k 14 S6 0 (N d) (N i + 1) 0 0)) else none) else if c = (24 : Int32) then fX12_worked k 137 S 0 (N d) (N i) c 0 else if c = (25 : Int32) then fX12_worked k 137 S 0 (N d) (N i) c 0 else if c = (26 : Int32) then fX12_worked k 194 S 0 (N d) (N i) c 0 else if c = (27 : Int32) then fX12_worked k 194 S 0 (N d) (N i) c 0 else if c < (100 : Int32) then (if (20 : Int32) ≤ c then fX12_worked k 245 S 0 (N d) (N i) c 0 else if g_vp c 20 = true then fX12_worked k 245 S 0 (N d) (N i) c (sR S 206 (Int32.toNatClampNeg c)) else none) else fX12_worked k 245 S 0 (N d) (N i) c (c - (100 : Int32))) Q) : wk (k + 1) d i S Q := by
  unfold wk
  rw [fX12_worked]
  simp only [if_true, bX12_worked_14]
  rw [if_pos (by decide), show Int32.toNatClampNeg (0 : Int32) = 0 from rfl, he, if_neg (fun h => absurd ((leN (by omega) (by omega)).mp h) (by omega)), if_pos (vpN (by omega) (by omega)), clN (k := i) (by omega), hc]
  exact h
