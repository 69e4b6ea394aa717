/-! copies; a minute that is tried -/
theorem cpy_lt {f g : Nat → Int32} {m i : Nat} (hi : i < m) (hm : m < 2147483648) : va_cpy f g (Int32.toNatClampNeg (0 : Int32)) (Int32.toNatClampNeg (0 : Int32)) (Int32.toNatClampNeg (N m)) i = f i := by
  have e0 : Int32.toNatClampNeg (0 : Int32) = 0 := rfl
  rw [e0, clN hm]
  unfold va_cpy
  rw [if_pos ⟨by omega, by omega⟩, Nat.zero_add, Nat.sub_zero]
theorem cpy7 {f g : Nat → Int32} {i : Nat} (hi : i < 7) : va_cpy f g (Int32.toNatClampNeg (0 : Int32)) (Int32.toNatClampNeg (0 : Int32)) (Int32.toNatClampNeg (7 : Int32)) i = f i := cpy_lt (m := 7) hi (by omega)
theorem cpy40 {f g : Nat → Int32} {i : Nat} (hi : i < 40) : va_cpy f g (Int32.toNatClampNeg (0 : Int32)) (Int32.toNatClampNeg (0 : Int32)) (Int32.toNatClampNeg (40 : Int32)) i = f i := cpy_lt (m := 40) hi (by omega)
theorem xCopy {S : gS} {a b : Nat} (hab : b + 3 < a ∨ a + 3 < b) : wp (FX9_copyFrom S a b) (fun S' => fr [a, a + 1, a + 2, a + 3] S S' ∧ ∀ A, rX S b A → wSz A ≤ 40 → rX S' a A) := by
  unfold FX9_copyFrom
  simp only [wp_lt, wp_some]
  refine ⟨?_, fun A hA hz => ?_⟩
  · exact fr_uI (fr_uA (fr_uI (fr_uI (fr_uA (fr_uA (fr_uI (fr_uI fr_rf (by simp)) (by simp)) (by simp)) (by simp)) (by simp)) (by simp)) (by simp)) (by simp)
  · obtain ⟨a1, a2, a3, a4, a5, a6, a7, a8⟩ := hA
    have n0 : ¬ b = a := by omega
    have n11 : ¬ b + 1 = a + 1 := by omega
    have n12 : ¬ b + 1 = a + 2 := by omega
    have n13 : ¬ b + 1 = a + 3 := by omega
    have n21 : ¬ b + 2 = a + 1 := by omega
    have n22 : ¬ b + 2 = a + 2 := by omega
    have n31 : ¬ b + 3 = a + 1 := by omega
    have n32 : ¬ b + 3 = a + 2 := by omega
    have m12 : ¬ a + 1 = a + 2 := by omega
    have m13 : ¬ a + 1 = a + 3 := by omega
    have m23 : ¬ a + 2 = a + 3 := by omega
    have m21 : ¬ a + 2 = a + 1 := by omega
    refine ⟨?_, ?_, fun i hi => ?_, fun i hi => ?_, ?_, ?_, ?_, fun i hi => ?_⟩
    · simp [I_uI, I_uA, a1]
    · simp [I_uI, I_uA, a2, n0]
    · simp only [R_uI, R_uA, if_neg n11, if_neg n12, if_neg n13, if_neg m12, if_neg m13, if_true]
      rw [cpy7 hi]; exact a3 i hi
    · simp only [R_uI, R_uA, if_neg n21, if_neg n22, if_neg m21, if_neg m23, if_true]
      rw [cpy7 hi]; exact a4 i hi
    · simp [I_uI, I_uA, a5, n0]
    · simp [I_uI, I_uA, a6, n0]
    · simp [I_uI, I_uA, a7, n0]
    · simp only [R_uI, R_uA, if_neg n31, if_neg n32, if_true]
      rw [cpy40 (by omega)]; exact a8 i hi
theorem mCopyL {S : gS} {a0 m0 o0 a2 m2 o2 : Nat} (h0 : o0 + 59 ≤ m0) (h2 : o2 + 59 ≤ m2) (hm0 : m0 ≤ 10000) (hm2 : m2 ≤ 10000) (hne : a0 ≠ a2) (ha : a0 ≠ 180) : ∀ m i k S', i + m = 59 → m + 1 ≤ k → fm [a2] S S' → (∀ j, j < i → sR S' a2 (o2 + j) = sR S a0 (o0 + j)) → (∀ j, (j < o2 ∨ o2 + i ≤ j) → sR S' a2 j = sR S a2 j) →
    wp (fX12_copies m0 m2 k 3 S' a0 (N o0) a2 (N o2) (N i)) (fun T => fm [a2] S T ∧ (∀ j, j < 59 → sR T a2 (o2 + j) = sR S a0 (o0 + j)) ∧ (∀ j, (j < o2 ∨ o2 + 59 ≤ j) → sR T a2 j = sR S a2 j)) := by
  intro m
  induction m with
  | zero =>
    intro i k S' hi hk hS h1 h2'
    obtain ⟨k, rfl, hk'⟩ := kS hk
    rw [fX12_copies]
    simp only [bX12_copies_3, if_true]
    have : i = 59 := by omega
    subst this
    rw [if_pos (by decide), wp_some]
    exact ⟨hS, h1, h2'⟩
  | succ m ih =>
    intro i k S' hi hk hS h1 h2'
    obtain ⟨k, rfl, hk'⟩ := kS hk
    rw [fX12_copies]
    simp only [bX12_copies_3, if_true]
    rw [show (59 : Int32) = N 59 from rfl, if_neg (fun c => absurd ((leN (by omega) (by omega)).mp c) (by omega)), addN, addN, if_pos (vpN (by omega) (by omega)), if_pos (vpN (by omega) (by omega)), clN (by omega), clN (by omega), wp_lt, addN1]
    refine ih (i + 1) k _ (by omega) hk' (fm_uR hS (by simp)) (fun j hj => ?_) (fun j hj => ?_)
    · rw [R_uR]
      by_cases e : j = i
      · subst e
        rw [if_pos ⟨rfl, rfl⟩, fmR hS (by simp; exact hne) ha]
      · rw [if_neg (by omega)]; exact h1 j (by omega)
    · rw [R_uR, if_neg (by omega)]; exact h2' j (by omega)
theorem mCopy {S : gS} {a0 m0 o0 a2 m2 o2 : Nat} (h0 : o0 + 59 ≤ m0) (h2 : o2 + 59 ≤ m2) (hm0 : m0 ≤ 10000) (hm2 : m2 ≤ 10000) (hne : a0 ≠ a2) (ha : a0 ≠ 180) :
    wp (FX12_copies S a0 m0 (N o0) a2 m2 (N o2)) (fun T => fm [a2] S T ∧ (∀ j, j < 59 → sR T a2 (o2 + j) = sR S a0 (o0 + j)) ∧ (∀ j, (j < o2 ∨ o2 + 59 ≤ j) → sR T a2 j = sR S a2 j)) :=
  mCopyL h0 h2 hm0 hm2 hne ha 59 0 FU S (by omega) (by unfold FU; omega) fm_rf (fun j hj => by omega) (fun _ _ => rfl)
theorem rM_cp {S T : gS} {a0 o0 a2 o2 : Nat} {A : aW} (h : rM S a0 o0 A) (hz : wSz A ≤ 40) (hc : ∀ j, j < 59 → sR T a2 (o2 + j) = sR S a0 (o0 + j)) : rM T a2 o2 A := by
  obtain ⟨a1, a2', a3, a4, a5, a6, a7, a8⟩ := h
  have h0 := hc 0 (by omega)
  rw [Nat.add_zero, Nat.add_zero] at h0
  refine ⟨h0.trans a1, (hc 1 (by omega)).trans a2', fun i hi => ?_, fun i hi => ?_, (hc 2 (by omega)).trans a5, (hc 3 (by omega)).trans a6, (hc 4 (by omega)).trans a7, fun i hi => ?_⟩
  · have := hc (5 + i) (by omega)
    rw [← Nat.add_assoc, ← Nat.add_assoc] at this
    exact this.trans (a3 i hi)
  · have := hc (12 + i) (by omega)
    rw [← Nat.add_assoc, ← Nat.add_assoc] at this
    exact this.trans (a4 i hi)
  · have := hc (19 + i) (by omega)
    rw [← Nat.add_assoc, ← Nat.add_assoc] at this
    exact this.trans (a8 i hi)
/-! ranges -/
def inr (a n : Nat) (i : Int32) : Prop := ∃ m, a ≤ m ∧ m < n ∧ m < 2147483648 ∧ i = N m
theorem inr_neg {a n : Nat} {i : Int32} (h : i < 0) : ¬ inr a n i := by
  rintro ⟨m, h1, h2, h3, rfl⟩
  exact nN_lt0 h3 h
theorem inr_hi {a n : Nat} {i : Int32} (hn : n < 2147483648) (h : N n ≤ i) : ¬ inr a n i := by
  rintro ⟨m, h1, h2, h3, rfl⟩
  rw [leN hn h3] at h; omega
theorem inr_lo {a n : Nat} {i : Int32} (ha : a < 2147483648) (h : i < N a) : ¬ inr a n i := by
  rintro ⟨m, h1, h2, h3, rfl⟩
  rw [ltN h3 ha] at h; omega
theorem inr_gt {a b : Nat} {i : Int32} (hb : b < 2147483648) (h : N b < i) : ¬ inr a (b + 1) i := by
  rintro ⟨m, h1, h2, h3, rfl⟩
  rw [ltN hb h3] at h; omega
theorem inr_in {n : Nat} {i : Int32} (hn : n < 2147483648) (h : ¬ i < 0) (h2 : ¬ N n ≤ i) : inr 0 n i := by
  obtain ⟨m, hm, rfl⟩ := I_nn h
  rw [leN hn hm] at h2
  exact ⟨m, by omega, by omega, hm, rfl⟩
theorem inr_in2 {a b : Nat} {i : Int32} (ha : a < 2147483648) (hb : b < 2147483648) (h : ¬ i < N a) (h2 : ¬ N b < i) : inr a (b + 1) i := by
  have h0 : ¬ i < 0 := by
    intro c
    apply h
    rw [ilt] at c ⊢
    rw [tiN ha]
    rw [ti0] at c
    omega
  obtain ⟨m, hm, rfl⟩ := I_nn h0
  rw [ltN hm ha] at h
  rw [ltN hb hm] at h2
  exact ⟨m, by omega, by omega, hm, rfl⟩
theorem fbF {f : Nat} (h : f = 6 ∨ f = 20) : isFb f = true := by
  rcases h with rfl | rfl <;> rfl
theorem xIsMouth {S : gS} {f : Nat} {F : aF} {i : Int32} (hq : sQ S 3 = f) (hF : fX S f F) (ok : okF F) : (inr 0 (fN F) i ∧ FX11_isMouth S i = some (S, true)) ∨ (¬ inr 0 (fN F) i ∧ FX11_isMouth S i = some (S, false)) := by
  have h7 := ok.1
  unfold FX11_isMouth
  rw [hq, fbF hF.1, if_pos rfl, hF.2.1]
  by_cases c : i < 0
  · rw [if_pos c]; exact Or.inr ⟨inr_neg c, rfl⟩
  · rw [if_neg c]
    by_cases c2 : N (fN F) ≤ i
    · rw [if_pos c2]; exact Or.inr ⟨inr_hi (by omega) c2, rfl⟩
    · rw [if_neg c2]; exact Or.inl ⟨inr_in (by omega) c c2, rfl⟩
theorem xIsLetter {S : gS} {f : Nat} {F : aF} {i : Int32} (hq : sQ S 3 = f) (hF : fX S f F) (ok : okF F) : (inr 0 (fL F) i ∧ FX11_isLetter S i = some (S, true)) ∨ (¬ inr 0 (fL F) i ∧ FX11_isLetter S i = some (S, false)) := by
  have h7 := ok.2.1
  unfold FX11_isLetter
  rw [hq, fbF hF.1, if_pos rfl, hF.2.2.2.1]
  by_cases c : i < 0
  · rw [if_pos c]; exact Or.inr ⟨inr_neg c, rfl⟩
  · rw [if_neg c]
    by_cases c2 : N (fL F) ≤ i
    · rw [if_pos c2]; exact Or.inr ⟨inr_hi (by omega) c2, rfl⟩
    · rw [if_neg c2]; exact Or.inl ⟨inr_in (by omega) c c2, rfl⟩
theorem mIsMouth {S : gS} {F : aF} {i : Int32} (hF : fMo S F) (ok : okF F) : (inr 0 (fN F) i ∧ FX12_isMouth S i = some (S, true)) ∨ (¬ inr 0 (fN F) i ∧ FX12_isMouth S i = some (S, false)) := by
  have h7 := ok.1
  unfold FX12_isMouth
  rw [hF.1]
  by_cases c : i < 0
  · rw [if_pos c]; exact Or.inr ⟨inr_neg c, rfl⟩
  · rw [if_neg c]
    by_cases c2 : N (fN F) ≤ i
    · rw [if_pos c2]; exact Or.inr ⟨inr_hi (by omega) c2, rfl⟩
    · rw [if_neg c2]; exact Or.inl ⟨inr_in (by omega) c c2, rfl⟩
theorem mIsLetter {S : gS} {F : aF} {i : Int32} (hF : fMo S F) (ok : okF F) : (inr 0 (fL F) i ∧ FX12_isLetter0 S i = some (S, true)) ∨ (¬ inr 0 (fL F) i ∧ FX12_isLetter0 S i = some (S, false)) := by
  have h7 := ok.2.1
  unfold FX12_isLetter0
  rw [hF.2.1]
  by_cases c : i < 0
  · rw [if_pos c]; exact Or.inr ⟨inr_neg c, rfl⟩
  · rw [if_neg c]
    by_cases c2 : N (fL F) ≤ i
    · rw [if_pos c2]; exact Or.inr ⟨inr_hi (by omega) c2, rfl⟩
    · rw [if_neg c2]; exact Or.inl ⟨inr_in (by omega) c c2, rfl⟩
theorem xAhead {S : gS} {i : Int32} : (inr 1 61 i ∧ FX11_isAhead S i = some (S, true)) ∨ (¬ inr 1 61 i ∧ FX11_isAhead S i = some (S, false)) := by
  unfold FX11_isAhead
  by_cases c : i < 1
  · rw [if_pos c]; exact Or.inr ⟨inr_lo (a := 1) (by omega) c, rfl⟩
  · rw [if_neg c]
    by_cases c2 : (60 : Int32) < i
    · rw [if_pos c2]; exact Or.inr ⟨inr_gt (b := 60) (by omega) c2, rfl⟩
    · rw [if_neg c2]; exact Or.inl ⟨inr_in2 (a := 1) (b := 60) (by omega) (by omega) c c2, rfl⟩
theorem mWithin {S : gS} {i : Int32} {a b : Nat} (ha : a < 2147483648) (hb : b < 2147483648) : (inr a (b + 1) i ∧ FX12_within S i (N a) (N b) = some (S, true)) ∨ (¬ inr a (b + 1) i ∧ FX12_within S i (N a) (N b) = some (S, false)) := by
  unfold FX12_within
  by_cases c : i < N a
  · rw [if_pos c]; exact Or.inr ⟨inr_lo ha c, rfl⟩
  · rw [if_neg c]
    by_cases c2 : N b < i
    · rw [if_pos c2]; exact Or.inr ⟨inr_gt hb c2, rfl⟩
    · rw [if_neg c2]; exact Or.inl ⟨inr_in2 ha hb c c2, rfl⟩
/-! the minute that is tried -/
abbrev xT : List Nat := [53, 54, 55, 56, 19, 33]
def aOv (F : aF) (A : aW) : Int32 := (aEnd F (aRain F (wMi A)) A).2.2.1
def aSp (F : aF) (A : aW) : Int32 := (aEnd F (aRain F (wMi A)) A).2.2.2
theorem xTn {b : Nat} (h : b ≠ 19 ∧ b ≠ 33 ∧ ¬ (53 ≤ b ∧ b ≤ 56)) : b ∉ xT := by
  simp only [List.mem_cons, List.not_mem_nil, or_false]; omega
theorem xTs : ∀ b, b ∈ xT → b ∈ xS := by decide
/-- a front of x that is at hand -/
def hX (S : gS) (f : Nat) (F : aF) : Prop := sQ S 3 = f ∧ fX S f F ∧ okF F
theorem hX_fr {L : List Nat} {S S' : gS} {f : Nat} {F : aF} (h : hX S f F) (hS : fr L S S') (hl : ∀ j, j ≤ 12 → f + j ∉ L) : hX S' f F := ⟨by rw [frQ hS]; exact h.1, fX_fr h.2.1 hS hl, h.2.2⟩
theorem hX_T {S S' : gS} {f : Nat} {F : aF} (h : hX S f F) (hS : fr xT S S') : hX S' f F := hX_fr h hS (fun j hj => xTn (by have := h.2.1.1; omega))
theorem hX_S {S S' : gS} {f : Nat} {F : aF} (h : hX S f F) (hS : fr xS S S') : hX S' f F := hX_fr h hS (fun j hj => xSn (by have := h.2.1.1; omega))
theorem xTrial {S : gS} {f : Nat} {F : aF} {B : aW} {c : Nat} (h : hX S f F) (hB : rX S 53 B) (okB : okW F c B) (hc : c < 2147483648) : wp (FX11_passTrialMinute S) (fun q => fr xT S q.1 ∧ rX q.1 53 (aT F B) ∧ q.2 = wLa (aT F B) ∧ sI q.1 53 6 = aOv F B ∧ sI q.1 53 7 = aSp F B ∧ okW F (c + 1) (aT F B)) := by
  obtain ⟨hq, hF, ok⟩ := h
  unfold FX11_passTrialMinute
  have hmi : wMi B ≤ c := okB.2.1
  rw [hq, fbF hF.1, if_pos rfl, if_pos rfl, wp_b2, hB.1, xRain hF ok (by omega), wp_some, wp_b2]
  refine wp_mono (xPass hF ok (Or.inr rfl) hB okB.1) ?_
  rintro ⟨S1, x⟩ ⟨q1, q2, q3, q4, q5⟩
  rw [wp_some]
  refine ⟨fr_mo q1 ?_, q2, q3, q4, q5, okPass ok (aRain_b ok _) okB⟩
  intro b hb
  rcases hF.1 with rfl | rfl <;> simp only [List.mem_cons, List.not_mem_nil, or_false] at hb ⊢ <;> omega
theorem xTake {S : gS} {A : aW} (hA : rX S 49 A) (hz : wSz A ≤ 40) : wp (FX9_copyFrom S 53 49) (fun S' => fr xT S S' ∧ rX S' 53 A) := by
  refine wp_mono (xCopy (S := S) (a := 53) (b := 49) (Or.inl (by omega))) ?_
  rintro S1 ⟨q1, q2⟩
  exact ⟨fr_mo q1 (by decide), q2 A hA hz⟩
theorem mTold {S : gS} {F : aF} {B : aW} {c : Nat} (hF : fMo S F) (ok : okF F) (hB : rM S 216 0 B) (okB : okW F c B) (hc : c < 2147483648) : wp (FX12_passesAsTold S) (fun q => fm psS S q.1 ∧ rM q.1 216 0 (aT F B) ∧ q.2 = wLa (aT F B) ∧ sI q.1 180 56 = aOv F B ∧ sI q.1 180 55 = aSp F B ∧ okW F (c + 1) (aT F B)) := by
  unfold FX12_passesAsTold
  have hmi : wMi B ≤ c := okB.2.1
  have h0 : sR S 216 0 = N (wMi B) := hB.1
  rw [h0, wp_b2, mRain hF ok (by omega), wp_some, wp_b2]
  refine wp_mono (mPass hF ok hB okB.1) ?_
  rintro ⟨S1, x⟩ ⟨q1, q2, q3, q4, q5⟩
  rw [wp_some]
  exact ⟨q1, q2, q3, q4, q5, okPass ok (aRain_b ok _) okB⟩
/-- the row is laid aside in 218 -/
def mAs (S0 S : gS) (F : aF) : Prop := fm mS S0 S ∧ fMo S F ∧ ∀ j, j < 59 → sR S 218 j = sR S0 216 j
theorem psm : ∀ b, b ∈ psS → b ∈ mS := by decide
theorem mTake {S : gS} {F : aF} {A : aW} (hF : fMo S F) (hA : rM S 216 0 A) (hz : wSz A ≤ 40) : wp (FX12_copies S 216 59 0 218 59 0) (fun T => mAs S T F ∧ rM T 216 0 A) := by
  refine wp_mono (mCopy (S := S) (a0 := 216) (m0 := 59) (o0 := 0) (a2 := 218) (m2 := 59) (o2 := 0) (by omega) (by omega) (by omega) (by omega) (by omega) (by omega)) ?_
  rintro T ⟨q1, q2, q3⟩
  have q1' : fm mS S T := fm_mo q1 (by decide)
  refine ⟨⟨q1', fMo_fm hF q1' (fun b hb => mSn (by omega)), fun j hj => ?_⟩, rM_x hA (fmR q1 (by decide) (by decide))⟩
  have := q2 j hj
  rw [Nat.zero_add] at this; exact this
theorem mAs_ps {S0 S S' : gS} {F : aF} (h : mAs S0 S F) (hS : fm psS S S') : mAs S0 S' F := by
  refine ⟨fm_tr h.1 (fm_mo hS psm), fMo_fm h.2.1 hS (fun b hb => psSn hb), fun j hj => ?_⟩
  rw [fmR hS (by decide) (by decide)]; exact h.2.2 j hj
theorem mBack {S0 S : gS} {F : aF} (h : mAs S0 S F) : wp (FX12_copies S 218 59 0 216 59 0) (fun T => keepM S0 T ∧ fm [216] S T) := by
  refine wp_mono (mCopy (S := S) (a0 := 218) (m0 := 59) (o0 := 0) (a2 := 216) (m2 := 59) (o2 := 0) (by omega) (by omega) (by omega) (by omega) (by omega) (by omega)) ?_
  rintro T ⟨q1, q2, q3⟩
  refine ⟨⟨fm_tr h.1 (fm_mo q1 (by decide)), fun j hj => ?_⟩, q1⟩
  have := q2 j hj
  rw [Nat.zero_add] at this
  exact this.trans (h.2.2 j hj)
theorem keep_rf {S : gS} : keepM S S := ⟨fm_rf, fun _ _ => rfl⟩
theorem keep_th {S : gS} {x : Int32} : keepM S (uI S 180 0 x) := ⟨fm_uI fm_rf (by omega) (by omega), fun _ _ => rfl⟩
theorem keep_tr {S S1 S2 : gS} (h1 : keepM S S1) (h2 : keepM S1 S2) : keepM S S2 := ⟨fm_tr h1.1 h2.1, fun j hj => (h2.2 j hj).trans (h1.2 j hj)⟩
