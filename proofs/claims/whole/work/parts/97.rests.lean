/-! rests -/
theorem uI_uI {S : gS} {a k : Nat} {x y : Int32} : uI (uI S a k x) a k y = uI S a k y := by
  unfold uI
  congr 1
  funext b j
  by_cases h : b = a ∧ j = k
  · simp only [if_pos h]
  · simp only [if_neg h]
def gnn (a b c x y : Int32) : Int32 := if x = 1 then (if y = 1 then -a else b) else (if y = 1 then c else 0)
theorem gnX {S : gS} {a b c x y : Int32} : FX11_gain S a b c x y = some (S, gnn a b c x y) := by
  unfold FX11_gain gnn
  by_cases h1 : x = 1
  · by_cases h2 : y = 1
    · simp only [if_pos h1, if_pos h2]
    · simp only [if_pos h1, if_neg h2]
  · by_cases h2 : y = 1
    · simp only [if_neg h1, if_pos h2]
    · simp only [if_neg h1, if_neg h2]
theorem gnM {S : gS} {a b c x y : Int32} : FX12_getsBy S a b c x y = some (S, gnn a b c x y) := gnX
def isRn (a b c : Int32) (j : Nat) : Bool := decide (¬ gnn a b c (N (j / 2)) (N (j % 2)) < gnn a b c (1 - N (j / 2)) (N (j % 2)) ∧ ¬ gnn a b c (N (j % 2)) (N (j / 2)) < gnn a b c (1 - N (j % 2)) (N (j / 2)))
theorem shR : ∀ j, j < 4 → (N j >>> ((1 : Int32) &&& 31) = N (j / 2) ∧ N j &&& (1 : Int32) = N (j % 2)) ∧ N j / (2 : Int32) = N (j / 2) ∧ N j - N j / (2 : Int32) * (2 : Int32) = N (j % 2) := by decide +kernel
theorem xRest {S : gS} {a b c : Int32} {j : Nat} (hj : j < 4) : FX11_isRest S a b c (N j) = some (S, isRn a b c j) := by
  obtain ⟨⟨s1, s2⟩, -, -⟩ := shR j hj
  have e74 : ∀ (k : Nat) (x y : Int32), fX11_isRest (k + 1) 74 S 0 0 0 0 0 x y = some (S, decide (¬ x = 0 ∧ ¬ y = 0)) := by
    intro k x y
    rw [fX11_isRest]
    simp only [if_true]
    rw [if_neg (by decide)]
    simp only [bX11_isRest_74]
    by_cases h1 : x = 0
    · rw [if_pos h1, decide_eq_false (fun h => h.1 h1)]
    · by_cases h2 : y = 0
      · rw [if_neg h1, if_pos h2, decide_eq_false (fun h => h.2 h2)]
      · rw [if_neg h1, if_neg h2, decide_eq_true ⟨h1, h2⟩]
  have e42 : ∀ x : Int32, fX11_isRest FU 42 S a b c (N (j / 2)) (N (j % 2)) x 0 = some (S, decide (¬ x = 0 ∧ ¬ gnn a b c (N (j % 2)) (N (j / 2)) < gnn a b c (1 - N (j % 2)) (N (j / 2)))) := by
    intro x
    rw [show FU = 999999 + 1 from rfl, fX11_isRest]
    simp only [if_true, bX11_isRest_42]
    rw [gnX]
    simp only [g_b2]
    rw [gnX]
    simp only
    by_cases h : gnn a b c (N (j % 2)) (N (j / 2)) < gnn a b c (1 - N (j % 2)) (N (j / 2))
    · rw [if_pos h, e74]
      simp only [h, not_true, and_false, decide_false]
    · rw [if_neg h, e74]
      simp only [h, not_false_eq_true, and_true, show ¬ (1 : Int32) = 0 by decide]
  unfold FX11_isRest isRn
  rw [s1, s2, gnX]
  simp only [g_b2]
  rw [gnX]
  simp only
  by_cases h : gnn a b c (N (j / 2)) (N (j % 2)) < gnn a b c (1 - N (j / 2)) (N (j % 2))
  · rw [if_pos h, e42]
    simp only [h, not_true, false_and, decide_false]
  · rw [if_neg h, e42]
    simp only [h, not_false_eq_true, true_and, show ¬ (1 : Int32) = 0 by decide]
def aRsL (R : Nat → Bool) (i4 : Int32) : Nat → Nat → Nat → Option Int32
  | 0, _, t => if i4 = -1 then some (N t) else none
  | m + 1, j, t => if R j = true then (if N t = i4 then some (N j) else aRsL R i4 m (j + 1) (t + 1)) else aRsL R i4 m (j + 1) t
def dig (x : Int32) : Bool := decide (¬ x < 0 ∧ ¬ (9 : Int32) < x)
def aRst (a b c i4 : Int32) : Option Int32 := if dig a = true ∧ dig b = true ∧ dig c = true ∧ ¬ i4 < (-1 : Int32) then aRsL (isRn a b c) i4 4 0 0 else none
theorem xDig {S : gS} {x : Int32} : FX11_isDigit S x = some (S, dig x) := by
  unfold FX11_isDigit dig
  by_cases h1 : x < 0
  · rw [if_pos h1, decide_eq_false (fun h => h.1 h1)]
  · by_cases h2 : (9 : Int32) < x
    · rw [if_neg h1, if_pos h2, decide_eq_false (fun h => h.2 h2)]
    · rw [if_neg h1, if_neg h2, decide_eq_true ⟨h1, h2⟩]
theorem mDig {S : gS} {x : Int32} : FX12_within S x 0 9 = some (S, dig x) := xDig
theorem xRsL {d n : Nat} {S : gS} {P : gS → Int32 → Prop} {PT : gS → Prop} {a b c i4 : Int32} (hd : 1 < d) : ∀ m j t, j + m = 4 → (∀ v, aRsL (isRn a b c) i4 m j t = some v → P S v) → (aRsL (isRn a b c) i4 m j t = none → PT S) → gG d mX11_rests 1 6 (g_Xr mX11_rests n (hPi P) (hPv PT)) 41 n (hH S) [none, some (.int a), some (.int b), some (.int c), some (.int i4), some (.int (N t)), some (.int (N j))] [] 0 0 := by
  intro m
  induction m with
  | zero =>
    intro j t hj h1 h2
    refine zX11_rests_41 ⟨fun _ => ⟨fun e => h1 _ ?_, fun e => h2 ?_⟩, fun h => absurd ((leN (a := 4) (by omega) (by omega)).mpr (by omega)) h⟩
    · rw [aRsL, if_pos e]
    · rw [aRsL, if_neg e]
  | succ m ih =>
    intro j t hj h1 h2
    refine zX11_rests_41 ⟨fun h => absurd ((leN (a := 4) (by omega) (by omega)).mp h) (by omega), fun _ => ⟨1, _, hd, CX11_isRest (xRest (by omega)), ?_⟩⟩
    rintro _ _ ⟨rfl, rfl⟩
    dsimp only
    rw [aRsL] at h1 h2
    refine ⟨fun e => ?_, fun e => ⟨fun e2 => ?_, fun e2 => ?_⟩⟩
    · rw [e, if_neg Bool.false_ne_true] at h1 h2
      rw [addN1]
      exact ih (j + 1) t (by omega) h1 h2
    · rw [if_pos e, if_neg e2] at h1 h2
      rw [addN1, addN1]
      exact ih (j + 1) (t + 1) (by omega) h1 h2
    · rw [if_pos e, if_pos e2] at h1
      exact h1 _ rfl
theorem xRests {d n : Nat} {S : gS} {P : gS → Int32 → Prop} {PT : gS → Prop} {a b c i4 : Int32} (hd : 1 < d) (h1 : ∀ v, aRst a b c i4 = some v → P S v) (h2 : aRst a b c i4 = none → PT S) : gG d mX11_rests 1 6 (g_Xr mX11_rests n (hPi P) (hPv PT)) 0 n (hH S) [some (.ref (0)), some (.int a), some (.int b), some (.int c), some (.int i4), none, none] [] 0 0 := by
  unfold aRst at h1 h2
  refine zX11_rests_0 ⟨0, _, by omega, CX11_isDigit xDig, ?_⟩
  rintro _ _ ⟨rfl, rfl⟩
  dsimp only
  refine ⟨fun e => h2 (if_neg (fun h => by rw [e] at h; exact absurd h.1 Bool.false_ne_true)), fun ea => ⟨0, _, by omega, CX11_isDigit xDig, ?_⟩⟩
  rintro _ _ ⟨rfl, rfl⟩
  dsimp only
  refine ⟨fun e => h2 (if_neg (fun h => by rw [e] at h; exact absurd h.2.1 Bool.false_ne_true)), fun eb => ⟨0, _, by omega, CX11_isDigit xDig, ?_⟩⟩
  rintro _ _ ⟨rfl, rfl⟩
  dsimp only
  refine ⟨fun e => h2 (if_neg (fun h => by rw [e] at h; exact absurd h.2.2.1 Bool.false_ne_true)), fun ec => ⟨fun e4 => ?_, fun e4 => ?_⟩⟩
  · have hc : dig a = true ∧ dig b = true ∧ dig c = true ∧ ¬ i4 < (-1 : Int32) := ⟨ea, eb, ec, fun h => by rw [ilt] at h; rw [ile] at e4; omega⟩
    rw [if_pos hc] at h1 h2
    exact xRsL hd 4 0 0 (by omega) h1 h2
  · exact h2 (if_neg (fun h => h.2.2.2 (by rw [ilt]; rw [ile] at e4; omega)))
theorem mRsL {S : gS} {a b c i4 : Int32} (h0 : sI S 180 0 = 0) : ∀ m j t k, j + m = 4 → m + 1 ≤ k → ∃ U, fX12_rests k 61 S a b c i4 (N t) (N j) = some (U, (aRsL (isRn a b c) i4 m j t).getD 0) ∧ (U = S ∧ (aRsL (isRn a b c) i4 m j t).isSome = true ∨ U = uI S 180 0 (if (aRsL (isRn a b c) i4 m j t).isSome = true then 0 else 1)) := by
  intro m
  induction m with
  | zero =>
    intro j t k hj hk
    obtain ⟨k, rfl, -⟩ := kS (m := 0) hk
    rw [fX12_rests]
    simp only [if_true]
    rw [if_neg (by decide)]
    simp only [bX12_rests_61]
    rw [if_pos (show (4 : Int32) ≤ N j from (leN (a := 4) (by omega) (by omega)).mpr (by omega)), aRsL]
    by_cases e : i4 = -1
    · rw [if_pos e, if_pos e]
      simp only [g_lt]
      rw [if_pos e]
      exact ⟨_, rfl, Or.inr rfl⟩
    · rw [if_neg e, if_neg e]
      simp only [g_lt]
      rw [if_neg e]
      exact ⟨_, rfl, Or.inr rfl⟩
  | succ m ih =>
    intro j t k hj hk
    obtain ⟨k, rfl, hk'⟩ := kS (k := k) (m := m + 1) (by omega)
    obtain ⟨-, s3, s4⟩ := shR j (by omega)
    rw [fX12_rests]
    simp only [if_true]
    rw [if_neg (by decide)]
    simp only [bX12_rests_61]
    rw [if_neg (show ¬ (4 : Int32) ≤ N j from fun h => absurd ((leN (a := 4) (by omega) (by omega)).mp h) (by omega)), s4, s3, gnM]
    simp only [g_b2]
    rw [gnM]
    simp only
    rw [gnM]
    simp only
    rw [gnM]
    simp only
    rw [aRsL]
    by_cases h1 : gnn a b c (N (j / 2)) (N (j % 2)) < gnn a b c (1 - N (j / 2)) (N (j % 2))
    · have eR : isRn a b c j = false := decide_eq_false (fun h => h.1 h1)
      rw [if_pos h1, eR, if_neg Bool.false_ne_true, addN1]
      exact ih (j + 1) t k (by omega) hk'
    · rw [if_neg h1]
      by_cases h2 : gnn a b c (N (j % 2)) (N (j / 2)) < gnn a b c (1 - N (j % 2)) (N (j / 2))
      · have eR : isRn a b c j = false := decide_eq_false (fun h => h.2 h2)
        rw [if_neg (show ¬ gnn a b c (1 - N (j % 2)) (N (j / 2)) ≤ gnn a b c (N (j % 2)) (N (j / 2)) from fun h => by rw [ile] at h; rw [ilt] at h2; omega), eR, if_neg Bool.false_ne_true, addN1]
        exact ih (j + 1) t k (by omega) hk'
      · have eR : isRn a b c j = true := decide_eq_true ⟨h1, h2⟩
        rw [if_pos (show gnn a b c (1 - N (j % 2)) (N (j / 2)) ≤ gnn a b c (N (j % 2)) (N (j / 2)) from by rw [ile]; rw [ilt] at h2; omega), eR, if_pos rfl]
        by_cases e : N t = i4
        · rw [if_pos e, if_pos e]
          exact ⟨S, rfl, Or.inl ⟨rfl, rfl⟩⟩
        · rw [if_neg e, if_neg e, addN1, addN1]
          exact ih (j + 1) (t + 1) k (by omega) hk'
theorem mRb {S : gS} {a b c i4 : Int32} (e : aRst a b c i4 = none) : fX12_rests FU 45 (uI S 180 0 1) a b c i4 0 0 = some (uI S 180 0 (if (aRst a b c i4).isSome = true then 0 else 1), (aRst a b c i4).getD 0) := by
  obtain ⟨k, ek, hk⟩ := FU_s
  rw [e, ek, fX12_rests]
  simp only [if_true, bX12_rests_45]
  rw [I_self, if_pos rfl]
  rfl
theorem mRg {S : gS} {a b c i4 : Int32} (er : aRst a b c i4 = aRsL (isRn a b c) i4 4 0 0) : fX12_rests FU 45 (uI S 180 0 0) a b c i4 0 0 = some (uI S 180 0 (if (aRst a b c i4).isSome = true then 0 else 1), (aRst a b c i4).getD 0) := by
  obtain ⟨k, ek, hk⟩ := FU_s
  rw [er, ek, fX12_rests]
  simp only [if_true, bX12_rests_45]
  rw [I_self, if_neg (show ¬ (0 : Int32) = 1 by decide)]
  obtain ⟨U, u1, u2⟩ := mRsL (S := uI S 180 0 0) (a := a) (b := b) (c := c) (i4 := i4) I_self 4 0 0 k (by omega) (by omega)
  have u1' : fX12_rests k 61 (uI S 180 0 0) a b c i4 0 0 = some (U, (aRsL (isRn a b c) i4 4 0 0).getD 0) := u1
  rw [u1']
  have eU : U = uI S 180 0 (if (aRsL (isRn a b c) i4 4 0 0).isSome = true then 0 else 1) := by
    rcases u2 with ⟨u2, u3⟩ | u2
    · rw [u2, u3, if_pos rfl]
    · rw [u2, uI_uI]
  rw [eU]
def mRq (S : gS) (a b c i4 : Int32) (r : gS × Int32) : Prop := r.1 = uI S 180 0 (if (aRst a b c i4).isSome = true then 0 else 1) ∧ r.2 = (aRst a b c i4).getD 0
theorem mRb2 {S : gS} {a b c i4 : Int32} (h : ¬ (dig a = true ∧ dig b = true ∧ dig c = true ∧ ¬ i4 < (-1 : Int32))) : wp (g_lt (uI S 180 0 1) (fun S1 => fX12_rests FU 45 S1 a b c i4 0 0)) (mRq S a b c i4) := by
  have e : aRst a b c i4 = none := if_neg h
  rw [wp_lt]
  exact ⟨_, mRb e, rfl, rfl⟩
theorem mRg2 {S : gS} {a b c i4 : Int32} (h : dig a = true ∧ dig b = true ∧ dig c = true ∧ ¬ i4 < (-1 : Int32)) : wp (g_lt (uI S 180 0 0) (fun S1 => fX12_rests FU 45 S1 a b c i4 0 0)) (mRq S a b c i4) := by
  have e : aRst a b c i4 = aRsL (isRn a b c) i4 4 0 0 := if_pos h
  rw [wp_lt]
  exact ⟨_, mRg e, rfl, rfl⟩
theorem mRests {S : gS} {a b c i4 : Int32} : wp (FX12_rests S a b c i4) (mRq S a b c i4) := by
  unfold FX12_rests
  rw [mDig, wp_b2, wp_some]
  by_cases ea : dig a = true
  · rw [if_pos ea, mDig, wp_b2, wp_some]
    by_cases eb : dig b = true
    · rw [if_pos eb, mDig, wp_b2, wp_some]
      by_cases ec : dig c = true
      · rw [if_pos ec]
        by_cases e4 : i4 < (-1 : Int32)
        · rw [if_pos e4]
          exact mRb2 (fun h => h.2.2.2 e4)
        · rw [if_neg e4]
          exact mRg2 ⟨ea, eb, ec, e4⟩
      · rw [if_neg ec]
        exact mRb2 (fun h => ec h.2.2.1)
    · rw [if_neg eb]
      exact mRb2 (fun h => eb h.2.1)
  · rw [if_neg ea]
    exact mRb2 (fun h => ea h.1)
