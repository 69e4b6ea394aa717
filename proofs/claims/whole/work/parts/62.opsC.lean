/-! dry; words on the slate -/
def aSum (w : Nat → Int32) : Nat → Int32
  | 0 => 0
  | k + 1 => aSum w k + w k
theorem xAllL {S : gS} {w n : Nat} {A : aW} (hA : rX S w A) (hn : n ≤ 7) : ∀ m i k, i + m = n → m + 1 ≤ k → fX9_allWater k 4 S w (N n) (aSum (wWa A) i) (N i) = some (S, aSum (wWa A) n) := by
  intro m
  induction m with
  | zero =>
    intro i k hi hk
    obtain ⟨k, rfl, -⟩ := kS hk
    rw [fX9_allWater]
    simp only [bX9_allWater_4, if_true]
    have : i = n := by omega
    subst this
    rw [if_pos ((leN (by omega) (by omega)).mpr (by omega))]
  | succ m ih =>
    intro i k hi hk
    obtain ⟨k, rfl, hk'⟩ := kS hk
    rw [fX9_allWater]
    simp only [bX9_allWater_4, if_true]
    rw [if_neg (fun c => absurd ((leN (by omega) (by omega)).mp c) (by omega)), if_neg (show ¬ (7 : Int32) ≤ N i from fun c => absurd ((leN (a := 7) (by omega) (by omega)).mp c) (by omega)), if_pos (vpN (by omega) (by omega)), clN (by omega), hA.2.2.1 i (by omega), addN1]
    exact ih (i + 1) k (by omega) hk'
theorem xAll {S : gS} {w n : Nat} {A : aW} (hA : rX S w A) (hn : n ≤ 7) : FX9_allWater S w (N n) = some (S, aSum (wWa A) n) := by
  unfold FX9_allWater
  exact xAllL hA hn n 0 FU (by omega) (by unfold FU; omega)
theorem mAllL {S : gS} {A : aW} (hA : rM S 216 0 A) : ∀ m i k, i + m = 7 → m + 1 ≤ k → fX12_allStands k 4 S (aSum (wWa A) i) (N i) = some (S, aSum (wWa A) 7) := by
  intro m
  induction m with
  | zero =>
    intro i k hi hk
    obtain ⟨k, rfl, -⟩ := kS hk
    rw [fX12_allStands]
    simp only [bX12_allStands_4, if_true]
    have : i = 7 := by omega
    subst this
    rw [if_pos (by decide)]
  | succ m ih =>
    intro i k hi hk
    obtain ⟨k, rfl, hk'⟩ := kS hk
    rw [fX12_allStands]
    simp only [bX12_allStands_4, if_true]
    have h5 := hA.2.2.1 i (by omega)
    rw [Nat.zero_add] at h5
    rw [if_neg (show ¬ (7 : Int32) ≤ N i from fun c => absurd ((leN (a := 7) (by omega) (by omega)).mp c) (by omega)), pl5, if_pos (vpN (by omega) (by omega)), clN (by omega), h5, addN1]
    exact ih (i + 1) k (by omega) hk'
theorem mAll {S : gS} {A : aW} (hA : rM S 216 0 A) : FX12_allStands S = some (S, aSum (wWa A) 7) := by
  unfold FX12_allStands
  exact mAllL hA 7 0 FU (by omega) (by unfold FU; omega)
theorem aSum_z {w : Nat → Int32} {n : Nat} : ∀ d, (∀ i, n ≤ i → i < n + d → w i = 0) → aSum w (n + d) = aSum w n := by
  intro d
  induction d with
  | zero => intro _; rfl
  | succ d ih =>
    intro h
    have e : aSum w (n + (d + 1)) = aSum w (n + d) + w (n + d) := rfl
    rw [e, h (n + d) (by omega) (by omega), ih (fun i a b => h i a (by omega)), Int32.add_zero]
theorem aSum_7 {F : aF} {c : Nat} {A : aW} (ok : okF F) (okA : okW F c A) : aSum (wWa A) 7 = aSum (wWa A) (fN F) := by
  have h7 := ok.1
  have := aSum_z (w := wWa A) (n := fN F) (7 - fN F) (fun i a b => okA.2.2.2 i a (by omega))
  rw [show fN F + (7 - fN F) = 7 by omega] at this
  exact this
theorem aSum_b {F : aF} {c : Nat} {A : aW} (okA : okW F c A) : ∀ k, k ≤ 7 → 0 ≤ (aSum (wWa A) k).toInt ∧ (aSum (wWa A) k).toInt ≤ 99 * k := by
  intro k
  induction k with
  | zero =>
    intro _
    rw [show aSum (wWa A) 0 = 0 from rfl, ti0]
    omega
  | succ k ih =>
    intro hk
    have h := ih (by omega)
    have w := okA.2.2.1 k (by omega)
    have e : aSum (wWa A) (k + 1) = aSum (wWa A) k + wWa A k := rfl
    rw [e, ti_add (by omega) (by omega)]
    omega
def aDryP (F : aF) (A : aW) (i : Nat) : Bool := decide (aSum (wWa (aIt F A i)) (fN F) = 0)
theorem xDry {S : gS} {f : Nat} {F : aF} {A : aW} {c : Nat} (h : hX S f F) (okA : okW F c A) (hc : c ≤ 2000) : ∀ m j k S', j + m = 61 → m + 1 ≤ k → fr xT S S' → rX S' 53 (aIt F A j) → wp (fX11_dry k 13 S' (N j)) (fun q => fr xT S q.1 ∧ q.2 = aSr (aDryP F A) m j) := by
  have h7 := h.2.2.1
  intro m
  induction m with
  | zero =>
    intro j k S' hj hk hS hR
    obtain ⟨k, rfl, hk'⟩ := kS hk
    rw [fX11_dry]
    simp only [bX11_dry_13, if_true]
    rw [if_pos ((ne60 (by omega)).mpr (by omega)), wp_some]
    exact ⟨hS, rfl⟩
  | succ m ih =>
    intro j k S' hj hk hS hR
    obtain ⟨k, rfl, hk'⟩ := kS hk
    have hT := hX_T h hS
    rw [fX11_dry]
    simp only [bX11_dry_13, if_true]
    rw [if_neg (fun e => absurd ((ne60 (by omega)).mp e) (by omega)), hT.1, fbF hT.2.1.1, if_pos rfl, hT.2.1.2.1, xAll hR h7, wp_b2, wp_some]
    dsimp only
    rw [wp_ite, wp_some, aSr]
    unfold aDryP
    refine ⟨fun e => ?_, fun e => ?_⟩
    · rw [if_pos (decide_eq_true e)]; exact ⟨hS, rfl⟩
    · rw [if_neg (fun h => e (of_decide_eq_true h)), wp_b2]
      refine wp_mono (xTrial hT hR (okIt h.2.2 okA j) (by omega)) ?_
      rintro ⟨S1, x⟩ ⟨q1, q2, -⟩
      dsimp only
      rw [addN1]
      exact ih (j + 1) k S1 (by omega) hk' (fr_tr hS q1) q2
theorem mDry44 {S S' : gS} {F : aF} {k j : Nat} (hk : 1 ≤ k) (hj : j < 2147483648) (hS : mAs S S' F) : wp (fX12_dry k 44 S' (N j)) (fun q => keepM S q.1 ∧ q.2 = if j ≤ 60 then N j else -1) := by
  obtain ⟨k, rfl, -⟩ := kS (m := 0) hk
  rw [fX12_dry]
  simp only [if_true]
  rw [if_neg (by decide)]
  simp only [bX12_dry_44]
  rw [wp_b1]
  refine wp_mono (mBack hS) ?_
  rintro T ⟨q1, q2⟩
  rw [wp_ite, wp_some, wp_some]
  refine ⟨fun e => ?_, fun e => ?_⟩
  · rw [if_pos ((le60 hj).mp e)]; exact ⟨q1, rfl⟩
  · rw [if_neg (fun h => e ((le60 hj).mpr h))]; exact ⟨q1, rfl⟩
theorem mDry {S : gS} {F : aF} {A : aW} {c : Nat} (ok : okF F) (okA : okW F c A) (hc : c ≤ 2000) : ∀ m j k S', j + m = 61 → m + 2 ≤ k → mAs S S' F → rM S' 216 0 (aIt F A j) → wp (fX12_dry k 20 S' (N j)) (fun q => keepM S q.1 ∧ q.2 = aSr (aDryP F A) m j) := by
  intro m
  induction m with
  | zero =>
    intro j k S' hj hk hS hR
    obtain ⟨k, rfl, hk'⟩ := kS (m := 1) hk
    rw [fX12_dry]
    simp only [bX12_dry_20, if_true]
    rw [if_pos ((ne60 (by omega)).mpr (by omega))]
    refine wp_mono (mDry44 (j := j) (by omega) (by omega) hS) ?_
    rintro ⟨T, x⟩ ⟨q1, q2⟩
    rw [if_neg (by omega)] at q2
    exact ⟨q1, q2⟩
  | succ m ih =>
    intro j k S' hj hk hS hR
    obtain ⟨k, rfl, hk'⟩ := kS (m := m + 2) (by omega)
    have okj := okIt ok okA j
    rw [fX12_dry]
    simp only [bX12_dry_20, if_true]
    rw [if_neg (fun e => absurd ((ne60 (by omega)).mp e) (by omega)), mAll hR, wp_b2, wp_some]
    dsimp only
    rw [wp_ite, aSr]
    have hb := aSum_b okj 7 (by omega)
    have e7 := aSum_7 ok okj
    have hz : aSum (wWa (aIt F A j)) 7 ≤ 0 ↔ aDryP F A j = true := by
      unfold aDryP
      rw [decide_eq_true_eq, ← e7, ile, ieq, ti0]
      omega
    refine ⟨fun e => ?_, fun e => ?_⟩
    · rw [if_pos (hz.mp e)]
      refine wp_mono (mDry44 (j := j) (by omega) (by omega) hS) ?_
      rintro ⟨T, x⟩ ⟨r1, r2⟩
      rw [if_pos (by omega)] at r2
      exact ⟨r1, r2⟩
    · rw [if_neg (fun h => e (hz.mpr h)), wp_b2]
      refine wp_mono (mTold hS.2.1 ok hR okj (by omega)) ?_
      rintro ⟨S1, x⟩ ⟨q1, q2, q3, -⟩
      dsimp only
      rw [addN1]
      exact ih (j + 1) k S1 (by omega) hk' (mAs_ps hS q1) q2
theorem op_dry {c : Nat} (hc : c ≤ 1000) : Ob_dry (Good c) (Good (c + 1)) := by
  intro S hG
  refine ask (FX := fun S => FX11_dry S) (FM := fun S => FX12_dry S) hG ?_
  intro f d w F mn ln A D W E p n t ch g
  obtain ⟨hh, hA, okA⟩ := GO_hX g
  refine ⟨aSr (aDryP F A) 61 0, ?_, fun S1 g1 => ?_⟩
  · unfold FX11_dry
    rw [wp_b1]
    refine wp_mono (xTake hA okA.1) ?_
    rintro S2 ⟨q1, q2⟩
    refine wp_mono (xDry hh okA (by omega) 61 0 FU S2 (by omega) (by unfold FU; omega) q1 q2) ?_
    rintro ⟨S3, x⟩ ⟨r1, r2⟩
    exact ⟨fr_mo r1 xTs, r2⟩
  · obtain ⟨hM, ok, rA, okA⟩ := GO_fM g1
    unfold FX12_dry
    rw [wp_lt, wp_b1]
    refine wp_mono (mTake (th_fMo hM) (th_rM rA) okA.1) ?_
    rintro S2 ⟨q1, q2⟩
    refine wp_mono (mDry ok okA (by omega) 61 0 FU S2 (by omega) (by unfold FU; omega) q1 q2) ?_
    rintro ⟨S3, x⟩ ⟨r1, r2⟩
    exact ⟨keep_tr keep_th r1, r2⟩
/-! words -/
def aFit (W : aO) (sl : Nat → Int32) (any : Bool) (i : Nat) : Nat → Nat → Bool
  | 0, _ => true
  | m + 1, k => if sl (i + k) = N (W.2 k) ∨ (any = true ∧ sl (i + k) = 6) then aFit W sl any i m (k + 1) else false
def aPl (W : aO) (A : aW) (any : Bool) (i : Nat) : Bool := decide (i + W.1 ≤ wSz A) && aFit W (wSl A) any i W.1 0
theorem xFitL {S : gS} {w wd n i : Nat} {A : aW} {W : aO} {x : Int32} (hA : rX S w A) (hz : wSz A ≤ 40) (hW : oX S wd W) (okW' : okO n W) (hi : i + W.1 ≤ wSz A) : ∀ m j k, j + m = W.1 → 2 * m + 1 ≤ k → fX9_fitsAt k 3 S w (N i) wd x (N j) = some (S, aFit W (wSl A) (decide (¬ x = 0)) i m j) := by
  have h7 := okW'.1
  intro m
  induction m with
  | zero =>
    intro j k hj hk
    obtain ⟨k, rfl, -⟩ := kS (m := 0) (by omega)
    rw [fX9_fitsAt]
    simp only [bX9_fitsAt_3, if_true]
    rw [hW.1, if_pos ((leN (by omega) (by omega)).mpr (by omega))]
    rfl
  | succ m ih =>
    intro j k hj hk
    obtain ⟨k, rfl, hk'⟩ := kS (m := 2 * m + 2) (by omega)
    rw [fX9_fitsAt]
    simp only [bX9_fitsAt_3, if_true]
    rw [hW.1, if_neg (fun c => absurd ((leN (by omega) (by omega)).mp c) (by omega)), addN, if_pos (vpN (by omega) (by omega)), if_pos (vpN (by omega) (by omega)), clN (by omega), clN (by omega), hA.2.2.2.2.2.2.2 (i + j) (by omega), hW.2 j (by omega)]
    have hrec : fX9_fitsAt k 46 S w (N i) wd x (N j) = some (S, aFit W (wSl A) (decide (¬ x = 0)) i m (j + 1)) := by
      obtain ⟨k, rfl, hk2⟩ := kS (m := 2 * m + 1) hk'
      rw [fX9_fitsAt]
      simp only [if_true]
      rw [if_neg (by decide)]
      simp only [bX9_fitsAt_46]
      rw [addN1]
      exact ih (j + 1) k (by omega) (by omega)
    rw [aFit, hrec]
    by_cases e : wSl A (i + j) = N (W.2 j)
    · rw [if_pos e, if_pos (Or.inl e)]
    · rw [if_neg e]
      by_cases e2 : x = 0
      · rw [if_pos e2, if_neg (fun h => h.elim e (fun h => of_decide_eq_true h.1 e2))]
      · rw [if_neg e2]
        by_cases e3 : wSl A (i + j) = 6
        · rw [if_pos e3, if_pos (Or.inr ⟨decide_eq_true e2, e3⟩)]
        · rw [if_neg e3, if_neg (fun h => h.elim e (fun h => e3 h.2))]
theorem xFit {S : gS} {w wd n i : Nat} {A : aW} {W : aO} {x : Int32} (hA : rX S w A) (hz : wSz A ≤ 40) (hW : oX S wd W) (okW' : okO n W) (hi : i + W.1 ≤ wSz A) : FX9_fitsAt S w (N i) wd x = some (S, aPl W A (decide (¬ x = 0)) i) := by
  have h7 := okW'.1
  unfold FX9_fitsAt aPl
  rw [decide_eq_true hi, Bool.true_and]
  exact xFitL hA hz hW okW' hi W.1 0 FU (by omega) (by unfold FU; omega)
theorem mFitL {S : gS} {n i : Nat} {A : aW} {W : aO} {x : Int32} (hA : rM S 216 0 A) (hz : wSz A ≤ 40) (hW : oM S 0 W) (okW' : okO n W) (hi : i + W.1 ≤ wSz A) : ∀ m j k, j + m = W.1 → m + 1 ≤ k → fX12_standsAt k 21 S (N i) x (N j) = some (S, aFit W (wSl A) (decide (¬ x = 0)) i m j) := by
  have h7 := okW'.1
  intro m
  induction m with
  | zero =>
    intro j k hj hk
    obtain ⟨k, rfl, -⟩ := kS (m := 0) (by omega)
    rw [fX12_standsAt]
    simp only [bX12_standsAt_21, if_true]
    rw [hW.1, if_pos ((leN (by omega) (by omega)).mpr (by omega))]
    rfl
  | succ m ih =>
    intro j k hj hk
    obtain ⟨k, rfl, hk'⟩ := kS (m := m + 1) (by omega)
    have e19 := hA.2.2.2.2.2.2.2 (i + j) (by omega)
    rw [show 0 + 19 + (i + j) = 19 + i + j by omega] at e19
    have eW := hW.2 j (by omega)
    rw [show 7 * 0 + j = j by omega] at eW
    rw [fX12_standsAt]
    simp only [bX12_standsAt_21, if_true]
    rw [hW.1, if_neg (fun c => absurd ((leN (by omega) (by omega)).mp c) (by omega)), pl19, addN, if_pos (vpN (by omega) (by omega)), if_pos (vpN (by omega) (by omega)), clN (by omega), clN (by omega), e19, eW, addN1, ih (j + 1) k (by omega) hk', aFit]
    by_cases e : wSl A (i + j) = N (W.2 j)
    · rw [if_pos e, if_pos (Or.inl e)]
    · rw [if_neg e]
      by_cases e2 : x = 0
      · rw [if_pos e2, if_neg (fun h => h.elim e (fun h => of_decide_eq_true h.1 e2))]
      · rw [if_neg e2]
        by_cases e3 : wSl A (i + j) = 6
        · rw [if_pos e3, if_pos (Or.inr ⟨decide_eq_true e2, e3⟩)]
        · rw [if_neg e3, if_neg (fun h => h.elim e (fun h => e3 h.2))]
theorem mFit {S : gS} {n i : Nat} {A : aW} {W : aO} {x : Int32} (hA : rM S 216 0 A) (hz : wSz A ≤ 40) (hW : oM S 0 W) (okW' : okO n W) (hi : i ≤ 100) : FX12_standsAt S (N i) x = some (S, aPl W A (decide (¬ x = 0)) i) := by
  have h7 := okW'.1
  have h4 : sR S 216 4 = N (wSz A) := hA.2.2.2.2.2.2.1
  unfold FX12_standsAt aPl
  rw [hW.1, addN, h4]
  by_cases e : i + W.1 ≤ wSz A
  · rw [if_pos ((leN (by omega) (by omega)).mpr e), decide_eq_true e, Bool.true_and]
    exact mFitL hA hz hW okW' e W.1 0 FU (by omega) (by unfold FU; omega)
  · rw [if_neg (fun c => e ((leN (by omega) (by omega)).mp c)), decide_eq_false e, Bool.false_and]
def aPlace (W : aO) (A : aW) : Int32 := if W.1 = 0 then -1 else aSr (aPl W A false) (wSz A) 0
theorem wdF {w : Nat} (h : w = 42 ∨ w = 44) : isWdb w = true := by
  rcases h with rfl | rfl <;> rfl
theorem xPlaceL {S : gS} {w wd n : Nat} {A : aW} {W : aO} (hA : rX S w A) (hz : wSz A ≤ 40) (hW : oX S wd W) (okW' : okO n W) (h0 : 0 < W.1) : ∀ m i k, i + m = wSz A → m + 1 ≤ k → fX9_placeOf k 11 S w wd (N i) = some (S, aSr (aPl W A false) m i) := by
  have h7 := okW'.1
  intro m
  induction m with
  | zero =>
    intro i k hi hk
    obtain ⟨k, rfl, -⟩ := kS (m := 0) (by omega)
    rw [fX9_placeOf]
    simp only [bX9_placeOf_11, if_true]
    rw [hA.2.2.2.2.2.2.1, hW.1, addN, if_pos ((ltN (by omega) (by omega)).mpr (by omega))]
    rfl
  | succ m ih =>
    intro i k hi hk
    obtain ⟨k, rfl, hk'⟩ := kS (m := m + 1) (by omega)
    rw [fX9_placeOf]
    simp only [bX9_placeOf_11, if_true]
    rw [hA.2.2.2.2.2.2.1, hW.1, addN]
    by_cases e : wSz A < i + W.1
    · rw [if_pos ((ltN (by omega) (by omega)).mpr e), aSr_none (m + 1) i (fun j a b => by unfold aPl; rw [decide_eq_false (by omega)]; rfl)]
    · have hf := xFit (x := 0) hA hz hW okW' (show i + W.1 ≤ wSz A by omega)
      rw [decide_eq_false (show ¬ ¬ (0 : Int32) = 0 from fun h => h rfl)] at hf
      rw [if_neg (fun c => e ((ltN (by omega) (by omega)).mp c)), hf, aSr, addN1]
      simp only [g_b2]
      rw [ih (i + 1) k (by omega) hk']
      split <;> rfl
theorem xPlace {S : gS} {w wd n : Nat} {A : aW} {W : aO} (hA : rX S w A) (hz : wSz A ≤ 40) (hW : oX S wd W) (okW' : okO n W) : FX9_placeOf S w wd = some (S, aPlace W A) := by
  have h7 := okW'.1
  unfold FX9_placeOf aPlace
  rw [hW.1]
  by_cases e : W.1 = 0
  · rw [if_pos ((eq0N (by omega)).mpr e), if_pos e]
  · rw [if_neg (fun c => e ((eq0N (by omega)).mp c)), if_neg e]
    exact xPlaceL hA hz hW okW' (by omega) (wSz A) 0 FU (by omega) (by unfold FU; omega)
theorem mFromL {S : gS} {n : Nat} {A : aW} {W : aO} (hA : rM S 216 0 A) (hz : wSz A ≤ 40) (hW : oM S 0 W) (okW' : okO n W) : ∀ m i k, i + m = wSz A → m + 1 ≤ k → fX12_standsFrom k 2 S (N i) = some (S, aSr (aPl W A false) m i) := by
  have h4 : sR S 216 4 = N (wSz A) := hA.2.2.2.2.2.2.1
  intro m
  induction m with
  | zero =>
    intro i k hi hk
    obtain ⟨k, rfl, -⟩ := kS (m := 0) (by omega)
    rw [fX12_standsFrom]
    simp only [bX12_standsFrom_2, if_true]
    rw [h4, if_pos ((leN (by omega) (by omega)).mpr (by omega))]
    rfl
  | succ m ih =>
    intro i k hi hk
    obtain ⟨k, rfl, hk'⟩ := kS (m := m + 1) (by omega)
    have hf := mFit (x := 0) hA hz hW okW' (show i ≤ 100 by omega)
    rw [decide_eq_false (show ¬ ¬ (0 : Int32) = 0 from fun h => h rfl)] at hf
    rw [fX12_standsFrom]
    simp only [bX12_standsFrom_2, if_true]
    rw [h4, if_neg (fun c => absurd ((leN (by omega) (by omega)).mp c) (by omega)), hf, aSr, addN1]
    simp only [g_b2]
    rw [ih (i + 1) k (by omega) hk']
    split <;> rfl
theorem mFrom {S : gS} {n : Nat} {A : aW} {W : aO} (hA : rM S 216 0 A) (hz : wSz A ≤ 40) (hW : oM S 0 W) (okW' : okO n W) (h0 : ¬ W.1 = 0) : FX12_standsFrom S = some (S, aPlace W A) := by
  unfold FX12_standsFrom aPlace
  rw [if_neg h0]
  exact mFromL hA hz hW okW' (wSz A) 0 FU (by omega) (by unfold FU; omega)
theorem GO_o {c : Nat} {S : gS} {f d w : Nat} {F : aF} {mn ln : Nat → List Nat} {A : aW} {D : aD} {W : aO} {E : aE} {p n t : Nat} {ch : Nat → Nat} (g : GO c S f d w F mn ln A D W E p n t ch) : sQ S 7 = w ∧ (w = 42 ∨ w = 44) ∧ oX S w W ∧ oM S 0 W ∧ okO (fL F) W := ⟨g.1.2.2.2.2.2.2.1, g.1.2.2.2.2.2.2.2.2, g.2.2.2.2.2.1.1, g.2.2.2.2.2.1.2.1, g.2.2.2.2.2.1.2.2⟩
theorem op_stands {c : Nat} : Ob_stands (Good c) (Good (c + 1)) := by
  intro S hG
  refine ask (FX := fun S => FX11_stands S) (FM := fun S => FX12_stands S) hG ?_
  intro f d w F mn ln A D W E p n t ch g
  obtain ⟨hh, hA, okA⟩ := GO_hX g
  obtain ⟨hq, hw, hW, -, oW⟩ := GO_o g
  refine ⟨aPlace W A, ?_, fun S1 g1 => ?_⟩
  · unfold FX11_stands
    rw [hq, wdF hw, if_pos rfl, xPlace hA okA.1 hW oW, wp_b2, wp_some, wp_some]
    exact ⟨fr_rf, rfl⟩
  · obtain ⟨hM, ok, rA, okA⟩ := GO_fM g1
    obtain ⟨-, -, -, hW2, -⟩ := GO_o g1
    have h7 := oW.1
    have hW3 : oM (uI S1 180 0 0) 0 W := hW2
    unfold FX12_stands
    rw [wp_lt, hW3.1]
    by_cases e : W.1 = 0
    · rw [if_pos ((eq0N (by omega)).mpr e), wp_some]
      exact ⟨keep_th, by unfold aPlace; rw [if_pos e]⟩
    · rw [if_neg (fun c => e ((eq0N (by omega)).mp c)), mFrom (th_rM rA) okA.1 hW3 oW e, wp_b2, wp_some, wp_some]
      exact ⟨keep_th, rfl⟩
/-- how many of m from i on -/
def aCt (P : Nat → Bool) : Nat → Nat → Int32 → Int32
  | 0, _, x => x
  | m + 1, i, x => aCt P m (i + 1) (if P i = true then x + 1 else x)
theorem aCt_none {P : Nat → Bool} : ∀ m i x, (∀ j, i ≤ j → j < i + m → P j = false) → aCt P m i x = x := by
  intro m
  induction m with
  | zero => intro i x _; rfl
  | succ m ih =>
    intro i x h
    rw [aCt, if_neg (by rw [h i (by omega) (by omega)]; exact Bool.false_ne_true)]
    exact ih (i + 1) x (fun j a b => h j (by omega) (by omega))
theorem xForL {S : gS} {w wd n : Nat} {A : aW} {W : aO} (hA : rX S w A) (hz : wSz A ≤ 40) (hW : oX S wd W) (okW' : okO n W) (h0 : 0 < W.1) : ∀ m i k x, i + m = wSz A → m + 1 ≤ k → fX9_placesFor k 4 S w wd x (N i) = some (S, aCt (aPl W A true) m i x) := by
  have h7 := okW'.1
  intro m
  induction m with
  | zero =>
    intro i k x hi hk
    obtain ⟨k, rfl, -⟩ := kS (m := 0) (by omega)
    rw [fX9_placesFor]
    simp only [bX9_placesFor_4, if_true]
    rw [hA.2.2.2.2.2.2.1, hW.1, addN, if_pos ((ltN (by omega) (by omega)).mpr (by omega))]
    rfl
  | succ m ih =>
    intro i k x hi hk
    obtain ⟨k, rfl, hk'⟩ := kS (m := m + 1) (by omega)
    rw [fX9_placesFor]
    simp only [bX9_placesFor_4, if_true]
    rw [hA.2.2.2.2.2.2.1, hW.1, addN]
    by_cases e : wSz A < i + W.1
    · rw [if_pos ((ltN (by omega) (by omega)).mpr e), aCt_none (m + 1) i x (fun j a b => by unfold aPl; rw [decide_eq_false (by omega)]; rfl)]
    · have hf := xFit (x := 1) hA hz hW okW' (show i + W.1 ≤ wSz A by omega)
      rw [decide_eq_true (show ¬ (1 : Int32) = 0 by decide)] at hf
      rw [if_neg (fun c => e ((ltN (by omega) (by omega)).mp c)), hf, aCt, addN1]
      simp only [g_b2]
      split
      · exact ih (i + 1) k _ (by omega) hk'
      · exact ih (i + 1) k _ (by omega) hk'
theorem mMayL {S : gS} {n : Nat} {A : aW} {W : aO} (hA : rM S 216 0 A) (hz : wSz A ≤ 40) (hW : oM S 0 W) (okW' : okO n W) : ∀ m i k x, i + m = wSz A → m + 1 ≤ k → fX12_maybe k 20 S x (N i) = some (S, aCt (aPl W A true) m i x) := by
  have h4 : sR S 216 4 = N (wSz A) := hA.2.2.2.2.2.2.1
  intro m
  induction m with
  | zero =>
    intro i k x hi hk
    obtain ⟨k, rfl, -⟩ := kS (m := 0) (by omega)
    rw [fX12_maybe]
    simp only [bX12_maybe_20, if_true]
    rw [h4, if_pos ((leN (by omega) (by omega)).mpr (by omega))]
    rfl
  | succ m ih =>
    intro i k x hi hk
    obtain ⟨k, rfl, hk'⟩ := kS (m := m + 1) (by omega)
    have hf := mFit (x := 1) hA hz hW okW' (show i ≤ 100 by omega)
    rw [decide_eq_true (show ¬ (1 : Int32) = 0 by decide)] at hf
    rw [fX12_maybe]
    simp only [bX12_maybe_20, if_true]
    rw [h4, if_neg (fun c => absurd ((leN (by omega) (by omega)).mp c) (by omega)), hf, aCt, addN1, Int32.add_zero]
    simp only [g_b2]
    split
    · exact ih (i + 1) k _ (by omega) hk'
    · exact ih (i + 1) k _ (by omega) hk'
theorem op_maybe {c : Nat} : Ob_maybe (Good c) (Good (c + 1)) := by
  intro S hG
  refine ask (FX := fun S => FX11_maybe S) (FM := fun S => FX12_maybe S) hG ?_
  intro f d w F mn ln A D W E p n t ch g
  obtain ⟨hh, hA, okA⟩ := GO_hX g
  obtain ⟨hq, hw, hW, -, oW⟩ := GO_o g
  have h7 := oW.1
  by_cases e : W.1 = 0
  · refine ⟨-1, ?_, fun S1 g1 => ?_⟩
    · unfold FX11_maybe
      rw [hq, wdF hw, if_pos rfl, hW.1, if_pos ((eq0N (by omega)).mpr e), wp_some]
      exact ⟨fr_rf, rfl⟩
    · obtain ⟨-, -, -, hW2, -⟩ := GO_o g1
      have hW3 : oM (uI S1 180 0 0) 0 W := hW2
      unfold FX12_maybe
      rw [wp_lt, hW3.1, if_pos ((eq0N (by omega)).mpr e), wp_some]
      exact ⟨keep_th, rfl⟩
  · refine ⟨aCt (aPl W A true) (wSz A) 0 0, ?_, fun S1 g1 => ?_⟩
    · have okz := okA.1
      unfold FX11_maybe
      rw [hq, wdF hw, if_pos rfl, hW.1, if_neg (fun c => e ((eq0N (by omega)).mp c)), if_pos rfl, wp_b2]
      unfold FX9_placesFor
      refine wp_eq (xForL hA okA.1 hW oW (by omega) (wSz A) 0 FU 0 (by omega) (by unfold FU; omega)) ?_
      rw [wp_some]
      exact ⟨fr_rf, rfl⟩
    · obtain ⟨hM, ok, rA, okA⟩ := GO_fM g1
      have okz := okA.1
      obtain ⟨-, -, -, hW2, -⟩ := GO_o g1
      have hW3 : oM (uI S1 180 0 0) 0 W := hW2
      unfold FX12_maybe
      rw [wp_lt, hW3.1, if_neg (fun c => e ((eq0N (by omega)).mp c))]
      refine wp_eq (mMayL (th_rM rA) okA.1 hW3 oW (wSz A) 0 FU 0 (by omega) (by unfold FU; omega)) ?_
      exact ⟨keep_th, rfl⟩
/-! entire -/
def aEnt (F : aF) (W : aO) (A : aW) (i : Nat) : Bool := decide (¬ aPlace W (aIt F A i) = -1)
theorem xEnt {S : gS} {f wd : Nat} {F : aF} {A : aW} {W : aO} {c : Nat} (h : hX S f F) (hq : sQ S 7 = wd) (hw : wd = 42 ∨ wd = 44) (hW : oX S wd W) (oW : okO (fL F) W) (okA : okW F c A) (hc : c ≤ 2000) : ∀ m j k S', j + m = 61 → m + 1 ≤ k → fr xT S S' → rX S' 53 (aIt F A j) → wp (fX11_entire k 13 S' (N j)) (fun q => fr xT S q.1 ∧ q.2 = aSr (aEnt F W A) m j) := by
  intro m
  induction m with
  | zero =>
    intro j k S' hj hk hS hR
    obtain ⟨k, rfl, hk'⟩ := kS hk
    rw [fX11_entire]
    simp only [bX11_entire_13, if_true]
    rw [if_pos ((ne60 (by omega)).mpr (by omega)), wp_some]
    exact ⟨hS, rfl⟩
  | succ m ih =>
    intro j k S' hj hk hS hR
    obtain ⟨k, rfl, hk'⟩ := kS hk
    have hT := hX_T h hS
    have okj := okIt h.2.2 okA j
    have hq' : sQ S' 7 = wd := by rw [frQ hS]; exact hq
    have hW' : oX S' wd W := oX_fr hW hS (fun i hi => xTn (by omega))
    rw [fX11_entire]
    simp only [bX11_entire_13, if_true]
    rw [if_neg (fun e => absurd ((ne60 (by omega)).mp e) (by omega)), hq', wdF hw, if_pos rfl, xPlace hR okj.1 hW' oW, wp_b2, wp_some]
    dsimp only
    rw [wp_ite, wp_some, aSr]
    unfold aEnt
    refine ⟨fun e => ?_, fun e => ?_⟩
    · rw [if_neg (by rw [decide_eq_false (fun h => h e)]; exact Bool.false_ne_true), wp_b2]
      refine wp_mono (xTrial hT hR okj (by omega)) ?_
      rintro ⟨S1, x⟩ ⟨q1, q2, -⟩
      dsimp only
      rw [addN1]
      exact ih (j + 1) k S1 (by omega) hk' (fr_tr hS q1) q2
    · rw [if_pos (decide_eq_true e)]; exact ⟨hS, rfl⟩
theorem mEnt55 {S S' : gS} {F : aF} {k j : Nat} (hk : 1 ≤ k) (hj : j < 2147483648) (hS : mAs S S' F) : wp (fX12_entire k 55 S' (N j)) (fun q => keepM S q.1 ∧ q.2 = if j ≤ 60 then N j else -1) := by
  obtain ⟨k, rfl, -⟩ := kS (m := 0) hk
  rw [fX12_entire]
  simp only [if_true]
  rw [if_neg (by decide)]
  simp only [bX12_entire_55]
  rw [wp_b1]
  refine wp_mono (mBack hS) ?_
  rintro T ⟨q1, q2⟩
  rw [wp_ite, wp_some, wp_some]
  refine ⟨fun e => ?_, fun e => ?_⟩
  · rw [if_pos ((le60 hj).mp e)]; exact ⟨q1, rfl⟩
  · rw [if_neg (fun h => e ((le60 hj).mpr h))]; exact ⟨q1, rfl⟩
theorem oM_fm {L : List Nat} {S S' : gS} {W : aO} (h : oM S 0 W) (hS : fm L S S') (h1 : 211 ∉ L) (h2 : 212 ∉ L) : oM S' 0 W := by
  unfold oM at h ⊢
  rw [fmR hS h1 (by decide), fmR hS h2 (by decide)]; exact h
theorem mEnt {S : gS} {F : aF} {A : aW} {W : aO} {c : Nat} (ok : okF F) (okA : okW F c A) (oW : okO (fL F) W) (hW : oM S 0 W) (h0 : ¬ W.1 = 0) (hc : c ≤ 2000) : ∀ m j k S', j + m = 61 → m + 2 ≤ k → mAs S S' F → rM S' 216 0 (aIt F A j) → wp (fX12_entire k 31 S' (N j)) (fun q => keepM S q.1 ∧ q.2 = aSr (aEnt F W A) m j) := by
  intro m
  induction m with
  | zero =>
    intro j k S' hj hk hS hR
    obtain ⟨k, rfl, hk'⟩ := kS (m := 1) hk
    rw [fX12_entire]
    simp only [bX12_entire_31, if_true]
    rw [if_pos ((ne60 (by omega)).mpr (by omega))]
    refine wp_mono (mEnt55 (j := j) (by omega) (by omega) hS) ?_
    rintro ⟨T, x⟩ ⟨q1, q2⟩
    rw [if_neg (by omega)] at q2
    exact ⟨q1, q2⟩
  | succ m ih =>
    intro j k S' hj hk hS hR
    obtain ⟨k, rfl, hk'⟩ := kS (m := m + 2) (by omega)
    have okj := okIt ok okA j
    have hW' : oM S' 0 W := oM_fm hW hS.1 (by decide) (by decide)
    rw [fX12_entire]
    simp only [bX12_entire_31, if_true]
    rw [if_neg (fun e => absurd ((ne60 (by omega)).mp e) (by omega)), mFrom hR okj.1 hW' oW h0, wp_b2, wp_some]
    dsimp only
    rw [wp_ite, aSr]
    have hz : (0 : Int32) ≤ aPlace W (aIt F A j) ↔ aEnt F W A j = true := by
      unfold aEnt
      rw [decide_eq_true_eq]
      unfold aPlace
      rw [if_neg h0]
      have ozj := okj.1
      rcases aSr_r (P := aPl W (aIt F A j) false) (wSz (aIt F A j)) 0 (by omega) with e | ⟨i, i1, i2, i3⟩
      · rw [e]
        exact ⟨fun h => absurd h (by decide), fun h => absurd rfl h⟩
      · rw [i3]
        exact ⟨fun _ => N_ne_m1 (by omega), fun _ => (leN (a := 0) (by omega) (by omega)).mpr (by omega)⟩
    refine ⟨fun e => ?_, fun e => ?_⟩
    · rw [if_pos (hz.mp e)]
      refine wp_mono (mEnt55 (j := j) (by omega) (by omega) hS) ?_
      rintro ⟨T, x⟩ ⟨r1, r2⟩
      rw [if_pos (by omega)] at r2
      exact ⟨r1, r2⟩
    · rw [if_neg (fun h => e (hz.mpr h)), wp_b2]
      refine wp_mono (mTold hS.2.1 ok hR okj (by omega)) ?_
      rintro ⟨S1, x⟩ ⟨q1, q2, q3, -⟩
      dsimp only
      rw [addN1]
      exact ih (j + 1) k S1 (by omega) hk' (mAs_ps hS q1) q2
theorem op_entire {c : Nat} (hc : c ≤ 1000) : Ob_entire (Good c) (Good (c + 1)) := by
  intro S hG
  refine ask (FX := fun S => FX11_entire S) (FM := fun S => FX12_entire S) hG ?_
  intro f d w F mn ln A D W E p n t ch g
  obtain ⟨hh, hA, okA⟩ := GO_hX g
  obtain ⟨hq, hw, hW, -, oW⟩ := GO_o g
  have h7 := oW.1
  refine ⟨aSr (aEnt F W A) 61 0, ?_, fun S1 g1 => ?_⟩
  · unfold FX11_entire
    rw [wp_b1]
    refine wp_mono (xTake hA okA.1) ?_
    rintro S2 ⟨q1, q2⟩
    refine wp_mono (xEnt hh hq hw hW oW okA (by omega) 61 0 FU S2 (by omega) (by unfold FU; omega) q1 q2) ?_
    rintro ⟨S3, x⟩ ⟨r1, r2⟩
    exact ⟨fr_mo r1 xTs, r2⟩
  · obtain ⟨hM, ok, rA, okA⟩ := GO_fM g1
    obtain ⟨-, -, -, hW2, -⟩ := GO_o g1
    have hW3 : oM (uI S1 180 0 0) 0 W := hW2
    unfold FX12_entire
    rw [wp_lt, hW3.1]
    by_cases e : W.1 = 0
    · rw [if_pos ((eq0N (by omega)).mpr e), wp_some]
      refine ⟨keep_th, ?_⟩
      rw [aSr_none 61 0 (fun j _ _ => by unfold aEnt aPlace; rw [if_pos e]; exact decide_eq_false (fun h => h rfl))]
    · rw [if_neg (fun c => e ((eq0N (by omega)).mp c)), wp_b1]
      refine wp_mono (mTake (th_fMo hM) (th_rM rA) okA.1) ?_
      rintro S2 ⟨q1, q2⟩
      refine wp_mono (mEnt ok okA oW hW3 e (by omega) 61 0 FU S2 (by omega) (by unfold FU; omega) q1 q2) ?_
      rintro ⟨S3, x⟩ ⟨r1, r2⟩
      exact ⟨keep_tr keep_th r1, r2⟩
