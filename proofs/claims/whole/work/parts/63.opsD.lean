/-! what is told -/
theorem inr_c {a n : Nat} {i : Int32} (h : inr a n i) : ∃ m, a ≤ m ∧ m < n ∧ m < 2147483648 ∧ i = N m := h
theorem op_sounds {c : Nat} : Ob_sounds (Good c) (Good (c + 1)) := by
  intro S hG
  refine ask (FX := fun S => FX11_sounds S) (FM := fun S => FX12_sounds S) hG ?_
  intro f d w F mn ln A D W E p n t ch g
  obtain ⟨hh, hA, okA⟩ := GO_hX g
  refine ⟨wSo A, ?_, fun S1 g1 => ?_⟩
  · unfold FX11_sounds
    rw [wp_some]; exact ⟨fr_rf, hA.2.2.2.2.1⟩
  · obtain ⟨hM, ok, rA, okA⟩ := GO_fM g1
    unfold FX12_sounds
    rw [wp_lt, wp_some]; exact ⟨keep_th, rA.2.2.2.2.1⟩
theorem op_last {c : Nat} : Ob_last (Good c) (Good (c + 1)) := by
  intro S hG
  refine ask (FX := fun S => FX11_last S) (FM := fun S => FX12_last S) hG ?_
  intro f d w F mn ln A D W E p n t ch g
  obtain ⟨hh, hA, okA⟩ := GO_hX g
  refine ⟨wLa A, ?_, fun S1 g1 => ?_⟩
  · unfold FX11_last
    rw [wp_some]; exact ⟨fr_rf, hA.2.2.2.2.2.1⟩
  · obtain ⟨hM, ok, rA, okA⟩ := GO_fM g1
    unfold FX12_last
    rw [wp_lt, wp_some]; exact ⟨keep_th, rA.2.2.2.2.2.1⟩
theorem op_slate {c : Nat} : Ob_slate (Good c) (Good (c + 1)) := by
  intro S p0 hG
  refine ask (FX := fun S => FX11_slate S p0) (FM := fun S => FX12_slate S p0) hG ?_
  intro f d w F mn ln A D W E p n t ch g
  obtain ⟨hh, hA, okA⟩ := GO_hX g
  have hz := okA.1
  have x9 := hA.2.2.2.2.2.2.1
  by_cases b0 : p0 < 0
  · refine ⟨-1, ?_, fun S1 g1 => ?_⟩
    · unfold FX11_slate; rw [if_pos b0, wp_some]; exact ⟨fr_rf, rfl⟩
    · unfold FX12_slate; rw [wp_lt, if_pos b0, wp_some]; exact ⟨keep_th, rfl⟩
  · obtain ⟨i, i1, rfl⟩ := I_nn b0
    by_cases b1 : wSz A ≤ i
    · refine ⟨-1, ?_, fun S1 g1 => ?_⟩
      · unfold FX11_slate; rw [if_neg b0, x9, if_pos ((leN (by omega) i1).mpr b1), wp_some]; exact ⟨fr_rf, rfl⟩
      · obtain ⟨hM, ok, rA, okA⟩ := GO_fM g1
        have y4 : sR (uI S1 180 0 0) 216 4 = N (wSz A) := rA.2.2.2.2.2.2.1
        unfold FX12_slate; rw [wp_lt, if_neg b0, y4, if_pos ((leN (by omega) i1).mpr b1), wp_some]; exact ⟨keep_th, rfl⟩
    · refine ⟨wSl A i, ?_, fun S1 g1 => ?_⟩
      · unfold FX11_slate; rw [if_neg b0, x9, if_neg (fun c => b1 ((leN (by omega) i1).mp c)), if_pos (vpN (by omega) i1), wp_some, clN i1]
        exact ⟨fr_rf, hA.2.2.2.2.2.2.2 i (by omega)⟩
      · obtain ⟨hM, ok, rA, okA⟩ := GO_fM g1
        have y4 : sR (uI S1 180 0 0) 216 4 = N (wSz A) := rA.2.2.2.2.2.2.1
        unfold FX12_slate; rw [wp_lt, if_neg b0, y4, if_neg (fun c => b1 ((leN (by omega) i1).mp c)), pl19, if_pos (vpN (by omega) (by omega)), wp_some, clN (by omega)]
        have := rA.2.2.2.2.2.2.2 i (by omega)
        rw [Nat.zero_add] at this
        exact ⟨keep_th, this⟩
theorem op_letter {c : Nat} : Ob_letter (Good c) (Good (c + 1)) := by
  intro S p0 hG
  refine ask (FX := fun S => FX11_letter S p0) (FM := fun S => FX12_letter S p0) hG ?_
  intro f d w F mn ln A D W E p n t ch g
  obtain ⟨hh, hA, okA⟩ := GO_hX g
  have h6 := hh.2.2.2.1
  by_cases b0 : inr 0 (fL F) p0
  · have b0' := b0
    obtain ⟨l, -, k1, k2, rfl⟩ := b0
    refine ⟨fM F l, ?_, fun S1 g1 => ?_⟩
    · unfold FX11_letter
      rw [wp_b2]
      refine xgL hh (fun _ => ?_) (fun e => absurd b0' e)
      rw [if_pos rfl, hh.1, fbF hh.2.1.1, if_pos rfl, if_pos (vpN (by omega) k2), wp_some, clN k2]
      exact ⟨fr_rf, hh.2.1.2.2.2.2.1 l k1⟩
    · obtain ⟨hM, ok, rA, okA⟩ := GO_fM g1
      unfold FX12_letter
      rw [wp_lt, wp_b2]
      refine mgL (th_fMo hM) ok (fun _ => ?_) (fun e => absurd b0' e)
      rw [if_pos rfl, if_pos (vpN (by omega) k2), wp_some, clN k2]
      exact ⟨keep_th, hM.2.2.2.2.1 l k1⟩
  · refine ⟨-1, ?_, fun S1 g1 => ?_⟩
    · unfold FX11_letter
      rw [wp_b2]
      refine xgL hh (fun e => absurd e b0) (fun _ => ?_)
      rw [if_neg Bool.false_ne_true, wp_some]; exact ⟨fr_rf, rfl⟩
    · obtain ⟨hM, ok, rA, okA⟩ := GO_fM g1
      unfold FX12_letter
      rw [wp_lt, wp_b2]
      refine mgL (th_fMo hM) ok (fun e => absurd e b0) (fun _ => ?_)
      rw [if_neg Bool.false_ne_true, wp_some]; exact ⟨keep_th, rfl⟩
theorem has_i {a : Int32} {m : Nat} (hm : m < 32) : (a >>> (N m &&& 31)) &&& (1 : Int32) = if aHas a m = true then 1 else 0 := by
  by_cases e : aHas a m = true
  · rw [if_pos e]; exact (has_1 hm).mpr e
  · rw [if_neg e]; exact has_0.mpr (by simpa using e)
/-- a mouth's what -/
def aMo (F : aF) (A : aW) (m : Nat) (k : Nat) : Int32 := if k = 0 then fK F m else if k = 1 then fH F m else if k = 2 then fT F m else if k = 3 then fO F m else if k = 4 then fG F m else if k = 5 then wWa A m else if k = 6 then (if aHas (wSt A) m = true then 1 else 0) else wFl A m
theorem op_mouth {c : Nat} : Ob_mouth (Good c) (Good (c + 1)) := by
  intro S p0 p1 hG
  refine ask (FX := fun S => FX11_mouth S p0 p1) (FM := fun S => FX12_mouth S p0 p1) hG ?_
  intro f d w F mn ln A D W E p n t ch g
  obtain ⟨hh, hA, okA⟩ := GO_hX g
  have h7 := hh.2.2.1
  by_cases b0 : inr 0 (fN F) p0
  · have b0' := b0
    obtain ⟨l, -, k1, k2, rfl⟩ := b0
    obtain ⟨z0, z1, z2, z3, z4, -⟩ := hh.2.1.2.2.1 l k1
    have hv7 : g_vp (N l) 7 = true := vpN (by omega) k2
    by_cases b1 : inr 0 8 p1
    · have b1' := b1
      obtain ⟨k, -, j1, j2, rfl⟩ := b1
      refine ⟨aMo F A l k, ?_, fun S1 g1 => ?_⟩
      · unfold FX11_mouth
        rw [wp_b2]
        refine xgM hh (fun _ => ?_) (fun e => absurd b0' e)
        rw [if_pos rfl, hh.1, fbF hh.2.1.1, clN k2]
        simp only [if_true, if_pos hv7]
        match k, j1 with
        | 0, _ => exact wp_some.mpr ⟨fr_rf, z0⟩
        | 1, _ => exact wp_some.mpr ⟨fr_rf, z1⟩
        | 2, _ => exact wp_some.mpr ⟨fr_rf, z2⟩
        | 3, _ => exact wp_some.mpr ⟨fr_rf, z3⟩
        | 4, _ => exact wp_some.mpr ⟨fr_rf, z4⟩
        | 5, _ => exact wp_some.mpr ⟨fr_rf, hA.2.2.1 l (by omega)⟩
        | 6, _ =>
          suffices h : wp (g_b2 (FX9_isStopped S 49 (N l)) (fun S14 b15 => if b15 = true then some (S14, (1 : Int32)) else some (S14, 0))) (fun q => fr xS S q.1 ∧ q.2 = aMo F A l 6) from h
          rw [wp_b2]
          apply xStopped
          rw [hA.2.1, wp_ite, wp_some, wp_some]
          refine ⟨fun e => ⟨fr_rf, ?_⟩, fun e => ⟨fr_rf, ?_⟩⟩
          · change (1 : Int32) = if aHas (wSt A) l = true then 1 else 0
            rw [if_pos e]
          · change (0 : Int32) = if aHas (wSt A) l = true then 1 else 0
            rw [if_neg e]
        | 7, _ => exact wp_some.mpr ⟨fr_rf, hA.2.2.2.1 l (by omega)⟩
      · obtain ⟨hM, ok, rA, okA⟩ := GO_fM g1
        obtain ⟨y0, y1, y2, y3, y4, -⟩ := hM.2.2.2.1 l k1
        have r5 := rA.2.2.1 l (by omega)
        have r12 := rA.2.2.2.1 l (by omega)
        rw [Nat.zero_add] at r5 r12
        have r1 : sR S1 216 1 = wSt A := rA.2.1
        have hv14 : g_vp (N l) 14 = true := vpN (by omega) k2
        have hv5 : g_vp (N (5 + l)) 59 = true := vpN (by omega) (by omega)
        have hv12 : g_vp (N (12 + l)) 59 = true := vpN (by omega) (by omega)
        unfold FX12_mouth
        rw [wp_lt, wp_b2]
        refine mgM (th_fMo hM) ok (fun _ => ?_) (fun e => absurd b0' e)
        rw [if_pos rfl, wp_b2]
        refine mgW 0 7 (by omega) (by omega) (fun _ => ?_) (fun e => absurd b1' e)
        rw [if_pos rfl, pl5, pl12, clN k2, clN (by omega), clN (by omega)]
        simp only [if_pos hv14, if_pos hv5, if_pos hv12]
        match k, j1 with
        | 0, _ => exact wp_some.mpr ⟨keep_th, y0⟩
        | 1, _ => exact wp_some.mpr ⟨keep_th, y1⟩
        | 2, _ => exact wp_some.mpr ⟨keep_th, y2⟩
        | 3, _ => exact wp_some.mpr ⟨keep_th, y3⟩
        | 4, _ => exact wp_some.mpr ⟨keep_th, y4⟩
        | 5, _ => exact wp_some.mpr ⟨keep_th, r5⟩
        | 6, _ =>
          refine wp_some.mpr ⟨keep_th, ?_⟩
          change (sR S1 216 1 >>> (N l &&& 31)) &&& 1 = _
          rw [r1, has_i (by omega)]; rfl
        | 7, _ => exact wp_some.mpr ⟨keep_th, r12⟩
    · refine ⟨-2, ?_, fun S1 g1 => ?_⟩
      · have nk : ∀ k, k < 8 → ¬ p1 = N k := fun k hk e => b1 ⟨k, by omega, hk, by omega, e⟩
        unfold FX11_mouth
        rw [wp_b2]
        refine xgM hh (fun _ => ?_) (fun e => absurd b0' e)
        rw [if_pos rfl, if_neg (show ¬ p1 = (0 : Int32) from nk 0 (by omega)), if_neg (show ¬ p1 = (1 : Int32) from nk 1 (by omega)), if_neg (show ¬ p1 = (2 : Int32) from nk 2 (by omega)), if_neg (show ¬ p1 = (3 : Int32) from nk 3 (by omega)), if_neg (show ¬ p1 = (4 : Int32) from nk 4 (by omega)), if_neg (show ¬ p1 = (5 : Int32) from nk 5 (by omega)), if_neg (show ¬ p1 = (6 : Int32) from nk 6 (by omega)), if_neg (show ¬ p1 = (7 : Int32) from nk 7 (by omega)), wp_some]
        exact ⟨fr_rf, rfl⟩
      · obtain ⟨hM, ok, rA, okA⟩ := GO_fM g1
        unfold FX12_mouth
        rw [wp_lt, wp_b2]
        refine mgM (th_fMo hM) ok (fun _ => ?_) (fun e => absurd b0' e)
        rw [if_pos rfl, wp_b2]
        refine mgW 0 7 (by omega) (by omega) (fun e => absurd e b1) (fun _ => ?_)
        rw [if_neg Bool.false_ne_true, wp_some]; exact ⟨keep_th, rfl⟩
  · refine ⟨-2, ?_, fun S1 g1 => ?_⟩
    · unfold FX11_mouth
      rw [wp_b2]
      refine xgM hh (fun e => absurd e b0) (fun _ => ?_)
      rw [if_neg Bool.false_ne_true, wp_some]; exact ⟨fr_rf, rfl⟩
    · obtain ⟨hM, ok, rA, okA⟩ := GO_fM g1
      unfold FX12_mouth
      rw [wp_lt, wp_b2]
      refine mgM (th_fMo hM) ok (fun e => absurd e b0) (fun _ => ?_)
      rw [if_neg Bool.false_ne_true, wp_some]; exact ⟨keep_th, rfl⟩
/-! counting signs -/
theorem xLikeL {S : gS} {w : Nat} {A : aW} {x : Int32} (hA : rX S w A) (hz : wSz A ≤ 40) : ∀ m i k y, i + m = wSz A → m + 1 ≤ k → fX9_signsLike k 4 S w x y (N i) = some (S, aCt (fun j => decide (wSl A j = x)) m i y) := by
  have x9 := hA.2.2.2.2.2.2.1
  intro m
  induction m with
  | zero =>
    intro i k y hi hk
    obtain ⟨k, rfl, -⟩ := kS hk
    rw [fX9_signsLike]
    simp only [bX9_signsLike_4, if_true]
    rw [x9, if_pos ((leN (by omega) (by omega)).mpr (by omega))]
    rfl
  | succ m ih =>
    intro i k y hi hk
    obtain ⟨k, rfl, hk'⟩ := kS hk
    rw [fX9_signsLike]
    simp only [bX9_signsLike_4, if_true]
    rw [x9, if_neg (fun c => absurd ((leN (by omega) (by omega)).mp c) (by omega)), if_pos (vpN (by omega) (by omega)), clN (by omega), hA.2.2.2.2.2.2.2 i (by omega), aCt, addN1]
    by_cases e : wSl A i = x
    · rw [if_pos e, if_pos (decide_eq_true e)]
      exact ih (i + 1) k _ (by omega) hk'
    · rw [if_neg e, if_neg (by rw [decide_eq_false e]; exact Bool.false_ne_true)]
      exact ih (i + 1) k _ (by omega) hk'
def aLike (A : aW) (x : Int32) : Int32 := aCt (fun j => decide (wSl A j = x)) (wSz A) 0 0
theorem xLike {S : gS} {w : Nat} {A : aW} {x : Int32} (hA : rX S w A) (hz : wSz A ≤ 40) : FX9_signsLike S w x = some (S, aLike A x) := by
  unfold FX9_signsLike
  exact xLikeL hA hz (wSz A) 0 FU 0 (by omega) (by unfold FU; omega)
theorem mHolesL {S : gS} {A : aW} (hA : rM S 216 0 A) (hz : wSz A ≤ 40) : ∀ m i k y, i + m = wSz A → m + 1 ≤ k → fX12_holesNow k 4 S y (N i) = some (S, aCt (fun j => decide (wSl A j = 6)) m i y) := by
  have x9 : sR S 216 4 = N (wSz A) := hA.2.2.2.2.2.2.1
  intro m
  induction m with
  | zero =>
    intro i k y hi hk
    obtain ⟨k, rfl, -⟩ := kS hk
    rw [fX12_holesNow]
    simp only [bX12_holesNow_4, if_true]
    rw [x9, if_pos ((leN (by omega) (by omega)).mpr (by omega))]
    rfl
  | succ m ih =>
    intro i k y hi hk
    obtain ⟨k, rfl, hk'⟩ := kS hk
    have e19 := hA.2.2.2.2.2.2.2 i (by omega)
    rw [Nat.zero_add] at e19
    rw [fX12_holesNow]
    simp only [bX12_holesNow_4, if_true]
    rw [x9, if_neg (fun c => absurd ((leN (by omega) (by omega)).mp c) (by omega)), pl19, if_pos (vpN (by omega) (by omega)), clN (by omega), e19, aCt, addN1, Int32.add_zero]
    by_cases e : wSl A i = 6
    · rw [if_pos e, if_pos (decide_eq_true e)]
      exact ih (i + 1) k _ (by omega) hk'
    · rw [if_neg e, if_neg (by rw [decide_eq_false e]; exact Bool.false_ne_true)]
      exact ih (i + 1) k _ (by omega) hk'
theorem mHoles {S : gS} {A : aW} (hA : rM S 216 0 A) (hz : wSz A ≤ 40) : FX12_holesNow S = some (S, aLike A 6) := by
  unfold FX12_holesNow
  exact mHolesL hA hz (wSz A) 0 FU 0 (by omega) (by unfold FU; omega)
theorem dbF {d : Nat} (h : d = 34 ∨ d = 38) : isDb d = true := by
  rcases h with rfl | rfl <;> rfl
def aCount (F : aF) (A : aW) (D : aD) (W : aO) (E : aE) (n t : Nat) (k : Nat) : Int32 :=
  if k = 0 then N (fN F) else if k = 1 then N (fL F) else if k = 2 then N (wMi A) else if k = 3 then aRain F (wMi A) else if k = 4 then aSum (wWa A) (fN F) else if k = 5 then wSt A else if k = 6 then N (wSz A) else if k = 7 then aLike A 6 else if k = 8 then N D.1 else if k = 9 then N W.1 else if k = 10 then N E.1 else if k = 11 then N n else N t
theorem op_count {c : Nat} (hc : c ≤ 1000) : Ob_count (Good c) (Good (c + 1)) := by
  intro S p0 hG
  refine ask (FX := fun S => FX11_count S p0) (FM := fun S => FX12_count S p0) hG ?_
  intro f d w F mn ln A D W E p n t ch g
  obtain ⟨hh, hA, okA⟩ := GO_hX g
  have h7 := hh.2.2.1
  have hmi := okA.2.1
  by_cases b0 : inr 0 13 p0
  · have b0' := b0
    obtain ⟨k, -, k1, k2, rfl⟩ := b0
    refine ⟨aCount F A D W E n t k, ?_, fun S1 g1 => ?_⟩
    · obtain ⟨q, ff, nn, rr, dd, oo, ee, pp, kk, tt⟩ := g
      unfold FX11_count
      rw [hh.1, fbF hh.2.1.1, q.2.2.2.1, dbF q.2.2.2.2.2.1, q.2.2.2.2.2.2.1, wdF q.2.2.2.2.2.2.2.2]
      simp only [if_true]
      match k, k1 with
      | 0, _ => exact wp_some.mpr ⟨fr_rf, hh.2.1.2.1⟩
      | 1, _ => exact wp_some.mpr ⟨fr_rf, hh.2.1.2.2.2.1⟩
      | 2, _ => exact wp_some.mpr ⟨fr_rf, hA.1⟩
      | 3, _ =>
        suffices h : wp (g_b2 (FX1_rainOf S f (sI S 49 0)) (fun S4 x5 => some (S4, x5))) (fun q => fr xS S q.1 ∧ q.2 = aCount F A D W E n t 3) from h
        rw [hA.1, xRain hh.2.1 hh.2.2 (by omega), wp_b2, wp_some, wp_some]
        exact ⟨fr_rf, rfl⟩
      | 4, _ =>
        suffices h : wp (g_b2 (FX9_allWater S 49 (sI S f 0)) (fun S4 x5 => some (S4, x5))) (fun q => fr xS S q.1 ∧ q.2 = aCount F A D W E n t 4) from h
        rw [hh.2.1.2.1, xAll hA h7, wp_b2, wp_some, wp_some]
        exact ⟨fr_rf, rfl⟩
      | 5, _ => exact wp_some.mpr ⟨fr_rf, hA.2.1⟩
      | 6, _ => exact wp_some.mpr ⟨fr_rf, hA.2.2.2.2.2.2.1⟩
      | 7, _ =>
        suffices h : wp (g_b2 (FX9_signsLike S 49 6) (fun S4 x5 => some (S4, x5))) (fun q => fr xS S q.1 ∧ q.2 = aCount F A D W E n t 7) from h
        rw [xLike hA okA.1, wp_b2, wp_some, wp_some]
        exact ⟨fr_rf, rfl⟩
      | 8, _ => exact wp_some.mpr ⟨fr_rf, dd.1.1⟩
      | 9, _ => exact wp_some.mpr ⟨fr_rf, oo.1.1⟩
      | 10, _ => exact wp_some.mpr ⟨fr_rf, ee.1.1⟩
      | 11, _ => exact wp_some.mpr ⟨fr_rf, pp.2.2.2.1⟩
      | 12, _ => exact wp_some.mpr ⟨fr_rf, tt.2.1⟩
    · obtain ⟨hM, ok, rA, okA⟩ := GO_fM g1
      obtain ⟨q, ff, nn, rr, dd, oo, ee, pp, kk, tt⟩ := g1
      have r0 : sR (uI S1 180 0 0) 216 0 = N (wMi A) := rA.1
      unfold FX12_count
      rw [wp_lt, wp_b2]
      refine mgW 0 12 (by omega) (by omega) (fun _ => ?_) (fun e => absurd b0' e)
      rw [if_pos rfl]
      dsimp only
      match k, k1 with
      | 0, _ => exact wp_some.mpr ⟨keep_th, hM.1⟩
      | 1, _ => exact wp_some.mpr ⟨keep_th, hM.2.1⟩
      | 2, _ => exact wp_some.mpr ⟨keep_th, rA.1⟩
      | 3, _ =>
        suffices h : wp (g_b2 (FX12_rainOf (uI S1 180 0 0) (sR (uI S1 180 0 0) 216 0)) (fun S4 x5 => some (S4, x5))) (fun q => keepM S1 q.1 ∧ q.2 = aCount F A D W E n t 3) from h
        rw [r0, mRain (th_fMo hM) ok (by omega), wp_b2, wp_some, wp_some]
        exact ⟨keep_th, rfl⟩
      | 4, _ =>
        suffices h : wp (g_b2 (FX12_allStands (uI S1 180 0 0)) (fun S4 x5 => some (S4, x5))) (fun q => keepM S1 q.1 ∧ q.2 = aCount F A D W E n t 4) from h
        rw [mAll (th_rM rA), wp_b2, wp_some, wp_some]
        exact ⟨keep_th, aSum_7 ok okA⟩
      | 5, _ => exact wp_some.mpr ⟨keep_th, rA.2.1⟩
      | 6, _ => exact wp_some.mpr ⟨keep_th, rA.2.2.2.2.2.2.1⟩
      | 7, _ =>
        suffices h : wp (g_b2 (FX12_holesNow (uI S1 180 0 0)) (fun S4 x5 => some (S4, x5))) (fun q => keepM S1 q.1 ∧ q.2 = aCount F A D W E n t 7) from h
        rw [mHoles (th_rM rA) okA.1, wp_b2, wp_some, wp_some]
        exact ⟨keep_th, rfl⟩
      | 8, _ => exact wp_some.mpr ⟨keep_th, dd.2.1.1⟩
      | 9, _ => exact wp_some.mpr ⟨keep_th, oo.2.1.1⟩
      | 10, _ => exact wp_some.mpr ⟨keep_th, ee.2.1.1⟩
      | 11, _ =>
        refine wp_some.mpr ⟨keep_th, ?_⟩
        change sI (uI S1 180 0 0) 180 53 = N n
        rw [I_uI, if_neg (by omega)]; exact pp.2.2.2.2.1
      | 12, _ =>
        refine wp_some.mpr ⟨keep_th, ?_⟩
        change sI (uI S1 180 0 0) 180 1 = N t
        rw [I_uI, if_neg (by omega)]; exact tt.2.2.1
  · refine ⟨-1, ?_, fun S1 g1 => ?_⟩
    · have nk : ∀ k, k < 13 → ¬ p0 = N k := fun k hk e => b0 ⟨k, by omega, hk, by omega, e⟩
      unfold FX11_count
      rw [if_neg (show ¬ p0 = (0 : Int32) from nk 0 (by omega)), if_neg (show ¬ p0 = (1 : Int32) from nk 1 (by omega)), if_neg (show ¬ p0 = (2 : Int32) from nk 2 (by omega)), if_neg (show ¬ p0 = (3 : Int32) from nk 3 (by omega)), if_neg (show ¬ p0 = (4 : Int32) from nk 4 (by omega)), if_neg (show ¬ p0 = (5 : Int32) from nk 5 (by omega)), if_neg (show ¬ p0 = (6 : Int32) from nk 6 (by omega)), if_neg (show ¬ p0 = (7 : Int32) from nk 7 (by omega)), if_neg (show ¬ p0 = (8 : Int32) from nk 8 (by omega)), if_neg (show ¬ p0 = (9 : Int32) from nk 9 (by omega)), if_neg (show ¬ p0 = (10 : Int32) from nk 10 (by omega)), if_neg (show ¬ p0 = (11 : Int32) from nk 11 (by omega)), if_neg (show ¬ p0 = (12 : Int32) from nk 12 (by omega)), wp_some]
      exact ⟨fr_rf, rfl⟩
    · unfold FX12_count
      rw [wp_lt, wp_b2]
      refine mgW 0 12 (by omega) (by omega) (fun e => absurd e b0) (fun _ => ?_)
      rw [if_neg Bool.false_ne_true, wp_some]; exact ⟨keep_th, rfl⟩
