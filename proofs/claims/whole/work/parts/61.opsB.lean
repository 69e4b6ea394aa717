/-! spill, over, first, dry -/
theorem wp_and {β : Type} {o : Option β} {P Q : β → Prop} (h1 : wp o P) (h2 : wp o Q) : wp o (fun r => P r ∧ Q r) := by
  obtain ⟨r, a, b⟩ := h1
  obtain ⟨r2, a2, b2⟩ := h2
  rw [a] at a2; cases a2
  exact ⟨r, a, b, b2⟩
def aSpill (F : aF) (A : aW) : Nat → Int32
  | 0 => 0
  | k + 1 => aSpill F A k + aSp F (aIt F A k)
theorem xSpill {S : gS} {f : Nat} {F : aF} {A : aW} {c n : Nat} (h : hX S f F) (okA : okW F c A) (hc : c ≤ 2000) (hn : n ≤ 60) : ∀ m j k S', j + m = n → m + 1 ≤ k → fr xT S S' → rX S' 53 (aIt F A j) → wp (fX11_spill k 24 S' (N n) (aSpill F A j) (N j)) (fun q => fr xT S q.1 ∧ q.2 = aSpill F A n) := by
  intro m
  induction m with
  | zero =>
    intro j k S' hj hk hS hR
    obtain ⟨k, rfl, hk'⟩ := kS hk
    rw [fX11_spill]
    simp only [bX11_spill_24, if_true]
    have : j = n := by omega
    subst this
    rw [if_pos ((leN (by omega) (by omega)).mpr (by omega)), wp_some]
    exact ⟨hS, rfl⟩
  | succ m ih =>
    intro j k S' hj hk hS hR
    obtain ⟨k, rfl, hk'⟩ := kS hk
    rw [fX11_spill]
    simp only [bX11_spill_24, if_true]
    rw [if_neg (fun e => absurd ((leN (by omega) (by omega)).mp e) (by omega)), wp_b2]
    refine wp_mono (xTrial (hX_T h hS) hR (okIt h.2.2 okA j) (by omega)) ?_
    rintro ⟨S1, x⟩ ⟨q1, q2, q3, q4, q5, -⟩
    rw [addN1, q5]
    exact ih (j + 1) k S1 (by omega) hk' (fr_tr hS q1) q2
theorem mSpill {S : gS} {F : aF} {A : aW} {c n : Nat} (ok : okF F) (okA : okW F c A) (hc : c ≤ 2000) (hn : n ≤ 60) : ∀ m j k S', j + m = n → m + 1 ≤ k → mAs S S' F → rM S' 216 0 (aIt F A j) → wp (fX12_spill k 34 S' (N n) (aSpill F A j) (N j)) (fun q => keepM S q.1 ∧ q.2 = aSpill F A n) := by
  intro m
  induction m with
  | zero =>
    intro j k S' hj hk hS hR
    obtain ⟨k, rfl, hk'⟩ := kS hk
    rw [fX12_spill]
    simp only [bX12_spill_34, if_true]
    have : j = n := by omega
    subst this
    rw [if_pos ((leN (by omega) (by omega)).mpr (by omega)), wp_b1]
    refine wp_mono (mBack hS) ?_
    rintro T ⟨q1, q2⟩
    rw [wp_some]
    exact ⟨q1, rfl⟩
  | succ m ih =>
    intro j k S' hj hk hS hR
    obtain ⟨k, rfl, hk'⟩ := kS hk
    rw [fX12_spill]
    simp only [bX12_spill_34, if_true]
    rw [if_neg (fun e => absurd ((leN (by omega) (by omega)).mp e) (by omega)), wp_b2]
    refine wp_mono (mTold hS.2.1 ok hR (okIt ok okA j) (by omega)) ?_
    rintro ⟨S1, x⟩ ⟨q1, q2, q3, q4, q5, -⟩
    rw [addN1, q5]
    exact ih (j + 1) k S1 (by omega) hk' (mAs_ps hS q1) q2
theorem op_spill {c : Nat} (hc : c ≤ 1000) : Ob_spill (Good c) (Good (c + 1)) := by
  intro S p0 hG
  refine ask (FX := fun S => FX11_spill S p0) (FM := fun S => FX12_spill S p0) hG ?_
  intro f d w F mn ln A D W E p n t ch g
  obtain ⟨hh, hA, okA⟩ := GO_hX g
  by_cases b0 : inr 1 61 p0
  · have b0' := b0
    obtain ⟨k, k0, k1, k2, rfl⟩ := b0
    refine ⟨aSpill F A k, ?_, fun S1 g1 => ?_⟩
    · unfold FX11_spill
      rw [wp_b2]
      refine xgA (fun _ => ?_) (fun e => absurd b0' e)
      rw [if_pos rfl, wp_b1]
      refine wp_mono (xTake hA okA.1) ?_
      rintro S2 ⟨q1, q2⟩
      refine wp_mono (xSpill hh okA (by omega) (by omega) k 0 FU S2 (by omega) (by unfold FU; omega) q1 q2) ?_
      rintro ⟨S3, x⟩ ⟨r1, r2⟩
      exact ⟨fr_mo r1 xTs, r2⟩
    · obtain ⟨hM, ok, rA, okA⟩ := GO_fM g1
      unfold FX12_spill
      rw [wp_lt, wp_b2]
      refine mgW 1 60 (by omega) (by omega) (fun _ => ?_) (fun e => absurd b0' e)
      rw [if_pos rfl, wp_b1]
      refine wp_mono (mTake (th_fMo hM) (th_rM rA) okA.1) ?_
      rintro S2 ⟨q1, q2⟩
      refine wp_mono (mSpill ok okA (by omega) (by omega) k 0 FU S2 (by omega) (by unfold FU; omega) q1 q2) ?_
      rintro ⟨S3, x⟩ ⟨r1, r2⟩
      exact ⟨keep_tr keep_th r1, r2⟩
  · refine ⟨-1, ?_, fun S1 g1 => ?_⟩
    · unfold FX11_spill
      rw [wp_b2]
      refine xgA (fun e => absurd e b0) (fun _ => ?_)
      rw [if_neg Bool.false_ne_true, wp_some]; exact ⟨fr_rf, rfl⟩
    · unfold FX12_spill
      rw [wp_lt, wp_b2]
      refine mgW 1 60 (by omega) (by omega) (fun e => absurd e b0) (fun _ => ?_)
      rw [if_neg Bool.false_ne_true, wp_some]; exact ⟨keep_th, rfl⟩
/-! what a search finds -/
theorem aSr_none {P : Nat → Bool} : ∀ m i, (∀ j, i ≤ j → j < i + m → P j = false) → aSr P m i = -1 := by
  intro m
  induction m with
  | zero => intro i _; rfl
  | succ m ih =>
    intro i h
    rw [aSr, if_neg (by rw [h i (by omega) (by omega)]; exact Bool.false_ne_true)]
    exact ih (i + 1) (fun j a b => h j (by omega) (by omega))
theorem aSr_some {P : Nat → Bool} {j : Nat} (hp : P j = true) : ∀ m i, i ≤ j → j < i + m → (∀ j', i ≤ j' → j' < j → P j' = false) → aSr P m i = N j := by
  intro m
  induction m with
  | zero => intro i _ _; omega
  | succ m ih =>
    intro i h1 h2 h3
    rw [aSr]
    by_cases e : i = j
    · subst e; rw [if_pos hp]
    · rw [if_neg (by rw [h3 i (by omega) (by omega)]; exact Bool.false_ne_true)]
      exact ih (i + 1) (by omega) (by omega) (fun j' a b => h3 j' (by omega) b)
theorem aSr_sp {P : Nat → Bool} : ∀ m i, (∃ j, i ≤ j ∧ j < i + m ∧ P j = true ∧ (∀ j', i ≤ j' → j' < j → P j' = false) ∧ aSr P m i = N j) ∨ ((∀ j, i ≤ j → j < i + m → P j = false) ∧ aSr P m i = -1) := by
  intro m
  induction m with
  | zero => intro i; exact Or.inr ⟨fun j a b => by omega, rfl⟩
  | succ m ih =>
    intro i
    rw [aSr]
    cases hp : P i with
    | true => rw [if_pos rfl]; exact Or.inl ⟨i, by omega, by omega, hp, fun j' a b => by omega, rfl⟩
    | false =>
      rw [if_neg Bool.false_ne_true]
      rcases ih (i + 1) with ⟨j, a, b, d, e, g⟩ | ⟨a, b⟩
      · refine Or.inl ⟨j, by omega, by omega, d, fun j' x y => ?_, g⟩
        by_cases e2 : j' = i
        · subst e2; exact hp
        · exact e j' (by omega) y
      · refine Or.inr ⟨fun j x y => ?_, b⟩
        by_cases e2 : j = i
        · subst e2; exact hp
        · exact a j (by omega) (by omega)
theorem aSr_cg {P P' : Nat → Bool} : ∀ m i, (∀ j, i ≤ j → j < i + m → P j = P' j) → aSr P m i = aSr P' m i := by
  intro m
  induction m with
  | zero => intro i _; rfl
  | succ m ih =>
    intro i h
    rw [aSr, aSr, h i (by omega) (by omega), ih (i + 1) (fun j a b => h j (by omega) (by omega))]
/-! over -/
theorem xRanOver {S : gS} {w m : Nat} : FX9_ranOver S w (N m) = some (S, aHas (sI S w 6) m) := by
  unfold FX9_ranOver
  cases hc : aHas (sI S w 6) m with
  | false => rw [if_pos (has_0.mpr hc)]
  | true => rw [if_neg (fun c => by rw [has_0.mp c] at hc; cases hc)]
def aOvP (F : aF) (A : aW) (mo : Nat) (i : Nat) : Bool := aHas (aOv F (aIt F A (i - 1))) mo
theorem xOver {S : gS} {f : Nat} {F : aF} {A : aW} {c mo : Nat} (h : hX S f F) (okA : okW F c A) (hc : c ≤ 2000) : ∀ m j k S', j + m = 60 → m + 1 ≤ k → fr xT S S' → rX S' 53 (aIt F A j) → wp (fX11_over k 23 S' (N mo) (N (j + 1))) (fun q => fr xT S q.1 ∧ q.2 = aSr (aOvP F A mo) m (j + 1)) := by
  intro m
  induction m with
  | zero =>
    intro j k S' hj hk hS hR
    obtain ⟨k, rfl, hk'⟩ := kS hk
    rw [fX11_over]
    simp only [bX11_over_23, if_true]
    rw [if_pos ((ne60 (by omega)).mpr (by omega)), wp_some]
    exact ⟨hS, rfl⟩
  | succ m ih =>
    intro j k S' hj hk hS hR
    obtain ⟨k, rfl, hk'⟩ := kS hk
    rw [fX11_over]
    simp only [bX11_over_23, if_true]
    rw [if_neg (fun e => absurd ((ne60 (by omega)).mp e) (by omega)), wp_b2]
    refine wp_mono (xTrial (hX_T h hS) hR (okIt h.2.2 okA j) (by omega)) ?_
    rintro ⟨S1, x⟩ ⟨q1, q2, q3, q4, -⟩
    dsimp only at q4 ⊢
    rw [wp_b2, xRanOver, wp_some, q4]
    dsimp only
    rw [wp_ite, wp_some, aSr, addN1]
    have e0 : aOvP F A mo (j + 1) = aHas (aOv F (aIt F A j)) mo := rfl
    rw [e0]
    refine ⟨fun e => ?_, fun e => ?_⟩
    · rw [if_pos e]; exact ⟨fr_tr hS q1, rfl⟩
    · rw [if_neg e]
      exact ih (j + 1) k S1 (by omega) hk' (fr_tr hS q1) q2
theorem mCopyIL {S : gS} {a0 m0 a2 m2 : Nat} {i1 i3 : Int32} : ∀ k i4 S', sI S' = sI S → ∀ T, fX12_copies m0 m2 k 3 S' a0 i1 a2 i3 i4 = some T → sI T = sI S := by
  intro k
  induction k with
  | zero => intro i4 S' _ T h; rw [fX12_copies] at h; cases h
  | succ k ih =>
    intro i4 S' hS T h
    rw [fX12_copies] at h
    simp only [bX12_copies_3, if_true] at h
    split at h
    · cases h; exact hS
    · split at h
      · split at h
        · exact ih _ _ (by rw [I_uR]; exact hS) T h
        · cases h
      · cases h
theorem mBackI {S0 S : gS} {F : aF} (h : mAs S0 S F) : wp (FX12_copies S 218 59 0 216 59 0) (fun T => keepM S0 T ∧ sI T = sI S) := by
  obtain ⟨T, e, a, b⟩ := mBack h
  exact ⟨T, e, a, mCopyIL FU _ S rfl T e⟩
def aOvS (F : aF) (A : aW) (set : Int32) (i : Nat) : Bool := decide (¬ (aOv F (aIt F A (i - 1)) &&& set) = 0)
theorem mOver49 {S S' : gS} {F : aF} {k : Nat} {set y : Int32} (hk : 1 ≤ k) (hS : mAs S S' F) : wp (fX12_overOf k 49 S' set y 0) (fun q => keepM S q.1 ∧ q.2 = y ∧ sI q.1 180 56 = sI S' 180 56 &&& set) := by
  obtain ⟨k, rfl, -⟩ := kS (m := 0) hk
  rw [fX12_overOf]
  simp only [if_true]
  rw [if_neg (by decide)]
  simp only [bX12_overOf_49]
  rw [wp_lt, wp_b1]
  have hS2 : mAs S (uI S' 180 56 (sI S' 180 56 &&& set)) F := ⟨fm_uI hS.1 (by omega) (by omega), fMo_fm hS.2.1 (L := []) (fm_uI fm_rf (by omega) (by omega)) (fun b _ => by simp), hS.2.2⟩
  refine wp_mono (mBackI hS2) ?_
  rintro T ⟨q1, q2⟩
  rw [wp_some]
  refine ⟨q1, rfl, ?_⟩
  rw [q2]; simp [I_uI]
theorem mOverOf {S : gS} {F : aF} {A : aW} {c : Nat} {set : Int32} (ok : okF F) (okA : okW F c A) (hc : c ≤ 2000) : ∀ m j k S', j + m = 60 → m + 3 ≤ k → mAs S S' F → rM S' 216 0 (aIt F A j) → wp (fX12_overOf k 17 S' set (-1) (N (j + 1))) (fun q => keepM S q.1 ∧ q.2 = aSr (aOvS F A set) m (j + 1) ∧ ∀ i, i < 2147483648 → q.2 = N i → sI q.1 180 56 = aOv F (aIt F A (i - 1)) &&& set) := by
  intro m
  induction m with
  | zero =>
    intro j k S' hj hk hS hR
    obtain ⟨k, rfl, hk'⟩ := kS (m := 2) hk
    rw [fX12_overOf]
    simp only [bX12_overOf_17, if_true]
    rw [if_pos ((ne60 (by omega)).mpr (by omega))]
    refine wp_mono (mOver49 (by omega) hS) ?_
    rintro ⟨T, x⟩ ⟨q1, q2, -⟩
    refine ⟨q1, q2, fun i hi e => ?_⟩
    rw [q2] at e
    exact absurd e.symm (N_ne_m1 hi)
  | succ m ih =>
    intro j k S' hj hk hS hR
    obtain ⟨k, rfl, hk'⟩ := kS (m := m + 3) (by omega)
    rw [fX12_overOf]
    simp only [bX12_overOf_17, if_true]
    rw [if_neg (fun e => absurd ((ne60 (by omega)).mp e) (by omega)), if_neg (by decide), wp_b2]
    refine wp_mono (mTold hS.2.1 ok hR (okIt ok okA j) (by omega)) ?_
    rintro ⟨S1, x⟩ ⟨q1, q2, q3, q4, -⟩
    dsimp only at q4 ⊢
    rw [wp_ite, aSr, q4, addN1]
    have e0 : aOvS F A set (j + 1) = decide (¬ (aOv F (aIt F A j) &&& set) = 0) := rfl
    rw [e0]
    refine ⟨fun e => ?_, fun e => ?_⟩
    · rw [if_neg (by rw [decide_eq_false (fun h => h e)]; exact Bool.false_ne_true)]
      exact ih (j + 1) k S1 (by omega) (by omega) (mAs_ps hS q1) q2
    · rw [if_pos (decide_eq_true e)]
      obtain ⟨k, rfl, hk2⟩ := kS (m := 2) (k := k) (by omega)
      rw [fX12_overOf]
      simp only [bX12_overOf_17, if_true]
      have e49 := mOver49 (set := set) (y := N (j + 1)) (k := k) (by omega) (mAs_ps hS q1)
      have fin : wp (fX12_overOf k 49 S1 set (N (j + 1)) 0) (fun q => keepM S q.1 ∧ q.2 = N (j + 1) ∧ ∀ i, i < 2147483648 → q.2 = N i → sI q.1 180 56 = aOv F (aIt F A (i - 1)) &&& set) := by
        refine wp_mono e49 ?_
        rintro ⟨T, x⟩ ⟨t1, t2, t3⟩
        refine ⟨t1, t2, fun i hi e => ?_⟩
        rw [t2] at e
        have := (eqN (by omega) hi).mp e
        subst this
        rw [t3, q4]; rfl
      rw [if_pos (show (0 : Int32) ≤ N (j + 1) from (leN (a := 0) (by omega) (by omega)).mpr (by omega))]
      split
      · exact fin
      · exact fin
theorem and_bit {x : Int32} {m : Nat} (hm : m < 32) : (x &&& aBit m = 0) ↔ aHas x m = false := by
  rw [has_tb hm]
  constructor
  · intro h
    have := congrArg (fun y => tb y m) h
    simp only [tb_and, tb_bit hm hm, tb_zero] at this
    simpa using this
  · intro h
    apply tb_ext
    intro j hj
    rw [tb_and, tb_bit hm hj, tb_zero]
    by_cases e : j = m
    · subst e; rw [h]; rfl
    · rw [decide_eq_false e, Bool.and_false]
theorem op_over {c : Nat} (hc : c ≤ 1000) : Ob_over (Good c) (Good (c + 1)) := by
  intro S p0 hG
  refine ask (FX := fun S => FX11_over S p0) (FM := fun S => FX12_over S p0) hG ?_
  intro f d w F mn ln A D W E p n t ch g
  obtain ⟨hh, hA, okA⟩ := GO_hX g
  have h7 := hh.2.2.1
  by_cases b0 : inr 0 (fN F) p0
  · have b0' := b0
    obtain ⟨l, -, k1, k2, rfl⟩ := b0
    refine ⟨aSr (aOvP F A l) 60 1, ?_, fun S1 g1 => ?_⟩
    · unfold FX11_over
      rw [wp_b2]
      refine xgM hh (fun _ => ?_) (fun e => absurd b0' e)
      rw [if_pos rfl, wp_b1]
      refine wp_mono (xTake hA okA.1) ?_
      rintro S2 ⟨q1, q2⟩
      refine wp_mono (xOver hh okA (by omega) 60 0 FU S2 (by omega) (by unfold FU; omega) q1 q2) ?_
      rintro ⟨S3, x⟩ ⟨r1, r2⟩
      exact ⟨fr_mo r1 xTs, r2⟩
    · obtain ⟨hM, ok, rA, okA⟩ := GO_fM g1
      unfold FX12_over
      rw [wp_lt, wp_b2]
      refine mgM (th_fMo hM) ok (fun _ => ?_) (fun e => absurd b0' e)
      rw [if_pos rfl, wp_b2]
      unfold FX12_overOf
      rw [wp_b1]
      refine wp_mono (mTake (th_fMo hM) (th_rM rA) okA.1) ?_
      rintro S2 ⟨q1, q2⟩
      refine wp_mono (mOverOf (set := aBit l) ok okA (by omega) 60 0 FU S2 (by omega) (by unfold FU; omega) q1 q2) ?_
      rintro ⟨S3, x⟩ ⟨r1, r2, -⟩
      rw [wp_some]
      refine ⟨keep_tr keep_th r1, r2.trans (aSr_cg 60 1 (fun j _ _ => ?_))⟩
      unfold aOvS aOvP
      cases hb : aHas (aOv F (aIt F A (j - 1))) l with
      | false => exact decide_eq_false (fun h => h ((and_bit (by omega)).mpr hb))
      | true => exact decide_eq_true (fun h => by rw [(and_bit (by omega)).mp h] at hb; cases hb)
  · refine ⟨-1, ?_, fun S1 g1 => ?_⟩
    · unfold FX11_over
      rw [wp_b2]
      refine xgM hh (fun e => absurd e b0) (fun _ => ?_)
      rw [if_neg Bool.false_ne_true, wp_some]; exact ⟨fr_rf, rfl⟩
    · obtain ⟨hM, ok, rA, okA⟩ := GO_fM g1
      unfold FX12_over
      rw [wp_lt, wp_b2]
      refine mgM (th_fMo hM) ok (fun e => absurd e b0) (fun _ => ?_)
      rw [if_neg Bool.false_ne_true, wp_some]; exact ⟨keep_th, rfl⟩
/-! first -/
def aLow (F : aF) (A : aW) (j : Nat) : Int32 := aSr (fun m => aHas (aOv F (aIt F A (j - 1))) m) (fN F) 0
def aFirst (F : aF) (A : aW) : Nat → Nat → Int32
  | 0, _ => -1
  | m + 1, j => if aLow F A j = -1 then aFirst F A m (j + 1) else aLow F A j
theorem xFirst26 {S : gS} {f : Nat} {F : aF} {B : aW} {j K : Nat} {Q : gS × Int32 → Prop} (h : hX S f F) (hB : sI S 53 6 = aOv F B) (hQ : ∀ i, i < 2147483648 → aSr (fun m => aHas (aOv F B) m) (fN F) 0 = N i → Q (S, N i)) (hn : aSr (fun m => aHas (aOv F B) m) (fN F) 0 = -1 → ∀ k, K ≤ k → wp (fX11_first k 13 S (N (j + 1)) 0) Q) : ∀ m i k, i + m = fN F → K + m + 1 ≤ k → aSr (fun m => aHas (aOv F B) m) (fN F) 0 = aSr (fun m => aHas (aOv F B) m) m i → wp (fX11_first k 26 S (N j) (N i)) Q := by
  have h7 := h.2.2.1
  intro m
  induction m with
  | zero =>
    intro i k hi hk he
    obtain ⟨k, rfl, hk'⟩ := kS (m := K) hk
    rw [fX11_first]
    simp only [if_true]
    rw [if_neg (by decide)]
    simp only [bX11_first_26]
    rw [h.1, fbF h.2.1.1, if_pos rfl, h.2.1.2.1, if_pos ((leN (by omega) (by omega)).mpr (by omega)), addN1]
    exact hn he k hk'
  | succ m ih =>
    intro i k hi hk he
    obtain ⟨k, rfl, hk'⟩ := kS (m := K + m + 1) hk
    rw [fX11_first]
    simp only [if_true]
    rw [if_neg (by decide)]
    simp only [bX11_first_26]
    rw [h.1, fbF h.2.1.1, if_pos rfl, h.2.1.2.1, if_neg (fun e => absurd ((leN (by omega) (by omega)).mp e) (by omega)), wp_b2, xRanOver, wp_some, hB]
    dsimp only
    rw [wp_ite, wp_some, addN1]
    refine ⟨fun e => ?_, fun e => ?_⟩
    · apply hQ i (by omega)
      rw [he, aSr, if_pos e]
    · refine ih (i + 1) k (by omega) hk' ?_
      rw [he, aSr, if_neg e]
theorem xFirst {S : gS} {f : Nat} {F : aF} {A : aW} {c : Nat} (h : hX S f F) (okA : okW F c A) (hc : c ≤ 2000) : ∀ m j k S', j + m = 60 → 20 * m + 1 ≤ k → fr xT S S' → rX S' 53 (aIt F A j) → wp (fX11_first k 13 S' (N (j + 1)) 0) (fun q => fr xT S q.1 ∧ q.2 = aFirst F A m (j + 1)) := by
  have h7 := h.2.2.1
  intro m
  induction m with
  | zero =>
    intro j k S' hj hk hS hR
    obtain ⟨k, rfl, hk'⟩ := kS hk
    rw [fX11_first]
    simp only [bX11_first_13, if_true]
    rw [if_pos ((ne60 (by omega)).mpr (by omega)), wp_some]
    exact ⟨hS, rfl⟩
  | succ m ih =>
    intro j k S' hj hk hS hR
    obtain ⟨k, rfl, hk'⟩ := kS (m := 20 * m + 20) (by omega)
    rw [fX11_first]
    simp only [bX11_first_13, if_true]
    rw [if_neg (fun e => absurd ((ne60 (by omega)).mp e) (by omega)), wp_b2]
    refine wp_mono (xTrial (hX_T h hS) hR (okIt h.2.2 okA j) (by omega)) ?_
    rintro ⟨S1, x⟩ ⟨q1, q2, q3, q4, -⟩
    dsimp only at q4 ⊢
    have hS1 := fr_tr hS q1
    refine xFirst26 (B := aIt F A j) (K := 20 * m + 1) (hX_T h hS1) q4 (fun i hi e => ?_) (fun e k' hk2 => ?_) (fN F) 0 k (by omega) (by omega) rfl
    · refine ⟨hS1, ?_⟩
      have e2 : aLow F A (j + 1) = N i := e
      rw [aFirst, e2, if_neg (N_ne_m1 hi)]
    · have e2 : aLow F A (j + 1) = -1 := e
      rw [aFirst, if_pos e2]
      exact ih (j + 1) k' S1 (by omega) hk2 hS1 q2
theorem every_tb : ∀ n, n ≤ 7 → ∀ j, j < 32 → tb (((1 : Int32) <<< (N n &&& 31)) - 1) j = decide (j < n) := by decide +kernel
theorem and_every {x : Int32} {n : Nat} (hn : n ≤ 7) : (x &&& (((1 : Int32) <<< (N n &&& 31)) - 1) = 0) ↔ ∀ j, j < n → aHas x j = false := by
  constructor
  · intro h j hj
    rw [has_tb (by omega)]
    have := congrArg (fun y => tb y j) h
    simp only [tb_and, every_tb n hn j (by omega), tb_zero] at this
    simpa [hj] using this
  · intro h
    apply tb_ext
    intro j hj
    rw [tb_and, every_tb n hn j hj, tb_zero]
    by_cases e : j < n
    · rw [← has_tb hj, h j e]; rfl
    · rw [decide_eq_false e, Bool.and_false]
theorem aFirst_eq {F : aF} {A : aW} (ok : okF F) : ∀ m j, j + m < 2147483648 → aFirst F A m j = (if aSr (aOvS F A (((1 : Int32) <<< (N (fN F) &&& 31)) - 1)) m j = -1 then -1 else aLow F A (aSr (aOvS F A (((1 : Int32) <<< (N (fN F) &&& 31)) - 1)) m j).toNatClampNeg) := by
  have h7 := ok.1
  intro m
  induction m with
  | zero => intro j _; rfl
  | succ m ih =>
    intro j hj
    rw [aFirst, aSr]
    rcases aSr_sp (P := fun m => aHas (aOv F (aIt F A (j - 1))) m) (fN F) 0 with ⟨i, i1, i2, i3, i4, i5⟩ | ⟨i1, i2⟩
    · have e1 : aLow F A j = N i := i5
      have e2 : aOvS F A (((1 : Int32) <<< (N (fN F) &&& 31)) - 1) j = true := by
        unfold aOvS
        refine decide_eq_true (fun h => ?_)
        have := (and_every (by omega)).mp h i (by omega)
        rw [i3] at this; cases this
      rw [e1, if_neg (N_ne_m1 (by omega)), if_pos e2, if_neg (N_ne_m1 (by omega)), clN (by omega), e1]
    · have e1 : aLow F A j = -1 := i2
      have e2 : aOvS F A (((1 : Int32) <<< (N (fN F) &&& 31)) - 1) j = false := by
        unfold aOvS
        exact decide_eq_false (fun h => h ((and_every (by omega)).mpr (fun i hi => i1 i (by omega) (by omega))))
      rw [e1, if_pos rfl, e2, if_neg Bool.false_ne_true]
      exact ih (j + 1) (by omega)
theorem mLowest {S : gS} {x : Int32} : ∀ m i k, i + m = 7 → m + 1 ≤ k → fX12_lowest k 2 S x (N i) = some (S, aSr (fun j => aHas x j) m i) := by
  intro m
  induction m with
  | zero =>
    intro i k hi hk
    obtain ⟨k, rfl, -⟩ := kS hk
    rw [fX12_lowest]
    simp only [bX12_lowest_2, if_true]
    rw [if_pos (show (7 : Int32) ≤ N i from (leN (a := 7) (by omega) (by omega)).mpr (by omega))]
    rfl
  | succ m ih =>
    intro i k hi hk
    obtain ⟨k, rfl, hk'⟩ := kS hk
    rw [fX12_lowest]
    simp only [bX12_lowest_2, if_true]
    rw [if_neg (show ¬ (7 : Int32) ≤ N i from fun c => absurd ((leN (a := 7) (by omega) (by omega)).mp c) (by omega)), aSr, addN1, ih (i + 1) k (by omega) hk']
    by_cases e : aHas x i = true
    · rw [if_pos ((has_1 (by omega)).mpr e), if_pos e]
    · rw [if_neg (fun c => e ((has_1 (by omega)).mp c)), if_neg e]
theorem low_every {x : Int32} {n : Nat} (hn : n ≤ 7) : aSr (fun j => aHas (x &&& (((1 : Int32) <<< (N n &&& 31)) - 1)) j) 7 0 = aSr (fun j => aHas x j) n 0 := by
  have key : ∀ j, j < 7 → aHas (x &&& (((1 : Int32) <<< (N n &&& 31)) - 1)) j = (aHas x j && decide (j < n)) := by
    intro j hj
    rw [has_tb (by omega), has_tb (by omega), tb_and, every_tb n hn j (by omega)]
  rcases aSr_sp (P := fun m => aHas x m) n 0 with ⟨i, i1, i2, i3, i4, i5⟩ | ⟨i1, i2⟩
  · rw [i5]
    refine aSr_some ?_ 7 0 (by omega) (by omega) (fun j' a b => ?_)
    · rw [key i (by omega), i3, decide_eq_true (by omega)]; rfl
    · have := i4 j' a b
      rw [key j' (by omega), this]; rfl
  · rw [i2]
    refine aSr_none 7 0 (fun j a b => ?_)
    rw [key j (by omega)]
    by_cases e : j < n
    · have := i1 j a (by omega)
      rw [this]; rfl
    · rw [decide_eq_false e, Bool.and_false]
theorem op_first {c : Nat} (hc : c ≤ 1000) : Ob_first (Good c) (Good (c + 1)) := by
  intro S hG
  refine ask (FX := fun S => FX11_first S) (FM := fun S => FX12_first S) hG ?_
  intro f d w F mn ln A D W E p n t ch g
  obtain ⟨hh, hA, okA⟩ := GO_hX g
  have h7 := hh.2.2.1
  refine ⟨aFirst F A 60 1, ?_, fun S1 g1 => ?_⟩
  · unfold FX11_first
    rw [wp_b1]
    refine wp_mono (xTake hA okA.1) ?_
    rintro S2 ⟨q1, q2⟩
    refine wp_mono (xFirst hh okA (by omega) 60 0 FU S2 (by omega) (by unfold FU; omega) q1 q2) ?_
    rintro ⟨S3, x⟩ ⟨r1, r2⟩
    exact ⟨fr_mo r1 xTs, r2⟩
  · obtain ⟨hM, ok, rA, okA⟩ := GO_fM g1
    unfold FX12_first FX12_every
    rw [wp_lt, wp_b2, wp_some, wp_b2]
    have en : sR (uI S1 180 0 0) 182 0 = N (fN F) := hM.1
    dsimp only
    rw [en]
    unfold FX12_overOf
    rw [wp_b1]
    refine wp_mono (mTake (th_fMo hM) (th_rM rA) okA.1) ?_
    rintro S2 ⟨q1, q2⟩
    refine wp_mono (mOverOf (set := ((1 : Int32) <<< (N (fN F) &&& 31)) - 1) ok okA (by omega) 60 0 FU S2 (by omega) (by unfold FU; omega) q1 q2) ?_
    rintro ⟨S3, x⟩ ⟨r1, r2, r3⟩
    dsimp only at r1 r2 r3 ⊢
    rw [aFirst_eq ok 60 1 (by omega)]
    rcases aSr_r (P := aOvS F A (((1 : Int32) <<< (N (fN F) &&& 31)) - 1)) 60 1 (by omega) with e | ⟨j, j1, j2, j3⟩
    · rw [e] at r2 ⊢
      rw [r2, if_pos rfl, if_neg (by decide), wp_some]
      exact ⟨keep_tr keep_th r1, rfl⟩
    · rw [j3] at r2 ⊢
      have r4 := r3 j (by omega) r2
      rw [r2, if_neg (N_ne_m1 (by omega)), clN (by omega), if_pos (show (0 : Int32) ≤ N j from (leN (a := 0) (by omega) (by omega)).mpr (by omega)), wp_b2, r4]
      unfold FX12_lowest
      refine wp_eq (mLowest 7 0 FU (by omega) (by unfold FU; omega)) ?_
      rw [wp_some]
      refine ⟨keep_tr keep_th r1, ?_⟩
      exact low_every h7
