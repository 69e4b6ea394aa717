/-! aim, hush -/
def bcx (i0 : Int32) : Int32 := ((((((((i0 - (((Int32.toUInt32 (i0) >>> (Int32.toUInt32 ((1 : Int32)) &&& Int32.toUInt32 31)).toInt32) &&& (1431655765 : Int32))) &&& (858993459 : Int32)) + (((Int32.toUInt32 ((i0 - (((Int32.toUInt32 (i0) >>> (Int32.toUInt32 ((1 : Int32)) &&& Int32.toUInt32 31)).toInt32) &&& (1431655765 : Int32)))) >>> (Int32.toUInt32 ((2 : Int32)) &&& Int32.toUInt32 31)).toInt32) &&& (858993459 : Int32))) + ((Int32.toUInt32 ((((i0 - (((Int32.toUInt32 (i0) >>> (Int32.toUInt32 ((1 : Int32)) &&& Int32.toUInt32 31)).toInt32) &&& (1431655765 : Int32))) &&& (858993459 : Int32)) + (((Int32.toUInt32 ((i0 - (((Int32.toUInt32 (i0) >>> (Int32.toUInt32 ((1 : Int32)) &&& Int32.toUInt32 31)).toInt32) &&& (1431655765 : Int32)))) >>> (Int32.toUInt32 ((2 : Int32)) &&& Int32.toUInt32 31)).toInt32) &&& (858993459 : Int32)))) >>> (Int32.toUInt32 ((4 : Int32)) &&& Int32.toUInt32 31)).toInt32)) &&& (252645135 : Int32)) + ((Int32.toUInt32 ((((((i0 - (((Int32.toUInt32 (i0) >>> (Int32.toUInt32 ((1 : Int32)) &&& Int32.toUInt32 31)).toInt32) &&& (1431655765 : Int32))) &&& (858993459 : Int32)) + (((Int32.toUInt32 ((i0 - (((Int32.toUInt32 (i0) >>> (Int32.toUInt32 ((1 : Int32)) &&& Int32.toUInt32 31)).toInt32) &&& (1431655765 : Int32)))) >>> (Int32.toUInt32 ((2 : Int32)) &&& Int32.toUInt32 31)).toInt32) &&& (858993459 : Int32))) + ((Int32.toUInt32 ((((i0 - (((Int32.toUInt32 (i0) >>> (Int32.toUInt32 ((1 : Int32)) &&& Int32.toUInt32 31)).toInt32) &&& (1431655765 : Int32))) &&& (858993459 : Int32)) + (((Int32.toUInt32 ((i0 - (((Int32.toUInt32 (i0) >>> (Int32.toUInt32 ((1 : Int32)) &&& Int32.toUInt32 31)).toInt32) &&& (1431655765 : Int32)))) >>> (Int32.toUInt32 ((2 : Int32)) &&& Int32.toUInt32 31)).toInt32) &&& (858993459 : Int32)))) >>> (Int32.toUInt32 ((4 : Int32)) &&& Int32.toUInt32 31)).toInt32)) &&& (252645135 : Int32))) >>> (Int32.toUInt32 ((8 : Int32)) &&& Int32.toUInt32 31)).toInt32)) + ((Int32.toUInt32 (((((((i0 - (((Int32.toUInt32 (i0) >>> (Int32.toUInt32 ((1 : Int32)) &&& Int32.toUInt32 31)).toInt32) &&& (1431655765 : Int32))) &&& (858993459 : Int32)) + (((Int32.toUInt32 ((i0 - (((Int32.toUInt32 (i0) >>> (Int32.toUInt32 ((1 : Int32)) &&& Int32.toUInt32 31)).toInt32) &&& (1431655765 : Int32)))) >>> (Int32.toUInt32 ((2 : Int32)) &&& Int32.toUInt32 31)).toInt32) &&& (858993459 : Int32))) + ((Int32.toUInt32 ((((i0 - (((Int32.toUInt32 (i0) >>> (Int32.toUInt32 ((1 : Int32)) &&& Int32.toUInt32 31)).toInt32) &&& (1431655765 : Int32))) &&& (858993459 : Int32)) + (((Int32.toUInt32 ((i0 - (((Int32.toUInt32 (i0) >>> (Int32.toUInt32 ((1 : Int32)) &&& Int32.toUInt32 31)).toInt32) &&& (1431655765 : Int32)))) >>> (Int32.toUInt32 ((2 : Int32)) &&& Int32.toUInt32 31)).toInt32) &&& (858993459 : Int32)))) >>> (Int32.toUInt32 ((4 : Int32)) &&& Int32.toUInt32 31)).toInt32)) &&& (252645135 : Int32)) + ((Int32.toUInt32 ((((((i0 - (((Int32.toUInt32 (i0) >>> (Int32.toUInt32 ((1 : Int32)) &&& Int32.toUInt32 31)).toInt32) &&& (1431655765 : Int32))) &&& (858993459 : Int32)) + (((Int32.toUInt32 ((i0 - (((Int32.toUInt32 (i0) >>> (Int32.toUInt32 ((1 : Int32)) &&& Int32.toUInt32 31)).toInt32) &&& (1431655765 : Int32)))) >>> (Int32.toUInt32 ((2 : Int32)) &&& Int32.toUInt32 31)).toInt32) &&& (858993459 : Int32))) + ((Int32.toUInt32 ((((i0 - (((Int32.toUInt32 (i0) >>> (Int32.toUInt32 ((1 : Int32)) &&& Int32.toUInt32 31)).toInt32) &&& (1431655765 : Int32))) &&& (858993459 : Int32)) + (((Int32.toUInt32 ((i0 - (((Int32.toUInt32 (i0) >>> (Int32.toUInt32 ((1 : Int32)) &&& Int32.toUInt32 31)).toInt32) &&& (1431655765 : Int32)))) >>> (Int32.toUInt32 ((2 : Int32)) &&& Int32.toUInt32 31)).toInt32) &&& (858993459 : Int32)))) >>> (Int32.toUInt32 ((4 : Int32)) &&& Int32.toUInt32 31)).toInt32)) &&& (252645135 : Int32))) >>> (Int32.toUInt32 ((8 : Int32)) &&& Int32.toUInt32 31)).toInt32))) >>> (Int32.toUInt32 ((16 : Int32)) &&& Int32.toUInt32 31)).toInt32)) &&& (63 : Int32))
theorem bitc {S : gS} {x : Int32} : FJ6_bitCount_0f7a4 S x = some (S, bcx x) := rfl
/-- the first k bits -/
def pc (x : Int32) : Nat → Int32
  | 0 => 0
  | k + 1 => pc x k + ((x >>> (N k &&& 31)) &&& (1 : Int32))
theorem bcx_pc : ∀ v, v < 128 → bcx (N v) = pc (N v) 10 := by decide +kernel
theorem pc_b : ∀ v, v < 128 → 0 ≤ (pc (N v) 10).toInt ∧ (pc (N v) 10).toInt ≤ 7 := by decide +kernel
theorem mBitsL {S : gS} {x : Int32} : ∀ m i k, i + m = 10 → m + 1 ≤ k → fX12_bits k 4 S x (pc x i) (N i) = some (S, pc x 10) := by
  intro m
  induction m with
  | zero =>
    intro i k hi hk
    obtain ⟨k, rfl, -⟩ := kS hk
    rw [fX12_bits]
    simp only [bX12_bits_4, if_true]
    have : i = 10 := by omega
    subst this
    rw [if_pos (by decide)]
  | succ m ih =>
    intro i k hi hk
    obtain ⟨k, rfl, hk'⟩ := kS hk
    rw [fX12_bits]
    simp only [bX12_bits_4, if_true]
    rw [if_neg (show ¬ (10 : Int32) ≤ N i from fun c => absurd ((leN (a := 10) (by omega) (by omega)).mp c) (by omega)), addN1]
    exact ih (i + 1) k (by omega) hk'
theorem mBits {S : gS} {x : Int32} : FX12_bits S x = some (S, pc x 10) := by
  unfold FX12_bits
  exact mBitsL 10 0 FU (by omega) (by unfold FU; omega)
theorem shl_n : ∀ n, n ≤ 7 → (1 : Int32) <<< (N n &&& 31) = N (2 ^ n) := by decide +kernel
theorem every_n : ∀ n, n ≤ 7 → ((1 : Int32) <<< (N n &&& 31)) - 1 = N (2 ^ n - 1) := by decide +kernel
theorem p2_b : ∀ n, n ≤ 7 → 1 ≤ 2 ^ n ∧ 2 ^ n ≤ 128 := by decide +kernel
theorem keep_fMo {S T : gS} {F : aF} (h : keepM S T) (hF : fMo S F) : fMo T F := fMo_fm hF h.1 (fun b hb => mSn (by omega))
theorem keep_rM {S T : gS} {A : aW} (h : keepM S T) (hA : rM S 216 0 A) (hz : wSz A ≤ 40) : rM T 216 0 A := rM_eq hA hz (fun k hk => by rw [Nat.zero_add]; exact h.2 k hk)
theorem mAs_216 {S0 S S' : gS} {F : aF} (h : mAs S0 S F) (hS : fm [216] S S') : mAs S0 S' F :=
  ⟨fm_tr h.1 (fm_mo hS (by decide)), fMo_fm h.2.1 hS (fun b hb => P1n hb), fun j hj => by rw [fmR hS (by decide) (by decide)]; exact h.2.2 j hj⟩
theorem aPour_0 {A : aW} {m : Nat} (h : (wWa A m).toInt ≤ 99) : aPour A m 0 = A := by
  have e : (if (99 : Int32) < wWa A m + 0 then 99 else wWa A m + 0) = wWa A m := by
    rw [Int32.add_zero, if_neg]
    rw [ilt]
    have e99 : Int32.toInt 99 = 99 := rfl
    omega
  have e2 : up (wWa A) m (if (99 : Int32) < wWa A m + 0 then 99 else wWa A m + 0) = wWa A := by
    funext i
    rw [e]
    simp only [up]
    split
    · rename_i h; rw [h]
    · rfl
  change (A.1, A.2.1, up (wWa A) m (if (99 : Int32) < wWa A m + 0 then 99 else wWa A m + 0), A.2.2.2) = A
  rw [e2]; rfl
def aRd (F : aF) (A : aW) (l : Nat) : Bool := decide (wLa (aT F A) = N l)
theorem xReadW {S : gS} {f : Nat} {F : aF} {A : aW} {c l mo x : Nat} (h : hX S f F) (hA : rX S 49 A) (okA : okW F c A) (hc : c ≤ 2000) (hm : mo < fN F) (hx : x ≤ 20) : wp (FX11_isReadWith S (N l) (N mo) (N x)) (fun q => fr xT S q.1 ∧ q.2 = aRd F (aPour A mo (N x)) l) := by
  have h7 := h.2.2.1
  unfold FX11_isReadWith
  rw [wp_b1]
  refine wp_mono (xTake hA okA.1) ?_
  rintro S1 ⟨q1, q2⟩
  rw [if_neg (N_ne_m1 (by omega)), wp_b1]
  refine wp_mono (xPour (x := N x) q2 (by omega)) ?_
  rintro S2 ⟨r1, r2⟩
  have hS2 : fr xT S S2 := fr_tr q1 (fr_mo r1 (by decide))
  rw [wp_b2]
  refine wp_mono (xTrial (hX_T h hS2) r2 (okPour okA hm h7 (by rw [tiN (by omega)]; omega)) (by omega)) ?_
  rintro ⟨S3, y⟩ ⟨t1, -, t3, -⟩
  dsimp only at t1 t3 ⊢
  rw [wp_ite, wp_some, wp_some, t3]
  unfold aRd
  exact ⟨fun e => ⟨fr_tr hS2 t1, (decide_eq_true e).symm⟩, fun e => ⟨fr_tr hS2 t1, (decide_eq_false e).symm⟩⟩
theorem xReadN {S : gS} {f : Nat} {F : aF} {A : aW} {c l : Nat} (h : hX S f F) (hA : rX S 49 A) (okA : okW F c A) (hc : c ≤ 2000) : wp (FX11_isReadWith S (N l) (-1) 0) (fun q => fr xT S q.1 ∧ q.2 = aRd F A l) := by
  unfold FX11_isReadWith
  rw [wp_b1]
  refine wp_mono (xTake hA okA.1) ?_
  rintro S1 ⟨q1, q2⟩
  rw [if_pos rfl, wp_b2]
  refine wp_mono (xTrial (hX_T h q1) q2 okA (by omega)) ?_
  rintro ⟨S3, y⟩ ⟨t1, -, t3, -⟩
  dsimp only at t1 t3 ⊢
  rw [wp_ite, wp_some, wp_some, t3]
  unfold aRd
  exact ⟨fun e => ⟨fr_tr q1 t1, (decide_eq_true e).symm⟩, fun e => ⟨fr_tr q1 t1, (decide_eq_false e).symm⟩⟩
def aAimM (F : aF) (A : aW) (l x : Nat) : Int32 := aSr (fun m => aRd F (aPour A m (N x)) l) (fN F) 0
def aAim (F : aF) (A : aW) (l : Nat) (b : Bool) : Nat → Nat → Int32
  | 0, _ => -2
  | m + 1, x => if aAimM F A l x = -1 then aAim F A l b m (x + 1) else (if b = true then N x else aAimM F A l x)
theorem n49 : 49 ∉ xT ∧ 49 + 1 ∉ xT ∧ 49 + 2 ∉ xT ∧ 49 + 3 ∉ xT := by decide
theorem rX_T {S S' : gS} {A : aW} (h : rX S 49 A) (hS : fr xT S S') : rX S' 49 A := rX_fr h hS (fun j hj => xTn (by omega))
theorem xAim51 {S0 : gS} {f : Nat} {F : aF} {A : aW} {c l x K : Nat} {b : Bool} {i2 : Int32} {Q : gS × Int32 → Prop} (h : hX S0 f F) (hA : rX S0 49 A) (okA : okW F c A) (hc : c ≤ 2000) (hx : x ≤ 20) (hb : (i2 = 0) ↔ b = true)
    (hQ : ∀ S1 i, i < 2147483648 → fr xT S0 S1 → aAimM F A l x = N i → Q (S1, if b = true then N x else N i)) (hn : ∀ S1 k, aAimM F A l x = -1 → K ≤ k → fr xT S0 S1 → wp (fX11_aim k 42 S1 (N l) i2 (N (x + 1)) 0) Q) : ∀ m i k S, fr xT S0 S → i + m = fN F → K + m + 1 ≤ k → aAimM F A l x = aSr (fun m => aRd F (aPour A m (N x)) l) m i → wp (fX11_aim k 51 S (N l) i2 (N x) (N i)) Q := by
  have h7 := h.2.2.1
  intro m
  induction m with
  | zero =>
    intro i k S hS hi hk he
    obtain ⟨k, rfl, hk'⟩ := kS (m := K) hk
    have hT := hX_T h hS
    rw [fX11_aim]
    simp only [if_true]
    rw [if_neg (by decide)]
    simp only [bX11_aim_51]
    rw [hT.1, fbF hT.2.1.1, if_pos rfl, hT.2.1.2.1, if_pos ((leN (by omega) (by omega)).mpr (by omega)), addN1]
    exact hn S k he hk' hS
  | succ m ih =>
    intro i k S hS hi hk he
    obtain ⟨k, rfl, hk'⟩ := kS (m := K + m + 1) hk
    have hT := hX_T h hS
    rw [fX11_aim]
    simp only [if_true]
    rw [if_neg (by decide)]
    simp only [bX11_aim_51]
    rw [hT.1, fbF hT.2.1.1, if_pos rfl, hT.2.1.2.1, if_neg (fun e => absurd ((leN (by omega) (by omega)).mp e) (by omega)), wp_b2]
    refine wp_mono (xReadW (l := l) (mo := i) (x := x) hT (rX_T hA hS) okA hc (by omega) hx) ?_
    rintro ⟨S1, y⟩ ⟨q1, q2⟩
    dsimp only at q1 q2 ⊢
    have hS1 := fr_tr hS q1
    rw [q2, wp_ite, addN1]
    rw [aSr] at he
    refine ⟨fun e => ?_, fun e => ?_⟩
    · rw [if_pos e] at he
      have := hQ S1 i (by omega) hS1 he
      rw [wp_ite, wp_some, wp_some]
      refine ⟨fun e2 => ?_, fun e2 => ?_⟩
      · rw [if_pos (hb.mp e2)] at this; exact this
      · rw [if_neg (fun h => e2 (hb.mpr h))] at this; exact this
    · rw [if_neg e] at he
      exact ih (i + 1) k S1 hS1 (by omega) hk' he
theorem xAim42 {S0 : gS} {f : Nat} {F : aF} {A : aW} {c l : Nat} {b : Bool} {i2 : Int32} (h : hX S0 f F) (hA : rX S0 49 A) (okA : okW F c A) (hc : c ≤ 2000) (hb : (i2 = 0) ↔ b = true) : ∀ m x k S, x + m = 21 → 20 * m + 1 ≤ k → fr xT S0 S → wp (fX11_aim k 42 S (N l) i2 (N x) 0) (fun q => fr xT S0 q.1 ∧ q.2 = aAim F A l b m x) := by
  have h7 := h.2.2.1
  intro m
  induction m with
  | zero =>
    intro x k S hx hk hS
    obtain ⟨k, rfl, hk'⟩ := kS (m := 0) hk
    rw [fX11_aim]
    simp only [bX11_aim_42, if_true]
    rw [if_pos (show (20 : Int32) < N x from (ltN (a := 20) (by omega) (by omega)).mpr (by omega)), wp_some]
    exact ⟨hS, rfl⟩
  | succ m ih =>
    intro x k S hx hk hS
    obtain ⟨k, rfl, hk'⟩ := kS (m := 20 * m + 20) (by omega)
    rw [fX11_aim]
    simp only [bX11_aim_42, if_true]
    rw [if_neg (show ¬ (20 : Int32) < N x from fun c => absurd ((ltN (a := 20) (by omega) (by omega)).mp c) (by omega))]
    refine xAim51 (x := x) (K := 20 * m + 1) (b := b) h hA okA hc (by omega) hb (fun S1 i hi hS1 e => ?_) (fun S1 k' e hk2 hS1 => ?_) (fN F) 0 k S hS (by omega) (by omega) rfl
    · refine ⟨hS1, ?_⟩
      rw [aAim, e, if_neg (N_ne_m1 hi)]
    · rw [aAim, if_pos e]
      exact ih (x + 1) k' S1 (by omega) hk2 hS1
theorem mAimOf {S0 : gS} {F : aF} {A : aW} {c l x : Nat} (hF : fMo S0 F) (ok : okF F) (hA : rM S0 216 0 A) (okA : okW F c A) (hc : c ≤ 2000) (hx : x ≤ 20) : ∀ m i k S, i + m = fN F → 2 * m + 1 ≤ k → keepM S0 S → wp (fX12_aimOf k 2 S (N l) (N x) (N i) 0) (fun q => keepM S0 q.1 ∧ q.2 = aSr (fun m => aRd F (aPour A m (N x)) l) m i) := by
  have h7 := ok.1
  intro m
  induction m with
  | zero =>
    intro i k S hi hk hS
    obtain ⟨k, rfl, -⟩ := kS (m := 0) hk
    rw [fX12_aimOf]
    simp only [bX12_aimOf_2, if_true]
    rw [(keep_fMo hS hF).1, if_pos ((leN (by omega) (by omega)).mpr (by omega)), wp_some]
    exact ⟨hS, rfl⟩
  | succ m ih =>
    intro i k S hi hk hS
    obtain ⟨k, rfl, hk'⟩ := kS (m := 2 * m + 2) (by omega)
    have hF' := keep_fMo hS hF
    have hA' := keep_rM hS hA okA.1
    rw [fX12_aimOf]
    simp only [bX12_aimOf_2, if_true]
    rw [hF'.1, if_neg (fun e => absurd ((leN (by omega) (by omega)).mp e) (by omega)), wp_b1]
    refine wp_mono (mTake hF' hA' okA.1) ?_
    rintro S1 ⟨q1, q2⟩
    rw [wp_b1]
    refine wp_mono (mPours (m := i) (x := N x) q2 (by omega)) ?_
    rintro S2 ⟨r1, r2⟩
    have as2 := mAs_216 q1 r1
    rw [wp_b2]
    refine wp_mono (mTold as2.2.1 ok r2 (okPour okA (by omega) h7 (by rw [tiN (by omega)]; omega)) (by omega)) ?_
    rintro ⟨S3, y⟩ ⟨t1, -, t3, -⟩
    dsimp only at t1 t3 ⊢
    have as3 := mAs_ps as2 t1
    obtain ⟨k, rfl, hk2⟩ := kS (m := 2 * m + 1) hk'
    have e46 : ∀ z : Int32, wp (fX12_aimOf (k + 1) 46 S3 (N l) (N x) (N i) z) (fun q => keepM S0 q.1 ∧ q.2 = if z = 0 then aSr (fun m => aRd F (aPour A m (N x)) l) m (i + 1) else N i) := by
      intro z
      rw [fX12_aimOf]
      simp only [if_true]
      rw [if_neg (by decide)]
      simp only [bX12_aimOf_46]
      rw [wp_b1]
      refine wp_mono (mBack as3) ?_
      rintro T ⟨u1, -⟩
      rw [wp_ite, wp_some, addN1]
      refine ⟨fun e => ?_, fun e => ?_⟩
      · rw [if_pos e]
        exact ih (i + 1) k T (by omega) (by omega) (keep_tr hS u1)
      · rw [if_neg e]
        exact ⟨keep_tr hS u1, rfl⟩
    have e1 := e46 1
    have e0 := e46 0
    rw [if_neg (by decide)] at e1
    rw [if_pos rfl] at e0
    rw [wp_ite, aSr, t3]
    rw [show aRd F (aPour A i (N x)) l = decide (wLa (aT F (aPour A i (N x))) = N l) from rfl]
    refine ⟨fun e => ?_, fun e => ?_⟩
    · rw [if_pos (decide_eq_true e)]; exact e1
    · rw [if_neg (fun h => e (of_decide_eq_true h))]; exact e0
theorem mAim27 {S0 : gS} {F : aF} {A : aW} {c l : Nat} {b : Bool} {i2 : Int32} (hF : fMo S0 F) (ok : okF F) (hA : rM S0 216 0 A) (okA : okW F c A) (hc : c ≤ 2000) (hb : (i2 = 0) ↔ b = true) : ∀ m x k S, 1 ≤ x → x + m = 21 → m + 1 ≤ k → keepM S0 S → wp (fX12_aim k 27 S (N l) i2 (N x)) (fun q => keepM S0 q.1 ∧ q.2 = aAim F A l b m x) := by
  have h7 := ok.1
  intro m
  induction m with
  | zero =>
    intro x k S _ hx hk hS
    obtain ⟨k, rfl, -⟩ := kS (m := 0) hk
    rw [fX12_aim]
    simp only [bX12_aim_27, if_true]
    rw [if_pos (show (20 : Int32) < N x from (ltN (a := 20) (by omega) (by omega)).mpr (by omega)), wp_some]
    exact ⟨hS, rfl⟩
  | succ m ih =>
    intro x k S hx0 hx hk hS
    obtain ⟨k, rfl, hk'⟩ := kS (m := m + 1) hk
    rw [fX12_aim]
    simp only [bX12_aim_27, if_true]
    rw [if_neg (show ¬ (20 : Int32) < N x from fun c => absurd ((ltN (a := 20) (by omega) (by omega)).mp c) (by omega)), wp_b2]
    unfold FX12_aimOf
    refine wp_mono (mAimOf (l := l) (x := x) hF ok hA okA hc (by omega) (fN F) 0 FU S (by omega) (by unfold FU; omega) hS) ?_
    rintro ⟨S1, y⟩ ⟨q1, q2⟩
    dsimp only at q1 q2 ⊢
    have q2 : y = aAimM F A l x := q2
    rw [aAim, ← q2, addN1]
    rcases aSr_r (P := fun m => aRd F (aPour A m (N x)) l) (fN F) 0 (by omega) with e | ⟨i, i1, i2', i3⟩
    · have e : aAimM F A l x = -1 := e
      rw [q2, e, if_pos (by decide), if_pos rfl]
      exact ih (x + 1) k S1 (by omega) (by omega) hk' q1
    · have i3 : aAimM F A l x = N i := i3
      rw [q2, i3, if_neg (nN_lt0 (by omega)), if_neg (N_ne_m1 (by omega)), wp_ite, wp_some, if_neg (show ¬ N x = 0 from fun h => by rw [eq0N (by omega)] at h; omega), wp_some]
      refine ⟨fun e2 => ?_, fun e2 => ?_⟩
      · rw [if_pos (hb.mp e2)]; exact ⟨q1, rfl⟩
      · rw [if_neg (fun h => e2 (hb.mpr h))]; exact ⟨q1, rfl⟩
theorem aAimM_0 {F : aF} {A : aW} {c l : Nat} (ok : okF F) (okA : okW F c A) (hn : 0 < fN F) : aAimM F A l 0 = if aRd F A l = true then N 0 else -1 := by
  have h7 := ok.1
  have key : ∀ m, m < fN F → aRd F (aPour A m (N 0)) l = aRd F A l := by
    intro m hm
    have := (okA.2.2.1 m (by omega)).2
    rw [show (N 0 : Int32) = 0 from rfl, aPour_0 this]
  unfold aAimM
  cases h : aRd F A l with
  | true =>
    rw [if_pos rfl]
    exact aSr_some (by rw [key 0 hn]; exact h) (fN F) 0 (by omega) (by omega) (fun j' a b => by omega)
  | false =>
    rw [if_neg Bool.false_ne_true]
    exact aSr_none (fN F) 0 (fun j a b => by rw [key j (by omega)]; exact h)
def aAimR (F : aF) (A : aW) (l : Nat) (b : Bool) : Int32 := if aRd F A l = true then (if b = true then 0 else -1) else aAim F A l b 20 1
theorem op_aim {c : Nat} (hc : c ≤ 1000) : Ob_aim (Good c) (Good (c + 1)) := by
  intro S p0 p1 hG
  refine ask (FX := fun S => FX11_aim S p0 p1) (FM := fun S => FX12_aim S p0 p1) hG ?_
  intro f d w F mn ln A D W E p n t ch g
  obtain ⟨hh, hA, okA⟩ := GO_hX g
  have h7 := hh.2.2.1
  by_cases b0 : inr 0 (fL F) p0
  · have b0' := b0
    obtain ⟨l, -, k1, k2, rfl⟩ := b0
    have hn : 0 < fN F := hh.2.2.2.2.2.2.2.2.2.2.1 (by omega)
    by_cases b1 : inr 0 2 p1
    · have b1' := b1
      obtain ⟨v, -, v1, v2, rfl⟩ := b1
      have hb : (N v = 0) ↔ decide (v = 0) = true := by rw [eq0N v2, decide_eq_true_eq]
      refine ⟨aAimR F A l (decide (v = 0)), ?_, fun S1 g1 => ?_⟩
      · unfold FX11_aim
        rw [wp_b2]
        refine xgL hh (fun _ => ?_) (fun e => absurd b0' e)
        rw [if_pos rfl, if_neg (nN_lt0 v2), if_pos (show N v ≤ 1 from (leN (b := 1) v2 (by omega)).mpr (by omega)), wp_b2]
        refine wp_mono (xReadN (l := l) hh hA okA (by omega)) ?_
        rintro ⟨S2, y⟩ ⟨q1, q2⟩
        dsimp only at q1 q2 ⊢
        rw [q2]
        unfold aAimR
        rw [wp_ite]
        refine ⟨fun e => ?_, fun e => ?_⟩
        · rw [if_pos e, wp_ite, wp_some, wp_some]
          refine ⟨fun e2 => ?_, fun e2 => ?_⟩
          · rw [if_pos (hb.mp e2)]; exact ⟨fr_mo q1 xTs, rfl⟩
          · rw [if_neg (fun h => e2 (hb.mpr h))]; exact ⟨fr_mo q1 xTs, rfl⟩
        · rw [if_neg e]
          refine wp_mono (xAim42 (l := l) (b := decide (v = 0)) hh hA okA (by omega) hb 20 1 FU S2 (by omega) (by unfold FU; omega) q1) ?_
          rintro ⟨S3, x⟩ ⟨r1, r2⟩
          exact ⟨fr_mo r1 xTs, r2⟩
      · obtain ⟨hM, ok, rA, okA⟩ := GO_fM g1
        unfold FX12_aim
        rw [wp_lt, wp_b2]
        refine mgL (th_fMo hM) ok (fun _ => ?_) (fun e => absurd b0' e)
        rw [if_pos rfl, wp_b2]
        refine mgW 0 1 (by omega) (by omega) (fun _ => ?_) (fun e => absurd b1' e)
        rw [if_pos rfl]
        obtain ⟨kf, hkf, hkf2⟩ := FU_s
        rw [hkf, fX12_aim]
        simp only [bX12_aim_27, if_true]
        rw [if_neg (by decide), wp_b2]
        unfold FX12_aimOf
        refine wp_mono (mAimOf (S0 := S1) (l := l) (x := 0) hM ok rA okA (by omega) (by omega) (fN F) 0 FU (uI S1 180 0 0) (by omega) (by unfold FU; omega) keep_th) ?_
        rintro ⟨S2, y⟩ ⟨q1, q2⟩
        dsimp only at q1 q2 ⊢
        have q2 : y = aAimM F A l 0 := q2
        rw [aAimM_0 ok okA hn] at q2
        unfold aAimR
        by_cases e : aRd F A l = true
        · rw [if_pos e] at q2 ⊢
          rw [q2, if_neg (by decide), wp_ite, wp_some, wp_some]
          refine ⟨fun e2 => ?_, fun e2 => ?_⟩
          · rw [if_pos (hb.mp e2)]; exact ⟨q1, rfl⟩
          · rw [if_neg (fun h => e2 (hb.mpr h))]; exact ⟨q1, rfl⟩
        · rw [if_neg e] at q2 ⊢
          rw [q2, if_pos (by decide)]
          exact mAim27 (l := l) (b := decide (v = 0)) hM ok rA okA (by omega) hb 20 1 kf S2 (by omega) (by omega) (by omega) q1
    · refine ⟨-2, ?_, fun S1 g1 => ?_⟩
      · unfold FX11_aim
        rw [wp_b2]
        refine xgL hh (fun _ => ?_) (fun e => absurd b0' e)
        rw [if_pos rfl]
        by_cases z : p1 < 0
        · rw [if_pos z, wp_some]; exact ⟨fr_rf, rfl⟩
        · rw [if_neg z, if_neg (fun z2 => by
            obtain ⟨k, k1, rfl⟩ := I_nn z
            exact b1 ⟨k, by omega, by have := (leN (b := 1) k1 (by omega)).mp z2; omega, k1, rfl⟩), wp_some]
          exact ⟨fr_rf, rfl⟩
      · obtain ⟨hM, ok, rA, okA⟩ := GO_fM g1
        unfold FX12_aim
        rw [wp_lt, wp_b2]
        refine mgL (th_fMo hM) ok (fun _ => ?_) (fun e => absurd b0' e)
        rw [if_pos rfl, wp_b2]
        refine mgW 0 1 (by omega) (by omega) (fun e => absurd e b1) (fun _ => ?_)
        rw [if_neg Bool.false_ne_true, wp_some]; exact ⟨keep_th, rfl⟩
  · refine ⟨-2, ?_, fun S1 g1 => ?_⟩
    · unfold FX11_aim
      rw [wp_b2]
      refine xgL hh (fun e => absurd e b0) (fun _ => ?_)
      rw [if_neg Bool.false_ne_true, wp_some]; exact ⟨fr_rf, rfl⟩
    · obtain ⟨hM, ok, rA, okA⟩ := GO_fM g1
      unfold FX12_aim
      rw [wp_lt, wp_b2]
      refine mgL (th_fMo hM) ok (fun e => absurd e b0) (fun _ => ?_)
      rw [if_neg Bool.false_ne_true, wp_some]; exact ⟨keep_th, rfl⟩
