/-! hush, rains, look -/
def aTurn (F : aF) (A : aW) (l s : Nat) : Bool := aRd F (aSet A (wSt A ^^^ N s)) l
def aHush (F : aF) (A : aW) (l : Nat) : Nat → Nat → Int32 → Int32
  | 0, _, b => b
  | m + 1, s, b => if ¬ b = -1 ∧ pc b 10 ≤ pc (N s) 10 then aHush F A l m (s + 1) b else if aTurn F A l s = true then aHush F A l m (s + 1) (N s) else aHush F A l m (s + 1) b
theorem xTurn {S : gS} {f : Nat} {F : aF} {A : aW} {c l s : Nat} (h : hX S f F) (hA : rX S 49 A) (okA : okW F c A) (hc : c ≤ 2000) : wp (FX11_isReadTurned S (N l) (N s)) (fun q => fr xT S q.1 ∧ q.2 = aTurn F A l s) := by
  unfold FX11_isReadTurned
  rw [wp_b1]
  refine wp_mono (xTake hA okA.1) ?_
  rintro S1 ⟨q1, q2⟩
  rw [wp_lt, q2.2.1]
  have h2 := xSet (s := wSt A ^^^ N s) q2
  have hS2 := fr_tr q1 (fr_mo h2.1 (L' := xT) (by decide))
  rw [wp_b2]
  refine wp_mono (xTrial (hX_T h hS2) h2.2 (okSet okA) (by omega)) ?_
  rintro ⟨S3, y⟩ ⟨t1, -, t3, -⟩
  dsimp only at t1 t3 ⊢
  rw [wp_ite, wp_some, wp_some, t3]
  unfold aTurn aRd
  exact ⟨fun e => ⟨fr_tr hS2 t1, (decide_eq_true e).symm⟩, fun e => ⟨fr_tr hS2 t1, (decide_eq_false e).symm⟩⟩
theorem xHush {S0 : gS} {f : Nat} {F : aF} {A : aW} {c l t : Nat} (h : hX S0 f F) (hA : rX S0 49 A) (okA : okW F c A) (hc : c ≤ 2000) (ht : t ≤ 128) : ∀ m s k S b, s + m = t → m + 1 ≤ k → fr xT S0 S → (b = -1 ∨ ∃ v, v < 128 ∧ b = N v) → wp (fX11_hush k 29 S (N l) b (if b = -1 then 8 else bcx b) (N t) (N s)) (fun q => fr xT S0 q.1 ∧ q.2 = aHush F A l m s b) := by
  intro m
  induction m with
  | zero =>
    intro s k S b hs hk hS hb
    obtain ⟨k, rfl, -⟩ := kS (m := 0) hk
    rw [fX11_hush]
    simp only [bX11_hush_29, if_true]
    rw [if_pos ((leN (by omega) (by omega)).mpr (by omega)), wp_some]
    exact ⟨hS, rfl⟩
  | succ m ih =>
    intro s k S b hs hk hS hb
    obtain ⟨k, rfl, hk'⟩ := kS (m := m + 1) hk
    rw [fX11_hush]
    simp only [bX11_hush_29, if_true]
    have es := bcx_pc s (by omega)
    have eb := pc_b s (by omega)
    have e8 : Int32.toInt 8 = 8 := rfl
    rw [if_neg (fun e => absurd ((leN (by omega) (by omega)).mp e) (by omega)), bitc, wp_b2, wp_some]
    dsimp only
    have hcond : ((if b = -1 then (8 : Int32) else bcx b) ≤ bcx (N s)) ↔ (¬ b = -1 ∧ pc b 10 ≤ pc (N s) 10) := by
      rcases hb with rfl | ⟨v, v1, rfl⟩
      · rw [if_pos rfl, es]
        constructor
        · intro hh; rw [ile, e8] at hh; omega
        · intro hh; exact absurd rfl hh.1
      · rw [if_neg (N_ne_m1 (by omega)), es, bcx_pc v v1]
        exact ⟨fun hh => ⟨N_ne_m1 (by omega), hh⟩, fun hh => hh.2⟩
    rw [wp_ite, aHush, addN1]
    refine ⟨fun e => ?_, fun e => ?_⟩
    · rw [if_pos (hcond.mp e)]
      exact ih (s + 1) k S b (by omega) hk' hS hb
    · rw [if_neg (fun hh => e (hcond.mpr hh)), wp_b2]
      refine wp_mono (xTurn (l := l) (s := s) (hX_T h hS) (rX_T hA hS) okA hc) ?_
      rintro ⟨S1, y⟩ ⟨q1, q2⟩
      dsimp only at q1 q2 ⊢
      rw [q2, wp_ite]
      refine ⟨fun e2 => ?_, fun e2 => ?_⟩
      · rw [if_pos e2, bitc, wp_b2, wp_some]
        have := ih (s + 1) k S1 (N s) (by omega) hk' (fr_tr hS q1) (Or.inr ⟨s, by omega, rfl⟩)
        rw [if_neg (N_ne_m1 (by omega))] at this
        exact this
      · rw [if_neg e2]
        exact ih (s + 1) k S1 b (by omega) hk' (fr_tr hS q1) hb
theorem mHush {S0 : gS} {F : aF} {A : aW} {c l : Nat} (hF : fMo S0 F) (ok : okF F) (hA : rM S0 216 0 A) (okA : okW F c A) (hc : c ≤ 2000) : ∀ m s k S b, s + m = 2 ^ fN F → 3 * m + 1 ≤ k → keepM S0 S → (b = -1 ∨ ∃ v, v < 128 ∧ b = N v) → wp (fX12_hush k 19 S (N l) b (N s)) (fun q => keepM S0 q.1 ∧ q.2 = aHush F A l m s b) := by
  have h7 := ok.1
  have hp := p2_b _ h7
  intro m
  induction m with
  | zero =>
    intro s k S b hs hk hS hb
    obtain ⟨k, rfl, -⟩ := kS (m := 0) hk
    rw [fX12_hush]
    simp only [bX12_hush_19, if_true]
    unfold FX12_every
    rw [wp_b2, wp_some]
    dsimp only
    rw [(keep_fMo hS hF).1, every_n _ h7, if_pos ((ltN (by omega) (by omega)).mpr (by omega)), wp_some]
    exact ⟨hS, rfl⟩
  | succ m ih =>
    intro s k S b hs hk hS hb
    obtain ⟨k, rfl, hk'⟩ := kS (m := 3 * m + 3) hk
    have hF' := keep_fMo hS hF
    have hA' := keep_rM hS hA okA.1
    rw [fX12_hush]
    simp only [bX12_hush_19, if_true]
    unfold FX12_every
    rw [wp_b2, wp_some]
    dsimp only
    rw [hF'.1, every_n _ h7, if_neg (fun e => absurd ((ltN (by omega) (by omega)).mp e) (by omega)), aHush]
    have e45 : wp (fX12_hush k 45 S (N l) b (N s)) (fun q => keepM S0 q.1 ∧ q.2 = if aTurn F A l s = true then aHush F A l m (s + 1) (N s) else aHush F A l m (s + 1) b) := by
      obtain ⟨k, rfl, hk2⟩ := kS (m := 3 * m + 2) hk'
      rw [fX12_hush]
      simp only [if_true]
      rw [if_neg (by decide)]
      simp only [bX12_hush_45]
      rw [wp_b1]
      refine wp_mono (mTake hF' hA' okA.1) ?_
      rintro S1 ⟨q1, q2⟩
      have e1 : sR S1 216 1 = wSt A := q2.2.1
      rw [wp_lt, e1]
      have u := mSet (s := wSt A ^^^ N s) q2
      have as2 := mAs_216 q1 u.1
      rw [wp_b2]
      refine wp_mono (mTold as2.2.1 ok u.2 (okSet okA) (by omega)) ?_
      rintro ⟨S3, y⟩ ⟨t1, -, t3, -⟩
      dsimp only at t1 t3 ⊢
      have as3 := mAs_ps as2 t1
      obtain ⟨k, rfl, hk3⟩ := kS (m := 3 * m + 1) hk2
      have e78 : ∀ b', (b' = -1 ∨ ∃ v, v < 128 ∧ b' = N v) → wp (fX12_hush (k + 1) 78 S3 (N l) b' (N s)) (fun q => keepM S0 q.1 ∧ q.2 = aHush F A l m (s + 1) b') := by
        intro b' hb'
        rw [fX12_hush]
        simp only [if_true]
        rw [if_neg (by decide), if_neg (by decide)]
        simp only [bX12_hush_78]
        rw [wp_b1]
        refine wp_mono (mBack as3) ?_
        rintro T ⟨u1, -⟩
        rw [addN1]
        exact ih (s + 1) k T b' (by omega) (by omega) (keep_tr hS u1) hb'
      rw [wp_ite, t3]
      rw [show aTurn F A l s = decide (wLa (aT F (aSet A (wSt A ^^^ N s))) = N l) from rfl]
      refine ⟨fun e => ?_, fun e => ?_⟩
      · rw [if_pos (decide_eq_true e)]
        exact e78 (N s) (Or.inr ⟨s, by omega, rfl⟩)
      · rw [if_neg (fun h => e (of_decide_eq_true h))]
        exact e78 b hb
    rcases hb with rfl | ⟨v, v1, rfl⟩
    · rw [if_pos (show (-1 : Int32) < 0 by decide), if_neg (fun hh => hh.1 rfl)]
      exact e45
    · rw [if_neg (nN_lt0 (by omega)), mBits, wp_b2, wp_some]
      dsimp only
      rw [mBits, wp_b2, wp_some]
      dsimp only
      rw [wp_ite, addN1]
      have hcond : (pc (N s) 10 < pc (N v) 10) ↔ ¬ (¬ N v = -1 ∧ pc (N v) 10 ≤ pc (N s) 10) := by
        rw [ilt, ile]
        have := N_ne_m1 (a := v) (by omega)
        constructor
        · intro a b; omega
        · intro a
          by_cases e : (pc (N v) 10).toInt ≤ (pc (N s) 10).toInt
          · exact absurd ⟨this, e⟩ a
          · omega
      refine ⟨fun e => ?_, fun e => ?_⟩
      · rw [if_neg (hcond.mp e)]; exact e45
      · rw [if_pos (Classical.not_not.mp (fun hh => e (hcond.mpr hh)))]
        exact ih (s + 1) k S (N v) (by omega) (by omega) hS (Or.inr ⟨v, v1, rfl⟩)
theorem op_hush {c : Nat} (hc : c ≤ 1000) : Ob_hush (Good c) (Good (c + 1)) := by
  intro S p0 hG
  refine ask (FX := fun S => FX11_hush S p0) (FM := fun S => FX12_hush S p0) hG ?_
  intro f d w F mn ln A D W E p n t ch g
  obtain ⟨hh, hA, okA⟩ := GO_hX g
  have h7 := hh.2.2.1
  have hp := p2_b _ h7
  by_cases b0 : inr 0 (fL F) p0
  · have b0' := b0
    obtain ⟨l, -, k1, k2, rfl⟩ := b0
    refine ⟨aHush F A l (2 ^ fN F) 0 (-1), ?_, fun S1 g1 => ?_⟩
    · unfold FX11_hush
      rw [wp_b2]
      refine xgL hh (fun _ => ?_) (fun e => absurd b0' e)
      rw [if_pos rfl, hh.1, fbF hh.2.1.1, if_pos rfl, hh.2.1.2.1, shl_n _ h7]
      have := xHush (l := l) hh hA okA (by omega) hp.2 (2 ^ fN F) 0 FU S (-1) (by omega) (by unfold FU; omega) fr_rf (Or.inl rfl)
      rw [if_pos rfl] at this
      refine wp_mono this ?_
      rintro ⟨S3, x⟩ ⟨r1, r2⟩
      exact ⟨fr_mo r1 xTs, r2⟩
    · obtain ⟨hM, ok, rA, okA⟩ := GO_fM g1
      unfold FX12_hush
      rw [wp_lt, wp_b2]
      refine mgL (th_fMo hM) ok (fun _ => ?_) (fun e => absurd b0' e)
      rw [if_pos rfl]
      exact mHush (l := l) hM ok rA okA (by omega) (2 ^ fN F) 0 FU (uI S1 180 0 0) (-1) (by omega) (by unfold FU; omega) keep_th (Or.inl rfl)
  · refine ⟨-1, ?_, fun S1 g1 => ?_⟩
    · unfold FX11_hush
      rw [wp_b2]
      refine xgL hh (fun e => absurd e b0) (fun _ => ?_)
      rw [if_neg Bool.false_ne_true, wp_some]; exact ⟨fr_rf, rfl⟩
    · obtain ⟨hM, ok, rA, okA⟩ := GO_fM g1
      unfold FX12_hush
      rw [wp_lt, wp_b2]
      refine mgL (th_fMo hM) ok (fun e => absurd e b0) (fun _ => ?_)
      rw [if_neg Bool.false_ne_true, wp_some]; exact ⟨keep_th, rfl⟩
/-! who sounds in a rain -/
def aSB (F : aF) (A : aW) (v : Nat) : Int32 := aSo F (N v) A
def aAg (E : aE) (x : Int32) : Nat → Nat → Bool
  | 0, _ => true
  | m + 1, i => if aHas x (E.2.1 i) = E.2.2 i then aAg E x m (i + 1) else false
theorem xSIn {S : gS} {f : Nat} {F : aF} {A : aW} {c v : Nat} (h : hX S f F) (hA : rX S 49 A) (okA : okW F c A) : wp (FX11_soundingIn S (N v)) (fun q => fr xT S q.1 ∧ q.2 = aSB F A v) := by
  unfold FX11_soundingIn
  rw [wp_b1]
  refine wp_mono (xTake hA okA.1) ?_
  rintro S1 ⟨q1, q2⟩
  have hT := hX_T h q1
  rw [hT.1, fbF hT.2.1.1, if_pos rfl, wp_b2]
  refine wp_mono (xPass hT.2.1 hT.2.2 (Or.inr rfl) q2 okA.1) ?_
  rintro ⟨S2, y⟩ ⟨t1, t2, -⟩
  rw [wp_some]
  refine ⟨fr_tr q1 (fr_mo t1 ?_), t2.2.2.2.2.1⟩
  intro b hb
  rcases hT.2.1.1 with rfl | rfl <;> simp only [List.mem_cons, List.not_mem_nil, or_false] at hb ⊢ <;> omega
theorem xAgL {S : gS} {n : Nat} {E : aE} {x : Int32} (hE : eX S 46 E) (okE' : okE n E) (hn : n ≤ 7) : ∀ m i k, i + m = E.1 → 2 * m + 1 ≤ k → fX7_agreesWith k 2 S 46 x (N i) 0 = some (S, aAg E x m i) := by
  have h8 := okE'.1
  intro m
  induction m with
  | zero =>
    intro i k hi hk
    obtain ⟨k, rfl, -⟩ := kS (m := 0) hk
    rw [fX7_agreesWith]
    simp only [bX7_agreesWith_2, if_true]
    rw [hE.1, if_pos ((leN (by omega) (by omega)).mpr (by omega))]
    rfl
  | succ m ih =>
    intro i k hi hk
    obtain ⟨k, rfl, hk'⟩ := kS (m := 2 * m + 2) hk
    obtain ⟨k, rfl, hk2⟩ := kS (m := 2 * m + 1) hk'
    have ho := okE'.2 i (by omega)
    have e := hE.2 i (by omega)
    rw [fX7_agreesWith]
    simp only [bX7_agreesWith_2, if_true]
    rw [hE.1, if_neg (fun e => absurd ((leN (by omega) (by omega)).mp e) (by omega)), if_pos (vpN (by omega) (by omega)), clN (by omega), e.1, aAg]
    have e29 : ∀ b : Bool, fX7_agreesWith (k + 1) 29 S 46 x (N i) (g_b b) = some (S, if b = E.2.2 i then aAg E x m (i + 1) else false) := by
      intro b
      rw [fX7_agreesWith]
      simp only [if_true]
      rw [if_neg (by decide)]
      simp only [bX7_agreesWith_29]
      rw [if_pos (vpN (by omega) (by omega)), clN (by omega), e.2, addN1, ih (i + 1) k (by omega) (by omega)]
      cases b <;> cases E.2.2 i <;> rfl
    cases hh : aHas x (E.2.1 i) with
    | false => rw [if_pos (has_0.mpr hh)]; exact e29 false
    | true => rw [if_neg (fun h => by rw [has_0.mp h] at hh; cases hh)]; exact e29 true
theorem xAg {S : gS} {n : Nat} {E : aE} {x : Int32} (hE : eX S 46 E) (okE' : okE n E) (hn : n ≤ 7) : FX7_agreesWith S 46 x = some (S, aAg E x E.1 0) := by
  have h8 := okE'.1
  unfold FX7_agreesWith
  exact xAgL hE okE' hn E.1 0 FU (by omega) (by unfold FU; omega)
theorem mAgL {S : gS} {n v : Nat} {E : aE} {x : Int32} (hE : eM S 0 E) (okE' : okE n E) (hn : n ≤ 7) (hv : v < 10) (hx : sR S 224 v = x) : ∀ m i k, i + m = E.1 → m + 1 ≤ k → fX12_isAsSeen k 2 S (N v) (N i) = some (S, aAg E x m i) := by
  have h8 := okE'.1
  intro m
  induction m with
  | zero =>
    intro i k hi hk
    obtain ⟨k, rfl, -⟩ := kS (m := 0) hk
    rw [fX12_isAsSeen]
    simp only [bX12_isAsSeen_2, if_true]
    rw [hE.1, if_pos ((leN (by omega) (by omega)).mpr (by omega))]
    rfl
  | succ m ih =>
    intro i k hi hk
    obtain ⟨k, rfl, hk'⟩ := kS (m := m + 1) hk
    have ho := okE'.2 i (by omega)
    have e := hE.2 i (by omega)
    rw [show 8 * 0 + i = i by omega] at e
    rw [fX12_isAsSeen]
    simp only [bX12_isAsSeen_2, if_true]
    rw [hE.1, if_neg (fun e => absurd ((leN (by omega) (by omega)).mp e) (by omega)), if_pos (vpN (by omega) (by omega)), if_pos (vpN (by omega) (by omega)), clN (by omega), clN (by omega), hx, e.1, e.2, aAg, addN1, ih (i + 1) k (by omega) hk']
    cases hh : aHas x (E.2.1 i) with
    | false => rw [if_neg (fun h => by rw [(has_1 (by omega)).mp h] at hh; cases hh)]; cases E.2.2 i <;> rfl
    | true => rw [if_pos ((has_1 (by omega)).mpr hh)]; cases E.2.2 i <;> rfl
theorem mAg {S : gS} {n v : Nat} {E : aE} {x : Int32} (hE : eM S 0 E) (okE' : okE n E) (hn : n ≤ 7) (hv : v < 10) (hx : sR S 224 v = x) : FX12_isAsSeen S (N v) = some (S, aAg E x E.1 0) := by
  have h8 := okE'.1
  unfold FX12_isAsSeen
  exact mAgL hE okE' hn hv hx E.1 0 FU (by omega) (by unfold FU; omega)
def aSees (F : aF) (A : aW) (E : aE) (v : Nat) : Bool := aAg E (aSB F A v) E.1 0
/-- the rains by which all is so -/
def aRs (F : aF) (A : aW) (E : aE) : Nat → Int32
  | 0 => 0
  | k + 1 => if aSees F A E k = true then aRs F A E k ||| aBit k else aRs F A E k
theorem xRains {S0 : gS} {f : Nat} {F : aF} {A : aW} {E : aE} {c : Nat} (h : hX S0 f F) (hA : rX S0 49 A) (okA : okW F c A) (hE : eX S0 46 E) (oE : okE (fN F) E) : ∀ m i k S, i + m = 10 → m + 1 ≤ k → fr xT S0 S → wp (fX11_rains k 4 S (aRs F A E i) (N i)) (fun q => fr xT S0 q.1 ∧ q.2 = aRs F A E 10) := by
  have h7 := h.2.2.1
  intro m
  induction m with
  | zero =>
    intro i k S hi hk hS
    obtain ⟨k, rfl, -⟩ := kS (m := 0) hk
    rw [fX11_rains]
    simp only [bX11_rains_4, if_true]
    have : i = 10 := by omega
    subst this
    rw [if_pos (by decide), wp_some]
    exact ⟨hS, rfl⟩
  | succ m ih =>
    intro i k S hi hk hS
    obtain ⟨k, rfl, hk'⟩ := kS (m := m + 1) hk
    rw [fX11_rains]
    simp only [bX11_rains_4, if_true]
    rw [if_neg (show ¬ (10 : Int32) ≤ N i from fun c => absurd ((leN (a := 10) (by omega) (by omega)).mp c) (by omega)), wp_b2]
    refine wp_mono (xSIn (v := i) (hX_T h hS) (rX_T hA hS) okA) ?_
    rintro ⟨S1, y⟩ ⟨q1, q2⟩
    dsimp only at q1 q2 ⊢
    have hS1 := fr_tr hS q1
    have hE1 : eX S1 46 E := eX_fr hE hS1 (fun j hj => xTn (by omega))
    rw [q2, wp_b2, xAg hE1 oE h7, wp_some, addN1]
    dsimp only
    have := ih (i + 1) k S1 (by omega) hk' hS1
    rw [aRs] at this
    rw [wp_ite]
    refine ⟨fun e => ?_, fun e => ?_⟩
    · rw [show aSees F A E i = aAg E (aSB F A i) E.1 0 from rfl, if_pos e] at this; exact this
    · rw [show aSees F A E i = aAg E (aSB F A i) E.1 0 from rfl, if_neg e] at this; exact this
theorem mLaysS {S0 : gS} {F : aF} {A : aW} {c : Nat} (hF : fMo S0 F) (ok : okF F) (hA : rM S0 216 0 A) (okA : okW F c A) : ∀ m i k S, i + m = 10 → m + 1 ≤ k → mAs S0 S F → rM S 216 0 A → (∀ j, j < i → sR S 224 j = aSB F A j) → wp (fX12_laysSounds k 15 S (N i)) (fun T => fm mS S0 T ∧ (∀ j, j < 59 → sR T 218 j = sR S0 216 j) ∧ (∀ j, j < 59 → sR T 216 j = sR S 216 j ∨ sR T 216 j = sR S0 216 j) ∧ rM T 216 0 A ∧ (∀ j, j < 10 → sR T 224 j = aSB F A j)) := by
  intro m
  induction m with
  | zero =>
    intro i k S hi hk hS hR h224
    obtain ⟨k, rfl, -⟩ := kS (m := 0) hk
    rw [fX12_laysSounds]
    simp only [bX12_laysSounds_15, if_true]
    have : i = 10 := by omega
    subst this
    rw [if_pos (by decide), wp_some]
    exact ⟨hS.1, hS.2.2, fun j _ => Or.inl rfl, hR, h224⟩
  | succ m ih =>
    intro i k S hi hk hS hR h224
    obtain ⟨k, rfl, hk'⟩ := kS (m := m + 1) hk
    rw [fX12_laysSounds]
    simp only [bX12_laysSounds_15, if_true]
    rw [if_neg (show ¬ (10 : Int32) ≤ N i from fun c => absurd ((leN (a := 10) (by omega) (by omega)).mp c) (by omega)), wp_b2]
    refine wp_mono (mPass (r := N i) hS.2.1 ok hR okA.1) ?_
    rintro ⟨S1, y⟩ ⟨q1, q2, -⟩
    dsimp only at q1 q2 ⊢
    have as1 := mAs_ps hS q1
    have e2 : sR S1 216 2 = aSB F A i := q2.2.2.2.2.1
    rw [if_pos (vpN (by omega) (by omega)), clN (by omega), wp_lt, e2]
    have as2 : mAs S0 (uR S1 224 i (aSB F A i)) F := ⟨fm_tr as1.1 (fm_uR fm_rf (by simp)), fMo_fm as1.2.1 (L := [224]) (fm_uR fm_rf (by simp)) (fun b hb => by simp; omega), fun j hj => by rw [R_uR, if_neg (by omega)]; exact as1.2.2 j hj⟩
    rw [wp_b1]
    refine wp_mono (mBack as2) ?_
    rintro T ⟨u1, u2⟩
    rw [addN1]
    have hT : mAs S0 T F := ⟨u1.1, keep_fMo u1 hF, fun j hj => by rw [fmR u2 (by decide) (by decide)]; exact as2.2.2 j hj⟩
    refine wp_mono (ih (i + 1) k T (by omega) hk' hT (keep_rM u1 hA okA.1) (fun j hj => ?_)) ?_
    · rw [fmR u2 (by decide) (by decide), R_uR]
      by_cases e : j = i
      · subst e; rw [if_pos ⟨rfl, rfl⟩]
      · rw [if_neg (by omega), fmR q1 (by decide) (by decide)]; exact h224 j (by omega)
    · rintro T2 ⟨v1, v2, v3, v4, v5⟩
      refine ⟨v1, v2, fun j hj => Or.inr ?_, v4, v5⟩
      rcases v3 j hj with h | h
      · rw [h]; exact u1.2 j hj
      · exact h
theorem mLays0 {S : gS} {F : aF} {A : aW} {c : Nat} (hF : fMo S F) (ok : okF F) (hA : rM S 216 0 A) (okA : okW F c A) : wp (FX12_laysSounds S) (fun T => keepM S T ∧ (∀ j, j < 10 → sR T 224 j = aSB F A j)) := by
  unfold FX12_laysSounds
  rw [wp_b1]
  refine wp_mono (wp_and (mTake hF hA okA.1) (mCopy (S := S) (a0 := 216) (m0 := 59) (o0 := 0) (a2 := 218) (m2 := 59) (o2 := 0) (by omega) (by omega) (by omega) (by omega) (by omega) (by omega))) ?_
  rintro S1 ⟨⟨q1, q2⟩, q3, -⟩
  refine wp_mono (mLaysS hF ok hA okA 10 0 FU S1 (by omega) (by unfold FU; omega) q1 q2 (fun j hj => absurd hj (by omega))) ?_
  rintro T ⟨v1, v2, v3, v4, v5⟩
  refine ⟨⟨v1, fun j hj => ?_⟩, v5⟩
  rcases v3 j hj with h | h
  · rw [h, fmR q3 (by decide) (by decide)]
  · exact h
theorem mRains {S : gS} {F : aF} {A : aW} {E : aE} (hE : eM S 0 E) (oE : okE (fN F) E) (h7 : fN F ≤ 7) (h224 : ∀ j, j < 10 → sR S 224 j = aSB F A j) : ∀ m i k, i + m = 10 → m + 1 ≤ k → fX12_rains k 13 S (aRs F A E i) (N i) = some (S, aRs F A E 10) := by
  intro m
  induction m with
  | zero =>
    intro i k hi hk
    obtain ⟨k, rfl, -⟩ := kS (m := 0) hk
    rw [fX12_rains]
    simp only [bX12_rains_13, if_true]
    have : i = 10 := by omega
    subst this
    rw [if_pos (by decide)]
  | succ m ih =>
    intro i k hi hk
    obtain ⟨k, rfl, hk'⟩ := kS (m := m + 1) hk
    rw [fX12_rains]
    simp only [bX12_rains_13, if_true]
    rw [if_neg (show ¬ (10 : Int32) ≤ N i from fun c => absurd ((leN (a := 10) (by omega) (by omega)).mp c) (by omega)), mAg hE oE h7 (by omega) (h224 i (by omega))]
    simp only [g_b2]
    rw [addN1, Int32.or_zero]
    have := ih (i + 1) k (by omega) hk'
    rw [aRs, show aSees F A E i = aAg E (aSB F A i) E.1 0 from rfl] at this
    split
    · rename_i e; rw [if_pos e] at this; exact this
    · rename_i e; rw [if_neg e] at this; exact this
theorem GO_e {c : Nat} {S : gS} {f d w : Nat} {F : aF} {mn ln : Nat → List Nat} {A : aW} {D : aD} {W : aO} {E : aE} {p n t : Nat} {ch : Nat → Nat} (g : GO c S f d w F mn ln A D W E p n t ch) : eX S 46 E ∧ eM S 0 E ∧ okE (fN F) E := g.2.2.2.2.2.2.1
theorem eM_th {S : gS} {E : aE} {y : Int32} {j : Nat} (h : eM S j E) : eM (uI S 180 0 y) j E := h
theorem op_rains {c : Nat} : Ob_rains (Good c) (Good (c + 1)) := by
  intro S hG
  refine ask (FX := fun S => FX11_rains S) (FM := fun S => FX12_rains S) hG ?_
  intro f d w F mn ln A D W E p n t ch g
  obtain ⟨hh, hA, okA⟩ := GO_hX g
  obtain ⟨hE, -, oE⟩ := GO_e g
  refine ⟨aRs F A E 10, ?_, fun S1 g1 => ?_⟩
  · unfold FX11_rains
    refine wp_mono (xRains hh hA okA hE oE 10 0 FU S (by omega) (by unfold FU; omega) fr_rf) ?_
    rintro ⟨S3, x⟩ ⟨r1, r2⟩
    exact ⟨fr_mo r1 xTs, r2⟩
  · obtain ⟨hM, ok, rA, okA⟩ := GO_fM g1
    obtain ⟨-, hE2, -⟩ := GO_e g1
    unfold FX12_rains
    rw [wp_lt, wp_b1]
    refine wp_mono (mLays0 (th_fMo hM) ok (th_rM rA) okA) ?_
    rintro S2 ⟨q1, q2⟩
    have hE3 : eM S2 0 E := eM_f (S := uI S1 180 0 0) hE2 q1.1 (fun b hb => mSn (by omega))
    refine wp_eq (mRains hE3 oE ok.1 q2 10 0 FU (by omega) (by unfold FU; omega)) ?_
    exact ⟨keep_tr keep_th q1, rfl⟩
