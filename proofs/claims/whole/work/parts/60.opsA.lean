/-! questions of the minutes to come -/
theorem GO_hX {c : Nat} {S : gS} {f d w : Nat} {F : aF} {mn ln : Nat → List Nat} {A : aW} {D : aD} {W : aO} {E : aE} {p n t : Nat} {ch : Nat → Nat} (g : GO c S f d w F mn ln A D W E p n t ch) : hX S f F ∧ rX S 49 A ∧ okW F c A := ⟨⟨g.1.1, g.2.1.1, g.2.1.2.2⟩, g.2.2.2.1.1, g.2.2.2.1.2.2⟩
theorem GO_fM {c : Nat} {S : gS} {f d w : Nat} {F : aF} {mn ln : Nat → List Nat} {A : aW} {D : aD} {W : aO} {E : aE} {p n t : Nat} {ch : Nat → Nat} (g : GO c S f d w F mn ln A D W E p n t ch) : fMo S F ∧ okF F ∧ rM S 216 0 A ∧ okW F c A := ⟨g.2.1.2.1, g.2.1.2.2, g.2.2.2.1.2.1, g.2.2.2.1.2.2⟩
theorem th_fMo {S : gS} {F : aF} {x : Int32} (h : fMo S F) : fMo (uI S 180 0 x) F := fMo_fm h (L := []) (fm_uI fm_rf (by omega) (by omega)) (fun b _ => by simp)
theorem th_rM {S : gS} {A : aW} {x : Int32} {b o : Nat} (h : rM S b o A) : rM (uI S 180 0 x) b o A := h
theorem ne60 {j : Nat} (h : j < 2147483648) : ((60 : Int32) < N j) ↔ 60 < j := ltN (a := 60) (by omega) h
theorem le60 {j : Nat} (h : j < 2147483648) : (N j ≤ (60 : Int32)) ↔ j ≤ 60 := leN (b := 60) h (by omega)
/-- the first of m from i on -/
def aSr (P : Nat → Bool) : Nat → Nat → Int32
  | 0, _ => -1
  | m + 1, i => if P i = true then N i else aSr P m (i + 1)
theorem xLater {S : gS} {f : Nat} {F : aF} {A : aW} {c mo n : Nat} (h : hX S f F) (okA : okW F c A) (hc : c ≤ 2000) (hm : mo < 7) (hn : n ≤ 60) : ∀ m j k S', j + m = n → m + 1 ≤ k → fr xT S S' → rX S' 53 (aIt F A j) → wp (fX11_later k 33 S' (N mo) (N n) (N j)) (fun q => fr xT S q.1 ∧ q.2 = wWa (aIt F A n) mo) := by
  intro m
  induction m with
  | zero =>
    intro j k S' hj hk hS hR
    obtain ⟨k, rfl, hk'⟩ := kS hk
    rw [fX11_later]
    simp only [bX11_later_33, if_true]
    have : j = n := by omega
    subst this
    rw [if_pos ((leN (by omega) (by omega)).mpr (by omega)), if_pos (vpN hm (by omega)), clN (by omega), wp_some]
    exact ⟨hS, hR.2.2.1 mo hm⟩
  | succ m ih =>
    intro j k S' hj hk hS hR
    obtain ⟨k, rfl, hk'⟩ := kS hk
    rw [fX11_later]
    simp only [bX11_later_33, if_true]
    rw [if_neg (fun e => absurd ((leN (by omega) (by omega)).mp e) (by omega)), wp_b2]
    refine wp_mono (xTrial (hX_T h hS) hR (okIt h.2.2 okA j) (by omega)) ?_
    rintro ⟨S1, x⟩ ⟨q1, q2, -⟩
    rw [addN1]
    exact ih (j + 1) k S1 (by omega) hk' (fr_tr hS q1) q2
theorem mLater {S : gS} {F : aF} {A : aW} {c mo n : Nat} (ok : okF F) (okA : okW F c A) (hc : c ≤ 2000) (hm : mo < 7) (hn : n ≤ 60) : ∀ m j k S', j + m = n → m + 1 ≤ k → mAs S S' F → rM S' 216 0 (aIt F A j) → wp (fX12_later k 40 S' (N mo) (N n) (N j)) (fun q => keepM S q.1 ∧ q.2 = wWa (aIt F A n) mo) := by
  intro m
  induction m with
  | zero =>
    intro j k S' hj hk hS hR
    obtain ⟨k, rfl, hk'⟩ := kS hk
    rw [fX12_later]
    simp only [bX12_later_40, if_true]
    have : j = n := by omega
    subst this
    rw [if_pos ((leN (by omega) (by omega)).mpr (by omega)), pl5, if_pos (vpN (by omega) (by omega)), clN (by omega), wp_b1]
    refine wp_mono (mBack hS) ?_
    rintro T ⟨q1, q2⟩
    rw [wp_some]
    have := hR.2.2.1 mo hm
    rw [Nat.zero_add] at this
    exact ⟨q1, this⟩
  | succ m ih =>
    intro j k S' hj hk hS hR
    obtain ⟨k, rfl, hk'⟩ := kS hk
    rw [fX12_later]
    simp only [bX12_later_40, if_true]
    rw [if_neg (fun e => absurd ((leN (by omega) (by omega)).mp e) (by omega)), wp_b2]
    refine wp_mono (mTold hS.2.1 ok hR (okIt ok okA j) (by omega)) ?_
    rintro ⟨S1, x⟩ ⟨q1, q2, -⟩
    rw [addN1]
    exact ih (j + 1) k S1 (by omega) hk' (mAs_ps hS q1) q2
theorem op_later {c : Nat} (hc : c ≤ 1000) : Ob_later (Good c) (Good (c + 1)) := by
  intro S p0 p1 hG
  refine ask (FX := fun S => FX11_later S p0 p1) (FM := fun S => FX12_later S p0 p1) hG ?_
  intro f d w F mn ln A D W E p n t ch g
  obtain ⟨hh, hA, okA⟩ := GO_hX g
  have h7 := hh.2.2.1
  by_cases b0 : inr 0 (fN F) p0
  · by_cases b1 : inr 0 61 p1
    · obtain ⟨mo, -, m1, m2, rfl⟩ := b0
      obtain ⟨k, -, k1, k2, rfl⟩ := b1
      refine ⟨wWa (aIt F A k) mo, ?_, fun S1 g1 => ?_⟩
      · unfold FX11_later
        rcases xIsMouth (i := N mo) hh.1 hh.2.1 hh.2.2 with ⟨-, e⟩ | ⟨e, -⟩
        · rw [e, wp_b2, wp_some, if_pos rfl, if_neg (nN_lt0 k2), if_pos ((le60 k2).mpr (by omega)), wp_b1]
          refine wp_mono (xTake hA okA.1) ?_
          rintro S2 ⟨q1, q2⟩
          refine wp_mono (xLater hh okA (by omega) (by omega) (by omega) k 0 FU S2 (by omega) (by unfold FU; omega) q1 q2) ?_
          rintro ⟨S3, x⟩ ⟨r1, r2⟩
          exact ⟨fr_mo r1 xTs, r2⟩
        · exact absurd ⟨mo, by omega, m1, m2, rfl⟩ e
      · obtain ⟨hM, ok, rA, okA⟩ := GO_fM g1
        unfold FX12_later
        rw [wp_lt, wp_b2]
        rcases mIsMouth (i := N mo) (th_fMo (x := 0) hM) ok with ⟨-, e⟩ | ⟨e, -⟩
        · rw [e, wp_some, if_pos rfl, wp_b2]
          rcases mWithin (S := uI S1 180 0 0) (i := N k) (a := 0) (b := 60) (by omega) (by omega) with ⟨-, e2⟩ | ⟨e2, -⟩
          · refine wp_eq e2 ?_
            rw [if_pos rfl, wp_b1]
            refine wp_mono (mTake (th_fMo hM) (th_rM rA) okA.1) ?_
            rintro S2 ⟨q1, q2⟩
            refine wp_mono (mLater ok okA (by omega) (by omega) (by omega) k 0 FU S2 (by omega) (by unfold FU; omega) q1 q2) ?_
            rintro ⟨S3, x⟩ ⟨r1, r2⟩
            exact ⟨keep_tr keep_th r1, r2⟩
          · exact absurd ⟨k, by omega, k1, k2, rfl⟩ e2
        · exact absurd ⟨mo, by omega, m1, m2, rfl⟩ e
    · refine ⟨-1, ?_, fun S1 g1 => ?_⟩
      · unfold FX11_later
        rcases xIsMouth (i := p0) hh.1 hh.2.1 hh.2.2 with ⟨-, e⟩ | ⟨e, -⟩
        · rw [e, wp_b2, wp_some, if_pos rfl]
          by_cases z : p1 < 0
          · rw [if_pos z, wp_some]; exact ⟨fr_rf, rfl⟩
          · rw [if_neg z]
            by_cases z2 : p1 ≤ 60
            · exfalso
              obtain ⟨k, k1, rfl⟩ := I_nn z
              exact b1 ⟨k, by omega, by have := (le60 k1).mp z2; omega, k1, rfl⟩
            · rw [if_neg z2, wp_some]; exact ⟨fr_rf, rfl⟩
        · exact absurd b0 e
      · obtain ⟨hM, ok, rA, okA⟩ := GO_fM g1
        unfold FX12_later
        rw [wp_lt, wp_b2]
        rcases mIsMouth (i := p0) (th_fMo (x := 0) hM) ok with ⟨-, e⟩ | ⟨e, -⟩
        · rw [e, wp_some, if_pos rfl, wp_b2]
          rcases mWithin (S := uI S1 180 0 0) (i := p1) (a := 0) (b := 60) (by omega) (by omega) with ⟨e2, -⟩ | ⟨-, e2⟩
          · exact absurd e2 b1
          · refine wp_eq e2 ?_
            rw [if_neg Bool.false_ne_true, wp_some]; exact ⟨keep_th, rfl⟩
        · exact absurd b0 e
  · refine ⟨-1, ?_, fun S1 g1 => ?_⟩
    · unfold FX11_later
      rcases xIsMouth (i := p0) hh.1 hh.2.1 hh.2.2 with ⟨e, -⟩ | ⟨-, e⟩
      · exact absurd e b0
      · rw [e, wp_b2, wp_some, if_neg Bool.false_ne_true, wp_some]; exact ⟨fr_rf, rfl⟩
    · obtain ⟨hM, ok, rA, okA⟩ := GO_fM g1
      unfold FX12_later
      rw [wp_lt, wp_b2]
      rcases mIsMouth (i := p0) (th_fMo (x := 0) hM) ok with ⟨e, -⟩ | ⟨-, e⟩
      · exact absurd e b0
      · rw [e, wp_some, if_neg Bool.false_ne_true, wp_some]; exact ⟨keep_th, rfl⟩
/-! guards -/
theorem xgM {S : gS} {f : Nat} {F : aF} {i : Int32} {Q : gS × Bool → Prop} (h : hX S f F) (ht : inr 0 (fN F) i → Q (S, true)) (hf : ¬ inr 0 (fN F) i → Q (S, false)) : wp (FX11_isMouth S i) Q := by
  rcases xIsMouth (i := i) h.1 h.2.1 h.2.2 with ⟨a, e⟩ | ⟨a, e⟩
  · exact wp_eq e (ht a)
  · exact wp_eq e (hf a)
theorem xgL {S : gS} {f : Nat} {F : aF} {i : Int32} {Q : gS × Bool → Prop} (h : hX S f F) (ht : inr 0 (fL F) i → Q (S, true)) (hf : ¬ inr 0 (fL F) i → Q (S, false)) : wp (FX11_isLetter S i) Q := by
  rcases xIsLetter (i := i) h.1 h.2.1 h.2.2 with ⟨a, e⟩ | ⟨a, e⟩
  · exact wp_eq e (ht a)
  · exact wp_eq e (hf a)
theorem xgA {S : gS} {i : Int32} {Q : gS × Bool → Prop} (ht : inr 1 61 i → Q (S, true)) (hf : ¬ inr 1 61 i → Q (S, false)) : wp (FX11_isAhead S i) Q := by
  rcases xAhead (S := S) (i := i) with ⟨a, e⟩ | ⟨a, e⟩
  · exact wp_eq e (ht a)
  · exact wp_eq e (hf a)
theorem mgM {S : gS} {F : aF} {i : Int32} {Q : gS × Bool → Prop} (h : fMo S F) (ok : okF F) (ht : inr 0 (fN F) i → Q (S, true)) (hf : ¬ inr 0 (fN F) i → Q (S, false)) : wp (FX12_isMouth S i) Q := by
  rcases mIsMouth (i := i) h ok with ⟨a, e⟩ | ⟨a, e⟩
  · exact wp_eq e (ht a)
  · exact wp_eq e (hf a)
theorem mgL {S : gS} {F : aF} {i : Int32} {Q : gS × Bool → Prop} (h : fMo S F) (ok : okF F) (ht : inr 0 (fL F) i → Q (S, true)) (hf : ¬ inr 0 (fL F) i → Q (S, false)) : wp (FX12_isLetter0 S i) Q := by
  rcases mIsLetter (i := i) h ok with ⟨a, e⟩ | ⟨a, e⟩
  · exact wp_eq e (ht a)
  · exact wp_eq e (hf a)
theorem mgW {S : gS} {i : Int32} {Q : gS × Bool → Prop} (a b : Nat) (ha : a < 2147483648) (hb : b < 2147483648) (ht : inr a (b + 1) i → Q (S, true)) (hf : ¬ inr a (b + 1) i → Q (S, false)) : wp (FX12_within S i (N a) (N b)) Q := by
  rcases mWithin (S := S) (i := i) ha hb with ⟨h, e⟩ | ⟨h, e⟩
  · exact wp_eq e (ht h)
  · exact wp_eq e (hf h)
theorem xReads {S : gS} {f : Nat} {F : aF} {A : aW} {c n : Nat} (h : hX S f F) (okA : okW F c A) (hc : c ≤ 2000) (hn : n ≤ 60) : ∀ m j k S', j + m = n → m + 1 ≤ k → fr xT S S' → rX S' 53 (aIt F A j) → wp (fX11_reads k 23 S' (N n) (N j)) (fun q => fr xT S q.1 ∧ q.2 = wLa (aIt F A n)) := by
  intro m
  induction m with
  | zero =>
    intro j k S' hj hk hS hR
    obtain ⟨k, rfl, hk'⟩ := kS hk
    rw [fX11_reads]
    simp only [bX11_reads_23, if_true]
    have : j = n := by omega
    subst this
    rw [if_pos ((leN (by omega) (by omega)).mpr (by omega)), wp_some]
    exact ⟨hS, hR.2.2.2.2.2.1⟩
  | succ m ih =>
    intro j k S' hj hk hS hR
    obtain ⟨k, rfl, hk'⟩ := kS hk
    rw [fX11_reads]
    simp only [bX11_reads_23, if_true]
    rw [if_neg (fun e => absurd ((leN (by omega) (by omega)).mp e) (by omega)), wp_b2]
    refine wp_mono (xTrial (hX_T h hS) hR (okIt h.2.2 okA j) (by omega)) ?_
    rintro ⟨S1, x⟩ ⟨q1, q2, -⟩
    rw [addN1]
    exact ih (j + 1) k S1 (by omega) hk' (fr_tr hS q1) q2
theorem mReads {S : gS} {F : aF} {A : aW} {c n : Nat} (ok : okF F) (okA : okW F c A) (hc : c ≤ 2000) (hn : n ≤ 60) : ∀ m j k S' y, j + m = n → m + 1 ≤ k → mAs S S' F → rM S' 216 0 (aIt F A j) → (0 < j → y = wLa (aIt F A j)) → (0 < n) → wp (fX12_reads k 35 S' (N n) y (N j)) (fun q => keepM S q.1 ∧ q.2 = wLa (aIt F A n)) := by
  intro m
  induction m with
  | zero =>
    intro j k S' y hj hk hS hR hy hp
    obtain ⟨k, rfl, hk'⟩ := kS hk
    rw [fX12_reads]
    simp only [bX12_reads_35, if_true]
    have : j = n := by omega
    subst this
    rw [if_pos ((leN (by omega) (by omega)).mpr (by omega)), wp_b1]
    refine wp_mono (mBack hS) ?_
    rintro T ⟨q1, q2⟩
    rw [wp_some]
    exact ⟨q1, hy hp⟩
  | succ m ih =>
    intro j k S' y hj hk hS hR hy hp
    obtain ⟨k, rfl, hk'⟩ := kS hk
    rw [fX12_reads]
    simp only [bX12_reads_35, if_true]
    rw [if_neg (fun e => absurd ((leN (by omega) (by omega)).mp e) (by omega)), wp_b2]
    refine wp_mono (mTold hS.2.1 ok hR (okIt ok okA j) (by omega)) ?_
    rintro ⟨S1, x⟩ ⟨q1, q2, q3, -⟩
    rw [addN1]
    exact ih (j + 1) k S1 x (by omega) hk' (mAs_ps hS q1) q2 (fun _ => q3) hp
theorem op_reads {c : Nat} (hc : c ≤ 1000) : Ob_reads (Good c) (Good (c + 1)) := by
  intro S p0 hG
  refine ask (FX := fun S => FX11_reads S p0) (FM := fun S => FX12_reads S p0) hG ?_
  intro f d w F mn ln A D W E p n t ch g
  obtain ⟨hh, hA, okA⟩ := GO_hX g
  by_cases b0 : inr 1 61 p0
  · have b0' := b0
    obtain ⟨k, k0, k1, k2, rfl⟩ := b0
    refine ⟨wLa (aIt F A k), ?_, fun S1 g1 => ?_⟩
    · unfold FX11_reads
      rw [wp_b2]
      refine xgA (fun _ => ?_) (fun e => absurd b0' e)
      rw [if_pos rfl, wp_b1]
      refine wp_mono (xTake hA okA.1) ?_
      rintro S2 ⟨q1, q2⟩
      refine wp_mono (xReads hh okA (by omega) (by omega) k 0 FU S2 (by omega) (by unfold FU; omega) q1 q2) ?_
      rintro ⟨S3, x⟩ ⟨r1, r2⟩
      exact ⟨fr_mo r1 xTs, r2⟩
    · obtain ⟨hM, ok, rA, okA⟩ := GO_fM g1
      unfold FX12_reads
      rw [wp_lt, wp_b2]
      refine mgW 1 60 (by omega) (by omega) (fun _ => ?_) (fun e => absurd b0' e)
      rw [if_pos rfl, wp_b1]
      refine wp_mono (mTake (th_fMo hM) (th_rM rA) okA.1) ?_
      rintro S2 ⟨q1, q2⟩
      refine wp_mono (mReads ok okA (by omega) (by omega) k 0 FU S2 _ (by omega) (by unfold FU; omega) q1 q2 (fun h => absurd h (by omega)) (by omega)) ?_
      rintro ⟨S3, x⟩ ⟨r1, r2⟩
      exact ⟨keep_tr keep_th r1, r2⟩
  · refine ⟨-2, ?_, fun S1 g1 => ?_⟩
    · unfold FX11_reads
      rw [wp_b2]
      refine xgA (fun e => absurd e b0) (fun _ => ?_)
      rw [if_neg Bool.false_ne_true, wp_some]; exact ⟨fr_rf, rfl⟩
    · unfold FX12_reads
      rw [wp_lt, wp_b2]
      refine mgW 1 60 (by omega) (by omega) (fun e => absurd e b0) (fun _ => ?_)
      rw [if_neg Bool.false_ne_true, wp_some]; exact ⟨keep_th, rfl⟩
/-- from minute i + 1 on -/
def aWhen (F : aF) (A : aW) (l : Nat) (i : Nat) : Bool := decide (wLa (aIt F A i) = N l)
theorem xWhen {S : gS} {f : Nat} {F : aF} {A : aW} {c l : Nat} (h : hX S f F) (okA : okW F c A) (hc : c ≤ 2000) : ∀ m j k S', j + m = 60 → m + 1 ≤ k → fr xT S S' → rX S' 53 (aIt F A j) → wp (fX11_when k 23 S' (N l) (N (j + 1))) (fun q => fr xT S q.1 ∧ q.2 = aSr (aWhen F A l) m (j + 1)) := by
  intro m
  induction m with
  | zero =>
    intro j k S' hj hk hS hR
    obtain ⟨k, rfl, hk'⟩ := kS hk
    rw [fX11_when]
    simp only [bX11_when_23, if_true]
    rw [if_pos ((ne60 (by omega)).mpr (by omega)), wp_some]
    exact ⟨hS, rfl⟩
  | succ m ih =>
    intro j k S' hj hk hS hR
    obtain ⟨k, rfl, hk'⟩ := kS hk
    rw [fX11_when]
    simp only [bX11_when_23, if_true]
    rw [if_neg (fun e => absurd ((ne60 (by omega)).mp e) (by omega)), wp_b2]
    refine wp_mono (xTrial (hX_T h hS) hR (okIt h.2.2 okA j) (by omega)) ?_
    rintro ⟨S1, x⟩ ⟨q1, q2, q3, -⟩
    have q3 : x = wLa (aIt F A (j + 1)) := q3
    dsimp only
    rw [wp_ite, wp_some, aSr, q3, addN1]
    unfold aWhen
    refine ⟨fun e => ?_, fun e => ?_⟩
    · rw [if_pos (decide_eq_true e)]; exact ⟨fr_tr hS q1, rfl⟩
    · rw [if_neg (fun h => e (of_decide_eq_true h))]
      exact ih (j + 1) k S1 (by omega) hk' (fr_tr hS q1) q2
theorem aSr_r {P : Nat → Bool} : ∀ m i, i + m < 2147483648 → aSr P m i = -1 ∨ ∃ j, i ≤ j ∧ j < i + m ∧ aSr P m i = N j := by
  intro m
  induction m with
  | zero => intro i _; exact Or.inl rfl
  | succ m ih =>
    intro i hi
    rw [aSr]
    split
    · exact Or.inr ⟨i, by omega, by omega, rfl⟩
    · rcases ih (i + 1) (by omega) with h | ⟨j, h1, h2, h3⟩
      · exact Or.inl h
      · exact Or.inr ⟨j, by omega, by omega, h3⟩
theorem mWhen50 {S S' : gS} {F : aF} {k j : Nat} (hk : 1 ≤ k) (hj : j < 2147483648) (hS : mAs S S' F) : wp (fX12_when k 50 S' 0 (N j)) (fun q => keepM S q.1 ∧ q.2 = if j ≤ 60 then N j else -1) := by
  obtain ⟨k, rfl, -⟩ := kS (m := 0) hk
  rw [fX12_when]
  simp only [if_true]
  rw [if_neg (by decide)]
  simp only [bX12_when_50]
  rw [wp_b1]
  refine wp_mono (mBack hS) ?_
  rintro T ⟨q1, q2⟩
  rw [wp_ite, wp_some, wp_some]
  refine ⟨fun e => ?_, fun e => ?_⟩
  · rw [if_pos ((le60 hj).mp e)]; exact ⟨q1, rfl⟩
  · rw [if_neg (fun h => e ((le60 hj).mpr h))]; exact ⟨q1, rfl⟩
theorem mWhen {S : gS} {F : aF} {A : aW} {c l : Nat} (ok : okF F) (okA : okW F c A) (hc : c ≤ 2000) : ∀ m j k S', j + m = 60 → m + 2 ≤ k → mAs S S' F → rM S' 216 0 (aIt F A j) → wp (fX12_when k 30 S' (N l) (N (j + 1))) (fun q => keepM S q.1 ∧ q.2 = aSr (aWhen F A l) m (j + 1)) := by
  intro m
  induction m with
  | zero =>
    intro j k S' hj hk hS hR
    obtain ⟨k, rfl, hk'⟩ := kS (m := 1) hk
    rw [fX12_when]
    simp only [bX12_when_30, if_true]
    rw [if_pos ((ne60 (by omega)).mpr (by omega))]
    refine wp_mono (mWhen50 (j := j + 1) (by omega) (by omega) hS) ?_
    rintro ⟨T, x⟩ ⟨q1, q2⟩
    rw [if_neg (by omega)] at q2
    exact ⟨q1, q2⟩
  | succ m ih =>
    intro j k S' hj hk hS hR
    obtain ⟨k, rfl, hk'⟩ := kS (m := m + 2) (by omega)
    rw [fX12_when]
    simp only [bX12_when_30, if_true]
    rw [if_neg (fun e => absurd ((ne60 (by omega)).mp e) (by omega)), wp_b2]
    refine wp_mono (mTold hS.2.1 ok hR (okIt ok okA j) (by omega)) ?_
    rintro ⟨S1, x⟩ ⟨q1, q2, q3, -⟩
    have q3 : x = wLa (aIt F A (j + 1)) := q3
    dsimp only
    rw [wp_ite, aSr, q3, addN1]
    unfold aWhen
    refine ⟨fun e => ?_, fun e => ?_⟩
    · rw [if_pos (decide_eq_true e)]
      refine wp_mono (mWhen50 (j := j + 1) (by omega) (by omega) (mAs_ps hS q1)) ?_
      rintro ⟨T, x⟩ ⟨r1, r2⟩
      rw [if_pos (by omega)] at r2
      exact ⟨r1, r2⟩
    · rw [if_neg (fun h => e (of_decide_eq_true h))]
      exact ih (j + 1) k S1 (by omega) hk' (mAs_ps hS q1) q2
theorem op_when {c : Nat} (hc : c ≤ 1000) : Ob_when (Good c) (Good (c + 1)) := by
  intro S p0 hG
  refine ask (FX := fun S => FX11_when S p0) (FM := fun S => FX12_when S p0) hG ?_
  intro f d w F mn ln A D W E p n t ch g
  obtain ⟨hh, hA, okA⟩ := GO_hX g
  by_cases b0 : inr 0 (fL F) p0
  · have b0' := b0
    obtain ⟨l, -, k1, k2, rfl⟩ := b0
    refine ⟨aSr (aWhen F A l) 60 1, ?_, fun S1 g1 => ?_⟩
    · unfold FX11_when
      rw [wp_b2]
      refine xgL hh (fun _ => ?_) (fun e => absurd b0' e)
      rw [if_pos rfl, wp_b1]
      refine wp_mono (xTake hA okA.1) ?_
      rintro S2 ⟨q1, q2⟩
      refine wp_mono (xWhen hh okA (by omega) 60 0 FU S2 (by omega) (by unfold FU; omega) q1 q2) ?_
      rintro ⟨S3, x⟩ ⟨r1, r2⟩
      exact ⟨fr_mo r1 xTs, r2⟩
    · obtain ⟨hM, ok, rA, okA⟩ := GO_fM g1
      unfold FX12_when
      rw [wp_lt, wp_b2]
      refine mgL (th_fMo hM) ok (fun _ => ?_) (fun e => absurd b0' e)
      rw [if_pos rfl, wp_b1]
      refine wp_mono (mTake (th_fMo hM) (th_rM rA) okA.1) ?_
      rintro S2 ⟨q1, q2⟩
      refine wp_mono (mWhen ok okA (by omega) 60 0 FU S2 (by omega) (by unfold FU; omega) q1 q2) ?_
      rintro ⟨S3, x⟩ ⟨r1, r2⟩
      exact ⟨keep_tr keep_th r1, r2⟩
  · refine ⟨-1, ?_, fun S1 g1 => ?_⟩
    · unfold FX11_when
      rw [wp_b2]
      refine xgL hh (fun e => absurd e b0) (fun _ => ?_)
      rw [if_neg Bool.false_ne_true, wp_some]; exact ⟨fr_rf, rfl⟩
    · obtain ⟨hM, ok, rA, okA⟩ := GO_fM g1
      unfold FX12_when
      rw [wp_lt, wp_b2]
      refine mgL (th_fMo hM) ok (fun e => absurd e b0) (fun _ => ?_)
      rw [if_neg Bool.false_ne_true, wp_some]; exact ⟨keep_th, rfl⟩
