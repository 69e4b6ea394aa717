/-! great, often, run -/
def aMx (r : Nat → Int32) : Nat → Nat → Int32 → Int32
  | 0, _, b => b
  | m + 1, i, b => if b = -1 then aMx r m (i + 1) (N i) else if r i ≤ r b.toNatClampNeg then aMx r m (i + 1) b else aMx r m (i + 1) (N i)
theorem aMx_r {r : Nat → Int32} : ∀ m i b, i + m < 2147483648 → (b = -1 ∨ ∃ j, j < i + m ∧ b = N j) → aMx r m i b = -1 ∨ ∃ j, j < i + m ∧ aMx r m i b = N j := by
  intro m
  induction m with
  | zero => intro i b _ hb; exact hb
  | succ m ih =>
    intro i b hi hb
    have e : i + (m + 1) = i + 1 + m := by omega
    rw [aMx, e]
    rw [e] at hb
    split
    · exact ih (i + 1) _ (by omega) (Or.inr ⟨i, by omega, rfl⟩)
    · split
      · exact ih (i + 1) _ (by omega) hb
      · exact ih (i + 1) _ (by omega) (Or.inr ⟨i, by omega, rfl⟩)
theorem xGreL {S : gS} {r : Nat → Int32} {n : Nat} (hn : n ≤ 7) (hr : ∀ j, j < n → sR S 179 j = r j) : ∀ m i k b, i + m = n → m + 1 ≤ k → (b = -1 ∨ ∃ j, j < i ∧ b = N j) → fX11_greatestOfRow k 4 S (N n) b (N i) = some (S, aMx r m i b) := by
  intro m
  induction m with
  | zero =>
    intro i k b hi hk _
    obtain ⟨k, rfl, -⟩ := kS (m := 0) hk
    rw [fX11_greatestOfRow]
    simp only [bX11_greatestOfRow_4, if_true]
    rw [if_pos ((leN (by omega) (by omega)).mpr (by omega))]
    rfl
  | succ m ih =>
    intro i k b hi hk hb
    obtain ⟨k, rfl, hk'⟩ := kS (m := m + 1) hk
    rw [fX11_greatestOfRow]
    simp only [bX11_greatestOfRow_4, if_true]
    rw [if_neg (fun e => absurd ((leN (by omega) (by omega)).mp e) (by omega)), if_neg (show ¬ (7 : Int32) ≤ N i from fun c => absurd ((leN (a := 7) (by omega) (by omega)).mp c) (by omega)), aMx, addN1]
    rcases hb with rfl | ⟨j, j1, rfl⟩
    · rw [if_pos rfl, if_pos rfl]
      exact ih (i + 1) k _ (by omega) hk' (Or.inr ⟨i, by omega, rfl⟩)
    · rw [if_neg (N_ne_m1 (by omega)), if_neg (N_ne_m1 (by omega)), if_pos (vpN (by omega) (by omega)), if_pos (vpN (by omega) (by omega)), clN (by omega), clN (by omega), hr i (by omega), hr j (by omega), ih (i + 1) k _ (by omega) hk' (Or.inr ⟨j, by omega, rfl⟩), ih (i + 1) k _ (by omega) hk' (Or.inr ⟨i, by omega, rfl⟩)]
      exact some_ite
theorem xGre {S : gS} {r : Nat → Int32} {n : Nat} (hn : n ≤ 7) (hr : ∀ j, j < n → sR S 179 j = r j) : FX11_greatestOfRow S (N n) = some (S, aMx r n 0 (-1)) := by
  unfold FX11_greatestOfRow
  exact xGreL hn hr n 0 FU _ (by omega) (by unfold FU; omega) (Or.inl rfl)
def aFl (F : aF) (A : aW) (m : Nat) : Nat → Int32
  | 0 => 0
  | k + 1 => aFl F A m k + wFl (aIt F A (k + 1)) m
theorem xGr48 {S0 : gS} {f : Nat} {F : aF} {fl r0 : Nat → Int32} {n t K : Nat} {Q : gS × Int32 → Prop} (h : hX S0 f F) (ht : t < 1000) (hf : ∀ j, j < 7 → sR S0 55 j = fl j)
    (hc : ∀ k S, K ≤ k → fr [179] S0 S → (∀ j, j < fN F → sR S 179 j = r0 j + fl j) → wp (fX11_great k 36 S (N n) (N (t + 1)) 0) Q) : ∀ m i k S, i + m = fN F → K + m + 1 ≤ k → fr [179] S0 S → (∀ j, j < fN F → sR S 179 j = if j < i then r0 j + fl j else r0 j) → wp (fX11_great k 48 S (N n) (N t) (N i)) Q := by
  have h7 := h.2.2.1
  have n9 : ∀ b, b ≠ 179 → b ∉ [179] := by intro b h hb; simp at hb; omega
  intro m
  induction m with
  | zero =>
    intro i k S hi hk hS hr
    obtain ⟨k, rfl, hk'⟩ := kS (m := K) hk
    have hT := hX_S h (fr_mo hS xSn179)
    rw [fX11_great]
    simp only [if_true]
    rw [if_neg (by decide)]
    simp only [bX11_great_48]
    rw [hT.1, fbF hT.2.1.1, if_pos rfl, hT.2.1.2.1, if_pos ((leN (by omega) (by omega)).mpr (by omega)), addN1]
    exact hc k S hk' hS (fun j hj => by rw [hr j hj, if_pos (by omega)])
  | succ m ih =>
    intro i k S hi hk hS hr
    obtain ⟨k, rfl, hk'⟩ := kS (m := K + m + 1) hk
    have hT := hX_S h (fr_mo hS xSn179)
    rw [fX11_great]
    simp only [if_true]
    rw [if_neg (by decide)]
    simp only [bX11_great_48]
    rw [hT.1, fbF hT.2.1.1, if_pos rfl, hT.2.1.2.1, if_neg (fun e => absurd ((leN (by omega) (by omega)).mp e) (by omega)), if_pos (vpN (by omega) (by omega)), clN (by omega), wp_lt, addN1]
    have e55 : sR S (53 + 2) i = fl i := by rw [frR hS (n9 _ (by omega))]; exact hf i (by omega)
    rw [e55]
    refine ih (i + 1) k _ (by omega) hk' (fr_uR hS (by simp)) (fun j hj => ?_)
    rw [R_uR]
    by_cases e : j = i
    · subst e
      rw [if_pos ⟨rfl, rfl⟩, hr j hj, if_neg (by omega), if_pos (by omega)]
    · rw [if_neg (by omega), hr j hj]
      by_cases e2 : j < i
      · rw [if_pos e2, if_pos (by omega)]
      · rw [if_neg e2, if_neg (by omega)]
theorem xGr36 {S0 : gS} {f : Nat} {F : aF} {A : aW} {c n : Nat} (h : hX S0 f F) (okA : okW F c A) (hc : c ≤ 2000) (hn : n ≤ 60) : ∀ m i k S, i + m = n → 20 * m + 1 ≤ k → fr xS S0 S → rX S 53 (aIt F A i) → (∀ j, j < fN F → sR S 179 j = aFl F A j i) → wp (fX11_great k 36 S (N n) (N i) 0) (fun q => fr xS S0 q.1 ∧ q.2 = aMx (fun j => aFl F A j n) (fN F) 0 (-1)) := by
  have h7 := h.2.2.1
  intro m
  induction m with
  | zero =>
    intro i k S hi hk hS hR hr
    obtain ⟨k, rfl, -⟩ := kS (m := 0) hk
    have hT := hX_S h hS
    rw [fX11_great]
    simp only [bX11_great_36, if_true]
    have : i = n := by omega
    subst this
    rw [if_pos ((leN (by omega) (by omega)).mpr (by omega)), hT.1, fbF hT.2.1.1, if_pos rfl, hT.2.1.2.1, xGre h7 hr, wp_b2, wp_some, wp_some]
    exact ⟨hS, rfl⟩
  | succ m ih =>
    intro i k S hi hk hS hR hr
    obtain ⟨k, rfl, hk'⟩ := kS (m := 20 * m + 20) (by omega)
    have hT := hX_S h hS
    rw [fX11_great]
    simp only [bX11_great_36, if_true]
    rw [if_neg (fun e => absurd ((leN (by omega) (by omega)).mp e) (by omega)), wp_b2]
    refine wp_mono (xTrial hT hR (okIt h.2.2 okA i) (by omega)) ?_
    rintro ⟨S1, x⟩ ⟨q1, q2, -⟩
    dsimp only at q1 q2 ⊢
    have hS1 := fr_tr hS (fr_mo q1 xTs)
    have r1 : sR S1 179 = sR S 179 := frR q1 (by decide)
    refine xGr48 (S0 := S1) (t := i) (n := n) (K := 20 * m + 1) (fl := wFl (aIt F A (i + 1))) (r0 := fun j => aFl F A j i) (hX_S h hS1) (by omega) q2.2.2.2.1 ?_ (fN F) 0 k S1 (by omega) (by omega) fr_rf (fun j hj => by rw [if_neg (by omega), r1]; exact hr j hj)
    intro k' S2 hk2 t1 t2
    exact ih (i + 1) k' S2 (by omega) (by omega) (fr_tr hS1 (fr_mo t1 xSn179)) (rX_fr q2 t1 (fun j hj => by simp; omega)) t2
theorem mGr32 {S0 : gS} {n : Int32} {K : Nat} {Q : gS × Int32 → Prop} (hc : ∀ k S, K ≤ k → fm [223] S0 S → (∀ j, j < 7 → sR S 223 j = 0) → wp (fX12_great k 53 S n 0 0) Q) : ∀ m i k S, i + m = 7 → K + m + 1 ≤ k → fm [223] S0 S → (∀ j, j < i → sR S 223 j = 0) → wp (fX12_great k 32 S n (N i) 0) Q := by
  intro m
  induction m with
  | zero =>
    intro i k S hi hk hS hr
    obtain ⟨k, rfl, hk'⟩ := kS (m := K) hk
    rw [fX12_great]
    simp only [bX12_great_32, if_true]
    have : i = 7 := by omega
    subst this
    rw [if_pos (by decide)]
    exact hc k S hk' hS hr
  | succ m ih =>
    intro i k S hi hk hS hr
    obtain ⟨k, rfl, hk'⟩ := kS (m := K + m + 1) hk
    rw [fX12_great]
    simp only [bX12_great_32, if_true]
    rw [if_neg (show ¬ (7 : Int32) ≤ N i from fun c => absurd ((leN (a := 7) (by omega) (by omega)).mp c) (by omega)), if_pos (vpN (by omega) (by omega)), clN (by omega), wp_lt, addN1]
    refine ih (i + 1) k _ (by omega) hk' (fm_uR hS (by simp)) (fun j hj => ?_)
    rw [R_uR]
    split
    · rfl
    · rename_i e; exact hr j (by omega)
theorem mGr65 {S0 : gS} {F : aF} {fl r0 : Nat → Int32} {n t K : Nat} {Q : gS × Int32 → Prop} (hF : fMo S0 F) (ok : okF F) (ht : t < 1000) (hf : ∀ j, j < 7 → sR S0 216 (12 + j) = fl j)
    (hc : ∀ k S, K ≤ k → fm [223] S0 S → (∀ j, j < fN F → sR S 223 j = r0 j + fl j) → wp (fX12_great k 53 S (N n) (N (t + 1)) 0) Q) : ∀ m i k S, i + m = fN F → K + m + 1 ≤ k → fm [223] S0 S → (∀ j, j < fN F → sR S 223 j = if j < i then r0 j + fl j else r0 j) → wp (fX12_great k 65 S (N n) (N t) (N i)) Q := by
  have h7 := ok.1
  have n9 : ∀ b, b ≠ 223 → b ∉ [223] := by intro b h hb; simp at hb; omega
  intro m
  induction m with
  | zero =>
    intro i k S hi hk hS hr
    obtain ⟨k, rfl, hk'⟩ := kS (m := K) hk
    have hF' := fMo_fm hF hS (fun b hb => n9 b (by omega))
    rw [fX12_great]
    simp only [if_true]
    rw [if_neg (by decide), if_neg (by decide)]
    simp only [bX12_great_65]
    rw [hF'.1, if_pos ((leN (by omega) (by omega)).mpr (by omega)), addN1]
    exact hc k S hk' hS (fun j hj => by rw [hr j hj, if_pos (by omega)])
  | succ m ih =>
    intro i k S hi hk hS hr
    obtain ⟨k, rfl, hk'⟩ := kS (m := K + m + 1) hk
    have hF' := fMo_fm hF hS (fun b hb => n9 b (by omega))
    rw [fX12_great]
    simp only [if_true]
    rw [if_neg (by decide), if_neg (by decide)]
    simp only [bX12_great_65]
    rw [hF'.1, if_neg (fun e => absurd ((leN (by omega) (by omega)).mp e) (by omega)), if_pos (vpN (by omega) (by omega)), pl12, if_pos (vpN (by omega) (by omega)), clN (by omega), clN (by omega), wp_lt, addN1]
    have e55 : sR S 216 (12 + i) = fl i := by rw [fmR hS (n9 _ (by omega)) (by omega)]; exact hf i (by omega)
    rw [e55]
    refine ih (i + 1) k _ (by omega) hk' (fm_uR hS (by simp)) (fun j hj => ?_)
    rw [R_uR]
    by_cases e : j = i
    · subst e
      rw [if_pos ⟨rfl, rfl⟩, hr j hj, if_neg (by omega), if_pos (by omega)]
    · rw [if_neg (by omega), hr j hj]
      by_cases e2 : j < i
      · rw [if_pos e2, if_pos (by omega)]
      · rw [if_neg e2, if_neg (by omega)]
theorem mGr122 {S : gS} {F : aF} {r : Nat → Int32} (hF : fMo S F) (ok : okF F) (hr : ∀ j, j < fN F → sR S 223 j = r j) : ∀ m i k b, i + m = fN F → m + 1 ≤ k → (b = -1 ∨ ∃ j, j < i ∧ b = N j) → fX12_great k 122 S 0 b (N i) = some (S, aMx r m i b) := by
  have h7 := ok.1
  intro m
  induction m with
  | zero =>
    intro i k b hi hk _
    obtain ⟨k, rfl, -⟩ := kS (m := 0) hk
    rw [fX12_great]
    simp only [if_true]
    rw [if_neg (by decide), if_neg (by decide), if_neg (by decide)]
    simp only [bX12_great_122]
    rw [hF.1, if_pos ((leN (by omega) (by omega)).mpr (by omega))]
    rfl
  | succ m ih =>
    intro i k b hi hk hb
    obtain ⟨k, rfl, hk'⟩ := kS (m := m + 1) hk
    rw [fX12_great]
    simp only [if_true]
    rw [if_neg (by decide), if_neg (by decide), if_neg (by decide)]
    simp only [bX12_great_122]
    rw [hF.1, if_neg (fun e => absurd ((leN (by omega) (by omega)).mp e) (by omega)), aMx, addN1]
    rcases hb with rfl | ⟨j, j1, rfl⟩
    · rw [if_pos (by decide), if_pos rfl]
      exact ih (i + 1) k _ (by omega) hk' (Or.inr ⟨i, by omega, rfl⟩)
    · rw [if_neg (nN_lt0 (by omega)), if_neg (N_ne_m1 (by omega)), if_pos (vpN (by omega) (by omega)), if_pos (vpN (by omega) (by omega)), clN (by omega), clN (by omega), hr i (by omega), hr j (by omega), ih (i + 1) k _ (by omega) hk' (Or.inr ⟨j, by omega, rfl⟩), ih (i + 1) k _ (by omega) hk' (Or.inr ⟨i, by omega, rfl⟩)]
      exact some_ite
theorem n223 {b : Nat} (h : b ≠ 223) : b ∉ [223] := by intro hb; simp at hb; omega
theorem mAs_223 {S0 S S' : gS} {F : aF} (h : mAs S0 S F) (hS : fm [223] S S') : mAs S0 S' F :=
  ⟨fm_tr h.1 (fm_mo hS (by decide)), fMo_fm h.2.1 hS (fun b hb => n223 (by omega)), fun j hj => by rw [fmR hS (by decide) (by decide)]; exact h.2.2 j hj⟩
theorem mGr53 {S0 : gS} {F : aF} {A : aW} {c n : Nat} (ok : okF F) (okA : okW F c A) (hc : c ≤ 2000) (hn : n ≤ 60) : ∀ m i k S, i + m = n → 20 * m + 20 ≤ k → mAs S0 S F → rM S 216 0 (aIt F A i) → (∀ j, j < fN F → sR S 223 j = aFl F A j i) → wp (fX12_great k 53 S (N n) (N i) 0) (fun q => keepM S0 q.1 ∧ q.2 = aMx (fun j => aFl F A j n) (fN F) 0 (-1)) := by
  have h7 := ok.1
  intro m
  induction m with
  | zero =>
    intro i k S hi hk hS hR hr
    obtain ⟨k, rfl, hk'⟩ := kS (m := 19) hk
    rw [fX12_great]
    simp only [if_true]
    rw [if_neg (by decide)]
    simp only [bX12_great_53]
    have : i = n := by omega
    subst this
    rw [if_pos ((leN (by omega) (by omega)).mpr (by omega)), wp_b1]
    refine wp_mono (mBack hS) ?_
    rintro T ⟨u1, u2⟩
    refine wp_eq (mGr122 (r := fun j => aFl F A j i) (fMo_fm hS.2.1 u2 (fun b hb => P1n hb)) ok (fun j hj => by rw [fmR u2 (by decide) (by decide)]; exact hr j hj) (fN F) 0 k (-1) (by omega) (by omega) (Or.inl rfl)) ?_
    exact ⟨u1, rfl⟩
  | succ m ih =>
    intro i k S hi hk hS hR hr
    obtain ⟨k, rfl, hk'⟩ := kS (m := 20 * m + 39) (by omega)
    rw [fX12_great]
    simp only [if_true]
    rw [if_neg (by decide)]
    simp only [bX12_great_53]
    rw [if_neg (fun e => absurd ((leN (by omega) (by omega)).mp e) (by omega)), wp_b2]
    refine wp_mono (mTold hS.2.1 ok hR (okIt ok okA i) (by omega)) ?_
    rintro ⟨S1, x⟩ ⟨q1, q2, -⟩
    dsimp only at q1 q2 ⊢
    have as1 := mAs_ps hS q1
    refine mGr65 (S0 := S1) (t := i) (n := n) (K := 20 * m + 20) (fl := wFl (aIt F A (i + 1))) (r0 := fun j => aFl F A j i) as1.2.1 ok (by omega) (fun j hj => by have := q2.2.2.2.1 j hj; rw [Nat.zero_add] at this; exact this) ?_ (fN F) 0 k S1 (by omega) (by omega) fm_rf (fun j hj => by rw [if_neg (by omega), fmR q1 (by decide) (by decide)]; exact hr j hj)
    intro k' S2 hk2 t1 t2
    exact ih (i + 1) k' S2 (by omega) (by omega) (mAs_223 as1 t1) (rM_x q2 (fmR t1 (by decide) (by decide))) t2
theorem op_great {c : Nat} (hc : c ≤ 1000) : Ob_great (Good c) (Good (c + 1)) := by
  intro S p0 hG
  refine ask (FX := fun S => FX11_great S p0) (FM := fun S => FX12_great S p0) hG ?_
  intro f d w F mn ln A D W E p n t ch g
  obtain ⟨hh, hA, okA⟩ := GO_hX g
  have h7 := hh.2.2.1
  by_cases b0 : inr 1 61 p0
  · have b0' := b0
    obtain ⟨k, k0, k1, k2, rfl⟩ := b0
    refine ⟨aMx (fun j => aFl F A j k) (fN F) 0 (-1), ?_, fun S1 g1 => ?_⟩
    · unfold FX11_great
      rw [wp_b2]
      refine xgA (fun _ => ?_) (fun e => absurd b0' e)
      rw [if_pos rfl, hh.1, fbF hh.2.1.1, if_pos rfl, hh.2.1.2.1]
      by_cases e : fN F = 0
      · rw [if_pos ((eq0N (by omega)).mpr e), wp_some, e]
        exact ⟨fr_rf, rfl⟩
      · rw [if_neg (fun c => e ((eq0N (by omega)).mp c)), wp_b1]
        refine wp_mono xEmpty ?_
        rintro S2 ⟨q1, q2⟩
        have hS2 := fr_mo q1 xSn179
        rw [wp_b1]
        refine wp_mono (xTake (rX_S hA hS2) okA.1) ?_
        rintro S3 ⟨r1, r2⟩
        refine xGr36 hh okA (by omega) (by omega) k 0 FU S3 (by omega) (by unfold FU; omega) (fr_tr hS2 (fr_mo r1 xTs)) r2 (fun j hj => ?_)
        rw [frR r1 (by decide)]; exact q2 j (by omega)
    · obtain ⟨hM, ok, rA, okA⟩ := GO_fM g1
      unfold FX12_great
      rw [wp_lt, wp_b2]
      refine mgW 1 60 (by omega) (by omega) (fun _ => ?_) (fun e => absurd b0' e)
      rw [if_pos rfl, wp_b1]
      refine wp_mono (mTake (th_fMo hM) (th_rM rA) okA.1) ?_
      rintro S2 ⟨q1, q2⟩
      refine mGr32 (S0 := S2) (K := 50000) ?_ 7 0 FU S2 (by omega) (by unfold FU; omega) fm_rf (fun j hj => absurd hj (by omega))
      intro k' S3 hk2 t1 t2
      refine wp_mono (mGr53 ok okA (by omega) (by omega) k 0 k' S3 (by omega) (by omega) (mAs_223 q1 t1) (rM_x q2 (fmR t1 (by decide) (by decide))) (fun j hj => t2 j (by omega))) ?_
      rintro ⟨S4, x⟩ ⟨r1, r2⟩
      exact ⟨keep_tr keep_th r1, r2⟩
  · refine ⟨-1, ?_, fun S1 g1 => ?_⟩
    · unfold FX11_great
      rw [wp_b2]
      refine xgA (fun e => absurd e b0) (fun _ => ?_)
      rw [if_neg Bool.false_ne_true, wp_some]; exact ⟨fr_rf, rfl⟩
    · unfold FX12_great
      rw [wp_lt, wp_b2]
      refine mgW 1 60 (by omega) (by omega) (fun e => absurd e b0) (fun _ => ?_)
      rw [if_neg Bool.false_ne_true, wp_some]; exact ⟨keep_th, rfl⟩
/-! often -/
def aCnt (A : aW) (l : Nat) : Int32 := aLike A (N l)
def aOf (A : aW) : Nat → Nat → Int32 → Int32 → Int32
  | 0, _, b, _ => b
  | m + 1, i, b, y => if y < aCnt A i then aOf A m (i + 1) (N i) (aCnt A i) else aOf A m (i + 1) b y
theorem xOf2 {S0 : gS} {f : Nat} {F : aF} {A : aW} {c K : Nat} {Q : gS × Int32 → Prop} (h : hX S0 f F) (hA : rX S0 49 A) (okA : okW F c A) (hc : ∀ k S, K ≤ k → fr xS S0 S → (∀ j, j < fL F → sR S 179 j = aCnt A j) → wp (bX11_often_2 (fX11_often k) S (N (fL F))) Q) : ∀ m i k S, i + m = fL F → K + m + 1 ≤ k → fr xS S0 S → (∀ j, j < i → sR S 179 j = aCnt A j) → wp (fX11_often k 2 S (N i)) Q := by
  have h6 := h.2.2.2.1
  intro m
  induction m with
  | zero =>
    intro i k S hi hk hS hr
    obtain ⟨k, rfl, hk'⟩ := kS (m := K) hk
    rw [fX11_often]
    simp only [if_true]
    have : i = fL F := by omega
    subst this
    exact hc k S hk' hS hr
  | succ m ih =>
    intro i k S hi hk hS hr
    obtain ⟨k, rfl, hk'⟩ := kS (m := K + m + 1) hk
    have hT := hX_S h hS
    rw [fX11_often]
    simp only [bX11_often_2, if_true]
    rw [hT.1, fbF hT.2.1.1, if_pos rfl, hT.2.1.2.2.2.1, if_neg (fun e => absurd ((leN (by omega) (by omega)).mp e) (by omega)), xLike (rX_S hA hS) okA.1, wp_b2, wp_some]
    dsimp only
    rw [if_pos (vpN (by omega) (by omega)), clN (by omega), wp_lt, addN1]
    refine ih (i + 1) k _ (by omega) hk' (fr_uR hS (by simp)) (fun j hj => ?_)
    rw [R_uR]
    by_cases e : j = i
    · subst e; rw [if_pos ⟨rfl, rfl⟩]; rfl
    · rw [if_neg (by omega)]; exact hr j (by omega)
theorem aCt_nn {P : Nat → Bool} : ∀ (m i : Nat) (x : Int32), 0 ≤ x.toInt → x.toInt + (m : Int) < 2147483648 → 0 ≤ (aCt P m i x).toInt := by
  intro m
  induction m with
  | zero => intro i x h _; exact h
  | succ m ih =>
    intro i x h1 h2
    rw [aCt]
    split
    · have e : (x + 1).toInt = x.toInt + 1 := ti_add (by rw [ti1]; omega) (by rw [ti1]; omega)
      exact ih (i + 1) _ (by omega) (by omega)
    · exact ih (i + 1) _ h1 (by omega)
theorem aCnt_nn {A : aW} {l : Nat} (hz : wSz A ≤ 40) : 0 ≤ (aCnt A l).toInt := by
  unfold aCnt aLike
  exact aCt_nn _ _ _ (by rw [ti0]; omega) (by rw [ti0]; omega)
/-- x's way and the model's -/
theorem aOf_eq {A : aW} (hz : wSz A ≤ 40) : ∀ m i j, j < i → i + m < 2147483648 → (let b := aMx (aCnt A) m i (N j); if aCnt A b.toNatClampNeg ≤ 0 then -1 else b) = (if aCnt A j ≤ 0 then aOf A m i (-1) 0 else aOf A m i (N j) (aCnt A j)) := by
  intro m
  induction m with
  | zero =>
    intro i j hj hi
    dsimp only
    rw [aMx, aOf, aOf, clN (by omega)]
  | succ m ih =>
    intro i j hj hi
    dsimp only
    rw [aMx, if_neg (N_ne_m1 (by omega)), clN (by omega), aOf, aOf]
    have nj := aCnt_nn (A := A) (l := j) hz
    have ni := aCnt_nn (A := A) (l := i) hz
    by_cases e : aCnt A i ≤ aCnt A j
    · rw [if_pos e]
      have := ih (i + 1) j (by omega) (by omega)
      dsimp only at this
      rw [this]
      by_cases e2 : aCnt A j ≤ 0
      · rw [if_pos e2, if_pos e2, if_neg (by rw [ile] at e e2; rw [ilt]; omega)]
      · rw [if_neg e2, if_neg e2, if_neg (by rw [ile] at e; rw [ilt]; omega)]
    · rw [if_neg e]
      have := ih (i + 1) i (by omega) (by omega)
      dsimp only at this
      rw [this, if_neg (show ¬ aCnt A i ≤ 0 by rw [ile] at e ⊢; rw [ti0]; omega)]
      by_cases e2 : aCnt A j ≤ 0
      · rw [if_pos e2, if_pos (by rw [ile] at e; rw [ilt, ti0]; omega)]
      · rw [if_neg e2, if_pos (by rw [ile] at e; rw [ilt]; omega)]
theorem mOf27 {S : gS} {A : aW} {i K : Nat} {b y : Int32} {Q : gS × Int32 → Prop} (hA : rM S 216 0 A) (hz : wSz A ≤ 40) (hi : i < 1000) (hc : ∀ k, K ≤ k → wp (if y < aCnt A i then fX12_often k 11 S (N i) (aCnt A i) (N (i + 1)) 0 0 else fX12_often k 11 S b y (N (i + 1)) 0 0) Q) : ∀ m j k x, j + m = wSz A → K + m + 1 ≤ k → aCnt A i = aCt (fun j => decide (wSl A j = N i)) m j x → wp (fX12_often k 27 S b y (N i) x (N j)) Q := by
  have h4 : sR S 216 4 = N (wSz A) := hA.2.2.2.2.2.2.1
  intro m
  induction m with
  | zero =>
    intro j k x hj hk he
    obtain ⟨k, rfl, hk'⟩ := kS (m := K) hk
    rw [fX12_often]
    simp only [if_true]
    rw [if_neg (by decide)]
    simp only [bX12_often_27]
    rw [h4, if_pos ((leN (by omega) (by omega)).mpr (by omega)), addN1]
    have := hc k hk'
    rw [he, aCt] at this
    exact this
  | succ m ih =>
    intro j k x hj hk he
    obtain ⟨k, rfl, hk'⟩ := kS (m := K + m + 1) hk
    have e19 := hA.2.2.2.2.2.2.2 j (by omega)
    rw [Nat.zero_add] at e19
    rw [fX12_often]
    simp only [if_true]
    rw [if_neg (by decide)]
    simp only [bX12_often_27]
    rw [h4, if_neg (fun e => absurd ((leN (by omega) (by omega)).mp e) (by omega)), pl19, if_pos (vpN (by omega) (by omega)), clN (by omega), e19, addN1, Int32.add_zero]
    rw [aCt] at he
    by_cases e : wSl A j = N i
    · rw [if_pos (decide_eq_true e)] at he
      rw [if_pos e]
      exact ih (j + 1) k _ (by omega) hk' he
    · rw [if_neg (by rw [decide_eq_false e]; exact Bool.false_ne_true)] at he
      rw [if_neg e]
      exact ih (j + 1) k _ (by omega) hk' he
theorem mOf11 {S : gS} {F : aF} {A : aW} (hF : fMo S F) (ok : okF F) (hA : rM S 216 0 A) (hz : wSz A ≤ 40) : ∀ m i k b y, i + m = fL F → 60 * m + 1 ≤ k → wp (fX12_often k 11 S b y (N i) 0 0) (fun q => q = (S, aOf A m i b y)) := by
  have h6 := ok.2.1
  intro m
  induction m with
  | zero =>
    intro i k b y hi hk
    obtain ⟨k, rfl, -⟩ := kS (m := 0) hk
    rw [fX12_often]
    simp only [bX12_often_11, if_true]
    rw [hF.2.1, if_pos ((leN (by omega) (by omega)).mpr (by omega)), wp_some]
    rfl
  | succ m ih =>
    intro i k b y hi hk
    obtain ⟨k, rfl, hk'⟩ := kS (m := 60 * m + 60) (by omega)
    rw [fX12_often]
    simp only [bX12_often_11, if_true]
    rw [hF.2.1, if_neg (fun e => absurd ((leN (by omega) (by omega)).mp e) (by omega))]
    refine mOf27 (K := 60 * m + 1) hA hz (by omega) ?_ (wSz A) 0 k 0 (by omega) (by omega) rfl
    intro k' hk2
    rw [wp_ite, aOf]
    refine ⟨fun e => ?_, fun e => ?_⟩
    · rw [if_pos e]; exact ih (i + 1) k' _ _ (by omega) hk2
    · rw [if_neg e]; exact ih (i + 1) k' _ _ (by omega) hk2
theorem op_often {c : Nat} : Ob_often (Good c) (Good (c + 1)) := by
  intro S hG
  refine ask (FX := fun S => FX11_often S) (FM := fun S => FX12_often S) hG ?_
  intro f d w F mn ln A D W E p n t ch g
  obtain ⟨hh, hA, okA⟩ := GO_hX g
  have h6 := hh.2.2.2.1
  have hz := okA.1
  refine ⟨aOf A (fL F) 0 (-1) 0, ?_, fun S1 g1 => ?_⟩
  · unfold FX11_often
    refine xOf2 (K := 10) hh hA okA ?_ (fL F) 0 FU S (by omega) (by unfold FU; omega) fr_rf (fun j hj => absurd hj (by omega))
    intro k S2 hk hS hr
    have hT := hX_S hh hS
    simp only [bX11_often_2]
    rw [hT.1, fbF hT.2.1.1, if_pos rfl, hT.2.1.2.2.2.1, if_pos ((leN (by omega) (by omega)).mpr (by omega)), if_pos rfl, xGre (by omega) hr, wp_b2, wp_some]
    dsimp only
    by_cases e0 : fL F = 0
    · rw [e0, aMx, if_pos rfl, wp_some]
      exact ⟨hS, rfl⟩
    · obtain ⟨q, hq⟩ : ∃ q, fL F = q + 1 := ⟨fL F - 1, by omega⟩
      have e1 : aMx (aCnt A) (fL F) 0 (-1) = aMx (aCnt A) q 1 (N 0) := by rw [hq, aMx, if_pos rfl]
      have key := aOf_eq (A := A) hz q 1 0 (by omega) (by omega)
      dsimp only at key
      have e2 : aOf A (fL F) 0 (-1) 0 = (if aCnt A 0 ≤ 0 then aOf A q 1 (-1) 0 else aOf A q 1 (N 0) (aCnt A 0)) := by
        rw [hq, aOf]
        by_cases e3 : aCnt A 0 ≤ 0
        · rw [if_pos e3, if_neg (fun h => lt_nle h e3)]
        · rw [if_neg e3, if_pos (by rw [ile] at e3; rw [ilt]; omega)]
      rw [e2, ← key, e1]
      rcases aMx_r (r := aCnt A) q 1 (N 0) (by omega) (Or.inr ⟨0, by omega, rfl⟩) with h | ⟨j, j1, j2⟩
      · exfalso
        have ne : ∀ m i b, i + m < 2147483648 → (∃ j, j < i + m ∧ b = N j) → aMx (aCnt A) m i b ≠ -1 := by
          intro m
          induction m with
          | zero => rintro i b hi ⟨j, j1, rfl⟩; exact N_ne_m1 (by omega)
          | succ m ih =>
            rintro i b hi ⟨j, j1, rfl⟩
            rw [aMx, if_neg (N_ne_m1 (by omega))]
            split
            · exact ih (i + 1) _ (by omega) ⟨j, by omega, rfl⟩
            · exact ih (i + 1) _ (by omega) ⟨i, by omega, rfl⟩
        exact ne q 1 (N 0) (by omega) ⟨0, by omega, rfl⟩ h
      · rw [j2, if_neg (N_ne_m1 (by omega)), if_pos (vpN (by omega) (by omega)), clN (by omega), hr j (by omega), wp_ite, wp_some, wp_some]
        refine ⟨fun e => ?_, fun e => ?_⟩
        · rw [if_pos e]; exact ⟨hS, rfl⟩
        · rw [if_neg e]; exact ⟨hS, rfl⟩
  · obtain ⟨hM, ok, rA, okA⟩ := GO_fM g1
    unfold FX12_often
    rw [wp_lt]
    refine wp_mono (mOf11 (th_fMo hM) ok (th_rM rA) okA.1 (fL F) 0 FU (-1) 0 (by omega) (by unfold FU; omega)) ?_
    rintro _ rfl
    exact ⟨keep_th, rfl⟩
/-! run -/
def aRun (sl : Nat → Int32) : Nat → Nat → Int32 → Int32 → Int32
  | 0, _, b, _ => b
  | m + 1, i, b, y => if 0 < i ∧ sl i = sl (i - 1) then (if sl i = 6 then aRun sl m (i + 1) b (y + 1) else aRun sl m (i + 1) (if b < y + 1 then y + 1 else b) (y + 1)) else (if sl i = 6 then aRun sl m (i + 1) b 1 else aRun sl m (i + 1) (if b < 1 then 1 else b) 1)
theorem xRunL {S : gS} {A : aW} (hA : rX S 49 A) (hz : wSz A ≤ 40) : ∀ m i k b y, i + m = wSz A → 3 * m + 1 ≤ k → fX11_run k 6 S b y (N i) 0 = some (S, aRun (wSl A) m i b y) := by
  have x9 := hA.2.2.2.2.2.2.1
  intro m
  induction m with
  | zero =>
    intro i k b y hi hk
    obtain ⟨k, rfl, -⟩ := kS (m := 0) hk
    rw [fX11_run]
    simp only [bX11_run_6, if_true]
    rw [x9, if_pos ((leN (by omega) (by omega)).mpr (by omega))]
    rfl
  | succ m ih =>
    intro i k b y hi hk
    obtain ⟨k, rfl, hk'⟩ := kS (m := 3 * m + 3) (by omega)
    obtain ⟨k, rfl, hk2⟩ := kS (m := 3 * m + 2) hk'
    obtain ⟨k, rfl, hk3⟩ := kS (m := 3 * m + 1) hk2
    have ei := hA.2.2.2.2.2.2.2 i (by omega)
    have e64 : ∀ y', fX11_run (k + 1) 64 S b y' (N i) 0 = some (S, if wSl A i = 6 then aRun (wSl A) m (i + 1) b y' else aRun (wSl A) m (i + 1) (if b < y' then y' else b) y') := by
      intro y'
      rw [fX11_run]
      simp only [if_true]
      rw [if_neg (by decide), if_neg (by decide)]
      simp only [bX11_run_64]
      rw [if_pos (vpN (by omega) (by omega)), clN (by omega), ei, addN1, ih (i + 1) k _ _ (by omega) (by omega), ih (i + 1) k _ _ (by omega) (by omega)]
      exact some_ite
    have e51 : ∀ z : Int32, fX11_run (k + 1 + 1) 51 S b y (N i) z = some (S, if z = 0 then (if wSl A i = 6 then aRun (wSl A) m (i + 1) b 1 else aRun (wSl A) m (i + 1) (if b < 1 then 1 else b) 1) else (if wSl A i = 6 then aRun (wSl A) m (i + 1) b (y + 1) else aRun (wSl A) m (i + 1) (if b < y + 1 then y + 1 else b) (y + 1))) := by
      intro z
      rw [fX11_run]
      simp only [if_true]
      rw [if_neg (by decide)]
      simp only [bX11_run_51]
      rw [e64, e64]
      exact some_ite
    rw [fX11_run]
    simp only [bX11_run_6, if_true]
    rw [x9, if_neg (fun e => absurd ((leN (by omega) (by omega)).mp e) (by omega)), aRun]
    by_cases e : i = 0
    · rw [if_pos ((le0N (by omega)).mpr e), e51 0, if_pos rfl, if_neg (show ¬ (0 < i ∧ wSl A i = wSl A (i - 1)) from fun h => absurd h.1 (by omega))]
    · rw [if_neg (fun c => e ((le0N (by omega)).mp c)), if_pos (vpN (by omega) (by omega)), show N i - (1 : Int32) = N (i - 1) from subN (b := 1) (by omega), if_pos (vpN (by omega) (by omega)), clN (by omega), clN (by omega), ei, hA.2.2.2.2.2.2.2 (i - 1) (by omega)]
      by_cases e2 : wSl A i = wSl A (i - 1)
      · rw [if_pos e2, e51 1, if_neg (by decide), if_pos (show 0 < i ∧ wSl A i = wSl A (i - 1) from ⟨by omega, e2⟩)]
      · rw [if_neg e2, e51 0, if_pos rfl, if_neg (show ¬ (0 < i ∧ wSl A i = wSl A (i - 1)) from fun h => e2 h.2)]
theorem mRunL {S : gS} {A : aW} (hA : rM S 216 0 A) (hz : wSz A ≤ 40) : ∀ m i k b y, i + m = wSz A → 3 * m + 1 ≤ k → fX12_run k 11 S b y (N i) = some (S, aRun (wSl A) m i b y) := by
  have x9 : sR S 216 4 = N (wSz A) := hA.2.2.2.2.2.2.1
  intro m
  induction m with
  | zero =>
    intro i k b y hi hk
    obtain ⟨k, rfl, -⟩ := kS (m := 0) hk
    rw [fX12_run]
    simp only [bX12_run_11, if_true]
    rw [x9, if_pos ((leN (by omega) (by omega)).mpr (by omega))]
    rfl
  | succ m ih =>
    intro i k b y hi hk
    obtain ⟨k, rfl, hk'⟩ := kS (m := 3 * m + 3) (by omega)
    obtain ⟨k, rfl, hk2⟩ := kS (m := 3 * m + 2) hk'
    have ei := hA.2.2.2.2.2.2.2 i (by omega)
    rw [Nat.zero_add] at ei
    have e56 : ∀ y', fX12_run (k + 1) 56 S b y' (N i) = some (S, if wSl A i = 6 then aRun (wSl A) m (i + 1) b y' else aRun (wSl A) m (i + 1) (if b < y' then y' else b) y') := by
      intro y'
      rw [fX12_run]
      simp only [if_true]
      rw [if_neg (by decide)]
      simp only [bX12_run_56]
      rw [pl19, if_pos (vpN (by omega) (by omega)), clN (by omega), ei, addN1, ih (i + 1) k _ _ (by omega) (by omega), ih (i + 1) k _ _ (by omega) (by omega)]
      exact some_ite
    rw [fX12_run]
    simp only [bX12_run_11, if_true]
    rw [x9, if_neg (fun e => absurd ((leN (by omega) (by omega)).mp e) (by omega)), aRun]
    by_cases e : i = 0
    · rw [if_pos ((le0N (by omega)).mpr e), e56 1, if_neg (show ¬ (0 < i ∧ wSl A i = wSl A (i - 1)) from fun h => absurd h.1 (by omega))]
    · have ei2 := hA.2.2.2.2.2.2.2 (i - 1) (by omega)
      rw [show 0 + 19 + (i - 1) = 19 + i - 1 by omega] at ei2
      rw [if_neg (fun c => e ((le0N (by omega)).mp c)), pl19, if_pos (vpN (by omega) (by omega)), show N (19 + i) - (1 : Int32) = N (19 + i - 1) from subN (b := 1) (by omega), if_pos (vpN (by omega) (by omega)), clN (by omega), clN (by omega), ei, ei2, e56, e56]
      by_cases e2 : wSl A i = wSl A (i - 1)
      · rw [if_pos e2, if_pos (show 0 < i ∧ wSl A i = wSl A (i - 1) from ⟨by omega, e2⟩)]
      · rw [if_neg e2, if_neg (show ¬ (0 < i ∧ wSl A i = wSl A (i - 1)) from fun h => e2 h.2)]
theorem op_run {c : Nat} : Ob_run (Good c) (Good (c + 1)) := by
  intro S hG
  refine ask (FX := fun S => FX11_run S) (FM := fun S => FX12_run S) hG ?_
  intro f d w F mn ln A D W E p n t ch g
  obtain ⟨hh, hA, okA⟩ := GO_hX g
  have hz := okA.1
  refine ⟨aRun (wSl A) (wSz A) 0 0 0, ?_, fun S1 g1 => ?_⟩
  · unfold FX11_run
    exact wp_eq (xRunL hA hz (wSz A) 0 FU 0 0 (by omega) (by unfold FU; omega)) ⟨fr_rf, rfl⟩
  · obtain ⟨hM, ok, rA, okA⟩ := GO_fM g1
    unfold FX12_run
    rw [wp_lt]
    exact wp_eq (mRunL (th_rM rA) hz (wSz A) 0 FU 0 0 (by omega) (by unfold FU; omega)) ⟨keep_th, rfl⟩
