/-! look -/
theorem some_ite {S : gS} {c : Prop} [Decidable c] {a b : Int32} : (if c then some (S, a) else some (S, b)) = some (S, if c then a else b) := by split <;> rfl
theorem lt_nle {a b : Int32} (h : a < b) : ¬ b ≤ a := by rw [ilt] at h; rw [ile]; omega
theorem nlt_le {a b : Int32} (h : ¬ a < b) : b ≤ a := by rw [ilt] at h; rw [ile]; omega
def aCm (F : aF) (A : aW) (E : aE) (m : Nat) : Nat → Int32
  | 0 => 0
  | k + 1 => if aSees F A E k = true then aCm F A E m k + ((aSB F A k >>> (N m &&& 31)) &&& (1 : Int32)) else aCm F A E m k
def aAl (F : aF) (A : aW) (E : aE) : Nat → Int32
  | 0 => 0
  | k + 1 => if aSees F A E k = true then aAl F A E k + 1 else aAl F A E k
def aLk (cnt : Nat → Int32) (all : Int32) : Nat → Nat → Int32 → Int32 → Int32
  | 0, _, b, _ => b
  | m + 1, i, b, l => if l ≤ (if cnt i < all - cnt i then all - cnt i else cnt i) then aLk cnt all m (i + 1) b l else aLk cnt all m (i + 1) (N i) (if cnt i < all - cnt i then all - cnt i else cnt i)
theorem xEmptyL {S : gS} : ∀ m i k S', i + m = 7 → m + 1 ≤ k → fr [179] S S' → (∀ j, j < i → sR S' 179 j = 0) → wp (fX11_emptyRow k 2 S' (N i)) (fun T => fr [179] S T ∧ ∀ j, j < 7 → sR T 179 j = 0) := by
  intro m
  induction m with
  | zero =>
    intro i k S' hi hk hS h
    obtain ⟨k, rfl, -⟩ := kS (m := 0) hk
    rw [fX11_emptyRow]
    simp only [bX11_emptyRow_2, if_true]
    have : i = 7 := by omega
    subst this
    rw [if_pos (by decide), wp_some]
    exact ⟨hS, h⟩
  | succ m ih =>
    intro i k S' hi hk hS h
    obtain ⟨k, rfl, hk'⟩ := kS (m := m + 1) hk
    rw [fX11_emptyRow]
    simp only [bX11_emptyRow_2, if_true]
    rw [if_neg (show ¬ (7 : Int32) ≤ N i from fun c => absurd ((leN (a := 7) (by omega) (by omega)).mp c) (by omega)), if_pos (vpN (by omega) (by omega)), clN (by omega), wp_lt, addN1]
    refine ih (i + 1) k _ (by omega) hk' (fr_uR hS (by simp)) (fun j hj => ?_)
    rw [R_uR]
    split
    · rfl
    · rename_i e; exact h j (by omega)
theorem xEmpty {S : gS} : wp (FX11_emptyRow S) (fun T => fr [179] S T ∧ ∀ j, j < 7 → sR T 179 j = 0) := by
  unfold FX11_emptyRow
  exact xEmptyL 7 0 FU S (by omega) (by unfold FU; omega) fr_rf (fun j hj => absurd hj (by omega))
theorem xAddB {S : gS} {x : Int32} : ∀ m i k S', i + m = 7 → m + 1 ≤ k → fr [179] S S' → (∀ j, j < i → sR S' 179 j = sR S 179 j + ((x >>> (N j &&& 31)) &&& (1 : Int32))) → (∀ j, i ≤ j → sR S' 179 j = sR S 179 j) → wp (fX11_addBitsToRow k 2 S' x (N i)) (fun T => fr [179] S T ∧ ∀ j, j < 7 → sR T 179 j = sR S 179 j + ((x >>> (N j &&& 31)) &&& (1 : Int32))) := by
  intro m
  induction m with
  | zero =>
    intro i k S' hi hk hS h _
    obtain ⟨k, rfl, -⟩ := kS (m := 0) hk
    rw [fX11_addBitsToRow]
    simp only [bX11_addBitsToRow_2, if_true]
    have : i = 7 := by omega
    subst this
    rw [if_pos (by decide), wp_some]
    exact ⟨hS, h⟩
  | succ m ih =>
    intro i k S' hi hk hS h h2
    obtain ⟨k, rfl, hk'⟩ := kS (m := m + 1) hk
    rw [fX11_addBitsToRow]
    simp only [bX11_addBitsToRow_2, if_true]
    rw [if_neg (show ¬ (7 : Int32) ≤ N i from fun c => absurd ((leN (a := 7) (by omega) (by omega)).mp c) (by omega)), if_pos (vpN (by omega) (by omega)), clN (by omega), wp_lt, addN1, h2 i (by omega)]
    refine ih (i + 1) k _ (by omega) hk' (fr_uR hS (by simp)) (fun j hj => ?_) (fun j hj => ?_)
    · rw [R_uR]
      by_cases e : j = i
      · subst e; rw [if_pos ⟨rfl, rfl⟩]
      · rw [if_neg (by omega)]; exact h j (by omega)
    · rw [R_uR, if_neg (by omega)]; exact h2 j (by omega)
theorem xSn179 : ∀ b, b ∈ [179] → b ∈ xS := by decide
theorem rX_S {S S' : gS} {A : aW} (h : rX S 49 A) (hS : fr xS S S') : rX S' 49 A := rX_fr h hS (fun j hj => xSn (by omega))
theorem xLook52 {S : gS} {f : Nat} {F : aF} {cnt : Nat → Int32} {all : Int32} (h : hX S f F) (hr : ∀ j, j < 7 → sR S 179 j = cnt j) : ∀ m i k b l, i + m = fN F → m + 1 ≤ k → fX11_look k 52 S all b l (N i) = some (S, aLk cnt all m i b l) := by
  have h7 := h.2.2.1
  intro m
  induction m with
  | zero =>
    intro i k b l hi hk
    obtain ⟨k, rfl, -⟩ := kS (m := 0) hk
    rw [fX11_look]
    simp only [if_true]
    rw [if_neg (by decide)]
    simp only [bX11_look_52]
    rw [h.1, fbF h.2.1.1, if_pos rfl, h.2.1.2.1, if_pos ((leN (by omega) (by omega)).mpr (by omega))]
    rfl
  | succ m ih =>
    intro i k b l hi hk
    obtain ⟨k, rfl, hk'⟩ := kS (m := m + 1) hk
    rw [fX11_look]
    simp only [if_true]
    rw [if_neg (by decide)]
    simp only [bX11_look_52]
    rw [h.1, fbF h.2.1.1, if_pos rfl, h.2.1.2.1, if_neg (fun e => absurd ((leN (by omega) (by omega)).mp e) (by omega)), if_pos (vpN (by omega) (by omega)), clN (by omega), hr i (by omega), addN1, aLk, ih (i + 1) k _ _ (by omega) hk', ih (i + 1) k _ _ (by omega) hk']
    exact some_ite
theorem xLook8 {S0 : gS} {f : Nat} {F : aF} {A : aW} {E : aE} {c : Nat} (h : hX S0 f F) (hA : rX S0 49 A) (okA : okW F c A) (hE : eX S0 46 E) (oE : okE (fN F) E) : ∀ m i k S, i + m = 10 → m + 20 ≤ k → fr xS S0 S → (∀ j, j < 7 → sR S 179 j = aCm F A E j i) → wp (fX11_look k 8 S (aAl F A E i) (N i) 0 0) (fun q => fr xS S0 q.1 ∧ q.2 = aLk (fun j => aCm F A E j 10) (aAl F A E 10) (fN F) 0 (-1) (aAl F A E 10)) := by
  have h7 := h.2.2.1
  intro m
  induction m with
  | zero =>
    intro i k S hi hk hS hr
    obtain ⟨k, rfl, hk'⟩ := kS (m := 19) hk
    rw [fX11_look]
    simp only [bX11_look_8, if_true]
    have : i = 10 := by omega
    subst this
    rw [if_pos (by decide)]
    exact wp_eq (xLook52 (hX_S h hS) hr (fN F) 0 k _ _ (by omega) (by omega)) ⟨hS, rfl⟩
  | succ m ih =>
    intro i k S hi hk hS hr
    obtain ⟨k, rfl, hk'⟩ := kS (m := m + 20) (by omega)
    rw [fX11_look]
    simp only [bX11_look_8, if_true]
    rw [if_neg (show ¬ (10 : Int32) ≤ N i from fun c => absurd ((leN (a := 10) (by omega) (by omega)).mp c) (by omega)), wp_b2]
    refine wp_mono (xSIn (v := i) (hX_S h hS) (rX_S hA hS) okA) ?_
    rintro ⟨S1, y⟩ ⟨q1, q2⟩
    dsimp only at q1 q2 ⊢
    have hS1 := fr_tr hS (fr_mo q1 xTs)
    have hE1 : eX S1 46 E := eX_fr hE hS1 (fun j hj => xSn (by omega))
    have r1 : sR S1 179 = sR S 179 := frR q1 (by decide)
    rw [q2, wp_b2, xAg hE1 oE h7, wp_some, addN1]
    dsimp only
    rw [wp_ite]
    refine ⟨fun e => ?_, fun e => ?_⟩
    · have e : aSees F A E i = true := e
      rw [wp_b1]
      unfold FX11_addBitsToRow
      refine wp_mono (xAddB (S := S1) (x := aSB F A i) 7 0 FU S1 (by omega) (by unfold FU; omega) fr_rf (fun j hj => absurd hj (by omega)) (fun _ _ => rfl)) ?_
      rintro S2 ⟨t1, t2⟩
      have ha : aAl F A E i + 1 = aAl F A E (i + 1) := by rw [aAl, if_pos e]
      rw [ha]
      refine ih (i + 1) k S2 (by omega) hk' (fr_tr hS1 (fr_mo t1 xSn179)) (fun j hj => ?_)
      rw [t2 j hj, r1, hr j hj, aCm, if_pos e]
    · have e : ¬ aSees F A E i = true := e
      have ha : aAl F A E i = aAl F A E (i + 1) := by rw [aAl, if_neg e]
      rw [ha]
      refine ih (i + 1) k S1 (by omega) hk' hS1 (fun j hj => ?_)
      rw [r1, hr j hj, aCm, if_neg e]
theorem aRs_tb {F : aF} {A : aW} {E : aE} {v : Nat} (hv : v < 32) : ∀ k, k ≤ 10 → tb (aRs F A E k) v = (decide (v < k) && aSees F A E v) := by
  intro k
  induction k with
  | zero => intro _; rw [aRs, tb_zero]; simp
  | succ k ih =>
    intro hk
    have h := ih (by omega)
    rw [aRs]
    by_cases e : v = k
    · subst e
      rw [show decide (v < v + 1) = true from decide_eq_true (by omega), Bool.true_and]
      rw [show decide (v < v) = false from decide_eq_false (by omega), Bool.false_and] at h
      split
      · rename_i hs; rw [tb_or, h, tb_bit hv hv, hs, decide_eq_true rfl]; rfl
      · rename_i hs; rw [h]; simpa using hs
    · have e2 : decide (v < k + 1) = decide (v < k) := by
        by_cases e3 : v < k
        · rw [decide_eq_true e3, decide_eq_true (by omega)]
        · rw [decide_eq_false e3, decide_eq_false (by omega)]
      rw [e2]
      split
      · rw [tb_or, h, tb_bit (by omega) hv, decide_eq_false e, Bool.or_false]
      · exact h
theorem aRs_has {F : aF} {A : aW} {E : aE} {v : Nat} (hv : v < 10) : aHas (aRs F A E 10) v = aSees F A E v := by
  rw [has_tb (by omega), aRs_tb (by omega) 10 (by omega), decide_eq_true hv, Bool.true_and]
theorem pc_aAl {F : aF} {A : aW} {E : aE} : ∀ k, k ≤ 10 → pc (aRs F A E 10) k = aAl F A E k := by
  intro k
  induction k with
  | zero => intro _; rfl
  | succ k ih =>
    intro hk
    rw [pc, aAl, ih (by omega), has_i (by omega), aRs_has (by omega)]
    split
    · rfl
    · rw [Int32.add_zero]
theorem mLook40 {S : gS} {F : aF} {A : aW} {E : aE} {mo : Nat} {b l : Int32} {K : Nat} {Q : gS × Int32 → Prop} (hm : mo < 7) (h224 : ∀ j, j < 10 → sR S 224 j = aSB F A j) (hc : ∀ k, K ≤ k → wp (if (if aCm F A E mo 10 < aAl F A E 10 - aCm F A E mo 10 then aAl F A E 10 - aCm F A E mo 10 else aCm F A E mo 10) < l then (fX12_look k 23 S (aRs F A E 10) (aAl F A E 10) (if aCm F A E mo 10 < aAl F A E 10 - aCm F A E mo 10 then aAl F A E 10 - aCm F A E mo 10 else aCm F A E mo 10) (N mo) (N (mo + 1)) 0 0) else (fX12_look k 23 S (aRs F A E 10) (aAl F A E 10) l b (N (mo + 1)) 0 0)) Q) : ∀ m i k, i + m = 10 → K + m + 1 ≤ k → wp (fX12_look k 40 S (aRs F A E 10) (aAl F A E 10) l b (N mo) (aCm F A E mo i) (N i)) Q := by
  intro m
  induction m with
  | zero =>
    intro i k hi hk
    obtain ⟨k, rfl, hk'⟩ := kS (m := K) hk
    rw [fX12_look]
    simp only [if_true]
    rw [if_neg (by decide)]
    simp only [bX12_look_40]
    have : i = 10 := by omega
    subst this
    rw [if_pos (by decide), addN1]
    exact hc k hk'
  | succ m ih =>
    intro i k hi hk
    obtain ⟨k, rfl, hk'⟩ := kS (m := K + m + 1) hk
    rw [fX12_look]
    simp only [if_true]
    rw [if_neg (by decide)]
    simp only [bX12_look_40]
    rw [if_neg (show ¬ (10 : Int32) ≤ N i from fun c => absurd ((leN (a := 10) (by omega) (by omega)).mp c) (by omega)), addN1, Int32.add_zero]
    have := ih (i + 1) k (by omega) hk'
    rw [aCm] at this
    cases hs : aSees F A E i with
    | false =>
      rw [hs, if_neg Bool.false_ne_true] at this
      rw [if_neg (fun h => by rw [has_1 (by omega), aRs_has (by omega), hs] at h; cases h)]
      exact this
    | true =>
      rw [hs, if_pos rfl, has_i (by omega)] at this
      rw [if_pos ((has_1 (by omega)).mpr (by rw [aRs_has (by omega)]; exact hs)), if_pos (vpN (by omega) (by omega)), clN (by omega), h224 i (by omega)]
      by_cases hb : aHas (aSB F A i) mo = true
      · rw [if_pos hb] at this
        rw [if_pos ((has_1 (by omega)).mpr hb)]; exact this
      · rw [if_neg hb, Int32.add_zero] at this
        rw [if_neg (fun h => hb ((has_1 (by omega)).mp h))]; exact this
theorem mLook23 {S : gS} {F : aF} {A : aW} {E : aE} (hF : fMo S F) (ok : okF F) (h224 : ∀ j, j < 10 → sR S 224 j = aSB F A j) : ∀ m i k b l, i + m = fN F → 20 * m + 1 ≤ k → wp (fX12_look k 23 S (aRs F A E 10) (aAl F A E 10) l b (N i) 0 0) (fun q => q = (S, aLk (fun j => aCm F A E j 10) (aAl F A E 10) m i b l)) := by
  have h7 := ok.1
  intro m
  induction m with
  | zero =>
    intro i k b l hi hk
    obtain ⟨k, rfl, -⟩ := kS (m := 0) hk
    rw [fX12_look]
    simp only [bX12_look_23, if_true]
    rw [hF.1, if_pos ((leN (by omega) (by omega)).mpr (by omega)), wp_some]
    rfl
  | succ m ih =>
    intro i k b l hi hk
    obtain ⟨k, rfl, hk'⟩ := kS (m := 20 * m + 20) (by omega)
    rw [fX12_look]
    simp only [bX12_look_23, if_true]
    rw [hF.1, if_neg (fun e => absurd ((leN (by omega) (by omega)).mp e) (by omega))]
    refine mLook40 (mo := i) (K := 20 * m + 1) (by omega) h224 ?_ 10 0 k (by omega) (by omega)
    intro k' hk2
    rw [aLk]
    rw [wp_ite]
    refine ⟨fun e => ?_, fun e => ?_⟩
    · rw [if_neg (lt_nle e)]
      exact ih (i + 1) k' _ _ (by omega) (by omega)
    · rw [if_pos (nlt_le e)]
      exact ih (i + 1) k' _ _ (by omega) (by omega)
theorem op_look {c : Nat} : Ob_look (Good c) (Good (c + 1)) := by
  intro S hG
  refine ask (FX := fun S => FX11_look S) (FM := fun S => FX12_look S) hG ?_
  intro f d w F mn ln A D W E p n t ch g
  obtain ⟨hh, hA, okA⟩ := GO_hX g
  obtain ⟨hE, -, oE⟩ := GO_e g
  have h7 := hh.2.2.1
  refine ⟨aLk (fun j => aCm F A E j 10) (aAl F A E 10) (fN F) 0 (-1) (aAl F A E 10), ?_, fun S1 g1 => ?_⟩
  · unfold FX11_look
    rw [wp_b1]
    refine wp_mono xEmpty ?_
    rintro S2 ⟨q1, q2⟩
    exact xLook8 hh hA okA hE oE 10 0 FU S2 (by omega) (by unfold FU; omega) (fr_mo q1 xSn179) q2
  · obtain ⟨hM, ok, rA, okA⟩ := GO_fM g1
    obtain ⟨-, hE2, -⟩ := GO_e g1
    unfold FX12_look FX12_rains
    rw [wp_lt, wp_b2, wp_lt, wp_b1]
    refine wp_mono (mLays0 (F := F) (A := A) (th_fMo (th_fMo hM)) ok (th_rM (th_rM rA)) okA) ?_
    rintro S2 ⟨q1, q2⟩
    have hE3 : eM S2 0 E := eM_f (S := uI (uI S1 180 0 0) 180 0 0) hE2 q1.1 (fun b hb => mSn (by omega))
    refine wp_eq (mRains hE3 oE ok.1 q2 10 0 FU (by omega) (by unfold FU; omega)) ?_
    dsimp only
    rw [mBits, wp_b2, wp_some, pc_aAl 10 (by omega)]
    have kp := keep_tr (keep_th (x := 0)) (keep_tr keep_th q1)
    refine wp_mono (mLook23 (E := E) (keep_fMo kp hM) ok q2 (fN F) 0 FU (-1) _ (by omega) (by unfold FU; omega)) ?_
    rintro _ rfl
    exact ⟨kp, rfl⟩
/-! gutters -/
def aDown (F : aF) : Nat → Int32 → Int32 → Int32
  | 0, _, b => b
  | m + 1, i, b => if i = -1 then b else aDown F m (fG F i.toNatClampNeg) (b ||| aBit i.toNatClampNeg)
def aDn (F : aF) (i : Nat) : Int32 := aDown F 7 (fG F i) 0
/-- how many are lower -/
def aCn (F : aF) (h : Int32) : Nat → Nat
  | 0 => 0
  | k + 1 => aCn F h k + (if fH F k < h then 1 else 0)
theorem aCn_le {F : aF} {h : Int32} : ∀ k, aCn F h k ≤ k := by
  intro k
  induction k with
  | zero => exact Nat.le_refl _
  | succ k ih => rw [aCn]; split <;> omega
theorem aCn_lt {F : aF} {h : Int32} {g : Nat} (hg : fH F g < h) : ∀ k, (aCn F (fH F g) k ≤ aCn F h k) ∧ (g < k → aCn F (fH F g) k < aCn F h k) := by
  intro k
  induction k with
  | zero => exact ⟨Nat.le_refl _, fun h => absurd h (by omega)⟩
  | succ k ih =>
    rw [aCn, aCn]
    have st : fH F k < fH F g → fH F k < h := fun a => by rw [ilt] at a hg ⊢; omega
    refine ⟨?_, fun hk => ?_⟩
    · by_cases e : fH F k < fH F g
      · rw [if_pos e, if_pos (st e)]; omega
      · rw [if_neg e]; split <;> omega
    · by_cases e : g = k
      · subst e
        rw [if_pos hg, if_neg (fun a => by rw [ilt] at a; omega)]
        have := ih.1; omega
      · have := ih.2 (by omega)
        by_cases e2 : fH F k < fH F g
        · rw [if_pos e2, if_pos (st e2)]; omega
        · rw [if_neg e2]; split <;> omega
theorem aDown_st {F : aF} (ok : okF F) : ∀ q g b m, g < fN F → aCn F (fH F g) (fN F) ≤ q → q + 1 ≤ m → aDown F m (N g) b = aDown F (q + 2) (N g) b := by
  have h7 := ok.1
  intro q
  induction q with
  | zero =>
    intro g b m hg hq hm
    obtain ⟨m, rfl, -⟩ := kS (m := 0) hm
    rw [aDown, aDown, clN (by omega), if_neg (N_ne_m1 (by omega)), if_neg (N_ne_m1 (by omega))]
    rcases ok.2.2.2.2.1 g hg with h | ⟨g2, a1, a2, a3⟩
    · rw [h]
      cases m with
      | zero => rfl
      | succ m => rw [aDown, if_pos rfl]; rfl
    · have := (aCn_lt a3 (fN F)).2 a1
      omega
  | succ q ih =>
    intro g b m hg hq hm
    obtain ⟨m, rfl, hm'⟩ := kS (m := q + 1) hm
    rw [aDown, aDown, clN (by omega), if_neg (N_ne_m1 (by omega)), if_neg (N_ne_m1 (by omega))]
    rcases ok.2.2.2.2.1 g hg with h | ⟨g2, a1, a2, a3⟩
    · rw [h]
      obtain ⟨m, rfl, -⟩ := kS (m := q) hm'
      rw [aDown, if_pos rfl, aDown, if_pos rfl]
    · have := (aCn_lt a3 (fN F)).2 a1
      rw [a2, ih g2 _ m a1 (by omega) hm']
theorem aCn_6 {F : aF} (ok : okF F) {i : Nat} (hi : i < fN F) : aCn F (fH F i) (fN F) ≤ 6 := by
  have h7 := ok.1
  have hh := ok.2.2.2.2.2.2.2.2.2.2 i hi
  have h21 : fH F i < 21 := by
    have := hh.2
    rw [ile] at this
    rw [ilt]
    have e20 : Int32.toInt 20 = 20 := rfl
    have e21 : Int32.toInt 21 = 21 := rfl
    omega
  have a := (aCn_lt (h := 21) h21 (fN F)).2 hi
  have b := aCn_le (F := F) (h := 21) (fN F)
  omega
theorem xBelowL {S : gS} {f : Nat} {F : aF} (hF : fX S f F) (ok : okF F) : ∀ m i k at_ b, i + m = 7 → m + 1 ≤ k → (at_ = -1 ∨ ∃ g, g < fN F ∧ at_ = N g) → fX1_below k 12 S f b at_ (N i) = some (S, aDown F m at_ b) := by
  have h7 := ok.1
  intro m
  induction m with
  | zero =>
    intro i k at_ b hi hk _
    obtain ⟨k, rfl, -⟩ := kS (m := 0) hk
    rw [fX1_below]
    simp only [bX1_below_12, if_true]
    have : i = 7 := by omega
    subst this
    rw [if_pos (by decide)]
    rfl
  | succ m ih =>
    intro i k at_ b hi hk ha
    obtain ⟨k, rfl, hk'⟩ := kS (m := m + 1) hk
    rw [fX1_below]
    simp only [bX1_below_12, if_true]
    rw [if_neg (show ¬ (7 : Int32) ≤ N i from fun c => absurd ((leN (a := 7) (by omega) (by omega)).mp c) (by omega)), aDown]
    rcases ha with rfl | ⟨g, g1, rfl⟩
    · rw [if_pos rfl, if_pos rfl]
    · rw [if_neg (N_ne_m1 (by omega)), if_neg (N_ne_m1 (by omega)), if_pos (vpN (by omega) (by omega)), clN (by omega), (hF.2.2.1 g g1).2.2.2.2.1, addN1]
      refine ih (i + 1) k _ _ (by omega) hk' ?_
      rcases ok.2.2.2.2.1 g g1 with h | ⟨g2, a1, a2, -⟩
      · exact Or.inl h
      · exact Or.inr ⟨g2, a1, a2⟩
theorem xBelow {S : gS} {f i : Nat} {F : aF} (hF : fX S f F) (ok : okF F) (hi : i < fN F) : FX1_below S f (N i) = some (S, aDn F i) := by
  have h7 := ok.1
  unfold FX1_below
  rw [if_pos (vpN (by omega) (by omega)), clN (by omega), (hF.2.2.1 i hi).2.2.2.2.1]
  refine xBelowL hF ok 7 0 FU _ _ (by omega) (by unfold FU; omega) ?_
  rcases ok.2.2.2.2.1 i hi with h | ⟨g2, a1, a2, -⟩
  · exact Or.inl h
  · exact Or.inr ⟨g2, a1, a2⟩
theorem mDownL {S : gS} {F : aF} (hF : fMo S F) (ok : okF F) : ∀ q g b k, g < fN F → aCn F (fH F g) (fN F) ≤ q → q + 2 ≤ k → fX12_downOf k 9 S b (N g) = some (S, aDown F (q + 2) (N g) b) := by
  have h7 := ok.1
  intro q
  induction q with
  | zero =>
    intro g b k hg hq hk
    obtain ⟨k, rfl, hk'⟩ := kS (m := 1) hk
    obtain ⟨k, rfl, -⟩ := kS (m := 0) hk'
    rw [fX12_downOf]
    simp only [bX12_downOf_9, if_true]
    rw [if_neg (nN_lt0 (by omega)), if_pos (vpN (by omega) (by omega)), clN (by omega), (hF.2.2.2.1 g hg).2.2.2.2.1, aDown, clN (by omega), if_neg (N_ne_m1 (by omega))]
    rcases ok.2.2.2.2.1 g hg with h | ⟨g2, a1, a2, a3⟩
    · rw [h, fX12_downOf]
      simp only [bX12_downOf_9, if_true]
      rw [if_pos (by decide)]; rfl
    · have := (aCn_lt a3 (fN F)).2 a1
      omega
  | succ q ih =>
    intro g b k hg hq hk
    obtain ⟨k, rfl, hk'⟩ := kS (m := q + 2) hk
    rw [fX12_downOf]
    simp only [bX12_downOf_9, if_true]
    rw [if_neg (nN_lt0 (by omega)), if_pos (vpN (by omega) (by omega)), clN (by omega), (hF.2.2.2.1 g hg).2.2.2.2.1, aDown, clN (by omega), if_neg (N_ne_m1 (by omega))]
    rcases ok.2.2.2.2.1 g hg with h | ⟨g2, a1, a2, a3⟩
    · obtain ⟨k, rfl, -⟩ := kS (m := q + 1) hk'
      rw [h, fX12_downOf]
      simp only [bX12_downOf_9, if_true]
      rw [if_pos (by decide), aDown, if_pos rfl]; rfl
    · have := (aCn_lt a3 (fN F)).2 a1
      rw [a2]
      exact ih g2 _ k a1 (by omega) hk'
theorem mDown {S : gS} {F : aF} {i : Nat} (hF : fMo S F) (ok : okF F) (hi : i < fN F) : FX12_downOf S (N i) = some (S, aDn F i) := by
  have h7 := ok.1
  unfold FX12_downOf aDn
  rw [if_pos (vpN (by omega) (by omega)), clN (by omega), (hF.2.2.2.1 i hi).2.2.2.2.1]
  rcases ok.2.2.2.2.1 i hi with h | ⟨g, a1, a2, a3⟩
  · obtain ⟨kf, hkf, -⟩ := FU_s
    rw [h, hkf, fX12_downOf]
    simp only [bX12_downOf_9, if_true]
    rw [if_pos (by decide), aDown, if_pos rfl]
  · have h6 := aCn_6 ok hi
    have := (aCn_lt a3 (fN F)).2 a1
    rw [a2, mDownL hF ok 5 g 0 FU a1 (by omega) (by unfold FU; omega)]
theorem aDown_tb {F : aF} (ok : okF F) {j : Nat} (hj : j < 32) : ∀ m at_ b, (at_ = -1 ∨ ∃ g, g < fN F ∧ at_ = N g) → fN F ≤ j → tb (aDown F m at_ b) j = tb b j := by
  have h7 := ok.1
  intro m
  induction m with
  | zero => intro at_ b _ _; rfl
  | succ m ih =>
    intro at_ b ha hn
    rw [aDown]
    rcases ha with rfl | ⟨g, g1, rfl⟩
    · rw [if_pos rfl]
    · rw [if_neg (N_ne_m1 (by omega)), clN (by omega), ih _ _ ?_ hn, tb_or, tb_bit (by omega) hj, decide_eq_false (by omega), Bool.or_false]
      rcases ok.2.2.2.2.1 g g1 with h | ⟨g2, a1, a2, -⟩
      · exact Or.inl h
      · exact Or.inr ⟨g2, a1, a2⟩
theorem small_N {x : Int32} {n : Nat} (hn : n ≤ 7) (h : ∀ j, j < 32 → n ≤ j → tb x j = false) : ∃ v, v < 2 ^ n ∧ x = N v := by
  refine ⟨x.toBitVec.toNat, ?_, ?_⟩
  · apply Nat.lt_pow_two_of_testBit
    intro j hj
    by_cases h32 : j < 32
    · exact h j h32 hj
    · exact Nat.testBit_lt_two_pow (Nat.lt_of_lt_of_le x.toBitVec.isLt (Nat.pow_le_pow_right (by omega) (by omega)))
  · apply Int32.toBitVec.inj
    change x.toBitVec = BitVec.ofInt 32 (x.toBitVec.toNat : Int)
    rw [BitVec.ofInt_natCast, BitVec.ofNat_toNat, BitVec.setWidth_eq]
theorem aDn_N {F : aF} (ok : okF F) {i : Nat} (hi : i < fN F) : ∃ v, v < 128 ∧ aDn F i = N v := by
  have h7 := ok.1
  obtain ⟨v, h1, h2⟩ := small_N (x := aDn F i) h7 (fun j hj hn => by
    unfold aDn
    rw [aDown_tb ok hj 7 _ _ ?_ hn, tb_zero]
    rcases ok.2.2.2.2.1 i hi with h | ⟨g2, a1, a2, -⟩
    · exact Or.inl h
    · exact Or.inr ⟨g2, a1, a2⟩)
  have := (p2_b _ h7).2
  exact ⟨v, by omega, h2⟩
theorem op_down {c : Nat} : Ob_down (Good c) (Good (c + 1)) := by
  intro S p0 hG
  refine ask (FX := fun S => FX11_down S p0) (FM := fun S => FX12_down S p0) hG ?_
  intro f d w F mn ln A D W E p n t ch g
  obtain ⟨hh, hA, okA⟩ := GO_hX g
  by_cases b0 : inr 0 (fN F) p0
  · have b0' := b0
    obtain ⟨l, -, k1, k2, rfl⟩ := b0
    refine ⟨aDn F l, ?_, fun S1 g1 => ?_⟩
    · unfold FX11_down
      rw [wp_b2]
      refine xgM hh (fun _ => ?_) (fun e => absurd b0' e)
      rw [if_pos rfl, hh.1, fbF hh.2.1.1, if_pos rfl, xBelow hh.2.1 hh.2.2 k1, wp_b2, wp_some, wp_some]
      exact ⟨fr_rf, rfl⟩
    · obtain ⟨hM, ok, rA, okA⟩ := GO_fM g1
      unfold FX12_down
      rw [wp_lt, wp_b2]
      refine mgM (th_fMo hM) ok (fun _ => ?_) (fun e => absurd b0' e)
      rw [if_pos rfl, mDown (th_fMo hM) ok k1, wp_b2, wp_some, wp_some]
      exact ⟨keep_th, rfl⟩
  · refine ⟨-1, ?_, fun S1 g1 => ?_⟩
    · unfold FX11_down
      rw [wp_b2]
      refine xgM hh (fun e => absurd e b0) (fun _ => ?_)
      rw [if_neg Bool.false_ne_true, wp_some]; exact ⟨fr_rf, rfl⟩
    · obtain ⟨hM, ok, rA, okA⟩ := GO_fM g1
      unfold FX12_down
      rw [wp_lt, wp_b2]
      refine mgM (th_fMo hM) ok (fun e => absurd e b0) (fun _ => ?_)
      rw [if_neg Bool.false_ne_true, wp_some]; exact ⟨keep_th, rfl⟩
def aUp (F : aF) (l : Nat) : Nat → Nat → Int32 → Int32
  | 0, _, b => b
  | m + 1, i, b => if aHas (aDn F i) l = true then aUp F l m (i + 1) (b ||| aBit i) else aUp F l m (i + 1) b
theorem xUp {S : gS} {f : Nat} {F : aF} {l : Nat} (h : hX S f F) : ∀ m i k b, i + m = fN F → m + 1 ≤ k → fX11_up k 14 S (N l) b (N i) = some (S, aUp F l m i b) := by
  have h7 := h.2.2.1
  intro m
  induction m with
  | zero =>
    intro i k b hi hk
    obtain ⟨k, rfl, -⟩ := kS (m := 0) hk
    rw [fX11_up]
    simp only [bX11_up_14, if_true]
    rw [h.1, fbF h.2.1.1, if_pos rfl, h.2.1.2.1, if_pos ((leN (by omega) (by omega)).mpr (by omega))]
    rfl
  | succ m ih =>
    intro i k b hi hk
    obtain ⟨k, rfl, hk'⟩ := kS (m := m + 1) hk
    rw [fX11_up]
    simp only [bX11_up_14, if_true]
    rw [h.1, fbF h.2.1.1, if_pos rfl, h.2.1.2.1, if_neg (fun e => absurd ((leN (by omega) (by omega)).mp e) (by omega)), if_pos rfl, xBelow h.2.1 h.2.2 (by omega)]
    simp only [g_b2]
    rw [addN1, aUp]
    cases hb : aHas (aDn F i) l with
    | false => rw [if_pos (has_0.mpr hb), if_neg Bool.false_ne_true]; exact ih (i + 1) k b (by omega) hk'
    | true => rw [if_neg (fun e => by rw [has_0.mp e] at hb; cases hb), if_pos rfl]; exact ih (i + 1) k _ (by omega) hk'
theorem shl0 {i : Nat} (hi : i < 32) : (0 : Int32) <<< (N i &&& 31) = 0 := by
  apply tb_ext
  intro j hj
  rw [tb_shl hi hj, tb_zero, tb_zero, Bool.and_false]
theorem mUp {S : gS} {F : aF} {l : Nat} (hF : fMo S F) (ok : okF F) (hl : l < 7) : ∀ m i k b, i + m = fN F → m + 1 ≤ k → fX12_up k 19 S (N l) b (N i) = some (S, aUp F l m i b) := by
  have h7 := ok.1
  intro m
  induction m with
  | zero =>
    intro i k b hi hk
    obtain ⟨k, rfl, -⟩ := kS (m := 0) hk
    rw [fX12_up]
    simp only [bX12_up_19, if_true]
    rw [hF.1, if_pos ((leN (by omega) (by omega)).mpr (by omega))]
    rfl
  | succ m ih =>
    intro i k b hi hk
    obtain ⟨k, rfl, hk'⟩ := kS (m := m + 1) hk
    rw [fX12_up]
    simp only [bX12_up_19, if_true]
    rw [hF.1, if_neg (fun e => absurd ((leN (by omega) (by omega)).mp e) (by omega)), mDown hF ok (by omega)]
    simp only [g_b2]
    rw [addN1, aUp, has_i (by omega)]
    cases hb : aHas (aDn F i) l with
    | false => rw [if_neg Bool.false_ne_true, if_neg Bool.false_ne_true, shl0 (by omega), Int32.or_zero]; exact ih (i + 1) k b (by omega) hk'
    | true => rw [if_pos rfl, if_pos rfl]; exact ih (i + 1) k _ (by omega) hk'
theorem op_up {c : Nat} : Ob_up (Good c) (Good (c + 1)) := by
  intro S p0 hG
  refine ask (FX := fun S => FX11_up S p0) (FM := fun S => FX12_up S p0) hG ?_
  intro f d w F mn ln A D W E p n t ch g
  obtain ⟨hh, hA, okA⟩ := GO_hX g
  have h7 := hh.2.2.1
  by_cases b0 : inr 0 (fN F) p0
  · have b0' := b0
    obtain ⟨l, -, k1, k2, rfl⟩ := b0
    refine ⟨aUp F l (fN F) 0 0, ?_, fun S1 g1 => ?_⟩
    · unfold FX11_up
      rw [wp_b2]
      refine xgM hh (fun _ => ?_) (fun e => absurd b0' e)
      rw [if_pos rfl]
      exact wp_eq (xUp hh (fN F) 0 FU 0 (by omega) (by unfold FU; omega)) ⟨fr_rf, rfl⟩
    · obtain ⟨hM, ok, rA, okA⟩ := GO_fM g1
      unfold FX12_up
      rw [wp_lt, wp_b2]
      refine mgM (th_fMo hM) ok (fun _ => ?_) (fun e => absurd b0' e)
      rw [if_pos rfl]
      exact wp_eq (mUp (th_fMo hM) ok (by omega) (fN F) 0 FU 0 (by omega) (by unfold FU; omega)) ⟨keep_th, rfl⟩
  · refine ⟨-1, ?_, fun S1 g1 => ?_⟩
    · unfold FX11_up
      rw [wp_b2]
      refine xgM hh (fun e => absurd e b0) (fun _ => ?_)
      rw [if_neg Bool.false_ne_true, wp_some]; exact ⟨fr_rf, rfl⟩
    · obtain ⟨hM, ok, rA, okA⟩ := GO_fM g1
      unfold FX12_up
      rw [wp_lt, wp_b2]
      refine mgM (th_fMo hM) ok (fun e => absurd e b0) (fun _ => ?_)
      rw [if_neg Bool.false_ne_true, wp_some]; exact ⟨keep_th, rfl⟩
def aChain (F : aF) : Nat → Nat → Int32 → Int32
  | 0, _, b => b
  | m + 1, i, b => aChain F m (i + 1) (if b < (1 : Int32) + pc (aDn F i) 10 then (1 : Int32) + pc (aDn F i) 10 else b)
theorem xChain {S : gS} {f : Nat} {F : aF} (h : hX S f F) : ∀ m i k b, i + m = fN F → m + 1 ≤ k → fX11_chain k 4 S b (N i) = some (S, aChain F m i b) := by
  have h7 := h.2.2.1
  intro m
  induction m with
  | zero =>
    intro i k b hi hk
    obtain ⟨k, rfl, -⟩ := kS (m := 0) hk
    rw [fX11_chain]
    simp only [bX11_chain_4, if_true]
    rw [h.1, fbF h.2.1.1, if_pos rfl, h.2.1.2.1, if_pos ((leN (by omega) (by omega)).mpr (by omega))]
    rfl
  | succ m ih =>
    intro i k b hi hk
    obtain ⟨k, rfl, hk'⟩ := kS (m := m + 1) hk
    rw [fX11_chain]
    simp only [bX11_chain_4, if_true]
    rw [h.1, fbF h.2.1.1, if_pos rfl, h.2.1.2.1, if_neg (fun e => absurd ((leN (by omega) (by omega)).mp e) (by omega)), if_pos rfl, xBelow h.2.1 h.2.2 (by omega)]
    simp only [g_b2]
    rw [bitc]
    simp only
    obtain ⟨v, v1, v2⟩ := aDn_N h.2.2 (i := i) (by omega)
    rw [v2, bcx_pc v v1, ← v2, addN1, aChain]
    exact ih (i + 1) k _ (by omega) hk'
theorem mChain {S : gS} {F : aF} (hF : fMo S F) (ok : okF F) : ∀ m i k b, i + m = fN F → m + 1 ≤ k → fX12_chain k 9 S b (N i) = some (S, aChain F m i b) := by
  have h7 := ok.1
  intro m
  induction m with
  | zero =>
    intro i k b hi hk
    obtain ⟨k, rfl, -⟩ := kS (m := 0) hk
    rw [fX12_chain]
    simp only [bX12_chain_9, if_true]
    rw [hF.1, if_pos ((leN (by omega) (by omega)).mpr (by omega))]
    rfl
  | succ m ih =>
    intro i k b hi hk
    obtain ⟨k, rfl, hk'⟩ := kS (m := m + 1) hk
    rw [fX12_chain]
    simp only [bX12_chain_9, if_true]
    rw [hF.1, if_neg (fun e => absurd ((leN (by omega) (by omega)).mp e) (by omega)), mDown hF ok (by omega)]
    simp only [g_b2]
    rw [mBits]
    simp only
    rw [addN1, aChain]
    exact ih (i + 1) k _ (by omega) hk'
theorem op_chain {c : Nat} : Ob_chain (Good c) (Good (c + 1)) := by
  intro S hG
  refine ask (FX := fun S => FX11_chain S) (FM := fun S => FX12_chain S) hG ?_
  intro f d w F mn ln A D W E p n t ch g
  obtain ⟨hh, hA, okA⟩ := GO_hX g
  have h7 := hh.2.2.1
  refine ⟨aChain F (fN F) 0 0, ?_, fun S1 g1 => ?_⟩
  · unfold FX11_chain
    exact wp_eq (xChain hh (fN F) 0 FU 0 (by omega) (by unfold FU; omega)) ⟨fr_rf, rfl⟩
  · obtain ⟨hM, ok, rA, okA⟩ := GO_fM g1
    unfold FX12_chain
    rw [wp_lt]
    exact wp_eq (mChain (th_fMo hM) ok (fN F) 0 FU 0 (by omega) (by unfold FU; omega)) ⟨keep_th, rfl⟩
