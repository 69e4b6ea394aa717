/-! twins -/
def aUnl (fl : Nat → Int32) (m : Nat) : Nat → Int32
  | 0 => 0
  | k + 1 => if fl k = fl m then aUnl fl m k else aUnl fl m k ||| aBit k
def aRw (F : aF) (A : aW) (lim m : Nat) : Nat → Int32
  | 0 => 0
  | k + 1 => aRw F A lim m k ||| aUnl (wFl (aIt F A (k + 1))) m lim
def aUn (F : aF) (A : aW) (m o : Nat) : Nat → Bool
  | 0 => false
  | k + 1 => aUn F A m o k || decide (¬ wFl (aIt F A (k + 1)) o = wFl (aIt F A (k + 1)) m)
theorem aUnl_tb {fl : Nat → Int32} {m j : Nat} (hj : j < 32) : ∀ k, k ≤ 32 → tb (aUnl fl m k) j = (decide (j < k) && decide (¬ fl j = fl m)) := by
  intro k
  induction k with
  | zero => intro _; rw [aUnl, tb_zero]; simp
  | succ k ih =>
    intro hk
    have h := ih (by omega)
    rw [aUnl]
    by_cases e : j = k
    · subst e
      rw [decide_eq_false (show ¬ j < j by omega), Bool.false_and] at h
      rw [decide_eq_true (show j < j + 1 by omega), Bool.true_and]
      split
      · rename_i c; rw [h, decide_eq_false (fun hh => hh c)]
      · rename_i c; rw [tb_or, h, tb_bit hj hj, decide_eq_true rfl, decide_eq_true c]; rfl
    · have e2 : decide (j < k + 1) = decide (j < k) := by
        by_cases e3 : j < k
        · rw [decide_eq_true e3, decide_eq_true (by omega)]
        · rw [decide_eq_false e3, decide_eq_false (by omega)]
      rw [e2]
      split
      · exact h
      · rw [tb_or, h, tb_bit (by omega) hj, decide_eq_false e, Bool.or_false]
theorem aRw_tb {F : aF} {A : aW} {lim m j : Nat} (hj : j < 32) (hl : lim ≤ 32) : ∀ k, tb (aRw F A lim m k) j = (decide (j < lim) && aUn F A m j k) := by
  intro k
  induction k with
  | zero => rw [aRw, tb_zero, aUn, Bool.and_false]
  | succ k ih =>
    rw [aRw, tb_or, ih, aUnl_tb hj lim hl, aUn]
    cases decide (j < lim) <;> cases aUn F A m j k <;> rfl
theorem aUn_sy {F : aF} {A : aW} {m o : Nat} : ∀ k, aUn F A m o k = aUn F A o m k := by
  intro k
  induction k with
  | zero => rfl
  | succ k ih =>
    rw [aUn, aUn, ih]
    congr 1
    by_cases e : wFl (aIt F A (k + 1)) o = wFl (aIt F A (k + 1)) m
    · rw [decide_eq_false (fun h => h e), decide_eq_false (fun h => h e.symm)]
    · rw [decide_eq_true e, decide_eq_true (show ¬ wFl (aIt F A (k + 1)) m = wFl (aIt F A (k + 1)) o from fun h => e h.symm)]
/-! sums -/
def sm (f : Nat → Int32) : Nat → Int32
  | 0 => 0
  | k + 1 => sm f k + f k
theorem sm_cg {f g : Nat → Int32} : ∀ k, (∀ j, j < k → f j = g j) → sm f k = sm g k := by
  intro k
  induction k with
  | zero => intro _; rfl
  | succ k ih => intro h; rw [sm, sm, ih (fun j hj => h j (by omega)), h k (by omega)]
theorem i_swap {a b c d : Int32} : (a + b) + (c + d) = (a + c) + (b + d) := by
  rw [Int32.add_assoc, Int32.add_assoc, ← Int32.add_assoc b c d, Int32.add_comm b c, Int32.add_assoc c b d]
theorem sm_add {f g : Nat → Int32} : ∀ k, sm (fun j => f j + g j) k = sm f k + sm g k := by
  intro k
  induction k with
  | zero => rw [sm, sm, sm, Int32.add_zero]
  | succ k ih => rw [sm, sm, sm, ih]; exact i_swap
theorem sm_z {f : Nat → Int32} : ∀ k, (∀ j, j < k → f j = 0) → sm f k = 0 := by
  intro k
  induction k with
  | zero => intro _; rfl
  | succ k ih => intro h; rw [sm, ih (fun j hj => h j (by omega)), h k (by omega), Int32.add_zero]
theorem sm_1 {x : Int32} {a : Nat} : ∀ k, a < k → sm (fun j => if j = a then x else 0) k = x := by
  intro k
  induction k with
  | zero => intro h; omega
  | succ k ih =>
    intro h
    rw [sm]
    by_cases e : k = a
    · rw [sm_z k (fun j hj => by rw [if_neg (by omega)]), if_pos e, Int32.zero_add]
    · rw [ih (by omega), if_neg e, Int32.add_zero]
theorem sm_lim {f : Nat → Int32} {n : Nat} : ∀ d, sm (fun j => if j < n then f j else 0) (n + d) = sm f n := by
  intro d
  induction d with
  | zero => exact sm_cg n (fun j hj => by rw [if_pos hj])
  | succ d ih =>
    have e : sm (fun j => if j < n then f j else 0) (n + (d + 1)) = sm (fun j => if j < n then f j else 0) (n + d) + (if n + d < n then f (n + d) else 0) := rfl
    rw [e, ih, if_neg (by omega), Int32.add_zero]
def ib (b : Bool) : Int32 := if b = true then 1 else 0
theorem pc_sm {x : Int32} : ∀ k, k ≤ 10 → pc x k = sm (fun j => ib (aHas x j)) k := by
  intro k
  induction k with
  | zero => intro _; rfl
  | succ k ih => intro hk; rw [pc, sm, ih (by omega), has_i (by omega)]; rfl
theorem N_sm : ∀ m, m ≤ 10 → N m = sm (fun j => if j < m then (1 : Int32) else 0) 10 := by decide +kernel
theorem N_sm2 : ∀ n, n ≤ 7 → ∀ m, m < n → (N n - (1 : Int32)) - N m = sm (fun j => if m + 1 + j < n then (1 : Int32) else 0) 10 := by decide +kernel
theorem i_canc {a b c : Int32} (h : a = b + c) : a - c = b := by
  rw [h]
  apply Int32.toBitVec.inj
  simp only [Int32.toBitVec_sub, Int32.toBitVec_add]
  exact BitVec.add_sub_cancel _ _
/-- 1 if they spout alike -/
def gg (F : aF) (A : aW) (k m o : Nat) : Int32 := if aUn F A m o k = true then 0 else 1
theorem gg_1 {F : aF} {A : aW} {k m o : Nat} : (1 : Int32) = gg F A k m o + ib (aUn F A m o k) := by
  unfold gg ib
  split <;> rfl
theorem twM {F : aF} {A : aW} {k m : Nat} (hm : m ≤ 7) : N m - pc (aRw F A m m k) 10 = sm (fun o => gg F A k m o) m := by
  apply i_canc
  rw [pc_sm 10 (by omega), N_sm m (by omega)]
  have e1 := sm_lim (f := fun o => gg F A k m o) (n := m) (10 - m)
  rw [show m + (10 - m) = 10 by omega] at e1
  rw [← e1, ← sm_add]
  apply sm_cg
  intro j hj
  rw [has_tb (by omega), aRw_tb (by omega) (by omega)]
  by_cases e : j < m
  · rw [if_pos e, if_pos e, decide_eq_true e, Bool.true_and]; exact gg_1
  · rw [if_neg e, if_neg e, decide_eq_false e, Bool.false_and]; rfl
theorem twX {F : aF} {A : aW} {k m n : Nat} (hn : n ≤ 7) (hm : m < n) : ((N n - (1 : Int32)) - N m) - bcx (aRw F A n m k >>> (N (m + 1) &&& 31)) = sm (fun j => if m + 1 + j < n then gg F A k m (m + 1 + j) else 0) 10 := by
  have hb : ∀ j, j < 25 → tb (aRw F A n m k >>> (N (m + 1) &&& 31)) j = (decide (m + 1 + j < n) && aUn F A m (m + 1 + j) k) := by
    intro j hj
    rw [tb_shr (by omega) (by omega), aRw_tb (by omega) (by omega)]
  have hsm : ∃ v, v < 2 ^ 7 ∧ aRw F A n m k >>> (N (m + 1) &&& 31) = N v := by
    apply small_N (by omega)
    intro j hj h7
    change ((aRw F A n m k).toBitVec.sshiftRight' ((N (m + 1) &&& 31).toBitVec.smod 32#32)).getLsbD j = _
    rw [BitVec.getLsbD_sshiftRight', shm (m + 1) (by omega), decide_eq_false (by omega)]
    have msb : (aRw F A n m k).toBitVec.msb = false := by
      have := aRw_tb (F := F) (A := A) (lim := n) (m := m) (j := 31) (by omega) (by omega) k
      rw [decide_eq_false (by omega), Bool.false_and] at this
      rw [BitVec.msb_eq_getLsbD_last]; exact this
    split
    · rename_i h
      have := aRw_tb (F := F) (A := A) (lim := n) (m := m) (j := m + 1 + j) (by omega) (by omega) k
      rw [decide_eq_false (by omega), Bool.false_and] at this
      have this : (aRw F A n m k).toBitVec.getLsbD (m + 1 + j) = false := this
      rw [this]; rfl
    · rw [msb]; rfl
  obtain ⟨v, v1, v2⟩ := hsm
  rw [v2, bcx_pc v v1, ← v2]
  apply i_canc
  rw [pc_sm 10 (by omega), N_sm2 n hn m hm, ← sm_add]
  apply sm_cg
  intro j hj
  rw [has_tb (by omega), hb j (by omega)]
  by_cases e : m + 1 + j < n
  · rw [if_pos e, if_pos e, decide_eq_true e, Bool.true_and]; exact gg_1
  · rw [if_neg e, if_neg e, decide_eq_false e, Bool.false_and]; rfl
theorem gg_sy {F : aF} {A : aW} {k m o : Nat} : gg F A k m o = gg F A k o m := by unfold gg; rw [aUn_sy]
theorem pairs {F : aF} {A : aW} {k : Nat} : ∀ n, n ≤ 7 → sm (fun m => sm (fun j => if m + 1 + j < n then gg F A k m (m + 1 + j) else 0) 10) n = sm (fun m => sm (fun o => gg F A k m o) m) n := by
  intro n
  induction n with
  | zero => intro _; rfl
  | succ n ih =>
    intro hn
    have h1 : sm (fun m => sm (fun j => if m + 1 + j < n + 1 then gg F A k m (m + 1 + j) else 0) 10) (n + 1) = sm (fun m => sm (fun j => if m + 1 + j < n + 1 then gg F A k m (m + 1 + j) else 0) 10) n + sm (fun j => if n + 1 + j < n + 1 then gg F A k n (n + 1 + j) else 0) 10 := rfl
    have h2 : sm (fun m => sm (fun o => gg F A k m o) m) (n + 1) = sm (fun m => sm (fun o => gg F A k m o) m) n + sm (fun o => gg F A k n o) n := rfl
    rw [h1, h2, sm_z (f := fun j => if n + 1 + j < n + 1 then gg F A k n (n + 1 + j) else 0) 10 (fun j hj => by rw [if_neg (by omega)]), Int32.add_zero]
    have h3 : sm (fun m => sm (fun j => if m + 1 + j < n + 1 then gg F A k m (m + 1 + j) else 0) 10) n = sm (fun m => sm (fun j => if m + 1 + j < n then gg F A k m (m + 1 + j) else 0) 10 + gg F A k n m) n := by
      apply sm_cg
      intro m hm
      rw [← sm_1 (x := gg F A k n m) (a := n - m - 1) 10 (by omega), ← sm_add]
      apply sm_cg
      intro j hj
      by_cases e : m + 1 + j < n
      · rw [if_pos e, if_pos (by omega), if_neg (by omega), Int32.add_zero]
      · by_cases e2 : j = n - m - 1
        · rw [if_neg e, if_pos (by omega), if_pos e2, Int32.zero_add, show m + 1 + j = n by omega, gg_sy]
        · rw [if_neg e, if_neg (by omega), if_neg e2, Int32.add_zero]
    rw [h3, sm_add, ih (by omega)]
theorem xUnl {S : gS} {fl : Nat → Int32} {n mo : Nat} (hn : n ≤ 7) (hm : mo < n) (hf : ∀ j, j < 7 → sR S 55 j = fl j) : ∀ m i k, i + m = n → m + 1 ≤ k → fX9_flowsUnlike k 5 S 53 (N mo) (N n) (aUnl fl mo i) (N i) = some (S, aUnl fl mo n) := by
  intro m
  induction m with
  | zero =>
    intro i k hi hk
    obtain ⟨k, rfl, -⟩ := kS (m := 0) hk
    rw [fX9_flowsUnlike]
    simp only [bX9_flowsUnlike_5, if_true]
    have : i = n := by omega
    subst this
    rw [if_pos ((leN (by omega) (by omega)).mpr (by omega))]
  | succ m ih =>
    intro i k hi hk
    obtain ⟨k, rfl, hk'⟩ := kS (m := m + 1) hk
    rw [fX9_flowsUnlike]
    simp only [bX9_flowsUnlike_5, if_true]
    rw [if_neg (fun e => absurd ((leN (by omega) (by omega)).mp e) (by omega)), if_neg (show ¬ (7 : Int32) ≤ N i from fun c => absurd ((leN (a := 7) (by omega) (by omega)).mp c) (by omega)), if_pos (vpN (by omega) (by omega)), if_pos (vpN (by omega) (by omega)), clN (by omega), clN (by omega), hf i (by omega), hf mo (by omega), addN1]
    have := ih (i + 1) k (by omega) hk'
    rw [aUnl] at this
    split
    · rename_i e; rw [if_pos e] at this; exact this
    · rename_i e; rw [if_neg e] at this; exact this
theorem xTw38 {S0 : gS} {f : Nat} {F : aF} {fl r0 : Nat → Int32} {n t K : Nat} {Q : gS × Int32 → Prop} (h : hX S0 f F) (ht : t < 1000) (hf : ∀ j, j < 7 → sR S0 55 j = fl j)
    (hc : ∀ k S, K ≤ k → fr [179] S0 S → (∀ j, j < fN F → sR S 179 j = r0 j ||| aUnl fl j (fN F)) → wp (fX11_twins k 26 S (N n) (N (t + 1)) 0) Q) : ∀ m i k S, i + m = fN F → K + m + 1 ≤ k → fr [179] S0 S → (∀ j, j < fN F → sR S 179 j = if j < i then r0 j ||| aUnl fl j (fN F) else r0 j) → wp (fX11_twins k 38 S (N n) (N t) (N i)) Q := by
  have h7 := h.2.2.1
  have n9 : ∀ b, b ≠ 179 → b ∉ [179] := by intro b h hb; simp at hb; omega
  intro m
  induction m with
  | zero =>
    intro i k S hi hk hS hr
    obtain ⟨k, rfl, hk'⟩ := kS (m := K) hk
    have hT := hX_S h (fr_mo hS xSn179)
    rw [fX11_twins]
    simp only [if_true]
    rw [if_neg (by decide)]
    simp only [bX11_twins_38]
    rw [hT.1, fbF hT.2.1.1, if_pos rfl, hT.2.1.2.1, if_pos ((leN (by omega) (by omega)).mpr (by omega)), addN1]
    exact hc k S hk' hS (fun j hj => by rw [hr j hj, if_pos (by omega)])
  | succ m ih =>
    intro i k S hi hk hS hr
    obtain ⟨k, rfl, hk'⟩ := kS (m := K + m + 1) hk
    have hT := hX_S h (fr_mo hS xSn179)
    rw [fX11_twins]
    simp only [if_true]
    rw [if_neg (by decide)]
    simp only [bX11_twins_38]
    rw [hT.1, fbF hT.2.1.1, if_pos rfl, hT.2.1.2.1, if_neg (fun e => absurd ((leN (by omega) (by omega)).mp e) (by omega)), if_pos (vpN (by omega) (by omega)), if_pos rfl, wp_b2]
    unfold FX9_flowsUnlike
    refine wp_eq (xUnl (fl := fl) (n := fN F) (mo := i) h7 (by omega) (fun j hj => by rw [frR hS (n9 _ (by omega))]; exact hf j hj) (fN F) 0 FU (by omega) (by unfold FU; omega)) ?_
    dsimp only
    rw [clN (by omega), wp_lt, addN1]
    refine ih (i + 1) k _ (by omega) hk' (fr_uR hS (by simp)) (fun j hj => ?_)
    rw [R_uR]
    by_cases e : j = i
    · subst e
      rw [if_pos ⟨rfl, rfl⟩, hr j hj, if_neg (by omega), if_pos (by omega)]
    · rw [if_neg (by omega), hr j hj]
      by_cases e2 : j < i
      · rw [if_pos e2, if_pos (by omega)]
      · rw [if_neg e2, if_neg (by omega)]
theorem xTw89 {S : gS} {f : Nat} {F : aF} {A : aW} {q : Nat} (h : hX S f F) (hr : ∀ j, j < fN F → sR S 179 j = aRw F A (fN F) j q) : ∀ m i k, i + m = fN F → m + 1 ≤ k → fX11_twins k 89 S 0 (sm (fun m => sm (fun j => if m + 1 + j < fN F then gg F A q m (m + 1 + j) else 0) 10) i) (N i) = some (S, sm (fun m => sm (fun j => if m + 1 + j < fN F then gg F A q m (m + 1 + j) else 0) 10) (fN F)) := by
  have h7 := h.2.2.1
  intro m
  induction m with
  | zero =>
    intro i k hi hk
    obtain ⟨k, rfl, -⟩ := kS (m := 0) hk
    rw [fX11_twins]
    simp only [if_true]
    rw [if_neg (by decide), if_neg (by decide)]
    simp only [bX11_twins_89]
    have : i = fN F := by omega
    subst this
    rw [h.1, fbF h.2.1.1, if_pos rfl, h.2.1.2.1, if_pos ((leN (by omega) (by omega)).mpr (by omega))]
  | succ m ih =>
    intro i k hi hk
    obtain ⟨k, rfl, hk'⟩ := kS (m := m + 1) hk
    rw [fX11_twins]
    simp only [if_true]
    rw [if_neg (by decide), if_neg (by decide)]
    simp only [bX11_twins_89]
    rw [h.1, fbF h.2.1.1, if_pos rfl, h.2.1.2.1, if_neg (fun e => absurd ((leN (by omega) (by omega)).mp e) (by omega)), if_pos rfl, if_pos (vpN (by omega) (by omega)), clN (by omega), hr i (by omega), bitc]
    simp only [g_b2]
    rw [show N i + (1 : Int32) = N (i + 1) from addN1, twX h7 (by omega)]
    exact ih (i + 1) k (by omega) hk'
theorem xTw26 {S0 : gS} {f : Nat} {F : aF} {A : aW} {c n : Nat} (h : hX S0 f F) (okA : okW F c A) (hc : c ≤ 2000) (hn : n ≤ 60) : ∀ m i k S, i + m = n → 20 * m + 20 ≤ k → fr xS S0 S → rX S 53 (aIt F A i) → (∀ j, j < fN F → sR S 179 j = aRw F A (fN F) j i) → wp (fX11_twins k 26 S (N n) (N i) 0) (fun q => fr xS S0 q.1 ∧ q.2 = sm (fun m => sm (fun o => gg F A n m o) m) (fN F)) := by
  have h7 := h.2.2.1
  intro m
  induction m with
  | zero =>
    intro i k S hi hk hS hR hr
    obtain ⟨k, rfl, hk'⟩ := kS (m := 19) (by omega)
    have hT := hX_S h hS
    rw [fX11_twins]
    simp only [bX11_twins_26, if_true]
    have : i = n := by omega
    subst this
    rw [if_pos ((leN (by omega) (by omega)).mpr (by omega))]
    refine wp_eq (xTw89 hT hr (fN F) 0 k (by omega) (by omega)) ⟨hS, pairs _ h7⟩
  | succ m ih =>
    intro i k S hi hk hS hR hr
    obtain ⟨k, rfl, hk'⟩ := kS (m := 20 * m + 39) (by omega)
    have hT := hX_S h hS
    rw [fX11_twins]
    simp only [bX11_twins_26, if_true]
    rw [if_neg (fun e => absurd ((leN (by omega) (by omega)).mp e) (by omega)), wp_b2]
    refine wp_mono (xTrial hT hR (okIt h.2.2 okA i) (by omega)) ?_
    rintro ⟨S1, x⟩ ⟨q1, q2, -⟩
    dsimp only at q1 q2 ⊢
    have hS1 := fr_tr hS (fr_mo q1 xTs)
    have r1 : sR S1 179 = sR S 179 := frR q1 (by decide)
    refine xTw38 (S0 := S1) (t := i) (n := n) (K := 20 * m + 20) (fl := wFl (aIt F A (i + 1))) (r0 := fun j => aRw F A (fN F) j i) (hX_S h hS1) (by omega) q2.2.2.2.1 ?_ (fN F) 0 k S1 (by omega) (by omega) fr_rf (fun j hj => by rw [if_neg (by omega), r1]; exact hr j hj)
    intro k' S2 hk2 t1 t2
    exact ih (i + 1) k' S2 (by omega) (by omega) (fr_tr hS1 (fr_mo t1 xSn179)) (rX_fr q2 t1 (fun j hj => by simp; omega)) t2
theorem mTw32 {S0 : gS} {n : Int32} {K : Nat} {Q : gS × Int32 → Prop} (hc : ∀ k S, K ≤ k → fm [223] S0 S → (∀ j, j < 7 → sR S 223 j = 0) → wp (fX12_twins k 53 S n 0 0 0) Q) : ∀ m i k S, i + m = 7 → K + m + 1 ≤ k → fm [223] S0 S → (∀ j, j < i → sR S 223 j = 0) → wp (fX12_twins k 32 S n (N i) 0 0) Q := by
  intro m
  induction m with
  | zero =>
    intro i k S hi hk hS hr
    obtain ⟨k, rfl, hk'⟩ := kS (m := K) hk
    rw [fX12_twins]
    simp only [bX12_twins_32, if_true]
    have : i = 7 := by omega
    subst this
    rw [if_pos (by decide)]
    exact hc k S hk' hS hr
  | succ m ih =>
    intro i k S hi hk hS hr
    obtain ⟨k, rfl, hk'⟩ := kS (m := K + m + 1) hk
    rw [fX12_twins]
    simp only [bX12_twins_32, if_true]
    rw [if_neg (show ¬ (7 : Int32) ≤ N i from fun c => absurd ((leN (a := 7) (by omega) (by omega)).mp c) (by omega)), if_pos (vpN (by omega) (by omega)), clN (by omega), wp_lt, addN1]
    refine ih (i + 1) k _ (by omega) hk' (fm_uR hS (by simp)) (fun j hj => ?_)
    rw [R_uR]
    split
    · rfl
    · rename_i e; exact hr j (by omega)
/-- one mouth against those before it -/
theorem mTw78 {S0 : gS} {fl r0 : Nat → Int32} {n t mo K : Nat} {Q : gS × Int32 → Prop} (hmo : mo < 7) (hf : ∀ j, j < 7 → sR S0 216 (12 + j) = fl j)
    (hc : ∀ k S, K ≤ k → fm [223] S0 S → (∀ j, sR S 223 j = if j = mo then r0 j ||| aUnl fl j mo else r0 j) → wp (fX12_twins k 65 S (N n) (N t) (N (mo + 1)) 0) Q) : ∀ m i k S, i + m = mo → K + m + 1 ≤ k → fm [223] S0 S → (∀ j, sR S 223 j = if j = mo then r0 j ||| aUnl fl j i else r0 j) → wp (fX12_twins k 78 S (N n) (N t) (N mo) (N i)) Q := by
  intro m
  induction m with
  | zero =>
    intro i k S hi hk hS hr
    obtain ⟨k, rfl, hk'⟩ := kS (m := K) hk
    rw [fX12_twins]
    simp only [if_true]
    rw [if_neg (by decide), if_neg (by decide), if_neg (by decide)]
    simp only [bX12_twins_78]
    have : i = mo := by omega
    subst this
    rw [if_pos ((leN (by omega) (by omega)).mpr (by omega)), addN1]
    exact hc k S hk' hS hr
  | succ m ih =>
    intro i k S hi hk hS hr
    obtain ⟨k, rfl, hk'⟩ := kS (m := K + m + 1) hk
    have e1 : sR S 216 (12 + mo) = fl mo := by rw [fmR hS (n223 (by omega)) (by omega)]; exact hf mo hmo
    have e2 : sR S 216 (12 + i) = fl i := by rw [fmR hS (n223 (by omega)) (by omega)]; exact hf i (by omega)
    rw [fX12_twins]
    simp only [if_true]
    rw [if_neg (by decide), if_neg (by decide), if_neg (by decide)]
    simp only [bX12_twins_78]
    rw [if_neg (fun e => absurd ((leN (by omega) (by omega)).mp e) (by omega)), if_pos (vpN (by omega) (by omega)), pl12, pl12, if_pos (vpN (by omega) (by omega)), if_pos (vpN (by omega) (by omega)), clN (by omega), clN (by omega), clN (by omega), e1, e2, addN1, wp_ite, wp_lt, wp_lt, hr mo, if_pos rfl, Int32.or_zero]
    refine ⟨fun e => ?_, fun e => ?_⟩
    · refine ih (i + 1) k _ (by omega) hk' (fm_uR hS (by simp)) (fun j => ?_)
      rw [R_uR]
      by_cases ej : j = mo
      · rw [if_pos ⟨rfl, ej⟩, if_pos ej, ej, aUnl, if_pos e.symm]
      · rw [if_neg (fun h => ej h.2), hr j, if_neg ej, if_neg ej]
    · refine ih (i + 1) k _ (by omega) hk' (fm_uR hS (by simp)) (fun j => ?_)
      rw [R_uR]
      by_cases ej : j = mo
      · rw [if_pos ⟨rfl, ej⟩, if_pos ej, ej, aUnl, if_neg (fun h => e h.symm), Int32.or_assoc]; rfl
      · rw [if_neg (fun h => ej h.2), hr j, if_neg ej, if_neg ej]
theorem mTw65 {S0 : gS} {F : aF} {fl r0 : Nat → Int32} {n t K : Nat} {Q : gS × Int32 → Prop} (hF : fMo S0 F) (ok : okF F) (ht : t < 1000) (hf : ∀ j, j < 7 → sR S0 216 (12 + j) = fl j)
    (hc : ∀ k S, K ≤ k → fm [223] S0 S → (∀ j, j < fN F → sR S 223 j = r0 j ||| aUnl fl j j) → wp (fX12_twins k 53 S (N n) (N (t + 1)) 0 0) Q) : ∀ m i k S, i + m = fN F → K + 12 * m + 1 ≤ k → fm [223] S0 S → (∀ j, j < fN F → sR S 223 j = if j < i then r0 j ||| aUnl fl j j else r0 j) → wp (fX12_twins k 65 S (N n) (N t) (N i) 0) Q := by
  have h7 := ok.1
  intro m
  induction m with
  | zero =>
    intro i k S hi hk hS hr
    obtain ⟨k, rfl, hk'⟩ := kS (m := K) hk
    have hF' := fMo_fm hF hS (fun b hb => n223 (by omega))
    rw [fX12_twins]
    simp only [if_true]
    rw [if_neg (by decide), if_neg (by decide)]
    simp only [bX12_twins_65]
    rw [hF'.1, if_pos ((leN (by omega) (by omega)).mpr (by omega)), addN1]
    exact hc k S hk' hS (fun j hj => by rw [hr j hj, if_pos (by omega)])
  | succ m ih =>
    intro i k S hi hk hS hr
    obtain ⟨k, rfl, hk'⟩ := kS (m := K + 12 * m + 12) (by omega)
    have hF' := fMo_fm hF hS (fun b hb => n223 (by omega))
    rw [fX12_twins]
    simp only [if_true]
    rw [if_neg (by decide), if_neg (by decide)]
    simp only [bX12_twins_65]
    rw [hF'.1, if_neg (fun e => absurd ((leN (by omega) (by omega)).mp e) (by omega))]
    refine mTw78 (S0 := S) (fl := fl) (r0 := fun j => sR S 223 j) (mo := i) (K := K + 12 * m + 1) (by omega) (fun j hj => by rw [fmR hS (n223 (by omega)) (by omega)]; exact hf j hj) ?_ i 0 k S (by omega) (by omega) fm_rf (fun j => by rw [aUnl, Int32.or_zero]; split <;> rfl)
    intro k' S2 hk2 t1 t2
    refine ih (i + 1) k' S2 (by omega) hk2 (fm_tr hS t1) (fun j hj => ?_)
    rw [t2 j, hr j hj]
    by_cases e : j = i
    · subst e
      rw [if_pos rfl, if_neg (by omega), if_pos (by omega)]
    · rw [if_neg e]
      by_cases e2 : j < i
      · rw [if_pos e2, if_pos (by omega)]
      · rw [if_neg e2, if_neg (by omega)]
theorem mTw158 {S : gS} {F : aF} {A : aW} {q : Nat} (hF : fMo S F) (ok : okF F) (hr : ∀ j, j < fN F → sR S 223 j = aRw F A j j q) : ∀ m i k, i + m = fN F → m + 1 ≤ k → fX12_twins k 158 S 0 (sm (fun m => sm (fun o => gg F A q m o) m) i) (N i) 0 = some (S, sm (fun m => sm (fun o => gg F A q m o) m) (fN F)) := by
  have h7 := ok.1
  intro m
  induction m with
  | zero =>
    intro i k hi hk
    obtain ⟨k, rfl, -⟩ := kS (m := 0) hk
    rw [fX12_twins]
    simp only [if_true]
    rw [if_neg (by decide), if_neg (by decide), if_neg (by decide), if_neg (by decide)]
    simp only [bX12_twins_158]
    have : i = fN F := by omega
    subst this
    rw [hF.1, if_pos ((leN (by omega) (by omega)).mpr (by omega))]
  | succ m ih =>
    intro i k hi hk
    obtain ⟨k, rfl, hk'⟩ := kS (m := m + 1) hk
    rw [fX12_twins]
    simp only [if_true]
    rw [if_neg (by decide), if_neg (by decide), if_neg (by decide), if_neg (by decide)]
    simp only [bX12_twins_158]
    rw [hF.1, if_neg (fun e => absurd ((leN (by omega) (by omega)).mp e) (by omega)), if_pos (vpN (by omega) (by omega)), clN (by omega), hr i (by omega), mBits]
    simp only [g_b2]
    rw [addN1, twM (by omega)]
    exact ih (i + 1) k (by omega) hk'
theorem mTw53 {S0 : gS} {F : aF} {A : aW} {c n : Nat} (ok : okF F) (okA : okW F c A) (hc : c ≤ 2000) (hn : n ≤ 60) : ∀ m i k S, i + m = n → 100 * m + 20 ≤ k → mAs S0 S F → rM S 216 0 (aIt F A i) → (∀ j, j < fN F → sR S 223 j = aRw F A j j i) → wp (fX12_twins k 53 S (N n) (N i) 0 0) (fun q => keepM S0 q.1 ∧ q.2 = sm (fun m => sm (fun o => gg F A n m o) m) (fN F)) := by
  have h7 := ok.1
  intro m
  induction m with
  | zero =>
    intro i k S hi hk hS hR hr
    obtain ⟨k, rfl, hk'⟩ := kS (m := 19) (by omega)
    rw [fX12_twins]
    simp only [if_true]
    rw [if_neg (by decide)]
    simp only [bX12_twins_53]
    have : i = n := by omega
    subst this
    rw [if_pos ((leN (by omega) (by omega)).mpr (by omega)), wp_b1]
    refine wp_mono (mBack hS) ?_
    rintro T ⟨u1, u2⟩
    refine wp_eq (mTw158 (q := i) (A := A) (fMo_fm hS.2.1 u2 (fun b hb => P1n hb)) ok (fun j hj => by rw [fmR u2 (by decide) (by decide)]; exact hr j hj) (fN F) 0 k (by omega) (by omega)) ?_
    exact ⟨u1, rfl⟩
  | succ m ih =>
    intro i k S hi hk hS hR hr
    obtain ⟨k, rfl, hk'⟩ := kS (m := 100 * m + 119) (by omega)
    rw [fX12_twins]
    simp only [if_true]
    rw [if_neg (by decide)]
    simp only [bX12_twins_53]
    rw [if_neg (fun e => absurd ((leN (by omega) (by omega)).mp e) (by omega)), wp_b2]
    refine wp_mono (mTold hS.2.1 ok hR (okIt ok okA i) (by omega)) ?_
    rintro ⟨S1, x⟩ ⟨q1, q2, -⟩
    dsimp only at q1 q2 ⊢
    have as1 := mAs_ps hS q1
    refine mTw65 (S0 := S1) (t := i) (n := n) (K := 100 * m + 20) (fl := wFl (aIt F A (i + 1))) (r0 := fun j => aRw F A j j i) as1.2.1 ok (by omega) (fun j hj => by have := q2.2.2.2.1 j hj; rw [Nat.zero_add] at this; exact this) ?_ (fN F) 0 k S1 (by omega) (by omega) fm_rf (fun j hj => by rw [if_neg (by omega), fmR q1 (by decide) (by decide)]; exact hr j hj)
    intro k' S2 hk2 t1 t2
    exact ih (i + 1) k' S2 (by omega) (by omega) (mAs_223 as1 t1) (rM_x q2 (fmR t1 (by decide) (by decide))) t2
theorem op_twins {c : Nat} (hc : c ≤ 1000) : Ob_twins (Good c) (Good (c + 1)) := by
  intro S p0 hG
  refine ask (FX := fun S => FX11_twins S p0) (FM := fun S => FX12_twins S p0) hG ?_
  intro f d w F mn ln A D W E p n t ch g
  obtain ⟨hh, hA, okA⟩ := GO_hX g
  have h7 := hh.2.2.1
  by_cases b0 : inr 1 61 p0
  · have b0' := b0
    obtain ⟨k, k0, k1, k2, rfl⟩ := b0
    refine ⟨sm (fun m => sm (fun o => gg F A k m o) m) (fN F), ?_, fun S1 g1 => ?_⟩
    · unfold FX11_twins
      rw [wp_b2]
      refine xgA (fun _ => ?_) (fun e => absurd b0' e)
      rw [if_pos rfl, wp_b1]
      refine wp_mono xEmpty ?_
      rintro S2 ⟨q1, q2⟩
      have hS2 := fr_mo q1 xSn179
      rw [wp_b1]
      refine wp_mono (xTake (rX_S hA hS2) okA.1) ?_
      rintro S3 ⟨r1, r2⟩
      refine xTw26 hh okA (by omega) (by omega) k 0 FU S3 (by omega) (by unfold FU; omega) (fr_tr hS2 (fr_mo r1 xTs)) r2 (fun j hj => ?_)
      rw [frR r1 (by decide)]; exact q2 j (by omega)
    · obtain ⟨hM, ok, rA, okA⟩ := GO_fM g1
      unfold FX12_twins
      rw [wp_lt, wp_b2]
      refine mgW 1 60 (by omega) (by omega) (fun _ => ?_) (fun e => absurd b0' e)
      rw [if_pos rfl, wp_b1]
      refine wp_mono (mTake (th_fMo hM) (th_rM rA) okA.1) ?_
      rintro S2 ⟨q1, q2⟩
      refine mTw32 (S0 := S2) (K := 50000) ?_ 7 0 FU S2 (by omega) (by unfold FU; omega) fm_rf (fun j hj => absurd hj (by omega))
      intro k' S3 hk2 t1 t2
      refine wp_mono (mTw53 ok okA (by omega) (by omega) k 0 k' S3 (by omega) (by omega) (mAs_223 q1 t1) (rM_x q2 (fmR t1 (by decide) (by decide))) (fun j hj => t2 j (by omega))) ?_
      rintro ⟨S4, x⟩ ⟨r1, r2⟩
      exact ⟨keep_tr keep_th r1, r2⟩
  · refine ⟨-1, ?_, fun S1 g1 => ?_⟩
    · unfold FX11_twins
      rw [wp_b2]
      refine xgA (fun e => absurd e b0) (fun _ => ?_)
      rw [if_neg Bool.false_ne_true, wp_some]; exact ⟨fr_rf, rfl⟩
    · unfold FX12_twins
      rw [wp_lt, wp_b2]
      refine mgW 1 60 (by omega) (by omega) (fun e => absurd e b0) (fun _ => ?_)
      rw [if_neg Bool.false_ne_true, wp_some]; exact ⟨keep_th, rfl⟩
