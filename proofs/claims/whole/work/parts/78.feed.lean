/-! feed -/
def by64 (j : Int64) (s : Int32) : Int32 := Int64.toInt32 ((((Int64.toUInt64 j >>> ((Int32.toInt64 s).toUInt64 &&& Int64.toUInt64 63)).toInt64) &&& (255 : Int64)))
theorem and255 {y : Int64} : ∃ v, v < 256 ∧ y &&& (255 : Int64) = LN v := by
  refine ⟨(y &&& (255 : Int64)).toBitVec.toNat, ?_, ?_⟩
  · rw [Int64.toBitVec_and, BitVec.toNat_and]
    have : y.toBitVec.toNat &&& (255 : Int64).toBitVec.toNat ≤ (255 : Int64).toBitVec.toNat := Nat.and_le_right
    have e : (255 : Int64).toBitVec.toNat = 255 := rfl
    omega
  · apply Int64.toBitVec.inj
    change (y &&& (255 : Int64)).toBitVec = BitVec.ofInt 64 ((y &&& (255 : Int64)).toBitVec.toNat : Int)
    rw [BitVec.ofInt_natCast, BitVec.ofNat_toNat, BitVec.setWidth_eq]
theorem by64_N {j : Int64} {s : Int32} : ∃ v, v < 256 ∧ by64 j s = N v := by
  unfold by64
  obtain ⟨v, h1, h2⟩ := and255 (y := (Int64.toUInt64 j >>> ((Int32.toInt64 s).toUInt64 &&& Int64.toUInt64 63)).toInt64)
  exact ⟨v, h1, by rw [h2, LN32]⟩
def bvN (j : Int64) (s : Int32) : Nat := (by64 j s).toNatClampNeg
theorem bvN_b {j : Int64} {s : Int32} : bvN j s < 256 ∧ by64 j s = N (bvN j s) := by
  obtain ⟨v, h1, h2⟩ := by64_N (j := j) (s := s)
  unfold bvN
  rw [h2, clN (by omega)]
  exact ⟨h1, rfl⟩
def upn (f : Nat → Nat) (k x : Nat) : Nat → Nat := fun i => if i = k then x else f i
def okCb (v : Nat) : Bool := decide (v = 10 ∨ 32 ≤ v ∧ v ≤ 126)
abbrev aTp : Type := Nat × (Nat → Nat)
def aPut (T : aTp) (v : Nat) : aTp := if okCb v = true ∧ T.1 < 1000 then (T.1 + 1, upn T.2 T.1 v) else T
def aAdd (j : Int64) : Nat → Nat → aTp → aTp
  | 0, _, T => T
  | m + 1, k, T => aAdd j m (k + 1) (aPut T (bvN j (N (56 - 8 * k))))
def wSel (a b c : Int64) (k : Nat) : Int64 := if k < 8 then a else if k < 16 then b else c
def aMf (a b c : Int64) : Nat → Nat → aTp → aTp
  | 0, _, T => T
  | m + 1, k, T => aMf a b c m (k + 1) (aPut T (bvN (wSel a b c k) (N (56 - 8 * (k % 8)))))
theorem aMf_st {a b c j : Int64} {o r : Nat} : ∀ m k T, (∀ i, i < k + m → wSel a b c (o + i) = j ∧ (o + i) % 8 = i) → aMf a b c (m + r) (o + k) T = aMf a b c r (o + (k + m)) (aAdd j m k T) := by
  intro m
  induction m with
  | zero => intro k T _; rw [Nat.zero_add, aAdd, Nat.add_zero]
  | succ m ih =>
    intro k T h
    rw [show m + 1 + r = (m + r) + 1 by omega, aMf, aAdd, (h k (by omega)).1, (h k (by omega)).2, show o + k + 1 = o + (k + 1) by omega, ih (k + 1) _ (fun i hi => h i (by omega)), show k + 1 + m = k + (m + 1) by omega]
theorem aMf_eq {a b c : Int64} {T : aTp} : aMf a b c 24 0 T = aAdd c 8 0 (aAdd b 8 0 (aAdd a 8 0 T)) := by
  have h1 := aMf_st (a := a) (b := b) (c := c) (j := a) (o := 0) (r := 16) 8 0 T (fun i hi => ⟨by unfold wSel; rw [if_pos (by omega)], by omega⟩)
  have h2 := aMf_st (a := a) (b := b) (c := c) (j := b) (o := 8) (r := 8) 8 0 (aAdd a 8 0 T) (fun i hi => ⟨by unfold wSel; rw [if_neg (by omega), if_pos (by omega)], by omega⟩)
  have h3 := aMf_st (a := a) (b := b) (c := c) (j := c) (o := 16) (r := 0) 8 0 (aAdd b 8 0 (aAdd a 8 0 T)) (fun i hi => ⟨by unfold wSel; rw [if_neg (by omega), if_neg (by omega)], by omega⟩)
  exact h1.trans (h2.trans h3)
theorem okPut {T : aTp} {v : Nat} (h : T.1 ≤ 1000 ∧ ∀ i, i < T.1 → okC (T.2 i)) : (aPut T v).1 ≤ 1000 ∧ ∀ i, i < (aPut T v).1 → okC ((aPut T v).2 i) := by
  unfold aPut
  split
  · rename_i e
    refine ⟨by dsimp only; omega, fun i hi => ?_⟩
    dsimp only at hi ⊢
    unfold upn
    split
    · exact of_decide_eq_true (p := v = 10 ∨ 32 ≤ v ∧ v ≤ 126) e.1
    · exact h.2 i (by omega)
  · exact h
theorem okAdd {j : Int64} : ∀ m k T, (T.1 ≤ 1000 ∧ ∀ i, i < T.1 → okC (T.2 i)) → (aAdd j m k T).1 ≤ 1000 ∧ ∀ i, i < (aAdd j m k T).1 → okC ((aAdd j m k T).2 i) := by
  intro m
  induction m with
  | zero => intro k T h; exact h
  | succ m ih => intro k T h; rw [aAdd]; exact ih (k + 1) _ (okPut h)
def tpX (S : gS) (T : aTp) : Prop := sI S 1 1 = N T.1 ∧ ∀ i, i < T.1 → sR S 2 i = N (T.2 i)
def tpM (S : gS) (T : aTp) : Prop := sI S 180 1 = N T.1 ∧ ∀ i, i < T.1 → sR S 181 i = N (T.2 i)
def shf (k : Nat) : Int32 := if k < 8 then N (56 - 8 * k) else -8
theorem shf_s : ∀ k, k < 8 → shf k + (-8) = shf (k + 1) := by decide +kernel
theorem shf_n : ∀ k, k < 8 → shf k = N (56 - 8 * k) := by decide +kernel
theorem nar_c : ∀ v, v < 256 → vp_nar .char ((Int32.toUInt32 (N v) % 65536).toInt32) = N v := by decide +kernel
theorem xPutL {S0 S : gS} {j : Int64} {K k0 : Nat} {T : aTp} {Q : gS → Prop} {v : Nat} (hT : tpX S T) (h1k : T.1 ≤ 1000) (hv : v < 256) (hk : k0 < 8) (hS : fr [1, 2] S0 S) (hc : ∀ k S, K ≤ k → fr [1, 2] S0 S → tpX S (aPut T v) → wp (fX8_addBytes k 3 S j (shf (k0 + 1)) 0 0) Q) : ∀ k, K + 1 ≤ k → wp (fX8_addBytes k 45 S j (shf k0) (N v) (g_b (okCb v))) Q := by
  intro k hk2
  obtain ⟨k, rfl, hk'⟩ := kS (m := K) hk2
  rw [fX8_addBytes]
  simp only [if_true]
  rw [if_neg (by decide)]
  simp only [bX8_addBytes_45]
  rw [shf_s k0 hk]
  by_cases e : okCb v = true
  · rw [e, if_neg (show ¬ g_b true = 0 by decide), hT.1]
    by_cases e2 : T.1 < 1000
    · have ep : aPut T v = (T.1 + 1, upn T.2 T.1 v) := by unfold aPut; rw [if_pos ⟨e, e2⟩]
      rw [if_neg (show ¬ (1000 : Int32) ≤ N T.1 from fun c => by have := (leN (a := 1000) (by omega) (by omega)).mp c; omega), if_pos (vpN (by omega) (by omega)), clN (by omega), nar_c v hv, wp_lt]
      have e1 : sI (uR S 2 T.1 (N v)) 1 1 = N T.1 := hT.1
      rw [e1, addN1, wp_lt]
      refine hc k _ hk' (fr_uI (fr_uR hS (by simp)) (by simp)) ?_
      rw [ep]
      refine ⟨by rw [I_uI, if_pos ⟨rfl, rfl⟩], fun i hi => ?_⟩
      dsimp only at hi ⊢
      rw [R_uI, R_uR]
      unfold upn
      by_cases ei : i = T.1
      · rw [if_pos ⟨rfl, ei⟩, if_pos ei]
      · rw [if_neg (by omega), if_neg ei]; exact hT.2 i (by omega)
    · have ep : aPut T v = T := by unfold aPut; rw [if_neg (fun h => e2 h.2)]
      rw [if_pos (show (1000 : Int32) ≤ N T.1 from (leN (a := 1000) (by omega) (by omega)).mpr (by omega))]
      refine hc k S hk' hS ?_
      rw [ep]; exact hT
  · have e' : okCb v = false := by simpa using e
    have ep : aPut T v = T := by unfold aPut; rw [if_neg (fun h => e h.1)]
    rw [e', if_pos (show g_b false = 0 from rfl)]
    refine hc k S hk' hS ?_
    rw [ep]; exact hT
theorem okCb_c {v : Nat} (hv : v < 256) : (N v = 10 → okCb v = true) ∧ (¬ N v = 10 → N v < 32 → okCb v = false) ∧ (¬ N v = 10 → ¬ N v < 32 → (126 : Int32) < N v → okCb v = false) ∧ (¬ N v = 10 → ¬ N v < 32 → ¬ (126 : Int32) < N v → okCb v = true) := by
  have a : (N v = 10) ↔ v = 10 := eqN (b := 10) (by omega) (by omega)
  have b : (N v < 32) ↔ v < 32 := ltN (b := 32) (by omega) (by omega)
  have d : ((126 : Int32) < N v) ↔ 126 < v := ltN (a := 126) (by omega) (by omega)
  unfold okCb
  rw [a, b, d]
  refine ⟨fun h => decide_eq_true (by omega), fun h h2 => decide_eq_false (by omega), fun h h2 h3 => decide_eq_false (by omega), fun h h2 h3 => decide_eq_true (by omega)⟩
theorem xAddL {S0 : gS} {j : Int64} : ∀ m k0 k S T, k0 + m = 8 → 2 * m + 1 ≤ k → fr [1, 2] S0 S → tpX S T → T.1 ≤ 1000 → (∀ i, i < T.1 → okC (T.2 i)) → wp (fX8_addBytes k 3 S j (shf k0) 0 0) (fun U => fr [1, 2] S0 U ∧ tpX U (aAdd j m k0 T)) := by
  intro m
  induction m with
  | zero =>
    intro k0 k S T hk0 hk hS hT h1 h2
    obtain ⟨k, rfl, -⟩ := kS (m := 0) hk
    rw [fX8_addBytes]
    simp only [if_true, bX8_addBytes_3]
    have : k0 = 8 := by omega
    subst this
    rw [if_pos (by decide), wp_some]
    exact ⟨hS, hT⟩
  | succ m ih =>
    intro k0 k S T hk0 hk hS hT h1 h2
    obtain ⟨k, rfl, hk'⟩ := kS (m := 2 * m + 2) (by omega)
    have hb := bvN_b (j := j) (s := N (56 - 8 * k0))
    obtain ⟨c1, c2, c3, c4⟩ := okCb_c hb.1
    have go := xPutL (S0 := S0) (j := j) (K := 2 * m + 1) (T := T) (v := bvN j (N (56 - 8 * k0))) (Q := fun U => fr [1, 2] S0 U ∧ tpX U (aAdd j (m + 1) k0 T)) hT h1 hb.1 (show k0 < 8 by omega) hS (fun k S' hk2 hS' hT' => ih (k0 + 1) k S' _ (by omega) hk2 hS' hT' (okPut ⟨h1, h2⟩).1 (okPut ⟨h1, h2⟩).2) k hk'
    rw [fX8_addBytes]
    simp only [if_true, bX8_addBytes_3]
    rw [shf_n k0 (by omega)] at go ⊢
    rw [if_neg (nN_lt0 (by omega))]
    change wp (if by64 j (N (56 - 8 * k0)) = 10 then fX8_addBytes k 45 S j (N (56 - 8 * k0)) (by64 j (N (56 - 8 * k0))) 1 else if by64 j (N (56 - 8 * k0)) < 32 then fX8_addBytes k 45 S j (N (56 - 8 * k0)) (by64 j (N (56 - 8 * k0))) 0 else if 126 < by64 j (N (56 - 8 * k0)) then fX8_addBytes k 45 S j (N (56 - 8 * k0)) (by64 j (N (56 - 8 * k0))) 0 else fX8_addBytes k 45 S j (N (56 - 8 * k0)) (by64 j (N (56 - 8 * k0))) 1) _
    rw [hb.2]
    by_cases e1 : N (bvN j (N (56 - 8 * k0))) = 10
    · rw [if_pos e1]; rw [c1 e1] at go; exact go
    · rw [if_neg e1]
      by_cases e2 : N (bvN j (N (56 - 8 * k0))) < 32
      · rw [if_pos e2]; rw [c2 e1 e2] at go; exact go
      · rw [if_neg e2]
        by_cases e3 : (126 : Int32) < N (bvN j (N (56 - 8 * k0)))
        · rw [if_pos e3]; rw [c3 e1 e2 e3] at go; exact go
        · rw [if_neg e3]; rw [c4 e1 e2 e3] at go; exact go
theorem xAddB8 {S : gS} {j : Int64} {T : aTp} (hT : tpX S T) (h1 : T.1 ≤ 1000 ∧ ∀ i, i < T.1 → okC (T.2 i)) : wp (FX8_addBytes S j) (fun U => fr [1, 2] S U ∧ tpX U (aAdd j 8 0 T)) := by
  unfold FX8_addBytes
  exact xAddL 8 0 FU S T (by omega) (by unfold FU; omega) fr_rf hT h1.1 h1.2
theorem mSh : ∀ k, k < 24 → (56 : Int32) - ((8 : Int32) * (N k &&& (7 : Int32))) = N (56 - 8 * (k % 8)) := by decide +kernel
theorem mFeed {S0 : gS} {a b c : Int64} : ∀ m k0 k S T, k0 + m = 24 → 3 * m + 1 ≤ k → fr [180, 181] S0 S → sI S 180 53 = sI S0 180 53 → tpM S T → T.1 ≤ 1000 → (∀ i, i < T.1 → okC (T.2 i)) → wp (fX12_feed k 8 S a b c (N k0) 0 0) (fun q => fr [180, 181] S0 q.1 ∧ sI q.1 180 53 = sI S0 180 53 ∧ tpM q.1 (aMf a b c m k0 T) ∧ q.2 = N (aMf a b c m k0 T).1) := by
  intro m
  induction m with
  | zero =>
    intro k0 k S T hk0 hk hS h53 hT h1 h2
    obtain ⟨k, rfl, -⟩ := kS (m := 0) hk
    rw [fX12_feed]
    simp only [if_true, bX12_feed_8]
    have : k0 = 24 := by omega
    subst this
    rw [if_pos (by decide), wp_some]
    exact ⟨hS, h53, hT, hT.1⟩
  | succ m ih =>
    intro k0 k S T hk0 hk hS h53 hT h1 h2
    obtain ⟨k, rfl, hk'⟩ := kS (m := 3 * m + 3) (by omega)
    obtain ⟨k, rfl, hk2⟩ := kS (m := 3 * m + 2) hk'
    obtain ⟨k, rfl, hk3⟩ := kS (m := 3 * m + 1) hk2
    have hb := bvN_b (j := wSel a b c k0) (s := N (56 - 8 * (k0 % 8)))
    obtain ⟨c1, c2, c3, c4⟩ := okCb_c hb.1
    have e41 : wp (fX12_feed (k + 1 + 1) 41 S a b c (N k0) (wSel a b c k0) 0) (fun q => fr [180, 181] S0 q.1 ∧ sI q.1 180 53 = sI S0 180 53 ∧ tpM q.1 (aMf a b c (m + 1) k0 T) ∧ q.2 = N (aMf a b c (m + 1) k0 T).1) := by
      rw [fX12_feed]
      simp only [if_true]
      rw [if_neg (by decide)]
      simp only [bX12_feed_41]
      rw [mSh k0 (by omega), hT.1, addN1, aMf]
      change wp (if (1000 : Int32) ≤ N T.1 then fX12_feed (k + 1) 8 S a b c (N (k0 + 1)) 0 0 else if by64 (wSel a b c k0) (N (56 - 8 * (k0 % 8))) = 10 then fX12_feed (k + 1) 93 S a b c (N k0) 0 (by64 (wSel a b c k0) (N (56 - 8 * (k0 % 8)))) else if by64 (wSel a b c k0) (N (56 - 8 * (k0 % 8))) < 32 then fX12_feed (k + 1) 8 S a b c (N (k0 + 1)) 0 0 else if 126 < by64 (wSel a b c k0) (N (56 - 8 * (k0 % 8))) then fX12_feed (k + 1) 8 S a b c (N (k0 + 1)) 0 0 else fX12_feed (k + 1) 93 S a b c (N k0) 0 (by64 (wSel a b c k0) (N (56 - 8 * (k0 % 8))))) _
      have skip : aPut T (bvN (wSel a b c k0) (N (56 - 8 * (k0 % 8)))) = T → wp (fX12_feed (k + 1) 8 S a b c (N (k0 + 1)) 0 0) (fun q => fr [180, 181] S0 q.1 ∧ sI q.1 180 53 = sI S0 180 53 ∧ tpM q.1 (aMf a b c m (k0 + 1) (aPut T (bvN (wSel a b c k0) (N (56 - 8 * (k0 % 8)))))) ∧ q.2 = N (aMf a b c m (k0 + 1) (aPut T (bvN (wSel a b c k0) (N (56 - 8 * (k0 % 8)))))).1) := by
        intro e
        rw [e]
        exact ih (k0 + 1) (k + 1) S T (by omega) (by omega) hS h53 hT h1 h2
      rw [hb.2]
      by_cases e2 : T.1 < 1000
      · rw [if_neg (show ¬ (1000 : Int32) ≤ N T.1 from fun c => by have := (leN (a := 1000) (by omega) (by omega)).mp c; omega)]
        have put : okCb (bvN (wSel a b c k0) (N (56 - 8 * (k0 % 8)))) = true → wp (fX12_feed (k + 1) 93 S a b c (N k0) 0 (N (bvN (wSel a b c k0) (N (56 - 8 * (k0 % 8)))))) (fun q => fr [180, 181] S0 q.1 ∧ sI q.1 180 53 = sI S0 180 53 ∧ tpM q.1 (aMf a b c m (k0 + 1) (aPut T (bvN (wSel a b c k0) (N (56 - 8 * (k0 % 8)))))) ∧ q.2 = N (aMf a b c m (k0 + 1) (aPut T (bvN (wSel a b c k0) (N (56 - 8 * (k0 % 8)))))).1) := by
          intro e
          have ep : aPut T (bvN (wSel a b c k0) (N (56 - 8 * (k0 % 8)))) = (T.1 + 1, upn T.2 T.1 (bvN (wSel a b c k0) (N (56 - 8 * (k0 % 8))))) := by
            have : okCb (bvN (wSel a b c k0) (N (56 - 8 * (k0 % 8)))) = true ∧ T.1 < 1000 := ⟨e, e2⟩
            unfold aPut; rw [if_pos this]
          rw [fX12_feed]
          simp only [if_true]
          rw [if_neg (by decide), if_neg (by decide)]
          simp only [bX12_feed_93]
          rw [hT.1, if_pos (vpN (by omega) (by omega)), clN (by omega), wp_lt]
          have e1 : sI (uR S 181 T.1 (N (bvN (wSel a b c k0) (N (56 - 8 * (k0 % 8)))))) 180 1 = N T.1 := hT.1
          rw [e1, addN1, wp_lt, addN1]
          have ok2 := okPut (v := bvN (wSel a b c k0) (N (56 - 8 * (k0 % 8)))) ⟨h1, h2⟩
          refine ih (k0 + 1) k _ _ (by omega) (by omega) (fr_uI (fr_uR hS (by simp)) (by simp)) ?_ ?_ ok2.1 ok2.2
          · rw [I_uI, if_neg (by omega)]; exact h53
          · rw [ep]
            refine ⟨by rw [I_uI, if_pos ⟨rfl, rfl⟩], fun i hi => ?_⟩
            dsimp only at hi ⊢
            rw [R_uI, R_uR]
            unfold upn
            by_cases ei : i = T.1
            · rw [if_pos ⟨rfl, ei⟩, if_pos ei]
            · rw [if_neg (by omega), if_neg ei]; exact hT.2 i (by omega)
        have noput : okCb (bvN (wSel a b c k0) (N (56 - 8 * (k0 % 8)))) = false → aPut T (bvN (wSel a b c k0) (N (56 - 8 * (k0 % 8)))) = T := by
          intro e
          have : ¬ (okCb (bvN (wSel a b c k0) (N (56 - 8 * (k0 % 8)))) = true ∧ T.1 < 1000) := fun h => by rw [e] at h; exact absurd h.1 Bool.false_ne_true
          unfold aPut; rw [if_neg this]
        by_cases d1 : N (bvN (wSel a b c k0) (N (56 - 8 * (k0 % 8)))) = 10
        · rw [if_pos d1]; exact put (c1 d1)
        · rw [if_neg d1]
          by_cases d2 : N (bvN (wSel a b c k0) (N (56 - 8 * (k0 % 8)))) < 32
          · rw [if_pos d2]; exact skip (noput (c2 d1 d2))
          · rw [if_neg d2]
            by_cases d3 : (126 : Int32) < N (bvN (wSel a b c k0) (N (56 - 8 * (k0 % 8))))
            · rw [if_pos d3]; exact skip (noput (c3 d1 d2 d3))
            · rw [if_neg d3]; exact put (c4 d1 d2 d3)
      · rw [if_pos (show (1000 : Int32) ≤ N T.1 from (leN (a := 1000) (by omega) (by omega)).mpr (by omega))]
        refine skip ?_
        have : ¬ (okCb (bvN (wSel a b c k0) (N (56 - 8 * (k0 % 8)))) = true ∧ T.1 < 1000) := fun h => e2 h.2
        unfold aPut; rw [if_neg this]
    rw [fX12_feed]
    simp only [if_true, bX12_feed_8]
    rw [if_neg (show ¬ (24 : Int32) ≤ N k0 from fun c => absurd ((leN (a := 24) (by omega) (by omega)).mp c) (by omega))]
    unfold wSel at e41
    by_cases d1 : k0 < 8
    · rw [if_pos d1] at e41
      rw [if_neg (show ¬ (8 : Int32) ≤ N k0 from fun c => absurd ((leN (a := 8) (by omega) (by omega)).mp c) (by omega))]
      exact e41
    · rw [if_neg d1] at e41
      rw [if_pos (show (8 : Int32) ≤ N k0 from (leN (a := 8) (by omega) (by omega)).mpr (by omega))]
      by_cases d2 : k0 < 16
      · rw [if_pos d2] at e41
        rw [if_neg (show ¬ (16 : Int32) ≤ N k0 from fun c => absurd ((leN (a := 16) (by omega) (by omega)).mp c) (by omega))]
        exact e41
      · rw [if_neg d2] at e41
        rw [if_pos (show (16 : Int32) ≤ N k0 from (leN (a := 16) (by omega) (by omega)).mpr (by omega))]
        exact e41
/-- x's things but the tape -/
theorem GX_tp {L : List Nat} {S S' : gS} {f d w : Nat} {F : aF} {mn ln : Nat → List Nat} {A : aW} {D : aD} {W : aO} {E : aE} {p n : Nat} {P : Nat → aW} {K : Nat → aK} {t : Nat} {ch : Nat → Nat} (x : GX S f d w F mn ln A D W E p n P K t ch) (hS : fr L S S') (hl : ∀ b, b ∈ L → b = 1 ∨ b = 2) {t' : Nat} {ch' : Nat → Nat} (h1 : sI S' 1 1 = N t' ∧ ∀ i, i < t' → sR S' 2 i = N (ch' i)) : GX S' f d w F mn ln A D W E p n P K t' ch' := by
  obtain ⟨x1, x2, x3, x4, x5, x6, x7, x8, x11, x12⟩ := x
  have hf := x1.2.2.1
  have hd := x1.2.2.2.2.2.1
  have hw := x1.2.2.2.2.2.2.2.2
  have nl : ∀ b, ¬ (b = 1 ∨ b = 2) → b ∉ L := fun b h hb => h (hl b hb)
  refine ⟨?_, fX_fr x2 hS (fun j hj => nl _ (by omega)), nX_fr x3 hS (fun j hj => nl _ (by omega)), rX_fr x4 hS (fun j hj => nl _ (by omega)), dX_fr x5 hS (fun j hj => nl _ (by omega)), oX_fr x6 hS (fun j hj => nl _ (by omega)), eX_fr x7 hS (fun j hj => nl _ (by omega)), ⟨(frI hS (nl _ (by omega)) 13).trans x8.1, (frI hS (nl _ (by omega)) 14).trans x8.2.1, fun i hi => rX_fr (x8.2.2 i hi) hS (fun j hj => nl _ (by omega))⟩, fun j hj => ⟨(frI hS (nl _ (by omega)) 0).trans (x11 j hj).1, fun hb => ?_⟩, h1⟩
  · unfold gQ at x1 ⊢; rw [frQ hS]; exact x1
  · obtain ⟨a1, a2, a3, a4⟩ := (x11 j hj).2 hb
    exact ⟨rX_fr a1 hS (fun i hi => nl _ (by omega)), dX_fr a2 hS (fun i hi => nl _ (by omega)), oX_fr a3 hS (fun i hi => nl _ (by omega)), eX_fr a4 hS (fun i hi => nl _ (by omega))⟩
theorem op_feed {c : Nat} : Ob_feed (Good c) (Good (c + 1)) := by
  intro S p0 p1 p2 hG
  refine deed (FX := fun S => FX11_feed S p0 p1 p2) (FM := fun S => FX12_feed S p0 p1 p2) hG ?_
  intro f d w F mn ln A D W E p n P K t ch x m k
  have kt := k.2.2.2.2.2.2.2.2
  have xt : tpX S (t, ch) := x.2.2.2.2.2.2.2.2.2
  unfold FX11_feed
  rw [wp_b1]
  refine wp_mono (xAddB8 (j := p0) xt kt) ?_
  rintro S1 ⟨q1, q2⟩
  have k1 := okAdd (j := p0) 8 0 (t, ch) kt
  rw [wp_b1]
  refine wp_mono (xAddB8 (j := p1) q2 k1) ?_
  rintro S2 ⟨r1, r2⟩
  have k2 := okAdd (j := p1) 8 0 _ k1
  rw [wp_b1]
  refine wp_mono (xAddB8 (j := p2) r2 k2) ?_
  rintro S3 ⟨s1, s2⟩
  have k3 := okAdd (j := p2) 8 0 _ k2
  rw [wp_some]
  have hS := fr_tr q1 (fr_tr r1 s1)
  have hl : ∀ b, b ∈ [1, 2] → b = 1 ∨ b = 2 := by intro b hb; simp only [List.mem_cons, List.not_mem_nil, or_false] at hb; omega
  have hsM : sM S S3 := fr_sM hS (by decide)
  obtain ⟨a1, a2, a3, a4, a5, a6, a7, a8, a9⟩ := GK_c (c' := c + 1) (by omega) k
  refine ⟨hsM, f, d, w, F, mn, ln, A, D, W, E, p, n, P, K, _, _, GX_tp x hS hl s2, ⟨a1, a2, a3, a4, a5, a6, a7, a8, k3⟩, ?_⟩
  have m1 := GM_th (y := 0) (m S3 hsM)
  have mt : tpM (uI S3 180 0 0) (t, ch) := m1.2.2.2.2.2.2.2.2
  unfold FX12_feed
  rw [wp_lt]
  refine wp_mono (mFeed (S0 := uI S3 180 0 0) (a := p0) (b := p1) (c := p2) 24 0 FU _ (t, ch) (by omega) (by unfold FU; omega) fr_rf rfl mt kt.1 kt.2) ?_
  rintro ⟨S4, y⟩ ⟨u1, u2, u3, u4⟩
  dsimp only at u1 u2 u3 u4 ⊢
  rw [aMf_eq] at u3 u4
  have nl : ∀ b, ¬ (b = 180 ∨ b = 181) → b ∉ [180, 181] := by intro b h hb; simp only [List.mem_cons, List.not_mem_nil, or_false] at hb; omega
  have hR : ∀ b, ¬ (b = 180 ∨ b = 181) → sR S4 b = sR (uI S3 180 0 0) b := fun b hb => frR u1 (nl b hb)
  have hL : ∀ b, ¬ (b = 180 ∨ b = 181) → sL S4 b = sL (uI S3 180 0 0) b := fun b hb => frL u1 (nl b hb)
  obtain ⟨y1, y2, y3, y4, y5, y6, ⟨y7, y8⟩, y9, y10⟩ := m1
  have dd : ∀ j D, dM (uI S3 180 0 0) j D → dM S4 j D := by
    intro j D h
    unfold dM at h ⊢; rw [hR _ (by omega), hR _ (by omega), hR _ (by omega), hR _ (by omega)]; exact h
  have oo : ∀ j D, oM (uI S3 180 0 0) j D → oM S4 j D := by
    intro j D h
    unfold oM at h ⊢; rw [hR _ (by omega), hR _ (by omega)]; exact h
  have ee : ∀ j D, eM (uI S3 180 0 0) j D → eM S4 j D := by
    intro j D h
    unfold eM at h ⊢; rw [hR _ (by omega), hR _ (by omega), hR _ (by omega)]; exact h
  refine ⟨sX_tr sX_th (fr_sX u1 (by decide)), ⟨?_, ?_, rM_x y3 (hR _ (by omega)), dd _ _ y4, oo _ _ y5, ee _ _ y6, ⟨u2.trans y7, fun i hi => rM_x (y8 i hi) (hR _ (by omega))⟩, fun j hj => ⟨?_, fun hb => ?_⟩, u3⟩, ?_⟩
  · obtain ⟨z1, z2, z3, z4, z5, z6, z7⟩ := y1
    refine ⟨?_, ?_, ?_, fun i hi => ?_, fun i hi => ?_, fun i hi => ?_, lawM_fr z7 (hR _ (by omega)) (hR _ (by omega)) (hR _ (by omega))⟩
    · rw [hR _ (by omega)]; exact z1
    · rw [hR _ (by omega)]; exact z2
    · rw [hR _ (by omega)]; exact z3
    · rw [hR 185 (by omega), hR 186 (by omega), hR 187 (by omega), hR 188 (by omega), hR 189 (by omega), hR 222 (by omega)]
      exact z4 i hi
    · rw [hR _ (by omega)]; exact z5 i hi
    · rw [hR _ (by omega)]; exact z6 i hi
  · unfold nM at y2 ⊢; rw [hL _ (by omega), hL _ (by omega)]; exact y2
  · rw [hR _ (by omega)]; exact (y9 j hj).1
  · obtain ⟨b1, b2, b3, b4⟩ := (y9 j hj).2 hb
    exact ⟨rM_x b1 (hR _ (by omega)), dd _ _ b2, oo _ _ b3, ee _ _ b4⟩
  · exact u4.trans s2.1.symm
