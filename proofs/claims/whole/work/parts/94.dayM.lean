/-! the model reads a line -/
theorem I_self {S : gS} {a k : Nat} {x : Int32} : sI (uI S a k x) a k = x := by rw [I_uI, if_pos ⟨rfl, rfl⟩]
theorem mMouL {S : gS} {L : Nat} {ns : Nat → List Nat} {l : List Nat} (hL : L ≤ 7) (h8 : sR S 182 0 = N L) (hn : ∀ i, i < L → sL S 183 i = LN (e27 (ns i))) (hk : ∀ i, i < L → okN (ns i)) (hl : okN l) (h7 : sJ S 180 7 = LN (e27 l)) : ∀ m i k, i + m = L → m + 1 ≤ k → fX12_mouthNamed k 5 S 0 (N i) = some (S, nAn (ixN ns l m i) L) := by
  have e1 : Int32.toNatClampNeg (((3 : Int32) * 0) + (0 : Int32)) = 0 := by decide
  have e2 : ∀ x : Int32, ((7 : Int32) * 0) + x = x := by
    intro x
    rw [show (7 : Int32) * 0 = 0 by decide, Int32.zero_add]
  have e3 : ∀ x : Int32, x - ((7 : Int32) * 0) = x := by
    intro x
    rw [show (7 : Int32) * 0 = 0 by decide, Int32.sub_zero]
  intro m
  induction m with
  | zero =>
    intro i k hi hk2
    obtain ⟨k, rfl, -⟩ := kS (m := 0) hk2
    rw [fX12_mouthNamed]
    simp only [if_true, bX12_mouthNamed_5]
    rw [if_pos (by decide), e1, e2, h8, if_pos ((leN (by omega) (by omega)).mpr (by omega)), ixN]
    unfold nAn
    rw [if_neg (by omega)]
  | succ m ih =>
    intro i k hi hk2
    obtain ⟨k, rfl, hk'⟩ := kS (m := m + 1) hk2
    rw [fX12_mouthNamed]
    simp only [if_true, bX12_mouthNamed_5]
    rw [if_pos (by decide), e1, e2, h8, if_neg (fun e => absurd ((leN (by omega) (by omega)).mp e) (by omega)), if_pos (vpN (by omega) (by omega)), clN (by omega), hn i (by omega), h7, e3, ixN]
    by_cases c : ns i = l
    · rw [if_pos (lcmp0.mpr ((e27_q (hk i (by omega)) hl).mpr c)), if_pos c]
      unfold nAn
      rw [if_pos (by omega)]
    · rw [if_neg (fun e => c ((e27_q (hk i (by omega)) hl).mp (lcmp0.mp e))), if_neg c, addN1]
      exact ih (i + 1) k (by omega) hk'
abbrev lB : List Nat := [180, 207, 208, 209, 210]
def lM (n : Nat) (S S' : gS) : Prop := fr lB S S' ∧ (∀ k, ¬ (k = 4 ∨ k = 5 ∨ k = 6 ∨ k = 8 ∨ k = 9 ∨ k = 36) → sI S' 180 k = sI S 180 k) ∧ (∀ j, j ≠ 5 → sR S' 207 j = sR S 207 j) ∧ ∀ r i, 208 ≤ r → r ≤ 210 → i ≠ 200 + n → sR S' r i = sR S r i
theorem lM_rf {n : Nat} {S : gS} : lM n S S := ⟨fr_rf, fun _ _ => rfl, fun _ _ => rfl, fun _ _ _ _ _ => rfl⟩
theorem lM_I {n k : Nat} {S S' : gS} {x : Int32} (h : lM n S S') (hk : k = 9 ∨ k = 36) : lM n S (uI S' 180 k x) :=
  ⟨fr_uI h.1 (by simp), fun j hj => by rw [I_uI, if_neg (by omega)]; exact h.2.1 j hj, h.2.2.1, h.2.2.2⟩
theorem lM_7 {n : Nat} {S S' : gS} {x : Int32} (h : lM n S S') : lM n S (uR S' 207 5 x) :=
  ⟨fr_uR h.1 (by simp), h.2.1, fun j hj => by rw [R_uR, if_neg (by omega)]; exact h.2.2.1 j hj, fun r i a b hi => by rw [R_uR, if_neg (by omega)]; exact h.2.2.2 r i a b hi⟩
theorem lM_R {n r : Nat} {S S' : gS} {x : Int32} (h : lM n S S') (h1 : 208 ≤ r) (h2 : r ≤ 210) : lM n S (uR S' r (200 + n) x) :=
  ⟨fr_uR h.1 (by simp only [List.mem_cons, List.not_mem_nil, or_false]; omega), h.2.1, fun j hj => by rw [R_uR, if_neg (by omega)]; exact h.2.2.1 j hj, fun r' i a b hi => by rw [R_uR, if_neg (by omega)]; exact h.2.2.2 r' i a b hi⟩
theorem lM_k {n : Nat} {S S' S2 : gS} (h : lM n S S') (h' : kM1 S' S2) : lM n S S2 := by
  have n1 : ∀ b, b ≠ 180 → b ∉ [180] := by intro b hb; simp only [List.mem_cons, List.not_mem_nil, or_false]; omega
  refine ⟨fr_tr h.1 (fr_mo h'.1 (by intro b hb; simp only [List.mem_cons, List.not_mem_nil, or_false] at hb ⊢; omega)), fun k hk => (h'.2.1 k (by omega)).trans (h.2.1 k hk), fun j hj => ?_, fun r i a b hi => ?_⟩
  · rw [frR h'.1 (n1 207 (by omega))]; exact h.2.2.1 j hj
  · rw [frR h'.1 (n1 r (by omega))]; exact h.2.2.2 r i a b hi
/-- the fault of a line with its sign -/
def aLs (T : aTp) (l : Nat × Nat × Nat × Nat × Nat) : Nat := if ¬ l.1 = 0 then l.1 else if isSe T l.2.1 = false then 1 + 16 * l.2.1 else 0
def lMp (S0 : gS) (T : aTp) (n : Nat) (l : Nat × Nat × Nat × Nat × Nat) (r : gS × Bool) : Prop := lM n S0 r.1 ∧ (aLs T l = 0 → r.2 = true ∧ tkM r.1 T (tokAt T (skB T (tokAt T l.2.1).2.2.1)) ∧ sR r.1 207 5 = N (n + 1) ∧ sR r.1 208 (200 + n) = N l.2.2.1 ∧ (l.2.2.1 ≠ 0 → sR r.1 209 (200 + n) = N l.2.2.2.1) ∧ (l.2.2.1 = 1 → sR r.1 210 (200 + n) = N l.2.2.2.2)) ∧ (¬ aLs T l = 0 → r.2 = false ∧ sI r.1 180 9 = N (aLs T l))
theorem mFail2 {S : gS} {q c : Nat} (h5 : sI S 180 5 = N q) : FX12_fails S (N c) = some (uI S 180 9 (N (c + 16 * q)), false) := by
  unfold FX12_fails
  rw [h5, show (16 : Int32) * N q = N (16 * q) from mulN (a := 16), addN]
  rfl
theorem lMp_e {S0 S : gS} {T : aTp} {n q c : Nat} {l : Nat × Nat × Nat × Nat × Nat} (hS : lM n S0 S) (hc : ¬ c = 0) (hl : aLs T l = c + 16 * q) : lMp S0 T n l (uI S 180 9 (N (c + 16 * q)), false) :=
  ⟨lM_I hS (by omega), fun h => by omega, fun _ => ⟨rfl, by rw [I_uI, if_pos ⟨rfl, rfl⟩, hl]⟩⟩
theorem aLs_f {T : aTp} {c q : Nat} {z : Nat × Nat × Nat × Nat} (hc : ¬ c = 0) : aLs T (c + 16 * q, z) = c + 16 * q := by
  unfold aLs
  rw [if_pos (show ¬ c + 16 * q = 0 by omega)]
theorem tkM_i {S S' : gS} {T : aTp} {k : aTk} (h : tkM S T k) (hI : ∀ j, j ≠ 9 → j ≠ 36 → sI S' 180 j = sI S 180 j) (hR : sR S' 181 = sR S 181) (hJ : sJ S' = sJ S) : tkM S' T k := by
  unfold tkM at h ⊢
  rw [hI 3 (by omega) (by omega), hI 6 (by omega) (by omega), hI 5 (by omega) (by omega), hI 4 (by omega) (by omega), hI 8 (by omega) (by omega), hR, hJ]; exact h
theorem mNxtT {S : gS} {T : aTp} {q : Nat} (hT : okT T) (hq : q ≤ T.1) (hk : tkM S T (tokAt T q)) : wp (FX12_nextToken S) (fun U => kM1 S U ∧ tkM U T (tokAt T (skB T (tokAt T q).2.2.1))) :=
  mNext hT (tokAt_e hq).2.2.1 ⟨hk.1, hk.2.1⟩ hk.2.2.2.2.1
theorem mL162 {S0 S : gS} {T : aTp} {n k w h x q' : Nat} (hT : okT T) (hq : q' ≤ T.1) (hk : 1 ≤ k) (hS : lM n S0 S) (htk : tkM S T (tokAt T q')) (h7 : sR S 207 5 = N n) (hw : sR S 208 (200 + n) = N w) (hh : w ≠ 0 → sR S 209 (200 + n) = N h) (hx : w = 1 → sR S 210 (200 + n) = N x) : wp (fX12_readsLine k 162 S 0 0) (lMp S0 T n (0, q', w, h, x)) := by
  obtain ⟨k, rfl, -⟩ := kS (m := 0) hk
  rw [fX12_readsLine]
  simp only [if_true]
  rw [if_neg (by decide), if_neg (by decide)]
  simp only [bX12_readsLine_162]
  rw [wp_lt, h7, addN1, wp_b2]
  have hV : lM n S0 (uR S 207 5 (N (n + 1))) := lM_7 hS
  have vt : tkM (uR S 207 5 (N (n + 1))) T (tokAt T q') := tkM_i htk (fun _ _ _ => rfl) (by funext i; rw [R_uR, if_neg (by omega)]) rfl
  have v7 : sR (uR S 207 5 (N (n + 1))) 207 5 = N (n + 1) := R_self
  have vw : ∀ r, 208 ≤ r → sR (uR S 207 5 (N (n + 1))) r (200 + n) = sR S r (200 + n) := fun r hr => by rw [R_uR, if_neg (by omega)]
  generalize uR S 207 5 (N (n + 1)) = V at *
  unfold FX12_closes
  rw [mSemi hT hq vt, wp_b2, wp_some]
  dsimp only
  cases hs : isSe T q' with
  | false =>
    have g3 : sI V 180 5 = N q' := by rw [vt.2.2.2.1, (tokAt_e hq).1]
    rw [if_neg Bool.false_ne_true, show (1 : Int32) = N 1 from rfl, mFail2 g3, wp_b2, wp_some, wp_some, wp_some]
    refine lMp_e hV (by omega) ?_
    unfold aLs
    dsimp only
    rw [if_neg (show ¬ ¬ 0 = 0 by omega), hs, if_pos rfl]
  | true =>
    rw [if_pos rfl, wp_b1]
    refine wp_mono (mNxtT hT hq vt) ?_
    rintro U ⟨u1, u2⟩
    rw [wp_some, wp_some]
    have n1 : ∀ b, b ≠ 180 → b ∉ [180] := by intro b hb; simp only [List.mem_cons, List.not_mem_nil, or_false]; omega
    have es : aLs T (0, q', w, h, x) = 0 := by
      unfold aLs
      dsimp only
      rw [if_neg (show ¬ ¬ 0 = 0 by omega), hs, if_neg (show ¬ true = false by decide)]
    refine ⟨lM_k hV u1, fun _ => ⟨rfl, u2, ?_, ?_, fun h1 => ?_, fun h1 => ?_⟩, fun h => absurd es h⟩
    · dsimp only; rw [frR u1.1 (n1 207 (by omega))]; exact v7
    · dsimp only; rw [frR u1.1 (n1 208 (by omega)), vw 208 (by omega)]; exact hw
    · dsimp only; rw [frR u1.1 (n1 209 (by omega)), vw 209 (by omega)]; exact hh h1
    · dsimp only; rw [frR u1.1 (n1 210 (by omega)), vw 210 (by omega)]; exact hx h1
theorem mL58 {S : gS} {T : aTp} {n q L ac k : Nat} {mn : Nat → List Nat} (hT : okT T) (hL : L ≤ 7) (hk : ∀ i, i < L → okN (mn i)) (h8 : sR S 182 0 = N L) (hn : ∀ i, i < L → sL S 183 i = LN (e27 (mn i))) (hq : q ≤ T.1) (hn40 : n ≤ 40) (hk3 : 3 ≤ k) (htk : tkM S T (tokAt T q)) (h7 : sR S 207 5 = N n) (hac : tkAc (tokAt T q) = ac) : wp (fX12_readsLine k 58 S (nAn ac 4) 0) (lMp S T n (aLn T mn L n q)) := by
  obtain ⟨k, rfl, hk4⟩ := kS (k := k) (m := 2) hk3
  obtain ⟨k, rfl, hk5⟩ := kS (k := k) (m := 1) hk4
  have h1000 := hT.1
  obtain ⟨e1, e2, e3, e4, e5, e6⟩ := tokAt_e hq
  have h3 : sI S 180 5 = N q := by rw [htk.2.2.2.1, e1]
  have hal : ac ≤ 4 := by rw [← hac]; exact tkAc_le
  have n1 : ∀ b, b ≠ 180 → b ∉ [180] := by intro b hb; simp only [List.mem_cons, List.not_mem_nil, or_false]; omega
  have nB : ∀ b, b < 180 ∨ 181 ≤ b ∧ b ≤ 206 → b ∉ lB := by intro b hb; simp only [List.mem_cons, List.not_mem_nil, or_false]; omega
  unfold aLn
  rw [hac, fX12_readsLine]
  simp only [if_true]
  simp only [bX12_readsLine_58]
  by_cases c4 : ac = 4
  · rw [if_neg (fun h => absurd ((nAn0 (by omega)).mp h) (by omega)), if_pos c4, show (1 : Int32) = N 1 from rfl, mFail2 h3, wp_b2, wp_some, wp_some]
    exact lMp_e lM_rf (by omega) (aLs_f (by omega))
  have ev : nAn ac 4 = N ac := by unfold nAn; rw [if_pos (by omega)]
  rw [if_pos ((nAn0 (by omega)).mpr (by omega)), if_neg c4, h7, ev]
  by_cases c40 : n = 40
  · rw [if_pos c40, if_pos (show N n = (40 : Int32) by rw [c40]; rfl), show (5 : Int32) = N 5 from rfl, mFail2 h3, wp_b2, wp_some, wp_some]
    exact lMp_e lM_rf (by omega) (aLs_f (by omega))
  rw [if_neg c40, if_neg (show ¬ N n = (40 : Int32) from fun e => c40 ((eqN (b := 40) (by omega) (by omega)).mp e)), wp_b1]
  refine wp_mono (mNxtT hT hq htk) ?_
  rintro U ⟨u1, u2⟩
  have u7 : sR U 207 5 = N n := by rw [frR u1.1 (n1 207 (by omega))]; exact h7
  rw [u7, show (200 : Int32) + N n = N (200 + n) from addN (a := 200), if_pos (vpN (by omega) (by omega)), clN (by omega), wp_lt]
  have s1 := skB_le e3
  generalize skB T (tokAt T q).2.2.1 = q1 at *
  obtain ⟨f1, f2, f3, f4, f5, f6⟩ := tokAt_e s1
  have hV : lM n S (uR U 208 (200 + n) (N ac)) := lM_R (lM_k lM_rf u1) (by omega) (by omega)
  have v2 : tkM (uR U 208 (200 + n) (N ac)) T (tokAt T q1) := tkM_i u2 (fun _ _ _ => rfl) (by funext i; rw [R_uR, if_neg (by omega)]) rfl
  have v7 : sR (uR U 208 (200 + n) (N ac)) 207 5 = N n := by rw [R_uR, if_neg (by omega)]; exact u7
  have vR : sR (uR U 208 (200 + n) (N ac)) 208 (200 + n) = N ac := R_self
  generalize uR U 208 (200 + n) (N ac) = V at *
  clear u1 u2 u7
  by_cases c0 : ac = 0
  · rw [if_pos c0, if_pos (show N ac = (0 : Int32) by rw [c0]; rfl), fX12_readsLine]
    simp only [if_true]
    rw [if_neg (by decide)]
    simp only [bX12_readsLine_135]
    rw [if_neg (show ¬ N ac = (1 : Int32) from fun h => absurd ((eqN (b := 1) (by omega) (by omega)).mp h) (by omega))]
    exact mL162 hT s1 (by omega) hV v2 v7 (by rw [vR, c0]) (fun h => absurd rfl h) (fun h => absurd h (by omega))
  rw [if_neg c0, if_neg (show ¬ N ac = (0 : Int32) from fun h => c0 ((eq0N (by omega)).mp h))]
  have w3 : sI V 180 5 = N q1 := by rw [v2.2.2.2.1, f1]
  unfold FX12_needsMouth
  rw [mIsKept s1 v2, wp_b2, wp_b2, wp_some]
  dsimp only
  cases hm : tkNm (tokAt T q1) with
  | false =>
    rw [if_pos (show (!false) = true from rfl), if_pos rfl, show (1 : Int32) = N 1 from rfl, mFail2 w3, wp_b2, wp_some, wp_some]
    dsimp only
    rw [if_neg Bool.false_ne_true, wp_some]
    exact lMp_e hV (by omega) (aLs_f (by omega))
  | true =>
    have k2 := tkNm2 hm
    have hok := tk_ok s1 k2
    rw [if_neg (show ¬ (!true) = true by decide), if_neg (show ¬ true = false by decide)]
    unfold FX12_mouthNamed
    have il := ixN_le (ns := mn) (l := (tokAt T q1).2.2.2.1) L 0
    have eL : fX12_mouthNamed FU 5 V 0 (N 0) = some (V, nAn (nIx mn (tokAt T q1).2.2.2.1 L) L) := mMouL hL (by rw [frR hV.1 (nB 182 (by omega))]; exact h8) (fun i hi => by rw [frL hV.1 (nB 183 (by omega))]; exact hn i hi) hk hok (v2.2.2.2.2.2.1 k2) L 0 FU (by omega) (by unfold FU; omega)
    rw [show ((7 : Int32) * 0) = N 0 by decide, eL, wp_b2, wp_some]
    dsimp only
    have il' : nIx mn (tokAt T q1).2.2.2.1 L < 2147483648 := by unfold nIx; omega
    generalize nIx mn (tokAt T q1).2.2.2.1 L = ix at *
    rw [wp_lt, I_self]
    have hW : lM n S (uI V 180 36 (nAn ix L)) := lM_I hV (by omega)
    have w2 : tkM (uI V 180 36 (nAn ix L)) T (tokAt T q1) := tkM_i v2 (fun j h9 h36 => by rw [I_uI, if_neg (by omega)]) rfl rfl
    have w36 : sI (uI V 180 36 (nAn ix L)) 180 36 = nAn ix L := by rw [I_uI, if_pos ⟨rfl, rfl⟩]
    have w5 : sI (uI V 180 36 (nAn ix L)) 180 5 = N q1 := by rw [I_uI, if_neg (by omega)]; exact w3
    have w7 : sR (uI V 180 36 (nAn ix L)) 207 5 = N n := v7
    have wR : sR (uI V 180 36 (nAn ix L)) 208 (200 + n) = N ac := vR
    generalize uI V 180 36 (nAn ix L) = W at *
    by_cases hx : ix < L
    · have evx : nAn ix L = N ix := by unfold nAn; rw [if_pos hx]
      rw [if_pos ((nAn0 il').mpr hx), if_neg (show ¬ ¬ ix < L from fun h => h hx), wp_some]
      dsimp only
      rw [if_pos rfl, w36, evx, wp_lt, wp_b1]
      have hX : lM n S (uR W 209 (200 + n) (N ix)) := lM_R hW (by omega) (by omega)
      have x2 : tkM (uR W 209 (200 + n) (N ix)) T (tokAt T q1) := tkM_i w2 (fun _ _ _ => rfl) (by funext i; rw [R_uR, if_neg (by omega)]) rfl
      have x7 : sR (uR W 209 (200 + n) (N ix)) 207 5 = N n := by rw [R_uR, if_neg (by omega)]; exact w7
      have x8 : sR (uR W 209 (200 + n) (N ix)) 208 (200 + n) = N ac := by rw [R_uR, if_neg (by omega)]; exact wR
      have x9 : sR (uR W 209 (200 + n) (N ix)) 209 (200 + n) = N ix := R_self
      generalize uR W 209 (200 + n) (N ix) = X at *
      refine wp_mono (mNxtT hT s1 x2) ?_
      rintro Y ⟨y1, y2⟩
      have s2 := skB_le f3
      generalize skB T (tokAt T q1).2.2.1 = q2 at *
      obtain ⟨g1, g2, g3, g4, g5, g6⟩ := tokAt_e s2
      have hY := lM_k hX y1
      have y7 : sR Y 207 5 = N n := by rw [frR y1.1 (n1 207 (by omega))]; exact x7
      have y8 : sR Y 208 (200 + n) = N ac := by rw [frR y1.1 (n1 208 (by omega))]; exact x8
      have y9 : sR Y 209 (200 + n) = N ix := by rw [frR y1.1 (n1 209 (by omega))]; exact x9
      have y5 : sI Y 180 5 = N q2 := by rw [y2.2.2.2.1, g1]
      clear y1
      rw [fX12_readsLine]
      simp only [if_true]
      rw [if_neg (show ¬ 135 = 58 by decide)]
      simp only [bX12_readsLine_135]
      by_cases c1 : ac = 1
      · rw [if_neg (show ¬ ¬ ac = 1 from fun h => h c1), if_pos (show N ac = (1 : Int32) by rw [c1]; rfl)]
        unfold FX12_needsNumber
        rw [y2.2.2.1]
        by_cases k3 : (tokAt T q2).1 = 3
        · have e8 := y2.2.2.2.2.2.2 k3
          have nub : (tokAt T q2).2.2.2.2 < 2147483648 := tkN_b k3
          rw [if_pos (show N (mkk (tokAt T q2).1) = (2 : Int32) from (mk1 _ (by omega) 3 (by omega)).mpr k3), if_neg (show ¬ ¬ (tokAt T q2).1 = 3 from fun h => h k3), e8]
          generalize (tokAt T q2).2.2.2.2 = nu at *
          have ew : FX12_within Y (N nu) 1 20 = some (Y, decide (1 ≤ nu ∧ nu ≤ 20)) := by
            unfold FX12_within
            by_cases lo : 1 ≤ nu
            · rw [if_neg (show ¬ N nu < (1 : Int32) from fun h => absurd ((ltN (b := 1) nub (by omega)).mp h) (by omega))]
              by_cases hi : nu ≤ 20
              · rw [if_neg (show ¬ (20 : Int32) < N nu from fun h => absurd ((ltN (a := 20) (by omega) nub).mp h) (by omega)), decide_eq_true ⟨lo, hi⟩]
              · rw [if_pos (show (20 : Int32) < N nu from (ltN (a := 20) (by omega) nub).mpr (by omega)), decide_eq_false (fun h => hi h.2)]
            · rw [if_pos (show N nu < (1 : Int32) from (ltN (b := 1) nub (by omega)).mpr (by omega)), decide_eq_false (fun h => lo h.1)]
          rw [ew, wp_b2, wp_b2, wp_some]
          dsimp only
          by_cases c20 : 1 ≤ nu ∧ nu ≤ 20
          · rw [decide_eq_true c20, if_pos rfl, if_neg (show ¬ ¬ (1 ≤ nu ∧ nu ≤ 20) from fun h => h c20), wp_lt, e8, wp_b1]
            have hZ : lM n S (uI Y 180 36 (N nu)) := lM_I hY (by omega)
            have z2 : tkM (uI Y 180 36 (N nu)) T (tokAt T q2) := tkM_i y2 (fun j h9 h36 => by rw [I_uI, if_neg (by omega)]) rfl rfl
            have z36 : sI (uI Y 180 36 (N nu)) 180 36 = N nu := by rw [I_uI, if_pos ⟨rfl, rfl⟩]
            have zR : ∀ r i, sR (uI Y 180 36 (N nu)) r i = sR Y r i := fun _ _ => rfl
            generalize uI Y 180 36 (N nu) = Z at *
            refine wp_mono (mNxtT hT s2 z2) ?_
            rintro B ⟨b1, b2⟩
            rw [wp_some]
            dsimp only
            rw [if_pos rfl, if_pos (vpN (by omega) (by omega)), clN (by omega), wp_lt, b1.2.1 36 (by omega), z36]
            refine mL162 hT (skB_le g3) (by omega) (lM_R (lM_k hZ b1) (by omega) (by omega)) (tkM_i b2 (fun _ _ _ => rfl) (by funext i; rw [R_uR, if_neg (by omega)]) rfl) ?_ ?_ (fun _ => ?_) (fun _ => R_self)
            · rw [R_uR, if_neg (by omega), frR b1.1 (n1 207 (by omega)), zR]; exact y7
            · rw [R_uR, if_neg (by omega), frR b1.1 (n1 208 (by omega)), zR, y8, c1]
            · rw [R_uR, if_neg (by omega), frR b1.1 (n1 209 (by omega)), zR]; exact y9
          · rw [decide_eq_false c20, if_neg Bool.false_ne_true, if_pos (show ¬ (1 ≤ nu ∧ nu ≤ 20) from c20), show (4 : Int32) = N 4 from rfl, mFail2 y5, wp_b2, wp_some, wp_some]
            dsimp only
            rw [if_neg Bool.false_ne_true, wp_some]
            exact lMp_e hY (by omega) (aLs_f (by omega))
        · rw [if_neg (show ¬ N (mkk (tokAt T q2).1) = (2 : Int32) from fun h => k3 ((mk1 _ (by omega) 3 (by omega)).mp h)), if_pos (show ¬ (tokAt T q2).1 = 3 from k3), show FX12_fails Y (1 : Int32) = FX12_fails Y (N 1) from rfl, mFail2 y5, wp_b2, wp_b2, wp_some, wp_some]
          dsimp only
          rw [if_neg Bool.false_ne_true, wp_some]
          exact lMp_e hY (by omega) (aLs_f (by omega))
      · rw [if_pos (show ¬ ac = 1 from c1), if_neg (show ¬ N ac = (1 : Int32) from fun h => c1 ((eqN (b := 1) (by omega) (by omega)).mp h))]
        exact mL162 hT s2 (by omega) hY y2 y7 y8 (fun _ => y9) (fun h => absurd h c1)
    · rw [if_neg (fun e => hx ((nAn0 il').mp e)), if_pos (show ¬ ix < L from hx), show (2 : Int32) = N 2 from rfl, mFail2 w5, wp_b2, wp_some]
      dsimp only
      rw [if_neg Bool.false_ne_true, wp_some]
      dsimp only
      rw [if_neg Bool.false_ne_true, wp_some]
      exact lMp_e hW (by omega) (aLs_f (by omega))
