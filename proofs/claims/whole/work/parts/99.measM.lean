/-! a word and a number, the model -/
def kM2 (S S' : gS) : Prop := fr [180] S S' ∧ (∀ k, ¬ (k = 4 ∨ k = 5 ∨ k = 6 ∨ k = 8 ∨ k = 9 ∨ k = 36) → sI S' 180 k = sI S 180 k) ∧ ∀ a k, ¬ (a = 180 ∧ k = 7) → sJ S' a k = sJ S a k
theorem m2_rf {S : gS} : kM2 S S := ⟨fr_rf, fun _ _ => rfl, fun _ _ _ => rfl⟩
theorem m2_I {S S' : gS} {k : Nat} {x : Int32} (h : kM2 S S') (hk : k = 9 ∨ k = 36) : kM2 S (uI S' 180 k x) :=
  ⟨fr_uI h.1 (by simp), fun j hj => by rw [I_uI, if_neg (by omega)]; exact h.2.1 j hj, fun a j hj => by rw [J_uI]; exact h.2.2 a j hj⟩
theorem m2_k {S S' S2 : gS} (h : kM2 S S') (h' : kM1 S' S2) : kM2 S S2 :=
  ⟨fr_tr h.1 h'.1, fun k hk => (h'.2.1 k (by omega)).trans (h.2.1 k hk), fun a k hk => (h'.2.2 a k hk).trans (h.2.2 a k hk)⟩
theorem m2_tr {S S' S2 : gS} (h : kM2 S S') (h' : kM2 S' S2) : kM2 S S2 :=
  ⟨fr_tr h.1 h'.1, fun k hk => (h'.2.1 k hk).trans (h.2.1 k hk), fun a k hk => (h'.2.2 a k hk).trans (h.2.2 a k hk)⟩
def mMp (S0 : gS) (T : aTp) (R : Nat × Nat × Nat) (r : gS × Bool) : Prop := kM2 S0 r.1 ∧ (R.1 = 0 → r.2 = true ∧ sI r.1 180 36 = N R.2.2 ∧ tkM r.1 T (tokAt T R.2.1)) ∧ (¬ R.1 = 0 → r.2 = false ∧ sI r.1 180 9 = N R.1)
theorem mNum {S : gS} {T : aTp} {q lo hi : Nat} (hT : okT T) (hq : q ≤ T.1) (htk : tkM S T (tokAt T q)) (hlo : lo ≤ 40) (hhi : hi ≤ 40) : wp (FX12_needsNumber S (N lo) (N hi)) (mMp S T (if ¬ (tokAt T q).1 = 3 then (1 + 16 * q, 0, 0) else if ¬ (lo ≤ (tokAt T q).2.2.2.2 ∧ (tokAt T q).2.2.2.2 ≤ hi) then (4 + 16 * q, 0, 0) else (0, skB T (tokAt T q).2.2.1, (tokAt T q).2.2.2.2))) := by
  have h1000 := hT.1
  obtain ⟨e1, e2, e3, e4, e5, e6⟩ := tokAt_e hq
  have h3 : sI S 180 5 = N q := by rw [htk.2.2.2.1, e1]
  have bad : ∀ c z, ¬ c = 0 → wp (g_b2 (FX12_fails S (N c)) (fun S5 b6 => some (S5, b6))) (mMp S T (c + 16 * q, z)) := by
    intro c z hc
    rw [mFail2 h3, wp_b2, wp_some, wp_some]
    exact ⟨m2_I m2_rf (by omega), fun h => by dsimp only at h; omega, fun _ => ⟨rfl, I_self⟩⟩
  unfold FX12_needsNumber
  rw [htk.2.2.1]
  by_cases k3 : (tokAt T q).1 = 3
  · have e8 := htk.2.2.2.2.2.2 k3
    have nub : (tokAt T q).2.2.2.2 < 2147483648 := tkN_b k3
    rw [if_pos (show N (mkk (tokAt T q).1) = (2 : Int32) from (mk1 _ (by omega) 3 (by omega)).mpr k3), if_neg (show ¬ ¬ (tokAt T q).1 = 3 from fun h => h k3), e8]
    generalize (tokAt T q).2.2.2.2 = nu at *
    have ew : FX12_within S (N nu) (N lo) (N hi) = some (S, decide (lo ≤ nu ∧ nu ≤ hi)) := by
      unfold FX12_within
      by_cases lo1 : lo ≤ nu
      · rw [if_neg (show ¬ N nu < N lo from fun h => absurd ((ltN nub (by omega)).mp h) (by omega))]
        by_cases hi1 : nu ≤ hi
        · rw [if_neg (show ¬ N hi < N nu from fun h => absurd ((ltN (by omega) nub).mp h) (by omega)), decide_eq_true ⟨lo1, hi1⟩]
        · rw [if_pos (show N hi < N nu from (ltN (by omega) nub).mpr (by omega)), decide_eq_false (fun h => hi1 h.2)]
      · rw [if_pos (show N nu < N lo from (ltN nub (by omega)).mpr (by omega)), decide_eq_false (fun h => lo1 h.1)]
    rw [ew, wp_b2, wp_some]
    dsimp only
    by_cases c20 : lo ≤ nu ∧ nu ≤ hi
    · rw [decide_eq_true c20, if_pos rfl, if_neg (show ¬ ¬ (lo ≤ nu ∧ nu ≤ hi) from fun h => h c20), wp_lt, e8, wp_b1]
      have z2 : tkM (uI S 180 36 (N nu)) T (tokAt T q) := tkM_i htk (fun j h9 h36 => by rw [I_uI, if_neg (by omega)]) rfl rfl
      have z36 : sI (uI S 180 36 (N nu)) 180 36 = N nu := I_self
      have hZ : kM2 S (uI S 180 36 (N nu)) := m2_I m2_rf (by omega)
      generalize uI S 180 36 (N nu) = Z at *
      refine wp_mono (mNxtT hT hq z2) ?_
      rintro U ⟨u1, u2⟩
      rw [wp_some]
      exact ⟨m2_k hZ u1, fun _ => ⟨rfl, (u1.2.1 36 (by omega)).trans z36, u2⟩, fun h => absurd rfl h⟩
    · rw [decide_eq_false c20, if_neg Bool.false_ne_true, if_pos (show ¬ (lo ≤ nu ∧ nu ≤ hi) from c20)]
      exact bad 4 _ (by omega)
  · rw [if_neg (show ¬ N (mkk (tokAt T q).1) = (2 : Int32) from fun h => k3 ((mk1 _ (by omega) 3 (by omega)).mp h)), if_pos (show ¬ (tokAt T q).1 = 3 from k3)]
    exact bad 1 _ (by omega)
theorem mMeas {S : gS} {T : aTp} {t : UInt32} {j : Int64} {q lo hi : Nat} (hT : okT T) (hq : q ≤ T.1) (ht : txt t) (hj : j = LN (e27 (gw t))) (htk : tkM S T (tokAt T q)) (hlo : lo ≤ 40) (hhi : hi ≤ 40) : wp (FX12_needsBoth S j (N lo) (N hi)) (mMp S T (aMs T t lo hi q)) := by
  have h1000 := hT.1
  obtain ⟨e1, e2, e3, e4, e5, e6⟩ := tokAt_e hq
  have h3 : sI S 180 5 = N q := by rw [htk.2.2.2.1, e1]
  unfold FX12_needsBoth aMs
  rw [mIsWord hq htk ht hj, wp_b2, wp_some]
  dsimp only
  cases hw : tkW (tokAt T q) t with
  | false =>
    rw [if_neg Bool.false_ne_true, if_pos rfl, show (1 : Int32) = N 1 from rfl, mFail2 h3, wp_b2, wp_some, wp_some]
    exact ⟨m2_I m2_rf (by omega), fun h => by dsimp only at h; omega, fun _ => ⟨rfl, I_self⟩⟩
  | true =>
    rw [if_pos rfl, if_neg (show ¬ true = false by decide), wp_b1]
    refine wp_mono (mNxtT hT hq htk) ?_
    rintro U ⟨u1, u2⟩
    rw [wp_b2]
    refine wp_mono (mNum hT (skB_le e3) u2 hlo hhi) ?_
    rintro ⟨V, v⟩ ⟨v1, v2⟩
    rw [wp_some]
    exact ⟨m2_tr (m2_k m2_rf u1) v1, v2⟩
/-- a new name: mouths and letters of the front in the making -/
def aNw (T : aTp) (mn ln : Nat → List Nat) (L M q : Nat) : Nat :=
  if tkNm (tokAt T q) = false then 1 + 16 * q
  else if nIx mn (tokAt T q).2.2.2.1 L < L ∨ nIx ln (tokAt T q).2.2.2.1 M < M then 3 + 16 * q
  else 0
theorem xNew {S : gS} {T : aTp} {f L M q : Nat} {mn ln : Nat → List Nat} (hT : okT T) (hL : L ≤ 7) (hM : M ≤ 6) (hkL : ∀ i, i < L → okN (mn i)) (hkM : ∀ i, i < M → okN (ln i)) (h0 : sI S f 0 = N L) (h8 : sI S f 8 = N M) (hn : ∀ i, i < L → sL S (f + 1) i = LN (e32 (mn i))) (hn8 : ∀ i, i < M → sL S (f + 8) i = LN (e32 (ln i))) (hq : q ≤ T.1) (htk : tkX S T (tokAt T q)) (h7 : sI S 1 7 = 0) : wp (FX2_isNewName S f) (fun r => fr [1] S r.1 ∧ (aNw T mn ln L M q = 0 → r.2 = true ∧ r.1 = S) ∧ (¬ aNw T mn ln L M q = 0 → r.2 = false ∧ sI r.1 1 7 = N (aNw T mn ln L M q))) := by
  have h1000 := hT.1
  have h3 : sI S 1 3 = N q := by rw [htk.2.2.2.1, (tokAt_e hq).1]
  unfold FX2_isNewName aNw
  rw [xIsName hT hq htk, wp_b2, wp_some]
  dsimp only
  cases hm : tkNm (tokAt T q) with
  | false =>
    rw [if_neg Bool.false_ne_true, if_pos rfl, show (1 : Int32) = N 1 from rfl, xFail h7 h3, wp_b2, wp_some, wp_some]
    exact ⟨fr_uI fr_rf (by simp), fun h => by omega, fun _ => ⟨rfl, I_self⟩⟩
  | true =>
    have k2 := tkNm2 hm
    have hok := tk_ok hq k2
    rw [if_pos rfl, if_neg (show ¬ true = false by decide)]
    unfold FX1_isTold FX1_mouthNamed FX1_letterNamed
    have il := ixN_le (ns := mn) (l := (tokAt T q).2.2.2.1) L 0
    have im := ixN_le (ns := ln) (l := (tokAt T q).2.2.2.1) M 0
    have eL : fX1_mouthNamed FU 2 S f (LN (e32 (tokAt T q).2.2.2.1)) (N 0) = some (S, nAn (nIx mn (tokAt T q).2.2.2.1 L) L) := xMouL hL h0 hn hkL hok L 0 FU (by omega) (by unfold FU; omega)
    have eM : fX1_letterNamed FU 2 S f (LN (e32 (tokAt T q).2.2.2.1)) (N 0) = some (S, nAn (nIx ln (tokAt T q).2.2.2.1 M) M) := xLetL hM h8 hn8 hkM hok M 0 FU (by omega) (by unfold FU; omega)
    have il' : nIx mn (tokAt T q).2.2.2.1 L < 2147483648 := by unfold nIx; omega
    have im' : nIx ln (tokAt T q).2.2.2.1 M < 2147483648 := by unfold nIx; omega
    rw [htk.2.2.2.2.2.1 k2, show (0 : Int32) = N 0 from rfl, eL, wp_b2, wp_b2, wp_some]
    dsimp only
    generalize nIx mn (tokAt T q).2.2.2.1 L = ix at *
    generalize nIx ln (tokAt T q).2.2.2.1 M = iy at *
    have told : wp (g_b2 (FX8_fail S (N 3)) (fun S5 b6 => if b6 = true then some (S5, true) else some (S5, false))) (fun r => fr [1] S r.1 ∧ (3 + 16 * q = 0 → r.2 = true ∧ r.1 = S) ∧ (¬ 3 + 16 * q = 0 → r.2 = false ∧ sI r.1 1 7 = N (3 + 16 * q))) := by
      rw [xFail h7 h3, wp_b2, wp_some]
      dsimp only
      rw [if_neg Bool.false_ne_true, wp_some]
      exact ⟨fr_uI fr_rf (by simp), fun h => by omega, fun _ => ⟨rfl, I_self⟩⟩
    by_cases hx : ix < L
    · rw [if_neg (fun e => (nAn1 il').mp e hx), if_pos (Or.inl hx), wp_some]
      exact told
    · rw [if_pos ((nAn1 il').mpr hx), eM, wp_b2, wp_some]
      dsimp only
      by_cases hy : iy < M
      · rw [if_neg (fun e => (nAn1 im').mp e hy), if_pos (Or.inr hy), wp_some]
        exact told
      · rw [if_pos ((nAn1 im').mpr hy), if_neg (show ¬ (ix < L ∨ iy < M) from fun h => h.elim hx hy), wp_some]
        dsimp only
        rw [if_neg Bool.false_ne_true, wp_some]
        exact ⟨fr_rf, fun _ => ⟨rfl, rfl⟩, fun h => absurd rfl h⟩
