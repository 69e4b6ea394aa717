/-! a new name, the model -/
theorem mNew {S : gS} {T : aTp} {L M q : Nat} {mn ln : Nat → List Nat} (hT : okT T) (hL : L ≤ 7) (hM : M ≤ 6) (hkL : ∀ i, i < L → okN (mn i)) (hkM : ∀ i, i < M → okN (ln i)) (h0 : sR S 182 3 = N L) (h8 : sR S 182 4 = N M) (hn : ∀ i, i < L → sL S 183 (7 + i) = LN (e27 (mn i))) (hn8 : ∀ i, i < M → sL S 184 (6 + i) = LN (e27 (ln i))) (hq : q ≤ T.1) (htk : tkM S T (tokAt T q)) : wp (FX12_needsNew S) (fun r => fr [180] S r.1 ∧ (∀ k, ¬ (k = 4 ∨ k = 5 ∨ k = 6 ∨ k = 8 ∨ k = 9) → sI r.1 180 k = sI S 180 k) ∧ (aNw T mn ln L M q = 0 → r.2 = true ∧ sJ r.1 180 37 = LN (e27 (tokAt T q).2.2.2.1) ∧ tkM r.1 T (tokAt T (skB T (tokAt T q).2.2.1))) ∧ (¬ aNw T mn ln L M q = 0 → r.2 = false ∧ sI r.1 180 9 = N (aNw T mn ln L M q))) := by
  have h1000 := hT.1
  have h3 : sI S 180 5 = N q := by rw [htk.2.2.2.1, (tokAt_e hq).1]
  have fl : ∀ c, ¬ c = 0 → wp (g_b2 (FX12_fails S (N c)) (fun a b => some (a, b))) (fun r => fr [180] S r.1 ∧ (∀ k, ¬ (k = 4 ∨ k = 5 ∨ k = 6 ∨ k = 8 ∨ k = 9) → sI r.1 180 k = sI S 180 k) ∧ (c + 16 * q = 0 → r.2 = true ∧ sJ r.1 180 37 = LN (e27 (tokAt T q).2.2.2.1) ∧ tkM r.1 T (tokAt T (skB T (tokAt T q).2.2.1))) ∧ (¬ c + 16 * q = 0 → r.2 = false ∧ sI r.1 180 9 = N (c + 16 * q))) := by
    intro c hc
    rw [mFail2 h3, wp_b2, wp_some, wp_some]
    exact ⟨fr_uI fr_rf (by simp), fun k hk => by rw [I_uI, if_neg (by omega)], fun h => by omega, fun _ => ⟨rfl, I_self⟩⟩
  unfold FX12_needsNew aNw
  rw [mIsKept hq htk, wp_b2, wp_some]
  dsimp only
  cases hm : tkNm (tokAt T q) with
  | false =>
    rw [if_pos (show (!false) = true from rfl), if_pos rfl]
    exact fl 1 (by omega)
  | true =>
    have k2 := tkNm2 hm
    have hok := tk_ok hq k2
    rw [if_neg (show ¬ (!true) = true by decide), if_neg (show ¬ true = false by decide)]
    unfold FX12_mouthNamed FX12_letterNamed
    have il := ixN_le (ns := mn) (l := (tokAt T q).2.2.2.1) L 0
    have im := ixN_le (ns := ln) (l := (tokAt T q).2.2.2.1) M 0
    have j7 := htk.2.2.2.2.2.1 k2
    have eL : fX12_mouthNamed FU 5 S 1 (N (7 + 0)) = some (S, nAn (nIx mn (tokAt T q).2.2.2.1 L) L) := mMouR hL h0 hn hkL hok j7 L 0 FU (by omega) (by unfold FU; omega)
    have eM : fX12_letterNamed FU 5 S 1 (N (6 + 0)) = some (S, nAn (nIx ln (tokAt T q).2.2.2.1 M) M) := mLetR hM h8 hn8 hkM hok j7 M 0 FU (by omega) (by unfold FU; omega)
    have il' : nIx mn (tokAt T q).2.2.2.1 L < 2147483648 := by unfold nIx; omega
    have im' : nIx ln (tokAt T q).2.2.2.1 M < 2147483648 := by unfold nIx; omega
    rw [show ((7 : Int32) * 1) = N (7 + 0) by decide, eL, wp_b2, wp_some]
    dsimp only
    generalize nIx mn (tokAt T q).2.2.2.1 L = ix at *
    generalize nIx ln (tokAt T q).2.2.2.1 M = iy at *
    by_cases hx : ix < L
    · rw [if_pos ((nAn0 il').mpr hx), if_pos (Or.inl hx)]
      exact fl 3 (by omega)
    · rw [if_neg (fun e => hx ((nAn0 il').mp e)), show ((6 : Int32) * 1) = N (6 + 0) by decide, eM, wp_b2, wp_some]
      dsimp only
      by_cases hy : iy < M
      · have : ¬ nAn iy M < 0 := by unfold nAn; rw [if_pos hy]; exact nN_lt0 im'
        rw [if_neg this, if_pos (Or.inr hy)]
        exact fl 3 (by omega)
      · have : nAn iy M < 0 := by unfold nAn; rw [if_neg hy]; decide
        rw [if_pos this, if_neg (show ¬ (ix < L ∨ iy < M) from fun h => h.elim hx hy), wp_lt, wp_b1]
        have z2 : tkM (uJ S 180 37 (sJ S 180 7)) T (tokAt T q) := by
          obtain ⟨t1, t2, t3, t4, t5, t6, t7⟩ := htk
          exact ⟨t1, t2, t3, t4, t5, fun h => by rw [J_uJ, if_neg (by omega)]; exact t6 h, t7⟩
        refine wp_mono (mNxtT hT hq z2) ?_
        rintro U ⟨u1, u2⟩
        rw [wp_some]
        refine ⟨fr_tr (fr_uJ fr_rf) u1.1, fun k hk => u1.2.1 k (by omega), fun _ => ⟨rfl, ?_, u2⟩, fun h => absurd rfl h⟩
        rw [u1.2.2 180 37 (by omega), J_uJ, if_pos ⟨rfl, rfl⟩]; exact j7
