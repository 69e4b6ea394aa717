/-! the model reads a word -/
def wM (S0 S : gS) : Prop := fr [180, 211, 212] S0 S ∧ ((∀ k, ¬ (k = 4 ∨ k = 5 ∨ k = 6 ∨ k = 8 ∨ k = 9) → sI S 180 k = sI S0 180 k) ∧ (∀ j, j ≠ 5 → sR S 211 j = sR S0 211 j) ∧ ∀ j, j < 35 → sR S 212 j = sR S0 212 j)
theorem wM_t {S0 S S' : gS} (h : wM S0 S) (h' : kM1 S S') : wM S0 S' := by
  obtain ⟨a, b, c, d⟩ := h
  have n1 : ∀ b, b ≠ 180 → b ∉ [180] := by intro b hb; simp only [List.mem_cons, List.not_mem_nil, or_false]; omega
  refine ⟨fr_tr a (fr_mo h'.1 (by intro b hb; simp only [List.mem_cons, List.not_mem_nil, or_false] at hb ⊢; omega)), fun k hk => (h'.2.1 k (by omega)).trans (b k hk), fun j hj => ?_, fun j hj => ?_⟩
  · rw [frR h'.1 (n1 211 (by omega))]; exact c j hj
  · rw [frR h'.1 (n1 212 (by omega))]; exact d j hj
theorem mFails {S0 S : gS} {q c : Nat} (hS : wM S0 S) (h5 : sI S 180 5 = N q) : ∃ U, FX12_fails S (N c) = some (U, false) ∧ wM S0 U ∧ sI U 180 9 = N (c + 16 * q) := by
  refine ⟨uI S 180 9 (N (c + 16 * q)), ?_, ⟨fr_uI hS.1 (by simp), fun k hk => ?_, hS.2.2.1, hS.2.2.2⟩, ?_⟩
  · unfold FX12_fails
    rw [h5, show (16 : Int32) * N q = N (16 * q) from mulN (a := 16), addN]
    rfl
  · rw [I_uI, if_neg (by omega)]; exact hS.2.1 k hk
  · rw [I_uI, if_pos ⟨rfl, rfl⟩]
def wMp (S0 : gS) (R : Nat × aO) (r : gS × Bool) : Prop := wM S0 r.1 ∧ (R.1 = 0 → r.2 = true ∧ sR r.1 211 5 = N R.2.1 ∧ ∀ i, i < R.2.1 → sR r.1 212 (35 + i) = N (R.2.2 i)) ∧ (¬ R.1 = 0 → r.2 = false ∧ sI r.1 180 9 = N R.1)
theorem wMp_f {S0 S : gS} {q c : Nat} {A : aO} (hS : wM S0 S) (h5 : sI S 180 5 = N q) (hc : ¬ c = 0) : wp (g_b2 (FX12_fails S (N c)) (fun a b => some (a, b))) (wMp S0 (c + 16 * q, A)) := by
  obtain ⟨U, u1, u2, u3⟩ := mFails (c := c) hS h5
  rw [u1, wp_b2, wp_some, wp_some]
  exact ⟨u2, fun h => by dsimp only at h; omega, fun _ => ⟨rfl, u3⟩⟩
theorem mWdL {S0 : gS} {T : aTp} {L : Nat} {ns : Nat → List Nat} (hT : okT T) (hL : L ≤ 6) (hk : ∀ i, i < L → okN (ns i)) (h8 : sR S0 182 1 = N L) (hn : ∀ i, i < L → sL S0 184 i = LN (e27 (ns i))) : ∀ m n g q k S, n + m = 8 → n ≤ 7 → q ≤ T.1 → 2 * m + 2 ≤ k → wM S0 S → tkM S T (tokAt T q) → sR S 211 5 = N n → (∀ i, i < n → sR S 212 (35 + i) = N (g i)) → wp (fX12_readsWord k 0 S) (wMp S0 (aWd T ns L m n g q)) := by
  intro m
  induction m with
  | zero => intro n g q k S h1 h2; omega
  | succ m ih =>
    intro n g q k S h1 h2 hq hk2 hS htk h0 hg
    obtain ⟨k, rfl, hk'⟩ := kS (k := k) (m := 2 * m + 3) (by omega)
    obtain ⟨k, rfl, hk3⟩ := kS (k := k) (m := 2 * m + 2) (by omega)
    have h1000 := hT.1
    obtain ⟨e1, e2, e3, e4, e5, e6⟩ := tokAt_e hq
    have h3 : sI S 180 5 = N q := by rw [htk.2.2.2.1, e1]
    have nf : ∀ b, ¬ (b = 180 ∨ b = 211 ∨ b = 212) → b ∉ [180, 211, 212] := by intro b hb; simp only [List.mem_cons, List.not_mem_nil, or_false]; omega
    have body : ¬ (¬ n = 0 ∧ (tokAt T q).1 = 0) → wp (fX12_readsWord (k + 1) 16 S) (wMp S0 (aWd T ns L (m + 1) n g q)) := by
      intro hne
      rw [aWd, if_neg hne, fX12_readsWord]
      simp only [if_true]
      rw [if_neg (by decide)]
      simp only [bX12_readsWord_16]
      rw [mIsKept hq htk, wp_b2, wp_some]
      dsimp only
      cases hm : tkNm (tokAt T q) with
      | false =>
        rw [if_pos (show (!false) = true from rfl), if_pos rfl]
        exact wMp_f (c := 1) hS h3 (by omega)
      | true =>
        have k2 := tkNm2 hm
        have hok := tk_ok hq k2
        rw [if_neg (show ¬ (!true) = true by decide), if_neg (show ¬ true = false by decide)]
        unfold FX12_letterNamed
        have hh8 : sR S 182 1 = N L := by rw [frR hS.1 (nf 182 (by omega))]; exact h8
        have hhn : ∀ i, i < L → sL S 184 i = LN (e27 (ns i)) := fun i hi => by rw [frL hS.1 (nf 184 (by omega))]; exact hn i hi
        have il := ixN_le (ns := ns) (l := (tokAt T q).2.2.2.1) L 0
        have eL : fX12_letterNamed FU 5 S 0 (N 0) = some (S, nAn (nIx ns (tokAt T q).2.2.2.1 L) L) := mLetL hL hh8 hhn hk hok (htk.2.2.2.2.2.1 k2) L 0 FU (by omega) (by unfold FU; omega)
        rw [show ((6 : Int32) * 0) = N 0 by decide, eL, wp_b2, wp_some]
        dsimp only
        have il' : nIx ns (tokAt T q).2.2.2.1 L < 2147483648 := by unfold nIx; omega
        by_cases hx : nIx ns (tokAt T q).2.2.2.1 L < L
        · rw [if_pos ((nAn0 il').mpr hx), if_pos hx, h0]
          by_cases h77 : n = 7
          · rw [if_pos h77, if_pos (show N n = (7 : Int32) from (eqN (b := 7) (by omega) (by omega)).mpr h77)]
            exact wMp_f (c := 5) hS h3 (by omega)
          · have ev : nAn (nIx ns (tokAt T q).2.2.2.1 L) L = N (nIx ns (tokAt T q).2.2.2.1 L) := by unfold nAn; exact if_pos hx
            rw [if_neg h77, if_neg (show ¬ N n = (7 : Int32) from fun e => h77 ((eqN (b := 7) (by omega) (by omega)).mp e)), show (35 : Int32) + N n = N (35 + n) from addN (a := 35), if_pos (vpN (by omega) (by omega)), clN (by omega), ev, wp_lt]
            have e0 : sR (uR S 212 (35 + n) (N (nIx ns (tokAt T q).2.2.2.1 L))) 211 5 = N n := by rw [R_uR, if_neg (by omega)]; exact h0
            rw [wp_lt, e0, addN1, wp_b1]
            refine wp_mono (mNext (S := uR (uR S 212 (35 + n) (N (nIx ns (tokAt T q).2.2.2.1 L))) 211 5 (N (n + 1))) (T := T) (p := (tokAt T q).2.2.1) hT e3 ⟨htk.1, fun i hi => by rw [R_uR, if_neg (by omega), R_uR, if_neg (by omega)]; exact htk.2.1 i hi⟩ htk.2.2.2.2.1) ?_
            rintro U ⟨u2, u3⟩
            have na : ∀ b, b ≠ 180 → b ∉ [180] := by intro b hb; simp only [List.mem_cons, List.not_mem_nil, or_false]; omega
            have hS2 : wM S0 (uR (uR S 212 (35 + n) (N (nIx ns (tokAt T q).2.2.2.1 L))) 211 5 (N (n + 1))) := by
              refine ⟨fr_uR (fr_uR hS.1 (by simp)) (by simp), hS.2.1, fun j hj => ?_, fun j hj => ?_⟩
              · rw [R_uR, if_neg (by omega), R_uR, if_neg (by omega)]; exact hS.2.2.1 j hj
              · rw [R_uR, if_neg (by omega), R_uR, if_neg (by omega)]; exact hS.2.2.2 j hj
            refine ih (n + 1) _ _ k U (by omega) (by omega) (skB_le e3) (by omega) (wM_t hS2 u2) u3 ?_ ?_
            · rw [frR u2.1 (na 211 (by omega)), R_uR, if_pos ⟨rfl, rfl⟩]
            · intro i hi
              rw [frR u2.1 (na 212 (by omega)), R_uR, if_neg (by omega), R_uR]
              unfold upn
              by_cases ei : i = n
              · rw [if_pos ⟨rfl, by omega⟩, if_pos ei]
              · rw [if_neg (by omega), if_neg ei]; exact hg i (by omega)
        · rw [if_neg (fun e => hx ((nAn0 il').mp e)), if_neg hx]
          exact wMp_f (c := 2) hS h3 (by omega)
    rw [fX12_readsWord]
    simp only [if_true, bX12_readsWord_0]
    rw [h0, htk.2.2.1]
    by_cases hz : n = 0
    · rw [if_pos ((eq0N (by omega)).mpr hz)]
      exact body (fun h => h.1 hz)
    · rw [if_neg (fun e => hz ((eq0N (by omega)).mp e))]
      by_cases he : (tokAt T q).1 = 0
      · rw [if_pos (show N (mkk (tokAt T q).1) = (0 : Int32) from (mk1 _ (by omega) 0 (by omega)).mpr he), wp_some, aWd, if_pos ⟨hz, he⟩]
        exact ⟨hS, fun _ => ⟨rfl, h0, hg⟩, fun h => absurd rfl h⟩
      · rw [if_neg (show ¬ N (mkk (tokAt T q).1) = (0 : Int32) from fun h => he ((mk1 _ (by omega) 0 (by omega)).mp h))]
        exact body (fun h => he h.2)
