/-! x reads a word -/
theorem xClose {S : gS} : FX8_close S = some (uI S 1 1 0, sI S 1 7) := by
  unfold FX8_close
  rw [show g_lt (uI S 1 1 0) (fun S1 => some (S1, sI S1 1 7)) = some (uI S 1 1 0, sI (uI S 1 1 0) 1 7) from rfl, I_uI, if_neg (by omega)]
theorem xFail {S : gS} {q c : Nat} (h7 : sI S 1 7 = 0) (h3 : sI S 1 3 = N q) : FX8_fail S (N c) = some (uI S 1 7 (N (c + 16 * q)), false) := by
  unfold FX8_fail
  rw [if_pos h7, h3, show (16 : Int32) * N q = N (16 * q) from mulN (a := 16), addN]
  rfl
def wF (L : List Nat) (S0 S : gS) : Prop := fr L S0 S
theorem xFailW {S0 S : gS} {f a2 n q c k : Nat} {A : aO} (hk : 1 ≤ k) (hS : fr [1, a2, a2 + 1] S0 S) (hc : ¬ c = 0) : wp (fX5_readWord k 17 (uI S 1 7 (N (c + 16 * q))) f a2 0 (N (n + 1))) (fun r => fr [1, a2, a2 + 1] S0 r.1 ∧ sI r.1 1 1 = 0 ∧ r.2 = N (c + 16 * q) ∧ (c + 16 * q = 0 → oX r.1 a2 A)) := by
  obtain ⟨k, rfl, -⟩ := kS (m := 0) hk
  have g : wp (g_b2 (FX8_close (uI S 1 7 (N (c + 16 * q)))) (fun S1 x2 => some (S1, x2))) (fun r => fr [1, a2, a2 + 1] S0 r.1 ∧ sI r.1 1 1 = 0 ∧ r.2 = N (c + 16 * q) ∧ (c + 16 * q = 0 → oX r.1 a2 A)) := by
    rw [xClose, wp_b2, wp_some, wp_some]
    dsimp only
    refine ⟨fr_uI (fr_uI hS (by simp)) (by simp), ?_, ?_, fun h => by omega⟩
    · rw [I_uI, if_pos ⟨rfl, rfl⟩]
    · rw [I_uI, if_pos ⟨rfl, rfl⟩]
  rw [fX5_readWord]
  simp only [if_true, bX5_readWord_17]
  split
  · exact g
  · exact g
theorem xWdL {S0 : gS} {T : aTp} {f a2 L : Nat} {ns : Nat → List Nat} (hT : okT T) (hf : f = 6 ∨ f = 20) (ha : a2 = 42 ∨ a2 = 44) (hL : L ≤ 6) (hk : ∀ i, i < L → okN (ns i)) (h8 : sI S0 f 8 = N L) (hn : ∀ i, i < L → sL S0 (f + 8) i = LN (e32 (ns i))) : ∀ m n g q k S, n + m = 8 → n ≤ 7 → q ≤ T.1 → m + 2 ≤ k → fr [1, a2, a2 + 1] S0 S → tkX S T (tokAt T q) → sI S 1 7 = 0 → sI S a2 0 = N n → (∀ i, i < n → sR S (a2 + 1) i = N (g i)) → wp (fX5_readWord k 17 S f a2 1 (N n)) (fun r => fr [1, a2, a2 + 1] S0 r.1 ∧ sI r.1 1 1 = 0 ∧ r.2 = N (aWd T ns L m n g q).1 ∧ ((aWd T ns L m n g q).1 = 0 → oX r.1 a2 (aWd T ns L m n g q).2)) := by
  intro m
  induction m with
  | zero => intro n g q k S h1 h2; omega
  | succ m ih =>
    intro n g q k S h1 h2 hq hk2 hS htk h7 h0 hg
    obtain ⟨k, rfl, hk'⟩ := kS (m := m + 2) (by omega)
    have h1000 := hT.1
    obtain ⟨e1, e2, e3, e4, e5, e6⟩ := tokAt_e hq
    have h3 : sI S 1 3 = N q := by rw [htk.2.2.2.1, e1]
    have nf : ∀ j, j ≤ 12 → f + j ∉ [1, a2, a2 + 1] := by intro j hj; simp only [List.mem_cons, List.not_mem_nil, or_false]; omega
    have body : ¬ (¬ n = 0 ∧ (tokAt T q).1 = 0) → wp (g_b2 (FX5_readLetterName S f a2) (fun S5 b6 => fX5_readWord k 17 S5 f a2 (g_b b6) (N n + 1))) (fun r => fr [1, a2, a2 + 1] S0 r.1 ∧ sI r.1 1 1 = 0 ∧ r.2 = N (aWd T ns L (m + 1) n g q).1 ∧ ((aWd T ns L (m + 1) n g q).1 = 0 → oX r.1 a2 (aWd T ns L (m + 1) n g q).2)) := by
      intro hne
      rw [aWd, if_neg hne]
      unfold FX5_readLetterName
      rw [xIsName hT hq htk]
      simp only [g_b2]
      cases hm : tkNm (tokAt T q) with
      | false =>
        rw [if_neg Bool.false_ne_true, if_pos rfl, show (1 : Int32) = N 1 from rfl, xFail h7 h3]
        simp only
        rw [addN]
        exact xFailW (by omega) hS (by omega)
      | true =>
        have k2 := tkNm2 hm
        have hok := tk_ok hq k2
        rw [if_pos rfl, if_neg (show ¬ true = false by decide)]
        unfold FX1_letterNamed
        have hh8 : sI S f 8 = N L := (frI hS (nf 0 (by omega)) 8).trans h8
        have hhn : ∀ i, i < L → sL S (f + 8) i = LN (e32 (ns i)) := fun i hi => by rw [frL hS (nf 8 (by omega))]; exact hn i hi
        have il := ixN_le (ns := ns) (l := (tokAt T q).2.2.2.1) L 0
        have eL : fX1_letterNamed FU 2 S f (LN (e32 (tokAt T q).2.2.2.1)) (N 0) = some (S, nAn (nIx ns (tokAt T q).2.2.2.1 L) L) := xLetL hL hh8 hhn hk hok L 0 FU (by omega) (by unfold FU; omega)
        rw [htk.2.2.2.2.2.1 k2, show (0 : Int32) = N 0 from rfl, eL]
        simp only
        have il' : nIx ns (tokAt T q).2.2.2.1 L < 2147483648 := by unfold nIx; omega
        by_cases hx : nIx ns (tokAt T q).2.2.2.1 L < L
        · rw [if_neg (fun e => (nAn1 il').mp e hx), if_pos hx, h0]
          by_cases h77 : n = 7
          · rw [if_pos h77, if_neg (show ¬ N n < (7 : Int32) from fun e => absurd ((ltN (b := 7) (by omega) (by omega)).mp e) (by omega)), show (5 : Int32) = N 5 from rfl, xFail h7 h3]
            simp only
            rw [show (1 : Int32) = N 1 from rfl, addN]
            exact xFailW (by omega) hS (by omega)
          · rw [if_neg h77, if_pos (show N n < (7 : Int32) from (ltN (b := 7) (by omega) (by omega)).mpr (by omega)), if_pos (vpN (by omega) (by omega)), clN (by omega)]
            have ev : nAn (nIx ns (tokAt T q).2.2.2.1 L) L = N (nIx ns (tokAt T q).2.2.2.1 L) := by unfold nAn; rw [if_pos hx]
            rw [ev]
            have e0 : sI (uR S (a2 + 1) n (N (nIx ns (tokAt T q).2.2.2.1 L))) a2 0 = N n := h0
            simp only [g_lt]
            rw [e0, addN1]
            obtain ⟨U, u1, ⟨u2, u2', -⟩, u3⟩ := xAdvance (S := uI (uR S (a2 + 1) n (N (nIx ns (tokAt T q).2.2.2.1 L))) a2 0 (N (n + 1))) (T := T) (p := (tokAt T q).2.2.1) hT e3 ⟨by rw [I_uI, if_neg (by omega)]; exact htk.1, by rw [R_uI]; intro i hi; rw [R_uR, if_neg (by omega)]; exact htk.2.1 i hi⟩ (by rw [I_uI, if_neg (by omega)]; exact htk.2.2.2.2.1)
            rw [u1]
            simp only [g_b1]
            have na : ∀ b, b ≠ 1 → b ∉ [1] := by intro b hb; simp only [List.mem_cons, List.not_mem_nil, or_false]; omega
            refine ih (n + 1) _ _ k U (by omega) (by omega) (skB_le e3) hk' ?_ u3 ?_ ?_ ?_
            · exact fr_tr (fr_uI (fr_uR hS (by simp)) (by simp)) (fr_mo u2 (by intro b hb; simp only [List.mem_cons, List.not_mem_nil, or_false] at hb ⊢; omega))
            · rw [u2', I_uI, if_neg (by omega)]; exact h7
            · rw [frI u2 (na a2 (by omega)), I_uI, if_pos ⟨rfl, rfl⟩]
            · intro i hi
              rw [frR u2 (na (a2 + 1) (by omega)), R_uI, R_uR]
              unfold upn
              by_cases ei : i = n
              · rw [if_pos ⟨rfl, ei⟩, if_pos ei]
              · rw [if_neg (by omega), if_neg ei]; exact hg i (by omega)
        · rw [if_pos ((nAn1 il').mpr hx), if_neg hx, show (2 : Int32) = N 2 from rfl, xFail h7 h3]
          simp only
          rw [show (1 : Int32) = N 1 from rfl, addN]
          exact xFailW (by omega) hS (by omega)
    rw [fX5_readWord]
    simp only [if_true, bX5_readWord_17]
    rw [if_neg (show ¬ (7 : Int32) < N n from fun e => absurd ((ltN (a := 7) (by omega) (by omega)).mp e) (by omega)), if_neg (show ¬ (1 : Int32) = 0 by decide)]
    by_cases hz : n = 0
    · rw [if_pos ((eq0N (by omega)).mpr hz)]
      exact body (fun h => h.1 hz)
    · rw [if_neg (fun e => hz ((eq0N (by omega)).mp e)), xIsEnd hq htk, wp_b2, wp_some]
      by_cases he : (tokAt T q).1 = 0
      · rw [decide_eq_true he, if_pos rfl, xClose, wp_b2, wp_some, wp_some, aWd, if_pos ⟨hz, he⟩]
        dsimp only
        refine ⟨fr_uI hS (by simp), by rw [I_uI, if_pos ⟨rfl, rfl⟩], h7, fun _ => ⟨?_, hg⟩⟩
        rw [I_uI, if_neg (by omega)]; exact h0
      · rw [decide_eq_false he, if_neg Bool.false_ne_true]
        exact body (fun h => he h.2)
