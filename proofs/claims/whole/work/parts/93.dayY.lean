/-! x reads a day -/
def aD1 (D : aD) (l : Nat × Nat × Nat × Nat × Nat) : aD := (D.1 + 1, upn D.2.1 D.1 l.2.2.1, upn D.2.2.1 D.1 l.2.2.2.1, up D.2.2.2 D.1 (N l.2.2.2.2))
def aDy (T : aTp) (mn : Nat → List Nat) (L : Nat) : Nat → aD → Nat → Nat × aD
  | 0, D, _ => (0, D)
  | m + 1, D, q =>
    if (tokAt T q).1 = 0 then (0, D)
    else if ¬ (aLn T mn L D.1 q).1 = 0 then ((aLn T mn L D.1 q).1, D)
    else if isSe T (aLn T mn L D.1 q).2.1 = false then (1 + 16 * (aLn T mn L D.1 q).2.1, D)
    else aDy T mn L m (aD1 D (aLn T mn L D.1 q)) (skB T (tokAt T (aLn T mn L D.1 q).2.1).2.2.1)
theorem aDy_ok {T : aTp} {mn : Nat → List Nat} {L : Nat} (hT : okT T) : ∀ m D q, q ≤ T.1 → D.1 + m = 41 → okD L D → okD L (aDy T mn L m D q).2 ∧ (aDy T mn L m D q).1 ≤ 17000 := by
  have h1000 := hT.1
  intro m
  induction m with
  | zero => intro D q hq hn h; exact ⟨h, by rw [aDy]; dsimp only; omega⟩
  | succ m ih =>
    intro D q hq hn h
    obtain ⟨l1, l2⟩ := aLn_ok (T := T) (mn := mn) (L := L) (n := D.1) hT hq
    rw [aDy]
    generalize aLn T mn L D.1 q = l at *
    split
    · exact ⟨h, by dsimp only; omega⟩
    · split
      · exact ⟨h, l1⟩
      · rename_i c
        obtain ⟨a1, a2, a3, a4, a5⟩ := l2 (Decidable.not_not.mp c)
        split
        · exact ⟨h, by dsimp only; omega⟩
        · have h40 := h.1
          refine ih _ _ (skB_le (tokAt_e a2).2.2.1) (by unfold aD1; dsimp only; omega) ?_
          unfold aD1
          refine ⟨by dsimp only; omega, fun i hi => ?_⟩
          dsimp only at hi ⊢
          unfold upn up
          by_cases e : i = D.1
          · rw [if_pos e, if_pos e, if_pos e]
            refine ⟨a3, a4, fun h1 => ?_⟩
            have := a5 h1
            rw [tiN (by omega)]
            omega
          · rw [if_neg e, if_neg e, if_neg e]
            exact h.2 i (by omega)
theorem xFailD {S0 S : gS} {f a2 n c k : Nat} {A : aD} (hk : 1 ≤ k) (hS : fr (lA a2) S0 S) (h7 : sI S 1 7 = N c) (hc : ¬ c = 0) : wp (fX5_readDay k 17 S f a2 0 (N (n + 1))) (fun r => fr (lA a2) S0 r.1 ∧ sI r.1 1 1 = 0 ∧ r.2 = N c ∧ (c = 0 → dX r.1 a2 A)) := by
  obtain ⟨k, rfl, -⟩ := kS (m := 0) hk
  have g : wp (g_b2 (FX8_close S) (fun S1 x2 => some (S1, x2))) (fun r => fr (lA a2) S0 r.1 ∧ sI r.1 1 1 = 0 ∧ r.2 = N c ∧ (c = 0 → dX r.1 a2 A)) := by
    rw [xClose, wp_b2, wp_some, wp_some]
    exact ⟨fr_uI hS (by simp), by rw [I_uI, if_pos ⟨rfl, rfl⟩], h7, fun h => absurd h hc⟩
  rw [fX5_readDay]
  simp only [if_true, bX5_readDay_17]
  split
  · exact g
  · exact g
theorem xDyL {S0 : gS} {T : aTp} {f a2 L : Nat} {mn : Nat → List Nat} (hT : okT T) (hf : f = 6 ∨ f = 20) (ha : a2 = 34 ∨ a2 = 38) (hL : L ≤ 7) (hk : ∀ i, i < L → okN (mn i)) (h8 : sI S0 f 0 = N L) (hn : ∀ i, i < L → sL S0 (f + 1) i = LN (e32 (mn i))) : ∀ m D q k S, D.1 + m = 41 → D.1 ≤ 40 → q ≤ T.1 → m + 2 ≤ k → fr (lA a2) S0 S → tkX S T (tokAt T q) → sI S 1 7 = 0 → dX S a2 D → wp (fX5_readDay k 17 S f a2 1 (N D.1)) (fun r => fr (lA a2) S0 r.1 ∧ sI r.1 1 1 = 0 ∧ r.2 = N (aDy T mn L m D q).1 ∧ ((aDy T mn L m D q).1 = 0 → dX r.1 a2 (aDy T mn L m D q).2)) := by
  intro m
  induction m with
  | zero => intro D q k S h1 h2; omega
  | succ m ih =>
    intro D q k S h1 h2 hq hk2 hS htk h7 hD
    obtain ⟨k, rfl, hk'⟩ := kS (k := k) (m := m + 2) (by omega)
    have h1000 := hT.1
    have nf : ∀ j, j ≤ 12 → f + j ∉ lA a2 := by intro j hj; simp only [List.mem_cons, List.not_mem_nil, or_false]; omega
    rw [fX5_readDay]
    simp only [if_true, bX5_readDay_17]
    rw [if_neg (show ¬ (40 : Int32) < N D.1 from fun e => absurd ((ltN (a := 40) (by omega) (by omega)).mp e) (by omega)), if_neg (show ¬ (1 : Int32) = 0 by decide), xIsEnd hq htk, wp_b2, wp_some, aDy]
    dsimp only
    by_cases he : (tokAt T q).1 = 0
    · rw [decide_eq_true he, if_pos rfl, if_pos he, xClose, wp_b2, wp_some, wp_some]
      dsimp only
      refine ⟨fr_uI hS (by simp), by rw [I_uI, if_pos ⟨rfl, rfl⟩], h7, fun _ => ⟨?_, hD.2⟩⟩
      rw [I_uI, if_neg (by omega)]; exact hD.1
    rw [decide_eq_false he, if_neg Bool.false_ne_true, if_neg he, wp_b2]
    obtain ⟨l1, l2⟩ := aLn_ok (T := T) (mn := mn) (L := L) (n := D.1) hT hq
    refine wp_mono (xDLine (n := D.1) hT hf ha hL hk ((frI hS (nf 0 (by omega)) 0).trans h8) (fun i hi => by rw [frL hS (nf 1 (by omega))]; exact hn i hi) hq h2 htk h7 hD.1) ?_
    rintro ⟨U, b⟩ ⟨⟨u1, u2⟩, ut, uf⟩
    dsimp only at u1 u2 ut uf ⊢
    generalize aLn T mn L D.1 q = l at *
    have hU := fr_tr hS u1
    by_cases c : l.1 = 0
    · obtain ⟨t1, t2, t3, t4, t5, t6, t7⟩ := ut c
      obtain ⟨a1, a2', a3, a4, a5⟩ := l2 c
      rw [t1, if_pos rfl, if_neg (show ¬ ¬ l.1 = 0 from fun h => h c), wp_b2]
      unfold FX8_takeSign
      rw [xSemi hT a2' t2, wp_b2, wp_some]
      dsimp only
      have g3 : sI U 1 3 = N l.2.1 := by rw [t2.2.2.2.1, (tokAt_e a2').1]
      cases hs : isSe T l.2.1 with
      | false =>
        rw [if_neg Bool.false_ne_true, if_pos rfl, show (1 : Int32) = N 1 from rfl, xFail t3 g3, wp_b2, wp_some, wp_some]
        dsimp only
        rw [if_neg Bool.false_ne_true, addN]
        exact xFailD (by omega) (fr_uI hU (by simp)) (by rw [I_uI, if_pos ⟨rfl, rfl⟩]) (by omega)
      | true =>
        rw [if_pos rfl, if_neg (show ¬ true = false by decide), wp_b1]
        refine wp_mono (xAdvT hT a2' t2) ?_
        rintro V ⟨v1, v2⟩
        rw [wp_some]
        dsimp only
        rw [if_pos rfl, addN1]
        have na : ∀ b, b ≠ 1 → b ∉ [1] := by intro b hb; simp only [List.mem_cons, List.not_mem_nil, or_false]; omega
        refine ih (aD1 D l) _ k V (by unfold aD1; dsimp only; omega) (by unfold aD1; dsimp only; omega) (skB_le (tokAt_e a2').2.2.1) hk' (fr_tr hU (fr_mo v1.1 (by intro b hb; simp only [List.mem_cons, List.not_mem_nil, or_false] at hb ⊢; omega))) v2 (v1.2.1.trans t3) ?_
        unfold aD1
        refine ⟨(frI v1.1 (na a2 (by omega)) 0).trans t4, fun i hi => ?_⟩
        dsimp only at hi ⊢
        rw [frR v1.1 (na (a2 + 1) (by omega)), frR v1.1 (na (a2 + 2) (by omega)), frR v1.1 (na (a2 + 3) (by omega))]
        unfold upn up
        by_cases e : i = D.1
        · rw [if_pos e, if_pos e, if_pos e, e]
          exact ⟨t5, t6, t7⟩
        · rw [if_neg e, if_neg e, if_neg e, u2 1 i (by omega) (by omega) e, u2 2 i (by omega) (by omega) e, u2 3 i (by omega) (by omega) e]
          exact hD.2 i (by omega)
    · obtain ⟨t1, t2⟩ := uf c
      rw [t1, if_neg Bool.false_ne_true, if_pos c, addN1]
      exact xFailD (by omega) hU t2 c
theorem xDay {S : gS} {T : aTp} {f a2 L : Nat} {mn : Nat → List Nat} (hT : okT T) (hr : rwX S T) (hf : f = 6 ∨ f = 20) (ha : a2 = 34 ∨ a2 = 38) (hL : L ≤ 7) (hk : ∀ i, i < L → okN (mn i)) (h8 : sI S f 0 = N L) (hn : ∀ i, i < L → sL S (f + 1) i = LN (e32 (mn i))) : wp (FX5_readDay S f a2) (fun r => fr (lA a2) S r.1 ∧ sI r.1 1 1 = 0 ∧ r.2 = N (aDy T mn L 41 (0, (fun _ => 0), (fun _ => 0), (fun _ => 0)) (skB T 0)).1 ∧ ((aDy T mn L 41 (0, (fun _ => 0), (fun _ => 0), (fun _ => 0)) (skB T 0)).1 = 0 → dX r.1 a2 (aDy T mn L 41 (0, (fun _ => 0), (fun _ => 0), (fun _ => 0)) (skB T 0)).2)) := by
  unfold FX5_readDay FX8_open
  simp only [g_lt]
  rw [wp_b1, wp_b1]
  refine wp_mono (xAdvance (S := uI (uI (uI S a2 0 0) 1 4 0) 1 7 0) (T := T) (p := 0) hT (by omega) ⟨by rw [I_uI, if_neg (by omega), I_uI, if_neg (by omega), I_uI, if_neg (by omega)]; exact hr.1, hr.2⟩ (by rw [I_uI, if_neg (by omega), I_uI, if_pos ⟨rfl, rfl⟩]; rfl)) ?_
  rintro U ⟨⟨u1, u2, -⟩, u3⟩
  rw [wp_some]
  have na : ∀ b, b ≠ 1 → b ∉ [1] := by intro b hb; simp only [List.mem_cons, List.not_mem_nil, or_false]; omega
  have hS : fr (lA a2) S U := fr_tr (fr_uI (fr_uI (fr_uI fr_rf (by simp)) (by simp)) (by simp)) (fr_mo u1 (by intro b hb; simp only [List.mem_cons, List.not_mem_nil, or_false] at hb ⊢; omega))
  refine xDyL hT hf ha hL hk h8 hn 41 (0, (fun _ => 0), (fun _ => 0), (fun _ => 0)) (skB T 0) FU U (by dsimp only) (by dsimp only; omega) (skB_le (by omega)) (by unfold FU; omega) hS u3 ?_ ⟨?_, fun i hi => absurd hi (Nat.not_lt_zero i)⟩
  · rw [u2, I_uI, if_pos ⟨rfl, rfl⟩]
  · rw [frI u1 (na a2 (by omega)), I_uI, if_neg (by omega), I_uI, if_neg (by omega), I_uI, if_pos ⟨rfl, rfl⟩]; rfl
