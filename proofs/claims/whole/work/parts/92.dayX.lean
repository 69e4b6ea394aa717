/-! x reads a line -/
theorem R_self {S : gS} {a k : Nat} {x : Int32} : sR (uR S a k x) a k = x := by rw [R_uR, if_pos ⟨rfl, rfl⟩]
theorem xMouL {S : gS} {f L : Nat} {ns : Nat → List Nat} {l : List Nat} (hL : L ≤ 7) (h8 : sI S f 0 = N L) (hn : ∀ i, i < L → sL S (f + 1) i = LN (e32 (ns i))) (hk : ∀ i, i < L → okN (ns i)) (hl : okN l) : ∀ m i k, i + m = L → m + 1 ≤ k → fX1_mouthNamed k 2 S f (LN (e32 l)) (N i) = some (S, nAn (ixN ns l m i) L) := by
  intro m
  induction m with
  | zero =>
    intro i k hi hk2
    obtain ⟨k, rfl, -⟩ := kS (m := 0) hk2
    rw [fX1_mouthNamed]
    simp only [if_true, bX1_mouthNamed_2]
    rw [h8, if_pos ((leN (by omega) (by omega)).mpr (by omega)), ixN]
    unfold nAn
    rw [if_neg (by omega)]
  | succ m ih =>
    intro i k hi hk2
    obtain ⟨k, rfl, hk'⟩ := kS (m := m + 1) hk2
    rw [fX1_mouthNamed]
    simp only [if_true, bX1_mouthNamed_2]
    rw [h8, if_neg (fun e => absurd ((leN (by omega) (by omega)).mp e) (by omega)), if_pos (vpN (by omega) (by omega)), clN (by omega), hn i (by omega), ixN]
    by_cases c : ns i = l
    · rw [if_pos (lcmp0.mpr ((e32_q (hk i (by omega)) hl).mpr c)), if_pos c]
      unfold nAn
      rw [if_pos (by omega)]
    · rw [if_neg (fun e => c ((e32_q (hk i (by omega)) hl).mp (lcmp0.mp e))), if_neg c, addN1]
      exact ih (i + 1) k (by omega) hk'
abbrev lA (a2 : Nat) : List Nat := [1, a2, a2 + 1, a2 + 2, a2 + 3]
def lX (a2 n : Nat) (S S' : gS) : Prop := fr (lA a2) S S' ∧ ∀ j i, 1 ≤ j → j ≤ 3 → i ≠ n → sR S' (a2 + j) i = sR S (a2 + j) i
theorem lX_rf {a2 n : Nat} {S : gS} : lX a2 n S S := ⟨fr_rf, fun _ _ _ _ _ => rfl⟩
theorem lX_1 {a2 n k : Nat} {S S' : gS} {x : Int32} (h : lX a2 n S S') : lX a2 n S (uI S' 1 k x) := ⟨fr_uI h.1 (by simp), h.2⟩
theorem lX_0 {a2 n k : Nat} {S S' : gS} {x : Int32} (h : lX a2 n S S') : lX a2 n S (uI S' a2 k x) := ⟨fr_uI h.1 (by simp), h.2⟩
theorem lX_R {a2 n j : Nat} {S S' : gS} {x : Int32} (h : lX a2 n S S') (h1 : 1 ≤ j) (h2 : j ≤ 3) : lX a2 n S (uR S' (a2 + j) n x) :=
  ⟨fr_uR h.1 (by simp only [List.mem_cons, List.not_mem_nil, or_false]; omega), fun j' i a b hi => by rw [R_uR, if_neg (by omega)]; exact h.2 j' i a b hi⟩
theorem lX_k {a2 n : Nat} {S S' S2 : gS} (ha : 4 ≤ a2) (h : lX a2 n S S') (h' : kX1 S' S2) : lX a2 n S S2 := by
  refine ⟨fr_tr h.1 (fr_mo h'.1 (by intro b hb; simp only [List.mem_cons, List.not_mem_nil, or_false] at hb ⊢; omega)), fun j i a b hi => ?_⟩
  rw [frR h'.1 (show a2 + j ∉ [1] by simp only [List.mem_cons, List.not_mem_nil, or_false]; omega)]
  exact h.2 j i a b hi
def lXp (S0 : gS) (T : aTp) (a2 n : Nat) (l : Nat × Nat × Nat × Nat × Nat) (r : gS × Bool) : Prop := lX a2 n S0 r.1 ∧ (l.1 = 0 → r.2 = true ∧ tkX r.1 T (tokAt T l.2.1) ∧ sI r.1 1 7 = 0 ∧ sI r.1 a2 0 = N (n + 1) ∧ sR r.1 (a2 + 1) n = N l.2.2.1 ∧ (l.2.2.1 ≠ 0 → sR r.1 (a2 + 2) n = N l.2.2.2.1) ∧ (l.2.2.1 = 1 → sR r.1 (a2 + 3) n = N l.2.2.2.2)) ∧ (¬ l.1 = 0 → r.2 = false ∧ sI r.1 1 7 = N l.1)
theorem lXp_f {S0 S : gS} {T : aTp} {a2 n q c : Nat} {z : Nat × Nat × Nat × Nat} (hS : lX a2 n S0 S) (h7 : sI S 1 7 = 0) (h3 : sI S 1 3 = N q) (hc : ¬ c = 0) : wp (g_b2 (FX8_fail S (N c)) (fun a b => some (a, b))) (lXp S0 T a2 n (c + 16 * q, z)) := by
  rw [xFail h7 h3, wp_b2, wp_some, wp_some]
  exact ⟨lX_1 hS, fun h => by dsimp only at h; omega, fun _ => ⟨rfl, by rw [I_uI, if_pos ⟨rfl, rfl⟩]⟩⟩
theorem tkX_i {S S' : gS} {T : aTp} {k : aTk} (h : tkX S T k) (hI : ∀ j, sI S' 1 j = sI S 1 j) (hR : sR S' 2 = sR S 2) (hJ : sJ S' = sJ S) : tkX S' T k := by
  unfold tkX at h ⊢
  rw [hI, hI, hI, hI, hI, hR, hJ]; exact h
theorem xAdvT {S : gS} {T : aTp} {q : Nat} (hT : okT T) (hq : q ≤ T.1) (hk : tkX S T (tokAt T q)) : wp (FX8_advance S) (fun U => kX1 S U ∧ tkX U T (tokAt T (skB T (tokAt T q).2.2.1))) :=
  xAdvance hT (tokAt_e hq).2.2.1 ⟨hk.1, hk.2.1⟩ hk.2.2.2.2.1
theorem xDLine {S : gS} {T : aTp} {f a2 n q L : Nat} {mn : Nat → List Nat} (hT : okT T) (hf : f = 6 ∨ f = 20) (ha : a2 = 34 ∨ a2 = 38) (hL : L ≤ 7) (hk : ∀ i, i < L → okN (mn i)) (h8 : sI S f 0 = N L) (hn : ∀ i, i < L → sL S (f + 1) i = LN (e32 (mn i))) (hq : q ≤ T.1) (hn40 : n ≤ 40) (htk : tkX S T (tokAt T q)) (h7 : sI S 1 7 = 0) (h0 : sI S a2 0 = N n) : wp (FX5_readLine S f a2) (lXp S T a2 n (aLn T mn L n q)) := by
  have h1000 := hT.1
  obtain ⟨e1, e2, e3, e4, e5, e6⟩ := tokAt_e hq
  have h3 : sI S 1 3 = N q := by rw [htk.2.2.2.1, e1]
  have hac := tkAc_le (k := tokAt T q)
  have n1 : ∀ b, b ≠ 1 → b ∉ [1] := by intro b hb; simp only [List.mem_cons, List.not_mem_nil, or_false]; omega
  unfold FX5_readLine aLn
  rw [xAct hT hq htk, wp_b2, wp_some]
  dsimp only
  by_cases c4 : tkAc (tokAt T q) = 4
  · rw [if_pos c4, if_pos ((nAn1 (by omega)).mpr (by omega))]
    exact lXp_f (c := 1) lX_rf h7 h3 (by omega)
  rw [if_neg c4, if_neg (fun h => (nAn1 (by omega)).mp h (by omega)), h0]
  have ev : nAn (tkAc (tokAt T q)) 4 = N (tkAc (tokAt T q)) := by unfold nAn; rw [if_pos (by omega)]
  rw [ev]
  by_cases c40 : n = 40
  · rw [if_pos c40, if_neg (show ¬ N n < (40 : Int32) from fun e => absurd ((ltN (b := 40) (by omega) (by omega)).mp e) (by omega))]
    exact lXp_f (c := 5) lX_rf h7 h3 (by omega)
  rw [if_neg c40, if_pos (show N n < (40 : Int32) from (ltN (b := 40) (by omega) (by omega)).mpr (by omega)), wp_b1]
  refine wp_mono (xAdvT hT hq htk) ?_
  rintro U ⟨u1, u2⟩
  rw [if_pos (vpN (by omega) (by omega)), clN (by omega), wp_lt, wp_lt]
  have eU : sI (uR U (a2 + 1) n (N (tkAc (tokAt T q)))) a2 0 = N n := by
    rw [show sI (uR U (a2 + 1) n (N (tkAc (tokAt T q)))) a2 0 = sI U a2 0 from rfl, frI u1.1 (n1 a2 (by omega))]; exact h0
  rw [eU, addN1]
  have s1 := skB_le e3
  generalize tkAc (tokAt T q) = ac at *
  generalize skB T (tokAt T q).2.2.1 = q1 at *
  obtain ⟨f1, f2, f3, f4, f5, f6⟩ := tokAt_e s1
  have hV : lX a2 n S (uI (uR U (a2 + 1) n (N ac)) a2 0 (N (n + 1))) := lX_0 (lX_R (lX_k (by omega) lX_rf u1) (by omega) (by omega))
  have v2 : tkX (uI (uR U (a2 + 1) n (N ac)) a2 0 (N (n + 1))) T (tokAt T q1) := tkX_i u2 (fun j => by rw [I_uI, if_neg (by omega)]; rfl) (by funext i; rw [R_uI, R_uR, if_neg (by omega)]) rfl
  have v7 : sI (uI (uR U (a2 + 1) n (N ac)) a2 0 (N (n + 1))) 1 7 = 0 := by rw [I_uI, if_neg (by omega)]; exact u1.2.1.trans h7
  have v0 : sI (uI (uR U (a2 + 1) n (N ac)) a2 0 (N (n + 1))) a2 0 = N (n + 1) := by rw [I_uI, if_pos ⟨rfl, rfl⟩]
  have vR : sR (uI (uR U (a2 + 1) n (N ac)) a2 0 (N (n + 1))) (a2 + 1) n = N ac := by rw [R_uI, R_uR, if_pos ⟨rfl, rfl⟩]
  generalize uI (uR U (a2 + 1) n (N ac)) a2 0 (N (n + 1)) = V at *
  clear eU u1 u2
  by_cases c0 : ac = 0
  · rw [if_pos c0, if_pos (show N ac = (0 : Int32) by rw [c0]; rfl), wp_some]
    exact ⟨hV, fun _ => ⟨rfl, v2, v7, v0, by rw [vR, c0], fun h => absurd rfl h, fun h => absurd h (by dsimp only; omega)⟩, fun h => absurd rfl h⟩
  rw [if_neg c0, if_neg (show ¬ N ac = (0 : Int32) from fun h => c0 ((eq0N (by omega)).mp h))]
  have nf : ∀ j, j ≤ 12 → f + j ∉ lA a2 := by intro j hj; simp only [List.mem_cons, List.not_mem_nil, or_false]; omega
  have w3 : sI V 1 3 = N q1 := by rw [v2.2.2.2.1, f1]
  unfold FX8_mouthHere
  rw [xIsName hT s1 v2, wp_b2, wp_b2, wp_some]
  dsimp only
  cases hm : tkNm (tokAt T q1) with
  | false =>
    rw [if_neg Bool.false_ne_true, if_pos rfl, show (1 : Int32) = N 1 from rfl, xFail v7 w3, wp_b2, wp_some, wp_some]
    dsimp only
    rw [if_pos rfl, wp_some]
    exact ⟨lX_1 hV, fun h => by dsimp only at h; omega, fun _ => ⟨rfl, by rw [I_uI, if_pos ⟨rfl, rfl⟩]⟩⟩
  | true =>
    have k2 := tkNm2 hm
    have hok := tk_ok s1 k2
    rw [if_pos rfl, if_neg (show ¬ true = false by decide)]
    unfold FX1_mouthNamed
    have il := ixN_le (ns := mn) (l := (tokAt T q1).2.2.2.1) L 0
    have eL : fX1_mouthNamed FU 2 V f (LN (e32 (tokAt T q1).2.2.2.1)) (N 0) = some (V, nAn (nIx mn (tokAt T q1).2.2.2.1 L) L) := xMouL hL ((frI hV.1 (nf 0 (by omega)) 0).trans h8) (fun i hi => by rw [frL hV.1 (nf 1 (by omega))]; exact hn i hi) hk hok L 0 FU (by omega) (by unfold FU; omega)
    rw [v2.2.2.2.2.2.1 k2, show (0 : Int32) = N 0 from rfl, eL, wp_b2, wp_some]
    dsimp only
    have il' : nIx mn (tokAt T q1).2.2.2.1 L < 2147483648 := by unfold nIx; omega
    generalize nIx mn (tokAt T q1).2.2.2.1 L = ix at *
    by_cases hx : ix < L
    · have evx : nAn ix L = N ix := by unfold nAn; rw [if_pos hx]
      rw [if_neg (fun e => (nAn1 il').mp e hx), if_neg (fun h => h hx), wp_some]
      dsimp only
      rw [if_neg (fun e => (nAn1 il').mp e hx), evx, wp_b1]
      refine wp_mono (xAdvT hT s1 v2) ?_
      rintro U ⟨u1, u2⟩
      have s2 := skB_le f3
      generalize skB T (tokAt T q1).2.2.1 = q2 at *
      obtain ⟨g1, g2, g3, g4, g5, g6⟩ := tokAt_e s2
      rw [wp_lt]
      have hW : lX a2 n S (uR U (a2 + 2) n (N ix)) := lX_R (lX_k (by omega) hV u1) (by omega) (by omega)
      have w2 : tkX (uR U (a2 + 2) n (N ix)) T (tokAt T q2) := tkX_i u2 (fun j => rfl) (by funext i; rw [R_uR, if_neg (by omega)]) rfl
      have w7 : sI (uR U (a2 + 2) n (N ix)) 1 7 = 0 := u1.2.1.trans v7
      have w0 : sI (uR U (a2 + 2) n (N ix)) a2 0 = N (n + 1) := (frI u1.1 (n1 a2 (by omega)) 0).trans v0
      have wR1 : sR (uR U (a2 + 2) n (N ix)) (a2 + 1) n = N ac := by rw [R_uR, if_neg (by omega), frR u1.1 (n1 (a2 + 1) (by omega))]; exact vR
      have wR2 : sR (uR U (a2 + 2) n (N ix)) (a2 + 2) n = N ix := by rw [R_uR, if_pos ⟨rfl, rfl⟩]
      generalize uR U (a2 + 2) n (N ix) = W at *
      clear u1 u2
      by_cases c1 : ac = 1
      · rw [if_neg (show ¬ ¬ ac = 1 from fun h => h c1), if_pos (show N ac = (1 : Int32) by rw [c1]; rfl)]
        have x3 : sI W 1 3 = N q2 := by rw [w2.2.2.2.1, g1]
        unfold FX8_takeNumber
        rw [w2.2.2.1]
        by_cases k3 : (tokAt T q2).1 = 3
        · have e6' := w2.2.2.2.2.2.2 k3
          have nub : (tokAt T q2).2.2.2.2 < 2147483648 := tkN_b k3
          rw [if_pos (show N (tokAt T q2).1 = (3 : Int32) by rw [k3]; rfl), if_neg (show ¬ ¬ (tokAt T q2).1 = 3 from fun h => h k3), e6']
          generalize (tokAt T q2).2.2.2.2 = nu at *
          by_cases lo : 1 ≤ nu
          · rw [if_neg (show ¬ N nu < (1 : Int32) from fun h => absurd ((ltN (b := 1) nub (by omega)).mp h) (by omega))]
            by_cases hi : nu ≤ 20
            · rw [if_pos (show N nu ≤ (20 : Int32) from (leN (b := 20) nub (by omega)).mpr hi), if_neg (show ¬ ¬ (1 ≤ nu ∧ nu ≤ 20) from fun h => h ⟨lo, hi⟩), wp_b2, wp_b1]
              refine wp_mono (xAdvT hT s2 w2) ?_
              rintro Y ⟨y1, y2⟩
              rw [wp_some]
              dsimp only
              rw [wp_lt, R_self, if_neg (N_ne_m1 nub), wp_some]
              refine ⟨lX_R (lX_k (by omega) hW y1) (by omega) (by omega), fun _ => ⟨rfl, tkX_i y2 (fun j => rfl) (by funext i; rw [R_uR, if_neg (by omega)]) rfl, y1.2.1.trans w7, (frI y1.1 (n1 a2 (by omega)) 0).trans w0, ?_, fun _ => ?_, fun _ => ?_⟩, fun h => absurd rfl h⟩
              · dsimp only
                rw [R_uR, if_neg (by omega), frR y1.1 (n1 (a2 + 1) (by omega)), wR1, c1]
              · dsimp only
                rw [R_uR, if_neg (by omega), frR y1.1 (n1 (a2 + 2) (by omega)), wR2]
              · dsimp only
                rw [R_uR, if_pos ⟨rfl, rfl⟩]
            · rw [if_neg (show ¬ N nu ≤ (20 : Int32) from fun h => hi ((leN (b := 20) nub (by omega)).mp h)), if_pos (show ¬ (1 ≤ nu ∧ nu ≤ 20) from fun h => hi h.2), show (4 : Int32) = N 4 from rfl, xFail w7 x3, wp_b2, wp_b2, wp_some, wp_some]
              dsimp only
              rw [wp_lt, R_self, if_pos rfl, wp_some]
              exact ⟨lX_R (lX_1 hW) (by omega) (by omega), fun h => by dsimp only at h; omega, fun _ => ⟨rfl, by rw [show ∀ (S : gS) (a k : Nat) (x : Int32), sI (uR S a k x) = sI S from fun _ _ _ _ => rfl, I_uI, if_pos ⟨rfl, rfl⟩]⟩⟩
          · rw [if_pos (show N nu < (1 : Int32) from (ltN (b := 1) nub (by omega)).mpr (by omega)), if_pos (show ¬ (1 ≤ nu ∧ nu ≤ 20) from fun h => lo h.1), show (4 : Int32) = N 4 from rfl, xFail w7 x3, wp_b2, wp_b2, wp_some, wp_some]
            dsimp only
            rw [wp_lt, R_self, if_pos rfl, wp_some]
            exact ⟨lX_R (lX_1 hW) (by omega) (by omega), fun h => by dsimp only at h; omega, fun _ => ⟨rfl, by rw [show ∀ (S : gS) (a k : Nat) (x : Int32), sI (uR S a k x) = sI S from fun _ _ _ _ => rfl, I_uI, if_pos ⟨rfl, rfl⟩]⟩⟩
        · rw [if_neg (show ¬ N (tokAt T q2).1 = (3 : Int32) from fun h => k3 ((eqN (b := 3) (by omega) (by omega)).mp h)), if_pos k3, show FX8_fail W (1 : Int32) = FX8_fail W (N 1) from rfl, xFail w7 x3, wp_b2, wp_b2, wp_some, wp_some]
          dsimp only
          rw [wp_lt, R_self, if_pos rfl, wp_some]
          exact ⟨lX_R (lX_1 hW) (by omega) (by omega), fun h => by dsimp only at h; omega, fun _ => ⟨rfl, by rw [show ∀ (S : gS) (a k : Nat) (x : Int32), sI (uR S a k x) = sI S from fun _ _ _ _ => rfl, I_uI, if_pos ⟨rfl, rfl⟩]⟩⟩
      · rw [if_pos c1, if_neg (show ¬ N ac = (1 : Int32) from fun h => c1 ((eqN (b := 1) (by omega) (by omega)).mp h)), wp_some]
        exact ⟨hW, fun _ => ⟨rfl, w2, w7, w0, wR1, fun _ => wR2, fun h => absurd h c1⟩, fun h => absurd rfl h⟩
    · rw [if_pos ((nAn1 il').mpr hx), if_pos hx, show (2 : Int32) = N 2 from rfl, xFail v7 w3, wp_b2, wp_some, wp_some]
      dsimp only
      rw [if_pos ((nAn1 il').mpr hx), wp_some]
      exact ⟨lX_1 hV, fun h => by dsimp only at h; omega, fun _ => ⟨rfl, by rw [I_uI, if_pos ⟨rfl, rfl⟩]⟩⟩
