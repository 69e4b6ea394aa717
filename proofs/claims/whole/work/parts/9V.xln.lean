/-! x reads the lines of a front -/
abbrev lF (f : Nat) : List Nat := [1, f, f + 1, f + 2, f + 3, f + 4, f + 5, f + 6, f + 7, f + 8, f + 9, f + 10, f + 11, f + 12]
def xFp (S0 : gS) (T : aTp) (f : Nat) (l : aLi) (r : gS × Bool) : Prop := fr (lF f) S0 r.1 ∧ (l.1 = 0 → r.2 = true ∧ tkX r.1 T (tokAt T l.2.1) ∧ sI r.1 1 7 = 0 ∧ dbX r.1 f l.2.2) ∧ (¬ l.1 = 0 → r.2 = false ∧ sI r.1 1 7 = N l.1)
theorem xFp_f {S0 S : gS} {T : aTp} {f c z : Nat} {B : aB} (h : fr (lF f) S0 S) (hc : ¬ c = 0) (h7 : sI S 1 7 = N c) : xFp S0 T f (c, z, B) (S, false) := ⟨h, fun e => absurd e hc, fun _ => ⟨rfl, h7⟩⟩
theorem xAdvN {S : gS} {T : aTp} {q : Nat} (hT : okT T) (hq : q ≤ T.1) (hk : tkX S T (tokAt T q)) : wp (FX8_advance S) (fun U => kX1 S U ∧ tkX U T (tokAt T (nx T q))) := xAdvT hT hq hk
theorem n1b {b : Nat} (h : b ≠ 1) : b ∉ [1] := by simp only [List.mem_cons, List.not_mem_nil, or_false]; omega
theorem k1F {f : Nat} {S U : gS} (h : fr [1] S U) : fr (lF f) S U := fr_mo h (by intro b hb; simp only [List.mem_cons, List.not_mem_nil, or_false] at hb ⊢; omega)
theorem dbX_1 {S U : gS} {f : Nat} {B : aB} (hf : f = 6 ∨ f = 20) (h : dbX S f B) (hU : fr [1] S U) : dbX U f B := by
  obtain ⟨a1, a2, a3, a4, a5, a6, a7, a8, a9, a10⟩ := h
  refine ⟨(frI hU (n1b (by omega)) 0).trans a1, fun i hi => ?_, (frI hU (n1b (by omega)) 8).trans a3, fun i hi => ?_, (frI hU (n1b (by omega)) 11).trans a5, fun i hi => ?_, (frI hU (n1b (by omega)) 1).trans a7, ?_, fun i hi => ?_, fun i hi => ?_⟩
  · rw [frR hU (n1b (b := f + 2) (by omega)), frR hU (n1b (b := f + 3) (by omega)), frR hU (n1b (b := f + 4) (by omega)), frR hU (n1b (b := f + 5) (by omega)), frR hU (n1b (b := f + 6) (by omega)), frR hU (n1b (b := f + 7) (by omega))]; exact a2 i hi
  · rw [frR hU (n1b (b := f + 9) (by omega))]; exact a4 i hi
  · rw [frR hU (n1b (b := f + 10) (by omega))]; exact a6 i hi
  · rw [frR hU (n1b (b := f + 12) (by omega))]; exact a8
  · rw [frL hU (n1b (b := f + 1) (by omega))]; exact a9 i hi
  · rw [frL hU (n1b (b := f + 8) (by omega))]; exact a10 i hi
theorem xTk3 {S : gS} {T : aTp} {q : Nat} (hq : q ≤ T.1) (hk : tkX S T (tokAt T q)) : sI S 1 3 = N q := by rw [hk.2.2.2.1, (tokAt_e hq).1]
theorem xFl1 {S0 S : gS} {T : aTp} {f c q z : Nat} {B : aB} (hc : ¬ c = 0) (hS : fr (lF f) S0 S) (hq : q ≤ T.1) (hk : tkX S T (tokAt T q)) (h7 : sI S 1 7 = 0) : wp (g_b2 (FX8_fail S (N c)) (fun S1 b => some (S1, b))) (xFp S0 T f (c + 16 * q, z, B)) := by
  rw [xFail h7 (xTk3 hq hk), wp_b2, wp_some, wp_some]
  exact xFp_f (fr_uI hS (by simp)) (by omega) I_self
theorem xMouH {S : gS} {T : aTp} {f q L : Nat} {mn : Nat → List Nat} (hT : okT T) (hL : L ≤ 7) (hkL : ∀ i, i < L → okN (mn i)) (h0 : sI S f 0 = N L) (hn : ∀ i, i < L → sL S (f + 1) i = LN (e32 (mn i))) (hq : q ≤ T.1) (htk : tkX S T (tokAt T q)) (h7 : sI S 1 7 = 0) : wp (FX8_mouthHere S f) (fun r => fr [1] S r.1 ∧ ((aMe T mn L q).1 = 0 → r.2 = N (aMe T mn L q).2 ∧ r.1 = S) ∧ (¬ (aMe T mn L q).1 = 0 → r.2 = -1 ∧ sI r.1 1 7 = N (aMe T mn L q).1)) := by
  have h1000 := hT.1
  have h3 := xTk3 hq htk
  unfold FX8_mouthHere aMe
  rw [xIsName hT hq htk, wp_b2, wp_some]
  dsimp only
  cases hm : tkNm (tokAt T q) with
  | false =>
    rw [if_neg Bool.false_ne_true, if_pos rfl, show (1 : Int32) = N 1 from rfl, xFail h7 h3, wp_b2, wp_some, wp_some]
    exact ⟨fr_uI fr_rf (by simp), fun h => by dsimp only at h; omega, fun _ => ⟨rfl, I_self⟩⟩
  | true =>
    have k2 := tkNm2 hm
    have hok := tk_ok hq k2
    rw [if_pos rfl, if_neg (show ¬ true = false by decide)]
    unfold FX1_mouthNamed
    have il := ixN_le (ns := mn) (l := (tokAt T q).2.2.2.1) L 0
    have eL : fX1_mouthNamed FU 2 S f (LN (e32 (tokAt T q).2.2.2.1)) (N 0) = some (S, nAn (nIx mn (tokAt T q).2.2.2.1 L) L) := xMouL hL h0 hn hkL hok L 0 FU (by omega) (by unfold FU; omega)
    have il' : nIx mn (tokAt T q).2.2.2.1 L < 2147483648 := by unfold nIx; omega
    rw [htk.2.2.2.2.2.1 k2, show (0 : Int32) = N 0 from rfl, eL, wp_b2, wp_some]
    dsimp only
    generalize nIx mn (tokAt T q).2.2.2.1 L = ix at *
    by_cases hx : ix < L
    · have evx : nAn ix L = N ix := by unfold nAn; rw [if_pos hx]
      rw [if_neg (fun e => (nAn1 il').mp e hx), if_pos hx, wp_some, evx]
      exact ⟨fr_rf, fun _ => ⟨rfl, rfl⟩, fun h => absurd rfl h⟩
    · rw [if_pos ((nAn1 il').mpr hx), if_neg hx, show (2 : Int32) = N 2 from rfl, xFail h7 h3, wp_b2, wp_some, wp_some]
      exact ⟨fr_uI fr_rf (by simp), fun h => by dsimp only at h; omega, fun _ => ⟨(nAn1 il').mpr hx, I_self⟩⟩
theorem dbX_gu {S : gS} {f a b : Nat} {B : aB} (hf : f = 6 ∨ f = 20) (h : dbX S f B) : dbX (uR S (f + 6) a (N b)) f (guB B a b) := by
  obtain ⟨a1, a2, a3, a4, a5, a6, a7, a8, a9, a10⟩ := h
  have e : ∀ r, r ≠ f + 6 → sR (uR S (f + 6) a (N b)) r = sR S r := by
    intro r hr
    funext j
    rw [R_uR, if_neg (by omega)]
  refine ⟨a1, fun i hi => ?_, a3, fun i hi => ?_, a5, fun i hi => ?_, a7, ?_, a9, a10⟩
  · rw [e (f + 2) (by omega), e (f + 3) (by omega), e (f + 4) (by omega), e (f + 5) (by omega), e (f + 7) (by omega)]
    obtain ⟨z1, z2, z3, z4, z5, z6⟩ := a2 i hi
    refine ⟨z1, z2, z3, z4, ?_, z6⟩
    show _ = up (fG (bdF B)) a (N b) i
    unfold up
    rw [R_uR]
    by_cases c : i = a
    · rw [if_pos ⟨rfl, c⟩, if_pos c]
    · rw [if_neg (fun z => c z.2), if_neg c]; exact z5
  · rw [e (f + 9) (by omega)]; exact a4 i hi
  · rw [e (f + 10) (by omega)]; exact a6 i hi
  · rw [e (f + 12) (by omega)]; exact a8
/-- gutter -/
theorem xGut {S : gS} {T : aTp} {f q : Nat} {B : aB} (hT : okT T) (hf : f = 6 ∨ f = 20) (k : okB B) (hB : dbX S f B) (hq : q ≤ T.1) (htk : tkX S T (tokAt T q)) (h7 : sI S 1 7 = 0) : wp (FX2_readGutter S f) (xFp S T f (lnG T B q)) := by
  have h1000 := hT.1
  have q1 := nx_le hq
  have q2 := nx_le q1
  have hL := k.1.1
  obtain ⟨a1, a2⟩ := aMe_ok (mn := bdM B) (L := fN (bdF B)) hT q1
  obtain ⟨b1, b2⟩ := aMe_ok (mn := bdM B) (L := fN (bdF B)) hT q2
  unfold FX2_readGutter lnG
  rw [wp_b1]
  refine wp_mono (xAdvN hT hq htk) ?_
  rintro U ⟨u1, u2⟩
  have uB := dbX_1 hf hB u1.1
  have u7 := u1.2.1.trans h7
  rw [wp_b2]
  refine wp_mono (xMouH hT hL k.2.1.1 uB.1 uB.2.2.2.2.2.2.2.2.1 q1 u2 u7) ?_
  rintro ⟨V, x⟩ ⟨v1, v2, v3⟩
  dsimp only at v1 v2 v3 ⊢
  generalize aMe T (bdM B) (fN (bdF B)) (nx T q) = A at *
  by_cases cA : A.1 = 0
  · obtain ⟨e1, e2⟩ := v2 cA
    obtain ⟨a3, a4⟩ := a2 cA
    subst e2
    have gB := (uB.2.1 A.2 a3).2.2.2.2.1
    rw [if_neg (show ¬ ¬ A.1 = 0 from fun h => h cA), e1, if_neg (N_ne_m1 (by omega)), if_pos (vpN (by omega) (by omega)), clN (by omega), gB]
    by_cases cg : fG (bdF B) A.2 = -1
    · rw [if_pos cg, if_neg (fun h => h cg), wp_b1]
      refine wp_mono (xAdvN hT q1 u2) ?_
      rintro W ⟨w1, w2⟩
      have wB := dbX_1 hf uB w1.1
      have w7 := w1.2.1.trans u7
      have fW : fr (lF f) S W := fr_tr (k1F u1.1) (k1F w1.1)
      rw [wp_b2]
      refine wp_mono (xMouH hT hL k.2.1.1 wB.1 wB.2.2.2.2.2.2.2.2.1 q2 w2 w7) ?_
      rintro ⟨X, y⟩ ⟨x1, x2, x3⟩
      dsimp only at x1 x2 x3 ⊢
      generalize aMe T (bdM B) (fN (bdF B)) (nx T (nx T q)) = C at *
      by_cases cC : C.1 = 0
      · obtain ⟨e3, e4⟩ := x2 cC
        obtain ⟨b3, b4⟩ := b2 cC
        subst e4
        have g1 := (wB.2.1 C.2 b3).2.1
        have g2 := (wB.2.1 A.2 a3).2.1
        rw [if_neg (show ¬ ¬ C.1 = 0 from fun h => h cC), e3, if_neg (N_ne_m1 (by omega)), if_pos (vpN (by omega) (by omega)), clN (by omega), g1, g2]
        by_cases ch : fH (bdF B) C.2 < fH (bdF B) A.2
        · rw [if_pos ch, if_neg (fun h => h ch), wp_b1]
          refine wp_mono (xAdvN hT q2 w2) ?_
          rintro Y ⟨y1, y2⟩
          rw [wp_lt, wp_some]
          refine ⟨fr_uR (fr_tr fW (k1F y1.1)) (by simp), fun _ => ⟨rfl, tkX_i y2 (fun _ => rfl) (by funext i; rw [R_uR, if_neg (by omega)]) rfl, y1.2.1.trans w7, dbX_gu hf (dbX_1 hf wB y1.1)⟩, fun h => absurd rfl h⟩
        · rw [if_neg ch, if_pos ch]
          exact xFl1 (c := 3) (by omega) fW q2 w2 w7
      · obtain ⟨e3, e4⟩ := x3 cC
        rw [if_pos cC, e3, if_pos rfl, wp_some]
        exact xFp_f (fr_tr fW (k1F x1)) cC e4
    · rw [if_neg cg, if_pos cg]
      exact xFl1 (c := 3) (by omega) (k1F u1.1) q1 u2 u7
  · obtain ⟨e1, e2⟩ := v3 cA
    rw [if_pos cA, e1, if_pos rfl, wp_some]
    exact xFp_f (fr_tr (k1F u1.1) (k1F v1)) cA e2
/-- letter -/
theorem xLet2 {S : gS} {f L : Nat} {M : Nat → Int32} {x : Int32} (hL : L ≤ 6) (hl : sI S f 8 = N L) (hm : ∀ i, i < L → sR S (f + 9) i = M i) : ∀ m i k, i + m = L → m + 1 ≤ k → fX1_letterOf k 2 S f x (N i) = some (S, aLet M x m i) := by
  intro m
  induction m with
  | zero =>
    intro i k hi hk
    obtain ⟨k, rfl, -⟩ := kS (m := 0) hk
    rw [fX1_letterOf]
    simp only [bX1_letterOf_2, if_true]
    rw [hl, if_pos ((leN (by omega) (by omega)).mpr (by omega))]
    rfl
  | succ m ih =>
    intro i k hi hk
    obtain ⟨k, rfl, hk'⟩ := kS (m := m + 1) hk
    rw [fX1_letterOf]
    simp only [bX1_letterOf_2, if_true]
    rw [hl, if_neg (fun c => absurd ((leN (by omega) (by omega)).mp c) (by omega)), if_pos (vpN (by omega) (by omega)), clN (by omega), hm i (by omega), aLet, addN1, ih (i + 1) k (by omega) (by omega)]
    split
    · rfl
    · rfl
/-- the set of a letter, no other letter's -/
def aSt2 (M : Nat → Int32) (n : Nat) (A : Nat × Nat × Int32) : Nat × Nat × Int32 := if ¬ A.1 = 0 then (A.1, 0, 0) else if ¬ aLet M A.2.2 n 0 = -1 then (3 + 16 * A.2.1, 0, 0) else A
def xSp (S0 : gS) (T : aTp) (f n : Nat) (A : Nat × Nat × Int32) (r : gS × Bool) : Prop := (A.1 = 0 → ∃ Z, fr [1] S0 Z ∧ tkX Z T (tokAt T A.2.1) ∧ sI Z 1 7 = 0 ∧ r = (uI (uR Z (f + 9) n A.2.2) f 8 (N (n + 1)), true)) ∧ (¬ A.1 = 0 → fr [1] S0 r.1 ∧ r.2 = false ∧ sI r.1 1 7 = N A.1)
theorem xMSet {S0 : gS} {T : aTp} {f : Nat} {B : aB} (hT : okT T) (hf : f = 6 ∨ f = 20) (k : okB B) (hB : dbX S0 f B) (hn6 : fL (bdF B) < 6) : ∀ m s q kk S, q ≤ T.1 → m + cnB s (fN (bdF B)) = 9 → 2 * m + 2 ≤ kk → fr [1] S0 S → tkX S T (tokAt T q) → sI S 1 7 = 0 → wp (fX2_readLetterMouths kk 4 S f s (N (cnB s (fN (bdF B))))) (xSp S0 T f (fL (bdF B)) (aSt2 (fM (bdF B)) (fL (bdF B)) (aSt T (bdM B) (fN (bdF B)) m s q))) := by
  have h1000 := hT.1
  have hL := k.1.1
  have hL6 := k.1.2.1
  intro m
  induction m with
  | zero => intro s q kk S hq hm; have := cnB_le (s := s) (fN (bdF B)); omega
  | succ m ih =>
    intro s q kk S hq hm hk hS htk h7
    have hc := cnB_le (s := s) (fN (bdF B))
    obtain ⟨kk, rfl, hk⟩ := kS (k := kk) (m := 2 * m + 3) (by omega)
    obtain ⟨kk, rfl, hk⟩ := kS (k := kk) (m := 2 * m + 2) (by omega)
    have sB := dbX_1 hf hB hS
    have f82 : wp (fX2_readLetterMouths (kk + 1) 82 S f s 0) (xSp S0 T f (fL (bdF B)) (aSt2 (fM (bdF B)) (fL (bdF B)) (0, q, s))) := by
      rw [fX2_readLetterMouths]
      simp only [if_true]
      rw [if_neg (by decide), if_neg (by decide)]
      simp only [bX2_readLetterMouths_82]
      unfold FX1_letterOf
      have h8 : sI S f 8 = N (fL (bdF B)) := sB.2.2.1
      have eL : fX1_letterOf FU 2 S f s (0 : Int32) = some (S, aLet (fM (bdF B)) s (fL (bdF B)) 0) := xLet2 hL6 h8 sB.2.2.2.1 (fL (bdF B)) 0 FU (by omega) (by unfold FU; omega)
      rw [eL, wp_b2, wp_some]
      dsimp only
      unfold aSt2
      dsimp only
      rw [if_neg (show ¬ ¬ 0 = 0 by omega)]
      by_cases c : aLet (fM (bdF B)) s (fL (bdF B)) 0 = -1
      · rw [if_pos c, if_neg (show ¬ ¬ aLet (fM (bdF B)) s (fL (bdF B)) 0 = -1 from fun h => h c), h8, if_pos (show N (fL (bdF B)) < (6 : Int32) from (ltN (b := 6) (by omega) (by omega)).mpr hn6), if_pos (vpN hn6 (by omega)), clN (by omega), wp_lt, show sI (uR S (f + 9) (fL (bdF B)) s) f 8 = N (fL (bdF B)) from h8, show N (fL (bdF B)) + (1 : Int32) = N (fL (bdF B) + 1) from addN1, wp_lt, wp_some]
        exact ⟨fun _ => ⟨S, hS, htk, h7, rfl⟩, fun h => absurd rfl h⟩
      · rw [if_neg c, if_pos c, show (3 : Int32) = N 3 from rfl, xFail h7 (xTk3 hq htk), wp_b2, wp_some, wp_some]
        exact ⟨fun h => by dsimp only at h; omega, fun _ => ⟨fr_uI hS (by simp), rfl, I_self⟩⟩
    have f26 : ¬ (¬ s = 0 ∧ isS T q 59 = true) → wp (fX2_readLetterMouths (kk + 1) 26 S f s (N (cnB s (fN (bdF B))))) (xSp S0 T f (fL (bdF B)) (aSt2 (fM (bdF B)) (fL (bdF B)) (aSt T (bdM B) (fN (bdF B)) (m + 1) s q))) := by
      intro hns
      obtain ⟨a1, a2⟩ := aMe_ok (mn := bdM B) (L := fN (bdF B)) hT hq
      rw [aSt, if_neg hns, fX2_readLetterMouths]
      simp only [if_true]
      rw [if_neg (by decide)]
      simp only [bX2_readLetterMouths_26]
      rw [wp_b2]
      refine wp_mono (xMouH hT hL k.2.1.1 sB.1 sB.2.2.2.2.2.2.2.2.1 hq htk h7) ?_
      rintro ⟨V, x⟩ ⟨v1, v2, v3⟩
      dsimp only at v1 v2 v3 ⊢
      by_cases cA : (aMe T (bdM B) (fN (bdF B)) q).1 = 0
      · obtain ⟨e1, e2⟩ := v2 cA
        obtain ⟨a3, a4⟩ := a2 cA
        subst e2
        rw [if_neg (show ¬ ¬ (aMe T (bdM B) (fN (bdF B)) q).1 = 0 from fun h => h cA), e1, if_neg (N_ne_m1 (by omega))]
        cases ch : aHas s (aMe T (bdM B) (fN (bdF B)) q).2 with
        | true =>
          rw [if_neg (show ¬ ((s >>> (N (aMe T (bdM B) (fN (bdF B)) q).2 &&& 31)) &&& (1 : Int32) = 0) from fun h => by rw [has_0.mp h] at ch; exact Bool.false_ne_true ch), if_pos rfl, show (3 : Int32) = N 3 from rfl, xFail h7 (xTk3 hq htk), wp_b2, wp_some, wp_some]
          unfold aSt2
          rw [if_pos (show ¬ 3 + 16 * q = 0 by omega)]
          exact ⟨fun h => by dsimp only at h; omega, fun _ => ⟨fr_uI hS (by simp), rfl, I_self⟩⟩
        | false =>
          rw [if_pos (has_0.mpr ch), if_neg Bool.false_ne_true, wp_b1]
          refine wp_mono (xAdvN hT hq htk) ?_
          rintro U ⟨u1, u2⟩
          have ec : cnB (s ||| aBit (aMe T (bdM B) (fN (bdF B)) q).2) (fN (bdF B)) = cnB s (fN (bdF B)) + 1 := by rw [cnB_or (by omega) ch _ (by omega), if_pos a3]
          have := ih (s ||| aBit (aMe T (bdM B) (fN (bdF B)) q).2) (nx T q) kk U (nx_le hq) (by omega) (by omega) (fr_tr hS u1.1) u2 (u1.2.1.trans h7)
          rw [ec] at this
          rw [addN1]
          exact this
      · obtain ⟨e1, e2⟩ := v3 cA
        rw [if_pos cA, e1, if_pos rfl, wp_some]
        unfold aSt2
        dsimp only
        rw [if_pos cA]
        exact ⟨fun h => absurd h cA, fun _ => ⟨fr_tr hS v1, rfl, e2⟩⟩
    rw [fX2_readLetterMouths]
    simp only [if_true, bX2_readLetterMouths_4]
    rw [if_neg (show ¬ (7 : Int32) < N (cnB s (fN (bdF B))) from fun e => absurd ((ltN (a := 7) (by omega) (by omega)).mp e) (by omega))]
    by_cases s0 : s = 0
    · rw [if_pos s0]
      exact f26 (fun h => h.1 s0)
    · rw [if_neg s0, show FX8_isSign S (59 : Int32) = some (S, isS T q 59) from xSgn (c := 59) hT hq htk (by omega), wp_b2, wp_some]
      dsimp only
      cases h59 : isS T q 59 with
      | true =>
        rw [if_pos rfl, aSt, if_pos ⟨s0, h59⟩]
        exact f82
      | false =>
        rw [if_neg Bool.false_ne_true]
        exact f26 (fun h => by rw [h59] at h; exact Bool.false_ne_true h.2)
theorem dbX_le {S U : gS} {f : Nat} {B : aB} {nm : List Nat} {s : Int32} (hf : f = 6 ∨ f = 20) (h : dbX S f B) (h1 : fr [1, f + 8] S U) (h8 : ∀ i, i ≠ fL (bdF B) → sL U (f + 8) i = sL S (f + 8) i) (hn : sL U (f + 8) (fL (bdF B)) = LN (e32 nm)) : dbX (uI (uR U (f + 9) (fL (bdF B)) s) f 8 (N (fL (bdF B) + 1))) f (leB B nm s) := by
  obtain ⟨a1, a2, a3, a4, a5, a6, a7, a8, a9, a10⟩ := h
  have nn : ∀ b, b ≠ 1 → b ≠ f + 8 → b ∉ [1, f + 8] := by intro b hb; simp only [List.mem_cons, List.not_mem_nil, or_false]; omega
  have eR : ∀ r, r ≠ 1 → r ≠ f + 8 → r ≠ f + 9 → sR (uI (uR U (f + 9) (fL (bdF B)) s) f 8 (N (fL (bdF B) + 1))) r = sR S r := by
    intro r r1 r2 r3
    rw [← frR h1 (nn r r1 r2)]
    funext j
    rw [R_uI, R_uR, if_neg (by omega)]
  have eI : ∀ b j, b ≠ 1 → b ≠ f + 8 → ¬ (b = f ∧ j = 8) → sI (uI (uR U (f + 9) (fL (bdF B)) s) f 8 (N (fL (bdF B) + 1))) b j = sI S b j := by
    intro b j b1 b2 b3
    rw [← frI h1 (nn b b1 b2), I_uI, if_neg b3]; rfl
  refine ⟨(eI f 0 (by omega) (by omega) (by omega)).trans a1, fun i hi => ?_, I_self, fun i hi => ?_, (eI f 11 (by omega) (by omega) (by omega)).trans a5, fun i hi => ?_, (eI (f + 11) 1 (by omega) (by omega) (by omega)).trans a7, ?_, fun i hi => ?_, fun i hi => ?_⟩
  · rw [eR (f + 2) (by omega) (by omega) (by omega), eR (f + 3) (by omega) (by omega) (by omega), eR (f + 4) (by omega) (by omega) (by omega), eR (f + 5) (by omega) (by omega) (by omega), eR (f + 6) (by omega) (by omega) (by omega), eR (f + 7) (by omega) (by omega) (by omega)]
    exact a2 i hi
  · have hi' : i < fL (bdF B) + 1 := hi
    show _ = up (fM (bdF B)) (fL (bdF B)) s i
    unfold up
    rw [R_uI, R_uR]
    by_cases c : i = fL (bdF B)
    · rw [if_pos ⟨rfl, c⟩, if_pos c]
    · rw [if_neg (fun z => c z.2), if_neg c, frR h1 (nn (f + 9) (by omega) (by omega))]; exact a4 i (by omega)
  · rw [eR (f + 10) (by omega) (by omega) (by omega)]; exact a6 i hi
  · rw [eR (f + 12) (by omega) (by omega) (by omega)]; exact a8
  · show sL U (f + 1) i = _
    rw [frL h1 (nn (f + 1) (by omega) (by omega))]; exact a9 i hi
  · have hi' : i < fL (bdF B) + 1 := hi
    show sL U (f + 8) i = LN (e32 (upl (bdL B) (fL (bdF B)) nm i))
    unfold upl
    by_cases c : i = fL (bdF B)
    · rw [if_pos c, c]; exact hn
    · rw [if_neg c, h8 i c]; exact a10 i (by omega)
/-- behind the name of a letter: its mouths -/
noncomputable def lettM (f : Nat) (r : gS × Bool) : Option (gS × Bool) := if r.2 = true then g_b2 (FX2_readLetterMouths r.1 f) (fun S22 b23 => if b23 = true then some (S22, true) else some (S22, false)) else some (r.1, false)
theorem lettF {f : Nat} {S : gS} {Q : gS × Bool → Prop} (h : Q (S, false)) : wp (lettM f (S, false)) Q := by
  unfold lettM
  rw [if_neg (show ¬ (S, false).2 = true from Bool.false_ne_true), wp_some]
  exact h
theorem lettT {f : Nat} {S : gS} {Q : gS × Bool → Prop} (h : wp (FX2_readLetterMouths S f) Q) : wp (lettM f (S, true)) Q := by
  unfold lettM
  rw [if_pos (show (S, true).2 = true from rfl), wp_b2]
  refine wp_mono h ?_
  rintro ⟨Z, b⟩ hr
  dsimp only
  cases b with
  | false => rw [if_neg Bool.false_ne_true, wp_some]; exact hr
  | true => rw [if_pos rfl, wp_some]; exact hr
theorem lettO {S0 : gS} {T : aTp} {f f' : Nat} {l : aLi} {o : Option (gS × Bool)} (hl : ¬ l.1 = 0) (h : wp o (xFp S0 T f' l)) : wp o (fun r => wp (lettM f r) (xFp S0 T f' l)) := by
  refine wp_mono h ?_
  rintro ⟨Z, b⟩ hr
  have e : b = false := (hr.2.2 hl).1
  subst e
  exact lettF hr
theorem xLett {S : gS} {T : aTp} {f q : Nat} {B : aB} (hT : okT T) (hf : f = 6 ∨ f = 20) (k : okB B) (hB : dbX S f B) (hq : q ≤ T.1) (htk : tkX S T (tokAt T q)) (h7 : sI S 1 7 = 0) : wp (g_b2 (FX2_readLetterNamed S f) (fun S20 b21 => if b21 = true then g_b2 (FX2_readLetterMouths S20 f) (fun S22 b23 => if b23 = true then some (S22, true) else some (S22, false)) else some (S20, false))) (xFp S T f (lnL T B q)) := by
  have h1000 := hT.1
  have q1 := nx_le hq
  have q2 := nx_le q1
  have q3 := nx_le q2
  have hL := k.1.1
  have hL6 := k.1.2.1
  obtain ⟨a1, a2⟩ := aNw_ok (mn := bdM B) (ln := bdL B) (L := fN (bdF B)) (M := fL (bdF B)) hT q1
  have f8 : sI S f 8 = N (fL (bdF B)) := hB.2.2.1
  rw [wp_b2]
  show wp (FX2_readLetterNamed S f) (fun r => wp (lettM f r) (xFp S T f (lnL T B q)))
  unfold FX2_readLetterNamed lnL
  rw [f8]
  by_cases c6 : fL (bdF B) = 6
  · rw [if_pos c6, if_neg (show ¬ N (fL (bdF B)) < (6 : Int32) from fun e => absurd ((ltN (b := 6) (by omega) (by omega)).mp e) (by omega))]
    exact lettO (by dsimp only; omega) (xFl1 (c := 5) (by omega) fr_rf hq htk h7)
  rw [if_neg c6, if_pos (show N (fL (bdF B)) < (6 : Int32) from (ltN (b := 6) (by omega) (by omega)).mpr (by omega)), wp_b1]
  refine wp_mono (xAdvN hT hq htk) ?_
  rintro U ⟨u1, u2⟩
  have uB := dbX_1 hf hB u1.1
  have u7 := u1.2.1.trans h7
  rw [wp_b2]
  refine wp_mono (xNew hT hL hL6 k.2.1.1 k.2.1.2 uB.1 uB.2.2.1 uB.2.2.2.2.2.2.2.2.1 uB.2.2.2.2.2.2.2.2.2 q1 u2 u7) ?_
  rintro ⟨V, b⟩ ⟨v1, v2, v3⟩
  dsimp only at v1 v2 v3 ⊢
  by_cases cN : aNw T (bdM B) (bdL B) (fN (bdF B)) (fL (bdF B)) (nx T q) = 0
  · obtain ⟨e1, e2⟩ := v2 cN
    subst e2
    have k2 := a2 cN
    rw [if_neg (show ¬ ¬ aNw T (bdM B) (bdL B) (fN (bdF B)) (fL (bdF B)) (nx T q) = 0 from fun h => h cN), e1, if_pos rfl, if_pos (vpN (by omega) (by omega)), clN (by omega), wp_lt, u2.2.2.2.2.2.1 k2, wp_b1]
    have fV : fr [1, f + 8] S (uL V (f + 8) (fL (bdF B)) (LN (e32 (tokAt T (nx T q)).2.2.2.1))) := fr_uL (fr_mo u1.1 (by intro b hb; simp only [List.mem_cons, List.not_mem_nil, or_false] at hb ⊢; omega)) (by simp)
    have vt : tkX (uL V (f + 8) (fL (bdF B)) (LN (e32 (tokAt T (nx T q)).2.2.2.1))) T (tokAt T (nx T q)) := tkX_i u2 (fun _ => rfl) rfl rfl
    have v7 : sI (uL V (f + 8) (fL (bdF B)) (LN (e32 (tokAt T (nx T q)).2.2.2.1))) 1 7 = 0 := u7
    have vn : sL (uL V (f + 8) (fL (bdF B)) (LN (e32 (tokAt T (nx T q)).2.2.2.1))) (f + 8) (fL (bdF B)) = LN (e32 (tokAt T (nx T q)).2.2.2.1) := by rw [L_uL, if_pos ⟨rfl, rfl⟩]
    have vo : ∀ i, i ≠ fL (bdF B) → sL (uL V (f + 8) (fL (bdF B)) (LN (e32 (tokAt T (nx T q)).2.2.2.1))) (f + 8) i = sL S (f + 8) i := fun i hi => by rw [L_uL, if_neg (by omega), frL u1.1 (n1b (by omega))]
    generalize uL V (f + 8) (fL (bdF B)) (LN (e32 (tokAt T (nx T q)).2.2.2.1)) = W at *
    have n18 : ∀ b, b ≠ 1 → b ≠ f + 8 → b ∉ [1, f + 8] := by intro b hb; simp only [List.mem_cons, List.not_mem_nil, or_false]; omega
    refine wp_mono (xAdvN hT q1 vt) ?_
    rintro X ⟨x1, x2⟩
    have fX' : fr [1, f + 8] S X := fr_tr fV (fr_mo x1.1 (by intro b hb; simp only [List.mem_cons, List.not_mem_nil, or_false] at hb ⊢; omega))
    have xn : sL X (f + 8) = sL W (f + 8) := frL x1.1 (n1b (by omega))
    have x7 := x1.2.1.trans v7
    have toF : ∀ {Z}, fr [1, f + 8] S Z → fr (lF f) S Z := fun h => fr_mo h (by intro b hb; simp only [List.mem_cons, List.not_mem_nil, or_false] at hb ⊢; omega)
    unfold FX8_takeWord
    rw [xIsWord hT q2 x2 txt31, wp_b2, wp_b2, wp_some]
    dsimp only
    cases h31 : tkW (tokAt T (nx T (nx T q))) 31 with
    | false =>
      rw [if_neg Bool.false_ne_true, if_pos rfl, show FX8_fail X (1 : Int32) = FX8_fail X (N 1) from rfl, xFail x7 (xTk3 q2 x2), wp_b2, wp_some, wp_some]
      rw [wp_some]
      exact lettF (xFp_f (fr_uI (toF fX') (by simp)) (by omega) I_self)
    | true =>
      rw [if_pos rfl, if_neg (show ¬ true = false by decide), wp_b1]
      refine wp_mono (xAdvN hT q2 x2) ?_
      rintro Y ⟨y1, y2⟩
      rw [wp_some, wp_some]
      refine lettT ?_
      have fY : fr [1, f + 8] S Y := fr_tr fX' (fr_mo y1.1 (by intro b hb; simp only [List.mem_cons, List.not_mem_nil, or_false] at hb ⊢; omega))
      have yn : sL Y (f + 8) = sL W (f + 8) := (frL y1.1 (n1b (by omega))).trans xn
      have y7 := y1.2.1.trans x7
      -- what the set is asked of: the front but for the last name
      have yB : dbX Y f B := by
        obtain ⟨z1, z2, z3, z4, z5, z6, z7, z8, z9, z10⟩ := hB
        refine ⟨(frI fY (n18 f (by omega) (by omega)) 0).trans z1, fun i hi => ?_, (frI fY (n18 f (by omega) (by omega)) 8).trans z3, fun i hi => ?_, (frI fY (n18 f (by omega) (by omega)) 11).trans z5, fun i hi => ?_, (frI fY (n18 (f + 11) (by omega) (by omega)) 1).trans z7, ?_, fun i hi => ?_, fun i hi => ?_⟩
        · rw [frR fY (n18 (f + 2) (by omega) (by omega)), frR fY (n18 (f + 3) (by omega) (by omega)), frR fY (n18 (f + 4) (by omega) (by omega)), frR fY (n18 (f + 5) (by omega) (by omega)), frR fY (n18 (f + 6) (by omega) (by omega)), frR fY (n18 (f + 7) (by omega) (by omega))]; exact z2 i hi
        · rw [frR fY (n18 (f + 9) (by omega) (by omega))]; exact z4 i hi
        · rw [frR fY (n18 (f + 10) (by omega) (by omega))]; exact z6 i hi
        · rw [frR fY (n18 (f + 12) (by omega) (by omega))]; exact z8
        · rw [frL fY (n18 (f + 1) (by omega) (by omega))]; exact z9 i hi
        · rw [yn, vo i (by omega)]; exact z10 i hi
      unfold FX2_readLetterMouths
      have hset := xMSet hT hf k yB (by omega) 9 0 (nx T (nx T (nx T q))) FU Y q3 (by rw [cnB_0 _ (by omega)]) (by unfold FU; omega) fr_rf y2 y7
      rw [cnB_0 _ (by omega)] at hset
      refine wp_mono hset ?_
      intro R
      rintro ⟨z2, z3⟩
      generalize aSt T (bdM B) (fN (bdF B)) 9 0 (nx T (nx T (nx T q))) = A at *
      have fZ : ∀ {Z}, fr [1] Y Z → fr [1, f + 8] S Z := fun z1 => fr_tr fY (fr_mo z1 (by intro b hb; simp only [List.mem_cons, List.not_mem_nil, or_false] at hb ⊢; omega))
      unfold aSt2 at z2 z3
      by_cases cA : A.1 = 0
      · rw [if_neg (fun h => h cA)] at z2 z3 ⊢
        by_cases cL : aLet (fM (bdF B)) A.2.2 (fL (bdF B)) 0 = -1
        · rw [if_neg (fun h => h cL)] at z2 z3 ⊢
          obtain ⟨Z, z1, e2, e3, rfl⟩ := z2 cA
          have zn : sL Z (f + 8) = sL W (f + 8) := (frL z1 (n1b (by omega))).trans yn
          refine ⟨fr_uI (fr_uR (toF (fZ z1)) (by simp)) (by simp), fun _ => ⟨rfl, tkX_i e2 (fun j => by rw [I_uI, if_neg (by omega)]; rfl) (by funext i; rw [R_uI, R_uR, if_neg (by omega)]) rfl, ?_, ?_⟩, fun h => absurd rfl h⟩
          · dsimp only; rw [I_uI, if_neg (by omega)]; exact e3
          · exact dbX_le hf hB (fZ z1) (fun i hi => by rw [zn]; exact vo i hi) (by rw [zn]; exact vn)
        · rw [if_pos cL] at z2 z3 ⊢
          obtain ⟨z1, e1, e2⟩ := z3 (by dsimp only; omega)
          obtain ⟨Z, b⟩ := R
          dsimp only at z1 e1 e2
          subst e1
          exact xFp_f (toF (fZ z1)) (by omega) e2
      · rw [if_pos cA] at z2 z3 ⊢
        obtain ⟨z1, e1, e2⟩ := z3 cA
        obtain ⟨Z, b⟩ := R
        dsimp only at z1 e1 e2
        subst e1
        exact xFp_f (toF (fZ z1)) cA e2
  · obtain ⟨e1, e2⟩ := v3 cN
    rw [if_pos cN, e1, if_neg Bool.false_ne_true, wp_some]
    exact lettF (xFp_f (fr_tr (k1F u1.1) (k1F v1)) cN e2)
