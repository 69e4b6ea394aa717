/-! x reads a mouth -/
/-- but for the n-th mouth all stands -/
def xMn (f n : Nat) (S0 S : gS) : Prop := fr [1, f + 1, f + 2, f + 3, f + 4, f + 5, f + 6] S0 S ∧ (∀ j i, 2 ≤ j → j ≤ 6 → i ≠ n → sR S (f + j) i = sR S0 (f + j) i) ∧ ∀ i, i ≠ n → sL S (f + 1) i = sL S0 (f + 1) i
theorem xMn_rf {f n : Nat} {S : gS} : xMn f n S S := ⟨fr_rf, fun _ _ _ _ _ => rfl, fun _ _ => rfl⟩
theorem xMn_k {f n : Nat} {S0 S U : gS} (hf : f = 6 ∨ f = 20) (h : xMn f n S0 S) (hU : fr [1] S U) : xMn f n S0 U :=
  ⟨fr_tr h.1 (fr_mo hU (by intro b hb; simp only [List.mem_cons, List.not_mem_nil, or_false] at hb ⊢; omega)), fun j i h1 h2 h3 => by rw [frR hU (n1b (by omega))]; exact h.2.1 j i h1 h2 h3, fun i hi => by rw [frL hU (n1b (by omega))]; exact h.2.2 i hi⟩
theorem xMn_R {f n j : Nat} {S0 S : gS} {x : Int32} (h : xMn f n S0 S) (h1 : 2 ≤ j) (h2 : j ≤ 6) : xMn f n S0 (uR S (f + j) n x) :=
  ⟨fr_uR h.1 (by simp only [List.mem_cons, List.not_mem_nil, or_false]; omega), fun j' i a b c => by rw [R_uR, if_neg (by omega)]; exact h.2.1 j' i a b c, h.2.2⟩
theorem xMn_L {f n : Nat} {S0 S : gS} {x : Int64} (h : xMn f n S0 S) : xMn f n S0 (uL S (f + 1) n x) :=
  ⟨fr_uL h.1 (by simp), h.2.1, fun i hi => by rw [L_uL, if_neg (by omega)]; exact h.2.2 i hi⟩
theorem xMn_F {f n : Nat} {S0 S : gS} (h : xMn f n S0 S) : fr (lF f) S0 S := fr_mo h.1 (by intro b hb; simp only [List.mem_cons, List.not_mem_nil, or_false] at hb ⊢; omega)
theorem tkX_R {S : gS} {T : aTp} {k : aTk} {r j : Nat} {x : Int32} (h : tkX S T k) (hr : r ≠ 2) : tkX (uR S r j x) T k :=
  tkX_i h (fun _ => rfl) (by funext i; rw [R_uR, if_neg (by omega)]) rfl
theorem x166f {S : gS} {f n : Nat} {k : Nat} (hk : 1 ≤ k) (hn : n < 7) (h5 : sR S (f + 5) n = -1) : fX2_readMouth k 166 S f (N n) = some (S, false) := by
  obtain ⟨k, rfl, -⟩ := kS (m := 0) hk
  rw [fX2_readMouth]
  simp only [if_true]
  rw [if_neg (by decide)]
  simp only [bX2_readMouth_166]
  rw [if_pos (vpN hn (by omega)), clN (by omega), if_pos h5]
theorem x137f {S : gS} {f n : Nat} {k : Nat} (hk : 2 ≤ k) (hn : n < 7) (h4 : sR S (f + 4) n = -1) : fX2_readMouth k 137 S f (N n) = some (uR S (f + 5) n (-1), false) := by
  obtain ⟨k, rfl, hk⟩ := kS (k := k) (m := 1) hk
  rw [fX2_readMouth]
  simp only [if_true, bX2_readMouth_137]
  rw [if_pos (vpN hn (by omega)), clN (by omega), if_pos h4]
  simp only [g_lt]
  exact x166f (by omega) hn R_self
theorem putJ {f : Nat} {x : Int32} : ∀ k S y R, fX1_putInOrder k 2 S f x y = some R → sJ R = sJ S := by
  intro k
  induction k with
  | zero => intro S y R h; cases h
  | succ k ih =>
    intro S y R h
    rw [fX1_putInOrder] at h
    simp only [if_true, bX1_putInOrder_2] at h
    by_cases c : y ≤ 0
    · rw [if_pos c] at h
      obtain ⟨-, h⟩ := g_ns h
      simp only [g_lt] at h
      cases h; rfl
    · rw [if_neg c] at h
      obtain ⟨-, h⟩ := g_ns h
      obtain ⟨-, h⟩ := g_ns h
      obtain ⟨-, h⟩ := g_ns h
      by_cases c2 : (sR S ((f + 3)) (Int32.toNatClampNeg x)) ≤ (sR S ((f + 3)) (Int32.toNatClampNeg ((sR S ((f + 7)) (Int32.toNatClampNeg ((y - (1 : Int32))))))))
      · rw [if_pos c2] at h
        obtain ⟨-, h⟩ := g_ns h
        simp only [g_lt] at h
        cases h; rfl
      · rw [if_neg c2] at h
        obtain ⟨-, h⟩ := g_ns h
        simp only [g_lt] at h
        have z := ih _ _ _ h
        rw [z]; rfl
theorem xMth {S : gS} {T : aTp} {f q : Nat} {B : aB} (hT : okT T) (hf : f = 6 ∨ f = 20) (k : okB B) (hB : dbX S f B) (hq : q ≤ T.1) (htk : tkX S T (tokAt T q)) (h7 : sI S 1 7 = 0) : wp (FX2_readMouth S f) (xFp S T f (lnM T B q)) := by
  have h1000 := hT.1
  have q1 := nx_le hq
  have q2 := nx_le q1
  have q3 := nx_le q2
  have hL := k.1.1
  have hL6 := k.1.2.1
  have okR' := k.2.2.2.2
  obtain ⟨a1, a2⟩ := aNw_ok (mn := bdM B) (ln := bdL B) (L := fN (bdF B)) (M := fL (bdF B)) hT q1
  have f0 : sI S f 0 = N (fN (bdF B)) := hB.1
  unfold FX2_readMouth lnM
  rw [f0]
  by_cases c7 : fN (bdF B) = 7
  · rw [if_pos c7, if_neg (show ¬ N (fN (bdF B)) < (7 : Int32) from fun e => absurd ((ltN (b := 7) (by omega) (by omega)).mp e) (by omega))]
    exact xFl1 (c := 5) (by omega) fr_rf hq htk h7
  have hn : fN (bdF B) < 7 := by omega
  rw [if_neg c7, if_pos (show N (fN (bdF B)) < (7 : Int32) from (ltN (b := 7) (by omega) (by omega)).mpr (by omega)), wp_b1]
  refine wp_mono (xAdvN hT hq htk) ?_
  rintro U ⟨u1, u2⟩
  have uB := dbX_1 hf hB u1.1
  have u7 := u1.2.1.trans h7
  rw [wp_b2]
  refine wp_mono (xNew hT hL hL6 k.2.1.1 k.2.1.2 uB.1 uB.2.2.1 uB.2.2.2.2.2.2.2.2.1 uB.2.2.2.2.2.2.2.2.2 q1 u2 u7) ?_
  rintro ⟨V, b⟩ ⟨v1, v2, v3⟩
  dsimp only at v1 v2 v3 ⊢
  by_cases cN : aNw T (bdM B) (bdL B) (fN (bdF B)) (fL (bdF B)) (nx T q) = 0
  case neg =>
    obtain ⟨e1, e2⟩ := v3 cN
    rw [if_pos cN, e1, if_neg Bool.false_ne_true, wp_some]
    exact xFp_f (fr_tr (k1F u1.1) (k1F v1)) cN e2
  obtain ⟨e1, e2⟩ := v2 cN
  subst e2
  have k2 := a2 cN
  have hnm := tk_ok q1 k2
  have m1 : xMn f (fN (bdF B)) S V := xMn_k hf xMn_rf u1.1
  clear v1 v2 v3 uB
  rw [if_neg (show ¬ ¬ aNw T (bdM B) (bdL B) (fN (bdF B)) (fL (bdF B)) (nx T q) = 0 from fun h => h cN), e1, if_pos rfl, if_pos (vpN hn (by omega)), clN (by omega), wp_lt, u2.2.2.2.2.2.1 k2, wp_b1]
  have m2 : xMn f (fN (bdF B)) S (uL V (f + 1) (fN (bdF B)) (LN (e32 (tokAt T (nx T q)).2.2.2.1))) := xMn_L m1
  have vt : tkX (uL V (f + 1) (fN (bdF B)) (LN (e32 (tokAt T (nx T q)).2.2.2.1))) T (tokAt T (nx T q)) := tkX_i u2 (fun _ => rfl) rfl rfl
  have v7 : sI (uL V (f + 1) (fN (bdF B)) (LN (e32 (tokAt T (nx T q)).2.2.2.1))) 1 7 = 0 := u7
  have vn : sL (uL V (f + 1) (fN (bdF B)) (LN (e32 (tokAt T (nx T q)).2.2.2.1))) (f + 1) (fN (bdF B)) = LN (e32 (tokAt T (nx T q)).2.2.2.1) := by rw [L_uL, if_pos ⟨rfl, rfl⟩]
  generalize uL V (f + 1) (fN (bdF B)) (LN (e32 (tokAt T (nx T q)).2.2.2.1)) = W at *
  refine wp_mono (xAdvN hT q1 vt) ?_
  rintro X ⟨x1, x2⟩
  have m3 := xMn_k hf m2 x1.1
  have x7 := x1.2.1.trans v7
  have xn : sL X (f + 1) (fN (bdF B)) = LN (e32 (tokAt T (nx T q)).2.2.2.1) := by rw [frL x1.1 (n1b (by omega))]; exact vn
  have hkd := tkKd_le (k := tokAt T (nx T (nx T q)))
  rw [xKind hT q2 x2, wp_b2, wp_some]
  dsimp only
  rw [wp_lt, R_self]
  by_cases ck : tkKd (tokAt T (nx T (nx T q))) = 4
  · rw [if_pos ck, if_pos ((nAn1 (by omega)).mpr (by omega))]
    exact xFl1 (c := 1) (by omega) (xMn_F (xMn_R m3 (j := 2) (by omega) (by omega))) q2 (tkX_R x2 (by omega)) x7
  have ekd : nAn (tkKd (tokAt T (nx T (nx T q)))) 4 = N (tkKd (tokAt T (nx T (nx T q)))) := by unfold nAn; rw [if_pos (by omega)]
  rw [if_neg ck, if_neg (fun h => (nAn1 (by omega)).mp h (by omega)), ekd, wp_b1]
  have m4 : xMn f (fN (bdF B)) S (uR X (f + 2) (fN (bdF B)) (N (tkKd (tokAt T (nx T (nx T q)))))) := xMn_R m3 (by omega) (by omega)
  have y2 : tkX (uR X (f + 2) (fN (bdF B)) (N (tkKd (tokAt T (nx T (nx T q)))))) T (tokAt T (nx T (nx T q))) := tkX_R x2 (by omega)
  have y7 : sI (uR X (f + 2) (fN (bdF B)) (N (tkKd (tokAt T (nx T (nx T q)))))) 1 7 = 0 := x7
  have yn : sL (uR X (f + 2) (fN (bdF B)) (N (tkKd (tokAt T (nx T (nx T q)))))) (f + 1) (fN (bdF B)) = LN (e32 (tokAt T (nx T q)).2.2.2.1) := xn
  have yk : sR (uR X (f + 2) (fN (bdF B)) (N (tkKd (tokAt T (nx T (nx T q)))))) (f + 2) (fN (bdF B)) = N (tkKd (tokAt T (nx T (nx T q)))) := R_self
  generalize uR X (f + 2) (fN (bdF B)) (N (tkKd (tokAt T (nx T (nx T q))))) = Y at *
  generalize tkKd (tokAt T (nx T (nx T q))) = kd at *
  refine wp_mono (xAdvN hT q2 y2) ?_
  rintro Z ⟨z1, z2⟩
  have m5 := xMn_k hf m4 z1.1
  have z7 := z1.2.1.trans y7
  have zn : sL Z (f + 1) (fN (bdF B)) = LN (e32 (tokAt T (nx T q)).2.2.2.1) := by rw [frL z1.1 (n1b (by omega))]; exact yn
  have zk : sR Z (f + 2) (fN (bdF B)) = N kd := by rw [frR z1.1 (n1b (by omega))]; exact yk
  -- high
  rw [wp_b2]
  refine wp_mono (xMeas (lo := 1) (hi := 20) hT q3 txt26 z2 z7 (by omega) (by omega)) ?_
  rintro ⟨A, hv⟩ ⟨A1, A2, A3⟩
  dsimp only at A1 A2 A3 ⊢
  obtain ⟨b1, b2⟩ := aMs_ok (t := 26) (lo := 1) (hi := 20) hT q3
  generalize aMs T 26 1 20 (nx T (nx T (nx T q))) = M1 at *
  have m6 := xMn_k hf m5 A1
  have An : sL A (f + 1) (fN (bdF B)) = LN (e32 (tokAt T (nx T q)).2.2.2.1) := by rw [frL A1 (n1b (by omega))]; exact zn
  have Ak : sR A (f + 2) (fN (bdF B)) = N kd := by rw [frR A1 (n1b (by omega))]; exact zk
  rw [wp_lt, R_self]
  by_cases c1 : M1.1 = 0
  case neg =>
    obtain ⟨e3, e4⟩ := A3 c1
    rw [if_pos c1, e3, if_pos rfl, wp_lt, x137f (by unfold FU; omega) hn R_self, wp_some]
    exact xFp_f (xMn_F (xMn_R (xMn_R (xMn_R m6 (j := 3) (by omega) (by omega)) (j := 4) (by omega) (by omega)) (j := 5) (by omega) (by omega))) c1 e4
  obtain ⟨b4, b5, b6⟩ := b2 c1
  obtain ⟨e3, e4, e5⟩ := A2 c1
  rw [if_neg (show ¬ ¬ M1.1 = 0 from fun h => h c1), e3, if_neg (N_ne_m1 (by omega))]
  have m7 : xMn f (fN (bdF B)) S (uR A (f + 3) (fN (bdF B)) (N M1.2.2)) := xMn_R m6 (by omega) (by omega)
  have C2 : tkX (uR A (f + 3) (fN (bdF B)) (N M1.2.2)) T (tokAt T M1.2.1) := tkX_R e4 (by omega)
  have C7 : sI (uR A (f + 3) (fN (bdF B)) (N M1.2.2)) 1 7 = 0 := e5
  have Cn : sL (uR A (f + 3) (fN (bdF B)) (N M1.2.2)) (f + 1) (fN (bdF B)) = LN (e32 (tokAt T (nx T q)).2.2.2.1) := An
  have Ck : sR (uR A (f + 3) (fN (bdF B)) (N M1.2.2)) (f + 2) (fN (bdF B)) = N kd := by rw [R_uR, if_neg (by omega)]; exact Ak
  have Ch : sR (uR A (f + 3) (fN (bdF B)) (N M1.2.2)) (f + 3) (fN (bdF B)) = N M1.2.2 := R_self
  generalize uR A (f + 3) (fN (bdF B)) (N M1.2.2) = C at *
  -- takes
  rw [wp_b2]
  refine wp_mono (xMeas (lo := 0) (hi := 9) hT b4 txt27 C2 C7 (by omega) (by omega)) ?_
  rintro ⟨D, tv'⟩ ⟨D1, D2, D3⟩
  dsimp only at D1 D2 D3 ⊢
  obtain ⟨g1, g2⟩ := aMs_ok (t := 27) (lo := 0) (hi := 9) hT b4
  generalize aMs T 27 0 9 M1.2.1 = M2 at *
  have m8 := xMn_k hf m7 D1
  have Dn : sL D (f + 1) (fN (bdF B)) = LN (e32 (tokAt T (nx T q)).2.2.2.1) := by rw [frL D1 (n1b (by omega))]; exact Cn
  have Dk : sR D (f + 2) (fN (bdF B)) = N kd := by rw [frR D1 (n1b (by omega))]; exact Ck
  have Dh : sR D (f + 3) (fN (bdF B)) = N M1.2.2 := by rw [frR D1 (n1b (by omega))]; exact Ch
  rw [wp_lt]
  by_cases c2 : M2.1 = 0
  case neg =>
    obtain ⟨e6, e7⟩ := D3 c2
    rw [if_pos c2, e6, x137f (by unfold FU; omega) hn R_self, wp_some]
    exact xFp_f (xMn_F (xMn_R (xMn_R m8 (j := 4) (by omega) (by omega)) (j := 5) (by omega) (by omega))) c2 e7
  obtain ⟨g4, g5, g6⟩ := g2 c2
  obtain ⟨e6, e7, e8⟩ := D2 c2
  rw [if_neg (show ¬ ¬ M2.1 = 0 from fun h => h c2), e6]
  have m9 : xMn f (fN (bdF B)) S (uR D (f + 4) (fN (bdF B)) (N M2.2.2)) := xMn_R m8 (by omega) (by omega)
  have E2 : tkX (uR D (f + 4) (fN (bdF B)) (N M2.2.2)) T (tokAt T M2.2.1) := tkX_R e7 (by omega)
  have E7 : sI (uR D (f + 4) (fN (bdF B)) (N M2.2.2)) 1 7 = 0 := e8
  have En : sL (uR D (f + 4) (fN (bdF B)) (N M2.2.2)) (f + 1) (fN (bdF B)) = LN (e32 (tokAt T (nx T q)).2.2.2.1) := Dn
  have Ek : sR (uR D (f + 4) (fN (bdF B)) (N M2.2.2)) (f + 2) (fN (bdF B)) = N kd := by rw [R_uR, if_neg (by omega)]; exact Dk
  have Eh : sR (uR D (f + 4) (fN (bdF B)) (N M2.2.2)) (f + 3) (fN (bdF B)) = N M1.2.2 := by rw [R_uR, if_neg (by omega)]; exact Dh
  have Et : sR (uR D (f + 4) (fN (bdF B)) (N M2.2.2)) (f + 4) (fN (bdF B)) = N M2.2.2 := R_self
  generalize uR D (f + 4) (fN (bdF B)) (N M2.2.2) = E at *
  -- holds
  obtain ⟨kk, ek, hkk⟩ := FU_s
  obtain ⟨kk2, rfl, hkk2⟩ := kS (k := kk) (m := 1) (by omega)
  rw [ek, fX2_readMouth]
  simp only [if_true, bX2_readMouth_137]
  rw [if_pos (vpN hn (by omega)), clN (by omega), Et, if_neg (N_ne_m1 (by omega)), wp_b2]
  refine wp_mono (xMeas (lo := 0) (hi := 40) hT g4 txt28 E2 E7 (by omega) (by omega)) ?_
  rintro ⟨G, ov⟩ ⟨G1, G2, G3⟩
  dsimp only at G1 G2 G3 ⊢
  obtain ⟨h1, h2⟩ := aMs_ok (t := 28) (lo := 0) (hi := 40) hT g4
  generalize aMs T 28 0 40 M2.2.1 = M3 at *
  have m10 := xMn_k hf m9 G1
  have Gn : sL G (f + 1) (fN (bdF B)) = LN (e32 (tokAt T (nx T q)).2.2.2.1) := by rw [frL G1 (n1b (by omega))]; exact En
  have Gk : sR G (f + 2) (fN (bdF B)) = N kd := by rw [frR G1 (n1b (by omega))]; exact Ek
  have Gh : sR G (f + 3) (fN (bdF B)) = N M1.2.2 := by rw [frR G1 (n1b (by omega))]; exact Eh
  have Gt : sR G (f + 4) (fN (bdF B)) = N M2.2.2 := by rw [frR G1 (n1b (by omega))]; exact Et
  rw [wp_lt]
  by_cases c3 : M3.1 = 0
  case neg =>
    obtain ⟨e9, e10⟩ := G3 c3
    rw [if_pos c3, e9, x166f (by omega) hn R_self, wp_some]
    exact xFp_f (xMn_F (xMn_R m10 (j := 5) (by omega) (by omega))) c3 e10
  obtain ⟨h4, h5, h6⟩ := h2 c3
  obtain ⟨e9, e10, e11⟩ := G2 c3
  rw [if_neg (show ¬ ¬ M3.1 = 0 from fun h => h c3), e9, fX2_readMouth]
  simp only [if_true]
  rw [if_neg (by decide)]
  simp only [bX2_readMouth_166]
  rw [if_pos (vpN hn (by omega)), clN (by omega), R_self, if_neg (N_ne_m1 (by omega)), wp_lt, wp_b1]
  have m12 : xMn f (fN (bdF B)) S (uR (uR G (f + 5) (fN (bdF B)) (N M3.2.2)) (f + 6) (fN (bdF B)) (-1)) := xMn_R (xMn_R m10 (by omega) (by omega)) (by omega) (by omega)
  have J2 : tkX (uR (uR G (f + 5) (fN (bdF B)) (N M3.2.2)) (f + 6) (fN (bdF B)) (-1)) T (tokAt T M3.2.1) := tkX_R (tkX_R e10 (by omega)) (by omega)
  have J7 : sI (uR (uR G (f + 5) (fN (bdF B)) (N M3.2.2)) (f + 6) (fN (bdF B)) (-1)) 1 7 = 0 := e11
  have Jn : sL (uR (uR G (f + 5) (fN (bdF B)) (N M3.2.2)) (f + 6) (fN (bdF B)) (-1)) (f + 1) (fN (bdF B)) = LN (e32 (tokAt T (nx T q)).2.2.2.1) := Gn
  have Jk : sR (uR (uR G (f + 5) (fN (bdF B)) (N M3.2.2)) (f + 6) (fN (bdF B)) (-1)) (f + 2) (fN (bdF B)) = N kd := by rw [R_uR, if_neg (by omega), R_uR, if_neg (by omega)]; exact Gk
  have Jh : sR (uR (uR G (f + 5) (fN (bdF B)) (N M3.2.2)) (f + 6) (fN (bdF B)) (-1)) (f + 3) (fN (bdF B)) = N M1.2.2 := by rw [R_uR, if_neg (by omega), R_uR, if_neg (by omega)]; exact Gh
  have Jt : sR (uR (uR G (f + 5) (fN (bdF B)) (N M3.2.2)) (f + 6) (fN (bdF B)) (-1)) (f + 4) (fN (bdF B)) = N M2.2.2 := by rw [R_uR, if_neg (by omega), R_uR, if_neg (by omega)]; exact Gt
  have Jo : sR (uR (uR G (f + 5) (fN (bdF B)) (N M3.2.2)) (f + 6) (fN (bdF B)) (-1)) (f + 5) (fN (bdF B)) = N M3.2.2 := by rw [R_uR, if_neg (by omega), R_self]
  have Jg : sR (uR (uR G (f + 5) (fN (bdF B)) (N M3.2.2)) (f + 6) (fN (bdF B)) (-1)) (f + 6) (fN (bdF B)) = -1 := R_self
  generalize uR (uR G (f + 5) (fN (bdF B)) (N M3.2.2)) (f + 6) (fN (bdF B)) (-1) = J at *
  obtain ⟨B1, B2, B3, B4, B5, B6, B7, B8, B9, B10⟩ := hB
  have nJ : ∀ b, b ≠ 1 → ¬ (f + 1 ≤ b ∧ b ≤ f + 6) → b ∉ [1, f + 1, f + 2, f + 3, f + 4, f + 5, f + 6] := by intro b hb; simp only [List.mem_cons, List.not_mem_nil, or_false]; omega
  have hup : ∀ j, j ≤ fN (bdF B) → sR J (f + 3) j = up (fH (bdF B)) (fN (bdF B)) (N M1.2.2) j := by
    intro j hj
    unfold up
    by_cases c : j = fN (bdF B)
    · rw [if_pos c, c]; exact Jh
    · rw [if_neg c, m12.2.1 3 j (by omega) (by omega) c]; exact (B2 j (by omega)).2.1
  obtain ⟨K, eK, K1, K2⟩ := xPutIn (S := J) (f := f) (n := fN (bdF B)) (h := up (fH (bdF B)) (fN (bdF B)) (N M1.2.2)) (o := fR (bdF B)) hn (fun j hj => by have := okR' j hj; omega) (fun j hj => by rw [frR m12.1 (nJ (f + 7) (by omega) (by omega))]; exact (B2 j hj).2.2.2.2.2) hup
  have KJ : sJ K = sJ J := putJ _ _ _ _ eK
  refine wp_eq eK ?_
  have nK : ∀ b, b ≠ f + 7 → b ∉ [f + 7] := by intro b hb; simp only [List.mem_cons, List.not_mem_nil, or_false]; omega
  have K0 : sI K f 0 = N (fN (bdF B)) := (frI K1 (nK f (by omega)) 0).trans ((frI m12.1 (nJ f (by omega) (by omega)) 0).trans B1)
  rw [K0, show N (fN (bdF B)) + (1 : Int32) = N (fN (bdF B) + 1) from addN1, wp_lt, wp_some]
  have eI : ∀ j, sI (uI K f 0 (N (fN (bdF B) + 1))) 1 j = sI J 1 j := fun j => by rw [I_uI, if_neg (by omega)]; exact frI K1 (nK 1 (by omega)) j
  have eF : ∀ j, j ≠ 0 → sI (uI K f 0 (N (fN (bdF B) + 1))) f j = sI S f j := fun j hj => by rw [I_uI, if_neg (by omega), frI K1 (nK f (by omega)), frI m12.1 (nJ f (by omega) (by omega))]
  have eK2 : ∀ r, r ≠ f + 7 → sR (uI K f 0 (N (fN (bdF B) + 1))) r = sR J r := fun r hr => frR K1 (nK r hr)
  have row : ∀ (j : Nat) (g : Nat → Int32) (v : Int32), 2 ≤ j → j ≤ 6 → (∀ i, i < fN (bdF B) → sR S (f + j) i = g i) → sR J (f + j) (fN (bdF B)) = v → ∀ i, i < fN (bdF B) + 1 → sR J (f + j) i = up g (fN (bdF B)) v i := by
    intro j g v j1 j2 hg hv i hi
    unfold up
    by_cases c : i = fN (bdF B)
    · rw [if_pos c, c]; exact hv
    · rw [if_neg c, m12.2.1 j i j1 j2 c]; exact hg i (by omega)
  refine ⟨fr_uI (fr_tr (xMn_F m12) (fr_mo K1 (by intro b hb; simp only [List.mem_cons, List.not_mem_nil, or_false] at hb ⊢; omega))) (by simp), fun _ => ⟨rfl, ?_, ?_, ?_⟩, fun h => absurd rfl h⟩
  · exact tkX_i J2 eI (eK2 2 (by omega)) KJ
  · rw [eI]; exact J7
  · refine ⟨I_self, fun i hi => ?_, (eF 8 (by omega)).trans B3, fun i hi => ?_, (eF 11 (by omega)).trans B5, fun i hi => ?_, ?_, ?_, fun i hi => ?_, fun i hi => ?_⟩
    · have hi' : i < fN (bdF B) + 1 := hi
      refine ⟨?_, ?_, ?_, ?_, ?_, ?_⟩
      · rw [eK2 (f + 2) (by omega)]; exact row 2 _ _ (by omega) (by omega) (fun i hi => (B2 i hi).1) Jk i hi'
      · rw [eK2 (f + 3) (by omega)]; exact row 3 _ _ (by omega) (by omega) (fun i hi => (B2 i hi).2.1) Jh i hi'
      · rw [eK2 (f + 4) (by omega)]; exact row 4 _ _ (by omega) (by omega) (fun i hi => (B2 i hi).2.2.1) Jt i hi'
      · rw [eK2 (f + 5) (by omega)]; exact row 5 _ _ (by omega) (by omega) (fun i hi => (B2 i hi).2.2.2.1) Jo i hi'
      · rw [eK2 (f + 6) (by omega)]; exact row 6 _ _ (by omega) (by omega) (fun i hi => (B2 i hi).2.2.2.2.1) Jg i hi'
      · exact K2 i (by omega)
    · rw [eK2 (f + 9) (by omega), frR m12.1 (nJ (f + 9) (by omega) (by omega))]; exact B4 i hi
    · rw [eK2 (f + 10) (by omega), frR m12.1 (nJ (f + 10) (by omega) (by omega))]; exact B6 i hi
    · rw [I_uI, if_neg (by omega), frI K1 (nK (f + 11) (by omega)), frI m12.1 (nJ (f + 11) (by omega) (by omega))]; exact B7
    · rw [eK2 (f + 12) (by omega), frR m12.1 (nJ (f + 12) (by omega) (by omega))]; exact B8
    · have hi' : i < fN (bdF B) + 1 := hi
      show sL K (f + 1) i = LN (e32 (upl (bdM B) (fN (bdF B)) (tokAt T (nx T q)).2.2.2.1 i))
      rw [frL K1 (nK (f + 1) (by omega))]
      unfold upl
      by_cases c : i = fN (bdF B)
      · rw [if_pos c, c]; exact Jn
      · rw [if_neg c, m12.2.2 i c]; exact B9 i (by omega)
    · show sL K (f + 8) i = _
      rw [frL K1 (nK (f + 8) (by omega)), frL m12.1 (nJ (f + 8) (by omega) (by omega))]; exact B10 i hi
/-- a line -/
theorem xFln {S : gS} {T : aTp} {f q : Nat} {B : aB} (hT : okT T) (hf : f = 6 ∨ f = 20) (k : okB B) (hB : dbX S f B) (hq : q ≤ T.1) (htk : tkX S T (tokAt T q)) (h7 : sI S 1 7 = 0) : wp (FX2_readLine S f) (xFp S T f (lnF T B q)) := by
  have one : ∀ {o : Option (gS × Bool)} {Q : gS × Bool → Prop}, wp o Q → wp (g_b2 o (fun a b => some (a, b))) Q := by
    intro o Q h
    rw [wp_b2]
    exact wp_mono h (fun r hr => by rw [wp_some]; exact hr)
  unfold FX2_readLine lnF
  rw [xIsWord hT hq htk txt1, wp_b2, wp_some]
  dsimp only
  cases tkW (tokAt T q) 1 with
  | true => rw [if_pos rfl, if_pos rfl]; exact one (xMth hT hf k hB hq htk h7)
  | false =>
    rw [if_neg Bool.false_ne_true, if_neg Bool.false_ne_true, xIsWord hT hq htk txt29, wp_b2, wp_some]
    dsimp only
    cases tkW (tokAt T q) 29 with
    | true => rw [if_pos rfl, if_pos rfl]; exact one (xGut hT hf k hB hq htk h7)
    | false =>
      rw [if_neg Bool.false_ne_true, if_neg Bool.false_ne_true, xIsWord hT hq htk txt30, wp_b2, wp_some]
      dsimp only
      cases tkW (tokAt T q) 30 with
      | true => rw [if_pos rfl, if_pos rfl]; exact xLett hT hf k hB hq htk h7
      | false =>
        rw [if_neg Bool.false_ne_true, if_neg Bool.false_ne_true, xIsWord hT hq htk txt32, wp_b2, wp_some]
        dsimp only
        cases tkW (tokAt T q) 32 with
        | true => rw [if_pos rfl, if_pos rfl]; exact one (xRai hT hf k hB hq htk h7)
        | false =>
          rw [if_neg Bool.false_ne_true, if_neg Bool.false_ne_true, xIsWord hT hq htk txt33, wp_b2, wp_some]
          dsimp only
          cases tkW (tokAt T q) 33 with
          | true => rw [if_pos rfl, if_pos rfl]; exact xSnd' hT hf k hB hq htk h7
          | false =>
            rw [if_neg Bool.false_ne_true, if_neg Bool.false_ne_true]
            exact xFl1 (c := 1) (by omega) fr_rf hq htk h7
def xFq (S0 : gS) (f : Nat) (R : Nat × aB) (r : gS × Int32) : Prop := fr (lF f) S0 r.1 ∧ sI r.1 1 1 = 0 ∧ r.2 = N R.1 ∧ (R.1 = 0 → dbX r.1 f R.2)
theorem xFrE {S0 S : gS} {f c k : Nat} {B : aB} {y : Int32} (hk : 1 ≤ k) (hS : fr (lF f) S0 S) (h7 : sI S 1 7 = N c) (hc : ¬ c = 0) : wp (fX2_readFront k 15 S f 0 y) (xFq S0 f (c, B)) := by
  obtain ⟨k, rfl, -⟩ := kS (m := 0) hk
  have g : wp (g_b2 (FX8_close S) (fun S1 x2 => some (S1, x2))) (xFq S0 f (c, B)) := by
    rw [xClose, wp_b2, wp_some, wp_some]
    exact ⟨fr_uI hS (by simp), I_self, h7, fun h => absurd h hc⟩
  rw [fX2_readFront]
  simp only [if_true, bX2_readFront_15]
  split
  · exact g
  · exact g
theorem xFrL {S0 : gS} {T : aTp} {f : Nat} (hT : okT T) (hf : f = 6 ∨ f = 20) : ∀ m B q i k S, q ≤ T.1 → T.1 < q + m → i ≤ q → m + 2 ≤ k → fr (lF f) S0 S → okB B → dbX S f B → tkX S T (tokAt T q) → sI S 1 7 = 0 → wp (fX2_readFront k 15 S f 1 (N i)) (xFq S0 f (lnAll T m B q)) := by
  have h1000 := hT.1
  intro m
  induction m with
  | zero => intro B q i k S hq hm; omega
  | succ m ih =>
    intro B q i k S hq hm hi hk hS kB hB htk h7
    obtain ⟨k, rfl, hk'⟩ := kS (k := k) (m := m + 2) (by omega)
    have fin : wp (g_b2 (FX8_close S) (fun S1 x2 => some (S1, x2))) (xFq S0 f (0, B)) := by
      rw [xClose, wp_b2, wp_some, wp_some]
      refine ⟨fr_uI hS (by simp), I_self, h7, fun _ => ?_⟩
      exact dbX_1 hf hB (fr_uI fr_rf (by simp))
    rw [fX2_readFront]
    simp only [if_true, bX2_readFront_15]
    rw [lnAll]
    by_cases he : (tokAt T q).1 = 0
    · rw [if_pos he]
      split
      · exact fin
      · rw [if_neg (show ¬ (1 : Int32) = 0 by decide), xIsEnd hq htk, wp_b2, wp_some]
        dsimp only
        rw [decide_eq_true he, if_pos rfl]
        exact fin
    have hlt := tokAt_lt hq he
    rw [if_neg he, if_neg (show ¬ (1000 : Int32) ≤ N i from fun e => absurd ((leN (a := 1000) (by omega) (by omega)).mp e) (by omega)), if_neg (show ¬ (1 : Int32) = 0 by decide), xIsEnd hq htk, wp_b2, wp_some]
    dsimp only
    rw [decide_eq_false he, if_neg Bool.false_ne_true, wp_b2]
    obtain ⟨l1, l2⟩ := lnF_ok hT hq kB
    refine wp_mono (xFln hT hf kB hB hq htk h7) ?_
    rintro ⟨U, b⟩ ⟨u1, ut, uf⟩
    dsimp only at u1 ut uf ⊢
    have hU := fr_tr hS u1
    by_cases c : (lnF T B q).1 = 0
    · obtain ⟨t1, t2, t3, t4⟩ := ut c
      obtain ⟨a1, a2, a3⟩ := l2 c
      rw [t1, if_pos rfl, if_neg (show ¬ ¬ (lnF T B q).1 = 0 from fun h => h c), wp_b2]
      unfold FX8_takeSign
      rw [xSemi hT a2 t2, wp_b2, wp_some]
      dsimp only
      cases hs : isSe T (lnF T B q).2.1 with
      | false =>
        rw [if_neg Bool.false_ne_true, if_pos rfl, show FX8_fail U (1 : Int32) = FX8_fail U (N 1) from rfl, xFail t3 (xTk3 a2 t2), wp_b2, wp_some, wp_some]
        dsimp only
        rw [if_neg Bool.false_ne_true]
        exact xFrE (by omega) (fr_uI hU (by simp)) I_self (by omega)
      | true =>
        rw [if_pos rfl, if_neg (show ¬ true = false by decide), wp_b1]
        refine wp_mono (xAdvN hT a2 t2) ?_
        rintro V ⟨v1, v2⟩
        rw [wp_some]
        dsimp only
        rw [if_pos rfl, addN1]
        have hk4 : ¬ (tokAt T (lnF T B q).2.1).1 = 0 := by
          have := (of_decide_eq_true hs).1
          omega
        have m1 := nx_lt a2 hk4
        exact ih (lnF T B q).2.2 (nx T (lnF T B q).2.1) (i + 1) k V (nx_le a2) (by omega) (by omega) hk' (fr_tr hU (k1F v1.1)) a3 (dbX_1 hf t4 v1.1) v2 (v1.2.1.trans t3)
    · obtain ⟨t1, t2⟩ := uf c
      rw [t1, if_neg Bool.false_ne_true, if_pos c]
      exact xFrE (by omega) hU t2 c
theorem xFront {S : gS} {T : aTp} {f : Nat} (hT : okT T) (hr : rwX S T) (hf : f = 6 ∨ f = 20) : wp (FX2_readFront S f) (xFq S f (lnAll T 1001 aB0 (skB T 0))) := by
  have h1000 := hT.1
  unfold FX2_readFront FX1_forget FX8_open
  simp only [g_lt]
  rw [wp_b1, wp_some, wp_b1, wp_b1]
  generalize hV : uI (uI (uI (uI (uI (uI S f 0 0) f 8 0) f 11 0) (f + 11) 1 0) 1 4 0) 1 7 0 = V
  have vF : fr (lF f) S V := by
    rw [← hV]
    exact fr_uI (fr_uI (fr_uI (fr_uI (fr_uI (fr_uI fr_rf (by simp)) (by simp)) (by simp)) (by simp)) (by simp)) (by simp)
  have v0 : sI V f 0 = 0 := by rw [← hV, I_uI, if_neg (by omega), I_uI, if_neg (by omega), I_uI, if_neg (by omega), I_uI, if_neg (by omega), I_uI, if_neg (by omega), I_self]
  have v8 : sI V f 8 = 0 := by rw [← hV, I_uI, if_neg (by omega), I_uI, if_neg (by omega), I_uI, if_neg (by omega), I_uI, if_neg (by omega), I_self]
  have v11 : sI V f 11 = 0 := by rw [← hV, I_uI, if_neg (by omega), I_uI, if_neg (by omega), I_uI, if_neg (by omega), I_self]
  have vl : sI V (f + 11) 1 = 0 := by rw [← hV, I_uI, if_neg (by omega), I_uI, if_neg (by omega), I_self]
  have v4 : sI V 1 4 = N 0 := by rw [← hV, I_uI, if_neg (by omega), I_self]; rfl
  have v7 : sI V 1 7 = 0 := by rw [← hV, I_self]
  have v1 : sI V 1 1 = sI S 1 1 := by rw [← hV, I_uI, if_neg (by omega), I_uI, if_neg (by omega), I_uI, if_neg (by omega), I_uI, if_neg (by omega), I_uI, if_neg (by omega), I_uI, if_neg (by omega)]
  have vR : sR V 2 = sR S 2 := by rw [← hV]; rfl
  clear hV
  refine wp_mono (xAdvance (S := V) (T := T) (p := 0) hT (by omega) ⟨by rw [v1]; exact hr.1, by rw [vR]; exact hr.2⟩ v4) ?_
  rintro U ⟨⟨u1, u2, -⟩, u3⟩
  rw [wp_some]
  have uB : dbX U f aB0 := by
    refine ⟨(frI u1 (n1b (by omega)) 0).trans v0, fun i hi => absurd hi (Nat.not_lt_zero i), (frI u1 (n1b (by omega)) 8).trans v8, fun i hi => absurd hi (Nat.not_lt_zero i), (frI u1 (n1b (by omega)) 11).trans v11, fun i hi => absurd hi (Nat.not_lt_zero i), (frI u1 (n1b (by omega)) 1).trans vl, trivial, fun i hi => absurd hi (Nat.not_lt_zero i), fun i hi => absurd hi (Nat.not_lt_zero i)⟩
  have := xFrL (S0 := S) hT hf 1001 aB0 (skB T 0) 0 FU U (skB_le (by omega)) (by omega) (by omega) (by unfold FU; omega) (fr_tr vF (k1F u1)) okB0 uB u3 (u2.trans v7)
  exact this
