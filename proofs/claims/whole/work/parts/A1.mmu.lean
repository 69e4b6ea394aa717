/-! the model reads a mouth -/
def mMn (n : Nat) (S0 S : gS) : Prop := fr [180, 183, 185, 186, 187, 188, 189] S0 S ∧ (∀ k, ¬ (k = 4 ∨ k = 5 ∨ k = 6 ∨ k = 8 ∨ k = 9 ∨ k = 36) → sI S 180 k = sI S0 180 k) ∧ (∀ r j, r ≠ 180 → j ≠ 7 + n → sR S r j = sR S0 r j) ∧ ∀ r j, r ≠ 180 → j ≠ 7 + n → sL S r j = sL S0 r j
theorem mMn_rf {n : Nat} {S : gS} : mMn n S S := ⟨fr_rf, fun _ _ => rfl, fun _ _ _ _ => rfl, fun _ _ _ _ => rfl⟩
theorem mMn_2 {n : Nat} {S0 S U : gS} (h : mMn n S0 S) (hU : fr [180] S U) (hI : ∀ k, ¬ (k = 4 ∨ k = 5 ∨ k = 6 ∨ k = 8 ∨ k = 9 ∨ k = 36) → sI U 180 k = sI S 180 k) : mMn n S0 U := by
  refine ⟨fr_tr h.1 (fr_mo hU (by intro b hb; simp only [List.mem_cons, List.not_mem_nil, or_false] at hb ⊢; omega)), fun k hk => (hI k hk).trans (h.2.1 k hk), fun r j hr hj => ?_, fun r j hr hj => ?_⟩
  · rw [frR hU (n180 hr)]; exact h.2.2.1 r j hr hj
  · rw [frL hU (n180 hr)]; exact h.2.2.2 r j hr hj
theorem mMn_R {n r : Nat} {S0 S : gS} {x : Int32} (h : mMn n S0 S) (h1 : 185 ≤ r) (h2 : r ≤ 189) : mMn n S0 (uR S r (7 + n) x) :=
  ⟨fr_uR h.1 (by simp only [List.mem_cons, List.not_mem_nil, or_false]; omega), h.2.1, fun r' j hr hj => by rw [R_uR, if_neg (by omega)]; exact h.2.2.1 r' j hr hj, h.2.2.2⟩
theorem mMn_L {n : Nat} {S0 S : gS} {x : Int64} (h : mMn n S0 S) : mMn n S0 (uL S 183 (7 + n) x) :=
  ⟨fr_uL h.1 (by simp), h.2.1, h.2.2.1, fun r j hr hj => by rw [L_uL, if_neg (by omega)]; exact h.2.2.2 r j hr hj⟩
theorem mMn_F {n : Nat} {S0 S : gS} (h : mMn n S0 S) : mFr S0 S := by
  have nn : ∀ b, b ≠ 180 → b ≠ 183 → ¬ (185 ≤ b ∧ b ≤ 189) → b ∉ [180, 183, 185, 186, 187, 188, 189] := by intro b hb; simp only [List.mem_cons, List.not_mem_nil, or_false]; omega
  refine ⟨fr_mo h.1 (by intro b hb; simp only [List.mem_cons, List.not_mem_nil, or_false] at hb ⊢; omega), fun k hk => h.2.1 k (by omega), fun r j hj => ?_, fun r j hj => ?_⟩
  · by_cases c : 185 ≤ r ∧ r ≤ 189
    · have : j < 7 := by
        unfold pz at hj
        rw [if_neg (by omega), if_pos c] at hj; exact hj
      exact h.2.2.1 r j (by omega) (by omega)
    · have hr : r ≠ 180 ∧ r ≠ 183 := by
        refine ⟨fun z => ?_, fun z => ?_⟩
        · rw [z, show pz 180 = 0 from rfl] at hj; omega
        · rw [z, show pz 183 = 0 from rfl] at hj; omega
      rw [frR h.1 (nn r hr.1 hr.2 c)]
  · by_cases c : r = 183
    · subst c
      rw [show pl 183 = 7 from rfl] at hj
      exact h.2.2.2 183 j (by omega) (by omega)
    · have hr : r = 184 := by
        unfold pl at hj
        rw [if_neg c] at hj
        by_cases z : r = 184
        · exact z
        · rw [if_neg z] at hj; omega
      rw [frL h.1 (nn r (by omega) c (by omega))]
theorem dbM_mo {S J : gS} {B : aB} {nm : List Nat} {kd h t o : Nat} (hB : dbM S B) (m : mMn (fN (bdF B)) S J) (j1 : sR J 185 (7 + fN (bdF B)) = N kd) (j2 : sR J 186 (7 + fN (bdF B)) = N h) (j3 : sR J 187 (7 + fN (bdF B)) = N t) (j4 : sR J 188 (7 + fN (bdF B)) = N o) (j5 : sR J 189 (7 + fN (bdF B)) = -1) (j6 : sL J 183 (7 + fN (bdF B)) = LN (e27 nm)) : dbM (uR J 182 3 (N (fN (bdF B) + 1))) (moB B nm kd h t o) := by
  obtain ⟨a1, a2, a3, a4, a5, a6, ⟨a7, a8, a9, a10⟩, a11, a12⟩ := hB
  have nn : ∀ b, b ≠ 180 → b ≠ 183 → ¬ (185 ≤ b ∧ b ≤ 189) → b ∉ [180, 183, 185, 186, 187, 188, 189] := by intro b hb; simp only [List.mem_cons, List.not_mem_nil, or_false]; omega
  have e : ∀ b j, b ≠ 180 → b ≠ 183 → ¬ (185 ≤ b ∧ b ≤ 189) → ¬ (b = 182 ∧ j = 3) → sR (uR J 182 3 (N (fN (bdF B) + 1))) b j = sR S b j := by
    intro b j h1 h2 h3 h4
    rw [R_uR, if_neg h4, frR m.1 (nn b h1 h2 h3)]
  have row : ∀ (r : Nat) (g : Nat → Int32) (v : Int32), 185 ≤ r → r ≤ 189 → (∀ i, i < fN (bdF B) → sR S r (7 + i) = g i) → sR J r (7 + fN (bdF B)) = v → ∀ i, i < fN (bdF B) + 1 → sR (uR J 182 3 (N (fN (bdF B) + 1))) r (7 + i) = up g (fN (bdF B)) v i := by
    intro r g v r1 r2 hg hv i hi
    rw [R_uR, if_neg (by omega)]
    unfold up
    by_cases c : i = fN (bdF B)
    · rw [if_pos c, c]; exact hv
    · rw [if_neg c, m.2.2.1 r (7 + i) (by omega) (by omega)]; exact hg i (by omega)
  refine ⟨R_self, (e 182 4 (by omega) (by omega) (by omega) (by omega)).trans a2, (e 182 5 (by omega) (by omega) (by omega) (by omega)).trans a3, fun i hi => ?_, fun i hi => ?_, fun i hi => ?_, ⟨?_, ?_, ?_, ?_⟩, fun i hi => ?_, fun i hi => ?_⟩
  · have hi' : i < fN (bdF B) + 1 := hi
    exact ⟨row 185 _ _ (by omega) (by omega) (fun i hi => (a4 i hi).1) j1 i hi', row 186 _ _ (by omega) (by omega) (fun i hi => (a4 i hi).2.1) j2 i hi', row 187 _ _ (by omega) (by omega) (fun i hi => (a4 i hi).2.2.1) j3 i hi', row 188 _ _ (by omega) (by omega) (fun i hi => (a4 i hi).2.2.2.1) j4 i hi', row 189 _ _ (by omega) (by omega) (fun i hi => (a4 i hi).2.2.2.2) j5 i hi'⟩
  · rw [e 190 _ (by omega) (by omega) (by omega) (by omega)]; exact a5 i hi
  · rw [e 191 _ (by omega) (by omega) (by omega) (by omega)]; exact a6 i hi
  · rw [e 192 _ (by omega) (by omega) (by omega) (by omega)]; exact a7
  · rw [e 193 _ (by omega) (by omega) (by omega) (by omega)]; exact a8
  · exact (m.2.1 23 (by omega)).trans a9
  · exact sgm_eq _ _ a10 (fun j _ _ => e 194 j (by omega) (by omega) (by omega) (by omega))
  · have hi' : i < fN (bdF B) + 1 := hi
    show sL J 183 (7 + i) = LN (e27 (upl (bdM B) (fN (bdF B)) nm i))
    unfold upl
    by_cases c : i = fN (bdF B)
    · rw [if_pos c, c]; exact j6
    · rw [if_neg c, m.2.2.2 183 (7 + i) (by omega) (by omega)]; exact a11 i (by omega)
  · show sL J 184 (6 + i) = _
    rw [frL m.1 (nn 184 (by omega) (by omega) (by omega))]; exact a12 i hi
theorem mKd {V : gS} {T : aTp} {q n : Nat} {x : Int32} {Q : gS × Bool → Prop} (hq : q ≤ T.1) (hk : tkM V T (tokAt T q)) (hn : n < 7) (g : wp (fX12_readsMouth FU 98 (uR V 185 (7 + n) (nAn (tkKd (tokAt T q)) 4)) (N (7 + n))) Q) (hx : x = N (7 + n)) : wp (g_b2 (FX12_isWord V 8740238) (fun S4 b5 => if b5 = true then (if g_vp x 14 = true then (g_lt (uR S4 185 (Int32.toNatClampNeg x) 0) (fun S21 => fX12_readsMouth FU 98 S21 x)) else none) else (g_b2 (FX12_isWord S4 459383) (fun S6 b7 => if b7 = true then (if g_vp x 14 = true then (g_lt (uR S6 185 (Int32.toNatClampNeg x) 1) (fun S19 => fX12_readsMouth FU 98 S19 x)) else none) else (g_b2 (FX12_isWord S6 383153) (fun S8 b9 => if b9 = true then (if g_vp x 14 = true then (g_lt (uR S8 185 (Int32.toNatClampNeg x) 2) (fun S17 => fX12_readsMouth FU 98 S17 x)) else none) else (g_b2 (FX12_isWord S8 279740) (fun S10 b11 => if b11 = true then (if g_vp x 14 = true then (g_lt (uR S10 185 (Int32.toNatClampNeg x) 3) (fun S15 => fX12_readsMouth FU 98 S15 x)) else none) else (if g_vp x 14 = true then (g_lt (uR S10 185 (Int32.toNatClampNeg x) (-1)) (fun S13 => fX12_readsMouth FU 98 S13 x)) else none))))))))) Q := by
  subst hx
  have hv : g_vp (N (7 + n)) 14 = true := vpN (by omega) (by omega)
  have hc : Int32.toNatClampNeg (N (7 + n)) = 7 + n := clN (by omega)
  unfold tkKd at g
  rw [mIsWord hq hk txt22 gw22, wp_b2, wp_some]
  dsimp only
  cases h22 : tkW (tokAt T q) 22 with
  | true =>
    rw [h22, if_pos rfl] at g
    rw [if_pos rfl, if_pos hv, wp_lt, hc]; exact g
  | false =>
    rw [h22, if_neg Bool.false_ne_true] at g
    rw [if_neg Bool.false_ne_true, mIsWord hq hk txt23 gw23, wp_b2, wp_some]
    dsimp only
    cases h23 : tkW (tokAt T q) 23 with
    | true =>
      rw [h23, if_pos rfl] at g
      rw [if_pos rfl, if_pos hv, wp_lt, hc]; exact g
    | false =>
      rw [h23, if_neg Bool.false_ne_true] at g
      rw [if_neg Bool.false_ne_true, mIsWord hq hk txt24 gw24, wp_b2, wp_some]
      dsimp only
      cases h24 : tkW (tokAt T q) 24 with
      | true =>
        rw [h24, if_pos rfl] at g
        rw [if_pos rfl, if_pos hv, wp_lt, hc]; exact g
      | false =>
        rw [h24, if_neg Bool.false_ne_true] at g
        rw [if_neg Bool.false_ne_true, mIsWord hq hk txt25 gw25, wp_b2, wp_some]
        dsimp only
        cases h25 : tkW (tokAt T q) 25 with
        | true =>
          rw [h25, if_pos rfl] at g
          rw [if_pos rfl, if_pos hv, wp_lt, hc]; exact g
        | false =>
          rw [h25, if_neg Bool.false_ne_true] at g
          rw [if_neg Bool.false_ne_true, if_pos hv, wp_lt, hc]; exact g
theorem mMth {S : gS} {T : aTp} {q : Nat} {B : aB} (hT : okT T) (k : okB B) (hB : dbM S B) (hq : q ≤ T.1) (htk : tkM S T (tokAt T q)) : wp (FX12_readsMouth S) (mFp S T (lnM T B q)) := by
  have h1000 := hT.1
  have q1 := nx_le hq
  have q2 := nx_le q1
  have q3 := nx_le q2
  have hL := k.1.1
  have hL6 := k.1.2.1
  unfold FX12_readsMouth lnM
  rw [hB.1, show (7 : Int32) + N (fN (bdF B)) = N (7 + fN (bdF B)) from addN (a := 7)]
  by_cases c7 : fN (bdF B) = 7
  · rw [if_pos c7, if_pos (show N (7 + fN (bdF B)) = (14 : Int32) by rw [c7]; rfl)]
    exact mFl1 (c := 5) (by omega) mFr_rf hq htk
  have hn : fN (bdF B) < 7 := by omega
  rw [if_neg c7, if_neg (show ¬ N (7 + fN (bdF B)) = (14 : Int32) from fun e => c7 (by have := (eqN (b := 14) (by omega) (by omega)).mp e; omega)), wp_b1]
  refine wp_mono (mNxN hT hq htk) ?_
  rintro U ⟨u1, u2⟩
  have uB := dbM_m1 hB u1
  have m0 : mMn (fN (bdF B)) S U := mMn_2 mMn_rf u1.1 (fun k hk => u1.2.1 k (by omega))
  rw [wp_b2]
  refine wp_mono (mNew hT hL hL6 k.2.1.1 k.2.1.2 uB.1 uB.2.1 uB.2.2.2.2.2.2.2.1 uB.2.2.2.2.2.2.2.2 q1 u2) ?_
  rintro ⟨V, b⟩ ⟨v1, v1', v2, v3⟩
  dsimp only at v1 v1' v2 v3 ⊢
  have m1 : mMn (fN (bdF B)) S V := mMn_2 m0 v1 (fun k hk => v1' k (by omega))
  by_cases cN : aNw T (bdM B) (bdL B) (fN (bdF B)) (fL (bdF B)) (nx T q) = 0
  case neg =>
    obtain ⟨e1, e2⟩ := v3 cN
    rw [if_pos cN, e1, if_neg Bool.false_ne_true, wp_some]
    exact mFp_f (mMn_F m1) cN e2
  obtain ⟨e1, e2, e3⟩ := v2 cN
  have e3 : tkM V T (tokAt T (nx T (nx T q))) := e3
  rw [if_neg (show ¬ ¬ aNw T (bdM B) (bdL B) (fN (bdF B)) (fL (bdF B)) (nx T q) = 0 from fun h => h cN), e1, if_pos rfl]
  refine mKd q2 e3 hn ?_ rfl
  have hkd := tkKd_le (k := tokAt T (nx T (nx T q)))
  have m2 : mMn (fN (bdF B)) S (uR V 185 (7 + fN (bdF B)) (nAn (tkKd (tokAt T (nx T (nx T q)))) 4)) := mMn_R m1 (by omega) (by omega)
  have w2 : tkM (uR V 185 (7 + fN (bdF B)) (nAn (tkKd (tokAt T (nx T (nx T q)))) 4)) T (tokAt T (nx T (nx T q))) := tkM_R e3 (by omega)
  have wj : sJ (uR V 185 (7 + fN (bdF B)) (nAn (tkKd (tokAt T (nx T (nx T q)))) 4)) 180 37 = LN (e27 (tokAt T (nx T q)).2.2.2.1) := e2
  have wk1 : sR (uR V 185 (7 + fN (bdF B)) (nAn (tkKd (tokAt T (nx T (nx T q)))) 4)) 185 (7 + fN (bdF B)) = nAn (tkKd (tokAt T (nx T (nx T q)))) 4 := R_self
  generalize uR V 185 (7 + fN (bdF B)) (nAn (tkKd (tokAt T (nx T (nx T q)))) 4) = W at *
  obtain ⟨kk, ek, hkk⟩ := FU_s
  rw [ek, fX12_readsMouth]
  simp only [if_true, bX12_readsMouth_98]
  rw [if_pos (vpN (by omega) (by omega)), clN (by omega), wk1]
  generalize tkKd (tokAt T (nx T (nx T q))) = kd at *
  by_cases ck : kd = 4
  · rw [if_pos ck, if_neg (fun h => absurd ((nAn0 (by omega)).mp h) (by omega))]
    exact mFl1 (c := 1) (by omega) (mMn_F m2) q2 w2
  have ekd : nAn kd 4 = N kd := by unfold nAn; rw [if_pos (by omega)]
  rw [if_neg ck, if_pos ((nAn0 (by omega)).mpr (by omega)), wp_b1]
  rw [ekd] at wk1
  refine wp_mono (mNxN hT q2 w2) ?_
  rintro X ⟨x1, x2⟩
  have m3 : mMn (fN (bdF B)) S X := mMn_2 m2 x1.1 (fun k hk => x1.2.1 k (by omega))
  have xj : sJ X 180 37 = LN (e27 (tokAt T (nx T q)).2.2.2.1) := by rw [x1.2.2 180 37 (by omega)]; exact wj
  have xk : sR X 185 (7 + fN (bdF B)) = N kd := by rw [k1R x1 (by omega)]; exact wk1
  have kR : ∀ {S U : gS}, kM2 S U → ∀ {b : Nat}, b ≠ 180 → sR U b = sR S b := fun h b hb => frR h.1 (n180 hb)
  -- high
  rw [wp_b2]
  refine wp_mono (mMeas (lo := 1) (hi := 20) hT q3 txt26 gw26 x2 (by omega) (by omega)) ?_
  rintro ⟨A, hb⟩ ⟨A1, A2, A3⟩
  dsimp only at A1 A2 A3 ⊢
  obtain ⟨b1, b2⟩ := aMs_ok (t := 26) (lo := 1) (hi := 20) hT q3
  generalize aMs T 26 1 20 (nx T (nx T (nx T q))) = M1 at *
  have m4 : mMn (fN (bdF B)) S A := mMn_2 m3 A1.1 (fun k hk => A1.2.1 k (by omega))
  have Aj : sJ A 180 37 = LN (e27 (tokAt T (nx T q)).2.2.2.1) := by rw [A1.2.2 180 37 (by omega)]; exact xj
  have Ak : sR A 185 (7 + fN (bdF B)) = N kd := by rw [kR A1 (by omega)]; exact xk
  by_cases c1 : M1.1 = 0
  case neg =>
    obtain ⟨e4, e5⟩ := A3 c1
    rw [if_pos c1, e4, if_neg Bool.false_ne_true, wp_some]
    exact mFp_f (mMn_F m4) c1 e5
  obtain ⟨b4, b5, b6⟩ := b2 c1
  obtain ⟨e4, e5, e6⟩ := A2 c1
  rw [if_neg (show ¬ ¬ M1.1 = 0 from fun h => h c1), e4, if_pos rfl, e5, wp_lt]
  have m5 : mMn (fN (bdF B)) S (uR A 186 (7 + fN (bdF B)) (N M1.2.2)) := mMn_R m4 (by omega) (by omega)
  have C2 : tkM (uR A 186 (7 + fN (bdF B)) (N M1.2.2)) T (tokAt T M1.2.1) := tkM_R e6 (by omega)
  have Cj : sJ (uR A 186 (7 + fN (bdF B)) (N M1.2.2)) 180 37 = LN (e27 (tokAt T (nx T q)).2.2.2.1) := Aj
  have Ck : sR (uR A 186 (7 + fN (bdF B)) (N M1.2.2)) 185 (7 + fN (bdF B)) = N kd := by rw [R_uR, if_neg (by omega)]; exact Ak
  have Ch : sR (uR A 186 (7 + fN (bdF B)) (N M1.2.2)) 186 (7 + fN (bdF B)) = N M1.2.2 := R_self
  generalize uR A 186 (7 + fN (bdF B)) (N M1.2.2) = C at *
  -- takes
  rw [wp_b2]
  refine wp_mono (mMeas (lo := 0) (hi := 9) hT b4 txt27 gw27 C2 (by omega) (by omega)) ?_
  rintro ⟨D, hb2⟩ ⟨D1, D2, D3⟩
  dsimp only at D1 D2 D3 ⊢
  obtain ⟨g1, g2⟩ := aMs_ok (t := 27) (lo := 0) (hi := 9) hT b4
  generalize aMs T 27 0 9 M1.2.1 = M2 at *
  have m6 : mMn (fN (bdF B)) S D := mMn_2 m5 D1.1 (fun k hk => D1.2.1 k (by omega))
  have Dj : sJ D 180 37 = LN (e27 (tokAt T (nx T q)).2.2.2.1) := by rw [D1.2.2 180 37 (by omega)]; exact Cj
  have Dk : sR D 185 (7 + fN (bdF B)) = N kd := by rw [kR D1 (by omega)]; exact Ck
  have Dh : sR D 186 (7 + fN (bdF B)) = N M1.2.2 := by rw [kR D1 (by omega)]; exact Ch
  by_cases c2 : M2.1 = 0
  case neg =>
    obtain ⟨e7, e8⟩ := D3 c2
    rw [if_pos c2, e7, if_neg Bool.false_ne_true, wp_some]
    exact mFp_f (mMn_F m6) c2 e8
  obtain ⟨g4, g5, g6⟩ := g2 c2
  obtain ⟨e7, e8, e9⟩ := D2 c2
  rw [if_neg (show ¬ ¬ M2.1 = 0 from fun h => h c2), e7, if_pos rfl, e8, wp_lt]
  have m7 : mMn (fN (bdF B)) S (uR D 187 (7 + fN (bdF B)) (N M2.2.2)) := mMn_R m6 (by omega) (by omega)
  have E2 : tkM (uR D 187 (7 + fN (bdF B)) (N M2.2.2)) T (tokAt T M2.2.1) := tkM_R e9 (by omega)
  have Ej : sJ (uR D 187 (7 + fN (bdF B)) (N M2.2.2)) 180 37 = LN (e27 (tokAt T (nx T q)).2.2.2.1) := Dj
  have Ek : sR (uR D 187 (7 + fN (bdF B)) (N M2.2.2)) 185 (7 + fN (bdF B)) = N kd := by rw [R_uR, if_neg (by omega)]; exact Dk
  have Eh : sR (uR D 187 (7 + fN (bdF B)) (N M2.2.2)) 186 (7 + fN (bdF B)) = N M1.2.2 := by rw [R_uR, if_neg (by omega)]; exact Dh
  have Et : sR (uR D 187 (7 + fN (bdF B)) (N M2.2.2)) 187 (7 + fN (bdF B)) = N M2.2.2 := R_self
  generalize uR D 187 (7 + fN (bdF B)) (N M2.2.2) = E at *
  -- holds
  rw [wp_b2]
  refine wp_mono (mMeas (lo := 0) (hi := 40) hT g4 txt28 gw28 E2 (by omega) (by omega)) ?_
  rintro ⟨G, hb3⟩ ⟨G1, G2, G3⟩
  dsimp only at G1 G2 G3 ⊢
  obtain ⟨h1, h2⟩ := aMs_ok (t := 28) (lo := 0) (hi := 40) hT g4
  generalize aMs T 28 0 40 M2.2.1 = M3 at *
  have m8 : mMn (fN (bdF B)) S G := mMn_2 m7 G1.1 (fun k hk => G1.2.1 k (by omega))
  have Gj : sJ G 180 37 = LN (e27 (tokAt T (nx T q)).2.2.2.1) := by rw [G1.2.2 180 37 (by omega)]; exact Ej
  have Gk : sR G 185 (7 + fN (bdF B)) = N kd := by rw [kR G1 (by omega)]; exact Ek
  have Gh : sR G 186 (7 + fN (bdF B)) = N M1.2.2 := by rw [kR G1 (by omega)]; exact Eh
  have Gt : sR G 187 (7 + fN (bdF B)) = N M2.2.2 := by rw [kR G1 (by omega)]; exact Et
  by_cases c3 : M3.1 = 0
  case neg =>
    obtain ⟨e10, e11⟩ := G3 c3
    rw [if_pos c3, e10, if_neg Bool.false_ne_true, wp_some]
    exact mFp_f (mMn_F m8) c3 e11
  obtain ⟨h4, h5, h6⟩ := h2 c3
  obtain ⟨e10, e11, e12⟩ := G2 c3
  rw [if_neg (show ¬ ¬ M3.1 = 0 from fun h => h c3), e10, if_pos rfl, e11, wp_lt, wp_lt]
  have ej : sJ (uR (uR G 188 (7 + fN (bdF B)) (N M3.2.2)) 189 (7 + fN (bdF B)) (-1)) 180 37 = LN (e27 (tokAt T (nx T q)).2.2.2.1) := Gj
  rw [wp_lt, ej]
  have m11 : mMn (fN (bdF B)) S (uL (uR (uR G 188 (7 + fN (bdF B)) (N M3.2.2)) 189 (7 + fN (bdF B)) (-1)) 183 (7 + fN (bdF B)) (LN (e27 (tokAt T (nx T q)).2.2.2.1))) := mMn_L (mMn_R (mMn_R m8 (by omega) (by omega)) (by omega) (by omega))
  have J2 : tkM (uL (uR (uR G 188 (7 + fN (bdF B)) (N M3.2.2)) 189 (7 + fN (bdF B)) (-1)) 183 (7 + fN (bdF B)) (LN (e27 (tokAt T (nx T q)).2.2.2.1))) T (tokAt T M3.2.1) := by
    have z : tkM (uR (uR G 188 (7 + fN (bdF B)) (N M3.2.2)) 189 (7 + fN (bdF B)) (-1)) T (tokAt T M3.2.1) := tkM_R (tkM_R e12 (by omega)) (by omega)
    exact z
  have Jk : sR (uL (uR (uR G 188 (7 + fN (bdF B)) (N M3.2.2)) 189 (7 + fN (bdF B)) (-1)) 183 (7 + fN (bdF B)) (LN (e27 (tokAt T (nx T q)).2.2.2.1))) 185 (7 + fN (bdF B)) = N kd := by rw [R_uL, R_uR, if_neg (by omega), R_uR, if_neg (by omega)]; exact Gk
  have Jh : sR (uL (uR (uR G 188 (7 + fN (bdF B)) (N M3.2.2)) 189 (7 + fN (bdF B)) (-1)) 183 (7 + fN (bdF B)) (LN (e27 (tokAt T (nx T q)).2.2.2.1))) 186 (7 + fN (bdF B)) = N M1.2.2 := by rw [R_uL, R_uR, if_neg (by omega), R_uR, if_neg (by omega)]; exact Gh
  have Jt : sR (uL (uR (uR G 188 (7 + fN (bdF B)) (N M3.2.2)) 189 (7 + fN (bdF B)) (-1)) 183 (7 + fN (bdF B)) (LN (e27 (tokAt T (nx T q)).2.2.2.1))) 187 (7 + fN (bdF B)) = N M2.2.2 := by rw [R_uL, R_uR, if_neg (by omega), R_uR, if_neg (by omega)]; exact Gt
  have Jo : sR (uL (uR (uR G 188 (7 + fN (bdF B)) (N M3.2.2)) 189 (7 + fN (bdF B)) (-1)) 183 (7 + fN (bdF B)) (LN (e27 (tokAt T (nx T q)).2.2.2.1))) 188 (7 + fN (bdF B)) = N M3.2.2 := by rw [R_uL, R_uR, if_neg (by omega), R_self]
  have Jg : sR (uL (uR (uR G 188 (7 + fN (bdF B)) (N M3.2.2)) 189 (7 + fN (bdF B)) (-1)) 183 (7 + fN (bdF B)) (LN (e27 (tokAt T (nx T q)).2.2.2.1))) 189 (7 + fN (bdF B)) = -1 := by rw [R_uL, R_self]
  have Jn : sL (uL (uR (uR G 188 (7 + fN (bdF B)) (N M3.2.2)) 189 (7 + fN (bdF B)) (-1)) 183 (7 + fN (bdF B)) (LN (e27 (tokAt T (nx T q)).2.2.2.1))) 183 (7 + fN (bdF B)) = LN (e27 (tokAt T (nx T q)).2.2.2.1) := by rw [L_uL, if_pos ⟨rfl, rfl⟩]
  generalize uL (uR (uR G 188 (7 + fN (bdF B)) (N M3.2.2)) 189 (7 + fN (bdF B)) (-1)) 183 (7 + fN (bdF B)) (LN (e27 (tokAt T (nx T q)).2.2.2.1)) = J at *
  have J3 : sR J 182 3 = N (fN (bdF B)) := by
    rw [frR m11.1 (show 182 ∉ [180, 183, 185, 186, 187, 188, 189] by decide)]; exact hB.1
  rw [J3, show N (fN (bdF B)) + (1 : Int32) = N (fN (bdF B) + 1) from addN1, wp_lt]
  exact mClo hT (mFr_R (mMn_F m11) (by decide) (by decide)) (dbM_mo hB m11 Jk Jh Jt Jo Jg Jn) h4 (tkM_R J2 (by omega))
/-- a line -/
theorem mFln {S : gS} {T : aTp} {q : Nat} {B : aB} {Q : gS × Bool → Prop} {K : gS → Bool → Option (gS × Bool)} (hT : okT T) (k : okB B) (hB : dbM S B) (hq : q ≤ T.1) (hk0 : ¬ (tokAt T q).1 = 0) (htk : tkM S T (tokAt T q)) (h : ∀ r, mFp S T (lnF T B q) r → wp (K r.1 r.2) Q) : wp (g_b2 (FX12_isWord S ((7219835 : Int64))) (fun S1 b2 => if b2 = true then (g_b2 (FX12_readsMouth S1 ) K) else (g_b2 (FX12_isWord S1 ((112011003 : Int64))) (fun S3 b4 => if b4 = true then (g_b2 (FX12_readsGutter S3 ) K) else (g_b2 (FX12_isWord S3 ((175252482 : Int64))) (fun S5 b6 => if b6 = true then (g_b2 (FX12_readsLetter S5 ) K) else (g_b2 (FX12_isWord S5 ((355280 : Int64))) (fun S7 b8 => if b8 = true then (g_b2 (FX12_readsRain S7 ) K) else (g_b2 (FX12_isWord S7 ((281024524 : Int64))) (fun S9 b10 => if b10 = true then (g_b2 (FX12_readsSounds S9 ) K) else (g_b2 (FX12_fails S9 ((1 : Int32))) K))))))))))) Q := by
  have one : ∀ {o : Option (gS × Bool)} {l : aLi}, wp o (mFp S T l) → lnF T B q = l → wp (g_b2 o K) Q := by
    intro o l ho hl
    rw [wp_b2]
    exact wp_mono ho (fun r hr => h r (by rw [hl]; exact hr))
  have el : lnF T B q = lnF T B q := rfl
  conv at el => rhs; unfold lnF
  rw [mIsWord hq htk txt1 gw1, wp_b2, wp_some]
  dsimp only
  cases h1 : tkW (tokAt T q) 1 with
  | true => rw [if_pos rfl]; exact one (mMth hT k hB hq htk) (by rw [el, h1, if_pos rfl])
  | false =>
    rw [h1, if_neg Bool.false_ne_true] at el
    rw [if_neg Bool.false_ne_true, mIsWord hq htk txt29 gw29, wp_b2, wp_some]
    dsimp only
    cases h2 : tkW (tokAt T q) 29 with
    | true => rw [if_pos rfl]; exact one (mGut hT k hB hq htk) (by rw [el, h2, if_pos rfl])
    | false =>
      rw [h2, if_neg Bool.false_ne_true] at el
      rw [if_neg Bool.false_ne_true, mIsWord hq htk txt30 gw30, wp_b2, wp_some]
      dsimp only
      cases h3 : tkW (tokAt T q) 30 with
      | true => rw [if_pos rfl]; exact one (mLett hT k hB hq htk) (by rw [el, h3, if_pos rfl])
      | false =>
        rw [h3, if_neg Bool.false_ne_true] at el
        rw [if_neg Bool.false_ne_true, mIsWord hq htk txt32 gw32, wp_b2, wp_some]
        dsimp only
        cases h4 : tkW (tokAt T q) 32 with
        | true => rw [if_pos rfl]; exact one (mRai hT k hB hq htk) (by rw [el, h4, if_pos rfl])
        | false =>
          rw [h4, if_neg Bool.false_ne_true] at el
          rw [if_neg Bool.false_ne_true, mIsWord hq htk txt33 gw33, wp_b2, wp_some]
          dsimp only
          cases h5 : tkW (tokAt T q) 33 with
          | true => rw [if_pos rfl]; exact one (mSndL hT k hB hq hk0 htk) (by rw [el, h5, if_pos rfl])
          | false =>
            rw [h5, if_neg Bool.false_ne_true] at el
            rw [if_neg Bool.false_ne_true]
            refine one (l := (1 + 16 * q, 0, B)) ?_ el
            rw [show FX12_fails S (1 : Int32) = FX12_fails S (N 1) from rfl, mFail2 (mTk5 hq htk), wp_some]
            exact mFp_f (mFr_I mFr_rf (by omega)) (by omega) I_self
