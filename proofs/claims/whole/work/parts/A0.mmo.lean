/-! the model reads sounds, a mouth; a line -/
theorem mFr_3 {S0 S S' : gS} (h : mFr S0 S) (h' : kM3 S S') : mFr S0 S' := by
  have n4 : ∀ b, b ≠ 180 → b ≠ 194 → b ≠ 195 → b ≠ 196 → b ∉ [180, 194, 195, 196] := by intro b hb; simp only [List.mem_cons, List.not_mem_nil, or_false]; omega
  refine mFr_tr h ⟨fr_mo h'.1 (by intro b hb; simp only [List.mem_cons, List.not_mem_nil, or_false] at hb ⊢; omega), fun k hk => h'.2.1 k (by omega), fun r j hj => ?_, fun r j hj => ?_⟩
  · by_cases e : r = 194
    · subst e
      rw [show pz 194 = 1000 from rfl] at hj
      exact h'.2.2 j hj
    · have hr : r ≠ 180 ∧ r ≠ 195 ∧ r ≠ 196 := by
        refine ⟨fun z => ?_, fun z => ?_, fun z => ?_⟩
        · rw [z, show pz 180 = 0 from rfl] at hj; omega
        · rw [z, show pz 195 = 0 from rfl] at hj; omega
        · rw [z, show pz 196 = 0 from rfl] at hj; omega
      rw [frR h'.1 (n4 r hr.1 e hr.2.1 hr.2.2)]
  · have hr : r = 183 ∨ r = 184 := by
      unfold pl at hj
      by_cases z1 : r = 183
      · exact Or.inl z1
      · rw [if_neg z1] at hj
        by_cases z2 : r = 184
        · exact Or.inr z2
        · rw [if_neg z2] at hj; omega
    rw [frL h'.1 (n4 r (by omega) (by omega) (by omega) (by omega))]
theorem mSndL {S : gS} {T : aTp} {q : Nat} {B : aB} (hT : okT T) (k : okB B) (hB : dbM S B) (hq : q ≤ T.1) (hk0 : ¬ (tokAt T q).1 = 0) (htk : tkM S T (tokAt T q)) : wp (FX12_readsSounds S) (mFp S T (lnS T B q)) := by
  have h1000 := hT.1
  have q1 := nx_le hq
  have l1 := nx_lt hq hk0
  have hcl : (bdC B).length ≤ 1000 := by rcases k.2.2.1 with z | z <;> omega
  have hcx : ((bdX B).length = 0) ↔ (bdC B).length = 0 := by rcases k.2.2.1 with z | z <;> omega
  obtain ⟨-, -, -, -, -, -, ⟨b7, b8, b9, b10⟩, -, -⟩ := id hB
  unfold FX12_readsSounds lnS
  rw [b7, b8]
  by_cases c : (bdX B).length = 0
  case neg =>
    have c' : ¬ (bdC B).length = 0 := fun h => c (hcx.mpr h)
    rw [if_pos c, if_neg (fun h => by have := (leN (by omega) (by omega)).mp h; omega)]
    exact mFl1 (c := 3) (by omega) mFr_rf hq htk
  have c' := hcx.mp c
  rw [if_neg (show ¬ ¬ (bdX B).length = 0 from fun h => h c), if_pos ((leN (by omega) (by omega)).mpr (by omega)), wp_b1]
  refine wp_mono (mNxN hT hq htk) ?_
  rintro U ⟨u1, u2⟩
  have uB := dbM_m1 hB u1
  have u23 : sI U 180 23 = N 1000 := by rw [u1.2.1 23 (by omega), b9, c']
  rw [wp_lt, u23, wp_b2]
  unfold FX12_readsLaw
  rw [wp_lt, show vp_nar .boolean (0 : Int32) = 0 from nar_b (b := false)]
  have uF : mFr S U := mFr_k mFr_rf u1
  generalize hV : uR (uR U 192 1 (N 1000)) 196 0 0 = V
  have vF : mFr S V := by rw [← hV]; exact mFr_R (mFr_R uF (by decide) (by decide)) (by decide) (by decide)
  have vt : tkM V T (tokAt T (nx T q)) := by rw [← hV]; exact tkM_R (tkM_R u2 (by omega)) (by omega)
  have v23 : sI V 180 23 = N 1000 := by rw [← hV]; exact u23
  have v196 : sR V 196 0 = 0 := by rw [← hV]; exact R_self
  have v192 : sR V 192 1 = N 1000 := by rw [← hV, R_uR, if_neg (by omega)]; exact R_self
  have vo : ∀ r, r ≠ 192 → r ≠ 196 → sR V r = sR U r := by
    intro r r1 r2
    rw [← hV]
    funext j
    rw [R_uR, if_neg (by omega), R_uR, if_neg (by omega)]
  have vL : ∀ r, sL V r = sL U r := by intro r; rw [← hV]; rfl
  clear hV
  have ok := (aEx_ok hT RF).1 0 0 (nx T q) q1
  show rl FU 0 1 V _
  refine ((mEx hT RF).1 0 0 (by omega) (by omega) mz0) (nx T q) V 1000 FU _ q1 vt v23 (by omega) (Or.inl rfl) (fun _ => v196) (by unfold FZ FU; omega) ?_ ?_
  · intro h0 W kw hkw ⟨⟨w1, w2, w3, w4⟩, w5, w6, w7⟩ w8 _
    have h0' : (aSd T (nx T q)).1 = 0 := h0
    obtain ⟨o1, o2, o3, o4, o5, o6, o7⟩ := ok.2 h0
    dsimp only at hkw w5 w6 w7 w8
    have hst : stopJ T 0 (aEx T RF 0 0 0 (nx T q)).2.1 W := ⟨o7 0 (by omega) (by omega) (by omega), o7 2 (by omega) (by omega) (by omega), o7 3 (by omega) (by omega) (by omega), w8 (by omega)⟩
    rw [if_neg (show ¬ ¬ (aSd T (nx T q)).1 = 0 from fun h => h h0')]
    have hfz : 4 ≤ kw := by unfold FZ at hkw; omega
    cases h59 : isS T (aEx T RF 0 0 0 (nx T q)).2.1 59 with
    | false =>
      have ec : aCl T (0, (aSd T (nx T q)).2.1, soB B (aSd T (nx T q))) = 1 + 16 * (aSd T (nx T q)).2.1 := by
        unfold aCl
        dsimp only
        rw [if_neg (show ¬ ¬ 0 = 0 by omega), show isSe T (aSd T (nx T q)).2.1 = false from h59, if_pos rfl]
      refine mBad hT o2 (by omega) (by omega) w5 w6 hst hfz (Or.inr rfl) (Or.inl h59) (fun X x1 x2 => ?_)
      dsimp only
      rw [if_neg Bool.false_ne_true, wp_some]
      exact ⟨mFr_3 (mFr_3 vF w1) x1, fun e => by rw [ec] at e; omega, fun _ => ⟨rfl, by rw [ec]; exact x2⟩⟩
    | true =>
      have ec : aCl T (0, (aSd T (nx T q)).2.1, soB B (aSd T (nx T q))) = 0 := by
        unfold aCl
        dsimp only
        rw [if_neg (show ¬ ¬ 0 = 0 by omega), show isSe T (aSd T (nx T q)).2.1 = true from h59, if_neg (show ¬ true = false by decide)]
      refine mEndE hT o2 (by omega) w5 w6 hst hfz h59 (fun X x1 x2 => ?_)
      dsimp only
      have x23 : sI X 180 23 = N (1000 + (aSd T (nx T q)).2.2.2.1.length) := (x1.2.1 23 (by omega)).trans w6
      rw [if_pos rfl, wp_lt, x23, wp_some]
      have xF : mFr S X := mFr_k (mFr_3 vF w1) x1
      refine ⟨mFr_R xF (by decide) (by decide), fun _ => ⟨rfl, tkM_R x2 (by omega), ?_⟩, fun h => absurd ec h⟩
      have n4 : ∀ b, b ≠ 180 → b ≠ 194 → b ≠ 195 → b ≠ 196 → b ∉ [180, 194, 195, 196] := by intro b hb; simp only [List.mem_cons, List.not_mem_nil, or_false]; omega
      have e : ∀ r, r ≠ 180 → r ≠ 192 → r ≠ 193 → r ≠ 194 → r ≠ 195 → r ≠ 196 → sR (uR X 193 1 (N (1000 + (aSd T (nx T q)).2.2.2.1.length))) r = sR U r := by
        intro r r1 r2 r3 r4 r5 r6
        funext j
        rw [R_uR, if_neg (by omega), k1R x1 r1, frR w1.1 (n4 r r1 r4 r5 r6), vo r r2 r6]
      have eL : ∀ r, r ≠ 180 → r ≠ 194 → r ≠ 195 → r ≠ 196 → sL X r = sL U r := by
        intro r r1 r4 r5 r6
        rw [frL x1.1 (n180 r1), frL w1.1 (n4 r r1 r4 r5 r6), vL]
      obtain ⟨a1, a2, a3, a4, a5, a6, -, a11, a12⟩ := uB
      refine ⟨?_, ?_, ?_, fun i hi => ?_, fun i hi => ?_, fun i hi => ?_, ⟨?_, R_self, x23, ?_⟩, fun i hi => ?_, fun i hi => ?_⟩
      · rw [e 182 (by omega) (by omega) (by omega) (by omega) (by omega) (by omega)]; exact a1
      · rw [e 182 (by omega) (by omega) (by omega) (by omega) (by omega) (by omega)]; exact a2
      · rw [e 182 (by omega) (by omega) (by omega) (by omega) (by omega) (by omega)]; exact a3
      · rw [e 185 (by omega) (by omega) (by omega) (by omega) (by omega) (by omega), e 186 (by omega) (by omega) (by omega) (by omega) (by omega) (by omega), e 187 (by omega) (by omega) (by omega) (by omega) (by omega) (by omega), e 188 (by omega) (by omega) (by omega) (by omega) (by omega) (by omega), e 189 (by omega) (by omega) (by omega) (by omega) (by omega) (by omega)]; exact a4 i hi
      · rw [e 190 (by omega) (by omega) (by omega) (by omega) (by omega) (by omega)]; exact a5 i hi
      · rw [e 191 (by omega) (by omega) (by omega) (by omega) (by omega) (by omega)]; exact a6 i hi
      · rw [R_uR, if_neg (by omega), k1R x1 (by omega), frR w1.1 (n4 192 (by omega) (by omega) (by omega) (by omega))]; exact v192
      · refine sgm_eq _ _ w7 (fun j h1 h2 => ?_)
        rw [R_uR, if_neg (by omega), k1R x1 (by omega)]
      · show sL X 183 (7 + i) = _
        rw [eL 183 (by omega) (by omega) (by omega) (by omega)]; exact a11 i hi
      · show sL X 184 (6 + i) = _
        rw [eL 184 (by omega) (by omega) (by omega) (by omega)]; exact a12 i hi
  · intro h0 W w1 w2
    have h0' : ¬ (aSd T (nx T q)).1 = 0 := h0
    rw [if_pos h0']
    dsimp only
    rw [if_neg Bool.false_ne_true, wp_some]
    exact mFp_f (mFr_3 vF w1) h0' w2
