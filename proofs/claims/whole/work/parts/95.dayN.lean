/-! the model reads a day -/
theorem mDReads {S : gS} {T : aTp} {q : Nat} (hq : q ≤ T.1) (hk : tkM S T (tokAt T q)) : FX12_readsLine S = fX12_readsLine FU 58 S (nAn (tkAc (tokAt T q)) 4) 0 := by
  unfold FX12_readsLine tkAc
  simp only [g_b2, mIsWord hq hk txt41 gw41, mIsWord hq hk txt42 gw42, mIsWord hq hk txt43 gw43, mIsWord hq hk txt44 gw44]
  repeat' split
  all_goals rfl
def dF (S0 S : gS) : Prop := fr lB S0 S ∧ (∀ k, ¬ (k = 4 ∨ k = 5 ∨ k = 6 ∨ k = 8 ∨ k = 9 ∨ k = 36) → sI S 180 k = sI S0 180 k) ∧ (∀ j, j ≠ 5 → sR S 207 j = sR S0 207 j) ∧ ∀ r i, 208 ≤ r → r ≤ 210 → i < 200 → sR S r i = sR S0 r i
theorem dF_l {n : Nat} {S0 S S' : gS} (h : dF S0 S) (h' : lM n S S') : dF S0 S' :=
  ⟨fr_tr h.1 h'.1, fun k hk => (h'.2.1 k hk).trans (h.2.1 k hk), fun j hj => (h'.2.2.1 j hj).trans (h.2.2.1 j hj), fun r i a b hi => (h'.2.2.2 r i a b (by omega)).trans (h.2.2.2 r i a b hi)⟩
theorem dF_d {S0 S : gS} (h : dF S0 S) {j : Nat} {D : aD} (hj : j < 5) (hD : D.1 ≤ 40) (hd : dM S0 j D) : dM S j D := by
  obtain ⟨d1, d2⟩ := hd
  refine ⟨by rw [h.2.2.1 j (by omega)]; exact d1, fun i hi => ?_⟩
  rw [h.2.2.2 208 _ (by omega) (by omega) (by omega), h.2.2.2 209 _ (by omega) (by omega) (by omega), h.2.2.2 210 _ (by omega) (by omega) (by omega)]
  exact d2 i hi
def dMp (S0 : gS) (R : Nat × aD) (r : gS × Int32) : Prop := fr lB S0 r.1 ∧ sI r.1 180 53 = sI S0 180 53 ∧ sI r.1 180 1 = sI S0 180 1 ∧ r.2 = N R.1 ∧ (R.1 = 0 → dM r.1 0 R.2) ∧ (¬ R.1 = 0 → ∀ D, D.1 ≤ 40 → dM S0 0 D → dM r.1 0 D) ∧ ∀ j D, j < 4 → D.1 ≤ 40 → dM S0 (1 + j) D → dM r.1 (1 + j) D
theorem dMp_f {S0 S : gS} {R : Nat × aD} (h : dF S0 S) (hc : ¬ R.1 = 0) (h9 : sI S 180 9 = N R.1) : dMp S0 R (S, sI S 180 9) :=
  ⟨h.1, h.2.1 53 (by omega), h.2.1 1 (by omega), h9, fun e => absurd e hc, fun _ D hD hd => dF_d h (by omega) hD hd, fun j D hj hD hd => dF_d h (by omega) hD hd⟩
theorem mDyL {S0 : gS} {T : aTp} {L : Nat} {mn : Nat → List Nat} (hT : okT T) (hL : L ≤ 7) (hk : ∀ i, i < L → okN (mn i)) (h8 : sR S0 182 0 = N L) (hn : ∀ i, i < L → sL S0 183 i = LN (e27 (mn i))) : ∀ m D q k S, D.1 + m = 41 → D.1 ≤ 40 → q ≤ T.1 → m + 2 ≤ k → dF S0 S → tkM S T (tokAt T q) → dM S 5 D → wp (fX12_day k 16 S) (dMp S0 (aDy T mn L m D q)) := by
  intro m
  induction m with
  | zero => intro D q k S h1 h2; omega
  | succ m ih =>
    intro D q k S h1 h2 hq hk2 hS htk hD
    obtain ⟨k, rfl, hk'⟩ := kS (k := k) (m := m + 2) (by omega)
    have h1000 := hT.1
    have nB : ∀ b, b < 180 ∨ 181 ≤ b ∧ b ≤ 206 → b ∉ lB := by intro b hb; simp only [List.mem_cons, List.not_mem_nil, or_false]; omega
    have e6 := (tokAt_e hq).2.2.2.2.2
    rw [fX12_day]
    simp only [if_true, bX12_day_16]
    rw [htk.2.2.1, aDy]
    by_cases he : (tokAt T q).1 = 0
    · rw [if_pos he, if_pos (show N (mkk (tokAt T q).1) = (0 : Int32) from (mk1 _ (by omega) 0 (by omega)).mpr he), wp_b1]
      refine wp_mono (mLines (S := S) (a := 5) (b := 0) (by omega) (by omega) (by omega)) ?_
      rintro Z ⟨z1, z2, z3⟩
      rw [wp_some]
      exact ⟨fr_tr hS.1 z1.1, z1.2.2.trans (hS.2.1 53 (by omega)), z1.2.1.trans (hS.2.1 1 (by omega)), rfl, fun _ => z2 D hD h2, fun h => absurd rfl h, fun j A hj hA hd => z3 (1 + j) A (by omega) (by omega) hA (dF_d hS (by omega) hA hd)⟩
    rw [if_neg he, if_neg (show ¬ N (mkk (tokAt T q).1) = (0 : Int32) from fun h => he ((mk1 _ (by omega) 0 (by omega)).mp h)), mDReads hq htk, wp_b2]
    obtain ⟨l1, l2⟩ := aLn_ok (T := T) (mn := mn) (L := L) (n := D.1) hT hq
    refine wp_mono (mL58 (n := D.1) (k := FU) hT hL hk (by rw [frR hS.1 (nB 182 (by omega))]; exact h8) (fun i hi => by rw [frL hS.1 (nB 183 (by omega))]; exact hn i hi) hq h2 (by unfold FU; omega) htk hD.1 rfl) ?_
    rintro ⟨U, b⟩ ⟨u1, ut, uf⟩
    dsimp only at u1 ut uf ⊢
    generalize aLn T mn L D.1 q = l at *
    have hU := dF_l hS u1
    by_cases c : l.1 = 0
    · obtain ⟨a1, a2', a3, a4, a5⟩ := l2 c
      rw [if_neg (show ¬ ¬ l.1 = 0 from fun h => h c)]
      cases hs : isSe T l.2.1 with
      | false =>
        have es : aLs T l = 1 + 16 * l.2.1 := by unfold aLs; rw [if_neg (show ¬ ¬ l.1 = 0 from fun h => h c), hs, if_pos rfl]
        obtain ⟨t1, t2⟩ := uf (by rw [es]; omega)
        rw [t1, if_neg Bool.false_ne_true, if_pos rfl, wp_some]
        refine dMp_f hU (by dsimp only; omega) ?_
        rw [t2, es]
      | true =>
        have es : aLs T l = 0 := by unfold aLs; rw [if_neg (show ¬ ¬ l.1 = 0 from fun h => h c), hs, if_neg (show ¬ true = false by decide)]
        obtain ⟨t1, t2, t3, t4, t5, t6⟩ := ut es
        rw [t1, if_pos rfl, if_neg (show ¬ true = false by decide)]
        refine ih (aD1 D l) _ k U (by unfold aD1; dsimp only; omega) (by unfold aD1; dsimp only; omega) (skB_le (tokAt_e a2').2.2.1) hk' hU t2 ?_
        unfold aD1
        refine ⟨t3, fun i hi => ?_⟩
        dsimp only at hi ⊢
        rw [show 40 * 5 + i = 200 + i by omega]
        unfold upn up
        by_cases e : i = D.1
        · rw [if_pos e, if_pos e, if_pos e, e]
          exact ⟨t4, t5, t6⟩
        · rw [if_neg e, if_neg e, if_neg e, u1.2.2.2 208 _ (by omega) (by omega) (by omega), u1.2.2.2 209 _ (by omega) (by omega) (by omega), u1.2.2.2 210 _ (by omega) (by omega) (by omega)]
          have := hD.2 i (by omega)
          rw [show 40 * 5 + i = 200 + i by omega] at this
          exact this
    · have es : aLs T l = l.1 := by unfold aLs; rw [if_pos (show ¬ l.1 = 0 from c)]
      obtain ⟨t1, t2⟩ := uf (by rw [es]; exact c)
      rw [t1, if_neg Bool.false_ne_true, if_pos (show ¬ l.1 = 0 from c), wp_some]
      refine dMp_f hU c ?_
      rw [t2, es]
abbrev aD0 : aD := (0, (fun _ => 0), (fun _ => 0), (fun _ => 0))
theorem mDay1 {S : gS} {T : aTp} {L : Nat} {mn : Nat → List Nat} (hT : okT T) (h1 : sI S 180 1 = N T.1) (h2 : ∀ i, i < T.1 → sR S 181 i = N (T.2 i)) (hL : L ≤ 7) (hk : ∀ i, i < L → okN (mn i)) (h8 : sR S 182 0 = N L) (hn : ∀ i, i < L → sL S 183 i = LN (e27 (mn i))) : wp (FX12_day S) (fun r => fr lB S r.1 ∧ sI r.1 180 53 = sI S 180 53 ∧ sI r.1 180 1 = N 0 ∧ r.2 = N (aDy T mn L 41 aD0 (skB T 0)).1 ∧ ((aDy T mn L 41 aD0 (skB T 0)).1 = 0 → dM r.1 0 (aDy T mn L 41 aD0 (skB T 0)).2) ∧ (¬ (aDy T mn L 41 aD0 (skB T 0)).1 = 0 → ∀ D, D.1 ≤ 40 → dM S 0 D → dM r.1 0 D) ∧ ∀ j D, j < 4 → D.1 ≤ 40 → dM S (1 + j) D → dM r.1 (1 + j) D) := by
  unfold FX12_day FX12_begins
  simp only [g_lt]
  rw [wp_b1, wp_b1]
  generalize hV : uI (uI (uI (uR (uI S 180 0 0) 207 5 0) 180 3 (sI (uR (uI S 180 0 0) 207 5 0) 180 1)) 180 1 0) 180 4 0 = V
  have v3 : sI V 180 3 = N T.1 := by rw [← hV, I_uI, if_neg (by omega), I_uI, if_neg (by omega), I_uI, if_pos ⟨rfl, rfl⟩]; exact h1
  have v4 : sI V 180 4 = N 0 := by rw [← hV, I_uI, if_pos ⟨rfl, rfl⟩]; rfl
  have v1 : sI V 180 1 = N 0 := by rw [← hV, I_uI, if_neg (by omega), I_uI, if_pos ⟨rfl, rfl⟩]; rfl
  have v53 : sI V 180 53 = sI S 180 53 := by rw [← hV, I_uI, if_neg (by omega), I_uI, if_neg (by omega), I_uI, if_neg (by omega), show sI (uR (uI S 180 0 0) 207 5 0) = sI (uI S 180 0 0) from rfl, I_uI, if_neg (by omega)]
  have vR : ∀ b i, ¬ (b = 207 ∧ i = 5) → sR V b i = sR S b i := by
    intro b i hb
    rw [← hV]
    show sR (uR (uI S 180 0 0) 207 5 0) b i = _
    rw [R_uR, if_neg hb]; rfl
  have v5 : sR V 207 5 = N 0 := by
    rw [← hV]
    show sR (uR (uI S 180 0 0) 207 5 0) 207 5 = _
    rw [R_uR, if_pos ⟨rfl, rfl⟩]; rfl
  have vF : fr lB S V := by
    rw [← hV]
    exact fr_uI (fr_uI (fr_uI (fr_uR (fr_uI fr_rf (by simp)) (by simp)) (by simp)) (by simp)) (by simp)
  have vL : ∀ i, sL V 183 i = sL S 183 i := by intro i; rw [← hV]; rfl
  clear hV
  have vd : ∀ j D, j < 5 → dM S j D → dM V j D := by
    rintro j D hj ⟨d1, d2⟩
    refine ⟨by rw [vR _ _ (by omega)]; exact d1, fun i hi => ?_⟩
    rw [vR _ _ (by omega), vR _ _ (by omega), vR _ _ (by omega)]
    exact d2 i hi
  refine wp_mono (mNext (S := V) (T := T) (p := 0) hT (by omega) ⟨v3, fun i hi => by rw [vR _ _ (by omega)]; exact h2 i hi⟩ v4) ?_
  rintro U ⟨u1, u2⟩
  rw [wp_some]
  have n1 : ∀ b, b ≠ 180 → b ∉ [180] := by intro b hb; simp only [List.mem_cons, List.not_mem_nil, or_false]; omega
  have hF : dF V U := ⟨fr_mo u1.1 (by intro b hb; simp only [List.mem_cons, List.not_mem_nil, or_false] at hb ⊢; omega), fun k hk => u1.2.1 k (by omega), fun j _ => by rw [frR u1.1 (n1 207 (by omega))], fun r i a b _ => by rw [frR u1.1 (n1 r (by omega))]⟩
  refine wp_mono (mDyL (S0 := V) (mn := mn) hT hL hk (by rw [vR _ _ (by omega)]; exact h8) (fun i hi => by rw [vL]; exact hn i hi) 41 aD0 (skB T 0) FU U (by dsimp only) (by dsimp only; omega) (skB_le (by omega)) (by unfold FU; omega) hF u2 ⟨by rw [frR u1.1 (n1 207 (by omega))]; exact v5, fun i hi => absurd hi (Nat.not_lt_zero i)⟩) ?_
  rintro ⟨Z, y⟩ ⟨z1, z2, z3, z4, z5, z6, z7⟩
  exact ⟨fr_tr vF z1, z2.trans v53, z3.trans v1, z4, z5, fun h D hD hd => z6 h D hD (vd 0 D (by omega) hd), fun j D hj hD hd => z7 j D hj hD (vd _ D (by omega) hd)⟩
