/-! the model reads a letter, rain, sounds -/
theorem dbM_le {S : gS} {B : aB} {nm : List Nat} {s : Int32} (h : dbM S B) (hn : sJ S 180 37 = LN (e27 nm)) (h6 : fL (bdF B) < 6) : dbM (uR (uL (uR S 190 (6 + fL (bdF B)) s) 184 (6 + fL (bdF B)) (sJ S 180 37)) 182 4 (N (fL (bdF B) + 1))) (leB B nm s) := by
  obtain ⟨a1, a2, a3, a4, a5, a6, ⟨a7, a8, a9, a10⟩, a11, a12⟩ := h
  have e : ∀ r j, r ≠ 190 → ¬ (r = 182 ∧ j = 4) → sR (uR (uL (uR S 190 (6 + fL (bdF B)) s) 184 (6 + fL (bdF B)) (sJ S 180 37)) 182 4 (N (fL (bdF B) + 1))) r j = sR S r j := by
    intro r j hr hj
    rw [R_uR, if_neg hj, R_uL, R_uR, if_neg (by omega)]
  have e2 : ∀ r, r ≠ 190 → r ≠ 182 → sR (uR (uL (uR S 190 (6 + fL (bdF B)) s) 184 (6 + fL (bdF B)) (sJ S 180 37)) 182 4 (N (fL (bdF B) + 1))) r = sR S r := by
    intro r hr hj
    funext j; exact e r j hr (by omega)
  refine ⟨(e 182 3 (by omega) (by omega)).trans a1, R_self, (e 182 5 (by omega) (by omega)).trans a3, fun i hi => ?_, fun i hi => ?_, fun i hi => ?_, ⟨?_, ?_, a9, ?_⟩, fun i hi => ?_, fun i hi => ?_⟩
  · rw [e2 185 (by omega) (by omega), e2 186 (by omega) (by omega), e2 187 (by omega) (by omega), e2 188 (by omega) (by omega), e2 189 (by omega) (by omega)]; exact a4 i hi
  · have hi' : i < fL (bdF B) + 1 := hi
    show _ = up (fM (bdF B)) (fL (bdF B)) s i
    unfold up
    rw [R_uR, if_neg (by omega), R_uL, R_uR]
    by_cases c : i = fL (bdF B)
    · rw [if_pos ⟨rfl, by rw [c]⟩, if_pos c]
    · rw [if_neg (fun z => c (by have := z.2; omega)), if_neg c]; exact a5 i (by omega)
  · rw [e2 191 (by omega) (by omega)]; exact a6 i hi
  · rw [e2 192 (by omega) (by omega)]; exact a7
  · rw [e2 193 (by omega) (by omega)]; exact a8
  · rw [e2 194 (by omega) (by omega)]; exact a10
  · show sL (uL (uR S 190 (6 + fL (bdF B)) s) 184 (6 + fL (bdF B)) (sJ S 180 37)) 183 (7 + i) = _
    rw [L_uL, if_neg (by omega)]; exact a11 i hi
  · have hi' : i < fL (bdF B) + 1 := hi
    show sL (uL (uR S 190 (6 + fL (bdF B)) s) 184 (6 + fL (bdF B)) (sJ S 180 37)) 184 (6 + i) = LN (e27 (upl (bdL B) (fL (bdF B)) nm i))
    unfold upl
    rw [L_uL]
    by_cases c : i = fL (bdF B)
    · rw [if_pos ⟨rfl, by rw [c]⟩, if_pos c]; exact hn
    · rw [if_neg (fun z => c (by have := z.2; omega)), if_neg c]; exact a12 i (by omega)
/-- the letter's end: no other has the set -/
theorem mLe117 {S0 S : gS} {T : aTp} {q : Nat} {B : aB} {nm : List Nat} {s : Int32} (hT : okT T) (k : okB B) (hB : dbM S B) (hS : mFr S0 S) (hq : q ≤ T.1) (htk : tkM S T (tokAt T q)) (hn : sJ S 180 37 = LN (e27 nm)) (h6 : fL (bdF B) < 6) : ∀ m i kk, i + m = fL (bdF B) → m + 1 ≤ kk → wp (fX12_readsLetter kk 117 S (N (6 + fL (bdF B))) s (N (6 + i))) (mFp S0 T (if ¬ aLet (fM (bdF B)) s m i = -1 then (3 + 16 * q, 0, B) else (0, q, leB B nm s))) := by
  intro m
  induction m with
  | zero =>
    intro i kk hi hk
    obtain ⟨kk, rfl, -⟩ := kS (m := 0) (k := kk) hk
    rw [fX12_readsLetter]
    simp only [if_true]
    rw [if_neg (by decide), if_neg (by decide)]
    simp only [bX12_readsLetter_117]
    rw [if_pos ((leN (by omega) (by omega)).mpr (by omega)), if_pos (vpN (by omega) (by omega)), clN (by omega), wp_lt, wp_lt, wp_lt, show aLet (fM (bdF B)) s 0 i = -1 from rfl, if_neg (fun h => h rfl)]
    have e4 : sR (uL (uR S 190 (6 + fL (bdF B)) s) 184 (6 + fL (bdF B)) (sJ (uR S 190 (6 + fL (bdF B)) s) 180 37)) 182 4 = N (fL (bdF B)) := by
      show sR (uR S 190 (6 + fL (bdF B)) s) 182 4 = _
      rw [R_uR, if_neg (by omega)]; exact hB.2.1
    rw [e4, show N (fL (bdF B)) + (1 : Int32) = N (fL (bdF B) + 1) from addN1]
    have hM := dbM_le (s := s) hB hn h6
    refine mClo hT ?_ hM hq ?_
    · exact mFr_R (mFr_L (mFr_R hS (by decide) (by show 6 ≤ 6 + fL (bdF B); omega)) (by decide) (by show 6 ≤ 6 + fL (bdF B); omega)) (by decide) (by decide)
    · exact tkM_i htk (fun _ _ _ => rfl) (by funext j; rw [R_uR, if_neg (by omega), R_uL, R_uR, if_neg (by omega)]) rfl
  | succ m ih =>
    intro i kk hi hk
    obtain ⟨kk, rfl, hk⟩ := kS (k := kk) (m := m + 1) hk
    rw [fX12_readsLetter]
    simp only [if_true]
    rw [if_neg (by decide), if_neg (by decide)]
    simp only [bX12_readsLetter_117]
    rw [if_neg (fun h => absurd ((leN (by omega) (by omega)).mp h) (by omega)), if_pos (vpN (by omega) (by omega)), clN (by omega), hB.2.2.2.2.1 i (by omega), aLet]
    by_cases c : fM (bdF B) i = s
    · rw [if_pos c, if_pos c, if_pos (show ¬ N i = -1 from N_ne_m1 (by omega))]
      exact mFl1 (c := 3) (by omega) hS hq htk
    · rw [if_neg c, if_neg c, addN1, Nat.add_assoc]
      exact ih (i + 1) kk (by omega) (by omega)
theorem mSet' {S0 S1 : gS} {T : aTp} {B : aB} {nm : List Nat} (hT : okT T) (k : okB B) (hB : dbM S1 B) (hS1 : mFr S0 S1) (hn : sJ S1 180 37 = LN (e27 nm)) (h6 : fL (bdF B) < 6) : ∀ m s q kk S, q ≤ T.1 → m + cnB s (fN (bdF B)) = 9 → 2 * m + 10 ≤ kk → kM2 S1 S → tkM S T (tokAt T q) → wp (fX12_readsLetter kk 57 S (N (6 + fL (bdF B))) s 0) (mFp S0 T (if ¬ (aSt T (bdM B) (fN (bdF B)) m s q).1 = 0 then ((aSt T (bdM B) (fN (bdF B)) m s q).1, 0, B) else if ¬ aLet (fM (bdF B)) (aSt T (bdM B) (fN (bdF B)) m s q).2.2 (fL (bdF B)) 0 = -1 then (3 + 16 * (aSt T (bdM B) (fN (bdF B)) m s q).2.1, 0, B) else (0, (aSt T (bdM B) (fN (bdF B)) m s q).2.1, leB B nm (aSt T (bdM B) (fN (bdF B)) m s q).2.2))) := by
  have h1000 := hT.1
  have hL := k.1.1
  intro m
  induction m with
  | zero => intro s q kk S hq hm; have := cnB_le (s := s) (fN (bdF B)); omega
  | succ m ih =>
    intro s q kk S hq hm hk hS htk
    obtain ⟨kk, rfl, hk⟩ := kS (k := kk) (m := 2 * m + 11) (by omega)
    obtain ⟨kk, rfl, hk⟩ := kS (k := kk) (m := 2 * m + 10) (by omega)
    have sB := dbM_m2 hB hS
    have sF := mFr_m2 hS1 hS
    have f70 : ¬ (¬ s = 0 ∧ isS T q 59 = true) → wp (fX12_readsLetter (kk + 1) 70 S (N (6 + fL (bdF B))) s 0) (mFp S0 T (if ¬ (aSt T (bdM B) (fN (bdF B)) (m + 1) s q).1 = 0 then ((aSt T (bdM B) (fN (bdF B)) (m + 1) s q).1, 0, B) else if ¬ aLet (fM (bdF B)) (aSt T (bdM B) (fN (bdF B)) (m + 1) s q).2.2 (fL (bdF B)) 0 = -1 then (3 + 16 * (aSt T (bdM B) (fN (bdF B)) (m + 1) s q).2.1, 0, B) else (0, (aSt T (bdM B) (fN (bdF B)) (m + 1) s q).2.1, leB B nm (aSt T (bdM B) (fN (bdF B)) (m + 1) s q).2.2))) := by
      intro hns
      obtain ⟨a1, a2⟩ := aMe_ok (mn := bdM B) (L := fN (bdF B)) hT hq
      rw [aSt, if_neg hns, fX12_readsLetter]
      simp only [if_true]
      rw [if_neg (by decide)]
      simp only [bX12_readsLetter_70]
      rw [wp_b2]
      refine wp_mono (mMouH hT hL k.2.1.1 sB.1 sB.2.2.2.2.2.2.2.1 hq htk) ?_
      rintro ⟨V, x⟩ ⟨v1, v2, v3⟩
      dsimp only at v1 v2 v3 ⊢
      have vS := m2_tr hS v1
      have vF := mFr_m2 hS1 vS
      by_cases cA : (aMe T (bdM B) (fN (bdF B)) q).1 = 0
      case neg =>
        obtain ⟨e1, e2⟩ := v3 cA
        rw [if_pos cA, if_pos (show ¬ (aMe T (bdM B) (fN (bdF B)) q).1 = 0 from cA), e1, if_neg Bool.false_ne_true, wp_some]
        exact mFp_f vF cA e2
      obtain ⟨e1, e2, e3⟩ := v2 cA
      obtain ⟨a3, a4⟩ := a2 cA
      rw [if_neg (show ¬ ¬ (aMe T (bdM B) (fN (bdF B)) q).1 = 0 from fun h => h cA), e1, if_pos rfl, e3]
      cases ch : aHas s (aMe T (bdM B) (fN (bdF B)) q).2 with
      | true =>
        rw [if_pos ((has_1 (by omega)).mpr ch), if_pos (show true = true from rfl), if_pos (show ¬ 3 + 16 * q = 0 by omega)]
        exact mFl1 (c := 3) (by omega) vF hq e2
      | false =>
        rw [if_neg (show ¬ (s >>> (N (aMe T (bdM B) (fN (bdF B)) q).2 &&& 31)) &&& (1 : Int32) = 1 from fun h => by rw [(has_1 (by omega)).mp h] at ch; exact Bool.false_ne_true ch.symm), if_neg Bool.false_ne_true, wp_b1]
        refine wp_mono (mNxN hT hq e2) ?_
        rintro U ⟨u1, u2⟩
        have ec : cnB (s ||| aBit (aMe T (bdM B) (fN (bdF B)) q).2) (fN (bdF B)) = cnB s (fN (bdF B)) + 1 := by rw [cnB_or (by omega) ch _ (by omega), if_pos a3]
        exact ih (s ||| aBit (aMe T (bdM B) (fN (bdF B)) q).2) (nx T q) kk U (nx_le hq) (by omega) (by omega) (m2_k vS u1) u2
    rw [fX12_readsLetter]
    simp only [if_true, bX12_readsLetter_57]
    by_cases s0 : s = 0
    · rw [if_pos s0]
      exact f70 (fun h => h.1 s0)
    · rw [if_neg s0, show FX12_isSign S (59 : Int32) = some (S, isS T q 59) from mSgn (c := 59) hT hq htk (by omega), wp_b2, wp_some]
      dsimp only
      cases h59 : isS T q 59 with
      | true =>
        rw [if_pos rfl, aSt, if_pos (show ¬ s = 0 ∧ isS T q 59 = true from ⟨s0, h59⟩)]
        dsimp only
        rw [if_neg (show ¬ ¬ 0 = 0 by omega)]
        have hn' : sJ S 180 37 = LN (e27 nm) := by rw [hS.2.2 180 37 (by omega)]; exact hn
        have h6' := k.1.2.1
        exact mLe117 hT k sB sF hq htk hn' h6 (fL (bdF B)) 0 (kk + 1) (by omega) (by omega)
      | false =>
        rw [if_neg Bool.false_ne_true]
        exact f70 (fun h => by rw [h59] at h; exact Bool.false_ne_true h.2)
theorem mLett {S : gS} {T : aTp} {q : Nat} {B : aB} (hT : okT T) (k : okB B) (hB : dbM S B) (hq : q ≤ T.1) (htk : tkM S T (tokAt T q)) : wp (FX12_readsLetter S) (mFp S T (lnL T B q)) := by
  have h1000 := hT.1
  have q1 := nx_le hq
  have q2 := nx_le q1
  have q3 := nx_le q2
  have hL := k.1.1
  have hL6 := k.1.2.1
  unfold FX12_readsLetter lnL
  rw [hB.2.1, show (6 : Int32) + N (fL (bdF B)) = N (6 + fL (bdF B)) from addN (a := 6)]
  by_cases c6 : fL (bdF B) = 6
  · rw [if_pos c6, if_pos (show N (6 + fL (bdF B)) = (12 : Int32) by rw [c6]; rfl)]
    exact mFl1 (c := 5) (by omega) mFr_rf hq htk
  rw [if_neg c6, if_neg (show ¬ N (6 + fL (bdF B)) = (12 : Int32) from fun e => c6 (by have := (eqN (b := 12) (by omega) (by omega)).mp e; omega)), wp_b1]
  refine wp_mono (mNxN hT hq htk) ?_
  rintro U ⟨u1, u2⟩
  have uB := dbM_m1 hB u1
  have uF : mFr S U := mFr_k mFr_rf u1
  rw [wp_b2]
  refine wp_mono (mNew hT hL hL6 k.2.1.1 k.2.1.2 uB.1 uB.2.1 uB.2.2.2.2.2.2.2.1 uB.2.2.2.2.2.2.2.2 q1 u2) ?_
  rintro ⟨V, b⟩ ⟨v1, v1', v2, v3⟩
  dsimp only at v1 v1' v2 v3 ⊢
  have vF : mFr S V := mFr_tr uF (mFr_2 v1 (fun k hk => v1' k (by omega)))
  have vB : dbM V B := dbM_1 uB v1 (v1' 23 (by omega))
  by_cases cN : aNw T (bdM B) (bdL B) (fN (bdF B)) (fL (bdF B)) (nx T q) = 0
  case neg =>
    obtain ⟨e1, e2⟩ := v3 cN
    rw [if_pos cN, e1, if_neg Bool.false_ne_true, wp_some]
    exact mFp_f vF cN e2
  obtain ⟨e1, e2, e3⟩ := v2 cN
  have e3 : tkM V T (tokAt T (nx T (nx T q))) := e3
  rw [if_neg (show ¬ ¬ aNw T (bdM B) (bdL B) (fN (bdF B)) (fL (bdF B)) (nx T q) = 0 from fun h => h cN), e1, if_pos rfl, mIsWord q2 e3 txt31 gw31, wp_b2, wp_some]
  dsimp only
  cases h31 : tkW (tokAt T (nx T (nx T q))) 31 with
  | false =>
    rw [if_neg Bool.false_ne_true, if_pos rfl]
    exact mFl1 (c := 1) (by omega) vF q2 e3
  | true =>
    rw [if_pos rfl, if_neg (show ¬ true = false by decide), wp_b1]
    refine wp_mono (mNxN hT q2 e3) ?_
    rintro W ⟨w1, w2⟩
    exact mSet' (S1 := W) hT k (dbM_m1 vB w1) (mFr_k vF w1) (by rw [w1.2.2 180 37 (by omega)]; exact e2) (by omega) 9 0 (nx T (nx T (nx T q))) FU W q3 (by rw [cnB_0 _ (by omega)]) (by unfold FU; omega) m2_rf w2
/-! rain -/
theorem dbM_ra {S : gS} {n : Nat} {P : Nat → Int32} {B : aB} {x : Int32} (h : dbM S (raB B n P)) (hn : n < 12) : dbM (uR (uR S 191 (12 + n) x) 182 5 (N (n + 1))) (raB B (n + 1) (up P n x)) := by
  obtain ⟨a1, a2, a3, a4, a5, a6, ⟨a7, a8, a9, a10⟩, a11, a12⟩ := h
  have e : ∀ r j, r ≠ 191 → ¬ (r = 182 ∧ j = 5) → sR (uR (uR S 191 (12 + n) x) 182 5 (N (n + 1))) r j = sR S r j := by
    intro r j hr hj
    rw [R_uR, if_neg hj, R_uR, if_neg (by omega)]
  have e2 : ∀ r, r ≠ 191 → r ≠ 182 → sR (uR (uR S 191 (12 + n) x) 182 5 (N (n + 1))) r = sR S r := by
    intro r hr hj
    funext j; exact e r j hr (by omega)
  refine ⟨(e 182 3 (by omega) (by omega)).trans a1, (e 182 4 (by omega) (by omega)).trans a2, R_self, fun i hi => ?_, fun i hi => ?_, fun i hi => ?_, ⟨?_, ?_, a9, ?_⟩, a11, a12⟩
  · rw [e2 185 (by omega) (by omega), e2 186 (by omega) (by omega), e2 187 (by omega) (by omega), e2 188 (by omega) (by omega), e2 189 (by omega) (by omega)]; exact a4 i hi
  · rw [e2 190 (by omega) (by omega)]; exact a5 i hi
  · have hi' : i < n + 1 := hi
    show _ = up P n x i
    unfold up
    rw [R_uR, if_neg (by omega), R_uR]
    by_cases c : i = n
    · rw [if_pos ⟨rfl, by rw [c]⟩, if_pos c]
    · rw [if_neg (fun z => c (by have := z.2; omega)), if_neg c]
      exact a6 i (show i < n by omega)
  · rw [e2 192 (by omega) (by omega)]; exact a7
  · rw [e2 193 (by omega) (by omega)]; exact a8
  · rw [e2 194 (by omega) (by omega)]; exact a10
theorem mRnL {S0 : gS} {T : aTp} {B : aB} (hT : okT T) : ∀ m n P q kk S, q ≤ T.1 → m + n = 13 → n ≤ 12 → 2 * m + 2 ≤ kk → mFr S0 S → dbM S (raB B n P) → tkM S T (tokAt T q) → wp (fX12_readsRain kk 19 S) (mFp S0 T (if ¬ (aRn T m n P q).1 = 0 then ((aRn T m n P q).1, 0, B) else (0, (aRn T m n P q).2.1, raB B (aRn T m n P q).2.2.1 (aRn T m n P q).2.2.2))) := by
  have h1000 := hT.1
  intro m
  induction m with
  | zero => intro n P q kk S hq hm; omega
  | succ m ih =>
    intro n P q kk S hq hm hn hk hS hB htk
    obtain ⟨kk, rfl, hk⟩ := kS (k := kk) (m := 2 * m + 3) (by omega)
    obtain ⟨kk, rfl, hk⟩ := kS (k := kk) (m := 2 * m + 2) (by omega)
    have h4 := (tokAt_e hq).2.2.2.2.2
    have h5 : sR S 182 5 = N n := hB.2.2.1
    have kz : (N (mkk (tokAt T q).1) = (2 : Int32)) ↔ (tokAt T q).1 = 3 := mk1 _ (by omega) 3 (by omega)
    have f36 : (tokAt T q).1 = 3 ∨ n = 0 → wp (fX12_readsRain (kk + 1) 36 S) (mFp S0 T (if ¬ (aRn T (m + 1) n P q).1 = 0 then ((aRn T (m + 1) n P q).1, 0, B) else (0, (aRn T (m + 1) n P q).2.1, raB B (aRn T (m + 1) n P q).2.2.1 (aRn T (m + 1) n P q).2.2.2))) := by
      intro hor
      rw [fX12_readsRain]
      simp only [if_true]
      rw [if_neg (by decide)]
      simp only [bX12_readsRain_36]
      rw [htk.2.2.1, aRn]
      by_cases k3 : (tokAt T q).1 = 3
      · have nub := tkN_b k3
        have nosig : ¬ (¬ n = 0 ∧ isS T q 59 = true) := fun h => by have := (isS_k h.2).1; omega
        rw [if_pos (kz.mpr k3), htk.2.2.2.2.2.2 k3, h5]
        by_cases c9 : 9 < (tokAt T q).2.2.2.2
        · rw [if_neg (show ¬ N (tokAt T q).2.2.2.2 ≤ (9 : Int32) from fun h => absurd ((leN (b := 9) nub (by omega)).mp h) (by omega))]
          have e : (if n = 12 then (if (tokAt T q).1 = 3 then (if 9 < (tokAt T q).2.2.2.2 then ((4 + 16 * q, 0, n, P) : Nat × Nat × Nat × (Nat → Int32)) else (5 + 16 * q, 0, n, P)) else (0, q, n, P)) else if ¬ n = 0 ∧ isS T q 59 = true then (0, q, n, P) else if ¬ (tokAt T q).1 = 3 then (1 + 16 * q, 0, n, P) else if 9 < (tokAt T q).2.2.2.2 then (4 + 16 * q, 0, n, P) else aRn T m (n + 1) (up P n (N (tokAt T q).2.2.2.2)) (nx T q)) = (4 + 16 * q, 0, n, P) := by
            by_cases c12 : n = 12
            · rw [if_pos c12, if_pos k3, if_pos c9]
            · rw [if_neg c12, if_neg nosig, if_neg (fun h => h k3), if_pos c9]
          rw [e]
          dsimp only
          rw [if_pos (show ¬ 4 + 16 * q = 0 by omega)]
          exact mFl1 (c := 4) (by omega) hS hq htk
        · rw [if_pos (show N (tokAt T q).2.2.2.2 ≤ (9 : Int32) from (leN (b := 9) nub (by omega)).mpr (by omega))]
          by_cases c12 : n = 12
          · rw [if_pos c12, if_pos k3, if_neg c9, if_pos (show N n = (12 : Int32) by rw [c12]; rfl)]
            dsimp only
            rw [if_pos (show ¬ 5 + 16 * q = 0 by omega)]
            exact mFl1 (c := 5) (by omega) hS hq htk
          · rw [if_neg c12, if_neg nosig, if_neg (show ¬ ¬ (tokAt T q).1 = 3 from fun h => h k3), if_neg c9, if_neg (show ¬ N n = (12 : Int32) from fun h => c12 ((eqN (b := 12) (by omega) (by omega)).mp h)), show (12 : Int32) + N n = N (12 + n) from addN (a := 12), if_pos (vpN (by omega) (by omega)), clN (by omega), wp_lt]
            have e5 : sR (uR S 191 (12 + n) (N (tokAt T q).2.2.2.2)) 182 5 = N n := by rw [R_uR, if_neg (by omega)]; exact h5
            rw [e5, show N n + (1 : Int32) = N (n + 1) from addN1, wp_lt, wp_b1]
            have vB := dbM_ra (x := N (tokAt T q).2.2.2.2) hB (by omega)
            have vF : mFr S0 (uR (uR S 191 (12 + n) (N (tokAt T q).2.2.2.2)) 182 5 (N (n + 1))) := mFr_R (mFr_R hS (by decide) (by show 12 ≤ 12 + n; omega)) (by decide) (by decide)
            refine wp_mono (mNxN hT hq (tkM_R (tkM_R htk (by omega)) (by omega))) ?_
            rintro U ⟨u1, u2⟩
            exact ih (n + 1) _ (nx T q) kk U (nx_le hq) (by omega) (by omega) (by omega) (mFr_k vF u1) (dbM_m1 vB u1) u2
      · have n0 := hor.resolve_left k3
        rw [if_neg (fun h => k3 (kz.mp h)), if_neg (show ¬ n = 12 by omega), if_neg (show ¬ (¬ n = 0 ∧ isS T q 59 = true) from fun h => h.1 n0), if_pos (show ¬ (tokAt T q).1 = 3 from k3)]
        dsimp only
        rw [if_pos (show ¬ 1 + 16 * q = 0 by omega)]
        exact mFl1 (c := 1) (by omega) hS hq htk
    rw [fX12_readsRain]
    simp only [if_true, bX12_readsRain_19]
    rw [h5]
    by_cases c0 : n = 0
    · rw [if_pos (show N n = (0 : Int32) by rw [c0]; rfl)]
      exact f36 (Or.inr c0)
    rw [if_neg (fun h => c0 ((eq0N (by omega)).mp h)), htk.2.2.1]
    by_cases k3 : (tokAt T q).1 = 3
    · rw [if_pos (kz.mpr k3)]
      exact f36 (Or.inl k3)
    rw [if_neg (fun h => k3 (kz.mp h)), aRn]
    by_cases c12 : n = 12
    · rw [if_pos c12, if_neg k3]
      dsimp only
      rw [if_neg (show ¬ ¬ 0 = 0 by omega)]
      exact mClo hT hS hB hq htk
    rw [if_neg c12]
    by_cases hs : isS T q 59 = true
    · rw [if_pos (show ¬ n = 0 ∧ isS T q 59 = true from ⟨c0, hs⟩)]
      dsimp only
      rw [if_neg (show ¬ ¬ 0 = 0 by omega)]
      exact mClo hT hS hB hq htk
    · rw [if_neg (show ¬ (¬ n = 0 ∧ isS T q 59 = true) from fun h => hs h.2), if_pos (show ¬ (tokAt T q).1 = 3 from k3)]
      dsimp only
      rw [if_pos (show ¬ 1 + 16 * q = 0 by omega)]
      have hs' : isSe T q = false := by
        cases z : isSe T q with
        | false => rfl
        | true => exact absurd z hs
      unfold FX12_closes
      rw [mSemi hT hq htk, hs', wp_b2, wp_b2, wp_some]
      dsimp only
      rw [if_neg Bool.false_ne_true]
      refine wp_mono (mFl1 (B := B) (z := 0) (c := 1) (by omega) hS hq htk) ?_
      intro r hr
      rw [wp_some]; exact hr
theorem mRai {S : gS} {T : aTp} {q : Nat} {B : aB} (hT : okT T) (k : okB B) (hB : dbM S B) (hq : q ≤ T.1) (htk : tkM S T (tokAt T q)) : wp (FX12_readsRain S) (mFp S T (lnR T B q)) := by
  have h1000 := hT.1
  have h12 := k.1.2.2.1
  unfold FX12_readsRain lnR
  rw [hB.2.2.1]
  by_cases c : fC (bdF B) = 0
  · rw [if_neg (show ¬ ¬ fC (bdF B) = 0 from fun h => h c), if_pos ((le0N (by omega)).mpr c), wp_b1]
    refine wp_mono (mNxN hT hq htk) ?_
    rintro U ⟨u1, u2⟩
    have uB := dbM_m1 hB u1
    have uB' : dbM U (raB B 0 (fP (bdF B))) := by
      obtain ⟨a1, a2, a3, a4, a5, a6, a7⟩ := uB
      exact ⟨a1, a2, by rw [a3, c]; rfl, a4, a5, fun i hi => absurd hi (Nat.not_lt_zero i), a7⟩
    exact mRnL hT 13 0 (fP (bdF B)) (nx T q) FU U (nx_le hq) (by omega) (by omega) (by unfold FU; omega) (mFr_k mFr_rf u1) uB' u2
  · rw [if_pos c, if_neg (fun h => c ((le0N (by omega)).mp h))]
    exact mFl1 (c := 3) (by omega) mFr_rf hq htk
