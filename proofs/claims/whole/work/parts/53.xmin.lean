/-! a minute of x -/
def rV (S : gS) (w : Nat) (v : aV) : Prop := (∀ i, i < 7 → sR S (w + 1) i = v.1 i) ∧ (∀ i, i < 7 → sR S (w + 2) i = v.2.1 i) ∧ sI S w 6 = v.2.2.1 ∧ sI S w 7 = v.2.2.2
/-- the other fields of a wall stay -/
def kI (S S' : gS) (w : Nat) : Prop := ∀ k, k ≠ 6 → k ≠ 7 → sI S' w k = sI S w k
theorem xStopped {S : gS} {w m : Nat} {Q : gS × Bool → Prop} (h : Q (S, aHas (sI S w 1) m)) : wp (FX9_isStopped S w (N m)) Q := by
  unfold FX9_isStopped
  by_cases hc : ((sI S w 1) >>> (N m &&& 31)) &&& (1 : Int32) = 0
  · rw [if_pos hc, wp_some]
    have : aHas (sI S w 1) m = false := by unfold aHas; exact decide_eq_false (fun h => h hc)
    rw [this] at h; exact h
  · rw [if_neg hc, wp_some]
    have : aHas (sI S w 1) m = true := by unfold aHas; exact decide_eq_true hc
    rw [this] at h; exact h
theorem xRun {S : gS} {w f m : Nat} {F : aF} {v : aV} (hF : fX S f F) (ok : okF F) (hm : m < fN F) (hw : w = 49 ∨ w = 53) (hv : rV S w v) :
    wp (FX9_runOver S w f (N m)) (fun S' => fr [w, w + 1, w + 2] S S' ∧ kI S S' w ∧ rV S' w (aOver F m v)) := by
  obtain ⟨hf, hn, hrows, -⟩ := hF
  obtain ⟨ho, hg⟩ : sR S (f + 5) m = fO F m ∧ sR S (f + 6) m = fG F m := ⟨(hrows m hm).2.2.2.1, (hrows m hm).2.2.2.2.1⟩
  have hn7 : fN F ≤ 7 := ok.1
  have hgg := ok.2.2.2.2.1 m hm
  obtain ⟨h1, h2, h3, h4⟩ := hv
  have hw1 := h1 m (by omega)
  have hwf : ∀ j, j ≤ 13 → w ≠ f + j ∧ w + 1 ≠ f + j ∧ w + 2 ≠ f + j := by intro j hj; omega
  unfold FX9_runOver
  rw [clN (by omega), wp_ifs]
  refine ⟨vpN (by omega) (by omega), ?_⟩
  rw [hw1, ho]
  by_cases hc : 0 < v.1 m - fO F m
  · rw [if_pos hc, wp_lt, wp_lt]
    have e1 : sR (uI (uR S (w + 1) m (v.1 m - (v.1 m - fO F m))) w 6 (sI (uR S (w + 1) m (v.1 m - (v.1 m - fO F m))) w 6 ||| 1 <<< (N m &&& 31))) (f + 6) m = fG F m := by
      rw [R_uI, R_uR, if_neg (fun c => absurd c.1 (Ne.symm (hwf 6 (by omega)).2.1)), hg]
    rw [e1]
    by_cases hg1 : fG F m = -1
    · rw [if_pos hg1, wp_lt, wp_some]
      refine ⟨fr_uI (fr_uI (fr_uR fr_rf (by simp)) (by simp)) (by simp), ?_, ?_⟩
      · intro k hk6 hk7
        simp [I_uI, I_uR, hk6, hk7]
      · rw [aOver_a hc hg1]
        refine ⟨fun i hi => ?_, fun i hi => ?_, ?_, ?_⟩
        · simp only [R_uI, R_uR, up, true_and]
          split
          · rfl
          · exact h1 i hi
        · simp only [R_uI, R_uR]
          rw [if_neg (by omega)]
          exact h2 i hi
        · simp only [I_uI, I_uR, h3, aBit]
          simp
        · simp only [I_uI, I_uR, h4]
          simp
    · rcases hgg with hgg | ⟨g, hg1', hg2, hg3⟩
      · exact absurd hgg hg1
      · rw [if_neg hg1, wp_ifs]
        rw [hg2, clN (by omega)]
        refine ⟨vpN (by omega) (by omega), ?_⟩
        rw [wp_lt, wp_some]
        refine ⟨fr_uR (fr_uI (fr_uR fr_rf (by simp)) (by simp)) (by simp), ?_, ?_⟩
        · intro k hk6 hk7
          simp [I_uI, I_uR, hk6]
        · rw [aOver_b hc (by omega) hg2]
          refine ⟨fun i hi => ?_, fun i hi => ?_, ?_, ?_⟩
          · simp only [R_uI, R_uR, up, true_and]
            by_cases hig : i = g
            · rw [if_pos hig, if_pos hig]
              by_cases hgm : g = m
              · rw [if_pos hgm, if_pos hgm]
              · rw [if_neg hgm, if_neg hgm, h1 g (by omega)]
            · rw [if_neg hig, if_neg hig]
              by_cases him : i = m
              · rw [if_pos him, if_pos him]
              · rw [if_neg him, if_neg him]; exact h1 i hi
          · simp only [R_uI, R_uR]
            rw [if_neg (by omega), if_neg (by omega)]
            exact h2 i hi
          · simp only [I_uI, I_uR, h3, aBit]
            simp
          · simp only [I_uI, I_uR, h4]
            simp
  · rw [if_neg hc, wp_some]
    rw [aOver_c hc]
    exact ⟨fr_rf, fun k _ _ => rfl, h1, h2, h3, h4⟩
theorem xSpout {S : gS} {w f m : Nat} {F : aF} {v : aV} (hF : fX S f F) (ok : okF F) (hm : m < fN F) (hw : w = 49 ∨ w = 53) (hv : rV S w v) :
    wp (FX9_spout S w f (N m)) (fun S' => fr [w, w + 1, w + 2] S S' ∧ kI S S' w ∧ rV S' w (aSpout F (sI S w 1) m v)) := by
  obtain ⟨hf, hn, hrows, -⟩ := hF
  have hk : sR S (f + 2) m = fK F m := (hrows m hm).1
  have hn7 : fN F ≤ 7 := ok.1
  obtain ⟨h1, h2, h3, h4⟩ := hv
  have hw1 := h1 m (by omega)
  have tail : ∀ S1 x k, 1 ≤ k → fr [w, w + 1, w + 2] S S1 → kI S S1 w → (∀ i, i < 7 → sR S1 (w + 1) i = v.1 i) → (∀ i, i < 7 → sR S1 (w + 2) i = up v.2.1 m x i) → sI S1 w 6 = v.2.2.1 → sI S1 w 7 = v.2.2.2 → x = aOut F (sI S w 1) m v.1 →
      wp (fX9_spout k 32 S1 w (N m)) (fun S' => fr [w, w + 1, w + 2] S S' ∧ kI S S' w ∧ rV S' w (aSpout F (sI S w 1) m v)) := by
    intro S1 x k hk1 q1 q2 q3 q4 q5 q6 q7
    obtain ⟨k, rfl, -⟩ := kS (m := 0) hk1
    rw [fX9_spout]
    simp only [bX9_spout_32, if_true]
    rw [clN (by omega), wp_ifs]
    refine ⟨vpN (by omega) (by omega), ?_⟩
    rw [wp_lt, wp_some]
    refine ⟨fr_uR q1 (by simp), q2, ?_, ?_, q5, q6⟩
    · intro i hi
      simp only [R_uR, aSpout, up, true_and]
      rw [q3 m (by omega), q4 m (by omega), ← q7]
      simp only [up, if_true]
      split
      · rfl
      · exact q3 i hi
    · intro i hi
      simp only [R_uR, aSpout]
      rw [if_neg (by omega), ← q7]
      exact q4 i hi
  unfold FX9_spout
  rw [wp_b2]
  apply xStopped
  simp only [clN (show m < 2147483648 by omega)]
  rw [wp_ite]
  have hv7 : g_vp (N m) 7 = true := vpN (by omega) (by omega)
  obtain ⟨K, hK, hK2⟩ := FU_s
  refine ⟨fun hs => ?_, fun hs => ?_⟩
  · rw [if_pos hv7, wp_lt]
    refine tail _ 0 FU (by unfold FU; omega) (fr_uR fr_rf (by simp)) (fun k _ _ => rfl) ?_ ?_ h3 h4 ?_
    · intro i hi
      rw [R_uR, if_neg (by omega)]; exact h1 i hi
    · intro i hi
      simp only [R_uR, up, true_and]
      split
      · rfl
      · exact h2 i hi
    · simp only [aOut, if_pos hs]
  · rw [if_pos hv7, wp_b2]
    unfold FX1_mostSpouted
    rw [clN (by omega), if_pos hv7, hk]
    have hmost : ∀ Q : gS × Int32 → Prop, Q (S, aMost F m) → wp (if fK F m = (1 : Int32) then some (S, (6 : Int32)) else if fK F m = (2 : Int32) then some (S, (1 : Int32)) else some (S, (3 : Int32))) Q := by
      intro Q hQ
      unfold aMost at hQ
      split <;> rename_i hc
      · rw [if_pos hc] at hQ; rw [wp_some]; exact hQ
      · rw [if_neg hc] at hQ
        split <;> rename_i hc2
        · rw [if_pos hc2] at hQ; rw [wp_some]; exact hQ
        · rw [if_neg hc2] at hQ; rw [wp_some]; exact hQ
    apply hmost
    rw [wp_lt, hw1]
    refine tail _ (if aMost F m < v.1 m then aMost F m else v.1 m) FU (by unfold FU; omega) (fr_uR fr_rf (by simp)) (fun k _ _ => rfl) ?_ ?_ h3 h4 ?_
    · intro i hi
      rw [R_uR, if_neg (by omega)]; exact h1 i hi
    · intro i hi
      simp only [R_uR, up, true_and]
      split
      · rfl
      · exact h2 i hi
    · simp only [aOut, if_neg hs]
theorem lawX_fr {S S' : gS} {f : Nat} {e : Int32 → Int32 → Int32 → Int32 → Int32} (h : lawX S f e) (h1 : sI S' (f + 11) 1 = sI S (f + 11) 1) (h2 : sR S' (f + 12) = sR S (f + 12)) : lawX S' f e :=
  fun S2 q1 q2 => h S2 (q1.trans h1) (q2.trans h2)
theorem fX_fr {L : List Nat} {S S' : gS} {f : Nat} {F : aF} (hF : fX S f F) (h : fr L S S') (hl : ∀ j, j ≤ 12 → f + j ∉ L) : fX S' f F := by
  obtain ⟨a1, a2, a3, a4, a5, a6, a7, a8⟩ := hF
  have e0 : ∀ k, sI S' f k = sI S f k := fun k => frI h (hl 0 (by omega)) k
  have eR : ∀ j, j ≤ 12 → sR S' (f + j) = sR S (f + j) := fun j hj => frR h (hl j hj)
  refine ⟨a1, (e0 0).trans a2, fun i hi => ?_, (e0 8).trans a4, fun i hi => ?_, (e0 11).trans a6, fun i hi => ?_, lawX_fr a8 (frI h (hl 11 (by omega)) 1) (eR 12 (by omega))⟩
  · rw [eR 2 (by omega), eR 3 (by omega), eR 4 (by omega), eR 5 (by omega), eR 6 (by omega), eR 7 (by omega)]
    exact a3 i hi
  · rw [eR 9 (by omega)]; exact a5 i hi
  · rw [eR 10 (by omega)]; exact a7 i hi
theorem xLet {S : gS} {f : Nat} {F : aF} {x : Int32} (hF : fX S f F) (ok : okF F) : ∀ m i k, i + m = fL F → m + 1 ≤ k → fX1_letterOf k 2 S f x (N i) = some (S, aLet (fM F) x m i) := by
  obtain ⟨-, -, -, hl, hm, -⟩ := hF
  have h6 : fL F ≤ 6 := ok.2.1
  intro m
  induction m with
  | zero =>
    intro i k hi hk
    obtain ⟨k, rfl, -⟩ := kS hk
    rw [fX1_letterOf]
    simp only [bX1_letterOf_2, if_true]
    rw [hl, if_pos ((leN (by omega) (by omega)).mpr (by omega))]
    rfl
  | succ m ih =>
    intro i k hi hk
    obtain ⟨k, rfl, hk⟩ := kS hk
    rw [fX1_letterOf]
    simp only [bX1_letterOf_2, if_true]
    rw [hl, if_neg (fun c => absurd ((leN (by omega) (by omega)).mp c) (by omega)), if_pos (vpN (by omega) (by omega)), clN (by omega), hm i (by omega), aLet, addN1, ih (i + 1) k (by omega) (by omega)]
    split <;> rfl
theorem aLet_N {M : Nat → Int32} {x : Int32} : ∀ m i, i + m < 2147483648 → aLet M x m i = -1 ∨ ∃ j, j < i + m ∧ aLet M x m i = N j ∧ M j = x := by
  intro m
  induction m with
  | zero => intro i _; exact Or.inl rfl
  | succ m ih =>
    intro i hi
    rw [aLet]
    split
    · rename_i h
      exact Or.inr ⟨i, by omega, rfl, h⟩
    · rcases ih (i + 1) (by omega) with h | ⟨j, h1, h2, h3⟩
      · exact Or.inl h
      · exact Or.inr ⟨j, by omega, h2, h3⟩
theorem xRead {S : gS} {f : Nat} {F : aF} {x : Int32} (hF : fX S f F) (ok : okF F) : FX1_readOf S f x = some (S, aRead F x) := by
  unfold FX1_readOf FX1_letterOf
  have : fX1_letterOf FU 2 S f x 0 = some (S, aLet (fM F) x (fL F) 0) := xLet (x := x) hF ok (fL F) 0 FU (by omega) (by have := ok.2.1; unfold FU; omega)
  rw [this]
  simp only [g_b2]
  unfold aRead
  split
  · rename_i h1
    split
    · rw [h1]
    · rfl
  · rfl
theorem xRain {S : gS} {f mi : Nat} {F : aF} (hF : fX S f F) (ok : okF F) (hmi : mi < 2147483648) : FX1_rainOf S f (N mi) = some (S, aRain F mi) := by
  obtain ⟨-, -, -, -, -, hc, hp, -⟩ := hF
  have h12 : fC F ≤ 12 := ok.2.2.1
  unfold FX1_rainOf aRain
  rw [hc]
  by_cases h0 : fC F = 0
  · rw [if_pos h0, h0]; rfl
  · rw [if_neg h0, if_neg (fun c => h0 ((le0N (by omega)).mp c)), if_neg (nN_lt0 hmi), if_neg (fun c => h0 ((eq0N (by omega)).mp c)), modN (by omega) (by omega)]
    have hl : mi % fC F < fC F := Nat.mod_lt _ (by omega)
    rw [if_pos (vpN (by omega) (by omega)), clN (by omega), hp _ hl]
theorem xSnd {S : gS} {w f : Nat} {F : aF} {we : Int32} {v : aV} (hF : fX S f F) (ok : okF F) (hw : w = 49 ∨ w = 53) (h1 : ∀ i, i < 7 → sR S (w + 1) i = v.1 i) (h2 : ∀ i, i < 7 → sR S (w + 2) i = v.2.1 i) : ∀ m i k S', i + m = fN F → m + 1 ≤ k → fr [f + 13] S S' →
    wp (fX9_soundingNow k 5 S' w f we (aSnd F we v.1 v.2.1 i) (N i)) (fun q => fr [f + 13] S q.1 ∧ q.2 = aSnd F we v.1 v.2.1 (fN F)) := by
  have h7 : fN F ≤ 7 := ok.1
  have hf := hF.1
  intro m
  induction m with
  | zero =>
    intro i k S' hi hk hS
    have hF' := fX_fr hF hS (by intro j hj; simp; omega)
    obtain ⟨k, rfl, -⟩ := kS hk
    rw [fX9_soundingNow]
    simp only [bX9_soundingNow_5, if_true]
    rw [hF'.2.1, if_pos ((leN (by omega) (by omega)).mpr (by omega)), wp_some]
    have : i = fN F := by omega
    subst this
    exact ⟨hS, rfl⟩
  | succ m ih =>
    intro i k S' hi hk hS
    have hF' := fX_fr hF hS (by intro j hj; simp; omega)
    obtain ⟨k, rfl, hk⟩ := kS hk
    rw [fX9_soundingNow]
    simp only [bX9_soundingNow_5, if_true]
    rw [hF'.2.1, if_neg (fun c => absurd ((leN (by omega) (by omega)).mp c) (by omega)), if_pos (vpN (by omega) (by omega)), clN (by omega), wp_b2]
    rw [frR hS (by simp; omega), frR hS (by simp; omega), h1 i (by omega), h2 i (by omega), (hF'.2.2.1 i (by omega)).2.1]
    refine wp_mono (hF'.2.2.2.2.2.2.2 S' rfl rfl _ _ _ _) ?_
    rintro ⟨S1, x⟩ ⟨q1, q2⟩
    dsimp only at q1 q2 ⊢
    rw [q2, addN1]
    have e : aSnd F we v.1 v.2.1 (i + 1) = if fE F (v.2.1 i) (v.1 i) (fH F i) we = 0 then aSnd F we v.1 v.2.1 i else aSnd F we v.1 v.2.1 i ||| aBit i := rfl
    rw [wp_ite]
    refine ⟨fun c => ?_, fun c => ?_⟩
    · rw [if_pos c] at e
      have := ih (i + 1) k S1 (by omega) (by omega) (fr_tr hS q1)
      rw [e] at this; exact this
    · rw [if_neg c] at e
      have := ih (i + 1) k S1 (by omega) (by omega) (fr_tr hS q1)
      rw [e] at this; exact this
theorem xP12 {S : gS} {w f : Nat} {F : aF} {r : Int32} {wa fl : Nat → Int32} {Q : gS × Int32 → Prop} {K : Nat} (hF : fX S f F) (ok : okF F) (hw : w = 49 ∨ w = 53)
    (hc : ∀ k S', K ≤ k → fr [w, w + 1, w + 2] S S' → kI S S' w → rV S' w (aRise F r wa (fN F), fl, 0, 0) → wp (fX9_passMinute k 45 S' w f r 0) Q) :
    ∀ m i k S', i + m = fN F → K + m + 1 ≤ k → fr [w, w + 1, w + 2] S S' → kI S S' w → rV S' w (aRise F r wa i, fl, 0, 0) → wp (fX9_passMinute k 12 S' w f r (N i)) Q := by
  have h7 : fN F ≤ 7 := ok.1
  have hf := hF.1
  intro m
  induction m with
  | zero =>
    intro i k S' hi hk hS hI hV
    have hF' := fX_fr hF hS (by intro j hj; simp; omega)
    obtain ⟨k, rfl, hk⟩ := kS hk
    rw [fX9_passMinute]
    simp only [bX9_passMinute_12, if_true]
    rw [hF'.2.1, if_pos ((leN (by omega) (by omega)).mpr (by omega))]
    have : i = fN F := by omega
    subst this
    exact hc k S' (by omega) hS hI hV
  | succ m ih =>
    intro i k S' hi hk hS hI hV
    have hF' := fX_fr hF hS (by intro j hj; simp; omega)
    obtain ⟨k, rfl, hk⟩ := kS (m := K + m + 1) (by omega)
    rw [fX9_passMinute]
    simp only [bX9_passMinute_12, if_true]
    rw [hF'.2.1, if_neg (fun c => absurd ((leN (by omega) (by omega)).mp c) (by omega)), if_pos (vpN (by omega) (by omega)), clN (by omega), wp_lt, addN1]
    obtain ⟨v1, v2, v3, v4⟩ := hV
    refine ih (i + 1) k _ (by omega) (by omega) (fr_uR hS (by simp)) (fun k q1 q2 => hI k q1 q2) ⟨fun j hj => ?_, fun j hj => ?_, v3, v4⟩
    · rw [R_uR]
      by_cases hji : j = i
      · subst hji
        rw [if_pos ⟨rfl, rfl⟩, v1 j hj, (hF'.2.2.1 j (by omega)).2.2.1]
        simp only [aRise]
        rw [if_neg (by omega), if_pos (by omega)]
      · rw [if_neg (fun c => hji c.2), v1 j hj]
        simp only [aRise]
        by_cases hlt : j < i
        · rw [if_pos hlt, if_pos (by omega)]
        · rw [if_neg hlt, if_neg (by omega)]
    · rw [R_uR, if_neg (by omega)]; exact v2 j hj
theorem xP45 {S : gS} {w f : Nat} {F : aF} {r : Int32} {v : aV} {Q : gS × Int32 → Prop} (hF : fX S f F) (ok : okF F) (hw : w = 49 ∨ w = 53)
    (hc : ∀ k S', fr [w, w + 1, w + 2] S S' → kI S S' w → rV S' w (aSteps F (sI S w 1) v (fN F)) → wp (bX9_passMinute_45 (fX9_passMinute k) S' w f r (N (fN F))) Q) :
    ∀ m i k S', i + m = fN F → m + 1 ≤ k → fr [w, w + 1, w + 2] S S' → kI S S' w → rV S' w (aSteps F (sI S w 1) v i) → wp (fX9_passMinute k 45 S' w f r (N i)) Q := by
  have h7 : fN F ≤ 7 := ok.1
  have hf := hF.1
  intro m
  induction m with
  | zero =>
    intro i k S' hi hk hS hI hV
    obtain ⟨k, rfl, hk⟩ := kS hk
    rw [fX9_passMinute]
    simp only [if_true]
    rw [if_neg (by decide)]
    have : i = fN F := by omega
    subst this
    exact hc k S' hS hI hV
  | succ m ih =>
    intro i k S' hi hk hS hI hV
    have hF' := fX_fr hF hS (by intro j hj; simp; omega)
    obtain ⟨k, rfl, hk⟩ := kS (m := m + 1) (by omega)
    rw [fX9_passMinute]
    simp only [if_true]
    rw [if_neg (by decide)]
    simp only [bX9_passMinute_45]
    rw [hF'.2.1, if_neg (fun c => absurd ((leN (by omega) (by omega)).mp c) (by omega)), if_pos (vpN (by omega) (by omega)), clN (by omega), wp_b1, (hF'.2.2.1 i (by omega)).2.2.2.2.2]
    refine wp_mono (xRun hF' ok (ok.2.2.2.1 i (by omega)) hw hV) ?_
    rintro S1 ⟨q1, q2, q3⟩
    have hF1 := fX_fr hF' q1 (by intro j hj; simp; omega)
    rw [wp_b1, (hF1.2.2.1 i (by omega)).2.2.2.2.2]
    refine wp_mono (xSpout hF1 ok (ok.2.2.2.1 i (by omega)) hw q3) ?_
    rintro S2 ⟨p1, p2, p3⟩
    rw [addN1]
    have e1 : sI S1 w 1 = sI S w 1 := (q2 1 (by omega) (by omega)).trans (hI 1 (by omega) (by omega))
    rw [e1] at p3
    exact ih (i + 1) k S2 (by omega) (by omega) (fr_tr hS (fr_tr q1 p1)) (fun k a b => (p2 k a b).trans ((q2 k a b).trans (hI k a b))) p3
theorem xPass {S : gS} {w f : Nat} {F : aF} {r : Int32} {A : aW} (hF : fX S f F) (ok : okF F) (hw : w = 49 ∨ w = 53) (hA : rX S w A) (hs : wSz A ≤ 40) :
    wp (FX9_passMinute S w f r) (fun q => fr [w, w + 1, w + 2, w + 3, f + 13] S q.1 ∧ rX q.1 w (aPass F r A) ∧ q.2 = aLast F r A ∧ sI q.1 w 6 = (aEnd F r A).2.2.1 ∧ sI q.1 w 7 = (aEnd F r A).2.2.2) := by
  have h7 : fN F ≤ 7 := ok.1
  have hf := hF.1
  obtain ⟨a1, a2, a3, a4, a5, a6, a7, a8⟩ := hA
  unfold FX9_passMinute
  rw [wp_lt, wp_lt, show (0 : Int32) = N 0 from rfl]
  have hS0 : fr [w, w + 1, w + 2] S (uI (uI S w 6 (N 0)) w 7 (N 0)) := fr_uI (fr_uI fr_rf (by simp)) (by simp)
  have hI0 : kI S (uI (uI S w 6 (N 0)) w 7 (N 0)) w := by
    intro k k6 k7
    simp [I_uI, k6, k7]
  have hV0 : rV (uI (uI S w 6 (N 0)) w 7 (N 0)) w (aRise F r (wWa A) 0, wFl A, 0, 0) := by
    refine ⟨fun i hi => ?_, fun i hi => ?_, ?_, ?_⟩
    · simp only [R_uI, aRise]
      rw [if_neg (by omega), a3 i hi]
    · simp only [R_uI, a4 i hi]
    · simp [I_uI]; rfl
    · simp [I_uI]; rfl
  refine xP12 (K := 100) (fl := wFl A) hF ok hw ?_ (fN F) 0 FU _ (by omega) (by unfold FU; omega) hS0 hI0 hV0
  intro k S1 hk p1 p2 p3
  have hF1 := fX_fr hF p1 (by intro j hj; simp; omega)
  have est : sI S1 w 1 = wSt A := (p2 1 (by omega) (by omega)).trans a2
  rw [show (0 : Int32) = N 0 from rfl]
  refine xP45 (v := (aRise F r (wWa A) (fN F), wFl A, 0, 0)) hF1 ok hw ?_ (fN F) 0 k S1 (by omega) (by omega) fr_rf (fun _ _ _ => rfl) p3
  intro k S2 t1 t2 t3
  rw [est] at t3
  change rV S2 w (aEnd F r A) at t3
  have t1' := fr_tr p1 t1
  have t2' : kI S S2 w := fun k a b => (t2 k a b).trans (p2 k a b)
  have hF2 := fX_fr hF t1' (by intro j hj; simp; omega)
  have m1 : fr [w, w + 1, w + 2, w + 3, f + 13] S S2 := fr_mo t1' (by intro b hb; simp only [List.mem_cons, List.not_mem_nil, or_false] at hb ⊢; omega)
  simp only [bX9_passMinute_45]
  rw [hF2.2.1, if_pos ((leN (by omega) (by omega)).mpr (by omega)), wp_b2]
  unfold FX9_soundingNow
  refine wp_mono (xSnd (we := r) (v := aEnd F r A) hF2 ok hw t3.1 t3.2.1 (fN F) 0 FU S2 (by omega) (by unfold FU; omega) fr_rf) ?_
  rintro ⟨S3, so⟩ ⟨q1, q2⟩
  dsimp only at q1 q2 ⊢
  change so = aSo F r A at q2
  subst q2
  have m2 : fr [w, w + 1, w + 2, w + 3, f + 13] S S3 := fr_tr m1 (fr_mo q1 (by intro b hb; simp only [List.mem_cons, List.not_mem_nil, or_false] at hb ⊢; omega))
  have i3 : ∀ k, k ≠ 6 → k ≠ 7 → sI S3 w k = sI S w k := fun k a b => (frI q1 (by simp; omega) k).trans (t2' k a b)
  have i36 : sI S3 w 6 = (aEnd F r A).2.2.1 := (frI q1 (by simp; omega) 6).trans t3.2.2.1
  have i37 : sI S3 w 7 = (aEnd F r A).2.2.2 := (frI q1 (by simp; omega) 7).trans t3.2.2.2
  have r1 : ∀ i, i < 7 → sR S3 (w + 1) i = (aEnd F r A).1 i := fun i hi => by rw [frR q1 (by simp; omega)]; exact t3.1 i hi
  have r2 : ∀ i, i < 7 → sR S3 (w + 2) i = (aEnd F r A).2.1 i := fun i hi => by rw [frR q1 (by simp; omega)]; exact t3.2.1 i hi
  have r3 : sR S3 (w + 3) = sR S (w + 3) := (frR q1 (by simp; omega)).trans (frR t1' (by simp))
  have z0 : sI S3 w 0 = N (wMi A) := (i3 0 (by omega) (by omega)).trans a1
  have z1 : sI S3 w 1 = wSt A := (i3 1 (by omega) (by omega)).trans a2
  have z9 : sI S3 w 9 = N (wSz A) := (i3 9 (by omega) (by omega)).trans a7
  have eso : sI (uI S3 w 4 (aSo F r A)) w 4 = aSo F r A := by simp [I_uI]
  have m3 : fr [w, w + 1, w + 2, w + 3, f + 13] S (uI S3 w 4 (aSo F r A)) := fr_uI m2 (by simp)
  have hF3 := fX_fr hF m3 (by intro j hj; simp; omega)
  rw [wp_lt, wp_b2, eso, xRead hF3 ok, wp_some]
  dsimp only
  change wp (g_lt (uI (uI S3 w 4 (aSo F r A)) w 5 (aLast F r A)) _) _
  rw [wp_lt]
  have m4 : fr [w, w + 1, w + 2, w + 3, f + 13] S (uI (uI S3 w 4 (aSo F r A)) w 5 (aLast F r A)) := fr_uI m3 (by simp)
  have y5 : sI (uI (uI S3 w 4 (aSo F r A)) w 5 (aLast F r A)) w 5 = aLast F r A := by simp [I_uI]
  have y9 : sI (uI (uI S3 w 4 (aSo F r A)) w 5 (aLast F r A)) w 9 = N (wSz A) := by simp [I_uI, z9]
  have y0 : sI (uI (uI S3 w 4 (aSo F r A)) w 5 (aLast F r A)) w 0 = N (wMi A) := by simp [I_uI, z0]
  rw [y5, y9, y0, addN1, show (40 : Int32) = N 40 from rfl]
  by_cases c1 : aLast F r A = -1
  · rw [if_pos c1, wp_lt, wp_some]
    have c3 : aLast F r A = -1 ∨ 40 ≤ wSz A := Or.inl c1
    refine ⟨fr_uI m4 (by simp), ⟨?_, ?_, ?_, ?_, ?_, ?_, ?_, ?_⟩, ?_, ?_, ?_⟩
    · simp [I_uI, aPass, wMi]
    · simp [I_uI, aPass, wSt, z1] 
    · intro i hi; simp only [R_uI]; rw [r1 i hi]; rfl
    · intro i hi; simp only [R_uI]; rw [r2 i hi]; rfl
    · simp [I_uI, aPass, wSo]
    · simp [I_uI, aPass, wLa]
    · rw [(aPz c3).1]; simp [I_uI, z9]
    · intro i hi; rw [(aPz c3).1] at hi; rw [R_uI, R_uI, R_uI, (aPz c3).2, r3]; exact a8 i hi
    · simp [I_uI]
    · simp [I_uI, i36]
    · simp [I_uI, i37]
  · rw [if_neg c1]
    by_cases c2 : 40 ≤ wSz A
    · rw [if_pos ((leN (by omega) (by omega)).mpr c2), wp_lt, wp_some]
      have c3 : aLast F r A = -1 ∨ 40 ≤ wSz A := Or.inr c2
      refine ⟨fr_uI m4 (by simp), ⟨?_, ?_, ?_, ?_, ?_, ?_, ?_, ?_⟩, ?_, ?_, ?_⟩
      · simp [I_uI, aPass, wMi]
      · simp [I_uI, aPass, wSt, z1] 
      · intro i hi; simp only [R_uI]; rw [r1 i hi]; rfl
      · intro i hi; simp only [R_uI]; rw [r2 i hi]; rfl
      · simp [I_uI, aPass, wSo]
      · simp [I_uI, aPass, wLa]
      · rw [(aPz c3).1]; simp [I_uI, z9]
      · intro i hi; rw [(aPz c3).1] at hi; rw [R_uI, R_uI, R_uI, (aPz c3).2, r3]; exact a8 i hi
      · simp [I_uI]
      · simp [I_uI, i36]
      · simp [I_uI, i37]
    · have c3 : ¬ (aLast F r A = -1 ∨ 40 ≤ wSz A) := fun c => c.elim c1 c2
      rw [if_neg (fun c => c2 ((leN (by omega) (by omega)).mp c)), if_pos (vpN (by omega) (by omega)), clN (by omega), wp_lt, wp_lt, wp_lt, wp_some]
      refine ⟨fr_uI (fr_uI (fr_uR m4 (by simp)) (by simp)) (by simp), ⟨?_, ?_, ?_, ?_, ?_, ?_, ?_, ?_⟩, ?_, ?_, ?_⟩
      · simp [I_uI, I_uR, aPass, wMi, z0, Int32.ofNat_add]
      · simp [I_uI, I_uR, aPass, wSt, z1] 
      · intro i hi; simp only [R_uI, R_uR]; rw [if_neg (by omega), r1 i hi]; rfl
      · intro i hi; simp only [R_uI, R_uR]; rw [if_neg (by omega), r2 i hi]; rfl
      · simp [I_uI, I_uR, aPass, wSo]
      · simp [I_uI, I_uR, aPass, wLa]
      · rw [(aPn c3).1]; simp [I_uI, I_uR, z9, Int32.ofNat_add]
      · intro i hi
        rw [(aPn c3).1] at hi
        simp only [R_uI, R_uR, (aPn c3).2, up, true_and]
        by_cases he : i = wSz A
        · rw [if_pos he, if_pos he]
        · rw [if_neg he, if_neg he, r3]
          exact a8 i (by omega)
      · simp [I_uI, I_uR]
      · simp [I_uI, I_uR, i36]
      · simp [I_uI, I_uR, i37]
