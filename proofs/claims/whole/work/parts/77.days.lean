/-! days by draws -/
theorem wp_jV {J : Nat → Nat → Int64} {o : Option gS} {Q : gS → Prop} (h : jV J o) (hq : wp o Q) : wp o (fun r => Q r ∧ sJ r = J) := by
  obtain ⟨r, a, b⟩ := hq
  exact ⟨r, a, b, h r a⟩
theorem wp_jP {α : Type} {J : Nat → Nat → Int64} {o : Option (gS × α)} {Q : gS × α → Prop} (h : jP J o) (hq : wp o Q) : wp o (fun r => Q r ∧ sJ r.1 = J) := by
  obtain ⟨r, a, b⟩ := hq
  exact ⟨r, a, b, h r a⟩
theorem gNx_ex : ∃ f : Nat → Nat, ∀ G, f G = (G * 1103515245 + 12345) % 2147483648 := ⟨_, fun _ => rfl⟩
/-- not to be unfolded: the numbers are large -/
noncomputable def gNx : Nat → Nat := Classical.choose gNx_ex
theorem gNx_eq (G : Nat) : gNx G = (G * 1103515245 + 12345) % 2147483648 := Classical.choose_spec gNx_ex G
theorem gDr_ex : ∃ f : Nat → Nat → Nat, ∀ G m, f G m = gNx G / 65536 % m := ⟨_, fun _ _ => rfl⟩
noncomputable def gDr : Nat → Nat → Nat := Classical.choose gDr_ex
theorem gDr_eq (G m : Nat) : gDr G m = gNx G / 65536 % m := Classical.choose_spec gDr_ex G m
theorem gNx_b {G : Nat} : gNx G < 2147483648 := by rw [gNx_eq]; exact Nat.mod_lt _ (by omega)
theorem gDr_b {G m : Nat} (hm : 0 < m) : gDr G m < m := by rw [gDr_eq]; exact Nat.mod_lt _ hm
theorem gStep {G : Nat} (hG : G < 2147483648) : ((LN G * (1103515245 : Int64)) + (12345 : Int64)) - ((LN G * (1103515245 : Int64)) + (12345 : Int64)) / (2147483648 : Int64) * (2147483648 : Int64) = LN (gNx G) := by
  rw [show (1103515245 : Int64) = LN 1103515245 from rfl, show (12345 : Int64) = LN 12345 from rfl, show (2147483648 : Int64) = LN 2147483648 from rfl, LNmul, LNadd, LNmod (by omega) (by omega), gNx_eq]
theorem xDraw {S : gS} {G m : Nat} {Q : gS × Int32 → Prop} (hG : G < 2147483648) (hg : sJ S 0 17 = LN G) (hm : 0 < m) (hm2 : m < 100) (hQ : Q (uJ S 0 17 (LN (gNx G)), N (gDr G m))) : wp (FX11_draw S (N m)) Q := by
  unfold FX11_draw
  have hb := gNx_b (G := G)
  have hb2 : gNx G / 65536 < 2147483648 := Nat.lt_of_le_of_lt (Nat.div_le_self _ _) hb
  rw [hg, gStep hG, wp_lt, if_neg (fun c => by have := (le0N (by omega)).mp c; omega), if_neg (fun c => by have := (eq0N (by omega)).mp c; omega), wp_some]
  have e : sJ (uJ S 0 17 (LN (gNx G))) 0 17 = LN (gNx G) := by rw [J_uJ, if_pos ⟨rfl, rfl⟩]
  rw [e, show (65536 : Int64) = LN 65536 from rfl, LNdiv (by omega) (by omega), LN32, modN hb2 (by omega), ← gDr_eq]
  exact hQ
theorem mDraw {S : gS} {G m : Nat} {Q : gS × Int32 → Prop} (hG : G < 2147483648) (hg : sJ S 180 59 = LN G) (hm : 0 < m) (hm2 : m < 100) (hQ : Q (uJ S 180 59 (LN (gNx G)), N (gDr G m))) : wp (FX12_draws S (N m)) Q := by
  unfold FX12_draws
  have hb := gNx_b (G := G)
  have hb2 : gNx G / 65536 < 2147483648 := Nat.lt_of_le_of_lt (Nat.div_le_self _ _) hb
  rw [hg, gStep hG, wp_lt, NL (by omega), if_neg (show ¬ LN m = 0 from fun h => by rw [show (0 : Int64) = LN 0 from rfl, LN_eq (by omega) (by omega)] at h; omega), wp_some]
  have e : sJ (uJ S 180 59 (LN (gNx G))) 180 59 = LN (gNx G) := by rw [J_uJ, if_pos ⟨rfl, rfl⟩]
  rw [e, show (65536 : Int64) = LN 65536 from rfl, LNdiv (by omega) (by omega), LNmod (by omega) (by omega), LN32, ← gDr_eq]
  exact hQ
noncomputable def aDrawn (F : aF) (G : Nat) (A : aW) : aW × Nat :=
  if fN F = 0 then (A, G) else
  if gDr (gNx G) 5 = 0 then (aPour A (gDr G (fN F)) (N (gDr (gNx (gNx G)) 9 + 1)), gNx (gNx (gNx G)))
  else if gDr (gNx G) 5 = 1 then (aSet A (wSt A ||| aBit (gDr G (fN F))), gNx (gNx G))
  else if gDr (gNx G) 5 = 2 then (aSet A (wSt A &&& (aBit (gDr G (fN F)) ^^^ (-1))), gNx (gNx G))
  else (A, gNx (gNx G))
theorem aDrawn_b {F : aF} {G : Nat} {A : aW} (hG : G < 2147483648) : (aDrawn F G A).2 < 2147483648 := by
  unfold aDrawn
  split
  · exact hG
  · split
    · exact gNx_b
    · split
      · exact gNx_b
      · split <;> exact gNx_b
theorem okDrawn {F : aF} {G c : Nat} {A : aW} (ok : okF F) (h : okW F c A) : okW F c (aDrawn F G A).1 := by
  unfold aDrawn
  split
  · exact h
  · rename_i hn
    have h9 := gDr_b (G := gNx (gNx G)) (m := 9) (by omega)
    split
    · exact okPour h (gDr_b (by omega)) ok.1 (by rw [tiN (by omega)]; omega)
    · split
      · exact okSet h
      · split
        · exact okSet h
        · exact h
theorem xDrawn {S : gS} {f G c : Nat} {F : aF} {A : aW} (h : hX S f F) (hA : rX S 53 A) (okA : okW F c A) (hG : G < 2147483648) (hg : sJ S 0 17 = LN G) : wp (FX11_doDrawn S) (fun T => fr xT S T ∧ rX T 53 (aDrawn F G A).1 ∧ sJ T 0 17 = LN (aDrawn F G A).2) := by
  have h7 := h.2.2.1
  have m1 : ∀ b, b ∈ [53] → b ∈ xT := by decide
  have m2 : ∀ b, b ∈ [53 + 1] → b ∈ xT := by decide
  unfold FX11_doDrawn aDrawn
  rw [h.1, fbF h.2.1.1, if_pos rfl, h.2.1.2.1]
  by_cases hn : fN F = 0
  · rw [if_pos ((eq0N (by omega)).mpr hn), if_pos hn, wp_some]
    exact ⟨fr_rf, hA, hg⟩
  · rw [if_neg (fun c => hn ((eq0N (by omega)).mp c)), if_neg hn, if_pos rfl, wp_b2]
    refine xDraw hG hg (by omega) (by omega) ?_
    dsimp only
    rw [wp_b2]
    have hm := gDr_b (G := G) (m := fN F) (by omega)
    have hd := gDr_b (G := gNx G) (m := 5) (by omega)
    refine xDraw (m := 5) gNx_b (by rw [J_uJ, if_pos ⟨rfl, rfl⟩]) (by omega) (by omega) ?_
    dsimp only
    have hS2 : fr xT S (uJ (uJ S 0 17 (LN (gNx G))) 0 17 (LN (gNx (gNx G)))) := fr_uJ (fr_uJ fr_rf)
    have hJ2 : sJ (uJ (uJ S 0 17 (LN (gNx G))) 0 17 (LN (gNx (gNx G)))) 0 17 = LN (gNx (gNx G)) := by rw [J_uJ, if_pos ⟨rfl, rfl⟩]
    have hA2 : rX (uJ (uJ S 0 17 (LN (gNx G))) 0 17 (LN (gNx (gNx G)))) 53 A := hA
    revert hS2 hJ2 hA2
    generalize uJ (uJ S 0 17 (LN (gNx G))) 0 17 (LN (gNx (gNx G))) = T
    intro hS2 hJ2 hA2
    by_cases d0 : gDr (gNx G) 5 = 0
    · rw [if_pos ((eq0N (by omega)).mpr d0), if_pos d0, wp_b2]
      refine xDraw (m := 9) gNx_b hJ2 (by omega) (by omega) ?_
      dsimp only
      rw [wp_b1, show N (gDr (gNx (gNx G)) 9) + (1 : Int32) = N (gDr (gNx (gNx G)) 9 + 1) from addN1]
      have hA3 : rX (uJ T 0 17 (LN (gNx (gNx (gNx G))))) 53 A := hA2
      refine wp_mono (wp_jV (jX9_addWater (S := uJ T 0 17 (LN (gNx (gNx (gNx G))))) rfl) (xPour (m := gDr G (fN F)) (x := N (gDr (gNx (gNx G)) 9 + 1)) hA3 (by omega))) ?_
      rintro U ⟨⟨u1, u2⟩, u3⟩
      rw [wp_some]
      refine ⟨fr_tr hS2 (fr_tr (fr_uJ fr_rf) (fr_mo u1 m2)), u2, ?_⟩
      rw [u3, J_uJ, if_pos ⟨rfl, rfl⟩]
    · rw [if_neg (fun c => d0 ((eq0N (by omega)).mp c)), if_neg d0]
      by_cases d1 : gDr (gNx G) 5 = 1
      · rw [if_pos (show N (gDr (gNx G) 5) = 1 from (eqN (b := 1) (by omega) (by omega)).mpr d1), if_pos d1, wp_b2]
        refine wp_mono (wp_jP (jX9_stopMouth (S := T) rfl) (xStop (m := gDr G (fN F)) hA2)) ?_
        rintro ⟨U, y⟩ ⟨⟨u1, u2, -⟩, u3⟩
        rw [wp_some]
        exact ⟨fr_tr hS2 (fr_mo u1 m1), u2, by rw [u3]; exact hJ2⟩
      · rw [if_neg (show ¬ N (gDr (gNx G) 5) = 1 from fun c => d1 ((eqN (b := 1) (by omega) (by omega)).mp c)), if_neg d1]
        by_cases d2 : gDr (gNx G) 5 = 2
        · rw [if_pos (show N (gDr (gNx G) 5) = 2 from (eqN (b := 2) (by omega) (by omega)).mpr d2), if_pos d2, wp_b2]
          refine wp_mono (wp_jP (jX9_clearMouth (S := T) rfl) (xClear (m := gDr G (fN F)) hA2)) ?_
          rintro ⟨U, y⟩ ⟨⟨u1, u2, -⟩, u3⟩
          rw [wp_some]
          exact ⟨fr_tr hS2 (fr_mo u1 m1), u2, by rw [u3]; exact hJ2⟩
        · rw [if_neg (show ¬ N (gDr (gNx G) 5) = 2 from fun c => d2 ((eqN (b := 2) (by omega) (by omega)).mp c)), if_neg d2, wp_some]
          exact ⟨hS2, hA2, hJ2⟩
theorem mLives {S : gS} {G c : Nat} {F : aF} {A : aW} (hF : fMo S F) (ok : okF F) (hA : rM S 216 0 A) (okA : okW F c A) (hc : c < 2147483648) (hG : G < 2147483648) (hg : sJ S 180 59 = LN G) : wp (FX12_livesMinute S) (fun q => fm psS S q.1 ∧ rM q.1 216 0 (aT F (aDrawn F G A).1) ∧ q.2 = wLa (aT F (aDrawn F G A).1) ∧ sJ q.1 180 59 = LN (aDrawn F G A).2) := by
  have h7 := ok.1
  have fin : ∀ T B g, fm psS S T → fMo T F → rM T 216 0 B → okW F c B → sJ T 180 59 = LN g → wp (g_b2 (FX12_passesAsTold T) (fun S1 x2 => some (S1, x2))) (fun q => fm psS S q.1 ∧ rM q.1 216 0 (aT F B) ∧ q.2 = wLa (aT F B) ∧ sJ q.1 180 59 = LN g) := by
    intro T B g t1 t2 t3 t4 t5
    rw [wp_b2]
    refine wp_mono (wp_jP (jX12_passesAsTold (S := T) rfl) (mTold t2 ok t3 t4 hc)) ?_
    rintro ⟨U, y⟩ ⟨⟨u1, u2, u3, -⟩, u4⟩
    rw [wp_some]
    exact ⟨fm_tr t1 u1, u2, u3, by rw [u4]; exact t5⟩
  have okD := okDrawn (G := G) ok okA
  unfold FX12_livesMinute
  rw [hF.1]
  by_cases hn : fN F = 0
  · have e : aDrawn F G A = (A, G) := by unfold aDrawn; rw [if_pos hn]
    rw [if_pos ((le0N (by omega)).mpr hn), e]
    exact fin S A G fm_rf hF hA okA hg
  · rw [if_neg (fun c => hn ((le0N (by omega)).mp c)), wp_b2]
    refine mDraw hG hg (by omega) (by omega) ?_
    dsimp only
    rw [wp_b2]
    have hm := gDr_b (G := G) (m := fN F) (by omega)
    have hd := gDr_b (G := gNx G) (m := 5) (by omega)
    refine mDraw (m := 5) gNx_b (by rw [J_uJ, if_pos ⟨rfl, rfl⟩]) (by omega) (by omega) ?_
    dsimp only
    have hS2 : fm psS S (uJ (uJ S 180 59 (LN (gNx G))) 180 59 (LN (gNx (gNx G)))) := fm_uJ (fm_uJ fm_rf)
    have hJ2 : sJ (uJ (uJ S 180 59 (LN (gNx G))) 180 59 (LN (gNx (gNx G)))) 180 59 = LN (gNx (gNx G)) := by rw [J_uJ, if_pos ⟨rfl, rfl⟩]
    have hA2 : rM (uJ (uJ S 180 59 (LN (gNx G))) 180 59 (LN (gNx (gNx G)))) 216 0 A := hA
    revert hS2 hJ2 hA2
    generalize uJ (uJ S 180 59 (LN (gNx G))) 180 59 (LN (gNx (gNx G))) = T
    intro hS2 hJ2 hA2
    have hF2 := fMo_fm hF hS2 (fun b hb => psSn hb)
    obtain ⟨kf, hkf, hkf2⟩ := FU_s
    obtain ⟨kg, rfl, hkg2⟩ := kS (m := 10) (show 10 + 1 ≤ kf by omega)
    have e60 : ∀ U B, gDr (gNx G) 5 ≠ 2 → fm psS S U → fMo U F → rM U 216 0 B → okW F c B → (∀ g, sJ U 180 59 = LN g → wp (fX12_livesMinute (kg + 1) 60 U (N (gDr G (fN F))) (N (gDr (gNx G) 5))) (fun q => fm psS S q.1 ∧ rM q.1 216 0 (aT F B) ∧ q.2 = wLa (aT F B) ∧ sJ q.1 180 59 = LN g)) := by
      intro U B hne u1 u2 u3 u4 g u5
      rw [fX12_livesMinute]
      simp only [if_true]
      rw [if_neg (by decide)]
      simp only [bX12_livesMinute_60]
      rw [if_neg (show ¬ N (gDr (gNx G) 5) = 2 from fun c => hne ((eqN (b := 2) (by omega) (by omega)).mp c))]
      exact fin U B g u1 u2 u3 u4 u5
    by_cases d0 : gDr (gNx G) 5 = 0
    · have e : aDrawn F G A = (aPour A (gDr G (fN F)) (N (gDr (gNx (gNx G)) 9 + 1)), gNx (gNx (gNx G))) := by unfold aDrawn; rw [if_neg hn, if_pos d0]
      rw [e] at okD ⊢
      rw [if_pos ((eq0N (by omega)).mpr d0), wp_b2]
      refine mDraw (m := 9) gNx_b hJ2 (by omega) (by omega) ?_
      dsimp only
      rw [wp_b1, show N (gDr (gNx (gNx G)) 9) + (1 : Int32) = N (gDr (gNx (gNx G)) 9 + 1) from addN1]
      have hA3 : rM (uJ T 180 59 (LN (gNx (gNx (gNx G))))) 216 0 A := hA2
      refine wp_mono (wp_jV (jX12_pours (S := uJ T 180 59 (LN (gNx (gNx (gNx G))))) rfl) (mPours (m := gDr G (fN F)) (x := N (gDr (gNx (gNx G)) 9 + 1)) hA3 (by omega))) ?_
      rintro U ⟨⟨u1, u2⟩, u3⟩
      have hU : fm psS S U := fm_tr hS2 (fm_tr (fm_uJ fm_rf) (fm_mo u1 P1m))
      rw [hkf, fX12_livesMinute]
      simp only [if_true, bX12_livesMinute_43]
      rw [if_neg (show ¬ N (gDr (gNx G) 5) = 1 from fun c => by have := (eqN (b := 1) (by omega) (by omega)).mp c; omega)]
      exact e60 U _ (by omega) hU (fMo_fm hF hU (fun b hb => psSn hb)) u2 okD _ (by rw [u3, J_uJ, if_pos ⟨rfl, rfl⟩])
    · rw [if_neg (fun c => d0 ((eq0N (by omega)).mp c)), hkf, fX12_livesMinute]
      simp only [if_true, bX12_livesMinute_43]
      have est : sR T 216 1 = wSt A := hA2.2.1
      by_cases d1 : gDr (gNx G) 5 = 1
      · have e : aDrawn F G A = (aSet A (wSt A ||| aBit (gDr G (fN F))), gNx (gNx G)) := by unfold aDrawn; rw [if_neg hn, if_neg d0, if_pos d1]
        rw [e] at okD ⊢
        rw [if_pos (show N (gDr (gNx G) 5) = 1 from (eqN (b := 1) (by omega) (by omega)).mpr d1), wp_lt, est]
        have u := mSet (s := wSt A ||| aBit (gDr G (fN F))) hA2
        have hU := fm_tr hS2 (fm_mo u.1 P1m)
        exact e60 _ _ (by omega) hU (fMo_fm hF hU (fun b hb => psSn hb)) u.2 okD _ hJ2
      · rw [if_neg (show ¬ N (gDr (gNx G) 5) = 1 from fun c => d1 ((eqN (b := 1) (by omega) (by omega)).mp c))]
        by_cases d2 : gDr (gNx G) 5 = 2
        · have e : aDrawn F G A = (aSet A (wSt A &&& (aBit (gDr G (fN F)) ^^^ (-1))), gNx (gNx G)) := by unfold aDrawn; rw [if_neg hn, if_neg d0, if_neg d1, if_pos d2]
          rw [e] at okD ⊢
          rw [fX12_livesMinute]
          simp only [if_true]
          rw [if_neg (by decide)]
          simp only [bX12_livesMinute_60]
          rw [if_pos (show N (gDr (gNx G) 5) = 2 from (eqN (b := 2) (by omega) (by omega)).mpr d2), wp_lt, est]
          have u := mSet (s := wSt A &&& (aBit (gDr G (fN F)) ^^^ (-1))) hA2
          have hU := fm_tr hS2 (fm_mo u.1 P1m)
          exact fin _ _ _ hU (fMo_fm hF hU (fun b hb => psSn hb)) u.2 okD hJ2
        · have e : aDrawn F G A = (A, gNx (gNx G)) := by unfold aDrawn; rw [if_neg hn, if_neg d0, if_neg d1, if_neg d2]
          rw [e] at okD ⊢
          exact e60 T A d2 hS2 hF2 hA2 okD _ hJ2
noncomputable def aDays (F : aF) : Nat → Nat → aW → Int32 → Int32 → aW × Int32 × Int32
  | 0, _, A, x, y => (A, x, y)
  | m + 1, G, A, x, y => aDays F m (aDrawn F G A).2 (aT F (aDrawn F G A).1) (if wLa (aT F (aDrawn F G A).1) = -1 ∨ wLa (aT F (aDrawn F G A).1) = 6 then x else x + 1) (if wLa (aT F (aDrawn F G A).1) = 6 then y + 1 else y)
theorem okDays {F : aF} (ok : okF F) : ∀ m c G A x y, okW F c A → okW F (c + m) (aDays F m G A x y).1 := by
  intro m
  induction m with
  | zero => intro c G A x y h; exact h
  | succ m ih =>
    intro c G A x y h
    rw [aDays, show c + (m + 1) = c + 1 + m by omega]
    exact ih (c + 1) _ _ _ _ (okPass ok (aRain_b ok _) (okDrawn ok h))
theorem xDays {S0 : gS} {f n : Nat} {F : aF} {i3 : Int32} (h : hX S0 f F) (hn : n ≤ 99) : ∀ m i k S c G A x y, i + m = n → m + 1 ≤ k → fr xT S0 S → rX S 53 A → okW F c A → c + m ≤ 3000 → G < 2147483648 → sJ S 0 17 = LN G → wp (fX11_days k 71 S 0 (N n) i3 0 x y (N i)) (fun q => fr xT S0 q.1 ∧ q.2 = if i3 = 2 then aSum (wWa (aDays F m G A x y).1) (fN F) else if i3 = 0 then (aDays F m G A x y).2.1 else (aDays F m G A x y).2.2) := by
  have h7 := h.2.2.1
  intro m
  induction m with
  | zero =>
    intro i k S c G A x y hi hk hS hA okA hc hG hg
    obtain ⟨k, rfl, -⟩ := kS (m := 0) (by omega)
    have hT := hX_T h hS
    rw [fX11_days]
    simp only [if_true]
    rw [if_neg (by decide)]
    simp only [bX11_days_71]
    have : i = n := by omega
    subst this
    rw [if_pos ((leN (by omega) (by omega)).mpr (by omega)), aDays]
    by_cases e2 : i3 = 2
    · rw [if_pos e2, if_pos e2, hT.1, fbF hT.2.1.1, if_pos rfl, hT.2.1.2.1, xAll hA h7, wp_b2, wp_some, wp_some]
      exact ⟨hS, rfl⟩
    · rw [if_neg e2, if_neg e2]
      by_cases e0 : i3 = 0
      · rw [if_pos e0, if_pos e0, wp_some]; exact ⟨hS, rfl⟩
      · rw [if_neg e0, if_neg e0, wp_some]; exact ⟨hS, rfl⟩
  | succ m ih =>
    intro i k S c G A x y hi hk hS hA okA hc hG hg
    obtain ⟨k, rfl, hk'⟩ := kS (m := m + 1) (by omega)
    have hT := hX_T h hS
    rw [fX11_days]
    simp only [if_true]
    rw [if_neg (by decide)]
    simp only [bX11_days_71]
    rw [if_neg (fun e => absurd ((leN (by omega) (by omega)).mp e) (by omega)), wp_b1]
    refine wp_mono (xDrawn hT hA okA hG hg) ?_
    rintro S1 ⟨q1, q2, q3⟩
    have hT1 := hX_T hT q1
    have okD := okDrawn (G := G) h.2.2 okA
    rw [wp_b2]
    refine wp_mono (wp_jP (jX11_passTrialMinute (S := S1) rfl) (xTrial hT1 q2 okD (by omega))) ?_
    rintro ⟨S2, z⟩ ⟨⟨t1, t2, t3, -, -, t6⟩, t7⟩
    dsimp only at t1 t2 t3 t6 t7 ⊢
    have hS2 := fr_tr hS (fr_tr q1 t1)
    have hg2 : sJ S2 0 17 = LN (aDrawn F G A).2 := by rw [t7]; exact q3
    rw [aDays, ← t3, addN1]
    have nx : ∀ x' y', wp (fX11_days k 71 S2 0 (N n) i3 0 x' y' (N (i + 1))) (fun q => fr xT S0 q.1 ∧ q.2 = if i3 = 2 then aSum (wWa (aDays F m (aDrawn F G A).2 (aT F (aDrawn F G A).1) x' y').1) (fN F) else if i3 = 0 then (aDays F m (aDrawn F G A).2 (aT F (aDrawn F G A).1) x' y').2.1 else (aDays F m (aDrawn F G A).2 (aT F (aDrawn F G A).1) x' y').2.2) :=
      fun x' y' => ih (i + 1) k S2 (c + 1) _ _ x' y' (by omega) (by omega) hS2 t2 t6 (by omega) (aDrawn_b hG) hg2
    by_cases e6 : z = 6
    · rw [if_pos e6, if_pos (show z = -1 ∨ z = 6 from Or.inr e6), if_pos e6]; exact nx _ _
    · rw [if_neg e6, if_neg e6]
      by_cases e1 : z = -1
      · rw [if_pos e1, if_pos (show z = -1 ∨ z = 6 from Or.inl e1)]; exact nx _ _
      · rw [if_neg e1, if_neg (show ¬ (z = -1 ∨ z = 6) from fun h => h.elim e1 e6)]; exact nx _ _
theorem mDays {S0 : gS} {n : Nat} {F : aF} {i3 : Int32} (ok : okF F) (hn : n ≤ 99) : ∀ m i k S c G A x y, i + m = n → 2 * m + 1 ≤ k → mA7 S0 S F → rM S 216 0 A → okW F c A → c + m ≤ 3000 → G < 2147483648 → sJ S 180 59 = LN G → wp (fX12_days k 65 S (N n) i3 x y (N i) 0) (fun q => keepM S0 q.1 ∧ q.2 = if i3 = 0 then (aDays F m G A x y).2.1 else if i3 = 1 then (aDays F m G A x y).2.2 else aSum (wWa (aDays F m G A x y).1) 7) := by
  have h7 := ok.1
  intro m
  induction m with
  | zero =>
    intro i k S c G A x y hi hk hS hA okA hc hG hg
    obtain ⟨k, rfl, -⟩ := kS (m := 0) (by omega)
    rw [fX12_days]
    simp only [if_true, bX12_days_65]
    have : i = n := by omega
    subst this
    rw [if_pos ((leN (by omega) (by omega)).mpr (by omega)), aDays, mAll hA, wp_b2, wp_some, wp_b1]
    refine wp_mono (mBack7 hS) ?_
    rintro T ⟨u1, -⟩
    dsimp only
    by_cases e0 : i3 = 0
    · rw [if_pos e0, if_pos e0, wp_some]; exact ⟨u1, rfl⟩
    · rw [if_neg e0, if_neg e0]
      by_cases e1 : i3 = 1
      · rw [if_pos e1, if_pos e1, wp_some]; exact ⟨u1, rfl⟩
      · rw [if_neg e1, if_neg e1, wp_some]; exact ⟨u1, rfl⟩
  | succ m ih =>
    intro i k S c G A x y hi hk hS hA okA hc hG hg
    obtain ⟨k, rfl, hk'⟩ := kS (m := 2 * m + 2) (by omega)
    obtain ⟨k, rfl, hk2⟩ := kS (m := 2 * m + 1) hk'
    have okD := okDrawn (G := G) ok okA
    rw [fX12_days]
    simp only [if_true, bX12_days_65]
    rw [if_neg (fun e => absurd ((leN (by omega) (by omega)).mp e) (by omega)), wp_b2]
    refine wp_mono (mLives hS.2.1 ok hA okA (by omega) hG hg) ?_
    rintro ⟨S2, z⟩ ⟨t1, t2, t3, t4⟩
    dsimp only at t1 t2 t3 t4 ⊢
    have as2 := mA7_ps hS t1
    have okT := okPass ok (aRain_b ok (wMi (aDrawn F G A).1)) okD
    have hz : z = -1 ∨ ∃ q, q < 7 ∧ z = N q := by rw [t3]; exact aT_c ok
    rw [aDays, ← t3, Int32.add_zero]
    have nx : ∀ x', wp (fX12_days (k + 1) 99 S2 (N n) i3 x' y (N i) z) (fun q => keepM S0 q.1 ∧ q.2 = if i3 = 0 then (aDays F m (aDrawn F G A).2 (aT F (aDrawn F G A).1) x' (if z = 6 then y + 1 else y)).2.1 else if i3 = 1 then (aDays F m (aDrawn F G A).2 (aT F (aDrawn F G A).1) x' (if z = 6 then y + 1 else y)).2.2 else aSum (wWa (aDays F m (aDrawn F G A).2 (aT F (aDrawn F G A).1) x' (if z = 6 then y + 1 else y)).1) 7) := by
      intro x'
      rw [fX12_days]
      simp only [if_true]
      rw [if_neg (by decide)]
      simp only [bX12_days_99]
      rw [addN1, Int32.add_zero]
      by_cases e6 : z = 6
      · rw [if_pos e6, if_pos e6]
        exact ih (i + 1) k S2 (c + 1) _ _ _ _ (by omega) (by omega) as2 t2 okT (by omega) (aDrawn_b hG) t4
      · rw [if_neg e6, if_neg e6]
        exact ih (i + 1) k S2 (c + 1) _ _ _ _ (by omega) (by omega) as2 t2 okT (by omega) (aDrawn_b hG) t4
    rcases hz with e1 | ⟨q, q1, q2⟩
    · rw [if_pos (show z < 0 by rw [e1]; decide), if_pos (show z = -1 ∨ z = 6 from Or.inl e1)]
      exact nx _
    · rw [if_neg (show ¬ z < 0 by rw [q2]; exact nN_lt0 (by omega))]
      by_cases e6 : z = 6
      · rw [if_pos e6, if_pos (show z = -1 ∨ z = 6 from Or.inr e6)]
        exact nx _
      · rw [if_neg e6, if_neg (show ¬ (z = -1 ∨ z = 6) from fun h => h.elim (fun h => N_ne_m1 (a := q) (by omega) (q2.symm.trans h)) e6)]
        exact nx _
theorem op_days {c : Nat} (hc : c ≤ 1000) : Ob_days (Good c) (Good (c + 1)) := by
  intro S p0 p1 p2 hG
  refine ask (FX := fun S => FX11_days S p0 p1 p2) (FM := fun S => FX12_days S p0 p1 p2) hG ?_
  intro f d w F mn ln A D W E p n t ch g
  obtain ⟨hh, hA, okA⟩ := GO_hX g
  obtain ⟨kf, hkf, hkf2⟩ := FU_s
  have h18 : ∀ b : Bool, (b = true ↔ inr 0 10000 p0) → FX11_days S p0 p1 p2 = fX11_days FU 18 S p0 p1 p2 (g_b b) 0 0 0 := by
    intro b hb
    unfold FX11_days
    by_cases e1 : p0 < 0
    · rw [if_pos e1]
      cases b with
      | false => rfl
      | true => exact absurd (hb.mp rfl) (inr_neg e1)
    · rw [if_neg e1]
      by_cases e2 : (9999 : Int32) < p0
      · rw [if_pos e2]
        cases b with
        | false => rfl
        | true => exact absurd (hb.mp rfl) (inr_gt (b := 9999) (by omega) e2)
      · rw [if_neg e2]
        cases b with
        | true => rfl
        | false => exact absurd (hb.mpr (inr_in2 (a := 0) (b := 9999) (by omega) (by omega) e1 e2)) Bool.false_ne_true
  by_cases bad : ¬ (inr 0 10000 p0 ∧ inr 1 100 p1 ∧ inr 0 3 p2)
  · refine ⟨-1, ?_, fun S1 g1 => ?_⟩
    · have key : ∀ b : Bool, (b = true ↔ inr 0 10000 p0) → wp (fX11_days FU 18 S p0 p1 p2 (g_b b) 0 0 0) (fun q => fr xS S q.1 ∧ q.2 = -1) := by
        intro b hb
        rw [hkf, fX11_days]
        simp only [if_true, bX11_days_18]
        cases b with
        | false => rw [if_pos (show g_b false = 0 from rfl), wp_some]; exact ⟨fr_rf, rfl⟩
        | true =>
          rw [if_neg (show ¬ g_b true = 0 by decide)]
          by_cases z1 : p1 < 1
          · rw [if_pos z1, wp_some]; exact ⟨fr_rf, rfl⟩
          · rw [if_neg z1]
            by_cases z2 : (99 : Int32) < p1
            · rw [if_pos z2, wp_some]; exact ⟨fr_rf, rfl⟩
            · rw [if_neg z2]
              by_cases z3 : p2 < 0
              · rw [if_pos z3, wp_some]; exact ⟨fr_rf, rfl⟩
              · rw [if_neg z3, if_neg (fun z4 => by
                  obtain ⟨q, q1, rfl⟩ := I_nn z3
                  exact bad ⟨hb.mp rfl, inr_in2 (a := 1) (b := 99) (by omega) (by omega) z1 z2, q, by omega, by have := (leN (b := 2) q1 (by omega)).mp z4; omega, q1, rfl⟩), wp_some]
                exact ⟨fr_rf, rfl⟩
      by_cases b1 : inr 0 10000 p0
      · have e := h18 true (by simp [b1])
        rw [e]; exact key true (by simp [b1])
      · have e := h18 false (by simp [b1])
        rw [e]; exact key false (by simp [b1])
    · unfold FX12_days
      rw [wp_lt, wp_b2]
      refine mgW 0 9999 (by omega) (by omega) (fun a0 => ?_) (fun a0 => ?_)
      · rw [if_pos rfl, wp_b2]
        refine mgW 1 99 (by omega) (by omega) (fun a1 => ?_) (fun a1 => ?_)
        · rw [if_pos rfl, wp_b2]
          refine mgW 0 2 (by omega) (by omega) (fun a2 => ?_) (fun a2 => ?_)
          · exact absurd ⟨a0, a1, a2⟩ bad
          · rw [if_neg Bool.false_ne_true, wp_some]; exact ⟨keep_th, rfl⟩
        · rw [if_neg Bool.false_ne_true, wp_some]; exact ⟨keep_th, rfl⟩
      · rw [if_neg Bool.false_ne_true, wp_some]; exact ⟨keep_th, rfl⟩
  · have good := Classical.not_not.mp bad
    obtain ⟨b0, b1, b2⟩ := good
    have b0' := b0
    have b1' := b1
    have b2' := b2
    obtain ⟨G, -, l1, l2, rfl⟩ := b0
    obtain ⟨q, q0, q1, q2, rfl⟩ := b1
    obtain ⟨o, -, o1, o2, rfl⟩ := b2
    have okE := okDays hh.2.2 q c G A 0 0 okA
    refine ⟨if N o = 0 then (aDays F q G A 0 0).2.1 else if N o = 1 then (aDays F q G A 0 0).2.2 else aSum (wWa (aDays F q G A 0 0).1) 7, ?_, fun S1 g1 => ?_⟩
    · have e := h18 true (by simp [b0'])
      rw [e, hkf, fX11_days]
      simp only [if_true, bX11_days_18]
      rw [if_neg (show ¬ g_b true = 0 by decide), if_neg (show ¬ N q < 1 from fun c => by have := (ltN (b := 1) q2 (by omega)).mp c; omega), if_neg (show ¬ (99 : Int32) < N q from fun c => by have := (ltN (a := 99) (by omega) q2).mp c; omega), if_neg (nN_lt0 o2), if_pos (show N o ≤ 2 from (leN (b := 2) o2 (by omega)).mpr (by omega)), wp_lt, NL l2, wp_b1]
      have hA' : rX (uJ S 0 17 (LN G)) 49 A := hA
      refine wp_mono (wp_jV (jX9_copyFrom (S := uJ S 0 17 (LN G)) rfl) (xTake hA' okA.1)) ?_
      rintro S2 ⟨⟨t1, t2⟩, t3⟩
      refine wp_mono (xDays (i3 := N o) hh (by omega) q 0 kf S2 c G A 0 0 (by omega) (by omega) (fr_tr (fr_uJ fr_rf) t1) t2 okA (by omega) l2 (by rw [t3, J_uJ, if_pos ⟨rfl, rfl⟩])) ?_
      rintro ⟨S3, x⟩ ⟨r1, r2⟩
      refine ⟨fr_mo r1 xTs, r2.trans ?_⟩
      rw [aSum_7 hh.2.2 okE]
      have c0 : (N o = 0) ↔ o = 0 := eq0N o2
      have c1 : (N o = 1) ↔ o = 1 := eqN (b := 1) o2 (by omega)
      have c2 : (N o = 2) ↔ o = 2 := eqN (b := 2) o2 (by omega)
      by_cases z0 : o = 0
      · rw [if_neg (fun h => by have := c2.mp h; omega), if_pos (c0.mpr z0), if_pos (c0.mpr z0)]
      · by_cases z1 : o = 1
        · rw [if_neg (fun h => by have := c2.mp h; omega), if_neg (fun h => z0 (c0.mp h)), if_neg (fun h => z0 (c0.mp h)), if_pos (c1.mpr z1)]
        · rw [if_pos (c2.mpr (by omega)), if_neg (fun h => z0 (c0.mp h)), if_neg (fun h => z1 (c1.mp h))]
    · obtain ⟨hM, ok, rA, okA⟩ := GO_fM g1
      unfold FX12_days
      rw [wp_lt, wp_b2]
      refine mgW 0 9999 (by omega) (by omega) (fun _ => ?_) (fun e => absurd b0' e)
      rw [if_pos rfl, wp_b2]
      refine mgW 1 99 (by omega) (by omega) (fun _ => ?_) (fun e => absurd b1' e)
      rw [if_pos rfl, wp_b2]
      refine mgW 0 2 (by omega) (by omega) (fun _ => ?_) (fun e => absurd b2' e)
      rw [if_pos rfl, wp_lt, NL l2, wp_b1]
      have hM' : fMo (uJ (uI S1 180 0 0) 180 59 (LN G)) F := fMo_fm hM (L := []) (fm_uJ (fm_uI fm_rf (by omega) (by omega))) (fun b _ => by simp)
      have rA' : rM (uJ (uI S1 180 0 0) 180 59 (LN G)) 216 0 A := rA
      refine wp_mono (wp_jV (jX12_copies (S := uJ (uI S1 180 0 0) 180 59 (LN G)) rfl) (mTake7 hM' rA')) ?_
      rintro S2 ⟨⟨t1, t2⟩, t3⟩
      refine wp_mono (mDays (i3 := N o) ok (by omega) q 0 FU S2 c G A 0 0 (by omega) (by unfold FU; omega) t1 t2 okA (by omega) l2 (by rw [t3, J_uJ, if_pos ⟨rfl, rfl⟩])) ?_
      rintro ⟨S4, x⟩ ⟨r1, r2⟩
      exact ⟨keep_tr keep_th r1, r2⟩
