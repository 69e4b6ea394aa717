/-! a minute of the model, whole -/
theorem aRead_c {F : aF} (ok : okF F) (x : Int32) : aRead F x = -1 ∨ ∃ k, k < 7 ∧ aRead F x = N k := by
  have h6 := ok.2.1
  unfold aRead
  split
  · split
    · exact Or.inl rfl
    · exact Or.inr ⟨6, by omega, rfl⟩
  · rcases aLet_N (M := fM F) (x := x) (fL F) 0 (by omega) with h | ⟨j, h1, h2, h3⟩
    · rename_i hh; exact absurd h hh
    · exact Or.inr ⟨j, by omega, h2⟩
theorem aLet_no {M : Nat → Int32} {x : Int32} : ∀ m i, (∀ j, j < i + m → M j ≠ x) → aLet M x m i = -1 := by
  intro m
  induction m with
  | zero => intro i _; rfl
  | succ m ih =>
    intro i h
    rw [aLet, if_neg (h i (by omega))]
    exact ih (i + 1) (fun j hj => h j (by omega))
theorem mLet {S : gS} {F : aF} {x : Int32} (hF : fMo S F) (ok : okF F) : ∀ m i k, i + m = fL F → m + 1 ≤ k → fX12_readBy k 8 S x (N i) = some (S, if aLet (fM F) x m i = -1 then 6 else aLet (fM F) x m i) := by
  obtain ⟨-, hl, -, -, hm, -⟩ := hF
  have h6 : fL F ≤ 6 := ok.2.1
  intro m
  induction m with
  | zero =>
    intro i k hi hk
    obtain ⟨k, rfl, -⟩ := kS hk
    rw [fX12_readBy]
    simp only [bX12_readBy_8, if_true]
    rw [hl, if_pos ((leN (by omega) (by omega)).mpr (by omega))]
    rfl
  | succ m ih =>
    intro i k hi hk
    obtain ⟨k, rfl, hk⟩ := kS hk
    rw [fX12_readBy]
    simp only [bX12_readBy_8, if_true]
    rw [hl, if_neg (fun c => absurd ((leN (by omega) (by omega)).mp c) (by omega)), if_pos (vpN (by omega) (by omega)), clN (by omega), hm i (by omega), aLet, addN1, ih (i + 1) k (by omega) (by omega)]
    split
    · rw [if_neg (N_ne_m1 (by omega))]
    · rfl
theorem mRead {S : gS} {F : aF} {x : Int32} (hF : fMo S F) (ok : okF F) : FX12_readBy S x = some (S, aRead F x) := by
  unfold FX12_readBy
  by_cases h0 : x = 0
  · rw [if_pos h0]
    unfold aRead
    rw [aLet_no (fL F) 0 (fun j hj => by rw [h0]; exact ok.2.2.2.2.2.2.2.2.2.1 j (by omega)), if_pos rfl, if_pos h0]
  · rw [if_neg h0, show (0 : Int32) = N 0 from rfl, mLet hF ok (fL F) 0 FU (by omega) (by have := ok.2.1; unfold FU; omega)]
    unfold aRead
    rw [if_neg h0]
theorem mRain {S : gS} {mi : Nat} {F : aF} (hF : fMo S F) (ok : okF F) (hmi : mi < 2147483648) : FX12_rainOf S (N mi) = some (S, aRain F mi) := by
  obtain ⟨-, -, hc, -, -, hp, -⟩ := hF
  have h12 : fC F ≤ 12 := ok.2.2.1
  unfold FX12_rainOf aRain
  rw [hc]
  by_cases h0 : fC F = 0
  · rw [if_pos h0, h0]; rfl
  · have hz : ¬ (N (fC F) = 0) := fun c => h0 ((eq0N (by omega)).mp c)
    rw [if_neg h0, if_neg hz, if_neg hz, modN (by omega) (by omega)]
    have hl : mi % fC F < fC F := Nat.mod_lt _ (by omega)
    rw [if_pos (vpN (by omega) (by omega)), clN (by omega), hp _ hl]
abbrev psS : List Nat := [197, 198, 199, 200, 201, 202, 203, 204, 205, 206, 216]
theorem psSn {b : Nat} (h : 182 ≤ b ∧ b ≤ 194 ∨ b = 222) : b ∉ psS := by
  simp only [List.mem_cons, List.not_mem_nil, or_false]; omega
theorem P1n {b : Nat} (h : 182 ≤ b ∧ b ≤ 194 ∨ b = 222) : b ∉ [216] := by
  simp only [List.mem_cons, List.not_mem_nil, or_false]; omega
theorem lwSn {b : Nat} (h : 182 ≤ b ∧ b ≤ 194 ∨ b = 222) : b ∉ lwS := by
  simp only [List.mem_cons, List.not_mem_nil, or_false]; omega
theorem lwSm : ∀ b, b ∈ lwS → b ∈ psS := by decide
theorem P1m : ∀ b, b ∈ [216] → b ∈ psS := by decide
theorem mP14 {S : gS} {F : aF} {r : Int32} {wa fl : Nat → Int32} {Q : gS × Int32 → Prop} {K : Nat} (hF : fMo S F) (ok : okF F)
    (hc : ∀ k S', K ≤ k → fm psS S S' → kR S S' → mV S' (aRise F r wa (fN F), fl, 0, 0) → wp (fX12_passes k 51 S' r 0 0) Q) :
    ∀ m i k S', i + m = fN F → K + m + 1 ≤ k → fm psS S S' → kR S S' → mV S' (aRise F r wa i, fl, 0, 0) → wp (fX12_passes k 14 S' r 0 (N i)) Q := by
  have h7 : fN F ≤ 7 := ok.1
  intro m
  induction m with
  | zero =>
    intro i k S' hi hk hS hI hV
    have hF' := fMo_fm hF hS (fun b h => psSn h)
    obtain ⟨k, rfl, hk⟩ := kS hk
    rw [fX12_passes]
    simp only [bX12_passes_14, if_true]
    rw [hF'.1, if_pos ((leN (by omega) (by omega)).mpr (by omega))]
    have : i = fN F := by omega
    subst this
    exact hc k S' (by omega) hS hI hV
  | succ m ih =>
    intro i k S' hi hk hS hI hV
    have hF' := fMo_fm hF hS (fun b h => psSn h)
    obtain ⟨k, rfl, hk⟩ := kS (m := K + m + 1) (by omega)
    rw [fX12_passes]
    simp only [bX12_passes_14, if_true]
    rw [hF'.1, if_neg (fun c => absurd ((leN (by omega) (by omega)).mp c) (by omega)), pl5, if_pos (vpN (by omega) (by omega)), if_pos (vpN (by omega) (by omega)), clN (by omega), clN (by omega), wp_lt, addN1]
    obtain ⟨v1, v2, v3, v4⟩ := hV
    refine ih (i + 1) k _ (by omega) (by omega) (fm_uR hS (by simp)) (fun j q => ?_) ⟨fun j hj => ?_, fun j hj => ?_, v3, v4⟩
    · rw [R_uR, if_neg (by omega)]; exact hI j q
    · rw [R_uR]
      by_cases hji : j = i
      · subst hji
        rw [if_pos ⟨rfl, rfl⟩, v1 j hj, (hF'.2.2.2.1 j (by omega)).2.2.1]
        simp only [aRise]
        rw [if_neg (by omega), if_pos (by omega)]
      · rw [if_neg (by omega), v1 j hj]
        simp only [aRise]
        by_cases hlt : j < i
        · rw [if_pos hlt, if_pos (by omega)]
        · rw [if_neg hlt, if_neg (by omega)]
    · rw [R_uR, if_neg (by omega)]; exact v2 j hj
theorem mP51 {S : gS} {F : aF} {r : Int32} {v : aV} {Q : gS × Int32 → Prop} {K : Nat} (hF : fMo S F) (ok : okF F)
    (hc : ∀ k S', K ≤ k → fm psS S S' → kR S S' → mV S' (aSteps F (sR S 216 1) v (fN F)) → wp (bX12_passes_51 (fX12_passes k) S' r (aGat F (sR S 216 1) r v (fN F)) (N (fN F))) Q) :
    ∀ m i k S', i + m = fN F → K + m + 1 ≤ k → fm psS S S' → kR S S' → mV S' (aSteps F (sR S 216 1) v i) → wp (fX12_passes k 51 S' r (aGat F (sR S 216 1) r v i) (N i)) Q := by
  have h7 : fN F ≤ 7 := ok.1
  intro m
  induction m with
  | zero =>
    intro i k S' hi hk hS hI hV
    obtain ⟨k, rfl, hk⟩ := kS hk
    rw [fX12_passes]
    simp only [if_true]
    rw [if_neg (by decide)]
    have : i = fN F := by omega
    subst this
    exact hc k S' (by omega) hS hI hV
  | succ m ih =>
    intro i k S' hi hk hS hI hV
    have hF' := fMo_fm hF hS (fun b h => psSn h)
    obtain ⟨k, rfl, hk⟩ := kS (m := K + m + 1) (by omega)
    have ho := ok.2.2.2.1 i (by omega)
    rw [fX12_passes]
    simp only [if_true]
    rw [if_neg (by decide)]
    simp only [bX12_passes_51]
    rw [hF'.1, if_neg (fun c => absurd ((leN (by omega) (by omega)).mp c) (by omega)), if_pos (vpN (by omega) (by omega)), clN (by omega), wp_b1, (hF'.2.2.2.1 i (by omega)).2.2.2.2.2]
    refine wp_mono (mRun hF' ok ho hV) ?_
    rintro S1 ⟨q1, q2, q3⟩
    have hF1 := fMo_fm hF' q1 (fun b h => P1n h)
    rw [wp_b2]
    refine mOut hF1 ok ho (q3.1 _ (by omega)) ?_
    have e1 : sR S1 216 1 = sR S 216 1 := (q2 1 (by omega)).trans (hI 1 (by omega))
    rw [e1]
    dsimp only
    rw [pl12, pl5, if_pos (vpN (by omega) (by omega)), clN (by omega), clN (by omega), wp_lt, if_pos (vpN (by omega) (by omega)), wp_lt]
    have hV2 : mV (uR (uR S1 216 (12 + fR F i) (aOut F (sR S 216 1) (fR F i) (aOver F (fR F i) (aSteps F (sR S 216 1) v i)).1)) 216 (5 + fR F i)
        (sR (uR S1 216 (12 + fR F i) (aOut F (sR S 216 1) (fR F i) (aOver F (fR F i) (aSteps F (sR S 216 1) v i)).1)) 216 (5 + fR F i) - sR (uR S1 216 (12 + fR F i) (aOut F (sR S 216 1) (fR F i) (aOver F (fR F i) (aSteps F (sR S 216 1) v i)).1)) 216 (12 + fR F i))) (aSteps F (sR S 216 1) v (i + 1)) := by
      refine ⟨fun j hj => ?_, fun j hj => ?_, q3.2.2.1, q3.2.2.2⟩
      · simp only [R_uR, true_and, aSteps, aStep, aSpout, up]
        by_cases e : j = fR F i
        · subst e
          rw [if_pos rfl, if_neg (by omega), if_pos trivial, q3.1 _ (by omega), if_pos rfl]
        · rw [if_neg (by omega), if_neg (by omega), if_neg e]
          exact q3.1 j hj
      · simp only [R_uR, true_and, aSteps, aStep, aSpout, up]
        by_cases e : j = fR F i
        · subst e
          rw [if_neg (by omega), if_pos rfl, if_pos rfl]
        · rw [if_neg (by omega), if_neg (by omega), if_neg e]
          exact q3.2.1 j hj
    have hm2 : fm psS S (uR (uR S1 216 (12 + fR F i) (aOut F (sR S 216 1) (fR F i) (aOver F (fR F i) (aSteps F (sR S 216 1) v i)).1)) 216 (5 + fR F i)
        (sR (uR S1 216 (12 + fR F i) (aOut F (sR S 216 1) (fR F i) (aOver F (fR F i) (aSteps F (sR S 216 1) v i)).1)) 216 (5 + fR F i) - sR (uR S1 216 (12 + fR F i) (aOut F (sR S 216 1) (fR F i) (aOver F (fR F i) (aSteps F (sR S 216 1) v i)).1)) 216 (12 + fR F i))) :=
      fm_uR (fm_uR (fm_tr hS (fm_mo q1 P1m)) (by simp)) (by simp)
    have hk2 : kR S (uR (uR S1 216 (12 + fR F i) (aOut F (sR S 216 1) (fR F i) (aOver F (fR F i) (aSteps F (sR S 216 1) v i)).1)) 216 (5 + fR F i)
        (sR (uR S1 216 (12 + fR F i) (aOut F (sR S 216 1) (fR F i) (aOver F (fR F i) (aSteps F (sR S 216 1) v i)).1)) 216 (5 + fR F i) - sR (uR S1 216 (12 + fR F i) (aOut F (sR S 216 1) (fR F i) (aOver F (fR F i) (aSteps F (sR S 216 1) v i)).1)) 216 (12 + fR F i))) := by
      intro j hj
      rw [R_uR, if_neg (by omega), R_uR, if_neg (by omega)]
      exact (q2 j hj).trans (hI j hj)
    revert hV2 hm2 hk2
    generalize (uR (uR S1 216 (12 + fR F i) (aOut F (sR S 216 1) (fR F i) (aOver F (fR F i) (aSteps F (sR S 216 1) v i)).1)) 216 (5 + fR F i)
        (sR (uR S1 216 (12 + fR F i) (aOut F (sR S 216 1) (fR F i) (aOver F (fR F i) (aSteps F (sR S 216 1) v i)).1)) 216 (5 + fR F i) - sR (uR S1 216 (12 + fR F i) (aOut F (sR S 216 1) (fR F i) (aOver F (fR F i) (aSteps F (sR S 216 1) v i)).1)) 216 (12 + fR F i))) = T
    intro hV2 hm2 hk2
    have hFT := fMo_fm hF hm2 (fun b h => psSn h)
    rw [wp_b2]
    refine wp_mono (hFT.2.2.2.2.2.2 T rfl rfl (fun _ _ => rfl) (fR F i) r (by omega)) ?_
    rintro ⟨S3, b⟩ ⟨p1, p55, p56, p2⟩
    dsimp only at p1 p55 p56 p2 ⊢
    rw [hV2.1 _ (by omega), hV2.2.1 _ (by omega), (hFT.2.2.2.1 _ ho).2.1] at p2
    have hm3 : fm psS S S3 := fm_tr hm2 (fm_mo p1 lwSm)
    have e216 : sR S3 216 = sR T 216 := fmR p1 (by decide) (by decide)
    have hk3 : kR S S3 := fun j hj => by rw [e216]; exact hk2 j hj
    have hV3 : mV S3 (aSteps F (sR S 216 1) v (i + 1)) := by
      refine ⟨fun j hj => ?_, fun j hj => ?_, p56.trans hV2.2.2.1, p55.trans hV2.2.2.2⟩
      · rw [e216]; exact hV2.1 j hj
      · rw [e216]; exact hV2.2.1 j hj
    have := ih (i + 1) k S3 (by omega) (by omega) hm3 hk3 hV3
    rw [aGat, ← p2] at this
    rw [addN1]
    cases b with
    | true => rw [if_pos rfl] at this ⊢; exact this
    | false => rw [if_neg (by decide)] at this ⊢; exact this
theorem mPass {S : gS} {F : aF} {r : Int32} {A : aW} (hF : fMo S F) (ok : okF F) (hA : rM S 216 0 A) (hs : wSz A ≤ 40) :
    wp (FX12_passes S r) (fun q => fm psS S q.1 ∧ rM q.1 216 0 (aPass F r A) ∧ q.2 = aLast F r A ∧ sI q.1 180 56 = (aEnd F r A).2.2.1 ∧ sI q.1 180 55 = (aEnd F r A).2.2.2) := by
  have h7 : fN F ≤ 7 := ok.1
  obtain ⟨a1, a2, a3, a4, a5, a6, a7, a8⟩ := hA
  simp only [Nat.zero_add] at a1 a2 a3 a4 a5 a6 a7 a8
  unfold FX12_passes
  rw [wp_lt, wp_lt, show (0 : Int32) = N 0 from rfl]
  have hS0 : fm psS S (uI (uI S 180 55 (N 0)) 180 56 (N 0)) := fm_uI (fm_uI fm_rf (by omega) (by omega)) (by omega) (by omega)
  have hV0 : mV (uI (uI S 180 55 (N 0)) 180 56 (N 0)) (aRise F r (wWa A) 0, wFl A, 0, 0) := by
    refine ⟨fun i hi => ?_, fun i hi => ?_, ?_, ?_⟩
    · simp only [R_uI, aRise]
      rw [if_neg (by omega), a3 i hi]
    · simp only [R_uI, a4 i hi]
    · simp [I_uI]; rfl
    · simp [I_uI]; rfl
  refine mP14 (K := 100) (fl := wFl A) hF ok ?_ (fN F) 0 FU _ (by omega) (by unfold FU; omega) hS0 (fun j _ => by rw [R_uI, R_uI]) hV0
  intro k S1 hk p1 p2 p3
  have hF1 := fMo_fm hF p1 (fun b h => psSn h)
  have est : sR S1 216 1 = wSt A := (p2 1 (by omega)).trans a2
  refine mP51 (v := (aRise F r (wWa A) (fN F), wFl A, 0, 0)) (K := 10) hF1 ok ?_ (fN F) 0 k S1 (by omega) (by omega) fm_rf (fun _ _ => rfl) p3
  intro k S2 hk2 t1 t2 t3
  rw [est] at t3 ⊢
  rw [gat_snd ok]
  change mV S2 (aEnd F r A) at t3
  change wp (bX12_passes_51 (fX12_passes k) S2 r (aSo F r A) (N (fN F))) _
  have t1' := fm_tr p1 t1
  have t2' : kR S S2 := fun j hj => (t2 j hj).trans (p2 j hj)
  have hF2 := fMo_fm hF t1' (fun b h => psSn h)
  simp only [bX12_passes_51]
  rw [hF2.1, if_pos ((leN (by omega) (by omega)).mpr (by omega)), wp_b2, mRead hF2 ok, wp_some]
  dsimp only
  change wp (g_lt (uR S2 216 2 (aSo F r A)) (fun S3 => g_lt (uR S3 216 3 (aLast F r A)) (fun S4 => if aLast F r A < 0 then fX12_passes k 200 S4 0 0 (aLast F r A) else _))) _
  rw [wp_lt, wp_lt]
  have m4 : fm psS S (uR (uR S2 216 2 (aSo F r A)) 216 3 (aLast F r A)) := fm_uR (fm_uR t1' (by simp)) (by simp)
  have z0 : sR S2 216 0 = N (wMi A) := (t2' 0 (by omega)).trans a1
  have z1 : sR S2 216 1 = wSt A := (t2' 1 (by omega)).trans a2
  have z4 : sR S2 216 4 = N (wSz A) := (t2' 4 (by omega)).trans a7
  have z19 : ∀ i, i < wSz A → sR S2 216 (19 + i) = wSl A i := fun i hi => (t2' (19 + i) (by omega)).trans (a8 i hi)
  have y4 : sR (uR (uR S2 216 2 (aSo F r A)) 216 3 (aLast F r A)) 216 4 = N (wSz A) := by simp [R_uR, z4]
  have fin : ∀ T k, 1 ≤ k → fm psS S T → sR T 216 0 = N (wMi A) → sR T 216 1 = wSt A → (∀ i, i < 7 → sR T 216 (5 + i) = (aEnd F r A).1 i) → (∀ i, i < 7 → sR T 216 (12 + i) = (aEnd F r A).2.1 i) → sR T 216 2 = aSo F r A → sR T 216 3 = aLast F r A →
      sR T 216 4 = N (wSz (aPass F r A)) → (∀ i, i < wSz (aPass F r A) → sR T 216 (19 + i) = wSl (aPass F r A) i) → sI T 180 56 = (aEnd F r A).2.2.1 → sI T 180 55 = (aEnd F r A).2.2.2 →
      wp (fX12_passes k 200 T 0 0 (aLast F r A)) (fun q => fm psS S q.1 ∧ rM q.1 216 0 (aPass F r A) ∧ q.2 = aLast F r A ∧ sI q.1 180 56 = (aEnd F r A).2.2.1 ∧ sI q.1 180 55 = (aEnd F r A).2.2.2) := by
    intro T k hk b0 b1 b2 b3 b4 b5 b6 b7 b8 b9 b10
    obtain ⟨k, rfl, -⟩ := kS (m := 0) hk
    rw [fX12_passes]
    simp only [if_true]
    rw [if_neg (by decide), if_neg (by decide)]
    simp only [bX12_passes_200]
    rw [wp_lt, wp_some, b1]
    refine ⟨fm_uR b0 (by simp), ⟨?_, ?_, ?_, ?_, ?_, ?_, ?_, ?_⟩, rfl, b9, b10⟩
    · simp [R_uR, aPass, wMi, Int32.ofNat_add]
    · rw [R_uR, if_neg (by omega), Nat.zero_add, b2]; rfl
    · intro i hi; rw [R_uR, if_neg (by omega), Nat.zero_add, b3 i hi]; rfl
    · intro i hi; rw [R_uR, if_neg (by omega), Nat.zero_add, b4 i hi]; rfl
    · rw [R_uR, if_neg (by omega), Nat.zero_add, b5]; rfl
    · rw [R_uR, if_neg (by omega), Nat.zero_add, b6]; rfl
    · rw [R_uR, if_neg (by omega), Nat.zero_add, b7]
    · intro i hi; rw [R_uR, if_neg (by omega), Nat.zero_add, b8 i hi]
  have com : ∀ j, j ≠ 2 → j ≠ 3 → sR (uR (uR S2 216 2 (aSo F r A)) 216 3 (aLast F r A)) 216 j = sR S2 216 j := by
    intro j h2 h3
    rw [R_uR, if_neg (by omega), R_uR, if_neg (by omega)]
  have c2 : sR (uR (uR S2 216 2 (aSo F r A)) 216 3 (aLast F r A)) 216 2 = aSo F r A := by simp [R_uR]
  have c3 : sR (uR (uR S2 216 2 (aSo F r A)) 216 3 (aLast F r A)) 216 3 = aLast F r A := by simp [R_uR]
  have cI : sI (uR (uR S2 216 2 (aSo F r A)) 216 3 (aLast F r A)) = sI S2 := rfl
  rcases aRead_c ok (aSo F r A) with hneg | ⟨d, d1, d2⟩
  · have hneg : aLast F r A = -1 := hneg
    have e3 : aLast F r A = -1 ∨ 40 ≤ wSz A := Or.inl hneg
    rw [if_pos (show aLast F r A < 0 by rw [hneg]; decide)]
    refine fin _ k (by omega) m4 (by rw [com 0 (by omega) (by omega), z0]) (by rw [com 1 (by omega) (by omega), z1]) (fun i hi => by rw [com _ (by omega) (by omega)]; exact t3.1 i hi) (fun i hi => by rw [com _ (by omega) (by omega)]; exact t3.2.1 i hi) c2 c3 ?_ ?_ t3.2.2.1 t3.2.2.2
    · rw [y4, (aPz e3).1]
    · intro i hi
      rw [com _ (by omega) (by omega)]
      rw [(aPz e3).1] at hi
      rw [(aPz e3).2]
      exact z19 i hi
  · have d2 : aLast F r A = N d := d2
    have hne : ¬ aLast F r A = -1 := by rw [d2]; exact N_ne_m1 (by omega)
    rw [if_neg (show ¬ aLast F r A < 0 by rw [d2]; exact nN_lt0 (by omega)), y4, show (40 : Int32) = N 40 from rfl]
    by_cases cc : 40 ≤ wSz A
    · have e3 : aLast F r A = -1 ∨ 40 ≤ wSz A := Or.inr cc
      rw [if_pos ((leN (by omega) (by omega)).mpr cc)]
      refine fin _ k (by omega) m4 (by rw [com 0 (by omega) (by omega), z0]) (by rw [com 1 (by omega) (by omega), z1]) (fun i hi => by rw [com _ (by omega) (by omega)]; exact t3.1 i hi) (fun i hi => by rw [com _ (by omega) (by omega)]; exact t3.2.1 i hi) c2 c3 ?_ ?_ t3.2.2.1 t3.2.2.2
      · rw [y4, (aPz e3).1]
      · intro i hi
        rw [com _ (by omega) (by omega)]
        rw [(aPz e3).1] at hi
        rw [(aPz e3).2]
        exact z19 i hi
    · have e3 : ¬ (aLast F r A = -1 ∨ 40 ≤ wSz A) := fun c => c.elim hne cc
      rw [if_neg (fun c => cc ((leN (by omega) (by omega)).mp c)), pl19, if_pos (vpN (by omega) (by omega)), clN (by omega), wp_lt, wp_lt]
      refine fin _ k (by omega) (fm_uR (fm_uR m4 (by simp)) (by simp)) ?_ ?_ (fun i hi => ?_) (fun i hi => ?_) ?_ ?_ ?_ ?_ t3.2.2.1 t3.2.2.2
      · rw [R_uR, if_neg (by omega), R_uR, if_neg (by omega), com 0 (by omega) (by omega), z0]
      · rw [R_uR, if_neg (by omega), R_uR, if_neg (by omega), com 1 (by omega) (by omega), z1]
      · rw [R_uR, if_neg (by omega), R_uR, if_neg (by omega), com _ (by omega) (by omega)]; exact t3.1 i hi
      · rw [R_uR, if_neg (by omega), R_uR, if_neg (by omega), com _ (by omega) (by omega)]; exact t3.2.1 i hi
      · rw [R_uR, if_neg (by omega), R_uR, if_neg (by omega), c2]
      · rw [R_uR, if_neg (by omega), R_uR, if_neg (by omega), c3]
      · rw [R_uR, if_pos ⟨rfl, rfl⟩, R_uR, if_neg (by omega), y4]
        rw [(aPn e3).1]
        exact addN1
      · intro i hi
        rw [R_uR, if_neg (by omega), R_uR]
        rw [(aPn e3).1] at hi
        rw [(aPn e3).2]
        simp only [up]
        by_cases e : i = wSz A
        · rw [if_pos ⟨trivial, by omega⟩, if_pos e]; rfl
        · rw [if_neg (by omega), if_neg e, com _ (by omega) (by omega)]
          exact z19 i (by omega)
