/-! word -/
theorem xWord {S : gS} {T : aTp} {f a2 L : Nat} {ns : Nat → List Nat} (hT : okT T) (hr : rwX S T) (hf : f = 6 ∨ f = 20) (ha : a2 = 42 ∨ a2 = 44) (hL : L ≤ 6) (hk : ∀ i, i < L → okN (ns i)) (h8 : sI S f 8 = N L) (hn : ∀ i, i < L → sL S (f + 8) i = LN (e32 (ns i))) : wp (FX5_readWord S f a2) (fun r => fr [1, a2, a2 + 1] S r.1 ∧ sI r.1 1 1 = 0 ∧ r.2 = N (aWd T ns L 8 0 (fun _ => 0) (skB T 0)).1 ∧ ((aWd T ns L 8 0 (fun _ => 0) (skB T 0)).1 = 0 → oX r.1 a2 (aWd T ns L 8 0 (fun _ => 0) (skB T 0)).2)) := by
  unfold FX5_readWord FX8_open
  simp only [g_lt]
  rw [wp_b1, wp_b1]
  refine wp_mono (xAdvance (S := uI (uI (uI S a2 0 0) 1 4 0) 1 7 0) (T := T) (p := 0) hT (by omega) ⟨by rw [I_uI, if_neg (by omega), I_uI, if_neg (by omega), I_uI, if_neg (by omega)]; exact hr.1, hr.2⟩ (by rw [I_uI, if_neg (by omega), I_uI, if_pos ⟨rfl, rfl⟩]; rfl)) ?_
  rintro U ⟨⟨u1, u2, -⟩, u3⟩
  rw [wp_some]
  have na : ∀ b, b ≠ 1 → b ∉ [1] := by intro b hb; simp only [List.mem_cons, List.not_mem_nil, or_false]; omega
  have hS : fr [1, a2, a2 + 1] S U := fr_tr (fr_uI (fr_uI (fr_uI fr_rf (by simp)) (by simp)) (by simp)) (fr_mo u1 (by intro b hb; simp only [List.mem_cons, List.not_mem_nil, or_false] at hb ⊢; omega))
  refine xWdL hT hf ha hL hk h8 hn 8 0 (fun _ => 0) (skB T 0) FU U (by omega) (by omega) (skB_le (by omega)) (by unfold FU; omega) hS u3 ?_ ?_ (fun i hi => by omega)
  · rw [u2, I_uI, if_pos ⟨rfl, rfl⟩]
  · rw [frI u1 (na a2 (by omega)), I_uI, if_neg (by omega), I_uI, if_neg (by omega), I_uI, if_pos ⟨rfl, rfl⟩]; rfl
theorem mWord1 {S : gS} {T : aTp} {L : Nat} {ns : Nat → List Nat} (hT : okT T) (h1 : sI S 180 1 = N T.1) (h2 : ∀ i, i < T.1 → sR S 181 i = N (T.2 i)) (hL : L ≤ 6) (hk : ∀ i, i < L → okN (ns i)) (h8 : sR S 182 1 = N L) (hn : ∀ i, i < L → sL S 184 i = LN (e27 (ns i))) (hR : (aWd T ns L 8 0 (fun _ => 0) (skB T 0)).2.1 ≤ 7) : wp (FX12_word S) (fun r => fr [180, 211, 212] S r.1 ∧ sI r.1 180 53 = sI S 180 53 ∧ sI r.1 180 1 = N 0 ∧ r.2 = N (aWd T ns L 8 0 (fun _ => 0) (skB T 0)).1 ∧ ((aWd T ns L 8 0 (fun _ => 0) (skB T 0)).1 = 0 → oM r.1 0 (aWd T ns L 8 0 (fun _ => 0) (skB T 0)).2) ∧ (¬ (aWd T ns L 8 0 (fun _ => 0) (skB T 0)).1 = 0 → ∀ A, A.1 ≤ 7 → oM S 0 A → oM r.1 0 A) ∧ ∀ j A, j < 4 → A.1 ≤ 7 → oM S (1 + j) A → oM r.1 (1 + j) A) := by
  generalize hgR : aWd T ns L 8 0 (fun _ => 0) (skB T 0) = R at hR ⊢
  unfold FX12_word FX12_begins
  simp only [g_lt]
  rw [wp_b1, wp_b1]
  generalize hV : uI (uI (uI (uR (uI S 180 0 0) 211 5 0) 180 3 (sI (uR (uI S 180 0 0) 211 5 0) 180 1)) 180 1 0) 180 4 0 = V
  have v3 : sI V 180 3 = N T.1 := by rw [← hV, I_uI, if_neg (by omega), I_uI, if_neg (by omega), I_uI, if_pos ⟨rfl, rfl⟩]; exact h1
  have v4 : sI V 180 4 = N 0 := by rw [← hV, I_uI, if_pos ⟨rfl, rfl⟩]; rfl
  have v1 : sI V 180 1 = N 0 := by rw [← hV, I_uI, if_neg (by omega), I_uI, if_pos ⟨rfl, rfl⟩]; rfl
  have v53 : sI V 180 53 = sI S 180 53 := by rw [← hV, I_uI, if_neg (by omega), I_uI, if_neg (by omega), I_uI, if_neg (by omega), show sI (uR (uI S 180 0 0) 211 5 0) = sI (uI S 180 0 0) from rfl, I_uI, if_neg (by omega)]
  have vR : ∀ b i, ¬ (b = 211 ∧ i = 5) → sR V b i = sR S b i := by
    intro b i hb
    rw [← hV]
    show sR (uR (uI S 180 0 0) 211 5 0) b i = _
    rw [R_uR, if_neg hb]; rfl
  have v5 : sR V 211 5 = N 0 := by
    rw [← hV]
    show sR (uR (uI S 180 0 0) 211 5 0) 211 5 = _
    rw [R_uR, if_pos ⟨rfl, rfl⟩]; rfl
  have vF : fr [180, 211, 212] S V := by
    rw [← hV]
    exact fr_uI (fr_uI (fr_uI (fr_uR (fr_uI fr_rf (by simp)) (by simp)) (by simp)) (by simp)) (by simp)
  have vL : ∀ i, sL V 184 i = sL S 184 i := by intro i; rw [← hV]; rfl
  clear hV
  refine wp_mono (mNext (S := V) (T := T) (p := 0) hT (by omega) ⟨v3, fun i hi => by rw [vR _ _ (by omega)]; exact h2 i hi⟩ v4) ?_
  rintro U ⟨u1, u2⟩
  rw [wp_some, wp_b2]
  have n1 : ∀ b, b ≠ 180 → b ∉ [180] := by intro b hb; simp only [List.mem_cons, List.not_mem_nil, or_false]; omega
  unfold FX12_readsWord
  have g := mWdL (S0 := V) (ns := ns) hT hL hk (by rw [vR _ _ (by omega)]; exact h8) (fun i hi => by rw [vL]; exact hn i hi) 8 0 (fun _ => 0) (skB T 0) FU U (by omega) (by omega) (skB_le (by omega)) (by unfold FU; omega) (wM_t ⟨fr_rf, fun _ _ => rfl, fun _ _ => rfl, fun _ _ => rfl⟩ u1) u2 (by rw [frR u1.1 (n1 211 (by omega))]; exact v5) (fun i hi => by omega)
  rw [hgR] at g
  refine wp_mono g ?_
  rintro ⟨Y, b⟩ ⟨⟨y1, y2, y3, y4⟩, yt, yf⟩
  dsimp only at y1 y2 y3 y4 yt yf ⊢
  have oo : ∀ j A, j < 5 → A.1 ≤ 7 → oM S j A → oM Y j A := by
    rintro j A hj hA ⟨a1, a2⟩
    refine ⟨?_, fun i hi => ?_⟩
    · rw [y3 j (by omega), vR _ _ (by omega)]; exact a1
    · rw [y4 _ (by omega), vR _ _ (by omega)]; exact a2 i hi
  by_cases c : R.1 = 0
  · obtain ⟨t1, t2, t3⟩ := yt c
    rw [t1, if_pos rfl, wp_b1]
    refine wp_mono (mWord (S := Y) (a := 5) (b := 0) (by omega) (by omega) (by omega)) ?_
    rintro Z ⟨z1, z2, z3⟩
    rw [wp_some]
    dsimp only
    refine ⟨fr_tr (fr_tr vF y1) z1.1, z1.2.2.trans ((y2 53 (by omega)).trans v53), z1.2.1.trans ((y2 1 (by omega)).trans v1), by rw [c]; rfl, fun _ => z2 R.2 ⟨t2, t3⟩ hR, fun h => absurd c h, fun j A hj hA h => z3 (1 + j) A (by omega) (by omega) hA (oo _ A (by omega) hA h)⟩
  · obtain ⟨t1, t2⟩ := yf c
    rw [t1, if_neg Bool.false_ne_true, wp_some]
    exact ⟨fr_tr vF y1, (y2 53 (by omega)).trans v53, (y2 1 (by omega)).trans v1, t2, fun h => absurd h c, fun _ A hA h => oo 0 A (by omega) hA h, fun j A hj hA h => oo _ A (by omega) hA h⟩
