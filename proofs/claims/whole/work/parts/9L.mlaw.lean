/-! who sounds, the model -/
theorem mLawN {S : gS} (h : sR S 193 0 = sR S 192 0) : lawM S (fun fl _ _ _ => fl) := by
  intro S' e1 e2 e3 m we hm
  unfold FX12_isSounding
  rw [e1, e2, if_pos h, show (12 : Int32) + N m = N (12 + m) from addN (a := 12), if_pos (vpN (by omega) (by omega)), clN (by omega)]
  by_cases c : sR S' 216 (12 + m) = 0
  · rw [if_pos c, wp_some]
    exact ⟨⟨fr_rf, rfl, rfl⟩, rfl, rfl, by rw [decide_eq_false (fun q => q c)]⟩
  · rw [if_neg c, wp_some]
    exact ⟨⟨fr_rf, rfl, rfl⟩, rfl, rfl, by rw [decide_eq_true c]⟩
def mO0 (S : gS) : gS := uR (uR (uR (uR (uR S 198 0 0) 200 0 0) 201 0 0) 202 0 20) 204 0 0
theorem mO0_r {S : gS} {r j : Nat} : sR (mO0 S) r j = if r = 204 ∧ j = 0 then 0 else if r = 202 ∧ j = 0 then 20 else if r = 201 ∧ j = 0 then 0 else if r = 200 ∧ j = 0 then 0 else if r = 198 ∧ j = 0 then 0 else sR S r j := by
  unfold mO0
  rw [R_uR, R_uR, R_uR, R_uR, R_uR]
theorem mO0_W {S : gS} : mW 0 S (mO0 S) :=
  mW_R (mW_R (mW_R (mW_R (mW_R mW_rf (by omega) (by omega) (Nat.le_refl _)) (by omega) (by omega) (Nat.le_refl _)) (by omega) (by omega) (Nat.le_refl _)) (by omega) (by omega) (Nat.le_refl _)) (by omega) (by omega) (Nat.le_refl _)
theorem mWorked {S : gS} {cs : List Int32} {v : aVl} (h2 : sR S 192 0 = N 0) (h3 : sR S 193 0 = N cs.length) (hg : sgm (sR S 194) 0 cs) (hM : zM0 0 cs v) (hl : cs.length ≤ 1000) : wp (FX12_worked S 0) (fun r => fr wR S r.1 ∧ r.2 = vS S v) := by
  unfold FX12_worked FX12_opens
  rw [if_pos (show g_vp (0 : Int32) 7 = true by decide), show Int32.toNatClampNeg (0 : Int32) = 0 from rfl]
  rw [wp_b1, wp_lt, wp_lt, wp_lt, wp_lt, wp_lt, wp_some, if_pos (show g_vp (0 : Int32) 2 = true by decide)]
  have w0 : mW 0 S (mO0 S) := mO0_W
  have e0 : sR (mO0 S) 192 0 = N 0 := by rw [mW_o w0 (by omega)]; exact h2
  have key : wk FU 0 0 (mO0 S) (fun r => fr wR S r.1 ∧ r.2 = vS S v) := by
    refine hM (mO0 S) 0 cs.length FU _ (by omega) (Or.inl rfl) ⟨⟨⟨?_, ?_, ?_⟩, ?_⟩, ?_⟩ (by rw [mW_o w0 (by omega)]; exact hg) (by rw [mW_o w0 (by omega)]; exact h3) (by omega) (by omega) (by unfold FU; omega) ?_
    · rw [mO0_r, if_pos ⟨rfl, rfl⟩]
    · rw [mO0_r, if_neg (by omega), if_neg (by omega), if_pos ⟨rfl, rfl⟩]
    · rw [mO0_r, if_neg (by omega), if_pos ⟨rfl, rfl⟩]
    · rw [mO0_r, if_neg (by omega), if_neg (by omega), if_neg (by omega), if_pos ⟨rfl, rfl⟩]
    · rw [mO0_r, if_neg (by omega), if_neg (by omega), if_neg (by omega), if_neg (by omega), if_pos ⟨rfl, rfl⟩]
    · intro S2 k2 w2 _ p2 hk2
      obtain ⟨k2, rfl, hk3⟩ := kS (k := k2) (m := 19) (by omega)
      have w12 := mW_tr w0 w2
      unfold wk
      rw [fX12_worked]
      simp only [if_true, bX12_worked_14]
      rw [if_pos (by decide), show Int32.toNatClampNeg (0 : Int32) = 0 from rfl, mW_o w12 (by omega), h3, if_pos ((leN (by omega) (by omega)).mpr (by omega)), show FX12_tests S2 (0 : Int32) = FX12_tests S2 (N 0) from rfl, mTests (by omega), wp_b1, wp_some, wp_some]
      refine ⟨(mW_tr w12 mTs_W).1, ?_⟩
      dsimp only
      rw [mTs_r, if_neg (by omega), if_neg (by omega), if_neg (by omega), if_pos ⟨rfl, rfl⟩, show kv S2 0 = vS (mO0 S) v from p2, vS_W w0]
  have e192 : sR (uR (uR (uR (uR (uR S 198 0 0) 200 0 0) 201 0 0) 202 0 20) 204 0 0) 192 0 = N 0 := e0
  rw [e192]
  exact key
theorem mLawS {S : gS} {cs : List Int32} {v : aVl} (h2 : sR S 192 0 = N 0) (h3 : sR S 193 0 = N cs.length) (hg : sgm (sR S 194) 0 cs) (hM : zM0 0 cs v) (hl : cs.length ≤ 1000) (h0 : cs.length ≠ 0) : lawM S v := by
  intro S' e1 e2 e3 m we hm
  have n0 : ¬ N cs.length = N 0 := fun h => h0 ((eqN (by omega) (by omega)).mp h)
  unfold FX12_isSounding
  rw [e1, e2, h2, h3, if_neg n0, show (12 : Int32) + N m = N (12 + m) from addN (a := 12), show (5 : Int32) + N m = N (5 + m) from addN (a := 5), if_pos (vpN (by omega) (by omega)), clN (k := 12 + m) (by omega), wp_lt, if_pos (vpN (by omega) (by omega)), clN (k := 5 + m) (by omega), wp_lt, if_pos (vpN (by omega) (by omega)), clN (k := m) (by omega), wp_lt, wp_lt, wp_b2]
  generalize hV : uR (uR (uR (uR S' 206 1 (sR S' 216 (12 + m))) 206 2 (sR (uR S' 206 1 (sR S' 216 (12 + m))) 216 (5 + m))) 206 3 (sR (uR (uR S' 206 1 (sR S' 216 (12 + m))) 206 2 (sR (uR S' 206 1 (sR S' 216 (12 + m))) 216 (5 + m))) 186 m)) 206 4 we = V
  have vR : ∀ b, b ≠ 206 → sR V b = sR S' b := by
    intro b hb
    rw [← hV]
    funext j
    rw [R_uR, if_neg (by omega), R_uR, if_neg (by omega), R_uR, if_neg (by omega), R_uR, if_neg (by omega)]
  have v1 : sR V 206 1 = sR S' 216 (12 + m) := by rw [← hV, R_uR, if_neg (by omega), R_uR, if_neg (by omega), R_uR, if_neg (by omega), R_self]
  have v2 : sR V 206 2 = sR S' 216 (5 + m) := by rw [← hV, R_uR, if_neg (by omega), R_uR, if_neg (by omega), R_self, R_uR, if_neg (by omega)]
  have v3 : sR V 206 3 = sR S' 186 m := by rw [← hV, R_uR, if_neg (by omega), R_self, R_uR, if_neg (by omega), R_uR, if_neg (by omega)]
  have v4 : sR V 206 4 = we := by rw [← hV, R_self]
  have vF : fm lwS S' V := by
    rw [← hV]
    exact fm_uR (fm_uR (fm_uR (fm_uR fm_rf (by simp)) (by simp)) (by simp)) (by simp)
  have vI : ∀ k, sI V 180 k = sI S' 180 k := by intro k; rw [← hV]; rfl
  clear hV
  have g2 : sgm (sR V 194) 0 cs := sgm_eq cs 0 hg (fun j _ h => by rw [vR 194 (by omega), e3 j (by omega)])
  refine wp_mono (mWorked (v := v) (by rw [vR 192 (by omega), e1]; exact h2) (by rw [vR 193 (by omega), e2]; exact h3) g2 hM hl) ?_
  rintro ⟨U, x⟩ ⟨u1, u2⟩
  dsimp only at u1 u2 ⊢
  have ux : x = v (sR S' 216 (12 + m)) (sR S' 216 (5 + m)) (sR S' 186 m) we := by
    rw [u2]; unfold vS; rw [v1, v2, v3, v4]
  have n180 : (180 : Nat) ∉ wR := by decide
  have hU : fm lwS S' U := by
    refine ⟨fr_tr vF.1 (fr_mo u1 (by intro b hb; simp only [List.mem_cons, List.not_mem_nil, or_false] at hb ⊢; omega)), ?_, ?_⟩
    · rw [frI u1 n180]; exact vI 1
    · rw [frI u1 n180]; exact vI 53
  have i55 : sI U 180 55 = sI S' 180 55 := by rw [frI u1 n180]; exact vI 55
  have i56 : sI U 180 56 = sI S' 180 56 := by rw [frI u1 n180]; exact vI 56
  by_cases c : x = 0
  · rw [if_pos c, wp_some]
    exact ⟨hU, i55, i56, by rw [← ux, decide_eq_false (fun h => h c)]⟩
  · rw [if_neg c, wp_some]
    exact ⟨hU, i55, i56, by rw [← ux, decide_eq_true c]⟩
