/-! the parts of an E, the model's codes -/
theorem zM4_of {d : Nat} {a : List Int32} {v : aVl} (h0 : 0 < a.length) (h : MPt d a v) : zM4 d a v := by
  intro S i e k Q hd hn _ hg he hi he2 hk hc
  refine h S i e k Q hd hg he hi he2 hk ?_
  intro S1 k1 w hk1
  obtain ⟨k1, rfl, hk2⟩ := kS (k := k1) (m := 20 * (e - (i + a.length)) + 20 + d + 1) (by omega)
  obtain ⟨k1, rfl, hk3⟩ := kS (k := k1) (m := 20 * (e - (i + a.length)) + 20 + d) (by omega)
  have e5 : sR S1 205 d = sR S 205 d := w.2 205 d (by omega)
  have e4 : sR S1 204 d = sR S 204 d := w.2 204 d (by omega)
  have e3 : sR S1 203 d = sR S 203 d := w.2 203 d (by omega)
  have w2 := mW_mo (d := d) (by omega) w
  have g : ∀ x : Int32, sR (uR S1 203 d x) 205 d = sR S 205 d ∧ sR (uR S1 203 d x) 197 d = sR S 197 d ∧ sR (uR S1 203 d x) 198 d = sR S 198 d ∧ sR (uR S1 203 d x) 199 d = sR S 199 d ∧ sR (uR S1 203 d x) 200 d = sR S 200 d ∧ sR (uR S1 203 d x) 201 d = sR S 201 d ∧ sR (uR S1 203 d x) 202 d = sR S 202 d ∧ sR (uR S1 203 d x) 204 d = sR S 204 d := by
    intro x
    refine ⟨?_, ?_, ?_, ?_, ?_, ?_, ?_, ?_⟩
    all_goals (rw [R_uR, if_neg (by omega)]; exact w.2 _ d (by omega))
  have f300 : wp (fX12_worked (k1 + 1) 300 S1 0 (N d) (N (i + a.length - 1)) 0 (vS S v)) Q := by
    rw [fX12_worked]
    simp only [if_true]
    rw [if_neg (by decide), if_neg (by decide), if_neg (by decide), if_neg (by decide), if_neg (by decide), if_neg (by decide), if_neg (by decide)]
    simp only [bX12_worked_300]
    rw [if_pos (vpN (by omega) (by omega)), clN (by omega), e4, e3, addN1, show i + a.length - 1 + 1 = i + a.length by omega]
    by_cases c : sR S 204 d = 0
    · rw [if_pos c, wp_lt]
      obtain ⟨g5, gg⟩ := g (vS S v)
      exact hc _ k1 (mW_R w2 (by omega) (by omega) (Nat.le_refl _)) g5 ⟨by rw [R_self, if_pos c], gg⟩ (by omega)
    · rw [if_neg c, wp_lt]
      obtain ⟨g5, gg⟩ := g (sR S 203 d * vS S v)
      exact hc _ k1 (mW_R w2 (by omega) (by omega) (Nat.le_refl _)) g5 ⟨by rw [R_self, if_neg c], gg⟩ (by omega)
  rw [fX12_worked]
  simp only [if_true]
  rw [if_neg (by decide), if_neg (by decide), if_neg (by decide), if_neg (by decide), if_neg (by decide), if_neg (by decide)]
  simp only [bX12_worked_268]
  by_cases d0 : d = 0
  · rw [if_pos ((le0N (by omega)).mpr d0)]; exact f300
  · rw [if_neg (fun q => d0 ((le0N (by omega)).mp q)), if_pos (vpN (by omega) (by omega)), clN (by omega), e5, if_neg (hn.resolve_left d0)]
    exact f300
theorem wk245 {k d i : Nat} {S : gS} {c x : Int32} {Q : gS × Int32 → Prop} (hc : ¬ c = 29) (h : wp (fX12_worked k 268 S 0 (N d) (N i) 0 x) Q) : wp (fX12_worked (k + 1) 245 S 0 (N d) (N i) c x) Q := by
  rw [fX12_worked]
  simp only [if_true]
  rw [if_neg (by decide), if_neg (by decide), if_neg (by decide), if_neg (by decide), if_neg (by decide)]
  simp only [bX12_worked_245]
  rw [if_neg hc]
  exact h
theorem mLeafN {d n : Nat} (hn : n < 10000) : MPt d [N (100 + n)] (fun _ _ _ _ => N n) := by
  intro S i e k Q hd hg he hi he2 hk hc
  rw [show ([N (100 + n)] : List Int32).length = 1 from rfl] at hi hc
  obtain ⟨k, rfl, hk'⟩ := kS (k := k) (m := 20 * (e - i) + 19) (by omega)
  obtain ⟨k, rfl, hk2⟩ := kS (k := k) (m := 20 * (e - i) + 18) (by omega)
  have ne : ∀ j, j < 100 → ¬ N (100 + n) = N j := fun j hj h => by have := (eqN (by omega) (by omega)).mp h; omega
  refine wk_c hg.1 he (by omega) he2 ?_
  rw [if_neg (show ¬ N (100 + n) = (28 : Int32) from ne 28 (by omega)), if_neg (show ¬ N (100 + n) = (30 : Int32) from ne 30 (by omega)), if_neg (show ¬ N (100 + n) = (20 : Int32) from ne 20 (by omega)), if_neg (show ¬ N (100 + n) = (21 : Int32) from ne 21 (by omega)), if_neg (show ¬ N (100 + n) = (22 : Int32) from ne 22 (by omega)), if_neg (show ¬ N (100 + n) = (24 : Int32) from ne 24 (by omega)), if_neg (show ¬ N (100 + n) = (25 : Int32) from ne 25 (by omega)), if_neg (show ¬ N (100 + n) = (26 : Int32) from ne 26 (by omega)), if_neg (show ¬ N (100 + n) = (27 : Int32) from ne 27 (by omega)), if_neg (show ¬ N (100 + n) < (100 : Int32) from fun h => by have := (ltN (b := 100) (by omega) (by omega)).mp h; omega), show N (100 + n) - (100 : Int32) = N n from by rw [show (100 : Int32) = N 100 from rfl, subN (by omega)]; congr 1; omega]
  refine wk245 (show ¬ N (100 + n) = (29 : Int32) from ne 29 (by omega)) ?_
  exact hc S k mW_rf (by omega)
theorem mLeafF {d j : Nat} {v : aVl} (h1 : 1 ≤ j) (h4 : j ≤ 4) (hv : ∀ S, sR S 206 j = vS S v) : MPt d [N j] v := by
  intro S i e k Q hd hg he hi he2 hk hc
  rw [show ([N j] : List Int32).length = 1 from rfl] at hi hc
  obtain ⟨k, rfl, hk'⟩ := kS (k := k) (m := 20 * (e - i) + 19) (by omega)
  obtain ⟨k, rfl, hk2⟩ := kS (k := k) (m := 20 * (e - i) + 18) (by omega)
  have ne : ∀ m, m < 100 → 5 ≤ m → ¬ N j = N m := fun m hm h5 h => by have := (eqN (by omega) (by omega)).mp h; omega
  refine wk_c hg.1 he (by omega) he2 ?_
  rw [if_neg (show ¬ N j = (28 : Int32) from ne 28 (by omega) (by omega)), if_neg (show ¬ N j = (30 : Int32) from ne 30 (by omega) (by omega)), if_neg (show ¬ N j = (20 : Int32) from ne 20 (by omega) (by omega)), if_neg (show ¬ N j = (21 : Int32) from ne 21 (by omega) (by omega)), if_neg (show ¬ N j = (22 : Int32) from ne 22 (by omega) (by omega)), if_neg (show ¬ N j = (24 : Int32) from ne 24 (by omega) (by omega)), if_neg (show ¬ N j = (25 : Int32) from ne 25 (by omega) (by omega)), if_neg (show ¬ N j = (26 : Int32) from ne 26 (by omega) (by omega)), if_neg (show ¬ N j = (27 : Int32) from ne 27 (by omega) (by omega)), if_pos (show N j < (100 : Int32) from (ltN (b := 100) (by omega) (by omega)).mpr (by omega)), if_neg (show ¬ (20 : Int32) ≤ N j from fun h => by have := (leN (a := 20) (by omega) (by omega)).mp h; omega), if_pos (vpN (by omega) (by omega)), clN (by omega), hv S]
  refine wk245 (show ¬ N j = (29 : Int32) from ne 29 (by omega) (by omega)) ?_
  exact hc S k mW_rf (by omega)
/-- a level more -/
def mOp (S : gS) (d : Nat) (x : Int32) : gS := uR (uR (uR (uR (uR (uR S 205 d x) 198 d 0) 200 d 0) 201 d 0) 202 d 20) 204 d 0
theorem mOp_r {S : gS} {d r j : Nat} {x : Int32} : sR (mOp S d x) r j = if r = 204 ∧ j = d then 0 else if r = 202 ∧ j = d then 20 else if r = 201 ∧ j = d then 0 else if r = 200 ∧ j = d then 0 else if r = 198 ∧ j = d then 0 else if r = 205 ∧ j = d then x else sR S r j := by
  unfold mOp
  rw [R_uR, R_uR, R_uR, R_uR, R_uR, R_uR]
theorem mOp_W {S : gS} {d : Nat} {x : Int32} : mW d S (mOp S d x) :=
  mW_R (mW_R (mW_R (mW_R (mW_R (mW_R mW_rf (by omega) (by omega) (Nat.le_refl _)) (by omega) (by omega) (Nat.le_refl _)) (by omega) (by omega) (Nat.le_refl _)) (by omega) (by omega) (Nat.le_refl _)) (by omega) (by omega) (Nat.le_refl _)) (by omega) (by omega) (Nat.le_refl _)
theorem mOpens {S : gS} {d : Nat} {x : Int32} (hd : d < 7) : FX12_opens (uR S 205 d x) (N d) = some (mOp S d x) := by
  unfold FX12_opens mOp
  rw [if_pos (vpN hd (by omega)), clN (by omega)]
  rfl
theorem wk46 {k d i : Nat} {S : gS} {c : Int32} {Q : gS × Int32 → Prop} (hd : d ≤ 5) (h : wk k (d + 1) (i + 1) (mOp S (d + 1) (if c = 30 then 1 else 0)) Q) : wp (fX12_worked (k + 1) 46 S 0 (N d) (N i) c 0) Q := by
  unfold wk at h
  rw [fX12_worked]
  simp only [if_true]
  rw [if_neg (by decide)]
  simp only [bX12_worked_46]
  rw [addN1, addN1]
  by_cases e : c = 30
  · rw [if_pos e] at h
    rw [if_pos e, if_pos (vpN (by omega) (by omega)), clN (by omega), wp_lt, mOpens (by omega), wp_b1, wp_some]
    exact h
  · rw [if_neg e] at h
    rw [if_neg e, if_pos (vpN (by omega) (by omega)), clN (by omega), wp_lt, mOpens (by omega), wp_b1, wp_some]
    exact h
theorem mParen {d : Nat} {a : List Int32} {v : aVl} (h : zM0 (d + 1) a v) (hd4 : d ≤ 4) : MPt d (28 :: (a ++ [29])) v := by
  intro S i e k Q hd hg he hi he2 hk hc
  have el : (28 :: (a ++ [29]) : List Int32).length = a.length + 2 := by simp
  rw [el] at hi hc
  obtain ⟨k, rfl, hk'⟩ := kS (k := k) (m := 20 * (e - i) + 19) (by omega)
  obtain ⟨k, rfl, hk2⟩ := kS (k := k) (m := 20 * (e - i) + 18) (by omega)
  obtain ⟨g1, g2⟩ := hg
  obtain ⟨g3, g4, -⟩ := (sgm_app a [29] (i + 1)).mp g2
  refine wk_c g1 he (by omega) he2 ?_
  rw [if_pos rfl]
  refine wk46 hd ?_
  rw [if_neg (by decide)]
  have w1 : mW (d + 1) S (mOp S (d + 1) 0) := mOp_W
  refine h (mOp S (d + 1) 0) (i + 1) e k Q (by omega) (Or.inr ?_) ⟨⟨⟨?_, ?_, ?_⟩, ?_⟩, ?_⟩ (by rw [mW_o w1 (by omega)]; exact g3) (by rw [mW_o w1 (by omega)]; exact he) (by omega) he2 (by omega) ?_
  · rw [mOp_r, if_neg (by omega), if_neg (by omega), if_neg (by omega), if_neg (by omega), if_neg (by omega), if_pos ⟨rfl, rfl⟩]; decide
  · rw [mOp_r, if_pos ⟨rfl, rfl⟩]
  · rw [mOp_r, if_neg (by omega), if_neg (by omega), if_pos ⟨rfl, rfl⟩]
  · rw [mOp_r, if_neg (by omega), if_pos ⟨rfl, rfl⟩]
  · rw [mOp_r, if_neg (by omega), if_neg (by omega), if_neg (by omega), if_pos ⟨rfl, rfl⟩]
  · rw [mOp_r, if_neg (by omega), if_neg (by omega), if_neg (by omega), if_neg (by omega), if_pos ⟨rfl, rfl⟩]
  · intro S2 k2 w2 w25 p2 hk2'
    have w12 := mW_tr w1 w2
    obtain ⟨k2, rfl, hk3⟩ := kS (k := k2) (m := 20 * (e - (i + 1 + a.length)) + 19) (by omega)
    obtain ⟨k2, rfl, hk4⟩ := kS (k := k2) (m := 20 * (e - (i + 1 + a.length)) + 18) (by omega)
    refine wk_c (c := 29) (by rw [mW_o w12 (by omega)]; exact g4) (by rw [mW_o w12 (by omega)]; exact he) (by omega) he2 ?_
    rw [if_neg (by decide), if_neg (by decide), if_neg (by decide), if_neg (by decide), if_neg (by decide), if_neg (by decide), if_neg (by decide), if_neg (by decide), if_neg (by decide), if_pos (by decide), if_pos (by decide), fX12_worked]
    simp only [if_true]
    rw [if_neg (by decide), if_neg (by decide), if_neg (by decide), if_neg (by decide), if_neg (by decide)]
    simp only [bX12_worked_245]
    rw [if_pos trivial, mTests (by omega), wp_b1, wp_some, if_pos (vpN (by omega) (by omega)), clN (by omega), mTs_r, if_neg (by omega), if_neg (by omega), if_neg (by omega), if_pos ⟨rfl, rfl⟩, show kv S2 (d + 1) = vS S v from by rw [← vS_W w1]; exact p2, show N (d + 1) + (-1) = N d from (dec7 d (by omega)).1]
    have := hc (mTs S2 (d + 1)) k2 (mW_tr w12 mTs_W) (by omega)
    rw [show i + (a.length + 2) - 1 = i + 1 + a.length by omega] at this
    exact this
theorem mNot {d : Nat} {a : List Int32} {v : aVl} (h0 : 0 < a.length) (h : MPt (d + 1) a v) (hd4 : d ≤ 4) : MPt d (30 :: a) (fun p q r s => if v p q r s = 0 then 1 else 0) := by
  intro S i e k Q hd hg he hi he2 hk hc
  rw [List.length_cons] at hi hc
  obtain ⟨k, rfl, hk'⟩ := kS (k := k) (m := 20 * (e - i) + 19) (by omega)
  obtain ⟨k, rfl, hk2⟩ := kS (k := k) (m := 20 * (e - i) + 18) (by omega)
  obtain ⟨g1, g2⟩ := hg
  refine wk_c g1 he (by omega) he2 ?_
  rw [if_neg (by decide), if_pos rfl]
  refine wk46 hd ?_
  rw [if_pos rfl]
  have w1 : mW (d + 1) S (mOp S (d + 1) 1) := mOp_W
  refine h (mOp S (d + 1) 1) (i + 1) e k Q (by omega) (by rw [mW_o w1 (by omega)]; exact g2) (by rw [mW_o w1 (by omega)]; exact he) (by omega) he2 (by omega) ?_
  intro S2 k2 w2 hk2'
  obtain ⟨k2, rfl, hk3⟩ := kS (k := k2) (m := 20 * (e - (i + 1 + a.length)) + 20 + d + 2) (by omega)
  have w12 := mW_tr w1 (mW_mo (d := d + 1) (by omega) w2)
  have e5 : sR S2 205 (d + 1) = 1 := by
    rw [w2.2 205 (d + 1) (by omega), mOp_r, if_neg (by omega), if_neg (by omega), if_neg (by omega), if_neg (by omega), if_neg (by omega), if_pos ⟨rfl, rfl⟩]
  rw [fX12_worked]
  simp only [if_true]
  rw [if_neg (by decide), if_neg (by decide), if_neg (by decide), if_neg (by decide), if_neg (by decide), if_neg (by decide)]
  simp only [bX12_worked_268]
  rw [if_neg (fun q => absurd ((le0N (by omega)).mp q) (by omega)), if_pos (vpN (by omega) (by omega)), clN (by omega), e5, if_pos rfl, vS_W w1, show N (d + 1) + (-1) = N d from (dec7 d (by omega)).1]
  have := hc S2 k2 w12 (by omega)
  rw [show i + (a.length + 1) - 1 = i + 1 + a.length - 1 by omega] at this
  have ev : vS S (fun p q r s => if v p q r s = 0 then (1 : Int32) else 0) = if vS S v = 0 then 1 else 0 := rfl
  rw [ev] at this
  by_cases c : vS S v = 0
  · rw [if_pos c] at this ⊢; exact this
  · rw [if_neg c] at this ⊢; exact this
