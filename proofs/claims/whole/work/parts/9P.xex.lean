/-! x reads an E: parts and levels -/
def mzL (lev d : Nat) : Nat := (5 - d) * 6 + 2 + (4 - lev)
def mzP (d : Nat) : Nat := (5 - d) * 6 + 1
theorem xEp_f {S0 S : gS} {T : aTp} {a n c q n' : Nat} (hc : ¬ c = 0) (h1 : fr (lE a) S0 S) (h7 : sI S 1 7 = N c) (hq : q ≤ T.1) (ht : tkX S T (tokAt T q)) (hn : n' ≤ 1000) (hs : sI S a 1 = N n') : xEp S0 T a n (fE0 c) (S, false) :=
  ⟨fun h => absurd h hc, fun _ => ⟨rfl, h1, h7, ⟨q, hq, ht⟩, n', hn, hs⟩⟩
theorem tkX_7 {S : gS} {T : aTp} {k : aTk} {x : Int32} (h : tkX S T k) : tkX (uI S 1 7 x) T k := by
  obtain ⟨h1, h2, h3, h4, h5, h6, h7⟩ := h
  refine ⟨?_, h2, ?_, ?_, ?_, h6, fun e => ?_⟩
  · rw [I_uI, if_neg (by omega)]; exact h1
  · rw [I_uI, if_neg (by omega)]; exact h3
  · rw [I_uI, if_neg (by omega)]; exact h4
  · rw [I_uI, if_neg (by omega)]; exact h5
  · rw [I_uI, if_neg (by omega)]; exact h7 e
/-- the fault of a token at hand, in an E -/
theorem xEfl {S : gS} {T : aTp} {a n c q : Nat} (hc : ¬ c = 0) (hq : q ≤ T.1) (hk : tkX S T (tokAt T q)) (h7 : sI S 1 7 = 0) (hn : n ≤ 1000) (ha : a = 17 ∨ a = 31) (hs : sI S a 1 = N n) {m : Nat} : wp (g_b2 (FX8_fail S (N c)) (fun S1 b => some (S1, b))) (xEp S T a m (fE0 (c + 16 * q))) := by
  have h3 : sI S 1 3 = N q := by rw [hk.2.2.2.1, (tokAt_e hq).1]
  rw [xFail h7 h3, wp_b2, wp_some, wp_some]
  exact xEp_f (by omega) (fr_uI fr_rf (by simp)) I_self hq (tkX_7 hk) hn (by rw [I_uI, if_neg (by omega)]; exact hs)
theorem xEp_fr {S0 S1 : gS} {T : aTp} {a n : Nat} {R : aRe} {r : gS × Bool} (h1 : fr (lE a) S0 S1) (h2 : ∀ i, i < n → sR S1 (a + 1) i = sR S0 (a + 1) i) (h : xEp S1 T a n R r) : xEp S0 T a n R r := by
  refine ⟨fun e => ?_, fun e => ?_⟩
  · obtain ⟨a1, b1, b2, b3⟩ := h.1 e
    exact ⟨a1, fr_tr h1 b1, fun i hi => (b2 i hi).trans (h2 i hi), b3⟩
  · obtain ⟨a1, a2, a3⟩ := h.2 e
    exact ⟨a1, fr_tr h1 a2, a3⟩
theorem f4_0 {k : Nat} {S : gS} {a : Nat} {x y : Int32} : f4 (k + 1) 0 S a x y = FX4_readLevel_r (f4 k) S a x y := by
  rw [f4]; exact if_pos rfl
theorem f4_1 {k : Nat} {S : gS} {a : Nat} {x y : Int32} : f4 (k + 1) 1 S a x y = FX4_readPart_r (f4 k) S a x := by
  rw [f4]; exact if_neg (by decide)
/-- what a part asks of those below -/
def xRcL (T : aTp) (a k : Nat) (lev d : Nat) : Prop := ∀ S q n, q ≤ T.1 → tkX S T (tokAt T q) → sI S 1 7 = 0 → sI S a 1 = N n → n ≤ q → wp (f4 k 0 S a (N lev) (N d)) (xEp S T a n (aEx T k 0 lev d q))
def xRcP (T : aTp) (a k : Nat) (d : Nat) : Prop := ∀ S q n, q ≤ T.1 → tkX S T (tokAt T q) → sI S 1 7 = 0 → sI S a 1 = N n → n ≤ q → wp (f4 k 1 S a (N d) 0) (xEp S T a n (aEx T k 1 0 d q))
theorem xPartN {T : aTp} {a k k2 d q n : Nat} {S0 S : gS} {x : Int32} (hT : okT T) (ha : a = 17 ∨ a = 31) (hP : xRcP T a k (d + 1)) (hq : q ≤ T.1) (h38 : tkW (tokAt T q) 38 = true) (hnq : n ≤ q) (hk2 : 1 ≤ k2) (hS : fr (lE a) S0 S) (hr : ∀ i, i < n → sR S (a + 1) i = sR S0 (a + 1) i) (htk : tkX S T (tokAt T q)) (h7 : sI S 1 7 = 0) (hs : sI S a 1 = N n) : wp (fX4_readPart (f4 k) k2 103 S a (N d) 0 1 x) (xEp S0 T a n (aNo (aEx T k 1 0 (d + 1) (nx T q)))) := by
  have h1000 := hT.1
  obtain ⟨k2, rfl, -⟩ := kS (m := 0) (k := k2) hk2
  have hkk : ¬ (tokAt T q).1 = 0 := by have := tkW_k h38; omega
  have hn := nx_lt hq hkk
  have hn2 := nx_le hq
  have na : ∀ b, b ≠ 1 → b ∉ [1] := by intro b hb; simp only [List.mem_cons, List.not_mem_nil, or_false]; omega
  rw [fX4_readPart]
  simp only [if_true]
  rw [if_neg (by decide)]
  simp only [bX4_readPart_103]
  rw [wp_b1]
  refine wp_mono (xAdvT hT hq htk) ?_
  rintro U ⟨u1, u2⟩
  rw [if_neg (show ¬ (1 : Int32) = 0 by decide), show N d + (1 : Int32) = N (d + 1) from addN1, wp_b2]
  have uF : fr (lE a) S0 U := fr_tr hS (fr_mo u1.1 (by intro b hb; simp only [List.mem_cons, List.not_mem_nil, or_false] at hb ⊢; omega))
  have uR' : sR U (a + 1) = sR S (a + 1) := frR u1.1 (na (a + 1) (by omega))
  refine wp_mono (hP U (nx T q) n hn2 u2 (u1.2.1.trans h7) ((frI u1.1 (na a (by omega)) 1).trans hs) (by omega)) ?_
  rintro ⟨V, b⟩ ⟨vt, vf⟩
  dsimp only at vt vf ⊢
  rw [wp_b1]
  unfold aNo
  have b1 := (aEx_ok hT k).2 4 (d + 1) (nx T q) hn2 (by omega)
  by_cases cb : (aEx T k 1 0 (d + 1) (nx T q)).1 = 0
  · rw [if_neg (fun h => h cb)]
    obtain ⟨c1, c2, c3, c4, c5, c6, c7⟩ := b1.2 cb
    obtain ⟨hb, v1, v2, v3, v4, v5, v6⟩ := vt cb
    refine wp_mono (xAddC (c := (-5 : Int32)) (by omega) v5) ?_
    rintro W ⟨w1, w2, w3, w4, w5, w6⟩
    obtain ⟨w7, w8⟩ := w6 (by omega)
    rw [wp_some]
    refine ⟨fun _ => ⟨hb, fr_tr (fr_tr uF v1) (fr_mo w1 (by intro b hb; simp only [List.mem_cons, List.not_mem_nil, or_false] at hb ⊢; omega)), fun i hi => ?_, tkX_add ha v3 w1 w2 w3, (w2 1 (by omega) 7).trans v4, ?_, ?_⟩, fun h => absurd rfl h⟩
    · dsimp only; rw [w4 i (by omega), v2 i hi, uR', hr i hi]
    · dsimp only; rw [w7, List.length_append, List.length_cons, List.length_nil]; congr 1
    · dsimp only
      rw [sgm_app]
      exact ⟨sgm_eq _ _ v6 (fun j h1 h2 => w4 j (by omega)), w8, trivial⟩
  · rw [if_pos cb]
    obtain ⟨hb, v1, v2, ⟨q2, hq2, v3⟩, n', hn', v5⟩ := vf cb
    refine wp_mono (xAddC (c := (-5 : Int32)) hn' v5) ?_
    rintro W ⟨w1, w2, w3, w4, w5, -⟩
    obtain ⟨n2, hn2', w5⟩ := w5
    rw [wp_some, hb]
    exact xEp_f cb (fr_tr (fr_tr uF v1) (fr_mo w1 (by intro b hb; simp only [List.mem_cons, List.not_mem_nil, or_false] at hb ⊢; omega))) ((w2 1 (by omega) 7).trans v2) hq2 (tkX_add ha v3 w1 w2 w3) hn2' w5
theorem xPartO {T : aTp} {a k k2 d q n : Nat} {S0 S : gS} (hT : okT T) (ha : a = 17 ∨ a = 31) (hL : xRcL T a k 0 (d + 1)) (hq : q ≤ T.1) (h40 : isS T q 40 = true) (hnq : n ≤ q) (hk2 : 1 ≤ k2) (hS : fr (lE a) S0 S) (hr : ∀ i, i < n → sR S (a + 1) i = sR S0 (a + 1) i) (htk : tkX S T (tokAt T q)) (h7 : sI S 1 7 = 0) (hs : sI S a 1 = N n) : wp (fX4_readPart (f4 k) k2 103 S a (N d) 0 0 1) (xEp S0 T a n (aPa T (aEx T k 0 0 (d + 1) (nx T q)))) := by
  have h1000 := hT.1
  obtain ⟨k2, rfl, -⟩ := kS (m := 0) (k := k2) hk2
  have hkk : ¬ (tokAt T q).1 = 0 := by have := (isS_k h40).1; omega
  have hn := nx_lt hq hkk
  have hn2 := nx_le hq
  have na : ∀ b, b ≠ 1 → b ∉ [1] := by intro b hb; simp only [List.mem_cons, List.not_mem_nil, or_false]; omega
  rw [fX4_readPart]
  simp only [if_true]
  rw [if_neg (by decide)]
  simp only [bX4_readPart_103]
  rw [wp_b1]
  refine wp_mono (xAdvT hT hq htk) ?_
  rintro U ⟨u1, u2⟩
  rw [if_pos trivial, if_neg (show ¬ (1 : Int32) = 0 by decide), show N d + (1 : Int32) = N (d + 1) from addN1, wp_b2]
  have uF : fr (lE a) S0 U := fr_tr hS (fr_mo u1.1 (by intro b hb; simp only [List.mem_cons, List.not_mem_nil, or_false] at hb ⊢; omega))
  have uR' : sR U (a + 1) = sR S (a + 1) := frR u1.1 (na (a + 1) (by omega))
  refine wp_mono (hL U (nx T q) n hn2 u2 (u1.2.1.trans h7) ((frI u1.1 (na a (by omega)) 1).trans hs) (by omega)) ?_
  rintro ⟨V, b⟩ ⟨vt, vf⟩
  dsimp only at vt vf ⊢
  unfold aPa
  have b1 := (aEx_ok hT k).1 0 (d + 1) (nx T q) hn2
  by_cases cb : (aEx T k 0 0 (d + 1) (nx T q)).1 = 0
  · rw [if_neg (show ¬ ¬ (aEx T k 0 0 (d + 1) (nx T q)).1 = 0 from fun h => h cb)]
    obtain ⟨c1, c2, c3, c4, c5, c6, c7⟩ := b1.2 cb
    obtain ⟨hb, v1, v2, v3, v4, v5, v6⟩ := vt cb
    rw [hb, if_pos rfl, wp_b2]
    unfold FX8_takeSign
    rw [show FX8_isSign V (41 : Int32) = FX8_isSign V (N 41) from rfl, xSgn hT c2 v3 (by omega), wp_b2, wp_some]
    dsimp only
    cases h41 : isS T (aEx T k 0 0 (d + 1) (nx T q)).2.1 41 with
    | false =>
      have h3 : sI V 1 3 = N (aEx T k 0 0 (d + 1) (nx T q)).2.1 := by rw [v3.2.2.2.1, (tokAt_e c2).1]
      rw [if_neg Bool.false_ne_true, if_pos rfl, show (1 : Int32) = N 1 from rfl, xFail v4 h3, wp_b2, wp_some, wp_some]
      dsimp only
      rw [if_neg Bool.false_ne_true, wp_some]
      exact xEp_f (n' := n + (aEx T k 0 0 (d + 1) (nx T q)).2.2.1.length) (by omega) (fr_uI (fr_tr uF v1) (by simp)) I_self c2 (tkX_7 v3) (by omega) (by rw [I_uI, if_neg (by omega)]; exact v5)
    | true =>
      rw [if_pos rfl, if_neg (show ¬ true = false by decide), wp_b1]
      refine wp_mono (xAdvT hT c2 v3) ?_
      rintro W ⟨w1, w2⟩
      rw [wp_some]
      dsimp only
      rw [if_pos rfl, wp_some]
      have wR' : sR W (a + 1) = sR V (a + 1) := frR w1.1 (na (a + 1) (by omega))
      refine ⟨fun _ => ⟨rfl, fr_tr (fr_tr uF v1) (fr_mo w1.1 (by intro b hb; simp only [List.mem_cons, List.not_mem_nil, or_false] at hb ⊢; omega)), fun i hi => ?_, w2, w1.2.1.trans v4, (frI w1.1 (na a (by omega)) 1).trans v5, ?_⟩, fun h => absurd rfl h⟩
      · dsimp only; rw [wR', v2 i hi, uR', hr i hi]
      · dsimp only; rw [wR']; exact v6
  · rw [if_pos cb]
    obtain ⟨hb, v1, v2, ⟨q2, hq2, v3⟩, n', hn', v5⟩ := vf cb
    rw [hb, if_neg Bool.false_ne_true, wp_some]
    exact xEp_f cb (fr_tr uF v1) v2 hq2 v3 hn' v5
theorem xPartL {T : aTp} {a k k2 d q n : Nat} {S : gS} {c : Int32} {cm : List Int32} {v : aVl} (hT : okT T) (ha : a = 17 ∨ a = 31) (hq : q ≤ T.1) (hk : ¬ (tokAt T q).1 = 0) (hnq : n ≤ q) (hk2 : 1 ≤ k2) (htk : tkX S T (tokAt T q)) (h7 : sI S 1 7 = 0) (hs : sI S a 1 = N n) : wp (g_b1 (FX3_add S a c) (fun S2 => fX4_readPart (f4 k) k2 103 S2 a (N d) 0 0 0)) (xEp S T a n (0, nx T q, [c], cm, v)) := by
  have h1000 := hT.1
  obtain ⟨k2, rfl, -⟩ := kS (m := 0) (k := k2) hk2
  have hlt := tokAt_lt hq hk
  have na : ∀ b, b ≠ 1 → b ∉ [1] := by intro b hb; simp only [List.mem_cons, List.not_mem_nil, or_false]; omega
  rw [wp_b1]
  refine wp_mono (xAddC (c := c) (by omega) hs) ?_
  rintro W ⟨w1, w2, w3, w4, w5, w6⟩
  obtain ⟨w7, w8⟩ := w6 (by omega)
  rw [fX4_readPart]
  simp only [if_true]
  rw [if_neg (by decide)]
  simp only [bX4_readPart_103]
  rw [wp_b1]
  refine wp_mono (xAdvT hT hq (tkX_add ha htk w1 w2 w3)) ?_
  rintro U ⟨u1, u2⟩
  rw [if_pos trivial, if_pos trivial, wp_some]
  have uR' : sR U (a + 1) = sR W (a + 1) := frR u1.1 (na (a + 1) (by omega))
  refine ⟨fun _ => ⟨rfl, fr_tr (fr_mo w1 (by intro b hb; simp only [List.mem_cons, List.not_mem_nil, or_false] at hb ⊢; omega)) (fr_mo u1.1 (by intro b hb; simp only [List.mem_cons, List.not_mem_nil, or_false] at hb ⊢; omega)), fun i hi => ?_, u2, u1.2.1.trans ((w2 1 (by omega) 7).trans h7), (frI u1.1 (na a (by omega)) 1).trans w7, ?_, trivial⟩, fun h => absurd rfl h⟩
  · dsimp only; rw [uR', w4 i hi]
  · dsimp only; rw [uR', w8]
theorem xEx {T : aTp} {a : Nat} (hT : okT T) (ha : a = 17 ∨ a = 31) : ∀ k, (∀ lev d, lev ≤ 4 → d ≤ 5 → mzL lev d ≤ k → xRcL T a k lev d) ∧ (∀ d, d ≤ 5 → mzP d ≤ k → xRcP T a k d) := by
  have h1000 := hT.1
  intro k
  induction k with
  | zero => exact ⟨fun lev d _ _ h => by unfold mzL at h; omega, fun d _ h => by unfold mzP at h; omega⟩
  | succ k ih =>
    obtain ⟨ihl, ihp⟩ := ih
    refine ⟨fun lev d hl hd hm => ?_, fun d hd hm => ?_⟩
    · intro S q n hq htk h7 hs hnq
      rw [f4_0, aEx]
      dsimp only
      rw [if_pos rfl]
      unfold FX4_readLevel_r
      by_cases c3 : lev ≤ 3
      · have ihr := ihl (lev + 1) d (by omega) hd (by unfold mzL at hm ⊢; omega)
        rw [if_pos c3, if_pos (show N lev ≤ (3 : Int32) from (leN (b := 3) (by omega) (by omega)).mpr c3), show N lev + (1 : Int32) = N (lev + 1) from addN1, wp_b2]
        refine wp_mono (ihr S q n hq htk h7 hs hnq) ?_
        rintro ⟨V, b⟩ ⟨vt, vf⟩
        dsimp only at vt vf ⊢
        have b1 := (aEx_ok hT k).1 (lev + 1) d q hq
        by_cases cb : (aEx T k 0 (lev + 1) d q).1 = 0
        · rw [if_neg (fun h => h cb)]
          obtain ⟨c1, c2, c3', c4, c5, c6, c7⟩ := b1.2 cb
          obtain ⟨hb, v⟩ := vt cb
          rw [hb, xJoinH hT c2 v.2.2.1 c3, wp_b2, wp_some]
          dsimp only
          exact xElL (rec := fun q => aEx T k 0 (lev + 1) d q) hT ha c3 hnq hq (fun q hq => (aEx_ok hT k).1 (lev + 1) d q hq) (fun S q n h1 h2 h3 h4 h5 => ihr S q n h1 h2 h3 h4 h5) 1001 _ 0 V FU cb b1 v (by omega) (by omega) (by unfold FU; omega)
        · rw [if_pos cb]
          obtain ⟨hb, v1, v2, ⟨q2, hq2, v3⟩, n', hn', v5⟩ := vf cb
          rw [hb, xJoinH hT hq2 v3 c3, wp_b2, wp_some, show g_b false = (0 : Int32) from rfl, xEl0 (by unfold FU; omega), wp_some]
          exact xEp_f cb v1 v2 hq2 v3 hn' v5
      · rw [if_neg c3, if_neg (show ¬ N lev ≤ (3 : Int32) from fun e => c3 ((leN (b := 3) (by omega) (by omega)).mp e)), wp_b2]
        refine wp_mono (ihp d hd (by unfold mzL at hm; unfold mzP; omega) S q n hq htk h7 hs hnq) ?_
        rintro ⟨V, b⟩ v
        rw [wp_some]; exact v
    · intro S q n hq htk h7 hs hnq
      rw [f4_1, aEx]
      dsimp only
      rw [if_neg (by omega)]
      unfold FX4_readPart_r aPt
      have s40 : FX8_isSign S (40 : Int32) = some (S, isS T q 40) := xSgn (c := 40) hT hq htk (by omega)
      rw [xFactH hT hq htk, wp_b2, wp_some]
      dsimp only
      rw [xIsWord hT hq htk txt38, wp_b2, wp_some]
      dsimp only
      rw [s40, wp_b2, wp_some]
      dsimp only
      have fz : (faC (tkFa (tokAt T q)) = 0) ↔ tkFa (tokAt T q) = 0 := by
        have h4 : tkFa (tokAt T q) ≤ 4 := by
          by_cases e : tkFa (tokAt T q) = 0
          · omega
          · exact (tkFa_k e).2
        revert h4
        generalize tkFa (tokAt T q) = j
        intro h4
        rcases (show j = 0 ∨ j = 1 ∨ j = 2 ∨ j = 3 ∨ j = 4 by omega) with rfl | rfl | rfl | rfl | rfl <;> decide
      by_cases hno : noPt T q
      · obtain ⟨o1, o2, o3, o4⟩ := id hno
        rw [if_pos hno, if_pos (fz.mpr o1), o2, o3, if_neg Bool.false_ne_true, if_neg Bool.false_ne_true, xIsNum hq htk, wp_b2, wp_some]
        dsimp only
        rw [decide_eq_false o4, if_neg Bool.false_ne_true]
        exact xEfl (c := 1) (by omega) hq htk h7 (n := n) (by omega) ha hs
      rw [if_neg hno]
      have h60 : wp (fX4_readPart (f4 k) FU 60 S a (N d) (faC (tkFa (tokAt T q))) (g_b (tkW (tokAt T q) 38)) (g_b (isS T q 40))) (xEp S T a n (if 5 ≤ d then fE0 (5 + 16 * q) else if tkW (tokAt T q) 38 = true then aNo (aEx T k 1 0 (d + 1) (nx T q)) else if isS T q 40 = true then aPa T (aEx T k 0 0 (d + 1) (nx T q)) else aLf T q)) := by
        obtain ⟨k2, ek, hk2⟩ := FU_s
        rw [ek, fX4_readPart]
        simp only [if_true, bX4_readPart_60]
        by_cases c5 : 5 ≤ d
        · rw [if_pos c5, if_neg (show ¬ N d < (5 : Int32) from fun e => absurd ((ltN (b := 5) (by omega) (by omega)).mp e) (by omega))]
          exact xEfl (c := 5) (by omega) hq htk h7 (n := n) (by omega) ha hs
        rw [if_neg c5, if_pos (show N d < (5 : Int32) from (ltN (b := 5) (by omega) (by omega)).mpr (by omega))]
        cases h38 : tkW (tokAt T q) 38 with
        | true =>
          rw [if_pos rfl, show g_b true = (1 : Int32) from rfl, if_neg (show ¬ (1 : Int32) = 0 by decide)]
          exact xPartN hT ha (ihp (d + 1) (by omega) (by unfold mzP at hm ⊢; omega)) hq h38 hnq (by omega) fr_rf (fun _ _ => rfl) htk h7 hs
        | false =>
          rw [if_neg Bool.false_ne_true, show g_b false = (0 : Int32) from rfl, if_pos rfl]
          cases h40 : isS T q 40 with
          | true =>
            rw [if_pos rfl, show g_b true = (1 : Int32) from rfl, if_neg (show ¬ (1 : Int32) = 0 by decide)]
            exact xPartO hT ha (ihl 0 (d + 1) (by omega) (by omega) (by unfold mzP at hm; unfold mzL; omega)) hq h40 hnq (by omega) fr_rf (fun _ _ => rfl) htk h7 hs
          | false =>
            rw [if_neg Bool.false_ne_true, show g_b false = (0 : Int32) from rfl, if_pos rfl]
            unfold aLf
            by_cases cf : tkFa (tokAt T q) = 0
            · have h3 : (tokAt T q).1 = 3 := by
                by_cases e : (tokAt T q).1 = 3
                · exact e
                · exact absurd ⟨cf, h38, h40, e⟩ hno
              rw [if_pos cf, if_pos (fz.mpr cf), htk.2.2.2.2.2.2 h3]
              exact xPartL hT ha hq (by omega) hnq (by omega) htk h7 hs
            · rw [if_neg cf, if_neg (fun e => cf (fz.mp e)), show faC (tkFa (tokAt T q)) = faX (tkFa (tokAt T q)) from if_neg cf]
              exact xPartL hT ha hq (by have := (tkFa_k cf).1; omega) hnq (by omega) htk h7 hs
      by_cases c1 : tkFa (tokAt T q) = 0
      · rw [if_pos (fz.mpr c1)]
        cases h38 : tkW (tokAt T q) 38 with
        | true => rw [if_pos rfl]; rw [h38] at h60; exact h60
        | false =>
          rw [if_neg Bool.false_ne_true]
          cases h40 : isS T q 40 with
          | true => rw [if_pos rfl]; rw [h38, h40] at h60; exact h60
          | false =>
            have h3 : (tokAt T q).1 = 3 := by
              by_cases e : (tokAt T q).1 = 3
              · exact e
              · exact absurd ⟨c1, h38, h40, e⟩ hno
            rw [if_neg Bool.false_ne_true, xIsNum hq htk, wp_b2, wp_some]
            dsimp only
            rw [decide_eq_true h3, if_pos rfl]
            rw [h38, h40] at h60; exact h60
      · rw [if_neg (fun e => c1 (fz.mp e))]; exact h60
theorem mz0 : mzL 0 0 ≤ RF := by unfold mzL RF; omega
/-- an E, whole -/
noncomputable def aSd (T : aTp) (q : Nat) : aRe := aEx T RF 0 0 0 q
theorem xSounds {T : aTp} {a q : Nat} {S : gS} (hT : okT T) (ha : a = 17 ∨ a = 31) (hq : q ≤ T.1) (htk : tkX S T (tokAt T q)) (h7 : sI S 1 7 = 0) (hs : sI S a 1 = N 0) : wp (FX4_readLevel S a 0 0) (xEp S T a 0 (aSd T q)) :=
  ((xEx hT ha RF).1 0 0 (by omega) (by omega) mz0) S q 0 hq htk h7 hs (by omega)
