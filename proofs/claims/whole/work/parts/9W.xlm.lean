/-! x reads rain, sounds, a mouth; a line -/
def xRp (S0 : gS) (T : aTp) (f : Nat) (A : Nat × Nat × Nat × (Nat → Int32)) (r : gS × Bool) : Prop := fr [1, f, f + 10] S0 r.1 ∧ (∀ j, j ≠ 11 → sI r.1 f j = sI S0 f j) ∧ (A.1 = 0 → r.2 = true ∧ tkX r.1 T (tokAt T A.2.1) ∧ sI r.1 1 7 = 0 ∧ sI r.1 f 11 = N A.2.2.1 ∧ ∀ i, i < A.2.2.1 → sR r.1 (f + 10) i = A.2.2.2 i) ∧ (¬ A.1 = 0 → r.2 = false ∧ sI r.1 1 7 = N A.1)
theorem xRnL {S0 : gS} {T : aTp} {f : Nat} (hT : okT T) (hf : f = 6 ∨ f = 20) : ∀ m n P q kk S, q ≤ T.1 → m + n = 13 → n ≤ 12 → 3 * m + 3 ≤ kk → fr [1, f, f + 10] S0 S → (∀ j, j ≠ 11 → sI S f j = sI S0 f j) → tkX S T (tokAt T q) → sI S 1 7 = 0 → (sI S f 11 = N n) → (∀ i, i < n → sR S (f + 10) i = P i) → wp (fX2_readRain kk 25 S f (N n)) (xRp S0 T f (aRn T m n P q)) := by
  have h1000 := hT.1
  intro m
  induction m with
  | zero => intro n P q kk S hq hm; omega
  | succ m ih =>
    intro n P q kk S hq hm hn hk hS hI htk h7 h11 hP
    obtain ⟨kk, rfl, hk⟩ := kS (k := kk) (m := 3 * m + 5) (by omega)
    obtain ⟨kk, rfl, hk⟩ := kS (k := kk) (m := 3 * m + 4) (by omega)
    obtain ⟨kk, rfl, hk⟩ := kS (k := kk) (m := 3 * m + 3) (by omega)
    have bad : ∀ c z, ¬ c = 0 → wp (g_b2 (FX8_fail S (N c)) (fun S1 b => some (S1, b))) (xRp S0 T f (c + 16 * q, z)) := by
      intro c z hc
      rw [xFail h7 (xTk3 hq htk), wp_b2, wp_some, wp_some]
      exact ⟨fr_uI hS (by simp), fun j hj => by rw [I_uI, if_neg (by omega)]; exact hI j hj, fun h => by dsimp only at h; omega, fun _ => ⟨rfl, I_self⟩⟩
    have good : xRp S0 T f (0, q, n, P) (S, true) := ⟨hS, hI, fun _ => ⟨rfl, htk, h7, h11, hP⟩, fun h => absurd rfl h⟩
    have f116 : ∀ (x : Int32) (c : Nat), (x = 0 ∧ c = 4 ∨ x = 1 ∧ c = 5) → wp (fX2_readRain (kk + 1) 116 S 0 x) (xRp S0 T f (c + 16 * q, 0, n, P)) := by
      intro x c hx
      rw [fX2_readRain]
      simp only [if_true]
      rw [if_neg (by decide), if_neg (by decide), if_neg (by decide)]
      simp only [bX2_readRain_116]
      rcases hx with ⟨rfl, rfl⟩ | ⟨rfl, rfl⟩
      · rw [if_pos rfl]; exact bad 4 _ (by omega)
      · rw [if_neg (by decide)]; exact bad 5 _ (by omega)
    have f88 : wp (fX2_readRain (kk + 1 + 1) 88 S 0 0) (xRp S0 T f (if (tokAt T q).1 = 3 then (if 9 < (tokAt T q).2.2.2.2 then (4 + 16 * q, 0, n, P) else (5 + 16 * q, 0, n, P)) else (0, q, n, P))) := by
      rw [fX2_readRain]
      simp only [if_true]
      rw [if_neg (by decide), if_neg (by decide)]
      simp only [bX2_readRain_88]
      rw [xIsNum hq htk, wp_b2, wp_some]
      dsimp only
      by_cases k3 : (tokAt T q).1 = 3
      · have nub := tkN_b k3
        rw [decide_eq_true k3, if_pos rfl, if_pos k3, htk.2.2.2.2.2.2 k3]
        by_cases c9 : 9 < (tokAt T q).2.2.2.2
        · rw [if_pos c9, if_pos (show (9 : Int32) < N (tokAt T q).2.2.2.2 from (ltN (a := 9) (by omega) nub).mpr c9)]
          exact f116 0 4 (Or.inl ⟨rfl, rfl⟩)
        · rw [if_neg c9, if_neg (show ¬ (9 : Int32) < N (tokAt T q).2.2.2.2 from fun h => c9 ((ltN (a := 9) (by omega) nub).mp h))]
          exact f116 1 5 (Or.inr ⟨rfl, rfl⟩)
      · rw [decide_eq_false k3, if_neg Bool.false_ne_true, if_neg k3, wp_some]
        exact good
    have f47 : ¬ n = 12 → ¬ (¬ n = 0 ∧ isS T q 59 = true) → wp (fX2_readRain (kk + 1 + 1) 47 S f (N n)) (xRp S0 T f (aRn T (m + 1) n P q)) := by
      intro c12 cs
      rw [aRn, if_neg c12, if_neg cs, fX2_readRain]
      simp only [if_true]
      rw [if_neg (by decide)]
      simp only [bX2_readRain_47]
      rw [wp_b2]
      refine wp_mono (xNum (lo := 0) (hi := 9) hT hq htk h7 (by omega) (by omega)) ?_
      rintro ⟨U, x⟩ ⟨u1, u2, u3⟩
      dsimp only at u1 u2 u3 ⊢
      rw [if_pos (vpN (by omega) (by omega)), clN (by omega), wp_lt, R_self]
      have fU : fr [1, f, f + 10] S0 (uR U (f + 10) n x) := fr_uR (fr_tr hS (fr_mo u1 (by intro b hb; simp only [List.mem_cons, List.not_mem_nil, or_false] at hb ⊢; omega))) (by simp)
      have iU : ∀ j, sI (uR U (f + 10) n x) f j = sI S f j := fun j => frI u1 (n1b (by omega)) j
      have out : ∀ c z, ¬ c = 0 → x = -1 → sI U 1 7 = N c → wp (if x = (-1 : Int32) then some (uR U (f + 10) n x, false) else g_lt (uI (uR U (f + 10) n x) f 11 (N n + (1 : Int32))) (fun S5 => fX2_readRain (kk + 1) 25 S5 f (N n + 1))) (xRp S0 T f (c, z)) := by
        intro c z hc hx h7'
        rw [if_pos hx, wp_some]
        exact ⟨fU, fun j hj => (iU j).trans (hI j hj), fun h => absurd h hc, fun _ => ⟨rfl, h7'⟩⟩
      by_cases k3 : (tokAt T q).1 = 3
      · have nub := tkN_b k3
        rw [if_neg (show ¬ ¬ (tokAt T q).1 = 3 from fun h => h k3)] at u2 u3 ⊢
        by_cases c9 : 9 < (tokAt T q).2.2.2.2
        · rw [if_pos (show ¬ (0 ≤ (tokAt T q).2.2.2.2 ∧ (tokAt T q).2.2.2.2 ≤ 9) by omega)] at u3
          rw [if_pos c9]
          obtain ⟨e1, e2⟩ := u3 (by dsimp only; omega)
          exact out _ _ (by omega) e1 e2
        · rw [if_neg (show ¬ ¬ (0 ≤ (tokAt T q).2.2.2.2 ∧ (tokAt T q).2.2.2.2 ≤ 9) by omega)] at u2
          obtain ⟨e1, e2, e3⟩ := u2 rfl
          dsimp only at e1 e2
          rw [if_neg c9, e1, if_neg (N_ne_m1 nub), wp_lt, show N n + (1 : Int32) = N (n + 1) from addN1]
          rw [e1] at fU iU
          refine ih (n + 1) (up P n (N (tokAt T q).2.2.2.2)) (nx T q) (kk + 1) _ (nx_le hq) (by omega) (by omega) (by omega) (fr_uI fU (by simp)) (fun j hj => by rw [I_uI, if_neg (by omega)]; exact (iU j).trans (hI j hj)) (tkX_i e2 (fun j => by rw [I_uI, if_neg (by omega)]; rfl) (by funext i; rw [R_uI, R_uR, if_neg (by omega)]) rfl) (by rw [I_uI, if_neg (by omega)]; exact e3) I_self (fun i hi => ?_)
          unfold up
          rw [R_uI, R_uR]
          by_cases c : i = n
          · rw [if_pos ⟨rfl, c⟩, if_pos c]
          · rw [if_neg (fun z => c z.2), if_neg c, frR u1 (n1b (by omega))]; exact hP i (by omega)
      · rw [if_pos k3] at u3 ⊢
        obtain ⟨e1, e2⟩ := u3 (by dsimp only; omega)
        exact out _ _ (by omega) e1 e2
    rw [fX2_readRain]
    simp only [if_true, bX2_readRain_25]
    by_cases c12 : n = 12
    · rw [if_pos (show (12 : Int32) ≤ N n from (leN (a := 12) (by omega) (by omega)).mpr (by omega)), aRn, if_pos c12]
      exact f88
    · rw [if_neg (show ¬ (12 : Int32) ≤ N n from fun h => absurd ((leN (a := 12) (by omega) (by omega)).mp h) (by omega))]
      by_cases c0 : n = 0
      · rw [if_pos (show N n = (0 : Int32) by rw [c0]; rfl)]
        exact f47 c12 (fun h => h.1 c0)
      · rw [if_neg (fun h => c0 ((eq0N (by omega)).mp h)), show FX8_isSign S (59 : Int32) = some (S, isS T q 59) from xSgn (c := 59) hT hq htk (by omega), wp_b2, wp_some]
        dsimp only
        cases h59 : isS T q 59 with
        | true =>
          have k4 := (isS_k h59).1
          rw [if_pos rfl, aRn, if_neg c12, if_pos ⟨c0, h59⟩]
          rw [if_neg (show ¬ (tokAt T q).1 = 3 by omega)] at f88
          exact f88
        | false =>
          rw [if_neg Bool.false_ne_true]
          exact f47 c12 (fun h => by rw [h59] at h; exact Bool.false_ne_true h.2)
theorem dbX_ra {S U : gS} {f n : Nat} {P : Nat → Int32} {B : aB} (hf : f = 6 ∨ f = 20) (h : dbX S f B) (h1 : fr [1, f, f + 10] S U) (h2 : ∀ j, j ≠ 11 → sI U f j = sI S f j) (h3 : sI U f 11 = N n) (h4 : ∀ i, i < n → sR U (f + 10) i = P i) : dbX U f (raB B n P) := by
  obtain ⟨a1, a2, a3, a4, a5, a6, a7, a8, a9, a10⟩ := h
  have nn : ∀ b, b ≠ 1 → b ≠ f → b ≠ f + 10 → b ∉ [1, f, f + 10] := by intro b hb; simp only [List.mem_cons, List.not_mem_nil, or_false]; omega
  refine ⟨(h2 0 (by omega)).trans a1, fun i hi => ?_, (h2 8 (by omega)).trans a3, fun i hi => ?_, h3, h4, (frI h1 (nn (f + 11) (by omega) (by omega) (by omega)) 1).trans a7, ?_, fun i hi => ?_, fun i hi => ?_⟩
  · rw [frR h1 (nn (f + 2) (by omega) (by omega) (by omega)), frR h1 (nn (f + 3) (by omega) (by omega) (by omega)), frR h1 (nn (f + 4) (by omega) (by omega) (by omega)), frR h1 (nn (f + 5) (by omega) (by omega) (by omega)), frR h1 (nn (f + 6) (by omega) (by omega) (by omega)), frR h1 (nn (f + 7) (by omega) (by omega) (by omega))]; exact a2 i hi
  · rw [frR h1 (nn (f + 9) (by omega) (by omega) (by omega))]; exact a4 i hi
  · rw [frR h1 (nn (f + 12) (by omega) (by omega) (by omega))]; exact a8
  · rw [frL h1 (nn (f + 1) (by omega) (by omega) (by omega))]; exact a9 i hi
  · rw [frL h1 (nn (f + 8) (by omega) (by omega) (by omega))]; exact a10 i hi
theorem xRai {S : gS} {T : aTp} {f q : Nat} {B : aB} (hT : okT T) (hf : f = 6 ∨ f = 20) (k : okB B) (hB : dbX S f B) (hq : q ≤ T.1) (htk : tkX S T (tokAt T q)) (h7 : sI S 1 7 = 0) : wp (FX2_readRain S f) (xFp S T f (lnR T B q)) := by
  have h1000 := hT.1
  have q1 := nx_le hq
  have h12 := k.1.2.2.1
  have f11 : sI S f 11 = N (fC (bdF B)) := hB.2.2.2.2.1
  unfold FX2_readRain lnR
  rw [f11]
  by_cases c : fC (bdF B) = 0
  · rw [if_neg (show ¬ ¬ fC (bdF B) = 0 from fun h => h c), if_pos ((le0N (by omega)).mpr c), wp_b1]
    refine wp_mono (xAdvN hT hq htk) ?_
    rintro U ⟨u1, u2⟩
    have toF : ∀ {Z}, fr [1, f, f + 10] S Z → fr (lF f) S Z := fun h => fr_mo h (by intro b hb; simp only [List.mem_cons, List.not_mem_nil, or_false] at hb ⊢; omega)
    have hl := xRnL (S0 := S) hT hf 13 0 (fP (bdF B)) (nx T q) FU U q1 (by omega) (by omega) (by unfold FU; omega) (fr_mo u1.1 (by intro b hb; simp only [List.mem_cons, List.not_mem_nil, or_false] at hb ⊢; omega)) (fun j _ => frI u1.1 (n1b (by omega)) j) u2 (u1.2.1.trans h7) (by rw [frI u1.1 (n1b (by omega)), f11, c]) (fun i hi => by omega)
    refine wp_mono hl ?_
    rintro ⟨V, b⟩ ⟨v1, v2, v3, v4⟩
    dsimp only at v1 v2 v3 v4
    generalize aRn T 13 0 (fP (bdF B)) (nx T q) = A at *
    by_cases cA : A.1 = 0
    · rw [if_neg (fun h => h cA)]
      obtain ⟨e1, e2, e3, e4, e5⟩ := v3 cA
      exact ⟨toF v1, fun _ => ⟨e1, e2, e3, dbX_ra hf hB v1 v2 e4 e5⟩, fun h => absurd rfl h⟩
    · rw [if_pos cA]
      obtain ⟨e1, e2⟩ := v4 cA
      rw [e1]
      exact xFp_f (toF v1) cA e2
  · rw [if_pos c, if_neg (fun h => c ((le0N (by omega)).mp h))]
    exact xFl1 (c := 3) (by omega) fr_rf hq htk h7
theorem xSnd' {S : gS} {T : aTp} {f q : Nat} {B : aB} (hT : okT T) (hf : f = 6 ∨ f = 20) (k : okB B) (hB : dbX S f B) (hq : q ≤ T.1) (htk : tkX S T (tokAt T q)) (h7 : sI S 1 7 = 0) : wp (if (sI S ((f + 11)) 1) ≤ 0 then (g_b1 (FX8_advance S ) (fun S11 => g_b2 (FX4_readLevel S11 ((f + 11)) ((0 : Int32)) ((0 : Int32))) (fun S12 b13 => some (S12, b13)))) else (g_b2 (FX8_fail S ((3 : Int32))) (fun S14 b15 => some (S14, b15)))) (xFp S T f (lnS T B q)) := by
  have h1000 := hT.1
  have q1 := nx_le hq
  have hl : (bdX B).length ≤ 1000 := by rcases k.2.2.1 with z | z <;> omega
  have f11 : sI S (f + 11) 1 = N (bdX B).length := hB.2.2.2.2.2.2.1
  unfold lnS
  rw [f11]
  by_cases c : (bdX B).length = 0
  · rw [if_neg (show ¬ ¬ (bdX B).length = 0 from fun h => h c), if_pos ((le0N (by omega)).mpr c), wp_b1]
    refine wp_mono (xAdvN hT hq htk) ?_
    rintro U ⟨u1, u2⟩
    have uB := dbX_1 hf hB u1.1
    rw [wp_b2]
    refine wp_mono (xSounds (a := f + 11) hT (by omega) q1 u2 (u1.2.1.trans h7) (by rw [frI u1.1 (n1b (by omega)), f11, c])) ?_
    rintro ⟨V, b⟩ ⟨v1, v2⟩
    dsimp only at v1 v2
    rw [wp_some]
    have toF : ∀ {Z}, fr (lE (f + 11)) U Z → fr (lF f) S Z := fun h => fr_tr (k1F u1.1) (fr_mo h (by intro b hb; simp only [List.mem_cons, List.not_mem_nil, or_false] at hb ⊢; omega))
    by_cases cA : (aSd T (nx T q)).1 = 0
    · rw [if_neg (fun h => h cA)]
      obtain ⟨e1, w1, w2, w3, w4, w5, w6⟩ := v1 cA
      refine ⟨toF w1, fun _ => ⟨e1, w3, w4, ?_⟩, fun h => absurd rfl h⟩
      obtain ⟨a1, a2, a3, a4, a5, a6, a7, a8, a9, a10⟩ := uB
      have nn : ∀ b, b ≠ 1 → b ≠ f + 11 → b ≠ f + 12 → b ∉ lE (f + 11) := by intro b hb; simp only [List.mem_cons, List.not_mem_nil, or_false]; omega
      refine ⟨(frI w1 (nn f (by omega) (by omega) (by omega)) 0).trans a1, fun i hi => ?_, (frI w1 (nn f (by omega) (by omega) (by omega)) 8).trans a3, fun i hi => ?_, (frI w1 (nn f (by omega) (by omega) (by omega)) 11).trans a5, fun i hi => ?_, ?_, w6, fun i hi => ?_, fun i hi => ?_⟩
      · rw [frR w1 (nn (f + 2) (by omega) (by omega) (by omega)), frR w1 (nn (f + 3) (by omega) (by omega) (by omega)), frR w1 (nn (f + 4) (by omega) (by omega) (by omega)), frR w1 (nn (f + 5) (by omega) (by omega) (by omega)), frR w1 (nn (f + 6) (by omega) (by omega) (by omega)), frR w1 (nn (f + 7) (by omega) (by omega) (by omega))]; exact a2 i hi
      · rw [frR w1 (nn (f + 9) (by omega) (by omega) (by omega))]; exact a4 i hi
      · rw [frR w1 (nn (f + 10) (by omega) (by omega) (by omega))]; exact a6 i hi
      · rw [Nat.zero_add] at w5; exact w5
      · rw [frL w1 (nn (f + 1) (by omega) (by omega) (by omega))]; exact a9 i hi
      · rw [frL w1 (nn (f + 8) (by omega) (by omega) (by omega))]; exact a10 i hi
    · rw [if_pos cA]
      obtain ⟨e1, w1, w2, -, -⟩ := v2 cA
      rw [e1]
      exact xFp_f (toF w1) cA w2
  · rw [if_pos c, if_neg (fun h => c ((le0N (by omega)).mp h))]
    exact xFl1 (c := 3) (by omega) fr_rf hq htk h7
