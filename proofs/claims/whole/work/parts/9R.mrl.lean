/-! the model reads an E: parts, ends -/
def popD (o : Nat → Int32) : Nat → Nat
  | 0 => 0
  | d + 1 => if o (d + 1) = 1 then popD o d else d + 1
theorem popD_eq {o o' : Nat → Int32} : ∀ d, (∀ j, j ≤ d → o' j = o j) → popD o' d = popD o d := by
  intro d
  induction d with
  | zero => intro _; rfl
  | succ d ih =>
    intro h
    rw [popD, popD, h (d + 1) (by omega), ih (fun j hj => h j (by omega))]
theorem popD_n {o : Nat → Int32} {d : Nat} (h : d = 0 ∨ ¬ o d = 1) : popD o d = d := by
  cases d with
  | zero => rfl
  | succ d => rw [popD, if_neg (h.resolve_left (by omega))]
theorem mPop {T : aTp} {q K pc : Nat} {Q : gS × Bool → Prop} (hT : okT T) (hq : q ≤ T.1) (hpc : pc = 152 ∨ pc = 379) : ∀ d k S, d ≤ 5 → K + d + 1 ≤ k → tkM S T (tokAt T q) → (∀ U k', K ≤ k' → kM1 S U → tkM U T (tokAt T (nx T q)) → rl k' (popD (sR S 195) d) 0 U Q) → wp (fX12_readsLaw k pc S (N d) 0 0 0 0) Q := by
  have un : ∀ (k : Nat) (S : gS) (x : Int32), fX12_readsLaw (k + 1) pc S x 0 0 0 0 = (if x ≤ 0 then (g_b1 (FX12_nextToken S) (fun S1 => fX12_readsLaw k 11 S1 x 0 0 0 0)) else (if g_vp x 7 = true then (if (sR S 195 (Int32.toNatClampNeg x)) = (1 : Int32) then (fX12_readsLaw k pc S (x + (-1)) 0 0 0 0) else (g_b1 (FX12_nextToken S) (fun S3 => fX12_readsLaw k 11 S3 x 0 0 0 0))) else none)) := by
    intro k S x
    rw [fX12_readsLaw]
    rcases hpc with rfl | rfl
    · simp only [if_true]
      rw [if_neg (by decide), if_neg (by decide), if_neg (by decide), if_neg (by decide), if_neg (by decide)]
      rfl
    · simp only [if_true]
      rw [if_neg (by decide), if_neg (by decide), if_neg (by decide), if_neg (by decide), if_neg (by decide), if_neg (by decide), if_neg (by decide), if_neg (by decide), if_neg (by decide), if_neg (by decide), if_neg (by decide), if_neg (by decide)]
      rfl
  intro d
  induction d with
  | zero =>
    intro k S hd hk htk h
    obtain ⟨k, rfl, hk'⟩ := kS (k := k) (m := K) (by omega)
    rw [un, if_pos ((le0N (by omega)).mpr rfl)]
    exact mNxt3 hT hq htk (fun U u1 u2 => h U k hk' u1 u2)
  | succ d ih =>
    intro k S hd hk htk h
    obtain ⟨k, rfl, hk'⟩ := kS (k := k) (m := K + d + 1) (by omega)
    rw [popD] at h
    rw [un, if_neg (fun e => absurd ((le0N (by omega)).mp e) (by omega)), if_pos (vpN (by omega) (by omega)), clN (by omega)]
    by_cases c : sR S 195 (d + 1) = 1
    · rw [if_pos c] at h
      rw [if_pos c, (dec7 d (by omega)).1]
      exact ih k S (by omega) (by omega) htk h
    · rw [if_neg c] at h
      rw [if_neg c]
      exact mNxt3 hT hq htk (fun U u1 u2 => h U k (by omega) u1 u2)
theorem mFactH {S : gS} {T : aTp} {q : Nat} (hq : q ≤ T.1) (hk : tkM S T (tokAt T q)) : FX12_fact S = some (S, N (tkFa (tokAt T q))) := by
  have h4 := (tokAt_e hq).2.2.2.2.2
  unfold FX12_fact tkFa
  rw [hk.2.2.1]
  by_cases h2 : (tokAt T q).1 = 2
  · rw [if_pos (show N (mkk (tokAt T q).1) = (1 : Int32) from (mk1 _ (by omega) 2 (by omega)).mpr h2)]
    have e : ∀ {t : UInt32} {j : Int64} {α : Type} {a b : α}, txt t → j = LN (e27 (gw t)) → (if lg_cmp (sJ S 180 7) j = 0 then a else b) = (if tkW (tokAt T q) t = true then a else b) := by
      intro t j α a b ht hj
      have := mIsW hq hk ht hj h2
      by_cases c : tkW (tokAt T q) t = true
      · rw [if_pos c, if_pos (this.mpr c)]
      · rw [if_neg c, if_neg (fun z => c (this.mp z))]
    rw [e txt34 gw34, e txt35 gw35, e txt36 gw36, e txt37 gw37]
    cases tkW (tokAt T q) 34 <;> cases tkW (tokAt T q) 35 <;> cases tkW (tokAt T q) 36 <;> cases tkW (tokAt T q) 37 <;> rfl
  · have w : ∀ t, ¬ tkW (tokAt T q) t = true := fun t z => h2 (tkW_k z)
    rw [if_neg (show ¬ N (mkk (tokAt T q).1) = (1 : Int32) from fun h => h2 ((mk1 _ (by omega) 2 (by omega)).mp h)), if_neg (w 34), if_neg (w 35), if_neg (w 36), if_neg (w 37)]
    rfl
theorem mFl3 {S : gS} {T : aTp} {q c : Nat} {Q : gS × Bool → Prop} (hq : q ≤ T.1) (hk : tkM S T (tokAt T q)) (h : ∀ U, kM3 S U → sI U 180 9 = N (c + 16 * q) → Q (U, false)) : wp (g_b2 (FX12_fails S (N c)) (fun S1 b => some (S1, b))) Q := by
  have h3 : sI S 180 5 = N q := by rw [hk.2.2.2.1, (tokAt_e hq).1]
  rw [mFail2 h3, wp_b2, wp_some, wp_some]
  exact h _ (m3_I m3_rf (by omega)) I_self
def lfC (T : aTp) (q : Nat) : Int32 := if tkFa (tokAt T q) = 0 then N (100 + (tokAt T q).2.2.2.2) else N (tkFa (tokAt T q))
theorem rl1 {T : aTp} {k K d q cc : Nat} {S : gS} {Q : gS × Bool → Prop} (hT : okT T) (hq : q ≤ T.1) (hd : d ≤ 5) (hcc : 1000 ≤ cc ∧ cc < 2000) (htk : tkM S T (tokAt T q)) (hc : sI S 180 23 = N cc) (hk : K + 12 ≤ k)
    (hno : noPt T q → ∀ U, kM3 S U → sI U 180 9 = N (1 + 16 * q) → Q (U, false))
    (h5 : ¬ noPt T q → 5 ≤ d → ∀ U, kM3 S U → sI U 180 9 = N (5 + 16 * q) → Q (U, false))
    (hop : ¬ noPt T q → d ≤ 4 → ∀ c x, (tkW (tokAt T q) 38 = true ∧ c = 30 ∧ x = 1 ∨ tkW (tokAt T q) 38 = false ∧ isS T q 40 = true ∧ c = 28 ∧ x = 2) → ∀ U k', K ≤ k' → kM3 S U → tkM U T (tokAt T (nx T q)) → sI U 180 23 = N (cc + 1) → (∀ i, i ≠ cc → sR U 194 i = sR S 194 i) → sR U 194 cc = c → (∀ j, j ≠ d + 1 → sR U 195 j = sR S 195 j) → sR U 195 (d + 1) = x → (∀ j, j ≠ d + 1 → sR U 196 j = sR S 196 j) → sR U 196 (d + 1) = 0 → rl k' (d + 1) 1 U Q)
    (hlf : ¬ noPt T q → d ≤ 4 → tkW (tokAt T q) 38 = false → isS T q 40 = false → ∀ U k', K ≤ k' → kM3 S U → tkM U T (tokAt T (nx T q)) → sI U 180 23 = N (cc + 1) → (∀ i, i ≠ cc → sR U 194 i = sR S 194 i) → sR U 194 cc = lfC T q → (∀ j, sR U 195 j = sR S 195 j) → (∀ j, sR U 196 j = sR S 196 j) → rl k' (popD (sR S 195) d) 0 U Q) : rl k d 1 S Q := by
  have h4 := (tokAt_e hq).2.2.2.2.2
  have nar0 : vp_nar .boolean (0 : Int32) = 0 := nar_b (b := false)
  obtain ⟨k, rfl, hk⟩ := kS (k := k) (m := K + 11) (by omega)
  obtain ⟨k, rfl, hk⟩ := kS (k := k) (m := K + 10) (by omega)
  have f4' : tkFa (tokAt T q) ≤ 4 := by
    by_cases e : tkFa (tokAt T q) = 0
    · omega
    · exact (tkFa_k e).2
  have fz : (N (tkFa (tokAt T q)) = 0) ↔ tkFa (tokAt T q) = 0 := eq0N (by omega)
  have s40 : FX12_isSign S (40 : Int32) = some (S, isS T q 40) := mSgn (c := 40) hT hq htk (by omega)
  have kz : (N (mkk (tokAt T q).1) = (2 : Int32)) ↔ (tokAt T q).1 = 3 := mk1 _ (by omega) 3 (by omega)
  unfold rl
  rw [fX12_readsLaw]
  simp only [if_true, bX12_readsLaw_11]
  rw [if_neg (show ¬ (1 : Int32) = 0 by decide), mFactH hq htk, wp_b2, wp_some]
  dsimp only
  rw [mIsWord hq htk txt38 gw38, wp_b2, wp_some]
  dsimp only
  rw [s40, wp_b2, wp_some]
  dsimp only
  by_cases no : noPt T q
  · obtain ⟨o1, o2, o3, o4⟩ := id no
    rw [if_pos (fz.mpr o1), o2, o3, if_neg Bool.false_ne_true, if_neg Bool.false_ne_true, htk.2.2.1, if_neg (fun e => o4 (kz.mp e))]
    exact mFl3 hq htk (hno no)
  have f65 : wp (fX12_readsLaw (k + 1) 65 S (N d) 1 (N (tkFa (tokAt T q))) (g_b (tkW (tokAt T q) 38)) (g_b (isS T q 40))) Q := by
    rw [fX12_readsLaw]
    simp only [if_true]
    rw [if_neg (by decide)]
    simp only [bX12_readsLaw_65]
    by_cases c5 : 5 ≤ d
    · rw [if_pos (show N d = (5 : Int32) by rw [show d = 5 by omega]; rfl)]
      exact mFl3 (c := 5) hq htk (h5 no c5)
    rw [if_neg (show ¬ N d = (5 : Int32) from fun e => c5 (by have := (eqN (b := 5) (by omega) (by omega)).mp e; omega))]
    have f86 : ∀ c x : Int32, ∀ b : Bool, (b = true ∧ c = 30 ∧ x = 1 ∨ b = false ∧ c = 28 ∧ x = 2) → (tkW (tokAt T q) 38 = true ∧ c = 30 ∧ x = 1 ∨ tkW (tokAt T q) 38 = false ∧ isS T q 40 = true ∧ c = 28 ∧ x = 2) → wp (fX12_readsLaw k 86 S (N d) 1 0 (g_b b) 0) Q := by
      intro c x b hb hcx
      obtain ⟨k, rfl, hk⟩ := kS (k := k) (m := K + 9) (by omega)
      obtain ⟨k, rfl, hk⟩ := kS (k := k) (m := K + 8) (by omega)
      obtain ⟨k, rfl, hk⟩ := kS (k := k) (m := K + 7) (by omega)
      obtain ⟨p1, p2, p3, p4, p5⟩ := mPt_of (cc := cc) (c := c) htk hcc.1
      have f121 : ∀ V, V = uR (uI (uR S 194 cc c) 180 23 (N (cc + 1))) 195 (d + 1) x → wp (fX12_readsLaw (k + 1) 121 V (N (d + 1)) 1 0 0 0) Q := by
        intro V hV
        rw [fX12_readsLaw]
        simp only [if_true]
        rw [if_neg (by decide), if_neg (by decide), if_neg (by decide), if_neg (by decide)]
        simp only [bX12_readsLaw_121]
        rw [if_pos (vpN (by omega) (by omega)), clN (by omega), wp_lt, nar0]
        refine mNxt3 hT hq (tkM_R (by rw [hV]; exact tkM_R p2 (by omega)) (by omega)) (fun U u1 u2 => ?_)
        refine hop no (by omega) c x hcx U k (by omega) (m3_k (m3_R (by rw [hV]; exact m3_R p1 (by omega)) (by omega)) u1) u2 ?_ (fun i hi => ?_) ?_ (fun j hj => ?_) ?_ (fun j hj => ?_) ?_
        · exact (u1.2.1 23 (by omega)).trans (by rw [hV]; exact p3)
        · rw [k1R u1 (by omega), R_uR, if_neg (by omega), hV, R_uR, if_neg (by omega)]; exact p4 i hi
        · rw [k1R u1 (by omega), R_uR, if_neg (by omega), hV, R_uR, if_neg (by omega)]; exact p5
        · rw [k1R u1 (by omega), R_uR, if_neg (by omega), hV, R_uR, if_neg (by omega), R_uI, R_uR, if_neg (by omega)]
        · rw [k1R u1 (by omega), R_uR, if_neg (by omega), hV, R_self]
        · rw [k1R u1 (by omega), R_uR, if_neg (by omega), hV, R_uR, if_neg (by omega), R_uI, R_uR, if_neg (by omega)]
        · rw [k1R u1 (by omega), R_self]
      rw [fX12_readsLaw]
      simp only [if_true]
      rw [if_neg (by decide), if_neg (by decide)]
      simp only [bX12_readsLaw_86]
      rcases hb with ⟨rfl, rfl, rfl⟩ | ⟨rfl, rfl, rfl⟩
      · rw [if_neg (show ¬ g_b true = 0 by decide), mPuts hc hcc.2, wp_b1, wp_some, fX12_readsLaw]
        simp only [if_true]
        rw [if_neg (by decide), if_neg (by decide), if_neg (by decide)]
        simp only [bX12_readsLaw_102]
        rw [if_neg (show ¬ g_b true = 0 by decide), addN1, if_pos (vpN (by omega) (by omega)), clN (by omega), wp_lt]
        exact f121 _ rfl
      · rw [if_pos (show g_b false = 0 from rfl), mPuts hc hcc.2, wp_b1, wp_some, fX12_readsLaw]
        simp only [if_true]
        rw [if_neg (by decide), if_neg (by decide), if_neg (by decide)]
        simp only [bX12_readsLaw_102]
        rw [if_pos (show g_b false = 0 from rfl), addN1, if_pos (vpN (by omega) (by omega)), clN (by omega), wp_lt]
        exact f121 _ rfl
    cases h38 : tkW (tokAt T q) 38 with
    | true =>
      rw [if_neg (show ¬ g_b true = 0 by decide)]
      exact f86 30 1 true (Or.inl ⟨rfl, rfl, rfl⟩) (Or.inl ⟨h38, rfl, rfl⟩)
    | false =>
      rw [if_pos (show g_b false = 0 from rfl)]
      cases h40 : isS T q 40 with
      | true =>
        rw [if_neg (show ¬ g_b true = 0 by decide)]
        exact f86 28 2 false (Or.inr ⟨rfl, rfl, rfl⟩) (Or.inr ⟨h38, h40, rfl, rfl⟩)
      | false =>
        rw [if_pos (show g_b false = 0 from rfl)]
        have g : ∀ c : Int32, c = lfC T q → wp (g_b1 (FX12_puts S c) (fun S1 => fX12_readsLaw k 152 S1 (N d) 0 0 0 0)) Q := by
          intro c hcl
          obtain ⟨p1, p2, p3, p4, p5⟩ := mPt_of (cc := cc) (c := c) htk hcc.1
          rw [mPuts hc hcc.2, wp_b1, wp_some]
          have e195 : sR (uI (uR S 194 cc c) 180 23 (N (cc + 1))) 195 = sR S 195 := by funext j; rw [R_uI, R_uR, if_neg (by omega)]
          refine mPop (K := K) hT hq (Or.inl rfl) d k _ hd (by omega) p2 (fun U k' hk' u1 u2 => ?_)
          rw [e195]
          exact hlf no (by omega) h38 h40 U k' hk' (m3_k p1 u1) u2 ((u1.2.1 23 (by omega)).trans p3) (fun i hi => by rw [k1R u1 (by omega)]; exact p4 i hi) (by rw [k1R u1 (by omega), p5, hcl]) (fun j => by rw [k1R u1 (by omega), e195]) (fun j => by rw [k1R u1 (by omega), R_uI, R_uR, if_neg (by omega)])
        by_cases cf : tkFa (tokAt T q) = 0
        · have h3 : (tokAt T q).1 = 3 := by
            by_cases e : (tokAt T q).1 = 3
            · exact e
            · exact absurd ⟨cf, h38, h40, e⟩ no
          rw [if_pos ((le0N (by omega)).mpr cf), htk.2.2.2.2.2.2 h3, show (100 : Int32) + N (tokAt T q).2.2.2.2 = N (100 + (tokAt T q).2.2.2.2) from addN (a := 100)]
          exact g _ (by unfold lfC; rw [if_pos cf])
        · rw [if_neg (fun e => cf ((le0N (by omega)).mp e))]
          exact g _ (by unfold lfC; rw [if_neg cf])
  by_cases c1 : tkFa (tokAt T q) = 0
  · rw [if_pos (fz.mpr c1)]
    cases h38 : tkW (tokAt T q) 38 with
    | true => rw [if_pos rfl]; rw [h38] at f65; exact f65
    | false =>
      rw [if_neg Bool.false_ne_true]
      cases h40 : isS T q 40 with
      | true => rw [if_pos rfl]; rw [h38, h40] at f65; exact f65
      | false =>
        have h3 : (tokAt T q).1 = 3 := by
          by_cases e : (tokAt T q).1 = 3
          · exact e
          · exact absurd ⟨c1, h38, h40, e⟩ no
        rw [if_neg Bool.false_ne_true, htk.2.2.1, if_pos (kz.mpr h3)]
        rw [h38, h40] at f65; exact f65
  · rw [if_neg (fun e => c1 (fz.mp e))]; exact f65
/-- where no join stands -/
def stopJ (T : aTp) (d q : Nat) (S : gS) : Prop := jnK T 0 q = 0 ∧ jnK T 2 q = 0 ∧ jnK T 3 q = 0 ∧ (jnK T 1 q = 0 ∨ sR S 196 d = 1)
theorem rl304 {T : aTp} {k d q cc : Nat} {S : gS} {Q : gS × Bool → Prop} (hT : okT T) (hq : q ≤ T.1) (hd : d ≤ 5) (hcc : 1000 ≤ cc ∧ cc < 2000) (htk : tkM S T (tokAt T q)) (hc : sI S 180 23 = N cc) (hs : stopJ T d q S)
    (h : ∀ k', k ≤ k' → wp (if isS T q 41 = true ∧ ¬ d = 0 then fX12_readsLaw k' 379 (uI (uR S 194 cc 29) 180 23 (N (cc + 1))) (N (d - 1)) 0 0 0 0 else fX12_readsLaw k' 399 S (N d) 0 0 0 0) Q) : rl (k + 3) d 0 S Q := by
  obtain ⟨s0, s2, s3, s1⟩ := hs
  have n39 : tkW (tokAt T q) 39 = false := by
    cases z : tkW (tokAt T q) 39 with
    | false => rfl
    | true => exact absurd s0 (by unfold jnK; simp [z])
  have n40 : tkW (tokAt T q) 40 = false := by
    cases z : tkW (tokAt T q) 40 with
    | false => rfl
    | true => exact absurd s0 (by unfold jnK; simp [z, n39])
  have n43 : isS T q 43 = false := by
    cases z : isS T q 43 with
    | false => rfl
    | true => exact absurd s2 (by unfold jnK; simp [z])
  have n45 : isS T q 45 = false := by
    cases z : isS T q 45 with
    | false => rfl
    | true => exact absurd s2 (by unfold jnK; simp [z, n43])
  have n42 : isS T q 42 = false := by
    cases z : isS T q 42 with
    | false => rfl
    | true => exact absurd s3 (by unfold jnK; simp [z])
  have f304 : ∀ m, k ≤ m → wp (fX12_readsLaw (m + 1) 304 S (N d) 0 0 0 0) Q := by
    intro m hm
    have hh := h m hm
    rw [fX12_readsLaw]
    simp only [if_true]
    rw [if_neg (by decide), if_neg (by decide), if_neg (by decide), if_neg (by decide), if_neg (by decide), if_neg (by decide), if_neg (by decide), if_neg (by decide), if_neg (by decide)]
    simp only [bX12_readsLaw_304]
    rw [mIsWord hq htk txt39 gw39, n39, wp_b2, wp_some]
    dsimp only
    rw [if_neg Bool.false_ne_true, mIsWord hq htk txt40 gw40, n40, wp_b2, wp_some]
    dsimp only
    rw [if_neg Bool.false_ne_true, show FX12_isSign S (41 : Int32) = some (S, isS T q 41) from mSgn (c := 41) hT hq htk (by omega), wp_b2, wp_some]
    dsimp only
    cases h41 : isS T q 41 with
    | false =>
      rw [if_neg Bool.false_ne_true]
      rw [if_neg (fun e => by rw [h41] at e; exact Bool.false_ne_true e.1)] at hh
      exact hh
    | true =>
      rw [if_pos rfl]
      by_cases d0 : d = 0
      · rw [if_neg (fun e => e.2 d0)] at hh
        rw [if_pos ((le0N (by omega)).mpr d0)]
        exact hh
      · rw [if_pos ⟨h41, d0⟩] at hh
        obtain ⟨d', rfl, -⟩ := kS (k := d) (m := 0) (by omega)
        rw [if_neg (fun e => d0 ((le0N (by omega)).mp e)), mPuts hc hcc.2, wp_b1, wp_some, (dec7 d' (by omega)).1]
        rw [show d' + 1 - 1 = d' by omega] at hh
        exact hh
  refine rl0 (k := k + 2) hT hq htk ?_
  rw [n43, n45, n42, if_neg (by decide)]
  by_cases c6 : isS T q 60 = true ∨ isS T q 61 = true
  · have e1 : sR S 196 d = 1 := by
      refine s1.resolve_left (fun z => ?_)
      unfold jnK at z
      rw [if_neg (by omega), if_pos rfl] at z
      by_cases z60 : isS T q 60 = true
      · rw [if_pos z60] at z; omega
      · rw [if_neg z60, if_pos (c6.resolve_left z60)] at z; omega
    rw [if_pos c6, fX12_readsLaw]
    simp only [if_true]
    rw [if_neg (by decide), if_neg (by decide), if_neg (by decide), if_neg (by decide), if_neg (by decide), if_neg (by decide), if_neg (by decide)]
    simp only [bX12_readsLaw_263]
    rw [if_pos (vpN (by omega) (by omega)), clN (by omega), e1, if_neg (show ¬ (1 : Int32) = 0 by decide)]
    exact f304 k (Nat.le_refl _)
  · rw [if_neg c6]
    exact f304 (k + 1) (by omega)
/-- what is wrong behind an E -/
theorem mBad {T : aTp} {k d q cc : Nat} {S : gS} {Q : gS × Bool → Prop} (hT : okT T) (hq : q ≤ T.1) (hd : d ≤ 5) (hcc : 1000 ≤ cc ∧ cc < 2000) (htk : tkM S T (tokAt T q)) (hc : sI S 180 23 = N cc) (hs : stopJ T d q S) (hk : 4 ≤ k) (h41 : isS T q 41 = false ∨ d = 0) (h59 : isS T q 59 = false ∨ ¬ d = 0)
    (h : ∀ U, kM3 S U → sI U 180 9 = N (1 + 16 * q) → Q (U, false)) : rl k d 0 S Q := by
  obtain ⟨k, rfl, hk⟩ := kS (k := k) (m := 3) (by omega)
  obtain ⟨k, rfl, hk⟩ := kS (k := k) (m := 2) (by omega)
  obtain ⟨k, rfl, hk⟩ := kS (k := k) (m := 1) (by omega)
  refine rl304 (k := k) hT hq hd hcc htk hc hs (fun k' hk' => ?_)
  obtain ⟨k', rfl, -⟩ := kS (k := k') (m := 0) (by omega)
  rw [if_neg (fun e => h41.elim (fun z => by rw [z] at e; exact Bool.false_ne_true e.1) (fun z => e.2 z)), fX12_readsLaw]
  simp only [if_true]
  rw [if_neg (by decide), if_neg (by decide), if_neg (by decide), if_neg (by decide), if_neg (by decide), if_neg (by decide), if_neg (by decide), if_neg (by decide), if_neg (by decide), if_neg (by decide), if_neg (by decide), if_neg (by decide), if_neg (by decide)]
  simp only [bX12_readsLaw_399]
  by_cases d0 : d = 0
  · rw [if_pos (show N d = (0 : Int32) by rw [d0]; rfl), show FX12_isSign S (59 : Int32) = some (S, isS T q 59) from mSgn (c := 59) hT hq htk (by omega), h59.resolve_right (fun z => z d0), wp_b2, wp_some]
    dsimp only
    rw [if_neg Bool.false_ne_true]
    exact mFl3 (c := 1) hq htk h
  · rw [if_neg (fun e => d0 ((eq0N (by omega)).mp e))]
    exact mFl3 (c := 1) hq htk h
theorem mEndE {T : aTp} {k q cc : Nat} {S : gS} {Q : gS × Bool → Prop} (hT : okT T) (hq : q ≤ T.1) (hcc : 1000 ≤ cc ∧ cc < 2000) (htk : tkM S T (tokAt T q)) (hc : sI S 180 23 = N cc) (hs : stopJ T 0 q S) (hk : 4 ≤ k) (h59 : isS T q 59 = true)
    (h : ∀ U, kM1 S U → tkM U T (tokAt T (nx T q)) → Q (U, true)) : rl k 0 0 S Q := by
  obtain ⟨k, rfl, hk⟩ := kS (k := k) (m := 3) (by omega)
  obtain ⟨k, rfl, hk⟩ := kS (k := k) (m := 2) (by omega)
  obtain ⟨k, rfl, hk⟩ := kS (k := k) (m := 1) (by omega)
  refine rl304 (k := k) hT hq (by omega) hcc htk hc hs (fun k' hk' => ?_)
  obtain ⟨k', rfl, -⟩ := kS (k := k') (m := 0) (by omega)
  rw [if_neg (fun e => e.2 rfl), fX12_readsLaw]
  simp only [if_true]
  rw [if_neg (by decide), if_neg (by decide), if_neg (by decide), if_neg (by decide), if_neg (by decide), if_neg (by decide), if_neg (by decide), if_neg (by decide), if_neg (by decide), if_neg (by decide), if_neg (by decide), if_neg (by decide), if_neg (by decide)]
  simp only [bX12_readsLaw_399]
  rw [if_pos (show N 0 = (0 : Int32) from rfl), show FX12_isSign S (59 : Int32) = some (S, isS T q 59) from mSgn (c := 59) hT hq htk (by omega), h59, wp_b2, wp_some]
  dsimp only
  rw [if_pos rfl]
  refine mNxt3 hT hq htk (fun U u1 u2 => ?_)
  rw [wp_some]
  exact h U u1 u2
