/-! the model reads an E: steps -/
def kM3 (S S' : gS) : Prop := fr [180, 194, 195, 196] S S' ∧ (∀ k, ¬ (k = 4 ∨ k = 5 ∨ k = 6 ∨ k = 8 ∨ k = 9 ∨ k = 23) → sI S' 180 k = sI S 180 k) ∧ ∀ i, i < 1000 → sR S' 194 i = sR S 194 i
theorem m3_rf {S : gS} : kM3 S S := ⟨fr_rf, fun _ _ => rfl, fun _ _ => rfl⟩
theorem m3_tr {S S1 S2 : gS} (h : kM3 S S1) (h' : kM3 S1 S2) : kM3 S S2 := ⟨fr_tr h.1 h'.1, fun k hk => (h'.2.1 k hk).trans (h.2.1 k hk), fun i hi => (h'.2.2 i hi).trans (h.2.2 i hi)⟩
theorem m3_I {S S' : gS} {k : Nat} {x : Int32} (h : kM3 S S') (hk : k = 9 ∨ k = 23) : kM3 S (uI S' 180 k x) :=
  ⟨fr_uI h.1 (by simp), fun j hj => by rw [I_uI, if_neg (by omega)]; exact h.2.1 j hj, h.2.2⟩
theorem m3_R {S S' : gS} {r k : Nat} {x : Int32} (h : kM3 S S') (hr : r = 194 ∧ 1000 ≤ k ∨ r = 195 ∨ r = 196) : kM3 S (uR S' r k x) :=
  ⟨fr_uR h.1 (by simp only [List.mem_cons, List.not_mem_nil, or_false]; omega), h.2.1, fun i hi => by rw [R_uR, if_neg (by omega)]; exact h.2.2 i hi⟩
theorem m3_k {S S' S2 : gS} (h : kM3 S S') (h' : kM1 S' S2) : kM3 S S2 :=
  ⟨fr_tr h.1 (fr_mo h'.1 (by intro b hb; simp only [List.mem_cons, List.not_mem_nil, or_false] at hb ⊢; omega)), fun k hk => (h'.2.1 k (by omega)).trans (h.2.1 k hk), fun i hi => by rw [frR h'.1 (show 194 ∉ [180] by decide)]; exact h.2.2 i hi⟩
theorem mPuts {S : gS} {cc : Nat} {c : Int32} (h : sI S 180 23 = N cc) (hc : cc < 2000) : FX12_puts S c = some (uI (uR S 194 cc c) 180 23 (N (cc + 1))) := by
  unfold FX12_puts
  rw [h, if_pos (vpN hc (by omega)), clN (by omega)]
  simp only [g_lt]
  rw [show sI (uR S 194 cc c) 180 23 = N cc from h, show N cc + (1 : Int32) = N (cc + 1) from addN1]
/-- behind a code: the token still at hand -/
def mPt (T : aTp) (q cc : Nat) (c : Int32) (S V : gS) : Prop := kM3 S V ∧ tkM V T (tokAt T q) ∧ sI V 180 23 = N (cc + 1) ∧ (∀ i, i ≠ cc → sR V 194 i = sR S 194 i) ∧ sR V 194 cc = c
theorem mPt_of {T : aTp} {q cc : Nat} {c : Int32} {S : gS} (htk : tkM S T (tokAt T q)) (h1000 : 1000 ≤ cc) : mPt T q cc c S (uI (uR S 194 cc c) 180 23 (N (cc + 1))) := by
  refine ⟨m3_I (m3_R m3_rf (by omega)) (by omega), ?_, I_self, fun i hi => ?_, ?_⟩
  · obtain ⟨h1, h2, h3, h4, h5, h6, h7⟩ := htk
    have e : ∀ j, j ≠ 23 → sI (uI (uR S 194 cc c) 180 23 (N (cc + 1))) 180 j = sI S 180 j := fun j hj => by rw [I_uI, if_neg (by omega)]; rfl
    have e2 : sR (uI (uR S 194 cc c) 180 23 (N (cc + 1))) 181 = sR S 181 := by funext i; rw [R_uI, R_uR, if_neg (by omega)]
    refine ⟨(e 3 (by omega)).trans h1, by rw [e2]; exact h2, (e 6 (by omega)).trans h3, (e 5 (by omega)).trans h4, (e 4 (by omega)).trans h5, h6, fun z => (e 8 (by omega)).trans (h7 z)⟩
  · rw [R_uI, R_uR, if_neg (by omega)]
  · rw [R_uI, R_self]
theorem tkM_R {S : gS} {T : aTp} {k : aTk} {r j : Nat} {x : Int32} (h : tkM S T k) (hr : r ≠ 181) : tkM (uR S r j x) T k :=
  tkM_i h (fun _ _ _ => rfl) (by funext i; rw [R_uR, if_neg (by omega)]) rfl
/-- the next token of the model, and nothing else -/
theorem mNxt3 {S : gS} {T : aTp} {q : Nat} {β : Type} {F : gS → Option β} {Q : β → Prop} (hT : okT T) (hq : q ≤ T.1) (hk : tkM S T (tokAt T q)) (h : ∀ U, kM1 S U → tkM U T (tokAt T (nx T q)) → wp (F U) Q) : wp (g_b1 (FX12_nextToken S) F) Q := by
  rw [wp_b1]
  exact wp_mono (mNxtT hT hq hk) (fun U hU => h U hU.1 hU.2)
theorem k1R {S U : gS} (h : kM1 S U) {b : Nat} (hb : b ≠ 180) : sR U b = sR S b := frR h.1 (by simp only [List.mem_cons, List.not_mem_nil, or_false]; omega)
theorem isS_f {T : aTp} {q c c' : Nat} (h : isS T q c = true) (hne : c ≠ c') : isS T q c' = false := by
  have := (isS_k h).2
  exact decide_eq_false (fun e => hne (this.symm.trans e.2))
theorem isS_w {T : aTp} {q c : Nat} (h : (tokAt T q).1 ≠ 4) : isS T q c = false := decide_eq_false (fun e => h e.1)
def rl (k d : Nat) (w : Int32) (S : gS) (Q : gS × Bool → Prop) : Prop := wp (fX12_readsLaw k 11 S (N d) w 0 0 0) Q
/-- pc 11, a part has stood there -/
theorem rl0 {k d q : Nat} {S : gS} {T : aTp} {Q : gS × Bool → Prop} (hT : okT T) (hq : q ≤ T.1) (htk : tkM S T (tokAt T q)) (h : wp (if isS T q 43 = true ∨ isS T q 45 = true ∨ isS T q 42 = true then fX12_readsLaw k 206 S (N d) 0 0 0 0 else if isS T q 60 = true ∨ isS T q 61 = true then fX12_readsLaw k 263 S (N d) 0 0 0 0 else fX12_readsLaw k 304 S (N d) 0 0 0 0) Q) : rl (k + 1) d 0 S Q := by
  have s43 : FX12_isSign S (43 : Int32) = some (S, isS T q 43) := mSgn (c := 43) hT hq htk (by omega)
  have s45 : FX12_isSign S (45 : Int32) = some (S, isS T q 45) := mSgn (c := 45) hT hq htk (by omega)
  have s42 : FX12_isSign S (42 : Int32) = some (S, isS T q 42) := mSgn (c := 42) hT hq htk (by omega)
  have s60 : FX12_isSign S (60 : Int32) = some (S, isS T q 60) := mSgn (c := 60) hT hq htk (by omega)
  have s61 : FX12_isSign S (61 : Int32) = some (S, isS T q 61) := mSgn (c := 61) hT hq htk (by omega)
  unfold rl
  rw [fX12_readsLaw]
  simp only [if_true, bX12_readsLaw_11]
  simp only [g_b2, s43, s45, s42, s60, s61]
  revert h
  cases isS T q 43 <;> cases isS T q 45 <;> cases isS T q 42 <;> cases isS T q 60 <;> cases isS T q 61 <;> (intro h; simpa using h)
theorem mJoin {T : aTp} {k K d q cc lev : Nat} {S : gS} {Q : gS × Bool → Prop} (hT : okT T) (hq : q ≤ T.1) (hd : d ≤ 5) (hcc : 1000 ≤ cc ∧ cc < 2000) (hl : lev ≤ 3) (hj : ¬ jnK T lev q = 0) (htk : tkM S T (tokAt T q)) (hc : sI S 180 23 = N cc) (h1 : lev = 1 → sR S 196 d = 0) (hk : K + 5 ≤ k)
    (h : ∀ U k', K ≤ k' → kM3 S U → tkM U T (tokAt T (nx T q)) → sI U 180 23 = N (cc + 1) → (∀ i, i ≠ cc → sR U 194 i = sR S 194 i) → sR U 194 cc = jnM lev (jnK T lev q) → (∀ j, sR U 195 j = sR S 195 j) → (∀ j, j ≠ d → sR U 196 j = sR S 196 j) → (sR U 196 d = if lev = 0 then 0 else if lev = 1 then 1 else sR S 196 d) → rl k' d 1 U Q) : rl k d 0 S Q := by
  obtain ⟨k, rfl, hk⟩ := kS (k := k) (m := K + 4) (by omega)
  refine rl0 hT hq htk ?_
  have nar1 : vp_nar .boolean (1 : Int32) = 1 := nar_b (b := true)
  have nar0 : vp_nar .boolean (0 : Int32) = 0 := nar_b (b := false)
  obtain ⟨k, rfl, hk⟩ := kS (k := k) (m := K + 3) (by omega)
  -- signs that put a code and go on
  have put : ∀ c : Int32, (lev = 2 ∨ lev = 3) → c = jnM lev (jnK T lev q) → wp (g_b1 (FX12_puts S c) (fun S9 => g_b1 (FX12_nextToken S9) (fun S10 => fX12_readsLaw k 11 S10 (N d) 1 0 0 0))) Q := by
    intro c hlev hcj
    obtain ⟨p1, p2, p3, p4, p5⟩ := mPt_of (cc := cc) (c := c) htk hcc.1
    rw [mPuts hc hcc.2, wp_b1, wp_some]
    refine mNxt3 hT hq p2 (fun U u1 u2 => ?_)
    refine h U k (by omega) (m3_k p1 u1) u2 ((u1.2.1 23 (by omega)).trans p3) (fun i hi => by rw [k1R u1 (by omega)]; exact p4 i hi) (by rw [k1R u1 (by omega), p5, hcj]) (fun j => ?_) (fun j _ => ?_) ?_
    · rw [k1R u1 (by omega), R_uI, R_uR, if_neg (by omega)]
    · rw [k1R u1 (by omega), R_uI, R_uR, if_neg (by omega)]
    · rw [if_neg (by omega), if_neg (by omega), k1R u1 (by omega), R_uI, R_uR, if_neg (by omega)]
  have put2 : ∀ (c x : Int32), (lev = 0 ∧ x = 0 ∨ lev = 1 ∧ x = 1) → c = jnM lev (jnK T lev q) → ∀ V, V = uI (uR S 194 cc c) 180 23 (N (cc + 1)) → ∀ m, K ≤ m → wp (g_lt (uR V 196 d x) (fun S2 => g_b1 (FX12_nextToken S2) (fun S3 => fX12_readsLaw m 11 S3 (N d) 1 0 0 0))) Q := by
    intro c x hlev hcj V hV m hm
    obtain ⟨p1, p2, p3, p4, p5⟩ := mPt_of (cc := cc) (c := c) htk hcc.1
    rw [← hV] at p1 p2 p3 p4 p5
    rw [wp_lt]
    refine mNxt3 hT hq (tkM_R p2 (by omega)) (fun U u1 u2 => ?_)
    refine h U m hm (m3_k (m3_R p1 (by omega)) u1) u2 ((u1.2.1 23 (by omega)).trans p3) (fun i hi => ?_) ?_ (fun j => ?_) (fun j hj => ?_) ?_
    · rw [k1R u1 (by omega), R_uR, if_neg (by omega)]; exact p4 i hi
    · rw [k1R u1 (by omega), R_uR, if_neg (by omega), p5, hcj]
    · rw [k1R u1 (by omega), R_uR, if_neg (by omega), hV, R_uI, R_uR, if_neg (by omega)]
    · rw [k1R u1 (by omega), R_uR, if_neg (by omega), hV, R_uI, R_uR, if_neg (by omega)]
    · rw [k1R u1 (by omega), R_self]
      rcases hlev with ⟨e, rfl⟩ | ⟨e, rfl⟩
      · rw [if_pos e]
      · rw [if_neg (by omega), if_pos e]
  rcases (show lev = 0 ∨ lev = 1 ∨ lev = 2 ∨ lev = 3 by omega) with e | e | e | e
  · -- words
    have hw : tkW (tokAt T q) 39 = true ∨ tkW (tokAt T q) 40 = true := by
      cases h39 : tkW (tokAt T q) 39 with
      | true => exact Or.inl rfl
      | false =>
        cases h40 : tkW (tokAt T q) 40 with
        | true => exact Or.inr rfl
        | false => exact absurd (by subst e; unfold jnK; rw [if_pos rfl, h39, h40]; rfl) hj
    have k2 : (tokAt T q).1 = 2 := hw.elim tkW_k tkW_k
    have sf : ∀ c, isS T q c = false := fun c => isS_w (by omega)
    rw [sf 43, sf 45, sf 42, sf 60, sf 61, if_neg (by decide), if_neg (by decide), fX12_readsLaw]
    simp only [if_true]
    rw [if_neg (by decide), if_neg (by decide), if_neg (by decide), if_neg (by decide), if_neg (by decide), if_neg (by decide), if_neg (by decide), if_neg (by decide), if_neg (by decide)]
    simp only [bX12_readsLaw_304]
    obtain ⟨k, rfl, hk⟩ := kS (k := k) (m := K + 2) (by omega)
    obtain ⟨k, rfl, hk⟩ := kS (k := k) (m := K + 1) (by omega)
    have f324 : wp (fX12_readsLaw (k + 1 + 1) 324 S (N d) 0 0 0 0) Q := by
      rw [fX12_readsLaw]
      simp only [if_true]
      rw [if_neg (by decide), if_neg (by decide), if_neg (by decide), if_neg (by decide), if_neg (by decide), if_neg (by decide), if_neg (by decide), if_neg (by decide), if_neg (by decide), if_neg (by decide)]
      simp only [bX12_readsLaw_324]
      have f345 : ∀ c : Int32, c = jnM lev (jnK T lev q) → wp (fX12_readsLaw (k + 1) 345 (uI (uR S 194 cc c) 180 23 (N (cc + 1))) (N d) 0 0 0 0) Q := by
        intro c hcj
        rw [fX12_readsLaw]
        simp only [if_true]
        rw [if_neg (by decide), if_neg (by decide), if_neg (by decide), if_neg (by decide), if_neg (by decide), if_neg (by decide), if_neg (by decide), if_neg (by decide), if_neg (by decide), if_neg (by decide), if_neg (by decide)]
        simp only [bX12_readsLaw_345]
        rw [if_pos (vpN (by omega) (by omega)), clN (by omega), nar0]
        exact put2 c 0 (Or.inl ⟨e, rfl⟩) hcj _ rfl k (by omega)
      rw [mIsWord hq htk txt39 gw39, wp_b2, wp_some]
      dsimp only
      cases h39 : tkW (tokAt T q) 39 with
      | true =>
        rw [if_pos rfl, mPuts hc hcc.2, wp_b1, wp_some]
        exact f345 26 (by subst e; have z : jnK T 0 q = 1 := (by unfold jnK; simp [h39]); rw [z]; rfl)
      | false =>
        rw [if_neg Bool.false_ne_true, mPuts hc hcc.2, wp_b1, wp_some]
        exact f345 27 (by subst e; have z : jnK T 0 q = 2 := (by unfold jnK; simp [h39, hw.resolve_left (by rw [h39]; decide)]); rw [z]; rfl)
    rw [mIsWord hq htk txt39 gw39, wp_b2, wp_some]
    dsimp only
    cases h39 : tkW (tokAt T q) 39 with
    | true => rw [if_pos rfl]; exact f324
    | false =>
      rw [if_neg Bool.false_ne_true, mIsWord hq htk txt40 gw40, wp_b2, wp_some]
      dsimp only
      rw [hw.resolve_left (by rw [h39]; decide), if_pos rfl]; exact f324
  · -- < =
    have hw : isS T q 60 = true ∨ isS T q 61 = true := by
      cases h60 : isS T q 60 with
      | true => exact Or.inl rfl
      | false =>
        cases h61 : isS T q 61 with
        | true => exact Or.inr rfl
        | false => exact absurd (by subst e; unfold jnK; rw [if_neg (by omega), if_pos rfl, h60, h61]; rfl) hj
    have sf : ∀ c, c ≠ 60 → c ≠ 61 → isS T q c = false := fun c h1 h2 => hw.elim (fun z => isS_f z (Ne.symm h1)) (fun z => isS_f z (Ne.symm h2))
    rw [sf 43 (by omega) (by omega), sf 45 (by omega) (by omega), sf 42 (by omega) (by omega), if_neg (by decide), if_pos hw, fX12_readsLaw]
    simp only [if_true]
    rw [if_neg (by decide), if_neg (by decide), if_neg (by decide), if_neg (by decide), if_neg (by decide), if_neg (by decide), if_neg (by decide)]
    simp only [bX12_readsLaw_263]
    obtain ⟨k, rfl, hk⟩ := kS (k := k) (m := K + 2) (by omega)
    rw [if_pos (vpN (by omega) (by omega)), clN (by omega), if_pos (h1 e), show FX12_isSign S (60 : Int32) = some (S, isS T q 60) from mSgn (c := 60) hT hq htk (by omega), wp_b2, wp_some]
    dsimp only
    have f292 : ∀ c : Int32, c = jnM lev (jnK T lev q) → wp (fX12_readsLaw (k + 1) 292 (uI (uR S 194 cc c) 180 23 (N (cc + 1))) (N d) 0 0 0 0) Q := by
      intro c hcj
      rw [fX12_readsLaw]
      simp only [if_true]
      rw [if_neg (by decide), if_neg (by decide), if_neg (by decide), if_neg (by decide), if_neg (by decide), if_neg (by decide), if_neg (by decide), if_neg (by decide)]
      simp only [bX12_readsLaw_292]
      rw [if_pos (vpN (by omega) (by omega)), clN (by omega), nar1]
      exact put2 c 1 (Or.inr ⟨e, rfl⟩) hcj _ rfl k (by omega)
    cases h60 : isS T q 60 with
    | true =>
      rw [if_pos rfl, mPuts hc hcc.2, wp_b1, wp_some]
      exact f292 24 (by subst e; have z : jnK T 1 q = 1 := (by unfold jnK; simp [h60]); rw [z]; rfl)
    | false =>
      rw [if_neg Bool.false_ne_true, mPuts hc hcc.2, wp_b1, wp_some]
      exact f292 25 (by subst e; have z : jnK T 1 q = 2 := (by unfold jnK; simp [h60, hw.resolve_left (by rw [h60]; decide)]); rw [z]; rfl)
  · have hw : isS T q 43 = true ∨ isS T q 45 = true := by
      cases h43 : isS T q 43 with
      | true => exact Or.inl rfl
      | false =>
        cases h45 : isS T q 45 with
        | true => exact Or.inr rfl
        | false => exact absurd (by subst e; unfold jnK; rw [if_neg (by omega), if_neg (by omega), if_pos rfl, h43, h45]; rfl) hj
    rw [if_pos (hw.elim Or.inl (fun z => Or.inr (Or.inl z))), fX12_readsLaw]
    simp only [if_true]
    rw [if_neg (by decide), if_neg (by decide), if_neg (by decide), if_neg (by decide), if_neg (by decide), if_neg (by decide)]
    simp only [bX12_readsLaw_206]
    rw [show FX12_isSign S (43 : Int32) = some (S, isS T q 43) from mSgn (c := 43) hT hq htk (by omega), wp_b2, wp_some]
    dsimp only
    cases h43 : isS T q 43 with
    | true =>
      rw [if_pos rfl]
      exact put 20 (Or.inl e) (by subst e; have z : jnK T 2 q = 1 := (by unfold jnK; simp [h43]); rw [z]; rfl)
    | false =>
      have h45 := hw.resolve_left (by rw [h43]; decide)
      rw [if_neg Bool.false_ne_true, show FX12_isSign S (45 : Int32) = some (S, isS T q 45) from mSgn (c := 45) hT hq htk (by omega), wp_b2, wp_some]
      dsimp only
      rw [h45, if_pos rfl]
      exact put 21 (Or.inl e) (by subst e; have z : jnK T 2 q = 2 := (by unfold jnK; simp [h43, h45]); rw [z]; rfl)
  · have h42 : isS T q 42 = true := by
      cases h42 : isS T q 42 with
      | true => rfl
      | false => exact absurd (by subst e; unfold jnK; rw [if_neg (by omega), if_neg (by omega), if_neg (by omega), h42]; rfl) hj
    rw [if_pos (Or.inr (Or.inr h42)), fX12_readsLaw]
    simp only [if_true]
    rw [if_neg (by decide), if_neg (by decide), if_neg (by decide), if_neg (by decide), if_neg (by decide), if_neg (by decide)]
    simp only [bX12_readsLaw_206]
    rw [show FX12_isSign S (43 : Int32) = some (S, isS T q 43) from mSgn (c := 43) hT hq htk (by omega), isS_f h42 (by omega), wp_b2, wp_some]
    dsimp only
    rw [if_neg Bool.false_ne_true, show FX12_isSign S (45 : Int32) = some (S, isS T q 45) from mSgn (c := 45) hT hq htk (by omega), isS_f h42 (by omega), wp_b2, wp_some]
    dsimp only
    rw [if_neg Bool.false_ne_true]
    exact put 22 (Or.inr e) (by subst e; have z : jnK T 3 q = 1 := (by unfold jnK; simp [h42]); rw [z]; rfl)
