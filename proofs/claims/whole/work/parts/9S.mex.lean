/-! the model reads an E -/
def FZ (q : Nat) : Nat := 20 * (1001 - q)
def mEq (d cc : Nat) (S S' : gS) : Prop := kM3 S S' ∧ (∀ i, i < cc → sR S' 194 i = sR S 194 i) ∧ (∀ j, j ≤ d → sR S' 195 j = sR S 195 j) ∧ (∀ j, j < d → sR S' 196 j = sR S 196 j)
def mAt (T : aTp) (d cc : Nat) (S : gS) (R : aRe) (S' : gS) : Prop := mEq d cc S S' ∧ tkM S' T (tokAt T R.2.1) ∧ sI S' 180 23 = N (cc + R.2.2.2.1.length) ∧ sgm (sR S' 194) cc R.2.2.2.1
def mRdL (T : aTp) (lev d : Nat) (R : Nat → aRe) : Prop := ∀ q S cc kk Q, q ≤ T.1 → tkM S T (tokAt T q) → sI S 180 23 = N cc → 1000 ≤ cc ∧ cc < 1000 + q → (d = 0 ∨ ¬ sR S 195 d = 1) → (lev ≤ 1 → sR S 196 d = 0) → FZ q ≤ kk →
  ((R q).1 = 0 → ∀ S' k', FZ (R q).2.1 ≤ k' → mAt T d cc S (R q) S' → (lev ≤ 1 → jnK T 1 (R q).2.1 = 0 ∨ sR S' 196 d = 1) → (2 ≤ lev → sR S' 196 d = sR S 196 d) → rl k' d 0 S' Q) →
  (¬ (R q).1 = 0 → ∀ S', kM3 S S' → sI S' 180 9 = N (R q).1 → Q (S', false)) → rl kk d 1 S Q
def mRdP (T : aTp) (d : Nat) (R : Nat → aRe) : Prop := ∀ q S cc kk Q, q ≤ T.1 → tkM S T (tokAt T q) → sI S 180 23 = N cc → 1000 ≤ cc ∧ cc < 1000 + q → FZ q ≤ kk →
  ((R q).1 = 0 → ∀ S' k', FZ (R q).2.1 ≤ k' → mAt T d cc S (R q) S' → sR S' 196 d = sR S 196 d → rl k' (popD (sR S 195) d) 0 S' Q) →
  (¬ (R q).1 = 0 → ∀ S', kM3 S S' → sI S' 180 9 = N (R q).1 → Q (S', false)) → rl kk d 1 S Q
theorem mElL {T : aTp} {rec : Nat → aRe} {lev d q cc : Nat} {S : gS} {Q : gS × Bool → Prop} (hT : okT T) (hd : d ≤ 5) (hl : lev ≤ 3) (hq : q ≤ T.1) (hcq : 1000 ≤ cc ∧ cc < 1000 + q) (hn : d = 0 ∨ ¬ sR S 195 d = 1)
    (hok : ∀ q, q ≤ T.1 → okR T q (lev + 1) (rec q)) (hrec : mRdL T (lev + 1) d rec) :
    ∀ m r S' k', r.1 = 0 → okR T q (lev + 1) r → mAt T d cc S r S' → ((lev = 0 → jnK T 1 r.2.1 = 0 ∨ sR S' 196 d = 1) ∧ (lev = 1 → sR S' 196 d = 0) ∧ (2 ≤ lev → sR S' 196 d = sR S 196 d)) → T.1 < r.2.1 + m → FZ r.2.1 ≤ k' →
      ((aEl T rec lev m r).1 = 0 → ∀ S2 k2, FZ (aEl T rec lev m r).2.1 ≤ k2 → mAt T d cc S (aEl T rec lev m r) S2 → (lev ≤ 1 → jnK T 1 (aEl T rec lev m r).2.1 = 0 ∨ sR S2 196 d = 1) → (2 ≤ lev → sR S2 196 d = sR S 196 d) → rl k2 d 0 S2 Q) →
      (¬ (aEl T rec lev m r).1 = 0 → ∀ S2, kM3 S S2 → sI S2 180 9 = N (aEl T rec lev m r).1 → Q (S2, false)) → rl k' d 0 S' Q := by
  have h1000 := hT.1
  intro m
  induction m with
  | zero => intro r S' k' h0 hr hs h6 hm; have := (hr.2 h0).2.1; omega
  | succ m ih =>
    intro r S' k' h0 hr hs h6 hm hk hg hb
    obtain ⟨r1, r2, r3, r4, r5, r6, r7⟩ := hr.2 h0
    rw [aEl] at hg hb
    by_cases c : jnK T lev r.2.1 = 0
    · rw [if_pos c] at hg hb
      refine hg h0 S' k' hk hs (fun hl1 => ?_) h6.2.2
      rcases (show lev = 0 ∨ lev = 1 by omega) with e | e
      · exact h6.1 e
      · left; rw [← e]; exact c
    rw [if_neg c] at hg hb
    obtain ⟨⟨s1, s2, s3, s4⟩, s5, s6, s7⟩ := hs
    have hkz := jnK_k c
    have hlt := tokAt_lt r2 hkz
    have hx := nx_lt r2 hkz
    have hx2 := nx_le r2
    obtain ⟨b0, b1⟩ := hok (nx T r.2.1) hx2
    refine mJoin (K := FZ (nx T r.2.1)) hT r2 hd (by omega) hl c s5 s6 h6.2.1 (by unfold FZ at hk ⊢; omega) ?_
    intro U ku hku u1 u2 u3 u4 u5 u6 u7 u8
    have hU : mEq d cc S U := ⟨m3_tr s1 u1, fun i hi => (u4 i (by omega)).trans (s2 i hi), fun j hj => (u6 j).trans (s3 j hj), fun j hj => (u7 j (by omega)).trans (s4 j hj)⟩
    have u6' : d = 0 ∨ ¬ sR U 195 d = 1 := by rw [u6, s3 d (Nat.le_refl _)]; exact hn
    refine hrec (nx T r.2.1) U (cc + r.2.2.2.1.length + 1) ku Q hx2 u2 u3 (by omega) u6' (fun hl0 => ?_) hku ?_ ?_
    · have e : lev = 0 := by omega
      rw [u8, if_pos e]
    · intro cb V kv hkv ⟨⟨v1, v2, v3, v4⟩, v5, v6, v7⟩ v8 v9
      rw [if_neg (fun h => h cb)] at hg hb
      obtain ⟨c1, c2, c3, c4, c5, c6, c7⟩ := b1 cb
      have hj : mAt T d cc S (aJo T lev r (rec (nx T r.2.1))) V := by
        unfold aJo mAt
        dsimp only
        refine ⟨⟨m3_tr hU.1 v1, fun i hi => (v2 i (by omega)).trans (hU.2.1 i hi), fun j hj => (v3 j hj).trans (hU.2.2.1 j hj), fun j hj => (v4 j hj).trans (hU.2.2.2 j hj)⟩, v5, ?_, ?_⟩
        · rw [v6, List.length_append, List.length_cons]; congr 1; omega
        · rw [sgm_app]
          refine ⟨sgm_eq _ _ s7 (fun j h1 h2 => (v2 j (by omega)).trans (u4 j (by omega))), ?_, v7⟩
          rw [v2 _ (by omega)]; exact u5
      have hoj : okR T q (lev + 1) (aJo T lev r (rec (nx T r.2.1))) := by
        unfold aJo
        refine ⟨by dsimp only; omega, fun _ => ⟨by dsimp only; omega, c2, ?_, ?_, ?_, ?_, c7⟩⟩
        · dsimp only; rw [List.length_append, List.length_append]; omega
        · dsimp only; rw [List.length_append, List.length_append, List.length_cons, List.length_nil]; omega
        · dsimp only; rw [List.length_append, List.length_cons]; omega
        · dsimp only; rw [List.length_append, List.length_cons]; omega
      by_cases e1 : lev = 1
      · rw [if_pos e1] at hg
        refine hg rfl V kv hkv hj (fun _ => Or.inr ?_) (fun h => by omega)
        rw [v9 (by omega), u8, if_neg (by omega), if_pos e1]
      · rw [if_neg e1] at hg hb
        refine ih (aJo T lev r (rec (nx T r.2.1))) V kv rfl hoj hj ⟨fun e => v8 (by omega), fun e => absurd e e1, fun e => ?_⟩ (by show T.1 < (rec (nx T r.2.1)).2.1 + m; omega) hkv hg hb
        rw [v9 (by omega), u8, if_neg (by omega), if_neg e1]
        exact h6.2.2 e
    · intro cb V v1 v2
      rw [if_pos cb] at hb
      exact hb cb V (m3_tr hU.1 v1) v2
theorem mEx {T : aTp} (hT : okT T) : ∀ k, (∀ lev d, lev ≤ 4 → d ≤ 5 → mzL lev d ≤ k → mRdL T lev d (fun q => aEx T k 0 lev d q)) ∧ (∀ d, d ≤ 5 → mzP d ≤ k → mRdP T d (fun q => aEx T k 1 0 d q)) := by
  have h1000 := hT.1
  intro k
  induction k with
  | zero => exact ⟨fun lev d _ _ h => by unfold mzL at h; omega, fun d _ h => by unfold mzP at h; omega⟩
  | succ k ih =>
    obtain ⟨ihl, ihp⟩ := ih
    refine ⟨fun lev d hl hd hm => ?_, fun d hd hm => ?_⟩
    · intro q S cc kk Q hq htk hc hcq hn h196 hk hg hb
      dsimp only at hg hb
      rw [aEx] at hg hb
      dsimp only at hg hb
      rw [if_pos rfl] at hg hb
      by_cases c3 : lev ≤ 3
      · rw [if_pos c3] at hg hb
        have ihr := ihl (lev + 1) d (by omega) hd (by unfold mzL at hm ⊢; omega)
        have b1 := (aEx_ok hT k).1 (lev + 1) d q hq
        refine ihr q S cc kk Q hq htk hc hcq hn (fun h => h196 (by omega)) hk ?_ ?_
        · intro cb V kv hkv v1 v2 v3
          rw [if_neg (fun h => h cb)] at hg hb
          refine mElL (rec := fun q => aEx T k 0 (lev + 1) d q) hT hd c3 hq hcq hn (fun q hq => (aEx_ok hT k).1 (lev + 1) d q hq) ihr 1001 _ V kv cb b1 v1 ⟨fun e => v2 (by omega), fun e => ?_, fun e => v3 (by omega)⟩ (by omega) hkv hg hb
          rw [v3 (by omega)]; exact h196 (by omega)
        · intro cb V v1 v2
          rw [if_pos cb] at hb
          exact hb cb V v1 v2
      · rw [if_neg c3] at hg hb
        refine ihp d hd (by unfold mzL at hm; unfold mzP; omega) q S cc kk Q hq htk hc hcq hk ?_ ?_
        · intro cb V kv hkv v1 v2
          rw [popD_n hn]
          exact hg cb V kv hkv v1 (fun h => by omega) (fun _ => v2)
        · exact hb
    · intro q S cc kk Q hq htk hc hcq hk hg hb
      dsimp only at hg hb
      rw [aEx] at hg hb
      dsimp only at hg hb
      rw [if_neg (by omega)] at hg hb
      unfold aPt at hg hb
      have fk : ∀ q', q < q' → q' ≤ 1000 → FZ q' + 12 ≤ kk := by intro q' h1 h2; unfold FZ at hk ⊢; omega
      have up : ¬ (tokAt T q).1 = 0 → q < nx T q ∧ nx T q ≤ T.1 := fun h => ⟨nx_lt hq h, nx_le hq⟩
      by_cases hno : noPt T q
      · rw [if_pos hno] at hb
        refine rl1 (K := 0) hT hq hd (by omega) htk hc (by unfold FZ at hk; omega) (fun _ U u1 u2 => hb (by show ¬ 1 + 16 * q = 0; omega) U u1 u2) (fun h => absurd hno h) (fun h => absurd hno h) (fun h => absurd hno h)
      rw [if_neg hno] at hg hb
      by_cases c5 : 5 ≤ d
      · rw [if_pos c5] at hb
        refine rl1 (K := 0) hT hq hd (by omega) htk hc (by unfold FZ at hk; omega) (fun h => absurd h hno) (fun _ _ U u1 u2 => hb (by show ¬ 5 + 16 * q = 0; omega) U u1 u2) (fun _ h => by omega) (fun _ h => by omega)
      rw [if_neg c5] at hg hb
      have hk0 : ¬ (tokAt T q).1 = 0 := by
        intro h0
        apply hno
        refine ⟨?_, ?_, isS_w (by omega), by omega⟩
        · by_cases e : tkFa (tokAt T q) = 0
          · exact e
          · have := (tkFa_k e).1; omega
        · cases hh : tkW (tokAt T q) 38 with
          | false => rfl
          | true => have := tkW_k hh; omega
      obtain ⟨hx, hx2⟩ := up hk0
      refine rl1 (K := FZ (nx T q)) hT hq hd (by omega) htk hc (fk _ hx (by omega)) (fun h => absurd h hno) (fun _ h => by omega) ?_ ?_
      · intro _ hd4 c x hcx U ku hku u1 u2 u3 u4 u5 u6 u7 u8 u9
        rcases hcx with ⟨h38, rfl, rfl⟩ | ⟨h38, h40, rfl, rfl⟩
        · -- not
          rw [if_pos h38] at hg hb
          unfold aNo at hg hb
          have b1 := (aEx_ok hT k).2 4 (d + 1) (nx T q) hx2 (by omega)
          refine ihp (d + 1) (by omega) (by unfold mzP at hm ⊢; omega) (nx T q) U (cc + 1) ku Q hx2 u2 u3 (by omega) hku ?_ ?_
          · intro cb V kv hkv ⟨⟨v1, v2, v3, v4⟩, v5, v6, v7⟩ v8
            dsimp only at cb
            rw [if_neg (fun h => h cb)] at hg
            have e : popD (sR U 195) (d + 1) = popD (sR S 195) d := by
              rw [popD, if_pos u7]
              exact popD_eq d (fun j hj => u6 j (by omega))
            rw [e]
            refine hg rfl V kv hkv ⟨⟨m3_tr u1 v1, fun i hi => (v2 i (by omega)).trans (u4 i (by omega)), fun j hj => (v3 j (by omega)).trans (u6 j (by omega)), fun j hj => (v4 j (by omega)).trans (u8 j (by omega))⟩, v5, ?_, ?_⟩ ?_
            · rw [v6]; show _ = N (cc + (30 :: _ : List Int32).length); rw [List.length_cons]; congr 1; omega
            · exact ⟨(v2 cc (by omega)).trans u5, v7⟩
            · rw [v4 d (by omega)]; exact u8 d (by omega)
          · intro cb V v1 v2
            dsimp only at cb v2
            rw [if_pos cb] at hb
            exact hb cb V (m3_tr u1 v1) v2
        · -- (
          rw [if_neg (by rw [h38]; decide), if_pos h40] at hg hb
          unfold aPa at hg hb
          have b1 := (aEx_ok hT k).1 0 (d + 1) (nx T q) hx2
          refine ihl 0 (d + 1) (by omega) (by omega) (by unfold mzP at hm; unfold mzL; omega) (nx T q) U (cc + 1) ku Q hx2 u2 u3 (by omega) (Or.inr (by rw [u7]; decide)) (fun _ => u9) hku ?_ ?_
          · intro cb V kv hkv ⟨⟨v1, v2, v3, v4⟩, v5, v6, v7⟩ v8 v9
            dsimp only at cb hkv v5 v6 v7 v8
            rw [if_neg (show ¬ ¬ (aEx T k 0 0 (d + 1) (nx T q)).1 = 0 from fun h => h cb)] at hg hb
            obtain ⟨c1, c2, c3, c4, c5', c6, c7⟩ := b1.2 cb
            have hs : stopJ T (d + 1) (aEx T k 0 0 (d + 1) (nx T q)).2.1 V := ⟨c7 0 (by omega) (by omega) (by omega), c7 2 (by omega) (by omega) (by omega), c7 3 (by omega) (by omega) (by omega), v8 (by omega)⟩
            cases h41 : isS T (aEx T k 0 0 (d + 1) (nx T q)).2.1 41 with
            | false =>
              rw [if_pos h41] at hb
              exact mBad hT c2 (by omega) (by omega) v5 v6 hs (by unfold FZ at hkv; omega) (Or.inl h41) (Or.inr (by omega)) (fun W w1 w2 => hb (by show ¬ 1 + 16 * _ = 0; omega) W (m3_tr (m3_tr u1 v1) w1) w2)
            | true =>
              rw [if_neg (by rw [h41]; decide)] at hg
              have hk2 : ¬ (tokAt T (aEx T k 0 0 (d + 1) (nx T q)).2.1).1 = 0 := by have := (isS_k h41).1; omega
              have hlt := tokAt_lt c2 hk2
              have m1 := nx_lt c2 hk2
              have m2 := nx_le c2
              have hkv' : FZ (nx T (aEx T k 0 0 (d + 1) (nx T q)).2.1) + 20 ≤ kv := by unfold FZ at hkv ⊢; omega
              obtain ⟨kv, rfl, hkv2⟩ := kS (k := kv) (m := FZ (nx T (aEx T k 0 0 (d + 1) (nx T q)).2.1) + 19) (by omega)
              obtain ⟨kv, rfl, hkv3⟩ := kS (k := kv) (m := FZ (nx T (aEx T k 0 0 (d + 1) (nx T q)).2.1) + 18) (by omega)
              obtain ⟨kv, rfl, hkv4⟩ := kS (k := kv) (m := FZ (nx T (aEx T k 0 0 (d + 1) (nx T q)).2.1) + 17) (by omega)
              refine rl304 (k := kv) hT c2 (by omega) (cc := cc + 1 + (aEx T k 0 0 (d + 1) (nx T q)).2.2.2.1.length) (by omega) v5 v6 hs (fun k' hk' => ?_)
              obtain ⟨p1, p2, p3, p4, p5⟩ := mPt_of (cc := cc + 1 + (aEx T k 0 0 (d + 1) (nx T q)).2.2.2.1.length) (c := 29) v5 (by omega)
              rw [if_pos ⟨h41, by omega⟩, show d + 1 - 1 = d by omega]
              have e195 : ∀ j, j ≤ d → sR (uI (uR V 194 (cc + 1 + (aEx T k 0 0 (d + 1) (nx T q)).2.2.2.1.length) 29) 180 23 (N (cc + 1 + (aEx T k 0 0 (d + 1) (nx T q)).2.2.2.1.length + 1))) 195 j = sR S 195 j := by
                intro j hj
                rw [R_uI, R_uR, if_neg (by omega), v3 j (by omega), u6 j (by omega)]
              refine mPop (K := FZ (nx T (aEx T k 0 0 (d + 1) (nx T q)).2.1)) hT c2 (Or.inr rfl) d k' _ (by omega) (by omega) p2 (fun W kw hkw w1 w2 => ?_)
              rw [popD_eq d e195]
              refine hg rfl W kw hkw ⟨⟨m3_tr (m3_tr u1 v1) (m3_k p1 w1), fun i hi => ?_, fun j hj => ?_, fun j hj => ?_⟩, w2, ?_, ?_, ?_⟩ ?_
              · rw [k1R w1 (by omega), p4 i (by omega), v2 i (by omega), u4 i (by omega)]
              · rw [k1R w1 (by omega)]; exact e195 j hj
              · rw [k1R w1 (by omega), R_uI, R_uR, if_neg (by omega), v4 j (by omega), u8 j (by omega)]
              · rw [w1.2.1 23 (by omega), p3]
                show _ = N (cc + (28 :: ((aEx T k 0 0 (d + 1) (nx T q)).2.2.2.1 ++ [29]) : List Int32).length)
                rw [List.length_cons, List.length_append, List.length_cons, List.length_nil]; congr 1; omega
              · rw [k1R w1 (by omega), p4 cc (by omega), v2 cc (by omega)]; exact u5
              · rw [sgm_app]
                refine ⟨sgm_eq _ _ v7 (fun j h1 h2 => by have h3 : j < cc + 1 + (aEx T k 0 0 (d + 1) (nx T q)).2.2.2.1.length := h2; rw [k1R w1 (by omega), p4 j (by omega)]), ?_, trivial⟩
                rw [k1R w1 (by omega)]; exact p5
              · rw [k1R w1 (by omega), R_uI, R_uR, if_neg (by omega), v4 d (by omega), u8 d (by omega)]
          · intro cb V v1 v2
            dsimp only at cb v2
            rw [if_pos cb] at hb
            exact hb cb V (m3_tr u1 v1) v2
      · intro _ hd4 h38 h40 U ku hku u1 u2 u3 u4 u5 u6 u7
        rw [if_neg (by rw [h38]; decide), if_neg (by rw [h40]; decide)] at hg
        have el : (aLf T q).1 = 0 ∧ (aLf T q).2.1 = nx T q ∧ (aLf T q).2.2.2.1 = [lfC T q] := by
          unfold aLf lfC
          split
          · exact ⟨rfl, rfl, rfl⟩
          · exact ⟨rfl, rfl, rfl⟩
        obtain ⟨l1, l2, l3⟩ := el
        refine hg l1 U ku (by rw [l2]; exact hku) ⟨⟨u1, fun i hi => u4 i (by omega), fun j hj => u6 j, fun j hj => u7 j⟩, by rw [l2]; exact u2, by rw [l3]; exact u3, by rw [l3]; exact ⟨u5, trivial⟩⟩ (u7 d)
