/-! what an E works, both codes -/
def evX (lev d : Nat) (cs : List Int32) (v : aVl) : Prop := ∀ p q r s k, k.length ≤ 4 * d + lev → xRn p q r s cs k = v p q r s :: k
def evM (lev d : Nat) (cs : List Int32) (v : aVl) : Prop := if lev = 0 then zM0 d cs v else if lev = 1 then zM1 d cs v else if lev = 2 then zM2 d cs v else if lev = 3 then zM3 d cs v else zM4 d cs v
theorem evX_dn {lev d : Nat} {cs : List Int32} {v : aVl} (h : evX (lev + 1) d cs v) : evX lev d cs v := fun p q r s k hk => h p q r s k (by omega)
theorem evM_dn {lev d : Nat} {cs : List Int32} {v : aVl} (hl : lev ≤ 3) (h : evM (lev + 1) d cs v) : evM lev d cs v := by
  rcases (show lev = 0 ∨ lev = 1 ∨ lev = 2 ∨ lev = 3 by omega) with rfl | rfl | rfl | rfl
  · exact zm10 h
  · exact zm21 h
  · exact zm32 h
  · exact zm43 h
theorem evX_j {lev d : Nat} {c : Int32} {a b : List Int32} {va vb : aVl} (hc : ¬ (-6 : Int32) < c) (ha : evX lev d a va) (hb : evX (lev + 1) d b vb) : evX lev d (a ++ (b ++ [c])) (fun p q r s => jn c (va p q r s) (vb p q r s)) := by
  intro p q r s k hk
  rw [xRn_app, xRn_app, ha p q r s k hk, hb p q r s _ (by rw [List.length_cons]; omega)]
  show xS1 p q r s c (vb p q r s :: va p q r s :: k) = _
  unfold xS1
  rw [if_neg hc]
theorem evM_j {T : aTp} {lev d q : Nat} {a b : List Int32} {va vb : aVl} (hl : lev ≤ 3) (hj : ¬ jnK T lev q = 0) (ha : if lev = 1 then zM2 d a va else evM lev d a va) (hb : evM (lev + 1) d b vb) : evM lev d (a ++ jnM lev (jnK T lev q) :: b) (fun p r s t => jn (jnX lev (jnK T lev q)) (va p r s t) (vb p r s t)) := by
  have h2 := jnK_2 (T := T) (lev := lev) (q := q)
  revert hj h2
  generalize jnK T lev q = j
  intro hj h2
  have h12 : j = 1 ∨ j = 2 := by omega
  rcases (show lev = 0 ∨ lev = 1 ∨ lev = 2 ∨ lev = 3 by omega) with rfl | rfl | rfl | rfl
  · rw [if_neg (by omega)] at ha
    rcases h12 with rfl | rfl
    · exact m0j (Or.inl ⟨rfl, rfl⟩) ha hb
    · exact m0j (Or.inr ⟨rfl, rfl⟩) ha hb
  · rw [if_pos rfl] at ha
    rcases h12 with rfl | rfl
    · exact m1j (Or.inl ⟨rfl, rfl⟩) ha hb
    · exact m1j (Or.inr ⟨rfl, rfl⟩) ha hb
  · rw [if_neg (by omega)] at ha
    rcases h12 with rfl | rfl
    · exact m2j (Or.inl ⟨rfl, rfl⟩) ha hb
    · exact m2j (Or.inr ⟨rfl, rfl⟩) ha hb
  · rw [if_neg (by omega)] at ha
    exact m3j ha hb
theorem aEl_ev {T : aTp} {rec : Nat → aRe} {lev d : Nat} (hl : lev ≤ 3) (hrec : ∀ q, (rec q).1 = 0 → evX (lev + 1) d (rec q).2.2.1 (rec q).2.2.2.2 ∧ evM (lev + 1) d (rec q).2.2.2.1 (rec q).2.2.2.2) : ∀ m r, evX lev d r.2.2.1 r.2.2.2.2 → (if lev = 1 then zM2 d r.2.2.2.1 r.2.2.2.2 else evM lev d r.2.2.2.1 r.2.2.2.2) → (aEl T rec lev m r).1 = 0 → evX lev d (aEl T rec lev m r).2.2.1 (aEl T rec lev m r).2.2.2.2 ∧ evM lev d (aEl T rec lev m r).2.2.2.1 (aEl T rec lev m r).2.2.2.2 := by
  have dn : ∀ r : aRe, (if lev = 1 then zM2 d r.2.2.2.1 r.2.2.2.2 else evM lev d r.2.2.2.1 r.2.2.2.2) → evM lev d r.2.2.2.1 r.2.2.2.2 := by
    intro r h
    by_cases e : lev = 1
    · rw [if_pos e] at h; subst e; exact zm21 h
    · rw [if_neg e] at h; exact h
  intro m
  induction m with
  | zero => intro r h1 h2 _; rw [aEl]; exact ⟨h1, dn r h2⟩
  | succ m ih =>
    intro r h1 h2 h0
    rw [aEl] at h0 ⊢
    by_cases c : jnK T lev r.2.1 = 0
    · rw [if_pos c] at h0 ⊢; exact ⟨h1, dn r h2⟩
    · rw [if_neg c] at h0 ⊢
      by_cases c2 : (rec (nx T r.2.1)).1 = 0
      · rw [if_neg (fun h => h c2)] at h0 ⊢
        obtain ⟨b1, b2⟩ := hrec _ c2
        have j1 := evX_j (jnX_lt (lev := lev) (j := jnK T lev r.2.1)) h1 b1
        have j2 := evM_j (T := T) (q := r.2.1) hl c h2 b2
        by_cases e : lev = 1
        · rw [if_pos e] at h0 ⊢; exact ⟨j1, j2⟩
        · rw [if_neg e] at h0 ⊢
          exact ih _ j1 (by rw [if_neg e]; exact j2) h0
      · rw [if_pos c2] at h0
        exact absurd h0 c2
theorem evX_n {d : Nat} {c : Int32} {v : aVl} (hd : d ≤ 4) (h6 : (-6 : Int32) < c) (h5 : ¬ c = -5) (hv : ∀ p q r s, (if c < 0 then fct c p q r s else c) = v p q r s) : evX 4 d [c] v := by
  intro p q r s k hk
  show xS1 p q r s c k = _
  unfold xS1
  rw [if_pos h6, if_neg h5, if_neg (by omega), hv]
theorem N_ne_m1' {a : Nat} (h : a < 10000) : ¬ (N a = (-5 : Int32)) := neN (by omega) (by decide)
theorem nat_m6 {n : Nat} (h : n < 10000) : (-6 : Int32) < N n ∧ ¬ N n = (-5 : Int32) ∧ ¬ N n < 0 := by
  refine ⟨?_, N_ne_m1' h, nN_lt0 (by omega)⟩
  rw [ilt, tiN (by omega), show Int32.toInt (-6) = -6 from by decide]
  omega
theorem aEx_ev {T : aTp} : ∀ k, (∀ lev d q, lev ≤ 4 → d ≤ 5 → (aEx T k 0 lev d q).1 = 0 → evX lev d (aEx T k 0 lev d q).2.2.1 (aEx T k 0 lev d q).2.2.2.2 ∧ evM lev d (aEx T k 0 lev d q).2.2.2.1 (aEx T k 0 lev d q).2.2.2.2) ∧ (∀ d q, d ≤ 5 → (aEx T k 1 0 d q).1 = 0 → evX 4 d (aEx T k 1 0 d q).2.2.1 (aEx T k 1 0 d q).2.2.2.2 ∧ MPt d (aEx T k 1 0 d q).2.2.2.1 (aEx T k 1 0 d q).2.2.2.2 ∧ 0 < (aEx T k 1 0 d q).2.2.2.1.length) := by
  intro k
  induction k with
  | zero => exact ⟨fun lev d q _ _ h => absurd h (by show ¬ (1 : Nat) = 0; omega), fun d q _ h => absurd h (by show ¬ (1 : Nat) = 0; omega)⟩
  | succ k ih =>
    obtain ⟨ihl, ihp⟩ := ih
    refine ⟨fun lev d q hl hd h0 => ?_, fun d q hd h0 => ?_⟩
    · rw [aEx] at h0 ⊢
      dsimp only at h0 ⊢
      rw [if_pos rfl] at h0 ⊢
      by_cases c3 : lev ≤ 3
      · rw [if_pos c3] at h0 ⊢
        by_cases c : (aEx T k 0 (lev + 1) d q).1 = 0
        · rw [if_neg (fun h => h c)] at h0 ⊢
          obtain ⟨a1, a2⟩ := ihl (lev + 1) d q (by omega) hd c
          refine aEl_ev c3 (fun q h => ihl (lev + 1) d q (by omega) hd h) 1001 _ (evX_dn a1) ?_ h0
          by_cases e : lev = 1
          · rw [if_pos e]; subst e; exact a2
          · rw [if_neg e]; exact evM_dn c3 a2
        · rw [if_pos c] at h0; exact absurd h0 c
      · rw [if_neg c3] at h0 ⊢
        obtain ⟨a1, a2, a3⟩ := ihp d q hd h0
        have e : lev = 4 := by omega
        subst e
        exact ⟨a1, zM4_of a3 a2⟩
    · rw [aEx] at h0 ⊢
      dsimp only at h0 ⊢
      rw [if_neg (by omega)] at h0 ⊢
      unfold aPt at h0 ⊢
      by_cases hn : noPt T q
      · rw [if_pos hn] at h0; exact absurd h0 (by show ¬ 1 + 16 * q = 0; omega)
      rw [if_neg hn] at h0 ⊢
      by_cases h5 : 5 ≤ d
      · rw [if_pos h5] at h0; exact absurd h0 (by show ¬ 5 + 16 * q = 0; omega)
      rw [if_neg h5] at h0 ⊢
      by_cases h38 : tkW (tokAt T q) 38 = true
      · rw [if_pos h38] at h0 ⊢
        unfold aNo at h0 ⊢
        by_cases c : (aEx T k 1 0 (d + 1) (nx T q)).1 = 0
        · rw [if_neg (fun h => h c)] at h0 ⊢
          obtain ⟨a1, a2, a3⟩ := ihp (d + 1) (nx T q) (by omega) c
          refine ⟨fun p r s t kk hk => ?_, mNot a3 a2 (by omega), by dsimp only; rw [List.length_cons]; omega⟩
          dsimp only
          rw [xRn_app, a1 p r s t kk (by omega)]
          generalize (aEx T k 1 0 (d + 1) (nx T q)).2.2.2.2 p r s t = y
          rw [xRn, xRn]
          unfold xS1
          rw [if_pos (by decide), if_pos rfl]
        · rw [if_pos c] at h0; exact absurd h0 c
      rw [if_neg h38] at h0 ⊢
      by_cases h40 : isS T q 40 = true
      · rw [if_pos h40] at h0 ⊢
        unfold aPa at h0 ⊢
        by_cases c : (aEx T k 0 0 (d + 1) (nx T q)).1 = 0
        · rw [if_neg (fun h => h c)] at h0 ⊢
          obtain ⟨a1, a2⟩ := ihl 0 (d + 1) (nx T q) (by omega) (by omega) c
          by_cases h41 : isS T (aEx T k 0 0 (d + 1) (nx T q)).2.1 41 = false
          · rw [if_pos h41] at h0; exact absurd h0 (by show ¬ 1 + 16 * _ = 0; omega)
          · rw [if_neg h41]
            exact ⟨fun p r s t k hk => a1 p r s t k (by omega), mParen a2 (by omega), by dsimp only; rw [List.length_cons]; omega⟩
        · rw [if_pos c] at h0; exact absurd h0 c
      rw [if_neg h40] at h0 ⊢
      unfold aLf at h0 ⊢
      by_cases hf : tkFa (tokAt T q) = 0
      · rw [if_pos hf] at h0 ⊢
        have h3 : (tokAt T q).1 = 3 := by
          by_cases e : (tokAt T q).1 = 3
          · exact e
          · exact absurd ⟨hf, by cases hh : tkW (tokAt T q) 38 with | false => rfl | true => exact absurd hh h38, by cases hh : isS T q 40 with | false => rfl | true => exact absurd hh h40, e⟩ hn
        have hb := tkN_4 h3
        obtain ⟨n1, n2, n3⟩ := nat_m6 hb
        exact ⟨evX_n (by omega) n1 n2 (fun p r s t => by rw [if_neg n3]), mLeafN hb, by dsimp only; rw [List.length_cons]; omega⟩
      · rw [if_neg hf] at h0 ⊢
        have h4 := (tkFa_k hf).2
        revert hf h4
        generalize tkFa (tokAt T q) = j
        intro hf h4
        refine ⟨?_, mLeafF (by omega) h4 (fun S => ?_), by dsimp only; rw [List.length_cons]; omega⟩
        · rcases (show j = 1 ∨ j = 2 ∨ j = 3 ∨ j = 4 by omega) with rfl | rfl | rfl | rfl
          · exact evX_n (by omega) (by decide) (by decide) (fun p r s t => rfl)
          · exact evX_n (by omega) (by decide) (by decide) (fun p r s t => rfl)
          · exact evX_n (by omega) (by decide) (by decide) (fun p r s t => rfl)
          · exact evX_n (by omega) (by decide) (by decide) (fun p r s t => rfl)
        · rcases (show j = 1 ∨ j = 2 ∨ j = 3 ∨ j = 4 by omega) with rfl | rfl | rfl | rfl
          · rfl
          · rfl
          · rfl
          · rfl
