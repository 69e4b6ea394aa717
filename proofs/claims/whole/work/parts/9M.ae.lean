/-! an E, as it is read: fault, where the next token is, x's codes, the model's, what it works -/
abbrev aRe : Type := Nat × Nat × List Int32 × List Int32 × aVl
def nx (T : aTp) (q : Nat) : Nat := skB T (tokAt T q).2.2.1
theorem nx_le {T : aTp} {q : Nat} (hq : q ≤ T.1) : nx T q ≤ T.1 := skB_le (tokAt_e hq).2.2.1
theorem skB_ge {T : aTp} {p : Nat} (hp : p ≤ T.1) : p ≤ skB T p := (rnE_sp (P := isBl) (T := T) T.1 p (by omega)).1
theorem nx_lt {T : aTp} {q : Nat} (hq : q ≤ T.1) (h : ¬ (tokAt T q).1 = 0) : q < nx T q := by
  have e := tokAt_e hq
  have h1 := e.2.2.2.2.1 (tokAt_lt hq h)
  have h2 := skB_ge e.2.2.1
  unfold nx; omega
def isS (T : aTp) (q c : Nat) : Bool := decide ((tokAt T q).1 = 4 ∧ T.2 q = c)
theorem isS_k {T : aTp} {q c : Nat} (h : isS T q c = true) : (tokAt T q).1 = 4 ∧ T.2 q = c := of_decide_eq_true h
theorem tkW_k {k : aTk} {t : UInt32} (h : tkW k t = true) : k.1 = 2 := by unfold tkW at h; exact (of_decide_eq_true h).1
def tkFa (k : aTk) : Nat := if tkW k 34 = true then 1 else if tkW k 35 = true then 2 else if tkW k 36 = true then 3 else if tkW k 37 = true then 4 else 0
theorem tkFa_k {k : aTk} (h : ¬ tkFa k = 0) : k.1 = 2 ∧ tkFa k ≤ 4 := by
  unfold tkFa at h ⊢
  split
  · rename_i e; exact ⟨tkW_k e, by omega⟩
  · split
    · rename_i e; exact ⟨tkW_k e, by omega⟩
    · split
      · rename_i e; exact ⟨tkW_k e, by omega⟩
      · split
        · rename_i e; exact ⟨tkW_k e, by omega⟩
        · rename_i e1 e2 e3 e4
          rw [if_neg e1, if_neg e2, if_neg e3, if_neg e4] at h
          exact absurd rfl h
def jnK (T : aTp) (lev q : Nat) : Nat :=
  if lev = 0 then (if tkW (tokAt T q) 39 = true then 1 else if tkW (tokAt T q) 40 = true then 2 else 0)
  else if lev = 1 then (if isS T q 60 = true then 1 else if isS T q 61 = true then 2 else 0)
  else if lev = 2 then (if isS T q 43 = true then 1 else if isS T q 45 = true then 2 else 0)
  else (if isS T q 42 = true then 1 else 0)
theorem jnK_k {T : aTp} {lev q : Nat} (h : ¬ jnK T lev q = 0) : ¬ (tokAt T q).1 = 0 := by
  intro h0
  have a : ∀ t, ¬ tkW (tokAt T q) t = true := fun t e => by have := tkW_k e; omega
  have b : ∀ c, ¬ isS T q c = true := fun c e => by have := (isS_k e).1; omega
  apply h
  unfold jnK
  rw [if_neg (a 39), if_neg (a 40), if_neg (b 60), if_neg (b 61), if_neg (b 43), if_neg (b 45), if_neg (b 42)]
  simp only [ite_self]
theorem jnK_2 {T : aTp} {lev q : Nat} : jnK T lev q ≤ 2 := by
  unfold jnK
  repeat' split
  all_goals omega
def jnX (lev j : Nat) : Int32 := if lev = 0 then (if j = 1 then -6 else -7) else if lev = 1 then (if j = 1 then -8 else -9) else if lev = 2 then (if j = 1 then -10 else -11) else -12
def jnM (lev j : Nat) : Int32 := if lev = 0 then (if j = 1 then 26 else 27) else if lev = 1 then (if j = 1 then 24 else 25) else if lev = 2 then (if j = 1 then 20 else 21) else 22
theorem jnX_lt {lev j : Nat} : ¬ (-6 : Int32) < jnX lev j := by
  unfold jnX
  repeat' split
  all_goals decide
def fE0 (c : Nat) : aRe := (c, 0, [], [], fun _ _ _ _ => 0)
def aJo (T : aTp) (lev : Nat) (r b : aRe) : aRe := (0, b.2.1, r.2.2.1 ++ (b.2.2.1 ++ [jnX lev (jnK T lev r.2.1)]), r.2.2.2.1 ++ (jnM lev (jnK T lev r.2.1) :: b.2.2.2.1), fun p q s t => jn (jnX lev (jnK T lev r.2.1)) (r.2.2.2.2 p q s t) (b.2.2.2.2 p q s t))
def aEl (T : aTp) (rec : Nat → aRe) (lev : Nat) : Nat → aRe → aRe
  | 0, r => r
  | m + 1, r => if jnK T lev r.2.1 = 0 then r
    else if ¬ (rec (nx T r.2.1)).1 = 0 then fE0 (rec (nx T r.2.1)).1
    else if lev = 1 then aJo T lev r (rec (nx T r.2.1))
    else aEl T rec lev m (aJo T lev r (rec (nx T r.2.1)))
def faV (j : Nat) : aVl := fun fl st ta we => if j = 1 then fl else if j = 2 then st else if j = 3 then ta else we
def faX (j : Nat) : Int32 := if j = 1 then -1 else if j = 2 then -2 else if j = 3 then -3 else -4
def aLf (T : aTp) (q : Nat) : aRe :=
  if tkFa (tokAt T q) = 0 then (0, nx T q, [N (tokAt T q).2.2.2.2], [N (100 + (tokAt T q).2.2.2.2)], fun _ _ _ _ => N (tokAt T q).2.2.2.2)
  else (0, nx T q, [faX (tkFa (tokAt T q))], [N (tkFa (tokAt T q))], faV (tkFa (tokAt T q)))
def noPt (T : aTp) (q : Nat) : Prop := tkFa (tokAt T q) = 0 ∧ tkW (tokAt T q) 38 = false ∧ isS T q 40 = false ∧ ¬ (tokAt T q).1 = 3
def aNo (r : aRe) : aRe := if ¬ r.1 = 0 then fE0 r.1 else (0, r.2.1, r.2.2.1 ++ [-5], 30 :: r.2.2.2.1, fun p q s t => if r.2.2.2.2 p q s t = 0 then 1 else 0)
def aPa (T : aTp) (r : aRe) : aRe := if ¬ r.1 = 0 then fE0 r.1 else if isS T r.2.1 41 = false then fE0 (1 + 16 * r.2.1) else (0, nx T r.2.1, r.2.2.1, 28 :: (r.2.2.2.1 ++ [29]), r.2.2.2.2)
noncomputable def aPt (T : aTp) (rl rp : Nat → aRe) (d q : Nat) : aRe :=
  @ite _ (noPt T q) (Classical.propDecidable _) (fE0 (1 + 16 * q))
  (if 5 ≤ d then fE0 (5 + 16 * q)
  else if tkW (tokAt T q) 38 = true then aNo (rp (nx T q))
  else if isS T q 40 = true then aPa T (rl (nx T q))
  else aLf T q)
noncomputable def aEx (T : aTp) : Nat → Nat → Nat → Nat → Nat → aRe
  | 0 => fun _ _ _ _ => fE0 1
  | k + 1 => fun c lev d q => if c = 0 then (if lev ≤ 3 then (if ¬ (aEx T k 0 (lev + 1) d q).1 = 0 then fE0 (aEx T k 0 (lev + 1) d q).1 else aEl T (fun q => aEx T k 0 (lev + 1) d q) lev 1001 (aEx T k 0 (lev + 1) d q)) else aEx T k 1 0 d q) else aPt T (fun q => aEx T k 0 0 (d + 1) q) (fun q => aEx T k 1 0 (d + 1) q) d q
theorem tkN_4 {T : aTp} {q : Nat} (h : (tokAt T q).1 = 3) : (tokAt T q).2.2.2.2 < 10000 := by
  revert h
  unfold tokAt
  split
  · intro h; exact absurd h (by dsimp only; omega)
  · split
    · intro h; dsimp only at h; split at h <;> omega
    · split
      · intro h
        dsimp only at h ⊢
        obtain ⟨a, b, c, d⟩ := rnE_sp (P := isDg) (T := T) T.1 q (by omega)
        have h4 : rnD T q - q ≤ 4 := by split at h <;> omega
        have := nms_b (T := T) (q := q) (rnD T q - q) (fun i hi => (c (q + i) (by omega) (by unfold rnD at hi; omega)).2)
        have h5 : (10 : Nat) ^ (rnD T q - q) ≤ 10 ^ 4 := Nat.pow_le_pow_right (by omega) h4
        omega
      · intro h; dsimp only at h; split at h <;> omega
/-- what it keeps to -/
def okR (T : aTp) (q lev : Nat) (R : aRe) : Prop := R.1 ≤ 17000 ∧ (R.1 = 0 → q < R.2.1 ∧ R.2.1 ≤ T.1 ∧ 0 < R.2.2.1.length ∧ R.2.2.1.length + q ≤ R.2.1 ∧ 0 < R.2.2.2.1.length ∧ R.2.2.2.1.length + q ≤ R.2.1 ∧ ∀ l, lev ≤ l → l ≤ 3 → l ≠ 1 → jnK T l R.2.1 = 0)
theorem okR_f {T : aTp} {q lev c : Nat} (h : c ≤ 17000) (hc : ¬ c = 0) : okR T q lev (fE0 c) := ⟨h, fun e => absurd e hc⟩
theorem aEl_ok {T : aTp} {rec : Nat → aRe} {lev q : Nat} (hT : okT T) (hrec : ∀ q, q ≤ T.1 → okR T q (lev + 1) (rec q)) : ∀ m r, r.1 = 0 → okR T q (lev + 1) r → T.1 < r.2.1 + m → okR T q lev (aEl T rec lev m r) := by
  intro m
  induction m with
  | zero => intro r h0 hr hm; have := (hr.2 h0).2.1; omega
  | succ m ih =>
    intro r h0 hr hm
    obtain ⟨r1, r2, r3, r4, r5, r6, r7⟩ := hr.2 h0
    rw [aEl]
    split
    · rename_i e
      refine ⟨hr.1, fun _ => ⟨r1, r2, r3, r4, r5, r6, fun l h1 h2 h3 => ?_⟩⟩
      by_cases el : l = lev
      · rw [el]; exact e
      · exact r7 l (by omega) h2 h3
    · rename_i e
      have hn := nx_lt r2 (jnK_k e)
      obtain ⟨b0, b1⟩ := hrec (nx T r.2.1) (nx_le r2)
      split
      · rename_i c; exact okR_f b0 c
      · rename_i c
        obtain ⟨c1, c2, c3, c4, c5, c6, c7⟩ := b1 (Decidable.not_not.mp c)
        have hj : okR T q (lev + 1) (aJo T lev r (rec (nx T r.2.1))) := by
          unfold aJo
          refine ⟨by dsimp only; omega, fun _ => ⟨?_, c2, ?_, ?_, ?_, ?_, c7⟩⟩
          · dsimp only; omega
          · dsimp only; rw [List.length_append, List.length_append]; omega
          · dsimp only; rw [List.length_append, List.length_append, List.length_cons, List.length_nil]; omega
          · dsimp only; rw [List.length_append, List.length_cons]; omega
          · dsimp only; rw [List.length_append, List.length_cons]; omega
        split
        · rename_i e1
          subst e1
          refine ⟨hj.1, fun z => ?_⟩
          obtain ⟨d1, d2, d3, d4, d5, d6, d7⟩ := hj.2 z
          exact ⟨d1, d2, d3, d4, d5, d6, fun l h1 h2 h3 => d7 l (by omega) h2 h3⟩
        · refine ih _ rfl hj ?_
          show T.1 < (rec (nx T r.2.1)).2.1 + m
          omega
theorem aLf_ok {T : aTp} {q lev : Nat} (hT : okT T) (hq : q ≤ T.1) (hl : 4 ≤ lev) (h : ¬ noPt T q) (h38 : ¬ tkW (tokAt T q) 38 = true) (h40 : ¬ isS T q 40 = true) : okR T q lev (aLf T q) := by
  have hk : ¬ (tokAt T q).1 = 0 := by
    intro h0
    apply h
    refine ⟨?_, ?_, ?_, by omega⟩
    · by_cases e : tkFa (tokAt T q) = 0
      · exact e
      · have := (tkFa_k e).1; omega
    · cases hh : tkW (tokAt T q) 38 with
      | false => rfl
      | true => exact absurd hh h38
    · cases hh : isS T q 40 with
      | false => rfl
      | true => exact absurd hh h40
  have hn := nx_lt hq hk
  have hn2 := nx_le hq
  unfold aLf
  split
  · exact ⟨by dsimp only; omega, fun _ => ⟨hn, hn2, by simp, by simp; omega, by simp, by simp; omega, fun l h1 h2 => by omega⟩⟩
  · exact ⟨by dsimp only; omega, fun _ => ⟨hn, hn2, by simp, by simp; omega, by simp, by simp; omega, fun l h1 h2 => by omega⟩⟩
theorem aEx_ok {T : aTp} (hT : okT T) : ∀ k, (∀ lev d q, q ≤ T.1 → okR T q lev (aEx T k 0 lev d q)) ∧ (∀ lev d q, q ≤ T.1 → 4 ≤ lev → okR T q lev (aEx T k 1 0 d q)) := by
  have h1000 := hT.1
  intro k
  induction k with
  | zero => exact ⟨fun lev d q hq => okR_f (by omega) (by omega), fun lev d q hq _ => okR_f (by omega) (by omega)⟩
  | succ k ih =>
    obtain ⟨ihl, ihp⟩ := ih
    refine ⟨fun lev d q hq => ?_, fun lev d q hq hlev => ?_⟩
    · rw [aEx]
      dsimp only
      rw [if_pos rfl]
      split
      · have h1 := ihl (lev + 1) d q hq
        split
        · rename_i c; exact okR_f h1.1 c
        · rename_i c
          exact aEl_ok hT (fun q hq => ihl (lev + 1) d q hq) 1001 _ (Decidable.not_not.mp c) h1 (by omega)
      · exact ihp lev d q hq (by omega)
    · rw [aEx]
      dsimp only
      rw [if_neg (by omega)]
      unfold aPt
      split
      · exact okR_f (by omega) (by omega)
      · rename_i hno
        split
        · exact okR_f (by omega) (by omega)
        · split
          · rename_i e38
            have hn := nx_lt hq (by have := tkW_k e38; omega)
            have hn2 := nx_le hq
            have h1 := ihp 4 (d + 1) (nx T q) hn2 (by omega)
            unfold aNo
            split
            · rename_i c; exact okR_f h1.1 c
            · rename_i c
              obtain ⟨c1, c2, c3, c4, c5, c6, c7⟩ := h1.2 (Decidable.not_not.mp c)
              refine ⟨by dsimp only; omega, fun _ => ⟨by dsimp only; omega, c2, ?_, ?_, ?_, ?_, fun l h1 h2 => by omega⟩⟩
              · dsimp only; rw [List.length_append]; omega
              · dsimp only; rw [List.length_append, List.length_cons, List.length_nil]; omega
              · dsimp only; rw [List.length_cons]; omega
              · dsimp only; rw [List.length_cons]; omega
          · rename_i e38
            split
            · rename_i e40
              have hn := nx_lt hq (by have := (isS_k e40).1; omega)
              have hn2 := nx_le hq
              have h1 := ihl 0 (d + 1) (nx T q) hn2
              unfold aPa
              split
              · rename_i c; exact okR_f h1.1 c
              · rename_i c
                obtain ⟨c1, c2, c3, c4, c5, c6, c7⟩ := h1.2 (Decidable.not_not.mp c)
                split
                · exact okR_f (c := 1 + 16 * (aEx T k 0 0 (d + 1) (nx T q)).2.1) (by omega) (by omega)
                · rename_i e41
                  have e41 : isS T (aEx T k 0 0 (d + 1) (nx T q)).2.1 41 = true := by
                    cases hh : isS T (aEx T k 0 0 (d + 1) (nx T q)).2.1 41 with
                    | true => rfl
                    | false => exact absurd hh e41
                  have m1 := nx_lt c2 (by have := (isS_k e41).1; omega)
                  have m2 := nx_le c2
                  refine ⟨by dsimp only; omega, fun _ => ⟨by dsimp only; omega, m2, c3, by dsimp only; omega, ?_, ?_, fun l h1 h2 => by omega⟩⟩
                  · dsimp only; rw [List.length_cons]; omega
                  · dsimp only; rw [List.length_cons, List.length_append, List.length_cons, List.length_nil]; omega
            · rename_i e40
              exact aLf_ok hT hq hlev hno e38 e40
