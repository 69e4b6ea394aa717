/-! a stretch of a row; x's codes at work -/
def sgm (r : Nat → Int32) : Nat → List Int32 → Prop
  | _, [] => True
  | i, c :: cs => r i = c ∧ sgm r (i + 1) cs
theorem sgm_app {r : Nat → Int32} : ∀ (a b : List Int32) (i : Nat), sgm r i (a ++ b) ↔ sgm r i a ∧ sgm r (i + a.length) b
  | [], b, i => ⟨fun h => ⟨trivial, h⟩, fun h => h.2⟩
  | c :: a, b, i => by
    have ih := sgm_app (r := r) a b (i + 1)
    rw [List.cons_append, sgm, sgm, ih, List.length_cons, show i + 1 + a.length = i + (a.length + 1) by omega, and_assoc]
theorem sgm_eq {r r' : Nat → Int32} : ∀ (a : List Int32) (i : Nat), sgm r i a → (∀ j, i ≤ j → j < i + a.length → r' j = r j) → sgm r' i a
  | [], _, _, _ => trivial
  | c :: a, i, h, e => ⟨(e i (Nat.le_refl _) (by rw [List.length_cons]; omega)).trans h.1, sgm_eq a (i + 1) h.2 (fun j h1 h2 => e j (by omega) (by rw [List.length_cons]; omega))⟩
/-- what the joins work -/
def jn (c a b : Int32) : Int32 := if c = (-11) then a - b else if c = (-10) then a + b else if c = (-9) then (if a = b then 1 else 0) else if c = (-8) then (if b ≤ a then 0 else 1) else if c = (-7) then (if a = 0 then (if b = 0 then 0 else 1) else 1) else if c = (-6) then (if a = 0 then 0 else if b = 0 then 0 else 1) else a * b
theorem xJoin {S : gS} {c a b : Int32} : FX3_join S c a b = some (S, jn c a b) := by
  unfold FX3_join jn
  repeat' split
  all_goals rfl
abbrev aVl : Type := Int32 → Int32 → Int32 → Int32 → Int32
def fct (c fl st ta we : Int32) : Int32 := if c = (-3) then ta else if c = (-2) then st else if c = (-1) then fl else we
theorem xFact {S : gS} {c fl st ta we : Int32} : FX3_fact S c fl st ta we = some (S, fct c fl st ta we) := by
  unfold FX3_fact fct
  repeat' split
  all_goals rfl
/-- one code; the top of the stack first -/
def xS1 (fl st ta we c : Int32) (k : List Int32) : List Int32 :=
  if (-6 : Int32) < c then (if c = (-5 : Int32) then (match k with | a :: s => (if a = 0 then 1 else 0) :: s | [] => []) else if 24 ≤ k.length then k else (if c < 0 then fct c fl st ta we else c) :: k)
  else (match k with | b :: a :: s => jn c a b :: s | s => s)
def xRn (fl st ta we : Int32) : List Int32 → List Int32 → List Int32
  | [], k => k
  | c :: cs, k => xRn fl st ta we cs (xS1 fl st ta we c k)
theorem xRn_app {fl st ta we : Int32} : ∀ (a b k : List Int32), xRn fl st ta we (a ++ b) k = xRn fl st ta we b (xRn fl st ta we a k)
  | [], _, _ => rfl
  | c :: a, b, k => xRn_app a b (xS1 fl st ta we c k)
/-- the stack in its row -/
def stR (r : Nat → Int32) : List Int32 → Prop
  | [] => True
  | a :: s => r s.length = a ∧ stR r s
theorem stR_eq {r r' : Nat → Int32} : ∀ (k : List Int32), stR r k → (∀ j, j < k.length → r' j = r j) → stR r' k
  | [], _, _ => trivial
  | a :: s, h, e => ⟨(e s.length (by rw [List.length_cons]; omega)).trans h.1, stR_eq s h.2 (fun j hj => e j (by rw [List.length_cons]; omega))⟩
theorem xS1_len {fl st ta we c : Int32} {k : List Int32} (h : k.length ≤ 24) : (xS1 fl st ta we c k).length ≤ 24 := by
  unfold xS1
  split
  · split
    · cases k with
      | nil => exact h
      | cons a s => exact h
    · split
      · exact h
      · rw [List.length_cons]; omega
  · match k with
    | [] => exact h
    | [a] => exact h
    | b :: a :: s => rw [List.length_cons] at *; rw [List.length_cons] at h; omega
theorem xVl {a : Nat} {fl st ta we : Int32} {S0 : gS} (ha : a < 100) : ∀ (cs : List Int32) i k S s, cs.length + 1 ≤ k → i + cs.length ≤ 1000 → s.length ≤ 24 → fr [a + 2] S0 S → sI S0 a 1 = N (i + cs.length) → sgm (sR S0 (a + 1)) i cs → stR (sR S (a + 2)) s → wp (fX3_valueFor k 15 S a fl st ta we (N s.length) (N i)) (fun r => fr [a + 2] S0 r.1 ∧ stR (sR r.1 (a + 2)) (xRn fl st ta we cs s) ∧ r.2 = sR r.1 (a + 2) 0) := by
  have nn : ∀ b, b ≠ a + 2 → b ∉ [a + 2] := by intro b hb; simp only [List.mem_cons, List.not_mem_nil, or_false]; omega
  intro cs
  induction cs with
  | nil =>
    intro i k S s hk hi hs hS h1 hg hr
    obtain ⟨k, rfl, -⟩ := kS (m := 0) (k := k) (by rw [List.length_nil] at hk; omega)
    rw [fX3_valueFor]
    simp only [if_true, bX3_valueFor_15]
    rw [frI hS (nn a (by omega)), h1, if_pos ((leN (by rw [List.length_nil]; omega) (by omega)).mpr (by rw [List.length_nil]; omega)), wp_some]
    exact ⟨hS, hr, rfl⟩
  | cons c cs ih =>
    intro i k S s hk hi hs hS h1 hg hr
    rw [List.length_cons] at hk hi h1
    obtain ⟨k, rfl, hk'⟩ := kS (k := k) (m := cs.length + 1) (by omega)
    obtain ⟨g1, g2⟩ := hg
    have hc : sR S (a + 1) i = c := by rw [frR hS (nn (a + 1) (by omega))]; exact g1
    have go : ∀ (S2 : gS) (s2 : List Int32), s2 = xS1 fl st ta we c s → fr [a + 2] S0 S2 → stR (sR S2 (a + 2)) s2 → wp (fX3_valueFor k 15 S2 a fl st ta we (N s2.length) (N (i + 1))) (fun r => fr [a + 2] S0 r.1 ∧ stR (sR r.1 (a + 2)) (xRn fl st ta we (c :: cs) s) ∧ r.2 = sR r.1 (a + 2) 0) := by
      intro S2 s2 e f2 r2
      have hl := xS1_len (fl := fl) (st := st) (ta := ta) (we := we) (c := c) hs
      rw [← e] at hl
      refine wp_mono (ih (i + 1) k S2 s2 hk' (by omega) hl f2 (by rw [h1]; congr 1; omega) g2 r2) ?_
      rintro r ⟨q1, q2, q3⟩
      refine ⟨q1, ?_, q3⟩
      rw [xRn, ← e]; exact q2
    have up : ∀ (m : Nat) (x : Int32) (s2 : List Int32), s2.length = m → stR (sR S (a + 2)) s2 → stR (sR (uR S (a + 2) m x) (a + 2)) (x :: s2) := by
      intro m x s2 hm h2
      refine ⟨by rw [hm]; exact R_self, stR_eq s2 h2 (fun j hj => ?_)⟩
      rw [R_uR, if_neg (by omega)]
    rw [fX3_valueFor]
    simp only [if_true, bX3_valueFor_15]
    rw [frI hS (nn a (by omega)), h1, if_neg (fun e => absurd ((leN (by omega) (by omega)).mp e) (by omega)), if_pos (vpN (by omega) (by omega)), clN (by omega), hc]
    by_cases c6 : (-6 : Int32) < c
    · rw [if_pos c6]
      by_cases c5 : c = (-5 : Int32)
      · rw [if_pos c5]
        match s, hs, hr, go, up with
        | [], hs, hr, go, up =>
          rw [if_pos (show N ([] : List Int32).length < (1 : Int32) from by decide), addN1]
          exact go S [] (by unfold xS1; rw [if_pos c6, if_pos c5]) hS hr
        | x :: s, hs, hr, go, up =>
          rw [List.length_cons] at hs
          have e1 : N (x :: s).length - (1 : Int32) = N s.length := by
            rw [List.length_cons]; exact subN (b := 1) (by omega)
          rw [if_neg (show ¬ N (x :: s).length < (1 : Int32) from fun e => absurd ((ltN (b := 1) (by rw [List.length_cons]; omega) (by omega)).mp e) (by rw [List.length_cons]; omega)), e1, if_pos (vpN (by omega) (by omega)), clN (by omega), hr.1, addN1]
          have eg : ∀ y : Int32, (x :: s).length = (y :: s).length := fun _ => rfl
          by_cases x0 : x = 0
          · rw [if_pos x0, wp_lt, eg 1]
            exact go _ (1 :: s) (by unfold xS1; rw [if_pos c6, if_pos c5]; simp only; rw [if_pos x0]) (fr_uR hS (by simp)) (up s.length 1 s rfl hr.2)
          · rw [if_neg x0, wp_lt, eg 0]
            exact go _ (0 :: s) (by unfold xS1; rw [if_pos c6, if_pos c5]; simp only; rw [if_neg x0]) (fr_uR hS (by simp)) (up s.length 0 s rfl hr.2)
      · rw [if_neg c5]
        by_cases c24 : 24 ≤ s.length
        · rw [if_pos (show (24 : Int32) ≤ N s.length from (leN (a := 24) (by omega) (by omega)).mpr c24), addN1]
          exact go S s (by unfold xS1; rw [if_pos c6, if_neg c5, if_pos c24]) hS hr
        · rw [if_neg (show ¬ (24 : Int32) ≤ N s.length from fun e => c24 ((leN (a := 24) (by omega) (by omega)).mp e)), addN1, addN1]
          have e2 : ∀ y : Int32, s.length + 1 = (y :: s).length := fun _ => rfl
          by_cases c0 : c < 0
          · rw [if_pos c0, xFact, wp_b2, wp_some, if_pos (vpN (by omega) (by omega)), clN (by omega), wp_lt]
            dsimp only
            rw [e2 (fct c fl st ta we)]
            exact go _ _ (by unfold xS1; rw [if_pos c6, if_neg c5, if_neg c24, if_pos c0]) (fr_uR hS (by simp)) (up s.length _ s rfl hr)
          · rw [if_neg c0, if_pos (vpN (by omega) (by omega)), clN (by omega), wp_lt, e2 c]
            exact go _ _ (by unfold xS1; rw [if_pos c6, if_neg c5, if_neg c24, if_neg c0]) (fr_uR hS (by simp)) (up s.length _ s rfl hr)
    · rw [if_neg c6]
      match s, hs, hr, go, up with
      | [], hs, hr, go, up =>
        rw [if_pos (show N ([] : List Int32).length < (2 : Int32) from by decide), addN1]
        exact go S [] (by unfold xS1; rw [if_neg c6]) hS hr
      | [x], hs, hr, go, up =>
        rw [if_pos (show N ([x] : List Int32).length < (2 : Int32) from (show N 1 < (2 : Int32) by decide)), addN1]
        exact go S [x] (by unfold xS1; rw [if_neg c6]) hS hr
      | y :: x :: s, hs, hr, go, up =>
        rw [List.length_cons, List.length_cons] at hs
        have e1 : N (y :: x :: s).length + (-1) = N (s.length + 1) := by
          rw [List.length_cons, List.length_cons, show (-1 : Int32) = -(1 : Int32) from rfl, ← Int32.sub_eq_add_neg]; exact subN (b := 1) (by omega)
        have e2 : N (s.length + 1) - (1 : Int32) = N s.length := subN (b := 1) (by omega)
        rw [if_neg (show ¬ N (y :: x :: s).length < (2 : Int32) from fun e => absurd ((ltN (b := 2) (by rw [List.length_cons, List.length_cons]; omega) (by omega)).mp e) (by rw [List.length_cons, List.length_cons]; omega)), e1, e2, if_pos (vpN (by omega) (by omega)), if_pos (vpN (by omega) (by omega)), clN (by omega), clN (by omega), addN1]
        obtain ⟨r1, r2, r3⟩ := hr
        rw [List.length_cons] at r1
        rw [r1, r2, xJoin, wp_b2, wp_some, wp_lt]
        dsimp only
        rw [show s.length + 1 = (jn c x y :: s).length from rfl]
        exact go _ _ (by unfold xS1; rw [if_neg c6]) (fr_uR hS (by simp)) (up s.length _ s rfl r3)
/-- the codes stand for the value v -/
def xOk (cs : List Int32) (v : aVl) : Prop := ∀ fl st ta we, xRn fl st ta we cs [] = [v fl st ta we]
theorem xLawN {S : gS} {f : Nat} (hf : f = 6 ∨ f = 20) (h1 : sI S (f + 11) 1 = N 0) : lawX S f (fun fl _ _ _ => fl) := by
  intro S' e1 e2 fl st ta we
  unfold FX3_valueFor
  rw [e1, h1, if_pos (show N 0 = (0 : Int32) from rfl), wp_some]
  exact ⟨fr_rf, rfl⟩
theorem xLawS {S : gS} {f : Nat} {cs : List Int32} {v : aVl} (hf : f = 6 ∨ f = 20) (h0 : cs.length ≠ 0) (h1000 : cs.length ≤ 1000) (h1 : sI S (f + 11) 1 = N cs.length) (hg : sgm (sR S (f + 12)) 0 cs) (hv : xOk cs v) : lawX S f v := by
  intro S' e1 e2 fl st ta we
  unfold FX3_valueFor
  rw [e1, h1, if_neg (fun e => h0 ((eq0N (by omega)).mp e))]
  refine wp_mono (xVl (S0 := S') (a := f + 11) (fl := fl) (st := st) (ta := ta) (we := we) (by omega) cs 0 FU S' [] (by unfold FU; omega) (by omega) (by rw [List.length_nil]; omega) fr_rf (by rw [e1, h1, Nat.zero_add]) (by rw [show f + 11 + 1 = f + 12 from rfl, e2]; exact hg) trivial) ?_
  rintro r ⟨q1, q2, q3⟩
  rw [hv fl st ta we] at q2
  refine ⟨q1, ?_⟩
  rw [q3]; exact q2.1
