/-! a front in the making -/
abbrev aB : Type := aF × (Nat → List Nat) × (Nat → List Nat) × List Int32 × List Int32
def bdF (B : aB) : aF := B.1
def bdM (B : aB) : Nat → List Nat := B.2.1
def bdL (B : aB) : Nat → List Nat := B.2.2.1
def bdX (B : aB) : List Int32 := B.2.2.2.1
def bdC (B : aB) : List Int32 := B.2.2.2.2
def dbX (S : gS) (f : Nat) (B : aB) : Prop := sI S f 0 = N (fN (bdF B)) ∧ (∀ i, i < fN (bdF B) → sR S (f + 2) i = fK (bdF B) i ∧ sR S (f + 3) i = fH (bdF B) i ∧ sR S (f + 4) i = fT (bdF B) i ∧ sR S (f + 5) i = fO (bdF B) i ∧ sR S (f + 6) i = fG (bdF B) i ∧ sR S (f + 7) i = N (fR (bdF B) i)) ∧ sI S f 8 = N (fL (bdF B)) ∧ (∀ i, i < fL (bdF B) → sR S (f + 9) i = fM (bdF B) i) ∧ sI S f 11 = N (fC (bdF B)) ∧ (∀ i, i < fC (bdF B) → sR S (f + 10) i = fP (bdF B) i) ∧ sI S (f + 11) 1 = N (bdX B).length ∧ sgm (sR S (f + 12)) 0 (bdX B) ∧ (∀ i, i < fN (bdF B) → sL S (f + 1) i = LN (e32 (bdM B i))) ∧ (∀ i, i < fL (bdF B) → sL S (f + 8) i = LN (e32 (bdL B i)))
def dbM (S : gS) (B : aB) : Prop := sR S 182 3 = N (fN (bdF B)) ∧ sR S 182 4 = N (fL (bdF B)) ∧ sR S 182 5 = N (fC (bdF B)) ∧ (∀ i, i < fN (bdF B) → sR S 185 (7 + i) = fK (bdF B) i ∧ sR S 186 (7 + i) = fH (bdF B) i ∧ sR S 187 (7 + i) = fT (bdF B) i ∧ sR S 188 (7 + i) = fO (bdF B) i ∧ sR S 189 (7 + i) = fG (bdF B) i) ∧ (∀ i, i < fL (bdF B) → sR S 190 (6 + i) = fM (bdF B) i) ∧ (∀ i, i < fC (bdF B) → sR S 191 (12 + i) = fP (bdF B) i) ∧ (sR S 192 1 = N 1000 ∧ sR S 193 1 = N (1000 + (bdC B).length) ∧ sI S 180 23 = N (1000 + (bdC B).length) ∧ sgm (sR S 194) 1000 (bdC B)) ∧ (∀ i, i < fN (bdF B) → sL S 183 (7 + i) = LN (e27 (bdM B i))) ∧ (∀ i, i < fL (bdF B) → sL S 184 (6 + i) = LN (e27 (bdL B i)))
def okB (B : aB) : Prop := okF (bdF B) ∧ okNs (bdF B) (bdM B) (bdL B) ∧ ((bdX B).length = 0 ∧ (bdC B).length = 0 ∧ fE (bdF B) = (fun fl _ _ _ => fl) ∨ ¬ (bdX B).length = 0 ∧ ¬ (bdC B).length = 0 ∧ (bdX B).length ≤ 1000 ∧ (bdC B).length ≤ 1000 ∧ xOk (bdX B) (fE (bdF B)) ∧ zM0 0 (bdC B) (fE (bdF B))) ∧ (∀ a b, a < b → b < fN (bdF B) → oBf (fH (bdF B)) (fR (bdF B) a) (fR (bdF B) b)) ∧ (∀ j, j < fN (bdF B) → fR (bdF B) j < fN (bdF B))
abbrev aLi : Type := Nat × Nat × aB
def upl (f : Nat → List Nat) (k : Nat) (x : List Nat) : Nat → List Nat := fun i => if i = k then x else f i
/-- a mouth more -/
def moB (B : aB) (nm : List Nat) (kd h t o : Nat) : aB := ((fN (bdF B) + 1, up (fK (bdF B)) (fN (bdF B)) (N kd), up (fH (bdF B)) (fN (bdF B)) (N h), up (fT (bdF B)) (fN (bdF B)) (N t), up (fO (bdF B)) (fN (bdF B)) (N o), up (fG (bdF B)) (fN (bdF B)) (-1), insO (up (fH (bdF B)) (fN (bdF B)) (N h)) (fN (bdF B)) (fN (bdF B)) (fR (bdF B)), fL (bdF B), fM (bdF B), fC (bdF B), fP (bdF B), fE (bdF B)), upl (bdM B) (fN (bdF B)) nm, bdL B, bdX B, bdC B)
def lnM (T : aTp) (B : aB) (q : Nat) : aLi :=
  if fN (bdF B) = 7 then (5 + 16 * q, 0, B)
  else if ¬ aNw T (bdM B) (bdL B) (fN (bdF B)) (fL (bdF B)) (nx T q) = 0 then (aNw T (bdM B) (bdL B) (fN (bdF B)) (fL (bdF B)) (nx T q), 0, B)
  else if tkKd (tokAt T (nx T (nx T q))) = 4 then (1 + 16 * nx T (nx T q), 0, B)
  else if ¬ (aMs T 26 1 20 (nx T (nx T (nx T q)))).1 = 0 then ((aMs T 26 1 20 (nx T (nx T (nx T q)))).1, 0, B)
  else if ¬ (aMs T 27 0 9 (aMs T 26 1 20 (nx T (nx T (nx T q)))).2.1).1 = 0 then ((aMs T 27 0 9 (aMs T 26 1 20 (nx T (nx T (nx T q)))).2.1).1, 0, B)
  else if ¬ (aMs T 28 0 40 (aMs T 27 0 9 (aMs T 26 1 20 (nx T (nx T (nx T q)))).2.1).2.1).1 = 0 then ((aMs T 28 0 40 (aMs T 27 0 9 (aMs T 26 1 20 (nx T (nx T (nx T q)))).2.1).2.1).1, 0, B)
  else (0, (aMs T 28 0 40 (aMs T 27 0 9 (aMs T 26 1 20 (nx T (nx T (nx T q)))).2.1).2.1).2.1, moB B (tokAt T (nx T q)).2.2.2.1 (tkKd (tokAt T (nx T (nx T q)))) (aMs T 26 1 20 (nx T (nx T (nx T q)))).2.2 (aMs T 27 0 9 (aMs T 26 1 20 (nx T (nx T (nx T q)))).2.1).2.2 (aMs T 28 0 40 (aMs T 27 0 9 (aMs T 26 1 20 (nx T (nx T (nx T q)))).2.1).2.1).2.2)
/-- a mouth at hand: fault, which -/
def aMe (T : aTp) (mn : Nat → List Nat) (L q : Nat) : Nat × Nat :=
  if tkNm (tokAt T q) = false then (1 + 16 * q, 0) else if nIx mn (tokAt T q).2.2.2.1 L < L then (0, nIx mn (tokAt T q).2.2.2.1 L) else (2 + 16 * q, 0)
def guB (B : aB) (a b : Nat) : aB := ((fN (bdF B), fK (bdF B), fH (bdF B), fT (bdF B), fO (bdF B), up (fG (bdF B)) a (N b), fR (bdF B), fL (bdF B), fM (bdF B), fC (bdF B), fP (bdF B), fE (bdF B)), bdM B, bdL B, bdX B, bdC B)
def lnG (T : aTp) (B : aB) (q : Nat) : aLi :=
  if ¬ (aMe T (bdM B) (fN (bdF B)) (nx T q)).1 = 0 then ((aMe T (bdM B) (fN (bdF B)) (nx T q)).1, 0, B)
  else if ¬ fG (bdF B) (aMe T (bdM B) (fN (bdF B)) (nx T q)).2 = -1 then (3 + 16 * nx T q, 0, B)
  else if ¬ (aMe T (bdM B) (fN (bdF B)) (nx T (nx T q))).1 = 0 then ((aMe T (bdM B) (fN (bdF B)) (nx T (nx T q))).1, 0, B)
  else if ¬ fH (bdF B) (aMe T (bdM B) (fN (bdF B)) (nx T (nx T q))).2 < fH (bdF B) (aMe T (bdM B) (fN (bdF B)) (nx T q)).2 then (3 + 16 * nx T (nx T q), 0, B)
  else (0, nx T (nx T (nx T q)), guB B (aMe T (bdM B) (fN (bdF B)) (nx T q)).2 (aMe T (bdM B) (fN (bdF B)) (nx T (nx T q))).2)
/-- the mouths of a letter: fault, where, the set -/
def aSt (T : aTp) (mn : Nat → List Nat) (L : Nat) : Nat → Int32 → Nat → Nat × Nat × Int32
  | 0, s, q => (0, q, s)
  | m + 1, s, q => if ¬ s = 0 ∧ isS T q 59 = true then (0, q, s)
    else if ¬ (aMe T mn L q).1 = 0 then ((aMe T mn L q).1, 0, 0)
    else if aHas s (aMe T mn L q).2 = true then (3 + 16 * q, 0, 0)
    else aSt T mn L m (s ||| aBit (aMe T mn L q).2) (nx T q)
def leB (B : aB) (nm : List Nat) (s : Int32) : aB := ((fN (bdF B), fK (bdF B), fH (bdF B), fT (bdF B), fO (bdF B), fG (bdF B), fR (bdF B), fL (bdF B) + 1, up (fM (bdF B)) (fL (bdF B)) s, fC (bdF B), fP (bdF B), fE (bdF B)), bdM B, upl (bdL B) (fL (bdF B)) nm, bdX B, bdC B)
def lnL (T : aTp) (B : aB) (q : Nat) : aLi :=
  if fL (bdF B) = 6 then (5 + 16 * q, 0, B)
  else if ¬ aNw T (bdM B) (bdL B) (fN (bdF B)) (fL (bdF B)) (nx T q) = 0 then (aNw T (bdM B) (bdL B) (fN (bdF B)) (fL (bdF B)) (nx T q), 0, B)
  else if tkW (tokAt T (nx T (nx T q))) 31 = false then (1 + 16 * nx T (nx T q), 0, B)
  else if ¬ (aSt T (bdM B) (fN (bdF B)) 9 0 (nx T (nx T (nx T q)))).1 = 0 then ((aSt T (bdM B) (fN (bdF B)) 9 0 (nx T (nx T (nx T q)))).1, 0, B)
  else if ¬ aLet (fM (bdF B)) (aSt T (bdM B) (fN (bdF B)) 9 0 (nx T (nx T (nx T q)))).2.2 (fL (bdF B)) 0 = -1 then (3 + 16 * (aSt T (bdM B) (fN (bdF B)) 9 0 (nx T (nx T (nx T q)))).2.1, 0, B)
  else (0, (aSt T (bdM B) (fN (bdF B)) 9 0 (nx T (nx T (nx T q)))).2.1, leB B (tokAt T (nx T q)).2.2.2.1 (aSt T (bdM B) (fN (bdF B)) 9 0 (nx T (nx T (nx T q)))).2.2)
/-- the numbers of rain: fault, where, how many, which -/
def aRn (T : aTp) : Nat → Nat → (Nat → Int32) → Nat → Nat × Nat × Nat × (Nat → Int32)
  | 0, n, P, q => (0, q, n, P)
  | m + 1, n, P, q => if n = 12 then (if (tokAt T q).1 = 3 then (if 9 < (tokAt T q).2.2.2.2 then (4 + 16 * q, 0, n, P) else (5 + 16 * q, 0, n, P)) else (0, q, n, P))
    else if ¬ n = 0 ∧ isS T q 59 = true then (0, q, n, P)
    else if ¬ (tokAt T q).1 = 3 then (1 + 16 * q, 0, n, P)
    else if 9 < (tokAt T q).2.2.2.2 then (4 + 16 * q, 0, n, P)
    else aRn T m (n + 1) (up P n (N (tokAt T q).2.2.2.2)) (nx T q)
def raB (B : aB) (n : Nat) (P : Nat → Int32) : aB := ((fN (bdF B), fK (bdF B), fH (bdF B), fT (bdF B), fO (bdF B), fG (bdF B), fR (bdF B), fL (bdF B), fM (bdF B), n, P, fE (bdF B)), bdM B, bdL B, bdX B, bdC B)
def lnR (T : aTp) (B : aB) (q : Nat) : aLi :=
  if ¬ fC (bdF B) = 0 then (3 + 16 * q, 0, B)
  else if ¬ (aRn T 13 0 (fP (bdF B)) (nx T q)).1 = 0 then ((aRn T 13 0 (fP (bdF B)) (nx T q)).1, 0, B)
  else (0, (aRn T 13 0 (fP (bdF B)) (nx T q)).2.1, raB B (aRn T 13 0 (fP (bdF B)) (nx T q)).2.2.1 (aRn T 13 0 (fP (bdF B)) (nx T q)).2.2.2)
def soB (B : aB) (R : aRe) : aB := ((fN (bdF B), fK (bdF B), fH (bdF B), fT (bdF B), fO (bdF B), fG (bdF B), fR (bdF B), fL (bdF B), fM (bdF B), fC (bdF B), fP (bdF B), R.2.2.2.2), bdM B, bdL B, R.2.2.1, R.2.2.2.1)
noncomputable def lnS (T : aTp) (B : aB) (q : Nat) : aLi :=
  if ¬ (bdX B).length = 0 then (3 + 16 * q, 0, B)
  else if ¬ (aSd T (nx T q)).1 = 0 then ((aSd T (nx T q)).1, 0, B)
  else (0, (aSd T (nx T q)).2.1, soB B (aSd T (nx T q)))
/-- a line of a front -/
noncomputable def lnF (T : aTp) (B : aB) (q : Nat) : aLi :=
  if tkW (tokAt T q) 1 = true then lnM T B q
  else if tkW (tokAt T q) 29 = true then lnG T B q
  else if tkW (tokAt T q) 30 = true then lnL T B q
  else if tkW (tokAt T q) 32 = true then lnR T B q
  else if tkW (tokAt T q) 33 = true then lnS T B q
  else (1 + 16 * q, 0, B)
noncomputable def lnAll (T : aTp) : Nat → aB → Nat → Nat × aB
  | 0, B, _ => (0, B)
  | m + 1, B, q => if (tokAt T q).1 = 0 then (0, B)
    else if ¬ (lnF T B q).1 = 0 then ((lnF T B q).1, B)
    else if isSe T (lnF T B q).2.1 = false then (1 + 16 * (lnF T B q).2.1, B)
    else lnAll T m (lnF T B q).2.2 (nx T (lnF T B q).2.1)
def aB0 : aB := ((0, (fun _ => 0), (fun _ => 0), (fun _ => 0), (fun _ => 0), (fun _ => 0), (fun _ => 0), 0, (fun _ => 0), 0, (fun _ => 0), (fun fl _ _ _ => fl)), (fun _ => []), (fun _ => []), [], [])
/-- what a line keeps to -/
def okL (T : aTp) (q : Nat) (l : aLi) : Prop := l.1 ≤ 17000 ∧ (l.1 = 0 → q < l.2.1 ∧ l.2.1 ≤ T.1 ∧ okB l.2.2)
theorem okL_f {T : aTp} {q c z : Nat} {B : aB} (h : c ≤ 17000) (hc : ¬ c = 0) : okL T q (c, z, B) := ⟨h, fun e => absurd e hc⟩
theorem aMe_ok {T : aTp} {mn : Nat → List Nat} {L q : Nat} (hT : okT T) (hq : q ≤ T.1) : (aMe T mn L q).1 ≤ 17000 ∧ ((aMe T mn L q).1 = 0 → (aMe T mn L q).2 < L ∧ (tokAt T q).1 = 2) := by
  have h1000 := hT.1
  unfold aMe
  cases hm : tkNm (tokAt T q) with
  | false => rw [if_pos rfl]; exact ⟨by dsimp only; omega, fun h => by dsimp only at h; omega⟩
  | true =>
    rw [if_neg (show ¬ true = false by decide)]
    split
    · rename_i c; exact ⟨by dsimp only; omega, fun _ => ⟨c, tkNm2 hm⟩⟩
    · exact ⟨by dsimp only; omega, fun h => by dsimp only at h; omega⟩
theorem aNw_ok {T : aTp} {mn ln : Nat → List Nat} {L M q : Nat} (hT : okT T) (hq : q ≤ T.1) : aNw T mn ln L M q ≤ 17000 ∧ (aNw T mn ln L M q = 0 → (tokAt T q).1 = 2) := by
  have h1000 := hT.1
  unfold aNw
  cases hm : tkNm (tokAt T q) with
  | false => rw [if_pos rfl]; exact ⟨by omega, fun h => by omega⟩
  | true =>
    rw [if_neg (show ¬ true = false by decide)]
    split
    · exact ⟨by omega, fun h => by omega⟩
    · exact ⟨by omega, fun _ => tkNm2 hm⟩
theorem aMs_lt {T : aTp} {t : UInt32} {lo hi q : Nat} (hq : q ≤ T.1) (h : (aMs T t lo hi q).1 = 0) : q < (aMs T t lo hi q).2.1 := by
  have s1 := skB_le (tokAt_e hq).2.2.1
  revert h
  unfold aMs
  cases hw : tkW (tokAt T q) t with
  | false => rw [if_pos rfl]; intro h; dsimp only at h; omega
  | true =>
    have n1 := nx_lt hq (by have := tkW_k hw; omega)
    rw [if_neg (show ¬ true = false by decide)]
    split
    · intro h; dsimp only at h; omega
    · rename_i h3
      have n2 := nx_lt s1 (by have := Decidable.not_not.mp h3; omega)
      split
      · intro h; dsimp only at h; omega
      · intro _
        have e : nx T q = skB T (tokAt T q).2.2.1 := rfl
        show q < nx T (skB T (tokAt T q).2.2.1)
        omega
