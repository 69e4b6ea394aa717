/-! THE WALL AND THE FRONT, abstractly; a minute -/
abbrev aW : Type := Nat × Int32 × (Nat → Int32) × (Nat → Int32) × Int32 × Int32 × Nat × (Nat → Int32)
def wMi (A : aW) : Nat := A.1
def wSt (A : aW) : Int32 := A.2.1
def wWa (A : aW) : Nat → Int32 := A.2.2.1
def wFl (A : aW) : Nat → Int32 := A.2.2.2.1
def wSo (A : aW) : Int32 := A.2.2.2.2.1
def wLa (A : aW) : Int32 := A.2.2.2.2.2.1
def wSz (A : aW) : Nat := A.2.2.2.2.2.2.1
def wSl (A : aW) : Nat → Int32 := A.2.2.2.2.2.2.2
/-- a wall of x -/
def rX (S : gS) (w : Nat) (A : aW) : Prop := sI S w 0 = N (wMi A) ∧ sI S w 1 = wSt A ∧ (∀ i, i < 7 → sR S (w + 1) i = wWa A i) ∧ (∀ i, i < 7 → sR S (w + 2) i = wFl A i) ∧ sI S w 4 = wSo A ∧ sI S w 5 = wLa A ∧ sI S w 9 = N (wSz A) ∧ (∀ i, i < wSz A → sR S (w + 3) i = wSl A i)
/-- a wall of the model, in a row from o on -/
def rM (S : gS) (b o : Nat) (A : aW) : Prop := sR S b o = N (wMi A) ∧ sR S b (o + 1) = wSt A ∧ (∀ i, i < 7 → sR S b (o + 5 + i) = wWa A i) ∧ (∀ i, i < 7 → sR S b (o + 12 + i) = wFl A i) ∧ sR S b (o + 2) = wSo A ∧ sR S b (o + 3) = wLa A ∧ sR S b (o + 4) = N (wSz A) ∧ (∀ i, i < wSz A → sR S b (o + 19 + i) = wSl A i)
abbrev aF : Type := Nat × (Nat → Int32) × (Nat → Int32) × (Nat → Int32) × (Nat → Int32) × (Nat → Int32) × (Nat → Nat) × Nat × (Nat → Int32) × Nat × (Nat → Int32) × (Int32 → Int32 → Int32 → Int32 → Int32)
def fN (F : aF) : Nat := F.1
def fK (F : aF) : Nat → Int32 := F.2.1
def fH (F : aF) : Nat → Int32 := F.2.2.1
def fT (F : aF) : Nat → Int32 := F.2.2.2.1
def fO (F : aF) : Nat → Int32 := F.2.2.2.2.1
def fG (F : aF) : Nat → Int32 := F.2.2.2.2.2.1
def fR (F : aF) : Nat → Nat := F.2.2.2.2.2.2.1
def fL (F : aF) : Nat := F.2.2.2.2.2.2.2.1
def fM (F : aF) : Nat → Int32 := F.2.2.2.2.2.2.2.2.1
def fC (F : aF) : Nat := F.2.2.2.2.2.2.2.2.2.1
def fP (F : aF) : Nat → Int32 := F.2.2.2.2.2.2.2.2.2.2.1
def fE (F : aF) : Int32 → Int32 → Int32 → Int32 → Int32 := F.2.2.2.2.2.2.2.2.2.2.2
def lawX (S : gS) (f : Nat) (e : Int32 → Int32 → Int32 → Int32 → Int32) : Prop := ∀ S', sI S' (f + 11) 1 = sI S (f + 11) 1 → sR S' (f + 12) = sR S (f + 12) → ∀ fl st ta we, wp (FX3_valueFor S' (f + 11) fl st ta we) (fun r => fr [f + 13] S' r.1 ∧ r.2 = e fl st ta we)
def fX (S : gS) (f : Nat) (F : aF) : Prop := (f = 6 ∨ f = 20) ∧ sI S f 0 = N (fN F) ∧ (∀ i, i < fN F → sR S (f + 2) i = fK F i ∧ sR S (f + 3) i = fH F i ∧ sR S (f + 4) i = fT F i ∧ sR S (f + 5) i = fO F i ∧ sR S (f + 6) i = fG F i ∧ sR S (f + 7) i = N (fR F i)) ∧ sI S f 8 = N (fL F) ∧ (∀ i, i < fL F → sR S (f + 9) i = fM F i) ∧ sI S f 11 = N (fC F) ∧ (∀ i, i < fC F → sR S (f + 10) i = fP F i) ∧ lawX S f (fE F)
def okF (F : aF) : Prop := fN F ≤ 7 ∧ fL F ≤ 6 ∧ fC F ≤ 12 ∧ (∀ i, i < fN F → fR F i < fN F) ∧ (∀ i, i < fN F → fG F i = -1 ∨ ∃ g, g < fN F ∧ fG F i = N g ∧ fH F g < fH F i) ∧ (∀ i j, i < j → j < fN F → fH F (fR F j) ≤ fH F (fR F i) ∧ fR F i ≠ fR F j) ∧ (∀ i, i < fN F → 0 ≤ fT F i ∧ fT F i ≤ 9 ∧ 0 ≤ fO F i ∧ fO F i ≤ 40) ∧ (∀ i, i < fC F → 0 ≤ fP F i ∧ fP F i ≤ 9) ∧ (0 < fL F → 0 < fN F) ∧ (∀ i, i < fL F → fM F i ≠ 0) ∧ (∀ i, i < fN F → 0 ≤ fH F i ∧ fH F i ≤ 20)
def up (f : Nat → Int32) (k : Nat) (x : Int32) : Nat → Int32 := fun i => if i = k then x else f i
def aBit (m : Nat) : Int32 := (1 : Int32) <<< (N m &&& 31)
def aHas (a : Int32) (m : Nat) : Bool := decide (¬ ((a >>> (N m &&& 31)) &&& (1 : Int32)) = 0)
def aMost (F : aF) (m : Nat) : Int32 := if fK F m = 1 then 6 else if fK F m = 2 then 1 else 3
def aRise (F : aF) (r : Int32) (w : Nat → Int32) (k : Nat) : Nat → Int32 := fun i => if i < k then w i + r * fT F i else w i
/-- water, flow, who ran over, what was spilled -/
abbrev aV : Type := (Nat → Int32) × (Nat → Int32) × Int32 × Int32
def aOver (F : aF) (m : Nat) (v : aV) : aV :=
  if 0 < v.1 m - fO F m then
    (if fG F m = -1 then (up v.1 m (v.1 m - (v.1 m - fO F m)), v.2.1, v.2.2.1 ||| aBit m, v.2.2.2 + (v.1 m - fO F m))
     else (up (up v.1 m (v.1 m - (v.1 m - fO F m))) (fG F m).toNatClampNeg ((up v.1 m (v.1 m - (v.1 m - fO F m))) (fG F m).toNatClampNeg + (v.1 m - fO F m)), v.2.1, v.2.2.1 ||| aBit m, v.2.2.2))
  else v
def aOut (F : aF) (st : Int32) (m : Nat) (w : Nat → Int32) : Int32 := if aHas st m = true then 0 else if aMost F m < w m then aMost F m else w m
def aSpout (F : aF) (st : Int32) (m : Nat) (v : aV) : aV := (up v.1 m (v.1 m - aOut F st m v.1), up v.2.1 m (aOut F st m v.1), v.2.2)
def aStep (F : aF) (st : Int32) (m : Nat) (v : aV) : aV := aSpout F st m (aOver F m v)
def aSteps (F : aF) (st : Int32) (v : aV) : Nat → aV
  | 0 => v
  | k + 1 => aStep F st (fR F k) (aSteps F st v k)
def aSnd (F : aF) (we : Int32) (wat flo : Nat → Int32) : Nat → Int32
  | 0 => 0
  | k + 1 => if fE F (flo k) (wat k) (fH F k) we = 0 then aSnd F we wat flo k else aSnd F we wat flo k ||| aBit k
/-- the first of m from i on -/
def aLet (M : Nat → Int32) (x : Int32) : Nat → Nat → Int32
  | 0, _ => -1
  | m + 1, i => if M i = x then N i else aLet M x m (i + 1)
def aRead (F : aF) (so : Int32) : Int32 := if aLet (fM F) so (fL F) 0 = -1 then (if so = 0 then -1 else 6) else aLet (fM F) so (fL F) 0
def aRain (F : aF) (mi : Nat) : Int32 := if fC F = 0 then 0 else fP F (mi % fC F)
/-- how it is behind all turns -/
def aEnd (F : aF) (r : Int32) (A : aW) : aV := aSteps F (wSt A) (aRise F r (wWa A) (fN F), wFl A, 0, 0) (fN F)
def aSo (F : aF) (r : Int32) (A : aW) : Int32 := aSnd F r (aEnd F r A).1 (aEnd F r A).2.1 (fN F)
def aLast (F : aF) (r : Int32) (A : aW) : Int32 := aRead F (aSo F r A)
def aPass (F : aF) (r : Int32) (A : aW) : aW := (wMi A + 1, wSt A, (aEnd F r A).1, (aEnd F r A).2.1, aSo F r A, aLast F r A,
  (if aLast F r A = -1 ∨ 40 ≤ wSz A then wSz A else wSz A + 1), (if aLast F r A = -1 ∨ 40 ≤ wSz A then wSl A else up (wSl A) (wSz A) (aLast F r A)))
theorem aOver_a {F : aF} {m : Nat} {v : aV} (hc : 0 < v.1 m - fO F m) (hg : fG F m = -1) : aOver F m v = (up v.1 m (v.1 m - (v.1 m - fO F m)), v.2.1, v.2.2.1 ||| aBit m, v.2.2.2 + (v.1 m - fO F m)) := by
  unfold aOver; rw [if_pos hc, if_pos hg]
theorem aOver_b {F : aF} {m g : Nat} {v : aV} (hc : 0 < v.1 m - fO F m) (hg0 : g < 2147483648) (hg : fG F m = N g) : aOver F m v = (up (up v.1 m (v.1 m - (v.1 m - fO F m))) g (up v.1 m (v.1 m - (v.1 m - fO F m)) g + (v.1 m - fO F m)), v.2.1, v.2.2.1 ||| aBit m, v.2.2.2) := by
  unfold aOver; rw [if_pos hc, if_neg (by rw [hg]; exact N_ne_m1 hg0), hg, clN hg0]
theorem aOver_c {F : aF} {m : Nat} {v : aV} (hc : ¬ 0 < v.1 m - fO F m) : aOver F m v = v := by
  unfold aOver; rw [if_neg hc]
theorem aPz {F : aF} {r : Int32} {A : aW} (h : aLast F r A = -1 ∨ 40 ≤ wSz A) : wSz (aPass F r A) = wSz A ∧ wSl (aPass F r A) = wSl A := by
  constructor
  · change (if aLast F r A = -1 ∨ 40 ≤ wSz A then wSz A else wSz A + 1) = _
    rw [if_pos h]
  · change (if aLast F r A = -1 ∨ 40 ≤ wSz A then wSl A else _) = _
    rw [if_pos h]
theorem aPn {F : aF} {r : Int32} {A : aW} (h : ¬ (aLast F r A = -1 ∨ 40 ≤ wSz A)) : wSz (aPass F r A) = wSz A + 1 ∧ wSl (aPass F r A) = up (wSl A) (wSz A) (aLast F r A) := by
  constructor
  · change (if aLast F r A = -1 ∨ 40 ≤ wSz A then wSz A else wSz A + 1) = _
    rw [if_neg h]
  · change (if aLast F r A = -1 ∨ 40 ≤ wSz A then wSl A else _) = _
    rw [if_neg h]
