/-! THE HEAP BY ITS NUMBERS: all cells stand at fixed places; what may change is: the ints and longs of objects, six references of x, the rows -/
/-- ints of objects, longs of objects, references of x, rows of ints, rows of longs -/
abbrev gS : Type := (Nat → Nat → Int32) × (Nat → Nat → Int64) × (Nat → Nat) × (Nat → Nat → Int32) × (Nat → Nat → Int64)
/-- an object of a class, or a row: kind and length -/
def g_shp : List (Nat ⊕ (Nat × Nat)) := [.inl 11, .inl 8, .inr (2, 1000), .inl 2, .inl 4, .inl 5, .inl 1, .inr (1, 7), .inr (0, 7), .inr (0, 7), .inr (0, 7), .inr (0, 7), .inr (0, 7), .inr (0, 7), .inr (1, 6), .inr (0, 6), .inr (0, 12), .inl 3, .inr (0, 1000), .inr (0, 24), .inl 1, .inr (1, 7), .inr (0, 7), .inr (0, 7), .inr (0, 7), .inr (0, 7), .inr (0, 7), .inr (0, 7), .inr (1, 6), .inr (0, 6), .inr (0, 12), .inl 3, .inr (0, 1000), .inr (0, 24), .inl 0, .inr (0, 40), .inr (0, 40), .inr (0, 40), .inl 0, .inr (0, 40), .inr (0, 40), .inr (0, 40), .inl 10, .inr (0, 7), .inl 10, .inr (0, 7), .inl 7, .inr (0, 8), .inr (3, 8), .inl 9, .inr (0, 7), .inr (0, 7), .inr (0, 40), .inl 9, .inr (0, 7), .inr (0, 7), .inr (0, 40), .inr (4, 16), .inl 9, .inr (0, 7), .inr (0, 7), .inr (0, 40), .inl 9, .inr (0, 7), .inr (0, 7), .inr (0, 40), .inl 9, .inr (0, 7), .inr (0, 7), .inr (0, 40), .inl 9, .inr (0, 7), .inr (0, 7), .inr (0, 40), .inl 9, .inr (0, 7), .inr (0, 7), .inr (0, 40), .inl 9, .inr (0, 7), .inr (0, 7), .inr (0, 40), .inl 9, .inr (0, 7), .inr (0, 7), .inr (0, 40), .inl 9, .inr (0, 7), .inr (0, 7), .inr (0, 40), .inl 9, .inr (0, 7), .inr (0, 7), .inr (0, 40), .inl 9, .inr (0, 7), .inr (0, 7), .inr (0, 40), .inl 9, .inr (0, 7), .inr (0, 7), .inr (0, 40), .inl 9, .inr (0, 7), .inr (0, 7), .inr (0, 40), .inl 9, .inr (0, 7), .inr (0, 7), .inr (0, 40), .inl 9, .inr (0, 7), .inr (0, 7), .inr (0, 40), .inl 9, .inr (0, 7), .inr (0, 7), .inr (0, 40), .inl 9, .inr (0, 7), .inr (0, 7), .inr (0, 40), .inr (5, 4), .inl 6, .inl 9, .inr (0, 7), .inr (0, 7), .inr (0, 40), .inl 0, .inr (0, 40), .inr (0, 40), .inr (0, 40), .inl 10, .inr (0, 7), .inl 7, .inr (0, 8), .inr (3, 8), .inl 6, .inl 9, .inr (0, 7), .inr (0, 7), .inr (0, 40), .inl 0, .inr (0, 40), .inr (0, 40), .inr (0, 40), .inl 10, .inr (0, 7), .inl 7, .inr (0, 8), .inr (3, 8), .inl 6, .inl 9, .inr (0, 7), .inr (0, 7), .inr (0, 40), .inl 0, .inr (0, 40), .inr (0, 40), .inr (0, 40), .inl 10, .inr (0, 7), .inl 7, .inr (0, 8), .inr (3, 8), .inl 6, .inl 9, .inr (0, 7), .inr (0, 7), .inr (0, 40), .inl 0, .inr (0, 40), .inr (0, 40), .inr (0, 40), .inl 10, .inr (0, 7), .inl 7, .inr (0, 8), .inr (3, 8), .inr (0, 7), .inl 12, .inr (0, 1000), .inr (0, 6), .inr (1, 14), .inr (1, 12), .inr (0, 14), .inr (0, 14), .inr (0, 14), .inr (0, 14), .inr (0, 14), .inr (0, 12), .inr (0, 24), .inr (0, 2), .inr (0, 2), .inr (0, 2000), .inr (0, 7), .inr (3, 7), .inr (0, 7), .inr (0, 7), .inr (0, 7), .inr (0, 7), .inr (0, 7), .inr (0, 7), .inr (0, 7), .inr (0, 7), .inr (0, 7), .inr (0, 20), .inr (0, 6), .inr (0, 240), .inr (0, 240), .inr (0, 240), .inr (0, 6), .inr (0, 42), .inr (0, 5), .inr (0, 40), .inr (3, 40), .inr (0, 59), .inr (0, 59), .inr (0, 59), .inr (0, 236), .inr (0, 944), .inr (3, 4), .inr (0, 7), .inr (0, 7), .inr (0, 10), .inr (1, 1)]
/-- the fields of a class: 0 an int, 1 a long, 2 a reference that changes, 3 a place behind the object, 4 a fixed place -/
def g_kt : List (List (Nat × Nat)) := [[(0, 0), (3, 1), (3, 2), (3, 3)],
  [(0, 0), (3, 1), (3, 2), (3, 3), (3, 4), (3, 5), (3, 6), (3, 7), (0, 0), (3, 8), (3, 9), (0, 0), (3, 10), (3, 11)],
  [(4, 1), (4, 4)],
  [(3, 1), (0, 0), (3, 2)],
  [(4, 1)],
  [(4, 1)],
  [(0, 0), (3, 1), (3, 5), (3, 9), (3, 11)],
  [(0, 0), (3, 1), (3, 2)],
  [(4, 2), (0, 0), (0, 0), (0, 0), (0, 0), (1, 0), (0, 0), (0, 0)],
  [(0, 0), (0, 0), (3, 1), (3, 2), (0, 0), (0, 0), (0, 0), (0, 0), (3, 3), (0, 0)],
  [(0, 0), (3, 1)],
  [(4, 1), (4, 3), (4, 5), (2, 0), (2, 0), (2, 0), (2, 0), (2, 0), (2, 0), (4, 46), (4, 49), (4, 53), (4, 57), (0, 0), (0, 0), (4, 122), (4, 179), (1, 0)],
  [(0, 0), (0, 0), (4, 181), (0, 0), (0, 0), (0, 0), (0, 0), (1, 0), (0, 0), (0, 0), (4, 182), (4, 183), (4, 184), (4, 185), (4, 186), (4, 187), (4, 188), (4, 189), (4, 190), (4, 191), (4, 192), (4, 193), (4, 194), (0, 0), (4, 195), (4, 196), (4, 197), (4, 198), (4, 199), (4, 200), (4, 201), (4, 202), (4, 203), (4, 204), (4, 205), (4, 206), (0, 0), (1, 0), (4, 207), (4, 208), (4, 209), (4, 210), (4, 211), (4, 212), (4, 213), (4, 214), (4, 215), (4, 216), (4, 217), (4, 218), (4, 219), (4, 220), (4, 221), (0, 0), (4, 222), (0, 0), (0, 0), (4, 223), (4, 224), (1, 0)]]
def g_rq (a : Nat) : Nat → Option Nat := fun j => if a = 57 then (if j < 16 then some (58 + 4 * j) else none) else if a = 122 then (if j < 4 then some (123 + 14 * j) else none) else none
def sI (S : gS) : Nat → Nat → Int32 := S.1
def sJ (S : gS) : Nat → Nat → Int64 := S.2.1
def sQ (S : gS) : Nat → Nat := S.2.2.1
def sR (S : gS) : Nat → Nat → Int32 := S.2.2.2.1
def sL (S : gS) : Nat → Nat → Int64 := S.2.2.2.2
def uI (S : gS) (a k : Nat) (x : Int32) : gS := (fun b j => if b = a ∧ j = k then x else S.1 b j, S.2)
def uJ (S : gS) (a k : Nat) (x : Int64) : gS := (S.1, (fun b j => if b = a ∧ j = k then x else S.2.1 b j), S.2.2)
def uQ (S : gS) (k : Nat) (x : Nat) : gS := (S.1, S.2.1, (fun j => if j = k then x else S.2.2.1 j), S.2.2.2)
def uR (S : gS) (a i : Nat) (x : Int32) : gS := (S.1, S.2.1, S.2.2.1, (fun b j => if b = a ∧ j = i then x else S.2.2.2.1 b j), S.2.2.2.2)
def uL (S : gS) (a i : Nat) (x : Int64) : gS := (S.1, S.2.1, S.2.2.1, S.2.2.2.1, fun b j => if b = a ∧ j = i then x else S.2.2.2.2 b j)
def uA (S : gS) (a : Nat) (f : Nat → Int32) : gS := (S.1, S.2.1, S.2.2.1, (fun b => if b = a then f else S.2.2.2.1 b), S.2.2.2.2)
def g_sv1 (S : gS) (a : Nat) (q : Nat × Nat) (k : Nat) : Value := if q.1 = 0 then .int (sI S a k) else if q.1 = 1 then .long (sJ S a k) else if q.1 = 2 then .ref (sQ S k) else if q.1 = 3 then .ref (a + q.2) else .ref q.2
def g_ob (S : gS) (a ci : Nat) : List Value := (g_kt.getD ci []).mapIdx (fun k q => g_sv1 S a q k)
def hH (S : gS) : gHp := fun a => match g_shp[a]? with
  | some (.inl ci) => .inr (ci, g_ob S a ci)
  | some (.inr (t, m)) => if t = 1 then .inl (1, m, .inr (.inl (sL S a))) else if t = 4 ∨ t = 5 then .inl (t, m, .inr (.inr (.inr (.inr (g_rq a))))) else .inl (t, m, .inl (sR S a))
  | none => .inr (0, [])
abbrev isO (ci a : Nat) : Prop := g_shp[a]? = some (.inl ci)
abbrev isA (t m a : Nat) : Prop := g_shp[a]? = some (.inr (t, m))
def isW (w : Nat) : Prop := isO 9 w ∧ isA 0 7 (w + 1) ∧ isA 0 7 (w + 2) ∧ isA 0 40 (w + 3)
def isLw (l : Nat) : Prop := isO 3 l ∧ isA 0 1000 (l + 1) ∧ isA 0 24 (l + 2)
def isF (f : Nat) : Prop := isO 1 f ∧ isA 1 7 (f + 1) ∧ isA 0 7 (f + 2) ∧ isA 0 7 (f + 3) ∧ isA 0 7 (f + 4) ∧ isA 0 7 (f + 5) ∧ isA 0 7 (f + 6) ∧ isA 0 7 (f + 7) ∧ isA 1 6 (f + 8) ∧ isA 0 6 (f + 9) ∧ isA 0 12 (f + 10) ∧ isLw (f + 11)
def isD (a : Nat) : Prop := isO 0 a ∧ isA 0 40 (a + 1) ∧ isA 0 40 (a + 2) ∧ isA 0 40 (a + 3)
def isWd (a : Nat) : Prop := isO 10 a ∧ isA 0 7 (a + 1)
def isSn (a : Nat) : Prop := isO 7 a ∧ isA 0 8 (a + 1) ∧ isA 3 8 (a + 2)
def isMk (a : Nat) : Prop := isO 6 a ∧ isW (a + 1) ∧ isD (a + 5) ∧ isWd (a + 9) ∧ isSn (a + 11)
theorem hH_o {S : gS} {a ci : Nat} (h : isO ci a) : hH S a = .inr (ci, g_ob S a ci) := by simp only [hH]; rw [h]
theorem hH_a {S : gS} {a t m : Nat} (h : isA t m a) (ht : t = 0 ∨ t = 2 ∨ t = 3) : hH S a = .inl (t, m, .inl (sR S a)) := by
  simp only [hH]; rw [h]
  rcases ht with rfl | rfl | rfl <;> rfl
theorem hH_l {S : gS} {a m : Nat} (h : isA 1 m a) : hH S a = .inl (1, m, .inr (.inl (sL S a))) := by simp only [hH]; rw [h]; rfl
theorem hH_q {S : gS} {a t m : Nat} (h : isA t m a) (ht : t = 4 ∨ t = 5) : hH S a = .inl (t, m, .inr (.inr (.inr (.inr (g_rq a))))) := by
  simp only [hH]; rw [h]
  rcases ht with rfl | rfl <;> rfl
theorem ob_get {S : gS} {a ci k : Nat} {q : Nat × Nat} (h : (g_kt.getD ci [])[k]? = some q) : (g_ob S a ci)[k]? = some (g_sv1 S a q k) := by
  simp only [g_ob, List.getElem?_mapIdx, h, Option.map_some]
theorem ob_len {S : gS} {a ci k : Nat} {q : Nat × Nat} (h : (g_kt.getD ci [])[k]? = some q) : k < (g_ob S a ci).length := by
  have := ob_get (S := S) (a := a) h
  exact (List.getElem?_eq_some_iff.mp this).1
theorem ob_set {S S' : gS} {a ci k : Nat} {v : Value} {q : Nat × Nat} (h : (g_kt.getD ci [])[k]? = some q) (h1 : g_sv1 S' a q k = v) (h2 : ∀ j q', j ≠ k → g_sv1 S' a q' j = g_sv1 S a q' j) : (g_ob S a ci).set k v = g_ob S' a ci := by
  apply List.ext_getElem?
  intro j
  by_cases hj : j = k
  · subst hj
    rw [List.getElem?_set_self (ob_len h), ob_get h, h1]
  · rw [List.getElem?_set_ne (Ne.symm hj)]
    simp only [g_ob, List.getElem?_mapIdx]
    cases hq : (g_kt.getD ci [])[j]? with
    | none => rfl
    | some q' => simp [h2 j q' hj]
theorem hH_put {S S' : gS} {a ci k : Nat} {v : Value} {q : Nat × Nat} (hs : isO ci a) (h : (g_kt.getD ci [])[k]? = some q) (h1 : g_sv1 S' a q k = v) (h2 : ∀ j q', j ≠ k → g_sv1 S' a q' j = g_sv1 S a q' j) (h3 : ∀ b, b ≠ a → hH S' b = hH S b) : va_up (hH S) a (.inr (ci, (g_ob S a ci).set k v)) = hH S' := by
  funext b
  by_cases hb : b = a
  · subst hb
    simp only [va_up, if_true]
    rw [ob_set h h1 h2, hH_o hs]
  · simp only [va_up, if_neg hb]
    exact (h3 b hb).symm
theorem hH_uI_ne {S : gS} {a k : Nat} {x : Int32} {b : Nat} (hb : b ≠ a) : hH (uI S a k x) b = hH S b := by
  have e : ∀ q j, g_sv1 (uI S a k x) b q j = g_sv1 S b q j := fun q j => by simp [g_sv1, uI, sI, sJ, sQ, hb]
  have e2 : ∀ ci, g_ob (uI S a k x) b ci = g_ob S b ci := fun ci => by simp only [g_ob, e]
  simp only [hH, e2]
  rfl
theorem hH_uJ_ne {S : gS} {a k : Nat} {x : Int64} {b : Nat} (hb : b ≠ a) : hH (uJ S a k x) b = hH S b := by
  have e : ∀ q j, g_sv1 (uJ S a k x) b q j = g_sv1 S b q j := fun q j => by simp [g_sv1, uJ, sI, sJ, sQ, hb]
  have e2 : ∀ ci, g_ob (uJ S a k x) b ci = g_ob S b ci := fun ci => by simp only [g_ob, e]
  simp only [hH, e2]
  rfl
theorem q_gi {S : gS} {a ci k off : Nat} {K : Int32 → Prop} (hs : isO ci a) (hk : (g_kt.getD ci [])[k]? = some (0, off)) (h : K (sI S a k)) : g_gi (hH S) a ci k K := ⟨_, _, hH_o hs, ob_get hk, h⟩
theorem q_gl {S : gS} {a ci k off : Nat} {K : Int64 → Prop} (hs : isO ci a) (hk : (g_kt.getD ci [])[k]? = some (1, off)) (h : K (sJ S a k)) : g_gl (hH S) a ci k K := ⟨_, _, hH_o hs, ob_get hk, h⟩
theorem q_gq {S : gS} {a ci k off : Nat} {K : Nat → Prop} (hs : isO ci a) (hk : (g_kt.getD ci [])[k]? = some (2, off)) (h : K (sQ S k)) : g_gr (hH S) a ci k K := ⟨_, _, hH_o hs, ob_get hk, h⟩
theorem q_gp {S : gS} {a ci k off : Nat} {K : Nat → Prop} (hs : isO ci a) (hk : (g_kt.getD ci [])[k]? = some (3, off)) (h : K (a + off)) : g_gr (hH S) a ci k K := ⟨_, _, hH_o hs, ob_get hk, h⟩
theorem q_gc {S : gS} {a ci k off : Nat} {K : Nat → Prop} (hs : isO ci a) (hk : (g_kt.getD ci [])[k]? = some (4, off)) (h : K off) : g_gr (hH S) a ci k K := ⟨_, _, hH_o hs, ob_get hk, h⟩
theorem q_pi {S : gS} {a ci k off : Nat} {x : Int32} {K : gHp → Prop} (hs : isO ci a) (hk : (g_kt.getD ci [])[k]? = some (0, off)) (h : K (hH (uI S a k x))) : g_pf (hH S) a ci k (.int x) K := by
  refine ⟨_, hH_o hs, ob_len hk, ?_⟩
  rw [hH_put (S' := uI S a k x) hs hk (by simp [g_sv1, uI, sI]) (fun j q' hj => by simp [g_sv1, uI, sI, sJ, sQ, hj]) (fun b hb => hH_uI_ne hb)]
  exact h
theorem q_pl {S : gS} {a ci k off : Nat} {x : Int64} {K : gHp → Prop} (hs : isO ci a) (hk : (g_kt.getD ci [])[k]? = some (1, off)) (h : K (hH (uJ S a k x))) : g_pf (hH S) a ci k (.long x) K := by
  refine ⟨_, hH_o hs, ob_len hk, ?_⟩
  rw [hH_put (S' := uJ S a k x) hs hk (by simp [g_sv1, uJ, sJ]) (fun j q' hj => by simp [g_sv1, uJ, sI, sJ, sQ, hj]) (fun b hb => hH_uJ_ne hb)]
  exact h
/-- the six references are x's alone -/
theorem g_kt_q : ∀ ci, ci < 13 → ci ≠ 11 → ∀ q ∈ g_kt.getD ci [], ¬ q.1 = 2 := by decide +kernel
theorem g_shp_11 : ∀ a, a < 226 → g_shp[a]? = some (.inl 11) → a = 0 := by decide +kernel
theorem hH_uQ_ne {S : gS} {k : Nat} {x : Nat} {b : Nat} (hb : b ≠ 0) : hH (uQ S k x) b = hH S b := by
  simp only [hH]
  cases hs : g_shp[b]? with
  | none => rfl
  | some z =>
    cases z with
    | inr z => rfl
    | inl ci =>
      have h11 : ci ≠ 11 := fun e => hb (g_shp_11 b ((List.getElem?_eq_some_iff.mp hs).1) (by rw [hs, e]))
      have e2 : g_ob (uQ S k x) b ci = g_ob S b ci := by
        apply List.ext_getElem?
        intro j
        simp only [g_ob, List.getElem?_mapIdx]
        cases hq : (g_kt.getD ci [])[j]? with
        | none => rfl
        | some q =>
          have hc : ci < 13 := by
            rcases Nat.lt_or_ge ci 13 with z | z
            · exact z
            · exfalso
              have : g_kt.getD ci [] = [] := by
                rw [List.getD_eq_getElem?_getD, List.getElem?_eq_none (by exact z)]; rfl
              rw [this] at hq; simp at hq
          have hn := g_kt_q ci hc h11 q (List.mem_of_getElem? hq)
          simp [g_sv1, uQ, sI, sJ, sQ, hn]
      simp only [e2]
theorem q_pq {S : gS} {k off : Nat} {x : Nat} {K : gHp → Prop} (hk : (g_kt.getD 11 [])[k]? = some (2, off)) (h : K (hH (uQ S k x))) : g_pf (hH S) 0 11 k (.ref x) K := by
  refine ⟨_, hH_o rfl, ob_len hk, ?_⟩
  rw [hH_put (S' := uQ S k x) rfl hk (by simp [g_sv1, uQ, sQ]) (fun j q' hj => by simp [g_sv1, uQ, sI, sJ, sQ, hj]) (fun b hb => hH_uQ_ne hb)]
  exact h
theorem q_al {S : gS} {a t m k : Nat} {i : Int32} {K : Int32 → Prop} (hs : isA t m a) (ht : t = 0 ∨ t = 2 ∨ t = 3) (hi : vp_in i m) (hk : i.toNatClampNeg = k) (h : K (sR S a k)) : g_al t (hH S) a i K := ⟨_, _, hH_a hs ht, hi, by rw [hk]; exact h⟩
theorem q_ll {S : gS} {a m k : Nat} {i : Int32} {K : Int64 → Prop} (hs : isA 1 m a) (hi : vp_in i m) (hk : i.toNatClampNeg = k) (h : K (sL S a k)) : g_ll (hH S) a i K := ⟨_, _, hH_l hs, hi, by rw [hk]; exact h⟩
theorem q_rl {S : gS} {a t m k : Nat} {i : Int32} {K : Nat → Prop} (hs : isA t m a) (ht : t = 4 ∨ t = 5) (hi : vp_in i m) (hk : g_rq a i.toNatClampNeg = some k) (h : K k) : g_rl t (hH S) a i K := ⟨_, _, _, hH_q hs ht, hi, hk, h⟩
theorem hH_row {S S' : gS} {a t m : Nat} {f : Nat → Int32} (hs : isA t m a) (ht : t = 0 ∨ t = 2 ∨ t = 3) (h1 : sR S' a = f) (h2 : ∀ b, b ≠ a → sR S' b = sR S b) (h3 : sI S' = sI S) (h4 : sJ S' = sJ S) (h5 : sQ S' = sQ S) (h6 : sL S' = sL S) : va_up (hH S) a (.inl (t, m, .inl f)) = hH S' := by
  funext b
  by_cases hb : b = a
  · subst hb
    simp only [va_up, if_true]
    rw [hH_a hs ht, h1]
  · simp only [va_up, if_neg hb]
    have e : ∀ ci, g_ob S' b ci = g_ob S b ci := fun ci => by simp only [g_ob, g_sv1, h3, h4, h5]
    simp only [hH, e, h2 b hb, h6]
theorem q_as {S : gS} {a t m k : Nat} {i x : Int32} {K : gHp → Prop} (hs : isA t m a) (ht : t = 0 ∨ t = 2 ∨ t = 3) (hi : vp_in i m) (hk : i.toNatClampNeg = k) (h : K (hH (uR S a k x))) : g_as t (hH S) a i x K := by
  subst hk
  refine ⟨_, _, hH_a hs ht, hi, ?_⟩
  rw [hH_row (S := S) (S' := uR S a i.toNatClampNeg x) (f := upd (sR S a) i.toNatClampNeg x) hs ht (by funext j; simp [uR, sR, upd]) (fun b hb => by funext j; simp [uR, sR, hb]) rfl rfl rfl rfl]
  exact h
theorem q_lst {S : gS} {a m k : Nat} {i : Int32} {x : Int64} {K : gHp → Prop} (hs : isA 1 m a) (hi : vp_in i m) (hk : i.toNatClampNeg = k) (h : K (hH (uL S a k x))) : g_lst (hH S) a i x K := by
  subst hk
  refine ⟨_, _, hH_l hs, hi, ?_⟩
  have e : va_up (hH S) a (.inl (1, m, .inr (.inl (vp_updL (sL S a) i.toNatClampNeg x)))) = hH (uL S a i.toNatClampNeg x) := by
    funext b
    by_cases hb : b = a
    · subst hb
      simp only [va_up, if_true]
      rw [hH_l hs]
      have : sL (uL S b i.toNatClampNeg x) b = vp_updL (sL S b) i.toNatClampNeg x := by funext j; simp [uL, sL, vp_updL]
      rw [this]
    · simp only [va_up, if_neg hb]
      have e : ∀ ci, g_ob (uL S a i.toNatClampNeg x) b ci = g_ob S b ci := fun ci => rfl
      have e2 : sL (uL S a i.toNatClampNeg x) b = sL S b := by funext j; simp [uL, sL, hb]
      simp only [hH, e, e2]
      rfl
  rw [e]; exact h
theorem q_cp {S : gS} {a0 a m0 m1 : Nat} {sp dp k : Int32} {K : gHp → Prop} (hs0 : isA 0 m0 a0) (hs : isA 0 m1 a) (h1 : ¬ sp < 0) (h2 : ¬ dp < 0) (h3 : ¬ k < 0) (h4 : sp.toNatClampNeg + k.toNatClampNeg ≤ m0) (h5 : dp.toNatClampNeg + k.toNatClampNeg ≤ m1) (h : K (hH (uA S a (va_cpy (sR S a0) (sR S a) sp.toNatClampNeg dp.toNatClampNeg k.toNatClampNeg)))) : g_cp (hH S) a0 sp a dp k K := by
  refine ⟨_, _, _, _, hH_a hs0 (Or.inl rfl), hH_a hs (Or.inl rfl), h1, h2, h3, h4, h5, ?_⟩
  rw [hH_row (S := S) (S' := uA S a (va_cpy (sR S a0) (sR S a) sp.toNatClampNeg dp.toNatClampNeg k.toNatClampNeg)) (f := va_cpy (sR S a0) (sR S a) sp.toNatClampNeg dp.toNatClampNeg k.toNatClampNeg) hs (Or.inl rfl) (by simp [uA, sR]) (fun b hb => by simp [uA, sR, hb]) rfl rfl rfl rfl]
  exact h
theorem q_rc {S : gS} {a ci : Nat} (hs : isO ci a) : ∃ fs, hH S a = .inr (ci, fs) := ⟨_, hH_o hs⟩
/-! contracts over the numbers -/
abbrev hPi (P : gS → Int32 → Prop) : gHp → Int32 → Prop := fun H x => ∃ S', H = hH S' ∧ P S' x
abbrev hPz (P : gS → Bool → Prop) : gHp → Bool → Prop := fun H x => ∃ S', H = hH S' ∧ P S' x
abbrev hPv (P : gS → Prop) : gHp → Prop := fun H => ∃ S', H = hH S' ∧ P S'
def sCi (d : Nat) (M : gMD) (n : Nat) (S : gS) (av : List Value) (P : gS → Int32 → Prop) : Prop := gCi d M n (hH S) av n 0 0 (hPi P)
def sCz (d : Nat) (M : gMD) (n : Nat) (S : gS) (av : List Value) (P : gS → Bool → Prop) : Prop := gCz d M n (hH S) av n 0 0 (hPz P)
def sCv (d : Nat) (M : gMD) (n : Nat) (S : gS) (av : List Value) (P : gS → Prop) : Prop := gCv d M n (hH S) av n 0 0 (hPv P)
def s_ci (d : Nat) (M : gMD) (n : Nat) (S : gS) (av : List Value) (K : gS → Int32 → Prop) : Prop := ∃ (d' : Nat) (P : gS → Int32 → Prop), d' < d ∧ sCi d' M n S av P ∧ ∀ S x, P S x → K S x
def s_cz (d : Nat) (M : gMD) (n : Nat) (S : gS) (av : List Value) (K : gS → Bool → Prop) : Prop := ∃ (d' : Nat) (P : gS → Bool → Prop), d' < d ∧ sCz d' M n S av P ∧ ∀ S x, P S x → K S x
def s_cv (d : Nat) (M : gMD) (n : Nat) (S : gS) (av : List Value) (K : gS → Prop) : Prop := ∃ (d' : Nat) (P : gS → Prop), d' < d ∧ sCv d' M n S av P ∧ ∀ S, P S → K S
theorem vp_l {i : Int32} {n : Nat} (h : ¬ (i < 0 ∨ n ≤ i.toNatClampNeg)) : vp_in i n := h
theorem is_6 : isF 6 := ⟨rfl, rfl, rfl, rfl, rfl, rfl, rfl, rfl, rfl, rfl, rfl, ⟨rfl, rfl, rfl⟩⟩
theorem is_20 : isF 20 := ⟨rfl, rfl, rfl, rfl, rfl, rfl, rfl, rfl, rfl, rfl, rfl, ⟨rfl, rfl, rfl⟩⟩
theorem is_34 : isD 34 := ⟨rfl, rfl, rfl, rfl⟩
theorem is_38 : isD 38 := ⟨rfl, rfl, rfl, rfl⟩
theorem is_42 : isWd 42 := ⟨rfl, rfl⟩
theorem is_44 : isWd 44 := ⟨rfl, rfl⟩
theorem is_46 : isSn 46 := ⟨rfl, rfl, rfl⟩
theorem is_49 : isW 49 := ⟨rfl, rfl, rfl, rfl⟩
theorem is_53 : isW 53 := ⟨rfl, rfl, rfl, rfl⟩
theorem vp_lt {i : Int32} {n : Nat} (h : vp_in i n) : i.toNatClampNeg < n := by
  have := not_or.mp h
  omega
theorem rq_past {i : Int32} (h : vp_in i 16) : g_rq 57 i.toNatClampNeg = some (58 + 4 * i.toNatClampNeg) := by
  simp [g_rq, vp_lt h]
theorem rq_marks {i : Int32} (h : vp_in i 4) : g_rq 122 i.toNatClampNeg = some (123 + 14 * i.toNatClampNeg) := by
  simp [g_rq, vp_lt h]
theorem is_pastN : ∀ j, j < 16 → isW (58 + 4 * j) := by unfold isW; decide +kernel
theorem is_marksN : ∀ j, j < 4 → isMk (123 + 14 * j) := by
  intro j hj
  match j, hj with
  | 0, _ => exact ⟨rfl, ⟨rfl, rfl, rfl, rfl⟩, ⟨rfl, rfl, rfl, rfl⟩, ⟨rfl, rfl⟩, ⟨rfl, rfl, rfl⟩⟩
  | 1, _ => exact ⟨rfl, ⟨rfl, rfl, rfl, rfl⟩, ⟨rfl, rfl, rfl, rfl⟩, ⟨rfl, rfl⟩, ⟨rfl, rfl, rfl⟩⟩
  | 2, _ => exact ⟨rfl, ⟨rfl, rfl, rfl, rfl⟩, ⟨rfl, rfl, rfl, rfl⟩, ⟨rfl, rfl⟩, ⟨rfl, rfl, rfl⟩⟩
  | 3, _ => exact ⟨rfl, ⟨rfl, rfl, rfl, rfl⟩, ⟨rfl, rfl, rfl, rfl⟩, ⟨rfl, rfl⟩, ⟨rfl, rfl, rfl⟩⟩
  | n + 4, h => exact absurd h (by omega)
theorem is_past {i : Int32} (h : vp_in i 16) : isW (58 + 4 * i.toNatClampNeg) := is_pastN _ (vp_lt h)
theorem is_marks {i : Int32} (h : vp_in i 4) : isMk (123 + 14 * i.toNatClampNeg) := is_marksN _ (vp_lt h)
