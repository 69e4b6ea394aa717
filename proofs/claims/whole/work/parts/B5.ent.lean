/-! THE LAW'S ENTRY: the classes, the texts, the statics -/
theorem eKa {args : Array Value} {s : State} {ty : FieldType} (h : (Cond.arrayClass ty).before args s = true) : ∃ cA, ArrOfT s cA ty ∧ s.vm.findClass ("[" ++ ty.toString) = some cA := by
  obtain ⟨c, k, comp, h1, h2, h3⟩ := Cond.arrayClass_spec h
  exact ⟨c, fun n z => ⟨fun k h => (by cases h), k, h2, comp, h3⟩, h1⟩
theorem eKo {args : Array Value} {s : State} {C : String} (h : (Cond.arrayOver (.object C)).before args s = true) : ∃ cA, ArrOfT s cA (.object C) ∧ va_RA s cA (.object C) := by
  obtain ⟨comp, c, k, h1, h2, h3, h4, h5⟩ := Cond.arrayOver_spec h
  exact ⟨c, fun n z => ⟨fun k h => (by cases h), k, h3, comp, h4⟩, k, comp, h3, h4, h1, h5⟩
theorem eAO1 : Cond.arrayOver (.object RX9) ∈ lw_tbl := List.mem_append_right _ (List.mem_of_getElem? (i := 310) (by decide +kernel))
theorem eAO2 : Cond.arrayOver (.object RX6) ∈ lw_tbl := List.mem_append_right _ (List.mem_of_getElem? (i := 312) (by decide +kernel))
theorem g_Tt {w : Cond} (h : w ∈ g_T) : w ∈ lw_tbl := (List.mem_filter.mp h).1
theorem eKc {args : Array Value} {s : State} (hT : ∀ w ∈ g_T, w.before args s = true) : ∃ (dC : Nat → ClassId) (dI : Nat → Nat → Nat), ∀ (k : Nat) (q : vw_C), g_cl[k]? = some q → u_Kn s q.1 q.2.1 q.2.2 (dC k) (dI k) := by
  have h : ∀ k : Nat, ∃ x : ClassId × (Nat → Nat), ∀ q : vw_C, g_cl[k]? = some q → u_Kn s q.1 q.2.1 q.2.2 x.1 x.2 := by
    intro k
    match k with
    | 0 => obtain ⟨c, i, z⟩ := u_known hT inT_X0 (hT _ it_X0); exact ⟨(c, i), fun q hq => by cases hq; exact z⟩
    | 1 => obtain ⟨c, i, z⟩ := u_known hT inT_X1 (hT _ it_X1); exact ⟨(c, i), fun q hq => by cases hq; exact z⟩
    | 2 => obtain ⟨c, i, z⟩ := u_known hT inT_X2 (hT _ it_X2); exact ⟨(c, i), fun q hq => by cases hq; exact z⟩
    | 3 => obtain ⟨c, i, z⟩ := u_known hT inT_X3 (hT _ it_X3); exact ⟨(c, i), fun q hq => by cases hq; exact z⟩
    | 4 => obtain ⟨c, i, z⟩ := u_known hT inT_X4 (hT _ it_X4); exact ⟨(c, i), fun q hq => by cases hq; exact z⟩
    | 5 => obtain ⟨c, i, z⟩ := u_known hT inT_X5 (hT _ it_X5); exact ⟨(c, i), fun q hq => by cases hq; exact z⟩
    | 6 => obtain ⟨c, i, z⟩ := u_known hT inT_X6 (hT _ it_X6); exact ⟨(c, i), fun q hq => by cases hq; exact z⟩
    | 7 => obtain ⟨c, i, z⟩ := u_known hT inT_X7 (hT _ it_X7); exact ⟨(c, i), fun q hq => by cases hq; exact z⟩
    | 8 => obtain ⟨c, i, z⟩ := u_known hT inT_X8 (hT _ it_X8); exact ⟨(c, i), fun q hq => by cases hq; exact z⟩
    | 9 => obtain ⟨c, i, z⟩ := u_known hT inT_X9 (hT _ it_X9); exact ⟨(c, i), fun q hq => by cases hq; exact z⟩
    | 10 => obtain ⟨c, i, z⟩ := u_known hT inT_X10 (hT _ it_X10); exact ⟨(c, i), fun q hq => by cases hq; exact z⟩
    | 11 => obtain ⟨c, i, z⟩ := u_known hT inT_X11 (hT _ it_X11); exact ⟨(c, i), fun q hq => by cases hq; exact z⟩
    | 12 => obtain ⟨c, i, z⟩ := u_known hT inT_X12 (hT _ it_X12); exact ⟨(c, i), fun q hq => by cases hq; exact z⟩
    | k + 13 => exact ⟨(0, fun _ => 0), fun q hq => by cases hq⟩
  exact ⟨fun k => (Classical.choose (h k)).1, fun k => (Classical.choose (h k)).2, fun k => Classical.choose_spec (h k)⟩
theorem eK {args : Array Value} {s : State} (hts : ∀ w ∈ lw_tbl, w.before args s = true) : ∃ (dC : Nat → ClassId) (dI : Nat → Nat → Nat) (dA : Nat → ClassId), va_K (dC, dI) g_cl (g_tys dA) s := by
  have hT : ∀ w ∈ g_T, w.before args s = true := fun w hw => hts w (g_Tt hw)
  obtain ⟨dC, dI, hc⟩ := eKc hT
  obtain ⟨a0, p0, q0⟩ := eKa (hT _ ac_int)
  obtain ⟨a1, p1, q1⟩ := eKa (hT _ ac_long)
  obtain ⟨a2, p2, q2⟩ := eKa (hT _ ac_char)
  obtain ⟨a3, p3, q3⟩ := eKa (hT _ ac_boolean)
  obtain ⟨a4, p4, q4⟩ := eKo (hts _ eAO1)
  obtain ⟨a5, p5, q5⟩ := eKo (hts _ eAO2)
  refine ⟨dC, dI, fun k => if k = 0 then a0 else if k = 1 then a1 else if k = 2 then a2 else if k = 3 then a3 else if k = 4 then a4 else a5, hc, fun k q hq => ?_⟩
  match k, hq with
  | 0, hq => cases hq; exact ⟨p0, q0⟩
  | 1, hq => cases hq; exact ⟨p1, q1⟩
  | 2, hq => cases hq; exact ⟨p2, q2⟩
  | 3, hq => cases hq; exact ⟨p3, q3⟩
  | 4, hq => cases hq; exact ⟨p4, q4⟩
  | 5, hq => cases hq; exact ⟨p5, q5⟩
  | k + 6, hq => cases hq
