/-! the texts -/
abbrev strV (q : String × Nat × String × List Int32) : Term := .field (.string q.1 q.2.1) "java/lang/String" "value" "[B"
def aStW (q : String × Nat × String × List Int32) : List Cond := [Cond.exactly (.string q.1 q.2.1) "java/lang/String", Cond.eq (.field (.string q.1 q.2.1) "java/lang/String" "coder" "B") (.int 0), Cond.arrayOf (strV q) .byte, Cond.eq (.length (strV q)) (.int (Int32.ofNat q.2.2.2.length))] ++ (List.range q.2.2.2.length).map (fun j => Cond.eq (.elem (strV q) (.int (Int32.ofNat j))) (.int (q.2.2.2.getD j 0)))
def strP : List Nat := [54, 66, 75, 85, 93, 102, 111, 121, 131, 137, 145, 155, 165, 173, 181, 190, 199, 207, 215, 223, 230, 237, 243, 253, 262, 271, 280, 289, 299, 309, 320, 331, 338, 347, 358, 366, 376, 384, 391, 399, 407, 414, 425, 434, 443]
theorem strZ : ∀ x ∈ g_strs.zip strP, ((flatC (Jvm.Cond.and given_1 narrow_1)).drop x.2).take (4 + x.1.2.2.2.length) = aStW x.1 := by decide +kernel
theorem strL : g_strs.map (fun q => q) = (g_strs.zip strP).map (fun x => x.1) := rfl
theorem strIn : ∀ q ∈ g_strs, ∀ w ∈ aStW q, w ∈ flatC (Jvm.Cond.and given_1 narrow_1) := by
  intro q hq w hw
  have hm : q ∈ (g_strs.zip strP).map (fun x => x.1) := by
    rw [← strL]
    exact List.mem_map.mpr ⟨q, hq, rfl⟩
  obtain ⟨x, hx, rfl⟩ := List.mem_map.mp hm
  rw [← strZ x hx] at hw
  exact List.mem_of_mem_drop (List.mem_of_mem_take hw)
theorem strRf : ∀ q ∈ g_strs, Cond.stringRef q.1 q.2.1 q.2.2.1 ∈ lw_tbl ∧ q.2.2.2.length < 2 ^ 31 := by decide +kernel
theorem eS1 {args : Array Value} {s : State} {q : String × Nat × String × List Int32} {A : Nat → Prop} (hA : ∀ a : Nat, a < s.heap.size → ¬ A a) (hr : (Cond.stringRef q.1 q.2.1 q.2.2.1).before args s = true) (hw : ∀ w ∈ aStW q, w.before args s = true) (hl : q.2.2.2.length < 2 ^ 31) : ∃ a b, vk_R q.1 q.2.1 q.2.2.1 a s ∧ g_s1 a b q.2.2.2 A s s.heap := by
  have h1 : (Cond.exactly (.string q.1 q.2.1) "java/lang/String").before args s = true := hw _ (by simp [aStW])
  have h2 : (Cond.eq (.field (.string q.1 q.2.1) "java/lang/String" "coder" "B") (.int 0)).before args s = true := hw _ (by simp [aStW])
  have h3 : (Cond.arrayOf (strV q) .byte).before args s = true := hw _ (by simp [aStW])
  have h4 : (Cond.eq (.length (strV q)) (.int (Int32.ofNat q.2.2.2.length))).before args s = true := hw _ (by simp [aStW])
  have h5 : ∀ j : Nat, j < q.2.2.2.length → (Cond.eq (.elem (strV q) (.int (Int32.ofNat j))) (.int (q.2.2.2.getD j 0))).before args s = true := fun j hj => hw _ (List.mem_append_right _ (List.mem_map.mpr ⟨j, List.mem_range.mpr hj, rfl⟩))
  obtain ⟨a, c, cell, k, ht, -⟩ := Cond.exactly_spec (args := args) (first := s) (o := none) (s := s) (idx := []) (t := .string q.1 q.2.1) (cls := "java/lang/String") h1
  obtain ⟨y2, e2, f2⟩ := Cond.eq_one (show (Cond.eq (.field (.string q.1 q.2.1) "java/lang/String" "coder" "B") (.int 0)).holds args s none s [] = true from h2)
  have g2 : Value.int 0 = y2 := Option.some.inj f2
  subst g2
  obtain ⟨y4, e4, f4⟩ := Cond.eq_one (show (Cond.eq (.length (strV q)) (.int (Int32.ofNat q.2.2.2.length))).holds args s none s [] = true from h4)
  have g4 : Value.int (Int32.ofNat q.2.2.2.length) = y4 := Option.some.inj f4
  subst g4
  obtain ⟨b, e3, hT⟩ := va_Tof (f := fun j => .int (q.2.2.2.getD j 0)) hl h3 e4 (fun j hj => by
    obtain ⟨y5, e5, f5⟩ := Cond.eq_one (show (Cond.eq (.elem (strV q) (.int (Int32.ofNat j))) (.int (q.2.2.2.getD j 0))).holds args s none s [] = true from h5 j hj)
    have g5 : Value.int (q.2.2.2.getD j 0) = y5 := Option.some.inj f5
    subst g5
    exact e5) hA
  exact ⟨a, b, vk_R.of hr ht, va_Oof h1 ht hA, vk_OFof ht e2 hA, vk_OFof ht e3 hA, hT⟩
theorem eStr {args : Array Value} {s : State} {A : Nat → Prop} (hA : ∀ a : Nat, a < s.heap.size → ¬ A a) (hts : ∀ w ∈ lw_tbl, w.before args s = true) (hgv : (Jvm.Cond.and given_1 narrow_1).before args s = true) : ∃ f : Nat → Nat × Nat, ∀ (t : Nat) (q : String × Nat × String × List Int32), g_strs[t]? = some q → vk_R q.1 q.2.1 q.2.2.1 (f t).1 s ∧ g_s1 (f t).1 (f t).2 q.2.2.2 A s s.heap := by
  have hf := flat_of_before _ hgv
  have h : ∀ t : Nat, ∃ x : Nat × Nat, ∀ q : String × Nat × String × List Int32, g_strs[t]? = some q → vk_R q.1 q.2.1 q.2.2.1 x.1 s ∧ g_s1 x.1 x.2 q.2.2.2 A s s.heap := by
    intro t
    cases e : g_strs[t]? with
    | none => exact ⟨(0, 0), fun q hq => by cases hq⟩
    | some q0 =>
      have hm : q0 ∈ g_strs := List.mem_of_getElem? e
      obtain ⟨a, b, h1, h2⟩ := eS1 (A := A) hA (hts _ (strRf q0 hm).1) (fun w hw => hf w (strIn q0 hm w hw)) (strRf q0 hm).2
      exact ⟨(a, b), fun q hq => by cases hq; exact ⟨h1, h2⟩⟩
  exact ⟨fun t => Classical.choose (h t), fun t => Classical.choose_spec (h t)⟩
