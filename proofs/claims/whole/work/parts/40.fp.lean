/-! EVERY METHOD AS A FUNCTION OVER THE NUMBERS -/
/-- steps of a loop: more than any needs -/
def FU : Nat := 1000000
def g_lt {α : Type} (e : gS) (f : gS → α) : α := f e
theorem g_lts {α : Type} {e S1 : gS} {f : gS → α} {R : α} (eS : S1 = e) (h : g_lt e f = R) : f S1 = R := by subst eS; exact h
theorem g_ip {α : Type} {c : Prop} [Decidable c] {a b R : α} (hc : c) (h : (if c then a else b) = R) : a = R := by rw [if_pos hc] at h; exact h
theorem g_in {α : Type} {c : Prop} [Decidable c] {a b R : α} (hc : ¬ c) (h : (if c then a else b) = R) : b = R := by rw [if_neg hc] at h; exact h
theorem g_bt {α : Type} {x : Bool} {a b R : α} (hc : x = true) (h : (if x = true then a else b) = R) : a = R := by rw [if_pos hc] at h; exact h
theorem g_bf {α : Type} {x : Bool} {a b R : α} (hc : x = false) (h : (if x = true then a else b) = R) : b = R := by subst hc; exact h
theorem g_nn {α : Type} {c : Prop} [Decidable c] {a : Option α} {R : α} (h : (if c then none else a) = some R) : ¬ c ∧ a = some R := by
  by_cases hc : c
  · rw [if_pos hc] at h; cases h
  · rw [if_neg hc] at h; exact ⟨hc, h⟩
theorem g_ns {α : Type} {c : Prop} [Decidable c] {a : Option α} {R : α} (h : (if c then a else none) = some R) : c ∧ a = some R := by
  by_cases hc : c
  · rw [if_pos hc] at h; exact ⟨hc, h⟩
  · rw [if_neg hc] at h; cases h
def g_vp (i : Int32) (n : Nat) : Bool := decide (¬ (i < 0 ∨ n ≤ i.toNatClampNeg))
theorem g_vs {α : Type} {i : Int32} {n : Nat} {a : Option α} {R : α} (h : (if g_vp i n = true then a else none) = some R) : vp_in i n ∧ a = some R := by
  obtain ⟨h1, h2⟩ := g_ns h
  have h3 : ¬ (i < 0 ∨ n ≤ i.toNatClampNeg) := of_decide_eq_true h1
  exact ⟨h3, h2⟩
def isFb (q : Nat) : Bool := q == 6 || q == 20
def isDb (q : Nat) : Bool := q == 34 || q == 38
def isWdb (q : Nat) : Bool := q == 42 || q == 44
theorem g_fs {α : Type} {q : Nat} {a : Option α} {R : α} (h : (if isFb q = true then a else none) = some R) : isF q ∧ a = some R := by
  obtain ⟨h1, h2⟩ := g_ns h
  simp only [isFb, Bool.or_eq_true, beq_iff_eq] at h1
  refine ⟨?_, h2⟩
  rcases h1 with rfl | rfl
  · exact is_6
  · exact is_20
theorem g_ds {α : Type} {q : Nat} {a : Option α} {R : α} (h : (if isDb q = true then a else none) = some R) : isD q ∧ a = some R := by
  obtain ⟨h1, h2⟩ := g_ns h
  simp only [isDb, Bool.or_eq_true, beq_iff_eq] at h1
  refine ⟨?_, h2⟩
  rcases h1 with rfl | rfl
  · exact is_34
  · exact is_38
theorem g_wds {α : Type} {q : Nat} {a : Option α} {R : α} (h : (if isWdb q = true then a else none) = some R) : isWd q ∧ a = some R := by
  obtain ⟨h1, h2⟩ := g_ns h
  simp only [isWdb, Bool.or_eq_true, beq_iff_eq] at h1
  refine ⟨?_, h2⟩
  rcases h1 with rfl | rfl
  · exact is_42
  · exact is_44
def g_b1 {β : Type} (o : Option gS) (f : gS → Option β) : Option β := match o with
  | none => none
  | some S => f S
def g_b2 {α β : Type} (o : Option (gS × α)) (f : gS → α → Option β) : Option β := match o with
  | none => none
  | some r => f r.1 r.2
theorem g_b1s {β : Type} {o : Option gS} {f : gS → Option β} {R : β} (h : g_b1 o f = some R) : ∃ S, o = some S ∧ f S = some R := by
  cases o with
  | none => cases h
  | some S => exact ⟨S, rfl, h⟩
theorem g_b2s {α β : Type} {o : Option (gS × α)} {f : gS → α → Option β} {R : β} (h : g_b2 o f = some R) : ∃ S x, o = some (S, x) ∧ f S x = some R := by
  cases o with
  | none => cases h
  | some r => exact ⟨r.1, r.2, rfl, h⟩
theorem g_zs {x : Int32} {S : gS} {R : gS × Bool} (h : (if x = 0 then some (S, false) else if x = 1 then some (S, true) else none) = some R) : ∃ b, x = g_b b ∧ (S = R.1 ∧ b = R.2) := by
  by_cases h0 : x = 0
  · rw [if_pos h0] at h; cases h; exact ⟨false, h0, rfl, rfl⟩
  · rw [if_neg h0] at h
    by_cases h1 : x = 1
    · rw [if_pos h1] at h; cases h; exact ⟨true, h1, rfl, rfl⟩
    · rw [if_neg h1] at h; cases h
