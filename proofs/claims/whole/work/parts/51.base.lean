/-! SPECS: the words in which they are written -/
def wp {β : Type} (o : Option β) (Q : β → Prop) : Prop := ∃ r, o = some r ∧ Q r
theorem wp_some {β : Type} {r : β} {Q : β → Prop} : wp (some r) Q ↔ Q r :=
  ⟨fun ⟨_, h, q⟩ => by cases h; exact q, fun q => ⟨r, rfl, q⟩⟩
theorem wp_none {β : Type} {Q : β → Prop} : wp none Q ↔ False := ⟨fun ⟨_, h, _⟩ => (by cases h), False.elim⟩
theorem wp_b1 {β : Type} {o : Option gS} {f : gS → Option β} {Q : β → Prop} : wp (g_b1 o f) Q ↔ wp o (fun S => wp (f S) Q) := by
  cases o with
  | none => exact ⟨fun ⟨_, h, _⟩ => (by cases h), fun ⟨_, h, _⟩ => (by cases h)⟩
  | some S => exact ⟨fun h => ⟨S, rfl, h⟩, fun ⟨_, h, q⟩ => by cases h; exact q⟩
theorem wp_b2 {α β : Type} {o : Option (gS × α)} {f : gS → α → Option β} {Q : β → Prop} : wp (g_b2 o f) Q ↔ wp o (fun r => wp (f r.1 r.2) Q) := by
  cases o with
  | none => exact ⟨fun ⟨_, h, _⟩ => (by cases h), fun ⟨_, h, _⟩ => (by cases h)⟩
  | some S => exact ⟨fun h => ⟨S, rfl, h⟩, fun ⟨_, h, q⟩ => by cases h; exact q⟩
theorem wp_lt {β : Type} {e : gS} {f : gS → Option β} {Q : β → Prop} : wp (g_lt e f) Q ↔ wp (f e) Q := Iff.rfl
theorem wp_ite {β : Type} {c : Prop} [Decidable c] {a b : Option β} {Q : β → Prop} : wp (if c then a else b) Q ↔ (c → wp a Q) ∧ (¬ c → wp b Q) := by
  by_cases hc : c
  · simp [hc]
  · simp [hc]
theorem wp_ifs {β : Type} {c : Prop} [Decidable c] {a : Option β} {Q : β → Prop} : wp (if c then a else none) Q ↔ c ∧ wp a Q := by
  by_cases hc : c
  · simp [hc]
  · simp [hc, wp_none]
theorem wp_ifn {β : Type} {c : Prop} [Decidable c] {a : Option β} {Q : β → Prop} : wp (if c then none else a) Q ↔ ¬ c ∧ wp a Q := by
  by_cases hc : c
  · simp [hc, wp_none]
  · simp [hc]
theorem wp_mono {β : Type} {o : Option β} {P Q : β → Prop} (h : wp o P) (hq : ∀ r, P r → Q r) : wp o Q := by
  obtain ⟨r, h1, h2⟩ := h
  exact ⟨r, h1, hq r h2⟩
theorem wp_eq {β : Type} {o : Option β} {r : β} {Q : β → Prop} (h : o = some r) (hq : Q r) : wp o Q := ⟨r, h, hq⟩
/-! numbers -/
abbrev N (k : Nat) : Int32 := Int32.ofNat k
theorem clN {k : Nat} (h : k < 2147483648) : Int32.toNatClampNeg (N k) = k := Int32.toNatClampNeg_ofNat_of_lt h
theorem tiN {k : Nat} (h : k < 2147483648) : Int32.toInt (N k) = (k : Int) := Int32.toInt_ofNat_of_lt h
theorem leN {a b : Nat} (ha : a < 2147483648) (hb : b < 2147483648) : (N a ≤ N b) ↔ a ≤ b := Int32.ofNat_le_iff_le ha hb
theorem ltN {a b : Nat} (ha : a < 2147483648) (hb : b < 2147483648) : (N a < N b) ↔ a < b := Int32.ofNat_lt_iff_lt ha hb
theorem eqN {a b : Nat} (ha : a < 2147483648) (hb : b < 2147483648) : (N a = N b) ↔ a = b := by
  constructor
  · intro h
    have := congrArg Int32.toNatClampNeg h
    rwa [clN ha, clN hb] at this
  · rintro rfl; rfl
theorem vpN {k n : Nat} (h : k < n) (hk : k < 2147483648) : g_vp (N k) n = true := by
  unfold g_vp
  rw [decide_eq_true_eq, clN hk]
  intro hh
  rcases hh with hh | hh
  · have : N k < N 0 := hh
    rw [ltN hk (by decide)] at this
    omega
  · omega
theorem vp_of {i : Int32} {n : Nat} (h : g_vp i n = true) : ∃ k, k < n ∧ k < 2147483648 ∧ i = N k := by
  have h3 : ¬ (i < 0 ∨ n ≤ i.toNatClampNeg) := of_decide_eq_true h
  have h4 := not_or.mp h3
  refine ⟨i.toNatClampNeg, by omega, Int32.toNatClampNeg_lt i, ?_⟩
  have h0 : (0 : Int32) ≤ i := by
    have := h4.1
    rw [Int32.lt_iff_toInt_lt] at this
    rw [Int32.le_iff_toInt_le]
    omega
  exact (Int32.ofNat_toNatClampNeg i h0).symm
theorem addN {a b : Nat} : N a + N b = N (a + b) := (Int32.ofNat_add a b).symm
theorem addN1 {a : Nat} : N a + 1 = N (a + 1) := (Int32.ofNat_add a 1).symm
theorem litN {k : Nat} : (no_index (OfNat.ofNat k) : Int32) = N k := rfl
theorem subN {a b : Nat} (h : b ≤ a) : N a - N b = N (a - b) := (Int32.ofNat_sub a b h).symm
theorem mulN {a b : Nat} : N a * N b = N (a * b) := (Int32.ofNat_mul a b).symm
theorem neN {a : Nat} {i : Int32} (ha : a < 2147483648) (h : i < 0) : ¬ (N a = i) := by
  rintro rfl
  have : N a < N 0 := h
  rw [ltN ha (by decide)] at this
  omega
theorem nN_lt0 {a : Nat} (ha : a < 2147483648) : ¬ (N a < 0) := by
  intro h
  have : N a < N 0 := h
  rw [ltN ha (by decide)] at this
  omega
theorem le0N {a : Nat} (ha : a < 2147483648) : (N a ≤ 0) ↔ a = 0 := by
  have : (N a ≤ N 0) ↔ a ≤ 0 := leN ha (by decide)
  exact this.trans (by omega)
theorem eq0N {a : Nat} (ha : a < 2147483648) : (N a = 0) ↔ a = 0 := by
  have : (N a = N 0) ↔ a = 0 := eqN ha (by decide)
  exact this
theorem N_ne_m1 {a : Nat} (ha : a < 2147483648) : ¬ (N a = (-1 : Int32)) := neN ha (by decide)
theorem I_nn {i : Int32} (h : ¬ i < 0) : ∃ k, k < 2147483648 ∧ i = N k := by
  refine ⟨i.toNatClampNeg, Int32.toNatClampNeg_lt i, ?_⟩
  have h0 : (0 : Int32) ≤ i := by
    rw [Int32.lt_iff_toInt_lt] at h
    rw [Int32.le_iff_toInt_le]
    omega
  exact (Int32.ofNat_toNatClampNeg i h0).symm
theorem tdivN {a b : Nat} (ha : a < 2147483648) (hb : b < 2147483648) : N a / N b = N (a / b) := by
  apply Int32.toInt_inj.mp
  have h1 : a / b < 2147483648 := Nat.lt_of_le_of_lt (Nat.div_le_self a b) ha
  rw [tiN h1]
  have h2 : (N a / N b).toInt = ((N a).toInt.tdiv (N b).toInt).bmod (2 ^ 32) := Int32.toInt_div _ _
  rw [h2, tiN ha, tiN hb]
  have h3 : ((a : Int).tdiv (b : Int)) = ((a / b : Nat) : Int) := by
    rw [Int.tdiv_eq_ediv_of_nonneg (by omega)]; rfl
  rw [h3]
  clear h2 h3
  generalize a / b = c at *
  apply Int.bmod_eq_of_le <;> omega
theorem modN {a b : Nat} (ha : a < 2147483648) (hb : b < 2147483648) : N a - N a / N b * N b = N (a % b) := by
  rw [tdivN ha hb, mulN, subN (Nat.div_mul_le_self a b)]
  congr 1
  have := Nat.div_add_mod a b
  have h2 : b * (a / b) = a / b * b := Nat.mul_comm _ _
  omega
/-- sums and differences that stay small -/
theorem ti_add {a b : Int32} (h1 : -2147483648 ≤ a.toInt + b.toInt) (h2 : a.toInt + b.toInt < 2147483648) : (a + b).toInt = a.toInt + b.toInt := by
  rw [Int32.toInt_add]
  apply Int.bmod_eq_of_le <;> omega
theorem ti_sub {a b : Int32} (h1 : -2147483648 ≤ a.toInt - b.toInt) (h2 : a.toInt - b.toInt < 2147483648) : (a - b).toInt = a.toInt - b.toInt := by
  rw [Int32.toInt_sub]
  apply Int.bmod_eq_of_le <;> omega
theorem ti_mul {a b : Int32} (h1 : -2147483648 ≤ a.toInt * b.toInt) (h2 : a.toInt * b.toInt < 2147483648) : (a * b).toInt = a.toInt * b.toInt := by
  rw [Int32.toInt_mul]
  apply Int.bmod_eq_of_le <;> omega
theorem ile {a b : Int32} : a ≤ b ↔ a.toInt ≤ b.toInt := Int32.le_iff_toInt_le
theorem ilt {a b : Int32} : a < b ↔ a.toInt < b.toInt := Int32.lt_iff_toInt_lt
theorem ieq {a b : Int32} : a = b ↔ a.toInt = b.toInt := Int32.toInt_inj.symm
theorem FU_gt {m : Nat} (h : m ≤ 900000) : m ≤ FU := by unfold FU; omega
theorem FU_s : ∃ k, FU = k + 1 ∧ 900000 ≤ k := ⟨999999, rfl, by omega⟩
theorem kS {k m : Nat} (h : m + 1 ≤ k) : ∃ k', k = k' + 1 ∧ m ≤ k' := ⟨k - 1, by omega, by omega⟩
/-! what may have changed: I, R, L of the addresses in L; never Q; J is not told -/
def fr (L : List Nat) (S S' : gS) : Prop := (∀ b, b ∉ L → S'.1 b = S.1 b ∧ S'.2.2.2.1 b = S.2.2.2.1 b ∧ S'.2.2.2.2 b = S.2.2.2.2 b) ∧ S'.2.2.1 = S.2.2.1
theorem fr_rf {L : List Nat} {S : gS} : fr L S S := ⟨fun _ _ => ⟨rfl, rfl, rfl⟩, rfl⟩
theorem fr_tr {L : List Nat} {S S1 S2 : gS} (h1 : fr L S S1) (h2 : fr L S1 S2) : fr L S S2 :=
  ⟨fun b hb => ⟨((h2.1 b hb).1).trans (h1.1 b hb).1, ((h2.1 b hb).2.1).trans (h1.1 b hb).2.1, ((h2.1 b hb).2.2).trans (h1.1 b hb).2.2⟩, h2.2.trans h1.2⟩
theorem fr_mo {L L' : List Nat} {S S' : gS} (h : fr L S S') (hl : ∀ b, b ∈ L → b ∈ L') : fr L' S S' :=
  ⟨fun b hb => h.1 b (fun hh => hb (hl b hh)), h.2⟩
theorem fr_uI {L : List Nat} {S S' : gS} {a k : Nat} {x : Int32} (h : fr L S S') (ha : a ∈ L) : fr L S (uI S' a k x) := by
  refine ⟨fun b hb => ?_, h.2⟩
  have hne : b ≠ a := fun e => hb (e ▸ ha)
  refine ⟨?_, (h.1 b hb).2.1, (h.1 b hb).2.2⟩
  rw [← (h.1 b hb).1]
  funext j
  simp [uI, hne]
theorem fr_uJ {L : List Nat} {S S' : gS} {a k : Nat} {x : Int64} (h : fr L S S') : fr L S (uJ S' a k x) := h
theorem fr_uR {L : List Nat} {S S' : gS} {a k : Nat} {x : Int32} (h : fr L S S') (ha : a ∈ L) : fr L S (uR S' a k x) := by
  refine ⟨fun b hb => ?_, h.2⟩
  have hne : b ≠ a := fun e => hb (e ▸ ha)
  refine ⟨(h.1 b hb).1, ?_, (h.1 b hb).2.2⟩
  rw [← (h.1 b hb).2.1]
  funext j
  simp [uR, hne]
theorem fr_uA {L : List Nat} {S S' : gS} {a : Nat} {f : Nat → Int32} (h : fr L S S') (ha : a ∈ L) : fr L S (uA S' a f) := by
  refine ⟨fun b hb => ?_, h.2⟩
  have hne : b ≠ a := fun e => hb (e ▸ ha)
  refine ⟨(h.1 b hb).1, ?_, (h.1 b hb).2.2⟩
  rw [← (h.1 b hb).2.1]
  simp [uA, hne]
theorem fr_uL {L : List Nat} {S S' : gS} {a k : Nat} {x : Int64} (h : fr L S S') (ha : a ∈ L) : fr L S (uL S' a k x) := by
  refine ⟨fun b hb => ?_, h.2⟩
  have hne : b ≠ a := fun e => hb (e ▸ ha)
  refine ⟨(h.1 b hb).1, (h.1 b hb).2.1, ?_⟩
  rw [← (h.1 b hb).2.2]
  funext j
  simp [uL, hne]
theorem frI {L : List Nat} {S S' : gS} (h : fr L S S') {b : Nat} (hb : b ∉ L) (k : Nat) : sI S' b k = sI S b k := congrFun (h.1 b hb).1 k
theorem frR {L : List Nat} {S S' : gS} (h : fr L S S') {b : Nat} (hb : b ∉ L) : sR S' b = sR S b := (h.1 b hb).2.1
theorem frL {L : List Nat} {S S' : gS} (h : fr L S S') {b : Nat} (hb : b ∉ L) : sL S' b = sL S b := (h.1 b hb).2.2
theorem frQ {L : List Nat} {S S' : gS} (h : fr L S S') : sQ S' = sQ S := h.2
/-! reading over writing -/
theorem I_uI {S : gS} {a k b j : Nat} {x : Int32} : sI (uI S a k x) b j = if b = a ∧ j = k then x else sI S b j := rfl
theorem I_uJ {S : gS} {a k : Nat} {x : Int64} : sI (uJ S a k x) = sI S := rfl
theorem I_uR {S : gS} {a k : Nat} {x : Int32} : sI (uR S a k x) = sI S := rfl
theorem I_uA {S : gS} {a : Nat} {f : Nat → Int32} : sI (uA S a f) = sI S := rfl
theorem I_uL {S : gS} {a k : Nat} {x : Int64} : sI (uL S a k x) = sI S := rfl
theorem I_uQ {S : gS} {k x : Nat} : sI (uQ S k x) = sI S := rfl
theorem J_uI {S : gS} {a k : Nat} {x : Int32} : sJ (uI S a k x) = sJ S := rfl
theorem J_uJ {S : gS} {a k b j : Nat} {x : Int64} : sJ (uJ S a k x) b j = if b = a ∧ j = k then x else sJ S b j := rfl
theorem J_uR {S : gS} {a k : Nat} {x : Int32} : sJ (uR S a k x) = sJ S := rfl
theorem J_uA {S : gS} {a : Nat} {f : Nat → Int32} : sJ (uA S a f) = sJ S := rfl
theorem J_uL {S : gS} {a k : Nat} {x : Int64} : sJ (uL S a k x) = sJ S := rfl
theorem Q_uI {S : gS} {a k : Nat} {x : Int32} : sQ (uI S a k x) = sQ S := rfl
theorem Q_uJ {S : gS} {a k : Nat} {x : Int64} : sQ (uJ S a k x) = sQ S := rfl
theorem Q_uR {S : gS} {a k : Nat} {x : Int32} : sQ (uR S a k x) = sQ S := rfl
theorem Q_uA {S : gS} {a : Nat} {f : Nat → Int32} : sQ (uA S a f) = sQ S := rfl
theorem Q_uL {S : gS} {a k : Nat} {x : Int64} : sQ (uL S a k x) = sQ S := rfl
theorem Q_uQ {S : gS} {k x j : Nat} : sQ (uQ S k x) j = if j = k then x else sQ S j := rfl
theorem R_uI {S : gS} {a k : Nat} {x : Int32} : sR (uI S a k x) = sR S := rfl
theorem R_uJ {S : gS} {a k : Nat} {x : Int64} : sR (uJ S a k x) = sR S := rfl
theorem R_uQ {S : gS} {k x : Nat} : sR (uQ S k x) = sR S := rfl
theorem R_uR {S : gS} {a k b j : Nat} {x : Int32} : sR (uR S a k x) b j = if b = a ∧ j = k then x else sR S b j := rfl
theorem R_uA {S : gS} {a b : Nat} {f : Nat → Int32} : sR (uA S a f) b = if b = a then f else sR S b := rfl
theorem R_uL {S : gS} {a k : Nat} {x : Int64} : sR (uL S a k x) = sR S := rfl
theorem L_uI {S : gS} {a k : Nat} {x : Int32} : sL (uI S a k x) = sL S := rfl
theorem L_uJ {S : gS} {a k : Nat} {x : Int64} : sL (uJ S a k x) = sL S := rfl
theorem L_uR {S : gS} {a k : Nat} {x : Int32} : sL (uR S a k x) = sL S := rfl
theorem L_uA {S : gS} {a : Nat} {f : Nat → Int32} : sL (uA S a f) = sL S := rfl
theorem L_uQ {S : gS} {k x : Nat} : sL (uQ S k x) = sL S := rfl
theorem L_uL {S : gS} {a k b j : Nat} {x : Int64} : sL (uL S a k x) b j = if b = a ∧ j = k then x else sL S b j := rfl
