/-! words that a callee may count on: the good ones of the tables; the links among nest mates apart -/
def g_T : List Cond := lw_tbl.filter goodWord
def g_isN (w : Cond) : Bool := match w with
  | .fieldLinkNest .. => true
  | _ => false
def g_N : List Cond := lw_tbl.filter g_isN
theorem g_inT {w : Cond} {i : Nat} (h : lw_tbl[i]? = some w) (hg : goodWord w = true) : w ∈ g_T := List.mem_filter.mpr ⟨List.mem_of_getElem? h, hg⟩
theorem g_inN {w : Cond} {i : Nat} (h : lw_tbl[i]? = some w) (hg : g_isN w = true) : w ∈ g_N := List.mem_filter.mpr ⟨List.mem_of_getElem? h, hg⟩
theorem g_T_good {w : Cond} (h : w ∈ g_T) : (w.onTables && w.keeps) = true ∨ ∃ ty, w = .arrayClass ty := good_of_word (List.mem_filter.mp h).2
abbrev g_cl : List vw_C := [(RX0, TX0, 4), (RX1, TX1, 14), (RX2, TX2, 2), (RX3, TX3, 3), (RX4, TX4, 1), (RX5, TX5, 1), (RX6, TX6, 5), (RX7, TX7, 3), (RX8, TX8, 8), (RX9, TX9, 10), (RX10, TX10, 2), (RX11, TX11, 18), (RX12, TX12, 60)]
/-- arrays by number: int, long, char, boolean, Wall, Mark -/
abbrev g_tys (dA : Nat → ClassId) : List (ClassId × FieldType) := [(dA 0, .int), (dA 1, .long), (dA 2, .char), (dA 3, .boolean), (dA 4, .object RX9), (dA 5, .object RX6)]
def g_strs : List (String × Nat × String × List Int32) := [("StoneReaders$Tape", 42, "()<=+-*;", [40, 41, 60, 61, 43, 45, 42, 59]),
  ("StoneReaders$FrontReader", 50, "mouth", [109, 111, 117, 116, 104]),
  ("StoneReaders$Tape", 67, "mouth", [109, 111, 117, 116, 104]),
  ("StoneReaders$Tape", 73, "high", [104, 105, 103, 104]),
  ("StoneReaders$Tape", 75, "takes", [116, 97, 107, 101, 115]),
  ("StoneReaders$Tape", 77, "holds", [104, 111, 108, 100, 115]),
  ("StoneReaders$Tape", 79, "gutter", [103, 117, 116, 116, 101, 114]),
  ("StoneReaders$Tape", 81, "letter", [108, 101, 116, 116, 101, 114]),
  ("StoneReaders$Tape", 83, "of", [111, 102]),
  ("StoneReaders$Tape", 85, "rain", [114, 97, 105, 110]),
  ("StoneReaders$Tape", 87, "sounds", [115, 111, 117, 110, 100, 115]),
  ("StoneReaders$Tape", 89, "minute", [109, 105, 110, 117, 116, 101]),
  ("StoneReaders$Tape", 91, "pour", [112, 111, 117, 114]),
  ("StoneReaders$Tape", 93, "stop", [115, 116, 111, 112]),
  ("StoneReaders$Tape", 95, "clear", [99, 108, 101, 97, 114]),
  ("StoneReaders$Tape", 97, "plain", [112, 108, 97, 105, 110]),
  ("StoneReaders$Tape", 99, "wide", [119, 105, 100, 101]),
  ("StoneReaders$Tape", 101, "slow", [115, 108, 111, 119]),
  ("StoneReaders$Tape", 103, "nest", [110, 101, 115, 116]),
  ("StoneReaders$Tape", 105, "not", [110, 111, 116]),
  ("StoneReaders$Tape", 107, "and", [97, 110, 100]),
  ("StoneReaders$Tape", 109, "or", [111, 114]),
  ("StoneReaders$FrontReader", 150, "plain", [112, 108, 97, 105, 110]),
  ("StoneReaders$FrontReader", 152, "wide", [119, 105, 100, 101]),
  ("StoneReaders$FrontReader", 154, "slow", [115, 108, 111, 119]),
  ("StoneReaders$FrontReader", 156, "nest", [110, 101, 115, 116]),
  ("StoneReaders$FrontReader", 124, "high", [104, 105, 103, 104]),
  ("StoneReaders$FrontReader", 132, "takes", [116, 97, 107, 101, 115]),
  ("StoneReaders$FrontReader", 136, "holds", [104, 111, 108, 100, 115]),
  ("StoneReaders$FrontReader", 59, "gutter", [103, 117, 116, 116, 101, 114]),
  ("StoneReaders$FrontReader", 64, "letter", [108, 101, 116, 116, 101, 114]),
  ("StoneReaders$FrontReader", 175, "of", [111, 102]),
  ("StoneReaders$FrontReader", 72, "rain", [114, 97, 105, 110]),
  ("StoneReaders$FrontReader", 77, "sounds", [115, 111, 117, 110, 100, 115]),
  ("StoneReaders$LawReader", 67, "flow", [102, 108, 111, 119]),
  ("StoneReaders$LawReader", 69, "stands", [115, 116, 97, 110, 100, 115]),
  ("StoneReaders$LawReader", 71, "tall", [116, 97, 108, 108]),
  ("StoneReaders$LawReader", 73, "wet", [119, 101, 116]),
  ("StoneReaders$LawReader", 42, "not", [110, 111, 116]),
  ("StoneReaders$LawReader", 75, "and", [97, 110, 100]),
  ("StoneReaders$LawReader", 77, "or", [111, 114]),
  ("StoneReaders$ListReader", 70, "minute", [109, 105, 110, 117, 116, 101]),
  ("StoneReaders$ListReader", 76, "pour", [112, 111, 117, 114]),
  ("StoneReaders$ListReader", 78, "stop", [115, 116, 111, 112]),
  ("StoneReaders$ListReader", 80, "clear", [99, 108, 101, 97, 114])]
/-- a text constant: its object, its bytes -/
def g_s1 (a b : Nat) (bs : List Int32) (A : Nat → Prop) (U : State) (H : Heap) : Prop := va_O "java/lang/String" a A U H ∧ va_OF "java/lang/String" "coder" "B" (.int 0) a A U H ∧ va_OF "java/lang/String" "value" "[B" (.ref b) a A U H ∧ va_T .byte b bs.length (fun j => .int (bs.getD j 0)) A U H
def g_SE (τ : Nat → Value) (A : Nat → Prop) (U : State) (H : Heap) : Prop :=
  (∀ (t : Nat) (q : String × Nat × String × List Int32), g_strs[t]? = some q → ∃ a b : Nat, τ t = .ref a ∧ τ (100 + t) = .ref b ∧ vk_R q.1 q.2.1 q.2.2.1 a U ∧ g_s1 a b q.2.2.2 A U H) ∧
  va_Z "java/lang/String" "COMPACT_STRINGS" "Z" (.int 1) A U H ∧ va_Z "jdk/internal/util/Preconditions" "SIOOBE_FORMATTER" "Ljava/util/function/BiFunction;" (τ 200) A U H ∧
  vx_Zq "java/lang/Throwable" "UNASSIGNED_STACK" "[Ljava/lang/StackTraceElement;" A U H ∧ vx_Zq "java/lang/Throwable" "SUPPRESSED_SENTINEL" "Ljava/util/List;" A U H
def g_NW (U : State) : Prop := (∀ w ∈ g_N, va_Nw w U) ∧ va_AO RX9 U ∧ va_AO RX6 U
theorem g_s1.to {a b : Nat} {bs : List Int32} {A B : Nat → Prop} {s U : State} {H : Heap} (h : g_s1 a b bs A s s.heap) (hk : ∀ q : Nat, q < s.heap.size → ¬ A q → H[q]? = s.heap[q]?) (hvm : s.vm.Alike U.vm) (hAB : ∀ q, B q → A q) : g_s1 a b bs B U H :=
  ⟨((h.1.kept hk).moved hvm).narrow hAB, ((h.2.1.kept hk).moved hvm).narrow hAB, ((h.2.2.1.kept hk).moved hvm).narrow hAB, ((h.2.2.2.kept hk).moved hvm).narrow hAB⟩
theorem g_SE.to {τ : Nat → Value} {A B : Nat → Prop} {s U : State} {H : Heap} (h : g_SE τ A s s.heap) (hk : ∀ q : Nat, q < s.heap.size → ¬ A q → H[q]? = s.heap[q]?) (hW : s.WarmedH U.vm) (hAB : ∀ q, B q → A q) : g_SE τ B U H := by
  obtain ⟨h1, h2, h3, h4, h5⟩ := h
  have hvm := hW.alike
  refine ⟨fun t q hq => ?_, ((h2.kept hk).moved hvm).narrow hAB, ((h3.kept hk).moved hvm).narrow hAB, ((h4.kept hk).moved hvm).narrow hAB, ((h5.kept hk).moved hvm).narrow hAB⟩
  obtain ⟨a, b, e1, e2, e3, e4⟩ := h1 t q hq
  exact ⟨a, b, e1, e2, e3.warm hW, e4.to hk hvm hAB⟩
theorem g_NW.to {s U : State} (h : g_NW s) (hW : s.WarmedH U.vm) : g_NW U := by
  refine ⟨fun w hw => ?_, h.2.1.moved hW.alike, h.2.2.moved hW.alike⟩
  have h1 := h.1 w hw
  have h2 := (List.mem_filter.mp hw).2
  cases w <;> first | exact h1.warmF hW | (simp [g_isN] at h2)
theorem g_SE.calling {τ : Nat → Value} {A : Nat → Prop} {U : State} {g : JFrame} {mk : MethodId} {a : Array Value} (h : g_SE τ A U U.heap) : g_SE τ A (U.calling g mk a) (U.calling g mk a).heap := by
  obtain ⟨h1, h2, h3, h4, h5⟩ := h
  have hvm : U.vm.Alike (U.calling g mk a).vm := Vm.Alike.refl U.vm
  have hk : ∀ q : Nat, q < U.heap.size → ¬ A q → (U.calling g mk a).heap[q]? = U.heap[q]? := fun _ _ _ => rfl
  refine ⟨fun t q hq => ?_, (h2.kept hk).moved hvm, (h3.kept hk).moved hvm, (h4.kept hk).moved hvm, (h5.kept hk).moved hvm⟩
  obtain ⟨x, b, e1, e2, e3, e4⟩ := h1 t q hq
  exact ⟨x, b, e1, e2, e3.same rfl, e4.to hk hvm (fun _ h => h)⟩
theorem g_NW.calling {U : State} {g : JFrame} {mk : MethodId} {a : Array Value} (h : g_NW U) : g_NW (U.calling g mk a) := by
  refine ⟨fun w hw => ?_, h.2.1.moved (Vm.Alike.refl U.vm), h.2.2.moved (Vm.Alike.refl U.vm)⟩
  have h1 := h.1 w hw
  have h2 := (List.mem_filter.mp hw).2
  cases w <;> first | exact va_Nw.same rfl (show U.vm = (U.calling g mk a).vm from rfl) h1 | (simp [g_isN] at h2)
/-- tokens are references or null -/
def g_ro (τ : Nat → Value) : Prop := ∀ k, τ k = .null ∨ ∃ a, τ k = .ref a
theorem g_roc {τ : Nat → Value} (h : g_ro τ) (k : Nat) : (τ k).category = 1 := by
  rcases h k with e | ⟨a, e⟩ <;> rw [e] <;> rfl
/-- what stays in one run of a method -/
def g_Fx (M : gMD) (p : Program) (s : State) (m : MethodId) (args : Array Value) (meth : Method) (c : Code) (dC : Nat → ClassId) (dI : Nat → Nat → Nat) (dA : Nat → ClassId) (τ : Nat → Value) (A : Nat → Prop) : Prop :=
  p.tables.exec = Jvm.exec ∧ c.code = M.2.1 ∧ c.maxLocals = M.2.2.1 ∧ meth.sig.returnType = M.2.2.2.1 ∧ s.vm.findClass M.1.cls = some m.cls ∧ (∀ w ∈ g_T, w.before args s = true) ∧ meth.locks = false ∧ meth.name = M.1.name ∧
  va_K (dC, dI) g_cl (g_tys dA) s ∧ (∀ q, s.heap.size ≤ q → A q) ∧ g_NW s ∧ g_SE τ A s s.heap ∧ g_ro τ ∧
  ∀ S, M.2.2.2.2 = some S → ∃ b, τ 300 = .ref b ∧ va_X b S.1 S.2 s s.heap ∧ b < s.heap.size ∧ ¬ A b
/-- the machine's state shows the abstract one -/
def g_Rep (M : gMD) (s : State) (dC : Nat → ClassId) (dI : Nat → Nat → Nat) (dA : Nat → ClassId) (τ : Nat → Value) (A : Nat → Prop) (n0 : Nat) (ρ0 ρ : Nat → Nat) (n : Nat) (H : gHp) (L : List (Option Value)) (st : List Value) (Hr : Heap) (locs : List Loc) (ls : Array Slot) : Prop :=
  n0 ≤ n ∧ (∀ k, k < n0 → ρ k = ρ0 k) ∧ g_oH n H ∧ g_oL n L ∧ g_oS n st ∧ va_P (dC, dI) g_cl (g_w ρ τ dA n H) Hr ∧ va_D A (g_w ρ τ dA n H) ∧ va_S A s.heap Hr locs ∧ lv_has ls M.2.2.1 (g_L ρ τ L 0)
def g_rm (d Rc Rs : Nat) : Room := { frames := d, cells := Rc, slots := Rs, locals := 64 * d }
abbrev gX : Type := Nat → Nat → gHp → List (Option Value) → List Value → Nat → Nat → Prop
/-- from this abstract state the machine goes on well, if it does so from all exits -/
def gG (d : Nat) (M : gMD) (Rc Rs : Nat) (X : gX) (pc n : Nat) (H : gHp) (L : List (Option Value)) (st : List Value) (kc ks : Nat) : Prop :=
  ∀ (p : Program) (l : Launch) (e : Env) (s : State) (m : MethodId) (args : Array Value) (below : List Frame) (meth : Method) (c : Code) (dC : Nat → ClassId) (dI : Nat → Nat → Nat) (dA : Nat → ClassId) (τ : Nat → Value) (A : Nat → Prop) (n0 : Nat) (ρ0 : Nat → Nat) (Q : State → Prop),
    g_Fx M p s m args meth c dC dI dA τ A → l.flags = flags0 →
    (∀ (pc' n' : Nat) (H' : gHp) (L' : List (Option Value)) (st' : List Value) (kc' ks' : Nat), X pc' n' H' L' st' kc' ks' → ∀ (ρ' : Nat → Nat) (Hr : Heap) (locs : List Loc) (ls : Array Slot), g_Rep M s dC dI dA τ A n0 ρ0 ρ' n' H' L' st' Hr locs ls → W p l e (g_rm d Rc Rs) s m args below meth c Hr locs kc' ks' Q (F0 m pc' ls (st'.map (g_cv ρ' τ)))) →
    ∀ (ρ : Nat → Nat) (Hr : Heap) (locs : List Loc) (ls : Array Slot), g_Rep M s dC dI dA τ A n0 ρ0 ρ n H L st Hr locs ls → W p l e (g_rm d Rc Rs) s m args below meth c Hr locs kc ks Q (F0 m pc ls (st.map (g_cv ρ τ)))
section GR
variable {d : Nat} {M : gMD} {Rc Rs : Nat} {X : gX} {pc n : Nat} {H : gHp} {L : List (Option Value)} {st : List Value} {kc ks : Nat}
theorem gG_exit (h : X pc n H L st kc ks) : gG d M Rc Rs X pc n H L st kc ks := by
  intro p l e s m args below meth c dC dI dA τ A n0 ρ0 Q F hfl hX ρ Hr locs ls hR
  exact hX _ _ _ _ _ _ _ h ρ Hr locs ls hR
theorem gG_locals {L' : List (Option Value)} (hl : g_le L' L) (h : gG d M Rc Rs X pc n H L' st kc ks) : gG d M Rc Rs X pc n H L st kc ks := by
  intro p l e s m args below meth c dC dI dA τ A n0 ρ0 Q F hfl hX ρ Hr locs ls hR
  obtain ⟨r1, r2, r3, r4, r5, r6, r7, r8, r9⟩ := hR
  exact h p l e s m args below meth c dC dI dA τ A n0 ρ0 Q F hfl hX ρ Hr locs ls ⟨r1, r2, r3, g_oL_le hl r4, r5, r6, r7, r8, g_has_sub r9 (fun q hq => g_L_le hl hq)⟩
theorem gG_mono {X' : gX} (hx : ∀ pc n H L st kc ks, X pc n H L st kc ks → gG d M Rc Rs X' pc n H L st kc ks) (h : gG d M Rc Rs X pc n H L st kc ks) : gG d M Rc Rs X' pc n H L st kc ks := by
  intro p l e s m args below meth c dC dI dA τ A n0 ρ0 Q F hfl hX ρ Hr locs ls hR
  exact h p l e s m args below meth c dC dI dA τ A n0 ρ0 Q F hfl (fun pc' n' H' L' st' kc' ks' hx' ρ' Hr' locs' ls' hR' => hx _ _ _ _ _ _ _ hx' p l e s m args below meth c dC dI dA τ A n0 ρ0 Q F hfl hX ρ' Hr' locs' ls' hR') ρ Hr locs ls hR
theorem gG_stk {pc' : Nat} {st' : List Value} (h : gG d M Rc Rs X pc' n H L st' kc ks) (ho : g_oS n st → g_oS n st')
    (hw : ∀ {p : Program} {l : Launch} {e : Env} {R : Room} {s : State} {m : MethodId} {args : Array Value} {below : List Frame} {meth : Method} {c : Code} {Hr : Heap} {locs : List Loc} {cells slots : Nat} {Q : State → Prop} {ls : Array Slot} {ρ : Nat → Nat} {τ : Nat → Value}, p.tables.exec = Jvm.exec → c.code = M.2.1 → s.vm.findClass M.1.cls = some m.cls → (∀ w ∈ g_T, w.before args s = true) → (∀ k, (τ k).category = 1) → W p l e R s m args below meth c Hr locs cells slots Q (F0 m pc' ls (st'.map (g_cv ρ τ))) → W p l e R s m args below meth c Hr locs cells slots Q (F0 m pc ls (st.map (g_cv ρ τ)))) : gG d M Rc Rs X pc n H L st kc ks := by
  intro p l e s m args below meth c dC dI dA τ A n0 ρ0 Q F hfl hX ρ Hr locs ls hR
  obtain ⟨r1, r2, r3, r4, r5, r6, r7, r8, r9⟩ := id hR
  obtain ⟨hx, hb, hml, hr, hown, hts, hlk, hnm, hK, hA, hN, hE, hτ0, hS⟩ := id F
  have hτ := g_roc hτ0
  exact hw hx hb hown hts hτ (h p l e s m args below meth c dC dI dA τ A n0 ρ0 Q F hfl hX ρ Hr locs ls ⟨r1, r2, r3, r4, ho r5, r6, r7, r8, r9⟩)
theorem gG_ld {i pc' : Nat} {v : Value} (hl : g_lk L i = some v) (h : gG d M Rc Rs X pc' n H L (v :: st) kc ks)
    (hw : ∀ {p : Program} {l : Launch} {e : Env} {R : Room} {s : State} {m : MethodId} {args : Array Value} {below : List Frame} {meth : Method} {c : Code} {Hr : Heap} {locs : List Loc} {cells slots : Nat} {Q : State → Prop} {ls : Array Slot} {ρ : Nat → Nat} {τ : Nat → Value}, p.tables.exec = Jvm.exec → c.code = M.2.1 → ls[i]? = some (.val (g_cv ρ τ v)) → W p l e R s m args below meth c Hr locs cells slots Q (F0 m pc' ls (g_cv ρ τ v :: st.map (g_cv ρ τ))) → W p l e R s m args below meth c Hr locs cells slots Q (F0 m pc ls (st.map (g_cv ρ τ)))) : gG d M Rc Rs X pc n H L st kc ks := by
  intro p l e s m args below meth c dC dI dA τ A n0 ρ0 Q F hfl hX ρ Hr locs ls hR
  obtain ⟨r1, r2, r3, r4, r5, r6, r7, r8, r9⟩ := id hR
  obtain ⟨hx, hb, hml, hr, hown, hts, hlk, hnm, hK, hA, hN, hE, hτ0, hS⟩ := id F
  have hτ := g_roc hτ0
  exact hw hx hb (g_has_at r9 hl) (h p l e s m args below meth c dC dI dA τ A n0 ρ0 Q F hfl hX ρ Hr locs ls ⟨r1, r2, r3, r4, ⟨g_oL_lk hl r4, r5⟩, r6, r7, r8, r9⟩)
theorem gG_iconst {i : Int} {v : Int32} (hd : decode M.2.1 pc = .ok (.iconst i, 1)) (hv : Int32.ofInt i = v) (h : gG d M Rc Rs X (pc + 1) n H L (.int v :: st) kc ks) : gG d M Rc Rs X pc n H L (st) kc ks :=
  gG_stk h (fun o => ⟨trivial, o⟩) (fun hx hb hown hts hτ k => lv_iconst hx hb hd hv k)
theorem gG_bipush {i : Int} {v : Int32} (hd : decode M.2.1 pc = .ok (.bipush i, 2)) (hv : (Int8.ofInt i).toInt32 = v) (h : gG d M Rc Rs X (pc + 2) n H L (.int v :: st) kc ks) : gG d M Rc Rs X pc n H L (st) kc ks :=
  gG_stk h (fun o => ⟨trivial, o⟩) (fun hx hb hown hts hτ k => lv_bipush hx hb hd hv k)
theorem gG_sipush {i : Int} {v : Int32} (hd : decode M.2.1 pc = .ok (.sipush i, 3)) (hv : (Int16.ofInt i).toInt32 = v) (h : gG d M Rc Rs X (pc + 3) n H L (.int v :: st) kc ks) : gG d M Rc Rs X pc n H L (st) kc ks :=
  gG_stk h (fun o => ⟨trivial, o⟩) (fun hx hb hown hts hτ k => lv_sipush hx hb hd hv k)
theorem gG_lconst {i : Fin 2} {v : Int64} (hd : decode M.2.1 pc = .ok (.lconst i, 1)) (hv : Int64.ofNat (i : Nat) = v) (h : gG d M Rc Rs X (pc + 1) n H L (.long v :: st) kc ks) : gG d M Rc Rs X pc n H L (st) kc ks :=
  gG_stk h (fun o => ⟨trivial, o⟩) (fun hx hb hown hts hτ k => lv_lconst hx hb hd hv k)
theorem gG_ldc {idx : Nat} {v : Int32} (hd : decode M.2.1 pc = .ok (.ldc idx, 2)) (hc : Cond.constant M.1.cls idx v ∈ g_T) (h : gG d M Rc Rs X (pc + 2) n H L (.int v :: st) kc ks) : gG d M Rc Rs X pc n H L (st) kc ks :=
  gG_stk h (fun o => ⟨trivial, o⟩) (fun hx hb hown hts hτ k => lv_ldc hx hb hown (hts _ hc) hd k)
theorem gG_ldc_w {idx : Nat} {v : Int32} (hd : decode M.2.1 pc = .ok (.ldc_w idx, 3)) (hc : Cond.constant M.1.cls idx v ∈ g_T) (h : gG d M Rc Rs X (pc + 3) n H L (.int v :: st) kc ks) : gG d M Rc Rs X pc n H L (st) kc ks :=
  gG_stk h (fun o => ⟨trivial, o⟩) (fun hx hb hown hts hτ k => lv_ldcw hx hb hown (hts _ hc) hd k)
theorem gG_ldc2 {idx : Nat} {v : Int64} (hd : decode M.2.1 pc = .ok (.ldc2_w idx, 3)) (hc : Cond.constantLong M.1.cls idx v ∈ g_T) (h : gG d M Rc Rs X (pc + 3) n H L (.long v :: st) kc ks) : gG d M Rc Rs X pc n H L (st) kc ks :=
  gG_stk h (fun o => ⟨trivial, o⟩) (fun hx hb hown hts hτ k => lv_ldc2 hx hb hown (hts _ hc) hd k)
theorem gG_iadd {x y : Int32} (hd : decode M.2.1 pc = .ok (.iadd, 1)) (h : gG d M Rc Rs X (pc + 1) n H L (.int (x + y) :: st) kc ks) : gG d M Rc Rs X pc n H L (.int y :: .int x :: st) kc ks :=
  gG_stk h (fun o => ⟨trivial, o.2.2⟩) (fun hx hb hown hts hτ k => lv_iadd hx hb hd k)
theorem gG_isub {x y : Int32} (hd : decode M.2.1 pc = .ok (.isub, 1)) (h : gG d M Rc Rs X (pc + 1) n H L (.int (x - y) :: st) kc ks) : gG d M Rc Rs X pc n H L (.int y :: .int x :: st) kc ks :=
  gG_stk h (fun o => ⟨trivial, o.2.2⟩) (fun hx hb hown hts hτ k => lv_isub hx hb hd k)
theorem gG_imul {x y : Int32} (hd : decode M.2.1 pc = .ok (.imul, 1)) (h : gG d M Rc Rs X (pc + 1) n H L (.int (x * y) :: st) kc ks) : gG d M Rc Rs X pc n H L (.int y :: .int x :: st) kc ks :=
  gG_stk h (fun o => ⟨trivial, o.2.2⟩) (fun hx hb hown hts hτ k => lv_imul hx hb hd k)
theorem gG_iand {x y : Int32} (hd : decode M.2.1 pc = .ok (.iand, 1)) (h : gG d M Rc Rs X (pc + 1) n H L (.int (x &&& y) :: st) kc ks) : gG d M Rc Rs X pc n H L (.int y :: .int x :: st) kc ks :=
  gG_stk h (fun o => ⟨trivial, o.2.2⟩) (fun hx hb hown hts hτ k => lv_iand hx hb hd k)
theorem gG_ior {x y : Int32} (hd : decode M.2.1 pc = .ok (.ior, 1)) (h : gG d M Rc Rs X (pc + 1) n H L (.int (x ||| y) :: st) kc ks) : gG d M Rc Rs X pc n H L (.int y :: .int x :: st) kc ks :=
  gG_stk h (fun o => ⟨trivial, o.2.2⟩) (fun hx hb hown hts hτ k => lv_ior hx hb hd k)
theorem gG_ixor {x y : Int32} (hd : decode M.2.1 pc = .ok (.ixor, 1)) (h : gG d M Rc Rs X (pc + 1) n H L (.int (x ^^^ y) :: st) kc ks) : gG d M Rc Rs X pc n H L (.int y :: .int x :: st) kc ks :=
  gG_stk h (fun o => ⟨trivial, o.2.2⟩) (fun hx hb hown hts hτ k => lv_ixor hx hb hd k)
theorem gG_ishl {x y : Int32} (hd : decode M.2.1 pc = .ok (.ishl, 1)) (h : gG d M Rc Rs X (pc + 1) n H L (.int (x <<< (y &&& 31)) :: st) kc ks) : gG d M Rc Rs X pc n H L (.int y :: .int x :: st) kc ks :=
  gG_stk h (fun o => ⟨trivial, o.2.2⟩) (fun hx hb hown hts hτ k => lv_ishl hx hb hd k)
theorem gG_ishr {x y : Int32} (hd : decode M.2.1 pc = .ok (.ishr, 1)) (h : gG d M Rc Rs X (pc + 1) n H L (.int (x >>> (y &&& 31)) :: st) kc ks) : gG d M Rc Rs X pc n H L (.int y :: .int x :: st) kc ks :=
  gG_stk h (fun o => ⟨trivial, o.2.2⟩) (fun hx hb hown hts hτ k => lv_ishr hx hb hd k)
theorem gG_iushr {x y : Int32} (hd : decode M.2.1 pc = .ok (.iushr, 1)) (h : gG d M Rc Rs X (pc + 1) n H L (.int (x.toUInt32 >>> (y.toUInt32 &&& Int32.toUInt32 31)).toInt32 :: st) kc ks) : gG d M Rc Rs X pc n H L (.int y :: .int x :: st) kc ks :=
  gG_stk h (fun o => ⟨trivial, o.2.2⟩) (fun hx hb hown hts hτ k => lv_iushr hx hb hd rfl k)
theorem gG_idiv {x y : Int32} (hd : decode M.2.1 pc = .ok (.idiv, 1)) (hne : ¬ y = 0) (h : gG d M Rc Rs X (pc + 1) n H L (.int (x / y) :: st) kc ks) : gG d M Rc Rs X pc n H L (.int y :: .int x :: st) kc ks :=
  gG_stk h (fun o => ⟨trivial, o.2.2⟩) (fun hx hb hown hts hτ k => lv_idiv hx hb hd hne k)
theorem gG_irem {x y : Int32} (hd : decode M.2.1 pc = .ok (.irem, 1)) (hne : ¬ y = 0) (h : gG d M Rc Rs X (pc + 1) n H L (.int (x - x / y * y) :: st) kc ks) : gG d M Rc Rs X pc n H L (.int y :: .int x :: st) kc ks :=
  gG_stk h (fun o => ⟨trivial, o.2.2⟩) (fun hx hb hown hts hτ k => lv_irem hx hb hd hne k)
theorem gG_ineg {x : Int32} (hd : decode M.2.1 pc = .ok (.ineg, 1)) (h : gG d M Rc Rs X (pc + 1) n H L (.int (-x) :: st) kc ks) : gG d M Rc Rs X pc n H L (.int x :: st) kc ks :=
  gG_stk h (fun o => ⟨trivial, o.2⟩) (fun hx hb hown hts hτ k => lv_ineg hx hb hd k)
theorem gG_ladd {x y : Int64} (hd : decode M.2.1 pc = .ok (.ladd, 1)) (h : gG d M Rc Rs X (pc + 1) n H L (.long (x + y) :: st) kc ks) : gG d M Rc Rs X pc n H L (.long y :: .long x :: st) kc ks :=
  gG_stk h (fun o => ⟨trivial, o.2.2⟩) (fun hx hb hown hts hτ k => lv_ladd hx hb hd k)
theorem gG_lsub {x y : Int64} (hd : decode M.2.1 pc = .ok (.lsub, 1)) (h : gG d M Rc Rs X (pc + 1) n H L (.long (x - y) :: st) kc ks) : gG d M Rc Rs X pc n H L (.long y :: .long x :: st) kc ks :=
  gG_stk h (fun o => ⟨trivial, o.2.2⟩) (fun hx hb hown hts hτ k => lv_lsub hx hb hd k)
theorem gG_lmul {x y : Int64} (hd : decode M.2.1 pc = .ok (.lmul, 1)) (h : gG d M Rc Rs X (pc + 1) n H L (.long (x * y) :: st) kc ks) : gG d M Rc Rs X pc n H L (.long y :: .long x :: st) kc ks :=
  gG_stk h (fun o => ⟨trivial, o.2.2⟩) (fun hx hb hown hts hτ k => lv_lmul hx hb hd k)
theorem gG_land {x y : Int64} (hd : decode M.2.1 pc = .ok (.land, 1)) (h : gG d M Rc Rs X (pc + 1) n H L (.long (x &&& y) :: st) kc ks) : gG d M Rc Rs X pc n H L (.long y :: .long x :: st) kc ks :=
  gG_stk h (fun o => ⟨trivial, o.2.2⟩) (fun hx hb hown hts hτ k => lv_land hx hb hd k)
theorem gG_lor {x y : Int64} (hd : decode M.2.1 pc = .ok (.lor, 1)) (h : gG d M Rc Rs X (pc + 1) n H L (.long (x ||| y) :: st) kc ks) : gG d M Rc Rs X pc n H L (.long y :: .long x :: st) kc ks :=
  gG_stk h (fun o => ⟨trivial, o.2.2⟩) (fun hx hb hown hts hτ k => lv_lor hx hb hd k)
theorem gG_lxor {x y : Int64} (hd : decode M.2.1 pc = .ok (.lxor, 1)) (h : gG d M Rc Rs X (pc + 1) n H L (.long (x ^^^ y) :: st) kc ks) : gG d M Rc Rs X pc n H L (.long y :: .long x :: st) kc ks :=
  gG_stk h (fun o => ⟨trivial, o.2.2⟩) (fun hx hb hown hts hτ k => lv_lxor hx hb hd k)
theorem gG_ldiv {x y : Int64} (hd : decode M.2.1 pc = .ok (.ldiv, 1)) (hne : ¬ y = 0) (h : gG d M Rc Rs X (pc + 1) n H L (.long (x / y) :: st) kc ks) : gG d M Rc Rs X pc n H L (.long y :: .long x :: st) kc ks :=
  gG_stk h (fun o => ⟨trivial, o.2.2⟩) (fun hx hb hown hts hτ k => lv_ldiv hx hb hd hne k)
theorem gG_lrem {x y : Int64} (hd : decode M.2.1 pc = .ok (.lrem, 1)) (hne : ¬ y = 0) (h : gG d M Rc Rs X (pc + 1) n H L (.long (x - x / y * y) :: st) kc ks) : gG d M Rc Rs X pc n H L (.long y :: .long x :: st) kc ks :=
  gG_stk h (fun o => ⟨trivial, o.2.2⟩) (fun hx hb hown hts hτ k => lv_lrem hx hb hd hne k)
theorem gG_lshl {x : Int64} {y : Int32} (hd : decode M.2.1 pc = .ok (.lshl, 1)) (h : gG d M Rc Rs X (pc + 1) n H L (.long (x <<< (y.toInt64 &&& 63)) :: st) kc ks) : gG d M Rc Rs X pc n H L (.int y :: .long x :: st) kc ks :=
  gG_stk h (fun o => ⟨trivial, o.2.2⟩) (fun hx hb hown hts hτ k => lv_lshl hx hb hd rfl k)
theorem gG_lushr {x : Int64} {y : Int32} (hd : decode M.2.1 pc = .ok (.lushr, 1)) (h : gG d M Rc Rs X (pc + 1) n H L (.long (x.toUInt64 >>> (y.toInt64.toUInt64 &&& Int64.toUInt64 63)).toInt64 :: st) kc ks) : gG d M Rc Rs X pc n H L (.int y :: .long x :: st) kc ks :=
  gG_stk h (fun o => ⟨trivial, o.2.2⟩) (fun hx hb hown hts hτ k => lv_lushr hx hb hd rfl k)
theorem gG_lcmp {x y : Int64} (hd : decode M.2.1 pc = .ok (.lcmp, 1)) (h : gG d M Rc Rs X (pc + 1) n H L (.int (lg_cmp x y) :: st) kc ks) : gG d M Rc Rs X pc n H L (.long y :: .long x :: st) kc ks :=
  gG_stk h (fun o => ⟨trivial, o.2.2⟩) (fun hx hb hown hts hτ k => W.lcmp hx hb hd k)
theorem gG_i2l {x : Int32} (hd : decode M.2.1 pc = .ok (.i2l, 1)) (h : gG d M Rc Rs X (pc + 1) n H L (.long x.toInt64 :: st) kc ks) : gG d M Rc Rs X pc n H L (.int x :: st) kc ks :=
  gG_stk h (fun o => ⟨trivial, o.2⟩) (fun hx hb hown hts hτ k => lv_i2l hx hb hd rfl k)
theorem gG_l2i {x : Int64} (hd : decode M.2.1 pc = .ok (.l2i, 1)) (h : gG d M Rc Rs X (pc + 1) n H L (.int x.toInt32 :: st) kc ks) : gG d M Rc Rs X pc n H L (.long x :: st) kc ks :=
  gG_stk h (fun o => ⟨trivial, o.2⟩) (fun hx hb hown hts hτ k => lv_l2i hx hb hd rfl k)
theorem gG_i2c {x : Int32} (hd : decode M.2.1 pc = .ok (.i2c, 1)) (h : gG d M Rc Rs X (pc + 1) n H L (.int (x.toUInt32 % 65536).toInt32 :: st) kc ks) : gG d M Rc Rs X pc n H L (.int x :: st) kc ks :=
  gG_stk h (fun o => ⟨trivial, o.2⟩) (fun hx hb hown hts hτ k => lv_i2c hx hb hd rfl k)
theorem g_cat {ρ : Nat → Nat} {τ : Nat → Value} (hτ : ∀ k, (τ k).category = 1) {v : Value} (h : v.category = 1) : (g_cv ρ τ v).category = 1 := by
  cases v <;> first | rfl | exact hτ _ | (simp [Value.category] at h)
theorem gG_dup {v : Value} (hd : decode M.2.1 pc = .ok (.dup, 1)) (hc : v.category = 1) (h : gG d M Rc Rs X (pc + 1) n H L (v :: v :: st) kc ks) : gG d M Rc Rs X pc n H L (v :: st) kc ks :=
  gG_stk h (fun o => ⟨o.1, o⟩) (fun hx hb hown hts hτ k => lv_dup hx hb hd (g_cat hτ hc) k)
theorem gG_pop {v : Value} (hd : decode M.2.1 pc = .ok (.pop, 1)) (hc : v.category = 1) (h : gG d M Rc Rs X (pc + 1) n H L (st) kc ks) : gG d M Rc Rs X pc n H L (v :: st) kc ks :=
  gG_stk h (fun o => o.2) (fun hx hb hown hts hτ k => lv_pop hx hb hd (g_cat hτ hc) k)
theorem gG_dup2 {v u : Value} (hd : decode M.2.1 pc = .ok (.dup2, 1)) (hc : v.category = 1) (hc2 : u.category = 1) (h : gG d M Rc Rs X (pc + 1) n H L (v :: u :: v :: u :: st) kc ks) : gG d M Rc Rs X pc n H L (v :: u :: st) kc ks :=
  gG_stk h (fun o => ⟨o.1, o.2.1, o⟩) (fun hx hb hown hts hτ k => lv_dup2_11 hx hb hd (g_cat hτ hc) (g_cat hτ hc2) k)
theorem gG_goto {off : Int} {tgt : Nat} (hd : decode M.2.1 pc = .ok (.goto off, 3)) (ht : (pc : Int) + off = (tgt : Int)) (h : gG d M Rc Rs X (tgt) n H L (st) kc ks) : gG d M Rc Rs X pc n H L (st) kc ks :=
  gG_stk h (fun o => o) (fun hx hb hown hts hτ k => lv_goto hx hb hd ht k)
theorem gG_iload_n {j : Fin 4} {i : Nat} {x : Int32} (hd : decode M.2.1 pc = .ok (.iload_n j, 1)) (hi : (j : Nat) = i) (hl : g_lk L i = some (.int x)) (h : gG d M Rc Rs X (pc + 1) n H L (.int x :: st) kc ks) : gG d M Rc Rs X pc n H L st kc ks :=
  gG_ld hl h (fun hx hb hv k => lv_iload_n hx hb hd hi hv k)
theorem gG_iload {i : Nat} {x : Int32} (hd : decode M.2.1 pc = .ok (.iload i, 2)) (hl : g_lk L i = some (.int x)) (h : gG d M Rc Rs X (pc + 2) n H L (.int x :: st) kc ks) : gG d M Rc Rs X pc n H L st kc ks :=
  gG_ld hl h (fun hx hb hv k => lv_iload hx hb hd hv k)
theorem gG_lload_n {j : Fin 4} {i : Nat} {x : Int64} (hd : decode M.2.1 pc = .ok (.lload_n j, 1)) (hi : (j : Nat) = i) (hl : g_lk L i = some (.long x)) (h : gG d M Rc Rs X (pc + 1) n H L (.long x :: st) kc ks) : gG d M Rc Rs X pc n H L st kc ks :=
  gG_ld hl h (fun hx hb hv k => lv_lload_n hx hb hd hi hv k)
theorem gG_lload {i : Nat} {x : Int64} (hd : decode M.2.1 pc = .ok (.lload i, 2)) (hl : g_lk L i = some (.long x)) (h : gG d M Rc Rs X (pc + 2) n H L (.long x :: st) kc ks) : gG d M Rc Rs X pc n H L st kc ks :=
  gG_ld hl h (fun hx hb hv k => lv_lload hx hb hd hv k)
theorem gG_aload_n {j : Fin 4} {i : Nat} {x : Nat} (hd : decode M.2.1 pc = .ok (.aload_n j, 1)) (hi : (j : Nat) = i) (hl : g_lk L i = some (.ref x)) (h : gG d M Rc Rs X (pc + 1) n H L (.ref x :: st) kc ks) : gG d M Rc Rs X pc n H L st kc ks :=
  gG_ld hl h (fun hx hb hv k => lv_aload_n hx hb hd hi hv k)
theorem gG_aload {i : Nat} {x : Nat} (hd : decode M.2.1 pc = .ok (.aload i, 2)) (hl : g_lk L i = some (.ref x)) (h : gG d M Rc Rs X (pc + 2) n H L (.ref x :: st) kc ks) : gG d M Rc Rs X pc n H L st kc ks :=
  gG_ld hl h (fun hx hb hv k => lv_aload hx hb hd hv k)
theorem gG_istore_n {j : Fin 4} {i : Nat} {x : Int32} (hd : decode M.2.1 pc = .ok (.istore_n j, 1)) (hi : (j : Nat) = i) (hn : i < M.2.2.1) (h : gG d M Rc Rs X (pc + 1) n H (g_st L i (.int x)) st kc ks) : gG d M Rc Rs X pc n H L (.int x :: st) kc ks := by
  intro p l e s m args below meth c dC dI dA τ A n0 ρ0 Q F hfl hX ρ Hr locs ls hR
  obtain ⟨r1, r2, r3, r4, r5, r6, r7, r8, r9⟩ := id hR
  obtain ⟨hx, hb, hml, hr, hown, hts, hlk, hnm, hK, hA, hN, hE, hτ0, hS⟩ := id F
  have hτ := g_roc hτ0
  exact lv_istore_n hx hb hd hi r9 hn rfl (fun ls' h' => h p l e s m args below meth c dC dI dA τ A n0 ρ0 Q F hfl hX ρ Hr locs ls' ⟨r1, r2, r3, g_oL_st (n := n) (v := .int x) r5.1 r4, r5.2, r6, r7, r8, g_has_st (v := .int x) hτ h'⟩)
theorem gG_istore {i : Nat} {x : Int32} (hd : decode M.2.1 pc = .ok (.istore i, 2)) (hn : i < M.2.2.1) (h : gG d M Rc Rs X (pc + 2) n H (g_st L i (.int x)) st kc ks) : gG d M Rc Rs X pc n H L (.int x :: st) kc ks := by
  intro p l e s m args below meth c dC dI dA τ A n0 ρ0 Q F hfl hX ρ Hr locs ls hR
  obtain ⟨r1, r2, r3, r4, r5, r6, r7, r8, r9⟩ := id hR
  obtain ⟨hx, hb, hml, hr, hown, hts, hlk, hnm, hK, hA, hN, hE, hτ0, hS⟩ := id F
  have hτ := g_roc hτ0
  exact lv_istore hx hb hd r9 hn rfl (fun ls' h' => h p l e s m args below meth c dC dI dA τ A n0 ρ0 Q F hfl hX ρ Hr locs ls' ⟨r1, r2, r3, g_oL_st (n := n) (v := .int x) r5.1 r4, r5.2, r6, r7, r8, g_has_st (v := .int x) hτ h'⟩)
theorem gG_lstore_n {j : Fin 4} {i : Nat} {x : Int64} (hd : decode M.2.1 pc = .ok (.lstore_n j, 1)) (hi : (j : Nat) = i) (hn : i + 1 < M.2.2.1) (h : gG d M Rc Rs X (pc + 1) n H (g_un (g_st L i (.long x)) (i + 1)) st kc ks) : gG d M Rc Rs X pc n H L (.long x :: st) kc ks := by
  intro p l e s m args below meth c dC dI dA τ A n0 ρ0 Q F hfl hX ρ Hr locs ls hR
  obtain ⟨r1, r2, r3, r4, r5, r6, r7, r8, r9⟩ := id hR
  obtain ⟨hx, hb, hml, hr, hown, hts, hlk, hnm, hK, hA, hN, hE, hτ0, hS⟩ := id F
  have hτ := g_roc hτ0
  exact lv_lstore_n hx hb hd hi r9 hn rfl (fun ls' h' => h p l e s m args below meth c dC dI dA τ A n0 ρ0 Q F hfl hX ρ Hr locs ls' ⟨r1, r2, r3, g_oL_un (g_oL_st (n := n) (v := .long x) r5.1 r4), r5.2, r6, r7, r8, g_has_st2 (v := .long x) hτ h'⟩)
theorem gG_lstore {i : Nat} {x : Int64} (hd : decode M.2.1 pc = .ok (.lstore i, 2)) (hn : i + 1 < M.2.2.1) (h : gG d M Rc Rs X (pc + 2) n H (g_un (g_st L i (.long x)) (i + 1)) st kc ks) : gG d M Rc Rs X pc n H L (.long x :: st) kc ks := by
  intro p l e s m args below meth c dC dI dA τ A n0 ρ0 Q F hfl hX ρ Hr locs ls hR
  obtain ⟨r1, r2, r3, r4, r5, r6, r7, r8, r9⟩ := id hR
  obtain ⟨hx, hb, hml, hr, hown, hts, hlk, hnm, hK, hA, hN, hE, hτ0, hS⟩ := id F
  have hτ := g_roc hτ0
  exact lv_lstore hx hb hd r9 hn rfl (fun ls' h' => h p l e s m args below meth c dC dI dA τ A n0 ρ0 Q F hfl hX ρ Hr locs ls' ⟨r1, r2, r3, g_oL_un (g_oL_st (n := n) (v := .long x) r5.1 r4), r5.2, r6, r7, r8, g_has_st2 (v := .long x) hτ h'⟩)
theorem gG_astore_n {j : Fin 4} {i : Nat} {x : Nat} (hd : decode M.2.1 pc = .ok (.astore_n j, 1)) (hi : (j : Nat) = i) (hn : i < M.2.2.1) (h : gG d M Rc Rs X (pc + 1) n H (g_st L i (.ref x)) st kc ks) : gG d M Rc Rs X pc n H L (.ref x :: st) kc ks := by
  intro p l e s m args below meth c dC dI dA τ A n0 ρ0 Q F hfl hX ρ Hr locs ls hR
  obtain ⟨r1, r2, r3, r4, r5, r6, r7, r8, r9⟩ := id hR
  obtain ⟨hx, hb, hml, hr, hown, hts, hlk, hnm, hK, hA, hN, hE, hτ0, hS⟩ := id F
  have hτ := g_roc hτ0
  exact lv_astore_n hx hb hd hi r9 hn rfl (fun ls' h' => h p l e s m args below meth c dC dI dA τ A n0 ρ0 Q F hfl hX ρ Hr locs ls' ⟨r1, r2, r3, g_oL_st (n := n) (v := .ref x) r5.1 r4, r5.2, r6, r7, r8, g_has_st (v := .ref x) hτ h'⟩)
theorem gG_astore {i : Nat} {x : Nat} (hd : decode M.2.1 pc = .ok (.astore i, 2)) (hn : i < M.2.2.1) (h : gG d M Rc Rs X (pc + 2) n H (g_st L i (.ref x)) st kc ks) : gG d M Rc Rs X pc n H L (.ref x :: st) kc ks := by
  intro p l e s m args below meth c dC dI dA τ A n0 ρ0 Q F hfl hX ρ Hr locs ls hR
  obtain ⟨r1, r2, r3, r4, r5, r6, r7, r8, r9⟩ := id hR
  obtain ⟨hx, hb, hml, hr, hown, hts, hlk, hnm, hK, hA, hN, hE, hτ0, hS⟩ := id F
  have hτ := g_roc hτ0
  exact lv_astore hx hb hd r9 hn rfl (fun ls' h' => h p l e s m args below meth c dC dI dA τ A n0 ρ0 Q F hfl hX ρ Hr locs ls' ⟨r1, r2, r3, g_oL_st (n := n) (v := .ref x) r5.1 r4, r5.2, r6, r7, r8, g_has_st (v := .ref x) hτ h'⟩)
theorem gG_iinc {i : Nat} {z : Int} {x v : Int32} (hd : decode M.2.1 pc = .ok (.iinc i z, 3)) (hl : g_lk L i = some (.int x)) (hv : x + Int32.ofInt z = v) (hn : i < M.2.2.1) (h : gG d M Rc Rs X (pc + 3) n H (g_st L i (.int v)) st kc ks) : gG d M Rc Rs X pc n H L st kc ks := by
  intro p l e s m args below meth c dC dI dA τ A n0 ρ0 Q F hfl hX ρ Hr locs ls hR
  obtain ⟨r1, r2, r3, r4, r5, r6, r7, r8, r9⟩ := id hR
  obtain ⟨hx, hb, hml, hr, hown, hts, hlk, hnm, hK, hA, hN, hE, hτ0, hS⟩ := id F
  have hτ := g_roc hτ0
  obtain ⟨k, hk⟩ := List.getElem?_of_mem (g_L_lk (ρ := ρ) (τ := τ) (j := 0) hl)
  rw [Nat.zero_add] at hk
  exact lv_iinc hx hb hd r9 hk hv hn rfl (fun ls' h' => h p l e s m args below meth c dC dI dA τ A n0 ρ0 Q F hfl hX ρ Hr locs ls' ⟨r1, r2, r3, g_oL_st (n := n) (v := .int v) trivial r4, r5, r6, r7, r8, g_has_st (v := .int v) hτ h'⟩)
theorem gG_if_eq {x : Int32} {off : Int} {tgt : Nat} (hd : decode M.2.1 pc = .ok (.ifCond .eq off, 3)) (ht : (pc : Int) + off = (tgt : Int)) (kt : x = 0 → gG d M Rc Rs X tgt n H L st kc ks) (kf : ¬ x = 0 → gG d M Rc Rs X (pc + 3) n H L st kc ks) : gG d M Rc Rs X pc n H L (.int x :: st) kc ks := by
  intro p l e s m args below meth c dC dI dA τ A n0 ρ0 Q F hfl hX ρ Hr locs ls hR
  obtain ⟨r1, r2, r3, r4, r5, r6, r7, r8, r9⟩ := id hR
  obtain ⟨hx, hb, hml, hr, hown, hts, hlk, hnm, hK, hA, hN, hE, hτ0, hS⟩ := id F
  have hτ := g_roc hτ0
  exact lv_if_eq hx hb hd ht (fun z => kt z p l e s m args below meth c dC dI dA τ A n0 ρ0 Q F hfl hX ρ Hr locs ls ⟨r1, r2, r3, r4, r5.2, r6, r7, r8, r9⟩) (fun z => kf z p l e s m args below meth c dC dI dA τ A n0 ρ0 Q F hfl hX ρ Hr locs ls ⟨r1, r2, r3, r4, r5.2, r6, r7, r8, r9⟩)
theorem gG_if_ne {x : Int32} {off : Int} {tgt : Nat} (hd : decode M.2.1 pc = .ok (.ifCond .ne off, 3)) (ht : (pc : Int) + off = (tgt : Int)) (kt : ¬ x = 0 → gG d M Rc Rs X tgt n H L st kc ks) (kf : x = 0 → gG d M Rc Rs X (pc + 3) n H L st kc ks) : gG d M Rc Rs X pc n H L (.int x :: st) kc ks := by
  intro p l e s m args below meth c dC dI dA τ A n0 ρ0 Q F hfl hX ρ Hr locs ls hR
  obtain ⟨r1, r2, r3, r4, r5, r6, r7, r8, r9⟩ := id hR
  obtain ⟨hx, hb, hml, hr, hown, hts, hlk, hnm, hK, hA, hN, hE, hτ0, hS⟩ := id F
  have hτ := g_roc hτ0
  exact lv_if_ne hx hb hd ht (fun z => kt z p l e s m args below meth c dC dI dA τ A n0 ρ0 Q F hfl hX ρ Hr locs ls ⟨r1, r2, r3, r4, r5.2, r6, r7, r8, r9⟩) (fun z => kf z p l e s m args below meth c dC dI dA τ A n0 ρ0 Q F hfl hX ρ Hr locs ls ⟨r1, r2, r3, r4, r5.2, r6, r7, r8, r9⟩)
theorem gG_if_lt {x : Int32} {off : Int} {tgt : Nat} (hd : decode M.2.1 pc = .ok (.ifCond .lt off, 3)) (ht : (pc : Int) + off = (tgt : Int)) (kt : x < 0 → gG d M Rc Rs X tgt n H L st kc ks) (kf : ¬ x < 0 → gG d M Rc Rs X (pc + 3) n H L st kc ks) : gG d M Rc Rs X pc n H L (.int x :: st) kc ks := by
  intro p l e s m args below meth c dC dI dA τ A n0 ρ0 Q F hfl hX ρ Hr locs ls hR
  obtain ⟨r1, r2, r3, r4, r5, r6, r7, r8, r9⟩ := id hR
  obtain ⟨hx, hb, hml, hr, hown, hts, hlk, hnm, hK, hA, hN, hE, hτ0, hS⟩ := id F
  have hτ := g_roc hτ0
  exact lv_if_lt hx hb hd ht (fun z => kt z p l e s m args below meth c dC dI dA τ A n0 ρ0 Q F hfl hX ρ Hr locs ls ⟨r1, r2, r3, r4, r5.2, r6, r7, r8, r9⟩) (fun z => kf z p l e s m args below meth c dC dI dA τ A n0 ρ0 Q F hfl hX ρ Hr locs ls ⟨r1, r2, r3, r4, r5.2, r6, r7, r8, r9⟩)
theorem gG_if_ge {x : Int32} {off : Int} {tgt : Nat} (hd : decode M.2.1 pc = .ok (.ifCond .ge off, 3)) (ht : (pc : Int) + off = (tgt : Int)) (kt : 0 ≤ x → gG d M Rc Rs X tgt n H L st kc ks) (kf : ¬ 0 ≤ x → gG d M Rc Rs X (pc + 3) n H L st kc ks) : gG d M Rc Rs X pc n H L (.int x :: st) kc ks := by
  intro p l e s m args below meth c dC dI dA τ A n0 ρ0 Q F hfl hX ρ Hr locs ls hR
  obtain ⟨r1, r2, r3, r4, r5, r6, r7, r8, r9⟩ := id hR
  obtain ⟨hx, hb, hml, hr, hown, hts, hlk, hnm, hK, hA, hN, hE, hτ0, hS⟩ := id F
  have hτ := g_roc hτ0
  exact lv_if_ge hx hb hd ht (fun z => kt z p l e s m args below meth c dC dI dA τ A n0 ρ0 Q F hfl hX ρ Hr locs ls ⟨r1, r2, r3, r4, r5.2, r6, r7, r8, r9⟩) (fun z => kf z p l e s m args below meth c dC dI dA τ A n0 ρ0 Q F hfl hX ρ Hr locs ls ⟨r1, r2, r3, r4, r5.2, r6, r7, r8, r9⟩)
theorem gG_if_gt {x : Int32} {off : Int} {tgt : Nat} (hd : decode M.2.1 pc = .ok (.ifCond .gt off, 3)) (ht : (pc : Int) + off = (tgt : Int)) (kt : 0 < x → gG d M Rc Rs X tgt n H L st kc ks) (kf : ¬ 0 < x → gG d M Rc Rs X (pc + 3) n H L st kc ks) : gG d M Rc Rs X pc n H L (.int x :: st) kc ks := by
  intro p l e s m args below meth c dC dI dA τ A n0 ρ0 Q F hfl hX ρ Hr locs ls hR
  obtain ⟨r1, r2, r3, r4, r5, r6, r7, r8, r9⟩ := id hR
  obtain ⟨hx, hb, hml, hr, hown, hts, hlk, hnm, hK, hA, hN, hE, hτ0, hS⟩ := id F
  have hτ := g_roc hτ0
  exact lv_if_gt hx hb hd ht (fun z => kt z p l e s m args below meth c dC dI dA τ A n0 ρ0 Q F hfl hX ρ Hr locs ls ⟨r1, r2, r3, r4, r5.2, r6, r7, r8, r9⟩) (fun z => kf z p l e s m args below meth c dC dI dA τ A n0 ρ0 Q F hfl hX ρ Hr locs ls ⟨r1, r2, r3, r4, r5.2, r6, r7, r8, r9⟩)
theorem gG_if_le {x : Int32} {off : Int} {tgt : Nat} (hd : decode M.2.1 pc = .ok (.ifCond .le off, 3)) (ht : (pc : Int) + off = (tgt : Int)) (kt : x ≤ 0 → gG d M Rc Rs X tgt n H L st kc ks) (kf : ¬ x ≤ 0 → gG d M Rc Rs X (pc + 3) n H L st kc ks) : gG d M Rc Rs X pc n H L (.int x :: st) kc ks := by
  intro p l e s m args below meth c dC dI dA τ A n0 ρ0 Q F hfl hX ρ Hr locs ls hR
  obtain ⟨r1, r2, r3, r4, r5, r6, r7, r8, r9⟩ := id hR
  obtain ⟨hx, hb, hml, hr, hown, hts, hlk, hnm, hK, hA, hN, hE, hτ0, hS⟩ := id F
  have hτ := g_roc hτ0
  exact lv_if_le hx hb hd ht (fun z => kt z p l e s m args below meth c dC dI dA τ A n0 ρ0 Q F hfl hX ρ Hr locs ls ⟨r1, r2, r3, r4, r5.2, r6, r7, r8, r9⟩) (fun z => kf z p l e s m args below meth c dC dI dA τ A n0 ρ0 Q F hfl hX ρ Hr locs ls ⟨r1, r2, r3, r4, r5.2, r6, r7, r8, r9⟩)
theorem gG_ic_eq {x y : Int32} {off : Int} {tgt : Nat} (hd : decode M.2.1 pc = .ok (.if_icmp .eq off, 3)) (ht : (pc : Int) + off = (tgt : Int)) (kt : x = y → gG d M Rc Rs X tgt n H L st kc ks) (kf : ¬ x = y → gG d M Rc Rs X (pc + 3) n H L st kc ks) : gG d M Rc Rs X pc n H L (.int y :: .int x :: st) kc ks := by
  intro p l e s m args below meth c dC dI dA τ A n0 ρ0 Q F hfl hX ρ Hr locs ls hR
  obtain ⟨r1, r2, r3, r4, r5, r6, r7, r8, r9⟩ := id hR
  obtain ⟨hx, hb, hml, hr, hown, hts, hlk, hnm, hK, hA, hN, hE, hτ0, hS⟩ := id F
  have hτ := g_roc hτ0
  exact lv_icmp_eq hx hb hd ht (fun z => kt z p l e s m args below meth c dC dI dA τ A n0 ρ0 Q F hfl hX ρ Hr locs ls ⟨r1, r2, r3, r4, r5.2.2, r6, r7, r8, r9⟩) (fun z => kf z p l e s m args below meth c dC dI dA τ A n0 ρ0 Q F hfl hX ρ Hr locs ls ⟨r1, r2, r3, r4, r5.2.2, r6, r7, r8, r9⟩)
theorem gG_ic_ne {x y : Int32} {off : Int} {tgt : Nat} (hd : decode M.2.1 pc = .ok (.if_icmp .ne off, 3)) (ht : (pc : Int) + off = (tgt : Int)) (kt : ¬ x = y → gG d M Rc Rs X tgt n H L st kc ks) (kf : x = y → gG d M Rc Rs X (pc + 3) n H L st kc ks) : gG d M Rc Rs X pc n H L (.int y :: .int x :: st) kc ks := by
  intro p l e s m args below meth c dC dI dA τ A n0 ρ0 Q F hfl hX ρ Hr locs ls hR
  obtain ⟨r1, r2, r3, r4, r5, r6, r7, r8, r9⟩ := id hR
  obtain ⟨hx, hb, hml, hr, hown, hts, hlk, hnm, hK, hA, hN, hE, hτ0, hS⟩ := id F
  have hτ := g_roc hτ0
  exact lv_icmp_ne hx hb hd ht (fun z => kt z p l e s m args below meth c dC dI dA τ A n0 ρ0 Q F hfl hX ρ Hr locs ls ⟨r1, r2, r3, r4, r5.2.2, r6, r7, r8, r9⟩) (fun z => kf z p l e s m args below meth c dC dI dA τ A n0 ρ0 Q F hfl hX ρ Hr locs ls ⟨r1, r2, r3, r4, r5.2.2, r6, r7, r8, r9⟩)
theorem gG_ic_lt {x y : Int32} {off : Int} {tgt : Nat} (hd : decode M.2.1 pc = .ok (.if_icmp .lt off, 3)) (ht : (pc : Int) + off = (tgt : Int)) (kt : x < y → gG d M Rc Rs X tgt n H L st kc ks) (kf : ¬ x < y → gG d M Rc Rs X (pc + 3) n H L st kc ks) : gG d M Rc Rs X pc n H L (.int y :: .int x :: st) kc ks := by
  intro p l e s m args below meth c dC dI dA τ A n0 ρ0 Q F hfl hX ρ Hr locs ls hR
  obtain ⟨r1, r2, r3, r4, r5, r6, r7, r8, r9⟩ := id hR
  obtain ⟨hx, hb, hml, hr, hown, hts, hlk, hnm, hK, hA, hN, hE, hτ0, hS⟩ := id F
  have hτ := g_roc hτ0
  exact lv_icmp_lt hx hb hd ht (fun z => kt z p l e s m args below meth c dC dI dA τ A n0 ρ0 Q F hfl hX ρ Hr locs ls ⟨r1, r2, r3, r4, r5.2.2, r6, r7, r8, r9⟩) (fun z => kf z p l e s m args below meth c dC dI dA τ A n0 ρ0 Q F hfl hX ρ Hr locs ls ⟨r1, r2, r3, r4, r5.2.2, r6, r7, r8, r9⟩)
theorem gG_ic_ge {x y : Int32} {off : Int} {tgt : Nat} (hd : decode M.2.1 pc = .ok (.if_icmp .ge off, 3)) (ht : (pc : Int) + off = (tgt : Int)) (kt : y ≤ x → gG d M Rc Rs X tgt n H L st kc ks) (kf : ¬ y ≤ x → gG d M Rc Rs X (pc + 3) n H L st kc ks) : gG d M Rc Rs X pc n H L (.int y :: .int x :: st) kc ks := by
  intro p l e s m args below meth c dC dI dA τ A n0 ρ0 Q F hfl hX ρ Hr locs ls hR
  obtain ⟨r1, r2, r3, r4, r5, r6, r7, r8, r9⟩ := id hR
  obtain ⟨hx, hb, hml, hr, hown, hts, hlk, hnm, hK, hA, hN, hE, hτ0, hS⟩ := id F
  have hτ := g_roc hτ0
  exact lv_icmp_ge hx hb hd ht (fun z => kt z p l e s m args below meth c dC dI dA τ A n0 ρ0 Q F hfl hX ρ Hr locs ls ⟨r1, r2, r3, r4, r5.2.2, r6, r7, r8, r9⟩) (fun z => kf z p l e s m args below meth c dC dI dA τ A n0 ρ0 Q F hfl hX ρ Hr locs ls ⟨r1, r2, r3, r4, r5.2.2, r6, r7, r8, r9⟩)
theorem gG_ic_gt {x y : Int32} {off : Int} {tgt : Nat} (hd : decode M.2.1 pc = .ok (.if_icmp .gt off, 3)) (ht : (pc : Int) + off = (tgt : Int)) (kt : y < x → gG d M Rc Rs X tgt n H L st kc ks) (kf : ¬ y < x → gG d M Rc Rs X (pc + 3) n H L st kc ks) : gG d M Rc Rs X pc n H L (.int y :: .int x :: st) kc ks := by
  intro p l e s m args below meth c dC dI dA τ A n0 ρ0 Q F hfl hX ρ Hr locs ls hR
  obtain ⟨r1, r2, r3, r4, r5, r6, r7, r8, r9⟩ := id hR
  obtain ⟨hx, hb, hml, hr, hown, hts, hlk, hnm, hK, hA, hN, hE, hτ0, hS⟩ := id F
  have hτ := g_roc hτ0
  exact lv_icmp_gt hx hb hd ht (fun z => kt z p l e s m args below meth c dC dI dA τ A n0 ρ0 Q F hfl hX ρ Hr locs ls ⟨r1, r2, r3, r4, r5.2.2, r6, r7, r8, r9⟩) (fun z => kf z p l e s m args below meth c dC dI dA τ A n0 ρ0 Q F hfl hX ρ Hr locs ls ⟨r1, r2, r3, r4, r5.2.2, r6, r7, r8, r9⟩)
theorem gG_ic_le {x y : Int32} {off : Int} {tgt : Nat} (hd : decode M.2.1 pc = .ok (.if_icmp .le off, 3)) (ht : (pc : Int) + off = (tgt : Int)) (kt : x ≤ y → gG d M Rc Rs X tgt n H L st kc ks) (kf : ¬ x ≤ y → gG d M Rc Rs X (pc + 3) n H L st kc ks) : gG d M Rc Rs X pc n H L (.int y :: .int x :: st) kc ks := by
  intro p l e s m args below meth c dC dI dA τ A n0 ρ0 Q F hfl hX ρ Hr locs ls hR
  obtain ⟨r1, r2, r3, r4, r5, r6, r7, r8, r9⟩ := id hR
  obtain ⟨hx, hb, hml, hr, hown, hts, hlk, hnm, hK, hA, hN, hE, hτ0, hS⟩ := id F
  have hτ := g_roc hτ0
  exact lv_icmp_le hx hb hd ht (fun z => kt z p l e s m args below meth c dC dI dA τ A n0 ρ0 Q F hfl hX ρ Hr locs ls ⟨r1, r2, r3, r4, r5.2.2, r6, r7, r8, r9⟩) (fun z => kf z p l e s m args below meth c dC dI dA τ A n0 ρ0 Q F hfl hX ρ Hr locs ls ⟨r1, r2, r3, r4, r5.2.2, r6, r7, r8, r9⟩)
theorem gG_tableIn {dflt lo hi : Int} {offs : Array Int} {len : Nat} {x : Int32} {off : Int} {tgt : Nat} (hd : decode M.2.1 pc = .ok (.tableswitch dflt lo hi offs, len)) (h1 : ¬ x.toInt < lo) (h2 : ¬ hi < x.toInt) (ho : offs[(x.toInt - lo).toNat]? = some off) (ht : (pc : Int) + off = (tgt : Int)) (h : gG d M Rc Rs X (tgt) n H L (st) kc ks) : gG d M Rc Rs X pc n H L (.int x :: st) kc ks :=
  gG_stk h (fun o => o.2) (fun hx hb hown hts hτ k => lv_tableIn hx hb hd h1 h2 ho ht k)
theorem gG_tableOut {dflt lo hi : Int} {offs : Array Int} {len : Nat} {x : Int32} {tgt : Nat} (hd : decode M.2.1 pc = .ok (.tableswitch dflt lo hi offs, len)) (h1 : x.toInt < lo ∨ hi < x.toInt) (ht : (pc : Int) + dflt = (tgt : Int)) (h : gG d M Rc Rs X (tgt) n H L (st) kc ks) : gG d M Rc Rs X pc n H L (.int x :: st) kc ks :=
  gG_stk h (fun o => o.2) (fun hx hb hown hts hτ k => lv_tableOut hx hb hd h1 ht k)
end GR
