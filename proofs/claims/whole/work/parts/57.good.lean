/-! HOW BOTH STAND BESIDE EACH OTHER -/
/-- lines, what, where, how much -/
abbrev aD : Type := Nat × (Nat → Nat) × (Nat → Nat) × (Nat → Int32)
def dX (S : gS) (d : Nat) (D : aD) : Prop := sI S d 0 = N D.1 ∧ ∀ i, i < D.1 → sR S (d + 1) i = N (D.2.1 i) ∧ (D.2.1 i ≠ 0 → sR S (d + 2) i = N (D.2.2.1 i)) ∧ (D.2.1 i = 1 → sR S (d + 3) i = D.2.2.2 i)
def dM (S : gS) (j : Nat) (D : aD) : Prop := sR S 207 j = N D.1 ∧ ∀ i, i < D.1 → sR S 208 (40 * j + i) = N (D.2.1 i) ∧ (D.2.1 i ≠ 0 → sR S 209 (40 * j + i) = N (D.2.2.1 i)) ∧ (D.2.1 i = 1 → sR S 210 (40 * j + i) = D.2.2.2 i)
def okD (n : Nat) (D : aD) : Prop := D.1 ≤ 40 ∧ ∀ i, i < D.1 → D.2.1 i ≤ 3 ∧ (D.2.1 i ≠ 0 → D.2.2.1 i < n) ∧ (D.2.1 i = 1 → 1 ≤ (D.2.2.2 i).toInt ∧ (D.2.2.2 i).toInt ≤ 20)
abbrev aO : Type := Nat × (Nat → Nat)
def oX (S : gS) (w : Nat) (W : aO) : Prop := sI S w 0 = N W.1 ∧ ∀ i, i < W.1 → sR S (w + 1) i = N (W.2 i)
def oM (S : gS) (j : Nat) (W : aO) : Prop := sR S 211 j = N W.1 ∧ ∀ i, i < W.1 → sR S 212 (7 * j + i) = N (W.2 i)
def okO (n : Nat) (W : aO) : Prop := W.1 ≤ 7 ∧ ∀ i, i < W.1 → W.2 i < n
abbrev aE : Type := Nat × (Nat → Nat) × (Nat → Bool)
def eX (S : gS) (s : Nat) (E : aE) : Prop := sI S s 0 = N E.1 ∧ ∀ i, i < E.1 → sR S (s + 1) i = N (E.2.1 i) ∧ sR S (s + 2) i = g_b (E.2.2 i)
def eM (S : gS) (j : Nat) (E : aE) : Prop := sR S 213 j = N E.1 ∧ ∀ i, i < E.1 → sR S 214 (8 * j + i) = N (E.2.1 i) ∧ sR S 215 (8 * j + i) = g_b (E.2.2 i)
def okE (n : Nat) (E : aE) : Prop := E.1 ≤ 8 ∧ ∀ i, i < E.1 → E.2.1 i < n
/-- a name by its letters, 1 to 26 -/
def e32 : List Nat → Nat
  | [] => 0
  | a :: l => e32 l * 32 + a
def e27 : List Nat → Nat
  | [] => 0
  | a :: l => e27 l * 27 + a
/-- letters, the last one first -/
def okN (l : List Nat) : Prop := l.length ≤ 8 ∧ ∀ a, a ∈ l → 1 ≤ a ∧ a ≤ 26
def nX (S : gS) (f : Nat) (F : aF) (mn ln : Nat → List Nat) : Prop := (∀ i, i < fN F → sL S (f + 1) i = Int64.ofNat (e32 (mn i))) ∧ (∀ i, i < fL F → sL S (f + 8) i = Int64.ofNat (e32 (ln i)))
def nM (S : gS) (F : aF) (mn ln : Nat → List Nat) : Prop := (∀ i, i < fN F → sL S 183 i = Int64.ofNat (e27 (mn i))) ∧ (∀ i, i < fL F → sL S 184 i = Int64.ofNat (e27 (ln i)))
def okNs (F : aF) (mn ln : Nat → List Nat) : Prop := (∀ i, i < fN F → okN (mn i)) ∧ (∀ i, i < fL F → okN (ln i))
def gQ (S : gS) (f d w : Nat) : Prop := sQ S 3 = f ∧ sQ S 4 = 26 - f ∧ (f = 6 ∨ f = 20) ∧ sQ S 5 = d ∧ sQ S 6 = 72 - d ∧ (d = 34 ∨ d = 38) ∧ sQ S 7 = w ∧ sQ S 8 = 86 - w ∧ (w = 42 ∨ w = 44)
/-- what can be undone: p the next place, n how many -/
def pX (S : gS) (F : aF) (c p n : Nat) : Prop := p < 16 ∧ n ≤ 16 ∧ sI S 0 13 = N p ∧ sI S 0 14 = N n ∧ sI S 180 53 = N n ∧ ∀ i, i < n → ∃ A, rX S (58 + 4 * ((p + 16 - n + i) % 16)) A ∧ rM S 220 (59 * i) A ∧ okW F c A
def kX (S : gS) (F : aF) (c : Nat) : Prop := ∀ j, j < 4 → ∃ b : Bool, sI S (123 + 14 * j) 0 = g_b b ∧ sR S 221 j = g_b b ∧ (b = true → ∃ A D W E, rX S (123 + 14 * j + 1) A ∧ rM S 219 (59 * j) A ∧ okW F c A ∧ dX S (123 + 14 * j + 5) D ∧ dM S (1 + j) D ∧ okD (fN F) D ∧ oX S (123 + 14 * j + 9) W ∧ oM S (1 + j) W ∧ okO (fL F) W ∧ eX S (123 + 14 * j + 11) E ∧ eM S (1 + j) E ∧ okE (fN F) E)
def okC (k : Nat) : Prop := k = 10 ∨ 32 ≤ k ∧ k ≤ 126
def tX (S : gS) (t : Nat) (ch : Nat → Nat) : Prop := t ≤ 1000 ∧ sI S 1 1 = N t ∧ sI S 180 1 = N t ∧ ∀ i, i < t → okC (ch i) ∧ sR S 2 i = N (ch i) ∧ sR S 181 i = N (ch i)
/-- with all that stands for it -/
def GO (c : Nat) (S : gS) (f d w : Nat) (F : aF) (mn ln : Nat → List Nat) (A : aW) (D : aD) (W : aO) (E : aE) (p n t : Nat) (ch : Nat → Nat) : Prop :=
  gQ S f d w ∧ (fX S f F ∧ fMo S F ∧ okF F) ∧ (nX S f F mn ln ∧ nM S F mn ln ∧ okNs F mn ln) ∧ (rX S 49 A ∧ rM S 216 0 A ∧ okW F c A) ∧ (dX S d D ∧ dM S 0 D ∧ okD (fN F) D) ∧ (oX S w W ∧ oM S 0 W ∧ okO (fL F) W) ∧ (eX S 46 E ∧ eM S 0 E ∧ okE (fN F) E) ∧ pX S F c p n ∧ kX S F c ∧ tX S t ch
def Good (c : Nat) (S : gS) : Prop := ∃ f d w F mn ln A D W E p n t ch, GO c S f d w F mn ln A D W E p n t ch
/-- all that calls of x may leave as they like -/
abbrev xS : List Nat := [53, 54, 55, 56, 19, 33, 179]
/-- and those of the model -/
abbrev mS : List Nat := [197, 198, 199, 200, 201, 202, 203, 204, 205, 206, 216, 217, 218, 223, 224]
def keepM (S S' : gS) : Prop := fm mS S S' ∧ ∀ j, j < 59 → sR S' 216 j = sR S 216 j
theorem rX_eq {S S' : gS} {w : Nat} {A : aW} (h : rX S w A) (hI : ∀ k, sI S' w k = sI S w k) (h1 : sR S' (w + 1) = sR S (w + 1)) (h2 : sR S' (w + 2) = sR S (w + 2)) (h3 : sR S' (w + 3) = sR S (w + 3)) : rX S' w A := by
  unfold rX at h ⊢
  rw [hI, hI, hI, hI, hI, h1, h2, h3]; exact h
theorem rX_fr {L : List Nat} {S S' : gS} {w : Nat} {A : aW} (h : rX S w A) (hS : fr L S S') (hl : ∀ j, j < 4 → w + j ∉ L) : rX S' w A :=
  rX_eq h (frI hS (hl 0 (by omega))) (frR hS (hl 1 (by omega))) (frR hS (hl 2 (by omega))) (frR hS (hl 3 (by omega)))
theorem rM_eq {S S' : gS} {b o : Nat} {A : aW} (h : rM S b o A) (hz : wSz A ≤ 40) (hR : ∀ k, k < 59 → sR S' b (o + k) = sR S b (o + k)) : rM S' b o A := by
  obtain ⟨a1, a2, a3, a4, a5, a6, a7, a8⟩ := h
  have h0 := hR 0 (by omega)
  rw [Nat.add_zero] at h0
  refine ⟨h0.trans a1, (hR 1 (by omega)).trans a2, fun i hi => ?_, fun i hi => ?_, (hR 2 (by omega)).trans a5, (hR 3 (by omega)).trans a6, (hR 4 (by omega)).trans a7, fun i hi => ?_⟩
  · have := hR (5 + i) (by omega)
    rw [← Nat.add_assoc] at this
    exact this.trans (a3 i hi)
  · have := hR (12 + i) (by omega)
    rw [← Nat.add_assoc] at this
    exact this.trans (a4 i hi)
  · have := hR (19 + i) (by omega)
    rw [← Nat.add_assoc] at this
    exact this.trans (a8 i hi)
theorem dX_fr {L : List Nat} {S S' : gS} {d : Nat} {D : aD} (h : dX S d D) (hS : fr L S S') (hl : ∀ j, j < 4 → d + j ∉ L) : dX S' d D := by
  unfold dX at h ⊢
  have e : sI S' d 0 = sI S d 0 := frI hS (hl 0 (by omega)) 0
  rw [e, frR hS (hl 1 (by omega)), frR hS (hl 2 (by omega)), frR hS (hl 3 (by omega))]; exact h
theorem oX_fr {L : List Nat} {S S' : gS} {d : Nat} {D : aO} (h : oX S d D) (hS : fr L S S') (hl : ∀ j, j < 2 → d + j ∉ L) : oX S' d D := by
  unfold oX at h ⊢
  have e : sI S' d 0 = sI S d 0 := frI hS (hl 0 (by omega)) 0
  rw [e, frR hS (hl 1 (by omega))]; exact h
theorem eX_fr {L : List Nat} {S S' : gS} {d : Nat} {D : aE} (h : eX S d D) (hS : fr L S S') (hl : ∀ j, j < 3 → d + j ∉ L) : eX S' d D := by
  unfold eX at h ⊢
  have e : sI S' d 0 = sI S d 0 := frI hS (hl 0 (by omega)) 0
  rw [e, frR hS (hl 1 (by omega)), frR hS (hl 2 (by omega))]; exact h
theorem nX_fr {L : List Nat} {S S' : gS} {f : Nat} {F : aF} {mn ln : Nat → List Nat} (h : nX S f F mn ln) (hS : fr L S S') (hl : ∀ j, j ≤ 12 → f + j ∉ L) : nX S' f F mn ln := by
  unfold nX at h ⊢
  rw [frL hS (hl 1 (by omega)), frL hS (hl 8 (by omega))]; exact h
theorem xSn {b : Nat} (h : b ≠ 19 ∧ b ≠ 33 ∧ b ≠ 179 ∧ ¬ (53 ≤ b ∧ b ≤ 56)) : b ∉ xS := by
  simp only [List.mem_cons, List.not_mem_nil, or_false]; omega
theorem mSn {b : Nat} (h : b < 197 ∨ 207 ≤ b ∧ b < 216 ∨ 219 ≤ b ∧ b ≤ 222 ∨ 225 ≤ b) : b ∉ mS := by
  simp only [List.mem_cons, List.not_mem_nil, or_false]; omega
/-- the model's things when x alone has done something -/
theorem fMo_x {S S' : gS} {F : aF} (h : fMo S F) (hR : ∀ b, 180 ≤ b → sR S' b = sR S b) : fMo S' F := by
  obtain ⟨a1, a2, a3, a4, a5, a6, a7⟩ := h
  refine ⟨?_, ?_, ?_, fun i hi => ?_, fun i hi => ?_, fun i hi => ?_, lawM_fr a7 (hR _ (by omega)) (hR _ (by omega)) (hR _ (by omega))⟩
  · rw [hR _ (by omega)]; exact a1
  · rw [hR _ (by omega)]; exact a2
  · rw [hR _ (by omega)]; exact a3
  · rw [hR 185 (by omega), hR 186 (by omega), hR 187 (by omega), hR 188 (by omega), hR 189 (by omega), hR 222 (by omega)]
    exact a4 i hi
  · rw [hR _ (by omega)]; exact a5 i hi
  · rw [hR _ (by omega)]; exact a6 i hi
theorem rM_x {S S' : gS} {b o : Nat} {A : aW} (h : rM S b o A) (hR : sR S' b = sR S b) : rM S' b o A := by
  unfold rM at h ⊢; rw [hR]; exact h
theorem GO_x {c : Nat} {S S' : gS} {f d w : Nat} {F : aF} {mn ln : Nat → List Nat} {A : aW} {D : aD} {W : aO} {E : aE} {p n t : Nat} {ch : Nat → Nat} (h : GO c S f d w F mn ln A D W E p n t ch) (hS : fr xS S S') : GO c S' f d w F mn ln A D W E p n t ch := by
  obtain ⟨q, ⟨f1, f2, f3⟩, ⟨n1, n2, n3⟩, ⟨r1, r2, r3⟩, ⟨d1, d2, d3⟩, ⟨o1, o2, o3⟩, ⟨e1, e2, e3⟩, pp, kk, tt⟩ := h
  have hR : ∀ b, 180 ≤ b → sR S' b = sR S b := fun b hb => frR hS (xSn (by omega))
  have hI : ∀ b, 180 ≤ b → ∀ k, sI S' b k = sI S b k := fun b hb => frI hS (xSn (by omega))
  have hL : ∀ b, 180 ≤ b → sL S' b = sL S b := fun b hb => frL hS (xSn (by omega))
  have hQ := frQ hS
  have hf := q.2.2.1
  have hd := q.2.2.2.2.2.1
  have hw := q.2.2.2.2.2.2.2.2
  refine ⟨?_, ⟨fX_fr f1 hS (fun j hj => xSn (by omega)), fMo_x f2 hR, f3⟩, ⟨nX_fr n1 hS (fun j hj => xSn (by omega)), ?_, n3⟩, ⟨rX_fr r1 hS (fun j hj => xSn (by omega)), rM_x r2 (hR _ (by omega)), r3⟩, ⟨dX_fr d1 hS (fun j hj => xSn (by omega)), ?_, d3⟩, ⟨oX_fr o1 hS (fun j hj => xSn (by omega)), ?_, o3⟩, ⟨eX_fr e1 hS (fun j hj => xSn (by omega)), ?_, e3⟩, ?_, ?_, ?_⟩
  · unfold gQ at q ⊢; rw [hQ]; exact q
  · unfold nM at n2 ⊢; rw [hL _ (by omega), hL _ (by omega)]; exact n2
  · unfold dM at d2 ⊢; rw [hR _ (by omega), hR _ (by omega), hR _ (by omega), hR _ (by omega)]; exact d2
  · unfold oM at o2 ⊢; rw [hR _ (by omega), hR _ (by omega)]; exact o2
  · unfold eM at e2 ⊢; rw [hR _ (by omega), hR _ (by omega), hR _ (by omega)]; exact e2
  · obtain ⟨p1, p2, p3, p4, p5, p6⟩ := pp
    refine ⟨p1, p2, (frI hS (xSn (by omega)) 13).trans p3, (frI hS (xSn (by omega)) 14).trans p4, (hI _ (by omega) _).trans p5, fun i hi => ?_⟩
    obtain ⟨B, b1, b2, b3⟩ := p6 i hi
    exact ⟨B, rX_fr b1 hS (fun j hj => xSn (by omega)), rM_x b2 (hR _ (by omega)), b3⟩
  · intro j hj
    obtain ⟨b, b1, b2, b3⟩ := kk j hj
    refine ⟨b, (frI hS (xSn (by omega)) 0).trans b1, ?_, fun hb => ?_⟩
    · rw [hR _ (by omega)]; exact b2
    · obtain ⟨A1, D1, W1, E1, z1, z2, z3, z4, z5, z6, z7, z8, z9, z10, z11, z12⟩ := b3 hb
      refine ⟨A1, D1, W1, E1, rX_fr z1 hS (fun i hi => xSn (by omega)), rM_x z2 (hR _ (by omega)), z3, dX_fr z4 hS (fun i hi => xSn (by omega)), ?_, z6, oX_fr z7 hS (fun i hi => xSn (by omega)), ?_, z9, eX_fr z10 hS (fun i hi => xSn (by omega)), ?_, z12⟩
      · unfold dM at z5 ⊢; rw [hR _ (by omega), hR _ (by omega), hR _ (by omega), hR _ (by omega)]; exact z5
      · unfold oM at z8 ⊢; rw [hR _ (by omega), hR _ (by omega)]; exact z8
      · unfold eM at z11 ⊢; rw [hR _ (by omega), hR _ (by omega), hR _ (by omega)]; exact z11
  · obtain ⟨t1, t2, t3, t4⟩ := tt
    refine ⟨t1, (frI hS (xSn (by omega)) 1).trans t2, (hI _ (by omega) _).trans t3, ?_⟩
    rw [hR 181 (by omega), frR hS (b := 2) (xSn (by omega))]; exact t4
theorem GO_m {c : Nat} {S S' : gS} {f d w : Nat} {F : aF} {mn ln : Nat → List Nat} {A : aW} {D : aD} {W : aO} {E : aE} {p n t : Nat} {ch : Nat → Nat} (h : GO c S f d w F mn ln A D W E p n t ch) (hM : keepM S S') : GO c S' f d w F mn ln A D W E p n t ch := by
  obtain ⟨q, ⟨f1, f2, f3⟩, ⟨n1, n2, n3⟩, ⟨r1, r2, r3⟩, ⟨d1, d2, d3⟩, ⟨o1, o2, o3⟩, ⟨e1, e2, e3⟩, pp, kk, tt⟩ := h
  obtain ⟨⟨hS, h1, h53⟩, h216⟩ := hM
  have nn : ∀ b, b ≠ 180 ∧ (b < 197 ∨ 207 ≤ b ∧ b < 216 ∨ 219 ≤ b ∧ b ≤ 222 ∨ 225 ≤ b) → b ∉ 180 :: mS := by
    intro b hb
    simp only [List.mem_cons, List.not_mem_nil, or_false]; omega
  have hR : ∀ b, b ≠ 180 ∧ (b < 197 ∨ 207 ≤ b ∧ b < 216 ∨ 219 ≤ b ∧ b ≤ 222 ∨ 225 ≤ b) → sR S' b = sR S b := fun b hb => frR hS (nn b hb)
  have hL : ∀ b, b ≠ 180 ∧ (b < 197 ∨ 207 ≤ b ∧ b < 216 ∨ 219 ≤ b ∧ b ≤ 222 ∨ 225 ≤ b) → sL S' b = sL S b := fun b hb => frL hS (nn b hb)
  have hQ := frQ hS
  have hf := q.2.2.1
  have hd := q.2.2.2.2.2.1
  have hw := q.2.2.2.2.2.2.2.2
  refine ⟨?_, ⟨fX_fr f1 hS (fun j hj => nn _ (by omega)), fMo_fm f2 ⟨hS, h1, h53⟩ (fun b hb => mSn (by omega)), f3⟩, ⟨nX_fr n1 hS (fun j hj => nn _ (by omega)), ?_, n3⟩, ⟨rX_fr r1 hS (fun j hj => nn _ (by omega)), rM_eq r2 r3.1 (fun k hk => by rw [Nat.zero_add]; exact h216 k hk), r3⟩, ⟨dX_fr d1 hS (fun j hj => nn _ (by omega)), ?_, d3⟩, ⟨oX_fr o1 hS (fun j hj => nn _ (by omega)), ?_, o3⟩, ⟨eX_fr e1 hS (fun j hj => nn _ (by omega)), ?_, e3⟩, ?_, ?_, ?_⟩
  · unfold gQ at q ⊢; rw [hQ]; exact q
  · unfold nM at n2 ⊢; rw [hL _ (by omega), hL _ (by omega)]; exact n2
  · unfold dM at d2 ⊢; rw [hR _ (by omega), hR _ (by omega), hR _ (by omega), hR _ (by omega)]; exact d2
  · unfold oM at o2 ⊢; rw [hR _ (by omega), hR _ (by omega)]; exact o2
  · unfold eM at e2 ⊢; rw [hR _ (by omega), hR _ (by omega), hR _ (by omega)]; exact e2
  · obtain ⟨p1, p2, p3, p4, p5, p6⟩ := pp
    refine ⟨p1, p2, (frI hS (nn _ (by omega)) 13).trans p3, (frI hS (nn _ (by omega)) 14).trans p4, h53.trans p5, fun i hi => ?_⟩
    obtain ⟨B, b1, b2, b3⟩ := p6 i hi
    exact ⟨B, rX_fr b1 hS (fun j hj => nn _ (by omega)), rM_x b2 (hR _ (by omega)), b3⟩
  · intro j hj
    obtain ⟨b, b1, b2, b3⟩ := kk j hj
    refine ⟨b, (frI hS (nn _ (by omega)) 0).trans b1, ?_, fun hb => ?_⟩
    · rw [hR _ (by omega)]; exact b2
    · obtain ⟨A1, D1, W1, E1, z1, z2, z3, z4, z5, z6, z7, z8, z9, z10, z11, z12⟩ := b3 hb
      refine ⟨A1, D1, W1, E1, rX_fr z1 hS (fun i hi => nn _ (by omega)), rM_x z2 (hR _ (by omega)), z3, dX_fr z4 hS (fun i hi => nn _ (by omega)), ?_, z6, oX_fr z7 hS (fun i hi => nn _ (by omega)), ?_, z9, eX_fr z10 hS (fun i hi => nn _ (by omega)), ?_, z12⟩
      · unfold dM at z5 ⊢; rw [hR _ (by omega), hR _ (by omega), hR _ (by omega), hR _ (by omega)]; exact z5
      · unfold oM at z8 ⊢; rw [hR _ (by omega), hR _ (by omega)]; exact z8
      · unfold eM at z11 ⊢; rw [hR _ (by omega), hR _ (by omega), hR _ (by omega)]; exact z11
  · obtain ⟨t1, t2, t3, t4⟩ := tt
    refine ⟨t1, (frI hS (nn _ (by omega)) 1).trans t2, h1.trans t3, ?_⟩
    rw [hR 181 (by omega), frR hS (nn 2 (by omega))]; exact t4
theorem GO_c {c c' : Nat} (hc : c ≤ c') {S : gS} {f d w : Nat} {F : aF} {mn ln : Nat → List Nat} {A : aW} {D : aD} {W : aO} {E : aE} {p n t : Nat} {ch : Nat → Nat} (h : GO c S f d w F mn ln A D W E p n t ch) : GO c' S f d w F mn ln A D W E p n t ch := by
  obtain ⟨q, ff, nn, ⟨r1, r2, r3⟩, dd, oo, ee, pp, kk, tt⟩ := h
  refine ⟨q, ff, nn, ⟨r1, r2, okW_mo r3 hc⟩, dd, oo, ee, ?_, ?_, tt⟩
  · obtain ⟨p1, p2, p3, p4, p5, p6⟩ := pp
    refine ⟨p1, p2, p3, p4, p5, fun i hi => ?_⟩
    obtain ⟨B, b1, b2, b3⟩ := p6 i hi
    exact ⟨B, b1, b2, okW_mo b3 hc⟩
  · intro j hj
    obtain ⟨b, b1, b2, b3⟩ := kk j hj
    refine ⟨b, b1, b2, fun hb => ?_⟩
    obtain ⟨A1, D1, W1, E1, z1, z2, z3, zz⟩ := b3 hb
    exact ⟨A1, D1, W1, E1, z1, z2, okW_mo z3 hc, zz⟩
/-- a question: both answer the same, and all stands as it did -/
theorem ask {c : Nat} {S : gS} {α : Type} {FX : gS → Option (gS × α)} {FM : gS → Option (gS × α)} (hG : Good c S)
    (h : ∀ f d w F mn ln A D W E p n t ch, GO c S f d w F mn ln A D W E p n t ch → ∃ r, wp (FX S) (fun q => fr xS S q.1 ∧ q.2 = r) ∧ ∀ S1, GO c S1 f d w F mn ln A D W E p n t ch → wp (FM S1) (fun q => keepM S1 q.1 ∧ q.2 = r)) :
    ∃ S1 S2 r, FX S = some (S1, r) ∧ FM S1 = some (S2, r) ∧ Good (c + 1) S2 := by
  obtain ⟨f, d, w, F, mn, ln, A, D, W, E, p, n, t, ch, g⟩ := hG
  obtain ⟨r, ⟨⟨S1, r1⟩, x1, x2, x3⟩, hm⟩ := h f d w F mn ln A D W E p n t ch g
  have g1 := GO_x g x2
  obtain ⟨⟨S2, r2⟩, y1, y2, y3⟩ := hm S1 g1
  have e1 : r1 = r := x3
  have e2 : r2 = r := y3
  subst e1; subst e2
  exact ⟨S1, S2, r2, x1, y1, f, d, w, F, mn, ln, A, D, W, E, p, n, t, ch, GO_c (by omega) (GO_m g1 y2)⟩
