/-! x begins anew; front -/
abbrev bgL (d w : Nat) : List Nat := [49, 50, 51, d, w, 46, 0, 123, 137, 151, 165]
theorem xBg42 {S0 : gS} {L : List Nat} (hL : 123 ∈ L ∧ 137 ∈ L ∧ 151 ∈ L ∧ 165 ∈ L) : ∀ m i k S, i + m = 4 → m + 1 ≤ k → fr L S0 S → (∀ b j, ¬ (123 ≤ b) → sI S b j = sI S0 b j) → (∀ b, sR S b = sR S0 b) → (∀ j, j < i → sI S (123 + 14 * j) 0 = 0) → wp (fX11_beginAnew k 42 S (N i)) (fun Z => fr L S0 Z ∧ (∀ b j, ¬ (123 ≤ b) → sI Z b j = sI S0 b j) ∧ (∀ b, sR Z b = sR S0 b) ∧ ∀ j, j < 4 → sI Z (123 + 14 * j) 0 = 0) := by
  intro m
  induction m with
  | zero =>
    intro i k S hi hk hS hI hR h
    obtain ⟨k, rfl, -⟩ := kS (m := 0) (k := k) hk
    rw [fX11_beginAnew]
    simp only [if_true, bX11_beginAnew_42]
    rw [if_pos (show (4 : Int32) ≤ N i from (leN (a := 4) (by omega) (by omega)).mpr (by omega)), wp_some]
    exact ⟨hS, hI, hR, fun j hj => h j (by omega)⟩
  | succ m ih =>
    intro i k S hi hk hS hI hR h
    obtain ⟨k, rfl, hk'⟩ := kS (k := k) (m := m + 1) hk
    have hm : 123 + 14 * i ∈ L := by
      rcases (show i = 0 ∨ i = 1 ∨ i = 2 ∨ i = 3 by omega) with rfl | rfl | rfl | rfl
      · exact hL.1
      · exact hL.2.1
      · exact hL.2.2.1
      · exact hL.2.2.2
    rw [fX11_beginAnew]
    simp only [if_true, bX11_beginAnew_42]
    rw [if_neg (show ¬ (4 : Int32) ≤ N i from fun e => absurd ((leN (a := 4) (by omega) (by omega)).mp e) (by omega)), if_pos (vpN (by omega) (by omega)), clN (by omega), wp_lt, addN1, show g_b false = (0 : Int32) from rfl]
    refine ih (i + 1) k _ (by omega) hk' (fr_uI hS hm) (fun b j hb => by rw [I_uI, if_neg (by omega)]; exact hI b j hb) hR (fun j hj => ?_)
    rw [I_uI]
    by_cases c : j = i
    · rw [if_pos ⟨by rw [c], rfl⟩]
    · rw [if_neg (by omega)]; exact h j (by omega)
theorem xBgA {S : gS} {f d w : Nat} {F : aF} (q3 : sQ S 3 = f) (hf : f = 6 ∨ f = 20) (q5 : sQ S 5 = d) (hd : d = 34 ∨ d = 38) (q7 : sQ S 7 = w) (hw : w = 42 ∨ w = 44) (hn : sI S f 0 = N (fN F)) (hk : ∀ i, i < fN F → sR S (f + 2) i = fK F i) (h7 : fN F ≤ 7) : wp (FX11_beginAnew S) (fun Z => fr (bgL d w) S Z ∧ rX Z 49 (aFresh F) ∧ sI Z d 0 = 0 ∧ sI Z w 0 = 0 ∧ sI Z 46 0 = 0 ∧ sI Z 0 14 = 0 ∧ sI Z 0 13 = sI S 0 13 ∧ ∀ j, j < 4 → sI Z (123 + 14 * j) 0 = 0) := by
  unfold FX11_beginAnew
  rw [q3, if_pos (show isFb f = true by rcases hf with e | e <;> rw [e] <;> rfl), wp_b1]
  refine wp_mono (xBegin (w := 49) hn hk h7 (by omega)) ?_
  rintro U ⟨u1, u2⟩
  have n3 : ∀ b, ¬ (49 ≤ b ∧ b ≤ 51) → b ∉ [49, 49 + 1, 49 + 2] := by intro b hb; simp only [List.mem_cons, List.not_mem_nil, or_false]; omega
  have eQ : sQ U = sQ S := frQ u1
  rw [eQ, q5, if_pos (show isDb d = true by rcases hd with e | e <;> rw [e] <;> rfl), wp_lt]
  have eQ2 : sQ (uI U d 0 0) 7 = w := by show sQ U 7 = w; rw [eQ, q7]
  rw [eQ2, if_pos (show isWdb w = true by rcases hw with e | e <;> rw [e] <;> rfl), wp_lt, wp_lt, wp_lt]
  generalize hV : uI (uI (uI (uI U d 0 0) w 0 0) 46 0 0) 0 14 0 = V
  have vd : sI V d 0 = 0 := by rw [← hV, I_uI, if_neg (by omega), I_uI, if_neg (by omega), I_uI, if_neg (by omega), I_self]
  have vw : sI V w 0 = 0 := by rw [← hV, I_uI, if_neg (by omega), I_uI, if_neg (by omega), I_self]
  have v46 : sI V 46 0 = 0 := by rw [← hV, I_uI, if_neg (by omega), I_self]
  have v14 : sI V 0 14 = 0 := by rw [← hV, I_self]
  have v13 : sI V 0 13 = sI S 0 13 := by rw [← hV, I_uI, if_neg (by omega), I_uI, if_neg (by omega), I_uI, if_neg (by omega), I_uI, if_neg (by omega), frI u1 (n3 0 (by omega))]
  have v49 : ∀ j, sI V 49 j = sI U 49 j := by intro j; rw [← hV, I_uI, if_neg (by omega), I_uI, if_neg (by omega), I_uI, if_neg (by omega), I_uI, if_neg (by omega)]
  have vR : ∀ b, sR V b = sR U b := by intro b; rw [← hV]; rfl
  have vF : fr (bgL d w) S V := by
    rw [← hV]
    exact fr_uI (fr_uI (fr_uI (fr_uI (fr_mo u1 (by intro b hb; simp only [List.mem_cons, List.not_mem_nil, or_false] at hb ⊢; omega)) (by simp)) (by simp)) (by simp)) (by simp)
  clear hV
  refine wp_mono (xBg42 (S0 := V) (L := bgL d w) ⟨by simp, by simp, by simp, by simp⟩ 4 0 FU V (by omega) (by unfold FU; omega) fr_rf (fun _ _ _ => rfl) (fun _ => rfl) (fun j hj => by omega)) ?_
  rintro Z ⟨z1, z2, z3, z4⟩
  refine ⟨fr_tr vF z1, rX_eq u2 (fun j => (z2 49 j (by omega)).trans (v49 j)) ((z3 _).trans (vR _)) ((z3 _).trans (vR _)) ((z3 _).trans (vR _)), (z2 d 0 (by omega)).trans vd, (z2 w 0 (by omega)).trans vw, (z2 46 0 (by omega)).trans v46, (z2 0 14 (by omega)).trans v14, (z2 0 13 (by omega)).trans v13, z4⟩
theorem GX_f {S S' : gS} {f d w : Nat} {F : aF} {mn ln : Nat → List Nat} {A : aW} {D : aD} {W : aO} {E : aE} {p n : Nat} {P : Nat → aW} {K : Nat → aK} {t : Nat} {ch : Nat → Nat} (x : GX S f d w F mn ln A D W E p n P K t ch) (hS : fr (lF (26 - f)) S S') (h1 : sI S' 1 1 = N 0) : GX S' f d w F mn ln A D W E p n P K 0 ch := by
  obtain ⟨x1, x2, x3, x4, x5, x6, x7, x8, x11, x12⟩ := x
  have hf := x1.2.2.1
  have hd := x1.2.2.2.2.2.1
  have hw := x1.2.2.2.2.2.2.2.2
  have nl : ∀ b, ¬ (b = 1 ∨ 26 - f ≤ b ∧ b ≤ 26 - f + 12) → b ∉ lF (26 - f) := by intro b h hb; simp only [List.mem_cons, List.not_mem_nil, or_false] at hb; omega
  refine ⟨?_, fX_fr x2 hS (fun j hj => nl _ (by omega)), nX_fr x3 hS (fun j hj => nl _ (by omega)), rX_fr x4 hS (fun j hj => nl _ (by omega)), dX_fr x5 hS (fun j hj => nl _ (by omega)), oX_fr x6 hS (fun j hj => nl _ (by omega)), eX_fr x7 hS (fun j hj => nl _ (by omega)), ⟨(frI hS (nl _ (by omega)) 13).trans x8.1, (frI hS (nl _ (by omega)) 14).trans x8.2.1, fun i hi => rX_fr (x8.2.2 i hi) hS (fun j hj => nl _ (by omega))⟩, fun j hj => ⟨(frI hS (nl _ (by omega)) 0).trans (x11 j hj).1, fun hb => ?_⟩, h1, fun i hi => absurd hi (by omega)⟩
  · unfold gQ at x1 ⊢; rw [frQ hS]; exact x1
  · obtain ⟨a1, a2, a3, a4⟩ := (x11 j hj).2 hb
    exact ⟨rX_fr a1 hS (fun i hi => nl _ (by omega)), dX_fr a2 hS (fun i hi => nl _ (by omega)), oX_fr a3 hS (fun i hi => nl _ (by omega)), eX_fr a4 hS (fun i hi => nl _ (by omega))⟩
/-- a front read, told -/
theorem fX_of {S : gS} {f : Nat} {B : aB} (hf : f = 6 ∨ f = 20) (k : okB B) (h : dbX S f B) : fX S f (bdF B) ∧ nX S f (bdF B) (bdM B) (bdL B) := by
  obtain ⟨a1, a2, a3, a4, a5, a6, a7, a8, a9, a10⟩ := h
  refine ⟨⟨hf, a1, a2, a3, a4, a5, a6, ?_⟩, a9, a10⟩
  rcases k.2.2.1 with ⟨l1, l2, l3⟩ | ⟨l1, l2, l3, l4, l5, l6⟩
  · rw [l3]; rw [l1] at a7; exact xLawN hf a7
  · exact xLawS hf l1 l3 a7 a8 l5
theorem dbX_fr {S U : gS} {L : List Nat} {f : Nat} {B : aB} (h : dbX S f B) (hU : fr L S U) (hl : ∀ j, j ≤ 12 → f + j ∉ L) : dbX U f B := by
  obtain ⟨a1, a2, a3, a4, a5, a6, a7, a8, a9, a10⟩ := h
  have e0 : ∀ j, sI U f j = sI S f j := fun j => frI hU (hl 0 (by omega)) j
  refine ⟨(e0 0).trans a1, fun i hi => ?_, (e0 8).trans a3, fun i hi => ?_, (e0 11).trans a5, fun i hi => ?_, (frI hU (hl 11 (by omega)) 1).trans a7, ?_, fun i hi => ?_, fun i hi => ?_⟩
  · rw [frR hU (hl 2 (by omega)), frR hU (hl 3 (by omega)), frR hU (hl 4 (by omega)), frR hU (hl 5 (by omega)), frR hU (hl 6 (by omega)), frR hU (hl 7 (by omega))]; exact a2 i hi
  · rw [frR hU (hl 9 (by omega))]; exact a4 i hi
  · rw [frR hU (hl 10 (by omega))]; exact a6 i hi
  · rw [frR hU (hl 12 (by omega))]; exact a8
  · rw [frL hU (hl 1 (by omega))]; exact a9 i hi
  · rw [frL hU (hl 8 (by omega))]; exact a10 i hi
theorem op_front {c : Nat} : Ob_front (Good c) (Good (c + 1)) := by
  intro S hG
  refine deed (FX := fun S => FX11_front S) (FM := fun S => FX12_front S) hG ?_
  intro f d w F mn ln A D W E p n P K t ch x m k
  have kt := k.2.2.2.2.2.2.2.2
  have hT : okT (t, ch) := kt
  have xt : rwX S (t, ch) := x.2.2.2.2.2.2.2.2.2
  have q := x.1
  have qf := q.2.2.1
  have qd := q.2.2.2.2.2.1
  have qw := q.2.2.2.2.2.2.2.2
  have okf := k.1
  have hx := xFront (S := S) (T := (t, ch)) (f := 26 - f) hT xt (by omega)
  have hok := (lnAll_ok (T := (t, ch)) hT 1001 aB0 (skB (t, ch) 0) (skB_le (Nat.zero_le _)) okB0)
  have hm := fun S1 (hs : sM S S1) => mFrontA (m S1 hs) okf hT
  generalize lnAll (t, ch) 1001 aB0 (skB (t, ch) 0) = R at hx hok hm
  unfold FX11_front
  rw [q.2.1, if_pos (show isFb (26 - f) = true by rcases qf with e | e <;> rw [e] <;> rfl), wp_b2]
  refine wp_mono hx ?_
  rintro ⟨S1, r⟩ ⟨a1, a2, a3, a4⟩
  dsimp only at a1 a2 a3 a4 ⊢
  have hl : ∀ b, b ∈ lF (26 - f) → b < 180 := by intro b hb; simp only [List.mem_cons, List.not_mem_nil, or_false] at hb; omega
  have hsM : sM S S1 := fr_sM a1 hl
  obtain ⟨b1, b2, b3, b4, b5, b6, b7, b8, b9⟩ := k
  have t0 : (0 : Nat) ≤ 1000 ∧ ∀ i, i < 0 → okC (ch i) := ⟨by omega, fun i hi => absurd hi (by omega)⟩
  have eQ : sQ S1 = sQ S := frQ a1
  by_cases e : R.1 = 0
  · obtain ⟨kB1, kB2, kB3, kB4, kB5⟩ := id hok.2
    have f1 := a4 e
    rw [a3, if_pos (show N R.1 = (0 : Int32) by rw [e]; rfl), eQ, q.1, if_pos (show isFb f = true by rcases qf with e | e <;> rw [e] <;> rfl), q.2.1, if_pos (show isFb (26 - f) = true by rcases qf with e | e <;> rw [e] <;> rfl), wp_lt, wp_lt, wp_b1]
    generalize hV : uQ (uQ S1 3 (26 - f)) 4 f = V
    have vQ3 : sQ V 3 = 26 - f := by rw [← hV, Q_uQ, if_neg (by omega), Q_uQ, if_pos rfl]
    have vQ4 : sQ V 4 = f := by rw [← hV, Q_uQ, if_pos rfl]
    have vQ : ∀ j, j ≠ 3 → j ≠ 4 → sQ V j = sQ S j := by intro j h3 h4; rw [← hV, Q_uQ, if_neg h4, Q_uQ, if_neg h3, eQ]
    have vI : sI V = sI S1 := by rw [← hV]; rfl
    have vR : sR V = sR S1 := by rw [← hV]; rfl
    have vL : sL V = sL S1 := by rw [← hV]; rfl
    have vsM : sM S1 V := by rw [← hV]; exact fun b hb => ⟨rfl, rfl, rfl⟩
    clear hV
    have f2 : dbX V (26 - f) R.2 := by
      unfold dbX at f1 ⊢
      rw [vI, vR, vL]; exact f1
    refine wp_mono (xBgA (f := 26 - f) (d := d) (w := w) (F := bdF R.2) vQ3 (by omega) (by rw [vQ 5 (by omega) (by omega)]; exact q.2.2.2.1) qd (by rw [vQ 7 (by omega) (by omega)]; exact q.2.2.2.2.2.2.1) qw f2.1 (fun i hi => (f2.2.1 i hi).1) kB1.1) ?_
    rintro Z ⟨z1, z2, z3, z4, z5, z6, z7, z8⟩
    rw [wp_some]
    have nb : ∀ b, ¬ (49 ≤ b ∧ b ≤ 51 ∨ b = d ∨ b = w ∨ b = 46 ∨ b = 0 ∨ 123 ≤ b) → b ∉ bgL d w := by intro b h hb; simp only [List.mem_cons, List.not_mem_nil, or_false] at hb; omega
    have hlb : ∀ b, b ∈ bgL d w → b < 180 := by intro b hb; simp only [List.mem_cons, List.not_mem_nil, or_false] at hb; omega
    have zsM : sM S Z := sM_tr (sM_tr hsM vsM) (fr_sM z1 hlb)
    have zB := dbX_fr f2 z1 (fun j hj => nb _ (by omega))
    obtain ⟨zX, zN⟩ := fX_of (by omega) hok.2 zB
    have zQ : sQ Z = sQ V := frQ z1
    have z11 : sI Z 1 1 = N 0 := by rw [frI z1 (nb 1 (by omega)), vI, a2]; rfl
    have z13 : sI Z 0 13 = N p := by
      rw [z7, vI, frI a1 (show 0 ∉ lF (26 - f) by simp only [List.mem_cons, List.not_mem_nil, or_false]; omega)]
      exact x.2.2.2.2.2.2.2.1.1
    refine ⟨zsM, 26 - f, d, w, bdF R.2, bdM R.2, bdL R.2, aFresh (bdF R.2), aD0, aO0, aE0, p, 0, P, fun j => (false, (K j).2), 0, ch, ⟨⟨?_, ?_, by omega, ?_, ?_, qd, ?_, ?_, qw⟩, zX, zN, z2, ⟨z3, fun i hi => absurd hi (Nat.not_lt_zero i)⟩, ⟨z4, fun i hi => absurd hi (Nat.not_lt_zero i)⟩, ⟨z5, fun i hi => absurd hi (Nat.not_lt_zero i)⟩, ⟨z13, z6, fun i hi => absurd hi (Nat.not_lt_zero i)⟩, fun j hj => ⟨z8 j hj, fun h => absurd h Bool.false_ne_true⟩, z11, fun i hi => absurd hi (Nat.not_lt_zero i)⟩, ⟨kB1, kB2, okFresh, ⟨by dsimp only; omega, fun i hi => absurd hi (Nat.not_lt_zero i)⟩, ⟨by dsimp only; omega, fun i hi => absurd hi (Nat.not_lt_zero i)⟩, ⟨by dsimp only; omega, fun i hi => absurd hi (Nat.not_lt_zero i)⟩, ⟨b7.1, by omega, fun i hi => absurd hi (Nat.not_lt_zero i)⟩, fun j hj h => absurd h Bool.false_ne_true, t0⟩, ?_⟩
    · rw [zQ]; exact vQ3
    · rw [zQ, vQ4]; omega
    · rw [zQ, vQ 5 (by omega) (by omega)]; exact q.2.2.2.1
    · rw [zQ, vQ 6 (by omega) (by omega)]; exact q.2.2.2.2.1
    · rw [zQ, vQ 7 (by omega) (by omega)]; exact q.2.2.2.2.2.2.1
    · rw [zQ, vQ 8 (by omega) (by omega)]; exact q.2.2.2.2.2.2.2.1
    · refine wp_mono (hm Z zsM) ?_
      rintro ⟨S2, y⟩ ⟨c1, c2, c3, c4⟩
      exact ⟨c1, c3 e, c2⟩
  · rw [a3, if_neg (show ¬ N R.1 = (0 : Int32) from fun h => e ((eq0N (by have := hok.1; omega)).mp h)), wp_some]
    dsimp only
    have k1 := GK_c (c' := c + 1) (by omega) (show GK c F mn ln A D W E p n P K t ch from ⟨b1, b2, b3, b4, b5, b6, b7, b8, b9⟩)
    obtain ⟨g1, g2, g3, g4, g5, g6, g7, g8, g9⟩ := k1
    refine ⟨hsM, f, d, w, F, mn, ln, A, D, W, E, p, n, P, K, 0, ch, GX_f x a1 (by rw [a2]; rfl), ⟨g1, g2, g3, g4, g5, g6, g7, g8, t0⟩, ?_⟩
    refine wp_mono (hm _ hsM) ?_
    rintro ⟨S2, y⟩ ⟨c1, c2, c3, c4⟩
    exact ⟨c1, c4 e, c2⟩
