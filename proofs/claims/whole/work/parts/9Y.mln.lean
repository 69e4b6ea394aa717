/-! the model reads the lines of a front -/
abbrev fB : List Nat := [180, 182, 183, 184, 185, 186, 187, 188, 189, 190, 191, 192, 193, 194, 195, 196]
/-- cells of the front that is told -/
def pz (r : Nat) : Nat := if r = 182 then 3 else if 185 ≤ r ∧ r ≤ 189 then 7 else if r = 190 then 6 else if r = 191 then 12 else if r = 192 ∨ r = 193 then 1 else if r = 194 then 1000 else 0
def pl (r : Nat) : Nat := if r = 183 then 7 else if r = 184 then 6 else 0
def mFr (S S' : gS) : Prop := fr fB S S' ∧ (∀ k, ¬ (k = 4 ∨ k = 5 ∨ k = 6 ∨ k = 8 ∨ k = 9 ∨ k = 23 ∨ k = 36) → sI S' 180 k = sI S 180 k) ∧ (∀ r j, j < pz r → sR S' r j = sR S r j) ∧ ∀ r j, j < pl r → sL S' r j = sL S r j
theorem mFr_rf {S : gS} : mFr S S := ⟨fr_rf, fun _ _ => rfl, fun _ _ _ => rfl, fun _ _ _ => rfl⟩
theorem mFr_tr {S S1 S2 : gS} (h : mFr S S1) (h' : mFr S1 S2) : mFr S S2 := ⟨fr_tr h.1 h'.1, fun k hk => (h'.2.1 k hk).trans (h.2.1 k hk), fun r j hj => (h'.2.2.1 r j hj).trans (h.2.2.1 r j hj), fun r j hj => (h'.2.2.2 r j hj).trans (h.2.2.2 r j hj)⟩
theorem mFr_R {S S' : gS} {r k : Nat} {x : Int32} (h : mFr S S') (hr : r ∈ fB) (hk : pz r ≤ k) : mFr S (uR S' r k x) :=
  ⟨fr_uR h.1 hr, h.2.1, fun r' j hj => by rw [R_uR, if_neg (fun e => by rw [e.1, e.2] at hj; omega)]; exact h.2.2.1 r' j hj, h.2.2.2⟩
theorem mFr_L {S S' : gS} {r k : Nat} {x : Int64} (h : mFr S S') (hr : r ∈ fB) (hk : pl r ≤ k) : mFr S (uL S' r k x) :=
  ⟨fr_uL h.1 hr, h.2.1, h.2.2.1, fun r' j hj => by rw [L_uL, if_neg (fun e => by rw [e.1, e.2] at hj; omega)]; exact h.2.2.2 r' j hj⟩
theorem mFr_I {S S' : gS} {k : Nat} {x : Int32} (h : mFr S S') (hk : k = 9 ∨ k = 23 ∨ k = 36) : mFr S (uI S' 180 k x) :=
  ⟨fr_uI h.1 (by simp), fun j hj => by rw [I_uI, if_neg (by omega)]; exact h.2.1 j hj, h.2.2.1, h.2.2.2⟩
theorem pz180 : pz 180 = 0 := rfl
theorem mFr_2 {S S' : gS} (h : fr [180] S S') (hI : ∀ k, ¬ (k = 4 ∨ k = 5 ∨ k = 6 ∨ k = 8 ∨ k = 9 ∨ k = 36) → sI S' 180 k = sI S 180 k) : mFr S S' := by
  have n1 : ∀ b, b ≠ 180 → b ∉ [180] := by intro b hb; simp only [List.mem_cons, List.not_mem_nil, or_false]; omega
  refine ⟨fr_mo h (by intro b hb; simp only [List.mem_cons, List.not_mem_nil, or_false] at hb ⊢; omega), fun k hk => hI k (by omega), fun r j hj => ?_, fun r j hj => ?_⟩
  · by_cases e : r = 180
    · rw [e, pz180] at hj; omega
    · rw [frR h (n1 r e)]
  · by_cases e : r = 180
    · rw [e, show pl 180 = 0 from rfl] at hj; omega
    · rw [frL h (n1 r e)]
theorem mFr_k {S0 S S' : gS} (h : mFr S0 S) (h' : kM1 S S') : mFr S0 S' := mFr_tr h (mFr_2 h'.1 (fun k hk => h'.2.1 k (by omega)))
theorem n180 {b : Nat} (h : b ≠ 180) : b ∉ [180] := by simp only [List.mem_cons, List.not_mem_nil, or_false]; omega
theorem dbM_1 {S U : gS} {B : aB} (h : dbM S B) (hU : fr [180] S U) (h23 : sI U 180 23 = sI S 180 23) : dbM U B := by
  obtain ⟨a1, a2, a3, a4, a5, a6, ⟨a7, a8, a9, a10⟩, a11, a12⟩ := h
  have e : ∀ b, b ≠ 180 → sR U b = sR S b := fun b hb => frR hU (n180 hb)
  have eL : ∀ b, b ≠ 180 → sL U b = sL S b := fun b hb => frL hU (n180 hb)
  refine ⟨?_, ?_, ?_, fun i hi => ?_, fun i hi => ?_, fun i hi => ?_, ⟨?_, ?_, h23.trans a9, ?_⟩, fun i hi => ?_, fun i hi => ?_⟩
  · rw [e _ (by omega)]; exact a1
  · rw [e _ (by omega)]; exact a2
  · rw [e _ (by omega)]; exact a3
  · rw [e 185 (by omega), e 186 (by omega), e 187 (by omega), e 188 (by omega), e 189 (by omega)]; exact a4 i hi
  · rw [e 190 (by omega)]; exact a5 i hi
  · rw [e 191 (by omega)]; exact a6 i hi
  · rw [e 192 (by omega)]; exact a7
  · rw [e 193 (by omega)]; exact a8
  · rw [e 194 (by omega)]; exact a10
  · rw [eL 183 (by omega)]; exact a11 i hi
  · rw [eL 184 (by omega)]; exact a12 i hi
def aCl (T : aTp) (l : aLi) : Nat := if ¬ l.1 = 0 then l.1 else if isSe T l.2.1 = false then 1 + 16 * l.2.1 else 0
theorem aCl_f {T : aTp} {c z : Nat} {B : aB} (hc : ¬ c = 0) : aCl T (c, z, B) = c := if_pos hc
def mFp (S0 : gS) (T : aTp) (l : aLi) (r : gS × Bool) : Prop := mFr S0 r.1 ∧ (aCl T l = 0 → r.2 = true ∧ tkM r.1 T (tokAt T (nx T l.2.1)) ∧ dbM r.1 l.2.2) ∧ (¬ aCl T l = 0 → r.2 = false ∧ sI r.1 180 9 = N (aCl T l))
theorem mFp_f {S0 S : gS} {T : aTp} {c z : Nat} {B : aB} (h : mFr S0 S) (hc : ¬ c = 0) (h9 : sI S 180 9 = N c) : mFp S0 T (c, z, B) (S, false) :=
  ⟨h, fun e => absurd e (by rw [aCl_f hc]; exact hc), fun _ => ⟨rfl, by rw [aCl_f hc]; exact h9⟩⟩
theorem mTk5 {S : gS} {T : aTp} {q : Nat} (hq : q ≤ T.1) (hk : tkM S T (tokAt T q)) : sI S 180 5 = N q := by rw [hk.2.2.2.1, (tokAt_e hq).1]
theorem mFl1 {S0 S : gS} {T : aTp} {c q z : Nat} {B : aB} (hc : ¬ c = 0) (hS : mFr S0 S) (hq : q ≤ T.1) (hk : tkM S T (tokAt T q)) : wp (g_b2 (FX12_fails S (N c)) (fun S1 b => some (S1, b))) (mFp S0 T (c + 16 * q, z, B)) := by
  rw [mFail2 (mTk5 hq hk), wp_b2, wp_some, wp_some]
  exact mFp_f (mFr_I hS (by omega)) (by omega) I_self
theorem mClo {S0 S : gS} {T : aTp} {q : Nat} {B : aB} (hT : okT T) (hS : mFr S0 S) (hB : dbM S B) (hq : q ≤ T.1) (hk : tkM S T (tokAt T q)) : wp (g_b2 (FX12_closes S) (fun S1 b => some (S1, b))) (mFp S0 T (0, q, B)) := by
  unfold FX12_closes
  rw [mSemi hT hq hk, wp_b2, wp_b2, wp_some]
  dsimp only
  cases hs : isSe T q with
  | false =>
    have ec : aCl T (0, q, B) = 1 + 16 * q := by
      unfold aCl
      dsimp only
      rw [if_neg (show ¬ ¬ 0 = 0 by omega), hs, if_pos rfl]
    rw [if_neg Bool.false_ne_true, show (1 : Int32) = N 1 from rfl, mFail2 (mTk5 hq hk), wp_b2, wp_some, wp_some, wp_some]
    exact ⟨mFr_I hS (by omega), fun e => by omega, fun _ => ⟨rfl, by rw [ec]; exact I_self⟩⟩
  | true =>
    have ec : aCl T (0, q, B) = 0 := by
      unfold aCl
      dsimp only
      rw [if_neg (show ¬ ¬ 0 = 0 by omega), hs, if_neg (show ¬ true = false by decide)]
    rw [if_pos rfl, wp_b1]
    refine wp_mono (mNxtT hT hq hk) ?_
    rintro U ⟨u1, u2⟩
    rw [wp_some, wp_some]
    exact ⟨mFr_k hS u1, fun _ => ⟨rfl, u2, dbM_1 hB u1.1 (u1.2.1 23 (by omega))⟩, fun h => absurd ec h⟩
theorem mMouH {S : gS} {T : aTp} {q L : Nat} {mn : Nat → List Nat} (hT : okT T) (hL : L ≤ 7) (hkL : ∀ i, i < L → okN (mn i)) (h0 : sR S 182 3 = N L) (hn : ∀ i, i < L → sL S 183 (7 + i) = LN (e27 (mn i))) (hq : q ≤ T.1) (htk : tkM S T (tokAt T q)) : wp (FX12_needsMouth S 1) (fun r => kM2 S r.1 ∧ ((aMe T mn L q).1 = 0 → r.2 = true ∧ tkM r.1 T (tokAt T q) ∧ sI r.1 180 36 = N (aMe T mn L q).2) ∧ (¬ (aMe T mn L q).1 = 0 → r.2 = false ∧ sI r.1 180 9 = N (aMe T mn L q).1)) := by
  have h1000 := hT.1
  unfold FX12_needsMouth aMe
  rw [mIsKept hq htk, wp_b2, wp_some]
  dsimp only
  cases hm : tkNm (tokAt T q) with
  | false =>
    rw [if_pos (show (!false) = true from rfl), if_pos rfl, show FX12_fails S (1 : Int32) = FX12_fails S (N 1) from rfl, mFail2 (mTk5 hq htk), wp_b2, wp_some, wp_some]
    exact ⟨m2_I m2_rf (by omega), fun h => by dsimp only at h; omega, fun _ => ⟨rfl, I_self⟩⟩
  | true =>
    have k2 := tkNm2 hm
    have hok := tk_ok hq k2
    rw [if_neg (show ¬ (!true) = true by decide), if_neg (show ¬ true = false by decide)]
    unfold FX12_mouthNamed
    have il := ixN_le (ns := mn) (l := (tokAt T q).2.2.2.1) L 0
    have eL : fX12_mouthNamed FU 5 S 1 (N (7 + 0)) = some (S, nAn (nIx mn (tokAt T q).2.2.2.1 L) L) := mMouR hL h0 hn hkL hok (htk.2.2.2.2.2.1 k2) L 0 FU (by omega) (by unfold FU; omega)
    have il' : nIx mn (tokAt T q).2.2.2.1 L < 2147483648 := by unfold nIx; omega
    rw [show ((7 : Int32) * 1) = N (7 + 0) by decide, eL, wp_b2, wp_some]
    dsimp only
    generalize nIx mn (tokAt T q).2.2.2.1 L = ix at *
    rw [wp_lt, I_self]
    by_cases hx : ix < L
    · have evx : nAn ix L = N ix := by unfold nAn; rw [if_pos hx]
      rw [if_pos ((nAn0 il').mpr hx), if_pos hx, wp_some, evx]
      exact ⟨m2_I m2_rf (by omega), fun _ => ⟨rfl, tkM_i htk (fun j h9 h36 => by rw [I_uI, if_neg (by omega)]) rfl rfl, I_self⟩, fun h => absurd rfl h⟩
    · rw [if_neg (fun e => hx ((nAn0 il').mp e)), if_neg hx, show FX12_fails (uI S 180 36 (nAn ix L)) (2 : Int32) = FX12_fails (uI S 180 36 (nAn ix L)) (N 2) from rfl, mFail2 (show sI (uI S 180 36 (nAn ix L)) 180 5 = N q from by rw [I_uI, if_neg (by omega)]; exact mTk5 hq htk), wp_b2, wp_some]
      dsimp only
      rw [if_neg Bool.false_ne_true, wp_some]
      exact ⟨m2_I (m2_I m2_rf (by omega)) (by omega), fun h => by omega, fun _ => ⟨rfl, I_self⟩⟩
theorem mFr_m2 {S0 S S' : gS} (h : mFr S0 S) (h' : kM2 S S') : mFr S0 S' := mFr_tr h (mFr_2 h'.1 (fun k hk => h'.2.1 k (by omega)))
theorem dbM_m2 {S U : gS} {B : aB} (h : dbM S B) (h' : kM2 S U) : dbM U B := dbM_1 h h'.1 (h'.2.1 23 (by omega))
theorem dbM_m1 {S U : gS} {B : aB} (h : dbM S B) (h' : kM1 S U) : dbM U B := dbM_1 h h'.1 (h'.2.1 23 (by omega))
theorem mNxN {S : gS} {T : aTp} {q : Nat} (hT : okT T) (hq : q ≤ T.1) (hk : tkM S T (tokAt T q)) : wp (FX12_nextToken S) (fun U => kM1 S U ∧ tkM U T (tokAt T (nx T q))) := mNxtT hT hq hk
theorem dbM_gu {S : gS} {a b : Nat} {B : aB} (h : dbM S B) : dbM (uR S 189 (7 + a) (N b)) (guB B a b) := by
  obtain ⟨a1, a2, a3, a4, a5, a6, ⟨a7, a8, a9, a10⟩, a11, a12⟩ := h
  have e : ∀ r, r ≠ 189 → sR (uR S 189 (7 + a) (N b)) r = sR S r := by
    intro r hr
    funext j
    rw [R_uR, if_neg (by omega)]
  refine ⟨?_, ?_, ?_, fun i hi => ?_, fun i hi => ?_, fun i hi => ?_, ⟨?_, ?_, a9, ?_⟩, a11, a12⟩
  · rw [e _ (by omega)]; exact a1
  · rw [e _ (by omega)]; exact a2
  · rw [e _ (by omega)]; exact a3
  · rw [e 185 (by omega), e 186 (by omega), e 187 (by omega), e 188 (by omega)]
    obtain ⟨z1, z2, z3, z4, z5⟩ := a4 i hi
    refine ⟨z1, z2, z3, z4, ?_⟩
    show _ = up (fG (bdF B)) a (N b) i
    unfold up
    rw [R_uR]
    by_cases c : i = a
    · rw [if_pos ⟨rfl, by rw [c]⟩, if_pos c]
    · rw [if_neg (fun z => c (by have := z.2; omega)), if_neg c]; exact z5
  · rw [e 190 (by omega)]; exact a5 i hi
  · rw [e 191 (by omega)]; exact a6 i hi
  · rw [e 192 (by omega)]; exact a7
  · rw [e 193 (by omega)]; exact a8
  · rw [e 194 (by omega)]; exact a10
theorem mGut {S : gS} {T : aTp} {q : Nat} {B : aB} (hT : okT T) (k : okB B) (hB : dbM S B) (hq : q ≤ T.1) (htk : tkM S T (tokAt T q)) : wp (FX12_readsGutter S) (mFp S T (lnG T B q)) := by
  have h1000 := hT.1
  have q1 := nx_le hq
  have q2 := nx_le q1
  have hL := k.1.1
  obtain ⟨a1, a2⟩ := aMe_ok (mn := bdM B) (L := fN (bdF B)) hT q1
  obtain ⟨b1, b2⟩ := aMe_ok (mn := bdM B) (L := fN (bdF B)) hT q2
  unfold FX12_readsGutter lnG
  rw [wp_b1]
  refine wp_mono (mNxN hT hq htk) ?_
  rintro U ⟨u1, u2⟩
  have uB := dbM_m1 hB u1
  have uF : mFr S U := mFr_k mFr_rf u1
  rw [wp_b2]
  refine wp_mono (mMouH hT hL k.2.1.1 uB.1 uB.2.2.2.2.2.2.2.1 q1 u2) ?_
  rintro ⟨V, x⟩ ⟨v1, v2, v3⟩
  dsimp only at v1 v2 v3 ⊢
  have vB := dbM_m2 uB v1
  have vF := mFr_m2 uF v1
  generalize aMe T (bdM B) (fN (bdF B)) (nx T q) = A at *
  by_cases cA : A.1 = 0
  case neg =>
    obtain ⟨e1, e2⟩ := v3 cA
    rw [if_pos cA, e1, if_neg Bool.false_ne_true, wp_some]
    exact mFp_f vF cA e2
  obtain ⟨e1, e2, e3⟩ := v2 cA
  obtain ⟨a3, a4⟩ := a2 cA
  obtain ⟨g1, g2, g3, g4, g5⟩ := vB.2.2.2.1 A.2 a3
  rw [if_neg (show ¬ ¬ A.1 = 0 from fun h => h cA), e1, if_pos rfl, e3, show (7 : Int32) + N A.2 = N (7 + A.2) from addN (a := 7), if_pos (vpN (by omega) (by omega)), clN (by omega), g5]
  have hg0 : (fG (bdF B) A.2 < 0) ↔ fG (bdF B) A.2 = -1 := by
    rcases k.1.2.2.2.2.1 A.2 a3 with z | ⟨g, z1, z2, z3⟩
    · rw [z]; decide
    · rw [z2]; exact ⟨fun h => absurd h (nN_lt0 (by omega)), fun h => absurd h (N_ne_m1 (by omega))⟩
  by_cases cg : fG (bdF B) A.2 = -1
  case neg =>
    rw [if_neg (fun h => cg (hg0.mp h)), if_pos cg]
    exact mFl1 (c := 3) (by omega) vF q1 e2
  rw [if_pos (hg0.mpr cg), if_neg (fun h => h cg), wp_b1]
  refine wp_mono (mNxN hT q1 e2) ?_
  rintro W ⟨w1, w2⟩
  have wB := dbM_m1 vB w1
  have wF := mFr_k vF w1
  rw [wp_b2]
  refine wp_mono (mMouH hT hL k.2.1.1 wB.1 wB.2.2.2.2.2.2.2.1 q2 w2) ?_
  rintro ⟨X, y⟩ ⟨x1, x2, x3⟩
  dsimp only at x1 x2 x3 ⊢
  have xB := dbM_m2 wB x1
  have xF := mFr_m2 wF x1
  generalize aMe T (bdM B) (fN (bdF B)) (nx T (nx T q)) = C at *
  by_cases cC : C.1 = 0
  case neg =>
    obtain ⟨e4, e5⟩ := x3 cC
    rw [if_pos cC, e4, if_neg Bool.false_ne_true, wp_some]
    exact mFp_f xF cC e5
  obtain ⟨e4, e5, e6⟩ := x2 cC
  obtain ⟨b3, b4⟩ := b2 cC
  rw [if_neg (show ¬ ¬ C.1 = 0 from fun h => h cC), e4, if_pos rfl, e6, show (7 : Int32) + N C.2 = N (7 + C.2) from addN (a := 7), if_pos (vpN (by omega) (by omega)), clN (by omega), (xB.2.2.2.1 C.2 b3).2.1, (xB.2.2.2.1 A.2 a3).2.1]
  by_cases ch : fH (bdF B) C.2 < fH (bdF B) A.2
  case neg =>
    rw [if_neg ch, if_pos ch]
    exact mFl1 (c := 3) (by omega) xF q2 e5
  rw [if_pos ch, if_neg (fun h => h ch), wp_lt, wp_b1]
  have yB : dbM (uR X 189 (7 + A.2) (N C.2)) (guB B A.2 C.2) := dbM_gu xB
  have yF : mFr S (uR X 189 (7 + A.2) (N C.2)) := mFr_R xF (by decide) (by show 7 ≤ 7 + A.2; omega)
  refine wp_mono (mNxN hT q2 (tkM_R e5 (by omega))) ?_
  rintro Y ⟨y1, y2⟩
  exact mClo hT (mFr_k yF y1) (dbM_m1 yB y1) (nx_le q2) y2
