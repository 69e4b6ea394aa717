/-! water, stopped, undone -/
def aPour (A : aW) (m : Nat) (x : Int32) : aW := (A.1, A.2.1, up A.2.2.1 m (if (99 : Int32) < A.2.2.1 m + x then 99 else A.2.2.1 m + x), A.2.2.2)
def aSet (A : aW) (s : Int32) : aW := (A.1, s, A.2.2)
theorem xPour {S : gS} {w m : Nat} {A : aW} {x : Int32} (hA : rX S w A) (hm : m < 7) : wp (FX9_addWater S w (N m) x) (fun S' => fr [w + 1] S S' ∧ rX S' w (aPour A m x)) := by
  unfold FX9_addWater
  obtain ⟨a1, a2, a3, a4, a5, a6, a7, a8⟩ := hA
  rw [if_pos (vpN hm (by omega)), clN (by omega), wp_lt, wp_some, a3 m hm]
  refine ⟨fr_uR fr_rf (by simp), a1, a2, fun i hi => ?_, fun i hi => ?_, a5, a6, a7, fun i hi => ?_⟩
  · rw [R_uR]
    change _ = up (wWa A) m (if (99 : Int32) < wWa A m + x then 99 else wWa A m + x) i
    simp only [up, true_and]
    split
    · rfl
    · exact a3 i hi
  · rw [R_uR, if_neg (by omega)]; exact a4 i hi
  · rw [R_uR, if_neg (by omega)]; exact a8 i hi
theorem min99 {y : Int32} : (if y < 99 then y else 99) = (if (99 : Int32) < y then 99 else y) := by
  have e : Int32.toInt 99 = 99 := rfl
  by_cases h1 : y < 99
  · rw [if_pos h1, if_neg]
    rw [ilt] at h1 ⊢; omega
  · rw [if_neg h1]
    by_cases h2 : (99 : Int32) < y
    · rw [if_pos h2]
    · rw [if_neg h2, ieq]
      rw [ilt] at h1 h2; omega
theorem mPours {S : gS} {m : Nat} {A : aW} {x : Int32} (hA : rM S 216 0 A) (hm : m < 7) : wp (FX12_pours S (N m) x) (fun S' => fm [216] S S' ∧ rM S' 216 0 (aPour A m x)) := by
  unfold FX12_pours
  obtain ⟨a1, a2, a3, a4, a5, a6, a7, a8⟩ := hA
  simp only [Nat.zero_add] at a1 a2 a3 a4 a5 a6 a7 a8
  rw [pl5, if_pos (vpN (by omega) (by omega)), clN (by omega), wp_lt, wp_some, a3 m hm, min99]
  refine ⟨fm_uR fm_rf (by simp), ?_, ?_, fun i hi => ?_, fun i hi => ?_, ?_, ?_, ?_, fun i hi => ?_⟩
  · rw [R_uR, if_neg (by omega)]; exact a1
  · rw [R_uR, if_neg (by omega), Nat.zero_add]; exact a2
  · rw [R_uR, Nat.zero_add]
    change _ = up (wWa A) m (if (99 : Int32) < wWa A m + x then 99 else wWa A m + x) i
    simp only [up, true_and]
    by_cases e : i = m
    · rw [if_pos (by omega), if_pos e]
    · rw [if_neg (by omega), if_neg e]; exact a3 i hi
  · rw [R_uR, if_neg (by omega), Nat.zero_add]; exact a4 i hi
  · rw [R_uR, if_neg (by omega), Nat.zero_add]; exact a5
  · rw [R_uR, if_neg (by omega), Nat.zero_add]; exact a6
  · rw [R_uR, if_neg (by omega), Nat.zero_add]; exact a7
  · have hi' : i < wSz A := hi
    rw [R_uR, if_neg (by omega), Nat.zero_add]; exact a8 i hi'
theorem okPour {F : aF} {c m : Nat} {A : aW} {x : Int32} (h : okW F c A) (hm : m < fN F) (h7 : fN F ≤ 7) (hx : 0 ≤ x.toInt ∧ x.toInt ≤ 20) : okW F c (aPour A m x) := by
  obtain ⟨a, b, w, z⟩ := h
  have e99 : Int32.toInt 99 = 99 := rfl
  refine ⟨a, b, fun i hi => ?_, fun i h1 h2 => ?_⟩
  · change 0 ≤ (up (wWa A) m (if (99 : Int32) < wWa A m + x then 99 else wWa A m + x) i).toInt ∧ (up (wWa A) m (if (99 : Int32) < wWa A m + x then 99 else wWa A m + x) i).toInt ≤ 99
    simp only [up]
    by_cases e : i = m
    · rw [if_pos e]
      have hwm := w m (by omega)
      have hadd : (wWa A m + x).toInt = (wWa A m).toInt + x.toInt := ti_add (by omega) (by omega)
      split
      · rw [e99]; omega
      · rename_i h
        rw [ilt, hadd, e99] at h
        rw [hadd]; omega
    · rw [if_neg e]; exact w i hi
  · change up (wWa A) m (if (99 : Int32) < wWa A m + x then 99 else wWa A m + x) i = 0
    simp only [up]
    rw [if_neg (by omega)]; exact z i h1 h2
theorem okSet {F : aF} {c : Nat} {A : aW} {s : Int32} (h : okW F c A) : okW F c (aSet A s) := h
theorem xSet {S : gS} {w : Nat} {A : aW} {s : Int32} (hA : rX S w A) : fr [w] S (uI S w 1 s) ∧ rX (uI S w 1 s) w (aSet A s) := by
  obtain ⟨a1, a2, a3, a4, a5, a6, a7, a8⟩ := hA
  refine ⟨fr_uI fr_rf (by simp), ?_, ?_, a3, a4, ?_, ?_, ?_, a8⟩
  · rw [I_uI, if_neg (by omega)]; exact a1
  · rw [I_uI, if_pos ⟨rfl, rfl⟩]; rfl
  · rw [I_uI, if_neg (by omega)]; exact a5
  · rw [I_uI, if_neg (by omega)]; exact a6
  · rw [I_uI, if_neg (by omega)]; exact a7
theorem mSet {S : gS} {A : aW} {s : Int32} (hA : rM S 216 0 A) : fm [216] S (uR S 216 1 s) ∧ rM (uR S 216 1 s) 216 0 (aSet A s) := by
  obtain ⟨a1, a2, a3, a4, a5, a6, a7, a8⟩ := hA
  refine ⟨fm_uR fm_rf (by simp), ?_, ?_, fun i hi => ?_, fun i hi => ?_, ?_, ?_, ?_, fun i hi => ?_⟩
  · rw [R_uR, if_neg (by omega)]; exact a1
  · rw [R_uR, if_pos ⟨rfl, rfl⟩]; rfl
  · rw [R_uR, if_neg (by omega)]; exact a3 i hi
  · rw [R_uR, if_neg (by omega)]; exact a4 i hi
  · rw [R_uR, if_neg (by omega)]; exact a5
  · rw [R_uR, if_neg (by omega)]; exact a6
  · rw [R_uR, if_neg (by omega)]; exact a7
  · rw [R_uR, if_neg (by omega)]; exact a8 i hi
theorem xStop {S : gS} {w m : Nat} {A : aW} (hA : rX S w A) : wp (FX9_stopMouth S w (N m)) (fun q => fr [w] S q.1 ∧ rX q.1 w (aSet A (wSt A ||| aBit m)) ∧ q.2 = !aHas (wSt A) m) := by
  unfold FX9_stopMouth
  rw [wp_b2]
  apply xStopped
  rw [hA.2.1]
  have key : ∀ b : Bool, wp (fX9_stopMouth FU 14 S w (N m) (g_b b)) (fun q => fr [w] S q.1 ∧ rX q.1 w (aSet A (wSt A ||| aBit m)) ∧ q.2 = b) := by
    intro b
    obtain ⟨k, hk, -⟩ := FU_s
    rw [hk, fX9_stopMouth]
    simp only [if_true, bX9_stopMouth_14]
    rw [wp_lt, hA.2.1]
    have h := xSet (s := wSt A ||| aBit m) hA
    cases b with
    | false =>
      refine ⟨_, if_pos rfl, ?_⟩
      exact ⟨h.1, h.2, rfl⟩
    | true =>
      refine ⟨_, (if_neg (by decide)).trans (if_pos rfl), ?_⟩
      exact ⟨h.1, h.2, rfl⟩
  dsimp only
  cases hb : aHas (wSt A) m with
  | false => rw [if_neg Bool.false_ne_true]; exact key true
  | true => rw [if_pos rfl]; exact key false
theorem xClear {S : gS} {w m : Nat} {A : aW} (hA : rX S w A) : wp (FX9_clearMouth S w (N m)) (fun q => fr [w] S q.1 ∧ rX q.1 w (aSet A (wSt A &&& (aBit m ^^^ (-1)))) ∧ q.2 = aHas (wSt A) m) := by
  unfold FX9_clearMouth
  rw [wp_b2]
  apply xStopped
  dsimp only
  rw [hA.2.1, wp_lt, wp_some]
  have h := xSet (s := wSt A &&& (aBit m ^^^ (-1))) hA
  exact ⟨h.1, h.2, rfl⟩
theorem or_xor {a : Int32} {m : Nat} (hm : m < 32) (h : aHas a m = false) : a ^^^ aBit m = a ||| aBit m := by
  rw [has_tb hm] at h
  apply tb_ext
  intro j hj
  rw [tb_xor, tb_or, tb_bit hm hj]
  by_cases e : j = m
  · subst e; rw [h, decide_eq_true rfl]; rfl
  · rw [decide_eq_false e]; cases tb a j <;> rfl
theorem and_xor {a : Int32} {m : Nat} (hm : m < 32) (h : aHas a m = true) : a ^^^ aBit m = a &&& (aBit m ^^^ (-1)) := by
  rw [has_tb hm] at h
  apply tb_ext
  intro j hj
  rw [tb_xor, tb_and, tb_xor, tb_bit hm hj, tb_m1 hj]
  by_cases e : j = m
  · subst e; rw [h, decide_eq_true rfl]; rfl
  · rw [decide_eq_false e]; cases tb a j <;> rfl
/-- x has changed his wall behind keepPast -/
theorem x49 {L : List Nat} {S1 S2 : gS} {f d w : Nat} {F : aF} {mn ln : Nat → List Nat} {A A' : aW} {D : aD} {W : aO} {E : aE} {p n : Nat} {P : Nat → aW} {K : Nat → aK} {t : Nat} {ch : Nat → Nat} (x : GX S1 f d w F mn ln A D W E p n P K t ch) (hS : fr L S1 S2) (hl : ∀ b, b ∈ L → 49 ≤ b ∧ b ≤ 52) (hA : rX S2 49 A') : sM S1 S2 ∧ GX S2 f d w F mn ln A' D W E p n P K t ch := by
  have hp2 := x.2.2.2.2.2.2.2.1
  refine ⟨fr_sM hS (fun b hb => by have := hl b hb; omega), GX_pt x hS (fun b hb => by have := hl b hb; omega) hA ⟨?_, ?_, fun i hi => rX_fr (hp2.2.2 i hi) hS (fun j hj hm => by have := hl _ hm; omega)⟩⟩
  · rw [frI hS (fun hm => by have := hl _ hm; omega)]; exact hp2.1
  · rw [frI hS (fun hm => by have := hl _ hm; omega)]; exact hp2.2.1
theorem m216 {S1 S2 : gS} {F : aF} {mn ln : Nat → List Nat} {A A' : aW} {D : aD} {W : aO} {E : aE} {n : Nat} {P : Nat → aW} {K : Nat → aK} {t : Nat} {ch : Nat → Nat} (m : GM S1 F mn ln A D W E n P K t ch) (hS : fm [216] S1 S2) (hA : rM S2 216 0 A') : sX S1 S2 ∧ GM S2 F mn ln A' D W E n P K t ch := by
  refine ⟨fr_sX hS.1 (by decide), GM_pt m (fun b hb => fmR hS (by simp only [List.mem_cons, List.not_mem_nil, or_false]; omega) (by omega)) (fun b hb => fmL hS (by simp only [List.mem_cons, List.not_mem_nil, or_false]; omega) (by omega)) hA ⟨hS.2.2.trans m.2.2.2.2.2.2.1.1, fun i hi => rM_x (m.2.2.2.2.2.2.1.2 i hi) (fmR hS (by decide) (by decide))⟩ hS.2.1⟩
/-- nothing is done -/
theorem idle {c : Nat} {S : gS} {α : Type} {f d w : Nat} {F : aF} {mn ln : Nat → List Nat} {A : aW} {D : aD} {W : aO} {E : aE} {p n : Nat} {P : Nat → aW} {K : Nat → aK} {t : Nat} {ch : Nat → Nat} {FM : gS → Option (gS × α)} {r : α} (x : GX S f d w F mn ln A D W E p n P K t ch) (m : ∀ S1, sM S S1 → GM S1 F mn ln A D W E n P K t ch) (k : GK c F mn ln A D W E p n P K t ch) (h : wp (FM S) (fun q => (q.1 = S ∨ ∃ y, q.1 = uI S 180 0 y) ∧ q.2 = r)) : sM S (S, r).1 ∧ ∃ f d w F mn ln A D W E p n P K t ch, GX (S, r).1 f d w F mn ln A D W E p n P K t ch ∧ GK (c + 1) F mn ln A D W E p n P K t ch ∧ wp (FM (S, r).1) (fun q2 => sX (S, r).1 q2.1 ∧ GM q2.1 F mn ln A D W E n P K t ch ∧ q2.2 = (S, r).2) := by
  have hs : sM S S := fun _ _ => ⟨rfl, rfl, rfl⟩
  refine ⟨hs, f, d, w, F, mn, ln, A, D, W, E, p, n, P, K, t, ch, x, GK_c (by omega) k, ?_⟩
  refine wp_mono h ?_
  rintro ⟨S2, r2⟩ ⟨h1, h2⟩
  dsimp only at h1 h2 ⊢
  rcases h1 with rfl | ⟨y, rfl⟩
  · exact ⟨⟨fun _ _ => ⟨rfl, rfl, rfl⟩, rfl⟩, m _ hs, h2⟩
  · exact ⟨sX_th, GM_th (m S hs), h2⟩
theorem op_pour {c : Nat} (hc : c ≤ 1000) : Ob_pour (Good c) (Good (c + 1)) := by
  intro S p0 p1 hG
  refine deed (FX := fun S => FX11_pour S p0 p1) (FM := fun S => FX12_pour S p0 p1) hG ?_
  intro f d w F mn ln A D W E p n P K t ch x m k
  have ok := k.1
  have h7 := ok.1
  have okA := k.2.2.1
  have hmi := okA.2.1
  have hp := k.2.2.2.2.2.2.1
  have hh : hX S f F := ⟨x.1.1, x.2.1, ok⟩
  have m0 := m S (fun _ _ => ⟨rfl, rfl, rfl⟩)
  unfold FX11_pour
  rw [wp_b2]
  by_cases b0 : inr 0 (fN F) p0
  · have b0' := b0
    obtain ⟨l, -, k1, k2, rfl⟩ := b0
    refine xgM hh (fun _ => ?_) (fun e => absurd b0' e)
    rw [if_pos rfl]
    by_cases b1 : inr 1 21 p1
    · have b1' := b1
      obtain ⟨v, v1, v2, v3, rfl⟩ := b1
      rw [if_neg (show ¬ N v < 1 from fun c => absurd ((ltN (b := 1) v3 (by omega)).mp c) (by omega)), if_pos (show N v ≤ 20 from (leN (b := 20) v3 (by omega)).mpr (by omega)), wp_b1]
      refine wp_mono (xKeep x hp.1 hp.2.1 okA.1) ?_
      rintro S1 ⟨q1, q2⟩
      rw [wp_b1]
      refine wp_mono (xPour (m := l) (x := N v) q2.2.2.2.1 (by omega)) ?_
      rintro S2 ⟨r1, r2⟩
      rw [if_pos (vpN (by omega) k2), wp_some, clN k2]
      obtain ⟨s1, s2⟩ := x49 q2 r1 (by intro b hb; simp at hb; omega) r2
      have okA' : okW F c (aPour A l (N v)) := okPour okA k1 h7 (by rw [tiN v3]; omega)
      refine ⟨sM_tr q1 s1, f, d, w, F, mn, ln, _, D, W, E, _, _, _, K, t, ch, s2, GK_c (c := c) (by omega) (GK_keep k okA okA'), ?_⟩
      unfold FX12_pour
      have m1 := m S2 (sM_tr q1 s1)
      rw [wp_lt, wp_b2]
      refine mgM (th_fMo m1.1) ok (fun _ => ?_) (fun e => absurd b0' e)
      rw [if_pos rfl, wp_b2]
      refine mgW 1 20 (by omega) (by omega) (fun _ => ?_) (fun e => absurd b1' e)
      rw [if_pos rfl, wp_b1]
      refine wp_mono (mKeep (GM_th m1) hp.2.1 okA.1 (fun i hi => (hp.2.2 i hi).1)) ?_
      rintro S3 ⟨t1, t2⟩
      rw [wp_b1]
      refine wp_mono (mPours (m := l) (x := N v) t2.2.2.1 (by omega)) ?_
      rintro S4 ⟨u1, u2⟩
      obtain ⟨y1, y2⟩ := m216 t2 u1 u2
      rw [pl5, if_pos (vpN (by omega) (by omega)), wp_some, clN (by omega)]
      refine ⟨sX_tr sX_th (sX_tr t1 y1), y2, ?_⟩
      have e1 := u2.2.2.1 l (by omega)
      rw [Nat.zero_add] at e1
      exact e1.trans (r2.2.2.1 l (by omega)).symm
    · have hw : wp (if p1 < (1 : Int32) then (some (S, (-1 : Int32))) else (if p1 ≤ (20 : Int32) then (g_b1 (FX11_keepPast S) (fun S3 => g_b1 (FX9_addWater S3 49 (N l) p1) (fun S4 => if g_vp (N l) 7 = true then (some (S4, (sR S4 (49 + 1) (Int32.toNatClampNeg (N l))))) else none))) else (some (S, (-1 : Int32))))) (fun q => q = (S, (-1 : Int32))) := by
        by_cases e : p1 < 1
        · rw [if_pos e, wp_some]
        · rw [if_neg e, if_neg (fun e2 => b1 (inr_in2 (a := 1) (b := 20) (by omega) (by omega) e (fun c => by rw [ile] at e2; rw [ilt] at c; have : (N 20).toInt = Int32.toInt 20 := rfl; omega))), wp_some]
      refine wp_mono hw ?_
      rintro _ rfl
      refine idle (FM := fun S => FX12_pour S (N l) p1) (r := (-1 : Int32)) x m k ?_
      unfold FX12_pour
      rw [wp_lt, wp_b2]
      refine mgM (th_fMo m0.1) ok (fun _ => ?_) (fun e => absurd b0' e)
      rw [if_pos rfl, wp_b2]
      refine mgW 1 20 (by omega) (by omega) (fun e => absurd e b1) (fun _ => ?_)
      rw [if_neg Bool.false_ne_true, wp_some]
      exact ⟨Or.inr ⟨_, rfl⟩, rfl⟩
  · refine xgM hh (fun e => absurd e b0) (fun _ => ?_)
    rw [if_neg Bool.false_ne_true, wp_some]
    refine idle (FM := fun S => FX12_pour S p0 p1) (r := (-1 : Int32)) x m k ?_
    unfold FX12_pour
    rw [wp_lt, wp_b2]
    refine mgM (th_fMo m0.1) ok (fun e => absurd e b0) (fun _ => ?_)
    rw [if_neg Bool.false_ne_true, wp_some]
    exact ⟨Or.inr ⟨_, rfl⟩, rfl⟩
theorem op_stop {c : Nat} (hc : c ≤ 1000) : Ob_stop (Good c) (Good (c + 1)) := by
  intro S p0 hG
  refine deed (FX := fun S => FX11_stop S p0) (FM := fun S => FX12_stop S p0) hG ?_
  intro f d w F mn ln A D W E p n P K t ch x m k
  have ok := k.1
  have h7 := ok.1
  have okA := k.2.2.1
  have hp := k.2.2.2.2.2.2.1
  have hh : hX S f F := ⟨x.1.1, x.2.1, ok⟩
  have m0 := m S (fun _ _ => ⟨rfl, rfl, rfl⟩)
  unfold FX11_stop
  rw [wp_b2]
  by_cases b0 : inr 0 (fN F) p0
  · have b0' := b0
    obtain ⟨l, -, k1, k2, rfl⟩ := b0
    refine xgM hh (fun _ => ?_) (fun e => absurd b0' e)
    rw [if_pos rfl, wp_b2]
    apply xStopped
    dsimp only
    rw [x.2.2.2.1.2.1]
    by_cases b1 : aHas (wSt A) l = true
    · rw [if_pos b1, wp_some]
      refine idle (FM := fun S => FX12_stop S (N l)) (r := false) x m k ?_
      unfold FX12_stop
      rw [wp_lt, wp_b2]
      refine mgM (th_fMo m0.1) ok (fun _ => ?_) (fun e => absurd b0' e)
      rw [if_pos rfl, wp_b2]
      refine mStopped (by omega) ?_
      dsimp only
      rw [show sR (uI S 180 0 0) 216 1 = wSt A from m0.2.2.1.2.1, if_pos b1, wp_some]
      exact ⟨Or.inr ⟨_, rfl⟩, rfl⟩
    · rw [if_neg b1, wp_b1]
      refine wp_mono (xKeep x hp.1 hp.2.1 okA.1) ?_
      rintro S1 ⟨q1, q2⟩
      rw [wp_b2]
      refine wp_mono (xStop (m := l) q2.2.2.2.1) ?_
      rintro ⟨S2, r⟩ ⟨r1, r2, r3⟩
      dsimp only at r1 r2 r3 ⊢
      rw [wp_some]
      obtain ⟨s1, s2⟩ := x49 q2 r1 (by intro b hb; simp at hb; omega) r2
      refine ⟨sM_tr q1 s1, f, d, w, F, mn, ln, _, D, W, E, _, _, _, K, t, ch, s2, GK_c (c := c) (by omega) (GK_keep k okA (okSet okA)), ?_⟩
      unfold FX12_stop
      have m1 := m S2 (sM_tr q1 s1)
      rw [wp_lt, wp_b2]
      refine mgM (th_fMo m1.1) ok (fun _ => ?_) (fun e => absurd b0' e)
      rw [if_pos rfl, wp_b2]
      refine mStopped (by omega) ?_
      dsimp only
      rw [show sR (uI S2 180 0 0) 216 1 = wSt A from m1.2.2.1.2.1, if_neg b1, wp_b1]
      refine wp_mono (mKeep (GM_th m1) hp.2.1 okA.1 (fun i hi => (hp.2.2 i hi).1)) ?_
      rintro S3 ⟨t1, t2⟩
      have e1 : sR S3 216 1 = wSt A := t2.2.2.1.2.1
      rw [wp_lt, wp_some, e1, show (wSt A ^^^ 1 <<< (N l &&& 31)) = wSt A ||| aBit l from or_xor (by omega) (by simpa using b1)]
      have u := mSet (s := wSt A ||| aBit l) t2.2.2.1
      obtain ⟨y1, y2⟩ := m216 t2 u.1 u.2
      refine ⟨sX_tr sX_th (sX_tr t1 y1), y2, ?_⟩
      rw [r3]; simpa using b1
  · refine xgM hh (fun e => absurd e b0) (fun _ => ?_)
    rw [if_neg Bool.false_ne_true, wp_some]
    refine idle (FM := fun S => FX12_stop S p0) (r := false) x m k ?_
    unfold FX12_stop
    rw [wp_lt, wp_b2]
    refine mgM (th_fMo m0.1) ok (fun e => absurd e b0) (fun _ => ?_)
    rw [if_neg Bool.false_ne_true, wp_some]
    exact ⟨Or.inr ⟨_, rfl⟩, rfl⟩
theorem op_clear {c : Nat} (hc : c ≤ 1000) : Ob_clear (Good c) (Good (c + 1)) := by
  intro S p0 hG
  refine deed (FX := fun S => FX11_clear S p0) (FM := fun S => FX12_clear S p0) hG ?_
  intro f d w F mn ln A D W E p n P K t ch x m k
  have ok := k.1
  have h7 := ok.1
  have okA := k.2.2.1
  have hp := k.2.2.2.2.2.2.1
  have hh : hX S f F := ⟨x.1.1, x.2.1, ok⟩
  have m0 := m S (fun _ _ => ⟨rfl, rfl, rfl⟩)
  unfold FX11_clear
  rw [wp_b2]
  by_cases b0 : inr 0 (fN F) p0
  · have b0' := b0
    obtain ⟨l, -, k1, k2, rfl⟩ := b0
    refine xgM hh (fun _ => ?_) (fun e => absurd b0' e)
    rw [if_pos rfl, wp_b2]
    apply xStopped
    dsimp only
    rw [x.2.2.2.1.2.1]
    by_cases b1 : aHas (wSt A) l = true
    · rw [if_pos b1, wp_b1]
      refine wp_mono (xKeep x hp.1 hp.2.1 okA.1) ?_
      rintro S1 ⟨q1, q2⟩
      rw [wp_b2]
      refine wp_mono (xClear (m := l) q2.2.2.2.1) ?_
      rintro ⟨S2, r⟩ ⟨r1, r2, r3⟩
      dsimp only at r1 r2 r3 ⊢
      rw [wp_some]
      obtain ⟨s1, s2⟩ := x49 q2 r1 (by intro b hb; simp at hb; omega) r2
      refine ⟨sM_tr q1 s1, f, d, w, F, mn, ln, _, D, W, E, _, _, _, K, t, ch, s2, GK_c (c := c) (by omega) (GK_keep k okA (okSet okA)), ?_⟩
      unfold FX12_clear
      have m1 := m S2 (sM_tr q1 s1)
      rw [wp_lt, wp_b2]
      refine mgM (th_fMo m1.1) ok (fun _ => ?_) (fun e => absurd b0' e)
      rw [if_pos rfl, wp_b2]
      refine mStopped (by omega) ?_
      dsimp only
      rw [show sR (uI S2 180 0 0) 216 1 = wSt A from m1.2.2.1.2.1, if_pos b1, wp_b1]
      refine wp_mono (mKeep (GM_th m1) hp.2.1 okA.1 (fun i hi => (hp.2.2 i hi).1)) ?_
      rintro S3 ⟨t1, t2⟩
      have e1 : sR S3 216 1 = wSt A := t2.2.2.1.2.1
      rw [wp_lt, wp_some, e1, show (wSt A ^^^ 1 <<< (N l &&& 31)) = wSt A &&& (aBit l ^^^ (-1)) from and_xor (by omega) b1]
      have u := mSet (s := wSt A &&& (aBit l ^^^ (-1))) t2.2.2.1
      obtain ⟨y1, y2⟩ := m216 t2 u.1 u.2
      exact ⟨sX_tr sX_th (sX_tr t1 y1), y2, by rw [r3]; exact b1.symm⟩
    · rw [if_neg b1, wp_some]
      refine idle (FM := fun S => FX12_clear S (N l)) (r := false) x m k ?_
      unfold FX12_clear
      rw [wp_lt, wp_b2]
      refine mgM (th_fMo m0.1) ok (fun _ => ?_) (fun e => absurd b0' e)
      rw [if_pos rfl, wp_b2]
      refine mStopped (by omega) ?_
      dsimp only
      rw [show sR (uI S 180 0 0) 216 1 = wSt A from m0.2.2.1.2.1, if_neg b1, wp_some]
      exact ⟨Or.inr ⟨_, rfl⟩, rfl⟩
  · refine xgM hh (fun e => absurd e b0) (fun _ => ?_)
    rw [if_neg Bool.false_ne_true, wp_some]
    refine idle (FM := fun S => FX12_clear S p0) (r := false) x m k ?_
    unfold FX12_clear
    rw [wp_lt, wp_b2]
    refine mgM (th_fMo m0.1) ok (fun e => absurd e b0) (fun _ => ?_)
    rw [if_neg Bool.false_ne_true, wp_some]
    exact ⟨Or.inr ⟨_, rfl⟩, rfl⟩
theorem op_undo {c : Nat} : Ob_undo (Good c) (Good (c + 1)) := by
  intro S hG
  refine deed (FX := fun S => FX11_undo S) (FM := fun S => FX12_undo S) hG ?_
  intro f d w F mn ln A D W E p n P K t ch x m k
  have hp := k.2.2.2.2.2.2.1
  have m0 := m S (fun _ _ => ⟨rfl, rfl, rfl⟩)
  have hp2 := x.2.2.2.2.2.2.2.1
  unfold FX11_undo
  rw [hp2.2.1]
  by_cases b0 : n = 0
  · rw [if_pos ((eq0N (by omega)).mpr b0), wp_some]
    refine idle (r := false) x m k ?_
    unfold FX12_undo
    have e : sI (uI S 180 0 0) 180 53 = N n := by rw [I_uI, if_neg (by omega)]; exact m0.2.2.2.2.2.2.1.1
    rw [wp_lt, e, if_pos ((eq0N (by omega)).mpr b0), wp_some]
    exact ⟨Or.inr ⟨_, rfl⟩, rfl⟩
  · rw [if_neg (fun c => b0 ((eq0N (by omega)).mp c)), wp_lt, wp_lt, hp2.1, pv15 p hp.1]
    have e14 : sI (uI S 0 13 (N ((p + 15) % 16))) 0 14 = N n := by rw [I_uI, if_neg (by omega)]; exact hp2.2.1
    rw [e14, show N n - (1 : Int32) = N (n - 1) from subN (b := 1) (by omega)]
    have i13 : sI (uI (uI S 0 13 (N ((p + 15) % 16))) 0 14 (N (n - 1))) 0 13 = N ((p + 15) % 16) := by rw [I_uI, if_neg (by omega), I_uI, if_pos ⟨rfl, rfl⟩]
    have i14 : sI (uI (uI S 0 13 (N ((p + 15) % 16))) 0 14 (N (n - 1))) 0 14 = N (n - 1) := by rw [I_uI, if_pos ⟨rfl, rfl⟩]
    have hS1 : fr [0] S (uI (uI S 0 13 (N ((p + 15) % 16))) 0 14 (N (n - 1))) := fr_uI (fr_uI fr_rf (by simp)) (by simp)
    revert i13 i14 hS1
    generalize (uI (uI S 0 13 (N ((p + 15) % 16))) 0 14 (N (n - 1))) = T
    intro i13 i14 hS1
    rw [i13, if_pos (vpN (by omega) (by omega)), clN (by omega), wp_b1]
    refine wp_mono (xCopy (S := T) (a := 49) (b := 58 + 4 * ((p + 15) % 16)) (Or.inr (by omega))) ?_
    rintro S2 ⟨q1, q2⟩
    rw [wp_some]
    have nl0 : ∀ b, b ≠ 0 → b ∉ [0] := by intro b h hb; simp at hb; omega
    have hl : ∀ b, b ∈ [49, 49 + 1, 49 + 2, 49 + 3] → 49 ≤ b ∧ b ≤ 52 := by
      intro b hb
      simp only [List.mem_cons, List.not_mem_nil, or_false] at hb; omega
    have hS2 : fr [0, 49, 49 + 1, 49 + 2, 49 + 3] S S2 := fr_tr (fr_mo hS1 (by intro b hb; simp at hb; subst hb; simp)) (fr_mo q1 (by intro b hb; exact List.mem_cons.mpr (Or.inr hb)))
    have old : rX T (58 + 4 * ((p + 15) % 16)) (P (n - 1)) := by
      have := hp2.2.2 (n - 1) (by omega)
      rw [show (p + 16 - n + (n - 1)) % 16 = (p + 15) % 16 by omega] at this
      exact rX_fr this hS1 (fun j hj => nl0 _ (by omega))
    have okP := hp.2.2 (n - 1) (by omega)
    have hA' := q2 _ old okP.1
    have hl2 : ∀ b, b ∈ [0, 49, 49 + 1, 49 + 2, 49 + 3] → b = 0 ∨ 49 ≤ b ∧ b ≤ 52 := by
      intro b hb
      simp only [List.mem_cons, List.not_mem_nil, or_false] at hb; omega
    have hGX : GX S2 f d w F mn ln (P (n - 1)) D W E ((p + 15) % 16) (n - 1) P K t ch := by
      refine GX_pt x hS2 (fun b hb => by have := hl2 b hb; omega) hA' ⟨?_, ?_, fun i hi => ?_⟩
      · rw [frI q1 (fun hm => by have := hl _ hm; omega)]; exact i13
      · rw [frI q1 (fun hm => by have := hl _ hm; omega)]; exact i14
      · rw [show ((p + 15) % 16 + 16 - (n - 1) + i) % 16 = (p + 16 - n + i) % 16 by omega]
        exact rX_fr (hp2.2.2 i (by omega)) hS2 (fun j hj hm => by have := hl2 _ hm; omega)
    have hsM : sM S S2 := fr_sM hS2 (fun b hb => by have := hl2 b hb; omega)
    refine ⟨hsM, f, d, w, F, mn, ln, _, D, W, E, _, _, P, K, t, ch, hGX, ?_, ?_⟩
    · obtain ⟨k1, k2, k3, k4, k5, k6, ⟨k7, k8, k9⟩, k10, k11⟩ := GK_c (c' := c + 1) (by omega) k
      exact ⟨k1, k2, k9 _ (by omega), k4, k5, k6, ⟨by omega, by omega, fun i hi => k9 i (by omega)⟩, k10, k11⟩
    · have m1 := GM_th (y := 0) (m S2 hsM)
      have h53 := m1.2.2.2.2.2.2.1.1
      have hP := m1.2.2.2.2.2.2.1.2
      unfold FX12_undo
      rw [wp_lt, h53, if_neg (fun c => b0 ((eq0N (by omega)).mp c)), wp_lt, show N n - (1 : Int32) = N (n - 1) from subN (b := 1) (by omega)]
      have j53 : sI (uI (uI S2 180 0 0) 180 53 (N (n - 1))) 180 53 = N (n - 1) := by rw [I_uI, if_pos ⟨rfl, rfl⟩]
      have j1 : sI (uI (uI S2 180 0 0) 180 53 (N (n - 1))) 180 1 = sI S2 180 1 := by rw [I_uI, if_neg (by omega), I_uI, if_neg (by omega)]
      rw [j53, show (59 : Int32) * N (n - 1) = N (59 * (n - 1)) from mulN (a := 59), wp_b1]
      refine wp_mono (mCopy (S := uI (uI S2 180 0 0) 180 53 (N (n - 1))) (a0 := 220) (m0 := 944) (o0 := 59 * (n - 1)) (a2 := 216) (m2 := 59) (o2 := 0) (by omega) (by omega) (by omega) (by omega) (by omega) (by omega)) ?_
      rintro T2 ⟨u1, u2, u3⟩
      rw [wp_some]
      have hs2 : sX S2 T2 := sX_tr sX_th (fr_sX (L := [180, 216]) (fr_tr (fr_uI fr_rf (by simp)) u1.1) (by decide))
      refine ⟨hs2, GM_pt (S' := T2) (m S2 hsM) (fun b hb => ?_) (fun b hb => ?_) ?_ ⟨u1.2.2.trans j53, fun i hi => ?_⟩ (u1.2.1.trans j1), rfl⟩
      · exact fmR u1 (by simp only [List.mem_cons, List.not_mem_nil, or_false]; omega) (by omega)
      · exact fmL u1 (by simp only [List.mem_cons, List.not_mem_nil, or_false]; omega) (by omega)
      · exact rM_cp (hP (n - 1) (by omega)) okP.1 (fun j hj => u2 j hj)
      · exact rM_x (hP i (by omega)) (fmR u1 (by decide) (by decide))
