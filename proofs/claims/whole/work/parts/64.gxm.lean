/-! each side by itself -/
abbrev aK : Type := Bool × aW × aD × aO × aE
def GX (S : gS) (f d w : Nat) (F : aF) (mn ln : Nat → List Nat) (A : aW) (D : aD) (W : aO) (E : aE) (p n : Nat) (P : Nat → aW) (K : Nat → aK) (t : Nat) (ch : Nat → Nat) : Prop :=
  gQ S f d w ∧ fX S f F ∧ nX S f F mn ln ∧ rX S 49 A ∧ dX S d D ∧ oX S w W ∧ eX S 46 E ∧
  (sI S 0 13 = N p ∧ sI S 0 14 = N n ∧ ∀ i, i < n → rX S (58 + 4 * ((p + 16 - n + i) % 16)) (P i)) ∧
  (∀ j, j < 4 → sI S (123 + 14 * j) 0 = g_b (K j).1 ∧ ((K j).1 = true → rX S (123 + 14 * j + 1) (K j).2.1 ∧ dX S (123 + 14 * j + 5) (K j).2.2.1 ∧ oX S (123 + 14 * j + 9) (K j).2.2.2.1 ∧ eX S (123 + 14 * j + 11) (K j).2.2.2.2)) ∧
  (sI S 1 1 = N t ∧ ∀ i, i < t → sR S 2 i = N (ch i))
def GM (S : gS) (F : aF) (mn ln : Nat → List Nat) (A : aW) (D : aD) (W : aO) (E : aE) (n : Nat) (P : Nat → aW) (K : Nat → aK) (t : Nat) (ch : Nat → Nat) : Prop :=
  fMo S F ∧ nM S F mn ln ∧ rM S 216 0 A ∧ dM S 0 D ∧ oM S 0 W ∧ eM S 0 E ∧
  (sI S 180 53 = N n ∧ ∀ i, i < n → rM S 220 (59 * i) (P i)) ∧
  (∀ j, j < 4 → sR S 221 j = g_b (K j).1 ∧ ((K j).1 = true → rM S 219 (59 * j) (K j).2.1 ∧ dM S (1 + j) (K j).2.2.1 ∧ oM S (1 + j) (K j).2.2.2.1 ∧ eM S (1 + j) (K j).2.2.2.2)) ∧
  (sI S 180 1 = N t ∧ ∀ i, i < t → sR S 181 i = N (ch i))
def GK (c : Nat) (F : aF) (mn ln : Nat → List Nat) (A : aW) (D : aD) (W : aO) (E : aE) (p n : Nat) (P : Nat → aW) (K : Nat → aK) (t : Nat) (ch : Nat → Nat) : Prop :=
  okF F ∧ okNs F mn ln ∧ okW F c A ∧ okD (fN F) D ∧ okO (fL F) W ∧ okE (fN F) E ∧ (p < 16 ∧ n ≤ 16 ∧ ∀ i, i < n → okW F c (P i)) ∧
  (∀ j, j < 4 → (K j).1 = true → okW F c (K j).2.1 ∧ okD (fN F) (K j).2.2.1 ∧ okO (fL F) (K j).2.2.2.1 ∧ okE (fN F) (K j).2.2.2.2) ∧ (t ≤ 1000 ∧ ∀ i, i < t → okC (ch i))
theorem GO_of {c : Nat} {S : gS} {f d w : Nat} {F : aF} {mn ln : Nat → List Nat} {A : aW} {D : aD} {W : aO} {E : aE} {p n : Nat} {P : Nat → aW} {K : Nat → aK} {t : Nat} {ch : Nat → Nat} (x : GX S f d w F mn ln A D W E p n P K t ch) (m : GM S F mn ln A D W E n P K t ch) (k : GK c F mn ln A D W E p n P K t ch) : GO c S f d w F mn ln A D W E p n t ch := by
  obtain ⟨x1, x2, x3, x4, x5, x6, x7, ⟨x8, x9, x10⟩, x11, x12, x13⟩ := x
  obtain ⟨m1, m2, m3, m4, m5, m6, ⟨m7, m8⟩, m9, m10, m11⟩ := m
  obtain ⟨k1, k2, k3, k4, k5, k6, ⟨k7, k8, k9⟩, k10, k11, k12⟩ := k
  refine ⟨x1, ⟨x2, m1, k1⟩, ⟨x3, m2, k2⟩, ⟨x4, m3, k3⟩, ⟨x5, m4, k4⟩, ⟨x6, m5, k5⟩, ⟨x7, m6, k6⟩, ⟨k7, k8, x8, x9, m7, fun i hi => ⟨P i, x10 i hi, m8 i hi, k9 i hi⟩⟩, fun j hj => ?_, ⟨k11, x12, m10, fun i hi => ⟨k12 i hi, x13 i hi, m11 i hi⟩⟩⟩
  refine ⟨(K j).1, (x11 j hj).1, (m9 j hj).1, fun hb => ?_⟩
  obtain ⟨a1, a2, a3, a4⟩ := (x11 j hj).2 hb
  obtain ⟨b1, b2, b3, b4⟩ := (m9 j hj).2 hb
  obtain ⟨c1, c2, c3, c4⟩ := k10 j hj hb
  exact ⟨_, _, _, _, a1, b1, c1, a2, b2, c2, a3, b3, c3, a4, b4, c4⟩
theorem GO_to {c : Nat} {S : gS} {f d w : Nat} {F : aF} {mn ln : Nat → List Nat} {A : aW} {D : aD} {W : aO} {E : aE} {p n t : Nat} {ch : Nat → Nat} (g : GO c S f d w F mn ln A D W E p n t ch) : ∃ (P : Nat → aW) (K : Nat → aK), GX S f d w F mn ln A D W E p n P K t ch ∧ GM S F mn ln A D W E n P K t ch ∧ GK c F mn ln A D W E p n P K t ch := by
  obtain ⟨x1, ⟨x2, m1, k1⟩, ⟨x3, m2, k2⟩, ⟨x4, m3, k3⟩, ⟨x5, m4, k4⟩, ⟨x6, m5, k5⟩, ⟨x7, m6, k6⟩, ⟨k7, k8, x8, x9, m7, hp⟩, hk, ⟨k11, x12, m10, ht⟩⟩ := g
  have hP : ∃ P : Nat → aW, ∀ i, i < n → rX S (58 + 4 * ((p + 16 - n + i) % 16)) (P i) ∧ rM S 220 (59 * i) (P i) ∧ okW F c (P i) := by
    refine ⟨fun i => if h : i < n then Classical.choose (hp i h) else A, fun i hi => ?_⟩
    dsimp only
    rw [dif_pos hi]
    exact Classical.choose_spec (hp i hi)
  have hK : ∃ K : Nat → aK, ∀ j, j < 4 → sI S (123 + 14 * j) 0 = g_b (K j).1 ∧ sR S 221 j = g_b (K j).1 ∧ ((K j).1 = true → rX S (123 + 14 * j + 1) (K j).2.1 ∧ rM S 219 (59 * j) (K j).2.1 ∧ okW F c (K j).2.1 ∧ dX S (123 + 14 * j + 5) (K j).2.2.1 ∧ dM S (1 + j) (K j).2.2.1 ∧ okD (fN F) (K j).2.2.1 ∧ oX S (123 + 14 * j + 9) (K j).2.2.2.1 ∧ oM S (1 + j) (K j).2.2.2.1 ∧ okO (fL F) (K j).2.2.2.1 ∧ eX S (123 + 14 * j + 11) (K j).2.2.2.2 ∧ eM S (1 + j) (K j).2.2.2.2 ∧ okE (fN F) (K j).2.2.2.2) := by
    have hk2 : ∀ j, j < 4 → ∃ k : aK, sI S (123 + 14 * j) 0 = g_b k.1 ∧ sR S 221 j = g_b k.1 ∧ (k.1 = true → rX S (123 + 14 * j + 1) k.2.1 ∧ rM S 219 (59 * j) k.2.1 ∧ okW F c k.2.1 ∧ dX S (123 + 14 * j + 5) k.2.2.1 ∧ dM S (1 + j) k.2.2.1 ∧ okD (fN F) k.2.2.1 ∧ oX S (123 + 14 * j + 9) k.2.2.2.1 ∧ oM S (1 + j) k.2.2.2.1 ∧ okO (fL F) k.2.2.2.1 ∧ eX S (123 + 14 * j + 11) k.2.2.2.2 ∧ eM S (1 + j) k.2.2.2.2 ∧ okE (fN F) k.2.2.2.2) := by
      intro j hj
      obtain ⟨b, b1, b2, b3⟩ := hk j hj
      cases b with
      | false => exact ⟨(false, A, D, W, E), b1, b2, fun h => by cases h⟩
      | true =>
        obtain ⟨A1, D1, W1, E1, z⟩ := b3 rfl
        exact ⟨(true, A1, D1, W1, E1), b1, b2, fun _ => z⟩
    refine ⟨fun j => if h : j < 4 then Classical.choose (hk2 j h) else (false, A, D, W, E), fun j hj => ?_⟩
    dsimp only
    rw [dif_pos hj]
    exact Classical.choose_spec (hk2 j hj)
  obtain ⟨P, hP⟩ := hP
  obtain ⟨K, hK⟩ := hK
  refine ⟨P, K, ⟨x1, x2, x3, x4, x5, x6, x7, ⟨x8, x9, fun i hi => (hP i hi).1⟩, fun j hj => ⟨(hK j hj).1, fun hb => ?_⟩, x12, fun i hi => (ht i hi).2.1⟩, ⟨m1, m2, m3, m4, m5, m6, ⟨m7, fun i hi => (hP i hi).2.1⟩, fun j hj => ⟨(hK j hj).2.1, fun hb => ?_⟩, m10, fun i hi => (ht i hi).2.2⟩, ⟨k1, k2, k3, k4, k5, k6, ⟨k7, k8, fun i hi => (hP i hi).2.2⟩, fun j hj hb => ?_, k11, fun i hi => (ht i hi).1⟩⟩
  · obtain ⟨z1, z2, z3, z4, z5, z6, z7, z8, z9, z10, z11, z12⟩ := (hK j hj).2.2 hb
    exact ⟨z1, z4, z7, z10⟩
  · obtain ⟨z1, z2, z3, z4, z5, z6, z7, z8, z9, z10, z11, z12⟩ := (hK j hj).2.2 hb
    exact ⟨z2, z5, z8, z11⟩
  · obtain ⟨z1, z2, z3, z4, z5, z6, z7, z8, z9, z10, z11, z12⟩ := (hK j hj).2.2 hb
    exact ⟨z3, z6, z9, z12⟩
/-- x's cells stand as they did; the model's -/
def sX (S S' : gS) : Prop := (∀ b, b < 180 → S'.1 b = S.1 b ∧ S'.2.2.2.1 b = S.2.2.2.1 b ∧ S'.2.2.2.2 b = S.2.2.2.2 b) ∧ S'.2.2.1 = S.2.2.1
def sM (S S' : gS) : Prop := ∀ b, 180 ≤ b → S'.1 b = S.1 b ∧ S'.2.2.2.1 b = S.2.2.2.1 b ∧ S'.2.2.2.2 b = S.2.2.2.2 b
theorem sX_tr {S S1 S2 : gS} (h1 : sX S S1) (h2 : sX S1 S2) : sX S S2 :=
  ⟨fun b hb => ⟨((h2.1 b hb).1).trans (h1.1 b hb).1, ((h2.1 b hb).2.1).trans (h1.1 b hb).2.1, ((h2.1 b hb).2.2).trans (h1.1 b hb).2.2⟩, h2.2.trans h1.2⟩
theorem sM_tr {S S1 S2 : gS} (h1 : sM S S1) (h2 : sM S1 S2) : sM S S2 :=
  fun b hb => ⟨((h2 b hb).1).trans (h1 b hb).1, ((h2 b hb).2.1).trans (h1 b hb).2.1, ((h2 b hb).2.2).trans (h1 b hb).2.2⟩
theorem fr_sX {L : List Nat} {S S' : gS} (h : fr L S S') (hl : ∀ b, b ∈ L → 180 ≤ b) : sX S S' :=
  ⟨fun b hb => h.1 b (fun hm => by have := hl b hm; omega), h.2⟩
theorem fr_sM {L : List Nat} {S S' : gS} (h : fr L S S') (hl : ∀ b, b ∈ L → b < 180) : sM S S' :=
  fun b hb => h.1 b (fun hm => by have := hl b hm; omega)
theorem sX_fr {S S' : gS} (h : sX S S') {L : List Nat} (hl : ∀ b, 180 ≤ b → b ∈ L) : fr L S S' :=
  ⟨fun b hb => h.1 b (by by_cases e : b < 180; exact e; exact absurd (hl b (by omega)) hb), h.2⟩
theorem rX_s {S S' : gS} {w : Nat} {A : aW} (h : rX S w A) (hS : sX S S') (hw : w + 3 < 180) : rX S' w A :=
  rX_eq h (fun k => congrFun (hS.1 w (by omega)).1 k) (hS.1 _ (by omega)).2.1 (hS.1 _ (by omega)).2.1 (hS.1 _ (by omega)).2.1
theorem dX_s {S S' : gS} {d : Nat} {D : aD} (h : dX S d D) (hS : sX S S') (hw : d + 3 < 180) : dX S' d D := by
  unfold dX at h ⊢
  have e : sI S' d 0 = sI S d 0 := congrFun (hS.1 d (by omega)).1 0
  have e1 : sR S' (d + 1) = sR S (d + 1) := (hS.1 _ (by omega)).2.1
  have e2 : sR S' (d + 2) = sR S (d + 2) := (hS.1 _ (by omega)).2.1
  have e3 : sR S' (d + 3) = sR S (d + 3) := (hS.1 _ (by omega)).2.1
  rw [e, e1, e2, e3]; exact h
theorem oX_s {S S' : gS} {d : Nat} {D : aO} (h : oX S d D) (hS : sX S S') (hw : d + 1 < 180) : oX S' d D := by
  unfold oX at h ⊢
  have e : sI S' d 0 = sI S d 0 := congrFun (hS.1 d (by omega)).1 0
  have e1 : sR S' (d + 1) = sR S (d + 1) := (hS.1 _ (by omega)).2.1
  rw [e, e1]; exact h
theorem eX_s {S S' : gS} {d : Nat} {D : aE} (h : eX S d D) (hS : sX S S') (hw : d + 2 < 180) : eX S' d D := by
  unfold eX at h ⊢
  have e : sI S' d 0 = sI S d 0 := congrFun (hS.1 d (by omega)).1 0
  have e1 : sR S' (d + 1) = sR S (d + 1) := (hS.1 _ (by omega)).2.1
  have e2 : sR S' (d + 2) = sR S (d + 2) := (hS.1 _ (by omega)).2.1
  rw [e, e1, e2]; exact h
theorem fX_s {S S' : gS} {f : Nat} {F : aF} (h : fX S f F) (hS : sX S S') : fX S' f F := by
  have hf := h.1
  have e0 : ∀ k, sI S' f k = sI S f k := fun k => congrFun (hS.1 f (by omega)).1 k
  have eR : ∀ j, j ≤ 12 → sR S' (f + j) = sR S (f + j) := fun j hj => (hS.1 _ (by omega)).2.1
  obtain ⟨a1, a2, a3, a4, a5, a6, a7, a8⟩ := h
  refine ⟨a1, (e0 0).trans a2, fun i hi => ?_, (e0 8).trans a4, fun i hi => ?_, (e0 11).trans a6, fun i hi => ?_, lawX_fr a8 (congrFun (hS.1 _ (by omega)).1 1) (eR 12 (by omega))⟩
  · rw [eR 2 (by omega), eR 3 (by omega), eR 4 (by omega), eR 5 (by omega), eR 6 (by omega), eR 7 (by omega)]
    exact a3 i hi
  · rw [eR 9 (by omega)]; exact a5 i hi
  · rw [eR 10 (by omega)]; exact a7 i hi
theorem GX_s {S S' : gS} {f d w : Nat} {F : aF} {mn ln : Nat → List Nat} {A : aW} {D : aD} {W : aO} {E : aE} {p n : Nat} {P : Nat → aW} {K : Nat → aK} {t : Nat} {ch : Nat → Nat} (x : GX S f d w F mn ln A D W E p n P K t ch) (hS : sX S S') : GX S' f d w F mn ln A D W E p n P K t ch := by
  obtain ⟨x1, x2, x3, x4, x5, x6, x7, ⟨x8, x9, x10⟩, x11, x12, x13⟩ := x
  have hf := x1.2.2.1
  have hd := x1.2.2.2.2.2.1
  have hw := x1.2.2.2.2.2.2.2.2
  have eQ : sQ S' = sQ S := hS.2
  refine ⟨?_, fX_s x2 hS, ?_, rX_s x4 hS (by omega), dX_s x5 hS (by omega), oX_s x6 hS (by omega), eX_s x7 hS (by omega), ⟨(congrFun (hS.1 0 (by omega)).1 13).trans x8, (congrFun (hS.1 0 (by omega)).1 14).trans x9, fun i hi => rX_s (x10 i hi) hS (by omega)⟩, fun j hj => ⟨(congrFun (hS.1 _ (by omega)).1 0).trans (x11 j hj).1, fun hb => ?_⟩, (congrFun (hS.1 1 (by omega)).1 1).trans x12, fun i hi => ?_⟩
  · unfold gQ at x1 ⊢; rw [eQ]; exact x1
  · have e1 : sL S' (f + 1) = sL S (f + 1) := (hS.1 _ (by omega)).2.2
    have e8 : sL S' (f + 8) = sL S (f + 8) := (hS.1 _ (by omega)).2.2
    unfold nX at x3 ⊢; rw [e1, e8]; exact x3
  · obtain ⟨a1, a2, a3, a4⟩ := (x11 j hj).2 hb
    exact ⟨rX_s a1 hS (by omega), dX_s a2 hS (by omega), oX_s a3 hS (by omega), eX_s a4 hS (by omega)⟩
  · have e : sR S' 2 = sR S 2 := (hS.1 2 (by omega)).2.1
    rw [e]; exact x13 i hi
theorem GM_s {S S' : gS} {F : aF} {mn ln : Nat → List Nat} {A : aW} {D : aD} {W : aO} {E : aE} {n : Nat} {P : Nat → aW} {K : Nat → aK} {t : Nat} {ch : Nat → Nat} (m : GM S F mn ln A D W E n P K t ch) (hS : sM S S') : GM S' F mn ln A D W E n P K t ch := by
  obtain ⟨m1, m2, m3, m4, m5, m6, ⟨m7, m8⟩, m9, m10, m11⟩ := m
  have hR : ∀ b, 180 ≤ b → sR S' b = sR S b := fun b hb => (hS b hb).2.1
  have hL : ∀ b, 180 ≤ b → sL S' b = sL S b := fun b hb => (hS b hb).2.2
  have hI : ∀ b, 180 ≤ b → ∀ k, sI S' b k = sI S b k := fun b hb k => congrFun (hS b hb).1 k
  have dd : ∀ j D, dM S j D → dM S' j D := by
    intro j D h
    unfold dM at h ⊢; rw [hR _ (by omega), hR _ (by omega), hR _ (by omega), hR _ (by omega)]; exact h
  have oo : ∀ j D, oM S j D → oM S' j D := by
    intro j D h
    unfold oM at h ⊢; rw [hR _ (by omega), hR _ (by omega)]; exact h
  have ee : ∀ j D, eM S j D → eM S' j D := by
    intro j D h
    unfold eM at h ⊢; rw [hR _ (by omega), hR _ (by omega), hR _ (by omega)]; exact h
  refine ⟨fMo_x m1 hR, ?_, rM_x m3 (hR _ (by omega)), dd _ _ m4, oo _ _ m5, ee _ _ m6, ⟨(hI _ (by omega) _).trans m7, fun i hi => rM_x (m8 i hi) (hR _ (by omega))⟩, fun j hj => ⟨?_, fun hb => ?_⟩, (hI _ (by omega) _).trans m10, fun i hi => ?_⟩
  · unfold nM at m2 ⊢; rw [hL _ (by omega), hL _ (by omega)]; exact m2
  · rw [hR _ (by omega)]; exact (m9 j hj).1
  · obtain ⟨b1, b2, b3, b4⟩ := (m9 j hj).2 hb
    exact ⟨rM_x b1 (hR _ (by omega)), dd _ _ b2, oo _ _ b3, ee _ _ b4⟩
  · rw [hR 181 (by omega)]; exact m11 i hi
/-- a deed: x does it, the model does it -/
theorem deed {c : Nat} {S : gS} {α : Type} {FX : gS → Option (gS × α)} {FM : gS → Option (gS × α)} (hG : Good c S)
    (h : ∀ f d w F mn ln A D W E p n P K t ch, GX S f d w F mn ln A D W E p n P K t ch → (∀ S1, sM S S1 → GM S1 F mn ln A D W E n P K t ch) → GK c F mn ln A D W E p n P K t ch → wp (FX S) (fun q => sM S q.1 ∧ ∃ f d w F mn ln A D W E p n P K t ch, GX q.1 f d w F mn ln A D W E p n P K t ch ∧ GK (c + 1) F mn ln A D W E p n P K t ch ∧ wp (FM q.1) (fun q2 => sX q.1 q2.1 ∧ GM q2.1 F mn ln A D W E n P K t ch ∧ q2.2 = q.2))) :
    ∃ S1 S2 r, FX S = some (S1, r) ∧ FM S1 = some (S2, r) ∧ Good (c + 1) S2 := by
  obtain ⟨f, d, w, F, mn, ln, A, D, W, E, p, n, t, ch, g⟩ := hG
  obtain ⟨P, K, x, m, k⟩ := GO_to g
  obtain ⟨⟨S1, r1⟩, e1, s1, f', d', w', F', mn', ln', A', D', W', E', p', n', P', K', t', ch', x', k', ⟨S2, r2⟩, e2, s2, m', e3⟩ := h f d w F mn ln A D W E p n P K t ch x (fun S1 hs => GM_s m hs) k
  have e3 : r2 = r1 := e3
  subst e3
  exact ⟨S1, S2, r2, e1, e2, f', d', w', F', mn', ln', A', D', W', E', p', n', t', ch', GO_of (GX_s x' s2) m' k'⟩
theorem GK_c {c c' : Nat} (hc : c ≤ c') {F : aF} {mn ln : Nat → List Nat} {A : aW} {D : aD} {W : aO} {E : aE} {p n : Nat} {P : Nat → aW} {K : Nat → aK} {t : Nat} {ch : Nat → Nat} (k : GK c F mn ln A D W E p n P K t ch) : GK c' F mn ln A D W E p n P K t ch := by
  obtain ⟨k1, k2, k3, k4, k5, k6, ⟨k7, k8, k9⟩, k10, k11⟩ := k
  refine ⟨k1, k2, okW_mo k3 hc, k4, k5, k6, ⟨k7, k8, fun i hi => okW_mo (k9 i hi) hc⟩, fun j hj hb => ?_, k11⟩
  obtain ⟨a, b⟩ := k10 j hj hb
  exact ⟨okW_mo a hc, b⟩
