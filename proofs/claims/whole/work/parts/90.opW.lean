theorem GM_w {S S' : gS} {F : aF} {mn ln : Nat → List Nat} {A : aW} {D : aD} {W : aO} {E : aE} {n : Nat} {P : Nat → aW} {K : Nat → aK} {t : Nat} {ch : Nat → Nat} (m : GM S F mn ln A D W E n P K t ch) (hS : fr [180, 211, 212] S S') (h53 : sI S' 180 53 = sI S 180 53) (h1 : sI S' 180 1 = N 0) {W' : aO} (h0 : oM S' 0 W') (hK : ∀ j, j < 4 → (K j).1 = true → (K j).2.2.2.1.1 ≤ 7) (hw : ∀ j A, j < 4 → A.1 ≤ 7 → oM S (1 + j) A → oM S' (1 + j) A) : GM S' F mn ln A D W' E n P K 0 ch := by
  have nl : ∀ b, ¬ (b = 180 ∨ b = 211 ∨ b = 212) → b ∉ [180, 211, 212] := by intro b h hb; simp only [List.mem_cons, List.not_mem_nil, or_false] at hb; omega
  have hR : ∀ b, ¬ (b = 180 ∨ b = 211 ∨ b = 212) → sR S' b = sR S b := fun b hb => frR hS (nl b hb)
  have hL : ∀ b, ¬ (b = 180 ∨ b = 211 ∨ b = 212) → sL S' b = sL S b := fun b hb => frL hS (nl b hb)
  obtain ⟨y1, y2, y3, y4, y5, y6, ⟨y7, y8⟩, y9, y10⟩ := m
  have dd : ∀ j D, dM S j D → dM S' j D := by
    intro j D h
    unfold dM at h ⊢; rw [hR _ (by omega), hR _ (by omega), hR _ (by omega), hR _ (by omega)]; exact h
  have ee : ∀ j D, eM S j D → eM S' j D := by
    intro j D h
    unfold eM at h ⊢; rw [hR _ (by omega), hR _ (by omega), hR _ (by omega)]; exact h
  refine ⟨?_, ?_, rM_x y3 (hR _ (by omega)), dd _ _ y4, h0, ee _ _ y6, ⟨h53.trans y7, fun i hi => rM_x (y8 i hi) (hR _ (by omega))⟩, fun j hj => ⟨?_, fun hb => ?_⟩, h1, fun i hi => absurd hi (by omega)⟩
  · obtain ⟨z1, z2, z3, z4, z5, z6, z7⟩ := y1
    refine ⟨?_, ?_, ?_, fun i hi => ?_, fun i hi => ?_, fun i hi => ?_, lawM_fr z7 (hR _ (by omega)) (hR _ (by omega)) (hR _ (by omega))⟩
    · rw [hR _ (by omega)]; exact z1
    · rw [hR _ (by omega)]; exact z2
    · rw [hR _ (by omega)]; exact z3
    · rw [hR 185 (by omega), hR 186 (by omega), hR 187 (by omega), hR 188 (by omega), hR 189 (by omega), hR 222 (by omega)]
      exact z4 i hi
    · rw [hR _ (by omega)]; exact z5 i hi
    · rw [hR _ (by omega)]; exact z6 i hi
  · unfold nM at y2 ⊢; rw [hL _ (by omega), hL _ (by omega)]; exact y2
  · rw [hR _ (by omega)]; exact (y9 j hj).1
  · obtain ⟨b1, b2, b3, b4⟩ := (y9 j hj).2 hb
    exact ⟨rM_x b1 (hR _ (by omega)), dd _ _ b2, hw _ _ hj (hK j hj hb) b3, ee _ _ b4⟩
theorem GX_w {S S' : gS} {f d w : Nat} {F : aF} {mn ln : Nat → List Nat} {A : aW} {D : aD} {W : aO} {E : aE} {p n : Nat} {P : Nat → aW} {K : Nat → aK} {t : Nat} {ch : Nat → Nat} (x : GX S f d w F mn ln A D W E p n P K t ch) (hS : fr [1, 86 - w, 86 - w + 1] S S') (h1 : sI S' 1 1 = N 0) : GX S' f d w F mn ln A D W E p n P K 0 ch := by
  obtain ⟨x1, x2, x3, x4, x5, x6, x7, x8, x11, x12⟩ := x
  have hf := x1.2.2.1
  have hd := x1.2.2.2.2.2.1
  have hw := x1.2.2.2.2.2.2.2.2
  have nl : ∀ b, ¬ (b = 1 ∨ b = 86 - w ∨ b = 86 - w + 1) → b ∉ [1, 86 - w, 86 - w + 1] := by intro b h hb; simp only [List.mem_cons, List.not_mem_nil, or_false] at hb; omega
  refine ⟨?_, fX_fr x2 hS (fun j hj => nl _ (by omega)), nX_fr x3 hS (fun j hj => nl _ (by omega)), rX_fr x4 hS (fun j hj => nl _ (by omega)), dX_fr x5 hS (fun j hj => nl _ (by omega)), oX_fr x6 hS (fun j hj => nl _ (by omega)), eX_fr x7 hS (fun j hj => nl _ (by omega)), ⟨(frI hS (nl _ (by omega)) 13).trans x8.1, (frI hS (nl _ (by omega)) 14).trans x8.2.1, fun i hi => rX_fr (x8.2.2 i hi) hS (fun j hj => nl _ (by omega))⟩, fun j hj => ⟨(frI hS (nl _ (by omega)) 0).trans (x11 j hj).1, fun hb => ?_⟩, h1, fun i hi => absurd hi (by omega)⟩
  · unfold gQ at x1 ⊢; rw [frQ hS]; exact x1
  · obtain ⟨a1, a2, a3, a4⟩ := (x11 j hj).2 hb
    exact ⟨rX_fr a1 hS (fun i hi => nl _ (by omega)), dX_fr a2 hS (fun i hi => nl _ (by omega)), oX_fr a3 hS (fun i hi => nl _ (by omega)), eX_fr a4 hS (fun i hi => nl _ (by omega))⟩
theorem GX_w2 {S : gS} {f d w : Nat} {F : aF} {mn ln : Nat → List Nat} {A : aW} {D : aD} {W W' : aO} {E : aE} {p n : Nat} {P : Nat → aW} {K : Nat → aK} {t : Nat} {ch : Nat → Nat} (x : GX S f d w F mn ln A D W E p n P K t ch) (h : oX S (86 - w) W') : GX (uQ (uQ S 7 (86 - w)) 8 w) f d (86 - w) F mn ln A D W' E p n P K t ch := by
  obtain ⟨⟨q3, q4, qf, q5, q6, qd, q7, q8, qw⟩, x2, x3, x4, x5, x6, x7, x8, x11, x12⟩ := x
  refine ⟨⟨q3, q4, qf, q5, q6, qd, rfl, ?_, by omega⟩, x2, x3, x4, x5, h, x7, x8, x11, x12⟩
  show w = 86 - (86 - w)
  omega
theorem op_word {c : Nat} : Ob_word (Good c) (Good (c + 1)) := by
  intro S hG
  refine deed (FX := fun S => FX11_word S) (FM := fun S => FX12_word S) hG ?_
  intro f d w F mn ln A D W E p n P K t ch x m k
  have kt := k.2.2.2.2.2.2.2.2
  have hT : okT (t, ch) := kt
  have xt : rwX S (t, ch) := x.2.2.2.2.2.2.2.2.2
  have q := x.1
  have qw := q.2.2.2.2.2.2.2.2
  have qf := q.2.2.1
  have okf := k.1
  have oks := k.2.1
  have hf6 : fL F ≤ 6 := okf.2.1
  have hf8 : sI S f 8 = N (fL F) := x.2.1.2.2.2.1
  have ht8 : fMo S F := (m S (fun _ _ => ⟨rfl, rfl, rfl⟩)).1
  have hx := xWord (S := S) (T := (t, ch)) (f := f) (a2 := 86 - w) (L := fL F) (ns := ln) hT xt qf (by omega) hf6 oks.2 hf8 x.2.2.1.2
  have hok := aWd_ok (T := (t, ch)) (ns := ln) (L := fL F) 8 0 (fun _ => 0) (skB (t, ch) 0) (skB_le (by omega)) (by omega) ⟨by dsimp only; omega, fun i hi => absurd hi (Nat.not_lt_zero i)⟩
  have hok2 := hok.resolve_right (by have := kt.1; dsimp only; omega)
  have hm := fun S1 (hs : sM S S1) => mWord1 (S := S1) (T := (t, ch)) (L := fL F) (ns := ln) hT (m S1 hs).2.2.2.2.2.2.2.2.1 (m S1 hs).2.2.2.2.2.2.2.2.2 hf6 oks.2 (m S1 hs).1.2.1 (m S1 hs).2.1.2 hok2.1.1
  generalize aWd (t, ch) ln (fL F) 8 0 (fun _ => 0) (skB (t, ch) 0) = R at hx hok2 hm
  have kK : ∀ j, j < 4 → (K j).1 = true → (K j).2.2.2.1.1 ≤ 7 := fun j hj hb => (k.2.2.2.2.2.2.2.1 j hj hb).2.2.1.1
  unfold FX11_word
  rw [q.1, if_pos (show isFb f = true by rcases qf with e | e <;> rw [e] <;> rfl), q.2.2.2.2.2.2.2.1, if_pos (show isWdb (86 - w) = true by rcases qw with e | e <;> rw [e] <;> rfl), wp_b2]
  refine wp_mono hx ?_
  rintro ⟨S1, r⟩ ⟨a1, a2, a3, a4⟩
  dsimp only at a1 a2 a3 a4 ⊢
  have hl : ∀ b, b ∈ [1, 86 - w, 86 - w + 1] → b < 180 := by intro b hb; simp only [List.mem_cons, List.not_mem_nil, or_false] at hb; omega
  have hsM : sM S S1 := fr_sM a1 hl
  have x1 := GX_w x a1 a2
  have k1 := GK_c (c' := c + 1) (by omega) k
  obtain ⟨b1, b2, b3, b4, b5, b6, b7, b8, b9⟩ := k1
  have t0 : (0 : Nat) ≤ 1000 ∧ ∀ i, i < 0 → okC (ch i) := ⟨by omega, fun i hi => absurd hi (by omega)⟩
  have eQ : sQ S1 = sQ S := frQ a1
  by_cases e : R.1 = 0
  · rw [a3, if_pos (show N R.1 = (0 : Int32) by rw [e]; rfl), eQ, q.2.2.2.2.2.2.1, if_pos (show isWdb w = true by rcases qw with e | e <;> rw [e] <;> rfl), q.2.2.2.2.2.2.2.1, if_pos (show isWdb (86 - w) = true by rcases qw with e | e <;> rw [e] <;> rfl), wp_lt, wp_lt, wp_some]
    dsimp only
    have hsM2 : sM S (uQ (uQ S1 7 (86 - w)) 8 w) := hsM
    refine ⟨hsM2, f, d, 86 - w, F, mn, ln, A, D, R.2, E, p, n, P, K, 0, ch, GX_w2 x1 (a4 e), ⟨b1, b2, b3, b4, hok2.1, b6, b7, b8, t0⟩, ?_⟩
    refine wp_mono (hm _ hsM2) ?_
    rintro ⟨S2, y⟩ ⟨c1, c2, c3, c4, c5, c6, c7⟩
    exact ⟨fr_sX c1 (by decide), GM_w (m _ hsM2) c1 c2 c3 (c5 e) kK c7, c4⟩
  · rw [a3, if_neg (show ¬ N R.1 = (0 : Int32) from fun h => e ((eq0N (by omega)).mp h)), wp_some]
    dsimp only
    refine ⟨hsM, f, d, w, F, mn, ln, A, D, W, E, p, n, P, K, 0, ch, x1, ⟨b1, b2, b3, b4, b5, b6, b7, b8, t0⟩, ?_⟩
    refine wp_mono (hm _ hsM) ?_
    rintro ⟨S2, y⟩ ⟨c1, c2, c3, c4, c5, c6, c7⟩
    exact ⟨fr_sX c1 (by decide), GM_w (m _ hsM) c1 c2 c3 (c6 e W b5.1 (m _ hsM).2.2.2.2.1) kK c7, c4⟩
