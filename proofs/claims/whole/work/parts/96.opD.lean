theorem GM_d {S S' : gS} {F : aF} {mn ln : Nat → List Nat} {A : aW} {D : aD} {W : aO} {E : aE} {n : Nat} {P : Nat → aW} {K : Nat → aK} {t : Nat} {ch : Nat → Nat} (m : GM S F mn ln A D W E n P K t ch) (hS : fr lB S S') (h53 : sI S' 180 53 = sI S 180 53) (h1 : sI S' 180 1 = N 0) {D' : aD} (h0 : dM S' 0 D') (hK : ∀ j, j < 4 → (K j).1 = true → (K j).2.2.1.1 ≤ 40) (hw : ∀ j A, j < 4 → A.1 ≤ 40 → dM S (1 + j) A → dM S' (1 + j) A) : GM S' F mn ln A D' W E n P K 0 ch := by
  have nl : ∀ b, ¬ (b = 180 ∨ 207 ≤ b ∧ b ≤ 210) → b ∉ lB := by intro b h hb; simp only [List.mem_cons, List.not_mem_nil, or_false] at hb; omega
  have hR : ∀ b, ¬ (b = 180 ∨ 207 ≤ b ∧ b ≤ 210) → sR S' b = sR S b := fun b hb => frR hS (nl b hb)
  have hL : ∀ b, ¬ (b = 180 ∨ 207 ≤ b ∧ b ≤ 210) → sL S' b = sL S b := fun b hb => frL hS (nl b hb)
  obtain ⟨y1, y2, y3, y4, y5, y6, ⟨y7, y8⟩, y9, y10⟩ := m
  have oo : ∀ j D, oM S j D → oM S' j D := by
    intro j D h
    unfold oM at h ⊢; rw [hR _ (by omega), hR _ (by omega)]; exact h
  have ee : ∀ j D, eM S j D → eM S' j D := by
    intro j D h
    unfold eM at h ⊢; rw [hR _ (by omega), hR _ (by omega), hR _ (by omega)]; exact h
  refine ⟨?_, ?_, rM_x y3 (hR _ (by omega)), h0, oo _ _ y5, ee _ _ y6, ⟨h53.trans y7, fun i hi => rM_x (y8 i hi) (hR _ (by omega))⟩, fun j hj => ⟨?_, fun hb => ?_⟩, h1, fun i hi => absurd hi (by omega)⟩
  · obtain ⟨z1, z2, z3, z4, z5, z6, z7⟩ := y1
    refine ⟨?_, ?_, ?_, fun i hi => ?_, fun i hi => ?_, fun i hi => ?_, lawM_fr z7 (hR _ (by omega)) (hR _ (by omega)) (hR _ (by omega))⟩
    · rw [hR _ (by omega)]; exact z1
    · rw [hR _ (by omega)]; exact z2
    · rw [hR _ (by omega)]; exact z3
    · rw [hR 185 (by omega), hR 186 (by omega), hR 187 (by omega), hR 188 (by omega), hR 189 (by omega), hR 222 (by omega)]
      exact z4 i hi
    · rw [hR _ (by omega)]; exact z5 i hi
    · rw [hR _ (by omega)]; exact z6 i hi
  · unfold nM at y2 ⊢; rw [hL _ (by omega), hL _ (by omega)]; exact y2
  · rw [hR _ (by omega)]; exact (y9 j hj).1
  · obtain ⟨b1, b2, b3, b4⟩ := (y9 j hj).2 hb
    exact ⟨rM_x b1 (hR _ (by omega)), hw _ _ hj (hK j hj hb) b2, oo _ _ b3, ee _ _ b4⟩
theorem GX_d {S S' : gS} {f d w : Nat} {F : aF} {mn ln : Nat → List Nat} {A : aW} {D : aD} {W : aO} {E : aE} {p n : Nat} {P : Nat → aW} {K : Nat → aK} {t : Nat} {ch : Nat → Nat} (x : GX S f d w F mn ln A D W E p n P K t ch) (hS : fr (lA (72 - d)) S S') (h1 : sI S' 1 1 = N 0) : GX S' f d w F mn ln A D W E p n P K 0 ch := by
  obtain ⟨x1, x2, x3, x4, x5, x6, x7, x8, x11, x12⟩ := x
  have hf := x1.2.2.1
  have hd := x1.2.2.2.2.2.1
  have hw := x1.2.2.2.2.2.2.2.2
  have nl : ∀ b, ¬ (b = 1 ∨ 72 - d ≤ b ∧ b ≤ 72 - d + 3) → b ∉ lA (72 - d) := by intro b h hb; simp only [List.mem_cons, List.not_mem_nil, or_false] at hb; omega
  refine ⟨?_, fX_fr x2 hS (fun j hj => nl _ (by omega)), nX_fr x3 hS (fun j hj => nl _ (by omega)), rX_fr x4 hS (fun j hj => nl _ (by omega)), dX_fr x5 hS (fun j hj => nl _ (by omega)), oX_fr x6 hS (fun j hj => nl _ (by omega)), eX_fr x7 hS (fun j hj => nl _ (by omega)), ⟨(frI hS (nl _ (by omega)) 13).trans x8.1, (frI hS (nl _ (by omega)) 14).trans x8.2.1, fun i hi => rX_fr (x8.2.2 i hi) hS (fun j hj => nl _ (by omega))⟩, fun j hj => ⟨(frI hS (nl _ (by omega)) 0).trans (x11 j hj).1, fun hb => ?_⟩, h1, fun i hi => absurd hi (by omega)⟩
  · unfold gQ at x1 ⊢; rw [frQ hS]; exact x1
  · obtain ⟨a1, a2, a3, a4⟩ := (x11 j hj).2 hb
    exact ⟨rX_fr a1 hS (fun i hi => nl _ (by omega)), dX_fr a2 hS (fun i hi => nl _ (by omega)), oX_fr a3 hS (fun i hi => nl _ (by omega)), eX_fr a4 hS (fun i hi => nl _ (by omega))⟩
theorem GX_d2 {S : gS} {f d w : Nat} {F : aF} {mn ln : Nat → List Nat} {A : aW} {D D' : aD} {W : aO} {E : aE} {p n : Nat} {P : Nat → aW} {K : Nat → aK} {t : Nat} {ch : Nat → Nat} (x : GX S f d w F mn ln A D W E p n P K t ch) (h : dX S (72 - d) D') : GX (uQ (uQ S 5 (72 - d)) 6 d) f (72 - d) w F mn ln A D' W E p n P K t ch := by
  obtain ⟨⟨q3, q4, qf, q5, q6, qd, q7, q8, qw⟩, x2, x3, x4, x5, x6, x7, x8, x11, x12⟩ := x
  refine ⟨⟨q3, q4, qf, rfl, ?_, by omega, q7, q8, qw⟩, x2, x3, x4, h, x6, x7, x8, x11, x12⟩
  show d = 72 - (72 - d)
  omega
theorem op_day {c : Nat} : Ob_day (Good c) (Good (c + 1)) := by
  intro S hG
  refine deed (FX := fun S => FX11_day S) (FM := fun S => FX12_day S) hG ?_
  intro f d w F mn ln A D W E p n P K t ch x m k
  have kt := k.2.2.2.2.2.2.2.2
  have hT : okT (t, ch) := kt
  have xt : rwX S (t, ch) := x.2.2.2.2.2.2.2.2.2
  have q := x.1
  have qd := q.2.2.2.2.2.1
  have qf := q.2.2.1
  have okf := k.1
  have oks := k.2.1
  have hf7 : fN F ≤ 7 := okf.1
  have hx := xDay (S := S) (T := (t, ch)) (f := f) (a2 := 72 - d) (L := fN F) (mn := mn) hT xt qf (by omega) hf7 oks.1 x.2.1.2.1 x.2.2.1.1
  have hok := aDy_ok (T := (t, ch)) (mn := mn) (L := fN F) hT 41 aD0 (skB (t, ch) 0) (skB_le (by omega)) (by dsimp only) ⟨by dsimp only; omega, fun i hi => absurd hi (Nat.not_lt_zero i)⟩
  have hm := fun S1 (hs : sM S S1) => mDay1 (S := S1) (T := (t, ch)) (L := fN F) (mn := mn) hT (m S1 hs).2.2.2.2.2.2.2.2.1 (m S1 hs).2.2.2.2.2.2.2.2.2 hf7 oks.1 (m S1 hs).1.1 (m S1 hs).2.1.1
  generalize aDy (t, ch) mn (fN F) 41 aD0 (skB (t, ch) 0) = R at hx hok hm
  have kK : ∀ j, j < 4 → (K j).1 = true → (K j).2.2.1.1 ≤ 40 := fun j hj hb => (k.2.2.2.2.2.2.2.1 j hj hb).2.1.1
  unfold FX11_day
  rw [q.1, if_pos (show isFb f = true by rcases qf with e | e <;> rw [e] <;> rfl), q.2.2.2.2.1, if_pos (show isDb (72 - d) = true by rcases qd with e | e <;> rw [e] <;> rfl), wp_b2]
  refine wp_mono hx ?_
  rintro ⟨S1, r⟩ ⟨a1, a2, a3, a4⟩
  dsimp only at a1 a2 a3 a4 ⊢
  have hl : ∀ b, b ∈ lA (72 - d) → b < 180 := by intro b hb; simp only [List.mem_cons, List.not_mem_nil, or_false] at hb; omega
  have hsM : sM S S1 := fr_sM a1 hl
  have x1 := GX_d x a1 a2
  have k1 := GK_c (c' := c + 1) (by omega) k
  obtain ⟨b1, b2, b3, b4, b5, b6, b7, b8, b9⟩ := k1
  have t0 : (0 : Nat) ≤ 1000 ∧ ∀ i, i < 0 → okC (ch i) := ⟨by omega, fun i hi => absurd hi (by omega)⟩
  have eQ : sQ S1 = sQ S := frQ a1
  by_cases e : R.1 = 0
  · rw [a3, if_pos (show N R.1 = (0 : Int32) by rw [e]; rfl), eQ, q.2.2.2.1, if_pos (show isDb d = true by rcases qd with e | e <;> rw [e] <;> rfl), q.2.2.2.2.1, if_pos (show isDb (72 - d) = true by rcases qd with e | e <;> rw [e] <;> rfl), wp_lt, wp_lt, wp_some]
    dsimp only
    have hsM2 : sM S (uQ (uQ S1 5 (72 - d)) 6 d) := hsM
    refine ⟨hsM2, f, 72 - d, w, F, mn, ln, A, R.2, W, E, p, n, P, K, 0, ch, GX_d2 x1 (a4 e), ⟨b1, b2, b3, hok.1, b5, b6, b7, b8, t0⟩, ?_⟩
    refine wp_mono (hm _ hsM2) ?_
    rintro ⟨S2, y⟩ ⟨c1, c2, c3, c4, c5, c6, c7⟩
    exact ⟨fr_sX c1 (by decide), GM_d (m _ hsM2) c1 c2 c3 (c5 e) kK c7, c4⟩
  · rw [a3, if_neg (show ¬ N R.1 = (0 : Int32) from fun h => e ((eq0N (by omega)).mp h)), wp_some]
    dsimp only
    refine ⟨hsM, f, d, w, F, mn, ln, A, D, W, E, p, n, P, K, 0, ch, x1, ⟨b1, b2, b3, b4, b5, b6, b7, b8, t0⟩, ?_⟩
    refine wp_mono (hm _ hsM) ?_
    rintro ⟨S2, y⟩ ⟨c1, c2, c3, c4, c5, c6, c7⟩
    exact ⟨fr_sX c1 (by decide), GM_d (m _ hsM) c1 c2 c3 (c6 e D b4.1 (m _ hsM).2.2.2.1) kK c7, c4⟩
