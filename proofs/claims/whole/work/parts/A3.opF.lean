/-! front -/
theorem nfB {b : Nat} (h : b < 180 ∨ b = 181 ∨ 197 ≤ b) : b ∉ fB := by simp only [List.mem_cons, List.not_mem_nil, or_false]; omega
theorem GM_rd {S U : gS} {F : aF} {mn ln : Nat → List Nat} {A : aW} {D : aD} {W : aO} {E : aE} {n : Nat} {P : Nat → aW} {K : Nat → aK} {t : Nat} {ch : Nat → Nat} (m : GM S F mn ln A D W E n P K t ch) (ok : okF F) (h : fr fB S U) (h53 : sI U 180 53 = sI S 180 53) (h1 : sI U 180 1 = N 0) (hz : ∀ r j, j < pz r → sR U r j = sR S r j) (hl : ∀ r j, j < pl r → sL U r j = sL S r j) : GM U F mn ln A D W E n P K 0 ch := by
  obtain ⟨y1, y2, y3, y4, y5, y6, ⟨y7, y8⟩, y9, y10⟩ := m
  obtain ⟨z1, z2, z3, z4, z5, z6, z7⟩ := y1
  have k7 := ok.1
  have k6 := ok.2.1
  have k12 := ok.2.2.1
  have hR : ∀ b, 197 ≤ b → sR U b = sR S b := fun b hb => frR h (nfB (by omega))
  have p182 : ∀ j, j < 3 → sR U 182 j = sR S 182 j := fun j hj => hz 182 j hj
  have p5 : ∀ r, 185 ≤ r → r ≤ 189 → ∀ j, j < 7 → sR U r j = sR S r j := by
    intro r h1 h2 j hj
    refine hz r j ?_
    unfold pz
    rw [if_neg (by omega), if_pos ⟨h1, h2⟩]; exact hj
  have p190 : ∀ j, j < 6 → sR U 190 j = sR S 190 j := fun j hj => hz 190 j hj
  have p191 : ∀ j, j < 12 → sR U 191 j = sR S 191 j := fun j hj => hz 191 j hj
  have p192 : sR U 192 0 = sR S 192 0 := hz 192 0 (by decide)
  have p193 : sR U 193 0 = sR S 193 0 := hz 193 0 (by decide)
  have p194 : ∀ j, j < 1000 → sR U 194 j = sR S 194 j := fun j hj => hz 194 j hj
  have q183 : ∀ j, j < 7 → sL U 183 j = sL S 183 j := fun j hj => hl 183 j hj
  have q184 : ∀ j, j < 6 → sL U 184 j = sL S 184 j := fun j hj => hl 184 j hj
  have dd : ∀ j D, dM S j D → dM U j D := by
    intro j D h
    unfold dM at h ⊢; rw [hR _ (by omega), hR _ (by omega), hR _ (by omega), hR _ (by omega)]; exact h
  have oo : ∀ j D, oM S j D → oM U j D := by
    intro j D h
    unfold oM at h ⊢; rw [hR _ (by omega), hR _ (by omega)]; exact h
  have ee : ∀ j D, eM S j D → eM U j D := by
    intro j D h
    unfold eM at h ⊢; rw [hR _ (by omega), hR _ (by omega), hR _ (by omega)]; exact h
  refine ⟨⟨?_, ?_, ?_, fun i hi => ?_, fun i hi => ?_, fun i hi => ?_, fun S' q1 q2 q3 => ?_⟩, ⟨fun i hi => ?_, fun i hi => ?_⟩, rM_x y3 (hR _ (by omega)), dd _ _ y4, oo _ _ y5, ee _ _ y6, ⟨h53.trans y7, fun i hi => rM_x (y8 i hi) (hR _ (by omega))⟩, fun j hj => ⟨?_, fun hb => ?_⟩, h1, fun i hi => absurd hi (by omega)⟩
  · rw [p182 0 (by omega)]; exact z1
  · rw [p182 1 (by omega)]; exact z2
  · rw [p182 2 (by omega)]; exact z3
  · rw [p5 185 (by omega) (by omega) i (by omega), p5 186 (by omega) (by omega) i (by omega), p5 187 (by omega) (by omega) i (by omega), p5 188 (by omega) (by omega) i (by omega), p5 189 (by omega) (by omega) i (by omega), hR 222 (by omega)]; exact z4 i hi
  · rw [p190 i (by omega)]; exact z5 i hi
  · rw [p191 i (by omega)]; exact z6 i hi
  · exact z7 S' (q1.trans p192) (q2.trans p193) (fun i hi => (q3 i hi).trans (p194 i hi))
  · rw [q183 i (by omega)]; exact y2.1 i hi
  · rw [q184 i (by omega)]; exact y2.2 i hi
  · rw [hR _ (by omega)]; exact (y9 j hj).1
  · obtain ⟨b1, b2, b3, b4⟩ := (y9 j hj).2 hb
    exact ⟨rM_x b1 (hR _ (by omega)), dd _ _ b2, oo _ _ b3, ee _ _ b4⟩
abbrev aO0 : aO := (0, (fun _ => 0))
abbrev aE0 : aE := (0, (fun _ => 0), (fun _ => false))
theorem mFr57 {S0 : gS} : ∀ m i k S, i + m = 4 → m + 1 ≤ k → fr [221] S0 S → (∀ j, j < i → sR S 221 j = 0) → wp (fX12_front k 57 S (N i)) (fun r => fr [221] S0 r.1 ∧ (∀ j, j < 4 → sR r.1 221 j = 0) ∧ r.2 = 0) := by
  intro m
  induction m with
  | zero =>
    intro i k S hi hk hS h
    obtain ⟨k, rfl, -⟩ := kS (m := 0) (k := k) hk
    rw [fX12_front]
    simp only [if_true, bX12_front_57]
    rw [if_pos (show (4 : Int32) ≤ N i from (leN (a := 4) (by omega) (by omega)).mpr (by omega)), wp_some]
    exact ⟨hS, fun j hj => h j (by omega), rfl⟩
  | succ m ih =>
    intro i k S hi hk hS h
    obtain ⟨k, rfl, hk'⟩ := kS (k := k) (m := m + 1) hk
    rw [fX12_front]
    simp only [if_true, bX12_front_57]
    rw [if_neg (show ¬ (4 : Int32) ≤ N i from fun e => absurd ((leN (a := 4) (by omega) (by omega)).mp e) (by omega)), if_pos (vpN (by omega) (by omega)), clN (by omega), wp_lt, addN1, show vp_nar .boolean (0 : Int32) = 0 from nar_b (b := false)]
    refine ih (i + 1) k _ (by omega) hk' (fr_uR hS (by simp)) (fun j hj => ?_)
    rw [R_uR]
    by_cases c : j = i
    · rw [if_pos ⟨rfl, c⟩]
    · rw [if_neg (fun z => c z.2)]; exact h j (by omega)
/-- the model's front: the answer, and what stands behind it -/
def mFo (S : gS) (B : aB) (P : Nat → aW) (K : Nat → aK) (ch : Nat → Nat) (Z : gS) : Prop := GM Z (bdF B) (bdM B) (bdL B) (aFresh (bdF B)) aD0 aO0 aE0 0 P (fun j => (false, (K j).2)) 0 ch
theorem mLayAll {U : gS} {B : aB} {P : Nat → aW} {K : Nat → aK} {ch : Nat → Nat} (k : okB B) (hB : dbM U B) (h1 : sI U 180 1 = N 0) : wp (g_b1 (FX12_lays U) (fun S4 => g_b1 (FX12_laysOrder S4) (fun S5 => g_b1 (FX12_fresh0 S5) (fun S6 => g_lt (uR S6 207 0 0) (fun S7 => g_lt (uR S7 211 0 0) (fun S8 => g_lt (uR S8 213 0 0) (fun S9 => g_lt (uI S9 180 53 0) (fun S10 => fX12_front FU 57 S10 0)))))))) (fun r => (∀ b, b < 180 → r.1.1 b = U.1 b ∧ r.1.2.2.2.1 b = U.2.2.2.1 b ∧ r.1.2.2.2.2 b = U.2.2.2.2 b) ∧ r.1.2.2.1 = U.2.2.1 ∧ mFo U B P K ch r.1 ∧ r.2 = 0) := by
  obtain ⟨kF, kn, kl, ko, ko2⟩ := k
  have k7 := kF.1
  have k6 := kF.2.1
  have k12 := kF.2.2.1
  obtain ⟨a1, a2, a3, a4, a5, a6, ⟨a7, a8, a9, a10⟩, a11, a12⟩ := hB
  rw [wp_b1]
  refine wp_mono (mLaid a7 a8) ?_
  rintro V ⟨vF, v182, v183, v184, v185, v186, v187, v188, v189, v190, v191, v194, v192, v193⟩
  have e0 : sR V 182 0 = N (fN (bdF B)) := (v182 0 (by omega)).trans a1
  rw [wp_b1]
  refine wp_mono (mOrder (h := fH (bdF B)) (n := fN (bdF B)) (o := fR (bdF B)) k7 e0 (fun j hj => (v186 j (by omega)).trans (a4 j hj).2.1) ko ko2) ?_
  rintro W ⟨wF, w222⟩
  have nW : ∀ b, b ≠ 222 → b ∉ [222] := by intro b hb; simp only [List.mem_cons, List.not_mem_nil, or_false]; omega
  rw [wp_b1]
  refine wp_mono (mFresh (F := bdF B) (by rw [frR wF (nW 182 (by omega))]; exact e0) (fun i hi => by rw [frR wF (nW 185 (by omega)), v185 i (by omega)]; exact (a4 i hi).1) k7) ?_
  rintro X ⟨xF, xA⟩
  rw [wp_lt, wp_lt, wp_lt, wp_lt]
  generalize hY : uI (uR (uR (uR X 207 0 0) 211 0 0) 213 0 0) 180 53 0 = Y
  have yF : fr [180, 207, 211, 213] X Y := by
    rw [← hY]
    exact fr_uI (fr_uR (fr_uR (fr_uR fr_rf (by simp)) (by simp)) (by simp)) (by simp)
  have y207 : sR Y 207 0 = 0 := by rw [← hY, R_uI, R_uR, if_neg (by omega), R_uR, if_neg (by omega), R_self]
  have y211 : sR Y 211 0 = 0 := by rw [← hY, R_uI, R_uR, if_neg (by omega), R_self]
  have y213 : sR Y 213 0 = 0 := by rw [← hY, R_uI, R_self]
  have y53 : sI Y 180 53 = 0 := by rw [← hY, I_self]
  have y1 : sI Y 180 1 = sI X 180 1 := by rw [← hY, I_uI, if_neg (by omega)]; rfl
  clear hY
  refine wp_mono (mFr57 (S0 := Y) 4 0 FU Y (by omega) (by unfold FU; omega) fr_rf (fun j hj => by omega)) ?_
  rintro ⟨Z, z⟩ ⟨zF, z221, ez⟩
  dsimp only at zF z221 ez ⊢
  have nX : ∀ b, b ≠ 180 → b ≠ 216 → b ∉ 180 :: [216] := by intro b h1 h2; simp only [List.mem_cons, List.not_mem_nil, or_false]; omega
  have nY : ∀ b, b ≠ 180 → b ≠ 207 → b ≠ 211 → b ≠ 213 → b ∉ [180, 207, 211, 213] := by intro b h1 h2 h3 h4; simp only [List.mem_cons, List.not_mem_nil, or_false]; omega
  have nZ : ∀ b, b ≠ 221 → b ∉ [221] := by intro b hb; simp only [List.mem_cons, List.not_mem_nil, or_false]; omega
  have nV : ∀ b, b < 182 ∨ 194 < b → b ∉ lyB := by intro b hb; simp only [List.mem_cons, List.not_mem_nil, or_false]; omega
  -- from V on
  have tR : ∀ b, b ≠ 180 → b ≠ 207 → b ≠ 211 → b ≠ 213 → b ≠ 216 → b ≠ 221 → b ≠ 222 → sR Z b = sR V b := by
    intro b h1 h2 h3 h4 h5 h6 h7
    rw [frR zF (nZ b h6), frR yF (nY b h1 h2 h3 h4), frR xF.1 (nX b h1 h5), frR wF (nW b h7)]
  have tL : ∀ b, b ≠ 180 → b ≠ 207 → b ≠ 211 → b ≠ 213 → b ≠ 216 → b ≠ 221 → b ≠ 222 → sL Z b = sL V b := by
    intro b h1 h2 h3 h4 h5 h6 h7
    rw [frL zF (nZ b h6), frL yF (nY b h1 h2 h3 h4), frL xF.1 (nX b h1 h5), frL wF (nW b h7)]
  have eI1 : sI Z 180 1 = N 0 := by
    rw [frI zF (nZ 180 (by omega)), y1, xF.2.1, frI wF (nW 180 (by omega)), frI vF (nV 180 (by omega))]; exact h1
  have eI53 : sI Z 180 53 = N 0 := by rw [frI zF (nZ 180 (by omega)), y53]; rfl
  refine ⟨fun b hb => ?_, ?_, ⟨⟨?_, ?_, ?_, fun i hi => ?_, fun i hi => ?_, fun i hi => ?_, ?_⟩, ⟨fun i hi => ?_, fun i hi => ?_⟩, ?_, ⟨?_, fun i hi => absurd hi (Nat.not_lt_zero i)⟩, ⟨?_, fun i hi => absurd hi (Nat.not_lt_zero i)⟩, ⟨?_, fun i hi => absurd hi (Nat.not_lt_zero i)⟩, ⟨eI53, fun i hi => absurd hi (Nat.not_lt_zero i)⟩, fun j hj => ⟨z221 j hj, fun h => absurd h Bool.false_ne_true⟩, eI1, fun i hi => absurd hi (Nat.not_lt_zero i)⟩, ez⟩
  · obtain ⟨p1, p2, p3⟩ := zF.1 b (nZ b (by omega))
    obtain ⟨p4, p5, p6⟩ := yF.1 b (nY b (by omega) (by omega) (by omega) (by omega))
    obtain ⟨p7, p8, p9⟩ := xF.1.1 b (nX b (by omega) (by omega))
    obtain ⟨p10, p11, p12⟩ := wF.1 b (nW b (by omega))
    obtain ⟨p13, p14, p15⟩ := vF.1 b (nV b (by omega))
    exact ⟨by rw [p1, p4, p7, p10, p13], by rw [p2, p5, p8, p11, p14], by rw [p3, p6, p9, p12, p15]⟩
  · rw [zF.2, yF.2, xF.1.2, wF.2, vF.2]
  · rw [tR 182 (by omega) (by omega) (by omega) (by omega) (by omega) (by omega) (by omega)]; exact e0
  · rw [tR 182 (by omega) (by omega) (by omega) (by omega) (by omega) (by omega) (by omega)]; exact (v182 1 (by omega)).trans a2
  · rw [tR 182 (by omega) (by omega) (by omega) (by omega) (by omega) (by omega) (by omega)]; exact (v182 2 (by omega)).trans a3
  · rw [tR 185 (by omega) (by omega) (by omega) (by omega) (by omega) (by omega) (by omega), tR 186 (by omega) (by omega) (by omega) (by omega) (by omega) (by omega) (by omega), tR 187 (by omega) (by omega) (by omega) (by omega) (by omega) (by omega) (by omega), tR 188 (by omega) (by omega) (by omega) (by omega) (by omega) (by omega) (by omega), tR 189 (by omega) (by omega) (by omega) (by omega) (by omega) (by omega) (by omega), v185 i (by omega), v186 i (by omega), v187 i (by omega), v188 i (by omega), v189 i (by omega)]
    obtain ⟨q1, q2, q3, q4, q5⟩ := a4 i hi
    refine ⟨q1, q2, q3, q4, q5, ?_⟩
    rw [frR zF (nZ 222 (by omega)), frR yF (nY 222 (by omega) (by omega) (by omega) (by omega)), frR xF.1 (nX 222 (by omega) (by omega))]
    exact w222 i hi
  · rw [tR 190 (by omega) (by omega) (by omega) (by omega) (by omega) (by omega) (by omega), v190 i (by omega)]; exact a5 i hi
  · rw [tR 191 (by omega) (by omega) (by omega) (by omega) (by omega) (by omega) (by omega), v191 i (by omega)]; exact a6 i hi
  · have e192 : sR Z 192 0 = N 0 := by
      rw [tR 192 (by omega) (by omega) (by omega) (by omega) (by omega) (by omega) (by omega), v192]; rfl
    have e193 : sR Z 193 0 = N (bdC B).length := by
      rw [tR 193 (by omega) (by omega) (by omega) (by omega) (by omega) (by omega) (by omega), v193, show N (1000 + (bdC B).length) - (1000 : Int32) = N (1000 + (bdC B).length - 1000) from subN (b := 1000) (by omega), show 1000 + (bdC B).length - 1000 = (bdC B).length by omega]
    rcases kl with ⟨l1, l2, l3⟩ | ⟨l1, l2, l3, l4, l5, l6⟩
    · rw [l3]
      exact mLawN (by rw [e192, e193, l2])
    · refine mLawS e192 e193 ?_ l6 l4 l2
      have sh : ∀ (cs : List Int32) (i : Nat), i + cs.length ≤ 1000 → sgm (sR U 194) (1000 + i) cs → sgm (sR Z 194) i cs := by
        intro cs
        induction cs with
        | nil => intro i _ _; trivial
        | cons c cs ih =>
          intro i hi hg
          rw [List.length_cons] at hi
          obtain ⟨g1, g2⟩ := hg
          refine ⟨?_, ih (i + 1) (by omega) g2⟩
          rw [tR 194 (by omega) (by omega) (by omega) (by omega) (by omega) (by omega) (by omega), v194 i (by omega)]; exact g1
      exact sh (bdC B) 0 (by omega) a10
  · rw [tL 183 (by omega) (by omega) (by omega) (by omega) (by omega) (by omega) (by omega), v183 i (by omega)]; exact a11 i hi
  · rw [tL 184 (by omega) (by omega) (by omega) (by omega) (by omega) (by omega) (by omega), v184 i (by omega)]; exact a12 i hi
  · exact rM_x xA (by rw [frR zF (nZ 216 (by omega)), frR yF (nY 216 (by omega) (by omega) (by omega) (by omega))])
  · rw [frR zF (nZ 207 (by omega)), y207]; rfl
  · rw [frR zF (nZ 211 (by omega)), y211]; rfl
  · rw [frR zF (nZ 213 (by omega)), y213]; rfl
theorem mFrontA {S : gS} {F : aF} {mn ln : Nat → List Nat} {A : aW} {D : aD} {W : aO} {E : aE} {n : Nat} {P : Nat → aW} {K : Nat → aK} {t : Nat} {ch : Nat → Nat} (m : GM S F mn ln A D W E n P K t ch) (ok : okF F) (hT : okT (t, ch)) : wp (FX12_front S) (fun r => sX S r.1 ∧ r.2 = N (lnAll (t, ch) 1001 aB0 (skB (t, ch) 0)).1 ∧ ((lnAll (t, ch) 1001 aB0 (skB (t, ch) 0)).1 = 0 → mFo S (lnAll (t, ch) 1001 aB0 (skB (t, ch) 0)).2 P K ch r.1) ∧ (¬ (lnAll (t, ch) 1001 aB0 (skB (t, ch) 0)).1 = 0 → GM r.1 F mn ln A D W E n P K 0 ch)) := by
  have hlk := (lnAll_ok hT 1001 aB0 (skB (t, ch) 0) (skB_le (Nat.zero_le _)) okB0)
  have m1 := m.2.2.2.2.2.2.2.2.1
  have m2 := m.2.2.2.2.2.2.2.2.2
  unfold FX12_front
  rw [wp_lt, wp_b2]
  refine wp_mono (mAllR (S := uI S 180 0 0) (T := (t, ch)) hT (by rw [I_uI, if_neg (by omega)]; exact m1) m2) ?_
  rintro ⟨U, b⟩ ⟨⟨u1, u2, u3, u4, u5⟩, ut, uf⟩
  dsimp only at u1 u2 u3 u4 u5 ut uf ⊢
  have uF : fr fB S U := fr_tr (fr_uI fr_rf (by simp)) u1
  have lX' : ∀ b, b ∈ fB → 180 ≤ b := by decide
  generalize lnAll (t, ch) 1001 aB0 (skB (t, ch) 0) = R at *
  by_cases c : R.1 = 0
  · obtain ⟨t1, t2⟩ := ut c
    rw [t1, if_pos rfl]
    refine wp_mono (mLayAll (P := P) (K := K) (ch := ch) hlk.2 t2 u3) ?_
    rintro ⟨Z, z⟩ ⟨z1, z2, z3, z4⟩
    dsimp only at z1 z2 z3 z4
    exact ⟨sX_tr (fr_sX uF lX') ⟨z1, z2⟩, by rw [z4, c]; rfl, fun _ => z3, fun h => absurd c h⟩
  · obtain ⟨t1, t2⟩ := uf c
    rw [t1, if_neg Bool.false_ne_true, wp_some]
    exact ⟨fr_sX uF lX', t2, fun h => absurd h c, fun _ => GM_rd m ok uF ((u2 53 (by omega)).trans (by rw [I_uI, if_neg (by omega)])) u3 u4 u5⟩
