/-! minutes, water, nests, undone -/
def pxN (n : Nat) : Nat := if n = 16 then 16 else n + 1
def pxP (n : Nat) (P : Nat → aW) (A : aW) (i : Nat) : aW := if n = 16 then (if i < 15 then P (i + 1) else A) else (if i < n then P i else A)
theorem GX_pt {L : List Nat} {S S' : gS} {f d w : Nat} {F : aF} {mn ln : Nat → List Nat} {A : aW} {D : aD} {W : aO} {E : aE} {p n : Nat} {P : Nat → aW} {K : Nat → aK} {t : Nat} {ch : Nat → Nat} (x : GX S f d w F mn ln A D W E p n P K t ch) (hS : fr L S S') (hl : ∀ b, b ∈ L → b = 0 ∨ 49 ≤ b ∧ b ≤ 121 ∨ b = 19 ∨ b = 33 ∨ b = 179 ∨ 180 ≤ b) {A' : aW} {p' n' : Nat} {P' : Nat → aW} (h1 : rX S' 49 A') (h2 : sI S' 0 13 = N p' ∧ sI S' 0 14 = N n' ∧ ∀ i, i < n' → rX S' (58 + 4 * ((p' + 16 - n' + i) % 16)) (P' i)) : GX S' f d w F mn ln A' D W E p' n' P' K t ch := by
  obtain ⟨x1, x2, x3, x4, x5, x6, x7, x8, x11, x12, x13⟩ := x
  have hf := x1.2.2.1
  have hd := x1.2.2.2.2.2.1
  have hw := x1.2.2.2.2.2.2.2.2
  have nl : ∀ b, ¬ (b = 0 ∨ 49 ≤ b ∧ b ≤ 121 ∨ b = 19 ∨ b = 33 ∨ b = 179 ∨ 180 ≤ b) → b ∉ L := fun b h hb => h (hl b hb)
  refine ⟨?_, fX_fr x2 hS (fun j hj => nl _ (by omega)), nX_fr x3 hS (fun j hj => nl _ (by omega)), h1, dX_fr x5 hS (fun j hj => nl _ (by omega)), oX_fr x6 hS (fun j hj => nl _ (by omega)), eX_fr x7 hS (fun j hj => nl _ (by omega)), h2, fun j hj => ⟨(frI hS (nl _ (by omega)) 0).trans (x11 j hj).1, fun hb => ?_⟩, (frI hS (nl _ (by omega)) 1).trans x12, fun i hi => ?_⟩
  · unfold gQ at x1 ⊢; rw [frQ hS]; exact x1
  · obtain ⟨a1, a2, a3, a4⟩ := (x11 j hj).2 hb
    exact ⟨rX_fr a1 hS (fun i hi => nl _ (by omega)), dX_fr a2 hS (fun i hi => nl _ (by omega)), oX_fr a3 hS (fun i hi => nl _ (by omega)), eX_fr a4 hS (fun i hi => nl _ (by omega))⟩
  · rw [frR hS (nl 2 (by omega))]; exact x13 i hi
theorem GM_pt {S S' : gS} {F : aF} {mn ln : Nat → List Nat} {A : aW} {D : aD} {W : aO} {E : aE} {n : Nat} {P : Nat → aW} {K : Nat → aK} {t : Nat} {ch : Nat → Nat} (m : GM S F mn ln A D W E n P K t ch) (hR : ∀ b, 181 ≤ b ∧ b ≤ 194 ∨ 207 ≤ b ∧ b ≤ 215 ∨ b = 219 ∨ b = 221 ∨ b = 222 → sR S' b = sR S b) (hL : ∀ b, b = 183 ∨ b = 184 → sL S' b = sL S b) {A' : aW} {n' : Nat} {P' : Nat → aW} (h1 : rM S' 216 0 A') (h2 : sI S' 180 53 = N n' ∧ ∀ i, i < n' → rM S' 220 (59 * i) (P' i)) (h3 : sI S' 180 1 = sI S 180 1) : GM S' F mn ln A' D W E n' P' K t ch := by
  obtain ⟨m1, m2, m3, m4, m5, m6, m7, m9, m10, m11⟩ := m
  have dd : ∀ j D, dM S j D → dM S' j D := by
    intro j D h
    unfold dM at h ⊢; rw [hR _ (by omega), hR _ (by omega), hR _ (by omega), hR _ (by omega)]; exact h
  have oo : ∀ j D, oM S j D → oM S' j D := by
    intro j D h
    unfold oM at h ⊢; rw [hR _ (by omega), hR _ (by omega)]; exact h
  have ee : ∀ j D, eM S j D → eM S' j D := by
    intro j D h
    unfold eM at h ⊢; rw [hR _ (by omega), hR _ (by omega), hR _ (by omega)]; exact h
  refine ⟨?_, ?_, h1, dd _ _ m4, oo _ _ m5, ee _ _ m6, h2, fun j hj => ⟨?_, fun hb => ?_⟩, h3.trans m10, fun i hi => ?_⟩
  · obtain ⟨a1, a2, a3, a4, a5, a6, a7⟩ := m1
    refine ⟨?_, ?_, ?_, fun i hi => ?_, fun i hi => ?_, fun i hi => ?_, lawM_fr a7 (hR _ (by omega)) (hR _ (by omega)) (hR _ (by omega))⟩
    · rw [hR _ (by omega)]; exact a1
    · rw [hR _ (by omega)]; exact a2
    · rw [hR _ (by omega)]; exact a3
    · rw [hR 185 (by omega), hR 186 (by omega), hR 187 (by omega), hR 188 (by omega), hR 189 (by omega), hR 222 (by omega)]
      exact a4 i hi
    · rw [hR _ (by omega)]; exact a5 i hi
    · rw [hR _ (by omega)]; exact a6 i hi
  · unfold nM at m2 ⊢; rw [hL _ (by omega), hL _ (by omega)]; exact m2
  · rw [hR _ (by omega)]; exact (m9 j hj).1
  · obtain ⟨b1, b2, b3, b4⟩ := (m9 j hj).2 hb
    exact ⟨rM_x b1 (hR _ (by omega)), dd _ _ b2, oo _ _ b3, ee _ _ b4⟩
  · rw [hR 181 (by omega)]; exact m11 i hi
theorem nx15 : ∀ p, p < 16 → (N p + 1) &&& 15 = N ((p + 1) % 16) := by decide +kernel
theorem pv15 : ∀ p, p < 16 → (N p - 1) &&& 15 = N ((p + 15) % 16) := by decide +kernel
theorem xKeep {S : gS} {f d w : Nat} {F : aF} {mn ln : Nat → List Nat} {A : aW} {D : aD} {W : aO} {E : aE} {p n : Nat} {P : Nat → aW} {K : Nat → aK} {t : Nat} {ch : Nat → Nat} (x : GX S f d w F mn ln A D W E p n P K t ch) (hp : p < 16) (hn : n ≤ 16) (hz : wSz A ≤ 40) : wp (FX11_keepPast S) (fun S' => sM S S' ∧ GX S' f d w F mn ln A D W E ((p + 1) % 16) (pxN n) (pxP n P A) K t ch) := by
  have x' := x
  obtain ⟨x1, x2, x3, x4, x5, x6, x7, ⟨x8, x9, x10⟩, x11, x12⟩ := x
  unfold FX11_keepPast
  rw [x8, if_pos (vpN hp (by omega)), clN (by omega), wp_b1]
  refine wp_mono (xCopy (S := S) (a := 58 + 4 * p) (b := 49) (Or.inl (by omega))) ?_
  rintro S2 ⟨q1, q2⟩
  rw [wp_lt, wp_lt, wp_some]
  have e13 : sI S2 0 13 = N p := by rw [frI q1 (by simp; omega)]; exact x8
  have e14 : sI S2 0 14 = N n := by rw [frI q1 (by simp; omega)]; exact x9
  have hS : fr [0, 58 + 4 * p, 58 + 4 * p + 1, 58 + 4 * p + 2, 58 + 4 * p + 3] S S2 := fr_mo q1 (by intro b hb; exact List.mem_cons.mpr (Or.inr hb))
  have f14 : sI (uI S2 0 13 (sI S2 0 13 + 1 &&& 15)) 0 14 = N n := by rw [I_uI, if_neg (by omega), e14]
  rw [e13, nx15 p hp] at *
  have hS4 : fr [0, 58 + 4 * p, 58 + 4 * p + 1, 58 + 4 * p + 2, 58 + 4 * p + 3] S (uI (uI S2 0 13 (N ((p + 1) % 16))) 0 14 (if 16 < sI (uI S2 0 13 (N ((p + 1) % 16))) 0 14 + 1 then 16 else sI (uI S2 0 13 (N ((p + 1) % 16))) 0 14 + 1)) := fr_uI (fr_uI hS (by simp)) (by simp)
  have hv : (if 16 < sI (uI S2 0 13 (N ((p + 1) % 16))) 0 14 + 1 then (16 : Int32) else sI (uI S2 0 13 (N ((p + 1) % 16))) 0 14 + 1) = N (pxN n) := by
    rw [f14, addN1]
    unfold pxN
    by_cases e : n = 16
    · rw [if_pos e, if_pos (show (16 : Int32) < N (n + 1) from (ltN (a := 16) (by omega) (by omega)).mpr (by omega))]; rfl
    · rw [if_neg e, if_neg (show ¬ (16 : Int32) < N (n + 1) from fun c => absurd ((ltN (a := 16) (by omega) (by omega)).mp c) (by omega))]
  rw [hv] at hS4 ⊢
  have nl : ∀ b, b ≠ 0 → ¬ (58 + 4 * p ≤ b ∧ b ≤ 58 + 4 * p + 3) → b ∉ [0, 58 + 4 * p, 58 + 4 * p + 1, 58 + 4 * p + 2, 58 + 4 * p + 3] := by
    intro b h0 h1
    simp only [List.mem_cons, List.not_mem_nil, or_false]; omega
  have i13 : sI (uI (uI S2 0 13 (N ((p + 1) % 16))) 0 14 (N (pxN n))) 0 13 = N ((p + 1) % 16) := by
    rw [I_uI, if_neg (by omega), I_uI, if_pos ⟨rfl, rfl⟩]
  have i14 : sI (uI (uI S2 0 13 (N ((p + 1) % 16))) 0 14 (N (pxN n))) 0 14 = N (pxN n) := by
    rw [I_uI, if_pos ⟨rfl, rfl⟩]
  have new : rX (uI (uI S2 0 13 (N ((p + 1) % 16))) 0 14 (N (pxN n))) (58 + 4 * p) A := by
    have := q2 A x4 hz
    refine rX_eq this (fun k => ?_) rfl rfl rfl
    rw [I_uI, if_neg (by omega), I_uI, if_neg (by omega)]
  revert hS4 i13 i14 new
  generalize (uI (uI S2 0 13 (N ((p + 1) % 16))) 0 14 (N (pxN n))) = T
  intro hS4 i13 i14 new
  refine ⟨fr_sM hS4 ?_, GX_pt x' hS4 ?_ (rX_fr x4 hS4 (fun j hj => nl _ (by omega) (by omega))) ⟨i13, i14, fun i hi => ?_⟩⟩
  · intro b hb
    simp only [List.mem_cons, List.not_mem_nil, or_false] at hb; omega
  · intro b hb
    simp only [List.mem_cons, List.not_mem_nil, or_false] at hb; omega
  · skip
    unfold pxN at hi ⊢
    unfold pxP
    by_cases e : n = 16
    · rw [if_pos e] at hi ⊢
      rw [if_pos e]
      by_cases e2 : i < 15
      · rw [if_pos e2]
        have o := x10 (i + 1) (by omega)
        have ei : ((p + 1) % 16 + 16 - 16 + i) % 16 = (p + 16 - n + (i + 1)) % 16 := by omega
        rw [ei]
        exact rX_fr o hS4 (fun j hj => nl _ (by omega) (by omega))
      · rw [if_neg e2]
        have ei : ((p + 1) % 16 + 16 - 16 + i) % 16 = p := by omega
        rw [ei]; exact new
    · rw [if_neg e] at hi ⊢
      rw [if_neg e]
      by_cases e2 : i < n
      · rw [if_pos e2]
        have o := x10 i e2
        have ei : ((p + 1) % 16 + 16 - (n + 1) + i) % 16 = (p + 16 - n + i) % 16 := by omega
        rw [ei]
        exact rX_fr o hS4 (fun j hj => nl _ (by omega) (by omega))
      · rw [if_neg e2]
        have ei : ((p + 1) % 16 + 16 - (n + 1) + i) % 16 = p := by omega
        rw [ei]; exact new
theorem mShift {S : gS} {Q : gS → Prop} {K : Nat} (hc : ∀ k S', K ≤ k → fr [180, 220] S S' → sI S' 180 1 = sI S 180 1 → sI S' 180 53 = sI S 180 53 - 1 → (∀ j, j < 885 → sR S' 220 j = sR S 220 (j + 59)) → wp (fX12_keeps k 49 S' 0) Q) : ∀ m i k S', i + m = 885 → K + m + 1 ≤ k → fm [220] S S' → (∀ j, j < i → sR S' 220 j = sR S 220 (j + 59)) → (∀ j, i ≤ j → sR S' 220 j = sR S 220 j) → wp (fX12_keeps k 11 S' (N i)) Q := by
  intro m
  induction m with
  | zero =>
    intro i k S' hi hk hS h1 h2
    obtain ⟨k, rfl, hk'⟩ := kS (m := K) hk
    rw [fX12_keeps]
    simp only [bX12_keeps_11, if_true]
    have : i = 885 := by omega
    subst this
    rw [if_pos (by decide), wp_lt]
    refine hc k _ hk' (fr_uI hS.1 (by simp)) ?_ ?_ h1
    · rw [I_uI, if_neg (by omega)]; exact hS.2.1
    · rw [I_uI, if_pos ⟨rfl, rfl⟩, hS.2.2]
  | succ m ih =>
    intro i k S' hi hk hS h1 h2
    obtain ⟨k, rfl, hk'⟩ := kS (m := K + m + 1) hk
    rw [fX12_keeps]
    simp only [bX12_keeps_11, if_true]
    rw [show (885 : Int32) = N 885 from rfl, if_neg (fun c => absurd ((leN (by omega) (by omega)).mp c) (by omega)), show (59 : Int32) = N 59 from rfl, addN, if_pos (vpN (by omega) (by omega)), if_pos (vpN (by omega) (by omega)), clN (by omega), clN (by omega), wp_lt, addN1]
    refine ih (i + 1) k _ (by omega) hk' (fm_uR hS (by simp)) (fun j hj => ?_) (fun j hj => ?_)
    · rw [R_uR]
      by_cases e : j = i
      · subst e
        rw [if_pos ⟨rfl, rfl⟩, h2 _ (by omega)]
      · rw [if_neg (by omega)]; exact h1 j (by omega)
    · rw [R_uR, if_neg (by omega)]; exact h2 j (by omega)
theorem mKeep49 {S S0 : gS} {k q : Nat} (hk : 1 ≤ k) (hq : q < 16) (h53 : sI S 180 53 = N q) (hS : fr [180, 220] S0 S) (h1 : sI S 180 1 = sI S0 180 1) : wp (fX12_keeps k 49 S 0) (fun T => fr [180, 220] S0 T ∧ sI T 180 1 = sI S0 180 1 ∧ sI T 180 53 = N (q + 1) ∧ (∀ j, j < 59 → sR T 220 (59 * q + j) = sR S 216 (0 + j)) ∧ (∀ j, j < 59 * q → sR T 220 j = sR S 220 j)) := by
  obtain ⟨k, rfl, -⟩ := kS (m := 0) hk
  rw [fX12_keeps]
  simp only [if_true]
  rw [if_neg (by decide)]
  simp only [bX12_keeps_49]
  rw [h53, wp_b1, show (59 : Int32) * N q = N (59 * q) from mulN (a := 59)]
  refine wp_mono (mCopy (S := S) (a0 := 216) (m0 := 59) (o0 := 0) (a2 := 220) (m2 := 944) (o2 := 59 * q) (by omega) (by omega) (by omega) (by omega) (by omega) (by omega)) ?_
  rintro T ⟨q1, q2, q3⟩
  rw [wp_lt, wp_some, q1.2.2, h53, addN1]
  refine ⟨fr_uI (fr_tr hS q1.1) (by simp), ?_, ?_, q2, fun j hj => q3 j (Or.inl hj)⟩
  · rw [I_uI, if_neg (by omega), q1.2.1]; exact h1
  · rw [I_uI, if_pos ⟨rfl, rfl⟩]
theorem mKeep {S : gS} {F : aF} {mn ln : Nat → List Nat} {A : aW} {D : aD} {W : aO} {E : aE} {n : Nat} {P : Nat → aW} {K : Nat → aK} {t : Nat} {ch : Nat → Nat} (m : GM S F mn ln A D W E n P K t ch) (hn : n ≤ 16) (hz : wSz A ≤ 40) (hP : ∀ i, i < n → wSz (P i) ≤ 40) : wp (FX12_keeps S) (fun S' => sX S S' ∧ GM S' F mn ln A D W E (pxN n) (pxP n P A) K t ch) := by
  have m' := m
  obtain ⟨m1, m2, m3, m4, m5, m6, ⟨m7, m8⟩, m9, m10, m11⟩ := m
  have nl : ∀ b, b ≠ 180 → b ≠ 220 → b ∉ [180, 220] := by
    intro b h0 h1
    simp only [List.mem_cons, List.not_mem_nil, or_false]; omega
  have fin : ∀ T, fr [180, 220] S T → sI T 180 1 = sI S 180 1 → sI T 180 53 = N (pxN n) → (∀ i, i < pxN n → rM T 220 (59 * i) (pxP n P A i)) → sX S T ∧ GM T F mn ln A D W E (pxN n) (pxP n P A) K t ch := by
    intro T h1 h2 h3 h4
    refine ⟨fr_sX h1 (by intro b hb; simp only [List.mem_cons, List.not_mem_nil, or_false] at hb; omega), GM_pt m' (fun b hb => frR h1 (nl b (by omega) (by omega))) (fun b hb => frL h1 (nl b (by omega) (by omega))) (rM_x m3 (frR h1 (nl 216 (by omega) (by omega)))) ⟨h3, h4⟩ h2⟩
  unfold FX12_keeps
  rw [m7]
  by_cases e : n = 16
  · subst e
    rw [if_pos (show N 16 = (16 : Int32) from rfl)]
    refine mShift (S := S) (K := 10) ?_ 885 0 FU S (by omega) (by unfold FU; omega) fm_rf (fun j hj => by omega) (fun j hj => rfl)
    intro k S' hk hS h1 h53 hR
    rw [m7] at h53
    refine wp_mono (mKeep49 (q := 15) (by omega) (by omega) (h53.trans (by decide)) hS h1) ?_
    rintro T ⟨t1, t2, t3, t4, t5⟩
    refine fin T t1 t2 t3 (fun i hi => ?_)
    unfold pxN at hi
    rw [if_pos rfl] at hi
    unfold pxP
    rw [if_pos rfl]
    by_cases e2 : i < 15
    · rw [if_pos e2]
      refine rM_cp (m8 (i + 1) (by omega)) (hP (i + 1) (by omega)) (fun j hj => ?_)
      rw [t5 _ (by omega), hR _ (by omega)]
      congr 1; omega
    · rw [if_neg e2]
      have : i = 15 := by omega
      subst this
      refine rM_cp m3 hz (fun j hj => ?_)
      rw [t4 j hj, frR hS (nl 216 (by omega) (by omega))]
  · rw [if_neg (show ¬ N n = (16 : Int32) from fun c => e ((eqN (b := 16) (by omega) (by omega)).mp c))]
    refine wp_mono (mKeep49 (S0 := S) (q := n) (by unfold FU; omega) (by omega) m7 fr_rf rfl) ?_
    rintro T ⟨t1, t2, t3, t4, t5⟩
    refine fin T t1 t2 (by unfold pxN; rw [if_neg e]; exact t3) (fun i hi => ?_)
    unfold pxN at hi
    rw [if_neg e] at hi
    unfold pxP
    rw [if_neg e]
    by_cases e2 : i < n
    · rw [if_pos e2]
      exact rM_cp (m8 i e2) (hP i e2) (fun j hj => t5 _ (by omega))
    · rw [if_neg e2]
      have : i = n := by omega
      subst this
      exact rM_cp m3 hz (fun j hj => t4 j hj)
theorem GK_keep {c : Nat} {F : aF} {mn ln : Nat → List Nat} {A : aW} {D : aD} {W : aO} {E : aE} {p n : Nat} {P : Nat → aW} {K : Nat → aK} {t : Nat} {ch : Nat → Nat} (k : GK c F mn ln A D W E p n P K t ch) {A' : aW} (hA : okW F c A') {A2 : aW} (hA2 : okW F c A2) : GK c F mn ln A2 D W E ((p + 1) % 16) (pxN n) (pxP n P A') K t ch := by
  obtain ⟨k1, k2, k3, k4, k5, k6, ⟨k7, k8, k9⟩, k10, k11⟩ := k
  refine ⟨k1, k2, hA2, k4, k5, k6, ⟨by omega, by unfold pxN; split <;> omega, fun i hi => ?_⟩, k10, k11⟩
  unfold pxN at hi
  unfold pxP
  split at hi
  · rename_i e
    rw [if_pos e]
    split
    · exact k9 _ (by omega)
    · exact hA
  · rename_i e
    rw [if_neg e]
    split
    · exact k9 _ (by omega)
    · exact hA
theorem GM_th {S : gS} {F : aF} {mn ln : Nat → List Nat} {A : aW} {D : aD} {W : aO} {E : aE} {n : Nat} {P : Nat → aW} {K : Nat → aK} {t : Nat} {ch : Nat → Nat} {y : Int32} (m : GM S F mn ln A D W E n P K t ch) : GM (uI S 180 0 y) F mn ln A D W E n P K t ch :=
  GM_pt (S' := uI S 180 0 y) m (fun _ _ => rfl) (fun _ _ => rfl) m.2.2.1 ⟨by rw [I_uI, if_neg (by omega)]; exact m.2.2.2.2.2.2.1.1, m.2.2.2.2.2.2.1.2⟩ (by rw [I_uI, if_neg (by omega)])
theorem sX_th {S : gS} {y : Int32} : sX S (uI S 180 0 y) := fr_sX (L := [180]) (fr_uI fr_rf (by simp)) (by simp)
theorem op_minute {c : Nat} (hc : c ≤ 1000) : Ob_minute (Good c) (Good (c + 1)) := by
  intro S hG
  refine deed (FX := fun S => FX11_minute S) (FM := fun S => FX12_minute S) hG ?_
  intro f d w F mn ln A D W E p n P K t ch x m k
  have ok := k.1
  have okA := k.2.2.1
  have hmi := okA.2.1
  have hp := k.2.2.2.2.2.2.1
  unfold FX11_minute
  rw [wp_b1]
  refine wp_mono (xKeep x hp.1 hp.2.1 okA.1) ?_
  rintro S1 ⟨q1, q2⟩
  have hq : sQ S1 3 = f := q2.1.1
  have hF := q2.2.1
  have hA := q2.2.2.2.1
  rw [hq, fbF hF.1, if_pos rfl, if_pos rfl, wp_b2, hA.1, xRain hF ok (by omega), wp_some, wp_b2]
  refine wp_mono (xPass hF ok (Or.inl rfl) hA okA.1) ?_
  rintro ⟨S2, r⟩ ⟨r1, r2, r3, -⟩
  rw [wp_some]
  have hf := hF.1
  have okA' := okPass ok (aRain_b ok (wMi A)) okA
  have hl : ∀ b, b ∈ [49, 49 + 1, 49 + 2, 49 + 3, f + 13] → 49 ≤ b ∧ b ≤ 52 ∨ b = 19 ∨ b = 33 := by
    intro b hb
    simp only [List.mem_cons, List.not_mem_nil, or_false] at hb; omega
  have hp2 := q2.2.2.2.2.2.2.2.1
  refine ⟨sM_tr q1 (fr_sM r1 (fun b hb => by have := hl b hb; omega)), f, d, w, F, mn, ln, aT F A, D, W, E, _, _, _, K, t, ch, GX_pt q2 r1 (fun b hb => by have := hl b hb; omega) r2 ⟨?_, ?_, fun i hi => rX_fr (hp2.2.2 i hi) r1 (fun j hj hm => by have := hl _ hm; omega)⟩, GK_keep (GK_c (by omega) k) (okW_mo okA (by omega)) okA', ?_⟩
  · rw [frI r1 (fun hm => by have := hl _ hm; omega)]; exact hp2.1
  · rw [frI r1 (fun hm => by have := hl _ hm; omega)]; exact hp2.2.1
  · have m1 := m S2 (sM_tr q1 (fr_sM r1 (fun b hb => by have := hl b hb; omega)))
    unfold FX12_minute
    rw [wp_lt, wp_b1]
    refine wp_mono (mKeep (GM_th m1) hp.2.1 okA.1 (fun i hi => (hp.2.2 i hi).1)) ?_
    rintro S3 ⟨t1, t2⟩
    rw [wp_b2]
    refine wp_mono (mTold t2.1 ok t2.2.2.1 okA (by omega)) ?_
    rintro ⟨S4, y⟩ ⟨u1, u2, u3, -⟩
    rw [wp_some]
    have hs4 : sX S3 S4 := fr_sX u1.1 (by decide)
    refine ⟨sX_tr sX_th (sX_tr t1 hs4), GM_pt t2 (fun b hb => fmR u1 (by simp only [List.mem_cons, List.not_mem_nil, or_false]; omega) (by omega)) (fun b hb => fmL u1 (by simp only [List.mem_cons, List.not_mem_nil, or_false]; omega) (by omega)) u2 ⟨u1.2.2.trans t2.2.2.2.2.2.2.1.1, fun i hi => rM_x (t2.2.2.2.2.2.2.1.2 i hi) (fmR u1 (by decide) (by decide))⟩ u1.2.1, ?_⟩
    exact u3.trans r3.symm
