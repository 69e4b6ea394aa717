/-! marks -/
abbrev kL (a : Nat) : List Nat := [a, a + 1, a + 2, a + 3, a + 4, a + 5, a + 6, a + 7, a + 8, a + 9, a + 10, a + 11, a + 12, a + 13]
theorem kL_n {a b : Nat} (h : ¬ (a ≤ b ∧ b ≤ a + 13)) : b ∉ kL a := by
  intro hb
  simp only [List.mem_cons, List.not_mem_nil, or_false] at hb; omega
theorem kL_s {a : Nat} {l : List Nat} (h : ∀ b, b ∈ l → a ≤ b ∧ b ≤ a + 13) : ∀ b, b ∈ l → b ∈ kL a := by
  intro b hb
  have := h b hb
  simp only [List.mem_cons, List.not_mem_nil, or_false]; omega
theorem kL_b {a b : Nat} (h : b ∈ kL a) : a ≤ b ∧ b ≤ a + 13 := by
  simp only [List.mem_cons, List.not_mem_nil, or_false] at h; omega
theorem mMarkIn {S : gS} {j to fm0 : Nat} {b : Bool} {k : Nat} {Q : gS × Bool → Prop} (hj : j < 4) (hk : 3 ≤ k) (h : ∀ k, 1 ≤ k → wp (bX12_mark_61 (fX12_mark k) (uR S 221 j 1) (N j) (g_b b) (if b = true then N (1 + j) else N 0) (if b = true then N 0 else N (1 + j))) Q) : wp (fX12_mark (k + 1) 29 S (N j) (g_b b) 0 0) Q := by
  obtain ⟨k, rfl, hk1⟩ := kS (m := 2) hk
  obtain ⟨k, rfl, hk2⟩ := kS (m := 1) hk1
  rw [fX12_mark]
  simp only [if_true, bX12_mark_29]
  rw [if_pos (vpN hj (by omega)), clN (by omega), wp_lt, show vp_nar .boolean (1 : Int32) = 1 from nar_b (b := true)]
  have h1 := h k hk2
  have e1 : (1 : Int32) + N j = N (1 + j) := addN (a := 1)
  cases b with
  | false =>
    rw [if_pos (show g_b false = 0 from rfl), fX12_mark]
    simp only [if_true]
    rw [if_neg (by decide)]
    simp only [bX12_mark_48]
    rw [if_pos (show g_b false = 0 from rfl), fX12_mark]
    simp only [if_true]
    rw [if_neg (by decide), if_neg (by decide), e1]
    exact h1
  | true =>
    rw [if_neg (show ¬ g_b true = 0 by decide), fX12_mark]
    simp only [if_true]
    rw [if_neg (by decide)]
    simp only [bX12_mark_48]
    rw [if_neg (show ¬ g_b true = 0 by decide), fX12_mark]
    simp only [if_true]
    rw [if_neg (by decide), if_neg (by decide), e1]
    exact h1
theorem dM_f {L : List Nat} {S S' : gS} {j : Nat} {D : aD} (h : dM S j D) (hS : fm L S S') (hl : ∀ b, 207 ≤ b ∧ b ≤ 210 → b ∉ L) : dM S' j D := by
  unfold dM at h ⊢; rw [fmR hS (hl _ (by omega)) (by omega), fmR hS (hl _ (by omega)) (by omega), fmR hS (hl _ (by omega)) (by omega), fmR hS (hl _ (by omega)) (by omega)]; exact h
theorem oM_f {L : List Nat} {S S' : gS} {j : Nat} {D : aO} (h : oM S j D) (hS : fm L S S') (hl : ∀ b, 211 ≤ b ∧ b ≤ 212 → b ∉ L) : oM S' j D := by
  unfold oM at h ⊢; rw [fmR hS (hl _ (by omega)) (by omega), fmR hS (hl _ (by omega)) (by omega)]; exact h
theorem eM_f {L : List Nat} {S S' : gS} {j : Nat} {D : aE} (h : eM S j D) (hS : fm L S S') (hl : ∀ b, 213 ≤ b ∧ b ≤ 215 → b ∉ L) : eM S' j D := by
  unfold eM at h ⊢; rw [fmR hS (hl _ (by omega)) (by omega), fmR hS (hl _ (by omega)) (by omega), fmR hS (hl _ (by omega)) (by omega)]; exact h
abbrev mkL : List Nat := [207, 208, 209, 210, 211, 212, 213, 214, 215, 221]
theorem mkL_n {b : Nat} (h : ¬ (207 ≤ b ∧ b ≤ 215) ∧ b ≠ 221) : b ∉ mkL := by
  intro hb
  simp only [List.mem_cons, List.not_mem_nil, or_false] at hb; omega
/-- days, words and seen go from one place to another -/
theorem mLays {S : gS} {a b : Nat} {D : aD} {W : aO} {E : aE} (ha : a < 5) (hb : b < 5) (hab : a ≠ b) (hD : dM S a D) (h40 : D.1 ≤ 40) (hW : oM S a W) (h7 : W.1 ≤ 7) (hE : eM S a E) (h8 : E.1 ≤ 8) {Q : gS × Bool → Prop} {G : gS → Option (gS × Bool)}
    (h : ∀ T, fm mkL S T → sR T 221 = sR S 221 → dM T b D → oM T b W → eM T b E → (∀ j D, j < 6 → j ≠ b → D.1 ≤ 40 → dM S j D → dM T j D) → (∀ j D, j < 6 → j ≠ b → D.1 ≤ 7 → oM S j D → oM T j D) → (∀ j D, j < 5 → j ≠ b → D.1 ≤ 8 → eM S j D → eM T j D) → wp (G T) Q) : wp (g_b1 (FX12_laysLines S (N a) (N b)) (fun S1 => g_b1 (FX12_laysWord S1 (N a) (N b)) (fun S2 => g_b1 (FX12_laysSeen S2 (N a) (N b)) G))) Q := by
  rw [wp_b1]
  refine wp_mono (mLines (S := S) (a := a) (b := b) (by omega) (by omega) hab) ?_
  rintro S1 ⟨q1, q2, q3⟩
  rw [wp_b1]
  refine wp_mono (mWord (S := S1) (a := a) (b := b) (by omega) (by omega) hab) ?_
  rintro S2 ⟨r1, r2, r3⟩
  rw [wp_b1]
  have n1 : ∀ b, b ≤ 206 ∨ 211 ≤ b → b ∉ [207, 208, 209, 210] := by
    intro b h hb; simp only [List.mem_cons, List.not_mem_nil, or_false] at hb; omega
  have n2 : ∀ b, b ≤ 210 ∨ 213 ≤ b → b ∉ [211, 212] := by
    intro b h hb; simp only [List.mem_cons, List.not_mem_nil, or_false] at hb; omega
  have n3 : ∀ b, b ≤ 212 ∨ 216 ≤ b → b ∉ [213, 214, 215] := by
    intro b h hb; simp only [List.mem_cons, List.not_mem_nil, or_false] at hb; omega
  refine wp_mono (mSeen (S := S2) (E := E) ha hb hab (eM_f (eM_f hE q1 (fun b hb => n1 b (by omega))) r1 (fun b hb => n2 b (by omega))) h8) ?_
  rintro S3 ⟨s1, s2, s3⟩
  refine h S3 (fm_tr (fm_mo q1 (by decide)) (fm_tr (fm_mo r1 (by decide)) (fm_mo s1 (by decide)))) ?_ ?_ ?_ s2 ?_ ?_ ?_
  · rw [fmR s1 (n3 _ (by omega)) (by omega), fmR r1 (n2 _ (by omega)) (by omega), fmR q1 (n1 _ (by omega)) (by omega)]
  · exact dM_f (dM_f (q2 D hD h40) r1 (fun b hb => n2 b (by omega))) s1 (fun b hb => n3 b (by omega))
  · exact oM_f (r2 W (oM_f hW q1 (fun b hb => n1 b (by omega))) h7) s1 (fun b hb => n3 b (by omega))
  · intro j D hj hne h40 hD
    exact dM_f (dM_f (q3 j D hj hne h40 hD) r1 (fun b hb => n2 b (by omega))) s1 (fun b hb => n3 b (by omega))
  · intro j D hj hne h40 hD
    exact oM_f (r3 j D hj hne h40 (oM_f hD q1 (fun b hb => n1 b (by omega)))) s1 (fun b hb => n3 b (by omega))
  · intro j D hj hne h40 hD
    exact s3 j D hj hne h40 (eM_f (eM_f hD q1 (fun b hb => n1 b (by omega))) r1 (fun b hb => n2 b (by omega)))
theorem op_mark {c : Nat} : Ob_mark (Good c) (Good (c + 1)) := by
  intro S p0 p1 hG
  refine deed (FX := fun S => FX11_mark S p0 (g_b p1)) (FM := fun S => FX12_mark S p0 (g_b p1)) hG ?_
  intro f d w F mn ln A D W E p n P K t ch x m k
  have m0 := m S (fun _ _ => ⟨rfl, rfl, rfl⟩)
  obtain ⟨k1, k2, k3, k4, k5, k6, k7, k8, k9⟩ := k
  have x' := x
  have kk : GK c F mn ln A D W E p n P K t ch := ⟨k1, k2, k3, k4, k5, k6, k7, k8, k9⟩
  obtain ⟨x1, x2, x3, x4, x5, x6, x7, ⟨x8, x9, x10⟩, x11, x12, x13⟩ := x
  have hf := x1.2.2.1
  have hd := x1.2.2.2.2.2.1
  have hw := x1.2.2.2.2.2.2.2.2
  by_cases b0 : inr 0 4 p0
  · have b0' := b0
    obtain ⟨j, -, j1, j2, rfl⟩ := b0
    unfold FX11_mark
    rw [if_neg (nN_lt0 j2), if_pos (show N j < 4 from (ltN (b := 4) j2 (by omega)).mpr j1), if_pos (vpN j1 j2), clN j2]
    cases p1 with
    | false =>
      rw [if_pos (show g_b false = 0 from rfl), wp_lt, wp_b1]
      have hS1 : fr (kL (123 + 14 * j)) S (uI S (123 + 14 * j) 0 (g_b true)) := fr_uI fr_rf (by simp)
      have i1 : sI (uI S (123 + 14 * j) 0 (g_b true)) (123 + 14 * j) 0 = g_b true := by rw [I_uI, if_pos ⟨rfl, rfl⟩]
      revert hS1 i1
      generalize uI S (123 + 14 * j) 0 (g_b true) = S1
      intro hS1 i1
      refine wp_mono (xCopy (S := S1) (a := 123 + 14 * j + 1) (b := 49) (Or.inl (by omega))) ?_
      rintro S2 ⟨q1, q2⟩
      have cA := q2 A (rX_fr x4 hS1 (fun i hi => kL_n (by omega))) k3.1
      have hS2 : fr (kL (123 + 14 * j)) S S2 := fr_tr hS1 (fr_mo q1 (kL_s (by intro b hb; simp only [List.mem_cons, List.not_mem_nil, or_false] at hb; omega)))
      have eQ2 : sQ S2 5 = d := by rw [frQ hS2]; exact x1.2.2.2.1
      rw [eQ2, dbF hd, if_pos rfl, wp_b1]
      refine wp_mono (xCopyD (S := S2) (a := 123 + 14 * j + 5) (b := d) (Or.inl (by omega))) ?_
      rintro S3 ⟨r1, r2⟩
      have cD := r2 D (dX_fr x5 hS2 (fun i hi => kL_n (by omega))) k4.1
      have hS3 : fr (kL (123 + 14 * j)) S S3 := fr_tr hS2 (fr_mo r1 (kL_s (by intro b hb; simp only [List.mem_cons, List.not_mem_nil, or_false] at hb; omega)))
      have nr : ∀ b, ¬ (123 + 14 * j + 5 ≤ b ∧ b ≤ 123 + 14 * j + 8) → b ∉ [123 + 14 * j + 5, 123 + 14 * j + 5 + 1, 123 + 14 * j + 5 + 2, 123 + 14 * j + 5 + 3] := by
        intro b h hb; simp only [List.mem_cons, List.not_mem_nil, or_false] at hb; omega
      have cA3 := rX_fr cA r1 (fun i hi => nr _ (by omega))
      have eQ3 : sQ S3 7 = w := by rw [frQ hS3]; exact x1.2.2.2.2.2.2.1
      rw [eQ3, wdF hw, if_pos rfl, wp_b1]
      refine wp_mono (xCopyO (S := S3) (a := 123 + 14 * j + 9) (b := w) (Or.inl (by omega))) ?_
      rintro S4 ⟨s1, s2⟩
      have cO := s2 W (oX_fr x6 hS3 (fun i hi => kL_n (by omega))) k5.1
      have hS4 : fr (kL (123 + 14 * j)) S S4 := fr_tr hS3 (fr_mo s1 (kL_s (by intro b hb; simp only [List.mem_cons, List.not_mem_nil, or_false] at hb; omega)))
      have ns : ∀ b, ¬ (123 + 14 * j + 9 ≤ b ∧ b ≤ 123 + 14 * j + 10) → b ∉ [123 + 14 * j + 9, 123 + 14 * j + 9 + 1] := by
        intro b h hb; simp only [List.mem_cons, List.not_mem_nil, or_false] at hb; omega
      have cA4 := rX_fr cA3 s1 (fun i hi => ns _ (by omega))
      have cD4 := dX_fr cD s1 (fun i hi => ns _ (by omega))
      rw [wp_b1]
      refine wp_mono (xCopyE (S := S4) (a := 123 + 14 * j + 11) (b := 46) (Or.inl (by omega)) (eX_fr x7 hS4 (fun i hi => kL_n (by omega))) k6.1) ?_
      rintro S5 ⟨t1, t2⟩
      have hS5 : fr (kL (123 + 14 * j)) S S5 := fr_tr hS4 (fr_mo t1 (kL_s (by intro b hb; simp only [List.mem_cons, List.not_mem_nil, or_false] at hb; omega)))
      have nt : ∀ b, ¬ (123 + 14 * j + 11 ≤ b ∧ b ≤ 123 + 14 * j + 13) → b ∉ [123 + 14 * j + 11, 123 + 14 * j + 11 + 1, 123 + 14 * j + 11 + 2] := by
        intro b h hb; simp only [List.mem_cons, List.not_mem_nil, or_false] at hb; omega
      have cA5 := rX_fr cA4 t1 (fun i hi => nt _ (by omega))
      have cD5 := dX_fr cD4 t1 (fun i hi => nt _ (by omega))
      have cO5 := oX_fr cO t1 (fun i hi => nt _ (by omega))
      have nq : ∀ b, ¬ (123 + 14 * j + 1 ≤ b ∧ b ≤ 123 + 14 * j + 4) → b ∉ [123 + 14 * j + 1, 123 + 14 * j + 1 + 1, 123 + 14 * j + 1 + 2, 123 + 14 * j + 1 + 3] := by
        intro b h hb; simp only [List.mem_cons, List.not_mem_nil, or_false] at hb; omega
      have i5 : sI S5 (123 + 14 * j) 0 = g_b true := by
        rw [frI t1 (nt _ (by omega)), frI s1 (ns _ (by omega)), frI r1 (nr _ (by omega)), frI q1 (nq _ (by omega))]; exact i1
      rw [wp_some]
      have hsM : sM S S5 := fr_sM hS5 (fun b hb => by have := kL_b hb; omega)
      refine ⟨hsM, f, d, w, F, mn, ln, A, D, W, E, p, n, P, (fun i => if i = j then (true, A, D, W, E) else K i), t, ch, ⟨?_, fX_fr x2 hS5 (fun i hi => kL_n (by omega)), nX_fr x3 hS5 (fun i hi => kL_n (by omega)), rX_fr x4 hS5 (fun i hi => kL_n (by omega)), dX_fr x5 hS5 (fun i hi => kL_n (by omega)), oX_fr x6 hS5 (fun i hi => kL_n (by omega)), eX_fr x7 hS5 (fun i hi => kL_n (by omega)), ⟨(frI hS5 (kL_n (by omega)) 13).trans x8, (frI hS5 (kL_n (by omega)) 14).trans x9, fun i hi => rX_fr (x10 i hi) hS5 (fun q hq => kL_n (by omega))⟩, fun i hi => ?_, (frI hS5 (kL_n (by omega)) 1).trans x12, fun i hi => ?_⟩, ?_, ?_⟩
      · unfold gQ at x1 ⊢; rw [frQ hS5]; exact x1
      · dsimp only
        by_cases e : i = j
        · subst e
          rw [if_pos rfl]
          exact ⟨i5, fun _ => ⟨cA5, cD5, cO5, t2⟩⟩
        · rw [if_neg e]
          refine ⟨(frI hS5 (kL_n (by omega)) 0).trans (x11 i hi).1, fun hb => ?_⟩
          obtain ⟨a1, a2, a3, a4⟩ := (x11 i hi).2 hb
          exact ⟨rX_fr a1 hS5 (fun q hq => kL_n (by omega)), dX_fr a2 hS5 (fun q hq => kL_n (by omega)), oX_fr a3 hS5 (fun q hq => kL_n (by omega)), eX_fr a4 hS5 (fun q hq => kL_n (by omega))⟩
      · rw [frR hS5 (kL_n (by omega))]; exact x13 i hi
      · refine GK_c (c := c) (by omega) ⟨k1, k2, k3, k4, k5, k6, k7, fun i hi => ?_, k9⟩
        dsimp only
        by_cases e : i = j
        · rw [if_pos e]; exact fun _ => ⟨k3, k4, k5, k6⟩
        · rw [if_neg e]; exact k8 i hi
      · have m1 := GM_th (y := 0) (m S5 hsM)
        unfold FX12_mark
        rw [wp_lt, wp_b2]
        refine mgW 0 3 (by omega) (by omega) (fun _ => ?_) (fun e => absurd b0' e)
        rw [if_pos rfl, if_pos (show g_b false = 0 from rfl)]
        dsimp only
        obtain ⟨kf, hkf, hkf2⟩ := FU_s
        rw [hkf]
        refine mMarkIn (b := false) (to := 0) (fm0 := 0) j1 (by omega) ?_
        intro k' hk'
        rw [if_neg Bool.false_ne_true, if_neg Bool.false_ne_true]
        simp only [bX12_mark_61]
        obtain ⟨y1, y2, y3, y4, y5, y6, ⟨y7, y8⟩, y9, y10, y11⟩ := m1
        have u0 : fm [221] (uI S5 180 0 0) (uR (uI S5 180 0 0) 221 j 1) := fm_uR fm_rf (by simp)
        have u221 : ∀ i, sR (uR (uI S5 180 0 0) 221 j 1) 221 i = if i = j then 1 else sR (uI S5 180 0 0) 221 i := by
          intro i; rw [R_uR]; simp only [true_and]
        revert u0 u221
        generalize uR (uI S5 180 0 0) 221 j 1 = V
        intro u0 u221
        have nu : ∀ b, b ≠ 221 → b ∉ [221] := by intro b h hb; simp at hb; omega
        refine mLays (S := V) (a := 0) (b := 1 + j) (by omega) (by omega) (by omega) (dM_f y4 u0 (fun b hb => nu b (by omega))) k4.1 (oM_f y5 u0 (fun b hb => nu b (by omega))) k5.1 (eM_f y6 u0 (fun b hb => nu b (by omega))) k6.1 ?_
        intro V2 v1 v221 v2 v3 v4 v5 v6 v7
        rw [if_pos (show g_b false = 0 from rfl), wp_b1, show (59 : Int32) * N j = N (59 * j) from mulN (a := 59)]
        refine wp_mono (mCopy (S := V2) (a0 := 216) (m0 := 59) (o0 := 0) (a2 := 219) (m2 := 236) (o2 := 59 * j) (by omega) (by omega) (by omega) (by omega) (by omega) (by omega)) ?_
        rintro V3 ⟨w1, w2, w3⟩
        rw [wp_some]
        have n9 : ∀ b, b ≠ 219 → b ∉ [219] := by intro b h hb; simp at hb; omega
        have hR : ∀ b, b ≠ 180 → b ≠ 219 → ¬ (207 ≤ b ∧ b ≤ 215) → b ≠ 221 → sR V3 b = sR (uI S5 180 0 0) b := by
          intro b h0 h1 h2 h3
          rw [fmR w1 (n9 b h1) h0, fmR v1 (mkL_n ⟨h2, h3⟩) h0, fmR u0 (nu b h3) h0]
        have hL : ∀ b, b = 183 ∨ b = 184 → sL V3 b = sL (uI S5 180 0 0) b := by
          intro b h0
          rw [fmL w1 (n9 b (by omega)) (by omega), fmL v1 (mkL_n (by omega)) (by omega), fmL u0 (nu b (by omega)) (by omega)]
        have h53 : sI V3 180 53 = sI (uI S5 180 0 0) 180 53 := w1.2.2.trans (v1.2.2.trans u0.2.2)
        have h1' : sI V3 180 1 = sI (uI S5 180 0 0) 180 1 := w1.2.1.trans (v1.2.1.trans u0.2.1)
        have all : fm [207, 208, 209, 210, 211, 212, 213, 214, 215, 219, 221] (uI S5 180 0 0) V3 := fm_tr (fm_mo u0 (by decide)) (fm_tr (fm_mo v1 (by decide)) (fm_mo w1 (by decide)))
        have rA : rM V2 216 0 A := rM_x y3 (by rw [fmR v1 (mkL_n (by omega)) (by omega), fmR u0 (nu _ (by omega)) (by omega)])
        refine ⟨sX_tr sX_th (fr_sX all.1 (by decide)), ⟨fMo_fm y1 all (fun b hb => by simp only [List.mem_cons, List.not_mem_nil, or_false]; omega), ?_, rM_x y3 (hR _ (by omega) (by omega) (by omega) (by omega)), dM_f (v5 0 D (by omega) (by omega) k4.1 (dM_f y4 u0 (fun b hb => nu b (by omega)))) w1 (fun b hb => n9 b (by omega)), oM_f (v6 0 W (by omega) (by omega) k5.1 (oM_f y5 u0 (fun b hb => nu b (by omega)))) w1 (fun b hb => n9 b (by omega)), eM_f (v7 0 E (by omega) (by omega) k6.1 (eM_f y6 u0 (fun b hb => nu b (by omega)))) w1 (fun b hb => n9 b (by omega)), ⟨h53.trans y7, fun i hi => rM_x (y8 i hi) (hR _ (by omega) (by omega) (by omega) (by omega))⟩, fun i hi => ?_, h1'.trans y10, fun i hi => ?_⟩, rfl⟩
        · unfold nM at y2 ⊢; rw [hL _ (by omega), hL _ (by omega)]; exact y2
        · dsimp only
          have z221 : sR V3 221 i = if i = j then 1 else sR (uI S5 180 0 0) 221 i := by
            rw [fmR w1 (n9 _ (by omega)) (by omega), v221]; exact u221 i
          by_cases e : i = j
          · subst e
            rw [if_pos rfl] at z221 ⊢
            refine ⟨z221, fun _ => ⟨rM_cp rA k3.1 w2, dM_f v2 w1 (fun b hb => n9 b (by omega)), oM_f v3 w1 (fun b hb => n9 b (by omega)), eM_f v4 w1 (fun b hb => n9 b (by omega))⟩⟩
          · rw [if_neg e] at z221 ⊢
            refine ⟨z221.trans (y9 i hi).1, fun hb => ?_⟩
            obtain ⟨b1, b2, b3, b4⟩ := (y9 i hi).2 hb
            obtain ⟨g1, g2, g3, g4⟩ := k8 i hi hb
            refine ⟨rM_eq b1 g1.1 (fun q hq => ?_), dM_f (v5 _ _ (by omega) (by omega) g2.1 (dM_f b2 u0 (fun b hb => nu b (by omega)))) w1 (fun b hb => n9 b (by omega)), oM_f (v6 _ _ (by omega) (by omega) g3.1 (oM_f b3 u0 (fun b hb => nu b (by omega)))) w1 (fun b hb => n9 b (by omega)), eM_f (v7 _ _ (by omega) (by omega) g4.1 (eM_f b4 u0 (fun b hb => nu b (by omega)))) w1 (fun b hb => n9 b (by omega))⟩
            rw [w3 _ (by omega), fmR v1 (mkL_n (by omega)) (by omega), fmR u0 (nu _ (by omega)) (by omega)]
        · rw [hR 181 (by omega) (by omega) (by omega) (by omega)]; exact y11 i hi
    | true =>
      have xj := x11 j j1
      rw [if_neg (show ¬ g_b true = 0 by decide), xj.1]
      cases hK : (K j).1 with
      | false =>
        rw [if_pos (show g_b false = 0 from rfl), wp_some]
        refine idle (FM := fun S => FX12_mark S (N j) (g_b true)) (r := false) x' m kk ?_
        unfold FX12_mark
        rw [wp_lt, wp_b2]
        refine mgW 0 3 (by omega) (by omega) (fun _ => ?_) (fun e => absurd b0' e)
        have e1 : sR (uI S 180 0 0) 221 j = g_b false := by
          have := (m0.2.2.2.2.2.2.2.1 j j1).1
          rw [hK] at this; exact this
        rw [if_pos rfl, if_neg (show ¬ g_b true = 0 by decide), if_pos (vpN j1 j2), clN j2]
        dsimp only
        rw [e1, if_pos (show g_b false = 0 from rfl), wp_some]
        exact ⟨Or.inr ⟨_, rfl⟩, rfl⟩
      | true =>
        obtain ⟨a1, a2, a3, a4⟩ := xj.2 hK
        obtain ⟨g1, g2, g3, g4⟩ := k8 j j1 hK
        rw [if_neg (show ¬ g_b true = 0 by decide), wp_b1]
        have LL : ∀ b, b ∈ [0, 46, 47, 48, 49, 50, 51, 52, d, d + 1, d + 2, d + 3, w, w + 1] → b = 0 ∨ 46 ≤ b ∧ b ≤ 52 ∨ d ≤ b ∧ b ≤ d + 3 ∨ w ≤ b ∧ b ≤ w + 1 := by
          intro b hb; simp only [List.mem_cons, List.not_mem_nil, or_false] at hb; omega
        have LN : ∀ b, ¬ (b = 0 ∨ 46 ≤ b ∧ b ≤ 52 ∨ d ≤ b ∧ b ≤ d + 3 ∨ w ≤ b ∧ b ≤ w + 1) → b ∉ [0, 46, 47, 48, 49, 50, 51, 52, d, d + 1, d + 2, d + 3, w, w + 1] := fun b h hb => h (LL b hb)
        refine wp_mono (xCopy (S := S) (a := 49) (b := 123 + 14 * j + 1) (Or.inr (by omega))) ?_
        rintro S2 ⟨q1, q2⟩
        have cA := q2 _ a1 g1.1
        have hS2 : fr [0, 46, 47, 48, 49, 50, 51, 52, d, d + 1, d + 2, d + 3, w, w + 1] S S2 := fr_mo q1 (by intro b hb; simp only [List.mem_cons, List.not_mem_nil, or_false] at hb ⊢; omega)
        have eQ2 : sQ S2 5 = d := by rw [frQ hS2]; exact x1.2.2.2.1
        rw [eQ2, dbF hd, if_pos rfl, wp_b1]
        refine wp_mono (xCopyD (S := S2) (a := d) (b := 123 + 14 * j + 5) (Or.inr (by omega))) ?_
        rintro S3 ⟨r1, r2⟩
        have cD := r2 _ (dX_fr a2 hS2 (fun i hi => LN _ (by omega))) g2.1
        have hS3 : fr [0, 46, 47, 48, 49, 50, 51, 52, d, d + 1, d + 2, d + 3, w, w + 1] S S3 := fr_tr hS2 (fr_mo r1 (by intro b hb; simp only [List.mem_cons, List.not_mem_nil, or_false] at hb ⊢; omega))
        have cA3 := rX_fr cA r1 (fun i hi => by simp only [List.mem_cons, List.not_mem_nil, or_false]; omega)
        have eQ3 : sQ S3 7 = w := by rw [frQ hS3]; exact x1.2.2.2.2.2.2.1
        rw [eQ3, wdF hw, if_pos rfl, wp_b1]
        refine wp_mono (xCopyO (S := S3) (a := w) (b := 123 + 14 * j + 9) (Or.inr (by omega))) ?_
        rintro S4 ⟨s1, s2⟩
        have cO := s2 _ (oX_fr a3 hS3 (fun i hi => LN _ (by omega))) g3.1
        have hS4 : fr [0, 46, 47, 48, 49, 50, 51, 52, d, d + 1, d + 2, d + 3, w, w + 1] S S4 := fr_tr hS3 (fr_mo s1 (by intro b hb; simp only [List.mem_cons, List.not_mem_nil, or_false] at hb ⊢; omega))
        have cA4 := rX_fr cA3 s1 (fun i hi => by simp only [List.mem_cons, List.not_mem_nil, or_false]; omega)
        have cD4 := dX_fr cD s1 (fun i hi => by simp only [List.mem_cons, List.not_mem_nil, or_false]; omega)
        rw [wp_b1]
        refine wp_mono (xCopyE (S := S4) (a := 46) (b := 123 + 14 * j + 11) (Or.inr (by omega)) (eX_fr a4 hS4 (fun i hi => LN _ (by omega))) g4.1) ?_
        rintro S5 ⟨t1, t2⟩
        have hS5 : fr [0, 46, 47, 48, 49, 50, 51, 52, d, d + 1, d + 2, d + 3, w, w + 1] S S5 := fr_tr hS4 (fr_mo t1 (by intro b hb; simp only [List.mem_cons, List.not_mem_nil, or_false] at hb ⊢; omega))
        have cA5 := rX_fr cA4 t1 (fun i hi => by simp only [List.mem_cons, List.not_mem_nil, or_false]; omega)
        have cD5 := dX_fr cD4 t1 (fun i hi => by simp only [List.mem_cons, List.not_mem_nil, or_false]; omega)
        have cO5 := oX_fr cO t1 (fun i hi => by simp only [List.mem_cons, List.not_mem_nil, or_false]; omega)
        rw [wp_lt, wp_some]
        have hS6 : fr [0, 46, 47, 48, 49, 50, 51, 52, d, d + 1, d + 2, d + 3, w, w + 1] S (uI S5 0 14 0) := fr_uI hS5 (by simp)
        have p14 : sI (uI S5 0 14 0) 0 14 = N 0 := by rw [I_uI, if_pos ⟨rfl, rfl⟩]; rfl
        have p13 : sI (uI S5 0 14 0) 0 13 = N p := by
          rw [I_uI, if_neg (by omega), frI t1 (by simp), frI s1 (by simp only [List.mem_cons, List.not_mem_nil, or_false]; omega), frI r1 (by simp only [List.mem_cons, List.not_mem_nil, or_false]; omega), frI q1 (by simp)]
          exact x8
        have o0 : fr [0] S5 (uI S5 0 14 0) := fr_uI fr_rf (by simp)
        have no : ∀ b, b ≠ 0 → b ∉ [0] := by intro b h hb; simp at hb; omega
        have cA6 := rX_fr cA5 o0 (fun i hi => no _ (by omega))
        have cD6 := dX_fr cD5 o0 (fun i hi => no _ (by omega))
        have cO6 := oX_fr cO5 o0 (fun i hi => no _ (by omega))
        have cE6 := eX_fr t2 o0 (fun i hi => no _ (by omega))
        revert hS6 p14 p13 cA6 cD6 cO6 cE6
        generalize uI S5 0 14 0 = S6
        intro hS6 p14 p13 cA6 cD6 cO6 cE6
        have hsM : sM S S6 := fr_sM hS6 (fun b hb => by have := LL b hb; omega)
        refine ⟨hsM, f, d, w, F, mn, ln, _, _, _, _, p, 0, P, K, t, ch, ⟨?_, fX_fr x2 hS6 (fun i hi => LN _ (by omega)), nX_fr x3 hS6 (fun i hi => LN _ (by omega)), cA6, cD6, cO6, cE6, ⟨p13, p14, fun i hi => absurd hi (by omega)⟩, fun i hi => ?_, (frI hS6 (LN _ (by omega)) 1).trans x12, fun i hi => ?_⟩, ?_, ?_⟩
        · unfold gQ at x1 ⊢; rw [frQ hS6]; exact x1
        · refine ⟨(frI hS6 (LN _ (by omega)) 0).trans (x11 i hi).1, fun hb => ?_⟩
          obtain ⟨a1, a2, a3, a4⟩ := (x11 i hi).2 hb
          exact ⟨rX_fr a1 hS6 (fun q hq => LN _ (by omega)), dX_fr a2 hS6 (fun q hq => LN _ (by omega)), oX_fr a3 hS6 (fun q hq => LN _ (by omega)), eX_fr a4 hS6 (fun q hq => LN _ (by omega))⟩
        · rw [frR hS6 (LN 2 (by omega))]; exact x13 i hi
        · exact GK_c (c := c) (by omega) ⟨k1, k2, g1, g2, g3, g4, ⟨k7.1, by omega, fun i hi => absurd hi (by omega)⟩, k8, k9⟩
        · have m1 := GM_th (y := 0) (m S6 hsM)
          unfold FX12_mark
          rw [wp_lt, wp_b2]
          refine mgW 0 3 (by omega) (by omega) (fun _ => ?_) (fun e => absurd b0' e)
          rw [if_pos rfl, if_neg (show ¬ g_b true = 0 by decide), if_pos (vpN j1 j2), clN j2]
          dsimp only
          obtain ⟨y1, y2, y3, y4, y5, y6, ⟨y7, y8⟩, y9, y10, y11⟩ := m1
          have ej : sR (uI S6 180 0 0) 221 j = g_b true := by
            have := (y9 j j1).1
            rw [hK] at this; exact this
          rw [ej, if_neg (show ¬ g_b true = 0 by decide)]
          obtain ⟨kf, hkf, hkf2⟩ := FU_s
          rw [hkf]
          refine mMarkIn (b := true) (to := 0) (fm0 := 0) j1 (by omega) ?_
          intro k' hk'
          rw [if_pos rfl, if_pos rfl]
          simp only [bX12_mark_61]
          have u0 : fm [221] (uI S6 180 0 0) (uR (uI S6 180 0 0) 221 j 1) := fm_uR fm_rf (by simp)
          have u221 : sR (uR (uI S6 180 0 0) 221 j 1) 221 = sR (uI S6 180 0 0) 221 := by
            funext i; rw [R_uR]
            by_cases e : i = j
            · subst e; rw [if_pos ⟨rfl, rfl⟩, ej]; rfl
            · rw [if_neg (by omega)]
          revert u0 u221
          generalize uR (uI S6 180 0 0) 221 j 1 = V
          intro u0 u221
          have nu : ∀ b, b ≠ 221 → b ∉ [221] := by intro b h hb; simp at hb; omega
          obtain ⟨b1, b2, b3, b4⟩ := (y9 j j1).2 hK
          refine mLays (S := V) (a := 1 + j) (b := 0) (by omega) (by omega) (by omega) (dM_f b2 u0 (fun b hb => nu b (by omega))) g2.1 (oM_f b3 u0 (fun b hb => nu b (by omega))) g3.1 (eM_f b4 u0 (fun b hb => nu b (by omega))) g4.1 ?_
          intro V2 v1 v221 v2 v3 v4 v5 v6 v7
          rw [if_neg (show ¬ g_b true = 0 by decide), wp_b1, show (59 : Int32) * N j = N (59 * j) from mulN (a := 59)]
          refine wp_mono (mCopy (S := V2) (a0 := 219) (m0 := 236) (o0 := 59 * j) (a2 := 216) (m2 := 59) (o2 := 0) (by omega) (by omega) (by omega) (by omega) (by omega) (by omega)) ?_
          rintro V3 ⟨w1, w2, w3⟩
          rw [wp_lt, wp_some]
          have n6 : ∀ b, b ≠ 216 → b ∉ [216] := by intro b h hb; simp at hb; omega
          have rA : rM V2 219 (59 * j) (K j).2.1 := rM_x b1 (by rw [fmR v1 (mkL_n (by omega)) (by omega), fmR u0 (nu _ (by omega)) (by omega)])
          have all : fm [207, 208, 209, 210, 211, 212, 213, 214, 215, 216, 221] (uI S6 180 0 0) V3 := fm_tr (fm_mo u0 (by decide)) (fm_tr (fm_mo v1 (by decide)) (fm_mo w1 (by decide)))
          have all2 : fr (180 :: [207, 208, 209, 210, 211, 212, 213, 214, 215, 216, 221]) S6 (uI V3 180 53 0) := fr_uI (fr_tr (fr_uI fr_rf (by simp)) all.1) (by simp)
          have i53 : sI (uI V3 180 53 0) 180 53 = N 0 := by rw [I_uI, if_pos ⟨rfl, rfl⟩]; rfl
          have i1 : sI (uI V3 180 53 0) 180 1 = sI (uI S6 180 0 0) 180 1 := by rw [I_uI, if_neg (by omega)]; exact all.2.1
          have eR : sR (uI V3 180 53 0) = sR V3 := rfl
          have hR : ∀ b, b ≠ 180 → b ≠ 216 → ¬ (207 ≤ b ∧ b ≤ 215) → sR V3 b = sR (uI S6 180 0 0) b := by
            intro b h0 h1 h2
            by_cases e : b = 221
            · subst e; rw [fmR w1 (n6 _ (by omega)) (by omega), v221, u221]
            · rw [fmR w1 (n6 b h1) h0, fmR v1 (mkL_n ⟨h2, e⟩) h0, fmR u0 (nu b e) h0]
          have hL : ∀ b, b = 183 ∨ b = 184 → sL V3 b = sL (uI S6 180 0 0) b := by
            intro b h0
            rw [fmL w1 (n6 b (by omega)) (by omega), fmL v1 (mkL_n (by omega)) (by omega), fmL u0 (nu b (by omega)) (by omega)]
          have cM := fMo_fm y1 all (fun b hb => by simp only [List.mem_cons, List.not_mem_nil, or_false]; omega)
          have cdM := dM_f v2 w1 (fun b hb => n6 b (by omega))
          have coM := oM_f v3 w1 (fun b hb => n6 b (by omega))
          have ceM := eM_f v4 w1 (fun b hb => n6 b (by omega))
          have crM := rM_cp rA g1.1 w2
          refine ⟨fr_sX all2 (by decide), ⟨cM, ?_, crM, cdM, coM, ceM, ⟨i53, fun i hi => absurd hi (by omega)⟩, fun i hi => ?_, i1.trans y10, fun i hi => ?_⟩, rfl⟩
          · unfold nM at y2 ⊢
            change (∀ i, i < fN F → sL V3 183 i = _) ∧ (∀ i, i < fL F → sL V3 184 i = _)
            rw [hL _ (by omega), hL _ (by omega)]; exact y2
          · rw [eR]
            refine ⟨by rw [hR 221 (by omega) (by omega) (by omega)]; exact (y9 i hi).1, fun hb => ?_⟩
            obtain ⟨b1, b2, b3, b4⟩ := (y9 i hi).2 hb
            obtain ⟨g1, g2, g3, g4⟩ := k8 i hi hb
            have cD := dM_f (v5 _ _ (by omega) (by omega) g2.1 (dM_f b2 u0 (fun b hb => nu b (by omega)))) w1 (fun b hb => n6 b (by omega))
            have cO := oM_f (v6 _ _ (by omega) (by omega) g3.1 (oM_f b3 u0 (fun b hb => nu b (by omega)))) w1 (fun b hb => n6 b (by omega))
            have cE := eM_f (v7 _ _ (by omega) (by omega) g4.1 (eM_f b4 u0 (fun b hb => nu b (by omega)))) w1 (fun b hb => n6 b (by omega))
            have cR : rM V3 219 (59 * i) (K i).2.1 := rM_x b1 (hR _ (by omega) (by omega) (by omega))
            exact ⟨cR, cD, cO, cE⟩
          · rw [eR, hR 181 (by omega) (by omega) (by omega)]; exact y11 i hi
  · have hw : wp (FX11_mark S p0 (g_b p1)) (fun q => q = (S, false)) := by
      unfold FX11_mark
      by_cases e : p0 < 0
      · rw [if_pos e, wp_some]
      · rw [if_neg e]
        by_cases e2 : p0 < 4
        · exfalso
          obtain ⟨q, q1, rfl⟩ := I_nn e
          exact b0 ⟨q, by omega, (ltN (b := 4) q1 (by omega)).mp e2, q1, rfl⟩
        · rw [if_neg e2, wp_some]
    refine wp_mono hw ?_
    rintro _ rfl
    refine idle (FM := fun S => FX12_mark S p0 (g_b p1)) (r := false) x' m kk ?_
    unfold FX12_mark
    rw [wp_lt, wp_b2]
    refine mgW 0 3 (by omega) (by omega) (fun e => absurd e b0) (fun _ => ?_)
    rw [if_neg Bool.false_ne_true, wp_some]
    exact ⟨Or.inr ⟨_, rfl⟩, rfl⟩
