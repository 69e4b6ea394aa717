/-! seen, marks -/
theorem nar_b {b : Bool} : vp_nar .boolean (g_b b) = g_b b := by cases b <;> rfl
/-- x's things, all but those at [46, 47, 48] -/
theorem op_see {c : Nat} : Ob_see (Good c) (Good (c + 1)) := by
  intro S p0 p1 hG
  refine deed (FX := fun S => FX11_see S p0 (g_b p1)) (FM := fun S => FX12_see S p0 (g_b p1)) hG ?_
  intro f d w F mn ln A D W E p n P K t ch x m k
  have ok := k.1
  have h7 := ok.1
  have hh : hX S f F := ⟨x.1.1, x.2.1, ok⟩
  have hE := k.2.2.2.2.2.1
  have hE8 := hE.1
  have m0 := m S (fun _ _ => ⟨rfl, rfl, rfl⟩)
  have xE := x.2.2.2.2.2.2.1
  unfold FX11_see
  rw [wp_b2]
  by_cases b0 : inr 0 (fN F) p0
  · have b0' := b0
    obtain ⟨l, -, k1, k2, rfl⟩ := b0
    refine xgM hh (fun _ => ?_) (fun e => absurd b0' e)
    rw [if_pos rfl, wp_b2]
    unfold FX7_add
    rw [show sI S 46 0 = N E.1 from xE.1]
    by_cases b1 : E.1 < 8
    · rw [if_pos (show N E.1 < (8 : Int32) from (ltN (b := 8) (by omega) (by omega)).mpr b1), if_pos (vpN (by omega) (by omega)), wp_lt, clN (by omega)]
      have e0 : sI (uR S (46 + 1) E.1 (N l)) 46 0 = N E.1 := xE.1
      rw [e0, if_pos (vpN (by omega) (by omega)), wp_lt, clN (by omega), wp_lt, wp_some, nar_b]
      dsimp only
      have e1 : sI (uR (uR S (46 + 1) E.1 (N l)) (46 + 2) E.1 (g_b p1)) 46 0 = N E.1 := xE.1
      rw [e1, addN1, if_pos rfl, wp_some]
      have hS : fr [46, 47, 48] S (uI (uR (uR S (46 + 1) E.1 (N l)) (46 + 2) E.1 (g_b p1)) 46 0 (N (E.1 + 1))) := fr_uI (fr_uR (fr_uR fr_rf (by simp)) (by simp)) (by simp)
      have hE' : eX (uI (uR (uR S (46 + 1) E.1 (N l)) (46 + 2) E.1 (g_b p1)) 46 0 (N (E.1 + 1))) 46 (E.1 + 1, (fun i => if i = E.1 then l else E.2.1 i), (fun i => if i = E.1 then p1 else E.2.2 i)) := by
        refine ⟨by rw [I_uI, if_pos ⟨rfl, rfl⟩], fun i hi => ?_⟩
        dsimp only at hi ⊢
        by_cases e : i = E.1
        · subst e
          constructor
          · rw [R_uI, R_uR, if_neg (by omega), R_uR, if_pos ⟨rfl, rfl⟩, if_pos rfl]
          · rw [R_uI, R_uR, if_pos ⟨rfl, rfl⟩, if_pos rfl]
        · have := xE.2 i (by omega)
          constructor
          · rw [R_uI, R_uR, if_neg (by omega), R_uR, if_neg (by omega), if_neg e]; exact this.1
          · rw [R_uI, R_uR, if_neg (by omega), R_uR, if_neg (by omega), if_neg e]; exact this.2
      revert hS hE'
      generalize (uI (uR (uR S (46 + 1) E.1 (N l)) (46 + 2) E.1 (g_b p1)) 46 0 (N (E.1 + 1))) = T
      intro hS hE'
      have hsM : sM S T := fr_sM hS (by decide)
      have nl : ∀ b, ¬ (46 ≤ b ∧ b ≤ 48) → b ∉ [46, 47, 48] := by
        intro b h hb
        simp only [List.mem_cons, List.not_mem_nil, or_false] at hb; omega
      obtain ⟨x1, x2, x3, x4, x5, x6, x7, ⟨x8, x9, x10⟩, x11, x12, x13⟩ := x
      have hf := x1.2.2.1
      have hd := x1.2.2.2.2.2.1
      have hw := x1.2.2.2.2.2.2.2.2
      refine ⟨hsM, f, d, w, F, mn, ln, A, D, W, _, p, n, P, K, t, ch, ⟨?_, fX_fr x2 hS (fun j hj => nl _ (by omega)), nX_fr x3 hS (fun j hj => nl _ (by omega)), rX_fr x4 hS (fun j hj => nl _ (by omega)), dX_fr x5 hS (fun j hj => nl _ (by omega)), oX_fr x6 hS (fun j hj => nl _ (by omega)), hE', ⟨(frI hS (nl 0 (by omega)) 13).trans x8, (frI hS (nl 0 (by omega)) 14).trans x9, fun i hi => rX_fr (x10 i hi) hS (fun j hj => nl _ (by omega))⟩, fun j hj => ⟨(frI hS (nl _ (by omega)) 0).trans (x11 j hj).1, fun hb => ?_⟩, (frI hS (nl _ (by omega)) 1).trans x12, fun i hi => ?_⟩, ?_, ?_⟩
      · unfold gQ at x1 ⊢; rw [frQ hS]; exact x1
      · obtain ⟨a1, a2, a3, a4⟩ := (x11 j hj).2 hb
        exact ⟨rX_fr a1 hS (fun i hi => nl _ (by omega)), dX_fr a2 hS (fun i hi => nl _ (by omega)), oX_fr a3 hS (fun i hi => nl _ (by omega)), eX_fr a4 hS (fun i hi => nl _ (by omega))⟩
      · rw [frR hS (nl 2 (by omega))]; exact x13 i hi
      · obtain ⟨k1', k2', k3, k4, k5, k6, k7⟩ := GK_c (c' := c + 1) (by omega) k
        refine ⟨k1', k2', k3, k4, k5, ⟨by dsimp only; omega, fun i hi => ?_⟩, k7⟩
        dsimp only at hi ⊢
        split
        · exact k1
        · exact k6.2 i (by omega)
      · have m1 := GM_th (y := 0) (m T hsM)
        have mE := m1.2.2.2.2.2.1
        unfold FX12_see
        rw [wp_lt, wp_b2]
        refine mgM m1.1 ok (fun _ => ?_) (fun e => absurd b0' e)
        have g0 : sR (uI T 180 0 0) 213 0 = N E.1 := mE.1
        rw [if_pos rfl]
        dsimp only
        rw [g0, if_neg (show ¬ N E.1 = (8 : Int32) from fun c => absurd ((eqN (b := 8) (by omega) (by omega)).mp c) (by omega)), if_pos (vpN (by omega) (by omega)), clN (by omega), wp_lt]
        have g1 : sR (uR (uI T 180 0 0) 214 E.1 (N l)) 213 0 = N E.1 := by rw [R_uR, if_neg (by omega)]; exact g0
        rw [g1, if_pos (vpN (by omega) (by omega)), wp_lt, clN (by omega), nar_b]
        have g2 : sR (uR (uR (uI T 180 0 0) 214 E.1 (N l)) 215 E.1 (g_b p1)) 213 0 = N E.1 := by rw [R_uR, if_neg (by omega)]; exact g1
        rw [wp_lt, wp_some, g2, addN1]
        have u : fm [213, 214, 215] (uI T 180 0 0) (uR (uR (uR (uI T 180 0 0) 214 E.1 (N l)) 215 E.1 (g_b p1)) 213 0 (N (E.1 + 1))) := fm_uR (fm_uR (fm_uR fm_rf (by simp)) (by simp)) (by simp)
        have hE2 : eM (uR (uR (uR (uI T 180 0 0) 214 E.1 (N l)) 215 E.1 (g_b p1)) 213 0 (N (E.1 + 1))) 0 (E.1 + 1, (fun i => if i = E.1 then l else E.2.1 i), (fun i => if i = E.1 then p1 else E.2.2 i)) := by
          refine ⟨by rw [R_uR, if_pos ⟨rfl, rfl⟩], fun i hi => ?_⟩
          dsimp only at hi ⊢
          by_cases e : i = E.1
          · subst e
            constructor
            · rw [R_uR, if_neg (by omega), R_uR, if_neg (by omega), R_uR, if_pos ⟨rfl, by omega⟩, if_pos rfl]
            · rw [R_uR, if_neg (by omega), R_uR, if_pos ⟨rfl, by omega⟩, if_pos rfl]
          · have := mE.2 i (by omega)
            constructor
            · rw [R_uR, if_neg (by omega), R_uR, if_neg (by omega), R_uR, if_neg (by omega), if_neg e]; exact this.1
            · rw [R_uR, if_neg (by omega), R_uR, if_neg (by omega), R_uR, if_neg (by omega), if_neg e]; exact this.2
        have hx : ∀ j Ej, 1 ≤ j → Ej.1 ≤ 8 → eM (uI T 180 0 0) j Ej → eM (uR (uR (uR (uI T 180 0 0) 214 E.1 (N l)) 215 E.1 (g_b p1)) 213 0 (N (E.1 + 1))) j Ej := by
          intro j Ej hj h8 he
          refine ⟨?_, fun i hi => ?_⟩
          · rw [R_uR, if_neg (by omega), R_uR, if_neg (by omega), R_uR, if_neg (by omega)]; exact he.1
          · have := he.2 i hi
            constructor
            · rw [R_uR, if_neg (by omega), R_uR, if_neg (by omega), R_uR, if_neg (by omega)]; exact this.1
            · rw [R_uR, if_neg (by omega), R_uR, if_neg (by omega), R_uR, if_neg (by omega)]; exact this.2
        revert u hE2 hx
        generalize (uR (uR (uR (uI T 180 0 0) 214 E.1 (N l)) 215 E.1 (g_b p1)) 213 0 (N (E.1 + 1))) = U
        intro u hE2 hx
        obtain ⟨y1, y2, y3, y4, y5, y6, ⟨y7, y8⟩, y9, y10, y11⟩ := m1
        have nm : ∀ b, ¬ (213 ≤ b ∧ b ≤ 215) → b ∉ [213, 214, 215] := by
          intro b h hb
          simp only [List.mem_cons, List.not_mem_nil, or_false] at hb; omega
        have hR : ∀ b, b ≠ 180 → ¬ (213 ≤ b ∧ b ≤ 215) → sR U b = sR (uI T 180 0 0) b := fun b hb h => fmR u (nm b h) hb
        have dd : ∀ j D, dM (uI T 180 0 0) j D → dM U j D := by
          intro j D h
          unfold dM at h ⊢; rw [hR _ (by omega) (by omega), hR _ (by omega) (by omega), hR _ (by omega) (by omega), hR _ (by omega) (by omega)]; exact h
        have oo : ∀ j D, oM (uI T 180 0 0) j D → oM U j D := by
          intro j D h
          unfold oM at h ⊢; rw [hR _ (by omega) (by omega), hR _ (by omega) (by omega)]; exact h
        refine ⟨sX_tr sX_th (fr_sX u.1 (by decide)), ⟨fMo_fm y1 u (fun b hb => nm b (by omega)), ?_, rM_x y3 (hR _ (by omega) (by omega)), dd _ _ y4, oo _ _ y5, hE2, ⟨u.2.2.trans y7, fun i hi => rM_x (y8 i hi) (hR _ (by omega) (by omega))⟩, fun j hj => ⟨?_, fun hb => ?_⟩, u.2.1.trans y10, fun i hi => ?_⟩, rfl⟩
        · unfold nM at y2 ⊢; rw [fmL u (nm _ (by omega)) (by omega), fmL u (nm _ (by omega)) (by omega)]; exact y2
        · rw [hR _ (by omega) (by omega)]; exact (y9 j hj).1
        · obtain ⟨z1, z2, z3, z4⟩ := (y9 j hj).2 hb
          exact ⟨rM_x z1 (hR _ (by omega) (by omega)), dd _ _ z2, oo _ _ z3, hx _ _ (by omega) ((k.2.2.2.2.2.2.2.1 j hj hb).2.2.2.1) z4⟩
        · rw [hR 181 (by omega) (by omega)]; exact y11 i hi
    · rw [if_neg (show ¬ N E.1 < (8 : Int32) from fun c => b1 ((ltN (b := 8) (by omega) (by omega)).mp c)), wp_some]
      dsimp only
      rw [if_neg Bool.false_ne_true, wp_some]
      refine idle (FM := fun S => FX12_see S (N l) (g_b p1)) (r := false) x m k ?_
      unfold FX12_see
      rw [wp_lt, wp_b2]
      refine mgM (th_fMo m0.1) ok (fun _ => ?_) (fun e => absurd b0' e)
      have g0 : sR (uI S 180 0 0) 213 0 = N E.1 := m0.2.2.2.2.2.1.1
      rw [if_pos rfl]
      dsimp only
      rw [g0, if_pos (show N E.1 = (8 : Int32) from (eqN (b := 8) (by omega) (by omega)).mpr (by omega)), wp_some]
      exact ⟨Or.inr ⟨_, rfl⟩, rfl⟩
  · refine xgM hh (fun e => absurd e b0) (fun _ => ?_)
    rw [if_neg Bool.false_ne_true, wp_some]
    refine idle (FM := fun S => FX12_see S p0 (g_b p1)) (r := false) x m k ?_
    unfold FX12_see
    rw [wp_lt, wp_b2]
    refine mgM (th_fMo m0.1) ok (fun e => absurd e b0) (fun _ => ?_)
    rw [if_neg Bool.false_ne_true, wp_some]
    exact ⟨Or.inr ⟨_, rfl⟩, rfl⟩
/-! copies of days, words, seen -/
theorem xCopyD {S : gS} {a b : Nat} (hab : b + 3 < a ∨ a + 3 < b) : wp (FX0_copyFrom S a b) (fun S' => fr [a, a + 1, a + 2, a + 3] S S' ∧ ∀ D, dX S b D → D.1 ≤ 40 → dX S' a D) := by
  unfold FX0_copyFrom
  simp only [wp_lt, wp_some]
  refine ⟨?_, fun D hD hz => ?_⟩
  · exact fr_uA (fr_uA (fr_uA (fr_uI fr_rf (by simp)) (by simp)) (by simp)) (by simp)
  · have n11 : ¬ b + 1 = a + 1 := by omega
    have n12 : ¬ b + 1 = a + 2 := by omega
    have n13 : ¬ b + 1 = a + 3 := by omega
    have n21 : ¬ b + 2 = a + 1 := by omega
    have n22 : ¬ b + 2 = a + 2 := by omega
    have n31 : ¬ b + 3 = a + 1 := by omega
    have n32 : ¬ b + 3 = a + 2 := by omega
    have m12 : ¬ a + 1 = a + 2 := by omega
    have m13 : ¬ a + 1 = a + 3 := by omega
    have m23 : ¬ a + 2 = a + 3 := by omega
    refine ⟨?_, fun i hi => ?_⟩
    · simp [I_uI, I_uA, hD.1]
    · have := hD.2 i hi
      refine ⟨?_, fun h => ?_, fun h => ?_⟩
      · simp only [R_uI, R_uA, if_neg n11, if_neg m12, if_neg m13, if_true]
        rw [cpy40 (by omega)]; exact this.1
      · simp only [R_uI, R_uA, if_neg n21, if_neg n22, if_neg m23, if_true]
        rw [cpy40 (by omega)]; exact this.2.1 h
      · simp only [R_uI, R_uA, if_neg n31, if_neg n32, if_true]
        rw [cpy40 (by omega)]; exact this.2.2 h
theorem xCopyO {S : gS} {a b : Nat} (hab : b + 1 < a ∨ a + 1 < b) : wp (FX10_copyFrom S a b) (fun S' => fr [a, a + 1] S S' ∧ ∀ D, oX S b D → D.1 ≤ 7 → oX S' a D) := by
  unfold FX10_copyFrom
  simp only [wp_lt, wp_some]
  refine ⟨?_, fun D hD hz => ?_⟩
  · exact fr_uA (fr_uI fr_rf (by simp)) (by simp)
  · refine ⟨?_, fun i hi => ?_⟩
    · simp [I_uI, I_uA, hD.1]
    · simp only [R_uI, R_uA, if_true]
      rw [cpy7 (by omega)]; exact hD.2 i hi
theorem xCopyEL {S : gS} {a b : Nat} (hab : b + 2 < a ∨ a + 2 < b) {E : aE} (hE : eX S b E) (h8 : E.1 ≤ 8) : ∀ m i k S', i + m = 8 → m + 1 ≤ k → fr [a, a + 1, a + 2] S S' → sI S' a 0 = N E.1 → (∀ j, j < i → j < E.1 → sR S' (a + 1) j = N (E.2.1 j) ∧ sR S' (a + 2) j = g_b (E.2.2 j)) → wp (fX7_copyFrom k 10 S' a b (N i)) (fun T => fr [a, a + 1, a + 2] S T ∧ eX T a E) := by
  intro m
  induction m with
  | zero =>
    intro i k S' hi hk hS h0 h1
    obtain ⟨k, rfl, -⟩ := kS hk
    rw [fX7_copyFrom]
    simp only [bX7_copyFrom_10, if_true]
    have : i = 8 := by omega
    subst this
    rw [if_pos (by decide), wp_some]
    exact ⟨hS, h0, fun j hj => h1 j (by omega) hj⟩
  | succ m ih =>
    intro i k S' hi hk hS h0 h1
    obtain ⟨k, rfl, hk'⟩ := kS hk
    rw [fX7_copyFrom]
    simp only [bX7_copyFrom_10, if_true]
    rw [show (8 : Int32) = N 8 from rfl, if_neg (fun c => absurd ((leN (by omega) (by omega)).mp c) (by omega)), if_pos (vpN (by omega) (by omega)), clN (by omega), wp_lt, wp_lt, addN1]
    refine ih (i + 1) k _ (by omega) hk' (fr_uR (fr_uR hS (by simp)) (by simp)) h0 (fun j hj he => ?_)
    have eb1 : sR S' (b + 1) = sR S (b + 1) := frR hS (by simp; omega)
    have eb2 : sR (uR S' (a + 1) i (sR S' (b + 1) i)) (b + 2) i = sR S (b + 2) i := by rw [R_uR, if_neg (by omega), frR hS (by simp; omega)]
    by_cases e : j = i
    · subst e
      have := hE.2 j he
      constructor
      · rw [R_uR, if_neg (by omega), R_uR, if_pos ⟨rfl, rfl⟩, eb1]; exact this.1
      · rw [R_uR, if_pos ⟨rfl, rfl⟩, eb2, this.2, nar_b]
    · have := h1 j (by omega) he
      constructor
      · rw [R_uR, if_neg (by omega), R_uR, if_neg (by omega)]; exact this.1
      · rw [R_uR, if_neg (by omega), R_uR, if_neg (by omega)]; exact this.2
theorem xCopyE {S : gS} {a b : Nat} (hab : b + 2 < a ∨ a + 2 < b) {E : aE} (hE : eX S b E) (h8 : E.1 ≤ 8) : wp (FX7_copyFrom S a b) (fun S' => fr [a, a + 1, a + 2] S S' ∧ eX S' a E) := by
  unfold FX7_copyFrom
  rw [wp_lt]
  exact xCopyEL hab hE h8 8 0 FU _ (by omega) (by unfold FU; omega) (fr_uI fr_rf (by simp)) (by rw [I_uI, if_pos ⟨rfl, rfl⟩]; exact hE.1) (fun j hj => absurd hj (by omega))
theorem mLinesL {S : gS} {a b : Nat} (ha : a < 6) (hb : b < 6) (hab : a ≠ b) : ∀ m i k S', i + m = 40 → m + 1 ≤ k → fm [207, 208, 209, 210] S S' → sR S' 207 = up (sR S 207) b (sR S 207 a) → (∀ r, r = 208 ∨ r = 209 ∨ r = 210 → (∀ j, j < i → sR S' r (40 * b + j) = sR S r (40 * a + j)) ∧ (∀ j, j < 40 * b ∨ 40 * b + i ≤ j → sR S' r j = sR S r j)) → wp (fX12_laysLines k 14 S' (N a) (N b) (N i)) (fun T => fm [207, 208, 209, 210] S T ∧ sR T 207 = up (sR S 207) b (sR S 207 a) ∧ (∀ r, r = 208 ∨ r = 209 ∨ r = 210 → (∀ j, j < 40 → sR T r (40 * b + j) = sR S r (40 * a + j)) ∧ (∀ j, j < 40 * b ∨ 40 * b + 40 ≤ j → sR T r j = sR S r j))) := by
  intro m
  induction m with
  | zero =>
    intro i k S' hi hk hS h0 h1
    obtain ⟨k, rfl, -⟩ := kS hk
    rw [fX12_laysLines]
    simp only [bX12_laysLines_14, if_true]
    have : i = 40 := by omega
    subst this
    rw [if_pos (by decide), wp_some]
    exact ⟨hS, h0, h1⟩
  | succ m ih =>
    intro i k S' hi hk hS h0 h1
    obtain ⟨k, rfl, hk'⟩ := kS hk
    rw [fX12_laysLines]
    simp only [bX12_laysLines_14, if_true]
    rw [show (40 : Int32) = N 40 from rfl, if_neg (fun c => absurd ((leN (by omega) (by omega)).mp c) (by omega)), mulN, mulN, addN, addN, if_pos (vpN (by omega) (by omega)), if_pos (vpN (by omega) (by omega)), clN (by omega), clN (by omega), wp_lt, wp_lt, wp_lt, addN1]
    have hne : 40 * a + i ≠ 40 * b + i := by omega
    have old : ∀ r, r = 208 ∨ r = 209 ∨ r = 210 → sR S' r (40 * a + i) = sR S r (40 * a + i) := fun r hr => (h1 r hr).2 _ (by omega)
    refine ih (i + 1) k _ (by omega) hk' (fm_uR (fm_uR (fm_uR hS (by simp)) (by simp)) (by simp)) ?_ (fun r hr => ⟨fun j hj => ?_, fun j hj => ?_⟩)
    · rw [← h0]; funext j; rw [R_uR, if_neg (by omega), R_uR, if_neg (by omega), R_uR, if_neg (by omega)]
    · have o8 := old 208 (by omega)
      have o9 := old 209 (by omega)
      have o10 := old 210 (by omega)
      by_cases e : j = i
      · subst e
        rcases hr with rfl | rfl | rfl
        · rw [R_uR, if_neg (by omega), R_uR, if_neg (by omega), R_uR, if_pos ⟨rfl, rfl⟩, o8]
        · rw [R_uR, if_neg (by omega), R_uR, if_pos ⟨rfl, rfl⟩, R_uR, if_neg (by omega), o9]
        · rw [R_uR, if_pos ⟨rfl, rfl⟩, R_uR, if_neg (by omega), R_uR, if_neg (by omega), o10]
      · rw [R_uR, if_neg (by omega), R_uR, if_neg (by omega), R_uR, if_neg (by omega)]
        exact (h1 r hr).1 j (by omega)
    · rw [R_uR, if_neg (by omega), R_uR, if_neg (by omega), R_uR, if_neg (by omega)]
      exact (h1 r hr).2 j (by omega)
theorem dM_cp {S T : gS} {a b : Nat} {D : aD} (h : dM S a D) (h40 : D.1 ≤ 40) (h7 : sR T 207 b = sR S 207 a) (hc : ∀ r, r = 208 ∨ r = 209 ∨ r = 210 → ∀ j, j < 40 → sR T r (40 * b + j) = sR S r (40 * a + j)) : dM T b D := by
  refine ⟨h7.trans h.1, fun i hi => ?_⟩
  obtain ⟨a1, a2, a3⟩ := h.2 i hi
  exact ⟨(hc 208 (by omega) i (by omega)).trans a1, fun e => (hc 209 (by omega) i (by omega)).trans (a2 e), fun e => (hc 210 (by omega) i (by omega)).trans (a3 e)⟩
theorem mLines {S : gS} {a b : Nat} (ha : a < 6) (hb : b < 6) (hab : a ≠ b) : wp (FX12_laysLines S (N a) (N b)) (fun T => fm [207, 208, 209, 210] S T ∧ (∀ D, dM S a D → D.1 ≤ 40 → dM T b D) ∧ (∀ j D, j < 6 → j ≠ b → D.1 ≤ 40 → dM S j D → dM T j D)) := by
  unfold FX12_laysLines
  rw [if_pos (vpN ha (by omega)), if_pos (vpN hb (by omega)), clN (by omega), clN (by omega), wp_lt]
  refine wp_mono (mLinesL (S := S) ha hb hab 40 0 FU _ (by omega) (by unfold FU; omega) (fm_uR fm_rf (by simp)) ?_ (fun r hr => ⟨fun j hj => absurd hj (by omega), fun j hj => ?_⟩)) ?_
  · funext j
    rw [R_uR]; unfold up; simp only [true_and]
  · rw [R_uR, if_neg (by omega)]
  · rintro T ⟨t1, t2, t3⟩
    refine ⟨t1, fun D hD h40 => dM_cp hD h40 ?_ (fun r hr => (t3 r hr).1), fun j D hj hne h40 hD => dM_cp hD h40 ?_ (fun r hr i hi => (t3 r hr).2 _ (by omega))⟩
    · rw [t2]; unfold up; rw [if_pos rfl]
    · rw [t2]; unfold up; rw [if_neg hne]
theorem mWordL {S : gS} {a b : Nat} (ha : a < 6) (hb : b < 6) (hab : a ≠ b) : ∀ m i k S', i + m = 7 → m + 1 ≤ k → fm [211, 212] S S' → sR S' 211 = up (sR S 211) b (sR S 211 a) → (∀ j, j < i → sR S' 212 (7 * b + j) = sR S 212 (7 * a + j)) → (∀ j, j < 7 * b ∨ 7 * b + i ≤ j → sR S' 212 j = sR S 212 j) → wp (fX12_laysWord k 14 S' (N a) (N b) (N i)) (fun T => fm [211, 212] S T ∧ sR T 211 = up (sR S 211) b (sR S 211 a) ∧ (∀ j, j < 7 → sR T 212 (7 * b + j) = sR S 212 (7 * a + j)) ∧ (∀ j, j < 7 * b ∨ 7 * b + 7 ≤ j → sR T 212 j = sR S 212 j)) := by
  intro m
  induction m with
  | zero =>
    intro i k S' hi hk hS h0 h1 h2
    obtain ⟨k, rfl, -⟩ := kS hk
    rw [fX12_laysWord]
    simp only [bX12_laysWord_14, if_true]
    have : i = 7 := by omega
    subst this
    rw [if_pos (by decide), wp_some]
    exact ⟨hS, h0, h1, h2⟩
  | succ m ih =>
    intro i k S' hi hk hS h0 h1 h2
    obtain ⟨k, rfl, hk'⟩ := kS hk
    rw [fX12_laysWord]
    simp only [bX12_laysWord_14, if_true]
    rw [show (7 : Int32) = N 7 from rfl, if_neg (fun c => absurd ((leN (by omega) (by omega)).mp c) (by omega)), mulN, mulN, addN, addN, if_pos (vpN (by omega) (by omega)), if_pos (vpN (by omega) (by omega)), clN (by omega), clN (by omega), wp_lt, addN1]
    refine ih (i + 1) k _ (by omega) hk' (fm_uR hS (by simp)) ?_ (fun j hj => ?_) (fun j hj => ?_)
    · rw [← h0]; funext j; rw [R_uR, if_neg (by omega)]
    · rw [R_uR]
      by_cases e : j = i
      · subst e; rw [if_pos ⟨rfl, rfl⟩, h2 _ (by omega)]
      · rw [if_neg (by omega)]; exact h1 j (by omega)
    · rw [R_uR, if_neg (by omega)]; exact h2 j (by omega)
theorem mWord {S : gS} {a b : Nat} (ha : a < 6) (hb : b < 6) (hab : a ≠ b) : wp (FX12_laysWord S (N a) (N b)) (fun T => fm [211, 212] S T ∧ (∀ D, oM S a D → D.1 ≤ 7 → oM T b D) ∧ (∀ j D, j < 6 → j ≠ b → D.1 ≤ 7 → oM S j D → oM T j D)) := by
  unfold FX12_laysWord
  rw [if_pos (vpN ha (by omega)), if_pos (vpN hb (by omega)), clN (by omega), clN (by omega), wp_lt]
  refine wp_mono (mWordL (S := S) ha hb hab 7 0 FU _ (by omega) (by unfold FU; omega) (fm_uR fm_rf (by simp)) ?_ (fun j hj => absurd hj (by omega)) (fun j hj => ?_)) ?_
  · funext j
    rw [R_uR]; unfold up; simp only [true_and]
  · rw [R_uR, if_neg (by omega)]
  · rintro T ⟨t1, t2, t3, t4⟩
    refine ⟨t1, fun D hD h7 => ⟨?_, fun i hi => (t3 i (by omega)).trans (hD.2 i hi)⟩, fun j D hj hne h7 hD => ⟨?_, fun i hi => (t4 _ (by omega)).trans (hD.2 i hi)⟩⟩
    · rw [t2]; unfold up; rw [if_pos rfl]; exact hD.1
    · rw [t2]; unfold up; rw [if_neg hne]; exact hD.1
theorem mSeenL {S : gS} {a b : Nat} {E : aE} (ha : a < 5) (hb : b < 5) (hab : a ≠ b) (hE : eM S a E) (h8 : E.1 ≤ 8) : ∀ m i k S', i + m = 8 → m + 1 ≤ k → fm [213, 214, 215] S S' → sR S' 213 = up (sR S 213) b (sR S 213 a) → (∀ j, j < i → j < E.1 → sR S' 214 (8 * b + j) = N (E.2.1 j) ∧ sR S' 215 (8 * b + j) = g_b (E.2.2 j)) → (∀ j, j < 8 * b ∨ 8 * b + i ≤ j → sR S' 214 j = sR S 214 j ∧ sR S' 215 j = sR S 215 j) → wp (fX12_laysSeen k 14 S' (N a) (N b) (N i)) (fun T => fm [213, 214, 215] S T ∧ sR T 213 = up (sR S 213) b (sR S 213 a) ∧ (∀ j, j < 8 → j < E.1 → sR T 214 (8 * b + j) = N (E.2.1 j) ∧ sR T 215 (8 * b + j) = g_b (E.2.2 j)) ∧ (∀ j, j < 8 * b ∨ 8 * b + 8 ≤ j → sR T 214 j = sR S 214 j ∧ sR T 215 j = sR S 215 j)) := by
  intro m
  induction m with
  | zero =>
    intro i k S' hi hk hS h0 h1 h2
    obtain ⟨k, rfl, -⟩ := kS hk
    rw [fX12_laysSeen]
    simp only [bX12_laysSeen_14, if_true]
    have : i = 8 := by omega
    subst this
    rw [if_pos (by decide), wp_some]
    exact ⟨hS, h0, h1, h2⟩
  | succ m ih =>
    intro i k S' hi hk hS h0 h1 h2
    obtain ⟨k, rfl, hk'⟩ := kS hk
    rw [fX12_laysSeen]
    simp only [bX12_laysSeen_14, if_true]
    rw [show (8 : Int32) = N 8 from rfl, if_neg (fun c => absurd ((leN (by omega) (by omega)).mp c) (by omega)), mulN, mulN, addN, addN, if_pos (vpN (by omega) (by omega)), if_pos (vpN (by omega) (by omega)), clN (by omega), clN (by omega), wp_lt, wp_lt, addN1]
    have o := h2 (8 * a + i) (by omega)
    refine ih (i + 1) k _ (by omega) hk' (fm_uR (fm_uR hS (by simp)) (by simp)) ?_ (fun j hj he => ?_) (fun j hj => ?_)
    · rw [← h0]; funext j; rw [R_uR, if_neg (by omega), R_uR, if_neg (by omega)]
    · by_cases e : j = i
      · subst e
        have := hE.2 j he
        constructor
        · rw [R_uR, if_neg (by omega), R_uR, if_pos ⟨rfl, rfl⟩, o.1]; exact this.1
        · rw [R_uR, if_pos ⟨rfl, rfl⟩, R_uR, if_neg (by omega), o.2, this.2, nar_b]
      · have := h1 j (by omega) he
        constructor
        · rw [R_uR, if_neg (by omega), R_uR, if_neg (by omega)]; exact this.1
        · rw [R_uR, if_neg (by omega), R_uR, if_neg (by omega)]; exact this.2
    · have := h2 j (by omega)
      constructor
      · rw [R_uR, if_neg (by omega), R_uR, if_neg (by omega)]; exact this.1
      · rw [R_uR, if_neg (by omega), R_uR, if_neg (by omega)]; exact this.2
theorem mSeen {S : gS} {a b : Nat} {E : aE} (ha : a < 5) (hb : b < 5) (hab : a ≠ b) (hE : eM S a E) (h8 : E.1 ≤ 8) : wp (FX12_laysSeen S (N a) (N b)) (fun T => fm [213, 214, 215] S T ∧ eM T b E ∧ (∀ j D, j < 5 → j ≠ b → D.1 ≤ 8 → eM S j D → eM T j D)) := by
  unfold FX12_laysSeen
  rw [if_pos (vpN ha (by omega)), if_pos (vpN hb (by omega)), clN (by omega), clN (by omega), wp_lt]
  refine wp_mono (mSeenL (S := S) (E := E) ha hb hab hE h8 8 0 FU _ (by omega) (by unfold FU; omega) (fm_uR fm_rf (by simp)) ?_ (fun j hj => absurd hj (by omega)) (fun j hj => ?_)) ?_
  · funext j
    rw [R_uR]; unfold up; simp only [true_and]
  · rw [R_uR, if_neg (by omega), R_uR, if_neg (by omega)]; exact ⟨rfl, rfl⟩
  · rintro T ⟨t1, t2, t3, t4⟩
    refine ⟨t1, ⟨?_, fun i hi => t3 i (by omega) hi⟩, fun j D hj hne h7 hD => ⟨?_, fun i hi => ?_⟩⟩
    · rw [t2]; unfold up; rw [if_pos rfl]; exact hE.1
    · rw [t2]; unfold up; rw [if_neg hne]; exact hD.1
    · have := t4 (8 * j + i) (by omega)
      rw [this.1, this.2]; exact hD.2 i hi
