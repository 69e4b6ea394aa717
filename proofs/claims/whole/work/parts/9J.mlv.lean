/-! the levels of an E, the model's codes -/
def mStq (d : Nat) (c : Int32) (S1 S2 : gS) : Prop := ∀ i e K Q, sR S1 194 i = c → sR S1 193 0 = N e → i < e → e ≤ 2000 → (∀ k', K ≤ k' → wk k' d (i + 1) S2 Q) → ∀ k, K + 2 ≤ k → wk k d i S1 Q
theorem MSg_up {pre1 pre : gS → Nat → Prop} {pst1 pst : gS → gS → Nat → Int32 → Prop} {d : Nat} {a : List Int32} {v : aVl} (ha : MSg pre1 pst1 d a v) (h1 : ∀ S, pre S d → pre1 S d) (h2 : ∀ S S1 x, pre S d → pst1 S S1 d x → pst S S1 d x) : MSg pre pst d a v := by
  intro S i e k Q hd h0 hp hg he hi he2 hk hc
  exact ha S i e k Q hd h0 (h1 S hp) hg he hi he2 hk (fun S' k' w w5 p hk' => hc S' k' w w5 (h2 S S' _ hp p) hk')
theorem MSg_join {pre1 pre2 pre : gS → Nat → Prop} {pst1 pst2 pst : gS → gS → Nat → Int32 → Prop} {d : Nat} {a b : List Int32} {c : Int32} {va vb v : aVl} {f : gS → gS} {vv : Int32 → Int32 → Int32} (ha : MSg pre1 pst1 d a va) (hb : MSg pre2 pst2 d b vb)
    (h1 : ∀ S, pre S d → pre1 S d) (h2 : d ≤ 5 → ∀ S, mStq d c S (f S) ∧ mW d S (f S) ∧ sR (f S) 205 d = sR S 205 d)
    (h3 : ∀ S S1 x, pre S d → pst1 S S1 d x → pre2 (f S1) d)
    (h4 : ∀ S S1 S3 x y, pre S d → pst1 S S1 d x → pst2 (f S1) S3 d y → pst S S3 d (vv x y))
    (hv : ∀ p q r s, v p q r s = vv (va p q r s) (vb p q r s)) : MSg pre pst d (a ++ c :: b) v := by
  intro S i e k Q hd h0 hp hg he hi he2 hk hc
  rw [List.length_append, List.length_cons] at hi hc
  obtain ⟨g1, g3, g4⟩ := (sgm_app a (c :: b) i).mp hg
  refine ha S i e k Q hd h0 (h1 S hp) g1 he (by omega) he2 hk ?_
  intro S1 k1 w1 w5 p1 hk1
  obtain ⟨s1, s2, s3⟩ := h2 hd S1
  refine s1 (i + a.length) e (20 * (e - (i + a.length + 1)) + 20) Q (by rw [mW_o w1 (by omega)]; exact g3) (by rw [mW_o w1 (by omega)]; exact he) (by omega) he2 ?_ k1 (by omega)
  intro k2 hk2
  have wf := mW_tr w1 s2
  refine hb (f S1) (i + a.length + 1) e k2 Q hd (by rw [s3, w5]; exact h0) (h3 S S1 _ hp p1) (by rw [mW_o wf (by omega)]; exact g4) (by rw [mW_o wf (by omega)]; exact he) (by omega) he2 hk2 ?_
  intro S3 k3 w3 w35 p3 hk3
  have ev : vS S v = vv (vS S va) (vS S vb) := hv _ _ _ _
  rw [vS_W wf] at p3
  have := hc S3 k3 (mW_tr wf w3) (by rw [w35, s3, w5]) (by rw [ev]; exact h4 S S1 S3 _ _ hp p1 p3) (by rw [show i + (a.length + (b.length + 1)) = i + a.length + 1 + b.length by omega]; exact hk3)
  rw [show i + (a.length + (b.length + 1)) = i + a.length + 1 + b.length by omega] at this
  exact this
/-! the steps -/
theorem stp22 {d : Nat} {S : gS} (hd : d ≤ 5) : mStq d 22 S (uR S 204 d 22) := by
  intro i e K Q hc he hi he2 h k hk
  obtain ⟨k, rfl, hk'⟩ := kS (k := k) (m := K + 1) (by omega)
  refine wk_c hc he hi he2 ?_
  rw [if_neg (by decide), if_neg (by decide), if_neg (by decide), if_neg (by decide), if_pos rfl, if_pos (vpN (by omega) (by omega)), clN (by omega), wp_lt, addN1]
  exact h k (by omega)
theorem stpS {d : Nat} {S : gS} {c : Int32} (hd : d ≤ 5) (hc2 : c = 20 ∨ c = 21) : mStq d c S (uR (mSm S d) 202 d c) := by
  intro i e K Q hc he hi he2 h k hk
  obtain ⟨k, rfl, hk'⟩ := kS (k := k) (m := K + 1) (by omega)
  obtain ⟨k, rfl, hk2⟩ := kS (k := k) (m := K) (by omega)
  have g : ∀ x : Int32, wp (fX12_worked (k + 1) 89 S 0 (N d) (N i) x 0) Q ↔ wk k d (i + 1) (uR (mSm S d) 202 d x) Q := by
    intro x
    unfold wk
    rw [fX12_worked]
    simp only [if_true]
    rw [if_neg (by decide), if_neg (by decide)]
    simp only [bX12_worked_89]
    rw [mSums (by omega), wp_b1, wp_some, if_pos (vpN (by omega) (by omega)), clN (by omega), wp_lt, addN1]
  refine wk_c hc he hi he2 ?_
  rcases hc2 with rfl | rfl
  · rw [if_neg (by decide), if_neg (by decide), if_pos rfl]
    exact (g 20).mpr (h k hk2)
  · rw [if_neg (by decide), if_neg (by decide), if_neg (by decide), if_pos rfl]
    exact (g 21).mpr (h k hk2)
def mCm (S : gS) (d : Nat) (c : Int32) : gS := uR (uR (uR (uR (mSm S d) 199 d (sv S d)) 200 d c) 201 d 0) 202 d 20
theorem stpC {d : Nat} {S : gS} {c : Int32} (hd : d ≤ 5) (hc2 : c = 24 ∨ c = 25) : mStq d c S (mCm S d c) := by
  intro i e K Q hc he hi he2 h k hk
  obtain ⟨k, rfl, hk'⟩ := kS (k := k) (m := K + 1) (by omega)
  obtain ⟨k, rfl, hk2⟩ := kS (k := k) (m := K) (by omega)
  have g : ∀ x : Int32, wp (fX12_worked (k + 1) 137 S 0 (N d) (N i) x 0) Q ↔ wk k d (i + 1) (mCm S d x) Q := by
    intro x
    unfold wk mCm
    rw [fX12_worked]
    simp only [if_true]
    rw [if_neg (by decide), if_neg (by decide), if_neg (by decide)]
    simp only [bX12_worked_137]
    rw [mSums (by omega), wp_b1, wp_some, if_pos (vpN (by omega) (by omega)), clN (by omega), wp_lt, wp_lt, wp_lt, wp_lt, addN1, show sR (mSm S d) 201 d = sv S d from by rw [mSm_r, if_neg (by omega), if_pos ⟨rfl, rfl⟩]]
  refine wk_c hc he hi he2 ?_
  rcases hc2 with rfl | rfl
  · rw [if_neg (by decide), if_neg (by decide), if_neg (by decide), if_neg (by decide), if_neg (by decide), if_pos rfl]
    exact (g 24).mpr (h k hk2)
  · rw [if_neg (by decide), if_neg (by decide), if_neg (by decide), if_neg (by decide), if_neg (by decide), if_neg (by decide), if_pos rfl]
    exact (g 25).mpr (h k hk2)
theorem stpT {d : Nat} {S : gS} {c : Int32} (hd : d ≤ 5) (hc2 : c = 26 ∨ c = 27) : mStq d c S (uR (mTs S d) 198 d c) := by
  intro i e K Q hc he hi he2 h k hk
  obtain ⟨k, rfl, hk'⟩ := kS (k := k) (m := K + 1) (by omega)
  obtain ⟨k, rfl, hk2⟩ := kS (k := k) (m := K) (by omega)
  have g : ∀ x : Int32, wp (fX12_worked (k + 1) 194 S 0 (N d) (N i) x 0) Q ↔ wk k d (i + 1) (uR (mTs S d) 198 d x) Q := by
    intro x
    unfold wk
    rw [fX12_worked]
    simp only [if_true]
    rw [if_neg (by decide), if_neg (by decide), if_neg (by decide), if_neg (by decide)]
    simp only [bX12_worked_194]
    rw [mTests (by omega), wp_b1, wp_some, if_pos (vpN (by omega) (by omega)), clN (by omega), wp_lt, addN1]
  refine wk_c hc he hi he2 ?_
  rcases hc2 with rfl | rfl
  · rw [if_neg (by decide), if_neg (by decide), if_neg (by decide), if_neg (by decide), if_neg (by decide), if_neg (by decide), if_neg (by decide), if_pos rfl]
    exact (g 26).mpr (h k hk2)
  · rw [if_neg (by decide), if_neg (by decide), if_neg (by decide), if_neg (by decide), if_neg (by decide), if_neg (by decide), if_neg (by decide), if_neg (by decide), if_pos rfl]
    exact (g 27).mpr (h k hk2)
/-! the levels -/
def ps4 (S S' : gS) (d : Nat) (x : Int32) : Prop := sR S' 203 d = (if sR S 204 d = 0 then x else sR S 203 d * x) ∧ sR S' 197 d = sR S 197 d ∧ sR S' 198 d = sR S 198 d ∧ sR S' 199 d = sR S 199 d ∧ sR S' 200 d = sR S 200 d ∧ sR S' 201 d = sR S 201 d ∧ sR S' 202 d = sR S 202 d ∧ sR S' 204 d = sR S 204 d
def pr3 (S : gS) (d : Nat) : Prop := sR S 204 d = 0
def ps3 (S S' : gS) (d : Nat) (x : Int32) : Prop := sR S' 203 d = x ∧ sR S' 197 d = sR S 197 d ∧ sR S' 198 d = sR S 198 d ∧ sR S' 199 d = sR S 199 d ∧ sR S' 200 d = sR S 200 d ∧ sR S' 201 d = sR S 201 d ∧ sR S' 202 d = sR S 202 d
def pr2 (S : gS) (d : Nat) : Prop := sR S 204 d = 0 ∧ sR S 201 d = 0 ∧ sR S 202 d = 20
def ps2 (S S' : gS) (d : Nat) (x : Int32) : Prop := sv S' d = x ∧ sR S' 197 d = sR S 197 d ∧ sR S' 198 d = sR S 198 d ∧ sR S' 199 d = sR S 199 d ∧ sR S' 200 d = sR S 200 d
def pr1 (S : gS) (d : Nat) : Prop := pr2 S d ∧ sR S 200 d = 0
def ps1 (S S' : gS) (d : Nat) (x : Int32) : Prop := tv S' d = x ∧ sR S' 197 d = sR S 197 d ∧ sR S' 198 d = sR S 198 d
def pr0 (S : gS) (d : Nat) : Prop := pr1 S d ∧ sR S 198 d = 0
def ps0 (_ S' : gS) (d : Nat) (x : Int32) : Prop := kv S' d = x
def zM4 (d : Nat) (a : List Int32) (v : aVl) : Prop := MSg (fun _ _ => True) ps4 d a v
def zM3 (d : Nat) (a : List Int32) (v : aVl) : Prop := MSg pr3 ps3 d a v
def zM2 (d : Nat) (a : List Int32) (v : aVl) : Prop := MSg pr2 ps2 d a v
def zM1 (d : Nat) (a : List Int32) (v : aVl) : Prop := MSg pr1 ps1 d a v
def zM0 (d : Nat) (a : List Int32) (v : aVl) : Prop := MSg pr0 ps0 d a v
theorem zm43 {d : Nat} {a : List Int32} {v : aVl} (h : zM4 d a v) : zM3 d a v :=
  MSg_up h (fun _ _ => trivial) (fun S S1 x hp ⟨p1, p2, p3, p4, p5, p6, p7, _⟩ => ⟨by rw [p1, if_pos (show sR S 204 d = 0 from hp)], p2, p3, p4, p5, p6, p7⟩)
theorem zm32 {d : Nat} {a : List Int32} {v : aVl} (h : zM3 d a v) : zM2 d a v :=
  MSg_up h (fun _ hp => hp.1) (fun S S1 x hp ⟨p1, p2, p3, p4, p5, p6, p7⟩ => ⟨by unfold sv; rw [p7, hp.2.2, if_neg (by decide), p6, hp.2.1, p1, Int32.zero_add], p2, p3, p4, p5⟩)
theorem zm21 {d : Nat} {a : List Int32} {v : aVl} (h : zM2 d a v) : zM1 d a v :=
  MSg_up h (fun _ hp => hp.1) (fun S S1 x hp ⟨p1, p2, p3, p4, p5⟩ => ⟨by unfold tv; rw [p5, hp.2, if_neg (by decide), if_neg (by decide), p1], p2, p3⟩)
theorem zm10 {d : Nat} {a : List Int32} {v : aVl} (h : zM1 d a v) : zM0 d a v :=
  MSg_up h (fun _ hp => hp.1) (fun S S1 x hp ⟨p1, p2, p3⟩ => by unfold ps0 kv; rw [p3, hp.2, if_neg (by decide), if_neg (by decide), p1])
theorem jn12 {a b : Int32} : jn (-12) a b = a * b := by
  unfold jn
  rw [if_neg (by decide), if_neg (by decide), if_neg (by decide), if_neg (by decide), if_neg (by decide), if_neg (by decide)]
theorem jn11 {a b : Int32} : jn (-11) a b = a - b := by unfold jn; rw [if_pos rfl]
theorem jn10 {a b : Int32} : jn (-10) a b = a + b := by unfold jn; rw [if_neg (by decide), if_pos rfl]
theorem jn9 {a b : Int32} : jn (-9) a b = if a = b then 1 else 0 := by unfold jn; rw [if_neg (by decide), if_neg (by decide), if_pos rfl]
theorem jn8 {a b : Int32} : jn (-8) a b = if b ≤ a then 0 else 1 := by unfold jn; rw [if_neg (by decide), if_neg (by decide), if_neg (by decide), if_pos rfl]
theorem jn7 {a b : Int32} : jn (-7) a b = if a = 0 then (if b = 0 then 0 else 1) else 1 := by unfold jn; rw [if_neg (by decide), if_neg (by decide), if_neg (by decide), if_neg (by decide), if_pos rfl]
theorem jn6 {a b : Int32} : jn (-6) a b = if a = 0 then 0 else if b = 0 then 0 else 1 := by unfold jn; rw [if_neg (by decide), if_neg (by decide), if_neg (by decide), if_neg (by decide), if_neg (by decide), if_pos rfl]
theorem m3j {d : Nat} {a b : List Int32} {va vb : aVl} (ha : zM3 d a va) (hb : zM4 d b vb) : zM3 d (a ++ 22 :: b) (fun p q r s => jn (-12) (va p q r s) (vb p q r s)) := by
  refine MSg_join (f := fun S => uR S 204 d 22) (vv := jn (-12)) ha hb (fun _ h => h) (fun hd S => ⟨stp22 hd, mW_R mW_rf (by omega) (by omega) (Nat.le_refl _), by rw [R_uR, if_neg (by omega)]⟩) (fun _ _ _ _ _ => trivial) ?_ (fun _ _ _ _ => rfl)
  rintro S S1 S3 x y hp ⟨p1, p2, p3, p4, p5, p6, p7⟩ ⟨q1, q2, q3, q4, q5, q6, q7, q8⟩
  rw [R_self, if_neg (by decide), R_uR, if_neg (by omega), p1] at q1
  rw [R_uR, if_neg (by omega)] at q2 q3 q4 q5 q6 q7
  exact ⟨by rw [q1, jn12], q2.trans p2, q3.trans p3, q4.trans p4, q5.trans p5, q6.trans p6, q7.trans p7⟩
theorem m2j {d : Nat} {a b : List Int32} {c xc : Int32} {va vb : aVl} (hc : c = 20 ∧ xc = -10 ∨ c = 21 ∧ xc = -11) (ha : zM2 d a va) (hb : zM3 d b vb) : zM2 d (a ++ c :: b) (fun p q r s => jn xc (va p q r s) (vb p q r s)) := by
  have hc2 : c = 20 ∨ c = 21 := by rcases hc with h | h; exact Or.inl h.1; exact Or.inr h.1
  refine MSg_join (f := fun S => uR (mSm S d) 202 d c) (vv := jn xc) ha hb (fun _ h => h) (fun hd S => ⟨stpS hd hc2, mW_R mSm_W (by omega) (by omega) (Nat.le_refl _), by rw [R_uR, if_neg (by omega), mSm_r, if_neg (by omega), if_neg (by omega)]⟩) (fun S S1 x hp p => ?_) ?_ (fun _ _ _ _ => rfl)
  · show sR (uR (mSm S1 d) 202 d c) 204 d = 0
    rw [R_uR, if_neg (by omega), mSm_r, if_pos ⟨rfl, rfl⟩]
  · rintro S S1 S3 x y hp ⟨p1, p2, p3, p4, p5⟩ ⟨q1, q2, q3, q4, q5, q6, q7⟩
    rw [R_self] at q7
    rw [R_uR, if_neg (by omega), mSm_r, if_neg (by omega), if_pos ⟨rfl, rfl⟩, p1] at q6
    rw [R_uR, if_neg (by omega), mSm_r, if_neg (by omega), if_neg (by omega)] at q2 q3 q4 q5
    refine ⟨?_, q2.trans p2, q3.trans p3, q4.trans p4, q5.trans p5⟩
    unfold sv
    rw [q7, q6, q1]
    rcases hc with ⟨rfl, rfl⟩ | ⟨rfl, rfl⟩
    · rw [if_neg (by decide), jn10]
    · rw [if_pos rfl, jn11]
theorem m1j {d : Nat} {a b : List Int32} {c xc : Int32} {va vb : aVl} (hc : c = 24 ∧ xc = -8 ∨ c = 25 ∧ xc = -9) (ha : zM2 d a va) (hb : zM2 d b vb) : zM1 d (a ++ c :: b) (fun p q r s => jn xc (va p q r s) (vb p q r s)) := by
  have hc2 : c = 24 ∨ c = 25 := by rcases hc with h | h; exact Or.inl h.1; exact Or.inr h.1
  have er : ∀ S r j, sR (mCm S d c) r j = if r = 202 ∧ j = d then 20 else if r = 201 ∧ j = d then 0 else if r = 200 ∧ j = d then c else if r = 199 ∧ j = d then sv S d else if r = 204 ∧ j = d then 0 else if r = 201 ∧ j = d then sv S d else sR S r j := by
    intro S r j
    unfold mCm
    rw [R_uR, R_uR, R_uR, R_uR, mSm_r]
  refine MSg_join (f := fun S => mCm S d c) (vv := jn xc) ha hb (fun _ h => h.1) (fun hd S => ⟨stpC hd hc2, mW_R (mW_R (mW_R (mW_R mSm_W (by omega) (by omega) (Nat.le_refl _)) (by omega) (by omega) (Nat.le_refl _)) (by omega) (by omega) (Nat.le_refl _)) (by omega) (by omega) (Nat.le_refl _), ?_⟩) (fun S S1 x hp p => ⟨?_, ?_, ?_⟩) ?_ (fun _ _ _ _ => rfl)
  · rw [er, if_neg (by omega), if_neg (by omega), if_neg (by omega), if_neg (by omega), if_neg (by omega), if_neg (by omega)]
  · rw [er, if_neg (by omega), if_neg (by omega), if_neg (by omega), if_neg (by omega), if_pos ⟨rfl, rfl⟩]
  · rw [er, if_neg (by omega), if_pos ⟨rfl, rfl⟩]
  · rw [er, if_pos ⟨rfl, rfl⟩]
  · rintro S S1 S3 x y hp ⟨p1, p2, p3, p4, p5⟩ ⟨q1, q2, q3, q4, q5⟩
    rw [er, if_neg (by omega), if_neg (by omega), if_neg (by omega), if_neg (by omega), if_neg (by omega), if_neg (by omega)] at q2 q3
    rw [er, if_neg (by omega), if_neg (by omega), if_neg (by omega), if_pos ⟨rfl, rfl⟩, p1] at q4
    rw [er, if_neg (by omega), if_neg (by omega), if_pos ⟨rfl, rfl⟩] at q5
    refine ⟨?_, q2.trans p2, q3.trans p3⟩
    unfold tv
    rw [q5, q4, q1]
    rcases hc with ⟨rfl, rfl⟩ | ⟨rfl, rfl⟩
    · rw [if_neg (by decide), if_pos rfl, jn8]
    · rw [if_pos rfl, jn9]
theorem m0j {d : Nat} {a b : List Int32} {c xc : Int32} {va vb : aVl} (hc : c = 26 ∧ xc = -6 ∨ c = 27 ∧ xc = -7) (ha : zM0 d a va) (hb : zM1 d b vb) : zM0 d (a ++ c :: b) (fun p q r s => jn xc (va p q r s) (vb p q r s)) := by
  have hc2 : c = 26 ∨ c = 27 := by rcases hc with h | h; exact Or.inl h.1; exact Or.inr h.1
  refine MSg_join (f := fun S => uR (mTs S d) 198 d c) (vv := jn xc) ha hb (fun _ h => h) (fun hd S => ⟨stpT hd hc2, mW_R mTs_W (by omega) (by omega) (Nat.le_refl _), ?_⟩) (fun S S1 x hp p => ⟨⟨?_, ?_, ?_⟩, ?_⟩) ?_ (fun _ _ _ _ => rfl)
  · rw [R_uR, if_neg (by omega), mTs_r, if_neg (by omega), if_neg (by omega), if_neg (by omega), if_neg (by omega), if_neg (by omega)]
  · rw [R_uR, if_neg (by omega), mTs_r, if_neg (by omega), if_neg (by omega), if_neg (by omega), if_neg (by omega), if_pos ⟨rfl, rfl⟩]
  · rw [R_uR, if_neg (by omega), mTs_r, if_neg (by omega), if_pos ⟨rfl, rfl⟩]
  · rw [R_uR, if_neg (by omega), mTs_r, if_pos ⟨rfl, rfl⟩]
  · rw [R_uR, if_neg (by omega), mTs_r, if_neg (by omega), if_neg (by omega), if_pos ⟨rfl, rfl⟩]
  · rintro S S1 S3 x y hp p1 ⟨q1, q2, q3⟩
    rw [R_uR, if_neg (by omega), mTs_r, if_neg (by omega), if_neg (by omega), if_neg (by omega), if_pos ⟨rfl, rfl⟩, show kv S1 d = x from p1] at q2
    rw [R_self] at q3
    unfold ps0 kv
    rw [q3, q2, q1]
    rcases hc with ⟨rfl, rfl⟩ | ⟨rfl, rfl⟩
    · rw [if_neg (by decide), if_pos rfl, jn6]
    · rw [if_pos rfl, jn7]
