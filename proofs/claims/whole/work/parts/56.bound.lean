/-! how much stands: never below 0, never above 99 -/
def okW (F : aF) (c : Nat) (A : aW) : Prop := wSz A ≤ 40 ∧ wMi A ≤ c ∧ (∀ i, i < 7 → 0 ≤ (wWa A i).toInt ∧ (wWa A i).toInt ≤ 99) ∧ (∀ i, fN F ≤ i → i < 7 → wWa A i = 0)
theorem okW_mo {F : aF} {c c' : Nat} {A : aW} (h : okW F c A) (hc : c ≤ c') : okW F c' A := ⟨h.1, Nat.le_trans h.2.1 hc, h.2.2⟩
theorem ti0 : Int32.toInt 0 = 0 := rfl
theorem ti1 : Int32.toInt 1 = 1 := rfl
theorem ti3 : Int32.toInt 3 = 3 := rfl
theorem ti6 : Int32.toInt 6 = 6 := rfl
theorem aMost_p {F : aF} {m : Nat} : 1 ≤ (aMost F m).toInt := by
  unfold aMost
  split
  · rw [ti6]; omega
  · split
    · rw [ti1]; omega
    · rw [ti3]; omega
/-- bounds behind a turn: B for those who wait -/
def bV (F : aF) (done : Nat → Prop) (B : Int) (w : Nat → Int32) : Prop := (∀ i, i < 7 → 0 ≤ (w i).toInt) ∧ (∀ i, i < fN F → done i → (w i).toInt ≤ 40) ∧ (∀ i, i < fN F → (w i).toInt ≤ B) ∧ (∀ i, fN F ≤ i → i < 7 → w i = 0)
theorem bSpout {F : aF} {st : Int32} {m : Nat} {v : aV} {done : Nat → Prop} {B : Int} (hm : m < fN F) (ok : okF F) (hB : B < 1000000000) (h : bV F done B v.1) (h40 : (v.1 m).toInt ≤ 40) : bV F (fun i => done i ∨ i = m) B (aSpout F st m v).1 := by
  have h7 := ok.1
  obtain ⟨a, b, c, d⟩ := h
  have p := @aMost_p F m
  have am := a m (by omega)
  have cm := c m hm
  have ho : 0 ≤ (aOut F st m v.1).toInt ∧ (aOut F st m v.1).toInt ≤ (v.1 m).toInt := by
    unfold aOut
    split
    · rw [ti0]; exact ⟨by omega, am⟩
    · split
      · rename_i h; rw [ilt] at h; omega
      · exact ⟨am, by omega⟩
  have hs : (v.1 m - aOut F st m v.1).toInt = (v.1 m).toInt - (aOut F st m v.1).toInt := ti_sub (by omega) (by omega)
  unfold aSpout
  refine ⟨fun i hi => ?_, fun i hi hd => ?_, fun i hi => ?_, fun i hi h7i => ?_⟩
  · simp only [up]; split
    · rw [hs]; omega
    · exact a i hi
  · simp only [up]; split
    · rw [hs]; omega
    · rename_i hne
      rcases hd with hd | hd
      · exact b i hi hd
      · exact absurd hd hne
  · simp only [up]; split
    · rw [hs]; omega
    · exact c i hi
  · simp only [up]; rw [if_neg (by omega)]; exact d i hi h7i
theorem bOver {F : aF} {m : Nat} {v : aV} {done : Nat → Prop} {B : Int} (hm : m < fN F) (ok : okF F) (hB : B < 1000000) (hB2 : 40 ≤ B) (h : bV F done B v.1) (hd : ∀ g, g < fN F → done g → fH F m ≤ fH F g) : bV F done (2 * B) (aOver F m v).1 ∧ ((aOver F m v).1 m).toInt ≤ 40 := by
  have h7 := ok.1
  obtain ⟨a, b, c, d⟩ := h
  have am := a m (by omega)
  have cm := c m hm
  have oo := ok.2.2.2.2.2.2.1 m hm
  have o1 : 0 ≤ (fO F m).toInt := by have := oo.2.2.1; rw [ile] at this; rw [ti0] at this; exact this
  have o2 : (fO F m).toInt ≤ 40 := by have := oo.2.2.2; rw [ile] at this; exact this
  have hs : (v.1 m - fO F m).toInt = (v.1 m).toInt - (fO F m).toInt := ti_sub (by omega) (by omega)
  by_cases hc : 0 < v.1 m - fO F m
  · have hc' : 0 < (v.1 m).toInt - (fO F m).toInt := by rw [ilt, hs, ti0] at hc; exact hc
    have e : v.1 m - (v.1 m - fO F m) = fO F m := sub_sub_s
    rcases ok.2.2.2.2.1 m hm with hg | ⟨g, g1, g2, g3⟩
    · rw [aOver_a hc hg, e]
      refine ⟨⟨fun i hi => ?_, fun i hi hh => ?_, fun i hi => ?_, fun i hi h7i => ?_⟩, ?_⟩
      · simp only [up]; split
        · omega
        · exact a i hi
      · simp only [up]; split
        · omega
        · exact b i hi hh
      · simp only [up]; split
        · omega
        · have := c i hi; omega
      · simp only [up]; rw [if_neg (by omega)]; exact d i hi h7i
      · simp only [up]; rw [if_pos trivial]; exact o2
    · rw [aOver_b hc (by omega) g2, e]
      have hgm : g ≠ m := by rintro rfl; rw [ilt] at g3; omega
      have ag := a g (by omega)
      have cg := c g g1
      have hadd : (v.1 g + (v.1 m - fO F m)).toInt = (v.1 g).toInt + ((v.1 m).toInt - (fO F m).toInt) := by
        rw [ti_add, hs]
        · rw [hs]; omega
        · rw [hs]; omega
      refine ⟨⟨fun i hi => ?_, fun i hi hh => ?_, fun i hi => ?_, fun i hi h7i => ?_⟩, ?_⟩
      · simp only [up]; split
        · rw [hadd]; omega
        · split
          · omega
          · exact a i hi
      · simp only [up]; split
        · rename_i hig
          subst hig
          have := hd i g1 hh
          rw [ile] at this; rw [ilt] at g3; omega
        · split
          · omega
          · exact b i hi hh
      · simp only [up]; split
        · rw [hadd]; omega
        · split
          · omega
          · have := c i hi; omega
      · simp only [up]; rw [if_neg (by omega), if_neg (by omega)]; exact d i hi h7i
      · simp only [up]; rw [if_neg (Ne.symm hgm), if_pos trivial]; exact o2
  · rw [aOver_c hc]
    have hc' : ¬ 0 < (v.1 m).toInt - (fO F m).toInt := by rw [ilt, hs, ti0] at hc; exact hc
    exact ⟨⟨a, b, fun i hi => by have := c i hi; omega, d⟩, by omega⟩
theorem bSteps {F : aF} (ok : okF F) {st : Int32} {v : aV} (h : bV F (fun _ => False) 180 v.1) : ∀ k, k ≤ fN F → bV F (fun i => ∃ j, j < k ∧ fR F j = i) (180 * 2 ^ k) (aSteps F st v k).1 := by
  have h7 := ok.1
  intro k
  induction k with
  | zero =>
    intro _
    exact ⟨h.1, fun i _ ⟨j, hj, _⟩ => by omega, fun i hi => by have := h.2.2.1 i hi; simpa [aSteps] using this, h.2.2.2⟩
  | succ k ih =>
    intro hk
    have hh := ih (by omega)
    have hm := ok.2.2.2.1 k (by omega)
    have p1 : (2 : Int) ^ k ≤ 128 := by
      have : (2 : Nat) ^ k ≤ 2 ^ 7 := Nat.pow_le_pow_right (by omega) (by omega)
      have h2 : ((2 ^ k : Nat) : Int) ≤ ((2 ^ 7 : Nat) : Int) := Int.ofNat_le.mpr this
      simpa using h2
    have p0 : (1 : Int) ≤ 2 ^ k := by
      have : (2 : Nat) ^ 0 ≤ 2 ^ k := Nat.pow_le_pow_right (by omega) (by omega)
      have h2 : ((2 ^ 0 : Nat) : Int) ≤ ((2 ^ k : Nat) : Int) := Int.ofNat_le.mpr this
      simpa using h2
    have e : (180 : Int) * 2 ^ (k + 1) = 2 * (180 * 2 ^ k) := by rw [Int.pow_succ]; omega
    rw [e]
    have q := bOver hm ok (by omega) (by omega) hh (fun g _ ⟨j, j1, j2⟩ => by rw [← j2]; exact (ok.2.2.2.2.2.1 j k j1 (by omega)).1)
    have q2 := bSpout (st := st) hm ok (by omega) q.1 q.2
    refine ⟨q2.1, fun i hi ⟨j, j1, j2⟩ => q2.2.1 i hi ?_, q2.2.2⟩
    by_cases hjk : j = k
    · subst hjk; exact Or.inr j2.symm
    · exact Or.inl ⟨j, by omega, j2⟩
theorem okPass {F : aF} (ok : okF F) {c : Nat} {r : Int32} {A : aW} (hr : 0 ≤ r.toInt ∧ r.toInt ≤ 9) (h : okW F c A) : okW F (c + 1) (aPass F r A) := by
  have h7 := ok.1
  obtain ⟨a, b, w, z⟩ := h
  have hb : bV F (fun _ => False) 180 (aRise F r (wWa A) (fN F)) := by
    have key : ∀ i, i < fN F → (aRise F r (wWa A) (fN F) i).toInt = (wWa A i).toInt + r.toInt * (fT F i).toInt ∧ 0 ≤ r.toInt * (fT F i).toInt ∧ r.toInt * (fT F i).toInt ≤ 81 := by
      intro i hi
      have t := ok.2.2.2.2.2.2.1 i hi
      have t1 : 0 ≤ (fT F i).toInt := by have := t.1; rw [ile, ti0] at this; exact this
      have t2 : (fT F i).toInt ≤ 9 := by have := t.2.1; rw [ile] at this; exact this
      have m1 : 0 ≤ r.toInt * (fT F i).toInt := Int.mul_nonneg hr.1 t1
      have m2 : r.toInt * (fT F i).toInt ≤ 9 * 9 := Int.mul_le_mul hr.2 t2 t1 (by omega)
      have w1 := w i (by omega)
      refine ⟨?_, m1, m2⟩
      simp only [aRise]
      rw [if_pos hi, ti_add]
      · rw [ti_mul (by omega) (by omega)]
      · rw [ti_mul (by omega) (by omega)]; omega
      · rw [ti_mul (by omega) (by omega)]; omega
    refine ⟨fun i hi => ?_, fun i _ hf => hf.elim, fun i hi => ?_, fun i hi h7i => ?_⟩
    · by_cases hin : i < fN F
      · have := key i hin; have := w i hi; omega
      · simp only [aRise]; rw [if_neg hin]; exact (w i hi).1
    · have := key i hi; have := w i (by omega); omega
    · simp only [aRise]; rw [if_neg (by omega)]; exact z i hi h7i
  have hs := bSteps (st := wSt A) (v := (aRise F r (wWa A) (fN F), wFl A, 0, 0)) ok hb (fN F) (Nat.le_refl _)
  change bV F _ _ (aEnd F r A).1 at hs
  refine ⟨?_, ?_, fun i hi => ?_, fun i hi h7i => ?_⟩
  · by_cases e : aLast F r A = -1 ∨ 40 ≤ wSz A
    · rw [(aPz e).1]; exact a
    · rw [(aPn e).1]; omega
  · change wMi A + 1 ≤ c + 1; omega
  · change 0 ≤ ((aEnd F r A).1 i).toInt ∧ ((aEnd F r A).1 i).toInt ≤ 99
    refine ⟨hs.1 i hi, ?_⟩
    by_cases hin : i < fN F
    · have := hs.2.1 i hin (pig (fN F) (fR F) ok.2.2.2.1 (fun i j a c => (ok.2.2.2.2.2.1 i j a c).2) i hin)
      omega
    · rw [hs.2.2.2 i (by omega) hi, ti0]; omega
  · exact hs.2.2.2 i hi h7i
theorem aRain_b {F : aF} (ok : okF F) (mi : Nat) : 0 ≤ (aRain F mi).toInt ∧ (aRain F mi).toInt ≤ 9 := by
  unfold aRain
  split
  · rw [ti0]; omega
  · have hl : mi % fC F < fC F := Nat.mod_lt _ (by omega)
    have := ok.2.2.2.2.2.2.2.1 _ hl
    rw [ile, ile, ti0] at this
    exact this
/-- minutes as told, one behind another -/
def aT (F : aF) (A : aW) : aW := aPass F (aRain F (wMi A)) A
def aIt (F : aF) (A : aW) : Nat → aW
  | 0 => A
  | k + 1 => aT F (aIt F A k)
theorem okIt {F : aF} (ok : okF F) {c : Nat} {A : aW} (h : okW F c A) : ∀ k, okW F (c + k) (aIt F A k) := by
  intro k
  induction k with
  | zero => exact h
  | succ k ih => exact okPass ok (aRain_b ok _) ih
