/-! a minute of the model -/
abbrev lwS : List Nat := [197, 198, 199, 200, 201, 202, 203, 204, 205, 206]
def fm (L : List Nat) (S S' : gS) : Prop := fr (180 :: L) S S' ∧ sI S' 180 1 = sI S 180 1 ∧ sI S' 180 53 = sI S 180 53
theorem fm_rf {L : List Nat} {S : gS} : fm L S S := ⟨fr_rf, rfl, rfl⟩
theorem fm_tr {L : List Nat} {S S1 S2 : gS} (h1 : fm L S S1) (h2 : fm L S1 S2) : fm L S S2 := ⟨fr_tr h1.1 h2.1, h2.2.1.trans h1.2.1, h2.2.2.trans h1.2.2⟩
theorem fm_mo {L L' : List Nat} {S S' : gS} (h : fm L S S') (hl : ∀ b, b ∈ L → b ∈ L') : fm L' S S' :=
  ⟨fr_mo h.1 (fun b hb => by rcases List.mem_cons.mp hb with e | e; exact List.mem_cons.mpr (Or.inl e); exact List.mem_cons.mpr (Or.inr (hl b e))), h.2.1, h.2.2⟩
theorem fm_uR {L : List Nat} {S S' : gS} {a k : Nat} {x : Int32} (h : fm L S S') (ha : a ∈ L) : fm L S (uR S' a k x) := ⟨fr_uR h.1 (List.mem_cons.mpr (Or.inr ha)), h.2.1, h.2.2⟩
theorem fm_uL {L : List Nat} {S S' : gS} {a k : Nat} {x : Int64} (h : fm L S S') (ha : a ∈ L) : fm L S (uL S' a k x) := ⟨fr_uL h.1 (List.mem_cons.mpr (Or.inr ha)), h.2.1, h.2.2⟩
theorem fm_uJ {L : List Nat} {S S' : gS} {a k : Nat} {x : Int64} (h : fm L S S') : fm L S (uJ S' a k x) := h
theorem fm_uI {L : List Nat} {S S' : gS} {k : Nat} {x : Int32} (h : fm L S S') (h1 : k ≠ 1) (h2 : k ≠ 53) : fm L S (uI S' 180 k x) := by
  refine ⟨fr_uI h.1 (by simp), ?_, ?_⟩
  · rw [I_uI, if_neg (by omega)]; exact h.2.1
  · rw [I_uI, if_neg (by omega)]; exact h.2.2
theorem fmR {L : List Nat} {S S' : gS} (h : fm L S S') {b : Nat} (hb : b ∉ L) (hb2 : b ≠ 180) : sR S' b = sR S b := frR h.1 (by simp; exact ⟨hb2, hb⟩)
theorem fmI {L : List Nat} {S S' : gS} (h : fm L S S') {b : Nat} (hb : b ∉ L) (hb2 : b ≠ 180) (k : Nat) : sI S' b k = sI S b k := frI h.1 (by simp; exact ⟨hb2, hb⟩) k
theorem fmL {L : List Nat} {S S' : gS} (h : fm L S S') {b : Nat} (hb : b ∉ L) (hb2 : b ≠ 180) : sL S' b = sL S b := frL h.1 (by simp; exact ⟨hb2, hb⟩)
theorem fmQ {L : List Nat} {S S' : gS} (h : fm L S S') : sQ S' = sQ S := h.1.2
def lawM (S : gS) (e : Int32 → Int32 → Int32 → Int32 → Int32) : Prop := ∀ S', sR S' 192 0 = sR S 192 0 → sR S' 193 0 = sR S 193 0 → (∀ i, i < 1000 → sR S' 194 i = sR S 194 i) → ∀ m we, m < 7 → wp (FX12_isSounding S' (N m) we) (fun q => fm lwS S' q.1 ∧ sI q.1 180 55 = sI S' 180 55 ∧ sI q.1 180 56 = sI S' 180 56 ∧ q.2 = decide (¬ e (sR S' 216 (12 + m)) (sR S' 216 (5 + m)) (sR S' 186 m) we = 0))
/-- the front of the model -/
def fMo (S : gS) (F : aF) : Prop := sR S 182 0 = N (fN F) ∧ sR S 182 1 = N (fL F) ∧ sR S 182 2 = N (fC F) ∧ (∀ i, i < fN F → sR S 185 i = fK F i ∧ sR S 186 i = fH F i ∧ sR S 187 i = fT F i ∧ sR S 188 i = fO F i ∧ sR S 189 i = fG F i ∧ sR S 222 i = N (fR F i)) ∧ (∀ i, i < fL F → sR S 190 i = fM F i) ∧ (∀ i, i < fC F → sR S 191 i = fP F i) ∧ lawM S (fE F)
theorem lawM_fr {S S' : gS} {e : Int32 → Int32 → Int32 → Int32 → Int32} (h : lawM S e) (h1 : sR S' 192 = sR S 192) (h2 : sR S' 193 = sR S 193) (h3 : sR S' 194 = sR S 194) : lawM S' e := by
  intro S2 q1 q2 q3
  exact h S2 (by rw [q1, h1]) (by rw [q2, h2]) (fun i hi => by rw [q3 i hi, h3])
theorem fMo_fm {L : List Nat} {S S' : gS} {F : aF} (hF : fMo S F) (h : fm L S S') (hl : ∀ b, (182 ≤ b ∧ b ≤ 194 ∨ b = 222) → b ∉ L) : fMo S' F := by
  obtain ⟨a1, a2, a3, a4, a5, a6, a7⟩ := hF
  have e : ∀ b, (182 ≤ b ∧ b ≤ 194 ∨ b = 222) → sR S' b = sR S b := fun b hb => fmR h (hl b hb) (by omega)
  refine ⟨?_, ?_, ?_, fun i hi => ?_, fun i hi => ?_, fun i hi => ?_, lawM_fr a7 (e _ (by omega)) (e _ (by omega)) (e _ (by omega))⟩
  · rw [e _ (by omega)]; exact a1
  · rw [e _ (by omega)]; exact a2
  · rw [e _ (by omega)]; exact a3
  · rw [e 185 (by omega), e 186 (by omega), e 187 (by omega), e 188 (by omega), e 189 (by omega), e 222 (by omega)]
    exact a4 i hi
  · rw [e _ (by omega)]; exact a5 i hi
  · rw [e _ (by omega)]; exact a6 i hi
def mV (S : gS) (v : aV) : Prop := (∀ i, i < 7 → sR S 216 (5 + i) = v.1 i) ∧ (∀ i, i < 7 → sR S 216 (12 + i) = v.2.1 i) ∧ sI S 180 56 = v.2.2.1 ∧ sI S 180 55 = v.2.2.2
def kR (S S' : gS) : Prop := ∀ j, j < 5 ∨ 19 ≤ j → sR S' 216 j = sR S 216 j
theorem pl5 {m : Nat} : (5 : Int32) + N m = N (5 + m) := addN (a := 5)
theorem pl12 {m : Nat} : (12 : Int32) + N m = N (12 + m) := addN (a := 12)
theorem pl19 {m : Nat} : (19 : Int32) + N m = N (19 + m) := addN (a := 19)
theorem pos1 {x : Int32} : (1 : Int32) ≤ x ↔ 0 < x := by
  rw [ile, ilt]
  have a : Int32.toInt 1 = 1 := rfl
  have b : Int32.toInt 0 = 0 := rfl
  omega
theorem mStopped {S : gS} {m : Nat} {Q : gS × Bool → Prop} (hm : m < 32) (h : Q (S, aHas (sR S 216 1) m)) : wp (FX12_isStopped S (N m)) Q := by
  unfold FX12_isStopped
  cases hc : aHas (sR S 216 1) m with
  | true => rw [if_pos ((has_1 hm).mpr hc), wp_some]; rw [hc] at h; exact h
  | false => rw [if_neg (fun c => absurd ((has_1 hm).mp c) (by rw [hc]; decide)), wp_some]; rw [hc] at h; exact h
theorem mRun {S : gS} {m : Nat} {F : aF} {v : aV} (hF : fMo S F) (ok : okF F) (hm : m < fN F) (hv : mV S v) :
    wp (FX12_runsOver S (N m)) (fun S' => fm [216] S S' ∧ kR S S' ∧ mV S' (aOver F m v)) := by
  obtain ⟨hn, -, -, hrows, -⟩ := hF
  obtain ⟨ho, hg⟩ : sR S 188 m = fO F m ∧ sR S 189 m = fG F m := ⟨(hrows m hm).2.2.2.1, (hrows m hm).2.2.2.2.1⟩
  have hn7 : fN F ≤ 7 := ok.1
  have hgg := ok.2.2.2.2.1 m hm
  obtain ⟨h1, h2, h3, h4⟩ := hv
  have hw1 := h1 m (by omega)
  unfold FX12_runsOver
  rw [pl5, clN (by omega), clN (by omega), wp_ifs, wp_ifs]
  refine ⟨vpN (by omega) (by omega), vpN (by omega) (by omega), ?_⟩
  rw [hw1, ho]
  by_cases hc : 0 < v.1 m - fO F m
  · rw [if_pos (pos1.mpr hc), wp_lt, R_uI, ho, wp_lt]
    rw [show sR (uR (uI S 180 56 (sI S 180 56 ||| 1 <<< (N m &&& 31))) 216 (5 + m) (fO F m)) 189 m = fG F m by rw [R_uR, if_neg (by omega), R_uI, hg]]
    by_cases hg1 : fG F m = -1
    · rw [hg1, if_neg (by decide), wp_lt, wp_some]
      refine ⟨fm_uI (fm_uR (fm_uI fm_rf (by omega) (by omega)) (by simp)) (by omega) (by omega), ?_, ?_⟩
      · intro j hj
        rw [R_uI, R_uR, if_neg (by omega), R_uI]
      · rw [aOver_a hc hg1, sub_sub_s]
        refine ⟨fun i hi => ?_, fun i hi => ?_, ?_, ?_⟩
        · rw [R_uI, R_uR, R_uI]
          simp only [up]
          by_cases e : i = m
          · subst e; simp
          · rw [if_neg (by omega), if_neg e]; exact h1 i hi
        · rw [R_uI, R_uR, R_uI, if_neg (by omega)]
          exact h2 i hi
        · simp only [I_uI, I_uR, h3, aBit]
          simp
        · simp only [I_uI, I_uR, h4]
          simp
    · rcases hgg with hgg | ⟨g, hg1', hg2, hg3⟩
      · exact absurd hgg hg1
      · rw [hg2, if_pos (show (0 : Int32) ≤ N g from (leN (a := 0) (by omega) (by omega)).mpr (by omega)), pl5, clN (by omega), wp_ifs]
        refine ⟨vpN (by omega) (by omega), ?_⟩
        rw [wp_lt, wp_some]
        refine ⟨fm_uR (fm_uR (fm_uI fm_rf (by omega) (by omega)) (by simp)) (by simp), ?_, ?_⟩
        · intro j hj
          rw [R_uR, if_neg (by omega), R_uR, if_neg (by omega), R_uI]
        · rw [aOver_b hc (by omega) hg2, sub_sub_s]
          refine ⟨fun i hi => ?_, fun i hi => ?_, ?_, ?_⟩
          · simp only [R_uI, R_uR, up, true_and]
            by_cases hig : i = g
            · rw [if_pos (by omega), if_pos hig]
              by_cases hgm : g = m
              · rw [if_pos (by omega), if_pos hgm]
              · rw [if_neg (by omega), if_neg hgm, h1 g (by omega)]
            · rw [if_neg (by omega), if_neg hig]
              by_cases him : i = m
              · rw [if_pos (by omega), if_pos him]
              · rw [if_neg (by omega), if_neg him]; exact h1 i hi
          · simp only [R_uI, R_uR, true_and]
            rw [if_neg (by omega), if_neg (by omega)]
            exact h2 i hi
          · simp only [I_uI, I_uR, h3, aBit]
            simp
          · simp only [I_uI, I_uR, h4]
            simp
  · rw [if_neg (fun c => hc (pos1.mp c)), wp_some]
    rw [aOver_c hc]
    exact ⟨fm_rf, fun k _ => rfl, h1, h2, h3, h4⟩
theorem mOut {S : gS} {m : Nat} {F : aF} {w : Nat → Int32} {Q : gS × Int32 → Prop} (hF : fMo S F) (ok : okF F) (hm : m < fN F) (h1 : sR S 216 (5 + m) = w m) (hQ : Q (S, aOut F (sR S 216 1) m w)) : wp (FX12_spoutOf S (N m)) Q := by
  have hn7 : fN F ≤ 7 := ok.1
  have hk : sR S 185 m = fK F m := (hF.2.2.2.1 m hm).1
  unfold FX12_spoutOf
  rw [wp_b2]
  apply mStopped (by omega)
  dsimp only
  unfold aOut at hQ
  rw [wp_ite]
  refine ⟨fun c => ?_, fun c => ?_⟩
  · rw [if_pos c] at hQ; rw [wp_some]; exact hQ
  · rw [if_neg c] at hQ
    rw [pl5, clN (by omega), clN (by omega), wp_ifs, wp_ifs, h1, hk]
    refine ⟨vpN (by omega) (by omega), vpN (by omega) (by omega), ?_⟩
    unfold aMost at hQ
    rw [wp_ite, wp_ite, wp_some, wp_some, wp_some]
    refine ⟨fun d => ?_, fun d => ⟨fun e => ?_, fun e => ?_⟩⟩
    · rw [if_pos d] at hQ; exact hQ
    · rw [if_neg d, if_pos e] at hQ; exact hQ
    · rw [if_neg d, if_neg e] at hQ; exact hQ
/-! who has had his turn is not touched again -/
theorem aOver_1 {F : aF} {m : Nat} {v : aV} {j : Nat} (hj : j ≠ m) (hg : fG F m = -1 ∨ ∃ g, g < 2147483648 ∧ fG F m = N g ∧ j ≠ g) : (aOver F m v).1 j = v.1 j := by
  unfold aOver
  split
  · split
    · simp only [up]; rw [if_neg hj]
    · rename_i h
      rcases hg with hg | ⟨g, g0, g1, g2⟩
      · exact absurd hg h
      · simp only [up, g1, clN g0]; rw [if_neg g2, if_neg hj]
  · rfl
theorem aOver_2 {F : aF} {m : Nat} {v : aV} : (aOver F m v).2.1 = v.2.1 := by
  unfold aOver
  split
  · split <;> rfl
  · rfl
theorem aStep_ne {F : aF} {st : Int32} {m : Nat} {v : aV} {j : Nat} (hj : j ≠ m) (hg : fG F m = -1 ∨ ∃ g, g < 2147483648 ∧ fG F m = N g ∧ j ≠ g) : (aStep F st m v).1 j = v.1 j ∧ (aStep F st m v).2.1 j = v.2.1 j := by
  unfold aStep aSpout
  simp only [up]
  rw [if_neg hj, if_neg hj, aOver_1 hj hg, aOver_2]
  exact ⟨rfl, rfl⟩
theorem aSteps_st {F : aF} (ok : okF F) {st : Int32} {v : aV} {i : Nat} : ∀ d, i + 1 + d ≤ fN F → (aSteps F st v (i + 1 + d)).1 (fR F i) = (aSteps F st v (i + 1)).1 (fR F i) ∧ (aSteps F st v (i + 1 + d)).2.1 (fR F i) = (aSteps F st v (i + 1)).2.1 (fR F i) := by
  intro d
  induction d with
  | zero => intro _; exact ⟨rfl, rfl⟩
  | succ d ih =>
    intro h
    obtain ⟨a, b⟩ := ih (by omega)
    obtain ⟨o1, o2⟩ := ok.2.2.2.2.2.1 i (i + 1 + d) (by omega) (by omega)
    have o3 := ok.2.2.2.1 (i + 1 + d) (by omega)
    have h7 := ok.1
    have key : (aStep F st (fR F (i + 1 + d)) (aSteps F st v (i + 1 + d))).1 (fR F i) = (aSteps F st v (i + 1 + d)).1 (fR F i) ∧ (aStep F st (fR F (i + 1 + d)) (aSteps F st v (i + 1 + d))).2.1 (fR F i) = (aSteps F st v (i + 1 + d)).2.1 (fR F i) := by
      apply aStep_ne o2
      rcases ok.2.2.2.2.1 _ o3 with hg | ⟨g, g1, g2, g3⟩
      · exact Or.inl hg
      · refine Or.inr ⟨g, by omega, g2, ?_⟩
        rintro rfl
        rw [ilt] at g3
        rw [ile] at o1
        omega
    exact ⟨key.1.trans a, key.2.trans b⟩
/-- the bits as the model gathers them -/
def aGat (F : aF) (st we : Int32) (v : aV) : Nat → Int32
  | 0 => 0
  | k + 1 => if decide (¬ fE F ((aSteps F st v (k + 1)).2.1 (fR F k)) ((aSteps F st v (k + 1)).1 (fR F k)) (fH F (fR F k)) we = 0) = true then aGat F st we v k ||| aBit (fR F k) else aGat F st we v k ||| 0
theorem gat_tb {F : aF} (ok : okF F) {st we : Int32} {v : aV} {b : Nat} (hb : b < 32) : ∀ k, k ≤ fN F → (tb (aGat F st we v k) b = true ↔ ∃ i, i < k ∧ fR F i = b ∧ ¬ fE F ((aSteps F st v (fN F)).2.1 b) ((aSteps F st v (fN F)).1 b) (fH F b) we = 0) := by
  intro k
  induction k with
  | zero =>
    intro _
    simp only [aGat, tb_zero]
    constructor
    · intro h; cases h
    · rintro ⟨i, hi, -⟩; omega
  | succ k ih =>
    intro hk
    have h7 := ok.1
    have ihk := ih (by omega)
    have o3 := ok.2.2.2.1 k (by omega)
    have st := aSteps_st (st := st) (v := v) ok (i := k) (fN F - (k + 1)) (by omega)
    rw [show k + 1 + (fN F - (k + 1)) = fN F by omega] at st
    rw [aGat, ← st.1, ← st.2]
    split
    · rename_i hc
      have hc := of_decide_eq_true hc
      rw [tb_or, Bool.or_eq_true, ihk, tb_bit (by omega) hb, decide_eq_true_eq]
      constructor
      · rintro (⟨i, i1, i2, i3⟩ | h)
        · exact ⟨i, by omega, i2, i3⟩
        · subst h; exact ⟨k, by omega, rfl, hc⟩
      · rintro ⟨i, i1, i2, i3⟩
        by_cases hik : i = k
        · subst hik; exact Or.inr i2.symm
        · exact Or.inl ⟨i, by omega, i2, i3⟩
    · rename_i hc
      have hc2 : ¬ ¬ _ := fun hh => hc (decide_eq_true hh)
      rw [tb_or, Bool.or_eq_true, ihk, tb_zero]
      constructor
      · rintro (⟨i, i1, i2, i3⟩ | h)
        · exact ⟨i, by omega, i2, i3⟩
        · cases h
      · rintro ⟨i, i1, i2, i3⟩
        by_cases hik : i = k
        · subst hik; subst i2; exact absurd i3 hc2
        · exact Or.inl ⟨i, by omega, i2, i3⟩
theorem snd_tb {F : aF} {we : Int32} {wat flo : Nat → Int32} {b : Nat} (hb : b < 32) : ∀ k, k ≤ 32 → (tb (aSnd F we wat flo k) b = true ↔ b < k ∧ ¬ fE F (flo b) (wat b) (fH F b) we = 0) := by
  intro k
  induction k with
  | zero =>
    intro _
    simp only [aSnd, tb_zero]
    constructor
    · intro h; cases h
    · rintro ⟨h, -⟩; omega
  | succ k ih =>
    intro hk
    have ihk := ih (by omega)
    rw [aSnd]
    split
    · rename_i hc
      rw [ihk]
      constructor
      · rintro ⟨a, b⟩; exact ⟨by omega, b⟩
      · rintro ⟨a, h⟩
        refine ⟨?_, h⟩
        by_cases e : b = k
        · subst e; exact absurd hc h
        · omega
    · rename_i hc
      rw [tb_or, Bool.or_eq_true, ihk, tb_bit (by omega) hb, decide_eq_true_eq]
      constructor
      · rintro (⟨a, h⟩ | h)
        · exact ⟨by omega, h⟩
        · subst h; exact ⟨by omega, hc⟩
      · rintro ⟨a, h⟩
        by_cases e : b = k
        · exact Or.inr e
        · exact Or.inl ⟨by omega, h⟩
theorem gat_snd {F : aF} (ok : okF F) {st we : Int32} {v : aV} : aGat F st we v (fN F) = aSnd F we (aSteps F st v (fN F)).1 (aSteps F st v (fN F)).2.1 (fN F) := by
  have h7 := ok.1
  apply tb_ext
  intro b hb
  apply Bool.eq_iff_iff.mpr
  rw [gat_tb ok hb _ (by omega), snd_tb hb _ (by omega)]
  constructor
  · rintro ⟨i, h1, h2, h3⟩
    exact ⟨h2 ▸ ok.2.2.2.1 i h1, h3⟩
  · rintro ⟨h1, h2⟩
    obtain ⟨i, i1, i2⟩ := pig (fN F) (fR F) ok.2.2.2.1 (fun i j a c => (ok.2.2.2.2.2.1 i j a c).2) b h1
    exact ⟨i, i1, i2, h2⟩
