/-! lines keep a front whole -/
theorem oBf_6 {h : Nat → Int32} {x y : Nat} (hb : oBf h x y) : h y ≤ h x ∧ x ≠ y := by
  unfold oBf at hb
  refine ⟨?_, fun e => ?_⟩
  · rw [ile]; omega
  · subst e; omega
theorem oBf_up {h : Nat → Int32} {n x y : Nat} {v : Int32} (hx : x < n) (hy : y < n) (hb : oBf h x y) : oBf (up h n v) x y := by
  unfold oBf up at *
  rw [if_neg (show ¬ x = n by omega), if_neg (show ¬ y = n by omega)]; exact hb
theorem N_le {a b : Nat} (hb : b < 2147483648) (h : a ≤ b) : (0 : Int32) ≤ N a ∧ N a ≤ N b := by
  refine ⟨?_, (leN (by omega) hb).mpr h⟩
  exact (leN (a := 0) (by omega) (by omega)).mpr (by omega)
theorem moB_ok {B : aB} {nm : List Nat} {kd h t o : Nat} (k : okB B) (hn : fN (bdF B) < 7) (hnm : okN nm) (hh : h ≤ 20) (ht : t ≤ 9) (ho : o ≤ 40) : okB (moB B nm kd h t o) := by
  obtain ⟨⟨k1, k2, k3, k4, k5, k6, k7, k8, k9, k10, k11⟩, ⟨n1, n2⟩, kl, ko, ko2⟩ := k
  obtain ⟨i1, i2⟩ := insO_in (h := up (fH (bdF B)) (fN (bdF B)) (N h)) (n := fN (bdF B)) (o := fR (bdF B)) (fun a b hab hb => oBf_up (ko2 a (by omega)) (ko2 b hb) (ko a b hab hb)) ko2
  have u : ∀ (g : Nat → Int32) (v : Int32) (i : Nat), up g (fN (bdF B)) v i = if i = fN (bdF B) then v else g i := fun _ _ _ => rfl
  refine ⟨⟨?_, k2, k3, i2, fun i hi => ?_, fun a b hab hb => oBf_6 (i1 a b hab hb), fun i hi => ?_, k8, fun _ => Nat.succ_pos _, k10, fun i hi => ?_⟩, ⟨fun i hi => ?_, n2⟩, kl, i1, i2⟩
  · show fN (bdF B) + 1 ≤ 7; omega
  · have hi' : i < fN (bdF B) + 1 := hi
    show up (fG (bdF B)) (fN (bdF B)) (-1) i = -1 ∨ ∃ g, g < fN (bdF B) + 1 ∧ up (fG (bdF B)) (fN (bdF B)) (-1) i = N g ∧ up (fH (bdF B)) (fN (bdF B)) (N h) g < up (fH (bdF B)) (fN (bdF B)) (N h) i
    rw [u]
    by_cases e : i = fN (bdF B)
    · left; rw [if_pos e]
    · rw [if_neg e]
      rcases k5 i (by omega) with z | ⟨g, g1, g2, g3⟩
      · exact Or.inl z
      · exact Or.inr ⟨g, by omega, g2, by rw [u, u, if_neg (by omega), if_neg e]; exact g3⟩
  · have hi' : i < fN (bdF B) + 1 := hi
    show 0 ≤ up (fT (bdF B)) (fN (bdF B)) (N t) i ∧ up (fT (bdF B)) (fN (bdF B)) (N t) i ≤ 9 ∧ 0 ≤ up (fO (bdF B)) (fN (bdF B)) (N o) i ∧ up (fO (bdF B)) (fN (bdF B)) (N o) i ≤ 40
    rw [u, u]
    by_cases e : i = fN (bdF B)
    · rw [if_pos e, if_pos e]
      exact ⟨(N_le (b := 9) (by omega) ht).1, (N_le (b := 9) (by omega) ht).2, (N_le (b := 40) (by omega) ho).1, (N_le (b := 40) (by omega) ho).2⟩
    · rw [if_neg e, if_neg e]; exact k7 i (by omega)
  · have hi' : i < fN (bdF B) + 1 := hi
    show 0 ≤ up (fH (bdF B)) (fN (bdF B)) (N h) i ∧ up (fH (bdF B)) (fN (bdF B)) (N h) i ≤ 20
    rw [u]
    by_cases e : i = fN (bdF B)
    · rw [if_pos e]; exact N_le (b := 20) (by omega) hh
    · rw [if_neg e]; exact k11 i (by omega)
  · have hi' : i < fN (bdF B) + 1 := hi
    show okN (upl (bdM B) (fN (bdF B)) nm i)
    unfold upl
    split
    · exact hnm
    · exact n1 i (by omega)
theorem lnM_ok {T : aTp} {B : aB} {q : Nat} (hT : okT T) (hq : q ≤ T.1) (hk : ¬ (tokAt T q).1 = 0) (k : okB B) : okL T q (lnM T B q) := by
  have h1000 := hT.1
  have q1 := nx_le hq
  have l1 := nx_lt hq hk
  have q2 := nx_le q1
  have q3 := nx_le q2
  obtain ⟨a1, a2⟩ := aNw_ok (mn := bdM B) (ln := bdL B) (L := fN (bdF B)) (M := fL (bdF B)) hT q1
  have hk7 := k.1.1
  unfold lnM
  split
  · exact okL_f (by omega) (by omega)
  · rename_i c7
    split
    · rename_i c; exact okL_f a1 c
    · rename_i c
      have t2 := a2 (Decidable.not_not.mp c)
      have l2 := nx_lt q1 (by omega)
      split
      · exact okL_f (by omega) (by omega)
      · rename_i ckd
        have hkd := tkKd_le (k := tokAt T (nx T (nx T q)))
        have l3 : nx T (nx T q) < nx T (nx T (nx T q)) := by
          refine nx_lt q2 (fun h0 => ckd ?_)
          have w : ∀ t, ¬ tkW (tokAt T (nx T (nx T q))) t = true := fun t z => by have := tkW_k z; omega
          unfold tkKd
          rw [if_neg (w 22), if_neg (w 23), if_neg (w 24), if_neg (w 25)]
        obtain ⟨b1, b2⟩ := aMs_ok (t := 26) (lo := 1) (hi := 20) hT q3
        have b3 := fun h => aMs_lt (t := 26) (lo := 1) (hi := 20) q3 h
        generalize aMs T 26 1 20 (nx T (nx T (nx T q))) = m1 at *
        split
        · rename_i c1; exact okL_f b1 c1
        · rename_i c1
          obtain ⟨b4, b5, b6⟩ := b2 (Decidable.not_not.mp c1)
          have b7 := b3 (Decidable.not_not.mp c1)
          obtain ⟨d1, d2⟩ := aMs_ok (t := 27) (lo := 0) (hi := 9) hT b4
          have d3 := fun h => aMs_lt (t := 27) (lo := 0) (hi := 9) b4 h
          generalize aMs T 27 0 9 m1.2.1 = m2 at *
          split
          · rename_i c2; exact okL_f d1 c2
          · rename_i c2
            obtain ⟨d4, d5, d6⟩ := d2 (Decidable.not_not.mp c2)
            have d7 := d3 (Decidable.not_not.mp c2)
            obtain ⟨e1, e2⟩ := aMs_ok (t := 28) (lo := 0) (hi := 40) hT d4
            have e3 := fun h => aMs_lt (t := 28) (lo := 0) (hi := 40) d4 h
            generalize aMs T 28 0 40 m2.2.1 = m3 at *
            split
            · rename_i c3; exact okL_f e1 c3
            · rename_i c3
              obtain ⟨e4, e5, e6⟩ := e2 (Decidable.not_not.mp c3)
              have e7 := e3 (Decidable.not_not.mp c3)
              exact ⟨by dsimp only; omega, fun _ => ⟨by dsimp only; omega, e4, moB_ok k (by omega) (tk_ok q1 t2) b6 d6 e6⟩⟩
theorem guB_ok {B : aB} {a b : Nat} (k : okB B) (hb : b < fN (bdF B)) (hh : fH (bdF B) b < fH (bdF B) a) : okB (guB B a b) := by
  obtain ⟨⟨k1, k2, k3, k4, k5, k6, k7, k8, k9, k10, k11⟩, kn, kl, ko, ko2⟩ := k
  refine ⟨⟨k1, k2, k3, k4, fun i hi => ?_, k6, k7, k8, k9, k10, k11⟩, kn, kl, ko, ko2⟩
  show up (fG (bdF B)) a (N b) i = -1 ∨ ∃ g, g < fN (bdF B) ∧ up (fG (bdF B)) a (N b) i = N g ∧ fH (bdF B) g < fH (bdF B) i
  unfold up
  by_cases e : i = a
  · rw [if_pos e]; subst e
    exact Or.inr ⟨b, hb, rfl, hh⟩
  · rw [if_neg e]; exact k5 i hi
theorem lnG_ok {T : aTp} {B : aB} {q : Nat} (hT : okT T) (hq : q ≤ T.1) (hk : ¬ (tokAt T q).1 = 0) (k : okB B) : okL T q (lnG T B q) := by
  have h1000 := hT.1
  have q1 := nx_le hq
  have l1 := nx_lt hq hk
  have q2 := nx_le q1
  have q3 := nx_le q2
  obtain ⟨a1, a2⟩ := aMe_ok (mn := bdM B) (L := fN (bdF B)) hT q1
  obtain ⟨b1, b2⟩ := aMe_ok (mn := bdM B) (L := fN (bdF B)) hT q2
  unfold lnG
  generalize aMe T (bdM B) (fN (bdF B)) (nx T q) = A at *
  generalize aMe T (bdM B) (fN (bdF B)) (nx T (nx T q)) = C at *
  split
  · rename_i c; exact okL_f a1 c
  · rename_i c
    obtain ⟨a3, a4⟩ := a2 (Decidable.not_not.mp c)
    have l2 := nx_lt q1 (by omega)
    split
    · exact okL_f (by omega) (by omega)
    · split
      · rename_i c2; exact okL_f b1 c2
      · rename_i c2
        obtain ⟨b3, b4⟩ := b2 (Decidable.not_not.mp c2)
        have l3 := nx_lt q2 (by omega)
        split
        · exact okL_f (by omega) (by omega)
        · rename_i c3
          exact ⟨by dsimp only; omega, fun _ => ⟨by dsimp only; omega, q3, guB_ok k b3 (Decidable.not_not.mp c3)⟩⟩
/-! sets -/
theorem has_or {s : Int32} {j k : Nat} (hj : j < 32) (hk : k < 32) : aHas (s ||| aBit j) k = (aHas s k || decide (k = j)) := by
  rw [has_tb hk, tb_or, tb_bit hj hk, has_tb hk]
theorem has_00 {k : Nat} (hk : k < 32) : aHas 0 k = false := by rw [has_tb hk, tb_zero]
def cnB (s : Int32) : Nat → Nat
  | 0 => 0
  | n + 1 => cnB s n + (if aHas s n = true then 1 else 0)
theorem cnB_le {s : Int32} : ∀ n, cnB s n ≤ n := by
  intro n
  induction n with
  | zero => exact Nat.le_refl _
  | succ n ih => rw [cnB]; split <;> omega
theorem cnB_0 : ∀ n, n ≤ 32 → cnB 0 n = 0 := by
  intro n
  induction n with
  | zero => intro _; rfl
  | succ n ih => intro h; rw [cnB, ih (by omega), has_00 (by omega), if_neg Bool.false_ne_true]
theorem cnB_or {s : Int32} {j : Nat} (hj : j < 32) (h : aHas s j = false) : ∀ n, n ≤ 32 → cnB (s ||| aBit j) n = cnB s n + (if j < n then 1 else 0) := by
  intro n
  induction n with
  | zero => intro _; rw [cnB, cnB, if_neg (by omega)]
  | succ n ih =>
    intro hn
    rw [cnB, cnB, ih (by omega), has_or hj (by omega)]
    by_cases e : n = j
    · subst e
      rw [h, decide_eq_true rfl, if_neg (show ¬ n < n by omega), if_pos (show n < n + 1 by omega)]
      rfl
    · rw [decide_eq_false e, Bool.or_false]
      by_cases c : j < n
      · rw [if_pos c, if_pos (show j < n + 1 by omega)]; omega
      · rw [if_neg c, if_neg (show ¬ j < n + 1 by omega)]; omega
theorem or_n0 {s : Int32} {j : Nat} (hj : j < 32) : ¬ s ||| aBit j = 0 := by
  intro e
  have := has_or (s := s) hj hj
  rw [e, has_00 hj, decide_eq_true rfl, Bool.or_true] at this
  exact Bool.false_ne_true this
theorem aSt_ok {T : aTp} {mn : Nat → List Nat} {L : Nat} (hT : okT T) (hL : L ≤ 7) : ∀ m s q, q ≤ T.1 → m + cnB s L = 9 → (s = 0 ∨ 0 < L) → (aSt T mn L m s q).1 ≤ 17000 ∧ ((aSt T mn L m s q).1 = 0 → q ≤ (aSt T mn L m s q).2.1 ∧ (aSt T mn L m s q).2.1 ≤ T.1 ∧ 0 < L ∧ ¬ (aSt T mn L m s q).2.2 = 0) := by
  have h1000 := hT.1
  intro m
  induction m with
  | zero => intro s q hq hm; have := cnB_le (s := s) L; omega
  | succ m ih =>
    intro s q hq hm h0
    obtain ⟨a1, a2⟩ := aMe_ok (mn := mn) (L := L) hT hq
    rw [aSt]
    split
    · rename_i c; exact ⟨by dsimp only; omega, fun _ => ⟨Nat.le_refl _, hq, h0.resolve_left c.1, c.1⟩⟩
    · split
      · rename_i c; exact ⟨a1, fun e => absurd e c⟩
      · rename_i c
        obtain ⟨a3, a4⟩ := a2 (Decidable.not_not.mp c)
        split
        · exact ⟨by dsimp only; omega, fun e => by dsimp only at e; omega⟩
        · rename_i ch
          have ch : aHas s (aMe T mn L q).2 = false := by
            cases z : aHas s (aMe T mn L q).2 with
            | false => rfl
            | true => exact absurd z ch
          have hx := nx_lt hq (by omega)
          obtain ⟨b1, b2⟩ := ih (s ||| aBit (aMe T mn L q).2) (nx T q) (nx_le hq) (by rw [cnB_or (by omega) ch L (by omega), if_pos a3]; omega) (Or.inr (by omega))
          refine ⟨b1, fun e => ?_⟩
          obtain ⟨b3, b4⟩ := b2 e
          exact ⟨by omega, b4⟩
theorem leB_ok {B : aB} {nm : List Nat} {s : Int32} (k : okB B) (hn : fL (bdF B) < 6) (hnm : okN nm) (hs : ¬ s = 0) (h0 : 0 < fN (bdF B)) : okB (leB B nm s) := by
  obtain ⟨⟨k1, k2, k3, k4, k5, k6, k7, k8, k9, k10, k11⟩, ⟨n1, n2⟩, kl, ko, ko2⟩ := k
  refine ⟨⟨k1, ?_, k3, k4, k5, k6, k7, k8, fun _ => h0, fun i hi => ?_, k11⟩, ⟨n1, fun i hi => ?_⟩, kl, ko, ko2⟩
  · show fL (bdF B) + 1 ≤ 6; omega
  · have hi' : i < fL (bdF B) + 1 := hi
    show up (fM (bdF B)) (fL (bdF B)) s i ≠ 0
    unfold up
    split
    · exact hs
    · exact k10 i (by omega)
  · have hi' : i < fL (bdF B) + 1 := hi
    show okN (upl (bdL B) (fL (bdF B)) nm i)
    unfold upl
    split
    · exact hnm
    · exact n2 i (by omega)
theorem lnL_ok {T : aTp} {B : aB} {q : Nat} (hT : okT T) (hq : q ≤ T.1) (hk : ¬ (tokAt T q).1 = 0) (k : okB B) : okL T q (lnL T B q) := by
  have h1000 := hT.1
  have q1 := nx_le hq
  have l1 := nx_lt hq hk
  have q2 := nx_le q1
  have q3 := nx_le q2
  obtain ⟨a1, a2⟩ := aNw_ok (mn := bdM B) (ln := bdL B) (L := fN (bdF B)) (M := fL (bdF B)) hT q1
  have hk7 := k.1.1
  have hk6 := k.1.2.1
  obtain ⟨s1, s2⟩ := aSt_ok (mn := bdM B) hT hk7 9 0 (nx T (nx T (nx T q))) q3 (by rw [cnB_0 _ (by omega)]) (Or.inl rfl)
  unfold lnL
  generalize aSt T (bdM B) (fN (bdF B)) 9 0 (nx T (nx T (nx T q))) = A at *
  split
  · exact okL_f (by omega) (by omega)
  · rename_i c7
    split
    · rename_i c; exact okL_f a1 c
    · rename_i c
      have t2 := a2 (Decidable.not_not.mp c)
      have l2 := nx_lt q1 (by omega)
      split
      · exact okL_f (by omega) (by omega)
      · rename_i c31
        have l3 : nx T (nx T q) < nx T (nx T (nx T q)) := by
          refine nx_lt q2 (fun h0 => c31 ?_)
          cases z : tkW (tokAt T (nx T (nx T q))) 31 with
          | false => rfl
          | true => have := tkW_k z; omega
        split
        · rename_i c4; exact okL_f s1 c4
        · rename_i c4
          obtain ⟨s3, s4, s5, s6⟩ := s2 (Decidable.not_not.mp c4)
          split
          · exact okL_f (by omega) (by omega)
          · exact ⟨by dsimp only; omega, fun _ => ⟨by dsimp only; omega, s4, leB_ok k (by omega) (tk_ok q1 t2) s6 s5⟩⟩
theorem aRn_ok {T : aTp} (hT : okT T) : ∀ m n P q, q ≤ T.1 → m + n = 13 → n ≤ 12 → (∀ i, i < n → (0 : Int32) ≤ P i ∧ P i ≤ 9) → (aRn T m n P q).1 ≤ 17000 ∧ ((aRn T m n P q).1 = 0 → q ≤ (aRn T m n P q).2.1 ∧ (aRn T m n P q).2.1 ≤ T.1 ∧ (aRn T m n P q).2.2.1 ≤ 12 ∧ ∀ i, i < (aRn T m n P q).2.2.1 → (0 : Int32) ≤ (aRn T m n P q).2.2.2 i ∧ (aRn T m n P q).2.2.2 i ≤ 9) := by
  have h1000 := hT.1
  intro m
  induction m with
  | zero => intro n P q hq hm; omega
  | succ m ih =>
    intro n P q hq hm hn hP
    rw [aRn]
    split
    · split
      · split
        · exact ⟨by dsimp only; omega, fun e => by dsimp only at e; omega⟩
        · exact ⟨by dsimp only; omega, fun e => by dsimp only at e; omega⟩
      · exact ⟨by dsimp only; omega, fun _ => ⟨Nat.le_refl _, hq, hn, hP⟩⟩
    · rename_i c12
      split
      · exact ⟨by dsimp only; omega, fun _ => ⟨Nat.le_refl _, hq, hn, hP⟩⟩
      · split
        · exact ⟨by dsimp only; omega, fun e => by dsimp only at e; omega⟩
        · rename_i c3
          split
          · exact ⟨by dsimp only; omega, fun e => by dsimp only at e; omega⟩
          · rename_i c9
            have c3 := Decidable.not_not.mp c3
            have hx := nx_lt hq (by omega)
            obtain ⟨b1, b2⟩ := ih (n + 1) (up P n (N (tokAt T q).2.2.2.2)) (nx T q) (nx_le hq) (by omega) (by omega) (fun i hi => by
              unfold up
              by_cases e : i = n
              · rw [if_pos e]; exact N_le (b := 9) (by omega) (by omega)
              · rw [if_neg e]; exact hP i (by omega))
            refine ⟨b1, fun e => ?_⟩
            obtain ⟨b3, b4⟩ := b2 e
            exact ⟨by omega, b4⟩
theorem raB_ok {B : aB} {n : Nat} {P : Nat → Int32} (k : okB B) (hn : n ≤ 12) (hP : ∀ i, i < n → (0 : Int32) ≤ P i ∧ P i ≤ 9) : okB (raB B n P) := by
  obtain ⟨⟨k1, k2, k3, k4, k5, k6, k7, k8, k9, k10, k11⟩, kn, kl, ko, ko2⟩ := k
  exact ⟨⟨k1, k2, hn, k4, k5, k6, k7, hP, k9, k10, k11⟩, kn, kl, ko, ko2⟩
theorem lnR_ok {T : aTp} {B : aB} {q : Nat} (hT : okT T) (hq : q ≤ T.1) (hk : ¬ (tokAt T q).1 = 0) (k : okB B) : okL T q (lnR T B q) := by
  have h1000 := hT.1
  have q1 := nx_le hq
  have l1 := nx_lt hq hk
  obtain ⟨s1, s2⟩ := aRn_ok hT 13 0 (fP (bdF B)) (nx T q) q1 (by omega) (by omega) (fun i hi => by omega)
  unfold lnR
  generalize aRn T 13 0 (fP (bdF B)) (nx T q) = A at *
  split
  · exact okL_f (by omega) (by omega)
  · split
    · rename_i c; exact okL_f s1 c
    · rename_i c
      obtain ⟨s3, s4, s5, s6⟩ := s2 (Decidable.not_not.mp c)
      exact ⟨by dsimp only; omega, fun _ => ⟨by dsimp only; omega, s4, raB_ok k s5 s6⟩⟩
theorem soB_ok {T : aTp} {B : aB} {q : Nat} (hT : okT T) (hq : q ≤ T.1) (k : okB B) (h0 : (aSd T q).1 = 0) : okB (soB B (aSd T q)) := by
  have h1000 := hT.1
  obtain ⟨kF, kn, kl, ko, ko2⟩ := k
  obtain ⟨e1, e2⟩ := (aEx_ev (T := T) RF).1 0 0 q (by omega) (by omega) h0
  obtain ⟨o1, o2, o3, o4, o5, o6, o7⟩ := ((aEx_ok hT RF).1 0 0 q hq).2 h0
  have o1' : q < (aSd T q).2.1 := o1
  have o2' : (aSd T q).2.1 ≤ T.1 := o2
  have o3' : 0 < (aSd T q).2.2.1.length := o3
  have o4' : (aSd T q).2.2.1.length + q ≤ (aSd T q).2.1 := o4
  have o5' : 0 < (aSd T q).2.2.2.1.length := o5
  have o6' : (aSd T q).2.2.2.1.length + q ≤ (aSd T q).2.1 := o6
  refine ⟨kF, kn, Or.inr ⟨?_, ?_, ?_, ?_, fun fl st ta we => e1 fl st ta we [] (by rw [List.length_nil]; omega), e2⟩, ko, ko2⟩
  · show ¬ (aSd T q).2.2.1.length = 0; omega
  · show ¬ (aSd T q).2.2.2.1.length = 0; omega
  · show (aSd T q).2.2.1.length ≤ 1000; omega
  · show (aSd T q).2.2.2.1.length ≤ 1000; omega
theorem lnS_ok {T : aTp} {B : aB} {q : Nat} (hT : okT T) (hq : q ≤ T.1) (hk : ¬ (tokAt T q).1 = 0) (k : okB B) : okL T q (lnS T B q) := by
  have h1000 := hT.1
  have q1 := nx_le hq
  have l1 := nx_lt hq hk
  have s1 : (aSd T (nx T q)).1 ≤ 17000 := ((aEx_ok hT RF).1 0 0 (nx T q) q1).1
  have s2 : (aSd T (nx T q)).1 = 0 → nx T q < (aSd T (nx T q)).2.1 ∧ (aSd T (nx T q)).2.1 ≤ T.1 := fun h => by
    have := ((aEx_ok hT RF).1 0 0 (nx T q) q1).2 h
    exact ⟨this.1, this.2.1⟩
  unfold lnS
  split
  · exact okL_f (by omega) (by omega)
  · split
    · rename_i c; exact okL_f s1 c
    · rename_i c
      obtain ⟨s3, s4⟩ := s2 (Decidable.not_not.mp c)
      exact ⟨by dsimp only; omega, fun _ => ⟨by dsimp only; omega, s4, soB_ok hT q1 k (Decidable.not_not.mp c)⟩⟩
theorem lnF_ok {T : aTp} {B : aB} {q : Nat} (hT : okT T) (hq : q ≤ T.1) (k : okB B) : okL T q (lnF T B q) := by
  have h1000 := hT.1
  unfold lnF
  split
  · rename_i c; exact lnM_ok hT hq (by have := tkW_k c; omega) k
  · split
    · rename_i c; exact lnG_ok hT hq (by have := tkW_k c; omega) k
    · split
      · rename_i c; exact lnL_ok hT hq (by have := tkW_k c; omega) k
      · split
        · rename_i c; exact lnR_ok hT hq (by have := tkW_k c; omega) k
        · split
          · rename_i c; exact lnS_ok hT hq (by have := tkW_k c; omega) k
          · exact okL_f (by omega) (by omega)
theorem okB0 : okB aB0 :=
  ⟨⟨by decide, by decide, by decide, fun i hi => absurd hi (Nat.not_lt_zero i), fun i hi => absurd hi (Nat.not_lt_zero i), fun i j _ hj => absurd hj (Nat.not_lt_zero j), fun i hi => absurd hi (Nat.not_lt_zero i), fun i hi => absurd hi (Nat.not_lt_zero i), fun h => absurd h (Nat.lt_irrefl 0), fun i hi => absurd hi (Nat.not_lt_zero i), fun i hi => absurd hi (Nat.not_lt_zero i)⟩, ⟨fun i hi => absurd hi (Nat.not_lt_zero i), fun i hi => absurd hi (Nat.not_lt_zero i)⟩, Or.inl ⟨rfl, rfl, rfl⟩, fun a b _ hb => absurd hb (Nat.not_lt_zero b), fun i hi => absurd hi (Nat.not_lt_zero i)⟩
theorem lnAll_ok {T : aTp} (hT : okT T) : ∀ m B q, q ≤ T.1 → okB B → (lnAll T m B q).1 ≤ 17000 ∧ okB (lnAll T m B q).2 := by
  have h1000 := hT.1
  intro m
  induction m with
  | zero => intro B q hq k; exact ⟨by rw [lnAll]; dsimp only; omega, k⟩
  | succ m ih =>
    intro B q hq k
    obtain ⟨a1, a2⟩ := lnF_ok hT hq k
    rw [lnAll]
    split
    · exact ⟨by dsimp only; omega, k⟩
    · split
      · exact ⟨a1, k⟩
      · rename_i c
        obtain ⟨a3, a4, a5⟩ := a2 (Decidable.not_not.mp c)
        split
        · exact ⟨by dsimp only; omega, k⟩
        · exact ih _ _ (nx_le a4) a5
