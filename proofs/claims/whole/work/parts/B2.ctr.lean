/-! x's own constructor -/
theorem q_gru2 {K : gHp} {a b ci k q : Nat} {o : va_E} {fs : List Value} {Q : Nat → Prop} (hb : b ≠ a) (hl : fs[k]? = some (.ref q)) (hk : Q q) : g_gr (va_up (va_up K a (.inr (ci, fs))) b o) a ci k Q := ⟨fs, q, (up_ne (Ne.symm hb)).trans up_at, hl, hk⟩
theorem up_sw {K : gHp} {a b : Nat} {o p : va_E} (h : a ≠ b) : va_up (va_up K b o) a p = va_up (va_up K a p) b o := by
  funext j
  by_cases e1 : j = a
  · subst e1; rw [up_at, up_ne h, up_at]
  · rw [up_ne e1]
    by_cases e2 : j = b
    · subst e2; rw [up_at, up_at]
    · rw [up_ne e2, up_ne e2, up_ne e1]
theorem q_pfu2 {K : gHp} {a b ci k : Nat} {o : va_E} {fs : List Value} {v : Value} {Q : gHp → Prop} (hb : b ≠ a) (hl : k < fs.length) (hk : Q (va_up (va_up K a (.inr (ci, fs.set k v))) b o)) : g_pf (va_up (va_up K a (.inr (ci, fs))) b o) a ci k v Q := ⟨fs, (up_ne (Ne.symm hb)).trans up_at, hl, by rw [up_sw (Ne.symm hb), up_up]; exact hk⟩
def fW (w st : Nat) (i : Nat) : Nat → Option Nat := fun j => if j < i then some (w + st * j) else none
theorem fW_s {w st i : Nat} : va_up (fW w st i) i (some (w + st * i)) = fW w st (i + 1) := by
  funext j
  by_cases e : j = i
  · subst e
    simp only [va_up, fW, if_true]
    rw [if_pos (Nat.lt_succ_self _)]
  · simp only [va_up, fW, if_neg e]
    by_cases h : j < i
    · rw [if_pos h, if_pos (by omega)]
    · rw [if_neg h, if_neg (by omega)]
theorem fW_0 {w st : Nat} : fW w st 0 = fun _ => none := rfl
theorem g0W : hH Sz 57 = .inl (4, 16, .inr (.inr (.inr (.inr (fW 58 4 16))))) := by
  rw [hH_q (t := 4) (m := 16) rfl (Or.inl rfl)]
  rfl
theorem g0M : hH Sz 122 = .inl (5, 4, .inr (.inr (.inr (.inr (fW 123 14 4))))) := by
  rw [hH_q (t := 5) (m := 4) rfl (Or.inr rfl)]
  rfl
abbrev obA : List Value := [.ref 1, .ref 3, .ref 5, .ref 6, .ref 20, .ref 34, .ref 38, .ref 42, .ref 44, .ref 46, .ref 49, .ref 53, .ref 57, .int 0, .int 0, .null, .null, .long 0]
abbrev obB : List Value := [.ref 1, .ref 3, .ref 5, .ref 6, .ref 20, .ref 34, .ref 38, .ref 42, .ref 44, .ref 46, .ref 49, .ref 53, .ref 57, .int 0, .int 0, .ref 122, .null, .long 0]
abbrev HA (i : Nat) : gHp := va_up (va_up (hH Sz) 0 (.inr (11, obA))) 57 (.inl (4, 16, .inr (.inr (.inr (.inr (fW 58 4 i))))))
abbrev HB (i : Nat) : gHp := va_up (va_up (hH Sz) 0 (.inr (11, obB))) 122 (.inl (5, 4, .inr (.inr (.inr (.inr (fW 123 14 i))))))
theorem iLM : ∀ m i, i + m = 4 → gG 3 mX11_init 179 5588 (g_Xv mX11_init 180 179 5588 (fun H => H = hH Sz)) 190 (123 + 14 * i) (HB i) [some (.ref 0), some (.int (N i))] [] (122 + 14 * i) (4697 + 221 * i) := by
  intro m
  induction m with
  | zero =>
    intro i hi
    have hi4 : i = 4 := by omega
    subst hi4
    refine kX11_init_190 ⟨fun _ => ?_, fun h => absurd (by decide) h⟩
    have e : HB 4 = va_up (hH Sz) 0 (.inr (11, obB)) := up_same ((up_ne (by decide)).trans g0M)
    rw [e]
    refine ⟨by decide, by decide, q_mkr (n := 179) (g0a rfl (by decide)) (by decide) (q_pfu (Nat.le_of_ble_eq_true rfl) ?_)⟩
    exact ⟨rfl, by decide, by decide, up_same (g0o rfl rfl)⟩
  | succ m ih =>
    intro i hi
    have hs := is_marksN i (by omega)
    refine kX11_init_190 ⟨fun h => absurd ((leN (a := 4) (by omega) (by omega)).mp h) (by omega), fun _ => ?_⟩
    refine q_gru2 (by decide) rfl ?_
    refine ⟨by omega, by omega, q_mko ?_⟩
    refine ⟨123 + 14 * i + 14, 13, 216, by omega, by omega, by omega, 2, _, by decide, iX6 (a := 123 + 14 * i) hs (agr_up (agr_up agr_self (by omega)) (by omega)), ?_⟩
    rintro _ rfl
    refine ⟨4, fW 123 14 i, _, up_at, vp_in_nI (n := i) (by omega) (by decide), (up_ne (by omega)).trans ((up_ne (by omega)).trans (hH_o hs.1)), ?_⟩
    rw [up_up, clN (k := i) (by omega), fW_s, addN1]
    have := ih (i + 1) (by omega)
    rw [show 123 + 14 * (i + 1) = 123 + 14 * i + 14 by omega, show 122 + 14 * (i + 1) = 122 + 14 * i + 1 + 13 by omega, show 4697 + 221 * (i + 1) = 4697 + 221 * i + 5 + 216 by omega] at this
    exact this
theorem iLW : ∀ m i, i + m = 16 → gG 3 mX11_init 179 5588 (g_Xv mX11_init 180 179 5588 (fun H => H = hH Sz)) 155 (58 + 4 * i) (HA i) [some (.ref 0), some (.int (N i))] [] (57 + 4 * i) (3669 + 64 * i) := by
  intro m
  induction m with
  | zero =>
    intro i hi
    have hi4 : i = 16 := by omega
    subst hi4
    refine kX11_init_155 ⟨fun _ => ?_, fun h => absurd (by decide) h⟩
    have e : HA 16 = va_up (hH Sz) 0 (.inr (11, obA)) := up_same ((up_ne (by decide)).trans g0W)
    rw [e]
    refine ⟨by decide, by decide, q_mko (q_pfu2 (by decide) (Nat.le_of_ble_eq_true rfl) ?_)⟩
    exact iLM 4 0 rfl
  | succ m ih =>
    intro i hi
    have hs := is_pastN i (by omega)
    refine kX11_init_155 ⟨fun h => absurd ((leN (a := 16) (by omega) (by omega)).mp h) (by omega), fun _ => ?_⟩
    refine q_gru2 (by decide) rfl ?_
    refine ⟨by omega, by omega, q_mko ?_⟩
    refine ⟨58 + 4 * i + 4, 3, 54, by omega, by omega, by omega, 1, _, by decide, iX9 (a := 58 + 4 * i) hs (agr_up (agr_up agr_self (by omega)) (by omega)), ?_⟩
    rintro _ rfl
    refine ⟨16, fW 58 4 i, _, up_at, vp_in_nI (n := i) (by omega) (by decide), (up_ne (by omega)).trans ((up_ne (by omega)).trans (hH_o hs.1)), ?_⟩
    rw [up_up, clN (k := i) (by omega), fW_s, addN1]
    have := ih (i + 1) (by omega)
    rw [show 58 + 4 * (i + 1) = 58 + 4 * i + 4 by omega, show 57 + 4 * (i + 1) = 57 + 4 * i + 1 + 3 by omega, show 3669 + 64 * (i + 1) = 3669 + 64 * i + 10 + 54 by omega] at this
    exact this
theorem iX11 : gCv 3 mX11_init 1 (va_up (hH Sz) 0 (.inr (11, [.null, .null, .null, .null, .null, .null, .null, .null, .null, .null, .null, .null, .null, .int 0, .int 0, .null, .null, .long 0]))) [.ref 0] 180 179 5588 (fun H => H = hH Sz) := by
  refine gCv_of (by decide +kernel) (Nat.le_of_ble_eq_true rfl) rfl rfl ?_
  refine kX11_init_0 (Nat.le_of_ble_eq_true rfl) ?_
  refine ⟨by decide, by decide, q_mko ?_⟩
  refine ⟨3, 1, 1000, by decide, by decide, by decide, 1, _, by decide, iX8 (agr_up agr_self (by decide)), ?_⟩
  rintro _ rfl
  refine q_pfu (Nat.le_of_ble_eq_true rfl) ?_
  refine ⟨by decide, by decide, q_mko ?_⟩
  refine q_gru2 (by decide) rfl ?_
  refine ⟨5, 1, 1, by decide, by decide, by decide, 2, _, by decide, iX2 (agr_up agr_self (by decide)), ?_⟩
  rintro _ rfl
  refine q_pfu (Nat.le_of_ble_eq_true rfl) ?_
  refine ⟨by decide, by decide, q_mko ?_⟩
  refine q_gru2 (by decide) rfl ?_
  refine ⟨6, 0, 0, by decide, by decide, by decide, 1, _, by decide, iX5 (agr_up agr_self (by decide)), ?_⟩
  rintro _ rfl
  refine q_pfu (Nat.le_of_ble_eq_true rfl) ?_
  refine ⟨by decide, by decide, q_mko ?_⟩
  refine ⟨20, 13, 1100, by decide, by decide, by decide, 2, _, by decide, iX1 (a := 6) ⟨rfl, rfl, rfl, rfl, rfl, rfl, rfl, rfl, rfl, rfl, rfl, rfl, rfl, rfl⟩ (agr_up agr_self (by decide)), ?_⟩
  rintro _ rfl
  refine q_pfu (Nat.le_of_ble_eq_true rfl) ?_
  refine ⟨by decide, by decide, q_mko ?_⟩
  refine ⟨34, 13, 1100, by decide, by decide, by decide, 2, _, by decide, iX1 (a := 20) ⟨rfl, rfl, rfl, rfl, rfl, rfl, rfl, rfl, rfl, rfl, rfl, rfl, rfl, rfl⟩ (agr_up agr_self (by decide)), ?_⟩
  rintro _ rfl
  refine q_pfu (Nat.le_of_ble_eq_true rfl) ?_
  refine ⟨by decide, by decide, q_mko ?_⟩
  refine ⟨38, 3, 120, by decide, by decide, by decide, 1, _, by decide, iX0 (a := 34) (by unfold isD; decide +kernel) (agr_up agr_self (by decide)), ?_⟩
  rintro _ rfl
  refine q_pfu (Nat.le_of_ble_eq_true rfl) ?_
  refine ⟨by decide, by decide, q_mko ?_⟩
  refine ⟨42, 3, 120, by decide, by decide, by decide, 1, _, by decide, iX0 (a := 38) (by unfold isD; decide +kernel) (agr_up agr_self (by decide)), ?_⟩
  rintro _ rfl
  refine q_pfu (Nat.le_of_ble_eq_true rfl) ?_
  refine ⟨by decide, by decide, q_mko ?_⟩
  refine ⟨44, 1, 7, by decide, by decide, by decide, 1, _, by decide, iX10 (a := 42) (by unfold isWd; decide +kernel) (agr_up agr_self (by decide)), ?_⟩
  rintro _ rfl
  refine q_pfu (Nat.le_of_ble_eq_true rfl) ?_
  refine ⟨by decide, by decide, q_mko ?_⟩
  refine ⟨46, 1, 7, by decide, by decide, by decide, 1, _, by decide, iX10 (a := 44) (by unfold isWd; decide +kernel) (agr_up agr_self (by decide)), ?_⟩
  rintro _ rfl
  refine q_pfu (Nat.le_of_ble_eq_true rfl) ?_
  refine ⟨by decide, by decide, q_mko ?_⟩
  refine ⟨49, 2, 16, by decide, by decide, by decide, 1, _, by decide, iX7 (a := 46) (by unfold isSn; decide +kernel) (agr_up agr_self (by decide)), ?_⟩
  rintro _ rfl
  refine q_pfu (Nat.le_of_ble_eq_true rfl) ?_
  refine ⟨by decide, by decide, q_mko ?_⟩
  refine ⟨53, 3, 54, by decide, by decide, by decide, 1, _, by decide, iX9 (a := 49) (by unfold isW; decide +kernel) (agr_up agr_self (by decide)), ?_⟩
  rintro _ rfl
  refine q_pfu (Nat.le_of_ble_eq_true rfl) ?_
  refine ⟨by decide, by decide, q_mko ?_⟩
  refine ⟨57, 3, 54, by decide, by decide, by decide, 1, _, by decide, iX9 (a := 53) (by unfold isW; decide +kernel) (agr_up agr_self (by decide)), ?_⟩
  rintro _ rfl
  refine q_pfu (Nat.le_of_ble_eq_true rfl) ?_
  refine ⟨by decide, by decide, q_mko (q_pfu2 (by decide) (Nat.le_of_ble_eq_true rfl) ?_)⟩
  exact iLW 16 0 rfl
