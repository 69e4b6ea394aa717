/-! THE CONSTRUCTORS: what they make is the heap by its numbers -/
def Sz : gS := (fun a k => if k = 5 ∧ g_shp[a]? = some (.inl 9) then -1 else 0, fun _ _ => 0, fun k => if k = 3 then 6 else if k = 4 then 20 else if k = 5 then 34 else if k = 6 then 38 else if k = 7 then 42 else if k = 8 then 44 else 0, fun _ _ => 0, fun _ _ => 0)
def agr (K : gHp) (a len : Nat) : Prop := ∀ j, j < len → K (a + j) = hH Sz (a + j)
theorem agr_self {a len : Nat} : agr (hH Sz) a len := fun _ _ => rfl
theorem agr_up {K : gHp} {a n len : Nat} {o : va_E} (h : agr K n len) (hl : a < n) : agr (va_up K a o) n len := by
  intro j hj
  simp only [va_up, if_neg (show ¬ n + j = a by omega)]
  exact h j hj
theorem agr_sub {K : gHp} {a n len l2 : Nat} (h : agr K a len) (k : Nat) (e : n = a + k) (hl : k + l2 ≤ len) : agr K n l2 := by
  intro j hj
  rw [e, Nat.add_assoc]
  exact h (k + j) (by omega)
theorem g0a {a t m : Nat} (h : isA t m a) (ht : t = 0 ∨ t = 2 ∨ t = 3) : hH Sz a = .inl (t, m, .inl (fun _ => 0)) := hH_a h ht
theorem g0l {a m : Nat} (h : isA 1 m a) : hH Sz a = .inl (1, m, .inr (.inl (fun _ => 0))) := hH_l h
theorem g0o {a ci : Nat} {fs : List Value} (h : isO ci a) (e : g_ob Sz a ci = fs) : hH Sz a = .inr (ci, fs) := by rw [hH_o h, e]
theorem up_same {K : gHp} {a : Nat} {c : va_E} (h : K a = c) : va_up K a c = K := by
  funext b
  by_cases e : b = a
  · subst e; simp only [va_up, if_true]; exact h.symm
  · simp only [va_up, if_neg e]
theorem up_at {K : gHp} {a : Nat} {c : va_E} : va_up K a c a = c := by simp only [va_up, if_true]
theorem up_ne {K : gHp} {a b : Nat} {c : va_E} (h : b ≠ a) : va_up K a c b = K b := by simp only [va_up, if_neg h]
theorem up_up {K : gHp} {a : Nat} {o c : va_E} : va_up (va_up K a o) a c = va_up K a c := by
  funext b
  by_cases e : b = a
  · subst e; simp only [va_up, if_true]
  · simp only [va_up, if_neg e]
theorem up_mk {K : gHp} {a b : Nat} {o c : va_E} (h : K b = c) (hb : b ≠ a) : va_up (va_up K a o) b c = va_up K a o := up_same ((up_ne hb).trans h)
theorem q_mkr {K : gHp} {a n : Nat} {o c : va_E} {Q : gHp → Prop} (h : K n = c) (hb : n ≠ a) (hk : Q (va_up K a o)) : g_mk (va_up K a o) n c Q := ⟨_, rfl, by rw [up_mk h hb]; exact hk⟩
theorem q_mko {K : gHp} {n : Nat} {c : va_E} {Q : gHp → Prop} (hk : Q (va_up K n c)) : g_mk K n c Q := ⟨_, rfl, hk⟩
theorem q_pfu {K : gHp} {a ci k : Nat} {fs : List Value} {v : Value} {Q : gHp → Prop} (hl : k < fs.length) (hk : Q (va_up K a (.inr (ci, fs.set k v)))) : g_pf (va_up K a (.inr (ci, fs))) a ci k v Q := ⟨fs, up_at, hl, by rw [up_up]; exact hk⟩
theorem q_gru {K : gHp} {a ci k q : Nat} {fs : List Value} {Q : Nat → Prop} (hl : fs[k]? = some (.ref q)) (hk : Q q) : g_gr (va_up K a (.inr (ci, fs))) a ci k Q := ⟨fs, q, up_at, hl, hk⟩
theorem o9 {a : Nat} (h : isO 9 a) : g_ob Sz a 9 = [.int 0, .int 0, .ref (a + 1), .ref (a + 2), .int 0, .int (-1), .int 0, .int 0, .ref (a + 3), .int 0] := by
  have h5 : sI Sz a 5 = -1 := if_pos ⟨rfl, h⟩
  show ([.int 0, .int 0, .ref (a + 1), .ref (a + 2), .int 0, .int (sI Sz a 5), .int 0, .int 0, .ref (a + 3), .int 0] : List Value) = _
  rw [h5]
theorem iX0 {K : gHp} {a : Nat} (hs : isD a) (hK : agr K a 4) : gCv 1 mX0_init (a + 1) (va_up K a (.inr (0, [.int 0, .null, .null, .null]))) [.ref a] (a + 4) 3 120 (fun H => H = K) := by
  refine gCv_of (by decide +kernel) (Nat.le_of_ble_eq_true rfl) rfl rfl ?_
  refine kX0_init_0 (Nat.le_of_ble_eq_true rfl) ?_
  refine ⟨by decide, by decide, q_mkr ((hK 1 (by decide)).trans (g0a hs.2.1 (by decide))) (by omega) (q_pfu (Nat.le_of_ble_eq_true rfl) ?_)⟩
  refine ⟨by decide, by decide, q_mkr ((hK 2 (by decide)).trans (g0a hs.2.2.1 (by decide))) (by omega) (q_pfu (Nat.le_of_ble_eq_true rfl) ?_)⟩
  refine ⟨by decide, by decide, q_mkr ((hK 3 (by decide)).trans (g0a hs.2.2.2 (by decide))) (by omega) (q_pfu (Nat.le_of_ble_eq_true rfl) ?_)⟩
  exact ⟨rfl, by decide, by decide, up_same ((hK 0 (by decide)).trans (g0o hs.1 rfl))⟩
theorem iX3 {K : gHp} {a : Nat} (hs : isLw a) (hK : agr K a 3) : gCv 1 mX3_init (a + 1) (va_up K a (.inr (3, [.null, .int 0, .null]))) [.ref a] (a + 3) 2 1024 (fun H => H = K) := by
  refine gCv_of (by decide +kernel) (Nat.le_of_ble_eq_true rfl) rfl rfl ?_
  refine kX3_init_0 (Nat.le_of_ble_eq_true rfl) ?_
  refine ⟨by decide, by decide, q_mkr ((hK 1 (by decide)).trans (g0a hs.2.1 (by decide))) (by omega) (q_pfu (Nat.le_of_ble_eq_true rfl) ?_)⟩
  refine ⟨by decide, by decide, q_mkr ((hK 2 (by decide)).trans (g0a hs.2.2 (by decide))) (by omega) (q_pfu (Nat.le_of_ble_eq_true rfl) ?_)⟩
  exact ⟨rfl, by decide, by decide, up_same ((hK 0 (by decide)).trans (g0o hs.1 rfl))⟩
theorem iX7 {K : gHp} {a : Nat} (hs : isSn a) (hK : agr K a 3) : gCv 1 mX7_init (a + 1) (va_up K a (.inr (7, [.int 0, .null, .null]))) [.ref a] (a + 3) 2 16 (fun H => H = K) := by
  refine gCv_of (by decide +kernel) (Nat.le_of_ble_eq_true rfl) rfl rfl ?_
  refine kX7_init_0 (Nat.le_of_ble_eq_true rfl) ?_
  refine ⟨by decide, by decide, q_mkr ((hK 1 (by decide)).trans (g0a hs.2.1 (by decide))) (by omega) (q_pfu (Nat.le_of_ble_eq_true rfl) ?_)⟩
  refine ⟨by decide, by decide, q_mkr ((hK 2 (by decide)).trans (g0a hs.2.2 (by decide))) (by omega) (q_pfu (Nat.le_of_ble_eq_true rfl) ?_)⟩
  exact ⟨rfl, by decide, by decide, up_same ((hK 0 (by decide)).trans (g0o hs.1 rfl))⟩
theorem iX9 {K : gHp} {a : Nat} (hs : isW a) (hK : agr K a 4) : gCv 1 mX9_init (a + 1) (va_up K a (.inr (9, [.int 0, .int 0, .null, .null, .int 0, .int 0, .int 0, .int 0, .null, .int 0]))) [.ref a] (a + 4) 3 54 (fun H => H = K) := by
  refine gCv_of (by decide +kernel) (Nat.le_of_ble_eq_true rfl) rfl rfl ?_
  refine kX9_init_0 (Nat.le_of_ble_eq_true rfl) ?_
  refine ⟨by decide, by decide, q_mkr ((hK 1 (by decide)).trans (g0a hs.2.1 (by decide))) (by omega) (q_pfu (Nat.le_of_ble_eq_true rfl) ?_)⟩
  refine ⟨by decide, by decide, q_mkr ((hK 2 (by decide)).trans (g0a hs.2.2.1 (by decide))) (by omega) (q_pfu (Nat.le_of_ble_eq_true rfl) ?_)⟩
  refine ⟨by decide, by decide, q_mkr ((hK 3 (by decide)).trans (g0a hs.2.2.2 (by decide))) (by omega) (q_pfu (Nat.le_of_ble_eq_true rfl) ?_)⟩
  refine q_pfu (Nat.le_of_ble_eq_true rfl) ?_
  exact ⟨rfl, by decide, by decide, up_same ((hK 0 (by decide)).trans (g0o hs.1 (o9 hs.1)))⟩
theorem iX10 {K : gHp} {a : Nat} (hs : isWd a) (hK : agr K a 2) : gCv 1 mX10_init (a + 1) (va_up K a (.inr (10, [.int 0, .null]))) [.ref a] (a + 2) 1 7 (fun H => H = K) := by
  refine gCv_of (by decide +kernel) (Nat.le_of_ble_eq_true rfl) rfl rfl ?_
  refine kX10_init_0 (Nat.le_of_ble_eq_true rfl) ?_
  refine ⟨by decide, by decide, q_mkr ((hK 1 (by decide)).trans (g0a hs.2 (by decide))) (by omega) (q_pfu (Nat.le_of_ble_eq_true rfl) ?_)⟩
  exact ⟨rfl, by decide, by decide, up_same ((hK 0 (by decide)).trans (g0o hs.1 rfl))⟩
theorem iX8 {K : gHp} (hK : agr K 1 2) : gCv 1 mX8_init 2 (va_up K 1 (.inr (8, [.null, .int 0, .int 0, .int 0, .int 0, .long 0, .int 0, .int 0]))) [.ref 1] 3 1 1000 (fun H => H = K) := by
  refine gCv_of (by decide +kernel) (Nat.le_of_ble_eq_true rfl) rfl rfl ?_
  refine kX8_init_0 (Nat.le_of_ble_eq_true rfl) ?_
  refine ⟨by decide, by decide, q_mkr ((hK 1 (by decide)).trans (g0a rfl (by decide))) (by decide) (q_pfu (Nat.le_of_ble_eq_true rfl) ?_)⟩
  exact ⟨rfl, by decide, by decide, up_same ((hK 0 (by decide)).trans (g0o rfl rfl))⟩
theorem iX4 {K : gHp} (hK : agr K 4 1) : gCv 1 mX4_init 5 (va_up K 4 (.inr (4, [.null]))) [.ref 4, .ref 1] 5 0 0 (fun H => H = K) := by
  refine gCv_of (by decide +kernel) (Nat.le_of_ble_eq_true rfl) rfl rfl ?_
  refine kX4_init_0 (Nat.le_of_ble_eq_true rfl) ?_
  refine q_pfu (Nat.le_of_ble_eq_true rfl) ?_
  exact ⟨rfl, by decide, by decide, up_same ((hK 0 (by decide)).trans (g0o rfl rfl))⟩
theorem iX5 {K : gHp} (hK : agr K 5 1) : gCv 1 mX5_init 6 (va_up K 5 (.inr (5, [.null]))) [.ref 5, .ref 1] 6 0 0 (fun H => H = K) := by
  refine gCv_of (by decide +kernel) (Nat.le_of_ble_eq_true rfl) rfl rfl ?_
  refine kX5_init_0 (Nat.le_of_ble_eq_true rfl) ?_
  refine q_pfu (Nat.le_of_ble_eq_true rfl) ?_
  exact ⟨rfl, by decide, by decide, up_same ((hK 0 (by decide)).trans (g0o rfl rfl))⟩
theorem iX2 {K : gHp} (hK : agr K 3 2) : gCv 2 mX2_init 4 (va_up K 3 (.inr (2, [.null, .null]))) [.ref 3, .ref 1] 5 1 1 (fun H => H = K) := by
  refine gCv_of (by decide +kernel) (Nat.le_of_ble_eq_true rfl) rfl rfl ?_
  refine kX2_init_0 (Nat.le_of_ble_eq_true rfl) ?_
  refine q_pfu (Nat.le_of_ble_eq_true rfl) ?_
  refine ⟨by decide, by decide, q_mko ?_⟩
  refine ⟨5, 0, 0, by decide, by decide, by decide, 1, _, by decide, iX4 (agr_up (agr_sub hK 1 rfl (by decide)) (by decide)), ?_⟩
  rintro _ rfl
  refine q_pfu (Nat.le_of_ble_eq_true rfl) ?_
  exact ⟨rfl, by decide, by decide, up_same ((hK 0 (by decide)).trans (g0o rfl rfl))⟩
theorem iX1 {K : gHp} {a : Nat} (hs : isF a) (hK : agr K a 14) : gCv 2 mX1_init (a + 1) (va_up K a (.inr (1, [.int 0, .null, .null, .null, .null, .null, .null, .null, .int 0, .null, .null, .int 0, .null, .null]))) [.ref a] (a + 14) 13 1100 (fun H => H = K) := by
  refine gCv_of (by decide +kernel) (Nat.le_of_ble_eq_true rfl) rfl rfl ?_
  refine kX1_init_0 (Nat.le_of_ble_eq_true rfl) ?_
  refine ⟨by decide, by decide, q_mkr ((hK 1 (by decide)).trans (g0l hs.2.1)) (by omega) (q_pfu (Nat.le_of_ble_eq_true rfl) ?_)⟩
  refine ⟨by decide, by decide, q_mkr ((hK 2 (by decide)).trans (g0a hs.2.2.1 (by decide))) (by omega) (q_pfu (Nat.le_of_ble_eq_true rfl) ?_)⟩
  refine ⟨by decide, by decide, q_mkr ((hK 3 (by decide)).trans (g0a hs.2.2.2.1 (by decide))) (by omega) (q_pfu (Nat.le_of_ble_eq_true rfl) ?_)⟩
  refine ⟨by decide, by decide, q_mkr ((hK 4 (by decide)).trans (g0a hs.2.2.2.2.1 (by decide))) (by omega) (q_pfu (Nat.le_of_ble_eq_true rfl) ?_)⟩
  refine ⟨by decide, by decide, q_mkr ((hK 5 (by decide)).trans (g0a hs.2.2.2.2.2.1 (by decide))) (by omega) (q_pfu (Nat.le_of_ble_eq_true rfl) ?_)⟩
  refine ⟨by decide, by decide, q_mkr ((hK 6 (by decide)).trans (g0a hs.2.2.2.2.2.2.1 (by decide))) (by omega) (q_pfu (Nat.le_of_ble_eq_true rfl) ?_)⟩
  refine ⟨by decide, by decide, q_mkr ((hK 7 (by decide)).trans (g0a hs.2.2.2.2.2.2.2.1 (by decide))) (by omega) (q_pfu (Nat.le_of_ble_eq_true rfl) ?_)⟩
  refine ⟨by decide, by decide, q_mkr ((hK 8 (by decide)).trans (g0l hs.2.2.2.2.2.2.2.2.1)) (by omega) (q_pfu (Nat.le_of_ble_eq_true rfl) ?_)⟩
  refine ⟨by decide, by decide, q_mkr ((hK 9 (by decide)).trans (g0a hs.2.2.2.2.2.2.2.2.2.1 (by decide))) (by omega) (q_pfu (Nat.le_of_ble_eq_true rfl) ?_)⟩
  refine ⟨by decide, by decide, q_mkr ((hK 10 (by decide)).trans (g0a hs.2.2.2.2.2.2.2.2.2.2.1 (by decide))) (by omega) (q_pfu (Nat.le_of_ble_eq_true rfl) ?_)⟩
  refine ⟨by decide, by decide, q_mko ?_⟩
  refine ⟨a + 1 + 10 + 3, 2, 1024, by omega, by decide, by decide, 1, _, by decide, iX3 (a := a + 1 + 10) hs.2.2.2.2.2.2.2.2.2.2.2 (agr_up (agr_sub hK 11 (by omega) (by decide)) (by omega)), ?_⟩
  rintro _ rfl
  refine q_pfu (Nat.le_of_ble_eq_true rfl) ?_
  exact ⟨rfl, by decide, by decide, up_same ((hK 0 (by decide)).trans (g0o hs.1 rfl))⟩
theorem iX6 {K : gHp} {a : Nat} (hs : isMk a) (hK : agr K a 14) : gCv 2 mX6_init (a + 1) (va_up K a (.inr (6, [.int 0, .null, .null, .null, .null]))) [.ref a] (a + 14) 13 216 (fun H => H = K) := by
  refine gCv_of (by decide +kernel) (Nat.le_of_ble_eq_true rfl) rfl rfl ?_
  refine kX6_init_0 (Nat.le_of_ble_eq_true rfl) ?_
  refine ⟨by decide, by decide, q_mko ?_⟩
  refine ⟨a + 1 + 4, 3, 54, by omega, by decide, by decide, 1, _, by decide, iX9 (a := a + 1) hs.2.1 (agr_up (agr_sub hK 1 (by omega) (by decide)) (by omega)), ?_⟩
  rintro _ rfl
  refine q_pfu (Nat.le_of_ble_eq_true rfl) ?_
  refine ⟨by decide, by decide, q_mko ?_⟩
  refine ⟨a + 1 + 4 + 4, 3, 120, by omega, by decide, by decide, 1, _, by decide, iX0 (a := a + 1 + 4) hs.2.2.1 (agr_up (agr_sub hK 5 (by omega) (by decide)) (by omega)), ?_⟩
  rintro _ rfl
  refine q_pfu (Nat.le_of_ble_eq_true rfl) ?_
  refine ⟨by decide, by decide, q_mko ?_⟩
  refine ⟨a + 1 + 4 + 4 + 2, 1, 7, by omega, by decide, by decide, 1, _, by decide, iX10 (a := a + 1 + 4 + 4) hs.2.2.2.1 (agr_up (agr_sub hK 9 (by omega) (by decide)) (by omega)), ?_⟩
  rintro _ rfl
  refine q_pfu (Nat.le_of_ble_eq_true rfl) ?_
  refine ⟨by decide, by decide, q_mko ?_⟩
  refine ⟨a + 1 + 4 + 4 + 2 + 3, 2, 16, by omega, by decide, by decide, 1, _, by decide, iX7 (a := a + 1 + 4 + 4 + 2) hs.2.2.2.2 (agr_up (agr_sub hK 11 (by omega) (by decide)) (by omega)), ?_⟩
  rintro _ rfl
  refine q_pfu (Nat.le_of_ble_eq_true rfl) ?_
  exact ⟨rfl, by decide, by decide, up_same ((hK 0 (by decide)).trans (g0o hs.1 rfl))⟩
