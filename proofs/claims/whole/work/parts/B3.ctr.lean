/-! the model's own constructor; both stand at the beginning -/
theorem q_pfl {K : gHp} {a ci k : Nat} {fs : List Value} {v : Value} {Q : gHp → Prop} (hl : k < fs.length) (e : K a = .inr (ci, fs.set k v)) (hk : Q K) : g_pf (va_up K a (.inr (ci, fs))) a ci k v Q := ⟨fs, up_at, hl, by rw [up_up, up_same e]; exact hk⟩
def aFz : aF := (0, (fun _ => 0), (fun _ => 0), (fun _ => 0), (fun _ => 0), (fun _ => 0), (fun _ => 0), 0, (fun _ => 0), 0, (fun _ => 0), fun fl _ _ _ => fl)
theorem Good0 {S1 : gS} (h : fm [216] Sz S1) (hA : rM S1 216 0 (aFresh aFz)) : Good 0 S1 := by
  obtain ⟨hS, h1, h53⟩ := h
  have hI : ∀ b, b ≠ 180 ∧ b ≠ 216 → ∀ k, sI S1 b k = sI Sz b k := fun b hb => frI hS (by simp only [List.mem_cons, List.not_mem_nil, or_false]; omega)
  have hR : ∀ b, b ≠ 180 ∧ b ≠ 216 → sR S1 b = sR Sz b := fun b hb => frR hS (by simp only [List.mem_cons, List.not_mem_nil, or_false]; omega)
  have hQ := frQ hS
  have i0 : ∀ b k, b ≠ 180 ∧ b ≠ 216 → k ≠ 5 → sI S1 b k = 0 := fun b k hb hk => (hI b hb k).trans (if_neg (fun e => hk e.1))
  have r0 : ∀ b k, b ≠ 180 ∧ b ≠ 216 → sR S1 b k = 0 := fun b k hb => by rw [hR b hb]; rfl
  have v50 : sI Sz 49 5 = -1 := by
    show (if (5 : Nat) = 5 ∧ g_shp[49]? = some (.inl 9) then (-1 : Int32) else 0) = -1
    rw [if_pos (by decide)]
  have v5 : sI S1 49 5 = -1 := (hI 49 (by decide) 5).trans v50
  refine ⟨6, 34, 42, aFz, fun _ => [], fun _ => [], aFresh aFz, (0, fun _ => 0, fun _ => 0, fun _ => 0), (0, fun _ => 0), (0, fun _ => 0, fun _ => false), 0, 0, 0, fun _ => 0, ?_, ⟨?_, ?_, ?_⟩, ⟨?_, ?_, ?_⟩, ⟨?_, hA, okFresh⟩, ⟨?_, ?_, ?_⟩, ⟨?_, ?_, ?_⟩, ⟨?_, ?_, ?_⟩, ?_, ?_, ?_⟩
  · unfold gQ; rw [hQ]
    exact ⟨rfl, rfl, Or.inl rfl, rfl, rfl, Or.inl rfl, rfl, rfl, Or.inl rfl⟩
  · refine ⟨Or.inl rfl, i0 6 0 (by decide) (by decide), fun i hi => absurd hi (Nat.not_lt_zero _), i0 6 8 (by decide) (by decide), fun i hi => absurd hi (Nat.not_lt_zero _), i0 6 11 (by decide) (by decide), fun i hi => absurd hi (Nat.not_lt_zero _), ?_⟩
    exact xLawN (Or.inl rfl) (i0 17 1 (by decide) (by decide))
  · refine ⟨r0 182 0 (by decide), r0 182 1 (by decide), r0 182 2 (by decide), fun i hi => absurd hi (Nat.not_lt_zero _), fun i hi => absurd hi (Nat.not_lt_zero _), fun i hi => absurd hi (Nat.not_lt_zero _), ?_⟩
    exact mLawN ((r0 193 0 (by decide)).trans (r0 192 0 (by decide)).symm)
  · refine ⟨by decide, by decide, by decide, fun i hi => absurd hi (Nat.not_lt_zero _), fun i hi => absurd hi (Nat.not_lt_zero _), fun i j _ hj => absurd hj (Nat.not_lt_zero _), fun i hi => absurd hi (Nat.not_lt_zero _), fun i hi => absurd hi (Nat.not_lt_zero _), fun h => absurd h (Nat.not_lt_zero _), fun i hi => absurd hi (Nat.not_lt_zero _), fun i hi => absurd hi (Nat.not_lt_zero _)⟩
  · exact ⟨fun i hi => absurd hi (Nat.not_lt_zero _), fun i hi => absurd hi (Nat.not_lt_zero _)⟩
  · exact ⟨fun i hi => absurd hi (Nat.not_lt_zero _), fun i hi => absurd hi (Nat.not_lt_zero _)⟩
  · exact ⟨fun i hi => absurd hi (Nat.not_lt_zero _), fun i hi => absurd hi (Nat.not_lt_zero _)⟩
  · exact ⟨i0 49 0 (by decide) (by decide), i0 49 1 (by decide) (by decide), fun i _ => r0 50 i (by decide), fun i _ => r0 51 i (by decide), i0 49 4 (by decide) (by decide), v5, i0 49 9 (by decide) (by decide), fun i hi => absurd hi (Nat.not_lt_zero _)⟩
  · exact ⟨i0 34 0 (by decide) (by decide), fun i hi => absurd hi (Nat.not_lt_zero _)⟩
  · exact ⟨r0 207 0 (by decide), fun i hi => absurd hi (Nat.not_lt_zero _)⟩
  · exact ⟨by decide, fun i hi => absurd hi (Nat.not_lt_zero _)⟩
  · exact ⟨i0 42 0 (by decide) (by decide), fun i hi => absurd hi (Nat.not_lt_zero _)⟩
  · exact ⟨r0 211 0 (by decide), fun i hi => absurd hi (Nat.not_lt_zero _)⟩
  · exact ⟨by decide, fun i hi => absurd hi (Nat.not_lt_zero _)⟩
  · exact ⟨i0 46 0 (by decide) (by decide), fun i hi => absurd hi (Nat.not_lt_zero _)⟩
  · exact ⟨r0 213 0 (by decide), fun i hi => absurd hi (Nat.not_lt_zero _)⟩
  · exact ⟨by decide, fun i hi => absurd hi (Nat.not_lt_zero _)⟩
  · exact ⟨by decide, by decide, i0 0 13 (by decide) (by decide), i0 0 14 (by decide) (by decide), h53.trans rfl, fun i hi => absurd hi (Nat.not_lt_zero _)⟩
  · intro j hj
    exact ⟨false, i0 (123 + 14 * j) 0 (by omega) (by decide), r0 221 j (by decide), fun h => absurd h (by decide)⟩
  · exact ⟨Nat.zero_le _, i0 1 1 (by decide) (by decide), h1.trans rfl, fun i hi => absurd hi (Nat.not_lt_zero _)⟩
theorem iX12 : gCv 2 mX12_init 181 (va_up (hH Sz) 180 (.inr (12, [.int 0, .int 0, .null, .int 0, .int 0, .int 0, .int 0, .long 0, .int 0, .int 0, .null, .null, .null, .null, .null, .null, .null, .null, .null, .null, .null, .null, .null, .int 0, .null, .null, .null, .null, .null, .null, .null, .null, .null, .null, .null, .null, .int 0, .long 0, .null, .null, .null, .null, .null, .null, .null, .null, .null, .null, .null, .null, .null, .null, .null, .int 0, .null, .int 0, .int 0, .null, .null, .long 0]))) [.ref 180] 225 44 5483 (fun H => ∃ S1, H = hH S1 ∧ fr [180, 216] Sz S1 ∧ Good 0 S1) := by
  refine gCv_of (by decide +kernel) (Nat.le_of_ble_eq_true rfl) rfl rfl ?_
  refine kX12_init_0 (Nat.le_of_ble_eq_true rfl) ?_
  refine ⟨by decide, by decide, q_mkr (g0a (a := 181) rfl (by decide)) (by decide) (q_pfu (Nat.le_of_ble_eq_true rfl) ?_)⟩
  refine ⟨by decide, by decide, q_mkr (g0a (a := 182) rfl (by decide)) (by decide) (q_pfu (Nat.le_of_ble_eq_true rfl) ?_)⟩
  refine ⟨by decide, by decide, q_mkr (g0l (a := 183) rfl) (by decide) (q_pfu (Nat.le_of_ble_eq_true rfl) ?_)⟩
  refine ⟨by decide, by decide, q_mkr (g0l (a := 184) rfl) (by decide) (q_pfu (Nat.le_of_ble_eq_true rfl) ?_)⟩
  refine ⟨by decide, by decide, q_mkr (g0a (a := 185) rfl (by decide)) (by decide) (q_pfu (Nat.le_of_ble_eq_true rfl) ?_)⟩
  refine ⟨by decide, by decide, q_mkr (g0a (a := 186) rfl (by decide)) (by decide) (q_pfu (Nat.le_of_ble_eq_true rfl) ?_)⟩
  refine ⟨by decide, by decide, q_mkr (g0a (a := 187) rfl (by decide)) (by decide) (q_pfu (Nat.le_of_ble_eq_true rfl) ?_)⟩
  refine ⟨by decide, by decide, q_mkr (g0a (a := 188) rfl (by decide)) (by decide) (q_pfu (Nat.le_of_ble_eq_true rfl) ?_)⟩
  refine ⟨by decide, by decide, q_mkr (g0a (a := 189) rfl (by decide)) (by decide) (q_pfu (Nat.le_of_ble_eq_true rfl) ?_)⟩
  refine ⟨by decide, by decide, q_mkr (g0a (a := 190) rfl (by decide)) (by decide) (q_pfu (Nat.le_of_ble_eq_true rfl) ?_)⟩
  refine ⟨by decide, by decide, q_mkr (g0a (a := 191) rfl (by decide)) (by decide) (q_pfu (Nat.le_of_ble_eq_true rfl) ?_)⟩
  refine ⟨by decide, by decide, q_mkr (g0a (a := 192) rfl (by decide)) (by decide) (q_pfu (Nat.le_of_ble_eq_true rfl) ?_)⟩
  refine ⟨by decide, by decide, q_mkr (g0a (a := 193) rfl (by decide)) (by decide) (q_pfu (Nat.le_of_ble_eq_true rfl) ?_)⟩
  refine ⟨by decide, by decide, q_mkr (g0a (a := 194) rfl (by decide)) (by decide) (q_pfu (Nat.le_of_ble_eq_true rfl) ?_)⟩
  refine ⟨by decide, by decide, q_mkr (g0a (a := 195) rfl (by decide)) (by decide) (q_pfu (Nat.le_of_ble_eq_true rfl) ?_)⟩
  refine ⟨by decide, by decide, q_mkr (g0a (a := 196) rfl (by decide)) (by decide) (q_pfu (Nat.le_of_ble_eq_true rfl) ?_)⟩
  refine ⟨by decide, by decide, q_mkr (g0a (a := 197) rfl (by decide)) (by decide) (q_pfu (Nat.le_of_ble_eq_true rfl) ?_)⟩
  refine ⟨by decide, by decide, q_mkr (g0a (a := 198) rfl (by decide)) (by decide) (q_pfu (Nat.le_of_ble_eq_true rfl) ?_)⟩
  refine ⟨by decide, by decide, q_mkr (g0a (a := 199) rfl (by decide)) (by decide) (q_pfu (Nat.le_of_ble_eq_true rfl) ?_)⟩
  refine ⟨by decide, by decide, q_mkr (g0a (a := 200) rfl (by decide)) (by decide) (q_pfu (Nat.le_of_ble_eq_true rfl) ?_)⟩
  refine ⟨by decide, by decide, q_mkr (g0a (a := 201) rfl (by decide)) (by decide) (q_pfu (Nat.le_of_ble_eq_true rfl) ?_)⟩
  refine ⟨by decide, by decide, q_mkr (g0a (a := 202) rfl (by decide)) (by decide) (q_pfu (Nat.le_of_ble_eq_true rfl) ?_)⟩
  refine ⟨by decide, by decide, q_mkr (g0a (a := 203) rfl (by decide)) (by decide) (q_pfu (Nat.le_of_ble_eq_true rfl) ?_)⟩
  refine ⟨by decide, by decide, q_mkr (g0a (a := 204) rfl (by decide)) (by decide) (q_pfu (Nat.le_of_ble_eq_true rfl) ?_)⟩
  refine ⟨by decide, by decide, q_mkr (g0a (a := 205) rfl (by decide)) (by decide) (q_pfu (Nat.le_of_ble_eq_true rfl) ?_)⟩
  refine ⟨by decide, by decide, q_mkr (g0a (a := 206) rfl (by decide)) (by decide) (q_pfu (Nat.le_of_ble_eq_true rfl) ?_)⟩
  refine ⟨by decide, by decide, q_mkr (g0a (a := 207) rfl (by decide)) (by decide) (q_pfu (Nat.le_of_ble_eq_true rfl) ?_)⟩
  refine ⟨by decide, by decide, q_mkr (g0a (a := 208) rfl (by decide)) (by decide) (q_pfu (Nat.le_of_ble_eq_true rfl) ?_)⟩
  refine ⟨by decide, by decide, q_mkr (g0a (a := 209) rfl (by decide)) (by decide) (q_pfu (Nat.le_of_ble_eq_true rfl) ?_)⟩
  refine ⟨by decide, by decide, q_mkr (g0a (a := 210) rfl (by decide)) (by decide) (q_pfu (Nat.le_of_ble_eq_true rfl) ?_)⟩
  refine ⟨by decide, by decide, q_mkr (g0a (a := 211) rfl (by decide)) (by decide) (q_pfu (Nat.le_of_ble_eq_true rfl) ?_)⟩
  refine ⟨by decide, by decide, q_mkr (g0a (a := 212) rfl (by decide)) (by decide) (q_pfu (Nat.le_of_ble_eq_true rfl) ?_)⟩
  refine ⟨by decide, by decide, q_mkr (g0a (a := 213) rfl (by decide)) (by decide) (q_pfu (Nat.le_of_ble_eq_true rfl) ?_)⟩
  refine ⟨by decide, by decide, q_mkr (g0a (a := 214) rfl (by decide)) (by decide) (q_pfu (Nat.le_of_ble_eq_true rfl) ?_)⟩
  refine ⟨by decide, by decide, q_mkr (g0a (a := 215) rfl (by decide)) (by decide) (q_pfu (Nat.le_of_ble_eq_true rfl) ?_)⟩
  refine ⟨by decide, by decide, q_mkr (g0a (a := 216) rfl (by decide)) (by decide) (q_pfu (Nat.le_of_ble_eq_true rfl) ?_)⟩
  refine ⟨by decide, by decide, q_mkr (g0a (a := 217) rfl (by decide)) (by decide) (q_pfu (Nat.le_of_ble_eq_true rfl) ?_)⟩
  refine ⟨by decide, by decide, q_mkr (g0a (a := 218) rfl (by decide)) (by decide) (q_pfu (Nat.le_of_ble_eq_true rfl) ?_)⟩
  refine ⟨by decide, by decide, q_mkr (g0a (a := 219) rfl (by decide)) (by decide) (q_pfu (Nat.le_of_ble_eq_true rfl) ?_)⟩
  refine ⟨by decide, by decide, q_mkr (g0a (a := 220) rfl (by decide)) (by decide) (q_pfu (Nat.le_of_ble_eq_true rfl) ?_)⟩
  refine ⟨by decide, by decide, q_mkr (g0a (a := 221) rfl (by decide)) (by decide) (q_pfu (Nat.le_of_ble_eq_true rfl) ?_)⟩
  refine ⟨by decide, by decide, q_mkr (g0a (a := 222) rfl (by decide)) (by decide) (q_pfu (Nat.le_of_ble_eq_true rfl) ?_)⟩
  refine ⟨by decide, by decide, q_mkr (g0a (a := 223) rfl (by decide)) (by decide) (q_pfu (Nat.le_of_ble_eq_true rfl) ?_)⟩
  refine ⟨by decide, by decide, q_mkr (g0a (a := 224) rfl (by decide)) (by decide) (q_pfl (Nat.le_of_ble_eq_true rfl) (g0o rfl rfl) ?_)⟩
  refine ⟨by decide, by decide, q_rc rfl, ?_⟩
  obtain ⟨T, e1, e2, e3⟩ := mFresh (S := Sz) (F := aFz) rfl (fun i hi => absurd hi (Nat.not_lt_zero _)) (by decide)
  refine ⟨0, _, by decide, CX12_fresh0 e1, ?_⟩
  rintro _ ⟨S2, rfl, rfl⟩
  exact ⟨rfl, by decide, by decide, _, rfl, e2.1, Good0 e2 e3⟩
