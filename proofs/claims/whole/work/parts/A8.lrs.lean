/-! the law's case of rests -/
theorem gG_cR {Sc : Nat × (Nat → Int32)} {d d' n kc ks Rc Rs pc : Nat} {X : gX} {H : gHp} {L : List (Option Value)} {As : List Value} {P : gHp → Int32 → Prop} (hd : decode (mL_law Sc).2.1 pc = .ok (.invokestatic 181, 3)) (hdd : d' < d) (hn : As.length = 6) (hroom : kc + 1 ≤ Rc ∧ ks + 6 ≤ Rs) (hC : gHi d' n H As P)
    (h : ∀ H' x, P H' x → gG d (mL_law Sc) Rc Rs X (pc + 3) n H' L [.int x] (kc + 1) (ks + 6)) : gG d (mL_law Sc) Rc Rs X pc n H L As.reverse kc ks := by
  intro p l e s m args below meth c dC dI dA τ A n0 ρ0 Q F hfl hX ρ Hr locs ls hR
  obtain ⟨r1, r2, r3, r4, r5, r6, r7, r8, r9⟩ := id hR
  obtain ⟨hx, hb, hml, hr, hown, hts, hlk, hnm, hK, hA, hN, hE, hτ0, hS⟩ := id F
  have ho : g_oS n As := (g_oS_rev (b := []) (by rw [List.append_nil]; exact r5)).1
  have hM := hC l dC dI dA τ ρ Hr.size hfl r3 ho hτ0
  have hAA := g_AA r7 r8 hA
  have hpre : ∀ U : State, U.heap = Hr → s.WarmedH U.vm → va_Pc (As.map (g_cv ρ τ)) (g_Pre dC dI dA τ ρ n H Hr.size) (As.map (g_cv ρ τ)).toArray U := fun U hU hW => ⟨rfl, by rw [hU], by rw [hU]; exact r6, va_K.moved hW.alike hK, r7.weaken (fun _ _ _ _ => trivial), hN.to hW, by rw [hU]; exact hE.to r8.2.1 hW hAA⟩
  have cw : vx_CSW (g_rm d Rc Rs) s args (mL_law Sc).1.cls 181 yL_rests cL_rests 7 (some .int) hhR wsR (g_rm d' 1 6) 1 6 6 := vx_cwSW 6 hts (fun w hw => by
      rcases List.mem_append.mp hw with hw | hw
      · simp only [List.mem_cons, List.not_mem_nil, or_false] at hw
        rcases hw with rfl | rfl | rfl
        · exact ⟨wR_l, g_T_good wR_l⟩
        · exact ⟨wR_s, g_T_good wR_s⟩
        · exact ⟨wR_i, g_T_good wR_i⟩
      · rcases List.mem_cons.mp hw with rfl | hw
        · exact ⟨wR_c, g_T_good wR_c⟩
        · exact ⟨hw, g_T_good hw⟩) rfl rfl rfl (by decide +kernel) (g_room (M := mL_rests) (mc := 1) (ms := 6) hdd (by decide))
  have hst' : (As.reverse).map (g_cv ρ τ) = (As.map (g_cv ρ τ)).reverse ++ [] := by rw [List.map_reverse, List.append_nil]
  rw [hst']
  refine vx_calli (vx_runSX (As := As.map (g_cv ρ τ)) (rest := []) (hh := hhR) ⟨hx, hb, hml, hown, hts⟩ hM cw ⟨g_blind, hpre⟩ rfl (by rw [List.length_map]; exact hn) r9.1 rfl (by show 2 * 0 + 0 ≤ 8; decide) hd hroom) r8 (fun q _ h => hAA q h) hAA (fun q _ h => hAA q h) (fun E ce q9 u t H2 locs2 ht hvm hp hB hz hk hS2 hce hcv hcl => hp.elim) (fun r u t H1 locs1 ht hvm hw hB hz1 hk1 hS1 => ?_)
  obtain ⟨b1, b2, b3, b4⟩ := hB
  rw [ht] at b3
  have hL' : g_L u.1 τ L 0 = g_L ρ τ L 0 := g_L_ext b1 r4
  exact h u.2 r hw p l e s m args below meth c dC dI dA τ A n0 ρ0 Q F hfl hX u.1 H1 locs1 ls ⟨r1, fun k hk => by rw [b1 k (Nat.lt_of_lt_of_le hk r1)]; exact r2 k hk, b2, r4, ⟨trivial, trivial⟩, b3, b4.weaken (fun _ q _ hq => hAA q.1 hq), hS1, by rw [hL']; exact r9⟩
theorem GO_L {c : Nat} {S : gS} {f d w : Nat} {F : aF} {mn ln : Nat → List Nat} {A : aW} {D : aD} {W : aO} {E : aE} {p n t : Nat} {ch : Nat → Nat} (h : GO c S f d w F mn ln A D W E p n t ch) (x : Int64) : GO c (uL S 225 0 x) f d w F mn ln A D W E p n t ch := by
  have hS : fr [225] S (uL S 225 0 x) := fr_uL fr_rf List.mem_cons_self
  obtain ⟨q, ff, ⟨n1, n2, n3⟩, rr⟩ := h
  have hf := q.2.2.1
  refine ⟨q, ff, ⟨nX_fr n1 hS (fun j hj => ?_), ?_, n3⟩, rr⟩
  · simp only [List.mem_cons, List.not_mem_nil, or_false]; omega
  · unfold nM at n2 ⊢
    rw [frL hS (b := 183) (by decide), frL hS (b := 184) (by decide)]; exact n2
theorem GO_t {c : Nat} {S : gS} {f d w : Nat} {F : aF} {mn ln : Nat → List Nat} {A : aW} {D : aD} {W : aO} {E : aE} {p n t : Nat} {ch : Nat → Nat} (h : GO c S f d w F mn ln A D W E p n t ch) (x : Int32) : GO c (uI S 180 0 x) f d w F mn ln A D W E p n t ch := by
  refine GO_m h ⟨⟨fr_uI fr_rf List.mem_cons_self, ?_, ?_⟩, fun j hj => rfl⟩
  · show (if (180 : Nat) = 180 ∧ (1 : Nat) = 0 then x else S.1 180 1) = S.1 180 1
    rw [if_neg (by decide)]
  · show (if (180 : Nat) = 180 ∧ (53 : Nat) = 0 then x else S.1 180 53) = S.1 180 53
    rw [if_neg (by decide)]
theorem Good_rs {c : Nat} {S : gS} (h : Good c S) (x : Int64) (y : Int32) : Good (c + 1) (uI (uL S 225 0 x) 180 0 y) := by
  obtain ⟨f, d, w, F, mn, ln, A, D, W, E, p, n, t, ch, g⟩ := h
  exact ⟨f, d, w, F, mn, ln, A, D, W, E, p, n, t, ch, GO_c (by omega) (GO_t (GO_L g x) y)⟩
theorem Good_rt {c : Nat} {S : gS} (h : Good c S) (y : Int32) : Good (c + 1) (uI S 180 0 y) := by
  obtain ⟨f, d, w, F, mn, ln, A, D, W, E, p, n, t, ch, g⟩ := h
  exact ⟨f, d, w, F, mn, ln, A, D, W, E, p, n, t, ch, GO_c (by omega) (GO_t g y)⟩
