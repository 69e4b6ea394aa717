/-- a method that answers an int or throws -/
def gTi (d : Nat) (M : gMD) (n : Nat) (H : gHp) (av : List Value) (mc ms : Nat) (P : gHp → Int32 → Prop) (PT : gHp → Prop) : Prop :=
  ∀ (l : Launch) (dC : Nat → ClassId) (dI : Nat → Nat → Nat) (dA : Nat → ClassId) (τ : Nat → Value) (ρ : Nat → Nat) (sz : Nat), l.flags = flags0 → g_oH n H → g_oS n av → g_ro τ →
    vx_Met l M.1 (g_ws M) (g_rm d mc ms) (va_Pc (av.map (g_cv ρ τ)) (g_Pre dC dI dA τ ρ n H sz)) (va_Qi (fun r (u : (Nat → Nat) × gHp) => P u.2 r) (g_B dC dI dA τ ρ n n (va_A (g_w ρ τ dA n H) sz)) (va_A (g_w ρ τ dA n H) sz))
      (vx_X (fun u : (Nat → Nat) × gHp => PT u.2) (fun E u t => E = nsE ∧ g_B dC dI dA τ ρ n n (va_A (g_w ρ τ dA n H) sz) u t) (va_A (g_w ρ τ dA n H) sz)) mc ms (va_A (g_w ρ τ dA n H) sz)
theorem gT_of {d n : Nat} {H : gHp} {av : List Value} {P : gHp → Int32 → Prop} {PT : gHp → Prop} (hd6 : 6 ≤ d) (hlen : g_len av ≤ 7) (h : gG d mX11_rests 1 6 (g_Xr mX11_rests n P PT) 0 n H (g_ent 7 av) [] 0 0) : gTi d mX11_rests n H av 1 6 P PT := by
  intro l dC dI dA τ ρ sz hfl hoH hoS hτ0
  refine vx_ofW (cc := cX11_rests) (maxL := 7) (ret := some .int) (by decide +kernel) rfl ?_
  intro p e s m args below meth c s₁ B hml htab hv
  obtain ⟨rfl, hsz, hP, hK, hD0, hNW, hSE⟩ := hv
  subst hsz
  have hx := B.exec
  have hb := B.bytes
  have hr := B.returns
  have hts := atoms_spec (ws := g_ws mX11_rests) B.pre
  have hown : s.vm.findClass mX11_rests.1.cls = some m.cls := findClass_of_methodNamed B.named
  have hlk := B.notSynchronized
  have hnm : meth.name = mX11_rests.1.name := (name_of_methodNamed B.named B.method).1
  have hD := hD0.self (sz := s.heap.size)
  rw [lg_entry_eq]
  have hl := lv_entry (av.map (g_cv ρ τ)) (n := 7) (by rw [g_len_ok hτ0]; exact hlen)
  rw [← g_ent_L hτ0 av 7 0] at hl
  generalize ((lg_sl (av.map (g_cv ρ τ)) ++ List.replicate (7 - (lg_sl (av.map (g_cv ρ τ))).length) Slot.unset).toArray) = ls at hl ⊢
  have hT : ∀ w ∈ g_T, w.before _ s = true := fun w hw => hts w (List.mem_cons_of_mem _ hw)
  refine h p l e s m _ below meth c dC dI dA τ (va_A (g_w ρ τ dA n H) s.heap.size) n ρ _ ⟨hx, hb, hml, hr, hown, hT, hlk, hnm, hK, fun q hq => Or.inr hq, hNW, hSE, hτ0, fun S hS => by cases hS⟩ hfl ?_ ρ s.heap [] ls ⟨Nat.le_refl _, fun _ _ => rfl, hoH, g_ent_o av _ hoS, trivial, hP, hD, va_S.rf, hl⟩
  intro pc1 n1 H1 L1 st1 kc1 ks1 hx1 ρ1 Hr1 locs1 ls1 hR1
  obtain ⟨rfl, rfl, rfl, hh⟩ := hx1
  obtain ⟨r1, r2, r3, r4, r5, r6, r7, r8, r9⟩ := hR1
  rcases hh with ⟨hd, x, rfl, hp⟩ | ⟨hpc, rfl, hp⟩
  · refine vx_ret ?_
    intro T hT9 X
    exact W.zret (v := x) (ty := .int) hx hb hr rfl (fun t ht hW => ⟨⟨x, (ρ1, H1), rfl, hp, r2, r3, by rw [ht]; exact r6, r7⟩, r8.F ht⟩) r8.2.2 hd hlk T hT9 (stand_widen X (Nat.zero_le _) (Nat.zero_le _))
  · have hlt := ns_fl hfl
    have hcat : (([] : List Value).map fun v => v.category).sum + (13 * (nsN.length + 1) + 42) ≤ (headSpec (g_ws mX11_rests) (g_rm d 1 6)).room.locals := by
      show 0 + (13 * (2 + 1) + 42) ≤ 64 * d
      omega
    have hfr : nsN.length + 3 < (headSpec (g_ws mX11_rests) (g_rm d 1 6)).room.frames := by
      show 2 + 3 < d
      omega
    have hX : ∀ t : State, s.vm.Alike t.vm → Hr1.size ≤ t.heap.size → (∀ q : Nat, q < Hr1.size → t.heap[q]? = Hr1[q]?) → vx_X (fun u : (Nat → Nat) × gHp => PT u.2) (fun E u t => E = nsE ∧ g_B dC dI dA τ ρ n1 n1 (va_A (g_w ρ τ dA n1 H) s.heap.size) u t) (va_A (g_w ρ τ dA n1 H) s.heap.size) nsE s t := by
      intro t _ hz hk
      refine ⟨(ρ1, H1), hp, ⟨rfl, r2, r3, ?_, r7⟩, Nat.le_trans r8.1 hz, fun q hq hA => by rw [hk q (Nat.lt_of_lt_of_le hq r8.1)]; exact r8.2.1 q hq hA⟩
      exact r6.kept (fun k q hq => hk q.1 (vx_lt r6 hq))
    rcases hpc with rfl | rfl
    · exact vx_throw0 hx hb hlt hown (by decide +kernel) (by decide +kernel) (hT _ ns_k) (hT _ ns_i) (ns_hat hT) ns_ot hSE.2.2.2.1 hSE.2.2.2.2 r8 (r9.1.trans hml.symm) dX11_rests_27 dX11_rests_30 dX11_rests_31 dX11_rests_34 (fun x hx9 => (htab x hx9).elim) hfr hcat (Nat.le_refl _) (Nat.le_refl _) hlk hX r8.2.2 (Nat.le_refl _) (Nat.le_refl _)
    · exact vx_throw0 hx hb hlt hown (by decide +kernel) (by decide +kernel) (hT _ ns_k) (hT _ ns_i) (ns_hat hT) ns_ot hSE.2.2.2.1 hSE.2.2.2.2 r8 (r9.1.trans hml.symm) dX11_rests_83 dX11_rests_86 dX11_rests_87 dX11_rests_90 (fun x hx9 => (htab x hx9).elim) hfr hcat (Nat.le_refl _) (Nat.le_refl _) hlk hX r8.2.2 (Nat.le_refl _) (Nat.le_refl _)
