theorem vp00 : vp_in (0 : Int32) 1 := by
  unfold vp_in
  decide
theorem lgc_self (x : Int64) : lg_cmp x x = 0 := by
  unfold lg_cmp
  first | (rw [if_neg (Int64.lt_irrefl x), if_pos rfl]) | simp
theorem La_rests {c : Nat} {S : Nat × (Nat → Int32)} {Sg : gS} {n kc ks mc ms : Nat} {X : gX} {i4 : Int32} (hG : Good c Sg) (hk1 : kc + 1 ≤ mc) (hk2 : ks + 6 ≤ ms) (v1 : vp_in (i4 + (1 : Int32)) S.1) (v2 : vp_in (i4 + (2 : Int32)) S.1) (v3 : vp_in (i4 + (3 : Int32)) S.1) (v4 : vp_in (i4 + (4 : Int32)) S.1) (hnext : ∀ S2, Good (c + 1) S2 → gG 1300 (mL_law S) mc ms X 1411 n (hH S2) [some (.float 300), some (.ref (0)), some (.ref (180)), some (.ref (225)), some (.int (i4)), none, none] [] (kc + 1) (ks + 6)) : gG 1300 (mL_law S) mc ms X 1192 n (hH Sg) [some (.float 300), some (.ref (0)), some (.ref (180)), some (.ref (225)), some (.int (i4)), none, none] [] kc ks := by
  refine kL_law_1192 ⟨v1, v2, v3, v4, ?_⟩
  generalize e1 : S.2 (Int32.toNatClampNeg (i4 + (1 : Int32))) = p1
  generalize e2 : S.2 (Int32.toNatClampNeg (i4 + (2 : Int32))) = p2
  generalize e3 : S.2 (Int32.toNatClampNeg (i4 + (3 : Int32))) = p3
  generalize e4 : S.2 (Int32.toNatClampNeg (i4 + (4 : Int32))) = p4
  have hT : gTi 10 mX11_rests n (hH Sg) [.ref 0, .int p1, .int p2, .int p3, .int p4] 1 6 (hPi (fun S' v => S' = Sg ∧ aRst p1 p2 p3 p4 = some v)) (hPv (fun S' => S' = Sg ∧ aRst p1 p2 p3 p4 = none)) :=
    gT_of (by decide) (Nat.le_of_ble_eq_true rfl) (xRests (d := 10) (n := n) (by decide) (fun v hv => ⟨rfl, hv⟩) (fun hv => ⟨rfl, hv⟩))
  have hH9 : gHi 12 n (hH Sg) [.ref 0, .int p1, .int p2, .int p3, .int p4, .ref 225] (fun H r => ∃ S1, H = hH S1 ∧ ((r = 0 ∧ ∃ v, aRst p1 p2 p3 p4 = some v ∧ S1 = uL Sg 225 0 v.toInt64) ∨ (r = 1 ∧ aRst p1 p2 p3 p4 = none ∧ S1 = Sg))) := by
    refine gH_of (d' := 10) (by decide) (q_rc rfl) hT ?_ ?_
    · rintro H' r ⟨S', rfl, rfl, hv⟩
      exact q_lst (S := S') (a := 225) (m := 1) (k := 0) rfl vp00 (by decide) ⟨_, rfl, Or.inl ⟨rfl, r, hv, rfl⟩⟩
    · rintro H' ⟨S', rfl, rfl, hv⟩
      exact ⟨_, rfl, Or.inr ⟨rfl, hv, rfl⟩⟩
  refine gG_cR (As := [.ref 0, .int p1, .int p2, .int p3, .int p4, .ref 225]) dL_law_1218 (d' := 12) (by decide) rfl ⟨hk1, hk2⟩ hH9 ?_
  rintro H' r ⟨S1, rfl, hr⟩
  refine kL_law_1221s ⟨v1, v2, v3, v4, hk1, hk2, q_rc rfl, ?_⟩
  rw [e1, e2, e3, e4]
  obtain ⟨⟨U, y⟩, m1, m2, m3⟩ := mRests (S := S1) (a := p1) (b := p2) (c := p3) (i4 := p4)
  dsimp only at m2 m3
  refine ⟨1, _, by decide, CX12_rests m1, ?_⟩
  rintro _ y2 ⟨S2, rfl, h6, h7⟩
  dsimp only at h6 h7
  subst h6 h7
  refine ⟨hk1, hk2, q_rc rfl, 0, _, by decide, CX12_thrown (R := (S2, sI S2 180 0)) rfl, ?_⟩
  rintro _ _ ⟨S3, rfl, h8, h9⟩
  dsimp only at h8 h9
  subst h8 h9
  rcases hr with ⟨rfl, v, hv, rfl⟩ | ⟨rfl, hv, rfl⟩
  · have eU : S3 = uI (uL Sg 225 0 v.toInt64) 180 0 0 := by rw [m2, hv]; rfl
    have ey : y2 = v := by rw [m3, hv]; rfl
    subst ey
    have ht : sI S3 180 0 = 0 := by rw [eU]; exact I_self
    rw [ht]
    refine ⟨fun _ => ⟨fun h => absurd rfl h, fun _ => ?_⟩, fun h => absurd rfl h⟩
    refine q_ll (a := 225) (m := 1) (k := 0) rfl vp00 (by decide) ?_
    have hs : sL S3 225 0 = y2.toInt64 := by
      rw [eU]
      show (if (225 : Nat) = 225 ∧ (0 : Nat) = 0 then y2.toInt64 else Sg.2.2.2.2 225 0) = y2.toInt64
      rw [if_pos (by decide)]
    rw [hs, lgc_self]
    refine ⟨fun _ => hnext _ ?_, fun h => absurd rfl h⟩
    rw [eU]
    exact Good_rs hG _ _
  · have eU : S3 = uI S1 180 0 1 := by rw [m2, hv]; rfl
    have ht : sI S3 180 0 = 1 := by rw [eU]; exact I_self
    rw [ht]
    refine ⟨fun _ => ⟨fun _ => hnext _ ?_, fun h => absurd h (by decide)⟩, fun h => absurd rfl h⟩
    rw [eU]
    exact Good_rt hG _
