noncomputable def FX11_feed (S : gS) (j1 : Int64) (j3 : Int64) (j5 : Int64) : Option (gS × Int32) := g_b1 (FX8_addBytes S (j1)) (fun S1 => g_b1 (FX8_addBytes S1 (j3)) (fun S2 => g_b1 (FX8_addBytes S2 (j5)) (fun S3 => some (S3, (sI S3 (1) 1)))))
theorem CX11_feed {n : Nat} {S : gS} {R : gS × Int32} {j1 : Int64} {j3 : Int64} {j5 : Int64}  (h : FX11_feed S j1 j3 j5 = some R) : sCi 1 mX11_feed n S [.ref (0), .long (j1), .long (j3), .long (j5)] (fun S2 x2 => S2 = R.1 ∧ x2 = R.2) := by
  unfold FX11_feed at h
  refine gCj_of (by decide) (Nat.le_of_ble_eq_true rfl) rfl rfl (zX11_feed_0  ?_)
  obtain ⟨S1, hc, h⟩ := g_b1s h
  refine ⟨0, _, (by decide), CX8_addBytes  hc, ?_⟩
  rintro _ rfl
  obtain ⟨S2, hc, h⟩ := g_b1s h
  refine ⟨0, _, (by decide), CX8_addBytes  hc, ?_⟩
  rintro _ rfl
  obtain ⟨S3, hc, h⟩ := g_b1s h
  refine ⟨0, _, (by decide), CX8_addBytes  hc, ?_⟩
  rintro _ rfl
  cases h; exact ⟨rfl, rfl⟩

noncomputable def FX11_day (S : gS)  : Option (gS × Int32) := if isFb (sQ S 3) = true then (if isDb (sQ S 6) = true then (g_b2 (FX5_readDay S ((sQ S 3)) ((sQ S 6))) (fun S3 x4 => if x4 = 0 then (if isDb (sQ S3 5) = true then (if isDb (sQ S3 6) = true then (g_lt (uQ S3 5 ((sQ S3 6))) (fun S7 => g_lt (uQ S7 6 ((sQ S3 5))) (fun S8 => some (S8, x4)))) else none) else none) else (some (S3, x4)))) else none) else none
theorem CX11_day {n : Nat} {S : gS} {R : gS × Int32}   (h : FX11_day S  = some R) : sCi 9 mX11_day n S [.ref (0)] (fun S2 x2 => S2 = R.1 ∧ x2 = R.2) := by
  unfold FX11_day at h
  refine gCj_of (by decide) (Nat.le_of_ble_eq_true rfl) rfl rfl (zX11_day_0  ?_)
  obtain ⟨hq1, h⟩ := g_fs h
  refine ⟨hq1, ?_⟩
  obtain ⟨hq2, h⟩ := g_ds h
  refine ⟨hq2, ?_⟩
  obtain ⟨S3, x4, hc, h⟩ := g_b2s h
  refine ⟨8, _, (by decide), CX5_readDay hq1 hq2 hc, ?_⟩
  rintro _ _ ⟨rfl, rfl⟩
  refine ⟨fun c => ?_, fun c => ?_⟩
  · have h := g_in c h
    cases h; exact ⟨rfl, rfl⟩
  · have h := g_ip c h
    obtain ⟨hq5, h⟩ := g_ds h
    refine ⟨hq5, ?_⟩
    obtain ⟨hq6, h⟩ := g_ds h
    refine ⟨hq6, ?_⟩
    intro S7 eS
    have h := g_lts eS h
    intro S8 eS
    have h := g_lts eS h
    cases h; exact ⟨rfl, rfl⟩

noncomputable def FX11_word (S : gS)  : Option (gS × Int32) := if isFb (sQ S 3) = true then (if isWdb (sQ S 8) = true then (g_b2 (FX5_readWord S ((sQ S 3)) ((sQ S 8))) (fun S3 x4 => if x4 = 0 then (if isWdb (sQ S3 7) = true then (if isWdb (sQ S3 8) = true then (g_lt (uQ S3 7 ((sQ S3 8))) (fun S7 => g_lt (uQ S7 8 ((sQ S3 7))) (fun S8 => some (S8, x4)))) else none) else none) else (some (S3, x4)))) else none) else none
theorem CX11_word {n : Nat} {S : gS} {R : gS × Int32}   (h : FX11_word S  = some R) : sCi 8 mX11_word n S [.ref (0)] (fun S2 x2 => S2 = R.1 ∧ x2 = R.2) := by
  unfold FX11_word at h
  refine gCj_of (by decide) (Nat.le_of_ble_eq_true rfl) rfl rfl (zX11_word_0  ?_)
  obtain ⟨hq1, h⟩ := g_fs h
  refine ⟨hq1, ?_⟩
  obtain ⟨hq2, h⟩ := g_wds h
  refine ⟨hq2, ?_⟩
  obtain ⟨S3, x4, hc, h⟩ := g_b2s h
  refine ⟨7, _, (by decide), CX5_readWord hq1 hq2 hc, ?_⟩
  rintro _ _ ⟨rfl, rfl⟩
  refine ⟨fun c => ?_, fun c => ?_⟩
  · have h := g_in c h
    cases h; exact ⟨rfl, rfl⟩
  · have h := g_ip c h
    obtain ⟨hq5, h⟩ := g_wds h
    refine ⟨hq5, ?_⟩
    obtain ⟨hq6, h⟩ := g_wds h
    refine ⟨hq6, ?_⟩
    intro S7 eS
    have h := g_lts eS h
    intro S8 eS
    have h := g_lts eS h
    cases h; exact ⟨rfl, rfl⟩

noncomputable def FX11_slate (S : gS) (i1 : Int32) : Option (gS × Int32) := if i1 < 0 then (some (S, (-1 : Int32))) else (if (sI S (49) 9) ≤ i1 then (some (S, (-1 : Int32))) else (if g_vp (i1) 40 = true then (some (S, (sR S ((49 + 3)) (Int32.toNatClampNeg (i1))))) else none))
theorem CX11_slate {n : Nat} {S : gS} {R : gS × Int32} {i1 : Int32}  (h : FX11_slate S i1 = some R) : sCi 0 mX11_slate n S [.ref (0), .int (i1)] (fun S2 x2 => S2 = R.1 ∧ x2 = R.2) := by
  unfold FX11_slate at h
  refine gCj_of (by decide) (Nat.le_of_ble_eq_true rfl) rfl rfl (zX11_slate_0  ?_)
  refine ⟨fun c => ?_, fun c => ?_⟩
  · have h := g_ip c h
    cases h; exact ⟨rfl, rfl⟩
  · have h := g_in c h
    refine ⟨fun c => ?_, fun c => ?_⟩
    · have h := g_ip c h
      cases h; exact ⟨rfl, rfl⟩
    · have h := g_in c h
      obtain ⟨hv1, h⟩ := g_vs h
      refine ⟨hv1, ?_⟩
      cases h; exact ⟨rfl, rfl⟩

noncomputable def FX11_undo (S : gS)  : Option (gS × Bool) := if (sI S (0) 14) = 0 then (some (S, false)) else (g_lt (uI S (0) 13 ((((sI S (0) 13) - (1 : Int32)) &&& (15 : Int32)))) (fun S1 => g_lt (uI S1 (0) 14 (((sI S1 (0) 14) - (1 : Int32)))) (fun S2 => if g_vp ((sI S2 (0) 13)) 16 = true then (g_b1 (FX9_copyFrom S2 (49) ((58 + 4 * (Int32.toNatClampNeg ((sI S2 (0) 13)))))) (fun S4 => some (S4, true))) else none)))
theorem CX11_undo {n : Nat} {S : gS} {R : gS × Bool}   (h : FX11_undo S  = some R) : sCz 2 mX11_undo n S [.ref (0)] (fun S2 x2 => S2 = R.1 ∧ x2 = R.2) := by
  unfold FX11_undo at h
  refine gCz_of (by decide) (Nat.le_of_ble_eq_true rfl) rfl rfl (zX11_undo_0  ?_)
  refine ⟨fun c => ?_, fun c => ?_⟩
  · have h := g_in c h
    intro S1 eS
    have h := g_lts eS h
    intro S2 eS
    have h := g_lts eS h
    obtain ⟨hv3, h⟩ := g_vs h
    refine ⟨hv3, ?_⟩
    obtain ⟨S4, hc, h⟩ := g_b1s h
    refine ⟨1, _, (by decide), CX9_copyFrom is_49 (is_past hv3) hc, ?_⟩
    rintro _ rfl
    cases h; exact ⟨rfl, rfl⟩
  · have h := g_ip c h
    cases h; exact ⟨rfl, rfl⟩

noncomputable def bX11_chain_4  (rec : Nat → gS → Int32 → Int32 → Option (gS × Int32)) (S : gS) (i1 : Int32) (i2 : Int32) : Option (gS × Int32) := if isFb (sQ S 3) = true then (if (sI S ((sQ S 3)) 0) ≤ i2 then (some (S, i1)) else (if isFb (sQ S 3) = true then (g_b2 (FX1_below S ((sQ S 3)) (i2)) (fun S3 x4 => g_b2 (FJ6_bitCount_0f7a4 S3 (x4)) (fun S5 x6 => rec 4 S5 ((if i1 < ((1 : Int32) + x6) then ((1 : Int32) + x6) else i1)) ((i2 + 1))))) else none)) else none
noncomputable def fX11_chain  : Nat → Nat → gS → Int32 → Int32 → Option (gS × Int32)
  | 0 => fun _ _ _ _ => none
  | k + 1 => fun pc S i1 i2 => if pc = 4 then bX11_chain_4  (fX11_chain  k) S i1 i2 else none
noncomputable def FX11_chain (S : gS)  : Option (gS × Int32) := fX11_chain  FU 4 S ((0 : Int32)) ((0 : Int32))
set_option maxRecDepth 100000 in
theorem lX11_chain  {n : Nat} {R : gS × Int32} : ∀ k : Nat, (∀ (S : gS) (i1 : Int32) (i2 : Int32) , fX11_chain  k 4 S i1 i2 = some R → gG 1 mX11_chain 0 0 (g_Xj mX11_chain n 0 0 (hPi (fun S2 x2 => S2 = R.1 ∧ x2 = R.2))) 4 n (hH S) [some (.ref (0)), some (.int (i1)), some (.int (i2))] [] 0 0) := by
  intro k
  induction k with
  | zero => exact fun _ _ _ h => (by cases h)
  | succ k ih =>
    have hrec_4 := ih
    · intro S i1 i2 h
      rw [fX11_chain] at h
      have h := g_ip rfl h
      unfold bX11_chain_4 at h
      refine zX11_chain_4 (by decide) ?_
      obtain ⟨hq1, h⟩ := g_fs h
      refine ⟨hq1, ?_⟩
      refine ⟨fun c => ?_, fun c => ?_⟩
      · have h := g_ip c h
        cases h; exact ⟨rfl, rfl⟩
      · have h := g_in c h
        obtain ⟨hq2, h⟩ := g_fs h
        refine ⟨hq2, ?_⟩
        obtain ⟨S3, x4, hc, h⟩ := g_b2s h
        refine ⟨0, _, (by decide), CX1_below hq2 hc, ?_⟩
        rintro _ _ ⟨rfl, rfl⟩
        obtain ⟨S5, x6, hc, h⟩ := g_b2s h
        refine ⟨0, _, (by decide), CJ6_bitCount_0f7a4  hc, ?_⟩
        rintro _ _ ⟨rfl, rfl⟩
        exact hrec_4 _ _ _  h
theorem CX11_chain {n : Nat} {S : gS} {R : gS × Int32}   (h : FX11_chain S  = some R) : sCi 1 mX11_chain n S [.ref (0)] (fun S2 x2 => S2 = R.1 ∧ x2 = R.2) := by
  unfold FX11_chain at h
  refine gCj_of (by decide) (Nat.le_of_ble_eq_true rfl) rfl rfl (zX11_chain_0  ?_)
  exact (lX11_chain FU) _ _ _  h

noncomputable def FX11_sounds (S : gS)  : Option (gS × Int32) := some (S, (sI S (49) 4))
theorem CX11_sounds {n : Nat} {S : gS} {R : gS × Int32}   (h : FX11_sounds S  = some R) : sCi 0 mX11_sounds n S [.ref (0)] (fun S2 x2 => S2 = R.1 ∧ x2 = R.2) := by
  unfold FX11_sounds at h
  refine gCj_of (by decide) (Nat.le_of_ble_eq_true rfl) rfl rfl (zX11_sounds_0  ?_)
  cases h; exact ⟨rfl, rfl⟩

noncomputable def FX11_last (S : gS)  : Option (gS × Int32) := some (S, (sI S (49) 5))
theorem CX11_last {n : Nat} {S : gS} {R : gS × Int32}   (h : FX11_last S  = some R) : sCi 0 mX11_last n S [.ref (0)] (fun S2 x2 => S2 = R.1 ∧ x2 = R.2) := by
  unfold FX11_last at h
  refine gCj_of (by decide) (Nat.le_of_ble_eq_true rfl) rfl rfl (zX11_last_0  ?_)
  cases h; exact ⟨rfl, rfl⟩

noncomputable def bX11_run_6  (rec : Nat → gS → Int32 → Int32 → Int32 → Int32 → Option (gS × Int32)) (S : gS) (i1 : Int32) (i2 : Int32) (i3 : Int32) (i4 : Int32) : Option (gS × Int32) := if (sI S (49) 9) ≤ i3 then (some (S, i1)) else (if i3 ≤ 0 then (rec 51 S (i1) (i2) (i3) ((0 : Int32))) else (if g_vp (i3) 40 = true then (if g_vp ((i3 - (1 : Int32))) 40 = true then (if (sR S ((49 + 3)) (Int32.toNatClampNeg (i3))) = (sR S ((49 + 3)) (Int32.toNatClampNeg ((i3 - (1 : Int32))))) then (rec 51 S (i1) (i2) (i3) ((1 : Int32))) else (rec 51 S (i1) (i2) (i3) ((0 : Int32)))) else none) else none))
noncomputable def bX11_run_51  (rec : Nat → gS → Int32 → Int32 → Int32 → Int32 → Option (gS × Int32)) (S : gS) (i1 : Int32) (i2 : Int32) (i3 : Int32) (i4 : Int32) : Option (gS × Int32) := if i4 = 0 then (rec 64 S (i1) ((1 : Int32)) (i3) 0) else (rec 64 S (i1) ((i2 + (1 : Int32))) (i3) 0)
noncomputable def bX11_run_64  (rec : Nat → gS → Int32 → Int32 → Int32 → Int32 → Option (gS × Int32)) (S : gS) (i1 : Int32) (i2 : Int32) (i3 : Int32) (i4 : Int32) : Option (gS × Int32) := if g_vp (i3) 40 = true then (if (sR S ((49 + 3)) (Int32.toNatClampNeg (i3))) = (6 : Int32) then (rec 6 S (i1) (i2) ((i3 + 1)) 0) else (rec 6 S ((if i1 < i2 then i2 else i1)) (i2) ((i3 + 1)) 0)) else none
noncomputable def fX11_run  : Nat → Nat → gS → Int32 → Int32 → Int32 → Int32 → Option (gS × Int32)
  | 0 => fun _ _ _ _ _ _ => none
  | k + 1 => fun pc S i1 i2 i3 i4 => if pc = 6 then bX11_run_6  (fX11_run  k) S i1 i2 i3 i4 else if pc = 51 then bX11_run_51  (fX11_run  k) S i1 i2 i3 i4 else if pc = 64 then bX11_run_64  (fX11_run  k) S i1 i2 i3 i4 else none
noncomputable def FX11_run (S : gS)  : Option (gS × Int32) := fX11_run  FU 6 S ((0 : Int32)) ((0 : Int32)) ((0 : Int32)) 0
set_option maxRecDepth 100000 in
theorem lX11_run  {n : Nat} {R : gS × Int32} : ∀ k : Nat, (∀ (S : gS) (i1 : Int32) (i2 : Int32) (i3 : Int32) (i4 : Int32) , fX11_run  k 6 S i1 i2 i3 i4 = some R → gG 1 mX11_run 0 0 (g_Xj mX11_run n 0 0 (hPi (fun S2 x2 => S2 = R.1 ∧ x2 = R.2))) 6 n (hH S) [some (.ref (0)), some (.int (i1)), some (.int (i2)), some (.int (i3)), none] [] 0 0) ∧ (∀ (S : gS) (i1 : Int32) (i2 : Int32) (i3 : Int32) (i4 : Int32) , fX11_run  k 51 S i1 i2 i3 i4 = some R → gG 1 mX11_run 0 0 (g_Xj mX11_run n 0 0 (hPi (fun S2 x2 => S2 = R.1 ∧ x2 = R.2))) 51 n (hH S) [some (.ref (0)), some (.int (i1)), some (.int (i2)), some (.int (i3)), some (.int (i4))] [] 0 0) ∧ (∀ (S : gS) (i1 : Int32) (i2 : Int32) (i3 : Int32) (i4 : Int32) , fX11_run  k 64 S i1 i2 i3 i4 = some R → gG 1 mX11_run 0 0 (g_Xj mX11_run n 0 0 (hPi (fun S2 x2 => S2 = R.1 ∧ x2 = R.2))) 64 n (hH S) [some (.ref (0)), some (.int (i1)), some (.int (i2)), some (.int (i3)), none] [] 0 0) := by
  intro k
  induction k with
  | zero => exact ⟨fun _ _ _ _ _ h => (by cases h), fun _ _ _ _ _ h => (by cases h), fun _ _ _ _ _ h => (by cases h)⟩
  | succ k ih =>
    have hrec_6 := ih.1
    have hrec_51 := ih.2.1
    have hrec_64 := ih.2.2
    refine ⟨?_, ?_, ?_⟩
    · intro S i1 i2 i3 i4 h
      rw [fX11_run] at h
      have h := g_ip rfl h
      unfold bX11_run_6 at h
      refine zX11_run_6  ?_
      refine ⟨fun c => ?_, fun c => ?_⟩
      · have h := g_ip c h
        cases h; exact ⟨rfl, rfl⟩
      · have h := g_in c h
        refine ⟨fun c => ?_, fun c => ?_⟩
        · have h := g_ip c h
          exact hrec_51 _ _ _ _ _  h
        · have h := g_in c h
          obtain ⟨hv1, h⟩ := g_vs h
          refine ⟨hv1, ?_⟩
          obtain ⟨hv2, h⟩ := g_vs h
          refine ⟨hv2, ?_⟩
          refine ⟨fun c => ?_, fun c => ?_⟩
          · have h := g_in c h
            exact hrec_51 _ _ _ _ _  h
          · have h := g_ip c h
            exact hrec_51 _ _ _ _ _  h
    · intro S i1 i2 i3 i4 h
      rw [fX11_run] at h
      have h := g_in (by decide) h
      have h := g_ip rfl h
      unfold bX11_run_51 at h
      refine zX11_run_51  ?_
      refine ⟨fun c => ?_, fun c => ?_⟩
      · have h := g_ip c h
        exact hrec_64 _ _ _ _ _  h
      · have h := g_in c h
        exact hrec_64 _ _ _ _ _  h
    · intro S i1 i2 i3 i4 h
      rw [fX11_run] at h
      have h := g_in (by decide) h
      have h := g_in (by decide) h
      have h := g_ip rfl h
      unfold bX11_run_64 at h
      refine zX11_run_64 (by decide) ?_
      obtain ⟨hv1, h⟩ := g_vs h
      refine ⟨hv1, ?_⟩
      refine ⟨fun c => ?_, fun c => ?_⟩
      · have h := g_ip c h
        exact hrec_6 _ _ _ _ _  h
      · have h := g_in c h
        exact hrec_6 _ _ _ _ _  h
theorem CX11_run {n : Nat} {S : gS} {R : gS × Int32}   (h : FX11_run S  = some R) : sCi 1 mX11_run n S [.ref (0)] (fun S2 x2 => S2 = R.1 ∧ x2 = R.2) := by
  unfold FX11_run at h
  refine gCj_of (by decide) (Nat.le_of_ble_eq_true rfl) rfl rfl (zX11_run_0  ?_)
  exact (lX11_run FU).1 _ _ _ _ _  h

noncomputable def FX11_stands (S : gS)  : Option (gS × Int32) := if isWdb (sQ S 7) = true then (g_b2 (FX9_placeOf S (49) ((sQ S 7))) (fun S2 x3 => some (S2, x3))) else none
theorem CX11_stands {n : Nat} {S : gS} {R : gS × Int32}   (h : FX11_stands S  = some R) : sCi 2 mX11_stands n S [.ref (0)] (fun S2 x2 => S2 = R.1 ∧ x2 = R.2) := by
  unfold FX11_stands at h
  refine gCj_of (by decide) (Nat.le_of_ble_eq_true rfl) rfl rfl (zX11_stands_0  ?_)
  obtain ⟨hq1, h⟩ := g_wds h
  refine ⟨hq1, ?_⟩
  obtain ⟨S2, x3, hc, h⟩ := g_b2s h
  refine ⟨1, _, (by decide), CX9_placeOf is_49 hq1 hc, ?_⟩
  rintro _ _ ⟨rfl, rfl⟩
  cases h; exact ⟨rfl, rfl⟩

noncomputable def FX11_maybe (S : gS)  : Option (gS × Int32) := if isWdb (sQ S 7) = true then (if (sI S ((sQ S 7)) 0) = 0 then (some (S, (-1 : Int32))) else (if isWdb (sQ S 7) = true then (g_b2 (FX9_placesFor S (49) ((sQ S 7))) (fun S3 x4 => some (S3, x4))) else none)) else none
theorem CX11_maybe {n : Nat} {S : gS} {R : gS × Int32}   (h : FX11_maybe S  = some R) : sCi 2 mX11_maybe n S [.ref (0)] (fun S2 x2 => S2 = R.1 ∧ x2 = R.2) := by
  unfold FX11_maybe at h
  refine gCj_of (by decide) (Nat.le_of_ble_eq_true rfl) rfl rfl (zX11_maybe_0  ?_)
  obtain ⟨hq1, h⟩ := g_wds h
  refine ⟨hq1, ?_⟩
  refine ⟨fun c => ?_, fun c => ?_⟩
  · have h := g_in c h
    obtain ⟨hq2, h⟩ := g_wds h
    refine ⟨hq2, ?_⟩
    obtain ⟨S3, x4, hc, h⟩ := g_b2s h
    refine ⟨1, _, (by decide), CX9_placesFor is_49 hq2 hc, ?_⟩
    rintro _ _ ⟨rfl, rfl⟩
    cases h; exact ⟨rfl, rfl⟩
  · have h := g_ip c h
    cases h; exact ⟨rfl, rfl⟩

noncomputable def FX11_mark (S : gS) (i1 : Int32) (i2 : Int32) : Option (gS × Bool) := if i1 < 0 then (some (S, false)) else (if i1 < (4 : Int32) then (if g_vp (i1) 4 = true then (if i2 = 0 then (g_lt (uI S ((123 + 14 * (Int32.toNatClampNeg (i1)))) 0 ((g_b true))) (fun S9 => g_b1 (FX9_copyFrom S9 (((123 + 14 * (Int32.toNatClampNeg (i1))) + 1)) (49)) (fun S10 => if isDb (sQ S10 5) = true then (g_b1 (FX0_copyFrom S10 (((123 + 14 * (Int32.toNatClampNeg (i1))) + 5)) ((sQ S10 5))) (fun S12 => if isWdb (sQ S12 7) = true then (g_b1 (FX10_copyFrom S12 (((123 + 14 * (Int32.toNatClampNeg (i1))) + 9)) ((sQ S12 7))) (fun S14 => g_b1 (FX7_copyFrom S14 (((123 + 14 * (Int32.toNatClampNeg (i1))) + 11)) (46)) (fun S15 => some (S15, true)))) else none)) else none))) else (if (sI S ((123 + 14 * (Int32.toNatClampNeg (i1)))) 0) = 0 then (some (S, false)) else (g_b1 (FX9_copyFrom S (49) (((123 + 14 * (Int32.toNatClampNeg (i1))) + 1))) (fun S2 => if isDb (sQ S2 5) = true then (g_b1 (FX0_copyFrom S2 ((sQ S2 5)) (((123 + 14 * (Int32.toNatClampNeg (i1))) + 5))) (fun S4 => if isWdb (sQ S4 7) = true then (g_b1 (FX10_copyFrom S4 ((sQ S4 7)) (((123 + 14 * (Int32.toNatClampNeg (i1))) + 9))) (fun S6 => g_b1 (FX7_copyFrom S6 (46) (((123 + 14 * (Int32.toNatClampNeg (i1))) + 11))) (fun S7 => g_lt (uI S7 (0) 14 ((0 : Int32))) (fun S8 => some (S8, true))))) else none)) else none)))) else none) else (some (S, false)))
theorem CX11_mark {n : Nat} {S : gS} {R : gS × Bool} {i1 : Int32} {i2 : Int32}  (h : FX11_mark S i1 i2 = some R) : sCz 2 mX11_mark n S [.ref (0), .int (i1), .int (i2)] (fun S2 x2 => S2 = R.1 ∧ x2 = R.2) := by
  unfold FX11_mark at h
  refine gCz_of (by decide) (Nat.le_of_ble_eq_true rfl) rfl rfl (zX11_mark_0  ?_)
  refine ⟨fun c => ?_, fun c => ?_⟩
  · have h := g_ip c h
    cases h; exact ⟨rfl, rfl⟩
  · have h := g_in c h
    refine ⟨fun c => ?_, fun c => ?_⟩
    · have h := g_ip c h
      obtain ⟨hv1, h⟩ := g_vs h
      refine ⟨hv1, ?_⟩
      refine ⟨fun c => ?_, fun c => ?_⟩
      · have h := g_in c h
        refine ⟨fun c => ?_, fun c => ?_⟩
        · have h := g_in c h
          obtain ⟨S2, hc, h⟩ := g_b1s h
          refine ⟨1, _, (by decide), CX9_copyFrom is_49 (is_marks hv1).2.1 hc, ?_⟩
          rintro _ rfl
          obtain ⟨hq3, h⟩ := g_ds h
          refine ⟨hq3, ?_⟩
          obtain ⟨S4, hc, h⟩ := g_b1s h
          refine ⟨1, _, (by decide), CX0_copyFrom hq3 (is_marks hv1).2.2.1 hc, ?_⟩
          rintro _ rfl
          obtain ⟨hq5, h⟩ := g_wds h
          refine ⟨hq5, ?_⟩
          obtain ⟨S6, hc, h⟩ := g_b1s h
          refine ⟨1, _, (by decide), CX10_copyFrom hq5 (is_marks hv1).2.2.2.1 hc, ?_⟩
          rintro _ rfl
          obtain ⟨S7, hc, h⟩ := g_b1s h
          refine ⟨0, _, (by decide), CX7_copyFrom is_46 (is_marks hv1).2.2.2.2 hc, ?_⟩
          rintro _ rfl
          intro S8 eS
          have h := g_lts eS h
          cases h; exact ⟨rfl, rfl⟩
        · have h := g_ip c h
          cases h; exact ⟨rfl, rfl⟩
      · have h := g_ip c h
        intro S9 eS
        have h := g_lts eS h
        obtain ⟨S10, hc, h⟩ := g_b1s h
        refine ⟨1, _, (by decide), CX9_copyFrom (is_marks hv1).2.1 is_49 hc, ?_⟩
        rintro _ rfl
        obtain ⟨hq11, h⟩ := g_ds h
        refine ⟨hq11, ?_⟩
        obtain ⟨S12, hc, h⟩ := g_b1s h
        refine ⟨1, _, (by decide), CX0_copyFrom (is_marks hv1).2.2.1 hq11 hc, ?_⟩
        rintro _ rfl
        obtain ⟨hq13, h⟩ := g_wds h
        refine ⟨hq13, ?_⟩
        obtain ⟨S14, hc, h⟩ := g_b1s h
        refine ⟨1, _, (by decide), CX10_copyFrom (is_marks hv1).2.2.2.1 hq13 hc, ?_⟩
        rintro _ rfl
        obtain ⟨S15, hc, h⟩ := g_b1s h
        refine ⟨0, _, (by decide), CX7_copyFrom (is_marks hv1).2.2.2.2 is_46 hc, ?_⟩
        rintro _ rfl
        cases h; exact ⟨rfl, rfl⟩
    · have h := g_in c h
      cases h; exact ⟨rfl, rfl⟩

noncomputable def FX11_count (S : gS) (i1 : Int32) : Option (gS × Int32) := if i1 = 0 then (if isFb (sQ S 3) = true then (some (S, (sI S ((sQ S 3)) 0))) else none) else (if i1 = 1 then (if isFb (sQ S 3) = true then (some (S, (sI S ((sQ S 3)) 8))) else none) else (if i1 = 2 then (some (S, (sI S (49) 0))) else (if i1 = 3 then (if isFb (sQ S 3) = true then (g_b2 (FX1_rainOf S ((sQ S 3)) ((sI S (49) 0))) (fun S4 x5 => some (S4, x5))) else none) else (if i1 = 4 then (if isFb (sQ S 3) = true then (g_b2 (FX9_allWater S (49) ((sI S ((sQ S 3)) 0))) (fun S7 x8 => some (S7, x8))) else none) else (if i1 = 5 then (some (S, (sI S (49) 1))) else (if i1 = 6 then (some (S, (sI S (49) 9))) else (if i1 = 7 then (g_b2 (FX9_signsLike S (49) ((6 : Int32))) (fun S9 x10 => some (S9, x10))) else (if i1 = 8 then (if isDb (sQ S 5) = true then (some (S, (sI S ((sQ S 5)) 0))) else none) else (if i1 = 9 then (if isWdb (sQ S 7) = true then (some (S, (sI S ((sQ S 7)) 0))) else none) else (if i1 = 10 then (some (S, (sI S (46) 0))) else (if i1 = 11 then (some (S, (sI S (0) 14))) else (if i1 = 12 then (some (S, (sI S (1) 1))) else (some (S, (-1 : Int32)))))))))))))))
theorem CX11_count {n : Nat} {S : gS} {R : gS × Int32} {i1 : Int32}  (h : FX11_count S i1 = some R) : sCi 1 mX11_count n S [.ref (0), .int (i1)] (fun S2 x2 => S2 = R.1 ∧ x2 = R.2) := by
  unfold FX11_count at h
  refine gCj_of (by decide) (Nat.le_of_ble_eq_true rfl) rfl rfl (zX11_count_0  ?_)
  refine ⟨fun c => ?_, fun c => ?_, fun c => ?_, fun c => ?_, fun c => ?_, fun c => ?_, fun c => ?_, fun c => ?_, fun c => ?_, fun c => ?_, fun c => ?_, fun c => ?_, fun c => ?_, fun c => ?_⟩
  · have h := g_in (fun z => by rw [z] at c; exact absurd c (by decide)) h; have h := g_in (fun z => by rw [z] at c; exact absurd c (by decide)) h; have h := g_in (fun z => by rw [z] at c; exact absurd c (by decide)) h; have h := g_in (fun z => by rw [z] at c; exact absurd c (by decide)) h; have h := g_in (fun z => by rw [z] at c; exact absurd c (by decide)) h; have h := g_in (fun z => by rw [z] at c; exact absurd c (by decide)) h; have h := g_in (fun z => by rw [z] at c; exact absurd c (by decide)) h; have h := g_in (fun z => by rw [z] at c; exact absurd c (by decide)) h; have h := g_in (fun z => by rw [z] at c; exact absurd c (by decide)) h; have h := g_in (fun z => by rw [z] at c; exact absurd c (by decide)) h; have h := g_in (fun z => by rw [z] at c; exact absurd c (by decide)) h; have h := g_in (fun z => by rw [z] at c; exact absurd c (by decide)) h; have h := g_in (fun z => by rw [z] at c; exact absurd c (by decide)) h
    cases h; exact ⟨rfl, rfl⟩
  · have h := g_ip c h
    obtain ⟨hq1, h⟩ := g_fs h
    refine ⟨hq1, ?_⟩
    cases h; exact ⟨rfl, rfl⟩
  · have h := g_in (fun z => absurd (c.symm.trans z) (by decide)) h; have h := g_ip c h
    obtain ⟨hq2, h⟩ := g_fs h
    refine ⟨hq2, ?_⟩
    cases h; exact ⟨rfl, rfl⟩
  · have h := g_in (fun z => absurd (c.symm.trans z) (by decide)) h; have h := g_in (fun z => absurd (c.symm.trans z) (by decide)) h; have h := g_ip c h
    cases h; exact ⟨rfl, rfl⟩
  · have h := g_in (fun z => absurd (c.symm.trans z) (by decide)) h; have h := g_in (fun z => absurd (c.symm.trans z) (by decide)) h; have h := g_in (fun z => absurd (c.symm.trans z) (by decide)) h; have h := g_ip c h
    obtain ⟨hq3, h⟩ := g_fs h
    refine ⟨hq3, ?_⟩
    obtain ⟨S4, x5, hc, h⟩ := g_b2s h
    refine ⟨0, _, (by decide), CX1_rainOf hq3 hc, ?_⟩
    rintro _ _ ⟨rfl, rfl⟩
    cases h; exact ⟨rfl, rfl⟩
  · have h := g_in (fun z => absurd (c.symm.trans z) (by decide)) h; have h := g_in (fun z => absurd (c.symm.trans z) (by decide)) h; have h := g_in (fun z => absurd (c.symm.trans z) (by decide)) h; have h := g_in (fun z => absurd (c.symm.trans z) (by decide)) h; have h := g_ip c h
    obtain ⟨hq6, h⟩ := g_fs h
    refine ⟨hq6, ?_⟩
    obtain ⟨S7, x8, hc, h⟩ := g_b2s h
    refine ⟨0, _, (by decide), CX9_allWater is_49 hc, ?_⟩
    rintro _ _ ⟨rfl, rfl⟩
    cases h; exact ⟨rfl, rfl⟩
  · have h := g_in (fun z => absurd (c.symm.trans z) (by decide)) h; have h := g_in (fun z => absurd (c.symm.trans z) (by decide)) h; have h := g_in (fun z => absurd (c.symm.trans z) (by decide)) h; have h := g_in (fun z => absurd (c.symm.trans z) (by decide)) h; have h := g_in (fun z => absurd (c.symm.trans z) (by decide)) h; have h := g_ip c h
    cases h; exact ⟨rfl, rfl⟩
  · have h := g_in (fun z => absurd (c.symm.trans z) (by decide)) h; have h := g_in (fun z => absurd (c.symm.trans z) (by decide)) h; have h := g_in (fun z => absurd (c.symm.trans z) (by decide)) h; have h := g_in (fun z => absurd (c.symm.trans z) (by decide)) h; have h := g_in (fun z => absurd (c.symm.trans z) (by decide)) h; have h := g_in (fun z => absurd (c.symm.trans z) (by decide)) h; have h := g_ip c h
    cases h; exact ⟨rfl, rfl⟩
  · have h := g_in (fun z => absurd (c.symm.trans z) (by decide)) h; have h := g_in (fun z => absurd (c.symm.trans z) (by decide)) h; have h := g_in (fun z => absurd (c.symm.trans z) (by decide)) h; have h := g_in (fun z => absurd (c.symm.trans z) (by decide)) h; have h := g_in (fun z => absurd (c.symm.trans z) (by decide)) h; have h := g_in (fun z => absurd (c.symm.trans z) (by decide)) h; have h := g_in (fun z => absurd (c.symm.trans z) (by decide)) h; have h := g_ip c h
    obtain ⟨S9, x10, hc, h⟩ := g_b2s h
    refine ⟨0, _, (by decide), CX9_signsLike is_49 hc, ?_⟩
    rintro _ _ ⟨rfl, rfl⟩
    cases h; exact ⟨rfl, rfl⟩
  · have h := g_in (fun z => absurd (c.symm.trans z) (by decide)) h; have h := g_in (fun z => absurd (c.symm.trans z) (by decide)) h; have h := g_in (fun z => absurd (c.symm.trans z) (by decide)) h; have h := g_in (fun z => absurd (c.symm.trans z) (by decide)) h; have h := g_in (fun z => absurd (c.symm.trans z) (by decide)) h; have h := g_in (fun z => absurd (c.symm.trans z) (by decide)) h; have h := g_in (fun z => absurd (c.symm.trans z) (by decide)) h; have h := g_in (fun z => absurd (c.symm.trans z) (by decide)) h; have h := g_ip c h
    obtain ⟨hq11, h⟩ := g_ds h
    refine ⟨hq11, ?_⟩
    cases h; exact ⟨rfl, rfl⟩
  · have h := g_in (fun z => absurd (c.symm.trans z) (by decide)) h; have h := g_in (fun z => absurd (c.symm.trans z) (by decide)) h; have h := g_in (fun z => absurd (c.symm.trans z) (by decide)) h; have h := g_in (fun z => absurd (c.symm.trans z) (by decide)) h; have h := g_in (fun z => absurd (c.symm.trans z) (by decide)) h; have h := g_in (fun z => absurd (c.symm.trans z) (by decide)) h; have h := g_in (fun z => absurd (c.symm.trans z) (by decide)) h; have h := g_in (fun z => absurd (c.symm.trans z) (by decide)) h; have h := g_in (fun z => absurd (c.symm.trans z) (by decide)) h; have h := g_ip c h
    obtain ⟨hq12, h⟩ := g_wds h
    refine ⟨hq12, ?_⟩
    cases h; exact ⟨rfl, rfl⟩
  · have h := g_in (fun z => absurd (c.symm.trans z) (by decide)) h; have h := g_in (fun z => absurd (c.symm.trans z) (by decide)) h; have h := g_in (fun z => absurd (c.symm.trans z) (by decide)) h; have h := g_in (fun z => absurd (c.symm.trans z) (by decide)) h; have h := g_in (fun z => absurd (c.symm.trans z) (by decide)) h; have h := g_in (fun z => absurd (c.symm.trans z) (by decide)) h; have h := g_in (fun z => absurd (c.symm.trans z) (by decide)) h; have h := g_in (fun z => absurd (c.symm.trans z) (by decide)) h; have h := g_in (fun z => absurd (c.symm.trans z) (by decide)) h; have h := g_in (fun z => absurd (c.symm.trans z) (by decide)) h; have h := g_ip c h
    cases h; exact ⟨rfl, rfl⟩
  · have h := g_in (fun z => absurd (c.symm.trans z) (by decide)) h; have h := g_in (fun z => absurd (c.symm.trans z) (by decide)) h; have h := g_in (fun z => absurd (c.symm.trans z) (by decide)) h; have h := g_in (fun z => absurd (c.symm.trans z) (by decide)) h; have h := g_in (fun z => absurd (c.symm.trans z) (by decide)) h; have h := g_in (fun z => absurd (c.symm.trans z) (by decide)) h; have h := g_in (fun z => absurd (c.symm.trans z) (by decide)) h; have h := g_in (fun z => absurd (c.symm.trans z) (by decide)) h; have h := g_in (fun z => absurd (c.symm.trans z) (by decide)) h; have h := g_in (fun z => absurd (c.symm.trans z) (by decide)) h; have h := g_in (fun z => absurd (c.symm.trans z) (by decide)) h; have h := g_ip c h
    cases h; exact ⟨rfl, rfl⟩
  · have h := g_in (fun z => absurd (c.symm.trans z) (by decide)) h; have h := g_in (fun z => absurd (c.symm.trans z) (by decide)) h; have h := g_in (fun z => absurd (c.symm.trans z) (by decide)) h; have h := g_in (fun z => absurd (c.symm.trans z) (by decide)) h; have h := g_in (fun z => absurd (c.symm.trans z) (by decide)) h; have h := g_in (fun z => absurd (c.symm.trans z) (by decide)) h; have h := g_in (fun z => absurd (c.symm.trans z) (by decide)) h; have h := g_in (fun z => absurd (c.symm.trans z) (by decide)) h; have h := g_in (fun z => absurd (c.symm.trans z) (by decide)) h; have h := g_in (fun z => absurd (c.symm.trans z) (by decide)) h; have h := g_in (fun z => absurd (c.symm.trans z) (by decide)) h; have h := g_in (fun z => absurd (c.symm.trans z) (by decide)) h; have h := g_ip c h
    cases h; exact ⟨rfl, rfl⟩

noncomputable def FX11_isMouth (S : gS) (i1 : Int32) : Option (gS × Bool) := if i1 < 0 then (some (S, false)) else (if isFb (sQ S 3) = true then (if (sI S ((sQ S 3)) 0) ≤ i1 then (some (S, false)) else (some (S, true))) else none)
theorem CX11_isMouth {n : Nat} {S : gS} {R : gS × Bool} {i1 : Int32}  (h : FX11_isMouth S i1 = some R) : sCz 0 mX11_isMouth n S [.ref (0), .int (i1)] (fun S2 x2 => S2 = R.1 ∧ x2 = R.2) := by
  unfold FX11_isMouth at h
  refine gCz_of (by decide) (Nat.le_of_ble_eq_true rfl) rfl rfl (zX11_isMouth_0  ?_)
  refine ⟨fun c => ?_, fun c => ?_⟩
  · have h := g_ip c h
    cases h; exact ⟨rfl, rfl⟩
  · have h := g_in c h
    obtain ⟨hq1, h⟩ := g_fs h
    refine ⟨hq1, ?_⟩
    refine ⟨fun c => ?_, fun c => ?_⟩
    · have h := g_ip c h
      cases h; exact ⟨rfl, rfl⟩
    · have h := g_in c h
      cases h; exact ⟨rfl, rfl⟩

noncomputable def FX11_isLetter (S : gS) (i1 : Int32) : Option (gS × Bool) := if i1 < 0 then (some (S, false)) else (if isFb (sQ S 3) = true then (if (sI S ((sQ S 3)) 8) ≤ i1 then (some (S, false)) else (some (S, true))) else none)
theorem CX11_isLetter {n : Nat} {S : gS} {R : gS × Bool} {i1 : Int32}  (h : FX11_isLetter S i1 = some R) : sCz 0 mX11_isLetter n S [.ref (0), .int (i1)] (fun S2 x2 => S2 = R.1 ∧ x2 = R.2) := by
  unfold FX11_isLetter at h
  refine gCz_of (by decide) (Nat.le_of_ble_eq_true rfl) rfl rfl (zX11_isLetter_0  ?_)
  refine ⟨fun c => ?_, fun c => ?_⟩
  · have h := g_ip c h
    cases h; exact ⟨rfl, rfl⟩
  · have h := g_in c h
    obtain ⟨hq1, h⟩ := g_fs h
    refine ⟨hq1, ?_⟩
    refine ⟨fun c => ?_, fun c => ?_⟩
    · have h := g_ip c h
      cases h; exact ⟨rfl, rfl⟩
    · have h := g_in c h
      cases h; exact ⟨rfl, rfl⟩

noncomputable def FX11_isAhead (S : gS) (i0 : Int32) : Option (gS × Bool) := if i0 < (1 : Int32) then (some (S, false)) else (if (60 : Int32) < i0 then (some (S, false)) else (some (S, true)))
theorem CX11_isAhead {n : Nat} {S : gS} {R : gS × Bool} {i0 : Int32}  (h : FX11_isAhead S i0 = some R) : sCz 0 mX11_isAhead n S [.int (i0)] (fun S2 x2 => S2 = R.1 ∧ x2 = R.2) := by
  unfold FX11_isAhead at h
  refine gCz_of (by decide) (Nat.le_of_ble_eq_true rfl) rfl rfl (zX11_isAhead_0  ?_)
  refine ⟨fun c => ?_, fun c => ?_⟩
  · have h := g_ip c h
    cases h; exact ⟨rfl, rfl⟩
  · have h := g_in c h
    refine ⟨fun c => ?_, fun c => ?_⟩
    · have h := g_ip c h
      cases h; exact ⟨rfl, rfl⟩
    · have h := g_in c h
      cases h; exact ⟨rfl, rfl⟩

noncomputable def FX11_isDigit (S : gS) (i0 : Int32) : Option (gS × Bool) := if i0 < 0 then (some (S, false)) else (if (9 : Int32) < i0 then (some (S, false)) else (some (S, true)))
theorem CX11_isDigit {n : Nat} {S : gS} {R : gS × Bool} {i0 : Int32}  (h : FX11_isDigit S i0 = some R) : sCz 0 mX11_isDigit n S [.int (i0)] (fun S2 x2 => S2 = R.1 ∧ x2 = R.2) := by
  unfold FX11_isDigit at h
  refine gCz_of (by decide) (Nat.le_of_ble_eq_true rfl) rfl rfl (zX11_isDigit_0  ?_)
  refine ⟨fun c => ?_, fun c => ?_⟩
  · have h := g_ip c h
    cases h; exact ⟨rfl, rfl⟩
  · have h := g_in c h
    refine ⟨fun c => ?_, fun c => ?_⟩
    · have h := g_ip c h
      cases h; exact ⟨rfl, rfl⟩
    · have h := g_in c h
      cases h; exact ⟨rfl, rfl⟩

noncomputable def bX11_beginAnew_42  (rec : Nat → gS → Int32 → Option (gS)) (S : gS) (i1 : Int32) : Option (gS) := if (4 : Int32) ≤ i1 then (some S) else (if g_vp (i1) 4 = true then (g_lt (uI S ((123 + 14 * (Int32.toNatClampNeg (i1)))) 0 ((g_b false))) (fun S2 => rec 42 S2 ((i1 + 1)))) else none)
noncomputable def fX11_beginAnew  : Nat → Nat → gS → Int32 → Option (gS)
  | 0 => fun _ _ _ => none
  | k + 1 => fun pc S i1 => if pc = 42 then bX11_beginAnew_42  (fX11_beginAnew  k) S i1 else none
noncomputable def FX11_beginAnew (S : gS)  : Option (gS) := if isFb (sQ S 3) = true then (g_b1 (FX9_begin S (49) ((sQ S 3))) (fun S2 => if isDb (sQ S2 5) = true then (g_lt (uI S2 ((sQ S2 5)) 0 ((0 : Int32))) (fun S4 => if isWdb (sQ S4 7) = true then (g_lt (uI S4 ((sQ S4 7)) 0 ((0 : Int32))) (fun S6 => g_lt (uI S6 (46) 0 ((0 : Int32))) (fun S7 => g_lt (uI S7 (0) 14 ((0 : Int32))) (fun S8 => fX11_beginAnew  FU 42 S8 ((0 : Int32)))))) else none)) else none)) else none
set_option maxRecDepth 100000 in
theorem lX11_beginAnew  {n : Nat} {R : gS} : ∀ k : Nat, (∀ (S : gS) (i1 : Int32) , fX11_beginAnew  k 42 S i1 = some R → gG 2 mX11_beginAnew 0 0 (g_Xv mX11_beginAnew n 0 0 (hPv (fun S2 => S2 = R))) 42 n (hH S) [some (.ref (0)), some (.int (i1))] [] 0 0) := by
  intro k
  induction k with
  | zero => exact fun _ _ h => (by cases h)
  | succ k ih =>
    have hrec_42 := ih
    · intro S i1 h
      rw [fX11_beginAnew] at h
      have h := g_ip rfl h
      unfold bX11_beginAnew_42 at h
      refine zX11_beginAnew_42  ?_
      refine ⟨fun c => ?_, fun c => ?_⟩
      · have h := g_ip c h
        cases h; exact rfl
      · have h := g_in c h
        obtain ⟨hv1, h⟩ := g_vs h
        refine ⟨hv1, ?_⟩
        intro S2 eS
        have h := g_lts eS h
        exact hrec_42 _ _  h
theorem CX11_beginAnew {n : Nat} {S : gS} {R : gS}   (h : FX11_beginAnew S  = some R) : sCv 2 mX11_beginAnew n S [.ref (0)] (fun S2 => S2 = R) := by
  unfold FX11_beginAnew at h
  refine gCv_of (by decide) (Nat.le_of_ble_eq_true rfl) rfl rfl (zX11_beginAnew_0  ?_)
  obtain ⟨hq1, h⟩ := g_fs h
  refine ⟨hq1, ?_⟩
  obtain ⟨S2, hc, h⟩ := g_b1s h
  refine ⟨1, _, (by decide), CX9_begin is_49 hq1 hc, ?_⟩
  rintro _ rfl
  obtain ⟨hq3, h⟩ := g_ds h
  refine ⟨hq3, ?_⟩
  intro S4 eS
  have h := g_lts eS h
  obtain ⟨hq5, h⟩ := g_wds h
  refine ⟨hq5, ?_⟩
  intro S6 eS
  have h := g_lts eS h
  intro S7 eS
  have h := g_lts eS h
  intro S8 eS
  have h := g_lts eS h
  exact (lX11_beginAnew FU) _ _  h

noncomputable def FX11_keepPast (S : gS)  : Option (gS) := if g_vp ((sI S (0) 13)) 16 = true then (g_b1 (FX9_copyFrom S ((58 + 4 * (Int32.toNatClampNeg ((sI S (0) 13))))) (49)) (fun S2 => g_lt (uI S2 (0) 13 ((((sI S2 (0) 13) + (1 : Int32)) &&& (15 : Int32)))) (fun S3 => g_lt (uI S3 (0) 14 ((if (16 : Int32) < ((sI S3 (0) 14) + (1 : Int32)) then (16 : Int32) else ((sI S3 (0) 14) + (1 : Int32))))) (fun S4 => some S4)))) else none
theorem CX11_keepPast {n : Nat} {S : gS} {R : gS}   (h : FX11_keepPast S  = some R) : sCv 2 mX11_keepPast n S [.ref (0)] (fun S2 => S2 = R) := by
  unfold FX11_keepPast at h
  refine gCv_of (by decide) (Nat.le_of_ble_eq_true rfl) rfl rfl (zX11_keepPast_0 (by decide) ?_)
  obtain ⟨hv1, h⟩ := g_vs h
  refine ⟨hv1, ?_⟩
  obtain ⟨S2, hc, h⟩ := g_b1s h
  refine ⟨1, _, (by decide), CX9_copyFrom (is_past hv1) is_49 hc, ?_⟩
  rintro _ rfl
  intro S3 eS
  have h := g_lts eS h
  intro S4 eS
  have h := g_lts eS h
  cases h; exact rfl

noncomputable def FX11_passTrialMinute (S : gS)  : Option (gS × Int32) := if isFb (sQ S 3) = true then (if isFb (sQ S 3) = true then (g_b2 (FX1_rainOf S ((sQ S 3)) ((sI S (53) 0))) (fun S3 x4 => g_b2 (FX9_passMinute S3 (53) ((sQ S 3)) (x4)) (fun S5 x6 => some (S5, x6)))) else none) else none
theorem CX11_passTrialMinute {n : Nat} {S : gS} {R : gS × Int32}   (h : FX11_passTrialMinute S  = some R) : sCi 4 mX11_passTrialMinute n S [.ref (0)] (fun S2 x2 => S2 = R.1 ∧ x2 = R.2) := by
  unfold FX11_passTrialMinute at h
  refine gCj_of (by decide) (Nat.le_of_ble_eq_true rfl) rfl rfl (zX11_passTrialMinute_0  ?_)
  obtain ⟨hq1, h⟩ := g_fs h
  refine ⟨hq1, ?_⟩
  obtain ⟨hq2, h⟩ := g_fs h
  refine ⟨hq2, ?_⟩
  obtain ⟨S3, x4, hc, h⟩ := g_b2s h
  refine ⟨0, _, (by decide), CX1_rainOf hq2 hc, ?_⟩
  rintro _ _ ⟨rfl, rfl⟩
  obtain ⟨S5, x6, hc, h⟩ := g_b2s h
  refine ⟨3, _, (by decide), CX9_passMinute is_53 hq1 hc, ?_⟩
  rintro _ _ ⟨rfl, rfl⟩
  cases h; exact ⟨rfl, rfl⟩

noncomputable def FX11_doLine (S : gS) (i1 : Int32) : Option (gS × Int32) := if isDb (sQ S 5) = true then (if g_vp (i1) 40 = true then (if isDb (sQ S 5) = true then (if (sR S (((sQ S 5) + 1)) (Int32.toNatClampNeg (i1))) = 0 then (g_b2 (FX11_passTrialMinute S ) (fun S6 x7 => some (S6, x7))) else (if (sR S (((sQ S 5) + 1)) (Int32.toNatClampNeg (i1))) = 1 then (if isDb (sQ S 5) = true then (g_b1 (FX9_addWater S (53) ((sR S (((sQ S 5) + 2)) (Int32.toNatClampNeg (i1)))) ((sR S (((sQ S 5) + 3)) (Int32.toNatClampNeg (i1))))) (fun S9 => some (S9, (-1 : Int32)))) else none) else (if (sR S (((sQ S 5) + 1)) (Int32.toNatClampNeg (i1))) = 2 then (g_b2 (FX9_stopMouth S (53) ((sR S (((sQ S 5) + 2)) (Int32.toNatClampNeg (i1))))) (fun S10 b11 => if b11 = true then (some (S10, (-1 : Int32))) else (some (S10, (-2 : Int32))))) else (g_b2 (FX9_clearMouth S (53) ((sR S (((sQ S 5) + 2)) (Int32.toNatClampNeg (i1))))) (fun S4 b5 => if b5 = true then (some (S4, (-1 : Int32))) else (some (S4, (-2 : Int32)))))))) else none) else none) else none
theorem CX11_doLine {n : Nat} {S : gS} {R : gS × Int32} {i1 : Int32}  (h : FX11_doLine S i1 = some R) : sCi 5 mX11_doLine n S [.ref (0), .int (i1)] (fun S2 x2 => S2 = R.1 ∧ x2 = R.2) := by
  unfold FX11_doLine at h
  refine gCj_of (by decide) (Nat.le_of_ble_eq_true rfl) rfl rfl (zX11_doLine_0  ?_)
  obtain ⟨hq1, h⟩ := g_ds h
  refine ⟨hq1, ?_⟩
  obtain ⟨hv2, h⟩ := g_vs h
  refine ⟨hv2, ?_⟩
  obtain ⟨hq3, h⟩ := g_ds h
  refine ⟨hq3, ?_⟩
  refine ⟨fun c => ?_, fun c => ?_, fun c => ?_, fun c => ?_⟩
  · have h := g_in (fun z => by rw [z] at c; exact absurd c (by decide)) h; have h := g_in (fun z => by rw [z] at c; exact absurd c (by decide)) h; have h := g_in (fun z => by rw [z] at c; exact absurd c (by decide)) h
    obtain ⟨S4, b5, hc, h⟩ := g_b2s h
    refine ⟨1, _, (by decide), CX9_clearMouth is_53 hc, ?_⟩
    rintro _ _ ⟨rfl, rfl⟩
    refine ⟨fun c => ?_, fun c => ?_⟩
    · have h := g_bf c h
      cases h; exact ⟨rfl, rfl⟩
    · have h := g_bt c h
      cases h; exact ⟨rfl, rfl⟩
  · have h := g_ip c h
    obtain ⟨S6, x7, hc, h⟩ := g_b2s h
    refine ⟨4, _, (by decide), CX11_passTrialMinute  hc, ?_⟩
    rintro _ _ ⟨rfl, rfl⟩
    cases h; exact ⟨rfl, rfl⟩
  · have h := g_in (fun z => absurd (c.symm.trans z) (by decide)) h; have h := g_ip c h
    obtain ⟨hq8, h⟩ := g_ds h
    refine ⟨hq8, ?_⟩
    obtain ⟨S9, hc, h⟩ := g_b1s h
    refine ⟨1, _, (by decide), CX9_addWater is_53 hc, ?_⟩
    rintro _ rfl
    cases h; exact ⟨rfl, rfl⟩
  · have h := g_in (fun z => absurd (c.symm.trans z) (by decide)) h; have h := g_in (fun z => absurd (c.symm.trans z) (by decide)) h; have h := g_ip c h
    obtain ⟨S10, b11, hc, h⟩ := g_b2s h
    refine ⟨1, _, (by decide), CX9_stopMouth is_53 hc, ?_⟩
    rintro _ _ ⟨rfl, rfl⟩
    refine ⟨fun c => ?_, fun c => ?_⟩
    · have h := g_bf c h
      cases h; exact ⟨rfl, rfl⟩
    · have h := g_bt c h
      cases h; exact ⟨rfl, rfl⟩

noncomputable def FX11_isReadWith (S : gS) (i1 : Int32) (i2 : Int32) (i3 : Int32) : Option (gS × Bool) := g_b1 (FX9_copyFrom S (53) (49)) (fun S1 => if i2 = (-1 : Int32) then (g_b2 (FX11_passTrialMinute S1 ) (fun S2 x3 => if x3 = i1 then (some (S2, true)) else (some (S2, false)))) else (g_b1 (FX9_addWater S1 (53) (i2) (i3)) (fun S4 => g_b2 (FX11_passTrialMinute S4 ) (fun S5 x6 => if x6 = i1 then (some (S5, true)) else (some (S5, false))))))
theorem CX11_isReadWith {n : Nat} {S : gS} {R : gS × Bool} {i1 : Int32} {i2 : Int32} {i3 : Int32}  (h : FX11_isReadWith S i1 i2 i3 = some R) : sCz 5 mX11_isReadWith n S [.ref (0), .int (i1), .int (i2), .int (i3)] (fun S2 x2 => S2 = R.1 ∧ x2 = R.2) := by
  unfold FX11_isReadWith at h
  refine gCz_of (by decide) (Nat.le_of_ble_eq_true rfl) rfl rfl (zX11_isReadWith_0  ?_)
  obtain ⟨S1, hc, h⟩ := g_b1s h
  refine ⟨1, _, (by decide), CX9_copyFrom is_53 is_49 hc, ?_⟩
  rintro _ rfl
  refine ⟨fun c => ?_, fun c => ?_⟩
  · have h := g_ip c h
    obtain ⟨S2, x3, hc, h⟩ := g_b2s h
    refine ⟨4, _, (by decide), CX11_passTrialMinute  hc, ?_⟩
    rintro _ _ ⟨rfl, rfl⟩
    refine ⟨fun c => ?_, fun c => ?_⟩
    · have h := g_in c h
      cases h; exact ⟨rfl, rfl⟩
    · have h := g_ip c h
      cases h; exact ⟨rfl, rfl⟩
  · have h := g_in c h
    obtain ⟨S4, hc, h⟩ := g_b1s h
    refine ⟨1, _, (by decide), CX9_addWater is_53 hc, ?_⟩
    rintro _ rfl
    obtain ⟨S5, x6, hc, h⟩ := g_b2s h
    refine ⟨4, _, (by decide), CX11_passTrialMinute  hc, ?_⟩
    rintro _ _ ⟨rfl, rfl⟩
    refine ⟨fun c => ?_, fun c => ?_⟩
    · have h := g_in c h
      cases h; exact ⟨rfl, rfl⟩
    · have h := g_ip c h
      cases h; exact ⟨rfl, rfl⟩

noncomputable def FX11_isReadTurned (S : gS) (i1 : Int32) (i2 : Int32) : Option (gS × Bool) := g_b1 (FX9_copyFrom S (53) (49)) (fun S1 => g_lt (uI S1 (53) 1 (((sI S1 (53) 1) ^^^ i2))) (fun S2 => g_b2 (FX11_passTrialMinute S2 ) (fun S3 x4 => if x4 = i1 then (some (S3, true)) else (some (S3, false)))))
theorem CX11_isReadTurned {n : Nat} {S : gS} {R : gS × Bool} {i1 : Int32} {i2 : Int32}  (h : FX11_isReadTurned S i1 i2 = some R) : sCz 5 mX11_isReadTurned n S [.ref (0), .int (i1), .int (i2)] (fun S2 x2 => S2 = R.1 ∧ x2 = R.2) := by
  unfold FX11_isReadTurned at h
  refine gCz_of (by decide) (Nat.le_of_ble_eq_true rfl) rfl rfl (zX11_isReadTurned_0  ?_)
  obtain ⟨S1, hc, h⟩ := g_b1s h
  refine ⟨1, _, (by decide), CX9_copyFrom is_53 is_49 hc, ?_⟩
  rintro _ rfl
  intro S2 eS
  have h := g_lts eS h
  obtain ⟨S3, x4, hc, h⟩ := g_b2s h
  refine ⟨4, _, (by decide), CX11_passTrialMinute  hc, ?_⟩
  rintro _ _ ⟨rfl, rfl⟩
  refine ⟨fun c => ?_, fun c => ?_⟩
  · have h := g_in c h
    cases h; exact ⟨rfl, rfl⟩
  · have h := g_ip c h
    cases h; exact ⟨rfl, rfl⟩

noncomputable def FX11_soundingIn (S : gS) (i1 : Int32) : Option (gS × Int32) := g_b1 (FX9_copyFrom S (53) (49)) (fun S1 => if isFb (sQ S1 3) = true then (g_b2 (FX9_passMinute S1 (53) ((sQ S1 3)) (i1)) (fun S3 x4 => some (S3, (sI S3 (53) 4)))) else none)
theorem CX11_soundingIn {n : Nat} {S : gS} {R : gS × Int32} {i1 : Int32}  (h : FX11_soundingIn S i1 = some R) : sCi 4 mX11_soundingIn n S [.ref (0), .int (i1)] (fun S2 x2 => S2 = R.1 ∧ x2 = R.2) := by
  unfold FX11_soundingIn at h
  refine gCj_of (by decide) (Nat.le_of_ble_eq_true rfl) rfl rfl (zX11_soundingIn_0  ?_)
  obtain ⟨S1, hc, h⟩ := g_b1s h
  refine ⟨1, _, (by decide), CX9_copyFrom is_53 is_49 hc, ?_⟩
  rintro _ rfl
  obtain ⟨hq2, h⟩ := g_fs h
  refine ⟨hq2, ?_⟩
  obtain ⟨S3, x4, hc, h⟩ := g_b2s h
  refine ⟨3, _, (by decide), CX9_passMinute is_53 hq2 hc, ?_⟩
  rintro _ _ ⟨rfl, rfl⟩
  cases h; exact ⟨rfl, rfl⟩

noncomputable def bX11_isReadInOddRain_14  (rec : Nat → gS → Int32 → Int32 → Int32 → Int32 → Option (gS × Bool)) (S : gS) (i1 : Int32) (i2 : Int32) (i3 : Int32) (i4 : Int32) : Option (gS × Bool) := if i3 ≤ i4 then (if (sI S (53) 5) = i1 then (some (S, true)) else (some (S, false))) else (if isFb (sQ S 3) = true then (if ((i2 >>> (i4 &&& 31)) &&& (1 : Int32)) = 0 then (g_b2 (FX9_passMinute S (53) ((sQ S 3)) ((0 : Int32))) (fun S2 x3 => rec 14 S2 (i1) (i2) (i3) ((i4 + 1)))) else (g_b2 (FX9_passMinute S (53) ((sQ S 3)) ((9 : Int32))) (fun S4 x5 => rec 14 S4 (i1) (i2) (i3) ((i4 + 1))))) else none)
noncomputable def fX11_isReadInOddRain  : Nat → Nat → gS → Int32 → Int32 → Int32 → Int32 → Option (gS × Bool)
  | 0 => fun _ _ _ _ _ _ => none
  | k + 1 => fun pc S i1 i2 i3 i4 => if pc = 14 then bX11_isReadInOddRain_14  (fX11_isReadInOddRain  k) S i1 i2 i3 i4 else none
noncomputable def FX11_isReadInOddRain (S : gS) (i1 : Int32) (i2 : Int32) (i3 : Int32) : Option (gS × Bool) := g_b1 (FX9_copyFrom S (53) (49)) (fun S1 => fX11_isReadInOddRain  FU 14 S1 (i1) (i2) (i3) ((0 : Int32)))
set_option maxRecDepth 100000 in
theorem lX11_isReadInOddRain  {n : Nat} {R : gS × Bool} : ∀ k : Nat, (∀ (S : gS) (i1 : Int32) (i2 : Int32) (i3 : Int32) (i4 : Int32) , fX11_isReadInOddRain  k 14 S i1 i2 i3 i4 = some R → gG 4 mX11_isReadInOddRain 0 0 (g_Xz mX11_isReadInOddRain n 0 0 (hPz (fun S2 x2 => S2 = R.1 ∧ x2 = R.2))) 14 n (hH S) [some (.ref (0)), some (.int (i1)), some (.int (i2)), some (.int (i3)), some (.int (i4))] [] 0 0) := by
  intro k
  induction k with
  | zero => exact fun _ _ _ _ _ h => (by cases h)
  | succ k ih =>
    have hrec_14 := ih
    · intro S i1 i2 i3 i4 h
      rw [fX11_isReadInOddRain] at h
      have h := g_ip rfl h
      unfold bX11_isReadInOddRain_14 at h
      refine zX11_isReadInOddRain_14  ?_
      refine ⟨fun c => ?_, fun c => ?_⟩
      · have h := g_ip c h
        refine ⟨fun c => ?_, fun c => ?_⟩
        · have h := g_in c h
          cases h; exact ⟨rfl, rfl⟩
        · have h := g_ip c h
          cases h; exact ⟨rfl, rfl⟩
      · have h := g_in c h
        obtain ⟨hq1, h⟩ := g_fs h
        refine ⟨hq1, ?_⟩
        refine ⟨fun c => ?_, fun c => ?_⟩
        · have h := g_ip c h
          obtain ⟨S2, x3, hc, h⟩ := g_b2s h
          refine ⟨3, _, (by decide), CX9_passMinute is_53 hq1 hc, ?_⟩
          rintro _ _ ⟨rfl, rfl⟩
          exact hrec_14 _ _ _ _ _  h
        · have h := g_in c h
          obtain ⟨S4, x5, hc, h⟩ := g_b2s h
          refine ⟨3, _, (by decide), CX9_passMinute is_53 hq1 hc, ?_⟩
          rintro _ _ ⟨rfl, rfl⟩
          exact hrec_14 _ _ _ _ _  h
theorem CX11_isReadInOddRain {n : Nat} {S : gS} {R : gS × Bool} {i1 : Int32} {i2 : Int32} {i3 : Int32}  (h : FX11_isReadInOddRain S i1 i2 i3 = some R) : sCz 4 mX11_isReadInOddRain n S [.ref (0), .int (i1), .int (i2), .int (i3)] (fun S2 x2 => S2 = R.1 ∧ x2 = R.2) := by
  unfold FX11_isReadInOddRain at h
  refine gCz_of (by decide) (Nat.le_of_ble_eq_true rfl) rfl rfl (zX11_isReadInOddRain_0  ?_)
  obtain ⟨S1, hc, h⟩ := g_b1s h
  refine ⟨1, _, (by decide), CX9_copyFrom is_53 is_49 hc, ?_⟩
  rintro _ rfl
  exact (lX11_isReadInOddRain FU) _ _ _ _ _  h

noncomputable def bX11_weightOf_5  (rec : Nat → gS → Int32 → Int32 → Int32 → Int32 → Int32 → Option (gS × Int32)) (S : gS) (i0 : Int32) (i1 : Int32) (i2 : Int32) (i3 : Int32) (i4 : Int32) : Option (gS × Int32) := if i1 ≤ i4 then (some (S, i3)) else (if ((i0 >>> (i4 &&& 31)) &&& (1 : Int32)) = 0 then (rec 5 S (i0) (i1) (i2) ((i3 * ((10 : Int32) - i2))) ((i4 + 1))) else (rec 5 S (i0) (i1) (i2) ((i3 * i2)) ((i4 + 1))))
noncomputable def fX11_weightOf  : Nat → Nat → gS → Int32 → Int32 → Int32 → Int32 → Int32 → Option (gS × Int32)
  | 0 => fun _ _ _ _ _ _ _ => none
  | k + 1 => fun pc S i0 i1 i2 i3 i4 => if pc = 5 then bX11_weightOf_5  (fX11_weightOf  k) S i0 i1 i2 i3 i4 else none
noncomputable def FX11_weightOf (S : gS) (i0 : Int32) (i1 : Int32) (i2 : Int32) : Option (gS × Int32) := fX11_weightOf  FU 5 S (i0) (i1) (i2) ((1 : Int32)) ((0 : Int32))
set_option maxRecDepth 100000 in
theorem lX11_weightOf  {n : Nat} {R : gS × Int32} : ∀ k : Nat, (∀ (S : gS) (i0 : Int32) (i1 : Int32) (i2 : Int32) (i3 : Int32) (i4 : Int32) , fX11_weightOf  k 5 S i0 i1 i2 i3 i4 = some R → gG 0 mX11_weightOf 0 0 (g_Xj mX11_weightOf n 0 0 (hPi (fun S2 x2 => S2 = R.1 ∧ x2 = R.2))) 5 n (hH S) [some (.int (i0)), some (.int (i1)), some (.int (i2)), some (.int (i3)), some (.int (i4))] [] 0 0) := by
  intro k
  induction k with
  | zero => exact fun _ _ _ _ _ _ h => (by cases h)
  | succ k ih =>
    have hrec_5 := ih
    · intro S i0 i1 i2 i3 i4 h
      rw [fX11_weightOf] at h
      have h := g_ip rfl h
      unfold bX11_weightOf_5 at h
      refine zX11_weightOf_5  ?_
      refine ⟨fun c => ?_, fun c => ?_⟩
      · have h := g_ip c h
        cases h; exact ⟨rfl, rfl⟩
      · have h := g_in c h
        refine ⟨fun c => ?_, fun c => ?_⟩
        · have h := g_ip c h
          exact hrec_5 _ _ _ _ _ _  h
        · have h := g_in c h
          exact hrec_5 _ _ _ _ _ _  h
theorem CX11_weightOf {n : Nat} {S : gS} {R : gS × Int32} {i0 : Int32} {i1 : Int32} {i2 : Int32}  (h : FX11_weightOf S i0 i1 i2 = some R) : sCi 0 mX11_weightOf n S [.int (i0), .int (i1), .int (i2)] (fun S2 x2 => S2 = R.1 ∧ x2 = R.2) := by
  unfold FX11_weightOf at h
  refine gCj_of (by decide) (Nat.le_of_ble_eq_true rfl) rfl rfl (zX11_weightOf_0  ?_)
  exact (lX11_weightOf FU) _ _ _ _ _ _  h

noncomputable def FX11_gain (S : gS) (i0 : Int32) (i1 : Int32) (i2 : Int32) (i3 : Int32) (i4 : Int32) : Option (gS × Int32) := if i3 = (1 : Int32) then (if i4 = (1 : Int32) then (some (S, (-i0))) else (some (S, i1))) else (if i4 = (1 : Int32) then (some (S, i2)) else (some (S, (0 : Int32))))
theorem CX11_gain {n : Nat} {S : gS} {R : gS × Int32} {i0 : Int32} {i1 : Int32} {i2 : Int32} {i3 : Int32} {i4 : Int32}  (h : FX11_gain S i0 i1 i2 i3 i4 = some R) : sCi 0 mX11_gain n S [.int (i0), .int (i1), .int (i2), .int (i3), .int (i4)] (fun S2 x2 => S2 = R.1 ∧ x2 = R.2) := by
  unfold FX11_gain at h
  refine gCj_of (by decide) (Nat.le_of_ble_eq_true rfl) rfl rfl (zX11_gain_0  ?_)
  refine ⟨fun c => ?_, fun c => ?_⟩
  · have h := g_in c h
    refine ⟨fun c => ?_, fun c => ?_⟩
    · have h := g_in c h
      cases h; exact ⟨rfl, rfl⟩
    · have h := g_ip c h
      cases h; exact ⟨rfl, rfl⟩
  · have h := g_ip c h
    refine ⟨fun c => ?_, fun c => ?_⟩
    · have h := g_in c h
      cases h; exact ⟨rfl, rfl⟩
    · have h := g_ip c h
      cases h; exact ⟨rfl, rfl⟩

noncomputable def FX11_draw (S : gS) (i1 : Int32) : Option (gS × Int32) := g_lt (uJ S (0) 17 (((((sJ S (0) 17) * (1103515245 : Int64)) + (12345 : Int64)) - (((sJ S (0) 17) * (1103515245 : Int64)) + (12345 : Int64)) / (2147483648 : Int64) * (2147483648 : Int64)))) (fun S1 => if i1 ≤ 0 then (some (S1, (0 : Int32))) else (if i1 = 0 then none else (some (S1, ((Int64.toInt32 (((sJ S1 (0) 17) / (65536 : Int64)))) - (Int64.toInt32 (((sJ S1 (0) 17) / (65536 : Int64)))) / i1 * i1)))))
theorem CX11_draw {n : Nat} {S : gS} {R : gS × Int32} {i1 : Int32}  (h : FX11_draw S i1 = some R) : sCi 0 mX11_draw n S [.ref (0), .int (i1)] (fun S2 x2 => S2 = R.1 ∧ x2 = R.2) := by
  unfold FX11_draw at h
  refine gCj_of (by decide) (Nat.le_of_ble_eq_true rfl) rfl rfl (zX11_draw_0  ?_)
  intro S1 eS
  have h := g_lts eS h
  refine ⟨fun c => ?_, fun c => ?_⟩
  · have h := g_ip c h
    cases h; exact ⟨rfl, rfl⟩
  · have h := g_in c h
    obtain ⟨hz, h⟩ := g_nn h
    refine ⟨hz, ?_⟩
    cases h; exact ⟨rfl, rfl⟩

noncomputable def bX11_emptyRow_2  (rec : Nat → gS → Int32 → Option (gS)) (S : gS) (i1 : Int32) : Option (gS) := if (7 : Int32) ≤ i1 then (some S) else (if g_vp (i1) 7 = true then (g_lt (uR S (179) (Int32.toNatClampNeg (i1)) ((0 : Int32))) (fun S2 => rec 2 S2 ((i1 + 1)))) else none)
noncomputable def fX11_emptyRow  : Nat → Nat → gS → Int32 → Option (gS)
  | 0 => fun _ _ _ => none
  | k + 1 => fun pc S i1 => if pc = 2 then bX11_emptyRow_2  (fX11_emptyRow  k) S i1 else none
noncomputable def FX11_emptyRow (S : gS)  : Option (gS) := fX11_emptyRow  FU 2 S ((0 : Int32))
set_option maxRecDepth 100000 in
theorem lX11_emptyRow  {n : Nat} {R : gS} : ∀ k : Nat, (∀ (S : gS) (i1 : Int32) , fX11_emptyRow  k 2 S i1 = some R → gG 0 mX11_emptyRow 0 0 (g_Xv mX11_emptyRow n 0 0 (hPv (fun S2 => S2 = R))) 2 n (hH S) [some (.ref (0)), some (.int (i1))] [] 0 0) := by
  intro k
  induction k with
  | zero => exact fun _ _ h => (by cases h)
  | succ k ih =>
    have hrec_2 := ih
    · intro S i1 h
      rw [fX11_emptyRow] at h
      have h := g_ip rfl h
      unfold bX11_emptyRow_2 at h
      refine zX11_emptyRow_2  ?_
      refine ⟨fun c => ?_, fun c => ?_⟩
      · have h := g_ip c h
        cases h; exact rfl
      · have h := g_in c h
        obtain ⟨hv1, h⟩ := g_vs h
        refine ⟨hv1, ?_⟩
        intro S2 eS
        have h := g_lts eS h
        exact hrec_2 _ _  h
theorem CX11_emptyRow {n : Nat} {S : gS} {R : gS}   (h : FX11_emptyRow S  = some R) : sCv 0 mX11_emptyRow n S [.ref (0)] (fun S2 => S2 = R) := by
  unfold FX11_emptyRow at h
  refine gCv_of (by decide) (Nat.le_of_ble_eq_true rfl) rfl rfl (zX11_emptyRow_0  ?_)
  exact (lX11_emptyRow FU) _ _  h

noncomputable def bX11_addBitsToRow_2  (rec : Nat → gS → Int32 → Int32 → Option (gS)) (S : gS) (i1 : Int32) (i2 : Int32) : Option (gS) := if (7 : Int32) ≤ i2 then (some S) else (if g_vp (i2) 7 = true then (g_lt (uR S (179) (Int32.toNatClampNeg (i2)) (((sR S (179) (Int32.toNatClampNeg (i2))) + ((i1 >>> (i2 &&& 31)) &&& (1 : Int32))))) (fun S2 => rec 2 S2 (i1) ((i2 + 1)))) else none)
noncomputable def fX11_addBitsToRow  : Nat → Nat → gS → Int32 → Int32 → Option (gS)
  | 0 => fun _ _ _ _ => none
  | k + 1 => fun pc S i1 i2 => if pc = 2 then bX11_addBitsToRow_2  (fX11_addBitsToRow  k) S i1 i2 else none
noncomputable def FX11_addBitsToRow (S : gS) (i1 : Int32) : Option (gS) := fX11_addBitsToRow  FU 2 S (i1) ((0 : Int32))
set_option maxRecDepth 100000 in
theorem lX11_addBitsToRow  {n : Nat} {R : gS} : ∀ k : Nat, (∀ (S : gS) (i1 : Int32) (i2 : Int32) , fX11_addBitsToRow  k 2 S i1 i2 = some R → gG 0 mX11_addBitsToRow 0 0 (g_Xv mX11_addBitsToRow n 0 0 (hPv (fun S2 => S2 = R))) 2 n (hH S) [some (.ref (0)), some (.int (i1)), some (.int (i2))] [] 0 0) := by
  intro k
  induction k with
  | zero => exact fun _ _ _ h => (by cases h)
  | succ k ih =>
    have hrec_2 := ih
    · intro S i1 i2 h
      rw [fX11_addBitsToRow] at h
      have h := g_ip rfl h
      unfold bX11_addBitsToRow_2 at h
      refine zX11_addBitsToRow_2  ?_
      refine ⟨fun c => ?_, fun c => ?_⟩
      · have h := g_ip c h
        cases h; exact rfl
      · have h := g_in c h
        obtain ⟨hv1, h⟩ := g_vs h
        refine ⟨hv1, ?_⟩
        intro S2 eS
        have h := g_lts eS h
        exact hrec_2 _ _ _  h
theorem CX11_addBitsToRow {n : Nat} {S : gS} {R : gS} {i1 : Int32}  (h : FX11_addBitsToRow S i1 = some R) : sCv 0 mX11_addBitsToRow n S [.ref (0), .int (i1)] (fun S2 => S2 = R) := by
  unfold FX11_addBitsToRow at h
  refine gCv_of (by decide) (Nat.le_of_ble_eq_true rfl) rfl rfl (zX11_addBitsToRow_0  ?_)
  exact (lX11_addBitsToRow FU) _ _ _  h

noncomputable def bX11_greatestOfRow_4  (rec : Nat → gS → Int32 → Int32 → Int32 → Option (gS × Int32)) (S : gS) (i1 : Int32) (i2 : Int32) (i3 : Int32) : Option (gS × Int32) := if i1 ≤ i3 then (some (S, i2)) else (if (7 : Int32) ≤ i3 then (some (S, i2)) else (if i2 = (-1 : Int32) then (rec 4 S (i1) (i3) ((i3 + 1))) else (if g_vp (i3) 7 = true then (if g_vp (i2) 7 = true then (if (sR S (179) (Int32.toNatClampNeg (i3))) ≤ (sR S (179) (Int32.toNatClampNeg (i2))) then (rec 4 S (i1) (i2) ((i3 + 1))) else (rec 4 S (i1) (i3) ((i3 + 1)))) else none) else none)))
noncomputable def fX11_greatestOfRow  : Nat → Nat → gS → Int32 → Int32 → Int32 → Option (gS × Int32)
  | 0 => fun _ _ _ _ _ => none
  | k + 1 => fun pc S i1 i2 i3 => if pc = 4 then bX11_greatestOfRow_4  (fX11_greatestOfRow  k) S i1 i2 i3 else none
noncomputable def FX11_greatestOfRow (S : gS) (i1 : Int32) : Option (gS × Int32) := fX11_greatestOfRow  FU 4 S (i1) ((-1 : Int32)) ((0 : Int32))
set_option maxRecDepth 100000 in
theorem lX11_greatestOfRow  {n : Nat} {R : gS × Int32} : ∀ k : Nat, (∀ (S : gS) (i1 : Int32) (i2 : Int32) (i3 : Int32) , fX11_greatestOfRow  k 4 S i1 i2 i3 = some R → gG 0 mX11_greatestOfRow 0 0 (g_Xj mX11_greatestOfRow n 0 0 (hPi (fun S2 x2 => S2 = R.1 ∧ x2 = R.2))) 4 n (hH S) [some (.ref (0)), some (.int (i1)), some (.int (i2)), some (.int (i3))] [] 0 0) := by
  intro k
  induction k with
  | zero => exact fun _ _ _ _ h => (by cases h)
  | succ k ih =>
    have hrec_4 := ih
    · intro S i1 i2 i3 h
      rw [fX11_greatestOfRow] at h
      have h := g_ip rfl h
      unfold bX11_greatestOfRow_4 at h
      refine zX11_greatestOfRow_4  ?_
      refine ⟨fun c => ?_, fun c => ?_⟩
      · have h := g_ip c h
        cases h; exact ⟨rfl, rfl⟩
      · have h := g_in c h
        refine ⟨fun c => ?_, fun c => ?_⟩
        · have h := g_ip c h
          cases h; exact ⟨rfl, rfl⟩
        · have h := g_in c h
          refine ⟨fun c => ?_, fun c => ?_⟩
          · have h := g_ip c h
            exact hrec_4 _ _ _ _  h
          · have h := g_in c h
            obtain ⟨hv1, h⟩ := g_vs h
            refine ⟨hv1, ?_⟩
            obtain ⟨hv2, h⟩ := g_vs h
            refine ⟨hv2, ?_⟩
            refine ⟨fun c => ?_, fun c => ?_⟩
            · have h := g_ip c h
              exact hrec_4 _ _ _ _  h
            · have h := g_in c h
              exact hrec_4 _ _ _ _  h
theorem CX11_greatestOfRow {n : Nat} {S : gS} {R : gS × Int32} {i1 : Int32}  (h : FX11_greatestOfRow S i1 = some R) : sCi 0 mX11_greatestOfRow n S [.ref (0), .int (i1)] (fun S2 x2 => S2 = R.1 ∧ x2 = R.2) := by
  unfold FX11_greatestOfRow at h
  refine gCj_of (by decide) (Nat.le_of_ble_eq_true rfl) rfl rfl (zX11_greatestOfRow_0  ?_)
  exact (lX11_greatestOfRow FU) _ _ _ _  h

noncomputable def FX11_mouth (S : gS) (i1 : Int32) (i2 : Int32) : Option (gS × Int32) := g_b2 (FX11_isMouth S (i1)) (fun S1 b2 => if b2 = true then (if i2 = 0 then (if isFb (sQ S1 3) = true then (if g_vp (i1) 7 = true then (some (S1, (sR S1 (((sQ S1 3) + 2)) (Int32.toNatClampNeg (i1))))) else none) else none) else (if i2 = 1 then (if isFb (sQ S1 3) = true then (if g_vp (i1) 7 = true then (some (S1, (sR S1 (((sQ S1 3) + 3)) (Int32.toNatClampNeg (i1))))) else none) else none) else (if i2 = 2 then (if isFb (sQ S1 3) = true then (if g_vp (i1) 7 = true then (some (S1, (sR S1 (((sQ S1 3) + 4)) (Int32.toNatClampNeg (i1))))) else none) else none) else (if i2 = 3 then (if isFb (sQ S1 3) = true then (if g_vp (i1) 7 = true then (some (S1, (sR S1 (((sQ S1 3) + 5)) (Int32.toNatClampNeg (i1))))) else none) else none) else (if i2 = 4 then (if isFb (sQ S1 3) = true then (if g_vp (i1) 7 = true then (some (S1, (sR S1 (((sQ S1 3) + 6)) (Int32.toNatClampNeg (i1))))) else none) else none) else (if i2 = 5 then (if g_vp (i1) 7 = true then (some (S1, (sR S1 ((49 + 1)) (Int32.toNatClampNeg (i1))))) else none) else (if i2 = 6 then (g_b2 (FX9_isStopped S1 (49) (i1)) (fun S14 b15 => if b15 = true then (some (S14, (1 : Int32))) else (some (S14, (0 : Int32))))) else (if i2 = 7 then (if g_vp (i1) 7 = true then (some (S1, (sR S1 ((49 + 2)) (Int32.toNatClampNeg (i1))))) else none) else (some (S1, (-2 : Int32))))))))))) else (some (S1, (-2 : Int32))))
theorem CX11_mouth {n : Nat} {S : gS} {R : gS × Int32} {i1 : Int32} {i2 : Int32}  (h : FX11_mouth S i1 i2 = some R) : sCi 1 mX11_mouth n S [.ref (0), .int (i1), .int (i2)] (fun S2 x2 => S2 = R.1 ∧ x2 = R.2) := by
  unfold FX11_mouth at h
  refine gCj_of (by decide) (Nat.le_of_ble_eq_true rfl) rfl rfl (zX11_mouth_0  ?_)
  obtain ⟨S1, b2, hc, h⟩ := g_b2s h
  refine ⟨0, _, (by decide), CX11_isMouth  hc, ?_⟩
  rintro _ _ ⟨rfl, rfl⟩
  refine ⟨fun c => ?_, fun c => ?_⟩
  · have h := g_bt c h
    refine ⟨fun c => ?_, fun c => ?_, fun c => ?_, fun c => ?_, fun c => ?_, fun c => ?_, fun c => ?_, fun c => ?_, fun c => ?_⟩
    · have h := g_in (fun z => by rw [z] at c; exact absurd c (by decide)) h; have h := g_in (fun z => by rw [z] at c; exact absurd c (by decide)) h; have h := g_in (fun z => by rw [z] at c; exact absurd c (by decide)) h; have h := g_in (fun z => by rw [z] at c; exact absurd c (by decide)) h; have h := g_in (fun z => by rw [z] at c; exact absurd c (by decide)) h; have h := g_in (fun z => by rw [z] at c; exact absurd c (by decide)) h; have h := g_in (fun z => by rw [z] at c; exact absurd c (by decide)) h; have h := g_in (fun z => by rw [z] at c; exact absurd c (by decide)) h
      cases h; exact ⟨rfl, rfl⟩
    · have h := g_ip c h
      obtain ⟨hq3, h⟩ := g_fs h
      refine ⟨hq3, ?_⟩
      obtain ⟨hv4, h⟩ := g_vs h
      refine ⟨hv4, ?_⟩
      cases h; exact ⟨rfl, rfl⟩
    · have h := g_in (fun z => absurd (c.symm.trans z) (by decide)) h; have h := g_ip c h
      obtain ⟨hq5, h⟩ := g_fs h
      refine ⟨hq5, ?_⟩
      obtain ⟨hv6, h⟩ := g_vs h
      refine ⟨hv6, ?_⟩
      cases h; exact ⟨rfl, rfl⟩
    · have h := g_in (fun z => absurd (c.symm.trans z) (by decide)) h; have h := g_in (fun z => absurd (c.symm.trans z) (by decide)) h; have h := g_ip c h
      obtain ⟨hq7, h⟩ := g_fs h
      refine ⟨hq7, ?_⟩
      obtain ⟨hv8, h⟩ := g_vs h
      refine ⟨hv8, ?_⟩
      cases h; exact ⟨rfl, rfl⟩
    · have h := g_in (fun z => absurd (c.symm.trans z) (by decide)) h; have h := g_in (fun z => absurd (c.symm.trans z) (by decide)) h; have h := g_in (fun z => absurd (c.symm.trans z) (by decide)) h; have h := g_ip c h
      obtain ⟨hq9, h⟩ := g_fs h
      refine ⟨hq9, ?_⟩
      obtain ⟨hv10, h⟩ := g_vs h
      refine ⟨hv10, ?_⟩
      cases h; exact ⟨rfl, rfl⟩
    · have h := g_in (fun z => absurd (c.symm.trans z) (by decide)) h; have h := g_in (fun z => absurd (c.symm.trans z) (by decide)) h; have h := g_in (fun z => absurd (c.symm.trans z) (by decide)) h; have h := g_in (fun z => absurd (c.symm.trans z) (by decide)) h; have h := g_ip c h
      obtain ⟨hq11, h⟩ := g_fs h
      refine ⟨hq11, ?_⟩
      obtain ⟨hv12, h⟩ := g_vs h
      refine ⟨hv12, ?_⟩
      cases h; exact ⟨rfl, rfl⟩
    · have h := g_in (fun z => absurd (c.symm.trans z) (by decide)) h; have h := g_in (fun z => absurd (c.symm.trans z) (by decide)) h; have h := g_in (fun z => absurd (c.symm.trans z) (by decide)) h; have h := g_in (fun z => absurd (c.symm.trans z) (by decide)) h; have h := g_in (fun z => absurd (c.symm.trans z) (by decide)) h; have h := g_ip c h
      obtain ⟨hv13, h⟩ := g_vs h
      refine ⟨hv13, ?_⟩
      cases h; exact ⟨rfl, rfl⟩
    · have h := g_in (fun z => absurd (c.symm.trans z) (by decide)) h; have h := g_in (fun z => absurd (c.symm.trans z) (by decide)) h; have h := g_in (fun z => absurd (c.symm.trans z) (by decide)) h; have h := g_in (fun z => absurd (c.symm.trans z) (by decide)) h; have h := g_in (fun z => absurd (c.symm.trans z) (by decide)) h; have h := g_in (fun z => absurd (c.symm.trans z) (by decide)) h; have h := g_ip c h
      obtain ⟨S14, b15, hc, h⟩ := g_b2s h
      refine ⟨0, _, (by decide), CX9_isStopped is_49 hc, ?_⟩
      rintro _ _ ⟨rfl, rfl⟩
      refine ⟨fun c => ?_, fun c => ?_⟩
      · have h := g_bf c h
        cases h; exact ⟨rfl, rfl⟩
      · have h := g_bt c h
        cases h; exact ⟨rfl, rfl⟩
    · have h := g_in (fun z => absurd (c.symm.trans z) (by decide)) h; have h := g_in (fun z => absurd (c.symm.trans z) (by decide)) h; have h := g_in (fun z => absurd (c.symm.trans z) (by decide)) h; have h := g_in (fun z => absurd (c.symm.trans z) (by decide)) h; have h := g_in (fun z => absurd (c.symm.trans z) (by decide)) h; have h := g_in (fun z => absurd (c.symm.trans z) (by decide)) h; have h := g_in (fun z => absurd (c.symm.trans z) (by decide)) h; have h := g_ip c h
      obtain ⟨hv16, h⟩ := g_vs h
      refine ⟨hv16, ?_⟩
      cases h; exact ⟨rfl, rfl⟩
  · have h := g_bf c h
    cases h; exact ⟨rfl, rfl⟩

noncomputable def FX11_letter (S : gS) (i1 : Int32) : Option (gS × Int32) := g_b2 (FX11_isLetter S (i1)) (fun S1 b2 => if b2 = true then (if isFb (sQ S1 3) = true then (if g_vp (i1) 6 = true then (some (S1, (sR S1 (((sQ S1 3) + 9)) (Int32.toNatClampNeg (i1))))) else none) else none) else (some (S1, (-1 : Int32))))
theorem CX11_letter {n : Nat} {S : gS} {R : gS × Int32} {i1 : Int32}  (h : FX11_letter S i1 = some R) : sCi 1 mX11_letter n S [.ref (0), .int (i1)] (fun S2 x2 => S2 = R.1 ∧ x2 = R.2) := by
  unfold FX11_letter at h
  refine gCj_of (by decide) (Nat.le_of_ble_eq_true rfl) rfl rfl (zX11_letter_0  ?_)
  obtain ⟨S1, b2, hc, h⟩ := g_b2s h
  refine ⟨0, _, (by decide), CX11_isLetter  hc, ?_⟩
  rintro _ _ ⟨rfl, rfl⟩
  refine ⟨fun c => ?_, fun c => ?_⟩
  · have h := g_bf c h
    cases h; exact ⟨rfl, rfl⟩
  · have h := g_bt c h
    obtain ⟨hq3, h⟩ := g_fs h
    refine ⟨hq3, ?_⟩
    obtain ⟨hv4, h⟩ := g_vs h
    refine ⟨hv4, ?_⟩
    cases h; exact ⟨rfl, rfl⟩

noncomputable def FX11_minute (S : gS)  : Option (gS × Int32) := g_b1 (FX11_keepPast S ) (fun S1 => if isFb (sQ S1 3) = true then (if isFb (sQ S1 3) = true then (g_b2 (FX1_rainOf S1 ((sQ S1 3)) ((sI S1 (49) 0))) (fun S4 x5 => g_b2 (FX9_passMinute S4 (49) ((sQ S1 3)) (x5)) (fun S6 x7 => some (S6, x7)))) else none) else none)
theorem CX11_minute {n : Nat} {S : gS} {R : gS × Int32}   (h : FX11_minute S  = some R) : sCi 4 mX11_minute n S [.ref (0)] (fun S2 x2 => S2 = R.1 ∧ x2 = R.2) := by
  unfold FX11_minute at h
  refine gCj_of (by decide) (Nat.le_of_ble_eq_true rfl) rfl rfl (zX11_minute_0  ?_)
  obtain ⟨S1, hc, h⟩ := g_b1s h
  refine ⟨2, _, (by decide), CX11_keepPast  hc, ?_⟩
  rintro _ rfl
  obtain ⟨hq2, h⟩ := g_fs h
  refine ⟨hq2, ?_⟩
  obtain ⟨hq3, h⟩ := g_fs h
  refine ⟨hq3, ?_⟩
  obtain ⟨S4, x5, hc, h⟩ := g_b2s h
  refine ⟨0, _, (by decide), CX1_rainOf hq3 hc, ?_⟩
  rintro _ _ ⟨rfl, rfl⟩
  obtain ⟨S6, x7, hc, h⟩ := g_b2s h
  refine ⟨3, _, (by decide), CX9_passMinute is_49 hq2 hc, ?_⟩
  rintro _ _ ⟨rfl, rfl⟩
  cases h; exact ⟨rfl, rfl⟩

noncomputable def FX11_pour (S : gS) (i1 : Int32) (i2 : Int32) : Option (gS × Int32) := g_b2 (FX11_isMouth S (i1)) (fun S1 b2 => if b2 = true then (if i2 < (1 : Int32) then (some (S1, (-1 : Int32))) else (if i2 ≤ (20 : Int32) then (g_b1 (FX11_keepPast S1 ) (fun S3 => g_b1 (FX9_addWater S3 (49) (i1) (i2)) (fun S4 => if g_vp (i1) 7 = true then (some (S4, (sR S4 ((49 + 1)) (Int32.toNatClampNeg (i1))))) else none))) else (some (S1, (-1 : Int32))))) else (some (S1, (-1 : Int32))))
theorem CX11_pour {n : Nat} {S : gS} {R : gS × Int32} {i1 : Int32} {i2 : Int32}  (h : FX11_pour S i1 i2 = some R) : sCi 3 mX11_pour n S [.ref (0), .int (i1), .int (i2)] (fun S2 x2 => S2 = R.1 ∧ x2 = R.2) := by
  unfold FX11_pour at h
  refine gCj_of (by decide) (Nat.le_of_ble_eq_true rfl) rfl rfl (zX11_pour_0  ?_)
  obtain ⟨S1, b2, hc, h⟩ := g_b2s h
  refine ⟨0, _, (by decide), CX11_isMouth  hc, ?_⟩
  rintro _ _ ⟨rfl, rfl⟩
  refine ⟨fun c => ?_, fun c => ?_⟩
  · have h := g_bf c h
    cases h; exact ⟨rfl, rfl⟩
  · have h := g_bt c h
    refine ⟨fun c => ?_, fun c => ?_⟩
    · have h := g_ip c h
      cases h; exact ⟨rfl, rfl⟩
    · have h := g_in c h
      refine ⟨fun c => ?_, fun c => ?_⟩
      · have h := g_ip c h
        obtain ⟨S3, hc, h⟩ := g_b1s h
        refine ⟨2, _, (by decide), CX11_keepPast  hc, ?_⟩
        rintro _ rfl
        obtain ⟨S4, hc, h⟩ := g_b1s h
        refine ⟨1, _, (by decide), CX9_addWater is_49 hc, ?_⟩
        rintro _ rfl
        obtain ⟨hv5, h⟩ := g_vs h
        refine ⟨hv5, ?_⟩
        cases h; exact ⟨rfl, rfl⟩
      · have h := g_in c h
        cases h; exact ⟨rfl, rfl⟩

noncomputable def FX11_stop (S : gS) (i1 : Int32) : Option (gS × Bool) := g_b2 (FX11_isMouth S (i1)) (fun S1 b2 => if b2 = true then (g_b2 (FX9_isStopped S1 (49) (i1)) (fun S3 b4 => if b4 = true then (some (S3, false)) else (g_b1 (FX11_keepPast S3 ) (fun S5 => g_b2 (FX9_stopMouth S5 (49) (i1)) (fun S6 b7 => some (S6, b7)))))) else (some (S1, false)))
theorem CX11_stop {n : Nat} {S : gS} {R : gS × Bool} {i1 : Int32}  (h : FX11_stop S i1 = some R) : sCz 3 mX11_stop n S [.ref (0), .int (i1)] (fun S2 x2 => S2 = R.1 ∧ x2 = R.2) := by
  unfold FX11_stop at h
  refine gCz_of (by decide) (Nat.le_of_ble_eq_true rfl) rfl rfl (zX11_stop_0  ?_)
  obtain ⟨S1, b2, hc, h⟩ := g_b2s h
  refine ⟨0, _, (by decide), CX11_isMouth  hc, ?_⟩
  rintro _ _ ⟨rfl, rfl⟩
  refine ⟨fun c => ?_, fun c => ?_⟩
  · have h := g_bf c h
    cases h; exact ⟨rfl, rfl⟩
  · have h := g_bt c h
    obtain ⟨S3, b4, hc, h⟩ := g_b2s h
    refine ⟨0, _, (by decide), CX9_isStopped is_49 hc, ?_⟩
    rintro _ _ ⟨rfl, rfl⟩
    refine ⟨fun c => ?_, fun c => ?_⟩
    · have h := g_bf c h
      obtain ⟨S5, hc, h⟩ := g_b1s h
      refine ⟨2, _, (by decide), CX11_keepPast  hc, ?_⟩
      rintro _ rfl
      obtain ⟨S6, b7, hc, h⟩ := g_b2s h
      refine ⟨1, _, (by decide), CX9_stopMouth is_49 hc, ?_⟩
      rintro _ _ ⟨rfl, rfl⟩
      cases h; exact ⟨rfl, rfl⟩
    · have h := g_bt c h
      cases h; exact ⟨rfl, rfl⟩

noncomputable def FX11_clear (S : gS) (i1 : Int32) : Option (gS × Bool) := g_b2 (FX11_isMouth S (i1)) (fun S1 b2 => if b2 = true then (g_b2 (FX9_isStopped S1 (49) (i1)) (fun S3 b4 => if b4 = true then (g_b1 (FX11_keepPast S3 ) (fun S5 => g_b2 (FX9_clearMouth S5 (49) (i1)) (fun S6 b7 => some (S6, b7)))) else (some (S3, false)))) else (some (S1, false)))
theorem CX11_clear {n : Nat} {S : gS} {R : gS × Bool} {i1 : Int32}  (h : FX11_clear S i1 = some R) : sCz 3 mX11_clear n S [.ref (0), .int (i1)] (fun S2 x2 => S2 = R.1 ∧ x2 = R.2) := by
  unfold FX11_clear at h
  refine gCz_of (by decide) (Nat.le_of_ble_eq_true rfl) rfl rfl (zX11_clear_0  ?_)
  obtain ⟨S1, b2, hc, h⟩ := g_b2s h
  refine ⟨0, _, (by decide), CX11_isMouth  hc, ?_⟩
  rintro _ _ ⟨rfl, rfl⟩
  refine ⟨fun c => ?_, fun c => ?_⟩
  · have h := g_bf c h
    cases h; exact ⟨rfl, rfl⟩
  · have h := g_bt c h
    obtain ⟨S3, b4, hc, h⟩ := g_b2s h
    refine ⟨0, _, (by decide), CX9_isStopped is_49 hc, ?_⟩
    rintro _ _ ⟨rfl, rfl⟩
    refine ⟨fun c => ?_, fun c => ?_⟩
    · have h := g_bt c h
      obtain ⟨S5, hc, h⟩ := g_b1s h
      refine ⟨2, _, (by decide), CX11_keepPast  hc, ?_⟩
      rintro _ rfl
      obtain ⟨S6, b7, hc, h⟩ := g_b2s h
      refine ⟨1, _, (by decide), CX9_clearMouth is_49 hc, ?_⟩
      rintro _ _ ⟨rfl, rfl⟩
      cases h; exact ⟨rfl, rfl⟩
    · have h := g_bf c h
      cases h; exact ⟨rfl, rfl⟩

noncomputable def bX11_judged_30  (rec : Nat → gS → Int32 → Int32 → Int32 → Int32 → Int32 → Option (gS × Int32)) (S : gS) (i1 : Int32) (i2 : Int32) (i3 : Int32) (i4 : Int32) (i5 : Int32) : Option (gS × Int32) := if isDb (sQ S 5) = true then (if (sI S ((sQ S 5)) 0) ≤ i4 then (if i1 = (2 : Int32) then (g_b2 (FX9_signsLike S (53) ((6 : Int32))) (fun S2 x3 => some (S2, x3))) else (if i1 = 0 then (some (S, i2)) else (some (S, i3)))) else (g_b2 (FX11_doLine S (i4)) (fun S4 x5 => if x5 = (-2 : Int32) then (if i2 = (-1 : Int32) then (rec 65 S4 (i1) (i4) (i3) (i4) (x5)) else (rec 65 S4 (i1) (i2) (i3) (i4) (x5))) else (rec 65 S4 (i1) (i2) (i3) (i4) (x5))))) else none
noncomputable def bX11_judged_65  (rec : Nat → gS → Int32 → Int32 → Int32 → Int32 → Int32 → Option (gS × Int32)) (S : gS) (i1 : Int32) (i2 : Int32) (i3 : Int32) (i4 : Int32) (i5 : Int32) : Option (gS × Int32) := if i5 < 0 then (rec 30 S (i1) (i2) (i3) ((i4 + 1)) 0) else (if i5 = (6 : Int32) then (rec 30 S (i1) (i2) (i3) ((i4 + 1)) 0) else (if i3 = (-1 : Int32) then (rec 30 S (i1) (i2) (i4) ((i4 + 1)) 0) else (rec 30 S (i1) (i2) (i3) ((i4 + 1)) 0)))
noncomputable def fX11_judged  : Nat → Nat → gS → Int32 → Int32 → Int32 → Int32 → Int32 → Option (gS × Int32)
  | 0 => fun _ _ _ _ _ _ _ => none
  | k + 1 => fun pc S i1 i2 i3 i4 i5 => if pc = 30 then bX11_judged_30  (fX11_judged  k) S i1 i2 i3 i4 i5 else if pc = 65 then bX11_judged_65  (fX11_judged  k) S i1 i2 i3 i4 i5 else none
noncomputable def FX11_judged (S : gS) (i1 : Int32) : Option (gS × Int32) := if i1 < 0 then (some (S, (-2 : Int32))) else (if i1 ≤ (2 : Int32) then (if isFb (sQ S 3) = true then (g_b1 (FX9_begin S (53) ((sQ S 3))) (fun S2 => fX11_judged  FU 30 S2 (i1) ((-1 : Int32)) ((-1 : Int32)) ((0 : Int32)) 0)) else none) else (some (S, (-2 : Int32))))
set_option maxRecDepth 100000 in
theorem lX11_judged  {n : Nat} {R : gS × Int32} : ∀ k : Nat, (∀ (S : gS) (i1 : Int32) (i2 : Int32) (i3 : Int32) (i4 : Int32) (i5 : Int32) , fX11_judged  k 30 S i1 i2 i3 i4 i5 = some R → gG 6 mX11_judged 0 0 (g_Xj mX11_judged n 0 0 (hPi (fun S2 x2 => S2 = R.1 ∧ x2 = R.2))) 30 n (hH S) [some (.ref (0)), some (.int (i1)), some (.int (i2)), some (.int (i3)), some (.int (i4)), none] [] 0 0) ∧ (∀ (S : gS) (i1 : Int32) (i2 : Int32) (i3 : Int32) (i4 : Int32) (i5 : Int32) , fX11_judged  k 65 S i1 i2 i3 i4 i5 = some R → gG 6 mX11_judged 0 0 (g_Xj mX11_judged n 0 0 (hPi (fun S2 x2 => S2 = R.1 ∧ x2 = R.2))) 65 n (hH S) [some (.ref (0)), some (.int (i1)), some (.int (i2)), some (.int (i3)), some (.int (i4)), some (.int (i5))] [] 0 0) := by
  intro k
  induction k with
  | zero => exact ⟨fun _ _ _ _ _ _ h => (by cases h), fun _ _ _ _ _ _ h => (by cases h)⟩
  | succ k ih =>
    have hrec_30 := ih.1
    have hrec_65 := ih.2
    refine ⟨?_, ?_⟩
    · intro S i1 i2 i3 i4 i5 h
      rw [fX11_judged] at h
      have h := g_ip rfl h
      unfold bX11_judged_30 at h
      refine zX11_judged_30  ?_
      obtain ⟨hq1, h⟩ := g_ds h
      refine ⟨hq1, ?_⟩
      refine ⟨fun c => ?_, fun c => ?_⟩
      · have h := g_ip c h
        refine ⟨fun c => ?_, fun c => ?_⟩
        · have h := g_in c h
          refine ⟨fun c => ?_, fun c => ?_⟩
          · have h := g_in c h
            cases h; exact ⟨rfl, rfl⟩
          · have h := g_ip c h
            cases h; exact ⟨rfl, rfl⟩
        · have h := g_ip c h
          obtain ⟨S2, x3, hc, h⟩ := g_b2s h
          refine ⟨0, _, (by decide), CX9_signsLike is_53 hc, ?_⟩
          rintro _ _ ⟨rfl, rfl⟩
          cases h; exact ⟨rfl, rfl⟩
      · have h := g_in c h
        obtain ⟨S4, x5, hc, h⟩ := g_b2s h
        refine ⟨5, _, (by decide), CX11_doLine  hc, ?_⟩
        rintro _ _ ⟨rfl, rfl⟩
        refine ⟨fun c => ?_, fun c => ?_⟩
        · have h := g_in c h
          exact hrec_65 _ _ _ _ _ _  h
        · have h := g_ip c h
          refine ⟨fun c => ?_, fun c => ?_⟩
          · have h := g_in c h
            exact hrec_65 _ _ _ _ _ _  h
          · have h := g_ip c h
            exact hrec_65 _ _ _ _ _ _  h
    · intro S i1 i2 i3 i4 i5 h
      rw [fX11_judged] at h
      have h := g_in (by decide) h
      have h := g_ip rfl h
      unfold bX11_judged_65 at h
      refine zX11_judged_65  ?_
      refine ⟨fun c => ?_, fun c => ?_⟩
      · have h := g_ip c h
        exact hrec_30 _ _ _ _ _ _  h
      · have h := g_in c h
        refine ⟨fun c => ?_, fun c => ?_⟩
        · have h := g_ip c h
          exact hrec_30 _ _ _ _ _ _  h
        · have h := g_in c h
          refine ⟨fun c => ?_, fun c => ?_⟩
          · have h := g_in c h
            exact hrec_30 _ _ _ _ _ _  h
          · have h := g_ip c h
            exact hrec_30 _ _ _ _ _ _  h
theorem CX11_judged {n : Nat} {S : gS} {R : gS × Int32} {i1 : Int32}  (h : FX11_judged S i1 = some R) : sCi 6 mX11_judged n S [.ref (0), .int (i1)] (fun S2 x2 => S2 = R.1 ∧ x2 = R.2) := by
  unfold FX11_judged at h
  refine gCj_of (by decide) (Nat.le_of_ble_eq_true rfl) rfl rfl (zX11_judged_0  ?_)
  refine ⟨fun c => ?_, fun c => ?_⟩
  · have h := g_ip c h
    cases h; exact ⟨rfl, rfl⟩
  · have h := g_in c h
    refine ⟨fun c => ?_, fun c => ?_⟩
    · have h := g_ip c h
      obtain ⟨hq1, h⟩ := g_fs h
      refine ⟨hq1, ?_⟩
      obtain ⟨S2, hc, h⟩ := g_b1s h
      refine ⟨1, _, (by decide), CX9_begin is_53 hq1 hc, ?_⟩
      rintro _ rfl
      exact (lX11_judged FU).1 _ _ _ _ _ _  h
    · have h := g_in c h
      cases h; exact ⟨rfl, rfl⟩

noncomputable def bX11_later_33  (rec : Nat → gS → Int32 → Int32 → Int32 → Option (gS × Int32)) (S : gS) (i1 : Int32) (i2 : Int32) (i3 : Int32) : Option (gS × Int32) := if i2 ≤ i3 then (if g_vp (i1) 7 = true then (some (S, (sR S ((53 + 1)) (Int32.toNatClampNeg (i1))))) else none) else (g_b2 (FX11_passTrialMinute S ) (fun S2 x3 => rec 33 S2 (i1) (i2) ((i3 + 1))))
noncomputable def fX11_later  : Nat → Nat → gS → Int32 → Int32 → Int32 → Option (gS × Int32)
  | 0 => fun _ _ _ _ _ => none
  | k + 1 => fun pc S i1 i2 i3 => if pc = 33 then bX11_later_33  (fX11_later  k) S i1 i2 i3 else none
noncomputable def FX11_later (S : gS) (i1 : Int32) (i2 : Int32) : Option (gS × Int32) := g_b2 (FX11_isMouth S (i1)) (fun S1 b2 => if b2 = true then (if i2 < 0 then (some (S1, (-1 : Int32))) else (if i2 ≤ (60 : Int32) then (g_b1 (FX9_copyFrom S1 (53) (49)) (fun S3 => fX11_later  FU 33 S3 (i1) (i2) ((0 : Int32)))) else (some (S1, (-1 : Int32))))) else (some (S1, (-1 : Int32))))
set_option maxRecDepth 100000 in
theorem lX11_later  {n : Nat} {R : gS × Int32} : ∀ k : Nat, (∀ (S : gS) (i1 : Int32) (i2 : Int32) (i3 : Int32) , fX11_later  k 33 S i1 i2 i3 = some R → gG 5 mX11_later 0 0 (g_Xj mX11_later n 0 0 (hPi (fun S2 x2 => S2 = R.1 ∧ x2 = R.2))) 33 n (hH S) [some (.ref (0)), some (.int (i1)), some (.int (i2)), some (.int (i3))] [] 0 0) := by
  intro k
  induction k with
  | zero => exact fun _ _ _ _ h => (by cases h)
  | succ k ih =>
    have hrec_33 := ih
    · intro S i1 i2 i3 h
      rw [fX11_later] at h
      have h := g_ip rfl h
      unfold bX11_later_33 at h
      refine zX11_later_33  ?_
      refine ⟨fun c => ?_, fun c => ?_⟩
      · have h := g_ip c h
        obtain ⟨hv1, h⟩ := g_vs h
        refine ⟨hv1, ?_⟩
        cases h; exact ⟨rfl, rfl⟩
      · have h := g_in c h
        obtain ⟨S2, x3, hc, h⟩ := g_b2s h
        refine ⟨4, _, (by decide), CX11_passTrialMinute  hc, ?_⟩
        rintro _ _ ⟨rfl, rfl⟩
        exact hrec_33 _ _ _ _  h
theorem CX11_later {n : Nat} {S : gS} {R : gS × Int32} {i1 : Int32} {i2 : Int32}  (h : FX11_later S i1 i2 = some R) : sCi 5 mX11_later n S [.ref (0), .int (i1), .int (i2)] (fun S2 x2 => S2 = R.1 ∧ x2 = R.2) := by
  unfold FX11_later at h
  refine gCj_of (by decide) (Nat.le_of_ble_eq_true rfl) rfl rfl (zX11_later_0  ?_)
  obtain ⟨S1, b2, hc, h⟩ := g_b2s h
  refine ⟨0, _, (by decide), CX11_isMouth  hc, ?_⟩
  rintro _ _ ⟨rfl, rfl⟩
  refine ⟨fun c => ?_, fun c => ?_⟩
  · have h := g_bf c h
    cases h; exact ⟨rfl, rfl⟩
  · have h := g_bt c h
    refine ⟨fun c => ?_, fun c => ?_⟩
    · have h := g_ip c h
      cases h; exact ⟨rfl, rfl⟩
    · have h := g_in c h
      refine ⟨fun c => ?_, fun c => ?_⟩
      · have h := g_ip c h
        obtain ⟨S3, hc, h⟩ := g_b1s h
        refine ⟨1, _, (by decide), CX9_copyFrom is_53 is_49 hc, ?_⟩
        rintro _ rfl
        exact (lX11_later FU) _ _ _ _  h
      · have h := g_in c h
        cases h; exact ⟨rfl, rfl⟩

noncomputable def bX11_reads_23  (rec : Nat → gS → Int32 → Int32 → Option (gS × Int32)) (S : gS) (i1 : Int32) (i2 : Int32) : Option (gS × Int32) := if i1 ≤ i2 then (some (S, (sI S (53) 5))) else (g_b2 (FX11_passTrialMinute S ) (fun S1 x2 => rec 23 S1 (i1) ((i2 + 1))))
noncomputable def fX11_reads  : Nat → Nat → gS → Int32 → Int32 → Option (gS × Int32)
  | 0 => fun _ _ _ _ => none
  | k + 1 => fun pc S i1 i2 => if pc = 23 then bX11_reads_23  (fX11_reads  k) S i1 i2 else none
noncomputable def FX11_reads (S : gS) (i1 : Int32) : Option (gS × Int32) := g_b2 (FX11_isAhead S (i1)) (fun S1 b2 => if b2 = true then (g_b1 (FX9_copyFrom S1 (53) (49)) (fun S3 => fX11_reads  FU 23 S3 (i1) ((0 : Int32)))) else (some (S1, (-2 : Int32))))
set_option maxRecDepth 100000 in
theorem lX11_reads  {n : Nat} {R : gS × Int32} : ∀ k : Nat, (∀ (S : gS) (i1 : Int32) (i2 : Int32) , fX11_reads  k 23 S i1 i2 = some R → gG 5 mX11_reads 0 0 (g_Xj mX11_reads n 0 0 (hPi (fun S2 x2 => S2 = R.1 ∧ x2 = R.2))) 23 n (hH S) [some (.ref (0)), some (.int (i1)), some (.int (i2))] [] 0 0) := by
  intro k
  induction k with
  | zero => exact fun _ _ _ h => (by cases h)
  | succ k ih =>
    have hrec_23 := ih
    · intro S i1 i2 h
      rw [fX11_reads] at h
      have h := g_ip rfl h
      unfold bX11_reads_23 at h
      refine zX11_reads_23  ?_
      refine ⟨fun c => ?_, fun c => ?_⟩
      · have h := g_ip c h
        cases h; exact ⟨rfl, rfl⟩
      · have h := g_in c h
        obtain ⟨S1, x2, hc, h⟩ := g_b2s h
        refine ⟨4, _, (by decide), CX11_passTrialMinute  hc, ?_⟩
        rintro _ _ ⟨rfl, rfl⟩
        exact hrec_23 _ _ _  h
theorem CX11_reads {n : Nat} {S : gS} {R : gS × Int32} {i1 : Int32}  (h : FX11_reads S i1 = some R) : sCi 5 mX11_reads n S [.ref (0), .int (i1)] (fun S2 x2 => S2 = R.1 ∧ x2 = R.2) := by
  unfold FX11_reads at h
  refine gCj_of (by decide) (Nat.le_of_ble_eq_true rfl) rfl rfl (zX11_reads_0  ?_)
  obtain ⟨S1, b2, hc, h⟩ := g_b2s h
  refine ⟨0, _, (by decide), CX11_isAhead  hc, ?_⟩
  rintro _ _ ⟨rfl, rfl⟩
  refine ⟨fun c => ?_, fun c => ?_⟩
  · have h := g_bt c h
    obtain ⟨S3, hc, h⟩ := g_b1s h
    refine ⟨1, _, (by decide), CX9_copyFrom is_53 is_49 hc, ?_⟩
    rintro _ rfl
    exact (lX11_reads FU) _ _ _  h
  · have h := g_bf c h
    cases h; exact ⟨rfl, rfl⟩

noncomputable def bX11_when_23  (rec : Nat → gS → Int32 → Int32 → Option (gS × Int32)) (S : gS) (i1 : Int32) (i2 : Int32) : Option (gS × Int32) := if (60 : Int32) < i2 then (some (S, (-1 : Int32))) else (g_b2 (FX11_passTrialMinute S ) (fun S1 x2 => if x2 = i1 then (some (S1, i2)) else (rec 23 S1 (i1) ((i2 + 1)))))
noncomputable def fX11_when  : Nat → Nat → gS → Int32 → Int32 → Option (gS × Int32)
  | 0 => fun _ _ _ _ => none
  | k + 1 => fun pc S i1 i2 => if pc = 23 then bX11_when_23  (fX11_when  k) S i1 i2 else none
noncomputable def FX11_when (S : gS) (i1 : Int32) : Option (gS × Int32) := g_b2 (FX11_isLetter S (i1)) (fun S1 b2 => if b2 = true then (g_b1 (FX9_copyFrom S1 (53) (49)) (fun S3 => fX11_when  FU 23 S3 (i1) ((1 : Int32)))) else (some (S1, (-1 : Int32))))
set_option maxRecDepth 100000 in
theorem lX11_when  {n : Nat} {R : gS × Int32} : ∀ k : Nat, (∀ (S : gS) (i1 : Int32) (i2 : Int32) , fX11_when  k 23 S i1 i2 = some R → gG 5 mX11_when 0 0 (g_Xj mX11_when n 0 0 (hPi (fun S2 x2 => S2 = R.1 ∧ x2 = R.2))) 23 n (hH S) [some (.ref (0)), some (.int (i1)), some (.int (i2))] [] 0 0) := by
  intro k
  induction k with
  | zero => exact fun _ _ _ h => (by cases h)
  | succ k ih =>
    have hrec_23 := ih
    · intro S i1 i2 h
      rw [fX11_when] at h
      have h := g_ip rfl h
      unfold bX11_when_23 at h
      refine zX11_when_23  ?_
      refine ⟨fun c => ?_, fun c => ?_⟩
      · have h := g_ip c h
        cases h; exact ⟨rfl, rfl⟩
      · have h := g_in c h
        obtain ⟨S1, x2, hc, h⟩ := g_b2s h
        refine ⟨4, _, (by decide), CX11_passTrialMinute  hc, ?_⟩
        rintro _ _ ⟨rfl, rfl⟩
        refine ⟨fun c => ?_, fun c => ?_⟩
        · have h := g_in c h
          exact hrec_23 _ _ _  h
        · have h := g_ip c h
          cases h; exact ⟨rfl, rfl⟩
theorem CX11_when {n : Nat} {S : gS} {R : gS × Int32} {i1 : Int32}  (h : FX11_when S i1 = some R) : sCi 5 mX11_when n S [.ref (0), .int (i1)] (fun S2 x2 => S2 = R.1 ∧ x2 = R.2) := by
  unfold FX11_when at h
  refine gCj_of (by decide) (Nat.le_of_ble_eq_true rfl) rfl rfl (zX11_when_0  ?_)
  obtain ⟨S1, b2, hc, h⟩ := g_b2s h
  refine ⟨0, _, (by decide), CX11_isLetter  hc, ?_⟩
  rintro _ _ ⟨rfl, rfl⟩
  refine ⟨fun c => ?_, fun c => ?_⟩
  · have h := g_bt c h
    obtain ⟨S3, hc, h⟩ := g_b1s h
    refine ⟨1, _, (by decide), CX9_copyFrom is_53 is_49 hc, ?_⟩
    rintro _ rfl
    exact (lX11_when FU) _ _ _  h
  · have h := g_bf c h
    cases h; exact ⟨rfl, rfl⟩

noncomputable def bX11_dry_13  (rec : Nat → gS → Int32 → Option (gS × Int32)) (S : gS) (i1 : Int32) : Option (gS × Int32) := if (60 : Int32) < i1 then (some (S, (-1 : Int32))) else (if isFb (sQ S 3) = true then (g_b2 (FX9_allWater S (53) ((sI S ((sQ S 3)) 0))) (fun S2 x3 => if x3 = 0 then (some (S2, i1)) else (g_b2 (FX11_passTrialMinute S2 ) (fun S4 x5 => rec 13 S4 ((i1 + 1)))))) else none)
noncomputable def fX11_dry  : Nat → Nat → gS → Int32 → Option (gS × Int32)
  | 0 => fun _ _ _ => none
  | k + 1 => fun pc S i1 => if pc = 13 then bX11_dry_13  (fX11_dry  k) S i1 else none
noncomputable def FX11_dry (S : gS)  : Option (gS × Int32) := g_b1 (FX9_copyFrom S (53) (49)) (fun S1 => fX11_dry  FU 13 S1 ((0 : Int32)))
set_option maxRecDepth 100000 in
theorem lX11_dry  {n : Nat} {R : gS × Int32} : ∀ k : Nat, (∀ (S : gS) (i1 : Int32) , fX11_dry  k 13 S i1 = some R → gG 5 mX11_dry 0 0 (g_Xj mX11_dry n 0 0 (hPi (fun S2 x2 => S2 = R.1 ∧ x2 = R.2))) 13 n (hH S) [some (.ref (0)), some (.int (i1))] [] 0 0) := by
  intro k
  induction k with
  | zero => exact fun _ _ h => (by cases h)
  | succ k ih =>
    have hrec_13 := ih
    · intro S i1 h
      rw [fX11_dry] at h
      have h := g_ip rfl h
      unfold bX11_dry_13 at h
      refine zX11_dry_13  ?_
      refine ⟨fun c => ?_, fun c => ?_⟩
      · have h := g_ip c h
        cases h; exact ⟨rfl, rfl⟩
      · have h := g_in c h
        obtain ⟨hq1, h⟩ := g_fs h
        refine ⟨hq1, ?_⟩
        obtain ⟨S2, x3, hc, h⟩ := g_b2s h
        refine ⟨0, _, (by decide), CX9_allWater is_53 hc, ?_⟩
        rintro _ _ ⟨rfl, rfl⟩
        refine ⟨fun c => ?_, fun c => ?_⟩
        · have h := g_in c h
          obtain ⟨S4, x5, hc, h⟩ := g_b2s h
          refine ⟨4, _, (by decide), CX11_passTrialMinute  hc, ?_⟩
          rintro _ _ ⟨rfl, rfl⟩
          exact hrec_13 _ _  h
        · have h := g_ip c h
          cases h; exact ⟨rfl, rfl⟩
theorem CX11_dry {n : Nat} {S : gS} {R : gS × Int32}   (h : FX11_dry S  = some R) : sCi 5 mX11_dry n S [.ref (0)] (fun S2 x2 => S2 = R.1 ∧ x2 = R.2) := by
  unfold FX11_dry at h
  refine gCj_of (by decide) (Nat.le_of_ble_eq_true rfl) rfl rfl (zX11_dry_0  ?_)
  obtain ⟨S1, hc, h⟩ := g_b1s h
  refine ⟨1, _, (by decide), CX9_copyFrom is_53 is_49 hc, ?_⟩
  rintro _ rfl
  exact (lX11_dry FU) _ _  h

noncomputable def bX11_spill_24  (rec : Nat → gS → Int32 → Int32 → Int32 → Option (gS × Int32)) (S : gS) (i1 : Int32) (i2 : Int32) (i3 : Int32) : Option (gS × Int32) := if i1 ≤ i3 then (some (S, i2)) else (g_b2 (FX11_passTrialMinute S ) (fun S1 x2 => rec 24 S1 (i1) ((i2 + (sI S1 (53) 7))) ((i3 + 1))))
noncomputable def fX11_spill  : Nat → Nat → gS → Int32 → Int32 → Int32 → Option (gS × Int32)
  | 0 => fun _ _ _ _ _ => none
  | k + 1 => fun pc S i1 i2 i3 => if pc = 24 then bX11_spill_24  (fX11_spill  k) S i1 i2 i3 else none
noncomputable def FX11_spill (S : gS) (i1 : Int32) : Option (gS × Int32) := g_b2 (FX11_isAhead S (i1)) (fun S1 b2 => if b2 = true then (g_b1 (FX9_copyFrom S1 (53) (49)) (fun S3 => fX11_spill  FU 24 S3 (i1) ((0 : Int32)) ((0 : Int32)))) else (some (S1, (-1 : Int32))))
set_option maxRecDepth 100000 in
theorem lX11_spill  {n : Nat} {R : gS × Int32} : ∀ k : Nat, (∀ (S : gS) (i1 : Int32) (i2 : Int32) (i3 : Int32) , fX11_spill  k 24 S i1 i2 i3 = some R → gG 5 mX11_spill 0 0 (g_Xj mX11_spill n 0 0 (hPi (fun S2 x2 => S2 = R.1 ∧ x2 = R.2))) 24 n (hH S) [some (.ref (0)), some (.int (i1)), some (.int (i2)), some (.int (i3))] [] 0 0) := by
  intro k
  induction k with
  | zero => exact fun _ _ _ _ h => (by cases h)
  | succ k ih =>
    have hrec_24 := ih
    · intro S i1 i2 i3 h
      rw [fX11_spill] at h
      have h := g_ip rfl h
      unfold bX11_spill_24 at h
      refine zX11_spill_24  ?_
      refine ⟨fun c => ?_, fun c => ?_⟩
      · have h := g_ip c h
        cases h; exact ⟨rfl, rfl⟩
      · have h := g_in c h
        obtain ⟨S1, x2, hc, h⟩ := g_b2s h
        refine ⟨4, _, (by decide), CX11_passTrialMinute  hc, ?_⟩
        rintro _ _ ⟨rfl, rfl⟩
        exact hrec_24 _ _ _ _  h
theorem CX11_spill {n : Nat} {S : gS} {R : gS × Int32} {i1 : Int32}  (h : FX11_spill S i1 = some R) : sCi 5 mX11_spill n S [.ref (0), .int (i1)] (fun S2 x2 => S2 = R.1 ∧ x2 = R.2) := by
  unfold FX11_spill at h
  refine gCj_of (by decide) (Nat.le_of_ble_eq_true rfl) rfl rfl (zX11_spill_0  ?_)
  obtain ⟨S1, b2, hc, h⟩ := g_b2s h
  refine ⟨0, _, (by decide), CX11_isAhead  hc, ?_⟩
  rintro _ _ ⟨rfl, rfl⟩
  refine ⟨fun c => ?_, fun c => ?_⟩
  · have h := g_bt c h
    obtain ⟨S3, hc, h⟩ := g_b1s h
    refine ⟨1, _, (by decide), CX9_copyFrom is_53 is_49 hc, ?_⟩
    rintro _ rfl
    exact (lX11_spill FU) _ _ _ _  h
  · have h := g_bf c h
    cases h; exact ⟨rfl, rfl⟩

noncomputable def bX11_over_23  (rec : Nat → gS → Int32 → Int32 → Option (gS × Int32)) (S : gS) (i1 : Int32) (i2 : Int32) : Option (gS × Int32) := if (60 : Int32) < i2 then (some (S, (-1 : Int32))) else (g_b2 (FX11_passTrialMinute S ) (fun S1 x2 => g_b2 (FX9_ranOver S1 (53) (i1)) (fun S3 b4 => if b4 = true then (some (S3, i2)) else (rec 23 S3 (i1) ((i2 + 1))))))
noncomputable def fX11_over  : Nat → Nat → gS → Int32 → Int32 → Option (gS × Int32)
  | 0 => fun _ _ _ _ => none
  | k + 1 => fun pc S i1 i2 => if pc = 23 then bX11_over_23  (fX11_over  k) S i1 i2 else none
noncomputable def FX11_over (S : gS) (i1 : Int32) : Option (gS × Int32) := g_b2 (FX11_isMouth S (i1)) (fun S1 b2 => if b2 = true then (g_b1 (FX9_copyFrom S1 (53) (49)) (fun S3 => fX11_over  FU 23 S3 (i1) ((1 : Int32)))) else (some (S1, (-1 : Int32))))
set_option maxRecDepth 100000 in
theorem lX11_over  {n : Nat} {R : gS × Int32} : ∀ k : Nat, (∀ (S : gS) (i1 : Int32) (i2 : Int32) , fX11_over  k 23 S i1 i2 = some R → gG 5 mX11_over 0 0 (g_Xj mX11_over n 0 0 (hPi (fun S2 x2 => S2 = R.1 ∧ x2 = R.2))) 23 n (hH S) [some (.ref (0)), some (.int (i1)), some (.int (i2))] [] 0 0) := by
  intro k
  induction k with
  | zero => exact fun _ _ _ h => (by cases h)
  | succ k ih =>
    have hrec_23 := ih
    · intro S i1 i2 h
      rw [fX11_over] at h
      have h := g_ip rfl h
      unfold bX11_over_23 at h
      refine zX11_over_23  ?_
      refine ⟨fun c => ?_, fun c => ?_⟩
      · have h := g_ip c h
        cases h; exact ⟨rfl, rfl⟩
      · have h := g_in c h
        obtain ⟨S1, x2, hc, h⟩ := g_b2s h
        refine ⟨4, _, (by decide), CX11_passTrialMinute  hc, ?_⟩
        rintro _ _ ⟨rfl, rfl⟩
        obtain ⟨S3, b4, hc, h⟩ := g_b2s h
        refine ⟨0, _, (by decide), CX9_ranOver is_53 hc, ?_⟩
        rintro _ _ ⟨rfl, rfl⟩
        refine ⟨fun c => ?_, fun c => ?_⟩
        · have h := g_bf c h
          exact hrec_23 _ _ _  h
        · have h := g_bt c h
          cases h; exact ⟨rfl, rfl⟩
theorem CX11_over {n : Nat} {S : gS} {R : gS × Int32} {i1 : Int32}  (h : FX11_over S i1 = some R) : sCi 5 mX11_over n S [.ref (0), .int (i1)] (fun S2 x2 => S2 = R.1 ∧ x2 = R.2) := by
  unfold FX11_over at h
  refine gCj_of (by decide) (Nat.le_of_ble_eq_true rfl) rfl rfl (zX11_over_0  ?_)
  obtain ⟨S1, b2, hc, h⟩ := g_b2s h
  refine ⟨0, _, (by decide), CX11_isMouth  hc, ?_⟩
  rintro _ _ ⟨rfl, rfl⟩
  refine ⟨fun c => ?_, fun c => ?_⟩
  · have h := g_bt c h
    obtain ⟨S3, hc, h⟩ := g_b1s h
    refine ⟨1, _, (by decide), CX9_copyFrom is_53 is_49 hc, ?_⟩
    rintro _ rfl
    exact (lX11_over FU) _ _ _  h
  · have h := g_bf c h
    cases h; exact ⟨rfl, rfl⟩

noncomputable def bX11_first_13  (rec : Nat → gS → Int32 → Int32 → Option (gS × Int32)) (S : gS) (i1 : Int32) (i2 : Int32) : Option (gS × Int32) := if (60 : Int32) < i1 then (some (S, (-1 : Int32))) else (g_b2 (FX11_passTrialMinute S ) (fun S1 x2 => rec 26 S1 (i1) ((0 : Int32))))
noncomputable def bX11_first_26  (rec : Nat → gS → Int32 → Int32 → Option (gS × Int32)) (S : gS) (i1 : Int32) (i2 : Int32) : Option (gS × Int32) := if isFb (sQ S 3) = true then (if (sI S ((sQ S 3)) 0) ≤ i2 then (rec 13 S ((i1 + 1)) 0) else (g_b2 (FX9_ranOver S (53) (i2)) (fun S2 b3 => if b3 = true then (some (S2, i2)) else (rec 26 S2 (i1) ((i2 + 1)))))) else none
noncomputable def fX11_first  : Nat → Nat → gS → Int32 → Int32 → Option (gS × Int32)
  | 0 => fun _ _ _ _ => none
  | k + 1 => fun pc S i1 i2 => if pc = 13 then bX11_first_13  (fX11_first  k) S i1 i2 else if pc = 26 then bX11_first_26  (fX11_first  k) S i1 i2 else none
noncomputable def FX11_first (S : gS)  : Option (gS × Int32) := g_b1 (FX9_copyFrom S (53) (49)) (fun S1 => fX11_first  FU 13 S1 ((1 : Int32)) 0)
set_option maxRecDepth 100000 in
theorem lX11_first  {n : Nat} {R : gS × Int32} : ∀ k : Nat, (∀ (S : gS) (i1 : Int32) (i2 : Int32) , fX11_first  k 13 S i1 i2 = some R → gG 5 mX11_first 0 0 (g_Xj mX11_first n 0 0 (hPi (fun S2 x2 => S2 = R.1 ∧ x2 = R.2))) 13 n (hH S) [some (.ref (0)), some (.int (i1)), none] [] 0 0) ∧ (∀ (S : gS) (i1 : Int32) (i2 : Int32) , fX11_first  k 26 S i1 i2 = some R → gG 5 mX11_first 0 0 (g_Xj mX11_first n 0 0 (hPi (fun S2 x2 => S2 = R.1 ∧ x2 = R.2))) 26 n (hH S) [some (.ref (0)), some (.int (i1)), some (.int (i2))] [] 0 0) := by
  intro k
  induction k with
  | zero => exact ⟨fun _ _ _ h => (by cases h), fun _ _ _ h => (by cases h)⟩
  | succ k ih =>
    have hrec_13 := ih.1
    have hrec_26 := ih.2
    refine ⟨?_, ?_⟩
    · intro S i1 i2 h
      rw [fX11_first] at h
      have h := g_ip rfl h
      unfold bX11_first_13 at h
      refine zX11_first_13  ?_
      refine ⟨fun c => ?_, fun c => ?_⟩
      · have h := g_ip c h
        cases h; exact ⟨rfl, rfl⟩
      · have h := g_in c h
        obtain ⟨S1, x2, hc, h⟩ := g_b2s h
        refine ⟨4, _, (by decide), CX11_passTrialMinute  hc, ?_⟩
        rintro _ _ ⟨rfl, rfl⟩
        exact hrec_26 _ _ _  h
    · intro S i1 i2 h
      rw [fX11_first] at h
      have h := g_in (by decide) h
      have h := g_ip rfl h
      unfold bX11_first_26 at h
      refine zX11_first_26  ?_
      obtain ⟨hq1, h⟩ := g_fs h
      refine ⟨hq1, ?_⟩
      refine ⟨fun c => ?_, fun c => ?_⟩
      · have h := g_ip c h
        exact hrec_13 _ _ _  h
      · have h := g_in c h
        obtain ⟨S2, b3, hc, h⟩ := g_b2s h
        refine ⟨0, _, (by decide), CX9_ranOver is_53 hc, ?_⟩
        rintro _ _ ⟨rfl, rfl⟩
        refine ⟨fun c => ?_, fun c => ?_⟩
        · have h := g_bf c h
          exact hrec_26 _ _ _  h
        · have h := g_bt c h
          cases h; exact ⟨rfl, rfl⟩
theorem CX11_first {n : Nat} {S : gS} {R : gS × Int32}   (h : FX11_first S  = some R) : sCi 5 mX11_first n S [.ref (0)] (fun S2 x2 => S2 = R.1 ∧ x2 = R.2) := by
  unfold FX11_first at h
  refine gCj_of (by decide) (Nat.le_of_ble_eq_true rfl) rfl rfl (zX11_first_0  ?_)
  obtain ⟨S1, hc, h⟩ := g_b1s h
  refine ⟨1, _, (by decide), CX9_copyFrom is_53 is_49 hc, ?_⟩
  rintro _ rfl
  exact (lX11_first FU).1 _ _ _  h

noncomputable def bX11_great_36  (rec : Nat → gS → Int32 → Int32 → Int32 → Option (gS × Int32)) (S : gS) (i1 : Int32) (i2 : Int32) (i3 : Int32) : Option (gS × Int32) := if i1 ≤ i2 then (if isFb (sQ S 3) = true then (g_b2 (FX11_greatestOfRow S ((sI S ((sQ S 3)) 0))) (fun S2 x3 => some (S2, x3))) else none) else (g_b2 (FX11_passTrialMinute S ) (fun S4 x5 => rec 48 S4 (i1) (i2) ((0 : Int32))))
noncomputable def bX11_great_48  (rec : Nat → gS → Int32 → Int32 → Int32 → Option (gS × Int32)) (S : gS) (i1 : Int32) (i2 : Int32) (i3 : Int32) : Option (gS × Int32) := if isFb (sQ S 3) = true then (if (sI S ((sQ S 3)) 0) ≤ i3 then (rec 36 S (i1) ((i2 + 1)) 0) else (if g_vp (i3) 7 = true then (g_lt (uR S (179) (Int32.toNatClampNeg (i3)) (((sR S (179) (Int32.toNatClampNeg (i3))) + (sR S ((53 + 2)) (Int32.toNatClampNeg (i3)))))) (fun S3 => rec 48 S3 (i1) (i2) ((i3 + 1)))) else none)) else none
noncomputable def fX11_great  : Nat → Nat → gS → Int32 → Int32 → Int32 → Option (gS × Int32)
  | 0 => fun _ _ _ _ _ => none
  | k + 1 => fun pc S i1 i2 i3 => if pc = 36 then bX11_great_36  (fX11_great  k) S i1 i2 i3 else if pc = 48 then bX11_great_48  (fX11_great  k) S i1 i2 i3 else none
noncomputable def FX11_great (S : gS) (i1 : Int32) : Option (gS × Int32) := g_b2 (FX11_isAhead S (i1)) (fun S1 b2 => if b2 = true then (if isFb (sQ S1 3) = true then (if (sI S1 ((sQ S1 3)) 0) = 0 then (some (S1, (-1 : Int32))) else (g_b1 (FX11_emptyRow S1 ) (fun S4 => g_b1 (FX9_copyFrom S4 (53) (49)) (fun S5 => fX11_great  FU 36 S5 (i1) ((0 : Int32)) 0)))) else none) else (some (S1, (-1 : Int32))))
set_option maxRecDepth 100000 in
theorem lX11_great  {n : Nat} {R : gS × Int32} : ∀ k : Nat, (∀ (S : gS) (i1 : Int32) (i2 : Int32) (i3 : Int32) , fX11_great  k 36 S i1 i2 i3 = some R → gG 5 mX11_great 0 0 (g_Xj mX11_great n 0 0 (hPi (fun S2 x2 => S2 = R.1 ∧ x2 = R.2))) 36 n (hH S) [some (.ref (0)), some (.int (i1)), some (.int (i2)), none] [] 0 0) ∧ (∀ (S : gS) (i1 : Int32) (i2 : Int32) (i3 : Int32) , fX11_great  k 48 S i1 i2 i3 = some R → gG 5 mX11_great 0 0 (g_Xj mX11_great n 0 0 (hPi (fun S2 x2 => S2 = R.1 ∧ x2 = R.2))) 48 n (hH S) [some (.ref (0)), some (.int (i1)), some (.int (i2)), some (.int (i3))] [] 0 0) := by
  intro k
  induction k with
  | zero => exact ⟨fun _ _ _ _ h => (by cases h), fun _ _ _ _ h => (by cases h)⟩
  | succ k ih =>
    have hrec_36 := ih.1
    have hrec_48 := ih.2
    refine ⟨?_, ?_⟩
    · intro S i1 i2 i3 h
      rw [fX11_great] at h
      have h := g_ip rfl h
      unfold bX11_great_36 at h
      refine zX11_great_36  ?_
      refine ⟨fun c => ?_, fun c => ?_⟩
      · have h := g_ip c h
        obtain ⟨hq1, h⟩ := g_fs h
        refine ⟨hq1, ?_⟩
        obtain ⟨S2, x3, hc, h⟩ := g_b2s h
        refine ⟨0, _, (by decide), CX11_greatestOfRow  hc, ?_⟩
        rintro _ _ ⟨rfl, rfl⟩
        cases h; exact ⟨rfl, rfl⟩
      · have h := g_in c h
        obtain ⟨S4, x5, hc, h⟩ := g_b2s h
        refine ⟨4, _, (by decide), CX11_passTrialMinute  hc, ?_⟩
        rintro _ _ ⟨rfl, rfl⟩
        exact hrec_48 _ _ _ _  h
    · intro S i1 i2 i3 h
      rw [fX11_great] at h
      have h := g_in (by decide) h
      have h := g_ip rfl h
      unfold bX11_great_48 at h
      refine zX11_great_48  ?_
      obtain ⟨hq1, h⟩ := g_fs h
      refine ⟨hq1, ?_⟩
      refine ⟨fun c => ?_, fun c => ?_⟩
      · have h := g_ip c h
        exact hrec_36 _ _ _ _  h
      · have h := g_in c h
        obtain ⟨hv2, h⟩ := g_vs h
        refine ⟨hv2, ?_⟩
        intro S3 eS
        have h := g_lts eS h
        exact hrec_48 _ _ _ _  h
theorem CX11_great {n : Nat} {S : gS} {R : gS × Int32} {i1 : Int32}  (h : FX11_great S i1 = some R) : sCi 5 mX11_great n S [.ref (0), .int (i1)] (fun S2 x2 => S2 = R.1 ∧ x2 = R.2) := by
  unfold FX11_great at h
  refine gCj_of (by decide) (Nat.le_of_ble_eq_true rfl) rfl rfl (zX11_great_0  ?_)
  obtain ⟨S1, b2, hc, h⟩ := g_b2s h
  refine ⟨0, _, (by decide), CX11_isAhead  hc, ?_⟩
  rintro _ _ ⟨rfl, rfl⟩
  refine ⟨fun c => ?_, fun c => ?_⟩
  · have h := g_bf c h
    cases h; exact ⟨rfl, rfl⟩
  · have h := g_bt c h
    obtain ⟨hq3, h⟩ := g_fs h
    refine ⟨hq3, ?_⟩
    refine ⟨fun c => ?_, fun c => ?_⟩
    · have h := g_in c h
      obtain ⟨S4, hc, h⟩ := g_b1s h
      refine ⟨0, _, (by decide), CX11_emptyRow  hc, ?_⟩
      rintro _ rfl
      obtain ⟨S5, hc, h⟩ := g_b1s h
      refine ⟨1, _, (by decide), CX9_copyFrom is_53 is_49 hc, ?_⟩
      rintro _ rfl
      exact (lX11_great FU).1 _ _ _ _  h
    · have h := g_ip c h
      cases h; exact ⟨rfl, rfl⟩

noncomputable def bX11_twins_26  (rec : Nat → gS → Int32 → Int32 → Int32 → Option (gS × Int32)) (S : gS) (i1 : Int32) (i2 : Int32) (i3 : Int32) : Option (gS × Int32) := if i1 ≤ i2 then (rec 89 S 0 ((0 : Int32)) ((0 : Int32))) else (g_b2 (FX11_passTrialMinute S ) (fun S1 x2 => rec 38 S1 (i1) (i2) ((0 : Int32))))
noncomputable def bX11_twins_38  (rec : Nat → gS → Int32 → Int32 → Int32 → Option (gS × Int32)) (S : gS) (i1 : Int32) (i2 : Int32) (i3 : Int32) : Option (gS × Int32) := if isFb (sQ S 3) = true then (if (sI S ((sQ S 3)) 0) ≤ i3 then (rec 26 S (i1) ((i2 + 1)) 0) else (if g_vp (i3) 7 = true then (if isFb (sQ S 3) = true then (g_b2 (FX9_flowsUnlike S (53) (i3) ((sI S ((sQ S 3)) 0))) (fun S4 x5 => g_lt (uR S4 (179) (Int32.toNatClampNeg (i3)) (((sR S (179) (Int32.toNatClampNeg (i3))) ||| x5))) (fun S6 => rec 38 S6 (i1) (i2) ((i3 + 1))))) else none) else none)) else none
noncomputable def bX11_twins_89  (rec : Nat → gS → Int32 → Int32 → Int32 → Option (gS × Int32)) (S : gS) (i1 : Int32) (i2 : Int32) (i3 : Int32) : Option (gS × Int32) := if isFb (sQ S 3) = true then (if (sI S ((sQ S 3)) 0) ≤ i3 then (some (S, i2)) else (if isFb (sQ S 3) = true then (if g_vp (i3) 7 = true then (g_b2 (FJ6_bitCount_0f7a4 S (((sR S (179) (Int32.toNatClampNeg (i3))) >>> ((i3 + (1 : Int32)) &&& 31)))) (fun S4 x5 => rec 89 S4 0 ((i2 + ((((sI S ((sQ S 3)) 0) - (1 : Int32)) - i3) - x5))) ((i3 + 1)))) else none) else none)) else none
noncomputable def fX11_twins  : Nat → Nat → gS → Int32 → Int32 → Int32 → Option (gS × Int32)
  | 0 => fun _ _ _ _ _ => none
  | k + 1 => fun pc S i1 i2 i3 => if pc = 26 then bX11_twins_26  (fX11_twins  k) S i1 i2 i3 else if pc = 38 then bX11_twins_38  (fX11_twins  k) S i1 i2 i3 else if pc = 89 then bX11_twins_89  (fX11_twins  k) S i1 i2 i3 else none
noncomputable def FX11_twins (S : gS) (i1 : Int32) : Option (gS × Int32) := g_b2 (FX11_isAhead S (i1)) (fun S1 b2 => if b2 = true then (g_b1 (FX11_emptyRow S1 ) (fun S3 => g_b1 (FX9_copyFrom S3 (53) (49)) (fun S4 => fX11_twins  FU 26 S4 (i1) ((0 : Int32)) 0))) else (some (S1, (-1 : Int32))))
set_option maxRecDepth 100000 in
theorem lX11_twins  {n : Nat} {R : gS × Int32} : ∀ k : Nat, (∀ (S : gS) (i1 : Int32) (i2 : Int32) (i3 : Int32) , fX11_twins  k 26 S i1 i2 i3 = some R → gG 5 mX11_twins 0 0 (g_Xj mX11_twins n 0 0 (hPi (fun S2 x2 => S2 = R.1 ∧ x2 = R.2))) 26 n (hH S) [some (.ref (0)), some (.int (i1)), some (.int (i2)), none, none] [] 0 0) ∧ (∀ (S : gS) (i1 : Int32) (i2 : Int32) (i3 : Int32) , fX11_twins  k 38 S i1 i2 i3 = some R → gG 5 mX11_twins 0 0 (g_Xj mX11_twins n 0 0 (hPi (fun S2 x2 => S2 = R.1 ∧ x2 = R.2))) 38 n (hH S) [some (.ref (0)), some (.int (i1)), some (.int (i2)), some (.int (i3)), none] [] 0 0) ∧ (∀ (S : gS) (i1 : Int32) (i2 : Int32) (i3 : Int32) , fX11_twins  k 89 S i1 i2 i3 = some R → gG 5 mX11_twins 0 0 (g_Xj mX11_twins n 0 0 (hPi (fun S2 x2 => S2 = R.1 ∧ x2 = R.2))) 89 n (hH S) [some (.ref (0)), none, some (.int (i2)), some (.int (i3)), none] [] 0 0) := by
  intro k
  induction k with
  | zero => exact ⟨fun _ _ _ _ h => (by cases h), fun _ _ _ _ h => (by cases h), fun _ _ _ _ h => (by cases h)⟩
  | succ k ih =>
    have hrec_26 := ih.1
    have hrec_38 := ih.2.1
    have hrec_89 := ih.2.2
    refine ⟨?_, ?_, ?_⟩
    · intro S i1 i2 i3 h
      rw [fX11_twins] at h
      have h := g_ip rfl h
      unfold bX11_twins_26 at h
      refine zX11_twins_26  ?_
      refine ⟨fun c => ?_, fun c => ?_⟩
      · have h := g_ip c h
        exact hrec_89 _ _ _ _  h
      · have h := g_in c h
        obtain ⟨S1, x2, hc, h⟩ := g_b2s h
        refine ⟨4, _, (by decide), CX11_passTrialMinute  hc, ?_⟩
        rintro _ _ ⟨rfl, rfl⟩
        exact hrec_38 _ _ _ _  h
    · intro S i1 i2 i3 h
      rw [fX11_twins] at h
      have h := g_in (by decide) h
      have h := g_ip rfl h
      unfold bX11_twins_38 at h
      refine zX11_twins_38  ?_
      obtain ⟨hq1, h⟩ := g_fs h
      refine ⟨hq1, ?_⟩
      refine ⟨fun c => ?_, fun c => ?_⟩
      · have h := g_ip c h
        exact hrec_26 _ _ _ _  h
      · have h := g_in c h
        obtain ⟨hv2, h⟩ := g_vs h
        refine ⟨hv2, ?_⟩
        obtain ⟨hq3, h⟩ := g_fs h
        refine ⟨hq3, ?_⟩
        obtain ⟨S4, x5, hc, h⟩ := g_b2s h
        refine ⟨0, _, (by decide), CX9_flowsUnlike is_53 hc, ?_⟩
        rintro _ _ ⟨rfl, rfl⟩
        intro S6 eS
        have h := g_lts eS h
        exact hrec_38 _ _ _ _  h
    · intro S i1 i2 i3 h
      rw [fX11_twins] at h
      have h := g_in (by decide) h
      have h := g_in (by decide) h
      have h := g_ip rfl h
      unfold bX11_twins_89 at h
      refine zX11_twins_89  ?_
      obtain ⟨hq1, h⟩ := g_fs h
      refine ⟨hq1, ?_⟩
      refine ⟨fun c => ?_, fun c => ?_⟩
      · have h := g_ip c h
        cases h; exact ⟨rfl, rfl⟩
      · have h := g_in c h
        obtain ⟨hq2, h⟩ := g_fs h
        refine ⟨hq2, ?_⟩
        obtain ⟨hv3, h⟩ := g_vs h
        refine ⟨hv3, ?_⟩
        obtain ⟨S4, x5, hc, h⟩ := g_b2s h
        refine ⟨0, _, (by decide), CJ6_bitCount_0f7a4  hc, ?_⟩
        rintro _ _ ⟨rfl, rfl⟩
        exact hrec_89 _ _ _ _  h
theorem CX11_twins {n : Nat} {S : gS} {R : gS × Int32} {i1 : Int32}  (h : FX11_twins S i1 = some R) : sCi 5 mX11_twins n S [.ref (0), .int (i1)] (fun S2 x2 => S2 = R.1 ∧ x2 = R.2) := by
  unfold FX11_twins at h
  refine gCj_of (by decide) (Nat.le_of_ble_eq_true rfl) rfl rfl (zX11_twins_0  ?_)
  obtain ⟨S1, b2, hc, h⟩ := g_b2s h
  refine ⟨0, _, (by decide), CX11_isAhead  hc, ?_⟩
  rintro _ _ ⟨rfl, rfl⟩
  refine ⟨fun c => ?_, fun c => ?_⟩
  · have h := g_bt c h
    obtain ⟨S3, hc, h⟩ := g_b1s h
    refine ⟨0, _, (by decide), CX11_emptyRow  hc, ?_⟩
    rintro _ rfl
    obtain ⟨S4, hc, h⟩ := g_b1s h
    refine ⟨1, _, (by decide), CX9_copyFrom is_53 is_49 hc, ?_⟩
    rintro _ rfl
    exact (lX11_twins FU).1 _ _ _ _  h
  · have h := g_bf c h
    cases h; exact ⟨rfl, rfl⟩

noncomputable def FX11_down (S : gS) (i1 : Int32) : Option (gS × Int32) := g_b2 (FX11_isMouth S (i1)) (fun S1 b2 => if b2 = true then (if isFb (sQ S1 3) = true then (g_b2 (FX1_below S1 ((sQ S1 3)) (i1)) (fun S4 x5 => some (S4, x5))) else none) else (some (S1, (-1 : Int32))))
theorem CX11_down {n : Nat} {S : gS} {R : gS × Int32} {i1 : Int32}  (h : FX11_down S i1 = some R) : sCi 1 mX11_down n S [.ref (0), .int (i1)] (fun S2 x2 => S2 = R.1 ∧ x2 = R.2) := by
  unfold FX11_down at h
  refine gCj_of (by decide) (Nat.le_of_ble_eq_true rfl) rfl rfl (zX11_down_0  ?_)
  obtain ⟨S1, b2, hc, h⟩ := g_b2s h
  refine ⟨0, _, (by decide), CX11_isMouth  hc, ?_⟩
  rintro _ _ ⟨rfl, rfl⟩
  refine ⟨fun c => ?_, fun c => ?_⟩
  · have h := g_bf c h
    cases h; exact ⟨rfl, rfl⟩
  · have h := g_bt c h
    obtain ⟨hq3, h⟩ := g_fs h
    refine ⟨hq3, ?_⟩
    obtain ⟨S4, x5, hc, h⟩ := g_b2s h
    refine ⟨0, _, (by decide), CX1_below hq3 hc, ?_⟩
    rintro _ _ ⟨rfl, rfl⟩
    cases h; exact ⟨rfl, rfl⟩

noncomputable def bX11_up_14  (rec : Nat → gS → Int32 → Int32 → Int32 → Option (gS × Int32)) (S : gS) (i1 : Int32) (i2 : Int32) (i3 : Int32) : Option (gS × Int32) := if isFb (sQ S 3) = true then (if (sI S ((sQ S 3)) 0) ≤ i3 then (some (S, i2)) else (if isFb (sQ S 3) = true then (g_b2 (FX1_below S ((sQ S 3)) (i3)) (fun S3 x4 => if ((x4 >>> (i1 &&& 31)) &&& (1 : Int32)) = 0 then (rec 14 S3 (i1) (i2) ((i3 + 1))) else (rec 14 S3 (i1) ((i2 ||| ((1 : Int32) <<< (i3 &&& 31)))) ((i3 + 1))))) else none)) else none
noncomputable def fX11_up  : Nat → Nat → gS → Int32 → Int32 → Int32 → Option (gS × Int32)
  | 0 => fun _ _ _ _ _ => none
  | k + 1 => fun pc S i1 i2 i3 => if pc = 14 then bX11_up_14  (fX11_up  k) S i1 i2 i3 else none
noncomputable def FX11_up (S : gS) (i1 : Int32) : Option (gS × Int32) := g_b2 (FX11_isMouth S (i1)) (fun S1 b2 => if b2 = true then (fX11_up  FU 14 S1 (i1) ((0 : Int32)) ((0 : Int32))) else (some (S1, (-1 : Int32))))
set_option maxRecDepth 100000 in
theorem lX11_up  {n : Nat} {R : gS × Int32} : ∀ k : Nat, (∀ (S : gS) (i1 : Int32) (i2 : Int32) (i3 : Int32) , fX11_up  k 14 S i1 i2 i3 = some R → gG 1 mX11_up 0 0 (g_Xj mX11_up n 0 0 (hPi (fun S2 x2 => S2 = R.1 ∧ x2 = R.2))) 14 n (hH S) [some (.ref (0)), some (.int (i1)), some (.int (i2)), some (.int (i3))] [] 0 0) := by
  intro k
  induction k with
  | zero => exact fun _ _ _ _ h => (by cases h)
  | succ k ih =>
    have hrec_14 := ih
    · intro S i1 i2 i3 h
      rw [fX11_up] at h
      have h := g_ip rfl h
      unfold bX11_up_14 at h
      refine zX11_up_14  ?_
      obtain ⟨hq1, h⟩ := g_fs h
      refine ⟨hq1, ?_⟩
      refine ⟨fun c => ?_, fun c => ?_⟩
      · have h := g_ip c h
        cases h; exact ⟨rfl, rfl⟩
      · have h := g_in c h
        obtain ⟨hq2, h⟩ := g_fs h
        refine ⟨hq2, ?_⟩
        obtain ⟨S3, x4, hc, h⟩ := g_b2s h
        refine ⟨0, _, (by decide), CX1_below hq2 hc, ?_⟩
        rintro _ _ ⟨rfl, rfl⟩
        refine ⟨fun c => ?_, fun c => ?_⟩
        · have h := g_ip c h
          exact hrec_14 _ _ _ _  h
        · have h := g_in c h
          exact hrec_14 _ _ _ _  h
theorem CX11_up {n : Nat} {S : gS} {R : gS × Int32} {i1 : Int32}  (h : FX11_up S i1 = some R) : sCi 1 mX11_up n S [.ref (0), .int (i1)] (fun S2 x2 => S2 = R.1 ∧ x2 = R.2) := by
  unfold FX11_up at h
  refine gCj_of (by decide) (Nat.le_of_ble_eq_true rfl) rfl rfl (zX11_up_0  ?_)
  obtain ⟨S1, b2, hc, h⟩ := g_b2s h
  refine ⟨0, _, (by decide), CX11_isMouth  hc, ?_⟩
  rintro _ _ ⟨rfl, rfl⟩
  refine ⟨fun c => ?_, fun c => ?_⟩
  · have h := g_bt c h
    exact (lX11_up FU) _ _ _ _  h
  · have h := g_bf c h
    cases h; exact ⟨rfl, rfl⟩

noncomputable def bX11_often_2  (rec : Nat → gS → Int32 → Option (gS × Int32)) (S : gS) (i1 : Int32) : Option (gS × Int32) := if isFb (sQ S 3) = true then (if (sI S ((sQ S 3)) 8) ≤ i1 then (if isFb (sQ S 3) = true then (g_b2 (FX11_greatestOfRow S ((sI S ((sQ S 3)) 8))) (fun S3 x4 => if x4 = (-1 : Int32) then (some (S3, (-1 : Int32))) else (if g_vp (x4) 7 = true then (if (sR S3 (179) (Int32.toNatClampNeg (x4))) ≤ 0 then (some (S3, (-1 : Int32))) else (some (S3, x4))) else none))) else none) else (g_b2 (FX9_signsLike S (49) (i1)) (fun S6 x7 => if g_vp (i1) 7 = true then (g_lt (uR S6 (179) (Int32.toNatClampNeg (i1)) (x7)) (fun S9 => rec 2 S9 ((i1 + 1)))) else none))) else none
noncomputable def fX11_often  : Nat → Nat → gS → Int32 → Option (gS × Int32)
  | 0 => fun _ _ _ => none
  | k + 1 => fun pc S i1 => if pc = 2 then bX11_often_2  (fX11_often  k) S i1 else none
noncomputable def FX11_often (S : gS)  : Option (gS × Int32) := fX11_often  FU 2 S ((0 : Int32))
set_option maxRecDepth 100000 in
theorem lX11_often  {n : Nat} {R : gS × Int32} : ∀ k : Nat, (∀ (S : gS) (i1 : Int32) , fX11_often  k 2 S i1 = some R → gG 1 mX11_often 0 0 (g_Xj mX11_often n 0 0 (hPi (fun S2 x2 => S2 = R.1 ∧ x2 = R.2))) 2 n (hH S) [some (.ref (0)), some (.int (i1))] [] 0 0) := by
  intro k
  induction k with
  | zero => exact fun _ _ h => (by cases h)
  | succ k ih =>
    have hrec_2 := ih
    · intro S i1 h
      rw [fX11_often] at h
      have h := g_ip rfl h
      unfold bX11_often_2 at h
      refine zX11_often_2  ?_
      obtain ⟨hq1, h⟩ := g_fs h
      refine ⟨hq1, ?_⟩
      refine ⟨fun c => ?_, fun c => ?_⟩
      · have h := g_ip c h
        obtain ⟨hq2, h⟩ := g_fs h
        refine ⟨hq2, ?_⟩
        obtain ⟨S3, x4, hc, h⟩ := g_b2s h
        refine ⟨0, _, (by decide), CX11_greatestOfRow  hc, ?_⟩
        rintro _ _ ⟨rfl, rfl⟩
        refine ⟨fun c => ?_, fun c => ?_⟩
        · have h := g_ip c h
          cases h; exact ⟨rfl, rfl⟩
        · have h := g_in c h
          obtain ⟨hv5, h⟩ := g_vs h
          refine ⟨hv5, ?_⟩
          refine ⟨fun c => ?_, fun c => ?_⟩
          · have h := g_ip c h
            cases h; exact ⟨rfl, rfl⟩
          · have h := g_in c h
            cases h; exact ⟨rfl, rfl⟩
      · have h := g_in c h
        obtain ⟨S6, x7, hc, h⟩ := g_b2s h
        refine ⟨0, _, (by decide), CX9_signsLike is_49 hc, ?_⟩
        rintro _ _ ⟨rfl, rfl⟩
        obtain ⟨hv8, h⟩ := g_vs h
        refine ⟨hv8, ?_⟩
        intro S9 eS
        have h := g_lts eS h
        exact hrec_2 _ _  h
theorem CX11_often {n : Nat} {S : gS} {R : gS × Int32}   (h : FX11_often S  = some R) : sCi 1 mX11_often n S [.ref (0)] (fun S2 x2 => S2 = R.1 ∧ x2 = R.2) := by
  unfold FX11_often at h
  refine gCj_of (by decide) (Nat.le_of_ble_eq_true rfl) rfl rfl (zX11_often_0  ?_)
  exact (lX11_often FU) _ _  h

noncomputable def bX11_entire_13  (rec : Nat → gS → Int32 → Option (gS × Int32)) (S : gS) (i1 : Int32) : Option (gS × Int32) := if (60 : Int32) < i1 then (some (S, (-1 : Int32))) else (if isWdb (sQ S 7) = true then (g_b2 (FX9_placeOf S (53) ((sQ S 7))) (fun S2 x3 => if x3 = (-1 : Int32) then (g_b2 (FX11_passTrialMinute S2 ) (fun S4 x5 => rec 13 S4 ((i1 + 1)))) else (some (S2, i1)))) else none)
noncomputable def fX11_entire  : Nat → Nat → gS → Int32 → Option (gS × Int32)
  | 0 => fun _ _ _ => none
  | k + 1 => fun pc S i1 => if pc = 13 then bX11_entire_13  (fX11_entire  k) S i1 else none
noncomputable def FX11_entire (S : gS)  : Option (gS × Int32) := g_b1 (FX9_copyFrom S (53) (49)) (fun S1 => fX11_entire  FU 13 S1 ((0 : Int32)))
set_option maxRecDepth 100000 in
theorem lX11_entire  {n : Nat} {R : gS × Int32} : ∀ k : Nat, (∀ (S : gS) (i1 : Int32) , fX11_entire  k 13 S i1 = some R → gG 5 mX11_entire 0 0 (g_Xj mX11_entire n 0 0 (hPi (fun S2 x2 => S2 = R.1 ∧ x2 = R.2))) 13 n (hH S) [some (.ref (0)), some (.int (i1))] [] 0 0) := by
  intro k
  induction k with
  | zero => exact fun _ _ h => (by cases h)
  | succ k ih =>
    have hrec_13 := ih
    · intro S i1 h
      rw [fX11_entire] at h
      have h := g_ip rfl h
      unfold bX11_entire_13 at h
      refine zX11_entire_13  ?_
      refine ⟨fun c => ?_, fun c => ?_⟩
      · have h := g_ip c h
        cases h; exact ⟨rfl, rfl⟩
      · have h := g_in c h
        obtain ⟨hq1, h⟩ := g_wds h
        refine ⟨hq1, ?_⟩
        obtain ⟨S2, x3, hc, h⟩ := g_b2s h
        refine ⟨1, _, (by decide), CX9_placeOf is_53 hq1 hc, ?_⟩
        rintro _ _ ⟨rfl, rfl⟩
        refine ⟨fun c => ?_, fun c => ?_⟩
        · have h := g_ip c h
          obtain ⟨S4, x5, hc, h⟩ := g_b2s h
          refine ⟨4, _, (by decide), CX11_passTrialMinute  hc, ?_⟩
          rintro _ _ ⟨rfl, rfl⟩
          exact hrec_13 _ _  h
        · have h := g_in c h
          cases h; exact ⟨rfl, rfl⟩
theorem CX11_entire {n : Nat} {S : gS} {R : gS × Int32}   (h : FX11_entire S  = some R) : sCi 5 mX11_entire n S [.ref (0)] (fun S2 x2 => S2 = R.1 ∧ x2 = R.2) := by
  unfold FX11_entire at h
  refine gCj_of (by decide) (Nat.le_of_ble_eq_true rfl) rfl rfl (zX11_entire_0  ?_)
  obtain ⟨S1, hc, h⟩ := g_b1s h
  refine ⟨1, _, (by decide), CX9_copyFrom is_53 is_49 hc, ?_⟩
  rintro _ rfl
  exact (lX11_entire FU) _ _  h

noncomputable def bX11_aim_42  (rec : Nat → gS → Int32 → Int32 → Int32 → Int32 → Option (gS × Int32)) (S : gS) (i1 : Int32) (i2 : Int32) (i3 : Int32) (i4 : Int32) : Option (gS × Int32) := if (20 : Int32) < i3 then (some (S, (-2 : Int32))) else (rec 51 S (i1) (i2) (i3) ((0 : Int32)))
noncomputable def bX11_aim_51  (rec : Nat → gS → Int32 → Int32 → Int32 → Int32 → Option (gS × Int32)) (S : gS) (i1 : Int32) (i2 : Int32) (i3 : Int32) (i4 : Int32) : Option (gS × Int32) := if isFb (sQ S 3) = true then (if (sI S ((sQ S 3)) 0) ≤ i4 then (rec 42 S (i1) (i2) ((i3 + 1)) 0) else (g_b2 (FX11_isReadWith S (i1) (i4) (i3)) (fun S2 b3 => if b3 = true then (if i2 = 0 then (some (S2, i3)) else (some (S2, i4))) else (rec 51 S2 (i1) (i2) (i3) ((i4 + 1)))))) else none
noncomputable def fX11_aim  : Nat → Nat → gS → Int32 → Int32 → Int32 → Int32 → Option (gS × Int32)
  | 0 => fun _ _ _ _ _ _ => none
  | k + 1 => fun pc S i1 i2 i3 i4 => if pc = 42 then bX11_aim_42  (fX11_aim  k) S i1 i2 i3 i4 else if pc = 51 then bX11_aim_51  (fX11_aim  k) S i1 i2 i3 i4 else none
noncomputable def FX11_aim (S : gS) (i1 : Int32) (i2 : Int32) : Option (gS × Int32) := g_b2 (FX11_isLetter S (i1)) (fun S1 b2 => if b2 = true then (if i2 < 0 then (some (S1, (-2 : Int32))) else (if i2 ≤ (1 : Int32) then (g_b2 (FX11_isReadWith S1 (i1) ((-1 : Int32)) ((0 : Int32))) (fun S3 b4 => if b4 = true then (if i2 = 0 then (some (S3, (0 : Int32))) else (some (S3, (-1 : Int32)))) else (fX11_aim  FU 42 S3 (i1) (i2) ((1 : Int32)) 0))) else (some (S1, (-2 : Int32))))) else (some (S1, (-2 : Int32))))
set_option maxRecDepth 100000 in
theorem lX11_aim  {n : Nat} {R : gS × Int32} : ∀ k : Nat, (∀ (S : gS) (i1 : Int32) (i2 : Int32) (i3 : Int32) (i4 : Int32) , fX11_aim  k 42 S i1 i2 i3 i4 = some R → gG 6 mX11_aim 0 0 (g_Xj mX11_aim n 0 0 (hPi (fun S2 x2 => S2 = R.1 ∧ x2 = R.2))) 42 n (hH S) [some (.ref (0)), some (.int (i1)), some (.int (i2)), some (.int (i3)), none] [] 0 0) ∧ (∀ (S : gS) (i1 : Int32) (i2 : Int32) (i3 : Int32) (i4 : Int32) , fX11_aim  k 51 S i1 i2 i3 i4 = some R → gG 6 mX11_aim 0 0 (g_Xj mX11_aim n 0 0 (hPi (fun S2 x2 => S2 = R.1 ∧ x2 = R.2))) 51 n (hH S) [some (.ref (0)), some (.int (i1)), some (.int (i2)), some (.int (i3)), some (.int (i4))] [] 0 0) := by
  intro k
  induction k with
  | zero => exact ⟨fun _ _ _ _ _ h => (by cases h), fun _ _ _ _ _ h => (by cases h)⟩
  | succ k ih =>
    have hrec_42 := ih.1
    have hrec_51 := ih.2
    refine ⟨?_, ?_⟩
    · intro S i1 i2 i3 i4 h
      rw [fX11_aim] at h
      have h := g_ip rfl h
      unfold bX11_aim_42 at h
      refine zX11_aim_42  ?_
      refine ⟨fun c => ?_, fun c => ?_⟩
      · have h := g_ip c h
        cases h; exact ⟨rfl, rfl⟩
      · have h := g_in c h
        exact hrec_51 _ _ _ _ _  h
    · intro S i1 i2 i3 i4 h
      rw [fX11_aim] at h
      have h := g_in (by decide) h
      have h := g_ip rfl h
      unfold bX11_aim_51 at h
      refine zX11_aim_51  ?_
      obtain ⟨hq1, h⟩ := g_fs h
      refine ⟨hq1, ?_⟩
      refine ⟨fun c => ?_, fun c => ?_⟩
      · have h := g_ip c h
        exact hrec_42 _ _ _ _ _  h
      · have h := g_in c h
        obtain ⟨S2, b3, hc, h⟩ := g_b2s h
        refine ⟨5, _, (by decide), CX11_isReadWith  hc, ?_⟩
        rintro _ _ ⟨rfl, rfl⟩
        refine ⟨fun c => ?_, fun c => ?_⟩
        · have h := g_bf c h
          exact hrec_51 _ _ _ _ _  h
        · have h := g_bt c h
          refine ⟨fun c => ?_, fun c => ?_⟩
          · have h := g_in c h
            cases h; exact ⟨rfl, rfl⟩
          · have h := g_ip c h
            cases h; exact ⟨rfl, rfl⟩
theorem CX11_aim {n : Nat} {S : gS} {R : gS × Int32} {i1 : Int32} {i2 : Int32}  (h : FX11_aim S i1 i2 = some R) : sCi 6 mX11_aim n S [.ref (0), .int (i1), .int (i2)] (fun S2 x2 => S2 = R.1 ∧ x2 = R.2) := by
  unfold FX11_aim at h
  refine gCj_of (by decide) (Nat.le_of_ble_eq_true rfl) rfl rfl (zX11_aim_0  ?_)
  obtain ⟨S1, b2, hc, h⟩ := g_b2s h
  refine ⟨0, _, (by decide), CX11_isLetter  hc, ?_⟩
  rintro _ _ ⟨rfl, rfl⟩
  refine ⟨fun c => ?_, fun c => ?_⟩
  · have h := g_bf c h
    cases h; exact ⟨rfl, rfl⟩
  · have h := g_bt c h
    refine ⟨fun c => ?_, fun c => ?_⟩
    · have h := g_ip c h
      cases h; exact ⟨rfl, rfl⟩
    · have h := g_in c h
      refine ⟨fun c => ?_, fun c => ?_⟩
      · have h := g_ip c h
        obtain ⟨S3, b4, hc, h⟩ := g_b2s h
        refine ⟨5, _, (by decide), CX11_isReadWith  hc, ?_⟩
        rintro _ _ ⟨rfl, rfl⟩
        refine ⟨fun c => ?_, fun c => ?_⟩
        · have h := g_bf c h
          exact (lX11_aim FU).1 _ _ _ _ _  h
        · have h := g_bt c h
          refine ⟨fun c => ?_, fun c => ?_⟩
          · have h := g_in c h
            cases h; exact ⟨rfl, rfl⟩
          · have h := g_ip c h
            cases h; exact ⟨rfl, rfl⟩
      · have h := g_in c h
        cases h; exact ⟨rfl, rfl⟩

noncomputable def bX11_hush_29  (rec : Nat → gS → Int32 → Int32 → Int32 → Int32 → Int32 → Option (gS × Int32)) (S : gS) (i1 : Int32) (i2 : Int32) (i3 : Int32) (i4 : Int32) (i5 : Int32) : Option (gS × Int32) := if i4 ≤ i5 then (some (S, i2)) else (g_b2 (FJ6_bitCount_0f7a4 S (i5)) (fun S1 x2 => if i3 ≤ x2 then (rec 29 S1 (i1) (i2) (i3) (i4) ((i5 + 1))) else (g_b2 (FX11_isReadTurned S1 (i1) (i5)) (fun S3 b4 => if b4 = true then (g_b2 (FJ6_bitCount_0f7a4 S3 (i5)) (fun S5 x6 => rec 29 S5 (i1) (i5) (x6) (i4) ((i5 + 1)))) else (rec 29 S3 (i1) (i2) (i3) (i4) ((i5 + 1)))))))
noncomputable def fX11_hush  : Nat → Nat → gS → Int32 → Int32 → Int32 → Int32 → Int32 → Option (gS × Int32)
  | 0 => fun _ _ _ _ _ _ _ => none
  | k + 1 => fun pc S i1 i2 i3 i4 i5 => if pc = 29 then bX11_hush_29  (fX11_hush  k) S i1 i2 i3 i4 i5 else none
noncomputable def FX11_hush (S : gS) (i1 : Int32) : Option (gS × Int32) := g_b2 (FX11_isLetter S (i1)) (fun S1 b2 => if b2 = true then (if isFb (sQ S1 3) = true then (fX11_hush  FU 29 S1 (i1) ((-1 : Int32)) ((8 : Int32)) (((1 : Int32) <<< ((sI S1 ((sQ S1 3)) 0) &&& 31))) ((0 : Int32))) else none) else (some (S1, (-1 : Int32))))
set_option maxRecDepth 100000 in
theorem lX11_hush  {n : Nat} {R : gS × Int32} : ∀ k : Nat, (∀ (S : gS) (i1 : Int32) (i2 : Int32) (i3 : Int32) (i4 : Int32) (i5 : Int32) , fX11_hush  k 29 S i1 i2 i3 i4 i5 = some R → gG 6 mX11_hush 0 0 (g_Xj mX11_hush n 0 0 (hPi (fun S2 x2 => S2 = R.1 ∧ x2 = R.2))) 29 n (hH S) [some (.ref (0)), some (.int (i1)), some (.int (i2)), some (.int (i3)), some (.int (i4)), some (.int (i5))] [] 0 0) := by
  intro k
  induction k with
  | zero => exact fun _ _ _ _ _ _ h => (by cases h)
  | succ k ih =>
    have hrec_29 := ih
    · intro S i1 i2 i3 i4 i5 h
      rw [fX11_hush] at h
      have h := g_ip rfl h
      unfold bX11_hush_29 at h
      refine zX11_hush_29  ?_
      refine ⟨fun c => ?_, fun c => ?_⟩
      · have h := g_ip c h
        cases h; exact ⟨rfl, rfl⟩
      · have h := g_in c h
        obtain ⟨S1, x2, hc, h⟩ := g_b2s h
        refine ⟨0, _, (by decide), CJ6_bitCount_0f7a4  hc, ?_⟩
        rintro _ _ ⟨rfl, rfl⟩
        refine ⟨fun c => ?_, fun c => ?_⟩
        · have h := g_ip c h
          exact hrec_29 _ _ _ _ _ _  h
        · have h := g_in c h
          obtain ⟨S3, b4, hc, h⟩ := g_b2s h
          refine ⟨5, _, (by decide), CX11_isReadTurned  hc, ?_⟩
          rintro _ _ ⟨rfl, rfl⟩
          refine ⟨fun c => ?_, fun c => ?_⟩
          · have h := g_bf c h
            exact hrec_29 _ _ _ _ _ _  h
          · have h := g_bt c h
            obtain ⟨S5, x6, hc, h⟩ := g_b2s h
            refine ⟨0, _, (by decide), CJ6_bitCount_0f7a4  hc, ?_⟩
            rintro _ _ ⟨rfl, rfl⟩
            exact hrec_29 _ _ _ _ _ _  h
theorem CX11_hush {n : Nat} {S : gS} {R : gS × Int32} {i1 : Int32}  (h : FX11_hush S i1 = some R) : sCi 6 mX11_hush n S [.ref (0), .int (i1)] (fun S2 x2 => S2 = R.1 ∧ x2 = R.2) := by
  unfold FX11_hush at h
  refine gCj_of (by decide) (Nat.le_of_ble_eq_true rfl) rfl rfl (zX11_hush_0  ?_)
  obtain ⟨S1, b2, hc, h⟩ := g_b2s h
  refine ⟨0, _, (by decide), CX11_isLetter  hc, ?_⟩
  rintro _ _ ⟨rfl, rfl⟩
  refine ⟨fun c => ?_, fun c => ?_⟩
  · have h := g_bt c h
    obtain ⟨hq3, h⟩ := g_fs h
    refine ⟨hq3, ?_⟩
    exact (lX11_hush FU) _ _ _ _ _ _  h
  · have h := g_bf c h
    cases h; exact ⟨rfl, rfl⟩

noncomputable def FX11_see (S : gS) (i1 : Int32) (i2 : Int32) : Option (gS × Bool) := g_b2 (FX11_isMouth S (i1)) (fun S1 b2 => if b2 = true then (g_b2 (FX7_add S1 (46) (i1) (i2)) (fun S3 b4 => if b4 = true then (some (S3, true)) else (some (S3, false)))) else (some (S1, false)))
theorem CX11_see {n : Nat} {S : gS} {R : gS × Bool} {i1 : Int32} {i2 : Int32}  (h : FX11_see S i1 i2 = some R) : sCz 1 mX11_see n S [.ref (0), .int (i1), .int (i2)] (fun S2 x2 => S2 = R.1 ∧ x2 = R.2) := by
  unfold FX11_see at h
  refine gCz_of (by decide) (Nat.le_of_ble_eq_true rfl) rfl rfl (zX11_see_0  ?_)
  obtain ⟨S1, b2, hc, h⟩ := g_b2s h
  refine ⟨0, _, (by decide), CX11_isMouth  hc, ?_⟩
  rintro _ _ ⟨rfl, rfl⟩
  refine ⟨fun c => ?_, fun c => ?_⟩
  · have h := g_bf c h
    cases h; exact ⟨rfl, rfl⟩
  · have h := g_bt c h
    obtain ⟨S3, b4, hc, h⟩ := g_b2s h
    refine ⟨0, _, (by decide), CX7_add is_46 hc, ?_⟩
    rintro _ _ ⟨rfl, rfl⟩
    refine ⟨fun c => ?_, fun c => ?_⟩
    · have h := g_bf c h
      cases h; exact ⟨rfl, rfl⟩
    · have h := g_bt c h
      cases h; exact ⟨rfl, rfl⟩

noncomputable def bX11_rains_4  (rec : Nat → gS → Int32 → Int32 → Option (gS × Int32)) (S : gS) (i1 : Int32) (i2 : Int32) : Option (gS × Int32) := if (10 : Int32) ≤ i2 then (some (S, i1)) else (g_b2 (FX11_soundingIn S (i2)) (fun S1 x2 => g_b2 (FX7_agreesWith S1 (46) (x2)) (fun S3 b4 => if b4 = true then (rec 4 S3 ((i1 ||| ((1 : Int32) <<< (i2 &&& 31)))) ((i2 + 1))) else (rec 4 S3 (i1) ((i2 + 1))))))
noncomputable def fX11_rains  : Nat → Nat → gS → Int32 → Int32 → Option (gS × Int32)
  | 0 => fun _ _ _ _ => none
  | k + 1 => fun pc S i1 i2 => if pc = 4 then bX11_rains_4  (fX11_rains  k) S i1 i2 else none
noncomputable def FX11_rains (S : gS)  : Option (gS × Int32) := fX11_rains  FU 4 S ((0 : Int32)) ((0 : Int32))
set_option maxRecDepth 100000 in
theorem lX11_rains  {n : Nat} {R : gS × Int32} : ∀ k : Nat, (∀ (S : gS) (i1 : Int32) (i2 : Int32) , fX11_rains  k 4 S i1 i2 = some R → gG 5 mX11_rains 0 0 (g_Xj mX11_rains n 0 0 (hPi (fun S2 x2 => S2 = R.1 ∧ x2 = R.2))) 4 n (hH S) [some (.ref (0)), some (.int (i1)), some (.int (i2))] [] 0 0) := by
  intro k
  induction k with
  | zero => exact fun _ _ _ h => (by cases h)
  | succ k ih =>
    have hrec_4 := ih
    · intro S i1 i2 h
      rw [fX11_rains] at h
      have h := g_ip rfl h
      unfold bX11_rains_4 at h
      refine zX11_rains_4  ?_
      refine ⟨fun c => ?_, fun c => ?_⟩
      · have h := g_ip c h
        cases h; exact ⟨rfl, rfl⟩
      · have h := g_in c h
        obtain ⟨S1, x2, hc, h⟩ := g_b2s h
        refine ⟨4, _, (by decide), CX11_soundingIn  hc, ?_⟩
        rintro _ _ ⟨rfl, rfl⟩
        obtain ⟨S3, b4, hc, h⟩ := g_b2s h
        refine ⟨0, _, (by decide), CX7_agreesWith is_46 hc, ?_⟩
        rintro _ _ ⟨rfl, rfl⟩
        refine ⟨fun c => ?_, fun c => ?_⟩
        · have h := g_bf c h
          exact hrec_4 _ _ _  h
        · have h := g_bt c h
          exact hrec_4 _ _ _  h
theorem CX11_rains {n : Nat} {S : gS} {R : gS × Int32}   (h : FX11_rains S  = some R) : sCi 5 mX11_rains n S [.ref (0)] (fun S2 x2 => S2 = R.1 ∧ x2 = R.2) := by
  unfold FX11_rains at h
  refine gCj_of (by decide) (Nat.le_of_ble_eq_true rfl) rfl rfl (zX11_rains_0  ?_)
  exact (lX11_rains FU) _ _ _  h

noncomputable def bX11_look_8  (rec : Nat → gS → Int32 → Int32 → Int32 → Int32 → Option (gS × Int32)) (S : gS) (i1 : Int32) (i2 : Int32) (i3 : Int32) (i4 : Int32) : Option (gS × Int32) := if (10 : Int32) ≤ i2 then (rec 52 S (i1) ((-1 : Int32)) (i1) ((0 : Int32))) else (g_b2 (FX11_soundingIn S (i2)) (fun S1 x2 => g_b2 (FX7_agreesWith S1 (46) (x2)) (fun S3 b4 => if b4 = true then (g_b1 (FX11_addBitsToRow S3 (x2)) (fun S5 => rec 8 S5 ((i1 + 1)) ((i2 + 1)) 0 0)) else (rec 8 S3 (i1) ((i2 + 1)) 0 0))))
noncomputable def bX11_look_52  (rec : Nat → gS → Int32 → Int32 → Int32 → Int32 → Option (gS × Int32)) (S : gS) (i1 : Int32) (i2 : Int32) (i3 : Int32) (i4 : Int32) : Option (gS × Int32) := if isFb (sQ S 3) = true then (if (sI S ((sQ S 3)) 0) ≤ i4 then (some (S, i2)) else (if g_vp (i4) 7 = true then (if i3 ≤ (if (sR S (179) (Int32.toNatClampNeg (i4))) < (i1 - (sR S (179) (Int32.toNatClampNeg (i4)))) then (i1 - (sR S (179) (Int32.toNatClampNeg (i4)))) else (sR S (179) (Int32.toNatClampNeg (i4)))) then (rec 52 S (i1) (i2) (i3) ((i4 + 1))) else (rec 52 S (i1) (i4) ((if (sR S (179) (Int32.toNatClampNeg (i4))) < (i1 - (sR S (179) (Int32.toNatClampNeg (i4)))) then (i1 - (sR S (179) (Int32.toNatClampNeg (i4)))) else (sR S (179) (Int32.toNatClampNeg (i4))))) ((i4 + 1)))) else none)) else none
noncomputable def fX11_look  : Nat → Nat → gS → Int32 → Int32 → Int32 → Int32 → Option (gS × Int32)
  | 0 => fun _ _ _ _ _ _ => none
  | k + 1 => fun pc S i1 i2 i3 i4 => if pc = 8 then bX11_look_8  (fX11_look  k) S i1 i2 i3 i4 else if pc = 52 then bX11_look_52  (fX11_look  k) S i1 i2 i3 i4 else none
noncomputable def FX11_look (S : gS)  : Option (gS × Int32) := g_b1 (FX11_emptyRow S ) (fun S1 => fX11_look  FU 8 S1 ((0 : Int32)) ((0 : Int32)) 0 0)
set_option maxRecDepth 100000 in
theorem lX11_look  {n : Nat} {R : gS × Int32} : ∀ k : Nat, (∀ (S : gS) (i1 : Int32) (i2 : Int32) (i3 : Int32) (i4 : Int32) , fX11_look  k 8 S i1 i2 i3 i4 = some R → gG 5 mX11_look 0 0 (g_Xj mX11_look n 0 0 (hPi (fun S2 x2 => S2 = R.1 ∧ x2 = R.2))) 8 n (hH S) [some (.ref (0)), some (.int (i1)), some (.int (i2)), none, none, none] [] 0 0) ∧ (∀ (S : gS) (i1 : Int32) (i2 : Int32) (i3 : Int32) (i4 : Int32) , fX11_look  k 52 S i1 i2 i3 i4 = some R → gG 5 mX11_look 0 0 (g_Xj mX11_look n 0 0 (hPi (fun S2 x2 => S2 = R.1 ∧ x2 = R.2))) 52 n (hH S) [some (.ref (0)), some (.int (i1)), some (.int (i2)), some (.int (i3)), some (.int (i4)), none] [] 0 0) := by
  intro k
  induction k with
  | zero => exact ⟨fun _ _ _ _ _ h => (by cases h), fun _ _ _ _ _ h => (by cases h)⟩
  | succ k ih =>
    have hrec_8 := ih.1
    have hrec_52 := ih.2
    refine ⟨?_, ?_⟩
    · intro S i1 i2 i3 i4 h
      rw [fX11_look] at h
      have h := g_ip rfl h
      unfold bX11_look_8 at h
      refine zX11_look_8  ?_
      refine ⟨fun c => ?_, fun c => ?_⟩
      · have h := g_ip c h
        exact hrec_52 _ _ _ _ _  h
      · have h := g_in c h
        obtain ⟨S1, x2, hc, h⟩ := g_b2s h
        refine ⟨4, _, (by decide), CX11_soundingIn  hc, ?_⟩
        rintro _ _ ⟨rfl, rfl⟩
        obtain ⟨S3, b4, hc, h⟩ := g_b2s h
        refine ⟨0, _, (by decide), CX7_agreesWith is_46 hc, ?_⟩
        rintro _ _ ⟨rfl, rfl⟩
        refine ⟨fun c => ?_, fun c => ?_⟩
        · have h := g_bf c h
          exact hrec_8 _ _ _ _ _  h
        · have h := g_bt c h
          obtain ⟨S5, hc, h⟩ := g_b1s h
          refine ⟨0, _, (by decide), CX11_addBitsToRow  hc, ?_⟩
          rintro _ rfl
          exact hrec_8 _ _ _ _ _  h
    · intro S i1 i2 i3 i4 h
      rw [fX11_look] at h
      have h := g_in (by decide) h
      have h := g_ip rfl h
      unfold bX11_look_52 at h
      refine zX11_look_52 (by decide) ?_
      obtain ⟨hq1, h⟩ := g_fs h
      refine ⟨hq1, ?_⟩
      refine ⟨fun c => ?_, fun c => ?_⟩
      · have h := g_ip c h
        cases h; exact ⟨rfl, rfl⟩
      · have h := g_in c h
        obtain ⟨hv2, h⟩ := g_vs h
        refine ⟨hv2, ?_⟩
        refine ⟨fun c => ?_, fun c => ?_⟩
        · have h := g_ip c h
          exact hrec_52 _ _ _ _ _  h
        · have h := g_in c h
          exact hrec_52 _ _ _ _ _  h
theorem CX11_look {n : Nat} {S : gS} {R : gS × Int32}   (h : FX11_look S  = some R) : sCi 5 mX11_look n S [.ref (0)] (fun S2 x2 => S2 = R.1 ∧ x2 = R.2) := by
  unfold FX11_look at h
  refine gCj_of (by decide) (Nat.le_of_ble_eq_true rfl) rfl rfl (zX11_look_0  ?_)
  obtain ⟨S1, hc, h⟩ := g_b1s h
  refine ⟨0, _, (by decide), CX11_emptyRow  hc, ?_⟩
  rintro _ rfl
  exact (lX11_look FU).1 _ _ _ _ _  h

noncomputable def bX11_chance_18  (rec : Nat → gS → Int32 → Int32 → Int32 → Int32 → Int32 → Int32 → Int32 → Option (gS × Int32)) (S : gS) (i1 : Int32) (i2 : Int32) (i3 : Int32) (i4 : Int32) (i5 : Int32) (i6 : Int32) (i7 : Int32) : Option (gS × Int32) := g_b2 (FX11_isLetter S (i1)) (fun S1 b2 => if b2 = true then (if i4 = 0 then (some (S1, (-1 : Int32))) else (if i3 < 0 then (some (S1, (-1 : Int32))) else (if i3 ≤ (10 : Int32) then (rec 54 S1 (i1) (i2) (i3) 0 ((0 : Int32)) (((1 : Int32) <<< (i2 &&& 31))) ((0 : Int32))) else (some (S1, (-1 : Int32)))))) else (some (S1, (-1 : Int32))))
noncomputable def bX11_chance_54  (rec : Nat → gS → Int32 → Int32 → Int32 → Int32 → Int32 → Int32 → Int32 → Option (gS × Int32)) (S : gS) (i1 : Int32) (i2 : Int32) (i3 : Int32) (i4 : Int32) (i5 : Int32) (i6 : Int32) (i7 : Int32) : Option (gS × Int32) := if i6 ≤ i7 then (rec 102 S 0 0 0 0 (i5) 0 (i2)) else (g_b2 (FX11_weightOf S (i7) (i2) (i3)) (fun S1 x2 => if x2 ≤ 0 then (rec 54 S1 (i1) (i2) (i3) 0 (i5) (i6) ((i7 + 1))) else (g_b2 (FX11_isReadInOddRain S1 (i1) (i7) (i2)) (fun S3 b4 => if b4 = true then (rec 54 S3 (i1) (i2) (i3) 0 ((i5 + x2)) (i6) ((i7 + 1))) else (rec 54 S3 (i1) (i2) (i3) 0 (i5) (i6) ((i7 + 1)))))))
noncomputable def bX11_chance_102  (rec : Nat → gS → Int32 → Int32 → Int32 → Int32 → Int32 → Int32 → Int32 → Option (gS × Int32)) (S : gS) (i1 : Int32) (i2 : Int32) (i3 : Int32) (i4 : Int32) (i5 : Int32) (i6 : Int32) (i7 : Int32) : Option (gS × Int32) := if (6 : Int32) ≤ i7 then (some (S, i5)) else (rec 102 S 0 0 0 0 ((i5 * (10 : Int32))) 0 ((i7 + 1)))
noncomputable def fX11_chance  : Nat → Nat → gS → Int32 → Int32 → Int32 → Int32 → Int32 → Int32 → Int32 → Option (gS × Int32)
  | 0 => fun _ _ _ _ _ _ _ _ _ => none
  | k + 1 => fun pc S i1 i2 i3 i4 i5 i6 i7 => if pc = 18 then bX11_chance_18  (fX11_chance  k) S i1 i2 i3 i4 i5 i6 i7 else if pc = 54 then bX11_chance_54  (fX11_chance  k) S i1 i2 i3 i4 i5 i6 i7 else if pc = 102 then bX11_chance_102  (fX11_chance  k) S i1 i2 i3 i4 i5 i6 i7 else none
noncomputable def FX11_chance (S : gS) (i1 : Int32) (i2 : Int32) (i3 : Int32) : Option (gS × Int32) := if i2 < (1 : Int32) then (fX11_chance  FU 18 S (i1) (i2) (i3) ((0 : Int32)) 0 0 0) else (if (6 : Int32) < i2 then (fX11_chance  FU 18 S (i1) (i2) (i3) ((0 : Int32)) 0 0 0) else (fX11_chance  FU 18 S (i1) (i2) (i3) ((1 : Int32)) 0 0 0))
set_option maxRecDepth 100000 in
theorem lX11_chance  {n : Nat} {R : gS × Int32} : ∀ k : Nat, (∀ (S : gS) (i1 : Int32) (i2 : Int32) (i3 : Int32) (i4 : Int32) (i5 : Int32) (i6 : Int32) (i7 : Int32) , fX11_chance  k 18 S i1 i2 i3 i4 i5 i6 i7 = some R → gG 5 mX11_chance 0 0 (g_Xj mX11_chance n 0 0 (hPi (fun S2 x2 => S2 = R.1 ∧ x2 = R.2))) 18 n (hH S) [some (.ref (0)), some (.int (i1)), some (.int (i2)), some (.int (i3)), some (.int (i4)), none, none, none, none] [] 0 0) ∧ (∀ (S : gS) (i1 : Int32) (i2 : Int32) (i3 : Int32) (i4 : Int32) (i5 : Int32) (i6 : Int32) (i7 : Int32) , fX11_chance  k 54 S i1 i2 i3 i4 i5 i6 i7 = some R → gG 5 mX11_chance 0 0 (g_Xj mX11_chance n 0 0 (hPi (fun S2 x2 => S2 = R.1 ∧ x2 = R.2))) 54 n (hH S) [some (.ref (0)), some (.int (i1)), some (.int (i2)), some (.int (i3)), none, some (.int (i5)), some (.int (i6)), some (.int (i7)), none] [] 0 0) ∧ (∀ (S : gS) (i1 : Int32) (i2 : Int32) (i3 : Int32) (i4 : Int32) (i5 : Int32) (i6 : Int32) (i7 : Int32) , fX11_chance  k 102 S i1 i2 i3 i4 i5 i6 i7 = some R → gG 5 mX11_chance 0 0 (g_Xj mX11_chance n 0 0 (hPi (fun S2 x2 => S2 = R.1 ∧ x2 = R.2))) 102 n (hH S) [none, none, none, none, none, some (.int (i5)), none, some (.int (i7)), none] [] 0 0) := by
  intro k
  induction k with
  | zero => exact ⟨fun _ _ _ _ _ _ _ _ h => (by cases h), fun _ _ _ _ _ _ _ _ h => (by cases h), fun _ _ _ _ _ _ _ _ h => (by cases h)⟩
  | succ k ih =>
    have hrec_18 := ih.1
    have hrec_54 := ih.2.1
    have hrec_102 := ih.2.2
    refine ⟨?_, ?_, ?_⟩
    · intro S i1 i2 i3 i4 i5 i6 i7 h
      rw [fX11_chance] at h
      have h := g_ip rfl h
      unfold bX11_chance_18 at h
      refine zX11_chance_18  ?_
      obtain ⟨S1, b2, hc, h⟩ := g_b2s h
      refine ⟨0, _, (by decide), CX11_isLetter  hc, ?_⟩
      rintro _ _ ⟨rfl, rfl⟩
      refine ⟨fun c => ?_, fun c => ?_⟩
      · have h := g_bf c h
        cases h; exact ⟨rfl, rfl⟩
      · have h := g_bt c h
        refine ⟨fun c => ?_, fun c => ?_⟩
        · have h := g_ip c h
          cases h; exact ⟨rfl, rfl⟩
        · have h := g_in c h
          refine ⟨fun c => ?_, fun c => ?_⟩
          · have h := g_ip c h
            cases h; exact ⟨rfl, rfl⟩
          · have h := g_in c h
            refine ⟨fun c => ?_, fun c => ?_⟩
            · have h := g_ip c h
              exact hrec_54 _ _ _ _ _ _ _ _  h
            · have h := g_in c h
              cases h; exact ⟨rfl, rfl⟩
    · intro S i1 i2 i3 i4 i5 i6 i7 h
      rw [fX11_chance] at h
      have h := g_in (by decide) h
      have h := g_ip rfl h
      unfold bX11_chance_54 at h
      refine zX11_chance_54  ?_
      refine ⟨fun c => ?_, fun c => ?_⟩
      · have h := g_ip c h
        exact hrec_102 _ _ _ _ _ _ _ _  h
      · have h := g_in c h
        obtain ⟨S1, x2, hc, h⟩ := g_b2s h
        refine ⟨0, _, (by decide), CX11_weightOf  hc, ?_⟩
        rintro _ _ ⟨rfl, rfl⟩
        refine ⟨fun c => ?_, fun c => ?_⟩
        · have h := g_ip c h
          exact hrec_54 _ _ _ _ _ _ _ _  h
        · have h := g_in c h
          obtain ⟨S3, b4, hc, h⟩ := g_b2s h
          refine ⟨4, _, (by decide), CX11_isReadInOddRain  hc, ?_⟩
          rintro _ _ ⟨rfl, rfl⟩
          refine ⟨fun c => ?_, fun c => ?_⟩
          · have h := g_bf c h
            exact hrec_54 _ _ _ _ _ _ _ _  h
          · have h := g_bt c h
            exact hrec_54 _ _ _ _ _ _ _ _  h
    · intro S i1 i2 i3 i4 i5 i6 i7 h
      rw [fX11_chance] at h
      have h := g_in (by decide) h
      have h := g_in (by decide) h
      have h := g_ip rfl h
      unfold bX11_chance_102 at h
      refine zX11_chance_102  ?_
      refine ⟨fun c => ?_, fun c => ?_⟩
      · have h := g_ip c h
        cases h; exact ⟨rfl, rfl⟩
      · have h := g_in c h
        exact hrec_102 _ _ _ _ _ _ _ _  h
theorem CX11_chance {n : Nat} {S : gS} {R : gS × Int32} {i1 : Int32} {i2 : Int32} {i3 : Int32}  (h : FX11_chance S i1 i2 i3 = some R) : sCi 5 mX11_chance n S [.ref (0), .int (i1), .int (i2), .int (i3)] (fun S2 x2 => S2 = R.1 ∧ x2 = R.2) := by
  unfold FX11_chance at h
  refine gCj_of (by decide) (Nat.le_of_ble_eq_true rfl) rfl rfl (zX11_chance_0  ?_)
  refine ⟨fun c => ?_, fun c => ?_⟩
  · have h := g_ip c h
    exact (lX11_chance FU).1 _ _ _ _ _ _ _ _  h
  · have h := g_in c h
    refine ⟨fun c => ?_, fun c => ?_⟩
    · have h := g_ip c h
      exact (lX11_chance FU).1 _ _ _ _ _ _ _ _  h
    · have h := g_in c h
      exact (lX11_chance FU).1 _ _ _ _ _ _ _ _  h

noncomputable def bX11_isRest_42  (rec : Nat → gS → Int32 → Int32 → Int32 → Int32 → Int32 → Int32 → Int32 → Option (gS × Bool)) (S : gS) (i0 : Int32) (i1 : Int32) (i2 : Int32) (i4 : Int32) (i5 : Int32) (i6 : Int32) (i7 : Int32) : Option (gS × Bool) := g_b2 (FX11_gain S (i0) (i1) (i2) (i5) (i4)) (fun S1 x2 => g_b2 (FX11_gain S1 (i0) (i1) (i2) (((1 : Int32) - i5)) (i4)) (fun S3 x4 => if x2 < x4 then (rec 74 S3 0 0 0 0 0 (i6) ((0 : Int32))) else (rec 74 S3 0 0 0 0 0 (i6) ((1 : Int32)))))
noncomputable def bX11_isRest_74  (rec : Nat → gS → Int32 → Int32 → Int32 → Int32 → Int32 → Int32 → Int32 → Option (gS × Bool)) (S : gS) (i0 : Int32) (i1 : Int32) (i2 : Int32) (i4 : Int32) (i5 : Int32) (i6 : Int32) (i7 : Int32) : Option (gS × Bool) := if i6 = 0 then (some (S, false)) else (if i7 = 0 then (some (S, false)) else (some (S, true)))
noncomputable def fX11_isRest  : Nat → Nat → gS → Int32 → Int32 → Int32 → Int32 → Int32 → Int32 → Int32 → Option (gS × Bool)
  | 0 => fun _ _ _ _ _ _ _ _ _ => none
  | k + 1 => fun pc S i0 i1 i2 i4 i5 i6 i7 => if pc = 42 then bX11_isRest_42  (fX11_isRest  k) S i0 i1 i2 i4 i5 i6 i7 else if pc = 74 then bX11_isRest_74  (fX11_isRest  k) S i0 i1 i2 i4 i5 i6 i7 else none
noncomputable def FX11_isRest (S : gS) (i0 : Int32) (i1 : Int32) (i2 : Int32) (i3 : Int32) : Option (gS × Bool) := g_b2 (FX11_gain S (i0) (i1) (i2) ((i3 >>> ((1 : Int32) &&& 31))) ((i3 &&& (1 : Int32)))) (fun S1 x2 => g_b2 (FX11_gain S1 (i0) (i1) (i2) (((1 : Int32) - (i3 >>> ((1 : Int32) &&& 31)))) ((i3 &&& (1 : Int32)))) (fun S3 x4 => if x2 < x4 then (fX11_isRest  FU 42 S3 (i0) (i1) (i2) ((i3 >>> ((1 : Int32) &&& 31))) ((i3 &&& (1 : Int32))) ((0 : Int32)) 0) else (fX11_isRest  FU 42 S3 (i0) (i1) (i2) ((i3 >>> ((1 : Int32) &&& 31))) ((i3 &&& (1 : Int32))) ((1 : Int32)) 0)))
set_option maxRecDepth 100000 in
theorem lX11_isRest  {n : Nat} {R : gS × Bool} : ∀ k : Nat, (∀ (S : gS) (i0 : Int32) (i1 : Int32) (i2 : Int32) (i4 : Int32) (i5 : Int32) (i6 : Int32) (i7 : Int32) , fX11_isRest  k 42 S i0 i1 i2 i4 i5 i6 i7 = some R → gG 1 mX11_isRest 0 0 (g_Xz mX11_isRest n 0 0 (hPz (fun S2 x2 => S2 = R.1 ∧ x2 = R.2))) 42 n (hH S) [some (.int (i0)), some (.int (i1)), some (.int (i2)), none, some (.int (i4)), some (.int (i5)), some (.int (i6)), none] [] 0 0) ∧ (∀ (S : gS) (i0 : Int32) (i1 : Int32) (i2 : Int32) (i4 : Int32) (i5 : Int32) (i6 : Int32) (i7 : Int32) , fX11_isRest  k 74 S i0 i1 i2 i4 i5 i6 i7 = some R → gG 1 mX11_isRest 0 0 (g_Xz mX11_isRest n 0 0 (hPz (fun S2 x2 => S2 = R.1 ∧ x2 = R.2))) 74 n (hH S) [none, none, none, none, none, none, some (.int (i6)), some (.int (i7))] [] 0 0) := by
  intro k
  induction k with
  | zero => exact ⟨fun _ _ _ _ _ _ _ _ h => (by cases h), fun _ _ _ _ _ _ _ _ h => (by cases h)⟩
  | succ k ih =>
    have hrec_42 := ih.1
    have hrec_74 := ih.2
    refine ⟨?_, ?_⟩
    · intro S i0 i1 i2 i4 i5 i6 i7 h
      rw [fX11_isRest] at h
      have h := g_ip rfl h
      unfold bX11_isRest_42 at h
      refine zX11_isRest_42  ?_
      obtain ⟨S1, x2, hc, h⟩ := g_b2s h
      refine ⟨0, _, (by decide), CX11_gain  hc, ?_⟩
      rintro _ _ ⟨rfl, rfl⟩
      obtain ⟨S3, x4, hc, h⟩ := g_b2s h
      refine ⟨0, _, (by decide), CX11_gain  hc, ?_⟩
      rintro _ _ ⟨rfl, rfl⟩
      refine ⟨fun c => ?_, fun c => ?_⟩
      · have h := g_ip c h
        exact hrec_74 _ _ _ _ _ _ _ _  h
      · have h := g_in c h
        exact hrec_74 _ _ _ _ _ _ _ _  h
    · intro S i0 i1 i2 i4 i5 i6 i7 h
      rw [fX11_isRest] at h
      have h := g_in (by decide) h
      have h := g_ip rfl h
      unfold bX11_isRest_74 at h
      refine zX11_isRest_74  ?_
      refine ⟨fun c => ?_, fun c => ?_⟩
      · have h := g_ip c h
        cases h; exact ⟨rfl, rfl⟩
      · have h := g_in c h
        refine ⟨fun c => ?_, fun c => ?_⟩
        · have h := g_ip c h
          cases h; exact ⟨rfl, rfl⟩
        · have h := g_in c h
          cases h; exact ⟨rfl, rfl⟩
theorem CX11_isRest {n : Nat} {S : gS} {R : gS × Bool} {i0 : Int32} {i1 : Int32} {i2 : Int32} {i3 : Int32}  (h : FX11_isRest S i0 i1 i2 i3 = some R) : sCz 1 mX11_isRest n S [.int (i0), .int (i1), .int (i2), .int (i3)] (fun S2 x2 => S2 = R.1 ∧ x2 = R.2) := by
  unfold FX11_isRest at h
  refine gCz_of (by decide) (Nat.le_of_ble_eq_true rfl) rfl rfl (zX11_isRest_0  ?_)
  obtain ⟨S1, x2, hc, h⟩ := g_b2s h
  refine ⟨0, _, (by decide), CX11_gain  hc, ?_⟩
  rintro _ _ ⟨rfl, rfl⟩
  obtain ⟨S3, x4, hc, h⟩ := g_b2s h
  refine ⟨0, _, (by decide), CX11_gain  hc, ?_⟩
  rintro _ _ ⟨rfl, rfl⟩
  refine ⟨fun c => ?_, fun c => ?_⟩
  · have h := g_ip c h
    exact (lX11_isRest FU).1 _ _ _ _ _ _ _ _  h
  · have h := g_in c h
    exact (lX11_isRest FU).1 _ _ _ _ _ _ _ _  h

noncomputable def FX11_doDrawn (S : gS)  : Option (gS) := if isFb (sQ S 3) = true then (if (sI S ((sQ S 3)) 0) = 0 then (some S) else (if isFb (sQ S 3) = true then (g_b2 (FX11_draw S ((sI S ((sQ S 3)) 0))) (fun S3 x4 => g_b2 (FX11_draw S3 ((5 : Int32))) (fun S5 x6 => if x6 = 0 then (g_b2 (FX11_draw S5 ((9 : Int32))) (fun S11 x12 => g_b1 (FX9_addWater S11 (53) (x4) ((x12 + (1 : Int32)))) (fun S13 => some S13))) else (if x6 = (1 : Int32) then (g_b2 (FX9_stopMouth S5 (53) (x4)) (fun S9 b10 => some S9)) else (if x6 = (2 : Int32) then (g_b2 (FX9_clearMouth S5 (53) (x4)) (fun S7 b8 => some S7)) else (some S5)))))) else none)) else none
theorem CX11_doDrawn {n : Nat} {S : gS} {R : gS}   (h : FX11_doDrawn S  = some R) : sCv 2 mX11_doDrawn n S [.ref (0)] (fun S2 => S2 = R) := by
  unfold FX11_doDrawn at h
  refine gCv_of (by decide) (Nat.le_of_ble_eq_true rfl) rfl rfl (zX11_doDrawn_0  ?_)
  obtain ⟨hq1, h⟩ := g_fs h
  refine ⟨hq1, ?_⟩
  refine ⟨fun c => ?_, fun c => ?_⟩
  · have h := g_in c h
    obtain ⟨hq2, h⟩ := g_fs h
    refine ⟨hq2, ?_⟩
    obtain ⟨S3, x4, hc, h⟩ := g_b2s h
    refine ⟨0, _, (by decide), CX11_draw  hc, ?_⟩
    rintro _ _ ⟨rfl, rfl⟩
    obtain ⟨S5, x6, hc, h⟩ := g_b2s h
    refine ⟨0, _, (by decide), CX11_draw  hc, ?_⟩
    rintro _ _ ⟨rfl, rfl⟩
    refine ⟨fun c => ?_, fun c => ?_⟩
    · have h := g_in c h
      refine ⟨fun c => ?_, fun c => ?_⟩
      · have h := g_in c h
        refine ⟨fun c => ?_, fun c => ?_⟩
        · have h := g_in c h
          cases h; exact rfl
        · have h := g_ip c h
          obtain ⟨S7, b8, hc, h⟩ := g_b2s h
          refine ⟨1, _, (by decide), CX9_clearMouth is_53 hc, ?_⟩
          rintro _ _ ⟨rfl, rfl⟩
          cases h; exact rfl
      · have h := g_ip c h
        obtain ⟨S9, b10, hc, h⟩ := g_b2s h
        refine ⟨1, _, (by decide), CX9_stopMouth is_53 hc, ?_⟩
        rintro _ _ ⟨rfl, rfl⟩
        cases h; exact rfl
    · have h := g_ip c h
      obtain ⟨S11, x12, hc, h⟩ := g_b2s h
      refine ⟨0, _, (by decide), CX11_draw  hc, ?_⟩
      rintro _ _ ⟨rfl, rfl⟩
      obtain ⟨S13, hc, h⟩ := g_b1s h
      refine ⟨1, _, (by decide), CX9_addWater is_53 hc, ?_⟩
      rintro _ rfl
      cases h; exact rfl
  · have h := g_ip c h
    cases h; exact rfl

noncomputable def bX11_days_18  (rec : Nat → gS → Int32 → Int32 → Int32 → Int32 → Int32 → Int32 → Int32 → Option (gS × Int32)) (S : gS) (i1 : Int32) (i2 : Int32) (i3 : Int32) (i4 : Int32) (i5 : Int32) (i6 : Int32) (i7 : Int32) : Option (gS × Int32) := if i4 = 0 then (some (S, (-1 : Int32))) else (if i2 < (1 : Int32) then (some (S, (-1 : Int32))) else (if (99 : Int32) < i2 then (some (S, (-1 : Int32))) else (if i3 < 0 then (some (S, (-1 : Int32))) else (if i3 ≤ (2 : Int32) then (g_lt (uJ S (0) 17 ((Int32.toInt64 (i1)))) (fun S1 => g_b1 (FX9_copyFrom S1 (53) (49)) (fun S2 => rec 71 S2 0 (i2) (i3) 0 ((0 : Int32)) ((0 : Int32)) ((0 : Int32))))) else (some (S, (-1 : Int32)))))))
noncomputable def bX11_days_71  (rec : Nat → gS → Int32 → Int32 → Int32 → Int32 → Int32 → Int32 → Int32 → Option (gS × Int32)) (S : gS) (i1 : Int32) (i2 : Int32) (i3 : Int32) (i4 : Int32) (i5 : Int32) (i6 : Int32) (i7 : Int32) : Option (gS × Int32) := if i2 ≤ i7 then (if i3 = (2 : Int32) then (if isFb (sQ S 3) = true then (g_b2 (FX9_allWater S (53) ((sI S ((sQ S 3)) 0))) (fun S2 x3 => some (S2, x3))) else none) else (if i3 = 0 then (some (S, i5)) else (some (S, i6)))) else (g_b1 (FX11_doDrawn S ) (fun S4 => g_b2 (FX11_passTrialMinute S4 ) (fun S5 x6 => if x6 = (6 : Int32) then (rec 71 S5 0 (i2) (i3) 0 (i5) ((i6 + 1)) ((i7 + 1))) else (if x6 = (-1 : Int32) then (rec 71 S5 0 (i2) (i3) 0 (i5) (i6) ((i7 + 1))) else (rec 71 S5 0 (i2) (i3) 0 ((i5 + 1)) (i6) ((i7 + 1)))))))
noncomputable def fX11_days  : Nat → Nat → gS → Int32 → Int32 → Int32 → Int32 → Int32 → Int32 → Int32 → Option (gS × Int32)
  | 0 => fun _ _ _ _ _ _ _ _ _ => none
  | k + 1 => fun pc S i1 i2 i3 i4 i5 i6 i7 => if pc = 18 then bX11_days_18  (fX11_days  k) S i1 i2 i3 i4 i5 i6 i7 else if pc = 71 then bX11_days_71  (fX11_days  k) S i1 i2 i3 i4 i5 i6 i7 else none
noncomputable def FX11_days (S : gS) (i1 : Int32) (i2 : Int32) (i3 : Int32) : Option (gS × Int32) := if i1 < 0 then (fX11_days  FU 18 S (i1) (i2) (i3) ((0 : Int32)) 0 0 0) else (if (9999 : Int32) < i1 then (fX11_days  FU 18 S (i1) (i2) (i3) ((0 : Int32)) 0 0 0) else (fX11_days  FU 18 S (i1) (i2) (i3) ((1 : Int32)) 0 0 0))
set_option maxRecDepth 100000 in
theorem lX11_days  {n : Nat} {R : gS × Int32} : ∀ k : Nat, (∀ (S : gS) (i1 : Int32) (i2 : Int32) (i3 : Int32) (i4 : Int32) (i5 : Int32) (i6 : Int32) (i7 : Int32) , fX11_days  k 18 S i1 i2 i3 i4 i5 i6 i7 = some R → gG 5 mX11_days 0 0 (g_Xj mX11_days n 0 0 (hPi (fun S2 x2 => S2 = R.1 ∧ x2 = R.2))) 18 n (hH S) [some (.ref (0)), some (.int (i1)), some (.int (i2)), some (.int (i3)), some (.int (i4)), none, none, none, none] [] 0 0) ∧ (∀ (S : gS) (i1 : Int32) (i2 : Int32) (i3 : Int32) (i4 : Int32) (i5 : Int32) (i6 : Int32) (i7 : Int32) , fX11_days  k 71 S i1 i2 i3 i4 i5 i6 i7 = some R → gG 5 mX11_days 0 0 (g_Xj mX11_days n 0 0 (hPi (fun S2 x2 => S2 = R.1 ∧ x2 = R.2))) 71 n (hH S) [some (.ref (0)), none, some (.int (i2)), some (.int (i3)), none, some (.int (i5)), some (.int (i6)), some (.int (i7)), none] [] 0 0) := by
  intro k
  induction k with
  | zero => exact ⟨fun _ _ _ _ _ _ _ _ h => (by cases h), fun _ _ _ _ _ _ _ _ h => (by cases h)⟩
  | succ k ih =>
    have hrec_18 := ih.1
    have hrec_71 := ih.2
    refine ⟨?_, ?_⟩
    · intro S i1 i2 i3 i4 i5 i6 i7 h
      rw [fX11_days] at h
      have h := g_ip rfl h
      unfold bX11_days_18 at h
      refine zX11_days_18  ?_
      refine ⟨fun c => ?_, fun c => ?_⟩
      · have h := g_ip c h
        cases h; exact ⟨rfl, rfl⟩
      · have h := g_in c h
        refine ⟨fun c => ?_, fun c => ?_⟩
        · have h := g_ip c h
          cases h; exact ⟨rfl, rfl⟩
        · have h := g_in c h
          refine ⟨fun c => ?_, fun c => ?_⟩
          · have h := g_ip c h
            cases h; exact ⟨rfl, rfl⟩
          · have h := g_in c h
            refine ⟨fun c => ?_, fun c => ?_⟩
            · have h := g_ip c h
              cases h; exact ⟨rfl, rfl⟩
            · have h := g_in c h
              refine ⟨fun c => ?_, fun c => ?_⟩
              · have h := g_ip c h
                intro S1 eS
                have h := g_lts eS h
                obtain ⟨S2, hc, h⟩ := g_b1s h
                refine ⟨1, _, (by decide), CX9_copyFrom is_53 is_49 hc, ?_⟩
                rintro _ rfl
                exact hrec_71 _ _ _ _ _ _ _ _  h
              · have h := g_in c h
                cases h; exact ⟨rfl, rfl⟩
    · intro S i1 i2 i3 i4 i5 i6 i7 h
      rw [fX11_days] at h
      have h := g_in (by decide) h
      have h := g_ip rfl h
      unfold bX11_days_71 at h
      refine zX11_days_71  ?_
      refine ⟨fun c => ?_, fun c => ?_⟩
      · have h := g_ip c h
        refine ⟨fun c => ?_, fun c => ?_⟩
        · have h := g_in c h
          refine ⟨fun c => ?_, fun c => ?_⟩
          · have h := g_in c h
            cases h; exact ⟨rfl, rfl⟩
          · have h := g_ip c h
            cases h; exact ⟨rfl, rfl⟩
        · have h := g_ip c h
          obtain ⟨hq1, h⟩ := g_fs h
          refine ⟨hq1, ?_⟩
          obtain ⟨S2, x3, hc, h⟩ := g_b2s h
          refine ⟨0, _, (by decide), CX9_allWater is_53 hc, ?_⟩
          rintro _ _ ⟨rfl, rfl⟩
          cases h; exact ⟨rfl, rfl⟩
      · have h := g_in c h
        obtain ⟨S4, hc, h⟩ := g_b1s h
        refine ⟨2, _, (by decide), CX11_doDrawn  hc, ?_⟩
        rintro _ rfl
        obtain ⟨S5, x6, hc, h⟩ := g_b2s h
        refine ⟨4, _, (by decide), CX11_passTrialMinute  hc, ?_⟩
        rintro _ _ ⟨rfl, rfl⟩
        refine ⟨fun c => ?_, fun c => ?_⟩
        · have h := g_in c h
          refine ⟨fun c => ?_, fun c => ?_⟩
          · have h := g_ip c h
            exact hrec_71 _ _ _ _ _ _ _ _  h
          · have h := g_in c h
            exact hrec_71 _ _ _ _ _ _ _ _  h
        · have h := g_ip c h
          exact hrec_71 _ _ _ _ _ _ _ _  h
theorem CX11_days {n : Nat} {S : gS} {R : gS × Int32} {i1 : Int32} {i2 : Int32} {i3 : Int32}  (h : FX11_days S i1 i2 i3 = some R) : sCi 5 mX11_days n S [.ref (0), .int (i1), .int (i2), .int (i3)] (fun S2 x2 => S2 = R.1 ∧ x2 = R.2) := by
  unfold FX11_days at h
  refine gCj_of (by decide) (Nat.le_of_ble_eq_true rfl) rfl rfl (zX11_days_0  ?_)
  refine ⟨fun c => ?_, fun c => ?_⟩
  · have h := g_ip c h
    exact (lX11_days FU).1 _ _ _ _ _ _ _ _  h
  · have h := g_in c h
    refine ⟨fun c => ?_, fun c => ?_⟩
    · have h := g_ip c h
      exact (lX11_days FU).1 _ _ _ _ _ _ _ _  h
    · have h := g_in c h
      exact (lX11_days FU).1 _ _ _ _ _ _ _ _  h
