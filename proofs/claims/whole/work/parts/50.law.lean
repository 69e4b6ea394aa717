/-! THE LAW, case by case: over any invariant of which each call is sound -/
def Ob_feed (Good Good' : gS → Prop) : Prop := ∀ (S : gS) (p0 : Int64) (p1 : Int64) (p2 : Int64), Good S → ∃ (S1 S2 : gS) (r : Int32), FX11_feed S p0 p1 p2 = some (S1, r) ∧ FX12_feed S1 p0 p1 p2 = some (S2, r) ∧ Good' S2
theorem La_feed {Good Good' : gS → Prop} {S : Nat × (Nat → Int32)} {Sg : gS} {n kc ks mc ms : Nat} {X : gX} {i4 : Int32} (ho : Ob_feed Good Good') (hG : Good Sg) (hk1 : kc ≤ mc) (hk2 : ks ≤ ms) (v1 : vp_in (i4 + (1 : Int32)) S.1) (v2 : vp_in (i4 + (2 : Int32)) S.1) (v3 : vp_in (i4 + (3 : Int32)) S.1) (v4 : vp_in (i4 + (4 : Int32)) S.1) (v5 : vp_in (i4 + (5 : Int32)) S.1) (v6 : vp_in (i4 + (6 : Int32)) S.1) (hnext : ∀ S2, Good' S2 → gG 1300 (mL_law S) mc ms X 1411 n (hH S2) [some (.float 300), some (.ref (0)), some (.ref (180)), some (.ref (225)), some (.int (i4)), none, none] [] kc ks) : gG 1300 (mL_law S) mc ms X 224 n (hH Sg) [some (.float 300), some (.ref (0)), some (.ref (180)), some (.ref (225)), some (.int (i4)), none, none] [] kc ks := by
  refine kL_law_224 ?_
  refine ⟨v1, ?_⟩
  refine ⟨v2, ?_⟩
  refine ⟨v3, ?_⟩
  refine ⟨v4, ?_⟩
  refine ⟨v5, ?_⟩
  refine ⟨v6, ?_⟩
  obtain ⟨S1, S2, r, h1, h2, h3⟩ := ho Sg ((((Int32.toInt64 ((S.2 (Int32.toNatClampNeg ((i4 + (1 : Int32))))))) <<< (Int32.toInt64 ((32 : Int32)) &&& 63)) ||| ((Int32.toInt64 ((S.2 (Int32.toNatClampNeg ((i4 + (2 : Int32))))))) &&& (4294967295 : Int64)))) ((((Int32.toInt64 ((S.2 (Int32.toNatClampNeg ((i4 + (3 : Int32))))))) <<< (Int32.toInt64 ((32 : Int32)) &&& 63)) ||| ((Int32.toInt64 ((S.2 (Int32.toNatClampNeg ((i4 + (4 : Int32))))))) &&& (4294967295 : Int64)))) ((((Int32.toInt64 ((S.2 (Int32.toNatClampNeg ((i4 + (5 : Int32))))))) <<< (Int32.toInt64 ((32 : Int32)) &&& 63)) ||| ((Int32.toInt64 ((S.2 (Int32.toNatClampNeg ((i4 + (6 : Int32))))))) &&& (4294967295 : Int64)))) hG
  refine ⟨hk1, hk2, q_rc rfl, 1, _, by decide, CX11_feed h1, ?_⟩
  rintro _ _ ⟨_, rfl, rfl, rfl⟩
  refine ⟨v1, ?_⟩
  refine ⟨v2, ?_⟩
  refine ⟨v3, ?_⟩
  refine ⟨v4, ?_⟩
  refine ⟨v5, ?_⟩
  refine ⟨v6, ?_⟩
  refine ⟨hk1, hk2, q_rc rfl, 0, _, by decide, CX12_feed h2, ?_⟩
  rintro _ _ ⟨_, rfl, rfl, rfl⟩
  exact ⟨fun _ => hnext _ h3, fun c => absurd rfl c⟩
def Ob_front (Good Good' : gS → Prop) : Prop := ∀ (S : gS) , Good S → ∃ (S1 S2 : gS) (r : Int32), FX11_front S  = some (S1, r) ∧ FX12_front S1  = some (S2, r) ∧ Good' S2
theorem La_front {Good Good' : gS → Prop} {S : Nat × (Nat → Int32)} {Sg : gS} {n kc ks mc ms : Nat} {X : gX} {i4 : Int32} (ho : Ob_front Good Good') (hG : Good Sg) (hk1 : kc ≤ mc) (hk2 : ks ≤ ms) (v1 : vp_in (i4 + (1 : Int32)) S.1) (v2 : vp_in (i4 + (2 : Int32)) S.1) (v3 : vp_in (i4 + (3 : Int32)) S.1) (v4 : vp_in (i4 + (4 : Int32)) S.1) (v5 : vp_in (i4 + (5 : Int32)) S.1) (v6 : vp_in (i4 + (6 : Int32)) S.1) (hnext : ∀ S2, Good' S2 → gG 1300 (mL_law S) mc ms X 1411 n (hH S2) [some (.float 300), some (.ref (0)), some (.ref (180)), some (.ref (225)), some (.int (i4)), none, none] [] kc ks) : gG 1300 (mL_law S) mc ms X 371 n (hH Sg) [some (.float 300), some (.ref (0)), some (.ref (180)), some (.ref (225)), some (.int (i4)), none, none] [] kc ks := by
  refine kL_law_371 ?_
  obtain ⟨S1, S2, r, h1, h2, h3⟩ := ho Sg  hG
  refine ⟨hk1, hk2, q_rc rfl, 75, _, by decide, CX11_front h1, ?_⟩
  rintro _ _ ⟨_, rfl, rfl, rfl⟩
  refine ⟨hk1, hk2, q_rc rfl, 6, _, by decide, CX12_front h2, ?_⟩
  rintro _ _ ⟨_, rfl, rfl, rfl⟩
  exact ⟨fun _ => hnext _ h3, fun c => absurd rfl c⟩
def Ob_day (Good Good' : gS → Prop) : Prop := ∀ (S : gS) , Good S → ∃ (S1 S2 : gS) (r : Int32), FX11_day S  = some (S1, r) ∧ FX12_day S1  = some (S2, r) ∧ Good' S2
theorem La_day {Good Good' : gS → Prop} {S : Nat × (Nat → Int32)} {Sg : gS} {n kc ks mc ms : Nat} {X : gX} {i4 : Int32} (ho : Ob_day Good Good') (hG : Good Sg) (hk1 : kc ≤ mc) (hk2 : ks ≤ ms) (v1 : vp_in (i4 + (1 : Int32)) S.1) (v2 : vp_in (i4 + (2 : Int32)) S.1) (v3 : vp_in (i4 + (3 : Int32)) S.1) (v4 : vp_in (i4 + (4 : Int32)) S.1) (v5 : vp_in (i4 + (5 : Int32)) S.1) (v6 : vp_in (i4 + (6 : Int32)) S.1) (hnext : ∀ S2, Good' S2 → gG 1300 (mL_law S) mc ms X 1411 n (hH S2) [some (.float 300), some (.ref (0)), some (.ref (180)), some (.ref (225)), some (.int (i4)), none, none] [] kc ks) : gG 1300 (mL_law S) mc ms X 384 n (hH Sg) [some (.float 300), some (.ref (0)), some (.ref (180)), some (.ref (225)), some (.int (i4)), none, none] [] kc ks := by
  refine kL_law_384 ?_
  obtain ⟨S1, S2, r, h1, h2, h3⟩ := ho Sg  hG
  refine ⟨hk1, hk2, q_rc rfl, 9, _, by decide, CX11_day h1, ?_⟩
  rintro _ _ ⟨_, rfl, rfl, rfl⟩
  refine ⟨hk1, hk2, q_rc rfl, 4, _, by decide, CX12_day h2, ?_⟩
  rintro _ _ ⟨_, rfl, rfl, rfl⟩
  exact ⟨fun _ => hnext _ h3, fun c => absurd rfl c⟩
def Ob_word (Good Good' : gS → Prop) : Prop := ∀ (S : gS) , Good S → ∃ (S1 S2 : gS) (r : Int32), FX11_word S  = some (S1, r) ∧ FX12_word S1  = some (S2, r) ∧ Good' S2
theorem La_word {Good Good' : gS → Prop} {S : Nat × (Nat → Int32)} {Sg : gS} {n kc ks mc ms : Nat} {X : gX} {i4 : Int32} (ho : Ob_word Good Good') (hG : Good Sg) (hk1 : kc ≤ mc) (hk2 : ks ≤ ms) (v1 : vp_in (i4 + (1 : Int32)) S.1) (v2 : vp_in (i4 + (2 : Int32)) S.1) (v3 : vp_in (i4 + (3 : Int32)) S.1) (v4 : vp_in (i4 + (4 : Int32)) S.1) (v5 : vp_in (i4 + (5 : Int32)) S.1) (v6 : vp_in (i4 + (6 : Int32)) S.1) (hnext : ∀ S2, Good' S2 → gG 1300 (mL_law S) mc ms X 1411 n (hH S2) [some (.float 300), some (.ref (0)), some (.ref (180)), some (.ref (225)), some (.int (i4)), none, none] [] kc ks) : gG 1300 (mL_law S) mc ms X 397 n (hH Sg) [some (.float 300), some (.ref (0)), some (.ref (180)), some (.ref (225)), some (.int (i4)), none, none] [] kc ks := by
  refine kL_law_397 ?_
  obtain ⟨S1, S2, r, h1, h2, h3⟩ := ho Sg  hG
  refine ⟨hk1, hk2, q_rc rfl, 8, _, by decide, CX11_word h1, ?_⟩
  rintro _ _ ⟨_, rfl, rfl, rfl⟩
  refine ⟨hk1, hk2, q_rc rfl, 3, _, by decide, CX12_word h2, ?_⟩
  rintro _ _ ⟨_, rfl, rfl, rfl⟩
  exact ⟨fun _ => hnext _ h3, fun c => absurd rfl c⟩
def Ob_mouth (Good Good' : gS → Prop) : Prop := ∀ (S : gS) (p0 : Int32) (p1 : Int32), Good S → ∃ (S1 S2 : gS) (r : Int32), FX11_mouth S p0 p1 = some (S1, r) ∧ FX12_mouth S1 p0 p1 = some (S2, r) ∧ Good' S2
theorem La_mouth {Good Good' : gS → Prop} {S : Nat × (Nat → Int32)} {Sg : gS} {n kc ks mc ms : Nat} {X : gX} {i4 : Int32} (ho : Ob_mouth Good Good') (hG : Good Sg) (hk1 : kc ≤ mc) (hk2 : ks ≤ ms) (v1 : vp_in (i4 + (1 : Int32)) S.1) (v2 : vp_in (i4 + (2 : Int32)) S.1) (v3 : vp_in (i4 + (3 : Int32)) S.1) (v4 : vp_in (i4 + (4 : Int32)) S.1) (v5 : vp_in (i4 + (5 : Int32)) S.1) (v6 : vp_in (i4 + (6 : Int32)) S.1) (hnext : ∀ S2, Good' S2 → gG 1300 (mL_law S) mc ms X 1411 n (hH S2) [some (.float 300), some (.ref (0)), some (.ref (180)), some (.ref (225)), some (.int (i4)), none, none] [] kc ks) : gG 1300 (mL_law S) mc ms X 410 n (hH Sg) [some (.float 300), some (.ref (0)), some (.ref (180)), some (.ref (225)), some (.int (i4)), none, none] [] kc ks := by
  refine kL_law_410 ?_
  refine ⟨v1, ?_⟩
  refine ⟨v2, ?_⟩
  obtain ⟨S1, S2, r, h1, h2, h3⟩ := ho Sg ((S.2 (Int32.toNatClampNeg ((i4 + (1 : Int32)))))) ((S.2 (Int32.toNatClampNeg ((i4 + (2 : Int32)))))) hG
  refine ⟨hk1, hk2, q_rc rfl, 1, _, by decide, CX11_mouth h1, ?_⟩
  rintro _ _ ⟨_, rfl, rfl, rfl⟩
  refine ⟨v1, ?_⟩
  refine ⟨v2, ?_⟩
  refine ⟨hk1, hk2, q_rc rfl, 1, _, by decide, CX12_mouth h2, ?_⟩
  rintro _ _ ⟨_, rfl, rfl, rfl⟩
  exact ⟨fun _ => hnext _ h3, fun c => absurd rfl c⟩
def Ob_letter (Good Good' : gS → Prop) : Prop := ∀ (S : gS) (p0 : Int32), Good S → ∃ (S1 S2 : gS) (r : Int32), FX11_letter S p0 = some (S1, r) ∧ FX12_letter S1 p0 = some (S2, r) ∧ Good' S2
theorem La_letter {Good Good' : gS → Prop} {S : Nat × (Nat → Int32)} {Sg : gS} {n kc ks mc ms : Nat} {X : gX} {i4 : Int32} (ho : Ob_letter Good Good') (hG : Good Sg) (hk1 : kc ≤ mc) (hk2 : ks ≤ ms) (v1 : vp_in (i4 + (1 : Int32)) S.1) (v2 : vp_in (i4 + (2 : Int32)) S.1) (v3 : vp_in (i4 + (3 : Int32)) S.1) (v4 : vp_in (i4 + (4 : Int32)) S.1) (v5 : vp_in (i4 + (5 : Int32)) S.1) (v6 : vp_in (i4 + (6 : Int32)) S.1) (hnext : ∀ S2, Good' S2 → gG 1300 (mL_law S) mc ms X 1411 n (hH S2) [some (.float 300), some (.ref (0)), some (.ref (180)), some (.ref (225)), some (.int (i4)), none, none] [] kc ks) : gG 1300 (mL_law S) mc ms X 447 n (hH Sg) [some (.float 300), some (.ref (0)), some (.ref (180)), some (.ref (225)), some (.int (i4)), none, none] [] kc ks := by
  refine kL_law_447 ?_
  refine ⟨v1, ?_⟩
  obtain ⟨S1, S2, r, h1, h2, h3⟩ := ho Sg ((S.2 (Int32.toNatClampNeg ((i4 + (1 : Int32)))))) hG
  refine ⟨hk1, hk2, q_rc rfl, 1, _, by decide, CX11_letter h1, ?_⟩
  rintro _ _ ⟨_, rfl, rfl, rfl⟩
  refine ⟨v1, ?_⟩
  refine ⟨hk1, hk2, q_rc rfl, 1, _, by decide, CX12_letter h2, ?_⟩
  rintro _ _ ⟨_, rfl, rfl, rfl⟩
  exact ⟨fun _ => hnext _ h3, fun c => absurd rfl c⟩
def Ob_slate (Good Good' : gS → Prop) : Prop := ∀ (S : gS) (p0 : Int32), Good S → ∃ (S1 S2 : gS) (r : Int32), FX11_slate S p0 = some (S1, r) ∧ FX12_slate S1 p0 = some (S2, r) ∧ Good' S2
theorem La_slate {Good Good' : gS → Prop} {S : Nat × (Nat → Int32)} {Sg : gS} {n kc ks mc ms : Nat} {X : gX} {i4 : Int32} (ho : Ob_slate Good Good') (hG : Good Sg) (hk1 : kc ≤ mc) (hk2 : ks ≤ ms) (v1 : vp_in (i4 + (1 : Int32)) S.1) (v2 : vp_in (i4 + (2 : Int32)) S.1) (v3 : vp_in (i4 + (3 : Int32)) S.1) (v4 : vp_in (i4 + (4 : Int32)) S.1) (v5 : vp_in (i4 + (5 : Int32)) S.1) (v6 : vp_in (i4 + (6 : Int32)) S.1) (hnext : ∀ S2, Good' S2 → gG 1300 (mL_law S) mc ms X 1411 n (hH S2) [some (.float 300), some (.ref (0)), some (.ref (180)), some (.ref (225)), some (.int (i4)), none, none] [] kc ks) : gG 1300 (mL_law S) mc ms X 472 n (hH Sg) [some (.float 300), some (.ref (0)), some (.ref (180)), some (.ref (225)), some (.int (i4)), none, none] [] kc ks := by
  refine kL_law_472 ?_
  refine ⟨v1, ?_⟩
  obtain ⟨S1, S2, r, h1, h2, h3⟩ := ho Sg ((S.2 (Int32.toNatClampNeg ((i4 + (1 : Int32)))))) hG
  refine ⟨hk1, hk2, q_rc rfl, 0, _, by decide, CX11_slate h1, ?_⟩
  rintro _ _ ⟨_, rfl, rfl, rfl⟩
  refine ⟨v1, ?_⟩
  refine ⟨hk1, hk2, q_rc rfl, 0, _, by decide, CX12_slate h2, ?_⟩
  rintro _ _ ⟨_, rfl, rfl, rfl⟩
  exact ⟨fun _ => hnext _ h3, fun c => absurd rfl c⟩
def Ob_minute (Good Good' : gS → Prop) : Prop := ∀ (S : gS) , Good S → ∃ (S1 S2 : gS) (r : Int32), FX11_minute S  = some (S1, r) ∧ FX12_minute S1  = some (S2, r) ∧ Good' S2
theorem La_minute {Good Good' : gS → Prop} {S : Nat × (Nat → Int32)} {Sg : gS} {n kc ks mc ms : Nat} {X : gX} {i4 : Int32} (ho : Ob_minute Good Good') (hG : Good Sg) (hk1 : kc ≤ mc) (hk2 : ks ≤ ms) (v1 : vp_in (i4 + (1 : Int32)) S.1) (v2 : vp_in (i4 + (2 : Int32)) S.1) (v3 : vp_in (i4 + (3 : Int32)) S.1) (v4 : vp_in (i4 + (4 : Int32)) S.1) (v5 : vp_in (i4 + (5 : Int32)) S.1) (v6 : vp_in (i4 + (6 : Int32)) S.1) (hnext : ∀ S2, Good' S2 → gG 1300 (mL_law S) mc ms X 1411 n (hH S2) [some (.float 300), some (.ref (0)), some (.ref (180)), some (.ref (225)), some (.int (i4)), none, none] [] kc ks) : gG 1300 (mL_law S) mc ms X 497 n (hH Sg) [some (.float 300), some (.ref (0)), some (.ref (180)), some (.ref (225)), some (.int (i4)), none, none] [] kc ks := by
  refine kL_law_497 ?_
  obtain ⟨S1, S2, r, h1, h2, h3⟩ := ho Sg  hG
  refine ⟨hk1, hk2, q_rc rfl, 4, _, by decide, CX11_minute h1, ?_⟩
  rintro _ _ ⟨_, rfl, rfl, rfl⟩
  refine ⟨hk1, hk2, q_rc rfl, 6, _, by decide, CX12_minute h2, ?_⟩
  rintro _ _ ⟨_, rfl, rfl, rfl⟩
  exact ⟨fun _ => hnext _ h3, fun c => absurd rfl c⟩
def Ob_pour (Good Good' : gS → Prop) : Prop := ∀ (S : gS) (p0 : Int32) (p1 : Int32), Good S → ∃ (S1 S2 : gS) (r : Int32), FX11_pour S p0 p1 = some (S1, r) ∧ FX12_pour S1 p0 p1 = some (S2, r) ∧ Good' S2
theorem La_pour {Good Good' : gS → Prop} {S : Nat × (Nat → Int32)} {Sg : gS} {n kc ks mc ms : Nat} {X : gX} {i4 : Int32} (ho : Ob_pour Good Good') (hG : Good Sg) (hk1 : kc ≤ mc) (hk2 : ks ≤ ms) (v1 : vp_in (i4 + (1 : Int32)) S.1) (v2 : vp_in (i4 + (2 : Int32)) S.1) (v3 : vp_in (i4 + (3 : Int32)) S.1) (v4 : vp_in (i4 + (4 : Int32)) S.1) (v5 : vp_in (i4 + (5 : Int32)) S.1) (v6 : vp_in (i4 + (6 : Int32)) S.1) (hnext : ∀ S2, Good' S2 → gG 1300 (mL_law S) mc ms X 1411 n (hH S2) [some (.float 300), some (.ref (0)), some (.ref (180)), some (.ref (225)), some (.int (i4)), none, none] [] kc ks) : gG 1300 (mL_law S) mc ms X 510 n (hH Sg) [some (.float 300), some (.ref (0)), some (.ref (180)), some (.ref (225)), some (.int (i4)), none, none] [] kc ks := by
  refine kL_law_510 ?_
  refine ⟨v1, ?_⟩
  refine ⟨v2, ?_⟩
  obtain ⟨S1, S2, r, h1, h2, h3⟩ := ho Sg ((S.2 (Int32.toNatClampNeg ((i4 + (1 : Int32)))))) ((S.2 (Int32.toNatClampNeg ((i4 + (2 : Int32)))))) hG
  refine ⟨hk1, hk2, q_rc rfl, 3, _, by decide, CX11_pour h1, ?_⟩
  rintro _ _ ⟨_, rfl, rfl, rfl⟩
  refine ⟨v1, ?_⟩
  refine ⟨v2, ?_⟩
  refine ⟨hk1, hk2, q_rc rfl, 2, _, by decide, CX12_pour h2, ?_⟩
  rintro _ _ ⟨_, rfl, rfl, rfl⟩
  exact ⟨fun _ => hnext _ h3, fun c => absurd rfl c⟩
def Ob_stop (Good Good' : gS → Prop) : Prop := ∀ (S : gS) (p0 : Int32), Good S → ∃ (S1 S2 : gS) (r : Bool), FX11_stop S p0 = some (S1, r) ∧ FX12_stop S1 p0 = some (S2, r) ∧ Good' S2
theorem La_stop {Good Good' : gS → Prop} {S : Nat × (Nat → Int32)} {Sg : gS} {n kc ks mc ms : Nat} {X : gX} {i4 : Int32} (ho : Ob_stop Good Good') (hG : Good Sg) (hk1 : kc ≤ mc) (hk2 : ks ≤ ms) (v1 : vp_in (i4 + (1 : Int32)) S.1) (v2 : vp_in (i4 + (2 : Int32)) S.1) (v3 : vp_in (i4 + (3 : Int32)) S.1) (v4 : vp_in (i4 + (4 : Int32)) S.1) (v5 : vp_in (i4 + (5 : Int32)) S.1) (v6 : vp_in (i4 + (6 : Int32)) S.1) (hnext : ∀ S2, Good' S2 → gG 1300 (mL_law S) mc ms X 1411 n (hH S2) [some (.float 300), some (.ref (0)), some (.ref (180)), some (.ref (225)), some (.int (i4)), none, none] [] kc ks) : gG 1300 (mL_law S) mc ms X 547 n (hH Sg) [some (.float 300), some (.ref (0)), some (.ref (180)), some (.ref (225)), some (.int (i4)), none, none] [] kc ks := by
  refine kL_law_547 ?_
  refine ⟨v1, ?_⟩
  obtain ⟨S1, S2, r, h1, h2, h3⟩ := ho Sg ((S.2 (Int32.toNatClampNeg ((i4 + (1 : Int32)))))) hG
  refine ⟨hk1, hk2, q_rc rfl, 3, _, by decide, CX11_stop h1, ?_⟩
  rintro _ _ ⟨_, rfl, rfl, rfl⟩
  refine ⟨v1, ?_⟩
  refine ⟨hk1, hk2, q_rc rfl, 2, _, by decide, CX12_stop h2, ?_⟩
  rintro _ _ ⟨_, rfl, rfl, rfl⟩
  exact ⟨fun _ => hnext _ h3, fun c => absurd rfl c⟩
def Ob_clear (Good Good' : gS → Prop) : Prop := ∀ (S : gS) (p0 : Int32), Good S → ∃ (S1 S2 : gS) (r : Bool), FX11_clear S p0 = some (S1, r) ∧ FX12_clear S1 p0 = some (S2, r) ∧ Good' S2
theorem La_clear {Good Good' : gS → Prop} {S : Nat × (Nat → Int32)} {Sg : gS} {n kc ks mc ms : Nat} {X : gX} {i4 : Int32} (ho : Ob_clear Good Good') (hG : Good Sg) (hk1 : kc ≤ mc) (hk2 : ks ≤ ms) (v1 : vp_in (i4 + (1 : Int32)) S.1) (v2 : vp_in (i4 + (2 : Int32)) S.1) (v3 : vp_in (i4 + (3 : Int32)) S.1) (v4 : vp_in (i4 + (4 : Int32)) S.1) (v5 : vp_in (i4 + (5 : Int32)) S.1) (v6 : vp_in (i4 + (6 : Int32)) S.1) (hnext : ∀ S2, Good' S2 → gG 1300 (mL_law S) mc ms X 1411 n (hH S2) [some (.float 300), some (.ref (0)), some (.ref (180)), some (.ref (225)), some (.int (i4)), none, none] [] kc ks) : gG 1300 (mL_law S) mc ms X 572 n (hH Sg) [some (.float 300), some (.ref (0)), some (.ref (180)), some (.ref (225)), some (.int (i4)), none, none] [] kc ks := by
  refine kL_law_572 ?_
  refine ⟨v1, ?_⟩
  obtain ⟨S1, S2, r, h1, h2, h3⟩ := ho Sg ((S.2 (Int32.toNatClampNeg ((i4 + (1 : Int32)))))) hG
  refine ⟨hk1, hk2, q_rc rfl, 3, _, by decide, CX11_clear h1, ?_⟩
  rintro _ _ ⟨_, rfl, rfl, rfl⟩
  refine ⟨v1, ?_⟩
  refine ⟨hk1, hk2, q_rc rfl, 2, _, by decide, CX12_clear h2, ?_⟩
  rintro _ _ ⟨_, rfl, rfl, rfl⟩
  exact ⟨fun _ => hnext _ h3, fun c => absurd rfl c⟩
def Ob_undo (Good Good' : gS → Prop) : Prop := ∀ (S : gS) , Good S → ∃ (S1 S2 : gS) (r : Bool), FX11_undo S  = some (S1, r) ∧ FX12_undo S1  = some (S2, r) ∧ Good' S2
theorem La_undo {Good Good' : gS → Prop} {S : Nat × (Nat → Int32)} {Sg : gS} {n kc ks mc ms : Nat} {X : gX} {i4 : Int32} (ho : Ob_undo Good Good') (hG : Good Sg) (hk1 : kc ≤ mc) (hk2 : ks ≤ ms) (v1 : vp_in (i4 + (1 : Int32)) S.1) (v2 : vp_in (i4 + (2 : Int32)) S.1) (v3 : vp_in (i4 + (3 : Int32)) S.1) (v4 : vp_in (i4 + (4 : Int32)) S.1) (v5 : vp_in (i4 + (5 : Int32)) S.1) (v6 : vp_in (i4 + (6 : Int32)) S.1) (hnext : ∀ S2, Good' S2 → gG 1300 (mL_law S) mc ms X 1411 n (hH S2) [some (.float 300), some (.ref (0)), some (.ref (180)), some (.ref (225)), some (.int (i4)), none, none] [] kc ks) : gG 1300 (mL_law S) mc ms X 597 n (hH Sg) [some (.float 300), some (.ref (0)), some (.ref (180)), some (.ref (225)), some (.int (i4)), none, none] [] kc ks := by
  refine kL_law_597 ?_
  obtain ⟨S1, S2, r, h1, h2, h3⟩ := ho Sg  hG
  refine ⟨hk1, hk2, q_rc rfl, 2, _, by decide, CX11_undo h1, ?_⟩
  rintro _ _ ⟨_, rfl, rfl, rfl⟩
  refine ⟨hk1, hk2, q_rc rfl, 1, _, by decide, CX12_undo h2, ?_⟩
  rintro _ _ ⟨_, rfl, rfl, rfl⟩
  exact ⟨fun _ => hnext _ h3, fun c => absurd rfl c⟩
def Ob_judged (Good Good' : gS → Prop) : Prop := ∀ (S : gS) (p0 : Int32), Good S → ∃ (S1 S2 : gS) (r : Int32), FX11_judged S p0 = some (S1, r) ∧ FX12_judged S1 p0 = some (S2, r) ∧ Good' S2
theorem La_judged {Good Good' : gS → Prop} {S : Nat × (Nat → Int32)} {Sg : gS} {n kc ks mc ms : Nat} {X : gX} {i4 : Int32} (ho : Ob_judged Good Good') (hG : Good Sg) (hk1 : kc ≤ mc) (hk2 : ks ≤ ms) (v1 : vp_in (i4 + (1 : Int32)) S.1) (v2 : vp_in (i4 + (2 : Int32)) S.1) (v3 : vp_in (i4 + (3 : Int32)) S.1) (v4 : vp_in (i4 + (4 : Int32)) S.1) (v5 : vp_in (i4 + (5 : Int32)) S.1) (v6 : vp_in (i4 + (6 : Int32)) S.1) (hnext : ∀ S2, Good' S2 → gG 1300 (mL_law S) mc ms X 1411 n (hH S2) [some (.float 300), some (.ref (0)), some (.ref (180)), some (.ref (225)), some (.int (i4)), none, none] [] kc ks) : gG 1300 (mL_law S) mc ms X 610 n (hH Sg) [some (.float 300), some (.ref (0)), some (.ref (180)), some (.ref (225)), some (.int (i4)), none, none] [] kc ks := by
  refine kL_law_610 ?_
  refine ⟨v1, ?_⟩
  obtain ⟨S1, S2, r, h1, h2, h3⟩ := ho Sg ((S.2 (Int32.toNatClampNeg ((i4 + (1 : Int32)))))) hG
  refine ⟨hk1, hk2, q_rc rfl, 6, _, by decide, CX11_judged h1, ?_⟩
  rintro _ _ ⟨_, rfl, rfl, rfl⟩
  refine ⟨v1, ?_⟩
  refine ⟨hk1, hk2, q_rc rfl, 6, _, by decide, CX12_judged h2, ?_⟩
  rintro _ _ ⟨_, rfl, rfl, rfl⟩
  exact ⟨fun _ => hnext _ h3, fun c => absurd rfl c⟩
def Ob_later (Good Good' : gS → Prop) : Prop := ∀ (S : gS) (p0 : Int32) (p1 : Int32), Good S → ∃ (S1 S2 : gS) (r : Int32), FX11_later S p0 p1 = some (S1, r) ∧ FX12_later S1 p0 p1 = some (S2, r) ∧ Good' S2
theorem La_later {Good Good' : gS → Prop} {S : Nat × (Nat → Int32)} {Sg : gS} {n kc ks mc ms : Nat} {X : gX} {i4 : Int32} (ho : Ob_later Good Good') (hG : Good Sg) (hk1 : kc ≤ mc) (hk2 : ks ≤ ms) (v1 : vp_in (i4 + (1 : Int32)) S.1) (v2 : vp_in (i4 + (2 : Int32)) S.1) (v3 : vp_in (i4 + (3 : Int32)) S.1) (v4 : vp_in (i4 + (4 : Int32)) S.1) (v5 : vp_in (i4 + (5 : Int32)) S.1) (v6 : vp_in (i4 + (6 : Int32)) S.1) (hnext : ∀ S2, Good' S2 → gG 1300 (mL_law S) mc ms X 1411 n (hH S2) [some (.float 300), some (.ref (0)), some (.ref (180)), some (.ref (225)), some (.int (i4)), none, none] [] kc ks) : gG 1300 (mL_law S) mc ms X 635 n (hH Sg) [some (.float 300), some (.ref (0)), some (.ref (180)), some (.ref (225)), some (.int (i4)), none, none] [] kc ks := by
  refine kL_law_635 ?_
  refine ⟨v1, ?_⟩
  refine ⟨v2, ?_⟩
  obtain ⟨S1, S2, r, h1, h2, h3⟩ := ho Sg ((S.2 (Int32.toNatClampNeg ((i4 + (1 : Int32)))))) ((S.2 (Int32.toNatClampNeg ((i4 + (2 : Int32)))))) hG
  refine ⟨hk1, hk2, q_rc rfl, 5, _, by decide, CX11_later h1, ?_⟩
  rintro _ _ ⟨_, rfl, rfl, rfl⟩
  refine ⟨v1, ?_⟩
  refine ⟨v2, ?_⟩
  refine ⟨hk1, hk2, q_rc rfl, 6, _, by decide, CX12_later h2, ?_⟩
  rintro _ _ ⟨_, rfl, rfl, rfl⟩
  exact ⟨fun _ => hnext _ h3, fun c => absurd rfl c⟩
def Ob_reads (Good Good' : gS → Prop) : Prop := ∀ (S : gS) (p0 : Int32), Good S → ∃ (S1 S2 : gS) (r : Int32), FX11_reads S p0 = some (S1, r) ∧ FX12_reads S1 p0 = some (S2, r) ∧ Good' S2
theorem La_reads {Good Good' : gS → Prop} {S : Nat × (Nat → Int32)} {Sg : gS} {n kc ks mc ms : Nat} {X : gX} {i4 : Int32} (ho : Ob_reads Good Good') (hG : Good Sg) (hk1 : kc ≤ mc) (hk2 : ks ≤ ms) (v1 : vp_in (i4 + (1 : Int32)) S.1) (v2 : vp_in (i4 + (2 : Int32)) S.1) (v3 : vp_in (i4 + (3 : Int32)) S.1) (v4 : vp_in (i4 + (4 : Int32)) S.1) (v5 : vp_in (i4 + (5 : Int32)) S.1) (v6 : vp_in (i4 + (6 : Int32)) S.1) (hnext : ∀ S2, Good' S2 → gG 1300 (mL_law S) mc ms X 1411 n (hH S2) [some (.float 300), some (.ref (0)), some (.ref (180)), some (.ref (225)), some (.int (i4)), none, none] [] kc ks) : gG 1300 (mL_law S) mc ms X 672 n (hH Sg) [some (.float 300), some (.ref (0)), some (.ref (180)), some (.ref (225)), some (.int (i4)), none, none] [] kc ks := by
  refine kL_law_672 ?_
  refine ⟨v1, ?_⟩
  obtain ⟨S1, S2, r, h1, h2, h3⟩ := ho Sg ((S.2 (Int32.toNatClampNeg ((i4 + (1 : Int32)))))) hG
  refine ⟨hk1, hk2, q_rc rfl, 5, _, by decide, CX11_reads h1, ?_⟩
  rintro _ _ ⟨_, rfl, rfl, rfl⟩
  refine ⟨v1, ?_⟩
  refine ⟨hk1, hk2, q_rc rfl, 6, _, by decide, CX12_reads h2, ?_⟩
  rintro _ _ ⟨_, rfl, rfl, rfl⟩
  exact ⟨fun _ => hnext _ h3, fun c => absurd rfl c⟩
def Ob_when (Good Good' : gS → Prop) : Prop := ∀ (S : gS) (p0 : Int32), Good S → ∃ (S1 S2 : gS) (r : Int32), FX11_when S p0 = some (S1, r) ∧ FX12_when S1 p0 = some (S2, r) ∧ Good' S2
theorem La_when {Good Good' : gS → Prop} {S : Nat × (Nat → Int32)} {Sg : gS} {n kc ks mc ms : Nat} {X : gX} {i4 : Int32} (ho : Ob_when Good Good') (hG : Good Sg) (hk1 : kc ≤ mc) (hk2 : ks ≤ ms) (v1 : vp_in (i4 + (1 : Int32)) S.1) (v2 : vp_in (i4 + (2 : Int32)) S.1) (v3 : vp_in (i4 + (3 : Int32)) S.1) (v4 : vp_in (i4 + (4 : Int32)) S.1) (v5 : vp_in (i4 + (5 : Int32)) S.1) (v6 : vp_in (i4 + (6 : Int32)) S.1) (hnext : ∀ S2, Good' S2 → gG 1300 (mL_law S) mc ms X 1411 n (hH S2) [some (.float 300), some (.ref (0)), some (.ref (180)), some (.ref (225)), some (.int (i4)), none, none] [] kc ks) : gG 1300 (mL_law S) mc ms X 697 n (hH Sg) [some (.float 300), some (.ref (0)), some (.ref (180)), some (.ref (225)), some (.int (i4)), none, none] [] kc ks := by
  refine kL_law_697 ?_
  refine ⟨v1, ?_⟩
  obtain ⟨S1, S2, r, h1, h2, h3⟩ := ho Sg ((S.2 (Int32.toNatClampNeg ((i4 + (1 : Int32)))))) hG
  refine ⟨hk1, hk2, q_rc rfl, 5, _, by decide, CX11_when h1, ?_⟩
  rintro _ _ ⟨_, rfl, rfl, rfl⟩
  refine ⟨v1, ?_⟩
  refine ⟨hk1, hk2, q_rc rfl, 6, _, by decide, CX12_when h2, ?_⟩
  rintro _ _ ⟨_, rfl, rfl, rfl⟩
  exact ⟨fun _ => hnext _ h3, fun c => absurd rfl c⟩
def Ob_dry (Good Good' : gS → Prop) : Prop := ∀ (S : gS) , Good S → ∃ (S1 S2 : gS) (r : Int32), FX11_dry S  = some (S1, r) ∧ FX12_dry S1  = some (S2, r) ∧ Good' S2
theorem La_dry {Good Good' : gS → Prop} {S : Nat × (Nat → Int32)} {Sg : gS} {n kc ks mc ms : Nat} {X : gX} {i4 : Int32} (ho : Ob_dry Good Good') (hG : Good Sg) (hk1 : kc ≤ mc) (hk2 : ks ≤ ms) (v1 : vp_in (i4 + (1 : Int32)) S.1) (v2 : vp_in (i4 + (2 : Int32)) S.1) (v3 : vp_in (i4 + (3 : Int32)) S.1) (v4 : vp_in (i4 + (4 : Int32)) S.1) (v5 : vp_in (i4 + (5 : Int32)) S.1) (v6 : vp_in (i4 + (6 : Int32)) S.1) (hnext : ∀ S2, Good' S2 → gG 1300 (mL_law S) mc ms X 1411 n (hH S2) [some (.float 300), some (.ref (0)), some (.ref (180)), some (.ref (225)), some (.int (i4)), none, none] [] kc ks) : gG 1300 (mL_law S) mc ms X 722 n (hH Sg) [some (.float 300), some (.ref (0)), some (.ref (180)), some (.ref (225)), some (.int (i4)), none, none] [] kc ks := by
  refine kL_law_722 ?_
  obtain ⟨S1, S2, r, h1, h2, h3⟩ := ho Sg  hG
  refine ⟨hk1, hk2, q_rc rfl, 5, _, by decide, CX11_dry h1, ?_⟩
  rintro _ _ ⟨_, rfl, rfl, rfl⟩
  refine ⟨hk1, hk2, q_rc rfl, 6, _, by decide, CX12_dry h2, ?_⟩
  rintro _ _ ⟨_, rfl, rfl, rfl⟩
  exact ⟨fun _ => hnext _ h3, fun c => absurd rfl c⟩
def Ob_spill (Good Good' : gS → Prop) : Prop := ∀ (S : gS) (p0 : Int32), Good S → ∃ (S1 S2 : gS) (r : Int32), FX11_spill S p0 = some (S1, r) ∧ FX12_spill S1 p0 = some (S2, r) ∧ Good' S2
theorem La_spill {Good Good' : gS → Prop} {S : Nat × (Nat → Int32)} {Sg : gS} {n kc ks mc ms : Nat} {X : gX} {i4 : Int32} (ho : Ob_spill Good Good') (hG : Good Sg) (hk1 : kc ≤ mc) (hk2 : ks ≤ ms) (v1 : vp_in (i4 + (1 : Int32)) S.1) (v2 : vp_in (i4 + (2 : Int32)) S.1) (v3 : vp_in (i4 + (3 : Int32)) S.1) (v4 : vp_in (i4 + (4 : Int32)) S.1) (v5 : vp_in (i4 + (5 : Int32)) S.1) (v6 : vp_in (i4 + (6 : Int32)) S.1) (hnext : ∀ S2, Good' S2 → gG 1300 (mL_law S) mc ms X 1411 n (hH S2) [some (.float 300), some (.ref (0)), some (.ref (180)), some (.ref (225)), some (.int (i4)), none, none] [] kc ks) : gG 1300 (mL_law S) mc ms X 735 n (hH Sg) [some (.float 300), some (.ref (0)), some (.ref (180)), some (.ref (225)), some (.int (i4)), none, none] [] kc ks := by
  refine kL_law_735 ?_
  refine ⟨v1, ?_⟩
  obtain ⟨S1, S2, r, h1, h2, h3⟩ := ho Sg ((S.2 (Int32.toNatClampNeg ((i4 + (1 : Int32)))))) hG
  refine ⟨hk1, hk2, q_rc rfl, 5, _, by decide, CX11_spill h1, ?_⟩
  rintro _ _ ⟨_, rfl, rfl, rfl⟩
  refine ⟨v1, ?_⟩
  refine ⟨hk1, hk2, q_rc rfl, 6, _, by decide, CX12_spill h2, ?_⟩
  rintro _ _ ⟨_, rfl, rfl, rfl⟩
  exact ⟨fun _ => hnext _ h3, fun c => absurd rfl c⟩
def Ob_over (Good Good' : gS → Prop) : Prop := ∀ (S : gS) (p0 : Int32), Good S → ∃ (S1 S2 : gS) (r : Int32), FX11_over S p0 = some (S1, r) ∧ FX12_over S1 p0 = some (S2, r) ∧ Good' S2
theorem La_over {Good Good' : gS → Prop} {S : Nat × (Nat → Int32)} {Sg : gS} {n kc ks mc ms : Nat} {X : gX} {i4 : Int32} (ho : Ob_over Good Good') (hG : Good Sg) (hk1 : kc ≤ mc) (hk2 : ks ≤ ms) (v1 : vp_in (i4 + (1 : Int32)) S.1) (v2 : vp_in (i4 + (2 : Int32)) S.1) (v3 : vp_in (i4 + (3 : Int32)) S.1) (v4 : vp_in (i4 + (4 : Int32)) S.1) (v5 : vp_in (i4 + (5 : Int32)) S.1) (v6 : vp_in (i4 + (6 : Int32)) S.1) (hnext : ∀ S2, Good' S2 → gG 1300 (mL_law S) mc ms X 1411 n (hH S2) [some (.float 300), some (.ref (0)), some (.ref (180)), some (.ref (225)), some (.int (i4)), none, none] [] kc ks) : gG 1300 (mL_law S) mc ms X 760 n (hH Sg) [some (.float 300), some (.ref (0)), some (.ref (180)), some (.ref (225)), some (.int (i4)), none, none] [] kc ks := by
  refine kL_law_760 ?_
  refine ⟨v1, ?_⟩
  obtain ⟨S1, S2, r, h1, h2, h3⟩ := ho Sg ((S.2 (Int32.toNatClampNeg ((i4 + (1 : Int32)))))) hG
  refine ⟨hk1, hk2, q_rc rfl, 5, _, by decide, CX11_over h1, ?_⟩
  rintro _ _ ⟨_, rfl, rfl, rfl⟩
  refine ⟨v1, ?_⟩
  refine ⟨hk1, hk2, q_rc rfl, 7, _, by decide, CX12_over h2, ?_⟩
  rintro _ _ ⟨_, rfl, rfl, rfl⟩
  exact ⟨fun _ => hnext _ h3, fun c => absurd rfl c⟩
def Ob_first (Good Good' : gS → Prop) : Prop := ∀ (S : gS) , Good S → ∃ (S1 S2 : gS) (r : Int32), FX11_first S  = some (S1, r) ∧ FX12_first S1  = some (S2, r) ∧ Good' S2
theorem La_first {Good Good' : gS → Prop} {S : Nat × (Nat → Int32)} {Sg : gS} {n kc ks mc ms : Nat} {X : gX} {i4 : Int32} (ho : Ob_first Good Good') (hG : Good Sg) (hk1 : kc ≤ mc) (hk2 : ks ≤ ms) (v1 : vp_in (i4 + (1 : Int32)) S.1) (v2 : vp_in (i4 + (2 : Int32)) S.1) (v3 : vp_in (i4 + (3 : Int32)) S.1) (v4 : vp_in (i4 + (4 : Int32)) S.1) (v5 : vp_in (i4 + (5 : Int32)) S.1) (v6 : vp_in (i4 + (6 : Int32)) S.1) (hnext : ∀ S2, Good' S2 → gG 1300 (mL_law S) mc ms X 1411 n (hH S2) [some (.float 300), some (.ref (0)), some (.ref (180)), some (.ref (225)), some (.int (i4)), none, none] [] kc ks) : gG 1300 (mL_law S) mc ms X 785 n (hH Sg) [some (.float 300), some (.ref (0)), some (.ref (180)), some (.ref (225)), some (.int (i4)), none, none] [] kc ks := by
  refine kL_law_785 ?_
  obtain ⟨S1, S2, r, h1, h2, h3⟩ := ho Sg  hG
  refine ⟨hk1, hk2, q_rc rfl, 5, _, by decide, CX11_first h1, ?_⟩
  rintro _ _ ⟨_, rfl, rfl, rfl⟩
  refine ⟨hk1, hk2, q_rc rfl, 7, _, by decide, CX12_first h2, ?_⟩
  rintro _ _ ⟨_, rfl, rfl, rfl⟩
  exact ⟨fun _ => hnext _ h3, fun c => absurd rfl c⟩
def Ob_great (Good Good' : gS → Prop) : Prop := ∀ (S : gS) (p0 : Int32), Good S → ∃ (S1 S2 : gS) (r : Int32), FX11_great S p0 = some (S1, r) ∧ FX12_great S1 p0 = some (S2, r) ∧ Good' S2
theorem La_great {Good Good' : gS → Prop} {S : Nat × (Nat → Int32)} {Sg : gS} {n kc ks mc ms : Nat} {X : gX} {i4 : Int32} (ho : Ob_great Good Good') (hG : Good Sg) (hk1 : kc ≤ mc) (hk2 : ks ≤ ms) (v1 : vp_in (i4 + (1 : Int32)) S.1) (v2 : vp_in (i4 + (2 : Int32)) S.1) (v3 : vp_in (i4 + (3 : Int32)) S.1) (v4 : vp_in (i4 + (4 : Int32)) S.1) (v5 : vp_in (i4 + (5 : Int32)) S.1) (v6 : vp_in (i4 + (6 : Int32)) S.1) (hnext : ∀ S2, Good' S2 → gG 1300 (mL_law S) mc ms X 1411 n (hH S2) [some (.float 300), some (.ref (0)), some (.ref (180)), some (.ref (225)), some (.int (i4)), none, none] [] kc ks) : gG 1300 (mL_law S) mc ms X 798 n (hH Sg) [some (.float 300), some (.ref (0)), some (.ref (180)), some (.ref (225)), some (.int (i4)), none, none] [] kc ks := by
  refine kL_law_798 ?_
  refine ⟨v1, ?_⟩
  obtain ⟨S1, S2, r, h1, h2, h3⟩ := ho Sg ((S.2 (Int32.toNatClampNeg ((i4 + (1 : Int32)))))) hG
  refine ⟨hk1, hk2, q_rc rfl, 5, _, by decide, CX11_great h1, ?_⟩
  rintro _ _ ⟨_, rfl, rfl, rfl⟩
  refine ⟨v1, ?_⟩
  refine ⟨hk1, hk2, q_rc rfl, 6, _, by decide, CX12_great h2, ?_⟩
  rintro _ _ ⟨_, rfl, rfl, rfl⟩
  exact ⟨fun _ => hnext _ h3, fun c => absurd rfl c⟩
def Ob_twins (Good Good' : gS → Prop) : Prop := ∀ (S : gS) (p0 : Int32), Good S → ∃ (S1 S2 : gS) (r : Int32), FX11_twins S p0 = some (S1, r) ∧ FX12_twins S1 p0 = some (S2, r) ∧ Good' S2
theorem La_twins {Good Good' : gS → Prop} {S : Nat × (Nat → Int32)} {Sg : gS} {n kc ks mc ms : Nat} {X : gX} {i4 : Int32} (ho : Ob_twins Good Good') (hG : Good Sg) (hk1 : kc ≤ mc) (hk2 : ks ≤ ms) (v1 : vp_in (i4 + (1 : Int32)) S.1) (v2 : vp_in (i4 + (2 : Int32)) S.1) (v3 : vp_in (i4 + (3 : Int32)) S.1) (v4 : vp_in (i4 + (4 : Int32)) S.1) (v5 : vp_in (i4 + (5 : Int32)) S.1) (v6 : vp_in (i4 + (6 : Int32)) S.1) (hnext : ∀ S2, Good' S2 → gG 1300 (mL_law S) mc ms X 1411 n (hH S2) [some (.float 300), some (.ref (0)), some (.ref (180)), some (.ref (225)), some (.int (i4)), none, none] [] kc ks) : gG 1300 (mL_law S) mc ms X 823 n (hH Sg) [some (.float 300), some (.ref (0)), some (.ref (180)), some (.ref (225)), some (.int (i4)), none, none] [] kc ks := by
  refine kL_law_823 ?_
  refine ⟨v1, ?_⟩
  obtain ⟨S1, S2, r, h1, h2, h3⟩ := ho Sg ((S.2 (Int32.toNatClampNeg ((i4 + (1 : Int32)))))) hG
  refine ⟨hk1, hk2, q_rc rfl, 5, _, by decide, CX11_twins h1, ?_⟩
  rintro _ _ ⟨_, rfl, rfl, rfl⟩
  refine ⟨v1, ?_⟩
  refine ⟨hk1, hk2, q_rc rfl, 6, _, by decide, CX12_twins h2, ?_⟩
  rintro _ _ ⟨_, rfl, rfl, rfl⟩
  exact ⟨fun _ => hnext _ h3, fun c => absurd rfl c⟩
def Ob_down (Good Good' : gS → Prop) : Prop := ∀ (S : gS) (p0 : Int32), Good S → ∃ (S1 S2 : gS) (r : Int32), FX11_down S p0 = some (S1, r) ∧ FX12_down S1 p0 = some (S2, r) ∧ Good' S2
theorem La_down {Good Good' : gS → Prop} {S : Nat × (Nat → Int32)} {Sg : gS} {n kc ks mc ms : Nat} {X : gX} {i4 : Int32} (ho : Ob_down Good Good') (hG : Good Sg) (hk1 : kc ≤ mc) (hk2 : ks ≤ ms) (v1 : vp_in (i4 + (1 : Int32)) S.1) (v2 : vp_in (i4 + (2 : Int32)) S.1) (v3 : vp_in (i4 + (3 : Int32)) S.1) (v4 : vp_in (i4 + (4 : Int32)) S.1) (v5 : vp_in (i4 + (5 : Int32)) S.1) (v6 : vp_in (i4 + (6 : Int32)) S.1) (hnext : ∀ S2, Good' S2 → gG 1300 (mL_law S) mc ms X 1411 n (hH S2) [some (.float 300), some (.ref (0)), some (.ref (180)), some (.ref (225)), some (.int (i4)), none, none] [] kc ks) : gG 1300 (mL_law S) mc ms X 848 n (hH Sg) [some (.float 300), some (.ref (0)), some (.ref (180)), some (.ref (225)), some (.int (i4)), none, none] [] kc ks := by
  refine kL_law_848 ?_
  refine ⟨v1, ?_⟩
  obtain ⟨S1, S2, r, h1, h2, h3⟩ := ho Sg ((S.2 (Int32.toNatClampNeg ((i4 + (1 : Int32)))))) hG
  refine ⟨hk1, hk2, q_rc rfl, 1, _, by decide, CX11_down h1, ?_⟩
  rintro _ _ ⟨_, rfl, rfl, rfl⟩
  refine ⟨v1, ?_⟩
  refine ⟨hk1, hk2, q_rc rfl, 1, _, by decide, CX12_down h2, ?_⟩
  rintro _ _ ⟨_, rfl, rfl, rfl⟩
  exact ⟨fun _ => hnext _ h3, fun c => absurd rfl c⟩
def Ob_up (Good Good' : gS → Prop) : Prop := ∀ (S : gS) (p0 : Int32), Good S → ∃ (S1 S2 : gS) (r : Int32), FX11_up S p0 = some (S1, r) ∧ FX12_up S1 p0 = some (S2, r) ∧ Good' S2
theorem La_up {Good Good' : gS → Prop} {S : Nat × (Nat → Int32)} {Sg : gS} {n kc ks mc ms : Nat} {X : gX} {i4 : Int32} (ho : Ob_up Good Good') (hG : Good Sg) (hk1 : kc ≤ mc) (hk2 : ks ≤ ms) (v1 : vp_in (i4 + (1 : Int32)) S.1) (v2 : vp_in (i4 + (2 : Int32)) S.1) (v3 : vp_in (i4 + (3 : Int32)) S.1) (v4 : vp_in (i4 + (4 : Int32)) S.1) (v5 : vp_in (i4 + (5 : Int32)) S.1) (v6 : vp_in (i4 + (6 : Int32)) S.1) (hnext : ∀ S2, Good' S2 → gG 1300 (mL_law S) mc ms X 1411 n (hH S2) [some (.float 300), some (.ref (0)), some (.ref (180)), some (.ref (225)), some (.int (i4)), none, none] [] kc ks) : gG 1300 (mL_law S) mc ms X 873 n (hH Sg) [some (.float 300), some (.ref (0)), some (.ref (180)), some (.ref (225)), some (.int (i4)), none, none] [] kc ks := by
  refine kL_law_873 ?_
  refine ⟨v1, ?_⟩
  obtain ⟨S1, S2, r, h1, h2, h3⟩ := ho Sg ((S.2 (Int32.toNatClampNeg ((i4 + (1 : Int32)))))) hG
  refine ⟨hk1, hk2, q_rc rfl, 1, _, by decide, CX11_up h1, ?_⟩
  rintro _ _ ⟨_, rfl, rfl, rfl⟩
  refine ⟨v1, ?_⟩
  refine ⟨hk1, hk2, q_rc rfl, 1, _, by decide, CX12_up h2, ?_⟩
  rintro _ _ ⟨_, rfl, rfl, rfl⟩
  exact ⟨fun _ => hnext _ h3, fun c => absurd rfl c⟩
def Ob_chain (Good Good' : gS → Prop) : Prop := ∀ (S : gS) , Good S → ∃ (S1 S2 : gS) (r : Int32), FX11_chain S  = some (S1, r) ∧ FX12_chain S1  = some (S2, r) ∧ Good' S2
theorem La_chain {Good Good' : gS → Prop} {S : Nat × (Nat → Int32)} {Sg : gS} {n kc ks mc ms : Nat} {X : gX} {i4 : Int32} (ho : Ob_chain Good Good') (hG : Good Sg) (hk1 : kc ≤ mc) (hk2 : ks ≤ ms) (v1 : vp_in (i4 + (1 : Int32)) S.1) (v2 : vp_in (i4 + (2 : Int32)) S.1) (v3 : vp_in (i4 + (3 : Int32)) S.1) (v4 : vp_in (i4 + (4 : Int32)) S.1) (v5 : vp_in (i4 + (5 : Int32)) S.1) (v6 : vp_in (i4 + (6 : Int32)) S.1) (hnext : ∀ S2, Good' S2 → gG 1300 (mL_law S) mc ms X 1411 n (hH S2) [some (.float 300), some (.ref (0)), some (.ref (180)), some (.ref (225)), some (.int (i4)), none, none] [] kc ks) : gG 1300 (mL_law S) mc ms X 898 n (hH Sg) [some (.float 300), some (.ref (0)), some (.ref (180)), some (.ref (225)), some (.int (i4)), none, none] [] kc ks := by
  refine kL_law_898 ?_
  obtain ⟨S1, S2, r, h1, h2, h3⟩ := ho Sg  hG
  refine ⟨hk1, hk2, q_rc rfl, 1, _, by decide, CX11_chain h1, ?_⟩
  rintro _ _ ⟨_, rfl, rfl, rfl⟩
  refine ⟨hk1, hk2, q_rc rfl, 1, _, by decide, CX12_chain h2, ?_⟩
  rintro _ _ ⟨_, rfl, rfl, rfl⟩
  exact ⟨fun _ => hnext _ h3, fun c => absurd rfl c⟩
def Ob_sounds (Good Good' : gS → Prop) : Prop := ∀ (S : gS) , Good S → ∃ (S1 S2 : gS) (r : Int32), FX11_sounds S  = some (S1, r) ∧ FX12_sounds S1  = some (S2, r) ∧ Good' S2
theorem La_sounds {Good Good' : gS → Prop} {S : Nat × (Nat → Int32)} {Sg : gS} {n kc ks mc ms : Nat} {X : gX} {i4 : Int32} (ho : Ob_sounds Good Good') (hG : Good Sg) (hk1 : kc ≤ mc) (hk2 : ks ≤ ms) (v1 : vp_in (i4 + (1 : Int32)) S.1) (v2 : vp_in (i4 + (2 : Int32)) S.1) (v3 : vp_in (i4 + (3 : Int32)) S.1) (v4 : vp_in (i4 + (4 : Int32)) S.1) (v5 : vp_in (i4 + (5 : Int32)) S.1) (v6 : vp_in (i4 + (6 : Int32)) S.1) (hnext : ∀ S2, Good' S2 → gG 1300 (mL_law S) mc ms X 1411 n (hH S2) [some (.float 300), some (.ref (0)), some (.ref (180)), some (.ref (225)), some (.int (i4)), none, none] [] kc ks) : gG 1300 (mL_law S) mc ms X 911 n (hH Sg) [some (.float 300), some (.ref (0)), some (.ref (180)), some (.ref (225)), some (.int (i4)), none, none] [] kc ks := by
  refine kL_law_911 ?_
  obtain ⟨S1, S2, r, h1, h2, h3⟩ := ho Sg  hG
  refine ⟨hk1, hk2, q_rc rfl, 0, _, by decide, CX11_sounds h1, ?_⟩
  rintro _ _ ⟨_, rfl, rfl, rfl⟩
  refine ⟨hk1, hk2, q_rc rfl, 0, _, by decide, CX12_sounds h2, ?_⟩
  rintro _ _ ⟨_, rfl, rfl, rfl⟩
  exact ⟨fun _ => hnext _ h3, fun c => absurd rfl c⟩
def Ob_last (Good Good' : gS → Prop) : Prop := ∀ (S : gS) , Good S → ∃ (S1 S2 : gS) (r : Int32), FX11_last S  = some (S1, r) ∧ FX12_last S1  = some (S2, r) ∧ Good' S2
theorem La_last {Good Good' : gS → Prop} {S : Nat × (Nat → Int32)} {Sg : gS} {n kc ks mc ms : Nat} {X : gX} {i4 : Int32} (ho : Ob_last Good Good') (hG : Good Sg) (hk1 : kc ≤ mc) (hk2 : ks ≤ ms) (v1 : vp_in (i4 + (1 : Int32)) S.1) (v2 : vp_in (i4 + (2 : Int32)) S.1) (v3 : vp_in (i4 + (3 : Int32)) S.1) (v4 : vp_in (i4 + (4 : Int32)) S.1) (v5 : vp_in (i4 + (5 : Int32)) S.1) (v6 : vp_in (i4 + (6 : Int32)) S.1) (hnext : ∀ S2, Good' S2 → gG 1300 (mL_law S) mc ms X 1411 n (hH S2) [some (.float 300), some (.ref (0)), some (.ref (180)), some (.ref (225)), some (.int (i4)), none, none] [] kc ks) : gG 1300 (mL_law S) mc ms X 924 n (hH Sg) [some (.float 300), some (.ref (0)), some (.ref (180)), some (.ref (225)), some (.int (i4)), none, none] [] kc ks := by
  refine kL_law_924 ?_
  obtain ⟨S1, S2, r, h1, h2, h3⟩ := ho Sg  hG
  refine ⟨hk1, hk2, q_rc rfl, 0, _, by decide, CX11_last h1, ?_⟩
  rintro _ _ ⟨_, rfl, rfl, rfl⟩
  refine ⟨hk1, hk2, q_rc rfl, 0, _, by decide, CX12_last h2, ?_⟩
  rintro _ _ ⟨_, rfl, rfl, rfl⟩
  exact ⟨fun _ => hnext _ h3, fun c => absurd rfl c⟩
def Ob_often (Good Good' : gS → Prop) : Prop := ∀ (S : gS) , Good S → ∃ (S1 S2 : gS) (r : Int32), FX11_often S  = some (S1, r) ∧ FX12_often S1  = some (S2, r) ∧ Good' S2
theorem La_often {Good Good' : gS → Prop} {S : Nat × (Nat → Int32)} {Sg : gS} {n kc ks mc ms : Nat} {X : gX} {i4 : Int32} (ho : Ob_often Good Good') (hG : Good Sg) (hk1 : kc ≤ mc) (hk2 : ks ≤ ms) (v1 : vp_in (i4 + (1 : Int32)) S.1) (v2 : vp_in (i4 + (2 : Int32)) S.1) (v3 : vp_in (i4 + (3 : Int32)) S.1) (v4 : vp_in (i4 + (4 : Int32)) S.1) (v5 : vp_in (i4 + (5 : Int32)) S.1) (v6 : vp_in (i4 + (6 : Int32)) S.1) (hnext : ∀ S2, Good' S2 → gG 1300 (mL_law S) mc ms X 1411 n (hH S2) [some (.float 300), some (.ref (0)), some (.ref (180)), some (.ref (225)), some (.int (i4)), none, none] [] kc ks) : gG 1300 (mL_law S) mc ms X 937 n (hH Sg) [some (.float 300), some (.ref (0)), some (.ref (180)), some (.ref (225)), some (.int (i4)), none, none] [] kc ks := by
  refine kL_law_937 ?_
  obtain ⟨S1, S2, r, h1, h2, h3⟩ := ho Sg  hG
  refine ⟨hk1, hk2, q_rc rfl, 1, _, by decide, CX11_often h1, ?_⟩
  rintro _ _ ⟨_, rfl, rfl, rfl⟩
  refine ⟨hk1, hk2, q_rc rfl, 0, _, by decide, CX12_often h2, ?_⟩
  rintro _ _ ⟨_, rfl, rfl, rfl⟩
  exact ⟨fun _ => hnext _ h3, fun c => absurd rfl c⟩
def Ob_run (Good Good' : gS → Prop) : Prop := ∀ (S : gS) , Good S → ∃ (S1 S2 : gS) (r : Int32), FX11_run S  = some (S1, r) ∧ FX12_run S1  = some (S2, r) ∧ Good' S2
theorem La_run {Good Good' : gS → Prop} {S : Nat × (Nat → Int32)} {Sg : gS} {n kc ks mc ms : Nat} {X : gX} {i4 : Int32} (ho : Ob_run Good Good') (hG : Good Sg) (hk1 : kc ≤ mc) (hk2 : ks ≤ ms) (v1 : vp_in (i4 + (1 : Int32)) S.1) (v2 : vp_in (i4 + (2 : Int32)) S.1) (v3 : vp_in (i4 + (3 : Int32)) S.1) (v4 : vp_in (i4 + (4 : Int32)) S.1) (v5 : vp_in (i4 + (5 : Int32)) S.1) (v6 : vp_in (i4 + (6 : Int32)) S.1) (hnext : ∀ S2, Good' S2 → gG 1300 (mL_law S) mc ms X 1411 n (hH S2) [some (.float 300), some (.ref (0)), some (.ref (180)), some (.ref (225)), some (.int (i4)), none, none] [] kc ks) : gG 1300 (mL_law S) mc ms X 950 n (hH Sg) [some (.float 300), some (.ref (0)), some (.ref (180)), some (.ref (225)), some (.int (i4)), none, none] [] kc ks := by
  refine kL_law_950 ?_
  obtain ⟨S1, S2, r, h1, h2, h3⟩ := ho Sg  hG
  refine ⟨hk1, hk2, q_rc rfl, 1, _, by decide, CX11_run h1, ?_⟩
  rintro _ _ ⟨_, rfl, rfl, rfl⟩
  refine ⟨hk1, hk2, q_rc rfl, 1, _, by decide, CX12_run h2, ?_⟩
  rintro _ _ ⟨_, rfl, rfl, rfl⟩
  exact ⟨fun _ => hnext _ h3, fun c => absurd rfl c⟩
def Ob_stands (Good Good' : gS → Prop) : Prop := ∀ (S : gS) , Good S → ∃ (S1 S2 : gS) (r : Int32), FX11_stands S  = some (S1, r) ∧ FX12_stands S1  = some (S2, r) ∧ Good' S2
theorem La_stands {Good Good' : gS → Prop} {S : Nat × (Nat → Int32)} {Sg : gS} {n kc ks mc ms : Nat} {X : gX} {i4 : Int32} (ho : Ob_stands Good Good') (hG : Good Sg) (hk1 : kc ≤ mc) (hk2 : ks ≤ ms) (v1 : vp_in (i4 + (1 : Int32)) S.1) (v2 : vp_in (i4 + (2 : Int32)) S.1) (v3 : vp_in (i4 + (3 : Int32)) S.1) (v4 : vp_in (i4 + (4 : Int32)) S.1) (v5 : vp_in (i4 + (5 : Int32)) S.1) (v6 : vp_in (i4 + (6 : Int32)) S.1) (hnext : ∀ S2, Good' S2 → gG 1300 (mL_law S) mc ms X 1411 n (hH S2) [some (.float 300), some (.ref (0)), some (.ref (180)), some (.ref (225)), some (.int (i4)), none, none] [] kc ks) : gG 1300 (mL_law S) mc ms X 963 n (hH Sg) [some (.float 300), some (.ref (0)), some (.ref (180)), some (.ref (225)), some (.int (i4)), none, none] [] kc ks := by
  refine kL_law_963 ?_
  obtain ⟨S1, S2, r, h1, h2, h3⟩ := ho Sg  hG
  refine ⟨hk1, hk2, q_rc rfl, 2, _, by decide, CX11_stands h1, ?_⟩
  rintro _ _ ⟨_, rfl, rfl, rfl⟩
  refine ⟨hk1, hk2, q_rc rfl, 2, _, by decide, CX12_stands h2, ?_⟩
  rintro _ _ ⟨_, rfl, rfl, rfl⟩
  exact ⟨fun _ => hnext _ h3, fun c => absurd rfl c⟩
def Ob_maybe (Good Good' : gS → Prop) : Prop := ∀ (S : gS) , Good S → ∃ (S1 S2 : gS) (r : Int32), FX11_maybe S  = some (S1, r) ∧ FX12_maybe S1  = some (S2, r) ∧ Good' S2
theorem La_maybe {Good Good' : gS → Prop} {S : Nat × (Nat → Int32)} {Sg : gS} {n kc ks mc ms : Nat} {X : gX} {i4 : Int32} (ho : Ob_maybe Good Good') (hG : Good Sg) (hk1 : kc ≤ mc) (hk2 : ks ≤ ms) (v1 : vp_in (i4 + (1 : Int32)) S.1) (v2 : vp_in (i4 + (2 : Int32)) S.1) (v3 : vp_in (i4 + (3 : Int32)) S.1) (v4 : vp_in (i4 + (4 : Int32)) S.1) (v5 : vp_in (i4 + (5 : Int32)) S.1) (v6 : vp_in (i4 + (6 : Int32)) S.1) (hnext : ∀ S2, Good' S2 → gG 1300 (mL_law S) mc ms X 1411 n (hH S2) [some (.float 300), some (.ref (0)), some (.ref (180)), some (.ref (225)), some (.int (i4)), none, none] [] kc ks) : gG 1300 (mL_law S) mc ms X 976 n (hH Sg) [some (.float 300), some (.ref (0)), some (.ref (180)), some (.ref (225)), some (.int (i4)), none, none] [] kc ks := by
  refine kL_law_976 ?_
  obtain ⟨S1, S2, r, h1, h2, h3⟩ := ho Sg  hG
  refine ⟨hk1, hk2, q_rc rfl, 2, _, by decide, CX11_maybe h1, ?_⟩
  rintro _ _ ⟨_, rfl, rfl, rfl⟩
  refine ⟨hk1, hk2, q_rc rfl, 1, _, by decide, CX12_maybe h2, ?_⟩
  rintro _ _ ⟨_, rfl, rfl, rfl⟩
  exact ⟨fun _ => hnext _ h3, fun c => absurd rfl c⟩
def Ob_entire (Good Good' : gS → Prop) : Prop := ∀ (S : gS) , Good S → ∃ (S1 S2 : gS) (r : Int32), FX11_entire S  = some (S1, r) ∧ FX12_entire S1  = some (S2, r) ∧ Good' S2
theorem La_entire {Good Good' : gS → Prop} {S : Nat × (Nat → Int32)} {Sg : gS} {n kc ks mc ms : Nat} {X : gX} {i4 : Int32} (ho : Ob_entire Good Good') (hG : Good Sg) (hk1 : kc ≤ mc) (hk2 : ks ≤ ms) (v1 : vp_in (i4 + (1 : Int32)) S.1) (v2 : vp_in (i4 + (2 : Int32)) S.1) (v3 : vp_in (i4 + (3 : Int32)) S.1) (v4 : vp_in (i4 + (4 : Int32)) S.1) (v5 : vp_in (i4 + (5 : Int32)) S.1) (v6 : vp_in (i4 + (6 : Int32)) S.1) (hnext : ∀ S2, Good' S2 → gG 1300 (mL_law S) mc ms X 1411 n (hH S2) [some (.float 300), some (.ref (0)), some (.ref (180)), some (.ref (225)), some (.int (i4)), none, none] [] kc ks) : gG 1300 (mL_law S) mc ms X 989 n (hH Sg) [some (.float 300), some (.ref (0)), some (.ref (180)), some (.ref (225)), some (.int (i4)), none, none] [] kc ks := by
  refine kL_law_989 ?_
  obtain ⟨S1, S2, r, h1, h2, h3⟩ := ho Sg  hG
  refine ⟨hk1, hk2, q_rc rfl, 5, _, by decide, CX11_entire h1, ?_⟩
  rintro _ _ ⟨_, rfl, rfl, rfl⟩
  refine ⟨hk1, hk2, q_rc rfl, 6, _, by decide, CX12_entire h2, ?_⟩
  rintro _ _ ⟨_, rfl, rfl, rfl⟩
  exact ⟨fun _ => hnext _ h3, fun c => absurd rfl c⟩
def Ob_aim (Good Good' : gS → Prop) : Prop := ∀ (S : gS) (p0 : Int32) (p1 : Int32), Good S → ∃ (S1 S2 : gS) (r : Int32), FX11_aim S p0 p1 = some (S1, r) ∧ FX12_aim S1 p0 p1 = some (S2, r) ∧ Good' S2
theorem La_aim {Good Good' : gS → Prop} {S : Nat × (Nat → Int32)} {Sg : gS} {n kc ks mc ms : Nat} {X : gX} {i4 : Int32} (ho : Ob_aim Good Good') (hG : Good Sg) (hk1 : kc ≤ mc) (hk2 : ks ≤ ms) (v1 : vp_in (i4 + (1 : Int32)) S.1) (v2 : vp_in (i4 + (2 : Int32)) S.1) (v3 : vp_in (i4 + (3 : Int32)) S.1) (v4 : vp_in (i4 + (4 : Int32)) S.1) (v5 : vp_in (i4 + (5 : Int32)) S.1) (v6 : vp_in (i4 + (6 : Int32)) S.1) (hnext : ∀ S2, Good' S2 → gG 1300 (mL_law S) mc ms X 1411 n (hH S2) [some (.float 300), some (.ref (0)), some (.ref (180)), some (.ref (225)), some (.int (i4)), none, none] [] kc ks) : gG 1300 (mL_law S) mc ms X 1002 n (hH Sg) [some (.float 300), some (.ref (0)), some (.ref (180)), some (.ref (225)), some (.int (i4)), none, none] [] kc ks := by
  refine kL_law_1002 ?_
  refine ⟨v1, ?_⟩
  refine ⟨v2, ?_⟩
  obtain ⟨S1, S2, r, h1, h2, h3⟩ := ho Sg ((S.2 (Int32.toNatClampNeg ((i4 + (1 : Int32)))))) ((S.2 (Int32.toNatClampNeg ((i4 + (2 : Int32)))))) hG
  refine ⟨hk1, hk2, q_rc rfl, 6, _, by decide, CX11_aim h1, ?_⟩
  rintro _ _ ⟨_, rfl, rfl, rfl⟩
  refine ⟨v1, ?_⟩
  refine ⟨v2, ?_⟩
  refine ⟨hk1, hk2, q_rc rfl, 7, _, by decide, CX12_aim h2, ?_⟩
  rintro _ _ ⟨_, rfl, rfl, rfl⟩
  exact ⟨fun _ => hnext _ h3, fun c => absurd rfl c⟩
def Ob_hush (Good Good' : gS → Prop) : Prop := ∀ (S : gS) (p0 : Int32), Good S → ∃ (S1 S2 : gS) (r : Int32), FX11_hush S p0 = some (S1, r) ∧ FX12_hush S1 p0 = some (S2, r) ∧ Good' S2
theorem La_hush {Good Good' : gS → Prop} {S : Nat × (Nat → Int32)} {Sg : gS} {n kc ks mc ms : Nat} {X : gX} {i4 : Int32} (ho : Ob_hush Good Good') (hG : Good Sg) (hk1 : kc ≤ mc) (hk2 : ks ≤ ms) (v1 : vp_in (i4 + (1 : Int32)) S.1) (v2 : vp_in (i4 + (2 : Int32)) S.1) (v3 : vp_in (i4 + (3 : Int32)) S.1) (v4 : vp_in (i4 + (4 : Int32)) S.1) (v5 : vp_in (i4 + (5 : Int32)) S.1) (v6 : vp_in (i4 + (6 : Int32)) S.1) (hnext : ∀ S2, Good' S2 → gG 1300 (mL_law S) mc ms X 1411 n (hH S2) [some (.float 300), some (.ref (0)), some (.ref (180)), some (.ref (225)), some (.int (i4)), none, none] [] kc ks) : gG 1300 (mL_law S) mc ms X 1039 n (hH Sg) [some (.float 300), some (.ref (0)), some (.ref (180)), some (.ref (225)), some (.int (i4)), none, none] [] kc ks := by
  refine kL_law_1039 ?_
  refine ⟨v1, ?_⟩
  obtain ⟨S1, S2, r, h1, h2, h3⟩ := ho Sg ((S.2 (Int32.toNatClampNeg ((i4 + (1 : Int32)))))) hG
  refine ⟨hk1, hk2, q_rc rfl, 6, _, by decide, CX11_hush h1, ?_⟩
  rintro _ _ ⟨_, rfl, rfl, rfl⟩
  refine ⟨v1, ?_⟩
  refine ⟨hk1, hk2, q_rc rfl, 6, _, by decide, CX12_hush h2, ?_⟩
  rintro _ _ ⟨_, rfl, rfl, rfl⟩
  exact ⟨fun _ => hnext _ h3, fun c => absurd rfl c⟩
def Ob_see (Good Good' : gS → Prop) : Prop := ∀ (S : gS) (p0 : Int32) (p1 : Bool), Good S → ∃ (S1 S2 : gS) (r : Bool), FX11_see S p0 (g_b p1) = some (S1, r) ∧ FX12_see S1 p0 (g_b p1) = some (S2, r) ∧ Good' S2
theorem La_see {Good Good' : gS → Prop} {S : Nat × (Nat → Int32)} {Sg : gS} {n kc ks mc ms : Nat} {X : gX} {i4 : Int32} (ho : Ob_see Good Good') (hG : Good Sg) (hk1 : kc ≤ mc) (hk2 : ks ≤ ms) (v1 : vp_in (i4 + (1 : Int32)) S.1) (v2 : vp_in (i4 + (2 : Int32)) S.1) (v3 : vp_in (i4 + (3 : Int32)) S.1) (v4 : vp_in (i4 + (4 : Int32)) S.1) (v5 : vp_in (i4 + (5 : Int32)) S.1) (v6 : vp_in (i4 + (6 : Int32)) S.1) (hnext : ∀ S2, Good' S2 → gG 1300 (mL_law S) mc ms X 1411 n (hH S2) [some (.float 300), some (.ref (0)), some (.ref (180)), some (.ref (225)), some (.int (i4)), none, none] [] kc ks) : gG 1300 (mL_law S) mc ms X 1064 n (hH Sg) [some (.float 300), some (.ref (0)), some (.ref (180)), some (.ref (225)), some (.int (i4)), none, none] [] kc ks := by
  refine kL_law_1064 ?_
  refine ⟨v1, ?_⟩
  refine ⟨v2, ?_⟩
  refine ⟨fun hk => ?_, fun hk => ?_⟩
  · skip
    obtain ⟨S1, S2, r, h1, h2, h3⟩ := ho Sg ((S.2 (Int32.toNatClampNeg ((i4 + (1 : Int32)))))) (false) hG
    refine ⟨hk1, hk2, q_rc rfl, 1, _, by decide, CX11_see h1, ?_⟩
    rintro _ _ ⟨_, rfl, rfl, rfl⟩
    refine ⟨v1, ?_⟩
    refine ⟨v2, ?_⟩
    refine ⟨fun _ => ?_, fun c => absurd hk c⟩
    refine ⟨hk1, hk2, q_rc rfl, 1, _, by decide, CX12_see h2, ?_⟩
    rintro _ _ ⟨_, rfl, rfl, rfl⟩
    exact ⟨fun _ => hnext _ h3, fun c => absurd rfl c⟩
  · skip
    obtain ⟨S1, S2, r, h1, h2, h3⟩ := ho Sg ((S.2 (Int32.toNatClampNeg ((i4 + (1 : Int32)))))) (true) hG
    refine ⟨hk1, hk2, q_rc rfl, 1, _, by decide, CX11_see h1, ?_⟩
    rintro _ _ ⟨_, rfl, rfl, rfl⟩
    refine ⟨v1, ?_⟩
    refine ⟨v2, ?_⟩
    refine ⟨fun c => absurd c hk, fun _ => ?_⟩
    refine ⟨hk1, hk2, q_rc rfl, 1, _, by decide, CX12_see h2, ?_⟩
    rintro _ _ ⟨_, rfl, rfl, rfl⟩
    exact ⟨fun _ => hnext _ h3, fun c => absurd rfl c⟩
def Ob_rains (Good Good' : gS → Prop) : Prop := ∀ (S : gS) , Good S → ∃ (S1 S2 : gS) (r : Int32), FX11_rains S  = some (S1, r) ∧ FX12_rains S1  = some (S2, r) ∧ Good' S2
theorem La_rains {Good Good' : gS → Prop} {S : Nat × (Nat → Int32)} {Sg : gS} {n kc ks mc ms : Nat} {X : gX} {i4 : Int32} (ho : Ob_rains Good Good') (hG : Good Sg) (hk1 : kc ≤ mc) (hk2 : ks ≤ ms) (v1 : vp_in (i4 + (1 : Int32)) S.1) (v2 : vp_in (i4 + (2 : Int32)) S.1) (v3 : vp_in (i4 + (3 : Int32)) S.1) (v4 : vp_in (i4 + (4 : Int32)) S.1) (v5 : vp_in (i4 + (5 : Int32)) S.1) (v6 : vp_in (i4 + (6 : Int32)) S.1) (hnext : ∀ S2, Good' S2 → gG 1300 (mL_law S) mc ms X 1411 n (hH S2) [some (.float 300), some (.ref (0)), some (.ref (180)), some (.ref (225)), some (.int (i4)), none, none] [] kc ks) : gG 1300 (mL_law S) mc ms X 1117 n (hH Sg) [some (.float 300), some (.ref (0)), some (.ref (180)), some (.ref (225)), some (.int (i4)), none, none] [] kc ks := by
  refine kL_law_1117 ?_
  obtain ⟨S1, S2, r, h1, h2, h3⟩ := ho Sg  hG
  refine ⟨hk1, hk2, q_rc rfl, 5, _, by decide, CX11_rains h1, ?_⟩
  rintro _ _ ⟨_, rfl, rfl, rfl⟩
  refine ⟨hk1, hk2, q_rc rfl, 6, _, by decide, CX12_rains h2, ?_⟩
  rintro _ _ ⟨_, rfl, rfl, rfl⟩
  exact ⟨fun _ => hnext _ h3, fun c => absurd rfl c⟩
def Ob_look (Good Good' : gS → Prop) : Prop := ∀ (S : gS) , Good S → ∃ (S1 S2 : gS) (r : Int32), FX11_look S  = some (S1, r) ∧ FX12_look S1  = some (S2, r) ∧ Good' S2
theorem La_look {Good Good' : gS → Prop} {S : Nat × (Nat → Int32)} {Sg : gS} {n kc ks mc ms : Nat} {X : gX} {i4 : Int32} (ho : Ob_look Good Good') (hG : Good Sg) (hk1 : kc ≤ mc) (hk2 : ks ≤ ms) (v1 : vp_in (i4 + (1 : Int32)) S.1) (v2 : vp_in (i4 + (2 : Int32)) S.1) (v3 : vp_in (i4 + (3 : Int32)) S.1) (v4 : vp_in (i4 + (4 : Int32)) S.1) (v5 : vp_in (i4 + (5 : Int32)) S.1) (v6 : vp_in (i4 + (6 : Int32)) S.1) (hnext : ∀ S2, Good' S2 → gG 1300 (mL_law S) mc ms X 1411 n (hH S2) [some (.float 300), some (.ref (0)), some (.ref (180)), some (.ref (225)), some (.int (i4)), none, none] [] kc ks) : gG 1300 (mL_law S) mc ms X 1130 n (hH Sg) [some (.float 300), some (.ref (0)), some (.ref (180)), some (.ref (225)), some (.int (i4)), none, none] [] kc ks := by
  refine kL_law_1130 ?_
  obtain ⟨S1, S2, r, h1, h2, h3⟩ := ho Sg  hG
  refine ⟨hk1, hk2, q_rc rfl, 5, _, by decide, CX11_look h1, ?_⟩
  rintro _ _ ⟨_, rfl, rfl, rfl⟩
  refine ⟨hk1, hk2, q_rc rfl, 7, _, by decide, CX12_look h2, ?_⟩
  rintro _ _ ⟨_, rfl, rfl, rfl⟩
  exact ⟨fun _ => hnext _ h3, fun c => absurd rfl c⟩
def Ob_chance (Good Good' : gS → Prop) : Prop := ∀ (S : gS) (p0 : Int32) (p1 : Int32) (p2 : Int32), Good S → ∃ (S1 S2 : gS) (r : Int32), FX11_chance S p0 p1 p2 = some (S1, r) ∧ FX12_chance S1 p0 p1 p2 = some (S2, r) ∧ Good' S2
theorem La_chance {Good Good' : gS → Prop} {S : Nat × (Nat → Int32)} {Sg : gS} {n kc ks mc ms : Nat} {X : gX} {i4 : Int32} (ho : Ob_chance Good Good') (hG : Good Sg) (hk1 : kc ≤ mc) (hk2 : ks ≤ ms) (v1 : vp_in (i4 + (1 : Int32)) S.1) (v2 : vp_in (i4 + (2 : Int32)) S.1) (v3 : vp_in (i4 + (3 : Int32)) S.1) (v4 : vp_in (i4 + (4 : Int32)) S.1) (v5 : vp_in (i4 + (5 : Int32)) S.1) (v6 : vp_in (i4 + (6 : Int32)) S.1) (hnext : ∀ S2, Good' S2 → gG 1300 (mL_law S) mc ms X 1411 n (hH S2) [some (.float 300), some (.ref (0)), some (.ref (180)), some (.ref (225)), some (.int (i4)), none, none] [] kc ks) : gG 1300 (mL_law S) mc ms X 1143 n (hH Sg) [some (.float 300), some (.ref (0)), some (.ref (180)), some (.ref (225)), some (.int (i4)), none, none] [] kc ks := by
  refine kL_law_1143 ?_
  refine ⟨v1, ?_⟩
  refine ⟨v2, ?_⟩
  refine ⟨v3, ?_⟩
  obtain ⟨S1, S2, r, h1, h2, h3⟩ := ho Sg ((S.2 (Int32.toNatClampNeg ((i4 + (1 : Int32)))))) ((S.2 (Int32.toNatClampNeg ((i4 + (2 : Int32)))))) ((S.2 (Int32.toNatClampNeg ((i4 + (3 : Int32)))))) hG
  refine ⟨hk1, hk2, q_rc rfl, 5, _, by decide, CX11_chance h1, ?_⟩
  rintro _ _ ⟨_, rfl, rfl, rfl⟩
  refine ⟨v1, ?_⟩
  refine ⟨v2, ?_⟩
  refine ⟨v3, ?_⟩
  refine ⟨hk1, hk2, q_rc rfl, 5, _, by decide, CX12_chance h2, ?_⟩
  rintro _ _ ⟨_, rfl, rfl, rfl⟩
  exact ⟨fun _ => hnext _ h3, fun c => absurd rfl c⟩
def Ob_days (Good Good' : gS → Prop) : Prop := ∀ (S : gS) (p0 : Int32) (p1 : Int32) (p2 : Int32), Good S → ∃ (S1 S2 : gS) (r : Int32), FX11_days S p0 p1 p2 = some (S1, r) ∧ FX12_days S1 p0 p1 p2 = some (S2, r) ∧ Good' S2
theorem La_days {Good Good' : gS → Prop} {S : Nat × (Nat → Int32)} {Sg : gS} {n kc ks mc ms : Nat} {X : gX} {i4 : Int32} (ho : Ob_days Good Good') (hG : Good Sg) (hk1 : kc ≤ mc) (hk2 : ks ≤ ms) (v1 : vp_in (i4 + (1 : Int32)) S.1) (v2 : vp_in (i4 + (2 : Int32)) S.1) (v3 : vp_in (i4 + (3 : Int32)) S.1) (v4 : vp_in (i4 + (4 : Int32)) S.1) (v5 : vp_in (i4 + (5 : Int32)) S.1) (v6 : vp_in (i4 + (6 : Int32)) S.1) (hnext : ∀ S2, Good' S2 → gG 1300 (mL_law S) mc ms X 1411 n (hH S2) [some (.float 300), some (.ref (0)), some (.ref (180)), some (.ref (225)), some (.int (i4)), none, none] [] kc ks) : gG 1300 (mL_law S) mc ms X 1284 n (hH Sg) [some (.float 300), some (.ref (0)), some (.ref (180)), some (.ref (225)), some (.int (i4)), none, none] [] kc ks := by
  refine kL_law_1284 ?_
  refine ⟨v1, ?_⟩
  refine ⟨v2, ?_⟩
  refine ⟨v3, ?_⟩
  obtain ⟨S1, S2, r, h1, h2, h3⟩ := ho Sg ((S.2 (Int32.toNatClampNeg ((i4 + (1 : Int32)))))) ((S.2 (Int32.toNatClampNeg ((i4 + (2 : Int32)))))) ((S.2 (Int32.toNatClampNeg ((i4 + (3 : Int32)))))) hG
  refine ⟨hk1, hk2, q_rc rfl, 5, _, by decide, CX11_days h1, ?_⟩
  rintro _ _ ⟨_, rfl, rfl, rfl⟩
  refine ⟨v1, ?_⟩
  refine ⟨v2, ?_⟩
  refine ⟨v3, ?_⟩
  refine ⟨hk1, hk2, q_rc rfl, 7, _, by decide, CX12_days h2, ?_⟩
  rintro _ _ ⟨_, rfl, rfl, rfl⟩
  exact ⟨fun _ => hnext _ h3, fun c => absurd rfl c⟩
def Ob_mark (Good Good' : gS → Prop) : Prop := ∀ (S : gS) (p0 : Int32) (p1 : Bool), Good S → ∃ (S1 S2 : gS) (r : Bool), FX11_mark S p0 (g_b p1) = some (S1, r) ∧ FX12_mark S1 p0 (g_b p1) = some (S2, r) ∧ Good' S2
theorem La_mark {Good Good' : gS → Prop} {S : Nat × (Nat → Int32)} {Sg : gS} {n kc ks mc ms : Nat} {X : gX} {i4 : Int32} (ho : Ob_mark Good Good') (hG : Good Sg) (hk1 : kc ≤ mc) (hk2 : ks ≤ ms) (v1 : vp_in (i4 + (1 : Int32)) S.1) (v2 : vp_in (i4 + (2 : Int32)) S.1) (v3 : vp_in (i4 + (3 : Int32)) S.1) (v4 : vp_in (i4 + (4 : Int32)) S.1) (v5 : vp_in (i4 + (5 : Int32)) S.1) (v6 : vp_in (i4 + (6 : Int32)) S.1) (hnext : ∀ S2, Good' S2 → gG 1300 (mL_law S) mc ms X 1411 n (hH S2) [some (.float 300), some (.ref (0)), some (.ref (180)), some (.ref (225)), some (.int (i4)), none, none] [] kc ks) : gG 1300 (mL_law S) mc ms X 1333 n (hH Sg) [some (.float 300), some (.ref (0)), some (.ref (180)), some (.ref (225)), some (.int (i4)), none, none] [] kc ks := by
  refine kL_law_1333 ?_
  refine ⟨v1, ?_⟩
  refine ⟨v2, ?_⟩
  refine ⟨fun hk => ?_, fun hk => ?_⟩
  · skip
    obtain ⟨S1, S2, r, h1, h2, h3⟩ := ho Sg ((S.2 (Int32.toNatClampNeg ((i4 + (1 : Int32)))))) (false) hG
    refine ⟨hk1, hk2, q_rc rfl, 2, _, by decide, CX11_mark h1, ?_⟩
    rintro _ _ ⟨_, rfl, rfl, rfl⟩
    refine ⟨v1, ?_⟩
    refine ⟨v2, ?_⟩
    refine ⟨fun _ => ?_, fun c => absurd hk c⟩
    refine ⟨hk1, hk2, q_rc rfl, 1, _, by decide, CX12_mark h2, ?_⟩
    rintro _ _ ⟨_, rfl, rfl, rfl⟩
    exact ⟨fun _ => hnext _ h3, fun c => absurd rfl c⟩
  · skip
    obtain ⟨S1, S2, r, h1, h2, h3⟩ := ho Sg ((S.2 (Int32.toNatClampNeg ((i4 + (1 : Int32)))))) (true) hG
    refine ⟨hk1, hk2, q_rc rfl, 2, _, by decide, CX11_mark h1, ?_⟩
    rintro _ _ ⟨_, rfl, rfl, rfl⟩
    refine ⟨v1, ?_⟩
    refine ⟨v2, ?_⟩
    refine ⟨fun c => absurd c hk, fun _ => ?_⟩
    refine ⟨hk1, hk2, q_rc rfl, 1, _, by decide, CX12_mark h2, ?_⟩
    rintro _ _ ⟨_, rfl, rfl, rfl⟩
    exact ⟨fun _ => hnext _ h3, fun c => absurd rfl c⟩
def Ob_count (Good Good' : gS → Prop) : Prop := ∀ (S : gS) (p0 : Int32), Good S → ∃ (S1 S2 : gS) (r : Int32), FX11_count S p0 = some (S1, r) ∧ FX12_count S1 p0 = some (S2, r) ∧ Good' S2
theorem La_count {Good Good' : gS → Prop} {S : Nat × (Nat → Int32)} {Sg : gS} {n kc ks mc ms : Nat} {X : gX} {i4 : Int32} (ho : Ob_count Good Good') (hG : Good Sg) (hk1 : kc ≤ mc) (hk2 : ks ≤ ms) (v1 : vp_in (i4 + (1 : Int32)) S.1) (v2 : vp_in (i4 + (2 : Int32)) S.1) (v3 : vp_in (i4 + (3 : Int32)) S.1) (v4 : vp_in (i4 + (4 : Int32)) S.1) (v5 : vp_in (i4 + (5 : Int32)) S.1) (v6 : vp_in (i4 + (6 : Int32)) S.1) (hnext : ∀ S2, Good' S2 → gG 1300 (mL_law S) mc ms X 1411 n (hH S2) [some (.float 300), some (.ref (0)), some (.ref (180)), some (.ref (225)), some (.int (i4)), none, none] [] kc ks) : gG 1300 (mL_law S) mc ms X 1386 n (hH Sg) [some (.float 300), some (.ref (0)), some (.ref (180)), some (.ref (225)), some (.int (i4)), none, none] [] kc ks := by
  refine kL_law_1386 ?_
  refine ⟨v1, ?_⟩
  obtain ⟨S1, S2, r, h1, h2, h3⟩ := ho Sg ((S.2 (Int32.toNatClampNeg ((i4 + (1 : Int32)))))) hG
  refine ⟨hk1, hk2, q_rc rfl, 1, _, by decide, CX11_count h1, ?_⟩
  rintro _ _ ⟨_, rfl, rfl, rfl⟩
  refine ⟨v1, ?_⟩
  refine ⟨hk1, hk2, q_rc rfl, 1, _, by decide, CX12_count h2, ?_⟩
  rintro _ _ ⟨_, rfl, rfl, rfl⟩
  exact ⟨fun _ => hnext _ h3, fun c => absurd rfl c⟩
