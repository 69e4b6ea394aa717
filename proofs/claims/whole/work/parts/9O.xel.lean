/-! signs and words of an E -/
theorem txtE : ∀ k, k < 7 → txt (UInt32.ofNat (k + 34)) := by unfold txt gLen by1; decide +kernel
theorem txt34 : txt 34 := txtE 0 (by omega)
theorem txt35 : txt 35 := txtE 1 (by omega)
theorem txt36 : txt 36 := txtE 2 (by omega)
theorem txt37 : txt 37 := txtE 3 (by omega)
theorem txt38 : txt 38 := txtE 4 (by omega)
theorem txt39 : txt 39 := txtE 5 (by omega)
theorem txt40 : txt 40 := txtE 6 (by omega)
theorem gw34 : (127274 : Int64) = LN (e27 (gw 34)) := by decide +kernel
theorem gw35 : (283288069 : Int64) = LN (e27 (gw 35)) := by decide +kernel
theorem gw36 : (394725 : Int64) = LN (e27 (gw 36)) := by decide +kernel
theorem gw37 : (16922 : Int64) = LN (e27 (gw 37)) := by decide +kernel
theorem gw38 : (10631 : Int64) = LN (e27 (gw 38)) := by decide +kernel
theorem gw39 : (1111 : Int64) = LN (e27 (gw 39)) := by decide +kernel
theorem gw40 : (423 : Int64) = LN (e27 (gw 40)) := by decide +kernel
theorem xSgn {S : gS} {T : aTp} {q c : Nat} (hT : okT T) (hq : q ≤ T.1) (hk : tkX S T (tokAt T q)) (hc128 : c < 128) : FX8_isSign S (N c) = some (S, isS T q c) := by
  have h1000 := hT.1
  obtain ⟨e1, e2, e3, e4, e5, e6⟩ := tokAt_e hq
  unfold FX8_isSign isS
  rw [hk.2.2.1]
  by_cases c4 : (tokAt T q).1 = 4
  · have hlt := tokAt_lt hq (by omega)
    have hc := hT.2 q hlt
    have hc2 : T.2 q < 200 := by unfold okC at hc; omega
    rw [if_pos (show N (tokAt T q).1 = (4 : Int32) by rw [c4]; rfl), hk.1, hk.2.2.2.1, e1, if_neg (fun h => absurd ((leN (by omega) (by omega)).mp h) (by omega)), if_pos (vpN (by omega) (by omega)), clN (by omega), hk.2.1 q hlt]
    by_cases c2 : T.2 q = c
    · rw [if_pos (by rw [c2]), decide_eq_true ⟨c4, c2⟩]
    · rw [if_neg (fun h => c2 ((eqN (by omega) (by omega)).mp h)), decide_eq_false (fun h => c2 h.2)]
  · rw [if_neg (show ¬ N (tokAt T q).1 = (4 : Int32) from fun h => c4 ((eqN (b := 4) (by omega) (by omega)).mp h)), decide_eq_false (fun h => c4 h.1)]
theorem mSgn {S : gS} {T : aTp} {q c : Nat} (hT : okT T) (hq : q ≤ T.1) (hk : tkM S T (tokAt T q)) (hc128 : c < 128) : FX12_isSign S (N c) = some (S, isS T q c) := by
  have h1000 := hT.1
  obtain ⟨e1, e2, e3, e4, e5, e6⟩ := tokAt_e hq
  unfold FX12_isSign isS
  rw [hk.2.2.1]
  by_cases c4 : (tokAt T q).1 = 4
  · have hlt := tokAt_lt hq (by omega)
    have hc := hT.2 q hlt
    have hc2 : T.2 q < 200 := by unfold okC at hc; omega
    rw [if_pos (show N (mkk (tokAt T q).1) = (3 : Int32) from (mk1 _ (by omega) 4 (by omega)).mpr c4), hk.2.2.2.1, e1, if_pos (vpN (by omega) (by omega)), clN (by omega), hk.2.1 q hlt]
    by_cases c2 : T.2 q = c
    · rw [if_pos (by rw [c2]), decide_eq_true ⟨c4, c2⟩]
    · rw [if_neg (fun h => c2 ((eqN (by omega) (by omega)).mp h)), decide_eq_false (fun h => c2 h.2)]
  · rw [if_neg (show ¬ N (mkk (tokAt T q).1) = (3 : Int32) from fun h => c4 ((mk1 _ (by omega) 4 (by omega)).mp h)), decide_eq_false (fun h => c4 h.1)]
theorem xIsNum {S : gS} {T : aTp} {q : Nat} (hq : q ≤ T.1) (hk : tkX S T (tokAt T q)) : FX8_isNumber S = some (S, decide ((tokAt T q).1 = 3)) := by
  have h4 := (tokAt_e hq).2.2.2.2.2
  unfold FX8_isNumber
  rw [hk.2.2.1]
  by_cases h : (tokAt T q).1 = 3
  · rw [if_pos (show N (tokAt T q).1 = (3 : Int32) from by rw [h]; rfl), decide_eq_true h]
  · rw [if_neg (show ¬ N (tokAt T q).1 = (3 : Int32) from fun e => h ((eqN (b := 3) (by omega) (by omega)).mp e)), decide_eq_false h]
def faC (j : Nat) : Int32 := if j = 0 then 0 else faX j
theorem xFactH {S : gS} {T : aTp} {q : Nat} (hT : okT T) (hq : q ≤ T.1) (hk : tkX S T (tokAt T q)) : FX4_factHere S = some (S, faC (tkFa (tokAt T q))) := by
  unfold FX4_factHere tkFa
  simp only [g_b2, xIsWord hT hq hk txt34, xIsWord hT hq hk txt35, xIsWord hT hq hk txt36, xIsWord hT hq hk txt37]
  repeat' split
  all_goals first | rfl | exact absurd rfl (by assumption)
def jnC (T : aTp) (lev q : Nat) : Int32 := if jnK T lev q = 0 then 0 else jnX lev (jnK T lev q)
theorem xJoinH {S : gS} {T : aTp} {lev q : Nat} (hT : okT T) (hq : q ≤ T.1) (hk : tkX S T (tokAt T q)) (hl : lev ≤ 3) : FX4_joinHere S (N lev) = some (S, jnC T lev q) := by
  have s60 : FX8_isSign S (60 : Int32) = some (S, isS T q 60) := xSgn (c := 60) hT hq hk (by omega)
  have s61 : FX8_isSign S (61 : Int32) = some (S, isS T q 61) := xSgn (c := 61) hT hq hk (by omega)
  have s43 : FX8_isSign S (43 : Int32) = some (S, isS T q 43) := xSgn (c := 43) hT hq hk (by omega)
  have s45 : FX8_isSign S (45 : Int32) = some (S, isS T q 45) := xSgn (c := 45) hT hq hk (by omega)
  have s42 : FX8_isSign S (42 : Int32) = some (S, isS T q 42) := xSgn (c := 42) hT hq hk (by omega)
  unfold FX4_joinHere jnC jnK jnX
  simp only [g_b2, xIsWord hT hq hk txt39, xIsWord hT hq hk txt40, s60, s61, s43, s45, s42]
  rcases (show lev = 0 ∨ lev = 1 ∨ lev = 2 ∨ lev = 3 by omega) with rfl | rfl | rfl | rfl
  · rw [if_pos (show N 0 = (0 : Int32) from rfl)]
    simp only [if_true]
    cases tkW (tokAt T q) 39 <;> cases tkW (tokAt T q) 40 <;> rfl
  · rw [if_neg (show ¬ N 1 = (0 : Int32) by decide), if_pos (show N 1 = (1 : Int32) from rfl)]
    cases isS T q 60 <;> cases isS T q 61 <;> rfl
  · rw [if_neg (show ¬ N 2 = (0 : Int32) by decide), if_neg (show ¬ N 2 = (1 : Int32) by decide), if_pos (show N 2 = (2 : Int32) from rfl)]
    cases isS T q 43 <;> cases isS T q 45 <;> rfl
  · rw [if_neg (show ¬ N 3 = (0 : Int32) by decide), if_neg (show ¬ N 3 = (1 : Int32) by decide), if_neg (show ¬ N 3 = (2 : Int32) by decide)]
    cases isS T q 42 <;> rfl
/-! x reads an E -/
abbrev lE (a : Nat) : List Nat := [1, a, a + 1]
theorem xAddC {S : gS} {a n : Nat} {c : Int32} (hn : n ≤ 1000) (h1 : sI S a 1 = N n) : wp (FX3_add S a c) (fun U => fr [a, a + 1] S U ∧ (∀ b, b ≠ a → ∀ k, sI U b k = sI S b k) ∧ sJ U = sJ S ∧ (∀ i, i < n → sR U (a + 1) i = sR S (a + 1) i) ∧ (∃ n', n' ≤ 1000 ∧ sI U a 1 = N n') ∧ (n < 1000 → sI U a 1 = N (n + 1) ∧ sR U (a + 1) n = c)) := by
  unfold FX3_add
  rw [h1]
  by_cases c1 : 1000 ≤ n
  · rw [if_pos (show (1000 : Int32) ≤ N n from (leN (a := 1000) (by omega) (by omega)).mpr c1), wp_some]
    exact ⟨fr_rf, fun _ _ _ => rfl, rfl, fun _ _ => rfl, ⟨n, hn, h1⟩, fun h => by omega⟩
  · rw [if_neg (show ¬ (1000 : Int32) ≤ N n from fun e => c1 ((leN (a := 1000) (by omega) (by omega)).mp e)), if_pos (vpN (by omega) (by omega)), clN (by omega), wp_lt, wp_lt, wp_some]
    have e1 : sI (uR S (a + 1) n c) a 1 = N n := h1
    rw [e1, show N n + (1 : Int32) = N (n + 1) from addN1]
    exact ⟨fr_uI (fr_uR fr_rf (by simp)) (by simp), fun b hb k => by rw [I_uI, if_neg (by omega)]; rfl, rfl, fun i hi => by rw [R_uI, R_uR, if_neg (by omega)], ⟨n + 1, by omega, I_self⟩, fun _ => ⟨I_self, by rw [R_uI, R_self]⟩⟩
def xEs (S0 : gS) (T : aTp) (a n : Nat) (R : aRe) (S : gS) : Prop := fr (lE a) S0 S ∧ (∀ i, i < n → sR S (a + 1) i = sR S0 (a + 1) i) ∧ tkX S T (tokAt T R.2.1) ∧ sI S 1 7 = 0 ∧ sI S a 1 = N (n + R.2.2.1.length) ∧ sgm (sR S (a + 1)) n R.2.2.1
def xEp (S0 : gS) (T : aTp) (a n : Nat) (R : aRe) (r : gS × Bool) : Prop := (R.1 = 0 → r.2 = true ∧ xEs S0 T a n R r.1) ∧ (¬ R.1 = 0 → r.2 = false ∧ fr (lE a) S0 r.1 ∧ sI r.1 1 7 = N R.1 ∧ (∃ q, q ≤ T.1 ∧ tkX r.1 T (tokAt T q)) ∧ ∃ n', n' ≤ 1000 ∧ sI r.1 a 1 = N n')
theorem lE_n {a b : Nat} (h : b ≠ 1 ∧ b ≠ a ∧ b ≠ a + 1) : b ∉ lE a := by simp only [List.mem_cons, List.not_mem_nil, or_false]; omega
/-- behind a code more -/
theorem tkX_add {S U : gS} {T : aTp} {a : Nat} {k : aTk} (ha : a = 17 ∨ a = 31) (h : tkX S T k) (h1 : fr [a, a + 1] S U) (h2 : ∀ b, b ≠ a → ∀ k, sI U b k = sI S b k) (h3 : sJ U = sJ S) : tkX U T k :=
  tkX_i h (fun j => h2 1 (by omega) j) (frR h1 (by simp only [List.mem_cons, List.not_mem_nil, or_false]; omega)) h3
theorem xEl0 {rc : Nat → gS → Nat → Int32 → Int32 → Option (gS × Bool)} {S : gS} {a : Nat} {x1 x2 x3 x4 : Int32} {k : Nat} (hk : 1 ≤ k) : fX4_readLevel rc k 33 S a x1 x2 0 x3 x4 = some (S, false) := by
  obtain ⟨k, rfl, -⟩ := kS (m := 0) hk
  rw [fX4_readLevel]
  simp only [if_true, bX4_readLevel_33]
  split
  · rfl
  · rfl
theorem xEl1 {rc : Nat → gS → Nat → Int32 → Int32 → Option (gS × Bool)} {S : gS} {a : Nat} {x1 x2 x4 : Int32} {k : Nat} (hk : 1 ≤ k) : fX4_readLevel rc k 33 S a x1 x2 1 0 x4 = some (S, true) := by
  obtain ⟨k, rfl, -⟩ := kS (m := 0) hk
  rw [fX4_readLevel]
  simp only [if_true, bX4_readLevel_33]
  split
  · rfl
  · rfl
theorem jnC_n {T : aTp} {lev q : Nat} (h : ¬ jnK T lev q = 0) : jnC T lev q = jnX lev (jnK T lev q) ∧ ¬ jnC T lev q = 0 := by
  unfold jnC
  rw [if_neg h]
  refine ⟨rfl, fun e => ?_⟩
  have := jnX_lt (lev := lev) (j := jnK T lev q)
  rw [e] at this
  exact this (by decide)
theorem xElL {rc : Nat → gS → Nat → Int32 → Int32 → Option (gS × Bool)} {rec : Nat → aRe} {S0 : gS} {T : aTp} {a lev d q n : Nat} (hT : okT T) (ha : a = 17 ∨ a = 31) (hl : lev ≤ 3) (hnq : n ≤ q) (hq : q ≤ T.1)
    (hok : ∀ q, q ≤ T.1 → okR T q (lev + 1) (rec q))
    (hrc : ∀ S q n, q ≤ T.1 → tkX S T (tokAt T q) → sI S 1 7 = 0 → sI S a 1 = N n → n ≤ q → wp (rc 0 S a (N (lev + 1)) (N d)) (xEp S T a n (rec q))) :
    ∀ m r i S k, r.1 = 0 → okR T q (lev + 1) r → xEs S0 T a n r S → T.1 < r.2.1 + m → i ≤ r.2.1 → m + 2 ≤ k → wp (fX4_readLevel rc k 33 S a (N lev) (N d) 1 (jnC T lev r.2.1) (N i)) (xEp S0 T a n (aEl T rec lev m r)) := by
  have h1000 := hT.1
  intro m
  induction m with
  | zero => intro r i S k h0 hr hs hm; have := (hr.2 h0).2.1; omega
  | succ m ih =>
    intro r i S k h0 hr hs hm hi hk
    obtain ⟨r1, r2, r3, r4, r5, r6, r7⟩ := hr.2 h0
    obtain ⟨s1, s2, s3, s4, s5, s6⟩ := hs
    obtain ⟨k, rfl, hk'⟩ := kS (k := k) (m := m + 2) (by omega)
    rw [aEl]
    by_cases c : jnK T lev r.2.1 = 0
    · rw [if_pos c, show jnC T lev r.2.1 = 0 from if_pos c, xEl1 (by omega), wp_some]
      exact ⟨fun _ => ⟨rfl, s1, s2, s3, s4, s5, s6⟩, fun h => absurd h0 h⟩
    obtain ⟨j1, j2⟩ := jnC_n c
    have hlt := tokAt_lt r2 (jnK_k c)
    have hn := nx_lt r2 (jnK_k c)
    have hn2 := nx_le r2
    obtain ⟨b0, b1⟩ := hok (nx T r.2.1) hn2
    rw [if_neg c, fX4_readLevel]
    simp only [if_true, bX4_readLevel_33]
    rw [if_neg (show ¬ (1000 : Int32) ≤ N i from fun e => absurd ((leN (a := 1000) (by omega) (by omega)).mp e) (by omega)), if_neg (show ¬ (1 : Int32) = 0 by decide), if_neg j2, wp_b1]
    refine wp_mono (xAdvT hT r2 s3) ?_
    rintro U ⟨u1, u2⟩
    have na : ∀ b, b ≠ 1 → b ∉ [1] := by intro b hb; simp only [List.mem_cons, List.not_mem_nil, or_false]; omega
    have uS : sI U a 1 = N (n + r.2.2.1.length) := (frI u1.1 (na a (by omega)) 1).trans s5
    have uR' : sR U (a + 1) = sR S (a + 1) := frR u1.1 (na (a + 1) (by omega))
    have uF : fr (lE a) S0 U := fr_tr s1 (fr_mo u1.1 (by intro b hb; simp only [List.mem_cons, List.not_mem_nil, or_false] at hb ⊢; omega))
    rw [show N lev + (1 : Int32) = N (lev + 1) from addN1, show N i + (1 : Int32) = N (i + 1) from addN1, wp_b2]
    refine wp_mono (hrc U (nx T r.2.1) (n + r.2.2.1.length) hn2 u2 (u1.2.1.trans s4) uS (by omega)) ?_
    rintro ⟨V, b⟩ ⟨vt, vf⟩
    dsimp only at vt vf ⊢
    by_cases cb : (rec (nx T r.2.1)).1 = 0
    · rw [if_neg (show ¬ ¬ (rec (nx T r.2.1)).1 = 0 from fun h => h cb)]
      obtain ⟨c1, c2, c3, c4, c5, c6, c7⟩ := b1 cb
      obtain ⟨hb, v1, v2, v3, v4, v5, v6⟩ := vt cb
      rw [hb, wp_b1]
      refine wp_mono (xAddC (c := jnC T lev r.2.1) (by omega) v5) ?_
      rintro W ⟨w1, w2, w3, w4, w5, w6⟩
      obtain ⟨w7, w8⟩ := w6 (by omega)
      have wt := tkX_add ha v3 w1 w2 w3
      have hj : xEs S0 T a n (aJo T lev r (rec (nx T r.2.1))) W := by
        unfold aJo xEs
        dsimp only
        refine ⟨fr_tr (fr_tr uF v1) (fr_mo w1 (by intro b hb; simp only [List.mem_cons, List.not_mem_nil, or_false] at hb ⊢; omega)), fun i hi => ?_, wt, (w2 1 (by omega) 7).trans v4, ?_, ?_⟩
        · rw [w4 i (by omega), v2 i (by omega), uR', s2 i hi]
        · rw [w7, List.length_append, List.length_append, List.length_cons, List.length_nil]; congr 1; omega
        · rw [sgm_app, sgm_app]
          refine ⟨sgm_eq _ _ s6 (fun j h1 h2 => by rw [w4 j (by omega), v2 j (by omega), uR']), sgm_eq _ _ v6 (fun j h1 h2 => w4 j (by omega)), ?_, trivial⟩
          rw [w8, j1]
      have hoj : okR T q (lev + 1) (aJo T lev r (rec (nx T r.2.1))) := by
        unfold aJo
        refine ⟨by dsimp only; omega, fun _ => ⟨by dsimp only; omega, c2, ?_, ?_, ?_, ?_, c7⟩⟩
        · dsimp only; rw [List.length_append, List.length_append]; omega
        · dsimp only; rw [List.length_append, List.length_append, List.length_cons, List.length_nil]; omega
        · dsimp only; rw [List.length_append, List.length_cons]; omega
        · dsimp only; rw [List.length_append, List.length_cons]; omega
      by_cases e1 : lev = 1
      · rw [if_pos e1, if_pos (show N lev = (1 : Int32) by rw [e1]; rfl), show g_b true = (1 : Int32) from rfl, xEl1 (by omega), wp_some]
        exact ⟨fun _ => ⟨rfl, hj⟩, fun h => absurd rfl h⟩
      · rw [if_neg e1, if_neg (show ¬ N lev = (1 : Int32) from fun h => e1 ((eqN (b := 1) (by omega) (by omega)).mp h)), xJoinH hT c2 wt hl, wp_b2, wp_some, show g_b true = (1 : Int32) from rfl]
        dsimp only
        exact ih (aJo T lev r (rec (nx T r.2.1))) (i + 1) W k rfl hoj hj (by show T.1 < (rec (nx T r.2.1)).2.1 + m; omega) (by show i + 1 ≤ (rec (nx T r.2.1)).2.1; omega) hk'
    · rw [if_pos cb]
      obtain ⟨hb, v1, v2, ⟨q2, hq2, v3⟩, n', hn', v5⟩ := vf cb
      rw [hb, wp_b1]
      refine wp_mono (xAddC (c := jnC T lev r.2.1) hn' v5) ?_
      rintro W ⟨w1, w2, w3, w4, w5, -⟩
      have wt := tkX_add ha v3 w1 w2 w3
      have out : xEp S0 T a n (fE0 (rec (nx T r.2.1)).1) (W, false) := by
        refine ⟨fun h => absurd h cb, fun _ => ⟨rfl, fr_tr (fr_tr uF v1) (fr_mo w1 (by intro b hb; simp only [List.mem_cons, List.not_mem_nil, or_false] at hb ⊢; omega)), (w2 1 (by omega) 7).trans v2, ⟨q2, hq2, wt⟩, w5⟩⟩
      rw [show g_b false = (0 : Int32) from rfl]
      split
      · rw [xEl0 (by omega), wp_some]; exact out
      · rw [xJoinH hT hq2 wt hl, wp_b2, wp_some, xEl0 (by omega), wp_some]; exact out
