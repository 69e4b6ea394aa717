/-! chance -/
abbrev LN (k : Nat) : Int64 := Int64.ofNat k
theorem LNdiv {a b : Nat} (ha : a < 9223372036854775808) (hb : b < 9223372036854775808) : LN a / LN b = LN (a / b) := (Int64.ofNat_div ha hb).symm
theorem LNmul {a b : Nat} : LN a * LN b = LN (a * b) := (Int64.ofNat_mul a b).symm
theorem LNadd {a b : Nat} : LN a + LN b = LN (a + b) := (Int64.ofNat_add a b).symm
theorem LNsub {a b : Nat} (h : b ≤ a) : LN a - LN b = LN (a - b) := (Int64.ofNat_sub a b h).symm
theorem LN32 {a : Nat} : Int64.toInt32 (LN a) = N a := Int64.toInt32_ofNat'
theorem NL {a : Nat} (h : a < 2147483648) : Int32.toInt64 (N a) = LN a := Int32.toInt64_ofNat' (by
  have : Int32.maxValue.toInt = 2147483647 := rfl
  omega)
theorem LN_eq {a b : Nat} (ha : a < 9223372036854775808) (hb : b < 9223372036854775808) : (LN a = LN b) ↔ a = b := by
  constructor
  · intro h
    have := congrArg Int64.toInt h
    rw [Int64.toInt_ofNat_of_lt ha, Int64.toInt_ofNat_of_lt hb] at this
    omega
  · rintro rfl; rfl
theorem LNmod {a b : Nat} (ha : a < 9223372036854775808) (hb : b < 9223372036854775808) : LN a - LN a / LN b * LN b = LN (a % b) := by
  rw [LNdiv ha hb, LNmul, LNsub (Nat.div_mul_le_self a b)]
  congr 1
  have := Nat.div_add_mod a b
  have h2 : b * (a / b) = a / b * b := Nat.mul_comm _ _
  omega
def aOdd (F : aF) (A : aW) (set : Nat) : Nat → aW
  | 0 => A
  | k + 1 => aPass F (if aHas (N set) k = true then 9 else 0) (aOdd F A set k)
def wt (set odds : Nat) : Nat → Nat
  | 0 => 1
  | k + 1 => wt set odds k * (if aHas (N set) k = true then odds else 10 - odds)
theorem wt_b {set odds : Nat} (ho : odds ≤ 10) : ∀ k, wt set odds k ≤ 10 ^ k := by
  intro k
  induction k with
  | zero => exact Nat.le_refl 1
  | succ k ih =>
    rw [wt, Nat.pow_succ]
    apply Nat.mul_le_mul ih
    split <;> omega
def aCh (F : aF) (A : aW) (l n odds : Nat) : Nat → Nat → Nat → Nat
  | 0, _, x => x
  | m + 1, s, x => aCh F A l n odds m (s + 1) (if wLa (aOdd F A s n) = N l then x + wt s odds n else x)
theorem aCh_b {F : aF} {A : aW} {l n odds : Nat} (ho : odds ≤ 10) : ∀ m s x, aCh F A l n odds m s x ≤ x + m * 10 ^ n := by
  intro m
  induction m with
  | zero => intro s x; rw [aCh, Nat.zero_mul]; exact Nat.le_refl _
  | succ m ih =>
    intro s x
    rw [aCh]
    have h := ih (s + 1) (if wLa (aOdd F A s n) = N l then x + wt s odds n else x)
    have w := wt_b (set := s) ho n
    have e : (m + 1) * 10 ^ n = m * 10 ^ n + 10 ^ n := Nat.succ_mul _ _
    split at h
    · rename_i c; rw [if_pos c]; omega
    · rename_i c; rw [if_neg c]; omega
theorem okOdd {F : aF} (ok : okF F) {c : Nat} {A : aW} {set : Nat} (h : okW F c A) : ∀ k, okW F (c + k) (aOdd F A set k) := by
  intro k
  induction k with
  | zero => exact h
  | succ k ih =>
    refine okPass ok ?_ ih
    have e9 : Int32.toInt 9 = 9 := rfl
    split
    · rw [e9]; omega
    · rw [ti0]; omega
theorem xWt {S : gS} {set odds n : Nat} (hn : n ≤ 6) (ho : odds ≤ 10) : ∀ m i k, i + m = n → m + 1 ≤ k → fX11_weightOf k 5 S (N set) (N n) (N odds) (N (wt set odds i)) (N i) = some (S, N (wt set odds n)) := by
  intro m
  induction m with
  | zero =>
    intro i k hi hk
    obtain ⟨k, rfl, -⟩ := kS (m := 0) hk
    rw [fX11_weightOf]
    simp only [bX11_weightOf_5, if_true]
    have : i = n := by omega
    subst this
    rw [if_pos ((leN (by omega) (by omega)).mpr (by omega))]
  | succ m ih =>
    intro i k hi hk
    obtain ⟨k, rfl, hk'⟩ := kS (m := m + 1) hk
    rw [fX11_weightOf]
    simp only [bX11_weightOf_5, if_true]
    rw [if_neg (fun e => absurd ((leN (by omega) (by omega)).mp e) (by omega)), addN1, show (10 : Int32) - N odds = N (10 - odds) from subN (a := 10) ho, mulN, mulN]
    have := ih (i + 1) k (by omega) hk'
    rw [wt] at this
    cases hb : aHas (N set) i with
    | false => rw [if_pos (has_0.mpr hb)]; rw [hb, if_neg Bool.false_ne_true] at this; exact this
    | true => rw [if_neg (fun c => by rw [has_0.mp c] at hb; cases hb)]; rw [hb, if_pos rfl] at this; exact this
theorem xOddL {S0 : gS} {f : Nat} {F : aF} {A : aW} {c l set n : Nat} (h : hX S0 f F) (okA : okW F c A) (hn : n ≤ 6) : ∀ m i k S, i + m = n → m + 1 ≤ k → fr xT S0 S → rX S 53 (aOdd F A set i) → wp (fX11_isReadInOddRain k 14 S (N l) (N set) (N n) (N i)) (fun q => fr xT S0 q.1 ∧ q.2 = decide (wLa (aOdd F A set n) = N l)) := by
  intro m
  induction m with
  | zero =>
    intro i k S hi hk hS hR
    obtain ⟨k, rfl, -⟩ := kS (m := 0) hk
    rw [fX11_isReadInOddRain]
    simp only [bX11_isReadInOddRain_14, if_true]
    have : i = n := by omega
    subst this
    rw [if_pos ((leN (by omega) (by omega)).mpr (by omega)), hR.2.2.2.2.2.1, wp_ite, wp_some, wp_some]
    exact ⟨fun e => ⟨hS, (decide_eq_true e).symm⟩, fun e => ⟨hS, (decide_eq_false e).symm⟩⟩
  | succ m ih =>
    intro i k S hi hk hS hR
    obtain ⟨k, rfl, hk'⟩ := kS (m := m + 1) hk
    have hT := hX_T h hS
    have okO := okOdd (set := set) h.2.2 okA i
    have fT : ∀ {r : Int32}, wp (FX9_passMinute S 53 f r) (fun q => fr xT S q.1 ∧ rX q.1 53 (aPass F r (aOdd F A set i))) := by
      intro r
      refine wp_mono (xPass hT.2.1 hT.2.2 (Or.inr rfl) hR okO.1) ?_
      rintro ⟨S2, y⟩ ⟨t1, t2, -⟩
      refine ⟨fr_mo t1 ?_, t2⟩
      intro b hb
      rcases hT.2.1.1 with rfl | rfl <;> simp only [List.mem_cons, List.not_mem_nil, or_false] at hb ⊢ <;> omega
    rw [fX11_isReadInOddRain]
    simp only [bX11_isReadInOddRain_14, if_true]
    rw [if_neg (fun e => absurd ((leN (by omega) (by omega)).mp e) (by omega)), hT.1, fbF hT.2.1.1, if_pos rfl, addN1]
    cases hb : aHas (N set) i with
    | false =>
      rw [if_pos (has_0.mpr hb), wp_b2]
      refine wp_mono fT ?_
      rintro ⟨S2, y⟩ ⟨t1, t2⟩
      refine ih (i + 1) k S2 (by omega) hk' (fr_tr hS t1) ?_
      rw [aOdd, hb, if_neg Bool.false_ne_true]; exact t2
    | true =>
      rw [if_neg (fun c => by rw [has_0.mp c] at hb; cases hb), wp_b2]
      refine wp_mono fT ?_
      rintro ⟨S2, y⟩ ⟨t1, t2⟩
      refine ih (i + 1) k S2 (by omega) hk' (fr_tr hS t1) ?_
      rw [aOdd, hb, if_pos rfl]; exact t2
theorem p10 : ∀ n, n ≤ 6 → 10 ^ n ≤ 1000000 := by decide +kernel
theorem p2n : ∀ n, n ≤ 6 → 2 ^ n ≤ 64 := by decide +kernel
theorem xCh102 {S : gS} : ∀ m i k x, i + m = 6 → m + 1 ≤ k → fX11_chance k 102 S 0 0 0 0 (N x) 0 (N i) = some (S, N (x * 10 ^ m)) := by
  intro m
  induction m with
  | zero =>
    intro i k x hi hk
    obtain ⟨k, rfl, -⟩ := kS (m := 0) hk
    rw [fX11_chance]
    simp only [if_true]
    rw [if_neg (by decide), if_neg (by decide)]
    simp only [bX11_chance_102]
    have : i = 6 := by omega
    subst this
    rw [if_pos (by decide), Nat.pow_zero, Nat.mul_one]
  | succ m ih =>
    intro i k x hi hk
    obtain ⟨k, rfl, hk'⟩ := kS (m := m + 1) hk
    rw [fX11_chance]
    simp only [if_true]
    rw [if_neg (by decide), if_neg (by decide)]
    simp only [bX11_chance_102]
    rw [if_neg (show ¬ (6 : Int32) ≤ N i from fun c => absurd ((leN (a := 6) (by omega) (by omega)).mp c) (by omega)), show N x * (10 : Int32) = N (x * 10) from mulN (b := 10), addN1, ih (i + 1) k _ (by omega) hk', Nat.mul_assoc, Nat.pow_succ, Nat.mul_comm 10]
theorem xCh54 {S0 : gS} {f : Nat} {F : aF} {A : aW} {c l n odds : Nat} (h : hX S0 f F) (hA : rX S0 49 A) (okA : okW F c A) (hn : n ≤ 6) (ho : odds ≤ 10) : ∀ m s k S x, s + m = 2 ^ n → m + 20 ≤ k → fr xT S0 S → wp (fX11_chance k 54 S (N l) (N n) (N odds) 0 (N x) (N (2 ^ n)) (N s)) (fun q => fr xT S0 q.1 ∧ q.2 = N (aCh F A l n odds m s x * 10 ^ (6 - n))) := by
  have hp := p2n n hn
  intro m
  induction m with
  | zero =>
    intro s k S x hs hk hS
    obtain ⟨k, rfl, hk'⟩ := kS (m := 19) (by omega)
    rw [fX11_chance]
    simp only [if_true]
    rw [if_neg (by decide)]
    simp only [bX11_chance_54]
    rw [if_pos ((leN (by omega) (by omega)).mpr (by omega))]
    exact wp_eq (xCh102 (6 - n) n k x (by omega) (by omega)) ⟨hS, rfl⟩
  | succ m ih =>
    intro s k S x hs hk hS
    obtain ⟨k, rfl, hk'⟩ := kS (m := m + 20) (by omega)
    have hT := hX_T h hS
    have hw := wt_b (set := s) ho n
    have h10 := p10 n hn
    rw [fX11_chance]
    simp only [if_true]
    rw [if_neg (by decide)]
    simp only [bX11_chance_54]
    rw [if_neg (fun e => absurd ((leN (by omega) (by omega)).mp e) (by omega)), wp_b2]
    unfold FX11_weightOf
    refine wp_eq (xWt (set := s) hn ho n 0 FU (by omega) (by unfold FU; omega)) ?_
    dsimp only
    rw [addN1, wp_ite]
    refine ⟨fun e => ?_, fun e => ?_⟩
    · have e := (le0N (by omega)).mp e
      have ex : (if wLa (aOdd F A s n) = N l then x + wt s odds n else x) = x := by rw [e, Nat.add_zero]; split <;> rfl
      rw [aCh, ex]
      exact ih (s + 1) k S x (by omega) hk' hS
    · rw [wp_b2]
      unfold FX11_isReadInOddRain
      rw [wp_b1]
      refine wp_mono (xTake (rX_T hA hS) okA.1) ?_
      rintro S1 ⟨q1, q2⟩
      refine wp_mono (xOddL (l := l) (set := s) (n := n) hT okA hn n 0 FU S1 (by omega) (by unfold FU; omega) q1 q2) ?_
      rintro ⟨S2, y⟩ ⟨t1, t2⟩
      dsimp only at t1 t2 ⊢
      rw [t2, wp_ite, aCh, addN]
      refine ⟨fun e2 => ?_, fun e2 => ?_⟩
      · rw [if_pos (of_decide_eq_true e2)]
        exact ih (s + 1) k S2 _ (by omega) hk' (fr_tr hS t1)
      · rw [if_neg (fun hh => e2 (decide_eq_true hh))]
        exact ih (s + 1) k S2 _ (by omega) hk' (fr_tr hS t1)
theorem mCh97 {S0 : gS} {F : aF} {A : aW} {c l n odds s K : Nat} {j4 j6 : Int64} {Q : gS × Int32 → Prop} (ok : okF F) (okA : okW F c A) (hn : n ≤ 6) (ho : odds ≤ 10) (hs : s < 64)
    (hc : ∀ k S, K ≤ k → mAs S0 S F → wp (fX12_chance k 177 S (N l) (N n) (N odds) (if wLa (aOdd F A s n) = N l then j4 + LN (wt s odds n) else j4) j6 (N s) 0 0 0 0) Q) : ∀ m i k S y, i + m = n → K + 3 * m + 1 ≤ k → mAs S0 S F → rM S 216 0 (aOdd F A s i) → (0 < i → y = wLa (aOdd F A s i)) → 0 < n → wp (fX12_chance k 97 S (N l) (N n) (N odds) j4 j6 (N s) (LN (wt s odds i)) y (N i) 0) Q := by
  intro m
  induction m with
  | zero =>
    intro i k S y hi hk hS hR hy hn0
    obtain ⟨k, rfl, hk'⟩ := kS (m := K) (by omega)
    rw [fX12_chance]
    simp only [if_true]
    rw [if_neg (by decide), if_neg (by decide)]
    simp only [bX12_chance_97]
    have : i = n := by omega
    subst this
    rw [if_pos ((leN (by omega) (by omega)).mpr (by omega)), hy hn0]
    have := hc k S hk' hS
    split
    · rename_i e; rw [if_pos e] at this; exact this
    · rename_i e; rw [if_neg e] at this; exact this
  | succ m ih =>
    intro i k S y hi hk hS hR hy hn0
    obtain ⟨k, rfl, hk'⟩ := kS (m := K + 3 * m + 3) (by omega)
    obtain ⟨k, rfl, hk2⟩ := kS (m := K + 3 * m + 2) hk'
    obtain ⟨k, rfl, hk3⟩ := kS (m := K + 3 * m + 1) hk2
    have okO := okOdd (set := s) ok okA i
    have e141 : ∀ (b : Bool) (j9 : Int64), aHas (N s) i = b → j9 = LN (wt s odds (i + 1)) → wp (fX12_chance (k + 1) 141 S (N l) (N n) (N odds) j4 j6 (N s) j9 0 (N i) (g_b b)) Q := by
      intro b j9 hb hj
      rw [fX12_chance]
      simp only [if_true]
      rw [if_neg (by decide), if_neg (by decide), if_neg (by decide), if_neg (by decide)]
      simp only [bX12_chance_141]
      cases b with
      | false =>
        rw [if_pos (show g_b false = 0 from rfl), wp_b2]
        refine wp_mono (mPass (r := 0) hS.2.1 ok hR okO.1) ?_
        rintro ⟨S1, z⟩ ⟨q1, q2, q3, -⟩
        dsimp only at q1 q2 q3 ⊢
        rw [hj, addN1]
        have eo : aOdd F A s (i + 1) = aPass F 0 (aOdd F A s i) := by rw [aOdd, hb, if_neg Bool.false_ne_true]
        refine ih (i + 1) k S1 z (by omega) (by omega) (mAs_ps hS q1) (by rw [eo]; exact q2) (fun _ => by rw [eo]; exact q3) hn0
      | true =>
        rw [if_neg (show ¬ g_b true = 0 by decide), wp_b2]
        refine wp_mono (mPass (r := 9) hS.2.1 ok hR okO.1) ?_
        rintro ⟨S1, z⟩ ⟨q1, q2, q3, -⟩
        dsimp only at q1 q2 q3 ⊢
        rw [hj, addN1]
        have eo : aOdd F A s (i + 1) = aPass F 9 (aOdd F A s i) := by rw [aOdd, hb, if_pos rfl]
        refine ih (i + 1) k S1 z (by omega) (by omega) (mAs_ps hS q1) (by rw [eo]; exact q2) (fun _ => by rw [eo]; exact q3) hn0
    have e121 : ∀ b : Bool, aHas (N s) i = b → wp (fX12_chance (k + 1 + 1) 121 S (N l) (N n) (N odds) j4 j6 (N s) (LN (wt s odds i)) 0 (N i) (g_b b)) Q := by
      intro b hb
      rw [fX12_chance]
      simp only [if_true]
      rw [if_neg (by decide), if_neg (by decide), if_neg (by decide)]
      simp only [bX12_chance_121]
      cases b with
      | false =>
        rw [if_pos (show g_b false = 0 from rfl), show (10 : Int32) - N odds = N (10 - odds) from subN (a := 10) ho, NL (by omega), LNmul]
        exact e141 false _ hb (by rw [wt, hb, if_neg Bool.false_ne_true])
      | true =>
        rw [if_neg (show ¬ g_b true = 0 by decide), NL (by omega), LNmul]
        exact e141 true _ hb (by rw [wt, hb, if_pos rfl])
    rw [fX12_chance]
    simp only [if_true]
    rw [if_neg (by decide), if_neg (by decide)]
    simp only [bX12_chance_97]
    rw [if_neg (fun e => absurd ((leN (by omega) (by omega)).mp e) (by omega))]
    cases hb : aHas (N s) i with
    | false => rw [if_neg (fun h => by rw [(has_1 (by omega)).mp h] at hb; cases hb)]; exact e121 false hb
    | true => rw [if_pos ((has_1 (by omega)).mpr hb)]; exact e121 true hb
theorem mCh80 {S0 : gS} {F : aF} {A : aW} {c l n odds : Nat} (ok : okF F) (hF0 : fMo S0 F) (hA0 : rM S0 216 0 A) (okA : okW F c A) (hn : n ≤ 6) (hn0 : 0 < n) (ho : odds ≤ 10) : ∀ m s k S x, s + m = 2 ^ n → 100 * m + 1 ≤ k → x ≤ s * 10 ^ n → mAs S0 S F → rM S 216 0 A → (∀ j, j < 59 → sR S 216 j = sR S0 216 j) → wp (fX12_chance k 80 S (N l) (N n) (N odds) (LN x) (LN (10 ^ n)) (N s) 0 0 0 0) (fun q => keepM S0 q.1 ∧ q.2 = N (aCh F A l n odds m s x * 10 ^ (6 - n))) := by
  have hp := p2n n hn
  have h10 := p10 n hn
  have hpos : 0 < 10 ^ n := Nat.pow_pos (by omega)
  intro m
  induction m with
  | zero =>
    intro s k S x hs hk hx hS hR h216
    obtain ⟨k, rfl, -⟩ := kS (m := 0) (by omega)
    rw [fX12_chance]
    simp only [if_true]
    rw [if_neg (by decide)]
    simp only [bX12_chance_80]
    have hx2 : x ≤ 64 * 1000000 := Nat.le_trans hx (Nat.mul_le_mul (by omega) h10)
    rw [shl_n n (by omega), if_pos ((leN (by omega) (by omega)).mpr (by omega)), if_neg (show ¬ LN (10 ^ n) = 0 from fun h => by rw [show (0 : Int64) = LN 0 from rfl, LN_eq (by omega) (by omega)] at h; omega), wp_some, aCh]
    refine ⟨⟨hS.1, h216⟩, ?_⟩
    rw [show LN x * (1000000 : Int64) = LN (x * 1000000) from LNmul (b := 1000000), LNdiv (by omega) (by omega), LN32]
    have e : x * 1000000 = x * 10 ^ (6 - n) * 10 ^ n := by
      rw [Nat.mul_assoc, ← Nat.pow_add, show 6 - n + n = 6 by omega]
    rw [e, Nat.mul_div_cancel _ hpos]
  | succ m ih =>
    intro s k S x hs hk hx hS hR h216
    obtain ⟨k, rfl, hk'⟩ := kS (m := 100 * m + 100) (by omega)
    rw [fX12_chance]
    simp only [if_true]
    rw [if_neg (by decide)]
    simp only [bX12_chance_80]
    rw [shl_n n (by omega), if_neg (fun e => absurd ((leN (by omega) (by omega)).mp e) (by omega))]
    refine mCh97 (S0 := S0) (A := A) (s := s) (K := 100 * m + 2) (c := c) (j4 := LN x) ok okA hn ho (by omega) ?_ n 0 k S (-1) (by omega) (by omega) hS hR (fun h => absurd h (by omega)) hn0
    intro k' S2 hk2 as2
    obtain ⟨k', rfl, hk3⟩ := kS (m := 100 * m + 1) hk2
    have hw := wt_b (set := s) ho n
    have es : (s + 1) * 10 ^ n = s * 10 ^ n + 10 ^ n := Nat.succ_mul _ _
    have e177 : ∀ x', x' ≤ (s + 1) * 10 ^ n → wp (fX12_chance (k' + 1) 177 S2 (N l) (N n) (N odds) (LN x') (LN (10 ^ n)) (N s) 0 0 0 0) (fun q => keepM S0 q.1 ∧ q.2 = N (aCh F A l n odds m (s + 1) x' * 10 ^ (6 - n))) := by
      intro x' hx'
      rw [fX12_chance]
      simp only [if_true]
      rw [if_neg (by decide), if_neg (by decide), if_neg (by decide), if_neg (by decide), if_neg (by decide)]
      simp only [bX12_chance_177]
      rw [wp_b1]
      refine wp_mono (mBack as2) ?_
      rintro T ⟨u1, u2⟩
      rw [addN1]
      have asT : mAs S0 T F := ⟨u1.1, keep_fMo u1 hF0, fun j hj => by rw [fmR u2 (by decide) (by decide)]; exact as2.2.2 j hj⟩
      exact ih (s + 1) k' T x' (by omega) hk3 hx' asT (keep_rM u1 hA0 okA.1) u1.2
    rw [aCh]
    by_cases e : wLa (aOdd F A s n) = N l
    · rw [if_pos e, if_pos e, LNadd]
      exact e177 _ (by omega)
    · rw [if_neg e, if_neg e]
      exact e177 _ (by omega)
theorem mCh44 {S : gS} {l n odds : Nat} {Q : gS × Int32 → Prop} {K : Nat} (hn : n ≤ 6) (hc : ∀ k, K ≤ k → wp (g_b1 (FX12_copies S 216 59 0 218 59 0) (fun S1 => fX12_chance k 80 S1 (N l) (N n) (N odds) 0 (LN (10 ^ n)) 0 0 0 0 0)) Q) : ∀ m i k, i + m = n → K + m + 1 ≤ k → wp (fX12_chance k 44 S (N l) (N n) (N odds) 0 (LN (10 ^ i)) (N i) 0 0 0 0) Q := by
  intro m
  induction m with
  | zero =>
    intro i k hi hk
    obtain ⟨k, rfl, hk'⟩ := kS (m := K) hk
    rw [fX12_chance]
    simp only [if_true, bX12_chance_44]
    have : i = n := by omega
    subst this
    rw [if_pos ((leN (by omega) (by omega)).mpr (by omega))]
    exact hc k hk'
  | succ m ih =>
    intro i k hi hk
    obtain ⟨k, rfl, hk'⟩ := kS (m := K + m + 1) hk
    rw [fX12_chance]
    simp only [if_true, bX12_chance_44]
    rw [if_neg (fun e => absurd ((leN (by omega) (by omega)).mp e) (by omega)), show LN (10 ^ i) * (10 : Int64) = LN (10 ^ i * 10) from LNmul (b := 10), addN1, ← Nat.pow_succ]
    exact ih (i + 1) k (by omega) hk'
theorem op_chance {c : Nat} (hc : c ≤ 1000) : Ob_chance (Good c) (Good (c + 1)) := by
  intro S p0 p1 p2 hG
  refine ask (FX := fun S => FX11_chance S p0 p1 p2) (FM := fun S => FX12_chance S p0 p1 p2) hG ?_
  intro f d w F mn ln A D W E p n t ch g
  obtain ⟨hh, hA, okA⟩ := GO_hX g
  have h18 : ∀ b : Bool, (b = true ↔ inr 1 7 p1) → FX11_chance S p0 p1 p2 = fX11_chance FU 18 S p0 p1 p2 (g_b b) 0 0 0 := by
    intro b hb
    unfold FX11_chance
    by_cases e1 : p1 < 1
    · rw [if_pos e1]
      cases b with
      | false => rfl
      | true => exact absurd (hb.mp rfl) (inr_lo (a := 1) (by omega) e1)
    · rw [if_neg e1]
      by_cases e2 : (6 : Int32) < p1
      · rw [if_pos e2]
        cases b with
        | false => rfl
        | true => exact absurd (hb.mp rfl) (inr_gt (b := 6) (by omega) e2)
      · rw [if_neg e2]
        cases b with
        | true => rfl
        | false => exact absurd (hb.mpr (inr_in2 (a := 1) (b := 6) (by omega) (by omega) e1 e2)) Bool.false_ne_true
  obtain ⟨kf, hkf, hkf2⟩ := FU_s
  by_cases bad : ¬ (inr 0 (fL F) p0 ∧ inr 1 7 p1 ∧ inr 0 11 p2)
  · refine ⟨-1, ?_, fun S1 g1 => ?_⟩
    · have key : ∀ b : Bool, (b = true ↔ inr 1 7 p1) → wp (fX11_chance FU 18 S p0 p1 p2 (g_b b) 0 0 0) (fun q => fr xS S q.1 ∧ q.2 = -1) := by
        intro b hb
        rw [hkf, fX11_chance]
        simp only [if_true, bX11_chance_18]
        rw [wp_b2]
        refine xgL hh (fun a0 => ?_) (fun a0 => ?_)
        · rw [if_pos rfl]
          cases b with
          | false => rw [if_pos (show g_b false = 0 from rfl), wp_some]; exact ⟨fr_rf, rfl⟩
          | true =>
            rw [if_neg (show ¬ g_b true = 0 by decide)]
            by_cases z : p2 < 0
            · rw [if_pos z, wp_some]; exact ⟨fr_rf, rfl⟩
            · rw [if_neg z, if_neg (fun z2 => by
                obtain ⟨q, q1, rfl⟩ := I_nn z
                exact bad ⟨a0, hb.mp rfl, q, by omega, by have := (leN (b := 10) q1 (by omega)).mp z2; omega, q1, rfl⟩), wp_some]
              exact ⟨fr_rf, rfl⟩
        · rw [if_neg Bool.false_ne_true, wp_some]; exact ⟨fr_rf, rfl⟩
      by_cases b1 : inr 1 7 p1
      · have e := h18 true (by simp [b1])
        rw [e]; exact key true (by simp [b1])
      · have e := h18 false (by simp [b1])
        rw [e]; exact key false (by simp [b1])
    · obtain ⟨hM, ok, rA, okA⟩ := GO_fM g1
      unfold FX12_chance
      rw [wp_lt, wp_b2]
      refine mgL (th_fMo hM) ok (fun a0 => ?_) (fun a0 => ?_)
      · rw [if_pos rfl, wp_b2]
        refine mgW 1 6 (by omega) (by omega) (fun a1 => ?_) (fun a1 => ?_)
        · rw [if_pos rfl, wp_b2]
          refine mgW 0 10 (by omega) (by omega) (fun a2 => ?_) (fun a2 => ?_)
          · exact absurd ⟨a0, a1, a2⟩ bad
          · rw [if_neg Bool.false_ne_true, wp_some]; exact ⟨keep_th, rfl⟩
        · rw [if_neg Bool.false_ne_true, wp_some]; exact ⟨keep_th, rfl⟩
      · rw [if_neg Bool.false_ne_true, wp_some]; exact ⟨keep_th, rfl⟩
  · have good := Classical.not_not.mp bad
    obtain ⟨b0, b1, b2⟩ := good
    have b0' := b0
    have b1' := b1
    have b2' := b2
    obtain ⟨l, -, l1, l2, rfl⟩ := b0
    obtain ⟨q, q0, q1, q2, rfl⟩ := b1
    obtain ⟨o, -, o1, o2, rfl⟩ := b2
    have hp := p2n q (by omega)
    refine ⟨N (aCh F A l q o (2 ^ q) 0 0 * 10 ^ (6 - q)), ?_, fun S1 g1 => ?_⟩
    · have e := h18 true (by simp [b1'])
      rw [e, hkf, fX11_chance]
      simp only [if_true, bX11_chance_18]
      rw [wp_b2]
      refine xgL hh (fun _ => ?_) (fun e => absurd b0' e)
      rw [if_pos rfl, if_neg (show ¬ g_b true = 0 by decide), if_neg (nN_lt0 o2), if_pos (show N o ≤ 10 from (leN (b := 10) o2 (by omega)).mpr (by omega)), shl_n q (by omega)]
      refine wp_mono (xCh54 (l := l) (odds := o) hh hA okA (by omega) (by omega) (2 ^ q) 0 kf S 0 (by omega) (by omega) fr_rf) ?_
      rintro ⟨S3, x⟩ ⟨r1, r2⟩
      exact ⟨fr_mo r1 xTs, r2⟩
    · obtain ⟨hM, ok, rA, okA⟩ := GO_fM g1
      unfold FX12_chance
      rw [wp_lt, wp_b2]
      refine mgL (th_fMo hM) ok (fun _ => ?_) (fun e => absurd b0' e)
      rw [if_pos rfl, wp_b2]
      refine mgW 1 6 (by omega) (by omega) (fun _ => ?_) (fun e => absurd b1' e)
      rw [if_pos rfl, wp_b2]
      refine mgW 0 10 (by omega) (by omega) (fun _ => ?_) (fun e => absurd b2' e)
      rw [if_pos rfl]
      refine mCh44 (S := uI S1 180 0 0) (l := l) (n := q) (odds := o) (K := 10000) (by omega) ?_ q 0 FU (by omega) (by unfold FU; omega)
      intro k' hk'
      rw [wp_b1]
      refine wp_mono (wp_and (mTake (th_fMo hM) (th_rM rA) okA.1) (mCopy (S := uI S1 180 0 0) (a0 := 216) (m0 := 59) (o0 := 0) (a2 := 218) (m2 := 59) (o2 := 0) (by omega) (by omega) (by omega) (by omega) (by omega) (by omega))) ?_
      rintro S2 ⟨⟨t1, t2⟩, t3, -⟩
      refine wp_mono (mCh80 (S0 := uI S1 180 0 0) (l := l) (odds := o) ok (th_fMo hM) (th_rM rA) okA (by omega) (by omega) (by omega) (2 ^ q) 0 k' S2 0 (by omega) (by omega) (by omega) t1 t2 (fun j hj => by rw [fmR t3 (by decide) (by decide)])) ?_
      rintro ⟨S4, x⟩ ⟨r1, r2⟩
      exact ⟨keep_tr keep_th r1, r2⟩
