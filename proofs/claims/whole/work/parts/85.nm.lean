/-! names -/
def tkKe (k : aTk) : Bool := (tkW k 2 || (tkW k 3 || (tkW k 4 || (tkW k 5 || (tkW k 6 || (tkW k 7 || (tkW k 8 || (tkW k 9 || (tkW k 10 || (tkW k 11 || (tkW k 12 || (tkW k 13 || (tkW k 14 || (tkW k 15 || (tkW k 16 || (tkW k 17 || (tkW k 18 || (tkW k 19 || (tkW k 20 || (tkW k 21 || false))))))))))))))))))))
def tkNm (k : aTk) : Bool := decide (k.1 = 2) && !(tkKe k)
theorem orS {S : gS} {b c : Bool} {o : Option (gS × Bool)} (h : o = some (S, c)) : (if b = true then some (S, true) else o) = some (S, b || c) := by cases b <;> simp [h]
theorem orN {S : gS} {b c : Bool} {o : Option (gS × Bool)} (h : o = some (S, !c)) : (if b = true then some (S, false) else o) = some (S, !(b || c)) := by cases b <;> simp [h]
theorem orP {S : gS} {p : Prop} [Decidable p] {b c : Bool} {o : Option (gS × Bool)} (hp : p ↔ b = true) (h : o = some (S, c)) : (if p then some (S, true) else o) = some (S, b || c) := by
  by_cases e : p
  · rw [if_pos e, hp.mp e]; rfl
  · rw [if_neg e, h]; cases b with
    | false => rfl
    | true => exact absurd (hp.mpr rfl) e
theorem txt2 : txt 2 := txts 0 (by omega)
theorem gw2 : (7219835 : Int64) = LN (e27 (gw 2)) := by decide +kernel
theorem txt3 : txt 3 := txts 1 (by omega)
theorem gw3 : (164222 : Int64) = LN (e27 (gw 3)) := by decide +kernel
theorem txt4 : txt 4 := txts 2 (by omega)
theorem gw4 : (10656676 : Int64) = LN (e27 (gw 4)) := by decide +kernel
theorem txt5 : txt 5 := txts 3 (by omega)
theorem gw5 : (4555648 : Int64) = LN (e27 (gw 5)) := by decide +kernel
theorem txt6 : txt 6 := txts 4 (by omega)
theorem gw6 : (112011003 : Int64) = LN (e27 (gw 6)) := by decide +kernel
theorem txt7 : txt 7 := txts 5 (by omega)
theorem gw7 : (175252482 : Int64) = LN (e27 (gw 7)) := by decide +kernel
theorem txt8 : txt 8 := txts 6 (by omega)
theorem gw8 : (411 : Int64) = LN (e27 (gw 8)) := by decide +kernel
theorem txt9 : txt 9 := txts 7 (by omega)
theorem gw9 : (355280 : Int64) = LN (e27 (gw 9)) := by decide +kernel
theorem txt10 : txt 10 := txts 8 (by omega)
theorem gw10 : (281024524 : Int64) = LN (e27 (gw 10)) := by decide +kernel
theorem txt11 : txt 11 := txts 9 (by omega)
theorem gw11 : (191610176 : Int64) = LN (e27 (gw 11)) := by decide +kernel
theorem txt12 : txt 12 := txts 10 (by omega)
theorem gw12 : (326448 : Int64) = LN (e27 (gw 12)) := by decide +kernel
theorem txt13 : txt 13 := txts 11 (by omega)
theorem gw13 : (388978 : Int64) = LN (e27 (gw 13)) := by decide +kernel
theorem txt14 : txt 14 := txts 12 (by omega)
theorem gw14 : (1834209 : Int64) = LN (e27 (gw 14)) := by decide +kernel
theorem txt15 : txt 15 := txts 13 (by omega)
theorem gw15 : (8740238 : Int64) = LN (e27 (gw 15)) := by decide +kernel
theorem txt16 : txt 16 := txts 14 (by omega)
theorem gw16 : (459383 : Int64) = LN (e27 (gw 16)) := by decide +kernel
theorem txt17 : txt 17 := txts 15 (by omega)
theorem gw17 : (383153 : Int64) = LN (e27 (gw 17)) := by decide +kernel
theorem txt18 : txt 18 := txts 16 (by omega)
theorem gw18 : (279740 : Int64) = LN (e27 (gw 18)) := by decide +kernel
theorem txt19 : txt 19 := txts 17 (by omega)
theorem gw19 : (10631 : Int64) = LN (e27 (gw 19)) := by decide +kernel
theorem txt20 : txt 20 := txts 18 (by omega)
theorem gw20 : (1111 : Int64) = LN (e27 (gw 20)) := by decide +kernel
theorem txt21 : txt 21 := txts 19 (by omega)
theorem gw21 : (423 : Int64) = LN (e27 (gw 21)) := by decide +kernel
theorem xIsName {S : gS} {T : aTp} {q : Nat} (hT : okT T) (hq : q ≤ T.1) (hk : tkX S T (tokAt T q)) : FX8_isName S = some (S, tkNm (tokAt T q)) := by
  have h4 := (tokAt_e hq).2.2.2.2.2
  unfold FX8_isName
  rw [hk.2.2.1]
  by_cases h2 : (tokAt T q).1 = 2
  · rw [if_pos (show N (tokAt T q).1 = (2 : Int32) from by rw [h2]; rfl)]
    simp only [g_b2, xIsWord hT hq hk txt2, xIsWord hT hq hk txt3, xIsWord hT hq hk txt4, xIsWord hT hq hk txt5, xIsWord hT hq hk txt6, xIsWord hT hq hk txt7, xIsWord hT hq hk txt8, xIsWord hT hq hk txt9, xIsWord hT hq hk txt10, xIsWord hT hq hk txt11, xIsWord hT hq hk txt12, xIsWord hT hq hk txt13, xIsWord hT hq hk txt14, xIsWord hT hq hk txt15, xIsWord hT hq hk txt16, xIsWord hT hq hk txt17, xIsWord hT hq hk txt18, xIsWord hT hq hk txt19, xIsWord hT hq hk txt20, xIsWord hT hq hk txt21]
    have e : tkNm (tokAt T q) = !(tkKe (tokAt T q)) := by unfold tkNm; rw [decide_eq_true h2, Bool.true_and]
    rw [e]
    unfold tkKe
    exact orN (orN (orN (orN (orN (orN (orN (orN (orN (orN (orN (orN (orN (orN (orN (orN (orN (orN (orN (orN (rfl))))))))))))))))))))
  · rw [if_neg (show ¬ N (tokAt T q).1 = (2 : Int32) from fun h => h2 ((eqN (b := 2) (by omega) (by omega)).mp h))]
    have e : tkNm (tokAt T q) = false := by unfold tkNm; rw [decide_eq_false h2, Bool.false_and]
    rw [e]
theorem mIsKept {S : gS} {T : aTp} {q : Nat} (hq : q ≤ T.1) (hk : tkM S T (tokAt T q)) : FX12_isKept S = some (S, !(tkNm (tokAt T q))) := by
  have h4 := (tokAt_e hq).2.2.2.2.2
  unfold FX12_isKept
  rw [hk.2.2.1]
  by_cases h2 : (tokAt T q).1 = 2
  · rw [if_pos (show N (mkk (tokAt T q).1) = (1 : Int32) from (mk1 _ (by omega) 2 (by omega)).mpr h2)]
    have e : (!(tkNm (tokAt T q))) = tkKe (tokAt T q) := by unfold tkNm; rw [decide_eq_true h2, Bool.true_and, Bool.not_not]
    rw [e]
    unfold tkKe
    exact orP (mIsW hq hk txt2 gw2 h2) (orP (mIsW hq hk txt3 gw3 h2) (orP (mIsW hq hk txt4 gw4 h2) (orP (mIsW hq hk txt5 gw5 h2) (orP (mIsW hq hk txt6 gw6 h2) (orP (mIsW hq hk txt7 gw7 h2) (orP (mIsW hq hk txt8 gw8 h2) (orP (mIsW hq hk txt9 gw9 h2) (orP (mIsW hq hk txt10 gw10 h2) (orP (mIsW hq hk txt11 gw11 h2) (orP (mIsW hq hk txt12 gw12 h2) (orP (mIsW hq hk txt13 gw13 h2) (orP (mIsW hq hk txt14 gw14 h2) (orP (mIsW hq hk txt15 gw15 h2) (orP (mIsW hq hk txt16 gw16 h2) (orP (mIsW hq hk txt17 gw17 h2) (orP (mIsW hq hk txt18 gw18 h2) (orP (mIsW hq hk txt19 gw19 h2) (orP (mIsW hq hk txt20 gw20 h2) (orP (mIsW hq hk txt21 gw21 h2) rfl)))))))))))))))))))
  · rw [if_neg (show ¬ N (mkk (tokAt T q).1) = (1 : Int32) from fun h => h2 ((mk1 _ (by omega) 2 (by omega)).mp h))]
    have e : tkNm (tokAt T q) = false := by unfold tkNm; rw [decide_eq_false h2, Bool.false_and]
    rw [e]; rfl
theorem xIsEnd {S : gS} {T : aTp} {q : Nat} (hq : q ≤ T.1) (hk : tkX S T (tokAt T q)) : FX8_isEnd S = some (S, decide ((tokAt T q).1 = 0)) := by
  have h4 := (tokAt_e hq).2.2.2.2.2
  unfold FX8_isEnd
  rw [hk.2.2.1]
  by_cases h : (tokAt T q).1 = 0
  · rw [if_pos (show N (tokAt T q).1 = (0 : Int32) from by rw [h]; rfl), decide_eq_true h]
  · rw [if_neg (show ¬ N (tokAt T q).1 = (0 : Int32) from fun e => h ((eq0N (by omega)).mp e)), decide_eq_false h]
