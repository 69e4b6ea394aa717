/-! the words of a front's lines -/
theorem txtB : ∀ k, k < 12 → txt (UInt32.ofNat (k + 22)) := by unfold txt gLen by1; decide +kernel
theorem txt1 : txt 1 := by unfold txt gLen by1; decide +kernel
theorem txt22 : txt 22 := txtB 0 (by omega)
theorem txt23 : txt 23 := txtB 1 (by omega)
theorem txt24 : txt 24 := txtB 2 (by omega)
theorem txt25 : txt 25 := txtB 3 (by omega)
theorem txt26 : txt 26 := txtB 4 (by omega)
theorem txt27 : txt 27 := txtB 5 (by omega)
theorem txt28 : txt 28 := txtB 6 (by omega)
theorem txt29 : txt 29 := txtB 7 (by omega)
theorem txt30 : txt 30 := txtB 8 (by omega)
theorem txt31 : txt 31 := txtB 9 (by omega)
theorem txt32 : txt 32 := txtB 10 (by omega)
theorem txt33 : txt 33 := txtB 11 (by omega)
theorem gw1 : (7219835 : Int64) = LN (e27 (gw 1)) := by decide +kernel
theorem gw22 : (8740238 : Int64) = LN (e27 (gw 22)) := by decide +kernel
theorem gw23 : (459383 : Int64) = LN (e27 (gw 23)) := by decide +kernel
theorem gw24 : (383153 : Int64) = LN (e27 (gw 24)) := by decide +kernel
theorem gw25 : (279740 : Int64) = LN (e27 (gw 25)) := by decide +kernel
theorem gw26 : (164222 : Int64) = LN (e27 (gw 26)) := by decide +kernel
theorem gw27 : (10656676 : Int64) = LN (e27 (gw 27)) := by decide +kernel
theorem gw28 : (4555648 : Int64) = LN (e27 (gw 28)) := by decide +kernel
theorem gw29 : (112011003 : Int64) = LN (e27 (gw 29)) := by decide +kernel
theorem gw30 : (175252482 : Int64) = LN (e27 (gw 30)) := by decide +kernel
theorem gw31 : (411 : Int64) = LN (e27 (gw 31)) := by decide +kernel
theorem gw32 : (355280 : Int64) = LN (e27 (gw 32)) := by decide +kernel
theorem gw33 : (281024524 : Int64) = LN (e27 (gw 33)) := by decide +kernel
def tkKd (k : aTk) : Nat := if tkW k 22 = true then 0 else if tkW k 23 = true then 1 else if tkW k 24 = true then 2 else if tkW k 25 = true then 3 else 4
theorem tkKd_le {k : aTk} : tkKd k ≤ 4 := by
  unfold tkKd
  repeat' split
  all_goals omega
theorem xKind {S : gS} {T : aTp} {q : Nat} (hT : okT T) (hq : q ≤ T.1) (hk : tkX S T (tokAt T q)) : FX2_kindHere S = some (S, nAn (tkKd (tokAt T q)) 4) := by
  unfold FX2_kindHere tkKd
  simp only [g_b2, xIsWord hT hq hk txt22, xIsWord hT hq hk txt23, xIsWord hT hq hk txt24, xIsWord hT hq hk txt25]
  repeat' split
  all_goals first | rfl | exact absurd rfl (by assumption)
