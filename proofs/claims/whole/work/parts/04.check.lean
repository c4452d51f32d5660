/-! for each code the two searches end at the same decimal: reckoned out, code by code -/
def sd_ok (c : Nat) : Bool := decide (sd_ca c (sd_sh c 19).2 = (sd_fm c 8 (0, 12)).1) && decide ((sd_sh c 19).2 = (sd_fm c 8 (0, 12)).2)
def sd_oks (a : Nat) : Nat → Bool
  | 0 => true
  | n + 1 => sd_ok (a + n) && sd_oks a n
theorem sd_ok_0 : sd_oks 0 16 = true := by decide +kernel
