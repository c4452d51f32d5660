/-! for each code the two searches end at the same decimal: reckoned out, code by code -/
def sd_ok (c : Nat) : Bool := decide (sd_ca c (sd_sh c 19).2 = (sd_fm c 8 (0, 12)).1) && decide ((sd_sh c 19).2 = (sd_fm c 8 (0, 12)).2)
def sd_oks (a : Nat) : Nat → Bool
  | 0 => true
  | n + 1 => sd_ok (a + n) && sd_oks a n
theorem sd_ok_0 : sd_oks 0 64 = true := by decide +kernel
theorem sd_ok_1 : sd_oks 64 64 = true := by decide +kernel
theorem sd_ok_2 : sd_oks 128 64 = true := by decide +kernel
theorem sd_ok_3 : sd_oks 192 64 = true := by decide +kernel
theorem sd_ok_4 : sd_oks 256 64 = true := by decide +kernel
theorem sd_ok_5 : sd_oks 320 64 = true := by decide +kernel
theorem sd_ok_6 : sd_oks 384 64 = true := by decide +kernel
theorem sd_ok_7 : sd_oks 448 64 = true := by decide +kernel
theorem sd_ok_8 : sd_oks 512 64 = true := by decide +kernel
theorem sd_ok_9 : sd_oks 576 64 = true := by decide +kernel
theorem sd_ok_10 : sd_oks 640 64 = true := by decide +kernel
theorem sd_ok_11 : sd_oks 704 64 = true := by decide +kernel
theorem sd_ok_12 : sd_oks 768 64 = true := by decide +kernel
theorem sd_ok_13 : sd_oks 832 64 = true := by decide +kernel
theorem sd_ok_14 : sd_oks 896 64 = true := by decide +kernel
theorem sd_ok_15 : sd_oks 960 64 = true := by decide +kernel
theorem sd_oks_at {a : Nat} : ∀ n, sd_oks a n = true → ∀ j, j < n → sd_ok (a + j) = true := by
  intro n
  induction n with
  | zero => exact fun _ j hj => absurd hj (Nat.not_lt_zero j)
  | succ n ih =>
    intro h j hj
    have h' : (sd_ok (a + n) && sd_oks a n) = true := h
    rw [Bool.and_eq_true] at h'
    by_cases e : j = n
    · rw [e]; exact h'.1
    · exact ih h'.2 j (by omega)
theorem sd_ok_all {c : Nat} (hc : c < 1024) : sd_ok c = true := by
  have h : ∀ k, k < 16 → sd_oks (64 * k) 64 = true
    | 0, _ => sd_ok_0
    | 1, _ => sd_ok_1
    | 2, _ => sd_ok_2
    | 3, _ => sd_ok_3
    | 4, _ => sd_ok_4
    | 5, _ => sd_ok_5
    | 6, _ => sd_ok_6
    | 7, _ => sd_ok_7
    | 8, _ => sd_ok_8
    | 9, _ => sd_ok_9
    | 10, _ => sd_ok_10
    | 11, _ => sd_ok_11
    | 12, _ => sd_ok_12
    | 13, _ => sd_ok_13
    | 14, _ => sd_ok_14
    | 15, _ => sd_ok_15
    | k + 16, h => absurd h (by omega)
  have g := sd_oks_at 64 (h (c / 64) (by omega)) (c % 64) (by omega)
  rw [show 64 * (c / 64) + c % 64 = c by omega] at g
  exact g
theorem sd_same {c : Nat} (hc : c < 1024) : sd_ca c (sd_sh c 19).2 = (sd_fm c 8 (0, 12)).1 ∧ (sd_sh c 19).2 = (sd_fm c 8 (0, 12)).2 := by
  have h := sd_ok_all hc
  unfold sd_ok at h
  rw [Bool.and_eq_true] at h
  exact ⟨of_decide_eq_true h.1, of_decide_eq_true h.2⟩
