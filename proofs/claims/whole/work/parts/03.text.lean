/-! the text: x i is the i-th key (10 the point); digits, points, digits behind the point, the number -/
def sd_dg (x : Nat → Nat) : Nat → Nat
  | 0 => 0
  | n + 1 => if x n = 10 then sd_dg x n else sd_dg x n + 1
def sd_pt (x : Nat → Nat) : Nat → Nat
  | 0 => 0
  | n + 1 => if x n = 10 then sd_pt x n + 1 else sd_pt x n
def sd_bh (x : Nat → Nat) : Nat → Nat
  | 0 => 0
  | n + 1 => if x n = 10 then sd_bh x n else if sd_pt x n = 0 then sd_bh x n else sd_bh x n + 1
def sd_nu (x : Nat → Nat) : Nat → Nat
  | 0 => 0
  | n + 1 => if x n = 10 then sd_nu x n else 10 * sd_nu x n + x n
theorem sd_dg_p {x : Nat → Nat} {n : Nat} (h : x n = 10) : sd_dg x (n + 1) = sd_dg x n := if_pos h
theorem sd_dg_d {x : Nat → Nat} {n : Nat} (h : x n ≠ 10) : sd_dg x (n + 1) = sd_dg x n + 1 := if_neg h
theorem sd_pt_p {x : Nat → Nat} {n : Nat} (h : x n = 10) : sd_pt x (n + 1) = sd_pt x n + 1 := if_pos h
theorem sd_pt_d {x : Nat → Nat} {n : Nat} (h : x n ≠ 10) : sd_pt x (n + 1) = sd_pt x n := if_neg h
theorem sd_bh_p {x : Nat → Nat} {n : Nat} (h : x n = 10) : sd_bh x (n + 1) = sd_bh x n := if_pos h
theorem sd_bh_d {x : Nat → Nat} {n : Nat} (h : x n ≠ 10) : sd_bh x (n + 1) = if sd_pt x n = 0 then sd_bh x n else sd_bh x n + 1 := if_neg h
theorem sd_nu_p {x : Nat → Nat} {n : Nat} (h : x n = 10) : sd_nu x (n + 1) = sd_nu x n := if_pos h
theorem sd_nu_d {x : Nat → Nat} {n : Nat} (h : x n ≠ 10) : sd_nu x (n + 1) = 10 * sd_nu x n + x n := if_neg h
theorem sd_tx_n (x : Nat → Nat) : ∀ n, n = sd_dg x n + sd_pt x n := by
  intro n
  induction n with
  | zero => rfl
  | succ n ih =>
    by_cases h : x n = 10
    · rw [sd_dg_p h, sd_pt_p h]; omega
    · rw [sd_dg_d h, sd_pt_d h]; omega
theorem sd_bh_le (x : Nat → Nat) : ∀ n, sd_bh x n ≤ sd_dg x n := by
  intro n
  induction n with
  | zero => exact Nat.le_refl _
  | succ n ih =>
    by_cases h : x n = 10
    · rw [sd_dg_p h, sd_bh_p h]; omega
    · rw [sd_dg_d h, sd_bh_d h]; split <;> omega
theorem sd_bh_0 (x : Nat → Nat) : ∀ n, sd_pt x n = 0 → sd_bh x n = 0 := by
  intro n
  induction n with
  | zero => exact fun _ => rfl
  | succ n ih =>
    intro hp
    by_cases h : x n = 10
    · rw [sd_pt_p h] at hp; omega
    · rw [sd_pt_d h] at hp
      rw [sd_bh_d h, if_pos hp]
      exact ih hp
theorem sd_nu_lt {x : Nat → Nat} : ∀ n, (∀ i, i < n → x i ≤ 10) → sd_nu x n < 10 ^ sd_dg x n := by
  intro n
  induction n with
  | zero => exact fun _ => (by decide : (0 : Nat) < 10 ^ 0)
  | succ n ih =>
    intro hx
    have h1 := ih (fun i hi => hx i (by omega))
    have h2 := hx n (by omega)
    by_cases h : x n = 10
    · rw [sd_dg_p h, sd_nu_p h]; exact h1
    · rw [sd_dg_d h, sd_nu_d h, Nat.pow_succ]
      generalize 10 ^ sd_dg x n = P at *
      omega
theorem sd_tx_c {x y : Nat → Nat} : ∀ n, (∀ i, i < n → x i = y i) → sd_dg x n = sd_dg y n ∧ sd_pt x n = sd_pt y n ∧ sd_bh x n = sd_bh y n ∧ sd_nu x n = sd_nu y n := by
  intro n
  induction n with
  | zero => exact fun _ => ⟨rfl, rfl, rfl, rfl⟩
  | succ n ih =>
    intro hx
    obtain ⟨h1, h2, h3, h4⟩ := ih (fun i hi => hx i (by omega))
    have e := hx n (by omega)
    by_cases h : x n = 10
    · have h' : y n = 10 := by rw [← e]; exact h
      rw [sd_dg_p h, sd_pt_p h, sd_bh_p h, sd_nu_p h, sd_dg_p h', sd_pt_p h', sd_bh_p h', sd_nu_p h']
      exact ⟨h1, by rw [h2], h3, h4⟩
    · have h' : y n ≠ 10 := by rw [← e]; exact h
      rw [sd_dg_d h, sd_pt_d h, sd_bh_d h, sd_nu_d h, sd_dg_d h', sd_pt_d h', sd_bh_d h', sd_nu_d h', h1, h2, h3, h4, e]
      exact ⟨rfl, rfl, rfl, rfl⟩
/-- the greatest k whose last k digits may be nought -/
def sd_gr (d t : Nat) : Nat → Nat
  | 0 => 0
  | k + 1 => if sd_rd (d - d % 10 ^ (k + 1)) t = sd_rd d t then k + 1 else sd_gr d t k
theorem sd_gr_le (d t : Nat) : ∀ k, sd_gr d t k ≤ k := by
  intro k
  induction k with
  | zero => exact Nat.le_refl _
  | succ k ih =>
    show (if _ then k + 1 else sd_gr d t k) ≤ k + 1
    split
    · exact Nat.le_refl _
    · exact Nat.le_succ_of_le ih
/-- q as an int of its own index t = q + 12 -/
def sd_q (t : Nat) : Int32 := nI t + (-12)
theorem sd_q_neg : ∀ t, t < 19 → (sd_q t < 0 ↔ t < 12) := by decide +kernel
theorem sd_q_ge : ∀ t, t < 19 → (0 ≤ sd_q t ↔ 12 ≤ t) := by decide +kernel
theorem sd_q_n : ∀ t, t < 12 → -(sd_q t) = nI (12 - t) := by decide +kernel
theorem sd_q_p : ∀ t, t < 19 → 12 ≤ t → sd_q t = nI (t - 12) := by decide +kernel
theorem sd_q_12 : ∀ t, t < 19 → sd_q t + 12 = nI t := by decide +kernel
theorem sd_q_m12 : ∀ t, t < 19 → sd_q t - (-12) = nI t := by decide +kernel
theorem sd_q_lo : ∀ t, t < 19 → (-12) ≤ sd_q t := by decide +kernel
theorem sd_q_hi : ∀ t, t < 19 → sd_q t ≤ 6 := by decide +kernel
theorem sd_q_le6 : ∀ t, t < 20 → (sd_q t ≤ 6 ↔ t < 19) := by decide +kernel
theorem sd_q_lt7 : ∀ t, t < 20 → (sd_q t < 7 ↔ t < 19) := by decide +kernel
theorem sd_q_s (t : Nat) : sd_q t + 1 = sd_q (t + 1) := by
  unfold sd_q
  rw [← nI_1]
  grind
theorem sd_q_0 : sd_q 0 = -12 := by decide +kernel
theorem sd_q_z : sd_q 12 = 0 := by decide +kernel
theorem sd_q_mi : ∀ p, p < 13 → -(nI p) = sd_q (12 - p) := by decide +kernel
theorem sd_q_of {q : Int32} (h1 : -12 ≤ q) (h2 : q ≤ 6) : ∃ t, t < 19 ∧ q = sd_q t := by
  rw [Int32.le_iff_toInt_le] at h1 h2
  have e1 : (-12 : Int32).toInt = -12 := by decide
  have e2 : (6 : Int32).toInt = 6 := by decide
  rw [e1] at h1
  rw [e2] at h2
  refine ⟨(q.toInt + 12).toNat, by omega, ?_⟩
  have key : ∀ t, t < 19 → (sd_q t).toInt = (t : Int) - 12 := by decide +kernel
  apply Int32.toInt_inj.mp
  rw [key _ (by omega)]
  omega
