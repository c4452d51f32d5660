/-! the pure pictures: values, borders, reading, naming, the short decimal as X and as Y find it; t is q + 12 -/
def sd_v (c : Nat) : Nat := if c < 64 then c else (64 + c % 64) * 2 ^ (c / 64 - 1)
def sd_L (h t : Nat) : Nat := if t < 12 then h * 10 ^ (12 - t) else h
def sd_R (d t : Nat) : Nat := if t < 12 then 1024 * d else 1024 * d * 10 ^ (t - 12)
def sd_b (c : Nat) : Nat := sd_v (c - 1) + sd_v c
def sd_re (c d t : Nat) : Bool := decide (c = 0) || (decide (sd_L (sd_b c) t < sd_R d t) || (decide (sd_L (sd_b c) t = sd_R d t) && decide (c % 2 = 0)))
def sd_nm (c d t : Nat) : Bool := sd_re c d t && !sd_re (c + 1) d t
def sd_cb (d t : Nat) : Nat → Nat → Nat
  | 0, x => x
  | b + 1, x => sd_cb d t b (if sd_re (x + 2 ^ b) d t = true then x + 2 ^ b else x)
def sd_rd (d t : Nat) : Nat := sd_cb d t 10 0
def sd_fl (c t : Nat) : Nat := if t < 12 then sd_v c * 10 ^ (12 - t) / 512 else sd_v c / (512 * 10 ^ (t - 12))
def sd_ab (a b : Nat) : Nat := if a < b then b - a else a - b
def sd_ds (c d t : Nat) : Nat := sd_ab (sd_v c * 10 ^ 12) (512 * d * 10 ^ t)
def sd_dc (d : Nat) : Nat := if d < 10 then 1 else if d < 100 then 2 else if d < 1000 then 3 else if d < 10000 then 4 else if d < 100000 then 5 else if d < 1000000 then 6 else if d < 10000000 then 7 else 8
def sd_bt (c d t e s : Nat) : Bool := if e = 0 then true else if sd_dc d = sd_dc e then (if sd_ds c d t = sd_ds c e s then decide (d < e) else decide (sd_ds c d t < sd_ds c e s)) else decide (sd_dc d < sd_dc e)
def sd_cs (c t d b : Nat) : Nat := if d % 10 = 0 then b else if sd_nm c d t = true then (if sd_bt c d t b t = true then d else b) else b
def sd_ca (c t : Nat) : Nat := if c = 0 then 0 else if 99999999 < sd_fl c t then 0 else sd_cs c t (sd_fl c t + 1) (sd_cs c t (sd_fl c t) 0)
def sd_ss (c t : Nat) (s : Nat × Nat) : Nat × Nat := if sd_ca c t = 0 then s else if sd_bt c (sd_ca c t) t s.1 s.2 = true then (sd_ca c t, t) else s
def sd_sh (c : Nat) : Nat → Nat × Nat
  | 0 => (0, 12)
  | n + 1 => sd_ss c n (sd_sh c n)
def sd_yb (c x t : Nat) (s : Nat × Nat) : Bool := if s.1 = 0 then true else (decide (sd_ds c x t < sd_ds c s.1 s.2) || (decide (sd_ds c x t = sd_ds c s.1 s.2) && decide (x < s.1)))
def sd_ys (c m t x : Nat) (s : Nat × Nat) : Nat × Nat := if 99999999 < x then s else if x % 10 = 0 then s else if sd_dc x = m then (if sd_nm c x t = true then (if sd_yb c x t s = true then (x, t) else s) else s) else s
def sd_ty (c m t : Nat) (s : Nat × Nat) : Nat × Nat := if 100000001 < sd_fl c t then s else sd_ys c m t (sd_fl c t + 2) (sd_ys c m t (sd_fl c t + 1) (sd_ys c m t (sd_fl c t) (sd_ys c m t (sd_fl c t - 1) s)))
def sd_fq (c m : Nat) : Nat → Nat × Nat → Nat × Nat
  | 0, s => s
  | n + 1, s => sd_ty c m n (sd_fq c m n s)
def sd_fm (c : Nat) : Nat → Nat × Nat → Nat × Nat
  | 0, s => s
  | k + 1, s => if s.1 = 0 then (if c = 0 then s else sd_fm c k (sd_fq c (8 - k) 19 s)) else s
theorem sd_v_le : ∀ c, c < 1025 → sd_v c ≤ 2097152 := by decide +kernel
theorem sd_v_mono : ∀ c, c < 1024 → sd_v c < sd_v (c + 1) := by decide +kernel
theorem sd_L_lt {h h' : Nat} (t : Nat) (hh : h < h') : sd_L h t < sd_L h' t := by
  unfold sd_L
  split
  · exact Nat.mul_lt_mul_of_pos_right hh (Nat.pow_pos (by decide))
  · exact hh
theorem sd_re_iff {c d t : Nat} : sd_re c d t = true ↔ c = 0 ∨ sd_L (sd_b c) t < sd_R d t ∨ (sd_L (sd_b c) t = sd_R d t ∧ c % 2 = 0) := by
  unfold sd_re
  simp only [Bool.or_eq_true, Bool.and_eq_true, decide_eq_true_eq]
theorem sd_b_s (c : Nat) : sd_b (c + 1) = sd_v c + sd_v (c + 1) := rfl
theorem sd_b_lt {c : Nat} (h0 : 0 < c) (hc : c < 1024) : sd_b c < sd_b (c + 1) := by
  obtain ⟨a, rfl⟩ : ∃ a, c = a + 1 := ⟨c - 1, by omega⟩
  rw [sd_b_s, sd_b_s]
  have h1 := sd_v_mono a (by omega)
  have h2 := sd_v_mono (a + 1) hc
  omega
theorem sd_b_le {c : Nat} (hc : c < 1025) : sd_b c ≤ 4194304 := by
  unfold sd_b
  have h1 := sd_v_le c hc
  have h2 := sd_v_le (c - 1) (by omega)
  omega
theorem sd_re_down {c d t : Nat} (hc : c < 1024) (h : sd_re (c + 1) d t = true) : sd_re c d t = true := by
  rw [sd_re_iff] at h ⊢
  by_cases z : c = 0
  · exact Or.inl z
  · have hb := sd_L_lt t (sd_b_lt (Nat.pos_of_ne_zero z) hc)
    generalize sd_L (sd_b c) t = A at *
    generalize sd_L (sd_b (c + 1)) t = B at *
    generalize sd_R d t = C at *
    omega
theorem sd_re_all {d t : Nat} : ∀ c, c ≤ 1024 → sd_re c d t = true → ∀ j, j ≤ c → sd_re j d t = true := by
  intro c
  induction c with
  | zero =>
    intro _ h j hj
    rw [show j = 0 by omega]
    exact h
  | succ c ih =>
    intro hc h j hj
    by_cases e : j = c + 1
    · rw [e]; exact h
    · exact ih (by omega) (sd_re_down (by omega) h) j (by omega)
theorem sd_re_0 (d t : Nat) : sd_re 0 d t = true := sd_re_iff.mpr (Or.inl rfl)
theorem sd_cb_spec (d t : Nat) : ∀ b x, x + 2 ^ b ≤ 1024 → sd_re x d t = true → (x + 2 ^ b = 1024 ∨ sd_re (x + 2 ^ b) d t = false) → (sd_cb d t b x ≤ 1023 ∧ sd_re (sd_cb d t b x) d t = true ∧ (sd_cb d t b x = 1023 ∨ sd_re (sd_cb d t b x + 1) d t = false)) := by
  intro b
  induction b with
  | zero =>
    intro x h1 h2 h3
    have e : sd_cb d t 0 x = x := rfl
    rw [e]
    simp only [Nat.pow_zero] at h1 h3
    refine ⟨by omega, h2, ?_⟩
    rcases h3 with h3 | h3
    · exact Or.inl (by omega)
    · exact Or.inr h3
  | succ b ih =>
    intro x h1 h2 h3
    have e : sd_cb d t (b + 1) x = sd_cb d t b (if sd_re (x + 2 ^ b) d t = true then x + 2 ^ b else x) := rfl
    rw [e]
    have p : 2 ^ (b + 1) = 2 ^ b + 2 ^ b := by rw [Nat.pow_succ]; omega
    have q : 0 < 2 ^ b := Nat.two_pow_pos b
    rw [p, ← Nat.add_assoc] at h1 h3
    by_cases r : sd_re (x + 2 ^ b) d t = true
    · rw [if_pos r]
      exact ih _ h1 r h3
    · rw [if_neg r]
      exact ih _ (by omega) h2 (Or.inr (eq_false_of_ne_true r))
theorem sd_rd_spec (d t : Nat) : sd_rd d t ≤ 1023 ∧ sd_re (sd_rd d t) d t = true ∧ (sd_rd d t = 1023 ∨ sd_re (sd_rd d t + 1) d t = false) :=
  sd_cb_spec d t 10 0 (by decide) (sd_re_0 d t) (Or.inl rfl)
theorem sd_cb_le (d t : Nat) : ∀ b x, x + 2 ^ b ≤ 1024 → sd_cb d t b x ≤ 1023 := by
  intro b
  induction b with
  | zero => intro x h; have e : sd_cb d t 0 x = x := rfl; rw [e]; simp only [Nat.pow_zero] at h; omega
  | succ b ih =>
    intro x h1
    have e : sd_cb d t (b + 1) x = sd_cb d t b (if sd_re (x + 2 ^ b) d t = true then x + 2 ^ b else x) := rfl
    have p : 2 ^ (b + 1) = 2 ^ b + 2 ^ b := by rw [Nat.pow_succ]; omega
    have q : 0 < 2 ^ b := Nat.two_pow_pos b
    rw [e]
    rw [p, ← Nat.add_assoc] at h1
    by_cases r : sd_re (x + 2 ^ b) d t = true
    · rw [if_pos r]
      exact ih _ h1
    · rw [if_neg r]
      exact ih _ (by omega)
theorem sd_mul2 (d p : Nat) : 1024 * d * p = 2 * (512 * d * p) := by
  rw [← Nat.mul_assoc, ← Nat.mul_assoc]
theorem sd_nm_bd {c d t : Nat} (hc : c < 1024) (h : sd_nm c d t = true) : 512 * d * 10 ^ t ≤ 2097152000000000000 := by
  unfold sd_nm at h
  rw [Bool.and_eq_true, Bool.not_eq_true'] at h
  have h2 : ¬ sd_re (c + 1) d t = true := by rw [h.2]; decide
  rw [sd_re_iff] at h2
  have h3 : sd_R d t ≤ sd_L (sd_b (c + 1)) t := by
    generalize sd_L (sd_b (c + 1)) t = A at *
    generalize sd_R d t = B at *
    omega
  have hb : sd_b (c + 1) ≤ 4194304 := sd_b_le (by omega)
  have p12 : (10 : Nat) ^ 12 = 1000000000000 := by decide
  have hf : 1024 * d * 10 ^ t ≤ sd_b (c + 1) * 1000000000000 := by
    unfold sd_R sd_L at h3
    by_cases ht : t < 12
    · rw [if_pos ht, if_pos ht] at h3
      have e : 10 ^ (12 - t) * 10 ^ t = 10 ^ 12 := by rw [← Nat.pow_add]; exact congrArg (10 ^ ·) (by omega)
      rw [p12] at e
      have h4 := Nat.mul_le_mul_right (10 ^ t) h3
      rw [Nat.mul_assoc (sd_b (c + 1)), e] at h4
      exact h4
    · rw [if_neg ht, if_neg ht] at h3
      have e : 10 ^ (t - 12) * 10 ^ 12 = 10 ^ t := by rw [← Nat.pow_add]; exact congrArg (10 ^ ·) (by omega)
      rw [p12] at e
      have h4 := Nat.mul_le_mul_right 1000000000000 h3
      rw [Nat.mul_assoc (1024 * d), e] at h4
      exact h4
  rw [sd_mul2] at hf
  clear h3 h2 h p12
  generalize 512 * d * 10 ^ t = A at hf ⊢
  generalize sd_b (c + 1) = B at hf hb
  omega
theorem sd_dc_in (d : Nat) : 1 ≤ sd_dc d ∧ sd_dc d ≤ 8 := by
  unfold sd_dc
  repeat' split
  all_goals omega
theorem sd_dc_ge (d : Nat) : ∀ k, 1 ≤ k → k < 8 → (10 ^ k ≤ d ↔ k < sd_dc d)
  | 0, h, _ => absurd h (by decide)
  | 1, _, _ => by show 10 ≤ d ↔ _; unfold sd_dc; repeat' split
                  all_goals omega
  | 2, _, _ => by show 100 ≤ d ↔ _; unfold sd_dc; repeat' split
                  all_goals omega
  | 3, _, _ => by show 1000 ≤ d ↔ _; unfold sd_dc; repeat' split
                  all_goals omega
  | 4, _, _ => by show 10000 ≤ d ↔ _; unfold sd_dc; repeat' split
                  all_goals omega
  | 5, _, _ => by show 100000 ≤ d ↔ _; unfold sd_dc; repeat' split
                  all_goals omega
  | 6, _, _ => by show 1000000 ≤ d ↔ _; unfold sd_dc; repeat' split
                  all_goals omega
  | 7, _, _ => by show 10000000 ≤ d ↔ _; unfold sd_dc; repeat' split
                  all_goals omega
  | k + 8, _, h => absurd h (by omega)
theorem sd_dc_gt {d : Nat} (hd : d < 100000000) : ∀ k, 1 ≤ k → k ≤ 8 → (10 ^ k ≤ d ↔ k < sd_dc d) := by
  intro k h1 h8
  by_cases h : k < 8
  · exact sd_dc_ge d k h1 h
  · have e : k = 8 := by omega
    subst e
    have := (sd_dc_in d).2
    show 100000000 ≤ d ↔ _
    omega
theorem sd_v_0 : sd_v 0 = 0 := rfl
theorem sd_fl_le {c : Nat} (hc : c < 1025) (t : Nat) : sd_fl c t ≤ 2097152000000000000 := by
  have h := sd_v_le c hc
  unfold sd_fl
  split
  · have h1 : sd_v c * 10 ^ (12 - t) ≤ 2097152 * 10 ^ 12 := Nat.mul_le_mul h (Nat.pow_le_pow_right (by decide) (by omega))
    exact Nat.le_trans (Nat.div_le_self _ _) (Nat.le_trans h1 (by decide))
  · exact Nat.le_trans (Nat.div_le_self _ _) (Nat.le_trans h (by decide))
