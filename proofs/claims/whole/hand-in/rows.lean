section
theorem pk_us {f : Nat → Int32} {k : Nat} {x : Int32} : upd f k x k = x := if_pos rfl
theorem pk_un {f : Nat → Int32} {k j : Nat} {x : Int32} (h : j ≠ k) : upd f k x j = f j := if_neg h
theorem pk_uLs {f : Nat → Int64} {k : Nat} {x : Int64} : vp_updL f k x k = x := if_pos rfl
theorem pk_uLn {f : Nat → Int64} {k j : Nat} {x : Int64} (h : j ≠ k) : vp_updL f k x j = f j := if_neg h
theorem pk_sub {a b : Nat} (h : b ≤ a) : nI a - nI b = nI (a - b) := by
  obtain ⟨c, rfl⟩ : ∃ c, a = c + b := ⟨a - b, by omega⟩
  rw [← nI_add, Int32.add_sub_cancel, Nat.add_sub_cancel]
theorem pk_m1 (n : Nat) : nI (n + 1) + (-1) = nI n := by
  rw [← nI_1, Int32.add_assoc, show (1 : Int32) + (-1) = 0 from rfl, Int32.add_zero]
theorem pk_mul (a b : Nat) : nI a * nI b = nI (a * b) := (Int32.ofNat_mul a b).symm
theorem pk_div {a d : Nat} (ha : a < 2 ^ 31) (h0 : 0 < d) (hd : d < 2 ^ 31) : nI a / nI d = nI (a / d) := by
  apply Int32.toInt_inj.mp
  rw [lg_idiv_nonneg (by rw [nI_toInt ha]; omega) (by rw [nI_toInt hd]; omega), nI_toInt ha, nI_toInt hd, nI_toInt (Nat.lt_of_le_of_lt (Nat.div_le_self a d) ha)]
  first | rfl | exact (Int.natCast_ediv _ _).symm
theorem pk_rem {a d : Nat} (ha : a < 2 ^ 31) (h0 : 0 < d) (hd : d < 2 ^ 31) : nI a - nI a / nI d * nI d = nI (a % d) := by
  rw [pk_div ha h0 hd, pk_mul, pk_sub (Nat.div_mul_le_self a d)]
  exact congrArg nI (by have := Nat.div_add_mod' a d; omega)
theorem pk_le {x y : Int32} {A B : Prop} (a b : Nat) (f : a ≤ b → A) (g : b < a → B) (hx : x = nI a := by rfl) (hy : y = nI b := by rfl) (ha : a < 2 ^ 31 := by omega) (hb : b < 2 ^ 31 := by omega) : (x ≤ y → A) ∧ (¬ x ≤ y → B) := by
  subst hx hy
  rw [nI_leI ha hb]
  exact ⟨f, fun z => g (by omega)⟩
theorem pk_lt {x y : Int32} {A B : Prop} (a b : Nat) (f : a < b → A) (g : b ≤ a → B) (hx : x = nI a := by rfl) (hy : y = nI b := by rfl) (ha : a < 2 ^ 31 := by omega) (hb : b < 2 ^ 31 := by omega) : (x < y → A) ∧ (¬ x < y → B) := by
  subst hx hy
  rw [nI_ltI ha hb]
  exact ⟨f, fun z => g (by omega)⟩
theorem pk_eq {x y : Int32} {A B : Prop} (a b : Nat) (f : a = b → A) (g : a ≠ b → B) (hx : x = nI a := by rfl) (hy : y = nI b := by rfl) (ha : a < 2 ^ 31 := by omega) (hb : b < 2 ^ 31 := by omega) : (x = y → A) ∧ (¬ x = y → B) := by
  subst hx hy
  rw [nI_eq ha hb]
  exact ⟨f, g⟩
theorem pk_in {x : Int32} (n N : Nat) (h : n < N) (hx : x = nI n := by rfl) (hN : N < 2 ^ 31 := by omega) : vp_in x N := by
  subst hx
  exact vp_in_nI h hN
theorem pk_cl {x : Int32} (n : Nat) (hx : x = nI n := by rfl) (h : n < 2 ^ 31 := by omega) : x.toNatClampNeg = n := by
  subst hx
  exact nI_clamp h
theorem pk_tn {n : Nat} (h : n < 2 ^ 32) : (nI n).toBitVec.toNat = n := Nat.mod_eq_of_lt h
theorem pk_shl (a s : Int32) (k : Nat) (hs : (s.toBitVec.smod 32).toNat = k) : (a <<< s).toBitVec.toNat = a.toBitVec.toNat * 2 ^ k % 2 ^ 32 := by
  show (a.toBitVec <<< (s.toBitVec.smod 32).toNat).toNat = _
  rw [hs, BitVec.toNat_shiftLeft, Nat.shiftLeft_eq]
theorem pk_shlN {n : Nat} (s : Int32) (k : Nat) (hs : (s.toBitVec.smod 32).toNat = k) (h : n * 2 ^ k < 2 ^ 32) : nI n <<< s = nI (n * 2 ^ k) := by
  apply Int32.toBitVec_inj.mp
  apply BitVec.eq_of_toNat_eq
  have hn : n < 2 ^ 32 := Nat.lt_of_le_of_lt (Nat.le_mul_of_pos_right n (Nat.two_pow_pos k)) h
  rw [pk_shl _ _ k hs, pk_tn hn, pk_tn h, Nat.mod_eq_of_lt h]
theorem pk_lT {n : Nat} (h : n < 2 ^ 63) : (lN n).toInt = (n : Int) := lg_ofNat_toInt h
theorem pk_lLT {a b : Nat} (ha : a < 2 ^ 63) (hb : b < 2 ^ 63) : lN a < lN b ↔ a < b := by
  rw [Int64.lt_iff_toInt_lt, pk_lT ha, pk_lT hb]; omega
theorem pk_lLE {a b : Nat} (ha : a < 2 ^ 63) (hb : b < 2 ^ 63) : lN a ≤ lN b ↔ a ≤ b := by
  rw [Int64.le_iff_toInt_le, pk_lT ha, pk_lT hb]; omega
theorem pk_lEQ {a b : Nat} (ha : a < 2 ^ 63) (hb : b < 2 ^ 63) : lN a = lN b ↔ a = b := by
  rw [← Int64.toInt_inj, pk_lT ha, pk_lT hb]; omega
theorem pk_lOf {x : Int64} (h : ¬ x < 0) : ∃ k : Nat, k < 2 ^ 63 ∧ x = lN k := by
  rw [Int64.lt_iff_toInt_lt] at h
  have h0 : (0 : Int64).toInt = 0 := by decide
  have hx := Int64.toInt_lt x
  refine ⟨x.toInt.toNat, by omega, Int64.toInt_inj.mp ?_⟩
  rw [pk_lT (by omega)]
  omega
theorem pk_lDiv {a b : Nat} (ha : a < 2 ^ 63) (h0 : 0 < b) (hb : b < 2 ^ 63) : lN a / lN b = lN (a / b) := by
  apply Int64.toInt_inj.mp
  rw [lg_ldiv_nonneg (by rw [pk_lT ha]; omega) (by rw [pk_lT hb]; omega), pk_lT ha, pk_lT hb, pk_lT (Nat.lt_of_le_of_lt (Nat.div_le_self a b) ha)]
  rfl
theorem pk_lRem {a b : Nat} (ha : a < 2 ^ 63) (h0 : 0 < b) (hb : b < 2 ^ 63) : lN a - lN a / lN b * lN b = lN (a % b) := by
  rw [pk_lDiv ha h0 hb, lN_mul, lN_sub (Nat.div_mul_le_self a b)]
  exact congrArg lN (by have := Nat.div_add_mod' a b; omega)
theorem pk_loop {σ : Type} (W : Nat → Nat → σ → Prop) (I : Nat → σ → Prop) (e i0 : Nat) (s : σ) (hi : i0 ≤ e) (h0 : I i0 s) (hx : ∀ n s, I e s → W (n + 1) e s)
    (hs : ∀ n i s, i < e → I i s → (∀ s', I (i + 1) s' → W n (i + 1) s') → W (n + 1) i s) : ∃ n, W n i0 s :=
  ⟨e + 1, loop_i W I e hx hs (e + 1) i0 s hi (by omega) h0⟩
theorem pk_loopD {σ : Type} (W : Nat → Nat → σ → Prop) (I : Nat → σ → Prop) (hx : ∀ n s, I 0 s → W (n + 1) 0 s)
    (hs : ∀ n i s, I (i + 1) s → (∀ s', I i s' → W n i s') → W (n + 1) (i + 1) s) : ∀ (e : Nat) (s : σ), I e s → W (e + 1) e s := by
  intro e
  induction e with
  | zero => exact fun s h => hx 0 s h
  | succ e ih => exact fun s h => hs (e + 1) e s h (fun s' h' => ih s' h')
end
section
/-! the pure pictures: values, borders, reading, naming, the short decimal as X and as Y find it; t is q + 12 -/
def sd_v (c : Nat) : Nat := if c < 64 then c else (64 + c % 64) * 2 ^ (c / 64 - 1)
def sd_L (h t : Nat) : Nat := if t < 12 then h * 10 ^ (12 - t) else h
def sd_R (d t : Nat) : Nat := if t < 12 then 1024 * d else 1024 * d * 10 ^ (t - 12)
def sd_b (c : Nat) : Nat := sd_v (c - 1) + sd_v c
def sd_re (c d t : Nat) : Bool := decide (c = 0) || (decide (sd_L (sd_b c) t < sd_R d t) || (decide (sd_L (sd_b c) t = sd_R d t) && decide (c % 2 = 0)))
def sd_nm (c d t : Nat) : Bool := sd_re c d t && !sd_re (c + 1) d t
def sd_cb (d t : Nat) : Nat → Nat → Nat
  | 0, x => x
  | b + 1, x => sd_cb d t b (if sd_re (x + 2 ^ b) d t = true then x + 2 ^ b else x)
def sd_rd (d t : Nat) : Nat := sd_cb d t 10 0
def sd_fl (c t : Nat) : Nat := if t < 12 then sd_v c * 10 ^ (12 - t) / 512 else sd_v c / (512 * 10 ^ (t - 12))
def sd_ab (a b : Nat) : Nat := if a < b then b - a else a - b
def sd_ds (c d t : Nat) : Nat := sd_ab (sd_v c * 10 ^ 12) (512 * d * 10 ^ t)
def sd_dc (d : Nat) : Nat := if d < 10 then 1 else if d < 100 then 2 else if d < 1000 then 3 else if d < 10000 then 4 else if d < 100000 then 5 else if d < 1000000 then 6 else if d < 10000000 then 7 else 8
def sd_bt (c d t e s : Nat) : Bool := if e = 0 then true else if sd_dc d = sd_dc e then (if sd_ds c d t = sd_ds c e s then decide (d < e) else decide (sd_ds c d t < sd_ds c e s)) else decide (sd_dc d < sd_dc e)
def sd_cs (c t d b : Nat) : Nat := if d % 10 = 0 then b else if sd_nm c d t = true then (if sd_bt c d t b t = true then d else b) else b
def sd_ca (c t : Nat) : Nat := if c = 0 then 0 else if 99999999 < sd_fl c t then 0 else sd_cs c t (sd_fl c t + 1) (sd_cs c t (sd_fl c t) 0)
def sd_ss (c t : Nat) (s : Nat × Nat) : Nat × Nat := if sd_ca c t = 0 then s else if sd_bt c (sd_ca c t) t s.1 s.2 = true then (sd_ca c t, t) else s
def sd_sh (c : Nat) : Nat → Nat × Nat
  | 0 => (0, 12)
  | n + 1 => sd_ss c n (sd_sh c n)
def sd_yb (c x t : Nat) (s : Nat × Nat) : Bool := if s.1 = 0 then true else (decide (sd_ds c x t < sd_ds c s.1 s.2) || (decide (sd_ds c x t = sd_ds c s.1 s.2) && decide (x < s.1)))
def sd_ys (c m t x : Nat) (s : Nat × Nat) : Nat × Nat := if 99999999 < x then s else if x % 10 = 0 then s else if sd_dc x = m then (if sd_nm c x t = true then (if sd_yb c x t s = true then (x, t) else s) else s) else s
def sd_ty (c m t : Nat) (s : Nat × Nat) : Nat × Nat := if 100000001 < sd_fl c t then s else sd_ys c m t (sd_fl c t + 2) (sd_ys c m t (sd_fl c t + 1) (sd_ys c m t (sd_fl c t) (sd_ys c m t (sd_fl c t - 1) s)))
def sd_fq (c m : Nat) : Nat → Nat × Nat → Nat × Nat
  | 0, s => s
  | n + 1, s => sd_ty c m n (sd_fq c m n s)
def sd_fm (c : Nat) : Nat → Nat × Nat → Nat × Nat
  | 0, s => s
  | k + 1, s => if s.1 = 0 then (if c = 0 then s else sd_fm c k (sd_fq c (8 - k) 19 s)) else s
theorem sd_v_le : ∀ c, c < 1025 → sd_v c ≤ 2097152 := by decide +kernel
theorem sd_v_mono : ∀ c, c < 1024 → sd_v c < sd_v (c + 1) := by decide +kernel
theorem sd_L_lt {h h' : Nat} (t : Nat) (hh : h < h') : sd_L h t < sd_L h' t := by
  unfold sd_L
  split
  · exact Nat.mul_lt_mul_of_pos_right hh (Nat.pow_pos (by decide))
  · exact hh
theorem sd_re_iff {c d t : Nat} : sd_re c d t = true ↔ c = 0 ∨ sd_L (sd_b c) t < sd_R d t ∨ (sd_L (sd_b c) t = sd_R d t ∧ c % 2 = 0) := by
  unfold sd_re
  simp only [Bool.or_eq_true, Bool.and_eq_true, decide_eq_true_eq]
theorem sd_b_s (c : Nat) : sd_b (c + 1) = sd_v c + sd_v (c + 1) := rfl
theorem sd_b_lt {c : Nat} (h0 : 0 < c) (hc : c < 1024) : sd_b c < sd_b (c + 1) := by
  obtain ⟨a, rfl⟩ : ∃ a, c = a + 1 := ⟨c - 1, by omega⟩
  rw [sd_b_s, sd_b_s]
  have h1 := sd_v_mono a (by omega)
  have h2 := sd_v_mono (a + 1) hc
  omega
theorem sd_b_le {c : Nat} (hc : c < 1025) : sd_b c ≤ 4194304 := by
  unfold sd_b
  have h1 := sd_v_le c hc
  have h2 := sd_v_le (c - 1) (by omega)
  omega
theorem sd_re_down {c d t : Nat} (hc : c < 1024) (h : sd_re (c + 1) d t = true) : sd_re c d t = true := by
  rw [sd_re_iff] at h ⊢
  by_cases z : c = 0
  · exact Or.inl z
  · have hb := sd_L_lt t (sd_b_lt (Nat.pos_of_ne_zero z) hc)
    generalize sd_L (sd_b c) t = A at *
    generalize sd_L (sd_b (c + 1)) t = B at *
    generalize sd_R d t = C at *
    omega
theorem sd_re_all {d t : Nat} : ∀ c, c ≤ 1024 → sd_re c d t = true → ∀ j, j ≤ c → sd_re j d t = true := by
  intro c
  induction c with
  | zero =>
    intro _ h j hj
    rw [show j = 0 by omega]
    exact h
  | succ c ih =>
    intro hc h j hj
    by_cases e : j = c + 1
    · rw [e]; exact h
    · exact ih (by omega) (sd_re_down (by omega) h) j (by omega)
theorem sd_re_0 (d t : Nat) : sd_re 0 d t = true := sd_re_iff.mpr (Or.inl rfl)
theorem sd_cb_spec (d t : Nat) : ∀ b x, x + 2 ^ b ≤ 1024 → sd_re x d t = true → (x + 2 ^ b = 1024 ∨ sd_re (x + 2 ^ b) d t = false) → (sd_cb d t b x ≤ 1023 ∧ sd_re (sd_cb d t b x) d t = true ∧ (sd_cb d t b x = 1023 ∨ sd_re (sd_cb d t b x + 1) d t = false)) := by
  intro b
  induction b with
  | zero =>
    intro x h1 h2 h3
    have e : sd_cb d t 0 x = x := rfl
    rw [e]
    simp only [Nat.pow_zero] at h1 h3
    refine ⟨by omega, h2, ?_⟩
    rcases h3 with h3 | h3
    · exact Or.inl (by omega)
    · exact Or.inr h3
  | succ b ih =>
    intro x h1 h2 h3
    have e : sd_cb d t (b + 1) x = sd_cb d t b (if sd_re (x + 2 ^ b) d t = true then x + 2 ^ b else x) := rfl
    rw [e]
    have p : 2 ^ (b + 1) = 2 ^ b + 2 ^ b := by rw [Nat.pow_succ]; omega
    have q : 0 < 2 ^ b := Nat.two_pow_pos b
    rw [p, ← Nat.add_assoc] at h1 h3
    by_cases r : sd_re (x + 2 ^ b) d t = true
    · rw [if_pos r]
      exact ih _ h1 r h3
    · rw [if_neg r]
      exact ih _ (by omega) h2 (Or.inr (eq_false_of_ne_true r))
theorem sd_rd_spec (d t : Nat) : sd_rd d t ≤ 1023 ∧ sd_re (sd_rd d t) d t = true ∧ (sd_rd d t = 1023 ∨ sd_re (sd_rd d t + 1) d t = false) :=
  sd_cb_spec d t 10 0 (by decide) (sd_re_0 d t) (Or.inl rfl)
theorem sd_cb_le (d t : Nat) : ∀ b x, x + 2 ^ b ≤ 1024 → sd_cb d t b x ≤ 1023 := by
  intro b
  induction b with
  | zero => intro x h; have e : sd_cb d t 0 x = x := rfl; rw [e]; simp only [Nat.pow_zero] at h; omega
  | succ b ih =>
    intro x h1
    have e : sd_cb d t (b + 1) x = sd_cb d t b (if sd_re (x + 2 ^ b) d t = true then x + 2 ^ b else x) := rfl
    have p : 2 ^ (b + 1) = 2 ^ b + 2 ^ b := by rw [Nat.pow_succ]; omega
    have q : 0 < 2 ^ b := Nat.two_pow_pos b
    rw [e]
    rw [p, ← Nat.add_assoc] at h1
    by_cases r : sd_re (x + 2 ^ b) d t = true
    · rw [if_pos r]
      exact ih _ h1
    · rw [if_neg r]
      exact ih _ (by omega)
theorem sd_mul2 (d p : Nat) : 1024 * d * p = 2 * (512 * d * p) := by
  rw [← Nat.mul_assoc, ← Nat.mul_assoc]
theorem sd_nm_bd {c d t : Nat} (hc : c < 1024) (h : sd_nm c d t = true) : 512 * d * 10 ^ t ≤ 2097152000000000000 := by
  unfold sd_nm at h
  rw [Bool.and_eq_true, Bool.not_eq_true'] at h
  have h2 : ¬ sd_re (c + 1) d t = true := by rw [h.2]; decide
  rw [sd_re_iff] at h2
  have h3 : sd_R d t ≤ sd_L (sd_b (c + 1)) t := by
    generalize sd_L (sd_b (c + 1)) t = A at *
    generalize sd_R d t = B at *
    omega
  have hb : sd_b (c + 1) ≤ 4194304 := sd_b_le (by omega)
  have p12 : (10 : Nat) ^ 12 = 1000000000000 := by decide
  have hf : 1024 * d * 10 ^ t ≤ sd_b (c + 1) * 1000000000000 := by
    unfold sd_R sd_L at h3
    by_cases ht : t < 12
    · rw [if_pos ht, if_pos ht] at h3
      have e : 10 ^ (12 - t) * 10 ^ t = 10 ^ 12 := by rw [← Nat.pow_add]; exact congrArg (10 ^ ·) (by omega)
      rw [p12] at e
      have h4 := Nat.mul_le_mul_right (10 ^ t) h3
      rw [Nat.mul_assoc (sd_b (c + 1)), e] at h4
      exact h4
    · rw [if_neg ht, if_neg ht] at h3
      have e : 10 ^ (t - 12) * 10 ^ 12 = 10 ^ t := by rw [← Nat.pow_add]; exact congrArg (10 ^ ·) (by omega)
      rw [p12] at e
      have h4 := Nat.mul_le_mul_right 1000000000000 h3
      rw [Nat.mul_assoc (1024 * d), e] at h4
      exact h4
  rw [sd_mul2] at hf
  clear h3 h2 h p12
  generalize 512 * d * 10 ^ t = A at hf ⊢
  generalize sd_b (c + 1) = B at hf hb
  omega
theorem sd_dc_in (d : Nat) : 1 ≤ sd_dc d ∧ sd_dc d ≤ 8 := by
  unfold sd_dc
  repeat' split
  all_goals omega
theorem sd_dc_ge (d : Nat) : ∀ k, 1 ≤ k → k < 8 → (10 ^ k ≤ d ↔ k < sd_dc d)
  | 0, h, _ => absurd h (by decide)
  | 1, _, _ => by show 10 ≤ d ↔ _; unfold sd_dc; repeat' split
                  all_goals omega
  | 2, _, _ => by show 100 ≤ d ↔ _; unfold sd_dc; repeat' split
                  all_goals omega
  | 3, _, _ => by show 1000 ≤ d ↔ _; unfold sd_dc; repeat' split
                  all_goals omega
  | 4, _, _ => by show 10000 ≤ d ↔ _; unfold sd_dc; repeat' split
                  all_goals omega
  | 5, _, _ => by show 100000 ≤ d ↔ _; unfold sd_dc; repeat' split
                  all_goals omega
  | 6, _, _ => by show 1000000 ≤ d ↔ _; unfold sd_dc; repeat' split
                  all_goals omega
  | 7, _, _ => by show 10000000 ≤ d ↔ _; unfold sd_dc; repeat' split
                  all_goals omega
  | k + 8, _, h => absurd h (by omega)
theorem sd_dc_gt {d : Nat} (hd : d < 100000000) : ∀ k, 1 ≤ k → k ≤ 8 → (10 ^ k ≤ d ↔ k < sd_dc d) := by
  intro k h1 h8
  by_cases h : k < 8
  · exact sd_dc_ge d k h1 h
  · have e : k = 8 := by omega
    subst e
    have := (sd_dc_in d).2
    show 100000000 ≤ d ↔ _
    omega
theorem sd_v_0 : sd_v 0 = 0 := rfl
theorem sd_fl_le {c : Nat} (hc : c < 1025) (t : Nat) : sd_fl c t ≤ 2097152000000000000 := by
  have h := sd_v_le c hc
  unfold sd_fl
  split
  · have h1 : sd_v c * 10 ^ (12 - t) ≤ 2097152 * 10 ^ 12 := Nat.mul_le_mul h (Nat.pow_le_pow_right (by decide) (by omega))
    exact Nat.le_trans (Nat.div_le_self _ _) (Nat.le_trans h1 (by decide))
  · exact Nat.le_trans (Nat.div_le_self _ _) (Nat.le_trans h (by decide))
end
section
/-! the text: x i is the i-th key (10 the point); digits, points, digits behind the point, the number -/
def sd_dg (x : Nat → Nat) : Nat → Nat
  | 0 => 0
  | n + 1 => if x n = 10 then sd_dg x n else sd_dg x n + 1
def sd_pt (x : Nat → Nat) : Nat → Nat
  | 0 => 0
  | n + 1 => if x n = 10 then sd_pt x n + 1 else sd_pt x n
def sd_bh (x : Nat → Nat) : Nat → Nat
  | 0 => 0
  | n + 1 => if x n = 10 then sd_bh x n else if sd_pt x n = 0 then sd_bh x n else sd_bh x n + 1
def sd_nu (x : Nat → Nat) : Nat → Nat
  | 0 => 0
  | n + 1 => if x n = 10 then sd_nu x n else 10 * sd_nu x n + x n
theorem sd_dg_p {x : Nat → Nat} {n : Nat} (h : x n = 10) : sd_dg x (n + 1) = sd_dg x n := if_pos h
theorem sd_dg_d {x : Nat → Nat} {n : Nat} (h : x n ≠ 10) : sd_dg x (n + 1) = sd_dg x n + 1 := if_neg h
theorem sd_pt_p {x : Nat → Nat} {n : Nat} (h : x n = 10) : sd_pt x (n + 1) = sd_pt x n + 1 := if_pos h
theorem sd_pt_d {x : Nat → Nat} {n : Nat} (h : x n ≠ 10) : sd_pt x (n + 1) = sd_pt x n := if_neg h
theorem sd_bh_p {x : Nat → Nat} {n : Nat} (h : x n = 10) : sd_bh x (n + 1) = sd_bh x n := if_pos h
theorem sd_bh_d {x : Nat → Nat} {n : Nat} (h : x n ≠ 10) : sd_bh x (n + 1) = if sd_pt x n = 0 then sd_bh x n else sd_bh x n + 1 := if_neg h
theorem sd_nu_p {x : Nat → Nat} {n : Nat} (h : x n = 10) : sd_nu x (n + 1) = sd_nu x n := if_pos h
theorem sd_nu_d {x : Nat → Nat} {n : Nat} (h : x n ≠ 10) : sd_nu x (n + 1) = 10 * sd_nu x n + x n := if_neg h
theorem sd_tx_n (x : Nat → Nat) : ∀ n, n = sd_dg x n + sd_pt x n := by
  intro n
  induction n with
  | zero => rfl
  | succ n ih =>
    by_cases h : x n = 10
    · rw [sd_dg_p h, sd_pt_p h]; omega
    · rw [sd_dg_d h, sd_pt_d h]; omega
theorem sd_bh_le (x : Nat → Nat) : ∀ n, sd_bh x n ≤ sd_dg x n := by
  intro n
  induction n with
  | zero => exact Nat.le_refl _
  | succ n ih =>
    by_cases h : x n = 10
    · rw [sd_dg_p h, sd_bh_p h]; omega
    · rw [sd_dg_d h, sd_bh_d h]; split <;> omega
theorem sd_bh_0 (x : Nat → Nat) : ∀ n, sd_pt x n = 0 → sd_bh x n = 0 := by
  intro n
  induction n with
  | zero => exact fun _ => rfl
  | succ n ih =>
    intro hp
    by_cases h : x n = 10
    · rw [sd_pt_p h] at hp; omega
    · rw [sd_pt_d h] at hp
      rw [sd_bh_d h, if_pos hp]
      exact ih hp
theorem sd_nu_lt {x : Nat → Nat} : ∀ n, (∀ i, i < n → x i ≤ 10) → sd_nu x n < 10 ^ sd_dg x n := by
  intro n
  induction n with
  | zero => exact fun _ => (by decide : (0 : Nat) < 10 ^ 0)
  | succ n ih =>
    intro hx
    have h1 := ih (fun i hi => hx i (by omega))
    have h2 := hx n (by omega)
    by_cases h : x n = 10
    · rw [sd_dg_p h, sd_nu_p h]; exact h1
    · rw [sd_dg_d h, sd_nu_d h, Nat.pow_succ]
      generalize 10 ^ sd_dg x n = P at *
      omega
theorem sd_tx_c {x y : Nat → Nat} : ∀ n, (∀ i, i < n → x i = y i) → sd_dg x n = sd_dg y n ∧ sd_pt x n = sd_pt y n ∧ sd_bh x n = sd_bh y n ∧ sd_nu x n = sd_nu y n := by
  intro n
  induction n with
  | zero => exact fun _ => ⟨rfl, rfl, rfl, rfl⟩
  | succ n ih =>
    intro hx
    obtain ⟨h1, h2, h3, h4⟩ := ih (fun i hi => hx i (by omega))
    have e := hx n (by omega)
    by_cases h : x n = 10
    · have h' : y n = 10 := by rw [← e]; exact h
      rw [sd_dg_p h, sd_pt_p h, sd_bh_p h, sd_nu_p h, sd_dg_p h', sd_pt_p h', sd_bh_p h', sd_nu_p h']
      exact ⟨h1, by rw [h2], h3, h4⟩
    · have h' : y n ≠ 10 := by rw [← e]; exact h
      rw [sd_dg_d h, sd_pt_d h, sd_bh_d h, sd_nu_d h, sd_dg_d h', sd_pt_d h', sd_bh_d h', sd_nu_d h', h1, h2, h3, h4, e]
      exact ⟨rfl, rfl, rfl, rfl⟩
/-- the greatest k whose last k digits may be nought -/
def sd_gr (d t : Nat) : Nat → Nat
  | 0 => 0
  | k + 1 => if sd_rd (d - d % 10 ^ (k + 1)) t = sd_rd d t then k + 1 else sd_gr d t k
theorem sd_gr_le (d t : Nat) : ∀ k, sd_gr d t k ≤ k := by
  intro k
  induction k with
  | zero => exact Nat.le_refl _
  | succ k ih =>
    show (if _ then k + 1 else sd_gr d t k) ≤ k + 1
    split
    · exact Nat.le_refl _
    · exact Nat.le_succ_of_le ih
/-- q as an int of its own index t = q + 12 -/
def sd_q (t : Nat) : Int32 := nI t + (-12)
theorem sd_q_neg : ∀ t, t < 19 → (sd_q t < 0 ↔ t < 12) := by decide +kernel
theorem sd_q_ge : ∀ t, t < 19 → (0 ≤ sd_q t ↔ 12 ≤ t) := by decide +kernel
theorem sd_q_n : ∀ t, t < 12 → -(sd_q t) = nI (12 - t) := by decide +kernel
theorem sd_q_p : ∀ t, t < 19 → 12 ≤ t → sd_q t = nI (t - 12) := by decide +kernel
theorem sd_q_12 : ∀ t, t < 19 → sd_q t + 12 = nI t := by decide +kernel
theorem sd_q_m12 : ∀ t, t < 19 → sd_q t - (-12) = nI t := by decide +kernel
theorem sd_q_lo : ∀ t, t < 19 → (-12) ≤ sd_q t := by decide +kernel
theorem sd_q_hi : ∀ t, t < 19 → sd_q t ≤ 6 := by decide +kernel
theorem sd_q_le6 : ∀ t, t < 20 → (sd_q t ≤ 6 ↔ t < 19) := by decide +kernel
theorem sd_q_lt7 : ∀ t, t < 20 → (sd_q t < 7 ↔ t < 19) := by decide +kernel
theorem sd_q_s (t : Nat) : sd_q t + 1 = sd_q (t + 1) := by
  unfold sd_q
  rw [← nI_1]
  grind
theorem sd_q_0 : sd_q 0 = -12 := by decide +kernel
theorem sd_q_z : sd_q 12 = 0 := by decide +kernel
theorem sd_q_mi : ∀ p, p < 13 → -(nI p) = sd_q (12 - p) := by decide +kernel
theorem sd_q_of {q : Int32} (h1 : -12 ≤ q) (h2 : q ≤ 6) : ∃ t, t < 19 ∧ q = sd_q t := by
  rw [Int32.le_iff_toInt_le] at h1 h2
  have e1 : (-12 : Int32).toInt = -12 := by decide
  have e2 : (6 : Int32).toInt = 6 := by decide
  rw [e1] at h1
  rw [e2] at h2
  refine ⟨(q.toInt + 12).toNat, by omega, ?_⟩
  have key : ∀ t, t < 19 → (sd_q t).toInt = (t : Int) - 12 := by decide +kernel
  apply Int32.toInt_inj.mp
  rw [key _ (by omega)]
  omega
end
section
/-! for each code the two searches end at the same decimal: reckoned out, code by code -/
def sd_ok (c : Nat) : Bool := decide (sd_ca c (sd_sh c 19).2 = (sd_fm c 8 (0, 12)).1) && decide ((sd_sh c 19).2 = (sd_fm c 8 (0, 12)).2)
def sd_oks (a : Nat) : Nat → Bool
  | 0 => true
  | n + 1 => sd_ok (a + n) && sd_oks a n
theorem sd_ok_0 : sd_oks 0 64 = true := by decide +kernel
theorem sd_ok_1 : sd_oks 64 64 = true := by decide +kernel
theorem sd_ok_2 : sd_oks 128 64 = true := by decide +kernel
theorem sd_ok_3 : sd_oks 192 64 = true := by decide +kernel
theorem sd_ok_4 : sd_oks 256 64 = true := by decide +kernel
theorem sd_ok_5 : sd_oks 320 64 = true := by decide +kernel
theorem sd_ok_6 : sd_oks 384 64 = true := by decide +kernel
theorem sd_ok_7 : sd_oks 448 64 = true := by decide +kernel
theorem sd_ok_8 : sd_oks 512 64 = true := by decide +kernel
theorem sd_ok_9 : sd_oks 576 64 = true := by decide +kernel
theorem sd_ok_10 : sd_oks 640 64 = true := by decide +kernel
theorem sd_ok_11 : sd_oks 704 64 = true := by decide +kernel
theorem sd_ok_12 : sd_oks 768 64 = true := by decide +kernel
theorem sd_ok_13 : sd_oks 832 64 = true := by decide +kernel
theorem sd_ok_14 : sd_oks 896 64 = true := by decide +kernel
theorem sd_ok_15 : sd_oks 960 64 = true := by decide +kernel
theorem sd_oks_at {a : Nat} : ∀ n, sd_oks a n = true → ∀ j, j < n → sd_ok (a + j) = true := by
  intro n
  induction n with
  | zero => exact fun _ j hj => absurd hj (Nat.not_lt_zero j)
  | succ n ih =>
    intro h j hj
    have h' : (sd_ok (a + n) && sd_oks a n) = true := h
    rw [Bool.and_eq_true] at h'
    by_cases e : j = n
    · rw [e]; exact h'.1
    · exact ih h'.2 j (by omega)
theorem sd_ok_all {c : Nat} (hc : c < 1024) : sd_ok c = true := by
  have h : ∀ k, k < 16 → sd_oks (64 * k) 64 = true
    | 0, _ => sd_ok_0
    | 1, _ => sd_ok_1
    | 2, _ => sd_ok_2
    | 3, _ => sd_ok_3
    | 4, _ => sd_ok_4
    | 5, _ => sd_ok_5
    | 6, _ => sd_ok_6
    | 7, _ => sd_ok_7
    | 8, _ => sd_ok_8
    | 9, _ => sd_ok_9
    | 10, _ => sd_ok_10
    | 11, _ => sd_ok_11
    | 12, _ => sd_ok_12
    | 13, _ => sd_ok_13
    | 14, _ => sd_ok_14
    | 15, _ => sd_ok_15
    | k + 16, h => absurd h (by omega)
  have g := sd_oks_at 64 (h (c / 64) (by omega)) (c % 64) (by omega)
  rw [show 64 * (c / 64) + c % 64 = c by omega] at g
  exact g
theorem sd_same {c : Nat} (hc : c < 1024) : sd_ca c (sd_sh c 19).2 = (sd_fm c 8 (0, 12)).1 ∧ (sd_sh c 19).2 = (sd_fm c 8 (0, 12)).2 := by
  have h := sd_ok_all hc
  unfold sd_ok at h
  rw [Bool.and_eq_true] at h
  exact ⟨of_decide_eq_true h.1, of_decide_eq_true h.2⟩
end
section
/-! X: code, decimal, units, comparing, reaching, reading, naming -/
def sx_T (T : Nat → Int64) : Prop := ∀ j, j < 19 → T j = lN (10 ^ j)
def sd_sg (h d t : Nat) : Int32 := if sd_L h t = sd_R d t then 0 else if sd_L h t < sd_R d t then (-1) else 1
theorem sd_sg_lt {h d t : Nat} (l : sd_L h t < sd_R d t) : sd_sg h d t = -1 := by
  unfold sd_sg
  rw [if_neg (Nat.ne_of_lt l), if_pos l]
theorem sd_sg_eq {h d t : Nat} (l : sd_L h t = sd_R d t) : sd_sg h d t = 0 := if_pos l
theorem sd_sg_gt {h d t : Nat} (l : sd_R d t < sd_L h t) : sd_sg h d t = 1 := by
  unfold sd_sg
  rw [if_neg (Nat.ne_of_gt l), if_neg (Nat.lt_asymm l)]
theorem sd_code (x : Int32) : (x < 0 ∨ 1023 < x) ∨ ∃ c, c < 1024 ∧ x = nI c := by
  by_cases h0 : x < 0
  · exact Or.inl (Or.inl h0)
  · by_cases h1 : 1023 < x
    · exact Or.inl (Or.inr h1)
    · obtain ⟨j, hj, e⟩ := nI_of2 (M := 1023) (n := 1023) (by decide) h0 (Int32.not_lt.mp h1)
      exact Or.inr ⟨j, by omega, e⟩
theorem sd_deci (x y : Int32) : (x < 0 ∨ 99999999 < x ∨ y < -12 ∨ 6 < y) ∨ ∃ d t, d ≤ 99999999 ∧ t < 19 ∧ x = nI d ∧ y = sd_q t := by
  by_cases h0 : x < 0
  · exact Or.inl (Or.inl h0)
  · by_cases h1 : 99999999 < x
    · exact Or.inl (Or.inr (Or.inl h1))
    · by_cases h2 : y < -12
      · exact Or.inl (Or.inr (Or.inr (Or.inl h2)))
      · by_cases h3 : 6 < y
        · exact Or.inl (Or.inr (Or.inr (Or.inr h3)))
        · obtain ⟨j, hj, e⟩ := nI_of2 (M := 99999999) (n := 99999999) (by decide) h0 (Int32.not_lt.mp h1)
          obtain ⟨t, ht, e2⟩ := sd_q_of (Int32.not_lt.mp h2) (Int32.not_lt.mp h3)
          exact Or.inr ⟨j, t, hj, ht, e, e2⟩
theorem sx_isCode0 (post : Int32 → Prop) {x : Int32} (h : x < 0 ∨ 1023 < x) (hp : post 0) : wpX_isCode post x :=
  br_c (fun _ => hp) (fun h0 => br_c (fun _ => hp) (fun h1 => absurd h (fun z => z.elim h0 h1)))
theorem sx_isCode1 (post : Int32 → Prop) {c : Nat} (h : c < 1024) (hp : post 1) : wpX_isCode post (nI c) :=
  br_f (nI_pos (by omega)) (br_f (nI_nlt (a := 1023) (b := c) (by omega) (by decide)) hp)
theorem sx_isDec0 (post : Int32 → Prop) {x y : Int32} (h : x < 0 ∨ 99999999 < x ∨ y < -12 ∨ 6 < y) (hp : post 0) : wpX_isDecimal post x y :=
  br_c (fun _ => hp) (fun h0 => br_c (fun _ => hp) (fun h1 => br_c (fun _ => hp) (fun h2 => br_c (fun _ => hp) (fun h3 => absurd h (fun z => z.elim h0 (fun z => z.elim h1 (fun z => z.elim h2 h3)))))))
theorem sx_isDec1 (post : Int32 → Prop) {d t : Nat} (hd : d ≤ 99999999) (ht : t < 19) (hp : post 1) : wpX_isDecimal post (nI d) (sd_q t) :=
  br_f (nI_pos (by omega)) (br_f (nI_nlt (a := 99999999) (b := d) (by omega) (by decide)) (br_f (Int32.not_lt.mpr (sd_q_lo t ht)) (br_f (Int32.not_lt.mpr (sd_q_hi t ht)) hp)))
theorem sd_shc : ∀ e, e < 17 → 0 < e → (((nI e - 1) &&& 31).toBitVec.smod 32).toNat = e - 1 := by decide +kernel
theorem sd_uv {c : Nat} (hc : c < 1025) (h : ¬ c < 64) : ((64 : Int32) + nI (c % 64)) <<< ((nI (c / 64) - 1) &&& 31) = nI (sd_v c) := by
  have e : sd_v c = (64 + c % 64) * 2 ^ (c / 64 - 1) := if_neg h
  have b := sd_v_le c hc
  rw [e] at b ⊢
  rw [show (64 : Int32) + nI (c % 64) = nI (64 + c % 64) from nI_add 64 _]
  exact pk_shlN _ _ (sd_shc _ (by omega) (by omega)) (Nat.lt_of_le_of_lt b (by decide))
theorem sd_vs {c : Nat} (h : c < 64) : sd_v c = c := if_pos h
theorem sx_unitsOf (post : Int32 → Prop) {c : Nat} (hc : c < 1025) (hp : post (nI (sd_v c))) : wpX_unitsOf post (nI c) := by
  refine ⟨by decide, nm_r (pk_div (d := 64) (by omega) (by decide) (by decide)) ⟨by decide, nm_r (pk_rem (d := 64) (by omega) (by decide) (by decide)) ?_⟩⟩
  by_cases h : c < 64
  · rw [sd_vs h] at hp
    rw [show c / 64 = 0 by omega, show c % 64 = c by omega]
    exact br_t nI_0 hp
  · refine br_f (nI_ne0 (by omega) (by omega)) ?_
    rw [sd_uv hc h]
    exact hp
theorem sd_L_bd {h : Nat} (t : Nat) (hh : h ≤ 4194304) : sd_L h t < 2 ^ 63 := by
  unfold sd_L
  split
  · exact Nat.lt_of_le_of_lt (Nat.mul_le_mul hh (Nat.pow_le_pow_right (n := 10) (by decide) (show 12 - t ≤ 12 by omega))) (by decide)
  · exact Nat.lt_of_le_of_lt hh (by decide)
theorem sd_R_bd {d t : Nat} (hd : d ≤ 100000000) (ht : t < 19) : sd_R d t < 2 ^ 63 := by
  unfold sd_R
  split
  · exact Nat.lt_of_le_of_lt (Nat.mul_le_mul_left 1024 hd) (by decide)
  · exact Nat.lt_of_le_of_lt (Nat.mul_le_mul (Nat.mul_le_mul_left 1024 hd) (Nat.pow_le_pow_right (n := 10) (by decide) (show t - 12 ≤ 6 by omega))) (by decide)
theorem sx_cmp42 (post : Int32 → Prop) {A B : Nat} (fn fd fb : Int32) (T : Nat → Int64) (hA : A < 2 ^ 63) (hB : B < 2 ^ 63) (hp : post (if A = B then 0 else if A < B then (-1) else 1)) : wX_compareHalfUnits_42 post (lN A) (lN B) fn fd fb T := by
  by_cases e : A = B
  · rw [if_pos e] at hp
    exact br_t (by rw [e]) hp
  · rw [if_neg e] at hp
    refine br_f (fun z => e ((pk_lEQ hA hB).mp z)) ?_
    by_cases l : A < B
    · rw [if_pos l] at hp
      exact br_f (fun z => absurd ((pk_lLE hB hA).mp z) (by omega)) hp
    · rw [if_neg l] at hp
      exact br_t ((pk_lLE hB hA).mpr (by omega)) hp
theorem sx_cmp {T : Nat → Int64} (HT : sx_T T) (fn fd fb : Int32) (post : Int32 → Prop) {h d t : Nat} (hh : h ≤ 4194304) (hd : d ≤ 100000000) (ht : t < 19) (hp : post (sd_sg h d t)) : wpX_compareHalfUnits post (fn, fd, fb, T) (nI h) (nI d) (sd_q t) := by
  have e1 : 1024 * (nI d).toInt64 = lN (1024 * d) := by
    rw [nI_l (by omega)]
    exact lN_mul 1024 d
  have bL := sd_L_bd t hh
  have bR := sd_R_bd hd ht
  unfold sd_sg at hp
  refine nm_r e1 ?_
  by_cases k : t < 12
  · have q0 : ¬ 0 ≤ sd_q t := by rw [sd_q_ge t ht]; omega
    have eq := sd_q_n t k
    have eL : sd_L h t = h * 10 ^ (12 - t) := if_pos k
    have eR : sd_R d t = 1024 * d := if_pos k
    rw [eL, eR] at hp
    rw [eL] at bL
    rw [eR] at bR
    refine br_f q0 ⟨by rw [eq]; exact vp_in_nI (by omega) (by decide), nm_r (e' := lN (h * 10 ^ (12 - t))) ?_ ?_⟩
    · rw [eq, nI_clamp (by omega), HT _ (by omega), nI_l (by omega), lN_mul]
    · exact sx_cmp42 post fn fd fb T bL bR hp
  · have q0 : 0 ≤ sd_q t := by rw [sd_q_ge t ht]; omega
    have eq := sd_q_p t ht (by omega)
    have eL : sd_L h t = h := if_neg k
    have eR : sd_R d t = 1024 * d * 10 ^ (t - 12) := if_neg k
    rw [eL, eR] at hp
    rw [eL] at bL
    rw [eR] at bR
    refine br_t q0 ⟨by rw [eq]; exact vp_in_nI (by omega) (by decide), nm_r (e' := lN (1024 * d * 10 ^ (t - 12))) ?_ ?_⟩
    · rw [eq, nI_clamp (by omega), HT _ (by omega), lN_mul]
    · rw [nI_l (by omega)]
      exact sx_cmp42 post fn fd fb T bL bR hp
theorem sx_reaches {T : Nat → Int64} (HT : sx_T T) (fn fd fb : Int32) (post : Int32 → Prop) {c d t : Nat} (hc : c < 1025) (hd : d ≤ 100000000) (ht : t < 19) (hp : post (if sd_re c d t = true then 1 else 0)) : wpX_reaches post (fn, fd, fb, T) (nI c) (nI d) (sd_q t) := by
  by_cases z : c = 0
  · subst z
    rw [if_pos (sd_re_0 d t)] at hp
    exact br_t nI_0 hp
  · refine br_f (nI_ne0 (by omega) (by omega)) ?_
    obtain ⟨a, rfl⟩ : ∃ a, c = a + 1 := ⟨c - 1, by omega⟩
    rw [nI_pred a]
    refine sx_unitsOf _ (by omega) (sx_unitsOf _ hc (nm_r (show nI (sd_v a) + nI (sd_v (a + 1)) = nI (sd_b (a + 1)) from nI_add _ _) (sx_cmp HT fn fd fb _ (sd_b_le hc) hd ht ?_)))
    rcases Nat.lt_trichotomy (sd_L (sd_b (a + 1)) t) (sd_R d t) with l | l | l
    · rw [sd_sg_lt l]
      rw [if_pos (sd_re_iff.mpr (Or.inr (Or.inl l)))] at hp
      exact br_t (by decide) hp
    · rw [sd_sg_eq l]
      refine br_f (by decide) (br_t rfl ⟨by decide, ?_⟩)
      rw [show nI (a + 1) - nI (a + 1) / 2 * 2 = nI ((a + 1) % 2) from pk_rem (d := 2) (by omega) (by decide) (by decide)]
      by_cases p : (a + 1) % 2 = 0
      · rw [if_pos (sd_re_iff.mpr (Or.inr (Or.inr ⟨l, p⟩)))] at hp
        rw [p]
        exact br_t nI_0 hp
      · have r : ¬ sd_re (a + 1) d t = true := by
          rw [sd_re_iff]
          generalize sd_L (sd_b (a + 1)) t = A at *
          generalize sd_R d t = B at *
          omega
        rw [if_neg r] at hp
        exact br_f (nI_ne0 (by omega) (by omega)) hp
    · have r : ¬ sd_re (a + 1) d t = true := by
        rw [sd_re_iff]
        generalize sd_L (sd_b (a + 1)) t = A at *
        generalize sd_R d t = B at *
        omega
      rw [if_neg r] at hp
      rw [sd_sg_gt l]
      exact br_f (by decide) (br_f (by decide) hp)
theorem sd_bit : ∀ b, b < 11 → (1 : Int32) <<< (nI b &&& 31) = nI (2 ^ b) := by decide +kernel
theorem sx_cn6 {T : Nat → Int64} (HT : sx_T T) (fn fd fb : Int32) (post : Int32 → Prop) {d t : Nat} (hd : d ≤ 100000000) (ht : t < 19) : ∀ b x n, b < n → b < 11 → x + 2 ^ b ≤ 1024 → post (nI (sd_cb d t b x)) → wX_codeNearest_6 post (nI d) (sd_q t) fn fd fb T n (nI x) (nI b + (-1)) := by
  intro b
  induction b with
  | zero =>
    intro x n hn _ _ hp
    obtain ⟨m, rfl⟩ : ∃ m, n = m + 1 := ⟨n - 1, by omega⟩
    exact br_t (by decide) hp
  | succ b ih =>
    intro x n hn hb hx hp
    obtain ⟨m, rfl⟩ : ∃ m, n = m + 1 := ⟨n - 1, by omega⟩
    have p : 2 ^ (b + 1) = 2 ^ b + 2 ^ b := by rw [Nat.pow_succ]; omega
    have q : 0 < 2 ^ b := Nat.two_pow_pos b
    rw [pk_m1]
    have hp' : post (nI (sd_cb d t b (if sd_re (x + 2 ^ b) d t = true then x + 2 ^ b else x))) := hp
    refine br_f (nI_pos (by omega)) (nm_r (e' := nI (x + 2 ^ b)) (by rw [sd_bit b (by omega), nI_add]) (sx_reaches HT fn fd fb _ (by omega) hd ht ?_))
    by_cases r : sd_re (x + 2 ^ b) d t = true
    · rw [if_pos r] at hp' ⊢
      exact br_f (by decide) (nm_e (ih _ m (by omega) (by omega) (by omega) hp'))
    · rw [if_neg r] at hp' ⊢
      exact br_t rfl (nm_e (ih _ m (by omega) (by omega) (by omega) hp'))
theorem sx_cn {T : Nat → Int64} (HT : sx_T T) (fn fd fb : Int32) (post : Int32 → Prop) {d t : Nat} (hd : d ≤ 100000000) (ht : t < 19) (hp : post (nI (sd_rd d t))) : wpX_codeNearest post (fn, fd, fb, T) (nI d) (sd_q t) := by
  have h := sx_cn6 HT fn fd fb post hd ht 10 0 11 (by decide) (by decide) (by decide) hp
  rw [show nI 10 + (-1) = 9 by decide +kernel] at h
  exact ⟨11, h⟩
theorem sx_nm {T : Nat → Int64} (HT : sx_T T) (fn fd fb : Int32) (post : Int32 → Prop) {c d t : Nat} (hc : c < 1024) (hd : d ≤ 100000000) (ht : t < 19) (hp : post (if sd_nm c d t = true then 1 else 0)) : wpX_isNamedBy post (fn, fd, fb, T) (nI c) (nI d) (sd_q t) := by
  unfold wpX_isNamedBy
  dsimp only
  refine sx_reaches (c := c) (d := d) (t := t) HT fn fd fb _ (by omega) hd ht ?_
  unfold sd_nm at hp
  by_cases r : sd_re c d t = true
  · rw [if_pos r]
    refine br_f (by decide) ?_
    rw [nI_1 c]
    refine sx_reaches HT fn fd fb _ (by omega) hd ht ?_
    by_cases s : sd_re (c + 1) d t = true
    · rw [if_neg (by rw [r, s]; decide)] at hp
      rw [if_pos s]
      exact br_f (by decide) hp
    · rw [if_pos (by rw [r, eq_false_of_ne_true s]; rfl)] at hp
      rw [if_neg s]
      exact br_t rfl hp
  · rw [if_neg (by rw [eq_false_of_ne_true r]; exact Bool.false_ne_true)] at hp
    rw [if_neg r]
    exact br_t rfl hp
end
section
/-! X: floor, digits, distance, better, candidate, short scale, rounding -/
def sd_g (c : Nat) (s : Nat × Nat) : Prop := s.2 < 19 ∧ s.1 ≤ 99999999 ∧ (s.1 = 0 ∨ sd_nm c s.1 s.2 = true)
theorem sd_g_bd {c : Nat} {s : Nat × Nat} (hc : c < 1024) (h : sd_g c s) : s.1 = 0 ∨ 512 * s.1 * 10 ^ s.2 ≤ 2097152000000000000 :=
  h.2.2.elim Or.inl (fun z => Or.inr (sd_nm_bd hc z))
theorem sd_cs_g {c t d b : Nat} (hd : d ≤ 100000000) (h : b ≤ 99999999 ∧ (b = 0 ∨ sd_nm c b t = true)) : sd_cs c t d b ≤ 99999999 ∧ (sd_cs c t d b = 0 ∨ sd_nm c (sd_cs c t d b) t = true) := by
  unfold sd_cs
  by_cases m : d % 10 = 0
  · rw [if_pos m]; exact h
  · rw [if_neg m]
    by_cases r : sd_nm c d t = true
    · rw [if_pos r]
      by_cases w : sd_bt c d t b t = true
      · rw [if_pos w]; exact ⟨by omega, Or.inr r⟩
      · rw [if_neg w]; exact h
    · rw [if_neg r]; exact h
theorem sd_ca_g (c t : Nat) : sd_ca c t ≤ 99999999 ∧ (sd_ca c t = 0 ∨ sd_nm c (sd_ca c t) t = true) := by
  unfold sd_ca
  by_cases z : c = 0
  · rw [if_pos z]; exact ⟨by omega, Or.inl rfl⟩
  · rw [if_neg z]
    by_cases k : 99999999 < sd_fl c t
    · rw [if_pos k]; exact ⟨by omega, Or.inl rfl⟩
    · rw [if_neg k]
      exact sd_cs_g (by omega) (sd_cs_g (by omega) ⟨by omega, Or.inl rfl⟩)
theorem sd_ss_g {c t : Nat} {s : Nat × Nat} (ht : t < 19) (h : sd_g c s) : sd_g c (sd_ss c t s) := by
  unfold sd_ss
  by_cases z : sd_ca c t = 0
  · rw [if_pos z]; exact h
  · rw [if_neg z]
    by_cases w : sd_bt c (sd_ca c t) t s.1 s.2 = true
    · rw [if_pos w]; exact ⟨ht, (sd_ca_g c t).1, (sd_ca_g c t).2⟩
    · rw [if_neg w]; exact h
theorem sd_sh_g (c : Nat) : ∀ n, n ≤ 19 → sd_g c (sd_sh c n) := by
  intro n
  induction n with
  | zero => exact fun _ => ⟨(by decide : (12 : Nat) < 19), (by decide : (0 : Nat) ≤ 99999999), Or.inl rfl⟩
  | succ n ih => exact fun h => sd_ss_g (by omega) (ih (by omega))
theorem sd_ab_le {a b m : Nat} (ha : a ≤ m) (hb : b ≤ m) : sd_ab a b ≤ m := by
  unfold sd_ab
  split <;> omega
theorem sd_v12 {c : Nat} (hc : c < 1025) : sd_v c * 10 ^ 12 ≤ 2097152000000000000 := by
  have h := sd_v_le c hc
  rw [show (10 : Nat) ^ 12 = 1000000000000 by decide]
  omega
theorem sd_ds_le {c d t : Nat} (hc : c < 1025) (hb : 512 * d * 10 ^ t ≤ 2097152000000000000) : sd_ds c d t ≤ 2097152000000000000 :=
  sd_ab_le (sd_v12 hc) hb
theorem sx_whole {T : Nat → Int64} (HT : sx_T T) (fn fd fb : Int32) (post : Int64 → Prop) {c t : Nat} (hc : c < 1025) (ht : t < 19) (hp : post (lN (sd_fl c t))) : wpX_wholePart post (fn, fd, fb, T) (nI c) (sd_q t) := by
  have hv := sd_v_le c hc
  unfold wpX_wholePart
  dsimp only
  refine sx_unitsOf _ hc ?_
  by_cases k : t < 12
  · have q0 : ¬ 0 ≤ sd_q t := by rw [sd_q_ge t ht]; omega
    have eq := sd_q_n t k
    have bL : sd_v c * 10 ^ (12 - t) < 2 ^ 63 := Nat.lt_of_le_of_lt (Nat.mul_le_mul hv (Nat.pow_le_pow_right (n := 10) (by decide) (show 12 - t ≤ 12 by omega))) (by decide)
    have ef : lN (sd_v c * 10 ^ (12 - t)) / 512 = lN (sd_fl c t) := by
      rw [show sd_fl c t = sd_v c * 10 ^ (12 - t) / 512 from if_pos k]
      exact pk_lDiv (b := 512) bL (by decide) (by decide)
    refine br_f q0 ⟨by rw [eq]; exact vp_in_nI (by omega) (by decide), by decide, ?_⟩
    rw [eq, nI_clamp (by omega), HT _ (by omega), nI_l (by omega), lN_mul, ef]
    exact hp
  · have q0 : 0 ≤ sd_q t := by rw [sd_q_ge t ht]; omega
    have eq := sd_q_p t ht (by omega)
    have bP : 512 * 10 ^ (t - 12) < 2 ^ 63 := Nat.lt_of_le_of_lt (Nat.mul_le_mul_left 512 (Nat.pow_le_pow_right (n := 10) (by decide) (show t - 12 ≤ 6 by omega))) (by decide)
    have pP : 0 < 512 * 10 ^ (t - 12) := Nat.mul_pos (by decide) (Nat.pow_pos (by decide))
    have eT : (512 : Int64) * T (sd_q t).toNatClampNeg = lN (512 * 10 ^ (t - 12)) := by
      rw [eq, nI_clamp (by omega), HT _ (by omega)]
      exact lN_mul 512 _
    have ef : lN (sd_v c) / lN (512 * 10 ^ (t - 12)) = lN (sd_fl c t) := by
      rw [show sd_fl c t = sd_v c / (512 * 10 ^ (t - 12)) from if_neg k]
      exact pk_lDiv (by omega) pP bP
    refine br_t q0 ⟨by rw [eq]; exact vp_in_nI (by omega) (by decide), ?_, ?_⟩
    · rw [eT]
      intro z
      have := (pk_lEQ (b := 0) bP (by decide)).mp z
      omega
    · rw [eT, nI_l (by omega), ef]
      exact hp
theorem sx_count2 {T : Nat → Int64} (HT : sx_T T) (fn fd fb : Int32) (post : Int32 → Prop) {d : Nat} (hd : d ≤ 100000000) (hp : post (nI (sd_dc d))) : ∀ m k n, sd_dc d - k = m → 1 ≤ k → k ≤ sd_dc d → m < n → wX_countDigits_2 post (nI d) fn fd fb T n (nI k) := by
  have b8 := (sd_dc_in d).2
  intro m
  induction m with
  | zero =>
    intro k n hm h1 hk hn
    obtain ⟨n, rfl⟩ : ∃ m, n = m + 1 := ⟨n - 1, by omega⟩
    have e : k = sd_dc d := by omega
    by_cases k8 : 8 ≤ k
    · exact br_t (nI_le (a := 8) k8 (by omega)) (e ▸ hp)
    · refine br_f (nI_ge (b := 8) (by omega) (by decide)) ⟨vp_in_nI (by omega) (by decide), ?_⟩
      have g := sd_dc_ge d k h1 (by omega)
      have bk : 10 ^ k < 2 ^ 63 := Nat.lt_of_le_of_lt (Nat.pow_le_pow_right (n := 10) (by decide) (show k ≤ 8 by omega)) (by decide)
      rw [nI_clamp (by omega), HT k (by omega), nI_l (by omega)]
      refine br_t ((pk_lLT (by omega) bk).mpr ?_) (e ▸ hp)
      have : ¬ k < sd_dc d := by omega
      rw [← g] at this
      omega
  | succ m ih =>
    intro k n hm h1 hk hn
    obtain ⟨n, rfl⟩ : ∃ m, n = m + 1 := ⟨n - 1, by omega⟩
    refine br_f (nI_ge (b := 8) (by omega) (by decide)) ⟨vp_in_nI (by omega) (by decide), ?_⟩
    have g := sd_dc_ge d k h1 (by omega)
    have bk : 10 ^ k < 2 ^ 63 := Nat.lt_of_le_of_lt (Nat.pow_le_pow_right (n := 10) (by decide) (show k ≤ 8 by omega)) (by decide)
    rw [nI_clamp (by omega), HT k (by omega), nI_l (by omega)]
    refine br_f (fun z => ?_) (nm_r (nI_1 k) (ih (k + 1) n (by omega) (by omega) (by omega) (by omega)))
    have z' := (pk_lLT (by omega) bk).mp z
    have : k < sd_dc d := by omega
    rw [← g] at this
    omega
theorem sx_count {T : Nat → Int64} (HT : sx_T T) (fn fd fb : Int32) (post : Int32 → Prop) {d : Nat} (hd : d ≤ 100000000) (hp : post (nI (sd_dc d))) : wpX_countDigits post (fn, fd, fb, T) (nI d) :=
  ⟨_, sx_count2 HT fn fd fb post hd hp (sd_dc d - 1) 1 (sd_dc d - 1 + 1) rfl (by decide) (sd_dc_in d).1 (by omega)⟩
theorem sx_dist {T : Nat → Int64} (HT : sx_T T) (fn fd fb : Int32) (post : Int64 → Prop) {c d t : Nat} (hc : c < 1025) (hd : d ≤ 100000000) (ht : t < 19) (hb : 512 * d * 10 ^ t ≤ 2097152000000000000) (hp : post (lN (sd_ds c d t))) : wpX_distanceFrom post (fn, fd, fb, T) (nI c) (nI d) (sd_q t) := by
  have hv := sd_v_le c hc
  have hA : sd_v c * 10 ^ 12 < 2 ^ 63 := Nat.lt_of_le_of_lt (sd_v12 hc) (by decide)
  have hB : 512 * d * 10 ^ t < 2 ^ 63 := Nat.lt_of_le_of_lt hb (by decide)
  unfold wpX_distanceFrom
  dsimp only
  refine sx_unitsOf _ hc (nm_r (e' := lN (sd_v c * 10 ^ 12)) ?_ ⟨?_, nm_r (e' := lN (512 * d * 10 ^ t)) ?_ ?_⟩)
  · rw [HT 12 (by decide), nI_l (by omega), lN_mul]
  · rw [sd_q_m12 t ht]
    exact vp_in_nI ht (by decide)
  · rw [sd_q_m12 t ht, nI_clamp (by omega), HT t ht, nI_l (by omega), show (512 : Int64) * lN d = lN (512 * d) from lN_mul 512 d, lN_mul]
  · unfold sd_ds sd_ab at hp
    generalize sd_v c * 10 ^ 12 = A at hA hp ⊢
    generalize 512 * d * 10 ^ t = B at hB hp ⊢
    by_cases l : A < B
    · rw [if_pos l] at hp
      refine br_f (fun z => absurd ((pk_lLE hB hA).mp z) (by omega)) ?_
      rw [lN_sub (by omega)]
      exact hp
    · rw [if_neg l] at hp
      refine br_t ((pk_lLE hB hA).mpr (by omega)) ?_
      rw [lN_sub (by omega)]
      exact hp
theorem sx_better {T : Nat → Int64} (HT : sx_T T) (fn fd fb : Int32) (post : Int32 → Prop) {c d t e s : Nat} (hc : c < 1025) (hd : d ≤ 100000000) (ht : t < 19) (he : e ≤ 100000000) (hs : s < 19) (hb : 512 * d * 10 ^ t ≤ 2097152000000000000) (hb2 : e = 0 ∨ 512 * e * 10 ^ s ≤ 2097152000000000000) (hp : post (if sd_bt c d t e s = true then 1 else 0)) : wpX_isBetter post (fn, fd, fb, T) (nI c) (nI d) (sd_q t) (nI e) (sd_q s) := by
  by_cases z : e = 0
  · subst z
    have w : sd_bt c d t 0 s = true := if_pos rfl
    rw [if_pos w] at hp
    exact br_t nI_0 hp
  · have hb3 := hb2.resolve_left z
    have l1 : sd_ds c d t < 2 ^ 63 := Nat.lt_of_le_of_lt (sd_ds_le hc hb) (by decide)
    have l2 : sd_ds c e s < 2 ^ 63 := Nat.lt_of_le_of_lt (sd_ds_le hc hb3) (by decide)
    have b1 := sd_dc_in d
    have b2 := sd_dc_in e
    unfold sd_bt at hp
    rw [if_neg z] at hp
    refine br_f (nI_ne0 (by omega) (by omega)) (sx_count HT fn fd fb _ hd (sx_count HT fn fd fb _ he ?_))
    by_cases k : sd_dc d = sd_dc e
    · rw [if_pos k] at hp
      refine br_t (by rw [k]) (sx_dist HT fn fd fb _ hc hd ht hb (sx_dist HT fn fd fb _ hc he hs hb3 ?_))
      by_cases l : sd_ds c d t = sd_ds c e s
      · rw [if_pos l] at hp
        refine br_t (by rw [l]) ?_
        by_cases m : d < e
        · rw [if_pos (decide_eq_true m)] at hp
          exact br_f (nI_ge m (by omega)) hp
        · rw [if_neg (fun y => m (of_decide_eq_true y))] at hp
          exact br_t (nI_le (by omega) (by omega)) hp
      · rw [if_neg l] at hp
        refine br_f (fun y => l ((pk_lEQ l1 l2).mp y)) ?_
        by_cases m : sd_ds c d t < sd_ds c e s
        · rw [if_pos (decide_eq_true m)] at hp
          exact br_f (fun y => absurd ((pk_lLE l2 l1).mp y) (by omega)) hp
        · rw [if_neg (fun y => m (of_decide_eq_true y))] at hp
          exact br_t ((pk_lLE l2 l1).mpr (by omega)) hp
    · rw [if_neg k] at hp
      refine br_f (fun y => k ((nI_eq (by omega) (by omega)).mp y)) ?_
      by_cases m : sd_dc d < sd_dc e
      · rw [if_pos (decide_eq_true m)] at hp
        exact br_f (nI_ge m (by omega)) hp
      · rw [if_neg (fun y => m (of_decide_eq_true y))] at hp
        exact br_t (nI_le (by omega) (by omega)) hp
theorem sx_cs {T : Nat → Int64} (HT : sx_T T) (fn fd fb : Int32) (post : Int32 → Prop) {c t f d b n : Nat} (hc : c < 1024) (ht : t < 19) (hf : f ≤ 99999999) (hdf : d ≤ f + 1) (hb : b ≤ 99999999 ∧ (b = 0 ∨ sd_nm c b t = true)) (H : wX_candidateAt_34 post (nI c) (sd_q t) (nI f) fn fd fb T n (nI (sd_cs c t d b)) (nI (d + 1))) : wX_candidateAt_34 post (nI c) (sd_q t) (nI f) fn fd fb T (n + 1) (nI b) (nI d) := by
  unfold sd_cs at H
  refine br_f (by rw [nI_1]; exact nI_nlt hdf (by omega)) ⟨by decide, ?_⟩
  rw [show nI d - nI d / 10 * 10 = nI (d % 10) from pk_rem (d := 10) (by omega) (by decide) (by decide)]
  by_cases m : d % 10 = 0
  · rw [if_pos m] at H
    rw [m]
    exact br_t nI_0 (br_t rfl (nm_r (nI_1 d) H))
  · rw [if_neg m] at H
    refine br_f (nI_ne0 (by omega) (by omega)) (sx_nm HT fn fd fb _ hc (by omega) ht ?_)
    by_cases r : sd_nm c d t = true
    · rw [if_pos r] at H ⊢
      refine br_f (by decide) (br_f (by decide) (sx_better HT fn fd fb _ (by omega) (by omega) ht (by omega) ht (sd_nm_bd hc r) (hb.2.elim Or.inl (fun y => Or.inr (sd_nm_bd hc y))) ?_))
      by_cases w : sd_bt c d t b t = true
      · rw [if_pos w] at H ⊢
        exact br_f (by decide) (nm_r (nI_1 d) H)
      · rw [if_neg w] at H ⊢
        exact br_t rfl (nm_r (nI_1 d) H)
    · rw [if_neg r] at H ⊢
      exact br_t rfl (br_t rfl (nm_r (nI_1 d) H))
theorem sx_ca {T : Nat → Int64} (HT : sx_T T) (fn fd fb : Int32) (post : Int32 → Prop) {c t : Nat} (hc : c < 1024) (ht : t < 19) (hp : post (nI (sd_ca c t))) : wpX_candidateAt post (fn, fd, fb, T) (nI c) (sd_q t) := by
  have hl := sd_fl_le (show c < 1025 by omega) t
  by_cases z : c = 0
  · subst z
    have e : sd_ca 0 t = 0 := if_pos rfl
    rw [e] at hp
    exact br_t nI_0 hp
  · unfold sd_ca at hp
    rw [if_neg z] at hp
    refine br_f (nI_ne0 (by omega) (by omega)) (sx_whole HT fn fd fb _ (by omega) ht ?_)
    by_cases k : 99999999 < sd_fl c t
    · rw [if_pos k] at hp
      exact br_f (fun y => absurd ((pk_lLE (b := 99999999) (by omega) (by decide)).mp y) (by omega)) hp
    · rw [if_neg k] at hp
      refine br_t ((pk_lLE (b := 99999999) (by omega) (by decide)).mpr (by omega)) ⟨3, ?_⟩
      rw [lN_i]
      have hf : sd_fl c t ≤ 99999999 := by omega
      refine sx_cs HT fn fd fb post (b := 0) hc ht hf (by omega) ⟨by omega, Or.inl rfl⟩ (sx_cs HT fn fd fb post hc ht hf (by omega) (sd_cs_g (by omega) ⟨by omega, Or.inl rfl⟩) ?_)
      exact br_t (by rw [nI_1]; exact nI_lt (by omega) (by omega)) hp
theorem sx_ss8 {T : Nat → Int64} (HT : sx_T T) (fn fd fb : Int32) (post : Int32 → Prop) {c : Nat} (hc : c < 1024) (hp : post (sd_q (sd_sh c 19).2)) : ∀ m i n, i + m = 19 → m < n → wX_shortScale_8 post (nI c) fn fd fb T n (nI (sd_sh c i).1) (sd_q (sd_sh c i).2) (sd_q i) := by
  intro m
  induction m with
  | zero =>
    intro i n hi hn
    obtain ⟨n, rfl⟩ : ∃ m, n = m + 1 := ⟨n - 1, by omega⟩
    have e : i = 19 := by omega
    subst e
    exact br_t (by decide) hp
  | succ m ih =>
    intro i n hi hn
    obtain ⟨n, rfl⟩ : ∃ m, n = m + 1 := ⟨n - 1, by omega⟩
    have h := ih (i + 1) n (by omega) (by omega)
    have g := sd_sh_g c i (by omega)
    have ga := sd_ca_g c i
    rw [show sd_sh c (i + 1) = sd_ss c i (sd_sh c i) from rfl] at h
    generalize sd_sh c i = s at h g ⊢
    have gb := sd_g_bd hc g
    obtain ⟨g1, g2, g3⟩ := g
    unfold sd_ss at h
    refine br_f (Int32.not_lt.mpr (sd_q_hi i (by omega))) (sx_ca HT fn fd fb _ hc (by omega) ?_)
    by_cases z : sd_ca c i = 0
    · rw [if_pos z] at h
      rw [z]
      exact br_t nI_0 (nm_r (sd_q_s i) h)
    · rw [if_neg z] at h
      refine br_f (nI_ne0 (by omega) (by omega)) (sx_better HT fn fd fb _ (by omega) (by omega) (by omega) (by omega) g1 (sd_nm_bd hc (ga.2.resolve_left z)) gb ?_)
      by_cases w : sd_bt c (sd_ca c i) i s.1 s.2 = true
      · rw [if_pos w] at h ⊢
        exact br_f (by decide) (nm_r (sd_q_s i) h)
      · rw [if_neg w] at h ⊢
        exact br_t rfl (nm_r (sd_q_s i) h)
theorem sx_ss {T : Nat → Int64} (HT : sx_T T) (fn fd fb : Int32) (post : Int32 → Prop) {c : Nat} (hc : c < 1024) (hp : post (sd_q (sd_sh c 19).2)) : wpX_shortScale post (fn, fd, fb, T) (nI c) := by
  have h := sx_ss8 HT fn fd fb post hc hp 19 0 20 (by decide) (by decide)
  rw [show sd_sh c 0 = (0, 12) from rfl] at h
  dsimp only at h
  rw [sd_q_z, sd_q_0, nI_0] at h
  exact ⟨20, h⟩
end
section
/-! X: rounding, places, spare -/
def sd_wr (c p : Nat) : Nat := if 256 < sd_v c * 10 ^ p % 512 then sd_v c * 10 ^ p / 512 + 1 else if sd_v c * 10 ^ p % 512 = 256 then (if sd_v c * 10 ^ p / 512 % 2 = 1 then sd_v c * 10 ^ p / 512 + 1 else sd_v c * 10 ^ p / 512) else sd_v c * 10 ^ p / 512
def sd_pf (c : Nat) : Nat → Nat → Nat
  | 0, _ => 5
  | k + 1, p => if sd_wr c p ≤ 99999999 then (if sd_nm c (sd_wr c p) (12 - p) = true then p else sd_pf c k (p + 1)) else sd_pf c k (p + 1)
theorem sd_vp_le {c p : Nat} (hc : c < 1025) (hp : p < 6) : sd_v c * 10 ^ p ≤ 209715200000 :=
  Nat.le_trans (Nat.mul_le_mul (sd_v_le c hc) (Nat.pow_le_pow_right (n := 10) (by decide) (show p ≤ 5 by omega))) (by decide)
theorem sd_wr_le {c p : Nat} (hc : c < 1025) (hp : p < 6) : sd_wr c p ≤ 409600001 := by
  have h := sd_vp_le hc hp
  unfold sd_wr
  generalize sd_v c * 10 ^ p = A at h ⊢
  have h2 : A / 512 ≤ 409600000 := by omega
  generalize A / 512 = B at h2 ⊢
  repeat' split
  all_goals omega
theorem sx_round {T : Nat → Int64} (HT : sx_T T) (fn fd fb : Int32) (post : Int32 → Prop) {c p : Nat} (hc : c < 1025) (hpp : p < 6) (hp : post (nI (sd_wr c p))) : wpX_roundedTo post (fn, fd, fb, T) (nI c) (nI p) := by
  have hv := sd_v_le c hc
  have h := sd_vp_le hc hpp
  unfold sd_wr at hp
  unfold wpX_roundedTo
  dsimp only
  refine sx_unitsOf _ hc ⟨vp_in_nI (by omega) (by decide), nm_r (e' := lN (sd_v c * 10 ^ p)) ?_ ?_⟩
  · rw [nI_clamp (by omega), HT p (by omega), nI_l (by omega), lN_mul]
  generalize sd_v c * 10 ^ p = A at h hp ⊢
  have h2 : A / 512 ≤ 409600000 := by omega
  refine ⟨by decide, nm_r (e' := nI (A / 512)) ?_ ⟨by decide, nm_r (e' := nI (A % 512 * 2)) ?_ ?_⟩⟩
  · rw [show lN A / 512 = lN (A / 512) from pk_lDiv (b := 512) (by omega) (by decide) (by decide), lN_i]
  · rw [show lN A - lN A / 512 * 512 = lN (A % 512) from pk_lRem (b := 512) (by omega) (by decide) (by decide), lN_i]
    exact pk_mul _ 2
  · by_cases k : 256 < A % 512
    · rw [if_pos k] at hp
      refine br_t (nI_lt (a := 512) (by omega) (by omega)) (br_f (by decide) ?_)
      rw [nI_1]
      exact hp
    · rw [if_neg k] at hp
      refine br_f (nI_nlt (a := 512) (by omega) (by decide)) ?_
      by_cases l : A % 512 = 256
      · rw [if_pos l] at hp
        refine br_t (by rw [l]; decide) ⟨by decide, ?_⟩
        rw [show nI (A / 512) - nI (A / 512) / 2 * 2 = nI (A / 512 % 2) from pk_rem (d := 2) (by omega) (by decide) (by decide)]
        by_cases m : A / 512 % 2 = 1
        · rw [if_pos m] at hp
          refine br_t (by rw [m]; decide) (br_f (by decide) ?_)
          rw [nI_1]
          exact hp
        · rw [if_neg m] at hp
          exact br_f (fun y => m ((nI_eq (b := 1) (by omega) (by decide)).mp y)) (br_t rfl hp)
      · rw [if_neg l] at hp
        exact br_f (fun y => l (by have := (nI_eq (b := 512) (by omega) (by decide)).mp y; omega)) (br_t rfl hp)
theorem sx_places11 {T : Nat → Int64} (HT : sx_T T) (fn fd fb : Int32) (post : Int32 → Prop) {c : Nat} (hc : c < 1024) : ∀ k p n, p + k = 5 → k < n → post (nI (sd_pf c k p)) → wX_places_11 post (nI c) fn fd fb T n (nI p) := by
  intro k
  induction k with
  | zero =>
    intro p n hp hn h
    obtain ⟨n, rfl⟩ : ∃ m, n = m + 1 := ⟨n - 1, by omega⟩
    exact br_t (nI_le (a := 5) (by omega) (by omega)) h
  | succ k ih =>
    intro p n hp hn h
    obtain ⟨n, rfl⟩ : ∃ m, n = m + 1 := ⟨n - 1, by omega⟩
    have hw := sd_wr_le (show c < 1025 by omega) (show p < 6 by omega)
    have h' : post (nI (if sd_wr c p ≤ 99999999 then (if sd_nm c (sd_wr c p) (12 - p) = true then p else sd_pf c k (p + 1)) else sd_pf c k (p + 1))) := h
    have hi := ih (p + 1) n (by omega) (by omega)
    refine br_f (nI_ge (b := 5) (by omega) (by decide)) (sx_round HT fn fd fb _ (by omega) (by omega) ?_)
    rw [sd_q_mi p (by omega)]
    by_cases w : sd_wr c p ≤ 99999999
    · rw [if_pos w] at h'
      refine sx_isDec1 _ w (by omega) (br_f (by decide) (sx_nm HT fn fd fb _ hc (by omega) (by omega) ?_))
      by_cases r : sd_nm c (sd_wr c p) (12 - p) = true
      · rw [if_pos r] at h' ⊢
        exact br_f (by decide) h'
      · rw [if_neg r] at h' ⊢
        exact br_t rfl (nm_r (nI_1 p) (hi h'))
    · rw [if_neg w] at h'
      exact sx_isDec0 _ (Or.inr (Or.inl (nI_lt (a := 99999999) (by omega) (by omega)))) (br_t rfl (nm_r (nI_1 p) (hi h')))
theorem sx_spare20 {T : Nat → Int64} (HT : sx_T T) (fd fb : Int32) (post : Int32 → Prop) {d t : Nat} (hd : d ≤ 99999999) (ht : t < 19) : ∀ k n, k < n → k ≤ 8 → post (nI (sd_gr d t k)) → wX_spare_20 post (sd_q t) (nI (sd_rd d t)) (nI d) fd fb T n (nI k) := by
  intro k
  induction k with
  | zero =>
    intro n hn _ hp
    obtain ⟨n, rfl⟩ : ∃ m, n = m + 1 := ⟨n - 1, by omega⟩
    exact br_t (by decide) hp
  | succ k ih =>
    intro n hn hk hp
    obtain ⟨n, rfl⟩ : ∃ m, n = m + 1 := ⟨n - 1, by omega⟩
    have bP : 10 ^ (k + 1) < 2 ^ 63 := Nat.lt_of_le_of_lt (Nat.pow_le_pow_right (n := 10) (by decide) hk) (by decide)
    have pP : 0 < 10 ^ (k + 1) := Nat.pow_pos (by decide)
    have eT : T (nI (k + 1)).toNatClampNeg = lN (10 ^ (k + 1)) := by rw [nI_clamp (by omega), HT _ (by omega)]
    have hm := Nat.mod_le d (10 ^ (k + 1))
    have r1 := (sd_rd_spec (d - d % 10 ^ (k + 1)) t).1
    have r2 := (sd_rd_spec d t).1
    have hp' : post (nI (if sd_rd (d - d % 10 ^ (k + 1)) t = sd_rd d t then k + 1 else sd_gr d t k)) := hp
    refine br_f (nI_nle (by omega) (by omega)) ⟨vp_in_nI (by omega) (by decide), ?_, ?_⟩
    · rw [eT]
      intro z
      have := (pk_lEQ (b := 0) bP (by decide)).mp z
      omega
    · refine nm_r (e' := nI (d % 10 ^ (k + 1))) ?_ ?_
      · rw [eT, nI_l (by omega), pk_lRem (by omega) pP bP, lN_i]
      · rw [pk_sub hm]
        refine sx_cn HT (nI d) fd fb _ (by omega) ht ?_
        by_cases e : sd_rd (d - d % 10 ^ (k + 1)) t = sd_rd d t
        · rw [if_pos e] at hp'
          exact br_t (by rw [e]) hp'
        · rw [if_neg e] at hp'
          exact br_f (fun y => e ((nI_eq (by omega) (by omega)).mp y)) (nm_r (pk_m1 k) (ih n (by omega) (by omega) hp'))
end
section
/-! Y: code, decimal, power, sign, reading, naming, digits, gap, writing -/
def sy_V (V : Nat → Int32) : Prop := ∀ c, c < 1025 → V c = nI (sd_v c)
theorem sy_isCode0 (sz bd bs : Int32) (V W : Nat → Int32) (post : Int32 → Prop) {x : Int32} (h : x < 0 ∨ 1023 < x) (hp : post 0) : wpY_isCode post (sz, bd, bs, V, W) x :=
  br_c (fun _ => hp) (fun h0 => br_c (fun _ => hp) (fun h1 => absurd h (fun z => z.elim h0 h1)))
theorem sy_isCode1 (sz bd bs : Int32) (V W : Nat → Int32) (post : Int32 → Prop) {c : Nat} (h : c < 1024) (hp : post 1) : wpY_isCode post (sz, bd, bs, V, W) (nI c) :=
  br_f (nI_pos (by omega)) (br_f (nI_nlt (a := 1023) (b := c) (by omega) (by decide)) hp)
theorem sy_isDec0 (sz bd bs : Int32) (V W : Nat → Int32) (post : Int32 → Prop) {x y : Int32} (h : x < 0 ∨ 99999999 < x ∨ y < -12 ∨ 6 < y) (hp : post 0) : wpY_isDecimal post (sz, bd, bs, V, W) x y :=
  br_c (fun _ => hp) (fun h0 => br_c (fun _ => hp) (fun h1 => br_c (fun _ => hp) (fun h2 => br_c (fun _ => hp) (fun h3 => absurd h (fun z => z.elim h0 (fun z => z.elim h1 (fun z => z.elim h2 h3)))))))
theorem sy_isDec1 (sz bd bs : Int32) (V W : Nat → Int32) (post : Int32 → Prop) {d t : Nat} (hd : d ≤ 99999999) (ht : t < 19) (hp : post 1) : wpY_isDecimal post (sz, bd, bs, V, W) (nI d) (sd_q t) :=
  br_f (nI_pos (by omega)) (br_f (nI_nlt (a := 99999999) (b := d) (by omega) (by decide)) (br_f (Int32.not_lt.mpr (sd_q_lo t ht)) (br_f (Int32.not_lt.mpr (sd_q_hi t ht)) hp)))
theorem sy_pow5 (sz bd bs : Int32) (V W : Nat → Int32) (post : Int64 → Prop) {p : Nat} (hb : p < 2 ^ 31) (hp : post (lN (10 ^ p))) : ∀ m i n, i + m = p → m < n → wY_power_5 post (nI p) sz bd bs V W n (lN (10 ^ i)) (nI i) := by
  intro m
  induction m with
  | zero =>
    intro i n hi hn
    obtain ⟨n, rfl⟩ : ∃ m, n = m + 1 := ⟨n - 1, by omega⟩
    have e : i = p := by omega
    subst e
    exact br_t (nI_le (by omega) hb) hp
  | succ m ih =>
    intro i n hi hn
    obtain ⟨n, rfl⟩ : ∃ m, n = m + 1 := ⟨n - 1, by omega⟩
    have e : (10 : Int64) * lN (10 ^ i) = lN (10 ^ (i + 1)) := by
      rw [Nat.pow_succ, Nat.mul_comm (10 ^ i) 10]
      exact lN_mul 10 _
    exact br_f (nI_ge (by omega) hb) (nm_r e (nm_r (nI_1 i) (ih (i + 1) n (by omega) (by omega))))
theorem sy_pow (sz bd bs : Int32) (V W : Nat → Int32) (post : Int64 → Prop) {p : Nat} (hb : p < 2 ^ 31) (hp : post (lN (10 ^ p))) : wpY_power post (sz, bd, bs, V, W) (nI p) :=
  ⟨p + 1, sy_pow5 sz bd bs V W post hb hp p 0 (p + 1) (by omega) (by omega)⟩
theorem sy_47 (sz bd bs : Int32) (V W : Nat → Int32) (post : Int32 → Prop) {A B : Nat} (hA : A < 2 ^ 63) (hB : B < 2 ^ 63) (hp : post (if A = B then 0 else if A < B then (-1) else 1)) : wY_sign_47 post (lN A) (lN B) sz bd bs V W := by
  by_cases l : A < B
  · rw [if_neg (by omega), if_pos l] at hp
    exact br_f (fun y => absurd ((pk_lLE hB hA).mp y) (by omega)) hp
  · refine br_t ((pk_lLE hB hA).mpr (by omega)) ?_
    by_cases e : A = B
    · rw [if_pos e] at hp
      exact br_t ((pk_lLE hA hB).mpr (by omega)) hp
    · rw [if_neg e, if_neg l] at hp
      exact br_f (fun y => absurd ((pk_lLE hA hB).mp y) (by omega)) hp
theorem sy_sign (sz bd bs : Int32) (V W : Nat → Int32) (post : Int32 → Prop) {h d t : Nat} (hh : h ≤ 4194304) (hd : d ≤ 100000000) (ht : t < 19) (hp : post (sd_sg h d t)) : wpY_sign post (sz, bd, bs, V, W) (lN h) (nI d) (sd_q t) := by
  have e1 : 1024 * (nI d).toInt64 = lN (1024 * d) := by
    rw [nI_l (by omega)]
    exact lN_mul 1024 d
  have bL := sd_L_bd t hh
  have bR := sd_R_bd hd ht
  unfold sd_sg at hp
  by_cases k : t < 12
  · have q0 : ¬ 0 ≤ sd_q t := by rw [sd_q_ge t ht]; omega
    have eL : sd_L h t = h * 10 ^ (12 - t) := if_pos k
    have eR : sd_R d t = 1024 * d := if_pos k
    rw [eL, eR] at hp
    rw [eL] at bL
    rw [eR] at bR
    refine br_f q0 ?_
    rw [sd_q_n t k]
    refine sy_pow sz bd bs V W _ (by omega) ?_
    rw [lN_mul]
    refine br_f q0 ?_
    rw [e1]
    exact sy_47 sz bd bs V W post bL bR hp
  · have q0 : 0 ≤ sd_q t := by rw [sd_q_ge t ht]; omega
    have eL : sd_L h t = h := if_neg k
    have eR : sd_R d t = 1024 * d * 10 ^ (t - 12) := if_neg k
    rw [eL, eR] at hp
    rw [eL] at bL
    rw [eR] at bR
    refine br_t q0 (br_t q0 ?_)
    rw [sd_q_p t ht (by omega)]
    refine sy_pow sz bd bs V W _ (by omega) ?_
    rw [e1, lN_mul]
    exact sy_47 sz bd bs V W post bL bR hp
theorem sy_bV {V : Nat → Int32} (HV : sy_V V) {x : Nat} (hx : x < 1024) : (V (nI x).toNatClampNeg + V (nI x + 1).toNatClampNeg).toInt64 = lN (sd_b (x + 1)) := by
  have h := sd_b_le (show x + 1 < 1025 by omega)
  rw [sd_b_s] at h ⊢
  rw [nI_1, nI_clamp (by omega), nI_clamp (by omega), HV x (by omega), HV (x + 1) (by omega), nI_add, nI_l (by omega)]
theorem sd_2rem (x : Nat) (hx : x < 2 ^ 31) : nI x - nI x / 2 * 2 = nI (x % 2) := pk_rem (d := 2) hx (by decide) (by decide)
theorem sy_read13 (sz bd bs : Int32) {V : Nat → Int32} (HV : sy_V V) (W : Nat → Int32) (post : Int32 → Prop) {d t : Nat} (hd : d ≤ 100000000) (ht : t < 19) (hp : post (nI (sd_rd d t))) : ∀ m x n, x + m = sd_rd d t → m < n → wY_read_13 post (nI d) (sd_q t) sz bd bs V W n (nI x) := by
  obtain ⟨s1, s2, s3⟩ := sd_rd_spec d t
  have sa := sd_re_all (sd_rd d t) (by omega) s2
  intro m
  induction m with
  | zero =>
    intro x n hx hn
    obtain ⟨n, rfl⟩ : ∃ m, n = m + 1 := ⟨n - 1, by omega⟩
    have e : x = sd_rd d t := by omega
    rw [← e] at hp s1 s3
    by_cases k : x = 1023
    · subst k
      exact br_t (nI_le (a := 1023) (by omega) (by decide)) hp
    · have r : ¬ sd_re (x + 1) d t = true := by rw [s3.resolve_left k]; decide
      rw [sd_re_iff] at r
      refine br_f (nI_ge (b := 1023) (by omega) (by decide)) ⟨vp_in_nI (by omega) (by decide), by rw [nI_1]; exact vp_in_nI (by omega) (by decide), ?_⟩
      rw [sy_bV HV (by omega)]
      refine sy_sign sz bd bs V W _ (sd_b_le (by omega)) hd ht ?_
      rcases Nat.lt_trichotomy (sd_L (sd_b (x + 1)) t) (sd_R d t) with l | l | l
      · exact absurd (Or.inr (Or.inl l)) r
      · rw [sd_sg_eq l]
        refine br_f (by decide) (br_t rfl ⟨by decide, ?_⟩)
        have p : x % 2 = 0 := by
          have : ¬ (x + 1) % 2 = 0 := fun y => r (Or.inr (Or.inr ⟨l, y⟩))
          omega
        rw [sd_2rem x (by omega), p]
        exact br_t nI_0 hp
      · rw [sd_sg_gt l]
        exact br_t (by decide) hp
  | succ m ih =>
    intro x n hx hn
    obtain ⟨n, rfl⟩ : ∃ m, n = m + 1 := ⟨n - 1, by omega⟩
    have h := ih (x + 1) n (by omega) (by omega)
    have r := sa (x + 1) (by omega)
    rw [sd_re_iff] at r
    refine br_f (nI_ge (b := 1023) (by omega) (by decide)) ⟨vp_in_nI (by omega) (by decide), by rw [nI_1]; exact vp_in_nI (by omega) (by decide), ?_⟩
    rw [sy_bV HV (by omega)]
    refine sy_sign sz bd bs V W _ (sd_b_le (by omega)) hd ht ?_
    rcases Nat.lt_trichotomy (sd_L (sd_b (x + 1)) t) (sd_R d t) with l | l | l
    · rw [sd_sg_lt l]
      exact br_f (by decide) (br_f (by decide) (nm_r (nI_1 x) h))
    · rw [sd_sg_eq l]
      refine br_f (by decide) (br_t rfl ⟨by decide, ?_⟩)
      rw [sd_2rem x (by omega)]
      exact br_f (nI_ne0 (by omega) (by omega)) (nm_r (nI_1 x) h)
    · exact absurd r (by omega)
theorem sy_read (sz bd bs : Int32) {V : Nat → Int32} (HV : sy_V V) (W : Nat → Int32) (post : Int32 → Prop) {d t : Nat} (hd : d ≤ 99999999) (ht : t < 19) (hp : post (nI (sd_rd d t))) : wpY_read post (sz, bd, bs, V, W) (nI d) (sd_q t) := by
  unfold wpY_read
  dsimp only
  exact sy_isDec1 sz bd bs V W _ hd ht (br_f (by decide) ⟨sd_rd d t + 1, sy_read13 sz bd bs HV W post (by omega) ht hp (sd_rd d t) 0 (sd_rd d t + 1) (by omega) (by omega)⟩)
theorem sd_sg_in (h d t : Nat) : sd_sg h d t = -1 ∨ sd_sg h d t = 0 ∨ sd_sg h d t = 1 := by
  rcases Nat.lt_trichotomy (sd_L h t) (sd_R d t) with l | l | l
  · exact Or.inl (sd_sg_lt l)
  · exact Or.inr (Or.inl (sd_sg_eq l))
  · exact Or.inr (Or.inr (sd_sg_gt l))
theorem sd_re_sg {c d t : Nat} (h0 : c ≠ 0) : sd_re c d t = (decide (sd_sg (sd_b c) d t = -1) || (decide (sd_sg (sd_b c) d t = 0) && decide (c % 2 = 0))) := by
  rcases Nat.lt_trichotomy (sd_L (sd_b c) t) (sd_R d t) with l | l | l
  · rw [sd_sg_lt l, sd_re_iff.mpr (Or.inr (Or.inl l))]; rfl
  · rw [sd_sg_eq l]
    by_cases p : c % 2 = 0
    · rw [sd_re_iff.mpr (Or.inr (Or.inr ⟨l, p⟩)), decide_eq_true p]; rfl
    · have r : ¬ sd_re c d t = true := by rw [sd_re_iff]; omega
      rw [eq_false_of_ne_true r, decide_eq_false p]; rfl
  · have r : ¬ sd_re c d t = true := by rw [sd_re_iff]; omega
    rw [sd_sg_gt l, eq_false_of_ne_true r]; rfl
theorem sd_nre_sg (c d t : Nat) : (!sd_re (c + 1) d t) = (decide (sd_sg (sd_b (c + 1)) d t = 1) || (decide (sd_sg (sd_b (c + 1)) d t = 0) && decide (c % 2 = 0))) := by
  rw [sd_re_sg (by omega)]
  rcases sd_sg_in (sd_b (c + 1)) d t with e | e | e
  · rw [e]; rfl
  · rw [e]
    by_cases p : c % 2 = 0
    · rw [decide_eq_true p, decide_eq_false (show ¬ (c + 1) % 2 = 0 by omega)]; rfl
    · rw [decide_eq_false p, decide_eq_true (show (c + 1) % 2 = 0 by omega)]; rfl
  · rw [e]; rfl
theorem sy_67 (sz bd bs : Int32) (V W : Nat → Int32) (post : Int32 → Prop) {A B : Int32} (ev lo hi : Bool) (hA : A = -1 ∨ A = 0 ∨ A = 1) (hB : B = -1 ∨ B = 0 ∨ B = 1) (hlo : lo = (decide (B = -1) || (decide (B = 0) && ev))) (hhi : hi = (decide (A = 1) || (decide (A = 0) && ev))) (hp : post (if (lo && hi) = true then 1 else 0)) : wY_isName_67 post A B (if ev = true then 1 else 0) sz bd bs V W := by
  subst hlo hhi
  cases ev <;> rcases hA with rfl | rfl | rfl <;> rcases hB with rfl | rfl | rfl <;> simpa (decide := true) [wY_isName_67, wY_isName_84, wY_isName_88, wY_isName_89] using hp
theorem sy_54 (sz bd bs : Int32) (V W : Nat → Int32) (post : Int32 → Prop) {A B : Int32} {c : Nat} (hc : c < 1024) (lo hi : Bool) (hA : A = -1 ∨ A = 0 ∨ A = 1) (hB : B = -1 ∨ B = 0 ∨ B = 1) (hlo : lo = (decide (B = -1) || (decide (B = 0) && decide (c % 2 = 0)))) (hhi : hi = (decide (A = 1) || (decide (A = 0) && decide (c % 2 = 0)))) (hp : post (if (lo && hi) = true then 1 else 0)) : wY_isName_54 post (nI c) A B sz bd bs V W := by
  have h := sy_67 sz bd bs V W post (decide (c % 2 = 0)) lo hi hA hB hlo hhi hp
  refine ⟨by decide, ?_⟩
  rw [sd_2rem c (by omega)]
  by_cases p : c % 2 = 0
  · rw [if_pos (decide_eq_true p)] at h
    rw [p]
    exact br_t nI_0 h
  · rw [if_neg (fun y => p (of_decide_eq_true y))] at h
    exact br_f (nI_ne0 (by omega) (by omega)) h
theorem sy_nm (sz bd bs : Int32) {V : Nat → Int32} (HV : sy_V V) (W : Nat → Int32) (post : Int32 → Prop) {c d t : Nat} (hc : c < 1024) (hd : d ≤ 100000000) (ht : t < 19) (hp : post (if sd_nm c d t = true then 1 else 0)) : wpY_isName post (sz, bd, bs, V, W) (nI c) (nI d) (sd_q t) := by
  unfold sd_nm at hp
  refine ⟨vp_in_nI (by omega) (by decide), by rw [nI_1]; exact vp_in_nI (by omega) (by decide), ?_⟩
  rw [sy_bV HV (by omega)]
  refine sy_sign sz bd bs V W _ (sd_b_le (by omega)) hd ht ?_
  by_cases z : c = 0
  · subst z
    refine br_t nI_0 (sy_54 sz bd bs V W post (by omega) (sd_re 0 d t) (!sd_re (0 + 1) d t) (sd_sg_in _ _ _) (Or.inl rfl) (sd_re_0 d t) (sd_nre_sg 0 d t) hp)
  · refine br_f (nI_ne0 (by omega) (by omega)) ?_
    obtain ⟨a, rfl⟩ : ∃ a, c = a + 1 := ⟨c - 1, by omega⟩
    refine ⟨by rw [nI_pred]; exact vp_in_nI (by omega) (by decide), vp_in_nI (by omega) (by decide), ?_⟩
    have e : (V (nI (a + 1) - 1).toNatClampNeg + V (nI (a + 1)).toNatClampNeg).toInt64 = lN (sd_b (a + 1)) := by
      rw [nI_pred, ← nI_1 a]
      exact sy_bV HV (by omega)
    rw [e]
    exact sy_sign sz bd bs V W _ (sd_b_le (by omega)) hd ht (sy_54 sz bd bs V W post hc (sd_re (a + 1) d t) (!sd_re (a + 1 + 1) d t) (sd_sg_in _ _ _) (sd_sg_in _ _ _) (sd_re_sg (by omega)) (sd_nre_sg (a + 1) d t) hp)
theorem sy_dig7 (sz bd bs : Int32) (V W : Nat → Int32) (post : Int32 → Prop) {d : Nat} (hd : d < 100000000) (hp : post (nI (sd_dc d))) : ∀ m k n, sd_dc d - k = m → 1 ≤ k → k ≤ sd_dc d → m < n → wY_digitsOf_7 post sz bd bs V W n (nI k) (nI (d / 10 ^ k)) := by
  have b8 := (sd_dc_in d).2
  intro m
  induction m with
  | zero =>
    intro k n hm h1 hk hn
    obtain ⟨n, rfl⟩ : ∃ m, n = m + 1 := ⟨n - 1, by omega⟩
    have e : k = sd_dc d := by omega
    have g := sd_dc_gt hd k h1 (by omega)
    have z : d / 10 ^ k = 0 := Nat.div_eq_of_lt (by
      have : ¬ k < sd_dc d := by omega
      rw [← g] at this
      omega)
    rw [z]
    exact br_t (by decide) (e ▸ hp)
  | succ m ih =>
    intro k n hm h1 hk hn
    obtain ⟨n, rfl⟩ : ∃ m, n = m + 1 := ⟨n - 1, by omega⟩
    have g := (sd_dc_gt hd k h1 (by omega)).mpr (by omega)
    have pz : 0 < d / 10 ^ k := Nat.div_pos g (Nat.pow_pos (by decide))
    have lz : d / 10 ^ k ≤ d := Nat.div_le_self _ _
    have e : nI (d / 10 ^ k) / 10 = nI (d / 10 ^ (k + 1)) := by
      rw [Nat.pow_succ, ← Nat.div_div_eq_div_mul]
      exact pk_div (d := 10) (by omega) (by decide) (by decide)
    exact br_f (nI_nle pz (by omega)) (nm_r (nI_1 k) ⟨by decide, nm_r e (ih (k + 1) n (by omega) (by omega) (by omega) (by omega))⟩)
theorem sy_dig (sz bd bs : Int32) (V W : Nat → Int32) (post : Int32 → Prop) {d : Nat} (hd : d < 100000000) (hp : post (nI (sd_dc d))) : wpY_digitsOf post (sz, bd, bs, V, W) (nI d) := by
  have h := sy_dig7 sz bd bs V W post hd hp (sd_dc d - 1) 1 (sd_dc d - 1 + 1) rfl (by decide) (sd_dc_in d).1 (by omega)
  rw [Nat.pow_one] at h
  exact ⟨by decide, nm_r (pk_div (d := 10) (by omega) (by decide) (by decide)) ⟨_, h⟩⟩
theorem sd_neg {A B : Nat} (hA : A < 2 ^ 63) (h : B < A) : ¬ 0 ≤ lN B - lN A ∧ -(lN B - lN A) = lN (A - B) := by
  have e : -(lN B - lN A) = lN (A - B) := by
    rw [← lN_sub (by omega)]
    grind
  refine ⟨fun z => ?_, e⟩
  have e2 : lN B - lN A = -lN (A - B) := by
    rw [← e]
    grind
  rw [e2, Int64.le_iff_toInt_le, Int64.toInt_neg, pk_lT (by omega), show (0 : Int64).toInt = 0 from by decide, Int.bmod_eq_of_le (by omega) (by omega)] at z
  omega
theorem sy_gap (sz bd bs : Int32) {V : Nat → Int32} (HV : sy_V V) (W : Nat → Int32) (post : Int64 → Prop) {c d t : Nat} (hc : c < 1025) (hd : d ≤ 100000000) (ht : t < 19) (hb : 512 * d * 10 ^ t ≤ 2097152000000000000) (hp : post (lN (sd_ds c d t))) : wpY_gap post (sz, bd, bs, V, W) (nI c) (nI d) (sd_q t) := by
  have hv := sd_v_le c hc
  have hA : sd_v c * 10 ^ 12 < 2 ^ 63 := Nat.lt_of_le_of_lt (sd_v12 hc) (by decide)
  have hB : 512 * d * 10 ^ t < 2 ^ 63 := Nat.lt_of_le_of_lt hb (by decide)
  unfold wpY_gap
  dsimp only
  rw [sd_q_12 t ht]
  refine sy_pow sz bd bs V W _ (by omega) ⟨vp_in_nI hc (by decide), sy_pow (p := 12) sz bd bs V W _ (by decide) ?_⟩
  rw [nI_clamp (by omega), HV c hc, nI_l (by omega), nI_l (by omega), show (512 : Int64) * lN d = lN (512 * d) from lN_mul 512 d, lN_mul, lN_mul]
  unfold sd_ds sd_ab at hp
  generalize sd_v c * 10 ^ 12 = A at hA hp ⊢
  generalize 512 * d * 10 ^ t = B at hB hp ⊢
  by_cases l : A < B
  · rw [if_pos l] at hp
    exact nm_r (lN_sub (by omega)) (br_t ((pk_lLE (a := 0) (by decide) (by omega)).mpr (by omega)) hp)
  · rw [if_neg l] at hp
    by_cases k : B < A
    · obtain ⟨n1, n2⟩ := sd_neg hA k
      refine nm_e (br_f n1 ?_)
      rw [n2]
      exact hp
    · rw [show A - B = B - A by omega] at hp
      exact nm_r (lN_sub (by omega)) (br_t ((pk_lLE (a := 0) (by decide) (by omega)).mpr (by omega)) hp)
theorem sy_write (sz bd bs : Int32) {V : Nat → Int32} (HV : sy_V V) (W : Nat → Int32) (post : Int32 → Prop) {c p : Nat} (hc : c < 1025) (hpp : p < 6) (hp : post (nI (sd_wr c p))) : wpY_write post (sz, bd, bs, V, W) (nI c) (nI p) := by
  have hv := sd_v_le c hc
  have h := sd_vp_le hc hpp
  unfold sd_wr at hp
  refine ⟨vp_in_nI hc (by decide), sy_pow sz bd bs V W _ (by omega) (nm_r (e' := lN (sd_v c * 10 ^ p)) ?_ ?_)⟩
  · rw [nI_clamp (by omega), HV c hc, nI_l (by omega), lN_mul]
  generalize sd_v c * 10 ^ p = A at h hp ⊢
  have h2 : A / 512 ≤ 409600000 := by omega
  refine ⟨by decide, nm_r (e' := lN (A / 512)) (pk_lDiv (b := 512) (by omega) (by decide) (by decide)) ⟨by decide, nm_r (e' := lN (A % 512)) (pk_lRem (b := 512) (by omega) (by decide) (by decide)) ?_⟩⟩
  have u0 : (lN (A / 512)).toInt32 = nI (A / 512) := lN_i _
  have u1 : (lN (A / 512) + 1).toInt32 = nI (A / 512 + 1) := by rw [lN_1]; exact lN_i _
  by_cases k : 256 < A % 512
  · rw [if_pos k, ← u1] at hp
    exact br_t ((pk_lLT (a := 256) (by decide) (by omega)).mpr k) (br_f (by decide) hp)
  · rw [if_neg k] at hp
    refine br_f (fun y => k ((pk_lLT (a := 256) (by decide) (by omega)).mp y)) ?_
    by_cases l : A % 512 = 256
    · rw [if_pos l] at hp
      refine br_t (by rw [l]; rfl) ⟨by decide, ?_⟩
      rw [show lN (A / 512) - lN (A / 512) / 2 * 2 = lN (A / 512 % 2) from pk_lRem (b := 2) (by omega) (by decide) (by decide)]
      by_cases m : A / 512 % 2 = 1
      · rw [if_pos m, ← u1] at hp
        exact br_t (by rw [m]; rfl) (br_f (by decide) hp)
      · rw [if_neg m, ← u0] at hp
        exact br_f (fun y => m ((pk_lEQ (b := 1) (by omega) (by decide)).mp y)) (br_t rfl hp)
    · rw [if_neg l, ← u0] at hp
      exact br_f (fun y => l ((pk_lEQ (b := 256) (by omega) (by decide)).mp y)) (br_t rfl hp)
end
section
/-! Y: the search for the short decimal, places -/
theorem sd_ys_g {c m t x : Nat} {s : Nat × Nat} (ht : t < 19) (h : sd_g c s) : sd_g c (sd_ys c m t x s) := by
  unfold sd_ys
  by_cases a : 99999999 < x
  · rw [if_pos a]; exact h
  · rw [if_neg a]
    by_cases b : x % 10 = 0
    · rw [if_pos b]; exact h
    · rw [if_neg b]
      by_cases e : sd_dc x = m
      · rw [if_pos e]
        by_cases r : sd_nm c x t = true
        · rw [if_pos r]
          by_cases w : sd_yb c x t s = true
          · rw [if_pos w]; exact ⟨ht, (by omega : x ≤ 99999999), Or.inr r⟩
          · rw [if_neg w]; exact h
        · rw [if_neg r]; exact h
      · rw [if_neg e]; exact h
theorem sd_ty_g {c m t : Nat} {s : Nat × Nat} (ht : t < 19) (h : sd_g c s) : sd_g c (sd_ty c m t s) := by
  unfold sd_ty
  by_cases a : 100000001 < sd_fl c t
  · rw [if_pos a]; exact h
  · rw [if_neg a]
    exact sd_ys_g ht (sd_ys_g ht (sd_ys_g ht (sd_ys_g ht h)))
theorem sd_fq_g {c m : Nat} {s : Nat × Nat} (h : sd_g c s) : ∀ n, n ≤ 19 → sd_g c (sd_fq c m n s) := by
  intro n
  induction n with
  | zero => exact fun _ => h
  | succ n ih => exact fun hn => sd_ty_g (by omega) (ih (by omega))
theorem sd_ys0 (c m t : Nat) (s : Nat × Nat) : sd_ys c m t 0 s = s := by
  unfold sd_ys
  rw [if_neg (by decide), if_pos (by decide)]
theorem sy_ys (sz : Int32) {V : Nat → Int32} (HV : sy_V V) (W : Nat → Int32) (post : SY → Prop) {c m t f d n : Nat} {s : Nat × Nat} (hc : c < 1024) (hm : m < 9) (ht : t < 19) (hf : f ≤ 100000001) (hd : d < f + 3) (g : sd_g c s) (H : wY_tryNear_61 post (nI c) (nI m) (sd_q t) (lN f) sz V W n (nI (d + 1)) (nI (sd_ys c m t d s).1) (sd_q (sd_ys c m t d s).2)) : wY_tryNear_61 post (nI c) (nI m) (sd_q t) (lN f) sz V W (n + 1) (nI d) (nI s.1) (sd_q s.2) := by
  have gb := sd_g_bd hc g
  obtain ⟨g1, g2, g3⟩ := g
  refine br_f (fun y => ?_) ?_
  · rw [nI_l (by omega), show lN f + 3 = lN (f + 3) from lN_add f 3] at y
    have := (pk_lLE (by omega) (by omega)).mp y
    omega
  by_cases z : d = 0
  · subst z
    rw [sd_ys0] at H
    exact br_t (by decide) (nm_r (nI_1 0) H)
  refine br_f (nI_nle (by omega) (by omega)) ?_
  unfold sd_ys at H
  by_cases a : 99999999 < d
  · rw [if_pos a] at H
    exact br_t (nI_lt (a := 99999999) a (by omega)) (nm_r (nI_1 d) H)
  rw [if_neg a] at H
  refine br_f (nI_nlt (a := 99999999) (by omega) (by decide)) ⟨by decide, ?_⟩
  rw [show nI d - nI d / 10 * 10 = nI (d % 10) from pk_rem (d := 10) (by omega) (by decide) (by decide)]
  by_cases b : d % 10 = 0
  · rw [if_pos b] at H
    rw [b]
    exact br_t nI_0 (nm_r (nI_1 d) H)
  rw [if_neg b] at H
  have b8 := (sd_dc_in d).2
  refine br_f (nI_ne0 (by omega) (by omega)) (sy_dig sz (nI s.1) (sd_q s.2) V W _ (by omega) ?_)
  by_cases e : sd_dc d = m
  · rw [if_pos e] at H
    refine br_t (by rw [e]) (sy_nm sz (nI s.1) (sd_q s.2) HV W _ hc (by omega) ht ?_)
    by_cases r : sd_nm c d t = true
    · rw [if_pos r] at H ⊢
      have hb := sd_nm_bd hc r
      have l1 : sd_ds c d t ≤ 2097152000000000000 := sd_ds_le (by omega) hb
      refine br_f (by decide) (sy_gap sz (nI s.1) (sd_q s.2) HV W _ (by omega) (by omega) ht hb ?_)
      unfold sd_yb at H
      by_cases k : s.1 = 0
      · rw [if_pos k, if_pos rfl] at H
        refine br_t (by rw [k]; exact nI_0) (br_t ?_ (nm_r (nI_1 d) H))
        rw [lN_1]
        exact (pk_lLT (by omega) (by omega)).mpr (by omega)
      · rw [if_neg k] at H
        have l2 : sd_ds c s.1 s.2 ≤ 2097152000000000000 := sd_ds_le (by omega) (gb.resolve_left k)
        refine br_f (nI_ne0 (by omega) (by omega)) (sy_gap sz (nI s.1) (sd_q s.2) HV W _ (by omega) (by omega) g1 (gb.resolve_left k) ?_)
        by_cases l : sd_ds c d t < sd_ds c s.1 s.2
        · rw [decide_eq_true l] at H
          exact br_t ((pk_lLT (by omega) (by omega)).mpr l) (nm_r (nI_1 d) H)
        · rw [decide_eq_false l] at H
          refine br_f (fun y => l ((pk_lLT (by omega) (by omega)).mp y)) ?_
          by_cases o : sd_ds c d t = sd_ds c s.1 s.2
          · rw [decide_eq_true o] at H
            refine br_t (by rw [o]) ?_
            by_cases w : d < s.1
            · rw [decide_eq_true w] at H
              exact br_f (nI_ge w (by omega)) (nm_r (nI_1 d) H)
            · rw [decide_eq_false w] at H
              exact br_t (nI_le (by omega) (by omega)) (nm_r (nI_1 d) H)
          · rw [decide_eq_false o] at H
            exact br_f (fun y => o ((pk_lEQ (by omega) (by omega)).mp y)) (nm_r (nI_1 d) H)
    · rw [if_neg r] at H ⊢
      exact br_t rfl (nm_r (nI_1 d) H)
  · rw [if_neg e] at H
    exact br_f (fun y => e ((nI_eq (by omega) (by omega)).mp y)) (nm_r (nI_1 d) H)
theorem sy_42 (sz : Int32) {V : Nat → Int32} (HV : sy_V V) (W : Nat → Int32) (post : SY → Prop) {c m t : Nat} {s : Nat × Nat} (hc : c < 1024) (hm : m < 9) (ht : t < 19) (g : sd_g c s) (H : post (sz, nI (sd_ty c m t s).1, sd_q (sd_ty c m t s).2, V, W)) : wY_tryNear_42 post (nI c) (nI m) (sd_q t) (lN (sd_fl c t)) sz (nI s.1) (sd_q s.2) V W := by
  have hl := sd_fl_le (show c < 1025 by omega) t
  unfold sd_ty at H
  by_cases a : 100000001 < sd_fl c t
  · rw [if_pos a] at H
    exact br_f (fun y => absurd ((pk_lLE (b := 100000001) (by omega) (by decide)).mp y) (by omega)) H
  · rw [if_neg a] at H
    generalize sd_fl c t = f at *
    have hf : f ≤ 100000001 := by omega
    refine br_t ((pk_lLE (b := 100000001) (by omega) (by decide)).mpr hf) (nm_e ⟨5, ?_⟩)
    rw [lN_i]
    have last : ∀ s' : Nat × Nat, post (sz, nI s'.1, sd_q s'.2, V, W) → wY_tryNear_61 post (nI c) (nI m) (sd_q t) (lN f) sz V W 1 (nI (f + 3)) (nI s'.1) (sd_q s'.2) := by
      intro s' h'
      refine br_t ?_ h'
      rw [nI_l (by omega), show lN f + 3 = lN (f + 3) from lN_add f 3]
      exact (pk_lLE (by omega) (by omega)).mpr (by omega)
    have three : ∀ s' : Nat × Nat, sd_g c s' → post (sz, nI (sd_ys c m t (f + 2) (sd_ys c m t (f + 1) (sd_ys c m t f s'))).1, sd_q (sd_ys c m t (f + 2) (sd_ys c m t (f + 1) (sd_ys c m t f s'))).2, V, W) → wY_tryNear_61 post (nI c) (nI m) (sd_q t) (lN f) sz V W 4 (nI f) (nI s'.1) (sd_q s'.2) := fun s' g' h' =>
      sy_ys sz HV W post hc hm ht hf (by omega) g' (sy_ys sz HV W post hc hm ht hf (by omega) (sd_ys_g ht g') (sy_ys sz HV W post hc hm ht hf (by omega) (sd_ys_g ht (sd_ys_g ht g')) (last _ h')))
    by_cases z : f = 0
    · subst z
      rw [show 0 - 1 = 0 from rfl, sd_ys0] at H
      have h3 := three s g H
      refine br_f ?_ (br_t (by decide) (nm_r (e' := nI 0) (by decide) h3))
      decide
    · obtain ⟨a, rfl⟩ : ∃ a, f = a + 1 := ⟨f - 1, by omega⟩
      rw [nI_pred]
      exact sy_ys sz HV W post hc hm ht hf (by omega) g (three _ (sd_ys_g ht g) H)
theorem sy_ty (sz : Int32) {V : Nat → Int32} (HV : sy_V V) (W : Nat → Int32) (post : SY → Prop) {c m t : Nat} {s : Nat × Nat} (hc : c < 1024) (hm : m < 9) (ht : t < 19) (g : sd_g c s) (H : post (sz, nI (sd_ty c m t s).1, sd_q (sd_ty c m t s).2, V, W)) : wpY_tryNear post (sz, nI s.1, sd_q s.2, V, W) (nI c) (nI m) (sd_q t) := by
  have h42 := sy_42 sz HV W post hc hm ht g H
  have hv := sd_v_le c (by omega)
  have eV : (V (nI c).toNatClampNeg).toInt64 = lN (sd_v c) := by rw [nI_clamp (by omega), HV c (by omega), nI_l (by omega)]
  by_cases k : t < 12
  · have q0 : ¬ 0 ≤ sd_q t := by rw [sd_q_ge t ht]; omega
    have bL : sd_v c * 10 ^ (12 - t) < 2 ^ 63 := Nat.lt_of_le_of_lt (Nat.mul_le_mul hv (Nat.pow_le_pow_right (n := 10) (by decide) (show 12 - t ≤ 12 by omega))) (by decide)
    have ef : lN (sd_v c * 10 ^ (12 - t)) / 512 = lN (sd_fl c t) := by
      rw [show sd_fl c t = sd_v c * 10 ^ (12 - t) / 512 from if_pos k]
      exact pk_lDiv (b := 512) bL (by decide) (by decide)
    refine br_f q0 ⟨vp_in_nI (by omega) (by decide), ?_⟩
    rw [sd_q_n t k]
    refine sy_pow sz (nI s.1) (sd_q s.2) V W _ (by omega) ⟨by decide, ?_⟩
    rw [eV, lN_mul, ef]
    exact h42
  · have q0 : 0 ≤ sd_q t := by rw [sd_q_ge t ht]; omega
    have bP : 512 * 10 ^ (t - 12) < 2 ^ 63 := Nat.lt_of_le_of_lt (Nat.mul_le_mul_left 512 (Nat.pow_le_pow_right (n := 10) (by decide) (show t - 12 ≤ 6 by omega))) (by decide)
    have pP : 0 < 512 * 10 ^ (t - 12) := Nat.mul_pos (by decide) (Nat.pow_pos (by decide))
    have e5 : (512 : Int64) * lN (10 ^ (t - 12)) = lN (512 * 10 ^ (t - 12)) := lN_mul 512 _
    have ef : lN (sd_v c) / lN (512 * 10 ^ (t - 12)) = lN (sd_fl c t) := by
      rw [show sd_fl c t = sd_v c / (512 * 10 ^ (t - 12)) from if_neg k]
      exact pk_lDiv (by omega) pP bP
    refine br_t q0 ⟨vp_in_nI (by omega) (by decide), ?_⟩
    have key : wpY_power (fun r_3 => ¬ (512 * r_3) = 0 ∧ wY_tryNear_42 post (nI c) (nI m) (sd_q t) ((V (nI c).toNatClampNeg).toInt64 / (512 * r_3)) sz (nI s.1) (sd_q s.2) V W) (sz, nI s.1, sd_q s.2, V, W) (nI (t - 12)) := by
      refine sy_pow sz (nI s.1) (sd_q s.2) V W _ (by omega) ⟨?_, ?_⟩
      · rw [e5]
        intro z
        have := (pk_lEQ (b := 0) bP (by decide)).mp z
        omega
      · rw [eV, e5, ef]
        exact h42
    rw [← sd_q_p t ht (by omega)] at key
    exact key
theorem sy_fs32 (sz : Int32) {V : Nat → Int32} (HV : sy_V V) (W : Nat → Int32) (post : SY → Prop) (J : Int32 → Int32 → Int32 → Int32 → (Nat → Int32) → (Nat → Int32) → Prop) {c m : Nat} {s : Nat × Nat} (hc : c < 1024) (hm : m < 9) (g : sd_g c s) (H : J (nI (m + 1)) sz (nI (sd_fq c m 19 s).1) (sd_q (sd_fq c m 19 s).2) V W) : ∀ j i n, i + j = 19 → j < n → wY_findShort_32 post J (nI c) (nI m) n (sd_q i) sz (nI (sd_fq c m i s).1) (sd_q (sd_fq c m i s).2) V W := by
  intro j
  induction j with
  | zero =>
    intro i n hi hn
    obtain ⟨n, rfl⟩ : ∃ m, n = m + 1 := ⟨n - 1, by omega⟩
    have e : i = 19 := by omega
    subst e
    exact br_t (by decide) (nm_r (nI_1 m) H)
  | succ j ih =>
    intro i n hi hn
    obtain ⟨n, rfl⟩ : ∃ m, n = m + 1 := ⟨n - 1, by omega⟩
    have h := ih (i + 1) n (by omega) (by omega)
    exact br_f (Int32.not_le.mpr ((sd_q_lt7 i (by omega)).mpr (by omega))) (sy_ty sz HV W _ hc hm (by omega) (sd_fq_g g i (by omega)) (nm_r (sd_q_s i) h))
theorem sy_fs12 (sz : Int32) {V : Nat → Int32} (HV : sy_V V) (W : Nat → Int32) (post : SY → Prop) {c : Nat} (hc : c < 1024) : ∀ k n (s : Nat × Nat), k < n → k ≤ 8 → sd_g c s → post (sz, nI (sd_fm c k s).1, sd_q (sd_fm c k s).2, V, W) → wY_findShort_12 post (nI c) n (nI (9 - k)) sz (nI s.1) (sd_q s.2) V W := by
  intro k
  induction k with
  | zero =>
    intro n s hn _ g H
    obtain ⟨n, rfl⟩ : ∃ m, n = m + 1 := ⟨n - 1, by omega⟩
    exact br_t (by decide) H
  | succ k ih =>
    intro n s hn hk g H
    obtain ⟨n, rfl⟩ : ∃ m, n = m + 1 := ⟨n - 1, by omega⟩
    have e : sd_fm c (k + 1) s = if s.1 = 0 then (if c = 0 then s else sd_fm c k (sd_fq c (8 - k) 19 s)) else s := rfl
    rw [e] at H
    rw [show 9 - (k + 1) = 8 - k by omega]
    refine br_f (nI_ge (b := 9) (by omega) (by decide)) ?_
    by_cases z : s.1 = 0
    · rw [if_pos z] at H
      refine br_t (by rw [z]; exact nI_0) ?_
      by_cases y : c = 0
      · rw [if_pos y] at H
        exact br_t (by rw [y]; decide) H
      · rw [if_neg y] at H
        refine br_f (nI_nle (by omega) (by omega)) ⟨20, ?_⟩
        have h := ih n (sd_fq c (8 - k) 19 s) (by omega) (by omega) (sd_fq_g g 19 (by omega)) H
        rw [show 9 - k = 8 - k + 1 by omega] at h
        have h2 := sy_fs32 sz HV W post (wY_findShort_12 post (nI c) n) hc (show 8 - k < 9 by omega) g h 19 0 20 (by decide) (by decide)
        rw [sd_q_0] at h2
        exact h2
    · rw [if_neg z] at H
      exact br_f (nI_ne0 (by omega) (by have := g.2.1; omega)) H
theorem sy_fs (sz bd bs : Int32) {V : Nat → Int32} (HV : sy_V V) (W : Nat → Int32) (post : SY → Prop) {c : Nat} (hc : c < 1024) (H : post (sz, nI (sd_fm c 8 (0, 12)).1, sd_q (sd_fm c 8 (0, 12)).2, V, W)) : wpY_findShort post (sz, bd, bs, V, W) (nI c) := by
  have h := sy_fs12 sz HV W post hc 8 9 (0, 12) (by decide) (by decide) ⟨(by decide : (12 : Nat) < 19), (by decide : (0 : Nat) ≤ 99999999), Or.inl rfl⟩ H
  dsimp only at h
  rw [sd_q_z] at h
  exact ⟨9, h⟩
theorem sy_places12 (sz bd bs : Int32) {V : Nat → Int32} (HV : sy_V V) (W : Nat → Int32) (post : Int32 → Prop) {c : Nat} (hc : c < 1024) : ∀ k p n, p + k = 5 → k < n → post (nI (sd_pf c k p)) → wY_places_12 post (nI c) sz bd bs V W n (nI p) := by
  intro k
  induction k with
  | zero =>
    intro p n hp hn h
    obtain ⟨n, rfl⟩ : ∃ m, n = m + 1 := ⟨n - 1, by omega⟩
    exact br_t (nI_le (a := 5) (by omega) (by omega)) h
  | succ k ih =>
    intro p n hp hn h
    obtain ⟨n, rfl⟩ : ∃ m, n = m + 1 := ⟨n - 1, by omega⟩
    have hw := sd_wr_le (show c < 1025 by omega) (show p < 6 by omega)
    have h' : post (nI (if sd_wr c p ≤ 99999999 then (if sd_nm c (sd_wr c p) (12 - p) = true then p else sd_pf c k (p + 1)) else sd_pf c k (p + 1))) := h
    have hi := ih (p + 1) n (by omega) (by omega)
    refine br_f (nI_ge (b := 5) (by omega) (by decide)) (sy_write sz bd bs HV W _ (by omega) (by omega) ?_)
    rw [sd_q_mi p (by omega)]
    by_cases w : sd_wr c p ≤ 99999999
    · rw [if_pos w] at h'
      refine br_f (nI_nlt (a := 99999999) w (by decide)) (sy_nm sz bd bs HV W _ hc (by omega) (by omega) ?_)
      by_cases r : sd_nm c (sd_wr c p) (12 - p) = true
      · rw [if_pos r] at h' ⊢
        exact br_f (by decide) h'
      · rw [if_neg r] at h' ⊢
        exact br_t rfl (nm_r (nI_1 p) (hi h'))
    · rw [if_neg w] at h'
      exact br_t (nI_lt (a := 99999999) (by omega) (by omega)) (nm_r (nI_1 p) (hi h'))
end
section
/-! the text walked: Y's counting loops, X's scale, spare; appending and taking off -/
def sd_db (x : Nat → Nat) (n : Nat) : Int32 := if sd_pt x n = 0 then (-1) else nI (sd_dg x n - sd_bh x n)
def sd_tx (x : Nat → Nat) (n : Nat) (W : Nat → Int32) : Prop := (∀ i, i < n → x i ≤ 10) ∧ (∀ i, i < n → W i = nI (x i)) ∧ sd_pt x n ≤ 1 ∧ sd_dg x n ≤ 8
def sd_cv (b : Bool) (x : Nat → Nat) (i : Nat) : Nat := if b = true then sd_bh x i else sd_dg x i
theorem sd_tx_9 {x : Nat → Nat} {n : Nat} {W : Nat → Int32} (h : sd_tx x n W) : n ≤ 9 := by
  obtain ⟨_, _, h3, h4⟩ := h
  have := sd_tx_n x n
  omega
theorem sd_tx_nu {x : Nat → Nat} {n : Nat} {W : Nat → Int32} (h : sd_tx x n W) : sd_nu x n ≤ 99999999 := by
  obtain ⟨h1, _, _, h4⟩ := h
  have a := sd_nu_lt n h1
  have b : 10 ^ sd_dg x n ≤ 100000000 := Nat.pow_le_pow_right (n := 10) (by decide) h4
  omega
theorem sd_cv_p {b : Bool} {x : Nat → Nat} {i : Nat} (h : x i = 10) : sd_cv b x (i + 1) = sd_cv b x i := by
  unfold sd_cv
  rw [sd_bh_p h, sd_dg_p h]
theorem sd_cv_1 {b : Bool} {x : Nat → Nat} {i : Nat} (h : x i ≠ 10) (z : sd_pt x i ≠ 0) : sd_cv b x (i + 1) = sd_cv b x i + 1 := by
  unfold sd_cv
  rw [sd_bh_d h, sd_dg_d h, if_neg z]
  split <;> rfl
theorem sy_cd7 (bd bs : Int32) (V : Nat → Int32) {W : Nat → Int32} {x : Nat → Nat} {n : Nat} (hx : ∀ i, i < n → x i ≤ 10) (hW : ∀ i, i < n → W i = nI (x i)) (h9 : n ≤ 9) (b : Bool) (post : Int32 → Prop) (hp : post (nI (sd_cv b x n))) : ∀ m i k, i + m = n → m < k → wY_countDigits_7 post (if b = true then 1 else 0) (nI n) bd bs V W k (nI (sd_cv b x i)) (if sd_pt x i = 0 then 0 else 1) (nI i) := by
  intro m
  induction m with
  | zero =>
    intro i k hi hk
    obtain ⟨k, rfl⟩ : ∃ m, k = m + 1 := ⟨k - 1, by omega⟩
    have e : i = n := by omega
    subst e
    exact br_t (nI_le (by omega) (by omega)) hp
  | succ m ih =>
    intro i k hi hk
    obtain ⟨k, rfl⟩ : ∃ m, k = m + 1 := ⟨k - 1, by omega⟩
    have h := ih (i + 1) k (by omega) (by omega)
    have eW : W (nI i).toNatClampNeg = nI (x i) := by rw [nI_clamp (by omega), hW i (by omega)]
    have x10 := hx i (by omega)
    have vi : vp_in (nI i) 9 := vp_in_nI (by omega) (by decide)
    refine br_f (nI_ge (by omega) (by omega)) ?_
    by_cases p : x i = 10
    · have w10 : W (nI i).toNatClampNeg = 10 := by rw [eW, p]; rfl
      rw [sd_cv_p p, sd_pt_p p, if_neg (show ¬ sd_pt x i + 1 = 0 by omega)] at h
      by_cases z : sd_pt x i = 0
      · rw [if_pos z]
        exact br_t rfl ⟨vi, br_t w10 ⟨vi, br_t w10 (nm_r (nI_1 i) h)⟩⟩
      · rw [if_neg z]
        exact br_f (by decide) ⟨vi, br_t w10 (nm_r (nI_1 i) h)⟩
    · have w10 : ¬ W (nI i).toNatClampNeg = 10 := by
        rw [eW]
        exact fun y => p ((nI_eq (b := 10) (by omega) (by decide)).mp y)
      rw [sd_pt_d p] at h
      by_cases z : sd_pt x i = 0
      · rw [if_pos z] at h ⊢
        refine br_t rfl ⟨vi, br_f w10 ⟨vi, br_f w10 (br_t rfl ?_)⟩⟩
        cases b with
        | false =>
          have e : sd_cv false x (i + 1) = sd_cv false x i + 1 := sd_dg_d p
          rw [e] at h
          exact br_t rfl (nm_r (nI_1 _) (nm_r (nI_1 i) h))
        | true =>
          have e : sd_cv true x (i + 1) = sd_cv true x i := (sd_bh_d p).trans (if_pos z)
          rw [e] at h
          exact br_f (by decide) (nm_r (nI_1 i) h)
      · rw [if_neg z] at h ⊢
        rw [sd_cv_1 p z] at h
        exact br_f (by decide) ⟨vi, br_f w10 (br_f (by decide) (nm_r (nI_1 _) (nm_r (nI_1 i) h)))⟩
theorem sy_cd0 (bd bs : Int32) (V : Nat → Int32) {W : Nat → Int32} {x : Nat → Nat} {n : Nat} (hx : ∀ i, i < n → x i ≤ 10) (hW : ∀ i, i < n → W i = nI (x i)) (h9 : n ≤ 9) (post : Int32 → Prop) (hp : post (nI (sd_dg x n))) : wpY_countDigits post (nI n, bd, bs, V, W) 0 :=
  ⟨n + 1, sy_cd7 bd bs V hx hW h9 false post hp n 0 (n + 1) (by omega) (by omega)⟩
theorem sy_cd1 (bd bs : Int32) (V : Nat → Int32) {W : Nat → Int32} {x : Nat → Nat} {n : Nat} (hx : ∀ i, i < n → x i ≤ 10) (hW : ∀ i, i < n → W i = nI (x i)) (h9 : n ≤ 9) (post : Int32 → Prop) (hp : post (nI (sd_bh x n))) : wpY_countDigits post (nI n, bd, bs, V, W) 1 :=
  ⟨n + 1, sy_cd7 bd bs V hx hW h9 true post hp n 0 (n + 1) (by omega) (by omega)⟩
theorem sy_td4 (bd bs : Int32) (V : Nat → Int32) {W : Nat → Int32} {x : Nat → Nat} {n : Nat} (hx : ∀ i, i < n → x i ≤ 10) (hW : ∀ i, i < n → W i = nI (x i)) (h9 : n ≤ 9) (post : Int32 → Prop) (hp : post (nI (sd_nu x n))) : ∀ m i k, i + m = n → m < k → wY_typedDigits_4 post (nI n) bd bs V W k (nI (sd_nu x i)) (nI i) := by
  intro m
  induction m with
  | zero =>
    intro i k hi hk
    obtain ⟨k, rfl⟩ : ∃ m, k = m + 1 := ⟨k - 1, by omega⟩
    have e : i = n := by omega
    subst e
    exact br_t (nI_le (by omega) (by omega)) hp
  | succ m ih =>
    intro i k hi hk
    obtain ⟨k, rfl⟩ : ∃ m, k = m + 1 := ⟨k - 1, by omega⟩
    have h := ih (i + 1) k (by omega) (by omega)
    have eW : W (nI i).toNatClampNeg = nI (x i) := by rw [nI_clamp (by omega), hW i (by omega)]
    have x10 := hx i (by omega)
    have vi : vp_in (nI i) 9 := vp_in_nI (by omega) (by decide)
    refine br_f (nI_ge (by omega) (by omega)) ⟨vi, ?_⟩
    rw [eW]
    by_cases p : x i = 10
    · rw [sd_nu_p p] at h
      exact br_t (by rw [p]; rfl) (nm_r (nI_1 i) h)
    · rw [sd_nu_d p] at h
      refine br_f (fun y => p ((nI_eq (b := 10) (by omega) (by decide)).mp y)) ⟨vi, nm_r (e' := nI (10 * sd_nu x i + x i)) ?_ (nm_r (nI_1 i) h)⟩
      rw [show (10 : Int32) * nI (sd_nu x i) = nI (10 * sd_nu x i) from pk_mul 10 _, nI_add]
theorem sy_td (bd bs : Int32) (V : Nat → Int32) {W : Nat → Int32} {x : Nat → Nat} {n : Nat} (hx : ∀ i, i < n → x i ≤ 10) (hW : ∀ i, i < n → W i = nI (x i)) (h9 : n ≤ 9) (post : Int32 → Prop) (hp : post (nI (sd_nu x n))) : wpY_typedDigits post (nI n, bd, bs, V, W) :=
  ⟨n + 1, sy_td4 bd bs V hx hW h9 post hp n 0 (n + 1) (by omega) (by omega)⟩
theorem sy_spare35 (sz bd bs : Int32) {V : Nat → Int32} (HV : sy_V V) (W : Nat → Int32) (post : Int32 → Prop) {d t a : Nat} (hd : d ≤ 99999999) (ht : t < 19) (ha : a ≤ 8) (hp : post (nI (sd_gr d t a))) : ∀ m i k, i + m = a → m < k → wY_spare_35 post (nI d) (sd_q t) (nI (sd_rd d t)) (nI a) sz bd bs V W k (nI (10 ^ i)) (nI (sd_gr d t i)) (nI (i + 1)) := by
  intro m
  induction m with
  | zero =>
    intro i k hi hk
    obtain ⟨k, rfl⟩ : ∃ m, k = m + 1 := ⟨k - 1, by omega⟩
    have e : i = a := by omega
    subst e
    exact br_t (nI_lt (by omega) (by omega)) hp
  | succ m ih =>
    intro i k hi hk
    obtain ⟨k, rfl⟩ : ∃ m, k = m + 1 := ⟨k - 1, by omega⟩
    have h := ih (i + 1) k (by omega) (by omega)
    have bP : 10 ^ (i + 1) < 2 ^ 31 := Nat.lt_of_le_of_lt (Nat.pow_le_pow_right (n := 10) (by decide) (show i + 1 ≤ 8 by omega)) (by decide)
    have pP : 0 < 10 ^ (i + 1) := Nat.pow_pos (by decide)
    have hm := Nat.mod_le d (10 ^ (i + 1))
    have r1 := (sd_rd_spec (d - d % 10 ^ (i + 1)) t).1
    have r2 := (sd_rd_spec d t).1
    have e1 : (10 : Int32) * nI (10 ^ i) = nI (10 ^ (i + 1)) := by
      rw [Nat.pow_succ, Nat.mul_comm (10 ^ i) 10]
      exact pk_mul 10 _
    rw [show sd_gr d t (i + 1) = if sd_rd (d - d % 10 ^ (i + 1)) t = sd_rd d t then i + 1 else sd_gr d t i from rfl] at h
    refine br_f (nI_nlt (by omega) (by omega)) (nm_r e1 ⟨nI_ne0 pP bP, ?_⟩)
    rw [pk_rem (by omega) pP bP, pk_sub hm]
    refine sy_read sz bd bs HV W _ (by omega) ht ?_
    by_cases e : sd_rd (d - d % 10 ^ (i + 1)) t = sd_rd d t
    · rw [if_pos e] at h
      exact br_t (by rw [e]) (nm_r (nI_1 (i + 1)) h)
    · rw [if_neg e] at h
      exact br_f (fun y => e ((nI_eq (by omega) (by omega)).mp y)) (nm_r (nI_1 (i + 1)) h)
theorem sd_dbq : ∀ a, a < 9 → ∀ b, b < 9 → b ≤ a → nI (a - b) - nI a = sd_q (12 - b) := by decide +kernel
theorem sd_m1 {m : Nat} (h : m < 2 ^ 31) : ¬ nI m = -1 := fun y => nI_pos h (by rw [y]; decide)
theorem sd_m1' {m : Nat} (h : m < 2 ^ 31) : ¬ -1 = nI m := fun y => sd_m1 h y.symm
theorem sx_ts (fn : Int32) (T : Nat → Int64) {x : Nat → Nat} {n : Nat} (hd : sd_dg x n ≤ 8) (post : Int32 → Prop) (hp : post (sd_q (12 - sd_bh x n))) : wpX_textScale post (fn, nI (sd_dg x n), sd_db x n, T) := by
  have hb := sd_bh_le x n
  unfold sd_db
  by_cases z : sd_pt x n = 0
  · rw [if_pos z]
    rw [sd_bh_0 x n z, show sd_q (12 - 0) = 0 from sd_q_z] at hp
    exact br_t rfl hp
  · rw [if_neg z]
    refine br_f (sd_m1 (by omega)) ?_
    rw [sd_dbq _ (by omega) _ (by omega) hb]
    exact hp
def sd_app (x : Nat → Nat) (n k : Nat) : Nat → Nat := fun i => if i = n then k else x i
theorem sd_app_n (x : Nat → Nat) (n k : Nat) : sd_app x n k n = k := if_pos rfl
theorem sd_app_c (x : Nat → Nat) (n k : Nat) : sd_dg (sd_app x n k) n = sd_dg x n ∧ sd_pt (sd_app x n k) n = sd_pt x n ∧ sd_bh (sd_app x n k) n = sd_bh x n ∧ sd_nu (sd_app x n k) n = sd_nu x n :=
  sd_tx_c n (fun i hi => if_neg (by omega))
theorem sd_app_x {x : Nat → Nat} {n k : Nat} (hk : k ≤ 10) (h : ∀ i, i < n → x i ≤ 10) : ∀ i, i < n + 1 → sd_app x n k i ≤ 10 := by
  intro i hi
  unfold sd_app
  by_cases e : i = n
  · rw [if_pos e]; exact hk
  · rw [if_neg e]; exact h i (by omega)
theorem sd_app_W {x : Nat → Nat} {W : Nat → Int32} {n k : Nat} (h : ∀ i, i < n → W i = nI (x i)) : ∀ i, i < n + 1 → upd W n (nI k) i = nI (sd_app x n k i) := by
  intro i hi
  unfold sd_app upd
  by_cases e : i = n
  · rw [if_pos e, if_pos e]
  · rw [if_neg e, if_neg e]; exact h i (by omega)
end
section
/-! the relation and the two constructors -/
/-- the same text on both sides: x its keys, n their number -/
def i_Rel (_ : Nat) (u : SX) (v : SY) : Prop := ∃ (x : Nat → Nat) (n : Nat) (bd bs : Int32) (T : Nat → Int64) (V W : Nat → Int32), sd_tx x n W ∧ sx_T T ∧ sy_V V ∧ u = (nI (sd_nu x n), nI (sd_dg x n), sd_db x n, T) ∧ v = (nI n, bd, bs, V, W)
theorem sd_rel (k : Nat) {x : Nat → Nat} {n : Nat} (bd bs : Int32) {T : Nat → Int64} {V W : Nat → Int32} (h : sd_tx x n W) (HT : sx_T T) (HV : sy_V V) : i_Rel k (nI (sd_nu x n), nI (sd_dg x n), sd_db x n, T) (nI n, bd, bs, V, W) :=
  ⟨x, n, bd, bs, T, V, W, h, HT, HV, rfl, rfl⟩
theorem sd_rel0 (k : Nat) (bd bs : Int32) {T : Nat → Int64} {V : Nat → Int32} (W : Nat → Int32) (HT : sx_T T) (HV : sy_V V) : i_Rel k (0, 0, -1, T) (0, bd, bs, V, W) :=
  ⟨fun _ => 0, 0, bd, bs, T, V, W, ⟨fun i hi => absurd hi (Nat.not_lt_zero i), fun i hi => absurd hi (Nat.not_lt_zero i), Nat.zero_le _, Nat.zero_le _⟩, HT, HV, rfl, rfl⟩
theorem i_up {k : Nat} {u : SX} {v : SY} (h : i_Rel k u v) : i_Rel (k + 4) u v := h
theorem sx_init31 (fn fd fb : Int32) (post : SX → Prop) (hp : ∀ T, sx_T T → post (fn, fd, fb, T)) : ∀ m i k (a : Nat → Int64), i + m = 19 → m < k → (∀ j, j < i → a j = lN (10 ^ j)) → wX_init_31 post fn fd fb k (lN (10 ^ i)) (nI i) a := by
  intro m
  induction m with
  | zero =>
    intro i k a hi hk ha
    obtain ⟨k, rfl⟩ : ∃ m, k = m + 1 := ⟨k - 1, by omega⟩
    have e : i = 19 := by omega
    subst e
    exact br_t (by decide) (hp a ha)
  | succ m ih =>
    intro i k a hi hk ha
    obtain ⟨k, rfl⟩ : ∃ m, k = m + 1 := ⟨k - 1, by omega⟩
    have e : lN (10 ^ i) * 10 = lN (10 ^ (i + 1)) := by
      rw [Nat.pow_succ]
      exact lN_mul _ 10
    refine br_f (nI_ge (b := 19) (by omega) (by decide)) ⟨vp_in_nI (by omega) (by decide), nm_e (nm_r e (nm_r (nI_1 i) (ih (i + 1) k _ (by omega) (by omega) ?_)))⟩
    intro j hj
    rw [nI_clamp (by omega)]
    by_cases z : j = i
    · rw [z, pk_uLs]
    · rw [pk_uLn z]
      exact ha j (by omega)
theorem sy_init23 (sz bd bs : Int32) (W : Nat → Int32) (post : SY → Prop) (hp : ∀ V, sy_V V → post (sz, bd, bs, V, W)) : ∀ m i k (a : Nat → Int32), i + m = 1025 → m < k → (∀ j, j < i → a j = nI (sd_v j)) → wY_init_23 post sz bd bs k (nI i) a W := by
  intro m
  induction m with
  | zero =>
    intro i k a hi hk ha
    obtain ⟨k, rfl⟩ : ∃ m, k = m + 1 := ⟨k - 1, by omega⟩
    have e : i = 1025 := by omega
    subst e
    exact br_t (by decide) (hp a ha)
  | succ m ih =>
    intro i k a hi hk ha
    obtain ⟨k, rfl⟩ : ∃ m, k = m + 1 := ⟨k - 1, by omega⟩
    have up : ∀ j, j < i + 1 → upd a i (nI (sd_v i)) j = nI (sd_v j) := by
      intro j hj
      by_cases z : j = i
      · rw [z, pk_us]
      · rw [pk_un z]
        exact ha j (by omega)
    have h := ih (i + 1) k _ (by omega) (by omega) up
    refine br_f (nI_ge (b := 1025) (by omega) (by decide)) ?_
    by_cases l : i < 64
    · refine br_f (nI_ge (b := 64) l (by decide)) ⟨vp_in_nI (by omega) (by decide), nm_r (e' := upd a i (nI (sd_v i))) ?_ (nm_r (nI_1 i) h)⟩
      rw [nI_clamp (by omega), sd_vs l]
    · refine br_t (nI_le (a := 64) (by omega) (by omega)) ⟨by decide, by decide, vp_in_nI (by omega) (by decide), nm_r (e' := upd a i (nI (sd_v i))) ?_ (nm_r (nI_1 i) h)⟩
      rw [nI_clamp (by omega), show nI i - nI i / 64 * 64 = nI (i % 64) from pk_rem (d := 64) (by omega) (by decide) (by decide), show nI i / 64 = nI (i / 64) from pk_div (d := 64) (by omega) (by decide) (by decide), sd_uv (by omega) l]
theorem i_vc0 : wpX_init (fun u => wpY_init (fun v => i_Rel 0 u v)) :=
  ⟨20, sx_init31 0 0 (-1) _ (fun _ HT => ⟨1026, sy_init23 0 0 0 (fun _ => 0) _ (fun _ HV => sd_rel0 0 0 0 _ HT HV) 1025 0 1026 _ (by decide) (by decide) (fun j hj => absurd hj (Nat.not_lt_zero j))⟩) 19 0 20 _ (by decide) (by decide) (fun j hj => absurd hj (Nat.not_lt_zero j))⟩
end
section
/-! what is owed, method by method -/
theorem sx_units0 (fn fd fb : Int32) (T : Nat → Int64) (post : Int32 → Prop) {x : Int32} (h : x < 0 ∨ 1023 < x) (hp : post (-1)) : wpX_units post (fn, fd, fb, T) x := by
  unfold wpX_units
  dsimp only
  exact sx_isCode0 _ h (br_t rfl hp)
theorem sx_units1 (fn fd fb : Int32) (T : Nat → Int64) (post : Int32 → Prop) {c : Nat} (h : c < 1024) (hp : post (nI (sd_v c))) : wpX_units post (fn, fd, fb, T) (nI c) := by
  unfold wpX_units
  dsimp only
  exact sx_isCode1 _ h (br_f (by decide) (sx_unitsOf _ (by omega) hp))
theorem sy_units0 (sz bd bs : Int32) (V W : Nat → Int32) (post : Int32 → Prop) {x : Int32} (h : x < 0 ∨ 1023 < x) (hp : post (-1)) : wpY_units post (sz, bd, bs, V, W) x := by
  unfold wpY_units
  dsimp only
  exact sy_isCode0 sz bd bs V W _ h (br_t rfl hp)
theorem sy_units1 (sz bd bs : Int32) {V : Nat → Int32} (HV : sy_V V) (W : Nat → Int32) (post : Int32 → Prop) {c : Nat} (h : c < 1024) (hp : post (nI (sd_v c))) : wpY_units post (sz, bd, bs, V, W) (nI c) := by
  unfold wpY_units
  dsimp only
  refine sy_isCode1 sz bd bs V W _ h (br_f (by decide) ⟨vp_in_nI (by omega) (by decide), ?_⟩)
  rw [nI_clamp (by omega), HV c (by omega)]
  exact hp
theorem i_vc_units {k : Nat} {u : SX} {v : SY} (I : i_Rel k u v) (hk : k + 4 ≤ 2048) (v1 : Int32) : wpX_units (fun r => wpY_units (fun r' => r' = r ∧ i_Rel (k + 4) u v) v v1) u v1 := by
  obtain ⟨x, n, bd, bs, T, V, W, hx, HT, HV, rfl, rfl⟩ := I
  have R := sd_rel (k + 4) bd bs hx HT HV
  rcases sd_code v1 with h | ⟨c, hc, rfl⟩
  · exact sx_units0 _ _ _ T _ h (sy_units0 _ bd bs V W _ h ⟨rfl, R⟩)
  · exact sx_units1 _ _ _ T _ hc (sy_units1 _ bd bs HV W _ hc ⟨rfl, R⟩)
theorem sx_read0 (fn fd fb : Int32) (T : Nat → Int64) (post : Int32 → Prop) {x y : Int32} (h : x < 0 ∨ 99999999 < x ∨ y < -12 ∨ 6 < y) (hp : post (-1)) : wpX_read post (fn, fd, fb, T) x y := by
  unfold wpX_read
  dsimp only
  exact sx_isDec0 _ h (br_t rfl hp)
theorem sx_read1 {T : Nat → Int64} (HT : sx_T T) (fn fd fb : Int32) (post : Int32 → Prop) {d t : Nat} (hd : d ≤ 99999999) (ht : t < 19) (hp : post (nI (sd_rd d t))) : wpX_read post (fn, fd, fb, T) (nI d) (sd_q t) := by
  unfold wpX_read
  dsimp only
  exact sx_isDec1 _ hd ht (br_f (by decide) (sx_cn HT fn fd fb _ (by omega) ht hp))
theorem sy_read0 (sz bd bs : Int32) (V W : Nat → Int32) (post : Int32 → Prop) {x y : Int32} (h : x < 0 ∨ 99999999 < x ∨ y < -12 ∨ 6 < y) (hp : post (-1)) : wpY_read post (sz, bd, bs, V, W) x y := by
  unfold wpY_read
  dsimp only
  exact sy_isDec0 sz bd bs V W _ h (br_t rfl hp)
theorem i_vc_read {k : Nat} {u : SX} {v : SY} (I : i_Rel k u v) (hk : k + 4 ≤ 2048) (v1 : Int32) (v2 : Int32) : wpX_read (fun r => wpY_read (fun r' => r' = r ∧ i_Rel (k + 4) u v) v v1 v2) u v1 v2 := by
  obtain ⟨x, n, bd, bs, T, V, W, hx, HT, HV, rfl, rfl⟩ := I
  have R := sd_rel (k + 4) bd bs hx HT HV
  rcases sd_deci v1 v2 with h | ⟨d, t, hd, ht, rfl, rfl⟩
  · exact sx_read0 _ _ _ T _ h (sy_read0 _ bd bs V W _ h ⟨rfl, R⟩)
  · exact sx_read1 HT _ _ _ _ hd ht (sy_read _ bd bs HV W _ hd ht ⟨rfl, R⟩)
theorem sx_names0 (fn fd fb : Int32) (T : Nat → Int64) (post : Int32 → Prop) {z x y : Int32} (h : (z < 0 ∨ 1023 < z) ∨ ((∃ c, c < 1024 ∧ z = nI c) ∧ (x < 0 ∨ 99999999 < x ∨ y < -12 ∨ 6 < y))) (hp : post 0) : wpX_names post (fn, fd, fb, T) z x y := by
  unfold wpX_names
  dsimp only
  rcases h with h | ⟨⟨c, hc, rfl⟩, h⟩
  · exact sx_isCode0 _ h (br_t rfl hp)
  · exact sx_isCode1 _ hc (br_f (by decide) (sx_isDec0 _ h (br_t rfl hp)))
theorem sx_names1 {T : Nat → Int64} (HT : sx_T T) (fn fd fb : Int32) (post : Int32 → Prop) {c d t : Nat} (hc : c < 1024) (hd : d ≤ 99999999) (ht : t < 19) (hp : post (if sd_nm c d t = true then 1 else 0)) : wpX_names post (fn, fd, fb, T) (nI c) (nI d) (sd_q t) := by
  unfold wpX_names
  dsimp only
  refine sx_isCode1 _ hc (br_f (by decide) (sx_isDec1 _ hd ht (br_f (by decide) (sx_nm HT fn fd fb _ hc (by omega) ht ?_))))
  by_cases r : sd_nm c d t = true
  · rw [if_pos r] at hp ⊢
    exact br_f (by decide) hp
  · rw [if_neg r] at hp ⊢
    exact br_t rfl hp
theorem sy_names0 (sz bd bs : Int32) (V W : Nat → Int32) (post : Int32 → Prop) {z x y : Int32} (h : (x < 0 ∨ 99999999 < x ∨ y < -12 ∨ 6 < y) ∨ ((∃ d t, d ≤ 99999999 ∧ t < 19 ∧ x = nI d ∧ y = sd_q t) ∧ (z < 0 ∨ 1023 < z))) (hp : post 0) : wpY_names post (sz, bd, bs, V, W) z x y := by
  unfold wpY_names
  dsimp only
  rcases h with h | ⟨⟨d, t, hd, ht, rfl, rfl⟩, h⟩
  · exact sy_isDec0 sz bd bs V W _ h (br_t rfl hp)
  · exact sy_isDec1 sz bd bs V W _ hd ht (br_f (by decide) (sy_isCode0 sz bd bs V W _ h (br_t rfl hp)))
theorem sy_names1 (sz bd bs : Int32) {V : Nat → Int32} (HV : sy_V V) (W : Nat → Int32) (post : Int32 → Prop) {c d t : Nat} (hc : c < 1024) (hd : d ≤ 99999999) (ht : t < 19) (hp : post (if sd_nm c d t = true then 1 else 0)) : wpY_names post (sz, bd, bs, V, W) (nI c) (nI d) (sd_q t) := by
  unfold wpY_names
  dsimp only
  refine sy_isDec1 sz bd bs V W _ hd ht (br_f (by decide) (sy_isCode1 sz bd bs V W _ hc (br_f (by decide) (sy_nm sz bd bs HV W _ hc (by omega) ht ?_))))
  by_cases r : sd_nm c d t = true
  · rw [if_pos r] at hp ⊢
    exact br_f (by decide) hp
  · rw [if_neg r] at hp ⊢
    exact br_t rfl hp
theorem i_vc_names {k : Nat} {u : SX} {v : SY} (I : i_Rel k u v) (hk : k + 4 ≤ 2048) (v1 : Int32) (v2 : Int32) (v3 : Int32) : wpX_names (fun r => wpY_names (fun r' => r' = r ∧ i_Rel (k + 4) u v) v v1 v2 v3) u v1 v2 v3 := by
  obtain ⟨x, n, bd, bs, T, V, W, hx, HT, HV, rfl, rfl⟩ := I
  have R := sd_rel (k + 4) bd bs hx HT HV
  rcases sd_code v1 with h | h
  · rcases sd_deci v2 v3 with g | g
    · exact sx_names0 _ _ _ T _ (Or.inl h) (sy_names0 _ bd bs V W _ (Or.inl g) ⟨rfl, R⟩)
    · exact sx_names0 _ _ _ T _ (Or.inl h) (sy_names0 _ bd bs V W _ (Or.inr ⟨g, h⟩) ⟨rfl, R⟩)
  · rcases sd_deci v2 v3 with g | g
    · exact sx_names0 _ _ _ T _ (Or.inr ⟨h, g⟩) (sy_names0 _ bd bs V W _ (Or.inl g) ⟨rfl, R⟩)
    · obtain ⟨c, hc, rfl⟩ := h
      obtain ⟨d, t, hd, ht, rfl, rfl⟩ := g
      exact sx_names1 HT _ _ _ _ hc hd ht (sy_names1 _ bd bs HV W _ hc hd ht ⟨rfl, R⟩)
theorem sx_comp0 (fn fd fb : Int32) (T : Nat → Int64) (post : Int32 → Prop) {z x y : Int32} (h : (z < 0 ∨ 1023 < z) ∨ ((∃ c, c < 1024 ∧ z = nI c) ∧ (x < 0 ∨ 99999999 < x ∨ y < -12 ∨ 6 < y))) (hp : post 2) : wpX_compare post (fn, fd, fb, T) z x y := by
  unfold wpX_compare
  dsimp only
  rcases h with h | ⟨⟨c, hc, rfl⟩, h⟩
  · exact sx_isCode0 _ h (br_t rfl hp)
  · exact sx_isCode1 _ hc (br_f (by decide) (sx_isDec0 _ h (br_t rfl hp)))
theorem sx_comp1 {T : Nat → Int64} (HT : sx_T T) (fn fd fb : Int32) (post : Int32 → Prop) {c d t : Nat} (hc : c < 1024) (hd : d ≤ 99999999) (ht : t < 19) (hp : post (sd_sg (2 * sd_v c) d t)) : wpX_compare post (fn, fd, fb, T) (nI c) (nI d) (sd_q t) := by
  have hv := sd_v_le c (by omega)
  unfold wpX_compare
  dsimp only
  exact sx_isCode1 _ hc (br_f (by decide) (sx_isDec1 _ hd ht (br_f (by decide) (sx_unitsOf _ (by omega) (nm_r (pk_mul 2 _) (sx_cmp HT fn fd fb _ (by omega) (by omega) ht hp))))))
theorem sy_comp0 (sz bd bs : Int32) (V W : Nat → Int32) (post : Int32 → Prop) {z x y : Int32} (h : (x < 0 ∨ 99999999 < x ∨ y < -12 ∨ 6 < y) ∨ ((∃ d t, d ≤ 99999999 ∧ t < 19 ∧ x = nI d ∧ y = sd_q t) ∧ (z < 0 ∨ 1023 < z))) (hp : post 2) : wpY_compare post (sz, bd, bs, V, W) z x y := by
  unfold wpY_compare
  dsimp only
  rcases h with h | ⟨⟨d, t, hd, ht, rfl, rfl⟩, h⟩
  · exact sy_isDec0 sz bd bs V W _ h (br_t rfl hp)
  · exact sy_isDec1 sz bd bs V W _ hd ht (br_f (by decide) (sy_isCode0 sz bd bs V W _ h (br_t rfl hp)))
theorem sy_comp1 (sz bd bs : Int32) {V : Nat → Int32} (HV : sy_V V) (W : Nat → Int32) (post : Int32 → Prop) {c d t : Nat} (hc : c < 1024) (hd : d ≤ 99999999) (ht : t < 19) (hp : post (sd_sg (2 * sd_v c) d t)) : wpY_compare post (sz, bd, bs, V, W) (nI c) (nI d) (sd_q t) := by
  have hv := sd_v_le c (by omega)
  unfold wpY_compare
  dsimp only
  refine sy_isDec1 sz bd bs V W _ hd ht (br_f (by decide) (sy_isCode1 sz bd bs V W _ hc (br_f (by decide) ⟨vp_in_nI (by omega) (by decide), ?_⟩)))
  have e : (2 : Int64) * (V (nI c).toNatClampNeg).toInt64 = lN (2 * sd_v c) := by
    rw [nI_clamp (by omega), HV c (by omega), nI_l (by omega)]
    exact lN_mul 2 _
  rw [e]
  exact sy_sign sz bd bs V W _ (by omega) (by omega) ht hp
theorem i_vc_compare {k : Nat} {u : SX} {v : SY} (I : i_Rel k u v) (hk : k + 4 ≤ 2048) (v1 : Int32) (v2 : Int32) (v3 : Int32) : wpX_compare (fun r => wpY_compare (fun r' => r' = r ∧ i_Rel (k + 4) u v) v v1 v2 v3) u v1 v2 v3 := by
  obtain ⟨x, n, bd, bs, T, V, W, hx, HT, HV, rfl, rfl⟩ := I
  have R := sd_rel (k + 4) bd bs hx HT HV
  rcases sd_code v1 with h | h
  · rcases sd_deci v2 v3 with g | g
    · exact sx_comp0 _ _ _ T _ (Or.inl h) (sy_comp0 _ bd bs V W _ (Or.inl g) ⟨rfl, R⟩)
    · exact sx_comp0 _ _ _ T _ (Or.inl h) (sy_comp0 _ bd bs V W _ (Or.inr ⟨g, h⟩) ⟨rfl, R⟩)
  · rcases sd_deci v2 v3 with g | g
    · exact sx_comp0 _ _ _ T _ (Or.inr ⟨h, g⟩) (sy_comp0 _ bd bs V W _ (Or.inl g) ⟨rfl, R⟩)
    · obtain ⟨c, hc, rfl⟩ := h
      obtain ⟨d, t, hd, ht, rfl, rfl⟩ := g
      exact sx_comp1 HT _ _ _ _ hc hd ht (sy_comp1 _ bd bs HV W _ hc hd ht ⟨rfl, R⟩)
theorem sx_digits1 {T : Nat → Int64} (HT : sx_T T) (fn fd fb : Int32) (post : Int32 → Prop) {c : Nat} (hc : c < 1024) (hp : post (nI (sd_fm c 8 (0, 12)).1)) : wpX_digits post (fn, fd, fb, T) (nI c) := by
  unfold wpX_digits
  dsimp only
  rw [← (sd_same hc).1] at hp
  exact sx_isCode1 _ hc (br_f (by decide) (sx_ss HT fn fd fb _ hc (sx_ca HT fn fd fb _ hc (sd_sh_g c 19 (by omega)).1 hp)))
theorem sx_digits0 (fn fd fb : Int32) (T : Nat → Int64) (post : Int32 → Prop) {x : Int32} (h : x < 0 ∨ 1023 < x) (hp : post (-1)) : wpX_digits post (fn, fd, fb, T) x := by
  unfold wpX_digits
  dsimp only
  exact sx_isCode0 _ h (br_t rfl hp)
theorem sy_digits1 (sz bd bs : Int32) {V : Nat → Int32} (HV : sy_V V) (W : Nat → Int32) (post : Int32 → SY → Prop) {c : Nat} (hc : c < 1024) (hp : post (nI (sd_fm c 8 (0, 12)).1) (sz, nI (sd_fm c 8 (0, 12)).1, sd_q (sd_fm c 8 (0, 12)).2, V, W)) : wpY_digits post (sz, bd, bs, V, W) (nI c) := by
  unfold wpY_digits
  dsimp only
  exact sy_isCode1 sz bd bs V W _ hc (br_f (by decide) (sy_fs sz bd bs HV W _ hc hp))
theorem sy_digits0 (sz bd bs : Int32) (V W : Nat → Int32) (post : Int32 → SY → Prop) {x : Int32} (h : x < 0 ∨ 1023 < x) (hp : post (-1) (sz, bd, bs, V, W)) : wpY_digits post (sz, bd, bs, V, W) x := by
  unfold wpY_digits
  dsimp only
  exact sy_isCode0 sz bd bs V W _ h (br_t rfl hp)
theorem i_vc_digits {k : Nat} {u : SX} {v : SY} (I : i_Rel k u v) (hk : k + 4 ≤ 2048) (v1 : Int32) : wpX_digits (fun r => wpY_digits (fun r' v' => r' = r ∧ i_Rel (k + 4) u v') v v1) u v1 := by
  obtain ⟨x, n, bd, bs, T, V, W, hx, HT, HV, rfl, rfl⟩ := I
  rcases sd_code v1 with h | ⟨c, hc, rfl⟩
  · exact sx_digits0 _ _ _ T _ h (sy_digits0 _ bd bs V W _ h ⟨rfl, sd_rel (k + 4) bd bs hx HT HV⟩)
  · exact sx_digits1 HT _ _ _ _ hc (sy_digits1 _ bd bs HV W _ hc ⟨rfl, sd_rel (k + 4) _ _ hx HT HV⟩)
theorem sx_scale1 {T : Nat → Int64} (HT : sx_T T) (fn fd fb : Int32) (post : Int32 → Prop) {c : Nat} (hc : c < 1024) (hp : post (sd_q (sd_fm c 8 (0, 12)).2)) : wpX_scale post (fn, fd, fb, T) (nI c) := by
  unfold wpX_scale
  dsimp only
  rw [← (sd_same hc).2] at hp
  exact sx_isCode1 _ hc (br_f (by decide) (sx_ss HT fn fd fb _ hc hp))
theorem sx_scale0 (fn fd fb : Int32) (T : Nat → Int64) (post : Int32 → Prop) {x : Int32} (h : x < 0 ∨ 1023 < x) (hp : post (-100)) : wpX_scale post (fn, fd, fb, T) x := by
  unfold wpX_scale
  dsimp only
  exact sx_isCode0 _ h (br_t rfl hp)
theorem sy_scale1 (sz bd bs : Int32) {V : Nat → Int32} (HV : sy_V V) (W : Nat → Int32) (post : Int32 → SY → Prop) {c : Nat} (hc : c < 1024) (hp : post (sd_q (sd_fm c 8 (0, 12)).2) (sz, nI (sd_fm c 8 (0, 12)).1, sd_q (sd_fm c 8 (0, 12)).2, V, W)) : wpY_scale post (sz, bd, bs, V, W) (nI c) := by
  unfold wpY_scale
  dsimp only
  exact sy_isCode1 sz bd bs V W _ hc (br_f (by decide) (sy_fs sz bd bs HV W _ hc hp))
theorem sy_scale0 (sz bd bs : Int32) (V W : Nat → Int32) (post : Int32 → SY → Prop) {x : Int32} (h : x < 0 ∨ 1023 < x) (hp : post (-100) (sz, bd, bs, V, W)) : wpY_scale post (sz, bd, bs, V, W) x := by
  unfold wpY_scale
  dsimp only
  exact sy_isCode0 sz bd bs V W _ h (br_t rfl hp)
theorem i_vc_scale {k : Nat} {u : SX} {v : SY} (I : i_Rel k u v) (hk : k + 4 ≤ 2048) (v1 : Int32) : wpX_scale (fun r => wpY_scale (fun r' v' => r' = r ∧ i_Rel (k + 4) u v') v v1) u v1 := by
  obtain ⟨x, n, bd, bs, T, V, W, hx, HT, HV, rfl, rfl⟩ := I
  rcases sd_code v1 with h | ⟨c, hc, rfl⟩
  · exact sx_scale0 _ _ _ T _ h (sy_scale0 _ bd bs V W _ h ⟨rfl, sd_rel (k + 4) bd bs hx HT HV⟩)
  · exact sx_scale1 HT _ _ _ _ hc (sy_scale1 _ bd bs HV W _ hc ⟨rfl, sd_rel (k + 4) _ _ hx HT HV⟩)
theorem sd_fm_le {c : Nat} (hc : c < 1024) : (sd_fm c 8 (0, 12)).1 ≤ 99999999 := by
  rw [← (sd_same hc).1]
  exact (sd_ca_g c _).1
theorem sx_length1 {T : Nat → Int64} (HT : sx_T T) (fn fd fb : Int32) (post : Int32 → Prop) {c : Nat} (hc : c < 1024) (hp : post (nI (sd_dc (sd_fm c 8 (0, 12)).1))) : wpX_length post (fn, fd, fb, T) (nI c) := by
  unfold wpX_length
  dsimp only
  rw [← (sd_same hc).1] at hp
  have hl := (sd_ca_g c (sd_sh c 19).2).1
  exact sx_isCode1 _ hc (br_f (by decide) (sx_ss HT fn fd fb _ hc (sx_ca HT fn fd fb _ hc (sd_sh_g c 19 (by omega)).1 (sx_count HT fn fd fb _ (by omega) hp))))
theorem sx_length0 (fn fd fb : Int32) (T : Nat → Int64) (post : Int32 → Prop) {x : Int32} (h : x < 0 ∨ 1023 < x) (hp : post (-1)) : wpX_length post (fn, fd, fb, T) x := by
  unfold wpX_length
  dsimp only
  exact sx_isCode0 _ h (br_t rfl hp)
theorem sy_length1 (sz bd bs : Int32) {V : Nat → Int32} (HV : sy_V V) (W : Nat → Int32) (post : Int32 → SY → Prop) {c : Nat} (hc : c < 1024) (hp : post (nI (sd_dc (sd_fm c 8 (0, 12)).1)) (sz, nI (sd_fm c 8 (0, 12)).1, sd_q (sd_fm c 8 (0, 12)).2, V, W)) : wpY_length post (sz, bd, bs, V, W) (nI c) := by
  have hl := sd_fm_le hc
  unfold wpY_length
  dsimp only
  exact sy_isCode1 sz bd bs V W _ hc (br_f (by decide) (sy_fs sz bd bs HV W _ hc (sy_dig sz _ _ V W _ (by omega) hp)))
theorem sy_length0 (sz bd bs : Int32) (V W : Nat → Int32) (post : Int32 → SY → Prop) {x : Int32} (h : x < 0 ∨ 1023 < x) (hp : post (-1) (sz, bd, bs, V, W)) : wpY_length post (sz, bd, bs, V, W) x := by
  unfold wpY_length
  dsimp only
  exact sy_isCode0 sz bd bs V W _ h (br_t rfl hp)
theorem i_vc_length {k : Nat} {u : SX} {v : SY} (I : i_Rel k u v) (hk : k + 4 ≤ 2048) (v1 : Int32) : wpX_length (fun r => wpY_length (fun r' v' => r' = r ∧ i_Rel (k + 4) u v') v v1) u v1 := by
  obtain ⟨x, n, bd, bs, T, V, W, hx, HT, HV, rfl, rfl⟩ := I
  rcases sd_code v1 with h | ⟨c, hc, rfl⟩
  · exact sx_length0 _ _ _ T _ h (sy_length0 _ bd bs V W _ h ⟨rfl, sd_rel (k + 4) bd bs hx HT HV⟩)
  · exact sx_length1 HT _ _ _ _ hc (sy_length1 _ bd bs HV W _ hc ⟨rfl, sd_rel (k + 4) _ _ hx HT HV⟩)
end
section
/-! what is owed: written, places, and the text -/
theorem sd_five (x : Int32) : x < 0 ∨ (¬ x < 0 ∧ ¬ x ≤ 5) ∨ ∃ p, p < 6 ∧ x = nI p := by
  by_cases h0 : x < 0
  · exact Or.inl h0
  · by_cases h1 : x ≤ 5
    · obtain ⟨j, hj, e⟩ := nI_of2 (M := 5) (n := 5) (by decide) h0 h1
      exact Or.inr (Or.inr ⟨j, by omega, e⟩)
    · exact Or.inr (Or.inl ⟨h0, h1⟩)
theorem i_vc_written {k : Nat} {u : SX} {v : SY} (I : i_Rel k u v) (hk : k + 4 ≤ 2048) (v1 : Int32) (v2 : Int32) : wpX_written (fun r => wpY_written (fun r' => r' = r ∧ i_Rel (k + 4) u v) v v1 v2) u v1 v2 := by
  obtain ⟨x, n, bd, bs, T, V, W, hx, HT, HV, rfl, rfl⟩ := I
  have R := sd_rel (k + 4) bd bs hx HT HV
  unfold wpX_written wpY_written
  dsimp only
  rcases sd_code v1 with h | ⟨c, hc, rfl⟩
  · exact sx_isCode0 _ h (br_t rfl (sy_isCode0 _ bd bs V W _ h (br_t rfl ⟨rfl, R⟩)))
  · rcases sd_five v2 with h | ⟨h, g⟩ | ⟨p, hp, rfl⟩
    · exact sx_isCode1 _ hc (br_f (by decide) (br_t h (sy_isCode1 _ bd bs V W _ hc (br_f (by decide) (br_t h ⟨rfl, R⟩)))))
    · exact sx_isCode1 _ hc (br_f (by decide) (br_f h (br_f g (sy_isCode1 _ bd bs V W _ hc (br_f (by decide) (br_f h (br_t (Int32.not_le.mp g) ⟨rfl, R⟩)))))))
    · exact sx_isCode1 _ hc (br_f (by decide) (br_f (nI_pos (by omega)) (br_t (nI_le (b := 5) (by omega) (by decide)) (sx_round HT _ _ _ _ (by omega) hp (sy_isCode1 _ bd bs V W _ hc (br_f (by decide) (br_f (nI_pos (by omega)) (br_f (nI_nlt (a := 5) (by omega) (by decide)) (sy_write _ bd bs HV W _ (by omega) hp ⟨rfl, R⟩)))))))))
theorem i_vc_places {k : Nat} {u : SX} {v : SY} (I : i_Rel k u v) (hk : k + 4 ≤ 2048) (v1 : Int32) : wpX_places (fun r => wpY_places (fun r' => r' = r ∧ i_Rel (k + 4) u v) v v1) u v1 := by
  obtain ⟨x, n, bd, bs, T, V, W, hx, HT, HV, rfl, rfl⟩ := I
  have R := sd_rel (k + 4) bd bs hx HT HV
  unfold wpX_places wpY_places
  dsimp only
  rcases sd_code v1 with h | ⟨c, hc, rfl⟩
  · exact sx_isCode0 _ h (br_t rfl (sy_isCode0 _ bd bs V W _ h (br_t rfl ⟨rfl, R⟩)))
  · exact sx_isCode1 _ hc (br_f (by decide) ⟨6, sx_places11 HT _ _ _ _ hc 5 0 6 (by decide) (by decide) (sy_isCode1 _ bd bs V W _ hc (br_f (by decide) ⟨6, sy_places12 _ bd bs HV W _ hc 5 0 6 (by decide) (by decide) ⟨rfl, R⟩⟩))⟩)
theorem i_vc_clear {k : Nat} {u : SX} {v : SY} (I : i_Rel k u v) (hk : k + 4 ≤ 2048) : wpX_clear (fun u' => wpY_clear (fun v' => i_Rel (k + 4) u' v') v) u := by
  obtain ⟨x, n, bd, bs, T, V, W, hx, HT, HV, rfl, rfl⟩ := I
  exact sd_rel0 (k + 4) bd bs W HT HV
theorem i_vc_typedDigits {k : Nat} {u : SX} {v : SY} (I : i_Rel k u v) (hk : k + 4 ≤ 2048) : wpX_typedDigits (fun r => wpY_typedDigits (fun r' => r' = r ∧ i_Rel (k + 4) u v) v) u := by
  obtain ⟨x, n, bd, bs, T, V, W, hx, HT, HV, rfl, rfl⟩ := I
  have R := sd_rel (k + 4) bd bs hx HT HV
  exact sy_td bd bs V hx.1 hx.2.1 (sd_tx_9 hx) _ ⟨rfl, R⟩
theorem sy_typed (bd bs : Int32) {V : Nat → Int32} (HV : sy_V V) {W : Nat → Int32} {x : Nat → Nat} {n : Nat} (hx : sd_tx x n W) (post : Int32 → Prop) (hp : post (nI (sd_rd (sd_nu x n) (12 - sd_bh x n)))) : wpY_typed post (nI n, bd, bs, V, W) := by
  have hb := sd_bh_le x n
  have h8 := hx.2.2.2
  unfold wpY_typed
  dsimp only
  refine sy_td bd bs V hx.1 hx.2.1 (sd_tx_9 hx) _ (sy_cd1 bd bs V hx.1 hx.2.1 (sd_tx_9 hx) _ ?_)
  rw [sd_q_mi _ (by omega)]
  exact sy_read _ bd bs HV W _ (sd_tx_nu hx) (by omega) hp
theorem sx_typed {T : Nat → Int64} (HT : sx_T T) {W : Nat → Int32} {x : Nat → Nat} {n : Nat} (hx : sd_tx x n W) (post : Int32 → Prop) (hp : post (nI (sd_rd (sd_nu x n) (12 - sd_bh x n)))) : wpX_typed post (nI (sd_nu x n), nI (sd_dg x n), sd_db x n, T) := by
  have h := sd_tx_nu hx
  unfold wpX_typed
  dsimp only
  exact sx_ts _ T hx.2.2.2 _ (sx_cn HT _ _ _ _ (by omega) (by omega) hp)
theorem i_vc_typed {k : Nat} {u : SX} {v : SY} (I : i_Rel k u v) (hk : k + 4 ≤ 2048) : wpX_typed (fun r => wpY_typed (fun r' => r' = r ∧ i_Rel (k + 4) u v) v) u := by
  obtain ⟨x, n, bd, bs, T, V, W, hx, HT, HV, rfl, rfl⟩ := I
  have R := sd_rel (k + 4) bd bs hx HT HV
  exact sx_typed HT hx _ (sy_typed bd bs HV hx _ ⟨rfl, R⟩)
theorem sx_spare {T : Nat → Int64} (HT : sx_T T) {W : Nat → Int32} {x : Nat → Nat} {n : Nat} (hx : sd_tx x n W) (post : Int32 → Prop) (hp : post (nI (sd_gr (sd_nu x n) (12 - sd_bh x n) (sd_dg x n)))) : wpX_spare post (nI (sd_nu x n), nI (sd_dg x n), sd_db x n, T) := by
  have h := sd_tx_nu hx
  unfold wpX_spare
  dsimp only
  exact sx_ts _ T hx.2.2.2 _ (sx_cn HT _ _ _ _ (by omega) (by omega) ⟨sd_dg x n + 1, sx_spare20 HT _ _ post h (by omega) (sd_dg x n) (sd_dg x n + 1) (by omega) hx.2.2.2 hp⟩)
theorem sy_spare (bd bs : Int32) {V : Nat → Int32} (HV : sy_V V) {W : Nat → Int32} {x : Nat → Nat} {n : Nat} (hx : sd_tx x n W) (post : Int32 → Prop) (hp : post (nI (sd_gr (sd_nu x n) (12 - sd_bh x n) (sd_dg x n)))) : wpY_spare post (nI n, bd, bs, V, W) := by
  have hb := sd_bh_le x n
  have h8 := hx.2.2.2
  unfold wpY_spare
  dsimp only
  refine sy_td bd bs V hx.1 hx.2.1 (sd_tx_9 hx) _ (sy_cd1 bd bs V hx.1 hx.2.1 (sd_tx_9 hx) _ (nm_r (sd_q_mi _ (by omega)) ?_))
  exact sy_read _ bd bs HV W _ (sd_tx_nu hx) (by omega) (sy_cd0 bd bs V hx.1 hx.2.1 (sd_tx_9 hx) _ ⟨sd_dg x n + 1, sy_spare35 _ bd bs HV W post (sd_tx_nu hx) (by omega) h8 hp (sd_dg x n) 0 (sd_dg x n + 1) (by omega) (by omega)⟩)
theorem i_vc_spare {k : Nat} {u : SX} {v : SY} (I : i_Rel k u v) (hk : k + 4 ≤ 2048) : wpX_spare (fun r => wpY_spare (fun r' => r' = r ∧ i_Rel (k + 4) u v) v) u := by
  obtain ⟨x, n, bd, bs, T, V, W, hx, HT, HV, rfl, rfl⟩ := I
  have R := sd_rel (k + 4) bd bs hx HT HV
  exact sx_spare HT hx _ (sy_spare bd bs HV hx _ ⟨rfl, R⟩)
theorem i_vc_back {k : Nat} {u : SX} {v : SY} (I : i_Rel k u v) (hk : k + 4 ≤ 2048) : wpX_back (fun r u' => wpY_back (fun r' v' => r' = r ∧ i_Rel (k + 4) u' v') v) u := by
  obtain ⟨x, n, bd, bs, T, V, W, hx, HT, HV, rfl, rfl⟩ := I
  have h9 := sd_tx_9 hx
  have hn := sd_tx_nu hx
  cases n with
  | zero => exact br_f (sd_m1' (m := 0) (by decide)) (br_t nI_0 (br_t nI_0 ⟨rfl, sd_rel (k + 4) bd bs hx HT HV⟩))
  | succ a =>
    obtain ⟨h1, h2, h3, h4⟩ := hx
    have hb := sd_bh_le x a
    have eW : W (nI a).toNatClampNeg = nI (x a) := by rw [nI_clamp (by omega), h2 a (by omega)]
    have x10 := h1 a (by omega)
    have va : vp_in (nI a) 9 := vp_in_nI (by omega) (by decide)
    have sn : ¬ nI (a + 1) = 0 := nI_ne0 (by omega) (by omega)
    by_cases p : x a = 10
    · rw [sd_pt_p p] at h3
      rw [sd_dg_p p] at h4
      have z : sd_pt x a = 0 := by omega
      have hx' : sd_tx x a W := ⟨fun i hi => h1 i (by omega), fun i hi => h2 i (by omega), by omega, h4⟩
      have R := sd_rel (k + 4) bd bs hx' HT HV
      have eb : sd_db x (a + 1) = nI (sd_dg x a) := by
        unfold sd_db
        rw [sd_pt_p p, if_neg (by omega), sd_dg_p p, sd_bh_p p, sd_bh_0 x a z]
        rfl
      have eb' : sd_db x a = -1 := if_pos z
      rw [eb'] at R
      rw [sd_nu_p p, sd_dg_p p, eb]
      refine br_t rfl (br_f sn (nm_r (nI_pred a) ⟨va, ?_, R⟩))
      rw [eW, p]
      rfl
    · rw [sd_pt_d p] at h3
      rw [sd_dg_d p] at h4
      have hx' : sd_tx x a W := ⟨fun i hi => h1 i (by omega), fun i hi => h2 i (by omega), h3, by omega⟩
      have R := sd_rel (k + 4) bd bs hx' HT HV
      have eb : sd_db x (a + 1) = sd_db x a := by
        unfold sd_db
        rw [sd_pt_d p]
        by_cases z : sd_pt x a = 0
        · rw [if_pos z, if_pos z]
        · rw [if_neg z, if_neg z, sd_dg_d p, sd_bh_d p, if_neg z, Nat.add_sub_add_right]
      have nb : ¬ sd_db x a = nI (sd_dg x a + 1) := by
        unfold sd_db
        by_cases z : sd_pt x a = 0
        · rw [if_pos z]
          exact sd_m1' (by omega)
        · rw [if_neg z]
          intro y
          have := (nI_eq (by omega) (by omega)).mp y
          omega
      rw [sd_nu_d p] at hn
      rw [sd_nu_d p, sd_dg_d p, eb]
      have e1 : nI (10 * sd_nu x a + x a) - nI (10 * sd_nu x a + x a) / 10 * 10 = nI (x a) := by
        rw [show nI (10 * sd_nu x a + x a) - nI (10 * sd_nu x a + x a) / 10 * 10 = nI ((10 * sd_nu x a + x a) % 10) from pk_rem (d := 10) (by omega) (by decide) (by decide)]
        exact congrArg nI (by omega)
      have e2 : nI (10 * sd_nu x a + x a) / 10 = nI (sd_nu x a) := by
        rw [show nI (10 * sd_nu x a + x a) / 10 = nI ((10 * sd_nu x a + x a) / 10) from pk_div (d := 10) (by omega) (by decide) (by decide)]
        exact congrArg nI (by omega)
      exact br_f nb (br_f (nI_ne0 (by omega) (by omega)) ⟨by decide, nm_r e1 ⟨by decide, nm_r e2 (nm_r (nI_pred (sd_dg x a)) (br_f sn (nm_r (nI_pred a) ⟨va, eW, R⟩)))⟩⟩)
theorem sd_ten (x : Int32) : x < 0 ∨ (¬ x < 0 ∧ ¬ x ≤ 10) ∨ ∃ p, p ≤ 10 ∧ x = nI p := by
  by_cases h0 : x < 0
  · exact Or.inl h0
  · by_cases h1 : x ≤ 10
    · obtain ⟨j, hj, e⟩ := nI_of2 (M := 10) (n := 10) (by decide) h0 h1
      exact Or.inr (Or.inr ⟨j, hj, e⟩)
    · exact Or.inr (Or.inl ⟨h0, h1⟩)
theorem sy_44 (bd bs : Int32) (V : Nat → Int32) {W : Nat → Int32} {x : Nat → Nat} {n k : Nat} (hx : sd_tx x n W) (hk : k ≤ 10) (h8 : n < 9) (post : Int32 → SY → Prop) (hp : post (nI (sd_dg (sd_app x n k) (n + 1))) (nI (n + 1), bd, bs, V, upd W n (nI k))) : wY_type_44 post (nI k) (nI n) bd bs V W := by
  have a1 := sd_app_x hk hx.1
  have a2 := sd_app_W (k := k) hx.2.1
  refine ⟨vp_in_nI h8 (by decide), nm_r (e' := upd W n (nI k)) (by rw [nI_clamp (by omega)]) (nm_r (nI_1 n) (sy_cd0 bd bs V a1 a2 (by omega) _ hp))⟩
theorem i_vc_type {k : Nat} {u : SX} {v : SY} (I : i_Rel k u v) (hk : k + 4 ≤ 2048) (v1 : Int32) : wpX_type (fun r u' => wpY_type (fun r' v' => r' = r ∧ i_Rel (k + 4) u' v') v v1) u v1 := by
  obtain ⟨x, n, bd, bs, T, V, W, hx, HT, HV, rfl, rfl⟩ := I
  have R := sd_rel (k + 4) bd bs hx HT HV
  have h9 := sd_tx_9 hx
  have hnu := sd_tx_nu hx
  obtain ⟨h1, h2, h3, h4⟩ := id hx
  have hn := sd_tx_n x n
  have hb := sd_bh_le x n
  rcases sd_ten v1 with h | ⟨h, g⟩ | ⟨p, hp, rfl⟩
  · exact br_t h (br_t h ⟨rfl, R⟩)
  · exact br_f h (br_f g (br_f h (br_f g ⟨rfl, R⟩)))
  · have p0 : ¬ nI p < 0 := nI_pos (by omega)
    have p1 : nI p ≤ 10 := nI_le (b := 10) hp (by decide)
    obtain ⟨c1, c2, c3, c4⟩ := sd_app_c x n p
    have cn := sd_app_n x n p
    by_cases e : p = 10
    · have pe : nI p = 10 := by rw [e]; rfl
      have en : sd_app x n p n = 10 := by rw [cn, e]
      refine br_f p0 (br_t p1 (br_t pe ?_))
      by_cases z : sd_pt x n = 0
      · have eb : sd_db x n = -1 := if_pos z
        have hx' : sd_tx (sd_app x n p) (n + 1) (upd W n (nI p)) := ⟨sd_app_x hp h1, sd_app_W h2, by rw [sd_pt_p en, c2]; omega, by rw [sd_dg_p en, c1]; exact h4⟩
        have R' := sd_rel (k + 4) bd bs hx' HT HV
        have eb' : sd_db (sd_app x n p) (n + 1) = nI (sd_dg x n) := by
          unfold sd_db
          rw [sd_pt_p en, if_neg (by omega), sd_dg_p en, sd_bh_p en, c1, c3, sd_bh_0 x n z]
          rfl
        rw [eb', sd_nu_p en, sd_dg_p en, c1, c4] at R'
        refine br_t eb (br_f p0 (br_t p1 (sy_cd0 bd bs V h1 h2 h9 _ (br_t pe (br_t (nI_le (by omega) (by omega)) (sy_44 bd bs V hx hp (by omega) _ ⟨?_, R'⟩))))))
        rw [sd_dg_p en, c1]
      · have eb : ¬ sd_db x n = -1 := by
          unfold sd_db
          rw [if_neg z]
          exact sd_m1 (by omega)
        exact br_f eb (br_f p0 (br_t p1 (sy_cd0 bd bs V h1 h2 h9 _ (br_t pe (br_f (nI_ge (by omega) (by omega)) ⟨rfl, R⟩)))))
    · have pe : ¬ nI p = 10 := fun y => e ((nI_eq (b := 10) (by omega) (by decide)).mp y)
      have en : sd_app x n p n ≠ 10 := by rw [cn]; exact e
      refine br_f p0 (br_t p1 (br_f pe ?_))
      by_cases z : sd_dg x n = 8
      · have z8 : nI (sd_dg x n) = 8 := by rw [z]; rfl
        exact br_t z8 (br_f p0 (br_t p1 (sy_cd0 bd bs V h1 h2 h9 _ (br_f pe (br_t z8 ⟨rfl, R⟩)))))
      · have z8 : ¬ nI (sd_dg x n) = 8 := fun y => z ((nI_eq (b := 8) (by omega) (by decide)).mp y)
        have hx' : sd_tx (sd_app x n p) (n + 1) (upd W n (nI p)) := ⟨sd_app_x hp h1, sd_app_W h2, by rw [sd_pt_d en, c2]; exact h3, by rw [sd_dg_d en, c1]; omega⟩
        have R' := sd_rel (k + 4) bd bs hx' HT HV
        have eb' : sd_db (sd_app x n p) (n + 1) = sd_db x n := by
          unfold sd_db
          rw [sd_pt_d en, c2]
          by_cases y : sd_pt x n = 0
          · rw [if_pos y, if_pos y]
          · rw [if_neg y, if_neg y, sd_dg_d en, sd_bh_d en, c1, c2, c3, if_neg y, Nat.add_sub_add_right]
        rw [eb', sd_nu_d en, sd_dg_d en, c1, c4, cn] at R'
        have e1 : nI (sd_nu x n) * 10 + nI p = nI (10 * sd_nu x n + p) := by
          rw [show nI (sd_nu x n) * 10 = nI (sd_nu x n * 10) from pk_mul _ 10, nI_add, Nat.mul_comm]
        refine br_f z8 (nm_r e1 (nm_r (nI_1 (sd_dg x n)) (br_f p0 (br_t p1 (sy_cd0 bd bs V h1 h2 h9 _ (br_f pe (br_f z8 (sy_44 bd bs V hx hp (by omega) _ ⟨?_, R'⟩))))))))
        rw [sd_dg_d en, c1]
end
