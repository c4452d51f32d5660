/-! X: code, decimal, units, comparing, reaching, reading, naming -/
def sx_T (T : Nat → Int64) : Prop := ∀ j, j < 19 → T j = lN (10 ^ j)
def sd_sg (h d t : Nat) : Int32 := if sd_L h t = sd_R d t then 0 else if sd_L h t < sd_R d t then (-1) else 1
theorem sd_sg_lt {h d t : Nat} (l : sd_L h t < sd_R d t) : sd_sg h d t = -1 := by
  unfold sd_sg
  rw [if_neg (Nat.ne_of_lt l), if_pos l]
theorem sd_sg_eq {h d t : Nat} (l : sd_L h t = sd_R d t) : sd_sg h d t = 0 := if_pos l
theorem sd_sg_gt {h d t : Nat} (l : sd_R d t < sd_L h t) : sd_sg h d t = 1 := by
  unfold sd_sg
  rw [if_neg (Nat.ne_of_gt l), if_neg (Nat.lt_asymm l)]
theorem sd_code (x : Int32) : (x < 0 ∨ 1023 < x) ∨ ∃ c, c < 1024 ∧ x = nI c := by
  by_cases h0 : x < 0
  · exact Or.inl (Or.inl h0)
  · by_cases h1 : 1023 < x
    · exact Or.inl (Or.inr h1)
    · obtain ⟨j, hj, e⟩ := nI_of2 (M := 1023) (n := 1023) (by decide) h0 (Int32.not_lt.mp h1)
      exact Or.inr ⟨j, by omega, e⟩
theorem sd_deci (x y : Int32) : (x < 0 ∨ 99999999 < x ∨ y < -12 ∨ 6 < y) ∨ ∃ d t, d ≤ 99999999 ∧ t < 19 ∧ x = nI d ∧ y = sd_q t := by
  by_cases h0 : x < 0
  · exact Or.inl (Or.inl h0)
  · by_cases h1 : 99999999 < x
    · exact Or.inl (Or.inr (Or.inl h1))
    · by_cases h2 : y < -12
      · exact Or.inl (Or.inr (Or.inr (Or.inl h2)))
      · by_cases h3 : 6 < y
        · exact Or.inl (Or.inr (Or.inr (Or.inr h3)))
        · obtain ⟨j, hj, e⟩ := nI_of2 (M := 99999999) (n := 99999999) (by decide) h0 (Int32.not_lt.mp h1)
          obtain ⟨t, ht, e2⟩ := sd_q_of (Int32.not_lt.mp h2) (Int32.not_lt.mp h3)
          exact Or.inr ⟨j, t, hj, ht, e, e2⟩
theorem sx_isCode0 (post : Int32 → Prop) {x : Int32} (h : x < 0 ∨ 1023 < x) (hp : post 0) : wpX_isCode post x :=
  br_c (fun _ => hp) (fun h0 => br_c (fun _ => hp) (fun h1 => absurd h (fun z => z.elim h0 h1)))
theorem sx_isCode1 (post : Int32 → Prop) {c : Nat} (h : c < 1024) (hp : post 1) : wpX_isCode post (nI c) :=
  br_f (nI_pos (by omega)) (br_f (nI_nlt (a := 1023) (b := c) (by omega) (by decide)) hp)
theorem sx_isDec0 (post : Int32 → Prop) {x y : Int32} (h : x < 0 ∨ 99999999 < x ∨ y < -12 ∨ 6 < y) (hp : post 0) : wpX_isDecimal post x y :=
  br_c (fun _ => hp) (fun h0 => br_c (fun _ => hp) (fun h1 => br_c (fun _ => hp) (fun h2 => br_c (fun _ => hp) (fun h3 => absurd h (fun z => z.elim h0 (fun z => z.elim h1 (fun z => z.elim h2 h3)))))))
theorem sx_isDec1 (post : Int32 → Prop) {d t : Nat} (hd : d ≤ 99999999) (ht : t < 19) (hp : post 1) : wpX_isDecimal post (nI d) (sd_q t) :=
  br_f (nI_pos (by omega)) (br_f (nI_nlt (a := 99999999) (b := d) (by omega) (by decide)) (br_f (Int32.not_lt.mpr (sd_q_lo t ht)) (br_f (Int32.not_lt.mpr (sd_q_hi t ht)) hp)))
theorem sd_shc : ∀ e, e < 17 → 0 < e → (((nI e - 1) &&& 31).toBitVec.smod 32).toNat = e - 1 := by decide +kernel
theorem sd_uv {c : Nat} (hc : c < 1025) (h : ¬ c < 64) : ((64 : Int32) + nI (c % 64)) <<< ((nI (c / 64) - 1) &&& 31) = nI (sd_v c) := by
  have e : sd_v c = (64 + c % 64) * 2 ^ (c / 64 - 1) := if_neg h
  have b := sd_v_le c hc
  rw [e] at b ⊢
  rw [show (64 : Int32) + nI (c % 64) = nI (64 + c % 64) from nI_add 64 _]
  exact pk_shlN _ _ (sd_shc _ (by omega) (by omega)) (Nat.lt_of_le_of_lt b (by decide))
theorem sd_vs {c : Nat} (h : c < 64) : sd_v c = c := if_pos h
theorem sx_unitsOf (post : Int32 → Prop) {c : Nat} (hc : c < 1025) (hp : post (nI (sd_v c))) : wpX_unitsOf post (nI c) := by
  refine ⟨by decide, nm_r (pk_div (d := 64) (by omega) (by decide) (by decide)) ⟨by decide, nm_r (pk_rem (d := 64) (by omega) (by decide) (by decide)) ?_⟩⟩
  by_cases h : c < 64
  · rw [sd_vs h] at hp
    rw [show c / 64 = 0 by omega, show c % 64 = c by omega]
    exact br_t nI_0 hp
  · refine br_f (nI_ne0 (by omega) (by omega)) ?_
    rw [sd_uv hc h]
    exact hp
theorem sd_L_bd {h : Nat} (t : Nat) (hh : h ≤ 4194304) : sd_L h t < 2 ^ 63 := by
  unfold sd_L
  split
  · exact Nat.lt_of_le_of_lt (Nat.mul_le_mul hh (Nat.pow_le_pow_right (n := 10) (by decide) (show 12 - t ≤ 12 by omega))) (by decide)
  · exact Nat.lt_of_le_of_lt hh (by decide)
theorem sd_R_bd {d t : Nat} (hd : d ≤ 100000000) (ht : t < 19) : sd_R d t < 2 ^ 63 := by
  unfold sd_R
  split
  · exact Nat.lt_of_le_of_lt (Nat.mul_le_mul_left 1024 hd) (by decide)
  · exact Nat.lt_of_le_of_lt (Nat.mul_le_mul (Nat.mul_le_mul_left 1024 hd) (Nat.pow_le_pow_right (n := 10) (by decide) (show t - 12 ≤ 6 by omega))) (by decide)
theorem sx_cmp42 (post : Int32 → Prop) {A B : Nat} (fn fd fb : Int32) (T : Nat → Int64) (hA : A < 2 ^ 63) (hB : B < 2 ^ 63) (hp : post (if A = B then 0 else if A < B then (-1) else 1)) : wX_compareHalfUnits_42 post (lN A) (lN B) fn fd fb T := by
  by_cases e : A = B
  · rw [if_pos e] at hp
    exact br_t (by rw [e]) hp
  · rw [if_neg e] at hp
    refine br_f (fun z => e ((pk_lEQ hA hB).mp z)) ?_
    by_cases l : A < B
    · rw [if_pos l] at hp
      exact br_f (fun z => absurd ((pk_lLE hB hA).mp z) (by omega)) hp
    · rw [if_neg l] at hp
      exact br_t ((pk_lLE hB hA).mpr (by omega)) hp
theorem sx_cmp {T : Nat → Int64} (HT : sx_T T) (fn fd fb : Int32) (post : Int32 → Prop) {h d t : Nat} (hh : h ≤ 4194304) (hd : d ≤ 100000000) (ht : t < 19) (hp : post (sd_sg h d t)) : wpX_compareHalfUnits post (fn, fd, fb, T) (nI h) (nI d) (sd_q t) := by
  have e1 : 1024 * (nI d).toInt64 = lN (1024 * d) := by
    rw [nI_l (by omega)]
    exact lN_mul 1024 d
  have bL := sd_L_bd t hh
  have bR := sd_R_bd hd ht
  unfold sd_sg at hp
  refine nm_r e1 ?_
  by_cases k : t < 12
  · have q0 : ¬ 0 ≤ sd_q t := by rw [sd_q_ge t ht]; omega
    have eq := sd_q_n t k
    have eL : sd_L h t = h * 10 ^ (12 - t) := if_pos k
    have eR : sd_R d t = 1024 * d := if_pos k
    rw [eL, eR] at hp
    rw [eL] at bL
    rw [eR] at bR
    refine br_f q0 ⟨by rw [eq]; exact vp_in_nI (by omega) (by decide), nm_r (e' := lN (h * 10 ^ (12 - t))) ?_ ?_⟩
    · rw [eq, nI_clamp (by omega), HT _ (by omega), nI_l (by omega), lN_mul]
    · exact sx_cmp42 post fn fd fb T bL bR hp
  · have q0 : 0 ≤ sd_q t := by rw [sd_q_ge t ht]; omega
    have eq := sd_q_p t ht (by omega)
    have eL : sd_L h t = h := if_neg k
    have eR : sd_R d t = 1024 * d * 10 ^ (t - 12) := if_neg k
    rw [eL, eR] at hp
    rw [eL] at bL
    rw [eR] at bR
    refine br_t q0 ⟨by rw [eq]; exact vp_in_nI (by omega) (by decide), nm_r (e' := lN (1024 * d * 10 ^ (t - 12))) ?_ ?_⟩
    · rw [eq, nI_clamp (by omega), HT _ (by omega), lN_mul]
    · rw [nI_l (by omega)]
      exact sx_cmp42 post fn fd fb T bL bR hp
theorem sx_reaches {T : Nat → Int64} (HT : sx_T T) (fn fd fb : Int32) (post : Int32 → Prop) {c d t : Nat} (hc : c < 1025) (hd : d ≤ 100000000) (ht : t < 19) (hp : post (if sd_re c d t = true then 1 else 0)) : wpX_reaches post (fn, fd, fb, T) (nI c) (nI d) (sd_q t) := by
  by_cases z : c = 0
  · subst z
    rw [if_pos (sd_re_0 d t)] at hp
    exact br_t nI_0 hp
  · refine br_f (nI_ne0 (by omega) (by omega)) ?_
    obtain ⟨a, rfl⟩ : ∃ a, c = a + 1 := ⟨c - 1, by omega⟩
    rw [nI_pred a]
    refine sx_unitsOf _ (by omega) (sx_unitsOf _ hc (nm_r (show nI (sd_v a) + nI (sd_v (a + 1)) = nI (sd_b (a + 1)) from nI_add _ _) (sx_cmp HT fn fd fb _ (sd_b_le hc) hd ht ?_)))
    rcases Nat.lt_trichotomy (sd_L (sd_b (a + 1)) t) (sd_R d t) with l | l | l
    · rw [sd_sg_lt l]
      rw [if_pos (sd_re_iff.mpr (Or.inr (Or.inl l)))] at hp
      exact br_t (by decide) hp
    · rw [sd_sg_eq l]
      refine br_f (by decide) (br_t rfl ⟨by decide, ?_⟩)
      rw [show nI (a + 1) - nI (a + 1) / 2 * 2 = nI ((a + 1) % 2) from pk_rem (d := 2) (by omega) (by decide) (by decide)]
      by_cases p : (a + 1) % 2 = 0
      · rw [if_pos (sd_re_iff.mpr (Or.inr (Or.inr ⟨l, p⟩)))] at hp
        rw [p]
        exact br_t nI_0 hp
      · have r : ¬ sd_re (a + 1) d t = true := by
          rw [sd_re_iff]
          generalize sd_L (sd_b (a + 1)) t = A at *
          generalize sd_R d t = B at *
          omega
        rw [if_neg r] at hp
        exact br_f (nI_ne0 (by omega) (by omega)) hp
    · have r : ¬ sd_re (a + 1) d t = true := by
        rw [sd_re_iff]
        generalize sd_L (sd_b (a + 1)) t = A at *
        generalize sd_R d t = B at *
        omega
      rw [if_neg r] at hp
      rw [sd_sg_gt l]
      exact br_f (by decide) (br_f (by decide) hp)
theorem sd_bit : ∀ b, b < 11 → (1 : Int32) <<< (nI b &&& 31) = nI (2 ^ b) := by decide +kernel
theorem sx_cn6 {T : Nat → Int64} (HT : sx_T T) (fn fd fb : Int32) (post : Int32 → Prop) {d t : Nat} (hd : d ≤ 100000000) (ht : t < 19) : ∀ b x n, b < n → b < 11 → x + 2 ^ b ≤ 1024 → post (nI (sd_cb d t b x)) → wX_codeNearest_6 post (nI d) (sd_q t) fn fd fb T n (nI x) (nI b + (-1)) := by
  intro b
  induction b with
  | zero =>
    intro x n hn _ _ hp
    obtain ⟨m, rfl⟩ : ∃ m, n = m + 1 := ⟨n - 1, by omega⟩
    exact br_t (by decide) hp
  | succ b ih =>
    intro x n hn hb hx hp
    obtain ⟨m, rfl⟩ : ∃ m, n = m + 1 := ⟨n - 1, by omega⟩
    have p : 2 ^ (b + 1) = 2 ^ b + 2 ^ b := by rw [Nat.pow_succ]; omega
    have q : 0 < 2 ^ b := Nat.two_pow_pos b
    rw [pk_m1]
    have hp' : post (nI (sd_cb d t b (if sd_re (x + 2 ^ b) d t = true then x + 2 ^ b else x))) := hp
    refine br_f (nI_pos (by omega)) (nm_r (e' := nI (x + 2 ^ b)) (by rw [sd_bit b (by omega), nI_add]) (sx_reaches HT fn fd fb _ (by omega) hd ht ?_))
    by_cases r : sd_re (x + 2 ^ b) d t = true
    · rw [if_pos r] at hp' ⊢
      exact br_f (by decide) (nm_e (ih _ m (by omega) (by omega) (by omega) hp'))
    · rw [if_neg r] at hp' ⊢
      exact br_t rfl (nm_e (ih _ m (by omega) (by omega) (by omega) hp'))
theorem sx_cn {T : Nat → Int64} (HT : sx_T T) (fn fd fb : Int32) (post : Int32 → Prop) {d t : Nat} (hd : d ≤ 100000000) (ht : t < 19) (hp : post (nI (sd_rd d t))) : wpX_codeNearest post (fn, fd, fb, T) (nI d) (sd_q t) := by
  have h := sx_cn6 HT fn fd fb post hd ht 10 0 11 (by decide) (by decide) (by decide) hp
  rw [show nI 10 + (-1) = 9 by decide +kernel] at h
  exact ⟨11, h⟩
theorem sx_nm {T : Nat → Int64} (HT : sx_T T) (fn fd fb : Int32) (post : Int32 → Prop) {c d t : Nat} (hc : c < 1024) (hd : d ≤ 100000000) (ht : t < 19) (hp : post (if sd_nm c d t = true then 1 else 0)) : wpX_isNamedBy post (fn, fd, fb, T) (nI c) (nI d) (sd_q t) := by
  unfold wpX_isNamedBy
  dsimp only
  refine sx_reaches (c := c) (d := d) (t := t) HT fn fd fb _ (by omega) hd ht ?_
  unfold sd_nm at hp
  by_cases r : sd_re c d t = true
  · rw [if_pos r]
    refine br_f (by decide) ?_
    rw [nI_1 c]
    refine sx_reaches HT fn fd fb _ (by omega) hd ht ?_
    by_cases s : sd_re (c + 1) d t = true
    · rw [if_neg (by rw [r, s]; decide)] at hp
      rw [if_pos s]
      exact br_f (by decide) hp
    · rw [if_pos (by rw [r, eq_false_of_ne_true s]; rfl)] at hp
      rw [if_neg s]
      exact br_t rfl hp
  · rw [if_neg (by rw [eq_false_of_ne_true r]; exact Bool.false_ne_true)] at hp
    rw [if_neg r]
    exact br_t rfl hp
