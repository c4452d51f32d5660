/-! X: floor, digits, distance, better, candidate, short scale, rounding -/
def sd_g (c : Nat) (s : Nat × Nat) : Prop := s.2 < 19 ∧ s.1 ≤ 99999999 ∧ (s.1 = 0 ∨ sd_nm c s.1 s.2 = true)
theorem sd_g_bd {c : Nat} {s : Nat × Nat} (hc : c < 1024) (h : sd_g c s) : s.1 = 0 ∨ 512 * s.1 * 10 ^ s.2 ≤ 2097152000000000000 :=
  h.2.2.elim Or.inl (fun z => Or.inr (sd_nm_bd hc z))
theorem sd_cs_g {c t d b : Nat} (hd : d ≤ 100000000) (h : b ≤ 99999999 ∧ (b = 0 ∨ sd_nm c b t = true)) : sd_cs c t d b ≤ 99999999 ∧ (sd_cs c t d b = 0 ∨ sd_nm c (sd_cs c t d b) t = true) := by
  unfold sd_cs
  by_cases m : d % 10 = 0
  · rw [if_pos m]; exact h
  · rw [if_neg m]
    by_cases r : sd_nm c d t = true
    · rw [if_pos r]
      by_cases w : sd_bt c d t b t = true
      · rw [if_pos w]; exact ⟨by omega, Or.inr r⟩
      · rw [if_neg w]; exact h
    · rw [if_neg r]; exact h
theorem sd_ca_g (c t : Nat) : sd_ca c t ≤ 99999999 ∧ (sd_ca c t = 0 ∨ sd_nm c (sd_ca c t) t = true) := by
  unfold sd_ca
  by_cases z : c = 0
  · rw [if_pos z]; exact ⟨by omega, Or.inl rfl⟩
  · rw [if_neg z]
    by_cases k : 99999999 < sd_fl c t
    · rw [if_pos k]; exact ⟨by omega, Or.inl rfl⟩
    · rw [if_neg k]
      exact sd_cs_g (by omega) (sd_cs_g (by omega) ⟨by omega, Or.inl rfl⟩)
theorem sd_ss_g {c t : Nat} {s : Nat × Nat} (ht : t < 19) (h : sd_g c s) : sd_g c (sd_ss c t s) := by
  unfold sd_ss
  by_cases z : sd_ca c t = 0
  · rw [if_pos z]; exact h
  · rw [if_neg z]
    by_cases w : sd_bt c (sd_ca c t) t s.1 s.2 = true
    · rw [if_pos w]; exact ⟨ht, (sd_ca_g c t).1, (sd_ca_g c t).2⟩
    · rw [if_neg w]; exact h
theorem sd_sh_g (c : Nat) : ∀ n, n ≤ 19 → sd_g c (sd_sh c n) := by
  intro n
  induction n with
  | zero => exact fun _ => ⟨(by decide : (12 : Nat) < 19), (by decide : (0 : Nat) ≤ 99999999), Or.inl rfl⟩
  | succ n ih => exact fun h => sd_ss_g (by omega) (ih (by omega))
theorem sd_ab_le {a b m : Nat} (ha : a ≤ m) (hb : b ≤ m) : sd_ab a b ≤ m := by
  unfold sd_ab
  split <;> omega
theorem sd_v12 {c : Nat} (hc : c < 1025) : sd_v c * 10 ^ 12 ≤ 2097152000000000000 := by
  have h := sd_v_le c hc
  rw [show (10 : Nat) ^ 12 = 1000000000000 by decide]
  omega
theorem sd_ds_le {c d t : Nat} (hc : c < 1025) (hb : 512 * d * 10 ^ t ≤ 2097152000000000000) : sd_ds c d t ≤ 2097152000000000000 :=
  sd_ab_le (sd_v12 hc) hb
theorem sx_whole {T : Nat → Int64} (HT : sx_T T) (fn fd fb : Int32) (post : Int64 → Prop) {c t : Nat} (hc : c < 1025) (ht : t < 19) (hp : post (lN (sd_fl c t))) : wpX_wholePart post (fn, fd, fb, T) (nI c) (sd_q t) := by
  have hv := sd_v_le c hc
  unfold wpX_wholePart
  dsimp only
  refine sx_unitsOf _ hc ?_
  by_cases k : t < 12
  · have q0 : ¬ 0 ≤ sd_q t := by rw [sd_q_ge t ht]; omega
    have eq := sd_q_n t k
    have bL : sd_v c * 10 ^ (12 - t) < 2 ^ 63 := Nat.lt_of_le_of_lt (Nat.mul_le_mul hv (Nat.pow_le_pow_right (n := 10) (by decide) (show 12 - t ≤ 12 by omega))) (by decide)
    have ef : lN (sd_v c * 10 ^ (12 - t)) / 512 = lN (sd_fl c t) := by
      rw [show sd_fl c t = sd_v c * 10 ^ (12 - t) / 512 from if_pos k]
      exact pk_lDiv (b := 512) bL (by decide) (by decide)
    refine br_f q0 ⟨by rw [eq]; exact vp_in_nI (by omega) (by decide), by decide, ?_⟩
    rw [eq, nI_clamp (by omega), HT _ (by omega), nI_l (by omega), lN_mul, ef]
    exact hp
  · have q0 : 0 ≤ sd_q t := by rw [sd_q_ge t ht]; omega
    have eq := sd_q_p t ht (by omega)
    have bP : 512 * 10 ^ (t - 12) < 2 ^ 63 := Nat.lt_of_le_of_lt (Nat.mul_le_mul_left 512 (Nat.pow_le_pow_right (n := 10) (by decide) (show t - 12 ≤ 6 by omega))) (by decide)
    have pP : 0 < 512 * 10 ^ (t - 12) := Nat.mul_pos (by decide) (Nat.pow_pos (by decide))
    have eT : (512 : Int64) * T (sd_q t).toNatClampNeg = lN (512 * 10 ^ (t - 12)) := by
      rw [eq, nI_clamp (by omega), HT _ (by omega)]
      exact lN_mul 512 _
    have ef : lN (sd_v c) / lN (512 * 10 ^ (t - 12)) = lN (sd_fl c t) := by
      rw [show sd_fl c t = sd_v c / (512 * 10 ^ (t - 12)) from if_neg k]
      exact pk_lDiv (by omega) pP bP
    refine br_t q0 ⟨by rw [eq]; exact vp_in_nI (by omega) (by decide), ?_, ?_⟩
    · rw [eT]
      intro z
      have := (pk_lEQ (b := 0) bP (by decide)).mp z
      omega
    · rw [eT, nI_l (by omega), ef]
      exact hp
theorem sx_count2 {T : Nat → Int64} (HT : sx_T T) (fn fd fb : Int32) (post : Int32 → Prop) {d : Nat} (hd : d ≤ 100000000) (hp : post (nI (sd_dc d))) : ∀ m k n, sd_dc d - k = m → 1 ≤ k → k ≤ sd_dc d → m < n → wX_countDigits_2 post (nI d) fn fd fb T n (nI k) := by
  have b8 := (sd_dc_in d).2
  intro m
  induction m with
  | zero =>
    intro k n hm h1 hk hn
    obtain ⟨n, rfl⟩ : ∃ m, n = m + 1 := ⟨n - 1, by omega⟩
    have e : k = sd_dc d := by omega
    by_cases k8 : 8 ≤ k
    · exact br_t (nI_le (a := 8) k8 (by omega)) (e ▸ hp)
    · refine br_f (nI_ge (b := 8) (by omega) (by decide)) ⟨vp_in_nI (by omega) (by decide), ?_⟩
      have g := sd_dc_ge d k h1 (by omega)
      have bk : 10 ^ k < 2 ^ 63 := Nat.lt_of_le_of_lt (Nat.pow_le_pow_right (n := 10) (by decide) (show k ≤ 8 by omega)) (by decide)
      rw [nI_clamp (by omega), HT k (by omega), nI_l (by omega)]
      refine br_t ((pk_lLT (by omega) bk).mpr ?_) (e ▸ hp)
      have : ¬ k < sd_dc d := by omega
      rw [← g] at this
      omega
  | succ m ih =>
    intro k n hm h1 hk hn
    obtain ⟨n, rfl⟩ : ∃ m, n = m + 1 := ⟨n - 1, by omega⟩
    refine br_f (nI_ge (b := 8) (by omega) (by decide)) ⟨vp_in_nI (by omega) (by decide), ?_⟩
    have g := sd_dc_ge d k h1 (by omega)
    have bk : 10 ^ k < 2 ^ 63 := Nat.lt_of_le_of_lt (Nat.pow_le_pow_right (n := 10) (by decide) (show k ≤ 8 by omega)) (by decide)
    rw [nI_clamp (by omega), HT k (by omega), nI_l (by omega)]
    refine br_f (fun z => ?_) (nm_r (nI_1 k) (ih (k + 1) n (by omega) (by omega) (by omega) (by omega)))
    have z' := (pk_lLT (by omega) bk).mp z
    have : k < sd_dc d := by omega
    rw [← g] at this
    omega
theorem sx_count {T : Nat → Int64} (HT : sx_T T) (fn fd fb : Int32) (post : Int32 → Prop) {d : Nat} (hd : d ≤ 100000000) (hp : post (nI (sd_dc d))) : wpX_countDigits post (fn, fd, fb, T) (nI d) :=
  ⟨_, sx_count2 HT fn fd fb post hd hp (sd_dc d - 1) 1 (sd_dc d - 1 + 1) rfl (by decide) (sd_dc_in d).1 (by omega)⟩
theorem sx_dist {T : Nat → Int64} (HT : sx_T T) (fn fd fb : Int32) (post : Int64 → Prop) {c d t : Nat} (hc : c < 1025) (hd : d ≤ 100000000) (ht : t < 19) (hb : 512 * d * 10 ^ t ≤ 2097152000000000000) (hp : post (lN (sd_ds c d t))) : wpX_distanceFrom post (fn, fd, fb, T) (nI c) (nI d) (sd_q t) := by
  have hv := sd_v_le c hc
  have hA : sd_v c * 10 ^ 12 < 2 ^ 63 := Nat.lt_of_le_of_lt (sd_v12 hc) (by decide)
  have hB : 512 * d * 10 ^ t < 2 ^ 63 := Nat.lt_of_le_of_lt hb (by decide)
  unfold wpX_distanceFrom
  dsimp only
  refine sx_unitsOf _ hc (nm_r (e' := lN (sd_v c * 10 ^ 12)) ?_ ⟨?_, nm_r (e' := lN (512 * d * 10 ^ t)) ?_ ?_⟩)
  · rw [HT 12 (by decide), nI_l (by omega), lN_mul]
  · rw [sd_q_m12 t ht]
    exact vp_in_nI ht (by decide)
  · rw [sd_q_m12 t ht, nI_clamp (by omega), HT t ht, nI_l (by omega), show (512 : Int64) * lN d = lN (512 * d) from lN_mul 512 d, lN_mul]
  · unfold sd_ds sd_ab at hp
    generalize sd_v c * 10 ^ 12 = A at hA hp ⊢
    generalize 512 * d * 10 ^ t = B at hB hp ⊢
    by_cases l : A < B
    · rw [if_pos l] at hp
      refine br_f (fun z => absurd ((pk_lLE hB hA).mp z) (by omega)) ?_
      rw [lN_sub (by omega)]
      exact hp
    · rw [if_neg l] at hp
      refine br_t ((pk_lLE hB hA).mpr (by omega)) ?_
      rw [lN_sub (by omega)]
      exact hp
theorem sx_better {T : Nat → Int64} (HT : sx_T T) (fn fd fb : Int32) (post : Int32 → Prop) {c d t e s : Nat} (hc : c < 1025) (hd : d ≤ 100000000) (ht : t < 19) (he : e ≤ 100000000) (hs : s < 19) (hb : 512 * d * 10 ^ t ≤ 2097152000000000000) (hb2 : e = 0 ∨ 512 * e * 10 ^ s ≤ 2097152000000000000) (hp : post (if sd_bt c d t e s = true then 1 else 0)) : wpX_isBetter post (fn, fd, fb, T) (nI c) (nI d) (sd_q t) (nI e) (sd_q s) := by
  by_cases z : e = 0
  · subst z
    have w : sd_bt c d t 0 s = true := if_pos rfl
    rw [if_pos w] at hp
    exact br_t nI_0 hp
  · have hb3 := hb2.resolve_left z
    have l1 : sd_ds c d t < 2 ^ 63 := Nat.lt_of_le_of_lt (sd_ds_le hc hb) (by decide)
    have l2 : sd_ds c e s < 2 ^ 63 := Nat.lt_of_le_of_lt (sd_ds_le hc hb3) (by decide)
    have b1 := sd_dc_in d
    have b2 := sd_dc_in e
    unfold sd_bt at hp
    rw [if_neg z] at hp
    refine br_f (nI_ne0 (by omega) (by omega)) (sx_count HT fn fd fb _ hd (sx_count HT fn fd fb _ he ?_))
    by_cases k : sd_dc d = sd_dc e
    · rw [if_pos k] at hp
      refine br_t (by rw [k]) (sx_dist HT fn fd fb _ hc hd ht hb (sx_dist HT fn fd fb _ hc he hs hb3 ?_))
      by_cases l : sd_ds c d t = sd_ds c e s
      · rw [if_pos l] at hp
        refine br_t (by rw [l]) ?_
        by_cases m : d < e
        · rw [if_pos (decide_eq_true m)] at hp
          exact br_f (nI_ge m (by omega)) hp
        · rw [if_neg (fun y => m (of_decide_eq_true y))] at hp
          exact br_t (nI_le (by omega) (by omega)) hp
      · rw [if_neg l] at hp
        refine br_f (fun y => l ((pk_lEQ l1 l2).mp y)) ?_
        by_cases m : sd_ds c d t < sd_ds c e s
        · rw [if_pos (decide_eq_true m)] at hp
          exact br_f (fun y => absurd ((pk_lLE l2 l1).mp y) (by omega)) hp
        · rw [if_neg (fun y => m (of_decide_eq_true y))] at hp
          exact br_t ((pk_lLE l2 l1).mpr (by omega)) hp
    · rw [if_neg k] at hp
      refine br_f (fun y => k ((nI_eq (by omega) (by omega)).mp y)) ?_
      by_cases m : sd_dc d < sd_dc e
      · rw [if_pos (decide_eq_true m)] at hp
        exact br_f (nI_ge m (by omega)) hp
      · rw [if_neg (fun y => m (of_decide_eq_true y))] at hp
        exact br_t (nI_le (by omega) (by omega)) hp
theorem sx_cs {T : Nat → Int64} (HT : sx_T T) (fn fd fb : Int32) (post : Int32 → Prop) {c t f d b n : Nat} (hc : c < 1024) (ht : t < 19) (hf : f ≤ 99999999) (hdf : d ≤ f + 1) (hb : b ≤ 99999999 ∧ (b = 0 ∨ sd_nm c b t = true)) (H : wX_candidateAt_34 post (nI c) (sd_q t) (nI f) fn fd fb T n (nI (sd_cs c t d b)) (nI (d + 1))) : wX_candidateAt_34 post (nI c) (sd_q t) (nI f) fn fd fb T (n + 1) (nI b) (nI d) := by
  unfold sd_cs at H
  refine br_f (by rw [nI_1]; exact nI_nlt hdf (by omega)) ⟨by decide, ?_⟩
  rw [show nI d - nI d / 10 * 10 = nI (d % 10) from pk_rem (d := 10) (by omega) (by decide) (by decide)]
  by_cases m : d % 10 = 0
  · rw [if_pos m] at H
    rw [m]
    exact br_t nI_0 (br_t rfl (nm_r (nI_1 d) H))
  · rw [if_neg m] at H
    refine br_f (nI_ne0 (by omega) (by omega)) (sx_nm HT fn fd fb _ hc (by omega) ht ?_)
    by_cases r : sd_nm c d t = true
    · rw [if_pos r] at H ⊢
      refine br_f (by decide) (br_f (by decide) (sx_better HT fn fd fb _ (by omega) (by omega) ht (by omega) ht (sd_nm_bd hc r) (hb.2.elim Or.inl (fun y => Or.inr (sd_nm_bd hc y))) ?_))
      by_cases w : sd_bt c d t b t = true
      · rw [if_pos w] at H ⊢
        exact br_f (by decide) (nm_r (nI_1 d) H)
      · rw [if_neg w] at H ⊢
        exact br_t rfl (nm_r (nI_1 d) H)
    · rw [if_neg r] at H ⊢
      exact br_t rfl (br_t rfl (nm_r (nI_1 d) H))
theorem sx_ca {T : Nat → Int64} (HT : sx_T T) (fn fd fb : Int32) (post : Int32 → Prop) {c t : Nat} (hc : c < 1024) (ht : t < 19) (hp : post (nI (sd_ca c t))) : wpX_candidateAt post (fn, fd, fb, T) (nI c) (sd_q t) := by
  have hl := sd_fl_le (show c < 1025 by omega) t
  by_cases z : c = 0
  · subst z
    have e : sd_ca 0 t = 0 := if_pos rfl
    rw [e] at hp
    exact br_t nI_0 hp
  · unfold sd_ca at hp
    rw [if_neg z] at hp
    refine br_f (nI_ne0 (by omega) (by omega)) (sx_whole HT fn fd fb _ (by omega) ht ?_)
    by_cases k : 99999999 < sd_fl c t
    · rw [if_pos k] at hp
      exact br_f (fun y => absurd ((pk_lLE (b := 99999999) (by omega) (by decide)).mp y) (by omega)) hp
    · rw [if_neg k] at hp
      refine br_t ((pk_lLE (b := 99999999) (by omega) (by decide)).mpr (by omega)) ⟨3, ?_⟩
      rw [lN_i]
      have hf : sd_fl c t ≤ 99999999 := by omega
      refine sx_cs HT fn fd fb post (b := 0) hc ht hf (by omega) ⟨by omega, Or.inl rfl⟩ (sx_cs HT fn fd fb post hc ht hf (by omega) (sd_cs_g (by omega) ⟨by omega, Or.inl rfl⟩) ?_)
      exact br_t (by rw [nI_1]; exact nI_lt (by omega) (by omega)) hp
theorem sx_ss8 {T : Nat → Int64} (HT : sx_T T) (fn fd fb : Int32) (post : Int32 → Prop) {c : Nat} (hc : c < 1024) (hp : post (sd_q (sd_sh c 19).2)) : ∀ m i n, i + m = 19 → m < n → wX_shortScale_8 post (nI c) fn fd fb T n (nI (sd_sh c i).1) (sd_q (sd_sh c i).2) (sd_q i) := by
  intro m
  induction m with
  | zero =>
    intro i n hi hn
    obtain ⟨n, rfl⟩ : ∃ m, n = m + 1 := ⟨n - 1, by omega⟩
    have e : i = 19 := by omega
    subst e
    exact br_t (by decide) hp
  | succ m ih =>
    intro i n hi hn
    obtain ⟨n, rfl⟩ : ∃ m, n = m + 1 := ⟨n - 1, by omega⟩
    have h := ih (i + 1) n (by omega) (by omega)
    have g := sd_sh_g c i (by omega)
    have ga := sd_ca_g c i
    rw [show sd_sh c (i + 1) = sd_ss c i (sd_sh c i) from rfl] at h
    generalize sd_sh c i = s at h g ⊢
    have gb := sd_g_bd hc g
    obtain ⟨g1, g2, g3⟩ := g
    unfold sd_ss at h
    refine br_f (Int32.not_lt.mpr (sd_q_hi i (by omega))) (sx_ca HT fn fd fb _ hc (by omega) ?_)
    by_cases z : sd_ca c i = 0
    · rw [if_pos z] at h
      rw [z]
      exact br_t nI_0 (nm_r (sd_q_s i) h)
    · rw [if_neg z] at h
      refine br_f (nI_ne0 (by omega) (by omega)) (sx_better HT fn fd fb _ (by omega) (by omega) (by omega) (by omega) g1 (sd_nm_bd hc (ga.2.resolve_left z)) gb ?_)
      by_cases w : sd_bt c (sd_ca c i) i s.1 s.2 = true
      · rw [if_pos w] at h ⊢
        exact br_f (by decide) (nm_r (sd_q_s i) h)
      · rw [if_neg w] at h ⊢
        exact br_t rfl (nm_r (sd_q_s i) h)
theorem sx_ss {T : Nat → Int64} (HT : sx_T T) (fn fd fb : Int32) (post : Int32 → Prop) {c : Nat} (hc : c < 1024) (hp : post (sd_q (sd_sh c 19).2)) : wpX_shortScale post (fn, fd, fb, T) (nI c) := by
  have h := sx_ss8 HT fn fd fb post hc hp 19 0 20 (by decide) (by decide)
  rw [show sd_sh c 0 = (0, 12) from rfl] at h
  dsimp only at h
  rw [sd_q_z, sd_q_0, nI_0] at h
  exact ⟨20, h⟩
