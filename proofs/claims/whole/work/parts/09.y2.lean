/-! Y: the search for the short decimal, places -/
theorem sd_ys_g {c m t x : Nat} {s : Nat × Nat} (ht : t < 19) (h : sd_g c s) : sd_g c (sd_ys c m t x s) := by
  unfold sd_ys
  by_cases a : 99999999 < x
  · rw [if_pos a]; exact h
  · rw [if_neg a]
    by_cases b : x % 10 = 0
    · rw [if_pos b]; exact h
    · rw [if_neg b]
      by_cases e : sd_dc x = m
      · rw [if_pos e]
        by_cases r : sd_nm c x t = true
        · rw [if_pos r]
          by_cases w : sd_yb c x t s = true
          · rw [if_pos w]; exact ⟨ht, (by omega : x ≤ 99999999), Or.inr r⟩
          · rw [if_neg w]; exact h
        · rw [if_neg r]; exact h
      · rw [if_neg e]; exact h
theorem sd_ty_g {c m t : Nat} {s : Nat × Nat} (ht : t < 19) (h : sd_g c s) : sd_g c (sd_ty c m t s) := by
  unfold sd_ty
  by_cases a : 100000001 < sd_fl c t
  · rw [if_pos a]; exact h
  · rw [if_neg a]
    exact sd_ys_g ht (sd_ys_g ht (sd_ys_g ht (sd_ys_g ht h)))
theorem sd_fq_g {c m : Nat} {s : Nat × Nat} (h : sd_g c s) : ∀ n, n ≤ 19 → sd_g c (sd_fq c m n s) := by
  intro n
  induction n with
  | zero => exact fun _ => h
  | succ n ih => exact fun hn => sd_ty_g (by omega) (ih (by omega))
theorem sd_ys0 (c m t : Nat) (s : Nat × Nat) : sd_ys c m t 0 s = s := by
  unfold sd_ys
  rw [if_neg (by decide), if_pos (by decide)]
theorem sy_ys (sz : Int32) {V : Nat → Int32} (HV : sy_V V) (W : Nat → Int32) (post : SY → Prop) {c m t f d n : Nat} {s : Nat × Nat} (hc : c < 1024) (hm : m < 9) (ht : t < 19) (hf : f ≤ 100000001) (hd : d < f + 3) (g : sd_g c s) (H : wY_tryNear_61 post (nI c) (nI m) (sd_q t) (lN f) sz V W n (nI (d + 1)) (nI (sd_ys c m t d s).1) (sd_q (sd_ys c m t d s).2)) : wY_tryNear_61 post (nI c) (nI m) (sd_q t) (lN f) sz V W (n + 1) (nI d) (nI s.1) (sd_q s.2) := by
  have gb := sd_g_bd hc g
  obtain ⟨g1, g2, g3⟩ := g
  refine br_f (fun y => ?_) ?_
  · rw [nI_l (by omega), show lN f + 3 = lN (f + 3) from lN_add f 3] at y
    have := (pk_lLE (by omega) (by omega)).mp y
    omega
  by_cases z : d = 0
  · subst z
    rw [sd_ys0] at H
    exact br_t (by decide) (nm_r (nI_1 0) H)
  refine br_f (nI_nle (by omega) (by omega)) ?_
  unfold sd_ys at H
  by_cases a : 99999999 < d
  · rw [if_pos a] at H
    exact br_t (nI_lt (a := 99999999) a (by omega)) (nm_r (nI_1 d) H)
  rw [if_neg a] at H
  refine br_f (nI_nlt (a := 99999999) (by omega) (by decide)) ⟨by decide, ?_⟩
  rw [show nI d - nI d / 10 * 10 = nI (d % 10) from pk_rem (d := 10) (by omega) (by decide) (by decide)]
  by_cases b : d % 10 = 0
  · rw [if_pos b] at H
    rw [b]
    exact br_t nI_0 (nm_r (nI_1 d) H)
  rw [if_neg b] at H
  have b8 := (sd_dc_in d).2
  refine br_f (nI_ne0 (by omega) (by omega)) (sy_dig sz (nI s.1) (sd_q s.2) V W _ (by omega) ?_)
  by_cases e : sd_dc d = m
  · rw [if_pos e] at H
    refine br_t (by rw [e]) (sy_nm sz (nI s.1) (sd_q s.2) HV W _ hc (by omega) ht ?_)
    by_cases r : sd_nm c d t = true
    · rw [if_pos r] at H ⊢
      have hb := sd_nm_bd hc r
      have l1 : sd_ds c d t ≤ 2097152000000000000 := sd_ds_le (by omega) hb
      refine br_f (by decide) (sy_gap sz (nI s.1) (sd_q s.2) HV W _ (by omega) (by omega) ht hb ?_)
      unfold sd_yb at H
      by_cases k : s.1 = 0
      · rw [if_pos k, if_pos rfl] at H
        refine br_t (by rw [k]; exact nI_0) (br_t ?_ (nm_r (nI_1 d) H))
        rw [lN_1]
        exact (pk_lLT (by omega) (by omega)).mpr (by omega)
      · rw [if_neg k] at H
        have l2 : sd_ds c s.1 s.2 ≤ 2097152000000000000 := sd_ds_le (by omega) (gb.resolve_left k)
        refine br_f (nI_ne0 (by omega) (by omega)) (sy_gap sz (nI s.1) (sd_q s.2) HV W _ (by omega) (by omega) g1 (gb.resolve_left k) ?_)
        by_cases l : sd_ds c d t < sd_ds c s.1 s.2
        · rw [decide_eq_true l] at H
          exact br_t ((pk_lLT (by omega) (by omega)).mpr l) (nm_r (nI_1 d) H)
        · rw [decide_eq_false l] at H
          refine br_f (fun y => l ((pk_lLT (by omega) (by omega)).mp y)) ?_
          by_cases o : sd_ds c d t = sd_ds c s.1 s.2
          · rw [decide_eq_true o] at H
            refine br_t (by rw [o]) ?_
            by_cases w : d < s.1
            · rw [decide_eq_true w] at H
              exact br_f (nI_ge w (by omega)) (nm_r (nI_1 d) H)
            · rw [decide_eq_false w] at H
              exact br_t (nI_le (by omega) (by omega)) (nm_r (nI_1 d) H)
          · rw [decide_eq_false o] at H
            exact br_f (fun y => o ((pk_lEQ (by omega) (by omega)).mp y)) (nm_r (nI_1 d) H)
    · rw [if_neg r] at H ⊢
      exact br_t rfl (nm_r (nI_1 d) H)
  · rw [if_neg e] at H
    exact br_f (fun y => e ((nI_eq (by omega) (by omega)).mp y)) (nm_r (nI_1 d) H)
theorem sy_42 (sz : Int32) {V : Nat → Int32} (HV : sy_V V) (W : Nat → Int32) (post : SY → Prop) {c m t : Nat} {s : Nat × Nat} (hc : c < 1024) (hm : m < 9) (ht : t < 19) (g : sd_g c s) (H : post (sz, nI (sd_ty c m t s).1, sd_q (sd_ty c m t s).2, V, W)) : wY_tryNear_42 post (nI c) (nI m) (sd_q t) (lN (sd_fl c t)) sz (nI s.1) (sd_q s.2) V W := by
  have hl := sd_fl_le (show c < 1025 by omega) t
  unfold sd_ty at H
  by_cases a : 100000001 < sd_fl c t
  · rw [if_pos a] at H
    exact br_f (fun y => absurd ((pk_lLE (b := 100000001) (by omega) (by decide)).mp y) (by omega)) H
  · rw [if_neg a] at H
    generalize sd_fl c t = f at *
    have hf : f ≤ 100000001 := by omega
    refine br_t ((pk_lLE (b := 100000001) (by omega) (by decide)).mpr hf) (nm_e ⟨5, ?_⟩)
    rw [lN_i]
    have last : ∀ s' : Nat × Nat, post (sz, nI s'.1, sd_q s'.2, V, W) → wY_tryNear_61 post (nI c) (nI m) (sd_q t) (lN f) sz V W 1 (nI (f + 3)) (nI s'.1) (sd_q s'.2) := by
      intro s' h'
      refine br_t ?_ h'
      rw [nI_l (by omega), show lN f + 3 = lN (f + 3) from lN_add f 3]
      exact (pk_lLE (by omega) (by omega)).mpr (by omega)
    have three : ∀ s' : Nat × Nat, sd_g c s' → post (sz, nI (sd_ys c m t (f + 2) (sd_ys c m t (f + 1) (sd_ys c m t f s'))).1, sd_q (sd_ys c m t (f + 2) (sd_ys c m t (f + 1) (sd_ys c m t f s'))).2, V, W) → wY_tryNear_61 post (nI c) (nI m) (sd_q t) (lN f) sz V W 4 (nI f) (nI s'.1) (sd_q s'.2) := fun s' g' h' =>
      sy_ys sz HV W post hc hm ht hf (by omega) g' (sy_ys sz HV W post hc hm ht hf (by omega) (sd_ys_g ht g') (sy_ys sz HV W post hc hm ht hf (by omega) (sd_ys_g ht (sd_ys_g ht g')) (last _ h')))
    by_cases z : f = 0
    · subst z
      rw [show 0 - 1 = 0 from rfl, sd_ys0] at H
      have h3 := three s g H
      refine br_f ?_ (br_t (by decide) (nm_r (e' := nI 0) (by decide) h3))
      decide
    · obtain ⟨a, rfl⟩ : ∃ a, f = a + 1 := ⟨f - 1, by omega⟩
      rw [nI_pred]
      exact sy_ys sz HV W post hc hm ht hf (by omega) g (three _ (sd_ys_g ht g) H)
theorem sy_ty (sz : Int32) {V : Nat → Int32} (HV : sy_V V) (W : Nat → Int32) (post : SY → Prop) {c m t : Nat} {s : Nat × Nat} (hc : c < 1024) (hm : m < 9) (ht : t < 19) (g : sd_g c s) (H : post (sz, nI (sd_ty c m t s).1, sd_q (sd_ty c m t s).2, V, W)) : wpY_tryNear post (sz, nI s.1, sd_q s.2, V, W) (nI c) (nI m) (sd_q t) := by
  have h42 := sy_42 sz HV W post hc hm ht g H
  have hv := sd_v_le c (by omega)
  have eV : (V (nI c).toNatClampNeg).toInt64 = lN (sd_v c) := by rw [nI_clamp (by omega), HV c (by omega), nI_l (by omega)]
  by_cases k : t < 12
  · have q0 : ¬ 0 ≤ sd_q t := by rw [sd_q_ge t ht]; omega
    have bL : sd_v c * 10 ^ (12 - t) < 2 ^ 63 := Nat.lt_of_le_of_lt (Nat.mul_le_mul hv (Nat.pow_le_pow_right (n := 10) (by decide) (show 12 - t ≤ 12 by omega))) (by decide)
    have ef : lN (sd_v c * 10 ^ (12 - t)) / 512 = lN (sd_fl c t) := by
      rw [show sd_fl c t = sd_v c * 10 ^ (12 - t) / 512 from if_pos k]
      exact pk_lDiv (b := 512) bL (by decide) (by decide)
    refine br_f q0 ⟨vp_in_nI (by omega) (by decide), ?_⟩
    rw [sd_q_n t k]
    refine sy_pow sz (nI s.1) (sd_q s.2) V W _ (by omega) ⟨by decide, ?_⟩
    rw [eV, lN_mul, ef]
    exact h42
  · have q0 : 0 ≤ sd_q t := by rw [sd_q_ge t ht]; omega
    have bP : 512 * 10 ^ (t - 12) < 2 ^ 63 := Nat.lt_of_le_of_lt (Nat.mul_le_mul_left 512 (Nat.pow_le_pow_right (n := 10) (by decide) (show t - 12 ≤ 6 by omega))) (by decide)
    have pP : 0 < 512 * 10 ^ (t - 12) := Nat.mul_pos (by decide) (Nat.pow_pos (by decide))
    have e5 : (512 : Int64) * lN (10 ^ (t - 12)) = lN (512 * 10 ^ (t - 12)) := lN_mul 512 _
    have ef : lN (sd_v c) / lN (512 * 10 ^ (t - 12)) = lN (sd_fl c t) := by
      rw [show sd_fl c t = sd_v c / (512 * 10 ^ (t - 12)) from if_neg k]
      exact pk_lDiv (by omega) pP bP
    refine br_t q0 ⟨vp_in_nI (by omega) (by decide), ?_⟩
    have key : wpY_power (fun r_3 => ¬ (512 * r_3) = 0 ∧ wY_tryNear_42 post (nI c) (nI m) (sd_q t) ((V (nI c).toNatClampNeg).toInt64 / (512 * r_3)) sz (nI s.1) (sd_q s.2) V W) (sz, nI s.1, sd_q s.2, V, W) (nI (t - 12)) := by
      refine sy_pow sz (nI s.1) (sd_q s.2) V W _ (by omega) ⟨?_, ?_⟩
      · rw [e5]
        intro z
        have := (pk_lEQ (b := 0) bP (by decide)).mp z
        omega
      · rw [eV, e5, ef]
        exact h42
    rw [← sd_q_p t ht (by omega)] at key
    exact key
theorem sy_fs32 (sz : Int32) {V : Nat → Int32} (HV : sy_V V) (W : Nat → Int32) (post : SY → Prop) (J : Int32 → Int32 → Int32 → Int32 → (Nat → Int32) → (Nat → Int32) → Prop) {c m : Nat} {s : Nat × Nat} (hc : c < 1024) (hm : m < 9) (g : sd_g c s) (H : J (nI (m + 1)) sz (nI (sd_fq c m 19 s).1) (sd_q (sd_fq c m 19 s).2) V W) : ∀ j i n, i + j = 19 → j < n → wY_findShort_32 post J (nI c) (nI m) n (sd_q i) sz (nI (sd_fq c m i s).1) (sd_q (sd_fq c m i s).2) V W := by
  intro j
  induction j with
  | zero =>
    intro i n hi hn
    obtain ⟨n, rfl⟩ : ∃ m, n = m + 1 := ⟨n - 1, by omega⟩
    have e : i = 19 := by omega
    subst e
    exact br_t (by decide) (nm_r (nI_1 m) H)
  | succ j ih =>
    intro i n hi hn
    obtain ⟨n, rfl⟩ : ∃ m, n = m + 1 := ⟨n - 1, by omega⟩
    have h := ih (i + 1) n (by omega) (by omega)
    exact br_f (Int32.not_le.mpr ((sd_q_lt7 i (by omega)).mpr (by omega))) (sy_ty sz HV W _ hc hm (by omega) (sd_fq_g g i (by omega)) (nm_r (sd_q_s i) h))
theorem sy_fs12 (sz : Int32) {V : Nat → Int32} (HV : sy_V V) (W : Nat → Int32) (post : SY → Prop) {c : Nat} (hc : c < 1024) : ∀ k n (s : Nat × Nat), k < n → k ≤ 8 → sd_g c s → post (sz, nI (sd_fm c k s).1, sd_q (sd_fm c k s).2, V, W) → wY_findShort_12 post (nI c) n (nI (9 - k)) sz (nI s.1) (sd_q s.2) V W := by
  intro k
  induction k with
  | zero =>
    intro n s hn _ g H
    obtain ⟨n, rfl⟩ : ∃ m, n = m + 1 := ⟨n - 1, by omega⟩
    exact br_t (by decide) H
  | succ k ih =>
    intro n s hn hk g H
    obtain ⟨n, rfl⟩ : ∃ m, n = m + 1 := ⟨n - 1, by omega⟩
    have e : sd_fm c (k + 1) s = if s.1 = 0 then (if c = 0 then s else sd_fm c k (sd_fq c (8 - k) 19 s)) else s := rfl
    rw [e] at H
    rw [show 9 - (k + 1) = 8 - k by omega]
    refine br_f (nI_ge (b := 9) (by omega) (by decide)) ?_
    by_cases z : s.1 = 0
    · rw [if_pos z] at H
      refine br_t (by rw [z]; exact nI_0) ?_
      by_cases y : c = 0
      · rw [if_pos y] at H
        exact br_t (by rw [y]; decide) H
      · rw [if_neg y] at H
        refine br_f (nI_nle (by omega) (by omega)) ⟨20, ?_⟩
        have h := ih n (sd_fq c (8 - k) 19 s) (by omega) (by omega) (sd_fq_g g 19 (by omega)) H
        rw [show 9 - k = 8 - k + 1 by omega] at h
        have h2 := sy_fs32 sz HV W post (wY_findShort_12 post (nI c) n) hc (show 8 - k < 9 by omega) g h 19 0 20 (by decide) (by decide)
        rw [sd_q_0] at h2
        exact h2
    · rw [if_neg z] at H
      exact br_f (nI_ne0 (by omega) (by have := g.2.1; omega)) H
theorem sy_fs (sz bd bs : Int32) {V : Nat → Int32} (HV : sy_V V) (W : Nat → Int32) (post : SY → Prop) {c : Nat} (hc : c < 1024) (H : post (sz, nI (sd_fm c 8 (0, 12)).1, sd_q (sd_fm c 8 (0, 12)).2, V, W)) : wpY_findShort post (sz, bd, bs, V, W) (nI c) := by
  have h := sy_fs12 sz HV W post hc 8 9 (0, 12) (by decide) (by decide) ⟨(by decide : (12 : Nat) < 19), (by decide : (0 : Nat) ≤ 99999999), Or.inl rfl⟩ H
  dsimp only at h
  rw [sd_q_z] at h
  exact ⟨9, h⟩
theorem sy_places12 (sz bd bs : Int32) {V : Nat → Int32} (HV : sy_V V) (W : Nat → Int32) (post : Int32 → Prop) {c : Nat} (hc : c < 1024) : ∀ k p n, p + k = 5 → k < n → post (nI (sd_pf c k p)) → wY_places_12 post (nI c) sz bd bs V W n (nI p) := by
  intro k
  induction k with
  | zero =>
    intro p n hp hn h
    obtain ⟨n, rfl⟩ : ∃ m, n = m + 1 := ⟨n - 1, by omega⟩
    exact br_t (nI_le (a := 5) (by omega) (by omega)) h
  | succ k ih =>
    intro p n hp hn h
    obtain ⟨n, rfl⟩ : ∃ m, n = m + 1 := ⟨n - 1, by omega⟩
    have hw := sd_wr_le (show c < 1025 by omega) (show p < 6 by omega)
    have h' : post (nI (if sd_wr c p ≤ 99999999 then (if sd_nm c (sd_wr c p) (12 - p) = true then p else sd_pf c k (p + 1)) else sd_pf c k (p + 1))) := h
    have hi := ih (p + 1) n (by omega) (by omega)
    refine br_f (nI_ge (b := 5) (by omega) (by decide)) (sy_write sz bd bs HV W _ (by omega) (by omega) ?_)
    rw [sd_q_mi p (by omega)]
    by_cases w : sd_wr c p ≤ 99999999
    · rw [if_pos w] at h'
      refine br_f (nI_nlt (a := 99999999) w (by decide)) (sy_nm sz bd bs HV W _ hc (by omega) (by omega) ?_)
      by_cases r : sd_nm c (sd_wr c p) (12 - p) = true
      · rw [if_pos r] at h' ⊢
        exact br_f (by decide) h'
      · rw [if_neg r] at h' ⊢
        exact br_t rfl (nm_r (nI_1 p) (hi h'))
    · rw [if_neg w] at h'
      exact br_t (nI_lt (a := 99999999) (by omega) (by omega)) (nm_r (nI_1 p) (hi h'))
