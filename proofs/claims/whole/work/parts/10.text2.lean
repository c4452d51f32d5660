/-! the text walked: Y's counting loops, X's scale, spare; appending and taking off -/
def sd_db (x : Nat → Nat) (n : Nat) : Int32 := if sd_pt x n = 0 then (-1) else nI (sd_dg x n - sd_bh x n)
def sd_tx (x : Nat → Nat) (n : Nat) (W : Nat → Int32) : Prop := (∀ i, i < n → x i ≤ 10) ∧ (∀ i, i < n → W i = nI (x i)) ∧ sd_pt x n ≤ 1 ∧ sd_dg x n ≤ 8
def sd_cv (b : Bool) (x : Nat → Nat) (i : Nat) : Nat := if b = true then sd_bh x i else sd_dg x i
theorem sd_tx_9 {x : Nat → Nat} {n : Nat} {W : Nat → Int32} (h : sd_tx x n W) : n ≤ 9 := by
  obtain ⟨_, _, h3, h4⟩ := h
  have := sd_tx_n x n
  omega
theorem sd_tx_nu {x : Nat → Nat} {n : Nat} {W : Nat → Int32} (h : sd_tx x n W) : sd_nu x n ≤ 99999999 := by
  obtain ⟨h1, _, _, h4⟩ := h
  have a := sd_nu_lt n h1
  have b : 10 ^ sd_dg x n ≤ 100000000 := Nat.pow_le_pow_right (n := 10) (by decide) h4
  omega
theorem sd_cv_p {b : Bool} {x : Nat → Nat} {i : Nat} (h : x i = 10) : sd_cv b x (i + 1) = sd_cv b x i := by
  unfold sd_cv
  rw [sd_bh_p h, sd_dg_p h]
theorem sd_cv_1 {b : Bool} {x : Nat → Nat} {i : Nat} (h : x i ≠ 10) (z : sd_pt x i ≠ 0) : sd_cv b x (i + 1) = sd_cv b x i + 1 := by
  unfold sd_cv
  rw [sd_bh_d h, sd_dg_d h, if_neg z]
  split <;> rfl
theorem sy_cd7 (bd bs : Int32) (V : Nat → Int32) {W : Nat → Int32} {x : Nat → Nat} {n : Nat} (hx : ∀ i, i < n → x i ≤ 10) (hW : ∀ i, i < n → W i = nI (x i)) (h9 : n ≤ 9) (b : Bool) (post : Int32 → Prop) (hp : post (nI (sd_cv b x n))) : ∀ m i k, i + m = n → m < k → wY_countDigits_7 post (if b = true then 1 else 0) (nI n) bd bs V W k (nI (sd_cv b x i)) (if sd_pt x i = 0 then 0 else 1) (nI i) := by
  intro m
  induction m with
  | zero =>
    intro i k hi hk
    obtain ⟨k, rfl⟩ : ∃ m, k = m + 1 := ⟨k - 1, by omega⟩
    have e : i = n := by omega
    subst e
    exact br_t (nI_le (by omega) (by omega)) hp
  | succ m ih =>
    intro i k hi hk
    obtain ⟨k, rfl⟩ : ∃ m, k = m + 1 := ⟨k - 1, by omega⟩
    have h := ih (i + 1) k (by omega) (by omega)
    have eW : W (nI i).toNatClampNeg = nI (x i) := by rw [nI_clamp (by omega), hW i (by omega)]
    have x10 := hx i (by omega)
    have vi : vp_in (nI i) 9 := vp_in_nI (by omega) (by decide)
    refine br_f (nI_ge (by omega) (by omega)) ?_
    by_cases p : x i = 10
    · have w10 : W (nI i).toNatClampNeg = 10 := by rw [eW, p]; rfl
      rw [sd_cv_p p, sd_pt_p p, if_neg (show ¬ sd_pt x i + 1 = 0 by omega)] at h
      by_cases z : sd_pt x i = 0
      · rw [if_pos z]
        exact br_t rfl ⟨vi, br_t w10 ⟨vi, br_t w10 (nm_r (nI_1 i) h)⟩⟩
      · rw [if_neg z]
        exact br_f (by decide) ⟨vi, br_t w10 (nm_r (nI_1 i) h)⟩
    · have w10 : ¬ W (nI i).toNatClampNeg = 10 := by
        rw [eW]
        exact fun y => p ((nI_eq (b := 10) (by omega) (by decide)).mp y)
      rw [sd_pt_d p] at h
      by_cases z : sd_pt x i = 0
      · rw [if_pos z] at h ⊢
        refine br_t rfl ⟨vi, br_f w10 ⟨vi, br_f w10 (br_t rfl ?_)⟩⟩
        cases b with
        | false =>
          have e : sd_cv false x (i + 1) = sd_cv false x i + 1 := sd_dg_d p
          rw [e] at h
          exact br_t rfl (nm_r (nI_1 _) (nm_r (nI_1 i) h))
        | true =>
          have e : sd_cv true x (i + 1) = sd_cv true x i := (sd_bh_d p).trans (if_pos z)
          rw [e] at h
          exact br_f (by decide) (nm_r (nI_1 i) h)
      · rw [if_neg z] at h ⊢
        rw [sd_cv_1 p z] at h
        exact br_f (by decide) ⟨vi, br_f w10 (br_f (by decide) (nm_r (nI_1 _) (nm_r (nI_1 i) h)))⟩
theorem sy_cd0 (bd bs : Int32) (V : Nat → Int32) {W : Nat → Int32} {x : Nat → Nat} {n : Nat} (hx : ∀ i, i < n → x i ≤ 10) (hW : ∀ i, i < n → W i = nI (x i)) (h9 : n ≤ 9) (post : Int32 → Prop) (hp : post (nI (sd_dg x n))) : wpY_countDigits post (nI n, bd, bs, V, W) 0 :=
  ⟨n + 1, sy_cd7 bd bs V hx hW h9 false post hp n 0 (n + 1) (by omega) (by omega)⟩
theorem sy_cd1 (bd bs : Int32) (V : Nat → Int32) {W : Nat → Int32} {x : Nat → Nat} {n : Nat} (hx : ∀ i, i < n → x i ≤ 10) (hW : ∀ i, i < n → W i = nI (x i)) (h9 : n ≤ 9) (post : Int32 → Prop) (hp : post (nI (sd_bh x n))) : wpY_countDigits post (nI n, bd, bs, V, W) 1 :=
  ⟨n + 1, sy_cd7 bd bs V hx hW h9 true post hp n 0 (n + 1) (by omega) (by omega)⟩
theorem sy_td4 (bd bs : Int32) (V : Nat → Int32) {W : Nat → Int32} {x : Nat → Nat} {n : Nat} (hx : ∀ i, i < n → x i ≤ 10) (hW : ∀ i, i < n → W i = nI (x i)) (h9 : n ≤ 9) (post : Int32 → Prop) (hp : post (nI (sd_nu x n))) : ∀ m i k, i + m = n → m < k → wY_typedDigits_4 post (nI n) bd bs V W k (nI (sd_nu x i)) (nI i) := by
  intro m
  induction m with
  | zero =>
    intro i k hi hk
    obtain ⟨k, rfl⟩ : ∃ m, k = m + 1 := ⟨k - 1, by omega⟩
    have e : i = n := by omega
    subst e
    exact br_t (nI_le (by omega) (by omega)) hp
  | succ m ih =>
    intro i k hi hk
    obtain ⟨k, rfl⟩ : ∃ m, k = m + 1 := ⟨k - 1, by omega⟩
    have h := ih (i + 1) k (by omega) (by omega)
    have eW : W (nI i).toNatClampNeg = nI (x i) := by rw [nI_clamp (by omega), hW i (by omega)]
    have x10 := hx i (by omega)
    have vi : vp_in (nI i) 9 := vp_in_nI (by omega) (by decide)
    refine br_f (nI_ge (by omega) (by omega)) ⟨vi, ?_⟩
    rw [eW]
    by_cases p : x i = 10
    · rw [sd_nu_p p] at h
      exact br_t (by rw [p]; rfl) (nm_r (nI_1 i) h)
    · rw [sd_nu_d p] at h
      refine br_f (fun y => p ((nI_eq (b := 10) (by omega) (by decide)).mp y)) ⟨vi, nm_r (e' := nI (10 * sd_nu x i + x i)) ?_ (nm_r (nI_1 i) h)⟩
      rw [show (10 : Int32) * nI (sd_nu x i) = nI (10 * sd_nu x i) from pk_mul 10 _, nI_add]
theorem sy_td (bd bs : Int32) (V : Nat → Int32) {W : Nat → Int32} {x : Nat → Nat} {n : Nat} (hx : ∀ i, i < n → x i ≤ 10) (hW : ∀ i, i < n → W i = nI (x i)) (h9 : n ≤ 9) (post : Int32 → Prop) (hp : post (nI (sd_nu x n))) : wpY_typedDigits post (nI n, bd, bs, V, W) :=
  ⟨n + 1, sy_td4 bd bs V hx hW h9 post hp n 0 (n + 1) (by omega) (by omega)⟩
theorem sy_spare35 (sz bd bs : Int32) {V : Nat → Int32} (HV : sy_V V) (W : Nat → Int32) (post : Int32 → Prop) {d t a : Nat} (hd : d ≤ 99999999) (ht : t < 19) (ha : a ≤ 8) (hp : post (nI (sd_gr d t a))) : ∀ m i k, i + m = a → m < k → wY_spare_35 post (nI d) (sd_q t) (nI (sd_rd d t)) (nI a) sz bd bs V W k (nI (10 ^ i)) (nI (sd_gr d t i)) (nI (i + 1)) := by
  intro m
  induction m with
  | zero =>
    intro i k hi hk
    obtain ⟨k, rfl⟩ : ∃ m, k = m + 1 := ⟨k - 1, by omega⟩
    have e : i = a := by omega
    subst e
    exact br_t (nI_lt (by omega) (by omega)) hp
  | succ m ih =>
    intro i k hi hk
    obtain ⟨k, rfl⟩ : ∃ m, k = m + 1 := ⟨k - 1, by omega⟩
    have h := ih (i + 1) k (by omega) (by omega)
    have bP : 10 ^ (i + 1) < 2 ^ 31 := Nat.lt_of_le_of_lt (Nat.pow_le_pow_right (n := 10) (by decide) (show i + 1 ≤ 8 by omega)) (by decide)
    have pP : 0 < 10 ^ (i + 1) := Nat.pow_pos (by decide)
    have hm := Nat.mod_le d (10 ^ (i + 1))
    have r1 := (sd_rd_spec (d - d % 10 ^ (i + 1)) t).1
    have r2 := (sd_rd_spec d t).1
    have e1 : (10 : Int32) * nI (10 ^ i) = nI (10 ^ (i + 1)) := by
      rw [Nat.pow_succ, Nat.mul_comm (10 ^ i) 10]
      exact pk_mul 10 _
    rw [show sd_gr d t (i + 1) = if sd_rd (d - d % 10 ^ (i + 1)) t = sd_rd d t then i + 1 else sd_gr d t i from rfl] at h
    refine br_f (nI_nlt (by omega) (by omega)) (nm_r e1 ⟨nI_ne0 pP bP, ?_⟩)
    rw [pk_rem (by omega) pP bP, pk_sub hm]
    refine sy_read sz bd bs HV W _ (by omega) ht ?_
    by_cases e : sd_rd (d - d % 10 ^ (i + 1)) t = sd_rd d t
    · rw [if_pos e] at h
      exact br_t (by rw [e]) (nm_r (nI_1 (i + 1)) h)
    · rw [if_neg e] at h
      exact br_f (fun y => e ((nI_eq (by omega) (by omega)).mp y)) (nm_r (nI_1 (i + 1)) h)
theorem sd_dbq : ∀ a, a < 9 → ∀ b, b < 9 → b ≤ a → nI (a - b) - nI a = sd_q (12 - b) := by decide +kernel
theorem sd_m1 {m : Nat} (h : m < 2 ^ 31) : ¬ nI m = -1 := fun y => nI_pos h (by rw [y]; decide)
theorem sd_m1' {m : Nat} (h : m < 2 ^ 31) : ¬ -1 = nI m := fun y => sd_m1 h y.symm
theorem sx_ts (fn : Int32) (T : Nat → Int64) {x : Nat → Nat} {n : Nat} (hd : sd_dg x n ≤ 8) (post : Int32 → Prop) (hp : post (sd_q (12 - sd_bh x n))) : wpX_textScale post (fn, nI (sd_dg x n), sd_db x n, T) := by
  have hb := sd_bh_le x n
  unfold sd_db
  by_cases z : sd_pt x n = 0
  · rw [if_pos z]
    rw [sd_bh_0 x n z, show sd_q (12 - 0) = 0 from sd_q_z] at hp
    exact br_t rfl hp
  · rw [if_neg z]
    refine br_f (sd_m1 (by omega)) ?_
    rw [sd_dbq _ (by omega) _ (by omega) hb]
    exact hp
def sd_app (x : Nat → Nat) (n k : Nat) : Nat → Nat := fun i => if i = n then k else x i
theorem sd_app_n (x : Nat → Nat) (n k : Nat) : sd_app x n k n = k := if_pos rfl
theorem sd_app_c (x : Nat → Nat) (n k : Nat) : sd_dg (sd_app x n k) n = sd_dg x n ∧ sd_pt (sd_app x n k) n = sd_pt x n ∧ sd_bh (sd_app x n k) n = sd_bh x n ∧ sd_nu (sd_app x n k) n = sd_nu x n :=
  sd_tx_c n (fun i hi => if_neg (by omega))
theorem sd_app_x {x : Nat → Nat} {n k : Nat} (hk : k ≤ 10) (h : ∀ i, i < n → x i ≤ 10) : ∀ i, i < n + 1 → sd_app x n k i ≤ 10 := by
  intro i hi
  unfold sd_app
  by_cases e : i = n
  · rw [if_pos e]; exact hk
  · rw [if_neg e]; exact h i (by omega)
theorem sd_app_W {x : Nat → Nat} {W : Nat → Int32} {n k : Nat} (h : ∀ i, i < n → W i = nI (x i)) : ∀ i, i < n + 1 → upd W n (nI k) i = nI (sd_app x n k i) := by
  intro i hi
  unfold sd_app upd
  by_cases e : i = n
  · rw [if_pos e, if_pos e]
  · rw [if_neg e, if_neg e]; exact h i (by omega)
