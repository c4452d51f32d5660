/-! Y: code, decimal, power, sign, reading, naming, digits, gap, writing -/
def sy_V (V : Nat → Int32) : Prop := ∀ c, c < 1025 → V c = nI (sd_v c)
theorem sy_isCode0 (sz bd bs : Int32) (V W : Nat → Int32) (post : Int32 → Prop) {x : Int32} (h : x < 0 ∨ 1023 < x) (hp : post 0) : wpY_isCode post (sz, bd, bs, V, W) x :=
  br_c (fun _ => hp) (fun h0 => br_c (fun _ => hp) (fun h1 => absurd h (fun z => z.elim h0 h1)))
theorem sy_isCode1 (sz bd bs : Int32) (V W : Nat → Int32) (post : Int32 → Prop) {c : Nat} (h : c < 1024) (hp : post 1) : wpY_isCode post (sz, bd, bs, V, W) (nI c) :=
  br_f (nI_pos (by omega)) (br_f (nI_nlt (a := 1023) (b := c) (by omega) (by decide)) hp)
theorem sy_isDec0 (sz bd bs : Int32) (V W : Nat → Int32) (post : Int32 → Prop) {x y : Int32} (h : x < 0 ∨ 99999999 < x ∨ y < -12 ∨ 6 < y) (hp : post 0) : wpY_isDecimal post (sz, bd, bs, V, W) x y :=
  br_c (fun _ => hp) (fun h0 => br_c (fun _ => hp) (fun h1 => br_c (fun _ => hp) (fun h2 => br_c (fun _ => hp) (fun h3 => absurd h (fun z => z.elim h0 (fun z => z.elim h1 (fun z => z.elim h2 h3)))))))
theorem sy_isDec1 (sz bd bs : Int32) (V W : Nat → Int32) (post : Int32 → Prop) {d t : Nat} (hd : d ≤ 99999999) (ht : t < 19) (hp : post 1) : wpY_isDecimal post (sz, bd, bs, V, W) (nI d) (sd_q t) :=
  br_f (nI_pos (by omega)) (br_f (nI_nlt (a := 99999999) (b := d) (by omega) (by decide)) (br_f (Int32.not_lt.mpr (sd_q_lo t ht)) (br_f (Int32.not_lt.mpr (sd_q_hi t ht)) hp)))
theorem sy_pow5 (sz bd bs : Int32) (V W : Nat → Int32) (post : Int64 → Prop) {p : Nat} (hb : p < 2 ^ 31) (hp : post (lN (10 ^ p))) : ∀ m i n, i + m = p → m < n → wY_power_5 post (nI p) sz bd bs V W n (lN (10 ^ i)) (nI i) := by
  intro m
  induction m with
  | zero =>
    intro i n hi hn
    obtain ⟨n, rfl⟩ : ∃ m, n = m + 1 := ⟨n - 1, by omega⟩
    have e : i = p := by omega
    subst e
    exact br_t (nI_le (by omega) hb) hp
  | succ m ih =>
    intro i n hi hn
    obtain ⟨n, rfl⟩ : ∃ m, n = m + 1 := ⟨n - 1, by omega⟩
    have e : (10 : Int64) * lN (10 ^ i) = lN (10 ^ (i + 1)) := by
      rw [Nat.pow_succ, Nat.mul_comm (10 ^ i) 10]
      exact lN_mul 10 _
    exact br_f (nI_ge (by omega) hb) (nm_r e (nm_r (nI_1 i) (ih (i + 1) n (by omega) (by omega))))
theorem sy_pow (sz bd bs : Int32) (V W : Nat → Int32) (post : Int64 → Prop) {p : Nat} (hb : p < 2 ^ 31) (hp : post (lN (10 ^ p))) : wpY_power post (sz, bd, bs, V, W) (nI p) :=
  ⟨p + 1, sy_pow5 sz bd bs V W post hb hp p 0 (p + 1) (by omega) (by omega)⟩
theorem sy_47 (sz bd bs : Int32) (V W : Nat → Int32) (post : Int32 → Prop) {A B : Nat} (hA : A < 2 ^ 63) (hB : B < 2 ^ 63) (hp : post (if A = B then 0 else if A < B then (-1) else 1)) : wY_sign_47 post (lN A) (lN B) sz bd bs V W := by
  by_cases l : A < B
  · rw [if_neg (by omega), if_pos l] at hp
    exact br_f (fun y => absurd ((pk_lLE hB hA).mp y) (by omega)) hp
  · refine br_t ((pk_lLE hB hA).mpr (by omega)) ?_
    by_cases e : A = B
    · rw [if_pos e] at hp
      exact br_t ((pk_lLE hA hB).mpr (by omega)) hp
    · rw [if_neg e, if_neg l] at hp
      exact br_f (fun y => absurd ((pk_lLE hA hB).mp y) (by omega)) hp
theorem sy_sign (sz bd bs : Int32) (V W : Nat → Int32) (post : Int32 → Prop) {h d t : Nat} (hh : h ≤ 4194304) (hd : d ≤ 100000000) (ht : t < 19) (hp : post (sd_sg h d t)) : wpY_sign post (sz, bd, bs, V, W) (lN h) (nI d) (sd_q t) := by
  have e1 : 1024 * (nI d).toInt64 = lN (1024 * d) := by
    rw [nI_l (by omega)]
    exact lN_mul 1024 d
  have bL := sd_L_bd t hh
  have bR := sd_R_bd hd ht
  unfold sd_sg at hp
  by_cases k : t < 12
  · have q0 : ¬ 0 ≤ sd_q t := by rw [sd_q_ge t ht]; omega
    have eL : sd_L h t = h * 10 ^ (12 - t) := if_pos k
    have eR : sd_R d t = 1024 * d := if_pos k
    rw [eL, eR] at hp
    rw [eL] at bL
    rw [eR] at bR
    refine br_f q0 ?_
    rw [sd_q_n t k]
    refine sy_pow sz bd bs V W _ (by omega) ?_
    rw [lN_mul]
    refine br_f q0 ?_
    rw [e1]
    exact sy_47 sz bd bs V W post bL bR hp
  · have q0 : 0 ≤ sd_q t := by rw [sd_q_ge t ht]; omega
    have eL : sd_L h t = h := if_neg k
    have eR : sd_R d t = 1024 * d * 10 ^ (t - 12) := if_neg k
    rw [eL, eR] at hp
    rw [eL] at bL
    rw [eR] at bR
    refine br_t q0 (br_t q0 ?_)
    rw [sd_q_p t ht (by omega)]
    refine sy_pow sz bd bs V W _ (by omega) ?_
    rw [e1, lN_mul]
    exact sy_47 sz bd bs V W post bL bR hp
theorem sy_bV {V : Nat → Int32} (HV : sy_V V) {x : Nat} (hx : x < 1024) : (V (nI x).toNatClampNeg + V (nI x + 1).toNatClampNeg).toInt64 = lN (sd_b (x + 1)) := by
  have h := sd_b_le (show x + 1 < 1025 by omega)
  rw [sd_b_s] at h ⊢
  rw [nI_1, nI_clamp (by omega), nI_clamp (by omega), HV x (by omega), HV (x + 1) (by omega), nI_add, nI_l (by omega)]
theorem sd_2rem (x : Nat) (hx : x < 2 ^ 31) : nI x - nI x / 2 * 2 = nI (x % 2) := pk_rem (d := 2) hx (by decide) (by decide)
theorem sy_read13 (sz bd bs : Int32) {V : Nat → Int32} (HV : sy_V V) (W : Nat → Int32) (post : Int32 → Prop) {d t : Nat} (hd : d ≤ 100000000) (ht : t < 19) (hp : post (nI (sd_rd d t))) : ∀ m x n, x + m = sd_rd d t → m < n → wY_read_13 post (nI d) (sd_q t) sz bd bs V W n (nI x) := by
  obtain ⟨s1, s2, s3⟩ := sd_rd_spec d t
  have sa := sd_re_all (sd_rd d t) (by omega) s2
  intro m
  induction m with
  | zero =>
    intro x n hx hn
    obtain ⟨n, rfl⟩ : ∃ m, n = m + 1 := ⟨n - 1, by omega⟩
    have e : x = sd_rd d t := by omega
    rw [← e] at hp s1 s3
    by_cases k : x = 1023
    · subst k
      exact br_t (nI_le (a := 1023) (by omega) (by decide)) hp
    · have r : ¬ sd_re (x + 1) d t = true := by rw [s3.resolve_left k]; decide
      rw [sd_re_iff] at r
      refine br_f (nI_ge (b := 1023) (by omega) (by decide)) ⟨vp_in_nI (by omega) (by decide), by rw [nI_1]; exact vp_in_nI (by omega) (by decide), ?_⟩
      rw [sy_bV HV (by omega)]
      refine sy_sign sz bd bs V W _ (sd_b_le (by omega)) hd ht ?_
      rcases Nat.lt_trichotomy (sd_L (sd_b (x + 1)) t) (sd_R d t) with l | l | l
      · exact absurd (Or.inr (Or.inl l)) r
      · rw [sd_sg_eq l]
        refine br_f (by decide) (br_t rfl ⟨by decide, ?_⟩)
        have p : x % 2 = 0 := by
          have : ¬ (x + 1) % 2 = 0 := fun y => r (Or.inr (Or.inr ⟨l, y⟩))
          omega
        rw [sd_2rem x (by omega), p]
        exact br_t nI_0 hp
      · rw [sd_sg_gt l]
        exact br_t (by decide) hp
  | succ m ih =>
    intro x n hx hn
    obtain ⟨n, rfl⟩ : ∃ m, n = m + 1 := ⟨n - 1, by omega⟩
    have h := ih (x + 1) n (by omega) (by omega)
    have r := sa (x + 1) (by omega)
    rw [sd_re_iff] at r
    refine br_f (nI_ge (b := 1023) (by omega) (by decide)) ⟨vp_in_nI (by omega) (by decide), by rw [nI_1]; exact vp_in_nI (by omega) (by decide), ?_⟩
    rw [sy_bV HV (by omega)]
    refine sy_sign sz bd bs V W _ (sd_b_le (by omega)) hd ht ?_
    rcases Nat.lt_trichotomy (sd_L (sd_b (x + 1)) t) (sd_R d t) with l | l | l
    · rw [sd_sg_lt l]
      exact br_f (by decide) (br_f (by decide) (nm_r (nI_1 x) h))
    · rw [sd_sg_eq l]
      refine br_f (by decide) (br_t rfl ⟨by decide, ?_⟩)
      rw [sd_2rem x (by omega)]
      exact br_f (nI_ne0 (by omega) (by omega)) (nm_r (nI_1 x) h)
    · exact absurd r (by omega)
theorem sy_read (sz bd bs : Int32) {V : Nat → Int32} (HV : sy_V V) (W : Nat → Int32) (post : Int32 → Prop) {d t : Nat} (hd : d ≤ 99999999) (ht : t < 19) (hp : post (nI (sd_rd d t))) : wpY_read post (sz, bd, bs, V, W) (nI d) (sd_q t) := by
  unfold wpY_read
  dsimp only
  exact sy_isDec1 sz bd bs V W _ hd ht (br_f (by decide) ⟨sd_rd d t + 1, sy_read13 sz bd bs HV W post (by omega) ht hp (sd_rd d t) 0 (sd_rd d t + 1) (by omega) (by omega)⟩)
theorem sd_sg_in (h d t : Nat) : sd_sg h d t = -1 ∨ sd_sg h d t = 0 ∨ sd_sg h d t = 1 := by
  rcases Nat.lt_trichotomy (sd_L h t) (sd_R d t) with l | l | l
  · exact Or.inl (sd_sg_lt l)
  · exact Or.inr (Or.inl (sd_sg_eq l))
  · exact Or.inr (Or.inr (sd_sg_gt l))
theorem sd_re_sg {c d t : Nat} (h0 : c ≠ 0) : sd_re c d t = (decide (sd_sg (sd_b c) d t = -1) || (decide (sd_sg (sd_b c) d t = 0) && decide (c % 2 = 0))) := by
  rcases Nat.lt_trichotomy (sd_L (sd_b c) t) (sd_R d t) with l | l | l
  · rw [sd_sg_lt l, sd_re_iff.mpr (Or.inr (Or.inl l))]; rfl
  · rw [sd_sg_eq l]
    by_cases p : c % 2 = 0
    · rw [sd_re_iff.mpr (Or.inr (Or.inr ⟨l, p⟩)), decide_eq_true p]; rfl
    · have r : ¬ sd_re c d t = true := by rw [sd_re_iff]; omega
      rw [eq_false_of_ne_true r, decide_eq_false p]; rfl
  · have r : ¬ sd_re c d t = true := by rw [sd_re_iff]; omega
    rw [sd_sg_gt l, eq_false_of_ne_true r]; rfl
theorem sd_nre_sg (c d t : Nat) : (!sd_re (c + 1) d t) = (decide (sd_sg (sd_b (c + 1)) d t = 1) || (decide (sd_sg (sd_b (c + 1)) d t = 0) && decide (c % 2 = 0))) := by
  rw [sd_re_sg (by omega)]
  rcases sd_sg_in (sd_b (c + 1)) d t with e | e | e
  · rw [e]; rfl
  · rw [e]
    by_cases p : c % 2 = 0
    · rw [decide_eq_true p, decide_eq_false (show ¬ (c + 1) % 2 = 0 by omega)]; rfl
    · rw [decide_eq_false p, decide_eq_true (show (c + 1) % 2 = 0 by omega)]; rfl
  · rw [e]; rfl
theorem sy_67 (sz bd bs : Int32) (V W : Nat → Int32) (post : Int32 → Prop) {A B : Int32} (ev lo hi : Bool) (hA : A = -1 ∨ A = 0 ∨ A = 1) (hB : B = -1 ∨ B = 0 ∨ B = 1) (hlo : lo = (decide (B = -1) || (decide (B = 0) && ev))) (hhi : hi = (decide (A = 1) || (decide (A = 0) && ev))) (hp : post (if (lo && hi) = true then 1 else 0)) : wY_isName_67 post A B (if ev = true then 1 else 0) sz bd bs V W := by
  subst hlo hhi
  cases ev <;> rcases hA with rfl | rfl | rfl <;> rcases hB with rfl | rfl | rfl <;> simpa (decide := true) [wY_isName_67, wY_isName_84, wY_isName_88, wY_isName_89] using hp
theorem sy_54 (sz bd bs : Int32) (V W : Nat → Int32) (post : Int32 → Prop) {A B : Int32} {c : Nat} (hc : c < 1024) (lo hi : Bool) (hA : A = -1 ∨ A = 0 ∨ A = 1) (hB : B = -1 ∨ B = 0 ∨ B = 1) (hlo : lo = (decide (B = -1) || (decide (B = 0) && decide (c % 2 = 0)))) (hhi : hi = (decide (A = 1) || (decide (A = 0) && decide (c % 2 = 0)))) (hp : post (if (lo && hi) = true then 1 else 0)) : wY_isName_54 post (nI c) A B sz bd bs V W := by
  have h := sy_67 sz bd bs V W post (decide (c % 2 = 0)) lo hi hA hB hlo hhi hp
  refine ⟨by decide, ?_⟩
  rw [sd_2rem c (by omega)]
  by_cases p : c % 2 = 0
  · rw [if_pos (decide_eq_true p)] at h
    rw [p]
    exact br_t nI_0 h
  · rw [if_neg (fun y => p (of_decide_eq_true y))] at h
    exact br_f (nI_ne0 (by omega) (by omega)) h
theorem sy_nm (sz bd bs : Int32) {V : Nat → Int32} (HV : sy_V V) (W : Nat → Int32) (post : Int32 → Prop) {c d t : Nat} (hc : c < 1024) (hd : d ≤ 100000000) (ht : t < 19) (hp : post (if sd_nm c d t = true then 1 else 0)) : wpY_isName post (sz, bd, bs, V, W) (nI c) (nI d) (sd_q t) := by
  unfold sd_nm at hp
  refine ⟨vp_in_nI (by omega) (by decide), by rw [nI_1]; exact vp_in_nI (by omega) (by decide), ?_⟩
  rw [sy_bV HV (by omega)]
  refine sy_sign sz bd bs V W _ (sd_b_le (by omega)) hd ht ?_
  by_cases z : c = 0
  · subst z
    refine br_t nI_0 (sy_54 sz bd bs V W post (by omega) (sd_re 0 d t) (!sd_re (0 + 1) d t) (sd_sg_in _ _ _) (Or.inl rfl) (sd_re_0 d t) (sd_nre_sg 0 d t) hp)
  · refine br_f (nI_ne0 (by omega) (by omega)) ?_
    obtain ⟨a, rfl⟩ : ∃ a, c = a + 1 := ⟨c - 1, by omega⟩
    refine ⟨by rw [nI_pred]; exact vp_in_nI (by omega) (by decide), vp_in_nI (by omega) (by decide), ?_⟩
    have e : (V (nI (a + 1) - 1).toNatClampNeg + V (nI (a + 1)).toNatClampNeg).toInt64 = lN (sd_b (a + 1)) := by
      rw [nI_pred, ← nI_1 a]
      exact sy_bV HV (by omega)
    rw [e]
    exact sy_sign sz bd bs V W _ (sd_b_le (by omega)) hd ht (sy_54 sz bd bs V W post hc (sd_re (a + 1) d t) (!sd_re (a + 1 + 1) d t) (sd_sg_in _ _ _) (sd_sg_in _ _ _) (sd_re_sg (by omega)) (sd_nre_sg (a + 1) d t) hp)
theorem sy_dig7 (sz bd bs : Int32) (V W : Nat → Int32) (post : Int32 → Prop) {d : Nat} (hd : d < 100000000) (hp : post (nI (sd_dc d))) : ∀ m k n, sd_dc d - k = m → 1 ≤ k → k ≤ sd_dc d → m < n → wY_digitsOf_7 post sz bd bs V W n (nI k) (nI (d / 10 ^ k)) := by
  have b8 := (sd_dc_in d).2
  intro m
  induction m with
  | zero =>
    intro k n hm h1 hk hn
    obtain ⟨n, rfl⟩ : ∃ m, n = m + 1 := ⟨n - 1, by omega⟩
    have e : k = sd_dc d := by omega
    have g := sd_dc_gt hd k h1 (by omega)
    have z : d / 10 ^ k = 0 := Nat.div_eq_of_lt (by
      have : ¬ k < sd_dc d := by omega
      rw [← g] at this
      omega)
    rw [z]
    exact br_t (by decide) (e ▸ hp)
  | succ m ih =>
    intro k n hm h1 hk hn
    obtain ⟨n, rfl⟩ : ∃ m, n = m + 1 := ⟨n - 1, by omega⟩
    have g := (sd_dc_gt hd k h1 (by omega)).mpr (by omega)
    have pz : 0 < d / 10 ^ k := Nat.div_pos g (Nat.pow_pos (by decide))
    have lz : d / 10 ^ k ≤ d := Nat.div_le_self _ _
    have e : nI (d / 10 ^ k) / 10 = nI (d / 10 ^ (k + 1)) := by
      rw [Nat.pow_succ, ← Nat.div_div_eq_div_mul]
      exact pk_div (d := 10) (by omega) (by decide) (by decide)
    exact br_f (nI_nle pz (by omega)) (nm_r (nI_1 k) ⟨by decide, nm_r e (ih (k + 1) n (by omega) (by omega) (by omega) (by omega))⟩)
theorem sy_dig (sz bd bs : Int32) (V W : Nat → Int32) (post : Int32 → Prop) {d : Nat} (hd : d < 100000000) (hp : post (nI (sd_dc d))) : wpY_digitsOf post (sz, bd, bs, V, W) (nI d) := by
  have h := sy_dig7 sz bd bs V W post hd hp (sd_dc d - 1) 1 (sd_dc d - 1 + 1) rfl (by decide) (sd_dc_in d).1 (by omega)
  rw [Nat.pow_one] at h
  exact ⟨by decide, nm_r (pk_div (d := 10) (by omega) (by decide) (by decide)) ⟨_, h⟩⟩
theorem sd_neg {A B : Nat} (hA : A < 2 ^ 63) (h : B < A) : ¬ 0 ≤ lN B - lN A ∧ -(lN B - lN A) = lN (A - B) := by
  have e : -(lN B - lN A) = lN (A - B) := by
    rw [← lN_sub (by omega)]
    grind
  refine ⟨fun z => ?_, e⟩
  have e2 : lN B - lN A = -lN (A - B) := by
    rw [← e]
    grind
  rw [e2, Int64.le_iff_toInt_le, Int64.toInt_neg, pk_lT (by omega), show (0 : Int64).toInt = 0 from by decide, Int.bmod_eq_of_le (by omega) (by omega)] at z
  omega
theorem sy_gap (sz bd bs : Int32) {V : Nat → Int32} (HV : sy_V V) (W : Nat → Int32) (post : Int64 → Prop) {c d t : Nat} (hc : c < 1025) (hd : d ≤ 100000000) (ht : t < 19) (hb : 512 * d * 10 ^ t ≤ 2097152000000000000) (hp : post (lN (sd_ds c d t))) : wpY_gap post (sz, bd, bs, V, W) (nI c) (nI d) (sd_q t) := by
  have hv := sd_v_le c hc
  have hA : sd_v c * 10 ^ 12 < 2 ^ 63 := Nat.lt_of_le_of_lt (sd_v12 hc) (by decide)
  have hB : 512 * d * 10 ^ t < 2 ^ 63 := Nat.lt_of_le_of_lt hb (by decide)
  unfold wpY_gap
  dsimp only
  rw [sd_q_12 t ht]
  refine sy_pow sz bd bs V W _ (by omega) ⟨vp_in_nI hc (by decide), sy_pow (p := 12) sz bd bs V W _ (by decide) ?_⟩
  rw [nI_clamp (by omega), HV c hc, nI_l (by omega), nI_l (by omega), show (512 : Int64) * lN d = lN (512 * d) from lN_mul 512 d, lN_mul, lN_mul]
  unfold sd_ds sd_ab at hp
  generalize sd_v c * 10 ^ 12 = A at hA hp ⊢
  generalize 512 * d * 10 ^ t = B at hB hp ⊢
  by_cases l : A < B
  · rw [if_pos l] at hp
    exact nm_r (lN_sub (by omega)) (br_t ((pk_lLE (a := 0) (by decide) (by omega)).mpr (by omega)) hp)
  · rw [if_neg l] at hp
    by_cases k : B < A
    · obtain ⟨n1, n2⟩ := sd_neg hA k
      refine nm_e (br_f n1 ?_)
      rw [n2]
      exact hp
    · rw [show A - B = B - A by omega] at hp
      exact nm_r (lN_sub (by omega)) (br_t ((pk_lLE (a := 0) (by decide) (by omega)).mpr (by omega)) hp)
theorem sy_write (sz bd bs : Int32) {V : Nat → Int32} (HV : sy_V V) (W : Nat → Int32) (post : Int32 → Prop) {c p : Nat} (hc : c < 1025) (hpp : p < 6) (hp : post (nI (sd_wr c p))) : wpY_write post (sz, bd, bs, V, W) (nI c) (nI p) := by
  have hv := sd_v_le c hc
  have h := sd_vp_le hc hpp
  unfold sd_wr at hp
  refine ⟨vp_in_nI hc (by decide), sy_pow sz bd bs V W _ (by omega) (nm_r (e' := lN (sd_v c * 10 ^ p)) ?_ ?_)⟩
  · rw [nI_clamp (by omega), HV c hc, nI_l (by omega), lN_mul]
  generalize sd_v c * 10 ^ p = A at h hp ⊢
  have h2 : A / 512 ≤ 409600000 := by omega
  refine ⟨by decide, nm_r (e' := lN (A / 512)) (pk_lDiv (b := 512) (by omega) (by decide) (by decide)) ⟨by decide, nm_r (e' := lN (A % 512)) (pk_lRem (b := 512) (by omega) (by decide) (by decide)) ?_⟩⟩
  have u0 : (lN (A / 512)).toInt32 = nI (A / 512) := lN_i _
  have u1 : (lN (A / 512) + 1).toInt32 = nI (A / 512 + 1) := by rw [lN_1]; exact lN_i _
  by_cases k : 256 < A % 512
  · rw [if_pos k, ← u1] at hp
    exact br_t ((pk_lLT (a := 256) (by decide) (by omega)).mpr k) (br_f (by decide) hp)
  · rw [if_neg k] at hp
    refine br_f (fun y => k ((pk_lLT (a := 256) (by decide) (by omega)).mp y)) ?_
    by_cases l : A % 512 = 256
    · rw [if_pos l] at hp
      refine br_t (by rw [l]; rfl) ⟨by decide, ?_⟩
      rw [show lN (A / 512) - lN (A / 512) / 2 * 2 = lN (A / 512 % 2) from pk_lRem (b := 2) (by omega) (by decide) (by decide)]
      by_cases m : A / 512 % 2 = 1
      · rw [if_pos m, ← u1] at hp
        exact br_t (by rw [m]; rfl) (br_f (by decide) hp)
      · rw [if_neg m, ← u0] at hp
        exact br_f (fun y => m ((pk_lEQ (b := 1) (by omega) (by decide)).mp y)) (br_t rfl hp)
    · rw [if_neg l, ← u0] at hp
      exact br_f (fun y => l ((pk_lEQ (b := 256) (by omega) (by decide)).mp y)) (br_t rfl hp)
