/-! what is owed, method by method -/
theorem sx_units0 (fn fd fb : Int32) (T : Nat → Int64) (post : Int32 → Prop) {x : Int32} (h : x < 0 ∨ 1023 < x) (hp : post (-1)) : wpX_units post (fn, fd, fb, T) x := by
  unfold wpX_units
  dsimp only
  exact sx_isCode0 _ h (br_t rfl hp)
theorem sx_units1 (fn fd fb : Int32) (T : Nat → Int64) (post : Int32 → Prop) {c : Nat} (h : c < 1024) (hp : post (nI (sd_v c))) : wpX_units post (fn, fd, fb, T) (nI c) := by
  unfold wpX_units
  dsimp only
  exact sx_isCode1 _ h (br_f (by decide) (sx_unitsOf _ (by omega) hp))
theorem sy_units0 (sz bd bs : Int32) (V W : Nat → Int32) (post : Int32 → Prop) {x : Int32} (h : x < 0 ∨ 1023 < x) (hp : post (-1)) : wpY_units post (sz, bd, bs, V, W) x := by
  unfold wpY_units
  dsimp only
  exact sy_isCode0 sz bd bs V W _ h (br_t rfl hp)
theorem sy_units1 (sz bd bs : Int32) {V : Nat → Int32} (HV : sy_V V) (W : Nat → Int32) (post : Int32 → Prop) {c : Nat} (h : c < 1024) (hp : post (nI (sd_v c))) : wpY_units post (sz, bd, bs, V, W) (nI c) := by
  unfold wpY_units
  dsimp only
  refine sy_isCode1 sz bd bs V W _ h (br_f (by decide) ⟨vp_in_nI (by omega) (by decide), ?_⟩)
  rw [nI_clamp (by omega), HV c (by omega)]
  exact hp
theorem i_vc_units {k : Nat} {u : SX} {v : SY} (I : i_Rel k u v) (hk : k + 4 ≤ 2048) (v1 : Int32) : wpX_units (fun r => wpY_units (fun r' => r' = r ∧ i_Rel (k + 4) u v) v v1) u v1 := by
  obtain ⟨x, n, bd, bs, T, V, W, hx, HT, HV, rfl, rfl⟩ := I
  have R := sd_rel (k + 4) bd bs hx HT HV
  rcases sd_code v1 with h | ⟨c, hc, rfl⟩
  · exact sx_units0 _ _ _ T _ h (sy_units0 _ bd bs V W _ h ⟨rfl, R⟩)
  · exact sx_units1 _ _ _ T _ hc (sy_units1 _ bd bs HV W _ hc ⟨rfl, R⟩)
theorem sx_read0 (fn fd fb : Int32) (T : Nat → Int64) (post : Int32 → Prop) {x y : Int32} (h : x < 0 ∨ 99999999 < x ∨ y < -12 ∨ 6 < y) (hp : post (-1)) : wpX_read post (fn, fd, fb, T) x y := by
  unfold wpX_read
  dsimp only
  exact sx_isDec0 _ h (br_t rfl hp)
theorem sx_read1 {T : Nat → Int64} (HT : sx_T T) (fn fd fb : Int32) (post : Int32 → Prop) {d t : Nat} (hd : d ≤ 99999999) (ht : t < 19) (hp : post (nI (sd_rd d t))) : wpX_read post (fn, fd, fb, T) (nI d) (sd_q t) := by
  unfold wpX_read
  dsimp only
  exact sx_isDec1 _ hd ht (br_f (by decide) (sx_cn HT fn fd fb _ (by omega) ht hp))
theorem sy_read0 (sz bd bs : Int32) (V W : Nat → Int32) (post : Int32 → Prop) {x y : Int32} (h : x < 0 ∨ 99999999 < x ∨ y < -12 ∨ 6 < y) (hp : post (-1)) : wpY_read post (sz, bd, bs, V, W) x y := by
  unfold wpY_read
  dsimp only
  exact sy_isDec0 sz bd bs V W _ h (br_t rfl hp)
theorem i_vc_read {k : Nat} {u : SX} {v : SY} (I : i_Rel k u v) (hk : k + 4 ≤ 2048) (v1 : Int32) (v2 : Int32) : wpX_read (fun r => wpY_read (fun r' => r' = r ∧ i_Rel (k + 4) u v) v v1 v2) u v1 v2 := by
  obtain ⟨x, n, bd, bs, T, V, W, hx, HT, HV, rfl, rfl⟩ := I
  have R := sd_rel (k + 4) bd bs hx HT HV
  rcases sd_deci v1 v2 with h | ⟨d, t, hd, ht, rfl, rfl⟩
  · exact sx_read0 _ _ _ T _ h (sy_read0 _ bd bs V W _ h ⟨rfl, R⟩)
  · exact sx_read1 HT _ _ _ _ hd ht (sy_read _ bd bs HV W _ hd ht ⟨rfl, R⟩)
theorem sx_names0 (fn fd fb : Int32) (T : Nat → Int64) (post : Int32 → Prop) {z x y : Int32} (h : (z < 0 ∨ 1023 < z) ∨ ((∃ c, c < 1024 ∧ z = nI c) ∧ (x < 0 ∨ 99999999 < x ∨ y < -12 ∨ 6 < y))) (hp : post 0) : wpX_names post (fn, fd, fb, T) z x y := by
  unfold wpX_names
  dsimp only
  rcases h with h | ⟨⟨c, hc, rfl⟩, h⟩
  · exact sx_isCode0 _ h (br_t rfl hp)
  · exact sx_isCode1 _ hc (br_f (by decide) (sx_isDec0 _ h (br_t rfl hp)))
theorem sx_names1 {T : Nat → Int64} (HT : sx_T T) (fn fd fb : Int32) (post : Int32 → Prop) {c d t : Nat} (hc : c < 1024) (hd : d ≤ 99999999) (ht : t < 19) (hp : post (if sd_nm c d t = true then 1 else 0)) : wpX_names post (fn, fd, fb, T) (nI c) (nI d) (sd_q t) := by
  unfold wpX_names
  dsimp only
  refine sx_isCode1 _ hc (br_f (by decide) (sx_isDec1 _ hd ht (br_f (by decide) (sx_nm HT fn fd fb _ hc (by omega) ht ?_))))
  by_cases r : sd_nm c d t = true
  · rw [if_pos r] at hp ⊢
    exact br_f (by decide) hp
  · rw [if_neg r] at hp ⊢
    exact br_t rfl hp
theorem sy_names0 (sz bd bs : Int32) (V W : Nat → Int32) (post : Int32 → Prop) {z x y : Int32} (h : (x < 0 ∨ 99999999 < x ∨ y < -12 ∨ 6 < y) ∨ ((∃ d t, d ≤ 99999999 ∧ t < 19 ∧ x = nI d ∧ y = sd_q t) ∧ (z < 0 ∨ 1023 < z))) (hp : post 0) : wpY_names post (sz, bd, bs, V, W) z x y := by
  unfold wpY_names
  dsimp only
  rcases h with h | ⟨⟨d, t, hd, ht, rfl, rfl⟩, h⟩
  · exact sy_isDec0 sz bd bs V W _ h (br_t rfl hp)
  · exact sy_isDec1 sz bd bs V W _ hd ht (br_f (by decide) (sy_isCode0 sz bd bs V W _ h (br_t rfl hp)))
theorem sy_names1 (sz bd bs : Int32) {V : Nat → Int32} (HV : sy_V V) (W : Nat → Int32) (post : Int32 → Prop) {c d t : Nat} (hc : c < 1024) (hd : d ≤ 99999999) (ht : t < 19) (hp : post (if sd_nm c d t = true then 1 else 0)) : wpY_names post (sz, bd, bs, V, W) (nI c) (nI d) (sd_q t) := by
  unfold wpY_names
  dsimp only
  refine sy_isDec1 sz bd bs V W _ hd ht (br_f (by decide) (sy_isCode1 sz bd bs V W _ hc (br_f (by decide) (sy_nm sz bd bs HV W _ hc (by omega) ht ?_))))
  by_cases r : sd_nm c d t = true
  · rw [if_pos r] at hp ⊢
    exact br_f (by decide) hp
  · rw [if_neg r] at hp ⊢
    exact br_t rfl hp
theorem i_vc_names {k : Nat} {u : SX} {v : SY} (I : i_Rel k u v) (hk : k + 4 ≤ 2048) (v1 : Int32) (v2 : Int32) (v3 : Int32) : wpX_names (fun r => wpY_names (fun r' => r' = r ∧ i_Rel (k + 4) u v) v v1 v2 v3) u v1 v2 v3 := by
  obtain ⟨x, n, bd, bs, T, V, W, hx, HT, HV, rfl, rfl⟩ := I
  have R := sd_rel (k + 4) bd bs hx HT HV
  rcases sd_code v1 with h | h
  · rcases sd_deci v2 v3 with g | g
    · exact sx_names0 _ _ _ T _ (Or.inl h) (sy_names0 _ bd bs V W _ (Or.inl g) ⟨rfl, R⟩)
    · exact sx_names0 _ _ _ T _ (Or.inl h) (sy_names0 _ bd bs V W _ (Or.inr ⟨g, h⟩) ⟨rfl, R⟩)
  · rcases sd_deci v2 v3 with g | g
    · exact sx_names0 _ _ _ T _ (Or.inr ⟨h, g⟩) (sy_names0 _ bd bs V W _ (Or.inl g) ⟨rfl, R⟩)
    · obtain ⟨c, hc, rfl⟩ := h
      obtain ⟨d, t, hd, ht, rfl, rfl⟩ := g
      exact sx_names1 HT _ _ _ _ hc hd ht (sy_names1 _ bd bs HV W _ hc hd ht ⟨rfl, R⟩)
theorem sx_comp0 (fn fd fb : Int32) (T : Nat → Int64) (post : Int32 → Prop) {z x y : Int32} (h : (z < 0 ∨ 1023 < z) ∨ ((∃ c, c < 1024 ∧ z = nI c) ∧ (x < 0 ∨ 99999999 < x ∨ y < -12 ∨ 6 < y))) (hp : post 2) : wpX_compare post (fn, fd, fb, T) z x y := by
  unfold wpX_compare
  dsimp only
  rcases h with h | ⟨⟨c, hc, rfl⟩, h⟩
  · exact sx_isCode0 _ h (br_t rfl hp)
  · exact sx_isCode1 _ hc (br_f (by decide) (sx_isDec0 _ h (br_t rfl hp)))
theorem sx_comp1 {T : Nat → Int64} (HT : sx_T T) (fn fd fb : Int32) (post : Int32 → Prop) {c d t : Nat} (hc : c < 1024) (hd : d ≤ 99999999) (ht : t < 19) (hp : post (sd_sg (2 * sd_v c) d t)) : wpX_compare post (fn, fd, fb, T) (nI c) (nI d) (sd_q t) := by
  have hv := sd_v_le c (by omega)
  unfold wpX_compare
  dsimp only
  exact sx_isCode1 _ hc (br_f (by decide) (sx_isDec1 _ hd ht (br_f (by decide) (sx_unitsOf _ (by omega) (nm_r (pk_mul 2 _) (sx_cmp HT fn fd fb _ (by omega) (by omega) ht hp))))))
theorem sy_comp0 (sz bd bs : Int32) (V W : Nat → Int32) (post : Int32 → Prop) {z x y : Int32} (h : (x < 0 ∨ 99999999 < x ∨ y < -12 ∨ 6 < y) ∨ ((∃ d t, d ≤ 99999999 ∧ t < 19 ∧ x = nI d ∧ y = sd_q t) ∧ (z < 0 ∨ 1023 < z))) (hp : post 2) : wpY_compare post (sz, bd, bs, V, W) z x y := by
  unfold wpY_compare
  dsimp only
  rcases h with h | ⟨⟨d, t, hd, ht, rfl, rfl⟩, h⟩
  · exact sy_isDec0 sz bd bs V W _ h (br_t rfl hp)
  · exact sy_isDec1 sz bd bs V W _ hd ht (br_f (by decide) (sy_isCode0 sz bd bs V W _ h (br_t rfl hp)))
theorem sy_comp1 (sz bd bs : Int32) {V : Nat → Int32} (HV : sy_V V) (W : Nat → Int32) (post : Int32 → Prop) {c d t : Nat} (hc : c < 1024) (hd : d ≤ 99999999) (ht : t < 19) (hp : post (sd_sg (2 * sd_v c) d t)) : wpY_compare post (sz, bd, bs, V, W) (nI c) (nI d) (sd_q t) := by
  have hv := sd_v_le c (by omega)
  unfold wpY_compare
  dsimp only
  refine sy_isDec1 sz bd bs V W _ hd ht (br_f (by decide) (sy_isCode1 sz bd bs V W _ hc (br_f (by decide) ⟨vp_in_nI (by omega) (by decide), ?_⟩)))
  have e : (2 : Int64) * (V (nI c).toNatClampNeg).toInt64 = lN (2 * sd_v c) := by
    rw [nI_clamp (by omega), HV c (by omega), nI_l (by omega)]
    exact lN_mul 2 _
  rw [e]
  exact sy_sign sz bd bs V W _ (by omega) (by omega) ht hp
theorem i_vc_compare {k : Nat} {u : SX} {v : SY} (I : i_Rel k u v) (hk : k + 4 ≤ 2048) (v1 : Int32) (v2 : Int32) (v3 : Int32) : wpX_compare (fun r => wpY_compare (fun r' => r' = r ∧ i_Rel (k + 4) u v) v v1 v2 v3) u v1 v2 v3 := by
  obtain ⟨x, n, bd, bs, T, V, W, hx, HT, HV, rfl, rfl⟩ := I
  have R := sd_rel (k + 4) bd bs hx HT HV
  rcases sd_code v1 with h | h
  · rcases sd_deci v2 v3 with g | g
    · exact sx_comp0 _ _ _ T _ (Or.inl h) (sy_comp0 _ bd bs V W _ (Or.inl g) ⟨rfl, R⟩)
    · exact sx_comp0 _ _ _ T _ (Or.inl h) (sy_comp0 _ bd bs V W _ (Or.inr ⟨g, h⟩) ⟨rfl, R⟩)
  · rcases sd_deci v2 v3 with g | g
    · exact sx_comp0 _ _ _ T _ (Or.inr ⟨h, g⟩) (sy_comp0 _ bd bs V W _ (Or.inl g) ⟨rfl, R⟩)
    · obtain ⟨c, hc, rfl⟩ := h
      obtain ⟨d, t, hd, ht, rfl, rfl⟩ := g
      exact sx_comp1 HT _ _ _ _ hc hd ht (sy_comp1 _ bd bs HV W _ hc hd ht ⟨rfl, R⟩)
theorem sx_digits1 {T : Nat → Int64} (HT : sx_T T) (fn fd fb : Int32) (post : Int32 → Prop) {c : Nat} (hc : c < 1024) (hp : post (nI (sd_fm c 8 (0, 12)).1)) : wpX_digits post (fn, fd, fb, T) (nI c) := by
  unfold wpX_digits
  dsimp only
  rw [← (sd_same hc).1] at hp
  exact sx_isCode1 _ hc (br_f (by decide) (sx_ss HT fn fd fb _ hc (sx_ca HT fn fd fb _ hc (sd_sh_g c 19 (by omega)).1 hp)))
theorem sx_digits0 (fn fd fb : Int32) (T : Nat → Int64) (post : Int32 → Prop) {x : Int32} (h : x < 0 ∨ 1023 < x) (hp : post (-1)) : wpX_digits post (fn, fd, fb, T) x := by
  unfold wpX_digits
  dsimp only
  exact sx_isCode0 _ h (br_t rfl hp)
theorem sy_digits1 (sz bd bs : Int32) {V : Nat → Int32} (HV : sy_V V) (W : Nat → Int32) (post : Int32 → SY → Prop) {c : Nat} (hc : c < 1024) (hp : post (nI (sd_fm c 8 (0, 12)).1) (sz, nI (sd_fm c 8 (0, 12)).1, sd_q (sd_fm c 8 (0, 12)).2, V, W)) : wpY_digits post (sz, bd, bs, V, W) (nI c) := by
  unfold wpY_digits
  dsimp only
  exact sy_isCode1 sz bd bs V W _ hc (br_f (by decide) (sy_fs sz bd bs HV W _ hc hp))
theorem sy_digits0 (sz bd bs : Int32) (V W : Nat → Int32) (post : Int32 → SY → Prop) {x : Int32} (h : x < 0 ∨ 1023 < x) (hp : post (-1) (sz, bd, bs, V, W)) : wpY_digits post (sz, bd, bs, V, W) x := by
  unfold wpY_digits
  dsimp only
  exact sy_isCode0 sz bd bs V W _ h (br_t rfl hp)
theorem i_vc_digits {k : Nat} {u : SX} {v : SY} (I : i_Rel k u v) (hk : k + 4 ≤ 2048) (v1 : Int32) : wpX_digits (fun r => wpY_digits (fun r' v' => r' = r ∧ i_Rel (k + 4) u v') v v1) u v1 := by
  obtain ⟨x, n, bd, bs, T, V, W, hx, HT, HV, rfl, rfl⟩ := I
  rcases sd_code v1 with h | ⟨c, hc, rfl⟩
  · exact sx_digits0 _ _ _ T _ h (sy_digits0 _ bd bs V W _ h ⟨rfl, sd_rel (k + 4) bd bs hx HT HV⟩)
  · exact sx_digits1 HT _ _ _ _ hc (sy_digits1 _ bd bs HV W _ hc ⟨rfl, sd_rel (k + 4) _ _ hx HT HV⟩)
theorem sx_scale1 {T : Nat → Int64} (HT : sx_T T) (fn fd fb : Int32) (post : Int32 → Prop) {c : Nat} (hc : c < 1024) (hp : post (sd_q (sd_fm c 8 (0, 12)).2)) : wpX_scale post (fn, fd, fb, T) (nI c) := by
  unfold wpX_scale
  dsimp only
  rw [← (sd_same hc).2] at hp
  exact sx_isCode1 _ hc (br_f (by decide) (sx_ss HT fn fd fb _ hc hp))
theorem sx_scale0 (fn fd fb : Int32) (T : Nat → Int64) (post : Int32 → Prop) {x : Int32} (h : x < 0 ∨ 1023 < x) (hp : post (-100)) : wpX_scale post (fn, fd, fb, T) x := by
  unfold wpX_scale
  dsimp only
  exact sx_isCode0 _ h (br_t rfl hp)
theorem sy_scale1 (sz bd bs : Int32) {V : Nat → Int32} (HV : sy_V V) (W : Nat → Int32) (post : Int32 → SY → Prop) {c : Nat} (hc : c < 1024) (hp : post (sd_q (sd_fm c 8 (0, 12)).2) (sz, nI (sd_fm c 8 (0, 12)).1, sd_q (sd_fm c 8 (0, 12)).2, V, W)) : wpY_scale post (sz, bd, bs, V, W) (nI c) := by
  unfold wpY_scale
  dsimp only
  exact sy_isCode1 sz bd bs V W _ hc (br_f (by decide) (sy_fs sz bd bs HV W _ hc hp))
theorem sy_scale0 (sz bd bs : Int32) (V W : Nat → Int32) (post : Int32 → SY → Prop) {x : Int32} (h : x < 0 ∨ 1023 < x) (hp : post (-100) (sz, bd, bs, V, W)) : wpY_scale post (sz, bd, bs, V, W) x := by
  unfold wpY_scale
  dsimp only
  exact sy_isCode0 sz bd bs V W _ h (br_t rfl hp)
theorem i_vc_scale {k : Nat} {u : SX} {v : SY} (I : i_Rel k u v) (hk : k + 4 ≤ 2048) (v1 : Int32) : wpX_scale (fun r => wpY_scale (fun r' v' => r' = r ∧ i_Rel (k + 4) u v') v v1) u v1 := by
  obtain ⟨x, n, bd, bs, T, V, W, hx, HT, HV, rfl, rfl⟩ := I
  rcases sd_code v1 with h | ⟨c, hc, rfl⟩
  · exact sx_scale0 _ _ _ T _ h (sy_scale0 _ bd bs V W _ h ⟨rfl, sd_rel (k + 4) bd bs hx HT HV⟩)
  · exact sx_scale1 HT _ _ _ _ hc (sy_scale1 _ bd bs HV W _ hc ⟨rfl, sd_rel (k + 4) _ _ hx HT HV⟩)
theorem sd_fm_le {c : Nat} (hc : c < 1024) : (sd_fm c 8 (0, 12)).1 ≤ 99999999 := by
  rw [← (sd_same hc).1]
  exact (sd_ca_g c _).1
theorem sx_length1 {T : Nat → Int64} (HT : sx_T T) (fn fd fb : Int32) (post : Int32 → Prop) {c : Nat} (hc : c < 1024) (hp : post (nI (sd_dc (sd_fm c 8 (0, 12)).1))) : wpX_length post (fn, fd, fb, T) (nI c) := by
  unfold wpX_length
  dsimp only
  rw [← (sd_same hc).1] at hp
  have hl := (sd_ca_g c (sd_sh c 19).2).1
  exact sx_isCode1 _ hc (br_f (by decide) (sx_ss HT fn fd fb _ hc (sx_ca HT fn fd fb _ hc (sd_sh_g c 19 (by omega)).1 (sx_count HT fn fd fb _ (by omega) hp))))
theorem sx_length0 (fn fd fb : Int32) (T : Nat → Int64) (post : Int32 → Prop) {x : Int32} (h : x < 0 ∨ 1023 < x) (hp : post (-1)) : wpX_length post (fn, fd, fb, T) x := by
  unfold wpX_length
  dsimp only
  exact sx_isCode0 _ h (br_t rfl hp)
theorem sy_length1 (sz bd bs : Int32) {V : Nat → Int32} (HV : sy_V V) (W : Nat → Int32) (post : Int32 → SY → Prop) {c : Nat} (hc : c < 1024) (hp : post (nI (sd_dc (sd_fm c 8 (0, 12)).1)) (sz, nI (sd_fm c 8 (0, 12)).1, sd_q (sd_fm c 8 (0, 12)).2, V, W)) : wpY_length post (sz, bd, bs, V, W) (nI c) := by
  have hl := sd_fm_le hc
  unfold wpY_length
  dsimp only
  exact sy_isCode1 sz bd bs V W _ hc (br_f (by decide) (sy_fs sz bd bs HV W _ hc (sy_dig sz _ _ V W _ (by omega) hp)))
theorem sy_length0 (sz bd bs : Int32) (V W : Nat → Int32) (post : Int32 → SY → Prop) {x : Int32} (h : x < 0 ∨ 1023 < x) (hp : post (-1) (sz, bd, bs, V, W)) : wpY_length post (sz, bd, bs, V, W) x := by
  unfold wpY_length
  dsimp only
  exact sy_isCode0 sz bd bs V W _ h (br_t rfl hp)
theorem i_vc_length {k : Nat} {u : SX} {v : SY} (I : i_Rel k u v) (hk : k + 4 ≤ 2048) (v1 : Int32) : wpX_length (fun r => wpY_length (fun r' v' => r' = r ∧ i_Rel (k + 4) u v') v v1) u v1 := by
  obtain ⟨x, n, bd, bs, T, V, W, hx, HT, HV, rfl, rfl⟩ := I
  rcases sd_code v1 with h | ⟨c, hc, rfl⟩
  · exact sx_length0 _ _ _ T _ h (sy_length0 _ bd bs V W _ h ⟨rfl, sd_rel (k + 4) bd bs hx HT HV⟩)
  · exact sx_length1 HT _ _ _ _ hc (sy_length1 _ bd bs HV W _ hc ⟨rfl, sd_rel (k + 4) _ _ hx HT HV⟩)
