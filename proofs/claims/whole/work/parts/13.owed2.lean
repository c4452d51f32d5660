/-! what is owed: written, places, and the text -/
theorem sd_five (x : Int32) : x < 0 ∨ (¬ x < 0 ∧ ¬ x ≤ 5) ∨ ∃ p, p < 6 ∧ x = nI p := by
  by_cases h0 : x < 0
  · exact Or.inl h0
  · by_cases h1 : x ≤ 5
    · obtain ⟨j, hj, e⟩ := nI_of2 (M := 5) (n := 5) (by decide) h0 h1
      exact Or.inr (Or.inr ⟨j, by omega, e⟩)
    · exact Or.inr (Or.inl ⟨h0, h1⟩)
theorem i_vc_written {k : Nat} {u : SX} {v : SY} (I : i_Rel k u v) (hk : k + 4 ≤ 2048) (v1 : Int32) (v2 : Int32) : wpX_written (fun r => wpY_written (fun r' => r' = r ∧ i_Rel (k + 4) u v) v v1 v2) u v1 v2 := by
  obtain ⟨x, n, bd, bs, T, V, W, hx, HT, HV, rfl, rfl⟩ := I
  have R := sd_rel (k + 4) bd bs hx HT HV
  unfold wpX_written wpY_written
  dsimp only
  rcases sd_code v1 with h | ⟨c, hc, rfl⟩
  · exact sx_isCode0 _ h (br_t rfl (sy_isCode0 _ bd bs V W _ h (br_t rfl ⟨rfl, R⟩)))
  · rcases sd_five v2 with h | ⟨h, g⟩ | ⟨p, hp, rfl⟩
    · exact sx_isCode1 _ hc (br_f (by decide) (br_t h (sy_isCode1 _ bd bs V W _ hc (br_f (by decide) (br_t h ⟨rfl, R⟩)))))
    · exact sx_isCode1 _ hc (br_f (by decide) (br_f h (br_f g (sy_isCode1 _ bd bs V W _ hc (br_f (by decide) (br_f h (br_t (Int32.not_le.mp g) ⟨rfl, R⟩)))))))
    · exact sx_isCode1 _ hc (br_f (by decide) (br_f (nI_pos (by omega)) (br_t (nI_le (b := 5) (by omega) (by decide)) (sx_round HT _ _ _ _ (by omega) hp (sy_isCode1 _ bd bs V W _ hc (br_f (by decide) (br_f (nI_pos (by omega)) (br_f (nI_nlt (a := 5) (by omega) (by decide)) (sy_write _ bd bs HV W _ (by omega) hp ⟨rfl, R⟩)))))))))
theorem i_vc_places {k : Nat} {u : SX} {v : SY} (I : i_Rel k u v) (hk : k + 4 ≤ 2048) (v1 : Int32) : wpX_places (fun r => wpY_places (fun r' => r' = r ∧ i_Rel (k + 4) u v) v v1) u v1 := by
  obtain ⟨x, n, bd, bs, T, V, W, hx, HT, HV, rfl, rfl⟩ := I
  have R := sd_rel (k + 4) bd bs hx HT HV
  unfold wpX_places wpY_places
  dsimp only
  rcases sd_code v1 with h | ⟨c, hc, rfl⟩
  · exact sx_isCode0 _ h (br_t rfl (sy_isCode0 _ bd bs V W _ h (br_t rfl ⟨rfl, R⟩)))
  · exact sx_isCode1 _ hc (br_f (by decide) ⟨6, sx_places11 HT _ _ _ _ hc 5 0 6 (by decide) (by decide) (sy_isCode1 _ bd bs V W _ hc (br_f (by decide) ⟨6, sy_places12 _ bd bs HV W _ hc 5 0 6 (by decide) (by decide) ⟨rfl, R⟩⟩))⟩)
theorem i_vc_clear {k : Nat} {u : SX} {v : SY} (I : i_Rel k u v) (hk : k + 4 ≤ 2048) : wpX_clear (fun u' => wpY_clear (fun v' => i_Rel (k + 4) u' v') v) u := by
  obtain ⟨x, n, bd, bs, T, V, W, hx, HT, HV, rfl, rfl⟩ := I
  exact sd_rel0 (k + 4) bd bs W HT HV
theorem i_vc_typedDigits {k : Nat} {u : SX} {v : SY} (I : i_Rel k u v) (hk : k + 4 ≤ 2048) : wpX_typedDigits (fun r => wpY_typedDigits (fun r' => r' = r ∧ i_Rel (k + 4) u v) v) u := by
  obtain ⟨x, n, bd, bs, T, V, W, hx, HT, HV, rfl, rfl⟩ := I
  have R := sd_rel (k + 4) bd bs hx HT HV
  exact sy_td bd bs V hx.1 hx.2.1 (sd_tx_9 hx) _ ⟨rfl, R⟩
theorem sy_typed (bd bs : Int32) {V : Nat → Int32} (HV : sy_V V) {W : Nat → Int32} {x : Nat → Nat} {n : Nat} (hx : sd_tx x n W) (post : Int32 → Prop) (hp : post (nI (sd_rd (sd_nu x n) (12 - sd_bh x n)))) : wpY_typed post (nI n, bd, bs, V, W) := by
  have hb := sd_bh_le x n
  have h8 := hx.2.2.2
  unfold wpY_typed
  dsimp only
  refine sy_td bd bs V hx.1 hx.2.1 (sd_tx_9 hx) _ (sy_cd1 bd bs V hx.1 hx.2.1 (sd_tx_9 hx) _ ?_)
  rw [sd_q_mi _ (by omega)]
  exact sy_read _ bd bs HV W _ (sd_tx_nu hx) (by omega) hp
theorem sx_typed {T : Nat → Int64} (HT : sx_T T) {W : Nat → Int32} {x : Nat → Nat} {n : Nat} (hx : sd_tx x n W) (post : Int32 → Prop) (hp : post (nI (sd_rd (sd_nu x n) (12 - sd_bh x n)))) : wpX_typed post (nI (sd_nu x n), nI (sd_dg x n), sd_db x n, T) := by
  have h := sd_tx_nu hx
  unfold wpX_typed
  dsimp only
  exact sx_ts _ T hx.2.2.2 _ (sx_cn HT _ _ _ _ (by omega) (by omega) hp)
theorem i_vc_typed {k : Nat} {u : SX} {v : SY} (I : i_Rel k u v) (hk : k + 4 ≤ 2048) : wpX_typed (fun r => wpY_typed (fun r' => r' = r ∧ i_Rel (k + 4) u v) v) u := by
  obtain ⟨x, n, bd, bs, T, V, W, hx, HT, HV, rfl, rfl⟩ := I
  have R := sd_rel (k + 4) bd bs hx HT HV
  exact sx_typed HT hx _ (sy_typed bd bs HV hx _ ⟨rfl, R⟩)
theorem sx_spare {T : Nat → Int64} (HT : sx_T T) {W : Nat → Int32} {x : Nat → Nat} {n : Nat} (hx : sd_tx x n W) (post : Int32 → Prop) (hp : post (nI (sd_gr (sd_nu x n) (12 - sd_bh x n) (sd_dg x n)))) : wpX_spare post (nI (sd_nu x n), nI (sd_dg x n), sd_db x n, T) := by
  have h := sd_tx_nu hx
  unfold wpX_spare
  dsimp only
  exact sx_ts _ T hx.2.2.2 _ (sx_cn HT _ _ _ _ (by omega) (by omega) ⟨sd_dg x n + 1, sx_spare20 HT _ _ post h (by omega) (sd_dg x n) (sd_dg x n + 1) (by omega) hx.2.2.2 hp⟩)
theorem sy_spare (bd bs : Int32) {V : Nat → Int32} (HV : sy_V V) {W : Nat → Int32} {x : Nat → Nat} {n : Nat} (hx : sd_tx x n W) (post : Int32 → Prop) (hp : post (nI (sd_gr (sd_nu x n) (12 - sd_bh x n) (sd_dg x n)))) : wpY_spare post (nI n, bd, bs, V, W) := by
  have hb := sd_bh_le x n
  have h8 := hx.2.2.2
  unfold wpY_spare
  dsimp only
  refine sy_td bd bs V hx.1 hx.2.1 (sd_tx_9 hx) _ (sy_cd1 bd bs V hx.1 hx.2.1 (sd_tx_9 hx) _ (nm_r (sd_q_mi _ (by omega)) ?_))
  exact sy_read _ bd bs HV W _ (sd_tx_nu hx) (by omega) (sy_cd0 bd bs V hx.1 hx.2.1 (sd_tx_9 hx) _ ⟨sd_dg x n + 1, sy_spare35 _ bd bs HV W post (sd_tx_nu hx) (by omega) h8 hp (sd_dg x n) 0 (sd_dg x n + 1) (by omega) (by omega)⟩)
theorem i_vc_spare {k : Nat} {u : SX} {v : SY} (I : i_Rel k u v) (hk : k + 4 ≤ 2048) : wpX_spare (fun r => wpY_spare (fun r' => r' = r ∧ i_Rel (k + 4) u v) v) u := by
  obtain ⟨x, n, bd, bs, T, V, W, hx, HT, HV, rfl, rfl⟩ := I
  have R := sd_rel (k + 4) bd bs hx HT HV
  exact sx_spare HT hx _ (sy_spare bd bs HV hx _ ⟨rfl, R⟩)
theorem i_vc_back {k : Nat} {u : SX} {v : SY} (I : i_Rel k u v) (hk : k + 4 ≤ 2048) : wpX_back (fun r u' => wpY_back (fun r' v' => r' = r ∧ i_Rel (k + 4) u' v') v) u := by
  obtain ⟨x, n, bd, bs, T, V, W, hx, HT, HV, rfl, rfl⟩ := I
  have h9 := sd_tx_9 hx
  have hn := sd_tx_nu hx
  cases n with
  | zero => exact br_f (sd_m1' (m := 0) (by decide)) (br_t nI_0 (br_t nI_0 ⟨rfl, sd_rel (k + 4) bd bs hx HT HV⟩))
  | succ a =>
    obtain ⟨h1, h2, h3, h4⟩ := hx
    have hb := sd_bh_le x a
    have eW : W (nI a).toNatClampNeg = nI (x a) := by rw [nI_clamp (by omega), h2 a (by omega)]
    have x10 := h1 a (by omega)
    have va : vp_in (nI a) 9 := vp_in_nI (by omega) (by decide)
    have sn : ¬ nI (a + 1) = 0 := nI_ne0 (by omega) (by omega)
    by_cases p : x a = 10
    · rw [sd_pt_p p] at h3
      rw [sd_dg_p p] at h4
      have z : sd_pt x a = 0 := by omega
      have hx' : sd_tx x a W := ⟨fun i hi => h1 i (by omega), fun i hi => h2 i (by omega), by omega, h4⟩
      have R := sd_rel (k + 4) bd bs hx' HT HV
      have eb : sd_db x (a + 1) = nI (sd_dg x a) := by
        unfold sd_db
        rw [sd_pt_p p, if_neg (by omega), sd_dg_p p, sd_bh_p p, sd_bh_0 x a z]
        rfl
      have eb' : sd_db x a = -1 := if_pos z
      rw [eb'] at R
      rw [sd_nu_p p, sd_dg_p p, eb]
      refine br_t rfl (br_f sn (nm_r (nI_pred a) ⟨va, ?_, R⟩))
      rw [eW, p]
      rfl
    · rw [sd_pt_d p] at h3
      rw [sd_dg_d p] at h4
      have hx' : sd_tx x a W := ⟨fun i hi => h1 i (by omega), fun i hi => h2 i (by omega), h3, by omega⟩
      have R := sd_rel (k + 4) bd bs hx' HT HV
      have eb : sd_db x (a + 1) = sd_db x a := by
        unfold sd_db
        rw [sd_pt_d p]
        by_cases z : sd_pt x a = 0
        · rw [if_pos z, if_pos z]
        · rw [if_neg z, if_neg z, sd_dg_d p, sd_bh_d p, if_neg z, Nat.add_sub_add_right]
      have nb : ¬ sd_db x a = nI (sd_dg x a + 1) := by
        unfold sd_db
        by_cases z : sd_pt x a = 0
        · rw [if_pos z]
          exact sd_m1' (by omega)
        · rw [if_neg z]
          intro y
          have := (nI_eq (by omega) (by omega)).mp y
          omega
      rw [sd_nu_d p] at hn
      rw [sd_nu_d p, sd_dg_d p, eb]
      have e1 : nI (10 * sd_nu x a + x a) - nI (10 * sd_nu x a + x a) / 10 * 10 = nI (x a) := by
        rw [show nI (10 * sd_nu x a + x a) - nI (10 * sd_nu x a + x a) / 10 * 10 = nI ((10 * sd_nu x a + x a) % 10) from pk_rem (d := 10) (by omega) (by decide) (by decide)]
        exact congrArg nI (by omega)
      have e2 : nI (10 * sd_nu x a + x a) / 10 = nI (sd_nu x a) := by
        rw [show nI (10 * sd_nu x a + x a) / 10 = nI ((10 * sd_nu x a + x a) / 10) from pk_div (d := 10) (by omega) (by decide) (by decide)]
        exact congrArg nI (by omega)
      exact br_f nb (br_f (nI_ne0 (by omega) (by omega)) ⟨by decide, nm_r e1 ⟨by decide, nm_r e2 (nm_r (nI_pred (sd_dg x a)) (br_f sn (nm_r (nI_pred a) ⟨va, eW, R⟩)))⟩⟩)
theorem sd_ten (x : Int32) : x < 0 ∨ (¬ x < 0 ∧ ¬ x ≤ 10) ∨ ∃ p, p ≤ 10 ∧ x = nI p := by
  by_cases h0 : x < 0
  · exact Or.inl h0
  · by_cases h1 : x ≤ 10
    · obtain ⟨j, hj, e⟩ := nI_of2 (M := 10) (n := 10) (by decide) h0 h1
      exact Or.inr (Or.inr ⟨j, hj, e⟩)
    · exact Or.inr (Or.inl ⟨h0, h1⟩)
theorem sy_44 (bd bs : Int32) (V : Nat → Int32) {W : Nat → Int32} {x : Nat → Nat} {n k : Nat} (hx : sd_tx x n W) (hk : k ≤ 10) (h8 : n < 9) (post : Int32 → SY → Prop) (hp : post (nI (sd_dg (sd_app x n k) (n + 1))) (nI (n + 1), bd, bs, V, upd W n (nI k))) : wY_type_44 post (nI k) (nI n) bd bs V W := by
  have a1 := sd_app_x hk hx.1
  have a2 := sd_app_W (k := k) hx.2.1
  refine ⟨vp_in_nI h8 (by decide), nm_r (e' := upd W n (nI k)) (by rw [nI_clamp (by omega)]) (nm_r (nI_1 n) (sy_cd0 bd bs V a1 a2 (by omega) _ hp))⟩
theorem i_vc_type {k : Nat} {u : SX} {v : SY} (I : i_Rel k u v) (hk : k + 4 ≤ 2048) (v1 : Int32) : wpX_type (fun r u' => wpY_type (fun r' v' => r' = r ∧ i_Rel (k + 4) u' v') v v1) u v1 := by
  obtain ⟨x, n, bd, bs, T, V, W, hx, HT, HV, rfl, rfl⟩ := I
  have R := sd_rel (k + 4) bd bs hx HT HV
  have h9 := sd_tx_9 hx
  have hnu := sd_tx_nu hx
  obtain ⟨h1, h2, h3, h4⟩ := id hx
  have hn := sd_tx_n x n
  have hb := sd_bh_le x n
  rcases sd_ten v1 with h | ⟨h, g⟩ | ⟨p, hp, rfl⟩
  · exact br_t h (br_t h ⟨rfl, R⟩)
  · exact br_f h (br_f g (br_f h (br_f g ⟨rfl, R⟩)))
  · have p0 : ¬ nI p < 0 := nI_pos (by omega)
    have p1 : nI p ≤ 10 := nI_le (b := 10) hp (by decide)
    obtain ⟨c1, c2, c3, c4⟩ := sd_app_c x n p
    have cn := sd_app_n x n p
    by_cases e : p = 10
    · have pe : nI p = 10 := by rw [e]; rfl
      have en : sd_app x n p n = 10 := by rw [cn, e]
      refine br_f p0 (br_t p1 (br_t pe ?_))
      by_cases z : sd_pt x n = 0
      · have eb : sd_db x n = -1 := if_pos z
        have hx' : sd_tx (sd_app x n p) (n + 1) (upd W n (nI p)) := ⟨sd_app_x hp h1, sd_app_W h2, by rw [sd_pt_p en, c2]; omega, by rw [sd_dg_p en, c1]; exact h4⟩
        have R' := sd_rel (k + 4) bd bs hx' HT HV
        have eb' : sd_db (sd_app x n p) (n + 1) = nI (sd_dg x n) := by
          unfold sd_db
          rw [sd_pt_p en, if_neg (by omega), sd_dg_p en, sd_bh_p en, c1, c3, sd_bh_0 x n z]
          rfl
        rw [eb', sd_nu_p en, sd_dg_p en, c1, c4] at R'
        refine br_t eb (br_f p0 (br_t p1 (sy_cd0 bd bs V h1 h2 h9 _ (br_t pe (br_t (nI_le (by omega) (by omega)) (sy_44 bd bs V hx hp (by omega) _ ⟨?_, R'⟩))))))
        rw [sd_dg_p en, c1]
      · have eb : ¬ sd_db x n = -1 := by
          unfold sd_db
          rw [if_neg z]
          exact sd_m1 (by omega)
        exact br_f eb (br_f p0 (br_t p1 (sy_cd0 bd bs V h1 h2 h9 _ (br_t pe (br_f (nI_ge (by omega) (by omega)) ⟨rfl, R⟩)))))
    · have pe : ¬ nI p = 10 := fun y => e ((nI_eq (b := 10) (by omega) (by decide)).mp y)
      have en : sd_app x n p n ≠ 10 := by rw [cn]; exact e
      refine br_f p0 (br_t p1 (br_f pe ?_))
      by_cases z : sd_dg x n = 8
      · have z8 : nI (sd_dg x n) = 8 := by rw [z]; rfl
        exact br_t z8 (br_f p0 (br_t p1 (sy_cd0 bd bs V h1 h2 h9 _ (br_f pe (br_t z8 ⟨rfl, R⟩)))))
      · have z8 : ¬ nI (sd_dg x n) = 8 := fun y => z ((nI_eq (b := 8) (by omega) (by decide)).mp y)
        have hx' : sd_tx (sd_app x n p) (n + 1) (upd W n (nI p)) := ⟨sd_app_x hp h1, sd_app_W h2, by rw [sd_pt_d en, c2]; exact h3, by rw [sd_dg_d en, c1]; omega⟩
        have R' := sd_rel (k + 4) bd bs hx' HT HV
        have eb' : sd_db (sd_app x n p) (n + 1) = sd_db x n := by
          unfold sd_db
          rw [sd_pt_d en, c2]
          by_cases y : sd_pt x n = 0
          · rw [if_pos y, if_pos y]
          · rw [if_neg y, if_neg y, sd_dg_d en, sd_bh_d en, c1, c2, c3, if_neg y, Nat.add_sub_add_right]
        rw [eb', sd_nu_d en, sd_dg_d en, c1, c4, cn] at R'
        have e1 : nI (sd_nu x n) * 10 + nI p = nI (10 * sd_nu x n + p) := by
          rw [show nI (sd_nu x n) * 10 = nI (sd_nu x n * 10) from pk_mul _ 10, nI_add, Nat.mul_comm]
        refine br_f z8 (nm_r e1 (nm_r (nI_1 (sd_dg x n)) (br_f p0 (br_t p1 (sy_cd0 bd bs V h1 h2 h9 _ (br_f pe (br_f z8 (sy_44 bd bs V hx hp (by omega) _ ⟨?_, R'⟩))))))))
        rw [sd_dg_d en, c1]
