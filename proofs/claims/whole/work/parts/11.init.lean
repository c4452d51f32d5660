/-! the relation and the two constructors -/
/-- the same text on both sides: x its keys, n their number -/
def i_Rel (_ : Nat) (u : SX) (v : SY) : Prop := ∃ (x : Nat → Nat) (n : Nat) (bd bs : Int32) (T : Nat → Int64) (V W : Nat → Int32), sd_tx x n W ∧ sx_T T ∧ sy_V V ∧ u = (nI (sd_nu x n), nI (sd_dg x n), sd_db x n, T) ∧ v = (nI n, bd, bs, V, W)
theorem sd_rel (k : Nat) {x : Nat → Nat} {n : Nat} (bd bs : Int32) {T : Nat → Int64} {V W : Nat → Int32} (h : sd_tx x n W) (HT : sx_T T) (HV : sy_V V) : i_Rel k (nI (sd_nu x n), nI (sd_dg x n), sd_db x n, T) (nI n, bd, bs, V, W) :=
  ⟨x, n, bd, bs, T, V, W, h, HT, HV, rfl, rfl⟩
theorem sd_rel0 (k : Nat) (bd bs : Int32) {T : Nat → Int64} {V : Nat → Int32} (W : Nat → Int32) (HT : sx_T T) (HV : sy_V V) : i_Rel k (0, 0, -1, T) (0, bd, bs, V, W) :=
  ⟨fun _ => 0, 0, bd, bs, T, V, W, ⟨fun i hi => absurd hi (Nat.not_lt_zero i), fun i hi => absurd hi (Nat.not_lt_zero i), Nat.zero_le _, Nat.zero_le _⟩, HT, HV, rfl, rfl⟩
theorem i_up {k : Nat} {u : SX} {v : SY} (h : i_Rel k u v) : i_Rel (k + 4) u v := h
theorem sx_init31 (fn fd fb : Int32) (post : SX → Prop) (hp : ∀ T, sx_T T → post (fn, fd, fb, T)) : ∀ m i k (a : Nat → Int64), i + m = 19 → m < k → (∀ j, j < i → a j = lN (10 ^ j)) → wX_init_31 post fn fd fb k (lN (10 ^ i)) (nI i) a := by
  intro m
  induction m with
  | zero =>
    intro i k a hi hk ha
    obtain ⟨k, rfl⟩ : ∃ m, k = m + 1 := ⟨k - 1, by omega⟩
    have e : i = 19 := by omega
    subst e
    exact br_t (by decide) (hp a ha)
  | succ m ih =>
    intro i k a hi hk ha
    obtain ⟨k, rfl⟩ : ∃ m, k = m + 1 := ⟨k - 1, by omega⟩
    have e : lN (10 ^ i) * 10 = lN (10 ^ (i + 1)) := by
      rw [Nat.pow_succ]
      exact lN_mul _ 10
    refine br_f (nI_ge (b := 19) (by omega) (by decide)) ⟨vp_in_nI (by omega) (by decide), nm_e (nm_r e (nm_r (nI_1 i) (ih (i + 1) k _ (by omega) (by omega) ?_)))⟩
    intro j hj
    rw [nI_clamp (by omega)]
    by_cases z : j = i
    · rw [z, pk_uLs]
    · rw [pk_uLn z]
      exact ha j (by omega)
theorem sy_init23 (sz bd bs : Int32) (W : Nat → Int32) (post : SY → Prop) (hp : ∀ V, sy_V V → post (sz, bd, bs, V, W)) : ∀ m i k (a : Nat → Int32), i + m = 1025 → m < k → (∀ j, j < i → a j = nI (sd_v j)) → wY_init_23 post sz bd bs k (nI i) a W := by
  intro m
  induction m with
  | zero =>
    intro i k a hi hk ha
    obtain ⟨k, rfl⟩ : ∃ m, k = m + 1 := ⟨k - 1, by omega⟩
    have e : i = 1025 := by omega
    subst e
    exact br_t (by decide) (hp a ha)
  | succ m ih =>
    intro i k a hi hk ha
    obtain ⟨k, rfl⟩ : ∃ m, k = m + 1 := ⟨k - 1, by omega⟩
    have up : ∀ j, j < i + 1 → upd a i (nI (sd_v i)) j = nI (sd_v j) := by
      intro j hj
      by_cases z : j = i
      · rw [z, pk_us]
      · rw [pk_un z]
        exact ha j (by omega)
    have h := ih (i + 1) k _ (by omega) (by omega) up
    refine br_f (nI_ge (b := 1025) (by omega) (by decide)) ?_
    by_cases l : i < 64
    · refine br_f (nI_ge (b := 64) l (by decide)) ⟨vp_in_nI (by omega) (by decide), nm_r (e' := upd a i (nI (sd_v i))) ?_ (nm_r (nI_1 i) h)⟩
      rw [nI_clamp (by omega), sd_vs l]
    · refine br_t (nI_le (a := 64) (by omega) (by omega)) ⟨by decide, by decide, vp_in_nI (by omega) (by decide), nm_r (e' := upd a i (nI (sd_v i))) ?_ (nm_r (nI_1 i) h)⟩
      rw [nI_clamp (by omega), show nI i - nI i / 64 * 64 = nI (i % 64) from pk_rem (d := 64) (by omega) (by decide) (by decide), show nI i / 64 = nI (i / 64) from pk_div (d := 64) (by omega) (by decide) (by decide), sd_uv (by omega) l]
theorem i_vc0 : wpX_init (fun u => wpY_init (fun v => i_Rel 0 u v)) :=
  ⟨20, sx_init31 0 0 (-1) _ (fun _ HT => ⟨1026, sy_init23 0 0 0 (fun _ => 0) _ (fun _ HV => sd_rel0 0 0 0 _ HT HV) 1025 0 1026 _ (by decide) (by decide) (fun j hj => absurd hj (Nat.not_lt_zero j))⟩) 19 0 20 _ (by decide) (by decide) (fun j hj => absurd hj (Nat.not_lt_zero j))⟩
