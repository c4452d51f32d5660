/-! X: rounding, places, spare -/
def sd_wr (c p : Nat) : Nat := if 256 < sd_v c * 10 ^ p % 512 then sd_v c * 10 ^ p / 512 + 1 else if sd_v c * 10 ^ p % 512 = 256 then (if sd_v c * 10 ^ p / 512 % 2 = 1 then sd_v c * 10 ^ p / 512 + 1 else sd_v c * 10 ^ p / 512) else sd_v c * 10 ^ p / 512
def sd_pf (c : Nat) : Nat → Nat → Nat
  | 0, _ => 5
  | k + 1, p => if sd_wr c p ≤ 99999999 then (if sd_nm c (sd_wr c p) (12 - p) = true then p else sd_pf c k (p + 1)) else sd_pf c k (p + 1)
theorem sd_vp_le {c p : Nat} (hc : c < 1025) (hp : p < 6) : sd_v c * 10 ^ p ≤ 209715200000 :=
  Nat.le_trans (Nat.mul_le_mul (sd_v_le c hc) (Nat.pow_le_pow_right (n := 10) (by decide) (show p ≤ 5 by omega))) (by decide)
theorem sd_wr_le {c p : Nat} (hc : c < 1025) (hp : p < 6) : sd_wr c p ≤ 409600001 := by
  have h := sd_vp_le hc hp
  unfold sd_wr
  generalize sd_v c * 10 ^ p = A at h ⊢
  have h2 : A / 512 ≤ 409600000 := by omega
  generalize A / 512 = B at h2 ⊢
  repeat' split
  all_goals omega
theorem sx_round {T : Nat → Int64} (HT : sx_T T) (fn fd fb : Int32) (post : Int32 → Prop) {c p : Nat} (hc : c < 1025) (hpp : p < 6) (hp : post (nI (sd_wr c p))) : wpX_roundedTo post (fn, fd, fb, T) (nI c) (nI p) := by
  have hv := sd_v_le c hc
  have h := sd_vp_le hc hpp
  unfold sd_wr at hp
  unfold wpX_roundedTo
  dsimp only
  refine sx_unitsOf _ hc ⟨vp_in_nI (by omega) (by decide), nm_r (e' := lN (sd_v c * 10 ^ p)) ?_ ?_⟩
  · rw [nI_clamp (by omega), HT p (by omega), nI_l (by omega), lN_mul]
  generalize sd_v c * 10 ^ p = A at h hp ⊢
  have h2 : A / 512 ≤ 409600000 := by omega
  refine ⟨by decide, nm_r (e' := nI (A / 512)) ?_ ⟨by decide, nm_r (e' := nI (A % 512 * 2)) ?_ ?_⟩⟩
  · rw [show lN A / 512 = lN (A / 512) from pk_lDiv (b := 512) (by omega) (by decide) (by decide), lN_i]
  · rw [show lN A - lN A / 512 * 512 = lN (A % 512) from pk_lRem (b := 512) (by omega) (by decide) (by decide), lN_i]
    exact pk_mul _ 2
  · by_cases k : 256 < A % 512
    · rw [if_pos k] at hp
      refine br_t (nI_lt (a := 512) (by omega) (by omega)) (br_f (by decide) ?_)
      rw [nI_1]
      exact hp
    · rw [if_neg k] at hp
      refine br_f (nI_nlt (a := 512) (by omega) (by decide)) ?_
      by_cases l : A % 512 = 256
      · rw [if_pos l] at hp
        refine br_t (by rw [l]; decide) ⟨by decide, ?_⟩
        rw [show nI (A / 512) - nI (A / 512) / 2 * 2 = nI (A / 512 % 2) from pk_rem (d := 2) (by omega) (by decide) (by decide)]
        by_cases m : A / 512 % 2 = 1
        · rw [if_pos m] at hp
          refine br_t (by rw [m]; decide) (br_f (by decide) ?_)
          rw [nI_1]
          exact hp
        · rw [if_neg m] at hp
          exact br_f (fun y => m ((nI_eq (b := 1) (by omega) (by decide)).mp y)) (br_t rfl hp)
      · rw [if_neg l] at hp
        exact br_f (fun y => l (by have := (nI_eq (b := 512) (by omega) (by decide)).mp y; omega)) (br_t rfl hp)
theorem sx_places11 {T : Nat → Int64} (HT : sx_T T) (fn fd fb : Int32) (post : Int32 → Prop) {c : Nat} (hc : c < 1024) : ∀ k p n, p + k = 5 → k < n → post (nI (sd_pf c k p)) → wX_places_11 post (nI c) fn fd fb T n (nI p) := by
  intro k
  induction k with
  | zero =>
    intro p n hp hn h
    obtain ⟨n, rfl⟩ : ∃ m, n = m + 1 := ⟨n - 1, by omega⟩
    exact br_t (nI_le (a := 5) (by omega) (by omega)) h
  | succ k ih =>
    intro p n hp hn h
    obtain ⟨n, rfl⟩ : ∃ m, n = m + 1 := ⟨n - 1, by omega⟩
    have hw := sd_wr_le (show c < 1025 by omega) (show p < 6 by omega)
    have h' : post (nI (if sd_wr c p ≤ 99999999 then (if sd_nm c (sd_wr c p) (12 - p) = true then p else sd_pf c k (p + 1)) else sd_pf c k (p + 1))) := h
    have hi := ih (p + 1) n (by omega) (by omega)
    refine br_f (nI_ge (b := 5) (by omega) (by decide)) (sx_round HT fn fd fb _ (by omega) (by omega) ?_)
    rw [sd_q_mi p (by omega)]
    by_cases w : sd_wr c p ≤ 99999999
    · rw [if_pos w] at h'
      refine sx_isDec1 _ w (by omega) (br_f (by decide) (sx_nm HT fn fd fb _ hc (by omega) (by omega) ?_))
      by_cases r : sd_nm c (sd_wr c p) (12 - p) = true
      · rw [if_pos r] at h' ⊢
        exact br_f (by decide) h'
      · rw [if_neg r] at h' ⊢
        exact br_t rfl (nm_r (nI_1 p) (hi h'))
    · rw [if_neg w] at h'
      exact sx_isDec0 _ (Or.inr (Or.inl (nI_lt (a := 99999999) (by omega) (by omega)))) (br_t rfl (nm_r (nI_1 p) (hi h')))
theorem sx_spare20 {T : Nat → Int64} (HT : sx_T T) (fd fb : Int32) (post : Int32 → Prop) {d t : Nat} (hd : d ≤ 99999999) (ht : t < 19) : ∀ k n, k < n → k ≤ 8 → post (nI (sd_gr d t k)) → wX_spare_20 post (sd_q t) (nI (sd_rd d t)) (nI d) fd fb T n (nI k) := by
  intro k
  induction k with
  | zero =>
    intro n hn _ hp
    obtain ⟨n, rfl⟩ : ∃ m, n = m + 1 := ⟨n - 1, by omega⟩
    exact br_t (by decide) hp
  | succ k ih =>
    intro n hn hk hp
    obtain ⟨n, rfl⟩ : ∃ m, n = m + 1 := ⟨n - 1, by omega⟩
    have bP : 10 ^ (k + 1) < 2 ^ 63 := Nat.lt_of_le_of_lt (Nat.pow_le_pow_right (n := 10) (by decide) hk) (by decide)
    have pP : 0 < 10 ^ (k + 1) := Nat.pow_pos (by decide)
    have eT : T (nI (k + 1)).toNatClampNeg = lN (10 ^ (k + 1)) := by rw [nI_clamp (by omega), HT _ (by omega)]
    have hm := Nat.mod_le d (10 ^ (k + 1))
    have r1 := (sd_rd_spec (d - d % 10 ^ (k + 1)) t).1
    have r2 := (sd_rd_spec d t).1
    have hp' : post (nI (if sd_rd (d - d % 10 ^ (k + 1)) t = sd_rd d t then k + 1 else sd_gr d t k)) := hp
    refine br_f (nI_nle (by omega) (by omega)) ⟨vp_in_nI (by omega) (by decide), ?_, ?_⟩
    · rw [eT]
      intro z
      have := (pk_lEQ (b := 0) bP (by decide)).mp z
      omega
    · refine nm_r (e' := nI (d % 10 ^ (k + 1))) ?_ ?_
      · rw [eT, nI_l (by omega), pk_lRem (by omega) pP bP, lN_i]
      · rw [pk_sub hm]
        refine sx_cn HT (nI d) fd fb _ (by omega) ht ?_
        by_cases e : sd_rd (d - d % 10 ^ (k + 1)) t = sd_rd d t
        · rw [if_pos e] at hp'
          exact br_t (by rw [e]) hp'
        · rw [if_neg e] at hp'
          exact br_f (fun y => e ((nI_eq (by omega) (by omega)).mp y)) (nm_r (pk_m1 k) (ih n (by omega) (by omega) hp'))
