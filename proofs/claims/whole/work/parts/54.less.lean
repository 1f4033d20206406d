/-! till one less -/
def tlL (e : Nat → Int) : Nat → Int
  | 0 => 1
  | i + 1 => e (5 - i) * tlL e i
def tlU (u e : Nat → Int) : Nat → Int
  | 0 => 0
  | i + 1 => 144 * tlL e i + u (5 - i) * tlU u e i
theorem tl_rg {u e : Nat → Int} (hu : ∀ k, 0 ≤ u k ∧ u k ≤ 144) (he : ∀ k, 0 ≤ e k ∧ e k ≤ 144) (hp : ∀ k, 0 < k → 0 < e k) : ∀ i, i ≤ 5 → 0 < tlL e i ∧ tlL e i ≤ 144 ^ i ∧ 0 ≤ tlU u e i ∧ tlU u e i ≤ (i : Int) * 144 ^ i
  | 0, _ => by
    show (0 : Int) < 1 ∧ (1 : Int) ≤ 144 ^ 0 ∧ (0 : Int) ≤ 0 ∧ (0 : Int) ≤ ((0 : Nat) : Int) * 144 ^ 0
    decide
  | i + 1, h => by
    obtain ⟨h1, h2, h3, h4⟩ := tl_rg hu he hp i (by omega)
    have hu1 := hu (5 - i)
    have he1 := he (5 - i)
    have hp1 := hp (5 - i) (by omega)
    have hpow : (144 : Int) ^ (i + 1) = 144 ^ i * 144 := Int.pow_succ 144 i
    have hpp : (0 : Int) < 144 ^ i := by omega
    have a1 : e (5 - i) * tlL e i ≤ 144 * 144 ^ i := Int.mul_le_mul he1.2 h2 (Int.le_of_lt h1) (by decide)
    have a2 : 0 < e (5 - i) * tlL e i := Int.mul_pos hp1 h1
    have a3 : u (5 - i) * tlU u e i ≤ 144 * ((i : Int) * 144 ^ i) := Int.mul_le_mul hu1.2 h4 h3 (by decide)
    have a4 : 0 ≤ u (5 - i) * tlU u e i := Int.mul_nonneg hu1.1 h3
    have e1 : ((i + 1 : Nat) : Int) * (144 ^ i * 144) = 144 * ((i : Int) * 144 ^ i) + 144 * 144 ^ i := by
      rw [Int.natCast_add, Int.add_mul, ← Int.mul_assoc, Int.mul_comm _ 144, Int.mul_comm (144 ^ i) 144]; simp
    show 0 < e (5 - i) * tlL e i ∧ e (5 - i) * tlL e i ≤ 144 ^ (i + 1) ∧ 0 ≤ 144 * tlL e i + u (5 - i) * tlU u e i ∧ 144 * tlL e i + u (5 - i) * tlU u e i ≤ ((i + 1 : Nat) : Int) * 144 ^ (i + 1)
    rw [hpow, e1]
    refine ⟨a2, by omega, by omega, by omega⟩
theorem pow144 {i : Nat} (h : i ≤ 5) : (144 : Int) ^ i ≤ 61917364224 ∧ (i : Int) * 144 ^ i ≤ 309586821120 := by
  rcases (show i = 0 ∨ i = 1 ∨ i = 2 ∨ i = 3 ∨ i = 4 ∨ i = 5 by omega) with rfl | rfl | rfl | rfl | rfl | rfl <;> decide
theorem tl_S {d : PD} (hd : PDok d) (b : Nat → Nat) {i : Nat} (h : i ≤ 5) : 0 < tlL (dnI (pS d) 12 (joinN d b)) i ∧ tlL (dnI (pS d) 12 (joinN d b)) i ≤ 61917364224 ∧ 0 ≤ tlU (upI (pS d) (joinN d b)) (dnI (pS d) 12 (joinN d b)) i ∧ tlU (upI (pS d) (joinN d b)) (dnI (pS d) 12 (joinN d b)) i ≤ 309586821120 := by
  have hJ := Jok_d hd b
  obtain ⟨h1, h2, h3, h4⟩ := tl_rg (u := upI (pS d) (joinN d b)) (e := dnI (pS d) 12 (joinN d b)) (fun k => by have := upI_rg hJ k; omega) (fun k => by have := dnI_rg hJ k; omega) (fun k hk => (dnI_rg hJ k).2.2 hk) i h
  have := pow144 h
  exact ⟨h1, by omega, h3, by omega⟩
theorem rd_step {U L u e : Int} (hL : 0 < L) : rdU (144 * L + u * U) (e * L) = rdU (144 * rdL U L + u * rdU U L) (e * rdL U L) ∧ rdL (144 * L + u * U) (e * L) = rdL (144 * rdL U L + u * rdU U L) (e * rdL U L) := by
  obtain ⟨h1, h2, h3⟩ := rd_mul (U := U) hL
  have hg := gcd_pos (U := U) hL
  have e1 : 144 * L + u * U = Int.gcd U L * (144 * rdL U L + u * rdU U L) := by
    rw [Int.mul_add, Int.mul_left_comm, ← h2, Int.mul_left_comm, ← h1]
  have e2 : e * L = Int.gcd U L * (e * rdL U L) := by
    rw [Int.mul_left_comm, ← h2]
  rw [e1, e2]
  exact ⟨rdU_sc hg, rdL_sc hg⟩
theorem rd_le {U L : Int} (hL : 0 < L) (hU : 0 ≤ U) : 0 ≤ rdU U L ∧ rdU U L ≤ U ∧ 0 < rdL U L ∧ rdL U L ≤ L := by
  have hg := gcd_pos (U := U) hL
  obtain ⟨h1, h2, h3⟩ := rd_mul (U := U) hL
  exact ⟨Int.ediv_nonneg hU (by omega), Int.ediv_le_self _ hU, h3, Int.ediv_le_self _ (by omega)⟩
theorem lessC {M : Mm} {d : PD} {b : Nat → Nat} {j : Nat} {w : Int32} {Q : Int64 → Mm → Prop} (hd : PDok d) (hr : RJn 0 (pS d) 12 (joinN d b) M) (hj : 1 ≤ j ∧ j ≤ 5) (q : Q (if w = 0 then jZ (rdU (tlU (upI (pS d) (joinN d b)) (dnI (pS d) 12 (joinN d b)) (6 - j)) (tlL (dnI (pS d) 12 (joinN d b)) (6 - j))) else jZ (rdL (tlU (upI (pS d) (joinN d b)) (dnI (pS d) 12 (joinN d b)) (6 - j)) (tlL (dnI (pS d) 12 (joinN d b)) (6 - j)))) M) : wX1_tillLess 0 (nI j) w Q M := by
  unfold wX1_tillLess
  have hJ := Jok_d hd b
  refine up_loop (fun i (_ : Unit) => lX1_tillLess_8 0 (nI j) w Q (jZ (tlU (upI (pS d) (joinN d b)) (dnI (pS d) 12 (joinN d b)) i)) (jZ (tlL (dnI (pS d) 12 (joinN d b)) i)) (nI (5 - i)) M) (fun _ _ => True) (6 - j) ?_ ?_ 0 () (Nat.zero_le _) trivial
  · rintro _ -
    have hb := tl_S hd b (i := 6 - j) (by omega)
    exact lX1_tillLess_8_mk _ _ _ _ _ _ _ _ (br_t (nI_lt (by omega) (by omega)) (shareC ⟨by omega, by omega, by omega, by omega⟩ q))
  · rintro i _ hi - ih
    have ih := ih () trivial
    refine lX1_tillLess_8_mk _ _ _ _ _ _ _ _ (br_f (nI_nlt (by omega) (by omega)) (growsC (by decide) hJ hr (by omega) (shrinksC (by decide) hJ hr (by omega) ?_)))
    have e12 : ((12 : Int32) * gi M (19 + 2 * 0)).toInt64 = jZ 144 := by rw [hr.2.1]; decide
    rw [e12, jZ_mul, jZ_mul, jZ_mul, jZ_add, show 5 - i = (4 - i) + 1 by omega, pk_m1]
    rw [show 5 - (i + 1) = 4 - i by omega] at ih
    have e1 : tlU (upI (pS d) (joinN d b)) (dnI (pS d) 12 (joinN d b)) (i + 1) = 144 * tlL (dnI (pS d) 12 (joinN d b)) i + upI (pS d) (joinN d b) (4 - i + 1) * tlU (upI (pS d) (joinN d b)) (dnI (pS d) 12 (joinN d b)) i := by
      rw [show 4 - i + 1 = 5 - i by omega]; rfl
    have e2 : tlL (dnI (pS d) 12 (joinN d b)) (i + 1) = dnI (pS d) 12 (joinN d b) (4 - i + 1) * tlL (dnI (pS d) 12 (joinN d b)) i := by
      rw [show 4 - i + 1 = 5 - i by omega]; rfl
    rw [e1, e2] at ih
    exact ih
theorem ok_less {M : Mm} (a w : Int32) (h : Rel M) : okJ (wX6_less a w) (wX7_less a w) M := by
  unfold okJ wX6_less wX7_less
  refine isWithin_br 1 5 rfl rfl (fun c => within_n 1 5 rfl rfl c ⟨rfl, h⟩) (fun c => ?_)
  refine isWithin_br 0 1 rfl rfl (fun e => within_t 1 5 rfl rfl c (isWhich_n e (br_t rfl ⟨rfl, h⟩))) (fun e => ?_)
  obtain ⟨hO, hS, n, k, hn, h14, h31, hQ, hP⟩ := id h
  rcases told_cases hP with ⟨h0, h1, h2⟩ | ⟨h1, h2, d, hd, hdn, hp, ⟨b, hba⟩, hb, hg⟩
  · exact br_t h1 (within_t 1 5 rfl rfl c (isWhich_t e (br_f one_ne (br_t h2 ⟨rfl, h⟩))))
  refine br_f (by rw [h1]; decide) ?_
  obtain ⟨j, hj, rfl⟩ := inI_nI (v := a) (hi := 5) (n := 5) ⟨by have := c.1; omega, c.2⟩ rfl
  have hj1 : 1 ≤ j := by have := c.1; rw [nI_toInt (by omega)] at this; omega
  refine runs (W7 := fun _ _ => True) hd hdn hp h14 hba (fun M' ww hf _ _ hl ht hw hrc => ?_)
  have hl5 := LK_5 hd b
  have hcl : (nI j).toNatClampNeg = j := nI_clamp (by omega)
  obtain ⟨⟨D, hD, hDw⟩, hwb, -⟩ := id hl
  have z0 : rgL 0 := ⟨by decide, by decide⟩
  have zw : jZ (ww j) = (0 : Int64) ↔ ww j = 0 := by
    have := hwb j
    rw [show (0 : Int64) = jZ 0 from rfl, jZ_eq ⟨by omega, by omega⟩ z0]
  have zW : jZ (runW d b 5 j) = (0 : Int64) ↔ ww j = 0 := by
    have := hl5.2.1 j
    rw [show (0 : Int64) = jZ 0 from rfl, jZ_eq ⟨by omega, by omega⟩ z0, hDw j, Int.mul_eq_zero]
    omega
  -- the reference's side, up to the weight
  have side : ∀ {r : Int64}, (∀ M2, FR M2 M → RMn2 d b M2 → (jZ (runW d b 5 j) = (0 : Int64) → r = (-9223372036854775808 : Int64) ∧ Rel M2) ∧ (¬ jZ (runW d b 5 j) = (0 : Int64) → wX7_share (0 : Int64) (1 : Int64) (fun M_9 => (lX7_less_58 (nI j) w (fun r2 M2 => r = r2 ∧ Rel M2) (5 : Int32) M_9)) M2)) → wX7_less (nI j) w (fun r2 M2 => r = r2 ∧ Rel M2) M' := fun {r} hh => by
    unfold wX7_less
    refine within_t 1 5 rfl rfl c (isWhich_t e (br_f one_ne (br_f (by rw [hf.1 28 (by decide), h2]; decide) ?_)))
    refine runs7 hf hd hdn hp h31 hba (fun M2 hf2 _ hW hW2 => ⟨vp_in_nI (by omega) (by decide), ?_⟩)
    rw [hcl, hW j (by omega)]
    exact hh M2 hf2 hW2
  refine atJ_in (n := 6) rfl (by decide) (by omega) ?_
  rw [hw j (by omega)]
  refine br_c (fun z => side (fun M2 hf2 _ => br_t (zW.mpr (zw.mp z)) ⟨rfl, Rel_fr hf2 h⟩)) (fun z => ?_)
  refine lessC hd hrc.2.1 ⟨hj1, hj⟩ (side (fun M2 hf2 hW2 => br_f (fun y => z (zw.mpr (zW.mp y))) ?_))
  have r01 : rgS 0 1 := ⟨by decide, by decide, by decide, by decide⟩
  rw [show (0 : Int64) = jZ 0 from rfl, show (1 : Int64) = jZ 1 from rfl]
  refine shareM r01 ?_
  refine up_loop (fun i m => lX7_less_58 (nI j) w _ (nI (5 - i)) m) (fun i m => ∃ m0, FR m0 M ∧ RMn2 d b m0 ∧ m = sj (sj m0 4 (jZ (rdU (tlU (upI (pS d) (joinN d b)) (dnI (pS d) 12 (joinN d b)) i) (tlL (dnI (pS d) 12 (joinN d b)) i)))) 5 (jZ (rdL (tlU (upI (pS d) (joinN d b)) (dnI (pS d) 12 (joinN d b)) i) (tlL (dnI (pS d) 12 (joinN d b)) i)))) (6 - j) ?_ ?_ 0 _ (Nat.zero_le _) ⟨M2, hf2, hW2, rfl⟩
  · rintro m ⟨m0, g1, g2, rfl⟩
    exact lX7_less_58_mk _ _ _ _ _ (br_t (nI_lt (by omega) (by omega)) (toldM ⟨rfl, Rel_fr (fr_sj 5 _ (fr_sj 4 _ g1)) h⟩))
  · rintro i m hi ⟨m0, g1, g2, rfl⟩ ih
    have hc5 : (nI (5 - i)).toNatClampNeg = 5 - i := nI_clamp (by omega)
    have hv5 : vp_in (nI (5 - i)) 8 := vp_in_nI (by omega) (by decide)
    have hb5 := tl_S hd b (i := i) (by omega)
    have hb6 := tl_S hd b (i := i + 1) (by omega)
    have hle := rd_le (U := tlU (upI (pS d) (joinN d b)) (dnI (pS d) 12 (joinN d b)) i) hb5.1 hb5.2.2.1
    have hg5 := g2 (5 - i) (by omega)
    have hJ := Jok_d hd b
    have hu := upI_rg hJ (5 - i)
    have he := dnI_rg hJ (5 - i)
    refine lX7_less_58_mk _ _ _ _ _ (br_f (nI_nlt (by omega) (by omega)) ⟨hv5, hv5, ?_⟩)
    have e42 : gb (sj (sj m0 4 (jZ (rdU (tlU (upI (pS d) (joinN d b)) (dnI (pS d) 12 (joinN d b)) i) (tlL (dnI (pS d) 12 (joinN d b)) i)))) 5 (jZ (rdL (tlU (upI (pS d) (joinN d b)) (dnI (pS d) 12 (joinN d b)) i) (tlL (dnI (pS d) 12 (joinN d b)) i)))) 42 (5 - i) = jZ (upI (pS d) (joinN d b) (5 - i)) := hg5.1
    have e43 : gb (sj (sj m0 4 (jZ (rdU (tlU (upI (pS d) (joinN d b)) (dnI (pS d) 12 (joinN d b)) i) (tlL (dnI (pS d) 12 (joinN d b)) i)))) 5 (jZ (rdL (tlU (upI (pS d) (joinN d b)) (dnI (pS d) 12 (joinN d b)) i) (tlL (dnI (pS d) 12 (joinN d b)) i)))) 43 (5 - i) = jZ (dnI (pS d) 12 (joinN d b) (5 - i)) := hg5.2
    rw [hc5, e42, e43, gj_sj, if_pos rfl, gj_sj, if_neg (by decide), gj_sj, if_pos rfl, show (144 : Int64) = jZ 144 from rfl, jZ_mul, jZ_mul, jZ_mul, jZ_add]
    have hst := rd_step (U := tlU (upI (pS d) (joinN d b)) (dnI (pS d) 12 (joinN d b)) i) (u := upI (pS d) (joinN d b) (5 - i)) (e := dnI (pS d) 12 (joinN d b) (5 - i)) hb5.1
    have a1 : dnI (pS d) 12 (joinN d b) (5 - i) * rdL (tlU (upI (pS d) (joinN d b)) (dnI (pS d) 12 (joinN d b)) i) (tlL (dnI (pS d) 12 (joinN d b)) i) ≤ 144 * 61917364224 := Int.mul_le_mul (by omega) (by omega) (by omega) (by decide)
    have a2 : 0 < dnI (pS d) 12 (joinN d b) (5 - i) * rdL (tlU (upI (pS d) (joinN d b)) (dnI (pS d) 12 (joinN d b)) i) (tlL (dnI (pS d) 12 (joinN d b)) i) := Int.mul_pos (he.2.2 (by omega)) hle.2.2.1
    have a3 : upI (pS d) (joinN d b) (5 - i) * rdU (tlU (upI (pS d) (joinN d b)) (dnI (pS d) 12 (joinN d b)) i) (tlL (dnI (pS d) 12 (joinN d b)) i) ≤ 144 * 309586821120 := Int.mul_le_mul (by omega) (by omega) (by omega) (by decide)
    have a4 : 0 ≤ upI (pS d) (joinN d b) (5 - i) * rdU (tlU (upI (pS d) (joinN d b)) (dnI (pS d) 12 (joinN d b)) i) (tlL (dnI (pS d) 12 (joinN d b)) i) := Int.mul_nonneg hu.1 hle.1
    refine shareM ⟨by omega, by omega, by omega, by omega⟩ ?_
    rw [← hst.1, ← hst.2]
    have en : nI (5 - i) + (-1) = nI (5 - (i + 1)) := by
      rw [show 5 - i = (4 - i) + 1 by omega, pk_m1, show 5 - (i + 1) = 4 - i by omega]
    rw [en]
    exact ih _ ⟨_, fr_sj 5 _ (fr_sj 4 _ g1), g2, rfl⟩
