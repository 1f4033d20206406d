/-! shares, on both sides -/
theorem cd_ok {M : Mm} {Q : Int64 → Mm → Prop} : ∀ (j a b s : Nat), b < 2 ^ j → a < 2 ^ 63 → j ≤ 63 → s + 2 * j ≤ 200 → Q (lN (Nat.gcd a b)) M → lX6_commonDivisor_9 Q (lN a) (lN b) (nI s) M := by
  intro j
  induction j with
  | zero =>
    intro a b s hb ha hj hs q
    have : b = 0 := by simp at hb; exact hb
    subst this
    rw [Nat.gcd_zero_right] at q
    exact lX6_commonDivisor_9_mk _ _ _ _ _ (br_c (fun _ => q) (fun _ => br_t rfl q))
  | succ j ih =>
    intro a b s hb ha hj hs q
    have h63 : (2 : Nat) ^ (j + 1) ≤ 2 ^ 63 := Nat.pow_le_pow_right (by decide) hj
    have hbb : b < 2 ^ 63 := by omega
    refine lX6_commonDivisor_9_mk _ _ _ _ _ (br_f (nI_ge (b := 200) (by omega) (by decide)) ?_)
    rcases Nat.eq_zero_or_pos b with z | z
    · subst z
      rw [Nat.gcd_zero_right] at q
      exact br_t rfl q
    · have hz : ¬ lN b = 0 := by
        rw [show (0 : Int64) = lN 0 from rfl, pk_lEQ hbb (by decide)]; omega
      refine br_f hz ⟨hz, ?_⟩
      rw [pk_lRem ha z hbb, nI_1]
      have hr : a % b < b := Nat.mod_lt a z
      rw [gcd_step a b] at q
      refine lX6_commonDivisor_9_mk _ _ _ _ _ (br_f (nI_ge (b := 200) (by omega) (by decide)) ?_)
      rcases Nat.eq_zero_or_pos (a % b) with y | y
      · rw [y] at q ⊢
        rw [Nat.gcd_zero_right] at q
        exact br_t rfl q
      · have hy : ¬ lN (a % b) = 0 := by
          rw [show (0 : Int64) = lN 0 from rfl, pk_lEQ (by omega) (by decide)]; omega
        refine br_f hy ⟨hy, ?_⟩
        rw [pk_lRem hbb y (by omega), nI_1]
        rw [gcd_step b (a % b)] at q
        have hm := mod_half y (Nat.le_of_lt hr)
        exact ih (a % b) (b % (a % b)) (s + 1 + 1) (by rw [Nat.pow_succ] at hb; omega) (by omega) (by omega) (by omega) q
theorem cm_ok {M : Mm} {Q : Int64 → Mm → Prop} : ∀ (k b a : Nat), b ≤ k → b < 2 ^ 63 → a < 2 ^ 63 → Q (lN (Nat.gcd a b)) M → lX7_common_28 Q (lN a) (lN b) M := by
  intro k
  induction k with
  | zero =>
    intro b a hk hb ha q
    have : b = 0 := by omega
    subst this
    rw [Nat.gcd_zero_right] at q
    exact lX7_common_28_mk _ _ _ _ (br_t rfl q)
  | succ k ih =>
    intro b a hk hb ha q
    rcases Nat.eq_zero_or_pos b with z | z
    · subst z
      rw [Nat.gcd_zero_right] at q
      exact lX7_common_28_mk _ _ _ _ (br_t rfl q)
    · have hz : ¬ lN b = 0 := by
        rw [show (0 : Int64) = lN 0 from rfl, pk_lEQ hb (by decide)]; omega
      refine lX7_common_28_mk _ _ _ _ (br_f hz ⟨hz, ?_⟩)
      have hr : a % b < b := Nat.mod_lt a z
      rw [pk_lRem ha z hb]
      rw [gcd_step a b] at q
      exact ih (a % b) b (by omega) (by omega) hb q
/-- what a share may be -/
def rgS (U L : Int) : Prop := -9223372036854775808 < U ∧ U < 9223372036854775808 ∧ 0 < L ∧ L < 9223372036854775808
theorem abs_N {U : Int} (h : -9223372036854775808 < U ∧ U < 9223372036854775808) : (if 0 < jZ U then jZ U else -jZ U) = lN U.natAbs := by
  have hr : rgL U := ⟨by omega, by omega⟩
  have e0 : (0 : Int64) = jZ 0 := rfl
  rw [e0, jZ_neg, jZ_N]
  by_cases g : 0 < U
  · rw [if_pos ((jZ_lt ⟨by decide, by decide⟩ hr).mpr g)]
    congr 1; omega
  · rw [if_neg (fun z => g ((jZ_lt ⟨by decide, by decide⟩ hr).mp z))]
    congr 1; omega
theorem jZ_nat {L : Int} (h : 0 ≤ L) : jZ L = lN L.toNat := by
  rw [jZ_N]; congr 1; omega
theorem gcd_nat {U L : Int} (h : 0 < L) : Nat.gcd U.natAbs L.toNat = Int.gcd U L := by
  have : L.toNat = L.natAbs := by omega
  rw [this]; rfl
theorem gcd_le {U L : Int} (h : 0 < L) : (Int.gcd U L : Int) ≤ L := Int.le_of_dvd h (Int.gcd_dvd_right U L)
theorem jZ_rd {U L : Int} (h : rgS U L) : jZ U / jZ (Int.gcd U L) = jZ (rdU U L) ∧ jZ L / jZ (Int.gcd U L) = jZ (rdL U L) ∧ ¬ jZ (Int.gcd U L) = 0 ∧ 1 ≤ jZ (Int.gcd U L) := by
  obtain ⟨h1, h2, h3, h4⟩ := h
  have g0 := gcd_pos (U := U) h3
  have g1 := gcd_le (U := U) h3
  have hg : rgL (Int.gcd U L : Int) := ⟨by omega, by omega⟩
  refine ⟨?_, ?_, ?_, ?_⟩
  · rw [jZ_div ⟨by omega, by omega⟩ g0 hg, Int.tdiv_eq_ediv_of_dvd (Int.gcd_dvd_left U L)]; rfl
  · rw [jZ_div ⟨by omega, by omega⟩ g0 hg, Int.tdiv_eq_ediv_of_dvd (Int.gcd_dvd_right U L)]; rfl
  · rw [show (0 : Int64) = jZ 0 from rfl, jZ_eq hg ⟨by decide, by decide⟩]; omega
  · rw [show (1 : Int64) = jZ 1 from rfl, jZ_le ⟨by decide, by decide⟩ hg]; omega
theorem shareC {M : Mm} {U L : Int} {w : Int32} {Q : Int64 → Mm → Prop} (h : rgS U L) (q : Q (if w = 0 then jZ (rdU U L) else jZ (rdL U L)) M) : wX6_share (jZ U) (jZ L) w Q M := by
  obtain ⟨e1, e2, e3, e4⟩ := jZ_rd h
  unfold wX6_share wX6_commonDivisor
  have e0 : (if 0 < jZ U then jZ U else -jZ U) = lN U.natAbs := abs_N ⟨h.1, h.2.1⟩
  rw [e0, show (0 : Int32) = nI 0 from rfl]
  have el : jZ L = lN L.toNat := jZ_nat (by have := h.2.2.1; omega)
  have := h.2.2.2
  have := h.2.2.1
  have := h.1
  have := h.2.1
  rw [show lX6_commonDivisor_9 _ (lN U.natAbs) (jZ L) (nI 0) M = lX6_commonDivisor_9 _ (lN U.natAbs) (lN L.toNat) (nI 0) M from by rw [← el]]
  refine cd_ok 63 U.natAbs L.toNat 0 (by omega) (by omega) (Nat.le_refl _) (by decide) ?_
  rw [gcd_nat h.2.2.1, jZ_N]
  refine br_t e4 (br_c (fun z => ⟨e3, ?_⟩) (fun z => ⟨e3, ?_⟩))
  · have z : w = 0 := z
    rw [if_pos z] at q; rw [e1]; exact q
  · have z : ¬ w = 0 := z
    rw [if_neg z] at q; rw [e2]; exact q
theorem shareM {M : Mm} {U L : Int} {Q : Mm → Prop} (h : rgS U L) (q : Q (sj (sj M 4 (jZ (rdU U L))) 5 (jZ (rdL U L)))) : wX7_share (jZ U) (jZ L) Q M := by
  obtain ⟨e1, e2, e3, e4⟩ := jZ_rd h
  unfold wX7_share wX7_common
  obtain ⟨h1, h2, h3, h4⟩ := id h
  have el : jZ L = lN L.toNat := jZ_nat (by omega)
  have fin : ∀ x, x = lN U.natAbs → lX7_common_28 (fun r_1 M_1 => (¬ r_1 = 0 ∧ (∀ M_3 : Mm, M_3 = (sj M_1 4 (jZ U / r_1)) → (¬ r_1 = 0 ∧ (∀ M_5 : Mm, M_5 = (sj M_3 5 (jZ L / r_1)) → (Q M_5)))))) x (jZ L) M := by
    rintro x rfl
    have hh := cm_ok (M := M) (Q := fun r_1 M_1 => (¬ r_1 = 0 ∧ (∀ M_3 : Mm, M_3 = (sj M_1 4 (jZ U / r_1)) → (¬ r_1 = 0 ∧ (∀ M_5 : Mm, M_5 = (sj M_3 5 (jZ L / r_1)) → (Q M_5)))))) L.toNat L.toNat U.natAbs (Nat.le_refl _) (by omega) (by omega) ?_
    · rw [← el] at hh; exact hh
    · rw [gcd_nat h3, jZ_N]
      refine ⟨e3, nm_e ⟨e3, nm_e ?_⟩⟩
      rw [e1, e2]; exact q
  have hL : (0 : Int64) ≤ jZ L := by
    rw [show (0 : Int64) = jZ 0 from rfl, jZ_le ⟨by decide, by decide⟩ ⟨by omega, by omega⟩]; omega
  refine br_c (fun g => br_t hL (fin _ ?_)) (fun g => br_t hL (fin _ ?_))
  · rw [show (0 : Int64) = jZ 0 from rfl, jZ_le ⟨by decide, by decide⟩ ⟨by omega, by omega⟩] at g
    rw [jZ_N]; congr 1; omega
  · rw [show (0 : Int64) = jZ 0 from rfl, jZ_le ⟨by decide, by decide⟩ ⟨by omega, by omega⟩] at g
    rw [jZ_neg, jZ_N]; congr 1; omega
theorem toldM {M : Mm} {U L : Int} {w : Int32} {Q : Int64 → Mm → Prop} (q : Q (if w = 0 then jZ (rdU U L) else jZ (rdL U L)) (sj (sj M 4 (jZ (rdU U L))) 5 (jZ (rdL U L)))) : wX7_told w Q (sj (sj M 4 (jZ (rdU U L))) 5 (jZ (rdL U L))) := by
  unfold wX7_told
  refine br_c (fun z => ?_) (fun z => ?_)
  · rw [if_pos z] at q; exact q
  · rw [if_neg z] at q; exact q
