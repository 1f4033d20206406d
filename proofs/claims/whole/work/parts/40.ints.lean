/-! longs as integers; weights -/
def jZ (z : Int) : Int64 := Int64.ofInt z
theorem jZ_add (a b : Int) : jZ a + jZ b = jZ (a + b) := (Int64.ofInt_add a b).symm
theorem jZ_mul (a b : Int) : jZ a * jZ b = jZ (a * b) := (Int64.ofInt_mul a b).symm
theorem jZ_sub (a b : Int) : jZ a - jZ b = jZ (a - b) := (Int64.ofInt_sub a b).symm
theorem jZ_neg (a : Int) : -jZ a = jZ (-a) := (Int64.ofInt_neg a).symm
def rgL (z : Int) : Prop := -9223372036854775808 ≤ z ∧ z < 9223372036854775808
theorem jZ_toInt {z : Int} (h : rgL z) : (jZ z).toInt = z := Int64.toInt_ofInt_of_le h.1 h.2
theorem jZ_eq {a b : Int} (ha : rgL a) (hb : rgL b) : jZ a = jZ b ↔ a = b := by
  rw [← Int64.toInt_inj, jZ_toInt ha, jZ_toInt hb]
theorem jZ_le {a b : Int} (ha : rgL a) (hb : rgL b) : jZ a ≤ jZ b ↔ a ≤ b := by
  rw [Int64.le_iff_toInt_le, jZ_toInt ha, jZ_toInt hb]
theorem jZ_lt {a b : Int} (ha : rgL a) (hb : rgL b) : jZ a < jZ b ↔ a < b := by
  rw [Int64.lt_iff_toInt_lt, jZ_toInt ha, jZ_toInt hb]
theorem jZ_N (n : Nat) : lN n = jZ n := rfl
theorem tdiv_rg {a b : Int} (ha : rgL a) (hb : 0 < b) : rgL (a.tdiv b) := by
  unfold rgL at *
  have h : (a.tdiv b).natAbs = a.natAbs / b.natAbs := Int.natAbs_tdiv a b
  have h2 : a.natAbs / b.natAbs ≤ a.natAbs := Nat.div_le_self _ _
  by_cases e : b = 1
  · subst e; rw [Int.tdiv_one]; exact ha
  · by_cases z : a.natAbs = 0
    · have : a = 0 := by omega
      subst this; rw [Int.zero_tdiv]; decide
    · have h3 : a.natAbs / b.natAbs < a.natAbs := Nat.div_lt_self (by omega) (by omega)
      omega
theorem jZ_div {a b : Int} (ha : rgL a) (h0 : 0 < b) (hb : rgL b) : jZ a / jZ b = jZ (a.tdiv b) := by
  apply Int64.toInt_inj.mp
  rw [Int64.toInt_div, jZ_toInt ha, jZ_toInt hb, jZ_toInt (tdiv_rg ha h0)]
  have := tdiv_rg ha h0
  unfold rgL at this
  exact Int.bmod_eq_of_le (by show -(2^64/2 : Int) ≤ _; omega) (by show _ < ((2^64+1)/2 : Int); omega)
/-- the whole part below -/
theorem fl_of {a b q r : Int} (hb : 0 < b) (h : a = q * b + r) (h0 : 0 ≤ r) (h1 : r < b) : a / b = q := by
  rw [h, Int.add_comm, Int.add_mul_ediv_right _ _ (by omega), Int.ediv_eq_zero_of_lt h0 h1]; omega
theorem gcd_step (a b : Nat) : Nat.gcd a b = Nat.gcd b (a % b) := by
  rw [Nat.gcd_comm a b]; exact (Nat.gcd_rec b a).trans (Nat.gcd_comm _ _)
theorem mod_half {b r : Nat} (h0 : 0 < r) (h : r ≤ b) : 2 * (b % r) < b := by
  have h1 := Nat.div_add_mod b r
  have h2 := Nat.mod_lt b h0
  have h3 : 1 ≤ b / r := (Nat.one_le_div_iff h0).mpr h
  have h4 : r * 1 ≤ r * (b / r) := Nat.mul_le_mul_left r h3
  omega
/-! weights -/
def pwI (u e : Nat → Int) (i : Nat) : Nat → Int
  | 0 => 1
  | k + 1 => pwI u e i k * (if k < i then u k else e (k + 1))
theorem wtI_top (u e : Nat → Int) (m : Nat) : wtI u e (m + 1) (m + 1) = wtI u e m m * u m := if_pos rfl
theorem wtI_le {u e : Nat → Int} {m i : Nat} (h : i ≤ m) : wtI u e (m + 1) i = wtI u e m i * e (m + 1) := (if_neg (by omega)).trans (if_pos h)
theorem wtI_out {u e : Nat → Int} : ∀ {m i : Nat}, m < i → wtI u e m i = 0
  | 0, i, h => if_neg (by omega)
  | m + 1, i, h => (if_neg (by omega)).trans (if_neg (by omega))
theorem pw_same {u e : Nat → Int} {i j : Nat} : ∀ {k : Nat}, k ≤ i → k ≤ j → pwI u e i k = pwI u e j k
  | 0, _, _ => rfl
  | k + 1, h1, h2 => by
    show pwI u e i k * (if k < i then u k else e (k + 1)) = pwI u e j k * (if k < j then u k else e (k + 1))
    rw [if_pos (by omega), if_pos (by omega), pw_same (j := j) (by omega) (by omega)]
theorem wt_pw (u e : Nat → Int) : ∀ (m i : Nat), i ≤ m → wtI u e m i = pwI u e i m
  | 0, i, h => by
    have : i = 0 := by omega
    subst this; rfl
  | m + 1, i, h => by
    show _ = pwI u e i m * (if m < i then u m else e (m + 1))
    by_cases g : i ≤ m
    · rw [wtI_le g, if_neg (by omega), wt_pw u e m i g]
    · have : i = m + 1 := by omega
      subst this
      rw [wtI_top, if_pos (by omega), wt_pw u e m m (Nat.le_refl _), pw_same (j := m + 1) (Nat.le_refl m) (by omega)]
/-- the lengths above one that none joins -/
def upE (e : Nat → Int) (m : Nat) : Nat → Int
  | 0 => 1
  | k + 1 => upE e m k * e (m + k + 1)
theorem wt_stop {u e : Nat → Int} {m : Nat} (h : u m = 0) : ∀ (k i : Nat), wtI u e (m + k) i = upE e m k * wtI u e m i
  | 0, i => by show wtI u e m i = 1 * _; rw [Int.one_mul]
  | k + 1, i => by
    show wtI u e (m + k + 1) i = upE e m k * e (m + k + 1) * _
    by_cases g : i ≤ m + k
    · rw [wtI_le g, wt_stop h k i, Int.mul_assoc, Int.mul_assoc, Int.mul_comm (wtI u e m i)]
    · rw [wtI_out (m := m) (by omega), Int.mul_zero]
      by_cases z : i = m + k + 1
      · subst z
        rw [wtI_top]
        cases k with
        | zero => rw [show m + 0 = m from rfl, h, Int.mul_zero]
        | succ k => rw [wt_stop h (k + 1) (m + (k + 1)), wtI_out (m := m) (by omega), Int.mul_zero, Int.zero_mul]
      · exact wtI_out (by omega)
theorem upE_pos {e : Nat → Int} {m : Nat} (h : ∀ k, 0 < k → 0 < e k) : ∀ k, 0 < upE e m k
  | 0 => by show (0 : Int) < 1; decide
  | k + 1 => Int.mul_pos (upE_pos h k) (h _ (by omega))
theorem wtI_nn {u e : Nat → Int} (hu : ∀ k, 0 ≤ u k) (he : ∀ k, 0 ≤ e k) : ∀ m i, 0 ≤ wtI u e m i
  | 0, i => by show 0 ≤ (if i = 0 then (1 : Int) else 0); split <;> decide
  | m + 1, i => by
    show 0 ≤ (if i = m + 1 then wtI u e m m * u m else if i ≤ m then wtI u e m i * e (m + 1) else 0)
    split
    · exact Int.mul_nonneg (wtI_nn hu he m m) (hu m)
    · split
      · exact Int.mul_nonneg (wtI_nn hu he m i) (he _)
      · decide
theorem wtI_bd {u e : Nat → Int} {B : Int} (hB : 0 ≤ B) (hu0 : ∀ k, 0 ≤ u k) (he0 : ∀ k, 0 ≤ e k) (hu : ∀ k, u k ≤ B) (he : ∀ k, e k ≤ B) : ∀ m i, wtI u e m i ≤ B ^ m
  | 0, i => by
    rw [Int.pow_zero]
    show (if i = 0 then (1 : Int) else 0) ≤ 1
    split <;> decide
  | m + 1, i => by
    rw [Int.pow_succ]
    show (if i = m + 1 then wtI u e m m * u m else if i ≤ m then wtI u e m i * e (m + 1) else 0) ≤ B ^ m * B
    have hp : 0 ≤ B ^ m := Int.pow_nonneg hB
    split
    · exact Int.mul_le_mul (wtI_bd hB hu0 he0 hu he m m) (hu m) (hu0 m) hp
    · split
      · exact Int.mul_le_mul (wtI_bd hB hu0 he0 hu he m i) (he _) (he0 _) hp
      · exact Int.mul_nonneg hp hB
theorem wtI_0 {u e : Nat → Int} (he : ∀ k, 0 < k → 0 < e k) : ∀ m, 0 < wtI u e m 0
  | 0 => by show 0 < (if 0 = 0 then (1 : Int) else 0); decide
  | m + 1 => by rw [wtI_le (Nat.zero_le m)]; exact Int.mul_pos (wtI_0 he m) (he _ (by omega))
