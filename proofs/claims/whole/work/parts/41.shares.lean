/-! sums, shares, comparisons -/
theorem sumI_congr {f g : Nat → Int} : ∀ n, (∀ j, j < n → f j = g j) → sumI f n = sumI g n
  | 0, _ => rfl
  | n + 1, h => by
    show sumI f n + f n = sumI g n + g n
    rw [sumI_congr n (fun j hj => h j (by omega)), h n (by omega)]
theorem sumI_mul (D : Int) (f : Nat → Int) : ∀ n, sumI (fun i => D * f i) n = D * sumI f n
  | 0 => by show (0 : Int) = D * 0; rw [Int.mul_zero]
  | n + 1 => by
    show sumI (fun i => D * f i) n + D * f n = D * (sumI f n + f n)
    rw [sumI_mul D f n, Int.mul_add]
theorem totI_sc {D : Int} {W w : Nat → Int} (h : ∀ i, W i = D * w i) : totI W = D * totI w := by
  unfold totI
  rw [← sumI_mul]
  exact sumI_congr 6 (fun j _ => h j)
theorem meanI_sc {D : Int} {W w : Nat → Int} (h : ∀ i, W i = D * w i) : meanI W = D * meanI w := by
  unfold meanI
  rw [← sumI_mul]
  refine sumI_congr 6 (fun j _ => ?_)
  show (j : Int) * W j = D * ((j : Int) * w j)
  rw [h j, Int.mul_left_comm]
theorem foundI_sc {D : Int} {S : Nat} {W w : Nat → Int} (h : ∀ i, W i = D * w i) (i : Nat) : foundI S W i = D * foundI S w i := by
  unfold foundI
  rw [h i, h (i + 1), Int.mul_add, Int.mul_left_comm, Int.mul_left_comm (S : Int)]
theorem found_all {S : Nat} {w : Nat → Int} (h : w 6 = 0) : sumI (foundI S w) 6 = 12 * totI w := by
  show 0 + foundI S w 0 + foundI S w 1 + foundI S w 2 + foundI S w 3 + foundI S w 4 + foundI S w 5 = 12 * (0 + w 0 + w 1 + w 2 + w 3 + w 4 + w 5)
  unfold foundI
  rw [h]
  simp only [Int.sub_mul, if_true, if_neg (show ¬ (1 : Nat) = 0 by decide), if_neg (show ¬ (2 : Nat) = 0 by decide), if_neg (show ¬ (3 : Nat) = 0 by decide), if_neg (show ¬ (4 : Nat) = 0 by decide), if_neg (show ¬ (5 : Nat) = 0 by decide)]
  generalize (S : Int) * w 1 = a1
  generalize (S : Int) * w 2 = a2
  generalize (S : Int) * w 3 = a3
  generalize (S : Int) * w 4 = a4
  generalize (S : Int) * w 5 = a5
  omega
/-! shares -/
def rdU (U L : Int) : Int := U / (Int.gcd U L : Int)
def rdL (U L : Int) : Int := L / (Int.gcd U L : Int)
theorem gcd_pos {U L : Int} (h : 0 < L) : 0 < (Int.gcd U L : Int) := by
  have := Int.gcd_pos_of_ne_zero_right U (b := L) (by omega)
  omega
theorem rdU_sc {D U L : Int} (hD : 0 < D) : rdU (D * U) (D * L) = rdU U L := by
  unfold rdU
  rw [Int.gcd_mul_left, Int.natCast_mul, Int.natAbs_of_nonneg (by omega), Int.mul_ediv_mul_of_pos _ _ hD]
theorem rdL_sc {D U L : Int} (hD : 0 < D) : rdL (D * U) (D * L) = rdL U L := by
  unfold rdL
  rw [Int.gcd_mul_left, Int.natCast_mul, Int.natAbs_of_nonneg (by omega), Int.mul_ediv_mul_of_pos _ _ hD]
theorem rd_mul {U L : Int} (h : 0 < L) : U = Int.gcd U L * rdU U L ∧ L = Int.gcd U L * rdL U L ∧ 0 < rdL U L := by
  have h1 := Int.mul_ediv_cancel' (Int.gcd_dvd_left U L)
  have h2 := Int.mul_ediv_cancel' (Int.gcd_dvd_right U L)
  refine ⟨h1.symm, h2.symm, ?_⟩
  unfold rdL
  exact Int.ediv_pos_of_pos_of_dvd h (by omega) (Int.gcd_dvd_right U L)
/-! which of two shares is greater -/
def sgI (z : Int) : Int32 := if 0 < z then 1 else if z < 0 then -1 else 0
theorem sg_p {z : Int} (h : 0 < z) : sgI z = 1 := if_pos h
theorem sg_m {z : Int} (h : z < 0) : sgI z = -1 := (if_neg (by omega)).trans (if_pos h)
theorem sg_0 {z : Int} (h : z = 0) : sgI z = 0 := (if_neg (by omega)).trans (if_neg (by omega))
theorem sg_sc {D z : Int} (hD : 0 < D) : sgI (D * z) = sgI z := by
  rcases Int.lt_trichotomy z 0 with h | h | h
  · rw [sg_m h, sg_m (Int.mul_neg_of_pos_of_neg hD h)]
  · rw [h, Int.mul_zero]
  · rw [sg_p h, sg_p (Int.mul_pos hD h)]
/-- both whole parts are the same -/
theorem cross_eq {a b c d q : Int} : a * d - c * b = (a - q * b) * d - (c - q * d) * b := by
  rw [Int.sub_mul, Int.sub_mul, Int.mul_assoc q b d, Int.mul_assoc q d b, Int.mul_comm d b]
  omega
/-- they differ -/
theorem cross_lt {a b c d : Int} (hb : 0 < b) (hd : 0 < d) (h : a / b < c / d) : a * d - c * b < 0 := by
  have h1 := Int.emod_add_mul_ediv a b
  have h2 := Int.emod_lt_of_pos a hb
  have h3 := Int.emod_add_mul_ediv c d
  have h4 := Int.emod_nonneg c (b := d) (by omega)
  have h5 : a < b * (a / b + 1) := by rw [Int.mul_add]; omega
  have h6 : b * (a / b + 1) ≤ b * (c / d) := Int.mul_le_mul_of_nonneg_left (by omega) (by omega)
  have h7 : a * d < b * (c / d) * d := Int.mul_lt_mul_of_pos_right (by omega) hd
  have h8 : d * (c / d) * b ≤ c * b := Int.mul_le_mul_of_nonneg_right (by omega) (by omega)
  have h9 : b * (c / d) * d = d * (c / d) * b := by rw [Int.mul_comm b, Int.mul_comm d, Int.mul_assoc, Int.mul_assoc, Int.mul_comm b d]
  omega
theorem cross_gt {a b c d : Int} (hb : 0 < b) (hd : 0 < d) (h : c / d < a / b) : 0 < a * d - c * b := by
  have := cross_lt hd hb h
  omega
theorem lt0_msb (x : Int64) : x < 0 ↔ x.toBitVec.msb = true := by
  rw [Int64.lt_iff_toInt_lt, BitVec.msb_eq_toInt]
  simp
theorem xor_pos {x y : Int64} (hy : 0 < y) : 0 ≤ (x ^^^ y) ↔ 0 ≤ x := by
  have h1 := lt0_msb (x ^^^ y)
  have h2 := lt0_msb x
  have h3 := lt0_msb y
  have hy' : ¬ y < 0 := by rw [Int64.lt_iff_toInt_lt] at *; omega
  rw [Int64.toBitVec_xor, BitVec.msb_xor] at h1
  have e3 : y.toBitVec.msb = false := by
    cases h : y.toBitVec.msb
    · rfl
    · exact absurd (h3.mpr h) hy'
  rw [e3, Bool.xor_false] at h1
  have hh : (x ^^^ y) < 0 ↔ x < 0 := h1.trans h2.symm
  rw [Int64.lt_iff_toInt_lt, Int64.lt_iff_toInt_lt] at hh
  rw [Int64.le_iff_toInt_le, Int64.le_iff_toInt_le]
  omega
/-- the whole part below, from the quotient toward nothing -/
theorem tdiv_fl_p {a b : Int} (h : 0 ≤ a) : a.tdiv b = a / b := Int.tdiv_eq_ediv_of_nonneg h
theorem tdiv_fl_e {a b : Int} (hb : 0 < b) (h : a.tdiv b * b = a) : a.tdiv b = a / b := by
  have : b ∣ a := ⟨a.tdiv b, by rw [Int.mul_comm]; exact h.symm⟩
  exact Int.tdiv_eq_ediv_of_dvd this
theorem tdiv_fl_n {a b : Int} (hb : 0 < b) (ha : a < 0) (h : ¬ a.tdiv b * b = a) : a.tdiv b - 1 = a / b := by
  have h1 : ¬ b ∣ a := fun ⟨k, hk⟩ => h (by rw [hk, Int.mul_tdiv_cancel_left _ (by omega), Int.mul_comm])
  have h2 := Int.tdiv_eq_ediv (a := a) (b := b)
  rw [if_neg (by intro z; rcases z with z | z; · omega
                 · exact h1 z), Int.sign_eq_one_of_pos hb] at h2
  omega
