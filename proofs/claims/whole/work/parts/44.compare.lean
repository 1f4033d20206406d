/-! which of two shares is greater: both answer the sign of a d - c b -/
theorem rg_fl {a b : Int} (ha : rgL a) (hb : 0 < b) : rgL (a / b) := by
  unfold rgL at *
  have h1 : a / b ≤ a ∨ a / b ≤ 0 := by
    by_cases g : 0 ≤ a
    · exact Or.inl (Int.ediv_le_self b g)
    · exact Or.inr (by have := Int.ediv_neg_of_neg_of_pos (a := a) (b := b) (by omega) hb; omega)
  have h2 : a ≤ a / b ∨ 0 ≤ a / b := by
    by_cases g : 0 ≤ a
    · exact Or.inr (Int.ediv_nonneg g (by omega))
    · refine Or.inl ?_
      have h3 := Int.emod_add_mul_ediv a b
      have h4 := Int.emod_nonneg a (b := b) (by omega)
      have h5 := Int.ediv_neg_of_neg_of_pos (a := a) (b := b) (by omega) hb
      have h6 : b * (a / b) ≤ 1 * (a / b) := Int.mul_le_mul_of_nonpos_right (by omega) (by omega)
      have h7 := Int.emod_lt_of_pos a hb
      have h8 : (a / b) * 1 ≥ (a / b) * b := Int.mul_le_mul_of_nonpos_left (by omega) (by omega)
      by_cases z : b = 1
      · subst z; simp
      · have h9 : (a / b + 1) * b ≤ (a / b + 1) * 1 := Int.mul_le_mul_of_nonpos_left (by omega) (by omega)
        rw [Int.add_mul, Int.mul_comm (a / b) b] at h9
        omega
  omega
theorem floorC {M : Mm} {a b : Int} {Q : Int64 → Mm → Prop} (ha : rgL a) (h0 : 0 < b) (hb : rgL b) (q : Q (jZ (a / b)) M) : wJ9_floorDiv_f86c9 (jZ a) (jZ b) Q M := by
  have z0 : rgL 0 := ⟨by decide, by decide⟩
  have e0 : (0 : Int64) = jZ 0 := rfl
  have hy : 0 < jZ b := by rw [e0, jZ_lt z0 hb]; exact h0
  have hn : ¬ jZ b = 0 := by rw [e0, jZ_eq hb z0]; omega
  unfold wJ9_floorDiv_f86c9
  rw [jZ_div ha h0 hb, jZ_mul]
  have ht := tdiv_rg ha h0
  refine ⟨hn, br_c (fun g => ?_) (fun g => br_c (fun z => ?_) (fun z => ?_))⟩
  · rw [xor_pos hy, e0, jZ_le z0 ha] at g
    rw [tdiv_fl_p g]; exact q
  · rw [xor_pos hy, e0, jZ_le z0 ha] at g
    have h1 := Int.tdiv_add_tmod a b
    have h2 : rgL (a.tdiv b * b) := by
      have h3 := Int.tmod_nonpos_of_nonpos (b := b) (show a ≤ 0 by omega)
      have h4 := Int.lt_tmod_of_pos a h0
      rw [Int.mul_comm] at h1
      unfold rgL at *
      have h5 : a.tdiv b ≤ 0 := Int.tdiv_nonpos_of_nonpos_of_neg' (by omega) (by omega)
      have h6 : a.tdiv b * b ≤ 0 := Int.mul_nonpos_of_nonpos_of_nonneg h5 (by omega)
      omega
    rw [jZ_eq h2 ha] at z
    rw [tdiv_fl_e h0 z]; exact q
  · rw [xor_pos hy, e0, jZ_le z0 ha] at g
    rw [show (1 : Int64) = jZ 1 from rfl, jZ_sub, tdiv_fl_n h0 (by omega) (fun w => z (by rw [w]))]
    exact q
theorem floorM {M : Mm} {a b : Int} {Q : Int64 → Mm → Prop} (ha : rgL a) (h0 : 0 < b) (hb : rgL b) (q : Q (jZ (a / b)) M) : wX7_whole (jZ a) (jZ b) Q M := by
  have z0 : rgL 0 := ⟨by decide, by decide⟩
  have e0 : (0 : Int64) = jZ 0 := rfl
  have hn : ¬ jZ b = 0 := by rw [e0, jZ_eq hb z0]; omega
  have h1 := Int.mul_tdiv_add_tmod a b
  have hr : rgL (a.tmod b) := by
    have h3 := Int.lt_tmod_of_pos a h0
    have h4 := Int.tmod_lt_of_pos a h0
    unfold rgL at *
    omega
  unfold wX7_whole
  have em : a - a.tdiv b * b = a.tmod b := by rw [Int.mul_comm]; omega
  rw [jZ_div ha h0 hb, jZ_mul, jZ_sub, em, e0]
  refine ⟨hn, hn, br_c (fun g => ?_) (fun g => ?_)⟩
  · rw [jZ_le z0 hr] at g
    by_cases s : 0 ≤ a
    · rw [tdiv_fl_p s]; exact q
    · have h3 := Int.tmod_nonpos_of_nonpos (b := b) (show a ≤ 0 by omega)
      rw [tdiv_fl_e h0 (by omega)]; exact q
  · rw [jZ_le z0 hr] at g
    have s : a < 0 := by
      apply Int.not_le.mp
      intro s
      exact g (Int.tmod_nonneg b s)
    rw [show (1 : Int64) = jZ 1 from rfl, jZ_sub, tdiv_fl_n h0 s (by omega)]
    exact q
