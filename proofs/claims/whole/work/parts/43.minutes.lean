/-! minutes -/
theorem which_2 {v : Int32} (h : inI v 0 2) : (v = 2 ∨ inI v 0 1) := by
  rcases cases3 h with rfl | rfl | rfl
  · exact Or.inr (by decide)
  · exact Or.inr (by decide)
  · exact Or.inl rfl
theorem ok_minutes {M : Mm} (a w : Int32) (h : Rel M) : okJ (wX6_minutes a w) (wX7_minutes a w) M := by
  unfold okJ wX6_minutes wX7_minutes
  refine isWithin_br 0 5 rfl rfl (fun c => within_n 0 5 rfl rfl c ⟨rfl, h⟩) (fun c => ?_)
  refine isWithin_br 0 2 rfl rfl (fun e => within_t 0 5 rfl rfl c (within_n 0 2 rfl rfl e ⟨rfl, h⟩)) (fun e => ?_)
  obtain ⟨hO, hS, n, k, hn, h14, h31, hQ, hP⟩ := id h
  rcases told_cases hP with ⟨h0, h1, h2⟩ | ⟨h1, h2, d, hd, hdn, hp, hba, hb, hg⟩
  · exact br_t h1 (within_t 0 5 rfl rfl c (within_t 0 2 rfl rfl e (br_t h2 ⟨rfl, h⟩)))
  have n1 : ¬ gi M 11 = 0 := by rw [h1]; decide
  have n2 : ¬ gi M 28 = 0 := by rw [h2]; decide
  obtain ⟨j, hj, rfl⟩ := inI_nI c (n := 5) rfl
  obtain ⟨r', hr, hr'⟩ := step_nat hb
  have hsd : 1 ≤ pS d ∧ pS d ≤ 11 := ⟨hd.1, hd.2.1⟩
  have e12 : gi M 12 = nI (pS d) := hp.2.2.1
  have e29 : gi M 29 = nI (pS d) := hp.2.2.2.1
  have e33 : gi M 33 = nI r' := hb.2.2.2.1.trans hr'
  refine br_f n1 (br_c (fun z => ?_) (fun z => ?_))
  · rcases Nat.eq_zero_or_pos r' with y | y
    · subst y
      have hs0 : ¬ gi M 12 = 0 := by rw [e12]; exact nI_ne0 (by omega) (by omega)
      unfold wX2_minutesAsTold
      refine br_t (by rw [e12]; exact nI_le (a := 1) hsd.1 (by omega)) (br_f (by rw [hr']; decide) ⟨hs0, within_t 0 5 rfl rfl c (within_t 0 2 rfl rfl e (br_f n2 (br_t z (br_t (by rw [e33]; decide) ⟨by rw [e29, ← e12]; exact hs0, ?_, h⟩))))⟩)
      rw [e12, e29]
    · refine mAT_ok e12 hr' hsd ⟨y, hr⟩ (within_t 0 5 rfl rfl c (within_t 0 2 rfl rfl e (br_f n2 (br_t z (br_f (by rw [e33]; exact nI_nle y (by omega)) ?_)))))
      rw [nI_1, e33]
      refine told_ok e29 hsd ⟨y, hr⟩ ⟨?_, h⟩
      rw [e12, e29, hr', hb.2.2.2.2.2]
  · have hw : inI w 0 1 := (which_2 e).resolve_left z
    have b1 : ((12 : Int32) * (nI j + 1)).toInt64 = jZ (12 * ((j : Int) + 1)) := by
      rw [nI_1, show (12 : Int32) = nI 12 from rfl, pk_mul, nI_l (by omega), jZ_N]; congr 1
    have b2 : (12 : Int64) * (nI j + 1).toInt64 = jZ (12 * ((j : Int) + 1)) := by
      rw [nI_1, nI_l (by omega), show (12 : Int64) = jZ 12 from rfl, jZ_N, jZ_mul]; congr 1
    have b3 : (gi M 12).toInt64 = jZ (pS d) := by rw [e12, nI_l (by omega), jZ_N]
    have b4 : (gi M 29).toInt64 = jZ (pS d) := by rw [e29, nI_l (by omega), jZ_N]
    have hs : rgS (12 * ((j : Int) + 1)) (pS d) := ⟨by omega, by omega, by omega, by omega⟩
    rw [b1, b3]
    refine shareC hs (within_t 0 5 rfl rfl c (within_t 0 2 rfl rfl e (br_f n2 (br_f z ?_))))
    rw [b2, b4]
    exact shareM hs (toldM ⟨rfl, h⟩)
